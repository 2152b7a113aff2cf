/-! what is read is fit to be worked out -/
def Wf (k : Nat → Bool) (b : Bool) (h : Nat) (D : List Nat) : Prop := ∀ T d, d + h ≤ 64 → sp_wf k D T d ∧ sp_dps D d = d + 1 ∧ sp_tps D T d d = b ∧ (∀ i, i < d → sp_tps D T d i = T i)
theorem wf_app {k : Nat → Bool} : ∀ (A B : List Nat) (T : Nat → Bool) (d : Nat), sp_wf k (A ++ B) T d ↔ sp_wf k A T d ∧ sp_wf k B (sp_tps A T d) (sp_dps A d) := by
  intro A
  induction A with
  | nil => intro B T d; exact ⟨fun h => ⟨trivial, h⟩, fun h => h.2⟩
  | cons a A ih =>
    intro B T d
    show (sp_ok k a T d ∧ sp_wf k (A ++ B) (sp_tp a T d) (sp_dp a d)) ↔ (sp_ok k a T d ∧ sp_wf k A (sp_tp a T d) (sp_dp a d)) ∧ _
    rw [ih, and_assoc]
    exact Iff.rfl
theorem dps_app : ∀ (A B : List Nat) (d : Nat), sp_dps (A ++ B) d = sp_dps B (sp_dps A d) := by
  intro A
  induction A with
  | nil => intro B d; rfl
  | cons a A ih => intro B d; exact ih B (sp_dp a d)
theorem tps_app : ∀ (A B : List Nat) (T : Nat → Bool) (d : Nat), sp_tps (A ++ B) T d = sp_tps B (sp_tps A T d) (sp_dps A d) := by
  intro A
  induction A with
  | nil => intro B T d; rfl
  | cons a A ih => intro B T d; exact ih B (sp_tp a T d) (sp_dp a d)
theorem Wf_mono {k : Nat → Bool} {b : Bool} {h h' : Nat} {D : List Nat} (w : Wf k b h D) (hh : h ≤ h') : Wf k b h' D := fun T d q => w T d (by omega)
theorem Wf_num {k : Nat → Bool} {v : Nat} (hv : v ≤ 9999) : Wf k false 1 [1000 + v] := by
  intro T d hd
  refine ⟨⟨?_, trivial⟩, ?_, ?_, fun i hi => ?_⟩
  · unfold sp_ok; rw [if_pos (by omega)]; omega
  · show sp_dp (1000 + v) d = d + 1
    unfold sp_dp; rw [if_pos (by omega)]
  · show sp_tp (1000 + v) T d d = false
    unfold sp_tp; rw [if_pos (by omega), sp_at]
  · show sp_tp (1000 + v) T d i = T i
    unfold sp_tp; rw [if_pos (by omega), sp_ne _ _ (by omega)]
theorem Wf_val {k : Nat → Bool} {q : Nat} (hq : q < 10) (hk : k q = true) : Wf k false 1 [40 + q] := by
  intro T d hd
  refine ⟨⟨?_, trivial⟩, ?_, ?_, fun i hi => ?_⟩
  · unfold sp_ok; rw [if_neg (by omega), if_neg (by omega), if_pos (by omega), show 40 + q - 40 = q by omega]
    exact ⟨by omega, hk, by omega⟩
  · show sp_dp (40 + q) d = d + 1
    unfold sp_dp; rw [if_neg (by omega), if_neg (by omega), if_pos (by omega)]
  · show sp_tp (40 + q) T d d = false
    unfold sp_tp; rw [if_neg (by omega), if_neg (by omega), if_pos (by omega), sp_at]
  · show sp_tp (40 + q) T d i = T i
    unfold sp_tp; rw [if_neg (by omega), if_neg (by omega), if_pos (by omega), sp_ne _ _ (by omega)]
theorem Wf_all {k : Nat → Bool} (hk : k 11 = true) : Wf k true 1 [13] := by
  intro T d hd
  refine ⟨⟨?_, trivial⟩, rfl, ?_, fun i hi => ?_⟩
  · unfold sp_ok
    rw [if_neg (by omega), if_neg (by omega), if_neg (by omega), if_pos rfl]
    exact ⟨hk, by omega⟩
  · show sp_up T d true d = true
    exact sp_at _ _ _
  · show sp_up T d true i = T i
    exact sp_ne _ _ (by omega)
theorem Wf_said {k : Nat → Bool} {h : Nat} {D : List Nat} (w : Wf k false h D) (hk : k 10 = true) : Wf k false h (D ++ [60]) := by
  intro T d hd
  obtain ⟨a1, a2, a3, a4⟩ := w T d hd
  rw [wf_app, dps_app, tps_app, a2]
  refine ⟨⟨a1, ⟨?_, trivial⟩⟩, ?_, ?_, fun i hi => ?_⟩
  · unfold sp_ok
    rw [if_neg (by omega), if_pos (by omega)]
    exact ⟨rfl, hk, by omega, a3⟩
  · rfl
  · show sp_up (sp_tps D T d) (d + 1 - 1) false d = false
    exact sp_at _ _ _
  · show sp_up (sp_tps D T d) (d + 1 - 1) false i = T i
    rw [sp_ne _ _ (by omega)]
    exact a4 i hi
theorem Wf_not {k : Nat → Bool} {h : Nat} {D : List Nat} (w : Wf k true h D) (hk : k 11 = true) : Wf k true h (D ++ [12]) := by
  intro T d hd
  obtain ⟨a1, a2, a3, a4⟩ := w T d hd
  rw [wf_app, dps_app, tps_app, a2]
  refine ⟨⟨a1, ⟨?_, trivial⟩⟩, ?_, ?_, fun i hi => ?_⟩
  · unfold sp_ok
    rw [if_neg (by omega), if_neg (by omega), if_neg (by omega), if_neg (by omega), if_pos rfl]
    exact ⟨hk, by omega, a3⟩
  · rfl
  · show sp_up (sp_tps D T d) (d + 1 - 1) true d = true
    exact sp_at _ _ _
  · show sp_up (sp_tps D T d) (d + 1 - 1) true i = T i
    rw [sp_ne _ _ (by omega)]
    exact a4 i hi
theorem Wf_bin {k : Nat → Bool} {h1 h2 op : Nat} {D1 D2 : List Nat} (ho : 1 ≤ op ∧ op ≤ 11) (w1 : Wf k (decide (10 ≤ op)) h1 D1) (w2 : Wf k (decide (10 ≤ op)) h2 D2) {h : Nat} (hh1 : h1 ≤ h) (hh2 : h2 + 1 ≤ h) : Wf k (decide (7 ≤ op)) h (D1 ++ (D2 ++ [op])) := by
  intro T d hd
  obtain ⟨a1, a2, a3, a4⟩ := w1 T d (by omega)
  obtain ⟨b1, b2, b3, b4⟩ := w2 (sp_tps D1 T d) (d + 1) (by omega)
  rw [wf_app, wf_app, dps_app, dps_app, tps_app, tps_app, a2, b2]
  refine ⟨⟨a1, b1, ⟨?_, trivial⟩⟩, ?_, ?_, fun i hi => ?_⟩
  · unfold sp_ok
    rw [if_neg (by omega), if_neg (by omega), if_neg (by omega), if_neg (by omega), if_neg (by omega)]
    refine ⟨ho.1, ho.2, by omega, b3, ?_⟩
    show sp_tps D2 (sp_tps D1 T d) (d + 1) (d + 1 + 1 - 2) = _
    rw [show d + 1 + 1 - 2 = d by omega, b4 d (by omega)]
    exact a3
  · show sp_dp op (d + 1 + 1) = d + 1
    unfold sp_dp
    rw [if_neg (by omega), if_neg (by omega), if_neg (by omega), if_neg (by omega), if_neg (by omega)]
    omega
  · show sp_tp op (sp_tps D2 (sp_tps D1 T d) (d + 1)) (d + 1 + 1) d = _
    unfold sp_tp
    rw [if_neg (by omega), if_neg (by omega), if_neg (by omega), if_neg (by omega), if_neg (by omega), show d + 1 + 1 - 2 = d by omega, sp_at]
  · show sp_tp op (sp_tps D2 (sp_tps D1 T d) (d + 1)) (d + 1 + 1) i = _
    unfold sp_tp
    rw [if_neg (by omega), if_neg (by omega), if_neg (by omega), if_neg (by omega), if_neg (by omega), sp_ne _ _ (by omega), b4 i (by omega)]
    exact a4 i hi
theorem good_of {k : Nat → Bool} {b : Bool} {h : Nat} {D : List Nat} (w : Wf k b h D) (hh : h ≤ 64) : good k b D := by
  obtain ⟨a1, a2, a3, _⟩ := w (fun _ => false) 0 (by omega)
  exact ⟨a1, a2, a3⟩
/-- the code has grown by what is fit -/
def Gw (k : Nat → Bool) (b : Bool) (h : Nat) (y y' : Yr) : Prop := ∀ x', y' = .inr x' → ∃ x D, y = .inr x ∧ x'.2.2 = x.2.2 ++ D ∧ Wf k b h D
section
variable {β : Nat → Int32} {E kd : Nat} {k : Nat → Bool}
/-- no change of the code -/
def Ns (y y' : Yr) : Prop := ∀ x', y' = .inr x' → ∃ x, y = .inr x ∧ x'.2.2 = x.2.2
theorem Ns_ad {y : Yr} : Ns y (yad β E y) := by
  intro x' e
  cases y with
  | inl e' => cases e
  | inr x => exact ⟨x, rfl, by rw [← Sum.inr.inj e]⟩
theorem Ns_tS {c : Int32} {y : Yr} : Ns y (ytS β E c y) := by
  intro x' e
  unfold ytS at e
  by_cases z : yS β E c y = true
  · rw [if_pos z] at e; exact Ns_ad x' e
  · rw [if_neg z] at e
    cases y <;> cases e
theorem Gw_ns {b : Bool} {h : Nat} {y y1 y2 : Yr} (h1 : Gw k b h y y1) (h2 : Ns y1 y2) : Gw k b h y y2 := by
  intro x2 e2
  obtain ⟨x1, e1, q1⟩ := h2 x2 e2
  obtain ⟨x, D, e, q, w⟩ := h1 x1 e1
  exact ⟨x, D, e, by rw [q1, q], w⟩
theorem ns_Gw {b : Bool} {h : Nat} {y y1 y2 : Yr} (h1 : Ns y y1) (h2 : Gw k b h y1 y2) : Gw k b h y y2 := by
  intro x2 e2
  obtain ⟨x1, D, e1, q1, w⟩ := h2 x2 e2
  obtain ⟨x, e, q⟩ := h1 x1 e1
  exact ⟨x, D, e, by rw [q1, q], w⟩
theorem Gw_fail {b : Bool} {h c : Nat} {y y0 : Yr} : Gw k b h y0 (yfail β E c y) := by
  intro x2 e2
  cases y <;> cases e2
theorem Gw_mono {b : Bool} {h h' : Nat} {y y' : Yr} (q : Gw k b h y y') (hh : h ≤ h') : Gw k b h' y y' := by
  intro x' e
  obtain ⟨x, D, e1, e2, w⟩ := q x' e
  exact ⟨x, D, e1, e2, Wf_mono w hh⟩
theorem Gw_put {b b' : Bool} {h h' c : Nat} {y y' : Yr} (q : Gw k b h y y') (hw : ∀ D, Wf k b h D → Wf k b' h' (D ++ [c])) : Gw k b' h' y (yput c y') := by
  intro x2 e2
  cases y' with
  | inl e => cases e2
  | inr x1 =>
    have : x2 = (x1.1, x1.2.1, x1.2.2 ++ [c]) := (Sum.inr.inj e2).symm
    subst this
    obtain ⟨x, D, e, q1, w⟩ := q x1 rfl
    exact ⟨x, D ++ [c], e, by show x1.2.2 ++ [c] = _; rw [q1, List.append_assoc], hw D w⟩
/-- two, and what joins them -/
theorem Gw_bin {h1 h2 h op : Nat} {y y1 y2 y3 : Yr} (ho : 1 ≤ op ∧ op ≤ 11) (q1 : Gw k (decide (10 ≤ op)) h1 y y1) (qn : Ns y1 y2) (q2 : Gw k (decide (10 ≤ op)) h2 y2 y3) (hh1 : h1 ≤ h) (hh2 : h2 + 1 ≤ h) : Gw k (decide (7 ≤ op)) h y (yput op y3) := by
  intro x4 e4
  cases y3 with
  | inl e => cases e4
  | inr x3 =>
    have : x4 = (x3.1, x3.2.1, x3.2.2 ++ [op]) := (Sum.inr.inj e4).symm
    subst this
    obtain ⟨x2, D2, e2, p2, w2⟩ := q2 x3 rfl
    obtain ⟨x1, e1, p1⟩ := qn x2 e2
    obtain ⟨x, D1, e, p, w1⟩ := q1 x1 e1
    refine ⟨x, D1 ++ (D2 ++ [op]), e, ?_, Wf_bin ho w1 w2 hh1 hh2⟩
    show x3.2.2 ++ [op] = _
    rw [p2, p1, p]
    simp only [List.append_assoc]
theorem Gw_lp {a b : Int32} {ca cb h : Nat} {r : Yr → Yr} {y : Yr} (hca : 1 ≤ ca ∧ ca ≤ 4) (hcb : 1 ≤ cb ∧ cb ≤ 4) (hr : ∀ y, Gw k false h y (r y)) : ∀ j y1, Gw k false (h + 1) y y1 → Gw k false (h + 1) y (yLp β E a b ca cb r j y1) := by
  intro j
  induction j with
  | zero => intro y1 q; exact q
  | succ j ih =>
    intro y1 q
    unfold yLp
    by_cases z : yS β E a y1 = true ∨ yS β E b y1 = true
    · rw [if_pos z]
      refine ih _ ?_
      have key : ∀ op, (1 ≤ op ∧ op ≤ 4) → Gw k false (h + 1) y (yput op (r (yad β E y1))) := by
        intro op hop
        have e1 : decide (10 ≤ op) = false := decide_eq_false (by omega)
        have e2 : decide (7 ≤ op) = false := decide_eq_false (by omega)
        have := Gw_bin (k := k) (h1 := h + 1) (h2 := h) (h := h + 1) (op := op) (by omega) (by rw [e1]; exact q) (Ns_ad (β := β) (E := E)) (by rw [e1]; exact hr _) (Nat.le_refl _) (Nat.le_refl _)
        rw [e2] at this
        exact this
      split
      · exact key ca hca
      · exact key cb hcb
    · rw [if_neg z]; exact q
theorem Gw_num {y : Yr} (h : yK β E y = 2) : Gw k false 1 y (yput (1000 + yval β E y) (ytN β E 0 9999 y)) := by
  intro x' e
  cases y with
  | inl e' => cases e
  | inr x =>
    have hk : tkK β E x.1 x.2.1 = 2 := h
    obtain ⟨v1, v2, v, v3, v4⟩ := tkV_2 hk
    have hv : yval β E (.inr x) = v := by
      show (tkV β E x.1).toNatClampNeg = v
      rw [v3, n_nat (by omega)]
    rw [hv] at e
    have eN : ytN β E 0 9999 (.inr x) = (if tkN β E x.1 ≤ 4 then (if (tkV β E x.1).toNatClampNeg < 0 ∨ 9999 < (tkV β E x.1).toNatClampNeg then .inl (2, sk β E x.1) else yad β E (.inr x)) else .inl (1, sk β E x.1 + 4)) := if_pos hk
    rw [eN] at e
    by_cases z : tkN β E x.1 ≤ 4
    · rw [if_pos z] at e
      by_cases z2 : (tkV β E x.1).toNatClampNeg < 0 ∨ 9999 < (tkV β E x.1).toNatClampNeg
      · rw [if_pos z2] at e; cases e
      · rw [if_neg z2] at e
        exact ⟨x, [1000 + v], rfl, by rw [← Sum.inr.inj e], Wf_num (by omega)⟩
    · rw [if_neg z] at e; cases e
theorem Gw_val {q : Nat} {y : Yr} (hq : q < 10) (hk : k q = true) : Gw k false 1 y (yad β E (yput (40 + q) y)) := by
  intro x' e
  cases y with
  | inl e' => cases e
  | inr x => exact ⟨x, [40 + q], rfl, by rw [← Sum.inr.inj e], Wf_val hq hk⟩
theorem okq_of {r : Option Nat} {q : Nat} (h : vq kd r = some q) : q < 10 ∧ okq kd q = true := by
  cases r with
  | none => cases h
  | some w =>
    have hw := vq_wq h
    refine ⟨(wq_wd hw).1, ?_⟩
    have h' : (wq w).bind (fun q => if okq kd q = true then some q else none) = some q := h
    rw [hw] at h'
    have h2 : (if okq kd q = true then some q else none) = some q := h'
    by_cases z : okq kd q = true
    · exact z
    · rw [if_neg z] at h2; cases h2
theorem PA_wf (hk : ∀ q, q < 10 → okq kd q = true → k q = true) (hk2 : kd = 2 → k 10 = true) : ∀ n idx sg o y, o ≤ 6 → 4 * (7 - o) ≤ n + min idx 3 → (idx = 4 → sg = 5 ∨ sg = 6) → (5 ≤ idx → kd = 2) → Gw k false (if idx = 0 then 3 + 3 * (6 - o) else if idx = 1 then 2 + 3 * (6 - o) else 1 + 3 * (6 - o)) y (PA β E kd n idx sg o y) := by
  intro n
  induction n with
  | zero => intro idx sg o y ho hn; omega
  | succ n ih =>
    intro idx sg o y ho hn hs h5
    have i0 : ∀ y, o < 6 → Gw k false (3 + 3 * (5 - o)) y (PA β E kd n 0 0 (o + 1) y) := fun y h6 => by
      have := ih 0 0 (o + 1) y (by omega) (by omega) (by omega) (by omega)
      rw [if_pos rfl, show 6 - (o + 1) = 5 - o by omega] at this
      exact this
    have said : 5 ≤ idx → Gw k false (1 + 3 * (6 - o)) y (ySaB β E (PA β E kd n) o y) := by
      intro hi
      unfold ySaB
      split
      · next h6 =>
        have := ih 2 0 (o + 1) (yad β E y) (by omega) (by omega) (by omega) (by omega)
        rw [if_neg (by omega), if_neg (by omega)] at this
        exact Gw_mono (Gw_put (ns_Gw Ns_ad this) (fun D w => Wf_said w (hk2 (h5 hi)))) (by omega)
      · exact Gw_fail
    match idx with
    | 0 =>
      rw [if_pos rfl]
      have hr : ∀ y, Gw k false (2 + 3 * (6 - o)) y (PA β E kd n 1 0 o y) := fun y => by
        have := ih 1 0 o y ho (by omega) (by omega) (by omega)
        rw [if_neg (by omega), if_pos rfl] at this
        exact this
      have := Gw_lp (β := β) (E := E) (a := 43) (b := 45) (ca := 1) (cb := 2) (y := y) (by omega) (by omega) hr 1600 _ (Gw_mono (hr y) (by omega))
      exact Gw_mono this (by omega)
    | 1 =>
      rw [if_neg (by omega), if_pos rfl]
      have hr : ∀ y, Gw k false (1 + 3 * (6 - o)) y (PA β E kd n 2 0 o y) := fun y => by
        have := ih 2 0 o y ho (by omega) (by omega) (by omega)
        rw [if_neg (by omega), if_neg (by omega)] at this
        exact this
      have := Gw_lp (β := β) (E := E) (a := 42) (b := 47) (ca := 3) (cb := 4) (y := y) (by omega) (by omega) hr 1600 _ (Gw_mono (hr y) (by omega))
      exact Gw_mono this (by omega)
    | 2 =>
      rw [if_neg (by omega), if_neg (by omega)]
      show Gw k false _ y (yPartB β E kd (PA β E kd n) o y)
      have sub : ∀ idx sg, 3 ≤ idx → (idx = 4 → sg = 5 ∨ sg = 6) → (5 ≤ idx → kd = 2) → Gw k false (1 + 3 * (6 - o)) y (PA β E kd n idx sg o y) := by
        intro idx sg h3 h4 h55
        have := ih idx sg o y ho (by omega) h4 h55
        rw [if_neg (by omega), if_neg (by omega)] at this
        exact this
      unfold yPartB
      split
      · next z => exact Gw_mono (Gw_num z) (by omega)
      · split
        · exact sub 3 0 (by omega) (by omega) (by omega)
        · split
          · exact sub 4 5 (by omega) (by omega) (by omega)
          · split
            · exact sub 4 6 (by omega) (by omega) (by omega)
            · split
              · next z => exact sub 5 0 (by omega) (by omega) (fun _ => z.1)
              · cases hv : vq kd (yI β E y) with
                | none => exact Gw_fail
                | some q =>
                  obtain ⟨q1, q2⟩ := okq_of hv
                  exact Gw_mono (Gw_val q1 (hk q q1 q2)) (by omega)
    | 3 =>
      rw [if_neg (by omega), if_neg (by omega)]
      show Gw k false _ y (yOpB β E (PA β E kd n) o y)
      unfold yOpB
      split
      · next h6 => exact Gw_mono (Gw_ns (ns_Gw Ns_ad (i0 _ h6)) Ns_tS) (by omega)
      · exact Gw_fail
    | 4 =>
      rw [if_neg (by omega), if_neg (by omega)]
      show Gw k false _ y (yPrB β E (PA β E kd n) sg o y)
      have hsg := hs rfl
      unfold yPrB
      split
      · split
        · next h6 =>
          have e1 : decide (10 ≤ sg) = false := decide_eq_false (by omega)
          have e2 : decide (7 ≤ sg) = false := decide_eq_false (by omega)
          have A := ns_Gw (Ns_ad (β := β) (E := E) (y := y)) (ns_Gw (Ns_ad (β := β) (E := E)) (i0 (yad β E (yad β E y)) h6))
          have B := Gw_ns (i0 (ytS β E 44 (PA β E kd n 0 0 (o + 1) (yad β E (yad β E y)))) h6) (Ns_tS (β := β) (E := E) (c := 41))
          have := Gw_bin (k := k) (op := sg) (h := 1 + 3 * (6 - o)) (by omega) (by rw [e1]; exact A) (Ns_tS (β := β) (E := E) (c := 44)) (by rw [e1]; exact B) (by omega) (by omega)
          rw [e2] at this
          exact this
        · exact Gw_fail
      · exact Gw_fail
    | 5 =>
      rw [if_neg (by omega), if_neg (by omega)]
      exact said (by omega)
    | j + 6 =>
      rw [if_neg (by omega), if_neg (by omega)]
      exact said (by omega)
theorem Gw_lw {w c h : Nat} {r : Yr → Yr} {y : Yr} (hc : c = 10 ∨ c = 11) (hr : ∀ y, Gw k true h y (r y)) : ∀ j y1, Gw k true (h + 1) y y1 → Gw k true (h + 1) y (yLw β E w c r j y1) := by
  intro j
  induction j with
  | zero => intro y1 q; exact q
  | succ j ih =>
    intro y1 q
    unfold yLw
    by_cases z : yI β E y1 = some w
    · rw [if_pos z]
      refine ih _ ?_
      have e1 : decide (10 ≤ c) = true := decide_eq_true (by omega)
      have e2 : decide (7 ≤ c) = true := decide_eq_true (by omega)
      have := Gw_bin (k := k) (h1 := h + 1) (h2 := h) (h := h + 1) (op := c) (by omega) (by rw [e1]; exact q) (Ns_ad (β := β) (E := E)) (by rw [e1]; exact hr _) (Nat.le_refl _) (Nat.le_refl _)
      rw [e2] at this
      exact this
    · rw [if_neg z]; exact q
theorem TQ_wf (hk : ∀ q, q < 10 → okq 2 q = true → k q = true) (hk2 : k 10 = true) (hk3 : k 11 = true) : ∀ n idx o y, o ≤ 6 → 3 * (7 - o) ≤ n + min idx 2 → Gw k true (if idx = 0 then 6 + 3 * (6 - o) else if idx = 1 then 5 + 3 * (6 - o) else 4 + 3 * (6 - o)) y (TQ β E n idx o y) := by
  intro n
  induction n with
  | zero => intro idx o y ho hn; omega
  | succ n ih =>
    intro idx o y ho hn
    have fact : 2 ≤ idx → Gw k true (4 + 3 * (6 - o)) y (yFaB β E (TQ β E n) o y) := by
      intro hi
      have cmp : Gw k true (4 + 3 * (6 - o)) y (yCmp β E o (PA β E 2 64 0 0 o y)) := by
        have hs : ∀ y, Gw k false (3 + 3 * (6 - o)) y (PA β E 2 64 0 0 o y) := fun y => by
          have := PA_wf (β := β) (E := E) (kd := 2) hk (fun _ => hk2) 64 0 0 o y ho (by omega) (by omega) (by omega)
          rw [if_pos rfl] at this
          exact this
        have key : ∀ op, op = 7 ∨ op = 8 ∨ op = 9 → Gw k true (4 + 3 * (6 - o)) y (yput op (PA β E 2 64 0 0 o (yad β E (PA β E 2 64 0 0 o y)))) := by
          intro op hop
          have e1 : decide (10 ≤ op) = false := decide_eq_false (by omega)
          have e2 : decide (7 ≤ op) = true := decide_eq_true (by omega)
          have := Gw_bin (k := k) (h := 4 + 3 * (6 - o)) (op := op) (by omega) (by rw [e1]; exact hs y) (Ns_ad (β := β) (E := E)) (by rw [e1]; exact hs _) (by omega) (by omega)
          rw [e2] at this
          exact this
        unfold yCmp
        split
        · exact key 7 (by omega)
        · split
          · exact key 8 (by omega)
          · split
            · exact key 9 (by omega)
            · exact Gw_fail
      unfold yFaB
      split
      · split
        · next h6 =>
          have := ih 2 (o + 1) (yad β E y) (by omega) (by omega)
          rw [if_neg (by omega), if_neg (by omega)] at this
          exact Gw_mono (Gw_put (ns_Gw Ns_ad this) (fun D w => Wf_not w hk3)) (by omega)
        · exact Gw_fail
      · split
        · split
          · next h6 =>
            have := ih 0 (o + 1) (yad β E y) (by omega) (by omega)
            rw [if_pos rfl] at this
            exact Gw_mono (Gw_ns (ns_Gw Ns_ad this) Ns_tS) (by omega)
          · exact Gw_fail
        · split
          · intro x' e
            cases y with
            | inl e' => cases e
            | inr x => exact ⟨x, [13], rfl, by rw [← Sum.inr.inj e], Wf_mono (Wf_all hk3) (by omega)⟩
          · exact cmp
    match idx with
    | 0 =>
      rw [if_pos rfl]
      have hr : ∀ y, Gw k true (5 + 3 * (6 - o)) y (TQ β E n 1 o y) := fun y => by
        have := ih 1 o y ho (by omega)
        rw [if_neg (by omega), if_pos rfl] at this
        exact this
      have := Gw_lw (β := β) (E := E) (w := 17) (c := 11) (y := y) (by omega) hr 1600 _ (Gw_mono (hr y) (by omega))
      exact Gw_mono this (by omega)
    | 1 =>
      rw [if_neg (by omega), if_pos rfl]
      have hr : ∀ y, Gw k true (4 + 3 * (6 - o)) y (TQ β E n 2 o y) := fun y => by
        have := ih 2 o y ho (by omega)
        rw [if_neg (by omega), if_neg (by omega)] at this
        exact this
      have := Gw_lw (β := β) (E := E) (w := 18) (c := 10) (y := y) (by omega) hr 1600 _ (Gw_mono (hr y) (by omega))
      exact Gw_mono this (by omega)
    | j + 2 =>
      rw [if_neg (by omega), if_neg (by omega)]
      exact fact (by omega)
/-- from an empty code: what sums and tests read is good -/
theorem sum_good {x x' : Nat × Bool × List Nat} (hk : ∀ q, q < 10 → okq kd q = true → k q = true) (hk2 : kd = 2 → k 10 = true) (hx : x.2.2 = []) (h : PA β E kd 64 0 0 0 (.inr x) = .inr x') : good k false x'.2.2 := by
  obtain ⟨x0, D, e, q, w⟩ := PA_wf (β := β) (E := E) hk hk2 64 0 0 0 (.inr x) (by omega) (by omega) (by omega) (by omega) x' h
  cases e
  rw [q, hx]
  exact good_of w (by decide)
theorem test_good {x x' : Nat × Bool × List Nat} (hk : ∀ q, q < 10 → okq 2 q = true → k q = true) (hk2 : k 10 = true) (hk3 : k 11 = true) (hx : x.2.2 = []) (h : TQ β E 64 0 0 (.inr x) = .inr x') : good k true x'.2.2 := by
  obtain ⟨x0, D, e, q, w⟩ := TQ_wf (β := β) (E := E) hk hk2 hk3 64 0 0 (.inr x) (by omega) (by omega) x' h
  cases e
  rw [q, hx]
  exact good_of w (by decide)
end
