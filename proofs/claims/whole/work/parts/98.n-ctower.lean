/-! TOWERS and yes, as they should be told -/
abbrev sp_A : Type := Nat × (Nat → Nat → Int32) × (Nat → Int32) × (Nat → Int32) × (Nat → Bool)
def yMo (β : Nat → Int32) (E : Nat) (x : Nat × Bool × List Nat) : Yr := ytW β E 2 (yad β E (.inr x))
def yCh (β : Nat → Int32) (E : Nat) (x : Nat × Bool × List Nat) : Yr := ytW β E 3 (ytN β E 0 9 (yMo β E x))
def yTow (β : Nat → Int32) (E : Nat) (A : sp_A) (x : Nat × Bool × List Nat) : Yr := match yNm β E x with
  | .inl e => .inl e
  | .inr _ => match fnd A.1 A.2.1 (nmL β E x.1) with
    | some _ => .inl (3, sk β E x.1)
    | none => ytN β E 0 9 (yCh β E x)
def aTow (β : Nat → Int32) (E : Nat) (A : sp_A) (x : Nat × Bool × List Nat) : sp_A := (A.1 + 1, sp_up A.2.1 A.1 (nmL β E x.1), sp_up A.2.2.1 A.1 (Int32.ofNat (yval β E (yMo β E x))), sp_up A.2.2.2.1 A.1 (Int32.ofNat (yval β E (yCh β E x))), sp_up A.2.2.2.2 A.1 false)
def yYes (β : Nat → Int32) (E : Nat) (A : sp_A) (x : Nat × Bool × List Nat) : Yr := match yNm β E x with
  | .inl e => .inl e
  | .inr _ => match fnd A.1 A.2.1 (nmL β E x.1) with
    | none => .inl (3, sk β E x.1)
    | some t => if A.2.2.2.2 t = true then .inl (3, sk β E x.1) else yad β E (.inr x)
def aYes (β : Nat → Int32) (E : Nat) (A : sp_A) (x : Nat × Bool × List Nat) : sp_A := (A.1, A.2.1, A.2.2.1, A.2.2.2.1, (fnd A.1 A.2.1 (nmL β E x.1)).elim A.2.2.2.2 (fun t => sp_up A.2.2.2.2 t true))
/-- they lie in the class so -/
def CQA (o : Nat) (m : ev_M) (A : sp_A) : Prop := A.1 ≤ 8 ∧ m.1 o 5 = Int32.ofNat A.1 ∧ (∀ t k, t < A.1 → k < 6 → m.1 (o + 1) (6 * t + k) = A.2.1 t k) ∧ (∀ t, t < A.1 → m.1 (o + 2) t = A.2.2.1 t ∧ m.1 (o + 3) t = A.2.2.2.1 t) ∧ ∃ yb, m.1 o 6 = Int32.ofNat yb ∧ yb < 2 ^ A.1 ∧ ∀ t, t < A.1 → bt (Int32.ofNat yb) t = if A.2.2.2.2 t = true then 1 else 0
def CGo (o : Nat) (m : ev_M) : Prop := ∀ t, t < 8 → g9 (m.1 (o + 2) t) ∧ g9 (m.1 (o + 3) t)
theorem CQA_fr {o : Nat} {m m' : ev_M} {A : sp_A} (h : CQA o m A) (h5 : m'.1 o 5 = m.1 o 5) (h6 : m'.1 o 6 = m.1 o 6) (hr : ∀ a k, o + 1 ≤ a → a ≤ o + 3 → m'.1 a k = m.1 a k) : CQA o m' A := by
  obtain ⟨a1, a2, a3, a4, yb, a5, a6, a7⟩ := h
  exact ⟨a1, h5.trans a2, fun t k u1 u2 => by rw [hr _ _ (by omega) (by omega)]; exact a3 t k u1 u2, fun t u => by rw [hr _ _ (by omega) (by omega), hr _ _ (by omega) (by omega)]; exact a4 t u, yb, h6.trans a5, a6, a7⟩
theorem CGo_fr {o : Nat} {m m' : ev_M} (h : CGo o m) (hr : ∀ a k, o + 2 ≤ a → a ≤ o + 3 → m'.1 a k = m.1 a k) : CGo o m' := fun t ht => by
  rw [hr _ _ (by omega) (by omega), hr _ _ (by omega) (by omega)]; exact h t ht
theorem CGo_up2 {o T : Nat} {v : Int32} {I : Nat → Nat → Int32} {L : Nat → Nat → Int64} (h : CGo o (I, L)) (hv : g9 v) : CGo o (ev_up I (o + 2) T v, L) := fun t ht => by
  refine ⟨?_, by rw [upI_na _ _ _ _ (by omega)]; exact (h t ht).2⟩
  show g9 (ev_up I (o + 2) T v (o + 2) t)
  rw [ev_up_at]
  split
  · exact hv
  · exact (h t ht).1
theorem CGo_up3 {o T : Nat} {v : Int32} {I : Nat → Nat → Int32} {L : Nat → Nat → Int64} (h : CGo o (I, L)) (hv : g9 v) : CGo o (ev_up I (o + 3) T v, L) := fun t ht => by
  refine ⟨by rw [upI_na _ _ _ _ (by omega)]; exact (h t ht).1, ?_⟩
  show g9 (ev_up I (o + 3) T v (o + 3) t)
  rw [ev_up_at]
  split
  · exact hv
  · exact (h t ht).2
section
variable {f E : Nat} {β : Nat → Int32}
theorem W_right {k : Nat} {y : Yr} (h : (ytW β E k y).isRight = true) : y.isRight = true := by
  cases y with
  | inl e =>
    unfold ytW at h
    rw [if_neg (show ¬ yI β E (.inl e) = some k from fun q => by cases q)] at h
    cases h
  | inr x => rfl
theorem N_right {lo hi : Nat} {y : Yr} (h : (ytN β E lo hi y).isRight = true) : y.isRight = true := by
  cases y with
  | inl e => cases h
  | inr x => rfl
theorem S_right {c : Int32} {y : Yr} (h : (ytS β E c y).isRight = true) : y.isRight = true := by
  cases y with
  | inl e =>
    unfold ytS at h
    rw [if_neg (show ¬ yS β E c (.inl e) = true from fun q => by cases q)] at h
    cases h
  | inr x => rfl
theorem N_le {lo hi : Nat} {y : Yr} (h : (ytN β E lo hi y).isRight = true) : lo ≤ yval β E y ∧ yval β E y ≤ hi := by
  cases y with
  | inl e => cases h
  | inr x =>
    have h' : ((if tkK β E x.1 x.2.1 = 2 then (if tkN β E x.1 ≤ 4 then (if (tkV β E x.1).toNatClampNeg < lo ∨ hi < (tkV β E x.1).toNatClampNeg then .inl (2, sk β E x.1) else yad β E (.inr x)) else .inl (1, sk β E x.1 + 4)) else .inl (1, sk β E x.1)) : Yr).isRight = true := h
    show lo ≤ (tkV β E x.1).toNatClampNeg ∧ (tkV β E x.1).toNatClampNeg ≤ hi
    by_cases z1 : tkK β E x.1 x.2.1 = 2
    · rw [if_pos z1] at h'
      by_cases z2 : tkN β E x.1 ≤ 4
      · rw [if_pos z2] at h'
        by_cases z3 : (tkV β E x.1).toNatClampNeg < lo ∨ hi < (tkV β E x.1).toNatClampNeg
        · rw [if_pos z3] at h'; cases h'
        · omega
      · rw [if_neg z2] at h'; cases h'
    · rw [if_neg z1] at h'; cases h'
theorem g9_N {hi : Nat} {y : Yr} (hh : hi ≤ 9) : g9 (if (ytN β E 0 hi y).isRight = true then Int32.ofNat (yval β E y) else Int32.ofNat 0) := by
  split
  · next z =>
    have := N_le z
    unfold g9
    rw [n_int (by omega)]
    omega
  · unfold g9; decide
theorem c_towL {m0 : ev_M} {o p T : Nat} {w : Bool} {kf : ev_M → Option (Unit × ev_M)} (ho : o = 1 ∨ o = 7) (h : CT β E m0 p w) (hT : T < 8) (h5 : m0.1 o 5 = Int32.ofNat T) : ∀ (j k n : Nat) (m : ev_M), k + j = 6 → j < n → (∀ a, a ≠ o + 1 → m.1 a = m0.1 a) → (∀ i, i < k → m.1 (o + 1) (6 * T + i) = nmL β E p i) → (∀ q, (∀ i, i < 6 → q ≠ 6 * T + i) → m.1 (o + 1) q = m0.1 (o + 1) q) →
    ∃ m', FX1_readTower_L38 f kf o n (Int32.ofNat k) m = kf m' ∧ (∀ a, a ≠ o + 1 → m'.1 a = m0.1 a) ∧ (∀ i, i < 6 → m'.1 (o + 1) (6 * T + i) = nmL β E p i) ∧ (∀ q, (∀ i, i < 6 → q ≠ 6 * T + i) → m'.1 (o + 1) q = m0.1 (o + 1) q) := by
  intro j
  induction j with
  | zero =>
    intro k n m h1 h2 q1 q2 q3
    obtain ⟨n, rfl⟩ : ∃ z, n = z + 1 := ⟨n - 1, by omega⟩
    have : k = 6 := by omega
    subst this
    rw [FX1_readTower_L38, if_pos (by decide)]
    exact ⟨m, rfl, q1, q2, q3⟩
  | succ j ih =>
    intro k n m h1 h2 q1 q2 q3
    obtain ⟨n, rfl⟩ : ∃ z, n = z + 1 := ⟨n - 1, by omega⟩
    have hc : CT β E m p w := CT_fr h (fun a k z => by rw [q1 a (by omega)])
    have h5m : m.1 o 5 = Int32.ofNat T := by rw [q1 o (by omega)]; exact h5
    rw [FX1_readTower_L38, if_neg (fun q => by rw [show (6 : Int32) = Int32.ofNat 6 from rfl, n_le (by omega) (by omega)] at q; omega), c_letter hc (by omega), bd_some, h5m, show (Int32.ofNat T * 6) + Int32.ofNat k = Int32.ofNat (6 * T + k) from by rw [show (6 : Int32) = Int32.ofNat 6 from rfl, n_mul, n_add]; congr 1; omega, if_pos ((n_in (by omega)).mpr (by omega)), n_nat (by omega), s_1]
    refine ih (k + 1) n _ (by omega) (by omega) (fun a ha => (upI_na _ _ _ _ ha).trans (q1 a ha)) ?_ ?_
    · intro i hi
      by_cases e : i = k
      · subst e; rw [upI_at]
      · rw [upI_nk _ _ _ _ (by omega)]; exact q2 i (by omega)
    · intro q hq
      rw [upI_nk _ _ _ _ (hq k (by omega))]; exact q3 q hq
theorem CG_fr13 {o : Nat} {m m' : ev_M} (ho : o = 1 ∨ o = 7) (h : CGo o m) (hr : ∀ a k, a ≠ 13 → m'.1 a k = m.1 a k) : CGo o m' := CGo_fr h (fun a k _ _ => hr a k (by omega))
set_option maxHeartbeats 4000000 in
theorem c_tower {o : Nat} {m : ev_M} {x : Nat × Bool × List Nat} {A : sp_A} (hf : 4000 ≤ f) (ho : o = 1 ∨ o = 7) (h : YC β E m (.inr x)) (hA : CQA o m A) (hT : A.1 < 8) (hG : CGo o m) : ∃ m', FX1_readTower f o m = some ((), m') ∧ YC β E m' (yTow β E A x) ∧ CGo o m' ∧ ((yTow β E A x).isRight = true → CQA o m' (aTow β E A x)) := by
  obtain ⟨m2, r1, r2⟩ := c_check (f := f) h
  have f2 : ∀ a k, a ≠ 13 → m2.1 a k = m.1 a k := fun a k z => (MDX10_checkName r1 a k (by unfold mdX10_checkName; omega)).1
  have hA2 : CQA o m2 A := CQA_fr hA (f2 _ _ (by omega)) (f2 _ _ (by omega)) (fun a k _ _ => f2 _ _ (by omega))
  have hG2 : CGo o m2 := CG_fr13 ho hG f2
  unfold FX1_readTower
  rw [r1, bd_some]
  cases hy : yNm β E x with
  | inl e =>
    have eT : yTow β E A x = .inl e := by unfold yTow; rw [hy]
    rw [hy] at r2
    rw [show (Sum.inl e : Yr).isRight = false from rfl, if_neg (show ¬ false = true by decide), if_pos rfl, eT]
    exact ⟨m2, rfl, r2, hG2, fun q => by cases q⟩
  | inr x' =>
    obtain ⟨ex, k1, n6, o0⟩ := yNm_r hy
    subst ex
    rw [hy] at r2
    have hc2 : CT β E m2 x'.1 x'.2.1 := r2
    rw [show (Sum.inr x' : Yr).isRight = true from rfl, if_pos rfl, if_neg n10, hA2.2.1, if_pos (show Int32.ofNat A.1 < 8 from (n_lt (b := 8) (by omega) (by omega)).mpr hT), c_find hf hc2 hA2.1 hA2.2.1 hA2.2.2.1, bd_some]
    cases hd : fnd A.1 A.2.1 (nmL β E x'.1) with
    | some t =>
      have eT : yTow β E A x' = .inl (3, sk β E x'.1) := by unfold yTow; rw [hy]; show (match fnd A.1 A.2.1 (nmL β E x'.1) with | some _ => _ | none => _) = _; rw [hd]
      have ht := (idx_some _ _ _ hd).2.1
      obtain ⟨m3, s1, s2⟩ := @cy_fail f E β m2 (.inr x') r2 3 (by omega) (by omega)
      have s1' : FX10_fail f 3 (m2.1 13 2) m2 = some ((), m3) := s1
      rw [show oi (some t) = Int32.ofNat t from rfl, if_neg (n_m1 (by omega)), s1', bd_some, eT]
      exact ⟨m3, rfl, s2, CG_fr13 ho hG2 (fun a k z => (MDX10_fail s1 a k (by unfold mdX10_fail; omega)).1), fun q => by cases q⟩
    | none =>
      have eT : yTow β E A x' = ytN β E 0 9 (yCh β E x') := by unfold yTow; rw [hy]; show (match fnd A.1 A.2.1 (nmL β E x'.1) with | some _ => _ | none => _) = _; rw [hd]
      rw [show oi none = -1 from rfl, if_pos rfl, eT]
      obtain ⟨m7, l1, l2, l3, l4⟩ := @c_towL f E β m2 o x'.1 A.1 x'.2.1 (fun m7 => (ev_bd (FX10_advance f m7) (fun _ m9 => (ev_bd (FX10_takeWord f (2 : Int32) m9) (fun _ m11 => (ev_bd (FX10_takeNumber f (0 : Int32) (9 : Int32) m11) (fun r12 m13 => (if ev_in (m11.1 o 5) 8 then (ev_bd (FX10_takeWord f (3 : Int32) ((ev_up m13.1 (o + 2) (m11.1 o 5).toNatClampNeg r12), m13.2)) (fun _ m15 => (ev_bd (FX10_takeNumber f (0 : Int32) (9 : Int32) m15) (fun r16 m17 => (if ev_in (m15.1 o 5) 8 then some ((), ((ev_up (ev_up m17.1 (o + 3) (m15.1 o 5).toNatClampNeg r16) o 5 (((ev_up m17.1 (o + 3) (m15.1 o 5).toNatClampNeg r16) o 5) + 1)), m17.2)) else none))))) else none)))))))) ho hc2 hT hA2.2.1 6 0 f m2 (by omega) (by omega) (fun _ _ => rfl) (fun i hi => by omega) (fun _ _ => rfl)
      rw [z0] at l1
      rw [l1]
      have h7 : YC β E m7 (.inr x') := YC_fr r2 (fun a k z => by rw [l2 a (by omega)])
      obtain ⟨m9, a1, a2⟩ := cy_adv (f := f) hf h7
      obtain ⟨m11, b1, b2⟩ := cy_tW (f := f) hf a2 (k := 2) (by omega)
      obtain ⟨m13, c1, c2⟩ := cy_tN (f := f) hf b2 (lo := 0) (hi := 9) (by omega) (by omega)
      have b1' : FX10_takeWord f 2 m9 = some ((), m11) := b1
      have c1' : FX10_takeNumber f 0 9 m11 = some (if (ytN β E 0 9 (yMo β E x')).isRight = true then Int32.ofNat (yval β E (yMo β E x')) else Int32.ofNat 0, m13) := c1
      have g11 : ∀ a k, a ≠ 13 → m11.1 a k = m7.1 a k := fun a k z => ((MDX10_takeWord b1 a k (by unfold mdX10_takeWord; omega)).1).trans ((MDX10_advance a1 a k (by unfold mdX10_advance; omega)).1)
      have g13 : ∀ a k, a ≠ 13 → m13.1 a k = m7.1 a k := fun a k z => ((MDX10_takeNumber c1 a k (by unfold mdX10_takeNumber; omega)).1).trans (g11 a k z)
      have e5 : m11.1 o 5 = Int32.ofNat A.1 := by rw [g11 _ _ (by omega), l2 o (by omega)]; exact hA2.2.1
      generalize hv : (if (ytN β E 0 9 (yMo β E x')).isRight = true then Int32.ofNat (yval β E (yMo β E x')) else Int32.ofNat 0) = v12 at c1'
      have hv9 : g9 v12 := by rw [← hv]; exact g9_N (by omega)
      show ∃ m', ev_bd (FX10_advance f m7) _ = _ ∧ _
      rw [a1, bd_some, b1', bd_some, c1', bd_some, e5, if_pos ((n_in (by omega)).mpr hT), n_nat (by omega)]
      have h13 : YC β E (ev_up m13.1 (o + 2) A.1 v12, m13.2) (ytN β E 0 9 (yMo β E x')) := YC_fr c2 (fun a k z => by rw [upI_na _ _ _ _ (by omega)])
      obtain ⟨m15, d1, d2⟩ := cy_tW (f := f) hf h13 (k := 3) (by omega)
      obtain ⟨m17, e1, e2⟩ := cy_tN (f := f) hf d2 (lo := 0) (hi := 9) (by omega) (by omega)
      have d1' : FX10_takeWord f 3 (ev_up m13.1 (o + 2) A.1 v12, m13.2) = some ((), m15) := d1
      have e1' : FX10_takeNumber f 0 9 m15 = some (if (ytN β E 0 9 (yCh β E x')).isRight = true then Int32.ofNat (yval β E (yCh β E x')) else Int32.ofNat 0, m17) := e1
      have g15 : ∀ a k, a ≠ 13 → m15.1 a k = ((ev_up m13.1 (o + 2) A.1 v12, m13.2) : ev_M).1 a k := fun a k z => (MDX10_takeWord d1 a k (by unfold mdX10_takeWord; omega)).1
      have g17 : ∀ a k, a ≠ 13 → m17.1 a k = ((ev_up m13.1 (o + 2) A.1 v12, m13.2) : ev_M).1 a k := fun a k z => ((MDX10_takeNumber e1 a k (by unfold mdX10_takeNumber; omega)).1).trans (g15 a k z)
      generalize hw : (if (ytN β E 0 9 (yCh β E x')).isRight = true then Int32.ofNat (yval β E (yCh β E x')) else Int32.ofNat 0) = v16 at e1'
      have hw9 : g9 v16 := by rw [← hw]; exact g9_N (by omega)
      have e5' : m15.1 o 5 = Int32.ofNat A.1 := by rw [g15 _ _ (by omega), upI_na _ _ _ _ (by omega), g13 _ _ (by omega), l2 o (by omega)]; exact hA2.2.1
      have e17 : m17.1 o 5 = Int32.ofNat A.1 := by rw [g17 _ _ (by omega), upI_na _ _ _ _ (by omega), g13 _ _ (by omega), l2 o (by omega)]; exact hA2.2.1
      rw [d1', bd_some, e1', bd_some, e5', if_pos ((n_in (by omega)).mpr hT), n_nat (by omega), up_na _ _ _ _ (show o ≠ o + 3 by omega), e17, s_1]
      have hG7 : CGo o m7 := CGo_fr hG2 (fun a k z1 z2 => by rw [l2 a (by omega)])
      have hG13 : CGo o m13 := CG_fr13 ho hG7 g13
      have hG17 : CGo o m17 := CG_fr13 ho (CGo_up2 (T := A.1) (v := v12) hG13 hv9) g17
      have hG18 : CGo o (ev_up m17.1 (o + 3) A.1 v16, m17.2) := CGo_up3 hG17 hw9
      refine ⟨_, rfl, YC_fr e2 (fun a k z => by rw [upI_na _ _ _ _ (by omega), ev_up_ne _ _ _ (by omega)]), CGo_fr hG18 (fun a k z1 z2 => by rw [upI_na _ _ _ _ (by omega)]), fun hr => ?_⟩
      have hr1 : (ytN β E 0 9 (yMo β E x')).isRight = true := W_right (N_right hr)
      rw [if_pos hr1] at hv
      rw [if_pos hr] at hw
      -- rows as they lie in the end
      have w5 : ∀ a k, a ≠ o + 3 → a ≠ o → ((ev_up (ev_up m17.1 (o + 3) A.1 v16) o 5 (Int32.ofNat (A.1 + 1)), m17.2) : ev_M).1 a k = m17.1 a k := fun a k z1 z2 => by rw [upI_na _ _ _ _ z2, ev_up_ne _ _ _ z1]
      obtain ⟨q1, q2, q3, q4, yb, q5, q6, q7⟩ := hA2
      have hp2 := p2_le q1
      refine ⟨by show A.1 + 1 ≤ 8; omega, upI_at _ _ _ _ _, fun t k ht hk => ?_, fun t ht => ⟨?_, ?_⟩, yb, ?_, ?_, fun t ht => ?_⟩
      · rw [w5 _ _ (by omega) (by omega), g17 _ _ (by omega), upI_na _ _ _ _ (by omega), g13 _ _ (by omega)]
        show _ = sp_up A.2.1 A.1 (nmL β E x'.1) t k
        by_cases e : t = A.1
        · rw [e, sp_at, l3 k hk]
        · have ht' : t < A.1 + 1 := ht
          rw [sp_ne _ _ e, l4 _ (fun i hi => by omega)]
          exact q3 t k (by omega) hk
      · rw [w5 _ _ (by omega) (by omega), g17 _ _ (by omega)]
        show ev_up m13.1 (o + 2) A.1 v12 (o + 2) t = sp_up A.2.2.1 A.1 (Int32.ofNat (yval β E (yMo β E x'))) t
        rw [ev_up_at]
        unfold sp_up
        by_cases e : t = A.1
        · rw [if_pos e, if_pos e, hv]
        · have ht' : t < A.1 + 1 := ht
          rw [if_neg e, if_neg e, g13 _ _ (by omega), l2 _ (by omega)]
          exact (q4 t (by omega)).1
      · rw [upI_na _ _ _ _ (by omega)]
        show ev_up m17.1 (o + 3) A.1 v16 (o + 3) t = sp_up A.2.2.2.1 A.1 (Int32.ofNat (yval β E (yCh β E x'))) t
        rw [ev_up_at]
        unfold sp_up
        by_cases e : t = A.1
        · rw [if_pos e, if_pos e, hw]
        · have ht' : t < A.1 + 1 := ht
          rw [if_neg e, if_neg e, g17 _ _ (by omega), upI_na _ _ _ _ (by omega), g13 _ _ (by omega), l2 _ (by omega)]
          exact (q4 t (by omega)).2
      · rw [upI_nk _ _ _ _ (by omega), up_na _ _ _ _ (by omega), g17 _ _ (by omega), upI_na _ _ _ _ (by omega), g13 _ _ (by omega), l2 _ (by omega)]
        exact q5
      · show yb < 2 ^ (A.1 + 1)
        rw [Nat.pow_succ]; omega
      · show bt (Int32.ofNat yb) t = if sp_up A.2.2.2.2 A.1 false t = true then 1 else 0
        have ht' : t < A.1 + 1 := ht
        by_cases e : t = A.1
        · rw [e, sp_at, if_neg (by decide), bt_all yb (by omega) A.1 hT, Nat.testBit_lt_two_pow q6, if_neg (by decide)]
        · rw [sp_ne _ _ e]
          exact q7 t (by omega)
theorem or2_all : ∀ t, t < 8 → ∀ y, y < 256 → (Int32.ofNat y ||| ((1 : Int32) <<< (Int32.ofNat t &&& 31))) = Int32.ofNat (y ||| 2 ^ t) := by decide +kernel
theorem c_yes {o : Nat} {m : ev_M} {x : Nat × Bool × List Nat} {A : sp_A} (hf : 4000 ≤ f) (ho : o = 1 ∨ o = 7) (h : YC β E m (.inr x)) (hA : CQA o m A) : ∃ m', FX1_readYes f o m = some ((), m') ∧ YC β E m' (yYes β E A x) ∧ ((yYes β E A x).isRight = true → CQA o m' (aYes β E A x)) := by
  obtain ⟨m2, r1, r2⟩ := c_check (f := f) h
  have f2 : ∀ a k, a ≠ 13 → m2.1 a k = m.1 a k := fun a k z => (MDX10_checkName r1 a k (by unfold mdX10_checkName; omega)).1
  have hA2 : CQA o m2 A := CQA_fr hA (f2 _ _ (by omega)) (f2 _ _ (by omega)) (fun a k _ _ => f2 _ _ (by omega))
  unfold FX1_readYes FX1_readYes_J31
  rw [r1, bd_some]
  cases hy : yNm β E x with
  | inl e =>
    have eT : yYes β E A x = .inl e := by unfold yYes; rw [hy]
    rw [hy] at r2
    rw [show (Sum.inl e : Yr).isRight = false from rfl, if_neg (show ¬ false = true by decide), if_pos rfl, eT]
    exact ⟨m2, rfl, r2, fun q => by cases q⟩
  | inr x' =>
    obtain ⟨ex, k1, n6, o0⟩ := yNm_r hy
    subst ex
    rw [hy] at r2
    have hc2 : CT β E m2 x'.1 x'.2.1 := r2
    obtain ⟨m3, s1, s2⟩ := @cy_fail f E β m2 (.inr x') r2 3 (by omega) (by omega)
    have s1' : FX10_fail f 3 (m2.1 13 2) m2 = some ((), m3) := s1
    rw [show (Sum.inr x' : Yr).isRight = true from rfl, if_pos rfl, if_neg n10, c_find hf hc2 hA2.1 hA2.2.1 hA2.2.2.1, bd_some, s1', bd_some]
    cases hd : fnd A.1 A.2.1 (nmL β E x'.1) with
    | none =>
      have eT : yYes β E A x' = .inl (3, sk β E x'.1) := by unfold yYes; rw [hy]; show (match fnd A.1 A.2.1 (nmL β E x'.1) with | none => _ | some t => _) = _; rw [hd]
      rw [show oi none = -1 from rfl, if_pos rfl, eT]
      exact ⟨m3, rfl, s2, fun q => by cases q⟩
    | some t =>
      have ht := (idx_some _ _ _ hd).2.1
      have eT : yYes β E A x' = if A.2.2.2.2 t = true then .inl (3, sk β E x'.1) else yad β E (.inr x') := by unfold yYes; rw [hy]; show (match fnd A.1 A.2.1 (nmL β E x'.1) with | none => _ | some t => _) = _; rw [hd]
      obtain ⟨q1, q2, q3, q4, yb, q5, q6, q7⟩ := hA2
      have hp2 := p2_le q1
      have hb := q7 t (by omega)
      rw [show oi (some t) = Int32.ofNat t from rfl, if_neg (n_m1 (by omega)), q5, show ((Int32.ofNat yb >>> (Int32.ofNat t &&& 31)) &&& 1) = bt (Int32.ofNat yb) t from rfl, hb, eT]
      by_cases z : A.2.2.2.2 t = true
      · rw [if_pos z, if_pos rfl, if_pos z]
        exact ⟨m3, rfl, s2, fun q => by cases q⟩
      · rw [if_neg z, if_neg (by decide), if_neg z, or2_all t (by omega) yb (by omega)]
        obtain ⟨m9, a1, a2⟩ := cy_adv (f := f) (m := (ev_up m2.1 o 6 (Int32.ofNat (yb ||| 2 ^ t)), m2.2)) hf (YC_fr r2 (fun a k z => by rw [upI_na _ _ _ _ (by omega)]))
        have g9' : ∀ a k, a ≠ 13 → m9.1 a k = ((ev_up m2.1 o 6 (Int32.ofNat (yb ||| 2 ^ t)), m2.2) : ev_M).1 a k := fun a k z => (MDX10_advance a1 a k (by unfold mdX10_advance; omega)).1
        rw [a1, bd_some]
        refine ⟨m9, rfl, a2, fun _ => ⟨q1, ?_, fun t' k u1 u2 => ?_, fun t' u => ⟨?_, ?_⟩, yb ||| 2 ^ t, ?_, ?_, fun t' u => ?_⟩⟩
        · rw [g9' _ _ (by omega), upI_nk _ _ _ _ (by omega)]; exact q2
        · rw [g9' _ _ (by omega), upI_na _ _ _ _ (by omega)]; exact q3 t' k u1 u2
        · rw [g9' _ _ (by omega), upI_na _ _ _ _ (by omega)]; exact (q4 t' u).1
        · rw [g9' _ _ (by omega), upI_na _ _ _ _ (by omega)]; exact (q4 t' u).2
        · rw [g9' _ _ (by omega), upI_at]
        · show yb ||| 2 ^ t < 2 ^ A.1
          exact Nat.or_lt_two_pow q6 (Nat.pow_lt_pow_right (by omega) (by omega))
        · have u' : t' < A.1 := u
          show bt (Int32.ofNat (yb ||| 2 ^ t)) t' = if ((fnd A.1 A.2.1 (nmL β E x'.1)).elim A.2.2.2.2 (fun t => sp_up A.2.2.2.2 t true)) t' = true then 1 else 0
          rw [hd, ← or2_all t (by omega) yb (by omega), btor_all t (by omega) t' (by omega) yb (by omega)]
          show _ = if sp_up A.2.2.2.2 t true t' = true then 1 else 0
          unfold sp_up
          by_cases e : t' = t
          · rw [if_pos e, if_pos e, if_pos rfl]
          · rw [if_neg e, if_neg e]; exact q7 t' u'
end
