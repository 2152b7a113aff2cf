/-! the reference's tape -/
def TR0 (β : Nat → Int32) (E : Nat) (m : ev_M) : Prop := E ≤ 1600 ∧ m.1 112 3 = Int32.ofNat E ∧ (∀ i, i < 1600 → m.1 113 i = β i)
def on2 (m m' : ev_M) : Prop := m'.2 = m.2 ∧ ∀ a k, ¬ (a = 112 ∧ k = 2) → m'.1 a k = m.1 a k
theorem on2_refl (m : ev_M) : on2 m m := ⟨rfl, fun _ _ _ => rfl⟩
theorem on2_tr {a b c : ev_M} (h1 : on2 a b) (h2 : on2 b c) : on2 a c := ⟨h2.1.trans h1.1, fun x k z => (h2.2 x k z).trans (h1.2 x k z)⟩
theorem on2_up (m : ev_M) (v : Int32) : on2 m (ev_up m.1 112 2 v, m.2) := ⟨rfl, fun a k z => by
  by_cases e : a = 112
  · subst e; rw [upI_nk _ _ _ _ (by omega)]
  · rw [upI_na _ _ _ _ e]⟩
theorem TR0_fr {β : Nat → Int32} {E : Nat} {m m' : ev_M} (h : TR0 β E m) (h1 : ∀ a k, (a = 112 ∧ k = 3) ∨ a = 113 → m'.1 a k = m.1 a k) : TR0 β E m' := ⟨h.1, by rw [h1 112 3 (by omega)]; exact h.2.1, fun i hi => by rw [h1 113 i (by omega)]; exact h.2.2 i hi⟩
theorem TR0_on2 {β : Nat → Int32} {E : Nat} {m m' : ev_M} (h : TR0 β E m) (h1 : on2 m m') : TR0 β E m' := TR0_fr h (fun a k z => h1.2 a k (by omega))
theorem sk_mid {β : Nat → Int32} {E : Nat} : ∀ (j p q : Nat), q - p = j → p ≤ q → q ≤ sk β E p → sk β E q = sk β E p := by
  intro j
  induction j with
  | zero => intro p q h1 h2 h3; rw [show q = p by omega]
  | succ j ih =>
    intro p q h1 h2 h3
    by_cases z : p < E ∧ isBl (β p) = true
    · rw [sk_s z.1 z.2] at h3 ⊢
      exact ih (p + 1) q (by omega) (by omega) h3
    · rw [sk_0 z] at h3; omega
section
variable {f E : Nat} {β : Nat → Int32}
theorem r_lookL (k : ev_M → Option (Int32 × ev_M)) : ∀ (j n q : Nat) (m : ev_M), E - q = j → j < n → TR0 β E m → q ≤ E → m.1 112 2 = Int32.ofNat q → ∃ m', FX12_look_L0 f k n m = k m' ∧ m'.1 112 2 = Int32.ofNat (sk β E q) ∧ on2 m m' := by
  intro j
  induction j with
  | zero =>
    intro n q m h1 h2 h3 h4 h5
    obtain ⟨n, rfl⟩ : ∃ i, n = i + 1 := ⟨n - 1, by omega⟩
    have hE := h3.1
    refine ⟨m, ?_, by rw [sk_0 (by omega)]; exact h5, on2_refl m⟩
    unfold FX12_look_L0
    rw [h3.2.1, h5, if_pos ((n_le (by omega) (by omega)).mpr (by omega))]
  | succ j ih =>
    intro n q m h1 h2 h3 h4 h5
    obtain ⟨n, rfl⟩ : ∃ i, n = i + 1 := ⟨n - 1, by omega⟩
    have hE := h3.1
    unfold FX12_look_L0
    have hin : ev_in (Int32.ofNat q) 1600 := (n_in (by omega)).mpr (by omega)
    rw [h3.2.1, h5, if_neg (fun x => by rw [n_le (by omega) (by omega)] at x; omega), if_pos hin]
    have hx : m.1 113 (Int32.ofNat q).toNatClampNeg = β q := by rw [n_nat (by omega), h3.2.2 q (by omega)]
    have go : isBl (β q) = true → ∃ m', FX12_look_J39 f (FX12_look_L0 f k n) m = k m' ∧ m'.1 112 2 = Int32.ofNat (sk β E q) ∧ on2 m m' := by
      intro hb
      unfold FX12_look_J39
      rw [h5, s_1]
      obtain ⟨m', r1, r2, r3⟩ := ih n (q + 1) (ev_up m.1 112 2 (Int32.ofNat (q + 1)), m.2) (by omega) (by omega) (TR0_on2 h3 (on2_up m _)) (by omega) (upI_at _ _ _ _ _)
      exact ⟨m', r1, by rw [r2, sk_s (by omega) hb], on2_tr (on2_up m _) r3⟩
    by_cases z1 : β q = 10
    · rw [if_pos (hx.trans z1)]
      exact go (by unfold isBl; simp [z1])
    rw [if_neg (fun x => z1 (hx.symm.trans x)), if_pos hin]
    by_cases z2 : β q = 32
    · rw [if_pos (hx.trans z2)]
      exact go (by unfold isBl; simp [z2])
    rw [if_neg (fun x => z2 (hx.symm.trans x))]
    refine ⟨m, rfl, ?_, on2_refl m⟩
    rw [sk_0 (fun x => by have := x.2; unfold isBl at this; simp [z1, z2] at this)]; exact h5
def lk (β : Nat → Int32) (E p : Nat) : Int32 := if sk β E p < E then β (sk β E p) else -1
theorem r_look0 {q : Nat} {m : ev_M} (hf : 4000 ≤ f) (h3 : TR0 β E m) (h4 : q ≤ E) (h5 : m.1 112 2 = Int32.ofNat q) : ∃ m', FX12_look f m = some (lk β E q, m') ∧ m'.1 112 2 = Int32.ofNat (sk β E q) ∧ on2 m m' := by
  have hE := h3.1
  have hs := sk_le (β := β) h4
  unfold FX12_look
  obtain ⟨m', r1, r2, r3⟩ := @r_lookL f E β (fun m1 => (if (m1.1 112 3) ≤ (m1.1 112 2) then some ((-1), m1) else (if ev_in (m1.1 112 2) 1600 then some ((m1.1 113 (m1.1 112 2).toNatClampNeg), m1) else none))) (E - q) f q m rfl (by omega) h3 h4 h5
  have h3' := TR0_on2 h3 r3
  refine ⟨m', ?_, r2, r3⟩
  rw [r1]
  unfold lk
  rw [h3'.2.1, r2]
  by_cases z : sk β E q < E
  · rw [if_neg (fun x => by rw [n_le (by omega) (by omega)] at x; omega), if_pos ((n_in (by omega)).mpr (by omega)), n_nat (by omega), h3'.2.2 _ (by omega), if_pos z]
  · rw [if_pos ((n_le (by omega) (by omega)).mpr (by omega)), if_neg z]
def RT (β : Nat → Int32) (E : Nat) (m : ev_M) (p : Nat) (w : Bool) : Prop :=
  TR0 β E m ∧ p ≤ E ∧ m.1 112 5 = 0 ∧ m.1 112 6 = -1 ∧ (∃ q, p ≤ q ∧ q ≤ sk β E p ∧ m.1 112 2 = Int32.ofNat q) ∧ (if w = true then m.1 112 4 = Int32.ofNat p else (m.1 112 4).toInt < p)
def RB (m : ev_M) (e : Nat × Nat) : Prop := 1 ≤ e.1 ∧ e.1 ≤ 5 ∧ e.2 ≤ 2000 ∧ m.1 112 5 = Int32.ofNat e.1 ∧ m.1 112 6 = Int32.ofNat e.2
def YT (β : Nat → Int32) (E : Nat) (m : ev_M) (y : Yr) : Prop := match y with
  | .inl e => RB m e
  | .inr x => RT β E m x.1 x.2.1
theorem RT_fr {m m' : ev_M} {p : Nat} {w : Bool} (h : RT β E m p w) (h1 : ∀ a k, (a = 112 ∧ 2 ≤ k ∧ k ≤ 6) ∨ a = 113 → m'.1 a k = m.1 a k) : RT β E m' p w := by
  obtain ⟨a1, a2, a3, a4, ⟨q, a5, a6, a7⟩, a8⟩ := h
  exact ⟨TR0_fr a1 (fun a k z => h1 a k (by omega)), a2, by rw [h1 _ _ (by omega)]; exact a3, by rw [h1 _ _ (by omega)]; exact a4, ⟨q, a5, a6, by rw [h1 _ _ (by omega)]; exact a7⟩, by rw [h1 112 4 (by omega)]; exact a8⟩
theorem YT_fr {m m' : ev_M} {y : Yr} (h : YT β E m y) (h1 : ∀ a k, (a = 112 ∧ 2 ≤ k ∧ k ≤ 6) ∨ a = 113 → m'.1 a k = m.1 a k) : YT β E m' y := by
  cases y with
  | inl e =>
    obtain ⟨a1, a2, a3, a4, a5⟩ := h
    exact ⟨a1, a2, a3, by rw [h1 _ _ (by omega)]; exact a4, by rw [h1 _ _ (by omega)]; exact a5⟩
  | inr x => exact RT_fr h h1
/-- the place stands before what comes -/
def AT (β : Nat → Int32) (E : Nat) (m : ev_M) (y : Yr) : Prop := ∀ x, y = .inr x → m.1 112 2 = Int32.ofNat (sk β E x.1)
theorem r_look {p : Nat} {w : Bool} {m : ev_M} (hf : 4000 ≤ f) (h : RT β E m p w) : ∃ m', FX12_look f m = some (lk β E p, m') ∧ m'.1 112 2 = Int32.ofNat (sk β E p) ∧ RT β E m' p w ∧ on2 m m' := by
  obtain ⟨a1, a2, a3, a4, ⟨q, a5, a6, a7⟩, a8⟩ := h
  have hs := sk_le (β := β) a2
  obtain ⟨m', r1, r2, r3⟩ := r_look0 hf a1 (show q ≤ E by omega) a7
  have e := sk_mid _ p q rfl a5 a6
  have e2 : lk β E q = lk β E p := by unfold lk; rw [e]
  rw [e2] at r1
  rw [e] at r2
  exact ⟨m', r1, r2, ⟨TR0_on2 a1 r3, a2, by rw [r3.2 _ _ (by omega)]; exact a3, by rw [r3.2 _ _ (by omega)]; exact a4, ⟨sk β E p, sk_ge β E p, Nat.le_refl _, r2⟩, by rw [r3.2 _ _ (by omega)]; exact a8⟩, r3⟩
theorem yr_bad {m : ev_M} {e : Nat × Nat} (h : RB m e) : ¬ m.1 112 5 = 0 := by
  rw [h.2.2.2.1]
  exact fun q => by rw [n_z (by have := h.2.1; omega)] at q; have := h.1; omega
theorem yt_fail {m : ev_M} {y : Yr} {k : Nat} (h : YT β E m y) (hA : AT β E m y) (hk : 1 ≤ k) (hk2 : k ≤ 5) : ∃ m', FX12_fail f (Int32.ofNat k) (m.1 112 2) m = some ((), m') ∧ YT β E m' (yfail β E k y) := by
  unfold FX12_fail
  cases y with
  | inl e =>
    rw [if_neg (yr_bad h)]
    exact ⟨m, rfl, h⟩
  | inr x =>
    have := sk_le (β := β) h.2.1
    have hE := h.1.1
    rw [if_pos h.2.2.1]
    refine ⟨_, rfl, hk, hk2, ?_, ?_, ?_⟩
    · show sk β E x.1 ≤ 2000
      omega
    · rw [upI_nk _ _ _ _ (by decide), up_at]
    · rw [upI_at]; exact hA x rfl
/-- a sign that is no letter, digit or blank -/
def sgn (c : Int32) : Prop := isL c = false ∧ isDg c = false ∧ c ≠ -1
theorem yS_lk {c : Int32} {x : Nat × Bool × List Nat} (hc : sgn c) : yS β E c (.inr x) = true ↔ lk β E x.1 = c := by
  unfold yS lk
  simp only [Bool.and_eq_true, decide_eq_true_eq]
  constructor
  · rintro ⟨a1, a2⟩
    rw [if_pos (tkK_3 a1).1, ← a2]
    exact ((tkV_3 a1).1).symm
  · intro h
    by_cases z : sk β E x.1 < E
    · rw [if_pos z] at h
      have : tkK β E x.1 x.2.1 = 3 := by
        unfold tkK
        rw [if_neg (by omega), h, if_neg (by rw [hc.1]; decide), if_neg (by rw [hc.2.1]; decide)]
      exact ⟨this, by rw [(tkV_3 this).1]; exact h⟩
    · rw [if_neg z] at h
      exact absurd h.symm hc.2.2
theorem rt_sg {m : ev_M} {x : Nat × Bool × List Nat} {c : Int32} (h : RT β E m x.1 x.2.1) (ha : m.1 112 2 = Int32.ofNat (sk β E x.1)) (hs : yS β E c (.inr x) = true) : YT β E (ev_up m.1 112 2 (m.1 112 2 + 1), m.2) (yad β E (.inr x)) := by
  have hk : tkK β E x.1 x.2.1 = 3 := yS_k hs
  obtain ⟨a1, a2, a3, a4, a5, a6⟩ := h
  have hb : tkB β E x.1 = sk β E x.1 + 1 := by unfold tkB; rw [(tkV_3 hk).2]
  have hp := tkB_lt (w := x.2.1) (show tkK β E x.1 x.2.1 ≠ 0 by rw [hk]; decide)
  have hE := a1.1
  show RT β E _ (tkB β E x.1) (tkW β E x.1 x.2.1)
  refine ⟨TR0_on2 a1 (on2_up m _), tkB_le a2, by rw [upI_nk _ _ _ _ (by decide)]; exact a3, by rw [upI_nk _ _ _ _ (by decide)]; exact a4, ⟨tkB β E x.1, Nat.le_refl _, sk_ge _ _ _, by rw [upI_at, ha, s_1, hb]⟩, ?_⟩
  rw [tkW_k hk, if_neg (by decide), upI_nk _ _ _ _ (by decide)]
  by_cases z : x.2.1 = true
  · rw [if_pos z] at a6
    rw [a6, n_int (by omega)]; omega
  · rw [if_neg z] at a6; omega
theorem rt_takesS {m : ev_M} {y : Yr} {c : Int32} (hf : 4000 ≤ f) (hc : sgn c) (h : YT β E m y) : ∃ m', FX12_takesSign f c m = some (if yS β E c y = true then 1 else 0, m') ∧ YT β E m' (if yS β E c y = true then yad β E y else y) ∧ (yS β E c y = false → AT β E m' y) ∧ on2 m m' := by
  unfold FX12_takesSign
  cases y with
  | inl e =>
    rw [if_neg (yr_bad h)]
    exact ⟨m, rfl, h, (fun _ x e => by cases e), on2_refl m⟩
  | inr x =>
    obtain ⟨m1, r1, r2, r3, r4⟩ := r_look hf h
    rw [if_pos h.2.2.1, r1, bd_some]
    by_cases z : yS β E c (.inr x) = true
    · rw [if_pos ((yS_lk hc).mp z), if_pos z, if_pos z]
      exact ⟨_, rfl, rt_sg r3 r2 z, (fun q => by rw [z] at q; cases q), on2_tr r4 (on2_up m1 _)⟩
    · rw [if_neg (fun q => z ((yS_lk hc).mpr q)), if_neg z, if_neg z]
      exact ⟨m1, rfl, r3, (fun _ x' e => by cases e; exact r2), r4⟩
theorem rt_asksS {m : ev_M} {y : Yr} {c : Int32} (hf : 4000 ≤ f) (hc : sgn c) (h : YT β E m y) : ∃ m', FX12_asksSign f c m = some ((), m') ∧ YT β E m' (ytS β E c y) := by
  unfold FX12_asksSign
  cases y with
  | inl e =>
    rw [if_neg (yr_bad h)]
    exact ⟨m, rfl, h⟩
  | inr x =>
    obtain ⟨m1, r1, r2, r3, r4⟩ := rt_takesS hf hc h
    have h5 : m.1 112 5 = 0 := h.2.2.1
    rw [if_pos h5, r1, bd_some]
    unfold ytS
    by_cases z : yS β E c (.inr x) = true
    · rw [if_pos z] at r2
      rw [if_pos z, if_neg n10, if_pos z]
      exact ⟨m1, rfl, r2⟩
    · rw [if_neg z] at r2
      rw [if_neg z, if_pos rfl, if_neg z]
      obtain ⟨m2, q1, q2⟩ := @yt_fail f E β m1 _ 1 r2 (r3 (by simpa using z)) (by omega) (by omega)
      have q1' : FX12_fail f 1 (m1.1 112 2) m1 = some ((), m2) := q1
      rw [q1', bd_some]
      exact ⟨m2, rfl, q2⟩
end
