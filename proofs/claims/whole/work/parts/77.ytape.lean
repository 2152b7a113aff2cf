/-! a reading: a FAULT and its place, or the place, whether a word or number ended there, and the code so far -/
abbrev Yr : Type := Sum (Nat × Nat) (Nat × Bool × List Nat)
def yad (β : Nat → Int32) (E : Nat) (y : Yr) : Yr := match y with
  | .inl e => .inl e
  | .inr x => .inr (tkB β E x.1, tkW β E x.1 x.2.1, x.2.2)
def yS (β : Nat → Int32) (E : Nat) (c : Int32) (y : Yr) : Bool := match y with
  | .inl _ => false
  | .inr x => decide (tkK β E x.1 x.2.1 = 3) && decide (tkV β E x.1 = c)
def yI (β : Nat → Int32) (E : Nat) (y : Yr) : Option Nat := match y with
  | .inl _ => none
  | .inr x => if tkK β E x.1 x.2.1 = 1 then wv β (sk β E x.1) (rl isL β E (sk β E x.1)) else none
def yK (β : Nat → Int32) (E : Nat) (y : Yr) : Nat := match y with
  | .inl _ => 4
  | .inr x => tkK β E x.1 x.2.1
def yput (c : Nat) (y : Yr) : Yr := match y with
  | .inl e => .inl e
  | .inr x => .inr (x.1, x.2.1, x.2.2 ++ [c])
def yfail (β : Nat → Int32) (E k : Nat) (y : Yr) : Yr := match y with
  | .inl e => .inl e
  | .inr x => .inl (k, sk β E x.1)
def ytS (β : Nat → Int32) (E : Nat) (c : Int32) (y : Yr) : Yr := if yS β E c y = true then yad β E y else yfail β E 1 y
def ytW (β : Nat → Int32) (E k : Nat) (y : Yr) : Yr := if yI β E y = some k then yad β E y else yfail β E 1 y
def yval (β : Nat → Int32) (E : Nat) (y : Yr) : Nat := match y with
  | .inl _ => 0
  | .inr x => (tkV β E x.1).toNatClampNeg
def ytN (β : Nat → Int32) (E lo hi : Nat) (y : Yr) : Yr := match y with
  | .inl e => .inl e
  | .inr x => if tkK β E x.1 x.2.1 = 2 then (if tkN β E x.1 ≤ 4 then (if (tkV β E x.1).toNatClampNeg < lo ∨ hi < (tkV β E x.1).toNatClampNeg then .inl (2, sk β E x.1) else yad β E y) else .inl (1, sk β E x.1 + 4)) else .inl (1, sk β E x.1)
theorem wv_lt {β : Nat → Int32} {s n k : Nat} (h : wv β s n = some k) : k < 29 := by
  unfold wv at h
  by_cases z : n ≤ 6
  · rw [if_pos z] at h; have := idx_lt _ _ _ _ h; omega
  · rw [if_neg z] at h; cases h
theorem yI_lt {β : Nat → Int32} {E k : Nat} {y : Yr} (h : yI β E y = some k) : k < 29 := by
  cases y with
  | inl e => cases h
  | inr x =>
    unfold yI at h
    simp only [] at h
    by_cases z : tkK β E x.1 x.2.1 = 1
    · rw [if_pos z] at h; exact wv_lt h
    · rw [if_neg z] at h; cases h
/-! the numbers of a text -/
theorem dv_v {β : Nat → Int32} {s : Nat} : ∀ k, k ≤ 4 → (∀ i, i < k → isDg (β (s + i)) = true) → 0 ≤ (dvN β s k).toInt ∧ (dvN β s k).toInt < 10 ^ k := by
  intro k
  induction k with
  | zero => intro _ _; exact ⟨by show (0 : Int) ≤ (0 : Int32).toInt; decide, by show (0 : Int32).toInt < 10 ^ 0; decide⟩
  | succ k ih =>
    intro hk hd
    have i1 := ih (by omega) (fun i hi => hd i (by omega))
    have d := hd k (by omega)
    unfold isDg at d
    rw [decide_eq_true_iff] at d
    have e10 : (10 : Int32).toInt = 10 := rfl
    have e48 : (48 : Int32).toInt = 48 := rfl
    have p4 : (10 : Int) ^ k ≤ 1000 := by
      have cs : k = 0 ∨ k = 1 ∨ k = 2 ∨ k = 3 := by omega
      rcases cs with q | q | q | q <;> subst q <;> decide
    have e1 : (dvN β s k * 10).toInt = (dvN β s k).toInt * 10 := by rw [i_mul (by rw [e10]; omega) (by rw [e10]; omega), e10]
    have e2 : (dvN β s k * 10 + β (s + k)).toInt = (dvN β s k).toInt * 10 + (β (s + k)).toInt := by rw [i_add (by rw [e1]; omega) (by rw [e1]; omega), e1]
    have e3 : (dvN β s (k + 1)).toInt = (dvN β s k).toInt * 10 + (β (s + k)).toInt - 48 := by
      show (dvN β s k * 10 + β (s + k) - 48).toInt = _
      rw [i_sub (by rw [e2, e48]; omega) (by rw [e2, e48]; omega), e2, e48]
    rw [e3, Int.pow_succ]
    omega
theorem tkK_2 {β : Nat → Int32} {E p : Nat} {w : Bool} (h : tkK β E p w = 2) : sk β E p < E ∧ isL (β (sk β E p)) = false ∧ isDg (β (sk β E p)) = true := by
  have h1 := tkK_lt (by rw [h]; decide)
  unfold tkK at h
  rw [if_neg (by omega)] at h
  by_cases z1 : isL (β (sk β E p)) = true
  · rw [if_pos z1] at h; split at h <;> omega
  rw [if_neg z1] at h
  by_cases z2 : isDg (β (sk β E p)) = true
  · exact ⟨h1, by simpa using z1, z2⟩
  · rw [if_neg z2] at h; omega
theorem tkK_1 {β : Nat → Int32} {E p : Nat} {w : Bool} (h : tkK β E p w = 1) : sk β E p < E ∧ isL (β (sk β E p)) = true := by
  have h1 := tkK_lt (by rw [h]; decide)
  unfold tkK at h
  rw [if_neg (by omega)] at h
  by_cases z1 : isL (β (sk β E p)) = true
  · exact ⟨h1, z1⟩
  rw [if_neg z1] at h
  split at h
  · split at h <;> omega
  · omega
theorem tkK_3 {β : Nat → Int32} {E p : Nat} {w : Bool} (h : tkK β E p w = 3) : sk β E p < E ∧ isL (β (sk β E p)) = false ∧ isDg (β (sk β E p)) = false := by
  have h1 := tkK_lt (by rw [h]; decide)
  unfold tkK at h
  rw [if_neg (by omega)] at h
  by_cases z1 : isL (β (sk β E p)) = true
  · rw [if_pos z1] at h; split at h <;> omega
  rw [if_neg z1] at h
  by_cases z2 : isDg (β (sk β E p)) = true
  · rw [if_pos z2] at h; split at h <;> omega
  · exact ⟨h1, by simpa using z1, by simpa using z2⟩
theorem tkV_2 {β : Nat → Int32} {E p : Nat} {w : Bool} (h : tkK β E p w = 2) : tkV β E p = dvN β (sk β E p) (min (rl isDg β E (sk β E p)) 4) ∧ tkN β E p = rl isDg β E (sk β E p) ∧ ∃ v, tkV β E p = Int32.ofNat v ∧ v ≤ 9999 := by
  obtain ⟨a1, a2, a3⟩ := tkK_2 h
  have e : tkV β E p = dvN β (sk β E p) (min (rl isDg β E (sk β E p)) 4) := by unfold tkV; rw [if_neg (by rw [a2]; decide), if_pos a3]
  refine ⟨e, by unfold tkN; rw [if_neg (by omega), if_neg (by rw [a2]; decide), if_pos a3], ?_⟩
  have d := @dv_v β (sk β E p) (min (rl isDg β E (sk β E p)) 4) (by omega) (fun i hi => rl_all (E := E) (by omega))
  have p4 : (10 : Int) ^ (min (rl isDg β E (sk β E p)) 4) ≤ 10000 := by
    generalize hk : min (rl isDg β E (sk β E p)) 4 = k
    have cs : k = 0 ∨ k = 1 ∨ k = 2 ∨ k = 3 ∨ k = 4 := by omega
    rcases cs with q | q | q | q | q <;> subst q <;> decide
  obtain ⟨v, v1, v2, v3⟩ := n_ex (a := tkV β E p) (by rw [e]; exact d.1)
  exact ⟨v, v1, by rw [e] at v3; omega⟩
theorem tkV_1 {β : Nat → Int32} {E p : Nat} {w : Bool} (h : tkK β E p w = 1) : tkV β E p = oi (wv β (sk β E p) (rl isL β E (sk β E p))) ∧ tkN β E p = rl isL β E (sk β E p) := by
  obtain ⟨a1, a2⟩ := tkK_1 h
  exact ⟨by unfold tkV; rw [if_pos a2], by unfold tkN; rw [if_neg (by omega), if_pos a2]⟩
theorem tkV_3 {β : Nat → Int32} {E p : Nat} {w : Bool} (h : tkK β E p w = 3) : tkV β E p = β (sk β E p) ∧ tkN β E p = 1 := by
  obtain ⟨a1, a2, a3⟩ := tkK_3 h
  exact ⟨by unfold tkV; rw [if_neg (by rw [a2]; decide), if_neg (by rw [a3]; decide)], by unfold tkN; rw [if_neg (by omega), if_neg (by rw [a2]; decide), if_neg (by rw [a3]; decide)]⟩
theorem tkW_k {β : Nat → Int32} {E p : Nat} {w : Bool} {k : Nat} (h : tkK β E p w = k) : tkW β E p w = decide (k = 1 ∨ k = 2) := by unfold tkW; rw [h]
/-! the class's reader in such a state -/
def CB (m : ev_M) (e : Nat × Nat) : Prop := 1 ≤ e.1 ∧ e.1 ≤ 5 ∧ e.2 ≤ 2000 ∧ m.1 13 3 = Int32.ofNat e.1 ∧ m.1 13 4 = Int32.ofNat e.2 ∧ m.1 13 5 = 4
def YC (β : Nat → Int32) (E : Nat) (m : ev_M) (y : Yr) : Prop := match y with
  | .inl e => CB m e
  | .inr x => CT β E m x.1 x.2.1
theorem CB_fr {m m' : ev_M} {e : Nat × Nat} (h : CB m e) (h1 : ∀ k, m'.1 13 k = m.1 13 k) : CB m' e := by
  obtain ⟨a1, a2, a3, a4, a5, a6⟩ := h
  exact ⟨a1, a2, a3, by rw [h1]; exact a4, by rw [h1]; exact a5, by rw [h1]; exact a6⟩
theorem YC_fr {β : Nat → Int32} {E : Nat} {m m' : ev_M} {y : Yr} (h : YC β E m y) (h1 : ∀ a k, a = 13 ∨ a = 14 → m'.1 a k = m.1 a k) : YC β E m' y := by
  cases y with
  | inl e => exact CB_fr h (fun k => h1 13 k (by omega))
  | inr x => exact CT_fr h h1
section
variable {f E : Nat} {β : Nat → Int32} {m : ev_M} {y : Yr}
theorem cy_adv (hf : 4000 ≤ f) (h : YC β E m y) : ∃ m', FX10_advance f m = some ((), m') ∧ YC β E m' (yad β E y) := by
  cases y with
  | inl e =>
    obtain ⟨a1, a2, a3, a4, a5, a6⟩ := h
    refine ⟨m, ?_, a1, a2, a3, a4, a5, a6⟩
    unfold FX10_advance
    rw [if_neg (by rw [a4]; exact fun q => by rw [n_z (by omega)] at q; omega)]
  | inr x => exact c_adv hf h
theorem cy_fail (h : YC β E m y) {k : Nat} (hk : 1 ≤ k) (hk2 : k ≤ 5) : ∃ m', FX10_fail f (Int32.ofNat k) (m.1 13 2) m = some ((), m') ∧ YC β E m' (yfail β E k y) := by
  unfold FX10_fail
  cases y with
  | inl e =>
    obtain ⟨a1, a2, a3, a4, a5, a6⟩ := h
    rw [if_neg (by rw [a4]; exact fun q => by rw [n_z (by omega)] at q; omega)]
    exact ⟨_, rfl, a1, a2, a3, by rw [upI_nk _ _ _ _ (by decide)]; exact a4, by rw [upI_nk _ _ _ _ (by decide)]; exact a5, upI_at _ _ _ _ _⟩
  | inr x =>
    obtain ⟨a1, a2, a3, a4, a5, a6, a7, a8⟩ := h
    have := sk_le (β := β) a2
    have hE := a1.1
    rw [if_pos a3]
    refine ⟨_, rfl, hk, hk2, ?_, ?_, ?_, upI_at _ _ _ _ _⟩
    · show sk β E x.1 ≤ 2000
      omega
    · rw [upI_nk _ _ _ _ (by decide), up_nk _ _ _ (by decide), up_at]
    · rw [upI_nk _ _ _ _ (by decide), up_at]; exact a6
theorem cy_failB {e : Nat × Nat} {a b : Int32} (h : CB m e) : ∃ m', FX10_fail f a b m = some ((), m') ∧ CB m' e := by
  unfold FX10_fail
  obtain ⟨a1, a2, a3, a4, a5, a6⟩ := h
  rw [if_neg (by rw [a4]; exact fun q => by rw [n_z (by omega)] at q; omega)]
  exact ⟨_, rfl, a1, a2, a3, by rw [upI_nk _ _ _ _ (by decide)]; exact a4, by rw [upI_nk _ _ _ _ (by decide)]; exact a5, upI_at _ _ _ _ _⟩
theorem cy_sign (h : YC β E m y) (c : Int32) : FX10_isSign f c m = some (if yS β E c y = true then 1 else 0, m) := by
  unfold FX10_isSign
  cases y with
  | inl e =>
    obtain ⟨a1, a2, a3, a4, a5, a6⟩ := h
    rw [if_neg (by rw [a6]; decide)]
    rfl
  | inr x =>
    obtain ⟨a1, a2, a3, a4, a5, a6, a7, a8⟩ := h
    have hk := tkK_le β E x.1 x.2.1
    unfold yS
    simp only []
    by_cases z : tkK β E x.1 x.2.1 = 3
    · rw [if_pos (by rw [a5, z]; rfl), a8 (by omega)]
      by_cases z2 : tkV β E x.1 = c
      · rw [if_pos z2, if_pos (by simp [z, z2])]
      · rw [if_neg z2, if_neg (by simp [z2])]
    · rw [if_neg (by rw [a5]; exact fun q => z ((n_is 3 3 rfl (by omega) (by omega)).mp q)), if_neg (by simp [z])]
theorem cy_kind (h : YC β E m y) : m.1 13 5 = Int32.ofNat (yK β E y) := by
  cases y with
  | inl e => exact h.2.2.2.2.2
  | inr x => exact h.2.2.2.2.1
theorem yK_le : yK β E y ≤ 4 := by
  cases y with
  | inl e => exact Nat.le_refl _
  | inr x => exact tkK_le _ _ _ _
theorem cy_word (h : YC β E m y) : FX10_word f m = some (oi (yI β E y), m) := by
  unfold FX10_word
  cases y with
  | inl e =>
    obtain ⟨a1, a2, a3, a4, a5, a6⟩ := h
    rw [if_neg (by rw [a6]; decide)]
    rfl
  | inr x =>
    obtain ⟨a1, a2, a3, a4, a5, a6, a7, a8⟩ := h
    have hk := tkK_le β E x.1 x.2.1
    unfold yI
    simp only []
    by_cases z : tkK β E x.1 x.2.1 = 1
    · rw [if_pos (by rw [a5, z]; rfl), a8 (by omega), (tkV_1 z).1, if_pos z]
    · rw [if_neg (by rw [a5]; exact fun q => z ((n_is 1 1 rfl (by omega) (by omega)).mp q)), if_neg z]
      rfl
theorem oi_eq {r : Option Nat} {k : Nat} (hr : ∀ i, r = some i → i < 1000) (hk : k < 1000) : oi r = Int32.ofNat k ↔ r = some k := by
  cases r with
  | none =>
    constructor
    · intro q; exact absurd q.symm (n_m1 hk)
    · intro q; cases q
  | some i =>
    have := hr i rfl
    constructor
    · intro q
      rw [show oi (some i) = Int32.ofNat i from rfl, n_eq (by omega) (by omega)] at q
      rw [q]
    · intro q; cases q; rfl
theorem cy_isW (h : YC β E m y) {k : Nat} (hk : k < 1000) : FX10_isWord f (Int32.ofNat k) m = some (if yI β E y = some k then 1 else 0, m) := by
  have hw := @cy_word f E β m y h
  unfold FX10_word at hw
  unfold FX10_isWord
  by_cases z : m.1 13 5 = 1
  · rw [if_pos z] at hw ⊢
    have e : m.1 13 7 = oi (yI β E y) := congrArg Prod.fst (Option.some.inj hw)
    rw [e]
    by_cases q : yI β E y = some k
    · rw [if_pos ((oi_eq (fun i hi => by have := yI_lt hi; omega) hk).mpr q), if_pos q]
    · rw [if_neg (fun x => q ((oi_eq (fun i hi => by have := yI_lt hi; omega) hk).mp x)), if_neg q]
  · rw [if_neg z] at hw ⊢
    have e : -1 = oi (yI β E y) := congrArg Prod.fst (Option.some.inj hw)
    rw [if_neg (fun q => by rw [q] at e; exact n_m1 hk e.symm)]
theorem cy_num (h : YC β E m y) : FX10_isNumber f m = some (if yK β E y = 2 then 1 else 0, m) := by
  unfold FX10_isNumber
  have := @yK_le E β y
  rw [cy_kind h]
  by_cases z : yK β E y = 2
  · rw [if_pos (by rw [z]; rfl), if_pos z]
  · rw [if_neg (fun q => z ((n_is 2 2 rfl (by omega) (by omega)).mp q)), if_neg z]
theorem cy_end (h : YC β E m y) : FX10_isEnd f m = some (if yK β E y = 0 then 1 else 0, m) := by
  unfold FX10_isEnd
  have := @yK_le E β y
  rw [cy_kind h]
  by_cases z : yK β E y = 0
  · rw [if_pos (by rw [z]; rfl), if_pos z]
  · rw [if_neg (fun q => z ((n_z (by omega)).mp q)), if_neg z]
theorem cy_good (h : YC β E m y) : FX10_isGood f m = some (if y.isRight = true then 1 else 0, m) := by
  unfold FX10_isGood
  cases y with
  | inl e =>
    obtain ⟨a1, a2, a3, a4, a5, a6⟩ := h
    rw [if_neg (by rw [a4]; exact fun q => by rw [n_z (by omega)] at q; omega)]
    rfl
  | inr x =>
    rw [if_pos h.2.2.1]
    rfl
theorem cy_tS (hf : 4000 ≤ f) (h : YC β E m y) (c : Int32) : ∃ m', FX10_takeSign f c m = some ((), m') ∧ YC β E m' (ytS β E c y) := by
  unfold FX10_takeSign ytS
  rw [cy_sign h, bd_some]
  by_cases z : yS β E c y = true
  · obtain ⟨m', r1, r2⟩ := cy_adv hf h
    rw [if_pos z, if_neg n10, r1, bd_some, if_pos z]
    exact ⟨m', rfl, r2⟩
  · obtain ⟨m', r1, r2⟩ := @cy_fail f E β m y h 1 (by omega) (by omega)
    have r1' : FX10_fail f 1 (m.1 13 2) m = some ((), m') := r1
    rw [if_neg z, if_pos rfl, r1', bd_some, if_neg z]
    exact ⟨m', rfl, r2⟩
theorem cy_tW (hf : 4000 ≤ f) (h : YC β E m y) {k : Nat} (hk : k < 1000) : ∃ m', FX10_takeWord f (Int32.ofNat k) m = some ((), m') ∧ YC β E m' (ytW β E k y) := by
  unfold FX10_takeWord ytW
  rw [cy_isW h hk, bd_some]
  by_cases z : yI β E y = some k
  · obtain ⟨m', r1, r2⟩ := cy_adv hf h
    rw [if_pos z, if_neg n10, r1, bd_some, if_pos z]
    exact ⟨m', rfl, r2⟩
  · obtain ⟨m', r1, r2⟩ := @cy_fail f E β m y h 1 (by omega) (by omega)
    have r1' : FX10_fail f 1 (m.1 13 2) m = some ((), m') := r1
    rw [if_neg z, if_pos rfl, r1', bd_some, if_neg z]
    exact ⟨m', rfl, r2⟩
theorem cy_tN (hf : 4000 ≤ f) (h : YC β E m y) {lo hi : Nat} (hlo : lo < 100000) (hhi : hi < 100000) : ∃ m', FX10_takeNumber f (Int32.ofNat lo) (Int32.ofNat hi) m = some (if (ytN β E lo hi y).isRight = true then Int32.ofNat (yval β E y) else Int32.ofNat lo, m') ∧ YC β E m' (ytN β E lo hi y) := by
  have J66 : ∀ (a3 : Int32) (m1 : ev_M) (e : Nat × Nat), CB m1 e → FX10_takeNumber_J66 f (Int32.ofNat lo) a3 m1 = some (Int32.ofNat lo, m1) := by
    intro a3 m1 e he
    have r0 := he
    obtain ⟨a1, a2, a3', a4, a5, a6⟩ := he
    unfold FX10_takeNumber_J66 FX10_advance FX10_isGood
    have hne : ¬ m1.1 13 3 = 0 := by rw [a4]; exact fun q => by rw [n_z (by omega)] at q; omega
    rw [if_neg hne, bd_some, if_neg hne, bd_some, if_pos rfl]
  unfold FX10_takeNumber
  cases y with
  | inl e =>
    obtain ⟨m1, r1, r2⟩ := @cy_failB f m e 1 (m.1 13 2) h
    rw [if_neg (by rw [h.2.2.2.2.2]; decide), r1, bd_some, J66 _ m1 e r2]
    exact ⟨m1, rfl, r2⟩
  | inr x =>
    have hh := h
    obtain ⟨a1, a2, a3, a4, a5, a6, a7, a8⟩ := h
    have hk := tkK_le β E x.1 x.2.1
    have hsk := sk_le (β := β) a2
    have hE := a1.1
    by_cases z : tkK β E x.1 x.2.1 = 2
    rotate_left
    · obtain ⟨m1, r1, r2⟩ := @cy_fail f E β m (.inr x) hh 1 (by omega) (by omega)
      have r1' : FX10_fail f 1 (m.1 13 2) m = some ((), m1) := r1
      rw [if_neg (by rw [a5]; exact fun q => z ((n_is 2 2 rfl (by omega) (by omega)).mp q)), r1', bd_some, J66 _ m1 _ r2, show ytN β E lo hi (.inr x) = .inl (1, sk β E x.1) from if_neg z]
      exact ⟨m1, rfl, r2⟩
    obtain ⟨v1, v2, v, v3, v4⟩ := tkV_2 z
    have hN : tkN β E x.1 ≤ 1600 := by
      have := rl_le (P := isDg) (β := β) (E := E) (p := sk β E x.1) hsk
      rw [v2]; omega
    have eZ : ytN β E lo hi (.inr x) = (if tkN β E x.1 ≤ 4 then (if (tkV β E x.1).toNatClampNeg < lo ∨ hi < (tkV β E x.1).toNatClampNeg then .inl (2, sk β E x.1) else yad β E (.inr x)) else .inl (1, sk β E x.1 + 4)) := if_pos z
    rw [if_pos (by rw [a5, z]; rfl), a7]
    by_cases z4 : tkN β E x.1 ≤ 4
    rotate_left
    · rw [if_neg (by rw [show (4 : Int32) = Int32.ofNat 4 from rfl, n_le (by omega) (by omega)]; exact z4), show ytN β E lo hi (.inr x) = .inl (1, sk β E x.1 + 4) from eZ.trans (if_neg z4)]
      have : FX10_fail f 1 (m.1 13 2 + 4) m = some ((), (ev_up (ev_up (ev_up m.1 13 3 1) 13 4 (m.1 13 2 + 4)) 13 5 4, m.2)) := by
        unfold FX10_fail; rw [if_pos a3]
      have hcb : CB (ev_up (ev_up (ev_up m.1 13 3 1) 13 4 (m.1 13 2 + 4)) 13 5 4, m.2) (1, sk β E x.1 + 4) := by
        refine ⟨Nat.le_refl 1, (show 1 ≤ 5 by decide), ?_, ?_, ?_, upI_at _ _ _ _ _⟩
        · show sk β E x.1 + 4 ≤ 2000
          omega
        · rw [upI_nk _ _ _ _ (by decide), up_nk _ _ _ (by decide), up_at]; rfl
        · rw [upI_nk _ _ _ _ (by decide), up_at, a6]; exact n_add _ 4
      rw [this, bd_some, J66 _ _ _ hcb]
      exact ⟨_, rfl, hcb⟩
    have e7 : m.1 13 7 = Int32.ofNat v := by rw [a8 (by omega), v3]
    have hv : (tkV β E x.1).toNatClampNeg = v := by rw [v3, n_nat (by omega)]
    rw [if_pos (by rw [show (4 : Int32) = Int32.ofNat 4 from rfl, n_le (by omega) (by omega)]; exact z4), e7]
    have eZ2 : ytN β E lo hi (.inr x) = (if v < lo ∨ hi < v then .inl (2, sk β E x.1) else yad β E (.inr x)) := by rw [eZ, if_pos z4, hv]
    have bad : (v < lo ∨ hi < v) → ∃ m', FX10_takeNumber_J57 f (Int32.ofNat lo) (Int32.ofNat v) m = some (Int32.ofNat lo, m') ∧ YC β E m' (.inl (2, sk β E x.1)) := by
      intro _
      unfold FX10_takeNumber_J57
      obtain ⟨m1, r1, r2⟩ := @cy_fail f E β m (.inr x) hh 2 (by omega) (by omega)
      have r1' : FX10_fail f 2 (m.1 13 2) m = some ((), m1) := r1
      rw [r1', bd_some, J66 _ m1 _ r2]
      exact ⟨m1, rfl, r2⟩
    by_cases y1 : v < lo
    · rw [if_pos ((n_lt (by omega) (by omega)).mpr y1), show ytN β E lo hi (.inr x) = .inl (2, sk β E x.1) from eZ2.trans (if_pos (Or.inl y1))]
      exact bad (Or.inl y1)
    rw [if_neg (fun q => y1 ((n_lt (by omega) (by omega)).mp q))]
    by_cases y2 : v ≤ hi
    · rw [if_pos ((n_le (by omega) (by omega)).mpr y2), show ytN β E lo hi (.inr x) = yad β E (.inr x) from eZ2.trans (if_neg (by omega))]
      obtain ⟨m1, r1, r2⟩ := cy_adv hf hh
      unfold FX10_takeNumber_J66
      rw [r1, bd_some, cy_good r2, bd_some]
      refine ⟨m1, ?_, r2⟩
      unfold yval
      simp only []
      rw [hv]
      rfl
    · rw [if_neg (fun q => y2 ((n_le (by omega) (by omega)).mp q)), show ytN β E lo hi (.inr x) = .inl (2, sk β E x.1) from eZ2.trans (if_pos (Or.inr (by omega)))]
      exact bad (Or.inr (by omega))
end
