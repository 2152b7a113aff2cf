theorem n_is {a : Nat} (c : Int32) (k : Nat) (hc : c = Int32.ofNat k) (ha : a < 2147483648) (hk : k < 2147483648) : Int32.ofNat a = c ↔ a = k := by rw [hc, n_eq ha hk]
/-! what stands at a place of the text: kind, size, value; 'w': a word or a number ended right there -/
def tkK (β : Nat → Int32) (E p : Nat) (w : Bool) : Nat :=
  if E ≤ sk β E p then 0 else if isL (β (sk β E p)) = true then (if w = true ∧ sk β E p = p then 4 else 1) else if isDg (β (sk β E p)) = true then (if w = true ∧ sk β E p = p then 4 else 2) else 3
def tkN (β : Nat → Int32) (E p : Nat) : Nat :=
  if E ≤ sk β E p then 0 else if isL (β (sk β E p)) = true then rl isL β E (sk β E p) else if isDg (β (sk β E p)) = true then rl isDg β E (sk β E p) else 1
def tkV (β : Nat → Int32) (E p : Nat) : Int32 :=
  if isL (β (sk β E p)) = true then oi (wv β (sk β E p) (rl isL β E (sk β E p))) else if isDg (β (sk β E p)) = true then dvN β (sk β E p) (min (rl isDg β E (sk β E p)) 4) else β (sk β E p)
def tkW (β : Nat → Int32) (E p : Nat) (w : Bool) : Bool := decide (tkK β E p w = 1 ∨ tkK β E p w = 2)
/-- the place behind it -/
def tkB (β : Nat → Int32) (E p : Nat) : Nat := sk β E p + tkN β E p
theorem tkB_le {β : Nat → Int32} {E p : Nat} (h : p ≤ E) : tkB β E p ≤ E := by
  unfold tkB tkN
  have h1 := sk_le (β := β) h
  by_cases z : E ≤ sk β E p
  · rw [if_pos z]; omega
  rw [if_neg z]
  split
  · exact rl_le h1
  · split
    · exact rl_le h1
    · omega
theorem tkN_pos {β : Nat → Int32} {E p : Nat} (h : sk β E p < E) : 0 < tkN β E p := by
  unfold tkN
  rw [if_neg (by omega)]
  by_cases z1 : isL (β (sk β E p)) = true
  · rw [if_pos z1]; exact rl_pos h z1
  rw [if_neg z1]
  by_cases z2 : isDg (β (sk β E p)) = true
  · rw [if_pos z2]; exact rl_pos h z2
  · rw [if_neg z2]; omega
theorem tkK_lt {β : Nat → Int32} {E p : Nat} {w : Bool} (h : tkK β E p w ≠ 0) : sk β E p < E := by
  unfold tkK at h
  by_cases z : E ≤ sk β E p
  · rw [if_pos z] at h; exact absurd rfl h
  · omega
theorem tkB_lt {β : Nat → Int32} {E p : Nat} {w : Bool} (h : tkK β E p w ≠ 0) : p < tkB β E p := by
  have h1 := tkK_lt h
  have h2 := tkN_pos h1
  have h3 := sk_ge β E p
  unfold tkB
  omega
theorem tkK_le (β : Nat → Int32) (E p : Nat) (w : Bool) : tkK β E p w ≤ 4 := by
  unfold tkK
  split
  · omega
  · split
    · split <;> omega
    · split
      · split <;> omega
      · omega
def CT (β : Nat → Int32) (E : Nat) (m : ev_M) (p : Nat) (w : Bool) : Prop :=
  TB0 β E m ∧ p ≤ E ∧ m.1 13 3 = 0 ∧ m.1 13 4 = -1 ∧ m.1 13 5 = Int32.ofNat (tkK β E p w) ∧ m.1 13 2 = Int32.ofNat (sk β E p) ∧ m.1 13 6 = Int32.ofNat (tkN β E p) ∧ (tkK β E p w ≠ 0 → m.1 13 7 = tkV β E p)
theorem CT_fr {β : Nat → Int32} {E p : Nat} {w : Bool} {m m' : ev_M} (h : CT β E m p w) (h1 : ∀ a k, a = 13 ∨ a = 14 → m'.1 a k = m.1 a k) : CT β E m' p w := by
  obtain ⟨⟨a1, a2, a3⟩, a4, a5, a6, a7, a8, a9, a10⟩ := h
  exact ⟨⟨a1, by rw [h1 _ _ (by omega)]; exact a2, fun i hi => by rw [h1 _ _ (by omega)]; exact a3 i hi⟩, a4, by rw [h1 _ _ (by omega)]; exact a5, by rw [h1 _ _ (by omega)]; exact a6, by rw [h1 _ _ (by omega)]; exact a7, by rw [h1 _ _ (by omega)]; exact a8, by rw [h1 _ _ (by omega)]; exact a9, fun z => by rw [h1 _ _ (by omega)]; exact a10 z⟩
theorem c_lex {f E p : Nat} {β : Nat → Int32} {w : Bool} {m : ev_M} (hf : 4000 ≤ f) (hB : TB0 β E m) (hp : p ≤ E) (h3 : m.1 13 3 = 0) (h4 : m.1 13 4 = -1) (hb : m.1 13 2 + m.1 13 6 = Int32.ofNat p) : ∃ m', FX10_advance_J29 f (if w = true then 1 else 0) m = some ((), m') ∧ CT β E m' p w := by
  have hE := hB.1
  obtain ⟨m1, r1, r2, r3⟩ := @c_skipL f E β (ev_up m.1 13 2 (Int32.ofNat p), m.2) (fun m1 => some ((), m1)) (TB0_fr hB (fun a k z => by
    show ev_up m.1 13 2 _ a k = _
    by_cases e : a = 13
    · subst e; rw [up_nk _ _ _ (by omega)]
    · rw [up_na _ _ _ _ e])) (E - p) p f (ev_up m.1 13 2 (Int32.ofNat p), m.2) (by omega) (by omega) (by omega) (onl_refl _ _) (upI_at _ _ _ _ _)
  have g1 : ∀ a k, ¬ (a = 13 ∧ k = 2) → m1.1 a k = m.1 a k := fun a k z => by
    rw [r2.2 a k z]
    show ev_up m.1 13 2 _ a k = _
    by_cases e : a = 13
    · subst e; rw [up_nk _ _ _ (by omega)]
    · rw [up_na _ _ _ _ e]
  have hB1 : TB0 β E m1 := TB0_fr hB (fun a k z => g1 a k (by omega))
  obtain ⟨b1, b2, b3⟩ := hB1
  have hskE := sk_le (β := β) hp
  -- all ends
  have fin : ∀ (m2 : ev_M) (kd N : Nat), TB0 β E m2 → m2.1 13 3 = 0 → m2.1 13 4 = -1 → m2.1 13 5 = Int32.ofNat kd → m2.1 13 2 = Int32.ofNat (sk β E p) → m2.1 13 6 = Int32.ofNat (tkN β E p) → (E ≤ sk β E p ∨ m2.1 13 7 = tkV β E p) → (kd = if E ≤ sk β E p then 0 else if isL (β (sk β E p)) = true then 1 else if isDg (β (sk β E p)) = true then 2 else 3) → ∃ m', FX10_advance_J136 f (if w = true then 1 else 0) (Int32.ofNat p) m2 = some ((), m') ∧ CT β E m' p w := by
    intro m2 kd N q1 q2 q3 q4 q5 q6 q7 q8
    have hv : tkK β E p w ≠ 0 → m2.1 13 7 = tkV β E p := fun z => by
      rcases q7 with y | y
      · have := tkK_lt z; omega
      · exact y
    unfold FX10_advance_J136
    have stay : tkK β E p w = kd → CT β E m2 p w := fun z => ⟨q1, hp, q2, q3, by rw [z]; exact q4, q5, q6, hv⟩
    have chg : tkK β E p w = 4 → CT β E (ev_up m2.1 13 5 4, m2.2) p w := fun z => by
      refine ⟨TB0_fr q1 (fun a k y => ?_), hp, ?_, ?_, ?_, ?_, ?_, fun y => ?_⟩
      · show ev_up m2.1 13 5 4 a k = _
        by_cases e : a = 13
        · subst e; rw [up_nk _ _ _ (by omega)]
        · rw [up_na _ _ _ _ e]
      · rw [upI_nk _ _ _ _ (by decide)]; exact q2
      · rw [upI_nk _ _ _ _ (by decide)]; exact q3
      · rw [upI_at, z]; rfl
      · rw [upI_nk _ _ _ _ (by decide)]; exact q5
      · rw [upI_nk _ _ _ _ (by decide)]; exact q6
      · rw [upI_nk _ _ _ _ (by decide)]; exact hv y
    have kc : tkK β E p w = if (w = true ∧ sk β E p = p) ∧ (kd = 1 ∨ kd = 2) then 4 else kd := by
      rw [q8]
      unfold tkK
      by_cases z1 : E ≤ sk β E p
      · rw [if_pos z1, if_pos z1, if_neg (by omega)]
      rw [if_neg z1, if_neg z1]
      by_cases z2 : isL (β (sk β E p)) = true
      · rw [if_pos z2, if_pos z2]
        by_cases z3 : w = true ∧ sk β E p = p
        · rw [if_pos z3, if_pos ⟨z3, Or.inl rfl⟩]
        · rw [if_neg z3, if_neg (fun y => z3 y.1)]
      rw [if_neg z2, if_neg z2]
      by_cases z4 : isDg (β (sk β E p)) = true
      · rw [if_pos z4, if_pos z4]
        by_cases z3 : w = true ∧ sk β E p = p
        · rw [if_pos z3, if_pos ⟨z3, Or.inr rfl⟩]
        · rw [if_neg z3, if_neg (fun y => z3 y.1)]
      · rw [if_neg z4, if_neg z4, if_neg (by omega)]
    have hkd : kd ≤ 3 := by rw [q8]; split; omega; split; omega; split <;> omega
    by_cases zw : w = true
    · rw [if_pos zw, if_neg n10, q5]
      by_cases zs : sk β E p = p
      · rw [if_pos (by rw [zs]), q4]
        by_cases k1 : kd = 1
        · rw [if_pos (by rw [k1]; rfl)]
          exact ⟨_, rfl, chg (by rw [kc, if_pos ⟨⟨zw, zs⟩, Or.inl k1⟩])⟩
        rw [if_neg (fun y => k1 ((n_is 1 1 rfl (by omega) (by omega)).mp y))]
        by_cases k2 : kd = 2
        · rw [if_pos (by rw [k2]; rfl)]
          exact ⟨_, rfl, chg (by rw [kc, if_pos ⟨⟨zw, zs⟩, Or.inr k2⟩])⟩
        rw [if_neg (fun y => k2 ((n_is 2 2 rfl (by omega) (by omega)).mp y))]
        exact ⟨m2, rfl, stay (by rw [kc, if_neg (by omega)])⟩
      · rw [if_neg (fun y => zs ((n_eq (by omega) (by omega)).mp y))]
        exact ⟨m2, rfl, stay (by rw [kc, if_neg (fun y => zs y.1.2)])⟩
    · rw [if_neg zw, if_pos rfl]
      exact ⟨m2, rfl, stay (by rw [kc, if_neg (fun y => zw y.1.1)])⟩
  unfold FX10_advance_J29 FX10_skipBlanks
  rw [hb, r1, bd_some, r3, b2]
  by_cases z : E ≤ sk β E p
  · rw [if_neg (fun q => by rw [n_lt (by omega) (by omega)] at q; omega)]
    refine fin _ 0 0 (TB0_fr ⟨b1, b2, b3⟩ (fun a k y => ?_)) ?_ ?_ ?_ ?_ ?_ (Or.inl z) (by rw [if_pos z])
    · show ev_up (ev_up m1.1 13 5 0) 13 6 0 a k = _
      by_cases e : a = 13
      · subst e; rw [up_nk _ _ _ (by omega), up_nk _ _ _ (by omega)]
      · rw [up_na _ _ _ _ e, up_na _ _ _ _ e]
    · rw [upI_nk _ _ _ _ (by decide), up_nk _ _ _ (by decide), g1 _ _ (by omega)]; exact h3
    · rw [upI_nk _ _ _ _ (by decide), up_nk _ _ _ (by decide), g1 _ _ (by omega)]; exact h4
    · rw [upI_nk _ _ _ _ (by decide), up_at]; rfl
    · rw [upI_nk _ _ _ _ (by decide), up_nk _ _ _ (by decide)]; exact r3
    · rw [upI_at]; unfold tkN; rw [if_pos z]; rfl
  have hs : sk β E p < E := by omega
  rw [if_pos ((n_lt (by omega) (by omega)).mpr hs), if_pos ((n_in (by omega)).mpr (by omega)), n_nat (by omega), b3 _ (by omega), c_isL, bd_some]
  by_cases z1 : isL (β (sk β E p)) = true
  · rw [if_pos z1, if_neg n10]
    unfold FX10_readWord
    have hB2 : TB0 β E (ev_up (ev_up m1.1 13 5 1) 13 6 0, m1.2) := TB0_fr ⟨b1, b2, b3⟩ (fun a k y => by
      show ev_up (ev_up m1.1 13 5 1) 13 6 0 a k = _
      by_cases e : a = 13
      · subst e; rw [up_nk _ _ _ (by omega), up_nk _ _ _ (by omega)]
      · rw [up_na _ _ _ _ e, up_na _ _ _ _ e])
    have hs2 : ((ev_up (ev_up m1.1 13 5 1) 13 6 0, m1.2) : ev_M).1 13 2 = Int32.ofNat (sk β E p) := by rw [upI_nk _ _ _ _ (by decide), up_nk _ _ _ (by decide)]; exact r3
    obtain ⟨m2, u1, u2, u3⟩ := @c_rwL f E (sk β E p) β (ev_up (ev_up m1.1 13 5 1) 13 6 0, m1.2) (fun m3 => (FX10_readWord_J59 f m3)) hB2 hs2 E 0 f (ev_up (ev_up m1.1 13 5 1) 13 6 0, m1.2) (by omega) (by omega) (by omega) (onl_refl _ _) (upI_at _ _ _ _ _)
    rw [Nat.zero_add, Nat.add_zero] at u3
    rw [u1]
    unfold FX10_readWord_J59
    have g2 : ∀ a k, ¬ (a = 13 ∧ (k = 2 ∨ k = 5 ∨ k = 6)) → m2.1 a k = m.1 a k := fun a k y => by
      rw [u2.2 a k (by omega), ← g1 a k (by omega)]
      show ev_up (ev_up m1.1 13 5 1) 13 6 0 a k = _
      by_cases e : a = 13
      · subst e; rw [up_nk _ _ _ (by omega), up_nk _ _ _ (by omega)]
      · rw [up_na _ _ _ _ e, up_na _ _ _ _ e]
    have hrl := rl_le (P := isL) (β := β) (E := E) (p := sk β E p) (by omega)
    have hB3 : TB0 β E (ev_up m2.1 13 7 (-1), m2.2) := TB0_fr hB (fun a k y => by
      show ev_up m2.1 13 7 (-1) a k = _
      by_cases e : a = 13
      · subst e; rw [up_nk _ _ _ (by omega)]; exact g2 _ _ (by omega)
      · rw [up_na _ _ _ _ e]; exact g2 _ _ (by omega))
    have hs3 : ((ev_up m2.1 13 7 (-1), m2.2) : ev_M).1 13 2 = Int32.ofNat (sk β E p) := by rw [upI_nk _ _ _ _ (by decide), u2.2 13 2 (by omega)]; exact hs2
    have hn3 : ((ev_up m2.1 13 7 (-1), m2.2) : ev_M).1 13 6 = Int32.ofNat (rl isL β E (sk β E p)) := by rw [upI_nk _ _ _ _ (by decide)]; exact u3
    obtain ⟨m3, v1, v2, v3⟩ := @c_rwW f E (sk β E p) (rl isL β E (sk β E p)) β (ev_up m2.1 13 7 (-1), m2.2) (fun m6 => some ((), m6)) (by omega) hB3 hs3 hn3 hrl 29 0 f (ev_up m2.1 13 7 (-1), m2.2) (by omega) (by omega) (onl_refl _ _) (upI_at _ _ _ _ _)
    rw [z0] at v1
    rw [v1, bd_some]
    have g3 : ∀ a k, ¬ (a = 13 ∧ (k = 2 ∨ k = 5 ∨ k = 6 ∨ k = 7)) → m3.1 a k = m.1 a k := fun a k y => by
      rw [v2.2 a k (by omega), ← g2 a k (by omega)]
      show ev_up m2.1 13 7 (-1) a k = _
      by_cases e : a = 13
      · subst e; rw [up_nk _ _ _ (by omega)]
      · rw [up_na _ _ _ _ e]
    refine fin m3 1 0 (TB0_fr hB (fun a k y => g3 a k (by omega))) (by rw [g3 _ _ (by omega)]; exact h3) (by rw [g3 _ _ (by omega)]; exact h4) ?_ ?_ ?_ (Or.inr ?_) (by rw [if_neg z, if_pos z1])
    · rw [v2.2 13 5 (by omega), upI_nk _ _ _ _ (by decide), u2.2 13 5 (by omega), upI_nk _ _ _ _ (by decide), up_at]; rfl
    · rw [v2.2 13 2 (by omega)]; exact hs3
    · rw [v2.2 13 6 (by omega), hn3]; unfold tkN; rw [if_neg z, if_pos z1]
    · rw [v3]; unfold tkV wv; rw [if_pos z1]
  · rw [if_neg z1, if_pos rfl, r3, if_pos ((n_in (by omega)).mpr (by omega)), n_nat (by omega), b3 _ (by omega), c_isD, bd_some]
    by_cases z2 : isDg (β (sk β E p)) = true
    · rw [if_pos z2, if_neg n10]
      unfold FX10_readNumber
      have gg : ∀ a k, ¬ (a = 13 ∧ (k = 5 ∨ k = 6 ∨ k = 7)) → ((ev_up (ev_up (ev_up m1.1 13 5 2) 13 6 0) 13 7 0, m1.2) : ev_M).1 a k = m1.1 a k := fun a k y => by
        show ev_up (ev_up (ev_up m1.1 13 5 2) 13 6 0) 13 7 0 a k = _
        by_cases e : a = 13
        · subst e; rw [up_nk _ _ _ (by omega), up_nk _ _ _ (by omega), up_nk _ _ _ (by omega)]
        · rw [up_na _ _ _ _ e, up_na _ _ _ _ e, up_na _ _ _ _ e]
      have hB2 : TB0 β E (ev_up (ev_up (ev_up m1.1 13 5 2) 13 6 0) 13 7 0, m1.2) := TB0_fr ⟨b1, b2, b3⟩ (fun a k y => gg a k (by omega))
      obtain ⟨m2, u1, u2, u3, u4, u5⟩ := @c_rnL f E (sk β E p) β (ev_up (ev_up (ev_up m1.1 13 5 2) 13 6 0) 13 7 0, m1.2) (fun m3 => some ((), m3)) hB2 (by rw [gg _ _ (by omega)]; exact r3) E 0 f (ev_up (ev_up (ev_up m1.1 13 5 2) 13 6 0) 13 7 0, m1.2) (by omega) (by omega) (by omega) rfl (fun _ _ _ => rfl) (by rw [upI_nk _ _ _ _ (by decide), up_at]; rfl) (by rw [upI_at]; rfl)
      rw [Nat.zero_add, Nat.add_zero] at u4 u5
      rw [u1, bd_some]
      have g3 : ∀ a k, ¬ (a = 13 ∧ (k = 2 ∨ k = 5 ∨ k = 6 ∨ k = 7)) → m2.1 a k = m.1 a k := fun a k y => by
        rw [u3 a k (by omega), gg a k (by omega), g1 a k (by omega)]
      refine fin m2 2 0 (TB0_fr hB (fun a k y => g3 a k (by omega))) (by rw [g3 _ _ (by omega)]; exact h3) (by rw [g3 _ _ (by omega)]; exact h4) ?_ ?_ ?_ (Or.inr ?_) (by rw [if_neg z, if_neg z1, if_pos z2])
      · rw [u3 13 5 (by omega), upI_nk _ _ _ _ (by decide), up_nk _ _ _ (by decide), up_at]; rfl
      · rw [u3 13 2 (by omega), gg _ _ (by omega)]; exact r3
      · rw [u4]; unfold tkN; rw [if_neg z, if_neg z1, if_pos z2]
      · rw [u5]; unfold tkV; rw [if_neg z1, if_pos z2]
    · rw [if_neg z2, if_pos rfl, r3, if_pos ((n_in (by omega)).mpr (by omega)), n_nat (by omega), b3 _ (by omega)]
      have gg : ∀ v, ∀ a k, ¬ (a = 13 ∧ (k = 5 ∨ k = 6 ∨ k = 7)) → ((ev_up (ev_up (ev_up m1.1 13 5 3) 13 6 1) 13 7 v, m1.2) : ev_M).1 a k = m1.1 a k := fun v a k y => by
        show ev_up (ev_up (ev_up m1.1 13 5 3) 13 6 1) 13 7 v a k = _
        by_cases e : a = 13
        · subst e; rw [up_nk _ _ _ (by omega), up_nk _ _ _ (by omega), up_nk _ _ _ (by omega)]
        · rw [up_na _ _ _ _ e, up_na _ _ _ _ e, up_na _ _ _ _ e]
      refine fin _ 3 0 (TB0_fr ⟨b1, b2, b3⟩ (fun a k y => gg _ a k (by omega))) ?_ ?_ ?_ ?_ ?_ (Or.inr ?_) (by rw [if_neg z, if_neg z1, if_neg z2])
      · rw [gg _ _ _ (by omega), g1 _ _ (by omega)]; exact h3
      · rw [gg _ _ _ (by omega), g1 _ _ (by omega)]; exact h4
      · rw [upI_nk _ _ _ _ (by decide), up_nk _ _ _ (by decide), up_at]; rfl
      · rw [gg _ _ _ (by omega)]; exact r3
      · rw [upI_nk _ _ _ _ (by decide), up_at]; unfold tkN; rw [if_neg z, if_neg z1, if_neg z2]; rfl
      · rw [upI_at]; unfold tkV; rw [if_neg z1, if_neg z2]
theorem c_adv {f E p : Nat} {β : Nat → Int32} {w : Bool} {m : ev_M} (hf : 4000 ≤ f) (h : CT β E m p w) : ∃ m', FX10_advance f m = some ((), m') ∧ CT β E m' (tkB β E p) (tkW β E p w) := by
  obtain ⟨a1, a2, a3, a4, a5, a6, a7, a8⟩ := h
  have hk := tkK_le β E p w
  have hp' := tkB_le (β := β) a2
  have hb : m.1 13 2 + m.1 13 6 = Int32.ofNat (tkB β E p) := by rw [a6, a7, n_add]; rfl
  have r := @c_lex f E (tkB β E p) β (tkW β E p w) m hf a1 hp' a3 a4 hb
  unfold FX10_advance FX10_advance_J24
  rw [if_pos a3, a5]
  unfold tkW at r ⊢
  by_cases z1 : tkK β E p w = 1
  · rw [if_pos (by rw [z1]; rfl)]
    simp only [z1] at r
    simp only [z1]
    simpa using r
  rw [if_neg (fun q => z1 ((n_is 1 1 rfl (by omega) (by omega)).mp q))]
  by_cases z2 : tkK β E p w = 2
  · rw [if_pos (by rw [z2]; rfl)]
    simp only [z2] at r
    simp only [z2]
    simpa using r
  rw [if_neg (fun q => z2 ((n_is 2 2 rfl (by omega) (by omega)).mp q))]
  rw [decide_eq_false (show ¬ (tkK β E p w = 1 ∨ tkK β E p w = 2) by omega)] at r ⊢
  rw [if_neg (by decide)] at r
  exact r
theorem c_begin {f E : Nat} {β : Nat → Int32} {m : ev_M} (hf : 4000 ≤ f) (hB : TB0 β E m) : ∃ m', FX10_begin f m = some ((), m') ∧ CT β E m' 0 false := by
  have gg : ∀ a k, ¬ (a = 13 ∧ (k = 5 ∨ k = 2 ∨ k = 6 ∨ k = 3 ∨ k = 4)) → ((ev_up (ev_up (ev_up (ev_up (ev_up m.1 13 5 3) 13 2 0) 13 6 0) 13 3 0) 13 4 (-1), m.2) : ev_M).1 a k = m.1 a k := fun a k y => by
    show ev_up (ev_up (ev_up (ev_up (ev_up m.1 13 5 3) 13 2 0) 13 6 0) 13 3 0) 13 4 (-1) a k = _
    by_cases e : a = 13
    · subst e; rw [up_nk _ _ _ (by omega), up_nk _ _ _ (by omega), up_nk _ _ _ (by omega), up_nk _ _ _ (by omega), up_nk _ _ _ (by omega)]
    · rw [up_na _ _ _ _ e, up_na _ _ _ _ e, up_na _ _ _ _ e, up_na _ _ _ _ e, up_na _ _ _ _ e]
  have e3 : ((ev_up (ev_up (ev_up (ev_up (ev_up m.1 13 5 3) 13 2 0) 13 6 0) 13 3 0) 13 4 (-1), m.2) : ev_M).1 13 3 = 0 := by rw [upI_nk _ _ _ _ (by decide), up_at]
  have e5 : ((ev_up (ev_up (ev_up (ev_up (ev_up m.1 13 5 3) 13 2 0) 13 6 0) 13 3 0) 13 4 (-1), m.2) : ev_M).1 13 5 = 3 := by rw [upI_nk _ _ _ _ (by decide), up_nk _ _ _ (by decide), up_nk _ _ _ (by decide), up_nk _ _ _ (by decide), up_at]
  have e2 : ((ev_up (ev_up (ev_up (ev_up (ev_up m.1 13 5 3) 13 2 0) 13 6 0) 13 3 0) 13 4 (-1), m.2) : ev_M).1 13 2 = 0 := by rw [upI_nk _ _ _ _ (by decide), up_nk _ _ _ (by decide), up_nk _ _ _ (by decide), up_at]
  have e6 : ((ev_up (ev_up (ev_up (ev_up (ev_up m.1 13 5 3) 13 2 0) 13 6 0) 13 3 0) 13 4 (-1), m.2) : ev_M).1 13 6 = 0 := by rw [upI_nk _ _ _ _ (by decide), up_nk _ _ _ (by decide), up_at]
  obtain ⟨m', r1, r2⟩ := @c_lex f E 0 β false _ hf (TB0_fr hB (fun a k y => gg a k (by omega))) (by omega) e3 (upI_at _ _ _ _ _) (by rw [e2, e6]; rfl)
  unfold FX10_begin FX10_advance
  rw [if_pos e3, if_neg (by rw [e5]; decide), if_neg (by rw [e5]; decide)]
  rw [if_neg (by decide)] at r1
  rw [r1, bd_some]
  exact ⟨m', rfl, r2⟩
