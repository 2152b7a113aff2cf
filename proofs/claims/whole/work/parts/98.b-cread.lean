/-! a QUESTION as it should be read, and the class's reading -/
def yEnd (β : Nat → Int32) (E : Nat) (y : Yr) : Yr := if yK β E y = 0 then y else yfail β E 1 y
def y0 : Yr := .inr (0, false, [])
def yAsk (β : Nat → Int32) (E : Nat) : Yr := match yI β E y0 with
  | none => yfail β E 1 y0
  | some w => if 23 ≤ w ∧ w ≤ 25 then yEnd β E (TQ β E 64 0 0 (yad β E y0)) else if 26 ≤ w ∧ w ≤ 28 then yEnd β E (PA β E 2 64 0 0 0 (yad β E y0)) else yfail β E 1 y0
section
variable {f E : Nat} {β : Nat → Int32}
theorem yr_22 {o : Nat} {m : ev_M} {y : Yr} {v : Int32} (h : YR β E 2 23 0 m o y) : YR β E 2 23 0 (ev_up m.1 22 6 v, m.2) o y := by
  obtain ⟨a1, a2, a3, ⟨z, a4, a5⟩, a6⟩ := h
  have g : ∀ a k, a ≠ 22 → ((ev_up m.1 22 6 v, m.2) : ev_M).1 a k = m.1 a k := fun a k q => by rw [upI_na _ _ _ _ q]
  refine ⟨YC_fr a1 (fun a k q => g a k (by omega)), by rw [g _ _ (by decide)]; exact a2, by rw [g _ _ (by decide)]; exact a3, ⟨z, a4, by rw [g _ _ (by decide)]; exact a5⟩, fun x e => ?_⟩
  obtain ⟨b1, b2, b3, b4, b5⟩ := a6 x e
  exact ⟨by rw [g _ _ (by decide)]; exact b1, by rw [g _ _ (by decide)]; exact b2, cells_fr _ _ (fun i _ _ => g _ _ (by decide)) b3, b4, by rw [g _ _ (by decide)]; exact b5⟩
theorem c_J151 {m : ev_M} {y : Yr} (h : YC β E m y) : FX7_read_J151 f m = some (if y.isRight = true then 1 else 0, m) := by
  unfold FX7_read_J151
  rw [cy_good h, bd_some]
  split
  · rw [if_pos (Or.inr rfl)]
  · rw [if_pos (Or.inl rfl)]
theorem c_J126 {m : ev_M} {y : Yr} (h : YR β E 2 23 0 m 0 y) : ∃ m', FX7_read_J126 f m = some (if (yEnd β E y).isRight = true then 1 else 0, m') ∧ YR β E 2 23 0 m' 0 (yEnd β E y) ∧ (∀ a k, a ≠ 13 → m'.1 a k = m.1 a k) := by
  unfold FX7_read_J126 yEnd
  rw [cy_end h.1, bd_some]
  by_cases z : yK β E y = 0
  · rw [if_pos z, if_neg n10, if_pos z, c_J151 h.1]
    exact ⟨m, rfl, h, fun _ _ _ => rfl⟩
  · rw [if_neg z, if_pos rfl, if_neg z]
    obtain ⟨m', r1, r2⟩ := @yr_fail f E 2 23 0 0 β m y ok23 h 1 (by omega) (by omega)
    have r1' : FX10_fail f 1 (m.1 13 2) m = some ((), m') := r1
    rw [r1', bd_some, c_J151 r2.1]
    exact ⟨m', rfl, r2, fun a k z => (MDX10_fail r1 a k (by unfold mdX10_fail; omega)).1⟩
theorem c_beginQ {m : ev_M} (hf : 4000 ≤ f) (hB : TB0 β E m) : ∃ m2 m4, FX10_begin f (ev_up m.1 23 1 0, m.2) = some ((), m2) ∧ FX9_begin f 23 2 m2 = some ((), m4) ∧ YR β E 2 23 0 m4 0 y0 := by
  have hB' : TB0 β E (ev_up m.1 23 1 0, m.2) := ⟨hB.1, by rw [upI_na _ _ _ _ (by decide)]; exact hB.2.1, fun i hi => by rw [upI_na _ _ _ _ (by decide)]; exact hB.2.2 i hi⟩
  obtain ⟨m2, r1, r2⟩ := c_begin hf hB'
  have fr : ∀ a k, a ≠ 13 → m2.1 a k = ((ev_up m.1 23 1 0, m.2) : ev_M).1 a k := fun a k z => (MDX10_begin r1 a k (by unfold mdX10_begin; omega)).1
  refine ⟨m2, _, r1, rfl, ?_⟩
  have g : ∀ a k, a ≠ 15 → ((ev_up (ev_up (ev_up (ev_up m2.1 15 1 (Int32.ofNat 23)) 15 2 2) 15 3 0) 15 4 0, m2.2) : ev_M).1 a k = m2.1 a k := fun a k q => by rw [upI_na _ _ _ _ q, up_na _ _ _ _ q, up_na _ _ _ _ q, up_na _ _ _ _ q]
  refine ⟨CT_fr r2 (fun a k q => g a k (by omega)), by rw [upI_nk _ _ _ _ (by decide), up_nk _ _ _ (by decide), up_nk _ _ _ (by decide), up_at], by rw [upI_nk _ _ _ _ (by decide), up_nk _ _ _ (by decide), up_at]; rfl, ⟨0, by omega, by rw [g _ _ (by decide), fr _ _ (by decide), upI_at]; rfl⟩, fun x e => ?_⟩
  have : x = (0, false, []) := (Sum.inr.inj e).symm
  subst this
  exact ⟨by rw [upI_nk _ _ _ _ (by decide), up_at]; rfl, by rw [g _ _ (by decide), fr _ _ (by decide), upI_at]; rfl, trivial, Nat.le_refl _, by rw [upI_at]; rfl⟩
theorem c_read {m : ev_M} (hf : 4000 ≤ f) (hB : TB0 β E m) : ∃ m', FX7_read f m = some (if (yAsk β E).isRight = true then 1 else 0, m') ∧ YR β E 2 23 0 m' 0 (yAsk β E) ∧ m'.1 22 6 = oi (yI β E y0) := by
  have hE := hB.1
  obtain ⟨m2, m4, r1, r2, h4⟩ := c_beginQ hf hB
  unfold FX7_read
  rw [r1, bd_some, r2, bd_some, cy_word h4.1, bd_some]
  have e22 : ∀ v : Int32, ((ev_up m4.1 22 6 v, m4.2) : ev_M).1 22 6 = v := fun v => upI_at _ _ _ _ _
  have tst : ∃ m', (ev_bd (FX10_advance f ((ev_up m4.1 22 6 (oi (yI β E y0))), m4.2)) (fun _ m8 => (ev_bd (FX7_readTest f m8) (fun _ m10 => (FX7_read_J126 f m10))))) = some (if (yEnd β E (TQ β E 64 0 0 (yad β E y0))).isRight = true then 1 else 0, m') ∧ YR β E 2 23 0 m' 0 (yEnd β E (TQ β E 64 0 0 (yad β E y0))) ∧ m'.1 22 6 = oi (yI β E y0) := by
    obtain ⟨m5, a1, a2⟩ := yr_adv hf ok23 (yr_22 (v := oi (yI β E y0)) h4)
    rw [a1, bd_some]
    obtain ⟨m6, b1, b2⟩ := FGB_TQ hf hE 64 0 0 0 m5 _ (by omega) (by omega) a2
    have b1' : FX7_readTest f m5 = some ((), m6) := b1
    rw [b1', bd_some]
    obtain ⟨m7, c1, c2, c3⟩ := @c_J126 f E β m6 _ b2
    refine ⟨m7, c1, c2, ?_⟩
    rw [c3 _ _ (by decide), (MDX7_readTest b1' 22 6 (by unfold mdX7_readTest; omega)).1, (MDX10_advance a1 22 6 (by unfold mdX10_advance; omega)).1, e22]
  have sms : ∃ m', (ev_bd (FX10_advance f ((ev_up m4.1 22 6 (oi (yI β E y0))), m4.2)) (fun _ m8 => (ev_bd (FX9_readSum f m8) (fun _ m10 => (FX7_read_J126 f m10))))) = some (if (yEnd β E (PA β E 2 64 0 0 0 (yad β E y0))).isRight = true then 1 else 0, m') ∧ YR β E 2 23 0 m' 0 (yEnd β E (PA β E 2 64 0 0 0 (yad β E y0))) ∧ m'.1 22 6 = oi (yI β E y0) := by
    obtain ⟨m5, a1, a2⟩ := yr_adv hf ok23 (yr_22 (v := oi (yI β E y0)) h4)
    rw [a1, bd_some]
    obtain ⟨m6, b1, b2⟩ := c_sum hf hE (by omega) a2
    rw [b1, bd_some]
    obtain ⟨m7, c1, c2, c3⟩ := @c_J126 f E β m6 _ b2
    refine ⟨m7, c1, c2, ?_⟩
    rw [c3 _ _ (by decide), (MDX9_readSum b1 22 6 (by unfold mdX9_readSum; omega)).1, (MDX10_advance a1 22 6 (by unfold mdX10_advance; omega)).1, e22]
  have bad : ∃ m', (ev_bd (FX10_fail f (1 : Int32) (m4.1 13 2) ((ev_up m4.1 22 6 (oi (yI β E y0))), m4.2)) (fun _ m44 => (FX7_read_J126 f m44))) = some (if (yfail β E 1 y0).isRight = true then 1 else 0, m') ∧ YR β E 2 23 0 m' 0 (yfail β E 1 y0) ∧ m'.1 22 6 = oi (yI β E y0) := by
    obtain ⟨m5, a1, a2⟩ := @yr_fail f E 2 23 0 0 β _ _ ok23 (yr_22 (v := oi (yI β E y0)) h4) 1 (by omega) (by omega)
    have e13 : ((ev_up m4.1 22 6 (oi (yI β E y0)), m4.2) : ev_M).1 13 2 = m4.1 13 2 := by rw [upI_na _ _ _ _ (by decide)]
    have a1' : FX10_fail f 1 (m4.1 13 2) (ev_up m4.1 22 6 (oi (yI β E y0)), m4.2) = some ((), m5) := by rw [← e13]; exact a1
    rw [a1', bd_some]
    obtain ⟨m7, c1, c2, c3⟩ := @c_J126 f E β m5 _ a2
    have ey : yEnd β E (yfail β E 1 y0) = yfail β E 1 y0 := if_neg (show ¬ (4 : Nat) = 0 by decide)
    rw [ey] at c1 c2
    refine ⟨m7, c1, c2, ?_⟩
    rw [c3 _ _ (by decide), (MDX10_fail a1 22 6 (by unfold mdX10_fail; omega)).1, e22]
  cases hi : yI β E y0 with
  | none =>
    rw [hi] at bad
    have hA : yAsk β E = yfail β E 1 y0 := by unfold yAsk; rw [hi]
    rw [hA]
    rw [show oi none = -1 from rfl, if_neg (by decide), if_neg (by decide), if_neg (by decide), if_neg (by decide), if_neg (by decide), if_neg (by decide)]
    exact bad
  | some w =>
    have hw := yI_lt hi
    rw [hi] at bad tst sms
    rw [show oi (some w) = Int32.ofNat w from rfl] at bad tst sms ⊢
    have nw : ∀ (c : Int32) (j : Nat), c = Int32.ofNat j → j < 1000 → (Int32.ofNat w = c ↔ w = j) := fun c j hc hj => n_is c j hc (by omega) (by omega)
    have A0 : yAsk β E = if 23 ≤ w ∧ w ≤ 25 then yEnd β E (TQ β E 64 0 0 (yad β E y0)) else if 26 ≤ w ∧ w ≤ 28 then yEnd β E (PA β E 2 64 0 0 0 (yad β E y0)) else yfail β E 1 y0 := by unfold yAsk; rw [hi]
    have A1 : (23 ≤ w ∧ w ≤ 25) → yAsk β E = yEnd β E (TQ β E 64 0 0 (yad β E y0)) := fun q => by rw [A0, if_pos q]
    have A2 : (26 ≤ w ∧ w ≤ 28) → yAsk β E = yEnd β E (PA β E 2 64 0 0 0 (yad β E y0)) := fun q => by rw [A0, if_neg (by omega), if_pos q]
    have A3 : ¬ (23 ≤ w ∧ w ≤ 28) → yAsk β E = yfail β E 1 y0 := fun q => by rw [A0, if_neg (by omega), if_neg (by omega)]
    by_cases z1 : w = 23
    · rw [if_pos ((nw 23 23 rfl (by omega)).mpr z1)]
      rw [A1 (by omega)]; exact tst
    rw [if_neg (fun q => z1 ((nw 23 23 rfl (by omega)).mp q))]
    by_cases z2 : w = 24
    · rw [if_pos ((nw 24 24 rfl (by omega)).mpr z2)]
      rw [A1 (by omega)]; exact tst
    rw [if_neg (fun q => z2 ((nw 24 24 rfl (by omega)).mp q))]
    by_cases z3 : w = 25
    · rw [if_pos ((nw 25 25 rfl (by omega)).mpr z3)]
      rw [A1 (by omega)]; exact tst
    rw [if_neg (fun q => z3 ((nw 25 25 rfl (by omega)).mp q))]
    by_cases z4 : w = 26
    · rw [if_pos ((nw 26 26 rfl (by omega)).mpr z4)]
      rw [A2 (by omega)]; exact sms
    rw [if_neg (fun q => z4 ((nw 26 26 rfl (by omega)).mp q))]
    by_cases z5 : w = 27
    · rw [if_pos ((nw 27 27 rfl (by omega)).mpr z5)]
      rw [A2 (by omega)]; exact sms
    rw [if_neg (fun q => z5 ((nw 27 27 rfl (by omega)).mp q))]
    by_cases z6 : w = 28
    · rw [if_pos ((nw 28 28 rfl (by omega)).mpr z6)]
      rw [A2 (by omega)]; exact sms
    rw [if_neg (fun q => z6 ((nw 28 28 rfl (by omega)).mp q))]
    rw [A3 (by omega)]
    exact bad
end
