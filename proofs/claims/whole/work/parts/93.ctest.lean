/-! TESTS as they should be read, and the class's reading -/
def yLw (β : Nat → Int32) (E k c : Nat) (r : Yr → Yr) : Nat → Yr → Yr
  | 0, y => y
  | j + 1, y => if yI β E y = some k then yLw β E k c r j (yput c (r (yad β E y))) else y
def yCmp (β : Nat → Int32) (E o : Nat) (y1 : Yr) : Yr :=
  if yS β E 60 y1 = true then yput 7 (PA β E 2 64 0 0 o (yad β E y1)) else if yS β E 62 y1 = true then yput 8 (PA β E 2 64 0 0 o (yad β E y1)) else if yS β E 61 y1 = true then yput 9 (PA β E 2 64 0 0 o (yad β E y1)) else yfail β E 1 y1
def yFaB (β : Nat → Int32) (E : Nat) (rc : Nat → Nat → Yr → Yr) (o : Nat) (y : Yr) : Yr :=
  if yI β E y = some 19 then (if o < 6 then yput 12 (rc 2 (o + 1) (yad β E y)) else yfail β E 4 y)
  else if yS β E 91 y = true then (if o < 6 then ytS β E 93 (rc 0 (o + 1) (yad β E y)) else yfail β E 4 y)
  else if yI β E y = some 20 then yput 13 (yad β E y)
  else yCmp β E o (PA β E 2 64 0 0 o y)
def TQ (β : Nat → Int32) (E : Nat) : Nat → Nat → Nat → Yr → Yr
  | 0, _, _, y => y
  | n + 1, 0, o, y => yLw β E 17 11 (TQ β E n 1 o) 1600 (TQ β E n 1 o y)
  | n + 1, 1, o, y => yLw β E 18 10 (TQ β E n 2 o) 1600 (TQ β E n 2 o y)
  | n + 1, _, o, y => yFaB β E (TQ β E n) o y
section
variable {β : Nat → Int32} {E : Nat}
theorem slk_lw {k c : Nat} {r : Yr → Yr} (hr : ∀ y, slk 0 y (r y)) : ∀ j y, slk 0 y (yLw β E k c r j y) := by
  intro j
  induction j with
  | zero => intro y; exact slk_refl y
  | succ j ih =>
    intro y
    unfold yLw
    by_cases z : yI β E y = some k
    · rw [if_pos z]
      have h1 : slk 1 y (r (yad β E y)) := slk_tr (slk_ad (by rw [yI_k z]; decide)) (hr _)
      exact slk_tr (slk_put h1) (ih _)
    · rw [if_neg z]; exact slk_refl y
theorem slk_cmp {o : Nat} {y1 : Yr} : slk 0 y1 (yCmp β E o y1) := by
  have key : ∀ (c : Nat) (s : Int32), yS β E s y1 = true → slk 0 y1 (yput c (PA β E 2 64 0 0 o (yad β E y1))) := by
    intro c s hs
    exact slk_put (slk_tr (a := 1) (b := 0) (slk_ad (by rw [yS_k hs]; decide)) (PA_slk 64 0 0 o _ (by omega)))
  unfold yCmp
  split
  · next z => exact key _ _ z
  · split
    · next z => exact key _ _ z
    · split
      · next z => exact key _ _ z
      · exact slk_fail
theorem TQ_slk : ∀ n idx o y, slk 0 y (TQ β E n idx o y) := by
  intro n
  induction n with
  | zero => intro idx o y; unfold TQ; exact slk_refl y
  | succ n ih =>
    have fact : ∀ o y, slk 0 y (yFaB β E (TQ β E n) o y) := by
      intro o y
      unfold yFaB
      split
      · next z =>
        split
        · exact slk_put (slk_tr (a := 1) (b := 0) (slk_ad (by rw [yI_k z]; decide)) (ih _ _ _))
        · exact slk_fail
      · split
        · split
          · exact slk_le (slk_tr (slk_tr slk_ad0 (ih _ _ _)) slk_tS) (by omega)
          · exact slk_fail
        · split
          · next z => exact slk_put (slk_ad (by rw [yI_k z]; decide))
          · exact slk_tr (a := 0) (b := 0) (PA_slk 64 0 0 o _ (by omega)) slk_cmp
    intro idx o y
    match idx with
    | 0 => exact slk_tr (ih 1 o y) (slk_lw (fun y => ih 1 o y) _ _)
    | 1 => exact slk_tr (ih 2 o y) (slk_lw (fun y => ih 2 o y) _ _)
    | k + 2 => exact fact o y
end
section
variable {f E fr : Nat} {β : Nat → Int32}
theorem ok23 : okc 23 := Or.inr (Or.inr rfl)
theorem yr_addv {o c : Nat} {m : ev_M} {y : Yr} {v : Int32} (hv : v = tr c) (h : YR β E 2 23 fr m o y) (hE : E ≤ 1600) (hb : ∀ x, y = .inr x → fr + x.2.2.length < x.1 ∧ x.1 ≤ E) (hc : c ≤ 13) : ∃ m', FX2_add f 23 v m = some ((), m') ∧ YR β E 2 23 fr m' o (yput c y) := by
  rw [hv]
  exact @yr_add f E 2 23 fr o β m y c 0 ok23 h hE hb (rh_of (by omega) (by omega) (by omega))
theorem c_sum {o : Nat} {m : ev_M} {y : Yr} (hf : 4000 ≤ f) (hE : E ≤ 1600) (ho : o ≤ 6) (h : YR β E 2 23 fr m o y) : ∃ m', FX9_readSum f m = some ((), m') ∧ YR β E 2 23 fr m' o (PA β E 2 64 0 0 o y) := FGA_PA hf ok23 hE (by omega) 64 0 0 o 0 m y ho (by omega) (by omega) (by omega) h
theorem c_cmp {o : Nat} {m : ev_M} {y : Yr} (hf : 4000 ≤ f) (hE : E ≤ 1600) (ho : o ≤ 6) (h : YR β E 2 23 fr m o y) : ∃ m', FX7_readComparison f m = some ((), m') ∧ YR β E 2 23 fr m' o (yCmp β E o (PA β E 2 64 0 0 o y)) := by
  unfold FX7_readComparison
  obtain ⟨m1, r1, h1⟩ := c_sum hf hE ho h
  rw [r1, bd_some]
  generalize PA β E 2 64 0 0 o y = y1 at h1 ⊢
  have J73 : ∀ (c : Nat) (v : Int32) (m2 : ev_M) (y2 : Yr), v = tr c → c ≤ 13 → yK β E y2 ≠ 0 → YR β E 2 23 fr m2 o y2 → ∃ m', FX7_readComparison_J73 f v m2 = some ((), m') ∧ YR β E 2 23 fr m' o (yput c (PA β E 2 64 0 0 o (yad β E y2))) := by
    intro c v m2 y2 hv hc hk h2
    unfold FX7_readComparison_J73
    obtain ⟨m3, r3, h3⟩ := yr_adv hf ok23 h2
    rw [r3, bd_some]
    obtain ⟨m4, r4, h4⟩ := c_sum hf hE ho h3
    rw [r4, bd_some]
    obtain ⟨m5, r5, h5⟩ := @yr_addv f E fr β o c m4 _ v hv h4 hE (hb_of h2 h4 (slk_tr (a := 1) (b := 0) (slk_ad hk) (PA_slk 64 0 0 o _ (by omega)))) hc
    rw [r5, bd_some]
    exact ⟨m5, rfl, h5⟩
  unfold yCmp
  rw [cy_sign h1.1, bd_some]
  by_cases z1 : yS β E 60 y1 = true
  · rw [if_pos z1, if_neg n10, if_pos z1]
    exact J73 7 _ m1 y1 (by rw [tr_sign (by omega)]; rfl) (by omega) (by rw [yS_k z1]; decide) h1
  rw [if_neg z1, if_pos rfl, cy_sign h1.1, bd_some, if_neg z1]
  by_cases z2 : yS β E 62 y1 = true
  · rw [if_pos z2, if_neg n10, if_pos z2]
    exact J73 8 _ m1 y1 (by rw [tr_sign (by omega)]; rfl) (by omega) (by rw [yS_k z2]; decide) h1
  rw [if_neg z2, if_pos rfl, cy_sign h1.1, bd_some, if_neg z2]
  by_cases z3 : yS β E 61 y1 = true
  · rw [if_pos z3, if_neg n10, if_pos z3]
    exact J73 9 _ m1 y1 (by rw [tr_sign (by omega)]; rfl) (by omega) (by rw [yS_k z3]; decide) h1
  rw [if_neg z3, if_pos rfl, if_neg z3]
  obtain ⟨m2, r2, h2⟩ := @yr_fail f E 2 23 fr o β m1 y1 ok23 h1 1 (by omega) (by omega)
  have r2' : FX10_fail f 1 (m1.1 13 2) m1 = some ((), m2) := r2
  rw [r2', bd_some]
  obtain ⟨e, he⟩ : ∃ e, yfail β E 1 y1 = .inl e := by
    cases y1 with
    | inl e => exact ⟨e, rfl⟩
    | inr x => exact ⟨_, rfl⟩
  obtain ⟨m3, r3, h3⟩ := J73 9 (-9) m2 _ (by rw [tr_sign (by omega)]; rfl) (by omega) (by rw [he]; show (4 : Nat) ≠ 0; decide) h2
  refine ⟨m3, r3, ?_⟩
  rw [he] at h3 ⊢
  have e2 : PA β E 2 64 0 0 o (yad β E (.inl e)) = .inl e := PA_badI 64 0 0 o
  rw [e2] at h3
  exact h3
theorem lw_or {o : Nat} (hf : 4000 ≤ f) (hE : E ≤ 1600) {rc : Nat → Int32 → ev_M → Option (Unit × ev_M)} {r : Yr → Yr} (hs : ∀ y, slk 0 y (r y)) (hr : ∀ m y, YR β E 2 23 fr m o y → ∃ m', rc 1 (0 : Int32) m = some ((), m') ∧ YR β E 2 23 fr m' o (r y)) (k : ev_M → Option (Unit × ev_M)) : ∀ j n m y, j ≤ 1600 → j < n → YR β E 2 23 fr m o y → ∃ m', FX7_readTest_L6 f rc k n (Int32.ofNat (1600 - j)) m = k m' ∧ YR β E 2 23 fr m' o (yLw β E 17 11 r j y) := by
  intro j
  induction j with
  | zero =>
    intro n m y _ hn h
    obtain ⟨n, rfl⟩ : ∃ i, n = i + 1 := ⟨n - 1, by omega⟩
    exact ⟨m, by unfold FX7_readTest_L6; rw [if_pos (by decide)], h⟩
  | succ j ih =>
    intro n m y hj hn h
    obtain ⟨n, rfl⟩ : ∃ i, n = i + 1 := ⟨n - 1, by omega⟩
    unfold FX7_readTest_L6
    have w : FX10_isWord f 17 m = some (if yI β E y = some 17 then 1 else 0, m) := @cy_isW f E β m y h.1 17 (by omega)
    rw [if_neg (by rw [show (1600 : Int32) = Int32.ofNat 1600 from rfl, n_le (by omega) (by omega)]; omega), w, bd_some]
    by_cases z : yI β E y = some 17
    · rw [if_pos z, if_neg n10]
      obtain ⟨m1, r1, h1⟩ := yr_adv hf ok23 h
      rw [r1, bd_some]
      obtain ⟨m2, r2, h2⟩ := hr m1 _ h1
      rw [r2, bd_some]
      obtain ⟨m3, r3, h3⟩ := @yr_addv f E fr β o 11 m2 _ (-11) (by rw [tr_sign (by omega)]; rfl) h2 hE (hb_of h h2 (slk_tr (a := 1) (b := 0) (slk_ad (by rw [yI_k z]; decide)) (hs _))) (by omega)
      rw [r3, bd_some, s_1, show 1600 - (j + 1) + 1 = 1600 - j by omega]
      have e : yLw β E 17 11 r (j + 1) y = yLw β E 17 11 r j (yput 11 (r (yad β E y))) := by
        show (if _ then _ else _) = _
        rw [if_pos z]
      rw [e]
      exact ih n m3 _ (by omega) (by omega) h3
    · rw [if_neg z, if_pos rfl]
      have e : yLw β E 17 11 r (j + 1) y = y := by
        show (if _ then _ else _) = _
        rw [if_neg z]
      rw [e]
      exact ⟨m, rfl, h⟩
theorem lw_and {o : Nat} (hf : 4000 ≤ f) (hE : E ≤ 1600) {rc : Nat → Int32 → ev_M → Option (Unit × ev_M)} {r : Yr → Yr} (hs : ∀ y, slk 0 y (r y)) (hr : ∀ m y, YR β E 2 23 fr m o y → ∃ m', rc 2 (0 : Int32) m = some ((), m') ∧ YR β E 2 23 fr m' o (r y)) (k : ev_M → Option (Unit × ev_M)) : ∀ j n m y, j ≤ 1600 → j < n → YR β E 2 23 fr m o y → ∃ m', FX7_readBoth_L6 f rc k n (Int32.ofNat (1600 - j)) m = k m' ∧ YR β E 2 23 fr m' o (yLw β E 18 10 r j y) := by
  intro j
  induction j with
  | zero =>
    intro n m y _ hn h
    obtain ⟨n, rfl⟩ : ∃ i, n = i + 1 := ⟨n - 1, by omega⟩
    exact ⟨m, by unfold FX7_readBoth_L6; rw [if_pos (by decide)], h⟩
  | succ j ih =>
    intro n m y hj hn h
    obtain ⟨n, rfl⟩ : ∃ i, n = i + 1 := ⟨n - 1, by omega⟩
    unfold FX7_readBoth_L6
    have w : FX10_isWord f 18 m = some (if yI β E y = some 18 then 1 else 0, m) := @cy_isW f E β m y h.1 18 (by omega)
    rw [if_neg (by rw [show (1600 : Int32) = Int32.ofNat 1600 from rfl, n_le (by omega) (by omega)]; omega), w, bd_some]
    by_cases z : yI β E y = some 18
    · rw [if_pos z, if_neg n10]
      obtain ⟨m1, r1, h1⟩ := yr_adv hf ok23 h
      rw [r1, bd_some]
      obtain ⟨m2, r2, h2⟩ := hr m1 _ h1
      rw [r2, bd_some]
      obtain ⟨m3, r3, h3⟩ := @yr_addv f E fr β o 10 m2 _ (-10) (by rw [tr_sign (by omega)]; rfl) h2 hE (hb_of h h2 (slk_tr (a := 1) (b := 0) (slk_ad (by rw [yI_k z]; decide)) (hs _))) (by omega)
      rw [r3, bd_some, s_1, show 1600 - (j + 1) + 1 = 1600 - j by omega]
      have e : yLw β E 18 10 r (j + 1) y = yLw β E 18 10 r j (yput 10 (r (yad β E y))) := by
        show (if _ then _ else _) = _
        rw [if_pos z]
      rw [e]
      exact ih n m3 _ (by omega) (by omega) h3
    · rw [if_neg z, if_pos rfl]
      have e : yLw β E 18 10 r (j + 1) y = y := by
        show (if _ then _ else _) = _
        rw [if_neg z]
      rw [e]
      exact ⟨m, rfl, h⟩
theorem FGB_TQ (hf : 4000 ≤ f) (hE : E ≤ 1600) : ∀ n idx o a m y, o ≤ 6 → 3 * (7 - o) ≤ n + min idx 2 → YR β E 2 23 fr m o y → ∃ m', FGB f n idx a m = some ((), m') ∧ YR β E 2 23 fr m' o (TQ β E n idx o y) := by
  intro n
  induction n with
  | zero => intro idx o a m y ho hn; omega
  | succ n ih =>
    intro idx o a m y ho hn h
    have fact : 2 ≤ idx → ∃ m', FX7_readFactB f (FGB f n) m = some ((), m') ∧ YR β E 2 23 fr m' o (yFaB β E (TQ β E n) o y) := by
      intro h2i
      have gd : yK β E y ≠ 4 → y.isRight = true := by
        intro q
        cases y with
        | inl e => exact absurd rfl q
        | inr x => rfl
      have w19 : FX10_isWord f 19 m = some (if yI β E y = some 19 then 1 else 0, m) := @cy_isW f E β m y h.1 19 (by omega)
      have w20 : FX10_isWord f 20 m = some (if yI β E y = some 20 then 1 else 0, m) := @cy_isW f E β m y h.1 20 (by omega)
      unfold FX7_readFactB yFaB
      rw [w19, bd_some]
      by_cases z1 : yI β E y = some 19
      · rw [if_pos z1, if_neg n10, if_pos z1]
        have op := yr_opens hf ok23 ho (gd (by rw [yI_k z1]; decide)) h
        by_cases h6 : o < 6
        · rw [if_pos h6] at op
          obtain ⟨m1, r1, h1⟩ := op
          rw [r1, bd_some, if_neg n10, if_pos h6]
          obtain ⟨m2, r2, h2⟩ := ih 2 (o + 1) 0 m1 _ (by omega) (by omega) h1
          rw [r2, bd_some]
          obtain ⟨m3, r3, h3⟩ := @yr_closes f E 2 23 fr β o m2 _ ok23 ho h2
          rw [r3, bd_some]
          obtain ⟨m4, r4, h4⟩ := @yr_addv f E fr β o 12 m3 _ (-12) (by rw [tr_sign (by omega)]; rfl) h3 hE (hb_of h h3 (slk_tr (a := 1) (b := 0) (slk_ad (by rw [yI_k z1]; decide)) (TQ_slk n 2 (o + 1) _))) (by omega)
          rw [r4, bd_some]
          exact ⟨m4, rfl, h4⟩
        · rw [if_neg h6] at op
          obtain ⟨m1, r1, h1⟩ := op
          rw [r1, bd_some, if_pos rfl, if_neg h6]
          exact ⟨m1, rfl, h1⟩
      rw [if_neg z1, if_pos rfl, cy_sign h.1, bd_some, if_neg z1]
      by_cases z2 : yS β E 91 y = true
      · rw [if_pos z2, if_neg n10, if_pos z2]
        have op := yr_opens hf ok23 ho (gd (by rw [yS_k z2]; decide)) h
        by_cases h6 : o < 6
        · rw [if_pos h6] at op
          obtain ⟨m1, r1, h1⟩ := op
          rw [r1, bd_some, if_neg n10, if_pos h6]
          obtain ⟨m2, r2, h2⟩ := ih 0 (o + 1) 0 m1 _ (by omega) (by omega) h1
          rw [r2, bd_some]
          obtain ⟨m3, r3, h3⟩ := yr_tS hf ok23 h2 93
          rw [r3, bd_some]
          obtain ⟨m4, r4, h4⟩ := @yr_closes f E 2 23 fr β o m3 _ ok23 ho h3
          rw [r4, bd_some]
          exact ⟨m4, rfl, h4⟩
        · rw [if_neg h6] at op
          obtain ⟨m1, r1, h1⟩ := op
          rw [r1, bd_some, if_pos rfl, if_neg h6]
          exact ⟨m1, rfl, h1⟩
      rw [if_neg z2, if_pos rfl, w20, bd_some, if_neg z2]
      by_cases z3 : yI β E y = some 20
      · rw [if_pos z3, if_neg n10, if_pos z3]
        obtain ⟨m1, r1, h1⟩ := yr_adv hf ok23 h
        rw [r1, bd_some]
        obtain ⟨m2, r2, h2⟩ := @yr_addv f E fr β o 13 m1 _ 1 (by rw [tr_all]) h1 hE (hb_of h h1 (slk_ad (by rw [yI_k z3]; decide))) (by omega)
        rw [r2, bd_some]
        exact ⟨m2, rfl, h2⟩
      · rw [if_neg z3, if_pos rfl, if_neg z3]
        obtain ⟨m1, r1, h1⟩ := c_cmp hf hE ho h
        rw [r1, bd_some]
        exact ⟨m1, rfl, h1⟩
    match idx with
    | 0 =>
      show ∃ m', FX7_readTestB f (FGB f n) m = _ ∧ YR β E 2 23 fr m' o (yLw β E 17 11 (TQ β E n 1 o) 1600 (TQ β E n 1 o y))
      unfold FX7_readTestB
      obtain ⟨m1, r1, h1⟩ := ih 1 o 0 m y ho (by omega) h
      rw [r1, bd_some]
      obtain ⟨m2, r2, h2⟩ := lw_or (rc := FGB f n) hf hE (fun y => TQ_slk n 1 o y) (fun m y h => ih 1 o 0 m y ho (by omega) h) (fun m11 => some ((), m11)) 1600 f m1 _ (by omega) (by omega) h1
      exact ⟨m2, r2, h2⟩
    | 1 =>
      show ∃ m', FX7_readBothB f (FGB f n) m = _ ∧ YR β E 2 23 fr m' o (yLw β E 18 10 (TQ β E n 2 o) 1600 (TQ β E n 2 o y))
      unfold FX7_readBothB
      obtain ⟨m1, r1, h1⟩ := ih 2 o 0 m y ho (by omega) h
      rw [r1, bd_some]
      obtain ⟨m2, r2, h2⟩ := lw_and (rc := FGB f n) hf hE (fun y => TQ_slk n 2 o y) (fun m y h => ih 2 o 0 m y ho (by omega) h) (fun m11 => some ((), m11)) 1600 f m1 _ (by omega) (by omega) h1
      exact ⟨m2, r2, h2⟩
    | k + 2 => exact fact (by omega)
end
