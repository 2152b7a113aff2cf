/-! a CASTLE as it should be read -/
def yRun (β : Nat → Int32) (E : Nat) : Nat → Yr × sp_Q → Nat → (Yr × sp_Q) × Nat
  | 0, R, rd => (R, rd)
  | n + 1, R, rd => match R.1 with
    | .inl _ => (R, rd)
    | .inr x => if tkK β E x.1 x.2.1 = 0 then (R, rd) else yRun β E n (ySt β E R.2 x) (rd + 1)
def yFin (β : Nat → Int32) (E : Nat) (y : Yr) : Yr := if yK β E y = 0 then y else yfail β E 5 y
def yCall (β : Nat → Int32) (E : Nat) : Yr := ytW β E 0 (.inr (0, false, []))
def q0A : sp_A := (0, fun _ _ => 0, fun _ => 0, fun _ => 0, fun _ => false)
def q0 : sp_Q := (q0A, (4, 3, 0), (none, none))
def yBeg (β : Nat → Int32) (E : Nat) : Yr × sp_Q := (ytS β E 59 (ytN β E 0 9 (yCall β E)), q0)
/-- all of the text: what is read, and how many statements -/
def yAll (β : Nat → Int32) (E : Nat) : (Yr × sp_Q) × Nat := yRun β E 59 (yBeg β E) 1
def yEnds (β : Nat → Int32) (E : Nat) : Yr := yFin β E (yAll β E).1.1
section
variable {f E : Nat} {β : Nat → Int32}
theorem yRun_s {n rd : Nat} {R : Yr × sp_Q} {x : Nat × Bool × List Nat} (h : R.1 = .inr x) (hk : ¬ tkK β E x.1 x.2.1 = 0) : yRun β E (n + 1) R rd = yRun β E n (ySt β E R.2 x) (rd + 1) := by
  show (match R.1 with | .inl _ => (R, rd) | .inr x => if tkK β E x.1 x.2.1 = 0 then (R, rd) else yRun β E n (ySt β E R.2 x) (rd + 1)) = _
  rw [h]
  show (if tkK β E x.1 x.2.1 = 0 then (R, rd) else yRun β E n (ySt β E R.2 x) (rd + 1)) = _
  rw [if_neg hk]
theorem yRun_e {n rd : Nat} {R : Yr × sp_Q} {x : Nat × Bool × List Nat} (h : R.1 = .inr x) (hk : tkK β E x.1 x.2.1 = 0) : yRun β E n R rd = (R, rd) := by
  cases n with
  | zero => rfl
  | succ n =>
    show (match R.1 with | .inl _ => (R, rd) | .inr x => if tkK β E x.1 x.2.1 = 0 then (R, rd) else yRun β E n (ySt β E R.2 x) (rd + 1)) = _
    rw [h]
    show (if tkK β E x.1 x.2.1 = 0 then (R, rd) else yRun β E n (ySt β E R.2 x) (rd + 1)) = _
    rw [if_pos hk]
theorem yRun_b {n rd : Nat} {R : Yr × sp_Q} {e : Nat × Nat} (h : R.1 = .inl e) : yRun β E n R rd = (R, rd) := by
  cases n with
  | zero => rfl
  | succ n =>
    show (match R.1 with | .inl _ => (R, rd) | .inr x => if tkK β E x.1 x.2.1 = 0 then (R, rd) else yRun β E n (ySt β E R.2 x) (rd + 1)) = _
    rw [h]
theorem yRun_le : ∀ (n rd : Nat) (R : Yr × sp_Q), rd ≤ (yRun β E n R rd).2 ∧ (yRun β E n R rd).2 ≤ rd + n := by
  intro n
  induction n with
  | zero => intro rd R; exact ⟨Nat.le_refl _, Nat.le_refl _⟩
  | succ n ih =>
    intro rd R
    cases h : R.1 with
    | inl e => rw [yRun_b h]; exact ⟨Nat.le_refl _, Nat.le_add_right _ _⟩
    | inr x =>
      by_cases hk : tkK β E x.1 x.2.1 = 0
      · rw [yRun_e h hk]; exact ⟨Nat.le_refl _, Nat.le_add_right _ _⟩
      · rw [yRun_s h hk]
        have := ih (rd + 1) (ySt β E R.2 x)
        omega
/-! the class reads it -/
theorem c_run {o : Nat} {k : Int32 → ev_M → Option (Int32 × ev_M)} (hf : 4000 ≤ f) (ho : o = 1 ∨ o = 7) : ∀ (n g rd : Nat) (m : ev_M) (R : Yr × sp_Q), rd + n = 60 → n < g → COut β E o m R → ∃ m', FX1_readFrom_L32 f k o g (Int32.ofNat rd) m = k (Int32.ofNat (yRun β E n R rd).2) m' ∧ COut β E o m' (yRun β E n R rd).1 ∧ m'.1 o 7 = m.1 o 7 := by
  have e60 : (60 : Int32) = Int32.ofNat 60 := rfl
  intro n
  induction n with
  | zero =>
    intro g rd m R h1 h2 h3
    obtain ⟨g, rfl⟩ : ∃ w, g = w + 1 := ⟨g - 1, by omega⟩
    rw [FX1_readFrom_L32, if_pos (by rw [e60, n_le (by omega) (by omega)]; omega)]
    exact ⟨m, rfl, h3, rfl⟩
  | succ n ih =>
    intro g rd m R h1 h2 h3
    obtain ⟨g, rfl⟩ : ∃ w, g = w + 1 := ⟨g - 1, by omega⟩
    rw [FX1_readFrom_L32, if_neg (by rw [e60, n_le (by omega) (by omega)]; omega), cy_good h3.1, bd_some]
    cases h : R.1 with
    | inl e =>
      rw [show (Sum.inl e : Yr).isRight = false from rfl, if_neg (show ¬ false = true by decide), if_pos rfl, yRun_b h]
      exact ⟨m, rfl, h3, rfl⟩
    | inr x =>
      have hy : YC β E m (.inr x) := by have := h3.1; rw [h] at this; exact this
      rw [show (Sum.inr x : Yr).isRight = true from rfl, if_pos rfl, if_neg n10, cy_end hy, bd_some]
      by_cases hk : tkK β E x.1 x.2.1 = 0
      · rw [if_pos (show yK β E (.inr x) = 0 from hk), if_neg n10, yRun_e h hk]
        exact ⟨m, rfl, h3, rfl⟩
      · rw [if_neg (show ¬ yK β E (.inr x) = 0 from hk), if_pos rfl, yRun_s h hk]
        obtain ⟨m1, r1, r2⟩ := @c_stat f E β o m x R.2 hf ho hy h3.2.1 (h3.2.2.2 x h)
        rw [r1, bd_some, s_1]
        obtain ⟨m', s1, s2, s3⟩ := ih g (rd + 1) m1 (ySt β E R.2 x) (by omega) (by omega) r2
        exact ⟨m', s1, s2, by rw [s3, (MDX1_readStatement r1 o 7 (by unfold mdX1_readStatement; omega)).1]⟩
/-! the sums that hold untold -/
theorem u_add {o z : Nat} {v : Int32} {m : ev_M} (hz : z < 1608) (h : m.1 (o + 4) 1 = Int32.ofNat z) : ∃ m', FX2_add f (o + 4) v m = some ((), m') ∧ m'.1 (o + 4) 1 = Int32.ofNat (z + 1) ∧ m'.1 (o + 5) z = v ∧ (∀ a k, ¬ (a = o + 4 ∧ k = 1) → ¬ (a = o + 5 ∧ k = z) → m'.1 a k = m.1 a k) := by
  have := @c_add f m z (o + 4) v (by omega) h
  rw [if_pos hz] at this
  refine ⟨_, this, upI_at _ _ _ _ _, ?_, fun a k q1 q2 => ?_⟩
  · rw [upI_na _ _ _ _ (by omega)]
    exact up_at _ _ _ _
  · show ev_up (ev_up m.1 (o + 4 + 1) z v) (o + 4) 1 (Int32.ofNat (z + 1)) a k = _
    by_cases e : a = o + 4
    · subst e
      rw [up_nk _ _ _ (fun w => q1 ⟨rfl, w⟩), up_na _ _ _ _ (by omega)]
    · rw [up_na _ _ _ _ e]
      by_cases e2 : a = o + 5
      · subst e2
        show ev_up m.1 (o + 5) z v (o + 5) k = _
        rw [up_nk _ _ _ (fun w => q2 ⟨rfl, w⟩)]
      · rw [up_na _ _ _ _ (by omega)]
theorem u_any {o : Nat} {v : Int32} {m : ev_M} (h : CZo o m) : ∃ m', FX2_add f (o + 4) v m = some ((), m') ∧ CZo o m' := by
  obtain ⟨z, z1, z2⟩ := h
  have := @c_add f m z (o + 4) v z1 z2
  by_cases hz : z < 1608
  · obtain ⟨m', r1, r2, _⟩ := @u_add f o z v m hz z2
    exact ⟨m', r1, z + 1, by omega, r2⟩
  · rw [if_neg hz] at this
    exact ⟨m, this, z, z1, z2⟩
theorem CZo_up {o k : Nat} {v : Int32} {m : ev_M} (ho : o = 1 ∨ o = 7) (h : CZo o m) : CZo o (ev_up m.1 o k v, m.2) := CZo_fr h (by rw [upI_na _ _ _ _ (by omega)])
theorem u_J91 {o : Nat} {m : ev_M} (ho : o = 1 ∨ o = 7) (h : CZo o m) : ∃ m', FX1_addUntoldSums_J91 f o m = some ((), m') := by
  unfold FX1_addUntoldSums_J91 FX1_hasFeels
  by_cases z : m.1 o 14 ≤ m.1 o 13
  · rw [if_pos z, bd_some, if_pos rfl]
    obtain ⟨m', r1, r2⟩ := @u_any f o (-22) _ (CZo_up (k := 13) (v := m.1 (o + 4) 1) ho h)
    rw [r1, bd_some]
    exact ⟨_, rfl⟩
  · rw [if_neg z, bd_some, if_neg n10]
    exact ⟨_, rfl⟩
theorem u_all {o : Nat} {m : ev_M} (ho : o = 1 ∨ o = 7) (h : CZo o m) : ∃ m', FX1_addUntoldSums f o m = some ((), m') := by
  unfold FX1_addUntoldSums FX1_hasSays
  by_cases z : m.1 o 12 ≤ m.1 o 11
  · rw [if_pos z, bd_some, if_pos rfl]
    obtain ⟨a1, r1, q1⟩ := @u_any f o (-30) _ (CZo_up (k := 11) (v := m.1 (o + 4) 1) ho h)
    obtain ⟨a2, r2, q2⟩ := @u_any f o (-22) _ q1
    obtain ⟨a3, r3, q3⟩ := @u_any f o (-23) _ q2
    obtain ⟨a4, r4, q4⟩ := @u_any f o (-1) _ q3
    obtain ⟨a5, r5, q5⟩ := @u_any f o (-5) _ q4
    obtain ⟨a6, r6, q6⟩ := @u_any f o (-33) _ q5
    obtain ⟨a7, r7, q7⟩ := @u_any f o (-2) _ q6
    rw [r1, bd_some, r2, bd_some, r3, bd_some, r4, bd_some, r5, bd_some, r6, bd_some, r7, bd_some]
    exact u_J91 ho (CZo_up ho q7)
  · rw [if_neg z, bd_some, if_neg n10]
    exact u_J91 ho h
/-- a sum lies so in the castle -/
def dK (o k : Nat) (m : ev_M) (kd : Nat → Bool) (l : List Nat) : Prop := ∃ fr, m.1 o k = Int32.ofNat fr ∧ m.1 o (k + 1) = Int32.ofNat (fr + l.length) ∧ fr + l.length ≤ 1608 ∧ cells tr (m.1 (o + 5)) fr l ∧ good kd false l
theorem good_say : good kS false lsay := by
  refine good_of (k := kS) (h := 4) ?_ (by omega)
  have w0 : Wf kS false 1 [40 + 0] := Wf_val (by omega) rfl
  have w1 : Wf kS false 1 [40 + 1] := Wf_val (by omega) rfl
  have w2 : Wf kS false 1 [40 + 2] := Wf_val (by omega) rfl
  have w5 : Wf kS false 1 [40 + 5] := Wf_val (by omega) rfl
  have a := Wf_bin (k := kS) (op := 1) (h := 2) (by omega) w1 w2 (by omega) (by omega)
  have b := Wf_bin (k := kS) (op := 5) (h := 3) (by omega) w0 a (by omega) (by omega)
  have c := Wf_bin (k := kS) (op := 2) (h := 4) (by omega) b w5 (by omega) (by omega)
  exact c
theorem good_feel : good kF false lfeel := good_of (k := kF) (h := 1) (Wf_val (q := 1) (by omega) rfl) (by omega)
theorem dC_K {o k z : Nat} {m : ev_M} {kd : Nat → Bool} {l : List Nat} (hz : z ≤ 1608) (h : dC o k z m kd (some l)) : dK o k m kd l := by
  obtain ⟨fr, a1, a2, a3, a4, a5⟩ := h
  exact ⟨fr, a2, a3, by omega, a4, a5⟩
theorem u_feel {o z : Nat} {m : ev_M} {d : Option (List Nat)} (ho : o = 1 ∨ o = 7) (hz : z ≤ 1607) (h4 : m.1 (o + 4) 1 = Int32.ofNat z) (h : ∃ z', z' ≤ 1600 ∧ z' ≤ z ∧ dC o 13 z' m kF d) {ls : List Nat} (hs : dC o 11 z m kS (some ls)) : ∃ m', FX1_addUntoldSums_J91 f o m = some ((), m') ∧ dK o 11 m' kS ls ∧ dK o 13 m' kF (d.getD lfeel) := by
  obtain ⟨z', q1, q2, q3⟩ := h
  unfold FX1_addUntoldSums_J91
  rw [c_hasF q1 q3, bd_some]
  cases d with
  | some l =>
    rw [if_pos (show (some l).isSome = true from rfl), if_neg n10]
    exact ⟨m, rfl, dC_K (by omega) hs, dC_K (by omega) q3⟩
  | none =>
    rw [if_neg (show ¬ (none : Option (List Nat)).isSome = true by decide), if_pos rfl, h4]
    have g0 : ∀ a k, ¬ (a = o ∧ k = 13) → ((ev_up m.1 o 13 (Int32.ofNat z), m.2) : ev_M).1 a k = m.1 a k := fun a k q => by
      by_cases e : a = o
      · subst e; rw [upI_nk _ _ _ _ (fun w => q ⟨rfl, w⟩)]
      · rw [upI_na _ _ _ _ e]
    obtain ⟨m1, r1, r2, r3, r4⟩ := @u_add f o z (-22) (ev_up m.1 o 13 (Int32.ofNat z), m.2) (by omega) (by rw [g0 _ _ (by omega)]; exact h4)
    rw [r1, bd_some, r2]
    have g1 : ∀ a k, ¬ (a = o + 4 ∧ k = 1) → ¬ (a = o + 5 ∧ k = z) → ¬ (a = o ∧ (k = 13 ∨ k = 14)) → ((ev_up m1.1 o 14 (Int32.ofNat (z + 1)), m1.2) : ev_M).1 a k = m.1 a k := fun a k p1 p2 p3 => by
      by_cases e : a = o
      · subst e; rw [upI_nk _ _ _ _ (by omega), r4 _ _ p1 p2, g0 _ _ (by omega)]
      · rw [upI_na _ _ _ _ e, r4 _ _ p1 p2, g0 _ _ (by omega)]
    refine ⟨_, rfl, dC_K (z := z) (by omega) (dC_fr hs (Nat.le_refl _) (g1 _ _ (by omega) (by omega) (by omega)) (g1 _ _ (by omega) (by omega) (by omega)) (fun i hi => g1 _ _ (by omega) (by omega) (by omega))), z, ?_, ?_, ?_, ?_, good_feel⟩
    · rw [upI_nk _ _ _ _ (by decide), r4 _ _ (by omega) (by omega), upI_at]
    · rw [upI_at]; rfl
    · show z + 1 ≤ 1608; omega
    · refine ⟨?_, trivial⟩
      rw [upI_na _ _ _ _ (by omega), r3]
      rfl
set_option maxHeartbeats 4000000 in
theorem u_told {o p : Nat} {m : ev_M} {D : sp_D} (ho : o = 1 ∨ o = 7) (h : CQD o p m D) : ∃ m', FX1_addUntoldSums f o m = some ((), m') ∧ dK o 11 m' kS (D.1.getD lsay) ∧ dK o 13 m' kF (D.2.getD lfeel) := by
  obtain ⟨z, q1, q2, q3, q4, q5⟩ := h
  unfold FX1_addUntoldSums
  rw [c_hasS (by omega) q4, bd_some]
  cases hD : D.1 with
  | some l =>
    rw [hD] at q4
    rw [if_pos (show (some l).isSome = true from rfl), if_neg n10]
    exact u_feel ho (by omega) q3 ⟨z, by omega, Nat.le_refl _, q5⟩ q4
  | none =>
    rw [if_neg (show ¬ (none : Option (List Nat)).isSome = true by decide), if_pos rfl, q3]
    have g0 : ∀ a k, ¬ (a = o ∧ k = 11) → ((ev_up m.1 o 11 (Int32.ofNat z), m.2) : ev_M).1 a k = m.1 a k := fun a k q => by
      by_cases e : a = o
      · subst e; rw [upI_nk _ _ _ _ (fun w => q ⟨rfl, w⟩)]
      · rw [upI_na _ _ _ _ e]
    obtain ⟨m1, a1, b1, c1, d1⟩ := @u_add f o z (-30) (ev_up m.1 o 11 (Int32.ofNat z), m.2) (by omega) (by rw [g0 _ _ (by omega)]; exact q3)
    obtain ⟨m2, a2, b2, c2, d2⟩ := @u_add f o (z + 1) (-22) m1 (by omega) b1
    obtain ⟨m3, a3, b3, c3, d3⟩ := @u_add f o (z + 2) (-23) m2 (by omega) b2
    obtain ⟨m4, a4, b4, c4, d4⟩ := @u_add f o (z + 3) (-1) m3 (by omega) b3
    obtain ⟨m5, a5, b5, c5, d5⟩ := @u_add f o (z + 4) (-5) m4 (by omega) b4
    obtain ⟨m6, a6, b6, c6, d6⟩ := @u_add f o (z + 5) (-33) m5 (by omega) b5
    obtain ⟨m7, a7, b7, c7, d7⟩ := @u_add f o (z + 6) (-2) m6 (by omega) b6
    rw [a1, bd_some, a2, bd_some, a3, bd_some, a4, bd_some, a5, bd_some, a6, bd_some, a7, bd_some, b7]
    have g7 : ∀ a k, ¬ (a = o + 4 ∧ k = 1) → ¬ (a = o + 5 ∧ z ≤ k) → ¬ (a = o ∧ (k = 11 ∨ k = 12)) → ((ev_up m7.1 o 12 (Int32.ofNat (z + 6 + 1)), m7.2) : ev_M).1 a k = m.1 a k := fun a k p1 p2 p3 => by
      have : m7.1 a k = m.1 a k := by rw [d7 _ _ p1 (by omega), d6 _ _ p1 (by omega), d5 _ _ p1 (by omega), d4 _ _ p1 (by omega), d3 _ _ p1 (by omega), d2 _ _ p1 (by omega), d1 _ _ p1 (by omega), g0 _ _ (by omega)]
      by_cases e : a = o
      · subst e; rw [upI_nk _ _ _ _ (by omega)]; exact this
      · rw [upI_na _ _ _ _ e]; exact this
    have gc : ∀ k, ((ev_up m7.1 o 12 (Int32.ofNat (z + 6 + 1)), m7.2) : ev_M).1 (o + 5) k = m7.1 (o + 5) k := fun k => by rw [upI_na _ _ _ _ (by omega)]
    refine u_feel ho (z := z + 6 + 1) (by omega) (by rw [upI_na _ _ _ _ (by omega)]; exact b7) ⟨z, by omega, by omega, dC_fr q5 (Nat.le_refl _) (g7 _ _ (by omega) (by omega) (by omega)) (g7 _ _ (by omega) (by omega) (by omega)) (fun i hi => g7 _ _ (by omega) (by omega) (by omega))⟩ (ls := lsay) ⟨z, ?_, ?_, ?_, ?_, good_say⟩
    · show z + 7 ≤ z + 6 + 1; omega
    · rw [upI_nk _ _ _ _ (by decide), d7 _ _ (by omega) (by omega), d6 _ _ (by omega) (by omega), d5 _ _ (by omega) (by omega), d4 _ _ (by omega) (by omega), d3 _ _ (by omega) (by omega), d2 _ _ (by omega) (by omega), d1 _ _ (by omega) (by omega), upI_at]
    · rw [upI_at]; rfl
    · refine ⟨?_, ?_, ?_, ?_, ?_, ?_, ?_, trivial⟩
      · rw [gc, d7 _ _ (by omega) (by omega), d6 _ _ (by omega) (by omega), d5 _ _ (by omega) (by omega), d4 _ _ (by omega) (by omega), d3 _ _ (by omega) (by omega), d2 _ _ (by omega) (by omega), c1]; rfl
      · rw [gc, d7 _ _ (by omega) (by omega), d6 _ _ (by omega) (by omega), d5 _ _ (by omega) (by omega), d4 _ _ (by omega) (by omega), d3 _ _ (by omega) (by omega), c2]; rfl
      · rw [gc, d7 _ _ (by omega) (by omega), d6 _ _ (by omega) (by omega), d5 _ _ (by omega) (by omega), d4 _ _ (by omega) (by omega)]; exact c3
      · rw [gc, d7 _ _ (by omega) (by omega), d6 _ _ (by omega) (by omega), d5 _ _ (by omega) (by omega)]; exact c4
      · rw [gc, d7 _ _ (by omega) (by omega), d6 _ _ (by omega) (by omega)]; exact c5
      · rw [gc, d7 _ _ (by omega) (by omega)]; exact c6
      · rw [gc]; exact c7
/-- what a castle that was read lies like -/
def CFin (β : Nat → Int32) (E o : Nat) (m : ev_M) : Prop := YC β E m (yEnds β E) ∧ CGo o m ∧ m.1 o 4 = Int32.ofNat (yAll β E).2 ∧ ((yEnds β E).isRight = true → CQA o m (yAll β E).1.2.1 ∧ CQB o m (yAll β E).1.2.2.1 ∧ dK o 11 m kS ((yAll β E).1.2.2.2.1.getD lsay) ∧ dK o 13 m kF ((yAll β E).1.2.2.2.2.getD lfeel) ∧ m.1 o 7 = Int32.ofNat (yval β E (yCall β E)))
theorem c_J80 {o rd : Nat} {m : ev_M} {y : Yr} {Q : sp_Q} (ho : o = 1 ∨ o = 7) (h : YC β E m y) (hG : CGo o m) (hZ : CZo o m) (hQ : ∀ x, y = .inr x → CQ o x.1 m Q) : ∃ m', FX1_readFrom_J80 f o (Int32.ofNat rd) m = some (if y.isRight = true then 1 else 0, m') ∧ YC β E m' y ∧ CGo o m' ∧ m'.1 o 4 = Int32.ofNat rd ∧ m'.1 o 7 = m.1 o 7 ∧ (y.isRight = true → CQA o m' Q.1 ∧ CQB o m' Q.2.1 ∧ dK o 11 m' kS (Q.2.2.1.getD lsay) ∧ dK o 13 m' kF (Q.2.2.2.getD lfeel)) := by
  have fin : ∀ m1 : ev_M, FX1_addUntoldSums f o m = some ((), m1) → ∃ m', FX1_readFrom_J80 f o (Int32.ofNat rd) m = some (if y.isRight = true then 1 else 0, m') ∧ YC β E m' y ∧ m' = (ev_up m1.1 o 4 (Int32.ofNat rd), m1.2) := by
    intro m1 r1
    have hY : YC β E (ev_up m1.1 o 4 (Int32.ofNat rd), m1.2) y := YC_fr h (fun a k q => by rw [upI_na _ _ _ _ (by omega)]; exact (MDX1_addUntoldSums r1 a k (by unfold mdX1_addUntoldSums; omega)).1)
    unfold FX1_readFrom_J80
    rw [r1, bd_some, cy_good hY, bd_some, if_pos (by split <;> simp)]
    exact ⟨_, rfl, hY, rfl⟩
  cases y with
  | inl e =>
    obtain ⟨m1, r1⟩ := @u_all f o m ho hZ
    obtain ⟨m', s1, s2, s3⟩ := fin m1 r1
    have md := MDX1_addUntoldSums r1
    refine ⟨m', s1, s2, ?_, ?_, ?_, fun q => by cases q⟩
    · rw [s3]; exact CGo_fr hG (fun a k _ _ => by rw [upI_na _ _ _ _ (by omega)]; exact (md a k (by unfold mdX1_addUntoldSums; omega)).1)
    · rw [s3, upI_at]
    · rw [s3, upI_nk _ _ _ _ (by decide), (md o 7 (by unfold mdX1_addUntoldSums; omega)).1]
  | inr x =>
    obtain ⟨hA, hB, hD⟩ := hQ x rfl
    obtain ⟨m1, r1, k1, k2⟩ := @u_told f o x.1 m Q.2.2 ho hD
    obtain ⟨m', s1, s2, s3⟩ := fin m1 r1
    have md := MDX1_addUntoldSums r1
    have g : ∀ a k, ¬ (a = o ∧ (k = 4 ∨ k = 11 ∨ k = 12 ∨ k = 13 ∨ k = 14)) → ¬ (a = o + 4 ∧ k = 1) → a ≠ o + 5 → m'.1 a k = m.1 a k := fun a k p1 p2 p3 => by
      rw [s3]
      by_cases e : a = o
      · subst e; rw [upI_nk _ _ _ _ (by omega), (md _ _ (by unfold mdX1_addUntoldSums; omega)).1]
      · rw [upI_na _ _ _ _ e, (md _ _ (by unfold mdX1_addUntoldSums; omega)).1]
    have gk : ∀ k l kd, 11 ≤ k → dK o k m1 kd l → dK o k m' kd l := fun k l kd hk hd => by
      obtain ⟨fr, p1, p2, p3, p4, p5⟩ := hd
      rw [s3]
      exact ⟨fr, by rw [upI_nk _ _ _ _ (by omega)]; exact p1, by rw [upI_nk _ _ _ _ (by omega)]; exact p2, p3, cells_fr _ _ (fun i _ _ => by rw [upI_na _ _ _ _ (by omega)]) p4, p5⟩
    refine ⟨m', s1, s2, CGo_fr hG (fun a k _ _ => g _ _ (by omega) (by omega) (by omega)), by rw [s3, upI_at], g _ _ (by omega) (by omega) (by omega), fun _ => ⟨CQA_fr hA (g _ _ (by omega) (by omega) (by omega)) (g _ _ (by omega) (by omega) (by omega)) (fun a k _ _ => g _ _ (by omega) (by omega) (by omega)), ⟨(g _ _ (by omega) (by omega) (by omega)).trans hB.1, (g _ _ (by omega) (by omega) (by omega)).trans hB.2.1, hB.2.2.1, hB.2.2.2.1, (g _ _ (by omega) (by omega) (by omega)).trans hB.2.2.2.2⟩, gk 11 _ _ (by omega) k1, gk 13 _ _ (by omega) k2⟩⟩
def clrM (o : Nat) (m : ev_M) : ev_M := ((ev_up (ev_up (ev_up (ev_up (ev_up (ev_up (ev_up (ev_up (ev_up (ev_up (ev_up m.1 (o + 4) 1 0) o 4 0) o 5 0) o 6 0) o 8 4) o 9 3) o 10 0) o 11 0) o 12 0) o 13 0) o 14 0), m.2)
theorem clr_fr {o : Nat} {m : ev_M} {a k : Nat} (h1 : ¬ (a = o + 4 ∧ k = 1)) (h2 : a ≠ o) : (clrM o m).1 a k = m.1 a k := by
  unfold clrM
  rw [upI_na _ _ _ _ h2, up_na _ _ _ _ h2, up_na _ _ _ _ h2, up_na _ _ _ _ h2, up_na _ _ _ _ h2, up_na _ _ _ _ h2, up_na _ _ _ _ h2, up_na _ _ _ _ h2, up_na _ _ _ _ h2, up_na _ _ _ _ h2]
  by_cases e : a = o + 4
  · subst e; rw [up_nk _ _ _ (fun w => h1 ⟨rfl, w⟩)]
  · rw [up_na _ _ _ _ e]
theorem clr_at {o : Nat} {m : ev_M} : (clrM o m).1 (o + 4) 1 = 0 ∧ (clrM o m).1 o 5 = 0 ∧ (clrM o m).1 o 6 = 0 ∧ (clrM o m).1 o 8 = 4 ∧ (clrM o m).1 o 9 = 3 ∧ (clrM o m).1 o 10 = 0 ∧ (clrM o m).1 o 11 = 0 ∧ (clrM o m).1 o 12 = 0 ∧ (clrM o m).1 o 13 = 0 ∧ (clrM o m).1 o 14 = 0 := by
  unfold clrM
  refine ⟨?_, ?_, ?_, ?_, ?_, ?_, ?_, ?_, ?_, ?_⟩
  · have h2 : o + 4 ≠ o := by omega
    rw [upI_na _ _ _ _ h2, up_na _ _ _ _ h2, up_na _ _ _ _ h2, up_na _ _ _ _ h2, up_na _ _ _ _ h2, up_na _ _ _ _ h2, up_na _ _ _ _ h2, up_na _ _ _ _ h2, up_na _ _ _ _ h2, up_na _ _ _ _ h2, up_at]
  · rw [upI_nk _ _ _ _ (by decide), up_nk _ _ _ (by decide), up_nk _ _ _ (by decide), up_nk _ _ _ (by decide), up_nk _ _ _ (by decide), up_nk _ _ _ (by decide), up_nk _ _ _ (by decide), up_nk _ _ _ (by decide), up_at]
  · rw [upI_nk _ _ _ _ (by decide), up_nk _ _ _ (by decide), up_nk _ _ _ (by decide), up_nk _ _ _ (by decide), up_nk _ _ _ (by decide), up_nk _ _ _ (by decide), up_nk _ _ _ (by decide), up_at]
  · rw [upI_nk _ _ _ _ (by decide), up_nk _ _ _ (by decide), up_nk _ _ _ (by decide), up_nk _ _ _ (by decide), up_nk _ _ _ (by decide), up_nk _ _ _ (by decide), up_at]
  · rw [upI_nk _ _ _ _ (by decide), up_nk _ _ _ (by decide), up_nk _ _ _ (by decide), up_nk _ _ _ (by decide), up_nk _ _ _ (by decide), up_at]
  · rw [upI_nk _ _ _ _ (by decide), up_nk _ _ _ (by decide), up_nk _ _ _ (by decide), up_nk _ _ _ (by decide), up_at]
  · rw [upI_nk _ _ _ _ (by decide), up_nk _ _ _ (by decide), up_nk _ _ _ (by decide), up_at]
  · rw [upI_nk _ _ _ _ (by decide), up_nk _ _ _ (by decide), up_at]
  · rw [upI_nk _ _ _ _ (by decide), up_at]
  · rw [upI_at]
theorem c_from {o : Nat} {m : ev_M} (hf : 4000 ≤ f) (ho : o = 1 ∨ o = 7) (hB : TB0 β E m) (hG : CGo o m) : ∃ m', FX1_readFrom f o m = some (if (yEnds β E).isRight = true then 1 else 0, m') ∧ CFin β E o m' := by
  obtain ⟨l1, l2, l3, l4, l5, l6, l7, l8, l9, l10⟩ := @clr_at o m
  have hB1 : TB0 β E (clrM o m) := ⟨hB.1, by rw [clr_fr (by omega) (by omega)]; exact hB.2.1, fun i hi => by rw [clr_fr (by omega) (by omega)]; exact hB.2.2 i hi⟩
  obtain ⟨m4, a1, a2⟩ := c_begin (f := f) hf hB1
  have a2' : YC β E m4 (.inr (0, false, [])) := a2
  obtain ⟨m6, b1, b2⟩ := cy_tW (f := f) hf a2' (k := 0) (by omega)
  obtain ⟨m8, c1, c2⟩ := cy_tN (f := f) hf b2 (lo := 0) (hi := 9) (by omega) (by omega)
  have b1' : FX10_takeWord f 0 m4 = some ((), m6) := b1
  have c1' : FX10_takeNumber f 0 9 m6 = some (if (ytN β E 0 9 (yCall β E)).isRight = true then Int32.ofNat (yval β E (yCall β E)) else Int32.ofNat 0, m8) := c1
  have g8 : ∀ a k, a ≠ 13 → m8.1 a k = (clrM o m).1 a k := fun a k z => (((MDX10_takeNumber c1 a k (by unfold mdX10_takeNumber; omega)).1).trans ((MDX10_takeWord b1 a k (by unfold mdX10_takeWord; omega)).1)).trans ((MDX10_begin a1 a k (by unfold mdX10_begin; omega)).1)
  generalize hv : (if (ytN β E 0 9 (yCall β E)).isRight = true then Int32.ofNat (yval β E (yCall β E)) else Int32.ofNat 0) = v at c1'
  have h8 : YC β E (ev_up m8.1 o 7 v, m8.2) (ytN β E 0 9 (yCall β E)) := YC_fr c2 (fun a k z => by rw [upI_na _ _ _ _ (by omega)])
  obtain ⟨m10, d1, d2⟩ := cy_tS (f := f) hf h8 59
  have g10 : ∀ a k, a ≠ 13 → m10.1 a k = ((ev_up m8.1 o 7 v, m8.2) : ev_M).1 a k := fun a k z => (MDX10_takeSign d1 a k (by unfold mdX10_takeSign; omega)).1
  have gC : ∀ a k, a ≠ 13 → ¬ (a = o ∧ k = 7) → m10.1 a k = (clrM o m).1 a k := fun a k z1 z2 => by
    rw [g10 a k z1]
    by_cases e : a = o
    · subst e; rw [upI_nk _ _ _ _ (fun w => z2 ⟨rfl, w⟩)]; exact g8 _ _ z1
    · rw [upI_na _ _ _ _ e]; exact g8 _ _ z1
  have hO : COut β E o m10 (yBeg β E) := by
    refine ⟨d2, CGo_fr hG (fun a k _ _ => by rw [gC _ _ (by omega) (by omega), clr_fr (by omega) (by omega)]), ⟨0, by omega, by rw [gC _ _ (by omega) (by omega), l1]; rfl⟩, fun x' e => ?_⟩
    have hx' : x'.1 ≤ 1600 := by
      have e' : ytS β E 59 (ytN β E 0 9 (yCall β E)) = .inr x' := e
      rw [e'] at d2
      have d2' : CT β E m10 x'.1 x'.2.1 := d2
      have := d2'.2.1
      have := d2'.1.1
      omega
    refine ⟨⟨Nat.zero_le _, by rw [gC _ _ (by omega) (by omega), l2]; rfl, fun t k u => absurd u (Nat.not_lt_zero t), fun t u => absurd u (Nat.not_lt_zero t), 0, by rw [gC _ _ (by omega) (by omega), l3]; rfl, (show 0 < 2 ^ 0 by decide), fun t u => absurd u (Nat.not_lt_zero t)⟩, ⟨by rw [gC _ _ (by omega) (by omega), l4]; rfl, by rw [gC _ _ (by omega) (by omega), l5]; rfl, (show 0 < 3 by decide), (show 3 < 9 by decide), by rw [gC _ _ (by omega) (by omega), l6]; rfl⟩, 0, Nat.zero_le _, hx', by rw [gC _ _ (by omega) (by omega), l1]; rfl, ⟨?_, ?_⟩, ?_, ?_⟩
    · rw [gC _ _ (by omega) (by omega), l7]
    · rw [gC _ _ (by omega) (by omega), l8]
    · rw [gC _ _ (by omega) (by omega), l9]
    · rw [gC _ _ (by omega) (by omega), l10]
  obtain ⟨m18, e1, e2, e3⟩ := @c_run f E β o (fun e17 m18 => (FX1_readFrom_J64 f o e17 m18)) hf ho 59 f 1 m10 (yBeg β E) (by omega) (by omega) hO
  have e7 : m10.1 o 7 = v := by rw [g10 _ _ (by omega), upI_at]
  have hA : (yRun β E 59 (yBeg β E) 1) = yAll β E := rfl
  rw [hA] at e1 e2
  have fin : ∃ m', FX1_readFrom_J64 f o (Int32.ofNat (yAll β E).2) m18 = some (if (yEnds β E).isRight = true then 1 else 0, m') ∧ YC β E m' (yEnds β E) ∧ CGo o m' ∧ m'.1 o 4 = Int32.ofNat (yAll β E).2 ∧ m'.1 o 7 = v ∧ ((yEnds β E).isRight = true → CQA o m' (yAll β E).1.2.1 ∧ CQB o m' (yAll β E).1.2.2.1 ∧ dK o 11 m' kS ((yAll β E).1.2.2.2.1.getD lsay) ∧ dK o 13 m' kF ((yAll β E).1.2.2.2.2.getD lfeel)) := by
    unfold FX1_readFrom_J64
    rw [cy_end e2.1, bd_some]
    by_cases z : yK β E (yAll β E).1.1 = 0
    · have eE : yEnds β E = (yAll β E).1.1 := if_pos z
      rw [if_pos z, if_neg n10, eE]
      obtain ⟨m', s1, s2, s3, s4, s5, s6⟩ := @c_J80 f E β o (yAll β E).2 m18 (yAll β E).1.1 (yAll β E).1.2 ho e2.1 e2.2.1 e2.2.2.1 e2.2.2.2
      exact ⟨m', s1, s2, s3, s4, by rw [s5, e3, e7], s6⟩
    · have eE : yEnds β E = yfail β E 5 (yAll β E).1.1 := if_neg z
      rw [if_neg z, if_pos rfl, eE]
      obtain ⟨m19, r1, r2⟩ := @cy_fail f E β m18 (yAll β E).1.1 e2.1 5 (by omega) (by omega)
      have r1' : FX10_fail f 5 (m18.1 13 2) m18 = some ((), m19) := r1
      have g19 : ∀ a k, a ≠ 13 → m19.1 a k = m18.1 a k := fun a k z => (MDX10_fail r1 a k (by unfold mdX10_fail; omega)).1
      rw [r1', bd_some]
      obtain ⟨m', s1, s2, s3, s4, s5, s6⟩ := @c_J80 f E β o (yAll β E).2 m19 (yfail β E 5 (yAll β E).1.1) (yAll β E).1.2 ho r2 (CG_fr13 ho e2.2.1 g19) (CZo_fr e2.2.2.1 (g19 _ _ (by omega))) (fun x e => by cases hh : (yAll β E).1.1 with | inl e' => rw [hh] at e; cases e | inr x' => rw [hh] at e; cases e)
      exact ⟨m', s1, s2, s3, s4, by rw [s5, g19 _ _ (by omega), e3, e7], s6⟩
  obtain ⟨m', s1, s2, s3, s4, s5, s6⟩ := fin
  refine ⟨m', ?_, s2, s3, s4, fun hr => ?_⟩
  · unfold FX1_readFrom
    show ev_bd (FX1_clear f o m) _ = _
    rw [show FX1_clear f o m = some ((), clrM o m) from rfl, bd_some, a1, bd_some, b1', bd_some, c1', bd_some, d1, bd_some]
    exact e1.trans s1
  · obtain ⟨t1, t2, t3, t4⟩ := s6 hr
    refine ⟨t1, t2, t3, t4, ?_⟩
    have back : ∀ (n rd : Nat) (R : Yr × sp_Q), ((yRun β E n R rd).1.1).isRight = true → R.1.isRight = true := by
      intro n rd R hq
      cases hh : R.1 with
      | inl e => rw [yRun_b hh, hh] at hq; exact hq
      | inr x => rfl
    have h1 : ((yAll β E).1.1).isRight = true := by
      cases hh : (yAll β E).1.1 with
      | inl e =>
        have : yEnds β E = .inl e := by unfold yEnds yFin; rw [hh]; exact if_neg (show ¬ (4 : Nat) = 0 by decide)
        rw [this] at hr; exact hr
      | inr x => rfl
    have h2 := back 59 1 (yBeg β E) h1
    have h3 : (ytN β E 0 9 (yCall β E)).isRight = true := S_right h2
    rw [s5, ← hv, if_pos h3]
end
