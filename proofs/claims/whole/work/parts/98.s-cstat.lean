/-! a STATEMENT as it should be read -/
abbrev sp_B : Type := Int32 × Nat × Int32
abbrev sp_D : Type := Option (List Nat) × Option (List Nat)
abbrev sp_Q : Type := sp_A × sp_B × sp_D
def yl (y : Yr) : List Nat := match y with
  | .inl _ => []
  | .inr x => x.2.2
def yx1 (β : Nat → Int32) (E : Nat) (x : Nat × Bool × List Nat) : Nat × Bool × List Nat := (tkB β E x.1, tkW β E x.1 x.2.1, x.2.2)
def yW (β : Nat → Int32) (E : Nat) (Q : sp_Q) (x : Nat × Bool × List Nat) (w : Nat) : Yr × sp_Q :=
  if w = 1 then (if Q.1.1 = 8 then (.inl (5, sk β E x.1), Q) else (yTow β E Q.1 (yx1 β E x), (aTow β E Q.1 (yx1 β E x), Q.2)))
  else if w = 4 then (yYes β E Q.1 (yx1 β E x), (aYes β E Q.1 (yx1 β E x), Q.2))
  else if w = 5 then (if Q.2.2.1.isSome = true then (.inl (5, sk β E x.1), Q) else (yCo β E 0 (yx1 β E x), (Q.1, Q.2.1, (some (yl (yCo β E 0 (yx1 β E x))), Q.2.2.2))))
  else if w = 6 then (if Q.2.2.2.isSome = true then (.inl (5, sk β E x.1), Q) else (yCo β E 1 (yx1 β E x), (Q.1, Q.2.1, (Q.2.2.1, some (yl (yCo β E 1 (yx1 β E x)))))))
  else if w = 7 then (ytN β E 1 9 (.inr (yx1 β E x)), (Q.1, (Int32.ofNat (yval β E (.inr (yx1 β E x))), Q.2.1.2), Q.2.2))
  else if w = 8 then (ytN β E 1 8 (.inr (yx1 β E x)), (Q.1, (Q.2.1.1, yval β E (.inr (yx1 β E x)), Q.2.1.2.2), Q.2.2))
  else if w = 9 then (ytN β E 0 100 (.inr (yx1 β E x)), (Q.1, (Q.2.1.1, Q.2.1.2.1, Int32.ofNat (yval β E (.inr (yx1 β E x)))), Q.2.2))
  else (.inl (1, sk β E x.1), Q)
def yStB (β : Nat → Int32) (E : Nat) (Q : sp_Q) (x : Nat × Bool × List Nat) : Yr × sp_Q := match yI β E (.inr x) with
  | none => (.inl (1, sk β E x.1), Q)
  | some w => yW β E Q x w
def ySt (β : Nat → Int32) (E : Nat) (Q : sp_Q) (x : Nat × Bool × List Nat) : Yr × sp_Q := (ytS β E 59 (yStB β E Q x).1, (yStB β E Q x).2)
/-- the text goes on -/
def mo (y y' : Yr) : Prop := ∀ x', y' = .inr x' → ∃ x, y = .inr x ∧ x.1 ≤ x'.1
theorem mo_tr {a b c : Yr} (h1 : mo a b) (h2 : mo b c) : mo a c := fun x' e => by
  obtain ⟨x1, e1, l1⟩ := h2 x' e
  obtain ⟨x0, e0, l0⟩ := h1 x1 e1
  exact ⟨x0, e0, by omega⟩
section
variable {f E : Nat} {β : Nat → Int32}
theorem mo_slk {d : Nat} {y y' : Yr} (h : slk d y y') : mo y y' := fun x' e => by
  obtain ⟨x, e1, e2, _⟩ := h x' e
  exact ⟨x, e1, e2⟩
theorem mo_ad {y : Yr} : mo y (yad β E y) := mo_slk slk_ad0
theorem mo_fail {k : Nat} {y y0 : Yr} : mo y0 (yfail β E k y) := fun x' e => by cases y <;> cases e
theorem mo_tW {k : Nat} {y : Yr} : mo y (ytW β E k y) := by
  unfold ytW
  split
  · exact mo_ad
  · exact mo_fail
theorem mo_tN {lo hi : Nat} {y : Yr} : mo y (ytN β E lo hi y) := mo_slk slk_tN
theorem mo_tS {c : Int32} {y : Yr} : mo y (ytS β E c y) := mo_slk slk_tS
theorem mo_inl {e : Nat × Nat} {y : Yr} : mo y (.inl e) := fun x' q => by cases q
theorem mo_tow {A : sp_A} {x : Nat × Bool × List Nat} : mo (.inr x) (yTow β E A x) := by
  unfold yTow
  cases yNm β E x with
  | inl e => exact mo_inl
  | inr x' =>
    show mo _ (match fnd A.1 A.2.1 (nmL β E x.1) with | some _ => _ | none => _)
    cases fnd A.1 A.2.1 (nmL β E x.1) with
    | some t => exact mo_inl
    | none => exact mo_tr mo_ad (mo_tr mo_tW (mo_tr mo_tN (mo_tr mo_tW mo_tN)))
theorem mo_yes {A : sp_A} {x : Nat × Bool × List Nat} : mo (.inr x) (yYes β E A x) := by
  unfold yYes
  cases yNm β E x with
  | inl e => exact mo_inl
  | inr x' =>
    show mo _ (match fnd A.1 A.2.1 (nmL β E x.1) with | none => _ | some t => _)
    cases fnd A.1 A.2.1 (nmL β E x.1) with
    | none => exact mo_inl
    | some t =>
      show mo _ (if A.2.2.2.2 t = true then _ else _)
      split
      · exact mo_inl
      · exact mo_ad
def CQB (o : Nat) (m : ev_M) (B : sp_B) : Prop := m.1 o 8 = B.1 ∧ m.1 o 9 = Int32.ofNat B.2.1 ∧ 0 < B.2.1 ∧ B.2.1 < 9 ∧ m.1 o 10 = B.2.2
def CQ (o p : Nat) (m : ev_M) (Q : sp_Q) : Prop := CQA o m Q.1 ∧ CQB o m Q.2.1 ∧ CQD o p m Q.2.2
def CZo (o : Nat) (m : ev_M) : Prop := ∃ z, z ≤ 1608 ∧ m.1 (o + 4) 1 = Int32.ofNat z
/-- what is asked behind a statement -/
def COut (β : Nat → Int32) (E o : Nat) (m : ev_M) (R : Yr × sp_Q) : Prop := YC β E m R.1 ∧ CGo o m ∧ CZo o m ∧ ∀ x', R.1 = .inr x' → CQ o x'.1 m R.2
theorem CQ_fr13 {o p p' : Nat} {m m' : ev_M} {Q : sp_Q} (ho : o = 1 ∨ o = 7) (h : CQ o p m Q) (hp : p ≤ p') (hp2 : p' ≤ 1600) (hr : ∀ a k, a ≠ 13 → m'.1 a k = m.1 a k) : CQ o p' m' Q :=
  ⟨CQA_fr h.1 (hr _ _ (by omega)) (hr _ _ (by omega)) (fun a k _ _ => hr _ _ (by omega)), ⟨(hr _ _ (by omega)).trans h.2.1.1, (hr _ _ (by omega)).trans h.2.1.2.1, h.2.1.2.2.1, h.2.1.2.2.2.1, (hr _ _ (by omega)).trans h.2.1.2.2.2.2⟩, CQD_fr h.2.2 hp hp2 (fun k _ _ => hr _ _ (by omega)) (hr _ _ (by omega)) (fun k => hr _ _ (by omega))⟩
theorem CZo_fr {o : Nat} {m m' : ev_M} (h : CZo o m) (hr : m'.1 (o + 4) 1 = m.1 (o + 4) 1) : CZo o m' := by
  obtain ⟨z, a, b⟩ := h
  exact ⟨z, a, hr.trans b⟩
theorem CQ_Z {o p : Nat} {m : ev_M} {Q : sp_Q} (h : CQ o p m Q) : CZo o m := by
  obtain ⟨z, a1, a2, a3, _⟩ := h.2.2
  exact ⟨z, by omega, a3⟩
theorem c_J164 {o : Nat} {m : ev_M} {R : Yr × sp_Q} (hf : 4000 ≤ f) (ho : o = 1 ∨ o = 7) (h : COut β E o m R) : ∃ m', FX1_readStatement_J164 f m = some ((), m') ∧ COut β E o m' (ytS β E 59 R.1, R.2) := by
  obtain ⟨h1, h2, h3, h4⟩ := h
  obtain ⟨m', r1, r2⟩ := cy_tS (f := f) hf h1 59
  have fr : ∀ a k, a ≠ 13 → m'.1 a k = m.1 a k := fun a k z => (MDX10_takeSign r1 a k (by unfold mdX10_takeSign; omega)).1
  unfold FX1_readStatement_J164
  rw [r1, bd_some]
  refine ⟨m', rfl, r2, CG_fr13 ho h2 fr, CZo_fr h3 (fr _ _ (by omega)), fun x' e => ?_⟩
  obtain ⟨x, e1, e2⟩ := mo_tS x' e
  have hc : CT β E m' x'.1 x'.2.1 := by
    have r2' := r2
    have e' : ytS β E 59 R.1 = .inr x' := e
    rw [e'] at r2'
    exact r2'
  have hE := hc.1.1
  exact CQ_fr13 ho (h4 x e1) e2 (by have := hc.2.1; omega) fr
theorem c_says {o p : Nat} {m : ev_M} {x : Nat × Bool × List Nat} {Q : sp_Q} (hf : 4000 ≤ f) (ho : o = 1 ∨ o = 7) (h : YC β E m (.inr x)) (hG : CGo o m) (hQ : CQ o p m Q) (hp : p ≤ x.1) (hn : Q.2.2.1 = none) : ∃ m', FX1_readSays f o m = some ((), m') ∧ COut β E o m' (yCo β E 0 x, (Q.1, Q.2.1, (some (yl (yCo β E 0 x)), Q.2.2.2))) := by
  obtain ⟨hA, hB, z, z1, z2, z3, z4, z5⟩ := hQ
  have hc : CT β E m x.1 x.2.1 := h
  unfold FX1_readSays
  rw [z3]
  have g0 : ∀ a k, ¬ (a = o ∧ k = 11) → ((ev_up m.1 o 11 (Int32.ofNat z), m.2) : ev_M).1 a k = m.1 a k := fun a k q => by
    by_cases e : a = o
    · subst e; rw [upI_nk _ _ _ _ (fun w => q ⟨rfl, w⟩)]
    · rw [upI_na _ _ _ _ e]
  obtain ⟨m4, r1, r2, r3, r4, r5⟩ := @c_codes f E β o z 0 (ev_up m.1 o 11 (Int32.ofNat z), m.2) x hf ho (by omega) (YC_fr h (fun a k q => g0 a k (by omega))) (by omega) (by rw [g0 _ _ (by omega)]; exact z3)
  have r1' : ev_bd (FX9_begin f (o + 4) (0 : Int32) (ev_up m.1 o 11 (Int32.ofNat z), m.2)) (fun _ m2 => FX9_readSum f m2) = some ((), m4) := r1
  unfold FX9_begin at r1' ⊢
  rw [bd_some] at r1' ⊢
  rw [r1', bd_some]
  have g4 : ∀ a k, a ≠ 13 → a ≠ 15 → ¬ (a = o + 4 ∧ k = 1) → a ≠ o + 5 → ¬ (a = o ∧ (k = 11 ∨ k = 12)) → ((ev_up m4.1 o 12 (m4.1 (o + 4) 1), m4.2) : ev_M).1 a k = m.1 a k := fun a k q1 q2 q3 q4 q5 => by
    by_cases e : a = o
    · subst e; rw [upI_nk _ _ _ _ (by omega), r3 _ _ q1 q2 q3 q4, g0 _ _ (by omega)]
    · rw [upI_na _ _ _ _ e, r3 _ _ q1 q2 q3 q4, g0 _ _ (by omega)]
  obtain ⟨z', w1, w2⟩ := r4
  refine ⟨_, rfl, YC_fr r2 (fun a k q => by rw [upI_na _ _ _ _ (by omega)]), CGo_fr hG (fun a k _ _ => g4 a k (by omega) (by omega) (by omega) (by omega) (by omega)), ⟨z', w1, by rw [upI_na _ _ _ _ (by omega)]; exact w2⟩, fun x' e => ?_⟩
  have e' : yCo β E 0 x = .inr x' := e
  obtain ⟨s1, s2, s3⟩ := r5 x' e'
  have hpl := yCo_place e'
  have hc' : CT β E m4 x'.1 x'.2.1 := by rw [e'] at r2; exact r2
  have hE := hc'.1.1
  have hx' := hc'.2.1
  have el : yl (yCo β E 0 x) = x'.2.2 := by rw [e']; rfl
  refine ⟨CQA_fr hA (g4 _ _ (by omega) (by omega) (by omega) (by omega) (by omega)) (g4 _ _ (by omega) (by omega) (by omega) (by omega) (by omega)) (fun a k _ _ => g4 _ _ (by omega) (by omega) (by omega) (by omega) (by omega)), ⟨(g4 _ _ (by omega) (by omega) (by omega) (by omega) (by omega)).trans hB.1, (g4 _ _ (by omega) (by omega) (by omega) (by omega) (by omega)).trans hB.2.1, hB.2.2.1, hB.2.2.2.1, (g4 _ _ (by omega) (by omega) (by omega) (by omega) (by omega)).trans hB.2.2.2.2⟩, z + x'.2.2.length, by omega, by omega, by rw [upI_na _ _ _ _ (by omega)]; exact s1, ?_, ?_⟩
  · show dC o 11 (z + x'.2.2.length) _ kS (some (yl (yCo β E 0 x)))
    rw [el]
    refine ⟨z, Nat.le_refl _, ?_, ?_, cells_fr _ _ (fun i _ _ => by rw [upI_na _ _ _ _ (by omega)]) s2, yCo_good (kd := 0) (fun q _ hq => hq) (by omega) e'⟩
    · rw [upI_nk _ _ _ _ (by decide), r3 _ _ (by omega) (by omega) (by omega) (by omega), upI_at]
    · rw [upI_at]; exact s1
  · exact dC_fr z5 (by omega) (g4 _ _ (by omega) (by omega) (by omega) (by omega) (by omega)) (g4 _ _ (by omega) (by omega) (by omega) (by omega) (by omega)) (fun i hi => by rw [upI_na _ _ _ _ (by omega), s3 i hi, g0 _ _ (by omega)])
theorem c_feels {o p : Nat} {m : ev_M} {x : Nat × Bool × List Nat} {Q : sp_Q} (hf : 4000 ≤ f) (ho : o = 1 ∨ o = 7) (h : YC β E m (.inr x)) (hG : CGo o m) (hQ : CQ o p m Q) (hp : p ≤ x.1) (hn : Q.2.2.2 = none) : ∃ m', FX1_readFeels f o m = some ((), m') ∧ COut β E o m' (yCo β E 1 x, (Q.1, Q.2.1, (Q.2.2.1, some (yl (yCo β E 1 x))))) := by
  obtain ⟨hA, hB, z, z1, z2, z3, z4, z5⟩ := hQ
  have hc : CT β E m x.1 x.2.1 := h
  unfold FX1_readFeels
  rw [z3]
  have g0 : ∀ a k, ¬ (a = o ∧ k = 13) → ((ev_up m.1 o 13 (Int32.ofNat z), m.2) : ev_M).1 a k = m.1 a k := fun a k q => by
    by_cases e : a = o
    · subst e; rw [upI_nk _ _ _ _ (fun w => q ⟨rfl, w⟩)]
    · rw [upI_na _ _ _ _ e]
  obtain ⟨m4, r1, r2, r3, r4, r5⟩ := @c_codes f E β o z 1 (ev_up m.1 o 13 (Int32.ofNat z), m.2) x hf ho (by omega) (YC_fr h (fun a k q => g0 a k (by omega))) (by omega) (by rw [g0 _ _ (by omega)]; exact z3)
  have r1' : ev_bd (FX9_begin f (o + 4) (1 : Int32) (ev_up m.1 o 13 (Int32.ofNat z), m.2)) (fun _ m2 => FX9_readSum f m2) = some ((), m4) := r1
  unfold FX9_begin at r1' ⊢
  rw [bd_some] at r1' ⊢
  rw [r1', bd_some]
  have g4 : ∀ a k, a ≠ 13 → a ≠ 15 → ¬ (a = o + 4 ∧ k = 1) → a ≠ o + 5 → ¬ (a = o ∧ (k = 13 ∨ k = 14)) → ((ev_up m4.1 o 14 (m4.1 (o + 4) 1), m4.2) : ev_M).1 a k = m.1 a k := fun a k q1 q2 q3 q4 q5 => by
    by_cases e : a = o
    · subst e; rw [upI_nk _ _ _ _ (by omega), r3 _ _ q1 q2 q3 q4, g0 _ _ (by omega)]
    · rw [upI_na _ _ _ _ e, r3 _ _ q1 q2 q3 q4, g0 _ _ (by omega)]
  obtain ⟨z', w1, w2⟩ := r4
  refine ⟨_, rfl, YC_fr r2 (fun a k q => by rw [upI_na _ _ _ _ (by omega)]), CGo_fr hG (fun a k _ _ => g4 a k (by omega) (by omega) (by omega) (by omega) (by omega)), ⟨z', w1, by rw [upI_na _ _ _ _ (by omega)]; exact w2⟩, fun x' e => ?_⟩
  have e' : yCo β E 1 x = .inr x' := e
  obtain ⟨s1, s2, s3⟩ := r5 x' e'
  have hpl := yCo_place e'
  have hc' : CT β E m4 x'.1 x'.2.1 := by rw [e'] at r2; exact r2
  have hE := hc'.1.1
  have hx' := hc'.2.1
  have el : yl (yCo β E 1 x) = x'.2.2 := by rw [e']; rfl
  refine ⟨CQA_fr hA (g4 _ _ (by omega) (by omega) (by omega) (by omega) (by omega)) (g4 _ _ (by omega) (by omega) (by omega) (by omega) (by omega)) (fun a k _ _ => g4 _ _ (by omega) (by omega) (by omega) (by omega) (by omega)), ⟨(g4 _ _ (by omega) (by omega) (by omega) (by omega) (by omega)).trans hB.1, (g4 _ _ (by omega) (by omega) (by omega) (by omega) (by omega)).trans hB.2.1, hB.2.2.1, hB.2.2.2.1, (g4 _ _ (by omega) (by omega) (by omega) (by omega) (by omega)).trans hB.2.2.2.2⟩, z + x'.2.2.length, by omega, by omega, by rw [upI_na _ _ _ _ (by omega)]; exact s1, ?_, ?_⟩
  · exact dC_fr z4 (by omega) (g4 _ _ (by omega) (by omega) (by omega) (by omega) (by omega)) (g4 _ _ (by omega) (by omega) (by omega) (by omega) (by omega)) (fun i hi => by rw [upI_na _ _ _ _ (by omega), s3 i hi, g0 _ _ (by omega)])
  · show dC o 13 (z + x'.2.2.length) _ kF (some (yl (yCo β E 1 x)))
    rw [el]
    refine ⟨z, Nat.le_refl _, ?_, ?_, cells_fr _ _ (fun i _ _ => by rw [upI_na _ _ _ _ (by omega)]) s2, yCo_good (kd := 1) (fun q _ hq => hq) (by omega) e'⟩
    · rw [upI_nk _ _ _ _ (by decide), r3 _ _ (by omega) (by omega) (by omega) (by omega), upI_at]
    · rw [upI_at]; exact s1
end
