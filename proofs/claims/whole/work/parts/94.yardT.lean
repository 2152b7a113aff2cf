/-! the yard of the tests -/
def n25 (c : Nat) : Bool := decide (c ≠ 25)
def is10 (c : Nat) : Bool := decide (c = 10)
def isO (c : Nat) : Bool := decide (c = 10 ∨ c = 11)
def tFa (β : Nat → Int32) (E o : Nat) (y : Yr) : Yr := if yI β E y = some 20 then yput 13 (yad β E y) else yCmp β E o (PA β E 2 64 0 0 o y)
def tP (β : Nat → Int32) (E : Nat) (y : Yr) (W : List Nat) (o : Nat) : Sy :=
  if yS β E 91 y = true then (if o < 6 then (0, yad β E y, 25 :: W, o + 1) else (3, yfail β E 4 y, W, o))
  else if yI β E y = some 19 then (if o < 6 then (0, yad β E y, 12 :: W, o + 1) else (3, yfail β E 4 y, W, o))
  else if (tFa β E o y).isRight = true then (1, tFa β E o y, W, o) else (3, tFa β E o y, W, o)
def tX (y : Yr) (W : List Nat) (o : Nat) : Sy := match W with
  | [] => (2, y, [], o)
  | c :: V => if c = 12 then (1, yput 12 y, V, o - 1) else (2, y, c :: V, o)
def tG (β : Nat → Int32) (E : Nat) (y : Yr) (W : List Nat) (o : Nat) : Sy :=
  if yS β E 93 y = true ∧ 25 ∈ W then (1, yapp (W.takeWhile n25) (yad β E y), (W.dropWhile n25).tail, o - 1)
  else if yI β E y = some 18 then (0, yapp (W.takeWhile is10) (yad β E y), 10 :: W.dropWhile is10, o)
  else if yI β E y = some 17 then (0, yapp (W.takeWhile isO) (yad β E y), 11 :: W.dropWhile isO, o)
  else if 25 ∈ W then (3, yfail β E 1 y, W, o) else (3, y, W, o)
def stq (β : Nat → Int32) (E : Nat) (s : Sy) : Sy :=
  if s.1 = 0 then tP β E s.2.1 s.2.2.1 s.2.2.2 else if s.1 = 1 then tX s.2.1 s.2.2.1 s.2.2.2 else if s.1 = 2 then tG β E s.2.1 s.2.2.1 s.2.2.2 else s
def itt (β : Nat → Int32) (E : Nat) : Nat → Sy → Sy
  | 0, s => s
  | n + 1, s => itt β E n (stq β E s)
def Rt (β : Nat → Int32) (E : Nat) (s t : Sy) : Prop := ∃ n, itt β E n s = t
section
variable {β : Nat → Int32} {E : Nat}
theorem itt_add : ∀ (a b : Nat) (s : Sy), itt β E (a + b) s = itt β E b (itt β E a s) := by
  intro a
  induction a with
  | zero => intro b s; rw [Nat.zero_add]; rfl
  | succ a ih =>
    intro b s
    rw [show a + 1 + b = (a + b) + 1 by omega]
    exact ih b (stq β E s)
theorem Rt_refl (s : Sy) : Rt β E s s := ⟨0, rfl⟩
theorem Rt_tr {a b c : Sy} (h1 : Rt β E a b) (h2 : Rt β E b c) : Rt β E a c := by
  obtain ⟨n1, e1⟩ := h1
  obtain ⟨n2, e2⟩ := h2
  exact ⟨n1 + n2, by rw [itt_add, e1, e2]⟩
theorem Rt_st {a b c : Sy} (h1 : stq β E a = b) (h2 : Rt β E b c) : Rt β E a c := by
  obtain ⟨n2, e2⟩ := h2
  exact ⟨n2 + 1, by show itt β E n2 (stq β E a) = c; rw [h1, e2]⟩
theorem Rt_1 {a b : Sy} (h1 : stq β E a = b) : Rt β E a b := Rt_st h1 (Rt_refl b)
theorem itt_3 {s : Sy} (h : 3 ≤ s.1) : ∀ n, itt β E n s = s := by
  intro n
  induction n with
  | zero => rfl
  | succ n ih =>
    show itt β E n (stq β E s) = s
    have : stq β E s = s := by unfold stq; rw [if_neg (by omega), if_neg (by omega), if_neg (by omega)]
    rw [this]; exact ih
theorem Rt_det {s t u : Sy} (h1 : Rt β E s t) (h2 : Rt β E s u) (ht : 3 ≤ t.1) (hu : 3 ≤ u.1) : t = u := by
  obtain ⟨n1, e1⟩ := h1
  obtain ⟨n2, e2⟩ := h2
  have q1 := itt_add (β := β) (E := E) n1 n2 s
  have q2 := itt_add (β := β) (E := E) n2 n1 s
  rw [e1, itt_3 ht] at q1
  rw [e2, itt_3 hu, Nat.add_comm] at q2
  exact q1.symm.trans q2
def nW (β : Nat → Int32) (E : Nat) (l : List Nat) (x : Nat × Bool × List Nat) : Prop := ∀ k, k ∈ l → ¬ yI β E (.inr x) = some k
def RQt (β : Nat → Int32) (E : Nat) (l : List Nat) (p : Nat → Bool) (s : Sy) (W : List Nat) (o : Nat) (r : Yr) : Prop :=
  (∀ x', r = .inr x' → ∃ pend C1, Rt β E s (2, .inr (x'.1, x'.2.1, C1), pend ++ W, o) ∧ C1 ++ pend = x'.2.2 ∧ (∀ c, c ∈ pend → p c = true) ∧ nW β E l x') ∧ (∀ e, r = .inl e → ∃ W' o', Rt β E s (3, .inl e, W', o'))
theorem RQt_pre {l : List Nat} {p : Nat → Bool} {s s' : Sy} {W : List Nat} {o : Nat} {r : Yr} (h : Rt β E s s') (q : RQt β E l p s' W o r) : RQt β E l p s W o r := by
  refine ⟨fun x' e => ?_, fun e h1 => ?_⟩
  · obtain ⟨pend, C1, a1, a2⟩ := q.1 x' e
    exact ⟨pend, C1, Rt_tr h a1, a2⟩
  · obtain ⟨W', o', a1⟩ := q.2 e h1
    exact ⟨W', o', Rt_tr h a1⟩
theorem yLw_bad {k c : Nat} {r : Yr → Yr} {e : Nat × Nat} : ∀ j, yLw β E k c r j (.inl e) = .inl e := by
  intro j
  cases j with
  | zero => rfl
  | succ j =>
    show (if _ then _ else _) = _
    rw [if_neg (fun q => by cases q)]
theorem lw_run {k c : Nat} {l : List Nat} {p pI : Nat → Bool} {r : Yr → Yr} {o : Nat} {W : List Nat} (hpI : ∀ c, pI c = true → p c = true) (hc : p c = true) (hW : hd p W)
    (hr : ∀ x, RQt β E l pI (0, .inr x, c :: W, o) (c :: W) o (r (.inr x)))
    (hp : ∀ x x', r (.inr x) = .inr x' → x.1 < x'.1)
    (hs : ∀ x V, yI β E (.inr x) = some k → stq β E (2, .inr x, V, o) = (0, yapp (V.takeWhile p) (yad β E (.inr x)), c :: V.dropWhile p, o)) :
    ∀ j (x : Nat × Bool × List Nat) C1 pend, E - x.1 < j → C1 ++ pend = x.2.2 → (∀ c, c ∈ pend → p c = true) → nW β E l x → RQt β E (k :: l) p (2, .inr (x.1, x.2.1, C1), pend ++ W, o) W o (yLw β E k c r j (.inr x)) := by
  intro j
  induction j with
  | zero => intro x C1 pend h; omega
  | succ j ih =>
    intro x C1 pend hj hC hpd hn
    by_cases z : yI β E (.inr x) = some k
    · have e0 : yLw β E k c r (j + 1) (.inr x) = yLw β E k c r j (yput c (r (yad β E (.inr x)))) := by
        show (if _ then _ else _) = _
        rw [if_pos z]
      rw [e0]
      have hk : tkK β E x.1 x.2.1 ≠ 0 := by
        have : tkK β E x.1 x.2.1 = 1 := yI_k z
        rw [this]; decide
      have hlt := tkK_lt hk
      have hge := sk_ge β E x.1
      have hB := tkB_lt hk
      obtain ⟨t1, t2⟩ := tw_app hW pend hpd
      have st := hs (x.1, x.2.1, C1) (pend ++ W) z
      rw [t1, t2] at st
      have ey : yapp pend (yad β E (.inr (x.1, x.2.1, C1))) = .inr (tkB β E x.1, tkW β E x.1 x.2.1, x.2.2) := by
        show Sum.inr (tkB β E x.1, tkW β E x.1 x.2.1, C1 ++ pend) = _
        rw [hC]
      rw [ey] at st
      refine RQt_pre (Rt_1 st) ?_
      have hq := hr (tkB β E x.1, tkW β E x.1 x.2.1, x.2.2)
      have ea : yad β E (.inr x) = .inr (tkB β E x.1, tkW β E x.1 x.2.1, x.2.2) := rfl
      rw [ea]
      cases hc1 : r (.inr (tkB β E x.1, tkW β E x.1 x.2.1, x.2.2)) with
      | inl e =>
        show RQt β E _ p _ W o (yLw β E k c r j (.inl e))
        rw [yLw_bad]
        exact ⟨(fun x' q => by cases q), (fun e' q => by cases q; exact hq.2 e hc1)⟩
      | inr x1 =>
        obtain ⟨pend1, C11, b1, b2, b3, b4⟩ := hq.1 x1 hc1
        have hlt1 := hp _ _ hc1
        have hlt1' : tkB β E x.1 < x1.1 := hlt1
        refine RQt_pre b1 ?_
        have := ih (x1.1, x1.2.1, x1.2.2 ++ [c]) C11 (pend1 ++ [c]) (by show E - x1.1 < j; omega) (by rw [← List.append_assoc, b2]) (fun d hd => by
          rcases List.mem_append.mp hd with q | q
          · exact hpI d (b3 d q)
          · rw [List.mem_singleton] at q
            subst q; exact hc) b4
        rw [List.append_assoc] at this
        exact this
    · have e0 : yLw β E k c r (j + 1) (.inr x) = .inr x := by
        show (if _ then _ else _) = _
        rw [if_neg z]
      rw [e0]
      refine ⟨fun x' q => ?_, (fun e q => by cases q)⟩
      cases q
      refine ⟨pend, C1, Rt_refl _, hC, hpd, fun d hd => ?_⟩
      rcases List.mem_cons.mp hd with q | hd
      · subst q; exact z
      · exact hn d hd
theorem TQ_prg : ∀ n idx o y, idx ≤ 2 → 3 * (7 - o) ≤ n + idx → o ≤ 6 → prg y (TQ β E n idx o y) := by
  intro n
  induction n with
  | zero => intro idx o y h1 h2 h3; omega
  | succ n ih =>
    intro idx o y h1 h2 h3
    match idx with
    | 0 => exact prg_slk (ih 1 o y (by omega) (by omega) h3) (slk_lw (fun y => TQ_slk n 1 o y) _ _)
    | 1 => exact prg_slk (ih 2 o y (by omega) (by omega) h3) (slk_lw (fun y => TQ_slk n 2 o y) _ _)
    | 2 =>
      show prg y (yFaB β E (TQ β E n) o y)
      unfold yFaB
      split
      · next z =>
        split
        · exact prg_put (prg_slk (prg_ad (by rw [yI_k z]; decide)) (TQ_slk n 2 (o + 1) _))
        · exact prg_fail
      · split
        · next z =>
          split
          · exact prg_slk (prg_slk (prg_ad (by rw [yS_k z]; decide)) (TQ_slk n 0 (o + 1) _)) slk_tS
          · exact prg_fail
        · split
          · next z => exact prg_put (prg_ad (by rw [yI_k z]; decide))
          · exact prg_slk (PA_prg 64 0 0 o y (by omega) (by omega) h3) slk_cmp
def RPt (β : Nat → Int32) (E : Nat) (x : Nat × Bool × List Nat) (W : List Nat) (o : Nat) (r : Yr) : Prop :=
  (∀ x', r = .inr x' → Rt β E (0, .inr x, W, o) (1, .inr x', W, o)) ∧ (∀ e, r = .inl e → ∃ W' o', Rt β E (0, .inr x, W, o) (3, .inl e, W', o'))
theorem st_and {x : Nat × Bool × List Nat} {V : List Nat} {o : Nat} (h : yI β E (.inr x) = some 18) : stq β E (2, .inr x, V, o) = (0, yapp (V.takeWhile is10) (yad β E (.inr x)), 10 :: V.dropWhile is10, o) := by
  show tG β E (.inr x) V o = _
  unfold tG
  rw [if_neg (fun q => by
    have q1 := yS_k q.1
    rw [yI_k h] at q1; omega), if_pos h]
theorem st_or {x : Nat × Bool × List Nat} {V : List Nat} {o : Nat} (h : yI β E (.inr x) = some 17) : stq β E (2, .inr x, V, o) = (0, yapp (V.takeWhile isO) (yad β E (.inr x)), 11 :: V.dropWhile isO, o) := by
  show tG β E (.inr x) V o = _
  unfold tG
  rw [if_neg (fun q => by
    have q1 := yS_k q.1
    rw [yI_k h] at q1; omega), if_neg (by rw [h]; decide), if_pos h]
theorem run_allT (hE : E ≤ 1600) : ∀ n o, o ≤ 6 →
    (3 * (7 - o) ≤ n + 2 → ∀ x W, RPt β E x W o (TQ β E n 2 o (.inr x))) ∧
    (3 * (7 - o) ≤ n + 1 → ∀ x W, (∀ c V, W = c :: V → c ≠ 12 ∧ c ≠ 10) → RQt β E [18] is10 (0, .inr x, W, o) W o (TQ β E n 1 o (.inr x))) ∧
    (3 * (7 - o) ≤ n → ∀ x W, (∀ c V, W = c :: V → c ≠ 12 ∧ c ≠ 10 ∧ c ≠ 11) → RQt β E [17, 18] isO (0, .inr x, W, o) W o (TQ β E n 0 o (.inr x))) := by
  intro n
  induction n with
  | zero =>
    intro o ho
    exact ⟨fun h => by omega, fun h => by omega, fun h => by omega⟩
  | succ n ih =>
    intro o ho
    refine ⟨fun h => ?_, fun h => ?_, fun h => ?_⟩
    · intro x W
      show RPt β E x W o (yFaB β E (TQ β E n) o (.inr x))
      have s0 : stq β E (0, .inr x, W, o) = tP β E (.inr x) W o := rfl
      have fin3 : ∀ (r : Yr) (V : List Nat) (u : Nat), r.isRight = false → stq β E (0, .inr x, W, o) = (3, r, V, u) → RPt β E x W o r := by
        intro r V u hr hs
        refine ⟨(fun x' e => by rw [e] at hr; cases hr), fun e h => ?_⟩
        rw [h] at hs
        exact ⟨V, u, Rt_1 hs⟩
      have fl : ∀ k y, (yfail β E k y).isRight = false := by
        intro k y
        cases y <;> rfl
      unfold yFaB
      by_cases z1 : yI β E (.inr x) = some 19
      · rw [if_pos z1]
        have n91 : ¬ yS β E 91 (.inr x) = true := fun q => by
          have q1 := yS_k q
          rw [yI_k z1] at q1; omega
        have e0 : stq β E (0, .inr x, W, o) = if o < 6 then (0, yad β E (.inr x), 12 :: W, o + 1) else (3, yfail β E 4 (.inr x), W, o) := by
          rw [s0]; unfold tP; rw [if_neg n91, if_pos z1]
        by_cases h6 : o < 6
        · rw [if_pos h6] at e0 ⊢
          have q := (ih (o + 1) (by omega)).1 (by omega) (tkB β E x.1, tkW β E x.1 x.2.1, x.2.2) (12 :: W)
          have hyx : yad β E (.inr x) = .inr (tkB β E x.1, tkW β E x.1 x.2.1, x.2.2) := rfl
          rw [hyx] at e0 ⊢
          cases hc : TQ β E n 2 (o + 1) (.inr (tkB β E x.1, tkW β E x.1 x.2.1, x.2.2)) with
          | inl e =>
            refine ⟨(fun x' h => by cases h), fun e' h => ?_⟩
            have : e = e' := Sum.inl.inj h
            subst this
            obtain ⟨W', o', r⟩ := q.2 e hc
            exact ⟨W', o', Rt_st e0 r⟩
          | inr x2 =>
            refine ⟨fun x' h => ?_, (fun e h => by cases h)⟩
            refine Rt_st e0 (Rt_tr (q.1 x2 hc) (Rt_1 ?_))
            show tX (.inr x2) (12 :: W) (o + 1) = _
            show (1, yput 12 (.inr x2), W, o) = _
            rw [h]
        · rw [if_neg h6] at e0 ⊢
          exact fin3 _ W o (fl _ _) e0
      rw [if_neg z1]
      by_cases z2 : yS β E 91 (.inr x) = true
      · rw [if_pos z2]
        have e0 : stq β E (0, .inr x, W, o) = if o < 6 then (0, yad β E (.inr x), 25 :: W, o + 1) else (3, yfail β E 4 (.inr x), W, o) := by
          rw [s0]; unfold tP; rw [if_pos z2]
        by_cases h6 : o < 6
        · rw [if_pos h6] at e0 ⊢
          have hyx : yad β E (.inr x) = .inr (tkB β E x.1, tkW β E x.1 x.2.1, x.2.2) := rfl
          rw [hyx] at e0 ⊢
          have q := (ih (o + 1) (by omega)).2.2 (by omega) (tkB β E x.1, tkW β E x.1 x.2.1, x.2.2) (25 :: W) (fun c V e => by
            have : c = 25 := (List.cons.inj e).1.symm
            omega)
          cases hc : TQ β E n 0 (o + 1) (.inr (tkB β E x.1, tkW β E x.1 x.2.1, x.2.2)) with
          | inl e =>
            refine ⟨(fun x' h => by cases h), fun e' h => ?_⟩
            have : e = e' := Sum.inl.inj h
            subst this
            obtain ⟨W', o', r⟩ := q.2 e hc
            exact ⟨W', o', Rt_st e0 r⟩
          | inr x2 =>
            obtain ⟨pend, C1, a1, a2, a3, a4⟩ := q.1 x2 hc
            have t := @tw_app n25 (25 :: W) (fun c V e => by
              have : c = 25 := (List.cons.inj e).1.symm
              subst this; rfl) pend (fun c hc => by
              have := of_decide_eq_true (a3 c hc)
              exact decide_eq_true (by omega))
            have hmem : 25 ∈ pend ++ 25 :: W := by simp
            unfold ytS
            by_cases z : yS β E 93 (.inr x2) = true
            · rw [if_pos z]
              refine ⟨fun x' h => ?_, (fun e h => by cases h)⟩
              have : x' = (tkB β E x2.1, tkW β E x2.1 x2.2.1, x2.2.2) := (Sum.inr.inj h).symm
              subst this
              refine Rt_st e0 (Rt_tr a1 (Rt_1 ?_))
              show tG β E (.inr (x2.1, x2.2.1, C1)) (pend ++ 25 :: W) (o + 1) = _
              unfold tG
              rw [if_pos ⟨z, hmem⟩, t.1, t.2]
              show (1, Sum.inr (tkB β E x2.1, tkW β E x2.1 x2.2.1, C1 ++ pend), W, o) = _
              rw [a2]
            · rw [if_neg z]
              refine ⟨(fun x' h => by cases h), fun e h => ?_⟩
              refine ⟨pend ++ 25 :: W, o + 1, Rt_st e0 (Rt_tr a1 (Rt_1 ?_))⟩
              show tG β E (.inr (x2.1, x2.2.1, C1)) (pend ++ 25 :: W) (o + 1) = _
              unfold tG
              rw [if_neg (fun q => z q.1), if_neg (show ¬ yI β E (.inr (x2.1, x2.2.1, C1)) = some 18 from a4 18 (by simp)), if_neg (show ¬ yI β E (.inr (x2.1, x2.2.1, C1)) = some 17 from a4 17 (by simp)), if_pos hmem]
              show (3, yfail β E 1 (.inr x2), _, _) = _
              rw [h]
        · rw [if_neg h6] at e0 ⊢
          exact fin3 _ W o (fl _ _) e0
      rw [if_neg z2]
      have e0 : stq β E (0, .inr x, W, o) = if (tFa β E o (.inr x)).isRight = true then (1, tFa β E o (.inr x), W, o) else (3, tFa β E o (.inr x), W, o) := by
        rw [s0]; unfold tP; rw [if_neg z2, if_neg z1]
      have ef : (if yI β E (.inr x) = some 20 then yput 13 (yad β E (.inr x)) else yCmp β E o (PA β E 2 64 0 0 o (.inr x))) = tFa β E o (.inr x) := rfl
      rw [ef]
      cases hc : tFa β E o (.inr x) with
      | inl e =>
        rw [hc] at e0
        exact fin3 _ W o rfl e0
      | inr x1 =>
        rw [hc] at e0
        refine ⟨fun x' h => ?_, (fun e h => by cases h)⟩
        rw [← h]
        exact Rt_1 e0
    · have fact : ∀ x W, (∀ c V, W = c :: V → c ≠ 12) → RQt β E [] (fun _ => false) (0, .inr x, W, o) W o (TQ β E n 2 o (.inr x)) := by
        intro x W hw
        have q := (ih o ho).1 (by omega) x W
        refine ⟨fun x' e => ⟨[], x'.2.2, Rt_tr (q.1 x' e) (Rt_1 ?_), List.append_nil _, (fun c hc => by cases hc), (fun c hc => by cases hc)⟩, q.2⟩
        show tX (.inr x') W o = _
        cases W with
        | nil => rfl
        | cons c V =>
          have hc := hw c V rfl
          unfold tX
          simp only []
          rw [if_neg hc]
          rfl
      intro x W hw
      show RQt β E [18] is10 (0, .inr x, W, o) W o (yLw β E 18 10 (TQ β E n 2 o) 1600 (TQ β E n 2 o (.inr x)))
      have q := fact x W (fun c V e => (hw c V e).1)
      cases hc : TQ β E n 2 o (.inr x) with
      | inl e =>
        rw [yLw_bad]
        exact ⟨(fun x' h => by cases h), (fun e' h => by cases h; exact q.2 e hc)⟩
      | inr x1 =>
        obtain ⟨pend, C1, b1, b2, b3, b4⟩ := q.1 x1 hc
        obtain ⟨x0, e0, pg⟩ := TQ_prg n 2 o (.inr x) (by omega) (by omega) ho x1 hc
        refine RQt_pre b1 (lw_run (pI := fun _ => false) (fun c h => by cases h) (by decide) (fun c V e => decide_eq_false (hw c V e).2) (fun x => ?_) (fun x x' h => ?_) (fun x V h => st_and h) 1600 x1 C1 pend (by omega) b2 (fun c hc => by cases b3 c hc) b4)
        · refine fact x (10 :: W) (fun c V e => ?_)
          have : c = 10 := (List.cons.inj e).1.symm
          omega
        · obtain ⟨x0, e0, pg⟩ := TQ_prg n 2 o (.inr x) (by omega) (by omega) ho x' h
          cases e0
          exact pg
    · intro x W hw
      have both := (ih o ho).2.1 (by omega)
      show RQt β E [17, 18] isO (0, .inr x, W, o) W o (yLw β E 17 11 (TQ β E n 1 o) 1600 (TQ β E n 1 o (.inr x)))
      have q := both x W (fun c V e => ⟨(hw c V e).1, (hw c V e).2.1⟩)
      have hI : ∀ c, is10 c = true → isO c = true := fun c h => decide_eq_true (Or.inl (of_decide_eq_true h))
      cases hc : TQ β E n 1 o (.inr x) with
      | inl e =>
        rw [yLw_bad]
        exact ⟨(fun x' h => by cases h), (fun e' h => by cases h; exact q.2 e hc)⟩
      | inr x1 =>
        obtain ⟨pend, C1, b1, b2, b3, b4⟩ := q.1 x1 hc
        obtain ⟨x0, e0, pg⟩ := TQ_prg n 1 o (.inr x) (by omega) (by omega) ho x1 hc
        refine RQt_pre b1 (lw_run (pI := is10) hI (by decide) (fun c V e => decide_eq_false (by have := hw c V e; omega)) (fun x => ?_) (fun x x' h => ?_) (fun x V h => st_or h) 1600 x1 C1 pend (by omega) b2 (fun c hc => hI c (b3 c hc)) b4)
        · refine both x (11 :: W) (fun c V e => ?_)
          have : c = 11 := (List.cons.inj e).1.symm
          omega
        · obtain ⟨x0, e0, pg⟩ := TQ_prg n 1 o (.inr x) (by omega) (by omega) ho x' h
          cases e0
          exact pg
theorem run_topT (hE : E ≤ 1600) {n o : Nat} (ho : o ≤ 6) (hn : 3 * (7 - o) ≤ n) (x : Nat × Bool × List Nat) : (∀ x', TQ β E n 0 o (.inr x) = .inr x' → ∃ pend C1, Rt β E (0, .inr x, [], o) (3, .inr (x'.1, x'.2.1, C1), pend, o) ∧ C1 ++ pend = x'.2.2) ∧ (∀ e, TQ β E n 0 o (.inr x) = .inl e → ∃ W' o', Rt β E (0, .inr x, [], o) (3, .inl e, W', o')) := by
  have q := (run_allT (β := β) hE n o ho).2.2 hn x [] (fun c V e => by cases e)
  refine ⟨fun x' e => ?_, q.2⟩
  obtain ⟨pend, C1, a1, a2, a3, a4⟩ := q.1 x' e
  rw [List.append_nil] at a1
  refine ⟨pend, C1, Rt_tr a1 (Rt_1 ?_), a2⟩
  have hmem : ¬ 25 ∈ pend := fun h => by
    have := of_decide_eq_true (a3 25 h)
    omega
  show tG β E (.inr (x'.1, x'.2.1, C1)) pend o = _
  unfold tG
  rw [if_neg (fun q => hmem q.2), if_neg (show ¬ yI β E (.inr (x'.1, x'.2.1, C1)) = some 18 from a4 18 (by simp)), if_neg (show ¬ yI β E (.inr (x'.1, x'.2.1, C1)) = some 17 from a4 17 (by simp)), if_neg hmem]
end
