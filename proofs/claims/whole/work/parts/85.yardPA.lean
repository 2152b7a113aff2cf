/-! the yard reads what the sums' reading reads -/
section
variable {β : Nat → Int32} {E kd : Nat}
def prg (y y' : Yr) : Prop := ∀ x', y' = .inr x' → ∃ x, y = .inr x ∧ x.1 < x'.1
theorem prg_slk {d : Nat} {y y1 y2 : Yr} (h : prg y y1) (h2 : slk d y1 y2) : prg y y2 := by
  intro x2 e2
  obtain ⟨x1, e1, q1, _⟩ := h2 x2 e2
  obtain ⟨x, e, q⟩ := h x1 e1
  exact ⟨x, e, by omega⟩
theorem slk_prg {d : Nat} {y y1 y2 : Yr} (h : slk d y y1) (h2 : prg y1 y2) : prg y y2 := by
  intro x2 e2
  obtain ⟨x1, e1, q1⟩ := h2 x2 e2
  obtain ⟨x, e, q, _⟩ := h x1 e1
  exact ⟨x, e, by omega⟩
theorem prg_put {c : Nat} {y y1 : Yr} (h : prg y y1) : prg y (yput c y1) := by
  intro x2 e2
  cases y1 with
  | inl e => cases e2
  | inr x1 =>
    have : x2 = (x1.1, x1.2.1, x1.2.2 ++ [c]) := (Sum.inr.inj e2).symm
    subst this
    exact h x1 rfl
theorem prg_ad {y : Yr} (h : yK β E y ≠ 0) : prg y (yad β E y) := by
  intro x2 e2
  cases y with
  | inl e => cases e2
  | inr x =>
    have : x2 = (tkB β E x.1, tkW β E x.1 x.2.1, x.2.2) := (Sum.inr.inj e2).symm
    subst this
    exact ⟨x, rfl, tkB_lt (w := x.2.1) h⟩
theorem prg_fail {k : Nat} {y y0 : Yr} : prg y0 (yfail β E k y) := by
  intro x2 e2
  cases y <;> cases e2
theorem prg_tN {lo hi : Nat} {y : Yr} : prg y (ytN β E lo hi y) := by
  cases y with
  | inl e => intro x2 e2; cases e2
  | inr x =>
    unfold ytN
    simp only []
    by_cases z : tkK β E x.1 x.2.1 = 2
    · rw [if_pos z]
      split
      · split
        · intro x2 e2; cases e2
        · exact prg_ad (by show tkK β E x.1 x.2.1 ≠ 0; rw [z]; decide)
      · intro x2 e2; cases e2
    · rw [if_neg z]; intro x2 e2; cases e2
theorem PA_prg : ∀ n idx sg o y, idx ≤ 2 → 4 * (7 - o) ≤ n + idx → o ≤ 6 → prg y (PA β E kd n idx sg o y) := by
  intro n
  induction n with
  | zero => intro idx sg o y h1 h2 h3; omega
  | succ n ih =>
    intro idx sg o y h1 h2 h3
    match idx with
    | 0 => exact prg_slk (ih 1 0 o y (by omega) (by omega) h3) (slk_lp (fun y => PA_slk n 1 0 o y (by omega)) _ _)
    | 1 => exact prg_slk (ih 2 0 o y (by omega) (by omega) h3) (slk_lp (fun y => PA_slk n 2 0 o y (by omega)) _ _)
    | 2 =>
      show prg y (yPartB β E kd (PA β E kd n) o y)
      obtain ⟨n, rfl⟩ : ∃ i, n = i + 1 := ⟨n - 1, by omega⟩
      unfold yPartB
      split
      · exact prg_put prg_tN
      · split
        · next z =>
          show prg y (yOpB β E (PA β E kd n) o y)
          unfold yOpB
          split
          · exact prg_slk (prg_slk (prg_ad (by rw [yS_k z]; decide)) (PA_slk n 0 0 (o + 1) _ (by omega))) slk_tS
          · exact prg_fail
        · have pr : ∀ sg k, yI β E y = some k → prg y (yPrB β E (PA β E kd n) sg o y) := by
            intro sg k z
            unfold yPrB
            split
            · split
              · exact prg_put (prg_slk (prg_slk (prg_slk (prg_slk (prg_slk (prg_ad (by rw [yI_k z]; decide)) slk_ad0) (PA_slk n 0 0 (o + 1) _ (by omega))) slk_tS) (PA_slk n 0 0 (o + 1) _ (by omega))) slk_tS)
              · exact prg_fail
            · exact prg_fail
          split
          · next z => exact pr 5 21 z
          · split
            · next z => exact pr 6 22 z
            · split
              · next z =>
                show prg y (ySaB β E (PA β E kd n) o y)
                unfold ySaB
                split
                · exact prg_put (prg_slk (prg_ad (by rw [yI_k z.2]; decide)) (PA_slk n 2 0 (o + 1) _ (by omega)))
                · exact prg_fail
              · cases hv : vq kd (yI β E y) with
                | none => exact prg_fail
                | some q =>
                  cases y with
                  | inl e => cases hv
                  | inr x => exact prg_put (c := 40 + q) (prg_ad (by rw [vq_k hv]; decide))
theorem PA_badI {e : Nat × Nat} : ∀ n idx sg o, PA β E kd n idx sg o (.inl e) = .inl e := by
  have hy : ∀ c, ¬ yS β E c (.inl e) = true := fun c q => by cases q
  intro n
  induction n with
  | zero => intro idx sg o; rfl
  | succ n ih =>
    intro idx sg o
    match idx with
    | 0 =>
      show yLp β E 43 45 1 2 (PA β E kd n 1 0 o) 1600 (PA β E kd n 1 0 o (.inl e)) = _
      rw [ih, yLp_bad]
    | 1 =>
      show yLp β E 42 47 3 4 (PA β E kd n 2 0 o) 1600 (PA β E kd n 2 0 o (.inl e)) = _
      rw [ih, yLp_bad]
    | 2 =>
      show yPartB β E kd (PA β E kd n) o (.inl e) = _
      unfold yPartB
      rw [if_neg (show ¬ yK β E (.inl e) = 2 by show ¬ 4 = 2; omega), if_neg (hy _), if_neg (show ¬ yI β E (.inl e) = some 21 from fun q => by cases q), if_neg (show ¬ yI β E (.inl e) = some 22 from fun q => by cases q), if_neg (fun q => by cases q.2)]
      rfl
    | 3 =>
      show yOpB β E (PA β E kd n) o (.inl e) = _
      unfold yOpB
      split
      · show ytS β E 41 (PA β E kd n 0 0 (o + 1) (.inl e)) = _
        rw [ih]; rfl
      · rfl
    | 4 =>
      show yPrB β E (PA β E kd n) sg o (.inl e) = _
      unfold yPrB
      rw [if_neg (show ¬ yS β E 40 (yad β E (.inl e)) = true from hy _)]
      rfl
    | 5 =>
      show ySaB β E (PA β E kd n) o (.inl e) = _
      unfold ySaB
      split
      · show yput 60 (PA β E kd n 2 0 (o + 1) (.inl e)) = _
        rw [ih]; rfl
      · rfl
    | k + 6 =>
      show ySaB β E (PA β E kd n) o (.inl e) = _
      unfold ySaB
      split
      · show yput 60 (PA β E kd n 2 0 (o + 1) (.inl e)) = _
        rw [ih]; rfl
      · rfl
theorem tw_b {b : Nat} {W pend : List Nat} (hb : 20 ≤ b ∧ b ≤ 24) (hp : ∀ c, c ∈ pend → isA c = true) : (pend ++ b :: W).takeWhile nb = pend ∧ (pend ++ b :: W).dropWhile nb = b :: W ∧ bkt (pend ++ b :: W) = b := by
  have h := @tw_app nb (b :: W) (fun c V e => by
    have : c = b := (List.cons.inj e).1.symm
    subst this
    unfold nb
    exact decide_eq_false (by omega)) pend (fun c hc => isA_nb (hp c hc))
  refine ⟨h.1, h.2, ?_⟩
  unfold bkt
  rw [h.2]
  rfl
theorem st_close {b o : Nat} {W pend : List Nat} {x : Nat × Bool × List Nat} (hb : b = 20 ∨ b = 23 ∨ b = 24) (hp : ∀ c, c ∈ pend → isA c = true) (hs : yS β E 41 (.inr x) = true) : stp β E kd (2, .inr x, pend ++ b :: W, o) = (1, yapp (pend ++ (if b = 20 then [] else if b = 23 then [5] else [6])) (yad β E (.inr x)), W, o - 1) := by
  obtain ⟨t1, t2, t3⟩ := @tw_b b W pend (by omega) hp
  show sG β E (.inr x) (pend ++ b :: W) o = _
  unfold sG
  rw [t1, t2, t3, if_pos ⟨hs, hb⟩]
  rfl
theorem st_stuck {b o : Nat} {W pend : List Nat} {x : Nat × Bool × List Nat} (hb : b = 20 ∨ b = 23 ∨ b = 24) (hp : ∀ c, c ∈ pend → isA c = true) (hn : nS β E [43, 45, 42, 47] x) (hs : yS β E 41 (.inr x) = false) : stp β E kd (2, .inr x, pend ++ b :: W, o) = (3, yfail β E 1 (.inr x), pend ++ b :: W, o) := by
  obtain ⟨t1, t2, t3⟩ := @tw_b b W pend (by omega) hp
  have n1 := hn 43 (by simp)
  have n2 := hn 45 (by simp)
  have n3 := hn 42 (by simp)
  have n4 := hn 47 (by simp)
  show sG β E (.inr x) (pend ++ b :: W) o = _
  unfold sG
  rw [t3, hs, n1, n2, n3, n4, if_neg (by simp), if_neg (by simp), if_neg (by simp), if_neg (by omega), if_neg (by omega)]
theorem st_comma {b o : Nat} {W pend : List Nat} {x : Nat × Bool × List Nat} (hb : b = 21 ∨ b = 22) (hp : ∀ c, c ∈ pend → isA c = true) (hn : nS β E [43, 45, 42, 47] x) : stp β E kd (2, .inr x, pend ++ b :: W, o) = if yS β E 44 (.inr x) = true then (0, yapp pend (yad β E (.inr x)), (b + 2) :: W, o) else (3, yfail β E 1 (.inr x), pend ++ b :: W, o) := by
  obtain ⟨t1, t2, t3⟩ := @tw_b b W pend (by omega) hp
  have n1 := hn 43 (by simp)
  have n2 := hn 45 (by simp)
  have n3 := hn 42 (by simp)
  have n4 := hn 47 (by simp)
  show sG β E (.inr x) (pend ++ b :: W) o = _
  unfold sG
  rw [t1, t2, t3, n1, n2, n3, n4, if_neg (fun q => by omega), if_neg (by simp), if_neg (by simp), if_pos hb]
  rfl
def RP (β : Nat → Int32) (E kd : Nat) (x : Nat × Bool × List Nat) (W : List Nat) (o : Nat) (r : Yr) : Prop :=
  (∀ x', r = .inr x' → Rn β E kd (0, .inr x, W, o) (1, .inr x', W, o)) ∧ (∀ e, r = .inl e → ∃ W' o', Rn β E kd (0, .inr x, W, o) (3, .inl e, W', o'))
def h60 (c : Nat) : Bool := decide (60 ≤ c)
theorem run_part {n o : Nat} {x : Nat × Bool × List Nat} {W : List Nat} (ho : o ≤ 6)
    (hP : o < 6 → ∀ x W, RP β E kd x W (o + 1) (PA β E kd n 2 0 (o + 1) (.inr x)))
    (hS : o < 6 → ∀ x W, (∀ c V, W = c :: V → isA c = false ∧ h60 c = false) → RQ β E kd [43, 45, 42, 47] isA (0, .inr x, W, o + 1) W (o + 1) (PA β E kd n 0 0 (o + 1) (.inr x))) :
    RP β E kd x W o (yPartB β E kd (PA β E kd (n + 1)) o (.inr x)) := by
  have s0 : stp β E kd (0, .inr x, W, o) = sP β E kd (.inr x) W o := rfl
  have fin3 : ∀ (r : Yr) (V : List Nat) (u : Nat), r.isRight = false → stp β E kd (0, .inr x, W, o) = (3, r, V, u) → RP β E kd x W o r := by
    intro r V u hr hs
    refine ⟨(fun x' e => by rw [e] at hr; cases hr), fun e h => ?_⟩
    rw [h] at hs
    exact ⟨V, u, Rn_1 hs⟩
  have fl : ∀ k y, (yfail β E k y).isRight = false := by
    intro k y
    cases y <;> rfl
  -- the sum behind a bracket, and what must follow
  have close : ∀ (b : Nat) (x1 : Nat × Bool × List Nat) (s : Sy), o < 6 → (b = 20 ∨ b = 23 ∨ b = 24) → Rn β E kd s (0, .inr x1, b :: W, o + 1) →
      (∀ x', ytS β E 41 (PA β E kd n 0 0 (o + 1) (.inr x1)) = .inr x' → Rn β E kd s (1, .inr (x'.1, x'.2.1, x'.2.2 ++ (if b = 20 then [] else if b = 23 then [5] else [6])), W, o)) ∧ (∀ e, ytS β E 41 (PA β E kd n 0 0 (o + 1) (.inr x1)) = .inl e → ∃ W' o', Rn β E kd s (3, .inl e, W', o')) := by
    intro b x1 s h6 hb hs
    have q := hS h6 x1 (b :: W) (fun c V e => by
      have : c = b := (List.cons.inj e).1.symm
      subst this
      exact ⟨decide_eq_false (by omega), decide_eq_false (by omega)⟩)
    cases hc : PA β E kd n 0 0 (o + 1) (.inr x1) with
    | inl e =>
      refine ⟨(fun x' h => by cases h), fun e' h => ?_⟩
      have : e = e' := Sum.inl.inj h
      subst this
      obtain ⟨W', o', r⟩ := q.2 e hc
      exact ⟨W', o', Rn_tr hs r⟩
    | inr x2 =>
      obtain ⟨pend, C1, a1, a2, a3, a4⟩ := q.1 x2 hc
      unfold ytS
      by_cases z : yS β E 41 (.inr x2) = true
      · rw [if_pos z]
        refine ⟨fun x' h => ?_, (fun e h => by cases h)⟩
        have : x' = (tkB β E x2.1, tkW β E x2.1 x2.2.1, x2.2.2) := (Sum.inr.inj h).symm
        subst this
        refine Rn_tr hs (Rn_tr a1 (Rn_1 ?_))
        rw [st_close (x := (x2.1, x2.2.1, C1)) hb a3 z]
        show (1, Sum.inr (tkB β E x2.1, tkW β E x2.1 x2.2.1, C1 ++ (pend ++ _)), W, o) = _
        rw [← List.append_assoc, a2]
      · rw [if_neg z]
        refine ⟨fun x' h => (by cases h), fun e h => ?_⟩
        refine ⟨pend ++ b :: W, o + 1, Rn_tr hs (Rn_tr a1 (Rn_1 ?_))⟩
        rw [st_stuck (x := (x2.1, x2.2.1, C1)) hb a3 a4 (show yS β E 41 (.inr x2) = false by simpa using z)]
        show (3, yfail β E 1 (.inr x2), _, _) = _
        rw [h]
  unfold yPartB
  by_cases z1 : yK β E (.inr x) = 2
  · rw [if_pos z1]
    have n0 : ¬ yS β E 40 (.inr x) = true := fun q => by rw [yS_k q] at z1; omega
    have nI : yI β E (.inr x) = none := by
      cases h : yI β E (.inr x) with
      | none => rfl
      | some k => rw [yI_k h] at z1; omega
    have e0 : stp β E kd (0, .inr x, W, o) = if (ytN β E 0 9999 (.inr x)).isRight = true then (1, yput (1000 + yval β E (.inr x)) (ytN β E 0 9999 (.inr x)), W, o) else (3, ytN β E 0 9999 (.inr x), W, o) := by
      rw [s0]
      unfold sP
      rw [if_neg n0, nI, if_neg (by simp), if_neg (by simp)]
      rfl
    cases hc : ytN β E 0 9999 (.inr x) with
    | inl e =>
      rw [hc] at e0
      exact fin3 _ W o rfl e0
    | inr x1 =>
      rw [hc] at e0
      refine ⟨fun x' h => ?_, (fun e h => by cases h)⟩
      rw [← h]
      exact Rn_1 e0
  rw [if_neg z1]
  by_cases z2 : yS β E 40 (.inr x) = true
  · rw [if_pos z2]
    show RP β E kd x W o (yOpB β E (PA β E kd n) o (.inr x))
    unfold yOpB
    by_cases h6 : o < 6
    · rw [if_pos h6]
      have e0 : stp β E kd (0, .inr x, W, o) = (0, yad β E (.inr x), 20 :: W, o + 1) := by
        rw [s0]; unfold sP; rw [if_pos z2, if_pos h6]
      obtain ⟨c1, c2⟩ := close 20 (tkB β E x.1, tkW β E x.1 x.2.1, x.2.2) _ h6 (Or.inl rfl) (Rn_1 e0)
      refine ⟨fun x' h => ?_, c2⟩
      have := c1 x' h
      rw [if_pos rfl, List.append_nil] at this
      exact this
    · rw [if_neg h6]
      refine fin3 _ W o (fl _ _) ?_
      rw [s0]; unfold sP; rw [if_pos z2, if_neg h6]
  rw [if_neg z2]
  have pair : ∀ k b sg, (k = 21 ∧ b = 21 ∧ sg = 5 ∨ k = 22 ∧ b = 22 ∧ sg = 6) → yI β E (.inr x) = some k → RP β E kd x W o (yPrB β E (PA β E kd n) sg o (.inr x)) := by
    intro k b sg hk hi
    have e0 : stp β E kd (0, .inr x, W, o) = (if yS β E 40 (yad β E (.inr x)) = true then (if o < 6 then (0, yad β E (yad β E (.inr x)), b :: W, o + 1) else (3, yfail β E 4 (yad β E (.inr x)), W, o)) else (3, yfail β E 1 (yad β E (.inr x)), W, o)) := by
      rw [s0]; unfold sP
      rw [if_neg z2, hi, if_pos (by rcases hk with ⟨q, _⟩ | ⟨q, _⟩ <;> rw [q] <;> simp)]
      rcases hk with ⟨q1, q2, _⟩ | ⟨q1, q2, _⟩
      · rw [q1, q2, if_pos rfl]
      · rw [q1, q2, if_neg (show ¬ (some 22 : Option Nat) = some 21 by decide)]
    unfold yPrB
    by_cases zo : yS β E 40 (yad β E (.inr x)) = true
    rotate_left
    · rw [if_neg zo] at e0 ⊢
      exact fin3 _ W o (fl _ _) e0
    rw [if_pos zo] at e0 ⊢
    by_cases h6 : o < 6
    rotate_left
    · rw [if_neg h6] at e0 ⊢
      exact fin3 _ W o (fl _ _) e0
    rw [if_pos h6] at e0 ⊢
    have hb : b = 21 ∨ b = 22 := by omega
    have hsum := hS h6 (tkB β E (tkB β E x.1), tkW β E (tkB β E x.1) (tkW β E x.1 x.2.1), x.2.2) (b :: W) (fun c V e => by
      have : c = b := (List.cons.inj e).1.symm
      subst this
      exact ⟨decide_eq_false (by omega), decide_eq_false (by omega)⟩)
    have hyy : yad β E (yad β E (.inr x)) = .inr (tkB β E (tkB β E x.1), tkW β E (tkB β E x.1) (tkW β E x.1 x.2.1), x.2.2) := rfl
    rw [hyy] at e0 ⊢
    cases hc : PA β E kd n 0 0 (o + 1) (.inr (tkB β E (tkB β E x.1), tkW β E (tkB β E x.1) (tkW β E x.1 x.2.1), x.2.2)) with
    | inl e =>
      have eb : PA β E kd n 0 0 (o + 1) (ytS β E 44 (.inl e)) = .inl e := PA_badI n 0 0 (o + 1)
      rw [eb]
      refine ⟨(fun x' h => by cases h), fun e' h => ?_⟩
      have : e = e' := Sum.inl.inj h
      subst this
      obtain ⟨W', o', r⟩ := hsum.2 e hc
      exact ⟨W', o', Rn_st e0 r⟩
    | inr x2 =>
      obtain ⟨pend, C1, a1, a2, a3, a4⟩ := hsum.1 x2 hc
      have sc := @st_comma β E kd b (o + 1) W pend (x2.1, x2.2.1, C1) hb a3 a4
      unfold ytS
      by_cases z : yS β E 44 (.inr x2) = true
      rotate_left
      · rw [if_neg (show ¬ yS β E 44 (.inr (x2.1, x2.2.1, C1)) = true from z)] at sc
        rw [if_neg z]
        have ef : yfail β E 1 (.inr x2) = .inl (1, sk β E x2.1) := rfl
        rw [ef, PA_badI, if_neg (show ¬ yS β E 41 (.inl (1, sk β E x2.1)) = true by simp [yS])]
        refine ⟨(fun x' h => by cases h), fun e h => ?_⟩
        refine ⟨pend ++ b :: W, o + 1, Rn_st e0 (Rn_tr a1 (Rn_1 ?_))⟩
        rw [sc, ← h]
        rfl
      · rw [if_pos (show yS β E 44 (.inr (x2.1, x2.2.1, C1)) = true from z)] at sc
        rw [if_pos z]
        have ey : yapp pend (yad β E (.inr (x2.1, x2.2.1, C1))) = yad β E (.inr x2) := by
          show Sum.inr (tkB β E x2.1, tkW β E x2.1 x2.2.1, C1 ++ pend) = Sum.inr (tkB β E x2.1, tkW β E x2.1 x2.2.1, x2.2.2)
          rw [a2]
        rw [ey] at sc
        obtain ⟨c1, c2⟩ := close (b + 2) (tkB β E x2.1, tkW β E x2.1 x2.2.1, x2.2.2) (0, .inr x, W, o) h6 (by omega) (Rn_st e0 (Rn_tr a1 (Rn_1 sc)))
        unfold ytS at c1 c2
        have hyx : yad β E (.inr x2) = .inr (tkB β E x2.1, tkW β E x2.1 x2.2.1, x2.2.2) := rfl
        rw [hyx]
        generalize hr : (if yS β E 41 (PA β E kd n 0 0 (o + 1) (.inr (tkB β E x2.1, tkW β E x2.1 x2.2.1, x2.2.2))) = true then yad β E (PA β E kd n 0 0 (o + 1) (.inr (tkB β E x2.1, tkW β E x2.1 x2.2.1, x2.2.2))) else yfail β E 1 (PA β E kd n 0 0 (o + 1) (.inr (tkB β E x2.1, tkW β E x2.1 x2.2.1, x2.2.2)))) = r at c1 c2 ⊢
        cases r with
        | inl e => exact ⟨fun x' h => (by cases h), fun e' h => c2 e' h⟩
        | inr x3 =>
          refine ⟨fun x' h => ?_, (fun e h => by cases h)⟩
          have : x' = (x3.1, x3.2.1, x3.2.2 ++ [sg]) := (Sum.inr.inj h).symm
          subst this
          have := c1 x3 rfl
          rcases hk with ⟨_, q2, q3⟩ | ⟨_, q2, q3⟩
          · subst q2; subst q3; exact this
          · subst q2; subst q3; exact this
  by_cases z3 : yI β E (.inr x) = some 21
  · rw [if_pos z3]
    exact pair 21 21 5 (Or.inl ⟨rfl, rfl, rfl⟩) z3
  rw [if_neg z3]
  by_cases z4 : yI β E (.inr x) = some 22
  · rw [if_pos z4]
    exact pair 22 22 6 (Or.inr ⟨rfl, rfl, rfl⟩) z4
  rw [if_neg z4]
  by_cases z5 : kd = 2 ∧ yI β E (.inr x) = some 10
  · rw [if_pos z5]
    show RP β E kd x W o (ySaB β E (PA β E kd n) o (.inr x))
    unfold ySaB
    have e0 : stp β E kd (0, .inr x, W, o) = if o < 6 then (0, yad β E (.inr x), 60 :: W, o + 1) else (3, yfail β E 4 (.inr x), W, o) := by
      rw [s0]; unfold sP; rw [if_neg z2, if_neg (by rintro (q | q); exact z3 q; exact z4 q), if_pos z5]
    by_cases h6 : o < 6
    · rw [if_pos h6] at e0 ⊢
      have q := hP h6 (tkB β E x.1, tkW β E x.1 x.2.1, x.2.2) (60 :: W)
      have hyx : yad β E (.inr x) = .inr (tkB β E x.1, tkW β E x.1 x.2.1, x.2.2) := rfl
      rw [hyx] at e0 ⊢
      cases hc : PA β E kd n 2 0 (o + 1) (.inr (tkB β E x.1, tkW β E x.1 x.2.1, x.2.2)) with
      | inl e =>
        refine ⟨(fun x' h => by cases h), fun e' h => ?_⟩
        have : e = e' := Sum.inl.inj h
        subst this
        obtain ⟨W', o', r⟩ := q.2 e hc
        exact ⟨W', o', Rn_st e0 r⟩
      | inr x2 =>
        refine ⟨fun x' h => ?_, (fun e h => by cases h)⟩
        refine Rn_st e0 (Rn_tr (q.1 x2 hc) (Rn_1 ?_))
        show sX (.inr x2) (60 :: W) (o + 1) = _
        unfold sX
        simp only []
        rw [if_pos (by omega), h]
        rfl
    · rw [if_neg h6] at e0 ⊢
      exact fin3 _ W o (fl _ _) e0
  rw [if_neg z5]
  have e0 : stp β E kd (0, .inr x, W, o) = match vq kd (yI β E (.inr x)) with
    | some q => (1, yput (40 + q) (yad β E (.inr x)), W, o)
    | none => if (ytN β E 0 9999 (.inr x)).isRight = true then (1, yput (1000 + yval β E (.inr x)) (ytN β E 0 9999 (.inr x)), W, o) else (3, ytN β E 0 9999 (.inr x), W, o) := by
    rw [s0]; unfold sP; rw [if_neg z2, if_neg (by rintro (q | q); exact z3 q; exact z4 q), if_neg z5]
    rfl
  cases hv : vq kd (yI β E (.inr x)) with
  | some q =>
    rw [hv] at e0
    refine ⟨fun x' h => ?_, (fun e h => by cases h)⟩
    rw [← h]
    exact Rn_1 e0
  | none =>
    rw [hv] at e0
    have en : ytN β E 0 9999 (.inr x) = yfail β E 1 (.inr x) := if_neg z1
    have e0' : stp β E kd (0, .inr x, W, o) = if (ytN β E 0 9999 (.inr x)).isRight = true then (1, yput (1000 + yval β E (.inr x)) (ytN β E 0 9999 (.inr x)), W, o) else (3, ytN β E 0 9999 (.inr x), W, o) := e0
    rw [en, if_neg (by rw [fl]; decide)] at e0'
    exact fin3 _ W o (fl _ _) e0'
theorem st_M {x : Nat × Bool × List Nat} {V : List Nat} {o : Nat} (h : yS β E 42 (.inr x) = true ∨ yS β E 47 (.inr x) = true) : stp β E kd (2, .inr x, V, o) = (0, yapp (V.takeWhile isM) (yad β E (.inr x)), (if yS β E 42 (.inr x) = true then 3 else 4) :: V.dropWhile isM, o) := by
  show sG β E (.inr x) V o = _
  have n41 : yS β E 41 (.inr x) = false := by
    rcases h with h | h
    · exact sign_ne h (by decide)
    · exact sign_ne h (by decide)
  unfold sG
  rw [if_neg (fun q => by rw [n41] at q; cases q.1), if_pos h]
theorem st_A {x : Nat × Bool × List Nat} {V : List Nat} {o : Nat} (h : yS β E 43 (.inr x) = true ∨ yS β E 45 (.inr x) = true) : stp β E kd (2, .inr x, V, o) = (0, yapp (V.takeWhile isA) (yad β E (.inr x)), (if yS β E 43 (.inr x) = true then 1 else 2) :: V.dropWhile isA, o) := by
  show sG β E (.inr x) V o = _
  have n41 : ∀ c : Int32, 43 ≠ c → 45 ≠ c → yS β E c (.inr x) = false := by
    intro c h1 h2
    rcases h with h | h
    · exact sign_ne h h1
    · exact sign_ne h h2
  unfold sG
  rw [if_neg (fun q => by rw [n41 41 (by decide) (by decide)] at q; cases q.1), if_neg (fun q => by rw [n41 42 (by decide) (by decide), n41 47 (by decide) (by decide)] at q; rcases q with q | q <;> cases q), if_pos h]
theorem run_all (hE : E ≤ 1600) : ∀ N n o, n ≤ N → o ≤ 6 →
    (4 * (7 - o) ≤ n + 2 → ∀ x W, RP β E kd x W o (PA β E kd n 2 0 o (.inr x))) ∧
    (4 * (7 - o) ≤ n + 1 → ∀ x W, (∀ c V, W = c :: V → isM c = false ∧ h60 c = false) → RQ β E kd [42, 47] isM (0, .inr x, W, o) W o (PA β E kd n 1 0 o (.inr x))) ∧
    (4 * (7 - o) ≤ n → ∀ x W, (∀ c V, W = c :: V → isA c = false ∧ h60 c = false) → RQ β E kd [43, 45, 42, 47] isA (0, .inr x, W, o) W o (PA β E kd n 0 0 o (.inr x))) := by
  intro N
  induction N with
  | zero =>
    intro n o hn ho
    exact ⟨fun h => by omega, fun h => by omega, fun h => by omega⟩
  | succ N ih =>
    intro n o hn ho
    refine ⟨fun h => ?_, fun h => ?_, fun h => ?_⟩
    · obtain ⟨n, rfl⟩ : ∃ i, n = i + 2 := ⟨n - 2, by omega⟩
      intro x W
      exact run_part ho (fun h6 x W => (ih n (o + 1) (by omega) (by omega)).1 (by omega) x W) (fun h6 x W hw => (ih n (o + 1) (by omega) (by omega)).2.2 (by omega) x W hw)
    · obtain ⟨n, rfl⟩ : ∃ i, n = i + 1 := ⟨n - 1, by omega⟩
      have part : ∀ x W, (∀ c V, W = c :: V → h60 c = false) → RQ β E kd [] (fun _ => false) (0, .inr x, W, o) W o (PA β E kd n 2 0 o (.inr x)) := by
        intro x W hw
        have q := (ih n o (by omega) ho).1 (by omega) x W
        refine ⟨fun x' e => ⟨[], x'.2.2, Rn_tr (q.1 x' e) (Rn_1 ?_), List.append_nil _, (fun c hc => by cases hc), (fun c hc => by cases hc)⟩, q.2⟩
        show sX (.inr x') W o = _
        cases W with
        | nil => rfl
        | cons c V =>
          have hc := hw c V rfl
          unfold h60 at hc
          rw [decide_eq_false_iff_not] at hc
          unfold sX
          simp only []
          rw [if_neg hc]
          rfl
      intro x W hw
      show RQ β E kd [42, 47] isM (0, .inr x, W, o) W o (yLp β E 42 47 3 4 (PA β E kd n 2 0 o) 1600 (PA β E kd n 2 0 o (.inr x)))
      have q := part x W (fun c V e => (hw c V e).2)
      cases hc : PA β E kd n 2 0 o (.inr x) with
      | inl e =>
        rw [yLp_bad]
        exact ⟨(fun x' h => by cases h), (fun e' h => by cases h; exact q.2 e hc)⟩
      | inr x1 =>
        obtain ⟨pend, C1, b1, b2, b3, b4⟩ := q.1 x1 hc
        obtain ⟨x0, e0, pg⟩ := PA_prg (kd := kd) n 2 0 o (.inr x) (by omega) (by omega) ho x1 hc
        refine RQ_pre b1 (lp_run (pI := fun _ => false) (fun c h => by cases h) (by decide) (by decide) (fun c V e => (hw c V e).1) (fun x op hop => ?_) (fun x x' h => ?_) (fun x V h => st_M h) 1600 x1 C1 pend (by omega) b2 (fun c hc => by cases b3 c hc) b4)
        · refine part x (op :: W) (fun c V e => ?_)
          have : c = op := (List.cons.inj e).1.symm
          subst this
          exact decide_eq_false (by omega)
        · obtain ⟨x0, e0, pg⟩ := PA_prg (kd := kd) n 2 0 o (.inr x) (by omega) (by omega) ho x' h
          cases e0
          exact pg
    · obtain ⟨n, rfl⟩ : ∃ i, n = i + 1 := ⟨n - 1, by omega⟩
      intro x W hw
      have prod := (ih n o (by omega) ho).2.1 (by omega)
      show RQ β E kd [43, 45, 42, 47] isA (0, .inr x, W, o) W o (yLp β E 43 45 1 2 (PA β E kd n 1 0 o) 1600 (PA β E kd n 1 0 o (.inr x)))
      have q := prod x W (fun c V e => ⟨by
        have := (hw c V e).1
        unfold isA at this
        unfold isM
        rw [decide_eq_false_iff_not] at this ⊢
        omega, (hw c V e).2⟩)
      cases hc : PA β E kd n 1 0 o (.inr x) with
      | inl e =>
        rw [yLp_bad]
        exact ⟨(fun x' h => by cases h), (fun e' h => by cases h; exact q.2 e hc)⟩
      | inr x1 =>
        obtain ⟨pend, C1, b1, b2, b3, b4⟩ := q.1 x1 hc
        obtain ⟨x0, e0, pg⟩ := PA_prg (kd := kd) n 1 0 o (.inr x) (by omega) (by omega) ho x1 hc
        refine RQ_pre b1 (lp_run (pI := isM) (fun c h => isM_A h) (by decide) (by decide) (fun c V e => (hw c V e).1) (fun x op hop => ?_) (fun x x' h => ?_) (fun x V h => st_A h) 1600 x1 C1 pend (by omega) b2 (fun c hc => isM_A (b3 c hc)) b4)
        · refine prod x (op :: W) (fun c V e => ?_)
          have : c = op := (List.cons.inj e).1.symm
          subst this
          exact ⟨decide_eq_false (by omega), decide_eq_false (by omega)⟩
        · obtain ⟨x0, e0, pg⟩ := PA_prg (kd := kd) n 1 0 o (.inr x) (by omega) (by omega) ho x' h
          cases e0
          exact pg
/-- the whole: from an empty yard the reading ends over, with what still waits behind the code -/
theorem run_top (hE : E ≤ 1600) {n o : Nat} (ho : o ≤ 6) (hn : 4 * (7 - o) ≤ n) (x : Nat × Bool × List Nat) : (∀ x', PA β E kd n 0 0 o (.inr x) = .inr x' → ∃ pend C1, Rn β E kd (0, .inr x, [], o) (3, .inr (x'.1, x'.2.1, C1), pend, o) ∧ C1 ++ pend = x'.2.2) ∧ (∀ e, PA β E kd n 0 0 o (.inr x) = .inl e → ∃ W' o', Rn β E kd (0, .inr x, [], o) (3, .inl e, W', o')) := by
  have q := (run_all (β := β) (kd := kd) hE n n o (Nat.le_refl _) ho).2.2 hn x [] (fun c V e => by cases e)
  refine ⟨fun x' e => ?_, q.2⟩
  obtain ⟨pend, C1, a1, a2, a3, a4⟩ := q.1 x' e
  rw [List.append_nil] at a1
  refine ⟨pend, C1, Rn_tr a1 (Rn_1 ?_), a2⟩
  have t := @tw_app nb [] (fun c V e => by cases e) pend (fun c hc => isA_nb (a3 c hc))
  rw [List.append_nil] at t
  have hb : bkt pend = 0 := by unfold bkt; rw [t.2]; rfl
  have n1 := a4 43 (by simp)
  have n2 := a4 45 (by simp)
  have n3 := a4 42 (by simp)
  have n4 := a4 47 (by simp)
  show sG β E (.inr (x'.1, x'.2.1, C1)) pend o = _
  have n1' : yS β E 43 (.inr (x'.1, x'.2.1, C1)) = false := n1
  have n2' : yS β E 45 (.inr (x'.1, x'.2.1, C1)) = false := n2
  have n3' : yS β E 42 (.inr (x'.1, x'.2.1, C1)) = false := n3
  have n4' : yS β E 47 (.inr (x'.1, x'.2.1, C1)) = false := n4
  unfold sG
  rw [hb, n1', n2', n3', n4', if_neg (fun q => by omega), if_neg (by simp), if_neg (by simp), if_neg (by omega), if_pos rfl]
end
