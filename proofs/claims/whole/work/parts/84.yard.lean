/-! a yard: mode (0 a part is wanted, 1 a part ended, 2 it may go on, 3 over), the reading, what waits (newest first), how many are open -/
abbrev Sy : Type := Nat × Yr × List Nat × Nat
def yapp (l : List Nat) (y : Yr) : Yr := match y with
  | .inl e => .inl e
  | .inr x => .inr (x.1, x.2.1, x.2.2 ++ l)
def nb (c : Nat) : Bool := decide (c < 20 ∨ 24 < c)
def isM (c : Nat) : Bool := decide (c = 3 ∨ c = 4)
def isA (c : Nat) : Bool := decide (1 ≤ c ∧ c ≤ 4)
def sP (β : Nat → Int32) (E kd : Nat) (y : Yr) (W : List Nat) (o : Nat) : Sy :=
  if yS β E 40 y = true then (if o < 6 then (0, yad β E y, 20 :: W, o + 1) else (3, yfail β E 4 y, W, o))
  else if yI β E y = some 21 ∨ yI β E y = some 22 then (if yS β E 40 (yad β E y) = true then (if o < 6 then (0, yad β E (yad β E y), (if yI β E y = some 21 then 21 else 22) :: W, o + 1) else (3, yfail β E 4 (yad β E y), W, o)) else (3, yfail β E 1 (yad β E y), W, o))
  else if kd = 2 ∧ yI β E y = some 10 then (if o < 6 then (0, yad β E y, 60 :: W, o + 1) else (3, yfail β E 4 y, W, o))
  else match vq kd (yI β E y) with
    | some q => (1, yput (40 + q) (yad β E y), W, o)
    | none => if (ytN β E 0 9999 y).isRight = true then (1, yput (1000 + yval β E y) (ytN β E 0 9999 y), W, o) else (3, ytN β E 0 9999 y, W, o)
def sX (y : Yr) (W : List Nat) (o : Nat) : Sy := match W with
  | [] => (2, y, [], o)
  | c :: V => if 60 ≤ c then (1, yput c y, V, o - 1) else (2, y, c :: V, o)
def bkt (W : List Nat) : Nat := (W.dropWhile nb).headD 0
def sG (β : Nat → Int32) (E : Nat) (y : Yr) (W : List Nat) (o : Nat) : Sy :=
  if yS β E 41 y = true ∧ (bkt W = 20 ∨ bkt W = 23 ∨ bkt W = 24) then (1, yapp (W.takeWhile nb ++ (if bkt W = 20 then [] else if bkt W = 23 then [5] else [6])) (yad β E y), (W.dropWhile nb).tail, o - 1)
  else if yS β E 42 y = true ∨ yS β E 47 y = true then (0, yapp (W.takeWhile isM) (yad β E y), (if yS β E 42 y = true then 3 else 4) :: W.dropWhile isM, o)
  else if yS β E 43 y = true ∨ yS β E 45 y = true then (0, yapp (W.takeWhile isA) (yad β E y), (if yS β E 43 y = true then 1 else 2) :: W.dropWhile isA, o)
  else if bkt W = 21 ∨ bkt W = 22 then (if yS β E 44 y = true then (0, yapp (W.takeWhile nb) (yad β E y), (bkt W + 2) :: (W.dropWhile nb).tail, o) else (3, yfail β E 1 y, W, o))
  else if bkt W = 0 then (3, y, W, o) else (3, yfail β E 1 y, W, o)
def stp (β : Nat → Int32) (E kd : Nat) (s : Sy) : Sy :=
  if s.1 = 0 then sP β E kd s.2.1 s.2.2.1 s.2.2.2 else if s.1 = 1 then sX s.2.1 s.2.2.1 s.2.2.2 else if s.1 = 2 then sG β E s.2.1 s.2.2.1 s.2.2.2 else s
def itr (β : Nat → Int32) (E kd : Nat) : Nat → Sy → Sy
  | 0, s => s
  | n + 1, s => itr β E kd n (stp β E kd s)
def Rn (β : Nat → Int32) (E kd : Nat) (s t : Sy) : Prop := ∃ n, itr β E kd n s = t
section
variable {β : Nat → Int32} {E kd : Nat}
theorem itr_add : ∀ (a b : Nat) (s : Sy), itr β E kd (a + b) s = itr β E kd b (itr β E kd a s) := by
  intro a
  induction a with
  | zero => intro b s; rw [Nat.zero_add]; rfl
  | succ a ih =>
    intro b s
    rw [show a + 1 + b = (a + b) + 1 by omega]
    exact ih b (stp β E kd s)
theorem Rn_refl (s : Sy) : Rn β E kd s s := ⟨0, rfl⟩
theorem Rn_tr {a b c : Sy} (h1 : Rn β E kd a b) (h2 : Rn β E kd b c) : Rn β E kd a c := by
  obtain ⟨n1, e1⟩ := h1
  obtain ⟨n2, e2⟩ := h2
  exact ⟨n1 + n2, by rw [itr_add, e1, e2]⟩
theorem Rn_st {a b c : Sy} (h1 : stp β E kd a = b) (h2 : Rn β E kd b c) : Rn β E kd a c := by
  obtain ⟨n2, e2⟩ := h2
  exact ⟨n2 + 1, by show itr β E kd n2 (stp β E kd a) = c; rw [h1, e2]⟩
theorem Rn_1 {a b : Sy} (h1 : stp β E kd a = b) : Rn β E kd a b := Rn_st h1 (Rn_refl b)
theorem itr_3 {s : Sy} (h : 3 ≤ s.1) : ∀ n, itr β E kd n s = s := by
  intro n
  induction n with
  | zero => rfl
  | succ n ih =>
    show itr β E kd n (stp β E kd s) = s
    have : stp β E kd s = s := by unfold stp; rw [if_neg (by omega), if_neg (by omega), if_neg (by omega)]
    rw [this]; exact ih
theorem Rn_det {s t u : Sy} (h1 : Rn β E kd s t) (h2 : Rn β E kd s u) (ht : 3 ≤ t.1) (hu : 3 ≤ u.1) : t = u := by
  obtain ⟨n1, e1⟩ := h1
  obtain ⟨n2, e2⟩ := h2
  have q1 := itr_add (β := β) (E := E) (kd := kd) n1 n2 s
  have q2 := itr_add (β := β) (E := E) (kd := kd) n2 n1 s
  rw [e1, itr_3 ht] at q1
  rw [e2, itr_3 hu, Nat.add_comm] at q2
  exact q1.symm.trans q2
def hd (p : Nat → Bool) (W : List Nat) : Prop := ∀ c V, W = c :: V → p c = false
theorem tw_app {p : Nat → Bool} {W : List Nat} (hW : hd p W) : ∀ (P : List Nat), (∀ a, a ∈ P → p a = true) → (P ++ W).takeWhile p = P ∧ (P ++ W).dropWhile p = W := by
  intro P
  induction P with
  | nil =>
    intro _
    cases W with
    | nil => exact ⟨rfl, rfl⟩
    | cons c V =>
      have := hW c V rfl
      constructor
      · show List.takeWhile p (c :: V) = []
        unfold List.takeWhile; rw [this]
      · show List.dropWhile p (c :: V) = c :: V
        unfold List.dropWhile; rw [this]
  | cons a P ih =>
    intro h
    obtain ⟨i1, i2⟩ := ih (fun c hc => h c (List.mem_cons_of_mem _ hc))
    have ha := h a (List.mem_cons_self ..)
    constructor
    · show List.takeWhile p (a :: (P ++ W)) = a :: P
      rw [List.takeWhile_cons, if_pos ha, i1]
    · show List.dropWhile p (a :: (P ++ W)) = W
      rw [List.dropWhile_cons, if_pos ha, i2]
theorem isA_nb {c : Nat} (h : isA c = true) : nb c = true := by
  unfold isA at h
  unfold nb
  rw [decide_eq_true_iff] at h ⊢
  omega
theorem isM_A {c : Nat} (h : isM c = true) : isA c = true := by
  unfold isM at h
  unfold isA
  rw [decide_eq_true_iff] at h ⊢
  omega
theorem sign_ne {c d : Int32} {y : Yr} (h : yS β E c y = true) (hn : c ≠ d) : yS β E d y = false := by
  cases y with
  | inl e => rfl
  | inr x =>
    unfold yS at h ⊢
    simp only [Bool.and_eq_true, decide_eq_true_eq] at h
    simp only [Bool.and_eq_false_iff, decide_eq_false_iff_not]
    right
    rw [h.2]; exact hn
def nS (β : Nat → Int32) (E : Nat) (l : List Int32) (x : Nat × Bool × List Nat) : Prop := ∀ c, c ∈ l → yS β E c (.inr x) = false
def RQ (β : Nat → Int32) (E kd : Nat) (l : List Int32) (p : Nat → Bool) (s : Sy) (W : List Nat) (o : Nat) (r : Yr) : Prop :=
  (∀ x', r = .inr x' → ∃ pend C1, Rn β E kd s (2, .inr (x'.1, x'.2.1, C1), pend ++ W, o) ∧ C1 ++ pend = x'.2.2 ∧ (∀ c, c ∈ pend → p c = true) ∧ nS β E l x') ∧ (∀ e, r = .inl e → ∃ W' o', Rn β E kd s (3, .inl e, W', o'))
theorem RQ_pre {l : List Int32} {p : Nat → Bool} {s s' : Sy} {W : List Nat} {o : Nat} {r : Yr} (h : Rn β E kd s s') (q : RQ β E kd l p s' W o r) : RQ β E kd l p s W o r := by
  refine ⟨fun x' e => ?_, fun e h1 => ?_⟩
  · obtain ⟨pend, C1, a1, a2⟩ := q.1 x' e
    exact ⟨pend, C1, Rn_tr h a1, a2⟩
  · obtain ⟨W', o', a1⟩ := q.2 e h1
    exact ⟨W', o', Rn_tr h a1⟩
theorem yLp_bad {a b : Int32} {ca cb : Nat} {r : Yr → Yr} {e : Nat × Nat} : ∀ j, yLp β E a b ca cb r j (.inl e) = .inl e := by
  intro j
  cases j with
  | zero => rfl
  | succ j =>
    show (if _ then _ else _) = _
    rw [if_neg (by rintro (q | q) <;> cases q)]
theorem lp_run {a b : Int32} {ca cb : Nat} {l : List Int32} {p pI : Nat → Bool} {r : Yr → Yr} {o : Nat} {W : List Nat} (hpI : ∀ c, pI c = true → p c = true) (hca : p ca = true) (hcb : p cb = true) (hW : hd p W)
    (hr : ∀ x op, (op = ca ∨ op = cb) → RQ β E kd l pI (0, .inr x, op :: W, o) (op :: W) o (r (.inr x)))
    (hp : ∀ x x', r (.inr x) = .inr x' → x.1 < x'.1)
    (hs : ∀ x V, (yS β E a (.inr x) = true ∨ yS β E b (.inr x) = true) → stp β E kd (2, .inr x, V, o) = (0, yapp (V.takeWhile p) (yad β E (.inr x)), (if yS β E a (.inr x) = true then ca else cb) :: V.dropWhile p, o)) :
    ∀ j (x : Nat × Bool × List Nat) C1 pend, E - x.1 < j → C1 ++ pend = x.2.2 → (∀ c, c ∈ pend → p c = true) → nS β E l x → RQ β E kd (a :: b :: l) p (2, .inr (x.1, x.2.1, C1), pend ++ W, o) W o (yLp β E a b ca cb r j (.inr x)) := by
  intro j
  induction j with
  | zero => intro x C1 pend h; omega
  | succ j ih =>
    intro x C1 pend hj hC hpd hn
    by_cases z : yS β E a (.inr x) = true ∨ yS β E b (.inr x) = true
    · have e0 : yLp β E a b ca cb r (j + 1) (.inr x) = yLp β E a b ca cb r j (yput (if yS β E a (.inr x) = true then ca else cb) (r (yad β E (.inr x)))) := by
        show (if _ then _ else _) = _
        rw [if_pos z]
      rw [e0]
      have hk : tkK β E x.1 x.2.1 ≠ 0 := by
        rcases z with z | z
        · have : tkK β E x.1 x.2.1 = 3 := yS_k z
          rw [this]; decide
        · have : tkK β E x.1 x.2.1 = 3 := yS_k z
          rw [this]; decide
      have hlt := tkK_lt hk
      have hge := sk_ge β E x.1
      have hB := tkB_lt hk
      obtain ⟨t1, t2⟩ := tw_app hW pend hpd
      have st := hs (x.1, x.2.1, C1) (pend ++ W) z
      rw [t1, t2] at st
      have ey : yapp pend (yad β E (.inr (x.1, x.2.1, C1))) = .inr (tkB β E x.1, tkW β E x.1 x.2.1, x.2.2) := by
        show Sum.inr (tkB β E x.1, tkW β E x.1 x.2.1, C1 ++ pend) = _
        rw [hC]
      rw [ey] at st
      generalize hop : (if yS β E a (.inr x) = true then ca else cb) = op
      have hop2 : op = ca ∨ op = cb := by
        rw [← hop]
        split
        · exact Or.inl rfl
        · exact Or.inr rfl
      have st' : stp β E kd (2, .inr (x.1, x.2.1, C1), pend ++ W, o) = (0, .inr (tkB β E x.1, tkW β E x.1 x.2.1, x.2.2), op :: W, o) := by
        rw [← hop]; exact st
      refine RQ_pre (Rn_1 st') ?_
      have hq := hr (tkB β E x.1, tkW β E x.1 x.2.1, x.2.2) op hop2
      have ea : yad β E (.inr x) = .inr (tkB β E x.1, tkW β E x.1 x.2.1, x.2.2) := rfl
      rw [ea]
      cases hc : r (.inr (tkB β E x.1, tkW β E x.1 x.2.1, x.2.2)) with
      | inl e =>
        show RQ β E kd _ p _ W o (yLp β E a b ca cb r j (.inl e))
        rw [yLp_bad]
        exact ⟨(fun x' q => by cases q), (fun e' q => by cases q; exact hq.2 e hc)⟩
      | inr x1 =>
        obtain ⟨pend1, C11, b1, b2, b3, b4⟩ := hq.1 x1 hc
        have hlt1 := hp _ _ hc
        have hlt1' : tkB β E x.1 < x1.1 := hlt1
        refine RQ_pre b1 ?_
        have := ih (x1.1, x1.2.1, x1.2.2 ++ [op]) C11 (pend1 ++ [op]) (by show E - x1.1 < j; omega) (by rw [← List.append_assoc, b2]) (fun c hc => by
          rcases List.mem_append.mp hc with q | q
          · exact hpI c (b3 c q)
          · rw [List.mem_singleton] at q
            subst q
            rcases hop2 with q | q <;> rw [q] <;> assumption) b4
        rw [List.append_assoc] at this
        exact this
    · have e0 : yLp β E a b ca cb r (j + 1) (.inr x) = .inr x := by
        show (if _ then _ else _) = _
        rw [if_neg z]
      rw [e0]
      refine ⟨fun x' q => ?_, (fun e q => by cases q)⟩
      cases q
      refine ⟨pend, C1, Rn_refl _, hC, hpd, fun c hc => ?_⟩
      rcases List.mem_cons.mp hc with q | hc
      · subst q; cases h : yS β E c (.inr x) with
        | false => rfl
        | true => exact absurd (Or.inl h) z
      rcases List.mem_cons.mp hc with q | hc
      · subst q; cases h : yS β E c (.inr x) with
        | false => rfl
        | true => exact absurd (Or.inr h) z
      · exact hn c hc
end
