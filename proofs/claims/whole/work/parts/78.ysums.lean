/-! SUMS as they should be read -/
def wq (w : Nat) : Option Nat := if w = 10 then some 0 else if w = 2 then some 1 else if w = 3 then some 2 else if w = 11 then some 3 else if w = 12 then some 4 else if w = 13 then some 5 else if w = 14 then some 6 else if w = 15 then some 7 else if w = 16 then some 8 else if w = 4 then some 9 else none
def okq (kd q : Nat) : Bool := if kd = 0 then decide (q < 6) else if kd = 1 then decide (q < 5 ∨ q = 6) else decide ((1 ≤ q ∧ q ≤ 3) ∨ 5 < q)
def vq (kd : Nat) (r : Option Nat) : Option Nat := r.bind (fun w => (wq w).bind (fun q => if okq kd q = true then some q else none))
def yPartB (β : Nat → Int32) (E kd : Nat) (rc : Nat → Nat → Nat → Yr → Yr) (o : Nat) (y : Yr) : Yr :=
  if yK β E y = 2 then yput (1000 + yval β E y) (ytN β E 0 9999 y) else if yS β E 40 y = true then rc 3 0 o y else if yI β E y = some 21 then rc 4 5 o y else if yI β E y = some 22 then rc 4 6 o y
  else if kd = 2 ∧ yI β E y = some 10 then rc 5 0 o y else match vq kd (yI β E y) with
    | some q => yad β E (yput (40 + q) y)
    | none => yfail β E 1 y
def yOpB (β : Nat → Int32) (E : Nat) (rc : Nat → Nat → Nat → Yr → Yr) (o : Nat) (y : Yr) : Yr := if o < 6 then ytS β E 41 (rc 0 0 (o + 1) (yad β E y)) else yfail β E 4 y
def yPrB (β : Nat → Int32) (E : Nat) (rc : Nat → Nat → Nat → Yr → Yr) (sg o : Nat) (y : Yr) : Yr :=
  if yS β E 40 (yad β E y) = true then (if o < 6 then yput sg (ytS β E 41 (rc 0 0 (o + 1) (ytS β E 44 (rc 0 0 (o + 1) (yad β E (yad β E y)))))) else yfail β E 4 (yad β E y)) else yfail β E 1 (yad β E y)
def ySaB (β : Nat → Int32) (E : Nat) (rc : Nat → Nat → Nat → Yr → Yr) (o : Nat) (y : Yr) : Yr := if o < 6 then yput 60 (rc 2 0 (o + 1) (yad β E y)) else yfail β E 4 y
def yLp (β : Nat → Int32) (E : Nat) (a b : Int32) (ca cb : Nat) (r : Yr → Yr) : Nat → Yr → Yr
  | 0, y => y
  | j + 1, y => if yS β E a y = true ∨ yS β E b y = true then yLp β E a b ca cb r j (yput (if yS β E a y = true then ca else cb) (r (yad β E y))) else y
def PA (β : Nat → Int32) (E kd : Nat) : Nat → Nat → Nat → Nat → Yr → Yr
  | 0, _, _, _, y => y
  | n + 1, 0, _, o, y => yLp β E 43 45 1 2 (PA β E kd n 1 0 o) 1600 (PA β E kd n 1 0 o y)
  | n + 1, 1, _, o, y => yLp β E 42 47 3 4 (PA β E kd n 2 0 o) 1600 (PA β E kd n 2 0 o y)
  | n + 1, 2, _, o, y => yPartB β E kd (PA β E kd n) o y
  | n + 1, 3, _, o, y => yOpB β E (PA β E kd n) o y
  | n + 1, 4, sg, o, y => yPrB β E (PA β E kd n) sg o y
  | n + 1, _, _, o, y => ySaB β E (PA β E kd n) o y
/-! the text goes on as the code grows -/
def slk (d : Nat) (y y' : Yr) : Prop := ∀ x', y' = .inr x' → ∃ x, y = .inr x ∧ x.1 ≤ x'.1 ∧ x'.2.2.length + x.1 + d ≤ x.2.2.length + x'.1
theorem slk_refl (y : Yr) : slk 0 y y := fun x' h => ⟨x', h, Nat.le_refl _, Nat.le_refl _⟩
theorem slk_tr {a b : Nat} {y1 y2 y3 : Yr} (h1 : slk a y1 y2) (h2 : slk b y2 y3) : slk (a + b) y1 y3 := by
  intro x3 e3
  obtain ⟨x2, e2, q1, q2⟩ := h2 x3 e3
  obtain ⟨x1, e1, q3, q4⟩ := h1 x2 e2
  exact ⟨x1, e1, by omega, by omega⟩
theorem slk_le {a b : Nat} {y1 y2 : Yr} (h : slk a y1 y2) (hb : b ≤ a) : slk b y1 y2 := by
  intro x2 e2
  obtain ⟨x1, e1, q1, q2⟩ := h x2 e2
  exact ⟨x1, e1, q1, by omega⟩
theorem slk_put {d c : Nat} {y y' : Yr} (h : slk (d + 1) y y') : slk d y (yput c y') := by
  intro x2 e2
  cases y' with
  | inl e => cases e2
  | inr x =>
    obtain ⟨x1, e1, q1, q2⟩ := h x rfl
    have : x2 = (x.1, x.2.1, x.2.2 ++ [c]) := (Sum.inr.inj e2).symm
    subst this
    refine ⟨x1, e1, q1, ?_⟩
    show (x.2.2 ++ [c]).length + x1.1 + d ≤ _
    rw [List.length_append]
    show x.2.2.length + 1 + x1.1 + d ≤ _
    omega
theorem slk_fail {β : Nat → Int32} {E k d : Nat} {y y0 : Yr} : slk d y0 (yfail β E k y) := by
  intro x2 e2
  cases y <;> cases e2
theorem slk_ad {β : Nat → Int32} {E : Nat} {y : Yr} (h : yK β E y ≠ 0) : slk 1 y (yad β E y) := by
  intro x2 e2
  cases y with
  | inl e => cases e2
  | inr x =>
    have : x2 = (tkB β E x.1, tkW β E x.1 x.2.1, x.2.2) := (Sum.inr.inj e2).symm
    subst this
    have := tkB_lt (w := x.2.1) h
    exact ⟨x, rfl, by show x.1 ≤ tkB β E x.1; omega, by show x.2.2.length + x.1 + 1 ≤ x.2.2.length + tkB β E x.1; omega⟩
theorem slk_ad0 {β : Nat → Int32} {E : Nat} {y : Yr} : slk 0 y (yad β E y) := by
  intro x2 e2
  cases y with
  | inl e => cases e2
  | inr x =>
    have : x2 = (tkB β E x.1, tkW β E x.1 x.2.1, x.2.2) := (Sum.inr.inj e2).symm
    subst this
    have h1 := sk_ge β E x.1
    have : x.1 ≤ tkB β E x.1 := by unfold tkB; omega
    exact ⟨x, rfl, this, by show x.2.2.length + x.1 + 0 ≤ x.2.2.length + tkB β E x.1; omega⟩
theorem yS_k {β : Nat → Int32} {E : Nat} {c : Int32} {y : Yr} (h : yS β E c y = true) : yK β E y = 3 := by
  cases y with
  | inl e => cases h
  | inr x =>
    unfold yS at h
    simp only [Bool.and_eq_true, decide_eq_true_eq] at h
    exact h.1
theorem yI_k {β : Nat → Int32} {E k : Nat} {y : Yr} (h : yI β E y = some k) : yK β E y = 1 := by
  cases y with
  | inl e => cases h
  | inr x =>
    unfold yI at h
    simp only [] at h
    by_cases z : tkK β E x.1 x.2.1 = 1
    · exact z
    · rw [if_neg z] at h; cases h
theorem slk_tS {β : Nat → Int32} {E : Nat} {c : Int32} {y : Yr} : slk 1 y (ytS β E c y) := by
  unfold ytS
  by_cases z : yS β E c y = true
  · rw [if_pos z]; exact slk_ad (by rw [yS_k z]; decide)
  · rw [if_neg z]; exact slk_fail
theorem slk_tN {β : Nat → Int32} {E lo hi : Nat} {y : Yr} : slk 1 y (ytN β E lo hi y) := by
  cases y with
  | inl e => intro x2 e2; cases e2
  | inr x =>
    unfold ytN
    simp only []
    by_cases z : tkK β E x.1 x.2.1 = 2
    · rw [if_pos z]
      split
      · split
        · intro x2 e2; cases e2
        · exact slk_ad (by show tkK β E x.1 x.2.1 ≠ 0; rw [z]; decide)
      · intro x2 e2; cases e2
    · rw [if_neg z]; intro x2 e2; cases e2
theorem slk_vad {β : Nat → Int32} {E c : Nat} {y : Yr} (h : yK β E y = 1) : slk 0 y (yad β E (yput c y)) := by
  intro x2 e2
  cases y with
  | inl e => cases e2
  | inr x =>
    have : x2 = (tkB β E x.1, tkW β E x.1 x.2.1, x.2.2 ++ [c]) := (Sum.inr.inj e2).symm
    subst this
    have h0 : tkK β E x.1 x.2.1 ≠ 0 := by
      have : tkK β E x.1 x.2.1 = 1 := h
      rw [this]; decide
    have := tkB_lt h0
    refine ⟨x, rfl, by show x.1 ≤ tkB β E x.1; omega, ?_⟩
    show (x.2.2 ++ [c]).length + x.1 + 0 ≤ x.2.2.length + tkB β E x.1
    rw [List.length_append]
    show x.2.2.length + 1 + x.1 + 0 ≤ _
    omega
theorem slk_lp {β : Nat → Int32} {E : Nat} {a b : Int32} {ca cb : Nat} {r : Yr → Yr} (hr : ∀ y, slk 0 y (r y)) : ∀ j y, slk 0 y (yLp β E a b ca cb r j y) := by
  intro j
  induction j with
  | zero => intro y; exact slk_refl y
  | succ j ih =>
    intro y
    unfold yLp
    by_cases z : yS β E a y = true ∨ yS β E b y = true
    · rw [if_pos z]
      have hk : yK β E y ≠ 0 := by
        rcases z with z | z
        · rw [yS_k z]; decide
        · rw [yS_k z]; decide
      have h1 : slk 1 y (r (yad β E y)) := slk_tr (slk_ad hk) (hr _)
      exact slk_tr (slk_put h1) (ih _)
    · rw [if_neg z]; exact slk_refl y
theorem vq_k {β : Nat → Int32} {E kd q : Nat} {y : Yr} (h : vq kd (yI β E y) = some q) : yK β E y = 1 := by
  cases hi : yI β E y with
  | none => rw [hi] at h; cases h
  | some k => exact yI_k hi
theorem PA_slk {β : Nat → Int32} {E kd : Nat} : ∀ n idx sg o y, (5 ≤ idx → yK β E y ≠ 0) → slk 0 y (PA β E kd n idx sg o y) := by
  intro n
  induction n with
  | zero => intro idx sg o y _; unfold PA; exact slk_refl y
  | succ n ih =>
    intro idx sg o y hy
    match idx with
    | 0 => exact slk_tr (ih 1 0 o y (by omega)) (slk_lp (fun y => ih 1 0 o y (by omega)) _ _)
    | 1 => exact slk_tr (ih 2 0 o y (by omega)) (slk_lp (fun y => ih 2 0 o y (by omega)) _ _)
    | 2 =>
      show slk 0 y (yPartB β E kd (PA β E kd n) o y)
      unfold yPartB
      split
      · exact slk_put slk_tN
      · split
        · exact ih _ _ _ _ (by omega)
        · split
          · exact ih _ _ _ _ (by omega)
          · split
            · exact ih _ _ _ _ (by omega)
            · split
              · next z => exact ih _ _ _ _ (fun _ => by rw [yI_k z.2]; decide)
              · cases hv : vq kd (yI β E y) with
                | none => exact slk_fail
                | some q => exact slk_vad (vq_k hv)
    | 3 =>
      show slk 0 y (yOpB β E (PA β E kd n) o y)
      unfold yOpB
      split
      · exact slk_le (slk_tr (slk_tr slk_ad0 (ih _ _ _ _ (by omega))) slk_tS) (by omega)
      · exact slk_fail
    | 4 =>
      show slk 0 y (yPrB β E (PA β E kd n) sg o y)
      unfold yPrB
      split
      · split
        · exact slk_put (slk_le (slk_tr (slk_tr (slk_tr (slk_tr (slk_tr slk_ad0 slk_ad0) (ih 0 0 (o + 1) _ (by omega))) slk_tS) (ih 0 0 (o + 1) _ (by omega))) slk_tS) (by omega))
        · exact slk_fail
      · exact slk_fail
    | 5 =>
      show slk 0 y (ySaB β E (PA β E kd n) o y)
      unfold ySaB
      split
      · exact slk_put (d := 0) (slk_tr (a := 1) (b := 0) (slk_ad (hy (by omega))) (ih _ _ _ _ (by omega)))
      · exact slk_fail
    | k + 6 =>
      show slk 0 y (ySaB β E (PA β E kd n) o y)
      unfold ySaB
      split
      · exact slk_put (d := 0) (slk_tr (a := 1) (b := 0) (slk_ad (hy (by omega))) (ih _ _ _ _ (by omega)))
      · exact slk_fail
/-! the class reads SUMS -/
def rch (C : List Nat) : Nat := if 60 ∈ C then 31 else if 46 ∈ C ∨ 48 ∈ C then 1 else 0
theorem rch_app {C : List Nat} {c : Nat} (h1 : c ≠ 60) (h2 : c ≠ 46) (h3 : c ≠ 48) : rch (C ++ [c]) = rch C := by
  unfold rch
  simp only [List.mem_append, List.mem_singleton]
  have e1 : (60 ∈ C ∨ 60 = c) ↔ 60 ∈ C := ⟨fun q => q.resolve_right (fun z => h1 z.symm), Or.inl⟩
  have e2 : ((46 ∈ C ∨ 46 = c) ∨ (48 ∈ C ∨ 48 = c)) ↔ (46 ∈ C ∨ 48 ∈ C) := ⟨fun q => q.elim (fun z => Or.inl (z.resolve_right (fun z => h2 z.symm))) (fun z => Or.inr (z.resolve_right (fun z => h3 z.symm))), fun q => q.elim (fun z => Or.inl (Or.inl z)) (fun z => Or.inr (Or.inl z))⟩
  simp only [e1, e2]
theorem rch_60 {C : List Nat} : rch (C ++ [60]) = 31 := by
  unfold rch
  rw [if_pos (by simp)]
theorem rch_v {C : List Nat} {c : Nat} (h : c = 46 ∨ c = 48) : rch (C ++ [c]) = max (rch C) 1 := by
  unfold rch
  by_cases z : 60 ∈ C
  · rw [if_pos z, if_pos (by simp [z])]; rfl
  · have : ¬ 60 ∈ C ++ [c] := by
      simp only [List.mem_append, List.mem_singleton]
      rintro (q | q)
      · exact z q
      · omega
    rw [if_neg z, if_neg this, if_pos (by rcases h with h | h <;> subst h <;> simp)]
    split <;> rfl
theorem rch_le (C : List Nat) : rch C ≤ 31 := by unfold rch; split; omega; split <;> omega
theorem cells_app {en : Nat → Int32} {g : Nat → Int32} : ∀ (l : List Nat) (k c : Nat), cells en g k (l ++ [c]) ↔ cells en g k l ∧ g (k + l.length) = en c := by
  intro l
  induction l with
  | nil => intro k c; exact ⟨fun h => ⟨trivial, h.1⟩, fun h => ⟨h.2, trivial⟩⟩
  | cons a l ih =>
    intro k c
    show (g k = en a ∧ cells en g (k + 1) (l ++ [c])) ↔ (g k = en a ∧ cells en g (k + 1) l) ∧ g (k + (l.length + 1)) = en c
    rw [ih (k + 1) c, show k + 1 + l.length = k + (l.length + 1) by omega, and_assoc]
theorem cells_fr {en : Nat → Int32} {g g' : Nat → Int32} : ∀ (l : List Nat) (k : Nat), (∀ i, k ≤ i → i < k + l.length → g' i = g i) → cells en g k l → cells en g' k l := by
  intro l
  induction l with
  | nil => intro k _ _; trivial
  | cons a l ih =>
    intro k hg h
    exact ⟨(hg k (Nat.le_refl _) (by simp)).trans h.1, ih (k + 1) (fun i h1 h2 => hg i (by omega) (by simp; omega)) h.2⟩
def okc (oc : Nat) : Prop := oc = 5 ∨ oc = 11 ∨ oc = 23
theorem isK2 {oc : Nat} (h : okc oc) : isK 2 oc := by
  rcases h with h | h | h <;> subst h <;> decide
def YR (β : Nat → Int32) (E kd oc fr : Nat) (m : ev_M) (o : Nat) (y : Yr) : Prop :=
  YC β E m y ∧ m.1 15 1 = Int32.ofNat oc ∧ m.1 15 2 = Int32.ofNat kd ∧ (∃ z, z ≤ 1608 ∧ m.1 oc 1 = Int32.ofNat z) ∧
  ∀ x, y = .inr x → m.1 15 3 = Int32.ofNat o ∧ m.1 oc 1 = Int32.ofNat (fr + x.2.2.length) ∧ cells tr (m.1 (oc + 1)) fr x.2.2 ∧ fr + x.2.2.length ≤ x.1 ∧ m.1 15 4 = Int32.ofNat (rch x.2.2)
section
variable {f E kd oc fr o : Nat} {β : Nat → Int32} {m : ev_M} {y : Yr}
theorem yr_mv {m' : ev_M} {y' : Yr} (hoc : okc oc) (h : YR β E kd oc fr m o y) (hy : YC β E m' y') (hfr : ∀ a k, a ≠ 13 → m'.1 a k = m.1 a k) (hs : ∀ x', y' = .inr x' → ∃ x, y = .inr x ∧ x'.2.2 = x.2.2 ∧ x.1 ≤ x'.1) : YR β E kd oc fr m' o y' := by
  obtain ⟨a1, a2, a3, ⟨z, a4, a5⟩, a6⟩ := h
  have h13 : oc ≠ 13 := by unfold okc at hoc; omega
  have h13' : oc + 1 ≠ 13 := by unfold okc at hoc; omega
  refine ⟨hy, by rw [hfr _ _ (by decide)]; exact a2, by rw [hfr _ _ (by decide)]; exact a3, ⟨z, a4, by rw [hfr _ _ h13]; exact a5⟩, fun x' e => ?_⟩
  obtain ⟨x, e1, e2, e3⟩ := hs x' e
  obtain ⟨b1, b2, b3, b4, b5⟩ := a6 x e1
  rw [e2]
  exact ⟨by rw [hfr _ _ (by decide)]; exact b1, by rw [hfr _ _ h13]; exact b2, cells_fr _ _ (fun i _ _ => hfr _ _ h13') b3, by omega, by rw [hfr _ _ (by decide)]; exact b5⟩
theorem yr_adv (hf : 4000 ≤ f) (hoc : okc oc) (h : YR β E kd oc fr m o y) : ∃ m', FX10_advance f m = some ((), m') ∧ YR β E kd oc fr m' o (yad β E y) := by
  obtain ⟨m', r1, r2⟩ := cy_adv hf h.1
  refine ⟨m', r1, yr_mv hoc h r2 (fun a k z => (MDX10_advance r1 a k (by unfold mdX10_advance; omega)).1) (fun x' e => ?_)⟩
  cases y with
  | inl e' => cases e
  | inr x =>
    have : x' = (tkB β E x.1, tkW β E x.1 x.2.1, x.2.2) := (Sum.inr.inj e).symm
    subst this
    have h1 := sk_ge β E x.1
    exact ⟨x, rfl, rfl, by show x.1 ≤ tkB β E x.1; unfold tkB; omega⟩
theorem yr_fail (hoc : okc oc) (h : YR β E kd oc fr m o y) {k : Nat} (hk : 1 ≤ k) (hk2 : k ≤ 5) : ∃ m', FX10_fail f (Int32.ofNat k) (m.1 13 2) m = some ((), m') ∧ YR β E kd oc fr m' o (yfail β E k y) := by
  obtain ⟨m', r1, r2⟩ := @cy_fail f E β m y h.1 k hk hk2
  refine ⟨m', r1, yr_mv hoc h r2 (fun a k z => (MDX10_fail r1 a k (by unfold mdX10_fail; omega)).1) (fun x' e => ?_)⟩
  cases y <;> cases e
theorem yr_tS (hf : 4000 ≤ f) (hoc : okc oc) (h : YR β E kd oc fr m o y) (c : Int32) : ∃ m', FX10_takeSign f c m = some ((), m') ∧ YR β E kd oc fr m' o (ytS β E c y) := by
  obtain ⟨m', r1, r2⟩ := cy_tS hf h.1 c
  refine ⟨m', r1, yr_mv hoc h r2 (fun a k z => (MDX10_takeSign r1 a k (by unfold mdX10_takeSign; omega)).1) (fun x' e => ?_)⟩
  unfold ytS at e
  by_cases z : yS β E c y = true
  · rw [if_pos z] at e
    cases y with
    | inl e' => cases e
    | inr x =>
      have : x' = (tkB β E x.1, tkW β E x.1 x.2.1, x.2.2) := (Sum.inr.inj e).symm
      subst this
      have h1 := sk_ge β E x.1
      exact ⟨x, rfl, rfl, by show x.1 ≤ tkB β E x.1; unfold tkB; omega⟩
  · rw [if_neg z] at e
    cases y <;> cases e
theorem yr_open {o' : Nat} {v : Int32} (hoc : okc oc) (h : YR β E kd oc fr m o y) (hv : y.isRight = true → v = Int32.ofNat o') : YR β E kd oc fr (ev_up m.1 15 3 v, m.2) o' y := by
  obtain ⟨a1, a2, a3, ⟨z, a4, a5⟩, a6⟩ := h
  have h15 : oc ≠ 15 := by unfold okc at hoc; omega
  have h15' : oc + 1 ≠ 15 := by unfold okc at hoc; omega
  refine ⟨YC_fr a1 (fun a k q => by rw [upI_na _ _ _ _ (by omega)]), by rw [upI_nk _ _ _ _ (by decide)]; exact a2, by rw [upI_nk _ _ _ _ (by decide)]; exact a3, ⟨z, a4, by rw [upI_na _ _ _ _ h15]; exact a5⟩, fun x e => ?_⟩
  obtain ⟨b1, b2, b3, b4, b5⟩ := a6 x e
  exact ⟨by rw [upI_at]; exact hv (by rw [e]; rfl), by rw [upI_na _ _ _ _ h15]; exact b2, by rw [upI_na _ _ _ _ h15']; exact b3, b4, by rw [upI_nk _ _ _ _ (by decide)]; exact b5⟩
theorem c_add {z oc : Nat} {v : Int32} (hz : z ≤ 1608) (h : m.1 oc 1 = Int32.ofNat z) : FX2_add f oc v m = some ((), if z < 1608 then (ev_up (ev_up m.1 (oc + 1) z v) oc 1 (Int32.ofNat (z + 1)), m.2) else m) := by
  unfold FX2_add
  rw [h]
  by_cases q : z < 1608
  · rw [if_neg (fun x => by rw [n_le (by omega) (by omega)] at x; omega), if_pos ((n_in (by omega)).mpr q), n_nat (by omega), up_na _ _ _ _ (show oc ≠ oc + 1 by omega), h, s_1, if_pos q]
  · rw [if_pos ((n_le (by omega) (by omega)).mpr (by omega)), if_neg q]
theorem yr_add {c : Nat} {ρ : Nat} (hoc : okc oc) (h : YR β E kd oc fr m o y) (hE : E ≤ 1600) (hb : ∀ x, y = .inr x → fr + x.2.2.length < x.1 ∧ x.1 ≤ E) (hρ : ∀ x, y = .inr x → rch (x.2.2 ++ [c]) = rch x.2.2) : ∃ m', FX2_add f oc (tr c) m = some ((), m') ∧ YR β E kd oc fr m' o (yput c y) := by
  obtain ⟨a1, a2, a3, ⟨z, a4, a5⟩, a6⟩ := h
  have h13 : oc ≠ 13 ∧ oc ≠ 14 ∧ oc ≠ 15 ∧ oc + 1 ≠ 13 ∧ oc + 1 ≠ 14 ∧ oc + 1 ≠ 15 := by unfold okc at hoc; omega
  rw [c_add a4 a5]
  by_cases q : z < 1608
  rotate_left
  · rw [if_neg q]
    cases y with
    | inl e => exact ⟨m, rfl, a1, a2, a3, ⟨z, a4, a5⟩, fun x e => by cases e⟩
    | inr x =>
      obtain ⟨b1, b2, b3, b4, b5⟩ := a6 x rfl
      have hbx := hb x rfl
      rw [a5, n_eq (by omega) (by omega)] at b2
      omega
  rw [if_pos q]
  have g : ∀ a k, a ≠ oc → a ≠ oc + 1 → ((ev_up (ev_up m.1 (oc + 1) z (tr c)) oc 1 (Int32.ofNat (z + 1)), m.2) : ev_M).1 a k = m.1 a k := fun a k y1 y2 => by rw [upI_na _ _ _ _ y1, up_na _ _ _ _ y2]
  refine ⟨_, rfl, ?_, by rw [g _ _ (by omega) (by omega)]; exact a2, by rw [g _ _ (by omega) (by omega)]; exact a3, ⟨z + 1, by omega, upI_at _ _ _ _ _⟩, fun x e => ?_⟩
  · cases y with
    | inl e => exact YC_fr a1 (fun a k y => g a k (by omega) (by omega))
    | inr x => exact YC_fr (y := .inr (x.1, x.2.1, x.2.2 ++ [c])) a1 (fun a k y => g a k (by omega) (by omega))
  · cases y with
    | inl e' => cases e
    | inr x0 =>
      have : x = (x0.1, x0.2.1, x0.2.2 ++ [c]) := (Sum.inr.inj e).symm
      subst this
      obtain ⟨b1, b2, b3, b4, b5⟩ := a6 x0 rfl
      have hbx := hb x0 rfl
      have hz : z = fr + x0.2.2.length := by rw [a5, n_eq (by omega) (by omega)] at b2; exact b2
      have hl : (x0.2.2 ++ [c]).length = x0.2.2.length + 1 := by rw [List.length_append]; rfl
      refine ⟨by rw [g _ _ (by omega) (by omega)]; exact b1, ?_, ?_, ?_, ?_⟩
      · show ((ev_up (ev_up m.1 (oc + 1) z (tr c)) oc 1 (Int32.ofNat (z + 1)), m.2) : ev_M).1 oc 1 = Int32.ofNat (fr + (x0.2.2 ++ [c]).length)
        rw [upI_at, hl, hz]; rfl
      · show cells tr _ fr (x0.2.2 ++ [c])
        rw [cells_app]
        rw [upI_na _ _ _ _ (by omega)]
        refine ⟨cells_fr _ _ (fun i i1 i2 => by rw [up_nk _ _ _ (by omega)]) b3, by rw [← hz, up_at]⟩
      · show fr + (x0.2.2 ++ [c]).length ≤ x0.1
        rw [hl]; omega
      · show _ = Int32.ofNat (rch (x0.2.2 ++ [c]))
        rw [g _ _ (by omega) (by omega), hρ x0 rfl]; exact b5
theorem yr_put {c : Nat} (hoc : okc oc) (h : YR β E kd oc fr m o y) (hE : E ≤ 1600) (hb : ∀ x, y = .inr x → fr + x.2.2.length < x.1 ∧ x.1 ≤ E) (hρ : ∀ x, y = .inr x → rch (x.2.2 ++ [c]) = rch x.2.2) : ∃ m', FX9_put f (tr c) m = some ((), m') ∧ YR β E kd oc fr m' o (yput c y) := by
  obtain ⟨m', r1, r2⟩ := @yr_add f E kd oc fr o β m y c 0 hoc h hE hb hρ
  have h1 : oc < 30 := by unfold okc at hoc; omega
  have h2 : 0 < oc := by unfold okc at hoc; omega
  unfold FX9_put
  rw [h.2.1, if_neg (fun q => by rw [n_z (by omega)] at q; omega), n_nat (by omega), if_pos (isK2 hoc), r1, bd_some]
  exact ⟨m', rfl, r2⟩
end
