/-! what stood in the code already plays no part -/
def pre (C : List Nat) (y : Yr) : Yr := match y with
  | .inl e => .inl e
  | .inr x => .inr (x.1, x.2.1, C ++ x.2.2)
section
variable {β : Nat → Int32} {E kd : Nat} {C : List Nat}
theorem pre_K (y : Yr) : yK β E (pre C y) = yK β E y := by cases y <;> rfl
theorem pre_S (c : Int32) (y : Yr) : yS β E c (pre C y) = yS β E c y := by cases y <;> rfl
theorem pre_I (y : Yr) : yI β E (pre C y) = yI β E y := by cases y <;> rfl
theorem pre_v (y : Yr) : yval β E (pre C y) = yval β E y := by cases y <;> rfl
theorem pre_ad (y : Yr) : yad β E (pre C y) = pre C (yad β E y) := by cases y <;> rfl
theorem pre_fail (k : Nat) (y : Yr) : yfail β E k (pre C y) = pre C (yfail β E k y) := by cases y <;> rfl
theorem pre_put (c : Nat) (y : Yr) : yput c (pre C y) = pre C (yput c y) := by
  cases y with
  | inl e => rfl
  | inr x =>
    show (Sum.inr (x.1, x.2.1, (C ++ x.2.2) ++ [c]) : Yr) = Sum.inr (x.1, x.2.1, C ++ (x.2.2 ++ [c]))
    rw [List.append_assoc]
theorem pre_tS (c : Int32) (y : Yr) : ytS β E c (pre C y) = pre C (ytS β E c y) := by
  unfold ytS
  rw [pre_S, pre_ad, pre_fail]
  split <;> rfl
theorem pre_tN (lo hi : Nat) (y : Yr) : ytN β E lo hi (pre C y) = pre C (ytN β E lo hi y) := by
  cases y with
  | inl e => rfl
  | inr x =>
    show (if tkK β E x.1 x.2.1 = 2 then (if tkN β E x.1 ≤ 4 then (if (tkV β E x.1).toNatClampNeg < lo ∨ hi < (tkV β E x.1).toNatClampNeg then .inl (2, sk β E x.1) else yad β E (pre C (.inr x))) else .inl (1, sk β E x.1 + 4)) else .inl (1, sk β E x.1)) = pre C (if tkK β E x.1 x.2.1 = 2 then (if tkN β E x.1 ≤ 4 then (if (tkV β E x.1).toNatClampNeg < lo ∨ hi < (tkV β E x.1).toNatClampNeg then .inl (2, sk β E x.1) else yad β E (.inr x)) else .inl (1, sk β E x.1 + 4)) else .inl (1, sk β E x.1))
    rw [pre_ad]
    split
    · split
      · split <;> rfl
      · rfl
    · rfl
theorem pre_Lp {a b : Int32} {ca cb : Nat} {r : Yr → Yr} (hr : ∀ y, r (pre C y) = pre C (r y)) : ∀ j y, yLp β E a b ca cb r j (pre C y) = pre C (yLp β E a b ca cb r j y) := by
  intro j
  induction j with
  | zero => intro y; rfl
  | succ j ih =>
    intro y
    unfold yLp
    rw [pre_S, pre_S, pre_ad, hr, pre_put, ih]
    split <;> rfl
theorem pre_PA : ∀ n idx sg o y, PA β E kd n idx sg o (pre C y) = pre C (PA β E kd n idx sg o y) := by
  intro n
  induction n with
  | zero => intro idx sg o y; unfold PA; rfl
  | succ n ih =>
    intro idx sg o y
    have sa : ySaB β E (PA β E kd n) o (pre C y) = pre C (ySaB β E (PA β E kd n) o y) := by
      unfold ySaB
      rw [pre_ad, ih, pre_put, pre_fail]
      split <;> rfl
    match idx with
    | 0 =>
      show yLp β E 43 45 1 2 (PA β E kd n 1 0 o) 1600 (PA β E kd n 1 0 o (pre C y)) = pre C (yLp β E 43 45 1 2 (PA β E kd n 1 0 o) 1600 (PA β E kd n 1 0 o y))
      rw [ih, pre_Lp (fun y => ih 1 0 o y)]
    | 1 =>
      show yLp β E 42 47 3 4 (PA β E kd n 2 0 o) 1600 (PA β E kd n 2 0 o (pre C y)) = pre C (yLp β E 42 47 3 4 (PA β E kd n 2 0 o) 1600 (PA β E kd n 2 0 o y))
      rw [ih, pre_Lp (fun y => ih 2 0 o y)]
    | 2 =>
      show yPartB β E kd (PA β E kd n) o (pre C y) = pre C (yPartB β E kd (PA β E kd n) o y)
      unfold yPartB
      rw [pre_K, pre_v, pre_tN, pre_put, pre_S, pre_I, ih, ih, ih, ih, pre_fail]
      split
      · rfl
      · split
        · rfl
        · split
          · rfl
          · split
            · rfl
            · split
              · rfl
              · cases vq kd (yI β E y) with
                | none => rfl
                | some q =>
                  show yad β E (yput (40 + q) (pre C y)) = pre C (yad β E (yput (40 + q) y))
                  rw [pre_put, pre_ad]
    | 3 =>
      show yOpB β E (PA β E kd n) o (pre C y) = pre C (yOpB β E (PA β E kd n) o y)
      unfold yOpB
      rw [pre_ad, ih, pre_tS, pre_fail]
      split <;> rfl
    | 4 =>
      show yPrB β E (PA β E kd n) sg o (pre C y) = pre C (yPrB β E (PA β E kd n) sg o y)
      unfold yPrB
      rw [pre_ad, pre_ad, pre_S, ih, pre_tS, ih, pre_tS, pre_put, pre_fail, pre_fail]
      split
      · split <;> rfl
      · rfl
    | idx + 5 => exact sa
end
theorem cells_sp {en : Nat → Int32} {g : Nat → Int32} : ∀ (A B : List Nat) (k : Nat), cells en g k (A ++ B) ↔ cells en g k A ∧ cells en g (k + A.length) B := by
  intro A
  induction A with
  | nil => intro B k; exact ⟨fun h => ⟨trivial, h⟩, fun h => h.2⟩
  | cons a A ih =>
    intro B k
    show (g k = en a ∧ cells en g (k + 1) (A ++ B)) ↔ (g k = en a ∧ cells en g (k + 1) A) ∧ cells en g (k + (A.length + 1)) B
    rw [ih, and_assoc, show k + 1 + A.length = k + (A.length + 1) by omega]
theorem cells_eq {en : Nat → Int32} {g g' : Nat → Int32} : ∀ (A : List Nat) (k : Nat), cells en g k A → cells en g' k A → ∀ i, k ≤ i → i < k + A.length → g i = g' i := by
  intro A
  induction A with
  | nil => intro k _ _ i h1 h2; simp at h2; omega
  | cons a A ih =>
    intro k h h' i h1 h2
    simp only [List.length_cons] at h2
    by_cases e : i = k
    · rw [e, h.1, h'.1]
    · exact ih (k + 1) h.2 h'.2 i (by omega) (by omega)
theorem tr_any (x : Int32) : ∃ c, 1000 ≤ c ∧ tr c = x := by
  refine ⟨1000 + x.toBitVec.toNat, by omega, ?_⟩
  rw [tr_num (by omega), show 1000 + x.toBitVec.toNat - 1000 = x.toBitVec.toNat by omega]
  apply Int32.toBitVec_inj.mp
  show BitVec.ofNat 32 x.toBitVec.toNat = x.toBitVec
  simp
theorem cells_ex (g : Nat → Int32) : ∀ z, ∃ C : List Nat, C.length = z ∧ cells tr g 0 C ∧ rch C = 0 := by
  intro z
  induction z with
  | zero => exact ⟨[], rfl, trivial, rfl⟩
  | succ z ih =>
    obtain ⟨C, h1, h2, h3⟩ := ih
    obtain ⟨c, c1, c2⟩ := tr_any (g z)
    refine ⟨C ++ [c], by simp [h1], (cells_app C 0 c).mpr ⟨h2, ?_⟩, by rw [rch_app (by omega) (by omega) (by omega)]; exact h3⟩
    rw [Nat.zero_add, h1, c2]
/-! SUMS of a castle, in the class -/
def dC (o k z : Nat) (m : ev_M) (kd : Nat → Bool) (d : Option (List Nat)) : Prop := match d with
  | none => m.1 o k = 0 ∧ m.1 o (k + 1) = 0
  | some l => ∃ fr, fr + l.length ≤ z ∧ m.1 o k = Int32.ofNat fr ∧ m.1 o (k + 1) = Int32.ofNat (fr + l.length) ∧ cells tr (m.1 (o + 5)) fr l ∧ good kd false l
def CQD (o p : Nat) (m : ev_M) (D : Option (List Nat) × Option (List Nat)) : Prop := ∃ z, z ≤ p ∧ p ≤ 1600 ∧ m.1 (o + 4) 1 = Int32.ofNat z ∧ dC o 11 z m kS D.1 ∧ dC o 13 z m kF D.2
theorem dC_fr {o k z z' : Nat} {m m' : ev_M} {kd : Nat → Bool} {d : Option (List Nat)} (h : dC o k z m kd d) (hz : z ≤ z') (h1 : m'.1 o k = m.1 o k) (h2 : m'.1 o (k + 1) = m.1 o (k + 1)) (h3 : ∀ i, i < z → m'.1 (o + 5) i = m.1 (o + 5) i) : dC o k z' m' kd d := by
  cases d with
  | none => exact ⟨h1.trans h.1, h2.trans h.2⟩
  | some l =>
    obtain ⟨fr, a1, a2, a3, a4, a5⟩ := h
    exact ⟨fr, by omega, h1.trans a2, h2.trans a3, cells_fr _ _ (fun i _ hi => h3 i (by omega)) a4, a5⟩
theorem CQD_fr {o p p' : Nat} {m m' : ev_M} {D : Option (List Nat) × Option (List Nat)} (h : CQD o p m D) (hp : p ≤ p') (hp2 : p' ≤ 1600) (h1 : ∀ k, 11 ≤ k → k ≤ 14 → m'.1 o k = m.1 o k) (h4 : m'.1 (o + 4) 1 = m.1 (o + 4) 1) (h5 : ∀ k, m'.1 (o + 5) k = m.1 (o + 5) k) : CQD o p' m' D := by
  obtain ⟨z, a1, a1', a2, a3, a4⟩ := h
  exact ⟨z, by omega, hp2, h4.trans a2, dC_fr a3 (Nat.le_refl _) (h1 _ (by omega) (by omega)) (h1 _ (by omega) (by omega)) (fun i _ => h5 i), dC_fr a4 (Nat.le_refl _) (h1 _ (by omega) (by omega)) (h1 _ (by omega) (by omega)) (fun i _ => h5 i)⟩
theorem good_len {kd : Nat → Bool} {b : Bool} {l : List Nat} (h : good kd b l) : 1 ≤ l.length := by
  cases l with
  | nil => exact absurd h.2.1 (by decide)
  | cons a l => simp
/-- a sum as it should be read -/
def yCo (β : Nat → Int32) (E kd : Nat) (x : Nat × Bool × List Nat) : Yr := PA β E kd 64 0 0 0 (.inr (x.1, x.2.1, []))
section
variable {f E : Nat} {β : Nat → Int32}
theorem yCo_pre {kd : Nat} {x : Nat × Bool × List Nat} {C : List Nat} : PA β E kd 64 0 0 0 (.inr (x.1, x.2.1, C)) = pre C (yCo β E kd x) := by
  have := pre_PA (β := β) (E := E) (kd := kd) (C := C) 64 0 0 0 (.inr (x.1, x.2.1, []))
  have e : pre C (.inr (x.1, x.2.1, [])) = .inr (x.1, x.2.1, C) := by
    show (Sum.inr (x.1, x.2.1, C ++ []) : Yr) = _
    rw [List.append_nil]
  rw [e] at this
  exact this
theorem yCo_good {kd : Nat} {k : Nat → Bool} {x x' : Nat × Bool × List Nat} (hk : ∀ q, q < 10 → okq kd q = true → k q = true) (h2 : kd ≠ 2) (h : yCo β E kd x = .inr x') : good k false x'.2.2 := sum_good (x := (x.1, x.2.1, [])) hk (fun q => absurd q h2) rfl h
theorem yCo_place {kd : Nat} {x x' : Nat × Bool × List Nat} (h : yCo β E kd x = .inr x') : x'.2.2.length + x.1 ≤ x'.1 := by
  have := PA_slk (β := β) (E := E) (kd := kd) 64 0 0 0 (.inr (x.1, x.2.1, [])) (by omega) x' h
  obtain ⟨x0, e, e1, e2⟩ := this
  have e3 := Sum.inr.inj e
  subst e3
  have e2' : x'.2.2.length + x.1 + 0 ≤ 0 + x'.1 := e2
  omega
/-- the class reads a sum behind the code that stands already -/
theorem c_codes {o z kd : Nat} {m : ev_M} {x : Nat × Bool × List Nat} (hf : 4000 ≤ f) (ho : o = 1 ∨ o = 7) (hk : kd < 2) (h : YC β E m (.inr x)) (hz : z ≤ x.1) (h4 : m.1 (o + 4) 1 = Int32.ofNat z) : ∃ m', ev_bd (FX9_begin f (o + 4) (Int32.ofNat kd) m) (fun _ m2 => FX9_readSum f m2) = some ((), m') ∧ YC β E m' (yCo β E kd x) ∧ (∀ a k, a ≠ 13 → a ≠ 15 → ¬ (a = o + 4 ∧ k = 1) → a ≠ o + 5 → m'.1 a k = m.1 a k) ∧ (∃ z', z' ≤ 1608 ∧ m'.1 (o + 4) 1 = Int32.ofNat z') ∧ (∀ x', yCo β E kd x = .inr x' → m'.1 (o + 4) 1 = Int32.ofNat (z + x'.2.2.length) ∧ cells tr (m'.1 (o + 5)) z x'.2.2 ∧ ∀ i, i < z → m'.1 (o + 5) i = m.1 (o + 5) i) := by
  have hc : CT β E m x.1 x.2.1 := h
  have hE := hc.1.1
  have hx := hc.2.1
  have hoc : okc (o + 4) := by unfold okc; omega
  obtain ⟨C, C1, C2, C3⟩ := cells_ex (m.1 (o + 5)) z
  unfold FX9_begin
  rw [bd_some]
  have g : ∀ a k, a ≠ 15 → ((ev_up (ev_up (ev_up (ev_up m.1 15 1 (Int32.ofNat (o + 4))) 15 2 (Int32.ofNat kd)) 15 3 0) 15 4 0, m.2) : ev_M).1 a k = m.1 a k := fun a k q => by rw [upI_na _ _ _ _ q, up_na _ _ _ _ q, up_na _ _ _ _ q, up_na _ _ _ _ q]
  have g1 : ((ev_up (ev_up (ev_up (ev_up m.1 15 1 (Int32.ofNat (o + 4))) 15 2 (Int32.ofNat kd)) 15 3 0) 15 4 0, m.2) : ev_M).1 15 1 = Int32.ofNat (o + 4) := by rw [upI_nk _ _ _ _ (by decide), up_nk _ _ _ (by decide), up_nk _ _ _ (by decide), up_at]
  have g2 : ((ev_up (ev_up (ev_up (ev_up m.1 15 1 (Int32.ofNat (o + 4))) 15 2 (Int32.ofNat kd)) 15 3 0) 15 4 0, m.2) : ev_M).1 15 2 = Int32.ofNat kd := by rw [upI_nk _ _ _ _ (by decide), up_nk _ _ _ (by decide), up_at]
  have g3 : ((ev_up (ev_up (ev_up (ev_up m.1 15 1 (Int32.ofNat (o + 4))) 15 2 (Int32.ofNat kd)) 15 3 0) 15 4 0, m.2) : ev_M).1 15 3 = 0 := by rw [upI_nk _ _ _ _ (by decide), up_at]
  have g4 : ((ev_up (ev_up (ev_up (ev_up m.1 15 1 (Int32.ofNat (o + 4))) 15 2 (Int32.ofNat kd)) 15 3 0) 15 4 0, m.2) : ev_M).1 15 4 = 0 := upI_at _ _ _ _ _
  generalize hM : ((ev_up (ev_up (ev_up (ev_up m.1 15 1 (Int32.ofNat (o + 4))) 15 2 (Int32.ofNat kd)) 15 3 0) 15 4 0, m.2) : ev_M) = M at g g1 g2 g3 g4
  have hY : YR β E kd (o + 4) 0 M 0 (.inr (x.1, x.2.1, C)) := by
    refine ⟨CT_fr hc (fun a k q => g a k (by omega)), g1, g2, ⟨z, by omega, by rw [g _ _ (by omega)]; exact h4⟩, fun x' e => ?_⟩
    have : x' = (x.1, x.2.1, C) := (Sum.inr.inj e).symm
    subst this
    refine ⟨g3, by rw [g _ _ (by omega), h4]; show Int32.ofNat z = Int32.ofNat (0 + C.length); rw [C1, Nat.zero_add], cells_fr _ _ (fun i _ _ => g _ _ (by omega)) C2, by show 0 + C.length ≤ x.1; omega, by rw [g4]; show (0 : Int32) = Int32.ofNat (rch C); rw [C3]; rfl⟩
  obtain ⟨m', r1, r2⟩ := FGA_PA hf hoc hE (by omega) 64 0 0 0 0 M _ (by omega) (by omega) (by omega) (by omega) hY
  have r1' : FX9_readSum f M = some ((), m') := r1
  have fr : frP (fun a k => a ≠ 13 ∧ a ≠ 15 ∧ ¬ (a = o + 4 ∧ k = 1) ∧ a ≠ o + 5) M m' := FTX9_readSum (P := fun a k => a ≠ 13 ∧ a ≠ 15 ∧ ¬ (a = o + 4 ∧ k = 1) ∧ a ≠ o + 5) (m0 := M) f (o + 4) g1 hoc (by omega) (by omega) (by omega) (by omega) (by omega) (by omega) (by omega) (by omega) (by omega) (by omega) (frP_refl _ _) _ _ r1'
  rw [yCo_pre] at r2
  refine ⟨m', r1', ?_, fun a k z1 z2 z3 z4 => ((fr a k ⟨z1, z2, z3, z4⟩).1).trans (g a k z2), r2.2.2.2.1, fun x' e => ?_⟩
  · have y1 := r2.1
    cases hy : yCo β E kd x with
    | inl e => rw [hy] at y1; exact y1
    | inr x' => rw [hy] at y1; exact y1
  · rw [e] at r2
    obtain ⟨b1, b2, b3, b4, b5⟩ := r2.2.2.2.2 (x'.1, x'.2.1, C ++ x'.2.2) rfl
    have b2' : m'.1 (o + 4) 1 = Int32.ofNat (0 + (C ++ x'.2.2).length) := b2
    have b3' : cells tr (m'.1 (o + 5)) 0 (C ++ x'.2.2) := b3
    rw [List.length_append, C1, Nat.zero_add] at b2'
    obtain ⟨c1, c2⟩ := (cells_sp C x'.2.2 0).mp b3'
    rw [Nat.zero_add, C1] at c2
    exact ⟨b2', c2, fun i hi => cells_eq C 0 c1 C2 i (by omega) (by omega)⟩
end
