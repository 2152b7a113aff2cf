/-! the reference reads a TEST -/
section
variable {f E : Nat} {β : Nat → Int32}
/-- opening in a test, then what moves the place on by one thing read -/
theorem t_opened {m m' : ev_M} {x x' : Nat × Bool × List Nat} {W : List Nat} {o c : Nat} (h : QT β E m x W o) (h6 : o < 6) (hc : c = 12 ∨ c = 25) (hr : RT β E m' x'.1 x'.2.1) (h1 : x'.2.2 = x.2.2) (h2 : x.1 < x'.1) (hfr : ∀ a k, ¬ (a = 112 ∧ 2 ≤ k ∧ k ≤ 6) → m'.1 a k = (pmm m o W.length c).1 a k) : QT β E m' x' (c :: W) (o + 1) := by
  have g12 := h.1.2.2.2.2.2.2.2.2.2.2.2.1
  have hop := h.2.2
  have hle : opn (c :: W) ≤ opn W + 1 := by
    show opn W + (if 20 ≤ c then 1 else 0) ≤ _
    split <;> omega
  have z0 : 0 + W.length = W.length := Nat.zero_add _
  refine ⟨qg_pushm h.1 (by omega) hr h1 h2 (by rw [hfr _ _ (by omega)]; exact pmm_96) (by rw [hfr _ _ (by omega), z0]; exact pmm_95) (by rw [hfr _ _ (by omega), z0]; exact pmm_t) (fun i hi => ?_) (fun a k z1 z2 => ?_) (by omega) (by omega), fun d hd => ?_, ?_⟩
  · rw [hfr _ _ (by omega)]; exact pmm_fr (by omega) (by omega)
  · rw [hfr _ _ (by omega)]; exact pmm_fr (by omega) (by omega)
  · rcases List.mem_cons.mp hd with q | q
    · omega
    · exact h.2.1 d q
  · show opT W + (if c = 12 ∨ 20 ≤ c then 1 else 0) ≤ o + 1
    split <;> omega
theorem t_opens {m : ev_M} {x : Nat × Bool × List Nat} {W : List Nat} {o c : Nat} (hc : c < 1000) (h : QT β E m x W o) (hb : x.1 < E) {a2 : Int32} (ha : a2 = Int32.ofNat (sk β E x.1)) : if o < 6 then FX12_qOpens f (Int32.ofNat c) a2 m = some ((), pmm m o W.length c) else ∃ m', FX12_qOpens f (Int32.ofNat c) a2 m = some ((), m') ∧ RB m' (4, sk β E x.1) := by
  obtain ⟨hE, hpE, hbd, ho6⟩ := t_len h
  have op := @q_opens f E 2 0 0 β (fun _ => 0) m x W o c hc h.1 (by omega) a2 ha
  rw [Nat.zero_add] at op
  exact op
theorem t_bad {m : ev_M} {e : Nat × Nat} {n : Nat} {a : Int32} {k : ev_M → Option (Unit × ev_M)} (h : RB m e) (hn : 0 < n) : FX12_qTest_L2 f k n a m = k m := by
  obtain ⟨n, rfl⟩ : ∃ i, n = i + 1 := ⟨n - 1, by omega⟩
  unfold FX12_qTest_L2
  by_cases ha : a = 0
  · rw [if_pos ha]
  · rw [if_neg ha, if_neg (yr_bad h)]
theorem t_0 {m : ev_M} {n : Nat} {k : ev_M → Option (Unit × ev_M)} (hn : 0 < n) : FX12_qTest_L2 f k n 0 m = k m := by
  obtain ⟨n, rfl⟩ : ∃ i, n = i + 1 := ⟨n - 1, by omega⟩
  unfold FX12_qTest_L2
  rw [if_pos rfl]
theorem t_testL (hf : 4000 ≤ f) (k : ev_M → Option (Unit × ev_M)) : ∀ (j n : Nat) (m : ev_M) (x : Nat × Bool × List Nat) (W : List Nat) (o : Nat), E - x.1 < j → j < n → QT β E m x W o → ∃ m' y' W' o', FX12_qTest_L2 f k n 1 m = k m' ∧ Rt β E (0, .inr x, W, o) (3, y', W', o') ∧ QTR β E m' y' W' o' := by
  intro j
  induction j with
  | zero => intro n m x W o h; omega
  | succ j ih =>
    intro n m x W o hj hn h
    obtain ⟨n, rfl⟩ : ∃ i, n = i + 1 := ⟨n - 1, by omega⟩
    obtain ⟨hE, hpE, hbd, ho6⟩ := t_len h
    have hge := sk_ge β E x.1
    have s0 : stq β E (0, .inr x, W, o) = tP β E (.inr x) W o := rfl
    obtain ⟨m1, r1, r2, r3, r4⟩ := r_look hf h.1.1
    have h1 : QT β E m1 x W o := QT_mv h r3 (fun a k q => r4.2 a k (by omega)) rfl (Nat.le_refl _)
    unfold FX12_qTest_L2
    rw [if_neg n10, if_pos h.1.1.2.2.1, r1, bd_some]
    by_cases z : yS β E 91 (.inr x) = true
    · rw [if_pos ((yS_lk sg93.2).mp z)]
      have hk3 : tkK β E x.1 x.2.1 = 3 := yS_k z
      have hk0 : tkK β E x.1 x.2.1 ≠ 0 := by rw [hk3]; decide
      have hB := tkB_lt hk0
      have hxE := tkK_lt hk0
      have op := @t_opens f E β m1 x W o 25 (by omega) h1 (by omega) (m1.1 112 2) r2
      have e0 : stq β E (0, .inr x, W, o) = if o < 6 then (0, yad β E (.inr x), 25 :: W, o + 1) else (3, yfail β E 4 (.inr x), W, o) := by
        rw [s0]; unfold tP; rw [if_pos z]
      by_cases h6 : o < 6
      · rw [if_pos h6] at op e0
        have op' : FX12_qOpens f 25 (m1.1 112 2) m1 = some ((), pmm m1 o W.length 25) := op
        rw [op', bd_some]
        have hpm := rt_sg (pmm_RT (o := o) (t := W.length) (c := 25) h1.1.1) (by rw [pmm_fr (by omega) (by omega)]; exact r2) z
        have hq : QT β E (ev_up (pmm m1 o W.length 25).1 112 2 ((pmm m1 o W.length 25).1 112 2 + 1), (pmm m1 o W.length 25).2) (tkB β E x.1, tkW β E x.1 x.2.1, x.2.2) (25 :: W) (o + 1) := t_opened h1 h6 (Or.inr rfl) hpm rfl hB (fun a k z => (on2_up _ _).2 a k (by omega))
        obtain ⟨m3, y3, W3, o3, t1, t2, t3⟩ := ih n _ _ _ _ (by show E - tkB β E x.1 < j; omega) (by omega) hq
        exact ⟨m3, y3, W3, o3, t1, Rt_st e0 t2, t3⟩
      · rw [if_neg h6] at op e0
        obtain ⟨m3, op1, op2⟩ := op
        have op1' : FX12_qOpens f 25 (m1.1 112 2) m1 = some ((), m3) := op1
        rw [op1', bd_some]
        have hb4 : RB (ev_up m3.1 112 2 (m3.1 112 2 + 1), m3.2) (4, sk β E x.1) := RB_fr op2 (by rw [upI_nk _ _ _ _ (by decide)]) (by rw [upI_nk _ _ _ _ (by decide)])
        rw [t_bad hb4 (by omega)]
        exact ⟨_, .inl (4, sk β E x.1), W, o, rfl, Rt_1 e0, hb4⟩
    rw [if_neg (fun q => z ((yS_lk sg93.2).mpr q))]
    obtain ⟨m2, a1, a2⟩ := @r_hr f E β m1 m1 x 160 hf (by decide) h1.1.1 h1.1.2.1 (on2_refl m1)
    have h2 : QT β E m2 x W o := QT_mv h1 a2.1 (fun a k q => a2.2.2.2.2 a k (by omega)) rfl (Nat.le_refl _)
    rw [a1, bd_some, show wix 160 = 19 from by decide]
    by_cases i19 : yI β E (.inr x) = some 19
    · rw [if_pos i19, if_neg n10]
      have hk1 : tkK β E x.1 x.2.1 = 1 := yI_k i19
      have hk0 : tkK β E x.1 x.2.1 ≠ 0 := by rw [hk1]; decide
      have hB := tkB_lt hk0
      have hxE := tkK_lt hk0
      have op := @t_opens f E β m2 x W o 12 (by omega) h2 (by omega) (m2.1 112 2) a2.2.2.1
      have e0 : stq β E (0, .inr x, W, o) = if o < 6 then (0, yad β E (.inr x), 12 :: W, o + 1) else (3, yfail β E 4 (.inr x), W, o) := by
        rw [s0]; unfold tP; rw [if_neg z, if_pos i19]
      by_cases h6 : o < 6
      · rw [if_pos h6] at op e0
        have op' : FX12_qOpens f 12 (m2.1 112 2) m2 = some ((), pmm m2 o W.length 12) := op
        rw [op', bd_some]
        obtain ⟨m3, u1, u2⟩ := @rt_asksW f E β (pmm m2 o W.length 12) (.inr x) 160 hf (pmm_WA h2.1.2.1) (by decide) (pmm_RT h2.1.1)
        rw [u1, bd_some]
        have ey : ytW β E (wix 160) (.inr x) = yad β E (.inr x) := by
          unfold ytW
          rw [show wix 160 = 19 from by decide, if_pos i19]
        rw [ey] at u2
        have hq : QT β E m3 (tkB β E x.1, tkW β E x.1 x.2.1, x.2.2) (12 :: W) (o + 1) := t_opened h2 h6 (Or.inl rfl) u2 rfl hB (fun a k z => (MDX12_asks u1 a k (by unfold mdX12_asks; omega)).1)
        obtain ⟨m4, y3, W3, o3, t1, t2, t3⟩ := ih n _ _ _ _ (by show E - tkB β E x.1 < j; omega) (by omega) hq
        exact ⟨m4, y3, W3, o3, t1, Rt_st e0 t2, t3⟩
      · rw [if_neg h6] at op e0
        obtain ⟨m3, op1, op2⟩ := op
        have op1' : FX12_qOpens f 12 (m2.1 112 2) m2 = some ((), m3) := op1
        rw [op1', bd_some]
        unfold FX12_asks
        rw [if_neg (yr_bad op2), bd_some, t_bad op2 (by omega)]
        exact ⟨m3, .inl (4, sk β E x.1), W, o, rfl, Rt_1 e0, op2⟩
    rw [if_neg i19, if_pos rfl]
    have e0 : stq β E (0, .inr x, W, o) = if (tFa β E o (.inr x)).isRight = true then (1, tFa β E o (.inr x), W, o) else (3, tFa β E o (.inr x), W, o) := by
      rw [s0]; unfold tP; rw [if_neg z, if_neg i19]
    obtain ⟨f1, f2⟩ := t_fact hf h2
    cases hc : tFa β E o (.inr x) with
    | inl e =>
      rw [hc] at e0
      obtain ⟨m3, g1, g2⟩ := f2 e hc
      have hdn : FX12_qDropsNots f m3 = some ((), m3) := by
        unfold FX12_qDropsNots
        obtain ⟨i, hi⟩ : ∃ i, f = i + 1 := ⟨f - 1, by omega⟩
        rw [hi]
        unfold FX12_qDropsNots_L0
        rw [if_neg (yr_bad g2)]
      rw [g1, bd_some, hdn, bd_some, if_neg (yr_bad g2)]
      unfold FX12_qTest_J105 FX12_qTest_J106
      rw [t_0 (by omega)]
      exact ⟨m3, .inl e, W, o, rfl, Rt_1 e0, g2⟩
    | inr x1 =>
      rw [hc] at e0
      obtain ⟨m3, g1, g2, g3⟩ := f1 x1 hc
      obtain ⟨_, hp1, hb1, _⟩ := t_len g2
      obtain ⟨m4, x2, W2, o2, q1, q2, q3, q4, q5⟩ := @t_notsL f E β (fun m5 => some ((), m5)) W f o m3 x1 (by omega) g2
      have q1' : FX12_qDropsNots f m3 = some ((), m4) := q1
      have h5 : m4.1 112 5 = 0 := q2.1.1.2.2.1
      rw [g1, bd_some, q1', bd_some, if_pos h5]
      obtain ⟨r, m5, v1, v2⟩ := t_goes hf q2
      rw [v1, bd_some]
      rcases v2 with ⟨e, x3, W3, o3, b1, b2, b3⟩ | ⟨e, y3, W3, o3, b1, b2⟩
      · rw [e, if_neg n10]
        unfold FX12_qTest_J106
        obtain ⟨_, hp3, _, _⟩ := t_len b2
        obtain ⟨m6, y4, W4, o4, t1, t2, t3⟩ := ih n m5 x3 W3 o3 (by omega) (by omega) b2
        exact ⟨m6, y4, W4, o4, t1, Rt_st e0 (Rt_tr q3 (Rt_tr b1 t2)), t3⟩
      · rw [e, if_pos rfl]
        unfold FX12_qTest_J105 FX12_qTest_J106
        rw [t_0 (by omega)]
        exact ⟨m5, y3, W3, o3, rfl, Rt_st e0 (Rt_tr q3 b1), b2⟩
theorem t_allL (k : ev_M → Option (Unit × ev_M)) : ∀ (W : List Nat) (n o : Nat) (m : ev_M) (x : Nat × Bool × List Nat), W.length < n → QT β E m x W o → ∃ m', FX12_qTest_L110 f k n m = k m' ∧ QT β E m' (x.1, x.2.1, x.2.2 ++ W) [] o := by
  intro W
  induction W with
  | nil =>
    intro n o m x hn h
    obtain ⟨n, rfl⟩ : ∃ i, n = i + 1 := ⟨n - 1, by omega⟩
    unfold FX12_qTest_L110
    rw [if_pos h.1.1.2.2.1, if_pos (by rw [h.1.2.2.2.2.2.1]; decide)]
    exact ⟨m, rfl, by rw [List.append_nil]; exact h⟩
  | cons c V ih =>
    intro n o m x hn h
    have hl : (c :: V).length = V.length + 1 := rfl
    obtain ⟨n, rfl⟩ : ∃ i, n = i + 1 := ⟨n - 1, by omega⟩
    obtain ⟨t1, t2, t3, t4, t5⟩ := qg_top h.1
    unfold FX12_qTest_L110
    rw [if_pos h.1.1.2.2.1, t5, if_neg (fun q => by
      have q' : Int32.ofNat (0 + V.length + 1) ≤ Int32.ofNat 0 := q
      rw [n_le (by omega) (by omega)] at q'
      omega)]
    obtain ⟨m1, r1, r2⟩ := @t_drops f E β m x V o c h
    rw [r1, bd_some]
    obtain ⟨m2, q1, q2⟩ := ih n o m1 _ (by omega) r2
    refine ⟨m2, q1, ?_⟩
    have q2' : QT β E m2 (x.1, x.2.1, (x.2.2 ++ [c]) ++ V) [] o := q2
    rw [List.append_assoc] at q2'
    exact q2'
theorem t_test {m : ev_M} {x : Nat × Bool × List Nat} {o : Nat} (hf : 4000 ≤ f) (h : QT β E m x [] o) : (∀ x', TQ β E 64 0 o (.inr x) = .inr x' → ∃ m', FX12_qTest f m = some ((), m') ∧ QT β E m' x' [] o) ∧ (∀ e, TQ β E 64 0 o (.inr x) = .inl e → ∃ m', FX12_qTest f m = some ((), m') ∧ RB m' e) := by
  obtain ⟨hE, hpE, hbd, ho6⟩ := t_len h
  obtain ⟨m1, y1, W1, o1, r1, r2, r3⟩ := @t_testL f E β hf (fun m17 => (FX12_qTest_L110 f (fun m20 => some ((), m20)) f m17)) 1601 f m x [] o (by omega) (by omega) h
  obtain ⟨p1, p2⟩ := run_topT (β := β) hE (n := 64) ho6 (by omega) x
  unfold FX12_qTest
  rw [r1]
  refine ⟨fun x' e => ?_, fun e he => ?_⟩
  · obtain ⟨pend, C1, q1, q2⟩ := p1 x' e
    have := Rt_det r2 q1 (Nat.le_refl 3) (Nat.le_refl 3)
    have ey : y1 = .inr (x'.1, x'.2.1, C1) := congrArg (fun s => s.2.1) this
    have eW : W1 = pend := congrArg (fun s => s.2.2.1) this
    have eo : o1 = o := congrArg (fun s => s.2.2.2) this
    subst ey; subst eW; subst eo
    have r3' : QT β E m1 (x'.1, x'.2.1, C1) W1 o1 := r3
    obtain ⟨_, hp1, hb1, _⟩ := t_len r3'
    have hp1' : x'.1 ≤ E := hp1
    have hb1' : C1.length + W1.length ≤ x'.1 := hb1
    obtain ⟨m2, s1, s2⟩ := @t_allL f E β (fun m20 => some ((), m20)) W1 f o1 m1 _ (by omega) r3'
    rw [s1]
    refine ⟨m2, rfl, ?_⟩
    have s2' : QT β E m2 (x'.1, x'.2.1, C1 ++ W1) [] o1 := s2
    rw [q2] at s2'
    exact s2'
  · obtain ⟨W', o', q1⟩ := p2 e he
    have := Rt_det r2 q1 (Nat.le_refl 3) (Nat.le_refl 3)
    have ey : y1 = .inl e := congrArg (fun s => s.2.1) this
    subst ey
    have r3' : RB m1 e := r3
    have L : ∀ n, 0 < n → FX12_qTest_L110 f (fun m20 => some ((), m20)) n m1 = some ((), m1) := by
      intro n hn
      obtain ⟨n, rfl⟩ : ∃ i, n = i + 1 := ⟨n - 1, by omega⟩
      unfold FX12_qTest_L110
      rw [if_neg (yr_bad r3')]
    rw [L f (by omega)]
    exact ⟨m1, rfl, r3'⟩
end
