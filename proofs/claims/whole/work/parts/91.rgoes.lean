/-! the reference goes on behind a part -/
def OutG (β : Nat → Int32) (E kd b fr : Nat) (G : Nat → Int32) (r : Int32) (m' : ev_M) (s : Sy) (p : Nat) : Prop :=
  (r = 1 ∧ ∃ x' W' o', Rn β E kd s (0, .inr x', W', o') ∧ QG β E kd b fr G m' x' W' o' ∧ p < x'.1) ∨ (r = 0 ∧ ∃ y' W' o', Rn β E kd s (3, y', W', o') ∧ QR β E kd b fr G m' (3, y', W', o'))
section
variable {f E kd b fr : Nat} {β : Nat → Int32} {G : Nat → Int32}
theorem OutG_pre {m' : ev_M} {s s' : Sy} {p p' : Nat} {r : Int32} (h : Rn β E kd s s') (hp : p ≤ p') (q : OutG β E kd b fr G r m' s' p') : OutG β E kd b fr G r m' s p := by
  rcases q with ⟨e, x', W', o', a1, a2, a3⟩ | ⟨e, y', W', o', a1, a2⟩
  · exact Or.inl ⟨e, x', W', o', Rn_tr h a1, a2, by omega⟩
  · exact Or.inr ⟨e, y', W', o', Rn_tr h a1, a2⟩
theorem rt_takesP {m : ev_M} {x : Nat × Bool × List Nat} {c : Int32} (hf : 4000 ≤ f) (hc : sgn c) (h : RT β E m x.1 x.2.1) (hs : yS β E c (.inr x) = true) : ∃ m', FX12_takesSign f c m = some (1, m') ∧ YT β E m' (yad β E (.inr x)) ∧ on2 m m' ∧ m'.1 112 2 = Int32.ofNat (sk β E x.1 + 1) ∧ β (sk β E x.1) = c ∧ sk β E x.1 < E := by
  unfold FX12_takesSign
  obtain ⟨m1, r1, r2, r3, r4⟩ := r_look hf h
  have hl := (yS_lk hc).mp hs
  have hk : tkK β E x.1 x.2.1 = 3 := yS_k hs
  have hlt := (tkK_3 hk).1
  rw [if_pos h.2.2.1, r1, bd_some, if_pos hl]
  refine ⟨_, rfl, rt_sg r3 r2 hs, on2_tr r4 (on2_up m1 _), by rw [upI_at, r2, s_1], ?_, hlt⟩
  unfold lk at hl
  rw [if_pos hlt] at hl
  exact hl
theorem rt_takesN {m : ev_M} {x : Nat × Bool × List Nat} {c : Int32} (hf : 4000 ≤ f) (hc : sgn c) (h : RT β E m x.1 x.2.1) (hs : ¬ yS β E c (.inr x) = true) : ∃ m', FX12_takesSign f c m = some (0, m') ∧ RT β E m' x.1 x.2.1 ∧ on2 m m' ∧ m'.1 112 2 = Int32.ofNat (sk β E x.1) := by
  obtain ⟨m', r1, r2, r3, r4⟩ := @rt_takesS f E β m (.inr x) c hf hc h
  rw [if_neg hs] at r1 r2
  exact ⟨m', r1, r2, r4, r3 (by simpa using hs) x rfl⟩
theorem q_pushOp {m : ev_M} {x : Nat × Bool × List Nat} {W : List Nat} {o c : Nat} {s : Sy} {p : Nat} (h : QG β E kd b fr G m x W o) (hc : c < 20) (hb : fr + x.2.2.length + (b + W.length) < x.1) (hs : Rn β E kd s (0, .inr x, c :: W, o)) (hp : p < x.1) : ∃ r m', (if ev_in (m.1 112 95) 1700 then some ((1 : Int32), (((ev_up (ev_up m.1 178 (m.1 112 95).toNatClampNeg (Int32.ofNat c)) 112 95 ((m.1 112 95) + 1)), m.2) : ev_M)) else none) = some (r, m') ∧ OutG β E kd b fr G r m' s p := by
  have hE := h.1.1.1
  have hpE := h.1.2.1
  have g12 := h.2.2.2.2.2.2.2.2.2.2.2.1
  rw [h.2.2.2.2.2.1, if_pos ((n_in (by omega)).mpr (by omega)), n_nat (by omega), s_1]
  refine ⟨1, _, rfl, Or.inl ⟨rfl, x, c :: W, o, hs, qg_push h (by omega) hb ?_, hp⟩⟩
  show opn W + (if 20 ≤ c then 1 else 0) ≤ o
  rw [if_neg (by omega)]; omega
theorem q_mul {m m1 : ev_M} {x : Nat × Bool × List Nat} {W : List Nat} {o : Nat} (hf : 4000 ≤ f) (hG : 0 < b → ∃ c, c < 1000 ∧ isA c = false ∧ G (b - 1) = Int32.ofNat c) (h : QG β E kd b fr G m x W o) (hy : YT β E m1 (yad β E (.inr x))) (h2 : on2 m m1) (ha : m1.1 112 2 = Int32.ofNat (sk β E x.1 + 1)) (hlt : sk β E x.1 < E) (hs : yS β E 42 (.inr x) = true ∧ β (sk β E x.1) = 42 ∨ (¬ yS β E 42 (.inr x) = true ∧ yS β E 47 (.inr x) = true ∧ β (sk β E x.1) = 47)) : ∃ r m', FX12_qGoesOn_J140 f m1 = some (r, m') ∧ OutG β E kd b fr G r m' (2, .inr x, W, o) x.1 := by
  have hE := h.1.1.1
  have hpE := h.1.2.1
  have hbd := h.2.2.2.2.2.2.2.2.2.1
  have hge := sk_ge β E x.1
  have st : stp β E kd (2, .inr x, W, o) = (0, yapp (W.takeWhile isM) (yad β E (.inr x)), (if yS β E 42 (.inr x) = true then 3 else 4) :: W.dropWhile isM, o) := st_M (by rcases hs with q | q; exact Or.inl q.1; exact Or.inr q.2.1)
  have hk0 : tkK β E x.1 x.2.1 ≠ 0 := by
    have : tkK β E x.1 x.2.1 = 3 := by
      rcases hs with q | q
      · exact yS_k q.1
      · exact yS_k q.2.1
    rw [this]; decide
  have hB := tkB_lt hk0
  have h1 : QG β E kd b fr G m1 (tkB β E x.1, tkW β E x.1 x.2.1, x.2.2) W o := qg_mv h hy (fun a k z => h2.2 a k (by omega)) rfl (by show x.1 ≤ tkB β E x.1; omega)
  have go : ∀ c : Nat, c < 20 → c = (if yS β E 42 (.inr x) = true then 3 else 4) → ∃ r m', FX12_qGoesOn_J161 f (Int32.ofNat c) m1 = some (r, m') ∧ OutG β E kd b fr G r m' (2, .inr x, W, o) x.1 := by
    intro c hc he
    rw [← he] at st
    unfold FX12_qGoesOn_J161
    obtain ⟨m2, q1, q2⟩ := @q_dropsM f E kd b fr β G hG (fun m24 => (if ev_in (m24.1 112 95) 1700 then some (1, ((ev_up (ev_up m24.1 178 (m24.1 112 95).toNatClampNeg (Int32.ofNat c)) 112 95 ((m24.1 112 95) + 1)), m24.2)) else none)) W f o m1 _ (by omega) h1
    rw [q1]
    have hl : (W.takeWhile isM).length + (W.dropWhile isM).length = W.length := by rw [← List.length_append, List.takeWhile_append_dropWhile]
    refine q_pushOp q2 hc ?_ (Rn_1 st) hB
    show fr + (x.2.2 ++ W.takeWhile isM).length + (b + (W.dropWhile isM).length) < tkB β E x.1
    rw [List.length_append]
    omega
  unfold FX12_qGoesOn_J140
  have e1 : m1.1 112 2 - 1 = Int32.ofNat (sk β E x.1) := by rw [ha, show (1 : Int32) = Int32.ofNat 1 from rfl, n_sub (by omega)]; rfl
  have e2 : m1.1 113 (Int32.ofNat (sk β E x.1)).toNatClampNeg = β (sk β E x.1) := by rw [n_nat (by omega), h1.1.1.2.2 _ (by omega)]
  rw [e1, if_pos ((n_in (by omega)).mpr (by omega))]
  rcases hs with ⟨q1, q2⟩ | ⟨q1, q2, q3⟩
  · rw [if_pos (e2.trans q2)]
    exact go 3 (by omega) (by rw [if_pos q1])
  · rw [if_neg (fun q => by rw [e2, q3] at q; exact absurd q (by decide))]
    exact go 4 (by omega) (by rw [if_neg q1])
theorem q_sum {m m1 : ev_M} {x : Nat × Bool × List Nat} {W : List Nat} {o : Nat} (hf : 4000 ≤ f) (hG : 0 < b → ∃ c, c < 1000 ∧ isA c = false ∧ G (b - 1) = Int32.ofNat c) (h : QG β E kd b fr G m x W o) (hy : YT β E m1 (yad β E (.inr x))) (h2 : on2 m m1) (ha : m1.1 112 2 = Int32.ofNat (sk β E x.1 + 1)) (hlt : sk β E x.1 < E) (hs : yS β E 43 (.inr x) = true ∧ β (sk β E x.1) = 43 ∨ (¬ yS β E 43 (.inr x) = true ∧ yS β E 45 (.inr x) = true ∧ β (sk β E x.1) = 45)) : ∃ r m', FX12_qGoesOn_J225 f m1 = some (r, m') ∧ OutG β E kd b fr G r m' (2, .inr x, W, o) x.1 := by
  have hE := h.1.1.1
  have hpE := h.1.2.1
  have hbd := h.2.2.2.2.2.2.2.2.2.1
  have hge := sk_ge β E x.1
  have st : stp β E kd (2, .inr x, W, o) = (0, yapp (W.takeWhile isA) (yad β E (.inr x)), (if yS β E 43 (.inr x) = true then 1 else 2) :: W.dropWhile isA, o) := st_A (by rcases hs with q | q; exact Or.inl q.1; exact Or.inr q.2.1)
  have hk0 : tkK β E x.1 x.2.1 ≠ 0 := by
    have : tkK β E x.1 x.2.1 = 3 := by
      rcases hs with q | q
      · exact yS_k q.1
      · exact yS_k q.2.1
    rw [this]; decide
  have hB := tkB_lt hk0
  have h1 : QG β E kd b fr G m1 (tkB β E x.1, tkW β E x.1 x.2.1, x.2.2) W o := qg_mv h hy (fun a k z => h2.2 a k (by omega)) rfl (by show x.1 ≤ tkB β E x.1; omega)
  have go : ∀ c : Nat, c < 20 → c = (if yS β E 43 (.inr x) = true then 1 else 2) → ∃ r m', FX12_qGoesOn_J246 f (Int32.ofNat c) m1 = some (r, m') ∧ OutG β E kd b fr G r m' (2, .inr x, W, o) x.1 := by
    intro c hc he
    rw [← he] at st
    unfold FX12_qGoesOn_J246
    obtain ⟨m2, q1, q2⟩ := @q_dropsA f E kd b fr β G hG (fun m39 => (if ev_in (m39.1 112 95) 1700 then some (1, ((ev_up (ev_up m39.1 178 (m39.1 112 95).toNatClampNeg (Int32.ofNat c)) 112 95 ((m39.1 112 95) + 1)), m39.2)) else none)) W f o m1 _ (by omega) h1
    rw [q1]
    have hl : (W.takeWhile isA).length + (W.dropWhile isA).length = W.length := by rw [← List.length_append, List.takeWhile_append_dropWhile]
    refine q_pushOp q2 hc ?_ (Rn_1 st) hB
    show fr + (x.2.2 ++ W.takeWhile isA).length + (b + (W.dropWhile isA).length) < tkB β E x.1
    rw [List.length_append]
    omega
  unfold FX12_qGoesOn_J225
  have e1 : m1.1 112 2 - 1 = Int32.ofNat (sk β E x.1) := by rw [ha, show (1 : Int32) = Int32.ofNat 1 from rfl, n_sub (by omega)]; rfl
  have e2 : m1.1 113 (Int32.ofNat (sk β E x.1)).toNatClampNeg = β (sk β E x.1) := by rw [n_nat (by omega), h1.1.1.2.2 _ (by omega)]
  rw [e1, if_pos ((n_in (by omega)).mpr (by omega))]
  rcases hs with ⟨q1, q2⟩ | ⟨q1, q2, q3⟩
  · rw [if_pos (e2.trans q2)]
    exact go 1 (by omega) (by rw [if_pos q1])
  · rw [if_neg (fun q => by rw [e2, q3] at q; exact absurd q (by decide))]
    exact go 2 (by omega) (by rw [if_neg q1])
theorem bkt_dw {W : List Nat} (h : bkt W ≠ 0) : ∃ V, W.dropWhile nb = bkt W :: V := by
  unfold bkt at h ⊢
  cases hd : W.dropWhile nb with
  | nil => rw [hd] at h; exact absurd rfl h
  | cons c V => exact ⟨V, rfl⟩
theorem bkt_is {W : List Nat} (c : Int32) (k : Nat) (hc : c = Int32.ofNat k) (hk : k < 1000) (hk0 : 0 < k) : (if bkt W = 0 then -1 else Int32.ofNat (bkt W)) = c ↔ bkt W = k := by
  have bc := bkt_cases W
  rw [hc]
  by_cases q : bkt W = 0
  · rw [if_pos q]
    exact ⟨fun e => absurd e.symm (n_m1 hk), fun e => by omega⟩
  · rw [if_neg q, n_eq (by omega) (by omega)]
theorem qg_top2 {m : ev_M} {x : Nat × Bool × List Nat} {W : List Nat} {o c c' : Nat} (h : QG β E kd b fr G m x (c :: W) o) (h1 : c' < 1000) (h2 : 20 ≤ c) : QG β E kd b fr G (ev_up m.1 178 (b + W.length) (Int32.ofNat c'), m.2) x (c' :: W) o := by
  obtain ⟨g1, g2, g3, g4, g5, g6, g7, g8, g9, g10, g11, g12, g13⟩ := h
  have g : ∀ a k, ¬ (a = 178 ∧ k = b + W.length) → ((ev_up m.1 178 (b + W.length) (Int32.ofNat c'), m.2) : ev_M).1 a k = m.1 a k := fun a k y2 => by
    by_cases e : a = 178
    · subst e; rw [upI_nk _ _ _ _ (by omega)]
    · rw [upI_na _ _ _ _ e]
  refine ⟨RT_fr g1 (fun a k q => g a k (by omega)), WA_fr g2 (fun a k q => by have := wo_ne q; exact g a k (by omega)), by rw [g _ _ (by omega)]; exact g3, by rw [g _ _ (by omega)]; exact g4, by rw [g _ _ (by omega)]; exact g5, by rw [g _ _ (by omega)]; exact g6, ⟨h1, upI_at _ _ _ _ _, stk_fr W (fun i hi => g _ _ (by omega)) g7.2.2⟩, by rw [g _ _ (by omega)]; exact g8, cells_fr _ _ (fun i _ _ => g _ _ (by omega)) g9, g10, fun i q => by rw [g _ _ (by omega)]; exact g11 i q, ?_, g13⟩
  rw [opn_c h2] at g12
  have : opn (c' :: W) ≤ opn W + 1 := by
    show opn W + (if 20 ≤ c' then 1 else 0) ≤ _
    split <;> omega
  omega
theorem q_J122 {m : ev_M} {x : Nat × Bool × List Nat} {W : List Nat} {o : Nat} (hf : 4000 ≤ f) (hG : 0 < b → ∃ c, c < 1000 ∧ isA c = false ∧ G (b - 1) = Int32.ofNat c) (h : QG β E kd b fr G m x W o) (nc : ¬ (yS β E 41 (.inr x) = true ∧ (bkt W = 20 ∨ bkt W = 23 ∨ bkt W = 24))) : ∃ r m', FX12_qGoesOn_J122 f m = some (r, m') ∧ OutG β E kd b fr G r m' (2, .inr x, W, o) x.1 := by
  have hE := h.1.1.1
  have hpE := h.1.2.1
  have hsk := sk_le (β := β) hpE
  have hbd := h.2.2.2.2.2.2.2.2.2.1
  have sg : sgn 42 ∧ sgn 47 ∧ sgn 43 ∧ sgn 45 ∧ sgn 44 := by unfold sgn; decide
  unfold FX12_qGoesOn_J122
  by_cases z1 : yS β E 42 (.inr x) = true
  · obtain ⟨m1, a1, a2, a3, a4, a5, a6⟩ := rt_takesP hf sg.1 h.1 z1
    rw [a1, bd_some, if_neg n10]
    exact q_mul hf hG h a2 a3 a4 a6 (Or.inl ⟨z1, a5⟩)
  obtain ⟨m1, a1, a2, a3, a4⟩ := rt_takesN hf sg.1 h.1 z1
  have h1 : QG β E kd b fr G m1 x W o := qg_on2 h a2 a3
  rw [a1, bd_some, if_pos rfl]
  by_cases z2 : yS β E 47 (.inr x) = true
  · obtain ⟨m2, b1, b2, b3, b4, b5, b6⟩ := rt_takesP hf sg.2.1 h1.1 z2
    rw [b1, bd_some, if_neg n10]
    exact q_mul hf hG h1 b2 b3 b4 b6 (Or.inr ⟨z1, z2, b5⟩)
  obtain ⟨m2, b1, b2, b3, b4⟩ := rt_takesN hf sg.2.1 h1.1 z2
  have h2 : QG β E kd b fr G m2 x W o := qg_on2 h1 b2 b3
  rw [b1, bd_some, if_pos rfl]
  by_cases z3 : yS β E 43 (.inr x) = true
  · obtain ⟨m3, c1, c2, c3, c4, c5, c6⟩ := rt_takesP hf sg.2.2.1 h2.1 z3
    rw [c1, bd_some, if_neg n10]
    exact q_sum hf hG h2 c2 c3 c4 c6 (Or.inl ⟨z3, c5⟩)
  obtain ⟨m3, c1, c2, c3, c4⟩ := rt_takesN hf sg.2.2.1 h2.1 z3
  have h3 : QG β E kd b fr G m3 x W o := qg_on2 h2 c2 c3
  rw [c1, bd_some, if_pos rfl]
  by_cases z4 : yS β E 45 (.inr x) = true
  · obtain ⟨m4, d1, d2, d3, d4, d5, d6⟩ := rt_takesP hf sg.2.2.2.1 h3.1 z4
    rw [d1, bd_some, if_neg n10]
    exact q_sum hf hG h3 d2 d3 d4 d6 (Or.inr ⟨z3, z4, d5⟩)
  obtain ⟨m4, d1, d2, d3, d4⟩ := rt_takesN hf sg.2.2.2.1 h3.1 z4
  have h4 : QG β E kd b fr G m4 x W o := qg_on2 h3 d2 d3
  have st : stp β E kd (2, .inr x, W, o) = (if bkt W = 21 ∨ bkt W = 22 then (if yS β E 44 (.inr x) = true then (0, yapp (W.takeWhile nb) (yad β E (.inr x)), (bkt W + 2) :: (W.dropWhile nb).tail, o) else (3, yfail β E 1 (.inr x), W, o)) else if bkt W = 0 then (3, .inr x, W, o) else (3, yfail β E 1 (.inr x), W, o)) := by
    show sG β E (.inr x) W o = _
    unfold sG
    rw [if_neg nc, if_neg (by rintro (q | q); exact z1 q; exact z2 q), if_neg (by rintro (q | q); exact z3 q; exact z4 q)]
  have bc := bkt_cases W
  rw [d1, bd_some, if_pos rfl, q_bracket hf h4, bd_some]
  have J326 : (bkt W = 21 ∨ bkt W = 22) → ∃ r m', FX12_qGoesOn_J326 f m4 = some (r, m') ∧ OutG β E kd b fr G r m' (2, .inr x, W, o) x.1 := by
    intro hb
    rw [if_pos hb] at st
    unfold FX12_qGoesOn_J326
    obtain ⟨m5, e1, e2⟩ := @rt_asksS f E β m4 (.inr x) 44 hf sg.2.2.2.2 h4.1
    have fr5 : ∀ a k, ¬ (a = 112 ∧ 2 ≤ k ∧ k ≤ 6) → m5.1 a k = m4.1 a k := fun a k z => (MDX12_asksSign e1 a k (by unfold mdX12_asksSign; omega)).1
    rw [e1, bd_some]
    by_cases z5 : yS β E 44 (.inr x) = true
    · rw [if_pos z5] at st
      have ey : ytS β E 44 (.inr x) = yad β E (.inr x) := by unfold ytS; rw [if_pos z5]
      rw [ey] at e2
      have hk3 : tkK β E x.1 x.2.1 = 3 := yS_k z5
      have hk0 : tkK β E x.1 x.2.1 ≠ 0 := by rw [hk3]; decide
      have hB := tkB_lt hk0
      have h5 : QG β E kd b fr G m5 (tkB β E x.1, tkW β E x.1 x.2.1, x.2.2) W o := qg_mv h4 e2 fr5 rfl (by show x.1 ≤ tkB β E x.1; omega)
      obtain ⟨V, hV⟩ := bkt_dw (W := W) (by omega)
      obtain ⟨m6, t1, t2⟩ := @q_dropsTo f E kd b fr β G (fun m5 => some ((), m5)) W f o m5 _ (by omega) h5
      have t1' : FX12_qDropsToBracket f m5 = some ((), m6) := t1
      rw [if_pos h5.1.2.2.1, t1', bd_some]
      rw [hV] at t2 st
      obtain ⟨u1, u2, u3, u4, u5⟩ := qg_top t2
      have hin : ev_in (Int32.ofNat (b + V.length)) 1700 := (n_in (by omega)).mpr (by omega)
      rw [u2, if_pos hin, if_pos hin, n_nat (by omega), u3, show Int32.ofNat (bkt W) + 2 = Int32.ofNat (bkt W + 2) from n_add _ 2]
      exact ⟨1, _, rfl, Or.inl ⟨rfl, _, (bkt W + 2) :: V, o, Rn_1 st, qg_top2 t2 (by omega) (by omega), hB⟩⟩
    · rw [if_neg z5] at st
      have ey : ytS β E 44 (.inr x) = .inl (1, sk β E x.1) := by unfold ytS; rw [if_neg z5]; rfl
      rw [ey] at e2
      rw [if_neg (yr_bad (e := (1, sk β E x.1)) e2)]
      exact ⟨0, m5, rfl, Or.inr ⟨rfl, .inl (1, sk β E x.1), W, o, Rn_1 st, e2, qg_cz h4 (fr5 _ _ (by omega))⟩⟩
  by_cases y1 : bkt W = 21
  · rw [if_pos ((bkt_is (W := W) 21 21 rfl (by omega) (by omega)).mpr y1)]
    exact J326 (Or.inl y1)
  rw [if_neg (fun q => y1 ((bkt_is (W := W) 21 21 rfl (by omega) (by omega)).mp q)), q_bracket hf h4, bd_some]
  by_cases y2 : bkt W = 22
  · rw [if_pos ((bkt_is (W := W) 22 22 rfl (by omega) (by omega)).mpr y2)]
    exact J326 (Or.inr y2)
  rw [if_neg (fun q => y2 ((bkt_is (W := W) 22 22 rfl (by omega) (by omega)).mp q)), q_bracket hf h4, bd_some]
  rw [if_neg (by rintro (q | q); exact y1 q; exact y2 q)] at st
  by_cases y3 : bkt W = 0
  · rw [if_pos y3] at st
    rw [if_pos (by rw [if_pos y3])]
    exact ⟨0, m4, rfl, Or.inr ⟨rfl, .inr x, W, o, Rn_1 st, h4⟩⟩
  · rw [if_neg y3] at st
    obtain ⟨m5, e1, e2⟩ := @yt_fail f E β m4 (.inr x) 1 h4.1 (fun x' e => by cases e; exact d4) (by omega) (by omega)
    have e1' : FX12_fail f 1 (m4.1 112 2) m4 = some ((), m5) := e1
    rw [if_neg (by rw [if_neg y3]; exact n_m1 (by omega)), if_pos h4.1.2.2.1, e1', bd_some]
    exact ⟨0, m5, rfl, Or.inr ⟨rfl, .inl (1, sk β E x.1), W, o, Rn_1 st, e2, qg_cz h4 (MDX12_fail e1 112 93 (by unfold mdX12_fail; omega)).1⟩⟩
end
