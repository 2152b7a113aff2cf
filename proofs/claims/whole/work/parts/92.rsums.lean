/-! the reference's sums -/
section
variable {f E kd b fr : Nat} {β : Nat → Int32} {G : Nat → Int32}
theorem sg41 : sgn 41 := by unfold sgn; decide
theorem q_goesL (hf : 4000 ≤ f) (hG : 0 < b → ∃ c, c < 1000 ∧ isA c = false ∧ G (b - 1) = Int32.ofNat c) : ∀ (j n : Nat) (m : ev_M) (x : Nat × Bool × List Nat) (W : List Nat) (o : Nat), E - x.1 < j → j < n → QG β E kd b fr G m x W o → ∃ r m', FX12_qGoesOn_L0 f (fun m15 => (FX12_qGoesOn_J122 f m15)) n m = some (r, m') ∧ OutG β E kd b fr G r m' (2, .inr x, W, o) x.1 := by
  intro j
  induction j with
  | zero => intro n m x W o h; omega
  | succ j ih =>
    intro n m x W o hj hn h
    obtain ⟨n, rfl⟩ : ∃ i, n = i + 1 := ⟨n - 1, by omega⟩
    have hE := h.1.1.1
    have hpE := h.1.2.1
    have hbd := h.2.2.2.2.2.2.2.2.2.1
    have hsk := sk_le (β := β) hpE
    have hge := sk_ge β E x.1
    obtain ⟨m1, r1, r2, r3, r4⟩ := r_look hf h.1
    have h1 : QG β E kd b fr G m1 x W o := qg_on2 h r3 r4
    unfold FX12_qGoesOn_L0
    rw [if_pos h.1.2.2.1, r1, bd_some]
    by_cases z : yS β E 41 (.inr x) = true
    rotate_left
    · rw [if_neg (fun q => z ((yS_lk sg41).mpr q))]
      exact q_J122 hf hG h1 (fun q => z q.1)
    rw [if_pos ((yS_lk sg41).mp z), q_bracket hf h1, bd_some]
    have J43 : (bkt W = 20 ∨ bkt W = 23 ∨ bkt W = 24) → ∃ r m', FX12_qGoesOn_J43 f (FX12_qGoesOn_L0 f (fun m15 => (FX12_qGoesOn_J122 f m15)) n) m1 = some (r, m') ∧ OutG β E kd b fr G r m' (2, .inr x, W, o) x.1 := by
      intro hb
      have hk3 : tkK β E x.1 x.2.1 = 3 := yS_k z
      have hk0 : tkK β E x.1 x.2.1 ≠ 0 := by rw [hk3]; decide
      have hB := tkB_lt hk0
      have hxE := tkK_lt hk0
      obtain ⟨V, hV⟩ := bkt_dw (W := W) (by omega)
      have st : stp β E kd (2, .inr x, W, o) = (1, yapp (W.takeWhile nb ++ (if bkt W = 20 then [] else if bkt W = 23 then [5] else [6])) (yad β E (.inr x)), V, o - 1) := by
        show sG β E (.inr x) W o = _
        unfold sG
        rw [if_pos ⟨z, hb⟩, hV]
        rfl
      have hy := rt_sg r3 r2 z
      have h2 : QG β E kd b fr G (ev_up m1.1 112 2 (m1.1 112 2 + 1), m1.2) (tkB β E x.1, tkW β E x.1 x.2.1, x.2.2) W o := qg_mv h1 hy (fun a k z => (on2_up _ _).2 a k (by omega)) rfl (by show x.1 ≤ tkB β E x.1; omega)
      obtain ⟨m3, t1, t2⟩ := @q_dropsTo f E kd b fr β G (fun m5 => some ((), m5)) W f o _ _ (by omega) h2
      have t1' : FX12_qDropsToBracket f (ev_up m1.1 112 2 (m1.1 112 2 + 1), m1.2) = some ((), m3) := t1
      unfold FX12_qGoesOn_J43
      rw [t1', bd_some]
      rw [hV] at t2
      obtain ⟨u1, u2, u3, u4, u5⟩ := qg_top t2
      have g12 := t2.2.2.2.2.2.2.2.2.2.2.2.1
      have g13 := t2.2.2.2.2.2.2.2.2.2.2.2.2
      rw [opn_c (by omega)] at g12
      have hin : ev_in (Int32.ofNat (b + V.length)) 1700 := (n_in (by omega)).mpr (by omega)
      have e96 : m3.1 112 96 - 1 = Int32.ofNat (o - 1) := by
        rw [t2.2.2.2.2.1, show (1 : Int32) = Int32.ofNat 1 from rfl, n_sub (by omega)]
      have hp3 := qg_open (qg_pop t2) (o' := o - 1) (by omega) (by omega)
      have hb3 : fr + (x.2.2 ++ W.takeWhile nb).length + (b + V.length) < tkB β E x.1 := by
        have := t2.2.2.2.2.2.2.2.2.2.1
        have this' : fr + (x.2.2 ++ W.takeWhile nb).length + (b + (V.length + 1)) ≤ tkB β E x.1 := this
        omega
      have J115 : ∀ (m4 : ev_M) (C : List Nat), QG β E kd b fr G m4 (tkB β E x.1, tkW β E x.1 x.2.1, C) V (o - 1) → stp β E kd (2, .inr x, W, o) = (1, .inr (tkB β E x.1, tkW β E x.1 x.2.1, C), V, o - 1) → ∃ r m', FX12_qGoesOn_J115 f (FX12_qGoesOn_L0 f (fun m15 => (FX12_qGoesOn_J122 f m15)) n) m4 = some (r, m') ∧ OutG β E kd b fr G r m' (2, .inr x, W, o) x.1 := by
        intro m4 C h4 s4
        unfold FX12_qGoesOn_J115
        obtain ⟨m5, x', W', o', q1, q2, q3, q4, q5⟩ := q_ends hf h4
        rw [q1, bd_some]
        have q4' : x'.1 = tkB β E x.1 := q4
        obtain ⟨r, m6, w1, w2⟩ := ih n m5 x' W' o' (by omega) (by omega) q2
        exact ⟨r, m6, w1, OutG_pre (Rn_st s4 q3) (by omega) w2⟩
      have J112 : ∀ (c : Nat), (W.takeWhile nb ++ (if bkt W = 20 then [] else if bkt W = 23 then [5] else [6])) = W.takeWhile nb ++ [c] → ∃ r m', FX12_qGoesOn_J112 f (FX12_qGoesOn_L0 f (fun m15 => (FX12_qGoesOn_J122 f m15)) n) (Int32.ofNat c) (ev_up (ev_up m3.1 112 95 (Int32.ofNat (b + V.length))) 112 96 (Int32.ofNat (o - 1)), m3.2) = some (r, m') ∧ OutG β E kd b fr G r m' (2, .inr x, W, o) x.1 := by
        intro c hc
        unfold FX12_qGoesOn_J112
        obtain ⟨m4, q1, q2⟩ := @q_code f E kd b fr β G _ _ V (o - 1) c hp3 hb3
        rw [q1, bd_some]
        refine J115 m4 _ q2 ?_
        rw [st, hc]
        show (1, Sum.inr (tkB β E x.1, tkW β E x.1 x.2.1, x.2.2 ++ (W.takeWhile nb ++ [c])), V, o - 1) = (1, Sum.inr (tkB β E x.1, tkW β E x.1 x.2.1, (x.2.2 ++ W.takeWhile nb) ++ [c]), V, o - 1)
        rw [List.append_assoc]
      rw [u2, if_pos hin, e96]
      have u3' : m3.1 178 (Int32.ofNat (b + V.length)).toNatClampNeg = Int32.ofNat (bkt W) := by rw [n_nat (by omega)]; exact u3
      by_cases c20 : bkt W = 20
      · rw [if_pos (u3'.trans (by rw [c20]; rfl))]
        refine J115 _ _ hp3 ?_
        rw [st, if_pos c20, List.append_nil]
        rfl
      rw [if_neg (fun q => c20 ((n_is 20 20 rfl (by omega) (by omega)).mp (u3'.symm.trans q))), if_pos hin]
      by_cases c23 : bkt W = 23
      · rw [if_pos (u3'.trans (by rw [c23]; rfl))]
        exact J112 5 (by rw [if_neg c20, if_pos c23])
      · rw [if_neg (fun q => c23 ((n_is 23 23 rfl (by omega) (by omega)).mp (u3'.symm.trans q)))]
        exact J112 6 (by rw [if_neg c20, if_neg c23])
    by_cases y1 : bkt W = 20
    · rw [if_pos ((bkt_is (W := W) 20 20 rfl (by omega) (by omega)).mpr y1)]
      exact J43 (Or.inl y1)
    rw [if_neg (fun q => y1 ((bkt_is (W := W) 20 20 rfl (by omega) (by omega)).mp q)), q_bracket hf h1, bd_some]
    by_cases y2 : bkt W = 23
    · rw [if_pos ((bkt_is (W := W) 23 23 rfl (by omega) (by omega)).mpr y2)]
      exact J43 (Or.inr (Or.inl y2))
    rw [if_neg (fun q => y2 ((bkt_is (W := W) 23 23 rfl (by omega) (by omega)).mp q)), q_bracket hf h1, bd_some]
    by_cases y3 : bkt W = 24
    · rw [if_pos ((bkt_is (W := W) 24 24 rfl (by omega) (by omega)).mpr y3)]
      exact J43 (Or.inr (Or.inr y3))
    rw [if_neg (fun q => y3 ((bkt_is (W := W) 24 24 rfl (by omega) (by omega)).mp q))]
    exact q_J122 hf hG h1 (fun q => by
      rcases q.2 with q | q | q
      · exact y1 q
      · exact y2 q
      · exact y3 q)
theorem q_goes {m : ev_M} {x : Nat × Bool × List Nat} {W : List Nat} {o : Nat} (hf : 4000 ≤ f) (hG : 0 < b → ∃ c, c < 1000 ∧ isA c = false ∧ G (b - 1) = Int32.ofNat c) (h : QG β E kd b fr G m x W o) : ∃ r m', FX12_qGoesOn f m = some (r, m') ∧ OutG β E kd b fr G r m' (2, .inr x, W, o) x.1 := by
  have hE := h.1.1.1
  unfold FX12_qGoesOn
  exact q_goesL hf hG 1601 f m x W o (by omega) (by omega) h
theorem q_sumsL (hf : 4000 ≤ f) (hk : kd < 3) (hG : 0 < b → ∃ c, c < 1000 ∧ isA c = false ∧ G (b - 1) = Int32.ofNat c) (k : ev_M → Option (Unit × ev_M)) : ∀ (j n : Nat) (m : ev_M) (x : Nat × Bool × List Nat) (W : List Nat) (o : Nat), E - x.1 < j → j < n → QG β E kd b fr G m x W o → ∃ m' y' W' o', FX12_qSums_L15 f k n 1 m = k m' ∧ Rn β E kd (0, .inr x, W, o) (3, y', W', o') ∧ QR β E kd b fr G m' (3, y', W', o') := by
  intro j
  induction j with
  | zero => intro n m x W o h; omega
  | succ j ih =>
    intro n m x W o hj hn h
    obtain ⟨n, rfl⟩ : ∃ i, n = i + 2 := ⟨n - 2, by omega⟩
    unfold FX12_qSums_L15
    have L0 : ∀ m', FX12_qSums_L15 f k (n + 1) 0 m' = k m' := by
      intro m'
      unfold FX12_qSums_L15
      rw [if_pos rfl]
    obtain ⟨m1, r1, r2⟩ := q_part hf hk h
    rw [if_neg n10, if_pos h.1.2.2.1, r1, bd_some]
    rcases r2 with ⟨x', W', o', a1, a2, a3⟩ | ⟨e, W', o', a1, a2⟩
    rotate_left
    · rw [if_neg (yr_bad a2.1)]
      unfold FX12_qSums_J48 FX12_qSums_J49
      rw [L0]
      exact ⟨m1, .inl e, W', o', rfl, a1, a2⟩
    obtain ⟨r, m2, q1, q2⟩ := q_goes hf hG a2
    rw [if_pos a2.1.2.2.1, q1, bd_some]
    rcases q2 with ⟨e, x2, W2, o2, b1, b2, b3⟩ | ⟨e, y2, W2, o2, b1, b2⟩
    · rw [e, if_neg n10]
      unfold FX12_qSums_J49
      have hE := h.1.2.1
      have hx2 := b2.1.2.1
      obtain ⟨m3, y3, W3, o3, c1, c2, c3⟩ := ih (n + 1) m2 x2 W2 o2 (by omega) (by omega) b2
      exact ⟨m3, y3, W3, o3, c1, Rn_tr a1 (Rn_tr b1 c2), c3⟩
    · rw [e, if_pos rfl]
      unfold FX12_qSums_J48 FX12_qSums_J49
      rw [L0]
      exact ⟨m2, y2, W2, o2, rfl, Rn_tr a1 b1, b2⟩
theorem q_allL (k : ev_M → Option (Unit × ev_M)) : ∀ (W : List Nat) (n o : Nat) (m : ev_M) (x : Nat × Bool × List Nat), W.length < n → QG β E kd b fr G m x W o → ∃ m', FX12_qSums_L53 f k n m = k m' ∧ QG β E kd b fr G m' (x.1, x.2.1, x.2.2 ++ W) [] o := by
  intro W
  induction W with
  | nil =>
    intro n o m x hn h
    obtain ⟨n, rfl⟩ : ∃ i, n = i + 1 := ⟨n - 1, by omega⟩
    have hE := h.1.1.1
    have hpE := h.1.2.1
    have g10 := h.2.2.2.2.2.2.2.2.2.1
    have hl : ([] : List Nat).length = 0 := rfl
    unfold FX12_qSums_L53
    rw [if_pos h.1.2.2.1, h.2.2.2.1, h.2.2.2.2.2.1, if_pos ((n_le (by omega) (by omega)).mpr (by omega))]
    exact ⟨m, rfl, by rw [List.append_nil]; exact h⟩
  | cons c V ih =>
    intro n o m x hn h
    have hl : (c :: V).length = V.length + 1 := rfl
    obtain ⟨n, rfl⟩ : ∃ i, n = i + 1 := ⟨n - 1, by omega⟩
    obtain ⟨t1, t2, t3, t4, t5⟩ := qg_top h
    unfold FX12_qSums_L53
    rw [if_pos h.1.2.2.1, t5, h.2.2.2.1, if_neg (fun q => by rw [n_le (by omega) (by omega)] at q; omega)]
    obtain ⟨m1, r1, r2⟩ := @q_drops f E kd b fr β G m x V o c h
    rw [r1, bd_some]
    obtain ⟨m2, q1, q2⟩ := ih n o m1 _ (by omega) r2
    refine ⟨m2, q1, ?_⟩
    have q2' : QG β E kd b fr G m2 (x.1, x.2.1, (x.2.2 ++ [c]) ++ V) [] o := q2
    rw [List.append_assoc] at q2'
    exact q2'
theorem q_badS {k : ev_M → Option (Unit × ev_M)} {m : ev_M} {e : Nat × Nat} {n : Nat} (h : RB m e) (hn : 0 < n) : FX12_qSums_L53 f k n m = k m := by
  obtain ⟨n, rfl⟩ : ∃ i, n = i + 1 := ⟨n - 1, by omega⟩
  unfold FX12_qSums_L53
  rw [if_neg (yr_bad h)]
/-- sums, from a place with nothing waiting above the base -/
theorem q_sums {m : ev_M} {x : Nat × Bool × List Nat} {o : Nat} (hf : 4000 ≤ f) (hk : kd < 3) (hG : 0 < b → ∃ c, c < 1000 ∧ isA c = false ∧ G (b - 1) = Int32.ofNat c) (h : QG β E kd b fr G (ev_up m.1 112 97 (m.1 112 95), m.2) x [] o) : (∀ x', PA β E kd 64 0 0 o (.inr x) = .inr x' → ∃ m', FX12_qSums f m = some ((), (ev_up m'.1 112 97 (m.1 112 97), m'.2)) ∧ QG β E kd b fr G m' x' [] o) ∧ (∀ e, PA β E kd 64 0 0 o (.inr x) = .inl e → ∃ m', FX12_qSums f m = some ((), m') ∧ RB m' e ∧ CZ m') := by
  have hE := h.1.1.1
  have ho := h.2.2.2.2.2.2.2.2.2.2.2.2
  obtain ⟨m1, y1, W1, o1, r1, r2, r3⟩ := @q_sumsL f E kd b fr β G hf hk hG (fun m5 => (FX12_qSums_L53 f (fun m8 => some ((), ((ev_up m8.1 112 97 (m.1 112 97)), m8.2))) f m5)) 1601 f _ x [] o (by omega) (by omega) h
  obtain ⟨p1, p2⟩ := run_top (β := β) (kd := kd) hE (n := 64) ho (by omega) x
  unfold FX12_qSums
  rw [r1]
  refine ⟨fun x' e => ?_, fun e he => ?_⟩
  · obtain ⟨pend, C1, q1, q2⟩ := p1 x' e
    have := Rn_det r2 q1 (Nat.le_refl 3) (Nat.le_refl 3)
    have ey : y1 = .inr (x'.1, x'.2.1, C1) := congrArg (fun s => s.2.1) this
    have eW : W1 = pend := congrArg (fun s => s.2.2.1) this
    have eo : o1 = o := congrArg (fun s => s.2.2.2) this
    subst ey; subst eW; subst eo
    have r3' : QG β E kd b fr G m1 (x'.1, x'.2.1, C1) W1 o1 := r3
    have hpE := r3'.1.2.1
    have g10 := r3'.2.2.2.2.2.2.2.2.2.1
    have hpE' : x'.1 ≤ E := hpE
    have g10' : fr + C1.length + (b + W1.length) ≤ x'.1 := g10
    obtain ⟨m2, s1, s2⟩ := @q_allL f E kd b fr β G (fun m8 => some ((), ((ev_up m8.1 112 97 (m.1 112 97)), m8.2))) W1 f o1 m1 _ (by omega) r3'
    rw [s1]
    refine ⟨m2, rfl, ?_⟩
    have s2' : QG β E kd b fr G m2 (x'.1, x'.2.1, C1 ++ W1) [] o1 := s2
    rw [q2] at s2'
    exact s2'
  · obtain ⟨W', o', q1⟩ := p2 e he
    have := Rn_det r2 q1 (Nat.le_refl 3) (Nat.le_refl 3)
    have ey : y1 = .inl e := congrArg (fun s => s.2.1) this
    subst ey
    have r3' : RB m1 e ∧ CZ m1 := r3
    have L53 : FX12_qSums_L53 f (fun m8 => some ((), ((ev_up m8.1 112 97 (m.1 112 97)), m8.2))) f m1 = some ((), (ev_up m1.1 112 97 (m.1 112 97), m1.2)) := by
      exact q_badS r3'.1 (by omega)
    rw [L53]
    obtain ⟨z, z1, z2⟩ := r3'.2
    exact ⟨_, rfl, RB_fr r3'.1 (by rw [upI_nk _ _ _ _ (by decide)]) (by rw [upI_nk _ _ _ _ (by decide)]), z, z1, by rw [upI_nk _ _ _ _ (by decide)]; exact z2⟩
end
