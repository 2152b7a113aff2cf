/-! the openings before a part -/
theorem n_m1' {t : Nat} (h : t < 2147483648) : ¬ Int32.ofNat t = -1 := fun q => by
  have := congrArg Int32.toInt q
  rw [n_int h] at this
  have e : (-1 : Int32).toInt = -1 := rfl
  omega
section
variable {f E kd b fr : Nat} {β : Nat → Int32} {G : Nat → Int32}
theorem sg40 : sgn 40 := by unfold sgn; decide
/-- behind the word of a pair -/
theorem q_J101 {m : ev_M} {x : Nat × Bool × List Nat} {W : List Nat} {o c n : Nat} {a4 : Int32} {s : Sy} {p : Nat} (hf : 4000 ≤ f) (h : QG β E kd b fr G m x W o) (hn : 0 < n) (hc : a4 = 0 ∧ c = 22 ∨ ¬ a4 = 0 ∧ c = 21) (hp : p ≤ x.1)
    (hs : Rn β E kd s (if yS β E 40 (.inr x) = true then (if o < 6 then (0, yad β E (.inr x), c :: W, o + 1) else (3, yfail β E 4 (.inr x), W, o)) else (3, yfail β E 1 (.inr x), W, o)))
    (ih : ∀ m' x' W' o', x.1 < x'.1 → x.1 < E → QG β E kd b fr G m' x' W' o' → ∃ m'', FX12_qPartTold_L2 f (fun m25 => (FX12_qPartTold_J186 f m25)) n 1 m' = some ((), m'') ∧ OutP β E kd b fr G m'' (0, .inr x', W', o') x'.1) :
    ∃ m', FX12_qPartTold_J101 f (FX12_qPartTold_L2 f (fun m25 => (FX12_qPartTold_J186 f m25)) n) 1 a4 m = some ((), m') ∧ OutP β E kd b fr G m' s p := by
  have hE := h.1.1.1
  have hpE := h.1.2.1
  have hbd := h.2.2.2.2.2.2.2.2.2.1
  have hsk := sk_le (β := β) hpE
  unfold FX12_qPartTold_J101
  obtain ⟨m1, r1, r2, r3, r4⟩ := r_look hf h.1
  have h1 : QG β E kd b fr G m1 x W o := qg_on2 h r3 r4
  rw [r1, bd_some]
  by_cases z : yS β E 40 (.inr x) = true
  · rw [if_pos z] at hs
    rw [if_pos ((yS_lk sg40).mp z)]
    have hk3 : tkK β E x.1 x.2.1 = 3 := yS_k z
    have hk0 : tkK β E x.1 x.2.1 ≠ 0 := by rw [hk3]; decide
    have hlt := tkB_lt hk0
    have hxE := tkK_lt hk0
    have hge := sk_ge β E x.1
    unfold FX12_qPartTold_J118
    rw [if_neg (by rw [r2]; exact n_m1' (by omega))]
    have key : ∃ m', FX12_qPartTold_J139 f (FX12_qPartTold_L2 f (fun m25 => (FX12_qPartTold_J186 f m25)) n) 1 (m1.1 112 2) (Int32.ofNat c) m1 = some ((), m') ∧ OutP β E kd b fr G m' s p := by
      unfold FX12_qPartTold_J139
      have op := @q_opens f E kd b fr β G m1 x W o c (by omega) h1 (by omega) (m1.1 112 2) r2
      by_cases h6 : o < 6
      · rw [if_pos h6] at op hs
        have op' : FX12_qOpens f (Int32.ofNat c) (m1.1 112 2) m1 = some ((), pmm m1 o (b + W.length) c) := op
        rw [op', bd_some]
        unfold FX12_qPartTold_J144
        obtain ⟨m2, q1, q2⟩ := @rt_asksS f E β (pmm m1 o (b + W.length) c) (.inr x) 40 hf sg40 (pmm_RT r3)
        rw [q1, bd_some]
        have ey : ytS β E 40 (.inr x) = yad β E (.inr x) := by unfold ytS; rw [if_pos z]
        rw [ey] at q2
        have hq : QG β E kd b fr G m2 (tkB β E x.1, tkW β E x.1 x.2.1, x.2.2) (c :: W) (o + 1) := q_opened h1 h6 (by omega) (by omega) q2 rfl hlt (fun a k z => (MDX12_asksSign q1 a k (by unfold mdX12_asksSign; omega)).1)
        unfold FX12_qPartTold_J183
        obtain ⟨m3, t1, t2⟩ := ih m2 _ _ _ hlt (by omega) hq
        exact ⟨m3, t1, OutP_pre hs (by show p ≤ tkB β E x.1; omega) t2⟩
      · rw [if_neg h6] at op hs
        obtain ⟨m2, op1, op2⟩ := op
        rw [op1, bd_some]
        unfold FX12_qPartTold_J144
        obtain ⟨m3, q1, q2⟩ := @rt_asksS f E β m2 (.inl (4, sk β E x.1)) 40 hf sg40 op2
        rw [q1, bd_some]
        unfold FX12_qPartTold_J183
        rw [q_badL (e := (4, sk β E x.1)) q2 hn n10]
        refine ⟨m3, rfl, Or.inr ⟨_, W, o, hs, q2, qg_cz h1 ?_⟩⟩
        rw [(MDX12_asksSign q1 112 93 (by unfold mdX12_asksSign; omega)).1, (MDX12_qOpens op1 112 93 (by unfold mdX12_qOpens; omega)).1]
    rcases hc with ⟨c1, c2⟩ | ⟨c1, c2⟩
    · rw [if_pos c1]; subst c2; exact key
    · rw [if_neg c1]; subst c2; exact key
  · rw [if_neg z] at hs
    rw [if_neg (fun q => z ((yS_lk sg40).mpr q))]
    unfold FX12_qPartTold_J118
    rw [if_pos rfl]
    unfold FX12_qPartTold_J144
    obtain ⟨m2, q1, q2⟩ := @rt_asksS f E β m1 (.inr x) 40 hf sg40 r3
    rw [q1, bd_some]
    have ey : ytS β E 40 (.inr x) = .inl (1, sk β E x.1) := by unfold ytS; rw [if_neg z]; rfl
    rw [ey] at q2
    unfold FX12_qPartTold_J183
    rw [q_badL (e := (1, sk β E x.1)) q2 hn n10]
    exact ⟨m2, rfl, Or.inr ⟨_, W, o, hs, q2, qg_cz h1 (MDX12_asksSign q1 112 93 (by unfold mdX12_asksSign; omega)).1⟩⟩
theorem q_partL (hf : 4000 ≤ f) (hk : kd < 3) : ∀ (j n : Nat) (m : ev_M) (x : Nat × Bool × List Nat) (W : List Nat) (o : Nat), E - x.1 < j → j < n → QG β E kd b fr G m x W o → ∃ m', FX12_qPartTold_L2 f (fun m25 => (FX12_qPartTold_J186 f m25)) n 1 m = some ((), m') ∧ OutP β E kd b fr G m' (0, .inr x, W, o) x.1 := by
  intro j
  induction j with
  | zero => intro n m x W o h; omega
  | succ j ih =>
    intro n m x W o hj hn h
    obtain ⟨n, rfl⟩ : ∃ i, n = i + 1 := ⟨n - 1, by omega⟩
    have hE := h.1.1.1
    have hpE := h.1.2.1
    have hbd := h.2.2.2.2.2.2.2.2.2.1
    have hsk := sk_le (β := β) hpE
    have hge := sk_ge β E x.1
    have s0 : stp β E kd (0, .inr x, W, o) = sP β E kd (.inr x) W o := rfl
    unfold FX12_qPartTold_L2
    obtain ⟨m1, r1, r2, r3, r4⟩ := r_look hf h.1
    have h1 : QG β E kd b fr G m1 x W o := qg_on2 h r3 r4
    obtain ⟨m2, w1, w2⟩ := @r_wordOf f E kd β m1 x 10 11 hf hk (by omega) (by omega) h1.1 h1.2.1 h1.2.2.1
    rw [wo_s hk] at w1
    have w1' : FX12_qWordOf f 10 11 m1 = some (oi (if kd = 2 ∧ yI β E (.inr x) = some 10 then some 10 else none), m2) := w1
    have h2 : QG β E kd b fr G m2 x W o := qg_on2 h1 w2.1 w2.2.2.2
    have at2 := w2.2.2.1
    rw [if_neg n10, if_pos h.1.2.2.1, r1, bd_some, w1', bd_some]
    by_cases z : yS β E 40 (.inr x) = true
    · rw [if_pos ((yS_lk sg40).mp z)]
      have hk3 : tkK β E x.1 x.2.1 = 3 := yS_k z
      have hk0 : tkK β E x.1 x.2.1 ≠ 0 := by rw [hk3]; decide
      have hlt := tkB_lt hk0
      have hxE := tkK_lt hk0
      have op := @q_opens f E kd b fr β G m2 x W o 20 (by omega) h2 (by omega) (m2.1 112 2) at2
      have e0 : stp β E kd (0, .inr x, W, o) = if o < 6 then (0, yad β E (.inr x), 20 :: W, o + 1) else (3, yfail β E 4 (.inr x), W, o) := by
        rw [s0]; unfold sP; rw [if_pos z]
      by_cases h6 : o < 6
      · rw [if_pos h6] at op e0
        have op' : FX12_qOpens f 20 (m2.1 112 2) m2 = some ((), pmm m2 o (b + W.length) 20) := op
        rw [op', bd_some]
        unfold FX12_qPartTold_J183
        have hpm := rt_sg (pmm_RT (o := o) (t := b + W.length) (c := 20) h2.1) (by rw [pmm_fr (by omega) (by omega)]; exact at2) z
        have hq : QG β E kd b fr G (ev_up (pmm m2 o (b + W.length) 20).1 112 2 ((pmm m2 o (b + W.length) 20).1 112 2 + 1), (pmm m2 o (b + W.length) 20).2) (tkB β E x.1, tkW β E x.1 x.2.1, x.2.2) (20 :: W) (o + 1) := q_opened h2 h6 (by omega) (by omega) hpm rfl hlt (fun a k z => (on2_up _ _).2 a k (by omega))
        obtain ⟨m3, t1, t2⟩ := ih n _ _ _ _ (by show E - tkB β E x.1 < j; omega) (by omega) hq
        exact ⟨m3, t1, OutP_pre (Rn_1 e0) (by show x.1 ≤ tkB β E x.1; omega) t2⟩
      · rw [if_neg h6] at op e0
        obtain ⟨m3, op1, op2⟩ := op
        have op1' : FX12_qOpens f 20 (m2.1 112 2) m2 = some ((), m3) := op1
        rw [op1', bd_some]
        unfold FX12_qPartTold_J183
        have hb4 : RB (ev_up m3.1 112 2 (m3.1 112 2 + 1), m3.2) (4, sk β E x.1) := RB_fr op2 (by rw [upI_nk _ _ _ _ (by decide)]) (by rw [upI_nk _ _ _ _ (by decide)])
        rw [q_badL hb4 (by omega) n10]
        exact ⟨_, rfl, Or.inr ⟨_, W, o, Rn_1 e0, hb4, qg_cz h2 (by rw [upI_nk _ _ _ _ (by decide), (MDX12_qOpens op1 112 93 (by unfold mdX12_qOpens; omega)).1])⟩⟩
    rw [if_neg (fun q => z ((yS_lk sg40).mpr q))]
    -- the pairs
    have pair : ∀ (m3 : ev_M), QG β E kd b fr G m3 x W o → (yI β E (.inr x) = some 21 ∨ yI β E (.inr x) = some 22) → ∃ m', FX12_qPartTold_J78 f (FX12_qPartTold_L2 f (fun m25 => (FX12_qPartTold_J186 f m25)) n) 1 m3 = some ((), m') ∧ OutP β E kd b fr G m' (0, .inr x, W, o) x.1 := by
      intro m3 h3 hi
      have hk1 : tkK β E x.1 x.2.1 = 1 := by
        rcases hi with hi | hi
        · exact yI_k hi
        · exact yI_k hi
      have hk0 : tkK β E x.1 x.2.1 ≠ 0 := by rw [hk1]; decide
      have hlt := tkB_lt hk0
      have hxE := tkK_lt hk0
      have e0 : stp β E kd (0, .inr x, W, o) = (if yS β E 40 (yad β E (.inr x)) = true then (if o < 6 then (0, yad β E (yad β E (.inr x)), (if yI β E (.inr x) = some 21 then 21 else 22) :: W, o + 1) else (3, yfail β E 4 (yad β E (.inr x)), W, o)) else (3, yfail β E 1 (yad β E (.inr x)), W, o)) := by
        rw [s0]; unfold sP; rw [if_neg z, if_pos hi]
      have nx : ∀ (m5 : ev_M) (a4 : Int32) (c : Nat), (a4 = 0 ∧ c = 22 ∨ ¬ a4 = 0 ∧ c = 21) → c = (if yI β E (.inr x) = some 21 then 21 else 22) → YT β E m5 (yad β E (.inr x)) → (∀ a k, ¬ (a = 112 ∧ 2 ≤ k ∧ k ≤ 6) → m5.1 a k = m3.1 a k) → ∃ m', FX12_qPartTold_J101 f (FX12_qPartTold_L2 f (fun m25 => (FX12_qPartTold_J186 f m25)) n) 1 a4 m5 = some ((), m') ∧ OutP β E kd b fr G m' (0, .inr x, W, o) x.1 := by
        intro m5 a4 c hc hc2 hy hfr
        have h5 : QG β E kd b fr G m5 (tkB β E x.1, tkW β E x.1 x.2.1, x.2.2) W o := qg_mv h3 hy hfr rfl (by show x.1 ≤ tkB β E x.1; omega)
        rw [← hc2] at e0
        have lt2 : ∀ {q : Nat}, tkB β E x.1 < q → E - q < j := fun hq => by omega
        exact q_J101 hf h5 (by omega) hc (by show x.1 ≤ tkB β E x.1; omega) (Rn_1 e0) (fun m' x' W' o' hx _ hq => ih n m' x' W' o' (lt2 hx) (by omega) hq)
      unfold FX12_qPartTold_J78
      obtain ⟨m4, t1, t2, t3, t4⟩ := @rt_takesW f E β m3 (.inr x) 164 hf h3.2.1 (by decide) h3.1
      rw [t1, bd_some, show wix 164 = 21 from by decide]
      rw [show wix 164 = 21 from by decide] at t2 t3
      by_cases i21 : yI β E (.inr x) = some 21
      · rw [if_pos i21] at t2
        rw [if_pos i21, if_neg n10]
        exact nx m4 1 21 (Or.inr ⟨n10, rfl⟩) (by rw [if_pos i21]) t2 (fun a k q => t4 a k (by omega))
      · rw [if_neg i21] at t2
        rw [if_neg i21, if_pos rfl]
        have hw4 : WA m4 := WA_fr h3.2.1 (fun a k q => t4 a k (by have := wo_ne q; omega))
        obtain ⟨m5, u1, u2⟩ := @rt_asksW f E β m4 (.inr x) 165 hf hw4 (by decide) t2
        rw [u1, bd_some]
        have ey : ytW β E (wix 165) (.inr x) = yad β E (.inr x) := by
          unfold ytW
          rw [show wix 165 = 22 from by decide, if_pos (hi.resolve_left i21)]
        rw [ey] at u2
        exact nx m5 0 22 (Or.inl ⟨rfl, rfl⟩) (by rw [if_neg i21]) u2 (fun a k q => by
          rw [(MDX12_asks u1 a k (by unfold mdX12_asks; omega)).1]
          exact t4 a k (by omega))
    obtain ⟨m3, a1, a2⟩ := @r_hr f E β m2 m2 x 164 hf (by decide) h2.1 h2.2.1 (on2_refl m2)
    have h3 : QG β E kd b fr G m3 x W o := qg_on2 h2 a2.1 a2.2.2.2
    rw [a1, bd_some, show wix 164 = 21 from by decide]
    by_cases i21 : yI β E (.inr x) = some 21
    · rw [if_pos i21, if_neg n10]
      exact pair m3 h3 (Or.inl i21)
    rw [if_neg i21, if_pos rfl]
    obtain ⟨m4, b1, b2⟩ := @r_hr f E β m3 m3 x 165 hf (by decide) h3.1 h3.2.1 (on2_refl m3)
    have h4 : QG β E kd b fr G m4 x W o := qg_on2 h3 b2.1 b2.2.2.2
    rw [b1, bd_some, show wix 165 = 22 from by decide]
    by_cases i22 : yI β E (.inr x) = some 22
    · rw [if_pos i22, if_neg n10]
      exact pair m4 h4 (Or.inr i22)
    rw [if_neg i22, if_pos rfl]
    have n12 : ¬ (yI β E (.inr x) = some 21 ∨ yI β E (.inr x) = some 22) := by
      rintro (q | q)
      · exact i21 q
      · exact i22 q
    by_cases sa : kd = 2 ∧ yI β E (.inr x) = some 10
    · have hk1 : tkK β E x.1 x.2.1 = 1 := yI_k sa.2
      have hk0 : tkK β E x.1 x.2.1 ≠ 0 := by rw [hk1]; decide
      have hlt := tkB_lt hk0
      have hxE := tkK_lt hk0
      have e0 : stp β E kd (0, .inr x, W, o) = if o < 6 then (0, yad β E (.inr x), 60 :: W, o + 1) else (3, yfail β E 4 (.inr x), W, o) := by
        rw [s0]; unfold sP; rw [if_neg z, if_neg n12, if_pos sa]
      rw [if_pos sa, show oi (some 10) = Int32.ofNat 10 from rfl, if_neg (n_m1 (by omega)), show (60 + Int32.ofNat 10 - 10 : Int32) = Int32.ofNat 60 from rfl]
      have op := @q_opens f E kd b fr β G m4 x W o 60 (by omega) h4 (by omega) (m4.1 112 2) b2.2.2.1
      by_cases h6 : o < 6
      · rw [if_pos h6] at op e0
        have op' : FX12_qOpens f (Int32.ofNat 60) (m4.1 112 2) m4 = some ((), pmm m4 o (b + W.length) 60) := op
        rw [op', bd_some, r_asksQ (by omega)]
        obtain ⟨m5, u1, u2⟩ := @rt_asksW f E β (pmm m4 o (b + W.length) 60) (.inr x) 176 hf (pmm_WA h4.2.1) (by decide) (pmm_RT h4.1)
        have u1' : FX12_asks f (166 + 10) (pmm m4 o (b + W.length) 60) = some ((), m5) := u1
        rw [u1', bd_some, bd_some]
        have ey : ytW β E (wix 176) (.inr x) = yad β E (.inr x) := by
          unfold ytW
          rw [show wix 176 = 10 from by decide, if_pos sa.2]
        rw [ey] at u2
        have hq : QG β E kd b fr G m5 (tkB β E x.1, tkW β E x.1 x.2.1, x.2.2) (60 :: W) (o + 1) := q_opened h4 h6 (by omega) (by omega) u2 rfl hlt (fun a k z => (MDX12_asks u1 a k (by unfold mdX12_asks; omega)).1)
        unfold FX12_qPartTold_J183
        obtain ⟨m6, t1, t2⟩ := ih n _ _ _ _ (by show E - tkB β E x.1 < j; omega) (by omega) hq
        exact ⟨m6, t1, OutP_pre (Rn_1 e0) (by show x.1 ≤ tkB β E x.1; omega) t2⟩
      · rw [if_neg h6] at op e0
        obtain ⟨m5, op1, op2⟩ := op
        rw [op1, bd_some, r_asksQ (by omega)]
        unfold FX12_asks
        rw [if_neg (yr_bad op2), bd_some, bd_some]
        unfold FX12_qPartTold_J183
        rw [q_badL op2 (by omega) n10]
        exact ⟨m5, rfl, Or.inr ⟨_, W, o, Rn_1 e0, op2, qg_cz h4 (MDX12_qOpens op1 112 93 (by unfold mdX12_qOpens; omega)).1⟩⟩
    rw [if_neg sa, show oi none = -1 from rfl, if_pos rfl]
    unfold FX12_qPartTold_J183
    obtain ⟨n, rfl⟩ : ∃ i, n = i + 1 := ⟨n - 1, by omega⟩
    unfold FX12_qPartTold_L2
    rw [if_pos rfl]
    exact q_val hf hk h4 z n12 sa
theorem q_part {m : ev_M} {x : Nat × Bool × List Nat} {W : List Nat} {o : Nat} (hf : 4000 ≤ f) (hk : kd < 3) (h : QG β E kd b fr G m x W o) : ∃ m', FX12_qPartTold f m = some ((), m') ∧ OutP β E kd b fr G m' (0, .inr x, W, o) x.1 := by
  have hE := h.1.1.1
  unfold FX12_qPartTold
  exact q_partL hf hk 1601 f m x W o (by omega) (by omega) h
end
