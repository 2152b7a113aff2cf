/-! has -/
set_option maxRecDepth 100000 in
theorem bt_all : ∀ y, y < 256 → ∀ t, t < 8 → bt (Int32.ofNat y) t = if y.testBit t = true then 1 else 0 := by decide +kernel
def sm (g : Nat → Int32) : Nat → Int32
  | 0 => 0
  | t + 1 => sm g t + g t
theorem sm_congr {g h : Nat → Int32} {T : Nat} (e : ∀ t, t < T → g t = h t) : sm g T = sm h T := by
  induction T with
  | zero => rfl
  | succ T ih => unfold sm; rw [ih (fun t ht => e t (by omega)), e T (by omega)]
theorem sm_cnt (p : Nat → Bool) (T : Nat) : sm (fun t => if p t = true then 1 else 0) T = Int32.ofNat (cnt p T) := by
  induction T with
  | zero => rfl
  | succ T ih =>
    unfold sm cnt
    rw [ih]
    split
    · rw [s_1]
    · rw [Int32.add_zero, Nat.add_zero]
theorem r_summed {f T j : Nat} {m : ev_M} (hf : 9 ≤ f) (hT : m.1 112 36 = Int32.ofNat T) (h8 : T ≤ 8) (hj : j < 3) : FX12_summed f (Int32.ofNat j) m = some (sm (fun t => m.1 144 (2 + 3 * t + j)) T, m) := by
  unfold FX12_summed
  have : ∀ (q t n : Nat), t + q = T → q < n → FX12_summed_L4 f (fun e3 m4 => some (e3, m4)) (Int32.ofNat j) n (sm (fun t => m.1 144 (2 + 3 * t + j)) t) (Int32.ofNat t) m = some (sm (fun t => m.1 144 (2 + 3 * t + j)) T, m) := by
    intro q
    induction q with
    | zero =>
      intro t n h1 h2
      obtain ⟨n, rfl⟩ : ∃ q, n = q + 1 := ⟨n - 1, by omega⟩
      have : t = T := by omega
      subst this
      rw [FX12_summed_L4, r_tm hT, bd_some, if_pos ((n_le (by omega) (by omega)).mpr (Nat.le_refl _))]
    | succ q ih =>
      intro t n h1 h2
      obtain ⟨n, rfl⟩ : ∃ q, n = q + 1 := ⟨n - 1, by omega⟩
      rw [FX12_summed_L4, r_tm hT, bd_some, if_neg (fun z => by rw [n_le (by omega) (by omega)] at z; omega), ix0, n_add, if_pos ((n_in (by omega)).mpr (by omega)), n_nat (by omega), s_1]
      exact ih (t + 1) n (by omega) (by omega)
  exact this T 0 f (by omega) (by omega)
theorem c_moods {f T c : Nat} {m : ev_M} (hf : 9 ≤ f) (hc : c = 1 ∨ c = 7) (h0 : m.1 0 0 = Int32.ofNat c) (h5 : m.1 c 5 = Int32.ofNat T) (h8 : T ≤ 8) : FX11_moodsTogether f m = some (sm (m.1 104) T, m) := by
  unfold FX11_moodsTogether
  have hcn : (m.1 0 0).toNatClampNeg = c := by rw [h0, n_nat (by omega)]
  have : ∀ (q t n : Nat), t + q = T → q < n → FX11_moodsTogether_L4 f (fun e2 m3 => some (e2, m3)) n (sm (m.1 104) t) (Int32.ofNat t) m = some (sm (m.1 104) T, m) := by
    intro q
    induction q with
    | zero =>
      intro t n h1 h2
      obtain ⟨n, rfl⟩ : ∃ q, n = q + 1 := ⟨n - 1, by omega⟩
      have : t = T := by omega
      subst this
      rw [FX11_moodsTogether_L4, hcn, if_pos (isK1 hc), h5, if_pos ((n_le (by omega) (by omega)).mpr (Nat.le_refl _))]
    | succ q ih =>
      intro t n h1 h2
      obtain ⟨n, rfl⟩ : ∃ q, n = q + 1 := ⟨n - 1, by omega⟩
      rw [FX11_moodsTogether_L4, hcn, if_pos (isK1 hc), h5, if_neg (fun z => by rw [n_le (by omega) (by omega)] at z; omega), if_pos ((n_in (by omega)).mpr (by omega)), n_nat (by omega), s_1]
      exact ih (t + 1) n (by omega) (by omega)
  exact this T 0 f (by omega) (by omega)
theorem c_told {f c : Nat} {tb : Bool} {K : sp_K} {mc mm : ev_M} (h : CA c tb K mc mm) : FX11_isTold f mc = some (if tb = true then 1 else 0, mc) := by
  obtain ⟨k1, k2, k3, k4, k5, k6, k7, k8, k9, k10, k11, k12⟩ := h
  have hcn : (mc.1 0 0).toNatClampNeg = c := by rw [k2, n_nat (by omega)]
  unfold FX11_isTold
  rw [hcn, if_pos (isK1 k1)]
  rcases k11 with ⟨b1, b2, b3, b4, b5⟩ | ⟨b1, b2, b3, b4⟩
  · subst b1; rw [if_neg (by rw [i_le, e0']; omega), if_pos rfl]
  · subst b1; rw [b3, if_pos (by decide), if_neg (by decide)]
theorem r_told {c : Nat} {tb : Bool} {K : sp_K} {mc mm : ev_M} (h : CA c tb K mc mm) : mm.1 112 45 = if tb = true then 1 else 0 := by
  rcases h.2.2.2.2.2.2.2.2.2.2.1 with ⟨b1, b2, b3, b4, b5⟩ | ⟨b1, b2, b3, b4⟩
  · subst b1; exact b2
  · subst b1; exact b2
theorem B_has (f : Nat) (hf : 9 ≤ f) (a : Int32) : Both (FX11_has f a) (FX12_has f a) := Both_q (fun c tb K S kc mc mm h => by
  obtain ⟨a1, a2, a3, a4, a5, a6, a7, a8, a9, a10, a11, a12⟩ := h
  have k0 := a7
  obtain ⟨k1, k2, k3, k4, k5, k6, k7, krest⟩ := a7
  have hcn : (mc.1 0 0).toNatClampNeg = c := by rw [k2, n_nat (by omega)]
  unfold FX11_has FX12_has
  by_cases c0 : a = 0
  · rw [if_pos c0, if_pos c0, hcn, if_pos (isK1 k1), k6, r_tm k7, bd_some]
    exact ⟨_, mc, mm, rfl, rfl, frP_refl _ _, frP_refl _ _⟩
  rw [if_neg c0, if_neg c0]
  by_cases c1 : a = 1
  · rw [if_pos c1, if_pos c1, a8.1.1, a8.2.1.1]
    exact ⟨_, mc, mm, rfl, rfl, frP_refl _ _, frP_refl _ _⟩
  rw [if_neg c1, if_neg c1]
  by_cases c2 : a = 2
  · rw [if_pos c2, if_pos c2, c_told k0, bd_some, r_told k0]
    cases tb
    · exact ⟨-1, mc, mm, rfl, rfl, frP_refl _ _, frP_refl _ _⟩
    · refine ⟨S.2.1, mc, mm, ?_, ?_, frP_refl _ _, frP_refl _ _⟩
      · rw [← a8.1.2.1]; rfl
      · rw [← a8.2.1.2.1]; rfl
  rw [if_neg c2, if_neg c2]
  by_cases c3 : a = 3
  · obtain ⟨y, y1, y2⟩ := a8.2.2.2.2
    have hy : y < 256 := Nat.lt_of_lt_of_le y2 (Nat.pow_le_pow_right (by omega) k5 : 2 ^ K.1 ≤ 2 ^ 8)
    rw [if_pos c3, if_pos c3, y1, c_bits (by omega) y2, bd_some, show (2 : Int32) = Int32.ofNat 2 from rfl, r_summed hf k7 k5 (by omega), bd_some]
    refine ⟨_, mc, mm, rfl, ?_, frP_refl _ _, frP_refl _ _⟩
    rw [← sm_cnt, sm_congr (h := fun t => if y.testBit t = true then 1 else 0)]
    intro t ht
    rw [(a8.2.1.2.2 t ht).2.2, ← (a8.1.2.2 t (by omega)).2.2, y1, bt_all y hy t (by omega)]
  rw [if_neg c3, if_neg c3]
  by_cases c4 : a = 4
  · rw [if_pos c4, if_pos c4, c_moods hf k1 k2 k6 k5, bd_some, show (0 : Int32) = Int32.ofNat 0 from rfl, r_summed hf k7 k5 (by omega), bd_some]
    refine ⟨_, mc, mm, rfl, ?_, frP_refl _ _, frP_refl _ _⟩
    rw [sm_congr (h := mc.1 104)]
    intro t ht
    exact (a8.2.1.2.2 t ht).1.trans (a8.1.2.2 t (by omega)).1.symm
  rw [if_neg c4, if_neg c4]
  by_cases c5 : a = 5
  · rw [if_pos c5, if_pos c5, c_min, bd_some, kp_min (by have := a8.2.2.2.1; have := a9.1; omega) a9.2.1, a9.2.2.1]
    exact ⟨_, mc, mm, rfl, rfl, frP_refl _ _, frP_refl _ _⟩
  rw [if_neg c5, if_neg c5]
  by_cases c6 : a = 6
  · obtain ⟨r, q1, q2, q3, q4⟩ := a6
    rw [if_pos c6, if_pos c6, q2, q3]
    exact ⟨_, mc, mm, rfl, rfl, frP_refl _ _, frP_refl _ _⟩
  rw [if_neg c6, if_neg c6]
  by_cases c7 : a = 7
  · obtain ⟨nx, ct, u1, u2, u3, u4, u5, u6, u7⟩ := a10
    rw [if_pos c7, if_pos c7, u4, u6]
    exact ⟨_, mc, mm, rfl, rfl, frP_refl _ _, frP_refl _ _⟩
  rw [if_neg c7, if_neg c7]
  exact ⟨_, mc, mm, rfl, rfl, frP_refl _ _, frP_refl _ _⟩)
/-! letter -/
theorem b27_rng {g : Nat → Int32} {n : Nat} (h : ∀ k, k < n → 1 ≤ (g k).toInt ∧ (g k).toInt ≤ 26) (hn : n ≤ 6) : ∀ k, k ≤ n → 0 ≤ b27 g k ∧ b27 g k < 27 ^ k ∧ (0 < k → 1 ≤ b27 g k) := by
  intro k
  induction k with
  | zero => intro _; unfold b27; omega
  | succ k ih =>
    intro hk
    have := ih (by omega)
    have hg := h k (by omega)
    unfold b27
    rw [Int.pow_succ]
    omega
theorem j_div {a : Int64} (h : 0 ≤ a.toInt) : (a / 27).toInt = a.toInt / 27 := by
  have e : (27 : Int64).toInt = 27 := rfl
  rw [Int64.toInt_div_of_ne_right _ _ (by decide), e, Int.tdiv_eq_ediv_of_nonneg h]
theorem b27_div {g : Nat → Int32} {k : Nat} (h : 0 ≤ (g k).toInt ∧ (g k).toInt ≤ 26) : b27 g (k + 1) / 27 = b27 g k := by
  show (27 * b27 g k + (g k).toInt) / 27 = _
  omega
theorem r_letD {f n : Nat} {g : Nat → Int32} {kf : Int32 → ev_M → Option (Int32 × ev_M)} {m : ev_M} (h : ∀ k, k < n → 1 ≤ (g k).toInt ∧ (g k).toInt ≤ 26) (hn : n ≤ 6) : ∀ (j q : Nat) (v : Int64), v.toInt = b27 g j → j ≤ n → j < q → FX12_letter_L38 f kf q (Int32.ofNat (n - j)) v m = kf (Int32.ofNat n) m := by
  intro j
  induction j with
  | zero =>
    intro q v hv h1 h2
    obtain ⟨q, rfl⟩ : ∃ z, q = z + 1 := ⟨q - 1, by omega⟩
    rw [FX12_letter_L38, if_pos ((lg_le0 v 0).mpr (by rw [hv, j_0]; unfold b27; omega)), Nat.sub_zero]
  | succ j ih =>
    intro q v hv h1 h2
    obtain ⟨q, rfl⟩ : ∃ z, q = z + 1 := ⟨q - 1, by omega⟩
    have hr := b27_rng h hn (j + 1) h1
    have hg := h j (by omega)
    rw [FX12_letter_L38, if_neg (fun z => by have := (lg_le0 v 0).mp z; rw [hv, j_0] at this; omega), s_1, show n - (j + 1) + 1 = n - j by omega]
    exact ih q (v / 27) (by rw [j_div (by omega), hv, b27_div (by omega)]) (by omega) (by omega)
theorem r_letK {f k : Nat} {g : Nat → Int32} {n : Nat} {kf : Int64 → ev_M → Option (Int32 × ev_M)} {m : ev_M} (h : ∀ k, k < n → 1 ≤ (g k).toInt ∧ (g k).toInt ≤ 26) (hn : n ≤ 6) : ∀ (j q p : Nat) (v : Int64), q = k + j → q < n → v.toInt = b27 g (q + 1) → j < p → ∃ v' : Int64, FX12_letter_L73 f kf (Int32.ofNat k) p v (Int32.ofNat q) m = kf v' m ∧ v'.toInt = b27 g (k + 1) := by
  intro j
  induction j with
  | zero =>
    intro q p v h1 h2 h3 h4
    obtain ⟨p, rfl⟩ : ∃ z, p = z + 1 := ⟨p - 1, by omega⟩
    have : q = k := by omega
    subst this
    rw [FX12_letter_L73, if_pos ((n_le (by omega) (by omega)).mpr (Nat.le_refl _))]
    exact ⟨v, rfl, h3⟩
  | succ j ih =>
    intro q p v h1 h2 h3 h4
    obtain ⟨p, rfl⟩ : ∃ z, p = z + 1 := ⟨p - 1, by omega⟩
    have hr := b27_rng h hn (q + 1) (by omega)
    have hg := h q (by omega)
    rw [FX12_letter_L73, if_neg (fun z => by rw [n_le (by omega) (by omega)] at z; omega), n_pr (by omega)]
    exact ih (q - 1) p (v / 27) (by omega) (by omega) (by rw [j_div (by omega), h3, b27_div (by omega), show q - 1 + 1 = q by omega]) (by omega)
theorem p27 {k : Nat} (h : k < 6) : (27 : Int) ^ (k + 1) ≤ 27 ^ 6 := by
  have cs : k = 0 ∨ k = 1 ∨ k = 2 ∨ k = 3 ∨ k = 4 ∨ k = 5 := by omega
  rcases cs with q | q | q | q | q | q <;> subst q <;> decide
theorem B_letter (f : Nat) (hf : 9 ≤ f) (a b : Int32) : Both (FX11_letter f a b) (FX12_letter f a b) := Both_q (fun c tb K S kc mc mm h => by
  obtain ⟨a1, a2, a3, a4, a5, a6, a7, a8, a9, a10, a11, a12⟩ := h
  have k0 := a7
  obtain ⟨k1, k2, k3, k4, k5, k6, k7, k8, k9, k10, k11, k12⟩ := a7
  have hcn : (mc.1 0 0).toNatClampNeg = c := by rw [k2, n_nat (by omega)]
  have e5 : (5 : Int64).toInt = 5 := rfl
  have e6 : (6 : Int32).toInt = 6 := rfl
  unfold FX11_letter FX12_letter
  by_cases h1 : 0 ≤ a.toInt ∧ a.toInt < (K.1 : Int)
  rotate_left
  · rw [c_tow0 k1 k2 k6 k5 h1, r_tow0 k7 k5 h1, bd_some, bd_some, if_pos rfl, if_pos rfl]
    exact ⟨_, mc, mm, rfl, rfl, frP_refl _ _, frP_refl _ _⟩
  rw [c_tow1 k1 k2 k6 k5 h1, r_tow1 k7 k5 h1, bd_some, bd_some, if_neg (show ¬ (1 : Int32) = 0 by decide), if_neg (show ¬ (1 : Int32) = 0 by decide)]
  obtain ⟨t, rfl, n1, n2⟩ := n_ex (a := a) h1.1
  have ht : t < K.1 := by omega
  by_cases h2 : b < 0
  · rw [if_pos h2]
    rw [i_lt, e0'] at h2
    rw [r_in0 (by rw [j_wide, j_0, e5]; omega), bd_some, if_pos rfl]
    exact ⟨_, mc, mm, rfl, rfl, frP_refl _ _, frP_refl _ _⟩
  rw [if_neg h2]
  rw [i_lt, e0'] at h2
  by_cases h3 : b < 6
  rotate_left
  · rw [if_neg h3]
    rw [i_lt, e6] at h3
    rw [r_in0 (by rw [j_wide, j_0, e5]; omega), bd_some, if_pos rfl]
    exact ⟨_, mc, mm, rfl, rfl, frP_refl _ _, frP_refl _ _⟩
  rw [if_pos h3]
  rw [i_lt, e6] at h3
  rw [r_in1 (by rw [j_wide, j_0, e5]; omega), bd_some, if_neg (show ¬ (1 : Int32) = 0 by decide)]
  obtain ⟨k, rfl, m1, m2⟩ := n_ex (a := b) (by omega)
  have hk : k < 6 := by omega
  rw [hcn, if_pos (isK1 k1), show (6 : Int32) = Int32.ofNat 6 from rfl, show (8 : Int32) = Int32.ofNat 8 from rfl, n_mul, n_add, n_add, if_pos ((n_in (by omega)).mpr (by omega)), if_pos ((n_in (by omega)).mpr (by omega)), n_nat (by omega), n_nat (by omega)]
  obtain ⟨n, z1, z2, z3, z4, z5⟩ := k12 t ht
  have hg : mc.1 (c + 1) (t * 6 + k) = mc.1 (c + 1) (6 * t + k) := by rw [Nat.mul_comm t 6]
  rw [hg]
  have := @r_letD f n (fun k => mc.1 (c + 1) (6 * t + k)) (fun e5 m6 => (if Int32.ofNat k < e5 then (FX12_letter_L73 f (fun e7 m8 => some (((e7 - e7 / 27 * 27) : Int64).toInt32, m8)) (Int32.ofNat k) f (mm.2 138 (8 + t)) (e5 - 1) m6) else some (0, m6))) mm z3 z2 n f (mm.2 138 (8 + t)) z5 (by omega) (by omega)
  rw [Nat.sub_self] at this
  rw [show (0 : Int32) = Int32.ofNat 0 from rfl] at this ⊢
  rw [this]
  by_cases hkn : k < n
  · rw [if_pos ((n_lt (by omega) (by omega)).mpr hkn), show Int32.ofNat n - 1 = Int32.ofNat (n - 1) from by rw [show (1 : Int32) = Int32.ofNat 1 from rfl, n_sub (by omega)]]
    obtain ⟨v', w1, w2⟩ := @r_letK f k (fun k => mc.1 (c + 1) (6 * t + k)) n (fun e7 m8 => some (((e7 - e7 / 27 * 27) : Int64).toInt32, m8)) mm z3 z2 (n - 1 - k) (n - 1) f (mm.2 138 (8 + t)) (by omega) (by omega) (by rw [z5, show n - 1 + 1 = n by omega]) (by omega)
    rw [w1]
    have hgk : 1 ≤ (mc.1 (c + 1) (6 * t + k)).toInt ∧ (mc.1 (c + 1) (6 * t + k)).toInt ≤ 26 := z3 k hkn
    have hr := b27_rng z3 z2 (k + 1) (by omega)
    have hr2 : (27 : Int) ^ (k + 1) ≤ 27 ^ 6 := p27 hk
    have e27 : (27 : Int64).toInt = 27 := rfl
    have q1 : (v' / 27).toInt = v'.toInt / 27 := j_div (by omega)
    have q2 : (v' / 27 * 27).toInt = v'.toInt / 27 * 27 := by rw [j_mul (by rw [q1, e27]; omega) (by rw [q1, e27]; omega), q1, e27]
    have q3 : (v' - v' / 27 * 27).toInt = v'.toInt - v'.toInt / 27 * 27 := by rw [j_sub (by rw [q2]; omega) (by rw [q2]; omega), q2]
    have q4 : v'.toInt - v'.toInt / 27 * 27 = (mc.1 (c + 1) (6 * t + k)).toInt := by
      rw [w2, b27_div (k := k) ⟨by show 0 ≤ (mc.1 (c + 1) (6 * t + k)).toInt; omega, hgk.2⟩]
      show (27 * b27 _ k + (mc.1 (c + 1) (6 * t + k)).toInt) - b27 _ k * 27 = _
      omega
    refine ⟨_, mc, mm, rfl, ?_, frP_refl _ _, frP_refl _ _⟩
    show some ((v' - v' / 27 * 27).toInt32, mm) = _
    rw [show (v' - v' / 27 * 27).toInt32 = mc.1 (c + 1) (6 * t + k) from by rw [i_eq, j_cast (by rw [q3, q4]; omega) (by rw [q3, q4]; omega), q3, q4]]
  · rw [if_neg (fun q => hkn ((n_lt (by omega) (by omega)).mp q))]
    have := z4 k (by omega) hk
    simp only [] at this
    rw [this]
    exact ⟨_, mc, mm, rfl, rfl, frP_refl _ _, frP_refl _ _⟩)
