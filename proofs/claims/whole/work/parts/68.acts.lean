/-! cheer, yes, change, undo -/
theorem r_refd {f : Nat} {m : ev_M} : (ev_bd (FX12_isRefused f m) (fun r3 m4 => (if r3 = 0 ∨ r3 = 1 then some (r3, m4) else none))) = some ((0 : Int32), ((ev_up m.1 114 2 (m.1 114 2 + 1), m.2) : ev_M)) := by
  unfold FX12_isRefused
  rw [bd_some, if_pos (Or.inl rfl)]
theorem c_refd {f : Nat} {m : ev_M} : (ev_bd (FX11_refuse f (2 : Int32) m) (fun r3 m4 => (if r3 = 0 ∨ r3 = 1 then some (r3, m4) else none))) = some ((0 : Int32), ((ev_up m.1 109 2 (m.1 109 2 + 1), m.2) : ev_M)) := by
  rw [show FX11_refuse f 2 m = some (0, (ev_up m.1 109 2 (m.1 109 2 + 1), m.2)) from c_refuse (i := 2) (by omega), bd_some, if_pos (Or.inl rfl)]
theorem KP_S {mc : ev_M} {o : Nat} {g : Nat → Int32} {kc : Nat} {S S' : sp_S} (h : KP mc o g kc S) (e : S'.1 = S.1) : KP mc o g kc S' := by
  obtain ⟨a, b, c, d⟩ := h
  exact ⟨by rw [e]; exact a, b, c, d⟩
theorem B_cheer (f : Nat) (hf : 4000 ≤ f) (a b : Int32) : Both (FX11_cheer f a b) (FX12_cheer f a b) := by
  intro mc mm hS
  obtain ⟨c, tb, K, S, kc, h⟩ := hS
  have hh := h
  obtain ⟨a1, a2, a3, a4, a5, a6, a7, a8, a9, a10, a11, a12⟩ := h
  obtain ⟨k1, k2, k3, k4, k5, k6, k7, krest⟩ := a7
  have j_9 : (9 : Int64).toInt = 9 := rfl
  have e9' : (9 : Int32).toInt = 9 := rfl
  unfold FX11_cheer FX12_cheer FX11_cheer_J31 FX12_cheer_J29
  by_cases h1 : 0 ≤ a.toInt ∧ a.toInt < (K.1 : Int)
  rotate_left
  · rw [c_tow0 k1 k2 k6 k5 h1, r_tow0 k7 k5 h1, bd_some, bd_some, if_pos rfl, if_pos rfl, c_refd, r_refd]
    exact ⟨_, _, _, rfl, rfl, c, tb, K, S, kc, SimW_ref hh (by omega)⟩
  rw [c_tow1 k1 k2 k6 k5 h1, r_tow1 k7 k5 h1, bd_some, bd_some, if_neg n10, if_neg n10]
  obtain ⟨t, rfl, n1, n2⟩ := n_ex (a := a) h1.1
  by_cases h2 : b < 0
  · rw [if_pos h2]
    rw [i_lt, e0'] at h2
    rw [r_in0 (by rw [j_wide, j_0, j_9]; omega), bd_some, if_pos rfl, c_refd, r_refd]
    exact ⟨_, _, _, rfl, rfl, c, tb, K, S, kc, SimW_ref hh (by omega)⟩
  rw [if_neg h2]
  rw [i_lt, e0'] at h2
  by_cases h3 : 9 < b
  · rw [if_pos h3]
    rw [i_lt, e9'] at h3
    rw [r_in0 (by rw [j_wide, j_0, j_9]; omega), bd_some, if_pos rfl, c_refd, r_refd]
    exact ⟨_, _, _, rfl, rfl, c, tb, K, S, kc, SimW_ref hh (by omega)⟩
  rw [if_neg h3]
  rw [i_lt, e9'] at h3
  have ht : t < K.1 := by omega
  have q1 : mc.1 105 (Int32.ofNat t).toNatClampNeg = S.2.2.2.1 t := by rw [n_nat (by omega)]; exact (a8.1.2.2 t (by omega)).2.1
  have q2 := (a8.2.1.2.2 t ht).2.1
  rw [r_in1 (by rw [j_wide, j_0, j_9]; omega), bd_some, if_neg n10, if_pos ((n_in (by omega)).mpr (by omega)), r_cheer (by omega), bd_some]
  by_cases h4 : S.2.2.2.1 t = b
  · rw [if_pos (q1.trans h4), if_pos (q2.trans h4), c_refd, r_refd]
    exact ⟨_, _, _, rfl, rfl, c, tb, K, S, kc, SimW_ref hh (by omega)⟩
  rw [if_neg (fun z => h4 (q1.symm.trans z)), if_neg (fun z => h4 (q2.symm.trans z))]
  obtain ⟨mc', mm', c1, d1, hW, fc, fm⟩ := B_keep hf hh
  rw [c1, bd_some, d1, bd_some, if_pos ((n_in (by omega)).mpr (by omega)), ix1, if_pos ((n_in (by omega)).mpr (by omega)), n_nat (by omega), n_nat (by omega)]
  refine ⟨_, _, _, rfl, rfl, c, tb, K, (S.1, S.2.1, S.2.2.1, sp_up S.2.2.2.1 t b, S.2.2.2.2), kc, ?_⟩
  have hW2 := hW
  obtain ⟨b1, b2, b3, b4, b5, b6, b7, b8, b9, b10, b11, b12⟩ := hW
  obtain ⟨s1, s2, s3, s4, y, s5, s6⟩ := b8
  refine SimW_b hW2 (fr_one (by unfold relC2; omega)) (fr_one (by unfold relM2; omega)) (Nat.le_refl _) b4 ⟨⟨?_, ?_, fun i hi => ⟨?_, ?_, ?_⟩⟩, ⟨?_, ?_, fun i hi => ⟨?_, ?_, ?_⟩⟩, ⟨s3.1, s3.2.1, fun i hi => ⟨(s3.2.2 i hi).1, ?_, (s3.2.2 i hi).2.2⟩⟩, s4, y, ?_, s6⟩ (KP_S (KP_cp b9 ?_ (fun k _ => ?_) (fun k z1 z2 => ?_)) rfl) ?_ ?_
  · rw [upI_na _ _ _ _ (by decide)]; exact s1.1
  · rw [upI_na _ _ _ _ (by decide)]; exact s1.2.1
  · rw [upI_na _ _ _ _ (by decide)]; exact (s1.2.2 i hi).1
  · show ev_up mc'.1 105 t b 105 i = sp_up S.2.2.2.1 t b i
    rw [ev_up_at]
    unfold sp_up
    by_cases e : i = t
    · rw [if_pos e, if_pos e]
    · rw [if_neg e, if_neg e]; exact (s1.2.2 i hi).2.1
  · rw [upI_na _ _ _ _ (by decide)]; exact (s1.2.2 i hi).2.2
  · rw [upI_nk _ _ _ _ (by omega)]; exact s2.1
  · rw [upI_nk _ _ _ _ (by omega)]; exact s2.2.1
  · rw [upI_nk _ _ _ _ (by omega)]; exact (s2.2.2 i hi).1
  · show ev_up mm'.1 144 (2 + 3 * t + 1) b 144 (2 + 3 * i + 1) = sp_up S.2.2.2.1 t b i
    rw [ev_up_at]
    unfold sp_up
    by_cases e : i = t
    · rw [if_pos (by omega), if_pos e]
    · rw [if_neg (by omega), if_neg e]; exact (s2.2.2 i hi).2.1
  · rw [upI_nk _ _ _ _ (by omega)]; exact (s2.2.2 i hi).2.2
  · show g9 (sp_up S.2.2.2.1 t b i)
    unfold sp_up
    split
    · exact ⟨by omega, by omega⟩
    · exact (s3.2.2 i hi).2.1
  · rw [upI_na _ _ _ _ (by decide)]; exact s5
  · rw [upI_na _ _ _ _ (by decide)]
  · rw [upI_na _ _ _ _ (by decide)]
  · rw [upI_nk _ _ _ _ (by omega)]
  · rw [upI_na _ _ _ _ (by decide)]; exact b11
  · rw [upI_na _ _ _ _ (by decide)]; exact b12
set_option maxRecDepth 100000 in
theorem btx_all : ∀ t, t < 8 → ∀ i, i < 8 → ∀ y, y < 256 → bt (Int32.ofNat y ^^^ ((1 : Int32) <<< (Int32.ofNat t &&& 31))) i = if i = t then 1 - bt (Int32.ofNat y) i else bt (Int32.ofNat y) i := by decide +kernel
set_option maxRecDepth 100000 in
theorem xor_all : ∀ t, t < 8 → ∀ y, y < 256 → (Int32.ofNat y ^^^ ((1 : Int32) <<< (Int32.ofNat t &&& 31))) = Int32.ofNat (y ^^^ 2 ^ t) := by decide +kernel
theorem B_yes (f : Nat) (hf : 4000 ≤ f) (a b : Int32) : Both (FX11_yes f a b) (FX12_yes f a b) := by
  intro mc mm hS
  obtain ⟨c, tb, K, S, kc, h⟩ := hS
  have hh := h
  obtain ⟨a1, a2, a3, a4, a5, a6, a7, a8, a9, a10, a11, a12⟩ := h
  obtain ⟨k1, k2, k3, k4, k5, k6, k7, krest⟩ := a7
  unfold FX11_yes FX12_yes FX11_yes_J32 FX12_yes_J34
  by_cases h1 : 0 ≤ a.toInt ∧ a.toInt < (K.1 : Int)
  rotate_left
  · rw [c_tow0 k1 k2 k6 k5 h1, r_tow0 k7 k5 h1, bd_some, bd_some, if_pos rfl, if_pos rfl, c_refd, r_refd]
    exact ⟨_, _, _, rfl, rfl, c, tb, K, S, kc, SimW_ref hh (by omega)⟩
  rw [c_tow1 k1 k2 k6 k5 h1, r_tow1 k7 k5 h1, bd_some, bd_some, if_neg n10, if_neg n10]
  obtain ⟨t, rfl, n1, n2⟩ := n_ex (a := a) h1.1
  by_cases h2 : b < 0
  · rw [if_pos h2]
    rw [i_lt, e0'] at h2
    rw [r_in0 (by rw [j_wide, j_0, j_1]; omega), bd_some, if_pos rfl, c_refd, r_refd]
    exact ⟨_, _, _, rfl, rfl, c, tb, K, S, kc, SimW_ref hh (by omega)⟩
  rw [if_neg h2]
  rw [i_lt, e0'] at h2
  by_cases h3 : 1 < b
  · rw [if_pos h3]
    rw [i_lt, e1'] at h3
    rw [r_in0 (by rw [j_wide, j_0, j_1]; omega), bd_some, if_pos rfl, c_refd, r_refd]
    exact ⟨_, _, _, rfl, rfl, c, tb, K, S, kc, SimW_ref hh (by omega)⟩
  rw [if_neg h3]
  rw [i_lt, e1'] at h3
  have ht : t < K.1 := by omega
  have q1 : bt (mc.1 103 4) t = S.2.2.2.2 t := (a8.1.2.2 t (by omega)).2.2
  have q1' : (((mc.1 103 4) >>> (Int32.ofNat t &&& 31)) &&& 1) = S.2.2.2.2 t := q1
  have q2 : mm.1 144 (Int32.ofNat (2 + 3 * t + 2)).toNatClampNeg = S.2.2.2.2 t := by rw [n_nat (by omega)]; exact (a8.2.1.2.2 t ht).2.2
  rw [r_in1 (by rw [j_wide, j_0, j_1]; omega), bd_some, if_neg n10, ix2, if_pos ((n_in (by omega)).mpr (by omega))]
  by_cases h4 : S.2.2.2.2 t = b
  · rw [if_pos (q1'.trans h4), if_pos (q2.trans h4), c_refd, r_refd]
    exact ⟨_, _, _, rfl, rfl, c, tb, K, S, kc, SimW_ref hh (by omega)⟩
  rw [if_neg (fun z => h4 (q1'.symm.trans z)), if_neg (fun z => h4 (q2.symm.trans z))]
  obtain ⟨mc', mm', c1, d1, hW, fc, fm⟩ := B_keep hf hh
  rw [c1, bd_some, d1, bd_some, if_pos ((n_in (by omega)).mpr (by omega)), n_nat (by omega)]
  refine ⟨_, _, _, rfl, rfl, c, tb, K, (S.1, S.2.1, S.2.2.1, S.2.2.2.1, sp_up S.2.2.2.2 t b), kc, ?_⟩
  have hW2 := hW
  obtain ⟨b1, b2, b3, b4, b5, b6, b7, b8, b9, b10, b11, b12⟩ := hW
  obtain ⟨s1, s2, s3, s4, y, s5, s6⟩ := b8
  have hy8 : y < 256 := Nat.lt_of_lt_of_le s6 (p2_le k5)
  have hb01 : b = 0 ∨ b = 1 := by
    rw [i_eq, i_eq, e0', e1']; omega
  have hs01 := (s3.2.2 t (by omega)).2.2
  have hfl : (1 : Int32) - S.2.2.2.2 t = b := by
    rcases hs01 with z | z <;> rcases hb01 with z' | z' <;> rw [z, z'] <;> first | rfl | (exfalso; exact h4 (by rw [z, z']))
  refine SimW_b hW2 (fr_one (by unfold relC2; omega)) (fr_one (by unfold relM2; omega)) (Nat.le_refl _) b4 ⟨⟨?_, ?_, fun i hi => ⟨?_, ?_, ?_⟩⟩, ⟨?_, ?_, fun i hi => ⟨?_, ?_, ?_⟩⟩, ⟨s3.1, s3.2.1, fun i hi => ⟨(s3.2.2 i hi).1, (s3.2.2 i hi).2.1, ?_⟩⟩, s4, y ^^^ 2 ^ t, ?_, ?_⟩ (KP_S (KP_cp b9 ?_ (fun k _ => ?_) (fun k z1 z2 => ?_)) rfl) ?_ ?_
  · rw [upI_nk _ _ _ _ (by decide)]; exact s1.1
  · rw [upI_nk _ _ _ _ (by decide)]; exact s1.2.1
  · rw [upI_na _ _ _ _ (by decide)]; exact (s1.2.2 i hi).1
  · rw [upI_na _ _ _ _ (by decide)]; exact (s1.2.2 i hi).2.1
  · rw [upI_at, s5, btx_all t (by omega) i hi y hy8]
    show _ = sp_up S.2.2.2.2 t b i
    unfold sp_up
    have e0 : bt (Int32.ofNat y) i = S.2.2.2.2 i := by rw [← s5]; exact (s1.2.2 i hi).2.2
    by_cases e : i = t
    · rw [if_pos e, if_pos e, e0, e]; exact hfl
    · rw [if_neg e, if_neg e]; exact e0
  · rw [upI_nk _ _ _ _ (by omega)]; exact s2.1
  · rw [upI_nk _ _ _ _ (by omega)]; exact s2.2.1
  · rw [upI_nk _ _ _ _ (by omega)]; exact (s2.2.2 i hi).1
  · rw [upI_nk _ _ _ _ (by omega)]; exact (s2.2.2 i hi).2.1
  · show ev_up mm'.1 144 (2 + 3 * t + 2) b 144 (2 + 3 * i + 2) = sp_up S.2.2.2.2 t b i
    rw [ev_up_at]
    unfold sp_up
    by_cases e : i = t
    · rw [if_pos (by omega), if_pos e]
    · rw [if_neg (by omega), if_neg e]; exact (s2.2.2 i hi).2.2
  · show sp_up S.2.2.2.2 t b i = 0 ∨ sp_up S.2.2.2.2 t b i = 1
    unfold sp_up
    split
    · exact hb01
    · exact (s3.2.2 i hi).2.2
  · rw [upI_at, s5, xor_all t (by omega) y hy8]
  · exact Nat.xor_lt_two_pow s6 (Nat.pow_lt_pow_right (by omega) ht)
  · rw [upI_nk _ _ _ _ (by decide)]
  · rw [upI_na _ _ _ _ (by decide)]
  · rw [upI_nk _ _ _ _ (by omega)]
  · rw [upI_na _ _ _ _ (by decide)]; exact b11
  · rw [upI_na _ _ _ _ (by decide)]; exact b12
theorem B_change (f : Nat) (hf : 4000 ≤ f) (a b : Int32) : Both (FX11_change f a b) (FX12_change f a b) := by
  intro mc mm hS
  obtain ⟨c, tb, K, S, kc, h⟩ := hS
  have hh := h
  obtain ⟨a1, a2, a3, a4, a5, a6, a7, a8, a9, a10, a11, a12⟩ := h
  obtain ⟨k1, k2, k3, k4, k5, k6, k7, krest⟩ := a7
  unfold FX11_change FX12_change FX11_change_J21 FX12_change_J21
  by_cases h1 : 0 ≤ a.toInt ∧ a.toInt < (K.1 : Int)
  rotate_left
  · rw [c_tow0 k1 k2 k6 k5 h1, r_tow0 k7 k5 h1, bd_some, bd_some, if_pos rfl, if_pos rfl, c_refd, r_refd]
    exact ⟨_, _, _, rfl, rfl, c, tb, K, S, kc, SimW_ref hh (by omega)⟩
  rw [c_tow1 k1 k2 k6 k5 h1, r_tow1 k7 k5 h1, bd_some, bd_some, if_neg n10, if_neg n10]
  obtain ⟨t, rfl, n1, n2⟩ := n_ex (a := a) h1.1
  by_cases h2 : 0 ≤ b.toInt ∧ b.toInt < (K.1 : Int)
  rotate_left
  · rw [c_tow0 k1 k2 k6 k5 h2, r_tow0 k7 k5 h2, bd_some, bd_some, if_pos rfl, if_pos rfl, c_refd, r_refd]
    exact ⟨_, _, _, rfl, rfl, c, tb, K, S, kc, SimW_ref hh (by omega)⟩
  rw [c_tow1 k1 k2 k6 k5 h2, r_tow1 k7 k5 h2, bd_some, bd_some, if_neg n10, if_neg n10]
  obtain ⟨u, rfl, n3, n4⟩ := n_ex (a := b) h2.1
  by_cases h3 : Int32.ofNat t = Int32.ofNat u
  · rw [if_pos h3, if_pos h3, c_refd, r_refd]
    exact ⟨_, _, _, rfl, rfl, c, tb, K, S, kc, SimW_ref hh (by omega)⟩
  rw [if_neg h3, if_neg h3]
  have htu : t ≠ u := fun e => h3 (by rw [e])
  obtain ⟨mc', mm', c1, d1, hW, fc, fm⟩ := B_keep hf hh
  have hW2 := hW
  obtain ⟨b1, b2, b3, b4, b5, b6, b7, b8, b9, b10, b11, b12⟩ := hW
  obtain ⟨s1, s2, s3, s4, y, s5, s6⟩ := b8
  obtain ⟨mc2, x1, x2, x3, x4, x5⟩ := @c_swap f 103 t u mc' S (by omega) (by omega) s1
  obtain ⟨mm2, y1, y2, y3, y4⟩ := @r_chg f t u mm' (by omega) (by omega) (by omega) htu
  rw [c1, bd_some, d1, bd_some, x1, bd_some, y1, bd_some]
  refine ⟨_, _, _, rfl, rfl, c, tb, K, swS t u S, kc, ?_⟩
  refine SimW_b hW2 (fun p q z => ⟨x5 p q (by unfold relC2 at z; omega) (by unfold relC2 at z; omega), by rw [x3]⟩) (fun p q z => ⟨by rw [y3 p z.2.1], by rw [y2]⟩) (Nat.le_refl _) (SD_b (kc := 0) b4 (by rw [x3]) (by rw [y2])) ⟨x2, ?_, swS_rg (by omega) (by omega) s3, s4, y, (x4 4).trans s5, s6⟩ (KP_S (KP_cp b9 (x4 5) (fun k _ => x5 _ _ (by decide) (by decide)) (fun k z1 z2 => ?_)) rfl) ?_ ?_
  · rw [y4]; exact RS_sw (by omega) (by omega) s2
  · rw [y4, swR_hi (by omega) (by omega) z1]
  · rw [y3 112 (by decide)]; exact b11
  · rw [y3 112 (by decide)]; exact b12
/-- both bring back -/
theorem r_undoL {f N : Nat} {M : ev_M} {kf : ev_M → Option (Int32 × ev_M)} (hN : N < 20) (hM : M.1 112 65 = Int32.ofNat N) : ∀ (j i n : Nat) (m1 : ev_M), i + j = 147 → j < n → (∀ a, a ≠ 144 → m1.1 a = M.1 a) → (∀ k, k < i → m1.1 144 k = M.1 151 (147 * N + k)) → ∃ m', FX12_undo_L21 f kf n (Int32.ofNat i) m1 = kf m' ∧ (∀ a, a ≠ 144 → m'.1 a = M.1 a) ∧ (∀ k, k < 147 → m'.1 144 k = M.1 151 (147 * N + k)) := by
  have e147 : (147 : Int32) = Int32.ofNat 147 := rfl
  intro j
  induction j with
  | zero =>
    intro i n m1 h1 h2 q2 q3
    obtain ⟨n, rfl⟩ : ∃ z, n = z + 1 := ⟨n - 1, by omega⟩
    have : i = 147 := by omega
    subst this
    rw [FX12_undo_L21, if_pos (by decide)]
    exact ⟨m1, rfl, q2, q3⟩
  | succ j ih =>
    intro i n m1 h1 h2 q2 q3
    obtain ⟨n, rfl⟩ : ∃ z, n = z + 1 := ⟨n - 1, by omega⟩
    rw [FX12_undo_L21, if_neg (fun z => by rw [e147, n_le (by omega) (by omega)] at z; omega), q2 112 (by decide), hM, e147, n_mul, n_add, if_pos ((n_in (by omega)).mpr (by omega)), if_pos ((n_in (by omega)).mpr (by omega)), n_nat (by omega), n_nat (by omega), s_1]
    refine ih (i + 1) n _ (by omega) (by omega) (fun a ha => (upI_na _ _ _ _ ha).trans (q2 a ha)) (fun k hk => ?_)
    by_cases e : k = i
    · rw [e, upI_at, q2 151 (by decide)]
    · rw [upI_nk _ _ _ _ e]; exact q3 k (by omega)
theorem B_undo (f : Nat) (hf : 4000 ≤ f) : Both (FX11_undo f) (FX12_undo f) := by
  intro mc mm hS
  obtain ⟨c, tb, K, S, kc, h⟩ := hS
  have hh := h
  obtain ⟨a1, a2, a3, a4, a5, a6, a7, a8, a9, a10, a11, a12⟩ := h
  obtain ⟨nx, ct, u1, u2, u3, u4, u5, u6, kcs, u7, u8, u9⟩ := a10
  have hT := a7.2.2.2.2.1
  unfold FX11_undo FX12_undo FX6_bringBack
  rw [u4, u6]
  by_cases z : ct = 0
  · subst z
    rw [if_pos z0, if_pos z0, bd_some, if_pos rfl, show FX11_refuse f 4 mc = some (0, (ev_up mc.1 109 4 (mc.1 109 4 + 1), mc.2)) from c_refuse (i := 4) (by omega), bd_some, if_pos rfl]
    exact ⟨_, _, _, rfl, rfl, c, tb, K, S, kc, SimW_ref hh (by omega)⟩
  rw [if_neg (fun y => z ((n_z (by omega)).mp y)), if_neg (fun y => z ((n_z (by omega)).mp y)), u3, p20_all nx u1, if_pos ((n_in (by omega)).mpr (by omega)), n_nat (by omega)]
  generalize hP : (nx + 19) % 20 = P
  have hP20 : P < 20 := by omega
  have es : Int32.ofNat ct - 1 = Int32.ofNat (ct - 1) := by rw [show (1 : Int32) = Int32.ofNat 1 from rfl, n_sub (by omega)]
  generalize hM : ((ev_up (ev_up mc.1 40 3 (Int32.ofNat ct - 1)) 40 2 (Int32.ofNat P), mc.2) : ev_M) = M
  have gM : ∀ a, a ≠ 40 → M.1 a = mc.1 a := fun a ha => by rw [← hM, upI_na _ _ _ _ ha, ev_up_ne _ _ _ ha]
  have gM2 : M.1 40 2 = Int32.ofNat P := by rw [← hM, upI_at]
  have gM3 : M.1 40 3 = Int32.ofNat (ct - 1) := by rw [← hM, upI_nk _ _ _ _ (by decide), up_at, es]
  have gM4 : M.2 = mc.2 := by rw [← hM]
  obtain ⟨mc', r1, r2, r3, r4⟩ := @c_copy f 103 (43 + 3 * P) M (by omega) (by omega)
  have md := MDX8_copy r1
  have g : ∀ a k, a ≠ 103 → a ≠ 104 → a ≠ 105 → mc'.1 a k = M.1 a k := fun a k z1 z2 z3 => (md a k (by unfold mdX8_copy; omega)).1
  rw [r1, bd_some, bd_some, if_neg n10]
  obtain ⟨m1, s1, s2, s3⟩ := @r_undoL f nx mm (fun m1 => some (1, ((ev_up (ev_up m1.1 112 65 ((((m1.1 112 65) + 20) - 1) - (((m1.1 112 65) + 20) - 1) / 20 * 20)) 112 64 ((m1.1 112 64) - 1)), m1.2))) u1 u5 147 0 f mm (by omega) (by omega) (fun _ _ => rfl) (fun k hk => by omega)
  rw [z0] at s1
  rw [s1]
  obtain ⟨S', v1, v2⟩ := u9 0 (by omega)
  have s39 : (nx + 39 - 0) % 20 = P := by omega
  have s40 : (nx + 40 - 0) % 20 = nx := by omega
  rw [s39, s40] at v1 v2
  have e65 : m1.1 112 65 = Int32.ofNat nx := by rw [s2 112 (by decide)]; exact u5
  have e64 : m1.1 112 64 = Int32.ofNat ct := by rw [s2 112 (by decide)]; exact u6
  simp only [e65, e64, p20_all nx u1, hP, es]
  have md2 : frP (fun a k => ¬ mdX12_undo a k) mm (ev_up (ev_up m1.1 112 65 (Int32.ofNat P)) 112 64 (Int32.ofNat (ct - 1)), m1.2) := by
    refine @MDX12_undo f mm _ 1 ?_
    unfold FX12_undo
    rw [u6, if_neg (fun y => z ((n_z (by omega)).mp y)), s1]
    simp only [e65, e64, p20_all nx u1, hP, es]
  generalize hM' : ((ev_up (ev_up m1.1 112 65 (Int32.ofNat P)) 112 64 (Int32.ofNat (ct - 1)), m1.2) : ev_M) = mm' at md2 ⊢
  have f144 : ∀ k, k < 147 → mm'.1 144 k = mm.1 151 (147 * nx + k) := fun k hk => by
    rw [← hM', upI_na _ _ _ _ (by decide), ev_up_ne _ _ _ (by decide)]; exact s3 k hk
  have f65 : mm'.1 112 65 = Int32.ofNat P := by rw [← hM', upI_nk _ _ _ _ (by decide), up_at]
  have f64 : mm'.1 112 64 = Int32.ofNat (ct - 1) := by rw [← hM', upI_at]
  have C : ∀ a k, a ≠ 40 → a ≠ 103 → a ≠ 104 → a ≠ 105 → mc'.1 a k = mc.1 a k := fun a k z1 z2 z3 z4 => (g a k z2 z3 z4).trans (by rw [gM a z1])
  have Mf : ∀ a k, ¬ mdX12_undo a k → mm'.1 a k = mm.1 a k := fun a k q => (md2 a k q).1
  refine ⟨_, _, _, rfl, rfl, c, tb, K, S', kcs 0, ?_⟩
  refine ⟨TP_fr (C _ _ (by omega) (by omega) (by omega) (by omega)) (fun i => C _ _ (by omega) (by omega) (by omega) (by omega)) (Mf _ _ (by unfold mdX12_undo; omega)) (fun i => Mf _ _ (by unfold mdX12_undo; omega)) a1, ?_, ?_, ?_, PC_fr (C _ _ (by omega) (by omega) (by omega) (by omega)) (fun i => C _ _ (by omega) (by omega) (by omega) (by omega)) (Mf _ _ (by unfold mdX12_undo; omega)) (fun i => Mf _ _ (by unfold mdX12_undo; omega)) a5, SE_fr (C _ _ (by omega) (by omega) (by omega) (by omega)) (fun i => C _ _ (by omega) (by omega) (by omega) (by omega)) (Mf _ _ (by unfold mdX12_undo; omega)) (fun i => Mf _ _ (by unfold mdX12_undo; omega)) a6, ?_, ?_, ?_, ?_, ?_, ?_⟩
  · intro i hi
    rw [C _ _ (by omega) (by omega) (by omega) (by omega), ← hM', upI_na _ _ _ _ (by decide), ev_up_ne _ _ _ (by decide), s2 114 (by decide)]; exact a2 i hi
  · exact ⟨by rw [C _ _ (by omega) (by omega) (by omega) (by omega), Mf _ _ (by unfold mdX12_undo; omega)]; exact a3.1, by rw [C _ _ (by omega) (by omega) (by omega) (by omega), Mf _ _ (by unfold mdX12_undo; omega)]; exact a3.2⟩
  · unfold SD
    rw [(md 0 17 (by unfold mdX8_copy; omega)).2, gM4, (md2 112 66 (by unfold mdX12_undo; omega)).2]; exact a4
  · exact CA_fr (C _ _ (by omega) (by omega) (by omega) (by omega)) (C _ _ (by omega) (by omega) (by omega) (by omega)) (C _ _ (by omega) (by omega) (by omega) (by omega)) (fun a k _ _ => C _ _ (by omega) (by omega) (by omega) (by omega)) (Mf _ _ (by unfold mdX12_undo; omega)) (Mf _ _ (by unfold mdX12_undo; omega)) (fun a k _ _ => Mf _ _ (by unfold mdX12_undo; omega)) (fun k => (md2 _ _ (by unfold mdX12_undo; omega)).2) a7
  · exact ST_cp hT v1 (fun k k1 k2 => by rw [r2 k k1 k2, gM _ (by omega)]) (fun i hi => by rw [r3 i hi, gM _ (by omega)]) (fun i hi => by rw [r4 i hi, gM _ (by omega)]) (fun k hk => f144 k (by omega))
  · exact KP_cp v2 (by rw [r2 5 (by omega) (by omega), gM _ (by omega)]) (fun k _ => C _ _ (by omega) (by omega) (by omega) (by omega)) (fun k _ hk => f144 k hk)
  · refine ⟨P, ct - 1, hP20, by omega, ?_, ?_, f65, f64, fun i => kcs (i + 1), fun i hi => u8 0 (i + 1) (by omega) (by omega), fun i j hij hj => u8 (i + 1) (j + 1) (by omega) (by omega), fun i hi => ?_⟩
    · rw [g _ _ (by decide) (by decide) (by decide)]; exact gM2
    · rw [g _ _ (by decide) (by decide) (by decide)]; exact gM3
    · obtain ⟨S'', w1, w2⟩ := u9 (i + 1) (by omega)
      have t1 : (P + 39 - i) % 20 = (nx + 39 - (i + 1)) % 20 := by omega
      have t2 : (P + 40 - i) % 20 = (nx + 40 - (i + 1)) % 20 := by omega
      have t3 : (nx + 39 - (i + 1)) % 20 < 20 := by omega
      rw [t1, t2]
      generalize (nx + 39 - (i + 1)) % 20 = s at *
      generalize (nx + 40 - (i + 1)) % 20 = s' at *
      refine ⟨S'', ST_fr hT (fun k => C _ _ (by omega) (by omega) (by omega) (by omega)) (fun k => C _ _ (by omega) (by omega) (by omega) (by omega)) (fun k => C _ _ (by omega) (by omega) (by omega) (by omega)) (fun k hk => Mf _ _ (by unfold mdX12_undo; omega)) w1, KP_fr (C _ _ (by omega) (by omega) (by omega) (by omega)) (fun k _ => C _ _ (by omega) (by omega) (by omega) (by omega)) (fun k _ _ => Mf _ _ (by unfold mdX12_undo; omega)) w2⟩
  · rw [Mf _ _ (by unfold mdX12_undo; omega)]; exact a11
  · rw [Mf _ _ (by unfold mdX12_undo; omega)]; exact a12
