/-! acts: all that was is kept -/
def relC2 (kc a k : Nat) : Prop := relC a k ∧ ¬ (103 ≤ a ∧ a ≤ 105) ∧ ¬ (a = 42 ∧ 3 * kc ≤ k) ∧ ¬ (a = 0 ∧ k = 17)
def relM2 (a k : Nat) : Prop := relM a k ∧ a ≠ 144 ∧ ¬ (a = 112 ∧ (k = 53 ∨ k = 54 ∨ k = 66))
theorem UN_up {T kc kc' : Nat} {mc mm : ev_M} (h : UN T kc mc mm) (hk : kc ≤ kc') : UN T kc' mc mm := by
  obtain ⟨nx, ct, a1, a2, a3, a4, a5, a6, kcs, a7, a8, a9⟩ := h
  exact ⟨nx, ct, a1, a2, a3, a4, a5, a6, kcs, fun i hi => Nat.le_trans (a7 i hi) hk, a8, a9⟩
theorem SimW_b {c : Nat} {tb : Bool} {K : sp_K} {S S' : sp_S} {kc kc' : Nat} {mc mm mc' mm' : ev_M} (h : SimW c tb K S kc mc mm) (hc : frP (relC2 kc) mc mc') (hm : frP relM2 mm mm') (hkc : kc ≤ kc') (sd : SD mc' mm') (st : ST mc' 103 (mm'.1 144) K.1 S') (kp : KP mc' 103 (mm'.1 144) kc' S') (h53 : mm'.1 112 53 = 0) (h54 : mm'.1 112 54 = 0) : SimW c tb K S' kc' mc' mm' := by
  obtain ⟨a1, a2, a3, a4, a5, a6, a7, a8, a9, a10, a11, a12⟩ := h
  have C : ∀ a k, relC2 kc a k → mc'.1 a k = mc.1 a k := fun a k q => (hc a k q).1
  have M : ∀ a k, relM2 a k → mm'.1 a k = mm.1 a k := fun a k q => (hm a k q).1
  have hT := a7.2.2.2.2.1
  refine ⟨TP_fr (C _ _ (by unfold relC2 relC; omega)) (fun i => C _ _ (by unfold relC2 relC; omega)) (M _ _ (by unfold relM2 relM; omega)) (fun i => M _ _ (by unfold relM2 relM; omega)) a1, ?_, ?_, sd, PC_fr (C _ _ (by unfold relC2 relC; omega)) (fun i => C _ _ (by unfold relC2 relC; omega)) (M _ _ (by unfold relM2 relM; omega)) (fun i => M _ _ (by unfold relM2 relM; omega)) a5, SE_fr (C _ _ (by unfold relC2 relC; omega)) (fun i => C _ _ (by unfold relC2 relC; omega)) (M _ _ (by unfold relM2 relM; omega)) (fun i => M _ _ (by unfold relM2 relM; omega)) a6, ?_, st, kp, ?_, h53, h54⟩
  · intro i hi; rw [C _ _ (by unfold relC2 relC; omega), M _ _ (by unfold relM2 relM; omega)]; exact a2 i hi
  · exact ⟨by rw [C _ _ (by unfold relC2 relC; omega), M _ _ (by unfold relM2 relM; omega)]; exact a3.1, by rw [C _ _ (by unfold relC2 relC; omega), M _ _ (by unfold relM2 relM; omega)]; exact a3.2⟩
  · exact CA_fr (C _ _ (by unfold relC2 relC; omega)) (C _ _ (by unfold relC2 relC; omega)) (C _ _ (by unfold relC2 relC; omega)) (fun a k _ _ => C _ _ (by unfold relC2 relC; omega)) (M _ _ (by unfold relM2 relM; omega)) (M _ _ (by unfold relM2 relM; omega)) (fun a k _ _ => M _ _ (by unfold relM2 relM; omega)) (fun k => (hm _ _ (by unfold relM2 relM; omega)).2) a7
  · exact UN_up (UN_fr hT (C _ _ (by unfold relC2 relC; omega)) (C _ _ (by unfold relC2 relC; omega)) (fun k _ => C _ _ (by unfold relC2 relC; omega)) (fun a k _ _ => C _ _ (by unfold relC2 relC; omega)) (M _ _ (by unfold relM2 relM; omega)) (M _ _ (by unfold relM2 relM; omega)) (fun k => M _ _ (by unfold relM2 relM; omega)) a10) hkc
theorem SD_b {kc : Nat} {mc mm mc' mm' : ev_M} (h : SD mc mm) (e1 : mc'.2 0 17 = mc.2 0 17) (e2 : mm'.2 112 66 = mm.2 112 66) : SD mc' mm' := by
  unfold SD; rw [e1, e2]; exact h
theorem m20_all : ∀ n, n < 20 → ((Int32.ofNat n + 1) - (Int32.ofNat n + 1) / 20 * 20) = Int32.ofNat ((n + 1) % 20) := by decide +kernel
theorem p20_all : ∀ n, n < 20 → (((Int32.ofNat n + 20) - 1) - ((Int32.ofNat n + 20) - 1) / 20 * 20) = Int32.ofNat ((n + 19) % 20) := by decide +kernel
theorem mn20 {ct : Nat} (hc : ct ≤ 20) : (if Int32.ofNat (ct + 1) < 20 then Int32.ofNat (ct + 1) else (20 : Int32)) = Int32.ofNat (min 20 (ct + 1)) := by
  rw [show (20 : Int32) = Int32.ofNat 20 from rfl]
  by_cases z : ct + 1 < 20
  · rw [if_pos ((n_lt (by omega) (by omega)).mpr z), Nat.min_eq_right (by omega)]
  · rw [if_neg (fun y => z ((n_lt (by omega) (by omega)).mp y)), Nat.min_eq_left (by omega)]
theorem c_keep {f nx ct : Nat} {m : ev_M} (hf : 9 ≤ f) (hn : nx < 20) (hc : ct ≤ 20) (h2 : m.1 40 2 = Int32.ofNat nx) (h3 : m.1 40 3 = Int32.ofNat ct) : ∃ m', FX6_keep f 103 m = some ((), m') ∧ m'.1 40 2 = Int32.ofNat ((nx + 1) % 20) ∧ m'.1 40 3 = Int32.ofNat (min 20 (ct + 1)) ∧ (∀ k, 2 ≤ k → k ≤ 5 → m'.1 (43 + 3 * nx) k = m.1 103 k) ∧ (∀ i, i < 8 → m'.1 (43 + 3 * nx + 1) i = m.1 104 i) ∧ (∀ i, i < 8 → m'.1 (43 + 3 * nx + 2) i = m.1 105 i) ∧ (∀ a k, a ≠ 43 + 3 * nx → a ≠ 43 + 3 * nx + 1 → a ≠ 43 + 3 * nx + 2 → ¬ (a = 40 ∧ (k = 2 ∨ k = 3)) → m'.1 a k = m.1 a k) := by
  obtain ⟨m1, r1, r2, r3, r4⟩ := @c_copy f (43 + 3 * nx) 103 m hf (by omega)
  have md := MDX8_copy r1
  have g : ∀ a k, a ≠ 43 + 3 * nx → a ≠ 43 + 3 * nx + 1 → a ≠ 43 + 3 * nx + 2 → m1.1 a k = m.1 a k := fun a k z1 z2 z3 => (md a k (by unfold mdX8_copy; omega)).1
  have e2 : m1.1 40 2 = Int32.ofNat nx := (g 40 2 (by omega) (by omega) (by omega)).trans h2
  have e3 : m1.1 40 3 = Int32.ofNat ct := (g 40 3 (by omega) (by omega) (by omega)).trans h3
  unfold FX6_keep
  rw [h2, if_pos ((n_in (by omega)).mpr hn), n_nat (by omega), r1, bd_some, e2, m20_all nx hn, c_min, bd_some, e3, s_1, mn20 hc]
  refine ⟨_, rfl, ?_, upI_at _ _ _ _ _, ?_, ?_, ?_, ?_⟩
  · rw [upI_nk _ _ _ _ (by decide), upI_at]
  · intro k k1 k2; rw [upI_na _ _ _ _ (by omega), upI_na _ _ _ _ (by omega)]; exact r2 k k1 k2
  · intro i hi; rw [upI_na _ _ _ _ (by omega), upI_na _ _ _ _ (by omega)]; exact r3 i hi
  · intro i hi; rw [upI_na _ _ _ _ (by omega), upI_na _ _ _ _ (by omega)]; exact r4 i hi
  · intro a k z1 z2 z3 z4
    show ev_up (ev_up m1.1 40 2 _) 40 3 _ a k = _
    by_cases e : a = 40
    · subst e; rw [up_nk _ _ _ (by omega), up_nk _ _ _ (by omega)]; exact g _ _ z1 z2 z3
    · rw [up_na _ _ _ _ e, up_na _ _ _ _ e]; exact g _ _ z1 z2 z3
theorem r_keeps {f nx ct : Nat} {m : ev_M} (hf : 200 ≤ f) (hn : nx < 20) (hc : ct ≤ 20) (h2 : m.1 112 65 = Int32.ofNat nx) (h3 : m.1 112 64 = Int32.ofNat ct) : ∃ m', FX12_keeps f m = some ((), m') ∧ m'.1 112 65 = Int32.ofNat ((nx + 1) % 20) ∧ m'.1 112 64 = Int32.ofNat (min 20 (ct + 1)) ∧ (∀ k, k < 147 → m'.1 151 (147 * ((nx + 1) % 20) + k) = m.1 144 k) ∧ (∀ k, ¬ (147 * ((nx + 1) % 20) ≤ k ∧ k < 147 * ((nx + 1) % 20) + 147) → m'.1 151 k = m.1 151 k) ∧ (∀ a, a ≠ 112 → a ≠ 151 → m'.1 a = m.1 a) ∧ (∀ k, k ≠ 64 → k ≠ 65 → m'.1 112 k = m.1 112 k) := by
  have e147 : (147 : Int32) = Int32.ofNat 147 := rfl
  generalize hN : (nx + 1) % 20 = N
  have hN20 : N < 20 := by omega
  have L : ∀ (kf : ev_M → Option (Unit × ev_M)) (M : ev_M), M.1 112 65 = Int32.ofNat N → ∀ (j i n : Nat) (m1 : ev_M), i + j = 147 → j < n → m1.2 = M.2 → (∀ a, a ≠ 151 → m1.1 a = M.1 a) → (∀ k, k < i → m1.1 151 (147 * N + k) = M.1 144 k) → (∀ k, ¬ (147 * N ≤ k ∧ k < 147 * N + 147) → m1.1 151 k = M.1 151 k) → ∃ m', FX12_keeps_L15 f kf n (Int32.ofNat i) m1 = kf m' ∧ (∀ a, a ≠ 151 → m'.1 a = M.1 a) ∧ (∀ k, k < 147 → m'.1 151 (147 * N + k) = M.1 144 k) ∧ (∀ k, ¬ (147 * N ≤ k ∧ k < 147 * N + 147) → m'.1 151 k = M.1 151 k) := by
    intro kf M hM j
    induction j with
    | zero =>
      intro i n m1 h1 h2 q1 q2 q3 q4
      obtain ⟨n, rfl⟩ : ∃ z, n = z + 1 := ⟨n - 1, by omega⟩
      have : i = 147 := by omega
      subst this
      rw [FX12_keeps_L15, if_pos (by decide)]
      exact ⟨m1, rfl, q2, q3, q4⟩
    | succ j ih =>
      intro i n m1 h1 h2 q1 q2 q3 q4
      obtain ⟨n, rfl⟩ : ∃ z, n = z + 1 := ⟨n - 1, by omega⟩
      rw [FX12_keeps_L15, if_neg (fun z => by rw [e147, n_le (by omega) (by omega)] at z; omega), if_pos ((n_in (by omega)).mpr (by omega)), q2 112 (by decide), hM, e147, n_mul, n_add, if_pos ((n_in (by omega)).mpr (by omega)), n_nat (by omega), n_nat (by omega), s_1]
      refine ih (i + 1) n _ (by omega) (by omega) q1 (fun a ha => (upI_na _ _ _ _ ha).trans (q2 a ha)) (fun k hk => ?_) (fun k hk => ?_)
      · by_cases e : k = i
        · rw [e, upI_at, q2 144 (by decide)]
        · rw [upI_nk _ _ _ _ (by omega)]; exact q3 k (by omega)
      · rw [upI_nk _ _ _ _ (by omega)]; exact q4 k hk
  obtain ⟨m1, r1, r2, r3, r4⟩ := L (fun m1 => (if 20 ≤ (m1.1 112 64) then some ((), m1) else some ((), ((ev_up m1.1 112 64 ((m1.1 112 64) + 1)), m1.2)))) (ev_up m.1 112 65 (Int32.ofNat N), m.2) (upI_at _ _ _ _ _) 147 0 f (ev_up m.1 112 65 (Int32.ofNat N), m.2) (by omega) (by omega) rfl (fun _ _ => rfl) (fun k hk => by omega) (fun _ _ => rfl)
  have f3 : ∀ k, k < 147 → m1.1 151 (147 * N + k) = m.1 144 k := fun k hk => by rw [r3 k hk, upI_na _ _ _ _ (by decide)]
  have f4 : ∀ k, ¬ (147 * N ≤ k ∧ k < 147 * N + 147) → m1.1 151 k = m.1 151 k := fun k hk => by rw [r4 k hk, upI_na _ _ _ _ (by decide)]
  have f2 : ∀ a, a ≠ 112 → a ≠ 151 → m1.1 a = m.1 a := fun a z1 z2 => by rw [r2 a z2, upI_na _ _ _ _ z1]
  have f5 : ∀ k, k ≠ 65 → m1.1 112 k = m.1 112 k := fun k z => by rw [r2 112 (by decide), upI_nk _ _ _ _ z]
  have f6 : m1.1 112 65 = Int32.ofNat N := by rw [r2 112 (by decide), upI_at]
  unfold FX12_keeps
  rw [h2, m20_all nx hn, hN]
  rw [z0] at r1
  rw [r1, f5 64 (by decide), h3]
  by_cases z : 20 ≤ ct
  · rw [if_pos (by rw [show (20 : Int32) = Int32.ofNat 20 from rfl, n_le (by omega) (by omega)]; exact z)]
    exact ⟨m1, rfl, f6, by rw [f5 64 (by decide), h3, Nat.min_eq_left (by omega), show ct = 20 by omega], f3, f4, f2, fun k z1 z2 => f5 k z2⟩
  · rw [if_neg (fun y => by rw [show (20 : Int32) = Int32.ofNat 20 from rfl, n_le (by omega) (by omega)] at y; omega), s_1]
    refine ⟨_, rfl, ?_, ?_, ?_, ?_, ?_, ?_⟩
    · rw [upI_nk _ _ _ _ (by decide)]; exact f6
    · rw [upI_at, Nat.min_eq_right (by omega)]
    · intro k hk; rw [upI_na _ _ _ _ (by decide)]; exact f3 k hk
    · intro k hk; rw [upI_na _ _ _ _ (by decide)]; exact f4 k hk
    · intro a z1 z2; rw [upI_na _ _ _ _ z1]; exact f2 a z1 z2
    · intro k z1 z2; rw [upI_nk _ _ _ _ z1]; exact f5 k z2
theorem ST_cp {mc mc' : ev_M} {o o' : Nat} {g g' : Nat → Int32} {T : Nat} {S : sp_S} (hT : T ≤ 8) (h : ST mc o g T S) (h0 : ∀ k, 2 ≤ k → k ≤ 5 → mc'.1 o' k = mc.1 o k) (h1 : ∀ i, i < 8 → mc'.1 (o' + 1) i = mc.1 (o + 1) i) (h2 : ∀ i, i < 8 → mc'.1 (o' + 2) i = mc.1 (o + 2) i) (hg : ∀ k, k < 26 → g' k = g k) : ST mc' o' g' T S := by
  obtain ⟨a, b, c, d, y, e1, e2⟩ := h
  refine ⟨⟨(h0 2 (by omega) (by omega)).trans a.1, (h0 3 (by omega) (by omega)).trans a.2.1, fun t ht => ⟨(h1 t ht).trans (a.2.2 t ht).1, (h2 t ht).trans (a.2.2 t ht).2.1, by rw [h0 4 (by omega) (by omega)]; exact (a.2.2 t ht).2.2⟩⟩, RG_fr hT hg b, c, d, y, (h0 4 (by omega) (by omega)).trans e1, e2⟩
theorem KP_cp {mc mc' : ev_M} {o o' : Nat} {g g' : Nat → Int32} {kc : Nat} {S : sp_S} (h : KP mc o g kc S) (h0 : mc'.1 o' 5 = mc.1 o 5) (h42 : ∀ k, k < 3 * kc → mc'.1 42 k = mc.1 42 k) (hg : ∀ k, 26 ≤ k → k < 147 → g' k = g k) : KP mc' o' g' kc S := by
  obtain ⟨a, b, c, d⟩ := h
  refine ⟨a, h0.trans b, (hg 26 (by omega) (by omega)).trans c, fun i j hi hj => ?_⟩
  rw [hg _ (by omega) (by omega), h42 _ (by omega)]
  exact d i j hi hj
/-- both keep -/
theorem B_keep {f c : Nat} {tb : Bool} {K : sp_K} {S : sp_S} {kc : Nat} {mc mm : ev_M} (hf : 4000 ≤ f) (h : SimW c tb K S kc mc mm) : ∃ mc' mm', FX6_keep f 103 mc = some ((), mc') ∧ FX12_keeps f mm = some ((), mm') ∧ SimW c tb K S kc mc' mm' ∧ frP (fun a k => ¬ mdX6_keep 103 a k) mc mc' ∧ frP (fun a k => ¬ mdX12_keeps a k) mm mm' := by
  have hh := h
  obtain ⟨a1, a2, a3, a4, a5, a6, a7, a8, a9, a10, a11, a12⟩ := h
  obtain ⟨nx, ct, u1, u2, u3, u4, u5, u6, kcs, u7, u8, u9⟩ := a10
  have hT := a7.2.2.2.2.1
  obtain ⟨mc', c1, c2, c3, c4, c5, c6, c7⟩ := @c_keep f nx ct mc (by omega) u1 u2 u3 u4
  obtain ⟨mm', d1, d2, d3, d4, d5, d6, d7⟩ := @r_keeps f nx ct mm (by omega) u1 u2 u5 u6
  have fc := MDX6_keep c1
  have fm := MDX12_keeps d1
  have C : ∀ a k, ¬ (43 ≤ a ∧ a < 103) → ¬ (a = 40 ∧ (k = 2 ∨ k = 3)) → mc'.1 a k = mc.1 a k := fun a k z1 z2 => (fc a k (by unfold mdX6_keep; omega)).1
  have M : ∀ a k, ¬ (a = 112 ∧ (k = 64 ∨ k = 65)) → a ≠ 151 → mm'.1 a k = mm.1 a k := fun a k z1 z2 => (fm a k (by unfold mdX12_keeps; omega)).1
  refine ⟨mc', mm', c1, d1, ?_, fc, fm⟩
  refine ⟨TP_fr (C _ _ (by omega) (by omega)) (fun i => C _ _ (by omega) (by omega)) (M _ _ (by omega) (by omega)) (fun i => M _ _ (by omega) (by omega)) a1, ?_, ?_, ?_, PC_fr (C _ _ (by omega) (by omega)) (fun i => C _ _ (by omega) (by omega)) (M _ _ (by omega) (by omega)) (fun i => M _ _ (by omega) (by omega)) a5, SE_fr (C _ _ (by omega) (by omega)) (fun i => C _ _ (by omega) (by omega)) (M _ _ (by omega) (by omega)) (fun i => M _ _ (by omega) (by omega)) a6, ?_, ?_, ?_, ?_, ?_, ?_⟩
  · intro i hi; rw [C _ _ (by omega) (by omega), M _ _ (by omega) (by omega)]; exact a2 i hi
  · exact ⟨by rw [C _ _ (by omega) (by omega), M _ _ (by omega) (by omega)]; exact a3.1, by rw [C _ _ (by omega) (by omega), M _ _ (by omega) (by omega)]; exact a3.2⟩
  · unfold SD
    rw [(fc 0 17 (by unfold mdX6_keep; omega)).2, (fm 112 66 (by unfold mdX12_keeps; omega)).2]; exact a4
  · exact CA_fr (C _ _ (by omega) (by omega)) (C _ _ (by omega) (by omega)) (C _ _ (by omega) (by omega)) (fun a k _ _ => C _ _ (by omega) (by omega)) (M _ _ (by omega) (by omega)) (M _ _ (by omega) (by omega)) (fun a k _ _ => M _ _ (by omega) (by omega)) (fun k => (fm _ _ (by unfold mdX12_keeps; omega)).2) a7
  · exact ST_fr hT (fun k => C _ _ (by omega) (by omega)) (fun k => C _ _ (by omega) (by omega)) (fun k => C _ _ (by omega) (by omega)) (fun k _ => M _ _ (by omega) (by omega)) a8
  · exact KP_fr (C _ _ (by omega) (by omega)) (fun k _ => C _ _ (by omega) (by omega)) (fun k _ _ => M _ _ (by omega) (by omega)) a9
  · refine ⟨(nx + 1) % 20, min 20 (ct + 1), by omega, by omega, c2, c3, d2, d3, fun i => if i = 0 then kc else kcs (i - 1), ?_, ?_, ?_⟩
    · intro i hi
      by_cases e : i = 0
      · simp only [if_pos e]; exact Nat.le_refl _
      · simp only [if_neg e]; exact u7 (i - 1) (by omega)
    · intro i j hij hj
      by_cases e : i = 0
      · by_cases e2 : j = 0
        · simp only [if_pos e, if_pos e2]; exact Nat.le_refl _
        · simp only [if_pos e, if_neg e2]; exact u7 (j - 1) (by omega)
      · simp only [if_neg e, if_neg (show ¬ j = 0 by omega)]
        exact u8 (i - 1) (j - 1) (by omega) (by omega)
    · intro i hi
      by_cases e : i = 0
      · subst e
        simp only [if_pos]
        have s1 : ((nx + 1) % 20 + 39 - 0) % 20 = nx := by omega
        have s2 : ((nx + 1) % 20 + 40 - 0) % 20 = (nx + 1) % 20 := by omega
        rw [s1, s2]
        refine ⟨S, ST_cp hT a8 c4 c5 c6 (fun k hk => d4 k (by omega)), KP_cp a9 (c4 5 (by omega) (by omega)) (fun k _ => C _ _ (by omega) (by omega)) (fun k _ hk => d4 k hk)⟩
      · simp only [if_neg e]
        obtain ⟨S', v1, v2⟩ := u9 (i - 1) (by omega)
        have s1 : ((nx + 1) % 20 + 39 - i) % 20 = (nx + 39 - (i - 1)) % 20 := by omega
        have s2 : ((nx + 1) % 20 + 40 - i) % 20 = (nx + 40 - (i - 1)) % 20 := by omega
        have s3 : (nx + 39 - (i - 1)) % 20 ≠ nx := by omega
        have s4 : (nx + 40 - (i - 1)) % 20 ≠ (nx + 1) % 20 := by omega
        have s5 : (nx + 39 - (i - 1)) % 20 < 20 := by omega
        have s6 : (nx + 40 - (i - 1)) % 20 < 20 := by omega
        rw [s1, s2]
        generalize (nx + 39 - (i - 1)) % 20 = s at *
        generalize (nx + 40 - (i - 1)) % 20 = s' at *
        refine ⟨S', ST_fr hT (fun k => c7 _ _ (by omega) (by omega) (by omega) (by omega)) (fun k => c7 _ _ (by omega) (by omega) (by omega) (by omega)) (fun k => c7 _ _ (by omega) (by omega) (by omega) (by omega)) (fun k hk => d5 _ (by omega)) v1, KP_fr (c7 _ _ (by omega) (by omega) (by omega) (by omega)) (fun k _ => C _ _ (by omega) (by omega)) (fun k _ hk => d5 _ (by omega)) v2⟩
  · rw [M _ _ (by omega) (by omega)]; exact a11
  · rw [M _ _ (by omega) (by omega)]; exact a12
