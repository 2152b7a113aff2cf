/-! rounds, chance -/
theorem c_addF {f kc : Nat} {rd pl n : Int32} {m : ev_M} (hk : kc < 1000) : FX6_addFire f (Int32.ofNat kc) rd pl n m = some (Int32.ofNat (kc + 1), (ev_up (ev_up (ev_up m.1 42 (3 * kc) rd) 42 (3 * kc + 1) pl) 42 (3 * kc + 2) n, m.2)) := by
  unfold FX6_addFire
  rw [if_neg (by rw [i_lt, n_int (by omega), e0']; omega), if_pos (by rw [show (1000 : Int32) = Int32.ofNat 1000 from rfl, n_lt (by omega) (by omega)]; exact hk), show (3 : Int32) = Int32.ofNat 3 from rfl, n_mul, s_1, show (2 : Int32) = Int32.ofNat 2 from rfl, n_add, if_pos ((n_in (by omega)).mpr (by omega)), if_pos ((n_in (by omega)).mpr (by omega)), if_pos ((n_in (by omega)).mpr (by omega)), n_nat (by omega), n_nat (by omega), n_nat (by omega), s_1]
def kcN (K : sp_K) (w : Int32) (k : Nat) (S : sp_S) (kc : Nat) : Nat := if rowS (dbt w (sp_tns K 0 S)) K.1 k = -1 then kc else kc + 1
def frN (K : sp_K) (w : Int32) (k : Nat) (S : sp_S) : Int32 := if rowS (dbt w (sp_tns K 0 S)) K.1 k = -1 then 0 else 1
/-- one ROUND that counts, on both -/
theorem B_round {f c : Nat} {K : sp_K} {S : sp_S} {kc : Nat} {mc mm : ev_M} (hf : 4000 ≤ f) (h : SimW c true K S kc mc mm) (hn : S.1.toInt < 999) : ∃ (r : Int32) (mc' mm' : ev_M) (kc' : Nat), FX11_goOn f mc = some (r, mc') ∧ FX12_roundGoes f mm = some ((), mm') ∧ SimW c true K (sp_go K 0 S) kc' mc' mm' ∧ mm'.1 112 55 = mm.1 112 55 + r := by
  have hh := h
  obtain ⟨w, k, q0, x1, x2, x3, x4, x5, x6, x7, x8, x9⟩ := SimW_T h
  obtain ⟨a1, a2, a3, a4, a5, a6, a7, a8, a9, a10, a11, a12⟩ := h
  obtain ⟨y1, y2, y3, y4, y5, y6, y7, y8⟩ := x1
  have hT := y4.2.1
  have hkc := a9.1
  have r0 := x5.1.1
  obtain ⟨m1, c1, c2, c3, c4⟩ := @c_go f 103 c K mc 0 w S (by omega) y4 y3 y5 (by unfold okO; omega) x3 x5 hn
  have fc := MDX3_go c1
  obtain ⟨m2, d1, d2, d3, d4, d5, d6, d7, d8⟩ := @r_go f k (min 40 kc) K mm 0 w S (by omega) x2.1 x4 x5 x7 x2.2.1 x2.2.2.1 x2.2.2.2.2.1 a9.2.2.1 (by omega)
  have fm := MDX12_roundGoes d1
  have g0 : m1.1 0 0 = Int32.ofNat c := ((fc 0 0 (by unfold mdX3_go; omega)).1).trans y2
  have hcn : (m1.1 0 0).toNatClampNeg = c := by rw [g0, n_nat (by omega)]
  have g9' : m1.1 c 9 = Int32.ofNat k := ((fc c 9 (by unfold mdX3_go; omega)).1).trans y6
  have g5 : m1.1 103 5 = Int32.ofNat kc := ((fc 103 5 (by unfold mdX3_go; omega)).1).trans a9.2.1
  have g42 : ∀ i, m1.1 42 i = mc.1 42 i := fun i => (fc 42 i (by unfold mdX3_go; omega)).1
  have hrg : sp_rg (sp_go K 0 S) := go_rg hT x5 (by omega)
  have e1 : (sp_go K 0 S).1.toInt = S.1.toInt + 1 := by
    show (S.1 + 1).toInt = _
    rw [i_add (by rw [e1']; omega) (by rw [e1']; omega), e1']
  obtain ⟨y, s5, s6⟩ := a8.2.2.2.2
  have f53 : m2.1 112 53 = 0 := d4
  have f54 : m2.1 112 54 = 0 := d7.trans x8
  unfold FX11_goOn
  rw [c1, bd_some, hcn, if_pos (isK1 y1), g9', c_row (by omega) (by omega) y8 y7 c4, bd_some]
  by_cases z : rowS (dbt w (sp_tns K 0 S)) K.1 k = -1
  · rw [if_pos z]
    rw [if_pos z] at d6
    refine ⟨0, m1, m2, kc, rfl, d1, ?_, d6⟩
    refine SimW_b hh (fc.mono (fun a i q => by unfold relC2 relC at q; unfold mdX3_go; omega)) (fm.mono (fun a i q => by unfold relM2 relM at q; unfold mdX12_roundGoes; omega)) (Nat.le_refl _) (SD_b (kc := 0) a4 (fc 0 17 (by unfold mdX3_go; omega)).2 (fm 112 66 (by unfold mdX12_roundGoes; omega)).2) ⟨c2, d2, hrg, by omega, y, ((fc 103 4 (by unfold mdX3_go; omega)).1).trans s5, s6⟩ ?_ f53 f54
    obtain ⟨b1, b2, b3, b4⟩ := a9
    refine ⟨by omega, g5, ?_, fun i j hi hj => ?_⟩
    · rw [d8 26 (by omega), if_neg (fun q => q.2 z)]; exact b3
    · rw [d8 _ (by omega), if_neg (fun q => q.2 z), g42]; exact b4 i j hi hj
  · rw [if_neg z, c_dones hT c4, bd_some, g5, c_addF (by omega), bd_some]
    rw [if_neg z] at d6
    generalize hR : rowS (dbt w (sp_tns K 0 S)) K.1 k = R at d8 z
    generalize hC : Int32.ofNat (cnt (dbt w (sp_tns K 0 S)) K.1) = C at d8
    refine ⟨1, _, m2, kc + 1, rfl, d1, ?_, d6⟩
    have e2 : mc.1 103 2 = S.1 := x3.1
    rw [e2]
    show SimW c true K (sp_go K 0 S) (kc + 1) (ev_up (ev_up (ev_up (ev_up m1.1 42 (3 * kc) S.1) 42 (3 * kc + 1) R) 42 (3 * kc + 2) C) 103 5 (Int32.ofNat (kc + 1)), m1.2) m2
    have fcx : frP (relC2 kc) mc (ev_up (ev_up (ev_up (ev_up m1.1 42 (3 * kc) S.1) 42 (3 * kc + 1) R) 42 (3 * kc + 2) C) 103 5 (Int32.ofNat (kc + 1)), m1.2) := frP_I (by unfold relC2; omega) (frP_I (by unfold relC2; omega) (frP_I (by unfold relC2; omega) (frP_I (by unfold relC2; omega) (fc.mono (fun a i q => by unfold relC2 relC at q; unfold mdX3_go; omega)))))
    refine SimW_b hh fcx (fm.mono (fun a i q => by unfold relM2 relM at q; unfold mdX12_roundGoes; omega)) (by omega) (SD_b (kc := 0) a4 (fc 0 17 (by unfold mdX3_go; omega)).2 (fm 112 66 (by unfold mdX12_roundGoes; omega)).2) ⟨⟨?_, ?_, fun i hi => ⟨?_, ?_, ?_⟩⟩, d2, hrg, by omega, y, ?_, s6⟩ ?_ f53 f54
    · rw [upI_nk _ _ _ _ (by decide), up_na _ _ _ _ (by decide), up_na _ _ _ _ (by decide), up_na _ _ _ _ (by decide)]; exact c2.1
    · rw [upI_nk _ _ _ _ (by decide), up_na _ _ _ _ (by decide), up_na _ _ _ _ (by decide), up_na _ _ _ _ (by decide)]; exact c2.2.1
    · rw [upI_na _ _ _ _ (by decide), up_na _ _ _ _ (by decide), up_na _ _ _ _ (by decide), up_na _ _ _ _ (by decide)]; exact (c2.2.2 i hi).1
    · rw [upI_na _ _ _ _ (by decide), up_na _ _ _ _ (by decide), up_na _ _ _ _ (by decide), up_na _ _ _ _ (by decide)]; exact (c2.2.2 i hi).2.1
    · rw [upI_nk _ _ _ _ (by decide), up_na _ _ _ _ (by decide), up_na _ _ _ _ (by decide), up_na _ _ _ _ (by decide)]; exact (c2.2.2 i hi).2.2
    · rw [upI_nk _ _ _ _ (by decide), up_na _ _ _ _ (by decide), up_na _ _ _ _ (by decide), up_na _ _ _ _ (by decide), (fc 103 4 (by unfold mdX3_go; omega)).1]; exact s5
    · obtain ⟨b1, b2, b3, b4⟩ := a9
      have v42 : ∀ p, ((ev_up (ev_up (ev_up (ev_up m1.1 42 (3 * kc) S.1) 42 (3 * kc + 1) R) 42 (3 * kc + 2) C) 103 5 (Int32.ofNat (kc + 1)), m1.2) : ev_M).1 42 p = if p = 3 * kc + 2 then C else if p = 3 * kc + 1 then R else if p = 3 * kc then S.1 else mc.1 42 p := fun p => by
        rw [upI_na _ _ _ _ (by decide), ev_up_at, ev_up_at, ev_up_at, g42]
      refine ⟨by omega, upI_at _ _ _ _ _, ?_, fun i j hi hj => ?_⟩
      · rw [d8 26 (by omega), if_pos ⟨x8, z⟩]
        unfold kpt
        simp only []
        rw [if_pos trivial]
        by_cases e : min 40 kc = 40
        · rw [if_pos e, show min 40 (kc + 1) = 40 by omega]
        · rw [if_neg e, show min 40 (kc + 1) = min 40 kc + 1 by omega]
      · rw [d8 _ (by omega), if_pos ⟨x8, z⟩, v42]
        unfold kpt
        simp only []
        have hc : (if min 40 kc = 40 then 40 else min 40 kc + 1) = min 40 (kc + 1) := by
          by_cases e : min 40 kc = 40
          · rw [if_pos e]; omega
          · rw [if_neg e]; omega
        rw [hc]
        generalize hm1 : min 40 (kc + 1) = c' at hi
        rw [if_neg (show ¬ 27 + 3 * i + j = 26 by omega)]
        by_cases el : i = c' - 1
        · have : j = 0 ∨ j = 1 ∨ j = 2 := by omega
          rcases this with e | e | e
          · rw [if_pos (by omega), if_neg (by omega), if_neg (by omega), if_pos (by omega)]
          · rw [if_neg (by omega), if_pos (by omega), if_neg (by omega), if_pos (by omega)]
          · rw [if_neg (by omega), if_neg (by omega), if_pos (by omega), if_pos (by omega)]
        · rw [if_neg (by omega), if_neg (by omega), if_neg (by omega), if_neg (show ¬ 3 * (kc + 1 - c' + i) + j = 3 * kc + 2 by omega), if_neg (show ¬ 3 * (kc + 1 - c' + i) + j = 3 * kc + 1 by omega), if_neg (show ¬ 3 * (kc + 1 - c' + i) + j = 3 * kc by omega)]
          by_cases e : min 40 kc = 40
          · rw [if_pos ⟨e, by omega, by omega⟩, show 27 + 3 * i + j + 3 = 27 + 3 * (i + 1) + j by omega, b4 (i + 1) j (by omega) hj]
            rw [show 3 * (kc - min 40 kc + (i + 1)) + j = 3 * (kc + 1 - c' + i) + j by omega]
          · rw [if_neg (fun q => e q.1), b4 i j (by omega) hj]
            rw [show 3 * (kc - min 40 kc + i) + j = 3 * (kc + 1 - c' + i) + j by omega]
theorem SimW_55 {c : Nat} {tb : Bool} {K : sp_K} {S : sp_S} {kc : Nat} {mc mm : ev_M} {v : Int32} (h : SimW c tb K S kc mc mm) : SimW c tb K S kc mc (ev_up mm.1 112 55 v, mm.2) := SimW_fr (frP_refl _ _) (fr_one (by unfold relM; omega)) h
theorem B_rndL {f c N : Nat} {K : sp_K} (hf : 4000 ≤ f) (hN : N ≤ 100) : ∀ (j t n n' : Nat) (S : sp_S) (kc : Nat) (a : Int32) (mc mm : ev_M), t + j = N → j < n → j < n' → S.1.toInt + j ≤ 999 → SimW c true K S kc mc mm → mm.1 112 55 = a → ∃ (a' : Int32) (mc' mm' : ev_M), FX11_rounds_L31 f (fun e7 m8 => some (e7, m8)) (Int32.ofNat N) n a (Int32.ofNat t) mc = some (a', mc') ∧ FX12_roundsGo_L2 f (fun m3 => some ((), m3)) (Int32.ofNat N) n' (Int32.ofNat t) mm = some ((), mm') ∧ Sim mc' mm' ∧ mm'.1 112 55 = a' := by
  intro j
  induction j with
  | zero =>
    intro t n n' S kc a mc mm h1 h2 h2' h3 h4 h5
    obtain ⟨n, rfl⟩ : ∃ z, n = z + 1 := ⟨n - 1, by omega⟩
    obtain ⟨n', rfl⟩ : ∃ z, n' = z + 1 := ⟨n' - 1, by omega⟩
    rw [FX11_rounds_L31, FX12_roundsGo_L2, if_pos ((n_le (by omega) (by omega)).mpr (by omega)), if_pos ((n_le (by omega) (by omega)).mpr (by omega))]
    exact ⟨a, mc, mm, rfl, rfl, ⟨c, true, K, S, kc, h4⟩, h5⟩
  | succ j ih =>
    intro t n n' S kc a mc mm h1 h2 h2' h3 h4 h5
    obtain ⟨n, rfl⟩ : ∃ z, n = z + 1 := ⟨n - 1, by omega⟩
    obtain ⟨n', rfl⟩ : ∃ z, n' = z + 1 := ⟨n' - 1, by omega⟩
    have r0 := (SimW_T h4)
    obtain ⟨w, k, q0, x1, x2, x3, x4, x5, x6, x7, x8, x9⟩ := r0
    have r0 := x5.1.1
    obtain ⟨r, mc', mm', kc', c1, d1, hW, e55⟩ := B_round hf h4 (by omega)
    have e1 : (sp_go K 0 S).1.toInt = S.1.toInt + 1 := by
      show (S.1 + 1).toInt = _
      rw [i_add (by rw [e1']; omega) (by rw [e1']; omega), e1']
    rw [FX11_rounds_L31, FX12_roundsGo_L2, if_neg (fun z => by rw [n_le (by omega) (by omega)] at z; omega), if_neg (fun z => by rw [n_le (by omega) (by omega)] at z; omega), c1, bd_some, d1, bd_some, s_1]
    exact ih (t + 1) n n' (sp_go K 0 S) kc' (a + r) mc' mm' (by omega) (by omega) (by omega) (by rw [e1]; omega) hW (by rw [e55, h5])
theorem c_canGo {f c : Nat} {K : sp_K} {mc mm : ev_M} {a : Int32} (h : CA c true K mc mm) : FX11_canGo f a mc = (ev_bd (FX11_canBeAhead f a (1 : Int32) (100 : Int32) mc) (fun r3 m4 => (if r3 = 0 then some (0, m4) else some (1, m4)))) := by
  unfold FX11_canGo
  rw [c_t1 h, bd_some, if_neg n10]
theorem r_rfs {f i : Nat} {m : ev_M} (hi : i < 6) : FX12_refuses f (Int32.ofNat i) m = some (-1, (ev_up m.1 114 i (m.1 114 i + 1), m.2)) := by
  unfold FX12_refuses
  rw [if_pos ((n_in (by omega)).mpr hi), if_pos ((n_in (by omega)).mpr hi), n_nat (by omega)]
theorem B_rounds (f : Nat) (hf : 4000 ≤ f) (b : Int32) : Both (FX11_rounds f b) (FX12_rounds f b) := by
  intro mc mm hS
  obtain ⟨c, tb, K, S, kc, h⟩ := hS
  have hh := h
  obtain ⟨a1, a2, a3, a4, a5, a6, a7, a8, a9, a10, a11, a12⟩ := h
  have rc : FX11_refuse f 3 mc = some (0, (ev_up mc.1 109 3 (mc.1 109 3 + 1), mc.2)) := c_refuse (i := 3) (by omega)
  have rr : FX12_refuses f 3 mm = some (-1, (ev_up mm.1 114 3 (mm.1 114 3 + 1), mm.2)) := r_rfs (i := 3) (by omega)
  unfold FX11_rounds FX12_rounds
  cases tb
  · have : FX11_canGo f b mc = some (0, mc) := by unfold FX11_canGo; rw [c_t0 a7, bd_some, if_pos rfl]
    rw [this, bd_some, if_pos rfl, r_ahF (SimW_F hh).2, bd_some, if_pos rfl, rc, bd_some, rr, bd_some]
    exact ⟨_, _, _, rfl, rfl, c, false, K, S, kc, SimW_ref hh (by omega)⟩
  obtain ⟨w, k, q0, x1, x2, x3, x4, x5, x6, x7, x8, x9⟩ := SimW_T hh
  rw [c_canGo a7]
  by_cases h3 : 1 ≤ b.toInt ∧ b.toInt ≤ 100 ∧ S.1.toInt + b.toInt ≤ 999
  · obtain ⟨N, rfl, n3, n4⟩ := n_ex (a := b) (by omega)
    obtain ⟨mc1, mm1, c1, d1, hW, fc, fm⟩ := B_keep hf hh
    obtain ⟨a', mc', mm', e1, e2, e3, e4⟩ := @B_rndL f c N K hf (by omega) N 0 f f S kc 0 mc1 (ev_up mm1.1 112 55 0, mm1.2) (by omega) (by omega) (by omega) (by omega) (SimW_55 hW) (upI_at _ _ _ _ _)
    rw [c_can1 (l := 1) (h := 100) rfl rfl x3.1 (by omega) (by omega) x5.1.1 x6 h3, bd_some, if_neg n10, bd_some, if_neg n10, r_ah1 (l := 1) (h := 100) rfl rfl x4.1 x9 (by omega) (by omega) x5.1.1 x6 h3, bd_some, if_neg n10, c1, bd_some, d1, bd_some]
    unfold FX12_roundsGo
    rw [z0] at e1 e2
    rw [e1, e2, bd_some, e4]
    exact ⟨a', mc', mm', rfl, rfl, e3⟩
  · rw [c_can0 (l := 1) (h := 100) rfl rfl x3.1 (by omega) (by omega) x5.1.1 x6 h3, bd_some, if_pos rfl, bd_some, if_pos rfl, r_ah0 (l := 1) (h := 100) rfl rfl x4.1 x9 (by omega) (by omega) x5.1.1 x6 h3, bd_some, if_pos rfl, rc, bd_some, rr, bd_some]
    exact ⟨_, _, _, rfl, rfl, c, true, K, S, kc, SimW_ref hh (by omega)⟩
/-! the draws -/
theorem j_and {v : Int64} (h0 : 0 ≤ v.toInt) : (v &&& 2147483647).toInt = v.toInt % 2147483648 := by
  have e1 : (v &&& 2147483647).toBitVec = v.toBitVec &&& 2147483647#64 := rfl
  have hv : v.toBitVec.toNat = v.toInt.toNat := by
    have h1 : v.toInt = v.toBitVec.toInt := rfl
    have h2 := @BitVec.toInt_eq_toNat_of_msb 64 v.toBitVec (by
      rw [BitVec.msb_eq_toInt]
      rw [← h1]
      simp
      exact h0)
    rw [h1, h2]
    omega
  have e2 : (v.toBitVec &&& 2147483647#64).toNat = v.toBitVec.toNat % 2147483648 := by
    rw [BitVec.toNat_and]
    exact Nat.and_two_pow_sub_one_eq_mod v.toBitVec.toNat 31
  have e3 : (v &&& 2147483647).toInt = (v &&& 2147483647).toBitVec.toInt := rfl
  rw [e3, e1]
  have hlt : (v.toBitVec &&& 2147483647#64).toNat < 2147483648 := by rw [e2]; omega
  rw [BitVec.toInt_eq_toNat_of_lt (by omega), e2, hv]
  omega
theorem j_div2 {a b : Int64} (h : 0 ≤ a.toInt) (hb : 0 < b.toInt) : (a / b).toInt = a.toInt / b.toInt := by
  rw [Int64.toInt_div_of_ne_right _ _ (fun q => by rw [q] at hb; revert hb; decide), Int.tdiv_eq_ediv_of_nonneg h]
theorem j_mod2 {a b : Int64} (h : 0 ≤ a.toInt) (hb : 0 < b.toInt) : (a - a / b * b).toInt = a.toInt % b.toInt := by
  have q1 := j_div2 h hb
  have q2 := Int.mul_ediv_add_emod a.toInt b.toInt
  have q3 := Int.emod_nonneg a.toInt (show b.toInt ≠ 0 by omega)
  have q4 := Int.emod_lt_of_pos a.toInt hb
  have q5 : 0 ≤ a.toInt / b.toInt := Int.ediv_nonneg h (by omega)
  have r := j_rng a
  have q6 : a.toInt / b.toInt * b.toInt = b.toInt * (a.toInt / b.toInt) := Int.mul_comm _ _
  have q7 : 0 ≤ b.toInt * (a.toInt / b.toInt) := Int.mul_nonneg (by omega) q5
  have e1 : (a / b * b).toInt = b.toInt * (a.toInt / b.toInt) := by
    rw [j_mul (by rw [q1, q6]; omega) (by rw [q1, q6]; omega), q1, q6]
  rw [j_sub (by rw [e1]; omega) (by rw [e1]; omega), e1]
  omega
def nxS (x : Int64) : Int64 := ((1103515245 * x) + 12345) &&& 2147483647
theorem nx_v {x : Int64} (h0 : 0 ≤ x.toInt) (h1 : x.toInt < 2147483648) : 0 ≤ (1103515245 * x + 12345).toInt ∧ (1103515245 * x + 12345).toInt = 1103515245 * x.toInt + 12345 := by
  have e1 : (1103515245 : Int64).toInt = 1103515245 := rfl
  have e2 : (12345 : Int64).toInt = 12345 := rfl
  have m1 : (1103515245 * x).toInt = 1103515245 * x.toInt := by rw [j_mul (by rw [e1]; omega) (by rw [e1]; omega), e1]
  have : (1103515245 * x + 12345).toInt = 1103515245 * x.toInt + 12345 := by rw [j_add (by rw [m1, e2]; omega) (by rw [m1, e2]; omega), m1, e2]
  exact ⟨by omega, this⟩
theorem nxS_r {x : Int64} (h0 : 0 ≤ x.toInt) (h1 : x.toInt < 2147483648) : 0 ≤ (nxS x).toInt ∧ (nxS x).toInt < 2147483648 := by
  unfold nxS
  rw [j_and (nx_v h0 h1).1]
  omega
theorem nxS_m {x : Int64} (h0 : 0 ≤ x.toInt) (h1 : x.toInt < 2147483648) : ((1103515245 * x) + 12345) - ((1103515245 * x) + 12345) / 2147483648 * 2147483648 = nxS x := by
  have e : (2147483648 : Int64).toInt = 2147483648 := rfl
  rw [j_eq]
  unfold nxS
  rw [j_and (nx_v h0 h1).1, j_mod2 (nx_v h0 h1).1 (by rw [e]; omega), e]
def drw (x : Int64) (m : Nat) : Nat := ((nxS x).toInt / 64 % (m : Int)).toNat
theorem drw_v {x : Int64} {m : Nat} (h0 : 0 ≤ x.toInt) (h1 : x.toInt < 2147483648) (hm : 0 < m) (hm2 : m ≤ 100) : (((nxS x) / 64) - ((nxS x) / 64) / (Int32.ofNat m).toInt64 * (Int32.ofNat m).toInt64).toInt32 = Int32.ofNat (drw x m) ∧ drw x m < m := by
  have e64 : (64 : Int64).toInt = 64 := rfl
  have em : (Int32.ofNat m).toInt64.toInt = (m : Int) := by rw [j_wide, n_int (by omega)]
  have r := nxS_r h0 h1
  have d1 : (nxS x / 64).toInt = (nxS x).toInt / 64 := by rw [j_div2 r.1 (by rw [e64]; omega), e64]
  have d0 : 0 ≤ (nxS x / 64).toInt := by rw [d1]; omega
  have d2 : ((nxS x / 64) - ((nxS x) / 64) / (Int32.ofNat m).toInt64 * (Int32.ofNat m).toInt64).toInt = (nxS x).toInt / 64 % (m : Int) := by
    rw [j_mod2 d0 (by rw [em]; omega), em, d1]
  have q3 := Int.emod_nonneg ((nxS x).toInt / 64) (show (m : Int) ≠ 0 by omega)
  have q4 := Int.emod_lt_of_pos ((nxS x).toInt / 64) (show (0 : Int) < m by omega)
  have hd : drw x m < m := by unfold drw; omega
  refine ⟨?_, hd⟩
  rw [i_eq, j_cast (by rw [d2]; omega) (by rw [d2]; omega), d2, n_int (by omega)]
  unfold drw
  omega
theorem c_draw {f mm : Nat} {x : Int64} {m : ev_M} (h : m.2 0 17 = x) (h0 : 0 ≤ x.toInt) (h1 : x.toInt < 2147483648) (hm : 0 < mm) (hm2 : mm ≤ 100) : FX11_draw f (Int32.ofNat mm) m = some (Int32.ofNat (drw x mm), (m.1, ev_up m.2 0 17 (nxS x))) := by
  unfold FX11_draw
  have hne : ¬ (Int32.ofNat mm).toInt64 = 0 := fun q => by
    rw [j_eq, j_wide, n_int (by omega), j_0] at q; omega
  rw [if_neg (by rw [i_le, n_int (by omega), e0']; omega), if_neg hne, h, show ((1103515245 * x + 12345) &&& 2147483647) = nxS x from rfl, (drw_v h0 h1 hm hm2).1]
theorem r_draw {f mm : Nat} {x : Int64} {m : ev_M} (h : m.2 112 66 = x) (h0 : 0 ≤ x.toInt) (h1 : x.toInt < 2147483648) (hm : 0 < mm) (hm2 : mm ≤ 100) : FX12_drawOf f (Int32.ofNat mm) m = some (Int32.ofNat (drw x mm), (m.1, ev_up m.2 112 66 (nxS x))) := by
  unfold FX12_drawOf
  have hne : ¬ (Int32.ofNat mm).toInt64 = 0 := fun q => by
    rw [j_eq, j_wide, n_int (by omega), j_0] at q; omega
  rw [if_neg hne, h, nxS_m h0 h1, (drw_v h0 h1 hm hm2).1]
theorem SimW_sd {c : Nat} {tb : Bool} {K : sp_K} {S : sp_S} {kc : Nat} {mc mm : ev_M} {x : Int64} (h : SimW c tb K S kc mc mm) (h0 : 0 ≤ x.toInt) (h1 : x.toInt < 2147483648) : SimW c tb K S kc (mc.1, ev_up mc.2 0 17 x) (mm.1, ev_up mm.2 112 66 x) := by
  have hh := h
  obtain ⟨a1, a2, a3, a4, a5, a6, a7, a8, a9, a10, a11, a12⟩ := h
  refine SimW_a hh (frP_L (by unfold relC1; omega) (frP_refl _ _)) (frP_L (by unfold relM1; omega) (frP_refl _ _)) a1 a2 a3 ?_ a5 a6
  have e1 : ((mc.1, ev_up mc.2 0 17 x) : ev_M).2 0 17 = x := (show ev_up mc.2 0 17 x 0 17 = x from up_at _ _ _ _)
  have e2 : ((mm.1, ev_up mm.2 112 66 x) : ev_M).2 112 66 = x := (show ev_up mm.2 112 66 x 112 66 = x from up_at _ _ _ _)
  unfold SD
  rw [e1, e2]
  exact ⟨rfl, h0, h1⟩
