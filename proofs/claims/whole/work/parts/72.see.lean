/-! see -/
theorem n_div {a b : Nat} (ha : a < 2147483648) (hb : 0 < b) (hb2 : b < 2147483648) : Int32.ofNat a / Int32.ofNat b = Int32.ofNat (a / b) := by
  have e1 : (Int32.ofNat a / Int32.ofNat b).toInt = (a : Int).tdiv (b : Int) := by
    rw [Int32.toInt_div_of_ne_right _ _ (fun q => by rw [i_eq, n_int hb2, show (-1 : Int32).toInt = -1 by decide] at q; omega), n_int ha, n_int hb2]
  have h2 : a / b ≤ a := Nat.div_le_self a b
  rw [i_eq, e1, n_int (by omega), Int.tdiv_eq_ediv_of_nonneg (by omega)]
  exact (Int.natCast_ediv a b).symm
theorem n_mod {a b : Nat} (ha : a < 2147483648) (hb : 0 < b) (hb2 : b < 2147483648) : Int32.ofNat a - Int32.ofNat a / Int32.ofNat b * Int32.ofNat b = Int32.ofNat (a % b) := by
  rw [n_div ha hb hb2, n_mul, n_sub (by rw [Nat.mul_comm]; exact Nat.mul_div_le a b)]
  congr 1
  have := Nat.div_add_mod a b
  rw [Nat.mul_comm] at this
  omega
def sRow (T : Nat) (g : Nat → Int32) (i : Nat) : Bool := decide ((g (3 * i)).toInt ≤ 30) && (decide ((g (3 * i + 1)).toInt < (T : Int)) && decide ((g (3 * i + 2)).toInt ≤ 9))
theorem c_lookL {f T R : Nat} {m : ev_M} {kf : ev_M → Option (Int32 × ev_M)} (hT : T ≤ 8) (hR : R ≤ 16) : ∀ (j i n : Nat), i + j = R → j < n → allB (sRow T (m.1 14)) i = true → FX4_look_L27 f kf (Int32.ofNat T) (Int32.ofNat (3 * R)) n (Int32.ofNat (3 * i)) m = if allB (sRow T (m.1 14)) R = true then kf m else some (0, m) := by
  have e30 : (30 : Int32).toInt = 30 := rfl
  have e9 : (9 : Int32).toInt = 9 := rfl
  intro j
  induction j with
  | zero =>
    intro i n h1 h2 h3
    obtain ⟨n, rfl⟩ : ∃ z, n = z + 1 := ⟨n - 1, by omega⟩
    have : i = R := by omega
    subst this
    rw [FX4_look_L27, if_pos ((n_le (by omega) (by omega)).mpr (by omega)), if_pos h3]
  | succ j ih =>
    intro i n h1 h2 h3
    obtain ⟨n, rfl⟩ : ∃ z, n = z + 1 := ⟨n - 1, by omega⟩
    have no : ¬ sRow T (m.1 14) i = true → ¬ allB (sRow T (m.1 14)) R = true := fun z y => z ((allB_iff _ _).mp y i (by omega))
    rw [FX4_look_L27, if_neg (fun z => by rw [n_le (by omega) (by omega)] at z; omega), if_pos ((n_in (by omega)).mpr (by omega)), n_nat (by omega), s_1, if_pos ((n_in (by omega)).mpr (by omega)), n_nat (by omega), show Int32.ofNat (3 * i) + 2 = Int32.ofNat (3 * i + 2) from n_add _ 2, if_pos ((n_in (by omega)).mpr (by omega)), n_nat (by omega), show Int32.ofNat (3 * i) + 3 = Int32.ofNat (3 * (i + 1)) from n_add _ 3]
    by_cases z1 : (m.1 14 (3 * i)).toInt ≤ 30
    · rw [if_neg (by rw [i_lt, e30]; omega)]
      by_cases z2 : (m.1 14 (3 * i + 1)).toInt < (T : Int)
      · rw [if_neg (by rw [i_le, n_int (by omega)]; omega)]
        by_cases z3 : (m.1 14 (3 * i + 2)).toInt ≤ 9
        · rw [if_pos (by rw [i_le, e9]; exact z3)]
          refine ih (i + 1) n (by omega) (by omega) ?_
          unfold allB
          rw [h3]
          unfold sRow
          simp [z1, z2, z3]
        · rw [if_neg (by rw [i_le, e9]; exact z3), if_neg (no (by unfold sRow; simp [z3]))]
      · rw [if_pos (by rw [i_le, n_int (by omega)]; omega), if_neg (no (by unfold sRow; simp [z2]))]
    · rw [if_pos (by rw [i_lt, e30]; omega), if_neg (no (by unfold sRow; simp [z1]))]
theorem c_lookC {f L : Nat} {m0 : ev_M} {kf : ev_M → Option (Int32 × ev_M)} (hL : L ≤ 48) : ∀ (j i n : Nat) (m : ev_M), i + j = L → j < n → m.2 = m0.2 → (∀ a, a ≠ 37 → m.1 a = m0.1 a) → (∀ k, k < i → m.1 37 k = m0.1 14 k) → ∃ m', FX4_look_L83 f kf (Int32.ofNat L) n (Int32.ofNat i) m = kf m' ∧ m'.2 = m0.2 ∧ (∀ a, a ≠ 37 → m'.1 a = m0.1 a) ∧ (∀ k, k < L → m'.1 37 k = m0.1 14 k) := by
  intro j
  induction j with
  | zero =>
    intro i n m h1 h2 q1 q2 q3
    obtain ⟨n, rfl⟩ : ∃ z, n = z + 1 := ⟨n - 1, by omega⟩
    rw [FX4_look_L83, if_pos ((n_le (by omega) (by omega)).mpr (by omega))]
    exact ⟨m, rfl, q1, q2, fun k hk => q3 k (by omega)⟩
  | succ j ih =>
    intro i n m h1 h2 q1 q2 q3
    obtain ⟨n, rfl⟩ : ∃ z, n = z + 1 := ⟨n - 1, by omega⟩
    rw [FX4_look_L83, if_neg (fun z => by rw [n_le (by omega) (by omega)] at z; omega), if_pos ((n_in (by omega)).mpr (by omega)), if_pos ((n_in (by omega)).mpr (by omega)), n_nat (by omega), s_1]
    refine ih (i + 1) n _ (by omega) (by omega) q1 (fun a ha => (upI_na _ _ _ _ ha).trans (q2 a ha)) (fun k hk => ?_)
    by_cases e : k = i
    · rw [e, upI_at, q2 14 (by decide)]
    · rw [upI_nk _ _ _ _ e]; exact q3 k (by omega)
theorem r_seeC {f L : Nat} {m0 : ev_M} {kf : ev_M → Option (Int32 × ev_M)} (hL : L ≤ 48) : ∀ (j i n : Nat) (m : ev_M), i + j = L → j < n → m.2 = m0.2 → (∀ a, a ≠ 148 → m.1 a = m0.1 a) → (∀ k, k < i → m.1 148 k = m0.1 113 k) → ∃ m', FX12_see_L115 f kf (Int32.ofNat L) n (Int32.ofNat i) m = kf m' ∧ m'.2 = m0.2 ∧ (∀ a, a ≠ 148 → m'.1 a = m0.1 a) ∧ (∀ k, k < L → m'.1 148 k = m0.1 113 k) := by
  intro j
  induction j with
  | zero =>
    intro i n m h1 h2 q1 q2 q3
    obtain ⟨n, rfl⟩ : ∃ z, n = z + 1 := ⟨n - 1, by omega⟩
    rw [FX12_see_L115, if_pos ((n_le (by omega) (by omega)).mpr (by omega))]
    exact ⟨m, rfl, q1, q2, fun k hk => q3 k (by omega)⟩
  | succ j ih =>
    intro i n m h1 h2 q1 q2 q3
    obtain ⟨n, rfl⟩ : ∃ z, n = z + 1 := ⟨n - 1, by omega⟩
    rw [FX12_see_L115, if_neg (fun z => by rw [n_le (by omega) (by omega)] at z; omega), if_pos ((n_in (by omega)).mpr (by omega)), if_pos ((n_in (by omega)).mpr (by omega)), n_nat (by omega), s_1]
    refine ih (i + 1) n _ (by omega) (by omega) q1 (fun a ha => (upI_na _ _ _ _ ha).trans (q2 a ha)) (fun k hk => ?_)
    by_cases e : k = i
    · rw [e, upI_at, q2 113 (by decide)]
    · rw [upI_nk _ _ _ _ e]; exact q3 k (by omega)
theorem r_seeL {f T R : Nat} {m : ev_M} {kf : Int32 → ev_M → Option (Int32 × ev_M)} (h36 : m.1 112 36 = Int32.ofNat T) (hT : T ≤ 8) (hR : R ≤ 16) (h0 : ∀ i, i < 1600 → 0 ≤ (m.1 113 i).toInt) : ∀ (j i n : Nat), i + j = R → j < n → allB (sRow T (m.1 113)) i = true → FX12_see_L43 f kf (Int32.ofNat (3 * R)) n 1 (Int32.ofNat (3 * i)) m = kf (if allB (sRow T (m.1 113)) R = true then 1 else 0) m := by
  have e30 : (30 : Int32).toInt = 30 := rfl
  have e9 : (9 : Int32).toInt = 9 := rfl
  intro j
  induction j with
  | zero =>
    intro i n h1 h2 h3
    obtain ⟨n, rfl⟩ : ∃ z, n = z + 1 := ⟨n - 1, by omega⟩
    have : i = R := by omega
    subst this
    rw [FX12_see_L43, if_pos ((n_le (by omega) (by omega)).mpr (by omega)), if_pos h3]
  | succ j ih =>
    intro i n h1 h2 h3
    obtain ⟨n, rfl⟩ : ∃ z, n = z + 1 := ⟨n - 1, by omega⟩
    obtain ⟨n, rfl⟩ : ∃ z, n = z + 1 := ⟨n - 1, by omega⟩
    have no : ¬ sRow T (m.1 113) i = true → ¬ allB (sRow T (m.1 113)) R = true := fun z y => z ((allB_iff _ _).mp y i (by omega))
    have stop : FX12_see_J95 f (FX12_see_L43 f kf (Int32.ofNat (3 * R)) (n + 1)) (Int32.ofNat (3 * i)) m = kf 0 m := by
      unfold FX12_see_J95 FX12_see_J96
      rw [FX12_see_L43, if_pos rfl]
      split <;> rfl
    rw [FX12_see_L43, if_neg (fun z => by rw [n_le (by omega) (by omega)] at z; omega), if_neg n10, if_pos ((n_in (by omega)).mpr (by omega)), n_nat (by omega), s_1, if_pos ((n_in (by omega)).mpr (by omega)), n_nat (by omega), show Int32.ofNat (3 * i) + 2 = Int32.ofNat (3 * i + 2) from n_add _ 2, stop]
    by_cases z1 : (m.1 113 (3 * i)).toInt ≤ 30
    · rw [if_neg (by rw [i_lt, e30]; omega)]
      by_cases z2 : (m.1 113 (3 * i + 1)).toInt < (T : Int)
      · rw [r_tow1 h36 hT ⟨h0 _ (by omega), z2⟩, bd_some, if_neg n10, if_pos ((n_in (by omega)).mpr (by omega)), n_nat (by omega)]
        by_cases z3 : (m.1 113 (3 * i + 2)).toInt ≤ 9
        · rw [if_neg (by rw [i_lt, e9]; omega)]
          unfold FX12_see_J96
          rw [show Int32.ofNat (3 * i) + 3 = Int32.ofNat (3 * (i + 1)) from n_add _ 3]
          refine ih (i + 1) (n + 1) (by omega) (by omega) ?_
          unfold allB
          rw [h3]
          unfold sRow
          simp [z1, z2, z3]
        · rw [if_pos (by rw [i_lt, e9]; omega), stop, if_neg (no (by unfold sRow; simp [z3]))]
      · rw [r_tow0 h36 hT (fun y => z2 y.2), bd_some, if_pos rfl, stop, if_neg (no (by unfold sRow; simp [z2]))]
    · rw [if_pos (by rw [i_lt, e30]; omega), if_neg (no (by unfold sRow; simp [z1]))]
theorem r_J39 {f : Nat} {a : Int32} {m : ev_M} (hf : 1 ≤ f) : FX12_see_J39 f a m = some (-1, (ev_up m.1 114 1 (m.1 114 1 + 1), m.2)) := by
  obtain ⟨n, rfl⟩ : ∃ z, f = z + 1 := ⟨f - 1, by omega⟩
  have : FX12_see_J103 (n + 1) a 0 m = some (-1, (ev_up m.1 114 1 (m.1 114 1 + 1), m.2)) := by
    unfold FX12_see_J103
    rw [if_pos rfl, show FX12_refuses (n + 1) 1 m = some (-1, (ev_up m.1 114 1 (m.1 114 1 + 1), m.2)) from r_rfs (i := 1) (by omega), bd_some]
  unfold FX12_see_J39 FX12_see_J40
  rw [FX12_see_L43, if_pos rfl]
  split <;> exact this
theorem B_see (f : Nat) (hf : 4000 ≤ f) : Both (FX11_see f) (FX12_see f) := by
  intro mc mm hS
  obtain ⟨c, tb, K, S, kc, h⟩ := hS
  have hh := h
  obtain ⟨a1, a2, a3, a4, a5, a6, a7, a8, a9, a10, a11, a12⟩ := h
  have k0 := a7
  obtain ⟨k1, k2, k3, k4, k5, k6, k7, krest⟩ := a7
  obtain ⟨L, t1, t2, t3, t4⟩ := a1
  have hcn : (mc.1 0 0).toNatClampNeg = c := by rw [k2, n_nat (by omega)]
  have e3 : (3 : Int32) = Int32.ofNat 3 := rfl
  have e48 : (48 : Int32) = Int32.ofNat 48 := rfl
  have e16 : (16 : Int32) = Int32.ofNat 16 := rfl
  have hd := @n_div L 3 (by omega) (by omega) (by omega)
  have hm := @n_mod L 3 (by omega) (by omega) (by omega)
  have hno : ∀ v : Option (Int32 × ev_M), (v = some (0, mc)) → (ev_bd v (fun r2 m3 => (if r2 = 0 then (ev_bd (FX11_refuse f (1 : Int32) ((ev_up m3.1 13 1 0), m3.2)) (fun r4 m5 => some ((-1 : Int32), m5))) else some ((m3.1 33 6), ((ev_up m3.1 13 1 0), m3.2))))) = some (-1, (ev_up (ev_up mc.1 13 1 0) 109 1 ((ev_up mc.1 13 1 0) 109 1 + 1), mc.2)) := by
    intro v hv
    rw [hv, bd_some, if_pos rfl, show FX11_refuse f 1 (ev_up mc.1 13 1 0, mc.2) = some (0, (ev_up (ev_up mc.1 13 1 0) 109 1 ((ev_up mc.1 13 1 0) 109 1 + 1), mc.2)) from c_refuse (i := 1) (m := (ev_up mc.1 13 1 0, mc.2)) (by omega), bd_some]
  have hfail : SimW c tb K S kc (ev_up (ev_up mc.1 13 1 0) 109 1 ((ev_up mc.1 13 1 0) 109 1 + 1), mc.2) (ev_up (ev_up mm.1 112 1 0) 114 1 ((ev_up mm.1 112 1 0) 114 1 + 1), mm.2) := SimW_ref (SimW_len hh (n := 0) (by omega)) (i := 1) (by omega)
  have hJ : ∀ a, FX12_see_J39 f a (ev_up mm.1 112 1 0, mm.2) = some (-1, (ev_up (ev_up mm.1 112 1 0) 114 1 ((ev_up mm.1 112 1 0) 114 1 + 1), mm.2)) := fun a => r_J39 (by omega)
  unfold FX11_see FX12_see
  rw [hcn, if_pos (isK1 k1), k6]
  by_cases z : 3 ≤ L ∧ L ≤ 48 ∧ L % 3 = 0
  rotate_left
  · have hl : FX4_look f (Int32.ofNat K.1) mc = some (0, mc) := by
      unfold FX4_look
      rw [t2, e3, e48, hm]
      by_cases y1 : L < 3
      · rw [if_pos ((n_lt (by omega) (by omega)).mpr y1)]
      rw [if_neg (fun q => y1 ((n_lt (by omega) (by omega)).mp q))]
      by_cases y2 : 48 < L
      · rw [if_pos ((n_lt (by omega) (by omega)).mpr y2)]
      rw [if_neg (fun q => y2 ((n_lt (by omega) (by omega)).mp q)), if_neg (fun q => by rw [n_z (by omega)] at q; omega)]
    rw [hno _ hl]
    refine ⟨-1, _, _, rfl, ?_, c, tb, K, S, kc, hfail⟩
    rw [hJ]
    by_cases y0 : mm.1 112 45 = 0
    · rw [if_pos y0]
    rw [if_neg y0]
    by_cases y1 : mm.1 112 1 ≤ 0
    · rw [if_pos y1]
    rw [if_neg y1]
    by_cases y2 : mm.1 112 1 - mm.1 112 1 / 3 * 3 = 0
    · rw [if_pos y2]
      rw [t3, e3, hm, n_z (by omega)] at y2
      rw [t3, i_le, n_int (by omega), e0'] at y1
      rw [if_pos (by rw [t3, e3, hd, e16, n_lt (by omega) (by omega)]; omega)]
    · rw [if_neg y2]
  obtain ⟨R, rfl⟩ : ∃ R, L = 3 * R := ⟨L / 3, by omega⟩
  have hR : 1 ≤ R ∧ R ≤ 16 := by omega
  have hcond : FX4_look f (Int32.ofNat K.1) mc = (FX4_look_L27 f (fun m1 => (FX4_look_L83 f (fun m2 => some (1, ((ev_up m2.1 33 6 ((mc.1 13 1) / 3)), m2.2))) (mc.1 13 1) f (0 : Int32) m1)) (Int32.ofNat K.1) (mc.1 13 1) f (0 : Int32) mc) := by
    unfold FX4_look
    rw [if_neg (by rw [t2, e3, n_lt (by omega) (by omega)]; omega), if_neg (by rw [t2, e48, n_lt (by omega) (by omega)]; omega), if_pos (by rw [t2, e3, hm, n_z (by omega)]; omega)]
  have l27 := @c_lookL f K.1 R mc (fun m1 => (FX4_look_L83 f (fun m2 => some (1, ((ev_up m2.1 33 6 ((mc.1 13 1) / 3)), m2.2))) (mc.1 13 1) f (0 : Int32) m1)) k5 (by omega) R 0 f (by omega) (by omega) rfl
  have hl : FX4_look f (Int32.ofNat K.1) mc = if allB (sRow K.1 (mc.1 14)) R = true then (FX4_look_L83 f (fun m2 => some (1, ((ev_up m2.1 33 6 ((mc.1 13 1) / 3)), m2.2))) (mc.1 13 1) f (0 : Int32) mc) else some (0, mc) := by
    rw [hcond, ← l27, t2]
    rfl
  cases tb
  · have hF := SimW_F hh
    have hb : ¬ allB (sRow K.1 (mc.1 14)) R = true := fun q => by
      have := (allB_iff _ _).mp q 0 (by omega)
      unfold sRow at this
      simp only [Bool.and_eq_true, decide_eq_true_eq] at this
      have h1 := this.2.1
      have h2 := (t4 (3 * 0 + 1) (by omega)).2.1
      rw [hF.1] at h1
      omega
    rw [if_neg hb] at hl
    rw [hno _ hl, if_pos hF.2, hJ]
    exact ⟨-1, _, _, rfl, rfl, c, false, K, S, kc, hfail⟩
  obtain ⟨w, k, q0, x1, x2, x3, x4, x5, x6, x7, x8, x9⟩ := SimW_T hh
  have hrc : FX12_see_J40 f (mm.1 112 1) (1 : Int32) (ev_up mm.1 112 1 0, mm.2) = FX12_see_J103 f (mm.1 112 1) (if allB (sRow K.1 (mm.1 113)) R = true then 1 else 0) (ev_up mm.1 112 1 0, mm.2) := by
    unfold FX12_see_J40
    have e113 : ((ev_up mm.1 112 1 0, mm.2) : ev_M).1 113 = mm.1 113 := upI_na _ _ _ _ (by decide)
    have := @r_seeL f K.1 R (ev_up mm.1 112 1 0, mm.2) (fun e3 m4 => (FX12_see_J103 f (mm.1 112 1) e3 m4)) (by rw [upI_nk _ _ _ _ (by decide)]; exact k7) k5 (by omega) (fun i hi => by rw [e113, ← (t4 i hi).1]; exact (t4 i hi).2.1) R 0 f (by omega) (by omega) rfl
    rw [e113] at this
    rw [← this, t3]
    rfl
  rw [if_neg (by rw [x9]; exact n10), if_neg (by rw [t3, i_le, n_int (by omega), e0']; omega), if_pos (by rw [t3, e3, hm, n_z (by omega)]; omega), if_neg (by rw [t3, e3, hd, e16, n_lt (by omega) (by omega)]; omega), hrc]
  have eqB : allB (sRow K.1 (mm.1 113)) R = allB (sRow K.1 (mc.1 14)) R := by
    rw [Bool.eq_iff_iff, allB_iff, allB_iff]
    have : ∀ i, i < R → sRow K.1 (mm.1 113) i = sRow K.1 (mc.1 14) i := fun i hi => by
      unfold sRow
      rw [(t4 (3 * i) (by omega)).1, (t4 (3 * i + 1) (by omega)).1, (t4 (3 * i + 2) (by omega)).1]
    exact ⟨fun q i hi => by rw [← this i hi]; exact q i hi, fun q i hi => by rw [this i hi]; exact q i hi⟩
  rw [eqB]
  by_cases hb : allB (sRow K.1 (mc.1 14)) R = true
  rotate_left
  · rw [if_neg hb] at hl
    rw [hno _ hl, if_neg hb]
    have : FX12_see_J103 f (mm.1 112 1) 0 (ev_up mm.1 112 1 0, mm.2) = some (-1, (ev_up (ev_up mm.1 112 1 0) 114 1 ((ev_up mm.1 112 1 0) 114 1 + 1), mm.2)) := by
      unfold FX12_see_J103
      rw [if_pos rfl, show FX12_refuses f 1 (ev_up mm.1 112 1 0, mm.2) = some (-1, (ev_up (ev_up mm.1 112 1 0) 114 1 ((ev_up mm.1 112 1 0) 114 1 + 1), mm.2)) from r_rfs (i := 1) (m := (ev_up mm.1 112 1 0, mm.2)) (by omega), bd_some]
    rw [this]
    exact ⟨-1, _, _, rfl, rfl, c, true, K, S, kc, hfail⟩
  rw [if_pos hb] at hl
  rw [if_pos hb]
  obtain ⟨m1, u1, u2, u3, u4⟩ := @c_lookC f (3 * R) mc (fun m2 => some (1, ((ev_up m2.1 33 6 ((mc.1 13 1) / 3)), m2.2))) (by omega) (3 * R) 0 f mc (by omega) (by omega) rfl (fun _ _ => rfl) (fun k hk => by omega)
  obtain ⟨m2, v1, v2, v3, v4⟩ := @r_seeC f (3 * R) (ev_up mm.1 112 1 0, mm.2) (fun m5 => some (((mm.1 112 1) / 3), ((ev_up m5.1 112 58 ((mm.1 112 1) / 3)), m5.2))) (by omega) (3 * R) 0 f (ev_up mm.1 112 1 0, mm.2) (by omega) (by omega) rfl (fun _ _ => rfl) (fun k hk => by omega)
  have hR3 : 3 * R / 3 = R := by omega
  rw [hR3] at hd
  have dc : mc.1 13 1 / 3 = Int32.ofNat R := by rw [t2, e3]; exact hd
  have dm : mm.1 112 1 / 3 = Int32.ofNat R := by rw [t3, e3]; exact hd
  have hl2 : FX4_look f (Int32.ofNat K.1) mc = some (1, (ev_up m1.1 33 6 (Int32.ofNat R), m1.2)) := by
    rw [hl, t2]
    rw [dc, z0] at u1
    rw [show Int32.ofNat (3 * R) / 3 = Int32.ofNat R from by rw [e3]; exact hd]
    exact u1
  rw [hl2, bd_some, if_neg n10]
  have hr2 : FX12_see_J103 f (mm.1 112 1) 1 (ev_up mm.1 112 1 0, mm.2) = some (Int32.ofNat R, (ev_up m2.1 112 58 (Int32.ofNat R), m2.2)) := by
    unfold FX12_see_J103
    rw [if_neg n10, dm]
    rw [dm, z0] at v1
    rw [t3]
    exact v1
  rw [hr2]
  have e113 : ((ev_up mm.1 112 1 0, mm.2) : ev_M).1 113 = mm.1 113 := upI_na _ _ _ _ (by decide)
  generalize hMC : ((ev_up (ev_up m1.1 33 6 (Int32.ofNat R)) 13 1 0, m1.2) : ev_M) = MC
  generalize hMM : ((ev_up m2.1 112 58 (Int32.ofNat R), m2.2) : ev_M) = MM
  have gC : ∀ a k, ¬ (a = 13 ∧ k = 1) → ¬ (a = 33 ∧ k = 6) → a ≠ 37 → MC.1 a k = mc.1 a k := fun a k y1 y2 y3 => by
    rw [← hMC]
    show ev_up (ev_up m1.1 33 6 _) 13 1 0 a k = _
    by_cases e : a = 13
    · subst e; rw [up_nk _ _ _ (by omega), up_na _ _ _ _ (by decide), u3 13 (by decide)]
    · rw [up_na _ _ _ _ e]
      by_cases e2 : a = 33
      · subst e2; rw [up_nk _ _ _ (by omega), u3 33 (by decide)]
      · rw [up_na _ _ _ _ e2, u3 a y3]
  have gM : ∀ a k, ¬ (a = 112 ∧ (k = 1 ∨ k = 58)) → a ≠ 148 → MM.1 a k = mm.1 a k := fun a k y1 y2 => by
    rw [← hMM]
    show ev_up m2.1 112 58 _ a k = _
    by_cases e : a = 112
    · subst e; rw [up_nk _ _ _ (by omega), v3 112 (by decide), upI_nk _ _ _ _ (by omega)]
    · rw [up_na _ _ _ _ e, v3 a y2, upI_na _ _ _ _ e]
  have gC2 : MC.2 = mc.2 := by rw [← hMC]; exact u2
  have gM2 : MM.2 = mm.2 := by rw [← hMM]; exact v2
  have c13 : MC.1 13 1 = 0 := by rw [← hMC, upI_at]
  have c33 : MC.1 33 6 = Int32.ofNat R := by rw [← hMC, upI_na _ _ _ _ (by decide), up_at]
  have c37 : ∀ k, k < 3 * R → MC.1 37 k = mc.1 14 k := fun k hk => by rw [← hMC, upI_na _ _ _ _ (by decide), ev_up_ne _ _ _ (by decide)]; exact u4 k hk
  have m1' : MM.1 112 1 = 0 := by rw [← hMM, upI_nk _ _ _ _ (by decide), v3 112 (by decide), upI_at]
  have m58 : MM.1 112 58 = Int32.ofNat R := by rw [← hMM, upI_at]
  have m148 : ∀ k, k < 3 * R → MM.1 148 k = mm.1 113 k := fun k hk => by rw [← hMM, upI_na _ _ _ _ (by decide), v4 k hk, e113]
  refine ⟨Int32.ofNat R, MC, MM, ?_, rfl, c, true, K, S, kc, ?_⟩
  · rw [← hMC]
    show some ((ev_up m1.1 33 6 (Int32.ofNat R)) 33 6, _) = _
    rw [up_at]
  refine SimW_a hh (fun a k y => ⟨gC a k (by unfold relC1 at y; omega) (by unfold relC1 at y; omega) (by unfold relC1 at y; omega), by rw [gC2]⟩) (fun a k y => ⟨gM a k (by unfold relM1 at y; omega) (by unfold relM1 at y; omega), by rw [gM2]⟩) ⟨0, by omega, c13, m1', fun i hi => by rw [gC 14 i (by omega) (by omega) (by omega), gM 113 i (by omega) (by omega)]; exact t4 i hi⟩ ?_ ?_ ?_ (PC_fr (gC _ _ (by omega) (by omega) (by omega)) (fun i => gC _ _ (by omega) (by omega) (by omega)) (gM _ _ (by omega) (by omega)) (fun i => gM _ _ (by omega) (by omega)) a5) ⟨R, by omega, c33, m58, fun i hi => ?_, fun i hi => ?_⟩
  · intro i hi; rw [gC _ _ (by omega) (by omega) (by omega), gM _ _ (by omega) (by omega)]; exact a2 i hi
  · exact ⟨by rw [gC _ _ (by omega) (by omega) (by omega), gM _ _ (by omega) (by omega)]; exact a3.1, by rw [gC _ _ (by omega) (by omega) (by omega), gM _ _ (by omega) (by omega)]; exact a3.2⟩
  · unfold SD; rw [gC2, gM2]; exact a4
  · rw [c37 i hi, m148 i hi]; exact (t4 i (by omega)).1
  · rw [c37 _ (by omega), c37 _ (by omega), c37 _ (by omega)]
    have := (allB_iff _ _).mp hb i hi
    unfold sRow at this
    simp only [Bool.and_eq_true, decide_eq_true_eq] at this
    have q1 := (t4 (3 * i) (by omega)).2
    have q2 := (t4 (3 * i + 1) (by omega)).2
    have q3 := (t4 (3 * i + 2) (by omega)).2
    refine ⟨⟨q1.1, this.1⟩, ⟨(mc.1 14 (3 * i + 1)).toNatClampNeg, by rw [i_nat]; omega, n_of _ q2.1⟩, q3.1, this.2.2⟩
