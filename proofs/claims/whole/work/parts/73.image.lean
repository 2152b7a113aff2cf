/-! image -/
def ckF (g : Nat → Int32) : Nat → Int32
  | 0 => 157
  | n + 1 => (((3 * ckF g n) + g n) - ((3 * ckF g n) + g n) / 251 * 251)
theorem ckF_congr {g h : Nat → Int32} : ∀ n, (∀ i, i < n → g i = h i) → ckF g n = ckF h n := by
  intro n
  induction n with
  | zero => intro _; rfl
  | succ n ih =>
    intro e
    show (((3 * ckF g n) + g n) - ((3 * ckF g n) + g n) / 251 * 251) = (((3 * ckF h n) + h n) - ((3 * ckF h n) + h n) / 251 * 251)
    rw [ih (fun i hi => e i (by omega)), e n (by omega)]
theorem c_chk {f o N Z : Nat} {m : ev_M} (hf : 100 ≤ f) (hZ : (Sx.2.1 o).2 = Z) (hZ2 : Z ≤ 1600) (hN : N ≤ Z) (hN2 : N ≤ 60) : FX11_checkOf f o (Int32.ofNat N) m = some (ckF (m.1 o) N, m) := by
  have L : ∀ (j i n : Nat), i + j = N → j < n → FX11_checkOf_L6 f (fun e1 m2 => some (e1, m2)) o (Int32.ofNat N) n (ckF (m.1 o) i) (Int32.ofNat i) m = some (ckF (m.1 o) N, m) := by
    intro j
    induction j with
    | zero =>
      intro i n h1 h2
      obtain ⟨n, rfl⟩ : ∃ z, n = z + 1 := ⟨n - 1, by omega⟩
      have : i = N := by omega
      subst this
      rw [FX11_checkOf_L6, if_pos ((n_le (by omega) (by omega)).mpr (Nat.le_refl _))]
    | succ j ih =>
      intro i n h1 h2
      obtain ⟨n, rfl⟩ : ∃ z, n = z + 1 := ⟨n - 1, by omega⟩
      rw [FX11_checkOf_L6, if_neg (fun z => by rw [n_le (by omega) (by omega)] at z; omega), hZ, if_neg (fun z => by rw [n_le (by omega) (by omega)] at z; omega), if_pos ((n_in (by omega)).mpr (by omega)), n_nat (by omega), s_1]
      exact ih (i + 1) n (by omega) (by omega)
  unfold FX11_checkOf
  exact L N 0 f (by omega) (by omega)
theorem r_chk {f o N Z : Nat} {m : ev_M} (hf : 100 ≤ f) (hZ : (Sx.2.1 o).2 = Z) (hZ2 : Z ≤ 1600) (hN : N ≤ Z) (hN2 : N ≤ 60) : FX12_checked f o (Int32.ofNat N) m = some (ckF (m.1 o) N, m) := by
  have L : ∀ (j i n : Nat), i + j = N → j < n → FX12_checked_L6 f (fun e1 m2 => some (e1, m2)) o (Int32.ofNat N) n (ckF (m.1 o) i) (Int32.ofNat i) m = some (ckF (m.1 o) N, m) := by
    intro j
    induction j with
    | zero =>
      intro i n h1 h2
      obtain ⟨n, rfl⟩ : ∃ z, n = z + 1 := ⟨n - 1, by omega⟩
      have : i = N := by omega
      subst this
      rw [FX12_checked_L6, if_pos ((n_le (by omega) (by omega)).mpr (Nat.le_refl _))]
    | succ j ih =>
      intro i n h1 h2
      obtain ⟨n, rfl⟩ : ∃ z, n = z + 1 := ⟨n - 1, by omega⟩
      rw [FX12_checked_L6, if_neg (fun z => by rw [n_le (by omega) (by omega)] at z; omega), hZ, if_pos ((n_in (by omega)).mpr (by omega)), n_nat (by omega), s_1]
      exact ih (i + 1) n (by omega) (by omega)
  unfold FX12_checked
  exact L N 0 f (by omega) (by omega)
theorem sx110 : (Sx.2.1 110).2 = 28 := by decide +kernel
theorem sx180 : (Sx.2.1 180).2 = 28 := by decide +kernel
theorem sx14 : (Sx.2.1 14).2 = 1600 := by decide +kernel
theorem sx113 : (Sx.2.1 113).2 = 1600 := by decide +kernel
def picF (ρ : Nat) (g : Nat → Int32) (i : Nat) : Int32 := if i = 0 then Int32.ofNat (ρ / 256) else if i = 1 then Int32.ofNat (ρ % 256) else g (i - 1)
set_option maxRecDepth 100000 in
theorem sh8_all : ∀ r, r < 1000 → (Int32.ofNat r >>> ((8 : Int32) &&& 31)) = Int32.ofNat (r / 256) ∧ (Int32.ofNat r &&& 255) = Int32.ofNat (r % 256) := by decide +kernel
theorem c_imgL {f c T ρ : Nat} {m0 : ev_M} {g : Nat → Int32} {S : sp_S} {kf : Int32 → ev_M → Option (Int32 × ev_M)} (hc : c = 1 ∨ c = 7) (h0 : m0.1 0 0 = Int32.ofNat c) (h5 : m0.1 c 5 = Int32.ofNat T) (hT : T ≤ 8) (hS : CS m0 103 S) (hg : RG g T S) : ∀ (j t n : Nat) (m : ev_M), t + j = T → j < n → m.2 = m0.2 → (∀ a, a ≠ 110 → m.1 a = m0.1 a) → (∀ i, i < 3 + 3 * t → m.1 110 i = picF ρ g i) →
    ∃ m', FX11_image_L50 f kf n (Int32.ofNat (3 + 3 * t)) (Int32.ofNat t) m = kf (Int32.ofNat (3 + 3 * T)) m' ∧ m'.2 = m0.2 ∧ (∀ a, a ≠ 110 → m'.1 a = m0.1 a) ∧ (∀ i, i < 3 + 3 * T → m'.1 110 i = picF ρ g i) := by
  intro j
  induction j with
  | zero =>
    intro t n m h1 h2 q1 q2 q3
    obtain ⟨n, rfl⟩ : ∃ z, n = z + 1 := ⟨n - 1, by omega⟩
    have : t = T := by omega
    subst this
    have hcn : (m.1 0 0).toNatClampNeg = c := by rw [q2 0 (by decide), h0, n_nat (by omega)]
    rw [FX11_image_L50, hcn, if_pos (isK1 hc), q2 c (by omega), h5, if_pos ((n_le (by omega) (by omega)).mpr (Nat.le_refl _))]
    exact ⟨m, rfl, q1, q2, q3⟩
  | succ j ih =>
    intro t n m h1 h2 q1 q2 q3
    obtain ⟨n, rfl⟩ : ∃ z, n = z + 1 := ⟨n - 1, by omega⟩
    have hcn : (m.1 0 0).toNatClampNeg = c := by rw [q2 0 (by decide), h0, n_nat (by omega)]
    rw [FX11_image_L50, hcn, if_pos (isK1 hc), q2 c (by omega), h5, if_neg (fun z => by rw [n_le (by omega) (by omega)] at z; omega), if_pos ((n_in (by omega)).mpr (by omega)), if_pos ((n_in (by omega)).mpr (by omega)), if_pos ((n_in (by omega)).mpr (by omega)), s_1, s_1, show Int32.ofNat (3 + 3 * t) + 2 = Int32.ofNat (3 + 3 * t + 2) from n_add _ 2, show Int32.ofNat (3 + 3 * t) + 3 = Int32.ofNat (3 + 3 * (t + 1)) from n_add _ 3, if_pos ((n_in (by omega)).mpr (by omega)), if_pos ((n_in (by omega)).mpr (by omega)), n_nat (show t < 2147483648 by omega), n_nat (show 3 + 3 * t < 2147483648 by omega), n_nat (show 3 + 3 * t + 1 < 2147483648 by omega), n_nat (show 3 + 3 * t + 2 < 2147483648 by omega)]
    refine ih (t + 1) n _ (by omega) (by omega) q1 (fun a ha => by rw [upI_na _ _ _ _ ha, ev_up_ne _ _ _ ha, ev_up_ne _ _ _ ha]; exact q2 a ha) (fun i hi => ?_)
    show ev_up _ 110 (3 + 3 * t + 2) _ 110 i = _
    rw [ev_up_at, ev_up_at, ev_up_at]
    unfold picF
    have hs := hS.2.2 t (by omega)
    have hr := hg.2.2 t (by omega)
    by_cases e2 : i = 3 + 3 * t + 2
    · rw [if_pos e2, if_neg (by omega), if_neg (by omega), show i - 1 = 2 + 3 * t + 2 by omega, hr.2.2, q2 103 (by decide)]; exact hs.2.2
    rw [if_neg e2]
    by_cases e1 : i = 3 + 3 * t + 1
    · rw [if_pos e1, if_neg (by omega), if_neg (by omega), show i - 1 = 2 + 3 * t + 1 by omega, hr.2.1, q2 105 (by decide)]; exact hs.2.1
    rw [if_neg e1]
    by_cases e0 : i = 3 + 3 * t
    · rw [if_pos e0, if_neg (by omega), if_neg (by omega), show i - 1 = 2 + 3 * t by omega, hr.1, q2 104 (by decide)]; exact hs.1
    rw [if_neg e0]
    exact q3 i (by omega)
theorem r_wr {f p : Nat} {v : Int32} {m : ev_M} (h : m.1 112 103 = Int32.ofNat p) (hp : p < 28) : FX12_writes f v m = some ((), (ev_up (ev_up m.1 180 p v) 112 103 (Int32.ofNat (p + 1)), m.2)) := by
  unfold FX12_writes
  rw [h, if_pos ((n_in (by omega)).mpr hp), n_nat (by omega), s_1]
def RW (m0 m : ev_M) (p : Nat) (F : Nat → Int32) : Prop := m.2 = m0.2 ∧ (∀ a k, a ≠ 180 → ¬ (a = 112 ∧ k = 103) → m.1 a k = m0.1 a k) ∧ m.1 112 103 = Int32.ofNat p ∧ ∀ i, i < p → m.1 180 i = F i
theorem RW_step {f p : Nat} {v : Int32} {m0 m : ev_M} {F : Nat → Int32} (h : RW m0 m p F) (hp : p < 28) (hv : v = F p) : ∃ m', FX12_writes f v m = some ((), m') ∧ RW m0 m' (p + 1) F := by
  obtain ⟨a1, a2, a3, a4⟩ := h
  refine ⟨_, r_wr a3 hp, a1, fun a k z1 z2 => ?_, upI_at _ _ _ _ _, fun i hi => ?_⟩
  · show ev_up (ev_up m.1 180 p v) 112 103 _ a k = _
    rw [← a2 a k z1 z2]
    by_cases e : a = 112
    · subst e; rw [up_nk _ _ _ (by omega), up_na _ _ _ _ (by decide)]
    · rw [up_na _ _ _ _ e, up_na _ _ _ _ z1]
  · rw [upI_na _ _ _ _ (by decide)]
    by_cases e : i = p
    · rw [e, up_at]; exact hv
    · rw [up_nk _ _ _ e]; exact a4 i (by omega)
theorem r_imgL {f T : Nat} {m0 : ev_M} {F : Nat → Int32} {kf : ev_M → Option (Int32 × ev_M)} (h36 : m0.1 112 36 = Int32.ofNat T) (hT : T ≤ 8) (hF : ∀ k, k < 3 * T → F (3 + k) = m0.1 144 (2 + k)) : ∀ (j i n : Nat) (m : ev_M), i + j = 3 * T → j < n → RW m0 m (3 + i) F → ∃ m', FX12_image_L45 f kf n (Int32.ofNat i) m = kf m' ∧ RW m0 m' (3 + 3 * T) F := by
  intro j
  induction j with
  | zero =>
    intro i n m h1 h2 q
    obtain ⟨n, rfl⟩ : ∃ z, n = z + 1 := ⟨n - 1, by omega⟩
    have : i = 3 * T := by omega
    subst this
    rw [FX12_image_L45, r_tm (by rw [q.2.1 112 36 (by decide) (by omega)]; exact h36), bd_some, show (3 : Int32) * Int32.ofNat T = Int32.ofNat (3 * T) from n_mul 3 T, if_pos ((n_le (by omega) (by omega)).mpr (Nat.le_refl _))]
    exact ⟨m, rfl, q⟩
  | succ j ih =>
    intro i n m h1 h2 q
    obtain ⟨n, rfl⟩ : ∃ z, n = z + 1 := ⟨n - 1, by omega⟩
    obtain ⟨m1, r1, r2⟩ := @RW_step f (3 + i) (m.1 144 (2 + i)) m0 m F q (by omega) (by rw [hF i (by omega), q.2.1 144 _ (by decide) (by omega)])
    rw [FX12_image_L45, r_tm (by rw [q.2.1 112 36 (by decide) (by omega)]; exact h36), bd_some, show (3 : Int32) * Int32.ofNat T = Int32.ofNat (3 * T) from n_mul 3 T, if_neg (fun z => by rw [n_le (by omega) (by omega)] at z; omega), show (2 : Int32) + Int32.ofNat i = Int32.ofNat (2 + i) from n_add 2 i, if_pos ((n_in (by omega)).mpr (by omega)), n_nat (by omega), r1, bd_some, s_1]
    exact ih (i + 1) n m1 (by omega) (by omega) r2
theorem B_image (f : Nat) (hf : 4000 ≤ f) : Both (FX11_image f) (FX12_image f) := by
  intro mc mm hS
  obtain ⟨c, tb, K, S, kc, h⟩ := hS
  have hh := h
  obtain ⟨a1, a2, a3, a4, a5, a6, a7, a8, a9, a10, a11, a12⟩ := h
  have k0 := a7
  obtain ⟨k1, k2, k3, k4, k5, k6, k7, krest⟩ := a7
  obtain ⟨s1, s2, s3, s4, y, s5, s6⟩ := a8
  obtain ⟨ρ, hρ, ρ1, ρ2⟩ := n_ex (a := S.1) s3.1.1
  have ρ3 : ρ < 1000 := by omega
  have hr := sh8_all ρ ρ3
  have e256 : (256 : Int32) = Int32.ofNat 256 := rfl
  have e0 : mc.1 103 2 = Int32.ofNat ρ := s1.1.trans hρ
  have g0 : mm.1 144 0 = Int32.ofNat ρ := s2.1.trans hρ
  have picC : ∀ i, i < 3 + 3 * 0 → ((ev_up (ev_up (ev_up mc.1 110 0 (Int32.ofNat (ρ / 256))) 110 1 (Int32.ofNat (ρ % 256))) 110 2 (mc.1 103 3), mc.2) : ev_M).1 110 i = picF ρ (mm.1 144) i := by
    intro i hi
    show ev_up _ 110 2 _ 110 i = _
    rw [ev_up_at, ev_up_at, ev_up_at]
    unfold picF
    have cs : i = 0 ∨ i = 1 ∨ i = 2 := by omega
    rcases cs with e | e | e <;> subst e
    · rfl
    · rfl
    · show mc.1 103 3 = mm.1 144 1
      exact s1.2.1.trans s2.2.1.symm
  obtain ⟨m1, r1, r2, r3, r4⟩ := @c_imgL f c K.1 ρ mc (mm.1 144) S (fun e2 m3 => (ev_bd (FX11_checkOf f 110 e2 m3) (fun r4 m5 => (if ev_in e2 28 then some ((e2 + 1), ((ev_up (ev_up m5.1 110 e2.toNatClampNeg r4) 0 14 (e2 + 1)), m5.2)) else none)))) k1 k2 k6 k5 s1 s2 K.1 0 f (ev_up (ev_up (ev_up mc.1 110 0 (Int32.ofNat (ρ / 256))) 110 1 (Int32.ofNat (ρ % 256))) 110 2 (mc.1 103 3), mc.2) (by omega) (by omega) rfl (fun a ha => by rw [upI_na _ _ _ _ ha, ev_up_ne _ _ _ ha, ev_up_ne _ _ _ ha]) picC
  have q0 : RW mm (ev_up mm.1 112 103 0, mm.2) 0 (picF ρ (mm.1 144)) := ⟨rfl, fun a k z1 z2 => by
    show ev_up mm.1 112 103 0 a k = _
    by_cases e : a = 112
    · subst e; rw [up_nk _ _ _ (by omega)]
    · rw [up_na _ _ _ _ e], upI_at _ _ _ _ _, fun i hi => by omega⟩
  obtain ⟨n1, x1, y1⟩ := @RW_step f 0 (Int32.ofNat (ρ / 256)) mm _ _ q0 (by omega) rfl
  obtain ⟨n2, x2, y2⟩ := @RW_step f 1 (Int32.ofNat (ρ % 256)) mm _ _ y1 (by omega) rfl
  obtain ⟨n3, x3, y3⟩ := @RW_step f 2 (mm.1 144 1) mm _ _ y2 (by omega) rfl
  obtain ⟨n4, x4, y4⟩ := @r_imgL f K.1 mm (picF ρ (mm.1 144)) (fun m11 => (ev_bd (FX12_checked f 180 (m11.1 112 103) m11) (fun r12 m13 => (ev_bd (FX12_writes f r12 m13) (fun _ m15 => some ((m15.1 112 103), m15)))))) k7 k5 (fun k hk => by unfold picF; rw [if_neg (by omega), if_neg (by omega), show 3 + k - 1 = 2 + k by omega]) (3 * K.1) 0 f n3 (by omega) (by omega) y3
  unfold FX11_image FX12_image
  rw [g0, e256, n_div (by omega) (by omega) (by omega), x1, bd_some, y1.2.1 144 0 (by decide) (by omega), g0, n_mod (by omega) (by omega) (by omega), x2, bd_some, y2.2.1 144 1 (by decide) (by omega), x3, bd_some, e0, hr.1, hr.2]
  have r1' : FX11_image_L50 f (fun e2 m3 => (ev_bd (FX11_checkOf f 110 e2 m3) (fun r4 m5 => (if ev_in e2 28 then some ((e2 + 1), ((ev_up (ev_up m5.1 110 e2.toNatClampNeg r4) 0 14 (e2 + 1)), m5.2)) else none)))) f 3 0 (ev_up (ev_up (ev_up mc.1 110 0 (Int32.ofNat (ρ / 256))) 110 1 (Int32.ofNat (ρ % 256))) 110 2 (mc.1 103 3), mc.2) = _ := r1
  rw [z0] at x4
  rw [r1', x4, c_chk (by omega) sx110 (by omega) (by omega) (by omega), bd_some, if_pos ((n_in (by omega)).mpr (by omega)), n_nat (by omega), s_1, y4.2.2.1, r_chk (by omega) sx180 (by omega) (by omega) (by omega), bd_some, ckF_congr (g := m1.1 110) (h := picF ρ (mm.1 144)) _ r4, ckF_congr (g := n4.1 180) (h := picF ρ (mm.1 144)) _ y4.2.2.2]
  generalize ckF (picF ρ (mm.1 144)) (3 + 3 * K.1) = C
  rw [r_wr y4.2.2.1 (by omega), bd_some]
  generalize hMC : ((ev_up (ev_up m1.1 110 (3 + 3 * K.1) C) 0 14 (Int32.ofNat (3 + 3 * K.1 + 1)), m1.2) : ev_M) = MC
  generalize hMM : ((ev_up (ev_up n4.1 180 (3 + 3 * K.1) C) 112 103 (Int32.ofNat (3 + 3 * K.1 + 1)), n4.2) : ev_M) = MM
  have gC : ∀ a k, ¬ (a = 0 ∧ k = 14) → a ≠ 110 → MC.1 a k = mc.1 a k := fun a k z1 z2 => by
    rw [← hMC]
    show ev_up (ev_up m1.1 110 _ C) 0 14 _ a k = _
    by_cases e : a = 0
    · subst e; rw [up_nk _ _ _ (by omega), up_na _ _ _ _ (by decide), r3 0 (by decide)]
    · rw [up_na _ _ _ _ e, up_na _ _ _ _ z2, r3 a z2]
  have gM : ∀ a k, ¬ (a = 112 ∧ k = 103) → a ≠ 180 → MM.1 a k = mm.1 a k := fun a k z1 z2 => by
    rw [← hMM]
    show ev_up (ev_up n4.1 180 _ C) 112 103 _ a k = _
    by_cases e : a = 112
    · subst e; rw [up_nk _ _ _ (by omega), up_na _ _ _ _ (by decide), y4.2.1 _ _ (by decide) z1]
    · rw [up_na _ _ _ _ e, up_na _ _ _ _ z2, y4.2.1 _ _ z2 z1]
  have gC2 : MC.2 = mc.2 := by rw [← hMC]; exact r2
  have gM2 : MM.2 = mm.2 := by rw [← hMM]; exact y4.1
  have m103 : MM.1 112 103 = Int32.ofNat (3 + 3 * K.1 + 1) := by rw [← hMM, upI_at]
  have c14 : MC.1 0 14 = Int32.ofNat (3 + 3 * K.1 + 1) := by rw [← hMC, upI_at]
  refine ⟨Int32.ofNat (3 + 3 * K.1 + 1), MC, MM, rfl, by rw [m103], c, tb, K, S, kc, ?_⟩
  refine SimW_a hh (fun a k z => ⟨gC a k (by unfold relC1 at z; omega) (by unfold relC1 at z; omega), by rw [gC2]⟩) (fun a k z => ⟨gM a k (by unfold relM1 at z; omega) (by unfold relM1 at z; omega), by rw [gM2]⟩) (TP_fr (gC _ _ (by omega) (by omega)) (fun i => gC _ _ (by omega) (by omega)) (gM _ _ (by omega) (by omega)) (fun i => gM _ _ (by omega) (by omega)) a1) ?_ ?_ ?_ ⟨3 + 3 * K.1 + 1, by omega, c14, m103, fun i hi => ?_⟩ (SE_fr (gC _ _ (by omega) (by omega)) (fun i => gC _ _ (by omega) (by omega)) (gM _ _ (by omega) (by omega)) (fun i => gM _ _ (by omega) (by omega)) a6)
  · intro i hi; rw [gC _ _ (by omega) (by omega), gM _ _ (by omega) (by omega)]; exact a2 i hi
  · exact ⟨by rw [gC _ _ (by omega) (by omega), gM _ _ (by omega) (by omega)]; exact a3.1, by rw [gC _ _ (by omega) (by omega), gM _ _ (by omega) (by omega)]; exact a3.2⟩
  · unfold SD; rw [gC2, gM2]; exact a4
  · rw [← hMC, ← hMM, upI_na _ _ _ _ (by decide), upI_na _ _ _ _ (by decide), ev_up_at, ev_up_at]
    by_cases e : i = 3 + 3 * K.1
    · rw [if_pos e, if_pos e]
    · rw [if_neg e, if_neg e, r4 i (by omega), y4.2.2.2 i (by omega)]
