/-! game -/
def cSt (ch : Option Nat) (S : sp_S) : sp_S := match ch with
  | none => S
  | some t => (S.1, S.2.1, S.2.2.1, sp_up S.2.2.2.1 t 9, S.2.2.2.2)
theorem cSt_rg {ch : Option Nat} {S : sp_S} (h : sp_rg S) : sp_rg (cSt ch S) := by
  cases ch with
  | none => exact h
  | some t =>
    obtain ⟨a, b, c⟩ := h
    refine ⟨a, b, fun i hi => ⟨(c i hi).1, ?_, (c i hi).2.2⟩⟩
    show g9 (sp_up S.2.2.2.1 t 9 i)
    unfold sp_up
    split
    · unfold g9; decide
    · exact (c i hi).2.1
theorem cSt_1 {ch : Option Nat} {S : sp_S} : (cSt ch S).1 = S.1 := by cases ch <;> rfl
def sgs (s : Nat) : Int32 := if s = 0 then 0 else 1 <<< (Int32.ofNat (s - 1) &&& 31)
def dW (K : sp_K) (w : Int32) (S : sp_S) (ch : Option Nat) (s : Nat) : Int32 := Int32.ofNat (dc K w (sgs s) (cSt ch S) 1)
def wsF (D : Nat → Int32) : Nat → Nat → Int32 → Int32
  | 0, _, a => a
  | j + 1, s, a => wsF D j (s + 1) (if a < D s then D s else a)
theorem dc_1 (K : sp_K) (w sg : Int32) (S : sp_S) : dc K w sg S 1 = cnt (dbt w (sp_tns K sg S)) K.1 := by
  show 0 + cnt (dbt w (tnG K sg S 0)) K.1 = _
  rw [Nat.zero_add]
  rfl
theorem c_wsL {f c k : Nat} {K : sp_K} {w : Int32} {m0 : ev_M} {S : sp_S} {ch : Option Nat} (hf : 1700 ≤ f) (hX : CX c K w k m0) (hS : CS m0 103 S) (hr : sp_rg S) (h9 : S.1.toInt < 999) (hch : ∀ t, ch = some t → t < 8) : ∀ (j s n : Nat) (a : Int32) (m : ev_M), s + j = K.1 + 1 → j < n → frP relC m0 m → ∃ m', FX0_worstBySigh_L5 f (fun e11 m12 => some (e11, m12)) 103 (oi ch) n a (Int32.ofNat s) m = some (wsF (dW K w S ch) j s a, m') ∧ frP relC m0 m' := by
  have hT := hX.2.2.2.1.2.1
  have e8 : (8 : Int32) = Int32.ofNat 8 := rfl
  intro j
  induction j with
  | zero =>
    intro s n a m h1 h2 q1
    obtain ⟨n, rfl⟩ : ∃ z, n = z + 1 := ⟨n - 1, by omega⟩
    rw [FX0_worstBySigh_L5, c_towers (CX_fr q1 hX), bd_some, if_pos ((n_lt (by omega) (by omega)).mpr (by omega))]
    exact ⟨m, rfl, q1⟩
  | succ j ih =>
    intro s n a m h1 h2 q1
    obtain ⟨n, rfl⟩ : ∃ z, n = z + 1 := ⟨n - 1, by omega⟩
    obtain ⟨m1, r1, r2, r3⟩ := @c_trial f 30 m0 m S (by omega) (by unfold okT; omega) q1 hS
    have go : ∀ m2 : ev_M, frP relC m0 m2 → CS m2 30 (cSt ch S) → ∃ m', FX0_worstBySigh_J46 f (FX0_worstBySigh_L5 f (fun e11 m12 => some (e11, m12)) 103 (oi ch) n) a (Int32.ofNat s) m2 = some (wsF (dW K w S ch) (j + 1) s a, m') ∧ frP relC m0 m' := by
      intro m2 f2 S2
      obtain ⟨m3, s1, s2, s3, s4, s5⟩ := @c_goT f 30 c k K w (sgs s) m0 m2 (cSt ch S) hf (by unfold okT; omega) hX f2 S2 (cSt_rg hr) (by rw [cSt_1]; exact h9)
      have eJ : FX0_worstBySigh_J46 f (FX0_worstBySigh_L5 f (fun e11 m12 => some (e11, m12)) 103 (oi ch) n) a (Int32.ofNat s) m2 = FX0_worstBySigh_J69 f (FX0_worstBySigh_L5 f (fun e11 m12 => some (e11, m12)) 103 (oi ch) n) a (Int32.ofNat s) (sgs s) m2 := by
        unfold FX0_worstBySigh_J46 sgs
        by_cases e : s = 0
        · subst e; rw [if_pos z0, if_pos rfl]
        · rw [if_neg (fun z => e ((n_z (by omega)).mp z)), if_neg e, show (1 : Int32) = Int32.ofNat 1 from rfl, n_sub (by omega)]
      have ed : dW K w S ch s = Int32.ofNat (cnt (dbt w (sp_tns K (sgs s) (cSt ch S))) K.1) := by unfold dW; rw [dc_1]
      rw [eJ]
      unfold FX0_worstBySigh_J69
      rw [s1, bd_some, c_dones hT s5, bd_some, c_max, bd_some, s_1, ← ed]
      exact ih (s + 1) n _ m3 (by omega) (by omega) s2
    rw [FX0_worstBySigh_L5, c_towers (CX_fr q1 hX), bd_some, if_neg (fun z => by rw [n_lt (by omega) (by omega)] at z; omega), r1, bd_some]
    cases ch with
    | none =>
      rw [if_pos (show oi none < 0 by decide)]
      exact go m1 r2 r3
    | some t =>
      have ht := hch t rfl
      have eo : oi (some t) = Int32.ofNat t := rfl
      rw [eo] at go ⊢
      rw [if_neg (by rw [i_lt, n_int (by omega), e0']; omega), if_neg (by rw [e8, n_le (by omega) (by omega)]; omega), if_pos ((n_in (by omega)).mpr ht), n_nat (by omega)]
      refine go _ (frP_I (by unfold relC; omega) r2) ⟨?_, ?_, fun i hi => ⟨?_, ?_, ?_⟩⟩
      · rw [upI_na _ _ _ _ (by decide)]; exact r3.1
      · rw [upI_na _ _ _ _ (by decide)]; exact r3.2.1
      · rw [upI_na _ _ _ _ (by decide)]; exact (r3.2.2 i hi).1
      · show ev_up m1.1 32 t 9 32 i = sp_up S.2.2.2.1 t 9 i
        rw [ev_up_at]
        unfold sp_up
        by_cases e : i = t
        · rw [if_pos e, if_pos e]
        · rw [if_neg e, if_neg e]; exact (r3.2.2 i hi).2.1
      · rw [upI_na _ _ _ _ (by decide)]; exact (r3.2.2 i hi).2.2
def vG (K : sp_K) (w : Int32) (S : sp_S) (ch : Option Nat) : Int32 := wsF (dW K w S ch) (K.1 + 1) 0 0
theorem c_worst {f c k : Nat} {K : sp_K} {w : Int32} {m0 m : ev_M} {S : sp_S} {ch : Option Nat} (hf : 1700 ≤ f) (hX : CX c K w k m0) (hS : CS m0 103 S) (hr : sp_rg S) (h9 : S.1.toInt < 999) (hch : ∀ t, ch = some t → t < 8) (hm : frP relC m0 m) : ∃ m', FX0_worstBySigh f 103 (oi ch) m = some (vG K w S ch, m') ∧ frP relC m0 m' := by
  have hT := hX.2.2.2.1.2.1
  unfold FX0_worstBySigh
  exact c_wsL hf hX hS hr h9 hch (K.1 + 1) 0 f 0 m (by omega) (by omega) hm
theorem c_plyL {f c k : Nat} {K : sp_K} {w : Int32} {m0 : ev_M} {S : sp_S} (hf : 1700 ≤ f) (hX : CX c K w k m0) (hS : CS m0 103 S) (hr : sp_rg S) (h9 : S.1.toInt < 999) : ∀ (j t n : Nat) (m : ev_M) (x : Int32 × Int32 × Int32), t + j = K.1 → j < n → frP relC m0 m → W29 m x → ∃ m', FX0_play_L12 f (fun m11 => some ((), m11)) 103 n (Int32.ofNat t) m = some ((), m') ∧ frP relC m0 m' ∧ W29 m' (betF (fun _ => true) (fun t => vG K w S (some t)) j t x) := by
  have hT := hX.2.2.2.1.2.1
  intro j
  induction j with
  | zero =>
    intro t n m x h1 h2 q1 q2
    obtain ⟨n, rfl⟩ : ∃ z, n = z + 1 := ⟨n - 1, by omega⟩
    rw [FX0_play_L12, c_towers (CX_fr q1 hX), bd_some, if_pos ((n_le (by omega) (by omega)).mpr (by omega))]
    exact ⟨m, rfl, q1, q2⟩
  | succ j ih =>
    intro t n m x h1 h2 q1 q2
    obtain ⟨n, rfl⟩ : ∃ z, n = z + 1 := ⟨n - 1, by omega⟩
    obtain ⟨m1, r1, r2⟩ := @c_worst f c k K w m0 m S (some t) hf hX hS hr h9 (fun i hi => by cases hi; omega) q1
    have r1' : FX0_worstBySigh f 103 (Int32.ofNat t) m = some (vG K w S (some t), m1) := r1
    have w1 : W29 m1 x := by
      have md := MDX0_worstBySigh r1
      have e : ∀ q, m1.1 29 q = m.1 29 q := fun q => (md 29 q (by unfold mdX0_worstBySigh; omega)).1
      exact ⟨(e 4).trans q2.1, (e 2).trans q2.2.1, (e 3).trans q2.2.2⟩
    obtain ⟨m2, s1, s2, s3⟩ := @c_weigh f (vG K w S (some t)) (Int32.ofNat t) (-1) m0 m1 x r2 w1
    rw [FX0_play_L12, c_towers (CX_fr q1 hX), bd_some, if_neg (fun z => by rw [n_le (by omega) (by omega)] at z; omega), r1', bd_some, s1, bd_some, s_1]
    unfold betF
    have ec : (if (fun _ : Nat => true) t = true ∧ vG K w S (some t) < x.1 then (vG K w S (some t), Int32.ofNat t, (-1 : Int32)) else x) = (if vG K w S (some t) < x.1 then (vG K w S (some t), Int32.ofNat t, (-1 : Int32)) else x) := by
      by_cases e : vG K w S (some t) < x.1
      · rw [if_pos ⟨rfl, e⟩, if_pos e]
      · rw [if_neg (fun q => e q.2), if_neg e]
    rw [ec]
    exact ih (t + 1) n m2 _ (by omega) (by omega) s2 s3
/-- the reference's game -/
def aR (s : Nat) : Int32 := if s = 0 then -1 else Int32.ofNat (s - 1)
theorem aR_1 (s : Nat) : aR s + 1 = aR (s + 1) := by
  unfold aR
  by_cases e : s = 0
  · subst e; rfl
  · rw [if_neg e, if_neg (by omega), s_1, show s - 1 + 1 = s + 1 - 1 by omega]
theorem RI_sg {K : sp_K} {S : sp_S} {sg sg' : Int32} {m0 m : ev_M} (h : RI K S sg m0 m) : RI K S sg' m0 (ev_up m.1 112 53 sg', m.2) := by
  obtain ⟨i1, i2, i3, i4, i5⟩ := h
  refine ⟨TR_up53 i1, ⟨?_, ?_, fun t ht => ?_⟩, upI_at _ _ _ _ _, ?_, ?_⟩
  · rw [upI_na _ _ _ _ (by decide)]; exact i2.1
  · rw [upI_na _ _ _ _ (by decide)]; exact i2.2.1
  · rw [upI_na _ _ _ _ (by decide)]; exact i2.2.2 t ht
  · rw [upI_nk _ _ _ _ (by decide)]; exact i4
  · rw [upI_nk _ _ _ _ (by decide)]; exact i5
theorem r_dtL {f k q : Nat} {K : sp_K} {w : Int32} {m0 : ev_M} {S : sp_S} {ch : Option Nat} (hf : 1700 ≤ f) (hX : RX K w k q m0) (h0 : RS m0 K.1 S) (hr : sp_rg S) (h9 : S.1.toInt < 999) (hch : ∀ t, ch = some t → t < K.1) : ∀ (j s n : Nat) (a : Int32) (m : ev_M), s + j = K.1 + 1 → j < n → RI K S 0 m0 m → ∃ m', FX12_ditched_L4 f (fun e5 m6 => some (e5, m6)) (oi ch) n a (aR s) m = some (wsF (dW K w S ch) j s a, m') ∧ RI K S 0 m0 m' := by
  have hT := hX.1.1
  intro j
  induction j with
  | zero =>
    intro s n a m h1 h2 q1
    obtain ⟨n, rfl⟩ : ∃ z, n = z + 1 := ⟨n - 1, by omega⟩
    have : aR s = Int32.ofNat K.1 := by unfold aR; rw [if_neg (by omega), show s - 1 = K.1 by omega]
    rw [FX12_ditched_L4, r_tm (RI_36 hX q1), bd_some, this, if_pos ((n_le (by omega) (by omega)).mpr (Nat.le_refl _))]
    exact ⟨m, rfl, q1⟩
  | succ j ih =>
    intro s n a m h1 h2 q1
    obtain ⟨n, rfl⟩ : ∃ z, n = z + 1 := ⟨n - 1, by omega⟩
    have en : ¬ Int32.ofNat K.1 ≤ aR s := by
      unfold aR
      by_cases e : s = 0
      · rw [if_pos e, i_le, n_int (by omega), show (-1 : Int32).toInt = -1 by decide]; omega
      · rw [if_neg e, n_le (by omega) (by omega)]; omega
    have go : ∀ m2 : ev_M, RI K (cSt ch S) 0 m0 m2 → ∃ m', FX12_ditched_J31 f (FX12_ditched_L4 f (fun e5 m6 => some (e5, m6)) (oi ch) n) a (aR s) m2 = some (wsF (dW K w S ch) (j + 1) s a, m') ∧ RI K S 0 m0 m' := by
      intro m2 I2
      obtain ⟨m3, s1, s2⟩ := @r_dIn f k q 1 K w (sgs s) m0 (ev_up m2.1 112 53 (sgs s), m2.2) (cSt ch S) S hf hX h0 (cSt_rg hr) (by rw [cSt_1]; omega) (by omega) (by omega) (RI_sg I2)
      have s1' : FX12_doubtsIn f (1 : Int32) (ev_up m2.1 112 53 (sgs s), m2.2) = some (dW K w S ch s, m3) := s1
      have eJ : FX12_ditched_J31 f (FX12_ditched_L4 f (fun e5 m6 => some (e5, m6)) (oi ch) n) a (aR s) m2 = FX12_ditched_J44 f (FX12_ditched_L4 f (fun e5 m6 => some (e5, m6)) (oi ch) n) a (aR s) (sgs s) m2 := by
        unfold FX12_ditched_J31 sgs aR
        by_cases e : s = 0
        · rw [if_pos e, if_pos rfl, if_pos e]
        · rw [if_neg e, if_neg (n_m1 (by omega)), if_neg e]
      rw [eJ]
      unfold FX12_ditched_J44 FX12_ditched_J63 wsF
      rw [s1', bd_some, aR_1]
      by_cases e : a < dW K w S ch s
      · rw [if_neg (by rw [i_lt] at e; rw [i_le]; omega), if_pos e]
        exact ih (s + 1) n _ m3 (by omega) (by omega) s2
      · rw [if_pos (by rw [i_lt] at e; rw [i_le]; omega), if_neg e]
        exact ih (s + 1) n _ m3 (by omega) (by omega) s2
    rw [FX12_ditched_L4, r_tm (RI_36 hX q1), bd_some, if_neg en]
    cases ch with
    | none =>
      rw [if_pos (show oi none = -1 from rfl)]
      exact go m q1
    | some t =>
      have ht := hch t rfl
      have eo : oi (some t) = Int32.ofNat t := rfl
      rw [eo] at go ⊢
      rw [if_neg (n_m1 (by omega)), ix1, if_pos ((n_in (by omega)).mpr (by omega)), n_nat (by omega)]
      exact go _ (RI_ch hT ht q1)
theorem r_ditch {f k q : Nat} {K : sp_K} {w : Int32} {m0 m : ev_M} {S : sp_S} {ch : Option Nat} (hf : 1700 ≤ f) (hX : RX K w k q m0) (h0 : RS m0 K.1 S) (hr : sp_rg S) (h9 : S.1.toInt < 999) (hch : ∀ t, ch = some t → t < K.1) (hI : RI K S 0 m0 m) : ∃ m', FX12_ditched f (oi ch) m = some (vG K w S ch, m') ∧ RI K S 0 m0 m' := by
  have hT := hX.1.1
  unfold FX12_ditched
  exact r_dtL hf hX h0 hr h9 hch (K.1 + 1) 0 f 0 m (by omega) (by omega) hI
theorem r_gamL {f k q : Nat} {K : sp_K} {w : Int32} {m0 : ev_M} {S : sp_S} {kf : Int32 → Int32 → ev_M → Option (Int32 × ev_M)} (hf : 1700 ≤ f) (hX : RX K w k q m0) (h0 : RS m0 K.1 S) (hr : sp_rg S) (h9 : S.1.toInt < 999) : ∀ (j t n : Nat) (m : ev_M) (x : Int32 × Int32 × Int32), t + j = K.1 → j < n → RI K S 0 m0 m → ∃ m', FX12_game_L37 f kf n x.2.1 x.1 (Int32.ofNat t) m = kf (betF (fun _ => true) (fun t => vG K w S (some t)) j t x).2.1 (betF (fun _ => true) (fun t => vG K w S (some t)) j t x).1 m' ∧ RI K S 0 m0 m' := by
  have hT := hX.1.1
  intro j
  induction j with
  | zero =>
    intro t n m x h1 h2 q1
    obtain ⟨n, rfl⟩ : ∃ z, n = z + 1 := ⟨n - 1, by omega⟩
    rw [FX12_game_L37, r_tm (RI_36 hX q1), bd_some, if_pos ((n_le (by omega) (by omega)).mpr (by omega))]
    exact ⟨m, rfl, q1⟩
  | succ j ih =>
    intro t n m x h1 h2 q1
    obtain ⟨n, rfl⟩ : ∃ z, n = z + 1 := ⟨n - 1, by omega⟩
    obtain ⟨m1, r1, r2⟩ := @r_ditch f k q K w m0 m S (some t) hf hX h0 hr h9 (fun i hi => by cases hi; omega) q1
    have r1' : FX12_ditched f (Int32.ofNat t) m = some (vG K w S (some t), m1) := r1
    rw [FX12_game_L37, r_tm (RI_36 hX q1), bd_some, if_neg (fun z => by rw [n_le (by omega) (by omega)] at z; omega), r1', bd_some]
    unfold FX12_game_J69 betF
    rw [s_1]
    by_cases e : vG K w S (some t) < x.1
    · rw [if_pos e, if_pos ⟨rfl, e⟩]
      exact ih (t + 1) n m1 (vG K w S (some t), Int32.ofNat t, -1) (by omega) (by omega) r2
    · rw [if_neg e, if_neg (fun q => e q.2)]
      exact ih (t + 1) n m1 x (by omega) (by omega) r2
theorem B_game (f : Nat) (hf : 4000 ≤ f) (a : Int32) : Both (FX11_game f a) (FX12_game f a) := Both_m (fun c tb K S kc mc mm h => by
  have hh := h
  obtain ⟨a1, a2, a3, a4, a5, a6, a7, a8, a9, a10, a11, a12⟩ := h
  have k0 := a7
  obtain ⟨k1, k2, k3, k4, k5, k6, k7, krest⟩ := a7
  unfold FX11_game FX12_game
  cases tb
  · rw [c_t0 k0, bd_some, if_pos rfl, r_ahF (SimW_F hh).2, bd_some, if_pos rfl]
    exact ⟨_, mc, mm, rfl, rfl, frP_refl _ _, fM_refl _⟩
  obtain ⟨w, k, q, x1, x2, x3, x4, x5, x6, x7, x8, x9⟩ := SimW_T hh
  rw [c_t1 k0, bd_some, if_neg n10, c_hasN x3.1, bd_some]
  by_cases h3 : 999 ≤ S.1.toInt
  · rw [if_pos h3, if_pos rfl, r_ah0 (l := 1) (h := 1) rfl rfl x4.1 x9 (by omega) (by omega) x5.1.1 x6 (by rw [e1']; omega), bd_some, if_pos rfl]
    exact ⟨_, mc, mm, rfl, rfl, frP_refl _ _, fM_refl _⟩
  rw [if_neg h3, if_neg n10, r_ah1 (l := 1) (h := 1) rfl rfl x4.1 x9 (by omega) (by omega) x5.1.1 x6 (by rw [e1']; omega), bd_some, if_neg n10]
  by_cases h1 : a < 0
  · rw [if_pos h1]
    rw [i_lt, e0'] at h1
    rw [r_in0 (by rw [j_wide, j_0, j_1]; omega), bd_some, if_pos rfl]
    exact ⟨_, mc, mm, rfl, rfl, frP_refl _ _, fM_refl _⟩
  rw [if_neg h1]
  rw [i_lt, e0'] at h1
  by_cases h2 : a ≤ 1
  rotate_left
  · rw [if_neg h2]
    rw [i_le, e1'] at h2
    rw [r_in0 (by rw [j_wide, j_0, j_1]; omega), bd_some, if_pos rfl]
    exact ⟨_, mc, mm, rfl, rfl, frP_refl _ _, fM_refl _⟩
  rw [if_pos h2]
  rw [i_le, e1'] at h2
  rw [r_in1 (by rw [j_wide, j_0, j_1]; omega), bd_some, if_neg n10]
  obtain ⟨m1, r1, r2⟩ := @c_worst f c k K w mc mc S none (by omega) x1 x3 x5 (by omega) (fun t ht => by cases ht) (frP_refl _ _)
  obtain ⟨m2, s1, s2, s3⟩ := @c_start f (vG K w S none) mc m1 r2
  obtain ⟨mc', c1, c2, c3⟩ := @c_plyL f c k K w mc S (by omega) x1 x3 x5 (by omega) K.1 0 f m2 _ (by omega) (by omega) s2 s3
  obtain ⟨m3, t1, t2, t3, t4, t5, t6⟩ := @r_aside f K.1 mm S (by omega) x4
  obtain ⟨m4, u1, u2⟩ := @r_ditch f k q K w mm m3 S none (by omega) x2 x4 x5 (by omega) (fun t ht => by cases ht) ⟨t2, t3, by rw [t4]; exact x7, t5, t6⟩
  obtain ⟨m5, v1, v2⟩ := @r_gamL f k q K w mm S (fun e13 e14 m15 => (ev_bd (FX12_takesBack f m15) (fun _ m17 => (if a = 0 then some (e14, m17) else some (e13, m17))))) (by omega) x2 x4 x5 (by omega) K.1 0 f m4 (vG K w S none, -1, -1) (by omega) (by omega) u2
  obtain ⟨m6, z1, z2, z3⟩ := @r_back f K.1 mm m5 S (by omega) x2.1.1 v2.1 x4 (by rw [v2.2.2.1, x7]) x8
  have r1' : FX0_worstBySigh f 103 (-1) mc = some (vG K w S none, m1) := r1
  have u1' : FX12_ditched f (-1) m3 = some (vG K w S none, m4) := u1
  have v1' : FX12_game_L37 f (fun e13 e14 m15 => (ev_bd (FX12_takesBack f m15) (fun _ m17 => (if a = 0 then some (e14, m17) else some (e13, m17))))) f (-1) (vG K w S none) 0 m4 = _ := v1
  have c1' : FX0_play_L12 f (fun m11 => some ((), m11)) 103 f 0 m2 = _ := c1
  have cp : FX0_play f 103 mc = some ((), mc') := by
    unfold FX0_play
    rw [r1', bd_some, s1, bd_some, c1']
  rw [cp, bd_some, t1, bd_some, u1', bd_some, v1', z1, bd_some, c3.2.1, c3.1]
  by_cases e2 : a = 0
  · rw [if_pos e2, if_pos e2]; exact ⟨_, mc', m6, rfl, rfl, c2, z2⟩
  · rw [if_neg e2, if_neg e2]; exact ⟨_, mc', m6, rfl, rfl, c2, z2⟩)
