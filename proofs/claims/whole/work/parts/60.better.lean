/-! better, placed, game -/
theorem c_trial4 {f o : Nat} {m0 m : ev_M} {S : sp_S} (hf : 9 ≤ f) (ho : okT o) (h29 : o ≠ 29) (hm : frP relC m0 m) (hS : CS m0 103 S) : ∃ m', FX8_copy f o 103 m = some ((), m') ∧ frP relC m0 m' ∧ CS m' o S ∧ m'.1 o 4 = m0.1 103 4 ∧ (∀ k, m'.1 29 k = m.1 29 k) := by
  have ho' := ho
  unfold okT at ho'
  obtain ⟨m', r1, r2, r3⟩ := @c_trial f o m0 m S hf ho hm hS
  obtain ⟨m'', s1, s2, s3, s4⟩ := @c_copy f o 103 m hf (by omega)
  have e : m' = m'' := by
    rw [r1] at s1
    exact congrArg Prod.snd (Option.some.inj s1)
  subst e
  refine ⟨m', r1, r2, r3, ?_, fun k => ((MDX8_copy r1) 29 k (by unfold mdX8_copy; omega)).1⟩
  rw [s2 4 (by omega) (by omega)]
  exact (hm 103 4 (by unfold relC; omega)).1
def W29 (m : ev_M) (x : Int32 × Int32 × Int32) : Prop := m.1 29 4 = x.1 ∧ m.1 29 2 = x.2.1 ∧ m.1 29 3 = x.2.2
theorem c_start {f : Nat} {v : Int32} {m0 m : ev_M} (hm : frP relC m0 m) : ∃ m', FX0_startWith f v m = some ((), m') ∧ frP relC m0 m' ∧ W29 m' (v, -1, -1) := by
  unfold FX0_startWith
  refine ⟨_, rfl, frP_I (by unfold relC; omega) (frP_I (by unfold relC; omega) (frP_I (by unfold relC; omega) hm)), upI_at _ _ _ _ _, ?_, ?_⟩
  · rw [upI_nk _ _ _ _ (by decide), up_nk _ _ _ (by decide), up_at]
  · rw [upI_nk _ _ _ _ (by decide), up_at]
theorem c_weigh {f : Nat} {v a b : Int32} {m0 m : ev_M} {x : Int32 × Int32 × Int32} (hm : frP relC m0 m) (hw : W29 m x) : ∃ m', FX0_weigh f v a b m = some ((), m') ∧ frP relC m0 m' ∧ W29 m' (if v < x.1 then (v, a, b) else x) := by
  unfold FX0_weigh
  rw [hw.1]
  by_cases h : v < x.1
  · have h2 : ¬ x.1 ≤ v := by rw [i_lt] at h; rw [i_le]; omega
    rw [if_neg h2, if_pos h]
    refine ⟨_, rfl, frP_I (by unfold relC; omega) (frP_I (by unfold relC; omega) (frP_I (by unfold relC; omega) hm)), ?_, ?_, upI_at _ _ _ _ _⟩
    · rw [upI_nk _ _ _ _ (by decide), up_nk _ _ _ (by decide), up_at]
    · rw [upI_nk _ _ _ _ (by decide), up_at]
  · have h2 : x.1 ≤ v := by rw [i_lt] at h; rw [i_le]; omega
    rw [if_pos h2, if_neg h]
    exact ⟨m, rfl, hm, hw⟩
def betF (ok : Nat → Bool) (V : Nat → Int32) : Nat → Nat → Int32 × Int32 × Int32 → Int32 × Int32 × Int32
  | 0, _, x => x
  | j + 1, t, x => betF ok V j (t + 1) (if ok t = true ∧ V t < x.1 then (V t, Int32.ofNat t, -1) else x)
def yesS (t : Nat) (S : sp_S) : sp_S := (S.1, S.2.1, S.2.2.1, S.2.2.2.1, sp_up S.2.2.2.2 t 1)
theorem yesS_rg {t : Nat} {S : sp_S} (h : sp_rg S) : sp_rg (yesS t S) := by
  obtain ⟨a, b, c⟩ := h
  refine ⟨a, b, fun i hi => ⟨(c i hi).1, (c i hi).2.1, ?_⟩⟩
  show sp_up S.2.2.2.2 t 1 i = 0 ∨ sp_up S.2.2.2.2 t 1 i = 1
  unfold sp_up
  split
  · right; rfl
  · exact (c i hi).2.2
set_option maxRecDepth 100000 in
theorem btor_all : ∀ t, t < 8 → ∀ i, i < 8 → ∀ y, y < 256 → bt (Int32.ofNat y ||| ((1 : Int32) <<< (Int32.ofNat t &&& 31))) i = if i = t then 1 else bt (Int32.ofNat y) i := by decide +kernel
def okY (S : sp_S) (t : Nat) : Bool := decide (S.2.2.2.2 t = 0)
def vY (K : sp_K) (w : Int32) (S : sp_S) (N t : Nat) : Int32 := Int32.ofNat (dc K w 0 (yesS t S) N)
theorem c_syL {f c k N y : Nat} {K : sp_K} {w : Int32} {m0 : ev_M} {S : sp_S} (hf : 1700 ≤ f) (hX : CX c K w k m0) (hS : CS m0 103 S) (hy : m0.1 103 4 = Int32.ofNat y) (hy2 : y < 256) (hr : sp_rg S) (h9 : S.1.toInt ≤ 999) (hN : S.1.toInt + N ≤ 999) (hN2 : N ≤ 100) : ∀ (j t n : Nat) (m : ev_M) (x : Int32 × Int32 × Int32), t + j = K.1 → j < n → frP relC m0 m → W29 m x → ∃ m', FX0_seekYes_L19 f (fun m15 => some ((), m15)) 103 (Int32.ofNat N) n (Int32.ofNat t) m = some ((), m') ∧ frP relC m0 m' ∧ W29 m' (betF (okY S) (vY K w S N) j t x) := by
  have hT := hX.2.2.2.1.2.1
  intro j
  induction j with
  | zero =>
    intro t n m x h1 h2 q1 q2
    obtain ⟨n, rfl⟩ : ∃ z, n = z + 1 := ⟨n - 1, by omega⟩
    rw [FX0_seekYes_L19, c_towers (CX_fr q1 hX), bd_some, if_pos ((n_le (by omega) (by omega)).mpr (by omega))]
    exact ⟨m, rfl, q1, q2⟩
  | succ j ih =>
    intro t n m x h1 h2 q1 q2
    obtain ⟨n, rfl⟩ : ∃ z, n = z + 1 := ⟨n - 1, by omega⟩
    have e4 : bt (m.1 103 4) t = S.2.2.2.2 t := by
      rw [(q1 103 4 (by unfold relC; omega)).1]; exact (hS.2.2 t (by omega)).2.2
    rw [FX0_seekYes_L19, c_towers (CX_fr q1 hX), bd_some, if_neg (fun z => by rw [n_le (by omega) (by omega)] at z; omega), show (((m.1 103 4) >>> (Int32.ofNat t &&& 31)) &&& 1) = bt (m.1 103 4) t from rfl, e4]
    unfold FX0_seekYes_J75 betF
    rw [s_1]
    by_cases z : S.2.2.2.2 t = 0
    · rw [if_pos z]
      obtain ⟨m1, r1, r2, r3, r4, r5⟩ := @c_trial4 f 30 m0 m S (by omega) (by unfold okT; omega) (by decide) q1 hS
      have fr1 : frP relC m0 (ev_up m1.1 30 4 (m1.1 30 4 ||| (1 <<< (Int32.ofNat t &&& 31))), m1.2) := frP_I (by unfold relC; omega) r2
      have hS1 : CS (ev_up m1.1 30 4 (m1.1 30 4 ||| (1 <<< (Int32.ofNat t &&& 31))), m1.2) 30 (yesS t S) := by
        refine ⟨?_, ?_, fun i hi => ⟨?_, ?_, ?_⟩⟩
        · rw [upI_nk _ _ _ _ (by decide)]; exact r3.1
        · rw [upI_nk _ _ _ _ (by decide)]; exact r3.2.1
        · rw [upI_na _ _ _ _ (by decide)]; exact (r3.2.2 i hi).1
        · rw [upI_na _ _ _ _ (by decide)]; exact (r3.2.2 i hi).2.1
        · rw [upI_at, r4, hy, btor_all t (by omega) i hi y hy2]
          show _ = sp_up S.2.2.2.2 t 1 i
          unfold sp_up
          by_cases e : i = t
          · rw [if_pos e, if_pos e]
          · rw [if_neg e, if_neg e, ← hy]; exact (hS.2.2 i hi).2.2
      obtain ⟨m2, s1, s2⟩ := @c_try f c k N K w m0 _ (yesS t S) hf hX (yesS_rg hr) h9 hN hN2 fr1 hS1
      have w2 : W29 m2 x := by
        have md := MDX0_tryRounds s1
        have e : ∀ q, m2.1 29 q = m.1 29 q := fun q => by
          rw [(md 29 q (by unfold mdX0_tryRounds; omega)).1, upI_na _ _ _ _ (by decide)]; exact r5 q
        exact ⟨(e 4).trans q2.1, (e 2).trans q2.2.1, (e 3).trans q2.2.2⟩
      obtain ⟨m3, t1, t2, t3⟩ := @c_weigh f (vY K w S N t) (Int32.ofNat t) (-1) m0 m2 x s2 w2
      have s1' : FX0_tryRounds f (Int32.ofNat N) (ev_up m1.1 30 4 (m1.1 30 4 ||| (1 <<< (Int32.ofNat t &&& 31))), m1.2) = some (vY K w S N t, m2) := s1
      rw [r1, bd_some, s1', bd_some, t1, bd_some]
      have ec : (if okY S t = true ∧ vY K w S N t < x.1 then (vY K w S N t, Int32.ofNat t, (-1 : Int32)) else x) = (if vY K w S N t < x.1 then (vY K w S N t, Int32.ofNat t, (-1 : Int32)) else x) := by
        by_cases e : vY K w S N t < x.1
        · rw [if_pos ⟨by unfold okY; rw [z]; rfl, e⟩, if_pos e]
        · rw [if_neg (fun q => e q.2), if_neg e]
      rw [ec]
      exact ih (t + 1) n m3 _ (by omega) (by omega) t2 t3
    · rw [if_neg z, if_neg (fun q => by have := q.1; unfold okY at this; rw [decide_eq_true_iff] at this; exact z this)]
      exact ih (t + 1) n m x (by omega) (by omega) q1 q2
theorem c_seekYes {f c k N y : Nat} {K : sp_K} {w : Int32} {m0 : ev_M} {S : sp_S} (hf : 1700 ≤ f) (hX : CX c K w k m0) (hS : CS m0 103 S) (hy : m0.1 103 4 = Int32.ofNat y) (hy2 : y < 256) (hr : sp_rg S) (h9 : S.1.toInt ≤ 999) (hN : S.1.toInt + N ≤ 999) (hN2 : N ≤ 100) : ∃ m', FX0_seekYes f 103 (Int32.ofNat N) m0 = some ((), m') ∧ frP relC m0 m' ∧ W29 m' (betF (okY S) (vY K w S N) K.1 0 (Int32.ofNat (dc K w 0 S N), -1, -1)) := by
  have hT := hX.2.2.2.1.2.1
  obtain ⟨m1, r1, r2, r3⟩ := @c_trial f 30 m0 m0 S (by omega) (by unfold okT; omega) (frP_refl _ _) hS
  obtain ⟨m2, s1, s2⟩ := @c_try f c k N K w m0 m1 S hf hX hr h9 hN hN2 r2 r3
  obtain ⟨m3, t1, t2, t3⟩ := @c_start f (Int32.ofNat (dc K w 0 S N)) m0 m2 s2
  unfold FX0_seekYes
  rw [r1, bd_some, s1, bd_some, t1, bd_some]
  exact c_syL hf hX hS hy hy2 hr h9 hN hN2 K.1 0 f m3 _ (by omega) (by omega) t2 t3
theorem RI_ye {K : sp_K} {S : sp_S} {sg : Int32} {t : Nat} {v : Int32} {m0 m : ev_M} (hT : K.1 ≤ 8) (ht : t < K.1) (h : RI K S sg m0 m) : RI K (S.1, S.2.1, S.2.2.1, S.2.2.2.1, sp_up S.2.2.2.2 t v) sg m0 (ev_up m.1 144 (2 + 3 * t + 2) v, m.2) := by
  obtain ⟨a1, a2, a3, a4, a5⟩ := h
  refine ⟨TR_up144 a1 (by omega), ⟨?_, ?_, fun i hi => ⟨?_, ?_, ?_⟩⟩, ?_, ?_, ?_⟩
  · rw [upI_nk _ _ _ _ (by omega)]; exact a2.1
  · rw [upI_nk _ _ _ _ (by omega)]; exact a2.2.1
  · rw [upI_nk _ _ _ _ (by omega)]; exact (a2.2.2 i hi).1
  · rw [upI_nk _ _ _ _ (by omega)]; exact (a2.2.2 i hi).2.1
  · show ev_up m.1 144 (2 + 3 * t + 2) v 144 (2 + 3 * i + 2) = sp_up S.2.2.2.2 t v i
    rw [ev_up_at]
    unfold sp_up
    by_cases e : i = t
    · rw [if_pos (by omega), if_pos e]
    · rw [if_neg (by omega), if_neg e]; exact (a2.2.2 i hi).2.2
  · rw [upI_na _ _ _ _ (by decide)]; exact a3
  · rw [upI_na _ _ _ _ (by decide)]; exact a4
  · rw [upI_na _ _ _ _ (by decide)]; exact a5
theorem r_betL {f k q N : Nat} {K : sp_K} {w : Int32} {m0 : ev_M} {S : sp_S} {kf : Int32 → Int32 → ev_M → Option (Int32 × ev_M)} (hf : 1700 ≤ f) (hX : RX K w k q m0) (h0 : RS m0 K.1 S) (hr : sp_rg S) (h9 : S.1.toInt ≤ 999) (hN : 1 ≤ N) (hN2 : N ≤ 100) : ∀ (j t n : Nat) (m : ev_M) (x : Int32 × Int32 × Int32), t + j = K.1 → j < n → RI K S 0 m0 m → ∃ m', FX12_better_L39 f kf (Int32.ofNat N) n x.1 x.2.1 (Int32.ofNat t) m = kf (betF (okY S) (vY K w S N) j t x).1 (betF (okY S) (vY K w S N) j t x).2.1 m' ∧ RI K S 0 m0 m' := by
  have hT := hX.1.1
  intro j
  induction j with
  | zero =>
    intro t n m x h1 h2 q1
    obtain ⟨n, rfl⟩ : ∃ z, n = z + 1 := ⟨n - 1, by omega⟩
    rw [FX12_better_L39, r_tm (RI_36 hX q1), bd_some, if_pos ((n_le (by omega) (by omega)).mpr (by omega))]
    exact ⟨m, rfl, q1⟩
  | succ j ih =>
    intro t n m x h1 h2 q1
    obtain ⟨n, rfl⟩ : ∃ z, n = z + 1 := ⟨n - 1, by omega⟩
    have hy := (hr.2.2 t (by omega)).2.2
    rw [FX12_better_L39, r_tm (RI_36 hX q1), bd_some, if_neg (fun z => by rw [n_le (by omega) (by omega)] at z; omega), r_yes (by omega), bd_some, (q1.2.1.2.2 t (by omega)).2.2]
    unfold FX12_better_J97 betF
    rw [s_1, ix2, if_pos ((n_in (by omega)).mpr (by omega)), n_nat (by omega)]
    by_cases z : S.2.2.2.2 t = 0
    · rw [z, if_neg (show ¬ (0 : Int32) = 1 by decide), if_pos rfl]
      obtain ⟨m', r1, r2⟩ := @r_dIn f k q N K w 0 m0 (ev_up m.1 144 (2 + 3 * t + 2) 1, m.2) (yesS t S) S hf hX h0 (yesS_rg hr) h9 hN hN2 (RI_ye hT (by omega) q1)
      have r1' : FX12_doubtsIn f (Int32.ofNat N) (ev_up m.1 144 (2 + 3 * t + 2) 1, m.2) = some (vY K w S N t, m') := r1
      rw [r1', bd_some]
      by_cases e : vY K w S N t < x.1
      · rw [if_pos e, if_pos ⟨by unfold okY; rw [z]; rfl, e⟩]
        exact ih (t + 1) n m' (vY K w S N t, Int32.ofNat t, -1) (by omega) (by omega) r2
      · rw [if_neg e, if_neg (fun q => e q.2)]
        exact ih (t + 1) n m' x (by omega) (by omega) r2
    · have z1 : S.2.2.2.2 t = 1 := hy.resolve_left z
      rw [z1, if_pos rfl, if_neg n10, if_neg (fun q => by have := q.1; unfold okY at this; rw [decide_eq_true_iff] at this; exact z this)]
      exact ih (t + 1) n m x (by omega) (by omega) q1
theorem ST_y {c : Nat} {tb : Bool} {K : sp_K} {S : sp_S} {kc : Nat} {mc mm : ev_M} (h : SimW c tb K S kc mc mm) : ∃ y, mc.1 103 4 = Int32.ofNat y ∧ y < 2 ^ K.1 ∧ y < 256 := by
  obtain ⟨a1, a2, a3, a4, a5, a6, a7, a8, a9, a10, a11, a12⟩ := h
  obtain ⟨y, y1, y2⟩ := a8.2.2.2.2
  exact ⟨y, y1, y2, Nat.lt_of_lt_of_le y2 (p2_le a7.2.2.2.2.1)⟩
theorem B_better (f : Nat) (hf : 4000 ≤ f) (b a : Int32) : Both (FX11_better f b a) (FX12_better f b a) := Both_m (fun c tb K S kc mc mm h => by
  have hh := h
  obtain ⟨a1, a2, a3, a4, a5, a6, a7, a8, a9, a10, a11, a12⟩ := h
  have k0 := a7
  obtain ⟨k1, k2, k3, k4, k5, k6, k7, krest⟩ := a7
  unfold FX11_better FX12_better
  cases tb
  · rw [c_t0 k0, bd_some, if_pos rfl, r_ahF (SimW_F hh).2, bd_some, if_pos rfl]
    exact ⟨_, mc, mm, rfl, rfl, frP_refl _ _, fM_refl _⟩
  obtain ⟨w, k, q, x1, x2, x3, x4, x5, x6, x7, x8, x9⟩ := SimW_T hh
  rw [c_t1 k0, bd_some, if_neg n10]
  by_cases h3 : 1 ≤ b.toInt ∧ b.toInt ≤ 30 ∧ S.1.toInt + b.toInt ≤ 999
  rotate_left
  · rw [c_can0 (l := 1) (h := 30) rfl rfl x3.1 (by omega) (by omega) x5.1.1 x6 h3, bd_some, if_pos rfl, r_ah0 (l := 1) (h := 30) rfl rfl x4.1 x9 (by omega) (by omega) x5.1.1 x6 h3, bd_some, if_pos rfl]
    exact ⟨_, mc, mm, rfl, rfl, frP_refl _ _, fM_refl _⟩
  rw [c_can1 (l := 1) (h := 30) rfl rfl x3.1 (by omega) (by omega) x5.1.1 x6 h3, bd_some, if_neg n10, r_ah1 (l := 1) (h := 30) rfl rfl x4.1 x9 (by omega) (by omega) x5.1.1 x6 h3, bd_some, if_neg n10]
  obtain ⟨N, rfl, n3, n4⟩ := n_ex (a := b) (by omega)
  by_cases h1 : a < 0
  · rw [if_pos h1]
    rw [i_lt, e0'] at h1
    rw [r_in0 (by rw [j_wide, j_0, j_1]; omega), bd_some, if_pos rfl]
    exact ⟨_, mc, mm, rfl, rfl, frP_refl _ _, fM_refl _⟩
  rw [if_neg h1]
  rw [i_lt, e0'] at h1
  by_cases h2 : a ≤ 1
  rotate_left
  · rw [if_neg h2]
    rw [i_le, e1'] at h2
    rw [r_in0 (by rw [j_wide, j_0, j_1]; omega), bd_some, if_pos rfl]
    exact ⟨_, mc, mm, rfl, rfl, frP_refl _ _, fM_refl _⟩
  rw [if_pos h2]
  rw [i_le, e1'] at h2
  rw [r_in1 (by rw [j_wide, j_0, j_1]; omega), bd_some, if_neg n10]
  obtain ⟨y, y1, y2, y3⟩ := ST_y hh
  obtain ⟨mc', c1, c2, c3⟩ := @c_seekYes f c k N y K w mc S (by omega) x1 x3 y1 y3 x5 x6 (by omega) (by omega)
  obtain ⟨m2, t1, t2, t3, t4, t5, t6⟩ := @r_aside f K.1 mm S (by omega) x4
  obtain ⟨m3, u1, u2⟩ := @r_dIn f k q N K w 0 mm m2 S S (by omega) x2 x4 x5 x6 (by omega) (by omega) ⟨t2, t3, by rw [t4]; exact x7, t5, t6⟩
  obtain ⟨m4, v1, v2⟩ := @r_betL f k q N K w mm S (fun e15 e16 m17 => (ev_bd (FX12_takesBack f m17) (fun _ m19 => (if e16 = (-1) then some ((-1), m19) else (if a = 0 then some (e16, m19) else some (e15, m19)))))) (by omega) x2 x4 x5 x6 (by omega) (by omega) K.1 0 f m3 (Int32.ofNat (dc K w 0 S N), -1, -1) (by omega) (by omega) u2
  obtain ⟨m5, z1, z2, z3⟩ := @r_back f K.1 mm m4 S (by omega) x2.1.1 v2.1 x4 (by rw [v2.2.2.1, x7]) x8
  have v1' : FX12_better_L39 f (fun e15 e16 m17 => (ev_bd (FX12_takesBack f m17) (fun _ m19 => (if e16 = (-1) then some ((-1), m19) else (if a = 0 then some (e16, m19) else some (e15, m19)))))) (Int32.ofNat N) f (Int32.ofNat (dc K w 0 S N)) (-1) 0 m3 = _ := v1
  rw [c1, bd_some, t1, bd_some, u1, bd_some, v1', z1, bd_some, c3.2.1, c3.1]
  generalize betF (okY S) (vY K w S N) K.1 0 (Int32.ofNat (dc K w 0 S N), -1, -1) = X
  by_cases e : X.2.1 = -1
  · rw [if_pos e, if_pos e]; exact ⟨_, mc', m5, rfl, rfl, c2, z2⟩
  · rw [if_neg e, if_neg e]
    by_cases e2 : a = 0
    · rw [if_pos e2, if_pos e2]; exact ⟨_, mc', m5, rfl, rfl, c2, z2⟩
    · rw [if_neg e2, if_neg e2]; exact ⟨_, mc', m5, rfl, rfl, c2, z2⟩)
