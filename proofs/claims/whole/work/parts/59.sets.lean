/-! cheered, sighs -/
theorem z0 : Int32.ofNat 0 = 0 := rfl
theorem n_z {a : Nat} (h : a < 2147483648) : Int32.ofNat a = 0 ↔ a = 0 := n_eq (b := 0) h (by omega)
def chS (cb : Int32) (T : Nat) (S : sp_S) : sp_S := (S.1, S.2.1, S.2.2.1, (fun t => if t < T ∧ bt cb t = 1 then 9 else S.2.2.2.1 t), S.2.2.2.2)
theorem chS_rg {cb : Int32} {T : Nat} {S : sp_S} (h : sp_rg S) : sp_rg (chS cb T S) := by
  obtain ⟨a, b, c⟩ := h
  refine ⟨a, b, fun t ht => ⟨(c t ht).1, ?_, (c t ht).2.2⟩⟩
  show g9 (if t < T ∧ bt cb t = 1 then 9 else S.2.2.2.1 t)
  split
  · unfold g9; decide
  · exact (c t ht).2.1
theorem bt0_all : ∀ t, t < 8 → bt 0 t = 0 := by decide +kernel
theorem chS_0 {T : Nat} {S : sp_S} (hT : T ≤ 8) : chS 0 T S = S := by
  have e : (fun t => if t < T ∧ bt 0 t = 1 then (9 : Int32) else S.2.2.2.1 t) = S.2.2.2.1 := by
    funext t
    by_cases h : t < T
    · rw [bt0_all t (by omega), if_neg (fun z => absurd z.2 (by decide))]
    · rw [if_neg (fun z => h z.1)]
  unfold chS
  rw [e]
theorem c_cheL {f c k : Nat} {K : sp_K} {w cb : Int32} {m0 : ev_M} {S : sp_S} {kf : ev_M → Option (Int32 × ev_M)} (hX : CX c K w k m0) : ∀ (j t n : Nat) (m : ev_M), t + j = K.1 → j < n → frP relC m0 m → CS m 30 (chS cb t S) → ∃ m', FX0_fires_L11 f kf cb n (Int32.ofNat t) m = kf m' ∧ frP relC m0 m' ∧ CS m' 30 (chS cb K.1 S) := by
  have hT := hX.2.2.2.1.2.1
  intro j
  induction j with
  | zero =>
    intro t n m h1 h2 q1 q2
    obtain ⟨n, rfl⟩ : ∃ z, n = z + 1 := ⟨n - 1, by omega⟩
    have : t = K.1 := by omega
    subst this
    rw [FX0_fires_L11, c_towers (CX_fr q1 hX), bd_some, if_pos ((n_le (by omega) (by omega)).mpr (Nat.le_refl _))]
    exact ⟨m, rfl, q1, q2⟩
  | succ j ih =>
    intro t n m h1 h2 q1 q2
    obtain ⟨n, rfl⟩ : ∃ z, n = z + 1 := ⟨n - 1, by omega⟩
    rw [FX0_fires_L11, c_towers (CX_fr q1 hX), bd_some, if_neg (fun z => by rw [n_le (by omega) (by omega)] at z; omega)]
    unfold FX0_fires_J45
    rw [s_1, show ((cb >>> (Int32.ofNat t &&& 31)) &&& 1) = bt cb t from rfl]
    by_cases hb : bt cb t = 1
    · rw [if_pos hb, if_pos ((n_in (by omega)).mpr (by omega)), n_nat (by omega)]
      refine ih (t + 1) n _ (by omega) (by omega) (frP_I (by unfold relC; omega) q1) ⟨?_, ?_, fun i hi => ⟨?_, ?_, ?_⟩⟩
      · rw [upI_na _ _ _ _ (by decide)]; exact q2.1
      · rw [upI_na _ _ _ _ (by decide)]; exact q2.2.1
      · rw [upI_na _ _ _ _ (by decide)]; exact (q2.2.2 i hi).1
      · show ev_up m.1 32 t 9 32 i = (if i < t + 1 ∧ bt cb i = 1 then 9 else S.2.2.2.1 i)
        rw [ev_up_at]
        by_cases e : i = t
        · rw [if_pos e, e, if_pos ⟨by omega, hb⟩]
        · rw [if_neg e]
          have := (q2.2.2 i hi).2.1
          refine Eq.trans (show m.1 32 i = (if i < t ∧ bt cb i = 1 then 9 else S.2.2.2.1 i) from this) ?_
          by_cases z : i < t ∧ bt cb i = 1
          · rw [if_pos z, if_pos ⟨by omega, z.2⟩]
          · rw [if_neg z, if_neg (fun y => z ⟨by omega, y.2⟩)]
      · rw [upI_na _ _ _ _ (by decide)]; exact (q2.2.2 i hi).2.2
    · rw [if_neg hb]
      refine ih (t + 1) n m (by omega) (by omega) q1 ⟨q2.1, q2.2.1, fun i hi => ⟨(q2.2.2 i hi).1, ?_, (q2.2.2 i hi).2.2⟩⟩
      have := (q2.2.2 i hi).2.1
      refine Eq.trans this ?_
      show (if i < t ∧ bt cb i = 1 then (9 : Int32) else S.2.2.2.1 i) = (if i < t + 1 ∧ bt cb i = 1 then 9 else S.2.2.2.1 i)
      by_cases z : i < t ∧ bt cb i = 1
      · rw [if_pos z, if_pos ⟨by omega, z.2⟩]
      · rw [if_neg z, if_neg (fun y => z ⟨by
          have : i ≠ t := fun e => hb (by rw [← e]; exact y.2)
          omega, y.2⟩)]
theorem c_firL {f c k N : Nat} {K : sp_K} {w sg : Int32} {m0 : ev_M} {S : sp_S} (hf : 1700 ≤ f) (hX : CX c K w k m0) (hr : sp_rg S) (h9 : S.1.toInt ≤ 999) (hN : S.1.toInt + N ≤ 999) (hN2 : N ≤ 100) : ∀ (j t n : Nat) (m : ev_M), t + j = N → j < n → frP relC m0 m → CS m 30 (gs K sg S t) → fc K w k sg S t = 0 → ∃ m', FX0_fires_L54 f (fun m10 => some (0, m10)) (Int32.ofNat N) sg n (Int32.ofNat t) m = some (if fc K w k sg S N = 0 then 0 else 1, m') ∧ frP relC m0 m' := by
  have hT := hX.2.2.2.1.2.1
  intro j
  induction j with
  | zero =>
    intro t n m h1 h2 q1 q2 q3
    obtain ⟨n, rfl⟩ : ∃ z, n = z + 1 := ⟨n - 1, by omega⟩
    have : t = N := by omega
    subst this
    rw [FX0_fires_L54, if_pos ((n_le (by omega) (by omega)).mpr (Nat.le_refl _)), if_pos q3]
    exact ⟨m, rfl, q1⟩
  | succ j ih =>
    intro t n m h1 h2 q1 q2 q3
    obtain ⟨n, rfl⟩ : ∃ z, n = z + 1 := ⟨n - 1, by omega⟩
    have hg := gs_rd (K := K) (sg := sg) hr h9 hT t (by omega)
    have eJ : (if Int32.ofNat t = 0 then (FX0_fires_J79 f (FX0_fires_L54 f (fun m10 => some (0, m10)) (Int32.ofNat N) sg n) (Int32.ofNat t) sg m) else (FX0_fires_J79 f (FX0_fires_L54 f (fun m10 => some (0, m10)) (Int32.ofNat N) sg n) (Int32.ofNat t) (0 : Int32) m)) = FX0_fires_J79 f (FX0_fires_L54 f (fun m10 => some (0, m10)) (Int32.ofNat N) sg n) (Int32.ofNat t) (if t = 0 then sg else 0) m := by
      by_cases e : t = 0
      · subst e; rw [if_pos z0, if_pos rfl]
      · rw [if_neg (fun z => e ((n_z (by omega)).mp z)), if_neg e]
    obtain ⟨m', r1, r2, r3, r4, r5⟩ := @c_goT f 30 c k K w (if t = 0 then sg else 0) m0 m (gs K sg S t) hf (by unfold okT; omega) hX q1 q2 hg.1 (by rw [hg.2]; omega)
    rw [FX0_fires_L54, if_neg (fun z => by rw [n_le (by omega) (by omega)] at z; omega), eJ]
    unfold FX0_fires_J79
    rw [r1, bd_some, c_isFire (by omega) (CX_fr r2 hX) r5, bd_some, s_1]
    show ∃ m'', (if (if rowS (dbt w (tnG K sg S t)) K.1 k = -1 then (0 : Int32) else 1) = 0 then _ else _) = _ ∧ _
    by_cases z : rowS (dbt w (tnG K sg S t)) K.1 k = -1
    · rw [if_pos z, if_pos rfl]
      exact ih (t + 1) n m' (by omega) (by omega) r2 r3 (by unfold fc; rw [if_pos z, q3])
    · rw [if_neg z, if_neg n10]
      have h1' : fc K w k sg S (t + 1) = 1 := by unfold fc; rw [if_neg z, q3]
      have := fc_mono K w k sg S (t + 1) j
      rw [show t + 1 + j = N by omega, h1'] at this
      rw [if_neg (by omega)]
      exact ⟨m', rfl, r2⟩
theorem c_fires {f c k N : Nat} {K : sp_K} {w cb sg : Int32} {m0 m : ev_M} {S : sp_S} (hf : 1700 ≤ f) (hX : CX c K w k m0) (hS : CS m0 103 S) (hr : sp_rg S) (h9 : S.1.toInt ≤ 999) (hN : S.1.toInt + N ≤ 999) (hN2 : N ≤ 100) (hm : frP relC m0 m) : ∃ m', FX0_fires f 103 (Int32.ofNat N) cb sg m = some (if fc K w k sg (chS cb K.1 S) N = 0 then 0 else 1, m') ∧ frP relC m0 m' := by
  have hT := hX.2.2.2.1.2.1
  obtain ⟨m1, r1, r2, r3⟩ := @c_trial f 30 m0 m S (by omega) (by unfold okT; omega) hm hS
  have e0 : chS cb 0 S = S := by
    unfold chS
    have : (fun t => if t < 0 ∧ bt cb t = 1 then (9 : Int32) else S.2.2.2.1 t) = S.2.2.2.1 := by
      funext t; rw [if_neg (fun z => by omega)]
    rw [this]
  obtain ⟨m2, s1, s2, s3⟩ := @c_cheL f c k K w cb m0 S (fun m5 => (FX0_fires_L54 f (fun m10 => some (0, m10)) (Int32.ofNat N) sg f (0 : Int32) m5)) hX K.1 0 f m1 (by omega) (by omega) r2 (by rw [e0]; exact r3)
  obtain ⟨m3, t1, t2⟩ := @c_firL f c k N K w sg m0 (chS cb K.1 S) hf hX (chS_rg hr) h9 hN hN2 N 0 f m2 (by omega) (by omega) s2 s3 rfl
  unfold FX0_fires
  rw [r1, bd_some]
  rw [show (0 : Int32) = Int32.ofNat 0 from rfl] at s1 t1 ⊢
  rw [s1]
  exact ⟨m3, t1, t2⟩
def oi (r : Option Nat) : Int32 := r.elim (-1) Int32.ofNat
def pCheer (K : sp_K) (w : Int32) (k : Nat) (S : sp_S) (N b : Nat) : Bool := decide (fc K w k 0 (chS (Int32.ofNat b) K.1 S) N = 0)
theorem c_fwL_Cheer {f c k N s : Nat} {K : sp_K} {w : Int32} {m0 : ev_M} {S : sp_S} {kf : ev_M → Option (Int32 × ev_M)} (hf : 1700 ≤ f) (hX : CX c K w k m0) (hS : CS m0 103 S) (hr : sp_rg S) (h9 : S.1.toInt ≤ 999) (hN : S.1.toInt + N ≤ 999) (hN2 : N ≤ 100) (hs : s ≤ 4) : ∀ (j b n : Nat) (m : ev_M), b + j = 2 ^ K.1 → j < n → frP relC m0 m → ∃ m', FX0_fewestToCheer_L10 f kf 103 (Int32.ofNat N) (Int32.ofNat s) n (Int32.ofNat b) m = (match idx (fun b => decide (bc b = s) && pCheer K w k S N b) j b with | none => kf m' | some i => some (Int32.ofNat i, m')) ∧ frP relC m0 m' := by
  have hT := hX.2.2.2.1.2.1
  have h2 := p2_le hT
  intro j
  induction j with
  | zero =>
    intro b n m h1 h2' q1
    obtain ⟨n, rfl⟩ : ∃ z, n = z + 1 := ⟨n - 1, by omega⟩
    rw [FX0_fewestToCheer_L10, c_towers (CX_fr q1 hX), bd_some, sh1_all _ (by omega), if_pos ((n_le (by omega) (by omega)).mpr (by omega))]
    exact ⟨m, rfl, q1⟩
  | succ j ih =>
    intro b n m h1 h2' q1
    obtain ⟨n, rfl⟩ : ∃ z, n = z + 1 := ⟨n - 1, by omega⟩
    rw [FX0_fewestToCheer_L10, c_towers (CX_fr q1 hX), bd_some, sh1_all _ (by omega), if_neg (fun z => by rw [n_le (by omega) (by omega)] at z; omega), c_bc (by omega), bd_some]
    unfold FX0_fewestToCheer_J48 idx
    rw [s_1]
    have hb8 := bc_le b
    by_cases e : bc b = s
    · rw [if_pos (by rw [e])]
      obtain ⟨m', r1, r2⟩ := @c_fires f c k N K w (Int32.ofNat b) 0 m0 m S hf hX hS hr h9 hN hN2 q1
      rw [r1, bd_some]
      by_cases z : fc K w k 0 (chS (Int32.ofNat b) K.1 S) N = 0
      · rw [if_pos z, if_pos rfl, if_pos (by simp [e, pCheer, z])]
        exact ⟨m', rfl, r2⟩
      · rw [if_neg z, if_neg n10, if_neg (by simp [e, pCheer, z])]
        exact ih (b + 1) n m' (by omega) (by omega) r2
    · rw [if_neg (fun z => e ((n_eq (by omega) (by omega)).mp z)), if_neg (by simp [e])]
      exact ih (b + 1) n m (by omega) (by omega) q1
theorem c_fw_Cheer {f c k N : Nat} {K : sp_K} {w : Int32} {m0 : ev_M} {S : sp_S} (hf : 1700 ≤ f) (hX : CX c K w k m0) (hS : CS m0 103 S) (hr : sp_rg S) (h9 : S.1.toInt ≤ 999) (hN : S.1.toInt + N ≤ 999) (hN2 : N ≤ 100) : ∃ m', FX0_fewestToCheer f 103 (Int32.ofNat N) m0 = some (oi (fwC (pCheer K w k S N) (2 ^ K.1) 4 0), m') ∧ frP relC m0 m' := by
  have hT := hX.2.2.2.1.2.1
  have h2 := p2_le hT
  have e3 : (3 : Int32) = Int32.ofNat 3 := rfl
  have L : ∀ (j s n : Nat) (m : ev_M), s + j = 4 → j < n → frP relC m0 m → ∃ m', FX0_fewestToCheer_L2 f (fun m8 => some ((-1), m8)) 103 (Int32.ofNat N) n (Int32.ofNat s) m = some (oi (fwC (pCheer K w k S N) (2 ^ K.1) j s), m') ∧ frP relC m0 m' := by
    intro j
    induction j with
    | zero =>
      intro s n m h1 h2' q1
      obtain ⟨n, rfl⟩ : ∃ z, n = z + 1 := ⟨n - 1, by omega⟩
      rw [FX0_fewestToCheer_L2, if_pos (by rw [e3, n_lt (by omega) (by omega)]; omega)]
      exact ⟨m, rfl, q1⟩
    | succ j ih =>
      intro s n m h1 h2' q1
      obtain ⟨n, rfl⟩ : ∃ z, n = z + 1 := ⟨n - 1, by omega⟩
      obtain ⟨m1, r1, r2⟩ := @c_fwL_Cheer f c k N s K w m0 S (fun m7 => (FX0_fewestToCheer_L2 f (fun m8 => some ((-1), m8)) 103 (Int32.ofNat N) n (Int32.ofNat s + 1) m7)) hf hX hS hr h9 hN hN2 (by omega) (2 ^ K.1) 0 f m (by omega) (by omega) q1
      rw [FX0_fewestToCheer_L2, if_neg (by rw [e3, n_lt (by omega) (by omega)]; omega)]
      rw [show (0 : Int32) = Int32.ofNat 0 from rfl, r1]
      unfold fwC
      cases hi : idx (fun b => decide (bc b = s) && pCheer K w k S N b) (2 ^ K.1) 0 with
      | none =>
        simp only []
        rw [s_1]
        exact ih (s + 1) n m1 (by omega) (by omega) r2
      | some i => exact ⟨m1, rfl, r2⟩
  unfold FX0_fewestToCheer
  exact L 4 0 f m0 (by omega) (by omega) (frP_refl _ _)
def pSigh (K : sp_K) (w : Int32) (k : Nat) (S : sp_S) (N b : Nat) : Bool := decide (fc K w k (Int32.ofNat b) S N ≠ 0)
theorem c_fwL_Sigh {f c k N s : Nat} {K : sp_K} {w : Int32} {m0 : ev_M} {S : sp_S} {kf : ev_M → Option (Int32 × ev_M)} (hf : 1700 ≤ f) (hX : CX c K w k m0) (hS : CS m0 103 S) (hr : sp_rg S) (h9 : S.1.toInt ≤ 999) (hN : S.1.toInt + N ≤ 999) (hN2 : N ≤ 100) (hs : s ≤ 4) : ∀ (j b n : Nat) (m : ev_M), b + j = 2 ^ K.1 → j < n → frP relC m0 m → ∃ m', FX0_fewestToSigh_L10 f kf 103 (Int32.ofNat N) (Int32.ofNat s) n (Int32.ofNat b) m = (match idx (fun b => decide (bc b = s) && pSigh K w k S N b) j b with | none => kf m' | some i => some (Int32.ofNat i, m')) ∧ frP relC m0 m' := by
  have hT := hX.2.2.2.1.2.1
  have h2 := p2_le hT
  intro j
  induction j with
  | zero =>
    intro b n m h1 h2' q1
    obtain ⟨n, rfl⟩ : ∃ z, n = z + 1 := ⟨n - 1, by omega⟩
    rw [FX0_fewestToSigh_L10, c_towers (CX_fr q1 hX), bd_some, sh1_all _ (by omega), if_pos ((n_le (by omega) (by omega)).mpr (by omega))]
    exact ⟨m, rfl, q1⟩
  | succ j ih =>
    intro b n m h1 h2' q1
    obtain ⟨n, rfl⟩ : ∃ z, n = z + 1 := ⟨n - 1, by omega⟩
    rw [FX0_fewestToSigh_L10, c_towers (CX_fr q1 hX), bd_some, sh1_all _ (by omega), if_neg (fun z => by rw [n_le (by omega) (by omega)] at z; omega), c_bc (by omega), bd_some]
    unfold FX0_fewestToSigh_J48 idx
    rw [s_1]
    have hb8 := bc_le b
    by_cases e : bc b = s
    · rw [if_pos (by rw [e])]
      obtain ⟨m', r1, r2⟩ := @c_fires f c k N K w 0 (Int32.ofNat b) m0 m S hf hX hS hr h9 hN hN2 q1
      rw [chS_0 hT] at r1
      rw [r1, bd_some]
      by_cases z : fc K w k (Int32.ofNat b) (S) N = 0
      · rw [if_pos z, if_pos rfl, if_neg (by simp [e, pSigh, z])]
        exact ih (b + 1) n m' (by omega) (by omega) r2
      · rw [if_neg z, if_neg n10, if_pos (by simp [e, pSigh, z])]
        exact ⟨m', rfl, r2⟩
    · rw [if_neg (fun z => e ((n_eq (by omega) (by omega)).mp z)), if_neg (by simp [e])]
      exact ih (b + 1) n m (by omega) (by omega) q1
theorem c_fw_Sigh {f c k N : Nat} {K : sp_K} {w : Int32} {m0 : ev_M} {S : sp_S} (hf : 1700 ≤ f) (hX : CX c K w k m0) (hS : CS m0 103 S) (hr : sp_rg S) (h9 : S.1.toInt ≤ 999) (hN : S.1.toInt + N ≤ 999) (hN2 : N ≤ 100) : ∃ m', FX0_fewestToSigh f 103 (Int32.ofNat N) m0 = some (oi (fwC (pSigh K w k S N) (2 ^ K.1) 4 0), m') ∧ frP relC m0 m' := by
  have hT := hX.2.2.2.1.2.1
  have h2 := p2_le hT
  have e3 : (3 : Int32) = Int32.ofNat 3 := rfl
  have L : ∀ (j s n : Nat) (m : ev_M), s + j = 4 → j < n → frP relC m0 m → ∃ m', FX0_fewestToSigh_L2 f (fun m8 => some ((-1), m8)) 103 (Int32.ofNat N) n (Int32.ofNat s) m = some (oi (fwC (pSigh K w k S N) (2 ^ K.1) j s), m') ∧ frP relC m0 m' := by
    intro j
    induction j with
    | zero =>
      intro s n m h1 h2' q1
      obtain ⟨n, rfl⟩ : ∃ z, n = z + 1 := ⟨n - 1, by omega⟩
      rw [FX0_fewestToSigh_L2, if_pos (by rw [e3, n_lt (by omega) (by omega)]; omega)]
      exact ⟨m, rfl, q1⟩
    | succ j ih =>
      intro s n m h1 h2' q1
      obtain ⟨n, rfl⟩ : ∃ z, n = z + 1 := ⟨n - 1, by omega⟩
      obtain ⟨m1, r1, r2⟩ := @c_fwL_Sigh f c k N s K w m0 S (fun m7 => (FX0_fewestToSigh_L2 f (fun m8 => some ((-1), m8)) 103 (Int32.ofNat N) n (Int32.ofNat s + 1) m7)) hf hX hS hr h9 hN hN2 (by omega) (2 ^ K.1) 0 f m (by omega) (by omega) q1
      rw [FX0_fewestToSigh_L2, if_neg (by rw [e3, n_lt (by omega) (by omega)]; omega)]
      rw [show (0 : Int32) = Int32.ofNat 0 from rfl, r1]
      unfold fwC
      cases hi : idx (fun b => decide (bc b = s) && pSigh K w k S N b) (2 ^ K.1) 0 with
      | none =>
        simp only []
        rw [s_1]
        exact ih (s + 1) n m1 (by omega) (by omega) r2
      | some i => exact ⟨m1, rfl, r2⟩
  unfold FX0_fewestToSigh
  exact L 4 0 f m0 (by omega) (by omega) (frP_refl _ _)
/-! the reference's sets -/
theorem TR_up144 {m0 m : ev_M} {k : Nat} {v : Int32} (h : TR m0 m) (hk : k < 26) : TR m0 (ev_up m.1 144 k v, m.2) := by
  obtain ⟨a1, a2, a3, a4, a5⟩ := h
  refine ⟨fun a i z => ?_, a2, a3, fun i hi => ?_, ?_⟩
  · show ev_up m.1 144 k v a i = _
    by_cases e : a = 144
    · subst e; rw [up_nk _ _ _ (by omega)]; exact a1 _ _ z
    · rw [up_na _ _ _ _ e]; exact a1 _ _ z
  · rw [upI_na _ _ _ _ (by decide)]; exact a4 i hi
  · rw [upI_na _ _ _ _ (by decide)]; exact a5
theorem TR_up53 {m0 m : ev_M} {v : Int32} (h : TR m0 m) : TR m0 (ev_up m.1 112 53 v, m.2) := by
  obtain ⟨a1, a2, a3, a4, a5⟩ := h
  refine ⟨fun a i z => ?_, a2, a3, fun i hi => ?_, ?_⟩
  · show ev_up m.1 112 53 v a i = _
    by_cases e : a = 112
    · subst e; rw [up_nk _ _ _ (by omega)]; exact a1 _ _ z
    · rw [up_na _ _ _ _ e]; exact a1 _ _ z
  · rw [upI_na _ _ _ _ (by decide)]; exact a4 i hi
  · rw [upI_nk _ _ _ _ (by decide)]; exact a5
theorem RI_36 {K : sp_K} {S : sp_S} {w sg : Int32} {k q : Nat} {m0 m : ev_M} (hX : RX K w k q m0) (h : RI K S sg m0 m) : m.1 112 36 = Int32.ofNat K.1 := (RX_TR h.1 hX).1.2.1
theorem RI_ch {K : sp_K} {S : sp_S} {sg : Int32} {t : Nat} {v : Int32} {m0 m : ev_M} (hT : K.1 ≤ 8) (ht : t < K.1) (h : RI K S sg m0 m) : RI K (S.1, S.2.1, S.2.2.1, sp_up S.2.2.2.1 t v, S.2.2.2.2) sg m0 (ev_up m.1 144 (2 + 3 * t + 1) v, m.2) := by
  obtain ⟨a1, a2, a3, a4, a5⟩ := h
  refine ⟨TR_up144 a1 (by omega), ⟨?_, ?_, fun i hi => ⟨?_, ?_, ?_⟩⟩, ?_, ?_, ?_⟩
  · rw [upI_nk _ _ _ _ (by omega)]; exact a2.1
  · rw [upI_nk _ _ _ _ (by omega)]; exact a2.2.1
  · rw [upI_nk _ _ _ _ (by omega)]; exact (a2.2.2 i hi).1
  · show ev_up m.1 144 (2 + 3 * t + 1) v 144 (2 + 3 * i + 1) = sp_up S.2.2.2.1 t v i
    rw [ev_up_at]
    unfold sp_up
    by_cases e : i = t
    · rw [if_pos (by omega), if_pos e]
    · rw [if_neg (by omega), if_neg e]; exact (a2.2.2 i hi).2.1
  · rw [upI_nk _ _ _ _ (by omega)]; exact (a2.2.2 i hi).2.2
  · rw [upI_na _ _ _ _ (by decide)]; exact a3
  · rw [upI_na _ _ _ _ (by decide)]; exact a4
  · rw [upI_na _ _ _ _ (by decide)]; exact a5
theorem RI_eq {K : sp_K} {S S' : sp_S} {sg : Int32} {m0 m : ev_M} (h : RI K S sg m0 m) (h1 : S'.1 = S.1) (h2 : S'.2.1 = S.2.1) (h3 : ∀ t, t < K.1 → S'.2.2.1 t = S.2.2.1 t ∧ S'.2.2.2.1 t = S.2.2.2.1 t ∧ S'.2.2.2.2 t = S.2.2.2.2 t) : RI K S' sg m0 m := by
  obtain ⟨a1, a2, a3⟩ := h
  exact ⟨a1, ⟨a2.1.trans h1.symm, a2.2.1.trans h2.symm, fun t ht => ⟨(a2.2.2 t ht).1.trans (h3 t ht).1.symm, (a2.2.2 t ht).2.1.trans (h3 t ht).2.1.symm, (a2.2.2 t ht).2.2.trans (h3 t ht).2.2.symm⟩⟩, a3⟩
theorem r_cheL {f k q : Nat} {K : sp_K} {w cb : Int32} {m0 : ev_M} {S : sp_S} {kf : ev_M → Option (Int32 × ev_M)} (hX : RX K w k q m0) : ∀ (j t n : Nat) (m : ev_M), t + j = K.1 → j < n → RI K (chS cb t S) 0 m0 m → ∃ m', FX12_isCheered_L2 f kf cb n (Int32.ofNat t) m = kf m' ∧ RI K (chS cb K.1 S) 0 m0 m' := by
  have hT := hX.1.1
  intro j
  induction j with
  | zero =>
    intro t n m h1 h2 q1
    obtain ⟨n, rfl⟩ : ∃ z, n = z + 1 := ⟨n - 1, by omega⟩
    have : t = K.1 := by omega
    subst this
    rw [FX12_isCheered_L2, r_tm (RI_36 hX q1), bd_some, if_pos ((n_le (by omega) (by omega)).mpr (Nat.le_refl _))]
    exact ⟨m, rfl, q1⟩
  | succ j ih =>
    intro t n m h1 h2 q1
    obtain ⟨n, rfl⟩ : ∃ z, n = z + 1 := ⟨n - 1, by omega⟩
    rw [FX12_isCheered_L2, r_tm (RI_36 hX q1), bd_some, if_neg (fun z => by rw [n_le (by omega) (by omega)] at z; omega)]
    unfold FX12_isCheered_J33
    rw [s_1, show ((cb >>> (Int32.ofNat t &&& 31)) &&& 1) = bt cb t from rfl, ix1]
    by_cases hb : bt cb t = 1
    · rw [if_pos hb, if_pos ((n_in (by omega)).mpr (by omega)), n_nat (by omega)]
      refine ih (t + 1) n _ (by omega) (by omega) (RI_eq (RI_ch hT (by omega) q1) rfl rfl (fun i hi => ⟨rfl, ?_, rfl⟩))
      show (if i < t + 1 ∧ bt cb i = 1 then (9 : Int32) else S.2.2.2.1 i) = sp_up (fun i => if i < t ∧ bt cb i = 1 then (9 : Int32) else S.2.2.2.1 i) t 9 i
      unfold sp_up
      by_cases e : i = t
      · rw [if_pos ⟨by omega, by rw [e]; exact hb⟩, if_pos e]
      · rw [if_neg e]
        show (if i < t + 1 ∧ bt cb i = 1 then (9 : Int32) else S.2.2.2.1 i) = (if i < t ∧ bt cb i = 1 then (9 : Int32) else S.2.2.2.1 i)
        by_cases z : i < t ∧ bt cb i = 1
        · rw [if_pos z, if_pos ⟨by omega, z.2⟩]
        · rw [if_neg z, if_neg (fun y => z ⟨by omega, y.2⟩)]
    · rw [if_neg hb]
      refine ih (t + 1) n m (by omega) (by omega) (RI_eq q1 rfl rfl (fun i hi => ⟨rfl, ?_, rfl⟩))
      show (if i < t + 1 ∧ bt cb i = 1 then (9 : Int32) else S.2.2.2.1 i) = (if i < t ∧ bt cb i = 1 then (9 : Int32) else S.2.2.2.1 i)
      by_cases z : i < t ∧ bt cb i = 1
      · rw [if_pos z, if_pos ⟨by omega, z.2⟩]
      · rw [if_neg z, if_neg (fun y => z ⟨by
          have : i ≠ t := fun e => hb (by rw [← e]; exact y.2)
          omega, y.2⟩)]
theorem r_isCh {f k q N : Nat} {K : sp_K} {w cb : Int32} {m0 m : ev_M} {S : sp_S} (hf : 1700 ≤ f) (hX : RX K w k q m0) (h0 : RS m0 K.1 S) (hr : sp_rg S) (h9 : S.1.toInt ≤ 999) (hN : 1 ≤ N) (hN2 : N ≤ 100) (hI : RI K S 0 m0 m) : ∃ m', FX12_isCheered f cb (Int32.ofNat N) m = some (if fc K w k 0 (chS cb K.1 S) N = 0 then 1 else 0, m') ∧ RI K S 0 m0 m' := by
  have hT := hX.1.1
  obtain ⟨m1, r1, r2⟩ := @r_cheL f k q K w cb m0 S (fun m3 => (ev_bd (FX12_roundsGo f (Int32.ofNat N) m3) (fun _ m5 => (if (m5.1 112 55) = 0 then (FX12_isCheered_J56 f (1 : Int32) m5) else (FX12_isCheered_J56 f (0 : Int32) m5))))) hX K.1 0 f m (by omega) (by omega) (RI_eq hI rfl rfl (fun i hi => ⟨rfl, by show (if i < 0 ∧ bt cb i = 1 then (9 : Int32) else S.2.2.2.1 i) = _; rw [if_neg (fun z => by omega)], rfl⟩))
  obtain ⟨m2, s1, s2, s3, s4, s5, s6⟩ := @r_goesS f k q N K w 0 m0 m1 (chS cb K.1 S) hf hX (chS_rg hr) h9 hN2 r2
  obtain ⟨m3, t1, t2, t3, t4, t5, t6, t7, t8⟩ := @r_anew f K.1 m0 m2 S (by omega) hT s2 h0
  have hfc := fc_le K w k 0 (chS cb K.1 S) N
  unfold FX12_isCheered
  rw [z0] at r1
  rw [r1]
  show ∃ m', (ev_bd (FX12_roundsGo f (Int32.ofNat N) m1) (fun _ m5 => (if (m5.1 112 55) = 0 then (FX12_isCheered_J56 f (1 : Int32) m5) else (FX12_isCheered_J56 f (0 : Int32) m5)))) = _ ∧ _
  rw [s1, bd_some, s5]
  unfold FX12_isCheered_J56
  rw [t1, bd_some, bd_some]
  have i3 : RI K S 0 m0 m3 := ⟨t2, t3, by rw [t4, s4, if_neg (by omega)], t5, t6⟩
  by_cases z : fc K w k 0 (chS cb K.1 S) N = 0
  · rw [z, if_pos z0, if_pos (Or.inr rfl), if_pos rfl]
    exact ⟨m3, rfl, i3⟩
  · rw [if_neg (fun y => z ((n_z (by omega)).mp y)), if_pos (Or.inl rfl), if_neg z]
    exact ⟨m3, rfl, i3⟩
theorem r_isSi {f k q N : Nat} {K : sp_K} {w sg : Int32} {m0 m : ev_M} {S : sp_S} (hf : 1700 ≤ f) (hX : RX K w k q m0) (h0 : RS m0 K.1 S) (hr : sp_rg S) (h9 : S.1.toInt ≤ 999) (hN : 1 ≤ N) (hN2 : N ≤ 100) (hI : RI K S 0 m0 m) : ∃ m', FX12_isSighed f sg (Int32.ofNat N) m = some (if fc K w k sg S N = 0 then 0 else 1, m') ∧ RI K S 0 m0 m' := by
  have hT := hX.1.1
  obtain ⟨i1, i2, i3, i4, i5⟩ := hI
  have hI2 : RI K S sg m0 (ev_up m.1 112 53 sg, m.2) := by
    refine ⟨TR_up53 i1, ⟨?_, ?_, fun t ht => ?_⟩, upI_at _ _ _ _ _, ?_, ?_⟩
    · rw [upI_na _ _ _ _ (by decide)]; exact i2.1
    · rw [upI_na _ _ _ _ (by decide)]; exact i2.2.1
    · rw [upI_na _ _ _ _ (by decide)]; exact i2.2.2 t ht
    · rw [upI_nk _ _ _ _ (by decide)]; exact i4
    · rw [upI_nk _ _ _ _ (by decide)]; exact i5
  obtain ⟨m2, s1, s2, s3, s4, s5, s6⟩ := @r_goesS f k q N K w sg m0 _ S hf hX hr h9 hN2 hI2
  obtain ⟨m3, t1, t2, t3, t4, t5, t6, t7, t8⟩ := @r_anew f K.1 m0 m2 S (by omega) hT s2 h0
  have hfc := fc_le K w k sg S N
  unfold FX12_isSighed
  rw [s1, bd_some, s5]
  unfold FX12_isSighed_J22
  rw [t1, bd_some, bd_some]
  have i3 : RI K S 0 m0 m3 := ⟨t2, t3, by rw [t4, s4, if_neg (by omega)], t5, t6⟩
  by_cases z : fc K w k sg S N = 0
  · rw [z, if_pos (by decide), if_pos (Or.inl rfl), if_pos rfl]
    exact ⟨m3, rfl, i3⟩
  · rw [if_neg (fun y => by rw [i_le, n_int (by omega), e0'] at y; omega), if_pos (Or.inr rfl), if_neg z]
    exact ⟨m3, rfl, i3⟩
theorem r_fwL {f k q N : Nat} {K : sp_K} {w a1 : Int32} {m0 : ev_M} {S : sp_S} {P : Nat → Bool} {kf : Int32 → ev_M → Option (Int32 × ev_M)} (hf : 1700 ≤ f) (hX : RX K w k q m0)
    (hP : ∀ (kt : Int32 → Int32 → ev_M → Option (Int32 × ev_M)) (b : Nat) (a3 : Int32) (m : ev_M), b < 256 → RI K S 0 m0 m → ∃ m', FX12_fewest_J49 f kt a1 (Int32.ofNat N) a3 (Int32.ofNat b) m = (if P b = true then kt (Int32.ofNat b) (Int32.ofNat b + 1) m' else kt a3 (Int32.ofNat b + 1) m') ∧ RI K S 0 m0 m') :
    ∀ (j b n : Nat) (r : Option Nat) (m : ev_M), b + j = 2 ^ K.1 → j < n → RI K S 0 m0 m → (∀ i, r = some i → i < 256) → ∃ m', FX12_fewest_L9 f kf a1 (Int32.ofNat N) n (oi r) (Int32.ofNat b) m = kf (oi (fwR P j b r)) m' ∧ RI K S 0 m0 m' := by
  have hT := hX.1.1
  have h2 := p2_le hT
  have e3 : (3 : Int32) = Int32.ofNat 3 := rfl
  intro j
  induction j with
  | zero =>
    intro b n r m h1 h2' q1 q2
    obtain ⟨n, rfl⟩ : ∃ z, n = z + 1 := ⟨n - 1, by omega⟩
    rw [FX12_fewest_L9, r_tm (RI_36 hX q1), bd_some, sh1_all _ (by omega), if_pos ((n_le (by omega) (by omega)).mpr (by omega))]
    exact ⟨m, rfl, q1⟩
  | succ j ih =>
    intro b n r m h1 h2' q1 q2
    obtain ⟨n, rfl⟩ : ∃ z, n = z + 1 := ⟨n - 1, by omega⟩
    have hb8 := bc_le b
    rw [FX12_fewest_L9, r_tm (RI_36 hX q1), bd_some, sh1_all _ (by omega), if_neg (fun z => by rw [n_le (by omega) (by omega)] at z; omega), r_bits (by omega) (by omega), bd_some, e3]
    unfold fwR
    by_cases h3 : 3 < bc b
    · rw [if_pos ((n_lt (by omega) (by omega)).mpr h3), if_pos h3]
      unfold FX12_fewest_J79
      rw [s_1]
      exact ih (b + 1) n r m (by omega) (by omega) q1 q2
    rw [if_neg (fun z => h3 ((n_lt (by omega) (by omega)).mp z)), if_neg h3]
    obtain ⟨m', r1, r2⟩ := hP (FX12_fewest_L9 f kf a1 (Int32.ofNat N) n) b (oi r) m (by omega) q1
    rw [s_1] at r1
    cases r with
    | none =>
      rw [if_pos (show oi none = -1 from rfl), r1]
      by_cases hp : P b = true
      · simp only [if_pos hp]
        exact ih (b + 1) n (some b) m' (by omega) (by omega) r2 (fun i hi => by cases hi; omega)
      · simp only [if_neg hp]
        exact ih (b + 1) n none m' (by omega) (by omega) r2 (fun i hi => by cases hi)
    | some a =>
      have ha := q2 a rfl
      have ha8 := bc_le a
      rw [if_neg (show ¬ oi (some a) = -1 from n_m1 (by omega)), r_bits (by omega) (by omega), bd_some, show oi (some a) = Int32.ofNat a from rfl, r_bits (by omega) ha, bd_some]
      by_cases hb : bc b < bc a
      · rw [if_pos ((n_lt (by omega) (by omega)).mpr hb), show Int32.ofNat a = oi (some a) from rfl, r1]
        simp only [if_pos hb]
        by_cases hp : P b = true
        · simp only [if_pos hp]
          exact ih (b + 1) n (some b) m' (by omega) (by omega) r2 (fun i hi => by cases hi; omega)
        · simp only [if_neg hp]
          exact ih (b + 1) n (some a) m' (by omega) (by omega) r2 q2
      · rw [if_neg (fun z => hb ((n_lt (by omega) (by omega)).mp z))]
        simp only [if_neg hb]
        unfold FX12_fewest_J79
        rw [s_1]
        exact ih (b + 1) n (some a) m (by omega) (by omega) q1 q2
theorem r_fewest {f k q N : Nat} {K : sp_K} {w a1 : Int32} {m : ev_M} {S : sp_S} {P : Nat → Bool} (hf : 1700 ≤ f) (hX : RX K w k q m) (hS : RS m K.1 S) (h53 : m.1 112 53 = 0) (h54 : m.1 112 54 = 0)
    (hP : ∀ (kt : Int32 → Int32 → ev_M → Option (Int32 × ev_M)) (b : Nat) (a3 : Int32) (m1 : ev_M), b < 256 → RI K S 0 m m1 → ∃ m', FX12_fewest_J49 f kt a1 (Int32.ofNat N) a3 (Int32.ofNat b) m1 = (if P b = true then kt (Int32.ofNat b) (Int32.ofNat b + 1) m' else kt a3 (Int32.ofNat b + 1) m') ∧ RI K S 0 m m') :
    ∃ m', FX12_fewest f a1 (Int32.ofNat N) m = some (oi (fwR P (2 ^ K.1) 0 none), m') ∧ fM m m' := by
  have hT := hX.1.1
  have h2 := p2_le hT
  obtain ⟨m1, r1, r2, r3, r4, r5, r6⟩ := @r_aside f K.1 m S (by omega) hS
  obtain ⟨m2, s1, s2⟩ := @r_fwL f k q N K w a1 m S P (fun e15 m16 => (ev_bd (FX12_takesBack f m16) (fun _ m18 => some (e15, m18)))) hf hX hP (2 ^ K.1) 0 f none m1 (by omega) (by omega) ⟨r2, r3, by rw [r4]; exact h53, r5, r6⟩ (fun i hi => by cases hi)
  obtain ⟨m3, t1, t2, t3⟩ := @r_back f K.1 m m2 S (by omega) hT s2.1 hS (by rw [s2.2.2.1, h53]) h54
  unfold FX12_fewest
  rw [r1, bd_some]
  rw [show (0 : Int32) = Int32.ofNat 0 from rfl, show (-1 : Int32) = oi none from rfl, s1]
  show ∃ m', (ev_bd (FX12_takesBack f m2) (fun _ m18 => some (_, m18))) = _ ∧ _
  rw [t1, bd_some]
  exact ⟨m3, rfl, t2⟩
theorem B_cheered (f : Nat) (hf : 4000 ≤ f) (b : Int32) : Both (FX11_cheered f b) (FX12_cheered f b) := Both_m (fun c tb K S kc mc mm h => by
  have hh := h
  obtain ⟨a1, a2, a3, a4, a5, a6, a7, a8, a9, a10, a11, a12⟩ := h
  have k0 := a7
  obtain ⟨k1, k2, k3, k4, k5, k6, k7, krest⟩ := a7
  unfold FX11_cheered FX12_cheered
  cases tb
  · rw [c_t0 k0, bd_some, if_pos rfl, r_ahF (SimW_F hh).2, bd_some, if_pos rfl]
    exact ⟨_, mc, mm, rfl, rfl, frP_refl _ _, fM_refl _⟩
  obtain ⟨w, k, q, x1, x2, x3, x4, x5, x6, x7, x8, x9⟩ := SimW_T hh
  rw [c_t1 k0, bd_some, if_neg n10]
  by_cases h3 : 1 ≤ b.toInt ∧ b.toInt ≤ 30 ∧ S.1.toInt + b.toInt ≤ 999
  · obtain ⟨N, rfl, n3, n4⟩ := n_ex (a := b) (by omega)
    obtain ⟨mc', c1, c2⟩ := @c_fw_Cheer f c k N K w mc S (by omega) x1 x3 x5 x6 (by omega) (by omega)
    obtain ⟨mm', d1, d2⟩ := @r_fewest f k q N K w 1 mm S (pCheer K w k S N) (by omega) x2 x4 x7 x8 (fun kt b a3 m1 hb hI => by
      obtain ⟨m', z1, z2⟩ := @r_isCh f k q N K w (Int32.ofNat b) mm m1 S (by omega) x2 x4 x5 x6 (by omega) (by omega) hI
      refine ⟨m', ?_, z2⟩
      unfold FX12_fewest_J49 FX12_fewest_J76 FX12_fewest_J79
      rw [if_neg n10, z1, bd_some]
      by_cases z : fc K w k 0 (chS (Int32.ofNat b) K.1 S) N = 0
      · rw [if_pos z, if_neg n10, if_pos (by simp [pCheer, z])]
      · rw [if_neg z, if_pos rfl, if_neg (by simp [pCheer, z])])
    rw [c_can1 (l := 1) (h := 30) rfl rfl x3.1 (by omega) (by omega) x5.1.1 x6 h3, bd_some, if_neg n10, c1, bd_some, r_ah1 (l := 1) (h := 30) rfl rfl x4.1 x9 (by omega) (by omega) x5.1.1 x6 h3, bd_some, if_neg n10, d1, bd_some, fw_eq]
    exact ⟨_, mc', mm', rfl, rfl, c2, d2⟩
  · rw [c_can0 (l := 1) (h := 30) rfl rfl x3.1 (by omega) (by omega) x5.1.1 x6 h3, bd_some, if_pos rfl, r_ah0 (l := 1) (h := 30) rfl rfl x4.1 x9 (by omega) (by omega) x5.1.1 x6 h3, bd_some, if_pos rfl]
    exact ⟨_, mc, mm, rfl, rfl, frP_refl _ _, fM_refl _⟩)
theorem B_sighs (f : Nat) (hf : 4000 ≤ f) (b : Int32) : Both (FX11_sighs f b) (FX12_sighs f b) := Both_m (fun c tb K S kc mc mm h => by
  have hh := h
  obtain ⟨a1, a2, a3, a4, a5, a6, a7, a8, a9, a10, a11, a12⟩ := h
  have k0 := a7
  obtain ⟨k1, k2, k3, k4, k5, k6, k7, krest⟩ := a7
  unfold FX11_sighs FX12_sighs
  cases tb
  · rw [c_t0 k0, bd_some, if_pos rfl, r_ahF (SimW_F hh).2, bd_some, if_pos rfl]
    exact ⟨_, mc, mm, rfl, rfl, frP_refl _ _, fM_refl _⟩
  obtain ⟨w, k, q, x1, x2, x3, x4, x5, x6, x7, x8, x9⟩ := SimW_T hh
  rw [c_t1 k0, bd_some, if_neg n10]
  by_cases h3 : 1 ≤ b.toInt ∧ b.toInt ≤ 30 ∧ S.1.toInt + b.toInt ≤ 999
  · obtain ⟨N, rfl, n3, n4⟩ := n_ex (a := b) (by omega)
    obtain ⟨mc', c1, c2⟩ := @c_fw_Sigh f c k N K w mc S (by omega) x1 x3 x5 x6 (by omega) (by omega)
    obtain ⟨mm', d1, d2⟩ := @r_fewest f k q N K w 0 mm S (pSigh K w k S N) (by omega) x2 x4 x7 x8 (fun kt b a3 m1 hb hI => by
      obtain ⟨m', z1, z2⟩ := @r_isSi f k q N K w (Int32.ofNat b) mm m1 S (by omega) x2 x4 x5 x6 (by omega) (by omega) hI
      refine ⟨m', ?_, z2⟩
      unfold FX12_fewest_J49 FX12_fewest_J76 FX12_fewest_J79
      rw [if_pos rfl, z1, bd_some]
      by_cases z : fc K w k (Int32.ofNat b) S N = 0
      · rw [if_pos z, if_pos rfl, if_neg (by simp [pSigh, z])]
      · rw [if_neg z, if_neg n10, if_pos (by simp [pSigh, z])])
    rw [c_can1 (l := 1) (h := 30) rfl rfl x3.1 (by omega) (by omega) x5.1.1 x6 h3, bd_some, if_neg n10, c1, bd_some, r_ah1 (l := 1) (h := 30) rfl rfl x4.1 x9 (by omega) (by omega) x5.1.1 x6 h3, bd_some, if_neg n10, d1, bd_some, fw_eq]
    exact ⟨_, mc', mm', rfl, rfl, c2, d2⟩
  · rw [c_can0 (l := 1) (h := 30) rfl rfl x3.1 (by omega) (by omega) x5.1.1 x6 h3, bd_some, if_pos rfl, r_ah0 (l := 1) (h := 30) rfl rfl x4.1 x9 (by omega) (by omega) x5.1.1 x6 h3, bd_some, if_pos rfl]
    exact ⟨_, mc, mm, rfl, rfl, frP_refl _ _, fM_refl _⟩)
