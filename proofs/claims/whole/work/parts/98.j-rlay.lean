/-! the reference lays the tones ahead of a question -/
def QL (K : sp_K) (S : sp_S) (R : Nat) (m : ev_M) : Prop := (∀ r k, r < R → k < K.1 → m.1 152 (8 * r + k) = if S.1.toInt + (r : Int) < 999 then sp_tns K 0 (gos K S r) k else -1) ∧ (0 < R → ∀ k, k < K.1 → m.1 153 k = (gos K S 1).2.2.1 k)
theorem TR_b {m0 m m' : ev_M} (h : TR m0 m) (h2 : m'.2 = m.2) (h1 : ∀ a k, a ≠ 152 → a ≠ 153 → m'.1 a k = m.1 a k) : TR m0 m' := by
  obtain ⟨a1, a2, a3, a4, a5⟩ := h
  refine ⟨fun a k z => ?_, fun k => by rw [h2]; exact a2 k, by rw [h2]; exact a3, fun i hi => by rw [h1 145 i (by omega) (by omega)]; exact a4 i hi, by rw [h1 112 54 (by omega) (by omega)]; exact a5⟩
  rw [h1 a k (by have := z.1; unfold relM at this; omega) (by have := z.1; unfold relM at this; omega)]
  exact a1 a k z
theorem l_K {f T r : Nat} {kf : ev_M → Option (Unit × ev_M)} (hT : T ≤ 8) (hr : r < 31) {m1 : ev_M} (h36 : m1.1 112 36 = Int32.ofNat T) : ∀ (j k n : Nat) (m : ev_M), k + j = T → j < n → m.2 = m1.2 → (∀ a, a ≠ 152 → a ≠ 153 → m.1 a = m1.1 a) → (∀ i, i < k → m.1 152 (8 * r + i) = if (m1.1 144 0).toInt ≤ 999 then m1.1 146 i else -1) → (∀ p, (∀ i, i < 8 → p ≠ 8 * r + i) → m.1 152 p = m1.1 152 p) → (∀ i, m.1 153 i = if i < k ∧ r = 0 then m1.1 144 (2 + 3 * i) else m1.1 153 i) →
    ∃ m', FX12_laysTones_L18 f kf (Int32.ofNat r) n (Int32.ofNat k) m = kf m' ∧ m'.2 = m1.2 ∧ (∀ a, a ≠ 152 → a ≠ 153 → m'.1 a = m1.1 a) ∧ (∀ i, i < T → m'.1 152 (8 * r + i) = if (m1.1 144 0).toInt ≤ 999 then m1.1 146 i else -1) ∧ (∀ p, (∀ i, i < 8 → p ≠ 8 * r + i) → m'.1 152 p = m1.1 152 p) ∧ (∀ i, m'.1 153 i = if i < T ∧ r = 0 then m1.1 144 (2 + 3 * i) else m1.1 153 i) := by
  intro j
  induction j with
  | zero =>
    intro k n m h1 h2 q2 q3 q4 q5 q6
    obtain ⟨n, rfl⟩ : ∃ z, n = z + 1 := ⟨n - 1, by omega⟩
    have : k = T := by omega
    subst this
    rw [FX12_laysTones_L18, r_tm (by rw [q3 112 (by decide) (by decide)]; exact h36), bd_some, if_pos ((n_le (by omega) (by omega)).mpr (by omega))]
    exact ⟨m, rfl, q2, q3, q4, q5, q6⟩
  | succ j ih =>
    intro k n m h1 h2 q2 q3 q4 q5 q6
    obtain ⟨n, rfl⟩ : ∃ z, n = z + 1 := ⟨n - 1, by omega⟩
    have e9 : (999 : Int32).toInt = 999 := rfl
    have i8 : ev_in (Int32.ofNat k) 8 := (n_in (by omega)).mpr (by omega)
    have ex : (8 * Int32.ofNat r) + Int32.ofNat k = Int32.ofNat (8 * r + k) := by
      rw [show (8 : Int32) = Int32.ofNat 8 from rfl, n_mul, n_add]
    have fin : ∀ v : Int32, v = (if (m1.1 144 0).toInt ≤ 999 then m1.1 146 k else -1) → ∃ m', FX12_laysTones_J58 f (FX12_laysTones_L18 f kf (Int32.ofNat r) n) (Int32.ofNat r) (Int32.ofNat k) (Int32.ofNat (8 * r + k)) v m = kf m' ∧ m'.2 = m1.2 ∧ (∀ a, a ≠ 152 → a ≠ 153 → m'.1 a = m1.1 a) ∧ (∀ i, i < T → m'.1 152 (8 * r + i) = if (m1.1 144 0).toInt ≤ 999 then m1.1 146 i else -1) ∧ (∀ p, (∀ i, i < 8 → p ≠ 8 * r + i) → m'.1 152 p = m1.1 152 p) ∧ (∀ i, m'.1 153 i = if i < T ∧ r = 0 then m1.1 144 (2 + 3 * i) else m1.1 153 i) := by
      intro v hv
      unfold FX12_laysTones_J58 FX12_laysTones_J74
      rw [if_pos ((n_in (by omega)).mpr (by omega)), n_nat (by omega), r_mood (by omega), bd_some, if_pos i8, n_nat (by omega), s_1]
      have g4 : ∀ i, i < k + 1 → (ev_up m.1 152 (8 * r + k) v) 152 (8 * r + i) = if (m1.1 144 0).toInt ≤ 999 then m1.1 146 i else -1 := by
        intro i hi
        by_cases e : i = k
        · subst e; rw [up_at]; exact hv
        · rw [up_nk _ _ _ (by omega)]; exact q4 i (by omega)
      by_cases z : r = 0
      · rw [if_pos (by rw [z]; rfl)]
        refine ih (k + 1) n _ (by omega) (by omega) q2 (fun a ha hb => by rw [upI_na _ _ _ _ hb, upI_na _ _ _ _ ha]; exact q3 a ha hb) (fun i hi => by rw [upI_na _ _ _ _ (by decide)]; exact g4 i hi) (fun p hp => by rw [upI_na _ _ _ _ (by decide), upI_nk _ _ _ _ (hp k (by omega))]; exact q5 p hp) (fun i => ?_)
        by_cases e : i = k
        · subst e
          rw [upI_at, upI_na _ _ _ _ (by decide), q3 144 (by decide) (by decide), if_pos ⟨by omega, z⟩]
        · rw [upI_nk _ _ _ _ e, upI_na _ _ _ _ (show (153 : Nat) ≠ 152 by decide), q6 i]
          by_cases y : i < k ∧ r = 0
          · rw [if_pos y, if_pos ⟨by omega, y.2⟩]
          · rw [if_neg y, if_neg (fun x => y ⟨by omega, x.2⟩)]
      · rw [if_neg (fun y => z (by rw [show (0 : Int32) = Int32.ofNat 0 from rfl, n_eq (by omega) (by omega)] at y; exact y))]
        refine ih (k + 1) n _ (by omega) (by omega) q2 (fun a ha hb => by rw [upI_na _ _ _ _ ha]; exact q3 a ha hb) (fun i hi => g4 i hi) (fun p hp => by rw [upI_nk _ _ _ _ (hp k (by omega))]; exact q5 p hp) (fun i => ?_)
        rw [upI_na _ _ _ _ (by decide), q6 i, if_neg (fun x => z x.2), if_neg (fun x => z x.2)]
    rw [FX12_laysTones_L18, r_tm (by rw [q3 112 (by decide) (by decide)]; exact h36), bd_some, if_neg (fun z => by rw [n_le (by omega) (by omega)] at z; omega), q3 144 (by decide) (by decide), ex, q3 146 (by decide) (by decide)]
    by_cases z : (m1.1 144 0).toInt ≤ 999
    · rw [if_pos (by rw [i_le, e9]; exact z), if_pos i8, n_nat (by omega)]
      exact fin _ (by rw [if_pos z])
    · rw [if_neg (by rw [i_le, e9]; exact z)]
      exact fin _ (by rw [if_neg z])
theorem l_R {f k0 q : Nat} {K : sp_K} {w : Int32} {m0 : ev_M} {S : sp_S} {kf : ev_M → Option (Unit × ev_M)} (hf : 1700 ≤ f) (hX : RX K w k0 q m0) (hr : sp_rg S) (h9 : S.1.toInt ≤ 999) : ∀ (j r n : Nat) (m : ev_M), r + j = 31 → j < n → TR m0 m → RS m K.1 (gos K S r) → m.1 112 53 = 0 → QL K S r m →
    ∃ m', FX12_laysTones_L6 f kf n (Int32.ofNat r) m = kf m' ∧ TR m0 m' ∧ m'.1 112 53 = 0 ∧ QL K S 31 m' := by
  have hT := hX.1.1
  have e30 : (30 : Int32) = Int32.ofNat 30 := rfl
  intro j
  induction j with
  | zero =>
    intro r n m h1 h2 q1 q2 q3 q4
    obtain ⟨n, rfl⟩ : ∃ z, n = z + 1 := ⟨n - 1, by omega⟩
    have : r = 31 := by omega
    subst this
    rw [FX12_laysTones_L6, if_pos (by decide)]
    exact ⟨m, rfl, q1, q3, q4⟩
  | succ j ih =>
    intro r n m h1 h2 q1 q2 q3 q4
    obtain ⟨n, rfl⟩ : ∃ z, n = z + 1 := ⟨n - 1, by omega⟩
    have hg := gos_rd (K := K) hr h9 hT r (by omega)
    have hg1 := gos_rd (K := K) hr h9 hT (r + 1) (by omega)
    obtain ⟨m1, r1, r2, r3, r4, r5, r6, r7⟩ := @r_goT f k0 q K m0 m 0 w (gos K S r) hf hX q1 q2 hg.1 q3
    have hx1 := RX_TR r2 hX
    obtain ⟨m2, s1, s2, s3, s4, s5, s6⟩ := @l_K f K.1 r (fun m9 => (FX12_laysTones_L6 f kf n (Int32.ofNat r + 1) m9)) hT (by omega) m1 hx1.1.2.1 K.1 0 f m1 (by omega) (by omega) rfl (fun _ _ _ => rfl) (fun i hi => by omega) (fun _ _ => rfl) (fun i => by rw [if_neg (by omega)])
    have md := MDX12_roundGoes r1
    have h0 : (m1.1 144 0).toInt = S.1.toInt + r + 1 := by
      have e : m1.1 144 0 = (gos K S (r + 1)).1 := r3.1
      rw [e, hg1.2]
      omega
    rw [FX12_laysTones_L6, if_neg (fun z => by rw [e30, n_lt (by omega) (by omega)] at z; omega), r1, bd_some]
    rw [z0] at s1
    rw [s_1] at s1 ⊢
    rw [s1]
    refine ih (r + 1) n m2 (by omega) (by omega) (TR_b r2 s2 (fun a k z1 z2 => by rw [s3 a z1 z2])) (RS_a r3 (fun k => by rw [s3 144 (by decide) (by decide)])) (by rw [s3 112 (by decide) (by decide)]; exact r5) ⟨?_, ?_⟩
    · intro r' k hr' hk
      by_cases e : r' = r
      · rw [e, s4 k hk, r4 k hk, h0]
        by_cases y : S.1.toInt + (r : Int) < 999
        · rw [if_pos (by omega), if_pos y]
        · rw [if_neg (by omega), if_neg y]
      · rw [s5 _ (fun i hi => by omega), (md 152 _ (by unfold mdX12_roundGoes; omega)).1]
        exact q4.1 r' k (by omega) hk
    · intro _ k hk
      rw [s6 k]
      by_cases e : r = 0
      · rw [if_pos ⟨hk, e⟩]
        subst e
        exact (r3.2.2 k hk).1
      · rw [if_neg (fun y => e y.2), (md 153 _ (by unfold mdX12_roundGoes; omega)).1]
        exact q4.2 (by omega) k hk
theorem l_lays {f k0 q : Nat} {K : sp_K} {w : Int32} {m : ev_M} {S : sp_S} (hf : 1700 ≤ f) (hX : RX K w k0 q m) (hS : RS m K.1 S) (hr : sp_rg S) (h9 : S.1.toInt ≤ 999) (h53 : m.1 112 53 = 0) (h54 : m.1 112 54 = 0) : ∃ m', FX12_laysTones f m = some ((), m') ∧ fM m m' ∧ QL K S 31 m' := by
  have hT := hX.1.1
  obtain ⟨m1, r1, r2, r3, r4, r5, r6⟩ := @r_aside f K.1 m S (by omega) hS
  obtain ⟨m2, s1, s2, s3, s4⟩ := @l_R f k0 q K w m S (fun m10 => (ev_bd (FX12_takesBack f m10) (fun _ m12 => some ((), m12)))) hf hX hr h9 31 0 f m1 (by omega) (by omega) r2 r3 (by rw [r4]; exact h53) ⟨fun r k h => by omega, fun h => by omega⟩
  obtain ⟨m3, t1, t2, t3⟩ := @r_back f K.1 m m2 S (by omega) hT s2 hS (by rw [s3, h53]) h54
  have md := MDX12_takesBack t1
  unfold FX12_laysTones
  rw [r1, bd_some]
  rw [z0] at s1
  rw [s1, t1, bd_some]
  refine ⟨m3, rfl, t2, fun r k h1 h2 => ?_, fun h k h2 => ?_⟩
  · rw [(md 152 _ (by unfold mdX12_takesBack; omega)).1]; exact s4.1 r k h1 h2
  · rw [(md 153 _ (by unfold mdX12_takesBack; omega)).1]; exact s4.2 h k h2
/-! the reference tells a question's value of a TOWER -/
set_option maxHeartbeats 4000000 in
theorem r_told_L {f : Nat} {t : Int32} {kf : ev_M → Option (Int64 × ev_M)} {kd : Nat → Bool} {e : Nat → Int} {ah : Int → Int} {m0 : ev_M}
    (he : ∀ p, p < 10 → kd p = true → sp_bd (e p) ∧ ∀ m, sameQ m0 m → ∃ v : Int64, FX12_qPartOf f (Int32.ofNat p) t m = some (v, m) ∧ v.toInt = e p)
    (hah : kd 10 = true → ∀ (v : Int64) (m : ev_M), sameQ m0 m → ∃ r : Int64, FX12_qOf f 0 v t m = some (r, m) ∧ r.toInt = ah v.toInt) (hab : ∀ v, sp_bd (ah v))
    {tot : Nat} (htot : tot ≤ 1601) (hend : m0.1 112 93 = Int32.ofNat tot) :
    ∀ (l : List Nat) (k n : Nat) (s : Nat → Int) (T : Nat → Bool) (d : Nat) (m : ev_M), k + l.length = tot → l.length < n → sameQ m0 m → cells Int32.ofNat (m0.1 177) k l → sp_wf kd l T d → sp_vs s T d → d ≤ 64 → m.1 112 99 = Int32.ofNat d → (∀ i, i < d → (m.2 179 i).toInt = s i) →
    ∃ m', FX12_qTold_L7 f kf t n (Int32.ofNat k) m = kf m' ∧ sameQ m0 m' ∧ (∀ i, i < sp_dps l d → (m'.2 179 i).toInt = sp_run e ah l s d i) := by
  intro l
  induction l with
  | nil =>
    intro k n s T d m hk hn hs hc hwf hv hd hdp hst
    obtain ⟨n, rfl⟩ : ∃ q, n = q + 1 := ⟨n - 1, by simp at hn; omega⟩
    refine ⟨m, ?_, hs, hst⟩
    simp at hk
    rw [FX12_qTold_L7, hs.1 112 93 (by omega), hend, if_pos ((n_le (by omega) (by omega)).mpr (by omega))]
  | cons c l ih =>
    intro k n s T d m hk hn hs hc hwf hv hd hdp hst
    simp only [List.length_cons] at hk hn
    obtain ⟨n, rfl⟩ : ∃ q, n = q + 1 := ⟨n - 1, by omega⟩
    obtain ⟨hc1, hc2⟩ := hc
    obtain ⟨hw1, hw2⟩ := hwf
    have hcell : m.1 177 k = Int32.ofNat c := by rw [hs.1 177 _ (by omega)]; exact hc1
    have hv2 := vs_step (e := e) (ah := ah) hw1 hv (fun p h1 h2 => (he p h1 h2).1) hab
    have go : ∀ (m2 : ev_M), sameQ m0 m2 → m2.1 112 99 = Int32.ofNat (sp_dp c d) → sp_dp c d ≤ 64 → (∀ i, i < sp_dp c d → (m2.2 179 i).toInt = sp_st e ah c s d i) → FX12_qTold_L7 f kf t (n + 1) (Int32.ofNat k) m = FX12_qTold_L7 f kf t n (Int32.ofNat (k + 1)) m2 → ∃ m', FX12_qTold_L7 f kf t (n + 1) (Int32.ofNat k) m = kf m' ∧ sameQ m0 m' ∧ (∀ i, i < sp_dps (c :: l) d → (m'.2 179 i).toInt = sp_run e ah (c :: l) s d i) := by
      intro m2 q1 q2 q2' q2'' q3
      rw [q3]
      exact ih (k + 1) n _ _ _ m2 (by omega) (by omega) q1 hc2 hw2 hv2 q2' q2 q2''
    have g1 : ¬ Int32.ofNat tot ≤ Int32.ofNat k := fun q => by rw [n_le (by omega) (by omega)] at q; omega
    have hcl : c < 11000 := by
      unfold sp_ok at hw1
      by_cases h1 : 1000 ≤ c
      · rw [if_pos h1] at hw1; exact hw1.1
      · omega
    have l1000 : Int32.ofNat c < 1000 ↔ c < 1000 := by rw [show (1000 : Int32) = Int32.ofNat 1000 from rfl]; exact n_lt (by omega) (by omega)
    have l60 : Int32.ofNat c < 60 ↔ c < 60 := by rw [show (60 : Int32) = Int32.ofNat 60 from rfl]; exact n_lt (by omega) (by omega)
    have l40 : Int32.ofNat c < 40 ↔ c < 40 := by rw [show (40 : Int32) = Int32.ofNat 40 from rfl]; exact n_lt (by omega) (by omega)
    have q13 : Int32.ofNat c = 13 ↔ c = 13 := n_is 13 13 rfl (by omega) (by omega)
    have q12 : Int32.ofNat c = 12 ↔ c = 12 := n_is 12 12 rfl (by omega) (by omega)
    have hJ : ∀ m2, FX12_qTold_J162 f (FX12_qTold_L7 f kf t n) (Int32.ofNat k) m2 = FX12_qTold_L7 f kf t n (Int32.ofNat (k + 1)) m2 := by
      intro m2
      unfold FX12_qTold_J162
      rw [s_1]
    unfold sp_ok at hw1
    by_cases h1 : 1000 ≤ c
    · rw [if_pos h1] at hw1
      have hdd : sp_dp c d = d + 1 := by unfold sp_dp; rw [if_pos h1]
      refine go (ev_up m.1 112 99 (Int32.ofNat (d + 1)), ev_up m.2 179 d (Int32.ofNat (c - 1000)).toInt64) (sameQ_up hs _ _ _) (by rw [hdd]; exact upI_at _ _ _ _ _) (by omega) ?_ ?_
      · rw [hdd]
        unfold sp_st
        rw [if_pos h1]
        exact stl_up hst (fun i q1 q2 => by omega) (by rw [j_wide, n_int (by omega)]; omega)
      · rw [FX12_qTold_L7, hs.1 112 93 (by omega), hend, if_neg g1, if_pos ((n_in (by omega)).mpr (by omega)), n_nat (by omega), hcell, if_neg (fun q => by rw [l1000] at q; omega), show (1000 : Int32) = Int32.ofNat 1000 from rfl, n_sub h1, r_puts hdp (by omega), bd_some, hJ]
    rw [if_neg h1] at hw1
    by_cases h2 : 60 ≤ c
    · rw [if_pos h2] at hw1
      obtain ⟨o1', o2', o3', o4'⟩ := hw1
      have hdd : sp_dp c d = d := by unfold sp_dp; rw [if_neg h1, if_pos h2]
      have hd1 : Int32.ofNat d - 1 = Int32.ofNat (d - 1) := by rw [show (1 : Int32) = Int32.ofNat 1 from rfl, n_sub (by omega)]
      obtain ⟨r, hr1, hr2⟩ := hah o2' (m.2 179 (d - 1)) m hs
      obtain ⟨r', hr3, hr4⟩ := r_clip f r m
      have hr5 : r'.toInt = ah (s (d - 1)) := by
        rw [hr4, hr2, hst _ (by omega)]
        have := hab (s (d - 1))
        unfold sp_bd at this
        unfold sp_clip
        rw [if_neg (by omega), if_neg (by omega)]
      refine go (m.1, ev_up m.2 179 (d - 1) r') (sameQ_upL hs _ _) (by rw [hdd]; exact hdp) (by omega) ?_ ?_
      · rw [hdd]
        unfold sp_st
        rw [if_neg h1, if_pos h2]
        exact stl_up hst (fun i q1 q2 => by omega) hr5
      · rw [FX12_qTold_L7, hs.1 112 93 (by omega), hend, if_neg g1, if_pos ((n_in (by omega)).mpr (by omega)), n_nat (show k < 2147483648 by omega), hcell, if_pos (l1000.mpr (by omega)), if_neg (fun q => by rw [l60] at q; omega), hdp, hd1, if_pos ((n_in (by omega)).mpr (by omega))]
        have hr1' : FX12_qOf f (Int32.ofNat c - 60) (m.2 179 (Int32.ofNat (d - 1)).toNatClampNeg) t m = some (r, m) := by
          rw [n_nat (show d - 1 < 2147483648 by omega), o1']
          exact hr1
        rw [hr1', bd_some, hr3, bd_some, if_pos ((n_in (by omega)).mpr (by omega)), n_nat (show d - 1 < 2147483648 by omega), hJ]
    rw [if_neg h2] at hw1
    by_cases h3 : 40 ≤ c
    · rw [if_pos h3] at hw1
      have hdd : sp_dp c d = d + 1 := by unfold sp_dp; rw [if_neg h1, if_neg h2, if_pos h3]
      obtain ⟨hb, hp⟩ := he (c - 40) (by omega) hw1.2.1
      obtain ⟨v, hv1, hv3⟩ := hp m hs
      obtain ⟨v', hv4, hv5⟩ := r_clip f v m
      have hv6 : v'.toInt = e (c - 40) := by
        rw [hv5, hv3]
        unfold sp_bd at hb
        unfold sp_clip
        rw [if_neg (by omega), if_neg (by omega)]
      refine go (ev_up m.1 112 99 (Int32.ofNat (d + 1)), ev_up m.2 179 d v') (sameQ_up hs _ _ _) (by rw [hdd]; exact upI_at _ _ _ _ _) (by omega) ?_ ?_
      · rw [hdd]
        unfold sp_st
        rw [if_neg h1, if_neg h2, if_pos h3]
        exact stl_up hst (fun i q1 q2 => by omega) hv6
      · rw [FX12_qTold_L7, hs.1 112 93 (by omega), hend, if_neg g1, if_pos ((n_in (by omega)).mpr (by omega)), n_nat (by omega), hcell, if_pos (l1000.mpr (by omega)), if_pos (l60.mpr (by omega)), if_neg (fun q => by rw [l40] at q; omega), show (40 : Int32) = Int32.ofNat 40 from rfl, n_sub h3, hv1, bd_some, hv4, bd_some, r_puts hdp (by omega), bd_some, hJ]
    rw [if_neg h3] at hw1
    by_cases h4 : c = 13
    · rw [if_pos h4] at hw1
      have hdd : sp_dp c d = d + 1 := by unfold sp_dp; rw [if_neg h1, if_neg h2, if_neg h3, if_pos h4]
      refine go (ev_up m.1 112 99 (Int32.ofNat (d + 1)), ev_up m.2 179 d 1) (sameQ_up hs _ _ _) (by rw [hdd]; exact upI_at _ _ _ _ _) (by omega) ?_ ?_
      · rw [hdd]
        unfold sp_st
        rw [if_neg h1, if_neg h2, if_neg h3, if_pos h4]
        exact stl_up hst (fun i q1 q2 => by omega) j_1
      · rw [FX12_qTold_L7, hs.1 112 93 (by omega), hend, if_neg g1, if_pos ((n_in (by omega)).mpr (by omega)), n_nat (by omega), hcell, if_pos (l1000.mpr (by omega)), if_pos (l60.mpr (by omega)), if_pos (l40.mpr (by omega)), if_pos (q13.mpr h4), r_puts hdp (by omega), bd_some, hJ]
    rw [if_neg h4] at hw1
    by_cases h5 : c = 12
    · rw [if_pos h5] at hw1
      obtain ⟨o1', o2', o3'⟩ := hw1
      have hdd : sp_dp c d = d := by unfold sp_dp; rw [if_neg h1, if_neg h2, if_neg h3, if_neg h4, if_pos h5]
      have hd1 : Int32.ofNat d - 1 = Int32.ofNat (d - 1) := by rw [show (1 : Int32) = Int32.ofNat 1 from rfl, n_sub (by omega)]
      have hq := hst (d - 1) (by omega)
      have hq2 := (hv (d - 1) (by omega)).1 o3'
      refine go (m.1, ev_up m.2 179 (d - 1) (1 - m.2 179 (d - 1))) (sameQ_upL hs _ _) (by rw [hdd]; exact hdp) (by omega) ?_ ?_
      · rw [hdd]
        unfold sp_st
        rw [if_neg h1, if_neg h2, if_neg h3, if_neg h4, if_pos h5]
        exact stl_up hst (fun i q1 q2 => by omega) (by rw [j_sub (by rw [hq, j_1]; omega) (by rw [hq, j_1]; omega), hq, j_1])
      · rw [FX12_qTold_L7, hs.1 112 93 (by omega), hend, if_neg g1, if_pos ((n_in (by omega)).mpr (by omega)), n_nat (show k < 2147483648 by omega), hcell, if_pos (l1000.mpr (by omega)), if_pos (l60.mpr (by omega)), if_pos (l40.mpr (by omega)), if_neg (fun q => h4 (q13.mp q)), if_pos (q12.mpr h5), hdp, hd1, if_pos ((n_in (by omega)).mpr (by omega)), if_pos ((n_in (by omega)).mpr (by omega)), n_nat (show d - 1 < 2147483648 by omega), hJ]
    rw [if_neg h5] at hw1
    obtain ⟨o1', o2', o3', o4', o5'⟩ := hw1
    have hb1 := hv (d - 1) (by omega)
    have hb2 := hv (d - 2) (by omega)
    obtain ⟨m2, q1, q2, q3, q4⟩ := @r_join f c d m0 m s hs hdp hst o1' o2' o3' hd hb2.2 hb1.2 (fun hc => ⟨hb2.1 (by rw [o5']; simp [hc]), hb1.1 (by rw [o4']; simp [hc])⟩)
    have hdd : sp_dp c d = d - 1 := by unfold sp_dp; rw [if_neg h1, if_neg h2, if_neg h3, if_neg h4, if_neg h5]
    refine go m2 q2 (by rw [hdd]; exact q3) (by omega) ?_ ?_
    · rw [hdd]
      unfold sp_st
      rw [if_neg h1, if_neg h2, if_neg h3, if_neg h4, if_neg h5]
      exact q4
    · rw [FX12_qTold_L7, hs.1 112 93 (by omega), hend, if_neg g1, if_pos ((n_in (by omega)).mpr (by omega)), n_nat (by omega), hcell, if_pos (l1000.mpr (by omega)), if_pos (l60.mpr (by omega)), if_pos (l40.mpr (by omega)), if_neg (fun q => h4 (q13.mp q)), if_neg (fun q => h5 (q12.mp q)), q1, bd_some, hJ]
