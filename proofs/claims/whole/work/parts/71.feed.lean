/-! feed -/
theorem and255 (x : Int32) : 0 ≤ (x &&& 255).toInt ∧ (x &&& 255).toInt ≤ 255 := by
  have e1 : (x &&& 255).toBitVec = x.toBitVec &&& 255#32 := rfl
  have e2 : (x.toBitVec &&& 255#32).toNat = x.toBitVec.toNat % 256 := by
    rw [BitVec.toNat_and]
    exact Nat.and_two_pow_sub_one_eq_mod x.toBitVec.toNat 8
  have e3 : (x &&& 255).toInt = (x &&& 255).toBitVec.toInt := rfl
  have hlt : (x.toBitVec &&& 255#32).toNat < 256 := by rw [e2]; omega
  rw [e3, e1, BitVec.toInt_eq_toNat_of_lt (by omega)]
  omega
def bR (w : Int32) (j : Nat) : Int32 := (w >>> Int32.ofNat (24 - 8 * j)) &&& 255
theorem bR_0 (w : Int32) : ((w : Int32).toUInt32 >>> ((24 : Int32).toUInt32 &&& Int32.toUInt32 31)).toInt32 = bR w 0 := by
  apply Int32.toBitVec_inj.mp
  show w.toBitVec >>> (24 : Nat) = (w.toBitVec.sshiftRight 24) &&& 255#32
  apply BitVec.eq_of_getLsbD_eq
  intro i hi
  rw [BitVec.getLsbD_ushiftRight, BitVec.getLsbD_and, BitVec.getLsbD_sshiftRight]
  have h255 : (255#32).getLsbD i = decide (i < 8) := by
    have : ∀ i, i < 32 → (255#32).getLsbD i = decide (i < 8) := by decide
    exact this i hi
  rw [h255]
  by_cases h8 : i < 8
  · have h1 : ¬ 32 ≤ i := by omega
    have h2 : 24 + i < 32 := by omega
    simp [h8, h1, h2]
  · have h2 : ¬ 24 + i < 32 := by omega
    simp [h8]
    apply BitVec.getLsbD_of_ge
    omega
theorem bR_s (w : Int32) (s : Nat) (hs : s < 32) (hs8 : s + 8 ≤ 32) : ((w.toBitVec >>> s) &&& 255#32) = ((w.toBitVec.sshiftRight s) &&& 255#32) := by
  apply BitVec.eq_of_getLsbD_eq
  intro i hi
  rw [BitVec.getLsbD_and, BitVec.getLsbD_and, BitVec.getLsbD_ushiftRight, BitVec.getLsbD_sshiftRight]
  have h255 : (255#32).getLsbD i = decide (i < 8) := by
    have : ∀ i, i < 32 → (255#32).getLsbD i = decide (i < 8) := by decide
    exact this i hi
  rw [h255]
  by_cases h8 : i < 8
  · have h1 : ¬ 32 ≤ i := by omega
    have h2 : s + i < 32 := by omega
    simp [h8, h1, h2]
  · simp [h8]
theorem bR_1 (w : Int32) : ((w : Int32).toUInt32 >>> ((16 : Int32).toUInt32 &&& Int32.toUInt32 31)).toInt32 &&& 255 = bR w 1 := by
  apply Int32.toBitVec_inj.mp
  exact bR_s w 16 (by omega) (by omega)
theorem bR_2 (w : Int32) : ((w : Int32).toUInt32 >>> ((8 : Int32).toUInt32 &&& Int32.toUInt32 31)).toInt32 &&& 255 = bR w 2 := by
  apply Int32.toBitVec_inj.mp
  exact bR_s w 8 (by omega) (by omega)
theorem bR_3 (w : Int32) : w &&& 255 = bR w 3 := by
  apply Int32.toBitVec_inj.mp
  show w.toBitVec &&& 255#32 = (w.toBitVec.sshiftRight 0) &&& 255#32
  rw [BitVec.sshiftRight_zero]
theorem sh20_all : ∀ i, i < 20 → ((8 * (3 - (Int32.ofNat i - Int32.ofNat i / 4 * 4))) &&& 31) = Int32.ofNat (24 - 8 * (i % 4)) := by decide +kernel
theorem c_write {f L : Nat} {w : Int32} {m : ev_M} (hL : L + 4 ≤ 1600) (h : m.1 13 1 = Int32.ofNat L) : ∃ m', FX10_write f w m = some ((), m') ∧ m'.2 = m.2 ∧ m'.1 13 1 = Int32.ofNat (L + 4) ∧ (∀ a k, ¬ (a = 13 ∧ k = 1) → ¬ (a = 14 ∧ L ≤ k ∧ k < L + 4) → m'.1 a k = m.1 a k) ∧ (∀ j, j < 4 → m'.1 14 (L + j) = bR w j) := by
  unfold FX10_write FX10_hasRoom
  rw [h, show (4 : Int32) = Int32.ofNat 4 from rfl, n_add, if_neg (by rw [show (1600 : Int32) = Int32.ofNat 1600 from rfl, n_lt (by omega) (by omega)]; omega), bd_some, if_neg n10, h, s_1, show (2 : Int32) = Int32.ofNat 2 from rfl, show (3 : Int32) = Int32.ofNat 3 from rfl, n_add, n_add, n_add, if_pos ((n_in (by omega)).mpr (by omega)), if_pos ((n_in (by omega)).mpr (by omega)), if_pos ((n_in (by omega)).mpr (by omega)), if_pos ((n_in (by omega)).mpr (by omega)), n_nat (by omega), n_nat (by omega), n_nat (by omega), n_nat (by omega), bR_0, bR_1, bR_2, bR_3]
  refine ⟨_, rfl, rfl, upI_at _ _ _ _ _, fun a k z1 z2 => ?_, fun j hj => ?_⟩
  · show ev_up _ 13 1 _ a k = _
    by_cases e : a = 13
    · subst e; rw [up_nk _ _ _ (by omega), up_na _ _ _ _ (by decide), up_na _ _ _ _ (by decide), up_na _ _ _ _ (by decide), up_na _ _ _ _ (by decide)]
    · rw [up_na _ _ _ _ e]
      by_cases e2 : a = 14
      · subst e2; rw [up_nk _ _ _ (by omega), up_nk _ _ _ (by omega), up_nk _ _ _ (by omega), up_nk _ _ _ (by omega)]
      · rw [up_na _ _ _ _ e2, up_na _ _ _ _ e2, up_na _ _ _ _ e2, up_na _ _ _ _ e2]
  · rw [upI_na _ _ _ _ (by decide), ev_up_at, ev_up_at, ev_up_at, ev_up_at]
    have cs : j = 0 ∨ j = 1 ∨ j = 2 ∨ j = 3 := by omega
    rcases cs with e | e | e | e <;> subst e
    · rw [if_neg (by omega), if_neg (by omega), if_neg (by omega), if_pos (by omega)]
    · rw [if_neg (by omega), if_neg (by omega), if_pos rfl]
    · rw [if_neg (by omega), if_pos rfl]
    · rw [if_pos rfl]
def fdW (a b c d e : Int32) (i : Nat) : Int32 := if i < 4 then a else if i < 8 then b else if i < 12 then c else if i < 16 then d else e
theorem r_feedL {f L : Nat} {a b c d e : Int32} {m0 : ev_M} (hL : L + 20 ≤ 1600) : ∀ (j i n : Nat) (m : ev_M), i + j = 20 → j < n → m.2 = m0.2 → m.1 112 1 = Int32.ofNat (L + i) → (∀ p k, ¬ (p = 112 ∧ k = 1) → ¬ (p = 113 ∧ L ≤ k ∧ k < L + 20) → m.1 p k = m0.1 p k) → (∀ u, u < i → m.1 113 (L + u) = bR (fdW a b c d e u) (u % 4)) →
    ∃ m', FX12_feed_L28 f (fun m1 => some ((m1.1 112 1), m1)) a b c d e n (Int32.ofNat i) m = some (Int32.ofNat (L + 20), m') ∧ m'.2 = m0.2 ∧ m'.1 112 1 = Int32.ofNat (L + 20) ∧ (∀ p k, ¬ (p = 112 ∧ k = 1) → ¬ (p = 113 ∧ L ≤ k ∧ k < L + 20) → m'.1 p k = m0.1 p k) ∧ (∀ u, u < 20 → m'.1 113 (L + u) = bR (fdW a b c d e u) (u % 4)) := by
  have e20 : (20 : Int32) = Int32.ofNat 20 := rfl
  have e4 : (4 : Int32) = Int32.ofNat 4 := rfl
  have e8 : (8 : Int32) = Int32.ofNat 8 := rfl
  have e12 : (12 : Int32) = Int32.ofNat 12 := rfl
  have e16 : (16 : Int32) = Int32.ofNat 16 := rfl
  intro j
  induction j with
  | zero =>
    intro i n m h1 h2 q1 q2 q3 q4
    obtain ⟨n, rfl⟩ : ∃ z, n = z + 1 := ⟨n - 1, by omega⟩
    have : i = 20 := by omega
    subst this
    rw [FX12_feed_L28, if_pos (by decide), q2]
    exact ⟨m, rfl, q1, q2, q3, q4⟩
  | succ j ih =>
    intro i n m h1 h2 q1 q2 q3 q4
    obtain ⟨n, rfl⟩ : ∃ z, n = z + 1 := ⟨n - 1, by omega⟩
    have eJ : FX12_feed_L28 f (fun m1 => some ((m1.1 112 1), m1)) a b c d e (n + 1) (Int32.ofNat i) m = FX12_feed_J81 f (FX12_feed_L28 f (fun m1 => some ((m1.1 112 1), m1)) a b c d e n) (Int32.ofNat i) (fdW a b c d e i) m := by
      rw [FX12_feed_L28, if_neg (fun z => by rw [e20, n_le (by omega) (by omega)] at z; omega)]
      unfold fdW
      by_cases z1 : i < 4
      · rw [if_neg (fun z => by rw [e4, n_le (by omega) (by omega)] at z; omega), if_pos z1]
      rw [if_pos (by rw [e4, n_le (by omega) (by omega)]; omega), if_neg z1]
      by_cases z2 : i < 8
      · rw [if_neg (fun z => by rw [e8, n_le (by omega) (by omega)] at z; omega), if_pos z2]
      rw [if_pos (by rw [e8, n_le (by omega) (by omega)]; omega), if_neg z2]
      by_cases z3 : i < 12
      · rw [if_neg (fun z => by rw [e12, n_le (by omega) (by omega)] at z; omega), if_pos z3]
      rw [if_pos (by rw [e12, n_le (by omega) (by omega)]; omega), if_neg z3]
      by_cases z4 : i < 16
      · rw [if_neg (fun z => by rw [e16, n_le (by omega) (by omega)] at z; omega), if_pos z4]
      rw [if_pos (by rw [e16, n_le (by omega) (by omega)]; omega), if_neg z4]
    rw [eJ]
    unfold FX12_feed_J81
    rw [q2, if_pos ((n_in (by omega)).mpr (by omega)), n_nat (by omega), sh20_all i (by omega), s_1, s_1]
    refine ih (i + 1) n _ (by omega) (by omega) q1 (upI_at _ _ _ _ _) (fun p k z1 z2 => ?_) (fun u hu => ?_)
    · show ev_up (ev_up m.1 113 (L + i) _) 112 1 _ p k = _
      rw [← q3 p k z1 z2]
      by_cases e : p = 112
      · subst e; rw [up_nk _ _ _ (by omega), up_na _ _ _ _ (by decide)]
      · rw [up_na _ _ _ _ e]
        by_cases e2 : p = 113
        · subst e2; rw [up_nk _ _ _ (by omega)]
        · rw [up_na _ _ _ _ e2]
    · rw [upI_na _ _ _ _ (by decide)]
      by_cases e : u = i
      · rw [e, up_at]; rfl
      · rw [up_nk _ _ _ (by omega)]; exact q4 u (by omega)
theorem SimW_tp {c : Nat} {tb : Bool} {K : sp_K} {S : sp_S} {kc : Nat} {mc mm mc' mm' : ev_M} (h : SimW c tb K S kc mc mm) (hc : ∀ a k, ¬ (a = 13 ∧ k = 1) → a ≠ 14 → mc'.1 a k = mc.1 a k) (hc2 : mc'.2 = mc.2) (hm : ∀ a k, ¬ (a = 112 ∧ k = 1) → a ≠ 113 → mm'.1 a k = mm.1 a k) (hm2 : mm'.2 = mm.2) (tp : TP mc' mm') : SimW c tb K S kc mc' mm' := by
  have hh := h
  obtain ⟨a1, a2, a3, a4, a5, a6, a7, a8, a9, a10, a11, a12⟩ := h
  refine SimW_a hh (fun a k z => ⟨hc a k (by unfold relC1 at z; omega) (by unfold relC1 at z; omega), by rw [hc2]⟩) (fun a k z => ⟨hm a k (by unfold relM1 at z; omega) (by unfold relM1 at z; omega), by rw [hm2]⟩) tp ?_ ?_ ?_ (PC_fr (hc _ _ (by omega) (by omega)) (fun i => hc _ _ (by omega) (by omega)) (hm _ _ (by omega) (by omega)) (fun i => hm _ _ (by omega) (by omega)) a5) (SE_fr (hc _ _ (by omega) (by omega)) (fun i => hc _ _ (by omega) (by omega)) (hm _ _ (by omega) (by omega)) (fun i => hm _ _ (by omega) (by omega)) a6)
  · intro i hi; rw [hc _ _ (by omega) (by omega), hm _ _ (by omega) (by omega)]; exact a2 i hi
  · exact ⟨by rw [hc _ _ (by omega) (by omega), hm _ _ (by omega) (by omega)]; exact a3.1, by rw [hc _ _ (by omega) (by omega), hm _ _ (by omega) (by omega)]; exact a3.2⟩
  · unfold SD; rw [hc2, hm2]; exact a4
theorem B_feed (f : Nat) (hf : 4000 ≤ f) (a b c d e : Int32) : Both (FX11_feed f a b c d e) (FX12_feed f a b c d e) := by
  intro mc mm hS
  obtain ⟨c0, tb, K, S, kc, h⟩ := hS
  have hh := h
  obtain ⟨L, t1, t2, t3, t4⟩ := h.1
  have e20 : (20 : Int32) = Int32.ofNat 20 := rfl
  have e16 : (1600 : Int32) = Int32.ofNat 1600 := rfl
  unfold FX11_feed FX12_feed FX10_hasRoom
  rw [t2, t3, e20, n_add, e16]
  by_cases z : L + 20 ≤ 1600
  rotate_left
  · rw [if_pos ((n_lt (by omega) (by omega)).mpr (by omega)), bd_some, if_pos rfl, show FX11_refuse f 0 mc = some (0, (ev_up mc.1 109 0 (mc.1 109 0 + 1), mc.2)) from c_refuse (i := 0) (by omega), bd_some, if_neg (fun y => z ((n_le (by omega) (by omega)).mp y))]
    exact ⟨_, _, _, rfl, rfl, c0, tb, K, S, kc, SimW_ref hh (by omega)⟩
  rw [if_neg (fun y => by rw [n_lt (by omega) (by omega)] at y; omega), bd_some, if_neg n10, if_pos ((n_le (by omega) (by omega)).mpr z)]
  obtain ⟨m1, w1, p1, l1, f1, v1⟩ := @c_write f L a mc (by omega) t2
  obtain ⟨m2, w2, p2, l2, f2, v2⟩ := @c_write f (L + 4) b m1 (by omega) l1
  obtain ⟨m3, w3, p3, l3, f3, v3⟩ := @c_write f (L + 4 + 4) c m2 (by omega) l2
  obtain ⟨m4, w4, p4, l4, f4, v4⟩ := @c_write f (L + 4 + 4 + 4) d m3 (by omega) l3
  obtain ⟨m5, w5, p5, l5, f5, v5⟩ := @c_write f (L + 4 + 4 + 4 + 4) e m4 (by omega) l4
  obtain ⟨n1, x1, x2, x3, x4, x5⟩ := @r_feedL f L a b c d e mm z 20 0 f mm (by omega) (by omega) rfl (by rw [Nat.add_zero]; exact t3) (fun _ _ _ _ => rfl) (fun u hu => by omega)
  rw [z0] at x1
  rw [w1, bd_some, w2, bd_some, w3, bd_some, w4, bd_some, w5, bd_some, l5, x1]
  have hC : ∀ p k, ¬ (p = 13 ∧ k = 1) → ¬ (p = 14 ∧ L ≤ k ∧ k < L + 20) → m5.1 p k = mc.1 p k := fun p k y1 y2 => by
    rw [f5 p k y1 (by omega), f4 p k y1 (by omega), f3 p k y1 (by omega), f2 p k y1 (by omega), f1 p k y1 (by omega)]
  have hV : ∀ u, u < 20 → m5.1 14 (L + u) = bR (fdW a b c d e u) (u % 4) := by
    intro u hu
    unfold fdW
    by_cases y1 : u < 4
    · rw [if_pos y1, f5 14 _ (by omega) (by omega), f4 14 _ (by omega) (by omega), f3 14 _ (by omega) (by omega), f2 14 _ (by omega) (by omega), v1 u y1, Nat.mod_eq_of_lt y1]
    rw [if_neg y1]
    by_cases y2 : u < 8
    · rw [if_pos y2, f5 14 _ (by omega) (by omega), f4 14 _ (by omega) (by omega), f3 14 _ (by omega) (by omega), show L + u = L + 4 + (u % 4) by omega, v2 _ (by omega)]
    rw [if_neg y2]
    by_cases y3 : u < 12
    · rw [if_pos y3, f5 14 _ (by omega) (by omega), f4 14 _ (by omega) (by omega), show L + u = L + 4 + 4 + (u % 4) by omega, v3 _ (by omega)]
    rw [if_neg y3]
    by_cases y4 : u < 16
    · rw [if_pos y4, f5 14 _ (by omega) (by omega), show L + u = L + 4 + 4 + 4 + (u % 4) by omega, v4 _ (by omega)]
    rw [if_neg y4, show L + u = L + 4 + 4 + 4 + 4 + (u % 4) by omega, v5 _ (by omega)]
  refine ⟨Int32.ofNat (L + 20), m5, n1, by rw [show L + 4 + 4 + 4 + 4 + 4 = L + 20 by omega], rfl, c0, tb, K, S, kc, SimW_tp hh (fun p k y1 y2 => hC p k y1 (by omega)) (by rw [p5, p4, p3, p2, p1]) (fun p k y1 y2 => x4 p k y1 (by omega)) x2 ⟨L + 20, z, by rw [l5], x3, fun i hi => ?_⟩⟩
  by_cases y : L ≤ i ∧ i < L + 20
  · have q1 := hV (i - L) (by omega)
    have q2 := x5 (i - L) (by omega)
    rw [show L + (i - L) = i by omega] at q1 q2
    rw [q1, q2]
    exact ⟨rfl, and255 _⟩
  · rw [hC 14 i (by omega) (by omega), x4 113 i (by omega) (by omega)]
    exact t4 i hi
