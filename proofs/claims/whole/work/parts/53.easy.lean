/-! the calls that need no round -/
theorem r_isIn (f : Nat) (a b c : Int64) (m : ev_M) : FX12_isIn f a b c m = some (if b.toInt ≤ a.toInt ∧ a.toInt ≤ c.toInt then 1 else 0, m) := by
  unfold FX12_isIn
  by_cases h1 : a.toInt < b.toInt
  · rw [if_pos ((lg_lt0 a b).mpr h1), if_neg (by omega)]
  · rw [if_neg (fun q => h1 ((lg_lt0 a b).mp q))]
    by_cases h2 : c.toInt < a.toInt
    · rw [if_pos ((lg_gt0 a c).mpr h2), if_neg (by omega)]
    · rw [if_neg (fun q => h2 ((lg_gt0 a c).mp q)), if_pos (by omega)]
theorem r_in1 {f : Nat} {a b c : Int64} {m : ev_M} (h : b.toInt ≤ a.toInt ∧ a.toInt ≤ c.toInt) : FX12_isIn f a b c m = some (1, m) := by rw [r_isIn, if_pos h]
theorem r_in0 {f : Nat} {a b c : Int64} {m : ev_M} (h : ¬ (b.toInt ≤ a.toInt ∧ a.toInt ≤ c.toInt)) : FX12_isIn f a b c m = some (0, m) := by rw [r_isIn, if_neg h]
theorem e0' : (0 : Int32).toInt = 0 := rfl
theorem e1' : (1 : Int32).toInt = 1 := rfl
theorem c_isTower {f T c : Nat} {a : Int32} {m : ev_M} (hc : c = 1 ∨ c = 7) (h0 : m.1 0 0 = Int32.ofNat c) (h5 : m.1 c 5 = Int32.ofNat T) (hT : T ≤ 8) : FX11_isTower f a m = some (if 0 ≤ a.toInt ∧ a.toInt < (T : Int) then 1 else 0, m) := by
  unfold FX11_isTower
  have hcn : (m.1 0 0).toNatClampNeg = c := by rw [h0, n_nat (by omega)]
  by_cases h1 : a.toInt < 0
  · rw [if_pos (by rw [i_lt, e0']; exact h1), if_neg (by omega)]
  · rw [if_neg (by rw [i_lt, e0']; exact h1), hcn, if_pos (isK1 hc), h5]
    by_cases h2 : (T : Int) ≤ a.toInt
    · rw [if_pos (by rw [i_le, n_int (by omega)]; exact h2), if_neg (by omega)]
    · rw [if_neg (by rw [i_le, n_int (by omega)]; exact h2), if_pos (by omega)]
theorem r_isTower {f T : Nat} {a : Int32} {m : ev_M} (hT : m.1 112 36 = Int32.ofNat T) (h8 : T ≤ 8) : FX12_isTower f a m = some (if 0 ≤ a.toInt ∧ a.toInt < (T : Int) then 1 else 0, m) := by
  unfold FX12_isTower
  have e : (Int32.ofNat T - 1).toInt = (T : Int) - 1 := by rw [i_sub (by rw [n_int (by omega), e1']; omega) (by rw [n_int (by omega), e1']; omega), n_int (by omega), e1']
  rw [r_tm hT, bd_some]
  by_cases h : 0 ≤ a.toInt ∧ a.toInt < (T : Int)
  · rw [if_pos h, r_in1 (by rw [j_wide, j_wide, j_0, e]; omega), bd_some, if_pos (by right; rfl)]
  · rw [if_neg h, r_in0 (by rw [j_wide, j_wide, j_0, e]; omega), bd_some, if_pos (by left; rfl)]
theorem c_tow1 {f T c : Nat} {a : Int32} {m : ev_M} (hc : c = 1 ∨ c = 7) (h0 : m.1 0 0 = Int32.ofNat c) (h5 : m.1 c 5 = Int32.ofNat T) (hT : T ≤ 8) (h : 0 ≤ a.toInt ∧ a.toInt < (T : Int)) : FX11_isTower f a m = some (1, m) := by rw [c_isTower hc h0 h5 hT, if_pos h]
theorem c_tow0 {f T c : Nat} {a : Int32} {m : ev_M} (hc : c = 1 ∨ c = 7) (h0 : m.1 0 0 = Int32.ofNat c) (h5 : m.1 c 5 = Int32.ofNat T) (hT : T ≤ 8) (h : ¬ (0 ≤ a.toInt ∧ a.toInt < (T : Int))) : FX11_isTower f a m = some (0, m) := by rw [c_isTower hc h0 h5 hT, if_neg h]
theorem r_tow1 {f T : Nat} {a : Int32} {m : ev_M} (hT : m.1 112 36 = Int32.ofNat T) (h8 : T ≤ 8) (h : 0 ≤ a.toInt ∧ a.toInt < (T : Int)) : FX12_isTower f a m = some (1, m) := by rw [r_isTower hT h8, if_pos h]
theorem r_tow0 {f T : Nat} {a : Int32} {m : ev_M} (hT : m.1 112 36 = Int32.ofNat T) (h8 : T ≤ 8) (h : ¬ (0 ≤ a.toInt ∧ a.toInt < (T : Int))) : FX12_isTower f a m = some (0, m) := by rw [r_isTower hT h8, if_neg h]
def relC1 (a k : Nat) : Prop := (a = 0 ∧ k ≤ 1) ∨ (1 ≤ a ∧ a ≤ 12) ∨ (a = 16 ∧ k = 2) ∨ (a = 40 ∧ (k = 2 ∨ k = 3)) ∨ a = 42 ∨ (43 ≤ a ∧ a ≤ 105)
def relM1 (a k : Nat) : Prop := (a = 112 ∧ (k = 36 ∨ k = 45 ∨ k = 53 ∨ k = 54 ∨ k = 64 ∨ k = 65)) ∨ a = 138 ∨ (140 ≤ a ∧ a ≤ 144) ∨ a = 151
theorem SimW_a {c : Nat} {tb : Bool} {K : sp_K} {S : sp_S} {kc : Nat} {mc mm mc' mm' : ev_M} (h : SimW c tb K S kc mc mm) (hc : frP relC1 mc mc') (hm : frP relM1 mm mm') (b1 : TP mc' mm') (b2 : RF mc' mm') (b3 : FT mc' mm') (b4 : SD mc' mm') (b5 : PC mc' mm') (b6 : SE K.1 mc' mm') : SimW c tb K S kc mc' mm' := by
  obtain ⟨a1, a2, a3, a4, a5, a6, a7, a8, a9, a10, a11, a12⟩ := h
  have C : ∀ a k, relC1 a k → mc'.1 a k = mc.1 a k := fun a k q => (hc a k q).1
  have M : ∀ a k, relM1 a k → mm'.1 a k = mm.1 a k := fun a k q => (hm a k q).1
  have hT := a7.2.2.2.2.1
  refine ⟨b1, b2, b3, b4, b5, b6, ?_, ?_, ?_, ?_, ?_, ?_⟩
  · exact CA_fr (C _ _ (by unfold relC1; omega)) (C _ _ (by unfold relC1; omega)) (C _ _ (by unfold relC1; omega)) (fun a k _ _ => C _ _ (by unfold relC1; omega)) (M _ _ (by unfold relM1; omega)) (M _ _ (by unfold relM1; omega)) (fun a k _ _ => M _ _ (by unfold relM1; omega)) (fun k => (hm _ _ (by unfold relM1; omega)).2) a7
  · exact ST_fr hT (fun k => C _ _ (by unfold relC1; omega)) (fun k => C _ _ (by unfold relC1; omega)) (fun k => C _ _ (by unfold relC1; omega)) (fun k _ => M _ _ (by unfold relM1; omega)) a8
  · exact KP_fr (C _ _ (by unfold relC1; omega)) (fun k _ => C _ _ (by unfold relC1; omega)) (fun k _ _ => M _ _ (by unfold relM1; omega)) a9
  · exact UN_fr hT (C _ _ (by unfold relC1; omega)) (C _ _ (by unfold relC1; omega)) (fun k _ => C _ _ (by unfold relC1; omega)) (fun a k _ _ => C _ _ (by unfold relC1; omega)) (M _ _ (by unfold relM1; omega)) (M _ _ (by unfold relM1; omega)) (fun k => M _ _ (by unfold relM1; omega)) a10
  · rw [M _ _ (by unfold relM1; omega)]; exact a11
  · rw [M _ _ (by unfold relM1; omega)]; exact a12
/-- the frame of one writing -/
theorem fr_one {P : Nat → Nat → Prop} {m : ev_M} {a k : Nat} {v : Int32} (h : ¬ P a k) : frP P m (ev_up m.1 a k v, m.2) := frP_I h (frP_refl P m)
theorem SimW_ref {c : Nat} {tb : Bool} {K : sp_K} {S : sp_S} {kc : Nat} {mc mm : ev_M} (h : SimW c tb K S kc mc mm) {i : Nat} (hi : i < 6) : SimW c tb K S kc (ev_up mc.1 109 i (mc.1 109 i + 1), mc.2) (ev_up mm.1 114 i (mm.1 114 i + 1), mm.2) := by
  have h0 := h
  obtain ⟨a1, a2, a3, a4, a5, a6, a7, a8, a9, a10, a11, a12⟩ := h
  have C : ∀ a k, a ≠ 109 → ((ev_up mc.1 109 i (mc.1 109 i + 1), mc.2) : ev_M).1 a k = mc.1 a k := fun a k q => by rw [upI_na _ _ _ _ q]
  have M : ∀ a k, a ≠ 114 → ((ev_up mm.1 114 i (mm.1 114 i + 1), mm.2) : ev_M).1 a k = mm.1 a k := fun a k q => by rw [upI_na _ _ _ _ q]
  refine SimW_a h0 (fr_one (by unfold relC1; omega)) (fr_one (by unfold relM1; omega)) (TP_fr (C _ _ (by decide)) (fun k => C _ _ (by decide)) (M _ _ (by decide)) (fun k => M _ _ (by decide)) a1) ?_ ?_ a4 (PC_fr (C _ _ (by decide)) (fun k => C _ _ (by decide)) (M _ _ (by decide)) (fun k => M _ _ (by decide)) a5) (SE_fr (C _ _ (by decide)) (fun k => C _ _ (by decide)) (M _ _ (by decide)) (fun k => M _ _ (by decide)) a6)
  · intro j hj
    show ev_up mc.1 109 i _ 109 j = ev_up mm.1 114 i _ 114 j
    rw [ev_up_at, ev_up_at, a2 j hj, a2 i hi]
  · unfold FT; rw [C _ _ (by decide), C _ _ (by decide), M _ _ (by decide), M _ _ (by decide)]; exact a3
theorem c_refuse {f i : Nat} {m : ev_M} (hi : i < 6) : FX11_refuse f (Int32.ofNat i) m = some (0, (ev_up m.1 109 i (m.1 109 i + 1), m.2)) := by
  unfold FX11_refuse
  rw [if_pos ((n_in (by omega)).mpr hi), if_pos ((n_in (by omega)).mpr hi), n_nat (by omega)]
theorem B_fault (f : Nat) (a : Int32) : Both (FX11_fault f a) (FX12_fault f a) := Both_q (fun c tb K S kc mc mm h => by
  obtain ⟨a1, a2, a3, a4, a5, a6, a7, a8, a9, a10, a11, a12⟩ := h
  refine ⟨_, mc, mm, c_fault f a mc, ?_, frP_refl _ _, frP_refl _ _⟩
  rw [r_fault, a3.1, a3.2])
theorem B_octet (f : Nat) (a : Int32) : Both (FX11_octet f a) (FX12_octet f a) := Both_q (fun c tb K S kc mc mm h => by
  obtain ⟨a1, a2, a3, a4, ⟨p, q1, q2, q3, q4⟩, a6, a7, a8, a9, a10, a11, a12⟩ := h
  unfold FX11_octet FX12_octet
  rw [q2, q3]
  by_cases h1 : a < 0
  · rw [if_pos h1, if_pos h1]; exact ⟨_, mc, mm, rfl, rfl, frP_refl _ _, frP_refl _ _⟩
  rw [if_neg h1, if_neg h1]
  by_cases h2 : Int32.ofNat p ≤ a
  · rw [if_pos h2, if_pos h2]; exact ⟨_, mc, mm, rfl, rfl, frP_refl _ _, frP_refl _ _⟩
  rw [if_neg h2, if_neg h2]
  rw [i_lt, e0'] at h1
  obtain ⟨n, rfl, n1, n2⟩ := n_ex (a := a) (by omega)
  rw [n_le (by omega) (by omega)] at h2
  rw [if_pos ((n_in (by omega)).mpr (by omega)), if_pos ((n_in (by omega)).mpr (by omega)), n_nat (by omega), q4 n (by omega)]
  exact ⟨_, mc, mm, rfl, rfl, frP_refl _ _, frP_refl _ _⟩)
theorem B_status (f : Nat) (a : Int32) : Both (FX11_status f a) (FX12_status f a) := Both_q (fun c tb K S kc mc mm h => by
  obtain ⟨a1, a2, a3, a4, a5, a6, a7, a8, a9, a10, a11, a12⟩ := h
  have e6 : (6 : Int32).toInt = 6 := rfl
  have e5 : (5 : Int64).toInt = 5 := rfl
  unfold FX11_status FX12_status
  by_cases h1 : a < 0
  · rw [if_pos h1]
    rw [i_lt, e0'] at h1
    rw [r_in0 (by rw [j_wide, j_0, e5]; omega), bd_some, if_pos rfl]; exact ⟨_, mc, mm, rfl, rfl, frP_refl _ _, frP_refl _ _⟩
  rw [if_neg h1]
  rw [i_lt, e0'] at h1
  by_cases h2 : 6 ≤ a
  · rw [if_pos h2]
    rw [i_le, e6] at h2
    rw [r_in0 (by rw [j_wide, j_0, e5]; omega), bd_some, if_pos rfl]; exact ⟨_, mc, mm, rfl, rfl, frP_refl _ _, frP_refl _ _⟩
  rw [if_neg h2]
  rw [i_le, e6] at h2
  rw [r_in1 (by rw [j_wide, j_0, e5]; omega), bd_some, if_neg (show ¬ (1 : Int32) = 0 by decide)]
  obtain ⟨n, rfl, n1, n2⟩ := n_ex (a := a) (by omega)
  rw [if_pos ((n_in (by omega)).mpr (by omega)), if_pos ((n_in (by omega)).mpr (by omega)), n_nat (by omega), a2 n (by omega)]
  exact ⟨_, mc, mm, rfl, rfl, frP_refl _ _, frP_refl _ _⟩)
theorem B_seed (f : Nat) (a : Int32) : Both (FX11_seed f a) (FX12_seed f a) := by
  intro mc mm hS
  obtain ⟨c, tb, K, S, kc, h⟩ := hS
  unfold FX11_seed FX12_seed
  by_cases h1 : 0 ≤ a
  · rw [if_pos h1, if_pos h1]
    refine ⟨_, _, _, rfl, rfl, c, tb, K, S, kc, ?_⟩
    have h0 := h
    obtain ⟨a1, a2, a3, a4, a5, a6, a7, a8, a9, a10, a11, a12⟩ := h
    refine SimW_a h0 (frP_L (by unfold relC1; omega) (frP_refl _ _)) (frP_L (by unfold relM1; omega) (frP_refl _ _)) a1 a2 a3 ?_ a5 a6
    have e1 : ((mc.1, ev_up mc.2 0 17 a.toInt64) : ev_M).2 0 17 = a.toInt64 := (show ev_up mc.2 0 17 a.toInt64 0 17 = a.toInt64 from up_at _ _ _ _)
    have e2 : ((mm.1, ev_up mm.2 112 66 a.toInt64) : ev_M).2 112 66 = a.toInt64 := (show ev_up mm.2 112 66 a.toInt64 112 66 = a.toInt64 from up_at _ _ _ _)
    unfold SD
    rw [e1, e2, j_wide]
    rw [i_le, e0'] at h1
    exact ⟨rfl, h1, (i_rng a).2⟩
  · rw [if_neg h1, if_neg h1, show (5 : Int32) = Int32.ofNat 5 from rfl, c_refuse (by omega), bd_some, if_pos (Or.inl rfl)]
    exact ⟨_, _, _, rfl, rfl, c, tb, K, S, kc, SimW_ref h (by omega)⟩
theorem TP_len {mc mm mc' mm' : ev_M} {n : Nat} (h : TP mc mm) (hn : n ≤ 1600) (h1 : mc'.1 13 1 = Int32.ofNat n) (h2 : ∀ i, mc'.1 14 i = mc.1 14 i) (h3 : mm'.1 112 1 = Int32.ofNat n) (h4 : ∀ i, mm'.1 113 i = mm.1 113 i) : TP mc' mm' := by
  obtain ⟨L, a, b, c, d⟩ := h
  exact ⟨n, hn, h1, h3, fun i hi => by rw [h2, h4]; exact d i hi⟩
theorem SimW_len {c : Nat} {tb : Bool} {K : sp_K} {S : sp_S} {kc : Nat} {mc mm : ev_M} (h : SimW c tb K S kc mc mm) {n : Nat} (hn : n ≤ 1600) : SimW c tb K S kc (ev_up mc.1 13 1 (Int32.ofNat n), mc.2) (ev_up mm.1 112 1 (Int32.ofNat n), mm.2) := by
  have h0 := h
  obtain ⟨a1, a2, a3, a4, a5, a6, a7, a8, a9, a10, a11, a12⟩ := h
  have C : ∀ a k, ¬ (a = 13 ∧ k = 1) → ((ev_up mc.1 13 1 (Int32.ofNat n), mc.2) : ev_M).1 a k = mc.1 a k := fun a k q => by
    show ev_up mc.1 13 1 _ a k = _
    by_cases e : a = 13
    · subst e; exact up_nk _ _ _ (by omega)
    · rw [up_na _ _ _ _ e]
  have M : ∀ a k, ¬ (a = 112 ∧ k = 1) → ((ev_up mm.1 112 1 (Int32.ofNat n), mm.2) : ev_M).1 a k = mm.1 a k := fun a k q => by
    show ev_up mm.1 112 1 _ a k = _
    by_cases e : a = 112
    · subst e; exact up_nk _ _ _ (by omega)
    · rw [up_na _ _ _ _ e]
  refine SimW_a h0 (fr_one (by unfold relC1; omega)) (fr_one (by unfold relM1; omega)) (TP_len a1 hn (upI_at _ _ _ _ _) (fun i => C _ _ (by omega)) (upI_at _ _ _ _ _) (fun i => M _ _ (by omega))) ?_ ?_ a4 (PC_fr (C _ _ (by omega)) (fun k => C _ _ (by omega)) (M _ _ (by omega)) (fun k => M _ _ (by omega)) a5) (SE_fr (C _ _ (by omega)) (fun k => C _ _ (by omega)) (M _ _ (by omega)) (fun k => M _ _ (by omega)) a6)
  · intro j hj
    rw [C _ _ (by omega), M _ _ (by omega)]; exact a2 j hj
  · unfold FT; rw [C _ _ (by omega), C _ _ (by omega), M _ _ (by omega), M _ _ (by omega)]; exact a3
theorem B_end (f : Nat) (a : Int32) : Both (FX11_end f a) (FX12_end f a) := by
  intro mc mm hS
  obtain ⟨c, tb, K, S, kc, h⟩ := hS
  obtain ⟨L, t1, t2, t3, t4⟩ := h.1
  have hJ : FX11_end_J15 f mc = some (0, (ev_up mc.1 109 0 (mc.1 109 0 + 1), mc.2)) := by
    unfold FX11_end_J15
    rw [show FX11_refuse f 0 mc = some (0, (ev_up mc.1 109 0 (mc.1 109 0 + 1), mc.2)) from c_refuse (i := 0) (by omega), bd_some, if_pos (Or.inl rfl)]
  unfold FX11_end FX12_end
  rw [hJ, t2, t3]
  by_cases h1 : a < 0
  · rw [if_pos h1, if_pos h1]; exact ⟨_, _, _, rfl, rfl, c, tb, K, S, kc, SimW_ref h (by omega)⟩
  rw [if_neg h1, if_neg h1]
  by_cases h2 : a ≤ Int32.ofNat L
  · rw [if_pos h2, if_pos h2]
    rw [i_lt, e0'] at h1
    rw [i_le, n_int (by omega)] at h2
    obtain ⟨n, rfl, n1, n2⟩ := n_ex (a := a) (by omega)
    exact ⟨_, _, _, rfl, rfl, c, tb, K, S, kc, SimW_len h (by omega)⟩
  · rw [if_neg h2, if_neg h2]; exact ⟨_, _, _, rfl, rfl, c, tb, K, S, kc, SimW_ref h (by omega)⟩
theorem B_tower (f : Nat) (a b : Int32) : Both (FX11_tower f a b) (FX12_tower f a b) := Both_q (fun c tb K S kc mc mm h => by
  obtain ⟨a1, a2, a3, a4, a5, a6, a7, a8, a9, a10, a11, a12⟩ := h
  obtain ⟨k1, k2, k3, k4, k5, k6, k7, krest⟩ := a7
  have e2 : (2 : Int64).toInt = 2 := rfl
  unfold FX11_tower FX12_tower
  by_cases h1 : 0 ≤ a.toInt ∧ a.toInt < (K.1 : Int)
  · rw [c_tow1 k1 k2 k6 k5 h1, r_tow1 k7 k5 h1, bd_some, bd_some, if_neg (show ¬ (1 : Int32) = 0 by decide), if_neg (show ¬ (1 : Int32) = 0 by decide)]
    obtain ⟨t, rfl, n1, n2⟩ := n_ex (a := a) h1.1
    have ht : t < K.1 := by omega
    have hs := a8.1.2.2 t (by omega)
    have hg := a8.2.1.2.2 t ht
    by_cases b0 : b = 0
    · subst b0
      rw [if_pos rfl, if_pos ((n_in (by omega)).mpr (by omega)), n_nat (by omega), r_in1 (by decide), bd_some, if_neg (show ¬ (1 : Int32) = 0 by decide), ix0, Int32.add_zero, if_pos ((n_in (by omega)).mpr (by omega)), n_nat (by omega), hg.1, ← hs.1]
      exact ⟨_, mc, mm, rfl, rfl, frP_refl _ _, frP_refl _ _⟩
    rw [if_neg b0]
    by_cases b1 : b = 1
    · subst b1
      rw [if_pos rfl, if_pos ((n_in (by omega)).mpr (by omega)), n_nat (by omega), r_in1 (by decide), bd_some, if_neg (show ¬ (1 : Int32) = 0 by decide), ix1, if_pos ((n_in (by omega)).mpr (by omega)), n_nat (by omega), hg.2.1, ← hs.2.1]
      exact ⟨_, mc, mm, rfl, rfl, frP_refl _ _, frP_refl _ _⟩
    rw [if_neg b1]
    by_cases b2 : b = 2
    · subst b2
      rw [if_pos rfl, r_in1 (by decide), bd_some, if_neg (show ¬ (1 : Int32) = 0 by decide), ix2, if_pos ((n_in (by omega)).mpr (by omega)), n_nat (by omega), hg.2.2, ← hs.2.2]
      exact ⟨_, mc, mm, rfl, rfl, frP_refl _ _, frP_refl _ _⟩
    rw [if_neg b2]
    have c0 : b.toInt ≠ 0 := fun z => b0 (i_eq.mpr z)
    have c1 : b.toInt ≠ 1 := fun z => b1 (i_eq.mpr z)
    have c2 : b.toInt ≠ 2 := fun z => b2 (i_eq.mpr z)
    rw [r_in0 (by rw [j_wide, j_0, e2]; omega), bd_some, if_pos rfl]
    exact ⟨_, mc, mm, rfl, rfl, frP_refl _ _, frP_refl _ _⟩
  · rw [c_tow0 k1 k2 k6 k5 h1, r_tow0 k7 k5 h1, bd_some, bd_some, if_pos rfl, if_pos rfl]
    exact ⟨_, mc, mm, rfl, rfl, frP_refl _ _, frP_refl _ _⟩)
theorem kp_min {mc : ev_M} {kc : Nat} (hk : kc ≤ 999) (k2 : mc.1 103 5 = Int32.ofNat kc) : (if mc.1 103 5 < 40 then mc.1 103 5 else (40 : Int32)) = Int32.ofNat (min 40 kc) := by
  rw [k2, show (40 : Int32) = Int32.ofNat 40 from rfl]
  by_cases q : kc < 40
  · rw [if_pos ((n_lt (by omega) (by omega)).mpr q), show min 40 kc = kc by omega]
  · rw [if_neg (fun z => q ((n_lt (by omega) (by omega)).mp z)), show min 40 kc = 40 by omega]
theorem B_kept (f : Nat) (a b : Int32) : Both (FX11_kept f a b) (FX12_kept f a b) := Both_q (fun c tb K S kc mc mm h => by
  obtain ⟨a1, a2, a3, a4, a5, a6, a7, a8, a9, a10, a11, a12⟩ := h
  obtain ⟨k1, k2, k3, k4⟩ := a9
  have hk : kc ≤ 999 := by have := a8.2.2.2.1; omega
  have e2 : (2 : Int64).toInt = 2 := rfl
  have e2' : (2 : Int32).toInt = 2 := rfl
  unfold FX11_kept FX12_kept
  have em : (Int32.ofNat (min 40 kc) - 1).toInt = ((min 40 kc : Nat) : Int) - 1 := by rw [i_sub (by rw [n_int (by omega), e1']; omega) (by rw [n_int (by omega), e1']; omega), n_int (by omega), e1']
  rw [c_min, bd_some, kp_min hk k2, k3]
  by_cases h1 : a < 0
  · rw [if_pos h1]
    rw [i_lt, e0'] at h1
    rw [r_in0 (by rw [j_wide, j_wide, j_0, em]; omega), bd_some, if_pos rfl]
    exact ⟨_, mc, mm, rfl, rfl, frP_refl _ _, frP_refl _ _⟩
  rw [if_neg h1]
  rw [i_lt, e0'] at h1
  obtain ⟨n, rfl, n1, n2⟩ := n_ex (a := a) (by omega)
  by_cases h2 : Int32.ofNat (min 40 kc) ≤ Int32.ofNat n
  · rw [if_pos h2]
    rw [n_le (by omega) (by omega)] at h2
    rw [r_in0 (by rw [j_wide, j_wide, j_0, em]; omega), bd_some, if_pos rfl]
    exact ⟨_, mc, mm, rfl, rfl, frP_refl _ _, frP_refl _ _⟩
  rw [if_neg h2]
  rw [n_le (by omega) (by omega)] at h2
  rw [r_in1 (by rw [j_wide, j_wide, j_0, em]; omega), bd_some, if_neg (show ¬ (1 : Int32) = 0 by decide)]
  by_cases h3 : b < 0
  · rw [if_pos h3]
    rw [i_lt, e0'] at h3
    rw [r_in0 (by rw [j_wide, j_0, e2]; omega), bd_some, if_pos rfl]
    exact ⟨_, mc, mm, rfl, rfl, frP_refl _ _, frP_refl _ _⟩
  rw [if_neg h3]
  rw [i_lt, e0'] at h3
  obtain ⟨j, rfl, j1, j2⟩ := n_ex (a := b) (by omega)
  by_cases h4 : Int32.ofNat j ≤ 2
  · rw [if_pos h4]
    rw [i_le, n_int j1, e2'] at h4
    rw [r_in1 (by rw [j_wide, j_0, e2]; omega), bd_some, if_neg (show ¬ (1 : Int32) = 0 by decide)]
    unfold FX6_fireOf
    have e3 : (3 : Int32).toInt = 3 := rfl
    have e1000 : (1000 : Int32).toInt = 1000 := rfl
    rw [k2, n_sub (by omega), n_add, if_neg (by rw [i_lt, n_int (by omega), e0']; omega), if_neg (by rw [i_le, n_int (by omega), e1000]; omega), if_neg (by rw [i_lt, n_int (by omega), e0']; omega), if_neg (by rw [i_le, n_int (by omega), e3]; omega)]
    rw [show (3 : Int32) = Int32.ofNat 3 from rfl, show (27 : Int32) = Int32.ofNat 27 from rfl, n_mul, n_mul, n_add, n_add, n_add, if_pos ((n_in (by omega)).mpr (by omega)), if_pos ((n_in (by omega)).mpr (by omega)), n_nat (by omega), n_nat (by omega), bd_some, k4 n j (by omega) (by omega)]
    exact ⟨_, mc, mm, rfl, rfl, frP_refl _ _, frP_refl _ _⟩
  · rw [if_neg h4]
    rw [i_le, n_int j1, e2'] at h4
    rw [r_in0 (by rw [j_wide, j_0, e2]; omega), bd_some, if_pos rfl]
    exact ⟨_, mc, mm, rfl, rfl, frP_refl _ _, frP_refl _ _⟩)
