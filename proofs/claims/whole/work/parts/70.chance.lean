/-! chance -/
theorem SimW_md {c : Nat} {tb : Bool} {K : sp_K} {S : sp_S} {kc t : Nat} {mc mm : ev_M} {v : Int32} (h : SimW c tb K S kc mc mm) (ht : t < K.1) (hv : g9 v) : SimW c tb K (S.1, S.2.1, sp_up S.2.2.1 t v, S.2.2.2.1, S.2.2.2.2) kc (ev_up mc.1 104 t v, mc.2) (ev_up mm.1 144 (2 + 3 * t) v, mm.2) := by
  have hW2 := h
  obtain ⟨b1, b2, b3, b4, b5, b6, b7, b8, b9, b10, b11, b12⟩ := h
  have hT := b7.2.2.2.2.1
  obtain ⟨s1, s2, s3, s4, y, s5, s6⟩ := b8
  refine SimW_b hW2 (fr_one (by unfold relC2; omega)) (fr_one (by unfold relM2; omega)) (Nat.le_refl _) b4 ⟨⟨?_, ?_, fun i hi => ⟨?_, ?_, ?_⟩⟩, ⟨?_, ?_, fun i hi => ⟨?_, ?_, ?_⟩⟩, ⟨s3.1, s3.2.1, fun i hi => ⟨?_, (s3.2.2 i hi).2.1, (s3.2.2 i hi).2.2⟩⟩, s4, y, ?_, s6⟩ (KP_S (KP_cp b9 ?_ (fun k _ => ?_) (fun k z1 z2 => ?_)) rfl) ?_ ?_
  · rw [upI_na _ _ _ _ (by decide)]; exact s1.1
  · rw [upI_na _ _ _ _ (by decide)]; exact s1.2.1
  · show ev_up mc.1 104 t v 104 i = sp_up S.2.2.1 t v i
    rw [ev_up_at]
    unfold sp_up
    by_cases e : i = t
    · rw [if_pos e, if_pos e]
    · rw [if_neg e, if_neg e]; exact (s1.2.2 i hi).1
  · rw [upI_na _ _ _ _ (by decide)]; exact (s1.2.2 i hi).2.1
  · rw [upI_na _ _ _ _ (by decide)]; exact (s1.2.2 i hi).2.2
  · rw [upI_nk _ _ _ _ (by omega)]; exact s2.1
  · rw [upI_nk _ _ _ _ (by omega)]; exact s2.2.1
  · show ev_up mm.1 144 (2 + 3 * t) v 144 (2 + 3 * i) = sp_up S.2.2.1 t v i
    rw [ev_up_at]
    unfold sp_up
    by_cases e : i = t
    · rw [if_pos (by omega), if_pos e]
    · rw [if_neg (by omega), if_neg e]; exact (s2.2.2 i hi).1
  · rw [upI_nk _ _ _ _ (by omega)]; exact (s2.2.2 i hi).2.1
  · rw [upI_nk _ _ _ _ (by omega)]; exact (s2.2.2 i hi).2.2
  · show g9 (sp_up S.2.2.1 t v i)
    unfold sp_up
    split
    · exact hv
    · exact (s3.2.2 i hi).1
  · rw [upI_na _ _ _ _ (by decide)]; exact s5
  · rw [upI_na _ _ _ _ (by decide)]
  · rw [upI_na _ _ _ _ (by decide)]
  · rw [upI_nk _ _ _ _ (by omega)]
  · rw [upI_na _ _ _ _ (by decide)]; exact b11
  · rw [upI_na _ _ _ _ (by decide)]; exact b12
theorem B_cold {f c : Nat} {K : sp_K} {S : sp_S} {kc : Nat} {mc mm : ev_M} (hf : 4000 ≤ f) (h : SimW c true K S kc mc mm) : ∃ (r : Int32) (mc' mm' : ev_M) (S' : sp_S), FX11_catchCold f mc = some (r, mc') ∧ SimW c true K S' kc mc' mm' ∧ S'.1 = S.1 ∧ ∀ (kf : Int32 → ev_M → Option (Int32 × ev_M)) (a1 a2 a3 : Int32) (n : Nat), ¬ a1 ≤ a3 → FX12_chance_L25 f kf a1 (n + 1) a2 a3 mm = FX12_chance_J100 f (FX12_chance_L25 f kf a1 n) (a2 + r) a3 mm' := by
  have hh := h
  obtain ⟨a1, a2, a3, a4, a5, a6, a7, a8, a9, a10, a11, a12⟩ := h
  obtain ⟨k1, k2, k3, k4, k5, k6, k7, k8, k9, k10, krest⟩ := a7
  obtain ⟨q1, q2, q3⟩ := a4
  generalize hx : mc.2 0 17 = x at q1 q2 q3
  have r1 := nxS_r q2 q3
  have c1 : FX11_draw f 100 mc = some (Int32.ofNat (drw x 100), (mc.1, ev_up mc.2 0 17 (nxS x))) := @c_draw f 100 x mc hx q2 q3 (by omega) (by omega)
  have d1 : FX12_drawOf f 100 mm = some (Int32.ofNat (drw x 100), (mm.1, ev_up mm.2 112 66 (nxS x))) := @r_draw f 100 x mm q1.symm q2 q3 (by omega) (by omega)
  have hW1 := SimW_sd hh r1.1 r1.2
  have hcn : (mc.1 0 0).toNatClampNeg = c := by rw [k2, n_nat (by omega)]
  unfold FX11_catchCold
  rw [c1, bd_some]
  show ∃ (r : Int32) (mc' mm' : ev_M) (S' : sp_S), (if isK 1 ((mc.1 0 0)).toNatClampNeg then _ else _) = _ ∧ _
  rw [hcn, if_pos (isK1 k1)]
  by_cases z : mc.1 c 10 ≤ Int32.ofNat (drw x 100)
  · rw [if_pos z]
    refine ⟨0, _, _, S, rfl, hW1, rfl, fun kf a1 a2 a3 n hn => ?_⟩
    rw [FX12_chance_L25, if_neg hn, d1, bd_some, if_pos (by rw [← k10]; exact z), Int32.add_zero]
  rw [if_neg z]
  have z' : ¬ mm.1 140 5 ≤ Int32.ofNat (drw x 100) := by rw [← k10]; exact z
  have h36 : ((mm.1, ev_up mm.2 112 66 (nxS x)) : ev_M).1 112 36 = Int32.ofNat K.1 := k7
  by_cases hT0 : K.1 = 0
  · rw [if_pos (show mc.1 c 5 = 0 by rw [k6, hT0]; rfl)]
    refine ⟨0, _, _, S, rfl, hW1, rfl, fun kf a1 a2 a3 n hn => ?_⟩
    rw [FX12_chance_L25, if_neg hn, d1, bd_some, if_neg z', r_tm h36, bd_some, if_pos (by rw [hT0]; decide), Int32.add_zero]
  rw [if_neg (show ¬ mc.1 c 5 = 0 by rw [k6]; exact fun q => hT0 ((n_z (by omega)).mp q))]
  have e17 : ((mc.1, ev_up mc.2 0 17 (nxS x)) : ev_M).2 0 17 = nxS x := (show ev_up mc.2 0 17 (nxS x) 0 17 = nxS x from up_at _ _ _ _)
  have e66 : ((mm.1, ev_up mm.2 112 66 (nxS x)) : ev_M).2 112 66 = nxS x := (show ev_up mm.2 112 66 (nxS x) 112 66 = nxS x from up_at _ _ _ _)
  have c2 := @c_draw f K.1 (nxS x) (mc.1, ev_up mc.2 0 17 (nxS x)) e17 r1.1 r1.2 (by omega) (by omega)
  have d2 := @r_draw f K.1 (nxS x) (mm.1, ev_up mm.2 112 66 (nxS x)) e66 r1.1 r1.2 (by omega) (by omega)
  have r2 := nxS_r r1.1 r1.2
  have hW2 := SimW_sd hW1 r2.1 r2.2
  have ht : drw (nxS x) K.1 < K.1 := (drw_v r1.1 r1.2 (by omega) (by omega)).2
  generalize drw (nxS x) K.1 = t at c2 d2 ht
  have hmd : mc.1 104 t = S.2.2.1 t := (a8.1.2.2 t (by omega)).1
  have hmd2 : mm.1 144 (2 + 3 * t) = S.2.2.1 t := (a8.2.1.2.2 t ht).1
  have hg : g9 (S.2.2.1 t) := (a8.2.2.1.2.2 t (by omega)).1
  have e2 : (2 : Int32).toInt = 2 := rfl
  have es : (S.2.2.1 t - 2).toInt = (S.2.2.1 t).toInt - 2 := by
    unfold g9 at hg
    rw [i_sub (by rw [e2]; omega) (by rw [e2]; omega), e2]
  have hc2 : FX11_draw f (mc.1 c 5) (mc.1, ev_up mc.2 0 17 (nxS x)) = some (Int32.ofNat t, (mc.1, ev_up (ev_up mc.2 0 17 (nxS x)) 0 17 (nxS (nxS x)))) := by rw [k6]; exact c2
  rw [hc2, bd_some, if_pos ((n_in (by omega)).mpr (by omega)), c_max, bd_some, if_pos ((n_in (by omega)).mpr (by omega)), n_nat (by omega)]
  have ev : (if (0 : Int32) < mc.1 104 t - 2 then mc.1 104 t - 2 else 0) = (if 2 ≤ S.2.2.1 t then S.2.2.1 t - 2 else 0) := by
    rw [hmd]
    by_cases y : 2 ≤ S.2.2.1 t
    · rw [if_pos y]
      rw [i_le, e2] at y
      by_cases y2 : (0 : Int32) < S.2.2.1 t - 2
      · rw [if_pos y2]
      · rw [if_neg y2]
        rw [i_lt, e0', es] at y2
        rw [i_eq, e0', es]
        omega
    · rw [if_neg y]
      rw [i_le, e2] at y
      rw [if_neg (by rw [i_lt, e0', es]; omega)]
  have hv : g9 (if 2 ≤ S.2.2.1 t then S.2.2.1 t - 2 else 0) := by
    unfold g9 at hg ⊢
    by_cases y : 2 ≤ S.2.2.1 t
    · rw [if_pos y, es]
      rw [i_le, e2] at y
      omega
    · rw [if_neg y]; decide
  refine ⟨1, (ev_up mc.1 104 t (if 2 ≤ S.2.2.1 t then S.2.2.1 t - 2 else 0), ev_up (ev_up mc.2 0 17 (nxS x)) 0 17 (nxS (nxS x))), (ev_up mm.1 144 (2 + 3 * t) (if 2 ≤ S.2.2.1 t then S.2.2.1 t - 2 else 0), ev_up (ev_up mm.2 112 66 (nxS x)) 112 66 (nxS (nxS x))), _, ?_, SimW_md hW2 ht hv, rfl, fun kf a1 a2 a3 n hn => ?_⟩
  · rw [← ev]
  · rw [FX12_chance_L25, if_neg hn, d1, bd_some, if_neg z', r_tm h36, bd_some, if_neg (by rw [i_le, n_int (by omega), e0']; omega), r_tm h36, bd_some, d2, bd_some, ix0, if_pos ((n_in (by omega)).mpr (by omega))]
    have hm3 : mm.1 144 (Int32.ofNat (2 + 3 * t)).toNatClampNeg = S.2.2.1 t := by rw [n_nat (by omega)]; exact hmd2
    by_cases y : 2 ≤ S.2.2.1 t
    · rw [if_pos (show 2 ≤ mm.1 144 (Int32.ofNat (2 + 3 * t)).toNatClampNeg by rw [hm3]; exact y), if_pos y]
      unfold FX12_chance_J96
      rw [if_pos ((n_in (by omega)).mpr (by omega)), hm3, if_pos ((n_in (by omega)).mpr (by omega)), n_nat (by omega)]
    · rw [if_neg (show ¬ 2 ≤ mm.1 144 (Int32.ofNat (2 + 3 * t)).toNatClampNeg by rw [hm3]; exact y), if_neg y]
      unfold FX12_chance_J96
      rw [if_pos ((n_in (by omega)).mpr (by omega)), n_nat (by omega)]
theorem B_chaL {f c N : Nat} {K : sp_K} (hf : 4000 ≤ f) (hN : N ≤ 100) : ∀ (j t n n' : Nat) (S : sp_S) (kc : Nat) (a : Int32) (mc mm : ev_M), t + j = N → j < n → j < n' → S.1.toInt + j ≤ 999 → SimW c true K S kc mc mm → ∃ (a' : Int32) (mc' mm' : ev_M), FX11_chance_L31 f (fun e9 m10 => some (e9, m10)) (Int32.ofNat N) n a (Int32.ofNat t) mc = some (a', mc') ∧ FX12_chance_L25 f (fun e15 m16 => some (e15, m16)) (Int32.ofNat N) n' a (Int32.ofNat t) mm = some (a', mm') ∧ Sim mc' mm' := by
  intro j
  induction j with
  | zero =>
    intro t n n' S kc a mc mm h1 h2 h2' h3 h4
    obtain ⟨n, rfl⟩ : ∃ z, n = z + 1 := ⟨n - 1, by omega⟩
    obtain ⟨n', rfl⟩ : ∃ z, n' = z + 1 := ⟨n' - 1, by omega⟩
    rw [FX11_chance_L31, FX12_chance_L25, if_pos ((n_le (by omega) (by omega)).mpr (by omega)), if_pos ((n_le (by omega) (by omega)).mpr (by omega))]
    exact ⟨a, mc, mm, rfl, rfl, ⟨c, true, K, S, kc, h4⟩⟩
  | succ j ih =>
    intro t n n' S kc a mc mm h1 h2 h2' h3 h4
    obtain ⟨n, rfl⟩ : ∃ z, n = z + 1 := ⟨n - 1, by omega⟩
    obtain ⟨n', rfl⟩ : ∃ z, n' = z + 1 := ⟨n' - 1, by omega⟩
    have hne : ¬ Int32.ofNat N ≤ Int32.ofNat t := fun z => by rw [n_le (by omega) (by omega)] at z; omega
    obtain ⟨r1, mc1, mm1, S1, c1, hW1, eS, d1⟩ := B_cold hf h4
    obtain ⟨w, k, q0, x1, x2, x3, x4, x5, x6, x7, x8, x9⟩ := SimW_T hW1
    have r0 := x5.1.1
    rw [eS] at r0 x6
    obtain ⟨r, mc', mm', kc', c2, d2, hW, e55⟩ := B_round hf hW1 (by rw [eS]; omega)
    have e1 : (sp_go K 0 S1).1.toInt = S.1.toInt + 1 := by
      show (S1.1 + 1).toInt = _
      rw [eS, i_add (by rw [e1']; omega) (by rw [e1']; omega), e1']
    rw [FX11_chance_L31, if_neg hne, c1, bd_some, c2, bd_some, d1 _ _ _ _ _ hne]
    unfold FX12_chance_J100
    rw [d2, bd_some, s_1]
    exact ih (t + 1) n n' (sp_go K 0 S1) kc' (a + r1) mc' mm' (by omega) (by omega) (by omega) (by rw [e1]; omega) hW
theorem B_chance (f : Nat) (hf : 4000 ≤ f) (b : Int32) : Both (FX11_chance f b) (FX12_chance f b) := by
  intro mc mm hS
  obtain ⟨c, tb, K, S, kc, h⟩ := hS
  have hh := h
  obtain ⟨a1, a2, a3, a4, a5, a6, a7, a8, a9, a10, a11, a12⟩ := h
  have rc : FX11_refuse f 3 mc = some (0, (ev_up mc.1 109 3 (mc.1 109 3 + 1), mc.2)) := c_refuse (i := 3) (by omega)
  have rr : FX12_refuses f 3 mm = some (-1, (ev_up mm.1 114 3 (mm.1 114 3 + 1), mm.2)) := r_rfs (i := 3) (by omega)
  unfold FX11_chance FX12_chance
  cases tb
  · have : FX11_canGo f b mc = some (0, mc) := by unfold FX11_canGo; rw [c_t0 a7, bd_some, if_pos rfl]
    rw [this, bd_some, if_pos rfl, r_ahF (SimW_F hh).2, bd_some, if_pos rfl, rc, bd_some, rr, bd_some]
    exact ⟨_, _, _, rfl, rfl, c, false, K, S, kc, SimW_ref hh (by omega)⟩
  obtain ⟨w, k, q0, x1, x2, x3, x4, x5, x6, x7, x8, x9⟩ := SimW_T hh
  rw [c_canGo a7]
  by_cases h3 : 1 ≤ b.toInt ∧ b.toInt ≤ 100 ∧ S.1.toInt + b.toInt ≤ 999
  · obtain ⟨N, rfl, n3, n4⟩ := n_ex (a := b) (by omega)
    obtain ⟨mc1, mm1, c1, d1, hW, fc, fm⟩ := B_keep hf hh
    obtain ⟨a', mc', mm', e1, e2, e3⟩ := @B_chaL f c N K hf (by omega) N 0 f f S kc 0 mc1 mm1 (by omega) (by omega) (by omega) (by omega) hW
    rw [c_can1 (l := 1) (h := 100) rfl rfl x3.1 (by omega) (by omega) x5.1.1 x6 h3, bd_some, if_neg n10, bd_some, if_neg n10, r_ah1 (l := 1) (h := 100) rfl rfl x4.1 x9 (by omega) (by omega) x5.1.1 x6 h3, bd_some, if_neg n10, c1, bd_some, d1, bd_some]
    rw [z0] at e1 e2
    rw [e1, e2]
    exact ⟨a', mc', mm', rfl, rfl, e3⟩
  · rw [c_can0 (l := 1) (h := 100) rfl rfl x3.1 (by omega) (by omega) x5.1.1 x6 h3, bd_some, if_pos rfl, bd_some, if_pos rfl, r_ah0 (l := 1) (h := 100) rfl rfl x4.1 x9 (by omega) (by omega) x5.1.1 x6 h3, bd_some, if_pos rfl, rc, bd_some, rr, bd_some]
    exact ⟨_, _, _, rfl, rfl, c, true, K, S, kc, SimW_ref hh (by omega)⟩
