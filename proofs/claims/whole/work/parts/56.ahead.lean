/-! tone, mood, doubts, fire, rule -/
theorem n10 : ¬ (1 : Int32) = 0 := by decide
theorem SimW_T {c : Nat} {K : sp_K} {S : sp_S} {kc : Nat} {mc mm : ev_M} (h : SimW c true K S kc mc mm) : ∃ w k q, CX c K w k mc ∧ RX K w k q mm ∧ CS mc 103 S ∧ RS mm K.1 S ∧ sp_rg S ∧ S.1.toInt ≤ 999 ∧ mm.1 112 53 = 0 ∧ mm.1 112 54 = 0 ∧ mm.1 112 45 = 1 := by
  obtain ⟨w, k, q, x1, x2⟩ := SimW_X h
  obtain ⟨a1, a2, a3, a4, a5, a6, a7, a8, a9, a10, a11, a12⟩ := h
  exact ⟨w, k, q, x1, x2, a8.1, a8.2.1, a8.2.2.1, a8.2.2.2.1, a11, a12, (r_told a7).trans (if_pos rfl)⟩
theorem SimW_F {c : Nat} {K : sp_K} {S : sp_S} {kc : Nat} {mc mm : ev_M} (h : SimW c false K S kc mc mm) : K.1 = 0 ∧ mm.1 112 45 = 0 := by
  obtain ⟨a1, a2, a3, a4, a5, a6, a7, a8, a9, a10, a11, a12⟩ := h
  rcases a7.2.2.2.2.2.2.2.2.2.2.1 with ⟨b1, b2, b3, b4, b5⟩ | ⟨b1, b2, b3, b4⟩
  · exact absurd b1 (by decide)
  · exact ⟨b4, b2⟩
theorem c_t1 {f c : Nat} {K : sp_K} {mc mm : ev_M} (h : CA c true K mc mm) : FX11_isTold f mc = some (1, mc) := by rw [c_told h, if_pos rfl]
theorem c_t0 {f c : Nat} {K : sp_K} {mc mm : ev_M} (h : CA c false K mc mm) : FX11_isTold f mc = some (0, mc) := by rw [c_told h, if_neg (by decide)]
theorem c_can1 {f : Nat} {a lo hi rd : Int32} {m : ev_M} {l h : Int} (el : lo.toInt = l) (eh : hi.toInt = h) (h2 : m.1 103 2 = rd) (l0 : 0 ≤ l) (hh : h ≤ 1000) (r0 : 0 ≤ rd.toInt) (r9 : rd.toInt ≤ 999) (c : l ≤ a.toInt ∧ a.toInt ≤ h ∧ rd.toInt + a.toInt ≤ 999) : FX11_canBeAhead f a lo hi m = some (1, m) := by
  have e : (999 : Int32).toInt = 999 := rfl
  unfold FX11_canBeAhead
  rw [if_neg (by rw [i_lt, el]; omega), if_neg (by rw [i_lt, eh]; omega), h2, if_neg (by rw [i_lt, e, i_add (by omega) (by omega)]; omega)]
theorem c_can0 {f : Nat} {a lo hi rd : Int32} {m : ev_M} {l h : Int} (el : lo.toInt = l) (eh : hi.toInt = h) (h2 : m.1 103 2 = rd) (l0 : 0 ≤ l) (hh : h ≤ 1000) (r0 : 0 ≤ rd.toInt) (r9 : rd.toInt ≤ 999) (c : ¬ (l ≤ a.toInt ∧ a.toInt ≤ h ∧ rd.toInt + a.toInt ≤ 999)) : FX11_canBeAhead f a lo hi m = some (0, m) := by
  have e : (999 : Int32).toInt = 999 := rfl
  unfold FX11_canBeAhead
  by_cases q1 : a < lo
  · rw [if_pos q1]
  rw [if_neg q1]
  by_cases q2 : hi < a
  · rw [if_pos q2]
  rw [if_neg q2, h2]
  rw [i_lt, el] at q1
  rw [i_lt, eh] at q2
  rw [if_pos (by rw [i_lt, e, i_add (by omega) (by omega)]; omega)]
theorem c_com1 {f : Nat} {a rd : Int32} {m : ev_M} (h2 : m.1 103 2 = rd) (r0 : 0 ≤ rd.toInt) (r9 : rd.toInt ≤ 999) (c : 0 ≤ a.toInt ∧ a.toInt ≤ 60 ∧ rd.toInt + a.toInt < 999) : FX11_comes f a m = some (1, m) := by
  have e : (999 : Int32).toInt = 999 := rfl
  have e6 : (60 : Int32).toInt = 60 := rfl
  unfold FX11_comes
  rw [if_neg (by rw [i_lt, e0']; omega), if_neg (by rw [i_lt, e6]; omega), h2, if_neg (by rw [i_le, e, i_add (by omega) (by omega)]; omega)]
theorem c_com0 {f : Nat} {a rd : Int32} {m : ev_M} (h2 : m.1 103 2 = rd) (r0 : 0 ≤ rd.toInt) (r9 : rd.toInt ≤ 999) (c : ¬ (0 ≤ a.toInt ∧ a.toInt ≤ 60 ∧ rd.toInt + a.toInt < 999)) : FX11_comes f a m = some (0, m) := by
  have e : (999 : Int32).toInt = 999 := rfl
  have e6 : (60 : Int32).toInt = 60 := rfl
  unfold FX11_comes
  by_cases q1 : a < 0
  · rw [if_pos q1]
  rw [if_neg q1]
  by_cases q2 : 60 < a
  · rw [if_pos q2]
  rw [if_neg q2, h2]
  rw [i_lt, e0'] at q1
  rw [i_lt, e6] at q2
  rw [if_pos (by rw [i_le, e, i_add (by omega) (by omega)]; omega)]
theorem r_ah1 {f : Nat} {a lo hi rd : Int32} {m : ev_M} {l h : Int} (el : lo.toInt = l) (eh : hi.toInt = h) (h0 : m.1 144 0 = rd) (h45 : m.1 112 45 = 1) (l0 : 0 ≤ l) (hh : h ≤ 1000) (r0 : 0 ≤ rd.toInt) (r9 : rd.toInt ≤ 999) (c : l ≤ a.toInt ∧ a.toInt ≤ h ∧ rd.toInt + a.toInt ≤ 999) : FX12_isAhead f a lo hi m = some (1, m) := by
  have e : (999 : Int32).toInt = 999 := rfl
  unfold FX12_isAhead
  rw [h45, if_neg n10, r_in1 (by rw [j_wide, j_wide, j_wide, el, eh]; omega), bd_some, if_neg n10, h0, if_neg (by rw [i_lt, e, i_add (by omega) (by omega)]; omega)]
theorem r_ah0 {f : Nat} {a lo hi rd : Int32} {m : ev_M} {l h : Int} (el : lo.toInt = l) (eh : hi.toInt = h) (h0 : m.1 144 0 = rd) (h45 : m.1 112 45 = 1) (l0 : 0 ≤ l) (hh : h ≤ 1000) (r0 : 0 ≤ rd.toInt) (r9 : rd.toInt ≤ 999) (c : ¬ (l ≤ a.toInt ∧ a.toInt ≤ h ∧ rd.toInt + a.toInt ≤ 999)) : FX12_isAhead f a lo hi m = some (0, m) := by
  have e : (999 : Int32).toInt = 999 := rfl
  unfold FX12_isAhead
  rw [h45, if_neg n10]
  by_cases q : l ≤ a.toInt ∧ a.toInt ≤ h
  · rw [r_in1 (by rw [j_wide, j_wide, j_wide, el, eh]; omega), bd_some, if_neg n10, h0, if_pos (by rw [i_lt, e, i_add (by omega) (by omega)]; omega)]
  · rw [r_in0 (by rw [j_wide, j_wide, j_wide, el, eh]; omega), bd_some, if_pos rfl]
theorem r_ahF {f : Nat} {a lo hi : Int32} {m : ev_M} (h45 : m.1 112 45 = 0) : FX12_isAhead f a lo hi m = some (0, m) := by
  unfold FX12_isAhead
  rw [h45, if_pos rfl]
theorem r_goes {f k q N : Nat} {K : sp_K} {w : Int32} {m : ev_M} {S : sp_S} (hf : 1700 ≤ f) (hX : RX K w k q m) (hS : RS m K.1 S) (hr : sp_rg S) (h9 : S.1.toInt ≤ 999) (h53 : m.1 112 53 = 0) (h54 : m.1 112 54 = 0) (hN : N ≤ 100) :
    ∃ m1 m2 m3, FX12_putsAside f m = some ((), m1) ∧ FX12_roundsGo f (Int32.ofNat N) m1 = some ((), m2) ∧ FX12_takesBack f m2 = some ((), m3) ∧ RS m2 K.1 (gos K S N) ∧ fM m m3 ∧ (0 < N → ∀ i, i < K.1 → m3.1 146 i = sp_tns K 0 (gos K S (N - 1)) i) := by
  obtain ⟨m1, r1, r2, r3, r4, r5, r6⟩ := @r_aside f K.1 m S (by omega) hS
  obtain ⟨m2, s1, s2, s3, s4, s5⟩ := @r_goesL f k q N K w m S (fun m3 => some ((), m3)) hf hX hr h9 hN N 0 f m1 (by omega) (by omega) r2 r3 (by rw [r4]; exact h53) (fun z => by omega)
  obtain ⟨m3, t1, t2, t3⟩ := @r_back f K.1 m m2 S (by omega) hX.1.1 s2 hS (by rw [s4, h53]) h54
  refine ⟨m1, m2, m3, r1, ?_, t1, s3, t2, fun z i hi => by rw [t3]; exact s5 z i hi⟩
  unfold FX12_roundsGo
  rw [show (0 : Int32) = Int32.ofNat 0 from rfl, s1]
theorem r_goto1 {f k q N : Nat} {K : sp_K} {w : Int32} {m : ev_M} {S : sp_S} (hf : 1700 ≤ f) (hX : RX K w k q m) (hS : RS m K.1 S) (hr : sp_rg S) (h9 : S.1.toInt ≤ 999) (h53 : m.1 112 53 = 0) (h54 : m.1 112 54 = 0) (h45 : m.1 112 45 = 1) (hN : N ≤ 60) (hN2 : S.1.toInt + N < 999) :
    ∃ m', FX12_doGoTo f (Int32.ofNat N) m = some (1, m') ∧ fM m m' ∧ ∀ i, i < K.1 → m'.1 146 i = sp_tns K 0 (gos K S N) i := by
  obtain ⟨m1, m2, m3, r1, r2, r3, r4, r5, r6⟩ := @r_goes f k q (N + 1) K w m S hf hX hS hr h9 h53 h54 (by omega)
  have e60 : (60 : Int64).toInt = 60 := rfl
  have r0 := hr.1.1
  unfold FX12_doGoTo
  rw [r_in1 (by rw [j_wide, n_int (by omega), j_0, e60]; omega), bd_some, if_neg n10, s_1, r_ah1 (l := 1) (h := 61) rfl rfl hS.1 h45 (by omega) (by omega) r0 h9 (by rw [n_int (by omega)]; omega), bd_some, if_neg n10, r1, bd_some, r2, bd_some, r3, bd_some]
  exact ⟨m3, rfl, r5, r6 (by omega)⟩
theorem r_goto0 {f : Nat} {a rd : Int32} {m : ev_M} (h0 : m.1 144 0 = rd) (h45 : m.1 112 45 = 1) (r0 : 0 ≤ rd.toInt) (r9 : rd.toInt ≤ 999) (c : ¬ (0 ≤ a.toInt ∧ a.toInt ≤ 60 ∧ rd.toInt + a.toInt < 999)) : FX12_doGoTo f a m = some (0, m) := by
  have e60 : (60 : Int64).toInt = 60 := rfl
  unfold FX12_doGoTo
  by_cases q : 0 ≤ a.toInt ∧ a.toInt ≤ 60
  · have ea : (a + 1).toInt = a.toInt + 1 := by rw [i_add (by rw [e1']; omega) (by rw [e1']; omega), e1']
    rw [r_in1 (by rw [j_wide, j_0, e60]; omega), bd_some, if_neg n10, r_ah0 (l := 1) (h := 61) rfl rfl h0 h45 (by omega) (by omega) r0 r9 (by rw [ea]; omega), bd_some, if_pos rfl]
  · rw [r_in0 (by rw [j_wide, j_0, e60]; omega), bd_some, if_pos rfl]
theorem r_gotoF {f : Nat} {a : Int32} {m : ev_M} (h45 : m.1 112 45 = 0) : FX12_doGoTo f a m = some (0, m) := by
  unfold FX12_doGoTo
  rw [r_isIn, bd_some]
  split
  · rw [if_neg n10, r_ahF h45, bd_some, if_pos rfl]
  · rw [if_pos rfl]
theorem B_tone (f : Nat) (hf : 4000 ≤ f) (a b : Int32) : Both (FX11_tone f a b) (FX12_tone f a b) := Both_m (fun c tb K S kc mc mm h => by
  have hh := h
  obtain ⟨a1, a2, a3, a4, a5, a6, a7, a8, a9, a10, a11, a12⟩ := h
  obtain ⟨k1, k2, k3, k4, k5, k6, k7, krest⟩ := a7
  unfold FX11_tone FX12_tone
  by_cases h1 : 0 ≤ a.toInt ∧ a.toInt < (K.1 : Int)
  rotate_left
  · rw [c_tow0 k1 k2 k6 k5 h1, r_tow0 k7 k5 h1, bd_some, bd_some, if_pos rfl, if_pos rfl]
    exact ⟨_, mc, mm, rfl, rfl, frP_refl _ _, fM_refl _⟩
  rw [c_tow1 k1 k2 k6 k5 h1, r_tow1 k7 k5 h1, bd_some, bd_some, if_neg n10, if_neg n10]
  cases tb
  · exact absurd (SimW_F hh).1 (by omega)
  obtain ⟨w, k, q, x1, x2, x3, x4, x5, x6, x7, x8, x9⟩ := SimW_T hh
  obtain ⟨t, rfl, n1, n2⟩ := n_ex (a := a) h1.1
  by_cases h2 : 0 ≤ b.toInt ∧ b.toInt ≤ 60 ∧ S.1.toInt + b.toInt < 999
  · obtain ⟨N, rfl, n3, n4⟩ := n_ex (a := b) h2.1
    obtain ⟨mc', c1, c2, c3, c4⟩ := @c_ahead f c k (N + 1) K w mc S (by omega) x1 x3 x5 x6 (by omega) (by omega)
    obtain ⟨mm', d1, d2, d3⟩ := @r_goto1 f k q N K w mm S (by omega) x2 x4 x5 x6 x7 x8 x9 (by omega) (by omega)
    have e := (c4 (by omega)).1 t (by omega)
    rw [Nat.add_sub_cancel] at e
    rw [c_com1 x3.1 x5.1.1 x6 h2, bd_some, if_neg n10, s_1, c1, bd_some, d1, bd_some, if_neg n10, if_pos ((n_in (by omega)).mpr (by omega)), if_pos ((n_in (by omega)).mpr (by omega)), n_nat (by omega), e, d3 t (by omega)]
    exact ⟨_, mc', mm', rfl, rfl, c2, d2⟩
  · rw [c_com0 x3.1 x5.1.1 x6 h2, bd_some, if_pos rfl, r_goto0 x4.1 x9 x5.1.1 x6 h2, bd_some, if_pos rfl]
    exact ⟨_, mc, mm, rfl, rfl, frP_refl _ _, fM_refl _⟩)
theorem B_mood (f : Nat) (hf : 4000 ≤ f) (a b : Int32) : Both (FX11_mood f a b) (FX12_mood f a b) := Both_m (fun c tb K S kc mc mm h => by
  have hh := h
  obtain ⟨a1, a2, a3, a4, a5, a6, a7, a8, a9, a10, a11, a12⟩ := h
  obtain ⟨k1, k2, k3, k4, k5, k6, k7, krest⟩ := a7
  unfold FX11_mood FX12_mood
  by_cases h1 : 0 ≤ a.toInt ∧ a.toInt < (K.1 : Int)
  rotate_left
  · rw [c_tow0 k1 k2 k6 k5 h1, r_tow0 k7 k5 h1, bd_some, bd_some, if_pos rfl, if_pos rfl]
    exact ⟨_, mc, mm, rfl, rfl, frP_refl _ _, fM_refl _⟩
  rw [c_tow1 k1 k2 k6 k5 h1, r_tow1 k7 k5 h1, bd_some, bd_some, if_neg n10, if_neg n10]
  cases tb
  · exact absurd (SimW_F hh).1 (by omega)
  obtain ⟨w, k, q, x1, x2, x3, x4, x5, x6, x7, x8, x9⟩ := SimW_T hh
  obtain ⟨t, rfl, n1, n2⟩ := n_ex (a := a) h1.1
  by_cases h2 : 0 ≤ b.toInt ∧ b.toInt ≤ 60 ∧ S.1.toInt + b.toInt ≤ 999
  · obtain ⟨N, rfl, n3, n4⟩ := n_ex (a := b) h2.1
    obtain ⟨mc', c1, c2, c3, c4⟩ := @c_ahead f c k N K w mc S (by omega) x1 x3 x5 x6 (by omega) (by omega)
    obtain ⟨m1, m2, m3, r1, r2, r3, r4, r5, r6⟩ := @r_goes f k q N K w mm S (by omega) x2 x4 x5 x6 x7 x8 (by omega)
    have e : mc'.1 107 t = (gos K S N).2.2.1 t := (c3.2.2 t (by omega)).1
    rw [c_can1 (l := 0) (h := 60) rfl rfl x3.1 (by omega) (by omega) x5.1.1 x6 h2, bd_some, if_neg n10, c1, bd_some, r_ah1 (l := 0) (h := 60) rfl rfl x4.1 x9 (by omega) (by omega) x5.1.1 x6 h2, bd_some, if_neg n10, r1, bd_some, r2, bd_some, r_mood (by omega), bd_some, r3, bd_some, if_pos ((n_in (by omega)).mpr (by omega)), n_nat (by omega), e, (r4.2.2 t (by omega)).1]
    exact ⟨_, mc', m3, rfl, rfl, c2, r5⟩
  · rw [c_can0 (l := 0) (h := 60) rfl rfl x3.1 (by omega) (by omega) x5.1.1 x6 h2, bd_some, if_pos rfl, r_ah0 (l := 0) (h := 60) rfl rfl x4.1 x9 (by omega) (by omega) x5.1.1 x6 h2, bd_some, if_pos rfl]
    exact ⟨_, mc, mm, rfl, rfl, frP_refl _ _, fM_refl _⟩)
theorem c_dones {f T : Nat} {p : Nat → Bool} {m : ev_M} (hT : T ≤ 8) (h : m.1 16 3 = Int32.ofNat (msk p T)) : FX3_doubtfulOnes f m = some (Int32.ofNat (cnt p T), m) := by
  unfold FX3_doubtfulOnes
  rw [h, c_bitsM (by omega), bd_some]
theorem B_doubts (f : Nat) (hf : 4000 ≤ f) (b : Int32) : Both (FX11_doubts f b) (FX12_doubts f b) := Both_m (fun c tb K S kc mc mm h => by
  have hh := h
  obtain ⟨a1, a2, a3, a4, a5, a6, a7, a8, a9, a10, a11, a12⟩ := h
  have k0 := a7
  obtain ⟨k1, k2, k3, k4, k5, k6, k7, krest⟩ := a7
  unfold FX11_doubts FX12_doubts
  cases tb
  · rw [c_t0 k0, bd_some, if_pos rfl, r_gotoF (SimW_F hh).2, bd_some, if_pos rfl]
    exact ⟨_, mc, mm, rfl, rfl, frP_refl _ _, fM_refl _⟩
  rw [c_t1 k0, bd_some, if_neg n10]
  obtain ⟨w, k, q, x1, x2, x3, x4, x5, x6, x7, x8, x9⟩ := SimW_T hh
  by_cases h2 : 0 ≤ b.toInt ∧ b.toInt ≤ 60 ∧ S.1.toInt + b.toInt < 999
  · obtain ⟨N, rfl, n3, n4⟩ := n_ex (a := b) h2.1
    obtain ⟨mc', c1, c2, c3, c4⟩ := @c_ahead f c k (N + 1) K w mc S (by omega) x1 x3 x5 x6 (by omega) (by omega)
    obtain ⟨mm', d1, d2, d3⟩ := @r_goto1 f k q N K w mm S (by omega) x2 x4 x5 x6 x7 x8 x9 (by omega) (by omega)
    have e := (c4 (by omega)).2
    rw [Nat.add_sub_cancel] at e
    have e36 : mm'.1 112 36 = Int32.ofNat K.1 := (d2.1 112 36 (by unfold relM; omega)).trans k7
    have e140 : mm'.1 140 3 = w := (d2.1 140 3 (by unfold relM; omega)).trans x2.2.1
    rw [c_com1 x3.1 x5.1.1 x6 h2, bd_some, if_neg n10, s_1, c1, bd_some, c_dones k5 e, bd_some, d1, bd_some, if_neg n10, r_doubts (by omega) e36 k5, bd_some, e140, cnt_congr (q := dbt w (sp_tns K 0 (gos K S N))) (dbt_congr d3)]
    exact ⟨_, mc', mm', rfl, rfl, c2, d2⟩
  · rw [c_com0 x3.1 x5.1.1 x6 h2, bd_some, if_pos rfl, r_goto0 x4.1 x9 x5.1.1 x6 h2, bd_some, if_pos rfl]
    exact ⟨_, mc, mm, rfl, rfl, frP_refl _ _, fM_refl _⟩)
theorem c_isFire {f c k : Nat} {K : sp_K} {w : Int32} {p : Nat → Bool} {m : ev_M} (hf : 9 ≤ f) (hX : CX c K w k m) (h : m.1 16 3 = Int32.ofNat (msk p K.1)) : FX3_isFire f m = some (if rowS p K.1 k = -1 then 0 else 1, m) := by
  obtain ⟨a1, a2, a3, a4, a5, a6, a7, a8⟩ := hX
  have hcn : (m.1 16 2).toNatClampNeg = c := by rw [a3, n_nat (by omega)]
  have hT := a4.2.1
  unfold FX3_isFire
  rw [hcn, if_pos (isK1 a1), a6, c_row hf (by omega) a8 a7 h, bd_some]
  split <;> rfl
def rwS (K : sp_K) (w : Int32) (k : Nat) (S : sp_S) (t : Nat) : Int32 := rowS (dbt w (sp_tns K 0 (gos K S t))) K.1 k
def fireF (K : sp_K) (w : Int32) (k : Nat) (S : sp_S) : Nat → Nat → Int32
  | 0, _ => -1
  | j + 1, t => if 999 ≤ S.1.toInt + (t : Int) then -1 else if rwS K w k S t = -1 then fireF K w k S j (t + 1) else Int32.ofNat t
theorem c_hasN {f o : Nat} {m : ev_M} {rd : Int32} (h : m.1 o 2 = rd) : FX8_hasNext f o m = some (if 999 ≤ rd.toInt then 0 else 1, m) := by
  have e : (999 : Int32).toInt = 999 := rfl
  unfold FX8_hasNext
  rw [h]
  by_cases q : 999 ≤ rd.toInt
  · rw [if_pos (by rw [i_le, e]; exact q), if_pos q]
  · rw [if_neg (by rw [i_le, e]; exact q), if_neg q]
theorem c_fireL {f c k : Nat} {K : sp_K} {w : Int32} {m0 : ev_M} {S : sp_S} (hf : 1700 ≤ f) (hX : CX c K w k m0) (hr : sp_rg S) (h9 : S.1.toInt ≤ 999) : ∀ (j t n : Nat) (m : ev_M), t + j = 61 → j < n → frP relC m0 m → CS m 106 (gos K S t) → ∃ m', FX11_fire_L22 f (fun m11 => some ((-1), m11)) n (Int32.ofNat t) m = some (fireF K w k S j t, m') ∧ frP relC m0 m' := by
  have hT := hX.2.2.2.1.2.1
  have e60 : (60 : Int32) = Int32.ofNat 60 := rfl
  intro j
  induction j with
  | zero =>
    intro t n m h1 h2 q1 q2
    obtain ⟨n, rfl⟩ : ∃ z, n = z + 1 := ⟨n - 1, by omega⟩
    rw [FX11_fire_L22, if_pos (by rw [e60, n_lt (by omega) (by omega)]; omega)]
    exact ⟨m, rfl, q1⟩
  | succ j ih =>
    intro t n m h1 h2 q1 q2
    obtain ⟨n, rfl⟩ : ∃ z, n = z + 1 := ⟨n - 1, by omega⟩
    have hg := gos_rd (K := K) hr h9 hT t (by omega)
    rw [FX11_fire_L22, if_neg (by rw [e60, n_lt (by omega) (by omega)]; omega), c_hasN q2.1, bd_some, hg.2]
    unfold fireF
    by_cases z : 999 ≤ S.1.toInt + (t : Int)
    · rw [if_pos z, if_pos rfl, if_pos z]; exact ⟨m, rfl, q1⟩
    rw [if_neg z, if_neg n10, if_neg z]
    obtain ⟨m', r1, r2, r3, r4, r5⟩ := @c_goT f 106 c k K w 0 m0 m (gos K S t) hf (by unfold okT; omega) hX q1 q2 hg.1 (by rw [hg.2]; omega)
    rw [r1, bd_some, c_isFire (by omega) (CX_fr r2 hX) r5, bd_some, s_1]
    show ∃ m'', (if (if rwS K w k S t = -1 then (0 : Int32) else 1) = 0 then _ else _) = _ ∧ _
    by_cases z2 : rwS K w k S t = -1
    · rw [if_pos z2, if_pos rfl, if_pos z2]
      exact ih (t + 1) n m' (by omega) (by omega) r2 r3
    · rw [if_neg z2, if_neg n10, if_neg z2]
      exact ⟨m', rfl, r2⟩
theorem n_m1 {t : Nat} (h : t < 1000) : ¬ Int32.ofNat t = -1 := by
  have e : (-1 : Int32).toInt = -1 := by decide
  rw [i_eq, n_int (by omega), e]
  omega
theorem r_fireL {f k q : Nat} {K : sp_K} {w : Int32} {m0 : ev_M} {S : sp_S} {kf : Int32 → ev_M → Option (Int32 × ev_M)} (hf : 1700 ≤ f) (hX : RX K w k q m0) (hr : sp_rg S) (h9 : S.1.toInt ≤ 999) : ∀ (j t n : Nat) (m : ev_M), t + j = 61 → j < n → TR m0 m → RS m K.1 (gos K S t) → m.1 112 53 = 0 → m.1 112 55 = 0 → ∃ m', FX12_fire_L17 f kf n (-1) (Int32.ofNat t) m = kf (fireF K w k S j t) m' ∧ TR m0 m' ∧ m'.1 112 53 = 0 := by
  have hT := hX.1.1
  have e60 : (60 : Int32) = Int32.ofNat 60 := rfl
  have e9 : (999 : Int32).toInt = 999 := rfl
  intro j
  induction j with
  | zero =>
    intro t n m h1 h2 q1 q2 q3 q4
    obtain ⟨n, rfl⟩ : ∃ z, n = z + 1 := ⟨n - 1, by omega⟩
    rw [FX12_fire_L17, if_pos (by rw [e60, n_lt (by omega) (by omega)]; omega)]
    exact ⟨m, rfl, q1, q3⟩
  | succ j ih =>
    intro t n m h1 h2 q1 q2 q3 q4
    obtain ⟨n, rfl⟩ : ∃ z, n = z + 1 := ⟨n - 1, by omega⟩
    have hg := gos_rd (K := K) hr h9 hT t (by omega)
    rw [FX12_fire_L17, if_neg (by rw [e60, n_lt (by omega) (by omega)]; omega), if_pos rfl, q2.1]
    unfold fireF
    by_cases z : 999 ≤ S.1.toInt + (t : Int)
    · rw [if_pos (by rw [i_le, e9, hg.2]; exact z), if_pos z]; exact ⟨m, rfl, q1, q3⟩
    rw [if_neg (by rw [i_le, e9, hg.2]; exact z), if_neg z]
    obtain ⟨m', r1, r2, r3, r4, r5, r6, r7⟩ := @r_goT f k q K m0 m 0 w (gos K S t) hf hX q1 q2 hg.1 q3
    have r7' : m'.1 112 55 = 0 + (if rwS K w k S t = -1 then 0 else 1) := by rw [r7, q4]; rfl
    rw [r1, bd_some, r7']
    unfold FX12_fire_J53
    rw [s_1]
    by_cases z2 : rwS K w k S t = -1
    · rw [if_pos z2] at r7' ⊢
      rw [if_pos (by decide), if_pos z2]
      exact ih (t + 1) n m' (by omega) (by omega) r2 r3 r5 (r7'.trans (by decide))
    · rw [if_neg z2, if_neg (by decide), if_neg z2]
      obtain ⟨n, rfl⟩ : ∃ z, n = z + 1 := ⟨n - 1, by omega⟩
      refine ⟨m', ?_, r2, r5⟩
      rw [FX12_fire_L17]
      rw [if_neg (n_m1 (by omega))]
      split <;> rfl
theorem B_fire (f : Nat) (hf : 4000 ≤ f) : Both (FX11_fire f) (FX12_fire f) := Both_m (fun c tb K S kc mc mm h => by
  have hh := h
  obtain ⟨a1, a2, a3, a4, a5, a6, a7, a8, a9, a10, a11, a12⟩ := h
  have k0 := a7
  obtain ⟨k1, k2, k3, k4, k5, k6, k7, krest⟩ := a7
  unfold FX11_fire FX12_fire
  cases tb
  · rw [c_t0 k0, bd_some, if_pos rfl, (SimW_F hh).2, if_pos rfl]
    exact ⟨_, mc, mm, rfl, rfl, frP_refl _ _, fM_refl _⟩
  obtain ⟨w, k, q, x1, x2, x3, x4, x5, x6, x7, x8, x9⟩ := SimW_T hh
  rw [c_t1 k0, bd_some, if_neg n10, x9, if_neg n10]
  obtain ⟨m1, r1, r2, r3⟩ := @c_trial f 106 mc mc S (by omega) (by unfold okT; omega) (frP_refl _ _) x3
  obtain ⟨mc', s1, s2⟩ := @c_fireL f c k K w mc S (by omega) x1 x5 x6 61 0 f m1 (by omega) (by omega) r2 r3
  obtain ⟨m2, t1, t2, t3, t4, t5, t6⟩ := @r_aside f K.1 mm S (by omega) x4
  obtain ⟨m3, u1, u2, u3⟩ := @r_fireL f k q K w mm S (fun e5 m6 => (FX12_fire_J59 f e5 m6)) (by omega) x2 x5 x6 61 0 f m2 (by omega) (by omega) t2 t3 (by rw [t4]; exact x7) t5
  obtain ⟨m4, v1, v2, v3⟩ := @r_back f K.1 mm m3 S (by omega) x2.1.1 u2 x4 (by rw [u3, x7]) x8
  rw [r1, bd_some, t1, bd_some]
  rw [show (0 : Int32) = Int32.ofNat 0 from rfl, s1, u1]
  unfold FX12_fire_J59
  rw [v1, bd_some]
  exact ⟨_, mc', m4, rfl, rfl, s2, v2⟩)
def ruleF (K : sp_K) (w : Int32) (k : Nat) (S : sp_S) : Nat → Nat → Int32 → Int32
  | 0, _, a => a
  | j + 1, t, a => ruleF K w k S j (t + 1) (if rwS K w k S t = -1 then a else a + 1)
theorem c_ruleL {f c k k' N : Nat} {K : sp_K} {w : Int32} {m0 : ev_M} {S : sp_S} (hf : 1700 ≤ f) (hX : CX c K w k m0) (hr : sp_rg S) (h9 : S.1.toInt ≤ 999) (hk : 0 < k') (hk8 : k' < 9) (hN : S.1.toInt + N ≤ 999) (hN2 : N ≤ 100) : ∀ (j t n : Nat) (a : Int32) (m : ev_M), t + j = N → j < n → frP relC m0 m → CS m 106 (gos K S t) → ∃ m', FX11_rule_L47 f (fun e11 m12 => some (e11, m12)) (Int32.ofNat k') (Int32.ofNat N) n a (Int32.ofNat t) m = some (ruleF K w k' S j t a, m') ∧ frP relC m0 m' := by
  have hT := hX.2.2.2.1.2.1
  intro j
  induction j with
  | zero =>
    intro t n a m h1 h2 q1 q2
    obtain ⟨n, rfl⟩ : ∃ z, n = z + 1 := ⟨n - 1, by omega⟩
    rw [FX11_rule_L47, if_pos ((n_le (by omega) (by omega)).mpr (by omega))]
    exact ⟨m, rfl, q1⟩
  | succ j ih =>
    intro t n a m h1 h2 q1 q2
    obtain ⟨n, rfl⟩ : ∃ z, n = z + 1 := ⟨n - 1, by omega⟩
    have hg := gos_rd (K := K) hr h9 hT t (by omega)
    obtain ⟨m', r1, r2, r3, r4, r5⟩ := @c_goT f 106 c k K w 0 m0 m (gos K S t) hf (by unfold okT; omega) hX q1 q2 hg.1 (by rw [hg.2]; omega)
    rw [FX11_rule_L47, if_neg (fun z => by rw [n_le (by omega) (by omega)] at z; omega), r1, bd_some, c_row (by omega) (by omega) hk8 hk r5, bd_some]
    unfold FX11_rule_J80 ruleF
    rw [s_1]
    show ∃ m'', (if rwS K w k' S t = -1 then _ else _) = _ ∧ _
    by_cases z2 : rwS K w k' S t = -1
    · rw [if_pos z2, if_pos z2]
      exact ih (t + 1) n a m' (by omega) (by omega) r2 r3
    · rw [if_neg z2, if_neg z2]
      exact ih (t + 1) n (a + 1) m' (by omega) (by omega) r2 r3
theorem r_ruleL {f k k' q N : Nat} {K : sp_K} {w : Int32} {m0 : ev_M} {S : sp_S} {kf : Int32 → ev_M → Option (Int32 × ev_M)} (hf : 1700 ≤ f) (hX : RX K w k q m0) (hr : sp_rg S) (h9 : S.1.toInt ≤ 999) (hk8 : k' < 9) (hN2 : N ≤ 100) : ∀ (j t n : Nat) (a : Int32) (m : ev_M), t + j = N → j < n → TR m0 m → RS m K.1 (gos K S t) → m.1 112 53 = 0 → ∃ m', FX12_rule_L34 f kf (Int32.ofNat k') (Int32.ofNat N) n a (Int32.ofNat t) m = kf (ruleF K w k' S j t a) m' ∧ TR m0 m' ∧ m'.1 112 53 = 0 := by
  have hT := hX.1.1
  intro j
  induction j with
  | zero =>
    intro t n a m h1 h2 q1 q2 q3
    obtain ⟨n, rfl⟩ : ∃ z, n = z + 1 := ⟨n - 1, by omega⟩
    rw [FX12_rule_L34, if_pos ((n_le (by omega) (by omega)).mpr (by omega))]
    exact ⟨m, rfl, q1, q3⟩
  | succ j ih =>
    intro t n a m h1 h2 q1 q2 q3
    obtain ⟨n, rfl⟩ : ∃ z, n = z + 1 := ⟨n - 1, by omega⟩
    have hg := gos_rd (K := K) hr h9 hT t (by omega)
    obtain ⟨m', r1, r2, r3, r4, r5, r6, r7⟩ := @r_goT f k q K m0 m 0 w (gos K S t) hf hX q1 q2 hg.1 q3
    have hx := RX_TR r2 hX
    have er : rowS (dbt (m'.1 140 3) (m'.1 146)) K.1 k' = rwS K w k' S t := by
      rw [hx.2.1]; exact rowS_congr (dbt_congr r4)
    rw [FX12_rule_L34, if_neg (fun z => by rw [n_le (by omega) (by omega)] at z; omega), r1, bd_some, r_row (by omega) hx.1.2.1 hT hk8, bd_some, er]
    unfold FX12_rule_J56 ruleF
    rw [s_1]
    by_cases z2 : rwS K w k' S t = -1
    · rw [if_pos z2, if_pos z2]
      exact ih (t + 1) n a m' (by omega) (by omega) r2 r3 r5
    · rw [if_neg z2, if_neg z2]
      exact ih (t + 1) n (a + 1) m' (by omega) (by omega) r2 r3 r5
theorem B_rule (f : Nat) (hf : 4000 ≤ f) (a b : Int32) : Both (FX11_rule f a b) (FX12_rule f a b) := Both_m (fun c tb K S kc mc mm h => by
  have hh := h
  obtain ⟨a1, a2, a3, a4, a5, a6, a7, a8, a9, a10, a11, a12⟩ := h
  have k0 := a7
  obtain ⟨k1, k2, k3, k4, k5, k6, k7, krest⟩ := a7
  have e8 : (8 : Int64).toInt = 8 := rfl
  have e8' : (8 : Int32).toInt = 8 := rfl
  unfold FX11_rule FX12_rule
  cases tb
  · rw [c_t0 k0, bd_some, if_pos rfl, r_isIn, bd_some]
    refine ⟨-1, mc, mm, rfl, ?_, frP_refl _ _, fM_refl _⟩
    split
    · rw [if_neg n10, r_ahF (SimW_F hh).2, bd_some, if_pos rfl]
    · rw [if_pos rfl]
  obtain ⟨w, k, q, x1, x2, x3, x4, x5, x6, x7, x8, x9⟩ := SimW_T hh
  rw [c_t1 k0, bd_some, if_neg n10]
  by_cases h1 : a < 1
  · rw [if_pos h1]
    rw [i_lt, e1'] at h1
    rw [r_in0 (by rw [j_wide, j_1, e8]; omega), bd_some, if_pos rfl]
    exact ⟨_, mc, mm, rfl, rfl, frP_refl _ _, fM_refl _⟩
  rw [if_neg h1]
  rw [i_lt, e1'] at h1
  by_cases h2 : 8 < a
  · rw [if_pos h2]
    rw [i_lt, e8'] at h2
    rw [r_in0 (by rw [j_wide, j_1, e8]; omega), bd_some, if_pos rfl]
    exact ⟨_, mc, mm, rfl, rfl, frP_refl _ _, fM_refl _⟩
  rw [if_neg h2]
  rw [i_lt, e8'] at h2
  rw [r_in1 (by rw [j_wide, j_1, e8]; omega), bd_some, if_neg n10]
  obtain ⟨k', rfl, n1, n2⟩ := n_ex (a := a) (by omega)
  by_cases h3 : 1 ≤ b.toInt ∧ b.toInt ≤ 60 ∧ S.1.toInt + b.toInt ≤ 999
  · obtain ⟨N, rfl, n3, n4⟩ := n_ex (a := b) (by omega)
    obtain ⟨m1, r1, r2, r3⟩ := @c_trial f 106 mc mc S (by omega) (by unfold okT; omega) (frP_refl _ _) x3
    obtain ⟨mc', s1, s2⟩ := @c_ruleL f c k k' N K w mc S (by omega) x1 x5 x6 (by omega) (by omega) (by omega) (by omega) N 0 f 0 m1 (by omega) (by omega) r2 r3
    obtain ⟨m2, t1, t2, t3, t4, t5, t6⟩ := @r_aside f K.1 mm S (by omega) x4
    obtain ⟨m3, u1, u2, u3⟩ := @r_ruleL f k k' q N K w mm S (fun e11 m12 => (ev_bd (FX12_takesBack f m12) (fun _ m14 => some (e11, m14)))) (by omega) x2 x5 x6 (by omega) (by omega) N 0 f 0 m2 (by omega) (by omega) t2 t3 (by rw [t4]; exact x7)
    obtain ⟨m4, v1, v2, v3⟩ := @r_back f K.1 mm m3 S (by omega) x2.1.1 u2 x4 (by rw [u3, x7]) x8
    rw [c_can1 (l := 1) (h := 60) rfl rfl x3.1 (by omega) (by omega) x5.1.1 x6 h3, bd_some, if_neg n10, r_ah1 (l := 1) (h := 60) rfl rfl x4.1 x9 (by omega) (by omega) x5.1.1 x6 h3, bd_some, if_neg n10, r1, bd_some, t1, bd_some]
    rw [show (0 : Int32) = Int32.ofNat 0 from rfl] at s1 u1 ⊢
    rw [s1, u1]
    show ∃ (r : Int32) (mc' mm' : ev_M), _ ∧ (ev_bd (FX12_takesBack f m3) (fun _ m14 => some (_, m14))) = _ ∧ _ ∧ _
    rw [v1]
    exact ⟨_, mc', m4, rfl, rfl, s2, v2⟩
  · rw [c_can0 (l := 1) (h := 60) rfl rfl x3.1 (by omega) (by omega) x5.1.1 x6 h3, bd_some, if_pos rfl, r_ah0 (l := 1) (h := 60) rfl rfl x4.1 x9 (by omega) (by omega) x5.1.1 x6 h3, bd_some, if_pos rfl]
    exact ⟨_, mc, mm, rfl, rfl, frP_refl _ _, fM_refl _⟩)
