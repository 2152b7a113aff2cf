/-! the class works out code -/
theorem tr_num {c : Nat} (h : 1000 ≤ c) : tr c = Int32.ofNat (c - 1000) := by unfold tr; rw [if_pos h]
theorem tr_of {c : Nat} (h : c = 60) : tr c = -13 := by unfold tr; rw [if_neg (by omega), if_pos (by omega)]
theorem tr_part {c : Nat} (h1 : 40 ≤ c) (h2 : c < 60) : tr c = -20 - Int32.ofNat (wd (c - 40)) := by unfold tr; rw [if_neg (by omega), if_neg (by omega), if_pos h1]
theorem tr_all : tr 13 = 1 := by unfold tr; rw [if_neg (by omega), if_neg (by omega), if_neg (by omega), if_pos rfl]
theorem tr_sign {c : Nat} (h : c ≤ 12) : tr c = - Int32.ofNat c := by unfold tr; rw [if_neg (by omega), if_neg (by omega), if_neg (by omega), if_neg (by omega)]
theorem i_neg {a : Int32} (h : a.toInt ≠ -2147483648) : (-a).toInt = - a.toInt := by
  rw [Int32.toInt_neg]
  have := i_rng a
  exact Int.bmod_eq_of_le (by omega) (by omega)
theorem part_int {w : Nat} (h : w < 29) : (-20 - Int32.ofNat w).toInt = -20 - (w : Int) := by
  have e : (-20 : Int32).toInt = -20 := by decide
  rw [i_sub (by rw [e, n_int (by omega)]; omega) (by rw [e, n_int (by omega)]; omega), e, n_int (by omega)]
theorem part_back {w : Nat} (h : w < 29) : (-20 : Int32) - (-20 - Int32.ofNat w) = Int32.ofNat w := by
  have e : (-20 : Int32).toInt = -20 := by decide
  rw [i_eq, i_sub (by rw [e, part_int h]; omega) (by rw [e, part_int h]; omega), e, part_int h, n_int (by omega)]
  omega
theorem sign_int {c : Nat} (h : c ≤ 13) : (- Int32.ofNat c).toInt = - (c : Int) := by
  rw [i_neg (by rw [n_int (by omega)]; omega), n_int (by omega)]
theorem c_valN {f c : Nat} {m : ev_M} (h : c < 2147483648) : FX5_valueOf f (Int32.ofNat c) m = some (Int32.ofNat c, m) := by
  unfold FX5_valueOf
  rw [if_neg (by rw [i_lt, n_int h]; simp)]
theorem c_valP {f w : Nat} {m : ev_M} (h : w < 29) : FX5_valueOf f (-20 - Int32.ofNat w) m = some (m.1 18 w, m) := by
  unfold FX5_valueOf
  have e0 : (0 : Int32).toInt = 0 := rfl
  have e29 : (29 : Int32).toInt = 29 := rfl
  rw [if_pos (by rw [i_lt, part_int h, e0]; omega), part_back h, if_neg (by rw [i_lt, n_int (by omega), e0]; omega), if_neg (by rw [i_le, n_int (by omega), e29]; omega), if_pos ((n_in (by omega)).mpr h), n_nat (by omega)]
def same20 (m0 m : ev_M) : Prop := (∀ a, a ≠ 20 → m.1 a = m0.1 a) ∧ m.2 = m0.2
theorem same20_up {m0 m : ev_M} (h : same20 m0 m) (k : Nat) (v : Int32) : same20 m0 (ev_up m.1 20 k v, m.2) := ⟨fun a ha => (ev_up_ne m.1 k v ha).trans (h.1 a ha), h.2⟩
theorem stk_up {m : ev_M} {s : Nat → Int} {d n j : Nat} {v : Int32} {x : Int} (h : ∀ i, i < d → (m.1 20 i).toInt = s i) (hn : ∀ i, i < n → i ≠ j → i < d) (hv : v.toInt = x) : ∀ i, i < n → ((ev_up m.1 20 j v) 20 i).toInt = sp_up s j x i := by
  intro i hi
  rw [ev_up_at]
  unfold sp_up
  by_cases e : i = j
  · rw [if_pos e, if_pos e]; exact hv
  · rw [if_neg e, if_neg e]; exact h i (hn i hi e)
theorem c_work_J47 {f : Nat} {kt : Int32 → Int32 → ev_M → Option (Int32 × ev_M)} {d k : Nat} {cell r : Int32} {m : ev_M} (hd : d < 64) (hk : k < 2000) (hv : FX5_valueOf f cell m = some (r, m)) : FX5_work_J47 f kt (Int32.ofNat d) (Int32.ofNat k) cell m = kt (Int32.ofNat (d + 1)) (Int32.ofNat (k + 1)) (ev_up m.1 20 d r, m.2) := by
  unfold FX5_work_J47 FX5_work_J177
  have e64 : (64 : Int32).toInt = 64 := rfl
  rw [if_neg (by rw [i_le, n_int (by omega), e64]; omega), hv, bd_some, if_pos ((n_in (by omega)).mpr hd), n_nat (by omega)]
  rw [show (1 : Int32) = Int32.ofNat 1 from rfl, n_add, n_add]
theorem c_work_J134 {f : Nat} {kt : Int32 → Int32 → ev_M → Option (Int32 × ev_M)} {d k : Nat} {r : Int32} {m : ev_M} (h0 : 0 < d) (hd : d ≤ 64) (hk : k < 2000) : FX5_work_J134 f kt (Int32.ofNat d) (Int32.ofNat k) (Int32.ofNat d - 1) r m = kt (Int32.ofNat d) (Int32.ofNat (k + 1)) (ev_up m.1 20 (d - 1) r, m.2) := by
  unfold FX5_work_J134 FX5_work_J177
  rw [show (1 : Int32) = Int32.ofNat 1 from rfl, n_sub (by omega), if_pos ((n_in (by omega)).mpr (by omega)), n_nat (by omega), n_add]
set_option maxHeartbeats 4000000 in
theorem c_work_L {f : Nat} {kf : ev_M → Option (Int32 × ev_M)} {o1 : Nat} (ho : o1 + 1 ≠ 20) {kd : Nat → Bool} {e : Nat → Int} {ah : Int → Int} {m0 : ev_M}
    (he : ∀ p, p < 10 → kd p = true → (m0.1 18 (wd p)).toInt = e p ∧ sp_bd (e p))
    (hah : kd 10 = true → ∀ (v : Int32) (m : ev_M), same20 m0 m → ∃ r : Int32, FX5_saidAhead f v m = some (r, m) ∧ r.toInt = ah v.toInt)
    (hab : ∀ v, sp_bd (ah v)) {tot : Nat} (htot : tot ≤ 1608) :
    ∀ (l : List Nat) (k n : Nat) (s : Nat → Int) (T : Nat → Bool) (d : Nat) (m : ev_M), k + l.length = tot → l.length < n → same20 m0 m → cells tr (m0.1 (o1 + 1)) k l → sp_wf kd l T d → sp_vs s T d → d ≤ 64 → (∀ i, i < d → (m.1 20 i).toInt = s i) →
    ∃ m', FX5_work_L10 f kf o1 (Int32.ofNat tot) n (Int32.ofNat d) (Int32.ofNat k) m = kf m' ∧ same20 m0 m' ∧ (∀ i, i < sp_dps l d → (m'.1 20 i).toInt = sp_run e ah l s d i) := by
  have e0 : (0 : Int32).toInt = 0 := rfl
  have e20 : (-20 : Int32).toInt = -20 := by decide
  have e12 : (-12 : Int32).toInt = -12 := by decide
  have e13 : (-13 : Int32).toInt = -13 := by decide
  intro l
  induction l with
  | nil =>
    intro k n s T d m hk hn hs hc hw hv hd hst
    obtain ⟨n, rfl⟩ : ∃ q, n = q + 1 := ⟨n - 1, by simp at hn; omega⟩
    refine ⟨m, ?_, hs, hst⟩
    rw [FX5_work_L10, if_pos ((n_le (by omega) (by simp at hk; omega)).mpr (by simp at hk; omega))]
  | cons c l ih =>
    intro k n s T d m hk hn hs hc hw hv hd hst
    simp only [List.length_cons] at hk hn
    obtain ⟨n, rfl⟩ : ∃ q, n = q + 1 := ⟨n - 1, by omega⟩
    obtain ⟨hc1, hc2⟩ := hc
    obtain ⟨hw1, hw2⟩ := hw
    have hcell : m.1 (o1 + 1) k = tr c := by rw [hs.1 _ ho]; exact hc1
    have hv2 := vs_step (e := e) (ah := ah) hw1 hv (fun p h1 h2 => (he p h1 h2).2) hab
    have hd2 : sp_dp c d ≤ 64 := by
      unfold sp_ok at hw1; unfold sp_dp
      by_cases h1 : 1000 ≤ c
      · rw [if_pos h1] at hw1; rw [if_pos h1]; omega
      rw [if_neg h1] at hw1; rw [if_neg h1]
      by_cases h2 : 60 ≤ c
      · rw [if_pos h2]; omega
      rw [if_neg h2] at hw1; rw [if_neg h2]
      by_cases h3 : 40 ≤ c
      · rw [if_pos h3] at hw1; rw [if_pos h3]; omega
      rw [if_neg h3] at hw1; rw [if_neg h3]
      by_cases h4 : c = 13
      · rw [if_pos h4] at hw1; rw [if_pos h4]; omega
      rw [if_neg h4]
      split <;> omega
    -- the step's memory serves
    have go : ∀ (m2 : ev_M), same20 m0 m2 → (∀ i, i < sp_dp c d → (m2.1 20 i).toInt = sp_st e ah c s d i) → FX5_work_L10 f kf o1 (Int32.ofNat tot) (n + 1) (Int32.ofNat d) (Int32.ofNat k) m = FX5_work_L10 f kf o1 (Int32.ofNat tot) n (Int32.ofNat (sp_dp c d)) (Int32.ofNat (k + 1)) m2 → ∃ m', FX5_work_L10 f kf o1 (Int32.ofNat tot) (n + 1) (Int32.ofNat d) (Int32.ofNat k) m = kf m' ∧ same20 m0 m' ∧ (∀ i, i < sp_dps (c :: l) d → (m'.1 20 i).toInt = sp_run e ah (c :: l) s d i) := by
      intro m2 q1 q2 q3
      rw [q3]
      exact ih (k + 1) n _ _ _ m2 (by omega) (by omega) q1 hc2 hw2 hv2 hd2 q2
    have g1 : ¬ Int32.ofNat tot ≤ Int32.ofNat k := fun q => by rw [n_le (by omega) (by omega)] at q; omega
    have g2 : ¬ Int32.ofNat 1608 ≤ Int32.ofNat k := fun q => by rw [n_le (by omega) (by omega)] at q; omega
    have g3 : ev_in (Int32.ofNat k) 1608 := (n_in (by omega)).mpr (by omega)
    have hunf : ∀ X, (if 0 ≤ tr c then (FX5_work_J47 f (FX5_work_L10 f kf o1 (Int32.ofNat tot) n) (Int32.ofNat d) (Int32.ofNat k) (tr c) m) else (if (-20) < tr c then (if tr c = (-12) then (FX5_work_J87 f (FX5_work_L10 f kf o1 (Int32.ofNat tot) n) (Int32.ofNat d) (Int32.ofNat k) (tr c) m) else (if tr c = (-13) then (FX5_work_J87 f (FX5_work_L10 f kf o1 (Int32.ofNat tot) n) (Int32.ofNat d) (Int32.ofNat k) (tr c) m) else (if Int32.ofNat d ≤ 1 then (FX5_work_J177 f (FX5_work_L10 f kf o1 (Int32.ofNat tot) n) (Int32.ofNat d) (Int32.ofNat k) m) else (if ev_in ((Int32.ofNat d + (-1)) - 1) 64 then (if ev_in (Int32.ofNat d + (-1)) 64 then (ev_bd (FX5_join f (tr c) (m.1 20 ((Int32.ofNat d + (-1)) - 1).toNatClampNeg) (m.1 20 (Int32.ofNat d + (-1)).toNatClampNeg) m) (fun r7 m8 => (if ev_in ((Int32.ofNat d + (-1)) - 1) 64 then (FX5_work_J177 f (FX5_work_L10 f kf o1 (Int32.ofNat tot) n) (Int32.ofNat d + (-1)) (Int32.ofNat k) ((ev_up m8.1 20 ((Int32.ofNat d + (-1)) - 1).toNatClampNeg r7), m8.2)) else none))) else none) else none)))) else (FX5_work_J47 f (FX5_work_L10 f kf o1 (Int32.ofNat tot) n) (Int32.ofNat d) (Int32.ofNat k) (tr c) m))) = X → FX5_work_L10 f kf o1 (Int32.ofNat tot) (n + 1) (Int32.ofNat d) (Int32.ofNat k) m = X := by
      intro X hX
      rw [FX5_work_L10, if_neg g1, if_neg g2, if_pos g3, n_nat (by omega), hcell]
      exact hX
    unfold sp_ok at hw1
    by_cases h1 : 1000 ≤ c
    · rw [if_pos h1] at hw1
      refine go (ev_up m.1 20 d (Int32.ofNat (c - 1000)), m.2) (same20_up hs _ _) ?_ (hunf _ ?_)
      · unfold sp_st sp_dp
        rw [if_pos h1, if_pos h1]
        exact stk_up hst (fun i q1 q2 => by omega) (by rw [n_int (by omega)]; omega)
      · rw [tr_num h1, if_pos (by rw [i_le, n_int (by omega), e0]; omega), c_work_J47 hw1.2 (by omega) (c_valN (by omega))]
        unfold sp_dp; rw [if_pos h1]
    rw [if_neg h1] at hw1
    by_cases h2 : 60 ≤ c
    · rw [if_pos h2] at hw1
      obtain ⟨o1', o2', o3', o4'⟩ := hw1
      obtain ⟨r, hr1, hr2⟩ := hah o2' (m.1 20 (d - 1)) m hs
      refine go (ev_up m.1 20 (d - 1) r, m.2) (same20_up hs _ _) ?_ (hunf _ ?_)
      · unfold sp_st sp_dp
        rw [if_neg h1, if_pos h2, if_neg h1, if_pos h2]
        exact stk_up hst (fun i q1 q2 => by omega) (by rw [hr2, hst _ (by omega)])
      · rw [tr_of o1', if_neg (by decide), if_pos (by decide), if_neg (by decide), if_pos rfl]
        unfold FX5_work_J87
        rw [if_neg (by rw [i_le, n_int (by omega), e0]; omega), if_neg (by decide)]
        rw [show Int32.ofNat d - 1 = Int32.ofNat (d - 1) from by rw [show (1 : Int32) = Int32.ofNat 1 from rfl, n_sub (by omega)]]
        rw [if_pos ((n_in (by omega)).mpr (by omega)), n_nat (by omega), hr1, bd_some]
        have := @c_work_J134 f (FX5_work_L10 f kf o1 (Int32.ofNat tot) n) d k r m (by omega) hd (by omega)
        rw [show Int32.ofNat d - 1 = Int32.ofNat (d - 1) from by rw [show (1 : Int32) = Int32.ofNat 1 from rfl, n_sub (by omega)]] at this
        rw [this]
        unfold sp_dp; rw [if_neg h1, if_pos h2]
    rw [if_neg h2] at hw1
    by_cases h3 : 40 ≤ c
    · rw [if_pos h3] at hw1
      have hp := he (c - 40) (by omega) hw1.2.1
      have hwd := wd_lt (c - 40)
      refine go (ev_up m.1 20 d (m.1 18 (wd (c - 40))), m.2) (same20_up hs _ _) ?_ (hunf _ ?_)
      · unfold sp_st sp_dp
        rw [if_neg h1, if_neg h2, if_pos h3, if_neg h1, if_neg h2, if_pos h3]
        exact stk_up hst (fun i q1 q2 => by omega) (by rw [hs.1 18 (by decide)]; exact hp.1)
      · rw [tr_part h3 (by omega), if_neg (by rw [i_le, part_int hwd, e0]; omega), if_neg (by rw [i_lt, part_int hwd, e20]; omega), c_work_J47 hw1.2.2 (by omega) (c_valP hwd)]
        unfold sp_dp; rw [if_neg h1, if_neg h2, if_pos h3]
    rw [if_neg h3] at hw1
    by_cases h4 : c = 13
    · rw [if_pos h4] at hw1
      refine go (ev_up m.1 20 d (Int32.ofNat 1), m.2) (same20_up hs _ _) ?_ (hunf _ ?_)
      · unfold sp_st sp_dp
        rw [if_neg h1, if_neg h2, if_neg h3, if_pos h4, if_neg h1, if_neg h2, if_neg h3, if_pos h4]
        exact stk_up hst (fun i q1 q2 => by omega) (by decide)
      · rw [h4, tr_all, if_pos (by decide)]
        rw [show (1 : Int32) = Int32.ofNat 1 from rfl, c_work_J47 hw1.2 (by omega) (c_valN (by omega))]
        unfold sp_dp; rw [if_neg (by omega), if_neg (by omega), if_neg (by omega), if_pos rfl]
    rw [if_neg h4] at hw1
    by_cases h5 : c = 12
    · rw [if_pos h5] at hw1
      obtain ⟨o1', o2', o3'⟩ := hw1
      have hq := hst (d - 1) (by omega)
      have hq2 := (hv (d - 1) (by omega)).1 o3'
      have e1 : (1 : Int32).toInt = 1 := rfl
      refine go (ev_up m.1 20 (d - 1) (1 - m.1 20 (d - 1)), m.2) (same20_up hs _ _) ?_ (hunf _ ?_)
      · unfold sp_st sp_dp
        rw [if_neg h1, if_neg h2, if_neg h3, if_neg h4, if_pos h5, if_neg h1, if_neg h2, if_neg h3, if_neg h4, if_pos h5]
        exact stk_up hst (fun i q1 q2 => by omega) (by rw [i_sub (by rw [hq, e1]; omega) (by rw [hq, e1]; omega), hq, e1])
      · rw [h5, tr_sign (by omega), show (- Int32.ofNat 12) = (-12 : Int32) from rfl, if_neg (by decide), if_pos (by decide), if_pos rfl]
        unfold FX5_work_J87
        rw [if_neg (by rw [i_le, n_int (by omega), e0]; omega), if_pos rfl]
        have := @c_work_J134 f (FX5_work_L10 f kf o1 (Int32.ofNat tot) n) d k (1 - m.1 20 (d - 1)) m (by omega) hd (by omega)
        have hdd : Int32.ofNat d - 1 = Int32.ofNat (d - 1) := by rw [show (1 : Int32) = Int32.ofNat 1 from rfl, n_sub (by omega)]
        rw [hdd] at this ⊢
        rw [if_pos ((n_in (by omega)).mpr (by omega)), n_nat (by omega), this]
        unfold sp_dp; rw [if_neg (by omega), if_neg (by omega), if_neg (by omega), if_neg (by omega), if_pos rfl]
    rw [if_neg h5] at hw1
    obtain ⟨o1', o2', o3', o4', o5'⟩ := hw1
    have hq1 := hst (d - 1) (by omega)
    have hq2 := hst (d - 2) (by omega)
    have hb1 := hv (d - 1) (by omega)
    have hb2 := hv (d - 2) (by omega)
    obtain ⟨r, hr1, hr2⟩ := @c_join f c (m.1 20 (d - 2)) (m.1 20 (d - 1)) m o1' o2' (by rw [hq2]; exact hb2.2) (by rw [hq1]; exact hb1.2) (fun hc => ⟨by rw [hq2]; exact hb2.1 (by rw [o5']; simp [hc]), by rw [hq1]; exact hb1.1 (by rw [o4']; simp [hc])⟩)
    refine go (ev_up m.1 20 (d - 2) r, m.2) (same20_up hs _ _) ?_ (hunf _ ?_)
    · unfold sp_st sp_dp
      rw [if_neg h1, if_neg h2, if_neg h3, if_neg h4, if_neg h5, if_neg h1, if_neg h2, if_neg h3, if_neg h4, if_neg h5]
      exact stk_up hst (fun i q1 q2 => by omega) (by rw [hr2, hq1, hq2])
    · have hdd : Int32.ofNat d + (-1) = Int32.ofNat (d - 1) := n_pr (by omega)
      have hdd2 : Int32.ofNat (d - 1) - 1 = Int32.ofNat (d - 2) := by rw [show (1 : Int32) = Int32.ofNat 1 from rfl, n_sub (by omega)]; congr 1
      have e1 : (1 : Int32).toInt = 1 := rfl
      rw [tr_sign (by omega), if_neg (by rw [i_le, sign_int (by omega), e0]; omega), if_pos (by rw [i_lt, sign_int (by omega), e20]; omega), if_neg (by rw [i_eq, sign_int (by omega), e12]; omega), if_neg (by rw [i_eq, sign_int (by omega), e13]; omega), if_neg (by rw [i_le, n_int (by omega), e1]; omega), hdd, hdd2]
      rw [if_pos ((n_in (by omega)).mpr (by omega)), if_pos ((n_in (by omega)).mpr (by omega)), show FX5_join f (-Int32.ofNat c) (m.1 20 (Int32.ofNat (d - 2)).toNatClampNeg) (m.1 20 (Int32.ofNat (d - 1)).toNatClampNeg) m = some (r, m) from by rw [n_nat (by omega), n_nat (by omega)]; exact hr1]
      rw [bd_some, if_pos ((n_in (by omega)).mpr (by omega)), n_nat (by omega)]
      unfold FX5_work_J177
      rw [show (1 : Int32) = Int32.ofNat 1 from rfl, n_add]
      unfold sp_dp; rw [if_neg h1, if_neg h2, if_neg h3, if_neg h4, if_neg h5]
/-- a whole code: it leaves one value -/
def good (kd : Nat → Bool) (b : Bool) (l : List Nat) : Prop := sp_wf kd l (fun _ => false) 0 ∧ sp_dps l 0 = 1 ∧ sp_tps l (fun _ => false) 0 0 = b
theorem run_vs {kd : Nat → Bool} {e : Nat → Int} {ah : Int → Int} (he : ∀ p, p < 10 → kd p = true → sp_bd (e p)) (hab : ∀ v, sp_bd (ah v)) : ∀ (l : List Nat) (s : Nat → Int) (T : Nat → Bool) (d : Nat), sp_wf kd l T d → sp_vs s T d → sp_vs (sp_run e ah l s d) (sp_tps l T d) (sp_dps l d) := by
  intro l
  induction l with
  | nil => intro s T d _ h; exact h
  | cons c l ih => intro s T d hw h; exact ih _ _ _ hw.2 (vs_step hw.1 h he hab)
theorem ev_bdd {kd : Nat → Bool} {e : Nat → Int} {ah : Int → Int} {b : Bool} {l : List Nat} (hg : good kd b l) (he : ∀ p, p < 10 → kd p = true → sp_bd (e p)) (hab : ∀ v, sp_bd (ah v)) : (b = true → sp_ev e ah l = 0 ∨ sp_ev e ah l = 1) ∧ sp_bd (sp_ev e ah l) := by
  have := run_vs he hab l (fun _ => 0) (fun _ => false) 0 hg.1 (fun i hi => by omega) 0 (by rw [hg.2.1]; omega)
  rw [hg.2.2] at this
  exact this
theorem c_work {f o1 fr : Nat} {kd : Nat → Bool} {e : Nat → Int} {ah : Int → Int} {b : Bool} {l : List Nat} {m : ev_M} (hf : 1700 ≤ f) (ho : o1 + 1 ≠ 20)
    (he : ∀ p, p < 10 → kd p = true → (m.1 18 (wd p)).toInt = e p ∧ sp_bd (e p))
    (hah : kd 10 = true → ∀ (v : Int32) (m' : ev_M), same20 m m' → ∃ r : Int32, FX5_saidAhead f v m' = some (r, m') ∧ r.toInt = ah v.toInt)
    (hab : ∀ v, sp_bd (ah v)) (hl : fr + l.length ≤ 1608) (hc : cells tr (m.1 (o1 + 1)) fr l) (hg : good kd b l) :
    ∃ m', FX5_work f o1 (Int32.ofNat fr) (Int32.ofNat (fr + l.length)) m = some (Int32.ofInt (sp_ev e ah l), m') ∧ same20 m m' := by
  unfold FX5_work
  have e0 : (0 : Int32).toInt = 0 := rfl
  have hmx : (if (0 : Int32) < Int32.ofNat fr then Int32.ofNat fr else 0) = Int32.ofNat fr := by
    by_cases h : (0 : Int32) < Int32.ofNat fr
    · rw [if_pos h]
    · rw [if_neg h]
      rw [i_lt, e0, n_int (by omega)] at h
      rw [i_eq, e0, n_int (by omega)]
      omega
  rw [c_max, bd_some, hmx]
  obtain ⟨m', h1, h2, h3⟩ := @c_work_L f (fun m9 => some ((m9.1 20 0), m9)) o1 ho kd e ah m he hah hab (fr + l.length) hl l fr f (fun _ => 0) (fun _ => false) 0 m rfl (by omega) ⟨fun _ _ => rfl, rfl⟩ hc hg.1 (fun i hi => by omega) (by omega) (fun i hi => by omega)
  refine ⟨m', ?_, h2⟩
  rw [show (0 : Int32) = Int32.ofNat 0 from rfl, h1]
  have := h3 0 (by rw [hg.2.1]; omega)
  show some (m'.1 20 0, m') = some (Int32.ofInt (sp_ev e ah l), m')
  rw [show sp_ev e ah l = (m'.1 20 0).toInt from this.symm, v_of]
