/-! the reference's round, whole -/
theorem s_1 (t : Nat) : Int32.ofNat t + 1 = Int32.ofNat (t + 1) := by rw [show (1 : Int32) = Int32.ofNat 1 from rfl, n_add]
theorem r_doubt {f t : Nat} {m : ev_M} (ht : t < 8) : FX12_isDoubt f (Int32.ofNat t) m = some (if dbt (m.1 140 3) (m.1 146) t = true then 1 else 0, m) := by
  unfold FX12_isDoubt
  rw [if_pos ((n_in (by omega)).mpr ht), n_nat (by omega)]
  unfold dbt
  have n6 : ∀ w tn : Int32, ¬ w ≤ tn ↔ tn < w := fun w tn => by rw [i_le, i_lt]; omega
  by_cases h : m.1 140 3 ≤ m.1 146 t
  · rw [if_pos h, if_neg (by simp; exact h)]
  · rw [if_neg h, if_pos (by simp; exact (n6 _ _).mp h)]
theorem r_tm {f T : Nat} {m : ev_M} (hT : m.1 112 36 = Int32.ofNat T) : FX12_towerMany f m = some (Int32.ofNat T, m) := by
  unfold FX12_towerMany; rw [hT]
theorem r_doubts {f T : Nat} {m : ev_M} (hf : 9 ≤ f) (hT : m.1 112 36 = Int32.ofNat T) (h8 : T ≤ 8) : FX12_doubtsNow f m = some (Int32.ofNat (cnt (dbt (m.1 140 3) (m.1 146)) T), m) := by
  unfold FX12_doubtsNow
  have : ∀ (j t n : Nat), t + j = T → j < n → FX12_doubtsNow_L4 f (fun e5 m6 => some (e5, m6)) n (Int32.ofNat (cnt (dbt (m.1 140 3) (m.1 146)) t)) (Int32.ofNat t) m = some (Int32.ofNat (cnt (dbt (m.1 140 3) (m.1 146)) T), m) := by
    intro j
    induction j with
    | zero =>
      intro t n h1 h2
      obtain ⟨n, rfl⟩ : ∃ q, n = q + 1 := ⟨n - 1, by omega⟩
      have : t = T := by omega
      subst this
      rw [FX12_doubtsNow_L4, r_tm hT, bd_some, if_pos ((n_le (by omega) (by omega)).mpr (Nat.le_refl _))]
    | succ j ih =>
      intro t n h1 h2
      obtain ⟨n, rfl⟩ : ∃ q, n = q + 1 := ⟨n - 1, by omega⟩
      rw [FX12_doubtsNow_L4, r_tm hT, bd_some, if_neg (fun q => by rw [n_le (by omega) (by omega)] at q; omega), r_doubt (by omega), bd_some]
      unfold FX12_doubtsNow_J23
      rw [s_1, s_1]
      have := ih (t + 1) n (by omega) (by omega)
      rw [show cnt (dbt (m.1 140 3) (m.1 146)) (t + 1) = cnt (dbt (m.1 140 3) (m.1 146)) t + (if dbt (m.1 140 3) (m.1 146) t = true then 1 else 0) from rfl] at this
      by_cases hd : dbt (m.1 140 3) (m.1 146) t = true
      · rw [if_pos hd] at this ⊢; rw [if_neg (by decide)]; exact this
      · rw [if_neg hd] at this ⊢; rw [if_pos rfl]; exact this
  exact this T 0 f (by omega) (by omega)
theorem r_runL {f T t : Nat} {m : ev_M} (hT : m.1 112 36 = Int32.ofNat T) (h8 : T ≤ 8) (ht : t < 8) : ∀ (j n q : Nat), T < t + q + j → j < n → t + q ≤ 9 → FX12_rowAt_L26 f (fun e7 m8 => some (e7, m8)) (Int32.ofNat t) n (Int32.ofNat q) m = some (Int32.ofNat (q + runL (dbt (m.1 140 3) (m.1 146)) T j (t + q)), m) := by
  intro j
  induction j with
  | zero =>
    intro n q h1 h2 h3
    obtain ⟨n, rfl⟩ : ∃ q, n = q + 1 := ⟨n - 1, by omega⟩
    rw [FX12_rowAt_L26, r_tm hT, bd_some, n_add, if_pos ((n_le (by omega) (by omega)).mpr (by omega))]
    rfl
  | succ j ih =>
    intro n q h1 h2 h3
    obtain ⟨n, rfl⟩ : ∃ q, n = q + 1 := ⟨n - 1, by omega⟩
    rw [FX12_rowAt_L26, r_tm hT, bd_some, n_add]
    unfold runL
    by_cases h : t + q < T
    · rw [if_neg (fun z => by rw [n_le (by omega) (by omega)] at z; omega), r_doubt (by omega), bd_some, if_pos h]
      by_cases hd : dbt (m.1 140 3) (m.1 146) (t + q) = true
      · rw [if_pos hd, if_pos hd, if_neg (by decide), s_1, ih n (q + 1) (by omega) (by omega) (by omega)]
        rw [show t + (q + 1) = t + q + 1 by omega, show q + 1 + runL (dbt (m.1 140 3) (m.1 146)) T j (t + q + 1) = q + (runL (dbt (m.1 140 3) (m.1 146)) T j (t + q + 1) + 1) by omega]
      · rw [if_neg hd, if_neg hd, if_pos rfl]; rfl
    · rw [if_pos ((n_le (by omega) (by omega)).mpr (by omega)), if_neg h]; rfl
theorem r_rowAt {f T t : Nat} {m : ev_M} (hf : 12 ≤ f) (hT : m.1 112 36 = Int32.ofNat T) (h8 : T ≤ 8) (ht : t < T) : FX12_rowAt f (Int32.ofNat t) m = some (Int32.ofNat (rowAt (dbt (m.1 140 3) (m.1 146)) T t), m) := by
  unfold FX12_rowAt rowAt
  rw [r_doubt (by omega), bd_some]
  have hJ : FX12_rowAt_J24 f (Int32.ofNat t) m = some (Int32.ofNat (runL (dbt (m.1 140 3) (m.1 146)) T 9 t), m) := by
    unfold FX12_rowAt_J24
    rw [show (0 : Int32) = Int32.ofNat 0 from rfl, r_runL hT h8 (by omega) 9 f 0 (by omega) (by omega) (by omega)]
    rw [Nat.zero_add, Nat.add_zero]
  by_cases hd : dbt (m.1 140 3) (m.1 146) t = true
  · rw [if_pos hd, if_neg (by decide)]
    by_cases h0 : t = 0
    · subst h0
      rw [if_pos (by decide), hJ, if_pos (by simp [hd])]
    · rw [if_neg (by rw [i_le, n_int (by omega)]; have : (0 : Int32).toInt = 0 := rfl
                     omega)]
      rw [show Int32.ofNat t - 1 = Int32.ofNat (t - 1) from by rw [show (1 : Int32) = Int32.ofNat 1 from rfl, n_sub (by omega)], r_doubt (by omega), bd_some]
      by_cases hd2 : dbt (m.1 140 3) (m.1 146) (t - 1) = true
      · rw [if_pos hd2, if_neg (by decide), if_neg (by simp [hd, hd2]; omega)]; rfl
      · rw [if_neg hd2, if_pos rfl, hJ, if_pos (by simp [hd, hd2])]
  · rw [if_neg hd, if_pos rfl, if_neg (by simp [hd])]; rfl
theorem runL_le (p : Nat → Bool) (T : Nat) : ∀ j t, runL p T j t ≤ j := by
  intro j
  induction j with
  | zero => intro t; exact Nat.le_refl _
  | succ j ih =>
    intro t
    unfold runL
    split
    · split
      · have := ih (t + 1); omega
      · omega
    · omega
theorem rowAt_le (p : Nat → Bool) (T t : Nat) : rowAt p T t ≤ 9 := by
  unfold rowAt
  split
  · exact runL_le p T 9 t
  · omega
theorem r_row {f T k : Nat} {m : ev_M} (hf : 12 ≤ f) (hT : m.1 112 36 = Int32.ofNat T) (h8 : T ≤ 8) (hk : k < 9) : FX12_rowOf f (Int32.ofNat k) m = some (rowS (dbt (m.1 140 3) (m.1 146)) T k, m) := by
  unfold FX12_rowOf rowS
  have : ∀ (j t n : Nat), T < t + j → t ≤ T → j < n + 1 → 0 < n → FX12_rowOf_L2 f (fun m5 => some ((-1), m5)) (Int32.ofNat k) n (Int32.ofNat t) m = some (rowR (dbt (m.1 140 3) (m.1 146)) T k j t, m) := by
    intro j
    induction j with
    | zero => intro t n h1 h2; omega
    | succ j ih =>
      intro t n h1 h2 h3 h4
      obtain ⟨n, rfl⟩ : ∃ q, n = q + 1 := ⟨n - 1, by omega⟩
      rw [FX12_rowOf_L2, r_tm hT, bd_some]
      unfold rowR
      by_cases h : t < T
      · rw [if_neg (fun z => by rw [n_le (by omega) (by omega)] at z; omega), r_rowAt hf hT h8 h, bd_some, if_pos h]
        have hl := rowAt_le (dbt (m.1 140 3) (m.1 146)) T t
        by_cases hk2 : k ≤ rowAt (dbt (m.1 140 3) (m.1 146)) T t
        · rw [if_neg (fun z => by rw [n_lt (by omega) (by omega)] at z; omega), if_pos hk2]
        · rw [if_pos ((n_lt (by omega) (by omega)).mpr (by omega)), if_neg hk2, s_1]
          exact ih (t + 1) n (by omega) (by omega) (by omega) (by omega)
      · rw [if_pos ((n_le (by omega) (by omega)).mpr (by omega)), if_neg h]
  exact this 9 0 f (by omega) (by omega) (by omega) (by omega)
/-! a FIRE is kept -/
def kpt (q : Nat) (g : Nat → Int32) (rd pl n : Int32) : Nat → Int32 := fun i =>
  let c := if q = 40 then 40 else q + 1
  if i = 26 then Int32.ofNat c else if i = 24 + 3 * c then rd else if i = 25 + 3 * c then pl else if i = 26 + 3 * c then n else if q = 40 ∧ 27 ≤ i ∧ i < 144 then g (i + 3) else g i
theorem r_shift {f : Nat} {kf : ev_M → Option (Unit × ev_M)} {m0 : ev_M} : ∀ (j k n : Nat) (m : ev_M), k + j = 144 → 27 ≤ k → j < n → m.2 = m0.2 → (∀ a, a ≠ 144 → m.1 a = m0.1 a) → (∀ i, m.1 144 i = if 27 ≤ i ∧ i < k then m0.1 144 (i + 3) else m0.1 144 i) → ∃ m', FX12_isKept_L23 f kf n (Int32.ofNat k) m = kf m' ∧ m'.2 = m0.2 ∧ (∀ a, a ≠ 144 → m'.1 a = m0.1 a) ∧ (∀ i, m'.1 144 i = if 27 ≤ i ∧ i < 144 then m0.1 144 (i + 3) else m0.1 144 i) := by
  have e144 : (144 : Int32) = Int32.ofNat 144 := rfl
  intro j
  induction j with
  | zero =>
    intro k n m h1 h2 h3 h4 h5 h6
    obtain ⟨n, rfl⟩ : ∃ q, n = q + 1 := ⟨n - 1, by omega⟩
    have : k = 144 := by omega
    subst this
    refine ⟨m, ?_, h4, h5, h6⟩
    rw [FX12_isKept_L23, if_pos (by rw [e144, n_le (by omega) (by omega)]; omega)]
  | succ j ih =>
    intro k n m h1 h2 h3 h4 h5 h6
    obtain ⟨n, rfl⟩ : ∃ q, n = q + 1 := ⟨n - 1, by omega⟩
    rw [FX12_isKept_L23, if_neg (by rw [e144, n_le (by omega) (by omega)]; omega)]
    rw [show Int32.ofNat k + 3 = Int32.ofNat (k + 3) from by rw [show (3 : Int32) = Int32.ofNat 3 from rfl, n_add], if_pos ((n_in (by omega)).mpr (by omega)), if_pos ((n_in (by omega)).mpr (by omega)), n_nat (by omega), n_nat (by omega), s_1]
    refine ih (k + 1) n _ (by omega) (by omega) (by omega) h4 (fun a ha => (upI_na _ _ _ _ ha).trans (h5 a ha)) ?_
    intro i
    show ev_up m.1 144 k _ 144 i = _
    rw [ev_up_at]
    by_cases hi : i = k
    · subst hi
      rw [if_pos rfl, if_pos (by omega), h6 (i + 3), if_neg (by omega)]
    · rw [if_neg hi, h6 i]
      by_cases hj : 27 ≤ i ∧ i < k
      · rw [if_pos hj, if_pos (by omega)]
      · rw [if_neg hj, if_neg (by omega)]
theorem r_keptJ {f c : Nat} {pl n : Int32} {m : ev_M} (hc : m.1 144 26 = Int32.ofNat c) (h1 : 1 ≤ c) (h2 : c ≤ 40) : ∃ m', FX12_isKept_J64 f pl n m = some ((), m') ∧ m'.1 144 = sp_up (sp_up (sp_up (m.1 144) (24 + 3 * c) (m.1 144 0)) (25 + 3 * c) pl) (26 + 3 * c) n := by
  unfold FX12_isKept_J64
  have i0 : ((27 : Int32) + 3 * m.1 144 26) - 3 = Int32.ofNat (24 + 3 * c) := by
    rw [hc, show (27 : Int32) = Int32.ofNat 27 from rfl, show (3 : Int32) = Int32.ofNat 3 from rfl, n_mul, n_add, n_sub (by omega)]
    congr 1; omega
  have i1 : (((27 : Int32) + 3 * m.1 144 26) - 3) + 1 = Int32.ofNat (25 + 3 * c) := by rw [i0, s_1]; congr 1; omega
  have i2 : (((27 : Int32) + 3 * m.1 144 26) - 3) + 2 = Int32.ofNat (26 + 3 * c) := by rw [i0, show (2 : Int32) = Int32.ofNat 2 from rfl, n_add]; congr 1; omega
  rw [i1, i2, i0, if_pos ((n_in (by omega)).mpr (by omega)), if_pos ((n_in (by omega)).mpr (by omega)), if_pos ((n_in (by omega)).mpr (by omega)), n_nat (by omega), n_nat (by omega), n_nat (by omega)]
  refine ⟨_, rfl, ?_⟩
  funext i
  show ev_up _ 144 _ _ 144 i = _
  rw [ev_up_at, ev_up_at, ev_up_at]
  rfl
theorem r_kept {f q : Nat} {pl n : Int32} {m : ev_M} (hf : 200 ≤ f) (hq : m.1 144 26 = Int32.ofNat q) (h40 : q ≤ 40) (h54 : m.1 112 54 = 0) : ∃ m', FX12_isKept f pl n m = some ((), m') ∧ (∀ i, m'.1 144 i = kpt q (m.1 144) (m.1 144 0) pl n i) := by
  unfold FX12_isKept
  rw [if_pos h54, hq]
  by_cases h : q = 40
  · rw [if_pos (by rw [h]; rfl)]
    obtain ⟨m1, r1, r2, r3, r4⟩ := @r_shift f (fun m1 => (FX12_isKept_J64 f pl n m1)) m 117 27 f m (by omega) (by omega) (by omega) rfl (fun _ _ => rfl) (fun i => by rw [if_neg (by omega)])
    have hm1 : m1.1 144 26 = Int32.ofNat 40 := by rw [r4, if_neg (by omega), hq, h]
    obtain ⟨m2, s1, s2⟩ := @r_keptJ f 40 pl n m1 hm1 (by omega) (by omega)
    rw [show (27 : Int32) = Int32.ofNat 27 from rfl, r1]
    refine ⟨m2, s1, ?_⟩
    intro i
    rw [s2]
    unfold kpt sp_up
    simp only [h, if_true]
    by_cases e1 : i = 26
    · subst e1; rw [if_neg (by omega), if_neg (by omega), if_neg (by omega), hm1, if_pos rfl]
    rw [if_neg e1]
    by_cases e4 : i = 26 + 3 * 40
    · rw [if_pos e4, if_neg (by omega), if_neg (by omega), if_pos e4]
    rw [if_neg e4]
    by_cases e3 : i = 25 + 3 * 40
    · rw [if_pos e3, if_neg (by omega), if_pos e3]
    rw [if_neg e3]
    by_cases e2 : i = 24 + 3 * 40
    · rw [if_pos e2, if_pos e2, r4, if_neg (by omega)]
    rw [if_neg e2, if_neg e2, if_neg e3, if_neg e4, r4]
    by_cases e5 : 27 ≤ i ∧ i < 144
    · rw [if_pos e5, if_pos ⟨trivial, e5⟩]
    · rw [if_neg e5, if_neg (fun z => e5 z.2)]
  · rw [if_neg (by rw [show (40 : Int32) = Int32.ofNat 40 from rfl, n_eq (by omega) (by omega)]; exact h), s_1]
    obtain ⟨m2, s1, s2⟩ := @r_keptJ f (q + 1) pl n (ev_up m.1 144 26 (Int32.ofNat (q + 1)), m.2) (upI_at _ _ _ _ _) (by omega) (by omega)
    refine ⟨m2, s1, ?_⟩
    intro i
    rw [s2]
    have g0 : ∀ j, j ≠ 26 → ev_up m.1 144 26 (Int32.ofNat (q + 1)) 144 j = m.1 144 j := fun j hj => up_nk _ _ _ hj
    unfold kpt sp_up
    simp only [h, if_false]
    by_cases e1 : i = 26
    · subst e1; rw [if_neg (by omega), if_neg (by omega), if_neg (by omega), up_at, if_pos rfl]
    rw [if_neg e1]
    by_cases e4 : i = 26 + 3 * (q + 1)
    · rw [if_pos e4, if_neg (by omega), if_neg (by omega), if_pos e4]
    rw [if_neg e4]
    by_cases e3 : i = 25 + 3 * (q + 1)
    · rw [if_pos e3, if_neg (by omega), if_pos e3]
    rw [if_neg e3]
    by_cases e2 : i = 24 + 3 * (q + 1)
    · rw [if_pos e2, if_pos e2, g0 0 (by omega)]
    rw [if_neg e2, if_neg e2, if_neg e3, if_neg e4, g0 i e1, if_neg (fun z => z.1)]
