/-! on -/
def pRow (g : Nat → Int32) (t : Nat) : Bool := decide ((g (3 + 3 * t)).toInt ≤ 9) && (decide ((g (3 + 3 * t + 1)).toInt ≤ 9) && decide ((g (3 + 3 * t + 2)).toInt ≤ 1))
theorem c_picL {f T : Nat} {m : ev_M} {s : Bool} {kf : Int32 → ev_M → Option (Int32 × ev_M)} (hT : T ≤ 8) : ∀ (j t n : Nat), t + j = T → j < n → FX11_isPicture_L101 f kf (Int32.ofNat (3 + 3 * T)) n (if (s && allB (pRow (m.1 14)) t) = true then 1 else 0) (Int32.ofNat (3 + 3 * t)) m = kf (if (s && allB (pRow (m.1 14)) T) = true then 1 else 0) m := by
  have e9 : (9 : Int32).toInt = 9 := rfl
  intro j
  induction j with
  | zero =>
    intro t n h1 h2
    obtain ⟨n, rfl⟩ : ∃ z, n = z + 1 := ⟨n - 1, by omega⟩
    have : t = T := by omega
    subst this
    rw [FX11_isPicture_L101, if_pos ((n_le (by omega) (by omega)).mpr (Nat.le_refl _))]
  | succ j ih =>
    intro t n h1 h2
    obtain ⟨n, rfl⟩ : ∃ z, n = z + 1 := ⟨n - 1, by omega⟩
    have hi := ih (t + 1) n (by omega) (by omega)
    have eb : (s && allB (pRow (m.1 14)) (t + 1)) = ((s && allB (pRow (m.1 14)) t) && pRow (m.1 14) t) := by
      show (s && (allB (pRow (m.1 14)) t && pRow (m.1 14) t)) = _
      rw [Bool.and_assoc]
    rw [eb] at hi
    rw [FX11_isPicture_L101, if_neg (fun z => by rw [n_le (by omega) (by omega)] at z; omega)]
    unfold FX11_isPicture_J159 FX11_isPicture_J160
    rw [if_pos ((n_in (by omega)).mpr (by omega)), s_1, if_pos ((n_in (by omega)).mpr (by omega)), show Int32.ofNat (3 + 3 * t) + 2 = Int32.ofNat (3 + 3 * t + 2) from n_add _ 2, if_pos ((n_in (by omega)).mpr (by omega)), show Int32.ofNat (3 + 3 * t) + 3 = Int32.ofNat (3 + 3 * (t + 1)) from n_add _ 3, n_nat (show 3 + 3 * t < 2147483648 by omega), n_nat (show 3 + 3 * t + 1 < 2147483648 by omega), n_nat (show 3 + 3 * t + 2 < 2147483648 by omega)]
    by_cases z : (s && allB (pRow (m.1 14)) t) = true
    · rw [z, Bool.true_and] at hi
      rw [if_pos z, if_neg n10]
      by_cases z1 : (m.1 14 (3 + 3 * t)).toInt ≤ 9
      · rw [if_neg (by rw [i_lt, e9]; omega)]
        by_cases z2 : (m.1 14 (3 + 3 * t + 1)).toInt ≤ 9
        · rw [if_neg (by rw [i_lt, e9]; omega)]
          by_cases z3 : (m.1 14 (3 + 3 * t + 2)).toInt ≤ 1
          · rw [if_neg (by rw [i_lt, e1']; omega)]
            rw [if_pos (by unfold pRow; simp [z1, z2, z3])] at hi
            exact hi
          · rw [if_pos (by rw [i_lt, e1']; omega)]
            rw [if_neg (by unfold pRow; simp [z3])] at hi
            exact hi
        · rw [if_pos (by rw [i_lt, e9]; omega)]
          rw [if_neg (by unfold pRow; simp [z2])] at hi
          exact hi
      · rw [if_pos (by rw [i_lt, e9]; omega)]
        rw [if_neg (by unfold pRow; simp [z1])] at hi
        exact hi
    · rw [if_neg z, if_pos rfl]
      rw [if_neg (fun q => z (by rw [Bool.and_eq_true] at q; exact q.1))] at hi
      exact hi
def okOn (L T : Nat) (g : Nat → Int32) : Bool := decide (L = 3 + 3 * T + 1) && (decide (ckF g (3 + 3 * T) = g (3 + 3 * T)) && ((decide ((g 0).toInt * 256 + (g 1).toInt ≤ 999) && decide ((g 2).toInt ≤ 9)) && allB (pRow g) T))
theorem c_isPic {f c L T : Nat} {m : ev_M} (hf : 100 ≤ f) (hc : c = 1 ∨ c = 7) (h0 : m.1 0 0 = Int32.ofNat c) (h5 : m.1 c 5 = Int32.ofNat T) (hT : T ≤ 8) (hL : m.1 13 1 = Int32.ofNat L) (hL2 : L ≤ 1600) (hb : ∀ i, i < 1600 → 0 ≤ (m.1 14 i).toInt ∧ (m.1 14 i).toInt ≤ 255) : FX11_isPicture f m = some (if okOn L T (m.1 14) = true then 1 else 0, m) := by
  have hcn : (m.1 0 0).toNatClampNeg = c := by rw [h0, n_nat (by omega)]
  have e9 : (9 : Int32).toInt = 9 := rfl
  have e999 : (999 : Int32).toInt = 999 := rfl
  have e256 : (256 : Int32).toInt = 256 := rfl
  have eN : (3 : Int32) + 3 * Int32.ofNat T = Int32.ofNat (3 + 3 * T) := by rw [show (3 : Int32) = Int32.ofNat 3 from rfl, n_mul, n_add]
  have fin : ∀ s : Bool, FX11_isPicture_J98 f (Int32.ofNat (3 + 3 * T)) (if s = true then 1 else 0) m = some (if (s && allB (pRow (m.1 14)) T) = true then 1 else 0, m) := by
    intro s
    unfold FX11_isPicture_J98
    have := @c_picL f T m s (fun e4 m5 => (if e4 = 0 ∨ e4 = 1 then some (e4, m5) else none)) hT T 0 f (by omega) (by omega)
    rw [show allB (pRow (m.1 14)) 0 = true from rfl, Bool.and_true] at this
    have h3 : FX11_isPicture_L101 f (fun e4 m5 => (if e4 = 0 ∨ e4 = 1 then some (e4, m5) else none)) (Int32.ofNat (3 + 3 * T)) f (if s = true then 1 else 0) 3 m = _ := this
    rw [h3]
    by_cases z : (s && allB (pRow (m.1 14)) T) = true
    · rw [if_pos z, if_pos (Or.inr rfl)]
    · rw [if_neg z, if_pos (Or.inl rfl)]
  have f1 := fin true
  have f0 := fin false
  rw [if_pos rfl, Bool.true_and] at f1
  rw [if_neg (by decide), Bool.false_and, if_neg (by decide)] at f0
  have b0 := hb 0 (by omega)
  have b1 := hb 1 (by omega)
  have e01 : ((m.1 14 0) * 256 + (m.1 14 1)).toInt = (m.1 14 0).toInt * 256 + (m.1 14 1).toInt := by
    have q : ((m.1 14 0) * 256).toInt = (m.1 14 0).toInt * 256 := by rw [i_mul (by rw [e256]; omega) (by rw [e256]; omega), e256]
    rw [i_add (by rw [q]; omega) (by rw [q]; omega), q]
  unfold FX11_isPicture okOn
  rw [hcn, if_pos (isK1 hc), h5, eN, hL, s_1]
  by_cases z1 : L = 3 + 3 * T + 1
  · rw [if_pos (by rw [z1]), c_chk hf sx14 (by omega) (by omega) (by omega), bd_some, if_pos ((n_in (by omega)).mpr (by omega)), n_nat (by omega)]
    by_cases z2 : ckF (m.1 14) (3 + 3 * T) = m.1 14 (3 + 3 * T)
    · rw [if_pos z2]
      by_cases z3 : (m.1 14 0).toInt * 256 + (m.1 14 1).toInt ≤ 999
      · rw [if_neg (by rw [i_lt, e999, e01]; omega)]
        by_cases z4 : (m.1 14 2).toInt ≤ 9
        · rw [if_neg (by rw [i_lt, e9]; omega), f1]
          simp [z1, z2, z3, z4]
        · rw [if_pos (by rw [i_lt, e9]; omega)]
          unfold FX11_isPicture_J97
          rw [f0]
          simp [z4]
      · rw [if_pos (by rw [i_lt, e999, e01]; omega)]
        unfold FX11_isPicture_J97
        rw [f0]
        simp [z3]
    · rw [if_neg z2]
      simp [z2]
  · rw [if_neg (fun q => z1 ((n_eq (by omega) (by omega)).mp q))]
    simp [z1]
def pCel (g : Nat → Int32) (i : Nat) : Bool := decide ((g (2 + i)).toInt ≤ if 2 < 2 + i ∧ (2 + i) % 3 = 2 then 1 else 9)
theorem cel_row {g : Nat → Int32} {T : Nat} : allB (pCel g) (3 * T + 1) = (decide ((g 2).toInt ≤ 9) && allB (pRow g) T) := by
  rw [Bool.eq_iff_iff, Bool.and_eq_true, allB_iff, allB_iff, decide_eq_true_iff]
  constructor
  · intro h
    refine ⟨?_, fun t ht => ?_⟩
    · have := h 0 (by omega)
      unfold pCel at this
      rw [decide_eq_true_iff, if_neg (by omega)] at this
      exact this
    · have h1 := h (3 * t + 1) (by omega)
      have h2 := h (3 * t + 2) (by omega)
      have h3 := h (3 * t + 3) (by omega)
      unfold pCel at h1 h2 h3
      rw [decide_eq_true_iff, if_neg (by omega), show 2 + (3 * t + 1) = 3 + 3 * t by omega] at h1
      rw [decide_eq_true_iff, if_neg (by omega), show 2 + (3 * t + 2) = 3 + 3 * t + 1 by omega] at h2
      rw [decide_eq_true_iff, if_pos (by omega), show 2 + (3 * t + 3) = 3 + 3 * t + 2 by omega] at h3
      unfold pRow
      simp [h1, h2, h3]
  · rintro ⟨h0, h⟩ i hi
    unfold pCel
    rw [decide_eq_true_iff]
    by_cases e : i = 0
    · subst e; rw [if_neg (by omega)]; exact h0
    · have hr := h ((i - 1) / 3) (by omega)
      unfold pRow at hr
      simp only [Bool.and_eq_true, decide_eq_true_eq] at hr
      have cs : i % 3 = 1 ∨ i % 3 = 2 ∨ i % 3 = 0 := by omega
      rcases cs with q | q | q
      · rw [if_neg (by omega), show 2 + i = 3 + 3 * ((i - 1) / 3) by omega]; exact hr.1
      · rw [if_neg (by omega), show 2 + i = 3 + 3 * ((i - 1) / 3) + 1 by omega]; exact hr.2.1
      · rw [if_pos (by omega), show 2 + i = 3 + 3 * ((i - 1) / 3) + 2 by omega]; exact hr.2.2
theorem r_isIm {f L T : Nat} {m : ev_M} (hf : 100 ≤ f) (h45 : m.1 112 45 = 1) (h36 : m.1 112 36 = Int32.ofNat T) (hT : T ≤ 8) (hL2 : L ≤ 1600) (hb : ∀ i, i < 1600 → 0 ≤ (m.1 113 i).toInt ∧ (m.1 113 i).toInt ≤ 255) : FX12_isImage f (Int32.ofNat L) m = some (if okOn L T (m.1 113) = true then 1 else 0, m) := by
  have e9 : (9 : Int32).toInt = 9 := rfl
  have e999 : (999 : Int32).toInt = 999 := rfl
  have e256 : (256 : Int32).toInt = 256 := rfl
  have e2 : (2 : Int32) = Int32.ofNat 2 := rfl
  have eN : (4 : Int32) + 3 * Int32.ofNat T = Int32.ofNat (3 + 3 * T + 1) := by
    rw [show (3 : Int32) = Int32.ofNat 3 from rfl, show (4 : Int32) = Int32.ofNat 4 from rfl, n_mul, n_add, show 4 + 3 * T = 3 + 3 * T + 1 by omega]
  have b0 := hb 0 (by omega)
  have b1 := hb 1 (by omega)
  have e01 : (256 * (m.1 113 0) + (m.1 113 1)).toInt = (m.1 113 0).toInt * 256 + (m.1 113 1).toInt := by
    have q : (256 * (m.1 113 0)).toInt = (m.1 113 0).toInt * 256 := by rw [i_mul (by rw [e256]; omega) (by rw [e256]; omega), e256]; omega
    rw [i_add (by rw [q]; omega) (by rw [q]; omega), q]
  have LL : ∀ (j i n : Nat), i + j = 3 * T + 1 → j < n → allB (pCel (m.1 113)) i = true → FX12_isImage_L67 f (fun m5 => some (1, m5)) (Int32.ofNat (3 + 3 * T + 1)) n (Int32.ofNat (2 + i)) m = some (if allB (pCel (m.1 113)) (3 * T + 1) = true then 1 else 0, m) := by
    have eL : Int32.ofNat (3 + 3 * T + 1) - 1 = Int32.ofNat (3 + 3 * T) := by rw [show (1 : Int32) = Int32.ofNat 1 from rfl, n_sub (by omega)]; congr 1
    intro j
    induction j with
    | zero =>
      intro i n h1 h2 h3
      obtain ⟨n, rfl⟩ : ∃ z, n = z + 1 := ⟨n - 1, by omega⟩
      have : i = 3 * T + 1 := by omega
      subst this
      rw [FX12_isImage_L67, eL, if_pos ((n_le (by omega) (by omega)).mpr (by omega)), if_pos h3]
    | succ j ih =>
      intro i n h1 h2 h3
      obtain ⟨n, rfl⟩ : ∃ z, n = z + 1 := ⟨n - 1, by omega⟩
      have no : ¬ pCel (m.1 113) i = true → ¬ allB (pCel (m.1 113)) (3 * T + 1) = true := fun z y => z ((allB_iff _ _).mp y i (by omega))
      have step : ∀ b : Int32, b.toInt = (if 2 < 2 + i ∧ (2 + i) % 3 = 2 then 1 else 9) → FX12_isImage_J98 f (FX12_isImage_L67 f (fun m5 => some (1, m5)) (Int32.ofNat (3 + 3 * T + 1)) n) (Int32.ofNat (2 + i)) (m.1 113 (2 + i)) b m = some (if allB (pCel (m.1 113)) (3 * T + 1) = true then 1 else 0, m) := by
        intro b hbb
        unfold FX12_isImage_J98
        rw [s_1]
        by_cases z : pCel (m.1 113) i = true
        · have z' := z
          unfold pCel at z'
          rw [decide_eq_true_iff] at z'
          rw [if_pos (by rw [i_le, hbb]; exact z')]
          exact ih (i + 1) n (by omega) (by omega) (by unfold allB; rw [h3, z]; rfl)
        · have z' := z
          unfold pCel at z'
          rw [decide_eq_true_iff] at z'
          rw [if_neg (by rw [i_le, hbb]; exact z'), if_neg (no z)]
      rw [FX12_isImage_L67, eL, if_neg (fun z => by rw [n_le (by omega) (by omega)] at z; omega), if_pos ((n_in (by omega)).mpr (by omega)), n_nat (by omega)]
      unfold FX12_isImage_J96
      by_cases z1 : i = 0
      · rw [if_pos (by rw [e2, n_le (by omega) (by omega)]; omega)]
        exact step 9 (by rw [if_neg (by omega)]; rfl)
      · rw [if_neg (fun q => by rw [e2, n_le (by omega) (by omega)] at q; omega)]
        have hm := @n_mod (2 + i) 3 (by omega) (by omega) (by omega)
        by_cases z2 : (2 + i) % 3 = 2
        · rw [if_pos (by rw [show (3 : Int32) = Int32.ofNat 3 from rfl, hm, z2]; rfl)]
          exact step 1 (by rw [if_pos (by omega)]; rfl)
        · rw [if_neg (by rw [show (3 : Int32) = Int32.ofNat 3 from rfl, hm, e2]; exact fun q => z2 ((n_eq (by omega) (by omega)).mp q))]
          exact step 9 (by rw [if_neg (by omega)]; rfl)
  have l2 := LL (3 * T + 1) 0 f (by omega) (by omega) rfl
  unfold FX12_isImage okOn
  rw [h45, if_neg n10, r_tm h36, bd_some, eN]
  by_cases z1 : L = 3 + 3 * T + 1
  · have eL : Int32.ofNat L - 1 = Int32.ofNat (3 + 3 * T) := by rw [show (1 : Int32) = Int32.ofNat 1 from rfl, n_sub (by omega), z1]; congr 1
    rw [if_pos (by rw [z1]), eL, if_pos ((n_in (by omega)).mpr (by omega)), r_chk hf sx113 (by omega) (by omega) (by omega), bd_some, n_nat (by omega)]
    by_cases z2 : ckF (m.1 113) (3 + 3 * T) = m.1 113 (3 + 3 * T)
    · rw [if_pos z2.symm]
      by_cases z3 : (m.1 113 0).toInt * 256 + (m.1 113 1).toInt ≤ 999
      · rw [if_pos (by rw [i_le, e999, e01]; exact z3)]
        have l2' : FX12_isImage_L67 f (fun m5 => some (1, m5)) (Int32.ofNat L) f 2 m = some (if allB (pCel (m.1 113)) (3 * T + 1) = true then 1 else 0, m) := by rw [z1]; exact l2
        rw [l2', cel_row]
        simp [z1, z2, z3]
      · rw [if_neg (by rw [i_le, e999, e01]; exact z3)]
        simp [z3]
    · rw [if_neg (fun q => z2 q.symm)]
      simp [z2]
  · rw [if_neg (fun q => z1 ((n_eq (by omega) (by omega)).mp q))]
    simp [z1]
theorem okOn_congr {L T : Nat} {g h : Nat → Int32} (hT : T ≤ 8) (e : ∀ i, i < 1600 → g i = h i) : okOn L T g = okOn L T h := by
  unfold okOn
  have e1 : allB (pRow g) T = allB (pRow h) T := by
    rw [Bool.eq_iff_iff, allB_iff, allB_iff]
    have : ∀ i, i < T → pRow g i = pRow h i := fun i hi => by
      unfold pRow
      rw [e _ (by omega), e _ (by omega), e _ (by omega)]
    exact ⟨fun q i hi => by rw [← this i hi]; exact q i hi, fun q i hi => by rw [this i hi]; exact q i hi⟩
  rw [e1, ckF_congr (g := g) (h := h) _ (fun i hi => e i (by omega)), e _ (by omega), e 0 (by omega), e 1 (by omega), e 2 (by omega)]
theorem sh0_all : ∀ t, t < 8 → ((0 : Int32) <<< (Int32.ofNat t &&& 31)) = 0 := by decide +kernel
def yB (g : Nat → Int32) (t : Nat) : Bool := decide (g (3 + 3 * t + 2) = 1)
theorem c_tpL {f c T : Nat} {m0 : ev_M} {kf : ev_M → Option (Unit × ev_M)} (hc : c = 1 ∨ c = 7) (h0 : m0.1 0 0 = Int32.ofNat c) (h5 : m0.1 c 5 = Int32.ofNat T) (hT : T ≤ 8) (hb : ∀ t, t < T → m0.1 14 (3 + 3 * t + 2) = 0 ∨ m0.1 14 (3 + 3 * t + 2) = 1) : ∀ (j t n : Nat) (m : ev_M), t + j = T → j < n → m.2 = m0.2 → (∀ a k, a ≠ 104 → a ≠ 105 → ¬ (a = 103 ∧ k = 4) → m.1 a k = m0.1 a k) → (∀ i, m.1 104 i = if i < t then m0.1 14 (3 + 3 * i) else m0.1 104 i) → (∀ i, m.1 105 i = if i < t then m0.1 14 (3 + 3 * i + 1) else m0.1 105 i) → m.1 103 4 = Int32.ofNat (msk (yB (m0.1 14)) t) →
    ∃ m', FX11_takePicture_L56 f kf n (Int32.ofNat t) m = kf m' ∧ m'.2 = m0.2 ∧ (∀ a k, a ≠ 104 → a ≠ 105 → ¬ (a = 103 ∧ k = 4) → m'.1 a k = m0.1 a k) ∧ (∀ i, m'.1 104 i = if i < T then m0.1 14 (3 + 3 * i) else m0.1 104 i) ∧ (∀ i, m'.1 105 i = if i < T then m0.1 14 (3 + 3 * i + 1) else m0.1 105 i) ∧ m'.1 103 4 = Int32.ofNat (msk (yB (m0.1 14)) T) := by
  intro j
  induction j with
  | zero =>
    intro t n m h1 h2 q1 q2 q3 q4 q5
    obtain ⟨n, rfl⟩ : ∃ z, n = z + 1 := ⟨n - 1, by omega⟩
    have : t = T := by omega
    subst this
    have hcn : (m.1 0 0).toNatClampNeg = c := by rw [q2 0 0 (by decide) (by decide) (by omega), h0, n_nat (by omega)]
    rw [FX11_takePicture_L56, hcn, if_pos (isK1 hc), q2 c 5 (by omega) (by omega) (by omega), h5, if_pos ((n_le (by omega) (by omega)).mpr (Nat.le_refl _))]
    exact ⟨m, rfl, q1, q2, q3, q4, q5⟩
  | succ j ih =>
    intro t n m h1 h2 q1 q2 q3 q4 q5
    obtain ⟨n, rfl⟩ : ∃ z, n = z + 1 := ⟨n - 1, by omega⟩
    have hcn : (m.1 0 0).toNatClampNeg = c := by rw [q2 0 0 (by decide) (by decide) (by omega), h0, n_nat (by omega)]
    have e14 : ∀ k, m.1 14 k = m0.1 14 k := fun k => q2 14 k (by decide) (by decide) (by omega)
    have ex : (3 : Int32) + 3 * Int32.ofNat t = Int32.ofNat (3 + 3 * t) := by rw [show (3 : Int32) = Int32.ofNat 3 from rfl, n_mul, n_add]
    rw [FX11_takePicture_L56, hcn, if_pos (isK1 hc), q2 c 5 (by omega) (by omega) (by omega), h5, if_neg (fun z => by rw [n_le (by omega) (by omega)] at z; omega), ex, if_pos ((n_in (by omega)).mpr (by omega)), if_pos ((n_in (by omega)).mpr (by omega)), s_1, s_1, if_pos ((n_in (by omega)).mpr (by omega)), if_pos ((n_in (by omega)).mpr (by omega)), show Int32.ofNat (3 + 3 * t) + 2 = Int32.ofNat (3 + 3 * t + 2) from n_add _ 2, if_pos ((n_in (by omega)).mpr (by omega)), n_nat (show t < 2147483648 by omega), n_nat (show 3 + 3 * t < 2147483648 by omega), n_nat (show 3 + 3 * t + 1 < 2147483648 by omega), n_nat (show 3 + 3 * t + 2 < 2147483648 by omega), e14, e14, e14, q5]
    have ey : (Int32.ofNat (msk (yB (m0.1 14)) t) ||| ((m0.1 14 (3 + 3 * t + 2)) <<< (Int32.ofNat t &&& 31))) = Int32.ofNat (msk (yB (m0.1 14)) (t + 1)) := by
      show _ = Int32.ofNat (msk (yB (m0.1 14)) t + (if yB (m0.1 14) t = true then 2 ^ t else 0))
      rcases hb t (by omega) with z | z
      · rw [z, sh0_all t (by omega), if_neg (by unfold yB; rw [z]; decide), Nat.add_zero]
        exact Int32.or_zero
      · rw [z, or_all t (by omega) _ (msk_lt _ _), if_pos (by unfold yB; rw [z]; decide)]
    rw [ey]
    refine ih (t + 1) n _ (by omega) (by omega) q1 (fun a k z1 z2 z3 => ?_) (fun i => ?_) (fun i => ?_) (upI_at _ _ _ _ _)
    · show ev_up (ev_up (ev_up m.1 104 t _) 105 t _) 103 4 _ a k = _
      rw [← q2 a k z1 z2 z3]
      by_cases e : a = 103
      · subst e; rw [up_nk _ _ _ (by omega), up_na _ _ _ _ z2, up_na _ _ _ _ z1]
      · rw [up_na _ _ _ _ e, up_na _ _ _ _ z2, up_na _ _ _ _ z1]
    · rw [upI_na _ _ _ _ (by decide), ev_up_ne _ _ _ (by decide), ev_up_at]
      by_cases e : i = t
      · rw [if_pos e, if_pos (by omega), e]
      · rw [if_neg e, q3 i]
        by_cases e2 : i < t
        · rw [if_pos e2, if_pos (by omega)]
        · rw [if_neg e2, if_neg (by omega)]
    · rw [upI_na _ _ _ _ (by decide), ev_up_at, ev_up_ne _ _ _ (by decide)]
      by_cases e : i = t
      · rw [if_pos e, if_pos (by omega), e]
      · rw [if_neg e, q4 i]
        by_cases e2 : i < t
        · rw [if_pos e2, if_pos (by omega)]
        · rw [if_neg e2, if_neg (by omega)]
theorem r_onL {f T : Nat} {m0 : ev_M} {kf : ev_M → Option (Int32 × ev_M)} (h36 : m0.1 112 36 = Int32.ofNat T) (hT : T ≤ 8) : ∀ (j i n : Nat) (m : ev_M), i + j = 3 * T → j < n → m.2 = m0.2 → (∀ a, a ≠ 144 → m.1 a = m0.1 a) → (∀ k, m.1 144 k = if 2 ≤ k ∧ k < 2 + i then m0.1 113 (k + 1) else m0.1 144 k) → ∃ m', FX12_on_L67 f kf n (Int32.ofNat i) m = kf m' ∧ m'.2 = m0.2 ∧ (∀ a, a ≠ 144 → m'.1 a = m0.1 a) ∧ (∀ k, m'.1 144 k = if 2 ≤ k ∧ k < 2 + 3 * T then m0.1 113 (k + 1) else m0.1 144 k) := by
  intro j
  induction j with
  | zero =>
    intro i n m h1 h2 q1 q2 q3
    obtain ⟨n, rfl⟩ : ∃ z, n = z + 1 := ⟨n - 1, by omega⟩
    have : i = 3 * T := by omega
    subst this
    rw [FX12_on_L67, r_tm (by rw [q2 112 (by decide)]; exact h36), bd_some, show (3 : Int32) * Int32.ofNat T = Int32.ofNat (3 * T) from n_mul 3 T, if_pos ((n_le (by omega) (by omega)).mpr (Nat.le_refl _))]
    exact ⟨m, rfl, q1, q2, q3⟩
  | succ j ih =>
    intro i n m h1 h2 q1 q2 q3
    obtain ⟨n, rfl⟩ : ∃ z, n = z + 1 := ⟨n - 1, by omega⟩
    rw [FX12_on_L67, r_tm (by rw [q2 112 (by decide)]; exact h36), bd_some, show (3 : Int32) * Int32.ofNat T = Int32.ofNat (3 * T) from n_mul 3 T, if_neg (fun z => by rw [n_le (by omega) (by omega)] at z; omega), show (3 : Int32) + Int32.ofNat i = Int32.ofNat (3 + i) from n_add 3 i, show (2 : Int32) + Int32.ofNat i = Int32.ofNat (2 + i) from n_add 2 i, if_pos ((n_in (by omega)).mpr (by omega)), if_pos ((n_in (by omega)).mpr (by omega)), n_nat (show 3 + i < 2147483648 by omega), n_nat (show 2 + i < 2147483648 by omega), s_1]
    refine ih (i + 1) n _ (by omega) (by omega) q1 (fun a ha => (upI_na _ _ _ _ ha).trans (q2 a ha)) (fun k => ?_)
    show ev_up m.1 144 (2 + i) _ 144 k = _
    rw [ev_up_at]
    by_cases e : k = 2 + i
    · rw [if_pos e, if_pos (by omega), q2 113 (by decide), show k + 1 = 3 + i by omega]
    · rw [if_neg e, q3 k]
      by_cases e2 : 2 ≤ k ∧ k < 2 + i
      · rw [if_pos e2, if_pos (by omega)]
      · rw [if_neg e2, if_neg (by omega)]
theorem B_on (f : Nat) (hf : 4000 ≤ f) : Both (FX11_on f) (FX12_on f) := by
  intro mc mm hS
  obtain ⟨c, tb, K, S, kc, h⟩ := hS
  have hh := h
  obtain ⟨a1, a2, a3, a4, a5, a6, a7, a8, a9, a10, a11, a12⟩ := h
  have k0 := a7
  obtain ⟨k1, k2, k3, k4, k5, k6, k7, krest⟩ := a7
  obtain ⟨L, t1, t2, t3, t4⟩ := a1
  have hfail : SimW c tb K S kc (ev_up (ev_up mc.1 13 1 0) 109 5 ((ev_up mc.1 13 1 0) 109 5 + 1), mc.2) (ev_up (ev_up mm.1 112 1 0) 114 5 ((ev_up mm.1 112 1 0) 114 5 + 1), mm.2) := SimW_ref (SimW_len hh (n := 0) (by omega)) (i := 5) (by omega)
  have hno : FX11_on_J18 f mc = some (0, (ev_up (ev_up mc.1 13 1 0) 109 5 ((ev_up mc.1 13 1 0) 109 5 + 1), mc.2)) := by
    unfold FX11_on_J18 FX11_on_J19 FX11_on_J28
    rw [if_pos rfl, if_pos rfl, show FX11_refuse f 5 (ev_up mc.1 13 1 0, mc.2) = some (0, (ev_up (ev_up mc.1 13 1 0) 109 5 ((ev_up mc.1 13 1 0) 109 5 + 1), mc.2)) from c_refuse (i := 5) (m := (ev_up mc.1 13 1 0, mc.2)) (by omega), bd_some, if_pos rfl]
  unfold FX11_on FX12_on
  cases tb
  · have hF := SimW_F hh
    have : FX12_isImage f (mm.1 112 1) (ev_up mm.1 112 1 0, mm.2) = some (0, (ev_up mm.1 112 1 0, mm.2)) := by
      unfold FX12_isImage
      rw [if_pos (by rw [upI_nk _ _ _ _ (by decide)]; exact hF.2)]
    rw [c_t0 k0, bd_some, if_pos rfl, hno, this, bd_some, if_pos rfl]
    exact ⟨_, _, _, rfl, rfl, c, false, K, S, kc, hfail⟩
  obtain ⟨w, k, q0, x1, x2, x3, x4, x5, x6, x7, x8, x9⟩ := SimW_T hh
  have e113 : ((ev_up mm.1 112 1 0, mm.2) : ev_M).1 113 = mm.1 113 := upI_na _ _ _ _ (by decide)
  have cP := @c_isPic f c L K.1 mc (by omega) k1 k2 k6 k5 t2 t1 (fun i hi => (t4 i hi).2)
  have rP := @r_isIm f L K.1 (ev_up mm.1 112 1 0, mm.2) (by omega) (by rw [upI_nk _ _ _ _ (by decide)]; exact x9) (by rw [upI_nk _ _ _ _ (by decide)]; exact k7) k5 t1 (fun i hi => by rw [e113, ← (t4 i hi).1]; exact (t4 i hi).2)
  rw [e113, okOn_congr (h := mc.1 14) k5 (fun i hi => (t4 i hi).1.symm)] at rP
  rw [c_t1 k0, bd_some, if_neg n10, cP, bd_some, t3, rP, bd_some]
  by_cases z : okOn L K.1 (mc.1 14) = true
  rotate_left
  · rw [if_neg z, if_pos rfl, if_pos rfl, hno]
    exact ⟨_, _, _, rfl, rfl, c, true, K, S, kc, hfail⟩
  rw [if_pos z, if_neg n10, if_neg n10]
  unfold okOn at z
  simp only [Bool.and_eq_true, decide_eq_true_eq] at z
  obtain ⟨zL, zC, ⟨zR, zT⟩, zP⟩ := z
  have zP' : ∀ t, t < K.1 → (mc.1 14 (3 + 3 * t)).toInt ≤ 9 ∧ (mc.1 14 (3 + 3 * t + 1)).toInt ≤ 9 ∧ (mc.1 14 (3 + 3 * t + 2)).toInt ≤ 1 := fun t ht => by
    have := (allB_iff _ _).mp zP t ht
    unfold pRow at this
    simp only [Bool.and_eq_true, decide_eq_true_eq] at this
    exact this
  have b0 := (t4 0 (by omega)).2
  have b1 := (t4 1 (by omega)).2
  have b2 := (t4 2 (by omega)).2
  have e256 : (256 : Int32).toInt = 256 := rfl
  have e01 : ((mc.1 14 0) * 256 + (mc.1 14 1)).toInt = (mc.1 14 0).toInt * 256 + (mc.1 14 1).toInt := by
    have q : ((mc.1 14 0) * 256).toInt = (mc.1 14 0).toInt * 256 := by rw [i_mul (by rw [e256]; omega) (by rw [e256]; omega), e256]
    rw [i_add (by rw [q]; omega) (by rw [q]; omega), q]
  have hb01 : ∀ t, t < K.1 → mc.1 14 (3 + 3 * t + 2) = 0 ∨ mc.1 14 (3 + 3 * t + 2) = 1 := fun t ht => i_01 (by have := zP' t ht; have := (t4 (3 + 3 * t + 2) (by omega)).2; omega)
  generalize hM : ((ev_up (ev_up (ev_up mc.1 103 2 ((mc.1 14 0) * 256 + (mc.1 14 1))) 103 3 (mc.1 14 2)) 103 4 0, mc.2) : ev_M) = M
  have gM : ∀ a, a ≠ 103 → M.1 a = mc.1 a := fun a ha => by rw [← hM, upI_na _ _ _ _ ha, ev_up_ne _ _ _ ha, ev_up_ne _ _ _ ha]
  have gM5 : ∀ q, q ≠ 2 → q ≠ 3 → q ≠ 4 → M.1 103 q = mc.1 103 q := fun q y1 y2 y3 => by rw [← hM, upI_nk _ _ _ _ y3, up_nk _ _ _ y2, up_nk _ _ _ y1]
  have gMr : M.1 103 2 = (mc.1 14 0) * 256 + (mc.1 14 1) := by rw [← hM, upI_nk _ _ _ _ (by decide), up_nk _ _ _ (by decide), up_at]
  have gMl : M.1 103 3 = mc.1 14 2 := by rw [← hM, upI_nk _ _ _ _ (by decide), up_at]
  have gMy : M.1 103 4 = 0 := by rw [← hM, upI_at]
  have gM2 : M.2 = mc.2 := by rw [← hM]
  obtain ⟨m1, r1, r2, r3, r4, r5, r6⟩ := @c_tpL f c K.1 M (fun m2 => some ((), ((ev_up (ev_up m2.1 103 5 0) 40 3 0), m2.2))) k1 (by rw [gM 0 (by decide)]; exact k2) (by rw [gM c (by omega)]; exact k6) k5 (fun t ht => by rw [gM 14 (by decide)]; exact hb01 t ht) K.1 0 f M (by omega) (by omega) rfl (fun _ _ _ _ _ => rfl) (fun i => by rw [if_neg (by omega)]) (fun i => by rw [if_neg (by omega)]) (by rw [gMy]; rfl)
  have hTP : FX11_takePicture f mc = some ((), (ev_up (ev_up m1.1 103 5 0) 40 3 0, m1.2)) := by
    unfold FX11_takePicture
    rw [z0] at r1
    rw [hM, r1]
  have hJ : FX11_on_J19 f 1 mc = some (1, (ev_up (ev_up (ev_up m1.1 103 5 0) 40 3 0) 13 1 0, m1.2)) := by
    unfold FX11_on_J19 FX11_on_J28
    rw [if_neg n10, hTP, bd_some, if_neg n10]
  have hNx : ∃ N : ev_M, N = (ev_up (ev_up (ev_up mm.1 112 1 0) 144 0 (256 * (mm.1 113 0) + (mm.1 113 1))) 144 1 (mm.1 113 2), mm.2) := ⟨_, rfl⟩
  obtain ⟨N, hN⟩ := hNx
  have gN : ∀ a k, a ≠ 144 → ¬ (a = 112 ∧ k = 1) → N.1 a k = mm.1 a k := fun a k y1 y2 => by
    rw [hN, upI_na _ _ _ _ y1, ev_up_ne _ _ _ y1]
    by_cases e : a = 112
    · subst e; rw [up_nk _ _ _ (by omega)]
    · rw [up_na _ _ _ _ e]
  have gN1 : N.1 112 1 = 0 := by rw [hN, upI_na _ _ _ _ (by decide), ev_up_ne _ _ _ (by decide), up_at]
  have gNr : N.1 144 0 = 256 * (mm.1 113 0) + (mm.1 113 1) := by rw [hN, upI_nk _ _ _ _ (by decide), up_at]
  have gNl : N.1 144 1 = mm.1 113 2 := by rw [hN, upI_at]
  have gN2 : N.2 = mm.2 := by rw [hN]
  obtain ⟨n1, u1, u2, u3, u4⟩ := @r_onL f K.1 N (fun m5 => some (1, ((ev_up (ev_up m5.1 144 26 0) 112 64 0), m5.2))) (by rw [gN _ _ (by decide) (by omega)]; exact k7) k5 (3 * K.1) 0 f N (by omega) (by omega) rfl (fun _ _ => rfl) (fun k => by rw [if_neg (by omega)])
  rw [hN] at u1
  generalize hMC : ((ev_up (ev_up (ev_up m1.1 103 5 0) 40 3 0) 13 1 0, m1.2) : ev_M) = MC at hJ
  have hMMx : ∃ MM : ev_M, MM = (ev_up (ev_up n1.1 144 26 0) 112 64 0, n1.2) := ⟨_, rfl⟩
  obtain ⟨MM, hMM⟩ := hMMx
  have gC : ∀ a k, ¬ (a = 13 ∧ k = 1) → ¬ (a = 40 ∧ k = 3) → a ≠ 103 → a ≠ 104 → a ≠ 105 → MC.1 a k = mc.1 a k := fun a k y1 y2 y3 y4 y5 => by
    rw [← hMC]
    show ev_up (ev_up (ev_up m1.1 103 5 0) 40 3 0) 13 1 0 a k = _
    have : m1.1 a k = mc.1 a k := by rw [r3 a k y4 y5 (by omega), gM a y3]
    by_cases e : a = 13
    · subst e; rw [up_nk _ _ _ (by omega), up_na _ _ _ _ (by decide), up_na _ _ _ _ (by decide)]; exact this
    · rw [up_na _ _ _ _ e]
      by_cases e2 : a = 40
      · subst e2; rw [up_nk _ _ _ (by omega), up_na _ _ _ _ (by decide)]; exact this
      · rw [up_na _ _ _ _ e2, up_na _ _ _ _ y3]; exact this
  have gC13 : MC.1 13 1 = 0 := by rw [← hMC, upI_at]
  have gC40 : MC.1 40 3 = 0 := by rw [← hMC, upI_na _ _ _ _ (by decide), up_at]
  have gC5 : MC.1 103 5 = 0 := by rw [← hMC, upI_na _ _ _ _ (by decide), ev_up_ne _ _ _ (by decide), up_at]
  have gCq : ∀ q, q ≠ 5 → MC.1 103 q = m1.1 103 q := fun q hq => by rw [← hMC, upI_na _ _ _ _ (by decide), ev_up_ne _ _ _ (by decide), up_nk _ _ _ hq]
  have gC4 : ∀ i, MC.1 104 i = m1.1 104 i := fun i => by rw [← hMC, upI_na _ _ _ _ (by decide), ev_up_ne _ _ _ (by decide), ev_up_ne _ _ _ (by decide)]
  have gC5' : ∀ i, MC.1 105 i = m1.1 105 i := fun i => by rw [← hMC, upI_na _ _ _ _ (by decide), ev_up_ne _ _ _ (by decide), ev_up_ne _ _ _ (by decide)]
  have gCL : MC.2 = mc.2 := by rw [← hMC]; show m1.2 = _; rw [r2, gM2]
  have gMM : ∀ a k, a ≠ 144 → ¬ (a = 112 ∧ (k = 1 ∨ k = 64)) → MM.1 a k = mm.1 a k := fun a k y1 y2 => by
    rw [hMM]
    show ev_up (ev_up n1.1 144 26 0) 112 64 0 a k = _
    by_cases e : a = 112
    · subst e; rw [up_nk _ _ _ (by omega), up_na _ _ _ _ (by decide), u3 112 (by decide), gN _ _ (by decide) (by omega)]
    · rw [up_na _ _ _ _ e, up_na _ _ _ _ y1, u3 a y1, gN _ _ y1 (by omega)]
  have gMM1 : MM.1 112 1 = 0 := by rw [hMM, upI_nk _ _ _ _ (by decide), up_na _ _ _ _ (by decide), u3 112 (by decide)]; exact gN1
  have gMM64 : MM.1 112 64 = 0 := by rw [hMM, upI_at]
  have gMM26 : MM.1 144 26 = 0 := by rw [hMM, upI_na _ _ _ _ (by decide), up_at]
  have gMMk : ∀ k, k < 26 → MM.1 144 k = if 2 ≤ k ∧ k < 2 + 3 * K.1 then mm.1 113 (k + 1) else N.1 144 k := fun k hk => by
    rw [hMM, upI_na _ _ _ _ (by decide), up_nk _ _ _ (by omega), u4 k, gN 113 _ (by decide) (by omega)]
  have gMML : MM.2 = mm.2 := by rw [hMM]; show n1.2 = _; rw [u2, gN2]
  have eb : ∀ i, i < 1600 → mm.1 113 i = mc.1 14 i := fun i hi => (t4 i hi).1.symm
  obtain ⟨s1, s2, s3, s4, y, s5, s6⟩ := a8
  obtain ⟨nx, ct, v1, v2, v3, v4, v5, v6, v7⟩ := a10
  have y8 := p2_le k5
  have myl := msk_lt (yB (mc.1 14)) K.1
  have hr6 : m1.1 103 4 = Int32.ofNat (msk (yB (mc.1 14)) K.1) := by rw [r6, gM 14 (by decide)]
  have hye : ∀ t, t < 8 → bt (Int32.ofNat (msk (yB (mc.1 14)) K.1)) t = if t < K.1 then mc.1 14 (3 + 3 * t + 2) else 0 := fun t ht => by
    rw [bt_all _ (by omega) t ht, msk_bit]
    by_cases e : t < K.1
    · rw [if_pos e, decide_eq_true e, Bool.true_and]
      unfold yB
      rcases hb01 t e with q | q
      · rw [q]; rfl
      · rw [q]; rfl
    · rw [if_neg e, decide_eq_false e, Bool.false_and]; rfl
  refine ⟨1, MC, MM, hJ, ?_, c, true, K, ((mc.1 14 0) * 256 + (mc.1 14 1), mc.1 14 2, (fun t => if t < K.1 then mc.1 14 (3 + 3 * t) else S.2.2.1 t), (fun t => if t < K.1 then mc.1 14 (3 + 3 * t + 1) else S.2.2.2.1 t), (fun t => if t < K.1 then mc.1 14 (3 + 3 * t + 2) else 0)), 0, ?_⟩
  · rw [hMM]; exact u1
  refine ⟨⟨0, by omega, gC13, gMM1, fun i hi => by rw [gC 14 i (by omega) (by omega) (by omega) (by omega) (by omega), gMM 113 i (by omega) (by omega)]; exact t4 i hi⟩, ?_, ?_, ?_, PC_fr (gC _ _ (by omega) (by omega) (by omega) (by omega) (by omega)) (fun i => gC _ _ (by omega) (by omega) (by omega) (by omega) (by omega)) (gMM _ _ (by omega) (by omega)) (fun i => gMM _ _ (by omega) (by omega)) a5, SE_fr (gC _ _ (by omega) (by omega) (by omega) (by omega) (by omega)) (fun i => gC _ _ (by omega) (by omega) (by omega) (by omega) (by omega)) (gMM _ _ (by omega) (by omega)) (fun i => gMM _ _ (by omega) (by omega)) a6, ?_, ?_, ?_, ?_, ?_, ?_⟩
  · intro i hi; rw [gC _ _ (by omega) (by omega) (by omega) (by omega) (by omega), gMM _ _ (by omega) (by omega)]; exact a2 i hi
  · exact ⟨by rw [gC _ _ (by omega) (by omega) (by omega) (by omega) (by omega), gMM _ _ (by omega) (by omega)]; exact a3.1, by rw [gC _ _ (by omega) (by omega) (by omega) (by omega) (by omega), gMM _ _ (by omega) (by omega)]; exact a3.2⟩
  · unfold SD; rw [gCL, gMML]; exact a4
  · exact CA_fr (gC _ _ (by omega) (by omega) (by omega) (by omega) (by omega)) (gC _ _ (by omega) (by omega) (by omega) (by omega) (by omega)) (gC _ _ (by omega) (by omega) (by omega) (by omega) (by omega)) (fun a k _ _ => gC _ _ (by omega) (by omega) (by omega) (by omega) (by omega)) (gMM _ _ (by omega) (by omega)) (gMM _ _ (by omega) (by omega)) (fun a k _ _ => gMM _ _ (by omega) (by omega)) (fun k => by rw [gMML]) k0
  · refine ⟨⟨?_, ?_, fun t ht => ⟨?_, ?_, ?_⟩⟩, ⟨?_, ?_, fun t ht => ⟨?_, ?_, ?_⟩⟩, ⟨⟨?_, ?_⟩, ?_, fun t ht => ⟨?_, ?_, ?_⟩⟩, ?_, msk (yB (mc.1 14)) K.1, ?_, myl⟩
    · rw [gCq 2 (by decide), r3 103 2 (by decide) (by decide) (by omega)]; exact gMr
    · rw [gCq 3 (by decide), r3 103 3 (by decide) (by decide) (by omega)]; exact gMl
    · show MC.1 104 t = if t < K.1 then mc.1 14 (3 + 3 * t) else S.2.2.1 t
      rw [gC4, r4, gM 14 (by decide), gM 104 (by decide)]
      by_cases e : t < K.1
      · rw [if_pos e, if_pos e]
      · rw [if_neg e, if_neg e]; exact (s1.2.2 t ht).1
    · show MC.1 105 t = if t < K.1 then mc.1 14 (3 + 3 * t + 1) else S.2.2.2.1 t
      rw [gC5', r5, gM 14 (by decide), gM 105 (by decide)]
      by_cases e : t < K.1
      · rw [if_pos e, if_pos e]
      · rw [if_neg e, if_neg e]; exact (s1.2.2 t ht).2.1
    · rw [gCq 4 (by decide), hr6]; exact hye t ht
    · rw [gMMk 0 (by omega), if_neg (by omega), gNr, eb 0 (by omega), eb 1 (by omega), Int32.mul_comm]
    · rw [gMMk 1 (by omega), if_neg (by omega), gNl, eb 2 (by omega)]
    · show MM.1 144 (2 + 3 * t) = if t < K.1 then mc.1 14 (3 + 3 * t) else S.2.2.1 t
      rw [gMMk _ (by omega), if_pos (by omega), if_pos ht, eb _ (by omega), show 2 + 3 * t + 1 = 3 + 3 * t by omega]
    · show MM.1 144 (2 + 3 * t + 1) = if t < K.1 then mc.1 14 (3 + 3 * t + 1) else S.2.2.2.1 t
      rw [gMMk _ (by omega), if_pos (by omega), if_pos ht, eb _ (by omega), show 2 + 3 * t + 1 + 1 = 3 + 3 * t + 1 by omega]
    · show MM.1 144 (2 + 3 * t + 2) = if t < K.1 then mc.1 14 (3 + 3 * t + 2) else 0
      rw [gMMk _ (by omega), if_pos (by omega), if_pos ht, eb _ (by omega), show 2 + 3 * t + 2 + 1 = 3 + 3 * t + 2 by omega]
    · show 0 ≤ ((mc.1 14 0) * 256 + (mc.1 14 1)).toInt
      rw [e01]; omega
    · show ((mc.1 14 0) * 256 + (mc.1 14 1)).toInt < 2000
      rw [e01]; omega
    · exact ⟨b2.1, zT⟩
    · show g9 (if t < K.1 then mc.1 14 (3 + 3 * t) else S.2.2.1 t)
      by_cases e : t < K.1
      · rw [if_pos e]; exact ⟨(t4 _ (by omega)).2.1, (zP' t e).1⟩
      · rw [if_neg e]; exact (s3.2.2 t ht).1
    · show g9 (if t < K.1 then mc.1 14 (3 + 3 * t + 1) else S.2.2.2.1 t)
      by_cases e : t < K.1
      · rw [if_pos e]; exact ⟨(t4 _ (by omega)).2.1, (zP' t e).2.1⟩
      · rw [if_neg e]; exact (s3.2.2 t ht).2.1
    · show (if t < K.1 then mc.1 14 (3 + 3 * t + 2) else 0) = 0 ∨ (if t < K.1 then mc.1 14 (3 + 3 * t + 2) else 0) = 1
      by_cases e : t < K.1
      · rw [if_pos e]; exact hb01 t e
      · rw [if_neg e]; left; rfl
    · show ((mc.1 14 0) * 256 + (mc.1 14 1)).toInt ≤ 999
      rw [e01]; exact zR
    · rw [gCq 4 (by decide), hr6]
  · refine ⟨?_, gC5, gMM26, fun i j hi hj => by omega⟩
    show ((0 : Nat) : Int) ≤ ((mc.1 14 0) * 256 + (mc.1 14 1)).toInt
    rw [e01]; omega
  · refine ⟨nx, 0, v1, by omega, ?_, gC40, ?_, gMM64, fun _ => 0, fun i hi => by omega, fun i j _ hj => by omega, fun i hi => by omega⟩
    · rw [gC 40 2 (by omega) (by omega) (by omega) (by omega) (by omega)]; exact v3
    · rw [gMM 112 65 (by omega) (by omega)]; exact v5
  · rw [gMM 112 53 (by omega) (by omega)]; exact a11
  · rw [gMM 112 54 (by omega) (by omega)]; exact a12
