/-! who is doubtful, as bits -/
def msk (p : Nat → Bool) : Nat → Nat
  | 0 => 0
  | t + 1 => msk p t + (if p t then 2 ^ t else 0)
theorem msk_lt (p : Nat → Bool) (t : Nat) : msk p t < 2 ^ t := by
  induction t with
  | zero => unfold msk; decide
  | succ t ih =>
    unfold msk
    rw [Nat.pow_succ]
    split <;> omega
theorem msk_bit (p : Nat → Bool) (t i : Nat) : (msk p t).testBit i = (decide (i < t) && p i) := by
  induction t with
  | zero => unfold msk; simp
  | succ t ih =>
    unfold msk
    have hl := msk_lt p t
    by_cases hp : p t = true
    · rw [if_pos hp, Nat.add_comm]
      rcases Nat.lt_trichotomy i t with h | h | h
      · rw [Nat.testBit_two_pow_add_gt h, ih]
        simp [h, Nat.lt_succ_of_lt h]
      · subst h
        rw [Nat.testBit_two_pow_add_eq, Nat.testBit_lt_two_pow hl]
        simp [hp]
      · have h2 : 2 ^ t + msk p t < 2 ^ i := by
          have : 2 ^ (t + 1) ≤ 2 ^ i := Nat.pow_le_pow_right (by omega) h
          rw [Nat.pow_succ] at this
          omega
        rw [Nat.testBit_lt_two_pow h2]
        simp
        omega
    · rw [if_neg hp, Nat.add_zero, ih]
      rcases Nat.lt_trichotomy i t with h | h | h
      · simp [h, Nat.lt_succ_of_lt h]
      · subst h
        simp at hp
        simp [hp]
      · have h1 : ¬ i < t := by omega
        have h2 : ¬ i < t + 1 := by omega
        simp [h1, h2]
theorem msk_congr {p q : Nat → Bool} {t : Nat} (h : ∀ i, i < t → p i = q i) : msk p t = msk q t := by
  induction t with
  | zero => rfl
  | succ t ih =>
    unfold msk
    rw [ih (fun i hi => h i (by omega)), h t (by omega)]
set_option maxRecDepth 100000 in
theorem or_all : ∀ t, t < 8 → ∀ n, n < 2 ^ t → (Int32.ofNat n ||| ((1 : Int32) <<< (Int32.ofNat t &&& 31))) = Int32.ofNat (n + 2 ^ t) := by decide +kernel
/-- how many -/
def cnt (p : Nat → Bool) : Nat → Nat
  | 0 => 0
  | t + 1 => cnt p t + (if p t then 1 else 0)
theorem cnt_congr {p q : Nat → Bool} {t : Nat} (h : ∀ i, i < t → p i = q i) : cnt p t = cnt q t := by
  induction t with
  | zero => rfl
  | succ t ih =>
    unfold cnt
    rw [ih (fun i hi => h i (by omega)), h t (by omega)]
theorem cnt_le (p : Nat → Bool) (t : Nat) : cnt p t ≤ t := by
  induction t with
  | zero => exact Nat.le_refl _
  | succ t ih => unfold cnt; split <;> omega
set_option maxRecDepth 100000 in
theorem bc_all : ∀ t, t < 9 → ∀ n, n < 2 ^ t → (FJ6_bitCount_0f7a4 0 (Int32.ofNat n) (fun _ _ => 0, fun _ _ => 0)).map (·.1) = some (Int32.ofNat (cnt n.testBit t)) := by decide +kernel
theorem bc_mem (f : Nat) (x : Int32) (m : ev_M) : ∃ r : Int32, FJ6_bitCount_0f7a4 f x m = some (r, m) ∧ (FJ6_bitCount_0f7a4 0 x (fun _ _ => 0, fun _ _ => 0)).map (·.1) = some r := ⟨_, rfl, rfl⟩
theorem c_bits {f t n : Nat} {m : ev_M} (ht : t < 9) (hn : n < 2 ^ t) : FJ6_bitCount_0f7a4 f (Int32.ofNat n) m = some (Int32.ofNat (cnt n.testBit t), m) := by
  obtain ⟨r, h1, h2⟩ := bc_mem f (Int32.ofNat n) m
  rw [bc_all t ht n hn] at h2
  rw [h1, ← Option.some.inj h2]
theorem c_bitsM {f t : Nat} {p : Nat → Bool} {m : ev_M} (ht : t < 9) : FJ6_bitCount_0f7a4 f (Int32.ofNat (msk p t)) m = some (Int32.ofNat (cnt p t), m) := by
  rw [c_bits ht (msk_lt p t)]
  rw [cnt_congr (q := p) (fun i hi => by rw [msk_bit]; simp [hi])]
/-- the first place of a row of k: 'none' is -1 -/
def runL (p : Nat → Bool) (T : Nat) : Nat → Nat → Nat
  | 0, _ => 0
  | j + 1, t => if t < T then (if p t then runL p T j (t + 1) + 1 else 0) else 0
def rowAt (p : Nat → Bool) (T t : Nat) : Nat := if p t && !(decide (0 < t) && p (t - 1)) then runL p T 9 t else 0
def rowR (p : Nat → Bool) (T k : Nat) : Nat → Nat → Int32
  | 0, _ => -1
  | j + 1, t => if t < T then (if k ≤ rowAt p T t then Int32.ofNat t else rowR p T k j (t + 1)) else -1
def rowS (p : Nat → Bool) (T k : Nat) : Int32 := rowR p T k 9 0
def rowC (D k : Int32) : Nat → Int32 → Int32 → Int32
  | 0, _, _ => -1
  | j + 1, ln, t => if 8 ≤ t then -1 else
      (if (D >>> (t &&& 31)) &&& 1 = 1 then (if ln + 1 ≤ 0 then rowC D k j (ln + 1) (t + 1) else if ln + 1 < k then rowC D k j (ln + 1) (t + 1) else (t - (ln + 1)) + 1)
       else (if (0 : Int32) ≤ 0 then rowC D k j 0 (t + 1) else if (0 : Int32) < k then rowC D k j 0 (t + 1) else (t - 0) + 1))
set_option maxRecDepth 100000 in
theorem row_all : ∀ T, T < 9 → ∀ n, n < 2 ^ T → ∀ k, k < 9 → 0 < k → rowC (Int32.ofNat n) (Int32.ofNat k) 9 0 0 = rowS n.testBit T k := by decide +kernel
theorem runL_congr {p q : Nat → Bool} {T : Nat} (h : ∀ i, i < T → p i = q i) : ∀ j t, runL p T j t = runL q T j t := by
  intro j
  induction j with
  | zero => intro t; rfl
  | succ j ih =>
    intro t
    unfold runL
    by_cases ht : t < T
    · rw [if_pos ht, if_pos ht, h t ht, ih]
    · rw [if_neg ht, if_neg ht]
theorem rowR_congr {p q : Nat → Bool} {T k : Nat} (h : ∀ i, i < T → p i = q i) : ∀ j t, rowR p T k j t = rowR q T k j t := by
  intro j
  induction j with
  | zero => intro t; rfl
  | succ j ih =>
    intro t
    unfold rowR
    by_cases ht : t < T
    · rw [if_pos ht, if_pos ht, ih]
      have : rowAt p T t = rowAt q T t := by
        unfold rowAt
        rw [h t ht, runL_congr h]
        by_cases h0 : 0 < t
        · rw [h (t - 1) (by omega)]
        · simp [h0]
      rw [this]
    · rw [if_neg ht, if_neg ht]
theorem c_rowL {f : Nat} {k : Int32} {m : ev_M} : ∀ (j n : Nat) (ln : Int32) (t : Nat), t + j = 9 → j ≤ n → FX3_rowOf_L4 f (fun e1 e2 m3 => some (((e2 - e1) + 1), m3)) k n ln (Int32.ofNat t) m = some (rowC (m.1 16 3) k j ln (Int32.ofNat t), m) ∨ j = 0 := by
  intro j
  induction j with
  | zero => intro n ln t _ _; right; rfl
  | succ j ih =>
    intro n ln t h1 h2
    left
    obtain ⟨n, rfl⟩ : ∃ q, n = q + 1 := ⟨n - 1, by omega⟩
    rw [FX3_rowOf_L4]
    unfold rowC FX3_rowOf_J29 FX3_rowOf_J45
    have e8 : (8 : Int32) = Int32.ofNat 8 := rfl
    by_cases ht : 8 ≤ t
    · rw [if_pos (by rw [e8, n_le (by omega) (by omega)]; exact ht), if_pos (by rw [e8, n_le (by omega) (by omega)]; exact ht)]
    · have hn : ¬ (8 : Int32) ≤ Int32.ofNat t := fun q => by rw [e8, n_le (by omega) (by omega)] at q; omega
      rw [if_neg hn, if_neg hn]
      have st : Int32.ofNat t + 1 = Int32.ofNat (t + 1) := by rw [show (1 : Int32) = Int32.ofNat 1 from rfl, n_add]
      have hi : ∀ ln, FX3_rowOf_L4 f (fun e1 e2 m3 => some (((e2 - e1) + 1), m3)) k n ln (Int32.ofNat (t + 1)) m = some (rowC (m.1 16 3) k j ln (Int32.ofNat (t + 1)), m) := by
        intro ln
        rcases ih n ln (t + 1) (by omega) (by omega) with q | q
        · exact q
        · omega
      rw [st]
      split
      · split
        · exact hi _
        · split
          · exact hi _
          · rfl
      · split
        · exact hi _
        · split
          · exact hi _
          · rfl
theorem c_row {f T k : Nat} {p : Nat → Bool} {m : ev_M} (hf : 9 ≤ f) (hT : T < 9) (hk : k < 9) (hk0 : 0 < k) (hd : m.1 16 3 = Int32.ofNat (msk p T)) : FX3_rowOf f (Int32.ofNat k) m = some (rowS p T k, m) := by
  unfold FX3_rowOf
  rcases @c_rowL f (Int32.ofNat k) m 9 f 0 0 (by omega) hf with q | q
  · rw [show (0 : Int32) = Int32.ofNat 0 from rfl] at q ⊢
    rw [q, hd]
    have := row_all T hT (msk p T) (msk_lt p T) k hk hk0
    rw [show (0 : Int32) = Int32.ofNat 0 from rfl] at this
    rw [this]
    unfold rowS
    rw [rowR_congr (q := p) (fun i hi => by rw [msk_bit]; simp [hi])]
  · omega
theorem rowS_rng {p : Nat → Bool} {T k : Nat} (hT : T ≤ 8) : rowS p T k = -1 ∨ ∃ t, t < T ∧ rowS p T k = Int32.ofNat t := by
  unfold rowS
  have : ∀ j t, rowR p T k j t = -1 ∨ ∃ u, u < T ∧ rowR p T k j t = Int32.ofNat u := by
    intro j
    induction j with
    | zero => intro t; left; rfl
    | succ j ih =>
      intro t
      unfold rowR
      by_cases ht : t < T
      · rw [if_pos ht]
        split
        · right; exact ⟨t, ht, rfl⟩
        · exact ih _
      · rw [if_neg ht]; left; rfl
  exact this 9 0
