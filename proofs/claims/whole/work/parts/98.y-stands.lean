/-! a castle that stands -/
section
variable {f : Nat}
theorem st15 {kf : ev_M → Option (Unit × ev_M)} {m0 : ev_M} : ∀ (j t n : Nat) (m : ev_M), t + j = 8 → j < n → m.1 = m0.1 → (∀ k, m.2 138 k = if 8 ≤ k ∧ k < 8 + t then m0.2 138 (k - 8) else m0.2 138 k) → ∃ m', FX12_stands_L15 f kf n (Int32.ofNat t) m = kf m' ∧ m'.1 = m0.1 ∧ (∀ k, k < 8 → m'.2 138 (8 + k) = m0.2 138 k) := by
  intro j
  induction j with
  | zero =>
    intro t n m h1 h2 q1 q2
    obtain ⟨n, rfl⟩ : ∃ w, n = w + 1 := ⟨n - 1, by omega⟩
    have : t = 8 := by omega
    subst this
    rw [FX12_stands_L15, if_pos (by decide)]
    exact ⟨m, rfl, q1, fun k hk => by rw [q2, if_pos (by omega), show 8 + k - 8 = k by omega]⟩
  | succ j ih =>
    intro t n m h1 h2 q1 q2
    obtain ⟨n, rfl⟩ : ∃ w, n = w + 1 := ⟨n - 1, by omega⟩
    rw [FX12_stands_L15, if_neg (fun q => by rw [show (8 : Int32) = Int32.ofNat 8 from rfl, n_le (by omega) (by omega)] at q; omega), show (8 : Int32) + Int32.ofNat t = Int32.ofNat (8 + t) from n_add 8 t, if_pos ((n_in (by omega)).mpr (by omega)), if_pos ((n_in (by omega)).mpr (by omega)), n_nat (by omega), n_nat (by omega), s_1]
    refine ih (t + 1) n _ (by omega) (by omega) q1 (fun k => ?_)
    show ev_up m.2 138 (8 + t) (m.2 138 t) 138 k = _
    rw [ev_up_at]
    by_cases e : k = 8 + t
    · rw [if_pos e, if_pos (by omega), q2, if_neg (by omega), show k - 8 = t by omega]
    · rw [if_neg e, q2]
      by_cases e2 : 8 ≤ k ∧ k < 8 + t
      · rw [if_pos e2, if_pos (by omega)]
      · rw [if_neg e2, if_neg (by omega)]
theorem st44 {kf : ev_M → Option (Unit × ev_M)} {m0 : ev_M} : ∀ (j t n : Nat) (m : ev_M), t + j = 3 → j < n → m.2 = m0.2 → (∀ a, a ≠ 140 → m.1 a = m0.1 a) → (∀ k, m.1 140 k = if 3 ≤ k ∧ k < 3 + t then m0.1 140 (k - 3) else m0.1 140 k) → ∃ m', FX12_stands_L44 f kf n (Int32.ofNat t) m = kf m' ∧ m'.2 = m0.2 ∧ (∀ a, a ≠ 140 → m'.1 a = m0.1 a) ∧ (∀ k, k < 3 → m'.1 140 (3 + k) = m0.1 140 k) := by
  intro j
  induction j with
  | zero =>
    intro t n m h1 h2 q0 q1 q2
    obtain ⟨n, rfl⟩ : ∃ w, n = w + 1 := ⟨n - 1, by omega⟩
    have : t = 3 := by omega
    subst this
    rw [FX12_stands_L44, if_pos (by decide)]
    exact ⟨m, rfl, q0, q1, fun k hk => by rw [q2, if_pos (by omega), show 3 + k - 3 = k by omega]⟩
  | succ j ih =>
    intro t n m h1 h2 q0 q1 q2
    obtain ⟨n, rfl⟩ : ∃ w, n = w + 1 := ⟨n - 1, by omega⟩
    rw [FX12_stands_L44, if_neg (fun q => by rw [show (3 : Int32) = Int32.ofNat 3 from rfl, n_le (by omega) (by omega)] at q; omega), show (3 : Int32) + Int32.ofNat t = Int32.ofNat (3 + t) from n_add 3 t, if_pos ((n_in (by omega)).mpr (by omega)), if_pos ((n_in (by omega)).mpr (by omega)), n_nat (by omega), n_nat (by omega), s_1]
    refine ih (t + 1) n _ (by omega) (by omega) q0 (fun a ha => (upI_na _ _ _ _ ha).trans (q1 a ha)) (fun k => ?_)
    show ev_up m.1 140 (3 + t) (m.1 140 t) 140 k = _
    rw [ev_up_at]
    by_cases e : k = 3 + t
    · rw [if_pos e, if_pos (by omega), q2, if_neg (by omega), show k - 3 = t by omega]
    · rw [if_neg e, q2]
      by_cases e2 : 3 ≤ k ∧ k < 3 + t
      · rw [if_pos e2, if_pos (by omega)]
      · rw [if_neg e2, if_neg (by omega)]
theorem st71 {kf : ev_M → Option (Unit × ev_M)} {m0 : ev_M} : ∀ (j t n : Nat) (m : ev_M), t + j = 2 → j < n → m.2 = m0.2 → (∀ a, a ≠ 141 → a ≠ 142 → m.1 a = m0.1 a) → (∀ k, m.1 141 k = if 2 ≤ k ∧ k < 2 + t then m0.1 141 (k - 2) else m0.1 141 k) → (∀ k, m.1 142 k = if 2 ≤ k ∧ k < 2 + t then m0.1 142 (k - 2) else m0.1 142 k) → ∃ m', FX12_stands_L71 f kf n (Int32.ofNat t) m = kf m' ∧ m'.2 = m0.2 ∧ (∀ a, a ≠ 141 → a ≠ 142 → m'.1 a = m0.1 a) ∧ (∀ k, k < 2 → m'.1 141 (2 + k) = m0.1 141 k ∧ m'.1 142 (2 + k) = m0.1 142 k) := by
  intro j
  induction j with
  | zero =>
    intro t n m h1 h2 q0 q1 q2 q3
    obtain ⟨n, rfl⟩ : ∃ w, n = w + 1 := ⟨n - 1, by omega⟩
    have : t = 2 := by omega
    subst this
    rw [FX12_stands_L71, if_pos (by decide)]
    exact ⟨m, rfl, q0, q1, fun k hk => ⟨by rw [q2, if_pos (by omega), show 2 + k - 2 = k by omega], by rw [q3, if_pos (by omega), show 2 + k - 2 = k by omega]⟩⟩
  | succ j ih =>
    intro t n m h1 h2 q0 q1 q2 q3
    obtain ⟨n, rfl⟩ : ∃ w, n = w + 1 := ⟨n - 1, by omega⟩
    have i1 : ev_in (Int32.ofNat t) 4 := (n_in (by omega)).mpr (by omega)
    have i2 : ev_in (Int32.ofNat (2 + t)) 4 := (n_in (by omega)).mpr (by omega)
    rw [FX12_stands_L71, if_neg (fun q => by rw [show (2 : Int32) = Int32.ofNat 2 from rfl, n_le (by omega) (by omega)] at q; omega), show (2 : Int32) + Int32.ofNat t = Int32.ofNat (2 + t) from n_add 2 t, if_pos i1, if_pos i2, if_pos i1, if_pos i2, n_nat (by omega), n_nat (by omega), s_1]
    refine ih (t + 1) n _ (by omega) (by omega) q0 (fun a ha hb => by rw [upI_na _ _ _ _ hb, ev_up_ne _ _ _ ha]; exact q1 a ha hb) (fun k => ?_) (fun k => ?_)
    · rw [upI_na _ _ _ _ (by decide), ev_up_at]
      by_cases e : k = 2 + t
      · rw [if_pos e, if_pos (by omega), q2, if_neg (by omega), show k - 2 = t by omega]
      · rw [if_neg e, q2]
        by_cases e2 : 2 ≤ k ∧ k < 2 + t
        · rw [if_pos e2, if_pos (by omega)]
        · rw [if_neg e2, if_neg (by omega)]
    · show ev_up _ 142 (2 + t) (m.1 142 t) 142 k = _
      rw [ev_up_at, ev_up_ne _ _ _ (by decide)]
      by_cases e : k = 2 + t
      · rw [if_pos e, if_pos (by omega), q3, if_neg (by omega), show k - 2 = t by omega]
      · rw [if_neg e, q3]
        by_cases e2 : 2 ≤ k ∧ k < 2 + t
        · rw [if_pos e2, if_pos (by omega)]
        · rw [if_neg e2, if_neg (by omega)]
theorem st112 {kf : ev_M → Option (Unit × ev_M)} {m0 : ev_M} {z : Nat} (hz : z ≤ 1600) (h43 : m0.1 112 43 = Int32.ofNat z) : ∀ (j t n : Nat) (m : ev_M), t + j = z → j < n → m.2 = m0.2 → (∀ a, a ≠ 143 → m.1 a = m0.1 a) → (∀ k, m.1 143 k = if 1600 ≤ k ∧ k < 1600 + t then m0.1 143 (k - 1600) else m0.1 143 k) → ∃ m', FX12_stands_L112 f kf n (Int32.ofNat t) m = kf m' ∧ m'.2 = m0.2 ∧ (∀ a, a ≠ 143 → m'.1 a = m0.1 a) ∧ (∀ k, k < z → m'.1 143 (1600 + k) = m0.1 143 k) := by
  intro j
  induction j with
  | zero =>
    intro t n m h1 h2 q0 q1 q2
    obtain ⟨n, rfl⟩ : ∃ w, n = w + 1 := ⟨n - 1, by omega⟩
    have : t = z := by omega
    subst this
    rw [FX12_stands_L112, q1 112 (by decide), h43, if_pos ((n_le (by omega) (by omega)).mpr (Nat.le_refl _))]
    exact ⟨m, rfl, q0, q1, fun k hk => by rw [q2, if_pos (by omega), show 1600 + k - 1600 = k by omega]⟩
  | succ j ih =>
    intro t n m h1 h2 q0 q1 q2
    obtain ⟨n, rfl⟩ : ∃ w, n = w + 1 := ⟨n - 1, by omega⟩
    rw [FX12_stands_L112, q1 112 (by decide), h43, if_neg (fun q => by rw [n_le (by omega) (by omega)] at q; omega), show (1600 : Int32) + Int32.ofNat t = Int32.ofNat (1600 + t) from n_add 1600 t, if_pos ((n_in (by omega)).mpr (by omega)), if_pos ((n_in (by omega)).mpr (by omega)), n_nat (by omega), n_nat (by omega), s_1]
    refine ih (t + 1) n _ (by omega) (by omega) q0 (fun a ha => (upI_na _ _ _ _ ha).trans (q1 a ha)) (fun k => ?_)
    show ev_up m.1 143 (1600 + t) (m.1 143 t) 143 k = _
    rw [ev_up_at]
    by_cases e : k = 1600 + t
    · rw [if_pos e, if_pos (by omega), q2, if_neg (by omega), show k - 1600 = t by omega]
    · rw [if_neg e, q2]
      by_cases e2 : 1600 ≤ k ∧ k < 1600 + t
      · rw [if_pos e2, if_pos (by omega)]
      · rw [if_neg e2, if_neg (by omega)]
theorem st144 {kf : ev_M → Option (Unit × ev_M)} {m0 : ev_M} : ∀ (j t n : Nat) (m : ev_M), t + j = 147 → j < n → m.2 = m0.2 → (∀ a, a ≠ 144 → m.1 a = m0.1 a) → (∀ k, k < t → m.1 144 k = 0) → ∃ m', FX12_stands_L144 f kf n (Int32.ofNat t) m = kf m' ∧ m'.2 = m0.2 ∧ (∀ a, a ≠ 144 → m'.1 a = m0.1 a) ∧ (∀ k, k < 147 → m'.1 144 k = 0) := by
  intro j
  induction j with
  | zero =>
    intro t n m h1 h2 q0 q1 q2
    obtain ⟨n, rfl⟩ : ∃ w, n = w + 1 := ⟨n - 1, by omega⟩
    have : t = 147 := by omega
    subst this
    rw [FX12_stands_L144, if_pos (by decide)]
    exact ⟨m, rfl, q0, q1, q2⟩
  | succ j ih =>
    intro t n m h1 h2 q0 q1 q2
    obtain ⟨n, rfl⟩ : ∃ w, n = w + 1 := ⟨n - 1, by omega⟩
    rw [FX12_stands_L144, if_neg (fun q => by rw [show (147 : Int32) = Int32.ofNat 147 from rfl, n_le (by omega) (by omega)] at q; omega), if_pos ((n_in (by omega)).mpr (by omega)), n_nat (by omega), s_1]
    refine ih (t + 1) n _ (by omega) (by omega) q0 (fun a ha => (upI_na _ _ _ _ ha).trans (q1 a ha)) (fun k hk => ?_)
    by_cases e : k = t
    · subst e; rw [upI_at]
    · rw [upI_nk _ _ _ _ e]; exact q2 k (by omega)
theorem st176 {kf : ev_M → Option (Unit × ev_M)} {m0 : ev_M} {T : Nat} (hT : T ≤ 8) (h36 : m0.1 112 36 = Int32.ofNat T) : ∀ (j t n : Nat) (m : ev_M), t + j = 3 * T → j < n → m.2 = m0.2 → (∀ a, a ≠ 144 → m.1 a = m0.1 a) → (∀ k, m.1 144 k = if 2 ≤ k ∧ k < 2 + t then m0.1 139 (k - 2) else m0.1 144 k) → ∃ m', FX12_stands_L176 f kf n (Int32.ofNat t) m = kf m' ∧ m'.2 = m0.2 ∧ (∀ a, a ≠ 144 → m'.1 a = m0.1 a) ∧ (∀ k, m'.1 144 k = if 2 ≤ k ∧ k < 2 + 3 * T then m0.1 139 (k - 2) else m0.1 144 k) := by
  intro j
  induction j with
  | zero =>
    intro t n m h1 h2 q0 q1 q2
    obtain ⟨n, rfl⟩ : ∃ w, n = w + 1 := ⟨n - 1, by omega⟩
    have : t = 3 * T := by omega
    subst this
    rw [FX12_stands_L176, q1 112 (by decide), h36, show (3 : Int32) * Int32.ofNat T = Int32.ofNat (3 * T) from n_mul 3 T, if_pos ((n_le (by omega) (by omega)).mpr (Nat.le_refl _))]
    exact ⟨m, rfl, q0, q1, q2⟩
  | succ j ih =>
    intro t n m h1 h2 q0 q1 q2
    obtain ⟨n, rfl⟩ : ∃ w, n = w + 1 := ⟨n - 1, by omega⟩
    rw [FX12_stands_L176, q1 112 (by decide), h36, show (3 : Int32) * Int32.ofNat T = Int32.ofNat (3 * T) from n_mul 3 T, if_neg (fun q => by rw [n_le (by omega) (by omega)] at q; omega), show (2 : Int32) + Int32.ofNat t = Int32.ofNat (2 + t) from n_add 2 t, if_pos ((n_in (by omega)).mpr (by omega)), if_pos ((n_in (by omega)).mpr (by omega)), n_nat (by omega), n_nat (by omega), s_1]
    refine ih (t + 1) n _ (by omega) (by omega) q0 (fun a ha => (upI_na _ _ _ _ ha).trans (q1 a ha)) (fun k => ?_)
    show ev_up m.1 144 (2 + t) (m.1 139 t) 144 k = _
    rw [ev_up_at]
    by_cases e : k = 2 + t
    · rw [if_pos e, if_pos (by omega), q1 139 (by decide), show k - 2 = t by omega]
    · rw [if_neg e, q2]
      by_cases e2 : 2 ≤ k ∧ k < 2 + t
      · rw [if_pos e2, if_pos (by omega)]
      · rw [if_neg e2, if_neg (by omega)]
theorem r_stands {m : ev_M} {T z : Nat} (hf : 4000 ≤ f) (hT : T ≤ 8) (h35 : m.1 112 35 = Int32.ofNat T) (hz : z ≤ 1600) (h43 : m.1 112 43 = Int32.ofNat z) : ∃ m', FX12_stands f m = some ((), m') ∧ m'.1 112 45 = 1 ∧ m'.1 112 36 = Int32.ofNat T ∧ (∀ k, k < 8 → m'.2 138 (8 + k) = m.2 138 k) ∧ (∀ k, k < 3 → m'.1 140 (3 + k) = m.1 140 k) ∧ (∀ k, k < 2 → m'.1 141 (2 + k) = m.1 141 k ∧ m'.1 142 (2 + k) = m.1 142 k) ∧ (∀ k, k < z → m'.1 143 (1600 + k) = m.1 143 k) ∧ m'.1 144 0 = 0 ∧ m'.1 144 1 = m.1 112 34 ∧ (∀ k, k < 3 * T → m'.1 144 (2 + k) = m.1 139 k) ∧ m'.1 144 26 = 0 ∧ m'.1 112 64 = 0 ∧ m'.1 112 58 = 0 := by
  have g0 : ∀ a k, ¬ (a = 112 ∧ (k = 36 ∨ k = 45)) → ((ev_up (ev_up m.1 112 45 1) 112 36 (m.1 112 35), m.2) : ev_M).1 a k = m.1 a k := fun a k q => by
    by_cases e : a = 112
    · subst e; rw [upI_nk _ _ _ _ (by omega), up_nk _ _ _ (by omega)]
    · rw [upI_na _ _ _ _ e, up_na _ _ _ _ e]
  have g36 : ((ev_up (ev_up m.1 112 45 1) 112 36 (m.1 112 35), m.2) : ev_M).1 112 36 = Int32.ofNat T := by rw [upI_at]; exact h35
  have g45 : ((ev_up (ev_up m.1 112 45 1) 112 36 (m.1 112 35), m.2) : ev_M).1 112 45 = 1 := by rw [upI_nk _ _ _ _ (by decide), up_at]
  unfold FX12_stands
  generalize hM : ((ev_up (ev_up m.1 112 45 1) 112 36 (m.1 112 35), m.2) : ev_M) = M at g0 g36 g45
  have hM2 : M.2 = m.2 := by rw [← hM]
  obtain ⟨m1, a1, a2, a3⟩ := @st15 f (fun m1 => (FX12_stands_L44 f (fun m2 => (FX12_stands_L71 f (fun m3 => (FX12_stands_L112 f (fun m4 => (FX12_stands_L144 f (fun m5 => (FX12_stands_L176 f (fun m6 => some ((), ((ev_up (ev_up m6.1 112 64 0) 112 58 0), m6.2))) f (0 : Int32) ((ev_up m5.1 144 1 (m5.1 112 34)), m5.2))) f (0 : Int32) m4)) f (0 : Int32) m3)) f (0 : Int32) m2)) f (0 : Int32) m1)) M 8 0 f M (by omega) (by omega) rfl (fun k => by rw [if_neg (by omega)])
  obtain ⟨m2, b1, b0, b2, b3⟩ := @st44 f (fun m2 => (FX12_stands_L71 f (fun m3 => (FX12_stands_L112 f (fun m4 => (FX12_stands_L144 f (fun m5 => (FX12_stands_L176 f (fun m6 => some ((), ((ev_up (ev_up m6.1 112 64 0) 112 58 0), m6.2))) f (0 : Int32) ((ev_up m5.1 144 1 (m5.1 112 34)), m5.2))) f (0 : Int32) m4)) f (0 : Int32) m3)) f (0 : Int32) m2)) m1 3 0 f m1 (by omega) (by omega) rfl (fun _ _ => rfl) (fun k => by rw [if_neg (by omega)])
  obtain ⟨m3, c1, c0, c2, c3⟩ := @st71 f (fun m3 => (FX12_stands_L112 f (fun m4 => (FX12_stands_L144 f (fun m5 => (FX12_stands_L176 f (fun m6 => some ((), ((ev_up (ev_up m6.1 112 64 0) 112 58 0), m6.2))) f (0 : Int32) ((ev_up m5.1 144 1 (m5.1 112 34)), m5.2))) f (0 : Int32) m4)) f (0 : Int32) m3)) m2 2 0 f m2 (by omega) (by omega) rfl (fun _ _ _ => rfl) (fun k => by rw [if_neg (by omega)]) (fun k => by rw [if_neg (by omega)])
  have e3 : ∀ a, a ≠ 140 → a ≠ 141 → a ≠ 142 → m3.1 a = M.1 a := fun a q1 q2 q3 => by rw [c2 a q2 q3, b2 a q1, a2]
  obtain ⟨m4, d1, d0, d2, d3⟩ := @st112 f (fun m4 => (FX12_stands_L144 f (fun m5 => (FX12_stands_L176 f (fun m6 => some ((), ((ev_up (ev_up m6.1 112 64 0) 112 58 0), m6.2))) f (0 : Int32) ((ev_up m5.1 144 1 (m5.1 112 34)), m5.2))) f (0 : Int32) m4)) m3 z hz (by rw [e3 112 (by decide) (by decide) (by decide), g0 _ _ (by omega)]; exact h43) z 0 f m3 (by omega) (by omega) rfl (fun _ _ => rfl) (fun k => by rw [if_neg (by omega)])
  obtain ⟨m5, f1, f0, f2, f3⟩ := @st144 f (fun m5 => (FX12_stands_L176 f (fun m6 => some ((), ((ev_up (ev_up m6.1 112 64 0) 112 58 0), m6.2))) f (0 : Int32) ((ev_up m5.1 144 1 (m5.1 112 34)), m5.2))) m4 147 0 f m4 (by omega) (by omega) rfl (fun _ _ => rfl) (fun k hk => by omega)
  have e5 : ∀ a, a ≠ 140 → a ≠ 141 → a ≠ 142 → a ≠ 143 → a ≠ 144 → m5.1 a = M.1 a := fun a q1 q2 q3 q4 q5 => by rw [f2 a q5, d2 a q4, e3 a q1 q2 q3]
  have gN : ∀ a, a ≠ 144 → ((ev_up m5.1 144 1 (m5.1 112 34), m5.2) : ev_M).1 a = m5.1 a := fun a q => upI_na _ _ _ _ q
  obtain ⟨m6, h1, h0, h2, h3⟩ := @st176 f (fun m6 => some ((), ((ev_up (ev_up m6.1 112 64 0) 112 58 0), m6.2))) (ev_up m5.1 144 1 (m5.1 112 34), m5.2) T hT (by rw [gN _ (by decide), e5 112 (by decide) (by decide) (by decide) (by decide) (by decide)]; exact g36) (3 * T) 0 f (ev_up m5.1 144 1 (m5.1 112 34), m5.2) (by omega) (by omega) rfl (fun _ _ => rfl) (fun k => by rw [if_neg (by omega)])
  rw [z0] at a1 b1 c1 d1 f1 h1
  rw [a1, b1, c1, d1, f1, h1]
  have gF : ∀ a k, ¬ (a = 112 ∧ (k = 58 ∨ k = 64)) → ((ev_up (ev_up m6.1 112 64 0) 112 58 0, m6.2) : ev_M).1 a k = m6.1 a k := fun a k q => by
    by_cases e : a = 112
    · subst e; rw [upI_nk _ _ _ _ (by omega), up_nk _ _ _ (by omega)]
    · rw [upI_na _ _ _ _ e, up_na _ _ _ _ e]
  have e6 : ∀ a, a ≠ 144 → m6.1 a = m5.1 a := fun a q => by rw [h2 a q, gN a q]
  have L2 : m6.2 = m1.2 := by rw [h0]; show m5.2 = _; rw [f0, d0, c0, b0]
  refine ⟨_, rfl, ?_, ?_, ?_, ?_, ?_, ?_, ?_, ?_, ?_, ?_, ?_, ?_⟩
  · rw [gF _ _ (by omega), e6 _ (by decide), e5 _ (by decide) (by decide) (by decide) (by decide) (by decide)]; exact g45
  · rw [gF _ _ (by omega), e6 _ (by decide), e5 _ (by decide) (by decide) (by decide) (by decide) (by decide)]; exact g36
  · intro k hk
    show m6.2 138 (8 + k) = _
    rw [L2, a3 k hk, hM2]
  · intro k hk
    rw [gF _ _ (by omega), e6 _ (by decide), f2 _ (by decide), d2 _ (by decide), c2 _ (by decide) (by decide), b3 k hk, a2, g0 _ _ (by omega)]
  · intro k hk
    rw [gF _ _ (by omega), gF _ _ (by omega), e6 _ (by decide), e6 _ (by decide), f2 _ (by decide), f2 _ (by decide), d2 _ (by decide), d2 _ (by decide), (c3 k hk).1, (c3 k hk).2, b2 _ (by decide), b2 _ (by decide), a2, g0 _ _ (by omega), g0 _ _ (by omega)]
    exact ⟨rfl, rfl⟩
  · intro k hk
    rw [gF _ _ (by omega), e6 _ (by decide), f2 _ (by decide), d3 k hk, e3 _ (by decide) (by decide) (by decide), g0 _ _ (by omega)]
  · rw [gF _ _ (by omega), h3, if_neg (by omega), upI_nk _ _ _ _ (by decide)]; exact f3 0 (by omega)
  · rw [gF _ _ (by omega), h3, if_neg (by omega), upI_at, e5 _ (by decide) (by decide) (by decide) (by decide) (by decide), g0 _ _ (by omega)]
  · intro k hk
    rw [gF _ _ (by omega), h3, if_pos (by omega), gN _ (by decide), e5 _ (by decide) (by decide) (by decide) (by decide) (by decide), g0 _ _ (by omega), show 2 + k - 2 = k by omega]
  · rw [gF _ _ (by omega), h3, if_neg (by omega), upI_nk _ _ _ _ (by decide)]; exact f3 26 (by omega)
  · rw [upI_nk _ _ _ _ (by decide), up_at]
  · rw [upI_at]
/-! the class begins anew -/
theorem c_beginL {o : Nat} {m0 : ev_M} {kf : ev_M → Option (Unit × ev_M)} (ho : o = 1 ∨ o = 7) : ∀ (j t n : Nat) (m : ev_M), t + j = 8 → j < n → (∀ a k, a ≠ 104 → a ≠ 105 → m.1 a k = m0.1 a k) → (∀ i, i < t → m.1 104 i = m0.1 (o + 2) i ∧ m.1 105 i = m0.1 (o + 3) i) → ∃ m', FX8_begin_L28 f kf 103 o n (Int32.ofNat t) m = kf m' ∧ (∀ a k, a ≠ 104 → a ≠ 105 → m'.1 a k = m0.1 a k) ∧ (∀ i, i < 8 → m'.1 104 i = m0.1 (o + 2) i ∧ m'.1 105 i = m0.1 (o + 3) i) := by
  intro j
  induction j with
  | zero =>
    intro t n m h1 h2 q1 q2
    obtain ⟨n, rfl⟩ : ∃ w, n = w + 1 := ⟨n - 1, by omega⟩
    have : t = 8 := by omega
    subst this
    rw [FX8_begin_L28, if_pos (by decide)]
    exact ⟨m, rfl, q1, q2⟩
  | succ j ih =>
    intro t n m h1 h2 q1 q2
    obtain ⟨n, rfl⟩ : ∃ w, n = w + 1 := ⟨n - 1, by omega⟩
    have i8 : ev_in (Int32.ofNat t) 8 := (n_in (by omega)).mpr (by omega)
    rw [FX8_begin_L28, if_neg (fun q => by rw [show (8 : Int32) = Int32.ofNat 8 from rfl, n_le (by omega) (by omega)] at q; omega), if_pos i8, if_pos i8, if_pos i8, if_pos i8, n_nat (by omega), s_1, up_na _ _ _ _ (show o + 3 ≠ 103 + 1 by omega)]
    refine ih (t + 1) n _ (by omega) (by omega) (fun a k z1 z2 => ?_) (fun i hi => ⟨?_, ?_⟩)
    · rw [upI_na _ _ _ _ z2, ev_up_ne _ _ _ z1]; exact q1 a k z1 z2
    · rw [upI_na _ _ _ _ (by decide)]
      show ev_up m.1 104 t (m.1 (o + 2) t) 104 i = _
      rw [ev_up_at]
      by_cases e : i = t
      · rw [if_pos e, e, q1 _ _ (by omega) (by omega)]
      · rw [if_neg e]; exact (q2 i (by omega)).1
    · show ev_up _ 105 t (m.1 (o + 3) t) 105 i = _
      rw [ev_up_at, ev_up_ne _ _ _ (by decide)]
      by_cases e : i = t
      · rw [if_pos e, e, q1 _ _ (by omega) (by omega)]
      · rw [if_neg e]; exact (q2 i (by omega)).2
theorem c_begin8 {o : Nat} {m : ev_M} (hf : 4000 ≤ f) (ho : o = 1 ∨ o = 7) : ∃ m', FX8_begin f 103 o m = some ((), m') ∧ m'.1 103 2 = 0 ∧ m'.1 103 3 = m.1 o 7 ∧ m'.1 103 4 = m.1 o 6 ∧ m'.1 103 5 = 0 ∧ (∀ t, t < 8 → m'.1 104 t = m.1 (o + 2) t ∧ m'.1 105 t = m.1 (o + 3) t) := by
  unfold FX8_begin
  have h1 : o ≠ 103 := by omega
  rw [up_na _ _ _ _ h1, up_na _ _ _ _ h1, up_na _ _ _ _ h1]
  obtain ⟨m', r1, r2, r3⟩ := @c_beginL f o (ev_up (ev_up (ev_up (ev_up m.1 103 2 0) 103 3 (m.1 o 7)) 103 4 (m.1 o 6)) 103 5 0, m.2) (fun m1 => some ((), m1)) ho 8 0 f (ev_up (ev_up (ev_up (ev_up m.1 103 2 0) 103 3 (m.1 o 7)) 103 4 (m.1 o 6)) 103 5 0, m.2) (by omega) (by omega) (fun _ _ _ _ => rfl) (fun i hi => by omega)
  rw [z0] at r1
  refine ⟨m', r1, ?_, ?_, ?_, ?_, fun t ht => ?_⟩
  · rw [r2 _ _ (by decide) (by decide), upI_nk _ _ _ _ (by decide), up_nk _ _ _ (by decide), up_nk _ _ _ (by decide), up_at]
  · rw [r2 _ _ (by decide) (by decide), upI_nk _ _ _ _ (by decide), up_nk _ _ _ (by decide), up_at]
  · rw [r2 _ _ (by decide) (by decide), upI_nk _ _ _ _ (by decide), up_at]
  · rw [r2 _ _ (by decide) (by decide), upI_at]
  · obtain ⟨p1, p2⟩ := r3 t ht
    refine ⟨p1.trans ?_, p2.trans ?_⟩
    · rw [upI_na _ _ _ _ (by omega), up_na _ _ _ _ (by omega), up_na _ _ _ _ (by omega), up_na _ _ _ _ (by omega)]
    · rw [upI_na _ _ _ _ (by omega), up_na _ _ _ _ (by omega), up_na _ _ _ _ (by omega), up_na _ _ _ _ (by omega)]
end
