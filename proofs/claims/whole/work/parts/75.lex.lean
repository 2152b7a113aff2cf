/-! the text: blanks, words, numbers -/
def isL (b : Int32) : Bool := decide (97 ≤ b.toInt ∧ b.toInt ≤ 122)
def isDg (b : Int32) : Bool := decide (48 ≤ b.toInt ∧ b.toInt ≤ 57)
def isBl (b : Int32) : Bool := decide (b = 10 ∨ b = 32)
def skN (β : Nat → Int32) (E : Nat) : Nat → Nat → Nat
  | 0, p => p
  | n + 1, p => if p < E ∧ isBl (β p) = true then skN β E n (p + 1) else p
def sk (β : Nat → Int32) (E p : Nat) : Nat := skN β E (E - p) p
def rlN (P : Int32 → Bool) (β : Nat → Int32) (E : Nat) : Nat → Nat → Nat
  | 0, _ => 0
  | n + 1, p => if p < E ∧ P (β p) = true then rlN P β E n (p + 1) + 1 else 0
def rl (P : Int32 → Bool) (β : Nat → Int32) (E p : Nat) : Nat := rlN P β E (E - p) p
theorem sk_s {β : Nat → Int32} {E p : Nat} (h : p < E) (hb : isBl (β p) = true) : sk β E p = sk β E (p + 1) := by
  unfold sk
  rw [show E - p = (E - (p + 1)) + 1 by omega]
  exact if_pos ⟨h, hb⟩
theorem sk_0 {β : Nat → Int32} {E p : Nat} (h : ¬ (p < E ∧ isBl (β p) = true)) : sk β E p = p := by
  unfold sk
  generalize E - p = n
  cases n with
  | zero => rfl
  | succ n => exact if_neg h
theorem rl_s {P : Int32 → Bool} {β : Nat → Int32} {E p : Nat} (h : p < E) (hb : P (β p) = true) : rl P β E p = rl P β E (p + 1) + 1 := by
  unfold rl
  rw [show E - p = (E - (p + 1)) + 1 by omega]
  exact if_pos ⟨h, hb⟩
theorem rl_0 {P : Int32 → Bool} {β : Nat → Int32} {E p : Nat} (h : ¬ (p < E ∧ P (β p) = true)) : rl P β E p = 0 := by
  unfold rl
  generalize E - p = n
  cases n with
  | zero => rfl
  | succ n => exact if_neg h
theorem sk_p (β : Nat → Int32) (E : Nat) : ∀ (j p : Nat), E - p = j → p ≤ sk β E p ∧ (p ≤ E → sk β E p ≤ E) ∧ (sk β E p < E → isBl (β (sk β E p)) = false) ∧ sk β E (sk β E p) = sk β E p := by
  intro j
  induction j with
  | zero =>
    intro p h
    have e : sk β E p = p := sk_0 (by omega)
    rw [e, e]
    exact ⟨Nat.le_refl _, fun q => q, fun q => by omega, rfl⟩
  | succ j ih =>
    intro p h
    by_cases hb : isBl (β p) = true
    · rw [sk_s (by omega) hb]
      obtain ⟨a1, a2, a3, a4⟩ := ih (p + 1) (by omega)
      exact ⟨by omega, fun q => a2 (by omega), a3, a4⟩
    · have e : sk β E p = p := sk_0 (fun q => hb q.2)
      rw [e, e]
      exact ⟨Nat.le_refl _, fun q => q, fun q => by simpa using hb, rfl⟩
theorem sk_ge (β : Nat → Int32) (E p : Nat) : p ≤ sk β E p := (sk_p β E _ p rfl).1
theorem sk_le {β : Nat → Int32} {E p : Nat} (h : p ≤ E) : sk β E p ≤ E := (sk_p β E _ p rfl).2.1 h
theorem sk_nb {β : Nat → Int32} {E p : Nat} (h : sk β E p < E) : isBl (β (sk β E p)) = false := (sk_p β E _ p rfl).2.2.1 h
theorem sk_i (β : Nat → Int32) (E p : Nat) : sk β E (sk β E p) = sk β E p := (sk_p β E _ p rfl).2.2.2
theorem rl_p (P : Int32 → Bool) (β : Nat → Int32) (E : Nat) : ∀ (j p : Nat), E - p = j → (p ≤ E → p + rl P β E p ≤ E) ∧ (∀ i, i < rl P β E p → P (β (p + i)) = true) ∧ (p + rl P β E p < E → P (β (p + rl P β E p)) = false) := by
  intro j
  induction j with
  | zero =>
    intro p h
    have e : rl P β E p = 0 := rl_0 (by omega)
    rw [e]
    exact ⟨fun q => q, fun i hi => by omega, fun q => by omega⟩
  | succ j ih =>
    intro p h
    by_cases hb : P (β p) = true
    · rw [rl_s (by omega) hb]
      obtain ⟨a1, a2, a3⟩ := ih (p + 1) (by omega)
      refine ⟨fun q => by have := a1 (by omega); omega, fun i hi => ?_, fun q => ?_⟩
      · by_cases e : i = 0
        · subst e; exact hb
        · have := a2 (i - 1) (by omega)
          rw [show p + 1 + (i - 1) = p + i by omega] at this
          exact this
      · have := a3 (by omega)
        rw [show p + 1 + rl P β E (p + 1) = p + (rl P β E (p + 1) + 1) by omega] at this
        exact this
    · have e : rl P β E p = 0 := rl_0 (fun q => hb q.2)
      rw [e]
      exact ⟨fun q => q, fun i hi => by omega, fun q => by simpa using hb⟩
theorem rl_le {P : Int32 → Bool} {β : Nat → Int32} {E p : Nat} (h : p ≤ E) : p + rl P β E p ≤ E := (rl_p P β E _ p rfl).1 h
theorem rl_all {P : Int32 → Bool} {β : Nat → Int32} {E p i : Nat} (h : i < rl P β E p) : P (β (p + i)) = true := (rl_p P β E _ p rfl).2.1 i h
theorem rl_pos {P : Int32 → Bool} {β : Nat → Int32} {E p : Nat} (h : p < E) (hb : P (β p) = true) : 0 < rl P β E p := by rw [rl_s h hb]; omega
theorem r_isL (f : Nat) (b : Int32) (m : ev_M) : FX12_isLetter f b m = some (if isL b = true then 1 else 0, m) := by
  have e1 : (97 : Int32).toInt = 97 := rfl
  have e2 : (122 : Int32).toInt = 122 := rfl
  unfold FX12_isLetter isL
  by_cases z1 : b < 97
  · rw [if_pos z1, if_neg (by rw [decide_eq_true_iff]; rw [i_lt, e1] at z1; omega)]
  rw [if_neg z1]
  rw [i_lt, e1] at z1
  by_cases z2 : 122 < b
  · rw [if_pos z2, if_neg (by rw [decide_eq_true_iff]; rw [i_lt, e2] at z2; omega)]
  · rw [if_neg z2]
    rw [i_lt, e2] at z2
    rw [if_pos (by rw [decide_eq_true_iff]; omega)]
theorem r_isD (f : Nat) (b : Int32) (m : ev_M) : FX12_isDigit f b m = some (if isDg b = true then 1 else 0, m) := by
  have e1 : (48 : Int32).toInt = 48 := rfl
  have e2 : (57 : Int32).toInt = 57 := rfl
  unfold FX12_isDigit isDg
  by_cases z1 : b < 48
  · rw [if_pos z1, if_neg (by rw [decide_eq_true_iff]; rw [i_lt, e1] at z1; omega)]
  rw [if_neg z1]
  rw [i_lt, e1] at z1
  by_cases z2 : 57 < b
  · rw [if_pos z2, if_neg (by rw [decide_eq_true_iff]; rw [i_lt, e2] at z2; omega)]
  · rw [if_neg z2]
    rw [i_lt, e2] at z2
    rw [if_pos (by rw [decide_eq_true_iff]; omega)]
/-! words by their number -/
def wch (w k : Nat) : Int32 := ev_ch (Int32.ofNat (w * 6 + k))
def wc1 (β : Nat → Int32) (s n w k : Nat) : Bool := decide (wch w k = if k < n then β (s + k) else 32)
def wm (β : Nat → Int32) (s n w : Nat) : Bool := allB (wc1 β s n w) 6
def wv (β : Nat → Int32) (s n : Nat) : Option Nat := if n ≤ 6 then idx (wm β s n) 29 0 else none
def dvN (β : Nat → Int32) (s : Nat) : Nat → Int32
  | 0 => 0
  | k + 1 => (dvN β s k * 10 + β (s + k)) - 48
/-! the class's tape -/
def TB0 (β : Nat → Int32) (E : Nat) (m : ev_M) : Prop := E ≤ 1600 ∧ m.1 13 1 = Int32.ofNat E ∧ (∀ i, i < 1600 → m.1 14 i = β i)
theorem TB0_fr {β : Nat → Int32} {E : Nat} {m m' : ev_M} (h : TB0 β E m) (h1 : ∀ a k, ¬ (a = 13 ∧ k ≠ 1) → m'.1 a k = m.1 a k) : TB0 β E m' := ⟨h.1, by rw [h1 13 1 (by omega)]; exact h.2.1, fun i hi => by rw [h1 14 i (by omega)]; exact h.2.2 i hi⟩
def onl (q : Nat) (m m' : ev_M) : Prop := m'.2 = m.2 ∧ ∀ a k, ¬ (a = 13 ∧ k = q) → m'.1 a k = m.1 a k
theorem onl_refl (q : Nat) (m : ev_M) : onl q m m := ⟨rfl, fun _ _ _ => rfl⟩
theorem onl_up (q : Nat) {m m0 : ev_M} {v : Int32} (h : onl q m0 m) : onl q m0 (ev_up m.1 13 q v, m.2) := by
  refine ⟨h.1, fun a k z => ?_⟩
  show ev_up m.1 13 q v a k = _
  rw [← h.2 a k z]
  by_cases e : a = 13
  · subst e; rw [up_nk _ _ _ (by omega)]
  · rw [up_na _ _ _ _ e]
theorem c_skipL {f E : Nat} {β : Nat → Int32} {m0 : ev_M} {kf : ev_M → Option (Unit × ev_M)} (hB : TB0 β E m0) : ∀ (j p n : Nat) (m : ev_M), E ≤ p + j → j < n → p ≤ 1600 → onl 2 m0 m → m.1 13 2 = Int32.ofNat p → ∃ m', FX10_skipBlanks_L5 f kf n m = kf m' ∧ onl 2 m0 m' ∧ m'.1 13 2 = Int32.ofNat (sk β E p) := by
  obtain ⟨b1, b2, b3⟩ := hB
  intro j
  induction j with
  | zero =>
    intro p n m h1 h2 h3 q1 q2
    obtain ⟨n, rfl⟩ : ∃ z, n = z + 1 := ⟨n - 1, by omega⟩
    rw [FX10_skipBlanks_L5, q1.2 13 1 (by omega), b2, q2, if_pos ((n_le (by omega) (by omega)).mpr (by omega))]
    exact ⟨m, rfl, q1, by rw [q2, sk_0 (by omega)]⟩
  | succ j ih =>
    intro p n m h1 h2 h3 q1 q2
    obtain ⟨n, rfl⟩ : ∃ z, n = z + 1 := ⟨n - 1, by omega⟩
    rw [FX10_skipBlanks_L5, q1.2 13 1 (by omega), b2, q2]
    by_cases z : E ≤ p
    · rw [if_pos ((n_le (by omega) (by omega)).mpr z)]
      exact ⟨m, rfl, q1, by rw [q2, sk_0 (by omega)]⟩
    have e14 : m.1 14 (Int32.ofNat p).toNatClampNeg = β p := by rw [n_nat (by omega), q1.2 14 p (by omega)]; exact b3 p (by omega)
    have nx : ∀ (hb : isBl (β p) = true), ∃ m', FX10_skipBlanks_J44 f (FX10_skipBlanks_L5 f kf n) m = kf m' ∧ onl 2 m0 m' ∧ m'.1 13 2 = Int32.ofNat (sk β E p) := by
      intro hb
      unfold FX10_skipBlanks_J44
      rw [q2, s_1, sk_s (by omega) hb]
      exact ih (p + 1) n _ (by omega) (by omega) (by omega) (onl_up 2 q1) (upI_at _ _ _ _ _)
    rw [if_neg (fun q => by rw [n_le (by omega) (by omega)] at q; omega), if_pos ((n_in (by omega)).mpr (by omega)), if_pos ((n_in (by omega)).mpr (by omega))]
    by_cases z1 : β p = 10
    · rw [if_pos (e14.trans z1)]
      exact nx (by unfold isBl; simp [z1])
    rw [if_neg (fun q => z1 (e14.symm.trans q))]
    by_cases z2 : β p = 32
    · rw [if_pos (e14.trans z2)]
      exact nx (by unfold isBl; simp [z2])
    rw [if_neg (fun q => z2 (e14.symm.trans q))]
    exact ⟨m, rfl, q1, by rw [q2, sk_0 (fun q => by have := q.2; unfold isBl at this; simp [z1, z2] at this)]⟩
/-! what the byte at a place belongs to -/
def kA (β : Nat → Int32) (E p : Nat) : Nat := if E ≤ p then 0 else if isL (β p) = true then 1 else if isDg (β p) = true then 2 else 3
theorem kA_1 (β : Nat → Int32) (E p : Nat) : kA β E p = 1 ↔ (p < E ∧ isL (β p) = true) := by
  unfold kA
  by_cases z : E ≤ p
  · rw [if_pos z]; exact ⟨fun q => by omega, fun q => by omega⟩
  rw [if_neg z]
  by_cases y : isL (β p) = true
  · rw [if_pos y]; exact ⟨fun _ => ⟨by omega, y⟩, fun _ => rfl⟩
  · rw [if_neg y]
    refine ⟨fun q => ?_, fun q => absurd q.2 y⟩
    by_cases x : isDg (β p) = true
    · rw [if_pos x] at q; omega
    · rw [if_neg x] at q; omega
theorem isDg_L {b : Int32} (h : isDg b = true) : ¬ isL b = true := by
  unfold isDg at h
  unfold isL
  rw [decide_eq_true_iff] at h ⊢
  omega
theorem kA_2 (β : Nat → Int32) (E p : Nat) : kA β E p = 2 ↔ (p < E ∧ isDg (β p) = true) := by
  unfold kA
  by_cases z : E ≤ p
  · rw [if_pos z]; exact ⟨fun q => by omega, fun q => by omega⟩
  rw [if_neg z]
  by_cases y : isL (β p) = true
  · rw [if_pos y]; exact ⟨fun q => by omega, fun q => absurd y (isDg_L q.2)⟩
  · rw [if_neg y]
    by_cases x : isDg (β p) = true
    · rw [if_pos x]; exact ⟨fun _ => ⟨by omega, x⟩, fun _ => rfl⟩
    · rw [if_neg x]; exact ⟨fun q => by omega, fun q => absurd q.2 x⟩
theorem kA_le (β : Nat → Int32) (E p : Nat) : kA β E p ≤ 3 := by
  unfold kA
  split
  · omega
  · split
    · omega
    · split <;> omega
theorem c_kind {f E p : Nat} {β : Nat → Int32} {m : ev_M} (hB : TB0 β E m) (hp : p ≤ 1600) : FX10_kindAt f (Int32.ofNat p) m = some (Int32.ofNat (kA β E p), m) := by
  obtain ⟨b1, b2, b3⟩ := hB
  have e1 : (97 : Int32).toInt = 97 := rfl
  have e2 : (122 : Int32).toInt = 122 := rfl
  have e3 : (48 : Int32).toInt = 48 := rfl
  have e4 : (57 : Int32).toInt = 57 := rfl
  have e0 : (0 : Int32) = Int32.ofNat 0 := rfl
  unfold FX10_kindAt
  rw [if_neg (fun q => by rw [e0, n_lt (by omega) (by omega)] at q; omega), b2]
  unfold kA
  by_cases z : E ≤ p
  · rw [if_neg (fun q => by rw [n_lt (by omega) (by omega)] at q; omega), if_pos z]
    rfl
  rw [if_pos ((n_lt (by omega) (by omega)).mpr (by omega)), if_pos ((n_in (by omega)).mpr (by omega)), if_neg z, n_nat (by omega), b3 p (by omega)]
  have hd : (if β p < 48 then some ((3 : Int32), m) else (if 57 < β p then some (3, m) else some (2, m))) = some (Int32.ofNat (if isDg (β p) = true then 2 else 3), m) := by
    unfold isDg
    by_cases y1 : β p < 48
    · rw [if_pos y1, if_neg (by rw [decide_eq_true_iff]; rw [i_lt, e3] at y1; omega)]; rfl
    rw [if_neg y1]
    rw [i_lt, e3] at y1
    by_cases y2 : 57 < β p
    · rw [if_pos y2, if_neg (by rw [decide_eq_true_iff]; rw [i_lt, e4] at y2; omega)]; rfl
    · rw [if_neg y2]
      rw [i_lt, e4] at y2
      rw [if_pos (by rw [decide_eq_true_iff]; omega)]; rfl
  by_cases x1 : β p < 97
  · rw [if_pos x1, hd, if_neg (show ¬ isL (β p) = true by unfold isL; rw [decide_eq_true_iff]; rw [i_lt, e1] at x1; omega)]
  rw [if_neg x1]
  rw [i_lt, e1] at x1
  by_cases x2 : 122 < β p
  · rw [if_pos x2, hd, if_neg (show ¬ isL (β p) = true by unfold isL; rw [decide_eq_true_iff]; rw [i_lt, e2] at x2; omega)]
  · rw [if_neg x2]
    rw [i_lt, e2] at x2
    rw [if_pos (by unfold isL; rw [decide_eq_true_iff]; omega)]
    rfl
theorem c_long (f : Nat) (m : ev_M) : FX10_isLong f m = some (if m.1 13 5 = 1 ∨ m.1 13 5 = 2 then 1 else 0, m) := by
  unfold FX10_isLong
  by_cases z1 : m.1 13 5 = 1
  · rw [if_pos z1, if_pos (Or.inl z1)]
  rw [if_neg z1]
  by_cases z2 : m.1 13 5 = 2
  · rw [if_pos z2, if_pos (Or.inr z2)]
  · rw [if_neg z2, if_neg (fun q => q.elim z1 z2)]
/-- no word, no number: nothing is added to its size -/
theorem c_adv0 {f n : Nat} {m : ev_M} {kf : ev_M → Option (Unit × ev_M)} (h1 : ¬ m.1 13 5 = 1) (h2 : ¬ m.1 13 5 = 2) (hn : 0 < n) : FX10_advance_L56 f kf n m = kf m := by
  obtain ⟨n, rfl⟩ : ∃ z, n = z + 1 := ⟨n - 1, by omega⟩
  rw [FX10_advance_L56, c_long, if_neg (show ¬ (m.1 13 5 = 1 ∨ m.1 13 5 = 2) from fun q => q.elim h1 h2), bd_some, if_pos rfl]
  split <;> rfl
theorem c_advL {f E s kd : Nat} {β : Nat → Int32} {P : Int32 → Bool} {m0 : ev_M} {kf : ev_M → Option (Unit × ev_M)} (hB : TB0 β E m0) (hs : m0.1 13 2 = Int32.ofNat s) (hk : m0.1 13 5 = Int32.ofNat kd) (hkd : kd = 1 ∨ kd = 2) (hP : ∀ p, kA β E p = kd ↔ (p < E ∧ P (β p) = true)) : ∀ (j k n : Nat) (m : ev_M), E ≤ s + k + j → s + k ≤ E → j < n → onl 6 m0 m → m.1 13 6 = Int32.ofNat k → ∃ m', FX10_advance_L56 f kf n m = kf m' ∧ onl 6 m0 m' ∧ m'.1 13 6 = Int32.ofNat (k + rl P β E (s + k)) := by
  have hE := hB.1
  have b2 := hB.2.1
  intro j
  induction j with
  | zero =>
    intro k n m h1 h3 h2 q1 q2
    obtain ⟨n, rfl⟩ : ∃ z, n = z + 1 := ⟨n - 1, by omega⟩
    rw [FX10_advance_L56, q1.2 13 1 (by omega), b2, q2, q1.2 13 2 (by omega), hs, n_add, if_pos ((n_le (by omega) (by omega)).mpr (by omega))]
    exact ⟨m, rfl, q1, by rw [q2, rl_0 (by omega), Nat.add_zero]⟩
  | succ j ih =>
    intro k n m h1 h3 h2 q1 q2
    obtain ⟨n, rfl⟩ : ∃ z, n = z + 1 := ⟨n - 1, by omega⟩
    have g5 : m.1 13 5 = Int32.ofNat kd := by rw [q1.2 13 5 (by omega)]; exact hk
    have hBm : TB0 β E m := TB0_fr hB (fun a k y => q1.2 a k (by omega))
    rw [FX10_advance_L56, c_long, bd_some, q1.2 13 1 (by omega), b2, q2, q1.2 13 2 (by omega), hs, n_add]
    by_cases z : E ≤ s + k
    · rw [if_pos ((n_le (by omega) (by omega)).mpr z)]
      exact ⟨m, rfl, q1, by rw [q2, rl_0 (by omega), Nat.add_zero]⟩
    rw [if_neg (fun q => by rw [n_le (by omega) (by omega)] at q; omega), if_pos (show m.1 13 5 = 1 ∨ m.1 13 5 = 2 by rw [g5]; exact hkd.imp (fun e => by rw [e]; rfl) (fun e => by rw [e]; rfl)), if_neg n10, c_kind hBm (by omega), bd_some, g5]
    have hkl := kA_le β E (s + k)
    by_cases y : kA β E (s + k) = kd
    · rw [if_pos (by rw [y]), q2, s_1]
      have y2 := (hP (s + k)).mp y
      obtain ⟨m', r1, r2, r3⟩ := ih (k + 1) n (ev_up m.1 13 6 (Int32.ofNat (k + 1)), m.2) (by omega) (by omega) (by omega) (onl_up 6 q1) (upI_at _ _ _ _ _)
      refine ⟨m', r1, r2, ?_⟩
      rw [r3, rl_s y2.1 y2.2, show s + (k + 1) = s + k + 1 by omega, show k + 1 + rl P β E (s + k + 1) = k + (rl P β E (s + k + 1) + 1) by omega]
    · rw [if_neg (fun q => y ((n_eq (by omega) (by omega)).mp q))]
      exact ⟨m, rfl, q1, by rw [q2, rl_0 (fun q => y ((hP _).mpr q)), Nat.add_zero]⟩
def mtN (p : Nat → Bool) : Nat → Nat → Nat
  | 0, k => k
  | j + 1, k => if p k = true then mtN p j (k + 1) else k
theorem mt_all {p : Nat → Bool} : ∀ j k, allB p k = true → (mtN p j k = k + j ↔ allB p (k + j) = true) ∧ mtN p j k ≤ k + j := by
  intro j
  induction j with
  | zero => intro k h; exact ⟨⟨fun _ => h, fun _ => rfl⟩, Nat.le_refl _⟩
  | succ j ih =>
    intro k h
    unfold mtN
    by_cases z : p k = true
    · rw [if_pos z]
      have := ih (k + 1) (by unfold allB; rw [h, z]; rfl)
      rw [show k + (j + 1) = k + 1 + j by omega]
      exact this
    · rw [if_neg z]
      refine ⟨⟨fun q => by omega, fun q => ?_⟩, by omega⟩
      exact absurd ((allB_iff _ _).mp q k (by omega)) z
theorem c_rwM {f E s N w : Nat} {β : Nat → Int32} {m : ev_M} {kf : Int32 → ev_M → Option (Int32 × ev_M)} (hB : TB0 β E m) (hs : m.1 13 2 = Int32.ofNat s) (hN : m.1 13 6 = Int32.ofNat N) (hsN : s + N ≤ E) (hw : w < 29) : ∀ (j k n : Nat), k + j = 6 → j < n → FX10_wordHere_L19 f kf (Int32.ofNat w) n (Int32.ofNat k) m = kf (Int32.ofNat (mtN (wc1 β s N w) j k)) m := by
  obtain ⟨b1, b2, b3⟩ := hB
  have e6 : (6 : Int32) = Int32.ofNat 6 := rfl
  intro j
  induction j with
  | zero =>
    intro k n h1 h2
    obtain ⟨n, rfl⟩ : ∃ z, n = z + 1 := ⟨n - 1, by omega⟩
    rw [FX10_wordHere_L19, if_pos (by rw [e6, n_le (by omega) (by omega)]; omega)]
    rfl
  | succ j ih =>
    intro k n h1 h2
    obtain ⟨n, rfl⟩ : ∃ z, n = z + 1 := ⟨n - 1, by omega⟩
    rw [FX10_wordHere_L19, if_neg (fun q => by rw [e6, n_le (by omega) (by omega)] at q; omega), e6, n_mul, n_add, if_pos ((n_in (by omega)).mpr (by omega)), hN]
    have step : ∀ b : Int32, b = (if k < N then β (s + k) else 32) → FX10_wordHere_J60 f (FX10_wordHere_L19 f kf (Int32.ofNat w) n) kf (Int32.ofNat k) (ev_ch (Int32.ofNat (w * 6 + k))) b m = kf (Int32.ofNat (mtN (wc1 β s N w) (j + 1) k)) m := by
      intro b hb
      unfold FX10_wordHere_J60 mtN
      rw [s_1]
      by_cases z : wc1 β s N w k = true
      · rw [if_pos z, if_pos (by have := z; unfold wc1 wch at this; rw [decide_eq_true_iff] at this; rw [hb]; exact this)]
        exact ih (k + 1) n (by omega) (by omega)
      · rw [if_neg z, if_neg (by have := z; unfold wc1 wch at this; rw [decide_eq_true_iff] at this; rw [hb]; exact this)]
    by_cases z : N ≤ k
    · rw [if_pos ((n_le (by omega) (by omega)).mpr z)]
      exact step 32 (by rw [if_neg (by omega)])
    · rw [if_neg (fun q => z ((n_le (by omega) (by omega)).mp q)), hs, n_add, if_pos ((n_in (by omega)).mpr (by omega)), n_nat (by omega), b3 _ (by omega)]
      exact step _ (by rw [if_pos (by omega)])
theorem c_rwW {f E s N : Nat} {β : Nat → Int32} {m : ev_M} (hf : 20 ≤ f) (hB : TB0 β E m) (hs : m.1 13 2 = Int32.ofNat s) (hN : m.1 13 6 = Int32.ofNat N) (hsN : s + N ≤ E) : ∀ (j w n : Nat), w + j = 29 → j < n → FX10_wordHere_L2 f (fun m3 => some ((-1), m3)) n (Int32.ofNat w) m = some (oi (if N ≤ 6 then idx (wm β s N) j w else none), m) := by
  have e29 : (29 : Int32) = Int32.ofNat 29 := rfl
  have e6 : (6 : Int32) = Int32.ofNat 6 := rfl
  have hE := hB.1
  intro j
  induction j with
  | zero =>
    intro w n h1 h2
    obtain ⟨n, rfl⟩ : ∃ z, n = z + 1 := ⟨n - 1, by omega⟩
    rw [FX10_wordHere_L2, if_pos (by rw [e29, n_le (by omega) (by omega)]; omega)]
    split <;> rfl
  | succ j ih =>
    intro w n h1 h2
    obtain ⟨n, rfl⟩ : ∃ z, n = z + 1 := ⟨n - 1, by omega⟩
    rw [FX10_wordHere_L2, if_neg (fun q => by rw [e29, n_le (by omega) (by omega)] at q; omega), hN]
    by_cases z : 6 < N
    · rw [if_pos (by rw [e6, n_lt (by omega) (by omega)]; exact z), if_neg (by omega)]
      rfl
    rw [if_neg (fun q => by rw [e6, n_lt (by omega) (by omega)] at q; omega), if_pos (by omega)]
    have r := @c_rwM f E s N w β m (fun e1 m2 => (FX10_wordHere_J69 f (FX10_wordHere_L2 f (fun m3 => some ((-1), m3)) n) (Int32.ofNat w) e1 m2)) hB hs hN hsN (by omega) 6 0 f (by omega) (by omega)
    rw [z0] at r
    rw [r]
    have hm := @mt_all (wc1 β s N w) 6 0 rfl
    rw [Nat.zero_add] at hm
    unfold FX10_wordHere_J69 idx
    rw [s_1]
    by_cases y : wm β s N w = true
    · rw [hm.1.mpr y, if_pos (show Int32.ofNat 6 = 6 from rfl), if_pos y]
      rfl
    · have hne : mtN (wc1 β s N w) 6 0 ≠ 6 := fun q => y (hm.1.mp q)
      rw [if_neg (by rw [e6]; exact fun q => hne ((n_eq (by omega) (by omega)).mp q)), if_neg y]
      have := ih (w + 1) n (by omega) (by omega)
      rw [if_pos (by omega)] at this
      exact this
theorem c_word {f E s N : Nat} {β : Nat → Int32} {m : ev_M} (hf : 4000 ≤ f) (hB : TB0 β E m) (hs : m.1 13 2 = Int32.ofNat s) (hN : m.1 13 6 = Int32.ofNat N) (hsN : s + N ≤ E) : FX10_wordHere f m = some (oi (wv β s N), m) := by
  have r := c_rwW (f := f) (by omega) hB hs hN hsN 29 0 f (by omega) (by omega)
  rw [z0] at r
  exact r
theorem c_rnL {f E s N : Nat} {β : Nat → Int32} {m : ev_M} (hB : TB0 β E m) (hs : m.1 13 2 = Int32.ofNat s) (hN : m.1 13 6 = Int32.ofNat N) (hsN : s + N ≤ E) : ∀ (j k n : Nat), k + j = min N 4 → j < n → FX10_numberHere_L4 f (fun e1 m2 => some (e1, m2)) n (dvN β s k) (Int32.ofNat k) m = some (dvN β s (min N 4), m) := by
  obtain ⟨b1, b2, b3⟩ := hB
  have e4 : (4 : Int32) = Int32.ofNat 4 := rfl
  intro j
  induction j with
  | zero =>
    intro k n h1 h2
    obtain ⟨n, rfl⟩ : ∃ z, n = z + 1 := ⟨n - 1, by omega⟩
    rw [FX10_numberHere_L4, hN]
    by_cases z : N ≤ k
    · rw [if_pos ((n_le (by omega) (by omega)).mpr z), ← h1]
      rfl
    · rw [if_neg (fun q => z ((n_le (by omega) (by omega)).mp q)), if_pos (by rw [e4, n_le (by omega) (by omega)]; omega), ← h1]
      rfl
  | succ j ih =>
    intro k n h1 h2
    obtain ⟨n, rfl⟩ : ∃ z, n = z + 1 := ⟨n - 1, by omega⟩
    rw [FX10_numberHere_L4, hN, if_neg (fun q => by rw [n_le (by omega) (by omega)] at q; omega), if_neg (fun q => by rw [e4, n_le (by omega) (by omega)] at q; omega), hs, n_add, if_pos ((n_in (by omega)).mpr (by omega)), n_nat (by omega), b3 _ (by omega), s_1]
    exact ih (k + 1) n (by omega) (by omega)
theorem c_num {f E s N : Nat} {β : Nat → Int32} {m : ev_M} (hf : 4000 ≤ f) (hB : TB0 β E m) (hs : m.1 13 2 = Int32.ofNat s) (hN : m.1 13 6 = Int32.ofNat N) (hsN : s + N ≤ E) : FX10_numberHere f m = some (dvN β s (min N 4), m) := by
  have r := c_rnL (f := f) hB hs hN hsN (min N 4) 0 f (by omega) (by omega)
  rw [z0] at r
  exact r
