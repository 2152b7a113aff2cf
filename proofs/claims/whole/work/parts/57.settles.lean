/-! settles -/
def ft (l : Int32) (g : Nat → Int32) : Nat → Int
  | 0 => l.toInt
  | t + 1 => ft l g t * 10 + (g t).toInt
theorem p10 {t : Nat} (h : t ≤ 8) : (10 : Int) ^ (t + 1) ≤ 1000000000 := by
  have cs : t = 0 ∨ t = 1 ∨ t = 2 ∨ t = 3 ∨ t = 4 ∨ t = 5 ∨ t = 6 ∨ t = 7 ∨ t = 8 := by omega
  rcases cs with q | q | q | q | q | q | q | q | q <;> subst q <;> decide
theorem ft_rng {l : Int32} {g : Nat → Int32} {T : Nat} (hl : g9 l) (hg : ∀ t, t < T → g9 (g t)) : ∀ t, t ≤ T → 0 ≤ ft l g t ∧ ft l g t < 10 ^ (t + 1) := by
  intro t
  induction t with
  | zero => intro _; unfold ft; unfold g9 at hl; omega
  | succ t ih =>
    intro ht
    have i1 := ih (by omega)
    have i2 := hg t (by omega)
    unfold g9 at i2
    unfold ft
    rw [Int.pow_succ]
    omega
theorem ft_inj {l l' : Int32} {g g' : Nat → Int32} {T : Nat} (hg : ∀ t, t < T → g9 (g t)) (hg' : ∀ t, t < T → g9 (g' t)) : ∀ t, t ≤ T → (ft l g t = ft l' g' t ↔ l = l' ∧ ∀ i, i < t → g i = g' i) := by
  intro t
  induction t with
  | zero =>
    intro _
    unfold ft
    rw [i_eq]
    exact ⟨fun q => ⟨q, fun i hi => by omega⟩, fun q => q.1⟩
  | succ t ih =>
    intro ht
    have i1 := ih (by omega)
    have i2 := hg t (by omega)
    have i3 := hg' t (by omega)
    unfold g9 at i2 i3
    unfold ft
    constructor
    · intro q
      have q1 : ft l g t = ft l' g' t := by omega
      have q2 : (g t).toInt = (g' t).toInt := by omega
      obtain ⟨z1, z2⟩ := i1.mp q1
      refine ⟨z1, fun i hi => ?_⟩
      by_cases e : i = t
      · subst e; exact i_eq.mpr q2
      · exact z2 i (by omega)
    · rintro ⟨z1, z2⟩
      rw [i1.mpr ⟨z1, fun i hi => z2 i (by omega)⟩, z2 t (by omega)]
theorem c_feature {f o T : Nat} {m : ev_M} {S : sp_S} (hf : 9 ≤ f) (hT : T ≤ 8) (hS : CS m o S) (hr : sp_rg S) : ∃ r : Int64, FX8_feature f o (Int32.ofNat T) m = some (r, m) ∧ r.toInt = ft S.2.1 S.2.2.1 T := by
  have e8 : (8 : Int32) = Int32.ofNat 8 := rfl
  have e10 : (10 : Int64).toInt = 10 := rfl
  have hg : ∀ t, t < 8 → g9 (S.2.2.1 t) := fun t ht => (hr.2.2 t ht).1
  have L : ∀ (j t n : Nat) (v : Int64), t + j = T → j < n → v.toInt = ft S.2.1 S.2.2.1 t → ∃ r : Int64, FX8_feature_L9 f (fun e1 m2 => some (e1, m2)) o (Int32.ofNat T) n v (Int32.ofNat t) m = some (r, m) ∧ r.toInt = ft S.2.1 S.2.2.1 T := by
    intro j
    induction j with
    | zero =>
      intro t n v h1 h2 h3
      obtain ⟨n, rfl⟩ : ∃ z, n = z + 1 := ⟨n - 1, by omega⟩
      have : t = T := by omega
      subst this
      rw [FX8_feature_L9, if_pos ((n_le (by omega) (by omega)).mpr (Nat.le_refl _))]
      exact ⟨v, rfl, h3⟩
    | succ j ih =>
      intro t n v h1 h2 h3
      obtain ⟨n, rfl⟩ : ∃ z, n = z + 1 := ⟨n - 1, by omega⟩
      have b1 := ft_rng hr.2.1 hg t (by omega)
      have b2 := p10 (t := t) (by omega)
      have b3 := hg t (by omega)
      unfold g9 at b3
      have e1 : (v * 10).toInt = v.toInt * 10 := by rw [j_mul (by rw [e10]; omega) (by rw [e10]; omega), e10]
      rw [FX8_feature_L9, if_neg (fun z => by rw [n_le (by omega) (by omega)] at z; omega), if_neg (fun z => by rw [e8, n_le (by omega) (by omega)] at z; omega), if_pos ((n_in (by omega)).mpr (by omega)), n_nat (by omega), s_1, (hS.2.2 t (by omega)).1]
      exact ih (t + 1) n _ (by omega) (by omega) (by rw [j_add (by rw [e1, j_wide]; omega) (by rw [e1, j_wide]; omega), e1, j_wide, h3]; rfl)
  unfold FX8_feature
  rw [hS.2.1]
  exact L T 0 f _ (by omega) (by omega) (by rw [j_wide]; rfl)
/-- the first one for which it holds -/
def idx (p : Nat → Bool) : Nat → Nat → Option Nat
  | 0, _ => none
  | j + 1, t => if p t = true then some t else idx p j (t + 1)
theorem idx_lt (p : Nat → Bool) : ∀ j t i, idx p j t = some i → i < t + j := by
  intro j
  induction j with
  | zero => intro t i h; cases h
  | succ j ih =>
    intro t i h
    unfold idx at h
    by_cases q : p t = true
    · rw [if_pos q] at h; cases h; omega
    · rw [if_neg q] at h; have := ih _ _ h; omega
def ftG (K : sp_K) (S : sp_S) (i : Nat) : Int := ft (gos K S i).2.1 (gos K S i).2.2.1 K.1
def eqG (K : sp_K) (S : sp_S) (k i : Nat) : Bool := decide (ftG K S i = ftG K S k)
def setF (E : Nat → Nat → Bool) (rd : Int) : Nat → Nat → Option (Nat × Nat)
  | 0, _ => none
  | j + 1, k => if 999 ≤ rd + ((k - 1 : Nat) : Int) then none else
      match idx (E k) k 0 with
      | none => setF E rd j (k + 1)
      | some i => some (k, i)
theorem c_idx {f k : Nat} {p : Nat → Bool} {m : ev_M} (hf : 100 ≤ f) (hk : k < 61) (hp : ∀ i, i < k → ((m.2 111 i).toInt = (m.2 111 k).toInt ↔ p i = true)) : FX11_indexBelow f (Int32.ofNat k) m = some ((idx p k 0).elim (-1) Int32.ofNat, m) := by
  have L : ∀ (j t n : Nat), t + j = k → j < n → FX11_indexBelow_L2 f (fun m1 => some ((-1), m1)) (Int32.ofNat k) n (Int32.ofNat t) m = some ((idx p j t).elim (-1) Int32.ofNat, m) := by
    intro j
    induction j with
    | zero =>
      intro t n h1 h2
      obtain ⟨n, rfl⟩ : ∃ z, n = z + 1 := ⟨n - 1, by omega⟩
      rw [FX11_indexBelow_L2, if_pos ((n_le (by omega) (by omega)).mpr (by omega))]
      rfl
    | succ j ih =>
      intro t n h1 h2
      obtain ⟨n, rfl⟩ : ∃ z, n = z + 1 := ⟨n - 1, by omega⟩
      rw [FX11_indexBelow_L2, if_neg (fun z => by rw [n_le (by omega) (by omega)] at z; omega), if_pos ((n_in (by omega)).mpr (by omega)), if_pos ((n_in (by omega)).mpr (by omega)), n_nat (by omega), n_nat (by omega), s_1]
      unfold idx
      by_cases q : p t = true
      · rw [if_pos ((lg_eq0 _ _).mpr ((hp t (by omega)).mpr q)), if_pos q]; rfl
      · rw [if_neg (fun z => q ((hp t (by omega)).mp ((lg_eq0 _ _).mp z))), if_neg q]
        exact ih (t + 1) n (by omega) (by omega)
  unfold FX11_indexBelow
  exact L k 0 f (by omega) (by omega)
set_option maxHeartbeats 4000000 in
theorem c_setL {f c k0 : Nat} {K : sp_K} {w : Int32} {m0 : ev_M} {S : sp_S} {kf : Int32 → Int32 → ev_M → Option (Int32 × ev_M)} (hf : 1700 ≤ f) (hX : CX c K w k0 m0) (hr : sp_rg S) (h9 : S.1.toInt ≤ 999) : ∀ (j k n : Nat) (m : ev_M), k + j = 61 → 1 ≤ k → j < n → frP relC m0 m → CS m 106 (gos K S (k - 1)) → (∀ i, i < k → (m.2 111 i).toInt = ftG K S i) →
    ∃ m', FX11_settles_L51 f kf n (Int32.ofNat k) m = (match setF (eqG K S) S.1.toInt j k with | none => some (-1, m') | some (a, b) => kf (Int32.ofNat a) (Int32.ofNat b) m') ∧ frP relC m0 m' := by
  have hT := hX.2.2.2.1.2.1
  have hc := hX.1
  have e60 : (60 : Int32) = Int32.ofNat 60 := rfl
  intro j
  induction j with
  | zero =>
    intro k n m h1 h0 h2 q1 q2 q3
    obtain ⟨n, rfl⟩ : ∃ z, n = z + 1 := ⟨n - 1, by omega⟩
    rw [FX11_settles_L51, if_pos (by rw [e60, n_lt (by omega) (by omega)]; omega)]
    exact ⟨m, rfl, q1⟩
  | succ j ih =>
    intro k n m h1 h0 h2 q1 q2 q3
    obtain ⟨n, rfl⟩ : ∃ z, n = z + 1 := ⟨n - 1, by omega⟩
    have hg := gos_rd (K := K) hr h9 hT (k - 1) (by omega)
    rw [FX11_settles_L51, if_neg (by rw [e60, n_lt (by omega) (by omega)]; omega), c_hasN q2.1, bd_some, hg.2]
    unfold setF
    by_cases z : 999 ≤ S.1.toInt + ((k - 1 : Nat) : Int)
    · rw [if_pos z, if_pos rfl, if_pos z]; exact ⟨m, rfl, q1⟩
    rw [if_neg z, if_neg n10, if_neg z]
    obtain ⟨m1, r1, r2, r3, r4, r5⟩ := @c_goT f 106 c k0 K w 0 m0 m (gos K S (k - 1)) hf (by unfold okT; omega) hX q1 q2 hg.1 (by rw [hg.2]; omega)
    have ek : sp_go K 0 (gos K S (k - 1)) = gos K S k := by
      obtain ⟨k, rfl⟩ : ∃ z, k = z + 1 := ⟨k - 1, by omega⟩
      rfl
    rw [ek] at r3
    obtain ⟨x1, x2, x3, x4, x5⟩ := CX_fr r2 hX
    have hcn : (m1.1 0 0).toNatClampNeg = c := by rw [x2, n_nat (by omega)]
    have hg2 := gos_rd (K := K) hr h9 hT k (by omega)
    obtain ⟨v, v1, v2⟩ := @c_feature f 106 K.1 m1 (gos K S k) (by omega) hT r3 hg2.1
    have md := MDX3_go r1
    have q3' : ∀ i, i < k → (m1.2 111 i).toInt = ftG K S i := fun i hi => by
      rw [(md 111 i (by unfold mdX3_go; omega)).2]; exact q3 i hi
    have u1 : ∀ i, i < k + 1 → (ev_up m1.2 111 k v 111 i).toInt = ftG K S i := by
      intro i hi
      rw [ev_up_at]
      by_cases e : i = k
      · rw [if_pos e, v2, e]; rfl
      · rw [if_neg e]; exact q3' i (by omega)
    have ci := @c_idx f k (eqG K S k) (m1.1, ev_up m1.2 111 k v) (by omega) (by omega) (fun i hi => by
      show (ev_up m1.2 111 k v 111 i).toInt = (ev_up m1.2 111 k v 111 k).toInt ↔ _
      rw [u1 i (by omega), u1 k (by omega)]
      unfold eqG
      rw [decide_eq_true_iff])
    rw [r1, bd_some, hcn, if_pos (isK1 hc), x4.2.2.1, v1, bd_some, if_pos ((n_in (by omega)).mpr (by omega)), n_nat (by omega), ci, bd_some, s_1]
    have fr : frP relC m0 (m1.1, ev_up m1.2 111 k v) := frP_L (by unfold relC; omega) r2
    cases hi : idx (eqG K S k) k 0 with
    | none =>
      rw [if_pos (show (none : Option Nat).elim (-1) Int32.ofNat = -1 from rfl)]
      exact ih (k + 1) n _ (by omega) (by omega) (by omega) fr (by rw [Nat.add_sub_cancel]; exact r3) u1
    | some i =>
      have := idx_lt _ _ _ _ hi
      rw [if_neg (show ¬ (some i).elim (-1) Int32.ofNat = -1 from n_m1 (by omega))]
      exact ⟨_, rfl, fr⟩
theorem r_isW {f T n : Nat} {m : ev_M} {S : sp_S} (hf : 20 ≤ f) (hT : m.1 112 36 = Int32.ofNat T) (h8 : T ≤ 8) (hn : n ≤ 60) (hS : RS m T S) : ∃ m', FX12_isWritten f (Int32.ofNat n) m = some ((), m') ∧ m'.2 = m.2 ∧ (∀ a, a ≠ 147 → m'.1 a = m.1 a) ∧ (∀ i, i < 9 * n → m'.1 147 i = m.1 147 i) ∧ m'.1 147 (9 * n) = S.2.1 ∧ (∀ t, t < T → m'.1 147 (9 * n + 1 + t) = S.2.2.1 t) := by
  have L : ∀ (j t q : Nat) (m1 : ev_M), t + j = T → j < q → m1.2 = m.2 → (∀ a, a ≠ 147 → m1.1 a = m.1 a) → (∀ i, i < 9 * n → m1.1 147 i = m.1 147 i) → m1.1 147 (9 * n) = S.2.1 → (∀ i, i < t → m1.1 147 (9 * n + 1 + i) = S.2.2.1 i) → ∃ m', FX12_isWritten_L17 f (fun m5 => some ((), m5)) (Int32.ofNat n) q (Int32.ofNat t) m1 = some ((), m') ∧ m'.2 = m.2 ∧ (∀ a, a ≠ 147 → m'.1 a = m.1 a) ∧ (∀ i, i < 9 * n → m'.1 147 i = m.1 147 i) ∧ m'.1 147 (9 * n) = S.2.1 ∧ (∀ t, t < T → m'.1 147 (9 * n + 1 + t) = S.2.2.1 t) := by
    intro j
    induction j with
    | zero =>
      intro t q m1 h1 h2 z1 z2 z3 z4 z5
      obtain ⟨q, rfl⟩ : ∃ z, q = z + 1 := ⟨q - 1, by omega⟩
      have : t = T := by omega
      subst this
      rw [FX12_isWritten_L17, r_tm (by rw [z2 112 (by decide)]; exact hT), bd_some, if_pos ((n_le (by omega) (by omega)).mpr (Nat.le_refl _))]
      exact ⟨m1, rfl, z1, z2, z3, z4, z5⟩
    | succ j ih =>
      intro t q m1 h1 h2 z1 z2 z3 z4 z5
      obtain ⟨q, rfl⟩ : ∃ z, q = z + 1 := ⟨q - 1, by omega⟩
      rw [FX12_isWritten_L17, r_tm (by rw [z2 112 (by decide)]; exact hT), bd_some, if_neg (fun z => by rw [n_le (by omega) (by omega)] at z; omega), r_mood (by omega), bd_some, show (9 : Int32) = Int32.ofNat 9 from rfl, n_mul, s_1, n_add, if_pos ((n_in (by omega)).mpr (by omega)), n_nat (by omega), s_1]
      refine ih (t + 1) q _ (by omega) (by omega) z1 (fun a ha => (upI_na _ _ _ _ ha).trans (z2 a ha)) ?_ ?_ ?_
      · intro i hi; rw [upI_nk _ _ _ _ (by omega)]; exact z3 i hi
      · rw [upI_nk _ _ _ _ (by omega)]; exact z4
      · intro i hi
        by_cases e : i = t
        · subst e
          rw [upI_at, z2 144 (by decide)]; exact (hS.2.2 i (by omega)).1
        · rw [upI_nk _ _ _ _ (by omega)]; exact z5 i (by omega)
  unfold FX12_isWritten
  rw [show (9 : Int32) = Int32.ofNat 9 from rfl, n_mul, if_pos ((n_in (by omega)).mpr (by omega)), n_nat (by omega)]
  refine L T 0 f _ (by omega) (by omega) rfl (fun a ha => upI_na _ _ _ _ ha) ?_ ?_ (fun i hi => by omega)
  · intro i hi; rw [upI_nk _ _ _ _ (by omega)]
  · rw [upI_at]; exact hS.2.1
theorem r_isAs {f T a b : Nat} {m : ev_M} (hf : 20 ≤ f) (hT : m.1 112 36 = Int32.ofNat T) (h8 : T ≤ 8) (ha : a ≤ 60) (hb : b ≤ 60) : ∃ r : Int32, FX12_isAs f (Int32.ofNat a) (Int32.ofNat b) m = some (r, m) ∧ (r = 0 ∨ r = 1) ∧ (r = 1 ↔ ∀ i, i ≤ T → m.1 147 (9 * a + i) = m.1 147 (9 * b + i)) := by
  have L : ∀ (j t q : Nat), t + j = T + 1 → j < q → ∃ r : Int32, FX12_isAs_L2 f (fun m3 => some (1, m3)) (Int32.ofNat a) (Int32.ofNat b) q (Int32.ofNat t) m = some (r, m) ∧ (r = 0 ∨ r = 1) ∧ (r = 1 ↔ ∀ i, t ≤ i → i ≤ T → m.1 147 (9 * a + i) = m.1 147 (9 * b + i)) := by
    intro j
    induction j with
    | zero =>
      intro t q h1 h2
      obtain ⟨q, rfl⟩ : ∃ z, q = z + 1 := ⟨q - 1, by omega⟩
      rw [FX12_isAs_L2, r_tm hT, bd_some, if_pos ((n_lt (by omega) (by omega)).mpr (by omega))]
      exact ⟨1, rfl, Or.inr rfl, fun _ i h1 h2 => by omega, fun _ => rfl⟩
    | succ j ih =>
      intro t q h1 h2
      obtain ⟨q, rfl⟩ : ∃ z, q = z + 1 := ⟨q - 1, by omega⟩
      rw [FX12_isAs_L2, r_tm hT, bd_some, if_neg (fun z => by rw [n_lt (by omega) (by omega)] at z; omega), show (9 : Int32) = Int32.ofNat 9 from rfl, n_mul, n_mul, n_add, n_add, if_pos ((n_in (by omega)).mpr (by omega)), if_pos ((n_in (by omega)).mpr (by omega)), n_nat (by omega), n_nat (by omega), s_1]
      by_cases e : m.1 147 (9 * a + t) = m.1 147 (9 * b + t)
      · rw [if_pos e]
        obtain ⟨r, r1, r2, r3⟩ := ih (t + 1) q (by omega) (by omega)
        refine ⟨r, r1, r2, r3.trans ⟨fun z i z1 z2 => ?_, fun z i z1 z2 => z i (by omega) z2⟩⟩
        by_cases e2 : i = t
        · rw [e2]; exact e
        · exact z i (by omega) z2
      · rw [if_neg e]
        exact ⟨0, rfl, Or.inl rfl, fun z => absurd z (by decide), fun z => absurd (z t (by omega) (by omega)) e⟩
  unfold FX12_isAs
  obtain ⟨r, r1, r2, r3⟩ := L (T + 1) 0 f (by omega) (by omega)
  exact ⟨r, r1, r2, r3.trans ⟨fun z i z1 => z i (by omega) z1, fun z i _ z1 => z i z1⟩⟩
def WG (K : sp_K) (S : sp_S) (k : Nat) (m : ev_M) : Prop := ∀ i, i < k → m.1 147 (9 * i) = (gos K S i).2.1 ∧ ∀ t, t < K.1 → m.1 147 (9 * i + 1 + t) = (gos K S i).2.2.1 t
theorem r_eqG {f k i : Nat} {K : sp_K} {S : sp_S} {m : ev_M} (hf : 20 ≤ f) (hr : sp_rg S) (h9 : S.1.toInt ≤ 999) (hT : m.1 112 36 = Int32.ofNat K.1) (h8 : K.1 ≤ 8) (hk : k ≤ 60) (hi : i < k) (hW : WG K S (k + 1) m) : FX12_isAs f (Int32.ofNat i) (Int32.ofNat k) m = some (if eqG K S k i = true then 1 else 0, m) := by
  obtain ⟨r, r1, r2, r3⟩ := @r_isAs f K.1 i k m hf hT h8 (by omega) hk
  have g1 := (gos_rd (K := K) hr h9 h8 i (by omega)).1
  have g2 := (gos_rd (K := K) hr h9 h8 k (by omega)).1
  have w1 := hW i (by omega)
  have w2 := hW k (by omega)
  have key : r = 1 ↔ eqG K S k i = true := by
    rw [r3]
    unfold eqG
    rw [decide_eq_true_iff]
    unfold ftG
    rw [ft_inj (T := 8) (fun t ht => (g1.2.2 t ht).1) (fun t ht => (g2.2.2 t ht).1) K.1 h8]
    constructor
    · intro z
      refine ⟨?_, fun t ht => ?_⟩
      · have := z 0 (by omega)
        rw [Nat.add_zero, Nat.add_zero, w1.1, w2.1] at this
        exact this
      · have := z (1 + t) (by omega)
        rw [← Nat.add_assoc, ← Nat.add_assoc, w1.2 t ht, w2.2 t ht] at this
        exact this
    · rintro ⟨z1, z2⟩ t ht
      by_cases e : t = 0
      · subst e; rw [Nat.add_zero, Nat.add_zero, w1.1, w2.1]; exact z1
      · obtain ⟨t, rfl⟩ : ∃ z, t = 1 + z := ⟨t - 1, by omega⟩
        rw [← Nat.add_assoc, ← Nat.add_assoc, w1.2 t (by omega), w2.2 t (by omega)]
        exact z2 t (by omega)
  rw [r1]
  by_cases e : eqG K S k i = true
  · rw [if_pos e, key.mpr e]
  · rw [if_neg e]
    rcases r2 with q | q
    · rw [q]
    · exact absurd (key.mp q) e
theorem r_setI {f k : Nat} {K : sp_K} {S : sp_S} {m : ev_M} {kk : Int32 → Int32 → ev_M → Option (Int32 × ev_M)} (hf : 100 ≤ f) (hr : sp_rg S) (h9 : S.1.toInt ≤ 999) (hT : m.1 112 36 = Int32.ofNat K.1) (h8 : K.1 ≤ 8) (hk : k ≤ 60) (hW : WG K S (k + 1) m) : ∀ (j t n : Nat), t + j = k → j < n → FX12_settles_L72 f kk (Int32.ofNat k) n (-1) (-1) (Int32.ofNat t) m = (match idx (eqG K S k) j t with | none => kk (-1) (-1) m | some i => kk (Int32.ofNat k) (Int32.ofNat i) m) := by
  intro j
  induction j with
  | zero =>
    intro t n h1 h2
    obtain ⟨n, rfl⟩ : ∃ z, n = z + 1 := ⟨n - 1, by omega⟩
    rw [FX12_settles_L72, if_pos ((n_le (by omega) (by omega)).mpr (by omega))]
    rfl
  | succ j ih =>
    intro t n h1 h2
    obtain ⟨n, rfl⟩ : ∃ z, n = z + 1 := ⟨n - 1, by omega⟩
    rw [FX12_settles_L72, if_neg (fun z => by rw [n_le (by omega) (by omega)] at z; omega), if_pos rfl, r_eqG (by omega) hr h9 hT h8 hk (by omega) hW, bd_some]
    unfold idx FX12_settles_J101
    rw [s_1]
    by_cases e : eqG K S k t = true
    · rw [if_pos e, if_neg n10, if_pos e]
      obtain ⟨n, rfl⟩ : ∃ z, n = z + 1 := ⟨n - 1, by omega⟩
      rw [FX12_settles_L72, if_neg (n_m1 (by omega))]
      split <;> rfl
    · rw [if_neg e, if_pos rfl, if_neg e]
      exact ih (t + 1) n (by omega) (by omega)
theorem TR_147 {m0 m m' : ev_M} (h : TR m0 m) (h2 : m'.2 = m.2) (h1 : ∀ a, a ≠ 147 → m'.1 a = m.1 a) : TR m0 m' := by
  obtain ⟨a1, a2, a3, a4, a5⟩ := h
  refine ⟨fun a k z => ?_, fun k => by rw [h2]; exact a2 k, by rw [h2]; exact a3, fun i hi => by rw [h1 145 (by decide)]; exact a4 i hi, by rw [h1 112 (by decide)]; exact a5⟩
  rw [h1 a (by have := z.1; unfold relM at this; omega)]
  exact a1 a k z
set_option maxHeartbeats 4000000 in
theorem r_setL {f k0 q : Nat} {K : sp_K} {w : Int32} {m0 : ev_M} {S : sp_S} {kf : Int32 → Int32 → ev_M → Option (Int32 × ev_M)} (hf : 1700 ≤ f) (hX : RX K w k0 q m0) (hr : sp_rg S) (h9 : S.1.toInt ≤ 999) : ∀ (j k n : Nat) (m : ev_M), k + j = 61 → 1 ≤ k → j < n → TR m0 m → RS m K.1 (gos K S (k - 1)) → m.1 112 53 = 0 → WG K S k m →
    ∃ m', FX12_settles_L35 f kf n (-1) (-1) (Int32.ofNat k) m = (match setF (eqG K S) S.1.toInt j k with | none => kf (-1) (-1) m' | some (a, b) => kf (Int32.ofNat a) (Int32.ofNat b) m') ∧ TR m0 m' ∧ m'.1 112 53 = 0 := by
  have hT := hX.1.1
  have e60 : (60 : Int32) = Int32.ofNat 60 := rfl
  have e9 : (999 : Int32).toInt = 999 := rfl
  intro j
  induction j with
  | zero =>
    intro k n m h1 h0 h2 q1 q2 q3 q4
    obtain ⟨n, rfl⟩ : ∃ z, n = z + 1 := ⟨n - 1, by omega⟩
    rw [FX12_settles_L35, if_pos (by rw [e60, n_lt (by omega) (by omega)]; omega)]
    exact ⟨m, rfl, q1, q3⟩
  | succ j ih =>
    intro k n m h1 h0 h2 q1 q2 q3 q4
    obtain ⟨n, rfl⟩ : ∃ z, n = z + 1 := ⟨n - 1, by omega⟩
    have hg := gos_rd (K := K) hr h9 hT (k - 1) (by omega)
    rw [FX12_settles_L35, if_neg (by rw [e60, n_lt (by omega) (by omega)]; omega), if_pos rfl, q2.1]
    unfold setF
    by_cases z : 999 ≤ S.1.toInt + ((k - 1 : Nat) : Int)
    · rw [if_pos (by rw [i_le, e9, hg.2]; exact z), if_pos z]; exact ⟨m, rfl, q1, q3⟩
    rw [if_neg (by rw [i_le, e9, hg.2]; exact z), if_neg z]
    obtain ⟨m1, r1, r2, r3, r4, r5, r6, r7⟩ := @r_goT f k0 q K m0 m 0 w (gos K S (k - 1)) hf hX q1 q2 hg.1 q3
    have ek : sp_go K 0 (gos K S (k - 1)) = gos K S k := by
      obtain ⟨k, rfl⟩ : ∃ z, k = z + 1 := ⟨k - 1, by omega⟩
      rfl
    rw [ek] at r3
    have hT2 := (RX_TR r2 hX).1.2.1
    obtain ⟨m2, s1, s2, s3, s4, s5, s6⟩ := @r_isW f K.1 k m1 (gos K S k) (by omega) hT2 hT (by omega) r3
    have md := MDX12_roundGoes r1
    have hW : WG K S (k + 1) m2 := by
      intro i hi
      by_cases e : i = k
      · rw [e]; exact ⟨s5, s6⟩
      · have w1 := q4 i (by omega)
        refine ⟨?_, fun t ht => ?_⟩
        · rw [s4 _ (by omega), (md 147 _ (by unfold mdX12_roundGoes; omega)).1]; exact w1.1
        · rw [s4 _ (by omega), (md 147 _ (by unfold mdX12_roundGoes; omega)).1]; exact w1.2 t ht
    have t2 := TR_147 r2 s2 s3
    have h36 : m2.1 112 36 = Int32.ofNat K.1 := by rw [s3 112 (by decide)]; exact hT2
    have h53 : m2.1 112 53 = 0 := by rw [s3 112 (by decide)]; exact r5
    have hS2 : RS m2 K.1 (gos K S k) := by
      refine ⟨?_, ?_, fun t ht => ?_⟩
      · rw [s3 144 (by decide)]; exact r3.1
      · rw [s3 144 (by decide)]; exact r3.2.1
      · rw [s3 144 (by decide)]; exact r3.2.2 t ht
    have si := @r_setI f k K S m2 (fun e13 e14 m15 => (FX12_settles_J107 f (FX12_settles_L35 f kf n) e13 e14 (Int32.ofNat k) m15)) (by omega) hr h9 h36 hT (by omega) hW k 0 f (by omega) (by omega)
    rw [show Int32.ofNat 0 = (0 : Int32) from rfl] at si
    rw [r1, bd_some, s1, bd_some, si]
    cases hi : idx (eqG K S k) k 0 with
    | none =>
      show ∃ m', FX12_settles_J107 f (FX12_settles_L35 f kf n) (-1) (-1) (Int32.ofNat k) m2 = _ ∧ _
      unfold FX12_settles_J107
      rw [s_1]
      exact ih (k + 1) n m2 (by omega) (by omega) (by omega) t2 (by rw [Nat.add_sub_cancel]; exact hS2) h53 hW
    | some i =>
      show ∃ m', FX12_settles_J107 f (FX12_settles_L35 f kf n) (Int32.ofNat k) (Int32.ofNat i) (Int32.ofNat k) m2 = kf (Int32.ofNat k) (Int32.ofNat i) m' ∧ _
      unfold FX12_settles_J107
      rw [s_1]
      obtain ⟨n, rfl⟩ : ∃ z, n = z + 1 := ⟨n - 1, by omega⟩
      refine ⟨m2, ?_, t2, h53⟩
      rw [FX12_settles_L35, if_neg (n_m1 (by omega))]
      split <;> rfl
theorem setF_lt {E : Nat → Nat → Bool} {rd : Int} : ∀ j k a b, setF E rd j k = some (a, b) → a < k + j ∧ b < a := by
  intro j
  induction j with
  | zero => intro k a b h; cases h
  | succ j ih =>
    intro k a b h
    unfold setF at h
    by_cases z : 999 ≤ rd + ((k - 1 : Nat) : Int)
    · rw [if_pos z] at h; cases h
    · rw [if_neg z] at h
      cases hi : idx (E k) k 0 with
      | none => rw [hi] at h; have := ih _ _ _ h; omega
      | some i =>
        rw [hi] at h
        have := idx_lt _ _ _ _ hi
        cases h
        omega
theorem B_settles (f : Nat) (hf : 4000 ≤ f) (a : Int32) : Both (FX11_settles f a) (FX12_settles f a) := Both_m (fun c tb K S kc mc mm h => by
  have hh := h
  obtain ⟨a1, a2, a3, a4, a5, a6, a7, a8, a9, a10, a11, a12⟩ := h
  have k0 := a7
  obtain ⟨k1, k2, k3, k4, k5, k6, k7, krest⟩ := a7
  unfold FX11_settles FX12_settles
  cases tb
  · rw [c_t0 k0, bd_some, if_pos rfl, (SimW_F hh).2, if_pos rfl]
    exact ⟨_, mc, mm, rfl, rfl, frP_refl _ _, fM_refl _⟩
  obtain ⟨w, k, q, x1, x2, x3, x4, x5, x6, x7, x8, x9⟩ := SimW_T hh
  rw [c_t1 k0, bd_some, if_neg n10, x9, if_neg n10]
  by_cases h1 : a < 0
  · rw [if_pos h1]
    rw [i_lt, e0'] at h1
    rw [r_in0 (by rw [j_wide, j_0, j_1]; omega), bd_some, if_pos rfl]
    exact ⟨_, mc, mm, rfl, rfl, frP_refl _ _, fM_refl _⟩
  rw [if_neg h1]
  rw [i_lt, e0'] at h1
  by_cases h2 : a ≤ 1
  rotate_left
  · rw [if_neg h2]
    rw [i_le, e1'] at h2
    rw [r_in0 (by rw [j_wide, j_0, j_1]; omega), bd_some, if_pos rfl]
    exact ⟨_, mc, mm, rfl, rfl, frP_refl _ _, fM_refl _⟩
  rw [if_pos h2]
  rw [i_le, e1'] at h2
  rw [r_in1 (by rw [j_wide, j_0, j_1]; omega), bd_some, if_neg n10]
  obtain ⟨m1, r1, r2, r3⟩ := @c_trial f 106 mc mc S (by omega) (by unfold okT; omega) (frP_refl _ _) x3
  have e00 : m1.1 0 0 = Int32.ofNat c := ((r2 0 0 (by unfold relC; omega)).1).trans k2
  have hcn : (m1.1 0 0).toNatClampNeg = c := by rw [e00, n_nat (by omega)]
  have e05 : m1.1 c 5 = Int32.ofNat K.1 := ((r2 c 5 (by unfold relC; omega)).1).trans k6
  obtain ⟨v, v1, v2⟩ := @c_feature f 106 K.1 m1 S (by omega) k5 r3 x5
  rw [r1, bd_some, hcn, if_pos (isK1 k1), e05, v1, bd_some]
  obtain ⟨mc', s1, s2⟩ := @c_setL f c k K w mc S (fun e17 e18 m19 => (if a = 0 then some (e17, m19) else some ((e17 - e18), m19))) (by omega) x1 x5 x6 60 1 f (m1.1, ev_up m1.2 111 0 v) (by omega) (by omega) (by omega) (frP_L (by unfold relC; omega) r2) r3 (fun i hi => by
    have : i = 0 := by omega
    subst this
    show (ev_up m1.2 111 0 v 111 0).toInt = _
    rw [up_at]; exact v2)
  obtain ⟨m2, t1, t2, t3, t4, t5, t6⟩ := @r_aside f K.1 mm S (by omega) x4
  have hT2 := (RX_TR t2 x2).1.2.1
  obtain ⟨m3, u1, u2, u3, u4, u5, u6⟩ := @r_isW f K.1 0 m2 S (by omega) hT2 k5 (by omega) t3
  have hS3 : RS m3 K.1 S := by
    refine ⟨?_, ?_, fun t ht => ?_⟩
    · rw [u3 144 (by decide)]; exact t3.1
    · rw [u3 144 (by decide)]; exact t3.2.1
    · rw [u3 144 (by decide)]; exact t3.2.2 t ht
  obtain ⟨m4, y1, y2, y3⟩ := @r_setL f k q K w mm S (fun e16 e17 m18 => (FX12_settles_J113 f a e16 e17 m18)) (by omega) x2 x5 x6 60 1 f m3 (by omega) (by omega) (by omega) (TR_147 t2 u2 u3) hS3 (by rw [u3 112 (by decide), t4]; exact x7) (fun i hi => by
    have : i = 0 := by omega
    subst this
    exact ⟨u5, u6⟩)
  obtain ⟨m5, z1, z2, z3⟩ := @r_back f K.1 mm m4 S (by omega) x2.1.1 y2 x4 (by rw [y3, x7]) x8
  rw [t1, bd_some]
  rw [show Int32.ofNat 0 = (0 : Int32) from rfl] at u1
  rw [u1, bd_some]
  rw [show Int32.ofNat 1 = (1 : Int32) from rfl] at s1 y1
  rw [s1, y1]
  cases hs : setF (eqG K S) S.1.toInt 60 1 with
  | none =>
    show ∃ (r : Int32) (mc'' mm' : ev_M), some (-1, mc') = _ ∧ FX12_settles_J113 f a (-1) (-1) m4 = _ ∧ _ ∧ _
    unfold FX12_settles_J113
    rw [z1, bd_some, if_pos rfl]
    exact ⟨_, mc', m5, rfl, rfl, s2, z2⟩
  | some ab =>
    obtain ⟨x, y⟩ := ab
    have hl := setF_lt _ _ _ _ hs
    show ∃ (r : Int32) (mc'' mm' : ev_M), (if a = 0 then some (Int32.ofNat x, mc') else some ((Int32.ofNat x - Int32.ofNat y), mc')) = _ ∧ FX12_settles_J113 f a (Int32.ofNat x) (Int32.ofNat y) m4 = _ ∧ _ ∧ _
    unfold FX12_settles_J113
    rw [z1, bd_some, if_neg (n_m1 (by omega))]
    by_cases e : a = 0
    · rw [if_pos e, if_pos e]; exact ⟨_, mc', m5, rfl, rfl, s2, z2⟩
    · rw [if_neg e, if_neg e]; exact ⟨_, mc', m5, rfl, rfl, s2, z2⟩)
