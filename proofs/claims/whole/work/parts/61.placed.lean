/-! placed -/
def swS (a b : Nat) (S : sp_S) : sp_S := (S.1, S.2.1, sp_up (sp_up S.2.2.1 a (S.2.2.1 b)) b (S.2.2.1 a), sp_up (sp_up S.2.2.2.1 a (S.2.2.2.1 b)) b (S.2.2.2.1 a), S.2.2.2.2)
theorem swS_rg {a b : Nat} {S : sp_S} (ha : a < 8) (hb : b < 8) (h : sp_rg S) : sp_rg (swS a b S) := by
  obtain ⟨h1, h2, h3⟩ := h
  refine ⟨h1, h2, fun i hi => ⟨?_, ?_, (h3 i hi).2.2⟩⟩
  · show g9 (sp_up (sp_up S.2.2.1 a (S.2.2.1 b)) b (S.2.2.1 a) i)
    unfold sp_up
    split
    · exact (h3 a ha).1
    · split
      · exact (h3 b hb).1
      · exact (h3 i hi).1
  · show g9 (sp_up (sp_up S.2.2.2.1 a (S.2.2.2.1 b)) b (S.2.2.2.1 a) i)
    unfold sp_up
    split
    · exact (h3 a ha).2.1
    · split
      · exact (h3 b hb).2.1
      · exact (h3 i hi).2.1
theorem c_swap {f o a b : Nat} {m : ev_M} {S : sp_S} (ha : a < 8) (hb : b < 8) (hS : CS m o S) : ∃ m', FX8_swap f o (Int32.ofNat a) (Int32.ofNat b) m = some ((), m') ∧ CS m' o (swS a b S) ∧ m'.2 = m.2 ∧ (∀ q, m'.1 o q = m.1 o q) ∧ (∀ p q, p ≠ o + 1 → p ≠ o + 2 → m'.1 p q = m.1 p q) := by
  have ia : ev_in (Int32.ofNat a) 8 := (n_in (by omega)).mpr ha
  have ib : ev_in (Int32.ofNat b) 8 := (n_in (by omega)).mpr hb
  unfold FX8_swap
  rw [if_pos ia, if_pos ia, if_pos ib, if_pos ia, if_pos ib, if_pos ia, if_pos ib, if_pos ib, n_nat (by omega), n_nat (by omega), up_na _ _ _ _ (show o + 2 ≠ o + 1 by omega)]
  refine ⟨_, rfl, ⟨?_, ?_, fun i hi => ⟨?_, ?_, ?_⟩⟩, rfl, ?_, ?_⟩
  · rw [upI_na _ _ _ _ (by omega), ev_up_ne _ _ _ (by omega), ev_up_ne _ _ _ (by omega), ev_up_ne _ _ _ (by omega)]; exact hS.1
  · rw [upI_na _ _ _ _ (by omega), ev_up_ne _ _ _ (by omega), ev_up_ne _ _ _ (by omega), ev_up_ne _ _ _ (by omega)]; exact hS.2.1
  · rw [upI_na _ _ _ _ (by omega), ev_up_at, ev_up_ne _ _ _ (show o + 1 ≠ o + 2 by omega), ev_up_at]
    show (if i = b then m.1 (o + 1) a else if i = a then m.1 (o + 1) b else m.1 (o + 1) i) = sp_up (sp_up S.2.2.1 a (S.2.2.1 b)) b (S.2.2.1 a) i
    rw [(hS.2.2 a ha).1, (hS.2.2 b hb).1, (hS.2.2 i hi).1]
    rfl
  · show ev_up _ (o + 2) b _ (o + 2) i = sp_up (sp_up S.2.2.2.1 a (S.2.2.2.1 b)) b (S.2.2.2.1 a) i
    rw [ev_up_at, ev_up_ne _ _ _ (show o + 2 ≠ o + 1 by omega), ev_up_at, ev_up_ne _ _ _ (show o + 2 ≠ o + 1 by omega), (hS.2.2 a ha).2.1, (hS.2.2 b hb).2.1, (hS.2.2 i hi).2.1]
    rfl
  · rw [upI_na _ _ _ _ (by omega), ev_up_ne _ _ _ (by omega), ev_up_ne _ _ _ (by omega), ev_up_ne _ _ _ (by omega)]; exact (hS.2.2 i hi).2.2
  · intro q; rw [upI_na _ _ _ _ (by omega), ev_up_ne _ _ _ (by omega), ev_up_ne _ _ _ (by omega), ev_up_ne _ _ _ (by omega)]
  · intro p q z1 z2; rw [upI_na _ _ _ _ z2, ev_up_ne _ _ _ z1, ev_up_ne _ _ _ z2, ev_up_ne _ _ _ z1]
def vP (K : sp_K) (w : Int32) (S : sp_S) (N a b : Nat) : Int32 := Int32.ofNat (dc K w 0 (swS a b S) N)
def plI (V : Nat → Nat → Int32) (a : Nat) : Nat → Nat → Int32 × Int32 × Int32 → Int32 × Int32 × Int32
  | 0, _, x => x
  | j + 1, b, x => plI V a j (b + 1) (if V a b < x.1 then (V a b, Int32.ofNat a, Int32.ofNat b) else x)
def plO (V : Nat → Nat → Int32) (T : Nat) : Nat → Nat → Int32 × Int32 × Int32 → Int32 × Int32 × Int32
  | 0, _, x => x
  | j + 1, a, x => plO V T j (a + 1) (plI V a (T - (a + 1)) (a + 1) x)
theorem c_plI {f c k N a : Nat} {K : sp_K} {w : Int32} {m0 : ev_M} {S : sp_S} {kf : ev_M → Option (Unit × ev_M)} (hf : 1700 ≤ f) (hX : CX c K w k m0) (hS : CS m0 103 S) (hr : sp_rg S) (h9 : S.1.toInt ≤ 999) (hN : S.1.toInt + N ≤ 999) (hN2 : N ≤ 100) (ha : a < 8) : ∀ (j t n : Nat) (m : ev_M) (x : Int32 × Int32 × Int32), t + j = K.1 → j < n → frP relC m0 m → W29 m x → ∃ m', FX0_seekPlaces_L35 f kf 103 (Int32.ofNat N) (Int32.ofNat a) n (Int32.ofNat t) m = kf m' ∧ frP relC m0 m' ∧ W29 m' (plI (vP K w S N) a j t x) := by
  have hT := hX.2.2.2.1.2.1
  intro j
  induction j with
  | zero =>
    intro t n m x h1 h2 q1 q2
    obtain ⟨n, rfl⟩ : ∃ z, n = z + 1 := ⟨n - 1, by omega⟩
    rw [FX0_seekPlaces_L35, c_towers (CX_fr q1 hX), bd_some, if_pos ((n_le (by omega) (by omega)).mpr (by omega))]
    exact ⟨m, rfl, q1, q2⟩
  | succ j ih =>
    intro t n m x h1 h2 q1 q2
    obtain ⟨n, rfl⟩ : ∃ z, n = z + 1 := ⟨n - 1, by omega⟩
    obtain ⟨m1, r1, r2, r3, r4, r5⟩ := @c_trial4 f 30 m0 m S (by omega) (by unfold okT; omega) (by decide) q1 hS
    obtain ⟨m2, s1, s2, s3, s4, s5⟩ := @c_swap f 30 a t m1 S ha (by omega) r3
    have fr2 : frP relC m0 m2 := r2.trans (fun p i z => ⟨s5 p i (by unfold relC at z; omega) (by unfold relC at z; omega), by rw [s3]⟩)
    obtain ⟨m3, t1, t2⟩ := @c_try f c k N K w m0 m2 (swS a t S) hf hX (swS_rg ha (by omega) hr) h9 hN hN2 fr2 s2
    have w3 : W29 m3 x := by
      have md := MDX0_tryRounds t1
      have e : ∀ q, m3.1 29 q = m.1 29 q := fun q => by
        rw [(md 29 q (by unfold mdX0_tryRounds; omega)).1, s5 29 q (by decide) (by decide)]; exact r5 q
      exact ⟨(e 4).trans q2.1, (e 2).trans q2.2.1, (e 3).trans q2.2.2⟩
    obtain ⟨m4, u1, u2, u3⟩ := @c_weigh f (vP K w S N a t) (Int32.ofNat a) (Int32.ofNat t) m0 m3 x t2 w3
    have t1' : FX0_tryRounds f (Int32.ofNat N) m2 = some (vP K w S N a t, m3) := t1
    rw [FX0_seekPlaces_L35, c_towers (CX_fr q1 hX), bd_some, if_neg (fun z => by rw [n_le (by omega) (by omega)] at z; omega), r1, bd_some, s1, bd_some, t1', bd_some, u1, bd_some, s_1]
    exact ih (t + 1) n m4 _ (by omega) (by omega) u2 u3
theorem c_plO {f c k N : Nat} {K : sp_K} {w : Int32} {m0 : ev_M} {S : sp_S} (hf : 1700 ≤ f) (hX : CX c K w k m0) (hS : CS m0 103 S) (hr : sp_rg S) (h9 : S.1.toInt ≤ 999) (hN : S.1.toInt + N ≤ 999) (hN2 : N ≤ 100) : ∀ (j t n : Nat) (m : ev_M) (x : Int32 × Int32 × Int32), t + j = K.1 → j < n → frP relC m0 m → W29 m x → ∃ m', FX0_seekPlaces_L19 f (fun m20 => some ((), m20)) 103 (Int32.ofNat N) n (Int32.ofNat t) m = some ((), m') ∧ frP relC m0 m' ∧ W29 m' (plO (vP K w S N) K.1 j t x) := by
  have hT := hX.2.2.2.1.2.1
  intro j
  induction j with
  | zero =>
    intro t n m x h1 h2 q1 q2
    obtain ⟨n, rfl⟩ : ∃ z, n = z + 1 := ⟨n - 1, by omega⟩
    rw [FX0_seekPlaces_L19, c_towers (CX_fr q1 hX), bd_some, if_pos ((n_le (by omega) (by omega)).mpr (by omega))]
    exact ⟨m, rfl, q1, q2⟩
  | succ j ih =>
    intro t n m x h1 h2 q1 q2
    obtain ⟨n, rfl⟩ : ∃ z, n = z + 1 := ⟨n - 1, by omega⟩
    obtain ⟨m1, r1, r2, r3⟩ := @c_plI f c k N t K w m0 S (fun m19 => (FX0_seekPlaces_L19 f (fun m20 => some ((), m20)) 103 (Int32.ofNat N) n (Int32.ofNat t + 1) m19)) hf hX hS hr h9 hN hN2 (by omega) (K.1 - (t + 1)) (t + 1) f m x (by omega) (by omega) q1 q2
    rw [FX0_seekPlaces_L19, c_towers (CX_fr q1 hX), bd_some, if_neg (fun z => by rw [n_le (by omega) (by omega)] at z; omega)]
    rw [s_1] at r1 ⊢
    rw [r1]
    exact ih (t + 1) n m1 _ (by omega) (by omega) r2 r3
theorem c_seekPl {f c k N : Nat} {K : sp_K} {w : Int32} {m0 : ev_M} {S : sp_S} (hf : 1700 ≤ f) (hX : CX c K w k m0) (hS : CS m0 103 S) (hr : sp_rg S) (h9 : S.1.toInt ≤ 999) (hN : S.1.toInt + N ≤ 999) (hN2 : N ≤ 100) : ∃ m', FX0_seekPlaces f 103 (Int32.ofNat N) m0 = some ((), m') ∧ frP relC m0 m' ∧ W29 m' (plO (vP K w S N) K.1 K.1 0 (Int32.ofNat (dc K w 0 S N), -1, -1)) := by
  have hT := hX.2.2.2.1.2.1
  obtain ⟨m1, r1, r2, r3⟩ := @c_trial f 30 m0 m0 S (by omega) (by unfold okT; omega) (frP_refl _ _) hS
  obtain ⟨m2, s1, s2⟩ := @c_try f c k N K w m0 m1 S hf hX hr h9 hN hN2 r2 r3
  obtain ⟨m3, t1, t2, t3⟩ := @c_start f (Int32.ofNat (dc K w 0 S N)) m0 m2 s2
  unfold FX0_seekPlaces
  rw [r1, bd_some, s1, bd_some, t1, bd_some]
  exact c_plO hf hX hS hr h9 hN hN2 K.1 0 f m3 _ (by omega) (by omega) t2 t3
/-- the reference changes two -/
def swR (a b : Nat) (g : Nat → Int32) : Nat → Int32 := fun i => if i = 2 + 3 * a then g (2 + 3 * b) else if i = 2 + 3 * b then g (2 + 3 * a) else if i = 2 + 3 * a + 1 then g (2 + 3 * b + 1) else if i = 2 + 3 * b + 1 then g (2 + 3 * a + 1) else g i
theorem r_chg {f a b : Nat} {m : ev_M} (hf : 3 ≤ f) (ha : a < 8) (hb : b < 8) (hab : a ≠ b) : ∃ m', FX12_changes f (Int32.ofNat a) (Int32.ofNat b) m = some ((), m') ∧ m'.2 = m.2 ∧ (∀ p, p ≠ 144 → m'.1 p = m.1 p) ∧ m'.1 144 = swR a b (m.1 144) := by
  obtain ⟨z, rfl⟩ : ∃ z, f = z + 3 := ⟨f - 3, by omega⟩
  have e2 : (2 : Int32) = Int32.ofNat 2 := rfl
  have x0 : ∀ t, (2 : Int32) + 3 * Int32.ofNat t + 0 = Int32.ofNat (2 + 3 * t) := fun t => by rw [ix0, Int32.add_zero]
  unfold FX12_changes
  rw [FX12_changes_L2, if_neg (by decide), x0, x0, if_pos ((n_in (by omega)).mpr (by omega)), if_pos ((n_in (by omega)).mpr (by omega)), if_pos ((n_in (by omega)).mpr (by omega)), if_pos ((n_in (by omega)).mpr (by omega)), n_nat (by omega), n_nat (by omega)]
  rw [show (0 : Int32) + 1 = 1 by decide, FX12_changes_L2, if_neg (by decide), ix1, ix1, if_pos ((n_in (by omega)).mpr (by omega)), if_pos ((n_in (by omega)).mpr (by omega)), if_pos ((n_in (by omega)).mpr (by omega)), if_pos ((n_in (by omega)).mpr (by omega)), n_nat (by omega), n_nat (by omega)]
  rw [show (1 : Int32) + 1 = 2 by decide, FX12_changes_L2, if_pos (by decide)]
  refine ⟨_, rfl, rfl, fun p hp => ?_, ?_⟩
  · rw [upI_na _ _ _ _ hp, ev_up_ne _ _ _ hp, upI_na _ _ _ _ hp, ev_up_ne _ _ _ hp]
  · funext i
    show ev_up _ 144 (2 + 3 * b + 1) _ 144 i = _
    simp only [ev_up_at]
    unfold swR
    by_cases e1 : i = 2 + 3 * a
    · rw [if_neg (by omega), if_neg (by omega), if_neg (by omega), if_pos e1, if_pos e1]
    by_cases e2 : i = 2 + 3 * b
    · rw [if_neg (by omega), if_neg (by omega), if_pos e2, if_neg e1, if_pos e2]
    by_cases e3 : i = 2 + 3 * a + 1
    · rw [if_neg (by omega), if_pos e3, if_neg e1, if_neg e2, if_pos e3, if_neg (by omega), if_neg (by omega)]
    by_cases e4 : i = 2 + 3 * b + 1
    · rw [if_pos e4, if_neg e1, if_neg e2, if_neg e3, if_pos e4, if_neg (by omega), if_neg (by omega)]
    rw [if_neg e4, if_neg e3, if_neg e2, if_neg e1, if_neg e1, if_neg e2, if_neg e3, if_neg e4]
theorem RS_sw {T a b : Nat} {S : sp_S} {g : Nat → Int32} (ha : a < T) (hb : b < T) (h : RG g T S) : RG (swR a b g) T (swS a b S) := by
  refine ⟨?_, ?_, fun i hi => ⟨?_, ?_, ?_⟩⟩
  · unfold swR; rw [if_neg (by omega), if_neg (by omega), if_neg (by omega), if_neg (by omega)]; exact h.1
  · unfold swR; rw [if_neg (by omega), if_neg (by omega), if_neg (by omega), if_neg (by omega)]; exact h.2.1
  · show swR a b g (2 + 3 * i) = (if i = b then S.2.2.1 a else if i = a then S.2.2.1 b else S.2.2.1 i)
    unfold swR
    by_cases e1 : i = a
    · rw [if_pos (by omega)]
      by_cases e2 : i = b
      · rw [if_pos e2, (h.2.2 b hb).1, ← e2, e1]
      · rw [if_neg e2, if_pos e1]; exact (h.2.2 b hb).1
    · rw [if_neg (by omega)]
      by_cases e2 : i = b
      · rw [if_pos (by omega), if_pos e2]; exact (h.2.2 a ha).1
      · rw [if_neg (by omega), if_neg (by omega), if_neg (by omega), if_neg e2, if_neg e1]; exact (h.2.2 i hi).1
  · show swR a b g (2 + 3 * i + 1) = (if i = b then S.2.2.2.1 a else if i = a then S.2.2.2.1 b else S.2.2.2.1 i)
    unfold swR
    rw [if_neg (by omega), if_neg (by omega)]
    by_cases e1 : i = a
    · rw [if_pos (by omega)]
      by_cases e2 : i = b
      · rw [if_pos e2, (h.2.2 b hb).2.1, ← e2, e1]
      · rw [if_neg e2, if_pos e1]; exact (h.2.2 b hb).2.1
    · rw [if_neg (by omega)]
      by_cases e2 : i = b
      · rw [if_pos (by omega), if_pos e2]; exact (h.2.2 a ha).2.1
      · rw [if_neg (by omega), if_neg e2, if_neg e1]; exact (h.2.2 i hi).2.1
  · unfold swR; rw [if_neg (by omega), if_neg (by omega), if_neg (by omega), if_neg (by omega)]; exact (h.2.2 i hi).2.2
theorem swR_hi {a b i : Nat} {g : Nat → Int32} (ha : a < 8) (hb : b < 8) (hi : 26 ≤ i) : swR a b g i = g i := by
  unfold swR; rw [if_neg (by omega), if_neg (by omega), if_neg (by omega), if_neg (by omega)]
theorem RI_sw {K : sp_K} {S : sp_S} {sg : Int32} {a b : Nat} {m0 m m' : ev_M} (hT : K.1 ≤ 8) (ha : a < K.1) (hb : b < K.1) (h : RI K S sg m0 m) (h2 : m'.2 = m.2) (hp : ∀ p, p ≠ 144 → m'.1 p = m.1 p) (h144 : m'.1 144 = swR a b (m.1 144)) : RI K (swS a b S) sg m0 m' := by
  obtain ⟨a1, a2, a3, a4, a5⟩ := h
  obtain ⟨b1, b2, b3, b4, b5⟩ := a1
  refine ⟨⟨fun p i z => ?_, fun i => by rw [h2]; exact b2 i, by rw [h2]; exact b3, fun i hi => by rw [hp 145 (by decide)]; exact b4 i hi, by rw [hp 112 (by decide)]; exact b5⟩, ?_, by rw [hp 112 (by decide)]; exact a3, by rw [hp 112 (by decide)]; exact a4, by rw [hp 112 (by decide)]; exact a5⟩
  · by_cases e : p = 144
    · subst e; rw [h144, swR_hi (by omega) (by omega) (by omega)]; exact b1 _ _ z
    · rw [hp p e]; exact b1 _ _ z
  · have : RG (m'.1 144) K.1 (swS a b S) := by rw [h144]; exact RS_sw ha hb a2
    exact this
theorem r_plI {f k q N a : Nat} {K : sp_K} {w : Int32} {m0 : ev_M} {S : sp_S} {kf : Int32 → Int32 → Int32 → ev_M → Option (Int32 × ev_M)} (hf : 1700 ≤ f) (hX : RX K w k q m0) (h0 : RS m0 K.1 S) (hr : sp_rg S) (h9 : S.1.toInt ≤ 999) (hN : 1 ≤ N) (hN2 : N ≤ 100) (ha : a < K.1) : ∀ (j t n : Nat) (m : ev_M) (x : Int32 × Int32 × Int32), t + j = K.1 → a < t → j < n → RI K S 0 m0 m → ∃ m', FX12_placed_L59 f kf (Int32.ofNat N) (Int32.ofNat a) n x.1 x.2.1 x.2.2 (Int32.ofNat t) m = kf (plI (vP K w S N) a j t x).1 (plI (vP K w S N) a j t x).2.1 (plI (vP K w S N) a j t x).2.2 m' ∧ RI K S 0 m0 m' := by
  have hT := hX.1.1
  intro j
  induction j with
  | zero =>
    intro t n m x h1 h3 h2 q1
    obtain ⟨n, rfl⟩ : ∃ z, n = z + 1 := ⟨n - 1, by omega⟩
    rw [FX12_placed_L59, r_tm (RI_36 hX q1), bd_some, if_pos ((n_le (by omega) (by omega)).mpr (by omega))]
    exact ⟨m, rfl, q1⟩
  | succ j ih =>
    intro t n m x h1 h3 h2 q1
    obtain ⟨n, rfl⟩ : ∃ z, n = z + 1 := ⟨n - 1, by omega⟩
    obtain ⟨m1, r1, r2, r3, r4⟩ := @r_chg f a t m (by omega) (by omega) (by omega) (by omega)
    obtain ⟨m2, s1, s2⟩ := @r_dIn f k q N K w 0 m0 m1 (swS a t S) S hf hX h0 (swS_rg (by omega) (by omega) hr) h9 hN hN2 (RI_sw hT ha (by omega) q1 r2 r3 r4)
    have s1' : FX12_doubtsIn f (Int32.ofNat N) m1 = some (vP K w S N a t, m2) := s1
    rw [FX12_placed_L59, r_tm (RI_36 hX q1), bd_some, if_neg (fun z => by rw [n_le (by omega) (by omega)] at z; omega), r1, bd_some, s1', bd_some]
    unfold FX12_placed_J103 plI
    rw [s_1]
    by_cases e : vP K w S N a t < x.1
    · rw [if_pos e, if_pos e]
      exact ih (t + 1) n m2 (vP K w S N a t, Int32.ofNat a, Int32.ofNat t) (by omega) (by omega) (by omega) s2
    · rw [if_neg e, if_neg e]
      exact ih (t + 1) n m2 x (by omega) (by omega) (by omega) s2
theorem r_plO {f k q N : Nat} {K : sp_K} {w : Int32} {m0 : ev_M} {S : sp_S} {kf : Int32 → Int32 → Int32 → ev_M → Option (Int32 × ev_M)} (hf : 1700 ≤ f) (hX : RX K w k q m0) (h0 : RS m0 K.1 S) (hr : sp_rg S) (h9 : S.1.toInt ≤ 999) (hN : 1 ≤ N) (hN2 : N ≤ 100) : ∀ (j t n : Nat) (m : ev_M) (x : Int32 × Int32 × Int32), t + j = K.1 → j < n → RI K S 0 m0 m → ∃ m', FX12_placed_L44 f kf (Int32.ofNat N) n x.1 x.2.1 x.2.2 (Int32.ofNat t) m = kf (plO (vP K w S N) K.1 j t x).1 (plO (vP K w S N) K.1 j t x).2.1 (plO (vP K w S N) K.1 j t x).2.2 m' ∧ RI K S 0 m0 m' := by
  have hT := hX.1.1
  intro j
  induction j with
  | zero =>
    intro t n m x h1 h2 q1
    obtain ⟨n, rfl⟩ : ∃ z, n = z + 1 := ⟨n - 1, by omega⟩
    rw [FX12_placed_L44, r_tm (RI_36 hX q1), bd_some, if_pos ((n_le (by omega) (by omega)).mpr (by omega))]
    exact ⟨m, rfl, q1⟩
  | succ j ih =>
    intro t n m x h1 h2 q1
    obtain ⟨n, rfl⟩ : ∃ z, n = z + 1 := ⟨n - 1, by omega⟩
    obtain ⟨m1, r1, r2⟩ := @r_plI f k q N t K w m0 S (fun e17 e18 e19 m20 => (FX12_placed_L44 f kf (Int32.ofNat N) n e17 e18 e19 (Int32.ofNat t + 1) m20)) hf hX h0 hr h9 hN hN2 (by omega) (K.1 - (t + 1)) (t + 1) f m x (by omega) (by omega) (by omega) q1
    rw [FX12_placed_L44, r_tm (RI_36 hX q1), bd_some, if_neg (fun z => by rw [n_le (by omega) (by omega)] at z; omega)]
    rw [s_1] at r1 ⊢
    rw [r1]
    exact ih (t + 1) n m1 _ (by omega) (by omega) r2
theorem B_placed (f : Nat) (hf : 4000 ≤ f) (b a : Int32) : Both (FX11_placed f b a) (FX12_placed f b a) := Both_m (fun c tb K S kc mc mm h => by
  have hh := h
  obtain ⟨a1, a2, a3, a4, a5, a6, a7, a8, a9, a10, a11, a12⟩ := h
  have k0 := a7
  obtain ⟨k1, k2, k3, k4, k5, k6, k7, krest⟩ := a7
  have j_2 : (2 : Int64).toInt = 2 := rfl
  have e2' : (2 : Int32).toInt = 2 := rfl
  unfold FX11_placed FX12_placed
  cases tb
  · rw [c_t0 k0, bd_some, if_pos rfl, r_ahF (SimW_F hh).2, bd_some, if_pos rfl]
    exact ⟨_, mc, mm, rfl, rfl, frP_refl _ _, fM_refl _⟩
  obtain ⟨w, k, q, x1, x2, x3, x4, x5, x6, x7, x8, x9⟩ := SimW_T hh
  rw [c_t1 k0, bd_some, if_neg n10]
  by_cases h3 : 1 ≤ b.toInt ∧ b.toInt ≤ 30 ∧ S.1.toInt + b.toInt ≤ 999
  rotate_left
  · rw [c_can0 (l := 1) (h := 30) rfl rfl x3.1 (by omega) (by omega) x5.1.1 x6 h3, bd_some, if_pos rfl, r_ah0 (l := 1) (h := 30) rfl rfl x4.1 x9 (by omega) (by omega) x5.1.1 x6 h3, bd_some, if_pos rfl]
    exact ⟨_, mc, mm, rfl, rfl, frP_refl _ _, fM_refl _⟩
  rw [c_can1 (l := 1) (h := 30) rfl rfl x3.1 (by omega) (by omega) x5.1.1 x6 h3, bd_some, if_neg n10, r_ah1 (l := 1) (h := 30) rfl rfl x4.1 x9 (by omega) (by omega) x5.1.1 x6 h3, bd_some, if_neg n10]
  obtain ⟨N, rfl, n3, n4⟩ := n_ex (a := b) (by omega)
  by_cases h1 : a < 0
  · rw [if_pos h1]
    rw [i_lt, e0'] at h1
    rw [r_in0 (by rw [j_wide, j_0, j_2]; omega), bd_some, if_pos rfl]
    exact ⟨_, mc, mm, rfl, rfl, frP_refl _ _, fM_refl _⟩
  rw [if_neg h1]
  rw [i_lt, e0'] at h1
  by_cases h2 : a ≤ 2
  rotate_left
  · rw [if_neg h2]
    rw [i_le, e2'] at h2
    rw [r_in0 (by rw [j_wide, j_0, j_2]; omega), bd_some, if_pos rfl]
    exact ⟨_, mc, mm, rfl, rfl, frP_refl _ _, fM_refl _⟩
  rw [if_pos h2]
  rw [i_le, e2'] at h2
  rw [r_in1 (by rw [j_wide, j_0, j_2]; omega), bd_some, if_neg n10]
  obtain ⟨mc', c1, c2, c3⟩ := @c_seekPl f c k N K w mc S (by omega) x1 x3 x5 x6 (by omega) (by omega)
  obtain ⟨m2, t1, t2, t3, t4, t5, t6⟩ := @r_aside f K.1 mm S (by omega) x4
  obtain ⟨m3, u1, u2⟩ := @r_dIn f k q N K w 0 mm m2 S S (by omega) x2 x4 x5 x6 (by omega) (by omega) ⟨t2, t3, by rw [t4]; exact x7, t5, t6⟩
  obtain ⟨m4, v1, v2⟩ := @r_plO f k q N K w mm S (fun e21 e22 e23 m24 => (ev_bd (FX12_takesBack f m24) (fun _ m26 => (if e22 = (-1) then some ((-1), m26) else (if a = 0 then some (e22, m26) else (if a = 1 then some (e23, m26) else some (e21, m26))))))) (by omega) x2 x4 x5 x6 (by omega) (by omega) K.1 0 f m3 (Int32.ofNat (dc K w 0 S N), -1, -1) (by omega) (by omega) u2
  obtain ⟨m5, z1, z2, z3⟩ := @r_back f K.1 mm m4 S (by omega) x2.1.1 v2.1 x4 (by rw [v2.2.2.1, x7]) x8
  have v1' : FX12_placed_L44 f (fun e21 e22 e23 m24 => (ev_bd (FX12_takesBack f m24) (fun _ m26 => (if e22 = (-1) then some ((-1), m26) else (if a = 0 then some (e22, m26) else (if a = 1 then some (e23, m26) else some (e21, m26))))))) (Int32.ofNat N) f (Int32.ofNat (dc K w 0 S N)) (-1) (-1) 0 m3 = _ := v1
  rw [c1, bd_some, t1, bd_some, u1, bd_some, v1', z1, bd_some, c3.2.1, c3.1, c3.2.2]
  generalize plO (vP K w S N) K.1 K.1 0 (Int32.ofNat (dc K w 0 S N), -1, -1) = X
  by_cases e : X.2.1 = -1
  · rw [if_pos e, if_pos e]; exact ⟨_, mc', m5, rfl, rfl, c2, z2⟩
  · rw [if_neg e, if_neg e]
    by_cases e2 : a = 0
    · rw [if_neg (show ¬ a = 2 by rw [e2]; decide), if_pos e2, if_pos e2]; exact ⟨_, mc', m5, rfl, rfl, c2, z2⟩
    · rw [if_neg e2, if_neg e2]
      by_cases e3 : a = 1
      · rw [if_neg (show ¬ a = 2 by rw [e3]; decide), if_pos e3]; exact ⟨_, mc', m5, rfl, rfl, c2, z2⟩
      · have e4 : a = 2 := by
          rw [i_eq] at e2 e3 ⊢
          rw [e0'] at e2
          rw [e1'] at e3
          rw [e2']
          omega
        rw [if_pos e4, if_neg e3]; exact ⟨_, mc', m5, rfl, rfl, c2, z2⟩)
