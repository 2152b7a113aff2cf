/-! tries: a first ROUND with a SIGH, then others -/
def gs (K : sp_K) (sg : Int32) (S : sp_S) : Nat → sp_S
  | 0 => S
  | t + 1 => sp_go K (if t = 0 then sg else 0) (gs K sg S t)
def tnG (K : sp_K) (sg : Int32) (S : sp_S) (t : Nat) : Nat → Int32 := sp_tns K (if t = 0 then sg else 0) (gs K sg S t)
def fc (K : sp_K) (w : Int32) (k : Nat) (sg : Int32) (S : sp_S) : Nat → Nat
  | 0 => 0
  | t + 1 => fc K w k sg S t + (if rowS (dbt w (tnG K sg S t)) K.1 k = -1 then 0 else 1)
def dc (K : sp_K) (w : Int32) (sg : Int32) (S : sp_S) : Nat → Nat
  | 0 => 0
  | t + 1 => dc K w sg S t + cnt (dbt w (tnG K sg S t)) K.1
theorem fc_mono (K : sp_K) (w : Int32) (k : Nat) (sg : Int32) (S : sp_S) (t : Nat) : ∀ j, fc K w k sg S t ≤ fc K w k sg S (t + j) := by
  intro j
  induction j with
  | zero => exact Nat.le_refl _
  | succ j ih =>
    show _ ≤ fc K w k sg S (t + j) + _
    omega
theorem fc_le (K : sp_K) (w : Int32) (k : Nat) (sg : Int32) (S : sp_S) : ∀ t, fc K w k sg S t ≤ t := by
  intro t
  induction t with
  | zero => exact Nat.le_refl _
  | succ t ih => unfold fc; split <;> omega
theorem gs_rd {K : sp_K} {sg : Int32} {S : sp_S} (h : sp_rg S) (h9 : S.1.toInt ≤ 999) (hT : K.1 ≤ 8) : ∀ n, n ≤ 900 → sp_rg (gs K sg S n) ∧ (gs K sg S n).1.toInt = S.1.toInt + n := by
  intro n
  induction n with
  | zero => intro _; exact ⟨h, by unfold gs; omega⟩
  | succ n ih =>
    intro hn
    obtain ⟨i1, i2⟩ := ih (by omega)
    refine ⟨go_rg hT i1 (by omega), ?_⟩
    show ((gs K sg S n).1 + 1).toInt = _
    have := h.1
    rw [i_add (by rw [e1']; omega) (by rw [e1']; omega), e1', i2]
    omega
/-- the class tries -/
theorem c_try {f c k N : Nat} {K : sp_K} {w : Int32} {m0 m : ev_M} {S : sp_S} (hf : 1700 ≤ f) (hX : CX c K w k m0) (hr : sp_rg S) (h9 : S.1.toInt ≤ 999) (hN : S.1.toInt + N ≤ 999) (hN2 : N ≤ 100) (hm : frP relC m0 m) (hS : CS m 30 S) : ∃ m', FX0_tryRounds f (Int32.ofNat N) m = some (Int32.ofNat (dc K w 0 S N), m') ∧ frP relC m0 m' := by
  have hT := hX.2.2.2.1.2.1
  have L : ∀ (j t n : Nat) (m : ev_M), t + j = N → j < n → frP relC m0 m → CS m 30 (gs K 0 S t) → ∃ m', FX0_tryRounds_L4 f (fun e5 m6 => some (e5, m6)) (Int32.ofNat N) n (Int32.ofNat (dc K w 0 S t)) (Int32.ofNat t) m = some (Int32.ofNat (dc K w 0 S N), m') ∧ frP relC m0 m' := by
    intro j
    induction j with
    | zero =>
      intro t n m h1 h2 q1 q2
      obtain ⟨n, rfl⟩ : ∃ z, n = z + 1 := ⟨n - 1, by omega⟩
      have : t = N := by omega
      subst this
      rw [FX0_tryRounds_L4, if_pos ((n_le (by omega) (by omega)).mpr (Nat.le_refl _))]
      exact ⟨m, rfl, q1⟩
    | succ j ih =>
      intro t n m h1 h2 q1 q2
      obtain ⟨n, rfl⟩ : ∃ z, n = z + 1 := ⟨n - 1, by omega⟩
      have hg := gs_rd (K := K) (sg := 0) hr h9 hT t (by omega)
      have e0 : (if t = 0 then (0 : Int32) else 0) = 0 := by split <;> rfl
      obtain ⟨m', r1, r2, r3, r4, r5⟩ := @c_goT f 30 c k K w 0 m0 m (gs K 0 S t) hf (by unfold okT; omega) hX q1 q2 hg.1 (by rw [hg.2]; omega)
      have r3' : CS m' 30 (gs K 0 S (t + 1)) := by unfold gs; rw [e0]; exact r3
      have r5' : m'.1 16 3 = Int32.ofNat (msk (dbt w (tnG K 0 S t)) K.1) := by unfold tnG; rw [e0]; exact r5
      rw [FX0_tryRounds_L4, if_neg (fun z => by rw [n_le (by omega) (by omega)] at z; omega), r1, bd_some, c_dones hT r5', bd_some, n_add, s_1]
      exact ih (t + 1) n m' (by omega) (by omega) r2 r3'
  unfold FX0_tryRounds
  exact L N 0 f m (by omega) (by omega) hm hS
/-- what holds between tries, in the reference -/
def RI (K : sp_K) (S : sp_S) (sg : Int32) (m0 m : ev_M) : Prop := TR m0 m ∧ RS m K.1 S ∧ m.1 112 53 = sg ∧ m.1 112 55 = 0 ∧ m.1 112 56 = 0
theorem r_goesS {f k q N : Nat} {K : sp_K} {w sg : Int32} {m0 m : ev_M} {S : sp_S} (hf : 1700 ≤ f) (hX : RX K w k q m0) (hr : sp_rg S) (h9 : S.1.toInt ≤ 999) (hN2 : N ≤ 100) (hI : RI K S sg m0 m) :
    ∃ m', FX12_roundsGo f (Int32.ofNat N) m = some ((), m') ∧ TR m0 m' ∧ RS m' K.1 (gs K sg S N) ∧ m'.1 112 53 = (if N = 0 then sg else 0) ∧ m'.1 112 55 = Int32.ofNat (fc K w k sg S N) ∧ m'.1 112 56 = Int32.ofNat (dc K w sg S N) := by
  have hT := hX.1.1
  have L : ∀ (j t n : Nat) (m : ev_M), t + j = N → j < n → TR m0 m → RS m K.1 (gs K sg S t) → m.1 112 53 = (if t = 0 then sg else 0) → m.1 112 55 = Int32.ofNat (fc K w k sg S t) → m.1 112 56 = Int32.ofNat (dc K w sg S t) →
      ∃ m', FX12_roundsGo_L2 f (fun m3 => some ((), m3)) (Int32.ofNat N) n (Int32.ofNat t) m = some ((), m') ∧ TR m0 m' ∧ RS m' K.1 (gs K sg S N) ∧ m'.1 112 53 = (if N = 0 then sg else 0) ∧ m'.1 112 55 = Int32.ofNat (fc K w k sg S N) ∧ m'.1 112 56 = Int32.ofNat (dc K w sg S N) := by
    intro j
    induction j with
    | zero =>
      intro t n m h1 h2 q1 q2 q3 q4 q5
      obtain ⟨n, rfl⟩ : ∃ z, n = z + 1 := ⟨n - 1, by omega⟩
      have : t = N := by omega
      subst this
      rw [FX12_roundsGo_L2, if_pos ((n_le (by omega) (by omega)).mpr (Nat.le_refl _))]
      exact ⟨m, rfl, q1, q2, q3, q4, q5⟩
    | succ j ih =>
      intro t n m h1 h2 q1 q2 q3 q4 q5
      obtain ⟨n, rfl⟩ : ∃ z, n = z + 1 := ⟨n - 1, by omega⟩
      have hg := gs_rd (K := K) (sg := sg) hr h9 hT t (by omega)
      obtain ⟨m', r1, r2, r3, r4, r5, r6, r7⟩ := @r_goT f k q K m0 m (if t = 0 then sg else 0) w (gs K sg S t) hf hX q1 q2 hg.1 q3
      rw [FX12_roundsGo_L2, if_neg (fun z => by rw [n_le (by omega) (by omega)] at z; omega), r1, bd_some, s_1]
      refine ih (t + 1) n m' (by omega) (by omega) r2 r3 (by rw [r5, if_neg (by omega)]) ?_ ?_
      · rw [r7, q4]
        show Int32.ofNat (fc K w k sg S t) + (if rowS (dbt w (tnG K sg S t)) K.1 k = -1 then 0 else 1) = Int32.ofNat (fc K w k sg S t + (if rowS (dbt w (tnG K sg S t)) K.1 k = -1 then 0 else 1))
        split
        · exact Int32.add_zero _
        · exact s_1 _
      · rw [r6, q5, n_add]; rfl
  unfold FX12_roundsGo
  obtain ⟨i1, i2, i3, i4, i5⟩ := hI
  exact L N 0 f m (by omega) (by omega) i1 i2 i3 i4 i5
theorem r_dIn {f k q N : Nat} {K : sp_K} {w sg : Int32} {m0 m : ev_M} {S S0 : sp_S} (hf : 1700 ≤ f) (hX : RX K w k q m0) (h0 : RS m0 K.1 S0) (hr : sp_rg S) (h9 : S.1.toInt ≤ 999) (hN : 1 ≤ N) (hN2 : N ≤ 100) (hI : RI K S sg m0 m) :
    ∃ m', FX12_doubtsIn f (Int32.ofNat N) m = some (Int32.ofNat (dc K w sg S N), m') ∧ RI K S0 0 m0 m' := by
  obtain ⟨m1, r1, r2, r3, r4, r5, r6⟩ := @r_goesS f k q N K w sg m0 m S hf hX hr h9 hN2 hI
  obtain ⟨m2, s1, s2, s3, s4, s5, s6, s7, s8⟩ := @r_anew f K.1 m0 m1 S0 (by omega) hX.1.1 r2 h0
  unfold FX12_doubtsIn
  rw [r1, bd_some, s1, bd_some, r6]
  exact ⟨m2, rfl, s2, s3, by rw [s4, r4, if_neg (by omega)], s5, s6⟩
/-! the numbers of sets -/
def bitsP : Nat → Int32 → Int32 → Option Int32
  | 0, _, _ => none
  | n + 1, a, b => if b = 0 then some a else bitsP n (a + 1) (b &&& (b - 1))
theorem bitsP_up : ∀ n a b r, bitsP n a b = some r → ∀ k, bitsP (n + k) a b = some r := by
  intro n
  induction n with
  | zero => intro a b r h; cases h
  | succ n ih =>
    intro a b r h k
    rw [show n + 1 + k = (n + k) + 1 by omega]
    unfold bitsP at h ⊢
    by_cases e : b = 0
    · rw [if_pos e] at h ⊢; exact h
    · rw [if_neg e] at h ⊢; exact ih _ _ _ h k
theorem bitsP_fx {f : Nat} {m : ev_M} : ∀ n a b r, bitsP n a b = some r → FX12_bits_L4 f (fun e1 m2 => some (e1, m2)) n a b m = some (r, m) := by
  intro n
  induction n with
  | zero => intro a b r h; cases h
  | succ n ih =>
    intro a b r h
    unfold bitsP at h
    rw [FX12_bits_L4]
    by_cases e : b = 0
    · rw [if_pos e] at h ⊢; cases h; rfl
    · rw [if_neg e] at h ⊢; exact ih _ _ _ h
def bc (b : Nat) : Nat := cnt b.testBit 8
set_option maxRecDepth 100000 in
theorem bitsP_all : ∀ b, b < 256 → bitsP 9 0 (Int32.ofNat b) = some (Int32.ofNat (bc b)) := by decide +kernel
theorem r_bits {f b : Nat} {m : ev_M} (hf : 9 ≤ f) (hb : b < 256) : FX12_bits f (Int32.ofNat b) m = some (Int32.ofNat (bc b), m) := by
  unfold FX12_bits
  obtain ⟨k, rfl⟩ : ∃ z, f = 9 + z := ⟨f - 9, by omega⟩
  exact bitsP_fx _ _ _ _ (bitsP_up _ _ _ _ (bitsP_all b hb) k)
theorem c_bc {f b : Nat} {m : ev_M} (hb : b < 256) : FJ6_bitCount_0f7a4 f (Int32.ofNat b) m = some (Int32.ofNat (bc b), m) := c_bits (t := 8) (by omega) hb
theorem bc_le (b : Nat) : bc b ≤ 8 := cnt_le _ _
theorem sh1_all : ∀ T, T < 9 → ((1 : Int32) <<< (Int32.ofNat T &&& 31)) = Int32.ofNat (2 ^ T) := by decide +kernel
theorem p2_le {T : Nat} (h : T ≤ 8) : 2 ^ T ≤ 256 := Nat.pow_le_pow_right (by omega) h
theorem c_towers {f c k : Nat} {K : sp_K} {w : Int32} {m : ev_M} (hX : CX c K w k m) : FX3_towers f m = some (Int32.ofNat K.1, m) := by
  obtain ⟨a1, a2, a3, a4, a5, a6, a7, a8⟩ := hX
  have hcn : (m.1 16 2).toNatClampNeg = c := by rw [a3, n_nat (by omega)]
  unfold FX3_towers
  rw [hcn, if_pos (isK1 a1), a4.2.2.1]
/-! the first of all -/
theorem idx_some {p : Nat → Bool} : ∀ j t i, idx p j t = some i → t ≤ i ∧ i < t + j ∧ p i = true ∧ ∀ i', t ≤ i' → i' < i → ¬ p i' = true := by
  intro j
  induction j with
  | zero => intro t i h; cases h
  | succ j ih =>
    intro t i h
    unfold idx at h
    by_cases q : p t = true
    · rw [if_pos q] at h; cases h; exact ⟨Nat.le_refl _, by omega, q, fun i' z1 z2 => by omega⟩
    · rw [if_neg q] at h
      obtain ⟨a1, a2, a3, a4⟩ := ih _ _ h
      refine ⟨by omega, by omega, a3, fun i' z1 z2 => ?_⟩
      by_cases e : i' = t
      · rw [e]; exact q
      · exact a4 i' (by omega) z2
theorem idx_none {p : Nat → Bool} : ∀ j t, idx p j t = none → ∀ i, t ≤ i → i < t + j → ¬ p i = true := by
  intro j
  induction j with
  | zero => intro t h i z1 z2; omega
  | succ j ih =>
    intro t h i z1 z2
    unfold idx at h
    by_cases q : p t = true
    · rw [if_pos q] at h; cases h
    · rw [if_neg q] at h
      by_cases e : i = t
      · rw [e]; exact q
      · exact ih _ h i (by omega) (by omega)
def Best (P : Nat → Bool) (n : Nat) (r : Option Nat) : Prop :=
  (r = none ∧ ∀ b, b < n → P b = true → 3 < bc b) ∨ (∃ b, r = some b ∧ b < n ∧ P b = true ∧ bc b ≤ 3 ∧ ∀ b', b' < n → P b' = true → bc b' ≤ 3 → (bc b < bc b' ∨ (bc b = bc b' ∧ b ≤ b')))
theorem Best_uniq {P : Nat → Bool} {n : Nat} {r r' : Option Nat} (h : Best P n r) (h' : Best P n r') : r = r' := by
  rcases h with ⟨a1, a2⟩ | ⟨b, a1, a2, a3, a4, a5⟩
  · rcases h' with ⟨b1, b2⟩ | ⟨b', b1, b2, b3, b4, b5⟩
    · rw [a1, b1]
    · have := a2 b' b2 b3; omega
  · rcases h' with ⟨b1, b2⟩ | ⟨b', b1, b2, b3, b4, b5⟩
    · have := b2 b a2 a3; omega
    · have q1 := a5 b' b2 b3 b4
      have q2 := b5 b a2 a3 a4
      rw [a1, b1]
      congr 1
      omega
/-- by size, then by bits -/
def fwC (P : Nat → Bool) (n : Nat) : Nat → Nat → Option Nat
  | 0, _ => none
  | j + 1, s => match idx (fun b => decide (bc b = s) && P b) n 0 with
      | none => fwC P n j (s + 1)
      | some i => some i
theorem fwC_best {P : Nat → Bool} {n : Nat} : ∀ j s, s + j = 4 → (∀ b, b < n → P b = true → s ≤ bc b) → Best P n (fwC P n j s) := by
  intro j
  induction j with
  | zero =>
    intro s h1 h2
    refine Or.inl ⟨rfl, fun b z1 z2 => ?_⟩
    have := h2 b z1 z2; omega
  | succ j ih =>
    intro s h1 h2
    unfold fwC
    cases hi : idx (fun b => decide (bc b = s) && P b) n 0 with
    | none =>
      refine ih (s + 1) (by omega) (fun b z1 z2 => ?_)
      have q1 := h2 b z1 z2
      have q2 := idx_none _ _ hi b (by omega) (by omega)
      simp only [Bool.and_eq_true, decide_eq_true_eq] at q2
      by_cases e : bc b = s
      · exact absurd ⟨e, z2⟩ q2
      · omega
    | some i =>
      obtain ⟨a1, a2, a3, a4⟩ := idx_some _ _ _ hi
      simp only [Bool.and_eq_true, decide_eq_true_eq] at a3 a4
      refine Or.inr ⟨i, rfl, by omega, a3.2, by omega, fun b' z1 z2 z3 => ?_⟩
      have q1 := h2 b' z1 z2
      by_cases e : bc b' = s
      · right
        refine ⟨by omega, ?_⟩
        rcases Nat.lt_or_ge b' i with z | z
        · exact absurd ⟨e, z2⟩ (a4 b' (by omega) z)
        · exact z
      · left; omega
/-- bits by bits, the better one kept -/
def fwR (P : Nat → Bool) : Nat → Nat → Option Nat → Option Nat
  | 0, _, r => r
  | j + 1, b, r => fwR P j (b + 1) (if 3 < bc b then r else match r with
      | none => if P b = true then some b else none
      | some a => if bc b < bc a then (if P b = true then some b else some a) else some a)
theorem fwR_best {P : Nat → Bool} {n : Nat} : ∀ j b r, b + j = n → Best P b r → Best P n (fwR P j b r) := by
  intro j
  induction j with
  | zero => intro b r h1 h2; have : b = n := by omega
            subst this; exact h2
  | succ j ih =>
    intro b r h1 h2
    unfold fwR
    refine ih (b + 1) _ (by omega) ?_
    by_cases h3 : 3 < bc b
    · rw [if_pos h3]
      rcases h2 with ⟨a1, a2⟩ | ⟨a, a1, a2, a3, a4, a5⟩
      · refine Or.inl ⟨a1, fun b' z1 z2 => ?_⟩
        by_cases e : b' = b
        · rw [e]; exact h3
        · exact a2 b' (by omega) z2
      · refine Or.inr ⟨a, a1, by omega, a3, a4, fun b' z1 z2 z3 => ?_⟩
        by_cases e : b' = b
        · rw [e] at z3; omega
        · exact a5 b' (by omega) z2 z3
    rw [if_neg h3]
    rcases h2 with ⟨a1, a2⟩ | ⟨a, a1, a2, a3, a4, a5⟩
    · subst a1
      simp only []
      by_cases hp : P b = true
      · rw [if_pos hp]
        refine Or.inr ⟨b, rfl, by omega, hp, by omega, fun b' z1 z2 z3 => ?_⟩
        by_cases e : b' = b
        · right; rw [e]; exact ⟨rfl, Nat.le_refl _⟩
        · have := a2 b' (by omega) z2; omega
      · rw [if_neg hp]
        refine Or.inl ⟨rfl, fun b' z1 z2 => ?_⟩
        by_cases e : b' = b
        · rw [e] at z2; exact absurd z2 hp
        · exact a2 b' (by omega) z2
    · subst a1
      simp only []
      by_cases hb : bc b < bc a
      · rw [if_pos hb]
        by_cases hp : P b = true
        · rw [if_pos hp]
          refine Or.inr ⟨b, rfl, by omega, hp, by omega, fun b' z1 z2 z3 => ?_⟩
          by_cases e : b' = b
          · right; rw [e]; exact ⟨rfl, Nat.le_refl _⟩
          · have := a5 b' (by omega) z2 z3; omega
        · rw [if_neg hp]
          refine Or.inr ⟨a, rfl, by omega, a3, a4, fun b' z1 z2 z3 => ?_⟩
          by_cases e : b' = b
          · rw [e] at z2; exact absurd z2 hp
          · exact a5 b' (by omega) z2 z3
      · rw [if_neg hb]
        refine Or.inr ⟨a, rfl, by omega, a3, a4, fun b' z1 z2 z3 => ?_⟩
        by_cases e : b' = b
        · rw [e]; omega
        · exact a5 b' (by omega) z2 z3
theorem fw_eq (P : Nat → Bool) (n : Nat) : fwC P n 4 0 = fwR P n 0 none :=
  Best_uniq (fwC_best 4 0 (by omega) (fun _ _ _ => Nat.zero_le _)) (fwR_best n 0 none (by omega) (Or.inl ⟨rfl, fun b z => by omega⟩))
theorem fwR_lt {P : Nat → Bool} {n i : Nat} (h : fwR P n 0 none = some i) : i < n := by
  have := fwR_best (P := P) (n := n) n 0 none (by omega) (Or.inl ⟨rfl, fun b z => by omega⟩)
  rw [h] at this
  rcases this with ⟨a1, a2⟩ | ⟨a, a1, a2, a3⟩
  · cases a1
  · cases a1; exact a2
