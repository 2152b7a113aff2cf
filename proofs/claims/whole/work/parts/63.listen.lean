/-! what one feels: all tones, for each mood -/
def mdS (t v : Nat) (S : sp_S) : sp_S := (S.1, S.2.1, sp_up S.2.2.1 t (Int32.ofNat v), S.2.2.2.1, S.2.2.2.2)
theorem mdS_rg {t v : Nat} {S : sp_S} (hv : v < 10) (h : sp_rg S) : sp_rg (mdS t v S) := by
  obtain ⟨a, b, c⟩ := h
  refine ⟨a, b, fun i hi => ⟨?_, (c i hi).2.1, (c i hi).2.2⟩⟩
  show g9 (sp_up S.2.2.1 t (Int32.ofNat v) i)
  unfold sp_up
  split
  · unfold g9; rw [n_int (by omega)]; omega
  · exact (c i hi).1
def tnM (K : sp_K) (S : sp_S) (t v r : Nat) : Nat → Int32 := sp_tns K 0 (gos K (mdS t v S) r)
def ixM (v r k : Nat) : Nat := 248 * v + 8 * r + k
theorem c_ix (v r k : Nat) : (((Int32.ofNat v * 31) + Int32.ofNat r) * 8) + Int32.ofNat k = Int32.ofNat (ixM v r k) := by
  rw [show (31 : Int32) = Int32.ofNat 31 from rfl, show (8 : Int32) = Int32.ofNat 8 from rfl, n_mul, n_add, n_mul, n_add]
  congr 1
  unfold ixM
  omega
theorem r_ix (v r k : Nat) : ((248 * Int32.ofNat v) + (8 * Int32.ofNat r)) + Int32.ofNat k = Int32.ofNat (ixM v r k) := by
  rw [show (248 : Int32) = Int32.ofNat 248 from rfl, show (8 : Int32) = Int32.ofNat 8 from rfl, n_mul, n_mul, n_add, n_add]
  rfl
theorem c_lisK {f c k0 v r : Nat} {K : sp_K} {w : Int32} {m0 : ev_M} {kf : ev_M → Option (Unit × ev_M)} (hX : CX c K w k0 m0) (hv : v < 10) (hr : r < 31) : ∀ (j k n : Nat) (m m1 : ev_M), k + j = K.1 → j < n → frP relC m0 m → m.2 = m1.2 → (∀ a, a ≠ 38 → m.1 a = m1.1 a) → (∀ i, i < k → m.1 38 (ixM v r i) = m1.1 21 i) → (∀ p, (∀ i, i < 8 → p ≠ ixM v r i) → m.1 38 p = m1.1 38 p) →
    ∃ m', FX4_listen_L77 f kf (Int32.ofNat v) (Int32.ofNat r) n (Int32.ofNat k) m = kf m' ∧ frP relC m0 m' ∧ m'.2 = m1.2 ∧ (∀ a, a ≠ 38 → m'.1 a = m1.1 a) ∧ (∀ i, i < K.1 → m'.1 38 (ixM v r i) = m1.1 21 i) ∧ (∀ p, (∀ i, i < 8 → p ≠ ixM v r i) → m'.1 38 p = m1.1 38 p) := by
  have hT := hX.2.2.2.1.2.1
  intro j
  induction j with
  | zero =>
    intro k n m m1 h1 h2 q1 q2 q3 q4 q5
    obtain ⟨n, rfl⟩ : ∃ z, n = z + 1 := ⟨n - 1, by omega⟩
    rw [FX4_listen_L77, c_towers (CX_fr q1 hX), bd_some, if_pos ((n_le (by omega) (by omega)).mpr (by omega))]
    exact ⟨m, rfl, q1, q2, q3, fun i hi => q4 i (by omega), q5⟩
  | succ j ih =>
    intro k n m m1 h1 h2 q1 q2 q3 q4 q5
    obtain ⟨n, rfl⟩ : ∃ z, n = z + 1 := ⟨n - 1, by omega⟩
    have hix : ixM v r k < 2480 := by unfold ixM; omega
    rw [FX4_listen_L77, c_towers (CX_fr q1 hX), bd_some, if_neg (fun z => by rw [n_le (by omega) (by omega)] at z; omega)]
    unfold FX4_indexOf
    rw [bd_some, c_ix, if_pos ((n_in (by omega)).mpr (by omega)), if_pos ((n_in (by omega)).mpr hix), n_nat (by omega), n_nat (by omega), s_1]
    refine ih (k + 1) n _ m1 (by omega) (by omega) (frP_I (by unfold relC; omega) q1) q2 (fun a ha => (upI_na _ _ _ _ ha).trans (q3 a ha)) ?_ ?_
    · intro i hi
      by_cases e : i = k
      · subst e; rw [upI_at, q3 21 (by decide)]
      · rw [upI_nk _ _ _ _ (by unfold ixM; omega)]; exact q4 i (by omega)
    · intro p hp
      rw [upI_nk _ _ _ _ (hp k (by omega))]
      exact q5 p hp
/-- what has been heard ahead of mood v, ROUND r -/
def HD (a : Nat) (K : sp_K) (S : sp_S) (t R v r : Nat) (m : ev_M) : Prop := ∀ v' r' k, k < K.1 → r' < R → (v' < v ∨ (v' = v ∧ r' < r)) → m.1 a (ixM v' r' k) = tnM K S t v' r' k
theorem c_lisR {f c k0 R v t : Nat} {K : sp_K} {w : Int32} {m0 : ev_M} {S : sp_S} {kf : ev_M → Option (Unit × ev_M)} (hf : 1700 ≤ f) (hX : CX c K w k0 m0) (hr : sp_rg S) (h9 : S.1.toInt ≤ 999) (hv : v < 10) (hR : R ≤ 31) (hR2 : S.1.toInt + R ≤ 999) : ∀ (j r n : Nat) (m : ev_M), r + j = R → j < n → frP relC m0 m → CS m 34 (gos K (mdS t v S) r) → m.1 33 5 = Int32.ofNat R → HD 38 K S t R v r m →
    ∃ m', FX4_listen_L53 f kf (Int32.ofNat v) n (Int32.ofNat r) m = kf m' ∧ frP relC m0 m' ∧ m'.1 33 5 = Int32.ofNat R ∧ HD 38 K S t R v R m' := by
  have hT := hX.2.2.2.1.2.1
  intro j
  induction j with
  | zero =>
    intro r n m h1 h2 q1 q2 q3 q4
    obtain ⟨n, rfl⟩ : ∃ z, n = z + 1 := ⟨n - 1, by omega⟩
    have : r = R := by omega
    subst this
    rw [FX4_listen_L53, q3, if_pos ((n_le (by omega) (by omega)).mpr (Nat.le_refl _))]
    exact ⟨m, rfl, q1, q3, q4⟩
  | succ j ih =>
    intro r n m h1 h2 q1 q2 q3 q4
    obtain ⟨n, rfl⟩ : ∃ z, n = z + 1 := ⟨n - 1, by omega⟩
    have hg := gos_rd (K := K) (mdS_rg (t := t) hv hr) (show (mdS t v S).1.toInt ≤ 999 from h9) hT r (by omega)
    have hg2 : (gos K (mdS t v S) r).1.toInt = S.1.toInt + r := hg.2
    obtain ⟨m1, r1, r2, r3, r4, r5⟩ := @c_goT f 34 c k0 K w 0 m0 m (gos K (mdS t v S) r) hf (by unfold okT; omega) hX q1 q2 hg.1 (by rw [hg2]; omega)
    obtain ⟨m2, s1, s2, s3, s4, s5, s6⟩ := @c_lisK f c k0 v r K w m0 (fun m13 => (FX4_listen_L53 f kf (Int32.ofNat v) n (Int32.ofNat r + 1) m13)) hX hv (by omega) K.1 0 f m1 m1 (by omega) (by omega) r2 rfl (fun _ _ => rfl) (fun i hi => by omega) (fun _ _ => rfl)
    have md := MDX3_go r1
    rw [FX4_listen_L53, q3, if_neg (fun z => by rw [n_le (by omega) (by omega)] at z; omega), r1, bd_some]
    rw [z0] at s1
    rw [s_1] at s1 ⊢
    rw [s1]
    refine ih (r + 1) n m2 (by omega) (by omega) s2 ?_ ?_ ?_
    · refine CS_fr (fun q => ?_) (fun q => ?_) (fun q => ?_) r3
      · rw [s4 34 (by decide)]
      · rw [s4 _ (by decide)]
      · rw [s4 _ (by decide)]
    · rw [s4 33 (by decide), (md 33 5 (by unfold mdX3_go; omega)).1]; exact q3
    · intro v' r' k hk hr' hvr
      by_cases e : v' = v ∧ r' = r
      · rw [e.1, e.2, s5 k hk]; exact r4 k hk
      · rw [s6 _ (fun i hi => by unfold ixM; omega), (md 38 _ (by unfold mdX3_go; omega)).1]
        exact q4 v' r' k hk hr' (by omega)
theorem c_lisV {f c k0 R t : Nat} {K : sp_K} {w : Int32} {m0 : ev_M} {S : sp_S} (hf : 1700 ≤ f) (hX : CX c K w k0 m0) (hS : CS m0 103 S) (hr : sp_rg S) (h9 : S.1.toInt ≤ 999) (ht : t < 8) (hR : R ≤ 31) (hR2 : S.1.toInt + R ≤ 999) : ∀ (j v n : Nat) (m : ev_M), v + j = 10 → j < n → frP relC m0 m → m.1 33 5 = Int32.ofNat R → HD 38 K S t R v 0 m →
    ∃ m', FX4_listen_L24 f (fun m15 => some ((), m15)) 103 (Int32.ofNat t) n (Int32.ofNat v) m = some ((), m') ∧ frP relC m0 m' ∧ m'.1 33 5 = Int32.ofNat R ∧ HD 38 K S t R 10 0 m' := by
  have hT := hX.2.2.2.1.2.1
  have e10 : (10 : Int32) = Int32.ofNat 10 := rfl
  intro j
  induction j with
  | zero =>
    intro v n m h1 h2 q1 q2 q3
    obtain ⟨n, rfl⟩ : ∃ z, n = z + 1 := ⟨n - 1, by omega⟩
    have : v = 10 := by omega
    subst this
    rw [FX4_listen_L24, if_pos (by decide)]
    exact ⟨m, rfl, q1, q2, q3⟩
  | succ j ih =>
    intro v n m h1 h2 q1 q2 q3
    obtain ⟨n, rfl⟩ : ∃ z, n = z + 1 := ⟨n - 1, by omega⟩
    obtain ⟨m1, r1, r2, r3⟩ := @c_trial f 34 m0 m S (by omega) (by unfold okT; omega) q1 hS
    have md := MDX8_copy r1
    have hS1 : CS (ev_up m1.1 35 t (Int32.ofNat v), m1.2) 34 (mdS t v S) := by
      refine ⟨?_, ?_, fun i hi => ⟨?_, ?_, ?_⟩⟩
      · rw [upI_na _ _ _ _ (by decide)]; exact r3.1
      · rw [upI_na _ _ _ _ (by decide)]; exact r3.2.1
      · show ev_up m1.1 35 t (Int32.ofNat v) 35 i = sp_up S.2.2.1 t (Int32.ofNat v) i
        rw [ev_up_at]
        unfold sp_up
        by_cases e : i = t
        · rw [if_pos e, if_pos e]
        · rw [if_neg e, if_neg e]; exact (r3.2.2 i hi).1
      · rw [upI_na _ _ _ _ (by decide)]; exact (r3.2.2 i hi).2.1
      · rw [upI_na _ _ _ _ (by decide)]; exact (r3.2.2 i hi).2.2
    obtain ⟨m2, s1, s2, s3, s4⟩ := @c_lisR f c k0 R v t K w m0 S (fun m14 => (FX4_listen_L24 f (fun m15 => some ((), m15)) 103 (Int32.ofNat t) n (Int32.ofNat v + 1) m14)) hf hX hr h9 (by omega) hR hR2 R 0 f (ev_up m1.1 35 t (Int32.ofNat v), m1.2) (by omega) (by omega) (frP_I (by unfold relC; omega) r2) hS1 (by
      rw [upI_na _ _ _ _ (by decide), (md 33 5 (by unfold mdX8_copy; omega)).1]; exact q2) (fun v' r' k hk hr' hvr => by
      rw [upI_na _ _ _ _ (by decide), (md 38 _ (by unfold mdX8_copy; omega)).1]; exact q3 v' r' k hk hr' hvr)
    rw [FX4_listen_L24, if_neg (fun z => by rw [e10, n_le (by omega) (by omega)] at z; omega), r1, bd_some, if_pos ((n_in (by omega)).mpr ht), n_nat (by omega)]
    rw [z0] at s1
    rw [s_1] at s1 ⊢
    rw [s1]
    refine ih (v + 1) n m2 (by omega) (by omega) s2 s3 (fun v' r' k hk hr' hvr => s4 v' r' k hk hr' (by omega))
theorem c_listen {f c k0 A R t : Nat} {K : sp_K} {w : Int32} {m0 m : ev_M} {S : sp_S} (hf : 1700 ≤ f) (hX : CX c K w k0 m0) (hS : CS m0 103 S) (hr : sp_rg S) (h9 : S.1.toInt ≤ 999) (ht : t < 8) (hA : A ≤ 31) (hR : (R : Int) = min (A : Int) (999 - S.1.toInt)) (hm : frP relC m0 m) :
    ∃ m', FX4_listen f 103 (Int32.ofNat t) (Int32.ofNat A) m = some ((), m') ∧ frP relC m0 m' ∧ m'.1 33 5 = Int32.ofNat R ∧ HD 38 K S t R 10 0 m' := by
  have e31 : (31 : Int32).toInt = 31 := rfl
  have e9 : (999 : Int32).toInt = 999 := rfl
  have r0 := hr.1.1
  have e2 : m.1 103 2 = S.1 := ((hm 103 2 (by unfold relC; omega)).1).trans hS.1
  have h1 : (if (31 : Int32) < Int32.ofNat A then (31 : Int32) else Int32.ofNat A) = Int32.ofNat A := by
    rw [if_neg (by rw [i_lt, e31, n_int (by omega)]; omega)]
  have es : (999 - S.1).toInt = 999 - S.1.toInt := by rw [i_sub (by rw [e9]; omega) (by rw [e9]; omega), e9]
  have h2 : (if 999 - S.1 < Int32.ofNat A then 999 - S.1 else Int32.ofNat A) = Int32.ofNat R := by
    by_cases z : 999 - S.1 < Int32.ofNat A
    · rw [if_pos z]
      rw [i_lt, es, n_int (by omega)] at z
      rw [i_eq, es, n_int (by omega)]
      omega
    · rw [if_neg z]
      rw [i_lt, es, n_int (by omega)] at z
      rw [show A = R by omega]
  unfold FX4_listen
  rw [c_min, bd_some, h1, c_min, bd_some, e2, h2]
  exact c_lisV hf hX hS hr h9 ht (by omega) (by omega) 10 0 f _ (by omega) (by omega) (frP_I (by unfold relC; omega) hm) (upI_at _ _ _ _ _) (fun v' r' k hk hr' hvr => by omega)
/-! the rows that were seen -/
def allB (p : Nat → Bool) : Nat → Bool
  | 0 => true
  | n + 1 => allB p n && p n
theorem allB_iff (p : Nat → Bool) : ∀ n, allB p n = true ↔ ∀ i, i < n → p i = true := by
  intro n
  induction n with
  | zero => exact ⟨fun _ i hi => by omega, fun _ => rfl⟩
  | succ n ih =>
    unfold allB
    rw [Bool.and_eq_true, ih]
    exact ⟨fun h i hi => by
      by_cases e : i = n
      · rw [e]; exact h.2
      · exact h.1 i (by omega), fun h => ⟨fun i hi => h i (by omega), h n (by omega)⟩⟩
def SW (R : Nat) (ρ τ : Nat → Nat) (ω : Nat → Int32) (g : Nat → Int32) : Prop := ∀ i, i < R → g (3 * i) = Int32.ofNat (ρ i) ∧ g (3 * i + 1) = Int32.ofNat (τ i) ∧ g (3 * i + 2) = ω i
theorem SE_x {T : Nat} {mc mm : ev_M} (hT : T ≤ 8) (h : SE T mc mm) : ∃ R ρ τ ω, R ≤ 16 ∧ mc.1 33 6 = Int32.ofNat R ∧ mm.1 112 58 = Int32.ofNat R ∧ SW R ρ τ ω (mc.1 37) ∧ SW R ρ τ ω (mm.1 148) ∧ (∀ i, i < R → ρ i ≤ 30 ∧ τ i < T) := by
  obtain ⟨R, a1, a2, a3, a4, a5⟩ := h
  have key : ∀ i, i < R → mc.1 37 (3 * i) = Int32.ofNat (mc.1 37 (3 * i)).toNatClampNeg ∧ mc.1 37 (3 * i + 1) = Int32.ofNat (mc.1 37 (3 * i + 1)).toNatClampNeg ∧ (mc.1 37 (3 * i)).toNatClampNeg ≤ 30 ∧ (mc.1 37 (3 * i + 1)).toNatClampNeg < T := by
    intro i hi
    obtain ⟨⟨b1, b2⟩, ⟨t, b3, b4⟩, b5⟩ := a5 i hi
    exact ⟨n_of _ b1, by rw [b4, n_nat (by omega)], by rw [i_nat]; omega, by rw [b4, n_nat (by omega)]; exact b3⟩
  refine ⟨R, fun i => (mc.1 37 (3 * i)).toNatClampNeg, fun i => (mc.1 37 (3 * i + 1)).toNatClampNeg, fun i => mc.1 37 (3 * i + 2), a1, a2, a3, ?_, ?_, ?_⟩
  · intro i hi; exact ⟨(key i hi).1, (key i hi).2.1, rfl⟩
  · intro i hi
    rw [← a4 _ (by omega), ← a4 _ (by omega), ← a4 _ (by omega)]
    exact ⟨(key i hi).1, (key i hi).2.1, rfl⟩
  · intro i hi; exact ⟨(key i hi).2.2.1, (key i hi).2.2.2⟩
def cdM (K : sp_K) (S : sp_S) (t : Nat) (ρ τ : Nat → Nat) (ω : Nat → Int32) (v i : Nat) : Bool := decide (S.1.toInt + (ρ i : Int) < 999) && decide (tnM K S t v (ρ i) (τ i) = ω i)
def fitM (K : sp_K) (S : sp_S) (t R : Nat) (ρ τ : Nat → Nat) (ω : Nat → Int32) (v : Nat) : Bool := allB (cdM K S t ρ τ ω v) R
def seenM (K : sp_K) (S : sp_S) (t R : Nat) (ρ τ : Nat → Nat) (ω : Nat → Int32) (v r : Nat) : Bool := allB (fun i => !(decide (ρ i = r)) || cdM K S t ρ τ ω v i) R
theorem seen_fit {K : sp_K} {S : sp_S} {t R : Nat} {ρ τ : Nat → Nat} {ω : Nat → Int32} {v : Nat} (h : ∀ i, i < R → ρ i ≤ 30) : allB (seenM K S t R ρ τ ω v) 31 = fitM K S t R ρ τ ω v := by
  rw [Bool.eq_iff_iff, allB_iff]
  unfold fitM seenM
  rw [allB_iff]
  constructor
  · intro z i hi
    have := (allB_iff _ _).mp (z (ρ i) (by have := h i hi; omega)) i hi
    simpa using this
  · intro z r hr
    rw [allB_iff]
    intro i hi
    rw [z i hi, Bool.or_true]
/-- the class asks whether all is so -/
theorem c_allSo {f R RR v t : Nat} {K : sp_K} {S : sp_S} {ρ τ : Nat → Nat} {ω : Nat → Int32} {m : ev_M} (hf : 20 ≤ f) (hT : K.1 ≤ 8) (hR : R ≤ 16) (h6 : m.1 33 6 = Int32.ofNat R) (hW : SW R ρ τ ω (m.1 37)) (hb : ∀ i, i < R → ρ i ≤ 30 ∧ τ i < K.1) (hv : v < 10) (h5 : m.1 33 5 = Int32.ofNat RR) (hRR : RR ≤ 31) (hRR2 : ∀ i, i < R → (ρ i < RR ↔ S.1.toInt + (ρ i : Int) < 999)) (hH : HD 38 K S t RR 10 0 m) : FX4_isAllSo f (Int32.ofNat v) m = some (if fitM K S t R ρ τ ω v = true then 1 else 0, m) := by
  have e16 : (16 : Int32) = Int32.ofNat 16 := rfl
  have e3 : (3 : Int32) = Int32.ofNat 3 := rfl
  have L : ∀ (j i n : Nat), i + j = R → j < n → allB (cdM K S t ρ τ ω v) i = true → FX4_isAllSo_L2 f (fun m3 => some (1, m3)) (Int32.ofNat v) n (Int32.ofNat i) m = some (if fitM K S t R ρ τ ω v = true then 1 else 0, m) := by
    intro j
    induction j with
    | zero =>
      intro i n h1 h2 h3
      obtain ⟨n, rfl⟩ : ∃ z, n = z + 1 := ⟨n - 1, by omega⟩
      have : i = R := by omega
      subst this
      rw [FX4_isAllSo_L2, h6, if_pos ((n_le (by omega) (by omega)).mpr (Nat.le_refl _)), if_pos (show fitM K S t i ρ τ ω v = true from h3)]
    | succ j ih =>
      intro i n h1 h2 h3
      obtain ⟨n, rfl⟩ : ∃ z, n = z + 1 := ⟨n - 1, by omega⟩
      have hi : i < R := by omega
      have b := hb i hi
      have w := hW i hi
      have no : cdM K S t ρ τ ω v i ≠ true → fitM K S t R ρ τ ω v ≠ true := fun z y => z ((allB_iff _ _).mp y i hi)
      rw [FX4_isAllSo_L2, h6, if_neg (fun z => by rw [n_le (by omega) (by omega)] at z; omega), if_neg (fun z => by rw [e16, n_le (by omega) (by omega)] at z; omega), e3, n_mul, if_pos ((n_in (by omega)).mpr (by omega)), n_nat (by omega), h5, w.1]
      by_cases z : ρ i < RR
      · rw [if_neg (fun y => by rw [n_le (by omega) (by omega)] at y; omega), s_1, if_pos ((n_in (by omega)).mpr (by omega)), n_nat (by omega), w.2.1]
        unfold FX4_indexOf
        have hix : ixM v (ρ i) (τ i) < 2480 := by unfold ixM; omega
        rw [bd_some, c_ix, if_pos ((n_in (by omega)).mpr hix), show Int32.ofNat (3 * i) + 2 = Int32.ofNat (3 * i + 2) from n_add _ 2, if_pos ((n_in (by omega)).mpr (by omega)), n_nat (by omega), n_nat (by omega), w.2.2, hH v (ρ i) (τ i) b.2 z (by omega), s_1]
        by_cases y : tnM K S t v (ρ i) (τ i) = ω i
        · rw [if_pos y]
          refine ih (i + 1) n (by omega) (by omega) ?_
          unfold allB
          rw [h3, Bool.true_and]
          unfold cdM
          rw [decide_eq_true ((hRR2 i hi).mp z), decide_eq_true y]
          rfl
        · rw [if_neg y, if_neg (no (by unfold cdM; simp [y]))]
      · rw [if_pos ((n_le (by omega) (by omega)).mpr (by omega)), if_neg (no (by
          unfold cdM
          have : ¬ S.1.toInt + (ρ i : Int) < 999 := fun y => z ((hRR2 i hi).mpr y)
          simp [this]))]
  unfold FX4_isAllSo
  exact L R 0 f (by omega) (by omega) rfl
/-! the reference hears all -/
theorem r_layK {f k0 q v r : Nat} {K : sp_K} {w : Int32} {m0 : ev_M} {kf : ev_M → Option (Unit × ev_M)} (hX : RX K w k0 q m0) (hv : v < 10) (hr : r < 31) : ∀ (j k n : Nat) (m m1 : ev_M), k + j = K.1 → j < n → m1.1 112 36 = Int32.ofNat K.1 → m.2 = m1.2 → (∀ a, a ≠ 149 → m.1 a = m1.1 a) → (∀ i, i < k → m.1 149 (ixM v r i) = m1.1 146 i) → (∀ p, (∀ i, i < 8 → p ≠ ixM v r i) → m.1 149 p = m1.1 149 p) →
    ∃ m', FX12_laysMoods_L66 f kf (Int32.ofNat v) (Int32.ofNat r) n (Int32.ofNat k) m = kf m' ∧ m'.2 = m1.2 ∧ (∀ a, a ≠ 149 → m'.1 a = m1.1 a) ∧ (∀ i, i < K.1 → m'.1 149 (ixM v r i) = m1.1 146 i) ∧ (∀ p, (∀ i, i < 8 → p ≠ ixM v r i) → m'.1 149 p = m1.1 149 p) := by
  have hT := hX.1.1
  intro j
  induction j with
  | zero =>
    intro k n m m1 h1 h2 h36 q2 q3 q4 q5
    obtain ⟨n, rfl⟩ : ∃ z, n = z + 1 := ⟨n - 1, by omega⟩
    rw [FX12_laysMoods_L66, r_tm (by rw [q3 112 (by decide)]; exact h36), bd_some, if_pos ((n_le (by omega) (by omega)).mpr (by omega))]
    exact ⟨m, rfl, q2, q3, fun i hi => q4 i (by omega), q5⟩
  | succ j ih =>
    intro k n m m1 h1 h2 h36 q2 q3 q4 q5
    obtain ⟨n, rfl⟩ : ∃ z, n = z + 1 := ⟨n - 1, by omega⟩
    have hix : ixM v r k < 2480 := by unfold ixM; omega
    rw [FX12_laysMoods_L66, r_tm (by rw [q3 112 (by decide)]; exact h36), bd_some, if_neg (fun z => by rw [n_le (by omega) (by omega)] at z; omega), r_ix, if_pos ((n_in (by omega)).mpr (by omega)), if_pos ((n_in (by omega)).mpr hix), n_nat (by omega), n_nat (by omega), s_1]
    refine ih (k + 1) n _ m1 (by omega) (by omega) h36 q2 (fun a ha => (upI_na _ _ _ _ ha).trans (q3 a ha)) ?_ ?_
    · intro i hi
      by_cases e : i = k
      · subst e; rw [upI_at, q3 146 (by decide)]
      · rw [upI_nk _ _ _ _ (by unfold ixM; omega)]; exact q4 i (by omega)
    · intro p hp
      rw [upI_nk _ _ _ _ (hp k (by omega))]
      exact q5 p hp
theorem r_seen {f R v t r : Nat} {K : sp_K} {S : sp_S} {ρ τ : Nat → Nat} {ω : Nat → Int32} {m : ev_M} (hf : 20 ≤ f) (hT : K.1 ≤ 8) (hR : R ≤ 16) (h58 : m.1 112 58 = Int32.ofNat R) (hW : SW R ρ τ ω (m.1 148)) (hb : ∀ i, i < R → ρ i ≤ 30 ∧ τ i < K.1) (hr : r ≤ 30) (h0 : (m.1 144 0).toInt = S.1.toInt + r + 1) (h146 : ∀ i, i < K.1 → m.1 146 i = tnM K S t v r i) : FX12_isAsSeen f (Int32.ofNat r) m = some (if seenM K S t R ρ τ ω v r = true then 1 else 0, m) := by
  have e3 : (3 : Int32) = Int32.ofNat 3 := rfl
  have e9 : (999 : Int32).toInt = 999 := rfl
  have L : ∀ (j i n : Nat), i + j = R → j < n → allB (fun i => !(decide (ρ i = r)) || cdM K S t ρ τ ω v i) i = true → FX12_isAsSeen_L2 f (fun m1 => some (1, m1)) (Int32.ofNat r) n (Int32.ofNat i) m = some (if seenM K S t R ρ τ ω v r = true then 1 else 0, m) := by
    intro j
    induction j with
    | zero =>
      intro i n h1 h2 h3
      obtain ⟨n, rfl⟩ : ∃ z, n = z + 1 := ⟨n - 1, by omega⟩
      have : i = R := by omega
      subst this
      rw [FX12_isAsSeen_L2, h58, if_pos ((n_le (by omega) (by omega)).mpr (Nat.le_refl _)), if_pos (show seenM K S t i ρ τ ω v r = true from h3)]
    | succ j ih =>
      intro i n h1 h2 h3
      obtain ⟨n, rfl⟩ : ∃ z, n = z + 1 := ⟨n - 1, by omega⟩
      have hi : i < R := by omega
      have b := hb i hi
      have w := hW i hi
      have no : ¬ (!(decide (ρ i = r)) || cdM K S t ρ τ ω v i) = true → seenM K S t R ρ τ ω v r ≠ true := fun z y => z ((allB_iff _ _).mp y i hi)
      have go : (!(decide (ρ i = r)) || cdM K S t ρ τ ω v i) = true → FX12_isAsSeen_L2 f (fun m1 => some (1, m1)) (Int32.ofNat r) n (Int32.ofNat (i + 1)) m = some (if seenM K S t R ρ τ ω v r = true then 1 else 0, m) := fun z => ih (i + 1) n (by omega) (by omega) (by unfold allB; rw [h3, Bool.true_and]; exact z)
      rw [FX12_isAsSeen_L2, h58, if_neg (fun z => by rw [n_le (by omega) (by omega)] at z; omega), e3, n_mul, if_pos ((n_in (by omega)).mpr (by omega)), n_nat (by omega), w.1]
      unfold FX12_isAsSeen_J64
      rw [s_1 i]
      by_cases e : ρ i = r
      · rw [if_pos (by rw [e])]
        by_cases z : S.1.toInt + (r : Int) < 999
        · rw [if_neg (by rw [i_lt, e9, h0]; omega), s_1, if_pos ((n_in (by omega)).mpr (by omega)), n_nat (by omega), w.2.1, if_pos ((n_in (by omega)).mpr (by omega)), show Int32.ofNat (3 * i) + 2 = Int32.ofNat (3 * i + 2) from n_add _ 2, if_pos ((n_in (by omega)).mpr (by omega)), n_nat (by omega), n_nat (by omega), w.2.2, h146 _ b.2]
          by_cases y : tnM K S t v r (τ i) = ω i
          · rw [if_pos y]
            exact go (by unfold cdM; rw [e, decide_eq_true z, decide_eq_true y]; simp)
          · rw [if_neg y, if_neg (no (by unfold cdM; rw [e]; simp [y]))]
        · rw [if_pos (by rw [i_lt, e9, h0]; omega), if_neg (no (by unfold cdM; rw [e]; simp [z]))]
      · rw [if_neg (fun z => e ((n_eq (by omega) (by omega)).mp z))]
        exact go (by simp [e])
  unfold FX12_isAsSeen
  exact L R 0 f (by omega) (by omega) rfl
