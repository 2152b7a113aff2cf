theorem c_alike {f r t : Nat} {fit : Nat → Bool} {g : Nat → Int32} {m0 m : ev_M} (hf : 100 ≤ f) (hr : r < 31) (ht : t < 8) (hm : frP relC m0 m) (h38 : ∀ u, u < 10 → m.1 38 (ixM u r t) = g u) (hg : ∀ u, u < 10 → g9 (g u)) : ∃ m', FX4_mostAlike f (Int32.ofNat (msk fit 10)) (Int32.ofNat r) (Int32.ofNat t) m = some (Int32.ofNat (mxM fit g), m') ∧ frP relC m0 m' ∧ (∀ a, a ≠ 39 → m'.1 a = m.1 a) := by
  have e10 : (10 : Int32) = Int32.ofNat 10 := rfl
  have hmk := msk_lt fit 10
  have Z : ∀ (kf : ev_M → Option (Int32 × ev_M)) (j u n : Nat) (m1 : ev_M), u + j = 10 → j < n → m1.2 = m.2 → (∀ a, a ≠ 39 → m1.1 a = m.1 a) → (∀ i, i < u → m1.1 39 i = 0) → ∃ m', FX4_mostAlike_L6 f kf n (Int32.ofNat u) m1 = kf m' ∧ m'.2 = m.2 ∧ (∀ a, a ≠ 39 → m'.1 a = m.1 a) ∧ (∀ i, i < 10 → m'.1 39 i = 0) := by
    intro kf j
    induction j with
    | zero =>
      intro u n m1 h1 h2 q1 q2 q3
      obtain ⟨n, rfl⟩ : ∃ z, n = z + 1 := ⟨n - 1, by omega⟩
      have : u = 10 := by omega
      subst this
      rw [FX4_mostAlike_L6, if_pos (by decide)]
      exact ⟨m1, rfl, q1, q2, q3⟩
    | succ j ih =>
      intro u n m1 h1 h2 q1 q2 q3
      obtain ⟨n, rfl⟩ : ∃ z, n = z + 1 := ⟨n - 1, by omega⟩
      rw [FX4_mostAlike_L6, if_neg (fun z => by rw [e10, n_le (by omega) (by omega)] at z; omega), if_pos ((n_in (by omega)).mpr (by omega)), n_nat (by omega), s_1]
      refine ih (u + 1) n _ (by omega) (by omega) q1 (fun a ha => (upI_na _ _ _ _ ha).trans (q2 a ha)) (fun i hi => ?_)
      by_cases e : i = u
      · rw [e, upI_at]
      · rw [upI_nk _ _ _ _ e]; exact q3 i (by omega)
  have L : ∀ (j v n M : Nat) (m1 : ev_M), v + j = 10 → j < n → m1.2 = m.2 → (∀ a, a ≠ 39 → m1.1 a = m.1 a) → (∀ i, i < 10 → m1.1 39 i = Int32.ofNat (cT fit g (Int32.ofNat i) v)) → M ≤ v → (∀ u, u < v → fit u = true → cT fit g (g u) v ≤ M) → (M = 0 ∨ ∃ u, u < v ∧ fit u = true ∧ cT fit g (g u) v = M) → ∃ m' M', FX4_mostAlike_L30 f (fun e6 m7 => some (e6, m7)) (Int32.ofNat (msk fit 10)) (Int32.ofNat r) (Int32.ofNat t) n (Int32.ofNat M) (Int32.ofNat v) m1 = some (Int32.ofNat M', m') ∧ m'.2 = m.2 ∧ (∀ a, a ≠ 39 → m'.1 a = m.1 a) ∧ IsM fit g M' := by
    intro j
    induction j with
    | zero =>
      intro v n M m1 h1 h2 q1 q2 q3 q4 q5 q6
      obtain ⟨n, rfl⟩ : ∃ z, n = z + 1 := ⟨n - 1, by omega⟩
      have : v = 10 := by omega
      subst this
      rw [FX4_mostAlike_L30, if_pos (by decide)]
      exact ⟨m1, M, rfl, q1, q2, q5, q6⟩
    | succ j ih =>
      intro v n M m1 h1 h2 q1 q2 q3 q4 q5 q6
      obtain ⟨n, rfl⟩ : ∃ z, n = z + 1 := ⟨n - 1, by omega⟩
      have hix : ixM v r t < 2480 := by unfold ixM; omega
      have eb : ((Int32.ofNat (msk fit 10) >>> (Int32.ofNat v &&& 31)) &&& 1) = if fit v = true then 1 else 0 := by
        have := bt10_all v (by omega) (msk fit 10) (by omega)
        rw [msk_bit, decide_eq_true (show v < 10 by omega), Bool.true_and] at this
        exact this
      have ec : ∀ (y : Int32) (x : Nat), x = (if (fit v && decide (g v = y)) = true then 1 else 0) → cT fit g y (v + 1) = cT fit g y v + x := fun y x hx => by rw [hx]; rfl
      rw [FX4_mostAlike_L30, if_neg (fun z => by rw [e10, n_le (by omega) (by omega)] at z; omega), eb]
      unfold FX4_mostAlike_J86 FX4_indexOf
      rw [s_1 v]
      by_cases z : fit v = true
      · obtain ⟨τ, τ1, τ2, τ3⟩ := n_ex (a := g v) (hg v (by omega)).1
        have hτ : τ < 10 := by have := (hg v (by omega)).2; omega
        have i10 : ev_in (Int32.ofNat τ) 10 := (n_in (by omega)).mpr hτ
        rw [if_pos z, if_pos rfl, bd_some, c_ix, if_pos ((n_in (by omega)).mpr hix), n_nat (show ixM v r t < 2147483648 by omega), q2 38 (by decide), h38 v (by omega), τ1, if_pos i10, if_pos i10, if_pos i10, n_nat (by omega), q3 τ hτ, s_1, up_at, c_max, bd_some]
        have c1 : cT fit g (Int32.ofNat τ) (v + 1) = cT fit g (Int32.ofNat τ) v + 1 := ec _ 1 (by rw [z, τ1]; simp)
        have c0 : ∀ i, i < 10 → i ≠ τ → cT fit g (Int32.ofNat i) (v + 1) = cT fit g (Int32.ofNat i) v := fun i hi hne => by
          have := ec (Int32.ofNat i) 0 (by
            have : ¬ g v = Int32.ofNat i := fun q => hne (by rw [τ1] at q; exact ((n_eq (by omega) (by omega)).mp q).symm)
            simp [this])
          rw [this, Nat.add_zero]
        have cl : cT fit g (Int32.ofNat τ) v ≤ v := cnt_le _ _
        have em : (if Int32.ofNat M < Int32.ofNat (cT fit g (Int32.ofNat τ) v + 1) then Int32.ofNat (cT fit g (Int32.ofNat τ) v + 1) else Int32.ofNat M) = Int32.ofNat (max M (cT fit g (Int32.ofNat τ) v + 1)) := by
          by_cases y : M < cT fit g (Int32.ofNat τ) v + 1
          · rw [if_pos ((n_lt (by omega) (by omega)).mpr y), Nat.max_eq_right (by omega)]
          · rw [if_neg (fun q => y ((n_lt (by omega) (by omega)).mp q)), Nat.max_eq_left (by omega)]
        rw [em]
        have gu : ∀ u, u < 10 → ∃ i, i < 10 ∧ g u = Int32.ofNat i := fun u hu => by
          obtain ⟨i, i1, i2, i3⟩ := n_ex (a := g u) (hg u hu).1
          exact ⟨i, by have := (hg u hu).2; omega, i1⟩
        refine ih (v + 1) n _ _ (by omega) (by omega) q1 (fun a ha => (upI_na _ _ _ _ ha).trans (q2 a ha)) (fun i hi => ?_) (by omega) (fun u hu hf => ?_) ?_
        · by_cases e : i = τ
          · rw [e, upI_at, c1]
          · rw [upI_nk _ _ _ _ e, q3 i hi, c0 i hi e]
        · obtain ⟨i, i1, i2⟩ := gu u (by omega)
          rw [i2]
          by_cases e : i = τ
          · rw [e, c1]; omega
          · rw [c0 i i1 e]
            by_cases e2 : u = v
            · exfalso; apply e; rw [e2, τ1] at i2; exact ((n_eq (by omega) (by omega)).mp i2).symm
            · have := q5 u (by omega) hf
              rw [i2] at this
              omega
        · right
          by_cases y : M < cT fit g (Int32.ofNat τ) v + 1
          · exact ⟨v, by omega, z, by rw [τ1, c1]; omega⟩
          · rcases q6 with q | ⟨u, u1, u2, u3⟩
            · omega
            · obtain ⟨i, i1, i2⟩ := gu u (by omega)
              have e : i ≠ τ := fun e => by rw [i2, e] at u3; omega
              refine ⟨u, by omega, u2, ?_⟩
              rw [i2] at u3 ⊢
              rw [c0 i i1 e]; omega
      · rw [if_neg z, if_neg (by decide)]
        have c0 : ∀ y, cT fit g y (v + 1) = cT fit g y v := fun y => by
          have := ec y 0 (by simp [z])
          rw [this, Nat.add_zero]
        refine ih (v + 1) n M m1 (by omega) (by omega) q1 q2 (fun i hi => by rw [c0]; exact q3 i hi) (by omega) (fun u hu hf => ?_) ?_
        · rw [c0]
          by_cases e : u = v
          · rw [e] at hf; exact absurd hf z
          · exact q5 u (by omega) hf
        · rcases q6 with q | ⟨u, u1, u2, u3⟩
          · exact Or.inl q
          · exact Or.inr ⟨u, by omega, u2, by rw [c0]; exact u3⟩
  unfold FX4_mostAlike
  obtain ⟨m1, r1, r2, r3, r4⟩ := Z (fun m1 => (FX4_mostAlike_L30 f (fun e6 m7 => some (e6, m7)) (Int32.ofNat (msk fit 10)) (Int32.ofNat r) (Int32.ofNat t) f (0 : Int32) (0 : Int32) m1)) 10 0 f m (by omega) (by omega) rfl (fun _ _ => rfl) (fun i hi => by omega)
  obtain ⟨m2, M', s1, s2, s3, s4⟩ := L 10 0 f 0 m1 (by omega) (by omega) r2 r3 (fun i hi => by rw [r4 i hi]; rfl) (by omega) (fun u hu => by omega) (Or.inl rfl)
  rw [z0] at r1 s1
  rw [r1, s1, IsM_uniq s4 (mxM_is fit g)]
  refine ⟨m2, rfl, hm.trans (fun a k z => ⟨?_, by rw [s2]⟩), s3⟩
  rw [s3 a (by unfold relC at z; omega)]
def tlI (M : Nat → Nat → Nat) (r : Nat) : Nat → Nat → Nat × Int32 × Int32 → Nat × Int32 × Int32
  | 0, _, x => x
  | j + 1, t, x => tlI M r j (t + 1) (if M r t < x.1 then (M r t, Int32.ofNat r, Int32.ofNat t) else x)
def tlO (M : Nat → Nat → Nat) (T : Nat) : Nat → Nat → Nat × Int32 × Int32 → Nat × Int32 × Int32
  | 0, _, x => x
  | j + 1, r, x => tlO M T j (r + 1) (tlI M r T 0 x)
theorem tlI_le (M : Nat → Nat → Nat) (r : Nat) : ∀ j t x, (tlI M r j t x).1 ≤ x.1 ∧ (0 < j → (tlI M r j t x).1 ≤ M r t) := by
  intro j
  induction j with
  | zero => intro t x; exact ⟨Nat.le_refl _, fun z => by omega⟩
  | succ j ih =>
    intro t x
    unfold tlI
    by_cases z : M r t < x.1
    · rw [if_pos z]
      have := (ih (t + 1) (M r t, Int32.ofNat r, Int32.ofNat t)).1
      exact ⟨Nat.le_trans this (Nat.le_of_lt z), fun _ => this⟩
    · rw [if_neg z]
      have := (ih (t + 1) x).1
      exact ⟨this, fun _ => by omega⟩
theorem tlO_le (M : Nat → Nat → Nat) (T : Nat) : ∀ j r x, (tlO M T j r x).1 ≤ x.1 := by
  intro j
  induction j with
  | zero => intro r x; exact Nat.le_refl _
  | succ j ih =>
    intro r x
    unfold tlO
    exact Nat.le_trans (ih _ _) (tlI_le M r T 0 x).1
def W33 (m : ev_M) (x : Nat × Int32 × Int32) : Prop := m.1 33 9 = Int32.ofNat x.1 ∧ m.1 33 7 = x.2.1 ∧ m.1 33 8 = x.2.2
def mxT (K : sp_K) (S : sp_S) (t : Nat) (fit : Nat → Bool) (r k : Nat) : Nat := mxM fit (fun u => tnM K S t u r k)
theorem tnM_g9 {K : sp_K} {S : sp_S} {t v r k : Nat} (hk : k < K.1) : g9 (tnM K S t v r k) := tow_tn K.1 k hk
section
variable {f c k0 q R t : Nat} {K : sp_K} {w : Int32} {m0 : ev_M} {S : sp_S} {fit : Nat → Bool}
theorem c_tlI {r : Nat} {kf : ev_M → Option (Unit × ev_M)} (hf : 1700 ≤ f) (hX : CX c K w k0 m0) (hR : R ≤ 31) (hr : r < R) : ∀ (j k n : Nat) (m : ev_M) (x : Nat × Int32 × Int32), k + j = K.1 → j < n → frP relC m0 m → m.1 33 5 = Int32.ofNat R → HD 38 K S t R 10 0 m → x.1 ≤ 11 → W33 m x → ∃ m', FX4_seekTelling_L29 f kf (Int32.ofNat (msk fit 10)) (Int32.ofNat r) n (Int32.ofNat k) m = kf m' ∧ frP relC m0 m' ∧ m'.1 33 5 = Int32.ofNat R ∧ HD 38 K S t R 10 0 m' ∧ W33 m' (tlI (mxT K S t fit) r j k x) := by
  have hT := hX.2.2.2.1.2.1
  intro j
  induction j with
  | zero =>
    intro k n m x h1 h2 q1 q2 q3 q4 q5
    obtain ⟨n, rfl⟩ : ∃ z, n = z + 1 := ⟨n - 1, by omega⟩
    rw [FX4_seekTelling_L29, c_towers (CX_fr q1 hX), bd_some, if_pos ((n_le (by omega) (by omega)).mpr (by omega))]
    exact ⟨m, rfl, q1, q2, q3, q5⟩
  | succ j ih =>
    intro k n m x h1 h2 q1 q2 q3 q4 q5
    obtain ⟨n, rfl⟩ : ∃ z, n = z + 1 := ⟨n - 1, by omega⟩
    obtain ⟨m1, r1, r2, r3⟩ := @c_alike f r k fit (fun u => tnM K S t u r k) m0 m (by omega) (by omega) (by omega) q1 (fun u hu => q3 u r k (by omega) hr (by omega)) (fun u hu => tnM_g9 (by omega))
    have r1' : FX4_mostAlike f (Int32.ofNat (msk fit 10)) (Int32.ofNat r) (Int32.ofNat k) m = some (Int32.ofNat (mxT K S t fit r k), m1) := r1
    have h10 : mxT K S t fit r k ≤ 10 := IsM_10 (mxM_is _ _)
    rw [FX4_seekTelling_L29, c_towers (CX_fr q1 hX), bd_some, if_neg (fun z => by rw [n_le (by omega) (by omega)] at z; omega), r1', bd_some, r3 33 (by decide), q5.1]
    unfold FX4_seekTelling_J79 tlI
    rw [s_1]
    by_cases z : mxT K S t fit r k < x.1
    · rw [if_neg (fun y => by rw [n_le (by omega) (by omega)] at y; omega), if_pos z]
      refine ih (k + 1) n _ _ (by omega) (by omega) (frP_I (by unfold relC; omega) (frP_I (by unfold relC; omega) (frP_I (by unfold relC; omega) r2))) ?_ (fun v' r' k' hk hr' hvr => ?_) (by show mxT K S t fit r k ≤ 11; omega) ⟨?_, ?_, ?_⟩
      · rw [upI_nk _ _ _ _ (by decide), up_nk _ _ _ (by decide), up_nk _ _ _ (by decide), r3 33 (by decide)]; exact q2
      · rw [upI_na _ _ _ _ (by decide), ev_up_ne _ _ _ (by decide), ev_up_ne _ _ _ (by decide), r3 38 (by decide)]; exact q3 v' r' k' hk hr' hvr
      · rw [upI_nk _ _ _ _ (by decide), up_nk _ _ _ (by decide), up_at]
      · rw [upI_nk _ _ _ _ (by decide), up_at]
      · rw [upI_at]
    · rw [if_pos ((n_le (by omega) (by omega)).mpr (by omega)), if_neg z]
      exact ih (k + 1) n m1 x (by omega) (by omega) r2 (by rw [r3 33 (by decide)]; exact q2) (fun v' r' k' hk hr' hvr => by rw [r3 38 (by decide)]; exact q3 v' r' k' hk hr' hvr) q4 ⟨by rw [r3 33 (by decide)]; exact q5.1, by rw [r3 33 (by decide)]; exact q5.2.1, by rw [r3 33 (by decide)]; exact q5.2.2⟩
theorem c_tlO (hf : 1700 ≤ f) (hX : CX c K w k0 m0) (hR : R ≤ 31) : ∀ (j r n : Nat) (m : ev_M) (x : Nat × Int32 × Int32), r + j = R → j < n → frP relC m0 m → m.1 33 5 = Int32.ofNat R → HD 38 K S t R 10 0 m → x.1 ≤ 11 → W33 m x → ∃ m', FX4_seekTelling_L17 f (fun m8 => some ((), m8)) (Int32.ofNat (msk fit 10)) n (Int32.ofNat r) m = some ((), m') ∧ frP relC m0 m' ∧ W33 m' (tlO (mxT K S t fit) K.1 j r x) := by
  have hT := hX.2.2.2.1.2.1
  intro j
  induction j with
  | zero =>
    intro r n m x h1 h2 q1 q2 q3 q4 q5
    obtain ⟨n, rfl⟩ : ∃ z, n = z + 1 := ⟨n - 1, by omega⟩
    rw [FX4_seekTelling_L17, q2, if_pos ((n_le (by omega) (by omega)).mpr (by omega))]
    exact ⟨m, rfl, q1, q5⟩
  | succ j ih =>
    intro r n m x h1 h2 q1 q2 q3 q4 q5
    obtain ⟨n, rfl⟩ : ∃ z, n = z + 1 := ⟨n - 1, by omega⟩
    obtain ⟨m1, r1, r2, r3, r4, r5⟩ := @c_tlI f c k0 R t K w m0 S fit r (fun m7 => (FX4_seekTelling_L17 f (fun m8 => some ((), m8)) (Int32.ofNat (msk fit 10)) n (Int32.ofNat r + 1) m7)) hf hX hR (by omega) K.1 0 f m x (by omega) (by omega) q1 q2 q3 q4 q5
    rw [FX4_seekTelling_L17, q2, if_neg (fun z => by rw [n_le (by omega) (by omega)] at z; omega)]
    rw [z0, s_1] at r1
    rw [s_1, r1]
    exact ih (r + 1) n m1 _ (by omega) (by omega) r2 r3 r4 (Nat.le_trans (tlI_le _ _ _ _ _).1 q4) r5
def TLr (x : Nat × Int32 × Int32) (a3 a4 a5 : Int32) : Prop := (a3 = -1 ∧ x.1 = 11) ∨ (a3 ≠ -1 ∧ a3 = x.2.1 ∧ a4 = x.2.2 ∧ a5 = Int32.ofNat x.1)
theorem r_tlI {r : Nat} {m : ev_M} {kf : Int32 → Int32 → Int32 → ev_M → Option (Int32 × ev_M)} (hf : 1700 ≤ f) (hT : K.1 ≤ 8) (h36 : m.1 112 36 = Int32.ofNat K.1) (h150 : ∀ u, u < 10 → m.1 150 u = if fit u = true then 1 else 0) (hH : HD 149 K S t 31 10 0 m) (hr : r < 31) : ∀ (j k n : Nat) (x : Nat × Int32 × Int32) (a3 a4 a5 : Int32), k + j = K.1 → j < n → x.1 ≤ 11 → TLr x a3 a4 a5 → ∃ b3 b4 b5, FX12_tells_L70 f kf (Int32.ofNat r) n a3 a4 a5 (Int32.ofNat k) m = kf b3 b4 b5 m ∧ TLr (tlI (mxT K S t fit) r j k x) b3 b4 b5 := by
  intro j
  induction j with
  | zero =>
    intro k n x a3 a4 a5 h1 h2 q4 q5
    obtain ⟨n, rfl⟩ : ∃ z, n = z + 1 := ⟨n - 1, by omega⟩
    rw [FX12_tells_L70, r_tm h36, bd_some, if_pos ((n_le (by omega) (by omega)).mpr (by omega))]
    exact ⟨a3, a4, a5, rfl, q5⟩
  | succ j ih =>
    intro k n x a3 a4 a5 h1 h2 q4 q5
    obtain ⟨n, rfl⟩ : ∃ z, n = z + 1 := ⟨n - 1, by omega⟩
    have r1 := @r_alike f r k fit (fun u => tnM K S t u r k) m (by omega) hr (by omega) h150 (fun u hu => hH u r k (by omega) hr (by omega))
    have r1' : FX12_mostAlike f (Int32.ofNat r) (Int32.ofNat k) m = some (Int32.ofNat (mxT K S t fit r k), m) := r1
    have h10 : mxT K S t fit r k ≤ 10 := IsM_10 (mxM_is _ _)
    rw [FX12_tells_L70, r_tm h36, bd_some, if_neg (fun z => by rw [n_le (by omega) (by omega)] at z; omega), r1', bd_some]
    unfold FX12_tells_J104 FX12_tells_J115 tlI
    rw [s_1]
    rcases q5 with ⟨z1, z2⟩ | ⟨z1, z2, z3, z4⟩
    · rw [if_pos z1, if_pos (by omega)]
      exact ih (k + 1) n _ _ _ _ (by omega) (by omega) (by show mxT K S t fit r k ≤ 11; omega) (Or.inr ⟨n_m1 (by omega), rfl, rfl, rfl⟩)
    · rw [if_neg z1, z4]
      by_cases y : mxT K S t fit r k < x.1
      · rw [if_pos ((n_lt (by omega) (by omega)).mpr y), if_pos y]
        exact ih (k + 1) n _ _ _ _ (by omega) (by omega) (by show mxT K S t fit r k ≤ 11; omega) (Or.inr ⟨n_m1 (by omega), rfl, rfl, rfl⟩)
      · rw [if_neg (fun q => y ((n_lt (by omega) (by omega)).mp q)), if_neg y]
        exact ih (k + 1) n x _ _ _ (by omega) (by omega) q4 (Or.inr ⟨z1, z2, z3, rfl⟩)
theorem r_tlO {m : ev_M} {kf : Int32 → Int32 → Int32 → ev_M → Option (Int32 × ev_M)} {M : Nat} (hf : 1700 ≤ f) (hT : K.1 ≤ 8) (h36 : m.1 112 36 = Int32.ofNat K.1) (h150 : ∀ u, u < 10 → m.1 150 u = if fit u = true then 1 else 0) (hH : HD 149 K S t 31 10 0 m) (h62 : m.1 112 62 = Int32.ofNat M) (hM : 0 < M) (hM10 : M ≤ 10) (h0 : m.1 144 0 = S.1) (hr0 : 0 ≤ S.1.toInt) (h9 : S.1.toInt ≤ 999) (hR : (R : Int) = min 31 (999 - S.1.toInt)) : ∀ (j r n : Nat) (x : Nat × Int32 × Int32) (a3 a4 a5 : Int32), r + j = R → j < n → x.1 ≤ 11 → TLr x a3 a4 a5 → ∃ b3 b4 b5, FX12_tells_L38 f kf n a3 a4 a5 (Int32.ofNat r) m = kf b3 b4 b5 m ∧ TLr (tlO (mxT K S t fit) K.1 j r x) b3 b4 b5 := by
  have e30 : (30 : Int32) = Int32.ofNat 30 := rfl
  have e9 : (999 : Int32).toInt = 999 := rfl
  have g62 : ¬ m.1 112 62 ≤ 0 := by rw [h62, i_le, n_int (by omega), e0']; omega
  intro j
  induction j with
  | zero =>
    intro r n x a3 a4 a5 h1 h2 q4 q5
    obtain ⟨n, rfl⟩ : ∃ z, n = z + 1 := ⟨n - 1, by omega⟩
    refine ⟨a3, a4, a5, ?_, q5⟩
    rw [FX12_tells_L38, if_neg g62]
    by_cases z : 30 < r
    · rw [if_pos (by rw [e30, n_lt (by omega) (by omega)]; exact z)]
    · rw [if_neg (fun y => by rw [e30, n_lt (by omega) (by omega)] at y; omega), h0, if_pos (by rw [i_le, e9, i_add (by rw [n_int (by omega)]; omega) (by rw [n_int (by omega)]; omega), n_int (by omega)]; omega)]
  | succ j ih =>
    intro r n x a3 a4 a5 h1 h2 q4 q5
    obtain ⟨n, rfl⟩ : ∃ z, n = z + 1 := ⟨n - 1, by omega⟩
    obtain ⟨b3, b4, b5, r1, r2⟩ := @r_tlI f t K S fit r m (fun e11 e12 e13 m14 => (FX12_tells_L38 f kf n e11 e12 e13 (Int32.ofNat r + 1) m14)) hf hT h36 h150 hH (by omega) K.1 0 f x a3 a4 a5 (by omega) (by omega) q4 q5
    rw [FX12_tells_L38, if_neg g62, if_neg (fun y => by rw [e30, n_lt (by omega) (by omega)] at y; omega), h0, if_neg (fun y => by rw [i_le, e9, i_add (by rw [n_int (by omega)]; omega) (by rw [n_int (by omega)]; omega), n_int (by omega)] at y; omega)]
    rw [z0, s_1] at r1
    rw [s_1, r1]
    exact ih (r + 1) n _ b3 b4 b5 (by omega) (by omega) (Nat.le_trans (tlI_le _ _ _ _ _).1 q4) r2
end
theorem msk_cnt (p : Nat → Bool) : ∀ n, msk p n = 0 ↔ cnt p n = 0 := by
  intro n
  induction n with
  | zero => exact ⟨fun _ => rfl, fun _ => rfl⟩
  | succ n ih =>
    unfold msk cnt
    have : 0 < 2 ^ n := Nat.two_pow_pos n
    by_cases z : p n = true
    · rw [if_pos z, if_pos z]; omega
    · rw [if_neg z, if_neg z, Nat.add_zero, Nat.add_zero]; exact ih
theorem B_tells (f : Nat) (hf : 4000 ≤ f) (a b : Int32) : Both (FX11_tells f a b) (FX12_tells f a b) := Both_m (fun c tb K S kc mc mm h => by
  have hh := h
  obtain ⟨a1, a2, a3, a4, a5, a6, a7, a8, a9, a10, a11, a12⟩ := h
  obtain ⟨k1, k2, k3, k4, k5, k6, k7, krest⟩ := a7
  have j_2 : (2 : Int64).toInt = 2 := rfl
  have e2' : (2 : Int32).toInt = 2 := rfl
  unfold FX11_tells FX12_tells
  by_cases h1 : 0 ≤ a.toInt ∧ a.toInt < (K.1 : Int)
  rotate_left
  · rw [c_tow0 k1 k2 k6 k5 h1, r_tow0 k7 k5 h1, bd_some, bd_some, if_pos rfl, if_pos rfl]
    exact ⟨_, mc, mm, rfl, rfl, frP_refl _ _, fM_refl _⟩
  rw [c_tow1 k1 k2 k6 k5 h1, r_tow1 k7 k5 h1, bd_some, bd_some, if_neg n10, if_neg n10]
  cases tb
  · exact absurd (SimW_F hh).1 (by omega)
  obtain ⟨w, k, q, x1, x2, x3, x4, x5, x6, x7, x8, x9⟩ := SimW_T hh
  obtain ⟨t, rfl, n1, n2⟩ := n_ex (a := a) h1.1
  obtain ⟨R, ρ, τ, ω, y1, y2, y3, y4, y5, y6⟩ := SE_x k5 a6
  by_cases h2 : b < 0
  · rw [if_pos h2]
    rw [i_lt, e0'] at h2
    rw [r_in0 (by rw [j_wide, j_0, j_2]; omega), bd_some, if_pos rfl]
    exact ⟨_, mc, mm, rfl, rfl, frP_refl _ _, fM_refl _⟩
  rw [if_neg h2]
  rw [i_lt, e0'] at h2
  by_cases h3 : b ≤ 2
  rotate_left
  · rw [if_neg h3]
    rw [i_le, e2'] at h3
    rw [r_in0 (by rw [j_wide, j_0, j_2]; omega), bd_some, if_pos rfl]
    exact ⟨_, mc, mm, rfl, rfl, frP_refl _ _, fM_refl _⟩
  rw [if_pos h3]
  rw [i_le, e2'] at h3
  rw [r_in1 (by rw [j_wide, j_0, j_2]; omega), bd_some, if_neg n10]
  obtain ⟨mc1, c1, c2⟩ := @c_moodB f c k R t K w mc S ρ τ ω (by omega) x1 x3 x5 x6 (by omega) y1 y2 y4 y6
  obtain ⟨mm', d1, d2, d3, d4, d5⟩ := @r_lays f k q R t K w mm S ρ τ ω (by omega) x2 x4 x7 x8 x5 x6 (by omega) y1 y3 y5 y6
  have hmk := msk_lt (fitM K S t R ρ τ ω) 10
  have hct := cnt_le (fitM K S t R ρ τ ω) 10
  have hmc := msk_cnt (fitM K S t R ρ τ ω) 10
  rw [c1, bd_some, d1, bd_some]
  by_cases z : msk (fitM K S t R ρ τ ω) 10 = 0
  · rw [if_pos (by rw [z]; rfl)]
    obtain ⟨n, rfl⟩ : ∃ z, f = z + 1 := ⟨f - 1, by omega⟩
    rw [FX12_tells_L38, d5, hmc.mp z, if_pos (by decide)]
    unfold FX12_tells_J127
    rw [if_pos rfl]
    exact ⟨_, mc1, mm', rfl, rfl, c2, d2⟩
  rw [if_neg (fun y => z ((n_z (by omega)).mp y))]
  have e103 : mc1.1 103 2 = S.1 := ((c2 103 2 (by unfold relC; omega)).1).trans x3.1
  have e144 : mm'.1 144 0 = S.1 := (d2.1 144 0 (by unfold relM; omega)).trans x4.1
  have e36 : mm'.1 112 36 = Int32.ofNat K.1 := (d2.1 112 36 (by unfold relM; omega)).trans k7
  have hcp : 0 < cnt (fitM K S t R ρ τ ω) 10 := by
    rcases Nat.eq_zero_or_pos (cnt (fitM K S t R ρ τ ω) 10) with y | y
    · exact absurd (hmc.mpr y) z
    · exact y
  have r0 := x5.1.1
  have e9 : (999 : Int32).toInt = 999 := rfl
  rw [c_hasN e103, bd_some]
  by_cases y : 999 ≤ S.1.toInt
  · rw [if_pos y, if_pos rfl]
    have g62 : ¬ mm'.1 112 62 ≤ 0 := by rw [d5, i_le, n_int (by omega), e0']; omega
    obtain ⟨n, rfl⟩ : ∃ z, f = z + 1 := ⟨f - 1, by omega⟩
    rw [FX12_tells_L38, if_neg g62, if_neg (by decide), e144, Int32.add_zero, if_pos (by rw [i_le, e9]; exact y)]
    unfold FX12_tells_J127
    rw [if_pos rfl]
    exact ⟨_, mc1, mm', rfl, rfl, c2, d2⟩
  rw [if_neg y, if_neg n10]
  generalize hRR : (min (31 : Int) (999 - S.1.toInt)).toNat = RR
  have hx1 := CX_fr c2 x1
  have hS1 : CS mc1 103 S := CS_fr (fun k => (c2 103 k (by unfold relC; omega)).1) (fun k => (c2 _ k (by unfold relC; omega)).1) (fun k => (c2 _ k (by unfold relC; omega)).1) x3
  obtain ⟨m2, r1, r2, r3, r4⟩ := @c_listen f c k 31 RR t K w mc1 mc1 S (by omega) hx1 hS1 x5 x6 (by omega) (by omega) (by omega) (frP_refl _ _)
  have r1' : FX4_listen f 103 (Int32.ofNat t) 31 mc1 = some ((), m2) := r1
  obtain ⟨m3, s1, s2, s3⟩ := @c_tlO f c k RR t K w mc1 S (fitM K S t R ρ τ ω) (by omega) hx1 (by omega) RR 0 f (ev_up m2.1 33 9 11, m2.2) (11, m2.1 33 7, m2.1 33 8) (by omega) (by omega) (frP_I (by unfold relC; omega) r2) (by rw [upI_nk _ _ _ _ (by decide)]; exact r3) (fun v' r' k' hk hr' hvr => by rw [upI_na _ _ _ _ (by decide)]; exact r4 v' r' k' hk hr' hvr) (by show 11 ≤ 11; omega) ⟨upI_at _ _ _ _ _, upI_nk _ _ _ _ (by decide), upI_nk _ _ _ _ (by decide)⟩
  obtain ⟨b3, b4, b5, u1, u2⟩ := @r_tlO f RR t K S (fitM K S t R ρ τ ω) mm' (fun e15 e16 e17 m18 => (FX12_tells_J127 f b e15 e16 e17 m18)) _ (by omega) k5 e36 d4 d3 d5 hcp hct e144 r0 x6 (by omega) RR 0 f (11, m2.1 33 7, m2.1 33 8) (-1) (-1) 0 (by omega) (by omega) (by show 11 ≤ 11; omega) (Or.inl ⟨rfl, rfl⟩)
  have st : FX4_seekTelling f 103 (Int32.ofNat t) (Int32.ofNat (msk (fitM K S t R ρ τ ω) 10)) mc1 = some ((), m3) := by
    unfold FX4_seekTelling
    rw [z0] at s1
    rw [r1', bd_some, s1]
  rw [z0] at u1
  rw [st, bd_some, u1]
  have hX10 : (tlO (mxT K S t (fitM K S t R ρ τ ω)) K.1 RR 0 (11, m2.1 33 7, m2.1 33 8)).1 ≤ 10 := by
    obtain ⟨n, rfl⟩ : ∃ z, RR = z + 1 := ⟨RR - 1, by omega⟩
    have q1 := tlO_le (mxT K S t (fitM K S t R ρ τ ω)) K.1 n (0 + 1) (tlI (mxT K S t (fitM K S t R ρ τ ω)) 0 K.1 0 (11, m2.1 33 7, m2.1 33 8))
    have q2 := (tlI_le (mxT K S t (fitM K S t R ρ τ ω)) 0 K.1 0 (11, m2.1 33 7, m2.1 33 8)).2 (by omega)
    have q3 : mxT K S t (fitM K S t R ρ τ ω) 0 0 ≤ 10 := IsM_10 (mxM_is _ _)
    unfold tlO
    omega
  have fr : frP relC mc m3 := c2.trans s2
  generalize tlO (mxT K S t (fitM K S t R ρ τ ω)) K.1 RR 0 (11, m2.1 33 7, m2.1 33 8) = X at s3 u2 hX10
  rcases u2 with ⟨v1, v2⟩ | ⟨v1, v2, v3, v4⟩
  · omega
  unfold FX12_tells_J127
  rw [if_neg v1, s3.1, s3.2.1, s3.2.2, v2, v3, v4]
  by_cases e2 : b = 0
  · rw [if_neg (show ¬ b = 2 by rw [e2]; decide), if_pos e2, if_pos e2]; exact ⟨_, m3, mm', rfl, rfl, fr, d2⟩
  · rw [if_neg e2, if_neg e2]
    by_cases e3 : b = 1
    · rw [if_neg (show ¬ b = 2 by rw [e3]; decide), if_pos e3]; exact ⟨_, m3, mm', rfl, rfl, fr, d2⟩
    · have e4 : b = 2 := by
        rw [i_eq] at e2 e3 ⊢
        rw [e0'] at e2
        rw [e1'] at e3
        rw [e2']
        omega
      rw [if_pos e4, if_neg e3]; exact ⟨_, m3, mm', rfl, rfl, fr, d2⟩)
