/-! moods as bits; tells -/
set_option maxRecDepth 100000 in
theorem or10_all : ∀ t, t < 10 → ∀ n, n < 2 ^ t → (Int32.ofNat n ||| ((1 : Int32) <<< (Int32.ofNat t &&& 31))) = Int32.ofNat (n + 2 ^ t) := by decide +kernel
set_option maxRecDepth 100000 in
theorem bt10_all : ∀ t, t < 10 → ∀ y, y < 1024 → bt (Int32.ofNat y) t = if y.testBit t = true then 1 else 0 := by decide +kernel
theorem msk_all {p : Nat → Bool} (h : ∀ i, i < 10 → p i = true) : msk p 10 = 1023 := by
  rw [msk_congr (q := fun _ => true) (fun i hi => h i hi)]
  decide
theorem c_farth {f R : Nat} {ρ τ : Nat → Nat} {ω : Nat → Int32} {m : ev_M} (hf : 20 ≤ f) (hR : R ≤ 16) (h6 : m.1 33 6 = Int32.ofNat R) (hW : SW R ρ τ ω (m.1 37)) (hb : ∀ i, i < R → ρ i ≤ 30) : ∃ F, FX4_farthestSeen f m = some (Int32.ofNat F, m) ∧ F ≤ 30 ∧ ∀ i, i < R → ρ i ≤ F := by
  have e16 : (16 : Int32) = Int32.ofNat 16 := rfl
  have e3 : (3 : Int32) = Int32.ofNat 3 := rfl
  have L : ∀ (j i n F : Nat), i + j = R → j < n → F ≤ 30 → (∀ u, u < i → ρ u ≤ F) → ∃ F', FX4_farthestSeen_L4 f (fun e3 m4 => some (e3, m4)) n (Int32.ofNat F) (Int32.ofNat i) m = some (Int32.ofNat F', m) ∧ F' ≤ 30 ∧ ∀ i, i < R → ρ i ≤ F' := by
    intro j
    induction j with
    | zero =>
      intro i n F h1 h2 h3 h4
      obtain ⟨n, rfl⟩ : ∃ z, n = z + 1 := ⟨n - 1, by omega⟩
      rw [FX4_farthestSeen_L4, h6, if_pos ((n_le (by omega) (by omega)).mpr (by omega))]
      exact ⟨F, rfl, h3, fun u hu => h4 u (by omega)⟩
    | succ j ih =>
      intro i n F h1 h2 h3 h4
      obtain ⟨n, rfl⟩ : ∃ z, n = z + 1 := ⟨n - 1, by omega⟩
      have b := hb i (by omega)
      rw [FX4_farthestSeen_L4, h6, if_neg (fun z => by rw [n_le (by omega) (by omega)] at z; omega), if_neg (fun z => by rw [e16, n_le (by omega) (by omega)] at z; omega), e3, n_mul, if_pos ((n_in (by omega)).mpr (by omega)), n_nat (by omega), c_max, bd_some, (hW i (by omega)).1, s_1]
      have em : (if Int32.ofNat F < Int32.ofNat (ρ i) then Int32.ofNat (ρ i) else Int32.ofNat F) = Int32.ofNat (max F (ρ i)) := by
        by_cases z : F < ρ i
        · rw [if_pos ((n_lt (by omega) (by omega)).mpr z), Nat.max_eq_right (by omega)]
        · rw [if_neg (fun y => z ((n_lt (by omega) (by omega)).mp y)), Nat.max_eq_left (by omega)]
      rw [em]
      refine ih (i + 1) n (max F (ρ i)) (by omega) (by omega) (by omega) (fun u hu => ?_)
      by_cases e : u = i
      · rw [e]; omega
      · have := h4 u (by omega); omega
  unfold FX4_farthestSeen
  exact L R 0 f 0 (by omega) (by omega) (by omega) (fun u hu => by omega)
section
variable {f c k0 q R t : Nat} {K : sp_K} {w : Int32} {m0 m : ev_M} {S : sp_S} {ρ τ : Nat → Nat} {ω : Nat → Int32}
theorem c_moodB (hf : 1700 ≤ f) (hX : CX c K w k0 m0) (hS : CS m0 103 S) (hr : sp_rg S) (h9 : S.1.toInt ≤ 999) (ht : t < K.1) (hR : R ≤ 16) (h6 : m0.1 33 6 = Int32.ofNat R) (hW : SW R ρ τ ω (m0.1 37)) (hb : ∀ i, i < R → ρ i ≤ 30 ∧ τ i < K.1) : ∃ m', FX4_moodBits f 103 (Int32.ofNat t) m0 = some (Int32.ofNat (msk (fitM K S t R ρ τ ω) 10), m') ∧ frP relC m0 m' := by
  have hT := hX.2.2.2.1.2.1
  have e10 : (10 : Int32) = Int32.ofNat 10 := rfl
  unfold FX4_moodBits
  rw [h6]
  by_cases z : R = 0
  · subst z
    rw [if_pos z0, msk_all (p := fitM K S t 0 ρ τ ω) (fun i _ => rfl)]
    exact ⟨m0, rfl, frP_refl _ _⟩
  rw [if_neg (fun y => z ((n_z (by omega)).mp y))]
  obtain ⟨F, a1, a2, a3⟩ := @c_farth f R ρ τ ω m0 (by omega) hR h6 hW (fun i hi => (hb i hi).1)
  obtain ⟨m1, r1, r2, r3, r4⟩ := @c_listen f c k0 (F + 1) (min ((F + 1 : Nat) : Int) (999 - S.1.toInt)).toNat t K w m0 m0 S hf hX hS hr h9 (by omega) (by omega) (by omega) (frP_refl _ _)
  generalize hRR : (min ((F + 1 : Nat) : Int) (999 - S.1.toInt)).toNat = RR at r1 r3 r4
  rw [a1, bd_some, s_1, r1, bd_some]
  have h6' : m1.1 33 6 = Int32.ofNat R := ((r2 33 6 (by unfold relC; omega)).1).trans h6
  have hW' : SW R ρ τ ω (m1.1 37) := fun i hi => by
    rw [(r2 37 _ (by unfold relC; omega)).1, (r2 37 _ (by unfold relC; omega)).1, (r2 37 _ (by unfold relC; omega)).1]; exact hW i hi
  have L : ∀ (j v n : Nat), v + j = 10 → j < n → FX4_moodBits_L28 f (fun e7 m8 => some (e7, m8)) n (Int32.ofNat (msk (fitM K S t R ρ τ ω) v)) (Int32.ofNat v) m1 = some (Int32.ofNat (msk (fitM K S t R ρ τ ω) 10), m1) := by
    intro j
    induction j with
    | zero =>
      intro v n h1 h2
      obtain ⟨n, rfl⟩ : ∃ z, n = z + 1 := ⟨n - 1, by omega⟩
      have : v = 10 := by omega
      subst this
      rw [FX4_moodBits_L28, if_pos (by decide)]
    | succ j ih =>
      intro v n h1 h2
      obtain ⟨n, rfl⟩ : ∃ z, n = z + 1 := ⟨n - 1, by omega⟩
      rw [FX4_moodBits_L28, if_neg (fun z => by rw [e10, n_le (by omega) (by omega)] at z; omega), @c_allSo f R RR v t K S ρ τ ω m1 (by omega) hT hR h6' hW' hb (by omega) r3 (by omega) (fun i hi => by have := a3 i hi; omega) r4, bd_some]
      unfold FX4_moodBits_J51
      rw [s_1]
      have em : ∀ x : Nat, x = (if fitM K S t R ρ τ ω v = true then 2 ^ v else 0) → msk (fitM K S t R ρ τ ω) (v + 1) = msk (fitM K S t R ρ τ ω) v + x := fun x hx => by rw [hx]; rfl
      by_cases y : fitM K S t R ρ τ ω v = true
      · rw [if_pos y, if_neg n10, or10_all v (by omega) _ (msk_lt _ _), ← em _ (if_pos y).symm]
        exact ih (v + 1) n (by omega) (by omega)
      · rw [if_neg y, if_pos rfl]
        have := ih (v + 1) n (by omega) (by omega)
        rw [em 0 (if_neg y).symm, Nat.add_zero] at this
        exact this
  exact ⟨m1, L 10 0 f (by omega) (by omega), r2⟩
end
theorem B_moods (f : Nat) (hf : 4000 ≤ f) (a : Int32) : Both (FX11_moods f a) (FX12_moods f a) := Both_m (fun c tb K S kc mc mm h => by
  have hh := h
  obtain ⟨a1, a2, a3, a4, a5, a6, a7, a8, a9, a10, a11, a12⟩ := h
  obtain ⟨k1, k2, k3, k4, k5, k6, k7, krest⟩ := a7
  have e10 : (10 : Int32) = Int32.ofNat 10 := rfl
  unfold FX11_moods FX12_moods
  by_cases h1 : 0 ≤ a.toInt ∧ a.toInt < (K.1 : Int)
  rotate_left
  · rw [c_tow0 k1 k2 k6 k5 h1, r_tow0 k7 k5 h1, bd_some, bd_some, if_pos rfl, if_pos rfl]
    exact ⟨_, mc, mm, rfl, rfl, frP_refl _ _, fM_refl _⟩
  rw [c_tow1 k1 k2 k6 k5 h1, r_tow1 k7 k5 h1, bd_some, bd_some, if_neg n10, if_neg n10]
  cases tb
  · exact absurd (SimW_F hh).1 (by omega)
  obtain ⟨w, k, q, x1, x2, x3, x4, x5, x6, x7, x8, x9⟩ := SimW_T hh
  obtain ⟨t, rfl, n1, n2⟩ := n_ex (a := a) h1.1
  obtain ⟨R, ρ, τ, ω, y1, y2, y3, y4, y5, y6⟩ := SE_x k5 a6
  obtain ⟨mc', c1, c2⟩ := @c_moodB f c k R t K w mc S ρ τ ω (by omega) x1 x3 x5 x6 (by omega) y1 y2 y4 y6
  obtain ⟨mm', d1, d2, d3, d4, d5⟩ := @r_lays f k q R t K w mm S ρ τ ω (by omega) x2 x4 x7 x8 x5 x6 (by omega) y1 y3 y5 y6
  rw [c1, bd_some, d1, bd_some]
  have L : ∀ (j v n : Nat), v + j = 10 → j < n → FX12_moods_L19 f (fun e5 m6 => some (e5, m6)) n (Int32.ofNat (msk (fitM K S t R ρ τ ω) v)) (Int32.ofNat v) mm' = some (Int32.ofNat (msk (fitM K S t R ρ τ ω) 10), mm') := by
    intro j
    induction j with
    | zero =>
      intro v n h1 h2
      obtain ⟨n, rfl⟩ : ∃ z, n = z + 1 := ⟨n - 1, by omega⟩
      have : v = 10 := by omega
      subst this
      rw [FX12_moods_L19, if_pos (by decide)]
    | succ j ih =>
      intro v n h1 h2
      obtain ⟨n, rfl⟩ : ∃ z, n = z + 1 := ⟨n - 1, by omega⟩
      rw [FX12_moods_L19, if_neg (fun z => by rw [e10, n_le (by omega) (by omega)] at z; omega), if_pos ((n_in (by omega)).mpr (by omega)), n_nat (by omega), d4 v (by omega)]
      unfold FX12_moods_J40
      rw [s_1]
      have em : ∀ x : Nat, x = (if fitM K S t R ρ τ ω v = true then 2 ^ v else 0) → msk (fitM K S t R ρ τ ω) (v + 1) = msk (fitM K S t R ρ τ ω) v + x := fun x hx => by rw [hx]; rfl
      by_cases y : fitM K S t R ρ τ ω v = true
      · rw [if_pos y, if_neg n10, or10_all v (by omega) _ (msk_lt _ _), ← em _ (if_pos y).symm]
        exact ih (v + 1) n (by omega) (by omega)
      · rw [if_neg y, if_pos rfl]
        have := ih (v + 1) n (by omega) (by omega)
        rw [em 0 (if_neg y).symm, Nat.add_zero] at this
        exact this
  exact ⟨_, mc', mm', rfl, L 10 0 f (by omega) (by omega), c2, d2⟩)
/-! the answer that tells most -/
def cT (fit : Nat → Bool) (g : Nat → Int32) (x : Int32) : Nat → Nat := cnt (fun u => fit u && decide (g u = x))
def IsM (fit : Nat → Bool) (g : Nat → Int32) (M : Nat) : Prop := (∀ v, v < 10 → fit v = true → cT fit g (g v) 10 ≤ M) ∧ (M = 0 ∨ ∃ v, v < 10 ∧ fit v = true ∧ cT fit g (g v) 10 = M)
theorem IsM_le {fit : Nat → Bool} {g : Nat → Int32} {M M' : Nat} (h : IsM fit g M) (h' : IsM fit g M') : M ≤ M' := by
  rcases h.2 with z | ⟨v, z1, z2, z3⟩
  · omega
  · have := h'.1 v z1 z2; omega
theorem IsM_uniq {fit : Nat → Bool} {g : Nat → Int32} {M M' : Nat} (h : IsM fit g M) (h' : IsM fit g M') : M = M' := Nat.le_antisymm (IsM_le h h') (IsM_le h' h)
theorem IsM_10 {fit : Nat → Bool} {g : Nat → Int32} {M : Nat} (h : IsM fit g M) : M ≤ 10 := by
  rcases h.2 with z | ⟨v, z1, z2, z3⟩
  · omega
  · have : cT fit g (g v) 10 ≤ 10 := cnt_le _ _
    omega
def maR (fit : Nat → Bool) (g : Nat → Int32) : Nat → Nat → Nat → Nat
  | 0, _, a => a
  | j + 1, v, a => maR fit g j (v + 1) (if fit v = true then (if cT fit g (g v) 10 ≤ a then a else cT fit g (g v) 10) else a)
theorem maR_is {fit : Nat → Bool} {g : Nat → Int32} : ∀ j v a, v + j = 10 → (∀ u, u < v → fit u = true → cT fit g (g u) 10 ≤ a) → (a = 0 ∨ ∃ u, u < v ∧ fit u = true ∧ cT fit g (g u) 10 = a) → IsM fit g (maR fit g j v a) := by
  intro j
  induction j with
  | zero =>
    intro v a h1 h2 h3
    have : v = 10 := by omega
    subst this
    exact ⟨h2, h3⟩
  | succ j ih =>
    intro v a h1 h2 h3
    unfold maR
    by_cases z : fit v = true
    · rw [if_pos z]
      by_cases y : cT fit g (g v) 10 ≤ a
      · rw [if_pos y]
        refine ih (v + 1) a (by omega) (fun u hu hf => ?_) ?_
        · by_cases e : u = v
          · rw [e]; exact y
          · exact h2 u (by omega) hf
        · rcases h3 with q | ⟨u, q1, q2, q3⟩
          · exact Or.inl q
          · exact Or.inr ⟨u, by omega, q2, q3⟩
      · rw [if_neg y]
        refine ih (v + 1) _ (by omega) (fun u hu hf => ?_) (Or.inr ⟨v, by omega, z, rfl⟩)
        by_cases e : u = v
        · rw [e]; exact Nat.le_refl _
        · have := h2 u (by omega) hf; omega
    · rw [if_neg z]
      refine ih (v + 1) a (by omega) (fun u hu hf => ?_) ?_
      · by_cases e : u = v
        · rw [e] at hf; exact absurd hf z
        · exact h2 u (by omega) hf
      · rcases h3 with q | ⟨u, q1, q2, q3⟩
        · exact Or.inl q
        · exact Or.inr ⟨u, by omega, q2, q3⟩
def mxM (fit : Nat → Bool) (g : Nat → Int32) : Nat := maR fit g 10 0 0
theorem mxM_is (fit : Nat → Bool) (g : Nat → Int32) : IsM fit g (mxM fit g) := maR_is 10 0 0 (by omega) (fun u hu => by omega) (Or.inl rfl)
theorem r_alike {f r t : Nat} {fit : Nat → Bool} {g : Nat → Int32} {m : ev_M} (hf : 100 ≤ f) (hr : r < 31) (ht : t < 8) (h150 : ∀ u, u < 10 → m.1 150 u = if fit u = true then 1 else 0) (h149 : ∀ u, u < 10 → m.1 149 (ixM u r t) = g u) : FX12_mostAlike f (Int32.ofNat r) (Int32.ofNat t) m = some (Int32.ofNat (mxM fit g), m) := by
  have e10 : (10 : Int32) = Int32.ofNat 10 := rfl
  have e3 : (8 * Int32.ofNat r) + Int32.ofNat t = Int32.ofNat (8 * r + t) := by rw [show (8 : Int32) = Int32.ofNat 8 from rfl, n_mul, n_add]
  have ei : ∀ u, (248 * Int32.ofNat u) + Int32.ofNat (8 * r + t) = Int32.ofNat (ixM u r t) := fun u => by
    rw [show (248 : Int32) = Int32.ofNat 248 from rfl, n_mul, n_add]
    unfold ixM
    rw [show 248 * u + (8 * r + t) = 248 * u + 8 * r + t by omega]
  have I : ∀ (v : Nat), v < 10 → ∀ (kf : Int32 → ev_M → Option (Int32 × ev_M)) (j u n : Nat), u + j = 10 → j < n → FX12_mostAlike_L39 f kf (Int32.ofNat (8 * r + t)) (Int32.ofNat v) n (Int32.ofNat (cT fit g (g v) u)) (Int32.ofNat u) m = kf (Int32.ofNat (cT fit g (g v) 10)) m := by
    intro v hv kf j
    induction j with
    | zero =>
      intro u n h1 h2
      obtain ⟨n, rfl⟩ : ∃ z, n = z + 1 := ⟨n - 1, by omega⟩
      have : u = 10 := by omega
      subst this
      rw [FX12_mostAlike_L39, if_pos (by decide)]
    | succ j ih =>
      intro u n h1 h2
      obtain ⟨n, rfl⟩ : ∃ z, n = z + 1 := ⟨n - 1, by omega⟩
      have hiv : ixM v r t < 2480 := by unfold ixM; omega
      have hiu : ixM u r t < 2480 := by unfold ixM; omega
      rw [FX12_mostAlike_L39, if_neg (fun z => by rw [e10, n_le (by omega) (by omega)] at z; omega), if_pos ((n_in (by omega)).mpr (by omega)), n_nat (by omega), h150 u (by omega), ei, ei, if_pos ((n_in (by omega)).mpr hiv), if_pos ((n_in (by omega)).mpr hiu), n_nat (by omega), n_nat (by omega), h149 v hv, h149 u (by omega)]
      unfold FX12_mostAlike_J88
      rw [s_1 u]
      have ec : ∀ x : Nat, x = (if (fit u && decide (g u = g v)) = true then 1 else 0) → cT fit g (g v) (u + 1) = cT fit g (g v) u + x := fun x hx => by rw [hx]; rfl
      have hi := ih (u + 1) n (by omega) (by omega)
      by_cases z : fit u = true
      · rw [if_pos z, if_neg n10]
        by_cases y : g v = g u
        · rw [if_pos y, s_1, ← ec 1 (by rw [z, y]; simp)]
          exact hi
        · rw [if_neg y]
          have y' : ¬ g u = g v := fun q => y q.symm
          rw [ec 0 (by simp [y']), Nat.add_zero] at hi
          exact hi
      · rw [if_neg z, if_pos rfl]
        rw [ec 0 (by simp [z]), Nat.add_zero] at hi
        exact hi
  have L : ∀ (j v n a : Nat), v + j = 10 → j < n → a ≤ 10 → FX12_mostAlike_L13 f (fun e3 m4 => some (e3, m4)) (Int32.ofNat (8 * r + t)) n (Int32.ofNat a) (Int32.ofNat v) m = some (Int32.ofNat (maR fit g j v a), m) := by
    intro j
    induction j with
    | zero =>
      intro v n a h1 h2 h3
      obtain ⟨n, rfl⟩ : ∃ z, n = z + 1 := ⟨n - 1, by omega⟩
      have : v = 10 := by omega
      subst this
      rw [FX12_mostAlike_L13, if_pos (by decide)]
      rfl
    | succ j ih =>
      intro v n a h1 h2 h3
      obtain ⟨n, rfl⟩ : ∃ z, n = z + 1 := ⟨n - 1, by omega⟩
      have hc : cT fit g (g v) 10 ≤ 10 := cnt_le _ _
      rw [FX12_mostAlike_L13, if_neg (fun z => by rw [e10, n_le (by omega) (by omega)] at z; omega), if_pos ((n_in (by omega)).mpr (by omega)), n_nat (by omega), h150 v (by omega)]
      unfold FX12_mostAlike_J105 maR
      rw [s_1]
      by_cases z : fit v = true
      · rw [if_pos z, if_neg n10, if_pos z]
        have i1 := I v (by omega) (fun e1 m2 => (if e1 ≤ Int32.ofNat a then (FX12_mostAlike_L13 f (fun e3 m4 => some (e3, m4)) (Int32.ofNat (8 * r + t)) n (Int32.ofNat a) (Int32.ofNat (v + 1)) m2) else (FX12_mostAlike_L13 f (fun e3 m4 => some (e3, m4)) (Int32.ofNat (8 * r + t)) n e1 (Int32.ofNat (v + 1)) m2))) 10 0 f (by omega) (by omega)
        rw [show Int32.ofNat (cT fit g (g v) 0) = (0 : Int32) from rfl, z0] at i1
        rw [i1]
        by_cases y : cT fit g (g v) 10 ≤ a
        · rw [if_pos ((n_le (by omega) (by omega)).mpr y), if_pos y]
          exact ih (v + 1) n a (by omega) (by omega) h3
        · rw [if_neg (fun q => y ((n_le (by omega) (by omega)).mp q)), if_neg y]
          exact ih (v + 1) n _ (by omega) (by omega) hc
      · rw [if_neg z, if_pos rfl, if_neg z]
        exact ih (v + 1) n a (by omega) (by omega) h3
  unfold FX12_mostAlike
  rw [e3]
  exact L 10 0 f 0 (by omega) (by omega) (by omega)
