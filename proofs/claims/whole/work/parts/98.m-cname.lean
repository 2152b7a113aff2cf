/-! NAMES as they should be read, and the class's reading -/
def own (r : Option Nat) : Bool := r.elim false (fun w => decide (w < 23))
def yNm (β : Nat → Int32) (E : Nat) (x : Nat × Bool × List Nat) : Yr := if tkK β E x.1 x.2.1 = 1 ∧ own (yI β E (.inr x)) = false then (if tkN β E x.1 ≤ 6 then .inr x else .inl (1, sk β E x.1 + 6)) else .inl (1, sk β E x.1)
def nmL (β : Nat → Int32) (E p : Nat) : Nat → Int32 := fun k => if k < tkN β E p then β (sk β E p + k) - 97 + 1 else 0
def sameN (nm : Nat → Nat → Int32) (g : Nat → Int32) (t : Nat) : Bool := allB (fun k => decide (nm t k = g k)) 6
def fnd (T : Nat) (nm : Nat → Nat → Int32) (g : Nat → Int32) : Option Nat := idx (sameN nm g) T 0
section
variable {f E : Nat} {β : Nat → Int32}
theorem yNm_r {x x' : Nat × Bool × List Nat} (h : yNm β E x = .inr x') : x' = x ∧ tkK β E x.1 x.2.1 = 1 ∧ tkN β E x.1 ≤ 6 ∧ own (yI β E (.inr x)) = false := by
  unfold yNm at h
  by_cases z : tkK β E x.1 x.2.1 = 1 ∧ own (yI β E (.inr x)) = false
  · rw [if_pos z] at h
    by_cases y : tkN β E x.1 ≤ 6
    · rw [if_pos y] at h
      exact ⟨(Sum.inr.inj h).symm, z.1, y, z.2⟩
    · rw [if_neg y] at h; cases h
  · rw [if_neg z] at h; cases h
theorem c_J57N {m : ev_M} {y : Yr} (h : YC β E m y) : FX10_checkName_J57 f m = some (if y.isRight = true then 1 else 0, m) := by
  unfold FX10_checkName_J57
  rw [cy_good h, bd_some]
  split
  · rw [if_pos (Or.inr rfl)]
  · rw [if_pos (Or.inl rfl)]
theorem tkN_le {p : Nat} (hp : p ≤ E) : sk β E p + tkN β E p ≤ E := tkB_le (β := β) hp
theorem c_check {m : ev_M} {x : Nat × Bool × List Nat} (h : YC β E m (.inr x)) : ∃ m', FX10_checkName f m = some (if (yNm β E x).isRight = true then 1 else 0, m') ∧ YC β E m' (yNm β E x) := by
  have hh : CT β E m x.1 x.2.1 := h
  obtain ⟨a1, a2, a3, a4, a5, a6, a7, a8⟩ := hh
  have hk := tkK_le β E x.1 x.2.1
  have hsk := sk_le (β := β) a2
  have hE := a1.1
  have hN := tkN_le (β := β) a2
  have J24 : yNm β E x = .inl (1, sk β E x.1) → ∃ m', FX10_checkName_J24 f m = some (if (yNm β E x).isRight = true then 1 else 0, m') ∧ YC β E m' (yNm β E x) := by
    intro e
    obtain ⟨m1, r1, r2⟩ := @cy_fail f E β m (.inr x) h 1 (by omega) (by omega)
    have r1' : FX10_fail f 1 (m.1 13 2) m = some ((), m1) := r1
    unfold FX10_checkName_J24
    rw [r1', bd_some, c_J57N r2, e]
    exact ⟨m1, rfl, r2⟩
  have J36 : yNm β E x = (if tkN β E x.1 ≤ 6 then .inr x else .inl (1, sk β E x.1 + 6)) → ∃ m', FX10_checkName_J36 f m = some (if (yNm β E x).isRight = true then 1 else 0, m') ∧ YC β E m' (yNm β E x) := by
    intro e
    unfold FX10_checkName_J36
    rw [a7]
    by_cases z : tkN β E x.1 ≤ 6
    · rw [if_pos z] at e
      rw [if_pos (by rw [show (6 : Int32) = Int32.ofNat 6 from rfl, n_le (by omega) (by omega)]; exact z), c_J57N h, e]
      exact ⟨m, rfl, h⟩
    · rw [if_neg z] at e
      have hf1 : FX10_fail f 1 (m.1 13 2 + 6) m = some ((), (ev_up (ev_up (ev_up m.1 13 3 1) 13 4 (m.1 13 2 + 6)) 13 5 4, m.2)) := by
        unfold FX10_fail; rw [if_pos a3]
      have hcb : CB (ev_up (ev_up (ev_up m.1 13 3 1) 13 4 (m.1 13 2 + 6)) 13 5 4, m.2) (1, sk β E x.1 + 6) := by
        refine ⟨Nat.le_refl 1, (show 1 ≤ 5 by decide), ?_, ?_, ?_, upI_at _ _ _ _ _⟩
        · show sk β E x.1 + 6 ≤ 2000
          omega
        · rw [upI_nk _ _ _ _ (by decide), up_nk _ _ _ (by decide), up_at]; rfl
        · rw [upI_nk _ _ _ _ (by decide), up_at, a6]; exact n_add _ 6
      have hY : YC β E (ev_up (ev_up (ev_up m.1 13 3 1) 13 4 (m.1 13 2 + 6)) 13 5 4, m.2) (.inl (1, sk β E x.1 + 6)) := hcb
      rw [if_neg (by rw [show (6 : Int32) = Int32.ofNat 6 from rfl, n_le (by omega) (by omega)]; exact z), hf1, bd_some, c_J57N hY, e]
      exact ⟨_, rfl, hcb⟩
  unfold FX10_checkName
  by_cases z : tkK β E x.1 x.2.1 = 1
  rotate_left
  · rw [if_neg (by rw [a5]; exact fun q => z ((n_is 1 1 rfl (by omega) (by omega)).mp q))]
    exact J24 (if_neg (fun q => z q.1))
  have hi : yI β E (.inr x) = wv β (sk β E x.1) (rl isL β E (sk β E x.1)) := if_pos z
  have e7 : m.1 13 7 = oi (yI β E (.inr x)) := by rw [a8 (by omega), (tkV_1 z).1, hi]
  rw [if_pos (by rw [a5, z]; rfl), e7]
  cases hr : yI β E (.inr x) with
  | none =>
    rw [if_pos (show oi none < 0 by decide)]
    exact J36 (if_pos ⟨z, by rw [hr]; rfl⟩)
  | some w =>
    have hw := yI_lt hr
    rw [show oi (some w) = Int32.ofNat w from rfl, if_neg (show ¬ Int32.ofNat w < 0 from fun q => by rw [i_lt, n_int (by omega), e0'] at q; omega)]
    by_cases y : 23 ≤ w
    · rw [if_pos (show (23 : Int32) ≤ Int32.ofNat w from (n_le (a := 23) (by omega) (by omega)).mpr y)]
      exact J36 (if_pos ⟨z, by rw [hr]; exact decide_eq_false (by omega)⟩)
    · rw [if_neg (show ¬ (23 : Int32) ≤ Int32.ofNat w from fun q => y ((n_le (a := 23) (by omega) (by omega)).mp q))]
      exact J24 (if_neg (fun q => by
        have := q.2
        rw [hr] at this
        exact absurd (show decide (w < 23) = true from decide_eq_true (by omega)) (by rw [show decide (w < 23) = false from this]; decide)))
theorem c_letter {m : ev_M} {p k : Nat} {w : Bool} (h : CT β E m p w) (hk : k < 6) : FX10_nameLetter f (Int32.ofNat k) m = some (nmL β E p k, m) := by
  obtain ⟨a1, a2, a3, a4, a5, a6, a7, a8⟩ := h
  have hsk := sk_le (β := β) a2
  have hE := a1.1
  have hN := tkN_le (β := β) a2
  unfold FX10_nameLetter nmL
  rw [if_neg (show ¬ Int32.ofNat k < 0 from fun q => by rw [i_lt, n_int (by omega), e0'] at q; omega), a7]
  by_cases z : k < tkN β E p
  · rw [if_neg (fun q => by rw [n_le (by omega) (by omega)] at q; omega), a1.2.1, a6, n_add, if_neg (fun q => by rw [n_le (by omega) (by omega)] at q; omega), if_pos ((n_in (by omega)).mpr (by omega)), n_nat (by omega), a1.2.2 _ (by omega), if_pos z]
  · rw [if_pos ((n_le (by omega) (by omega)).mpr (by omega)), if_neg z]
theorem c_findK {m : ev_M} {o p t : Nat} {w : Bool} {nm : Nat → Nat → Int32} {kf : Int32 → ev_M → Option (Int32 × ev_M)} (h : CT β E m p w) (ht : t < 8) (hN : ∀ k, k < 6 → m.1 (o + 1) (6 * t + k) = nm t k) : ∀ (j k n : Nat), k + j = 6 → j < n → FX1_find_L15 f kf o (Int32.ofNat t) n (if allB (fun k => decide (nm t k = nmL β E p k)) k = true then 1 else 0) (Int32.ofNat k) m = kf (if sameN nm (nmL β E p) t = true then 1 else 0) m := by
  intro j
  induction j with
  | zero =>
    intro k n h1 h2
    obtain ⟨n, rfl⟩ : ∃ z, n = z + 1 := ⟨n - 1, by omega⟩
    have : k = 6 := by omega
    subst this
    rw [FX1_find_L15, if_pos (by decide)]
    rfl
  | succ j ih =>
    intro k n h1 h2
    obtain ⟨n, rfl⟩ : ∃ z, n = z + 1 := ⟨n - 1, by omega⟩
    rw [FX1_find_L15, if_neg (fun q => by rw [show (6 : Int32) = Int32.ofNat 6 from rfl, n_le (by omega) (by omega)] at q; omega)]
    unfold FX1_find_J51 FX1_find_J52
    have ih' := ih (k + 1) n (by omega) (by omega)
    have eA : allB (fun k => decide (nm t k = nmL β E p k)) (k + 1) = (allB (fun k => decide (nm t k = nmL β E p k)) k && decide (nm t k = nmL β E p k)) := rfl
    rw [s_1]
    by_cases z : allB (fun k => decide (nm t k = nmL β E p k)) k = true
    · rw [if_pos z, if_neg n10, show (Int32.ofNat t * 6) + Int32.ofNat k = Int32.ofNat (6 * t + k) from by rw [show (6 : Int32) = Int32.ofNat 6 from rfl, n_mul, n_add]; congr 1; omega, if_pos ((n_in (by omega)).mpr (by omega)), c_letter h (by omega), bd_some, n_nat (by omega), hN k (by omega)]
      by_cases y : nm t k = nmL β E p k
      · rw [if_pos y]
        rw [eA, z, decide_eq_true y] at ih'
        exact ih'
      · rw [if_neg y]
        rw [eA, z, decide_eq_false y] at ih'
        exact ih'
    · rw [if_neg z, if_pos rfl]
      have z' : allB (fun k => decide (nm t k = nmL β E p k)) k = false := by simpa using z
      rw [eA, z', Bool.false_and] at ih'
      exact ih'
theorem c_find {m : ev_M} {o p T : Nat} {w : Bool} {nm : Nat → Nat → Int32} (hf : 4000 ≤ f) (h : CT β E m p w) (hT : T ≤ 8) (h5 : m.1 o 5 = Int32.ofNat T) (hN : ∀ t k, t < T → k < 6 → m.1 (o + 1) (6 * t + k) = nm t k) : FX1_find f o m = some (oi (fnd T nm (nmL β E p)), m) := by
  have L : ∀ (j t n : Nat), t + j = T → j < n → FX1_find_L2 f (fun m5 => some ((-1), m5)) o n (Int32.ofNat t) m = some (oi (idx (sameN nm (nmL β E p)) j t), m) := by
    intro j
    induction j with
    | zero =>
      intro t n h1 h2
      obtain ⟨n, rfl⟩ : ∃ z, n = z + 1 := ⟨n - 1, by omega⟩
      rw [FX1_find_L2, h5, if_pos ((n_le (by omega) (by omega)).mpr (by omega))]
      rfl
    | succ j ih =>
      intro t n h1 h2
      obtain ⟨n, rfl⟩ : ∃ z, n = z + 1 := ⟨n - 1, by omega⟩
      rw [FX1_find_L2, h5, if_neg (fun q => by rw [n_le (by omega) (by omega)] at q; omega)]
      have := @c_findK f E β m o p t w nm (fun e3 m4 => (if e3 = 0 then (FX1_find_L2 f (fun m5 => some ((-1), m5)) o n (Int32.ofNat t + 1) m4) else some (Int32.ofNat t, m4))) h (by omega) (fun k hk => hN t k (by omega) hk) 6 0 f (by omega) (by omega)
      rw [show (if allB (fun k => decide (nm t k = nmL β E p k)) 0 = true then (1 : Int32) else 0) = 1 from rfl, z0] at this
      rw [this]
      show _ = some (oi (if sameN nm (nmL β E p) t = true then some t else idx (sameN nm (nmL β E p)) j (t + 1)), m)
      by_cases z : sameN nm (nmL β E p) t = true
      · rw [if_pos z, if_neg n10, if_pos z]; rfl
      · rw [if_neg z, if_pos rfl, if_neg z, s_1]
        exact ih (t + 1) n (by omega) (by omega)
  unfold FX1_find fnd
  exact L T 0 f (by omega) (by omega)
end
