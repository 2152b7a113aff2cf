/-! the reference: NAMES -/
theorem b27_bd {g : Nat → Int32} : ∀ n, (∀ k, k < n → 1 ≤ (g k).toInt ∧ (g k).toInt ≤ 26) → 0 ≤ b27 g n ∧ b27 g n < (27 : Int) ^ n := by
  intro n
  induction n with
  | zero => intro _; exact ⟨Int.le_refl _, (show (0 : Int) < 27 ^ 0 by decide)⟩
  | succ n ih =>
    intro h
    have i1 := ih (fun k hk => h k (by omega))
    have h1 := h n (by omega)
    rw [Int.pow_succ]
    show 0 ≤ 27 * b27 g n + (g n).toInt ∧ 27 * b27 g n + (g n).toInt < _
    omega
theorem p27w {i : Nat} (h : i ≤ 6) : (27 : Int) ^ i ≤ 387420489 := by
  have cs : i = 0 ∨ i = 1 ∨ i = 2 ∨ i = 3 ∨ i = 4 ∨ i = 5 ∨ i = 6 := by omega
  rcases cs with h | h | h | h | h | h | h <;> subst h <;> decide
theorem b27_inj {g g' : Nat → Int32} : ∀ n n', (∀ k, k < n → 1 ≤ (g k).toInt ∧ (g k).toInt ≤ 26) → (∀ k, k < n' → 1 ≤ (g' k).toInt ∧ (g' k).toInt ≤ 26) → b27 g n = b27 g' n' → n = n' ∧ ∀ k, k < n → g k = g' k := by
  intro n
  induction n with
  | zero =>
    intro n' _ h' e
    cases n' with
    | zero => exact ⟨rfl, fun k hk => by omega⟩
    | succ n' =>
      have i1 := b27_bd n' (fun k hk => h' k (by omega))
      have h1 := h' n' (by omega)
      have e' : (0 : Int) = 27 * b27 g' n' + (g' n').toInt := e
      omega
  | succ n ih =>
    intro n' h h' e
    cases n' with
    | zero =>
      have i1 := b27_bd n (fun k hk => h k (by omega))
      have h1 := h n (by omega)
      have e' : 27 * b27 g n + (g n).toInt = (0 : Int) := e
      omega
    | succ n' =>
      have h1 := h n (by omega)
      have h2 := h' n' (by omega)
      have e' : 27 * b27 g n + (g n).toInt = 27 * b27 g' n' + (g' n').toInt := e
      obtain ⟨q1, q2⟩ := ih n' (fun k hk => h k (by omega)) (fun k hk => h' k (by omega)) (by omega)
      subst q1
      refine ⟨rfl, fun k hk => ?_⟩
      by_cases z : k = n
      · rw [z]; exact i_eq.mpr (by omega)
      · exact q2 k (by omega)
theorem b27_congr {g g' : Nat → Int32} : ∀ n, (∀ k, k < n → g k = g' k) → b27 g n = b27 g' n := by
  intro n
  induction n with
  | zero => intro _; rfl
  | succ n ih =>
    intro h
    show 27 * b27 g n + (g n).toInt = 27 * b27 g' n + (g' n).toInt
    rw [ih (fun k hk => h k (by omega)), h n (by omega)]
theorem NM_inj {g g' : Nat → Int32} {v v' : Int64} (h : NM g v) (h' : NM g' v') : v.toInt = v'.toInt ↔ ∀ k, k < 6 → g k = g' k := by
  obtain ⟨n, a1, a2, a3, a4, a5⟩ := h
  obtain ⟨n', b1, b2, b3, b4, b5⟩ := h'
  constructor
  · intro e
    rw [a5, b5] at e
    obtain ⟨q1, q2⟩ := b27_inj n n' a3 b3 e
    subst q1
    intro k hk
    by_cases z : k < n
    · exact q2 k z
    · rw [a4 k (by omega) hk, b4 k (by omega) hk]
  · intro e
    have hn : n = n' := by
      by_cases z1 : n < n'
      · have q := b3 n z1
        rw [← e n (by omega), a4 n (Nat.le_refl _) (by omega), e0'] at q
        omega
      · by_cases z2 : n' < n
        · have q := a3 n' z2
          rw [e n' (by omega), b4 n' (Nat.le_refl _) (by omega), e0'] at q
          omega
        · omega
    subst hn
    rw [a5, b5]
    exact b27_congr n (fun k hk => e k (by omega))
section
variable {f E : Nat} {β : Nat → Int32}
theorem nmL_v {p k : Nat} {w : Bool} (hk : tkK β E p w = 1) (h : k < tkN β E p) : (nmL β E p k).toInt = (β (sk β E p + k)).toInt - 96 ∧ 97 ≤ (β (sk β E p + k)).toInt ∧ (β (sk β E p + k)).toInt ≤ 122 := by
  have hl : isL (β (sk β E p + k)) = true := by
    rw [(tkV_1 hk).2] at h
    exact rl_all h
  unfold isL at hl
  have hb := of_decide_eq_true hl
  unfold nmL
  rw [if_pos h]
  have e97 : (97 : Int32).toInt = 97 := rfl
  have e1 : (1 : Int32).toInt = 1 := rfl
  have s1 : (β (sk β E p + k) - 97).toInt = (β (sk β E p + k)).toInt - 97 := by rw [i_sub (by rw [e97]; omega) (by rw [e97]; omega), e97]
  rw [i_add (by rw [s1, e1]; omega) (by rw [s1, e1]; omega), s1, e1]
  omega
theorem nmL_NM {p : Nat} {w : Bool} {v : Int64} (hk : tkK β E p w = 1) (h6 : tkN β E p ≤ 6) (hv : v.toInt = b27 (nmL β E p) (tkN β E p)) : NM (nmL β E p) v := by
  refine ⟨tkN β E p, tkN_pos (tkK_lt (w := w) (by omega)), h6, fun k hk' => ?_, fun k h1 h2 => ?_, hv⟩
  · have := nmL_v hk hk'
    omega
  · unfold nmL; rw [if_neg (by omega)]
theorem r_nmL (k : Int64 → ev_M → Option (Int64 × ev_M)) {p : Nat} {w : Bool} (hp : p ≤ E) (hk : tkK β E p w = 1) : ∀ (j n i : Nat) (v : Int64) (m : ev_M), tkN β E p - i = j → j < n → i ≤ tkN β E p → i ≤ 6 → TR0 β E m → m.1 112 5 = 0 → m.1 112 33 = Int32.ofNat (sk β E p) → m.1 112 2 = Int32.ofNat (sk β E p + i) → v.toInt = b27 (nmL β E p) i → (tkN β E p ≤ 6 ∧ ∃ v' m', FX12_name_L58 f k n v m = k v' m' ∧ v'.toInt = b27 (nmL β E p) (tkN β E p) ∧ m'.1 112 2 = Int32.ofNat (sk β E p + tkN β E p) ∧ on2 m m') ∨ (6 < tkN β E p ∧ ∃ m', FX12_name_L58 f k n v m = some (0, m') ∧ RB m' (1, sk β E p + 6)) := by
  have hN := tkN_le (β := β) hp
  have eN := (tkV_1 hk).2
  intro j
  induction j with
  | zero =>
    intro n i v m h1 hn hi hi6 h3 h5 h33 h2 hv
    have hE := h3.1
    obtain ⟨n, rfl⟩ : ∃ i, n = i + 1 := ⟨n - 1, by omega⟩
    have ei : i = tkN β E p := by omega
    left
    refine ⟨by omega, v, m, ?_, by rw [← ei]; exact hv, by rw [← ei]; exact h2, on2_refl m⟩
    unfold FX12_name_L58
    rw [h3.2.1, h2]
    by_cases z : sk β E p + i < E
    · have hd := (rl_p isL β E _ (sk β E p) rfl).2.2 (by rw [← eN, ← ei]; exact z)
      rw [← eN, ← ei] at hd
      rw [if_neg (fun x => by rw [n_le (by omega) (by omega)] at x; omega), if_pos ((n_in (by omega)).mpr (by omega)), n_nat (by omega), h3.2.2 _ (by omega), r_isL, bd_some, if_neg (show ¬ isL (β (sk β E p + i)) = true by rw [hd]; decide), if_pos rfl]
    · rw [if_pos ((n_le (by omega) (by omega)).mpr (by omega))]
  | succ j ih =>
    intro n i v m h1 hn hi hi6 h3 h5 h33 h2 hv
    have hE := h3.1
    obtain ⟨n, rfl⟩ : ∃ i, n = i + 1 := ⟨n - 1, by omega⟩
    have hd : isL (β (sk β E p + i)) = true := rl_all (by rw [← eN]; omega)
    have hl := nmL_v hk (show i < tkN β E p by omega)
    unfold FX12_name_L58
    rw [h3.2.1, h2, if_neg (fun x => by rw [n_le (by omega) (by omega)] at x; omega), if_pos ((n_in (by omega)).mpr (by omega)), n_nat (by omega), h3.2.2 _ (by omega), r_isL, bd_some, if_pos hd, if_neg n10, h2, h33, n_sub (by omega), show sk β E p + i - sk β E p = i by omega]
    by_cases z : i = 6
    · right
      refine ⟨by omega, ?_⟩
      rw [if_pos (by rw [z]; rfl)]
      unfold FX12_fail
      rw [if_pos h5, bd_some]
      refine ⟨_, rfl, Nat.le_refl 1, (show 1 ≤ 5 by decide), (show sk β E p + 6 ≤ 2000 by omega), ?_, ?_⟩
      · rw [upI_nk _ _ _ _ (by decide), up_at]; rfl
      · rw [upI_at, z]
    · rw [if_neg (fun q => z ((n_is 6 6 rfl (by omega) (by omega)).mp q)), if_pos ((n_in (by omega)).mpr (by omega)), n_nat (by omega), h3.2.2 _ (by omega), s_1]
      have hb := b27_bd (g := nmL β E p) i (fun k hk' => by have := nmL_v hk (show k < tkN β E p by omega); omega)
      have hp27 := p27w (show i ≤ 6 by omega)
      have e27 : ((27 : Int64)).toInt = 27 := rfl
      have e97 : ((97 : Int64)).toInt = 97 := rfl
      have v1 : (27 * v).toInt = 27 * b27 (nmL β E p) i := by rw [j_mul (by rw [e27, hv]; omega) (by rw [e27, hv]; omega), e27, hv]
      have v2 : (27 * v + (β (sk β E p + i)).toInt64).toInt = 27 * b27 (nmL β E p) i + (β (sk β E p + i)).toInt := by rw [j_add (by rw [v1, j_wide]; omega) (by rw [v1, j_wide]; omega), v1, j_wide]
      have v3 : (27 * v + (β (sk β E p + i)).toInt64 - 97).toInt = 27 * b27 (nmL β E p) i + (β (sk β E p + i)).toInt - 97 := by rw [j_sub (by rw [v2, e97]; omega) (by rw [v2, e97]; omega), v2, e97]
      have v4 : (27 * v + (β (sk β E p + i)).toInt64 - 97 + 1).toInt = b27 (nmL β E p) (i + 1) := by
        rw [j_add (by rw [v3, j_1]; omega) (by rw [v3, j_1]; omega), v3, j_1]
        show _ = 27 * b27 (nmL β E p) i + (nmL β E p i).toInt
        omega
      rcases ih n (i + 1) _ (ev_up m.1 112 2 (Int32.ofNat (sk β E p + i + 1)), m.2) (by omega) (by omega) (by omega) (by omega) (TR0_on2 h3 (on2_up m _)) (by rw [upI_nk _ _ _ _ (by decide)]; exact h5) (by rw [upI_nk _ _ _ _ (by decide)]; exact h33) (upI_at _ _ _ _ _) v4 with ⟨q1, v', m', q2, q2', q3, q4⟩ | ⟨q1, m', q2, q3⟩
      · exact Or.inl ⟨q1, v', m', q2, q2', q3, on2_tr (on2_up m _) q4⟩
      · exact Or.inr ⟨q1, m', q2, q3⟩
theorem r_name {m : ev_M} {x : Nat × Bool × List Nat} (hf : 4000 ≤ f) (hw : WA m) (h : YT β E m (.inr x)) : (∀ x', yNm β E x = .inr x' → ∃ v m', FX12_name f m = some (v, m') ∧ YT β E m' (yad β E (.inr x)) ∧ m'.1 112 33 = Int32.ofNat (sk β E x.1) ∧ NM (nmL β E x.1) v) ∧ (∀ e, yNm β E x = .inl e → ∃ v m', FX12_name f m = some (v, m') ∧ RB m' e) := by
  have h0 : RT β E m x.1 x.2.1 := h
  obtain ⟨m1, r1, r2, r3, r4⟩ := r_look hf h0
  have hE := r3.1.1
  have hp : x.1 ≤ E := r3.2.1
  have hsk := sk_le (β := β) hp
  have hge := sk_ge β E x.1
  have hN := tkN_le (β := β) hp
  have J37 : ∀ m2 : ev_M, YT β E m2 (.inr x) → AT β E m2 (.inr x) → yNm β E x = .inl (1, sk β E x.1) → (∀ x', yNm β E x = .inr x' → ∃ v m', FX12_name_J37 f m2 = some (v, m') ∧ YT β E m' (yad β E (.inr x)) ∧ m'.1 112 33 = Int32.ofNat (sk β E x.1) ∧ NM (nmL β E x.1) v) ∧ (∀ e, yNm β E x = .inl e → ∃ v m', FX12_name_J37 f m2 = some (v, m') ∧ RB m' e) := by
    intro m2 q1 q2 q3
    obtain ⟨m3, s1, s2⟩ := @yt_fail f E β m2 (.inr x) 1 q1 q2 (by omega) (by omega)
    have s1' : FX12_fail f 1 (m2.1 112 2) m2 = some ((), m3) := s1
    unfold FX12_name_J37
    rw [s1', bd_some, q3]
    exact ⟨fun x' e => by (cases e), fun e he => by cases he; exact ⟨0, m3, rfl, s2⟩⟩
  have a1 : AT β E m1 (.inr x) := fun x' e => by cases e; exact r2
  unfold FX12_name
  rw [if_pos h0.2.2.1, r1, bd_some, r_isL, bd_some]
  by_cases z1 : isL (lk β E x.1) = true
  rotate_left
  · rw [if_neg z1, if_pos rfl]
    refine J37 m1 r3 a1 (if_neg (fun q => z1 ?_))
    have := tkK_1 q.1
    unfold lk
    rw [if_pos this.1]
    exact this.2
  rw [if_pos z1, if_neg n10]
  have hlt : sk β E x.1 < E := by
    unfold lk at z1
    by_cases q : sk β E x.1 < E
    · exact q
    · rw [if_neg q] at z1; exact absurd z1 (by decide)
  have hL : isL (β (sk β E x.1)) = true := by
    unfold lk at z1
    rw [if_pos hlt] at z1
    exact z1
  have hcond : m1.1 112 2 = m1.1 112 4 ↔ (x.2.1 = true ∧ sk β E x.1 = x.1) := by
    have h8 := r3.2.2.2.2.2
    rw [r2]
    by_cases q : x.2.1 = true
    · rw [if_pos q] at h8
      rw [h8, n_eq (by omega) (by omega)]
      exact ⟨fun e => ⟨q, e⟩, fun e => e.2⟩
    · rw [if_neg q] at h8
      constructor
      · intro e
        rw [← e, n_int (by omega)] at h8
        omega
      · intro e; exact absurd e.1 q
  by_cases z2 : x.2.1 = true ∧ sk β E x.1 = x.1
  · rw [if_pos (hcond.mpr z2)]
    refine J37 m1 r3 a1 (if_neg (fun q => ?_))
    have q1 := q.1
    unfold tkK at q1
    rw [if_neg (by omega), if_pos hL, if_pos z2] at q1
    omega
  have hk : tkK β E x.1 x.2.1 = 1 := by unfold tkK; rw [if_neg (by omega), if_pos hL, if_neg z2]
  rw [if_neg (fun q => z2 (hcond.mp q))]
  obtain ⟨m8, s1, s2, s3, s4⟩ := @r_own f E β m1 x hf (WA_on2 hw r4) r3
  rw [s1, bd_some]
  by_cases z3 : own (yI β E (.inr x)) = true
  · rw [if_pos z3, if_neg n10]
    exact J37 m8 s2 s3 (if_neg (fun q => by rw [z3] at q; exact absurd q.2 (by decide)))
  have z3' : own (yI β E (.inr x)) = false := by simpa using z3
  rw [if_neg z3, if_pos rfl]
  have s2' : RT β E m8 x.1 x.2.1 := s2
  have e2 : m8.1 112 2 = Int32.ofNat (sk β E x.1) := s3 x rfl
  rw [e2]
  have eY : yNm β E x = if tkN β E x.1 ≤ 6 then .inr x else .inl (1, sk β E x.1 + 6) := if_pos ⟨hk, z3'⟩
  have g33 : ∀ a k, ¬ (a = 112 ∧ k = 33) → ((ev_up m8.1 112 33 (Int32.ofNat (sk β E x.1)), m8.2) : ev_M).1 a k = m8.1 a k := fun a k z => by
    by_cases e : a = 112
    · subst e; rw [upI_nk _ _ _ _ (by omega)]
    · rw [upI_na _ _ _ _ e]
  rcases @r_nmL f E β (fun e13 m14 => some (e13, ((ev_up m14.1 112 4 (m14.1 112 2)), m14.2))) x.1 x.2.1 hp hk (tkN β E x.1 - 0) f 0 0 (ev_up m8.1 112 33 (Int32.ofNat (sk β E x.1)), m8.2) rfl (by omega) (by omega) (by omega) (TR0_fr s2'.1 (fun a k z => g33 a k (by omega))) (by rw [g33 _ _ (by omega)]; exact s2'.2.2.1) (upI_at _ _ _ _ _) (by rw [g33 _ _ (by omega)]; exact e2) rfl with ⟨q1, v', m', q2, q2', q3, q4⟩ | ⟨q1, m', q2, q3⟩
  · rw [q2, eY, if_pos q1]
    refine ⟨fun x' _ => ?_, fun e he => by cases he⟩
    have hfr : ∀ a k, ¬ (a = 112 ∧ k = 4) → ((ev_up m'.1 112 4 (m'.1 112 2), m'.2) : ev_M).1 a k = m'.1 a k := fun a k z => by
      by_cases e : a = 112
      · subst e; rw [upI_nk _ _ _ _ (by omega)]
      · rw [upI_na _ _ _ _ e]
    have hm : ∀ a k, ¬ (a = 112 ∧ (k = 2 ∨ k = 4 ∨ k = 33)) → ((ev_up m'.1 112 4 (m'.1 112 2), m'.2) : ev_M).1 a k = m8.1 a k := fun a k z => by rw [hfr a k (by omega), q4.2 a k (by omega), g33 a k (by omega)]
    refine ⟨v', _, rfl, ?_, ?_, nmL_NM hk q1 q2'⟩
    · show RT β E _ (tkB β E x.1) (tkW β E x.1 x.2.1)
      refine ⟨TR0_fr s2'.1 (fun a k z => hm a k (by omega)), tkB_le hp, by rw [hm _ _ (by omega)]; exact s2'.2.2.1, by rw [hm _ _ (by omega)]; exact s2'.2.2.2.1, ⟨tkB β E x.1, Nat.le_refl _, sk_ge _ _ _, by rw [hfr _ _ (by omega), q3]; rfl⟩, ?_⟩
      rw [tkW_k hk, if_pos (by decide), upI_at, q3]; rfl
    · rw [hfr _ _ (by omega), q4.2 _ _ (by omega), upI_at]
  · rw [q2, eY, if_neg (by omega)]
    exact ⟨fun x' e => by (cases e), fun e he => by cases he; exact ⟨0, m', rfl, q3⟩⟩
theorem r_nmOf0 {m : ev_M} {T : Nat} {v : Int64} (hf : 4000 ≤ f) (hT : T ≤ 8) (h35 : m.1 112 35 = Int32.ofNat T) : ∃ r, FX12_nameOf f v m = some (r, m) := by
  have L : ∀ (j t n : Nat), t + j = T → j < n → ∃ r, FX12_nameOf_L2 f (fun m1 => some ((-1), m1)) v n (Int32.ofNat t) m = some (r, m) := by
    intro j
    induction j with
    | zero =>
      intro t n h1 h2
      obtain ⟨n, rfl⟩ : ∃ z, n = z + 1 := ⟨n - 1, by omega⟩
      rw [FX12_nameOf_L2, h35, if_pos ((n_le (by omega) (by omega)).mpr (by omega))]
      exact ⟨_, rfl⟩
    | succ j ih =>
      intro t n h1 h2
      obtain ⟨n, rfl⟩ : ∃ z, n = z + 1 := ⟨n - 1, by omega⟩
      rw [FX12_nameOf_L2, h35, if_neg (fun q => by rw [n_le (by omega) (by omega)] at q; omega), if_pos ((n_in (by omega)).mpr (by omega)), s_1]
      split
      · exact ⟨_, rfl⟩
      · exact ih (t + 1) n (by omega) (by omega)
  unfold FX12_nameOf
  exact L T 0 f (by omega) (by omega)
theorem r_nmOf {m : ev_M} {T : Nat} {v : Int64} {nm : Nat → Nat → Int32} {g : Nat → Int32} (hf : 4000 ≤ f) (hT : T ≤ 8) (h35 : m.1 112 35 = Int32.ofNat T) (hN : ∀ t, t < T → NM (nm t) (m.2 138 t)) (hg : NM g v) : FX12_nameOf f v m = some (oi (fnd T nm g), m) := by
  have L : ∀ (j t n : Nat), t + j = T → j < n → FX12_nameOf_L2 f (fun m1 => some ((-1), m1)) v n (Int32.ofNat t) m = some (oi (idx (sameN nm g) j t), m) := by
    intro j
    induction j with
    | zero =>
      intro t n h1 h2
      obtain ⟨n, rfl⟩ : ∃ z, n = z + 1 := ⟨n - 1, by omega⟩
      rw [FX12_nameOf_L2, h35, if_pos ((n_le (by omega) (by omega)).mpr (by omega))]
      rfl
    | succ j ih =>
      intro t n h1 h2
      obtain ⟨n, rfl⟩ : ∃ z, n = z + 1 := ⟨n - 1, by omega⟩
      rw [FX12_nameOf_L2, h35, if_neg (fun q => by rw [n_le (by omega) (by omega)] at q; omega), if_pos ((n_in (by omega)).mpr (by omega)), n_nat (by omega), s_1]
      have hs : sameN nm g t = true ↔ (m.2 138 t).toInt = v.toInt := by
        rw [NM_inj (hN t (by omega)) hg]
        unfold sameN
        rw [allB_iff]
        exact ⟨fun q k hk => of_decide_eq_true (q k hk), fun q k hk => decide_eq_true (q k hk)⟩
      show _ = some (oi (if sameN nm g t = true then some t else idx (sameN nm g) j (t + 1)), m)
      by_cases z : sameN nm g t = true
      · rw [if_pos ((lg_eq0 _ _).mpr (hs.mp z)), if_pos z]; rfl
      · rw [if_neg (fun q => z (hs.mpr ((lg_eq0 _ _).mp q))), if_neg z]
        exact ih (t + 1) n (by omega) (by omega)
  unfold FX12_nameOf fnd
  exact L T 0 f (by omega) (by omega)
end
