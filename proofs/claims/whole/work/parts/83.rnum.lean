/-! the reference's numbers -/
section
variable {f E : Nat} {β : Nat → Int32}
theorem r_numL (k : Int32 → ev_M → Option (Int32 × ev_M)) {s : Nat} (hs : s ≤ E) : ∀ (j n i : Nat) (m : ev_M), rl isDg β E s - i = j → j < n → i ≤ rl isDg β E s → i ≤ 4 → TR0 β E m → m.1 112 5 = 0 → m.1 112 2 = Int32.ofNat (s + i) → (rl isDg β E s ≤ 4 ∧ ∃ m', FX12_number_L49 f k (Int32.ofNat s) n (dvN β s i) m = k (dvN β s (rl isDg β E s)) m' ∧ m'.1 112 2 = Int32.ofNat (s + rl isDg β E s) ∧ on2 m m') ∨ (4 < rl isDg β E s ∧ ∃ m', FX12_number_L49 f k (Int32.ofNat s) n (dvN β s i) m = some (0, m') ∧ RB m' (1, s + 4)) := by
  have hrl := rl_le (P := isDg) (β := β) (E := E) (p := s) hs
  intro j
  induction j with
  | zero =>
    intro n i m h1 hn hi hi4 h3 h5 h2
    have hE := h3.1
    obtain ⟨n, rfl⟩ : ∃ i, n = i + 1 := ⟨n - 1, by omega⟩
    have ei : i = rl isDg β E s := by omega
    left
    refine ⟨by omega, m, ?_, by rw [← ei]; exact h2, on2_refl m⟩
    unfold FX12_number_L49
    rw [h3.2.1, h2, ← ei]
    by_cases z : s + i < E
    · have hd := (rl_p isDg β E _ s rfl).2.2 (by omega)
      rw [if_neg (fun x => by rw [n_le (by omega) (by omega)] at x; omega), if_pos ((n_in (by omega)).mpr (by omega)), n_nat (by omega), h3.2.2 _ (by omega), r_isD, bd_some, if_neg (show ¬ isDg (β (s + i)) = true by rw [ei, hd]; decide), if_pos rfl]
    · rw [if_pos ((n_le (by omega) (by omega)).mpr (by omega))]
  | succ j ih =>
    intro n i m h1 hn hi hi4 h3 h5 h2
    have hE := h3.1
    obtain ⟨n, rfl⟩ : ∃ i, n = i + 1 := ⟨n - 1, by omega⟩
    have hd := rl_all (P := isDg) (β := β) (E := E) (p := s) (i := i) (by omega)
    unfold FX12_number_L49
    rw [h3.2.1, h2, if_neg (fun x => by rw [n_le (by omega) (by omega)] at x; omega), if_pos ((n_in (by omega)).mpr (by omega)), n_nat (by omega), h3.2.2 _ (by omega), r_isD, bd_some, if_pos hd, if_neg n10, h2, n_sub (by omega), show s + i - s = i by omega]
    by_cases z : i = 4
    · right
      refine ⟨by omega, ?_⟩
      rw [if_pos (by rw [z]; rfl)]
      unfold FX12_fail
      rw [if_pos h5, bd_some]
      refine ⟨_, rfl, Nat.le_refl 1, (show 1 ≤ 5 by decide), (show s + 4 ≤ 2000 by omega), ?_, ?_⟩
      · rw [upI_nk _ _ _ _ (by decide), up_at]; rfl
      · rw [upI_at, z]
    · rw [if_neg (fun q => z ((n_is 4 4 rfl (by omega) (by omega)).mp q)), if_pos ((n_in (by omega)).mpr (by omega)), n_nat (by omega), h3.2.2 _ (by omega), s_1, show 10 * dvN β s i + β (s + i) - 48 = dvN β s (i + 1) from by rw [Int32.mul_comm]; rfl]
      rcases ih n (i + 1) (ev_up m.1 112 2 (Int32.ofNat (s + i + 1)), m.2) (by omega) (by omega) (by omega) (by omega) (TR0_on2 h3 (on2_up m _)) (by rw [upI_nk _ _ _ _ (by decide)]; exact h5) (upI_at _ _ _ _ _) with ⟨q1, m', q2, q3, q4⟩ | ⟨q1, m', q2, q3⟩
      · exact Or.inl ⟨q1, m', q2, q3, on2_tr (on2_up m _) q4⟩
      · exact Or.inr ⟨q1, m', q2, q3⟩
theorem rt_num {m : ev_M} {y : Yr} {lo hi : Nat} (hf : 4000 ≤ f) (hlo : lo < 100000) (hhi : hi < 100000) (h : YT β E m y) : ∃ v m', FX12_number f (Int32.ofNat lo) (Int32.ofNat hi) m = some (v, m') ∧ YT β E m' (ytN β E lo hi y) ∧ ((ytN β E lo hi y).isRight = true → v = Int32.ofNat (yval β E y)) := by
  unfold FX12_number
  cases y with
  | inl e =>
    rw [if_neg (yr_bad h)]
    exact ⟨0, m, rfl, h, fun q => by cases q⟩
  | inr x =>
    obtain ⟨m1, r1, r2, r3, r4⟩ := r_look hf h
    have hE := r3.1.1
    have hp : x.1 ≤ E := r3.2.1
    have hsk := sk_le (β := β) hp
    have hge := sk_ge β E x.1
    have J30 : tkK β E x.1 x.2.1 ≠ 2 → ∃ v m', FX12_number_J30 f m1 = some (v, m') ∧ YT β E m' (ytN β E lo hi (.inr x)) ∧ ((ytN β E lo hi (.inr x)).isRight = true → v = Int32.ofNat (yval β E (.inr x))) := by
      intro hk
      obtain ⟨m2, q1, q2⟩ := @yt_fail f E β m1 (.inr x) 1 r3 (fun x' e => by cases e; exact r2) (by omega) (by omega)
      have q1' : FX12_fail f 1 (m1.1 112 2) m1 = some ((), m2) := q1
      unfold FX12_number_J30
      rw [q1', bd_some]
      have e : ytN β E lo hi (.inr x) = yfail β E 1 (.inr x) := if_neg hk
      rw [e]
      exact ⟨0, m2, rfl, q2, fun q => by cases q⟩
    rw [if_pos h.2.2.1, r1, bd_some, r_isD, bd_some]
    by_cases z1 : isDg (lk β E x.1) = true
    rotate_left
    · rw [if_neg z1, if_pos rfl]
      refine J30 (fun q => z1 ?_)
      unfold lk
      rw [if_pos (tkK_2 q).1]
      exact (tkK_2 q).2.2
    rw [if_pos z1, if_neg n10]
    have hlt : sk β E x.1 < E := by
      unfold lk at z1
      by_cases q : sk β E x.1 < E
      · exact q
      · rw [if_neg q] at z1; exact absurd z1 (by decide)
    have hD : isDg (β (sk β E x.1)) = true := by
      unfold lk at z1
      rw [if_pos hlt] at z1
      exact z1
    have hnL : isL (β (sk β E x.1)) = false := by
      unfold isDg at hD
      unfold isL
      rw [decide_eq_true_iff] at hD
      exact decide_eq_false (by omega)
    have hcond : m1.1 112 2 = m1.1 112 4 ↔ (x.2.1 = true ∧ sk β E x.1 = x.1) := by
      have h8 := r3.2.2.2.2.2
      rw [r2]
      by_cases q : x.2.1 = true
      · rw [if_pos q] at h8
        rw [h8, n_eq (by omega) (by omega)]
        exact ⟨fun e => ⟨q, e⟩, fun e => e.2⟩
      · rw [if_neg q] at h8
        constructor
        · intro e
          rw [← e, n_int (by omega)] at h8
          omega
        · intro e; exact absurd e.1 q
    by_cases z2 : x.2.1 = true ∧ sk β E x.1 = x.1
    · rw [if_pos (hcond.mpr z2)]
      refine J30 (fun q => ?_)
      unfold tkK at q
      rw [if_neg (by omega), if_neg (by rw [hnL]; decide), if_pos hD, if_pos z2] at q
      omega
    have hk : tkK β E x.1 x.2.1 = 2 := by unfold tkK; rw [if_neg (by omega), if_neg (by rw [hnL]; decide), if_pos hD, if_neg z2]
    obtain ⟨v1, v2, v, v3, v4⟩ := tkV_2 hk
    have hv : (tkV β E x.1).toNatClampNeg = v := by rw [v3, n_nat (by omega)]
    have eZ : ytN β E lo hi (.inr x) = (if tkN β E x.1 ≤ 4 then (if (tkV β E x.1).toNatClampNeg < lo ∨ hi < (tkV β E x.1).toNatClampNeg then .inl (2, sk β E x.1) else yad β E (.inr x)) else .inl (1, sk β E x.1 + 4)) := if_pos hk
    have hrl := rl_le (P := isDg) (β := β) (E := E) (p := sk β E x.1) hsk
    rw [if_neg (fun q => z2 (hcond.mp q)), r2]
    have lp := @r_numL f E β (fun e11 m12 => (FX12_number_J129 f (Int32.ofNat lo) (Int32.ofNat hi) (Int32.ofNat (sk β E x.1)) e11 m12)) (sk β E x.1) hsk (rl isDg β E (sk β E x.1) - 0) f 0 m1 rfl (by omega) (by omega) (by omega) r3.1 r3.2.2.1 r2
    rw [show (0 : Int32) = dvN β (sk β E x.1) 0 from rfl]
    rcases lp with ⟨q1, m2, q2, q3, q4⟩ | ⟨q1, m2, q2, q3⟩
    rotate_left
    · rw [q2, eZ, if_neg (by rw [v2]; omega)]
      exact ⟨_, m2, rfl, q3, fun q => by cases q⟩
    rw [q2]
    have ev : dvN β (sk β E x.1) (rl isDg β E (sk β E x.1)) = Int32.ofNat v := by
      rw [← v3, v1, show min (rl isDg β E (sk β E x.1)) 4 = rl isDg β E (sk β E x.1) by omega]
    rw [eZ, if_pos (by rw [v2]; exact q1), hv, ev]
    unfold FX12_number_J129
    have hb : tkB β E x.1 = sk β E x.1 + rl isDg β E (sk β E x.1) := by unfold tkB; rw [v2]
    have i64 : ∀ a, a < 100000 → ((Int32.ofNat a).toInt64).toInt = (a : Int) := fun a ha => by rw [Int32.toInt_toInt64, n_int (by omega)]
    rw [r_isIn, bd_some, i64 lo hlo, i64 hi hhi, i64 v (by omega)]
    have hfr : ∀ a k, ¬ (a = 112 ∧ k = 4) → ((ev_up m2.1 112 4 (m2.1 112 2), m2.2) : ev_M).1 a k = m2.1 a k := fun a k z => by
      by_cases e : a = 112
      · subst e; rw [upI_nk _ _ _ _ (by omega)]
      · rw [upI_na _ _ _ _ e]
    by_cases z3 : (lo : Int) ≤ v ∧ (v : Int) ≤ hi
    · rw [if_pos z3, if_neg n10, if_neg (by omega)]
      refine ⟨_, _, rfl, ?_, fun _ => by unfold yval; simp only []; rw [hv]⟩
      show RT β E _ (tkB β E x.1) (tkW β E x.1 x.2.1)
      refine ⟨TR0_fr (TR0_on2 r3.1 q4) (fun a k z => hfr a k (by omega)), tkB_le hp, by rw [hfr _ _ (by omega), q4.2 _ _ (by omega)]; exact r3.2.2.1, by rw [hfr _ _ (by omega), q4.2 _ _ (by omega)]; exact r3.2.2.2.1, ⟨tkB β E x.1, Nat.le_refl _, sk_ge _ _ _, by rw [hfr _ _ (by omega), q3, hb]⟩, ?_⟩
      rw [tkW_k hk, if_pos (by decide), upI_at, q3, hb]
    · rw [if_neg z3, if_pos rfl, if_pos (by omega)]
      unfold FX12_fail
      have h5 : ((ev_up m2.1 112 4 (m2.1 112 2), m2.2) : ev_M).1 112 5 = 0 := by rw [hfr _ _ (by omega), q4.2 _ _ (by omega)]; exact r3.2.2.1
      rw [if_pos h5, bd_some]
      refine ⟨_, _, rfl, ⟨(show 1 ≤ 2 by decide), (show 2 ≤ 5 by decide), (show sk β E x.1 ≤ 2000 by omega), ?_, upI_at _ _ _ _ _⟩, fun q => by cases q⟩
      rw [upI_nk _ _ _ _ (by decide), up_at]; rfl
end
