/-! a QUESTION's words, as they should be told -/
def kQ (p : Nat) : Bool := decide ((1 ≤ p ∧ p ≤ 3) ∨ 5 < p)
def qah (K : sp_K) (S : sp_S) (t : Nat) : Int → Int := fun v => if 0 ≤ v ∧ v ≤ 30 ∧ S.1.toInt + v < 999 then (sp_tns K 0 (gos K S v.toNat) t).toInt else -1
def qe (K : sp_K) (S : sp_S) (t : Nat) : Nat → Int := fun p => if p = 1 then (S.2.2.1 t).toInt else if p = 2 then (S.2.2.2.1 t).toInt else if p = 3 then S.1.toInt else if p = 6 then qah K S t 0 else if p = 7 then (t : Int) else if p = 8 then (if S.1.toInt < 999 then ((gos K S 1).2.2.1 t).toInt else -1) else if p = 9 then (S.2.2.2.2 t).toInt else 0
theorem tns_g9 {K : sp_K} {sg : Int32} {S : sp_S} {t : Nat} (ht : t < K.1) : g9 (sp_tns K sg S t) := tow_tn K.1 t ht
theorem qah_bd {K : sp_K} {S : sp_S} {t : Nat} (ht : t < K.1) (v : Int) : sp_bd (qah K S t v) := by
  unfold qah
  split
  · exact g9_bd (tns_g9 ht)
  · unfold sp_bd; omega
theorem qe_bd {K : sp_K} {S : sp_S} {t : Nat} (hT : K.1 ≤ 8) (ht : t < K.1) (hr : sp_rg S) (h9 : S.1.toInt ≤ 999) (p : Nat) : sp_bd (qe K S t p) := by
  have c := hr.2.2 t (by omega)
  have r0 := hr.1
  unfold qe
  by_cases q1 : p = 1
  · rw [if_pos q1]; exact g9_bd c.1
  rw [if_neg q1]
  by_cases q2 : p = 2
  · rw [if_pos q2]; exact g9_bd c.2.1
  rw [if_neg q2]
  by_cases q3 : p = 3
  · rw [if_pos q3]; unfold sp_bd; omega
  rw [if_neg q3]
  by_cases q6 : p = 6
  · rw [if_pos q6]; exact qah_bd ht 0
  rw [if_neg q6]
  by_cases q7 : p = 7
  · rw [if_pos q7]; unfold sp_bd; omega
  rw [if_neg q7]
  by_cases q8 : p = 8
  · rw [if_pos q8]
    split
    · exact g9_bd ((gos_rd (K := K) hr h9 hT 1 (by omega)).1.2.2 t (by omega)).1
    · unfold sp_bd; omega
  rw [if_neg q8]
  by_cases q9 : p = 9
  · rw [if_pos q9]; exact one_bd c.2.2
  rw [if_neg q9]; unfold sp_bd; omega
/-- which of them a code has -/
def kC (C : List Nat) (p : Nat) : Bool := kQ p && ((!(decide (p = 6 ∨ p = 8)) || decide (46 ∈ C ∨ 48 ∈ C)) && (!(decide (p = 10)) || decide (60 ∈ C)))
theorem kC_11 (C : List Nat) : kC C 11 = true := by
  unfold kC kQ; simp
theorem kC_q {C : List Nat} {p : Nat} (h : kC C p = true) : (1 ≤ p ∧ p ≤ 3) ∨ 5 < p := by
  unfold kC kQ at h
  simp at h
  exact h.1
theorem kC_68 {C : List Nat} {p : Nat} (h : kC C p = true) (hp : p = 6 ∨ p = 8) : 1 ≤ rch C := by
  unfold kC at h
  simp only [Bool.and_eq_true, Bool.or_eq_true, decide_eq_true_eq, Bool.not_eq_true', decide_eq_false_iff_not] at h
  have h2 : 46 ∈ C ∨ 48 ∈ C := h.2.1.resolve_left (fun q => q hp)
  unfold rch
  by_cases z : 60 ∈ C
  · rw [if_pos z]; omega
  · rw [if_neg z, if_pos h2]; omega
theorem kC_10 {C : List Nat} (h : kC C 10 = true) : rch C = 31 := by
  unfold kC at h
  simp only [Bool.and_eq_true, Bool.or_eq_true, decide_eq_true_eq, Bool.not_eq_true', decide_eq_false_iff_not] at h
  have h2 : 60 ∈ C := h.2.2.resolve_left (fun q => q trivial)
  unfold rch
  rw [if_pos h2]
theorem ok_sub {k k' : Nat → Bool} {c : Nat} {T : Nat → Bool} {d : Nat} (h1 : 40 ≤ c → c < 50 → k (c - 40) = true → k' (c - 40) = true) (h2 : c = 60 → k 10 = true → k' 10 = true) (h3 : k 11 = true → k' 11 = true) (h : sp_ok k c T d) : sp_ok k' c T d := by
  unfold sp_ok at h ⊢
  by_cases a1 : 1000 ≤ c
  · rw [if_pos a1] at h ⊢; exact h
  rw [if_neg a1] at h ⊢
  by_cases a2 : 60 ≤ c
  · rw [if_pos a2] at h ⊢; exact ⟨h.1, h2 h.1 h.2.1, h.2.2⟩
  rw [if_neg a2] at h ⊢
  by_cases a3 : 40 ≤ c
  · rw [if_pos a3] at h ⊢; exact ⟨h.1, h1 a3 h.1 h.2.1, h.2.2⟩
  rw [if_neg a3] at h ⊢
  by_cases a4 : c = 13
  · rw [if_pos a4] at h ⊢; exact ⟨h3 h.1, h.2⟩
  rw [if_neg a4] at h ⊢
  by_cases a5 : c = 12
  · rw [if_pos a5] at h ⊢; exact ⟨h3 h.1, h.2⟩
  rw [if_neg a5] at h ⊢
  exact h
theorem wf_sub {k k' : Nat → Bool} (h3 : k 11 = true → k' 11 = true) : ∀ (l : List Nat) (T : Nat → Bool) (d : Nat), (∀ c, c ∈ l → 40 ≤ c → c < 50 → k (c - 40) = true → k' (c - 40) = true) → (60 ∈ l → k 10 = true → k' 10 = true) → sp_wf k l T d → sp_wf k' l T d := by
  intro l
  induction l with
  | nil => intro T d _ _ _; trivial
  | cons c l ih =>
    intro T d h1 h2 h
    exact ⟨ok_sub (h1 c (List.mem_cons_self ..)) (fun e q => h2 (by rw [← e]; exact List.mem_cons_self ..) q) h3 h.1, ih _ _ (fun c' hc => h1 c' (List.mem_cons_of_mem _ hc)) (fun hc => h2 (List.mem_cons_of_mem _ hc)) h.2⟩
theorem good_kC {b : Bool} {C : List Nat} (h : good kQ b C) : good (kC C) b C := by
  refine ⟨wf_sub (fun _ => kC_11 C) C _ _ (fun c hc h40 h50 hk => ?_) (fun h60 hk => ?_) h.1, h.2⟩
  · unfold kC
    rw [hk, Bool.true_and]
    simp only [Bool.and_eq_true, Bool.or_eq_true, decide_eq_true_eq, Bool.not_eq_true', decide_eq_false_iff_not]
    refine ⟨?_, Or.inl (by omega)⟩
    by_cases e : c - 40 = 6 ∨ c - 40 = 8
    · right
      rcases e with e | e
      · left; rw [show 46 = c by omega]; exact hc
      · right; rw [show 48 = c by omega]; exact hc
    · exact Or.inl e
  · unfold kC
    rw [hk, Bool.true_and]
    simp only [Bool.and_eq_true, Bool.or_eq_true, decide_eq_true_eq, Bool.not_eq_true', decide_eq_false_iff_not]
    exact ⟨Or.inl (by omega), Or.inr h60⟩
/-! the class looks ahead for a question -/
def QA (K : sp_K) (S : sp_S) (R : Nat) (m : ev_M) : Prop := (∀ r k, r < R → k < K.1 → m.1 19 (8 * r + k) = sp_tns K 0 (gos K S r) k) ∧ (0 < R → ∀ k, k < K.1 → m.1 28 k = (gos K S 1).2.2.1 k)
theorem q_laK {f c k0 r : Nat} {K : sp_K} {w : Int32} {m0 : ev_M} {kf : ev_M → Option (Unit × ev_M)} (hX : CX c K w k0 m0) (hr : r < 31) : ∀ (j k n : Nat) (m m1 : ev_M), k + j = K.1 → j < n → frP relC m0 m → (∀ a, a ≠ 19 → a ≠ 28 → m.1 a = m1.1 a) → (∀ i, i < k → m.1 19 (8 * r + i) = m1.1 21 i) → (∀ p, (∀ i, i < 8 → p ≠ 8 * r + i) → m.1 19 p = m1.1 19 p) → (∀ i, m.1 28 i = if i < k ∧ r = 0 then m1.1 26 i else m1.1 28 i) →
    ∃ m', FX7_lookAhead_L68 f kf (Int32.ofNat r) n (Int32.ofNat k) m = kf m' ∧ frP relC m0 m' ∧ (∀ a, a ≠ 19 → a ≠ 28 → m'.1 a = m1.1 a) ∧ (∀ i, i < K.1 → m'.1 19 (8 * r + i) = m1.1 21 i) ∧ (∀ p, (∀ i, i < 8 → p ≠ 8 * r + i) → m'.1 19 p = m1.1 19 p) ∧ (∀ i, m'.1 28 i = if i < K.1 ∧ r = 0 then m1.1 26 i else m1.1 28 i) := by
  have hT := hX.2.2.2.1.2.1
  intro j
  induction j with
  | zero =>
    intro k n m m1 h1 h2 q1 q3 q4 q5 q6
    obtain ⟨n, rfl⟩ : ∃ z, n = z + 1 := ⟨n - 1, by omega⟩
    rw [FX7_lookAhead_L68, c_towers (CX_fr q1 hX), bd_some, if_pos ((n_le (by omega) (by omega)).mpr (by omega))]
    have : k = K.1 := by omega
    subst this
    exact ⟨m, rfl, q1, q3, q4, q5, q6⟩
  | succ j ih =>
    intro k n m m1 h1 h2 q1 q3 q4 q5 q6
    obtain ⟨n, rfl⟩ : ∃ z, n = z + 1 := ⟨n - 1, by omega⟩
    have ex : (Int32.ofNat r * 8) + Int32.ofNat k = Int32.ofNat (8 * r + k) := by
      rw [show (8 : Int32) = Int32.ofNat 8 from rfl, n_mul, n_add]; congr 1; omega
    have i8 : ev_in (Int32.ofNat k) 8 := (n_in (by omega)).mpr (by omega)
    rw [FX7_lookAhead_L68, c_towers (CX_fr q1 hX), bd_some, if_neg (fun z => by rw [n_le (by omega) (by omega)] at z; omega), if_pos i8, ex, if_pos ((n_in (by omega)).mpr (by omega))]
    unfold FX7_lookAhead_J132
    have ek : (Int32.ofNat k).toNatClampNeg = k := n_nat (by omega)
    have ei : (Int32.ofNat (8 * r + k)).toNatClampNeg = 8 * r + k := n_nat (by omega)
    have fin : ∀ v : Int32, v = (if r = 0 then m1.1 26 k else m1.1 28 k) → ∃ m', FX7_lookAhead_L68 f kf (Int32.ofNat r) n (Int32.ofNat (k + 1)) (ev_up (ev_up m.1 19 (8 * r + k) (m.1 21 k)) 28 k v, m.2) = kf m' ∧ frP relC m0 m' ∧ (∀ a, a ≠ 19 → a ≠ 28 → m'.1 a = m1.1 a) ∧ (∀ i, i < K.1 → m'.1 19 (8 * r + i) = m1.1 21 i) ∧ (∀ p, (∀ i, i < 8 → p ≠ 8 * r + i) → m'.1 19 p = m1.1 19 p) ∧ (∀ i, m'.1 28 i = if i < K.1 ∧ r = 0 then m1.1 26 i else m1.1 28 i) := by
      intro v hv
      refine ih (k + 1) n _ m1 (by omega) (by omega) (frP_I (by unfold relC; omega) (frP_I (by unfold relC; omega) q1)) (fun a ha hb => by rw [upI_na _ _ _ _ hb, ev_up_ne _ _ _ ha]; exact q3 a ha hb) ?_ ?_ ?_
      · intro i hi
        rw [upI_na _ _ _ _ (by decide)]
        by_cases e : i = k
        · subst e; rw [up_at, q3 21 (by decide) (by decide)]
        · rw [up_nk _ _ _ (by omega)]; exact q4 i (by omega)
      · intro p hp
        rw [upI_na _ _ _ _ (by decide), up_nk _ _ _ (hp k (by omega))]
        exact q5 p hp
      · intro i
        by_cases e : i = k
        · subst e
          rw [upI_at, hv]
          by_cases z : r = 0
          · rw [if_pos z, if_pos ⟨by omega, z⟩]
          · rw [if_neg z, if_neg (fun y => z y.2)]
        · rw [upI_nk _ _ _ _ e, ev_up_ne _ _ _ (by decide), q6 i]
          by_cases z : i < k ∧ r = 0
          · rw [if_pos z, if_pos ⟨by omega, z.2⟩]
          · rw [if_neg z, if_neg (fun y => z ⟨by omega, y.2⟩)]
    by_cases z : r = 0
    · rw [if_pos (by rw [z]; rfl), if_pos i8, if_pos i8, ek, ei, s_1]
      exact fin _ (by rw [if_pos z, q3 26 (by decide) (by decide)])
    · rw [if_neg (fun y => z (by rw [show (0 : Int32) = Int32.ofNat 0 from rfl, n_eq (by omega) (by omega)] at y; exact y)), if_pos i8, if_pos i8, ek, ei, s_1]
      exact fin _ (by rw [if_neg z, q6 k, if_neg (fun y => z y.2)])
theorem q_laR {f c k0 R : Nat} {K : sp_K} {w : Int32} {m0 : ev_M} {S : sp_S} (hf : 1700 ≤ f) (hX : CX c K w k0 m0) (hr : sp_rg S) (h9 : S.1.toInt ≤ 999) (hR : R ≤ 31) (hR2 : S.1.toInt + R ≤ 999) : ∀ (j r n : Nat) (m : ev_M), r + j = R → j < n → frP relC m0 m → CS m 25 (gos K S r) → m.1 17 2 = Int32.ofNat R → QA K S r m →
    ∃ m', FX7_lookAhead_L45 f (fun m12 => some ((), m12)) n (Int32.ofNat r) m = some ((), m') ∧ frP relC m0 m' ∧ m'.1 17 2 = Int32.ofNat R ∧ QA K S R m' := by
  have hT := hX.2.2.2.1.2.1
  intro j
  induction j with
  | zero =>
    intro r n m h1 h2 q1 q2 q3 q4
    obtain ⟨n, rfl⟩ : ∃ z, n = z + 1 := ⟨n - 1, by omega⟩
    have : r = R := by omega
    subst this
    rw [FX7_lookAhead_L45, q3, if_pos ((n_le (by omega) (by omega)).mpr (Nat.le_refl _))]
    exact ⟨m, rfl, q1, q3, q4⟩
  | succ j ih =>
    intro r n m h1 h2 q1 q2 q3 q4
    obtain ⟨n, rfl⟩ : ∃ z, n = z + 1 := ⟨n - 1, by omega⟩
    have hg := gos_rd (K := K) hr h9 hT r (by omega)
    obtain ⟨m1, r1, r2, r3, r4, r5⟩ := @c_goT f 25 c k0 K w 0 m0 m (gos K S r) hf (by unfold okT; omega) hX q1 q2 hg.1 (by rw [hg.2]; omega)
    obtain ⟨m2, s1, s2, s3, s4, s5, s6⟩ := @q_laK f c k0 r K w m0 (fun m11 => (FX7_lookAhead_L45 f (fun m12 => some ((), m12)) n (Int32.ofNat r + 1) m11)) hX (by omega) K.1 0 f m1 m1 (by omega) (by omega) r2 (fun _ _ _ => rfl) (fun i hi => by omega) (fun _ _ => rfl) (fun i => by rw [if_neg (by omega)])
    have md := MDX3_go r1
    rw [FX7_lookAhead_L45, q3, if_neg (fun z => by rw [n_le (by omega) (by omega)] at z; omega), r1, bd_some]
    rw [z0] at s1
    rw [s_1] at s1 ⊢
    rw [s1]
    refine ih (r + 1) n m2 (by omega) (by omega) s2 ?_ ?_ ⟨?_, ?_⟩
    · refine CS_fr (fun q => ?_) (fun q => ?_) (fun q => ?_) r3
      · rw [s3 25 (by decide) (by decide)]
      · rw [s3 _ (by decide) (by decide)]
      · rw [s3 _ (by decide) (by decide)]
    · rw [s3 17 (by decide) (by decide), (md 17 2 (by unfold mdX3_go; omega)).1]; exact q3
    · intro r' k hr' hk
      by_cases e : r' = r
      · rw [e, s4 k hk]; exact r4 k hk
      · rw [s5 _ (fun i hi => by omega), (md 19 _ (by unfold mdX3_go; omega)).1]
        exact q4.1 r' k (by omega) hk
    · intro _ k hk
      rw [s6 k]
      by_cases e : r = 0
      · rw [if_pos ⟨hk, e⟩]
        subst e
        exact (r3.2.2 k (by omega)).1
      · rw [if_neg (fun y => e y.2), (md 28 _ (by unfold mdX3_go; omega)).1]
        exact q4.2 (by omega) k hk
theorem q_look {f c k0 A R : Nat} {K : sp_K} {w : Int32} {m : ev_M} {S : sp_S} (hf : 1700 ≤ f) (hX : CX c K w k0 m) (hS : CS m 103 S) (hr : sp_rg S) (h9 : S.1.toInt ≤ 999) (hA : A ≤ 31) (h15 : m.1 15 4 = Int32.ofNat A) (hR : (R : Int) = min (A : Int) (999 - S.1.toInt)) :
    ∃ m', FX7_lookAhead f 103 m = some ((), m') ∧ frP relC m m' ∧ m'.1 17 2 = Int32.ofNat R ∧ QA K S R m' := by
  have e31 : (31 : Int32).toInt = 31 := rfl
  have e9 : (999 : Int32).toInt = 999 := rfl
  have r0 := hr.1.1
  have h1 : (if (31 : Int32) < Int32.ofNat A then (31 : Int32) else Int32.ofNat A) = Int32.ofNat A := by
    rw [if_neg (by rw [i_lt, e31, n_int (by omega)]; omega)]
  have es : (999 - S.1).toInt = 999 - S.1.toInt := by rw [i_sub (by rw [e9]; omega) (by rw [e9]; omega), e9]
  have h2 : (if 999 - S.1 < Int32.ofNat A then 999 - S.1 else Int32.ofNat A) = Int32.ofNat R := by
    by_cases z : 999 - S.1 < Int32.ofNat A
    · rw [if_pos z]
      rw [i_lt, es, n_int (by omega)] at z
      rw [i_eq, es, n_int (by omega)]
      omega
    · rw [if_neg z]
      rw [i_lt, es, n_int (by omega)] at z
      rw [show A = R by omega]
  unfold FX7_lookAhead
  rw [h15, c_min, bd_some, h1, c_min, bd_some, hS.1, h2]
  obtain ⟨m1, r1, r2, r3⟩ := @c_trial f 25 m (ev_up m.1 17 2 (Int32.ofNat R), m.2) S (by omega) (by unfold okT; omega) (frP_I (by unfold relC; omega) (frP_refl _ _)) hS
  rw [r1, bd_some]
  exact q_laR hf hX hr h9 (by omega) (by omega) R 0 f m1 (by omega) (by omega) r2 r3 (by rw [(MDX8_copy r1 17 2 (by unfold mdX8_copy; omega)).1, upI_at]) ⟨fun r k h => by omega, fun h => by omega⟩
