/-! the reference's round, whole: all towers -/
def fz (m0 m : ev_M) : Prop := ∀ a k, (a ≠ 146 ∧ a ≠ 179) → ¬ (a = 112 ∧ (k = 46 ∨ k = 49 ∨ k = 50 ∨ k = 51 ∨ k = 99)) → ¬ (a = 144 ∧ k < 26 ∧ (k = 1 ∨ k % 3 = 2)) → m.1 a k = m0.1 a k
theorem RK_of {m m' : ev_M} {K : sp_K} (h : RK m K) (h1 : m'.1 112 36 = m.1 112 36) (h2 : ∀ k, m'.1 141 k = m.1 141 k) (h3 : ∀ k, m'.1 142 k = m.1 142 k) (h4 : m'.1 143 = m.1 143) : RK m' K := by
  obtain ⟨a, b, c, d, e⟩ := h
  refine ⟨a, by rw [h1]; exact b, ?_, ?_, e⟩
  · rcases c with ⟨c1, c2⟩ | ⟨fr, c1, c2, c3, c4⟩
    · exact Or.inl ⟨by rw [h2]; exact c1, c2⟩
    · exact Or.inr ⟨fr, by rw [h2]; exact c1, by rw [h3]; exact c2, c3, by rw [h4]; exact c4⟩
  · rcases d with ⟨c1, c2⟩ | ⟨fr, c1, c2, c3, c4⟩
    · exact Or.inl ⟨by rw [h2]; exact c1, c2⟩
    · exact Or.inr ⟨fr, by rw [h2]; exact c1, by rw [h3]; exact c2, c3, by rw [h4]; exact c4⟩
theorem RK_fz {m m' : ev_M} {K : sp_K} (h : RK m K) (hz : fz m m') : RK m' K := RK_of h (hz _ _ (by omega) (by omega) (by omega)) (fun k => hz _ _ (by omega) (by omega) (by omega)) (fun k => hz _ _ (by omega) (by omega) (by omega)) (funext fun k => hz _ _ (by omega) (by omega) (by omega))
theorem fz_trans {m0 m1 m2 : ev_M} (h1 : fz m0 m1) (h2 : fz m1 m2) : fz m0 m2 := fun a k z1 z2 z3 => (h2 a k z1 z2 z3).trans (h1 a k z1 z2 z3)
theorem fz_up {m0 : ev_M} {I : Nat → Nat → Int32} {L : Nat → Nat → Int64} {a k : Nat} {v : Int32} (h : fz m0 (I, L)) (hk : a = 146 ∨ (a = 112 ∧ (k = 46 ∨ k = 49 ∨ k = 50 ∨ k = 51 ∨ k = 99)) ∨ (a = 144 ∧ k < 26 ∧ (k = 1 ∨ k % 3 = 2))) : fz m0 (ev_up I a k v, L) := by
  intro i j z1 z2 z3
  show ev_up I a k v i j = _
  rw [← h i j z1 z2 z3]
  by_cases e : i = a
  · subst e
    by_cases e2 : j = k
    · subst e2; omega
    · rw [up_nk _ _ _ e2]
  · rw [up_na _ _ _ _ e]
set_option maxHeartbeats 4000000 in
theorem r_go_L {f : Nat} {K : sp_K} {m0 : ev_M} {sg : Int32} {S : sp_S} {kf : ev_M → Option (Unit × ev_M)} (hf : 1700 ≤ f) (hK : RK m0 K) (hS : RS m0 K.1 S) (hr : sp_rg S) (hsg : m0.1 112 53 = sg) :
    ∀ (j t n : Nat) (m : ev_M), t + j = K.1 → j < n → fz m0 m → m.1 144 1 = (sp_tow K sg S.1 S.2.2.2.1 S.2.2.2.2 t (S.2.1, S.2.2.1, fun _ => 0)).1 → (∀ i, i < K.1 → m.1 144 (2 + 3 * i) = (sp_tow K sg S.1 S.2.2.2.1 S.2.2.2.2 t (S.2.1, S.2.2.1, fun _ => 0)).2.1 i) → (∀ i, i < t → m.1 146 i = (sp_tow K sg S.1 S.2.2.2.1 S.2.2.2.2 t (S.2.1, S.2.2.1, fun _ => 0)).2.2 i) →
    ∃ m', FX12_roundGoes_L2 f kf n (Int32.ofNat t) m = kf m' ∧ fz m0 m' ∧ m'.1 144 1 = (sp_res K sg S).1 ∧ (∀ i, i < K.1 → m'.1 144 (2 + 3 * i) = (sp_res K sg S).2.1 i) ∧ (∀ i, i < K.1 → m'.1 146 i = sp_tns K sg S i) := by
  have hT := hK.1
  intro j
  induction j with
  | zero =>
    intro t n m h1 h2 hz q1 q2 q3
    obtain ⟨n, rfl⟩ : ∃ q, n = q + 1 := ⟨n - 1, by omega⟩
    have : t = K.1 := by omega
    subst this
    refine ⟨m, ?_, hz, q1, q2, q3⟩
    have hKm := RK_fz hK hz
    rw [FX12_roundGoes_L2, r_tm hKm.2.1, bd_some, if_pos ((n_le (by omega) (by omega)).mpr (Nat.le_refl _))]
  | succ j ih =>
    intro t n m h1 h2 hz q1 q2 q3
    obtain ⟨n, rfl⟩ : ∃ q, n = q + 1 := ⟨n - 1, by omega⟩
    have hKm := RK_fz hK hz
    have hb := @tow_rg K sg S.1 S.2.2.2.1 S.2.2.2.2 (S.2.1, S.2.2.1, fun _ => 0) hr.2.1 (fun t ht => (hr.2.2 t ht).1) t (by omega)
    rw [FX12_roundGoes_L2, r_tm hKm.2.1, bd_some, if_neg (fun q => by rw [n_le (by omega) (by omega)] at q; omega)]
    generalize hx : sp_tow K sg S.1 S.2.2.2.1 S.2.2.2.2 t (S.2.1, S.2.2.1, fun _ => 0) = x at q1 q2 q3 hb
    -- the first memory
    generalize hM1 : ((ev_up (ev_up m.1 112 49 (m.1 144 1)) 112 50 (((m.1 112 53) >>> (Int32.ofNat t &&& 31)) &&& 1), m.2) : ev_M) = M1
    have z1 : fz m M1 := by rw [← hM1]; exact fz_up (fz_up (fun _ _ _ _ _ => rfl) (by omega)) (by omega)
    have z1a : ∀ k, M1.1 144 k = m.1 144 k := by intro k; rw [← hM1, upI_na _ _ _ _ (by decide), ev_up_ne _ _ _ (by decide)]
    have z1b : ∀ k, M1.1 146 k = m.1 146 k := by intro k; rw [← hM1, upI_na _ _ _ _ (by decide), ev_up_ne _ _ _ (by decide)]
    have z1c : M1.1 112 49 = x.1 := by rw [← hM1, upI_nk _ _ _ _ (by decide), up_at]; exact q1
    have z1d : M1.1 112 50 = bt sg t := by
      rw [← hM1, upI_at, hz 112 53 (by omega) (by omega) (by omega), hsg]; rfl
    have c0 : ∀ m2, fz m0 m2 → m2.1 144 0 = S.1 := fun m2 h => by rw [h 144 0 (by omega) (by omega) (by omega)]; exact hS.1
    have cch : ∀ m2, fz m0 m2 → m2.1 144 (2 + 3 * t + 1) = S.2.2.2.1 t := fun m2 h => by rw [h 144 _ (by omega) (by omega) (by omega)]; exact (hS.2.2 t (by omega)).2.1
    have cye : ∀ m2, fz m0 m2 → m2.1 144 (2 + 3 * t + 2) = S.2.2.2.2 t := fun m2 h => by rw [h 144 _ (by omega) (by omega) (by omega)]; exact (hS.2.2 t (by omega)).2.2
    have zM1 := fz_trans hz z1
    have hrt := hr.2.2 t (by omega)
    have hrd : sp_bd S.1.toInt := by unfold sp_bd; have := hr.1; omega
    obtain ⟨m4, w1⟩ := @r_said f t K M1 x.1 (x.2.1 t) (S.2.2.2.1 t) S.1 (bt sg t) (S.2.2.2.2 t) hf (RK_fz hKm z1) (by omega) z1c (by rw [z1a]; exact q2 t (by omega)) (cch M1 zM1) (c0 M1 zM1) z1d (cye M1 zM1) hrt.2.2 hb.1 (hb.2 t (by omega)) hrt.2.1 hrd (bt_01 sg t)
    have w1' : (if S.2.2.2.2 t = 0 then sp_say K.2.1 x.1 (x.2.1 t) (S.2.2.2.1 t) S.1 t (bt sg t) else 9) = sp_tn K sg S.1 S.2.2.2.1 S.2.2.2.2 t x := rfl
    rw [w1'] at w1
    have f4' : ∀ a k, a ≠ 179 → ¬ (a = 112 ∧ (k = 46 ∨ k = 99)) → m4.1 a k = M1.1 a k := fun a k e z => (MDX12_saidBy w1 a k (by unfold mdX12_saidBy; omega)).1
    have z4 : fz M1 m4 := fun a k e1 e2 e3 => f4' a k e1.2 (by omega)
    rw [w1, bd_some, if_pos ((n_in (by omega)).mpr (by omega)), if_pos ((n_in (by omega)).mpr (by omega)), if_pos ((n_in (by omega)).mpr (by omega)), n_nat (show t < 2147483648 by omega), up_at]
    generalize htn : sp_tn K sg S.1 S.2.2.2.1 S.2.2.2.2 t x = tn at w1
    have gtn : g9 tn := by
      rw [← htn]; unfold sp_tn
      split
      · exact cut_g9 _
      · unfold g9; decide
    generalize hM2 : ((ev_up (ev_up (ev_up m4.1 146 t tn) 112 51 tn) 144 1 tn, m4.2) : ev_M) = M2
    have z2 : fz m4 M2 := by rw [← hM2]; exact fz_up (fz_up (fz_up (fun _ _ _ _ _ => rfl) (by omega)) (by omega)) (by omega)
    have zM2 := fz_trans zM1 (fz_trans z4 z2)
    have y1 : ∀ k, k ≠ 1 → M2.1 144 k = m.1 144 k := by
      intro k hk
      rw [← hM2, upI_nk _ _ _ _ hk, up_na _ _ _ _ (by decide), up_na _ _ _ _ (by decide), f4' 144 k (by decide) (by omega), z1a]
    have y2 : M2.1 144 1 = tn := by rw [← hM2, upI_at]
    have y3 : M2.1 112 49 = x.1 := by rw [← hM2, upI_na _ _ _ _ (by decide), up_nk _ _ _ (by decide), up_na _ _ _ _ (by decide), f4' 112 49 (by decide) (by omega), z1c]
    have y4 : M2.1 112 50 = bt sg t := by rw [← hM2, upI_na _ _ _ _ (by decide), up_nk _ _ _ (by decide), up_na _ _ _ _ (by decide), f4' 112 50 (by decide) (by omega), z1d]
    have y5 : M2.1 112 51 = tn := by rw [← hM2, upI_na _ _ _ _ (by decide), up_at]
    have y6 : ∀ i, M2.1 146 i = sp_up (m.1 146) t tn i := by
      intro i
      rw [← hM2, upI_na _ _ _ _ (by decide), ev_up_ne _ _ _ (by decide), ev_up_at]
      unfold sp_up
      split
      · rfl
      · rw [f4' 146 i (by decide) (by omega), z1b]
    obtain ⟨m6, v1⟩ := @r_felt f t K M2 x.1 (x.2.1 t) (S.2.2.2.1 t) S.1 (bt sg t) tn hf (RK_fz hK zM2) (by omega) y3 (by rw [y1 _ (by omega)]; exact q2 t (by omega)) (cch M2 zM2) (c0 M2 zM2) y4 y5 hb.1 (hb.2 t (by omega)) hrt.2.1 hrd (bt_01 sg t) gtn
    have f6 : ∀ a k, a ≠ 179 → ¬ (a = 112 ∧ (k = 46 ∨ k = 99)) → m6.1 a k = M2.1 a k := by
      intro a k e z
      exact (MDX12_feltBy v1 a k (by unfold mdX12_feltBy; omega)).1
    have z6 : fz M2 m6 := fun a k e1 e2 e3 => f6 a k e1.2 (by omega)
    rw [v1, bd_some, ix0, if_pos ((n_in (by omega)).mpr (by omega)), n_nat (by omega), s_1]
    refine ih (t + 1) n _ (by omega) (by omega) (fz_up (fz_trans zM2 z6) (by omega)) ?_ ?_ ?_
    · rw [upI_nk _ _ _ _ (by omega), f6 144 1 (by decide) (by omega), y2, ← htn, ← hx]; rfl
    · intro i hi
      show ev_up m6.1 144 _ _ 144 (2 + 3 * i) = (sp_one K sg S.1 S.2.2.2.1 S.2.2.2.2 t (sp_tow K sg S.1 S.2.2.2.1 S.2.2.2.2 t (S.2.1, S.2.2.1, fun _ => 0))).2.1 i
      rw [hx, ev_up_at]
      show _ = sp_up x.2.1 t (sp_feel K.2.2 x.1 (x.2.1 t) (S.2.2.2.1 t) S.1 t (sp_tn K sg S.1 S.2.2.2.1 S.2.2.2.2 t x)) i
      rw [htn]
      unfold sp_up
      by_cases e : i = t
      · rw [if_pos (by omega), if_pos e]
      · rw [if_neg (by omega), if_neg e, f6 144 _ (by decide) (by omega), y1 _ (by omega)]
        exact q2 i hi
    · intro i hi
      rw [upI_na _ _ _ _ (by decide), f6 146 i (by decide) (by omega), y6]
      show _ = (sp_one K sg S.1 S.2.2.2.1 S.2.2.2.2 t (sp_tow K sg S.1 S.2.2.2.1 S.2.2.2.2 t (S.2.1, S.2.2.1, fun _ => 0))).2.2 i
      rw [hx]
      show _ = sp_up x.2.2 t (sp_tn K sg S.1 S.2.2.2.1 S.2.2.2.2 t x) i
      rw [htn]
      unfold sp_up
      by_cases e : i = t
      · rw [if_pos e, if_pos e]
      · rw [if_neg e, if_neg e]; exact q3 i (by omega)
theorem kpt_congr {q : Nat} {g g' : Nat → Int32} {rd pl n : Int32} (h : ∀ i, 26 ≤ i → g i = g' i) {i : Nat} (hi : 26 ≤ i) : kpt q g rd pl n i = kpt q g' rd pl n i := by
  unfold kpt
  simp only []
  generalize (if q = 40 then 40 else q + 1) = c
  split
  · rfl
  · split
    · rfl
    · split
      · rfl
      · split
        · rfl
        · split
          · exact h _ (by omega)
          · exact h _ hi
theorem dbt_congr {w : Int32} {a b : Nat → Int32} {T : Nat} (h : ∀ i, i < T → a i = b i) : ∀ i, i < T → dbt w a i = dbt w b i := fun i hi => by unfold dbt; rw [h i hi]
theorem rowS_congr {p q : Nat → Bool} {T k : Nat} (h : ∀ i, i < T → p i = q i) : rowS p T k = rowS q T k := rowR_congr h 9 0
set_option maxHeartbeats 4000000 in
theorem r_go {f k q : Nat} {K : sp_K} {m : ev_M} {sg w : Int32} {S : sp_S} (hf : 1700 ≤ f) (hK : RK m K) (hS : RS m K.1 S) (hr : sp_rg S) (hsg : m.1 112 53 = sg) (hw : m.1 140 3 = w) (hk : m.1 140 4 = Int32.ofNat k) (hk8 : k < 9) (hq : m.1 144 26 = Int32.ofNat q) (hq40 : q ≤ 40) :
    ∃ m', FX12_roundGoes f m = some ((), m') ∧ RS m' K.1 (sp_go K sg S) ∧ (∀ i, i < K.1 → m'.1 146 i = sp_tns K sg S i) ∧ m'.1 112 53 = 0 ∧ m'.1 112 56 = m.1 112 56 + Int32.ofNat (cnt (dbt w (sp_tns K sg S)) K.1) ∧
      m'.1 112 55 = m.1 112 55 + (if rowS (dbt w (sp_tns K sg S)) K.1 k = -1 then 0 else 1) ∧ m'.1 112 54 = m.1 112 54 ∧
      (∀ i, 26 ≤ i → m'.1 144 i = if m.1 112 54 = 0 ∧ rowS (dbt w (sp_tns K sg S)) K.1 k ≠ -1 then kpt q (m.1 144) S.1 (rowS (dbt w (sp_tns K sg S)) K.1 k) (Int32.ofNat (cnt (dbt w (sp_tns K sg S)) K.1)) i else m.1 144 i) := by
  have hT := hK.1
  obtain ⟨m7, r1, r2, r3, r4, r5⟩ := @r_go_L f K m sg S (fun m7 => (ev_bd (FX12_doubtsNow f ((ev_up m7.1 112 53 0), m7.2)) (fun r8 m9 => (ev_bd (FX12_rowOf f (m9.1 140 4) ((ev_up m9.1 112 56 ((m7.1 112 56) + r8)), m9.2)) (fun r10 m11 => (if r10 = (-1) then some ((), ((ev_up m11.1 144 0 ((m11.1 144 0) + 1)), m11.2)) else (ev_bd (FX12_doubtsNow f ((ev_up m11.1 112 55 ((m11.1 112 55) + 1)), m11.2)) (fun r12 m13 => (ev_bd (FX12_isKept f r10 r12 m13) (fun _ m15 => some ((), ((ev_up m15.1 144 0 ((m15.1 144 0) + 1)), m15.2)))))))))))) hf hK hS hr hsg K.1 0 f m (by omega) (by omega) (fun _ _ _ _ _ => rfl) hS.2.1 (fun i hi => (hS.2.2 i hi).1) (fun i hi => by omega)
  unfold FX12_roundGoes
  rw [show (0 : Int32) = Int32.ofNat 0 from rfl] at r1 ⊢
  rw [r1]
  clear r1
  have fT : m7.1 112 36 = Int32.ofNat K.1 := by rw [r2 112 36 (by omega) (by omega) (by omega)]; exact hK.2.1
  have fw : m7.1 140 3 = w := by rw [r2 140 3 (by omega) (by omega) (by omega)]; exact hw
  have fk : m7.1 140 4 = Int32.ofNat k := by rw [r2 140 4 (by omega) (by omega) (by omega)]; exact hk
  have f54 : m7.1 112 54 = m.1 112 54 := r2 112 54 (by omega) (by omega) (by omega)
  have f55 : m7.1 112 55 = m.1 112 55 := r2 112 55 (by omega) (by omega) (by omega)
  have f56 : m7.1 112 56 = m.1 112 56 := r2 112 56 (by omega) (by omega) (by omega)
  have f26 : ∀ i, 26 ≤ i → m7.1 144 i = m.1 144 i := fun i hi => r2 144 i (by omega) (by omega) (by omega)
  have f0 : m7.1 144 0 = S.1 := by rw [r2 144 0 (by omega) (by omega) (by omega)]; exact hS.1
  have fch : ∀ t, t < K.1 → m7.1 144 (2 + 3 * t + 1) = S.2.2.2.1 t ∧ m7.1 144 (2 + 3 * t + 2) = S.2.2.2.2 t := fun t ht => ⟨by rw [r2 144 _ (by omega) (by omega) (by omega)]; exact (hS.2.2 t ht).2.1, by rw [r2 144 _ (by omega) (by omega) (by omega)]; exact (hS.2.2 t ht).2.2⟩
  have hcnt : ∀ g : Nat → Int32, (∀ i, g i = m7.1 146 i) → cnt (dbt w g) K.1 = cnt (dbt w (sp_tns K sg S)) K.1 := fun g hg => cnt_congr (dbt_congr (fun i hi => (hg i).trans (r5 i hi)))
  have hrow : ∀ g : Nat → Int32, (∀ i, g i = m7.1 146 i) → rowS (dbt w g) K.1 k = rowS (dbt w (sp_tns K sg S)) K.1 k := fun g hg => rowS_congr (dbt_congr (fun i hi => (hg i).trans (r5 i hi)))
  generalize hM1 : ((ev_up m7.1 112 53 (Int32.ofNat 0), m7.2) : ev_M) = M1
  have g1 : ∀ a i, ¬ (a = 112 ∧ i = 53) → M1.1 a i = m7.1 a i := by
    intro a i z
    rw [← hM1]
    show ev_up m7.1 112 53 _ a i = _
    by_cases e : a = 112
    · subst e; rw [up_nk _ _ _ (fun z2 => z ⟨rfl, z2⟩)]
    · rw [up_na _ _ _ _ e]
  have g1' : M1.1 112 53 = 0 := by rw [← hM1, upI_at]; rfl
  show ∃ m', (ev_bd (FX12_doubtsNow f M1) (fun r8 m9 => _)) = _ ∧ _
  rw [r_doubts (T := K.1) (by omega) (by rw [g1 112 36 (by omega)]; exact fT) hT, bd_some, g1 140 3 (by omega), fw, hcnt _ (fun i => g1 146 i (by omega)), g1 140 4 (by omega), fk, f56]
  generalize hc : Int32.ofNat (cnt (dbt w (sp_tns K sg S)) K.1) = C
  generalize hM2 : ((ev_up M1.1 112 56 (m.1 112 56 + C), M1.2) : ev_M) = M2
  have g2 : ∀ a i, ¬ (a = 112 ∧ i = 53) → ¬ (a = 112 ∧ i = 56) → M2.1 a i = m7.1 a i := by
    intro a i z z'
    rw [← hM2, ← g1 a i z]
    show ev_up M1.1 112 56 _ a i = _
    by_cases e : a = 112
    · subst e; rw [up_nk _ _ _ (fun z2 => z' ⟨rfl, z2⟩)]
    · rw [up_na _ _ _ _ e]
  have g2' : M2.1 112 53 = 0 := by rw [← hM2, upI_nk _ _ _ _ (by decide)]; exact g1'
  have g2'' : M2.1 112 56 = m.1 112 56 + C := by rw [← hM2, upI_at]
  rw [r_row (T := K.1) (by omega) (by rw [g2 112 36 (by omega) (by omega)]; exact fT) hT hk8, bd_some, g2 140 3 (by omega) (by omega), fw, hrow _ (fun i => g2 146 i (by omega) (by omega))]
  generalize hR : rowS (dbt w (sp_tns K sg S)) K.1 k = R
  by_cases hR1 : R = -1
  · rw [if_pos hR1]
    refine ⟨_, rfl, ⟨?_, ?_, fun t ht => ⟨?_, ?_, ?_⟩⟩, ?_, ?_, ?_, ?_, ?_, ?_⟩
    · rw [upI_at, g2 144 0 (by omega) (by omega), f0]; rfl
    · rw [upI_nk _ _ _ _ (by decide), g2 144 1 (by omega) (by omega)]; exact r3
    · rw [upI_nk _ _ _ _ (by omega), g2 144 _ (by omega) (by omega)]; exact r4 t ht
    · rw [upI_nk _ _ _ _ (by omega), g2 144 _ (by omega) (by omega)]; exact (fch t ht).1
    · rw [upI_nk _ _ _ _ (by omega), g2 144 _ (by omega) (by omega)]; exact (fch t ht).2
    · intro i hi; rw [upI_na _ _ _ _ (by decide), g2 146 i (by omega) (by omega)]; exact r5 i hi
    · rw [upI_na _ _ _ _ (by decide)]; exact g2'
    · rw [upI_na _ _ _ _ (by decide)]; exact g2''
    · rw [upI_na _ _ _ _ (by decide), g2 112 55 (by omega) (by omega), f55, if_pos hR1]; exact (Int32.add_zero _).symm
    · rw [upI_na _ _ _ _ (by decide), g2 112 54 (by omega) (by omega), f54]
    · intro i hi; rw [upI_nk _ _ _ _ (by omega), g2 144 i (by omega) (by omega), f26 i hi, if_neg (fun z => z.2 hR1)]
  · rw [if_neg hR1]
    generalize hM3 : ((ev_up M2.1 112 55 (M2.1 112 55 + 1), M2.2) : ev_M) = M3
    have g3 : ∀ a i, ¬ (a = 112 ∧ (i = 53 ∨ i = 55 ∨ i = 56)) → M3.1 a i = m7.1 a i := by
      intro a i z
      rw [← hM3, ← g2 a i (by omega) (by omega)]
      show ev_up M2.1 112 55 _ a i = _
      by_cases e : a = 112
      · subst e; rw [up_nk _ _ _ (by omega)]
      · rw [up_na _ _ _ _ e]
    have g3a : M3.1 112 53 = 0 := by rw [← hM3, upI_nk _ _ _ _ (by decide)]; exact g2'
    have g3b : M3.1 112 56 = m.1 112 56 + C := by rw [← hM3, upI_nk _ _ _ _ (by decide)]; exact g2''
    have g3c : M3.1 112 55 = m.1 112 55 + 1 := by rw [← hM3, upI_at, g2 112 55 (by omega) (by omega), f55]
    rw [r_doubts (T := K.1) (by omega) (by rw [g3 112 36 (by omega)]; exact fT) hT, bd_some, g3 140 3 (by omega), fw, hcnt _ (fun i => g3 146 i (by omega)), hc]
    have fin : ∀ m15 : ev_M, FX12_isKept f R C M3 = some ((), m15) → (∀ i, m15.1 144 i = if m.1 112 54 = 0 then kpt q (M3.1 144) (M3.1 144 0) R C i else M3.1 144 i) → ∃ m', (ev_bd (FX12_isKept f R C M3) (fun _ m15 => some ((), ((ev_up m15.1 144 0 ((m15.1 144 0) + 1)), m15.2)))) = some ((), m') ∧ RS m' K.1 (sp_go K sg S) ∧ (∀ i, i < K.1 → m'.1 146 i = sp_tns K sg S i) ∧ m'.1 112 53 = 0 ∧ m'.1 112 56 = m.1 112 56 + C ∧ m'.1 112 55 = m.1 112 55 + (if R = -1 then 0 else 1) ∧ m'.1 112 54 = m.1 112 54 ∧ (∀ i, 26 ≤ i → m'.1 144 i = if m.1 112 54 = 0 ∧ R ≠ -1 then kpt q (m.1 144) S.1 R C i else m.1 144 i) := by
      intro m15 e1 e2
      rw [e1, bd_some]
      have g4 : ∀ a i, a ≠ 144 → m15.1 a i = M3.1 a i := fun a i z => (MDX12_isKept e1 a i (by unfold mdX12_isKept; omega)).1
      have k26 : ∀ i, i < 26 → m15.1 144 i = m7.1 144 i := by
        intro i hi
        rw [e2 i]
        split
        · unfold kpt
          simp only []
          rw [if_neg (by omega), if_neg (by split <;> omega), if_neg (by split <;> omega), if_neg (by split <;> omega), if_neg (by omega), g3 144 i (by omega)]
        · exact g3 144 i (by omega)
      refine ⟨_, rfl, ⟨?_, ?_, fun t ht => ⟨?_, ?_, ?_⟩⟩, ?_, ?_, ?_, ?_, ?_, ?_⟩
      · rw [upI_at, k26 0 (by omega), f0]; rfl
      · rw [upI_nk _ _ _ _ (by decide), k26 1 (by omega)]; exact r3
      · rw [upI_nk _ _ _ _ (by omega), k26 _ (by omega)]; exact r4 t ht
      · rw [upI_nk _ _ _ _ (by omega), k26 _ (by omega)]; exact (fch t ht).1
      · rw [upI_nk _ _ _ _ (by omega), k26 _ (by omega)]; exact (fch t ht).2
      · intro i hi; rw [upI_na _ _ _ _ (by decide), g4 146 i (by decide), g3 146 i (by omega)]; exact r5 i hi
      · rw [upI_na _ _ _ _ (by decide), g4 112 53 (by decide)]; exact g3a
      · rw [upI_na _ _ _ _ (by decide), g4 112 56 (by decide)]; exact g3b
      · rw [upI_na _ _ _ _ (by decide), g4 112 55 (by decide), if_neg hR1]; exact g3c
      · rw [upI_na _ _ _ _ (by decide), g4 112 54 (by decide), g3 112 54 (by omega), f54]
      · intro i hi
        rw [upI_nk _ _ _ _ (by omega), e2 i]
        by_cases h54 : m.1 112 54 = 0
        · rw [if_pos h54, if_pos ⟨h54, hR1⟩, g3 144 0 (by omega), f0]
          exact kpt_congr (fun i hi => by rw [g3 144 i (by omega), f26 i hi]) hi
        · rw [if_neg h54, if_neg (fun z => h54 z.1), g3 144 i (by omega), f26 i hi]
    have e54 : M3.1 112 54 = m.1 112 54 := by rw [g3 112 54 (by omega), f54]
    by_cases h54 : m.1 112 54 = 0
    · obtain ⟨m15, e1, e2⟩ := @r_kept f q R C M3 (by omega) (by rw [g3 144 26 (by omega), f26 26 (by omega)]; exact hq) hq40 (by rw [e54]; exact h54)
      exact fin m15 e1 (fun i => by rw [if_pos h54]; exact e2 i)
    · exact fin M3 (by unfold FX12_isKept; rw [e54, if_neg h54]) (fun i => by rw [if_neg h54])
