/-! the class lets a ROUND go by -/
def dbt (w : Int32) (tn : Nat → Int32) : Nat → Bool := fun t => decide (tn t < w)
theorem tow_rg {K : sp_K} {sg rd : Int32} {ch ye : Nat → Int32} {x : Int32 × (Nat → Int32) × (Nat → Int32)} (h1 : g9 x.1) (h2 : ∀ t, t < 8 → g9 (x.2.1 t)) : ∀ t, t ≤ 8 → g9 (sp_tow K sg rd ch ye t x).1 ∧ ∀ i, i < 8 → g9 ((sp_tow K sg rd ch ye t x).2.1 i) := by
  intro t
  induction t with
  | zero => intro _; exact ⟨h1, h2⟩
  | succ t ih =>
    intro ht
    have ih' := ih (by omega)
    refine ⟨?_, ?_⟩
    · show g9 (sp_tn K sg rd ch ye t _)
      unfold sp_tn
      split
      · exact cut_g9 _
      · unfold g9; decide
    · intro i hi
      show g9 (sp_up _ t _ i)
      unfold sp_up
      split
      · exact cut_g9 _
      · exact ih'.2 i hi
theorem tow_tn {K : sp_K} {sg rd : Int32} {ch ye : Nat → Int32} {x : Int32 × (Nat → Int32) × (Nat → Int32)} : ∀ t i, i < t → g9 ((sp_tow K sg rd ch ye t x).2.2 i) := by
  intro t
  induction t with
  | zero => intro i hi; omega
  | succ t ih =>
    intro i hi
    show g9 (sp_up _ t _ i)
    unfold sp_up
    split
    · unfold sp_tn
      split
      · exact cut_g9 _
      · unfold g9; decide
    · exact ih i (by omega)
theorem go_rg {K : sp_K} {sg : Int32} {S : sp_S} (hT : K.1 ≤ 8) (h : sp_rg S) (hr : S.1.toInt < 1999) : sp_rg (sp_go K sg S) := by
  obtain ⟨a, b, c⟩ := h
  have e1 : (1 : Int32).toInt = 1 := rfl
  have q := @tow_rg K sg S.1 S.2.2.2.1 S.2.2.2.2 (S.2.1, S.2.2.1, fun _ => 0) b (fun t ht => (c t ht).1) K.1 hT
  refine ⟨?_, q.1, fun t ht => ⟨q.2 t ht, (c t ht).2⟩⟩
  show 0 ≤ (S.1 + 1).toInt ∧ (S.1 + 1).toInt < 2000
  rw [i_add (by rw [e1]; omega) (by rw [e1]; omega), e1]
  omega
theorem CK_of {m m' : ev_M} {c : Nat} {K : sp_K} (h : CK m c K) (h1 : ∀ k, 5 ≤ k → m'.1 c k = m.1 c k) (h2 : m'.1 (c + 5) = m.1 (c + 5)) : CK m' c K := by
  obtain ⟨y1, y2, y3, ⟨z, y4, y5, y6, y7⟩, ⟨z', y4', y5', y6', y7'⟩, y8⟩ := h
  exact ⟨y1, y2, by rw [h1 _ (by omega)]; exact y3, ⟨z, by rw [h1 _ (by omega)]; exact y4, by rw [h1 _ (by omega)]; exact y5, y6, by rw [h2]; exact y7⟩, ⟨z', by rw [h1 _ (by omega)]; exact y4', by rw [h1 _ (by omega)]; exact y5', y6', by rw [h2]; exact y7'⟩, y8⟩
theorem thr_fr {f o : Nat} {a2 a3 : Int32} {m m' : ev_M} {r : Unit} (ho : okO o) (h : FX3_goThrough f o a2 a3 m = some (r, m')) : (∀ a k, a ≠ 18 → a ≠ 20 → a ≠ 21 → ¬ (a = o ∧ k = 3) → a ≠ o + 1 → m'.1 a k = m.1 a k) := by
  intro a k h1 h2 h3 h4 h5
  refine (MDX3_goThrough h a k ?_).1
  unfold mdX3_goThrough
  omega
set_option maxHeartbeats 4000000 in
theorem c_go_L {f o c : Nat} {K : sp_K} {m0 : ev_M} {sg w : Int32} {S : sp_S} {kf : ev_M → Option (Unit × ev_M)} (hf : 1700 ≤ f) (hK : CK m0 c K) (h16 : m0.1 16 2 = Int32.ofNat c) (hw : m0.1 c 8 = w) (ho : okO o) (hS : CS m0 o S) (hr : sp_rg S) :
    ∀ (j t n : Nat) (m : ev_M), t + j = K.1 → j < n → (∀ a k, a ≠ 18 → a ≠ 20 → a ≠ 21 → ¬ (a = o ∧ k = 3) → a ≠ o + 1 → ¬ (a = 16 ∧ k = 3) → m.1 a k = m0.1 a k) →
    m.1 o 3 = (sp_tow K sg S.1 S.2.2.2.1 S.2.2.2.2 t (S.2.1, S.2.2.1, fun _ => 0)).1 → (∀ i, i < 8 → m.1 (o + 1) i = (sp_tow K sg S.1 S.2.2.2.1 S.2.2.2.2 t (S.2.1, S.2.2.1, fun _ => 0)).2.1 i) → (∀ i, i < t → m.1 21 i = (sp_tow K sg S.1 S.2.2.2.1 S.2.2.2.2 t (S.2.1, S.2.2.1, fun _ => 0)).2.2 i) → m.1 16 3 = Int32.ofNat (msk (dbt w (sp_tow K sg S.1 S.2.2.2.1 S.2.2.2.2 t (S.2.1, S.2.2.1, fun _ => 0)).2.2) t) →
    ∃ m', FX3_go_L7 f kf o sg n (Int32.ofNat t) m = kf m' ∧ (∀ a k, a ≠ 18 → a ≠ 20 → a ≠ 21 → ¬ (a = o ∧ k = 3) → a ≠ o + 1 → ¬ (a = 16 ∧ k = 3) → m'.1 a k = m0.1 a k) ∧ m'.1 o 3 = (sp_res K sg S).1 ∧ (∀ i, i < 8 → m'.1 (o + 1) i = (sp_res K sg S).2.1 i) ∧ (∀ i, i < K.1 → m'.1 21 i = sp_tns K sg S i) ∧ m'.1 16 3 = Int32.ofNat (msk (dbt w (sp_tns K sg S)) K.1) := by
  have hK0 := hK
  obtain ⟨hc, hT, hT2, hrest⟩ := hK
  have ho' := ho
  unfold okO at ho'
  intro j
  induction j with
  | zero =>
    intro t n m h1 h2 hfr q1 q2 q3 q4
    obtain ⟨n, rfl⟩ : ∃ q, n = q + 1 := ⟨n - 1, by omega⟩
    have : t = K.1 := by omega
    subst this
    refine ⟨m, ?_, hfr, q1, q2, q3, q4⟩
    have h16' : (m.1 16 2).toNatClampNeg = c := by rw [hfr 16 2 (by omega) (by omega) (by omega) (by omega) (by omega) (by omega), h16, n_nat (by omega)]
    rw [FX3_go_L7, h16', if_pos (isK1 hc), hfr c 5 (by omega) (by omega) (by omega) (by omega) (by omega) (by omega), hT2, if_pos ((n_le (by omega) (by omega)).mpr (Nat.le_refl _))]
  | succ j ih =>
    intro t n m h1 h2 hfr q1 q2 q3 q4
    obtain ⟨n, rfl⟩ : ∃ q, n = q + 1 := ⟨n - 1, by omega⟩
    have h16m : m.1 16 2 = Int32.ofNat c := by rw [hfr 16 2 (by omega) (by omega) (by omega) (by omega) (by omega) (by omega), h16]
    have h16' : (m.1 16 2).toNatClampNeg = c := by rw [h16m, n_nat (by omega)]
    rw [FX3_go_L7, h16', if_pos (isK1 hc), hfr c 5 (by omega) (by omega) (by omega) (by omega) (by omega) (by omega), hT2, if_neg (fun q => by rw [n_le (by omega) (by omega)] at q; omega)]
    have hb := @tow_rg K sg S.1 S.2.2.2.1 S.2.2.2.2 (S.2.1, S.2.2.1, fun _ => 0) hr.2.1 (fun t ht => (hr.2.2 t ht).1) t (by omega)
    have hKm : CK m c K := CK_of hK0 (fun k hk => hfr c k (by omega) (by omega) (by omega) (by omega) (by omega) (by omega)) (funext fun k => hfr _ k (by omega) (by omega) (by omega) (by omega) (by omega) (by omega))
    obtain ⟨m3, w1, w2, w3, w4⟩ := @c_thr f o c t K m sg S.1 S.2.2.2.1 S.2.2.2.2 (sp_tow K sg S.1 S.2.2.2.1 S.2.2.2.2 t (S.2.1, S.2.2.1, fun _ => 0)) hf hKm h16m ho (by omega) (by rw [hfr o 2 (by omega) (by omega) (by omega) (by omega) (by omega) (by omega)]; exact hS.1) q1 (q2 t (by omega)) (by rw [hfr (o + 2) t (by omega) (by omega) (by omega) (by omega) (by omega) (by omega)]; exact (hS.2.2 t (by omega)).2.1) (by rw [hfr o 4 (by omega) (by omega) (by omega) (by omega) (by omega) (by omega)]; exact (hS.2.2 t (by omega)).2.2) (g9_bd hb.1) (g9_bd (hb.2 t (by omega))) (g9_bd (hr.2.2 t (by omega)).2.1) (by unfold sp_bd; have := hr.1; omega)
    have fr3 := thr_fr ho w1
    rw [show ((sg >>> (Int32.ofNat t &&& 31)) &&& 1) = bt sg t from rfl, w1, bd_some, if_pos ((n_in (by omega)).mpr (by omega))]
    have fr3' : ∀ a k, a ≠ 18 → a ≠ 20 → a ≠ 21 → ¬ (a = o ∧ k = 3) → a ≠ o + 1 → ¬ (a = 16 ∧ k = 3) → m3.1 a k = m0.1 a k := fun a k z1 z2 z3 z4 z5 z6 => (fr3 a k z1 z2 z3 z4 z5).trans (hfr a k z1 z2 z3 z4 z5 z6)
    have h16'' : (m3.1 16 2).toNatClampNeg = c := by rw [fr3' 16 2 (by omega) (by omega) (by omega) (by omega) (by omega) (by omega), h16, n_nat (by omega)]
    have e21 : m3.1 21 t = sp_tn K sg S.1 S.2.2.2.1 S.2.2.2.2 t (sp_tow K sg S.1 S.2.2.2.1 S.2.2.2.2 t (S.2.1, S.2.2.1, fun _ => 0)) := by rw [w4, sp_at]; rfl
    have e16 : m3.1 16 3 = Int32.ofNat (msk (dbt w (sp_tow K sg S.1 S.2.2.2.1 S.2.2.2.2 t (S.2.1, S.2.2.1, fun _ => 0)).2.2) t) := by rw [fr3 16 3 (by omega) (by omega) (by omega) (by omega) (by omega)]; exact q4
    have ew : m3.1 c 8 = w := by rw [fr3' c 8 (by omega) (by omega) (by omega) (by omega) (by omega) (by omega)]; exact hw
    rw [h16'', if_pos (isK1 hc), n_nat (by omega), ew, e21]
    unfold FX3_go_J57
    have st : Int32.ofNat t + 1 = Int32.ofNat (t + 1) := by rw [show (1 : Int32) = Int32.ofNat 1 from rfl, n_add]
    rw [st]
    -- the next state's facts
    have n1 : m3.1 o 3 = (sp_tow K sg S.1 S.2.2.2.1 S.2.2.2.2 (t + 1) (S.2.1, S.2.2.1, fun _ => 0)).1 := w3
    have n2 : ∀ i, i < 8 → m3.1 (o + 1) i = (sp_tow K sg S.1 S.2.2.2.1 S.2.2.2.2 (t + 1) (S.2.1, S.2.2.1, fun _ => 0)).2.1 i := by
      intro i hi
      rw [w2]
      show sp_up (m.1 (o + 1)) t (sp_up _ t _ t) i = sp_up _ t _ i
      rw [sp_at]
      unfold sp_up
      split
      · rfl
      · exact q2 i hi
    have n3 : ∀ i, i < t + 1 → m3.1 21 i = (sp_tow K sg S.1 S.2.2.2.1 S.2.2.2.2 (t + 1) (S.2.1, S.2.2.1, fun _ => 0)).2.2 i := by
      intro i hi
      rw [w4]
      show sp_up (m.1 21) t _ i = sp_up _ t _ i
      unfold sp_up
      split
      · rfl
      · exact q3 i (by omega)
    have n4 : msk (dbt w (sp_tow K sg S.1 S.2.2.2.1 S.2.2.2.2 (t + 1) (S.2.1, S.2.2.1, fun _ => 0)).2.2) t = msk (dbt w (sp_tow K sg S.1 S.2.2.2.1 S.2.2.2.2 t (S.2.1, S.2.2.1, fun _ => 0)).2.2) t := by
      apply msk_congr
      intro i hi
      show decide (sp_up _ t _ i < w) = decide (_ < w)
      rw [sp_ne _ _ (by omega)]
    have n5 : dbt w (sp_tow K sg S.1 S.2.2.2.1 S.2.2.2.2 (t + 1) (S.2.1, S.2.2.1, fun _ => 0)).2.2 t = decide (sp_tn K sg S.1 S.2.2.2.1 S.2.2.2.2 t (sp_tow K sg S.1 S.2.2.2.1 S.2.2.2.2 t (S.2.1, S.2.2.1, fun _ => 0)) < w) := by
      show decide (sp_up _ t _ t < w) = _
      rw [sp_at]
    have n6 : ∀ tn : Int32, ¬ w ≤ tn ↔ tn < w := fun tn => by rw [i_le, i_lt]; omega
    by_cases hd : w ≤ sp_tn K sg S.1 S.2.2.2.1 S.2.2.2.2 t (sp_tow K sg S.1 S.2.2.2.1 S.2.2.2.2 t (S.2.1, S.2.2.1, fun _ => 0))
    · rw [if_pos hd]
      refine ih (t + 1) n m3 (by omega) (by omega) fr3' n1 n2 n3 ?_
      rw [e16]
      show _ = Int32.ofNat (msk _ t + _)
      rw [n4, n5, if_neg (by simp; exact hd), Nat.add_zero]
    · rw [if_neg hd]
      refine ih (t + 1) n (ev_up m3.1 16 3 _, m3.2) (by omega) (by omega) ?_ ?_ ?_ ?_ ?_
      · intro a k z1 z2 z3 z4 z5 z6
        show ev_up m3.1 16 3 _ a k = _
        rw [← fr3' a k z1 z2 z3 z4 z5 z6]
        by_cases ha : a = 16
        · subst ha; rw [up_nk _ _ _ (fun q => z6 ⟨rfl, q⟩)]
        · rw [up_na _ _ _ _ ha]
      · rw [upI_na _ _ _ _ (by omega)]; exact n1
      · intro i hi; rw [upI_na _ _ _ _ (by omega)]; exact n2 i hi
      · intro i hi; rw [upI_na _ _ _ _ (by omega)]; exact n3 i hi
      · rw [upI_at, e16]
        show _ = Int32.ofNat (msk _ t + _)
        rw [n4, n5, if_pos (by simp; exact (n6 _).mp hd), or_all t (by omega) _ (msk_lt _ _)]
theorem c_go {f o c : Nat} {K : sp_K} {m : ev_M} {sg w : Int32} {S : sp_S} (hf : 1700 ≤ f) (hK : CK m c K) (h16 : m.1 16 2 = Int32.ofNat c) (hw : m.1 c 8 = w) (ho : okO o) (hS : CS m o S) (hr : sp_rg S) (hn : S.1.toInt < 999) :
    ∃ m', FX3_go f o sg m = some ((), m') ∧ CS m' o (sp_go K sg S) ∧ (∀ i, i < K.1 → m'.1 21 i = sp_tns K sg S i) ∧ m'.1 16 3 = Int32.ofNat (msk (dbt w (sp_tns K sg S)) K.1) := by
  have ho' := ho
  unfold okO at ho'
  have hK0 := hK
  obtain ⟨hc, hT, hT2, hrest⟩ := hK
  unfold FX3_go
  have f0 : ∀ a k, ¬ (a = 16 ∧ k = 3) → ((ev_up m.1 16 3 0, m.2) : ev_M).1 a k = m.1 a k := by
    intro a k h
    show ev_up m.1 16 3 0 a k = _
    by_cases ha : a = 16
    · subst ha; rw [up_nk _ _ _ (fun q => h ⟨rfl, q⟩)]
    · rw [up_na _ _ _ _ ha]
  obtain ⟨m', r1, r2, r3, r4, r5, r6⟩ := @c_go_L f o c K (ev_up m.1 16 3 0, m.2) sg w S (fun m5 => (ev_bd (FX8_hasNext f o m5) (fun r6 m7 => (if r6 = 0 then some ((), m7) else some ((), ((ev_up m7.1 o 2 ((m7.1 o 2) + 1)), m7.2)))))) hf (CK_of hK0 (fun k _ => f0 c k (by omega)) (funext fun k => f0 _ k (by omega))) (by rw [f0 16 2 (by omega)]; exact h16) (by rw [f0 c 8 (by omega)]; exact hw) ho ⟨by rw [f0 o 2 (by omega)]; exact hS.1, by rw [f0 o 3 (by omega)]; exact hS.2.1, fun t ht => ⟨by rw [f0 _ t (by omega)]; exact (hS.2.2 t ht).1, by rw [f0 _ t (by omega)]; exact (hS.2.2 t ht).2.1, by rw [f0 o 4 (by omega)]; exact (hS.2.2 t ht).2.2⟩⟩ hr K.1 0 f (ev_up m.1 16 3 0, m.2) (by omega) (by omega) (fun a k _ _ _ _ _ _ => rfl) (by rw [f0 o 3 (by omega)]; exact hS.2.1) (fun i hi => by rw [f0 _ i (by omega)]; exact (hS.2.2 i hi).1) (fun i hi => by omega) (upI_at _ _ _ _ _)
  rw [show (0 : Int32) = Int32.ofNat 0 from rfl] at r1 ⊢
  rw [r1]
  have e2 : m'.1 o 2 = S.1 := by rw [r2 o 2 (by omega) (by omega) (by omega) (by omega) (by omega) (by omega), f0 o 2 (by omega)]; exact hS.1
  show ∃ m'', (ev_bd (FX8_hasNext f o m') (fun r6 m7 => (if r6 = 0 then some ((), m7) else some ((), ((ev_up m7.1 o 2 ((m7.1 o 2) + 1)), m7.2))))) = some ((), m'') ∧ _
  unfold FX8_hasNext
  have e999 : (999 : Int32).toInt = 999 := rfl
  rw [e2, if_neg (by rw [i_le, e999]; omega), bd_some, if_neg (by decide)]
  refine ⟨_, rfl, ⟨?_, ?_, fun t ht => ⟨?_, ?_, ?_⟩⟩, ?_, ?_⟩
  · rw [upI_at, e2]; rfl
  · rw [upI_nk _ _ _ _ (by decide)]; exact r3
  · rw [upI_na _ _ _ _ (by omega)]; exact r4 t ht
  · rw [upI_na _ _ _ _ (by omega), r2 (o + 2) t (by omega) (by omega) (by omega) (by omega) (by omega) (by omega), f0 _ t (by omega)]; exact (hS.2.2 t ht).2.1
  · rw [upI_nk _ _ _ _ (by decide), r2 o 4 (by omega) (by omega) (by omega) (by omega) (by omega) (by omega), f0 o 4 (by omega)]; exact (hS.2.2 t ht).2.2
  · intro i hi; rw [upI_na _ _ _ _ (by omega)]; exact r5 i hi
  · rw [upI_na _ _ _ _ (by omega)]; exact r6
