/-! the reference works out code -/
theorem j_0 : ((0 : Int64)).toInt = 0 := rfl
theorem j_1 : ((1 : Int64)).toInt = 1 := rfl
theorem r_clip (f : Nat) (v : Int64) (m : ev_M) : ∃ r : Int64, FX12_qClip f v m = some (r, m) ∧ r.toInt = sp_clip v.toInt := by
  unfold FX12_qClip
  by_cases h1 : v.toInt ≤ 1000000
  · rw [if_pos ((lg_le0 _ _).mpr (by rw [j_p6]; exact h1))]
    by_cases h2 : -1000000 ≤ v.toInt
    · rw [if_pos ((lg_ge0 _ _).mpr (by rw [j_n6]; exact h2))]
      exact ⟨v, rfl, by unfold sp_clip; rw [if_neg (by omega), if_neg (by omega)]⟩
    · rw [if_neg (fun q => h2 (by have := (lg_ge0 _ _).mp q; rw [j_n6] at this; exact this))]
      exact ⟨_, rfl, by unfold sp_clip; rw [j_n6, if_neg (by omega), if_pos (by omega)]⟩
  · rw [if_neg (fun q => h1 (by have := (lg_le0 _ _).mp q; rw [j_p6] at this; exact this))]
    exact ⟨_, rfl, by unfold sp_clip; rw [j_p6, if_pos (by omega)]⟩
theorem r_puts {f d : Nat} {v : Int64} {m : ev_M} (h : m.1 112 99 = Int32.ofNat d) (hd : d < 1700) : FX12_qPuts f v m = some ((), (ev_up m.1 112 99 (Int32.ofNat (d + 1)), ev_up m.2 179 d v)) := by
  unfold FX12_qPuts
  rw [h, if_pos ((n_in (by omega)).mpr hd), n_nat (by omega), show (1 : Int32) = Int32.ofNat 1 from rfl, n_add]
theorem r_floor {f : Nat} {x y : Int64} {m : ev_M} (hx : sp_bd x.toInt) (hy : sp_bd y.toInt) : ∃ r : Int64, FX12_qFloor f x y m = some (r, m) ∧ r.toInt = (if y.toInt = 0 then 0 else x.toInt.fdiv y.toInt) := by
  unfold sp_bd at hx hy
  unfold FX12_qFloor
  by_cases h0 : y.toInt = 0
  · rw [if_pos ((lg_eq0 _ _).mpr h0), if_pos h0]; exact ⟨0, rfl, rfl⟩
  · have hy0 : y ≠ 0 := fun q => h0 (by rw [q]; rfl)
    rw [if_neg (fun q => h0 ((lg_eq0 _ _).mp q)), if_neg hy0, if_neg hy0, if_neg h0, fl_eq h0]
    have hq : (x / y).toInt = x.toInt.tdiv y.toInt := by
      apply Int64.toInt_div_of_ne_left
      intro q
      rw [q, Int64.toInt_minValue] at hx
      omega
    have hq2 := Int.natAbs_tdiv_le_natAbs x.toInt y.toInt
    have hq3 := Int.tmod_add_tdiv_mul x.toInt y.toInt
    have hq4 : (x.toInt.tmod y.toInt).natAbs ≤ x.toInt.natAbs := by
      have := Int.natAbs_tmod x.toInt y.toInt
      rw [this]; exact Nat.mod_le _ _
    have hq5 : ((x / y) * y).toInt = x.toInt.tdiv y.toInt * y.toInt := by
      rw [j_mul (by rw [hq]; omega) (by rw [hq]; omega), hq]
    have hq6 : (x - x / y * y).toInt = x.toInt - x.toInt.tdiv y.toInt * y.toInt := by
      rw [j_sub (by rw [hq5]; omega) (by rw [hq5]; omega), hq5]
    have hq7 : (x / y - 1).toInt = x.toInt.tdiv y.toInt - 1 := by
      rw [j_sub (by rw [hq, j_1]; omega) (by rw [hq, j_1]; omega), hq, j_1]
    by_cases hz : x.toInt - x.toInt.tdiv y.toInt * y.toInt = 0
    · rw [if_pos ((lg_eq0 _ _).mpr (by rw [hq6, j_0]; exact hz)), if_neg (fun q => q.1 hz)]
      exact ⟨_, rfl, hq⟩
    · rw [if_neg (fun q => hz (by have := (lg_eq0 _ _).mp q; rw [hq6, j_0] at this; exact this))]
      unfold FX12_qFloor_J32
      by_cases ha : 0 ≤ x.toInt
      · rw [if_pos ((lg_ge0 x 0).mpr (by rw [j_0]; exact ha))]
        by_cases hb : 0 ≤ y.toInt
        · rw [if_pos ((lg_ge0 y 0).mpr (by rw [j_0]; exact hb)), if_pos rfl, if_neg (fun q => q.2 ⟨fun _ => hb, fun _ => ha⟩)]; exact ⟨_, rfl, hq⟩
        · rw [if_neg (fun q => hb (by have := (lg_ge0 y 0).mp q; rw [j_0] at this; exact this)), if_neg (by decide), if_pos ⟨hz, fun q => hb (q.mp ha)⟩]; exact ⟨_, rfl, hq7⟩
      · rw [if_neg (fun q => ha (by have := (lg_ge0 x 0).mp q; rw [j_0] at this; exact this))]
        by_cases hb : 0 ≤ y.toInt
        · rw [if_pos ((lg_ge0 y 0).mpr (by rw [j_0]; exact hb)), if_neg (by decide), if_pos ⟨hz, fun q => ha (q.mpr hb)⟩]; exact ⟨_, rfl, hq7⟩
        · rw [if_neg (fun q => hb (by have := (lg_ge0 y 0).mp q; rw [j_0] at this; exact this)), if_pos rfl, if_neg (fun q => q.2 ⟨fun h => absurd h ha, fun h => absurd h hb⟩)]; exact ⟨_, rfl, hq⟩
def sameQ (m0 m : ev_M) : Prop := (∀ a k, ¬ (a = 112 ∧ k = 99) → m.1 a k = m0.1 a k) ∧ (∀ a, a ≠ 179 → m.2 a = m0.2 a)
theorem sameQ_up {m0 m : ev_M} (h : sameQ m0 m) (k : Nat) (v : Int32) (w : Int64) : sameQ m0 (ev_up m.1 112 99 v, ev_up m.2 179 k w) := by
  refine ⟨fun a j hj => ?_, fun a ha => (ev_up_ne m.2 k w ha).trans (h.2 a ha)⟩
  show ev_up m.1 112 99 v a j = m0.1 a j
  rw [← h.1 a j hj]
  by_cases e : a = 112
  · subst e; rw [ev_up_at, if_neg (fun q => hj ⟨rfl, q⟩)]
  · rw [ev_up_ne _ _ _ e]
theorem sameQ_upL {m0 m : ev_M} (h : sameQ m0 m) (k : Nat) (w : Int64) : sameQ m0 (m.1, ev_up m.2 179 k w) := ⟨h.1, fun a ha => (ev_up_ne m.2 k w ha).trans (h.2 a ha)⟩
theorem sameQ_up1 {m0 m : ev_M} (h : sameQ m0 m) (v : Int32) : sameQ m0 (ev_up m.1 112 99 v, m.2) := by
  refine ⟨fun a j hj => ?_, h.2⟩
  show ev_up m.1 112 99 v a j = m0.1 a j
  rw [← h.1 a j hj]
  by_cases e : a = 112
  · subst e; rw [ev_up_at, if_neg (fun q => hj ⟨rfl, q⟩)]
  · rw [ev_up_ne _ _ _ e]
theorem stl_up {m2 : Nat → Nat → Int64} {s : Nat → Int} {d n j : Nat} {v : Int64} {x : Int} (h : ∀ i, i < d → (m2 179 i).toInt = s i) (hn : ∀ i, i < n → i ≠ j → i < d) (hv : v.toInt = x) : ∀ i, i < n → ((ev_up m2 179 j v) 179 i).toInt = sp_up s j x i := by
  intro i hi
  rw [ev_up_at]
  unfold sp_up
  by_cases e : i = j
  · rw [if_pos e, if_pos e]; exact hv
  · rw [if_neg e, if_neg e]; exact h i (hn i hi e)
/-- one joining -/
theorem r_join {f c d : Nat} {m0 m : ev_M} {s : Nat → Int} (hs : sameQ m0 m) (hdp : m.1 112 99 = Int32.ofNat d) (hst : ∀ i, i < d → (m.2 179 i).toInt = s i) (h1 : 1 ≤ c) (h2 : c ≤ 11) (hd : 1 < d) (hd2 : d ≤ 64) (ha : sp_bd (s (d - 2))) (hb : sp_bd (s (d - 1))) (hf : 10 ≤ c → (s (d - 2) = 0 ∨ s (d - 2) = 1) ∧ (s (d - 1) = 0 ∨ s (d - 1) = 1)) :
    ∃ m2, FX12_qJoins f (Int32.ofNat c) m = some ((), m2) ∧ sameQ m0 m2 ∧ m2.1 112 99 = Int32.ofNat (d - 1) ∧ (∀ i, i < d - 1 → (m2.2 179 i).toInt = sp_up s (d - 2) (sp_join c (s (d - 2)) (s (d - 1))) i) := by
  have en1 : m.1 112 99 - 1 = Int32.ofNat (d - 1) := by rw [hdp, show (1 : Int32) = Int32.ofNat 1 from rfl, n_sub (by omega)]
  have en2 : m.1 112 99 - 2 = Int32.ofNat (d - 2) := by rw [hdp, show (2 : Int32) = Int32.ofNat 2 from rfl, n_sub (by omega)]
  have hqa := hst (d - 2) (by omega)
  have hqb := hst (d - 1) (by omega)
  -- all ways end with a put of r
  have fin : ∀ r : Int64, r.toInt = sp_join c (s (d - 2)) (s (d - 1)) → FX12_qPuts f r (ev_up m.1 112 99 (Int32.ofNat (d - 2)), m.2) = some ((), (ev_up (ev_up m.1 112 99 (Int32.ofNat (d - 2))) 112 99 (Int32.ofNat (d - 1)), ev_up m.2 179 (d - 2) r)) ∧ (sameQ m0 (ev_up (ev_up m.1 112 99 (Int32.ofNat (d - 2))) 112 99 (Int32.ofNat (d - 1)), ev_up m.2 179 (d - 2) r) ∧ (ev_up (ev_up m.1 112 99 (Int32.ofNat (d - 2))) 112 99 (Int32.ofNat (d - 1))) 112 99 = Int32.ofNat (d - 1) ∧ (∀ i, i < d - 1 → ((ev_up m.2 179 (d - 2) r) 179 i).toInt = sp_up s (d - 2) (sp_join c (s (d - 2)) (s (d - 1))) i)) := by
    intro r hr
    refine ⟨?_, ?_, ?_, ?_⟩
    · rw [@r_puts f (d - 2) r (ev_up m.1 112 99 (Int32.ofNat (d - 2)), m.2) (show ev_up m.1 112 99 (Int32.ofNat (d - 2)) 112 99 = Int32.ofNat (d - 2) from up_at _ _ _ _) (by omega)]
      rw [show d - 2 + 1 = d - 1 by omega]
    · exact sameQ_up (sameQ_up1 hs _) _ _ _
    · exact up_at _ _ _ _
    · exact stl_up hst (fun i q1 q2 => by omega) hr
  unfold FX12_qJoins
  rw [en1, en2]
  rw [if_pos ((n_in (by omega)).mpr (by omega)), if_pos ((n_in (by omega)).mpr (by omega)), n_nat (by omega), n_nat (by omega)]
  have ne : ∀ a : Nat, a ≤ 11 → c ≠ a → ¬ Int32.ofNat c = Int32.ofNat a := fun a ha hc q => hc ((n_eq (by omega) (by omega)).mp q)
  unfold sp_bd at ha hb
  have hmul : -1000000000000 ≤ s (d - 2) * s (d - 1) ∧ s (d - 2) * s (d - 1) ≤ 1000000000000 := by
    have h1 : (s (d - 2) * s (d - 1)).natAbs = (s (d - 2)).natAbs * (s (d - 1)).natAbs := Int.natAbs_mul _ _
    have h2 : (s (d - 2)).natAbs * (s (d - 1)).natAbs ≤ 1000000 * 1000000 := Nat.mul_le_mul (by omega) (by omega)
    omega
  by_cases c1 : c = 1
  · rw [if_pos (by rw [c1]; rfl)]
    obtain ⟨r, e1, e2⟩ := r_clip f (m.2 179 (d - 2) + m.2 179 (d - 1)) (ev_up m.1 112 99 (Int32.ofNat (d - 2)), m.2)
    have hr : r.toInt = sp_join c (s (d - 2)) (s (d - 1)) := by
      rw [e2, j_add (by rw [hqa, hqb]; omega) (by rw [hqa, hqb]; omega), hqa, hqb, c1]; unfold sp_join; rw [if_pos rfl]
    rw [e1, bd_some, (fin r hr).1, bd_some]
    exact ⟨_, rfl, (fin r hr).2⟩
  rw [if_neg (show ¬ Int32.ofNat c = 1 from ne 1 (by omega) c1)]
  by_cases c2 : c = 2
  · rw [if_pos (by rw [c2]; rfl)]
    obtain ⟨r, e1, e2⟩ := r_clip f (m.2 179 (d - 2) - m.2 179 (d - 1)) (ev_up m.1 112 99 (Int32.ofNat (d - 2)), m.2)
    have hr : r.toInt = sp_join c (s (d - 2)) (s (d - 1)) := by
      rw [e2, j_sub (by rw [hqa, hqb]; omega) (by rw [hqa, hqb]; omega), hqa, hqb, c2]; unfold sp_join; rw [if_neg (by omega), if_pos rfl]
    rw [e1, bd_some, (fin r hr).1, bd_some]
    exact ⟨_, rfl, (fin r hr).2⟩
  rw [if_neg (show ¬ Int32.ofNat c = 2 from ne 2 (by omega) c2)]
  by_cases c3 : c = 3
  · rw [if_pos (by rw [c3]; rfl)]
    obtain ⟨r, e1, e2⟩ := r_clip f (m.2 179 (d - 2) * m.2 179 (d - 1)) (ev_up m.1 112 99 (Int32.ofNat (d - 2)), m.2)
    have hr : r.toInt = sp_join c (s (d - 2)) (s (d - 1)) := by
      rw [e2, j_mul (by rw [hqa, hqb]; omega) (by rw [hqa, hqb]; omega), hqa, hqb, c3]; unfold sp_join; rw [if_neg (by omega), if_neg (by omega), if_pos rfl]
    rw [e1, bd_some, (fin r hr).1, bd_some]
    exact ⟨_, rfl, (fin r hr).2⟩
  rw [if_neg (show ¬ Int32.ofNat c = 3 from ne 3 (by omega) c3)]
  have hj : sp_join c (s (d - 2)) (s (d - 1)) = (if c = 4 then (if s (d - 1) = 0 then 0 else (s (d - 2)).fdiv (s (d - 1))) else if c = 5 then (if s (d - 2) < s (d - 1) then s (d - 2) else s (d - 1)) else if c = 6 then (if s (d - 1) < s (d - 2) then s (d - 2) else s (d - 1)) else if c = 7 then (if s (d - 2) < s (d - 1) then 1 else 0) else if c = 8 then (if s (d - 1) < s (d - 2) then 1 else 0) else if c = 9 then (if s (d - 2) = s (d - 1) then 1 else 0) else if c = 10 then s (d - 2) * s (d - 1) else (if 0 < s (d - 2) + s (d - 1) then 1 else 0)) := by
    unfold sp_join; rw [if_neg c1, if_neg c2, if_neg c3]
  by_cases c4 : c = 4
  · rw [if_pos (by rw [c4]; rfl)]
    obtain ⟨r, e1, e2⟩ := @r_floor f (m.2 179 (d - 2)) (m.2 179 (d - 1)) (ev_up m.1 112 99 (Int32.ofNat (d - 2)), m.2) (by unfold sp_bd; rw [hqa]; exact ha) (by unfold sp_bd; rw [hqb]; exact hb)
    have hr : r.toInt = sp_join c (s (d - 2)) (s (d - 1)) := by
      rw [e2, hqa, hqb, hj, if_pos c4]
    rw [e1, bd_some, (fin r hr).1, bd_some]
    exact ⟨_, rfl, (fin r hr).2⟩
  rw [if_neg (show ¬ Int32.ofNat c = 4 from ne 4 (by omega) c4)]
  rw [if_neg c4] at hj
  by_cases c5 : c = 5
  · rw [if_pos (by rw [c5]; rfl)]
    rw [if_pos c5] at hj
    unfold FX12_qJoins_J161
    by_cases hh : s (d - 1) ≤ s (d - 2)
    · rw [if_pos ((lg_ge0 _ _).mpr (by rw [hqa, hqb]; exact hh))]
      have hr : (m.2 179 (d - 1)).toInt = sp_join c (s (d - 2)) (s (d - 1)) := by rw [hqb, hj, if_neg (by omega)]
      rw [(fin _ hr).1, bd_some]
      exact ⟨_, rfl, (fin _ hr).2⟩
    · rw [if_neg (fun q => hh (by have := (lg_ge0 _ _).mp q; rw [hqa, hqb] at this; exact this))]
      have hr : (m.2 179 (d - 2)).toInt = sp_join c (s (d - 2)) (s (d - 1)) := by rw [hqa, hj, if_pos (by omega)]
      rw [(fin _ hr).1, bd_some]
      exact ⟨_, rfl, (fin _ hr).2⟩
  rw [if_neg (show ¬ Int32.ofNat c = 5 from ne 5 (by omega) c5)]
  rw [if_neg c5] at hj
  by_cases c6 : c = 6
  · rw [if_pos (by rw [c6]; rfl)]
    rw [if_pos c6] at hj
    unfold FX12_qJoins_J181
    by_cases hh : s (d - 2) ≤ s (d - 1)
    · rw [if_pos ((lg_le0 _ _).mpr (by rw [hqa, hqb]; exact hh))]
      have hr : (m.2 179 (d - 1)).toInt = sp_join c (s (d - 2)) (s (d - 1)) := by rw [hqb, hj, if_neg (by omega)]
      rw [(fin _ hr).1, bd_some]
      exact ⟨_, rfl, (fin _ hr).2⟩
    · rw [if_neg (fun q => hh (by have := (lg_le0 _ _).mp q; rw [hqa, hqb] at this; exact this))]
      have hr : (m.2 179 (d - 2)).toInt = sp_join c (s (d - 2)) (s (d - 1)) := by rw [hqa, hj, if_pos (by omega)]
      rw [(fin _ hr).1, bd_some]
      exact ⟨_, rfl, (fin _ hr).2⟩
  rw [if_neg (show ¬ Int32.ofNat c = 6 from ne 6 (by omega) c6)]
  rw [if_neg c6] at hj
  by_cases c7 : c = 7
  · rw [if_pos (by rw [c7]; rfl)]
    rw [if_pos c7] at hj
    unfold FX12_qJoins_J200
    by_cases hh : s (d - 1) ≤ s (d - 2)
    · rw [if_pos ((lg_ge0 _ _).mpr (by rw [hqa, hqb]; exact hh))]
      have hr : (0 : Int64).toInt = sp_join c (s (d - 2)) (s (d - 1)) := by rw [hj, if_neg (by omega)]; rfl
      rw [(fin _ hr).1, bd_some]
      exact ⟨_, rfl, (fin _ hr).2⟩
    · rw [if_neg (fun q => hh (by have := (lg_ge0 _ _).mp q; rw [hqa, hqb] at this; exact this))]
      have hr : (1 : Int64).toInt = sp_join c (s (d - 2)) (s (d - 1)) := by rw [hj, if_pos (by omega)]; rfl
      rw [(fin _ hr).1, bd_some]
      exact ⟨_, rfl, (fin _ hr).2⟩
  rw [if_neg (show ¬ Int32.ofNat c = 7 from ne 7 (by omega) c7)]
  rw [if_neg c7] at hj
  by_cases c8 : c = 8
  · rw [if_pos (by rw [c8]; rfl)]
    rw [if_pos c8] at hj
    unfold FX12_qJoins_J219
    by_cases hh : s (d - 2) ≤ s (d - 1)
    · rw [if_pos ((lg_le0 _ _).mpr (by rw [hqa, hqb]; exact hh))]
      have hr : (0 : Int64).toInt = sp_join c (s (d - 2)) (s (d - 1)) := by rw [hj, if_neg (by omega)]; rfl
      rw [(fin _ hr).1, bd_some]
      exact ⟨_, rfl, (fin _ hr).2⟩
    · rw [if_neg (fun q => hh (by have := (lg_le0 _ _).mp q; rw [hqa, hqb] at this; exact this))]
      have hr : (1 : Int64).toInt = sp_join c (s (d - 2)) (s (d - 1)) := by rw [hj, if_pos (by omega)]; rfl
      rw [(fin _ hr).1, bd_some]
      exact ⟨_, rfl, (fin _ hr).2⟩
  rw [if_neg (show ¬ Int32.ofNat c = 8 from ne 8 (by omega) c8)]
  rw [if_neg c8] at hj
  by_cases c9 : c = 9
  · rw [if_pos (by rw [c9]; rfl)]
    rw [if_pos c9] at hj
    unfold FX12_qJoins_J238
    by_cases hh : s (d - 2) = s (d - 1)
    · rw [if_pos ((lg_eq0 _ _).mpr (by rw [hqa, hqb]; exact hh))]
      have hr : (1 : Int64).toInt = sp_join c (s (d - 2)) (s (d - 1)) := by rw [hj, if_pos hh]; rfl
      rw [(fin _ hr).1, bd_some]
      exact ⟨_, rfl, (fin _ hr).2⟩
    · rw [if_neg (fun q => hh (by have := (lg_eq0 _ _).mp q; rw [hqa, hqb] at this; exact this))]
      have hr : (0 : Int64).toInt = sp_join c (s (d - 2)) (s (d - 1)) := by rw [hj, if_neg hh]; rfl
      rw [(fin _ hr).1, bd_some]
      exact ⟨_, rfl, (fin _ hr).2⟩
  rw [if_neg (show ¬ Int32.ofNat c = 9 from ne 9 (by omega) c9)]
  rw [if_neg c9] at hj
  by_cases c10 : c = 10
  · rw [if_pos (by rw [c10]; rfl)]
    rw [if_pos c10] at hj
    have hr : (m.2 179 (d - 2) * m.2 179 (d - 1)).toInt = sp_join c (s (d - 2)) (s (d - 1)) := by
      rw [j_mul (by rw [hqa, hqb]; omega) (by rw [hqa, hqb]; omega), hqa, hqb, hj]
    rw [(fin _ hr).1, bd_some]
    exact ⟨_, rfl, (fin _ hr).2⟩
  rw [if_neg (show ¬ Int32.ofNat c = 10 from ne 10 (by omega) c10)]
  rw [if_neg c10] at hj
  unfold FX12_qJoins_J270
  by_cases hh : s (d - 2) + s (d - 1) ≤ 0
  · rw [if_pos ((lg_le0 _ _).mpr (by rw [j_add (by rw [hqa, hqb]; omega) (by rw [hqa, hqb]; omega), hqa, hqb, j_0]; exact hh))]
    have hr : (0 : Int64).toInt = sp_join c (s (d - 2)) (s (d - 1)) := by rw [hj, if_neg (by omega)]; rfl
    rw [(fin _ hr).1, bd_some]
    exact ⟨_, rfl, (fin _ hr).2⟩
  · rw [if_neg (fun q => hh (by have := (lg_le0 _ _).mp q; rw [j_add (by rw [hqa, hqb]; omega) (by rw [hqa, hqb]; omega), hqa, hqb, j_0] at this; exact this))]
    have hr : (1 : Int64).toInt = sp_join c (s (d - 2)) (s (d - 1)) := by rw [hj, if_pos (by omega)]; rfl
    rw [(fin _ hr).1, bd_some]
    exact ⟨_, rfl, (fin _ hr).2⟩
set_option maxHeartbeats 4000000 in
/-- says and feels -/
theorem r_tell_L {f w : Nat} {t : Int32} {kf : ev_M → Option (Int64 × ev_M)} (hw : w < 2) {kd : Nat → Bool} {e : Nat → Int} {m0 : ev_M} (k10 : kd 10 = false) (k11 : kd 11 = false)
    (he : ∀ p, p < 10 → kd p = true → sp_bd (e p) ∧ ∀ m, sameQ m0 m → ∃ v : Int64, FX12_qPartOf f (Int32.ofNat p) t m = some (v, m) ∧ v.toInt = e p)
    {tot : Nat} (htot : tot ≤ 1600) (hend : m0.1 142 (2 + w) = Int32.ofNat tot) :
    ∀ (l : List Nat) (k n : Nat) (s : Nat → Int) (T : Nat → Bool) (d : Nat) (m : ev_M), k + l.length = tot → l.length < n → sameQ m0 m → cells Int32.ofNat (m0.1 143) (1600 + k) l → sp_wf kd l T d → sp_vs s T d → d ≤ 64 → m.1 112 99 = Int32.ofNat d → (∀ i, i < d → (m.2 179 i).toInt = s i) →
    ∃ m', FX12_codesTell_L19 f kf (Int32.ofNat w) t n (Int32.ofNat k) m = kf m' ∧ sameQ m0 m' ∧ (∀ i, i < sp_dps l d → (m'.2 179 i).toInt = sp_run e (fun _ => 0) l s d i) := by
  intro l
  induction l with
  | nil =>
    intro k n s T d m hk hn hs hc hwf hv hd hdp hst
    obtain ⟨n, rfl⟩ : ∃ q, n = q + 1 := ⟨n - 1, by simp at hn; omega⟩
    refine ⟨m, ?_, hs, hst⟩
    simp at hk
    rw [FX12_codesTell_L19, show (2 : Int32) = Int32.ofNat 2 from rfl, n_add, if_pos ((n_in (by omega)).mpr (by omega)), n_nat (by omega), hs.1 142 _ (by omega), hend, if_pos ((n_le (by omega) (by omega)).mpr (by omega))]
  | cons c l ih =>
    intro k n s T d m hk hn hs hc hwf hv hd hdp hst
    simp only [List.length_cons] at hk hn
    obtain ⟨n, rfl⟩ : ∃ q, n = q + 1 := ⟨n - 1, by omega⟩
    obtain ⟨hc1, hc2⟩ := hc
    obtain ⟨hw1, hw2⟩ := hwf
    have hcell : m.1 143 (1600 + k) = Int32.ofNat c := by rw [hs.1 143 _ (by omega)]; exact hc1
    have hv2 := vs_step (e := e) (ah := fun _ => 0) hw1 hv (fun p h1 h2 => (he p h1 h2).1) (fun _ => ⟨by omega, by omega⟩)
    have go : ∀ (m2 : ev_M), sameQ m0 m2 → m2.1 112 99 = Int32.ofNat (sp_dp c d) → sp_dp c d ≤ 64 → (∀ i, i < sp_dp c d → (m2.2 179 i).toInt = sp_st e (fun _ => 0) c s d i) → FX12_codesTell_L19 f kf (Int32.ofNat w) t (n + 1) (Int32.ofNat k) m = FX12_codesTell_L19 f kf (Int32.ofNat w) t n (Int32.ofNat (k + 1)) m2 → ∃ m', FX12_codesTell_L19 f kf (Int32.ofNat w) t (n + 1) (Int32.ofNat k) m = kf m' ∧ sameQ m0 m' ∧ (∀ i, i < sp_dps (c :: l) d → (m'.2 179 i).toInt = sp_run e (fun _ => 0) (c :: l) s d i) := by
      intro m2 q1 q2 q2' q2'' q3
      rw [q3]
      exact ih (k + 1) n _ _ _ m2 (by omega) (by omega) q1 hc2 hw2 hv2 q2' q2 q2''
    have g1 : ¬ Int32.ofNat tot ≤ Int32.ofNat k := fun q => by rw [n_le (by omega) (by omega)] at q; omega
    have hcl : c < 11000 := by
      unfold sp_ok at hw1
      by_cases h1 : 1000 ≤ c
      · rw [if_pos h1] at hw1; exact hw1.1
      · omega
    have l1000 : Int32.ofNat c < 1000 ↔ c < 1000 := by rw [show (1000 : Int32) = Int32.ofNat 1000 from rfl]; exact n_lt (by omega) (by omega)
    have l40 : Int32.ofNat c < 40 ↔ c < 40 := by rw [show (40 : Int32) = Int32.ofNat 40 from rfl]; exact n_lt (by omega) (by omega)
    have hunf : ∀ X, (if Int32.ofNat c < 1000 then (if Int32.ofNat c < 40 then (ev_bd (FX12_qJoins f (Int32.ofNat c) m) (fun _ m2 => (FX12_codesTell_J95 f (FX12_codesTell_L19 f kf (Int32.ofNat w) t n) (Int32.ofNat k) m2))) else (ev_bd (FX12_qPartOf f (Int32.ofNat c - 40) t m) (fun r3 m4 => (ev_bd (FX12_qPuts f r3 m4) (fun _ m6 => (FX12_codesTell_J95 f (FX12_codesTell_L19 f kf (Int32.ofNat w) t n) (Int32.ofNat k) m6)))))) else (ev_bd (FX12_qPuts f ((Int32.ofNat c - 1000) : Int32).toInt64 m) (fun _ m8 => (FX12_codesTell_J95 f (FX12_codesTell_L19 f kf (Int32.ofNat w) t n) (Int32.ofNat k) m8)))) = X → FX12_codesTell_L19 f kf (Int32.ofNat w) t (n + 1) (Int32.ofNat k) m = X := by
      intro X hX
      rw [FX12_codesTell_L19, show (2 : Int32) = Int32.ofNat 2 from rfl, n_add, if_pos ((n_in (by omega)).mpr (by omega)), n_nat (by omega), hs.1 142 _ (by omega), hend, if_neg g1]
      rw [show (1600 : Int32) = Int32.ofNat 1600 from rfl, n_add, if_pos ((n_in (by omega)).mpr (by omega)), n_nat (by omega), hcell]
      exact hX
    have hJ : ∀ m2, FX12_codesTell_J95 f (FX12_codesTell_L19 f kf (Int32.ofNat w) t n) (Int32.ofNat k) m2 = FX12_codesTell_L19 f kf (Int32.ofNat w) t n (Int32.ofNat (k + 1)) m2 := by
      intro m2
      unfold FX12_codesTell_J95
      rw [show (1 : Int32) = Int32.ofNat 1 from rfl, n_add]
    unfold sp_ok at hw1
    by_cases h1 : 1000 ≤ c
    · rw [if_pos h1] at hw1
      have hdd : sp_dp c d = d + 1 := by unfold sp_dp; rw [if_pos h1]
      refine go (ev_up m.1 112 99 (Int32.ofNat (d + 1)), ev_up m.2 179 d (Int32.ofNat (c - 1000)).toInt64) (sameQ_up hs _ _ _) (by rw [hdd]; exact upI_at _ _ _ _ _) (by omega) ?_ (hunf _ ?_)
      · rw [hdd]
        unfold sp_st
        rw [if_pos h1]
        exact stl_up hst (fun i q1 q2 => by omega) (by rw [j_wide, n_int (by omega)]; omega)
      · rw [if_neg (fun q => by rw [l1000] at q; omega), show (1000 : Int32) = Int32.ofNat 1000 from rfl, n_sub h1, r_puts hdp (by omega), bd_some, hJ]
    rw [if_neg h1] at hw1
    by_cases h2 : 60 ≤ c
    · rw [if_pos h2, k10] at hw1; simp at hw1
    rw [if_neg h2] at hw1
    by_cases h3 : 40 ≤ c
    · rw [if_pos h3] at hw1
      have hdd : sp_dp c d = d + 1 := by unfold sp_dp; rw [if_neg h1, if_neg h2, if_pos h3]
      obtain ⟨hb, hp⟩ := he (c - 40) (by omega) hw1.2.1
      obtain ⟨v, hv1, hv3⟩ := hp m hs
      refine go (ev_up m.1 112 99 (Int32.ofNat (d + 1)), ev_up m.2 179 d v) (sameQ_up hs _ _ _) (by rw [hdd]; exact upI_at _ _ _ _ _) (by omega) ?_ (hunf _ ?_)
      · rw [hdd]
        unfold sp_st
        rw [if_neg h1, if_neg h2, if_pos h3]
        exact stl_up hst (fun i q1 q2 => by omega) hv3
      · rw [if_pos (l1000.mpr (by omega)), if_neg (fun q => by rw [l40] at q; omega), show (40 : Int32) = Int32.ofNat 40 from rfl, n_sub h3, hv1, bd_some, r_puts hdp (by omega), bd_some, hJ]
    rw [if_neg h3] at hw1
    by_cases h4 : c = 13
    · rw [if_pos h4, k11] at hw1; simp at hw1
    rw [if_neg h4] at hw1
    by_cases h5 : c = 12
    · rw [if_pos h5, k11] at hw1; simp at hw1
    rw [if_neg h5] at hw1
    obtain ⟨o1', o2', o3', o4', o5'⟩ := hw1
    have hb1 := hv (d - 1) (by omega)
    have hb2 := hv (d - 2) (by omega)
    obtain ⟨m2, q1, q2, q3, q4⟩ := @r_join f c d m0 m s hs hdp hst o1' o2' o3' hd hb2.2 hb1.2 (fun hc => ⟨hb2.1 (by rw [o5']; simp [hc]), hb1.1 (by rw [o4']; simp [hc])⟩)
    have hdd : sp_dp c d = d - 1 := by unfold sp_dp; rw [if_neg h1, if_neg h2, if_neg h3, if_neg h4, if_neg h5]
    refine go m2 q2 (by rw [hdd]; exact q3) (by omega) ?_ (hunf _ ?_)
    · rw [hdd]
      unfold sp_st
      rw [if_neg h1, if_neg h2, if_neg h3, if_neg h4, if_neg h5]
      exact q4
    · rw [if_pos (l1000.mpr (by omega)), if_pos (l40.mpr (by omega)), q1, bd_some, hJ]
theorem r_tell {f w fr : Nat} {t : Int32} (hw : w < 2) {kd : Nat → Bool} {e : Nat → Int} {b : Bool} {l : List Nat} {m : ev_M} (hf : 1700 ≤ f) (k10 : kd 10 = false) (k11 : kd 11 = false)
    (he : ∀ p, p < 10 → kd p = true → sp_bd (e p) ∧ ∀ m', sameQ (ev_up m.1 112 46 (Int32.ofNat w), m.2) m' → ∃ v : Int64, FX12_qPartOf f (Int32.ofNat p) t m' = some (v, m') ∧ v.toInt = e p)
    (hl : fr + l.length ≤ 1600) (hfr : m.1 141 (2 + w) = Int32.ofNat fr) (hend : m.1 142 (2 + w) = Int32.ofNat (fr + l.length)) (hc : cells Int32.ofNat (m.1 143) (1600 + fr) l) (hg : good kd b l) :
    ∃ (v : Int64) (m' : ev_M), FX12_codesTell f (Int32.ofNat w) t m = some (v, m') ∧ v.toInt = sp_ev e (fun _ => 0) l := by
  unfold FX12_codesTell
  rw [show (2 : Int32) = Int32.ofNat 2 from rfl, n_add, if_pos ((n_in (by omega)).mpr (by omega)), n_nat (by omega), hfr]
  obtain ⟨m', h1, h2, h3⟩ := @r_tell_L f w t (fun m9 => some ((m9.2 179 0), m9)) hw kd e (ev_up m.1 112 46 (Int32.ofNat w), m.2) k10 k11 he (fr + l.length) hl (by rw [upI_na _ _ _ _ (by decide)]; exact hend) l fr f (fun _ => 0) (fun _ => false) 0 (ev_up (ev_up m.1 112 46 (Int32.ofNat w)) 112 99 0, m.2) rfl (by omega) (sameQ_up1 ⟨fun _ _ _ => rfl, fun _ _ => rfl⟩ _) (by rw [upI_na _ _ _ _ (by decide)]; exact hc) hg.1 (fun i hi => by omega) (by omega) (upI_at _ _ _ _ _) (fun i hi => by omega)
  refine ⟨m'.2 179 0, m', h1, ?_⟩
  exact h3 0 (by rw [hg.2.1]; omega)
