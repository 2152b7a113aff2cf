/-! the reference lets a ROUND go by -/
def lsay : List Nat := [40, 41, 42, 1, 5, 45, 2]
def lfeel : List Nat := [41]
def RK (m : ev_M) (K : sp_K) : Prop :=
  K.1 ≤ 8 ∧ m.1 112 36 = Int32.ofNat K.1 ∧
  ((m.1 141 2 = -1 ∧ K.2.1 = lsay) ∨ ∃ fr, m.1 141 2 = Int32.ofNat fr ∧ m.1 142 2 = Int32.ofNat (fr + K.2.1.length) ∧ fr + K.2.1.length ≤ 1600 ∧ cells Int32.ofNat (m.1 143) (1600 + fr) K.2.1) ∧
  ((m.1 141 3 = -1 ∧ K.2.2 = lfeel) ∨ ∃ fr, m.1 141 3 = Int32.ofNat fr ∧ m.1 142 3 = Int32.ofNat (fr + K.2.2.length) ∧ fr + K.2.2.length ≤ 1600 ∧ cells Int32.ofNat (m.1 143) (1600 + fr) K.2.2) ∧
  good kS false K.2.1 ∧ good kF false K.2.2
def RS (m : ev_M) (T : Nat) (S : sp_S) : Prop :=
  m.1 144 0 = S.1 ∧ m.1 144 1 = S.2.1 ∧ ∀ t, t < T → m.1 144 (2 + 3 * t) = S.2.2.1 t ∧ m.1 144 (2 + 3 * t + 1) = S.2.2.2.1 t ∧ m.1 144 (2 + 3 * t + 2) = S.2.2.2.2 t
theorem ix0 (t : Nat) : (2 : Int32) + 3 * Int32.ofNat t = Int32.ofNat (2 + 3 * t) := by rw [show (2 : Int32) = Int32.ofNat 2 from rfl, show (3 : Int32) = Int32.ofNat 3 from rfl, n_mul, n_add]
theorem ix1 (t : Nat) : (2 : Int32) + 3 * Int32.ofNat t + 1 = Int32.ofNat (2 + 3 * t + 1) := by rw [ix0, show (1 : Int32) = Int32.ofNat 1 from rfl, n_add]
theorem ix2 (t : Nat) : (2 : Int32) + 3 * Int32.ofNat t + 2 = Int32.ofNat (2 + 3 * t + 2) := by rw [ix0, show (2 : Int32) = Int32.ofNat 2 from rfl, n_add]
theorem r_mood {f t : Nat} {m : ev_M} (h : t < 8) : FX12_moodOf f (Int32.ofNat t) m = some (m.1 144 (2 + 3 * t), m) := by
  unfold FX12_moodOf
  rw [ix0, if_pos ((n_in (by omega)).mpr (by omega)), n_nat (by omega)]
theorem r_cheer {f t : Nat} {m : ev_M} (h : t < 8) : FX12_cheerOf f (Int32.ofNat t) m = some (m.1 144 (2 + 3 * t + 1), m) := by
  unfold FX12_cheerOf
  rw [ix1, if_pos ((n_in (by omega)).mpr (by omega)), n_nat (by omega)]
theorem r_yes {f t : Nat} {m : ev_M} (h : t < 8) : FX12_isYes f (Int32.ofNat t) m = some (if m.1 144 (2 + 3 * t + 2) = 1 then 1 else 0, m) := by
  unfold FX12_isYes
  rw [ix2, if_pos ((n_in (by omega)).mpr (by omega)), n_nat (by omega)]
  split <;> rfl
theorem r_cut {f : Nat} {v : Int64} {m : ev_M} : FX12_cut f v m = some (sp_cut v.toInt, m) := by
  unfold FX12_cut sp_cut
  have e9 : ((9 : Int64)).toInt = 9 := rfl
  by_cases h1 : v.toInt < 0
  · rw [if_neg (fun q => by have := (lg_ge0 v 0).mp q; rw [j_0] at this; omega), if_pos h1]
  · rw [if_pos ((lg_ge0 v 0).mpr (by rw [j_0]; omega)), if_neg h1]
    by_cases h2 : 9 < v.toInt
    · rw [if_neg (fun q => by have := (lg_le0 v 9).mp q; rw [e9] at this; omega), if_pos h2]
    · rw [if_pos ((lg_le0 v 9).mpr (by rw [e9]; omega)), if_neg h2]
      rfl
theorem lsay_ev (h mo ch rd : Int32) (t : Nat) (sg : Int32) (hm : g9 mo) (hc : g9 ch) (hh : g9 h) (hs : sg = 0 ∨ sg = 1) : sp_ev (sp_e h mo ch rd t sg 0) (fun _ => 0) lsay = (if h.toInt < mo.toInt + ch.toInt then h.toInt else mo.toInt + ch.toInt) - sg.toInt := by
  have e1 : sp_clip (mo.toInt + ch.toInt) = mo.toInt + ch.toInt := by
    unfold g9 at hm hc; unfold sp_clip; rw [if_neg (by omega), if_neg (by omega)]
  have hs2 := one_bd hs
  have e2 : sp_clip ((if h.toInt < mo.toInt + ch.toInt then h.toInt else mo.toInt + ch.toInt) - sg.toInt) = (if h.toInt < mo.toInt + ch.toInt then h.toInt else mo.toInt + ch.toInt) - sg.toInt := by
    have : sg.toInt = 0 ∨ sg.toInt = 1 := by rcases hs with q | q <;> subst q <;> decide
    unfold g9 at hm hc hh; unfold sp_clip
    split
    · rw [if_neg (by omega), if_neg (by omega)]
    · rw [if_neg (by omega), if_neg (by omega)]
  rw [← e2]
  conv => rhs; rw [← e1]
  rfl
theorem lfeel_ev (h mo ch rd : Int32) (t : Nat) (tn : Int32) : sp_ev (sp_e h mo ch rd t 0 tn) (fun _ => 0) lfeel = mo.toInt := rfl
theorem cut_id {v : Int32} (h : g9 v) : sp_cut v.toInt = v := by
  unfold g9 at h; unfold sp_cut
  rw [if_neg (by omega), if_neg (by omega), v_of]
theorem r_part {f t p : Nat} {m m' : ev_M} {h mo ch rd sg tn : Int32} {w : Nat} (ht : t < 8) (hs : sameQ (ev_up m.1 112 46 (Int32.ofNat w), m.2) m') (hw : w < 2)
    (a1 : m.1 112 49 = h) (a2 : m.1 144 (2 + 3 * t) = mo) (a3 : m.1 144 (2 + 3 * t + 1) = ch) (a4 : m.1 144 0 = rd) (a5 : m.1 112 50 = sg) (a6 : p = 6 → m.1 112 51 = tn) (hp : p < 7) :
    ∃ v : Int64, FX12_qPartOf f (Int32.ofNat p) (Int32.ofNat t) m' = some (v, m') ∧ v.toInt = sp_e h mo ch rd t sg tn p := by
  have fr : ∀ a k, ¬ (a = 112 ∧ k = 99) → ¬ (a = 112 ∧ k = 46) → m'.1 a k = m.1 a k := by
    intro a k z1 z2
    rw [hs.1 a k z1]
    show ev_up m.1 112 46 _ a k = _
    by_cases ha : a = 112
    · subst ha; rw [up_nk _ _ _ (fun q => z2 ⟨rfl, q⟩)]
    · rw [up_na _ _ _ _ ha]
  have f46 : m'.1 112 46 = Int32.ofNat w := by rw [hs.1 112 46 (by omega)]; exact upI_at _ _ _ _ _
  have cs : p = 0 ∨ p = 1 ∨ p = 2 ∨ p = 3 ∨ p = 4 ∨ p = 5 ∨ p = 6 := by omega
  rcases cs with q | q | q | q | q | q | q <;> subst q
  · refine ⟨(m'.1 112 49).toInt64, rfl, ?_⟩
    rw [j_wide, fr _ _ (by omega) (by omega), a1]; rfl
  · refine ⟨(m'.1 144 (2 + 3 * t)).toInt64, ?_, ?_⟩
    · unfold FX12_qPartOf
      rw [if_neg (by decide), if_pos (by decide), r_mood ht]; rfl
    · rw [j_wide, fr _ _ (by omega) (by omega), a2]; rfl
  · refine ⟨(m'.1 144 (2 + 3 * t + 1)).toInt64, ?_, ?_⟩
    · unfold FX12_qPartOf
      rw [if_neg (by decide), if_neg (by decide), if_pos (by decide), r_cheer ht]; rfl
    · rw [j_wide, fr _ _ (by omega) (by omega), a3]; rfl
  · refine ⟨(m'.1 144 0).toInt64, rfl, ?_⟩
    rw [j_wide, fr _ _ (by omega) (by omega), a4]; rfl
  · refine ⟨(Int32.ofNat t).toInt64, rfl, ?_⟩
    rw [j_wide, n_int (by omega)]; rfl
  · refine ⟨(m'.1 112 50).toInt64, rfl, ?_⟩
    rw [j_wide, fr _ _ (by omega) (by omega), a5]; rfl
  · refine ⟨(m'.1 112 51).toInt64, ?_, ?_⟩
    · unfold FX12_qPartOf
      rw [if_neg (by decide), if_neg (by decide), if_neg (by decide), if_neg (by decide), if_neg (by decide), if_neg (by decide), if_pos (by decide), f46, if_neg (by rw [show (2 : Int32) = Int32.ofNat 2 from rfl, n_eq (by omega) (by omega)]; omega)]
    · rw [j_wide, fr _ _ (by omega) (by omega), a6 rfl]; rfl
theorem r_said {f t : Nat} {K : sp_K} {m : ev_M} {h mo ch rd sg y : Int32} (hf : 1700 ≤ f) (hK : RK m K) (ht : t < 8)
    (a1 : m.1 112 49 = h) (a2 : m.1 144 (2 + 3 * t) = mo) (a3 : m.1 144 (2 + 3 * t + 1) = ch) (a4 : m.1 144 0 = rd) (a5 : m.1 112 50 = sg) (a7 : m.1 144 (2 + 3 * t + 2) = y) (hy : y = 0 ∨ y = 1)
    (b1 : g9 h) (b2 : g9 mo) (b3 : g9 ch) (b4 : sp_bd rd.toInt) (b5 : sg = 0 ∨ sg = 1) :
    ∃ m', FX12_saidBy f (Int32.ofNat t) m = some (if y = 0 then sp_say K.2.1 h mo ch rd t sg else 9, m') := by
  obtain ⟨hT, hT2, hs, hfe, hgs, hgf⟩ := hK
  unfold FX12_saidBy
  rw [r_yes ht, bd_some, a7]
  rcases hy with q | q <;> subst q
  · rw [show (if (0 : Int32) = 1 then (1 : Int32) else 0) = 0 from rfl, if_pos rfl, if_pos rfl]
    rcases hs with ⟨h1, h2⟩ | ⟨fr, h1, h2, h3, h4⟩
    · rw [if_pos h1, r_mood ht, bd_some, r_cheer ht, bd_some, a2, a3, a1]
      unfold FX12_saidBy_J59
      unfold g9 at b1 b2 b3
      have em : (mo + ch).toInt = mo.toInt + ch.toInt := i_add (by omega) (by omega)
      have es : sg.toInt = 0 ∨ sg.toInt = 1 := by rcases b5 with q | q <;> subst q <;> decide
      unfold sp_say
      rw [h2, lsay_ev h mo ch rd t sg b2 b3 b1 b5]
      by_cases hc : mo + ch ≤ h
      · rw [if_pos hc, r_cut, bd_some, a5, j_wide, i_sub (by omega) (by omega), em]
        rw [i_le, em] at hc
        rw [if_neg (by omega)]
        exact ⟨m, rfl⟩
      · rw [if_neg hc, r_cut, bd_some, a5, j_wide, i_sub (by omega) (by omega)]
        rw [i_le, em] at hc
        rw [if_pos (by omega)]
        exact ⟨m, rfl⟩
    · rw [if_neg (by rw [h1, i_eq, n_int (by omega)]; have : (-1 : Int32).toInt = -1 := by decide
                     rw [this]; omega)]
      obtain ⟨v, m', r1, r2⟩ := @r_tell f 0 fr (Int32.ofNat t) (by omega) kS (sp_e h mo ch rd t sg 0) false K.2.1 m hf rfl rfl (fun p hp hk => ⟨e_bd (g9_bd b1) (g9_bd b2) (g9_bd b3) b4 ht (one_bd b5) (by unfold sp_bd; decide) p, fun m' hm' => r_part ht hm' (by omega) a1 a2 a3 a4 a5 (fun q => by subst q; exact absurd hk (by decide)) (by unfold kS at hk; simp at hk; omega)⟩) h3 h1 h2 h4 hgs
      rw [show (0 : Int32) = Int32.ofNat 0 from rfl, r1, bd_some, r_cut, bd_some, r2]
      exact ⟨m', rfl⟩
  · rw [show (if (1 : Int32) = 1 then (1 : Int32) else 0) = 1 from rfl, if_neg (by decide), if_neg (by decide)]
    exact ⟨m, rfl⟩
theorem r_felt {f t : Nat} {K : sp_K} {m : ev_M} {h mo ch rd sg tn : Int32} (hf : 1700 ≤ f) (hK : RK m K) (ht : t < 8)
    (a1 : m.1 112 49 = h) (a2 : m.1 144 (2 + 3 * t) = mo) (a3 : m.1 144 (2 + 3 * t + 1) = ch) (a4 : m.1 144 0 = rd) (a5 : m.1 112 50 = sg) (a6 : m.1 112 51 = tn)
    (b1 : g9 h) (b2 : g9 mo) (b3 : g9 ch) (b4 : sp_bd rd.toInt) (b5 : sg = 0 ∨ sg = 1) (b6 : g9 tn) :
    ∃ m', FX12_feltBy f (Int32.ofNat t) m = some (sp_feel K.2.2 h mo ch rd t tn, m') := by
  obtain ⟨hT, hT2, hs, hfe, hgs, hgf⟩ := hK
  unfold FX12_feltBy
  rcases hfe with ⟨h1, h2⟩ | ⟨fr, h1, h2, h3, h4⟩
  · rw [if_pos h1, r_mood ht, bd_some, a2]
    unfold sp_feel
    rw [h2, lfeel_ev, cut_id b2]
    exact ⟨m, rfl⟩
  · rw [if_neg (by rw [h1, i_eq, n_int (by omega)]; have : (-1 : Int32).toInt = -1 := by decide
                   rw [this]; omega)]
    obtain ⟨v, m', r1, r2⟩ := @r_tell f 1 fr (Int32.ofNat t) (by omega) kF (sp_e h mo ch rd t 0 tn) false K.2.2 m hf rfl rfl (fun p hp hk => ⟨e_bd (g9_bd b1) (g9_bd b2) (g9_bd b3) b4 ht (by unfold sp_bd; decide) (g9_bd b6) p, fun m' hm' => by
      have h7 : p < 7 := by unfold kF at hk; simp at hk; omega
      obtain ⟨v, z1, z2⟩ := r_part (f := f) (tn := tn) ht hm' (by omega) a1 a2 a3 a4 a5 (fun _ => a6) h7
      refine ⟨v, z1, ?_⟩
      rw [z2]
      have h5 : p ≠ 5 := fun q => by subst q; exact absurd hk (by decide)
      unfold sp_e
      rw [if_neg h5, if_neg h5]⟩) h3 h1 h2 h4 hgf
    rw [show (1 : Int32) = Int32.ofNat 1 from rfl, r1, bd_some, r_cut, bd_some, r2]
    exact ⟨m', rfl⟩
