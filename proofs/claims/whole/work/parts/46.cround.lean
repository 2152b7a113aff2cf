/-! a ROUND, as it should be -/
abbrev sp_K : Type := Nat × List Nat × List Nat
abbrev sp_S : Type := Int32 × Int32 × (Nat → Int32) × (Nat → Int32) × (Nat → Int32)
def kS (p : Nat) : Bool := decide (p < 6)
def kF (p : Nat) : Bool := decide (p < 5 ∨ p = 6)
def sp_cut (v : Int) : Int32 := if v < 0 then 0 else if 9 < v then 9 else Int32.ofInt v
def sp_e (h mo ch rd : Int32) (t : Nat) (sg tn : Int32) : Nat → Int := fun p => if p = 0 then h.toInt else if p = 1 then mo.toInt else if p = 2 then ch.toInt else if p = 3 then rd.toInt else if p = 4 then (t : Int) else if p = 5 then sg.toInt else if p = 6 then tn.toInt else 0
def sp_say (ls : List Nat) (h mo ch rd : Int32) (t : Nat) (sg : Int32) : Int32 := sp_cut (sp_ev (sp_e h mo ch rd t sg 0) (fun _ => 0) ls)
def sp_feel (lf : List Nat) (h mo ch rd : Int32) (t : Nat) (tn : Int32) : Int32 := sp_cut (sp_ev (sp_e h mo ch rd t 0 tn) (fun _ => 0) lf)
def bt (x : Int32) (t : Nat) : Int32 := (x >>> (Int32.ofNat t &&& 31)) &&& 1
def sp_tn (K : sp_K) (sg rd : Int32) (ch ye : Nat → Int32) (t : Nat) (x : Int32 × (Nat → Int32) × (Nat → Int32)) : Int32 := if ye t = 0 then sp_say K.2.1 x.1 (x.2.1 t) (ch t) rd t (bt sg t) else 9
def sp_one (K : sp_K) (sg rd : Int32) (ch ye : Nat → Int32) (t : Nat) (x : Int32 × (Nat → Int32) × (Nat → Int32)) : Int32 × (Nat → Int32) × (Nat → Int32) :=
  (sp_tn K sg rd ch ye t x, sp_up x.2.1 t (sp_feel K.2.2 x.1 (x.2.1 t) (ch t) rd t (sp_tn K sg rd ch ye t x)), sp_up x.2.2 t (sp_tn K sg rd ch ye t x))
def sp_tow (K : sp_K) (sg rd : Int32) (ch ye : Nat → Int32) : Nat → Int32 × (Nat → Int32) × (Nat → Int32) → Int32 × (Nat → Int32) × (Nat → Int32)
  | 0, x => x
  | t + 1, x => sp_one K sg rd ch ye t (sp_tow K sg rd ch ye t x)
def sp_res (K : sp_K) (sg : Int32) (S : sp_S) : Int32 × (Nat → Int32) × (Nat → Int32) := sp_tow K sg S.1 S.2.2.2.1 S.2.2.2.2 K.1 (S.2.1, S.2.2.1, fun _ => 0)
def sp_go (K : sp_K) (sg : Int32) (S : sp_S) : sp_S := (S.1 + 1, (sp_res K sg S).1, (sp_res K sg S).2.1, S.2.2.2.1, S.2.2.2.2)
def sp_tns (K : sp_K) (sg : Int32) (S : sp_S) : Nat → Int32 := (sp_res K sg S).2.2
def g9 (v : Int32) : Prop := 0 ≤ v.toInt ∧ v.toInt ≤ 9
def sp_rg (S : sp_S) : Prop := (0 ≤ S.1.toInt ∧ S.1.toInt < 2000) ∧ g9 S.2.1 ∧ ∀ t, t < 8 → g9 (S.2.2.1 t) ∧ g9 (S.2.2.2.1 t) ∧ (S.2.2.2.2 t = 0 ∨ S.2.2.2.2 t = 1)
theorem cut_g9 (v : Int) : g9 (sp_cut v) := by
  unfold g9 sp_cut
  by_cases h1 : v < 0
  · rw [if_pos h1]; decide
  · rw [if_neg h1]
    by_cases h2 : 9 < v
    · rw [if_pos h2]; decide
    · rw [if_neg h2, v_int (by omega) (by omega)]; omega
theorem c_graded {f : Nat} {v : Int} {m : ev_M} (h : sp_bd v) : FX3_graded f (Int32.ofInt v) m = some (sp_cut v, m) := by
  unfold sp_bd at h
  unfold FX3_graded sp_cut
  have e9 : (9 : Int32).toInt = 9 := rfl
  have e0 : (0 : Int32).toInt = 0 := rfl
  have ev : (Int32.ofInt v).toInt = v := v_int (by omega) (by omega)
  rw [c_min, bd_some, c_max, bd_some]
  have q9 : Int32.ofInt v < 9 ↔ v < 9 := by rw [i_lt, ev, e9]
  have q0 : (0 : Int32) < Int32.ofInt v ↔ 0 < v := by rw [i_lt, ev, e0]
  by_cases h1 : v < 0
  · rw [if_pos h1, if_pos (q9.mpr (by omega)), if_neg (fun q => by have := q0.mp q; omega)]
  · rw [if_neg h1]
    by_cases h2 : 9 < v
    · rw [if_pos h2, if_neg (show ¬ Int32.ofInt v < 9 from fun q => by have := q9.mp q; omega), if_pos (by decide)]
    · rw [if_neg h2]
      by_cases h3 : v = 9
      · subst h3; rfl
      · rw [if_pos (show Int32.ofInt v < 9 from q9.mpr (by omega))]
        by_cases h4 : v = 0
        · subst h4; rfl
        · rw [if_pos (q0.mpr (by omega))]
theorem bt_01 (x : Int32) (t : Nat) : bt x t = 0 ∨ bt x t = 1 := by
  unfold bt
  generalize x >>> (Int32.ofNat t &&& 31) = y
  have h : (y &&& 1).toBitVec = 0#32 ∨ (y &&& 1).toBitVec = 1#32 := by
    rw [Int32.toBitVec_and]
    generalize y.toBitVec = b
    have e : (1 : Int32).toBitVec = 1#32 := rfl
    rw [e]
    have h2 : (b &&& 1#32).toNat = b.toNat % 2 := by rw [BitVec.toNat_and]; exact Nat.and_one_is_mod _
    rcases Nat.mod_two_eq_zero_or_one b.toNat with q | q
    · left; apply BitVec.eq_of_toNat_eq; rw [h2, q]; rfl
    · right; apply BitVec.eq_of_toNat_eq; rw [h2, q]; rfl
  rcases h with h | h
  · left; exact Int32.toBitVec_inj.mp h
  · right; exact Int32.toBitVec_inj.mp h
theorem one_bd {v : Int32} (h : v = 0 ∨ v = 1) : sp_bd v.toInt := by
  rcases h with h | h <;> subst h <;> (unfold sp_bd; decide)
theorem g9_bd {v : Int32} (h : g9 v) : sp_bd v.toInt := by unfold g9 at h; unfold sp_bd; omega
theorem e_bd {h mo ch rd : Int32} {t : Nat} {sg tn : Int32} (h1 : sp_bd h.toInt) (h2 : sp_bd mo.toInt) (h3 : sp_bd ch.toInt) (h4 : sp_bd rd.toInt) (h5 : t < 8) (h6 : sp_bd sg.toInt) (h7 : sp_bd tn.toInt) (p : Nat) : sp_bd (sp_e h mo ch rd t sg tn p) := by
  unfold sp_e
  by_cases q0 : p = 0
  · rw [if_pos q0]; exact h1
  rw [if_neg q0]
  by_cases q1 : p = 1
  · rw [if_pos q1]; exact h2
  rw [if_neg q1]
  by_cases q2 : p = 2
  · rw [if_pos q2]; exact h3
  rw [if_neg q2]
  by_cases q3 : p = 3
  · rw [if_pos q3]; exact h4
  rw [if_neg q3]
  by_cases q4 : p = 4
  · rw [if_pos q4]; unfold sp_bd; omega
  rw [if_neg q4]
  by_cases q5 : p = 5
  · rw [if_pos q5]; exact h6
  rw [if_neg q5]
  by_cases q6 : p = 6
  · rw [if_pos q6]; exact h7
  rw [if_neg q6]; unfold sp_bd; omega
/-! the castle and the state in the class's memory -/
def CK (m : ev_M) (c : Nat) (K : sp_K) : Prop :=
  (c = 1 ∨ c = 7) ∧ K.1 ≤ 8 ∧ m.1 c 5 = Int32.ofNat K.1 ∧
  (∃ fr, m.1 c 11 = Int32.ofNat fr ∧ m.1 c 12 = Int32.ofNat (fr + K.2.1.length) ∧ fr + K.2.1.length ≤ 1608 ∧ cells tr (m.1 (c + 5)) fr K.2.1) ∧
  (∃ fr, m.1 c 13 = Int32.ofNat fr ∧ m.1 c 14 = Int32.ofNat (fr + K.2.2.length) ∧ fr + K.2.2.length ≤ 1608 ∧ cells tr (m.1 (c + 5)) fr K.2.2) ∧
  good kS false K.2.1 ∧ good kF false K.2.2
def CS (m : ev_M) (o : Nat) (S : sp_S) : Prop :=
  m.1 o 2 = S.1 ∧ m.1 o 3 = S.2.1 ∧ ∀ t, t < 8 → m.1 (o + 1) t = S.2.2.1 t ∧ m.1 (o + 2) t = S.2.2.2.1 t ∧ bt (m.1 o 4) t = S.2.2.2.2 t
def okO (o : Nat) : Prop := o = 25 ∨ o = 30 ∨ o = 34 ∨ o = 103 ∨ o = 106
theorem isK1 {c : Nat} (h : c = 1 ∨ c = 7) : isK 1 c := by
  rcases h with h | h <;> subst h <;> decide
set_option maxHeartbeats 4000000 in
theorem c_thrJ {f o c t : Nat} {K : sp_K} {m : ev_M} {h mo ch rd sg tn : Int32} (hf : 1700 ≤ f) (hK : CK m c K) (h16 : m.1 16 2 = Int32.ofNat c) (ho : okO o) (ht : t < 8)
    (e10 : m.1 18 10 = h) (e2 : m.1 18 2 = mo) (e3 : m.1 18 3 = ch) (e11 : m.1 18 11 = rd) (e12 : m.1 18 12 = Int32.ofNat t)
    (b1 : sp_bd h.toInt) (b2 : sp_bd mo.toInt) (b3 : sp_bd ch.toInt) (b4 : sp_bd rd.toInt) (b7 : sp_bd tn.toInt) :
    ∃ m', FX3_goThrough_J107 f o (Int32.ofNat t) tn m = some ((), m') ∧ m'.1 (o + 1) = sp_up (m.1 (o + 1)) t (sp_feel K.2.2 h mo ch rd t tn) ∧ m'.1 o 3 = tn ∧ m'.1 21 = sp_up (m.1 21) t tn := by
  obtain ⟨hc, hT, hT2, hs, ⟨fr, x1, x2, x3, x4⟩, hgs, hgf⟩ := hK
  have hcn : (m.1 16 2).toNatClampNeg = c := by rw [h16, n_nat (by omega)]
  unfold FX3_goThrough_J107
  rw [hcn, if_pos (isK1 hc)]
  rw [up_na _ _ _ _ (by omega), up_na _ _ _ _ (by omega), x1, x2]
  have he : ∀ p, p < 10 → kF p = true → (((ev_up m.1 18 14 tn, m.2) : ev_M).1 18 (wd p)).toInt = sp_e h mo ch rd t 0 tn p ∧ sp_bd (sp_e h mo ch rd t 0 tn p) := by
    intro p hp hk
    refine ⟨?_, e_bd b1 b2 b3 b4 ht (by unfold sp_bd; decide) b7 p⟩
    have cs : p = 0 ∨ p = 1 ∨ p = 2 ∨ p = 3 ∨ p = 4 ∨ p = 6 := by
      unfold kF at hk
      simp at hk
      omega
    rcases cs with q | q | q | q | q | q <;> subst q
    · show ((ev_up m.1 18 14 tn) 18 10).toInt = h.toInt
      rw [up_nk _ _ _ (by decide), e10]
    · show ((ev_up m.1 18 14 tn) 18 2).toInt = mo.toInt
      rw [up_nk _ _ _ (by decide), e2]
    · show ((ev_up m.1 18 14 tn) 18 3).toInt = ch.toInt
      rw [up_nk _ _ _ (by decide), e3]
    · show ((ev_up m.1 18 14 tn) 18 11).toInt = rd.toInt
      rw [up_nk _ _ _ (by decide), e11]
    · show ((ev_up m.1 18 14 tn) 18 12).toInt = (t : Int)
      rw [up_nk _ _ _ (by decide), e12, n_int (by omega)]
    · show ((ev_up m.1 18 14 tn) 18 14).toInt = tn.toInt
      rw [up_at]
  have hb := ev_bdd (e := sp_e h mo ch rd t 0 tn) (ah := fun _ => 0) hgf (fun p h1 h2 => (he p h1 h2).2) (fun _ => ⟨by omega, by omega⟩)
  obtain ⟨m3, w1, w2⟩ := @c_work f (c + 4) fr kF (sp_e h mo ch rd t 0 tn) (fun _ => 0) false K.2.2 (ev_up m.1 18 14 tn, m.2) hf (by omega) he (fun q => by unfold kF at q; simp at q) (fun _ => ⟨by omega, by omega⟩) x3 (by rw [upI_na _ _ _ _ (by omega)]; exact x4) hgf
  rw [w1, bd_some, c_graded hb.2, bd_some, if_pos ((n_in (by omega)).mpr ht), if_pos ((n_in (by omega)).mpr ht), n_nat (by omega)]
  refine ⟨_, rfl, ?_, ?_, ?_⟩
  · show ev_up (ev_up (ev_up m3.1 (o + 1) t _) o 3 tn) 21 t tn (o + 1) = _
    unfold okO at ho
    rw [ev_up_ne _ _ _ (by omega), ev_up_ne _ _ _ (by omega)]
    funext i
    rw [ev_up_at, w2.1 _ (by omega), upI_na _ _ _ _ (by omega)]
    rfl
  · show ev_up (ev_up (ev_up m3.1 (o + 1) t _) o 3 tn) 21 t tn o 3 = _
    unfold okO at ho
    rw [up_na _ _ _ _ (by omega), up_at]
  · show ev_up (ev_up (ev_up m3.1 (o + 1) t _) o 3 tn) 21 t tn 21 = _
    unfold okO at ho
    funext i
    rw [ev_up_at, ev_up_ne _ _ _ (by omega), ev_up_ne _ _ _ (by omega), w2.1 _ (by omega), upI_na _ _ _ _ (by omega)]
    rfl
set_option maxHeartbeats 4000000 in
theorem c_thr {f o c t : Nat} {K : sp_K} {m : ev_M} {sg rd : Int32} {ch ye : Nat → Int32} {x : Int32 × (Nat → Int32) × (Nat → Int32)} (hf : 1700 ≤ f) (hK : CK m c K) (h16 : m.1 16 2 = Int32.ofNat c) (ho : okO o) (ht : t < 8)
    (a1 : m.1 o 2 = rd) (a2 : m.1 o 3 = x.1) (a3 : m.1 (o + 1) t = x.2.1 t) (a4 : m.1 (o + 2) t = ch t) (a5 : bt (m.1 o 4) t = ye t)
    (b1 : sp_bd x.1.toInt) (b2 : sp_bd (x.2.1 t).toInt) (b3 : sp_bd (ch t).toInt) (b4 : sp_bd rd.toInt) :
    ∃ m', FX3_goThrough f o (Int32.ofNat t) (bt sg t) m = some ((), m') ∧ m'.1 (o + 1) = sp_up (m.1 (o + 1)) t ((sp_one K sg rd ch ye t x).2.1 t) ∧ m'.1 o 3 = (sp_one K sg rd ch ye t x).1 ∧ m'.1 21 = sp_up (m.1 21) t ((sp_one K sg rd ch ye t x).1) := by
  have hK0 := hK
  obtain ⟨hc, hT, hT2, ⟨fr, x1, x2, x3, x4⟩, hfe, hgs, hgf⟩ := hK
  have hcn : (m.1 16 2).toNatClampNeg = c := by rw [h16, n_nat (by omega)]
  have ho' := ho
  unfold okO at ho'
  unfold FX3_goThrough
  rw [if_pos ((n_in (by omega)).mpr ht), if_pos ((n_in (by omega)).mpr ht), n_nat (show t < 2147483648 by omega)]
  generalize hV : (ev_up (ev_up (ev_up (ev_up (ev_up (ev_up m.1 18 10 (m.1 o 3)) 18 2 ((ev_up m.1 18 10 (m.1 o 3)) (o + 1) t)) 18 3 ((ev_up (ev_up m.1 18 10 (m.1 o 3)) 18 2 ((ev_up m.1 18 10 (m.1 o 3)) (o + 1) t)) (o + 2) t)) 18 11 ((ev_up (ev_up (ev_up m.1 18 10 (m.1 o 3)) 18 2 ((ev_up m.1 18 10 (m.1 o 3)) (o + 1) t)) 18 3 ((ev_up (ev_up m.1 18 10 (m.1 o 3)) 18 2 ((ev_up m.1 18 10 (m.1 o 3)) (o + 1) t)) (o + 2) t)) o 2)) 18 12 (Int32.ofNat t)) 18 13 (bt sg t)) = V
  have vn : ∀ a, a ≠ 18 → V a = m.1 a := by
    intro a ha
    rw [← hV, ev_up_ne _ _ _ ha, ev_up_ne _ _ _ ha, ev_up_ne _ _ _ ha, ev_up_ne _ _ _ ha, ev_up_ne _ _ _ ha, ev_up_ne _ _ _ ha]
  have v10 : V 18 10 = x.1 := by
    rw [← hV, up_nk _ _ _ (by decide), up_nk _ _ _ (by decide), up_nk _ _ _ (by decide), up_nk _ _ _ (by decide), up_nk _ _ _ (by decide), up_at, a2]
  have v2 : V 18 2 = x.2.1 t := by
    rw [← hV, up_nk _ _ _ (by decide), up_nk _ _ _ (by decide), up_nk _ _ _ (by decide), up_nk _ _ _ (by decide), up_at, up_na _ _ _ _ (by omega), a3]
  have v3 : V 18 3 = ch t := by
    rw [← hV, up_nk _ _ _ (by decide), up_nk _ _ _ (by decide), up_nk _ _ _ (by decide), up_at, up_na _ _ _ _ (by omega), up_na _ _ _ _ (by omega), a4]
  have v11 : V 18 11 = rd := by
    rw [← hV, up_nk _ _ _ (by decide), up_nk _ _ _ (by decide), up_at, up_na _ _ _ _ (by omega), up_na _ _ _ _ (by omega), up_na _ _ _ _ (by omega), a1]
  have v12 : V 18 12 = Int32.ofNat t := by rw [← hV, up_nk _ _ _ (by decide), up_at]
  have v13 : V 18 13 = bt sg t := by rw [← hV, up_at]
  clear hV
  have hKV : ∀ m2 : ev_M, (∀ a, a ≠ 18 → a ≠ 20 → m2.1 a = m.1 a) → CK m2 c K := by
    intro m2 hm2
    obtain ⟨y1, y2, y3, ⟨z, y4, y5, y6, y7⟩, ⟨z', y4', y5', y6', y7'⟩, y8⟩ := hK0
    exact ⟨y1, y2, by rw [hm2 c (by omega) (by omega)]; exact y3, ⟨z, by rw [hm2 c (by omega) (by omega)]; exact y4, by rw [hm2 c (by omega) (by omega)]; exact y5, y6, by rw [hm2 _ (by omega) (by omega)]; exact y7⟩, ⟨z', by rw [hm2 c (by omega) (by omega)]; exact y4', by rw [hm2 c (by omega) (by omega)]; exact y5', y6', by rw [hm2 _ (by omega) (by omega)]; exact y7'⟩, y8⟩
  rw [vn o (by omega)]
  have hye : ((m.1 o 4 >>> (Int32.ofNat t &&& 31)) &&& 1) = ye t := a5
  rw [hye]
  have fin : ∀ (tn : Int32) (m2 : ev_M), (∀ a, a ≠ 20 → m2.1 a = V a) → sp_bd tn.toInt → tn = sp_tn K sg rd ch ye t x → ∃ m', FX3_goThrough_J107 f o (Int32.ofNat t) tn m2 = some ((), m') ∧ m'.1 (o + 1) = sp_up (m.1 (o + 1)) t ((sp_one K sg rd ch ye t x).2.1 t) ∧ m'.1 o 3 = (sp_one K sg rd ch ye t x).1 ∧ m'.1 21 = sp_up (m.1 21) t ((sp_one K sg rd ch ye t x).1) := by
    intro tn m2 hm2 hbt htn
    have hm3 : ∀ a, a ≠ 18 → a ≠ 20 → m2.1 a = m.1 a := fun a q1 q2 => (hm2 a q2).trans (vn a q1)
    obtain ⟨m', r1, r2, r3, r4⟩ := @c_thrJ f o c t K m2 x.1 (x.2.1 t) (ch t) rd (bt sg t) tn hf (hKV m2 hm3) (by rw [hm3 16 (by decide) (by decide)]; exact h16) ho ht (by rw [hm2 18 (by decide)]; exact v10) (by rw [hm2 18 (by decide)]; exact v2) (by rw [hm2 18 (by decide)]; exact v3) (by rw [hm2 18 (by decide)]; exact v11) (by rw [hm2 18 (by decide)]; exact v12) b1 b2 b3 b4 hbt
    refine ⟨m', r1, ?_, ?_, ?_⟩
    · rw [r2, hm3 _ (by omega) (by omega), htn]
      show _ = sp_up (m.1 (o + 1)) t (sp_up x.2.1 t _ t)
      rw [sp_at]
    · rw [r3, htn]; rfl
    · rw [r4, hm3 21 (by decide) (by decide), htn]; rfl
  by_cases hy : ye t = 0
  · rw [if_pos hy, hcn, if_pos (isK1 hc), vn c (by omega), x1, x2]
    have he : ∀ p, p < 10 → kS p = true → (((V, m.2) : ev_M).1 18 (wd p)).toInt = sp_e x.1 (x.2.1 t) (ch t) rd t (bt sg t) 0 p ∧ sp_bd (sp_e x.1 (x.2.1 t) (ch t) rd t (bt sg t) 0 p) := by
      intro p hp hk
      refine ⟨?_, e_bd b1 b2 b3 b4 ht (one_bd (bt_01 sg t)) (by unfold sp_bd; decide) p⟩
      have cs : p = 0 ∨ p = 1 ∨ p = 2 ∨ p = 3 ∨ p = 4 ∨ p = 5 := by
        unfold kS at hk
        simp at hk
        omega
      rcases cs with q | q | q | q | q | q <;> subst q
      · show (V 18 10).toInt = x.1.toInt
        rw [v10]
      · show (V 18 2).toInt = (x.2.1 t).toInt
        rw [v2]
      · show (V 18 3).toInt = (ch t).toInt
        rw [v3]
      · show (V 18 11).toInt = rd.toInt
        rw [v11]
      · show (V 18 12).toInt = (t : Int)
        rw [v12, n_int (by omega)]
      · show (V 18 13).toInt = (bt sg t).toInt
        rw [v13]
    have hb := ev_bdd (e := sp_e x.1 (x.2.1 t) (ch t) rd t (bt sg t) 0) (ah := fun _ => 0) hgs (fun p h1 h2 => (he p h1 h2).2) (fun _ => ⟨by omega, by omega⟩)
    obtain ⟨m3, w1, w2⟩ := @c_work f (c + 4) fr kS (sp_e x.1 (x.2.1 t) (ch t) rd t (bt sg t) 0) (fun _ => 0) false K.2.1 (V, m.2) hf (by omega) he (fun q => by unfold kS at q; simp at q) (fun _ => ⟨by omega, by omega⟩) x3 (by show cells tr (V (c + 5)) fr K.2.1; rw [vn _ (by omega)]; exact x4) hgs
    rw [w1, bd_some, c_graded hb.2, bd_some]
    refine fin _ m3 w2.1 (g9_bd (cut_g9 _)) ?_
    unfold sp_tn
    rw [if_pos hy]
    rfl
  · rw [if_neg hy]
    refine fin 9 (V, m.2) (fun _ _ => rfl) (by unfold sp_bd; decide) ?_
    unfold sp_tn
    rw [if_neg hy]
