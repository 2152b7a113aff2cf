/-! castle(), on both -/
theorem RK_keep {m m' : ev_M} {K : sp_K} (h : RK m K) (h1 : m'.1 112 36 = m.1 112 36) (h2 : ∀ k, 2 ≤ k → m'.1 141 k = m.1 141 k ∧ m'.1 142 k = m.1 142 k) (h3 : ∀ k, 1600 ≤ k → m'.1 143 k = m.1 143 k) : RK m' K := by
  obtain ⟨a1, a2, a3, a4, a5, a6⟩ := h
  refine ⟨a1, h1.trans a2, ?_, ?_, a5, a6⟩
  · rcases a3 with ⟨q1, q2⟩ | ⟨fr, q1, q2, q3, q4⟩
    · exact Or.inl ⟨(h2 2 (by omega)).1.trans q1, q2⟩
    · exact Or.inr ⟨fr, (h2 2 (by omega)).1.trans q1, (h2 2 (by omega)).2.trans q2, q3, cells_fr _ _ (fun i hi _ => h3 i (by omega)) q4⟩
  · rcases a4 with ⟨q1, q2⟩ | ⟨fr, q1, q2, q3, q4⟩
    · exact Or.inl ⟨(h2 3 (by omega)).1.trans q1, q2⟩
    · exact Or.inr ⟨fr, (h2 3 (by omega)).1.trans q1, (h2 3 (by omega)).2.trans q2, q3, cells_fr _ _ (fun i hi _ => h3 i (by omega)) q4⟩
/-- what the told castle's part of the class is -/
def relT (c a k : Nat) : Prop := relC a k ∧ ¬ (8 - c ≤ a ∧ a ≤ 8 - c + 5)
theorem SimW_keep {c : Nat} {tb : Bool} {K : sp_K} {S : sp_S} {kc : Nat} {mc mm mc' mm' : ev_M} (hc : frP (relT c) mc mc') (hm : KPm mm mm') (h : SimW c tb K S kc mc mm) : SimW c tb K S kc mc' mm' := by
  obtain ⟨a1, a2, a3, a4, a5, a6, a7, a8, a9, a10, a11, a12⟩ := h
  have hcc : c = 1 ∨ c = 7 := a7.1
  have C : ∀ a k, relT c a k → mc'.1 a k = mc.1 a k := fun a k q => (hc a k q).1
  have M : ∀ a k, prot a k → mm'.1 a k = mm.1 a k := hm.1
  have hT := a7.2.2.2.2.1
  refine ⟨TP_fr (C _ _ (by unfold relT relC; omega)) (fun i => C _ _ (by unfold relT relC; omega)) (M _ _ (by unfold prot relM; omega)) (fun i => M _ _ (by unfold prot relM; omega)) a1, ?_, ?_, ?_, PC_fr (C _ _ (by unfold relT relC; omega)) (fun i => C _ _ (by unfold relT relC; omega)) (M _ _ (by unfold prot relM; omega)) (fun i => M _ _ (by unfold prot relM; omega)) a5, SE_fr (C _ _ (by unfold relT relC; omega)) (fun i => C _ _ (by unfold relT relC; omega)) (M _ _ (by unfold prot relM; omega)) (fun i => M _ _ (by unfold prot relM; omega)) a6, ?_, ?_, ?_, ?_, ?_, ?_⟩
  · intro i hi; rw [C _ _ (by unfold relT relC; omega), M _ _ (by unfold prot relM; omega)]; exact a2 i hi
  · exact ⟨by rw [C _ _ (by unfold relT relC; omega), M _ _ (by unfold prot relM; omega)]; exact a3.1, by rw [C _ _ (by unfold relT relC; omega), M _ _ (by unfold prot relM; omega)]; exact a3.2⟩
  · have e1 : mc'.2 0 17 = mc.2 0 17 := (hc _ _ (by unfold relT relC; omega)).2
    have e2 : mm'.2 112 66 = mm.2 112 66 := hm.2.2
    unfold SD; rw [e1, e2]; exact a4
  · obtain ⟨k1, k2, k3, k4, k5, k6, k7, k8, ⟨k, k9, k10, k11, k12⟩, k13, k14, k15⟩ := a7
    refine ⟨k1, (C _ _ (by unfold relT relC; omega)).trans k2, (C _ _ (by unfold relT relC; omega)).trans k3, (C _ _ (by unfold relT relC; omega)).trans k4, k5, (C _ _ (by unfold relT relC; omega)).trans k6, (M _ _ (by unfold prot relM; omega)).trans k7, by rw [C _ _ (by unfold relT relC; omega), M _ _ (by unfold prot relM; omega)]; exact k8, ⟨k, k9, k10, (C _ _ (by unfold relT relC; omega)).trans k11, (M _ _ (by unfold prot relM; omega)).trans k12⟩, by rw [C _ _ (by unfold relT relC; omega), M _ _ (by unfold prot relM; omega)]; exact k13, ?_, ?_⟩
    · rcases k14 with ⟨b1, b2, b3, b4, b5⟩ | ⟨b1, b2, b3, b4⟩
      · exact Or.inl ⟨b1, (M _ _ (by unfold prot relM; omega)).trans b2, by rw [C _ _ (by unfold relT relC; omega)]; exact b3, CK_of b4 (fun k _ => C _ _ (by unfold relT relC; omega)) (funext fun k => C _ _ (by unfold relT relC; omega)), RK_keep b5 (M _ _ (by unfold prot relM; omega)) (fun k hk => ⟨M _ _ (by unfold prot relM; omega), M _ _ (by unfold prot relM; omega)⟩) (fun k hk => M _ _ (by unfold prot relM; omega))⟩
      · exact Or.inr ⟨b1, (M _ _ (by unfold prot relM; omega)).trans b2, (C _ _ (by unfold relT relC; omega)).trans b3, b4⟩
    · intro t ht
      rw [hm.2.1 _ (by omega), show (fun k => mc'.1 (c + 1) (6 * t + k)) = (fun k => mc.1 (c + 1) (6 * t + k)) from funext fun k => C _ _ (by unfold relT relC; omega)]
      exact k15 t ht
  · exact ST_fr hT (fun k => C _ _ (by unfold relT relC; omega)) (fun k => C _ _ (by unfold relT relC; omega)) (fun k => C _ _ (by unfold relT relC; omega)) (fun k _ => M _ _ (by unfold prot relM; omega)) a8
  · exact KP_fr (C _ _ (by unfold relT relC; omega)) (fun k _ => C _ _ (by unfold relT relC; omega)) (fun k _ _ => M _ _ (by unfold prot relM; omega)) a9
  · exact UN_fr hT (C _ _ (by unfold relT relC; omega)) (C _ _ (by unfold relT relC; omega)) (fun k _ => C _ _ (by unfold relT relC; omega)) (fun a k _ _ => C _ _ (by unfold relT relC; omega)) (M _ _ (by unfold prot relM; omega)) (M _ _ (by unfold prot relM; omega)) (fun k => M _ _ (by unfold prot relM; omega)) a10
  · rw [M _ _ (by unfold prot relM; omega)]; exact a11
  · rw [M _ _ (by unfold prot relM; omega)]; exact a12
theorem cells_mv {en : Nat → Int32} {g g' : Nat → Int32} {d : Nat} : ∀ (l : List Nat) (k : Nat), (∀ i, k ≤ i → i < k + l.length → g' (d + i) = g i) → cells en g k l → cells en g' (d + k) l := by
  intro l
  induction l with
  | nil => intro k _ _; trivial
  | cons c l ih =>
    intro k h hc
    simp only [List.length_cons] at h
    refine ⟨(h k (by omega) (by omega)).trans hc.1, ?_⟩
    have := ih (k + 1) (fun i h1 h2 => h i (by omega) (by omega)) hc.2
    rw [show d + (k + 1) = d + k + 1 by omega] at this
    exact this
/-- a sum of the castle that stands -/
theorem dR_K {w z : Nat} {m m' : ev_M} {d : Option (List Nat)} {l0 : List Nat} (hz : z ≤ 1600) (h : dR w z m d) (h1 : m'.1 141 (2 + w) = m.1 141 w) (h2 : m'.1 142 (2 + w) = m.1 142 w) (h3 : ∀ k, k < z → m'.1 143 (1600 + k) = m.1 143 k) : (m'.1 141 (2 + w) = -1 ∧ d.getD l0 = l0) ∨ ∃ fr, m'.1 141 (2 + w) = Int32.ofNat fr ∧ m'.1 142 (2 + w) = Int32.ofNat (fr + (d.getD l0).length) ∧ fr + (d.getD l0).length ≤ 1600 ∧ cells Int32.ofNat (m'.1 143) (1600 + fr) (d.getD l0) := by
  cases d with
  | none => exact Or.inl ⟨h1.trans h, rfl⟩
  | some l =>
    obtain ⟨fr, a1, a2, a3, a4⟩ := h
    exact Or.inr ⟨fr, h1.trans a2, h2.trans a3, by show fr + l.length ≤ 1600; omega, cells_mv l fr (fun i _ hi => h3 i (by omega)) a4⟩
theorem NM_congr {g g' : Nat → Int32} {v : Int64} (e : ∀ k, k < 6 → g k = g' k) (h : NM g v) : NM g' v := by
  obtain ⟨n, a1, a2, a3, a4, a5⟩ := h
  exact ⟨n, a1, a2, fun k hk => by rw [← e k (by omega)]; exact a3 k hk, fun k h1 h2 => by rw [← e k h2]; exact a4 k h1 h2, by rw [a5]; exact b27_congr n (fun k hk => e k (by omega))⟩
theorem call_le {β : Nat → Int32} {E : Nat} (hr : (yEnds β E).isRight = true) : yval β E (yCall β E) ≤ 9 := by
  have back : ∀ (n rd : Nat) (R : Yr × sp_Q), ((yRun β E n R rd).1.1).isRight = true → R.1.isRight = true := by
    intro n rd R hq
    cases hh : R.1 with
    | inl e => rw [yRun_b hh, hh] at hq; exact hq
    | inr x => rfl
  have h1 : ((yAll β E).1.1).isRight = true := by
    cases hh : (yAll β E).1.1 with
    | inl e =>
      have : yEnds β E = .inl e := by unfold yEnds yFin; rw [hh]; exact if_neg (show ¬ (4 : Nat) = 0 by decide)
      rw [this] at hr; exact hr
    | inr x => rfl
  have h3 : (ytN β E 0 9 (yCall β E)).isRight = true := S_right (back 59 1 (yBeg β E) h1)
  exact (N_le h3).2
set_option maxHeartbeats 8000000 in
theorem B_castle (f : Nat) (hf : 4000 ≤ f) (mc mm : ev_M) (hS : Sim mc mm) (hW : WA mm) (hG1 : CGo 1 mc) (hG7 : CGo 7 mc) : ∃ (r : Int32) (mc' mm' : ev_M), FX11_castle f mc = some (r, mc') ∧ FX12_castle f mm = some (r, mm') ∧ Sim mc' mm' ∧ CGo 1 mc' ∧ CGo 7 mc' := by
  obtain ⟨c, tb, K, S, kc, h⟩ := hS
  have hca := h.2.2.2.2.2.2.1
  have hcc : c = 1 ∨ c = 7 := hca.1
  obtain ⟨L, t1, t2, t3, t4⟩ := h.1
  have hB : TB0 (mm.1 113) L mc := ⟨t1, t2, fun i hi => (t4 i hi).1⟩
  have hb : ∀ i, i < L → ¬ (mm.1 113) i = -1 := fun i hi => m1_byte (by have := (t4 i (by omega)); rw [← this.1]; exact this.2.1)
  obtain ⟨o, ho'⟩ : ∃ o, o = 8 - c := ⟨_, rfl⟩
  have ho : o = 1 ∨ o = 7 := by omega
  have e01 : mc.1 0 1 = Int32.ofNat o := by rw [ho']; exact hca.2.2.1
  have n01 : (mc.1 0 1).toNatClampNeg = o := by rw [e01, n_nat (by omega)]
  have hGo : CGo o mc := by rcases ho with e | e <;> rw [e] <;> assumption
  obtain ⟨m3, c1, c2⟩ := @c_from f L (mm.1 113) o mc hf ho hB hGo
  obtain ⟨m', r1, r2, r3⟩ := r_from hf hb t1 t3 (fun i _ => rfl) hW
  have fc : frP (relT c) mc m3 := FTX1_readFrom (P := relT c) f o (by unfold okc; omega) (by unfold relT relC; omega) (by unfold relT relC; omega) (by unfold relT relC; omega) (by unfold relT relC; omega) (by unfold relT relC; omega) (by unfold relT relC; omega) (by unfold relT relC; omega) (by unfold relT relC; omega) (by unfold relT relC; omega) (by unfold relT relC; omega) (by unfold relT relC; omega) (by unfold relT relC; omega) (by unfold relT relC; omega) (by unfold relT relC; omega) (by unfold relT relC; omega) (by unfold relT relC; omega) (by unfold relT relC; omega) (by unfold relT relC; omega) (by unfold relT relC; omega) (by unfold relT relC; omega) (by unfold relT relC; omega) (fun k => by unfold relT relC; omega) (fun k => by unfold relT relC; omega) (fun k => by unfold relT relC; omega) (by unfold relT relC; omega) (fun k => by unfold relT relC; omega) (frP_refl _ _) _ _ c1
  have C3 : ∀ a k, relT c a k → m3.1 a k = mc.1 a k := fun a k q => (fc a k q).1
  have hGc3 : CGo c m3 := by
    have : CGo c mc := by rcases hcc with e | e <;> rw [e] <;> assumption
    exact CGo_fr this (fun a k q1 q2 => C3 _ _ (by unfold relT relC; omega))
  -- what the reference has kept
  have km : ∀ (u v : Int32), KPm (ev_up (ev_up (ev_up mm.1 112 7 u) 112 8 v) 112 1 (Int32.ofNat 0), mm.2) (ev_up (ev_up m'.1 112 7 u) 112 8 v, m'.2) := by
    intro u v
    have hk := r2.2.2.1
    refine ⟨fun a k q => ?_, fun k hk' => ?_, ?_⟩
    · by_cases e : a = 112
      · subst e
        by_cases e8 : k = 8
        · subst e8; rw [upI_at, upI_nk _ _ _ _ (by decide), up_at]
        by_cases e7 : k = 7
        · subst e7; rw [upI_nk _ _ _ _ (by decide), up_at, upI_nk _ _ _ _ (by decide), up_nk _ _ _ (by decide), up_at]
        rw [upI_nk _ _ _ _ e8, up_nk _ _ _ e7, hk.1 112 k q, cas_112]
        by_cases e1 : k = 1
        · subst e1; rw [if_neg (by omega), if_neg (by omega), if_neg (by omega), if_neg (by omega), if_pos (Or.inr rfl), upI_at]; rfl
        · unfold prot relM at q
          rw [if_neg (by omega), if_neg (by omega), if_neg (by omega), if_neg (by omega), if_neg (by omega), if_neg (by omega), upI_nk _ _ _ _ e1, up_nk _ _ _ e8, up_nk _ _ _ e7]
      · rw [upI_na _ _ _ _ e, up_na _ _ _ _ e, hk.1 a k q, cas_fr e (by unfold prot relM at q; omega) (by unfold prot relM at q; omega), upI_na _ _ _ _ e, up_na _ _ _ _ e, up_na _ _ _ _ e]
    · exact hk.2.1 k hk'
    · exact hk.2.2
  unfold FX11_castle
  rw [n01, if_pos (isK1 ho), c1, bd_some]
  unfold FX11_noteFault
  rw [bd_some, r1]
  unfold FX12_castle_J109
  cases hy : yEnds (mm.1 113) L with
  | inl e =>
    obtain ⟨y1, y2, y3, y4⟩ := c2
    rw [hy] at y1 r2
    have hcb : CB m3 e := y1
    have hrb : RB m' e := r2.1
    have ev : m3.1 13 3 = m'.1 112 5 ∧ m3.1 13 4 = m'.1 112 6 := ⟨hcb.2.2.2.1.trans hrb.2.2.2.1.symm, hcb.2.2.2.2.1.trans hrb.2.2.2.2.symm⟩
    have hA := SimW_keep (frP_II (a := 13) (k := 1) (v := Int32.ofNat 0) (frP_II (a := 0) (k := 16) (v := m'.1 112 6) (frP_II (a := 0) (k := 15) (v := m'.1 112 5) fc))) (km (m'.1 112 5) (m'.1 112 6)) (SimW_len (SimW_flt (m'.1 112 5) (m'.1 112 6) h) (n := 0) (by omega))
    have hR := SimW_ref hA (i := 1) (by omega)
    rw [show (Sum.inl e : Yr).isRight = false from rfl, if_neg (show ¬ false = true by decide), if_pos rfl, if_neg (yr_bad hrb), ev.1, ev.2]
    have hcr : FX11_refuse f 1 (ev_up (ev_up (ev_up m3.1 0 15 (m'.1 112 5)) 0 16 (m'.1 112 6)) 13 1 0, m3.2) = some (0, (ev_up (ev_up (ev_up (ev_up m3.1 0 15 (m'.1 112 5)) 0 16 (m'.1 112 6)) 13 1 0) 109 1 ((ev_up (ev_up (ev_up m3.1 0 15 (m'.1 112 5)) 0 16 (m'.1 112 6)) 13 1 0) 109 1 + 1), m3.2)) := c_refuse (i := 1) (m := (ev_up (ev_up (ev_up m3.1 0 15 (m'.1 112 5)) 0 16 (m'.1 112 6)) 13 1 0, m3.2)) (by omega)
    rw [hcr, bd_some]
    have e114 : ((ev_up (ev_up m'.1 112 7 (m'.1 112 5)) 112 8 (m'.1 112 6), m'.2) : ev_M).1 114 1 = m'.1 114 1 := by rw [upI_na _ _ _ _ (by decide), up_na _ _ _ _ (by decide)]
    rw [e114] at hR
    have gG : ∀ q, CGo q m3 → (q = 1 ∨ q = 7) → CGo q (ev_up (ev_up (ev_up (ev_up m3.1 0 15 (m'.1 112 5)) 0 16 (m'.1 112 6)) 13 1 0) 109 1 ((ev_up (ev_up (ev_up m3.1 0 15 (m'.1 112 5)) 0 16 (m'.1 112 6)) 13 1 0) 109 1 + 1), m3.2) := fun q hq hq2 => CGo_fr hq (fun a k z1 z2 => by rw [upI_na _ _ _ _ (by omega), up_na _ _ _ _ (by omega), up_na _ _ _ _ (by omega), up_na _ _ _ _ (by omega)])
    refine ⟨_, _, _, rfl, rfl, ⟨c, tb, K, S, kc, hR⟩, ?_, ?_⟩
    · rcases hcc with e | e
      · rw [e] at hGc3; exact gG 1 hGc3 (by omega)
      · rw [show o = 1 by omega] at y2; exact gG 1 y2 (by omega)
    · rcases hcc with e | e
      · rw [show o = 7 by omega] at y2; exact gG 7 y2 (by omega)
      · rw [e] at hGc3; exact gG 7 hGc3 (by omega)
  | inr x =>
    obtain ⟨y1, y2, y3, y4⟩ := c2
    rw [hy] at y1 y4 r2 r3
    obtain ⟨x44, x34⟩ := r3 rfl
    obtain ⟨qA, qB, q11, q13, q7⟩ := y4 rfl
    obtain ⟨rA, rB, z, z1, z2, z3, z4, z5⟩ := r2.2.2.2 x rfl
    have hct : CT (mm.1 113) L m3 x.1 x.2.1 := y1
    have hrt : RT (mm.1 113) L m' x.1 x.2.1 := r2.1
    have hm5 : m'.1 112 5 = 0 := hrt.2.2.1
    have hm6 : m'.1 112 6 = -1 := hrt.2.2.2.1
    rw [show (Sum.inr x : Yr).isRight = true from rfl, if_pos rfl, if_neg n10, if_pos hm5, hct.2.2.1, hct.2.2.2.1, hm5, hm6]
    -- the class
    have e00' : (ev_up (ev_up m3.1 0 15 0) 0 16 (-1)) 0 0 = Int32.ofNat c := by rw [up_nk _ _ _ (by decide), up_nk _ _ _ (by decide), C3 _ _ (by unfold relT relC; omega)]; exact hca.2.1
    have e01' : (ev_up (ev_up m3.1 0 15 0) 0 16 (-1)) 0 1 = Int32.ofNat o := by rw [up_nk _ _ _ (by decide), up_nk _ _ _ (by decide), C3 _ _ (by unfold relT relC; omega)]; exact e01
    have nc : (Int32.ofNat c).toNatClampNeg = c := n_nat (by omega)
    have no : (Int32.ofNat o).toNatClampNeg = o := n_nat (by omega)
    show ∃ r mc' mm', (if isK 1 ((ev_up (ev_up m3.1 0 15 0) 0 16 (-1)) 0 0).toNatClampNeg then (if isK 1 ((ev_up (ev_up m3.1 0 15 0) 0 16 (-1)) 0 1).toNatClampNeg then (if isK 1 (Int32.ofNat ((ev_up (ev_up m3.1 0 15 0) 0 16 (-1)) 0 1).toNatClampNeg).toNatClampNeg then (ev_bd (FX8_begin f 103 (Int32.ofNat ((ev_up (ev_up m3.1 0 15 0) 0 16 (-1)) 0 1).toNatClampNeg).toNatClampNeg ((ev_up (ev_up (ev_up (ev_up (ev_up (ev_up m3.1 0 15 0) 0 16 (-1)) 13 1 0) 0 0 (Int32.ofNat ((ev_up (ev_up m3.1 0 15 0) 0 16 (-1)) 0 1).toNatClampNeg)) 0 1 (Int32.ofNat ((ev_up (ev_up m3.1 0 15 0) 0 16 (-1)) 0 0).toNatClampNeg)) 16 2 (Int32.ofNat (Int32.ofNat ((ev_up (ev_up m3.1 0 15 0) 0 16 (-1)) 0 1).toNatClampNeg).toNatClampNeg)), m3.2)) (fun _ m10 => (if isK 1 ((m10.1 0 0)).toNatClampNeg then some (((ev_up (ev_up m10.1 40 3 0) 33 6 0) ((m10.1 0 0)).toNatClampNeg 4), ((ev_up (ev_up m10.1 40 3 0) 33 6 0), m10.2)) else none))) else none) else none) else none) = some (r, mc') ∧ _
    rw [e00', e01', nc, no, no, if_pos (isK1 hcc), if_pos (isK1 ho), if_pos (isK1 ho)]
    obtain ⟨m10, b1, b2, b3, b4, b5, b6⟩ := @c_begin8 f o (ev_up (ev_up (ev_up (ev_up (ev_up (ev_up m3.1 0 15 0) 0 16 (-1)) 13 1 0) 0 0 (Int32.ofNat o)) 0 1 (Int32.ofNat c)) 16 2 (Int32.ofNat o), m3.2) hf ho
    have md := MDX8_begin b1
    have gB : ∀ a k, a ≠ 103 → a ≠ 104 → a ≠ 105 → m10.1 a k = ((ev_up (ev_up (ev_up (ev_up (ev_up (ev_up m3.1 0 15 0) 0 16 (-1)) 13 1 0) 0 0 (Int32.ofNat o)) 0 1 (Int32.ofNat c)) 16 2 (Int32.ofNat o), m3.2) : ev_M).1 a k := fun a k q1 q2 q3 => (md a k (by unfold mdX8_begin; omega)).1
    have gU : ∀ a k, a ≠ 0 → a ≠ 13 → a ≠ 16 → ((ev_up (ev_up (ev_up (ev_up (ev_up (ev_up m3.1 0 15 0) 0 16 (-1)) 13 1 0) 0 0 (Int32.ofNat o)) 0 1 (Int32.ofNat c)) 16 2 (Int32.ofNat o), m3.2) : ev_M).1 a k = m3.1 a k := fun a k q1 q2 q3 => by rw [upI_na _ _ _ _ q3, up_na _ _ _ _ q1, up_na _ _ _ _ q1, up_na _ _ _ _ q2, up_na _ _ _ _ q1, up_na _ _ _ _ q1]
    have e10 : m10.1 0 0 = Int32.ofNat o := by rw [gB _ _ (by decide) (by decide) (by decide), upI_na _ _ _ _ (by decide), up_nk _ _ _ (by decide), up_at]
    rw [b1, bd_some, e10, no, if_pos (isK1 ho)]
    -- the class in the end
    have gF : ∀ a k, ¬ (a = 40 ∧ k = 3) → ¬ (a = 33 ∧ k = 6) → ((ev_up (ev_up m10.1 40 3 0) 33 6 0, m10.2) : ev_M).1 a k = m10.1 a k := fun a k q1 q2 => by
      by_cases e : a = 33
      · subst e; rw [upI_nk _ _ _ _ (fun w => q2 ⟨rfl, w⟩), up_na _ _ _ _ (by decide)]
      · rw [upI_na _ _ _ _ e]
        by_cases e2 : a = 40
        · subst e2; rw [up_nk _ _ _ (fun w => q1 ⟨rfl, w⟩)]
        · rw [up_na _ _ _ _ e2]
    have gO : ∀ a k, 1 ≤ a → a ≤ 12 → ((ev_up (ev_up m10.1 40 3 0) 33 6 0, m10.2) : ev_M).1 a k = m3.1 a k := fun a k q1 q2 => by rw [gF _ _ (by omega) (by omega), gB _ _ (by omega) (by omega) (by omega), gU _ _ (by omega) (by omega) (by omega)]
    have gC : ∀ a k, relT c a k → a ≠ 0 → a ≠ 13 → a ≠ 16 → a ≠ 103 → a ≠ 104 → a ≠ 105 → ¬ (a = 40 ∧ k = 3) → ¬ (a = 33 ∧ k = 6) → ((ev_up (ev_up m10.1 40 3 0) 33 6 0, m10.2) : ev_M).1 a k = mc.1 a k := fun a k q p1 p2 p3 p4 p5 p6 p7 p8 => by rw [gF _ _ p7 p8, gB _ _ p4 p5 p6, gU _ _ p1 p2 p3, C3 _ _ q]
    have g0 : ∀ k, k ≠ 0 → k ≠ 1 → ((ev_up (ev_up m10.1 40 3 0) 33 6 0, m10.2) : ev_M).1 0 k = (ev_up (ev_up m3.1 0 15 0) 0 16 (-1)) 0 k := fun k q1 q2 => by rw [gF _ _ (by omega) (by omega), gB _ _ (by decide) (by decide) (by decide), upI_na _ _ _ _ (by decide), up_nk _ _ _ q2, up_nk _ _ _ q1, up_na _ _ _ _ (by decide)]
    have g17 : ((ev_up (ev_up m10.1 40 3 0) 33 6 0, m10.2) : ev_M).2 0 17 = mc.2 0 17 := ((md 0 17 (by unfold mdX8_begin; omega)).2).trans (fc 0 17 (by unfold relT relC; omega)).2
    -- the reference
    have gN : ∀ a k, ¬ (a = 112 ∧ (k = 7 ∨ k = 8)) → ((ev_up (ev_up m'.1 112 7 0) 112 8 (-1), m'.2) : ev_M).1 a k = m'.1 a k := fun a k q => by
      by_cases e : a = 112
      · subst e; rw [upI_nk _ _ _ _ (by omega), up_nk _ _ _ (by omega)]
      · rw [upI_na _ _ _ _ e, up_na _ _ _ _ e]
    obtain ⟨m9, s1, n45, n36, nN, n140, n141, n143, n0, n1, nR, n26, n64, n58⟩ := @r_stands f (ev_up (ev_up m'.1 112 7 0) 112 8 (-1), m'.2) (yAll (mm.1 113) L).1.2.1.1 z hf rA.1 (by rw [gN _ _ (by omega)]; exact rA.2.1) (by omega) (by rw [gN _ _ (by omega)]; exact z3)
    have ms := MDX12_stands s1
    have K0 := km 0 (-1)
    have gM : ∀ a k, prot a k → ¬ (a = 112 ∧ (k = 36 ∨ k = 45 ∨ k = 58 ∨ k = 64)) → a ≠ 140 → a ≠ 141 → a ≠ 142 → a ≠ 143 → a ≠ 144 → m9.1 a k = ((ev_up (ev_up (ev_up mm.1 112 7 0) 112 8 (-1)) 112 1 (Int32.ofNat 0), mm.2) : ev_M).1 a k := fun a k q p1 p2 p3 p4 p5 p6 => ((ms a k (by have := q.2.1; unfold mdX12_stands; omega)).1).trans (K0.1 a k q)
    have gMa : ∀ a k, prot a k → a ≠ 112 → a ≠ 140 → a ≠ 141 → a ≠ 142 → a ≠ 143 → a ≠ 144 → m9.1 a k = mm.1 a k := fun a k q p1 p2 p3 p4 p5 p6 => by rw [gM a k q (by omega) p2 p3 p4 p5 p6, upI_na _ _ _ _ p1, up_na _ _ _ _ p1, up_na _ _ _ _ p1]
    have gMb : ∀ k, prot 112 k → ¬ (k = 1 ∨ k = 7 ∨ k = 8 ∨ k = 36 ∨ k = 45 ∨ k = 58 ∨ k = 64) → m9.1 112 k = mm.1 112 k := fun k q p1 => by rw [gM 112 k q (by omega) (by decide) (by decide) (by decide) (by decide) (by decide), upI_nk _ _ _ _ (by omega), up_nk _ _ _ (by omega), up_nk _ _ _ (by omega)]
    have e44 : m9.1 112 44 = Int32.ofNat (yAll (mm.1 113) L).2 := by rw [(ms 112 44 (by unfold mdX12_stands; omega)).1, gN _ _ (by omega)]; exact x44
    have cle := call_le (β := mm.1 113) (E := L) (by rw [hy]; rfl)
    have rle := yRun_le (β := mm.1 113) (E := L) 59 1 (yBeg (mm.1 113) L)
    have hrd : 1 ≤ (yAll (mm.1 113) L).2 ∧ (yAll (mm.1 113) L).2 ≤ 60 := rle
    generalize hQ : (yAll (mm.1 113) L).1.2 = Q at qA qB q11 q13 rA rB z4 z5 n36 nR s1
    generalize hrd' : (yAll (mm.1 113) L).2 = rd at e44 hrd y3
    obtain ⟨a1, a2, a3, a4, yb, a5, a6, a7⟩ := qA
    have hp2 := p2_le a1
    obtain ⟨i1, i2, i3, i4, i5, i6, i7, i8, i9, i10, i11, i12⟩ := h
    refine ⟨Int32.ofNat rd, (ev_up (ev_up m10.1 40 3 0) 33 6 0, m10.2), m9, ?_, ?_, ⟨o, true, (Q.1.1, Q.2.2.1.getD lsay, Q.2.2.2.getD lfeel), (0, m3.1 o 7, (fun t => m3.1 (o + 2) t), (fun t => m3.1 (o + 3) t), (fun t => bt (Int32.ofNat yb) t)), 0, ?_⟩, ?_, ?_⟩
    · have e4 := gO o 4 (by omega) (by omega)
      have e4' : (ev_up (ev_up m10.1 40 3 0) 33 6 0) o 4 = Int32.ofNat rd := e4.trans y3
      rw [e4']
    · rw [s1, bd_some, e44]
    · refine ⟨⟨0, by omega, ?_, ?_, fun i hi => ?_⟩, fun i hi => ?_, ⟨?_, ?_⟩, ?_, PC_fr ?_ (fun i => ?_) ?_ (fun i => ?_) i5, ⟨0, by omega, ?_, ?_, fun i hi => by omega, fun i hi => by omega⟩, ?_, ?_, ?_, ?_, ?_, ?_⟩
      · rw [gF _ _ (by omega) (by omega), gB _ _ (by decide) (by decide) (by decide), upI_na _ _ _ _ (by decide), up_na _ _ _ _ (by decide), up_na _ _ _ _ (by decide), up_at]; rfl
      · rw [gM 112 1 (by unfold prot relM; omega) (by omega) (by decide) (by decide) (by decide) (by decide) (by decide), upI_at]
      · rw [gC 14 i (by unfold relT relC; omega) (by decide) (by decide) (by decide) (by decide) (by decide) (by decide) (by omega) (by omega), gMa 113 i (by unfold prot relM; omega) (by decide) (by decide) (by decide) (by decide) (by decide) (by decide)]
        exact t4 i hi
      · rw [gC 109 i (by unfold relT relC; omega) (by decide) (by decide) (by decide) (by decide) (by decide) (by decide) (by omega) (by omega), gMa 114 i (by unfold prot relM; omega) (by decide) (by decide) (by decide) (by decide) (by decide) (by decide)]
        exact i2 i hi
      · rw [g0 15 (by decide) (by decide), up_nk _ _ _ (by decide), up_at, gM 112 7 (by unfold prot relM; omega) (by omega) (by decide) (by decide) (by decide) (by decide) (by decide), upI_nk _ _ _ _ (by decide), up_nk _ _ _ (by decide), up_at]
      · rw [g0 16 (by decide) (by decide), up_at, gM 112 8 (by unfold prot relM; omega) (by omega) (by decide) (by decide) (by decide) (by decide) (by decide), upI_nk _ _ _ _ (by decide), up_at]
      · have e66 : m9.2 112 66 = mm.2 112 66 := ((ms 112 66 (by unfold mdX12_stands; omega)).2).trans r2.2.2.1.2.2
        unfold SD
        rw [g17, e66]
        exact i4
      · rw [g0 14 (by decide) (by decide), up_nk _ _ _ (by decide), up_nk _ _ _ (by decide), C3 _ _ (by unfold relT relC; omega)]
      · exact gC 110 i (by unfold relT relC; omega) (by decide) (by decide) (by decide) (by decide) (by decide) (by decide) (by omega) (by omega)
      · exact gMb 103 (by unfold prot relM; omega) (by omega)
      · exact gMa 180 i (by unfold prot relM; omega) (by decide) (by decide) (by decide) (by decide) (by decide) (by decide)
      · rw [upI_at]; rfl
      · rw [n58]; rfl
      · refine ⟨ho, ?_, ?_, ?_, a1, by rw [gO _ _ (by omega) (by omega)]; exact a2, n36, ?_, ⟨Q.2.1.2.1, qB.2.2.1, qB.2.2.2.1, by rw [gO _ _ (by omega) (by omega)]; exact qB.2.1, ?_⟩, ?_, Or.inl ⟨rfl, n45, ?_, ⟨ho, a1, by rw [gO _ _ (by omega) (by omega)]; exact a2, ?_, ?_, ?_, ?_⟩, ⟨a1, n36, ?_, ?_, ?_, ?_⟩⟩, fun t ht => ?_⟩
        · rw [gF _ _ (by omega) (by omega)]; exact e10
        · rw [gF _ _ (by omega) (by omega), gB _ _ (by decide) (by decide) (by decide), upI_na _ _ _ _ (by decide), up_at, show c = 8 - o by omega]
        · rw [gF _ _ (by omega) (by omega), gB _ _ (by decide) (by decide) (by decide), upI_at]
        · rw [gO _ _ (by omega) (by omega), qB.1, n140 0 (by omega), gN _ _ (by omega)]; exact rB.1.symm
        · rw [n140 1 (by omega), gN _ _ (by omega)]; exact rB.2.1
        · rw [gO _ _ (by omega) (by omega), qB.2.2.2.2, n140 2 (by omega), gN _ _ (by omega)]; exact rB.2.2.symm
        · rw [gO _ _ (by omega) (by omega), y3, n_int (by omega)]; omega
        · obtain ⟨fr, p1, p2, p3, p4, p5⟩ := q11
          exact ⟨fr, by rw [gO _ _ (by omega) (by omega)]; exact p1, by rw [gO _ _ (by omega) (by omega)]; exact p2, p3, cells_fr _ _ (fun i _ _ => gO _ _ (by omega) (by omega)) p4⟩
        · obtain ⟨fr, p1, p2, p3, p4, p5⟩ := q13
          exact ⟨fr, by rw [gO _ _ (by omega) (by omega)]; exact p1, by rw [gO _ _ (by omega) (by omega)]; exact p2, p3, cells_fr _ _ (fun i _ _ => gO _ _ (by omega) (by omega)) p4⟩
        · obtain ⟨fr, p1, p2, p3, p4, p5⟩ := q11; exact p5
        · obtain ⟨fr, p1, p2, p3, p4, p5⟩ := q13; exact p5
        · exact dR_K (w := 0) (by omega) z4 (by rw [(n141 0 (by omega)).1, gN _ _ (by omega)]) (by rw [(n141 0 (by omega)).2, gN _ _ (by omega)]) (fun k hk => by rw [n143 k hk, gN _ _ (by omega)])
        · exact dR_K (w := 1) (by omega) z5 (by rw [(n141 1 (by omega)).1, gN _ _ (by omega)]) (by rw [(n141 1 (by omega)).2, gN _ _ (by omega)]) (fun k hk => by rw [n143 k hk, gN _ _ (by omega)])
        · obtain ⟨fr, p1, p2, p3, p4, p5⟩ := q11; exact p5
        · obtain ⟨fr, p1, p2, p3, p4, p5⟩ := q13; exact p5
        · have ht' : t < Q.1.1 := ht
          have hN := (rA.2.2 t ht').1
          have e138 : m9.2 138 (8 + t) = m'.2 138 t := nN t (by omega)
          rw [e138]
          exact NM_congr (fun k hk => by rw [gO _ _ (by omega) (by omega)]; exact (a3 t k ht' hk).symm) hN
      · have e10' : ∀ a k, a = 103 ∨ a = 104 ∨ a = 105 → ((ev_up (ev_up m10.1 40 3 0) 33 6 0, m10.2) : ev_M).1 a k = m10.1 a k := fun a k q => gF _ _ (by omega) (by omega)
        refine ⟨⟨?_, ?_, fun t ht => ⟨?_, ?_, ?_⟩⟩, ⟨?_, ?_, fun t ht => ⟨?_, ?_, ?_⟩⟩, ⟨⟨(show 0 ≤ (0 : Int32).toInt by decide), (show (0 : Int32).toInt < 2000 by decide)⟩, ?_, fun t ht => ⟨(y2 t ht).1, (y2 t ht).2, bt_01 _ _⟩⟩, (show (0 : Int32).toInt ≤ 999 by decide), yb, ?_, a6⟩
        · rw [e10' _ _ (by omega)]; exact b2
        · rw [e10' _ _ (by omega), b3, gU _ _ (by omega) (by omega) (by omega)]
        · rw [e10' _ _ (by omega)]
          exact ((b6 t ht).1).trans (gU _ _ (by omega) (by omega) (by omega))
        · rw [e10' _ _ (by omega)]
          exact ((b6 t ht).2).trans (gU _ _ (by omega) (by omega) (by omega))
        · rw [e10' _ _ (by omega), b4, gU _ _ (by omega) (by omega) (by omega), a5]
        · exact n0
        · rw [n1, gN _ _ (by omega), x34]; exact q7.symm
        · have ht' : t < Q.1.1 := ht
          rw [nR (3 * t) (by omega), gN _ _ (by omega), (rA.2.2 t ht').2.1]
          exact ((a4 t ht').1).symm
        · have ht' : t < Q.1.1 := ht
          rw [show 2 + 3 * t + 1 = 2 + (3 * t + 1) by omega, nR (3 * t + 1) (by omega), gN _ _ (by omega), (rA.2.2 t ht').2.2.1]
          exact ((a4 t ht').2).symm
        · have ht' : t < Q.1.1 := ht
          rw [show 2 + 3 * t + 2 = 2 + (3 * t + 2) by omega, nR (3 * t + 2) (by omega), gN _ _ (by omega), (rA.2.2 t ht').2.2.2]
          exact (a7 t ht').symm
        · show g9 (m3.1 o 7)
          rw [q7]
          unfold g9
          rw [n_int (by omega)]
          omega
        · rw [e10' _ _ (by omega), b4, gU _ _ (by omega) (by omega) (by omega), a5]
      · refine ⟨(show ((0 : Nat) : Int) ≤ (0 : Int32).toInt by decide), ?_, n26, fun i j hi hj => by omega⟩
        rw [gF _ _ (by omega) (by omega)]; exact b5
      · obtain ⟨nx, ct, u1, u2, u3, u4, u5, u6, _⟩ := i10
        refine ⟨nx, 0, u1, by omega, ?_, ?_, ?_, n64, fun _ => 0, fun i hi => by omega, fun i j h1 h2 => by omega, fun i hi => by omega⟩
        · rw [gC 40 2 (by unfold relT relC; omega) (by decide) (by decide) (by decide) (by decide) (by decide) (by decide) (by omega) (by omega)]; exact u3
        · rw [upI_na _ _ _ _ (by decide), up_at]; rfl
        · rw [gMb 65 (by unfold prot relM; omega) (by omega)]; exact u5
      · rw [gMb 53 (by unfold prot relM; omega) (by omega)]; exact i11
      · rw [gMb 54 (by unfold prot relM; omega) (by omega)]; exact i12
    · rcases hcc with e | e
      · rw [e] at hGc3; exact CGo_fr hGc3 (fun a k q1 q2 => gO _ _ (by omega) (by omega))
      · rw [show o = 1 by omega] at y2; exact CGo_fr y2 (fun a k q1 q2 => gO _ _ (by omega) (by omega))
    · rcases hcc with e | e
      · rw [show o = 7 by omega] at y2; exact CGo_fr y2 (fun a k q1 q2 => gO _ _ (by omega) (by omega))
      · rw [e] at hGc3; exact CGo_fr hGc3 (fun a k q1 q2 => gO _ _ (by omega) (by omega))
