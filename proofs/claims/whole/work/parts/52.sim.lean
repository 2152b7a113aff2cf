/-! what class and reference have in common: the first memory holds the class, the second the reference -/
def TP (mc mm : ev_M) : Prop := ∃ L, L ≤ 1600 ∧ mc.1 13 1 = Int32.ofNat L ∧ mm.1 112 1 = Int32.ofNat L ∧ ∀ i, i < 1600 → mc.1 14 i = mm.1 113 i ∧ 0 ≤ (mc.1 14 i).toInt ∧ (mc.1 14 i).toInt ≤ 255
def RF (mc mm : ev_M) : Prop := ∀ i, i < 6 → mc.1 109 i = mm.1 114 i
def FT (mc mm : ev_M) : Prop := mc.1 0 15 = mm.1 112 7 ∧ mc.1 0 16 = mm.1 112 8
def SD (mc mm : ev_M) : Prop := mc.2 0 17 = mm.2 112 66 ∧ 0 ≤ (mc.2 0 17).toInt ∧ (mc.2 0 17).toInt < 2147483648
def PC (mc mm : ev_M) : Prop := ∃ p, p ≤ 28 ∧ mc.1 0 14 = Int32.ofNat p ∧ mm.1 112 103 = Int32.ofNat p ∧ ∀ i, i < p → mc.1 110 i = mm.1 180 i
def SE (T : Nat) (mc mm : ev_M) : Prop := ∃ r, r ≤ 16 ∧ mc.1 33 6 = Int32.ofNat r ∧ mm.1 112 58 = Int32.ofNat r ∧ (∀ i, i < 3 * r → mc.1 37 i = mm.1 148 i) ∧ ∀ i, i < r → (0 ≤ (mc.1 37 (3 * i)).toInt ∧ (mc.1 37 (3 * i)).toInt ≤ 30) ∧ (∃ t, t < T ∧ mc.1 37 (3 * i + 1) = Int32.ofNat t) ∧ g9 (mc.1 37 (3 * i + 2))
def b27 (g : Nat → Int32) : Nat → Int
  | 0 => 0
  | k + 1 => 27 * b27 g k + (g k).toInt
def NM (g : Nat → Int32) (v : Int64) : Prop := ∃ n, 1 ≤ n ∧ n ≤ 6 ∧ (∀ k, k < n → 1 ≤ (g k).toInt ∧ (g k).toInt ≤ 26) ∧ (∀ k, n ≤ k → k < 6 → g k = 0) ∧ v.toInt = b27 g n
def TB (c : Nat) (tb : Bool) (K : sp_K) (mc mm : ev_M) : Prop := (tb = true ∧ mm.1 112 45 = 1 ∧ 0 < (mc.1 c 4).toInt ∧ CK mc c K ∧ RK mm K) ∨ (tb = false ∧ mm.1 112 45 = 0 ∧ mc.1 c 4 = 0 ∧ K.1 = 0)
def CA (c : Nat) (tb : Bool) (K : sp_K) (mc mm : ev_M) : Prop :=
  (c = 1 ∨ c = 7) ∧ mc.1 0 0 = Int32.ofNat c ∧ mc.1 0 1 = Int32.ofNat (8 - c) ∧ mc.1 16 2 = Int32.ofNat c ∧ K.1 ≤ 8 ∧ mc.1 c 5 = Int32.ofNat K.1 ∧ mm.1 112 36 = Int32.ofNat K.1 ∧
  mc.1 c 8 = mm.1 140 3 ∧ (∃ k, 0 < k ∧ k < 9 ∧ mc.1 c 9 = Int32.ofNat k ∧ mm.1 140 4 = Int32.ofNat k) ∧ mc.1 c 10 = mm.1 140 5 ∧ TB c tb K mc mm ∧
  ∀ t, t < K.1 → NM (fun k => mc.1 (c + 1) (6 * t + k)) (mm.2 138 (8 + t))
def RG (g : Nat → Int32) (T : Nat) (S : sp_S) : Prop :=
  g 0 = S.1 ∧ g 1 = S.2.1 ∧ ∀ t, t < T → g (2 + 3 * t) = S.2.2.1 t ∧ g (2 + 3 * t + 1) = S.2.2.2.1 t ∧ g (2 + 3 * t + 2) = S.2.2.2.2 t
def ST (mc : ev_M) (o : Nat) (g : Nat → Int32) (T : Nat) (S : sp_S) : Prop := CS mc o S ∧ RG g T S ∧ sp_rg S ∧ S.1.toInt ≤ 999 ∧ ∃ y, mc.1 o 4 = Int32.ofNat y ∧ y < 2 ^ T
def KP (mc : ev_M) (o : Nat) (g : Nat → Int32) (kc : Nat) (S : sp_S) : Prop := (kc : Int) ≤ S.1.toInt ∧ mc.1 o 5 = Int32.ofNat kc ∧ g 26 = Int32.ofNat (min 40 kc) ∧ ∀ i j, i < min 40 kc → j < 3 → g (27 + 3 * i + j) = mc.1 42 (3 * (kc - min 40 kc + i) + j)
def UN (T kc : Nat) (mc mm : ev_M) : Prop := ∃ nx ct, nx < 20 ∧ ct ≤ 20 ∧ mc.1 40 2 = Int32.ofNat nx ∧ mc.1 40 3 = Int32.ofNat ct ∧ mm.1 112 65 = Int32.ofNat nx ∧ mm.1 112 64 = Int32.ofNat ct ∧
  ∃ kcs : Nat → Nat, (∀ i, i < ct → kcs i ≤ kc) ∧ (∀ i j, i ≤ j → j < ct → kcs j ≤ kcs i) ∧ ∀ i, i < ct → ∃ S, ST mc (43 + 3 * ((nx + 39 - i) % 20)) (fun k => mm.1 151 (147 * ((nx + 40 - i) % 20) + k)) T S ∧ KP mc (43 + 3 * ((nx + 39 - i) % 20)) (fun k => mm.1 151 (147 * ((nx + 40 - i) % 20) + k)) (kcs i) S
def SimW (c : Nat) (tb : Bool) (K : sp_K) (S : sp_S) (kc : Nat) (mc mm : ev_M) : Prop :=
  TP mc mm ∧ RF mc mm ∧ FT mc mm ∧ SD mc mm ∧ PC mc mm ∧ SE K.1 mc mm ∧ CA c tb K mc mm ∧ ST mc 103 (mm.1 144) K.1 S ∧ KP mc 103 (mm.1 144) kc S ∧ UN K.1 kc mc mm ∧ mm.1 112 53 = 0 ∧ mm.1 112 54 = 0
def Sim (mc mm : ev_M) : Prop := ∃ c tb K S kc, SimW c tb K S kc mc mm
/-! what it speaks of -/
def relC (a k : Nat) : Prop := (a = 0 ∧ (k ≤ 1 ∨ 14 ≤ k)) ∨ (1 ≤ a ∧ a ≤ 12) ∨ (a = 13 ∧ k = 1) ∨ a = 14 ∨ (a = 16 ∧ k = 2) ∨ (a = 33 ∧ k = 6) ∨ a = 37 ∨ (a = 40 ∧ (k = 2 ∨ k = 3)) ∨ a = 42 ∨ (43 ≤ a ∧ a ≤ 105) ∨ a = 109 ∨ a = 110
def relM (a k : Nat) : Prop := (a = 112 ∧ (k = 1 ∨ k = 7 ∨ k = 8 ∨ k = 36 ∨ k = 45 ∨ k = 53 ∨ k = 54 ∨ k = 58 ∨ k = 64 ∨ k = 65 ∨ k = 66 ∨ k = 103)) ∨ a = 113 ∨ a = 114 ∨ a = 138 ∨ (140 ≤ a ∧ a ≤ 144) ∨ a = 148 ∨ a = 151 ∨ a = 180
theorem relM_144 (k : Nat) : relM 144 k := by unfold relM; omega
theorem relM_151 (k : Nat) : relM 151 k := by unfold relM; omega
section
variable {mc mm mc' mm' : ev_M} (hc : frP relC mc mc') (hm : frP relM mm mm')
theorem TP_fr (h1 : mc'.1 13 1 = mc.1 13 1) (h2 : ∀ i, mc'.1 14 i = mc.1 14 i) (h3 : mm'.1 112 1 = mm.1 112 1) (h4 : ∀ i, mm'.1 113 i = mm.1 113 i) (h : TP mc mm) : TP mc' mm' := by
  obtain ⟨L, a, b, c, d⟩ := h
  exact ⟨L, a, h1.trans b, h3.trans c, fun i hi => by rw [h2, h4]; exact d i hi⟩
theorem SE_fr {T : Nat} (h1 : mc'.1 33 6 = mc.1 33 6) (h2 : ∀ i, mc'.1 37 i = mc.1 37 i) (h3 : mm'.1 112 58 = mm.1 112 58) (h4 : ∀ i, mm'.1 148 i = mm.1 148 i) (h : SE T mc mm) : SE T mc' mm' := by
  obtain ⟨r, a, b, c, d, e⟩ := h
  exact ⟨r, a, h1.trans b, h3.trans c, fun i hi => by rw [h2, h4]; exact d i hi, fun i hi => by rw [h2, h2, h2]; exact e i hi⟩
theorem PC_fr (h1 : mc'.1 0 14 = mc.1 0 14) (h2 : ∀ i, mc'.1 110 i = mc.1 110 i) (h3 : mm'.1 112 103 = mm.1 112 103) (h4 : ∀ i, mm'.1 180 i = mm.1 180 i) (h : PC mc mm) : PC mc' mm' := by
  obtain ⟨p, a, b, c, d⟩ := h
  exact ⟨p, a, h1.trans b, h3.trans c, fun i hi => by rw [h2, h4]; exact d i hi⟩
theorem CA_fr {c : Nat} {tb : Bool} {K : sp_K} (h00 : mc'.1 0 0 = mc.1 0 0) (h01 : mc'.1 0 1 = mc.1 0 1) (h16 : mc'.1 16 2 = mc.1 16 2) (hcc : ∀ a k, 1 ≤ a → a ≤ 12 → mc'.1 a k = mc.1 a k) (m1 : mm'.1 112 36 = mm.1 112 36) (m2 : mm'.1 112 45 = mm.1 112 45) (m3 : ∀ a k, 140 ≤ a → a ≤ 143 → mm'.1 a k = mm.1 a k) (m4 : ∀ k, mm'.2 138 k = mm.2 138 k) (h : CA c tb K mc mm) : CA c tb K mc' mm' := by
  obtain ⟨a1, a2, a3, a4, a5, a6, a7, a8, ⟨k, a9, a10, a11, a12⟩, a13, a14, a15⟩ := h
  refine ⟨a1, h00.trans a2, h01.trans a3, h16.trans a4, a5, (hcc c 5 (by omega) (by omega)).trans a6, m1.trans a7, by rw [hcc c 8 (by omega) (by omega), m3 140 3 (by omega) (by omega)]; exact a8, ⟨k, a9, a10, (hcc c 9 (by omega) (by omega)).trans a11, (m3 140 4 (by omega) (by omega)).trans a12⟩, by rw [hcc c 10 (by omega) (by omega), m3 140 5 (by omega) (by omega)]; exact a13, ?_, ?_⟩
  · rcases a14 with ⟨b1, b2, b3, b4, b5⟩ | ⟨b1, b2, b3, b4⟩
    · exact Or.inl ⟨b1, m2.trans b2, by rw [hcc c 4 (by omega) (by omega)]; exact b3, CK_of b4 (fun k _ => hcc c k (by omega) (by omega)) (funext fun k => hcc _ k (by omega) (by omega)), RK_of b5 m1 (fun k => m3 _ k (by omega) (by omega)) (fun k => m3 _ k (by omega) (by omega)) (funext fun k => m3 _ k (by omega) (by omega))⟩
    · exact Or.inr ⟨b1, m2.trans b2, (hcc c 4 (by omega) (by omega)).trans b3, b4⟩
  · intro t ht
    rw [m4, show (fun k => mc'.1 (c + 1) (6 * t + k)) = (fun k => mc.1 (c + 1) (6 * t + k)) from funext fun k => hcc _ _ (by omega) (by omega)]
    exact a15 t ht
theorem CS_fr {o : Nat} {S : sp_S} (h0 : ∀ k, mc'.1 o k = mc.1 o k) (h1 : ∀ k, mc'.1 (o + 1) k = mc.1 (o + 1) k) (h2 : ∀ k, mc'.1 (o + 2) k = mc.1 (o + 2) k) (h : CS mc o S) : CS mc' o S :=
  ⟨(h0 2).trans h.1, (h0 3).trans h.2.1, fun t ht => ⟨(h1 t).trans (h.2.2 t ht).1, (h2 t).trans (h.2.2 t ht).2.1, by rw [h0 4]; exact (h.2.2 t ht).2.2⟩⟩
theorem RG_fr {g g' : Nat → Int32} {T : Nat} {S : sp_S} (hT : T ≤ 8) (hg : ∀ k, k < 26 → g' k = g k) (h : RG g T S) : RG g' T S :=
  ⟨(hg 0 (by omega)).trans h.1, (hg 1 (by omega)).trans h.2.1, fun t ht => ⟨(hg _ (by omega)).trans (h.2.2 t ht).1, (hg _ (by omega)).trans (h.2.2 t ht).2.1, (hg _ (by omega)).trans (h.2.2 t ht).2.2⟩⟩
theorem ST_fr {o : Nat} {g g' : Nat → Int32} {T : Nat} {S : sp_S} (hT : T ≤ 8) (h0 : ∀ k, mc'.1 o k = mc.1 o k) (h1 : ∀ k, mc'.1 (o + 1) k = mc.1 (o + 1) k) (h2 : ∀ k, mc'.1 (o + 2) k = mc.1 (o + 2) k) (hg : ∀ k, k < 26 → g' k = g k) (h : ST mc o g T S) : ST mc' o g' T S := by
  obtain ⟨a, b, c, d, y, e1, e2⟩ := h
  exact ⟨CS_fr h0 h1 h2 a, RG_fr hT hg b, c, d, y, (h0 4).trans e1, e2⟩
theorem KP_fr {o : Nat} {g g' : Nat → Int32} {kc : Nat} {S : sp_S} (h0 : mc'.1 o 5 = mc.1 o 5) (h42 : ∀ k, k < 3 * kc → mc'.1 42 k = mc.1 42 k) (hg : ∀ k, 26 ≤ k → k < 147 → g' k = g k) (h : KP mc o g kc S) : KP mc' o g' kc S := by
  obtain ⟨a, b, c, d⟩ := h
  refine ⟨a, h0.trans b, (hg 26 (by omega) (by omega)).trans c, fun i j hi hj => ?_⟩
  rw [hg _ (by omega) (by omega), h42 _ (by omega)]
  exact d i j hi hj
theorem UN_fr {T kc : Nat} (hT : T ≤ 8) (h2 : mc'.1 40 2 = mc.1 40 2) (h3 : mc'.1 40 3 = mc.1 40 3) (h42 : ∀ k, k < 3 * kc → mc'.1 42 k = mc.1 42 k) (hr : ∀ a k, 43 ≤ a → a < 103 → mc'.1 a k = mc.1 a k) (m1 : mm'.1 112 65 = mm.1 112 65) (m2 : mm'.1 112 64 = mm.1 112 64) (m3 : ∀ k, mm'.1 151 k = mm.1 151 k) (h : UN T kc mc mm) : UN T kc mc' mm' := by
  obtain ⟨nx, ct, a1, a2, a3, a4, a5, a6, kcs, a7, a8, a9⟩ := h
  refine ⟨nx, ct, a1, a2, h2.trans a3, h3.trans a4, m1.trans a5, m2.trans a6, kcs, a7, a8, fun i hi => ?_⟩
  obtain ⟨S, b1, b2⟩ := a9 i hi
  have := a7 i hi
  exact ⟨S, ST_fr hT (fun k => hr _ k (by omega) (by omega)) (fun k => hr _ k (by omega) (by omega)) (fun k => hr _ k (by omega) (by omega)) (fun k _ => m3 _) b1, KP_fr (hr _ 5 (by omega) (by omega)) (fun k hk => h42 k (by omega)) (fun k _ _ => m3 _) b2⟩
theorem SimW_fr {c : Nat} {tb : Bool} {K : sp_K} {S : sp_S} {kc : Nat} (hc : frP relC mc mc') (hm : frP relM mm mm') (h : SimW c tb K S kc mc mm) : SimW c tb K S kc mc' mm' := by
  obtain ⟨a1, a2, a3, a4, a5, a6, a7, a8, a9, a10, a11, a12⟩ := h
  have C : ∀ a k, relC a k → mc'.1 a k = mc.1 a k := fun a k q => (hc a k q).1
  have M : ∀ a k, relM a k → mm'.1 a k = mm.1 a k := fun a k q => (hm a k q).1
  have hT := a7.2.2.2.2.1
  refine ⟨TP_fr (C _ _ (by unfold relC; omega)) (fun i => C _ _ (by unfold relC; omega)) (M _ _ (by unfold relM; omega)) (fun i => M _ _ (by unfold relM; omega)) a1, ?_, ?_, ?_, PC_fr (C _ _ (by unfold relC; omega)) (fun i => C _ _ (by unfold relC; omega)) (M _ _ (by unfold relM; omega)) (fun i => M _ _ (by unfold relM; omega)) a5, SE_fr (C _ _ (by unfold relC; omega)) (fun i => C _ _ (by unfold relC; omega)) (M _ _ (by unfold relM; omega)) (fun i => M _ _ (by unfold relM; omega)) a6, ?_, ?_, ?_, ?_, ?_, ?_⟩
  · intro i hi; rw [C _ _ (by unfold relC; omega), M _ _ (by unfold relM; omega)]; exact a2 i hi
  · exact ⟨by rw [C _ _ (by unfold relC; omega), M _ _ (by unfold relM; omega)]; exact a3.1, by rw [C _ _ (by unfold relC; omega), M _ _ (by unfold relM; omega)]; exact a3.2⟩
  · have e1 : mc'.2 0 17 = mc.2 0 17 := (hc _ _ (by unfold relC; omega)).2
    have e2 : mm'.2 112 66 = mm.2 112 66 := (hm _ _ (by unfold relM; omega)).2
    unfold SD; rw [e1, e2]; exact a4
  · exact CA_fr (C _ _ (by unfold relC; omega)) (C _ _ (by unfold relC; omega)) (C _ _ (by unfold relC; omega)) (fun a k _ _ => C _ _ (by unfold relC; omega)) (M _ _ (by unfold relM; omega)) (M _ _ (by unfold relM; omega)) (fun a k _ _ => M _ _ (by unfold relM; omega)) (fun k => (hm _ _ (by unfold relM; omega)).2) a7
  · exact ST_fr hT (fun k => C _ _ (by unfold relC; omega)) (fun k => C _ _ (by unfold relC; omega)) (fun k => C _ _ (by unfold relC; omega)) (fun k _ => M _ _ (by unfold relM; omega)) a8
  · exact KP_fr (C _ _ (by unfold relC; omega)) (fun k _ => C _ _ (by unfold relC; omega)) (fun k _ _ => M _ _ (by unfold relM; omega)) a9
  · exact UN_fr hT (C _ _ (by unfold relC; omega)) (C _ _ (by unfold relC; omega)) (fun k _ => C _ _ (by unfold relC; omega)) (fun a k _ _ => C _ _ (by unfold relC; omega)) (M _ _ (by unfold relM; omega)) (M _ _ (by unfold relM; omega)) (fun k => M _ _ (by unfold relM; omega)) a10
  · rw [M _ _ (by unfold relM; omega)]; exact a11
  · rw [M _ _ (by unfold relM; omega)]; exact a12
end
theorem Sim_fr {mc mm mc' mm' : ev_M} (hc : frP relC mc mc') (hm : frP relM mm mm') (h : Sim mc mm) : Sim mc' mm' := by
  obtain ⟨c, tb, K, S, kc, h⟩ := h
  exact ⟨c, tb, K, S, kc, SimW_fr hc hm h⟩
/-- a call, done on both -/
def Both {α : Type} (oc om : ev_M → Option (α × ev_M)) : Prop := ∀ mc mm, Sim mc mm → ∃ (r : α) (mc' mm' : ev_M), oc mc = some (r, mc') ∧ om mm = some (r, mm') ∧ Sim mc' mm'
theorem St1_of {α : Type} {oc om : ev_M → Option (α × ev_M)} (h : Both oc om) (hc : ∀ m r m', oc m = some (r, m') → frP (fun a _ => 112 ≤ a) m m') (hm : ∀ m r m', om m = some (r, m') → frP (fun a _ => a < 112) m m') : St1 (fun m => Sim m m) oc om := by
  intro m hS
  obtain ⟨r, m1, mm1, e1, _, _⟩ := h m m hS
  have f1 := hc m r m1 e1
  have S1 : Sim m m1 := Sim_fr (frP_refl _ _) (f1.mono (fun a k q => by unfold relM at q; omega)) hS
  obtain ⟨r', m1', m2, e1', e2, S2⟩ := h m m1 S1
  rw [e1] at e1'
  have er : r = r' := congrArg Prod.fst (Option.some.inj e1')
  have em : m1 = m1' := congrArg Prod.snd (Option.some.inj e1')
  subst er; subst em
  have f2 := hm m1 r m2 e2
  exact ⟨r, m1, m2, e1, e2, Sim_fr (f2.mono (fun a k q => by unfold relC at q; omega)) (frP_refl _ _) S2⟩
/-- a call that only tells -/
theorem Both_q {α : Type} {oc om : ev_M → Option (α × ev_M)} (h : ∀ c tb K S kc mc mm, SimW c tb K S kc mc mm → ∃ (r : α) (mc' mm' : ev_M), oc mc = some (r, mc') ∧ om mm = some (r, mm') ∧ frP relC mc mc' ∧ frP relM mm mm') : Both oc om := by
  intro mc mm hS
  obtain ⟨c, tb, K, S, kc, hW⟩ := hS
  obtain ⟨r, mc', mm', e1, e2, f1, f2⟩ := h c tb K S kc mc mm hW
  exact ⟨r, mc', mm', e1, e2, c, tb, K, S, kc, SimW_fr f1 f2 hW⟩
