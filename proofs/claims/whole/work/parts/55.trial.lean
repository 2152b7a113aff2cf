/-! trials: the class goes on a state of its own, the reference on its rows, which it has put aside -/
theorem c_copy_L {f o0 o1 : Nat} {kf : ev_M → Option (Unit × ev_M)} {m0 : ev_M} (hd : o0 + 2 < o1 ∨ o1 + 2 < o0) : ∀ (j t n : Nat) (m : ev_M), t + j = 8 → j < n → (∀ a k, a ≠ o0 + 1 → a ≠ o0 + 2 → m.1 a k = m0.1 a k) → (∀ i, m.1 (o0 + 1) i = if i < t then m0.1 (o1 + 1) i else m0.1 (o0 + 1) i) → (∀ i, m.1 (o0 + 2) i = if i < t then m0.1 (o1 + 2) i else m0.1 (o0 + 2) i) →
    ∃ m', FX8_copy_L34 f kf o0 o1 n (Int32.ofNat t) m = kf m' ∧ (∀ a k, a ≠ o0 + 1 → a ≠ o0 + 2 → m'.1 a k = m0.1 a k) ∧ (∀ i, i < 8 → m'.1 (o0 + 1) i = m0.1 (o1 + 1) i) ∧ (∀ i, i < 8 → m'.1 (o0 + 2) i = m0.1 (o1 + 2) i) := by
  have e8 : (8 : Int32) = Int32.ofNat 8 := rfl
  intro j
  induction j with
  | zero =>
    intro t n m h1 h2 q1 q2 q3
    obtain ⟨n, rfl⟩ : ∃ z, n = z + 1 := ⟨n - 1, by omega⟩
    refine ⟨m, ?_, q1, fun i hi => by rw [q2, if_pos (by omega)], fun i hi => by rw [q3, if_pos (by omega)]⟩
    rw [FX8_copy_L34, if_pos (by rw [e8, n_le (by omega) (by omega)]; omega)]
  | succ j ih =>
    intro t n m h1 h2 q1 q2 q3
    obtain ⟨n, rfl⟩ : ∃ z, n = z + 1 := ⟨n - 1, by omega⟩
    have hi : ev_in (Int32.ofNat t) 8 := (n_in (by omega)).mpr (by omega)
    rw [FX8_copy_L34, if_neg (by rw [e8, n_le (by omega) (by omega)]; omega), if_pos hi, if_pos hi, if_pos hi, if_pos hi, n_nat (by omega), s_1, up_na _ _ _ _ (show o1 + 2 ≠ o0 + 1 by omega)]
    refine ih (t + 1) n _ (by omega) (by omega) ?_ ?_ ?_
    · intro a k z1 z2
      rw [upI_na _ _ _ _ z2, ev_up_ne _ _ _ z1]; exact q1 a k z1 z2
    · intro i
      rw [upI_na _ _ _ _ (by omega), ev_up_at]
      by_cases e : i = t
      · rw [if_pos e, if_pos (by omega), q1 _ _ (by omega) (by omega), e]
      · rw [if_neg e, q2 i]
        by_cases e2 : i < t
        · rw [if_pos e2, if_pos (by omega)]
        · rw [if_neg e2, if_neg (by omega)]
    · intro i
      show ev_up _ (o0 + 2) t _ (o0 + 2) i = _
      rw [ev_up_at, ev_up_ne _ _ _ (by omega)]
      by_cases e : i = t
      · rw [if_pos e, if_pos (by omega), q1 _ _ (by omega) (by omega), e]
      · rw [if_neg e, q3 i]
        by_cases e2 : i < t
        · rw [if_pos e2, if_pos (by omega)]
        · rw [if_neg e2, if_neg (by omega)]
theorem c_copy {f o0 o1 : Nat} {m : ev_M} (hf : 9 ≤ f) (hd : o0 + 2 < o1 ∨ o1 + 2 < o0) : ∃ m', FX8_copy f o0 o1 m = some ((), m') ∧ (∀ k, 2 ≤ k → k ≤ 5 → m'.1 o0 k = m.1 o1 k) ∧ (∀ i, i < 8 → m'.1 (o0 + 1) i = m.1 (o1 + 1) i) ∧ (∀ i, i < 8 → m'.1 (o0 + 2) i = m.1 (o1 + 2) i) := by
  unfold FX8_copy
  rw [up_na _ _ _ _ (show o1 ≠ o0 by omega), up_na _ _ _ _ (show o1 ≠ o0 by omega), up_na _ _ _ _ (show o1 ≠ o0 by omega), up_na _ _ _ _ (show o1 ≠ o0 by omega), up_na _ _ _ _ (show o1 ≠ o0 by omega), up_na _ _ _ _ (show o1 ≠ o0 by omega)]
  generalize hM : ((ev_up (ev_up (ev_up (ev_up m.1 o0 2 (m.1 o1 2)) o0 3 (m.1 o1 3)) o0 4 (m.1 o1 4)) o0 5 (m.1 o1 5), m.2) : ev_M) = M
  have g1 : ∀ a k, a ≠ o0 → M.1 a k = m.1 a k := by
    intro a k z
    rw [← hM, upI_na _ _ _ _ z, ev_up_ne _ _ _ z, ev_up_ne _ _ _ z, ev_up_ne _ _ _ z]
  have g2 : ∀ k, 2 ≤ k → k ≤ 5 → M.1 o0 k = m.1 o1 k := by
    intro k k1 k2
    rw [← hM]
    show ev_up _ o0 5 _ o0 k = _
    rw [ev_up_at, ev_up_at, ev_up_at, ev_up_at]
    have cs : k = 2 ∨ k = 3 ∨ k = 4 ∨ k = 5 := by omega
    rcases cs with q | q | q | q <;> subst q <;> rfl
  obtain ⟨m', r1, r2, r3, r4⟩ := @c_copy_L f o0 o1 (fun m1 => some ((), m1)) M hd 8 0 f M (by omega) (by omega) (fun _ _ _ _ => rfl) (fun i => by rw [if_neg (by omega)]) (fun i => by rw [if_neg (by omega)])
  rw [show (0 : Int32) = Int32.ofNat 0 from rfl, r1]
  refine ⟨m', rfl, ?_, ?_, ?_⟩
  · intro k k1 k2; rw [r2 _ _ (by omega) (by omega), g2 k k1 k2]
  · intro i hi; rw [r3 i hi, g1 _ _ (by omega)]
  · intro i hi; rw [r4 i hi, g1 _ _ (by omega)]
def okT (o : Nat) : Prop := o = 25 ∨ o = 30 ∨ o = 34 ∨ o = 106
theorem okT_O {o : Nat} (h : okT o) : okO o := by unfold okT at h; unfold okO; omega
def CX (c : Nat) (K : sp_K) (w : Int32) (k : Nat) (m : ev_M) : Prop := (c = 1 ∨ c = 7) ∧ m.1 0 0 = Int32.ofNat c ∧ m.1 16 2 = Int32.ofNat c ∧ CK m c K ∧ m.1 c 8 = w ∧ m.1 c 9 = Int32.ofNat k ∧ 0 < k ∧ k < 9
theorem CX_fr {c k : Nat} {K : sp_K} {w : Int32} {m m' : ev_M} (h : frP relC m m') (hx : CX c K w k m) : CX c K w k m' := by
  obtain ⟨a1, a2, a3, a4, a5, a6, a7⟩ := hx
  have C : ∀ a k, relC a k → m'.1 a k = m.1 a k := fun a k q => (h a k q).1
  exact ⟨a1, (C _ _ (by unfold relC; omega)).trans a2, (C _ _ (by unfold relC; omega)).trans a3, CK_of a4 (fun k _ => C _ _ (by unfold relC; omega)) (funext fun k => C _ _ (by unfold relC; omega)), (C _ _ (by unfold relC; omega)).trans a5, (C _ _ (by unfold relC; omega)).trans a6, a7⟩
theorem c_trial {f o : Nat} {m0 m : ev_M} {S : sp_S} (hf : 9 ≤ f) (ho : okT o) (hm : frP relC m0 m) (hS : CS m0 103 S) : ∃ m', FX8_copy f o 103 m = some ((), m') ∧ frP relC m0 m' ∧ CS m' o S := by
  have ho' := ho
  unfold okT at ho'
  have C : ∀ a k, relC a k → m.1 a k = m0.1 a k := fun a k q => (hm a k q).1
  obtain ⟨m', r1, r2, r3, r4⟩ := @c_copy f o 103 m hf (by omega)
  refine ⟨m', r1, hm.trans ((MDX8_copy r1).mono (fun a k q => by unfold mdX8_copy; unfold relC at q; omega)), ?_⟩
  refine ⟨?_, ?_, fun t ht => ⟨?_, ?_, ?_⟩⟩
  · rw [r2 2 (by omega) (by omega), C _ _ (by unfold relC; omega)]; exact hS.1
  · rw [r2 3 (by omega) (by omega), C _ _ (by unfold relC; omega)]; exact hS.2.1
  · rw [r3 t ht, C _ _ (by unfold relC; omega)]; exact (hS.2.2 t ht).1
  · rw [r4 t ht, C _ _ (by unfold relC; omega)]; exact (hS.2.2 t ht).2.1
  · rw [r2 4 (by omega) (by omega), C _ _ (by unfold relC; omega)]; exact (hS.2.2 t ht).2.2
theorem c_goT {f o c k : Nat} {K : sp_K} {w sg : Int32} {m0 m : ev_M} {S : sp_S} (hf : 1700 ≤ f) (ho : okT o) (hX : CX c K w k m0) (hm : frP relC m0 m) (hS : CS m o S) (hr : sp_rg S) (hn : S.1.toInt < 999) :
    ∃ m', FX3_go f o sg m = some ((), m') ∧ frP relC m0 m' ∧ CS m' o (sp_go K sg S) ∧ (∀ i, i < K.1 → m'.1 21 i = sp_tns K sg S i) ∧ m'.1 16 3 = Int32.ofNat (msk (dbt w (sp_tns K sg S)) K.1) := by
  have ho' := ho
  unfold okT at ho'
  obtain ⟨a1, a2, a3, a4, a5, a6, a7⟩ := CX_fr hm hX
  obtain ⟨m', r1, r2, r3, r4⟩ := @c_go f o c K m sg w S hf a4 a3 a5 (okT_O ho) hS hr hn
  exact ⟨m', r1, hm.trans ((MDX3_go r1).mono (fun a k q => by unfold mdX3_go; unfold relC at q; omega)), r2, r3, r4⟩
/-- n ROUNDS -/
def gos (K : sp_K) (S : sp_S) : Nat → sp_S
  | 0 => S
  | n + 1 => sp_go K 0 (gos K S n)
theorem gos_rd {K : sp_K} {S : sp_S} (h : sp_rg S) (h9 : S.1.toInt ≤ 999) (hT : K.1 ≤ 8) : ∀ n, n ≤ 900 → sp_rg (gos K S n) ∧ (gos K S n).1.toInt = S.1.toInt + n := by
  intro n
  induction n with
  | zero => intro _; exact ⟨h, by unfold gos; omega⟩
  | succ n ih =>
    intro hn
    obtain ⟨i1, i2⟩ := ih (by omega)
    refine ⟨go_rg hT i1 (by omega), ?_⟩
    show ((gos K S n).1 + 1).toInt = _
    have := h.1
    rw [i_add (by rw [e1']; omega) (by rw [e1']; omega), e1', i2]
    omega
theorem c_aheadL {f c k N : Nat} {K : sp_K} {w : Int32} {m0 : ev_M} {S : sp_S} {kf : ev_M → Option (Unit × ev_M)} (hf : 1700 ≤ f) (hX : CX c K w k m0) (hr : sp_rg S) (h9 : S.1.toInt ≤ 999) (hN : S.1.toInt + N ≤ 999) (hN2 : N ≤ 100) : ∀ (j t n : Nat) (m : ev_M), t + j = N → j < n → frP relC m0 m → CS m 106 (gos K S t) → (0 < t → (∀ i, i < K.1 → m.1 21 i = sp_tns K 0 (gos K S (t - 1)) i) ∧ m.1 16 3 = Int32.ofNat (msk (dbt w (sp_tns K 0 (gos K S (t - 1)))) K.1)) →
    ∃ m', FX11_goAhead_L13 f kf (Int32.ofNat N) n (Int32.ofNat t) m = kf m' ∧ frP relC m0 m' ∧ CS m' 106 (gos K S N) ∧ (0 < N → (∀ i, i < K.1 → m'.1 21 i = sp_tns K 0 (gos K S (N - 1)) i) ∧ m'.1 16 3 = Int32.ofNat (msk (dbt w (sp_tns K 0 (gos K S (N - 1)))) K.1)) := by
  have hT := hX.2.2.2.1.2.1
  intro j
  induction j with
  | zero =>
    intro t n m h1 h2 q1 q2 q3
    obtain ⟨n, rfl⟩ : ∃ z, n = z + 1 := ⟨n - 1, by omega⟩
    have : t = N := by omega
    subst this
    refine ⟨m, ?_, q1, q2, q3⟩
    rw [FX11_goAhead_L13, if_pos ((n_le (by omega) (by omega)).mpr (Nat.le_refl _))]
  | succ j ih =>
    intro t n m h1 h2 q1 q2 q3
    obtain ⟨n, rfl⟩ : ∃ z, n = z + 1 := ⟨n - 1, by omega⟩
    have hg := gos_rd (K := K) hr h9 hT t (by omega)
    obtain ⟨m', r1, r2, r3, r4, r5⟩ := @c_goT f 106 c k K w 0 m0 m (gos K S t) hf (by unfold okT; omega) hX q1 q2 hg.1 (by rw [hg.2]; omega)
    rw [FX11_goAhead_L13, if_neg (fun z => by rw [n_le (by omega) (by omega)] at z; omega), r1, bd_some, s_1]
    exact ih (t + 1) n m' (by omega) (by omega) r2 r3 (fun _ => ⟨r4, r5⟩)
theorem c_ahead {f c k N : Nat} {K : sp_K} {w : Int32} {m : ev_M} {S : sp_S} (hf : 1700 ≤ f) (hX : CX c K w k m) (hS : CS m 103 S) (hr : sp_rg S) (h9 : S.1.toInt ≤ 999) (hN : S.1.toInt + N ≤ 999) (hN2 : N ≤ 100) :
    ∃ m', FX11_goAhead f (Int32.ofNat N) m = some ((), m') ∧ frP relC m m' ∧ CS m' 106 (gos K S N) ∧ (0 < N → (∀ i, i < K.1 → m'.1 21 i = sp_tns K 0 (gos K S (N - 1)) i) ∧ m'.1 16 3 = Int32.ofNat (msk (dbt w (sp_tns K 0 (gos K S (N - 1)))) K.1)) := by
  obtain ⟨m1, r1, r2, r3⟩ := @c_trial f 106 m m S (by omega) (by unfold okT; omega) (frP_refl _ _) hS
  obtain ⟨m', s1, s2⟩ := @c_aheadL f c k N K w m S (fun m5 => some ((), m5)) hf hX hr h9 hN hN2 N 0 f m1 (by omega) (by omega) r2 r3 (fun z => by omega)
  unfold FX11_goAhead
  rw [r1, bd_some, show (0 : Int32) = Int32.ofNat 0 from rfl, s1]
  exact ⟨m', rfl, s2⟩
/-! the reference's trials -/
def fM (m m' : ev_M) : Prop := (∀ a k, relM a k → m'.1 a k = m.1 a k) ∧ (∀ k, m'.2 138 k = m.2 138 k) ∧ m'.2 112 66 = m.2 112 66
theorem fM_refl (m : ev_M) : fM m m := ⟨fun _ _ _ => rfl, fun _ => rfl, rfl⟩
theorem fM_of {m m' : ev_M} (h : frP relM m m') : fM m m' := ⟨fun a k q => (h a k q).1, fun k => (h _ _ (by unfold relM; omega)).2, (h _ _ (by unfold relM; omega)).2⟩
theorem fM.trans {m m' m'' : ev_M} (h : fM m m') (h2 : fM m' m'') : fM m m'' := ⟨fun a k q => (h2.1 a k q).trans (h.1 a k q), fun k => (h2.2.1 k).trans (h.2.1 k), h2.2.2.trans h.2.2⟩
theorem SimW_frM {c : Nat} {tb : Bool} {K : sp_K} {S : sp_S} {kc : Nat} {mc mm mc' mm' : ev_M} (hc : frP relC mc mc') (hm : fM mm mm') (h : SimW c tb K S kc mc mm) : SimW c tb K S kc mc' mm' := by
  have h1 : SimW c tb K S kc mc (mm'.1, mm.2) := by
    have hT := h.2.2.2.2.2.2.1.2.2.2.2.1
    refine SimW_fr (frP_refl _ _) (fun a k q => ⟨hm.1 a k q, rfl⟩) h
  have h2 : SimW c tb K S kc mc (mm'.1, fun a k => if a = 138 ∨ (a = 112 ∧ k = 66) then mm.2 a k else mm'.2 a k) := by
    obtain ⟨a1, a2, a3, a4, a5, a6, a7, a8, a9, a10, a11, a12⟩ := h1
    refine ⟨a1, a2, a3, ?_, a5, a6, ?_, a8, a9, a10, a11, a12⟩
    · exact a4
    · exact CA_fr rfl rfl rfl (fun _ _ _ _ => rfl) rfl rfl (fun _ _ _ _ => rfl) (fun k => by simp) a7
  have e : (fun a k => if a = 138 ∨ (a = 112 ∧ k = 66) then mm.2 a k else mm'.2 a k) = mm'.2 := by
    funext a k
    by_cases z : a = 138 ∨ (a = 112 ∧ k = 66)
    · rw [if_pos z]
      rcases z with z | ⟨z1, z2⟩
      · subst z; exact (hm.2.1 k).symm
      · subst z1; subst z2; exact hm.2.2.symm
    · rw [if_neg z]
  rw [e] at h2
  exact SimW_fr hc (frP_refl _ _) h2
theorem Both_m {α : Type} {oc om : ev_M → Option (α × ev_M)} (h : ∀ c tb K S kc mc mm, SimW c tb K S kc mc mm → ∃ (r : α) (mc' mm' : ev_M), oc mc = some (r, mc') ∧ om mm = some (r, mm') ∧ frP relC mc mc' ∧ fM mm mm') : Both oc om := by
  intro mc mm hS
  obtain ⟨c, tb, K, S, kc, hW⟩ := hS
  obtain ⟨r, mc', mm', e1, e2, f1, f2⟩ := h c tb K S kc mc mm hW
  exact ⟨r, mc', mm', e1, e2, c, tb, K, S, kc, SimW_frM f1 f2 hW⟩
def RX (K : sp_K) (w : Int32) (k q : Nat) (m : ev_M) : Prop := RK m K ∧ m.1 140 3 = w ∧ m.1 140 4 = Int32.ofNat k ∧ 0 < k ∧ k < 9 ∧ m.1 144 26 = Int32.ofNat q ∧ q ≤ 40
def TR (m0 m : ev_M) : Prop := (∀ a k, relM a k ∧ ¬ (a = 144 ∧ k < 26) ∧ ¬ (a = 112 ∧ (k = 53 ∨ k = 54)) → m.1 a k = m0.1 a k) ∧ (∀ k, m.2 138 k = m0.2 138 k) ∧ m.2 112 66 = m0.2 112 66 ∧ (∀ i, i < 26 → m.1 145 i = m0.1 144 i) ∧ m.1 112 54 = 1
theorem RX_TR {K : sp_K} {w : Int32} {k q : Nat} {m0 m : ev_M} (h : TR m0 m) (hx : RX K w k q m0) : RX K w k q m := by
  obtain ⟨a1, a2, a3, a4, a5, a6, a7⟩ := hx
  have M := h.1
  exact ⟨RK_of a1 (M _ _ (by unfold relM; omega)) (fun k => M _ _ (by unfold relM; omega)) (fun k => M _ _ (by unfold relM; omega)) (funext fun k => M _ _ (by unfold relM; omega)), (M _ _ (by unfold relM; omega)).trans a2, (M _ _ (by unfold relM; omega)).trans a3, a4, a5, (M _ _ (by unfold relM; omega)).trans a6, a7⟩
theorem r_goT {f k q : Nat} {K : sp_K} {m0 m : ev_M} {sg w : Int32} {S : sp_S} (hf : 1700 ≤ f) (hX : RX K w k q m0) (hm : TR m0 m) (hS : RS m K.1 S) (hr : sp_rg S) (hsg : m.1 112 53 = sg) :
    ∃ m', FX12_roundGoes f m = some ((), m') ∧ TR m0 m' ∧ RS m' K.1 (sp_go K sg S) ∧ (∀ i, i < K.1 → m'.1 146 i = sp_tns K sg S i) ∧ m'.1 112 53 = 0 ∧ m'.1 112 56 = m.1 112 56 + Int32.ofNat (cnt (dbt w (sp_tns K sg S)) K.1) ∧ m'.1 112 55 = m.1 112 55 + (if rowS (dbt w (sp_tns K sg S)) K.1 k = -1 then 0 else 1) := by
  obtain ⟨a1, a2, a3, a4, a5, a6, a7⟩ := RX_TR hm hX
  obtain ⟨h1, h2, h3, h4, h5⟩ := hm
  obtain ⟨m', r1, r2, r3, r4, r5, r6, r7, r8⟩ := @r_go f k q K m sg w S hf a1 hS hr hsg a2 a3 a5 a6 a7
  have h54 : ¬ m.1 112 54 = 0 := by rw [h5]; decide
  have md := MDX12_roundGoes r1
  refine ⟨m', r1, ⟨?_, ?_, ?_, ?_, ?_⟩, r2, r3, r4, r5, r6⟩
  · intro a i z
    by_cases e : a = 144
    · subst e
      rw [r8 i (by omega), if_neg (fun z => h54 z.1)]
      exact h1 144 i z
    · exact (md a i (by unfold mdX12_roundGoes; unfold relM at z; omega)).1.trans (h1 a i z)
  · intro i; exact (md 138 i (by unfold mdX12_roundGoes; omega)).2.trans (h2 i)
  · exact (md 112 66 (by unfold mdX12_roundGoes; omega)).2.trans h3
  · intro i hi
    rw [(md 145 i (by unfold mdX12_roundGoes; omega)).1]
    exact h4 i hi
  · rw [r7]; exact h5
theorem r_asideL {f : Nat} {kf : ev_M → Option (Unit × ev_M)} {m0 : ev_M} : ∀ (j t n : Nat) (m : ev_M), t + j = 26 → j < n → m.2 = m0.2 → (∀ a, a ≠ 145 → m.1 a = m0.1 a) → (∀ i, i < t → m.1 145 i = m0.1 144 i) → ∃ m', FX12_putsAside_L7 f kf n (Int32.ofNat t) m = kf m' ∧ m'.2 = m0.2 ∧ (∀ a, a ≠ 145 → m'.1 a = m0.1 a) ∧ (∀ i, i < 26 → m'.1 145 i = m0.1 144 i) := by
  have e26 : (26 : Int32) = Int32.ofNat 26 := rfl
  intro j
  induction j with
  | zero =>
    intro t n m h1 h2 q1 q2 q3
    obtain ⟨n, rfl⟩ : ∃ z, n = z + 1 := ⟨n - 1, by omega⟩
    refine ⟨m, ?_, q1, q2, fun i hi => q3 i (by omega)⟩
    rw [FX12_putsAside_L7, if_pos (by rw [e26, n_le (by omega) (by omega)]; omega)]
  | succ j ih =>
    intro t n m h1 h2 q1 q2 q3
    obtain ⟨n, rfl⟩ : ∃ z, n = z + 1 := ⟨n - 1, by omega⟩
    rw [FX12_putsAside_L7, if_neg (by rw [e26, n_le (by omega) (by omega)]; omega), if_pos ((n_in (by omega)).mpr (by omega)), if_pos ((n_in (by omega)).mpr (by omega)), n_nat (by omega), s_1]
    refine ih (t + 1) n _ (by omega) (by omega) q1 (fun a ha => (upI_na _ _ _ _ ha).trans (q2 a ha)) ?_
    intro i hi
    show ev_up m.1 145 t _ 145 i = _
    rw [ev_up_at]
    by_cases e : i = t
    · rw [if_pos e, q2 144 (by decide), e]
    · rw [if_neg e]; exact q3 i (by omega)
theorem r_backL {f : Nat} {kf : ev_M → Option (Unit × ev_M)} {m0 : ev_M} : ∀ (j t n : Nat) (m : ev_M), t + j = 26 → j < n → m.2 = m0.2 → (∀ a, a ≠ 144 → m.1 a = m0.1 a) → (∀ i, m.1 144 i = if i < t then m0.1 145 i else m0.1 144 i) → ∃ m', FX12_triesAnew_L2 f kf n (Int32.ofNat t) m = kf m' ∧ m'.2 = m0.2 ∧ (∀ a, a ≠ 144 → m'.1 a = m0.1 a) ∧ (∀ i, m'.1 144 i = if i < 26 then m0.1 145 i else m0.1 144 i) := by
  have e26 : (26 : Int32) = Int32.ofNat 26 := rfl
  intro j
  induction j with
  | zero =>
    intro t n m h1 h2 q1 q2 q3
    obtain ⟨n, rfl⟩ : ∃ z, n = z + 1 := ⟨n - 1, by omega⟩
    have : t = 26 := by omega
    subst this
    refine ⟨m, ?_, q1, q2, q3⟩
    rw [FX12_triesAnew_L2, if_pos (by rw [e26, n_le (by omega) (by omega)]; omega)]
  | succ j ih =>
    intro t n m h1 h2 q1 q2 q3
    obtain ⟨n, rfl⟩ : ∃ z, n = z + 1 := ⟨n - 1, by omega⟩
    rw [FX12_triesAnew_L2, if_neg (by rw [e26, n_le (by omega) (by omega)]; omega), if_pos ((n_in (by omega)).mpr (by omega)), if_pos ((n_in (by omega)).mpr (by omega)), n_nat (by omega), s_1]
    refine ih (t + 1) n _ (by omega) (by omega) q1 (fun a ha => (upI_na _ _ _ _ ha).trans (q2 a ha)) ?_
    intro i
    show ev_up m.1 144 t _ 144 i = _
    rw [ev_up_at]
    by_cases e : i = t
    · rw [if_pos e, q2 145 (by decide), if_pos (by omega), e]
    · rw [if_neg e, q3 i]
      by_cases e2 : i < t
      · rw [if_pos e2, if_pos (by omega)]
      · rw [if_neg e2, if_neg (by omega)]
theorem up2 (I : Nat → Nat → Int32) (L : Nat → Nat → Int64) (v w : Int32) (a k : Nat) (h : ¬ (a = 112 ∧ (k = 55 ∨ k = 56))) : ((ev_up (ev_up I 112 55 v) 112 56 w, L) : ev_M).1 a k = I a k := by
  show ev_up (ev_up I 112 55 v) 112 56 w a k = _
  by_cases e : a = 112
  · subst e; rw [up_nk _ _ _ (by omega), up_nk _ _ _ (by omega)]
  · rw [up_na _ _ _ _ e, up_na _ _ _ _ e]
/-- it puts its rows aside -/
theorem r_aside {f T : Nat} {m : ev_M} {S : sp_S} (hf : 30 ≤ f) (hS : RS m T S) : ∃ m', FX12_putsAside f m = some ((), m') ∧ TR m m' ∧ RS m' T S ∧ m'.1 112 53 = m.1 112 53 ∧ m'.1 112 55 = 0 ∧ m'.1 112 56 = 0 := by
  unfold FX12_putsAside
  obtain ⟨m1, r1, r2, r3, r4⟩ := @r_asideL f (fun m1 => some ((), ((ev_up (ev_up m1.1 112 55 0) 112 56 0), m1.2))) (ev_up m.1 112 54 1, m.2) 26 0 f (ev_up m.1 112 54 1, m.2) (by omega) (by omega) rfl (fun _ _ => rfl) (fun i hi => by omega)
  rw [show (0 : Int32) = Int32.ofNat 0 from rfl] at r1 ⊢
  rw [r1]
  have g : ∀ a k, a ≠ 145 → ¬ (a = 112 ∧ k = 54) → m1.1 a k = m.1 a k := by
    intro a k z1 z2
    rw [r3 a z1]
    show ev_up m.1 112 54 1 a k = _
    by_cases e : a = 112
    · subst e; rw [up_nk _ _ _ (by omega)]
    · rw [up_na _ _ _ _ e]
  refine ⟨_, rfl, ⟨?_, ?_, ?_, ?_, ?_⟩, ⟨?_, ?_, fun t ht => ⟨?_, ?_, ?_⟩⟩, ?_, ?_, ?_⟩
  · intro a k z
    rw [up2 _ _ _ _ _ _ (by unfold relM at z; omega), g a k (by unfold relM at z; omega) (by omega)]
  · intro k; show m1.2 138 k = _; rw [r2]
  · show m1.2 112 66 = _; rw [r2]
  · intro i hi
    rw [up2 _ _ _ _ _ _ (by omega), r4 i hi, upI_na _ _ _ _ (by decide)]
  · rw [up2 _ _ _ _ _ _ (by omega), r3 112 (by decide)]; exact upI_at _ _ _ _ _
  · rw [up2 _ _ _ _ _ _ (by omega), g _ _ (by omega) (by omega)]; exact hS.1
  · rw [up2 _ _ _ _ _ _ (by omega), g _ _ (by omega) (by omega)]; exact hS.2.1
  · rw [up2 _ _ _ _ _ _ (by omega), g _ _ (by omega) (by omega)]; exact (hS.2.2 t ht).1
  · rw [up2 _ _ _ _ _ _ (by omega), g _ _ (by omega) (by omega)]; exact (hS.2.2 t ht).2.1
  · rw [up2 _ _ _ _ _ _ (by omega), g _ _ (by omega) (by omega)]; exact (hS.2.2 t ht).2.2
  · rw [up2 _ _ _ _ _ _ (by omega), g _ _ (by omega) (by omega)]
  · rw [upI_nk _ _ _ _ (by decide), up_at]
  · exact upI_at _ _ _ _ _
/-- it tries anew -/
theorem r_anew {f T : Nat} {m0 m : ev_M} {S : sp_S} (hf : 30 ≤ f) (hT : T ≤ 8) (hm : TR m0 m) (hS : RS m0 T S) : ∃ m', FX12_triesAnew f m = some ((), m') ∧ TR m0 m' ∧ RS m' T S ∧ m'.1 112 53 = m.1 112 53 ∧ m'.1 112 55 = 0 ∧ m'.1 112 56 = 0 ∧ m'.1 146 = m.1 146 ∧ (∀ i, i < 26 → m'.1 144 i = m0.1 144 i) := by
  unfold FX12_triesAnew
  obtain ⟨h1, h2, h3, h4, h5⟩ := hm
  obtain ⟨m1, r1, r2, r3, r4⟩ := @r_backL f (fun m1 => some ((), ((ev_up (ev_up m1.1 112 55 0) 112 56 0), m1.2))) m 26 0 f m (by omega) (by omega) rfl (fun _ _ => rfl) (fun i => by rw [if_neg (by omega)])
  rw [show (0 : Int32) = Int32.ofNat 0 from rfl] at r1 ⊢
  rw [r1]
  have g26 : ∀ i, i < 26 → m1.1 144 i = m0.1 144 i := fun i hi => by rw [r4, if_pos hi]; exact h4 i hi
  refine ⟨_, rfl, ⟨?_, ?_, ?_, ?_, ?_⟩, ⟨?_, ?_, fun t ht => ⟨?_, ?_, ?_⟩⟩, ?_, ?_, ?_, ?_, ?_⟩
  · intro a k z
    rw [up2 _ _ _ _ _ _ (by unfold relM at z; omega)]
    by_cases e : a = 144
    · subst e; rw [r4, if_neg (by omega)]; exact h1 _ _ z
    · rw [r3 a e]; exact h1 _ _ z
  · intro k; show m1.2 138 k = _; rw [r2]; exact h2 k
  · show m1.2 112 66 = _; rw [r2]; exact h3
  · intro i hi
    rw [up2 _ _ _ _ _ _ (by omega), r3 _ (by decide)]; exact h4 i hi
  · rw [up2 _ _ _ _ _ _ (by omega), r3 _ (by decide)]; exact h5
  · rw [up2 _ _ _ _ _ _ (by omega), g26 _ (by omega)]; exact hS.1
  · rw [up2 _ _ _ _ _ _ (by omega), g26 _ (by omega)]; exact hS.2.1
  · rw [up2 _ _ _ _ _ _ (by omega), g26 _ (by omega)]; exact (hS.2.2 t ht).1
  · rw [up2 _ _ _ _ _ _ (by omega), g26 _ (by omega)]; exact (hS.2.2 t ht).2.1
  · rw [up2 _ _ _ _ _ _ (by omega), g26 _ (by omega)]; exact (hS.2.2 t ht).2.2
  · rw [up2 _ _ _ _ _ _ (by omega), r3 _ (by decide)]
  · rw [upI_nk _ _ _ _ (by decide), up_at]
  · exact upI_at _ _ _ _ _
  · funext i; rw [up2 _ _ _ _ _ _ (by omega), r3 _ (by decide)]
  · intro i hi; rw [up2 _ _ _ _ _ _ (by omega)]; exact g26 i hi
/-- it takes its rows back -/
theorem r_back {f T : Nat} {m0 m : ev_M} {S : sp_S} (hf : 30 ≤ f) (hT : T ≤ 8) (hm : TR m0 m) (hS : RS m0 T S) (h53 : m.1 112 53 = m0.1 112 53) (h54 : m0.1 112 54 = 0) : ∃ m', FX12_takesBack f m = some ((), m') ∧ fM m0 m' ∧ m'.1 146 = m.1 146 := by
  obtain ⟨m1, r1, r2, r3, r4, r5, r6, r7, r8⟩ := @r_anew f T m0 m S hf hT hm hS
  unfold FX12_takesBack
  rw [r1, bd_some]
  obtain ⟨h1, h2, h3, h4, h5⟩ := r2
  refine ⟨_, rfl, ⟨?_, h2, h3⟩, ?_⟩
  · intro a k z
    show ev_up m1.1 112 54 0 a k = _
    by_cases e : a = 112
    · subst e
      by_cases e2 : k = 54
      · subst e2; rw [up_at, h54]
      · rw [up_nk _ _ _ e2]
        by_cases e3 : k = 53
        · subst e3; rw [r4, h53]
        · exact h1 _ _ ⟨z, by omega, by omega⟩
    · rw [up_na _ _ _ _ e]
      by_cases e2 : a = 144 ∧ k < 26
      · rw [e2.1]; exact r8 k e2.2
      · exact h1 _ _ ⟨z, e2, by omega⟩
  · rw [upI_na _ _ _ _ (by decide), r7]
theorem r_goesL {f k q N : Nat} {K : sp_K} {w : Int32} {m0 : ev_M} {S : sp_S} {kf : ev_M → Option (Unit × ev_M)} (hf : 1700 ≤ f) (hX : RX K w k q m0) (hr : sp_rg S) (h9 : S.1.toInt ≤ 999) (hN2 : N ≤ 100) : ∀ (j t n : Nat) (m : ev_M), t + j = N → j < n → TR m0 m → RS m K.1 (gos K S t) → m.1 112 53 = 0 → (0 < t → ∀ i, i < K.1 → m.1 146 i = sp_tns K 0 (gos K S (t - 1)) i) →
    ∃ m', FX12_roundsGo_L2 f kf (Int32.ofNat N) n (Int32.ofNat t) m = kf m' ∧ TR m0 m' ∧ RS m' K.1 (gos K S N) ∧ m'.1 112 53 = 0 ∧ (0 < N → ∀ i, i < K.1 → m'.1 146 i = sp_tns K 0 (gos K S (N - 1)) i) := by
  have hT := hX.1.1
  intro j
  induction j with
  | zero =>
    intro t n m h1 h2 q1 q2 q3 q4
    obtain ⟨n, rfl⟩ : ∃ z, n = z + 1 := ⟨n - 1, by omega⟩
    have : t = N := by omega
    subst this
    refine ⟨m, ?_, q1, q2, q3, q4⟩
    rw [FX12_roundsGo_L2, if_pos ((n_le (by omega) (by omega)).mpr (Nat.le_refl _))]
  | succ j ih =>
    intro t n m h1 h2 q1 q2 q3 q4
    obtain ⟨n, rfl⟩ : ∃ z, n = z + 1 := ⟨n - 1, by omega⟩
    have hg := gos_rd (K := K) hr h9 hT t (by omega)
    obtain ⟨m', r1, r2, r3, r4, r5, r6, r7⟩ := @r_goT f k q K m0 m 0 w (gos K S t) hf hX q1 q2 hg.1 q3
    rw [FX12_roundsGo_L2, if_neg (fun z => by rw [n_le (by omega) (by omega)] at z; omega), r1, bd_some, s_1]
    exact ih (t + 1) n m' (by omega) (by omega) r2 r3 r5 (fun _ => r4)
theorem SimW_X {c : Nat} {K : sp_K} {S : sp_S} {kc : Nat} {mc mm : ev_M} (h : SimW c true K S kc mc mm) : ∃ w k q, CX c K w k mc ∧ RX K w k q mm := by
  obtain ⟨a1, a2, a3, a4, a5, a6, a7, a8, a9, a10, a11, a12⟩ := h
  obtain ⟨k1, k2, k3, k4, k5, k6, k7, k8, ⟨k, k9, k10, k11, k12⟩, k13, k14, k15⟩ := a7
  rcases k14 with ⟨b1, b2, b3, b4, b5⟩ | ⟨b1, b2, b3, b4⟩
  · exact ⟨mc.1 c 8, k, min 40 kc, ⟨k1, k2, k4, b4, rfl, k11, k9, k10⟩, ⟨b5, k8.symm, k12, k9, k10, a9.2.2.1, by omega⟩⟩
  · exact absurd b1 (by decide)
