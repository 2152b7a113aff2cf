/-! a QUESTION, on both -/
section
variable {f E : Nat} {β : Nat → Int32}
theorem r_J109F {m : ev_M} {y : Yr} {a : Int32} (hf : 4000 ≤ f) (hb : ∀ i, i < E → ¬ β i = -1) (h : QTo β E m y) : ∃ m', FX12_ask_J109 f a m = FX12_ask_J133 f a m' ∧ QTo β E m' (yEnd β E y) ∧ frP relM m m' := by
  unfold FX12_ask_J109
  cases y with
  | inl e =>
    have h' : RB m e := h
    rw [if_neg (yr_bad h')]
    refine ⟨m, rfl, ?_, frP_refl _ _⟩
    have : yEnd β E (.inl e) = .inl e := if_neg (show ¬ (4 : Nat) = 0 by decide)
    rw [this]; exact h
  | inr x =>
    have h' : QT β E m x [] 0 := h
    obtain ⟨m1, r1, r2, r3, r4⟩ := r_look hf h'.1.1
    have h1 : QT β E m1 x [] 0 := QT_mv h' r3 (fun a k q => r4.2 a k (by omega)) rfl (Nat.le_refl _)
    have h5 : m.1 112 5 = 0 := h'.1.1.2.2.1
    have f1 : frP relM m m1 := fun a k q => ⟨r4.2 a k (by unfold relM at q; omega), by rw [r4.1]⟩
    rw [if_pos h5, r1, bd_some]
    unfold yEnd
    by_cases z : yK β E (.inr x) = 0
    · rw [if_pos ((yK_lk hb).mpr z), if_pos z]
      exact ⟨m1, rfl, h1, f1⟩
    · rw [if_neg (fun q => z ((yK_lk hb).mp q)), if_neg z]
      obtain ⟨m2, e1, e2⟩ := @yt_fail f E β m1 (.inr x) 1 r3 (fun x' e => by cases e; exact r2) (by omega) (by omega)
      have e1' : FX12_fail f 1 (m1.1 112 2) m1 = some ((), m2) := e1
      rw [e1', bd_some]
      exact ⟨m2, rfl, e2, f1.trans ((MDX12_fail e1').mono (fun a k q => by unfold mdX12_fail; unfold relM at q; omega))⟩
theorem r_readF {m : ev_M} (hf : 4000 ≤ f) (hb : ∀ i, i < E → ¬ β i = -1) (h45 : ¬ m.1 112 45 = 0) (h : QT β E (askM m) (0, false, []) [] 0) : ∃ a m', FX12_ask f m = FX12_ask_J133 f a m' ∧ QTo β E m' (yAsk β E) ∧ frP relM (askM m) m' ∧ ((yAsk β E).isRight = true → ∃ w, yI β E y0 = some w ∧ 23 ≤ w ∧ w ≤ 28 ∧ a = Int32.ofNat (w - 23)) := by
  unfold FX12_ask
  rw [if_neg h45]
  have hk := t_kind hf h
  have fK : ∀ {r : Int32} {m1 : ev_M}, FX12_qKind f (askM m) = some (r, m1) → frP relM (askM m) m1 := fun e => (MDX12_qKind e).mono (fun a k q => by unfold mdX12_qKind; unfold relM at q; omega)
  have fS : ∀ {m1 m2 : ev_M}, FX12_qSums f m1 = some ((), m2) → frP relM m1 m2 := fun e => (MDX12_qSums e).mono (fun a k q => by unfold mdX12_qSums; unfold relM at q; omega)
  have fT : ∀ {m1 m2 : ev_M}, FX12_qTest f m1 = some ((), m2) → frP relM m1 m2 := fun e => (MDX12_qTest e).mono (fun a k q => by unfold mdX12_qTest; unfold relM at q; omega)
  rcases hk with ⟨w, m1, w1, w2, w3, w4, w5⟩ | ⟨nw, m1, w4, w5⟩
  · have w4' : FX12_qKind f (askM m) = some (Int32.ofNat (w - 23), m1) := w4
    have hI : yI β E y0 = some w := w3
    have h5 : m1.1 112 5 = 0 := w5.1.1.2.2.1
    show ∃ a m', ev_bd (FX12_qKind f (askM m)) _ = _ ∧ _
    rw [w4', bd_some, if_pos h5]
    have A0 : yAsk β E = if 23 ≤ w ∧ w ≤ 25 then yEnd β E (TQ β E 64 0 0 (yad β E y0)) else if 26 ≤ w ∧ w ≤ 28 then yEnd β E (PA β E 2 64 0 0 0 (yad β E y0)) else yfail β E 1 y0 := by unfold yAsk; rw [hI]
    by_cases z : 26 ≤ w
    · have A : yAsk β E = yEnd β E (PA β E 2 64 0 0 0 (.inr (tkB β E 0, tkW β E 0 false, []))) := by rw [A0, if_neg (by omega), if_pos (by omega)]; rfl
      rw [if_pos (show (3 : Int32) ≤ Int32.ofNat (w - 23) from (n_le (a := 3) (by omega) (by omega)).mpr (by omega))]
      unfold FX12_ask_J98
      rw [if_pos h5, A]
      obtain ⟨s1, s2⟩ := t_sums hf w5
      cases hc : PA β E 2 64 0 0 0 (.inr (tkB β E 0, tkW β E 0 false, [])) with
      | inl e =>
        obtain ⟨m2, q1, q2, _⟩ := s2 e hc
        rw [q1, bd_some]
        obtain ⟨m3, q3, q4, q5⟩ := @r_J109F f E β m2 (.inl e) (Int32.ofNat (w - 23)) hf hb q2
        exact ⟨_, m3, q3, q4, ((fK w4').trans (fS q1)).trans q5, fun _ => ⟨w, hI, w1, w2, rfl⟩⟩
      | inr x' =>
        obtain ⟨m2, q1, q2⟩ := s1 x' hc
        rw [q1, bd_some]
        obtain ⟨m3, q3, q4, q5⟩ := @r_J109F f E β m2 (.inr x') (Int32.ofNat (w - 23)) hf hb q2
        exact ⟨_, m3, q3, q4, ((fK w4').trans (fS q1)).trans q5, fun _ => ⟨w, hI, w1, w2, rfl⟩⟩
    · have A : yAsk β E = yEnd β E (TQ β E 64 0 0 (.inr (tkB β E 0, tkW β E 0 false, []))) := by rw [A0, if_pos (by omega)]; rfl
      rw [if_neg (show ¬ (3 : Int32) ≤ Int32.ofNat (w - 23) from fun q => by have := (n_le (a := 3) (by omega) (by omega)).mp q; omega), A]
      obtain ⟨s1, s2⟩ := t_test hf w5
      cases hc : TQ β E 64 0 0 (.inr (tkB β E 0, tkW β E 0 false, [])) with
      | inl e =>
        obtain ⟨m2, q1, q2⟩ := s2 e hc
        rw [q1, bd_some]
        obtain ⟨m3, q3, q4, q5⟩ := @r_J109F f E β m2 (.inl e) (Int32.ofNat (w - 23)) hf hb q2
        exact ⟨_, m3, q3, q4, ((fK w4').trans (fT q1)).trans q5, fun _ => ⟨w, hI, w1, w2, rfl⟩⟩
      | inr x' =>
        obtain ⟨m2, q1, q2⟩ := s1 x' hc
        rw [q1, bd_some]
        obtain ⟨m3, q3, q4, q5⟩ := @r_J109F f E β m2 (.inr x') (Int32.ofNat (w - 23)) hf hb q2
        exact ⟨_, m3, q3, q4, ((fK w4').trans (fT q1)).trans q5, fun _ => ⟨w, hI, w1, w2, rfl⟩⟩
  · have w4' : FX12_qKind f (askM m) = some (5, m1) := w4
    have A : yAsk β E = yfail β E 1 y0 := by
      unfold yAsk
      cases hI : yI β E y0 with
      | none => rfl
      | some w =>
        have := nw w hI
        show (if _ then _ else _) = _
        rw [if_neg (by omega), if_neg (by omega)]
    show ∃ a m', ev_bd (FX12_qKind f (askM m)) _ = _ ∧ _
    rw [w4', bd_some, if_neg (yr_bad w5), A]
    unfold FX12_ask_J98
    rw [if_neg (yr_bad w5)]
    obtain ⟨m3, q3, q4, q5⟩ := @r_J109F f E β m1 (.inl (1, sk β E 0)) 5 hf hb w5
    have ey : yEnd β E (.inl (1, sk β E 0)) = yfail β E 1 y0 := if_neg (show ¬ (4 : Nat) = 0 by decide)
    rw [ey] at q4
    exact ⟨5, m3, q3, q4, (fK w4').trans q5, fun q => by cases q⟩
theorem yEnd_r {y : Yr} {x : Nat × Bool × List Nat} (h : yEnd β E y = .inr x) : y = .inr x := by
  unfold yEnd at h
  split at h
  · exact h
  · cases y <;> cases h
theorem ask_good {x : Nat × Bool × List Nat} (h : yAsk β E = .inr x) : ∃ w b, yI β E y0 = some w ∧ 23 ≤ w ∧ w ≤ 28 ∧ good kQ b x.2.2 ∧ (w ≤ 25 → b = true) := by
  unfold yAsk at h
  have hk : ∀ q, q < 10 → okq 2 q = true → kQ q = true := fun q _ hq => hq
  cases hI : yI β E y0 with
  | none => rw [hI] at h; cases h
  | some w =>
    rw [hI] at h
    have h' : (if 23 ≤ w ∧ w ≤ 25 then yEnd β E (TQ β E 64 0 0 (yad β E y0)) else if 26 ≤ w ∧ w ≤ 28 then yEnd β E (PA β E 2 64 0 0 0 (yad β E y0)) else yfail β E 1 y0) = .inr x := h
    by_cases z : 23 ≤ w ∧ w ≤ 25
    · rw [if_pos z] at h'
      exact ⟨w, true, rfl, by omega, by omega, test_good (x := (tkB β E 0, tkW β E 0 false, [])) hk rfl rfl rfl (yEnd_r h'), fun _ => rfl⟩
    · rw [if_neg z] at h'
      by_cases z2 : 26 ≤ w ∧ w ≤ 28
      · rw [if_pos z2] at h'
        exact ⟨w, false, rfl, by omega, by omega, sum_good (x := (tkB β E 0, tkW β E 0 false, [])) hk (fun _ => rfl) rfl (yEnd_r h'), fun q => by omega⟩
      · rw [if_neg z2] at h'; cases h'
end
theorem frP_II {P : Nat → Nat → Prop} {m0 m : ev_M} {a k : Nat} {v : Int32} (h : frP P m0 m) : frP P (ev_up m0.1 a k v, m0.2) (ev_up m.1 a k v, m.2) := by
  intro i j hp
  refine ⟨?_, (h i j hp).2⟩
  show ev_up m.1 a k v i j = ev_up m0.1 a k v i j
  by_cases e : i = a
  · subst e
    rw [ev_up_at, ev_up_at]
    split
    · rfl
    · exact (h i j hp).1
  · rw [ev_up_ne _ _ _ e, ev_up_ne _ _ _ e]; exact (h i j hp).1
/-- the fault of what was read is told -/
theorem SimW_flt {c : Nat} {tb : Bool} {K : sp_K} {S : sp_S} {kc : Nat} {mc mm : ev_M} (u v : Int32) (h : SimW c tb K S kc mc mm) : SimW c tb K S kc (ev_up (ev_up mc.1 0 15 u) 0 16 v, mc.2) (ev_up (ev_up mm.1 112 7 u) 112 8 v, mm.2) := by
  have C : ∀ a k, ¬ (a = 0 ∧ (k = 15 ∨ k = 16)) → ((ev_up (ev_up mc.1 0 15 u) 0 16 v, mc.2) : ev_M).1 a k = mc.1 a k := fun a k q => by
    show ev_up (ev_up mc.1 0 15 u) 0 16 v a k = _
    by_cases e : a = 0
    · subst e; rw [up_nk _ _ _ (by omega), up_nk _ _ _ (by omega)]
    · rw [up_na _ _ _ _ e, up_na _ _ _ _ e]
  have M : ∀ a k, ¬ (a = 112 ∧ (k = 7 ∨ k = 8)) → ((ev_up (ev_up mm.1 112 7 u) 112 8 v, mm.2) : ev_M).1 a k = mm.1 a k := fun a k q => by
    show ev_up (ev_up mm.1 112 7 u) 112 8 v a k = _
    by_cases e : a = 112
    · subst e; rw [up_nk _ _ _ (by omega), up_nk _ _ _ (by omega)]
    · rw [up_na _ _ _ _ e, up_na _ _ _ _ e]
  obtain ⟨a1, a2, a3, a4, a5, a6, a7, a8, a9, a10, a11, a12⟩ := h
  have hT := a7.2.2.2.2.1
  refine ⟨TP_fr (C _ _ (by omega)) (fun i => C _ _ (by omega)) (M _ _ (by omega)) (fun i => M _ _ (by omega)) a1, fun i hi => by rw [C _ _ (by omega), M _ _ (by omega)]; exact a2 i hi, ?_, a4, PC_fr (C _ _ (by omega)) (fun i => C _ _ (by omega)) (M _ _ (by omega)) (fun i => M _ _ (by omega)) a5, SE_fr (C _ _ (by omega)) (fun i => C _ _ (by omega)) (M _ _ (by omega)) (fun i => M _ _ (by omega)) a6, CA_fr (C _ _ (by omega)) (C _ _ (by omega)) (C _ _ (by omega)) (fun a k _ _ => C _ _ (by omega)) (M _ _ (by omega)) (M _ _ (by omega)) (fun a k _ _ => M _ _ (by omega)) (fun k => rfl) a7, ST_fr hT (fun k => C _ _ (by omega)) (fun k => C _ _ (by omega)) (fun k => C _ _ (by omega)) (fun k _ => M _ _ (by omega)) a8, KP_fr (C _ _ (by omega)) (fun k _ => C _ _ (by omega)) (fun k _ _ => M _ _ (by omega)) a9, UN_fr hT (C _ _ (by omega)) (C _ _ (by omega)) (fun k _ => C _ _ (by omega)) (fun a k _ _ => C _ _ (by omega)) (M _ _ (by omega)) (M _ _ (by omega)) (fun k => M _ _ (by omega)) a10, by rw [M _ _ (by omega)]; exact a11, by rw [M _ _ (by omega)]; exact a12⟩
  refine ⟨?_, ?_⟩
  · rw [upI_nk _ _ _ _ (by decide), up_at, upI_nk _ _ _ _ (by decide), up_at]
  · rw [upI_at, upI_at]
theorem up_comm {α : Type} (g : Nat → Nat → α) (a : Nat) {i j : Nat} {u v : α} (_ : True) (h : i ≠ j) : ev_up (ev_up g a i u) a j v = ev_up (ev_up g a j v) a i u := by
  funext p q
  by_cases e : p = a
  · subst e
    rw [ev_up_at, ev_up_at, ev_up_at, ev_up_at]
    by_cases e1 : q = j
    · rw [if_pos e1, if_neg (by omega), if_pos e1]
    · rw [if_neg e1, if_neg e1]
  · rw [ev_up_ne _ _ _ e, ev_up_ne _ _ _ e, ev_up_ne _ _ _ e, ev_up_ne _ _ _ e]
theorem m1_byte {x : Int32} (h : 0 ≤ x.toInt) : ¬ x = -1 := fun q => by
  rw [q] at h
  revert h
  decide
set_option maxHeartbeats 4000000 in
theorem B_ask (f : Nat) (hf : 4000 ≤ f) (mc mm : ev_M) (hS : Sim mc mm) (hW : WA mm) : ∃ (r : Int64) (mc' mm' : ev_M), FX11_ask f mc = some (r, mc') ∧ FX12_ask f mm = some (r, mm') ∧ Sim mc' mm' := by
  obtain ⟨c, tb, K, S, kc, h⟩ := hS
  cases tb
  · have hF := SimW_F h
    have h0 := SimW_len h (n := 0) (by omega)
    unfold FX11_ask FX12_ask
    rw [c_t0 h.2.2.2.2.2.2.1, bd_some, if_pos rfl, if_pos hF.2]
    exact ⟨_, _, _, rfl, rfl, c, false, K, S, kc, h0⟩
  obtain ⟨_, _, _, _, _, _, _, _, _, _, _, h45⟩ := SimW_T h
  obtain ⟨L, t1, t2, t3, t4⟩ := h.1
  have hB : TB0 (mm.1 113) L mc := ⟨t1, t2, fun i hi => (t4 i hi).1⟩
  have hb : ∀ i, i < L → ¬ (mm.1 113) i = -1 := fun i hi => m1_byte (by have := (t4 i (by omega)); rw [← this.1]; exact this.2.1)
  obtain ⟨m4, c1, c2, c3⟩ := c_read hf hB
  obtain ⟨a, m', r1, r2, r3, r4⟩ := r_readF hf hb (by rw [h45]; exact n10) (ask_QT t1 t3 (fun i _ => rfl) hW)
  have fc : frP relC mc m4 := FTX7_read (P := relC) f (by unfold relC; omega) (by unfold relC; omega) (by unfold relC; omega) (by unfold relC; omega) (by unfold relC; omega) (by unfold relC; omega) (by unfold relC; omega) (by unfold relC; omega) (by unfold relC; omega) (by unfold relC; omega) (by unfold relC; omega) (by unfold relC; omega) (fun k => by unfold relC; omega) (frP_refl _ _) _ _ c1
  have fm : frP relM (ev_up mm.1 112 1 0, mm.2) m' := by
    have ea : ∀ a k, relM a k → (askM mm).1 a k = ((ev_up mm.1 112 1 0, mm.2) : ev_M).1 a k := by
      intro a k q
      by_cases e : a = 112
      · subst e
        unfold askM
        by_cases e1 : k = 1
        · subst e1
          rw [upI_nk _ _ _ _ (by decide), up_nk _ _ _ (by decide), up_nk _ _ _ (by decide), up_nk _ _ _ (by decide), up_nk _ _ _ (by decide), up_nk _ _ _ (by decide), up_nk _ _ _ (by decide), up_nk _ _ _ (by decide), up_nk _ _ _ (by decide), up_at, upI_at]
        · unfold relM at q
          rw [upI_nk _ _ _ _ (by omega), up_nk _ _ _ (by omega), up_nk _ _ _ (by omega), up_nk _ _ _ (by omega), up_nk _ _ _ (by omega), up_nk _ _ _ (by omega), up_nk _ _ _ (by omega), up_nk _ _ _ (by omega), up_nk _ _ _ (by omega), up_nk _ _ _ (by omega), up_nk _ _ _ (by omega), upI_nk _ _ _ _ e1]
      · rw [ask_fr e, upI_na _ _ _ _ e]
    exact fun a k q => ⟨((r3 a k q).1).trans (ea a k q), (r3 a k q).2⟩
  unfold FX11_ask
  rw [c_t1 h.2.2.2.2.2.2.1, bd_some, if_neg n10, c1, bd_some]
  unfold FX11_noteFault
  rw [bd_some, r1]
  unfold FX12_ask_J133
  cases hy : yAsk (mm.1 113) L with
  | inl e =>
    rw [hy] at c2 r2
    have hcb : CB m4 e := c2.1
    have hrb : RB m' e := r2
    rw [show (Sum.inl e : Yr).isRight = false from rfl, if_neg (show ¬ false = true by decide), if_pos rfl, if_neg (yr_bad hrb)]
    have ev : m4.1 13 3 = m'.1 112 5 ∧ m4.1 13 4 = m'.1 112 6 := ⟨hcb.2.2.2.1.trans hrb.2.2.2.1.symm, hcb.2.2.2.2.1.trans hrb.2.2.2.2.symm⟩
    rw [ev.1, ev.2]
    have hA := SimW_len (SimW_flt (m'.1 112 5) (m'.1 112 6) h) (n := 0) (by omega)
    refine ⟨_, _, _, rfl, rfl, c, true, K, S, kc, SimW_fr (frP_II (frP_II (frP_II fc))) ?_ hA⟩
    have g := frP_II (a := 112) (k := 8) (v := m'.1 112 6) (frP_II (a := 112) (k := 7) (v := m'.1 112 5) fm)
    have e1 : (ev_up (ev_up (ev_up mm.1 112 7 (m'.1 112 5)) 112 8 (m'.1 112 6)) 112 1 (Int32.ofNat 0)) = (ev_up (ev_up (ev_up mm.1 112 1 0) 112 7 (m'.1 112 5)) 112 8 (m'.1 112 6)) := by
      rw [up_comm (i := 8) (j := 1) _ _ trivial (by decide), up_comm (i := 7) (j := 1) _ _ trivial (by decide)]
      rfl
    rw [e1]
    exact g
  | inr x =>
    rw [hy] at c2 r2 r4
    obtain ⟨w, b, g1, g2, g3, g4, g5'⟩ := ask_good hy
    obtain ⟨w', v1, v2, v3, v4⟩ := r4 rfl
    have ew : w' = w := by rw [v1] at g1; exact Option.some.inj g1
    subst ew
    have hq : QT (mm.1 113) L m' x [] 0 := r2
    obtain ⟨d1, d2, d3, d4, d5⟩ := c2
    obtain ⟨d6, d7, d8, d9, d10⟩ := d5 x rfl
    have hct : CT (mm.1 113) L m4 x.1 x.2.1 := d1
    have hx : x.1 ≤ L := hct.2.1
    have hm5 : m'.1 112 5 = 0 := hq.1.1.2.2.1
    have hm6 : m'.1 112 6 = -1 := hq.1.1.2.2.2.1
    rw [show (Sum.inr x : Yr).isRight = true from rfl, if_pos rfl, if_neg n10, if_pos hm5, hct.2.2.1, hct.2.2.2.1, hm5, hm6]
    have hA := SimW_len (SimW_flt 0 (-1) h) (n := 0) (by omega)
    have fc2 : frP relC (ev_up (ev_up (ev_up mc.1 0 15 0) 0 16 (-1)) 13 1 (Int32.ofNat 0), mc.2) (ev_up (ev_up (ev_up m4.1 0 15 0) 0 16 (-1)) 13 1 0, m4.2) := frP_II (frP_II (frP_II fc))
    have hA1 := SimW_fr fc2 (frP_refl _ _) hA
    obtain ⟨wl, k0, q0, x1, x2, x3, x4, x5, x6, x7, x8, x9⟩ := SimW_T hA1
    generalize hM : ((ev_up (ev_up (ev_up m4.1 0 15 0) 0 16 (-1)) 13 1 0, m4.2) : ev_M) = M at x1 x3 fc2 hA1
    have gM : ∀ a k, a ≠ 0 → a ≠ 13 → M.1 a k = m4.1 a k := fun a k z1 z2 => by
      rw [← hM, upI_na _ _ _ _ z2, up_na _ _ _ _ z1, up_na _ _ _ _ z1]
    obtain ⟨mc8, u1, u2⟩ := @q_answer f c k0 w' K wl b x.2.2 M S (by omega) x1 x3 x5 x6 g4 (by omega) (cells_fr _ _ (fun i _ _ => gM _ _ (by decide) (by decide)) d8) (by rw [gM _ _ (by decide) (by decide), d7, Nat.zero_add]) (by rw [gM _ _ (by decide) (by decide), c3, v1]; rfl) ⟨v2, v3⟩ (by rw [gM _ _ (by decide) (by decide)]; exact d10)
    rw [show FX7_answer f 103 M = some (anL w' (vqC K S x.2.2) (if w' ≤ 24 then -1 else 0) K.1, mc8) from u1, bd_some]
    have go : ∀ s1 : Int64, s1 = (if w' ≤ 24 then -1 else 0) → ∃ mm', FX12_ask_J173 f a s1 ((ev_up (ev_up m'.1 112 7 0) 112 8 (-1)), m'.2) = some (anL w' (vqC K S x.2.2) (if w' ≤ 24 then -1 else 0) K.1, mm') ∧ fM (ev_up (ev_up (ev_up mm.1 112 7 0) 112 8 (-1)) 112 1 (Int32.ofNat 0), mm.2) mm' := by
      intro s1 hs1
      unfold FX12_ask_J173
      have e1 : (ev_up (ev_up (ev_up mm.1 112 7 0) 112 8 (-1)) 112 1 (Int32.ofNat 0)) = (ev_up (ev_up (ev_up mm.1 112 1 0) 112 7 0) 112 8 (-1)) := by
        rw [up_comm (i := 8) (j := 1) _ _ trivial (by decide), up_comm (i := 7) (j := 1) _ _ trivial (by decide)]
        rfl
      have g0 : frP relM (ev_up (ev_up (ev_up mm.1 112 7 0) 112 8 (-1)) 112 1 (Int32.ofNat 0), mm.2) (ev_up (ev_up m'.1 112 7 0) 112 8 (-1), m'.2) := by
        rw [e1]
        exact frP_II (a := 112) (k := 8) (v := (-1 : Int32)) (frP_II (a := 112) (k := 7) (v := (0 : Int32)) fm)
      have g1 : frP relM (ev_up (ev_up (ev_up mm.1 112 7 0) 112 8 (-1)) 112 1 (Int32.ofNat 0), mm.2) (ev_up (ev_up (ev_up m'.1 112 7 0) 112 8 (-1)) 112 101 1, ev_up m'.2 112 100 s1) := frP_I (by unfold relM; omega) (frP_L (by unfold relM; omega) g0)
      have hA2 := SimW_fr (frP_refl _ _) g1 hA1
      obtain ⟨wl', k0', q0', y1, y2, y3, y4, y5, y6, y7, y8, y9⟩ := SimW_T hA2
      generalize hN : ((ev_up (ev_up (ev_up m'.1 112 7 0) 112 8 (-1)) 112 101 1, ev_up m'.2 112 100 s1) : ev_M) = N at y2 y4 y7 y8 g1
      obtain ⟨m5, z1, z2, z3⟩ := @l_lays f k0' q0' K wl' N S (by omega) y2 y4 y5 y6 y7 y8
      have md := MDX12_laysTones z1
      have gN : ∀ a k, ¬ (a = 112 ∧ (k = 7 ∨ k = 8 ∨ k = 101)) → N.1 a k = m'.1 a k := fun a k z => by
        rw [← hN]
        by_cases e : a = 112
        · subst e; rw [upI_nk _ _ _ _ (by omega), up_nk _ _ _ (by omega), up_nk _ _ _ (by omega)]
        · rw [upI_na _ _ _ _ e, up_na _ _ _ _ e, up_na _ _ _ _ e]
      have g5 : ∀ a k, ¬ (a = 112 ∧ k = 46) → ((ev_up m5.1 112 46 2, m5.2) : ev_M).1 a k = m5.1 a k := fun a k z => by
        by_cases e : a = 112
        · subst e; rw [upI_nk _ _ _ _ (by omega)]
        · rw [upI_na _ _ _ _ e]
      have hQS : QS K S x.2.2 (ev_up m5.1 112 46 2, m5.2) := by
        refine ⟨upI_at _ _ _ _ _, ?_, RS_a (RS_a y4 (fun k => z2.1 144 k (relM_144 k))) (fun k => g5 144 k (by omega)), ⟨fun r k u1 u2 => by rw [g5 _ _ (by omega)]; exact z3.1 r k u1 u2, fun u k u2 => by rw [g5 _ _ (by omega)]; exact z3.2 u k u2⟩, ?_, ?_⟩
        · rw [g5 _ _ (by omega), z2.1 112 36 (by unfold relM; omega)]; exact y2.1.2.1
        · rw [g5 _ _ (by omega), (md 112 93 (by unfold mdX12_laysTones; omega)).1, gN _ _ (by omega), hq.1.2.2.2.2.2.2.2.1, Nat.zero_add]
        · refine cells_fr _ _ (fun i _ _ => ?_) hq.1.2.2.2.2.2.2.2.2.1
          rw [g5 _ _ (by omega), (md 177 i (by unfold mdX12_laysTones; omega)).1, gN _ _ (by omega)]
      have hK := x1.2.2.2.1.2.1
      have e100 : m5.2 112 100 = s1 := by
        rw [(md 112 100 (by unfold mdX12_laysTones; omega)).2, ← hN]
        show ev_up m'.2 112 100 s1 112 100 = s1
        exact up_at _ _ _ _
      have e101 : m5.1 112 101 = 1 := by
        rw [(md 112 101 (by unfold mdX12_laysTones; omega)).1, ← hN]
        exact upI_at _ _ _ _ _
      obtain ⟨m6, w1⟩ := @r_ansL f w' K S b x.2.2 (if w' ≤ 24 then -1 else 0) (by omega) hK y5 y6 (by omega) g4 g5' ⟨v2, v3⟩ K.1 0 f (ev_up m5.1 112 46 2, m5.2) (by omega) (by omega) hQS (by rw [← hs1]; exact e100) (by rw [g5 _ _ (by omega), if_pos rfl]; exact e101)
      rw [show FX12_laysTones f N = some ((), m5) from z1, bd_some, v4]
      rw [z0] at w1
      refine ⟨m6, w1, ?_⟩
      have fL := FRX12_ask_L192 (P := relM) (m0 := (ev_up m5.1 112 46 2, m5.2)) f (fun m11 => some ((m11.2 112 100), m11)) (Int32.ofNat (w' - 23)) (by unfold relM; omega) (by unfold relM; omega) (by unfold relM; omega) (fun k => by unfold relM; omega) (fun xm hx => Fr.ok hx) f 0 _ (frP_refl _ _) _ _ w1
      exact ((fM_of g1).trans z2).trans (fM_of ((frP_I (by unfold relM; omega) (frP_refl _ _)).trans fL))
    have fin : ∃ mm', (if 2 ≤ a then (FX12_ask_J173 f a (0 : Int64) ((ev_up (ev_up m'.1 112 7 0) 112 8 (-1)), m'.2)) else (FX12_ask_J173 f a (-1 : Int64) ((ev_up (ev_up m'.1 112 7 0) 112 8 (-1)), m'.2))) = some (anL w' (vqC K S x.2.2) (if w' ≤ 24 then -1 else 0) K.1, mm') ∧ fM (ev_up (ev_up (ev_up mm.1 112 7 0) 112 8 (-1)) 112 1 (Int32.ofNat 0), mm.2) mm' := by
      have e2 : (2 : Int32) = Int32.ofNat 2 := rfl
      by_cases z : 25 ≤ w'
      · rw [if_pos (by rw [v4, e2, n_le (by omega) (by omega)]; omega)]
        exact go 0 (by rw [if_neg (by omega)])
      · rw [if_neg (by rw [v4, e2, n_le (by omega) (by omega)]; omega)]
        exact go (-1) (by rw [if_pos (by omega)])
    obtain ⟨mm', p1, p2⟩ := fin
    exact ⟨_, mc8, mm', rfl, p1, c, true, K, S, kc, SimW_frM (fc2.trans u2) p2 hA⟩
