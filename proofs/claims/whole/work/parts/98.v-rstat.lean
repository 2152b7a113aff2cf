/-! the reference reads a STATEMENT -/
def RQB (m : ev_M) (B : sp_B) : Prop := m.1 140 0 = B.1 ∧ m.1 140 1 = Int32.ofNat B.2.1 ∧ m.1 140 2 = B.2.2
def RQq (p : Nat) (m : ev_M) (Q : sp_Q) : Prop := RQA m Q.1 ∧ RQB m Q.2.1 ∧ RQD p m Q.2.2
def prot (a k : Nat) : Prop := relM a k ∧ a ≠ 138 ∧ ¬ (a = 140 ∧ k < 3) ∧ ¬ ((a = 141 ∨ a = 142) ∧ k < 2) ∧ ¬ (a = 143 ∧ k < 1600)
/-- what stands of the castle before -/
def KPm (m m' : ev_M) : Prop := (∀ a k, prot a k → m'.1 a k = m.1 a k) ∧ (∀ k, 8 ≤ k → m'.2 138 k = m.2 138 k) ∧ m'.2 112 66 = m.2 112 66
theorem KPm_refl (m : ev_M) : KPm m m := ⟨fun _ _ _ => rfl, fun _ _ => rfl, rfl⟩
theorem KPm_tr {a b c : ev_M} (h1 : KPm a b) (h2 : KPm b c) : KPm a c := ⟨fun x k q => (h2.1 x k q).trans (h1.1 x k q), fun k q => (h2.2.1 k q).trans (h1.2.1 k q), h2.2.2.trans h1.2.2⟩
theorem KPm_rdo {m m' : ev_M} (h : rdo m m') : KPm m m' := ⟨fun a k q => (h a k (by unfold prot relM at q; omega)).1, fun k _ => (h _ _ (by omega)).2, (h _ _ (by omega)).2⟩
section
variable {f E : Nat} {β : Nat → Int32}
theorem sg59 : sgn 59 := by unfold sgn; decide
theorem RQq_fr {p p' : Nat} {m m' : ev_M} {Q : sp_Q} (h : RQq p m Q) (hp : p ≤ p') (hp2 : p' ≤ 1600) (h1 : ∀ a k, (a = 112 ∧ (k = 35 ∨ k = 43)) ∨ (138 ≤ a ∧ a ≤ 143) → m'.1 a k = m.1 a k) (h2 : ∀ k, m'.2 138 k = m.2 138 k) : RQq p' m' Q :=
  ⟨RQA_fr h.1 (h1 _ _ (by omega)) h2 (fun k => h1 _ _ (by omega)), ⟨(h1 _ _ (by omega)).trans h.2.1.1, (h1 _ _ (by omega)).trans h.2.1.2.1, (h1 _ _ (by omega)).trans h.2.1.2.2⟩, RQD_fr h.2.2 hp hp2 (h1 _ _ (by omega)) (fun a k _ _ => h1 _ _ (by omega))⟩
theorem RQq_rdo {p p' : Nat} {m m' : ev_M} {Q : sp_Q} (hr : rdo m m') (h : RQq p m Q) (hp : p ≤ p') (hp2 : p' ≤ 1600) : RQq p' m' Q := RQq_fr h hp hp2 (fun a k z => (hr a k (by omega)).1) (fun k => (hr _ _ (by omega)).2)
def ROut (β : Nat → Int32) (E : Nat) (m0 m : ev_M) (R : Yr × sp_Q) : Prop := YT β E m R.1 ∧ WA m ∧ KPm m0 m ∧ ∀ x', R.1 = .inr x' → RQq x'.1 m R.2
theorem r_J173 {m0 m : ev_M} {R : Yr × sp_Q} (hf : 4000 ≤ f) (h : ROut β E m0 m R) : ∃ m', FX12_statementTold_J173 f m = some ((), m') ∧ ROut β E m0 m' (ytS β E 59 R.1, R.2) ∧ m'.1 112 44 = m.1 112 44 + 1 := by
  obtain ⟨h1, h2, h3, h4⟩ := h
  obtain ⟨m1, r1, r2⟩ := rt_asksS (f := f) hf sg59 h1
  have d1 := rdo_sign r1
  have g : ∀ a k, ¬ (a = 112 ∧ k = 44) → ((ev_up m1.1 112 44 (m1.1 112 44 + 1), m1.2) : ev_M).1 a k = m1.1 a k := fun a k q => by
    by_cases e : a = 112
    · subst e; rw [upI_nk _ _ _ _ (by omega)]
    · rw [upI_na _ _ _ _ e]
  unfold FX12_statementTold_J173
  rw [r1, bd_some]
  refine ⟨_, rfl, ⟨YT_fr r2 (fun a k q => g _ _ (by omega)), WA_fr (rdo_WA d1 h2) (fun a k q => g _ _ (by have := (wo_ne q).1; omega)), KPm_tr h3 (KPm_tr (KPm_rdo d1) ⟨fun a k q => g _ _ (by unfold prot relM at q; omega), fun _ _ => rfl, rfl⟩), fun x' e => ?_⟩, ?_⟩
  · obtain ⟨x, e1, e2⟩ := mo_tS x' e
    have hx' : x'.1 ≤ 1600 := by
      have e' : ytS β E 59 R.1 = .inr x' := e
      rw [e'] at r2
      have r2' : RT β E m1 x'.1 x'.2.1 := r2
      have := r2'.2.1
      have := r2'.1.1
      omega
    exact RQq_fr (RQq_rdo d1 (h4 x e1) e2 hx') (Nat.le_refl _) hx' (fun a k z => g _ _ (by omega)) (fun k => rfl)
  · rw [upI_at, (d1 _ _ (by omega)).1]
set_option maxHeartbeats 8000000 in
theorem r_stat {m : ev_M} {x : Nat × Bool × List Nat} {Q : sp_Q} (hf : 4000 ≤ f) (hw : WA m) (h : YT β E m (.inr x)) (hat : m.1 112 2 = Int32.ofNat (sk β E x.1)) (hQ : RQq x.1 m Q) (h60 : ¬ m.1 112 44 = 60) : ∃ m', FX12_statementTold f m = some ((), m') ∧ ROut β E m m' (ySt β E Q x) ∧ m'.1 112 44 = m.1 112 44 + 1 := by
  have h0 : RT β E m x.1 x.2.1 := h
  have hE := h0.1.1
  have hx := h0.2.1
  have hsk := sk_le (β := β) hx
  have hp1 : x.1 ≤ (yx1 β E x).1 := by
    obtain ⟨x0, q1, q2⟩ := mo_ad (β := β) (E := E) (y := .inr x) (yx1 β E x) rfl
    cases q1; exact q2
  have hx1 : (yx1 β E x).1 ≤ 1600 := by have := tkB_le (β := β) hx; show tkB β E x.1 ≤ 1600; omega
  -- the end of a statement
  have fin : ∀ (m1 : ev_M) (R : Yr × sp_Q), ROut β E m m1 R → m1.1 112 44 = m.1 112 44 → ySt β E Q x = (ytS β E 59 R.1, R.2) → ∃ m', FX12_statementTold_J173 f m1 = some ((), m') ∧ ROut β E m m' (ySt β E Q x) ∧ m'.1 112 44 = m.1 112 44 + 1 := by
    intro m1 R q1 q2 q3
    obtain ⟨m', r1, r2, r3⟩ := r_J173 (f := f) hf q1
    rw [q3]
    exact ⟨m', r1, r2, by rw [r3, q2]⟩
  have ySt_w : ∀ w, yI β E (.inr x) = some w → ySt β E Q x = (ytS β E 59 (yW β E Q x w).1, (yW β E Q x w).2) := fun w e => by unfold ySt yStB; rw [e]
  -- a number
  have set : ∀ (m1 : ev_M) (y : Yr) (lo hi s : Nat), YT β E m1 y → rdo m m1 → lo < 100000 → hi < 100000 → s < 3 → mo (.inr x) y → ∀ B : sp_B, ((ytN β E lo hi y).isRight = true → ∀ m' : ev_M, (∀ k, k ≠ s → m'.1 140 k = m.1 140 k) → m'.1 140 s = Int32.ofNat (yval β E y) → RQB m' B) → ySt β E Q x = (ytS β E 59 (ytN β E lo hi y), (Q.1, B, Q.2.2)) → ∃ m', ev_bd (FX12_number f (Int32.ofNat lo) (Int32.ofNat hi) m1) (fun r15 m16 => (FX12_statementTold_J173 f ((ev_up m16.1 140 s r15), m16.2))) = some ((), m') ∧ ROut β E m m' (ySt β E Q x) ∧ m'.1 112 44 = m.1 112 44 + 1 := by
    intro m1 y lo hi s q1 q2 hlo hhi hs hmo B hB hS
    obtain ⟨v, m2, r1, r2, r3⟩ := rt_num (f := f) hf hlo hhi q1
    have d2 := rdo_tr q2 (rdo_num r1)
    rw [r1, bd_some]
    have g : ∀ a k, ¬ (a = 140 ∧ k = s) → ((ev_up m2.1 140 s v, m2.2) : ev_M).1 a k = m2.1 a k := fun a k q => by
      by_cases e : a = 140
      · subst e; rw [upI_nk _ _ _ _ (by omega)]
      · rw [upI_na _ _ _ _ e]
    refine fin _ (ytN β E lo hi y, (Q.1, B, Q.2.2)) ⟨YT_fr r2 (fun a k q => g _ _ (by omega)), WA_fr (rdo_WA d2 hw) (fun a k q => g _ _ (by intro z; rw [z.1] at q; revert q; decide)), KPm_tr (KPm_rdo d2) ⟨fun a k q => g _ _ (by unfold prot relM at q; omega), fun _ _ => rfl, rfl⟩, fun x' e => ?_⟩ (by rw [g _ _ (by omega), (d2 _ _ (by omega)).1]) hS
    have e' : ytN β E lo hi y = .inr x' := e
    have hr : (ytN β E lo hi y).isRight = true := by rw [e']; rfl
    obtain ⟨x0, p1, p2⟩ := mo_tr hmo (mo_tN (β := β) (E := E) (lo := lo) (hi := hi) (y := y)) x' e'
    cases p1
    have hx' : x'.1 ≤ 1600 := by
      rw [e'] at r2
      have r2' : RT β E m2 x'.1 x'.2.1 := r2
      have := r2'.2.1
      omega
    have hQ2 := RQq_rdo d2 hQ p2 hx'
    exact ⟨RQA_fr hQ2.1 (g _ _ (by omega)) (fun _ => rfl) (fun k => g _ _ (by omega)), hB hr _ (fun k hk => by rw [g _ _ (by omega), (d2 _ _ (by omega)).1]) (by rw [upI_at, r3 hr]), RQD_fr hQ2.2.2 (Nat.le_refl _) hx' (g _ _ (by omega)) (fun a k _ _ => g _ _ (by omega))⟩
  unfold FX12_statementTold
  rw [if_neg h60]
  obtain ⟨k1, a1, b1, c1, d1⟩ := @rt_takesW f E β m (.inr x) 116 hf hw (by decide) h
  rw [show wix 116 = 1 from by decide] at a1 b1 c1
  have f1 := rdo_takes a1
  rw [a1, bd_some]
  by_cases w1 : yI β E (.inr x) = some 1
  · rw [if_pos w1] at b1
    rw [if_pos w1, if_neg n10]
    have b1' : YT β E k1 (.inr (yx1 β E x)) := b1
    have hS := ySt_w 1 w1
    have eW : yW β E Q x 1 = (if Q.1.1 = 8 then (.inl (5, sk β E x.1), Q) else (yTow β E Q.1 (yx1 β E x), (aTow β E Q.1 (yx1 β E x), Q.2))) := if_pos rfl
    have hQ1 := RQq_rdo f1 hQ (Nat.le_refl _) (by omega)
    have h8 := hQ1.1.1
    by_cases z : Q.1.1 = 8
    · rw [if_pos z] at eW
      rw [eW] at hS
      have h51 : k1.1 112 5 = 0 := (yt_5 b1').mpr rfl
      obtain ⟨m2, r1, r2⟩ := @r_failG f k1 5 (sk β E x.1) h51 (by omega) (by omega)
      have r1' : FX12_fail f 5 (m.1 112 2) k1 = some ((), m2) := by rw [hat]; exact r1
      unfold FX12_towerTold FX12_towerTold_J22
      rw [if_pos h51, hQ1.1.2.1, z, if_pos (show Int32.ofNat 8 = 8 from rfl), r1', bd_some, if_neg (yr_bad r2), bd_some]
      have d2 := rdo_tr f1 (rdo_fail r1)
      exact fin m2 (.inl (5, sk β E x.1), Q) ⟨r2, rdo_WA d2 hw, KPm_rdo d2, fun x' e => by cases e⟩ (d2 _ _ (by omega)).1 hS
    · rw [if_neg z] at eW
      rw [eW] at hS
      obtain ⟨m2, r1, r2, r3, r4⟩ := @r_tower f E β k1 (yx1 β E x) Q.1 (m.1 112 2) hf (rdo_WA f1 hw) b1' hQ1.1 (by omega)
      have md := MDX12_towerTold r1
      have gm : ∀ a k, ¬ (a = 112 ∧ (k = 2 ∨ k = 4 ∨ k = 5 ∨ k = 6 ∨ k = 33 ∨ k = 35)) → a ≠ 138 → a ≠ 139 → m2.1 a k = k1.1 a k := fun a k q1 q2 q3 => (md a k (by unfold mdX12_towerTold; omega)).1
      rw [r1, bd_some]
      refine fin m2 (yTow β E Q.1 (yx1 β E x), (aTow β E Q.1 (yx1 β E x), Q.2)) ⟨r2, WA_fr (rdo_WA f1 hw) (fun a k q => gm _ _ (by have := (wo_ne q).1; omega) (by intro z; rw [z] at q; revert q; decide) (by intro z; rw [z] at q; revert q; decide)), KPm_tr (KPm_rdo f1) ⟨fun a k q => gm _ _ (by unfold prot relM at q; omega) q.2.1 (by unfold prot relM at q; omega), r3, (md 112 66 (by unfold mdX12_towerTold; omega)).2⟩, fun x' e => ?_⟩ (by rw [gm _ _ (by omega) (by omega) (by omega), (f1 _ _ (by omega)).1]) hS
      have e' : yTow β E Q.1 (yx1 β E x) = .inr x' := e
      obtain ⟨x0, q1, q2⟩ := mo_tow (β := β) (E := E) (A := Q.1) (x := yx1 β E x) x' e'
      cases q1
      have hx' : x'.1 ≤ 1600 := by
        rw [e'] at r2
        have r2' : RT β E m2 x'.1 x'.2.1 := r2
        have := r2'.2.1; omega
      exact ⟨r4 (by rw [e']; rfl), ⟨(gm _ _ (by omega) (by omega) (by omega)).trans hQ1.2.1.1, (gm _ _ (by omega) (by omega) (by omega)).trans hQ1.2.1.2.1, (gm _ _ (by omega) (by omega) (by omega)).trans hQ1.2.1.2.2⟩, RQD_fr hQ1.2.2 (by omega) hx' (gm _ _ (by omega) (by omega) (by omega)) (fun a k _ _ => gm _ _ (by omega) (by omega) (by omega))⟩
  rw [if_neg w1] at b1
  rw [if_neg w1, if_pos rfl]
  obtain ⟨k2, a2, b2, c2, d2⟩ := @rt_takesW f E β k1 (.inr x) 119 hf (rdo_WA f1 hw) (by decide) b1
  rw [show wix 119 = 4 from by decide] at a2 b2 c2
  have f2 := rdo_tr f1 (rdo_takes a2)
  rw [a2, bd_some]
  by_cases w4 : yI β E (.inr x) = some 4
  · rw [if_pos w4] at b2
    rw [if_pos w4, if_neg n10]
    have b2' : YT β E k2 (.inr (yx1 β E x)) := b2
    have hS := ySt_w 4 w4
    have eW : yW β E Q x 4 = (yYes β E Q.1 (yx1 β E x), (aYes β E Q.1 (yx1 β E x), Q.2)) := by unfold yW; rw [if_neg (by decide), if_pos rfl]
    rw [eW] at hS
    have hQ1 := RQq_rdo f2 hQ (Nat.le_refl _) (by omega)
    obtain ⟨m2, r1, r2, r4⟩ := @r_yesT f E β k2 (yx1 β E x) Q.1 hf (rdo_WA f2 hw) b2' hQ1.1
    have md := MDX12_yesTold r1
    have gm : ∀ a k, ¬ (a = 112 ∧ (k = 2 ∨ k = 4 ∨ k = 5 ∨ k = 6 ∨ k = 33)) → a ≠ 139 → m2.1 a k = k2.1 a k ∧ m2.2 a k = k2.2 a k := fun a k q1 q3 => md a k (by unfold mdX12_yesTold; omega)
    rw [r1, bd_some]
    refine fin m2 (yYes β E Q.1 (yx1 β E x), (aYes β E Q.1 (yx1 β E x), Q.2)) ⟨r2, WA_fr (rdo_WA f2 hw) (fun a k q => (gm _ _ (by have := (wo_ne q).1; omega) (by intro z; rw [z] at q; revert q; decide)).1), KPm_tr (KPm_rdo f2) ⟨fun a k q => (gm _ _ (by unfold prot relM at q; omega) (by unfold prot relM at q; omega)).1, fun k _ => (gm _ _ (by omega) (by omega)).2, (gm _ _ (by omega) (by omega)).2⟩, fun x' e => ?_⟩ (by rw [(gm _ _ (by omega) (by omega)).1, (f2 _ _ (by omega)).1]) hS
    have e' : yYes β E Q.1 (yx1 β E x) = .inr x' := e
    obtain ⟨x0, q1, q2⟩ := mo_yes (β := β) (E := E) (A := Q.1) (x := yx1 β E x) x' e'
    cases q1
    have hx' : x'.1 ≤ 1600 := by
      rw [e'] at r2
      have r2' : RT β E m2 x'.1 x'.2.1 := r2
      have := r2'.2.1; omega
    exact ⟨r4 (by rw [e']; rfl), ⟨((gm _ _ (by omega) (by omega)).1).trans hQ1.2.1.1, ((gm _ _ (by omega) (by omega)).1).trans hQ1.2.1.2.1, ((gm _ _ (by omega) (by omega)).1).trans hQ1.2.1.2.2⟩, RQD_fr hQ1.2.2 (by omega) hx' (gm _ _ (by omega) (by omega)).1 (fun a k _ _ => (gm _ _ (by omega) (by omega)).1)⟩
  rw [if_neg w4] at b2
  rw [if_neg w4, if_pos rfl]
  -- sums
  have cod : ∀ (w wd : Nat) (k2 : ev_M), w < 2 → YT β E k2 (.inr (yx1 β E x)) → rdo m k2 → (k2.1 141 w = -1 ↔ (if w = 0 then Q.2.2.1 else Q.2.2.2) = none) → ySt β E Q x = (ytS β E 59 (if (if w = 0 then Q.2.2.1 else Q.2.2.2).isSome = true then ((.inl (5, sk β E x.1), Q) : Yr × sp_Q) else (yCo β E w (yx1 β E x), (Q.1, Q.2.1, updD w Q.2.2 (some (yl (yCo β E w (yx1 β E x))))))).1, (if (if w = 0 then Q.2.2.1 else Q.2.2.2).isSome = true then ((.inl (5, sk β E x.1), Q) : Yr × sp_Q) else (yCo β E w (yx1 β E x), (Q.1, Q.2.1, updD w Q.2.2 (some (yl (yCo β E w (yx1 β E x))))))).2) → ∃ m', ev_bd (FX12_codesTold f (Int32.ofNat w) (m.1 112 2) k2) (fun _ m24 => (FX12_statementTold_J173 f m24)) = some ((), m') ∧ ROut β E m m' (ySt β E Q x) ∧ m'.1 112 44 = m.1 112 44 + 1 := by
    intro w _ k2 hw2 q1 q2 q3 q4
    have hQ2 := RQq_rdo q2 hQ (Nat.le_refl _) (by omega)
    by_cases z : (if w = 0 then Q.2.2.1 else Q.2.2.2).isSome = true
    · rw [if_pos z] at q4
      have hn : ¬ k2.1 141 w = -1 := fun q => by
        rw [q3.mp q] at z
        exact absurd z (by decide)
      obtain ⟨m2, r1, r2, r3⟩ := @r_codesM f E β w (sk β E x.1) k2 (yx1 β E x) hw2 q1 (by omega) hn
      rw [hat, r1, bd_some]
      have d3 := rdo_tr q2 r3
      exact fin m2 (.inl (5, sk β E x.1), Q) ⟨r2, rdo_WA d3 hw, KPm_rdo d3, fun x' e => by cases e⟩ (d3 _ _ (by omega)).1 q4
    · rw [if_neg z] at q4
      have hn : k2.1 141 w = -1 := q3.mpr (by
        cases hh : (if w = 0 then Q.2.2.1 else Q.2.2.2) with
        | none => rfl
        | some l => rw [hh] at z; exact absurd rfl z)
      obtain ⟨m2, r1, r2, r3, r4⟩ := @r_codes f E β w x.1 (m.1 112 2) k2 (yx1 β E x) Q.2.2 hf hw2 (rdo_WA q2 hw) q1 hQ2.2.2 hp1 hn
      have md := MDX12_codesTold r1
      have gm : ∀ a k, ¬ (a = 112 ∧ (k = 2 ∨ k = 4 ∨ k = 5 ∨ k = 6 ∨ k = 43 ∨ k = 46 ∨ k = 93 ∨ k = 95 ∨ k = 96 ∨ k = 97)) → a ≠ 141 → a ≠ 142 → a ≠ 143 → a ≠ 177 → a ≠ 178 → m2.1 a k = k2.1 a k ∧ m2.2 a k = k2.2 a k := fun a k p1 p2 p3 p4 p5 p6 => md a k (by unfold mdX12_codesTold; omega)
      rw [r1, bd_some]
      refine fin m2 (yCo β E w (yx1 β E x), (Q.1, Q.2.1, updD w Q.2.2 (some (yl (yCo β E w (yx1 β E x)))))) ⟨r2, WA_fr (rdo_WA q2 hw) (fun a k q => ?_), KPm_tr (KPm_rdo q2) ⟨fun a k q => ?_, fun k _ => (gm _ _ (by omega) (by omega) (by omega) (by omega) (by omega) (by omega)).2, (gm _ _ (by omega) (by omega) (by omega) (by omega) (by omega) (by omega)).2⟩, fun x' e => ?_⟩ (by rw [(gm _ _ (by omega) (by omega) (by omega) (by omega) (by omega) (by omega)).1, (q2 _ _ (by omega)).1]) q4
      · have w0 := wo_ne q
        have w1' : a ≠ 141 ∧ a ≠ 142 ∧ a ≠ 143 := ⟨by intro z; rw [z] at q; revert q; decide, by intro z; rw [z] at q; revert q; decide, by intro z; rw [z] at q; revert q; decide⟩
        exact (gm _ _ (by omega) (by omega) (by omega) (by omega) (by omega) (by omega)).1
      · by_cases e1 : a = 141
        · rw [e1]; exact (r3.1 k (by unfold prot at q; omega)).1
        · by_cases e2 : a = 142
          · rw [e2]; exact (r3.1 k (by unfold prot at q; omega)).2
          · by_cases e3 : a = 143
            · rw [e3]; exact r3.2 k (by unfold prot at q; omega)
            · exact (gm _ _ (by unfold prot relM at q; omega) e1 e2 e3 (by unfold prot relM at q; omega) (by unfold prot relM at q; omega)).1
      · have e' : yCo β E w (yx1 β E x) = .inr x' := e
        have el : yl (yCo β E w (yx1 β E x)) = x'.2.2 := by rw [e']; rfl
        have r4' := r4 x' e'
        refine ⟨RQA_fr hQ2.1 (gm _ _ (by omega) (by omega) (by omega) (by omega) (by omega) (by omega)).1 (fun k => (gm _ _ (by omega) (by omega) (by omega) (by omega) (by omega) (by omega)).2) (fun k => (gm _ _ (by omega) (by omega) (by omega) (by omega) (by omega) (by omega)).1), ⟨((gm _ _ (by omega) (by omega) (by omega) (by omega) (by omega) (by omega)).1).trans hQ2.2.1.1, ((gm _ _ (by omega) (by omega) (by omega) (by omega) (by omega) (by omega)).1).trans hQ2.2.1.2.1, ((gm _ _ (by omega) (by omega) (by omega) (by omega) (by omega) (by omega)).1).trans hQ2.2.1.2.2⟩, ?_⟩
        show RQD x'.1 m2 (updD w Q.2.2 (some (yl (yCo β E w (yx1 β E x)))))
        rw [el]
        exact r4'
  have none_iff : ∀ (k2 : ev_M) (w z : Nat) (d : Option (List Nat)), z ≤ 1600 → dR w z k2 d → (k2.1 141 w = -1 ↔ d = none) := by
    intro k2 w z d hz hd
    cases d with
    | none => exact ⟨fun _ => rfl, fun _ => hd⟩
    | some l =>
      obtain ⟨fr, p1, p2, p3, p4⟩ := hd
      refine ⟨fun q => ?_, fun q => by cases q⟩
      rw [p2] at q
      have := i_eq.mp q
      rw [n_int (by omega)] at this
      have em : (-1 : Int32).toInt = -1 := by decide
      rw [em] at this
      omega
  obtain ⟨k3, a3, b3, c3, d3⟩ := @rt_takesW f E β k2 (.inr x) 120 hf (rdo_WA f2 hw) (by decide) b2
  rw [show wix 120 = 5 from by decide] at a3 b3 c3
  have f3 := rdo_tr f2 (rdo_takes a3)
  rw [a3, bd_some]
  by_cases w5 : yI β E (.inr x) = some 5
  · rw [if_pos w5] at b3
    rw [if_pos w5, if_neg n10]
    have hS := ySt_w 5 w5
    have eW : yW β E Q x 5 = (if Q.2.2.1.isSome = true then (.inl (5, sk β E x.1), Q) else (yCo β E 0 (yx1 β E x), (Q.1, Q.2.1, (some (yl (yCo β E 0 (yx1 β E x))), Q.2.2.2)))) := by unfold yW; rw [if_neg (by decide), if_neg (by decide), if_pos rfl]
    rw [eW] at hS
    obtain ⟨z, y1, y2, y3, y4, y5⟩ := (RQq_rdo f3 hQ (Nat.le_refl _) (by omega)).2.2
    exact cod 0 0 k3 (by omega) b3 f3 (none_iff k3 0 z _ (by omega) y4) hS
  rw [if_neg w5] at b3
  rw [if_neg w5, if_pos rfl]
  obtain ⟨k4, a4, b4, c4, d4⟩ := @rt_takesW f E β k3 (.inr x) 121 hf (rdo_WA f3 hw) (by decide) b3
  rw [show wix 121 = 6 from by decide] at a4 b4 c4
  have f4 := rdo_tr f3 (rdo_takes a4)
  rw [a4, bd_some]
  by_cases w6 : yI β E (.inr x) = some 6
  · rw [if_pos w6] at b4
    rw [if_pos w6, if_neg n10]
    have hS := ySt_w 6 w6
    have eW : yW β E Q x 6 = (if Q.2.2.2.isSome = true then (.inl (5, sk β E x.1), Q) else (yCo β E 1 (yx1 β E x), (Q.1, Q.2.1, (Q.2.2.1, some (yl (yCo β E 1 (yx1 β E x))))))) := by unfold yW; rw [if_neg (by decide), if_neg (by decide), if_neg (by decide), if_pos rfl]
    rw [eW] at hS
    obtain ⟨z, y1, y2, y3, y4, y5⟩ := (RQq_rdo f4 hQ (Nat.le_refl _) (by omega)).2.2
    exact cod 1 0 k4 (by omega) b4 f4 (none_iff k4 1 z _ (by omega) y5) hS
  rw [if_neg w6] at b4
  rw [if_neg w6, if_pos rfl]
  obtain ⟨k5, a5, b5, c5, d5⟩ := @rt_takesW f E β k4 (.inr x) 122 hf (rdo_WA f4 hw) (by decide) b4
  rw [show wix 122 = 7 from by decide] at a5 b5 c5
  have f5 := rdo_tr f4 (rdo_takes a5)
  rw [a5, bd_some]
  have bq := hQ.2.1
  by_cases w7 : yI β E (.inr x) = some 7
  · rw [if_pos w7] at b5
    rw [if_pos w7, if_neg n10]
    have hS := ySt_w 7 w7
    have eW : yW β E Q x 7 = (ytN β E 1 9 (.inr (yx1 β E x)), (Q.1, (Int32.ofNat (yval β E (.inr (yx1 β E x))), Q.2.1.2), Q.2.2)) := by unfold yW; rw [if_neg (by decide), if_neg (by decide), if_neg (by decide), if_neg (by decide), if_pos rfl]
    rw [eW] at hS
    exact set k5 (.inr (yx1 β E x)) 1 9 0 b5 f5 (by omega) (by omega) (by omega) mo_ad (Int32.ofNat (yval β E (.inr (yx1 β E x))), Q.2.1.2) (fun _ m' q1 q2 => ⟨q2, (q1 1 (by omega)).trans bq.2.1, (q1 2 (by omega)).trans bq.2.2⟩) hS
  rw [if_neg w7] at b5
  rw [if_neg w7, if_pos rfl]
  obtain ⟨k6, a6, b6, c6, d6⟩ := @rt_takesW f E β k5 (.inr x) 123 hf (rdo_WA f5 hw) (by decide) b5
  rw [show wix 123 = 8 from by decide] at a6 b6 c6
  have f6 := rdo_tr f5 (rdo_takes a6)
  rw [a6, bd_some]
  by_cases w8 : yI β E (.inr x) = some 8
  · rw [if_pos w8] at b6
    rw [if_pos w8, if_neg n10]
    have hS := ySt_w 8 w8
    have eW : yW β E Q x 8 = (ytN β E 1 8 (.inr (yx1 β E x)), (Q.1, (Q.2.1.1, yval β E (.inr (yx1 β E x)), Q.2.1.2.2), Q.2.2)) := by unfold yW; rw [if_neg (by decide), if_neg (by decide), if_neg (by decide), if_neg (by decide), if_neg (by decide), if_pos rfl]
    rw [eW] at hS
    exact set k6 (.inr (yx1 β E x)) 1 8 1 b6 f6 (by omega) (by omega) (by omega) mo_ad (Q.2.1.1, yval β E (.inr (yx1 β E x)), Q.2.1.2.2) (fun _ m' q1 q2 => ⟨(q1 0 (by omega)).trans bq.1, q2, (q1 2 (by omega)).trans bq.2.2⟩) hS
  rw [if_neg w8] at b6
  rw [if_neg w8, if_pos rfl]
  obtain ⟨k7, a7, b7⟩ := @rt_asksW f E β k6 (.inr x) 124 hf (rdo_WA f6 hw) (by decide) b6
  rw [show wix 124 = 9 from by decide] at b7
  have f7 := rdo_tr f6 (rdo_asks a7)
  rw [a7, bd_some]
  by_cases w9 : yI β E (.inr x) = some 9
  · have eN : ytW β E 9 (.inr x) = .inr (yx1 β E x) := if_pos w9
    rw [eN] at b7
    have hS := ySt_w 9 w9
    have eW : yW β E Q x 9 = (ytN β E 0 100 (.inr (yx1 β E x)), (Q.1, (Q.2.1.1, Q.2.1.2.1, Int32.ofNat (yval β E (.inr (yx1 β E x)))), Q.2.2)) := by unfold yW; rw [if_neg (by decide), if_neg (by decide), if_neg (by decide), if_neg (by decide), if_neg (by decide), if_neg (by decide), if_pos rfl]
    rw [eW] at hS
    exact set k7 (.inr (yx1 β E x)) 0 100 2 b7 f7 (by omega) (by omega) (by omega) mo_ad (Q.2.1.1, Q.2.1.2.1, Int32.ofNat (yval β E (.inr (yx1 β E x)))) (fun _ m' q1 q2 => ⟨(q1 0 (by omega)).trans bq.1, (q1 1 (by omega)).trans bq.2.1, q2⟩) hS
  · have eN : ytW β E 9 (.inr x) = .inl (1, sk β E x.1) := if_neg w9
    rw [eN] at b7
    have hS : ySt β E Q x = (ytS β E 59 (ytN β E 0 100 (.inl (1, sk β E x.1))), (Q.1, Q.2.1, Q.2.2)) := by
      rw [N_inl]
      unfold ySt yStB
      cases hI : yI β E (.inr x) with
      | none => rfl
      | some w =>
        rw [hI] at w1 w4 w5 w6 w7 w8 w9
        have eW : yW β E Q x w = (.inl (1, sk β E x.1), Q) := by unfold yW; rw [if_neg (fun q => w1 (by rw [q])), if_neg (fun q => w4 (by rw [q])), if_neg (fun q => w5 (by rw [q])), if_neg (fun q => w6 (by rw [q])), if_neg (fun q => w7 (by rw [q])), if_neg (fun q => w8 (by rw [q])), if_neg (fun q => w9 (by rw [q]))]
        show (ytS β E 59 (yW β E Q x w).1, (yW β E Q x w).2) = _
        rw [eW]
    exact set k7 (.inl (1, sk β E x.1)) 0 100 2 b7 f7 (by omega) (by omega) (by omega) mo_inl _ (fun hr => by rw [N_inl] at hr; cases hr) hS
end
