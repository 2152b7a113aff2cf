/-! the reference's tests -/
def opT : List Nat → Nat
  | [] => 0
  | c :: V => opT V + (if c = 12 ∨ 20 ≤ c then 1 else 0)
theorem opn_T : ∀ W, opn W ≤ opT W := by
  intro W
  induction W with
  | nil => exact Nat.le_refl _
  | cons c V ih =>
    show opn V + (if 20 ≤ c then 1 else 0) ≤ opT V + (if c = 12 ∨ 20 ≤ c then 1 else 0)
    by_cases z : 20 ≤ c
    · rw [if_pos z, if_pos (Or.inr z)]; omega
    · rw [if_neg z]; split <;> omega
def okW (W : List Nat) : Prop := ∀ c, c ∈ W → c = 10 ∨ c = 11 ∨ c = 12 ∨ c = 25
def QT (β : Nat → Int32) (E : Nat) (m : ev_M) (x : Nat × Bool × List Nat) (W : List Nat) (o : Nat) : Prop := QG β E 2 0 0 (fun _ => 0) m x W o ∧ okW W ∧ opT W ≤ o
theorem stk_get {g : Nat → Int32} : ∀ (W : List Nat), stk g 0 W → (∀ i, i < W.length → ∃ c, c ∈ W ∧ c < 1000 ∧ g i = Int32.ofNat c) ∧ (∀ c, c ∈ W → ∃ i, i < W.length ∧ g i = Int32.ofNat c) := by
  intro W
  induction W with
  | nil => intro _; exact ⟨fun i hi => absurd hi (Nat.not_lt_zero i), fun c hc => by cases hc⟩
  | cons d V ih =>
    intro h
    obtain ⟨i1, i2⟩ := ih h.2.2
    have hd := h.2.1
    rw [Nat.zero_add] at hd
    refine ⟨fun i hi => ?_, fun c hc => ?_⟩
    · by_cases e : i = V.length
      · subst e; exact ⟨d, List.mem_cons_self .., h.1, hd⟩
      · obtain ⟨c, c1, c2, c3⟩ := i1 i (by simp at hi; omega)
        exact ⟨c, List.mem_cons_of_mem _ c1, c2, c3⟩
    · rcases List.mem_cons.mp hc with q | q
      · subst q; exact ⟨V.length, by simp, hd⟩
      · obtain ⟨i, q1, q2⟩ := i2 c q
        exact ⟨i, by simp; omega, q2⟩
section
variable {f E : Nat} {β : Nat → Int32}
theorem QT_mv {m m' : ev_M} {x x' : Nat × Bool × List Nat} {W : List Nat} {o : Nat} (h : QT β E m x W o) (hr : RT β E m' x'.1 x'.2.1) (hfr : ∀ a k, ¬ (a = 112 ∧ 2 ≤ k ∧ k ≤ 6) → m'.1 a k = m.1 a k) (h1 : x'.2.2 = x.2.2) (h2 : x.1 ≤ x'.1) : QT β E m' x' W o := ⟨qg_mv h.1 hr hfr h1 h2, h.2⟩
theorem t_sums {m : ev_M} {x : Nat × Bool × List Nat} {W : List Nat} {o : Nat} (hf : 4000 ≤ f) (h : QT β E m x W o) : (∀ x', PA β E 2 64 0 0 o (.inr x) = .inr x' → ∃ m', FX12_qSums f m = some ((), m') ∧ QT β E m' x' W o) ∧ (∀ e, PA β E 2 64 0 0 o (.inr x) = .inl e → ∃ m', FX12_qSums f m = some ((), m') ∧ RB m' e ∧ CZ m') := by
  obtain ⟨⟨g1, g2, g3, g4, g5, g6, g7, g8, g9, g10, g11, g12, g13⟩, hok, hop⟩ := h
  have hE := g1.1.1
  have hpE := g1.2.1
  have g : ∀ a k, ¬ (a = 112 ∧ k = 97) → ((ev_up m.1 112 97 (m.1 112 95), m.2) : ev_M).1 a k = m.1 a k := fun a k y2 => by
    by_cases e : a = 112
    · subst e; rw [upI_nk _ _ _ _ (by omega)]
    · rw [upI_na _ _ _ _ e]
  have hin : QG β E 2 W.length 0 (m.1 178) (ev_up m.1 112 97 (m.1 112 95), m.2) x [] o := by
    refine ⟨RT_fr g1 (fun a k q => g a k (by omega)), WA_fr g2 (fun a k q => by have := wo_ne q; exact g a k (by omega)), by rw [g _ _ (by omega)]; exact g3, by rw [upI_at, g6, Nat.zero_add], by rw [g _ _ (by omega)]; exact g5, by rw [g _ _ (by omega), g6, Nat.zero_add]; rfl, trivial, by rw [g _ _ (by omega)]; exact g8, cells_fr _ _ (fun i _ _ => g _ _ (by omega)) g9, ?_, fun i q => g _ _ (by omega), Nat.zero_le _, g13⟩
    have : ([] : List Nat).length = 0 := rfl
    omega
  have hG : 0 < W.length → ∃ c, c < 1000 ∧ isA c = false ∧ (m.1 178) (W.length - 1) = Int32.ofNat c := by
    intro hl
    obtain ⟨c, c1, c2, c3⟩ := (stk_get W g7).1 (W.length - 1) (by omega)
    refine ⟨c, c2, ?_, c3⟩
    have := hok c c1
    exact decide_eq_false (by omega)
  obtain ⟨s1, s2⟩ := q_sums hf (by omega) hG hin
  refine ⟨fun x' e => ?_, s2⟩
  obtain ⟨m1, r1, r2⟩ := s1 x' e
  obtain ⟨k1, k2, k3, k4, k5, k6, k7, k8, k9, k10, k11, k12, k13⟩ := r2
  have g' : ∀ a k, ¬ (a = 112 ∧ k = 97) → ((ev_up m1.1 112 97 (m.1 112 97), m1.2) : ev_M).1 a k = m1.1 a k := fun a k y2 => by
    by_cases e : a = 112
    · subst e; rw [upI_nk _ _ _ _ (by omega)]
    · rw [upI_na _ _ _ _ e]
  refine ⟨_, r1, ⟨RT_fr k1 (fun a k q => g' a k (by omega)), WA_fr k2 (fun a k q => by have := wo_ne q; exact g' a k (by omega)), by rw [g' _ _ (by omega)]; exact k3, by rw [upI_at]; exact g4, by rw [g' _ _ (by omega)]; exact k5, by rw [g' _ _ (by omega), k6, Nat.zero_add]; rfl, ?_, by rw [g' _ _ (by omega)]; exact k8, cells_fr _ _ (fun i _ _ => g' _ _ (by omega)) k9, ?_, (fun i q => absurd q (Nat.not_lt_zero i)), g12, g13⟩, hok, hop⟩
  · refine stk_fr W (fun i hi => ?_) g7
    rw [g' _ _ (by omega)]
    exact k11 i (by omega)
  · have : ([] : List Nat).length = 0 := rfl
    omega
theorem t_code {m : ev_M} {x : Nat × Bool × List Nat} {W : List Nat} {o c : Nat} (h : QT β E m x W o) (hb : x.2.2.length + W.length < x.1) : ∃ m', FX12_qCode f (Int32.ofNat c) m = some ((), m') ∧ QT β E m' (x.1, x.2.1, x.2.2 ++ [c]) W o := by
  obtain ⟨m', r1, r2⟩ := @q_code f E 2 0 0 β (fun _ => 0) m x W o c h.1 (by omega)
  exact ⟨m', r1, r2, h.2⟩
/-- a FACT that is no square and no 'not' -/
theorem t_fact {m : ev_M} {x : Nat × Bool × List Nat} {W : List Nat} {o : Nat} (hf : 4000 ≤ f) (h : QT β E m x W o) : (∀ x', tFa β E o (.inr x) = .inr x' → ∃ m', FX12_qFact f m = some ((), m') ∧ QT β E m' x' W o ∧ x.1 < x'.1) ∧ (∀ e, tFa β E o (.inr x) = .inl e → ∃ m', FX12_qFact f m = some ((), m') ∧ RB m' e) := by
  have hE := h.1.1.1.1
  have hpE := h.1.1.2.1
  have hbd := h.1.2.2.2.2.2.2.2.2.2.1
  have ho := h.1.2.2.2.2.2.2.2.2.2.2.2.2
  obtain ⟨m1, t1, t2, t3, t4⟩ := @rt_takesW f E β m (.inr x) 163 hf h.1.2.1 (by decide) h.1.1
  rw [show wix 163 = 20 from by decide] at t1 t2 t3
  unfold FX12_qFact
  rw [t1, bd_some]
  unfold tFa
  by_cases z : yI β E (.inr x) = some 20
  · rw [if_pos z] at t2
    rw [if_pos z, if_pos z, if_neg n10]
    have hk1 : tkK β E x.1 x.2.1 = 1 := yI_k z
    have hB := tkB_lt (w := x.2.1) (show tkK β E x.1 x.2.1 ≠ 0 by rw [hk1]; decide)
    have h1 : QT β E m1 (tkB β E x.1, tkW β E x.1 x.2.1, x.2.2) W o := QT_mv h t2 (fun a k q => t4 a k (by omega)) rfl (by show x.1 ≤ tkB β E x.1; omega)
    obtain ⟨m2, r1, r2⟩ := @t_code f E β m1 _ W o 13 h1 (by show x.2.2.length + W.length < tkB β E x.1; omega)
    have r1' : FX12_qCode f 13 m1 = some ((), m2) := r1
    rw [r1', bd_some]
    refine ⟨fun x' e => ?_, (fun e q => by cases q)⟩
    have : x' = (tkB β E x.1, tkW β E x.1 x.2.1, x.2.2 ++ [13]) := (Sum.inr.inj e).symm
    subst this
    exact ⟨m2, rfl, r2, hB⟩
  rw [if_neg z] at t2
  rw [if_neg z, if_neg z, if_pos rfl]
  have h1 : QT β E m1 x W o := QT_mv h t2 (fun a k q => t4 a k (by omega)) rfl (Nat.le_refl _)
  obtain ⟨s1, s2⟩ := t_sums hf h1
  cases hc : PA β E 2 64 0 0 o (.inr x) with
  | inl e =>
    obtain ⟨m2, r1, r2, r3⟩ := s2 e hc
    rw [r1, bd_some, if_neg (yr_bad r2)]
    have ec : yCmp β E o (.inl e) = .inl e := by
      unfold yCmp
      rw [if_neg (fun q => by cases q), if_neg (fun q => by cases q), if_neg (fun q => by cases q)]
      rfl
    rw [ec]
    exact ⟨(fun x' q => by cases q), (fun e' q => by cases q; exact ⟨m2, rfl, r2⟩)⟩
  | inr x1 =>
    obtain ⟨m2, r1, h2⟩ := s1 x1 hc
    obtain ⟨x0, ex0, pg⟩ := PA_prg (kd := 2) 64 0 0 o (.inr x) (by omega) (by omega) ho x1 hc
    cases ex0
    obtain ⟨m3, l1, l2, l3, l4⟩ := r_look hf h2.1.1
    have h3 : QT β E m3 x1 W o := QT_mv h2 l3 (fun a k q => l4.2 a k (by omega)) rfl (Nat.le_refl _)
    have hbd1 := h3.1.2.2.2.2.2.2.2.2.2.1
    have h5 : m2.1 112 5 = 0 := h2.1.1.2.2.1
    rw [r1, bd_some, if_pos h5, l1, bd_some]
    have sg : sgn 60 ∧ sgn 62 ∧ sgn 61 := by unfold sgn; decide
    have J63 : ∀ (s : Int32) (c : Nat), yS β E s (.inr x1) = true → (∀ (t : Int32 → ev_M → Option (Unit × ev_M)) (m8 : ev_M), (if s = 60 then t 7 m8 else (if s = 62 then t 8 m8 else t 9 m8)) = t (Int32.ofNat c) m8) → (∀ x', yput c (PA β E 2 64 0 0 o (yad β E (.inr x1))) = .inr x' → ∃ m', FX12_qFact_J63 f s m3 = some ((), m') ∧ QT β E m' x' W o ∧ x.1 < x'.1) ∧ (∀ e, yput c (PA β E 2 64 0 0 o (yad β E (.inr x1))) = .inl e → ∃ m', FX12_qFact_J63 f s m3 = some ((), m') ∧ RB m' e) := by
      intro s c hs hsel
      have hk3 : tkK β E x1.1 x1.2.1 = 3 := yS_k hs
      have hk0 : tkK β E x1.1 x1.2.1 ≠ 0 := by rw [hk3]; decide
      have hB := tkB_lt hk0
      have hy := rt_sg l3 l2 hs
      have h4 : QT β E (ev_up m3.1 112 2 (m3.1 112 2 + 1), m3.2) (tkB β E x1.1, tkW β E x1.1 x1.2.1, x1.2.2) W o := QT_mv h3 hy (fun a k z => (on2_up _ _).2 a k (by omega)) rfl (by show x1.1 ≤ tkB β E x1.1; omega)
      obtain ⟨u1, u2⟩ := t_sums hf h4
      have hyx : yad β E (.inr x1) = .inr (tkB β E x1.1, tkW β E x1.1 x1.2.1, x1.2.2) := rfl
      rw [hyx]
      unfold FX12_qFact_J63
      cases hd : PA β E 2 64 0 0 o (.inr (tkB β E x1.1, tkW β E x1.1 x1.2.1, x1.2.2)) with
      | inl e =>
        obtain ⟨m5, v1, v2, z, v3, v4⟩ := u2 e hd
        rw [v1, bd_some, hsel (FX12_qFact_J102 f) m5]
        unfold FX12_qFact_J102 FX12_qCode
        rw [v4, if_pos ((n_in (by omega)).mpr (by omega)), bd_some]
        refine ⟨(fun x' q => by cases q), fun e' q => ?_⟩
        have : e = e' := Sum.inl.inj q
        subst this
        exact ⟨_, rfl, RB_fr v2 (by rw [upI_nk _ _ _ _ (by decide), up_na _ _ _ _ (by decide)]) (by rw [upI_nk _ _ _ _ (by decide), up_na _ _ _ _ (by decide)])⟩
      | inr x2 =>
        obtain ⟨m5, v1, h5⟩ := u1 x2 hd
        rw [v1, bd_some, hsel (FX12_qFact_J102 f) m5]
        unfold FX12_qFact_J102
        obtain ⟨x0, ex0, q1, q2⟩ := PA_slk (kd := 2) 64 0 0 o (.inr (tkB β E x1.1, tkW β E x1.1 x1.2.1, x1.2.2)) (by omega) x2 hd
        cases ex0
        have q1' : tkB β E x1.1 ≤ x2.1 := q1
        have q2' : x2.2.2.length + tkB β E x1.1 + 0 ≤ x1.2.2.length + x2.1 := q2
        obtain ⟨m6, w1, w2⟩ := @t_code f E β m5 x2 W o c h5 (by omega)
        rw [w1, bd_some]
        refine ⟨fun x' e => ?_, (fun e q => by cases q)⟩
        have : x' = (x2.1, x2.2.1, x2.2.2 ++ [c]) := (Sum.inr.inj e).symm
        subst this
        exact ⟨m6, rfl, w2, by show x.1 < x2.1; omega⟩
    unfold yCmp
    by_cases z1 : yS β E 60 (.inr x1) = true
    · rw [if_pos ((yS_lk sg.1).mp z1), (yS_lk sg.1).mp z1, if_pos z1]
      exact J63 60 7 z1 (fun t m8 => rfl)
    rw [if_neg (fun q => z1 ((yS_lk sg.1).mpr q)), if_neg z1]
    by_cases z2 : yS β E 62 (.inr x1) = true
    · rw [if_pos ((yS_lk sg.2.1).mp z2), (yS_lk sg.2.1).mp z2, if_pos z2]
      exact J63 62 8 z2 (fun t m8 => rfl)
    rw [if_neg (fun q => z2 ((yS_lk sg.2.1).mpr q)), if_neg z2]
    by_cases z3 : yS β E 61 (.inr x1) = true
    · rw [if_pos ((yS_lk sg.2.2).mp z3), (yS_lk sg.2.2).mp z3, if_pos z3]
      exact J63 61 9 z3 (fun t m8 => rfl)
    rw [if_neg (fun q => z3 ((yS_lk sg.2.2).mpr q)), if_neg z3]
    obtain ⟨m4, e1, e2⟩ := @yt_fail f E β m3 (.inr x1) 1 l3 (fun x' e => by cases e; exact l2) (by omega) (by omega)
    have e1' : FX12_fail f 1 (m3.1 112 2) m3 = some ((), m4) := e1
    rw [e1', bd_some]
    refine ⟨(fun x' q => by cases q), fun e' q => ?_⟩
    rw [q] at e2
    exact ⟨m4, rfl, e2⟩
theorem t_isOn {m : ev_M} {x : Nat × Bool × List Nat} {W : List Nat} {o c : Nat} (h : QT β E m x W o) (hc : 0 < c) (hc2 : c < 1000) : FX12_qIsOn f (Int32.ofNat c) m = some (if W.headD 0 = c then 1 else 0, m) := by
  unfold FX12_qIsOn
  cases W with
  | cons d V =>
    obtain ⟨t1, t2, t3, t4, t5⟩ := qg_top h.1
    rw [t2, t5, if_neg (fun q => by
      have q' : Int32.ofNat (0 + V.length + 1) ≤ Int32.ofNat 0 := q
      rw [n_le (by omega) (by omega)] at q'
      omega), if_pos ((n_in (by omega)).mpr (by omega)), n_nat (by omega), t3]
    by_cases z : d = c
    · rw [if_pos (by rw [z]), if_pos (show (d :: V).headD 0 = c from z)]
    · rw [if_neg (fun q => z ((n_eq (by omega) (by omega)).mp q)), if_neg (show ¬ (d :: V).headD 0 = c from z)]
  | nil =>
    have g6 := h.1.2.2.2.2.2.1
    rw [if_neg (show ¬ ([] : List Nat).headD 0 = c by show ¬ 0 = c; omega), if_pos (by rw [g6]; decide)]
theorem okW_tl {c : Nat} {V : List Nat} (h : okW (c :: V)) : okW V := fun d hd => h d (List.mem_cons_of_mem _ hd)
theorem opT_tl {c : Nat} {V : List Nat} : opT V ≤ opT (c :: V) := Nat.le_add_right _ _
theorem t_drops {m : ev_M} {x : Nat × Bool × List Nat} {W : List Nat} {o c : Nat} (h : QT β E m x (c :: W) o) : ∃ m', FX12_qDrops f m = some ((), m') ∧ QT β E m' (x.1, x.2.1, x.2.2 ++ [c]) W o := by
  obtain ⟨m', r1, r2⟩ := @q_drops f E 2 0 0 β (fun _ => 0) m x W o c h.1
  exact ⟨m', r1, r2, okW_tl h.2.1, Nat.le_trans opT_tl h.2.2⟩
theorem t_notsL (k : ev_M → Option (Unit × ev_M)) : ∀ (W : List Nat) (n o : Nat) (m : ev_M) (x : Nat × Bool × List Nat), W.length < n → QT β E m x W o → ∃ m' x' W' o', FX12_qDropsNots_L0 f k n m = k m' ∧ QT β E m' x' W' o' ∧ Rt β E (1, .inr x, W, o) (2, .inr x', W', o') ∧ x'.1 = x.1 ∧ x'.2.1 = x.2.1 := by
  intro W
  induction W with
  | nil =>
    intro n o m x hn h
    obtain ⟨n, rfl⟩ : ∃ i, n = i + 1 := ⟨n - 1, by omega⟩
    unfold FX12_qDropsNots_L0
    rw [if_pos h.1.1.2.2.1, show FX12_qIsOn f 12 m = some (if ([] : List Nat).headD 0 = 12 then 1 else 0, m) from t_isOn (c := 12) h (by omega) (by omega), bd_some, if_neg (show ¬ ([] : List Nat).headD 0 = 12 by decide), if_pos rfl]
    exact ⟨m, x, [], o, rfl, h, Rt_1 rfl, rfl, rfl⟩
  | cons c V ih =>
    intro n o m x hn h
    have hl : (c :: V).length = V.length + 1 := rfl
    obtain ⟨n, rfl⟩ : ∃ i, n = i + 1 := ⟨n - 1, by omega⟩
    unfold FX12_qDropsNots_L0
    rw [if_pos h.1.1.2.2.1, show FX12_qIsOn f 12 m = some (if c = 12 then 1 else 0, m) from t_isOn (c := 12) h (by omega) (by omega), bd_some]
    have s1 : stq β E (1, .inr x, c :: V, o) = if c = 12 then (1, yput 12 (.inr x), V, o - 1) else (2, .inr x, c :: V, o) := rfl
    by_cases z : c = 12
    · subst z
      rw [if_pos rfl] at s1
      have hop := h.2.2
      have ho : opT (12 :: V) = opT V + 1 := rfl
      have ho6 := h.1.2.2.2.2.2.2.2.2.2.2.2.2
      have hn12 : opn (12 :: V) = opn V := rfl
      have := opn_T V
      have e1 : m.1 112 96 - 1 = Int32.ofNat (o - 1) := by
        rw [h.1.2.2.2.2.1, show (1 : Int32) = Int32.ofNat 1 from rfl, n_sub (by omega)]
      rw [if_pos rfl, if_neg n10, e1]
      have hq : QT β E (ev_up m.1 112 96 (Int32.ofNat (o - 1)), m.2) x (12 :: V) o ∨ True := Or.inr trivial
      have hg := qg_open h.1 (o' := o - 1) (by omega) (by omega)
      obtain ⟨m1, r1, r2⟩ := @q_drops f E 2 0 0 β (fun _ => 0) _ x V (o - 1) 12 hg
      rw [r1, bd_some]
      obtain ⟨m', x', W', o', q1, q2, q3, q4, q5⟩ := ih n (o - 1) m1 _ (by omega) ⟨r2, okW_tl h.2.1, by omega⟩
      exact ⟨m', x', W', o', q1, q2, Rt_st s1 q3, q4, q5⟩
    · rw [if_neg z] at s1
      rw [if_neg z, if_pos rfl]
      exact ⟨m, x, c :: V, o, rfl, h, Rt_1 s1, rfl, rfl⟩
end
