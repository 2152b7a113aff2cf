/-! the reference reads a CASTLE -/
section
variable {f E : Nat} {β : Nat → Int32}
theorem r_run {k : ev_M → Option (Int32 × ev_M)} {m0 : ev_M} (hf : 4000 ≤ f) (hb : ∀ i, i < E → ¬ β i = -1) : ∀ (n g rd : Nat) (m : ev_M) (R : Yr × sp_Q), rd + n = 60 → n + 1 < g → ROut β E m0 m R → m.1 112 44 = Int32.ofNat rd → ∃ m', FX12_castle_L87 f k g m = k m' ∧ ROut β E m0 m' (yFin β E (yRun β E n R rd).1.1, (yRun β E n R rd).1.2) ∧ ((yFin β E (yRun β E n R rd).1.1).isRight = true → m'.1 112 44 = Int32.ofNat (yRun β E n R rd).2) ∧ m'.1 112 34 = m.1 112 34 := by
  -- a fault ends it
  have badE : ∀ (g : Nat) (m : ev_M) (e : Nat × Nat), 0 < g → RB m e → FX12_castle_L87 f k g m = k m := by
    intro g m e hg h
    obtain ⟨g, rfl⟩ : ∃ w, g = w + 1 := ⟨g - 1, by omega⟩
    rw [FX12_castle_L87, if_neg (yr_bad h)]
  have finI : ∀ e : Nat × Nat, yFin β E (.inl e) = .inl e := fun e => if_neg (show ¬ (4 : Nat) = 0 by decide)
  have bad : ∀ (n g rd : Nat) (m : ev_M) (R : Yr × sp_Q) (e : Nat × Nat), R.1 = .inl e → 0 < g → ROut β E m0 m R → ∃ m', FX12_castle_L87 f k g m = k m' ∧ ROut β E m0 m' (yFin β E (yRun β E n R rd).1.1, (yRun β E n R rd).1.2) ∧ ((yFin β E (yRun β E n R rd).1.1).isRight = true → m'.1 112 44 = Int32.ofNat (yRun β E n R rd).2) ∧ m'.1 112 34 = m.1 112 34 := by
    intro n g rd m R e h hg h3
    have hB : RB m e := by have := h3.1; rw [h] at this; exact this
    rw [yRun_b h]
    have e1 : yFin β E R.1 = .inl e := by rw [h, finI]
    refine ⟨m, badE g m e hg hB, ?_, fun q => ?_, rfl⟩
    · show ROut β E m0 m (yFin β E R.1, R.2)
      rw [e1]
      exact ⟨hB, h3.2.1, h3.2.2.1, fun x' q => by cases q⟩
    · have q' : (yFin β E R.1).isRight = true := q
      rw [e1] at q'; cases q'
  -- the end of the text
  have stop : ∀ (n g rd : Nat) (m : ev_M) (R : Yr × sp_Q) (x : Nat × Bool × List Nat), R.1 = .inr x → tkK β E x.1 x.2.1 = 0 → 0 < g → ROut β E m0 m R → m.1 112 44 = Int32.ofNat rd → ∃ m', FX12_castle_L87 f k g m = k m' ∧ ROut β E m0 m' (yFin β E (yRun β E n R rd).1.1, (yRun β E n R rd).1.2) ∧ ((yFin β E (yRun β E n R rd).1.1).isRight = true → m'.1 112 44 = Int32.ofNat (yRun β E n R rd).2) ∧ m'.1 112 34 = m.1 112 34 := by
    intro n g rd m R x h hk hg h3 h44
    obtain ⟨g, rfl⟩ : ∃ w, g = w + 1 := ⟨g - 1, by omega⟩
    have hy : RT β E m x.1 x.2.1 := by have := h3.1; rw [h] at this; exact this
    obtain ⟨m1, r1, r2, r3, r4⟩ := r_look hf hy
    have d1 := rdo_look r1
    rw [FX12_castle_L87, if_pos hy.2.2.1, r1, bd_some, if_pos ((yK_lk hb (x := x)).mpr hk), yRun_e h hk]
    have e1 : yFin β E R.1 = .inr x := by rw [h]; exact if_pos hk
    have hx : x.1 ≤ 1600 := by have := hy.2.1; have := hy.1.1; omega
    refine ⟨m1, rfl, ?_, fun _ => ?_, (d1 _ _ (by omega)).1⟩
    · show ROut β E m0 m1 (yFin β E R.1, R.2)
      rw [e1]
      exact ⟨r3, rdo_WA d1 h3.2.1, KPm_tr h3.2.2.1 (KPm_rdo d1), fun x' q => by cases q; exact RQq_rdo d1 (h3.2.2.2 x h) (Nat.le_refl _) hx⟩
    · show m1.1 112 44 = Int32.ofNat rd
      rw [(d1 _ _ (by omega)).1]; exact h44
  intro n
  induction n with
  | zero =>
    intro g rd m R h1 h2 h3 h44
    cases h : R.1 with
    | inl e => exact bad 0 g rd m R e h (by omega) h3
    | inr x =>
      by_cases hk : tkK β E x.1 x.2.1 = 0
      · exact stop 0 g rd m R x h hk (by omega) h3 h44
      · obtain ⟨g, rfl⟩ : ∃ w, g = w + 1 := ⟨g - 1, by omega⟩
        have hy : RT β E m x.1 x.2.1 := by have := h3.1; rw [h] at this; exact this
        have hsk := sk_le (β := β) hy.2.1
        have hE := hy.1.1
        obtain ⟨m1, r1, r2, r3, r4⟩ := r_look hf hy
        have d1 := rdo_look r1
        have e60 : m1.1 112 44 = 60 := by rw [(d1 _ _ (by omega)).1, h44, show rd = 60 by omega]; rfl
        obtain ⟨m2, s1, s2⟩ := @r_failG f m1 5 (sk β E x.1) r3.2.2.1 (by omega) (by omega)
        have s1' : FX12_fail f 5 (m1.1 112 2) m1 = some ((), m2) := by rw [r2]; exact s1
        have d2 := rdo_tr d1 (rdo_fail s1)
        rw [FX12_castle_L87, if_pos hy.2.2.1, r1, bd_some, if_neg (fun q => hk ((yK_lk hb (x := x)).mp q))]
        unfold FX12_statementTold
        rw [if_pos e60, s1', bd_some, bd_some, badE g m2 _ (by omega) s2]
        have e1 : yFin β E R.1 = .inl (5, sk β E x.1) := by rw [h]; exact if_neg hk
        refine ⟨m2, rfl, ?_, fun q => ?_, (d2 _ _ (by omega)).1⟩
        · show ROut β E m0 m2 (yFin β E R.1, R.2)
          rw [e1]
          exact ⟨s2, rdo_WA d2 h3.2.1, KPm_tr h3.2.2.1 (KPm_rdo d2), fun x' q => by cases q⟩
        · have q' : (yFin β E R.1).isRight = true := q
          rw [e1] at q'; cases q'
  | succ n ih =>
    intro g rd m R h1 h2 h3 h44
    cases h : R.1 with
    | inl e => exact bad (n + 1) g rd m R e h (by omega) h3
    | inr x =>
      by_cases hk : tkK β E x.1 x.2.1 = 0
      · exact stop (n + 1) g rd m R x h hk (by omega) h3 h44
      · obtain ⟨g, rfl⟩ : ∃ w, g = w + 1 := ⟨g - 1, by omega⟩
        have hy : RT β E m x.1 x.2.1 := by have := h3.1; rw [h] at this; exact this
        have hx : x.1 ≤ 1600 := by have := hy.2.1; have := hy.1.1; omega
        obtain ⟨m1, r1, r2, r3, r4⟩ := r_look hf hy
        have d1 := rdo_look r1
        have e44 : m1.1 112 44 = Int32.ofNat rd := by rw [(d1 _ _ (by omega)).1, h44]
        obtain ⟨m2, s1, s2, s3⟩ := @r_stat f E β m1 x R.2 hf (rdo_WA d1 h3.2.1) r3 r2 (RQq_rdo d1 (h3.2.2.2 x h) (Nat.le_refl _) hx) (by rw [e44]; exact fun q => by have := (n_is 60 60 rfl (by omega) (by omega)).mp q; omega)
        rw [FX12_castle_L87, if_pos hy.2.2.1, r1, bd_some, if_neg (fun q => hk ((yK_lk hb (x := x)).mp q)), s1, bd_some, yRun_s h hk]
        obtain ⟨m', t1, t2, t3, t4⟩ := ih g (rd + 1) m2 (ySt β E R.2 x) (by omega) (by omega) ⟨s2.1, s2.2.1, KPm_tr (KPm_tr h3.2.2.1 (KPm_rdo d1)) s2.2.2.1, s2.2.2.2⟩ (by rw [s3, e44, s_1])
        exact ⟨m', t1, t2, t3, by rw [t4, (MDX12_statementTold s1 112 34 (by unfold mdX12_statementTold; omega)).1, (d1 _ _ (by omega)).1]⟩
def casM (m : ev_M) : ev_M := ((ev_up (ev_up (ev_up (ev_up (ev_up (ev_up (ev_up (ev_up (ev_up (ev_up (ev_up (ev_up (ev_up m.1 112 3 (m.1 112 1)) 112 1 0) 112 2 0) 112 4 (-1)) 112 5 0) 112 6 (-1)) 112 43 0) 112 35 0) 141 0 (-1)) 141 1 (-1)) 140 0 4) 140 1 3) 140 2 0), m.2)
theorem cas_112 {m : ev_M} {k : Nat} : (casM m).1 112 k = if k = 35 ∨ k = 43 then 0 else if k = 6 then -1 else if k = 5 then 0 else if k = 4 then -1 else if k = 2 ∨ k = 1 then 0 else if k = 3 then m.1 112 1 else m.1 112 k := by
  unfold casM
  have h1 : (112 : Nat) ≠ 140 := by decide
  have h2 : (112 : Nat) ≠ 141 := by decide
  rw [upI_na _ _ _ _ h1, up_na _ _ _ _ h1, up_na _ _ _ _ h1, up_na _ _ _ _ h2, up_na _ _ _ _ h2, ev_up_at, ev_up_at, ev_up_at, ev_up_at, ev_up_at, ev_up_at, ev_up_at, ev_up_at]
  by_cases e35 : k = 35
  · rw [if_pos e35, if_pos (Or.inl e35)]
  rw [if_neg e35]
  by_cases e43 : k = 43
  · rw [if_pos e43, if_pos (Or.inr e43)]
  rw [if_neg e43, if_neg (show ¬ (k = 35 ∨ k = 43) by omega)]
  by_cases e6 : k = 6
  · rw [if_pos e6, if_pos e6]
  rw [if_neg e6, if_neg e6]
  by_cases e5 : k = 5
  · rw [if_pos e5, if_pos e5]
  rw [if_neg e5, if_neg e5]
  by_cases e4 : k = 4
  · rw [if_pos e4, if_pos e4]
  rw [if_neg e4, if_neg e4]
  by_cases e2 : k = 2
  · rw [if_pos e2, if_pos (Or.inl e2)]
  rw [if_neg e2]
  by_cases e1 : k = 1
  · rw [if_pos e1, if_pos (Or.inr e1)]
  rw [if_neg e1, if_neg (show ¬ (k = 2 ∨ k = 1) by omega)]
theorem cas_fr {m : ev_M} {a k : Nat} (h1 : a ≠ 112) (h2 : ¬ (a = 141 ∧ k < 2)) (h3 : ¬ (a = 140 ∧ k < 3)) : (casM m).1 a k = m.1 a k := by
  unfold casM
  by_cases e : a = 140
  · subst e
    rw [upI_nk _ _ _ _ (by omega), up_nk _ _ _ (by omega), up_nk _ _ _ (by omega), up_na _ _ _ _ (by decide), up_na _ _ _ _ (by decide), up_na _ _ _ _ h1, up_na _ _ _ _ h1, up_na _ _ _ _ h1, up_na _ _ _ _ h1, up_na _ _ _ _ h1, up_na _ _ _ _ h1, up_na _ _ _ _ h1, up_na _ _ _ _ h1]
  · rw [upI_na _ _ _ _ e, up_na _ _ _ _ e, up_na _ _ _ _ e]
    by_cases e2 : a = 141
    · subst e2
      rw [up_nk _ _ _ (by omega), up_nk _ _ _ (by omega), up_na _ _ _ _ h1, up_na _ _ _ _ h1, up_na _ _ _ _ h1, up_na _ _ _ _ h1, up_na _ _ _ _ h1, up_na _ _ _ _ h1, up_na _ _ _ _ h1, up_na _ _ _ _ h1]
    · rw [up_na _ _ _ _ e2, up_na _ _ _ _ e2, up_na _ _ _ _ h1, up_na _ _ _ _ h1, up_na _ _ _ _ h1, up_na _ _ _ _ h1, up_na _ _ _ _ h1, up_na _ _ _ _ h1, up_na _ _ _ _ h1, up_na _ _ _ _ h1]
theorem cas_s {m : ev_M} : (casM m).1 141 0 = -1 ∧ (casM m).1 141 1 = -1 ∧ (casM m).1 140 0 = 4 ∧ (casM m).1 140 1 = 3 ∧ (casM m).1 140 2 = 0 := by
  unfold casM
  refine ⟨?_, ?_, ?_, ?_, ?_⟩
  · rw [upI_na _ _ _ _ (by decide), up_na _ _ _ _ (by decide), up_na _ _ _ _ (by decide), up_nk _ _ _ (by decide), up_at]
  · rw [upI_na _ _ _ _ (by decide), up_na _ _ _ _ (by decide), up_na _ _ _ _ (by decide), up_at]
  · rw [upI_nk _ _ _ _ (by decide), up_nk _ _ _ (by decide), up_at]
  · rw [upI_nk _ _ _ _ (by decide), up_at]
  · rw [upI_at]
/-- it is read to its end -/
theorem r_from {m : ev_M} (hf : 4000 ≤ f) (hb : ∀ i, i < E → ¬ β i = -1) (hE : E ≤ 1600) (h1 : m.1 112 1 = Int32.ofNat E) (hβ : ∀ i, i < 1600 → m.1 113 i = β i) (hw : WA m) : ∃ m', FX12_castle f m = FX12_castle_J109 f m' ∧ ROut β E (casM m) m' (yEnds β E, (yAll β E).1.2) ∧ ((yEnds β E).isRight = true → m'.1 112 44 = Int32.ofNat (yAll β E).2 ∧ m'.1 112 34 = Int32.ofNat (yval β E (yCall β E))) := by
  have hRT : RT β E (casM m) 0 false := by
    refine ⟨⟨hE, by rw [cas_112, if_neg (by omega), if_neg (by omega), if_neg (by omega), if_neg (by omega), if_neg (by omega), if_pos rfl]; exact h1, fun i hi => by rw [cas_fr (by omega) (by omega) (by omega)]; exact hβ i hi⟩, Nat.zero_le _, by rw [cas_112, if_neg (by omega), if_neg (by omega), if_pos rfl], by rw [cas_112, if_neg (by omega), if_pos rfl], ⟨0, Nat.le_refl _, Nat.zero_le _, by rw [cas_112, if_neg (by omega), if_neg (by omega), if_neg (by omega), if_neg (by omega), if_pos (Or.inl rfl)]; rfl⟩, ?_⟩
    rw [if_neg (by decide), cas_112, if_neg (by omega), if_neg (by omega), if_neg (by omega), if_pos rfl]
    decide
  have hw0 : WA (casM m) := WA_fr hw (fun a k q => cas_fr (wo_ne q).1 (by intro z; rw [z.1] at q; revert q; decide) (by intro z; rw [z.1] at q; revert q; decide))
  have y0' : YT β E (casM m) (.inr (0, false, [])) := hRT
  obtain ⟨m2, a1, a2⟩ := @rt_asksW f E β (casM m) (.inr (0, false, [])) 115 hf hw0 (by decide) y0'
  rw [show wix 115 = 0 from by decide] at a2
  have d2 := rdo_asks a1
  obtain ⟨v, m4, b1, b2, b3⟩ := @rt_num f E β m2 _ 0 9 hf (by omega) (by omega) a2
  have b1' : FX12_number f 0 9 m2 = some (v, m4) := b1
  have d4 := rdo_tr d2 (rdo_num b1)
  have g34 : ∀ a k, ¬ (a = 112 ∧ k = 34) → ((ev_up m4.1 112 34 v, m4.2) : ev_M).1 a k = m4.1 a k := fun a k q => by
    by_cases e : a = 112
    · subst e; rw [upI_nk _ _ _ _ (by omega)]
    · rw [upI_na _ _ _ _ e]
  have b2' : YT β E (ev_up m4.1 112 34 v, m4.2) (ytN β E 0 9 (yCall β E)) := YT_fr b2 (fun a k q => g34 _ _ (by omega))
  obtain ⟨m6, c1, c2⟩ := rt_asksS (f := f) hf sg59 b2'
  have d6 := rdo_sign c1
  have g6 : ∀ a k, ¬ (a = 112 ∧ (k = 2 ∨ k = 4 ∨ k = 5 ∨ k = 6 ∨ k = 33 ∨ k = 34)) → m6.1 a k = (casM m).1 a k ∧ m6.2 a k = (casM m).2 a k := fun a k q => by
    have q1 := d6 a k (by omega)
    have q2 := d4 a k (by omega)
    exact ⟨by rw [q1.1, g34 _ _ (by omega)]; exact q2.1, by rw [q1.2]; exact q2.2⟩
  have g44 : ∀ a k, ¬ (a = 112 ∧ k = 44) → ((ev_up m6.1 112 44 1, m6.2) : ev_M).1 a k = m6.1 a k := fun a k q => by
    by_cases e : a = 112
    · subst e; rw [upI_nk _ _ _ _ (by omega)]
    · rw [upI_na _ _ _ _ e]
  obtain ⟨s1, s2, s3, s4, s5⟩ := @cas_s m
  have hO : ROut β E (casM m) (ev_up m6.1 112 44 1, m6.2) (yBeg β E) := by
    refine ⟨YT_fr c2 (fun a k q => g44 _ _ (by omega)), WA_fr hw0 (fun a k q => by have := (wo_ne q).1; rw [g44 _ _ (by omega), (g6 _ _ (by omega)).1]), ⟨fun a k q => by rw [g44 _ _ (by unfold prot relM at q; omega), (g6 _ _ (by unfold prot relM at q; omega)).1], fun k _ => (g6 _ _ (by omega)).2, (g6 _ _ (by omega)).2⟩, fun x' e => ?_⟩
    have hx' : x'.1 ≤ 1600 := by
      have e' : ytS β E 59 (ytN β E 0 9 (yCall β E)) = .inr x' := e
      rw [e'] at c2
      have c2' : RT β E m6 x'.1 x'.2.1 := c2
      have := c2'.2.1
      omega
    refine ⟨⟨Nat.zero_le _, ?_, fun t u => absurd u (Nat.not_lt_zero t)⟩, ⟨?_, ?_, ?_⟩, 0, Nat.zero_le _, hx', ?_, ?_, ?_⟩
    · rw [g44 _ _ (by omega), (g6 _ _ (by omega)).1, cas_112, if_pos (by omega)]; rfl
    · rw [g44 _ _ (by omega), (g6 _ _ (by omega)).1, s3]; rfl
    · rw [g44 _ _ (by omega), (g6 _ _ (by omega)).1, s4]; rfl
    · rw [g44 _ _ (by omega), (g6 _ _ (by omega)).1, s5]; rfl
    · rw [g44 _ _ (by omega), (g6 _ _ (by omega)).1, cas_112, if_pos (by omega)]; rfl
    · show ((ev_up m6.1 112 44 1, m6.2) : ev_M).1 141 0 = -1
      rw [g44 _ _ (by omega), (g6 _ _ (by omega)).1, s1]
    · show ((ev_up m6.1 112 44 1, m6.2) : ev_M).1 141 1 = -1
      rw [g44 _ _ (by omega), (g6 _ _ (by omega)).1, s2]
  obtain ⟨m', t1, t2, t3, t4⟩ := @r_run f E β (fun m7 => (FX12_castle_J109 f m7)) (casM m) hf hb 59 f 1 (ev_up m6.1 112 44 1, m6.2) (yBeg β E) (by omega) (by omega) hO (upI_at _ _ _ _ _)
  refine ⟨m', ?_, t2, fun hr => ⟨t3 hr, ?_⟩⟩
  · unfold FX12_castle
    show ev_bd (FX12_callTold0 f (casM m)) _ = _
    unfold FX12_callTold0
    rw [a1, bd_some, b1', bd_some, c1, bd_some, bd_some]
    exact t1
  · have back : ∀ (n rd : Nat) (R : Yr × sp_Q), ((yRun β E n R rd).1.1).isRight = true → R.1.isRight = true := by
      intro n rd R hq
      cases hh : R.1 with
      | inl e => rw [yRun_b hh, hh] at hq; exact hq
      | inr x => rfl
    have h1' : ((yAll β E).1.1).isRight = true := by
      cases hh : (yAll β E).1.1 with
      | inl e =>
        have : yEnds β E = .inl e := by unfold yEnds yFin; rw [hh]; exact if_neg (show ¬ (4 : Nat) = 0 by decide)
        rw [this] at hr; exact hr
      | inr x => rfl
    have h3 : (ytN β E 0 9 (yCall β E)).isRight = true := S_right (back 59 1 (yBeg β E) h1')
    rw [t4, g44 _ _ (by omega), (d6 _ _ (by omega)).1, upI_at, b3 h3]
    rfl
end
