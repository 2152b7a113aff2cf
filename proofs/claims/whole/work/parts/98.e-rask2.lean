/-! the reading of a question leads to its answer's beginning -/
section
variable {f E : Nat} {β : Nat → Int32}
def QTo (β : Nat → Int32) (E : Nat) (m : ev_M) (y : Yr) : Prop := QTR β E m y [] 0
theorem r_J109 {m : ev_M} {y : Yr} {a : Int32} (hf : 4000 ≤ f) (hb : ∀ i, i < E → ¬ β i = -1) (h : QTo β E m y) : ∃ m', FX12_ask_J109 f a m = FX12_ask_J133 f a m' ∧ QTo β E m' (yEnd β E y) := by
  unfold FX12_ask_J109
  cases y with
  | inl e =>
    have h' : RB m e := h
    rw [if_neg (yr_bad h')]
    refine ⟨m, rfl, ?_⟩
    have : yEnd β E (.inl e) = .inl e := if_neg (show ¬ (4 : Nat) = 0 by decide)
    rw [this]; exact h
  | inr x =>
    have h' : QT β E m x [] 0 := h
    obtain ⟨m1, r1, r2, r3, r4⟩ := r_look hf h'.1.1
    have h1 : QT β E m1 x [] 0 := QT_mv h' r3 (fun a k q => r4.2 a k (by omega)) rfl (Nat.le_refl _)
    have h5 : m.1 112 5 = 0 := h'.1.1.2.2.1
    rw [if_pos h5, r1, bd_some]
    unfold yEnd
    by_cases z : yK β E (.inr x) = 0
    · rw [if_pos ((yK_lk hb).mpr z), if_pos z]
      exact ⟨m1, rfl, h1⟩
    · rw [if_neg (fun q => z ((yK_lk hb).mp q)), if_neg z]
      obtain ⟨m2, e1, e2⟩ := @yt_fail f E β m1 (.inr x) 1 r3 (fun x' e => by cases e; exact r2) (by omega) (by omega)
      have e1' : FX12_fail f 1 (m1.1 112 2) m1 = some ((), m2) := e1
      rw [e1', bd_some]
      exact ⟨m2, rfl, e2⟩
theorem r_read {m : ev_M} (hf : 4000 ≤ f) (hb : ∀ i, i < E → ¬ β i = -1) (h45 : ¬ m.1 112 45 = 0) (h : QT β E (askM m) (0, false, []) [] 0) : ∃ a m', FX12_ask f m = FX12_ask_J133 f a m' ∧ QTo β E m' (yAsk β E) ∧ ((yAsk β E).isRight = true → ∃ w, yI β E y0 = some w ∧ 23 ≤ w ∧ w ≤ 28 ∧ a = Int32.ofNat (w - 23)) := by
  unfold FX12_ask
  rw [if_neg h45]
  have hk := t_kind hf h
  rcases hk with ⟨w, m1, w1, w2, w3, w4, w5⟩ | ⟨nw, m1, w4, w5⟩
  · have w4' : FX12_qKind f (askM m) = some (Int32.ofNat (w - 23), m1) := w4
    have hI : yI β E y0 = some w := w3
    have h5 : m1.1 112 5 = 0 := w5.1.1.2.2.1
    show ∃ a m', ev_bd (FX12_qKind f (askM m)) _ = _ ∧ _
    rw [w4', bd_some, if_pos h5]
    have A0 : yAsk β E = if 23 ≤ w ∧ w ≤ 25 then yEnd β E (TQ β E 64 0 0 (yad β E y0)) else if 26 ≤ w ∧ w ≤ 28 then yEnd β E (PA β E 2 64 0 0 0 (yad β E y0)) else yfail β E 1 y0 := by unfold yAsk; rw [hI]
    by_cases z : 26 ≤ w
    · have A : yAsk β E = yEnd β E (PA β E 2 64 0 0 0 (.inr (tkB β E 0, tkW β E 0 false, []))) := by rw [A0, if_neg (by omega), if_pos (by omega)]; rfl
      rw [if_pos (show (3 : Int32) ≤ Int32.ofNat (w - 23) from (n_le (a := 3) (by omega) (by omega)).mpr (by omega))]
      unfold FX12_ask_J98
      rw [if_pos h5, A]
      obtain ⟨s1, s2⟩ := t_sums hf w5
      cases hc : PA β E 2 64 0 0 0 (.inr (tkB β E 0, tkW β E 0 false, [])) with
      | inl e =>
        obtain ⟨m2, q1, q2, _⟩ := s2 e hc
        rw [q1, bd_some]
        obtain ⟨m3, q3, q4⟩ := @r_J109 f E β m2 (.inl e) (Int32.ofNat (w - 23)) hf hb q2
        exact ⟨_, m3, q3, q4, fun _ => ⟨w, hI, w1, w2, rfl⟩⟩
      | inr x' =>
        obtain ⟨m2, q1, q2⟩ := s1 x' hc
        rw [q1, bd_some]
        obtain ⟨m3, q3, q4⟩ := @r_J109 f E β m2 (.inr x') (Int32.ofNat (w - 23)) hf hb q2
        exact ⟨_, m3, q3, q4, fun _ => ⟨w, hI, w1, w2, rfl⟩⟩
    · have A : yAsk β E = yEnd β E (TQ β E 64 0 0 (.inr (tkB β E 0, tkW β E 0 false, []))) := by rw [A0, if_pos (by omega)]; rfl
      rw [if_neg (show ¬ (3 : Int32) ≤ Int32.ofNat (w - 23) from fun q => by have := (n_le (a := 3) (by omega) (by omega)).mp q; omega), A]
      obtain ⟨s1, s2⟩ := t_test hf w5
      cases hc : TQ β E 64 0 0 (.inr (tkB β E 0, tkW β E 0 false, [])) with
      | inl e =>
        obtain ⟨m2, q1, q2⟩ := s2 e hc
        rw [q1, bd_some]
        obtain ⟨m3, q3, q4⟩ := @r_J109 f E β m2 (.inl e) (Int32.ofNat (w - 23)) hf hb q2
        exact ⟨_, m3, q3, q4, fun _ => ⟨w, hI, w1, w2, rfl⟩⟩
      | inr x' =>
        obtain ⟨m2, q1, q2⟩ := s1 x' hc
        rw [q1, bd_some]
        obtain ⟨m3, q3, q4⟩ := @r_J109 f E β m2 (.inr x') (Int32.ofNat (w - 23)) hf hb q2
        exact ⟨_, m3, q3, q4, fun _ => ⟨w, hI, w1, w2, rfl⟩⟩
  · have w4' : FX12_qKind f (askM m) = some (5, m1) := w4
    have A : yAsk β E = yfail β E 1 y0 := by
      unfold yAsk
      cases hI : yI β E y0 with
      | none => rfl
      | some w =>
        have := nw w hI
        show (if _ then _ else _) = _
        rw [if_neg (by omega), if_neg (by omega)]
    show ∃ a m', ev_bd (FX12_qKind f (askM m)) _ = _ ∧ _
    rw [w4', bd_some, if_neg (yr_bad w5), A]
    unfold FX12_ask_J98
    rw [if_neg (yr_bad w5)]
    obtain ⟨m3, q3, q4⟩ := @r_J109 f E β m1 (.inl (1, sk β E 0)) 5 hf hb w5
    have ey : yEnd β E (.inl (1, sk β E 0)) = yfail β E 1 y0 := if_neg (show ¬ (4 : Nat) = 0 by decide)
    rw [ey] at q4
    exact ⟨5, m3, q3, q4, fun q => by cases q⟩
end
