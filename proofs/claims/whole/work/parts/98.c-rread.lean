/-! the reference reads a QUESTION -/
section
variable {f E : Nat} {β : Nat → Int32}
/-- the kind of a question by its word -/
theorem QT_on {m m' : ev_M} {x : Nat × Bool × List Nat} {W : List Nat} {o : Nat} (h : QT β E m x W o) (hr : RT β E m' x.1 x.2.1) (hfr : ∀ a k, ¬ (a = 112 ∧ (k = 2 ∨ k = 4)) → m'.1 a k = m.1 a k) : QT β E m' x W o := QT_mv h hr (fun a k q => hfr a k (by omega)) rfl (Nat.le_refl _)
theorem t_kind {m : ev_M} {x : Nat × Bool × List Nat} (hf : 4000 ≤ f) (h : QT β E m x [] 0) : (∃ w m', 23 ≤ w ∧ w ≤ 28 ∧ yI β E (.inr x) = some w ∧ FX12_qKind f m = some (Int32.ofNat (w - 23), m') ∧ QT β E m' (tkB β E x.1, tkW β E x.1 x.2.1, x.2.2) [] 0) ∨ ((∀ w, yI β E (.inr x) = some w → ¬ (23 ≤ w ∧ w ≤ 28)) ∧ ∃ m', FX12_qKind f m = some (5, m') ∧ RB m' (1, sk β E x.1)) := by
  have nx : ∀ (m1 : ev_M) (w : Nat), yI β E (.inr x) = some w → (∀ a k, ¬ (a = 112 ∧ 2 ≤ k ∧ k ≤ 6) → m1.1 a k = m.1 a k) → YT β E m1 (yad β E (.inr x)) → QT β E m1 (tkB β E x.1, tkW β E x.1 x.2.1, x.2.2) [] 0 := by
    intro m1 w hw hfr hy
    have hk1 : tkK β E x.1 x.2.1 = 1 := yI_k hw
    have hB := tkB_lt (w := x.2.1) (show tkK β E x.1 x.2.1 ≠ 0 by rw [hk1]; decide)
    exact QT_mv h hy hfr rfl (by show x.1 ≤ tkB β E x.1; omega)
  unfold FX12_qKind
  obtain ⟨k0, a0, b0, c0, d0⟩ := @rt_takesW f E β m (.inr x) 154 hf h.1.2.1 (by decide) h.1.1
  rw [show wix 154 = 23 from by decide] at a0 b0 c0
  rw [a0, bd_some]
  by_cases z0 : yI β E (.inr x) = some 23
  · rw [if_pos z0] at b0
    rw [if_pos z0, if_neg n10]
    unfold FX12_qKind_J76
    rw [if_neg (by decide)]
    exact Or.inl ⟨23, k0, by omega, by omega, z0, rfl, nx k0 23 z0 (fun a k q => d0 a k (by omega)) b0⟩
  rw [if_neg z0] at b0
  rw [if_neg z0, if_pos rfl]
  have e0 : ∀ a k, ¬ (a = 112 ∧ 2 ≤ k ∧ k ≤ 6) → k0.1 a k = m.1 a k := fun a k q => d0 a k (by omega)
  have h0 : QT β E k0 x [] 0 := QT_on h b0 d0
  obtain ⟨k1, a1, b1, c1, d1⟩ := @rt_takesW f E β k0 (.inr x) 155 hf h0.1.2.1 (by decide) h0.1.1
  rw [show wix 155 = 24 from by decide] at a1 b1 c1
  rw [a1, bd_some]
  by_cases z1 : yI β E (.inr x) = some 24
  · rw [if_pos z1] at b1
    rw [if_pos z1, if_neg n10]
    unfold FX12_qKind_J76
    rw [if_neg (by decide)]
    exact Or.inl ⟨24, k1, by omega, by omega, z1, rfl, nx k1 24 z1 (fun a k q => (d1 a k (by omega)).trans (e0 a k q)) b1⟩
  rw [if_neg z1] at b1
  rw [if_neg z1, if_pos rfl]
  have e1 : ∀ a k, ¬ (a = 112 ∧ 2 ≤ k ∧ k ≤ 6) → k1.1 a k = m.1 a k := fun a k q => (d1 a k (by omega)).trans (e0 a k q)
  have h1 : QT β E k1 x [] 0 := QT_on h0 b1 d1
  obtain ⟨k2, a2, b2, c2, d2⟩ := @rt_takesW f E β k1 (.inr x) 156 hf h1.1.2.1 (by decide) h1.1.1
  rw [show wix 156 = 25 from by decide] at a2 b2 c2
  rw [a2, bd_some]
  by_cases z2 : yI β E (.inr x) = some 25
  · rw [if_pos z2] at b2
    rw [if_pos z2, if_neg n10]
    unfold FX12_qKind_J76
    rw [if_neg (by decide)]
    exact Or.inl ⟨25, k2, by omega, by omega, z2, rfl, nx k2 25 z2 (fun a k q => (d2 a k (by omega)).trans (e1 a k q)) b2⟩
  rw [if_neg z2] at b2
  rw [if_neg z2, if_pos rfl]
  have e2 : ∀ a k, ¬ (a = 112 ∧ 2 ≤ k ∧ k ≤ 6) → k2.1 a k = m.1 a k := fun a k q => (d2 a k (by omega)).trans (e1 a k q)
  have h2 : QT β E k2 x [] 0 := QT_on h1 b2 d2
  obtain ⟨k3, a3, b3, c3, d3⟩ := @rt_takesW f E β k2 (.inr x) 157 hf h2.1.2.1 (by decide) h2.1.1
  rw [show wix 157 = 26 from by decide] at a3 b3 c3
  rw [a3, bd_some]
  by_cases z3 : yI β E (.inr x) = some 26
  · rw [if_pos z3] at b3
    rw [if_pos z3, if_neg n10]
    unfold FX12_qKind_J76
    rw [if_neg (by decide)]
    exact Or.inl ⟨26, k3, by omega, by omega, z3, rfl, nx k3 26 z3 (fun a k q => (d3 a k (by omega)).trans (e2 a k q)) b3⟩
  rw [if_neg z3] at b3
  rw [if_neg z3, if_pos rfl]
  have e3 : ∀ a k, ¬ (a = 112 ∧ 2 ≤ k ∧ k ≤ 6) → k3.1 a k = m.1 a k := fun a k q => (d3 a k (by omega)).trans (e2 a k q)
  have h3 : QT β E k3 x [] 0 := QT_on h2 b3 d3
  obtain ⟨k4, a4, b4, c4, d4⟩ := @rt_takesW f E β k3 (.inr x) 158 hf h3.1.2.1 (by decide) h3.1.1
  rw [show wix 158 = 27 from by decide] at a4 b4 c4
  rw [a4, bd_some]
  by_cases z4 : yI β E (.inr x) = some 27
  · rw [if_pos z4] at b4
    rw [if_pos z4, if_neg n10]
    unfold FX12_qKind_J76
    rw [if_neg (by decide)]
    exact Or.inl ⟨27, k4, by omega, by omega, z4, rfl, nx k4 27 z4 (fun a k q => (d4 a k (by omega)).trans (e3 a k q)) b4⟩
  rw [if_neg z4] at b4
  rw [if_neg z4, if_pos rfl]
  have e4 : ∀ a k, ¬ (a = 112 ∧ 2 ≤ k ∧ k ≤ 6) → k4.1 a k = m.1 a k := fun a k q => (d4 a k (by omega)).trans (e3 a k q)
  have h4 : QT β E k4 x [] 0 := QT_on h3 b4 d4
  unfold FX12_qKind_J76
  obtain ⟨m5, u1, u2⟩ := @rt_asksW f E β k4 (.inr x) 159 hf h4.1.2.1 (by decide) h4.1.1
  rw [show wix 159 = 28 from by decide] at u2
  rw [if_pos rfl, u1, bd_some]
  unfold ytW at u2
  by_cases z5 : yI β E (.inr x) = some 28
  · rw [if_pos z5] at u2
    exact Or.inl ⟨28, m5, by omega, by omega, z5, rfl, nx m5 28 z5 (fun a k q => ((MDX12_asks u1 a k (by unfold mdX12_asks; omega)).1).trans (e4 a k q)) u2⟩
  · rw [if_neg z5] at u2
    refine Or.inr ⟨fun w hw q => ?_, m5, rfl, u2⟩
    have cs : w = 23 ∨ w = 24 ∨ w = 25 ∨ w = 26 ∨ w = 27 ∨ w = 28 := by omega
    rcases cs with e | e | e | e | e | e <;> subst e
    · exact z0 hw
    · exact z1 hw
    · exact z2 hw
    · exact z3 hw
    · exact z4 hw
    · exact z5 hw
end
