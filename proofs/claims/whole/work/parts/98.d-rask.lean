/-! the reference reads a QUESTION to its end -/
section
variable {f E : Nat} {β : Nat → Int32}
theorem yK_lk {x : Nat × Bool × List Nat} (hb : ∀ i, i < E → ¬ β i = -1) : lk β E x.1 = -1 ↔ yK β E (.inr x) = 0 := by
  unfold lk
  constructor
  · intro h
    by_cases z : sk β E x.1 < E
    · rw [if_pos z] at h; exact absurd h (hb _ z)
    · show tkK β E x.1 x.2.1 = 0
      unfold tkK; rw [if_pos (by omega)]
  · intro h
    have h' : tkK β E x.1 x.2.1 = 0 := h
    by_cases z : sk β E x.1 < E
    · exfalso
      unfold tkK at h'
      rw [if_neg (by omega)] at h'
      split at h'
      · split at h' <;> omega
      · split at h'
        · split at h' <;> omega
        · omega
    · rw [if_neg z]
/-- what stands before the answer -/
def askM (m : ev_M) : ev_M := ((ev_up (ev_up (ev_up (ev_up (ev_up (ev_up (ev_up (ev_up (ev_up (ev_up (ev_up m.1 112 3 (m.1 112 1)) 112 1 0) 112 2 0) 112 4 (-1)) 112 5 0) 112 6 (-1)) 112 46 2) 112 93 0) 112 95 0) 112 96 0) 112 97 0), m.2)
theorem ask_fr {m : ev_M} {a k : Nat} (h : a ≠ 112) : (askM m).1 a k = m.1 a k := by
  unfold askM
  rw [upI_na _ _ _ _ h, up_na _ _ _ _ h, up_na _ _ _ _ h, up_na _ _ _ _ h, up_na _ _ _ _ h, up_na _ _ _ _ h, up_na _ _ _ _ h, up_na _ _ _ _ h, up_na _ _ _ _ h, up_na _ _ _ _ h, up_na _ _ _ _ h]
theorem ask_QT {m : ev_M} (hE : E ≤ 1600) (h1 : m.1 112 1 = Int32.ofNat E) (hβ : ∀ i, i < 1600 → m.1 113 i = β i) (hw : WA m) : QT β E (askM m) (0, false, []) [] 0 := by
  have s : ∀ k v, (askM m).1 112 k = v ↔ (ev_up (ev_up (ev_up (ev_up (ev_up (ev_up (ev_up (ev_up (ev_up (ev_up (ev_up m.1 112 3 (m.1 112 1)) 112 1 0) 112 2 0) 112 4 (-1)) 112 5 0) 112 6 (-1)) 112 46 2) 112 93 0) 112 95 0) 112 96 0) 112 97 0) 112 k = v := fun k v => Iff.rfl
  have c97 : (askM m).1 112 97 = 0 := by rw [s, up_at]
  have c96 : (askM m).1 112 96 = 0 := by rw [s, up_nk _ _ _ (by decide), up_at]
  have c95 : (askM m).1 112 95 = 0 := by rw [s, up_nk _ _ _ (by decide), up_nk _ _ _ (by decide), up_at]
  have c93 : (askM m).1 112 93 = 0 := by rw [s, up_nk _ _ _ (by decide), up_nk _ _ _ (by decide), up_nk _ _ _ (by decide), up_at]
  have c46 : (askM m).1 112 46 = 2 := by rw [s, up_nk _ _ _ (by decide), up_nk _ _ _ (by decide), up_nk _ _ _ (by decide), up_nk _ _ _ (by decide), up_at]
  have c6 : (askM m).1 112 6 = -1 := by rw [s, up_nk _ _ _ (by decide), up_nk _ _ _ (by decide), up_nk _ _ _ (by decide), up_nk _ _ _ (by decide), up_nk _ _ _ (by decide), up_at]
  have c5 : (askM m).1 112 5 = 0 := by rw [s, up_nk _ _ _ (by decide), up_nk _ _ _ (by decide), up_nk _ _ _ (by decide), up_nk _ _ _ (by decide), up_nk _ _ _ (by decide), up_nk _ _ _ (by decide), up_at]
  have c4 : (askM m).1 112 4 = -1 := by rw [s, up_nk _ _ _ (by decide), up_nk _ _ _ (by decide), up_nk _ _ _ (by decide), up_nk _ _ _ (by decide), up_nk _ _ _ (by decide), up_nk _ _ _ (by decide), up_nk _ _ _ (by decide), up_at]
  have c2 : (askM m).1 112 2 = 0 := by rw [s, up_nk _ _ _ (by decide), up_nk _ _ _ (by decide), up_nk _ _ _ (by decide), up_nk _ _ _ (by decide), up_nk _ _ _ (by decide), up_nk _ _ _ (by decide), up_nk _ _ _ (by decide), up_nk _ _ _ (by decide), up_at]
  have c3 : (askM m).1 112 3 = Int32.ofNat E := by rw [s, up_nk _ _ _ (by decide), up_nk _ _ _ (by decide), up_nk _ _ _ (by decide), up_nk _ _ _ (by decide), up_nk _ _ _ (by decide), up_nk _ _ _ (by decide), up_nk _ _ _ (by decide), up_nk _ _ _ (by decide), up_nk _ _ _ (by decide), up_nk _ _ _ (by decide), up_at]; exact h1
  refine ⟨⟨⟨⟨hE, c3, fun i hi => by rw [ask_fr (by decide)]; exact hβ i hi⟩, Nat.zero_le _, c5, c6, ⟨0, Nat.le_refl _, Nat.zero_le _, c2⟩, ?_⟩, WA_fr hw (fun a k q => ask_fr (wo_ne q).1), c46, c97, c96, c95, trivial, c93, trivial, Nat.le_refl _, (fun i q => absurd q (Nat.not_lt_zero i)), Nat.le_refl _, by omega⟩, (fun c hc => by cases hc), Nat.le_refl _⟩
  rw [if_neg (by decide), c4]
  decide
end
