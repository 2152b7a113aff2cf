/-! the class's recursion is the reading -/
theorem tr_p {q : Nat} (hq : q < 10) : tr (40 + q) = -20 - Int32.ofNat (wd q) := by
  rw [tr_part (by omega) (by omega), show 40 + q - 40 = q by omega]
theorem wq_wd {w q : Nat} (h : wq w = some q) : q < 10 ∧ wd q = w := by
  unfold wq at h
  have hh : ∀ (c : Prop) [Decidable c] (a : Nat) (r : Option Nat), (if c then some a else r) = some q → (c ∧ a = q) ∨ (¬ c ∧ r = some q) := by
    intro c _ a r h
    by_cases z : c
    · rw [if_pos z] at h; exact Or.inl ⟨z, Option.some.inj h⟩
    · rw [if_neg z] at h; exact Or.inr ⟨z, h⟩
  rcases hh _ _ _ h with ⟨e1, e2⟩ | ⟨_, h⟩
  · subst e1; subst e2; decide
  rcases hh _ _ _ h with ⟨e1, e2⟩ | ⟨_, h⟩
  · subst e1; subst e2; decide
  rcases hh _ _ _ h with ⟨e1, e2⟩ | ⟨_, h⟩
  · subst e1; subst e2; decide
  rcases hh _ _ _ h with ⟨e1, e2⟩ | ⟨_, h⟩
  · subst e1; subst e2; decide
  rcases hh _ _ _ h with ⟨e1, e2⟩ | ⟨_, h⟩
  · subst e1; subst e2; decide
  rcases hh _ _ _ h with ⟨e1, e2⟩ | ⟨_, h⟩
  · subst e1; subst e2; decide
  rcases hh _ _ _ h with ⟨e1, e2⟩ | ⟨_, h⟩
  · subst e1; subst e2; decide
  rcases hh _ _ _ h with ⟨e1, e2⟩ | ⟨_, h⟩
  · subst e1; subst e2; decide
  rcases hh _ _ _ h with ⟨e1, e2⟩ | ⟨_, h⟩
  · subst e1; subst e2; decide
  rcases hh _ _ _ h with ⟨e1, e2⟩ | ⟨_, h⟩
  · subst e1; subst e2; decide
  cases h
def isv (kd w : Nat) : Bool := decide (w = 2) || (decide (w = 3) || ((decide (w = 4) && decide (kd = 2)) || ((decide (w = 10) && decide (kd ≠ 2)) || (decide (w = 11) || ((decide (w = 12) && decide (kd ≠ 2)) || ((decide (w = 13) && decide (kd = 0)) || ((decide (w = 14) && decide (kd ≠ 0)) || ((decide (w = 15) && decide (kd = 2)) || (decide (w = 16) && decide (kd = 2))))))))))
theorem isv_all : ∀ kd, kd < 3 → ∀ w, w < 29 → isv kd w = (vq kd (some w)).isSome := by decide
theorem c_isv {f kd w : Nat} {m : ev_M} (hk : kd < 3) (hw : w < 29) (h : m.1 15 2 = Int32.ofNat kd) : FX9_isValue f (Int32.ofNat w) m = some (if isv kd w = true then 1 else 0, m) := by
  unfold FX9_isValue
  rw [h]
  have key : ∀ kd, kd < 3 → ∀ w, w < 29 → ∀ (t e : Option (Int32 × ev_M)), (if Int32.ofNat w = 2 then t else (if Int32.ofNat w = 3 then t else (if Int32.ofNat w = 4 then (if Int32.ofNat kd = 2 then t else e) else (if Int32.ofNat w = 10 then (if Int32.ofNat kd = 2 then e else t) else (if Int32.ofNat w = 11 then t else (if Int32.ofNat w = 12 then (if Int32.ofNat kd = 2 then e else t) else (if Int32.ofNat w = 13 then (if Int32.ofNat kd = 0 then t else e) else (if Int32.ofNat w = 14 then (if Int32.ofNat kd = 0 then e else t) else (if Int32.ofNat w = 15 then (if Int32.ofNat kd = 2 then t else e) else (if Int32.ofNat w = 16 then (if Int32.ofNat kd = 2 then t else e) else e)))))))))) = if isv kd w = true then t else e := by
    intro kd hkd w hw t e
    have n1 : ∀ k : Nat, k < 1000 → ∀ c : Int32, c = Int32.ofNat k → (Int32.ofNat w = c ↔ w = k) := fun k hk c hc => n_is c k hc (by omega) (by omega)
    have n2 : ∀ k : Nat, k < 1000 → ∀ c : Int32, c = Int32.ofNat k → (Int32.ofNat kd = c ↔ kd = k) := fun k hk c hc => n_is c k hc (by omega) (by omega)
    simp only [n1 2 (by omega) 2 rfl, n1 3 (by omega) 3 rfl, n1 4 (by omega) 4 rfl, n1 10 (by omega) 10 rfl, n1 11 (by omega) 11 rfl, n1 12 (by omega) 12 rfl, n1 13 (by omega) 13 rfl, n1 14 (by omega) 14 rfl, n1 15 (by omega) 15 rfl, n1 16 (by omega) 16 rfl, n2 2 (by omega) 2 rfl, n2 0 (by omega) 0 rfl]
    have fin : ∀ kd, kd < 3 → ∀ w, w < 29 → (if w = 2 then true else (if w = 3 then true else (if w = 4 then (if kd = 2 then true else false) else (if w = 10 then (if kd = 2 then false else true) else (if w = 11 then true else (if w = 12 then (if kd = 2 then false else true) else (if w = 13 then (if kd = 0 then true else false) else (if w = 14 then (if kd = 0 then false else true) else (if w = 15 then (if kd = 2 then true else false) else (if w = 16 then (if kd = 2 then true else false) else false)))))))))) = isv kd w := by decide
    rw [← fin kd hkd w hw]
    by_cases a1 : w = 2
    · simp [a1]
    by_cases a2 : w = 3
    · simp [a2]
    by_cases a3 : w = 4
    · by_cases b : kd = 2 <;> simp [a3, b]
    by_cases a4 : w = 10
    · by_cases b : kd = 2 <;> simp [a4, b]
    by_cases a5 : w = 11
    · simp [a5]
    by_cases a6 : w = 12
    · by_cases b : kd = 2 <;> simp [a6, b]
    by_cases a7 : w = 13
    · by_cases b : kd = 0 <;> simp [a7, b]
    by_cases a8 : w = 14
    · by_cases b : kd = 0 <;> simp [a8, b]
    by_cases a9 : w = 15
    · by_cases b : kd = 2 <;> simp [a9, b]
    by_cases a10 : w = 16
    · by_cases b : kd = 2 <;> simp [a10, b]
    simp [a1, a2, a3, a4, a5, a6, a7, a8, a9, a10]
  rw [key kd hk w hw]
  split <;> rfl
section
variable {f E kd oc fr : Nat} {β : Nat → Int32}
/-- a value's word: its code, then the place behind it -/
theorem yr_val {o q w : Nat} {m : ev_M} {y : Yr} (hf : 4000 ≤ f) (hoc : okc oc) (hE : E ≤ 1600) (hi : yI β E y = some w) (hq : wq w = some q) (h : YR β E kd oc fr m o y) : ∃ m', FX9_readValue f m = some ((), m') ∧ YR β E kd oc fr m' o (yad β E (yput (40 + q) y)) := by
  obtain ⟨hq10, hwd⟩ := wq_wd hq
  have hw := yI_lt hi
  cases y with
  | inl e => cases hi
  | inr x =>
    have hk : tkK β E x.1 x.2.1 = 1 := yI_k hi
    have hp := tkB_lt (w := x.2.1) (show tkK β E x.1 x.2.1 ≠ 0 by rw [hk]; decide)
    obtain ⟨b1, b2, b3, b4, b5⟩ := h.2.2.2.2 x rfl
    have hpE : x.1 ≤ E := h.1.2.1
    have hpB := tkB_le (β := β) hpE
    have hw14 : ∀ k, k < 1000 → FX10_isWord f (Int32.ofNat k) m = some (if w = k then 1 else 0, m) := fun k hk => by
      rw [cy_isW h.1 hk, hi]
      by_cases z : w = k
      · rw [if_pos (by rw [z]), if_pos z]
      · rw [if_neg (fun q => z (Option.some.inj q)), if_neg z]
    have h13 : oc ≠ 13 ∧ oc ≠ 14 ∧ oc ≠ 15 ∧ oc + 1 ≠ 13 ∧ oc + 1 ≠ 14 ∧ oc + 1 ≠ 15 ∧ 0 < oc ∧ oc < 30 := by unfold okc at hoc; omega
    -- from a state that holds the same but for the reach
    have J36 : ∀ (m1 : ev_M), (∀ a k, ¬ (a = 15 ∧ k = 4) → m1.1 a k = m.1 a k) → m1.1 15 4 = Int32.ofNat (rch (x.2.2 ++ [40 + q])) → ∃ m', FX9_readValue_J36 f m1 = some ((), m') ∧ YR β E kd oc fr m' o (yad β E (yput (40 + q) (.inr x))) := by
      intro m1 hm1 h154
      have hY1 : YC β E m1 (.inr x) := YC_fr h.1 (fun a k z => hm1 a k (by omega))
      unfold FX9_readValue_J36
      rw [cy_word hY1, bd_some, hi, show oi (some w) = Int32.ofNat w from rfl, ← hwd, ← tr_p hq10]
      have hsz : m1.1 oc 1 = Int32.ofNat (fr + x.2.2.length) := by rw [hm1 _ _ (by omega)]; exact b2
      have e1 : FX9_put f (tr (40 + q)) m1 = some ((), (ev_up (ev_up m1.1 (oc + 1) (fr + x.2.2.length) (tr (40 + q))) oc 1 (Int32.ofNat (fr + x.2.2.length + 1)), m1.2)) := by
        unfold FX9_put
        rw [hm1 15 1 (by omega), h.2.1, if_neg (fun q => by rw [n_z (by omega)] at q; omega), n_nat (by omega), if_pos (isK2 hoc), c_add (z := fr + x.2.2.length) (by omega) hsz, if_pos (by omega), bd_some]
      rw [e1, bd_some]
      have g : ∀ a k, a ≠ oc → a ≠ oc + 1 → ((ev_up (ev_up m1.1 (oc + 1) (fr + x.2.2.length) (tr (40 + q))) oc 1 (Int32.ofNat (fr + x.2.2.length + 1)), m1.2) : ev_M).1 a k = m1.1 a k := fun a k y1 y2 => by rw [upI_na _ _ _ _ y1, up_na _ _ _ _ y2]
      have hY2 : YC β E (ev_up (ev_up m1.1 (oc + 1) (fr + x.2.2.length) (tr (40 + q))) oc 1 (Int32.ofNat (fr + x.2.2.length + 1)), m1.2) (.inr (x.1, x.2.1, x.2.2 ++ [40 + q])) := YC_fr (y := .inr (x.1, x.2.1, x.2.2 ++ [40 + q])) hY1 (fun a k z => g a k (by omega) (by omega))
      obtain ⟨m', r1, r2⟩ := cy_adv hf hY2
      rw [r1, bd_some]
      have fr' : ∀ a k, a ≠ 13 → m'.1 a k = _ := fun a k z => (MDX10_advance r1 a k (by unfold mdX10_advance; omega)).1
      refine ⟨m', rfl, r2, by rw [fr' _ _ (by decide), g _ _ (by omega) (by omega), hm1 _ _ (by omega)]; exact h.2.1, by rw [fr' _ _ (by decide), g _ _ (by omega) (by omega), hm1 _ _ (by omega)]; exact h.2.2.1, ⟨fr + x.2.2.length + 1, by omega, by rw [fr' _ _ (by omega), upI_at]⟩, fun x' e => ?_⟩
      have : x' = (tkB β E x.1, tkW β E x.1 x.2.1, x.2.2 ++ [40 + q]) := (Sum.inr.inj e).symm
      subst this
      have hl : (x.2.2 ++ [40 + q]).length = x.2.2.length + 1 := by rw [List.length_append]; rfl
      refine ⟨by rw [fr' _ _ (by decide), g _ _ (by omega) (by omega), hm1 _ _ (by omega)]; exact b1, ?_, ?_, ?_, ?_⟩
      · show m'.1 oc 1 = Int32.ofNat (fr + (x.2.2 ++ [40 + q]).length)
        rw [fr' _ _ (by omega), upI_at, hl]; rfl
      · show cells tr (m'.1 (oc + 1)) fr (x.2.2 ++ [40 + q])
        rw [cells_app]
        refine ⟨cells_fr _ _ (fun i i1 i2 => ?_) b3, ?_⟩
        · rw [fr' _ _ (by omega), upI_na _ _ _ _ (by omega), up_nk _ _ _ (by omega), hm1 _ _ (by omega)]
        · rw [fr' _ _ (by omega), upI_na _ _ _ _ (by omega), up_at]
      · show fr + (x.2.2 ++ [40 + q]).length ≤ tkB β E x.1
        rw [hl]; omega
      · show m'.1 15 4 = _
        rw [fr' _ _ (by decide), g _ _ (by omega) (by omega)]; exact h154
    have J24 : (40 + q = 46 ∨ 40 + q = 48) → ∃ m', FX9_readValue_J24 f m = some ((), m') ∧ YR β E kd oc fr m' o (yad β E (yput (40 + q) (.inr x))) := by
      intro hc
      have hr := rch_le x.2.2
      unfold FX9_readValue_J24
      rw [c_max, bd_some, b5]
      refine J36 _ (fun a k z => ?_) ?_
      · show ev_up m.1 15 4 _ a k = _
        by_cases e : a = 15
        · subst e; rw [up_nk _ _ _ (by omega)]
        · rw [up_na _ _ _ _ e]
      · rw [upI_at, rch_v hc]
        by_cases z : rch x.2.2 < 1
        · rw [if_pos (by rw [show (1 : Int32) = Int32.ofNat 1 from rfl, n_lt (by omega) (by omega)]; exact z), show max (rch x.2.2) 1 = 1 by omega]; rfl
        · rw [if_neg (by rw [show (1 : Int32) = Int32.ofNat 1 from rfl, n_lt (by omega) (by omega)]; exact z), show max (rch x.2.2) 1 = rch x.2.2 by omega]
    unfold FX9_readValue
    have i14 := hw14 14 (by omega)
    have i16 := hw14 16 (by omega)
    have i14' : FX10_isWord f 14 m = some (if w = 14 then 1 else 0, m) := i14
    have i16' : FX10_isWord f 16 m = some (if w = 16 then 1 else 0, m) := i16
    rw [i14', bd_some]
    by_cases z1 : w = 14
    · rw [if_pos z1, if_neg n10]
      exact J24 (by subst z1; have : wq 14 = some 6 := by decide
                    rw [this] at hq; left; have := Option.some.inj hq; omega)
    rw [if_neg z1, if_pos rfl, i16', bd_some]
    by_cases z2 : w = 16
    · rw [if_pos z2, if_neg n10]
      exact J24 (by subst z2; have : wq 16 = some 8 := by decide
                    rw [this] at hq; right; have := Option.some.inj hq; omega)
    rw [if_neg z2, if_pos rfl]
    refine J36 m (fun _ _ _ => rfl) ?_
    rw [rch_app (by omega) (fun q6 => z1 (by have : q = 6 := by omega
                                             subst this; exact hwd.symm)) (fun q8 => z2 (by have : q = 8 := by omega
                                                                                            subst this; exact hwd.symm))]
    exact b5
end
