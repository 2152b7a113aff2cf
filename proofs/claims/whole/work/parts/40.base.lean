/-! what class and reference share, on two memories: the class's part of the first, the reference's of the second -/
theorem bd_some {α β : Type} (r : α) (m : ev_M) (k : α → ev_M → Option (β × ev_M)) : ev_bd (some (r, m)) k = k r m := rfl
theorem bd_none {α β : Type} (k : α → ev_M → Option (β × ev_M)) : ev_bd none k = none := rfl
theorem up_at {α : Type} (g : Nat → Nat → α) (a k : Nat) (v : α) : ev_up g a k v a k = v := by rw [ev_up_at, if_pos rfl]
theorem up_nk {α : Type} (g : Nat → Nat → α) (a : Nat) {k j : Nat} (v : α) (h : j ≠ k) : ev_up g a k v a j = g a j := by rw [ev_up_at, if_neg h]
theorem up_na {α : Type} (g : Nat → Nat → α) {a i : Nat} (k : Nat) (v : α) (j : Nat) (h : i ≠ a) : ev_up g a k v i j = g i j := by rw [ev_up_ne _ _ _ h]
/-! numbers -/
theorem i_le {a b : Int32} : a ≤ b ↔ a.toInt ≤ b.toInt := Int32.le_iff_toInt_le
theorem i_lt {a b : Int32} : a < b ↔ a.toInt < b.toInt := Int32.lt_iff_toInt_lt
theorem i_eq {a b : Int32} : a = b ↔ a.toInt = b.toInt := ⟨fun h => by rw [h], fun h => Int32.toInt_inj.mp h⟩
theorem i_nat (a : Int32) : a.toNatClampNeg = a.toInt.toNat := rfl
theorem i_in {i : Int32} {n : Nat} : ev_in i n ↔ 0 ≤ i.toInt ∧ i.toInt < n := by
  unfold ev_in
  rw [i_le, i_nat, show (0 : Int32).toInt = 0 from rfl]
  constructor
  · rintro ⟨h1, h2⟩; exact ⟨h1, by omega⟩
  · rintro ⟨h1, h2⟩; exact ⟨h1, by omega⟩
theorem i_add {a b : Int32} (h1 : -2147483648 ≤ a.toInt + b.toInt) (h2 : a.toInt + b.toInt < 2147483648) : (a + b).toInt = a.toInt + b.toInt := by
  rw [Int32.toInt_add]
  exact Int.bmod_eq_of_le (by omega) (by omega)
theorem i_sub {a b : Int32} (h1 : -2147483648 ≤ a.toInt - b.toInt) (h2 : a.toInt - b.toInt < 2147483648) : (a - b).toInt = a.toInt - b.toInt := by
  rw [Int32.toInt_sub]
  exact Int.bmod_eq_of_le (by omega) (by omega)
theorem i_mul {a b : Int32} (h1 : -2147483648 ≤ a.toInt * b.toInt) (h2 : a.toInt * b.toInt < 2147483648) : (a * b).toInt = a.toInt * b.toInt := by
  rw [Int32.toInt_mul]
  exact Int.bmod_eq_of_le (by omega) (by omega)
theorem i_rng (a : Int32) : -2147483648 ≤ a.toInt ∧ a.toInt < 2147483648 := ⟨Int32.le_toInt a, Int32.toInt_lt a⟩
/-! the easy calls -/
theorem c_fault (f : Nat) (a : Int32) (m : ev_M) : FX11_fault f a m = some (if a = 0 then m.1 0 15 else if a = 1 then m.1 0 16 else -1, m) := by
  unfold FX11_fault
  by_cases h : a = 0
  · simp [h]
  · by_cases h1 : a = 1 <;> simp [h, h1]
theorem r_fault (f : Nat) (a : Int32) (m : ev_M) : FX12_fault f a m = some (if a = 0 then m.1 112 7 else if a = 1 then m.1 112 8 else -1, m) := by
  unfold FX12_fault
  by_cases h : a = 0
  · simp [h]
  · by_cases h1 : a = 1 <;> simp [h, h1]
