/-! a run that ends well -/
def Ok {α : Type} (o : Option (α × ev_M)) (Q : α → ev_M → Prop) : Prop := ∃ r m', o = some (r, m') ∧ Q r m'
theorem Ok.ok {α : Type} {r : α} {m : ev_M} {Q : α → ev_M → Prop} (h : Q r m) : Ok (some (r, m)) Q := ⟨r, m, rfl, h⟩
theorem Ok.of {α : Type} {o : Option (α × ev_M)} {r : α} {m : ev_M} {Q : α → ev_M → Prop} (e : o = some (r, m)) (h : Q r m) : Ok o Q := ⟨r, m, e, h⟩
theorem Ok.bd {α β : Type} {o : Option (α × ev_M)} {k : α → ev_M → Option (β × ev_M)} {R : α → ev_M → Prop} {Q : β → ev_M → Prop} (h : Ok o R) (hk : ∀ r m', o = some (r, m') → R r m' → Ok (k r m') Q) : Ok (ev_bd o k) Q := by
  obtain ⟨r, m', e, hr⟩ := h
  have := hk r m' e hr
  rw [e]; exact this
theorem Ok.be {α β : Type} {o : Option (α × ev_M)} {k : α → ev_M → Option (β × ev_M)} {r : α} {m' : ev_M} {Q : β → ev_M → Prop} (e : o = some (r, m')) (hk : Ok (k r m') Q) : Ok (ev_bd o k) Q := by
  rw [e]; exact hk
theorem Ok.pos {α : Type} {p : Prop} [Decidable p] {a b : Option (α × ev_M)} {Q : α → ev_M → Prop} (h : p) (k : Ok a Q) : Ok (if p then a else b) Q := by rw [if_pos h]; exact k
theorem Ok.neg {α : Type} {p : Prop} [Decidable p] {a b : Option (α × ev_M)} {Q : α → ev_M → Prop} (h : ¬ p) (k : Ok b Q) : Ok (if p then a else b) Q := by rw [if_neg h]; exact k
theorem Ok.ite {α : Type} {p : Prop} [Decidable p] {a b : Option (α × ev_M)} {Q : α → ev_M → Prop} (ha : p → Ok a Q) (hb : ¬ p → Ok b Q) : Ok (if p then a else b) Q := by
  by_cases h : p
  · rw [if_pos h]; exact ha h
  · rw [if_neg h]; exact hb h
theorem Ok.mono {α : Type} {o : Option (α × ev_M)} {Q R : α → ev_M → Prop} (h : Ok o Q) (hi : ∀ r m', o = some (r, m') → Q r m' → R r m') : Ok o R := by
  obtain ⟨r, m', e, q⟩ := h
  exact ⟨r, m', e, hi r m' e q⟩
theorem frP.obj {P : Nat → Nat → Prop} {m m' : ev_M} (h : frP P m m') {a : Nat} (ha : ∀ k, P a k) : m'.1 a = m.1 a := funext fun k => (h a k (ha k)).1
theorem frP.objL {P : Nat → Nat → Prop} {m m' : ev_M} (h : frP P m m') {a : Nat} (ha : ∀ k, P a k) : m'.2 a = m.2 a := funext fun k => (h a k (ha k)).2
theorem frP.at {P : Nat → Nat → Prop} {m m' : ev_M} (h : frP P m m') {a k : Nat} (ha : P a k) : m'.1 a k = m.1 a k := (h a k ha).1
theorem frP.atL {P : Nat → Nat → Prop} {m m' : ev_M} (h : frP P m m') {a k : Nat} (ha : P a k) : m'.2 a k = m.2 a k := (h a k ha).2
/-! numbers as counters -/
theorem n_add (a b : Nat) : Int32.ofNat a + Int32.ofNat b = Int32.ofNat (a + b) := (Int32.ofNat_add a b).symm
theorem n_mul (a b : Nat) : Int32.ofNat a * Int32.ofNat b = Int32.ofNat (a * b) := (Int32.ofNat_mul a b).symm
theorem n_sub {a b : Nat} (h : b ≤ a) : Int32.ofNat a - Int32.ofNat b = Int32.ofNat (a - b) := (Int32.ofNat_sub a b h).symm
theorem n_nat {a : Nat} (h : a < 2147483648) : (Int32.ofNat a).toNatClampNeg = a := Int32.toNatClampNeg_ofNat_of_lt h
theorem n_int {a : Nat} (h : a < 2147483648) : (Int32.ofNat a).toInt = (a : Int) := Int32.toInt_ofNat_of_lt h
theorem n_le {a b : Nat} (ha : a < 2147483648) (hb : b < 2147483648) : Int32.ofNat a ≤ Int32.ofNat b ↔ a ≤ b := by
  rw [i_le, n_int ha, n_int hb]; omega
theorem n_lt {a b : Nat} (ha : a < 2147483648) (hb : b < 2147483648) : Int32.ofNat a < Int32.ofNat b ↔ a < b := by
  rw [i_lt, n_int ha, n_int hb]; omega
theorem n_eq {a b : Nat} (ha : a < 2147483648) (hb : b < 2147483648) : Int32.ofNat a = Int32.ofNat b ↔ a = b := by
  rw [i_eq, n_int ha, n_int hb]; omega
theorem n_in {a n : Nat} (h : a < 2147483648) : ev_in (Int32.ofNat a) n ↔ a < n := by
  rw [i_in, n_int h]; omega
theorem n_of (a : Int32) (h : 0 ≤ a.toInt) : a = Int32.ofNat a.toNatClampNeg := by
  rw [i_eq, n_int (by rw [i_nat]; have := i_rng a; omega), i_nat]; omega
theorem n_ex {a : Int32} (h : 0 ≤ a.toInt) : ∃ n : Nat, a = Int32.ofNat n ∧ n < 2147483648 ∧ (n : Int) = a.toInt :=
  ⟨a.toNatClampNeg, n_of a h, by rw [i_nat]; have := i_rng a; omega, by rw [i_nat]; omega⟩
theorem n_pr {a : Nat} (h : 1 ≤ a) : Int32.ofNat a + (-1) = Int32.ofNat (a - 1) := by
  rw [show (-1 : Int32) = - Int32.ofNat 1 from rfl, ← Int32.sub_eq_add_neg, n_sub h]
/-! numbers as values -/
theorem v_int {n : Int} (h1 : -2147483648 ≤ n) (h2 : n < 2147483648) : (Int32.ofInt n).toInt = n := Int32.toInt_ofInt_of_le h1 h2
theorem v_of (a : Int32) : Int32.ofInt a.toInt = a := Int32.ofInt_toInt a
theorem j_rng (a : Int64) : -9223372036854775808 ≤ a.toInt ∧ a.toInt < 9223372036854775808 := ⟨Int64.le_toInt a, Int64.toInt_lt a⟩
theorem j_eq {a b : Int64} : a = b ↔ a.toInt = b.toInt := ⟨fun h => by rw [h], fun h => Int64.toInt_inj.mp h⟩
theorem j_add {a b : Int64} (h1 : -9223372036854775808 ≤ a.toInt + b.toInt) (h2 : a.toInt + b.toInt < 9223372036854775808) : (a + b).toInt = a.toInt + b.toInt := by
  rw [Int64.toInt_add]; exact Int.bmod_eq_of_le (by omega) (by omega)
theorem j_sub {a b : Int64} (h1 : -9223372036854775808 ≤ a.toInt - b.toInt) (h2 : a.toInt - b.toInt < 9223372036854775808) : (a - b).toInt = a.toInt - b.toInt := by
  rw [Int64.toInt_sub]; exact Int.bmod_eq_of_le (by omega) (by omega)
theorem j_mul {a b : Int64} (h1 : -9223372036854775808 ≤ a.toInt * b.toInt) (h2 : a.toInt * b.toInt < 9223372036854775808) : (a * b).toInt = a.toInt * b.toInt := by
  rw [Int64.toInt_mul]; exact Int.bmod_eq_of_le (by omega) (by omega)
theorem j_cast {a : Int64} (h1 : -2147483648 ≤ a.toInt) (h2 : a.toInt < 2147483648) : a.toInt32.toInt = a.toInt := by
  rw [Int64.toInt_toInt32]; exact Int.bmod_eq_of_le (by omega) (by omega)
theorem j_wide (a : Int32) : a.toInt64.toInt = a.toInt := Int32.toInt_toInt64 a
theorem lg_val (a b : Int64) : (lg_cmp a b).toInt = if b.toInt < a.toInt then 1 else if a.toInt = b.toInt then 0 else -1 := by
  unfold lg_cmp
  by_cases h : b.toInt < a.toInt
  · rw [if_pos h, if_pos (Int64.lt_iff_toInt_lt.mpr h)]; rfl
  · rw [if_neg h, if_neg (fun q => h (Int64.lt_iff_toInt_lt.mp q))]
    by_cases h2 : a.toInt = b.toInt
    · rw [if_pos h2, if_pos (j_eq.mpr h2)]; rfl
    · rw [if_neg h2, if_neg (fun q => h2 (j_eq.mp q))]; rfl
theorem lg_lt0 (a b : Int64) : lg_cmp a b < 0 ↔ a.toInt < b.toInt := by
  rw [i_lt, lg_val, show (0 : Int32).toInt = 0 from rfl]
  split
  · omega
  · split <;> omega
theorem lg_le0 (a b : Int64) : lg_cmp a b ≤ 0 ↔ a.toInt ≤ b.toInt := by
  rw [i_le, lg_val, show (0 : Int32).toInt = 0 from rfl]
  split
  · omega
  · split <;> omega
theorem lg_gt0 (a b : Int64) : 0 < lg_cmp a b ↔ b.toInt < a.toInt := by
  rw [i_lt, lg_val, show (0 : Int32).toInt = 0 from rfl]
  split
  · omega
  · split <;> omega
theorem lg_ge0 (a b : Int64) : 0 ≤ lg_cmp a b ↔ b.toInt ≤ a.toInt := by
  rw [i_le, lg_val, show (0 : Int32).toInt = 0 from rfl]
  split
  · omega
  · split <;> omega
theorem lg_eq0 (a b : Int64) : lg_cmp a b = 0 ↔ a.toInt = b.toInt := by
  rw [i_eq, lg_val, show (0 : Int32).toInt = 0 from rfl]
  split
  · omega
  · split <;> omega
/-! the library's own -/
theorem c_max (f : Nat) (a b : Int32) (m : ev_M) : FJ9_max_7cf53 f a b m = some (if a < b then b else a, m) := by
  unfold FJ9_max_7cf53; split <;> rfl
theorem c_min (f : Nat) (a b : Int32) (m : ev_M) : FJ9_min_7cf53 f a b m = some (if b < a then b else a, m) := by
  unfold FJ9_min_7cf53; split <;> rfl
theorem c_maxL (f : Nat) (a b : Int64) (m : ev_M) : FJ9_max_f86c9 f a b m = some (if a.toInt < b.toInt then b else a, m) := by
  unfold FJ9_max_f86c9
  by_cases h : a.toInt < b.toInt
  · rw [if_pos h, if_pos ((lg_lt0 a b).mpr h)]
  · rw [if_neg h, if_neg (fun q => h ((lg_lt0 a b).mp q))]
theorem c_minL (f : Nat) (a b : Int64) (m : ev_M) : FJ9_min_f86c9 f a b m = some (if b.toInt < a.toInt then b else a, m) := by
  unfold FJ9_min_f86c9
  by_cases h : b.toInt < a.toInt
  · rw [if_pos h, if_pos ((lg_gt0 a b).mpr h)]
  · rw [if_neg h, if_neg (fun q => h ((lg_gt0 a b).mp q))]
theorem xor_sign (a b : Int32) : 0 ≤ (a ^^^ b) ↔ (0 ≤ a.toInt ↔ 0 ≤ b.toInt) := by
  have ms : ∀ x : Int32, (0 ≤ x.toInt ↔ x.toBitVec.msb = false) := by
    intro x
    have h1 : x.toInt = x.toBitVec.toInt := rfl
    rw [h1]
    have h2 := @BitVec.toInt_neg_iff 32 x.toBitVec
    have h3 := @BitVec.msb_eq_toInt 32 x.toBitVec
    rw [h3]
    simp
  rw [i_le, show (0 : Int32).toInt = 0 from rfl, ms, ms, ms, Int32.toBitVec_xor, BitVec.msb_xor]
  cases a.toBitVec.msb <;> cases b.toBitVec.msb <;> simp
/-! the floor -/
theorem fl_eq {a b : Int} (hb : b ≠ 0) : a.fdiv b = if a - a.tdiv b * b ≠ 0 ∧ ¬ (0 ≤ a ↔ 0 ≤ b) then a.tdiv b - 1 else a.tdiv b := by
  have h1 := @Int.fdiv_eq_tdiv a b
  have hd : b ∣ a ↔ a - a.tdiv b * b = 0 := by
    have e : a - a.tdiv b * b = a.tmod b := by
      have := Int.tmod_add_tdiv_mul a b
      omega
    rw [e]
    exact Int.dvd_iff_tmod_eq_zero
  rw [h1]
  by_cases hz : b ∣ a
  · rw [if_pos hz, if_neg (fun q => q.1 (hd.mp hz))]; omega
  · rw [if_neg hz]
    have hz2 : a - a.tdiv b * b ≠ 0 := fun q => hz (hd.mpr q)
    by_cases ha : 0 ≤ a
    · by_cases hb2 : 0 ≤ b
      · rw [if_pos ha, if_pos hb2, if_neg (fun q => q.2 ⟨fun _ => hb2, fun _ => ha⟩)]; omega
      · rw [if_pos ha, if_neg hb2, if_pos ⟨hz2, fun q => hb2 (q.mp ha)⟩]
    · by_cases hb2 : 0 ≤ b
      · rw [if_neg ha, if_pos hb2, if_pos ⟨hz2, fun q => ha (q.mpr hb2)⟩, Int.sign_eq_one_of_pos (by omega)]
      · rw [if_neg ha, if_neg hb2, if_neg (fun q => q.2 ⟨fun h => absurd h ha, fun h => absurd h hb2⟩), Int.sign_eq_neg_one_of_neg (by omega)]; omega
theorem fl_bd {a b : Int} {B : Int} (h1 : -B ≤ a) (h2 : a ≤ B) : -B ≤ a.fdiv b ∧ a.fdiv b ≤ B := by
  have := Int.natAbs_fdiv_le_natAbs a b
  omega
/-! a row of a memory after a writing -/
theorem upI_at (I : Nat → Nat → Int32) (L : Nat → Nat → Int64) (a k : Nat) (v : Int32) : ((ev_up I a k v, L) : ev_M).1 a k = v := up_at I a k v
theorem upI_nk (I : Nat → Nat → Int32) (L : Nat → Nat → Int64) (a : Nat) {k j : Nat} (v : Int32) (h : j ≠ k) : ((ev_up I a k v, L) : ev_M).1 a j = I a j := up_nk I a v h
theorem upI_na (I : Nat → Nat → Int32) (L : Nat → Nat → Int64) {a i : Nat} (k : Nat) (v : Int32) (h : i ≠ a) : ((ev_up I a k v, L) : ev_M).1 i = I i := ev_up_ne I k v h
