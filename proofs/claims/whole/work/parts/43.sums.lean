/-! sums and tests as codes, one behind the other, worked out on a stack -/
def sp_up {α : Type} (s : Nat → α) (d : Nat) (v : α) : Nat → α := fun i => if i = d then v else s i
theorem sp_at {α : Type} (s : Nat → α) (d : Nat) (v : α) : sp_up s d v d = v := by unfold sp_up; rw [if_pos rfl]
theorem sp_ne {α : Type} (s : Nat → α) {d i : Nat} (v : α) (h : i ≠ d) : sp_up s d v i = s i := by unfold sp_up; rw [if_neg h]
def sp_clip (v : Int) : Int := if 1000000 < v then 1000000 else if v < -1000000 then -1000000 else v
def sp_join (c : Nat) (a b : Int) : Int :=
  if c = 1 then sp_clip (a + b) else if c = 2 then sp_clip (a - b) else if c = 3 then sp_clip (a * b)
  else if c = 4 then (if b = 0 then 0 else a.fdiv b) else if c = 5 then (if a < b then a else b) else if c = 6 then (if b < a then a else b)
  else if c = 7 then (if a < b then 1 else 0) else if c = 8 then (if b < a then 1 else 0) else if c = 9 then (if a = b then 1 else 0)
  else if c = 10 then a * b else (if 0 < a + b then 1 else 0)
def sp_st (e : Nat → Int) (ah : Int → Int) (c : Nat) (s : Nat → Int) (d : Nat) : Nat → Int :=
  if 1000 ≤ c then sp_up s d ((c : Int) - 1000) else if 60 ≤ c then sp_up s (d - 1) (ah (s (d - 1))) else if 40 ≤ c then sp_up s d (e (c - 40))
  else if c = 13 then sp_up s d 1 else if c = 12 then sp_up s (d - 1) (1 - s (d - 1)) else sp_up s (d - 2) (sp_join c (s (d - 2)) (s (d - 1)))
def sp_dp (c d : Nat) : Nat := if 1000 ≤ c then d + 1 else if 60 ≤ c then d else if 40 ≤ c then d + 1 else if c = 13 then d + 1 else if c = 12 then d else d - 1
def sp_run (e : Nat → Int) (ah : Int → Int) : List Nat → (Nat → Int) → Nat → (Nat → Int)
  | [], s, _ => s
  | c :: l, s, d => sp_run e ah l (sp_st e ah c s d) (sp_dp c d)
def sp_ev (e : Nat → Int) (ah : Int → Int) (l : List Nat) : Int := sp_run e ah l (fun _ => 0) 0 0
def sp_ok (k : Nat → Bool) (c : Nat) (T : Nat → Bool) (d : Nat) : Prop :=
  if 1000 ≤ c then c < 11000 ∧ d < 64 else if 60 ≤ c then c = 60 ∧ k 10 = true ∧ 0 < d ∧ T (d - 1) = false
  else if 40 ≤ c then c < 50 ∧ k (c - 40) = true ∧ d < 64 else if c = 13 then k 11 = true ∧ d < 64
  else if c = 12 then k 11 = true ∧ 0 < d ∧ T (d - 1) = true else 1 ≤ c ∧ c ≤ 11 ∧ 1 < d ∧ T (d - 1) = decide (10 ≤ c) ∧ T (d - 2) = decide (10 ≤ c)
def sp_tp (c : Nat) (T : Nat → Bool) (d : Nat) : Nat → Bool :=
  if 1000 ≤ c then sp_up T d false else if 60 ≤ c then sp_up T (d - 1) false else if 40 ≤ c then sp_up T d false
  else if c = 13 then sp_up T d true else if c = 12 then sp_up T (d - 1) true else sp_up T (d - 2) (decide (7 ≤ c))
def sp_wf (k : Nat → Bool) : List Nat → (Nat → Bool) → Nat → Prop
  | [], _, _ => True
  | c :: l, T, d => sp_ok k c T d ∧ sp_wf k l (sp_tp c T d) (sp_dp c d)
def sp_dps : List Nat → Nat → Nat
  | [], d => d
  | c :: l, d => sp_dps l (sp_dp c d)
def sp_tps : List Nat → (Nat → Bool) → Nat → (Nat → Bool)
  | [], T, _ => T
  | c :: l, T, d => sp_tps l (sp_tp c T d) (sp_dp c d)
def sp_bd (v : Int) : Prop := -1000000 ≤ v ∧ v ≤ 1000000
def sp_vs (s : Nat → Int) (T : Nat → Bool) (d : Nat) : Prop := ∀ i, i < d → (T i = true → s i = 0 ∨ s i = 1) ∧ sp_bd (s i)
theorem clip_bd (v : Int) : sp_bd (sp_clip v) := by
  unfold sp_clip sp_bd
  split
  · omega
  · split <;> omega
theorem join_bd {c : Nat} {a b : Int} (ha : sp_bd a) (hb : sp_bd b) (hf : 10 ≤ c → (a = 0 ∨ a = 1) ∧ (b = 0 ∨ b = 1)) : sp_bd (sp_join c a b) ∧ (7 ≤ c → sp_join c a b = 0 ∨ sp_join c a b = 1) := by
  unfold sp_join
  by_cases h1 : c = 1
  · rw [if_pos h1]; exact ⟨clip_bd _, by omega⟩
  rw [if_neg h1]
  by_cases h2 : c = 2
  · rw [if_pos h2]; exact ⟨clip_bd _, by omega⟩
  rw [if_neg h2]
  by_cases h3 : c = 3
  · rw [if_pos h3]; exact ⟨clip_bd _, by omega⟩
  rw [if_neg h3]
  unfold sp_bd at *
  by_cases h4 : c = 4
  · rw [if_pos h4]
    refine ⟨?_, by omega⟩
    split
    · omega
    · exact fl_bd ha.1 ha.2
  rw [if_neg h4]
  by_cases h5 : c = 5
  · rw [if_pos h5]; refine ⟨?_, by omega⟩; split <;> omega
  rw [if_neg h5]
  by_cases h6 : c = 6
  · rw [if_pos h6]; refine ⟨?_, by omega⟩; split <;> omega
  rw [if_neg h6]
  by_cases h7 : c = 7
  · rw [if_pos h7]; split <;> omega
  rw [if_neg h7]
  by_cases h8 : c = 8
  · rw [if_pos h8]; split <;> omega
  rw [if_neg h8]
  by_cases h9 : c = 9
  · rw [if_pos h9]; split <;> omega
  rw [if_neg h9]
  by_cases h10 : c = 10
  · rw [if_pos h10]
    obtain ⟨q1, q2⟩ := hf (by omega)
    rcases q1 with q1 | q1 <;> rcases q2 with q2 | q2 <;> subst q1 <;> subst q2 <;> simp
  rw [if_neg h10]
  split <;> omega
theorem vs_push {s : Nat → Int} {T : Nat → Bool} {d : Nat} {v : Int} {b : Bool} (h : sp_vs s T d) (hv : sp_bd v) (hb : b = true → v = 0 ∨ v = 1) : sp_vs (sp_up s d v) (sp_up T d b) (d + 1) := by
  intro i hi
  by_cases e : i = d
  · subst e; rw [sp_at, sp_at]; exact ⟨hb, hv⟩
  · rw [sp_ne _ _ e, sp_ne _ _ e]; exact h i (by omega)
theorem vs_set {s : Nat → Int} {T : Nat → Bool} {d j n : Nat} {v : Int} {b : Bool} (h : sp_vs s T d) (hn : n ≤ d) (hv : sp_bd v) (hb : b = true → v = 0 ∨ v = 1) : sp_vs (sp_up s j v) (sp_up T j b) n := by
  intro i hi
  by_cases e : i = j
  · subst e; rw [sp_at, sp_at]; exact ⟨hb, hv⟩
  · rw [sp_ne _ _ e, sp_ne _ _ e]; exact h i (by omega)
theorem vs_step {k : Nat → Bool} {e : Nat → Int} {ah : Int → Int} {c : Nat} {s : Nat → Int} {T : Nat → Bool} {d : Nat} (ho : sp_ok k c T d) (h : sp_vs s T d) (he : ∀ p, p < 10 → k p = true → sp_bd (e p)) (hah : ∀ v, sp_bd (ah v)) : sp_vs (sp_st e ah c s d) (sp_tp c T d) (sp_dp c d) := by
  unfold sp_ok at ho
  unfold sp_st sp_tp sp_dp
  by_cases h1 : 1000 ≤ c
  · rw [if_pos h1] at ho
    rw [if_pos h1, if_pos h1, if_pos h1]
    exact vs_push h (by unfold sp_bd; omega) (by simp)
  rw [if_neg h1] at ho
  rw [if_neg h1, if_neg h1, if_neg h1]
  by_cases h2 : 60 ≤ c
  · rw [if_pos h2] at ho
    rw [if_pos h2, if_pos h2, if_pos h2]
    exact vs_set h (Nat.le_refl d) (hah _) (by simp)
  rw [if_neg h2] at ho
  rw [if_neg h2, if_neg h2, if_neg h2]
  by_cases h3 : 40 ≤ c
  · rw [if_pos h3] at ho
    rw [if_pos h3, if_pos h3, if_pos h3]
    exact vs_push h (he _ (by omega) ho.2.1) (by simp)
  rw [if_neg h3] at ho
  rw [if_neg h3, if_neg h3, if_neg h3]
  by_cases h4 : c = 13
  · rw [if_pos h4, if_pos h4, if_pos h4]
    exact vs_push h (by unfold sp_bd; omega) (by simp)
  rw [if_neg h4] at ho
  rw [if_neg h4, if_neg h4, if_neg h4]
  by_cases h5 : c = 12
  · rw [if_pos h5] at ho
    rw [if_pos h5, if_pos h5, if_pos h5]
    have q := (h (d - 1) (by omega)).1 ho.2.2
    exact vs_set h (Nat.le_refl d) (by unfold sp_bd; omega) (by intro _; omega)
  rw [if_neg h5] at ho
  rw [if_neg h5, if_neg h5, if_neg h5]
  obtain ⟨o1, o2, o3, o4, o5⟩ := ho
  have q1 := h (d - 1) (by omega)
  have q2 := h (d - 2) (by omega)
  have jb := @join_bd c (s (d - 2)) (s (d - 1)) q2.2 q1.2 (fun hc => ⟨q2.1 (by rw [o5]; simp [hc]), q1.1 (by rw [o4]; simp [hc])⟩)
  exact vs_set h (by omega) jb.1 (fun hd => jb.2 (by simpa using hd))
/-! the class's cells for the codes -/
def wd (p : Nat) : Nat := if p = 0 then 10 else if p = 1 then 2 else if p = 2 then 3 else if p = 3 then 11 else if p = 4 then 12 else if p = 5 then 13 else if p = 6 then 14 else if p = 7 then 15 else if p = 8 then 16 else 4
theorem wd_lt (p : Nat) : wd p < 29 := by
  unfold wd
  (repeat' split) <;> omega
def tr (c : Nat) : Int32 := if 1000 ≤ c then Int32.ofNat (c - 1000) else if 60 ≤ c then -13 else if 40 ≤ c then -20 - Int32.ofNat (wd (c - 40)) else if c = 13 then 1 else - Int32.ofNat c
def cells (en : Nat → Int32) (g : Nat → Int32) : Nat → List Nat → Prop
  | _, [] => True
  | k, c :: l => g k = en c ∧ cells en g (k + 1) l
theorem i_01 {x : Int32} (h : x.toInt = 0 ∨ x.toInt = 1) : x = 0 ∨ x = 1 := h.elim (fun q => Or.inl (i_eq.mpr q)) (fun q => Or.inr (i_eq.mpr q))
theorem j_p6 : ((1000000 : Int64)).toInt = 1000000 := Int64.toInt_ofNat_of_lt (by decide)
theorem j_n6 : ((-1000000 : Int64)).toInt = -1000000 := by
  rw [Int64.toInt_neg, j_p6]
  exact Int.bmod_eq_of_le (by omega) (by omega)
def clL (v : Int64) : Int32 := (if ((-1000000 : Int64)).toInt < (if v.toInt < ((1000000 : Int64)).toInt then v else (1000000 : Int64)).toInt then (if v.toInt < ((1000000 : Int64)).toInt then v else (1000000 : Int64)) else (-1000000 : Int64)).toInt32
theorem clipL (v : Int64) : (clL v).toInt = sp_clip v.toInt := by
  unfold clL
  rw [j_p6, j_n6]
  unfold sp_clip
  by_cases h1 : v.toInt < 1000000
  · rw [if_pos h1]
    by_cases h2 : -1000000 < v.toInt
    · rw [if_pos h2, j_cast (by omega) (by omega), if_neg (by omega), if_neg (by omega)]
    · rw [if_neg h2, if_neg (by omega)]
      rw [j_cast (by rw [j_n6]; omega) (by rw [j_n6]; omega), j_n6]
      split <;> omega
  · rw [if_neg h1, j_p6, if_pos (by omega), j_cast (by rw [j_p6]; omega) (by rw [j_p6]; omega), j_p6]
    split
    · rfl
    · split <;> omega
theorem mul_bd {x y : Int32} (hx : sp_bd x.toInt) (hy : sp_bd y.toInt) : -1000000000000 ≤ x.toInt * y.toInt ∧ x.toInt * y.toInt ≤ 1000000000000 := by
  obtain ⟨a1, a2⟩ := hx
  obtain ⟨b1, b2⟩ := hy
  have h1 : (x.toInt * y.toInt).natAbs = x.toInt.natAbs * y.toInt.natAbs := Int.natAbs_mul _ _
  have h2 : x.toInt.natAbs * y.toInt.natAbs ≤ 1000000 * 1000000 := Nat.mul_le_mul (by omega) (by omega)
  omega
theorem c_join1 {f : Nat} {x y : Int32} {m : ev_M} (hx : sp_bd x.toInt) (hy : sp_bd y.toInt) : ∃ r : Int32, FX5_join f (- Int32.ofNat 1) x y m = some (r, m) ∧ r.toInt = sp_join 1 x.toInt y.toInt := by
  have hm := mul_bd hx hy
  unfold sp_bd at hx hy
  refine ⟨clL (x.toInt64 + y.toInt64), show FX5_join f (-1) x y m = some (clL (x.toInt64 + y.toInt64), m) from ?_, ?_⟩
  · unfold FX5_join
    rw [if_neg (by decide), if_neg (by decide), if_neg (by decide), if_neg (by decide), if_neg (by decide), if_neg (by decide), if_neg (by decide), if_neg (by decide), if_neg (by decide), if_neg (by decide), if_pos rfl, c_minL, bd_some, c_maxL, bd_some]
    unfold clL
    rfl
  · rw [clipL, j_add (by rw [j_wide, j_wide]; omega) (by rw [j_wide, j_wide]; omega), j_wide, j_wide]
    unfold sp_join
    rw [if_pos rfl]
theorem c_join2 {f : Nat} {x y : Int32} {m : ev_M} (hx : sp_bd x.toInt) (hy : sp_bd y.toInt) : ∃ r : Int32, FX5_join f (- Int32.ofNat 2) x y m = some (r, m) ∧ r.toInt = sp_join 2 x.toInt y.toInt := by
  have hm := mul_bd hx hy
  unfold sp_bd at hx hy
  refine ⟨clL (x.toInt64 - y.toInt64), show FX5_join f (-2) x y m = some (clL (x.toInt64 - y.toInt64), m) from ?_, ?_⟩
  · unfold FX5_join
    rw [if_neg (by decide), if_neg (by decide), if_neg (by decide), if_neg (by decide), if_neg (by decide), if_neg (by decide), if_neg (by decide), if_neg (by decide), if_neg (by decide), if_pos rfl, c_minL, bd_some, c_maxL, bd_some]
    unfold clL
    rfl
  · rw [clipL, j_sub (by rw [j_wide, j_wide]; omega) (by rw [j_wide, j_wide]; omega), j_wide, j_wide]
    unfold sp_join
    rw [if_neg (by decide), if_pos rfl]
theorem c_join3 {f : Nat} {x y : Int32} {m : ev_M} (hx : sp_bd x.toInt) (hy : sp_bd y.toInt) : ∃ r : Int32, FX5_join f (- Int32.ofNat 3) x y m = some (r, m) ∧ r.toInt = sp_join 3 x.toInt y.toInt := by
  have hm := mul_bd hx hy
  unfold sp_bd at hx hy
  refine ⟨clL (x.toInt64 * y.toInt64), show FX5_join f (-3) x y m = some (clL (x.toInt64 * y.toInt64), m) from ?_, ?_⟩
  · unfold FX5_join
    rw [if_neg (by decide), if_neg (by decide), if_neg (by decide), if_neg (by decide), if_neg (by decide), if_neg (by decide), if_neg (by decide), if_neg (by decide), if_pos rfl, c_minL, bd_some, c_maxL, bd_some]
    unfold clL
    rfl
  · rw [clipL, j_mul (by rw [j_wide, j_wide]; omega) (by rw [j_wide, j_wide]; omega), j_wide, j_wide]
    unfold sp_join
    rw [if_neg (by decide), if_neg (by decide), if_pos rfl]
theorem c_join4 {f : Nat} {x y : Int32} {m : ev_M} (hx : sp_bd x.toInt) (hy : sp_bd y.toInt) : ∃ r : Int32, FX5_join f (- Int32.ofNat 4) x y m = some (r, m) ∧ r.toInt = sp_join 4 x.toInt y.toInt := by
  unfold sp_bd at hx hy
  have e : FX5_join f (-4) x y m = (if y = 0 then some (0, m) else (ev_bd (FJ9_floorDiv_7cf53 f x y m) (fun r12 m13 => some (r12, m13)))) := by
    unfold FX5_join
    rw [if_neg (by decide), if_neg (by decide), if_neg (by decide), if_neg (by decide), if_neg (by decide), if_neg (by decide), if_neg (by decide), if_pos rfl]
  show ∃ r : Int32, FX5_join f (-4) x y m = some (r, m) ∧ r.toInt = (if y.toInt = 0 then 0 else x.toInt.fdiv y.toInt)
  rw [e]
  by_cases hy0 : y = 0
  · rw [if_pos hy0, if_pos (by rw [hy0]; rfl)]; exact ⟨0, rfl, rfl⟩
  · have hy1 : y.toInt ≠ 0 := fun q => hy0 (i_eq.mpr q)
    rw [if_neg hy0, if_neg hy1, fl_eq hy1]
    have hq : (x / y).toInt = x.toInt.tdiv y.toInt := by
      apply Int32.toInt_div_of_ne_left
      intro q
      rw [q] at hx
      rw [Int32.toInt_minValue] at hx
      omega
    have hq2 := Int.natAbs_tdiv_le_natAbs x.toInt y.toInt
    have hq3 := Int.tmod_add_tdiv_mul x.toInt y.toInt
    have hq4 : (x.toInt.tmod y.toInt).natAbs ≤ x.toInt.natAbs := by
      have := Int.natAbs_tmod x.toInt y.toInt
      rw [this]; exact Nat.mod_le _ _
    have hq5 : ((x / y) * y).toInt = x.toInt.tdiv y.toInt * y.toInt := by
      rw [i_mul (by rw [hq]; omega) (by rw [hq]; omega), hq]
    unfold FJ9_floorDiv_7cf53
    rw [if_neg hy0]
    by_cases hs : 0 ≤ (x ^^^ y)
    · rw [if_pos hs, bd_some, if_neg (fun q => q.2 ((xor_sign x y).mp hs))]
      exact ⟨_, rfl, hq⟩
    · rw [if_neg hs]
      have hs2 : ¬ (0 ≤ x.toInt ↔ 0 ≤ y.toInt) := fun q => hs ((xor_sign x y).mpr q)
      by_cases hz : (x / y) * y = x
      · rw [if_pos hz, bd_some]
        have : x.toInt - x.toInt.tdiv y.toInt * y.toInt = 0 := by
          have := i_eq.mp hz
          rw [hq5] at this; omega
        rw [if_neg (fun q => q.1 this)]
        exact ⟨_, rfl, hq⟩
      · rw [if_neg hz, bd_some]
        have : x.toInt - x.toInt.tdiv y.toInt * y.toInt ≠ 0 := fun q => hz (i_eq.mpr (by rw [hq5]; omega))
        rw [if_pos ⟨this, hs2⟩]
        refine ⟨_, rfl, ?_⟩
        rw [i_sub (by rw [hq]; have : (1 : Int32).toInt = 1 := rfl; omega) (by rw [hq]; have : (1 : Int32).toInt = 1 := rfl; omega), hq]
        rfl
theorem c_join5 {f : Nat} {x y : Int32} {m : ev_M} (hx : sp_bd x.toInt) (hy : sp_bd y.toInt) : ∃ r : Int32, FX5_join f (- Int32.ofNat 5) x y m = some (r, m) ∧ r.toInt = sp_join 5 x.toInt y.toInt := by
  unfold sp_bd at hx hy
  refine ⟨_, show FX5_join f (-5) x y m = some (if y < x then y else x, m) from ?_, ?_⟩
  · unfold FX5_join
    rw [if_neg (by decide), if_neg (by decide), if_neg (by decide), if_neg (by decide), if_neg (by decide), if_neg (by decide), if_pos rfl, c_min, bd_some]
  · show (if y < x then y else x).toInt = (if x.toInt < y.toInt then x.toInt else y.toInt)
    by_cases h : y < x
    · rw [if_pos h]; rw [i_lt] at h; rw [if_neg (by omega)]
    · rw [if_neg h]; rw [i_lt] at h; split <;> omega
theorem c_join6 {f : Nat} {x y : Int32} {m : ev_M} (hx : sp_bd x.toInt) (hy : sp_bd y.toInt) : ∃ r : Int32, FX5_join f (- Int32.ofNat 6) x y m = some (r, m) ∧ r.toInt = sp_join 6 x.toInt y.toInt := by
  unfold sp_bd at hx hy
  refine ⟨_, show FX5_join f (-6) x y m = some (if x < y then y else x, m) from ?_, ?_⟩
  · unfold FX5_join
    rw [if_neg (by decide), if_neg (by decide), if_neg (by decide), if_neg (by decide), if_neg (by decide), if_pos rfl, c_max, bd_some]
  · show (if x < y then y else x).toInt = (if y.toInt < x.toInt then x.toInt else y.toInt)
    by_cases h : x < y
    · rw [if_pos h]; rw [i_lt] at h; rw [if_neg (by omega)]
    · rw [if_neg h]; rw [i_lt] at h; split <;> omega
theorem c_join7 {f : Nat} {x y : Int32} {m : ev_M} (hx : sp_bd x.toInt) (hy : sp_bd y.toInt) : ∃ r : Int32, FX5_join f (- Int32.ofNat 7) x y m = some (r, m) ∧ r.toInt = sp_join 7 x.toInt y.toInt := by
  unfold sp_bd at hx hy
  refine ⟨if y ≤ x then 0 else 1, show FX5_join f (-7) x y m = some (if y ≤ x then 0 else 1, m) from ?_, ?_⟩
  · unfold FX5_join
    rw [if_neg (by decide), if_neg (by decide), if_neg (by decide), if_neg (by decide), if_pos rfl]
    split <;> rfl
  · show (if y ≤ x then (0 : Int32) else 1).toInt = (if x.toInt < y.toInt then 1 else 0)
    by_cases h : y ≤ x
    · rw [if_pos h]; rw [i_le] at h; rw [if_neg (by omega)]; rfl
    · rw [if_neg h]; rw [i_le] at h; rw [if_pos (by omega)]; rfl
theorem c_join8 {f : Nat} {x y : Int32} {m : ev_M} (hx : sp_bd x.toInt) (hy : sp_bd y.toInt) : ∃ r : Int32, FX5_join f (- Int32.ofNat 8) x y m = some (r, m) ∧ r.toInt = sp_join 8 x.toInt y.toInt := by
  unfold sp_bd at hx hy
  refine ⟨if x ≤ y then 0 else 1, show FX5_join f (-8) x y m = some (if x ≤ y then 0 else 1, m) from ?_, ?_⟩
  · unfold FX5_join
    rw [if_neg (by decide), if_neg (by decide), if_neg (by decide), if_pos rfl]
    split <;> rfl
  · show (if x ≤ y then (0 : Int32) else 1).toInt = (if y.toInt < x.toInt then 1 else 0)
    by_cases h : x ≤ y
    · rw [if_pos h]; rw [i_le] at h; rw [if_neg (by omega)]; rfl
    · rw [if_neg h]; rw [i_le] at h; rw [if_pos (by omega)]; rfl
theorem c_join9 {f : Nat} {x y : Int32} {m : ev_M} (hx : sp_bd x.toInt) (hy : sp_bd y.toInt) : ∃ r : Int32, FX5_join f (- Int32.ofNat 9) x y m = some (r, m) ∧ r.toInt = sp_join 9 x.toInt y.toInt := by
  unfold sp_bd at hx hy
  refine ⟨if x = y then 1 else 0, show FX5_join f (-9) x y m = some (if x = y then 1 else 0, m) from ?_, ?_⟩
  · unfold FX5_join
    rw [if_neg (by decide), if_neg (by decide), if_pos rfl]
    split <;> rfl
  · show (if x = y then (1 : Int32) else 0).toInt = (if x.toInt = y.toInt then 1 else 0)
    by_cases h : x = y
    · rw [if_pos h, if_pos (i_eq.mp h)]; rfl
    · rw [if_neg h, if_neg (fun q => h (i_eq.mpr q))]; rfl
theorem c_join10 {f : Nat} {x y : Int32} {m : ev_M} (hx : sp_bd x.toInt) (hy : sp_bd y.toInt) (hf : (x.toInt = 0 ∨ x.toInt = 1) ∧ (y.toInt = 0 ∨ y.toInt = 1)) : ∃ r : Int32, FX5_join f (- Int32.ofNat 10) x y m = some (r, m) ∧ r.toInt = sp_join 10 x.toInt y.toInt := by
  unfold sp_bd at hx hy
  obtain ⟨q1, q2⟩ := hf
  refine ⟨x &&& y, show FX5_join f (-10) x y m = some (x &&& y, m) from ?_, ?_⟩
  · unfold FX5_join
    rw [if_neg (by decide), if_pos rfl]
  · show (x &&& y).toInt = x.toInt * y.toInt
    have hx2 : x = 0 ∨ x = 1 := i_01 q1
    have hy2 : y = 0 ∨ y = 1 := i_01 q2
    rcases hx2 with h | h <;> rcases hy2 with h' | h' <;> subst h <;> subst h' <;> rfl
theorem c_join11 {f : Nat} {x y : Int32} {m : ev_M} (hx : sp_bd x.toInt) (hy : sp_bd y.toInt) (hf : (x.toInt = 0 ∨ x.toInt = 1) ∧ (y.toInt = 0 ∨ y.toInt = 1)) : ∃ r : Int32, FX5_join f (- Int32.ofNat 11) x y m = some (r, m) ∧ r.toInt = sp_join 11 x.toInt y.toInt := by
  unfold sp_bd at hx hy
  obtain ⟨q1, q2⟩ := hf
  refine ⟨x ||| y, show FX5_join f (-11) x y m = some (x ||| y, m) from ?_, ?_⟩
  · unfold FX5_join
    rw [if_pos rfl]
  · show (x ||| y).toInt = if 0 < x.toInt + y.toInt then 1 else 0
    have hx2 : x = 0 ∨ x = 1 := i_01 q1
    have hy2 : y = 0 ∨ y = 1 := i_01 q2
    rcases hx2 with h | h <;> rcases hy2 with h' | h' <;> subst h <;> subst h' <;> rfl
theorem c_join {f c : Nat} {x y : Int32} {m : ev_M} (hc1 : 1 ≤ c) (hc2 : c ≤ 11) (hx : sp_bd x.toInt) (hy : sp_bd y.toInt) (hf : 10 ≤ c → (x.toInt = 0 ∨ x.toInt = 1) ∧ (y.toInt = 0 ∨ y.toInt = 1)) : ∃ r : Int32, FX5_join f (- Int32.ofNat c) x y m = some (r, m) ∧ r.toInt = sp_join c x.toInt y.toInt := by
  have cs : c = 1 ∨ c = 2 ∨ c = 3 ∨ c = 4 ∨ c = 5 ∨ c = 6 ∨ c = 7 ∨ c = 8 ∨ c = 9 ∨ c = 10 ∨ c = 11 := by omega
  rcases cs with h | h | h | h | h | h | h | h | h | h | h <;> subst h
  · exact c_join1 hx hy
  · exact c_join2 hx hy
  · exact c_join3 hx hy
  · exact c_join4 hx hy
  · exact c_join5 hx hy
  · exact c_join6 hx hy
  · exact c_join7 hx hy
  · exact c_join8 hx hy
  · exact c_join9 hx hy
  · exact c_join10 hx hy (hf (by omega))
  · exact c_join11 hx hy (hf (by omega))
