/-! the reference's words of values -/
def wh (kd : Nat) (r : Option Nat) : Option Nat := r.bind (fun w => if w = 10 ∧ 2 ≤ kd then some 10 else wq w)
section
variable {f E kd b fr : Nat} {β : Nat → Int32}
theorem r_allowed {q : Nat} {m : ev_M} (hk : kd < 3) (hq : q ≤ 10) (h : m.1 112 46 = Int32.ofNat kd) : FX12_isAllowed f (Int32.ofNat q) m = some (if okq kd q = true then 1 else 0, m) := by
  unfold FX12_isAllowed okq
  rw [h]
  by_cases k0 : kd = 0
  · rw [if_pos (by rw [k0]; rfl), if_pos k0]
    by_cases z : 6 ≤ q
    · rw [if_pos (show (6 : Int32) ≤ Int32.ofNat q from (n_le (a := 6) (by omega) (by omega)).mpr z), if_neg (by rw [decide_eq_true_iff]; omega)]
    · rw [if_neg (show ¬ (6 : Int32) ≤ Int32.ofNat q from fun x => z ((n_le (a := 6) (by omega) (by omega)).mp x)), if_pos (by rw [decide_eq_true_iff]; omega)]
  rw [if_neg (fun x => k0 ((n_z (by omega)).mp x)), if_neg k0]
  by_cases k1 : kd = 1
  · rw [if_pos (by rw [k1]; rfl), if_pos k1]
    by_cases z : q < 5
    · rw [if_pos (show Int32.ofNat q < (5 : Int32) from (n_lt (b := 5) (by omega) (by omega)).mpr z), if_pos (by rw [decide_eq_true_iff]; omega)]
    rw [if_neg (show ¬ Int32.ofNat q < (5 : Int32) from fun x => z ((n_lt (b := 5) (by omega) (by omega)).mp x))]
    by_cases z2 : q = 6
    · rw [if_pos (by rw [z2]; rfl), if_pos (by rw [decide_eq_true_iff]; omega)]
    · rw [if_neg (fun x => z2 ((n_is 6 6 rfl (by omega) (by omega)).mp x)), if_neg (by rw [decide_eq_true_iff]; omega)]
  rw [if_neg (fun x => k1 ((n_is 1 1 rfl (by omega) (by omega)).mp x)), if_neg k1, r_isIn, bd_some, Int32.toInt_toInt64, n_int (by omega)]
  have e1 : (1 : Int64).toInt = 1 := rfl
  have e3 : (3 : Int64).toInt = 3 := rfl
  rw [e1, e3]
  by_cases z : 1 ≤ q ∧ q ≤ 3
  · rw [if_pos (show (1 : Int) ≤ (q : Int) ∧ (q : Int) ≤ 3 by omega), if_neg n10, if_pos (by rw [decide_eq_true_iff]; omega)]
  rw [if_neg (show ¬ ((1 : Int) ≤ (q : Int) ∧ (q : Int) ≤ 3) by omega), if_pos rfl]
  by_cases z2 : q ≤ 5
  · rw [if_pos (show Int32.ofNat q ≤ (5 : Int32) from (n_le (b := 5) (by omega) (by omega)).mpr z2), if_neg (by rw [decide_eq_true_iff]; omega)]
  · rw [if_neg (show ¬ Int32.ofNat q ≤ (5 : Int32) from fun x => z2 ((n_le (b := 5) (by omega) (by omega)).mp x)), if_pos (by rw [decide_eq_true_iff]; omega)]
/-- nothing but the place before what comes has moved -/
def LK (β : Nat → Int32) (E : Nat) (m m' : ev_M) (x : Nat × Bool × List Nat) : Prop := RT β E m' x.1 x.2.1 ∧ WA m' ∧ m'.1 112 2 = Int32.ofNat (sk β E x.1) ∧ on2 m m'
theorem r_hr {m m1 : ev_M} {x : Nat × Bool × List Nat} {o : Nat} (hf : 4000 ≤ f) (ho : isWo o = true) (h1 : RT β E m1 x.1 x.2.1) (h2 : WA m1) (h3 : on2 m m1) : ∃ m2, FX12_isHere f o m1 = some (if yI β E (.inr x) = some (wix o) then 1 else 0, m2) ∧ LK β E m m2 x := by
  obtain ⟨m2, r1, r2, r3, r4⟩ := rt_here (y := .inr x) hf h2 ho h1
  exact ⟨m2, r1, r2, WA_fr h2 (fun a k q => r4.2 a k (by have := wo_ne q; omega)), r3 x rfl, on2_tr h3 r4⟩
theorem r_wordJ {m m1 : ev_M} {x : Nat × Bool × List Nat} (hf : 4000 ≤ f) (h1 : RT β E m1 x.1 x.2.1) (h2 : WA m1) (h3 : on2 m m1) (hk : 2 ≤ kd ∨ ¬ yI β E (.inr x) = some 10) : ∃ m2, FX12_qWordHere_J21 f m1 = some (oi (wh kd (yI β E (.inr x))), m2) ∧ LK β E m m2 x := by
  unfold FX12_qWordHere_J21
  obtain ⟨k0, a0, c0⟩ := @r_hr f E β m m1 x 167 hf (by decide) h1 h2 h3
  rw [a0, bd_some, show wix 167 = 2 from by decide]
  by_cases z0 : yI β E (.inr x) = some 2
  · rw [if_pos z0, if_neg n10, z0]
    refine ⟨k0, ?_, c0⟩
    rfl
  rw [if_neg z0, if_pos rfl]
  obtain ⟨k1, a1, c1⟩ := @r_hr f E β m k0 x 168 hf (by decide) c0.1 c0.2.1 c0.2.2.2
  rw [a1, bd_some, show wix 168 = 3 from by decide]
  by_cases z1 : yI β E (.inr x) = some 3
  · rw [if_pos z1, if_neg n10, z1]
    refine ⟨k1, ?_, c1⟩
    rfl
  rw [if_neg z1, if_pos rfl]
  obtain ⟨k2, a2, c2⟩ := @r_hr f E β m k1 x 169 hf (by decide) c1.1 c1.2.1 c1.2.2.2
  rw [a2, bd_some, show wix 169 = 11 from by decide]
  by_cases z2 : yI β E (.inr x) = some 11
  · rw [if_pos z2, if_neg n10, z2]
    refine ⟨k2, ?_, c2⟩
    rfl
  rw [if_neg z2, if_pos rfl]
  obtain ⟨k3, a3, c3⟩ := @r_hr f E β m k2 x 170 hf (by decide) c2.1 c2.2.1 c2.2.2.2
  rw [a3, bd_some, show wix 170 = 12 from by decide]
  by_cases z3 : yI β E (.inr x) = some 12
  · rw [if_pos z3, if_neg n10, z3]
    refine ⟨k3, ?_, c3⟩
    rfl
  rw [if_neg z3, if_pos rfl]
  obtain ⟨k4, a4, c4⟩ := @r_hr f E β m k3 x 171 hf (by decide) c3.1 c3.2.1 c3.2.2.2
  rw [a4, bd_some, show wix 171 = 13 from by decide]
  by_cases z4 : yI β E (.inr x) = some 13
  · rw [if_pos z4, if_neg n10, z4]
    refine ⟨k4, ?_, c4⟩
    rfl
  rw [if_neg z4, if_pos rfl]
  obtain ⟨k5, a5, c5⟩ := @r_hr f E β m k4 x 172 hf (by decide) c4.1 c4.2.1 c4.2.2.2
  rw [a5, bd_some, show wix 172 = 14 from by decide]
  by_cases z5 : yI β E (.inr x) = some 14
  · rw [if_pos z5, if_neg n10, z5]
    refine ⟨k5, ?_, c5⟩
    rfl
  rw [if_neg z5, if_pos rfl]
  obtain ⟨k6, a6, c6⟩ := @r_hr f E β m k5 x 173 hf (by decide) c5.1 c5.2.1 c5.2.2.2
  rw [a6, bd_some, show wix 173 = 15 from by decide]
  by_cases z6 : yI β E (.inr x) = some 15
  · rw [if_pos z6, if_neg n10, z6]
    refine ⟨k6, ?_, c6⟩
    rfl
  rw [if_neg z6, if_pos rfl]
  obtain ⟨k7, a7, c7⟩ := @r_hr f E β m k6 x 174 hf (by decide) c6.1 c6.2.1 c6.2.2.2
  rw [a7, bd_some, show wix 174 = 16 from by decide]
  by_cases z7 : yI β E (.inr x) = some 16
  · rw [if_pos z7, if_neg n10, z7]
    refine ⟨k7, ?_, c7⟩
    rfl
  rw [if_neg z7, if_pos rfl]
  obtain ⟨k8, a8, c8⟩ := @r_hr f E β m k7 x 175 hf (by decide) c7.1 c7.2.1 c7.2.2.2
  rw [a8, bd_some, show wix 175 = 4 from by decide]
  by_cases z8 : yI β E (.inr x) = some 4
  · rw [if_pos z8, if_neg n10, z8]
    refine ⟨k8, ?_, c8⟩
    rfl
  rw [if_neg z8, if_pos rfl]
  obtain ⟨k9, a9, c9⟩ := @r_hr f E β m k8 x 176 hf (by decide) c8.1 c8.2.1 c8.2.2.2
  rw [a9, bd_some, show wix 176 = 10 from by decide]
  by_cases z9 : yI β E (.inr x) = some 10
  · rw [if_pos z9, if_neg n10, z9]
    refine ⟨k9, ?_, c9⟩
    rw [show wh kd (some 10) = some 10 from if_pos ⟨rfl, hk.resolve_right (fun q => q z9)⟩]; rfl
  rw [if_neg z9, if_pos rfl]
  refine ⟨k9, ?_, c9⟩
  have : wh kd (yI β E (.inr x)) = none := by
    cases hi : yI β E (.inr x) with
    | none => rfl
    | some w =>
      rw [hi] at z0 z1 z2 z3 z4 z5 z6 z7 z8 z9
      show (if w = 10 ∧ 2 ≤ kd then some 10 else wq w) = none
      have ne : ∀ k, ¬ some w = some k → ¬ w = k := fun k q e => q (by rw [e])
      rw [if_neg (fun q => ne 10 z9 q.1)]
      unfold wq
      rw [if_neg (ne 10 z9), if_neg (ne 2 z0), if_neg (ne 3 z1), if_neg (ne 11 z2), if_neg (ne 12 z3), if_neg (ne 13 z4), if_neg (ne 14 z5), if_neg (ne 15 z6), if_neg (ne 16 z7), if_neg (ne 4 z8)]
  rw [this]
  rfl
theorem r_wordH {m : ev_M} {x : Nat × Bool × List Nat} (hf : 4000 ≤ f) (hk : kd < 3) (h1 : RT β E m x.1 x.2.1) (h2 : WA m) (h46 : m.1 112 46 = Int32.ofNat kd) : ∃ m2, FX12_qWordHere f m = some (oi (wh kd (yI β E (.inr x))), m2) ∧ LK β E m m2 x := by
  unfold FX12_qWordHere
  rw [h46]
  by_cases z : 2 ≤ kd
  · rw [if_pos (show (2 : Int32) ≤ Int32.ofNat kd from (n_le (a := 2) (by omega) (by omega)).mpr z)]
    exact r_wordJ hf h1 h2 (on2_refl m) (Or.inl z)
  · rw [if_neg (show ¬ (2 : Int32) ≤ Int32.ofNat kd from fun q => z ((n_le (a := 2) (by omega) (by omega)).mp q))]
    obtain ⟨m1, r1, r2⟩ := @r_hr f E β m m x 166 hf (by decide) h1 h2 (on2_refl m)
    rw [r1, bd_some, show wix 166 = 10 from by decide]
    by_cases q : yI β E (.inr x) = some 10
    · rw [if_pos q, if_neg n10, q]
      refine ⟨m1, ?_, r2⟩
      rw [show wh kd (some 10) = some 0 from if_neg (fun y => z y.2)]
      rfl
    · rw [if_neg q, if_pos rfl]
      exact r_wordJ hf r2.1 r2.2.1 r2.2.2.2 (Or.inr q)
theorem wh_le {r : Option Nat} {q : Nat} (h : wh kd r = some q) : q ≤ 10 := by
  cases r with
  | none => cases h
  | some w =>
    have h' : (if w = 10 ∧ 2 ≤ kd then some 10 else wq w) = some q := h
    by_cases z : w = 10 ∧ 2 ≤ kd
    · rw [if_pos z] at h'; have := Option.some.inj h'; omega
    · rw [if_neg z] at h'; have := (wq_wd h').1; omega
theorem r_wordOf {m : ev_M} {x : Nat × Bool × List Nat} {lo hi : Nat} (hf : 4000 ≤ f) (hk : kd < 3) (hlo : lo < 1000) (hhi : hi < 1000) (h1 : RT β E m x.1 x.2.1) (h2 : WA m) (h46 : m.1 112 46 = Int32.ofNat kd) : ∃ m2, FX12_qWordOf f (Int32.ofNat lo) (Int32.ofNat hi) m = some (oi ((wh kd (yI β E (.inr x))).bind (fun q => if lo ≤ q ∧ q < hi ∧ okq kd q = true then some q else none)), m2) ∧ LK β E m m2 x := by
  obtain ⟨m1, r1, r2⟩ := r_wordH hf hk h1 h2 h46
  unfold FX12_qWordOf
  rw [r1, bd_some]
  have h46' : m1.1 112 46 = Int32.ofNat kd := by rw [r2.2.2.2.2 _ _ (by omega)]; exact h46
  cases hw : wh kd (yI β E (.inr x)) with
  | none =>
    rw [show oi none = -1 from rfl, if_pos (by rw [i_lt, n_int (by omega)]; have : (-1 : Int32).toInt = -1 := rfl
                                               omega)]
    exact ⟨m1, rfl, r2⟩
  | some q =>
    have hq := wh_le hw
    rw [show oi (some q) = Int32.ofNat q from rfl]
    refine ⟨m1, ?_, r2⟩
    show _ = some (oi (if lo ≤ q ∧ q < hi ∧ okq kd q = true then some q else none), m1)
    by_cases z1 : q < lo
    · rw [if_pos ((n_lt (by omega) (by omega)).mpr z1), if_neg (by omega)]
      rfl
    rw [if_neg (fun y => z1 ((n_lt (by omega) (by omega)).mp y))]
    by_cases z2 : hi ≤ q
    · rw [if_pos ((n_le (by omega) (by omega)).mpr z2), if_neg (by omega)]
      rfl
    rw [if_neg (fun y => z2 ((n_le (by omega) (by omega)).mp y)), r_allowed hk hq h46', bd_some]
    by_cases z3 : okq kd q = true
    · rw [if_pos z3, if_neg n10, if_pos ⟨by omega, by omega, z3⟩]
      rfl
    · rw [if_neg z3, if_pos rfl, if_neg (fun y => z3 y.2.2)]
      rfl
theorem wo_v {r : Option Nat} (hk : kd < 3) : (wh kd r).bind (fun q => if 0 ≤ q ∧ q < 10 ∧ okq kd q = true then some q else none) = vq kd r := by
  cases r with
  | none => rfl
  | some w =>
    show (if w = 10 ∧ 2 ≤ kd then some 10 else wq w).bind _ = (wq w).bind (fun q => if okq kd q = true then some q else none)
    by_cases z : w = 10 ∧ 2 ≤ kd
    · rw [if_pos z, z.1, show wq 10 = some 0 from rfl]
      show (if 0 ≤ 10 ∧ 10 < 10 ∧ okq kd 10 = true then some 10 else none) = (if okq kd 0 = true then some 0 else none)
      have : kd = 2 := by omega
      subst this
      decide
    · rw [if_neg z]
      cases hq : wq w with
      | none => rfl
      | some q =>
        have := (wq_wd hq).1
        show (if 0 ≤ q ∧ q < 10 ∧ okq kd q = true then some q else none) = (if okq kd q = true then some q else none)
        by_cases y : okq kd q = true
        · rw [if_pos y, if_pos ⟨by omega, by omega, y⟩]
        · rw [if_neg y, if_neg (fun h => y h.2.2)]
theorem wo_s {r : Option Nat} (hk : kd < 3) : (wh kd r).bind (fun q => if 10 ≤ q ∧ q < 11 ∧ okq kd q = true then some q else none) = if kd = 2 ∧ r = some 10 then some 10 else none := by
  cases r with
  | none => rw [if_neg (fun q => by cases q.2)]; rfl
  | some w =>
    show (if w = 10 ∧ 2 ≤ kd then some 10 else wq w).bind _ = _
    by_cases z : w = 10 ∧ 2 ≤ kd
    · have : kd = 2 := by omega
      rw [if_pos z, if_pos ⟨this, by rw [z.1]⟩]
      subst this
      decide
    · rw [if_neg z, if_neg (fun q => z ⟨Option.some.inj q.2, by omega⟩)]
      cases hq : wq w with
      | none => rfl
      | some q =>
        have := (wq_wd hq).1
        show (if 10 ≤ q ∧ q < 11 ∧ okq kd q = true then some q else none) = none
        rw [if_neg (fun h => by omega)]
theorem r_asksQ {m : ev_M} {q : Nat} (hq : q ≤ 10) : FX12_qAsksWord f (Int32.ofNat q) m = ev_bd (FX12_asks f (166 + q) m) (fun _ m2 => some ((), m2)) := by
  have cs : q = 0 ∨ q = 1 ∨ q = 2 ∨ q = 3 ∨ q = 4 ∨ q = 5 ∨ q = 6 ∨ q = 7 ∨ q = 8 ∨ q = 9 ∨ q = 10 := by omega
  unfold FX12_qAsksWord
  rcases cs with e | e | e | e | e | e | e | e | e | e | e <;> subst e
  · rw [if_pos (by decide)]
  · rw [if_neg (by decide), if_pos (by decide)]
  · rw [if_neg (by decide), if_neg (by decide), if_pos (by decide)]
  · rw [if_neg (by decide), if_neg (by decide), if_neg (by decide), if_pos (by decide)]
  · rw [if_neg (by decide), if_neg (by decide), if_neg (by decide), if_neg (by decide), if_pos (by decide)]
  · rw [if_neg (by decide), if_neg (by decide), if_neg (by decide), if_neg (by decide), if_neg (by decide), if_pos (by decide)]
  · rw [if_neg (by decide), if_neg (by decide), if_neg (by decide), if_neg (by decide), if_neg (by decide), if_neg (by decide), if_pos (by decide)]
  · rw [if_neg (by decide), if_neg (by decide), if_neg (by decide), if_neg (by decide), if_neg (by decide), if_neg (by decide), if_neg (by decide), if_pos (by decide)]
  · rw [if_neg (by decide), if_neg (by decide), if_neg (by decide), if_neg (by decide), if_neg (by decide), if_neg (by decide), if_neg (by decide), if_neg (by decide), if_pos (by decide)]
  · rw [if_neg (by decide), if_neg (by decide), if_neg (by decide), if_neg (by decide), if_neg (by decide), if_neg (by decide), if_neg (by decide), if_neg (by decide), if_neg (by decide), if_pos (by decide)]
  · rw [if_neg (by decide), if_neg (by decide), if_neg (by decide), if_neg (by decide), if_neg (by decide), if_neg (by decide), if_neg (by decide), if_neg (by decide), if_neg (by decide), if_neg (by decide)]
theorem wix_q : ∀ q, q < 10 → wix (166 + q) = wd q ∧ isWo (166 + q) = true := by decide
end
