/-! the class answers a question -/
def jn (w : Nat) (a : Int64) (t : Nat) (x : Int64) : Int64 :=
  if w = 23 then (if a.toInt = -1 ∧ x.toInt = 1 then (Int32.ofNat t).toInt64 else a)
  else if w = 24 then (if x.toInt = 1 then (Int32.ofNat t).toInt64 else a)
  else if w = 27 then (if t = 0 then x else if a.toInt < x.toInt then x else a)
  else if w = 28 then (if t = 0 then x else if x.toInt < a.toInt then x else a)
  else a + x
def anL (w : Nat) (v : Nat → Int64) (a0 : Int64) : Nat → Int64
  | 0 => a0
  | t + 1 => jn w (anL w v a0 t) t (v t)
def vqC (K : sp_K) (S : sp_S) (C : List Nat) (t : Nat) : Int64 := (Int32.ofInt (sp_ev (qe K S t) (qah K S t) C)).toInt64
theorem j_m1 : ((-1 : Int64)).toInt = -1 := by
  rw [Int64.toInt_neg, j_1]
  exact Int.bmod_eq_of_le (by omega) (by omega)
theorem q_join {f w t : Nat} {a : Int64} {x : Int32} {m : ev_M} (h : m.1 22 6 = Int32.ofNat w) (hw : 23 ≤ w ∧ w ≤ 28) (ht : t < 8) : FX7_joined f a (Int32.ofNat t) x m = some (jn w a t x.toInt64, m) := by
  have n1 : x = 1 ↔ x.toInt64.toInt = 1 := by rw [j_wide]; exact i_eq
  have t0 : Int32.ofNat t = 0 ↔ t = 0 := by rw [show (0 : Int32) = Int32.ofNat 0 from rfl]; exact n_eq (by omega) (by omega)
  have nw : ∀ (c : Int32) (j : Nat), c = Int32.ofNat j → j < 1000 → (Int32.ofNat w = c ↔ w = j) := fun c j hc hj => n_is c j hc (by omega) (by omega)
  unfold FX7_joined jn
  rw [h]
  by_cases w1 : w = 23
  · rw [if_pos ((nw 23 23 rfl (by omega)).mpr w1), if_pos w1]
    by_cases z : a.toInt = -1
    · rw [if_pos ((lg_eq0 _ _).mpr (by rw [j_m1]; exact z))]
      by_cases y : x = 1
      · rw [if_pos y, if_pos ⟨z, n1.mp y⟩]
      · rw [if_neg y, if_neg (fun q => y (n1.mpr q.2))]
    · rw [if_neg (fun q => z (by have := (lg_eq0 _ _).mp q; rw [j_m1] at this; exact this)), if_neg (fun q => z q.1)]
  rw [if_neg (fun q => w1 ((nw 23 23 rfl (by omega)).mp q)), if_neg w1]
  by_cases w2 : w = 24
  · rw [if_pos ((nw 24 24 rfl (by omega)).mpr w2), if_pos w2]
    by_cases y : x = 1
    · rw [if_pos y, if_pos (n1.mp y)]
    · rw [if_neg y, if_neg (fun q => y (n1.mpr q))]
  rw [if_neg (fun q => w2 ((nw 24 24 rfl (by omega)).mp q)), if_neg w2]
  by_cases w3 : w = 27
  · rw [if_pos ((nw 27 27 rfl (by omega)).mpr w3), if_pos w3]
    by_cases y : t = 0
    · rw [if_pos (t0.mpr y), if_pos y]
    · rw [if_neg (fun q => y (t0.mp q)), if_neg y, c_maxL, bd_some]
  rw [if_neg (fun q => w3 ((nw 27 27 rfl (by omega)).mp q)), if_neg w3]
  by_cases w4 : w = 28
  · rw [if_pos ((nw 28 28 rfl (by omega)).mpr w4), if_pos w4]
    by_cases y : t = 0
    · rw [if_pos (t0.mpr y), if_pos y]
    · rw [if_neg (fun q => y (t0.mp q)), if_neg y, c_minL, bd_some]
  rw [if_neg (fun q => w4 ((nw 28 28 rfl (by omega)).mp q)), if_neg w4]
theorem q_set {f t R : Nat} {K : sp_K} {S : sp_S} {m : ev_M} (ht : t < K.1) (hT : K.1 ≤ 8) (hS : CS m 103 S) (h17 : m.1 17 2 = Int32.ofNat R) (hR : R ≤ 31) (hQ : QA K S R m) :
    ∃ m', FX7_setValues f 103 (Int32.ofNat t) m = some ((), m') ∧ m'.2 = m.2 ∧ (∀ a, a ≠ 18 → m'.1 a = m.1 a) ∧ m'.1 18 15 = Int32.ofNat t ∧ m'.1 18 2 = S.2.2.1 t ∧ m'.1 18 3 = S.2.2.2.1 t ∧ m'.1 18 11 = S.1 ∧ m'.1 18 14 = (if R = 0 then -1 else sp_tns K 0 S t) ∧ m'.1 18 16 = (if R = 0 then -1 else (gos K S 1).2.2.1 t) ∧ m'.1 18 4 = S.2.2.2.2 t := by
  have e14 : (14 : Int32).toNatClampNeg = 14 := rfl
  have et : (Int32.ofNat t).toNatClampNeg = t := n_nat (by omega)
  have i8 : ev_in (Int32.ofNat t) 8 := (n_in (by omega)).mpr (by omega)
  have i248 : ev_in (Int32.ofNat t) 248 := (n_in (by omega)).mpr (by omega)
  have i14 : ev_in (14 : Int32) 29 := by decide
  have s := hS.2.2 t (by omega)
  have fin : ∀ (v14 v16 : Int32) (m' : ev_M), m' = ((ev_up (ev_up (ev_up (ev_up (ev_up (ev_up (ev_up m.1 18 15 (Int32.ofNat t)) 18 2 ((ev_up m.1 18 15 (Int32.ofNat t)) (103 + 1) t)) 18 3 ((ev_up (ev_up m.1 18 15 (Int32.ofNat t)) 18 2 ((ev_up m.1 18 15 (Int32.ofNat t)) (103 + 1) t)) (103 + 2) t)) 18 11 ((ev_up (ev_up (ev_up m.1 18 15 (Int32.ofNat t)) 18 2 ((ev_up m.1 18 15 (Int32.ofNat t)) (103 + 1) t)) 18 3 ((ev_up (ev_up m.1 18 15 (Int32.ofNat t)) 18 2 ((ev_up m.1 18 15 (Int32.ofNat t)) (103 + 1) t)) (103 + 2) t)) 103 2)) 18 14 v14) 18 16 v16) 18 4 (((m.1 103 4) >>> (Int32.ofNat t &&& 31)) &&& 1), m.2) : ev_M) → m'.2 = m.2 ∧ (∀ a, a ≠ 18 → m'.1 a = m.1 a) ∧ m'.1 18 15 = Int32.ofNat t ∧ m'.1 18 2 = S.2.2.1 t ∧ m'.1 18 3 = S.2.2.2.1 t ∧ m'.1 18 11 = S.1 ∧ m'.1 18 14 = v14 ∧ m'.1 18 16 = v16 ∧ m'.1 18 4 = S.2.2.2.2 t := by
    intro v14 v16 m' hm'
    subst hm'
    refine ⟨rfl, ?_, ?_, ?_, ?_, ?_, ?_, ?_, ?_⟩
    · intro a ha
      rw [upI_na _ _ _ _ ha, ev_up_ne _ _ _ ha, ev_up_ne _ _ _ ha, ev_up_ne _ _ _ ha, ev_up_ne _ _ _ ha, ev_up_ne _ _ _ ha, ev_up_ne _ _ _ ha]
    · rw [upI_nk _ _ _ _ (by decide), up_nk _ _ _ (by decide), up_nk _ _ _ (by decide), up_nk _ _ _ (by decide), up_nk _ _ _ (by decide), up_nk _ _ _ (by decide), up_at]
    · rw [upI_nk _ _ _ _ (by decide), up_nk _ _ _ (by decide), up_nk _ _ _ (by decide), up_nk _ _ _ (by decide), up_nk _ _ _ (by decide), up_at, up_na _ _ _ _ (by decide)]; exact s.1
    · rw [upI_nk _ _ _ _ (by decide), up_nk _ _ _ (by decide), up_nk _ _ _ (by decide), up_nk _ _ _ (by decide), up_at, up_na _ _ _ _ (by decide), up_na _ _ _ _ (by decide)]; exact s.2.1
    · rw [upI_nk _ _ _ _ (by decide), up_nk _ _ _ (by decide), up_nk _ _ _ (by decide), up_at, up_na _ _ _ _ (by decide), up_na _ _ _ _ (by decide), up_na _ _ _ _ (by decide)]; exact hS.1
    · rw [upI_nk _ _ _ _ (by decide), up_nk _ _ _ (by decide), up_at]
    · rw [upI_nk _ _ _ _ (by decide), up_at]
    · rw [upI_at]; exact s.2.2
  unfold FX7_setValues FX7_setValues_J20 FX7_setValues_J86
  rw [h17]
  by_cases z : R = 0
  · rw [if_pos (by rw [z]; decide), if_pos i8, if_pos i8, if_pos rfl, if_pos i14, if_pos rfl, e14, et]
    refine ⟨_, rfl, ?_⟩
    rw [if_pos z, if_pos z]
    refine fin (-1) (-1) _ ?_
    congr 2
  · rw [if_neg (by rw [i_le, n_int (by omega), e0']; omega), if_pos i8, if_pos i8, if_neg n10, if_pos i248, if_pos i14, if_neg n10, if_pos i8, e14, et]
    refine ⟨_, rfl, ?_⟩
    rw [if_neg z, if_neg z]
    have q1 : m.1 19 t = sp_tns K 0 S t := by
      have := hQ.1 0 t (by omega) ht
      rw [show 8 * 0 + t = t by omega] at this
      exact this
    have q2 : m.1 28 t = (gos K S 1).2.2.1 t := hQ.2 (by omega) t ht
    rw [← q1, ← q2]
    refine fin (m.1 19 t) (m.1 28 t) _ ?_
    congr 2
theorem q_said {f t R : Nat} {K : sp_K} {S : sp_S} {m : ev_M} {v : Int32} (ht : t < K.1) (hT : K.1 ≤ 8) (hr0 : 0 ≤ S.1.toInt) (h9 : S.1.toInt ≤ 999) (hR : (R : Int) = min 31 (999 - S.1.toInt)) (h17 : m.1 17 2 = Int32.ofNat R) (h15 : m.1 18 15 = Int32.ofNat t) (hQ : QA K S R m) : ∃ r : Int32, FX5_saidAhead f v m = some (r, m) ∧ r.toInt = qah K S t v.toInt := by
  have e31 : (31 : Int32).toInt = 31 := rfl
  have e8 : (8 : Int32).toInt = 8 := rfl
  have em : (-1 : Int32).toInt = -1 := by decide
  unfold FX5_saidAhead qah
  rw [h17, h15]
  by_cases z : 0 ≤ v.toInt
  · obtain ⟨n, rfl, hn1, hn2⟩ := n_ex z
    rw [if_neg (by rw [i_lt, e0']; omega), n_int hn1]
    by_cases y : n < R
    · rw [if_neg (by rw [i_le, n_int (by omega), n_int (by omega)]; omega), if_neg (by rw [i_le, e31, n_int (by omega)]; omega), if_neg (by rw [i_lt, e0', n_int (by omega)]; omega), if_pos (by rw [i_lt, e8, n_int (by omega)]; omega)]
      rw [show (Int32.ofNat n * 8) + Int32.ofNat t = Int32.ofNat (8 * n + t) from by rw [show (8 : Int32) = Int32.ofNat 8 from rfl, n_mul, n_add]; congr 1; omega]
      rw [if_pos ((n_in (by omega)).mpr (by omega)), n_nat (by omega), hQ.1 n t y ht]
      exact ⟨_, rfl, by rw [if_pos (by omega), Int.toNat_natCast]⟩
    · rw [if_pos (by rw [i_le, n_int (by omega), n_int (by omega)]; omega)]
      exact ⟨_, rfl, by rw [if_neg (by omega)]; exact em⟩
  · rw [if_pos (by rw [i_lt, e0']; omega)]
    exact ⟨_, rfl, by rw [if_neg (by omega)]; exact em⟩
theorem q_ansL {f c k0 R wq : Nat} {K : sp_K} {w : Int32} {b : Bool} {C : List Nat} {m0 : ev_M} {S : sp_S} {a0 : Int64} (hf : 1700 ≤ f) (hX : CX c K w k0 m0) (hS : CS m0 103 S) (hr : sp_rg S) (h9 : S.1.toInt ≤ 999) (hg : good kQ b C) (hl : C.length ≤ 1608) (hC : cells tr (m0.1 24) 0 C) (h23 : m0.1 23 1 = Int32.ofNat C.length) (h22 : m0.1 22 6 = Int32.ofNat wq) (hw : 23 ≤ wq ∧ wq ≤ 28) (hR : (R : Int) = min (rch C : Int) (999 - S.1.toInt)) (h17 : m0.1 17 2 = Int32.ofNat R) (hQ : QA K S R m0) : ∀ (j t n : Nat) (m : ev_M), t + j = K.1 → j < n → m.2 = m0.2 → (∀ a, a ≠ 18 → a ≠ 20 → m.1 a = m0.1 a) →
    ∃ m', FX7_answer_L34 f (fun e11 m12 => some (e11, m12)) 103 n (anL wq (vqC K S C) a0 t) (Int32.ofNat t) m = some (anL wq (vqC K S C) a0 K.1, m') := by
  have hT := hX.2.2.2.1.2.1
  have hR31 : R ≤ 31 := by have := rch_le C; omega
  intro j
  induction j with
  | zero =>
    intro t n m h1 h2 q1 q2
    obtain ⟨n, rfl⟩ : ∃ z, n = z + 1 := ⟨n - 1, by omega⟩
    have hm : frP relC m0 m := fun a k q => ⟨by rw [q2 a (by unfold relC at q; omega) (by unfold relC at q; omega)], by rw [q1]⟩
    have : t = K.1 := by omega
    subst this
    rw [FX7_answer_L34, c_towers (CX_fr hm hX), bd_some, if_pos ((n_le (by omega) (by omega)).mpr (Nat.le_refl _))]
    exact ⟨m, rfl⟩
  | succ j ih =>
    intro t n m h1 h2 q1 q2
    obtain ⟨n, rfl⟩ : ∃ z, n = z + 1 := ⟨n - 1, by omega⟩
    have hm : frP relC m0 m := fun a k q => ⟨by rw [q2 a (by unfold relC at q; omega) (by unfold relC at q; omega)], by rw [q1]⟩
    have hSm : CS m 103 S := CS_fr (fun k => by rw [q2 _ (by decide) (by decide)]) (fun k => by rw [q2 _ (by decide) (by decide)]) (fun k => by rw [q2 _ (by decide) (by decide)]) hS
    have hQm : QA K S R m := ⟨fun r k u1 u2 => by rw [q2 19 (by decide) (by decide)]; exact hQ.1 r k u1 u2, fun u k u2 => by rw [q2 28 (by decide) (by decide)]; exact hQ.2 u k u2⟩
    obtain ⟨m1, r1, r2, r3, v15, v2, v3, v11, v14, v16, v4⟩ := @q_set f t R K S m (by omega) hT hSm (by rw [q2 17 (by decide) (by decide)]; exact h17) hR31 hQm
    have hQ1 : QA K S R m1 := ⟨fun r k u1 u2 => by rw [r3 19 (by decide)]; exact hQm.1 r k u1 u2, fun u k u2 => by rw [r3 28 (by decide)]; exact hQm.2 u k u2⟩
    have h171 : m1.1 17 2 = Int32.ofNat R := by rw [r3 17 (by decide), q2 17 (by decide) (by decide)]; exact h17
    have em : (-1 : Int32).toInt = -1 := by decide
    have he : ∀ p, p < 10 → kC C p = true → (m1.1 18 (wd p)).toInt = qe K S t p ∧ sp_bd (qe K S t p) := by
      intro p hp hk
      refine ⟨?_, qe_bd hT (by omega) hr h9 p⟩
      have hq := kC_q hk
      have cs : p = 1 ∨ p = 2 ∨ p = 3 ∨ p = 6 ∨ p = 7 ∨ p = 8 ∨ p = 9 := by omega
      rcases cs with e | e | e | e | e | e | e <;> subst e
      · show (m1.1 18 2).toInt = (S.2.2.1 t).toInt
        rw [v2]
      · show (m1.1 18 3).toInt = (S.2.2.2.1 t).toInt
        rw [v3]
      · show (m1.1 18 11).toInt = S.1.toInt
        rw [v11]
      · have h1 := kC_68 hk (Or.inl rfl)
        show (m1.1 18 14).toInt = qah K S t 0
        rw [v14]
        unfold qah
        by_cases z : R = 0
        · rw [if_pos z, if_neg (by omega)]; exact em
        · rw [if_neg z, if_pos (by omega)]; rfl
      · show (m1.1 18 15).toInt = (t : Int)
        rw [v15, n_int (by omega)]
      · have h1 := kC_68 hk (Or.inr rfl)
        show (m1.1 18 16).toInt = (if S.1.toInt < 999 then ((gos K S 1).2.2.1 t).toInt else -1)
        rw [v16]
        by_cases z : R = 0
        · rw [if_pos z, if_neg (by omega)]; exact em
        · rw [if_neg z, if_pos (by omega)]
      · show (m1.1 18 4).toInt = (S.2.2.2.2 t).toInt
        rw [v4]
    have hah : kC C 10 = true → ∀ (v : Int32) (m' : ev_M), same20 m1 m' → ∃ r : Int32, FX5_saidAhead f v m' = some (r, m') ∧ r.toInt = qah K S t v.toInt := by
      intro hk v m' hs
      have h31 := kC_10 hk
      exact q_said (by omega) hT hr.1.1 h9 (by rw [h31] at hR; exact hR) (by rw [hs.1 17 (by decide)]; exact h171) (by rw [hs.1 18 (by decide)]; exact v15) ⟨fun r k u1 u2 => by rw [hs.1 19 (by decide)]; exact hQ1.1 r k u1 u2, fun u k u2 => by rw [hs.1 28 (by decide)]; exact hQ1.2 u k u2⟩
    obtain ⟨m2, w1, w2⟩ := @c_work f 23 0 (kC C) (qe K S t) (qah K S t) b C m1 hf (by decide) he hah (fun v => qah_bd (by omega) v) (by omega) (by rw [r3 _ (by decide), q2 _ (by decide) (by decide)]; exact hC) (good_kC hg)
    have e23 : m1.1 23 1 = Int32.ofNat (0 + C.length) := by rw [r3 23 (by decide), q2 23 (by decide) (by decide), Nat.zero_add]; exact h23
    have hj := @q_join f wq t (anL wq (vqC K S C) a0 t) (Int32.ofInt (sp_ev (qe K S t) (qah K S t) C)) m2 (by rw [w2.1 22 (by decide), r3 22 (by decide), q2 22 (by decide) (by decide)]; exact h22) hw (by omega)
    rw [FX7_answer_L34, c_towers (CX_fr hm hX), bd_some, if_neg (fun z => by rw [n_le (by omega) (by omega)] at z; omega), r1, bd_some, e23, show (0 : Int32) = Int32.ofNat 0 from rfl, w1, bd_some, hj, bd_some, s_1]
    exact ih (t + 1) n m2 (by omega) (by omega) (by rw [w2.2, r2, q1]) (fun a z1 z2 => by rw [w2.1 a z2, r3 a z1]; exact q2 a z1 z2)
theorem q_answer {f c k0 wq : Nat} {K : sp_K} {w : Int32} {b : Bool} {C : List Nat} {m : ev_M} {S : sp_S} (hf : 1700 ≤ f) (hX : CX c K w k0 m) (hS : CS m 103 S) (hr : sp_rg S) (h9 : S.1.toInt ≤ 999) (hg : good kQ b C) (hl : C.length ≤ 1608) (hC : cells tr (m.1 24) 0 C) (h23 : m.1 23 1 = Int32.ofNat C.length) (h22 : m.1 22 6 = Int32.ofNat wq) (hw : 23 ≤ wq ∧ wq ≤ 28) (h15 : m.1 15 4 = Int32.ofNat (rch C)) :
    ∃ m', FX7_answer f 103 m = some (anL wq (vqC K S C) (if wq ≤ 24 then -1 else 0) K.1, m') ∧ frP relC m m' := by
  have nw : ∀ (c : Int32) (j : Nat), c = Int32.ofNat j → j < 1000 → (Int32.ofNat wq = c ↔ wq = j) := fun c j hc hj => n_is c j hc (by omega) (by omega)
  have hT := hX.2.2.2.1.2.1
  obtain ⟨R, hR⟩ : ∃ R : Nat, (R : Int) = min (rch C : Int) (999 - S.1.toInt) := ⟨(min (rch C : Int) (999 - S.1.toInt)).toNat, by omega⟩
  obtain ⟨m1, r1, r2, r3, r4⟩ := @q_look f c k0 (rch C) R K w m S hf hX hS hr h9 (rch_le C) h15 hR
  have md := MDX7_lookAhead r1
  have hS1 : CS m1 103 S := CS_fr (fun k => (md 103 k (by unfold mdX7_lookAhead; omega)).1) (fun k => (md _ k (by unfold mdX7_lookAhead; omega)).1) (fun k => (md _ k (by unfold mdX7_lookAhead; omega)).1) hS
  have e24 : m1.1 24 = m.1 24 := funext fun k => (md 24 k (by unfold mdX7_lookAhead; omega)).1
  have go : ∀ a0, ∃ m', FX7_answer_J30 f 103 a0 m1 = some (anL wq (vqC K S C) a0 K.1, m') := by
    intro a0
    unfold FX7_answer_J30
    exact @q_ansL f c k0 R wq K w b C m1 S a0 hf (CX_fr r2 hX) hS1 hr h9 hg hl (by rw [e24]; exact hC) (by rw [(md 23 1 (by unfold mdX7_lookAhead; omega)).1]; exact h23) (by rw [(md 22 6 (by unfold mdX7_lookAhead; omega)).1]; exact h22) hw hR r3 r4 K.1 0 f m1 (by omega) (by omega) rfl (fun _ _ _ => rfl)
  have e22 : m1.1 22 6 = Int32.ofNat wq := by rw [(md 22 6 (by unfold mdX7_lookAhead; omega)).1]; exact h22
  have res : ∃ m', FX7_answer f 103 m = some (anL wq (vqC K S C) (if wq ≤ 24 then -1 else 0) K.1, m') := by
    unfold FX7_answer FX7_answer_J23
    rw [r1, bd_some, e22]
    by_cases w1 : wq = 23
    · rw [if_pos ((nw 23 23 rfl (by omega)).mpr w1), if_pos (by omega)]; exact go _
    rw [if_neg (fun q => w1 ((nw 23 23 rfl (by omega)).mp q))]
    by_cases w2 : wq = 24
    · rw [if_pos ((nw 24 24 rfl (by omega)).mpr w2), if_pos (by omega)]; exact go _
    rw [if_neg (fun q => w2 ((nw 24 24 rfl (by omega)).mp q)), if_neg (by omega)]; exact go _
  obtain ⟨m', e⟩ := res
  exact ⟨m', e, (MDX7_answer e).mono (fun a k q => by unfold mdX7_answer; unfold relC at q; omega)⟩
