/-! the words of a question, in the reference -/
theorem p_part {f t : Nat} {K : sp_K} {S : sp_S} {m : ev_M} (hT : K.1 ≤ 8) (ht : t < K.1) (hr : sp_rg S) (h46 : m.1 112 46 = 2) (hS : RS m K.1 S) (hQ : QL K S 31 m) {p : Nat} (hp : p < 10) (hk : kQ p = true) : ∃ v : Int64, FX12_qPartOf f (Int32.ofNat p) (Int32.ofNat t) m = some (v, m) ∧ v.toInt = qe K S t p := by
  have s := hS.2.2 t ht
  have em : (-1 : Int32).toInt = -1 := by decide
  have e9 : (999 : Int32).toInt = 999 := rfl
  have q0 := hr.1
  have hq : (1 ≤ p ∧ p ≤ 3) ∨ 5 < p := by unfold kQ at hk; exact of_decide_eq_true hk
  have cs : p = 1 ∨ p = 2 ∨ p = 3 ∨ p = 6 ∨ p = 7 ∨ p = 8 ∨ p = 9 := by omega
  rcases cs with e | e | e | e | e | e | e <;> subst e
  · show ∃ v, FX12_qPartOf f 1 (Int32.ofNat t) m = some (v, m) ∧ v.toInt = (S.2.2.1 t).toInt
    unfold FX12_qPartOf
    rw [if_neg (by decide), if_pos rfl, r_mood (by omega), bd_some]
    exact ⟨_, rfl, by rw [j_wide, s.1]⟩
  · show ∃ v, FX12_qPartOf f 2 (Int32.ofNat t) m = some (v, m) ∧ v.toInt = (S.2.2.2.1 t).toInt
    unfold FX12_qPartOf
    rw [if_neg (by decide), if_neg (by decide), if_pos rfl, r_cheer (by omega), bd_some]
    exact ⟨_, rfl, by rw [j_wide, s.2.1]⟩
  · show ∃ v, FX12_qPartOf f 3 (Int32.ofNat t) m = some (v, m) ∧ v.toInt = S.1.toInt
    unfold FX12_qPartOf
    rw [if_neg (by decide), if_neg (by decide), if_neg (by decide), if_pos rfl]
    exact ⟨_, rfl, by rw [j_wide, hS.1]⟩
  · show ∃ v, FX12_qPartOf f 6 (Int32.ofNat t) m = some (v, m) ∧ v.toInt = qah K S t 0
    unfold FX12_qPartOf FX12_toneIn
    rw [if_neg (by decide), if_neg (by decide), if_neg (by decide), if_neg (by decide), if_neg (by decide), if_neg (by decide), if_pos rfl, if_pos h46]
    rw [show (8 * (0 : Int32)) + Int32.ofNat t = Int32.ofNat t from by rw [show (8 * (0 : Int32)) = Int32.ofNat 0 from rfl, n_add, Nat.zero_add], if_pos ((n_in (by omega)).mpr (by omega)), n_nat (by omega), bd_some]
    refine ⟨_, rfl, ?_⟩
    have := hQ.1 0 t (by omega) ht
    rw [show 8 * 0 + t = t by omega] at this
    rw [j_wide, this]
    unfold qah
    by_cases z : S.1.toInt + ((0 : Nat) : Int) < 999
    · rw [if_pos z, if_pos (by omega)]; rfl
    · rw [if_neg z, if_neg (by omega)]; exact em
  · show ∃ v, FX12_qPartOf f 7 (Int32.ofNat t) m = some (v, m) ∧ v.toInt = (t : Int)
    unfold FX12_qPartOf
    rw [if_neg (by decide), if_neg (by decide), if_neg (by decide), if_neg (by decide), if_neg (by decide), if_neg (by decide), if_neg (by decide), if_pos rfl]
    exact ⟨_, rfl, by rw [j_wide, n_int (by omega)]⟩
  · show ∃ v, FX12_qPartOf f 8 (Int32.ofNat t) m = some (v, m) ∧ v.toInt = (if S.1.toInt < 999 then ((gos K S 1).2.2.1 t).toInt else -1)
    unfold FX12_qPartOf
    rw [if_neg (by decide), if_neg (by decide), if_neg (by decide), if_neg (by decide), if_neg (by decide), if_neg (by decide), if_neg (by decide), if_neg (by decide), if_pos rfl, hS.1]
    by_cases z : S.1.toInt < 999
    · rw [if_neg (by rw [i_le, e9]; omega), if_pos ((n_in (by omega)).mpr (by omega)), n_nat (by omega), if_pos z]
      exact ⟨_, rfl, by rw [j_wide, hQ.2 (by omega) t ht]⟩
    · rw [if_pos (by rw [i_le, e9]; omega), if_neg z]
      exact ⟨_, rfl, j_m1⟩
  · show ∃ v, FX12_qPartOf f 9 (Int32.ofNat t) m = some (v, m) ∧ v.toInt = (S.2.2.2.2 t).toInt
    unfold FX12_qPartOf
    rw [if_neg (by decide), if_neg (by decide), if_neg (by decide), if_neg (by decide), if_neg (by decide), if_neg (by decide), if_neg (by decide), if_neg (by decide), if_neg (by decide), r_yes (by omega), bd_some, s.2.2]
    rcases (hr.2.2 t (by omega)).2.2 with z | z
    · rw [z, if_neg (show ¬ (0 : Int32) = 1 by decide), if_pos rfl]; exact ⟨_, rfl, rfl⟩
    · rw [z, if_pos rfl, if_neg n10]; exact ⟨_, rfl, rfl⟩
theorem p_of {f t : Nat} {K : sp_K} {S : sp_S} {m : ev_M} {a : Int32} {v : Int64} (hT : K.1 ≤ 8) (ht : t < K.1) (hQ : QL K S 31 m) : ∃ r : Int64, FX12_qOf f a v (Int32.ofNat t) m = some (r, m) ∧ r.toInt = qah K S t v.toInt := by
  have em : (-1 : Int32).toInt = -1 := by decide
  have e30 : ((30 : Int64)).toInt = 30 := rfl
  unfold FX12_qOf qah
  rw [r_isIn, bd_some, j_0, e30]
  by_cases z : 0 ≤ v.toInt ∧ v.toInt ≤ 30
  · rw [if_pos z, if_neg n10]
    obtain ⟨n, hn⟩ : ∃ n : Nat, v.toInt = (n : Int) := ⟨v.toInt.toNat, by omega⟩
    have e : v.toInt32 = Int32.ofNat n := by
      rw [i_eq, j_cast (by omega) (by omega), n_int (by omega)]; exact hn
    unfold FX12_toneIn
    rw [e, show (8 * Int32.ofNat n) + Int32.ofNat t = Int32.ofNat (8 * n + t) from by rw [show (8 : Int32) = Int32.ofNat 8 from rfl, n_mul, n_add], if_pos ((n_in (by omega)).mpr (by omega)), n_nat (by omega), bd_some, hQ.1 n t (by omega) ht]
    refine ⟨_, rfl, ?_⟩
    rw [j_wide, hn]
    by_cases y : S.1.toInt + (n : Int) < 999
    · rw [if_pos y, if_pos (by omega), Int.toNat_natCast]
    · rw [if_neg y, if_neg (by omega)]; exact em
  · rw [if_neg z, if_pos rfl]
    exact ⟨_, rfl, by rw [if_neg (by omega)]; exact j_m1⟩
/-- what is asked of a question's answering -/
def QS (K : sp_K) (S : sp_S) (C : List Nat) (m : ev_M) : Prop := m.1 112 46 = 2 ∧ m.1 112 36 = Int32.ofNat K.1 ∧ RS m K.1 S ∧ QL K S 31 m ∧ m.1 112 93 = Int32.ofNat C.length ∧ cells Int32.ofNat (m.1 177) 0 C
theorem QS_fr {K : sp_K} {S : sp_S} {C : List Nat} {m m' : ev_M} (h : QS K S C m) (hf : ∀ a k, ¬ (a = 112 ∧ (k = 99 ∨ k = 101)) → m'.1 a k = m.1 a k) : QS K S C m' := by
  obtain ⟨a1, a2, a3, a4, a5, a6⟩ := h
  refine ⟨by rw [hf _ _ (by omega)]; exact a1, by rw [hf _ _ (by omega)]; exact a2, RS_a a3 (fun k => hf _ _ (by omega)), ⟨fun r k u1 u2 => by rw [hf _ _ (by omega)]; exact a4.1 r k u1 u2, fun u k u2 => by rw [hf _ _ (by omega)]; exact a4.2 u k u2⟩, by rw [hf _ _ (by omega)]; exact a5, cells_fr _ _ (fun i _ _ => hf _ _ (by omega)) a6⟩
theorem r_toldQ {f t : Nat} {K : sp_K} {S : sp_S} {b : Bool} {C : List Nat} {m : ev_M} (hf : 1700 ≤ f) (hT : K.1 ≤ 8) (ht : t < K.1) (hr : sp_rg S) (h9 : S.1.toInt ≤ 999) (hl : C.length ≤ 1601) (hg : good kQ b C) (hQ : QS K S C m) : ∃ m', FX12_qTold f (Int32.ofNat t) m = some (vqC K S C t, m') ∧ sameQ m m' := by
  obtain ⟨h46, h36, hS, hL, h93, hC⟩ := hQ
  have fq : ∀ m', sameQ m m' → QS K S C m' := fun m' h => QS_fr ⟨h46, h36, hS, hL, h93, hC⟩ (fun a k z => h.1 a k (by omega))
  unfold FX12_qTold
  obtain ⟨m', h1, h2, h3⟩ := @r_told_L f (Int32.ofNat t) (fun m17 => some ((m17.2 179 0), m17)) kQ (qe K S t) (qah K S t) m (fun p hp hk => ⟨qe_bd hT ht hr h9 p, fun m' hs => p_part hT ht hr (fq m' hs).1 (fq m' hs).2.2.1 (fq m' hs).2.2.2.1 hp hk⟩) (fun _ v m' hs => p_of hT ht (fq m' hs).2.2.2.1) (fun v => qah_bd ht v) C.length hl h93 C 0 f (fun _ => 0) (fun _ => false) 0 (ev_up m.1 112 99 0, m.2) (by omega) (by omega) (sameQ_up1 ⟨fun _ _ _ => rfl, fun _ _ => rfl⟩ _) hC hg.1 (fun i hi => by omega) (by omega) (upI_at _ _ _ _ _) (fun i hi => by omega)
  refine ⟨m', ?_, h2⟩
  rw [z0] at h1
  rw [h1]
  have e0 := h3 0 (by rw [hg.2.1]; omega)
  have hb := ev_bdd (e := qe K S t) (ah := qah K S t) hg (fun p h1 h2 => qe_bd hT ht hr h9 p) (fun v => qah_bd ht v)
  have hb2 := hb.2
  unfold sp_bd at hb2
  have : m'.2 179 0 = vqC K S C t := by
    rw [j_eq]
    unfold vqC
    rw [j_wide, v_int (by omega) (by omega)]
    exact e0
  rw [this]
theorem k_J90 {f : Nat} {a : Int32} {v : Int64} {m : ev_M} (h : a ≤ 3) : FX12_qTakes_J90 f a v m = some ((), (ev_up m.1 112 101 0, m.2)) := by
  unfold FX12_qTakes_J90
  rw [if_pos h]
theorem r_takes {f w t : Nat} {a v : Int64} {m : ev_M} (hw : 23 ≤ w ∧ w ≤ 28) (ht : t < 8) (ha : m.2 112 100 = a) (hn : m.1 112 101 = if t = 0 then 1 else 0) (hv : w ≤ 25 → v.toInt = 0 ∨ v.toInt = 1) : ∃ m', FX12_qTakes f (Int32.ofNat (w - 23)) v (Int32.ofNat t) m = some ((), m') ∧ m'.2 112 100 = jn w a t v ∧ m'.1 112 101 = 0 ∧ (∀ b k, ¬ (b = 112 ∧ k = 101) → m'.1 b k = m.1 b k) := by
  have up1 : ∀ (L : Nat → Nat → Int64), ((ev_up m.1 112 101 0, L) : ev_M).1 112 101 = 0 ∧ (∀ b k, ¬ (b = 112 ∧ k = 101) → ((ev_up m.1 112 101 0, L) : ev_M).1 b k = m.1 b k) := by
    intro L
    refine ⟨upI_at _ _ _ _ _, fun b k z => ?_⟩
    by_cases e : b = 112
    · subst e; rw [upI_nk _ _ _ _ (fun q => z ⟨rfl, q⟩)]
    · rw [upI_na _ _ _ _ e]
  have upL : ∀ x, (ev_up m.2 112 100 x) 112 100 = x := fun x => up_at _ _ _ _
  have v1 : lg_cmp v 1 = 0 ↔ v.toInt = 1 := by rw [lg_eq0, j_1]
  have am : lg_cmp a (-1) = 0 ↔ a.toInt = -1 := by rw [lg_eq0, j_m1]
  have cs : w = 23 ∨ w = 24 ∨ w = 25 ∨ w = 26 ∨ w = 27 ∨ w = 28 := by omega
  rcases cs with e | e | e | e | e | e <;> subst e
  · show ∃ m', FX12_qTakes f 0 v (Int32.ofNat t) m = some ((), m') ∧ m'.2 112 100 = (if a.toInt = -1 ∧ v.toInt = 1 then (Int32.ofNat t).toInt64 else a) ∧ _
    have j55 : ∀ s m, FX12_qTakes_J55 f 0 v s m = some ((), (ev_up m.1 112 101 0, m.2)) := fun s m => by
      unfold FX12_qTakes_J55 FX12_qTakes_J75
      rw [if_neg (by decide), if_neg (by decide), k_J90 (by decide)]
    have j38 : ∀ s m, FX12_qTakes_J38 f 0 v (Int32.ofNat t) s m = some ((), (ev_up m.1 112 101 0, m.2)) := fun s m => by
      unfold FX12_qTakes_J38
      rw [if_neg (by decide), j55]
    have j48 : ∀ s m, FX12_qTakes_J48 f 0 v (Int32.ofNat t) s m = some ((), (ev_up m.1 112 101 0, ev_up m.2 112 100 (Int32.ofNat t).toInt64)) := fun s m => by
      unfold FX12_qTakes_J48
      rw [j55]
    unfold FX12_qTakes FX12_qTakes_J15 FX12_qTakes_J16
    rw [if_neg (by decide), if_pos rfl, if_neg n10, if_pos rfl, if_pos rfl, ha]
    by_cases y : v.toInt = 1
    · rw [if_pos (v1.mpr y)]
      by_cases z : a.toInt = -1
      · rw [if_pos (am.mpr z), j48, if_pos ⟨z, y⟩]
        exact ⟨_, rfl, upL _, up1 _⟩
      · rw [if_neg (fun q => z (am.mp q)), j38, if_neg (fun q => z q.1)]
        exact ⟨_, rfl, ha, up1 _⟩
    · rw [if_neg (fun q => y (v1.mp q)), j38, if_neg (fun q => y q.2)]
      exact ⟨_, rfl, ha, up1 _⟩
  · show ∃ m', FX12_qTakes f 1 v (Int32.ofNat t) m = some ((), m') ∧ m'.2 112 100 = (if v.toInt = 1 then (Int32.ofNat t).toInt64 else a) ∧ _
    have j55 : ∀ s m, FX12_qTakes_J55 f 1 v s m = some ((), (ev_up m.1 112 101 0, m.2)) := fun s m => by
      unfold FX12_qTakes_J55 FX12_qTakes_J75
      rw [if_neg (by decide), if_neg (by decide), k_J90 (by decide)]
    unfold FX12_qTakes FX12_qTakes_J15 FX12_qTakes_J16 FX12_qTakes_J38 FX12_qTakes_J48
    rw [if_neg (by decide), if_neg n10, if_neg n10, if_pos rfl, if_pos rfl, if_neg n10, if_pos rfl, j55, j55]
    by_cases y : v.toInt = 1
    · rw [if_pos (v1.mpr y), if_pos y]
      exact ⟨_, rfl, upL _, up1 _⟩
    · rw [if_neg (fun q => y (v1.mp q)), if_neg y]
      exact ⟨_, rfl, ha, up1 _⟩
  · show ∃ m', FX12_qTakes f 2 v (Int32.ofNat t) m = some ((), m') ∧ m'.2 112 100 = a + v ∧ _
    have j75 : ∀ m, FX12_qTakes_J75 f 2 v m = some ((), (ev_up m.1 112 101 0, m.2)) := fun m => by
      unfold FX12_qTakes_J75
      rw [if_neg (by decide), k_J90 (by decide)]
    have j16 : ∀ s m, FX12_qTakes_J16 f 2 v (Int32.ofNat t) s m = (if s = 0 then some ((), (ev_up m.1 112 101 0, m.2)) else some ((), (ev_up m.1 112 101 0, ev_up m.2 112 100 (m.2 112 100 + 1)))) := fun s m => by
      unfold FX12_qTakes_J16 FX12_qTakes_J38 FX12_qTakes_J55
      rw [if_neg (by decide), if_neg (by decide), if_pos rfl, j75, j75]
    unfold FX12_qTakes FX12_qTakes_J15
    rw [if_neg (by decide), j16, j16, if_neg n10, if_pos rfl, ha]
    by_cases y : v.toInt = 1
    · rw [if_pos (v1.mpr y)]
      refine ⟨_, rfl, ?_, up1 _⟩
      rw [show v = 1 from j_eq.mpr y]; exact upL _
    · rw [if_neg (fun q => y (v1.mp q))]
      refine ⟨_, rfl, ?_, up1 _⟩
      have : v = 0 := j_eq.mpr ((hv (by omega)).resolve_right y)
      rw [this]
      show m.2 112 100 = a + 0
      rw [ha, Int64.add_zero]
  · show ∃ m', FX12_qTakes f 3 v (Int32.ofNat t) m = some ((), m') ∧ m'.2 112 100 = a + v ∧ _
    unfold FX12_qTakes FX12_qTakes_J15 FX12_qTakes_J16 FX12_qTakes_J38 FX12_qTakes_J55 FX12_qTakes_J75
    rw [if_pos (by decide), if_neg (by decide), if_neg (by decide), if_neg (by decide), if_pos rfl, k_J90 (by decide), ha]
    exact ⟨_, rfl, upL _, up1 _⟩
  · show ∃ m', FX12_qTakes f 4 v (Int32.ofNat t) m = some ((), m') ∧ m'.2 112 100 = (if t = 0 then v else if a.toInt < v.toInt then v else a) ∧ _
    unfold FX12_qTakes FX12_qTakes_J15 FX12_qTakes_J16 FX12_qTakes_J38 FX12_qTakes_J55 FX12_qTakes_J75 FX12_qTakes_J90
    rw [if_pos (by decide), if_neg (by decide), if_neg (by decide), if_neg (by decide), if_neg (by decide), if_neg (by decide), hn, if_pos rfl, ha]
    by_cases z : t = 0
    · rw [if_pos z, if_neg n10, if_pos z]
      exact ⟨_, rfl, upL _, up1 _⟩
    · rw [if_neg z, if_pos rfl, if_neg z]
      by_cases y : a.toInt < v.toInt
      · rw [if_neg (fun q => by rw [lg_le0] at q; omega), if_pos y]
        exact ⟨_, rfl, upL _, up1 _⟩
      · rw [if_pos ((lg_le0 _ _).mpr (by omega)), if_neg y]
        exact ⟨_, rfl, ha, up1 _⟩
  · show ∃ m', FX12_qTakes f 5 v (Int32.ofNat t) m = some ((), m') ∧ m'.2 112 100 = (if t = 0 then v else if v.toInt < a.toInt then v else a) ∧ _
    unfold FX12_qTakes FX12_qTakes_J15 FX12_qTakes_J16 FX12_qTakes_J38 FX12_qTakes_J55 FX12_qTakes_J75 FX12_qTakes_J90
    rw [if_pos (by decide), if_neg (by decide), if_neg (by decide), if_neg (by decide), if_neg (by decide), if_neg (by decide), hn, if_neg (show ¬ (5 : Int32) = 4 by decide), ha]
    by_cases z : t = 0
    · rw [if_pos z, if_neg n10, if_pos z]
      exact ⟨_, rfl, upL _, up1 _⟩
    · rw [if_neg z, if_pos rfl, if_neg z]
      by_cases y : v.toInt < a.toInt
      · rw [if_neg (fun q => by rw [lg_ge0] at q; omega), if_pos y]
        exact ⟨_, rfl, upL _, up1 _⟩
      · rw [if_pos ((lg_ge0 _ _).mpr (by omega)), if_neg y]
        exact ⟨_, rfl, ha, up1 _⟩
theorem vqC_01 {t : Nat} {K : sp_K} {S : sp_S} {C : List Nat} (hT : K.1 ≤ 8) (ht : t < K.1) (hr : sp_rg S) (h9 : S.1.toInt ≤ 999) (hg : good kQ true C) : (vqC K S C t).toInt = 0 ∨ (vqC K S C t).toInt = 1 := by
  have hb := ev_bdd (e := qe K S t) (ah := qah K S t) hg (fun p h1 h2 => qe_bd hT ht hr h9 p) (fun v => qah_bd ht v)
  have hb2 := hb.1 rfl
  unfold vqC
  rw [j_wide, v_int (by omega) (by omega)]
  exact hb2
theorem r_ansL {f w : Nat} {K : sp_K} {S : sp_S} {b : Bool} {C : List Nat} {a0 : Int64} (hf : 1700 ≤ f) (hT : K.1 ≤ 8) (hr : sp_rg S) (h9 : S.1.toInt ≤ 999) (hl : C.length ≤ 1601) (hg : good kQ b C) (hb : w ≤ 25 → b = true) (hw : 23 ≤ w ∧ w ≤ 28) : ∀ (j t n : Nat) (m : ev_M), t + j = K.1 → j < n → QS K S C m → m.2 112 100 = anL w (vqC K S C) a0 t → (m.1 112 101 = if t = 0 then 1 else 0) → ∃ m', FX12_ask_L192 f (fun m11 => some ((m11.2 112 100), m11)) (Int32.ofNat (w - 23)) n (Int32.ofNat t) m = some (anL w (vqC K S C) a0 K.1, m') := by
  intro j
  induction j with
  | zero =>
    intro t n m h1 h2 q1 q2 q3
    obtain ⟨n, rfl⟩ : ∃ z, n = z + 1 := ⟨n - 1, by omega⟩
    have : t = K.1 := by omega
    subst this
    rw [FX12_ask_L192, r_tm q1.2.1, bd_some, if_pos ((n_le (by omega) (by omega)).mpr (Nat.le_refl _))]
    exact ⟨m, by rw [q2]⟩
  | succ j ih =>
    intro t n m h1 h2 q1 q2 q3
    obtain ⟨n, rfl⟩ : ∃ z, n = z + 1 := ⟨n - 1, by omega⟩
    obtain ⟨m1, r1, r2⟩ := @r_toldQ f t K S b C m hf hT (by omega) hr h9 hl hg q1
    obtain ⟨m2, s1, s2, s3, s4⟩ := @r_takes f w t (anL w (vqC K S C) a0 t) (vqC K S C t) m1 hw (by omega) (by rw [r2.2 112 (by decide)]; exact q2) (by rw [r2.1 112 101 (by omega)]; exact q3) (fun hw2 => by
      have := hb hw2
      subst this
      exact vqC_01 hT (by omega) hr h9 hg)
    rw [FX12_ask_L192, r_tm q1.2.1, bd_some, if_neg (fun z => by rw [n_le (by omega) (by omega)] at z; omega), r1, bd_some, s1, bd_some, s_1]
    exact ih (t + 1) n m2 (by omega) (by omega) (QS_fr q1 (fun a k z => by rw [s4 a k (by omega)]; exact r2.1 a k (by omega))) s2 (by rw [if_neg (by omega)]; exact s3)
