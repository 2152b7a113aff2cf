/-! how the reference's tests go on -/
def QTR (β : Nat → Int32) (E : Nat) (m : ev_M) (y : Yr) (W : List Nat) (o : Nat) : Prop := match y with
  | .inl e => RB m e
  | .inr x => QT β E m x W o
def OutT (β : Nat → Int32) (E : Nat) (r : Int32) (m' : ev_M) (s : Sy) (p : Nat) : Prop :=
  (r = 1 ∧ ∃ x' W' o', Rt β E s (0, .inr x', W', o') ∧ QT β E m' x' W' o' ∧ p < x'.1) ∨ (r = 0 ∧ ∃ y' W' o', Rt β E s (3, y', W', o') ∧ QTR β E m' y' W' o')
section
variable {f E : Nat} {β : Nat → Int32}
theorem OutT_pre {m' : ev_M} {s s' : Sy} {p p' : Nat} {r : Int32} (h : Rt β E s s') (hp : p ≤ p') (q : OutT β E r m' s' p') : OutT β E r m' s p := by
  rcases q with ⟨e, x', W', o', a1, a2, a3⟩ | ⟨e, y', W', o', a1, a2⟩
  · exact Or.inl ⟨e, x', W', o', Rt_tr h a1, a2, by omega⟩
  · exact Or.inr ⟨e, y', W', o', Rt_tr h a1, a2⟩
theorem t_len {m : ev_M} {x : Nat × Bool × List Nat} {W : List Nat} {o : Nat} (h : QT β E m x W o) : E ≤ 1600 ∧ x.1 ≤ E ∧ x.2.2.length + W.length ≤ x.1 ∧ o ≤ 6 := by
  have hE := h.1.1.1.1
  have hpE := h.1.1.2.1
  have hbd := h.1.2.2.2.2.2.2.2.2.2.1
  have ho := h.1.2.2.2.2.2.2.2.2.2.2.2.2
  exact ⟨hE, hpE, by omega, ho⟩
theorem t_hasSq {m : ev_M} {x : Nat × Bool × List Nat} {W : List Nat} {o : Nat} (hf : 4000 ≤ f) (h : QT β E m x W o) : FX12_qHasSquare f m = some (if 25 ∈ W then 1 else 0, m) := by
  obtain ⟨hE, hpE, hbd, _⟩ := t_len h
  have g6 : m.1 112 95 = Int32.ofNat W.length := by rw [h.1.2.2.2.2.2.1, Nat.zero_add]
  have g7 := h.1.2.2.2.2.2.2.1
  have lp : ∀ (j n i : Nat), W.length - i = j → j < n → i ≤ W.length → ∃ v, FX12_qHasSquare_L2 f (fun m1 => some (0, m1)) n (Int32.ofNat i) m = some (v, m) ∧ ((∃ i', i ≤ i' ∧ i' < W.length ∧ m.1 178 i' = 25) ∧ v = 1 ∨ (¬ ∃ i', i ≤ i' ∧ i' < W.length ∧ m.1 178 i' = 25) ∧ v = 0) := by
    intro j
    induction j with
    | zero =>
      intro n i h1 hn hi
      obtain ⟨n, rfl⟩ : ∃ i, n = i + 1 := ⟨n - 1, by omega⟩
      unfold FX12_qHasSquare_L2
      rw [g6, if_pos ((n_le (by omega) (by omega)).mpr (by omega))]
      exact ⟨0, rfl, Or.inr ⟨fun ⟨i', q1, q2, _⟩ => by omega, rfl⟩⟩
    | succ j ih =>
      intro n i h1 hn hi
      obtain ⟨n, rfl⟩ : ∃ i, n = i + 1 := ⟨n - 1, by omega⟩
      unfold FX12_qHasSquare_L2
      rw [g6, if_neg (fun q => by rw [n_le (by omega) (by omega)] at q; omega), if_pos ((n_in (by omega)).mpr (by omega))]
      have en : m.1 178 (Int32.ofNat i).toNatClampNeg = m.1 178 i := by rw [n_nat (by omega)]
      by_cases z : m.1 178 i = 25
      · rw [if_pos (en.trans z)]
        exact ⟨1, rfl, Or.inl ⟨⟨i, Nat.le_refl _, by omega, z⟩, rfl⟩⟩
      · rw [if_neg (fun q => z (en.symm.trans q)), s_1]
        obtain ⟨v, v1, v2⟩ := ih n (i + 1) (by omega) (by omega) (by omega)
        refine ⟨v, v1, ?_⟩
        rcases v2 with ⟨⟨i', q1, q2, q3⟩, e⟩ | ⟨q, e⟩
        · exact Or.inl ⟨⟨i', by omega, q2, q3⟩, e⟩
        · refine Or.inr ⟨fun ⟨i', q1, q2, q3⟩ => ?_, e⟩
          by_cases e2 : i' = i
          · subst e2; exact z q3
          · exact q ⟨i', by omega, q2, q3⟩
  obtain ⟨v, v1, v2⟩ := lp W.length f 0 (by omega) (by omega) (by omega)
  have v1' : FX12_qHasSquare f m = some (v, m) := v1
  rw [v1']
  obtain ⟨k1, k2⟩ := stk_get W g7
  rcases v2 with ⟨⟨i', q1, q2, q3⟩, e⟩ | ⟨q, e⟩
  · obtain ⟨c, c1, c2, c3⟩ := k1 i' q2
    have : c = 25 := by
      rw [q3] at c3
      exact ((n_is 25 25 rfl (by omega) (by omega)).mp c3.symm)
    subst this
    rw [if_pos c1, e]
  · rw [if_neg (fun hm => by
      obtain ⟨i, i1, i2⟩ := k2 25 hm
      exact q ⟨i, Nat.zero_le _, i1, i2⟩), e]
theorem t_L33 (k : ev_M → Option (Int32 × ev_M)) : ∀ (W : List Nat) (n o : Nat) (m : ev_M) (x : Nat × Bool × List Nat), W.length < n → 25 ∈ W → QT β E m x W o → ∃ m', FX12_qGoesOnTest_L33 f k n m = k m' ∧ QT β E m' (x.1, x.2.1, x.2.2 ++ W.takeWhile n25) (W.dropWhile n25) o := by
  intro W
  induction W with
  | nil => intro n o m x hn hm; cases hm
  | cons c V ih =>
    intro n o m x hn hm h
    have hl : (c :: V).length = V.length + 1 := rfl
    obtain ⟨n, rfl⟩ : ∃ i, n = i + 1 := ⟨n - 1, by omega⟩
    unfold FX12_qGoesOnTest_L33
    rw [show FX12_qIsOn f 25 m = some (if c = 25 then 1 else 0, m) from t_isOn (c := 25) h (by omega) (by omega), bd_some]
    by_cases z : c = 25
    · rw [if_pos z, if_neg n10]
      have hc : ¬ n25 c = true := fun q => (of_decide_eq_true q) z
      refine ⟨m, rfl, ?_⟩
      rw [List.takeWhile_cons, if_neg hc, List.dropWhile_cons, if_neg hc, List.append_nil]
      exact h
    · rw [if_neg z, if_pos rfl]
      have hc : n25 c = true := decide_eq_true z
      obtain ⟨m1, r1, r2⟩ := @t_drops f E β m x V o c h
      rw [r1, bd_some]
      obtain ⟨m2, q1, q2⟩ := ih n o m1 _ (by omega) ((List.mem_cons.mp hm).resolve_left (fun q => z q.symm)) r2
      refine ⟨m2, q1, ?_⟩
      rw [List.takeWhile_cons, if_pos hc, List.dropWhile_cons, if_pos hc]
      have q2' : QT β E m2 (x.1, x.2.1, (x.2.2 ++ [c]) ++ List.takeWhile n25 V) (List.dropWhile n25 V) o := q2
      rw [List.append_assoc] at q2'
      exact q2'
theorem t_L87 (k : ev_M → Option (Int32 × ev_M)) : ∀ (W : List Nat) (n o : Nat) (m : ev_M) (x : Nat × Bool × List Nat), W.length < n → QT β E m x W o → ∃ m', FX12_qGoesOnTest_L87 f k n m = k m' ∧ QT β E m' (x.1, x.2.1, x.2.2 ++ W.takeWhile is10) (W.dropWhile is10) o := by
  intro W
  induction W with
  | nil =>
    intro n o m x hn h
    obtain ⟨n, rfl⟩ : ∃ i, n = i + 1 := ⟨n - 1, by omega⟩
    unfold FX12_qGoesOnTest_L87
    rw [show FX12_qIsOn f 10 m = some (if ([] : List Nat).headD 0 = 10 then 1 else 0, m) from t_isOn (c := 10) h (by omega) (by omega), bd_some, if_neg (show ¬ ([] : List Nat).headD 0 = 10 by decide), if_pos rfl]
    exact ⟨m, rfl, by rw [show x.2.2 ++ List.takeWhile is10 [] = x.2.2 from List.append_nil _]; exact h⟩
  | cons c V ih =>
    intro n o m x hn h
    have hl : (c :: V).length = V.length + 1 := rfl
    obtain ⟨n, rfl⟩ : ∃ i, n = i + 1 := ⟨n - 1, by omega⟩
    unfold FX12_qGoesOnTest_L87
    rw [show FX12_qIsOn f 10 m = some (if c = 10 then 1 else 0, m) from t_isOn (c := 10) h (by omega) (by omega), bd_some]
    by_cases z : c = 10
    · rw [if_pos z, if_neg n10]
      have hc : is10 c = true := decide_eq_true z
      obtain ⟨m1, r1, r2⟩ := @t_drops f E β m x V o c h
      rw [r1, bd_some]
      obtain ⟨m2, q1, q2⟩ := ih n o m1 _ (by omega) r2
      refine ⟨m2, q1, ?_⟩
      rw [List.takeWhile_cons, if_pos hc, List.dropWhile_cons, if_pos hc]
      have q2' : QT β E m2 (x.1, x.2.1, (x.2.2 ++ [c]) ++ List.takeWhile is10 V) (List.dropWhile is10 V) o := q2
      rw [List.append_assoc] at q2'
      exact q2'
    · rw [if_neg z, if_pos rfl]
      have hc : ¬ is10 c = true := fun q => z (of_decide_eq_true q)
      refine ⟨m, rfl, ?_⟩
      rw [List.takeWhile_cons, if_neg hc, List.dropWhile_cons, if_neg hc, List.append_nil]
      exact h
theorem t_L137 (k : ev_M → Option (Int32 × ev_M)) : ∀ (W : List Nat) (n o : Nat) (m : ev_M) (x : Nat × Bool × List Nat), W.length < n → QT β E m x W o → ∃ m', FX12_qGoesOnTest_L137 f k n m = k m' ∧ QT β E m' (x.1, x.2.1, x.2.2 ++ W.takeWhile isO) (W.dropWhile isO) o := by
  intro W
  induction W with
  | nil =>
    intro n o m x hn h
    obtain ⟨n, rfl⟩ : ∃ i, n = i + 1 := ⟨n - 1, by omega⟩
    unfold FX12_qGoesOnTest_L137
    rw [show FX12_qIsOn f 10 m = some (if ([] : List Nat).headD 0 = 10 then 1 else 0, m) from t_isOn (c := 10) h (by omega) (by omega), bd_some, if_neg (show ¬ ([] : List Nat).headD 0 = 10 by decide), if_pos rfl, show FX12_qIsOn f 11 m = some (if ([] : List Nat).headD 0 = 11 then 1 else 0, m) from t_isOn (c := 11) h (by omega) (by omega), bd_some, if_neg (show ¬ ([] : List Nat).headD 0 = 11 by decide), if_pos rfl]
    exact ⟨m, rfl, by rw [show x.2.2 ++ List.takeWhile isO [] = x.2.2 from List.append_nil _]; exact h⟩
  | cons c V ih =>
    intro n o m x hn h
    have hl : (c :: V).length = V.length + 1 := rfl
    obtain ⟨n, rfl⟩ : ∃ i, n = i + 1 := ⟨n - 1, by omega⟩
    have go : isO c = true → ∃ m', FX12_qGoesOnTest_J155 f (FX12_qGoesOnTest_L137 f k n) m = k m' ∧ QT β E m' (x.1, x.2.1, x.2.2 ++ (c :: V).takeWhile isO) ((c :: V).dropWhile isO) o := by
      intro hc
      unfold FX12_qGoesOnTest_J155
      obtain ⟨m1, r1, r2⟩ := @t_drops f E β m x V o c h
      rw [r1, bd_some]
      obtain ⟨m2, q1, q2⟩ := ih n o m1 _ (by omega) r2
      refine ⟨m2, q1, ?_⟩
      rw [List.takeWhile_cons, if_pos hc, List.dropWhile_cons, if_pos hc]
      have q2' : QT β E m2 (x.1, x.2.1, (x.2.2 ++ [c]) ++ List.takeWhile isO V) (List.dropWhile isO V) o := q2
      rw [List.append_assoc] at q2'
      exact q2'
    unfold FX12_qGoesOnTest_L137
    rw [show FX12_qIsOn f 10 m = some (if c = 10 then 1 else 0, m) from t_isOn (c := 10) h (by omega) (by omega), bd_some]
    by_cases z : c = 10
    · rw [if_pos z, if_neg n10]
      exact go (decide_eq_true (Or.inl z))
    rw [if_neg z, if_pos rfl, show FX12_qIsOn f 11 m = some (if c = 11 then 1 else 0, m) from t_isOn (c := 11) h (by omega) (by omega), bd_some]
    by_cases z2 : c = 11
    · rw [if_pos z2, if_neg n10]
      exact go (decide_eq_true (Or.inr z2))
    rw [if_neg z2, if_pos rfl]
    have hc : ¬ isO c = true := fun q => by
      have := of_decide_eq_true q
      omega
    refine ⟨m, rfl, ?_⟩
    rw [List.takeWhile_cons, if_neg hc, List.dropWhile_cons, if_neg hc, List.append_nil]
    exact h
theorem t_push {m : ev_M} {x : Nat × Bool × List Nat} {W : List Nat} {o c : Nat} {s : Sy} {p : Nat} (h : QT β E m x W o) (hc : c = 10 ∨ c = 11) (hb : x.2.2.length + W.length < x.1) (hs : Rt β E s (0, .inr x, c :: W, o)) (hp : p < x.1) : ∃ r m', (if ev_in (m.1 112 95) 1700 then some ((1 : Int32), (((ev_up (ev_up m.1 178 (m.1 112 95).toNatClampNeg (Int32.ofNat c)) 112 95 ((m.1 112 95) + 1)), m.2) : ev_M)) else none) = some (r, m') ∧ OutT β E r m' s p := by
  obtain ⟨hE, hpE, hbd, _⟩ := t_len h
  have g12 := h.1.2.2.2.2.2.2.2.2.2.2.2.1
  have hop := h.2.2
  rw [h.1.2.2.2.2.2.1, if_pos ((n_in (by omega)).mpr (by omega)), n_nat (by omega), s_1]
  refine ⟨1, _, rfl, Or.inl ⟨rfl, x, c :: W, o, hs, ⟨qg_push h.1 (by omega) (by omega) ?_, fun d hd => ?_, ?_⟩, hp⟩⟩
  · show opn W + (if 20 ≤ c then 1 else 0) ≤ o
    rw [if_neg (by omega)]; omega
  · rcases List.mem_cons.mp hd with q | q
    · omega
    · exact h.2.1 d q
  · show opT W + (if c = 12 ∨ 20 ≤ c then 1 else 0) ≤ o
    rw [if_neg (by omega)]; omega
theorem t_J76 {m : ev_M} {x : Nat × Bool × List Nat} {W : List Nat} {o : Nat} (hf : 4000 ≤ f) (h : QT β E m x W o) (nc : ¬ (yS β E 93 (.inr x) = true ∧ 25 ∈ W)) : ∃ r m', FX12_qGoesOnTest_J76 f m = some (r, m') ∧ OutT β E r m' (2, .inr x, W, o) x.1 := by
  obtain ⟨hE, hpE, hbd, _⟩ := t_len h
  unfold FX12_qGoesOnTest_J76
  obtain ⟨m1, t1, t2, t3, t4⟩ := @rt_takesW f E β m (.inr x) 161 hf h.1.2.1 (by decide) h.1.1
  rw [show wix 161 = 18 from by decide] at t1 t2 t3
  rw [t1, bd_some]
  by_cases z1 : yI β E (.inr x) = some 18
  · rw [if_pos z1] at t2
    rw [if_pos z1, if_neg n10]
    have hk1 : tkK β E x.1 x.2.1 = 1 := yI_k z1
    have hB := tkB_lt (w := x.2.1) (show tkK β E x.1 x.2.1 ≠ 0 by rw [hk1]; decide)
    have h1 : QT β E m1 (tkB β E x.1, tkW β E x.1 x.2.1, x.2.2) W o := QT_mv h t2 (fun a k q => t4 a k (by omega)) rfl (by show x.1 ≤ tkB β E x.1; omega)
    obtain ⟨m2, q1, q2⟩ := @t_L87 f E β (fun m32 => (if ev_in (m32.1 112 95) 1700 then some (1, ((ev_up (ev_up m32.1 178 (m32.1 112 95).toNatClampNeg 10) 112 95 ((m32.1 112 95) + 1)), m32.2)) else none)) W f o m1 _ (by omega) h1
    rw [q1]
    have hl : (W.takeWhile is10).length + (W.dropWhile is10).length = W.length := by rw [← List.length_append, List.takeWhile_append_dropWhile]
    refine t_push (c := 10) q2 (Or.inl rfl) ?_ (Rt_1 (st_and z1)) hB
    show (x.2.2 ++ W.takeWhile is10).length + (W.dropWhile is10).length < tkB β E x.1
    rw [List.length_append]
    omega
  rw [if_neg z1] at t2
  rw [if_neg z1, if_pos rfl]
  have h1 : QT β E m1 x W o := QT_mv h t2 (fun a k q => t4 a k (by omega)) rfl (Nat.le_refl _)
  obtain ⟨m2, u1, u2, u3, u4⟩ := @rt_takesW f E β m1 (.inr x) 162 hf h1.1.2.1 (by decide) h1.1.1
  rw [show wix 162 = 17 from by decide] at u1 u2 u3
  rw [u1, bd_some]
  by_cases z2 : yI β E (.inr x) = some 17
  · rw [if_pos z2] at u2
    rw [if_pos z2, if_neg n10]
    have hk1 : tkK β E x.1 x.2.1 = 1 := yI_k z2
    have hB := tkB_lt (w := x.2.1) (show tkK β E x.1 x.2.1 ≠ 0 by rw [hk1]; decide)
    have h2 : QT β E m2 (tkB β E x.1, tkW β E x.1 x.2.1, x.2.2) W o := QT_mv h1 u2 (fun a k q => u4 a k (by omega)) rfl (by show x.1 ≤ tkB β E x.1; omega)
    obtain ⟨m3, q1, q2⟩ := @t_L137 f E β (fun m27 => (if ev_in (m27.1 112 95) 1700 then some (1, ((ev_up (ev_up m27.1 178 (m27.1 112 95).toNatClampNeg 11) 112 95 ((m27.1 112 95) + 1)), m27.2)) else none)) W f o m2 _ (by omega) h2
    rw [q1]
    have hl : (W.takeWhile isO).length + (W.dropWhile isO).length = W.length := by rw [← List.length_append, List.takeWhile_append_dropWhile]
    refine t_push (c := 11) q2 (Or.inr rfl) ?_ (Rt_1 (st_or z2)) hB
    show (x.2.2 ++ W.takeWhile isO).length + (W.dropWhile isO).length < tkB β E x.1
    rw [List.length_append]
    omega
  rw [if_neg z2] at u2
  have h2 : QT β E m2 x W o := QT_mv h1 u2 (fun a k q => u4 a k (by omega)) rfl (Nat.le_refl _)
  have h5 : m2.1 112 5 = 0 := h2.1.1.2.2.1
  rw [if_neg z2, if_pos rfl, if_pos h5, t_hasSq hf h2, bd_some]
  have st : stq β E (2, .inr x, W, o) = if 25 ∈ W then (3, yfail β E 1 (.inr x), W, o) else (3, .inr x, W, o) := by
    show tG β E (.inr x) W o = _
    unfold tG
    rw [if_neg nc, if_neg z1, if_neg z2]
  by_cases hm : 25 ∈ W
  · rw [if_pos hm] at st
    obtain ⟨m3, e1, e2⟩ := @yt_fail f E β m2 (.inr x) 1 u2 (u3 z2) (by omega) (by omega)
    have e1' : FX12_fail f 1 (m2.1 112 2) m2 = some ((), m3) := e1
    rw [if_pos hm, if_neg n10, e1', bd_some]
    exact ⟨0, m3, rfl, Or.inr ⟨rfl, .inl (1, sk β E x.1), W, o, Rt_1 st, e2⟩⟩
  · rw [if_neg hm] at st
    rw [if_neg hm, if_pos rfl]
    exact ⟨0, m2, rfl, Or.inr ⟨rfl, .inr x, W, o, Rt_1 st, h2⟩⟩
theorem dw25 : ∀ (W : List Nat), 25 ∈ W → ∃ V, W.dropWhile n25 = 25 :: V := by
  intro W
  induction W with
  | nil => intro h; cases h
  | cons c V ih =>
    intro h
    by_cases z : c = 25
    · have hc : ¬ n25 c = true := fun q => (of_decide_eq_true q) z
      exact ⟨V, by rw [List.dropWhile_cons, if_neg hc, z]⟩
    · have hc : n25 c = true := decide_eq_true z
      rw [List.dropWhile_cons, if_pos hc]
      exact ih ((List.mem_cons.mp h).resolve_left (fun q => z q.symm))
theorem sg93 : sgn 93 ∧ sgn 91 := by unfold sgn; decide
theorem t_goesL (hf : 4000 ≤ f) : ∀ (j n : Nat) (m : ev_M) (x : Nat × Bool × List Nat) (W : List Nat) (o : Nat), E - x.1 < j → j < n → QT β E m x W o → ∃ r m', FX12_qGoesOnTest_L0 f (fun m12 => (FX12_qGoesOnTest_J76 f m12)) n m = some (r, m') ∧ OutT β E r m' (2, .inr x, W, o) x.1 := by
  intro j
  induction j with
  | zero => intro n m x W o h; omega
  | succ j ih =>
    intro n m x W o hj hn h
    obtain ⟨n, rfl⟩ : ∃ i, n = i + 1 := ⟨n - 1, by omega⟩
    obtain ⟨hE, hpE, hbd, ho6⟩ := t_len h
    obtain ⟨m1, r1, r2, r3, r4⟩ := r_look hf h.1.1
    have h1 : QT β E m1 x W o := QT_mv h r3 (fun a k q => r4.2 a k (by omega)) rfl (Nat.le_refl _)
    unfold FX12_qGoesOnTest_L0
    rw [if_pos h.1.1.2.2.1, r1, bd_some]
    by_cases z : yS β E 93 (.inr x) = true
    rotate_left
    · rw [if_neg (fun q => z ((yS_lk sg93.1).mpr q))]
      exact t_J76 hf h1 (fun q => z q.1)
    rw [if_pos ((yS_lk sg93.1).mp z), t_hasSq hf h1, bd_some]
    by_cases hm : 25 ∈ W
    rotate_left
    · rw [if_neg hm, if_pos rfl]
      exact t_J76 hf h1 (fun q => hm q.2)
    rw [if_pos hm, if_neg n10]
    have hk3 : tkK β E x.1 x.2.1 = 3 := yS_k z
    have hk0 : tkK β E x.1 x.2.1 ≠ 0 := by rw [hk3]; decide
    have hB := tkB_lt hk0
    have hxE := tkK_lt hk0
    have hge := sk_ge β E x.1
    have hy := rt_sg r3 r2 z
    have h2 : QT β E (ev_up m1.1 112 2 (m1.1 112 2 + 1), m1.2) (tkB β E x.1, tkW β E x.1 x.2.1, x.2.2) W o := QT_mv h1 hy (fun a k z => (on2_up _ _).2 a k (by omega)) rfl (by show x.1 ≤ tkB β E x.1; omega)
    obtain ⟨V, hV⟩ := dw25 W hm
    obtain ⟨m3, t1, t2⟩ := @t_L33 f E β (fun m9 => (ev_bd (FX12_qDropsNots f ((ev_up (ev_up m9.1 112 95 ((m9.1 112 95) - 1)) 112 96 ((m9.1 112 96) - 1)), m9.2)) (fun _ m11 => (FX12_qGoesOnTest_L0 f (fun m12 => (FX12_qGoesOnTest_J76 f m12)) n m11)))) W f o _ _ (by omega) hm h2
    rw [t1]
    rw [hV] at t2
    obtain ⟨u1, u2, u3, u4, u5⟩ := qg_top t2.1
    have u2' : m3.1 112 95 - 1 = Int32.ofNat (0 + V.length) := u2
    have hop := t2.2.2
    have hop2 : opT (25 :: V) = opT V + 1 := rfl
    have hnT := opn_T V
    have e96 : m3.1 112 96 - 1 = Int32.ofNat (o - 1) := by
      rw [t2.1.2.2.2.2.1, show (1 : Int32) = Int32.ofNat 1 from rfl, n_sub (by omega)]
    rw [u2', e96]
    have hp3 := qg_open (qg_pop t2.1) (o' := o - 1) (by omega) (by omega)
    have h3 : QT β E (ev_up (ev_up m3.1 112 95 (Int32.ofNat (0 + V.length))) 112 96 (Int32.ofNat (o - 1)), m3.2) (tkB β E x.1, tkW β E x.1 x.2.1, x.2.2 ++ W.takeWhile n25) V (o - 1) := ⟨hp3, okW_tl t2.2.1, by omega⟩
    obtain ⟨_, _, hb3, _⟩ := t_len h3
    have hpB := tkB_le (β := β) hpE
    have hb3' : (x.2.2 ++ W.takeWhile n25).length + V.length ≤ tkB β E x.1 := hb3
    obtain ⟨m5, x', W', o', q1, q2, q3, q4, q5⟩ := @t_notsL f E β (fun m5 => some ((), m5)) V f (o - 1) _ _ (by omega) h3
    have q1' : FX12_qDropsNots f (ev_up (ev_up m3.1 112 95 (Int32.ofNat (0 + V.length))) 112 96 (Int32.ofNat (o - 1)), m3.2) = some ((), m5) := q1
    rw [q1', bd_some]
    have st : stq β E (2, .inr x, W, o) = (1, .inr (tkB β E x.1, tkW β E x.1 x.2.1, x.2.2 ++ W.takeWhile n25), V, o - 1) := by
      show tG β E (.inr x) W o = _
      unfold tG
      rw [if_pos ⟨z, hm⟩, hV]
      rfl
    have q4' : x'.1 = tkB β E x.1 := q4
    obtain ⟨r, m6, w1, w2⟩ := ih n m5 x' W' o' (by omega) (by omega) q2
    exact ⟨r, m6, w1, OutT_pre (Rt_st st q3) (by omega) w2⟩
theorem t_goes {m : ev_M} {x : Nat × Bool × List Nat} {W : List Nat} {o : Nat} (hf : 4000 ≤ f) (h : QT β E m x W o) : ∃ r m', FX12_qGoesOnTest f m = some (r, m') ∧ OutT β E r m' (2, .inr x, W, o) x.1 := by
  obtain ⟨hE, _⟩ := t_len h
  unfold FX12_qGoesOnTest
  exact t_goesL hf 1601 f m x W o (by omega) (by omega) h
end
