theorem n_is {a : Nat} (c : Int32) (k : Nat) (hc : c = Int32.ofNat k) (ha : a < 2147483648) (hk : k < 2147483648) : Int32.ofNat a = c ↔ a = k := by rw [hc, n_eq ha hk]
/-! what stands at a place of the text: kind, size, value; 'w': a word or a number ended right there -/
def tkK (β : Nat → Int32) (E p : Nat) (w : Bool) : Nat :=
  if E ≤ sk β E p then 0 else if isL (β (sk β E p)) = true then (if w = true ∧ sk β E p = p then 4 else 1) else if isDg (β (sk β E p)) = true then (if w = true ∧ sk β E p = p then 4 else 2) else 3
def tkN (β : Nat → Int32) (E p : Nat) : Nat :=
  if E ≤ sk β E p then 0 else if isL (β (sk β E p)) = true then rl isL β E (sk β E p) else if isDg (β (sk β E p)) = true then rl isDg β E (sk β E p) else 1
def tkV (β : Nat → Int32) (E p : Nat) : Int32 :=
  if isL (β (sk β E p)) = true then oi (wv β (sk β E p) (rl isL β E (sk β E p))) else if isDg (β (sk β E p)) = true then dvN β (sk β E p) (min (rl isDg β E (sk β E p)) 4) else β (sk β E p)
def tkW (β : Nat → Int32) (E p : Nat) (w : Bool) : Bool := decide (tkK β E p w = 1 ∨ tkK β E p w = 2)
/-- the place behind it -/
def tkB (β : Nat → Int32) (E p : Nat) : Nat := sk β E p + tkN β E p
theorem tkB_le {β : Nat → Int32} {E p : Nat} (h : p ≤ E) : tkB β E p ≤ E := by
  unfold tkB tkN
  have h1 := sk_le (β := β) h
  by_cases z : E ≤ sk β E p
  · rw [if_pos z]; omega
  rw [if_neg z]
  split
  · exact rl_le h1
  · split
    · exact rl_le h1
    · omega
theorem tkN_pos {β : Nat → Int32} {E p : Nat} (h : sk β E p < E) : 0 < tkN β E p := by
  unfold tkN
  rw [if_neg (by omega)]
  by_cases z1 : isL (β (sk β E p)) = true
  · rw [if_pos z1]; exact rl_pos h z1
  rw [if_neg z1]
  by_cases z2 : isDg (β (sk β E p)) = true
  · rw [if_pos z2]; exact rl_pos h z2
  · rw [if_neg z2]; omega
theorem tkK_lt {β : Nat → Int32} {E p : Nat} {w : Bool} (h : tkK β E p w ≠ 0) : sk β E p < E := by
  unfold tkK at h
  by_cases z : E ≤ sk β E p
  · rw [if_pos z] at h; exact absurd rfl h
  · omega
theorem tkB_lt {β : Nat → Int32} {E p : Nat} {w : Bool} (h : tkK β E p w ≠ 0) : p < tkB β E p := by
  have h1 := tkK_lt h
  have h2 := tkN_pos h1
  have h3 := sk_ge β E p
  unfold tkB
  omega
theorem tkK_le (β : Nat → Int32) (E p : Nat) (w : Bool) : tkK β E p w ≤ 4 := by
  unfold tkK
  split
  · omega
  · split
    · split <;> omega
    · split
      · split <;> omega
      · omega
def CT (β : Nat → Int32) (E : Nat) (m : ev_M) (p : Nat) (w : Bool) : Prop :=
  TB0 β E m ∧ p ≤ E ∧ m.1 13 3 = 0 ∧ m.1 13 4 = -1 ∧ m.1 13 5 = Int32.ofNat (tkK β E p w) ∧ m.1 13 2 = Int32.ofNat (sk β E p) ∧ m.1 13 6 = Int32.ofNat (tkN β E p) ∧ (tkK β E p w ≠ 0 → m.1 13 7 = tkV β E p)
theorem CT_fr {β : Nat → Int32} {E p : Nat} {w : Bool} {m m' : ev_M} (h : CT β E m p w) (h1 : ∀ a k, a = 13 ∨ a = 14 → m'.1 a k = m.1 a k) : CT β E m' p w := by
  obtain ⟨⟨a1, a2, a3⟩, a4, a5, a6, a7, a8, a9, a10⟩ := h
  exact ⟨⟨a1, by rw [h1 _ _ (by omega)]; exact a2, fun i hi => by rw [h1 _ _ (by omega)]; exact a3 i hi⟩, a4, by rw [h1 _ _ (by omega)]; exact a5, by rw [h1 _ _ (by omega)]; exact a6, by rw [h1 _ _ (by omega)]; exact a7, by rw [h1 _ _ (by omega)]; exact a8, by rw [h1 _ _ (by omega)]; exact a9, fun z => by rw [h1 _ _ (by omega)]; exact a10 z⟩
theorem tkK_kA (β : Nat → Int32) (E p : Nat) (w : Bool) : tkK β E p w = if (w = true ∧ sk β E p = p) ∧ (kA β E (sk β E p) = 1 ∨ kA β E (sk β E p) = 2) then 4 else kA β E (sk β E p) := by
  unfold tkK kA
  by_cases z1 : E ≤ sk β E p
  · rw [if_pos z1, if_pos z1, if_neg (by omega)]
  rw [if_neg z1, if_neg z1]
  by_cases z2 : isL (β (sk β E p)) = true
  · rw [if_pos z2, if_pos z2]
    by_cases z3 : w = true ∧ sk β E p = p
    · rw [if_pos z3, if_pos ⟨z3, Or.inl rfl⟩]
    · rw [if_neg z3, if_neg (fun y => z3 y.1)]
  rw [if_neg z2, if_neg z2]
  by_cases z4 : isDg (β (sk β E p)) = true
  · rw [if_pos z4, if_pos z4]
    by_cases z3 : w = true ∧ sk β E p = p
    · rw [if_pos z3, if_pos ⟨z3, Or.inr rfl⟩]
    · rw [if_neg z3, if_neg (fun y => z3 y.1)]
  · rw [if_neg z4, if_neg z4, if_neg (by omega)]
theorem upd_fr {m : ev_M} {q : Nat} {v : Int32} {a k : Nat} (h : ¬ (a = 13 ∧ k = q)) : ((ev_up m.1 13 q v, m.2) : ev_M).1 a k = m.1 a k := by
  show ev_up m.1 13 q v a k = _
  by_cases e : a = 13
  · subst e; rw [up_nk _ _ _ (by omega)]
  · rw [up_na _ _ _ _ e]
theorem upd2_fr {m : ev_M} {q r : Nat} {v u : Int32} {a k : Nat} (h : ¬ (a = 13 ∧ (k = q ∨ k = r))) : ((ev_up (ev_up m.1 13 r u) 13 q v, m.2) : ev_M).1 a k = m.1 a k := by
  show ev_up (ev_up m.1 13 r u) 13 q v a k = _
  by_cases e : a = 13
  · subst e; rw [up_nk _ _ _ (by omega), up_nk _ _ _ (by omega)]
  · rw [up_na _ _ _ _ e, up_na _ _ _ _ e]
/-- the end of reading one: a word or number that comes right behind another -/
theorem c_fin {f E p : Nat} {β : Nat → Int32} {w : Bool} {m2 : ev_M} (hp : p ≤ E) (q1 : TB0 β E m2) (q2 : m2.1 13 3 = 0) (q3 : m2.1 13 4 = -1) (q4 : m2.1 13 5 = Int32.ofNat (kA β E (sk β E p))) (q5 : m2.1 13 2 = Int32.ofNat (sk β E p)) (q6 : m2.1 13 6 = Int32.ofNat (tkN β E p)) (q7 : E ≤ sk β E p ∨ m2.1 13 7 = tkV β E p) : ∃ m', FX10_advance_J191 f (if w = true then 1 else 0) (Int32.ofNat p) m2 = some ((), m') ∧ CT β E m' p w := by
  have hE := q1.1
  have hskE := sk_le (β := β) hp
  have hkl := kA_le β E (sk β E p)
  have kc := tkK_kA β E p w
  have hv : tkK β E p w ≠ 0 → m2.1 13 7 = tkV β E p := fun z => by
    rcases q7 with y | y
    · have := tkK_lt z; omega
    · exact y
  have stay : tkK β E p w = kA β E (sk β E p) → CT β E m2 p w := fun z => ⟨q1, hp, q2, q3, by rw [z]; exact q4, q5, q6, hv⟩
  have chg : tkK β E p w = 4 → CT β E (ev_up m2.1 13 5 4, m2.2) p w := fun z => by
    refine ⟨TB0_fr q1 (fun a k y => upd_fr (by omega)), hp, ?_, ?_, ?_, ?_, ?_, fun y => ?_⟩
    · rw [upI_nk _ _ _ _ (by decide)]; exact q2
    · rw [upI_nk _ _ _ _ (by decide)]; exact q3
    · rw [upI_at, z]; rfl
    · rw [upI_nk _ _ _ _ (by decide)]; exact q5
    · rw [upI_nk _ _ _ _ (by decide)]; exact q6
    · rw [upI_nk _ _ _ _ (by decide)]; exact hv y
  unfold FX10_advance_J191
  rw [c_long, bd_some]
  by_cases zw : w = true
  · rw [if_pos zw, if_neg n10, q5]
    by_cases zs : sk β E p = p
    · rw [if_pos (by rw [zs]), q4]
      by_cases k1 : kA β E (sk β E p) = 1 ∨ kA β E (sk β E p) = 2
      · rw [if_pos (show Int32.ofNat (kA β E (sk β E p)) = 1 ∨ Int32.ofNat (kA β E (sk β E p)) = 2 from k1.imp (fun e => by rw [e]; rfl) (fun e => by rw [e]; rfl)), if_neg n10]
        exact ⟨_, rfl, chg (by rw [kc, if_pos ⟨⟨zw, zs⟩, k1⟩])⟩
      · rw [if_neg (show ¬ (Int32.ofNat (kA β E (sk β E p)) = 1 ∨ Int32.ofNat (kA β E (sk β E p)) = 2) from fun y => k1 (y.imp (n_is 1 1 rfl (by omega) (by omega)).mp (n_is 2 2 rfl (by omega) (by omega)).mp)), if_pos rfl]
        exact ⟨m2, rfl, stay (by rw [kc, if_neg (fun y => k1 y.2)])⟩
    · rw [if_neg (fun y => zs ((n_eq (by omega) (by omega)).mp y))]
      exact ⟨m2, rfl, stay (by rw [kc, if_neg (fun y => zs y.1.2)])⟩
  · rw [if_neg zw, if_pos rfl]
    exact ⟨m2, rfl, stay (by rw [kc, if_neg (fun y => zw y.1.1)])⟩
theorem c_lex {f E p : Nat} {β : Nat → Int32} {w : Bool} {m : ev_M} (hf : 4000 ≤ f) (hB : TB0 β E m) (hp : p ≤ E) (h3 : m.1 13 3 = 0) (h4 : m.1 13 4 = -1) (hb : m.1 13 2 + m.1 13 6 = Int32.ofNat p) (hw : (m.1 13 5 = 1 ∨ m.1 13 5 = 2) ↔ w = true) : ∃ m', FX10_advance f m = some ((), m') ∧ CT β E m' p w := by
  have hE := hB.1
  obtain ⟨m1, r1, r2, r3⟩ := @c_skipL f E β (ev_up m.1 13 2 (Int32.ofNat p), m.2) (fun m1 => some ((), m1)) (TB0_fr hB (fun a k z => upd_fr (by omega))) (E - p) p f (ev_up m.1 13 2 (Int32.ofNat p), m.2) (by omega) (by omega) (by omega) (onl_refl _ _) (upI_at _ _ _ _ _)
  have g1 : ∀ a k, ¬ (a = 13 ∧ k = 2) → m1.1 a k = m.1 a k := fun a k z => by
    rw [r2.2 a k z]
    exact upd_fr z
  have hB1 : TB0 β E m1 := TB0_fr hB (fun a k z => g1 a k (by omega))
  have hskE := sk_le (β := β) hp
  have hkl := kA_le β E (sk β E p)
  have hwi : (if m.1 13 5 = 1 ∨ m.1 13 5 = 2 then (1 : Int32) else 0) = (if w = true then 1 else 0) := by
    by_cases z : w = true
    · rw [if_pos z, if_pos (hw.mpr z)]
    · rw [if_neg z, if_neg (fun q => z (hw.mp q))]
  unfold FX10_advance FX10_skipBlanks
  rw [if_pos h3, c_long, bd_some, hb, r1, bd_some, r3, c_kind hB1 (by omega), bd_some, hwi]
  unfold FX10_advance_J53
  -- the memory before the size is told
  have hB2 : ∀ v : Int32, TB0 β E (ev_up (ev_up m1.1 13 5 (Int32.ofNat (kA β E (sk β E p)))) 13 6 v, m1.2) := fun v => TB0_fr hB1 (fun a k y => by rw [upd2_fr (by omega)])
  have g2 : ∀ (v : Int32) (a k : Nat), ¬ (a = 13 ∧ (k = 2 ∨ k = 5 ∨ k = 6)) → ((ev_up (ev_up m1.1 13 5 (Int32.ofNat (kA β E (sk β E p)))) 13 6 v, m1.2) : ev_M).1 a k = m.1 a k := fun v a k y => by rw [upd2_fr (by omega), g1 a k (by omega)]
  have g5 : ∀ v : Int32, ((ev_up (ev_up m1.1 13 5 (Int32.ofNat (kA β E (sk β E p)))) 13 6 v, m1.2) : ev_M).1 13 5 = Int32.ofNat (kA β E (sk β E p)) := fun v => by rw [upI_nk _ _ _ _ (by decide), up_at]
  have gs : ∀ v : Int32, ((ev_up (ev_up m1.1 13 5 (Int32.ofNat (kA β E (sk β E p)))) 13 6 v, m1.2) : ev_M).1 13 2 = Int32.ofNat (sk β E p) := fun v => by rw [upI_nk _ _ _ _ (by decide), up_nk _ _ _ (by decide)]; exact r3
  -- what is told last: the value
  have fin : ∀ (m2 : ev_M) (v : Int32), TB0 β E m2 → m2.1 13 3 = 0 → m2.1 13 4 = -1 → m2.1 13 5 = Int32.ofNat (kA β E (sk β E p)) → m2.1 13 2 = Int32.ofNat (sk β E p) → m2.1 13 6 = Int32.ofNat (tkN β E p) → (E ≤ sk β E p ∨ v = tkV β E p) → ∃ m', FX10_advance_J191 f (if w = true then 1 else 0) (Int32.ofNat p) (ev_up m2.1 13 7 v, m2.2) = some ((), m') ∧ CT β E m' p w := by
    intro m2 v q1 q2 q3 q4 q5 q6 q7
    refine c_fin hp (TB0_fr q1 (fun a k y => upd_fr (by omega))) ?_ ?_ ?_ ?_ ?_ (q7.imp id (fun q => by rw [upI_at]; exact q))
    · rw [upI_nk _ _ _ _ (by decide)]; exact q2
    · rw [upI_nk _ _ _ _ (by decide)]; exact q3
    · rw [upI_nk _ _ _ _ (by decide)]; exact q4
    · rw [upI_nk _ _ _ _ (by decide)]; exact q5
    · rw [upI_nk _ _ _ _ (by decide)]; exact q6
  by_cases z : E ≤ sk β E p
  · have k0 : kA β E (sk β E p) = 0 := by unfold kA; rw [if_pos z]
    rw [if_pos (by rw [k0]; rfl), c_adv0 (by rw [g5, k0]; decide) (by rw [g5, k0]; decide) (by omega)]
    unfold FX10_advance_J112 FX10_advance_J188
    rw [if_neg (by rw [g5, k0]; decide), if_neg (by rw [g5, k0]; decide), if_neg (by rw [g5, k0]; decide)]
    exact fin _ _ (hB2 0) (by rw [g2 _ _ _ (by omega)]; exact h3) (by rw [g2 _ _ _ (by omega)]; exact h4) (g5 0) (gs 0) (by rw [upI_at]; unfold tkN; rw [if_pos z]; rfl) (Or.inl z)
  have hs : sk β E p < E := by omega
  have k0 : ¬ kA β E (sk β E p) = 0 := by
    unfold kA
    rw [if_neg z]
    split
    · omega
    · split <;> omega
  rw [if_neg (fun q => k0 ((n_z (by omega)).mp q))]
  -- a word or a number
  have long : ∀ (kd : Nat) (P : Int32 → Bool), kA β E (sk β E p) = kd → (kd = 1 ∨ kd = 2) → (∀ x, kA β E x = kd ↔ (x < E ∧ P (β x) = true)) → P (β (sk β E p)) = true → tkN β E p = rl P β E (sk β E p) → ∃ m2, FX10_advance_L56 f (fun m11 => (FX10_advance_J112 f (if w = true then 1 else 0) (Int32.ofNat p) m11)) f (ev_up (ev_up m1.1 13 5 (Int32.ofNat (kA β E (sk β E p)))) 13 6 1, m1.2) = FX10_advance_J112 f (if w = true then 1 else 0) (Int32.ofNat p) m2 ∧ TB0 β E m2 ∧ m2.1 13 3 = 0 ∧ m2.1 13 4 = -1 ∧ m2.1 13 5 = Int32.ofNat (kA β E (sk β E p)) ∧ m2.1 13 2 = Int32.ofNat (sk β E p) ∧ m2.1 13 6 = Int32.ofNat (tkN β E p) := by
    intro kd P e1 e2 e3 e4 e5
    obtain ⟨m2, u1, u2, u3⟩ := @c_advL f E (sk β E p) kd β P _ (fun m11 => (FX10_advance_J112 f (if w = true then 1 else 0) (Int32.ofNat p) m11)) (hB2 1) (gs 1) (by rw [g5, e1]) e2 e3 E 1 f _ (by omega) (by omega) (by omega) (onl_refl _ _) (by rw [upI_at]; rfl)
    refine ⟨m2, u1, TB0_fr (hB2 1) (fun a k y => u2.2 a k (by omega)), by rw [u2.2 _ _ (by omega), g2 _ _ _ (by omega)]; exact h3, by rw [u2.2 _ _ (by omega), g2 _ _ _ (by omega)]; exact h4, by rw [u2.2 _ _ (by omega)]; exact g5 1, by rw [u2.2 _ _ (by omega)]; exact gs 1, ?_⟩
    rw [u3, e5, rl_s hs e4, Nat.add_comm]
  by_cases z1 : isL (β (sk β E p)) = true
  · have k1 : kA β E (sk β E p) = 1 := (kA_1 _ _ _).mpr ⟨hs, z1⟩
    have hN : tkN β E p = rl isL β E (sk β E p) := by unfold tkN; rw [if_neg z, if_pos z1]
    obtain ⟨m2, u0, u1, u2, u3, u4, u5, u6⟩ := long 1 isL k1 (Or.inl rfl) (kA_1 β E) z1 hN
    rw [u0]
    unfold FX10_advance_J112
    have hrl := rl_le (P := isL) (β := β) (E := E) (p := sk β E p) (by omega)
    rw [if_pos (by rw [u4, k1]; rfl), c_word hf u1 u5 u6 (by rw [hN]; exact hrl), bd_some]
    exact fin m2 _ u1 u2 u3 u4 u5 u6 (Or.inr (by rw [hN]; unfold tkV; rw [if_pos z1]))
  by_cases z2 : isDg (β (sk β E p)) = true
  · have k1 : kA β E (sk β E p) = 2 := (kA_2 _ _ _).mpr ⟨hs, z2⟩
    have hN : tkN β E p = rl isDg β E (sk β E p) := by unfold tkN; rw [if_neg z, if_neg z1, if_pos z2]
    obtain ⟨m2, u0, u1, u2, u3, u4, u5, u6⟩ := long 2 isDg k1 (Or.inr rfl) (kA_2 β E) z2 hN
    rw [u0]
    unfold FX10_advance_J112
    have hrl := rl_le (P := isDg) (β := β) (E := E) (p := sk β E p) (by omega)
    rw [if_neg (by rw [u4, k1]; decide), if_pos (by rw [u4, k1]; rfl), c_num hf u1 u5 u6 (by rw [hN]; exact hrl), bd_some]
    exact fin m2 _ u1 u2 u3 u4 u5 u6 (Or.inr (by rw [hN]; unfold tkV; rw [if_neg z1, if_pos z2]))
  have k3 : kA β E (sk β E p) = 3 := by unfold kA; rw [if_neg z, if_neg z1, if_neg z2]
  rw [c_adv0 (by rw [g5, k3]; decide) (by rw [g5, k3]; decide) (by omega)]
  unfold FX10_advance_J112 FX10_advance_J188
  rw [if_neg (by rw [g5, k3]; decide), if_neg (by rw [g5, k3]; decide), if_pos (by rw [g5, k3]; rfl), gs, if_pos ((n_in (by omega)).mpr (by omega)), n_nat (by omega), (hB2 1).2.2 _ (by omega)]
  exact fin _ _ (hB2 1) (by rw [g2 _ _ _ (by omega)]; exact h3) (by rw [g2 _ _ _ (by omega)]; exact h4) (g5 1) (gs 1) (by rw [upI_at]; unfold tkN; rw [if_neg z, if_neg z1, if_neg z2]; rfl) (Or.inr (by unfold tkV; rw [if_neg z1, if_neg z2]))
theorem c_adv {f E p : Nat} {β : Nat → Int32} {w : Bool} {m : ev_M} (hf : 4000 ≤ f) (h : CT β E m p w) : ∃ m', FX10_advance f m = some ((), m') ∧ CT β E m' (tkB β E p) (tkW β E p w) := by
  obtain ⟨a1, a2, a3, a4, a5, a6, a7, a8⟩ := h
  have hk := tkK_le β E p w
  refine c_lex hf a1 (tkB_le (β := β) a2) a3 a4 (by rw [a6, a7, n_add]; rfl) ?_
  rw [a5]
  unfold tkW
  rw [decide_eq_true_iff, n_is 1 1 rfl (by omega) (by omega), n_is 2 2 rfl (by omega) (by omega)]
theorem c_begin {f E : Nat} {β : Nat → Int32} {m : ev_M} (hf : 4000 ≤ f) (hB : TB0 β E m) : ∃ m', FX10_begin f m = some ((), m') ∧ CT β E m' 0 false := by
  have gg : ∀ a k, ¬ (a = 13 ∧ (k = 5 ∨ k = 2 ∨ k = 6 ∨ k = 3 ∨ k = 4)) → ((ev_up (ev_up (ev_up (ev_up (ev_up m.1 13 5 3) 13 2 0) 13 6 0) 13 3 0) 13 4 (-1), m.2) : ev_M).1 a k = m.1 a k := fun a k y => by
    show ev_up (ev_up (ev_up (ev_up (ev_up m.1 13 5 3) 13 2 0) 13 6 0) 13 3 0) 13 4 (-1) a k = _
    by_cases e : a = 13
    · subst e; rw [up_nk _ _ _ (by omega), up_nk _ _ _ (by omega), up_nk _ _ _ (by omega), up_nk _ _ _ (by omega), up_nk _ _ _ (by omega)]
    · rw [up_na _ _ _ _ e, up_na _ _ _ _ e, up_na _ _ _ _ e, up_na _ _ _ _ e, up_na _ _ _ _ e]
  have e3 : ((ev_up (ev_up (ev_up (ev_up (ev_up m.1 13 5 3) 13 2 0) 13 6 0) 13 3 0) 13 4 (-1), m.2) : ev_M).1 13 3 = 0 := by rw [upI_nk _ _ _ _ (by decide), up_at]
  have e5 : ((ev_up (ev_up (ev_up (ev_up (ev_up m.1 13 5 3) 13 2 0) 13 6 0) 13 3 0) 13 4 (-1), m.2) : ev_M).1 13 5 = 3 := by rw [upI_nk _ _ _ _ (by decide), up_nk _ _ _ (by decide), up_nk _ _ _ (by decide), up_nk _ _ _ (by decide), up_at]
  have e2 : ((ev_up (ev_up (ev_up (ev_up (ev_up m.1 13 5 3) 13 2 0) 13 6 0) 13 3 0) 13 4 (-1), m.2) : ev_M).1 13 2 = 0 := by rw [upI_nk _ _ _ _ (by decide), up_nk _ _ _ (by decide), up_nk _ _ _ (by decide), up_at]
  have e6 : ((ev_up (ev_up (ev_up (ev_up (ev_up m.1 13 5 3) 13 2 0) 13 6 0) 13 3 0) 13 4 (-1), m.2) : ev_M).1 13 6 = 0 := by rw [upI_nk _ _ _ _ (by decide), up_nk _ _ _ (by decide), up_at]
  obtain ⟨m', r1, r2⟩ := @c_lex f E 0 β false _ hf (TB0_fr hB (fun a k y => gg a k (by omega))) (by omega) e3 (upI_at _ _ _ _ _) (by rw [e2, e6]; rfl) (by rw [e5]; decide)
  unfold FX10_begin
  rw [r1, bd_some]
  exact ⟨m', rfl, r2⟩
