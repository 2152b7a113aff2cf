/-! the class's recursion goes as the sums' reading -/
section
variable {f E kd oc fr : Nat} {β : Nat → Int32}
theorem hb_of {o0 o : Nat} {m0 m : ev_M} {y0 y : Yr} (h0 : YR β E kd oc fr m0 o0 y0) (h : YR β E kd oc fr m o y) (hs : slk 1 y0 y) : ∀ x, y = .inr x → fr + x.2.2.length < x.1 ∧ x.1 ≤ E := by
  intro x e
  obtain ⟨x0, e0, q1, q2⟩ := hs x e
  obtain ⟨b1, b2, b3, b4, b5⟩ := h0.2.2.2.2 x0 e0
  subst e
  exact ⟨by omega, h.1.2.1⟩
theorem rh_of {c : Nat} {y : Yr} (h1 : c ≠ 60) (h2 : c ≠ 46) (h3 : c ≠ 48) : ∀ x, y = .inr x → rch (x.2.2 ++ [c]) = rch x.2.2 := fun _ _ => rch_app h1 h2 h3
theorem yr_opens {o : Nat} {m : ev_M} {y : Yr} (hf : 4000 ≤ f) (hoc : okc oc) (ho : o ≤ 6) (hy : y.isRight = true) (h : YR β E kd oc fr m o y) : if o < 6 then (∃ m', FX9_opens f m = some (1, m') ∧ YR β E kd oc fr m' (o + 1) (yad β E y)) else (∃ m', FX9_opens f m = some (0, m') ∧ YR β E kd oc fr m' o (yfail β E 4 y)) := by
  cases y with
  | inl e => cases hy
  | inr x =>
    obtain ⟨b1, b2, b3, b4, b5⟩ := h.2.2.2.2 x rfl
    by_cases z : o < 6
    · rw [if_pos z]
      unfold FX9_opens
      rw [b1, if_pos (by rw [show (6 : Int32) = Int32.ofNat 6 from rfl, n_lt (by omega) (by omega)]; exact z), s_1]
      obtain ⟨m', r1, r2⟩ := yr_adv hf hoc (yr_open (o' := o + 1) (v := Int32.ofNat (o + 1)) hoc h (fun _ => rfl))
      rw [r1, bd_some]
      exact ⟨m', rfl, r2⟩
    · rw [if_neg z]
      unfold FX9_opens
      obtain ⟨m', r1, r2⟩ := @yr_fail f E kd oc fr o β m (.inr x) hoc h 4 (by omega) (by omega)
      have r1' : FX10_fail f 4 (m.1 13 2) m = some ((), m') := r1
      rw [b1, if_neg (by rw [show (6 : Int32) = Int32.ofNat 6 from rfl, n_lt (by omega) (by omega)]; exact z), r1', bd_some]
      exact ⟨m', rfl, r2⟩
theorem yr_closes {o : Nat} {m : ev_M} {y : Yr} (hoc : okc oc) (ho : o ≤ 6) (h : YR β E kd oc fr m (o + 1) y) : ∃ m', FX9_closes f m = some ((), m') ∧ YR β E kd oc fr m' o y := by
  refine ⟨_, rfl, yr_open hoc h (fun hy => ?_)⟩
  cases y with
  | inl e => cases hy
  | inr x =>
    obtain ⟨b1, b2, b3, b4, b5⟩ := h.2.2.2.2 x rfl
    rw [b1, show (1 : Int32) = Int32.ofNat 1 from rfl, n_sub (by omega)]
    rfl
theorem lp_Sum {o : Nat} (hf : 4000 ≤ f) (hoc : okc oc) (hE : E ≤ 1600) {rc : Nat → Int32 → ev_M → Option (Unit × ev_M)} {r : Yr → Yr} (hs : ∀ y, slk 0 y (r y)) (hr : ∀ m y, YR β E kd oc fr m o y → ∃ m', rc 1 (0 : Int32) m = some ((), m') ∧ YR β E kd oc fr m' o (r y)) (k : ev_M → Option (Unit × ev_M)) : ∀ j n m y, j ≤ 1600 → j < n → YR β E kd oc fr m o y → ∃ m', FX9_readSum_L6 f rc k n (Int32.ofNat (1600 - j)) m = k m' ∧ YR β E kd oc fr m' o (yLp β E 43 45 1 2 r j y) := by
  intro j
  induction j with
  | zero =>
    intro n m y _ hn h
    obtain ⟨n, rfl⟩ : ∃ i, n = i + 1 := ⟨n - 1, by omega⟩
    exact ⟨m, by unfold FX9_readSum_L6; rw [if_pos (by decide)], h⟩
  | succ j ih =>
    intro n m y hj hn h
    obtain ⟨n, rfl⟩ : ∃ i, n = i + 1 := ⟨n - 1, by omega⟩
    unfold FX9_readSum_L6
    rw [if_neg (by rw [show (1600 : Int32) = Int32.ofNat 1600 from rfl, n_le (by omega) (by omega)]; omega), cy_sign h.1, bd_some]
    have go : (yS β E 43 y = true ∨ yS β E 45 y = true) → ∃ m', FX9_readSum_J37 f rc (FX9_readSum_L6 f rc k n) (Int32.ofNat (1600 - (j + 1))) m = k m' ∧ YR β E kd oc fr m' o (yLp β E 43 45 1 2 r (j + 1) y) := by
      intro z
      have hk : yK β E y ≠ 0 := by
        rcases z with z | z
        · rw [yS_k z]; decide
        · rw [yS_k z]; decide
      have st : ∀ (c : Nat), c ≤ 4 → ∃ m', FX9_readSum_J55 f rc (FX9_readSum_L6 f rc k n) (Int32.ofNat (1600 - (j + 1))) (tr c) m = k m' ∧ YR β E kd oc fr m' o (yLp β E 43 45 1 2 r j (yput c (r (yad β E y)))) := by
        intro c hc
        unfold FX9_readSum_J55
        obtain ⟨m1, r1, h1⟩ := yr_adv hf hoc h
        rw [r1, bd_some]
        obtain ⟨m2, r2, h2⟩ := hr m1 _ h1
        rw [r2, bd_some]
        obtain ⟨m3, r3, h3⟩ := @yr_put f E kd oc fr o β m2 _ c hoc h2 hE (hb_of h h2 (slk_tr (a := 1) (b := 0) (slk_ad hk) (hs _))) (rh_of (by omega) (by omega) (by omega))
        rw [r3, bd_some, s_1, show 1600 - (j + 1) + 1 = 1600 - j by omega]
        exact ih n m3 _ (by omega) (by omega) h3
      unfold FX9_readSum_J37
      have e : yLp β E 43 45 1 2 r (j + 1) y = yLp β E 43 45 1 2 r j (yput (if yS β E 43 y = true then 1 else 2) (r (yad β E y))) := by
        show (if _ then _ else _) = _
        rw [if_pos z]
      rw [cy_sign h.1, bd_some, e]
      by_cases z1 : yS β E 43 y = true
      · rw [if_pos z1, if_neg n10, if_pos z1]
        exact st 1 (by omega)
      · rw [if_neg z1, if_pos rfl, if_neg z1]
        exact st 2 (by omega)
    by_cases z1 : yS β E 43 y = true
    · rw [if_pos z1, if_neg n10]
      exact go (Or.inl z1)
    rw [if_neg z1, if_pos rfl, cy_sign h.1, bd_some]
    by_cases z2 : yS β E 45 y = true
    · rw [if_pos z2, if_neg n10]
      exact go (Or.inr z2)
    rw [if_neg z2, if_pos rfl]
    refine ⟨m, rfl, ?_⟩
    have e : yLp β E 43 45 1 2 r (j + 1) y = y := by
      show (if _ then _ else _) = _
      rw [if_neg (by rintro (q | q); exact z1 q; exact z2 q)]
    rw [e]; exact h
theorem lp_Product {o : Nat} (hf : 4000 ≤ f) (hoc : okc oc) (hE : E ≤ 1600) {rc : Nat → Int32 → ev_M → Option (Unit × ev_M)} {r : Yr → Yr} (hs : ∀ y, slk 0 y (r y)) (hr : ∀ m y, YR β E kd oc fr m o y → ∃ m', rc 2 (0 : Int32) m = some ((), m') ∧ YR β E kd oc fr m' o (r y)) (k : ev_M → Option (Unit × ev_M)) : ∀ j n m y, j ≤ 1600 → j < n → YR β E kd oc fr m o y → ∃ m', FX9_readProduct_L6 f rc k n (Int32.ofNat (1600 - j)) m = k m' ∧ YR β E kd oc fr m' o (yLp β E 42 47 3 4 r j y) := by
  intro j
  induction j with
  | zero =>
    intro n m y _ hn h
    obtain ⟨n, rfl⟩ : ∃ i, n = i + 1 := ⟨n - 1, by omega⟩
    exact ⟨m, by unfold FX9_readProduct_L6; rw [if_pos (by decide)], h⟩
  | succ j ih =>
    intro n m y hj hn h
    obtain ⟨n, rfl⟩ : ∃ i, n = i + 1 := ⟨n - 1, by omega⟩
    unfold FX9_readProduct_L6
    rw [if_neg (by rw [show (1600 : Int32) = Int32.ofNat 1600 from rfl, n_le (by omega) (by omega)]; omega), cy_sign h.1, bd_some]
    have go : (yS β E 42 y = true ∨ yS β E 47 y = true) → ∃ m', FX9_readProduct_J37 f rc (FX9_readProduct_L6 f rc k n) (Int32.ofNat (1600 - (j + 1))) m = k m' ∧ YR β E kd oc fr m' o (yLp β E 42 47 3 4 r (j + 1) y) := by
      intro z
      have hk : yK β E y ≠ 0 := by
        rcases z with z | z
        · rw [yS_k z]; decide
        · rw [yS_k z]; decide
      have st : ∀ (c : Nat), c ≤ 4 → ∃ m', FX9_readProduct_J56 f rc (FX9_readProduct_L6 f rc k n) (Int32.ofNat (1600 - (j + 1))) (tr c) m = k m' ∧ YR β E kd oc fr m' o (yLp β E 42 47 3 4 r j (yput c (r (yad β E y)))) := by
        intro c hc
        unfold FX9_readProduct_J56
        obtain ⟨m1, r1, h1⟩ := yr_adv hf hoc h
        rw [r1, bd_some]
        obtain ⟨m2, r2, h2⟩ := hr m1 _ h1
        rw [r2, bd_some]
        obtain ⟨m3, r3, h3⟩ := @yr_put f E kd oc fr o β m2 _ c hoc h2 hE (hb_of h h2 (slk_tr (a := 1) (b := 0) (slk_ad hk) (hs _))) (rh_of (by omega) (by omega) (by omega))
        rw [r3, bd_some, s_1, show 1600 - (j + 1) + 1 = 1600 - j by omega]
        exact ih n m3 _ (by omega) (by omega) h3
      unfold FX9_readProduct_J37
      have e : yLp β E 42 47 3 4 r (j + 1) y = yLp β E 42 47 3 4 r j (yput (if yS β E 42 y = true then 3 else 4) (r (yad β E y))) := by
        show (if _ then _ else _) = _
        rw [if_pos z]
      rw [cy_sign h.1, bd_some, e]
      by_cases z1 : yS β E 42 y = true
      · rw [if_pos z1, if_neg n10, if_pos z1]
        exact st 3 (by omega)
      · rw [if_neg z1, if_pos rfl, if_neg z1]
        exact st 4 (by omega)
    by_cases z1 : yS β E 42 y = true
    · rw [if_pos z1, if_neg n10]
      exact go (Or.inl z1)
    rw [if_neg z1, if_pos rfl, cy_sign h.1, bd_some]
    by_cases z2 : yS β E 47 y = true
    · rw [if_pos z2, if_neg n10]
      exact go (Or.inr z2)
    rw [if_neg z2, if_pos rfl]
    refine ⟨m, rfl, ?_⟩
    have e : yLp β E 42 47 3 4 r (j + 1) y = y := by
      show (if _ then _ else _) = _
      rw [if_neg (by rintro (q | q); exact z1 q; exact z2 q)]
    rw [e]; exact h
theorem c_isvM {m : ev_M} : FX9_isValue f (-1) m = some (0, m) := by
  unfold FX9_isValue
  rw [if_neg (by decide), if_neg (by decide), if_neg (by decide), if_neg (by decide), if_neg (by decide), if_neg (by decide), if_neg (by decide), if_neg (by decide), if_neg (by decide), if_neg (by decide)]
theorem vq_isv {w : Nat} (hk : kd < 3) (hw : w < 29) : (isv kd w = true ↔ ∃ q, vq kd (some w) = some q) := by
  rw [isv_all kd hk w hw]
  constructor
  · intro h
    exact Option.isSome_iff_exists.mp h
  · intro h
    exact Option.isSome_iff_exists.mpr h
theorem vq_wq {w q : Nat} (h : vq kd (some w) = some q) : wq w = some q := by
  unfold vq at h
  cases hw : wq w with
  | none => rw [show (some w).bind (fun w => (wq w).bind (fun q => if okq kd q = true then some q else none)) = (wq w).bind (fun q => if okq kd q = true then some q else none) from rfl, hw] at h; cases h
  | some q' =>
    rw [show (some w).bind (fun w => (wq w).bind (fun q => if okq kd q = true then some q else none)) = (wq w).bind (fun q => if okq kd q = true then some q else none) from rfl, hw] at h
    have h' : (if okq kd q' = true then some q' else none) = some q := h
    by_cases z : okq kd q' = true
    · rw [if_pos z] at h'; exact h'
    · rw [if_neg z] at h'; cases h'
theorem yr_J116 {o : Nat} {m : ev_M} {y : Yr} {rc : Nat → Int32 → ev_M → Option (Unit × ev_M)} (hf : 4000 ≤ f) (hoc : okc oc) (hE : E ≤ 1600) (hk : kd < 3) (h : YR β E kd oc fr m o y) : ∃ m', FX9_readPart_J116 f rc m = some ((), m') ∧ YR β E kd oc fr m' o (match vq kd (yI β E y) with
    | some q => yad β E (yput (40 + q) y)
    | none => yfail β E 1 y) := by
  unfold FX9_readPart_J116
  rw [cy_word h.1, bd_some]
  have bad : vq kd (yI β E y) = none → ∃ m', ev_bd (FX10_fail f 1 (m.1 13 2) m) (fun _ m14 => some ((), m14)) = some ((), m') ∧ YR β E kd oc fr m' o (match vq kd (yI β E y) with
    | some q => yad β E (yput (40 + q) y)
    | none => yfail β E 1 y) := by
    intro e
    rw [e]
    obtain ⟨m', r1, r2⟩ := @yr_fail f E kd oc fr o β m y hoc h 1 (by omega) (by omega)
    have r1' : FX10_fail f 1 (m.1 13 2) m = some ((), m') := r1
    rw [r1', bd_some]
    exact ⟨m', rfl, r2⟩
  cases hi : yI β E y with
  | none =>
    rw [show oi none = -1 from rfl, c_isvM, bd_some, if_pos rfl, ← hi]
    exact bad (by rw [hi]; rfl)
  | some w =>
    have hw := yI_lt hi
    rw [show oi (some w) = Int32.ofNat w from rfl, c_isv hk hw h.2.2.1, bd_some]
    by_cases z : isv kd w = true
    · rw [if_pos z, if_neg n10]
      obtain ⟨q, hq⟩ := (vq_isv hk hw).mp z
      obtain ⟨m', r1, r2⟩ := yr_val hf hoc hE hi (vq_wq hq) h
      rw [r1, bd_some, hq]
      exact ⟨m', rfl, r2⟩
    · rw [if_neg z, if_pos rfl, ← hi]
      refine bad ?_
      rw [hi]
      cases hv : vq kd (some w) with
      | none => rfl
      | some q => exact absurd ((vq_isv hk hw).mpr ⟨q, hv⟩) z
theorem yr_said {o : Nat} {m : ev_M} {y : Yr} (hoc : okc oc) (hE : E ≤ 1600) (h : YR β E kd oc fr m o y) (hb : ∀ x, y = .inr x → fr + x.2.2.length < x.1 ∧ x.1 ≤ E) : ∃ m', ev_bd (FX9_put f (-13 : Int32) m) (fun _ m8 => some ((), ((ev_up m8.1 15 4 31), m8.2))) = some ((), m') ∧ YR β E kd oc fr m' o (yput 60 y) := by
  obtain ⟨a1, a2, a3, ⟨z, a4, a5⟩, a6⟩ := h
  have h13 : oc ≠ 13 ∧ oc ≠ 14 ∧ oc ≠ 15 ∧ oc + 1 ≠ 13 ∧ oc + 1 ≠ 14 ∧ oc + 1 ≠ 15 ∧ 0 < oc ∧ oc < 30 := by unfold okc at hoc; omega
  have e1 : FX9_put f (-13) m = some ((), if z < 1608 then (ev_up (ev_up m.1 (oc + 1) z (-13)) oc 1 (Int32.ofNat (z + 1)), m.2) else m) := by
    unfold FX9_put
    rw [a2, if_neg (fun q => by rw [n_z (by omega)] at q; omega), n_nat (by omega), if_pos (isK2 hoc), c_add a4 a5, bd_some]
  rw [e1, bd_some]
  by_cases q : z < 1608
  rotate_left
  · rw [if_neg q]
    cases y with
    | inl e =>
      refine ⟨_, rfl, YC_fr (y := .inl e) a1 (fun a k z => by rw [upI_na _ _ _ _ (by omega)]), by rw [upI_nk _ _ _ _ (by decide)]; exact a2, by rw [upI_nk _ _ _ _ (by decide)]; exact a3, ⟨z, a4, by rw [upI_na _ _ _ _ (by omega)]; exact a5⟩, fun x e => by cases e⟩
    | inr x =>
      obtain ⟨b1, b2, b3, b4, b5⟩ := a6 x rfl
      have hbx := hb x rfl
      rw [a5, n_eq (by omega) (by omega)] at b2
      omega
  rw [if_pos q]
  have g : ∀ a k, a ≠ oc → a ≠ oc + 1 → ¬ (a = 15 ∧ k = 4) → ((ev_up (ev_up (ev_up m.1 (oc + 1) z (-13)) oc 1 (Int32.ofNat (z + 1))) 15 4 31, m.2) : ev_M).1 a k = m.1 a k := fun a k y1 y2 y3 => by
    by_cases e : a = 15
    · subst e; rw [upI_nk _ _ _ _ (by omega), up_na _ _ _ _ y1, up_na _ _ _ _ y2]
    · rw [upI_na _ _ _ _ e, up_na _ _ _ _ y1, up_na _ _ _ _ y2]
  refine ⟨_, rfl, ?_, by rw [g _ _ (by omega) (by omega) (by omega)]; exact a2, by rw [g _ _ (by omega) (by omega) (by omega)]; exact a3, ⟨z + 1, by omega, by rw [upI_na _ _ _ _ (by omega), upI_at]⟩, fun x e => ?_⟩
  · cases y with
    | inl e => exact YC_fr (y := .inl e) a1 (fun a k y => g a k (by omega) (by omega) (by omega))
    | inr x => exact YC_fr (y := .inr (x.1, x.2.1, x.2.2 ++ [60])) a1 (fun a k y => g a k (by omega) (by omega) (by omega))
  · cases y with
    | inl e' => cases e
    | inr x0 =>
      have : x = (x0.1, x0.2.1, x0.2.2 ++ [60]) := (Sum.inr.inj e).symm
      subst this
      obtain ⟨b1, b2, b3, b4, b5⟩ := a6 x0 rfl
      have hbx := hb x0 rfl
      have hz : z = fr + x0.2.2.length := by rw [a5, n_eq (by omega) (by omega)] at b2; exact b2
      have hl : (x0.2.2 ++ [60]).length = x0.2.2.length + 1 := by rw [List.length_append]; rfl
      refine ⟨by rw [g _ _ (by omega) (by omega) (by omega)]; exact b1, ?_, ?_, ?_, ?_⟩
      · show ((ev_up (ev_up (ev_up m.1 (oc + 1) z (-13)) oc 1 (Int32.ofNat (z + 1))) 15 4 31, m.2) : ev_M).1 oc 1 = Int32.ofNat (fr + (x0.2.2 ++ [60]).length)
        rw [upI_na _ _ _ _ (by omega), up_at, hl, hz]; rfl
      · show cells tr _ fr (x0.2.2 ++ [60])
        rw [cells_app]
        rw [upI_na _ _ _ _ (by omega), upI_na _ _ _ _ (by omega)]
        refine ⟨cells_fr _ _ (fun i i1 i2 => by rw [up_nk _ _ _ (by omega)]) b3, by rw [← hz, up_at, tr_of rfl]⟩
      · show fr + (x0.2.2 ++ [60]).length ≤ x0.1
        rw [hl]; omega
      · show _ = Int32.ofNat (rch (x0.2.2 ++ [60]))
        rw [upI_at, rch_60]; rfl
theorem FGA_PA (hf : 4000 ≤ f) (hoc : okc oc) (hE : E ≤ 1600) (hk : kd < 3) : ∀ n idx sg o a m y, o ≤ 6 → 4 * (7 - o) ≤ n + min idx 3 → (3 ≤ idx → y.isRight = true ∧ yK β E y ≠ 0) → (idx = 4 → a = tr sg ∧ sg ≤ 6) → YR β E kd oc fr m o y → ∃ m', FGA f n idx a m = some ((), m') ∧ YR β E kd oc fr m' o (PA β E kd n idx sg o y) := by
  intro n
  induction n with
  | zero => intro idx sg o a m y ho hn; omega
  | succ n ih =>
    intro idx sg o a m y ho hn hy ha h
    have said : 5 ≤ idx → ∃ m', FX9_readSaidAheadB f (FGA f n) m = some ((), m') ∧ YR β E kd oc fr m' o (ySaB β E (PA β E kd n) o y) := by
      intro h5
      obtain ⟨g1, g2⟩ := hy (by omega)
      have op := yr_opens hf hoc ho g1 h
      unfold FX9_readSaidAheadB ySaB
      by_cases z : o < 6
      · rw [if_pos z] at op
        obtain ⟨m1, r1, h1⟩ := op
        rw [r1, bd_some, if_neg n10, if_pos z]
        obtain ⟨m2, r2, h2⟩ := ih 2 0 (o + 1) 0 m1 _ (by omega) (by omega) (by omega) (by omega) h1
        rw [r2, bd_some]
        obtain ⟨m3, r3, h3⟩ := @yr_closes f E kd oc fr β o m2 _ hoc ho h2
        rw [r3, bd_some]
        exact yr_said hoc hE h3 (hb_of h h3 (slk_tr (a := 1) (b := 0) (slk_ad g2) (PA_slk n 2 0 (o + 1) _ (by omega))))
      · rw [if_neg z] at op
        obtain ⟨m1, r1, h1⟩ := op
        rw [r1, bd_some, if_pos rfl, if_neg z]
        exact ⟨m1, rfl, h1⟩
    match idx with
    | 0 =>
      show ∃ m', FX9_readSumB f (FGA f n) m = _ ∧ YR β E kd oc fr m' o (yLp β E 43 45 1 2 (PA β E kd n 1 0 o) 1600 (PA β E kd n 1 0 o y))
      unfold FX9_readSumB
      obtain ⟨m1, r1, h1⟩ := ih 1 0 o 0 m y ho (by omega) (by omega) (by omega) h
      rw [r1, bd_some]
      obtain ⟨m2, r2, h2⟩ := lp_Sum (rc := FGA f n) hf hoc hE (fun y => PA_slk n 1 0 o y (by omega)) (fun m y h => ih 1 0 o 0 m y ho (by omega) (by omega) (by omega) h) (fun m15 => some ((), m15)) 1600 f m1 _ (by omega) (by omega) h1
      exact ⟨m2, r2, h2⟩
    | 1 =>
      show ∃ m', FX9_readProductB f (FGA f n) m = _ ∧ YR β E kd oc fr m' o (yLp β E 42 47 3 4 (PA β E kd n 2 0 o) 1600 (PA β E kd n 2 0 o y))
      unfold FX9_readProductB
      obtain ⟨m1, r1, h1⟩ := ih 2 0 o 0 m y ho (by omega) (by omega) (by omega) h
      rw [r1, bd_some]
      obtain ⟨m2, r2, h2⟩ := lp_Product (rc := FGA f n) hf hoc hE (fun y => PA_slk n 2 0 o y (by omega)) (fun m y h => ih 2 0 o 0 m y ho (by omega) (by omega) (by omega) h) (fun m15 => some ((), m15)) 1600 f m1 _ (by omega) (by omega) h1
      exact ⟨m2, r2, h2⟩
    | 2 =>
      show ∃ m', FX9_readPartB f (FGA f n) m = _ ∧ YR β E kd oc fr m' o (yPartB β E kd (PA β E kd n) o y)
      have gd : yK β E y ≠ 4 → y.isRight = true := by
        intro q
        cases y with
        | inl e => exact absurd rfl q
        | inr x => rfl
      unfold FX9_readPartB yPartB
      rw [cy_num h.1, bd_some]
      by_cases z1 : yK β E y = 2
      · rw [if_pos z1, if_neg n10, if_pos z1]
        obtain ⟨m1, r1, h1⟩ := @cy_tN f E β m y hf h.1 0 9999 (by omega) (by omega)
        have r1' : FX10_takeNumber f 0 9999 m = _ := r1
        rw [r1', bd_some]
        have hY : YR β E kd oc fr m1 o (ytN β E 0 9999 y) := yr_mv hoc h h1 (fun a k z => (MDX10_takeNumber r1 a k (by unfold mdX10_takeNumber; omega)).1) (fun x' e => by
          cases y with
          | inl e' => cases e
          | inr x =>
            have e' : ytN β E 0 9999 (.inr x) = .inr x' := e
            unfold ytN at e'
            simp only [] at e'
            rw [if_pos (show tkK β E x.1 x.2.1 = 2 from z1)] at e'
            split at e'
            · split at e'
              · cases e'
              · have : x' = (tkB β E x.1, tkW β E x.1 x.2.1, x.2.2) := (Sum.inr.inj e').symm
                subst this
                have h1 := sk_ge β E x.1
                exact ⟨x, rfl, rfl, by show x.1 ≤ tkB β E x.1; unfold tkB; omega⟩
            · cases e')
        have hv : (if (ytN β E 0 9999 y).isRight = true then Int32.ofNat (yval β E y) else Int32.ofNat 0) = tr (1000 + (if (ytN β E 0 9999 y).isRight = true then yval β E y else 0)) := by
          rw [tr_num (by omega), show ∀ k, 1000 + k - 1000 = k by omega]
          split <;> rfl
        rw [hv]
        obtain ⟨m2, r2, h2⟩ := @yr_put f E kd oc fr o β m1 _ (1000 + (if (ytN β E 0 9999 y).isRight = true then yval β E y else 0)) hoc hY hE (hb_of h hY slk_tN) (rh_of (by omega) (by omega) (by omega))
        rw [r2, bd_some]
        refine ⟨m2, rfl, ?_⟩
        by_cases q : (ytN β E 0 9999 y).isRight = true
        · rw [if_pos q] at h2; exact h2
        · cases hh : ytN β E 0 9999 y with
          | inr x => rw [hh] at q; exact absurd rfl q
          | inl e => rw [hh] at h2; exact h2
      rw [if_neg z1, if_pos rfl, cy_sign h.1, bd_some, if_neg z1]
      by_cases z2 : yS β E 40 y = true
      · rw [if_pos z2, if_neg n10, if_pos z2]
        obtain ⟨m1, r1, h1⟩ := ih 3 0 o 0 m y ho (by omega) (fun _ => ⟨gd (by rw [yS_k z2]; decide), by rw [yS_k z2]; decide⟩) (by omega) h
        rw [r1, bd_some]
        exact ⟨m1, rfl, h1⟩
      have w21 : FX10_isWord f 21 m = some (if yI β E y = some 21 then 1 else 0, m) := @cy_isW f E β m y h.1 21 (by omega)
      have w22 : FX10_isWord f 22 m = some (if yI β E y = some 22 then 1 else 0, m) := @cy_isW f E β m y h.1 22 (by omega)
      have w10 : FX10_isWord f 10 m = some (if yI β E y = some 10 then 1 else 0, m) := @cy_isW f E β m y h.1 10 (by omega)
      rw [if_neg z2, if_pos rfl, w21, bd_some, if_neg z2]
      by_cases z3 : yI β E y = some 21
      · rw [if_pos z3, if_neg n10, if_pos z3]
        obtain ⟨m1, r1, h1⟩ := ih 4 5 o (-5) m y ho (by omega) (fun _ => ⟨gd (by rw [yI_k z3]; decide), by rw [yI_k z3]; decide⟩) (fun _ => ⟨by rw [tr_sign (by omega)]; rfl, by omega⟩) h
        rw [r1, bd_some]
        exact ⟨m1, rfl, h1⟩
      rw [if_neg z3, if_pos rfl, w22, bd_some, if_neg z3]
      by_cases z4 : yI β E y = some 22
      · rw [if_pos z4, if_neg n10, if_pos z4]
        obtain ⟨m1, r1, h1⟩ := ih 4 6 o (-6) m y ho (by omega) (fun _ => ⟨gd (by rw [yI_k z4]; decide), by rw [yI_k z4]; decide⟩) (fun _ => ⟨by rw [tr_sign (by omega)]; rfl, by omega⟩) h
        rw [r1, bd_some]
        exact ⟨m1, rfl, h1⟩
      rw [if_neg z4, if_pos rfl, if_neg z4, h.2.2.1]
      by_cases z5 : kd = 2
      · rw [if_pos (by rw [z5]; rfl), w10, bd_some]
        by_cases z6 : yI β E y = some 10
        · rw [if_pos z6, if_neg n10, if_pos ⟨z5, z6⟩]
          obtain ⟨m1, r1, h1⟩ := ih 5 0 o 0 m y ho (by omega) (fun _ => ⟨gd (by rw [yI_k z6]; decide), by rw [yI_k z6]; decide⟩) (by omega) h
          rw [r1, bd_some]
          exact ⟨m1, rfl, h1⟩
        · rw [if_neg z6, if_pos rfl, if_neg (fun q => z6 q.2)]
          exact yr_J116 hf hoc hE hk h
      · rw [if_neg (fun q => z5 ((n_is 2 2 rfl (by omega) (by omega)).mp q)), if_neg (fun q => z5 q.1)]
        exact yr_J116 hf hoc hE hk h
    | 3 =>
      show ∃ m', FX9_readOpenedB f (FGA f n) m = _ ∧ YR β E kd oc fr m' o (yOpB β E (PA β E kd n) o y)
      obtain ⟨g1, g2⟩ := hy (by omega)
      have op := yr_opens hf hoc ho g1 h
      unfold FX9_readOpenedB yOpB
      by_cases z : o < 6
      · rw [if_pos z] at op
        obtain ⟨m1, r1, h1⟩ := op
        rw [r1, bd_some, if_neg n10, if_pos z]
        obtain ⟨m2, r2, h2⟩ := ih 0 0 (o + 1) 0 m1 _ (by omega) (by omega) (by omega) (by omega) h1
        rw [r2, bd_some]
        obtain ⟨m3, r3, h3⟩ := yr_tS hf hoc h2 41
        rw [r3, bd_some]
        obtain ⟨m4, r4, h4⟩ := @yr_closes f E kd oc fr β o m3 _ hoc ho h3
        rw [r4, bd_some]
        exact ⟨m4, rfl, h4⟩
      · rw [if_neg z] at op
        obtain ⟨m1, r1, h1⟩ := op
        rw [r1, bd_some, if_pos rfl, if_neg z]
        exact ⟨m1, rfl, h1⟩
    | 4 =>
      show ∃ m', FX9_readPairB f (FGA f n) a m = _ ∧ YR β E kd oc fr m' o (yPrB β E (PA β E kd n) sg o y)
      obtain ⟨g1, g2⟩ := hy (by omega)
      obtain ⟨a1, a2⟩ := ha rfl
      unfold FX9_readPairB yPrB
      obtain ⟨m0, r0, h0⟩ := yr_adv hf hoc h
      rw [r0, bd_some, cy_sign h0.1, bd_some]
      by_cases z0 : yS β E 40 (yad β E y) = true
      rotate_left
      · rw [if_neg z0, if_pos rfl, if_neg z0]
        obtain ⟨m', r1, r2⟩ := @yr_fail f E kd oc fr o β m0 _ hoc h0 1 (by omega) (by omega)
        have r1' : FX10_fail f 1 (m0.1 13 2) m0 = some ((), m') := r1
        rw [r1', bd_some]
        exact ⟨m', rfl, r2⟩
      rw [if_pos z0, if_neg n10, if_pos z0]
      have g1' : (yad β E y).isRight = true := by
        cases y with
        | inl e => cases g1
        | inr x => rfl
      have op := yr_opens hf hoc ho g1' h0
      by_cases z : o < 6
      · rw [if_pos z] at op
        obtain ⟨m1, r1, h1⟩ := op
        rw [r1, bd_some, if_neg n10, if_pos z]
        obtain ⟨m2, r2, h2⟩ := ih 0 0 (o + 1) 0 m1 _ (by omega) (by omega) (by omega) (by omega) h1
        rw [r2, bd_some]
        obtain ⟨m3, r3, h3⟩ := yr_tS hf hoc h2 44
        rw [r3, bd_some]
        obtain ⟨m4, r4, h4⟩ := ih 0 0 (o + 1) 0 m3 _ (by omega) (by omega) (by omega) (by omega) h3
        rw [r4, bd_some]
        obtain ⟨m5, r5, h5⟩ := yr_tS hf hoc h4 41
        rw [r5, bd_some]
        obtain ⟨m6, r6, h6⟩ := @yr_closes f E kd oc fr β o m5 _ hoc ho h5
        rw [r6, bd_some, a1]
        obtain ⟨m7, r7, h7⟩ := @yr_put f E kd oc fr o β m6 _ sg hoc h6 hE (hb_of h2 h6 (slk_le (slk_tr (slk_tr slk_tS (PA_slk n 0 0 (o + 1) _ (by omega))) slk_tS) (by omega))) (rh_of (by omega) (by omega) (by omega))
        rw [r7, bd_some]
        exact ⟨m7, rfl, h7⟩
      · rw [if_neg z] at op
        obtain ⟨m1, r1, h1⟩ := op
        rw [r1, bd_some, if_pos rfl, if_neg z]
        exact ⟨m1, rfl, h1⟩
    | 5 => exact said (by omega)
    | k + 6 => exact said (by omega)
end
