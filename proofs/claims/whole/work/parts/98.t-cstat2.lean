/-! the class reads a STATEMENT -/
section
variable {f E : Nat} {β : Nat → Int32}
theorem c_failG {m : ev_M} {k p : Nat} (h3 : m.1 13 3 = 0) (hk : 1 ≤ k ∧ k ≤ 5) (hp : p ≤ 2000) : ∃ m', FX10_fail f (Int32.ofNat k) (Int32.ofNat p) m = some ((), m') ∧ CB m' (k, p) := by
  unfold FX10_fail
  rw [if_pos h3]
  refine ⟨_, rfl, hk.1, hk.2, hp, ?_, ?_, upI_at _ _ _ _ _⟩
  · rw [upI_nk _ _ _ _ (by decide), up_nk _ _ _ (by decide), up_at]
  · rw [upI_nk _ _ _ _ (by decide), up_at]
theorem c_hasS {o z : Nat} {m : ev_M} {d : Option (List Nat)} (hz : z ≤ 1600) (h : dC o 11 z m kS d) : FX1_hasSays f o m = some (if d.isSome = true then 1 else 0, m) := by
  unfold FX1_hasSays
  cases d with
  | none => rw [h.1, h.2, if_pos (by decide), if_neg (by decide)]
  | some l =>
    obtain ⟨fr, a1, a2, a3, a4, a5⟩ := h
    have := good_len a5
    rw [a2, a3, if_neg (fun q => by rw [n_le (by omega) (by omega)] at q; omega)]
    rfl
theorem c_hasF {o z : Nat} {m : ev_M} {d : Option (List Nat)} (hz : z ≤ 1600) (h : dC o 13 z m kF d) : FX1_hasFeels f o m = some (if d.isSome = true then 1 else 0, m) := by
  unfold FX1_hasFeels
  cases d with
  | none => rw [h.1, h.2, if_pos (by decide), if_neg (by decide)]
  | some l =>
    obtain ⟨fr, a1, a2, a3, a4, a5⟩ := h
    have := good_len a5
    rw [a2, a3, if_neg (fun q => by rw [n_le (by omega) (by omega)] at q; omega)]
    rfl
theorem tooM {Q : sp_Q} {o p : Nat} {m : ev_M} (hQ : CQ o p m Q) (r : Option Nat) (hr : ∀ w, r = some w → w < 29) : FX1_isTooMany f o (oi r) m = some (if (r = some 1 ∧ Q.1.1 = 8) ∨ (r = some 5 ∧ Q.2.2.1.isSome = true) ∨ (r = some 6 ∧ Q.2.2.2.isSome = true) then 1 else 0, m) := by
  obtain ⟨hA, hB, z, z1, z2, z3, z4, z5⟩ := hQ
  unfold FX1_isTooMany
  cases r with
  | none =>
    rw [show oi none = -1 from rfl, if_neg (by decide), if_neg (by decide), if_neg (by decide), if_neg (fun q => by rcases q with q | q | q <;> exact absurd q.1 (fun e => by cases e))]
  | some w =>
    have hw := hr w rfl
    have nw : ∀ (c : Int32) (j : Nat), c = Int32.ofNat j → j < 1000 → (Int32.ofNat w = c ↔ w = j) := fun c j hc hj => n_is c j hc (by omega) (by omega)
    rw [show oi (some w) = Int32.ofNat w from rfl]
    by_cases w1 : w = 1
    · subst w1
      rw [if_pos ((nw 1 1 rfl (by omega)).mpr rfl), hA.2.1]
      have h8 := hA.1
      by_cases z : Q.1.1 = 8
      · rw [if_neg (show ¬ Int32.ofNat Q.1.1 < 8 from fun q => by have := (n_lt (b := 8) (by omega) (by omega)).mp q; omega), if_pos (Or.inl ⟨rfl, z⟩)]
      · rw [if_pos (show Int32.ofNat Q.1.1 < 8 from (n_lt (b := 8) (by omega) (by omega)).mpr (by omega)), if_neg (fun q => by
          rcases q with q | q | q
          · exact z q.2
          · exact absurd (Option.some.inj q.1) (by decide)
          · exact absurd (Option.some.inj q.1) (by decide))]
    rw [if_neg (fun q => w1 ((nw 1 1 rfl (by omega)).mp q))]
    by_cases w5 : w = 5
    · subst w5
      rw [if_pos ((nw 5 5 rfl (by omega)).mpr rfl), c_hasS (by omega) z4, bd_some]
      by_cases z : Q.2.2.1.isSome = true
      · rw [if_pos z, if_pos (Or.inr rfl), if_pos (Or.inr (Or.inl ⟨rfl, z⟩))]
      · rw [if_neg z, if_pos (Or.inl rfl), if_neg (fun q => by
          rcases q with q | q | q
          · exact absurd (Option.some.inj q.1) (by decide)
          · exact z q.2
          · exact absurd (Option.some.inj q.1) (by decide))]
    rw [if_neg (fun q => w5 ((nw 5 5 rfl (by omega)).mp q))]
    by_cases w6 : w = 6
    · subst w6
      rw [if_pos ((nw 6 6 rfl (by omega)).mpr rfl), c_hasF (by omega) z5, bd_some]
      by_cases z : Q.2.2.2.isSome = true
      · rw [if_pos z, if_pos (Or.inr rfl), if_pos (Or.inr (Or.inr ⟨rfl, z⟩))]
      · rw [if_neg z, if_pos (Or.inl rfl), if_neg (fun q => by
          rcases q with q | q | q
          · exact absurd (Option.some.inj q.1) (by decide)
          · exact absurd (Option.some.inj q.1) (by decide)
          · exact z q.2)]
    rw [if_neg (fun q => w6 ((nw 6 6 rfl (by omega)).mp q)), if_neg (fun q => by
      rcases q with q | q | q
      · exact w1 (Option.some.inj q.1)
      · exact w5 (Option.some.inj q.1)
      · exact w6 (Option.some.inj q.1))]
theorem COut_inl {o : Nat} {m : ev_M} {e : Nat × Nat} {Q : sp_Q} (h : CB m e) (hG : CGo o m) (hZ : CZo o m) : COut β E o m (.inl e, Q) := ⟨h, hG, hZ, fun x' q => by cases q⟩
set_option maxHeartbeats 8000000 in
theorem c_stat {o : Nat} {m : ev_M} {x : Nat × Bool × List Nat} {Q : sp_Q} (hf : 4000 ≤ f) (ho : o = 1 ∨ o = 7) (h : YC β E m (.inr x)) (hG : CGo o m) (hQ : CQ o x.1 m Q) : ∃ m', FX1_readStatement f o m = some ((), m') ∧ COut β E o m' (ySt β E Q x) := by
  have hc : CT β E m x.1 x.2.1 := h
  have hE := hc.1.1
  have hx := hc.2.1
  have hsk := sk_le (β := β) hx
  have e2 : m.1 13 2 = Int32.ofNat (sk β E x.1) := hc.2.2.2.2.2.1
  obtain ⟨m6, a1, a2⟩ := cy_adv (f := f) hf h
  have a2' : YC β E m6 (.inr (yx1 β E x)) := a2
  have hc6 : CT β E m6 (yx1 β E x).1 (yx1 β E x).2.1 := a2'
  have g6 : ∀ a k, a ≠ 13 → m6.1 a k = m.1 a k := fun a k z => (MDX10_advance a1 a k (by unfold mdX10_advance; omega)).1
  have hG6 : CGo o m6 := CG_fr13 ho hG g6
  have hQ6 : CQ o x.1 m6 Q := CQ_fr13 ho hQ (Nat.le_refl _) (by omega) g6
  have hp1 : x.1 ≤ (yx1 β E x).1 := by
    obtain ⟨x0, q1, q2⟩ := mo_ad (β := β) (E := E) (y := .inr x) (yx1 β E x) rfl
    cases q1; exact q2
  have hx1 : (yx1 β E x).1 ≤ 1600 := by have := hc6.2.1; omega
  have hZ6 : CZo o m6 := CQ_Z hQ6
  -- a fault at the beginning of the statement, behind it the sign
  have bad : ∀ Q', ∃ m', ev_bd (FX10_fail f (1 : Int32) (m.1 13 2) m6) (fun _ m31 => (FX1_readStatement_J164 f m31)) = some ((), m') ∧ COut β E o m' (ytS β E 59 (.inl (1, sk β E x.1)), Q') := by
    intro Q'
    obtain ⟨m7, r1, r2⟩ := @c_failG f m6 1 (sk β E x.1) hc6.2.2.1 (by omega) (by omega)
    have r1' : FX10_fail f 1 (m.1 13 2) m6 = some ((), m7) := by rw [e2]; exact r1
    have g7 : ∀ a k, a ≠ 13 → m7.1 a k = m6.1 a k := fun a k z => (MDX10_fail r1 a k (by unfold mdX10_fail; omega)).1
    rw [r1', bd_some]
    exact c_J164 (R := (.inl (1, sk β E x.1), Q')) hf ho (COut_inl r2 (CG_fr13 ho hG6 g7) (CZo_fr hZ6 (g7 _ _ (by omega))))
  have many : ∃ m', ev_bd (FX10_fail f (5 : Int32) (m.1 13 2) m) (fun _ m33 => some ((), m33)) = some ((), m') ∧ COut β E o m' (ytS β E 59 (.inl (5, sk β E x.1)), Q) := by
    obtain ⟨m7, r1, r2⟩ := @c_failG f m 5 (sk β E x.1) hc.2.2.1 (by omega) (by omega)
    have r1' : FX10_fail f 5 (m.1 13 2) m = some ((), m7) := by rw [e2]; exact r1
    have g7 : ∀ a k, a ≠ 13 → m7.1 a k = m.1 a k := fun a k z => (MDX10_fail r1 a k (by unfold mdX10_fail; omega)).1
    rw [r1', bd_some, S_inl]
    exact ⟨m7, rfl, COut_inl r2 (CG_fr13 ho hG g7) (CZo_fr (CQ_Z hQ) (g7 _ _ (by omega)))⟩
  have tm := tooM (f := f) hQ (yI β E (.inr x)) (fun w e => yI_lt e)
  unfold FX1_readStatement
  rw [cy_word h, bd_some]
  cases hI : yI β E (.inr x) with
  | none =>
    have eS : ySt β E Q x = (ytS β E 59 (.inl (1, sk β E x.1)), Q) := by unfold ySt yStB; rw [hI]
    rw [hI, if_neg (fun q => by rcases q with q | q | q <;> exact absurd q.1 (fun e => by cases e))] at tm
    rw [tm, bd_some, if_pos rfl, a1, bd_some, show oi none = -1 from rfl, if_neg (by decide), if_neg (by decide), if_neg (by decide), if_neg (by decide), if_neg (by decide), if_neg (by decide), if_neg (by decide), eS]
    exact bad Q
  | some w =>
    have hw := yI_lt hI
    have nw : ∀ (c : Int32) (j : Nat), c = Int32.ofNat j → j < 1000 → (Int32.ofNat w = c ↔ w = j) := fun c j hc hj => n_is c j hc (by omega) (by omega)
    have eS : ySt β E Q x = (ytS β E 59 (yW β E Q x w).1, (yW β E Q x w).2) := by unfold ySt yStB; rw [hI]
    rw [hI] at tm
    have tm' : FX1_isTooMany f o (Int32.ofNat w) m = some (if (some w = some 1 ∧ Q.1.1 = 8) ∨ (some w = some 5 ∧ Q.2.2.1.isSome = true) ∨ (some w = some 6 ∧ Q.2.2.2.isSome = true) then 1 else 0, m) := tm
    rw [show oi (some w) = Int32.ofNat w from rfl, eS]
    by_cases w1 : w = 1
    · subst w1
      have eW : yW β E Q x 1 = (if Q.1.1 = 8 then (.inl (5, sk β E x.1), Q) else (yTow β E Q.1 (yx1 β E x), (aTow β E Q.1 (yx1 β E x), Q.2))) := if_pos rfl
      by_cases z : Q.1.1 = 8
      · rw [if_pos (Or.inl ⟨rfl, z⟩)] at tm'
        rw [tm', bd_some, if_neg n10, eW, if_pos z]
        exact many
      · rw [if_neg (fun q => by
          rcases q with q | q | q
          · exact z q.2
          · exact absurd (Option.some.inj q.1) (by decide)
          · exact absurd (Option.some.inj q.1) (by decide))] at tm'
        rw [tm', bd_some, if_pos rfl, a1, bd_some, if_pos (show Int32.ofNat 1 = 1 from rfl), eW, if_neg z]
        have h8 := hQ6.1.1
        obtain ⟨m8, r1, r2, r3, r4⟩ := @c_tower f E β o m6 (yx1 β E x) Q.1 hf ho a2' hQ6.1 (by omega) hG6
        have md := MDX1_readTower r1
        rw [r1, bd_some]
        refine c_J164 (R := (yTow β E Q.1 (yx1 β E x), (aTow β E Q.1 (yx1 β E x), Q.2))) hf ho ⟨r2, r3, CZo_fr hZ6 (md _ _ (by unfold mdX1_readTower; omega)).1, fun x' e => ?_⟩
        have e' : yTow β E Q.1 (yx1 β E x) = .inr x' := e
        obtain ⟨x0, q1, q2⟩ := mo_tow (β := β) (E := E) (A := Q.1) (x := yx1 β E x) x' e'
        cases q1
        have hx' : x'.1 ≤ 1600 := by
          rw [e'] at r2
          have r2' : CT β E m8 x'.1 x'.2.1 := r2
          have := r2'.2.1; omega
        exact ⟨r4 (by rw [e']; rfl), ⟨((md _ _ (by unfold mdX1_readTower; omega)).1).trans hQ6.2.1.1, ((md _ _ (by unfold mdX1_readTower; omega)).1).trans hQ6.2.1.2.1, hQ6.2.1.2.2.1, hQ6.2.1.2.2.2.1, ((md _ _ (by unfold mdX1_readTower; omega)).1).trans hQ6.2.1.2.2.2.2⟩, CQD_fr hQ6.2.2 (by omega) hx' (fun k _ _ => (md _ _ (by unfold mdX1_readTower; omega)).1) (md _ _ (by unfold mdX1_readTower; omega)).1 (fun k => (md _ _ (by unfold mdX1_readTower; omega)).1)⟩
    by_cases w4 : w = 4
    · subst w4
      have eW : yW β E Q x 4 = (yYes β E Q.1 (yx1 β E x), (aYes β E Q.1 (yx1 β E x), Q.2)) := by unfold yW; rw [if_neg (by decide), if_pos rfl]
      rw [if_neg (fun q => by rcases q with q | q | q <;> exact absurd (Option.some.inj q.1) (by decide))] at tm'
      rw [tm', bd_some, if_pos rfl, a1, bd_some, if_neg (show ¬ Int32.ofNat 4 = 1 by decide), if_pos (show Int32.ofNat 4 = 4 from rfl), eW]
      obtain ⟨m8, r1, r2, r4⟩ := @c_yes f E β o m6 (yx1 β E x) Q.1 hf ho a2' hQ6.1
      have md := MDX1_readYes r1
      rw [r1, bd_some]
      refine c_J164 (R := (yYes β E Q.1 (yx1 β E x), (aYes β E Q.1 (yx1 β E x), Q.2))) hf ho ⟨r2, CGo_fr hG6 (fun a k _ _ => (md _ _ (by unfold mdX1_readYes; omega)).1), CZo_fr hZ6 (md _ _ (by unfold mdX1_readYes; omega)).1, fun x' e => ?_⟩
      have e' : yYes β E Q.1 (yx1 β E x) = .inr x' := e
      obtain ⟨x0, q1, q2⟩ := mo_yes (β := β) (E := E) (A := Q.1) (x := yx1 β E x) x' e'
      cases q1
      have hx' : x'.1 ≤ 1600 := by
        rw [e'] at r2
        have r2' : CT β E m8 x'.1 x'.2.1 := r2
        have := r2'.2.1; omega
      exact ⟨r4 (by rw [e']; rfl), ⟨((md _ _ (by unfold mdX1_readYes; omega)).1).trans hQ6.2.1.1, ((md _ _ (by unfold mdX1_readYes; omega)).1).trans hQ6.2.1.2.1, hQ6.2.1.2.2.1, hQ6.2.1.2.2.2.1, ((md _ _ (by unfold mdX1_readYes; omega)).1).trans hQ6.2.1.2.2.2.2⟩, CQD_fr hQ6.2.2 (by omega) hx' (fun k _ _ => (md _ _ (by unfold mdX1_readYes; omega)).1) (md _ _ (by unfold mdX1_readYes; omega)).1 (fun k => (md _ _ (by unfold mdX1_readYes; omega)).1)⟩
    by_cases w5 : w = 5
    · subst w5
      have eW : yW β E Q x 5 = (if Q.2.2.1.isSome = true then (.inl (5, sk β E x.1), Q) else (yCo β E 0 (yx1 β E x), (Q.1, Q.2.1, (some (yl (yCo β E 0 (yx1 β E x))), Q.2.2.2)))) := by unfold yW; rw [if_neg (by decide), if_neg (by decide), if_pos rfl]
      by_cases z : Q.2.2.1.isSome = true
      · rw [if_pos (Or.inr (Or.inl ⟨rfl, z⟩))] at tm'
        rw [tm', bd_some, if_neg n10, eW, if_pos z]
        exact many
      · rw [if_neg (fun q => by
          rcases q with q | q | q
          · exact absurd (Option.some.inj q.1) (by decide)
          · exact z q.2
          · exact absurd (Option.some.inj q.1) (by decide))] at tm'
        rw [tm', bd_some, if_pos rfl, a1, bd_some, if_neg (show ¬ Int32.ofNat 5 = 1 by decide), if_neg (show ¬ Int32.ofNat 5 = 4 by decide), if_pos (show Int32.ofNat 5 = 5 from rfl), eW, if_neg z]
        obtain ⟨m8, r1, r2⟩ := @c_says f E β o x.1 m6 (yx1 β E x) Q hf ho a2' hG6 hQ6 hp1 (by cases hh : Q.2.2.1 with | none => rfl | some l => rw [hh] at z; exact absurd rfl z)
        rw [r1, bd_some]
        exact c_J164 hf ho r2
    by_cases w6 : w = 6
    · subst w6
      have eW : yW β E Q x 6 = (if Q.2.2.2.isSome = true then (.inl (5, sk β E x.1), Q) else (yCo β E 1 (yx1 β E x), (Q.1, Q.2.1, (Q.2.2.1, some (yl (yCo β E 1 (yx1 β E x))))))) := by unfold yW; rw [if_neg (by decide), if_neg (by decide), if_neg (by decide), if_pos rfl]
      by_cases z : Q.2.2.2.isSome = true
      · rw [if_pos (Or.inr (Or.inr ⟨rfl, z⟩))] at tm'
        rw [tm', bd_some, if_neg n10, eW, if_pos z]
        exact many
      · rw [if_neg (fun q => by
          rcases q with q | q | q
          · exact absurd (Option.some.inj q.1) (by decide)
          · exact absurd (Option.some.inj q.1) (by decide)
          · exact z q.2)] at tm'
        rw [tm', bd_some, if_pos rfl, a1, bd_some, if_neg (show ¬ Int32.ofNat 6 = 1 by decide), if_neg (show ¬ Int32.ofNat 6 = 4 by decide), if_neg (show ¬ Int32.ofNat 6 = 5 by decide), if_pos (show Int32.ofNat 6 = 6 from rfl), eW, if_neg z]
        obtain ⟨m8, r1, r2⟩ := @c_feels f E β o x.1 m6 (yx1 β E x) Q hf ho a2' hG6 hQ6 hp1 (by cases hh : Q.2.2.2 with | none => rfl | some l => rw [hh] at z; exact absurd rfl z)
        rw [r1, bd_some]
        exact c_J164 hf ho r2
    rw [if_neg (show ¬ ((some w = some 1 ∧ Q.1.1 = 8) ∨ (some w = some 5 ∧ Q.2.2.1.isSome = true) ∨ (some w = some 6 ∧ Q.2.2.2.isSome = true)) from fun q => by
      rcases q with q | q | q
      · exact w1 (Option.some.inj q.1)
      · exact w5 (Option.some.inj q.1)
      · exact w6 (Option.some.inj q.1))] at tm'
    rw [tm', bd_some, if_pos rfl, a1, bd_some, if_neg (fun q => w1 ((nw 1 1 rfl (by omega)).mp q)), if_neg (fun q => w4 ((nw 4 4 rfl (by omega)).mp q)), if_neg (fun q => w5 ((nw 5 5 rfl (by omega)).mp q)), if_neg (fun q => w6 ((nw 6 6 rfl (by omega)).mp q))]
    -- the numbers
    have set : ∀ (lo hi s : Nat), lo < 100000 → hi < 100000 → (s = 8 ∨ s = 9 ∨ s = 10) → ∀ B : sp_B, ((ytN β E lo hi (.inr (yx1 β E x))).isRight = true → ∀ m' : ev_M, (∀ a k, a ≠ 13 → ¬ (a = o ∧ k = s) → m'.1 a k = m6.1 a k) → m'.1 o s = Int32.ofNat (yval β E (.inr (yx1 β E x))) → CQB o m' B) → ∃ m', ev_bd (FX10_takeNumber f (Int32.ofNat lo) (Int32.ofNat hi) m6) (fun r21 m22 => (FX1_readStatement_J164 f ((ev_up m22.1 o s r21), m22.2))) = some ((), m') ∧ COut β E o m' (ytS β E 59 (ytN β E lo hi (.inr (yx1 β E x))), (Q.1, B, Q.2.2)) := by
      intro lo hi s hlo hhi hs B hB
      obtain ⟨m7, r1, r2⟩ := cy_tN (f := f) hf a2' (lo := lo) (hi := hi) hlo hhi
      have g7 : ∀ a k, a ≠ 13 → m7.1 a k = m6.1 a k := fun a k z => (MDX10_takeNumber r1 a k (by unfold mdX10_takeNumber; omega)).1
      rw [r1, bd_some]
      generalize hv : (if (ytN β E lo hi (.inr (yx1 β E x))).isRight = true then Int32.ofNat (yval β E (.inr (yx1 β E x))) else Int32.ofNat lo) = v
      have g8 : ∀ a k, a ≠ 13 → ¬ (a = o ∧ k = s) → ((ev_up m7.1 o s v, m7.2) : ev_M).1 a k = m6.1 a k := fun a k z1 z2 => by
        by_cases e : a = o
        · subst e; rw [upI_nk _ _ _ _ (fun q => z2 ⟨rfl, q⟩)]; exact g7 _ _ z1
        · rw [upI_na _ _ _ _ e]; exact g7 _ _ z1
      refine c_J164 (R := (ytN β E lo hi (.inr (yx1 β E x)), (Q.1, B, Q.2.2))) hf ho ⟨YC_fr r2 (fun a k z => by rw [upI_na _ _ _ _ (by omega)]), CGo_fr hG6 (fun a k _ _ => g8 _ _ (by omega) (by omega)), CZo_fr hZ6 (g8 _ _ (by omega) (by omega)), fun x' e => ?_⟩
      have e' : ytN β E lo hi (.inr (yx1 β E x)) = .inr x' := e
      have hr : (ytN β E lo hi (.inr (yx1 β E x))).isRight = true := by rw [e']; rfl
      obtain ⟨x0, q1, q2⟩ := mo_tN (β := β) (E := E) (lo := lo) (hi := hi) (y := .inr (yx1 β E x)) x' e'
      cases q1
      have hx' : x'.1 ≤ 1600 := by
        rw [e'] at r2
        have r2' : CT β E m7 x'.1 x'.2.1 := r2
        have := r2'.2.1; omega
      rw [if_pos hr] at hv
      exact ⟨CQA_fr hQ6.1 (g8 _ _ (by omega) (by omega)) (g8 _ _ (by omega) (by omega)) (fun a k _ _ => g8 _ _ (by omega) (by omega)), hB hr _ g8 (by rw [upI_at, hv]), CQD_fr hQ6.2.2 (by omega) hx' (fun k _ _ => g8 _ _ (by omega) (by omega)) (g8 _ _ (by omega) (by omega)) (fun k => g8 _ _ (by omega) (by omega))⟩
    have b6 := hQ6.2.1
    by_cases w7 : w = 7
    · subst w7
      have eW : yW β E Q x 7 = (ytN β E 1 9 (.inr (yx1 β E x)), (Q.1, (Int32.ofNat (yval β E (.inr (yx1 β E x))), Q.2.1.2), Q.2.2)) := by unfold yW; rw [if_neg (by decide), if_neg (by decide), if_neg (by decide), if_neg (by decide), if_pos rfl]
      rw [if_pos (show Int32.ofNat 7 = 7 from rfl), eW]
      exact set 1 9 8 (by omega) (by omega) (by omega) _ (fun _ m' q1 q2 => ⟨q2, (q1 _ _ (by omega) (by omega)).trans b6.2.1, b6.2.2.1, b6.2.2.2.1, (q1 _ _ (by omega) (by omega)).trans b6.2.2.2.2⟩)
    rw [if_neg (fun q => w7 ((nw 7 7 rfl (by omega)).mp q))]
    by_cases w8 : w = 8
    · subst w8
      have eW : yW β E Q x 8 = (ytN β E 1 8 (.inr (yx1 β E x)), (Q.1, (Q.2.1.1, yval β E (.inr (yx1 β E x)), Q.2.1.2.2), Q.2.2)) := by unfold yW; rw [if_neg (by decide), if_neg (by decide), if_neg (by decide), if_neg (by decide), if_neg (by decide), if_pos rfl]
      rw [if_pos (show Int32.ofNat 8 = 8 from rfl), eW]
      exact set 1 8 9 (by omega) (by omega) (by omega) _ (fun hr m' q1 q2 => ⟨(q1 _ _ (by omega) (by omega)).trans b6.1, q2, by have := N_le hr; show 0 < yval β E (.inr (yx1 β E x)); omega, by have := N_le hr; show yval β E (.inr (yx1 β E x)) < 9; omega, (q1 _ _ (by omega) (by omega)).trans b6.2.2.2.2⟩)
    rw [if_neg (fun q => w8 ((nw 8 8 rfl (by omega)).mp q))]
    by_cases w9 : w = 9
    · subst w9
      have eW : yW β E Q x 9 = (ytN β E 0 100 (.inr (yx1 β E x)), (Q.1, (Q.2.1.1, Q.2.1.2.1, Int32.ofNat (yval β E (.inr (yx1 β E x)))), Q.2.2)) := by unfold yW; rw [if_neg (by decide), if_neg (by decide), if_neg (by decide), if_neg (by decide), if_neg (by decide), if_neg (by decide), if_pos rfl]
      rw [if_pos (show Int32.ofNat 9 = 9 from rfl), eW]
      exact set 0 100 10 (by omega) (by omega) (by omega) _ (fun _ m' q1 q2 => ⟨(q1 _ _ (by omega) (by omega)).trans b6.1, (q1 _ _ (by omega) (by omega)).trans b6.2.1, b6.2.2.1, b6.2.2.2.1, q2⟩)
    rw [if_neg (fun q => w9 ((nw 9 9 rfl (by omega)).mp q))]
    have eW : yW β E Q x w = (.inl (1, sk β E x.1), Q) := by unfold yW; rw [if_neg w1, if_neg w4, if_neg w5, if_neg w6, if_neg w7, if_neg w8, if_neg w9]
    rw [eW]
    exact bad Q
end
