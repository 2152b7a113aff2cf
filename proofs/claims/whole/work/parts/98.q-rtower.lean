/-! the reference: TOWERS and yes -/
def RQA (m : ev_M) (A : sp_A) : Prop := A.1 ≤ 8 ∧ m.1 112 35 = Int32.ofNat A.1 ∧ ∀ t, t < A.1 → NM (A.2.1 t) (m.2 138 t) ∧ m.1 139 (3 * t) = A.2.2.1 t ∧ m.1 139 (3 * t + 1) = A.2.2.2.1 t ∧ m.1 139 (3 * t + 2) = if A.2.2.2.2 t = true then 1 else 0
theorem RQA_fr {m m' : ev_M} {A : sp_A} (h : RQA m A) (h35 : m'.1 112 35 = m.1 112 35) (h138 : ∀ k, m'.2 138 k = m.2 138 k) (h139 : ∀ k, m'.1 139 k = m.1 139 k) : RQA m' A := by
  obtain ⟨a1, a2, a3⟩ := h
  exact ⟨a1, h35.trans a2, fun t ht => by rw [h138, h139, h139, h139]; exact a3 t ht⟩
section
variable {f E : Nat} {β : Nat → Int32}
/-- what reading alone may change -/
def rdo (m m' : ev_M) : Prop := ∀ a k, ¬ (a = 112 ∧ (k = 2 ∨ k = 4 ∨ k = 5 ∨ k = 6 ∨ k = 33)) → m'.1 a k = m.1 a k ∧ m'.2 a k = m.2 a k
theorem rdo_refl (m : ev_M) : rdo m m := fun _ _ _ => ⟨rfl, rfl⟩
theorem rdo_tr {a b c : ev_M} (h1 : rdo a b) (h2 : rdo b c) : rdo a c := fun x k z => ⟨(h2 x k z).1.trans (h1 x k z).1, (h2 x k z).2.trans (h1 x k z).2⟩
theorem rdo_WA {m m' : ev_M} (h : rdo m m') (hw : WA m) : WA m' := WA_fr hw (fun a k q => (h a k (fun z => (wo_ne q).1 z.1)).1)
theorem rdo_RQA {m m' : ev_M} {A : sp_A} (h : rdo m m') (hA : RQA m A) : RQA m' A := RQA_fr hA (h _ _ (by omega)).1 (fun k => (h _ _ (by omega)).2) (fun k => (h _ _ (by omega)).1)
theorem rdo_asks {o : Nat} {m m' : ev_M} {r : Unit} (e : FX12_asks f o m = some (r, m')) : rdo m m' := fun a k z => MDX12_asks e a k (by unfold mdX12_asks; omega)
theorem rdo_num {a b : Int32} {m m' : ev_M} {r : Int32} (e : FX12_number f a b m = some (r, m')) : rdo m m' := fun a k z => MDX12_number e a k (by unfold mdX12_number; omega)
theorem rdo_name {m m' : ev_M} {r : Int64} (e : FX12_name f m = some (r, m')) : rdo m m' := fun a k z => MDX12_name e a k (by unfold mdX12_name; omega)
theorem rdo_fail {a b : Int32} {m m' : ev_M} {r : Unit} (e : FX12_fail f a b m = some (r, m')) : rdo m m' := fun a k z => MDX12_fail e a k (by unfold mdX12_fail; omega)
theorem rdo_sign {a : Int32} {m m' : ev_M} {r : Unit} (e : FX12_asksSign f a m = some (r, m')) : rdo m m' := fun a k z => MDX12_asksSign e a k (by unfold mdX12_asksSign; omega)
theorem rdo_takes {o : Nat} {m m' : ev_M} {r : Int32} (e : FX12_takes f o m = some (r, m')) : rdo m m' := fun a k z => MDX12_takes e a k (by unfold mdX12_takes; omega)
theorem rdo_look {m m' : ev_M} {r : Int32} (e : FX12_look f m = some (r, m')) : rdo m m' := fun a k z => MDX12_look e a k (by unfold mdX12_look; omega)
theorem r_failB {m : ev_M} {e : Nat × Nat} {a b : Int32} (h : RB m e) : FX12_fail f a b m = some ((), m) := by
  unfold FX12_fail
  rw [if_neg (yr_bad h)]
theorem r_failG {m : ev_M} {k p : Nat} (h5 : m.1 112 5 = 0) (hk : 1 ≤ k ∧ k ≤ 5) (hp : p ≤ 2000) : ∃ m', FX12_fail f (Int32.ofNat k) (Int32.ofNat p) m = some ((), m') ∧ RB m' (k, p) := by
  unfold FX12_fail
  rw [if_pos h5]
  refine ⟨_, rfl, hk.1, hk.2, hp, ?_, upI_at _ _ _ _ _⟩
  rw [upI_nk _ _ _ _ (by decide), up_at]
theorem yt_5 {m : ev_M} {y : Yr} (h : YT β E m y) : m.1 112 5 = 0 ↔ y.isRight = true := by
  cases y with
  | inl e => exact ⟨fun q => absurd q (yr_bad h), fun q => by cases q⟩
  | inr x =>
    have h' : RT β E m x.1 x.2.1 := h
    exact ⟨fun _ => rfl, fun _ => h'.2.2.1⟩
/-- mood and cheer -/
theorem r_J60 {m : ev_M} {y : Yr} {v : Int64} {A : sp_A} (hf : 4000 ≤ f) (hw : WA m) (h : YT β E m y) (hA : RQA m A) (hT : A.1 < 8) : ∃ m', FX12_towerTold_J60 f v m = some ((), m') ∧ YT β E m' (ytN β E 0 9 (ytW β E 3 (ytN β E 0 9 (ytW β E 2 y)))) ∧ (∀ k, 8 ≤ k → m'.2 138 k = m.2 138 k) ∧ ((ytN β E 0 9 (ytW β E 3 (ytN β E 0 9 (ytW β E 2 y)))).isRight = true → ∀ g, NM g v → RQA m' (A.1 + 1, sp_up A.2.1 A.1 g, sp_up A.2.2.1 A.1 (Int32.ofNat (yval β E (ytW β E 2 y))), sp_up A.2.2.2.1 A.1 (Int32.ofNat (yval β E (ytW β E 3 (ytN β E 0 9 (ytW β E 2 y))))), sp_up A.2.2.2.2 A.1 false)) := by
  obtain ⟨m4, a1, a2⟩ := @rt_asksW f E β m y 117 hf hw (by decide) h
  rw [show wix 117 = 2 from by decide] at a2
  have d4 := rdo_asks a1
  obtain ⟨r5, m6, b1, b2, b3⟩ := @rt_num f E β m4 _ 0 9 hf (by omega) (by omega) a2
  have b1' : FX12_number f 0 9 m4 = some (r5, m6) := b1
  have d6 := rdo_tr d4 (rdo_num b1)
  obtain ⟨m8, c1, c2⟩ := @rt_asksW f E β m6 _ 118 hf (rdo_WA d6 hw) (by decide) b2
  rw [show wix 118 = 3 from by decide] at c2
  have d8 := rdo_tr d6 (rdo_asks c1)
  obtain ⟨r9, m10, e1, e2, e3⟩ := @rt_num f E β m8 _ 0 9 hf (by omega) (by omega) c2
  have e1' : FX12_number f 0 9 m8 = some (r9, m10) := e1
  have d10 := rdo_tr d8 (rdo_num e1)
  have hA10 := rdo_RQA d10 hA
  obtain ⟨q1, q2, q3⟩ := hA10
  unfold FX12_towerTold_J60
  rw [a1, bd_some, b1', bd_some, c1, bd_some, e1', bd_some]
  by_cases z : (ytN β E 0 9 (ytW β E 3 (ytN β E 0 9 (ytW β E 2 y)))).isRight = true
  rotate_left
  · rw [if_neg (fun q => z ((yt_5 e2).mp q))]
    exact ⟨m10, rfl, e2, fun k _ => (d10 _ _ (by omega)).2, fun q => absurd q z⟩
  rw [if_pos ((yt_5 e2).mpr z), q2]
  have i0 : (3 : Int32) * Int32.ofNat A.1 = Int32.ofNat (3 * A.1) := n_mul 3 _
  have i1 : (3 : Int32) * Int32.ofNat A.1 + 1 = Int32.ofNat (3 * A.1 + 1) := by rw [i0, s_1]
  have i2 : (3 : Int32) * Int32.ofNat A.1 + 2 = Int32.ofNat (3 * A.1 + 2) := by rw [i0]; exact n_add _ 2
  rw [i1, i2, i0, if_pos ((n_in (by omega)).mpr (by omega)), if_pos ((n_in (by omega)).mpr (by omega)), if_pos ((n_in (by omega)).mpr (by omega)), if_pos ((n_in (by omega)).mpr (by omega)), n_nat (by omega), n_nat (by omega), n_nat (by omega), n_nat (by omega), s_1]
  have g : ∀ a k, a ≠ 139 → ¬ (a = 112 ∧ k = 35) → ((ev_up (ev_up (ev_up (ev_up m10.1 139 (3 * A.1) r5) 139 (3 * A.1 + 1) r9) 139 (3 * A.1 + 2) 0) 112 35 (Int32.ofNat (A.1 + 1)), ev_up m10.2 138 A.1 v) : ev_M).1 a k = m10.1 a k := fun a k z1 z2 => by
    by_cases e : a = 112
    · subst e; rw [upI_nk _ _ _ _ (by omega), up_na _ _ _ _ (by decide), up_na _ _ _ _ (by decide), up_na _ _ _ _ (by decide)]
    · rw [upI_na _ _ _ _ e, ev_up_ne _ _ _ z1, ev_up_ne _ _ _ z1, ev_up_ne _ _ _ z1]
  have g139 : ∀ k, ((ev_up (ev_up (ev_up (ev_up m10.1 139 (3 * A.1) r5) 139 (3 * A.1 + 1) r9) 139 (3 * A.1 + 2) 0) 112 35 (Int32.ofNat (A.1 + 1)), ev_up m10.2 138 A.1 v) : ev_M).1 139 k = if k = 3 * A.1 + 2 then 0 else if k = 3 * A.1 + 1 then r9 else if k = 3 * A.1 then r5 else m10.1 139 k := fun k => by
    rw [upI_na _ _ _ _ (by decide), ev_up_at, ev_up_at, ev_up_at]
  refine ⟨_, rfl, YT_fr e2 (fun a k z => g a k (by omega) (by omega)), fun k hk => ?_, fun _ gg hg => ⟨by show A.1 + 1 ≤ 8; omega, upI_at _ _ _ _ _, fun t ht => ?_⟩⟩
  · show ev_up m10.2 138 A.1 v 138 k = _
    rw [up_nk _ _ _ (by omega)]; exact (d10 _ _ (by omega)).2
  · have ht' : t < A.1 + 1 := ht
    have h1 := W_right (N_right z)
    rw [g139, g139, g139]
    show NM (sp_up A.2.1 A.1 gg t) (ev_up m10.2 138 A.1 v 138 t) ∧ _ = sp_up A.2.2.1 A.1 _ t ∧ _ = sp_up A.2.2.2.1 A.1 _ t ∧ _ = if sp_up A.2.2.2.2 A.1 false t = true then 1 else 0
    by_cases e : t = A.1
    · subst e
      rw [sp_at, sp_at, sp_at, sp_at, up_at, if_neg (by omega), if_neg (by omega), if_pos rfl, if_neg (by omega), if_pos rfl, if_pos rfl, if_neg (by decide)]
      exact ⟨hg, b3 h1, e3 z, rfl⟩
    · rw [sp_ne _ _ e, sp_ne _ _ e, sp_ne _ _ e, sp_ne _ _ e, up_nk _ _ _ e, if_neg (by omega), if_neg (by omega), if_neg (by omega), if_neg (by omega), if_neg (by omega), if_neg (by omega), if_neg (by omega), if_neg (by omega), if_neg (by omega)]
      exact q3 t (by omega)
theorem N_inl {lo hi : Nat} {e : Nat × Nat} : ytN β E lo hi (.inl e) = .inl e := rfl
theorem W_inl {k : Nat} {e : Nat × Nat} : ytW β E k (.inl e) = .inl e := if_neg (fun q => by cases q)
theorem S_inl {c : Int32} {e : Nat × Nat} : ytS β E c (.inl e) = .inl e := if_neg (fun q => by cases q)
theorem r_tower {m : ev_M} {x : Nat × Bool × List Nat} {A : sp_A} {b : Int32} (hf : 4000 ≤ f) (hw : WA m) (h : YT β E m (.inr x)) (hA : RQA m A) (hT : A.1 < 8) : ∃ m', FX12_towerTold f b m = some ((), m') ∧ YT β E m' (yTow β E A x) ∧ (∀ k, 8 ≤ k → m'.2 138 k = m.2 138 k) ∧ ((yTow β E A x).isRight = true → RQA m' (aTow β E A x)) := by
  have h0 : RT β E m x.1 x.2.1 := h
  have hE := h0.1.1
  have hsk := sk_le (β := β) h0.2.1
  have h5 := h0.2.2.1
  unfold FX12_towerTold FX12_towerTold_J22
  rw [if_pos h5, hA.2.1, if_neg (fun q => by have := (n_is 8 8 rfl (by omega) (by omega)).mp q; omega), if_pos h5]
  obtain ⟨nr, nl⟩ := r_name (f := f) hf hw h
  cases hy : yNm β E x with
  | inl e =>
    have eT : yTow β E A x = .inl e := by unfold yTow; rw [hy]
    obtain ⟨v, m2, r1, r2⟩ := nl e hy
    have d2 := rdo_name r1
    obtain ⟨m3, s1, s2, s3, s4⟩ := @r_J60 f E β m2 (.inl e) v A hf (rdo_WA d2 hw) r2 (rdo_RQA d2 hA) hT
    rw [W_inl, N_inl, W_inl, N_inl] at s2
    rw [r1, bd_some, if_neg (yr_bad r2), s1, eT]
    exact ⟨m3, rfl, s2, fun k hk => by rw [s3 k hk]; exact (d2 _ _ (by omega)).2, fun q => by cases q⟩
  | inr x' =>
    obtain ⟨v, m2, r1, r2, r3, r4⟩ := nr x' hy
    have d2 := rdo_name r1
    have hA2 := rdo_RQA d2 hA
    have h52 : m2.1 112 5 = 0 := (yt_5 r2).mpr rfl
    rw [r1, bd_some, if_pos h52, r_nmOf hf hA2.1 hA2.2.1 (fun t ht => (hA2.2.2 t ht).1) r4, bd_some]
    cases hd : fnd A.1 A.2.1 (nmL β E x.1) with
    | some t =>
      have eT : yTow β E A x = .inl (3, sk β E x.1) := by unfold yTow; rw [hy]; show (match fnd A.1 A.2.1 (nmL β E x.1) with | some _ => _ | none => _) = _; rw [hd]
      have ht := (idx_some _ _ _ hd).2.1
      obtain ⟨m3, f1, f2⟩ := @r_failG f m2 3 (sk β E x.1) h52 (by omega) (by omega)
      have f1' : FX12_fail f 3 (m2.1 112 33) m2 = some ((), m3) := by rw [r3]; exact f1
      have d3 := rdo_tr d2 (rdo_fail f1)
      obtain ⟨m4, s1, s2, s3, s4⟩ := @r_J60 f E β m3 (.inl (3, sk β E x.1)) v A hf (rdo_WA d3 hw) f2 (rdo_RQA d3 hA) hT
      rw [W_inl, N_inl, W_inl, N_inl] at s2
      rw [show oi (some t) = Int32.ofNat t from rfl, if_neg (n_m1 (by omega)), f1', bd_some, s1, eT]
      exact ⟨m4, rfl, s2, fun k hk => by rw [s3 k hk]; exact (d3 _ _ (by omega)).2, fun q => by cases q⟩
    | none =>
      have eT : yTow β E A x = ytN β E 0 9 (yCh β E x) := by unfold yTow; rw [hy]; show (match fnd A.1 A.2.1 (nmL β E x.1) with | some _ => _ | none => _) = _; rw [hd]
      obtain ⟨m4, s1, s2, s3, s4⟩ := @r_J60 f E β m2 (yad β E (.inr x)) v A hf (rdo_WA d2 hw) r2 hA2 hT
      rw [show oi none = -1 from rfl, if_pos rfl, s1, eT]
      exact ⟨m4, rfl, s2, fun k hk => by rw [s3 k hk]; exact (d2 _ _ (by omega)).2, fun q => s4 q _ r4⟩
theorem r_yesT {m : ev_M} {x : Nat × Bool × List Nat} {A : sp_A} (hf : 4000 ≤ f) (hw : WA m) (h : YT β E m (.inr x)) (hA : RQA m A) : ∃ m', FX12_yesTold f m = some ((), m') ∧ YT β E m' (yYes β E A x) ∧ ((yYes β E A x).isRight = true → RQA m' (aYes β E A x)) := by
  have h0 : RT β E m x.1 x.2.1 := h
  have hE := h0.1.1
  have hsk := sk_le (β := β) h0.2.1
  unfold FX12_yesTold FX12_yesTold_J37
  obtain ⟨nr, nl⟩ := r_name (f := f) hf hw h
  cases hy : yNm β E x with
  | inl e =>
    have eT : yYes β E A x = .inl e := by unfold yYes; rw [hy]
    obtain ⟨v, m2, r1, r2⟩ := nl e hy
    have d2 := rdo_name r1
    have hA2 := rdo_RQA d2 hA
    obtain ⟨r, hr⟩ := @r_nmOf0 f m2 A.1 v hf hA2.1 hA2.2.1
    rw [r1, bd_some, hr, bd_some, if_neg (yr_bad r2), if_neg (yr_bad r2), eT]
    exact ⟨m2, rfl, r2, fun q => by cases q⟩
  | inr x' =>
    obtain ⟨v, m2, r1, r2, r3, r4⟩ := nr x' hy
    have d2 := rdo_name r1
    have hA2 := rdo_RQA d2 hA
    have h52 : m2.1 112 5 = 0 := (yt_5 r2).mpr rfl
    obtain ⟨m3, f1, f2⟩ := @r_failG f m2 3 (sk β E x.1) h52 (by omega) (by omega)
    have f1' : FX12_fail f 3 (m2.1 112 33) m2 = some ((), m3) := by rw [r3]; exact f1
    rw [r1, bd_some, r_nmOf hf hA2.1 hA2.2.1 (fun t ht => (hA2.2.2 t ht).1) r4, bd_some, if_pos h52, f1', bd_some, if_neg (yr_bad f2)]
    cases hd : fnd A.1 A.2.1 (nmL β E x.1) with
    | none =>
      have eT : yYes β E A x = .inl (3, sk β E x.1) := by unfold yYes; rw [hy]; show (match fnd A.1 A.2.1 (nmL β E x.1) with | none => _ | some t => _) = _; rw [hd]
      rw [show oi none = -1 from rfl, if_pos rfl, eT]
      exact ⟨m3, rfl, f2, fun q => by cases q⟩
    | some t =>
      have ht := (idx_some _ _ _ hd).2.1
      have eT : yYes β E A x = if A.2.2.2.2 t = true then .inl (3, sk β E x.1) else yad β E (.inr x) := by unfold yYes; rw [hy]; show (match fnd A.1 A.2.1 (nmL β E x.1) with | none => _ | some t => _) = _; rw [hd]
      obtain ⟨q1, q2, q3⟩ := hA2
      have i2 : (3 : Int32) * Int32.ofNat t + 2 = Int32.ofNat (3 * t + 2) := by rw [show (3 : Int32) * Int32.ofNat t = Int32.ofNat (3 * t) from n_mul 3 _]; exact n_add _ 2
      have hin : ev_in (Int32.ofNat (3 * t + 2)) 24 := (n_in (by omega)).mpr (by omega)
      rw [show oi (some t) = Int32.ofNat t from rfl, if_neg (n_m1 (by omega)), i2, if_pos hin, if_pos h52, if_pos hin, n_nat (by omega), (q3 t (by omega)).2.2.2, eT]
      by_cases z : A.2.2.2.2 t = true
      · rw [if_pos z, if_pos rfl, if_pos z]
        exact ⟨m3, rfl, f2, fun q => by cases q⟩
      · rw [if_neg z, if_neg (by decide), if_neg z]
        refine ⟨_, rfl, YT_fr r2 (fun a k z => by rw [upI_na _ _ _ _ (by omega)]), fun _ => ⟨q1, by rw [upI_na _ _ _ _ (by decide)]; exact q2, fun t' u => ?_⟩⟩
        have u' : t' < A.1 := u
        have qt := q3 t' u'
        refine ⟨qt.1, by rw [upI_nk _ _ _ _ (by omega)]; exact qt.2.1, by rw [upI_nk _ _ _ _ (by omega)]; exact qt.2.2.1, ?_⟩
        show ev_up m2.1 139 (3 * t + 2) 1 139 (3 * t' + 2) = if ((fnd A.1 A.2.1 (nmL β E x.1)).elim A.2.2.2.2 (fun t => sp_up A.2.2.2.2 t true)) t' = true then 1 else 0
        rw [hd]
        show _ = if sp_up A.2.2.2.2 t true t' = true then 1 else 0
        unfold sp_up
        by_cases e : t' = t
        · rw [if_pos e, e, up_at, if_pos rfl]
        · rw [if_neg e, up_nk _ _ _ (by omega)]; exact qt.2.2.2
end
