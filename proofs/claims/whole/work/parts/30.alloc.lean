/-! new objects and arrays; final fields -/
def ev_nS (S : ev_S) (c n : Nat) : ev_S := (S.1 + 1, fun i => if i = S.1 then (c, n) else S.2.1 i, S.2.2)
def ev_pS (S : ev_S) (a k b : Nat) : ev_S := (S.1, S.2.1, ev_up S.2.2 a k (some b))
def ev_dv (c j : Nat) : Value := if ev_dyn c j = true then .null else match ev_tys c j with
  | .long => .long 0
  | .object _ => .null
  | .array _ => .null
  | _ => .int 0
theorem ev_dv_ok : ∀ c, c < 13 → ∀ j, j < 104 → ev_dv c j = defaultValue (ev_tys c j) := by decide +kernel
theorem ev_nfields (c : Nat) (q : vw_C) (h : vwCl[c]? = some q) : q.2.2 ≤ 104 := by
  match c, h with
  | 0, h => cases h; decide
  | 1, h => cases h; decide
  | 2, h => cases h; decide
  | 3, h => cases h; decide
  | 4, h => cases h; decide
  | 5, h => cases h; decide
  | 6, h => cases h; decide
  | 7, h => cases h; decide
  | 8, h => cases h; decide
  | 9, h => cases h; decide
  | 10, h => cases h; decide
  | 11, h => cases h; decide
  | 12, h => cases h; decide
  | c + 13, h => simp [vwCl] at h
section EvAlloc
variable {l : Launch} {Ln : Nat} {xs : Nat → Int32} {Y : ev_Y} {d kc ks pc : Nat} {ls : List (Option Value)} {st : List Value} {S : ev_S} {m : ev_M} {P : Option Value → ev_S → ev_M → Prop}
theorem ev_R.push {D : va_G} {cA : Nat → ClassId} {base : Nat} {ext : Nat → Nat} {H H' : Heap} {c n : Nat} (hR : ev_R D cA base ext S m H) (hS : S.1 < 4000) (hz : H'.size = base + S.1 + 1) (ho : ∀ q, q < base + S.1 → H'[q]? = H[q]?) (hat : va_at D vwCl (base + S.1, ev_ent cA (ev_al base ext) (ev_nS S c n) m S.1) H') : ev_R D cA base ext (ev_nS S c n) m H' := by
  refine ⟨by rw [hz]; show _ = base + (S.1 + 1); omega, by show S.1 + 1 ≤ 4000; omega, fun i hi => ?_⟩
  have hi : i < S.1 + 1 := hi
  by_cases h : i = S.1
  · subst h; exact hat
  · have h1 := hR.2.2 i (by omega)
    have e1 : (ev_nS S c n).2.1 i = S.2.1 i := by show (if i = S.1 then (c, n) else S.2.1 i) = _; rw [if_neg h]
    have e : ev_ent cA (ev_al base ext) (ev_nS S c n) m i = ev_ent cA (ev_al base ext) S m i := by
      unfold ev_ent
      rw [e1]
      rfl
    rw [e]
    exact h1.kept (ho _ (by show base + i < base + S.1; omega))
theorem Wk.new {ci idx : Nat} {q : vw_C} (hq : vwCl[ci]? = some q) (hd : decode Y.2.1 pc = .ok (.new idx, 3)) (hl : Cond.classLink (ev_cn Y.2.2.2.2) idx q.1 ∈ lw_tbl) (hi : Cond.instantiable q.1 q.2.2 ∈ lw_tbl) (hn : Cond.initialized q.1 ∈ lw_tbl) (hS : S.1 < 4000) (hz1 : m.1 S.1 = fun _ => 0) (hz2 : m.2 S.1 = fun _ => 0) (hz3 : S.2.2 S.1 = fun _ => none) (hkc : 1 ≤ kc) (hks : q.2.2 ≤ ks)
    (kk : Wk l Ln xs Y d (kc - 1) (ks - q.2.2) (pc + 3) ls (.ref S.1 :: st) (ev_nS S ci q.2.2) m P) : Wk l Ln xs Y d kc ks pc ls st S m P := by
  intro D cA base ext p e R s mi args below meth c H locs cells slots als hC h1 h2 h3 h4 hR hF hL
  obtain ⟨hin, hty, hnm, h13⟩ := ev_cls_in ci q hq
  have hK := hC.2.2.2.2.2.2.2.2.1
  have hKn := hK.1 ci q hq
  have hts : ∀ w ∈ u_ws q.1 q.2.1 q.2.2, w.before args s = true := fun w hw => hC.word (hin w hw) (ev_u_ok hw) args
  refine W.newcK hC.1 hC.2.1 hC.2.2.2.2.2.1 (hC.word hl rfl args) (hC.word hi rfl args) (hC.word hn rfl args) rfl hd (by omega) (by omega) hKn.2.1 hR.1 fun H1 kC hkC e1 z1 o1 => ?_
  have hR' : ev_R D cA base ext (ev_nS S ci q.2.2) m H1 := by
    refine hR.push hS z1 o1 ?_
    have es : (ev_nS S ci q.2.2).2.1 S.1 = (ci, q.2.2) := by show (if S.1 = S.1 then (ci, q.2.2) else S.2.1 S.1) = _; rw [if_pos rfl]
    rw [ev_ent_o (by rw [es]; omega), es]
    refine ⟨q, hq, (u_born (ev_tys ci) hts (fun w h => h) hKn hkC e1 hty).to (fun j hj => ?_)⟩
    have hj104 := ev_nfields ci q hq
    unfold vp_V
    rw [List.getD_eq_getElem?_getD, ev_fs hj]
    rw [← ev_dv_ok ci h13 j (by omega)]
    unfold ev_dv ev_gv
    rw [hz1, hz2, show (ev_nS S ci q.2.2).2.2 S.1 = fun _ => none from hz3]
    by_cases hdy : ev_dyn ci j = true
    · rw [if_pos hdy, if_pos hdy]; rfl
    · rw [if_neg hdy, if_neg hdy]
      cases ev_tys ci j <;> rfl
  have k := kk D cA base ext p e R s mi args below meth c H1 locs (cells + 1) (slots + q.2.2) als hC h1 h2 (by omega) (by omega) hR' ⟨fun x hx => by rw [o1 x (by omega)]; exact hF.1 x hx, hF.2⟩ hL
  rw [show cells + 1 + (kc - 1) = cells + kc by omega, show slots + q.2.2 + (ks - q.2.2) = slots + ks by omega] at k
  rw [ev_ref, ev_al_in (by omega)] at k
  exact k
theorem Wk.newa {at_ : ArrayType} {n : Int32} {N tno code : Nat} {ty : FieldType} (hty : newarray.typeOf at_ = ty) (htc : (at_ = .int ∧ tno = 0 ∧ code = 100) ∨ (at_ = .char ∧ tno = 1 ∧ code = 101) ∨ (at_ = .long ∧ tno = 2 ∧ code = 102) ∨ (at_ = .boolean ∧ tno = 3 ∧ code = 103)) (hd : decode Y.2.1 pc = .ok (.newarray at_, 2)) (hl : Cond.arrayClass ty ∈ lw_tbl) (hn : ¬ n < 0) (hN : n.toNatClampNeg = N) (hN2 : N ≤ 10000) (hS : S.1 < 4000) (hz1 : m.1 S.1 = fun _ => 0) (hz2 : m.2 S.1 = fun _ => 0) (hkc : 1 ≤ kc) (hks : N ≤ ks)
    (kk : Wk l Ln xs Y d (kc - 1) (ks - N) (pc + 2) ls (.ref S.1 :: st) (ev_nS S code N) m P) : Wk l Ln xs Y d kc ks pc ls (.int n :: st) S m P := by
  intro D cA base ext p e R s mi args below meth c H locs cells slots als hC h1 h2 h3 h4 hR hF hL
  subst hty
  have hK := hC.2.2.2.2.2.2.2.2.1
  have hb : N * componentBytes (newarray.typeOf at_) ≤ 536870912 := by
    have : componentBytes (newarray.typeOf at_) ≤ 8 := by cases at_ <;> decide
    calc N * componentBytes (newarray.typeOf at_) ≤ 10000 * 8 := Nat.mul_le_mul hN2 this
      _ ≤ 536870912 := by decide
  rw [List.map_cons]
  refine va_newaK hC.1 hC.2.1 (hC.word hl rfl args) rfl hd rfl hn hN hb (by omega) (by omega) hR.1 fun H1 cB e1 z1 o1 hAr hNm => ?_
  have es : (ev_nS S code N).2.1 S.1 = (code, N) := by show (if S.1 = S.1 then (code, N) else S.2.1 S.1) = _; rw [if_pos rfl]
  have hR' : ev_R D cA base ext (ev_nS S code N) m H1 := by
    refine hR.push hS z1 o1 ?_
    rcases htc with ⟨rfl, rfl, rfl⟩ | ⟨rfl, rfl, rfl⟩ | ⟨rfl, rfl, rfl⟩ | ⟨rfl, rfl, rfl⟩
    · rw [ev_ent_i es, hz1]
      have hc : cB = cA 0 := Option.some.inj (hNm.symm.trans (hK.2 0 _ rfl).2)
      subst hc; exact e1
    · rw [ev_ent_c es, hz1]
      have hc : cB = cA 1 := Option.some.inj (hNm.symm.trans (hK.2 1 _ rfl).2)
      subst hc; exact e1
    · rw [ev_ent_l es, hz2]
      have hc : cB = cA 2 := Option.some.inj (hNm.symm.trans (hK.2 2 _ rfl).2)
      subst hc; exact e1
    · rw [ev_ent_z es, hz1]
      have hc : cB = cA 3 := Option.some.inj (hNm.symm.trans (hK.2 3 _ rfl).2)
      subst hc; exact e1
  have k := kk D cA base ext p e R s mi args below meth c H1 locs (cells + 1) (slots + N) als hC h1 h2 (by omega) (by omega) hR' ⟨fun x hx => by rw [o1 x (by omega)]; exact hF.1 x hx, hF.2⟩ hL
  rw [show cells + 1 + (kc - 1) = cells + kc by omega, show slots + N + (ks - N) = slots + ks by omega] at k
  rw [ev_ref, ev_al_in (by omega)] at k
  exact k
theorem Wk.anew {idx : Nat} {n : Int32} {N : Nat} (hd : decode Y.2.1 pc = .ok (.anewarray idx, 3)) (hl : Cond.classLink (ev_cn Y.2.2.2.2) idx "AllIsWell$State" ∈ lw_tbl) (ho : Cond.arrayOver (.object "AllIsWell$State") ∈ lw_tbl) (hn : ¬ n < 0) (hN : n.toNatClampNeg = N) (hN2 : N ≤ 10000) (hS : S.1 < 4000) (hz3 : S.2.2 S.1 = fun _ => none) (hkc : 1 ≤ kc) (hks : N ≤ ks)
    (kk : Wk l Ln xs Y d (kc - 1) (ks - N) (pc + 3) ls (.ref S.1 :: st) (ev_nS S 104 N) m P) : Wk l Ln xs Y d kc ks pc ls (.int n :: st) S m P := by
  intro D cA base ext p e R s mi args below meth c H locs cells slots als hC h1 h2 h3 h4 hR hF hL
  have hK := hC.2.2.2.2.2.2.2.2.1
  subst hN
  rw [List.map_cons]
  refine W.anew hC.1 hC.2.1 hC.2.2.2.2.2.1 (hC.word hl rfl args) (hC.word ho rfl args) rfl hd rfl hn (by omega) (by omega) (by omega) fun cB kA comp f1 f2 f3 f4 => ?_
  have es : (ev_nS S 104 n.toNatClampNeg).2.1 S.1 = (104, n.toNatClampNeg) := by show (if S.1 = S.1 then (104, n.toNatClampNeg) else S.2.1 S.1) = _; rw [if_pos rfl]
  have o1 : ∀ q, q < base + S.1 → (H.push { cls := cB, slots := Array.replicate n.toNatClampNeg .null, vm := .none })[q]? = H[q]? := fun q hq => by
    rw [Array.getElem?_push, if_neg (by have := hR.1; omega)]
  have hR' : ev_R D cA base ext (ev_nS S 104 n.toNatClampNeg) m (H.push { cls := cB, slots := Array.replicate n.toNatClampNeg .null, vm := .none }) := by
    refine hR.push hS (by rw [Array.size_push, hR.1]) o1 ?_
    rw [ev_ent_a es, show (ev_nS S 104 n.toNatClampNeg).2.2 S.1 = fun _ => none from hz3]
    obtain ⟨kA', comp', g1, g2, g3, g4⟩ := (hK.2 4 _ rfl).2
    have hc : cB = cA 4 := Option.some.inj (f1.symm.trans g4)
    subst hc
    show (H.push _)[base + S.1]? = some (vp_cell _ _)
    rw [← hR.1, vp_cell_q, ← arrV_new]
    simp [va_rf]
  have k := kk D cA base ext p e R s mi args below meth c _ locs (cells + 1) (slots + n.toNatClampNeg) als hC h1 h2 (by omega) (by omega) hR' ⟨fun x hx => by rw [o1 x (by omega)]; exact hF.1 x hx, hF.2⟩ hL
  rw [show cells + 1 + (kc - 1) = cells + kc by omega, show slots + n.toNatClampNeg + (ks - n.toNatClampNeg) = slots + ks by omega] at k
  rw [ev_ref, ev_al_in (by omega), ← hR.1] at k
  exact k
theorem ev_R.updS {D : va_G} {cA : Nat → ClassId} {base : Nat} {ext : Nat → Nat} {S' : ev_S} {H H' : Heap} (hR : ev_R D cA base ext S m H) {a : Nat} (hS1 : S'.1 = S.1) (hS2 : S'.2.1 = S.2.1) (hS3 : ∀ i, i ≠ a → S'.2.2 i = S.2.2 i) (hz : H'.size = H.size) (ho : ∀ q, q ≠ base + a → H'[q]? = H[q]?) (hat : a < S.1 → va_at D vwCl (base + a, ev_ent cA (ev_al base ext) S' m a) H') : ev_R D cA base ext S' m H' := by
  refine ⟨by rw [hz, hS1]; exact hR.1, by rw [hS1]; exact hR.2.1, fun i hi => ?_⟩
  rw [hS1] at hi
  by_cases h : i = a
  · subst h; exact hat hi
  · have h1 := hR.2.2 i hi
    have e : ev_ent cA (ev_al base ext) S' m i = ev_ent cA (ev_al base ext) S m i := by
      unfold ev_ent ev_gv
      rw [hS2, hS3 i h]
    rw [e]
    exact h1.kept (ho _ (by show base + i ≠ base + a; omega))
theorem Wk.putF {a b ci k idx : Nat} (hlk : ev_lk Y.2.2.2.2 idx = some (ci, k)) (hfin : ev_fin ci k = true) (hown : Y.2.2.2.2 = ci) (hnm : Y.1.name = "<init>") (hd : decode Y.2.1 pc = .ok (.putfield idx, 3)) (ha : a < S.1) (hs : (S.2.1 a).1 = ci) (hk : k < (S.2.1 a).2) (hdy : ev_dyn ci k = false) (hty : (∃ n, ev_tys ci k = .object n) ∨ ∃ t, ev_tys ci k = .array t)
    (kk : Wk l Ln xs Y d kc ks (pc + 3) ls st (ev_pS S a k b) m P) : Wk l Ln xs Y d kc ks pc ls (.ref b :: .ref a :: st) S m P := by
  intro D cA base ext p e R s mi args below meth c H locs cells slots als hC h1 h2 h3 h4 hR hF hL
  obtain ⟨q, hq, hkq, hw, hT⟩ := ev_lk_ok hlk
  obtain ⟨hin, hty2, hnm2, h13⟩ := ev_cls_in ci q hq
  have hat := hR.2.2 a ha
  rw [ev_ent_o (by rw [hs]; omega), hs] at hat
  have e1 : (List.map (ev_v (ev_al base ext)) (.ref b :: .ref a :: st)) = .ref (ev_al base ext b) :: .ref (base + a) :: st.map (ev_v (ev_al base ext)) := by
    rw [List.map_cons, List.map_cons]; rw [show ev_v (ev_al base ext) (.ref a) = .ref (ev_al base ext a) from rfl, hR.lt ha]; rfl
  rw [e1]
  have hts : ∀ w ∈ u_ws q.1 q.2.1 q.2.2, w.before args s = true := fun w hw => hC.word (hin w hw) (ev_u_ok hw) args
  have hK := hC.2.2.2.2.2.2.2.2.1
  have hap := va_apart (D := D) (cl := vwCl) (tys := ev_ty cA) (own := q.1) hts (fun w h => h) (ev_tys ci) hty2 hnm2 hK hq
  obtain ⟨r, g1, cell, q1, q2, q3, q4⟩ := hat
  dsimp only at g1 q1 q2 q4
  have hr : r = q := Option.some.inj (g1.symm.trans hq)
  subst hr
  obtain ⟨hSl, hfc, kC, hkC, hkind⟩ := hK.1 ci _ hq
  obtain ⟨cf, kf, fi, f, hi, hsl⟩ := hSl k hkq
  have hlay := hts _ (u_in_lay hkq)
  unfold u_lay at hlay
  have hfin' : (r.2.1 k).2.2.2 = true := by unfold ev_fin at hfin; rw [hq] at hfin; exact hfin
  rw [if_pos hfin'] at hlay
  have hst := (u_facts hfc hkC (u_lays hts (fun w h => h) hkq) hi).1
  have hcf : mi.cls = cf := by
    obtain ⟨_, _, c', _, _, _, -, -, hf', -, -, -, hown2, -⟩ := Cond.laysFinal_spec hlay
    have e1 : c' = cf := by have := hi.symm.trans hf'; simp at this; exact this.1.symm
    rw [hT, ev_cn_cls hq, ← hown] at hown2
    rw [← e1]; exact Option.some.inj (hC.2.2.2.2.2.1.symm.trans hown2)
  have hnr : narrow (ev_tys ci k) (.ref (ev_al base ext b)) = .ref (ev_al base ext b) := by rcases hty with ⟨n, h⟩ | ⟨t, h⟩ <;> (rw [h]; rfl)
  have hfi : fits (ev_tys ci k) (.ref (ev_al base ext b)) = true := by rcases hty with ⟨n, h⟩ | ⟨t, h⟩ <;> (rw [h]; rfl)
  have h6 := u_fits hfc hkC hkind (Or.inr hlay) hi (hty2 k hkq) hnr hfi
  refine W.putFinK hC.1 hC.2.1 (f := f) (own := ev_cn Y.2.2.2.2) (ref := r.1) (index := idx) hC.2.2.2.2.2.1 (hC.word hw rfl args) (by rw [hT] at hi; exact hi) hst hcf (hC.2.2.2.2.2.2.1.trans hnm) (by rw [q2]; exact h6) q1 q3 (by rw [hsl]; exact k2_hasslot (q4 k hkq)) rfl rfl hd fun H' e1 e2 e3 => ?_
  rw [hsl] at e1 ⊢
  have e3 : ∀ q : Nat, q ≠ base + a → H'[q]? = H[q]? := e3
  have hR' : ev_R D cA base ext (ev_pS S a k b) m H' := by
    refine hR.updS (a := a) rfl rfl (fun i hi => ev_up_ne _ _ _ hi) e2 e3 (fun _ => ?_)
    have es : (ev_pS S a k b).2.1 a = S.2.1 a := rfl
    rw [ev_ent_o (by rw [es, hs]; omega), es, hs]
    refine ⟨r, hq, t_OB.to (V := updV (vp_V ((List.range (S.2.1 a).2).map (fun k => ev_v (ev_al base ext) (ev_gv S m ci a k)))) k (.ref (ev_al base ext b))) ⟨_, e1, q2, q3, t_set q4 hap hkq _⟩ (fun j hj => ?_)⟩
    have hgv : ∀ j, ev_gv (ev_pS S a k b) m ci a j = if j = k then .ref b else ev_gv S m ci a j := by
      intro j
      unfold ev_gv
      rw [show (ev_pS S a k b).2.2 a j = if j = k then some b else S.2.2 a j from ev_up_at _ _ _ _ _]
      by_cases hjk : j = k
      · subst hjk
        rw [if_neg (by rw [hdy]; decide), if_pos rfl]
        rcases hty with ⟨n, h⟩ | ⟨t, h⟩ <;> (rw [h]; simp [va_rf])
      · simp [hjk]
    unfold updV vp_V
    rw [List.getD_eq_getElem?_getD, List.getD_eq_getElem?_getD]
    by_cases hjn : j < (S.2.1 a).2
    · rw [ev_fs hjn, ev_fs hjn, hgv j]
      by_cases hjk : j = k
      · rw [if_pos hjk, if_pos hjk]; rfl
      · rw [if_neg hjk, if_neg hjk]
    · rw [if_neg (by omega)]
      simp [List.getElem?_map, List.getElem?_range, hjn]
  exact kk D cA base ext p e R s mi args below meth c H' _ cells slots als hC h1 h2 h3 h4 hR' ⟨fun x hx => by rw [e3 x (by omega)]; exact hF.1 x hx, fun x hx => by
    rcases List.mem_append.mp hx with h | h
    · exact hF.2 x h
    · rw [List.mem_singleton.mp h]; exact Nat.le_add_right _ _⟩ hL
theorem Wk.aast {a b n : Nat} {i : Int32} (hd : decode Y.2.1 pc = .ok (.aastore, 1)) (ha : a < S.1) (hs : S.2.1 a = (104, n)) (hb : b < S.1) (hsb : (S.2.1 b).1 = 8) (hi : ev_in i n) (kk : Wk l Ln xs Y d kc ks (pc + 1) ls st (ev_pS S a i.toNatClampNeg b) m P) : Wk l Ln xs Y d kc ks pc ls (.ref b :: .int i :: .ref a :: st) S m P := by
  intro D cA base ext p e R s mi args below meth c H locs cells slots als hC h1 h2 h3 h4 hR hF hL
  have hat := hR.2.2 a ha
  rw [ev_ent_a hs] at hat
  have hatb := hR.2.2 b hb
  rw [ev_ent_o (by rw [hsb]; omega), hsb] at hatb
  have hK := hC.2.2.2.2.2.2.2.2.1
  have e1 : (List.map (ev_v (ev_al base ext)) (.ref b :: .int i :: .ref a :: st)) = .ref (base + b) :: .int i :: .ref (base + a) :: st.map (ev_v (ev_al base ext)) := by
    rw [List.map_cons, List.map_cons, List.map_cons]; rw [show ev_v (ev_al base ext) (.ref a) = .ref (ev_al base ext a) from rfl, hR.lt ha, show ev_v (ev_al base ext) (.ref b) = .ref (ev_al base ext b) from rfl, hR.lt hb]; rfl
  rw [e1]
  obtain ⟨r', hr', cellV, g1, g2, g3, -⟩ := hatb
  dsimp only at hr' g1 g2
  have hcls := (hK.1 8 r' hr').2
  obtain ⟨kA, comp, k1, k2, k3, -⟩ := (hK.2 4 _ rfl).2
  have hr8 : r'.1 = "AllIsWell$State" := by cases hr'; rfl
  have hcomp : comp = D.1 8 := Option.some.inj (k3.symm.trans (by rw [hr8] at hcls; exact hcls.1))
  subst hcomp
  obtain ⟨kC, hkC, -⟩ := id hcls.2
  refine W.aast hC.1 hC.2.1 hat (fun q h => by cases h) (fun h => by cases h) k1 k2 rfl hkC ⟨Int32.not_lt.mpr hi.1, by show _ < (arrV _ _ _).slots.size; rw [arrV_size]; exact hi.2⟩ g1 (fun q h => by rw [g3] at h; cases h) (by rw [g2]; exact hkC) (by rw [g2]; exact va_assign hcls) rfl rfl hd fun H' e1 e2 e3 => ?_
  have e3 : ∀ q : Nat, q ≠ base + a → H'[q]? = H[q]? := e3
  have hR' : ev_R D cA base ext (ev_pS S a i.toNatClampNeg b) m H' := by
    refine hR.updS (a := a) rfl rfl (fun j hj => ev_up_ne _ _ _ hj) e2 e3 (fun _ => ?_)
    rw [ev_ent_a (show (ev_pS S a i.toNatClampNeg b).2.1 a = (104, n) from hs)]
    show H'[base + a]? = some (vp_cell _ _)
    rw [e1, vp_cell_q, vp_cell_q, arrV_store]
    congr 2
    funext q
    have hgq : (ev_pS S a i.toNatClampNeg b).2.2 a q = if q = i.toNatClampNeg then some b else S.2.2 a q := ev_up_at _ _ _ _ _
    by_cases hq : q = i.toNatClampNeg
    · rw [hgq, if_pos hq]; simp [updV, hq, va_rf, hR.lt hb]
    · rw [hgq, if_neg hq]; simp [updV, hq]
  exact kk D cA base ext p e R s mi args below meth c H' _ cells slots als hC h1 h2 h3 h4 hR' ⟨fun x hx => by rw [e3 x (by omega)]; exact hF.1 x hx, fun x hx => by
    rcases List.mem_append.mp hx with h | h
    · exact hF.2 x h
    · rw [List.mem_singleton.mp h]; exact Nat.le_add_right _ _⟩ hL
theorem Wk.nul (hd : decode Y.2.1 pc = .ok (.aconst_null, 1)) (kk : Wk l Ln xs Y d kc ks (pc + 1) ls (.null :: st) S m P) : Wk l Ln xs Y d kc ks pc ls st S m P := by
  intro D cA base ext p e R s mi args below meth c H locs cells slots als hC h1 h2 h3 h4 hR hF hL
  exact lv_null hC.1 hC.2.1 hd (kk D cA base ext p e R s mi args below meth c H locs cells slots als hC h1 h2 h3 h4 hR hF hL)
/-- null laid into a field that moves and holds null -/
theorem Wk.putN {a ci k idx : Nat} (hlk : ev_lk Y.2.2.2.2 idx = some (ci, k)) (hfin : ev_fin ci k = false) (hd : decode Y.2.1 pc = .ok (.putfield idx, 3)) (ha : a < S.1) (hs : (S.2.1 a).1 = ci) (hk : k < (S.2.1 a).2) (hdy : ev_dyn ci k = true) (hz : m.1 a k = 0) (kk : Wk l Ln xs Y d kc ks (pc + 3) ls st S m P) : Wk l Ln xs Y d kc ks pc ls (.null :: .ref a :: st) S m P := by
  obtain ⟨n, ht⟩ := ev_dyn_ty hdy
  refine Wk.putf (v := .null) (m' := m) hlk hfin hd ha hs hk (fun i _ => ⟨rfl, rfl⟩) (fun j _ => ?_) (fun al => by rw [ht]; rfl) (fun al => by rw [ht]; rfl) kk
  by_cases hj : j = k
  · subst hj
    rw [if_pos rfl]
    unfold ev_gv
    rw [if_pos hdy, if_pos hz]
  · rw [if_neg hj]
theorem Wk.putD {a ci k idx b : Nat} (hlk : ev_lk Y.2.2.2.2 idx = some (ci, k)) (hfin : ev_fin ci k = false) (hd : decode Y.2.1 pc = .ok (.putfield idx, 3)) (ha : a < S.1) (hs : (S.2.1 a).1 = ci) (hk : k < (S.2.1 a).2) (hdy : ev_dyn ci k = true) (h0 : 0 < b) (h1 : b < 4000) (kk : Wk l Ln xs Y d kc ks (pc + 3) ls st S (ev_up m.1 a k (Int32.ofNat b), m.2) P) : Wk l Ln xs Y d kc ks pc ls (.ref b :: .ref a :: st) S m P := by
  obtain ⟨n, ht⟩ := ev_dyn_ty hdy
  exact Wk.putf (m' := (ev_up m.1 a k (Int32.ofNat b), m.2)) hlk hfin hd ha hs hk (fun i hi => ⟨ev_up_ne _ _ _ hi, rfl⟩) (fun j _ => ev_gv_dyn S m _ _ _ _ hdy h0 h1 j) (fun al => by rw [ht]; rfl) (fun al => by rw [ht]; rfl) kk
end EvAlloc
