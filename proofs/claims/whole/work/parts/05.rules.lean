/-! one rule an instruction, over the small states -/
def ev_up {α : Type} (f : Nat → Nat → α) (a k : Nat) (v : α) : Nat → Nat → α := fun i => if i = a then (fun j => if j = k then v else f i j) else f i
theorem ev_up_ne {α : Type} (f : Nat → Nat → α) {a i : Nat} (k : Nat) (v : α) (h : i ≠ a) : ev_up f a k v i = f i := by
  unfold ev_up; rw [if_neg h]
theorem ev_up_at {α : Type} (f : Nat → Nat → α) (a k : Nat) (v : α) (j : Nat) : ev_up f a k v a j = if j = k then v else f a j := by
  unfold ev_up; rw [if_pos rfl]
theorem ev_al_in {base : Nat} {ext : Nat → Nat} {i : Nat} (h : i < 5000) : ev_al base ext i = base + i := by
  unfold ev_al; rw [if_neg (by omega)]
theorem ev_R.lt {D : va_G} {cA : Nat → ClassId} {base : Nat} {ext : Nat → Nat} {S : ev_S} {m : ev_M} {H : Heap} (hR : ev_R D cA base ext S m H) {a : Nat} (ha : a < S.1) : ev_al base ext a = base + a := ev_al_in (by have := hR.2.1; omega)
theorem ev_ent_o {cA : Nat → ClassId} {al : Nat → Nat} {S : ev_S} {m : ev_M} {i : Nat} (h : (S.2.1 i).1 < 100) : ev_ent cA al S m i = .inr ((S.2.1 i).1, (List.range (S.2.1 i).2).map (fun k => ev_v al (ev_gv S m (S.2.1 i).1 i k))) := by
  unfold ev_ent; rw [if_pos h]
theorem ev_fs {al : Nat → Nat} {S : ev_S} {m : ev_M} {c i k n : Nat} (h : k < n) : ((List.range n).map (fun k => ev_v al (ev_gv S m c i k)))[k]? = some (ev_v al (ev_gv S m c i k)) := by
  rw [List.getElem?_map, List.getElem?_range h]; rfl
theorem ev_R.upd {D : va_G} {cA : Nat → ClassId} {base : Nat} {ext : Nat → Nat} {S : ev_S} {m m' : ev_M} {H H' : Heap} (hR : ev_R D cA base ext S m H) {a : Nat} (hm : ∀ i, i ≠ a → m'.1 i = m.1 i ∧ m'.2 i = m.2 i) (hz : H'.size = H.size) (ho : ∀ q, q ≠ base + a → H'[q]? = H[q]?) (hat : a < S.1 → va_at D vwCl (base + a, ev_ent cA (ev_al base ext) S m' a) H') : ev_R D cA base ext S m' H' := by
  refine ⟨hz.trans hR.1, hR.2.1, fun i hi => ?_⟩
  by_cases h : i = a
  · subst h; exact hat hi
  · have h1 := hR.2.2 i hi
    have e : ev_ent cA (ev_al base ext) S m' i = ev_ent cA (ev_al base ext) S m i := by
      obtain ⟨e1, e2⟩ := hm i h
      unfold ev_ent ev_gv
      rw [e1, e2]
    rw [e]
    exact h1.kept (ho _ (by show base + i ≠ base + a; omega))
section EvRules
variable {l : Launch} {Ln : Nat} {xs : Nat → Int32} {Y : ev_Y} {d kc ks pc : Nat} {ls : List (Option Value)} {st : List Value} {S : ev_S} {m : ev_M} {P : Option Value → ev_S → ev_M → Prop}
theorem Wk.le {ls' : List (Option Value)} (h : ev_le ls' ls) (k : Wk l Ln xs Y d kc ks pc ls' st S m P) : Wk l Ln xs Y d kc ks pc ls st S m P :=
  fun D cA base ext p e R s mi args below meth c H locs cells slots als hC h1 h2 h3 h4 hR hF hL => k D cA base ext p e R s mi args below meth c H locs cells slots als hC h1 h2 h3 h4 hR hF (hL.le h)
theorem Wk.post {P' : Option Value → ev_S → ev_M → Prop} (h : ∀ v S m, P' v S m → P v S m) (k : Wk l Ln xs Y d kc ks pc ls st S m P') : Wk l Ln xs Y d kc ks pc ls st S m P := by
  intro D cA base ext p e R s mi args below meth c H locs cells slots als hC h1 h2 h3 h4 hR hF hL T hT X
  obtain ⟨t, a, o, b1, b2, ⟨v, S', m', q1, q2, q3⟩, b4⟩ := k D cA base ext p e R s mi args below meth c H locs cells slots als hC h1 h2 h3 h4 hR hF hL T hT X
  exact ⟨t, a, o, b1, b2, ⟨v, S', m', q1, h _ _ _ q2, q3⟩, b4⟩
abbrev ev_I : Type := Instr × Nat × Nat × Int32 × Int64
def ev_ld (ls : List (Option Value)) (i : Nat) : Value := match ls[i]? with
  | some (some v) => v
  | _ => .retAddr 0
def ev_fin (c k : Nat) : Bool := match vwCl[c]? with
  | some q => (q.2.1 k).2.2.2
  | none => true
/-- the instructions that ask nothing of numbers that aren't known -/
def ev_stp (n : Nat) (S : ev_S) (x : ev_I) (ls : List (Option Value)) (st : List Value) (m : ev_M) : Option (List (Option Value) × List Value × ev_M) :=
  match x.1 with
  | .iconst _ => some (ls, .int x.2.2.2.1 :: st, m)
  | .bipush _ => some (ls, .int x.2.2.2.1 :: st, m)
  | .sipush _ => some (ls, .int x.2.2.2.1 :: st, m)
  | .ldc _ => some (ls, .int x.2.2.2.1 :: st, m)
  | .ldc_w _ => some (ls, .int x.2.2.2.1 :: st, m)
  | .lconst _ => some (ls, .long x.2.2.2.2 :: st, m)
  | .ldc2_w _ => some (ls, .long x.2.2.2.2 :: st, m)
  | .iload i => match ev_ld ls i with
    | .int v => some (ls, .int v :: st, m)
    | _ => none
  | .iload_n i => match ev_ld ls i with
    | .int v => some (ls, .int v :: st, m)
    | _ => none
  | .lload i => match ev_ld ls i with
    | .long v => some (ls, .long v :: st, m)
    | _ => none
  | .lload_n i => match ev_ld ls i with
    | .long v => some (ls, .long v :: st, m)
    | _ => none
  | .aload i => match ev_ld ls i with
    | .ref v => some (ls, .ref v :: st, m)
    | _ => none
  | .aload_n i => match ev_ld ls i with
    | .ref v => some (ls, .ref v :: st, m)
    | _ => none
  | .istore i => match st with
    | .int v :: st => if i < n then some (ev_st1 ls i (.int v), st, m) else none
    | _ => none
  | .istore_n i => match st with
    | .int v :: st => if i < n then some (ev_st1 ls i (.int v), st, m) else none
    | _ => none
  | .lstore i => match st with
    | .long v :: st => if i + 1 < n then some (ev_st2 ls i (.long v), st, m) else none
    | _ => none
  | .lstore_n i => match st with
    | .long v :: st => if i + 1 < n then some (ev_st2 ls i (.long v), st, m) else none
    | _ => none
  | .astore i => match st with
    | .ref v :: st => if i < n then some (ev_st1 ls i (.ref v), st, m) else none
    | _ => none
  | .astore_n i => match st with
    | .ref v :: st => if i < n then some (ev_st1 ls i (.ref v), st, m) else none
    | _ => none
  | .iinc i _ => match ev_ld ls i with
    | .int v => if i < n then some (ev_st1 ls i (.int (v + x.2.2.2.1)), st, m) else none
    | _ => none
  | .iadd => match st with
    | .int b :: .int a :: st => some (ls, .int (a + b) :: st, m)
    | _ => none
  | .isub => match st with
    | .int b :: .int a :: st => some (ls, .int (a - b) :: st, m)
    | _ => none
  | .imul => match st with
    | .int b :: .int a :: st => some (ls, .int (a * b) :: st, m)
    | _ => none
  | .iand => match st with
    | .int b :: .int a :: st => some (ls, .int (a &&& b) :: st, m)
    | _ => none
  | .ior => match st with
    | .int b :: .int a :: st => some (ls, .int (a ||| b) :: st, m)
    | _ => none
  | .ixor => match st with
    | .int b :: .int a :: st => some (ls, .int (a ^^^ b) :: st, m)
    | _ => none
  | .ishl => match st with
    | .int b :: .int a :: st => some (ls, .int (a <<< (b &&& 31)) :: st, m)
    | _ => none
  | .ishr => match st with
    | .int b :: .int a :: st => some (ls, .int (a >>> (b &&& 31)) :: st, m)
    | _ => none
  | .iushr => match st with
    | .int b :: .int a :: st => some (ls, .int (a.toUInt32 >>> (b.toUInt32 &&& Int32.toUInt32 31)).toInt32 :: st, m)
    | _ => none
  | .ladd => match st with
    | .long b :: .long a :: st => some (ls, .long (a + b) :: st, m)
    | _ => none
  | .lsub => match st with
    | .long b :: .long a :: st => some (ls, .long (a - b) :: st, m)
    | _ => none
  | .lmul => match st with
    | .long b :: .long a :: st => some (ls, .long (a * b) :: st, m)
    | _ => none
  | .land => match st with
    | .long b :: .long a :: st => some (ls, .long (a &&& b) :: st, m)
    | _ => none
  | .lcmp => match st with
    | .long b :: .long a :: st => some (ls, .int (lg_cmp a b) :: st, m)
    | _ => none
  | .i2l => match st with
    | .int a :: st => some (ls, .long a.toInt64 :: st, m)
    | _ => none
  | .l2i => match st with
    | .long a :: st => some (ls, .int a.toInt32 :: st, m)
    | _ => none
  | .dup => match st with
    | .int a :: st => some (ls, .int a :: .int a :: st, m)
    | .ref a :: st => some (ls, .ref a :: .ref a :: st, m)
    | _ => none
  | .dup2 => match st with
    | .int b :: .ref a :: st => some (ls, .int b :: .ref a :: .int b :: .ref a :: st, m)
    | .int b :: .int a :: st => some (ls, .int b :: .int a :: .int b :: .int a :: st, m)
    | .long a :: st => some (ls, .long a :: .long a :: st, m)
    | _ => none
  | .pop => match st with
    | .int _ :: st => some (ls, st, m)
    | .ref _ :: st => some (ls, st, m)
    | _ => none
  | .getfield _ => match st with
    | .ref a :: st => if a < S.1 ∧ (S.2.1 a).1 = x.2.1 ∧ x.2.2.1 < (S.2.1 a).2 then some (ls, ev_gv S m x.2.1 a x.2.2.1 :: st, m) else none
    | _ => none
  | .putfield _ => match st with
    | .int v :: .ref a :: st => if a < S.1 ∧ (S.2.1 a).1 = x.2.1 ∧ x.2.2.1 < (S.2.1 a).2 then (match ev_tys x.2.1 x.2.2.1 with
      | .int => some (ls, st, (ev_up m.1 a x.2.2.1 v, m.2))
      | .boolean => if v = 0 ∨ v = 1 then some (ls, st, (ev_up m.1 a x.2.2.1 v, m.2)) else none
      | _ => none) else none
    | .long v :: .ref a :: st => if a < S.1 ∧ (S.2.1 a).1 = x.2.1 ∧ x.2.2.1 < (S.2.1 a).2 then (match ev_tys x.2.1 x.2.2.1 with
      | .long => some (ls, st, (m.1, ev_up m.2 a x.2.2.1 v))
      | _ => none) else none
    | _ => none
  | .arraylength => match st with
    | .ref a :: st => if a < S.1 ∧ 100 ≤ (S.2.1 a).1 then some (ls, .int (Int32.ofNat (S.2.1 a).2) :: st, m) else none
    | _ => none
  | _ => none
def ev_ln : Instr → Nat
  | .bipush _ | .ldc _ | .iload _ | .lload _ | .aload _ | .istore _ | .lstore _ | .astore _ => 2
  | .sipush _ | .ldc_w _ | .ldc2_w _ | .iinc _ _ | .getfield _ | .putfield _ => 3
  | _ => 1
def ev_okA (own : Nat) (x : ev_I) : Bool := match x.1 with
  | .iconst n => decide (Int32.ofInt n = x.2.2.2.1)
  | .bipush n => decide ((Int8.ofInt n).toInt32 = x.2.2.2.1)
  | .sipush n => decide ((Int16.ofInt n).toInt32 = x.2.2.2.1)
  | .iinc _ n => decide (Int32.ofInt n = x.2.2.2.1)
  | .lconst n => decide (Int64.ofNat n.val = x.2.2.2.2)
  | .ldc i => decide (Cond.constant (ev_cn own) i x.2.2.2.1 ∈ lw_tbl)
  | .ldc_w i => decide (Cond.constant (ev_cn own) i x.2.2.2.1 ∈ lw_tbl)
  | .ldc2_w i => decide (Cond.constantLong (ev_cn own) i x.2.2.2.2 ∈ lw_tbl)
  | .getfield i => decide (ev_lk own i = some (x.2.1, x.2.2.1))
  | .putfield i => decide (ev_lk own i = some (x.2.1, x.2.2.1)) && !ev_fin x.2.1 x.2.2.1
  | _ => true
/-- a field is read -/
theorem Wk.getf {a ci k idx : Nat} (hlk : ev_lk Y.2.2.2.2 idx = some (ci, k)) (hd : decode Y.2.1 pc = .ok (.getfield idx, 3)) (ha : a < S.1) (hs : (S.2.1 a).1 = ci) (hk : k < (S.2.1 a).2) (kk : Wk l Ln xs Y d kc ks (pc + 3) ls (ev_gv S m ci a k :: st) S m P) : Wk l Ln xs Y d kc ks pc ls (.ref a :: st) S m P := by
  intro D cA base ext p e R s mi args below meth c H locs cells slots als hC h1 h2 h3 h4 hR hF hL
  obtain ⟨q, hq, hkq, hw, hT⟩ := ev_lk_ok hlk
  obtain ⟨hin, hty, hnm, h13⟩ := ev_cls_in ci q hq
  have hat := hR.2.2 a ha
  rw [ev_ent_o (by rw [hs]; omega)] at hat
  have e1 : (List.map (ev_v (ev_al base ext)) (.ref a :: st)) = .ref (base + a) :: st.map (ev_v (ev_al base ext)) := by
    rw [List.map_cons]; unfold ev_v; rw [← hR.lt ha]
  rw [e1]
  have hts : ∀ w ∈ u_ws q.1 q.2.1 q.2.2, w.before args s = true := fun w hw => hC.2.2.2.2.2.2.2.1.at (hin w hw) (ev_u_ok hw) args
  refine va_get (D := D) (cl := vwCl) (tys := ev_ty cA) (ws := [(base + a, .inr (ci, (List.range (S.2.1 a).2).map (fun k => ev_v (ev_al base ext) (ev_gv S m (S.2.1 a).1 a k))))]) (C := q.1) (T := q.2.1) (N := q.2.2) (own := ev_cn Y.2.2.2.2) (ref := q.1) (index := idx) hC.1 hC.2.1 hts (fun w h => h) hC.2.2.2.2.2.1 hC.2.2.2.2.2.2.2.2.1 ?_ 0 rfl hq k hkq ?_ ?_ (v := ev_v (ev_al base ext) (ev_gv S m ci a k)) ?_ hd ?_
  · intro j x hj
    cases j with
    | zero => cases hj; rw [← hs]; rw [hs]; rw [hs] at hat; exact hat
    | succ j => simp at hj
  · exact hC.2.2.2.2.2.2.2.1.at hw rfl args
  · intro x hx; rw [hT] at hx; exact hx
  · rw [hs]; exact ev_fs hk
  · exact kk D cA base ext p e R s mi args below meth c H locs cells slots als hC h1 h2 h3 h4 hR hF hL
theorem ev_C.word {D : va_G} {cA : Nat → ClassId} {base : Nat} {ext : Nat → Nat} {p : Program} {s : State} {mi : MethodId} {meth : Method} {c : Code} (hC : ev_C D cA base ext Ln xs Y p s mi meth c) {w : Cond} (hw : w ∈ lw_tbl) (hk : ev_ok w = true) (args : Array Value) : w.before args s = true := hC.2.2.2.2.2.2.2.1.at hw hk args
/-- a field is written: what it holds is said by the new memory -/
theorem Wk.putf {a ci k idx : Nat} {v : Value} {m' : ev_M} (hlk : ev_lk Y.2.2.2.2 idx = some (ci, k)) (hfin : ev_fin ci k = false) (hd : decode Y.2.1 pc = .ok (.putfield idx, 3)) (ha : a < S.1) (hs : (S.2.1 a).1 = ci) (hk : k < (S.2.1 a).2)
    (hm : ∀ i, i ≠ a → m'.1 i = m.1 i ∧ m'.2 i = m.2 i) (hv : ∀ j, j < (S.2.1 a).2 → ev_gv S m' ci a j = if j = k then v else ev_gv S m ci a j)
    (hn : ∀ al : Nat → Nat, narrow (ev_tys ci k) (ev_v al v) = ev_v al v) (hf : ∀ al : Nat → Nat, fits (ev_tys ci k) (ev_v al v) = true)
    (kk : Wk l Ln xs Y d kc ks (pc + 3) ls st S m' P) : Wk l Ln xs Y d kc ks pc ls (v :: .ref a :: st) S m P := by
  intro D cA base ext p e R s mi args below meth c H locs cells slots als hC h1 h2 h3 h4 hR hF hL
  obtain ⟨q, hq, hkq, hw, hT⟩ := ev_lk_ok hlk
  obtain ⟨hin, hty, hnm, h13⟩ := ev_cls_in ci q hq
  have hat := hR.2.2 a ha
  rw [ev_ent_o (by rw [hs]; omega), hs] at hat
  have e1 : (List.map (ev_v (ev_al base ext)) (v :: .ref a :: st)) = ev_v (ev_al base ext) v :: .ref (base + a) :: st.map (ev_v (ev_al base ext)) := by
    rw [List.map_cons, List.map_cons]; rw [show ev_v (ev_al base ext) (.ref a) = .ref (ev_al base ext a) from rfl, hR.lt ha]
  rw [e1]
  have hts : ∀ w ∈ u_ws q.1 q.2.1 q.2.2, w.before args s = true := fun w hw => hC.word (hin w hw) (ev_u_ok hw) args
  have hK := hC.2.2.2.2.2.2.2.2.1
  have hap := va_apart (D := D) (cl := vwCl) (tys := ev_ty cA) (own := q.1) hts (fun w h => h) (ev_tys ci) hty hnm hK hq
  obtain ⟨r, g1, cell, q1, q2, q3, q4⟩ := hat
  dsimp only at g1 q1 q2 q4
  have hr : r = q := Option.some.inj (g1.symm.trans hq)
  subst hr
  obtain ⟨hSl, hfc, kC, hkC, hkind⟩ := hK.1 ci _ hq
  obtain ⟨cf, kf, fi, f, hi, hsl⟩ := hSl k hkq
  have hlay := hts _ (u_in_lay hkq)
  unfold u_lay at hlay
  have hfin' : (r.2.1 k).2.2.2 = false := by unfold ev_fin at hfin; rw [hq] at hfin; exact hfin
  rw [if_neg (by rw [hfin']; decide)] at hlay
  have hst := (u_facts hfc hkC (u_lays hts (fun w h => h) hkq) hi).1
  have h6 := u_store (v := ev_v (ev_al base ext) v) hfc hkC hkind hlay hi (hty k hkq) (hn _) (hf _)
  refine W.putK hC.1 hC.2.1 (f := f) (own := ev_cn Y.2.2.2.2) (ref := r.1) (index := idx) ⟨hC.2.2.2.2.2.1, hC.word hw rfl args, ⟨_, _, _, by rw [hT] at hi; exact hi⟩, hst⟩ (by rw [q2]; exact h6) q1 q3 (by rw [hsl]; exact k2_hasslot (q4 k hkq)) rfl rfl hd fun H' e1 e2 e3 => ?_
  rw [hsl] at e1 ⊢
  have e3 : ∀ q : Nat, q ≠ base + a → H'[q]? = H[q]? := e3
  have hR' : ev_R D cA base ext S m' H' := by
    refine hR.upd hm e2 e3 (fun _ => ?_)
    rw [ev_ent_o (by rw [hs]; omega), hs]
    refine ⟨r, hq, t_OB.to (V := updV (vp_V ((List.range (S.2.1 a).2).map (fun k => ev_v (ev_al base ext) (ev_gv S m ci a k)))) k (ev_v (ev_al base ext) v)) ⟨_, e1, q2, q3, t_set q4 hap hkq _⟩ (fun j hj => ?_)⟩
    unfold updV vp_V
    rw [List.getD_eq_getElem?_getD, List.getD_eq_getElem?_getD]
    by_cases hjn : j < (S.2.1 a).2
    · rw [ev_fs hjn, ev_fs hjn, hv j hjn]
      by_cases hjk : j = k
      · rw [if_pos hjk, if_pos hjk]; rfl
      · rw [if_neg hjk, if_neg hjk]
    · rw [if_neg (by omega)]
      simp [List.getElem?_map, List.getElem?_range, hjn]
  exact kk D cA base ext p e R s mi args below meth c H' _ cells slots als hC h1 h2 h3 h4 hR' ⟨fun x hx => by rw [e3 x (by omega)]; exact hF.1 x hx, fun x hx => by
    rcases List.mem_append.mp hx with h | h
    · exact hF.2 x h
    · rw [List.mem_singleton.mp h]; exact Nat.le_add_right _ _⟩ hL
theorem ev_ld_at {ls : List (Option Value)} {i : Nat} {v : Value} (h : ev_ld ls i = v) (hv : ∀ n, v ≠ .retAddr n) : ls[i]? = some (some v) := by
  unfold ev_ld at h
  split at h
  · rename_i w hw; rw [hw, h]
  · exact absurd h.symm (hv 0)
theorem ev_gv_up (S : ev_S) (m : ev_M) (c a k : Nat) (v : Int32) (hd : ev_dyn c k = false) (ht : ev_tys c k = .int ∨ ev_tys c k = .boolean) (j : Nat) : ev_gv S (ev_up m.1 a k v, m.2) c a j = if j = k then .int v else ev_gv S m c a j := by
  unfold ev_gv
  simp only [ev_up_at]
  by_cases hj : j = k
  · subst hj
    rw [if_pos rfl, hd]
    rcases ht with h | h <;> simp [h]
  · simp [hj]
theorem ev_gv_upL (S : ev_S) (m : ev_M) (c a k : Nat) (v : Int64) (ht : ev_tys c k = .long) (hd : ev_dyn c k = false) (j : Nat) : ev_gv S (m.1, ev_up m.2 a k v) c a j = if j = k then .long v else ev_gv S m c a j := by
  unfold ev_gv
  simp only [ev_up_at]
  by_cases hj : j = k
  · subst hj
    simp [hd, ht]
  · simp [hj]
theorem ev_dyn_ty {c k : Nat} (h : ev_dyn c k = true) : ∃ n, ev_tys c k = .object n := by
  unfold ev_dyn at h
  split at h
  · exact ⟨_, rfl⟩
  · exact ⟨_, rfl⟩
  · exact ⟨_, rfl⟩
  · exact ⟨_, rfl⟩
  · cases h
theorem Wk.alen {a : Nat} (hd : decode Y.2.1 pc = .ok (.arraylength, 1)) (ha : a < S.1) (hs : 100 ≤ (S.2.1 a).1) (kk : Wk l Ln xs Y d kc ks (pc + 1) ls (.int (Int32.ofNat (S.2.1 a).2) :: st) S m P) : Wk l Ln xs Y d kc ks pc ls (.ref a :: st) S m P := by
  intro D cA base ext p e R s mi args below meth c H locs cells slots als hC h1 h2 h3 h4 hR hF hL
  have e1 : (List.map (ev_v (ev_al base ext)) (.ref a :: st)) = .ref (base + a) :: st.map (ev_v (ev_al base ext)) := by
    rw [List.map_cons]; rw [show ev_v (ev_al base ext) (.ref a) = .ref (ev_al base ext a) from rfl, hR.lt ha]
  rw [e1]
  have hat := hR.2.2 a ha
  have hK := hC.2.2.2.2.2.2.2.2.1
  have key : ∀ (t0 : Nat) (x : ClassId × vp_A) (ty : FieldType), ev_ent cA (ev_al base ext) S m a = .inl x → (ev_ty cA)[t0]? = some (x.1, ty) → x.2.1 = (S.2.1 a).2 → W p l e R s mi args below meth c H locs cells slots (MQ below (ev_Q D cA base ext P) args s (cells + kc) (slots + ks) (fun q => base ≤ q)) (F0 mi pc als (.ref (base + a) :: st.map (ev_v (ev_al base ext)))) := by
    intro t0 x ty hx ht hn
    rw [hx] at hat
    refine va_alen (D := D) (cl := vwCl) (tys := ev_ty cA) (ws := [(base + a, .inl x)]) (cA := x.1) (x := x.2) (ty := ty) hC.1 hC.2.1 hK ?_ 0 t0 rfl ht (by rw [hn]) hd (kk D cA base ext p e R s mi args below meth c H locs cells slots als hC h1 h2 h3 h4 hR hF hL)
    intro j y hj
    cases j with
    | zero => cases hj; exact hat
    | succ j => simp at hj
  have hn : ¬ (S.2.1 a).1 < 100 := by omega
  by_cases q0 : (S.2.1 a).1 = 100
  · exact key 0 _ .int (by unfold ev_ent; rw [if_neg hn, if_pos q0]) rfl rfl
  by_cases q1 : (S.2.1 a).1 = 101
  · exact key 1 _ .char (by unfold ev_ent; rw [if_neg hn, if_neg q0, if_pos q1]) rfl rfl
  by_cases q2 : (S.2.1 a).1 = 102
  · exact key 2 _ .long (by unfold ev_ent; rw [if_neg hn, if_neg q0, if_neg q1, if_pos q2]) rfl rfl
  by_cases q3 : (S.2.1 a).1 = 103
  · exact key 3 _ .boolean (by unfold ev_ent; rw [if_neg hn, if_neg q0, if_neg q1, if_neg q2, if_pos q3]) rfl rfl
  · exact key 4 _ (.object "AllIsWell$State") (by unfold ev_ent; rw [if_neg hn, if_neg q0, if_neg q1, if_neg q2, if_neg q3]) rfl rfl
end EvRules
