section EvCalls
variable {l : Launch} {Ln : Nat} {xs : Nat → Int32} {Y : ev_Y} {d kc ks pc : Nat} {ls : List (Option Value)} {st : List Value} {S : ev_S} {m : ev_M} {P : Option Value → ev_S → ev_M → Prop}
abbrev ev_pc (Ln : Nat) (xs : Nat → Int32) (D : va_G) (cA : Nat → ClassId) (base : Nat) (ext : Nat → Nat) (av : List Value) (S : ev_S) (m : ev_M) : Array Value → State → Prop :=
  fun a U => a = (av.map (ev_v (ev_al base ext))).toArray ∧ ev_TB U ∧ va_K D vwCl (ev_ty cA) U ∧ ev_O Ln xs base ext U U.heap ∧ ev_R D cA base ext S m U.heap
theorem ev_pc_blind {D : va_G} {cA : Nat → ClassId} {base : Nat} {ext : Nat → Nat} {av : List Value} : FrameBlind (ev_pc Ln xs D cA base ext av S m) := by
  intro a U g mk q
  obtain ⟨q1, q2, q3, q4, q5⟩ := q
  have hW : U.WarmedH (U.calling g mk a).vm := State.WarmedH.refl U
  exact ⟨q1, q2.warm hW, va_K.moved hW.alike q3, q4.to hW q4.2.2.1 (fun _ _ => rfl), q5⟩
theorem ev_pc_of {D : va_G} {cA : Nat → ClassId} {base : Nat} {ext : Nat → Nat} {av : List Value} {p : Program} {s : State} {mi : MethodId} {meth : Method} {c : Code} {H : Heap} {locs : List Loc} (hC : ev_C D cA base ext Ln xs Y p s mi meth c) (hR : ev_R D cA base ext S m H) (hF : ev_F base s H locs) : ∀ U : State, U.heap = H → s.WarmedH U.vm → ev_pc Ln xs D cA base ext av S m (av.map (ev_v (ev_al base ext))).toArray U := by
  intro U hU hW
  obtain ⟨-, -, -, -, -, -, -, hTB, hK, hO⟩ := hC
  refine ⟨rfl, hTB.warm hW, va_K.moved hW.alike hK, hO.to hW (by rw [hU, hR.1]; omega) (fun q hq => by rw [hU]; exact hF.1 q hq), by rw [hU]; exact hR⟩
/-- behind a call -/
theorem ev_after {D : va_G} {cA : Nat → ClassId} {base : Nat} {ext : Nat → Nat} {p : Program} {e : Env} {R : Room} {s : State} {mi : MethodId} {args : Array Value} {below : List Frame} {meth : Method} {c : Code} {H : Heap} {locs : List Loc} {cells slots : Nat} {als : Array Slot}
    {kc' ks' : Nat} {Q : Option Value → ev_S → ev_M → Prop} {a' : Array Value} {stk : List Value} (hkc : kc' ≤ kc) (hks : ks' ≤ ks)
    (run : va_Run p l e R s mi args below meth c H locs cells slots kc' ks' (F0 mi pc als stk) (st.map (ev_v (ev_al base ext))) (ev_Q D cA base ext Q a') (fun q => base ≤ q))
    (hC : ev_C D cA base ext Ln xs Y p s mi meth c) (h1 : d ≤ R.frames) (h2 : 41 * d ≤ R.locals) (h3 : cells + kc ≤ R.cells) (h4 : slots + ks ≤ R.slots) (hF : ev_F base s H locs) (hL : ev_L (ev_al base ext) als Y.2.2.1 ls)
    (kk : ∀ v S' m', Q v S' m' → Wk l Ln xs Y d (kc - kc') (ks - ks') (pc + 3) ls (v.toList ++ st) S' m' P) :
    W p l e R s mi args below meth c H locs cells slots (MQ below (ev_Q D cA base ext P) args s (cells + kc) (slots + ks) (fun q => base ≤ q)) (F0 mi pc als stk) := by
  intro T hT X
  obtain ⟨v, st₀, t, T', L, h0, X', hL', e1, e2, ⟨v', S', m', hv, hQ, hR', hfr⟩, stp⟩ := run T hT X
  have hv : v = v'.map (ev_v (ev_al base ext)) := by injection hv
  have k := kk v' S' m' hQ D cA base ext p e R s mi args below meth c T'.heap (locs ++ L) (cells + kc') (slots + ks') als hC h1 h2 (by omega) (by omega) (by rw [e1]; exact hR') ⟨fun q hq => by rw [e1, hfr q hq, h0]; exact hF.1 q hq, fun q hq => by
    rcases List.mem_append.mp hq with h | h
    · exact hF.2 q h
    · exact hL' q h⟩ hL T' rfl X'
  rw [show cells + kc' + (kc - kc') = cells + kc by omega, show slots + ks' + (ks - ks') = slots + ks by omega] at k
  obtain ⟨t2, a1, b1⟩ := k
  refine ⟨t2, stp t2 ?_, b1⟩
  rw [hv]
  have e3 : (v'.map (ev_v (ev_al base ext))).toList ++ st.map (ev_v (ev_al base ext)) = (v'.toList ++ st).map (ev_v (ev_al base ext)) := by
    cases v' <;> rfl
  show Steps p.tables e below (T'.setTop { method := mi, pc := pc + 3, locals := als, stack := (v'.map (ev_v (ev_al base ext))).toList ++ st.map (ev_v (ev_al base ext)), locked := none }) t2
  rw [e3]
  exact a1
theorem ev_cats {al : Nat → Nat} (st : List Value) : ((st.map (ev_v al)).map fun v => v.category).sum = (st.map fun v => v.category).sum := by
  rw [List.map_map]
  congr 1
  apply List.map_congr_left
  intro v _
  exact ev_v_cat al v
theorem ev_cn_cls {c : Nat} {q : vw_C} (h : vwCl[c]? = some q) : q.1 = ev_cn c := by
  match c, h with
  | 0, h => cases h; rfl
  | 1, h => cases h; rfl
  | 2, h => cases h; rfl
  | 3, h => cases h; rfl
  | 4, h => cases h; rfl
  | 5, h => cases h; rfl
  | 6, h => cases h; rfl
  | 7, h => cases h; rfl
  | 8, h => cases h; rfl
  | 9, h => cases h; rfl
  | 10, h => cases h; rfl
  | 11, h => cases h; rfl
  | 12, h => cases h; rfl
  | c + 13, h => simp [vwCl] at h
theorem ev_callB {D : va_G} {cA : Nat → ClassId} {base : Nat} {ext : Nat → Nat} {p : Program} {R : Room} {s : State} {mi : MethodId} {args : Array Value} {meth : Method} {c : Code} {Y' : ev_Y} {n d' kc' ks' idx : Nat} (hC : ev_C D cA base ext Ln xs Y p s mi meth c) (h1 : d ≤ R.frames) (h2 : 41 * d ≤ R.locals) (hw : ev_mw Y' n) (hdd : d' + 1 ≤ d) (hl : Cond.methodLink (ev_cn Y.2.2.2.2) idx Y'.1 ∈ lw_tbl) :
    CallB R s args (ev_cn Y.2.2.2.2) idx Y'.1 Y'.2.1 Y'.2.2.1 Y'.2.2.2.1 [.code Y'.1 Y'.2.1 Y'.2.2.1 Y'.2.2.2.1] { frames := d', cells := kc', slots := ks', locals := 41 * d' } kc' ks' n := by
  obtain ⟨w1, w2, w3, w4, w5, w6⟩ := hw
  refine ⟨rfl, rfl, by show d' + 1 ≤ R.frames; omega, by show 8 + (Y'.2.2.1 + 11) + 41 * d' ≤ R.locals; omega, fun w hw a' U hW => ?_, List.mem_cons_self, hC.word w1 rfl args, hC.word w2 rfl args, ⟨w4, w5⟩, fun sig h => ?_, hC.word hl rfl args⟩
  · rw [List.mem_singleton.mp hw]
    exact ev_word hW rfl (hC.word w1 rfl args)
  · rw [h] at w6; exact (Option.some.inj w6).symm
theorem ev_callN {D : va_G} {cA : Nat → ClassId} {base : Nat} {ext : Nat → Nat} {p : Program} {R : Room} {s : State} {mi : MethodId} {args : Array Value} {meth : Method} {c : Code} {Y' : ev_Y} {n d' kc' ks' idx : Nat} {host : String} (hC : ev_C D cA base ext Ln xs Y p s mi meth c) (h1 : d ≤ R.frames) (h2 : 41 * d ≤ R.locals) (hw : ev_mw Y' n) (hdd : d' + 1 ≤ d) (hl : Cond.methodLinkNest (ev_cn Y.2.2.2.2) idx Y'.1 host ∈ lw_tbl) :
    va_CN R s args (ev_cn Y.2.2.2.2) idx Y'.1 host Y'.2.1 Y'.2.2.1 Y'.2.2.2.1 [.code Y'.1 Y'.2.1 Y'.2.2.1 Y'.2.2.2.1] { frames := d', cells := kc', slots := ks', locals := 41 * d' } kc' ks' n := by
  obtain ⟨w1, w2, w3, w4, w5, w6⟩ := hw
  refine ⟨⟨rfl, rfl, by show d' + 1 ≤ R.frames; omega, by show 8 + (Y'.2.2.1 + 11) + 41 * d' ≤ R.locals; omega, fun w hw a' U hW => ?_, List.mem_cons_self⟩, hC.word w1 rfl args, hC.word w2 rfl args, ⟨w4, w5⟩, fun sig h => ?_, hC.word hl rfl args⟩
  · rw [List.mem_singleton.mp hw]
    exact ev_word hW rfl (hC.word w1 rfl args)
  · rw [h] at w6; exact (Option.some.inj w6).symm
theorem ev_recv {D : va_G} {cA : Nat → ClassId} {base : Nat} {ext : Nat → Nat} {p : Program} {s : State} {mi : MethodId} {meth : Method} {c : Code} {H : Heap} {a k : Nat} (hC : ev_C D cA base ext Ln xs Y p s mi meth c) (hR : ev_R D cA base ext S m H) (ha : a < S.1) (hs : (S.2.1 a).1 = k) (hk : k < 13) : ∃ cellB : Cell, H[base + a]? = some cellB ∧ cellB.vm.isStatics = false ∧ s.vm.findClass (ev_cn k) = some cellB.cls := by
  have hat := hR.2.2 a ha
  rw [ev_ent_o (by rw [hs]; omega)] at hat
  obtain ⟨q, hq, -⟩ := id hat
  dsimp only at hq
  have h := va_recv hC.2.2.2.2.2.2.2.2.1 (ev_one hat) hq (q0 := 0) rfl
  rw [ev_cn_cls hq, hs] at h
  exact h
theorem ev_stk {base : Nat} {ext : Nat → Nat} (av st : List Value) (x : Value) : (av.reverse ++ x :: st).map (ev_v (ev_al base ext)) = (av.map (ev_v (ev_al base ext))).reverse ++ ev_v (ev_al base ext) x :: st.map (ev_v (ev_al base ext)) := by
  rw [List.map_append, List.map_reverse, List.map_cons]
theorem ev_stk0 {base : Nat} {ext : Nat → Nat} (av st : List Value) : (av.reverse ++ st).map (ev_v (ev_al base ext)) = (av.map (ev_v (ev_al base ext))).reverse ++ st.map (ev_v (ev_al base ext)) := by
  rw [List.map_append, List.map_reverse]
theorem Wk.callV {Y' : ev_Y} {n d' kc' ks' idx a : Nat} {av : List Value} {Q : Option Value → ev_S → ev_M → Prop} {stk : List Value} (hstk : stk = av.reverse ++ .ref a :: st) (hd : decode Y.2.1 pc = .ok (.invokevirtual idx, 3)) (hw : ev_mw Y' n) (hi : Cond.instanceMethod Y'.1 ∈ lw_tbl) (hse : Cond.selects Y'.1.cls Y'.1 Y'.1 ∈ lw_tbl) (hl : Cond.methodLink (ev_cn Y.2.2.2.2) idx Y'.1 ∈ lw_tbl) (hM : Mk l Ln xs Y' d' kc' ks' (.ref a :: av) S m Q) (hdd : d' + 1 ≤ d) (hkc : kc' ≤ kc) (hks : ks' ≤ ks) (ha : a < S.1) (hs : (S.2.1 a).1 = Y'.2.2.2.2) (h13 : Y'.2.2.2.2 < 13) (hcn : Y'.1.cls = ev_cn Y'.2.2.2.2) (hn : av.length = n) (hrm : (st.map fun v => v.category).sum ≤ 8)
    (kk : ∀ v S' m', Q v S' m' → Wk l Ln xs Y d (kc - kc') (ks - ks') (pc + 3) ls (v.toList ++ st) S' m' P) : Wk l Ln xs Y d kc ks pc ls stk S m P := by
  intro D cA base ext p e R s mi args below meth c H locs cells slots als hC h1 h2 h3 h4 hR hF hL
  subst hstk
  rw [ev_stk, show ev_v (ev_al base ext) (.ref a) = .ref (ev_al base ext a) from rfl, hR.lt ha]
  have hpc := ev_pc_of (av := .ref a :: av) hC hR hF
  rw [List.map_cons, show ev_v (ev_al base ext) (.ref a) = .ref (ev_al base ext a) from rfl, hR.lt ha] at hpc
  exact ev_after hkc hks (va_runV (As := av.map (ev_v (ev_al base ext))) (rest := st.map (ev_v (ev_al base ext))) (b := base + a) (Ts := []) ⟨hC.1, hC.2.1, hC.2.2.1, hC.2.2.2.2.2.1, fun w h => by cases h⟩ (hM D cA base ext) ⟨ev_callB hC h1 h2 hw hdd hl, hC.word hi rfl args, hC.word hse rfl args⟩ ⟨ev_pc_blind, by rw [hcn]; exact ev_recv hC hR ha hs h13, hpc⟩ rfl (by rw [List.length_map]; exact hn) hL.1 rfl (by rw [ev_cats]; exact lv_room hrm) hd ⟨by omega, by omega⟩) hC h1 h2 h3 h4 hF hL kk
theorem Wk.callVN {Y' : ev_Y} {n d' kc' ks' idx a : Nat} {av : List Value} {host : String} {Q : Option Value → ev_S → ev_M → Prop} {stk : List Value} (hstk : stk = av.reverse ++ .ref a :: st) (hd : decode Y.2.1 pc = .ok (.invokevirtual idx, 3)) (hw : ev_mw Y' n) (hi : Cond.instanceMethod Y'.1 ∈ lw_tbl) (hse : Cond.selects Y'.1.cls Y'.1 Y'.1 ∈ lw_tbl) (hl : Cond.methodLinkNest (ev_cn Y.2.2.2.2) idx Y'.1 host ∈ lw_tbl) (hM : Mk l Ln xs Y' d' kc' ks' (.ref a :: av) S m Q) (hdd : d' + 1 ≤ d) (hkc : kc' ≤ kc) (hks : ks' ≤ ks) (ha : a < S.1) (hs : (S.2.1 a).1 = Y'.2.2.2.2) (h13 : Y'.2.2.2.2 < 13) (hcn : Y'.1.cls = ev_cn Y'.2.2.2.2) (hn : av.length = n) (hrm : (st.map fun v => v.category).sum ≤ 8)
    (kk : ∀ v S' m', Q v S' m' → Wk l Ln xs Y d (kc - kc') (ks - ks') (pc + 3) ls (v.toList ++ st) S' m' P) : Wk l Ln xs Y d kc ks pc ls stk S m P := by
  intro D cA base ext p e R s mi args below meth c H locs cells slots als hC h1 h2 h3 h4 hR hF hL
  subst hstk
  rw [ev_stk, show ev_v (ev_al base ext) (.ref a) = .ref (ev_al base ext a) from rfl, hR.lt ha]
  have hpc := ev_pc_of (av := .ref a :: av) hC hR hF
  rw [List.map_cons, show ev_v (ev_al base ext) (.ref a) = .ref (ev_al base ext a) from rfl, hR.lt ha] at hpc
  exact ev_after hkc hks (va_runVN (As := av.map (ev_v (ev_al base ext))) (rest := st.map (ev_v (ev_al base ext))) (b := base + a) (Ts := []) ⟨hC.1, hC.2.1, hC.2.2.1, hC.2.2.2.2.2.1, fun w h => by cases h⟩ (hM D cA base ext) ⟨ev_callN hC h1 h2 hw hdd hl, hC.word hi rfl args, hC.word hse rfl args⟩ ⟨ev_pc_blind, by rw [hcn]; exact ev_recv hC hR ha hs h13, hpc⟩ rfl (by rw [List.length_map]; exact hn) hL.1 rfl (by rw [ev_cats]; exact lv_room hrm) hd ⟨by omega, by omega⟩) hC h1 h2 h3 h4 hF hL kk
theorem Wk.callS {Y' : ev_Y} {n d' kc' ks' idx : Nat} {av : List Value} {Q : Option Value → ev_S → ev_M → Prop} {stk : List Value} (hstk : stk = av.reverse ++ st) (hd : decode Y.2.1 pc = .ok (.invokestatic idx, 3)) (hw : ev_mw Y' n) (hst : Cond.static Y'.1 ∈ lw_tbl) (hl : Cond.methodLink (ev_cn Y.2.2.2.2) idx Y'.1 ∈ lw_tbl) (hM : Mk l Ln xs Y' d' kc' ks' av S m Q) (hdd : d' + 1 ≤ d) (hkc : kc' ≤ kc) (hks : ks' ≤ ks) (hn : av.length = n) (hrm : (st.map fun v => v.category).sum ≤ 8)
    (kk : ∀ v S' m', Q v S' m' → Wk l Ln xs Y d (kc - kc') (ks - ks') (pc + 3) ls (v.toList ++ st) S' m' P) : Wk l Ln xs Y d kc ks pc ls stk S m P := by
  intro D cA base ext p e R s mi args below meth c H locs cells slots als hC h1 h2 h3 h4 hR hF hL
  subst hstk
  rw [ev_stk0]
  have hpc := ev_pc_of (av := av) hC hR hF
  exact ev_after hkc hks (va_runS (As := av.map (ev_v (ev_al base ext))) (rest := st.map (ev_v (ev_al base ext))) (Ts := []) ⟨hC.1, hC.2.1, hC.2.2.1, hC.2.2.2.2.2.1, fun w h => by cases h⟩ (hM D cA base ext) ⟨ev_callB hC h1 h2 hw hdd hl, hC.word hst rfl args⟩ ⟨ev_pc_blind, hpc⟩ rfl (by rw [List.length_map]; exact hn) hL.1 rfl (by rw [ev_cats]; exact lv_room hrm) hd ⟨by omega, by omega⟩) hC h1 h2 h3 h4 hF hL kk
theorem Wk.callI {Y' : ev_Y} {n d' kc' ks' idx a : Nat} {av : List Value} {Q : Option Value → ev_S → ev_M → Prop} {stk : List Value} (hstk : stk = av.reverse ++ .ref a :: st) (hd : decode Y.2.1 pc = .ok (.invokespecial idx, 3)) (hw : ev_mw Y' n) (hi : Cond.instanceMethod Y'.1 ∈ lw_tbl) (hnm : Y'.1.name = "<init>") (hret : Y'.2.2.2.1 = none) (hl : Cond.methodLink (ev_cn Y.2.2.2.2) idx Y'.1 ∈ lw_tbl) (hM : Mk l Ln xs Y' d' kc' ks' (.ref a :: av) S m Q) (hdd : d' + 1 ≤ d) (hkc : kc' ≤ kc) (hks : ks' ≤ ks) (ha : a < S.1) (hn : av.length = n) (hrm : (st.map fun v => v.category).sum ≤ 8)
    (kk : ∀ v S' m', Q v S' m' → Wk l Ln xs Y d (kc - kc') (ks - ks') (pc + 3) ls (v.toList ++ st) S' m' P) : Wk l Ln xs Y d kc ks pc ls stk S m P := by
  intro D cA base ext p e R s mi args below meth c H locs cells slots als hC h1 h2 h3 h4 hR hF hL
  subst hstk
  obtain ⟨Y1, Y2, Y3, Y4, Y5⟩ := Y'
  dsimp only at hret
  subst hret
  rw [ev_stk, show ev_v (ev_al base ext) (.ref a) = .ref (ev_al base ext a) from rfl, hR.lt ha]
  have hpc := ev_pc_of (av := .ref a :: av) hC hR hF
  rw [List.map_cons, show ev_v (ev_al base ext) (.ref a) = .ref (ev_al base ext a) from rfl, hR.lt ha] at hpc
  exact ev_after hkc hks (va_runI (As := av.map (ev_v (ev_al base ext))) (rest := st.map (ev_v (ev_al base ext))) (b := base + a) (Ts := []) ⟨hC.1, hC.2.1, hC.2.2.1, hC.2.2.2.2.2.1, fun w h => by cases h⟩ (hM D cA base ext) ⟨ev_callB hC h1 h2 hw hdd hl, hnm, hC.word hi rfl args⟩ ⟨ev_pc_blind, hpc⟩ rfl (by rw [List.length_map]; exact hn) hL.1 rfl (by rw [ev_cats]; exact lv_room hrm) hd ⟨by omega, by omega⟩) hC h1 h2 h3 h4 hF hL kk
theorem Wk.callIN {Y' : ev_Y} {n d' kc' ks' idx a : Nat} {av : List Value} {host : String} {Q : Option Value → ev_S → ev_M → Prop} {stk : List Value} (hstk : stk = av.reverse ++ .ref a :: st) (hd : decode Y.2.1 pc = .ok (.invokespecial idx, 3)) (hw : ev_mw Y' n) (hi : Cond.instanceMethod Y'.1 ∈ lw_tbl) (hnm : Y'.1.name = "<init>") (hret : Y'.2.2.2.1 = none) (hl : Cond.methodLinkNest (ev_cn Y.2.2.2.2) idx Y'.1 host ∈ lw_tbl) (hM : Mk l Ln xs Y' d' kc' ks' (.ref a :: av) S m Q) (hdd : d' + 1 ≤ d) (hkc : kc' ≤ kc) (hks : ks' ≤ ks) (ha : a < S.1) (hn : av.length = n) (hrm : (st.map fun v => v.category).sum ≤ 8)
    (kk : ∀ v S' m', Q v S' m' → Wk l Ln xs Y d (kc - kc') (ks - ks') (pc + 3) ls (v.toList ++ st) S' m' P) : Wk l Ln xs Y d kc ks pc ls stk S m P := by
  intro D cA base ext p e R s mi args below meth c H locs cells slots als hC h1 h2 h3 h4 hR hF hL
  subst hstk
  obtain ⟨Y1, Y2, Y3, Y4, Y5⟩ := Y'
  dsimp only at hret
  subst hret
  rw [ev_stk, show ev_v (ev_al base ext) (.ref a) = .ref (ev_al base ext a) from rfl, hR.lt ha]
  have hpc := ev_pc_of (av := .ref a :: av) hC hR hF
  rw [List.map_cons, show ev_v (ev_al base ext) (.ref a) = .ref (ev_al base ext a) from rfl, hR.lt ha] at hpc
  exact ev_after hkc hks (va_runIN (As := av.map (ev_v (ev_al base ext))) (rest := st.map (ev_v (ev_al base ext))) (b := base + a) (Ts := []) ⟨hC.1, hC.2.1, hC.2.2.1, hC.2.2.2.2.2.1, fun w h => by cases h⟩ (hM D cA base ext) ⟨ev_callN hC h1 h2 hw hdd hl, hnm, hC.word hi rfl args⟩ ⟨ev_pc_blind, hpc⟩ rfl (by rw [List.length_map]; exact hn) hL.1 rfl (by rw [ev_cats]; exact lv_room hrm) hd ⟨by omega, by omega⟩) hC h1 h2 h3 h4 hF hL kk
theorem Wk.objInit {idx a : Nat} (hd : decode Y.2.1 pc = .ok (.invokespecial idx, 3)) (hl : Cond.methodLink (ev_cn Y.2.2.2.2) idx objectInit ∈ lw_tbl) (hi : Cond.instanceMethod objectInit ∈ lw_tbl) (hc : Cond.code objectInit ⟨#[0xb1]⟩ 1 none ∈ lw_tbl) (hd1 : 1 ≤ d) (hrm : (st.map fun v => v.category).sum ≤ 8) (kk : Wk l Ln xs Y d kc ks (pc + 3) ls st S m P) : Wk l Ln xs Y d kc ks pc ls (.ref a :: st) S m P := by
  intro D cA base ext p e R s mi args below meth c H locs cells slots als hC h1 h2 h3 h4 hR hF hL
  rw [ev_ref]
  refine W.objInit hC.1 hC.2.1 hC.2.2.2.2.2.1 (hC.word hl rfl args) (hC.word hi rfl args) (hC.word hc rfl args) rfl (hL.1.trans hC.2.2.1.symm) rfl hd (by omega) ?_ (kk D cA base ext p e R s mi args below meth c H locs cells slots als hC h1 h2 h3 h4 hR hF hL)
  have h8 : 2 * (F0 mi pc als (.ref (ev_al base ext a) :: st.map (ev_v (ev_al base ext)))).monitorRoom + ((st.map (ev_v (ev_al base ext))).map fun v => v.category).sum ≤ 8 := by rw [ev_cats]; exact lv_room hrm
  omega
end EvCalls
