/-! the one String constant, and String.charAt of it -/
section EvStr
variable {l : Launch} {Ln : Nat} {xs : Nat → Int32} {Y : ev_Y} {d kc ks pc : Nat} {ls : List (Option Value)} {st : List Value} {S : ev_S} {m : ev_M} {P : Option Value → ev_S → ev_M → Prop}
theorem ev_C.str {D : va_G} {cA : Nat → ClassId} {base : Nat} {ext : Nat → Nat} {p : Program} {s : State} {mi : MethodId} {meth : Method} {c : Code} {H : Heap} {locs : List Loc} (hC : ev_C D cA base ext Ln xs Y p s mi meth c) (hF : ev_F base s H locs) :
    vk_S 1 [174] [ev_bytes] (fun _ => ext 1) (fun _ => ext 2) (fun q => base ≤ q) s H := by
  obtain ⟨-, -, -, -, h5, -, -⟩ := hC.2.2.2.2.2.2.2.2.2
  exact h5.kept (fun a _ h => hF.1 a (Nat.not_le.mp h))
theorem Wk.ldcS (hY : Y.2.2.2.2 = 10) (hd : decode Y.2.1 pc = .ok (.ldc 63, 2)) (kk : Wk l Ln xs Y d kc ks (pc + 2) ls (.ref 5001 :: st) S m P) : Wk l Ln xs Y d kc ks pc ls st S m P := by
  intro D cA base ext p e R s mi args below meth c H locs cells slots als hC h1 h2 h3 h4 hR hF hL
  obtain ⟨-, -, -, h5, -⟩ := hC.2.2.2.2.2.2.2.2.2
  have ho := hC.2.2.2.2.2.1
  rw [hY] at ho
  exact va_ldcS hC.1 hC.2.1 ho h5 hd (kk D cA base ext p e R s mi args below meth c H locs cells slots als hC h1 h2 h3 h4 hR hF hL)
theorem Wk.gets1 {idx : Nat} (hl : Cond.fieldLink (ev_cn Y.2.2.2.2) idx "java/lang/String" "COMPACT_STRINGS" "Z" ∈ lw_tbl) (hd : decode Y.2.1 pc = .ok (.getstatic idx, 3)) (kk : Wk l Ln xs Y d kc ks (pc + 3) ls (.int 1 :: st) S m P) : Wk l Ln xs Y d kc ks pc ls st S m P := by
  intro D cA base ext p e R s mi args below meth c H locs cells slots als hC h1 h2 h3 h4 hR hF hL
  obtain ⟨-, -, -, -, -, h6, -⟩ := hC.2.2.2.2.2.2.2.2.2
  obtain ⟨cf, kf, fi, f, a, cell, g1, g2, g3, g4, g5, g6, g7, g8⟩ := h6
  exact W.gets hC.1 hC.2.1 hC.2.2.2.2.2.1 (hC.word hl rfl args) g1 g2 g3 g4 (by rw [hF.1 a (Nat.not_le.mp g8)]; exact g5) (fun e => by rw [e] at g6; cases g6) g7 rfl hd (kk D cA base ext p e R s mi args below meth c H locs cells slots als hC h1 h2 h3 h4 hR hF hL)
theorem Wk.getsF {idx : Nat} (hl : Cond.fieldLink (ev_cn Y.2.2.2.2) idx "jdk/internal/util/Preconditions" "SIOOBE_FORMATTER" "Ljava/util/function/BiFunction;" ∈ lw_tbl) (hd : decode Y.2.1 pc = .ok (.getstatic idx, 3)) (k0 : Wk l Ln xs Y d kc ks (pc + 3) ls (.null :: st) S m P) (k1 : Wk l Ln xs Y d kc ks (pc + 3) ls (.ref 5003 :: st) S m P) : Wk l Ln xs Y d kc ks pc ls st S m P := by
  intro D cA base ext p e R s mi args below meth c H locs cells slots als hC h1 h2 h3 h4 hR hF hL
  obtain ⟨-, -, -, -, -, -, h6⟩ := hC.2.2.2.2.2.2.2.2.2
  rcases h6 with h6 | h6
  · obtain ⟨cf, kf, fi, f, a, cell, g1, g2, g3, g4, g5, g6, g7, g8⟩ := h6
    exact W.gets hC.1 hC.2.1 hC.2.2.2.2.2.1 (hC.word hl rfl args) g1 g2 g3 g4 (by rw [hF.1 a (Nat.not_le.mp g8)]; exact g5) (fun e => by rw [e] at g6; cases g6) g7 rfl hd (k0 D cA base ext p e R s mi args below meth c H locs cells slots als hC h1 h2 h3 h4 hR hF hL)
  · obtain ⟨cf, kf, fi, f, a, cell, g1, g2, g3, g4, g5, g6, g7, g8⟩ := h6
    exact W.gets hC.1 hC.2.1 hC.2.2.2.2.2.1 (hC.word hl rfl args) g1 g2 g3 g4 (by rw [hF.1 a (Nat.not_le.mp g8)]; exact g5) (fun e => by rw [e] at g6; cases g6) g7 rfl hd (k1 D cA base ext p e R s mi args below meth c H locs cells slots als hC h1 h2 h3 h4 hR hF hL)
theorem Wk.strV {idx : Nat} (hl : Cond.fieldLink (ev_cn Y.2.2.2.2) idx "java/lang/String" "value" "[B" ∈ lw_tbl) (hd : decode Y.2.1 pc = .ok (.getfield idx, 3)) (kk : Wk l Ln xs Y d kc ks (pc + 3) ls (.ref 5002 :: st) S m P) : Wk l Ln xs Y d kc ks pc ls (.ref 5001 :: st) S m P := by
  intro D cA base ext p e R s mi args below meth c H locs cells slots als hC h1 h2 h3 h4 hR hF hL
  obtain ⟨cf, k, fi, f, cell, g1, g2, g3, g4, g5, g6⟩ := ((hC.str hF).1 0 (by decide)).2.2.1
  rw [ev_ref]
  exact W.getf hC.1 hC.2.1 hC.2.2.2.2.2.1 (hC.word hl rfl args) g1 g2 g3 g4 g5 rfl rfl hd (kk D cA base ext p e R s mi args below meth c H locs cells slots als hC h1 h2 h3 h4 hR hF hL)
theorem Wk.strC {idx : Nat} (hl : Cond.fieldLink (ev_cn Y.2.2.2.2) idx "java/lang/String" "coder" "B" ∈ lw_tbl) (hd : decode Y.2.1 pc = .ok (.getfield idx, 3)) (kk : Wk l Ln xs Y d kc ks (pc + 3) ls (.int 0 :: st) S m P) : Wk l Ln xs Y d kc ks pc ls (.ref 5001 :: st) S m P := by
  intro D cA base ext p e R s mi args below meth c H locs cells slots als hC h1 h2 h3 h4 hR hF hL
  obtain ⟨cf, k, fi, f, cell, g1, g2, g3, g4, g5, g6⟩ := ((hC.str hF).1 0 (by decide)).2.1
  rw [ev_ref]
  exact W.getf hC.1 hC.2.1 hC.2.2.2.2.2.1 (hC.word hl rfl args) g1 g2 g3 g4 g5 rfl rfl hd (kk D cA base ext p e R s mi args below meth c H locs cells slots als hC h1 h2 h3 h4 hR hF hL)
theorem Wk.strL (hd : decode Y.2.1 pc = .ok (.arraylength, 1)) (kk : Wk l Ln xs Y d kc ks (pc + 1) ls (.int 174 :: st) S m P) : Wk l Ln xs Y d kc ks pc ls (.ref 5002 :: st) S m P := by
  intro D cA base ext p e R s mi args below meth c H locs cells slots als hC h1 h2 h3 h4 hR hF hL
  obtain ⟨cell, g1, g2, g3, g4, g5, g6, g7⟩ := ((hC.str hF).1 0 (by decide)).2.2.2
  rw [ev_ref]
  exact W.alen (n := 174) hC.1 hC.2.1 g1 g2 (by rw [g5]; rfl) rfl rfl hd (kk D cA base ext p e R s mi args below meth c H locs cells slots als hC h1 h2 h3 h4 hR hF hL)
theorem Wk.strB {i : Int32} (hd : decode Y.2.1 pc = .ok (.baload, 1)) (hi : ev_in i 174) (kk : Wk l Ln xs Y d kc ks (pc + 1) ls (.int (ev_bytes.getD i.toNatClampNeg 0) :: st) S m P) : Wk l Ln xs Y d kc ks pc ls (.int i :: .ref 5002 :: st) S m P := by
  intro D cA base ext p e R s mi args below meth c H locs cells slots als hC h1 h2 h3 h4 hR hF hL
  obtain ⟨cell, g1, g2, g3, g4, g5, g6, g7⟩ := ((hC.str hF).1 0 (by decide)).2.2.2
  have hin := ev_in_vp hi
  rw [List.map_cons, ev_ref]
  refine W.bald hC.1 hC.2.1 g1 g2 g3 (fun q => hin (q.imp id (fun q => Nat.le_trans g4 q))) (g6 _ hi.2) rfl rfl hd (kk D cA base ext p e R s mi args below meth c H locs cells slots als hC h1 h2 h3 h4 hR hF hL)
theorem Wk.i2c {x : Int32} (hd : decode Y.2.1 pc = .ok (.i2c, 1)) (kk : Wk l Ln xs Y d kc ks (pc + 1) ls (.int (x.toUInt32 % 65536).toInt32 :: st) S m P) : Wk l Ln xs Y d kc ks pc ls (.int x :: st) S m P := by
  intro D cA base ext p e R s mi args below meth c H locs cells slots als hC h1 h2 h3 h4 hR hF hL
  exact lv_i2c hC.1 hC.2.1 hd rfl (kk D cA base ext p e R s mi args below meth c H locs cells slots als hC h1 h2 h3 h4 hR hF hL)
theorem Wk.cret {v : Int32} (hr : Y.2.2.2.1 = some .char) (hv : narrow .char (.int v) = .int v) (hd : decode Y.2.1 pc = .ok (.ireturn, 1)) (hP : P (some (.int v)) S m) : Wk l Ln xs Y d kc ks pc ls [.int v] S m P := by
  intro D cA base ext p e R s mi args below meth c H locs cells slots als hC h1 h2 h3 h4 hR hF hL
  refine W.widen (k := cells + kc) (n := slots + ks) (Nat.le_add_right _ _) (Nat.le_add_right _ _) ?_
  exact W.zret hC.1 hC.2.1 (hC.2.2.2.1.trans hr) hv (fun t ht _ => ⟨some (.int v), S, m, rfl, hP, by rw [ht]; exact hR, fun q hq => by rw [ht]; exact hF.1 q hq⟩) hF.2 hd hC.2.2.2.2.1
theorem Wk.callStr {Y' : ev_Y} {n d' idx : Nat} {av : List Value} {Q : Option Value → ev_S → ev_M → Prop} {stk : List Value} (hstk : stk = av.reverse ++ .ref 5001 :: st) (hd : decode Y.2.1 pc = .ok (.invokevirtual idx, 3)) (hw : ev_mw Y' n) (hi : Cond.instanceMethod Y'.1 ∈ lw_tbl) (hse : Cond.selects Y'.1.cls Y'.1 Y'.1 ∈ lw_tbl) (hl : Cond.methodLink (ev_cn Y.2.2.2.2) idx Y'.1 ∈ lw_tbl) (hM : Mk l Ln xs Y' d' 0 0 (.ref 5001 :: av) S m Q) (hdd : d' + 1 ≤ d) (hcn : Y'.1.cls = "java/lang/String") (hn : av.length = n) (hrm : (st.map fun v => v.category).sum ≤ 8)
    (kk : ∀ v S' m', Q v S' m' → Wk l Ln xs Y d kc ks (pc + 3) ls (v.toList ++ st) S' m' P) : Wk l Ln xs Y d kc ks pc ls stk S m P := by
  intro D cA base ext p e R s mi args below meth c H locs cells slots als hC h1 h2 h3 h4 hR hF hL
  subst hstk
  obtain ⟨cell, g1, g2, g3, -⟩ := ((hC.str hF).1 0 (by decide)).1
  rw [ev_stk]
  have hpc := ev_pc_of (av := .ref 5001 :: av) hC hR hF
  rw [List.map_cons] at hpc
  exact ev_after (kc := kc) (ks := ks) (Nat.zero_le _) (Nat.zero_le _) (va_runV (As := av.map (ev_v (ev_al base ext))) (rest := st.map (ev_v (ev_al base ext))) (b := ext 1) (Ts := []) ⟨hC.1, hC.2.1, hC.2.2.1, hC.2.2.2.2.2.1, fun w h => by cases h⟩ (hM D cA base ext) ⟨ev_callB hC h1 h2 hw hdd hl, hC.word hi rfl args, hC.word hse rfl args⟩ ⟨ev_pc_blind, ⟨cell, g1, g2, by rw [hcn]; exact g3⟩, hpc⟩ rfl (by rw [List.length_map]; exact hn) hL.1 rfl (by rw [ev_cats]; exact lv_room hrm) hd ⟨by omega, by omega⟩) hC h1 h2 h3 h4 hF hL kk
end EvStr
abbrev YJ0_charAt_5068e : ev_Y := (yJ0_charAt_5068e, cJ0_charAt_5068e, 2, (some .char), 16)
set_option maxRecDepth 100000 in
theorem mwJ0_charAt_5068e : ev_mw YJ0_charAt_5068e 1 := ⟨ev_t3 (List.mem_of_getElem? (i := 30) rfl), ev_t1 (List.mem_of_getElem? (i := 14) rfl), by decide, by decide +kernel, by decide +kernel, by decide +kernel⟩
set_option maxRecDepth 100000 in
theorem iwJ0_charAt_5068e : Cond.instanceMethod YJ0_charAt_5068e.1 ∈ lw_tbl := ev_t3 (List.mem_of_getElem? (i := 28) rfl)
set_option maxRecDepth 100000 in
theorem vwJ0_charAt_5068e : Cond.selects YJ0_charAt_5068e.1.cls YJ0_charAt_5068e.1 YJ0_charAt_5068e.1 ∈ lw_tbl := ev_t3 (List.mem_of_getElem? (i := 29) rfl)
abbrev YJ0_isLatin1_aae02 : ev_Y := (yJ0_isLatin1_aae02, cJ0_isLatin1_aae02, 1, (some .boolean), 16)
set_option maxRecDepth 100000 in
theorem mwJ0_isLatin1_aae02 : ev_mw YJ0_isLatin1_aae02 0 := ⟨ev_t3 (List.mem_of_getElem? (i := 34) rfl), ev_t1 (List.mem_of_getElem? (i := 14) rfl), by decide, by decide +kernel, by decide +kernel, by decide +kernel⟩
set_option maxRecDepth 100000 in
theorem iwJ0_isLatin1_aae02 : Cond.instanceMethod YJ0_isLatin1_aae02.1 ∈ lw_tbl := ev_t3 (List.mem_of_getElem? (i := 32) rfl)
set_option maxRecDepth 100000 in
theorem vwJ0_isLatin1_aae02 : Cond.selects YJ0_isLatin1_aae02.1.cls YJ0_isLatin1_aae02.1 YJ0_isLatin1_aae02.1 ∈ lw_tbl := ev_t3 (List.mem_of_getElem? (i := 33) rfl)
abbrev YJ0_checkIndex_df160 : ev_Y := (yJ0_checkIndex_df160, cJ0_checkIndex_df160, 2, none, 16)
set_option maxRecDepth 100000 in
theorem mwJ0_checkIndex_df160 : ev_mw YJ0_checkIndex_df160 2 := ⟨ev_t3 (List.mem_of_getElem? (i := 42) rfl), ev_t1 (List.mem_of_getElem? (i := 14) rfl), by decide, by decide +kernel, by decide +kernel, by decide +kernel⟩
set_option maxRecDepth 100000 in
theorem swJ0_checkIndex_df160 : Cond.static YJ0_checkIndex_df160.1 ∈ lw_tbl := ev_t3 (List.mem_of_getElem? (i := 41) rfl)
abbrev YJ1_charAt_3b067 : ev_Y := (yJ1_charAt_3b067, cJ1_charAt_3b067, 2, (some .char), 17)
set_option maxRecDepth 100000 in
theorem mwJ1_charAt_3b067 : ev_mw YJ1_charAt_3b067 2 := ⟨ev_t3 (List.mem_of_getElem? (i := 39) rfl), ev_t1 (List.mem_of_getElem? (i := 15) rfl), by decide, by decide +kernel, by decide +kernel, by decide +kernel⟩
set_option maxRecDepth 100000 in
theorem swJ1_charAt_3b067 : Cond.static YJ1_charAt_3b067.1 ∈ lw_tbl := ev_t3 (List.mem_of_getElem? (i := 38) rfl)
abbrev YJ3_checkIndex_8e157 : ev_Y := (yJ3_checkIndex_8e157, cJ3_checkIndex_8e157, 3, (some .int), 18)
set_option maxRecDepth 100000 in
theorem mwJ3_checkIndex_8e157 : ev_mw YJ3_checkIndex_8e157 3 := ⟨ev_t3 (List.mem_of_getElem? (i := 47) rfl), ev_t1 (List.mem_of_getElem? (i := 16) rfl), by decide, by decide +kernel, by decide +kernel, by decide +kernel⟩
set_option maxRecDepth 100000 in
theorem swJ3_checkIndex_8e157 : Cond.static YJ3_checkIndex_8e157.1 ∈ lw_tbl := ev_t3 (List.mem_of_getElem? (i := 46) rfl)
set_option maxRecDepth 100000 in
theorem lkj_16_492 : Cond.methodLink (ev_cn 16) 492 YJ0_isLatin1_aae02.1 ∈ lw_tbl := ev_t3 (List.mem_of_getElem? (i := 31) rfl)
set_option maxRecDepth 100000 in
theorem lkj_16_495 : Cond.methodLink (ev_cn 16) 495 YJ1_charAt_3b067.1 ∈ lw_tbl := ev_t3 (List.mem_of_getElem? (i := 37) rfl)
set_option maxRecDepth 100000 in
theorem lkj_17_9 : Cond.methodLink (ev_cn 17) 9 YJ0_checkIndex_df160.1 ∈ lw_tbl := ev_t3 (List.mem_of_getElem? (i := 40) rfl)
set_option maxRecDepth 100000 in
theorem lkj_16_1059 : Cond.methodLink (ev_cn 16) 1059 YJ3_checkIndex_8e157.1 ∈ lw_tbl := ev_t3 (List.mem_of_getElem? (i := 45) rfl)
set_option maxRecDepth 100000 in
theorem lkj_10_65 : Cond.methodLink (ev_cn 10) 65 YJ0_charAt_5068e.1 ∈ lw_tbl := ev_t3 (List.mem_of_getElem? (i := 27) rfl)
set_option maxRecDepth 100000 in
theorem flj_v : Cond.fieldLink (ev_cn 16) 9 "java/lang/String" "value" "[B" ∈ lw_tbl := ev_t9 (List.mem_of_getElem? (i := 59) rfl)
set_option maxRecDepth 100000 in
theorem flj_c : Cond.fieldLink (ev_cn 16) 15 "java/lang/String" "coder" "B" ∈ lw_tbl := ev_t9 (List.mem_of_getElem? (i := 58) rfl)
set_option maxRecDepth 100000 in
theorem flj_s : Cond.fieldLink (ev_cn 16) 38 "java/lang/String" "COMPACT_STRINGS" "Z" ∈ lw_tbl := ev_t3 (List.mem_of_getElem? (i := 35) rfl)
set_option maxRecDepth 100000 in
theorem flj_f : Cond.fieldLink (ev_cn 16) 1053 "jdk/internal/util/Preconditions" "SIOOBE_FORMATTER" "Ljava/util/function/BiFunction;" ∈ lw_tbl := ev_t3 (List.mem_of_getElem? (i := 43) rfl)
section EvChar
variable {l : Launch} {Ln : Nat} {xs : Nat → Int32} {S : ev_S} {m : ev_M}
abbrev ev_same (S : ev_S) (m : ev_M) (r : Option Value) : Option Value → ev_S → ev_M → Prop := fun v S' m' => v = r ∧ S' = S ∧ m' = m
theorem ev_chk3 (a b : Int32) (v : Value) (hv : v.category = 1) (d : Nat) (h0 : 0 ≤ a) (h1 : a < b) : Mk l Ln xs YJ3_checkIndex_8e157 d 0 0 [.int a, .int b, v] S m (ev_same S m (some (.int a))) := by
  have e : ev_en [.int a, .int b, v] = [some (.int a), some (.int b), some v] := by
    show some (Value.int a) :: some (Value.int b) :: (if v.category = 2 then [some v, none] else [some v]) = _
    rw [if_neg (by rw [hv]; decide)]
  refine Mk.ofF (by decide +kernel) rfl (by rw [e]; exact Nat.le_refl 3) ?_
  rw [e]
  refine Wk.run (pc' := 1) (ls' := [some (.int a), some (.int b), some v]) (st' := [.int a]) (m' := m) [(.iload_n 0, 0, 0, 0, 0)] (by decide +kernel) rfl ?_
  refine Wk.if_lt (off := 8) (tgt := 9) (ev_is_ok (by decide +kernel)) (by decide) (fun z => absurd h0 (Int32.not_le.mpr z)) (fun _ => ?_)
  refine Wk.run (pc' := 6) (ls' := [some (.int a), some (.int b), some v]) (st' := [.int b, .int a]) (m' := m) [(.iload_n 0, 0, 0, 0, 0), (.iload_n 1, 0, 0, 0, 0)] (by decide +kernel) rfl ?_
  refine Wk.ic_lt (off := 10) (tgt := 16) (ev_is_ok (by decide +kernel)) (by decide) (fun _ => ?_) (fun z => absurd h1 z)
  refine Wk.run (pc' := 17) (ls' := [some (.int a), some (.int b), some v]) (st' := [.int a]) (m' := m) [(.iload_n 0, 0, 0, 0, 0)] (by decide +kernel) rfl ?_
  exact Wk.iret rfl (ev_is_ok (by decide +kernel)) ⟨rfl, rfl, rfl⟩
theorem ev_chk0 (a b : Int32) (d : Nat) (hd : 1 ≤ d) (h0 : 0 ≤ a) (h1 : a < b) : Mk l Ln xs YJ0_checkIndex_df160 d 0 0 [.int a, .int b] S m (ev_same S m none) := by
  refine Mk.ofF (by decide +kernel) rfl (by simp [ev_en, Value.category]) ?_
  refine Wk.run (pc' := 2) (ls' := [some (.int a), some (.int b)]) (st' := [.int b, .int a]) (m' := m) [(.iload_n 0, 0, 0, 0, 0), (.iload_n 1, 0, 0, 0, 0)] (by decide +kernel) rfl ?_
  refine Wk.getsF (idx := 1053) flj_f (ev_is_ok (by decide +kernel)) ?_ ?_
  · refine Wk.callS (av := [.int a, .int b, .null]) (st := []) rfl (ev_is_ok (i := .invokestatic 1059) (by decide +kernel)) mwJ3_checkIndex_8e157 swJ3_checkIndex_8e157 lkj_16_1059 (ev_chk3 a b .null rfl 0 h0 h1) (by omega) (Nat.le_refl _) (Nat.le_refl _) rfl (by decide) (fun v S' m' q => ?_)
    obtain ⟨rfl, rfl, rfl⟩ := q
    refine Wk.run (pc' := 9) (ls' := [some (.int a), some (.int b)]) (st' := []) (m' := m') [(.pop, 0, 0, 0, 0)] (by decide +kernel) rfl ?_
    exact Wk.vret rfl (ev_is_ok (by decide +kernel)) ⟨rfl, rfl, rfl⟩
  · refine Wk.callS (av := [.int a, .int b, .ref 5003]) (st := []) rfl (ev_is_ok (i := .invokestatic 1059) (by decide +kernel)) mwJ3_checkIndex_8e157 swJ3_checkIndex_8e157 lkj_16_1059 (ev_chk3 a b (.ref 5003) rfl 0 h0 h1) (by omega) (Nat.le_refl _) (Nat.le_refl _) rfl (by decide) (fun v S' m' q => ?_)
    obtain ⟨rfl, rfl, rfl⟩ := q
    refine Wk.run (pc' := 9) (ls' := [some (.int a), some (.int b)]) (st' := []) (m' := m') [(.pop, 0, 0, 0, 0)] (by decide +kernel) rfl ?_
    exact Wk.vret rfl (ev_is_ok (by decide +kernel)) ⟨rfl, rfl, rfl⟩
def ev_ch (i : Int32) : Int32 := ev_bytes.getD i.toNatClampNeg 0
set_option maxRecDepth 100000 in
theorem ev_ch_ok : ∀ j, j < 174 → ((ev_bytes.getD j 0 &&& 255).toUInt32 % 65536).toInt32 = ev_bytes.getD j 0 ∧ narrow .char (.int (ev_bytes.getD j 0)) = .int (ev_bytes.getD j 0) := by decide +kernel
theorem ev_in_174 {i : Int32} (hi : ev_in i 174) : 0 ≤ i ∧ i < 174 := by
  refine ⟨hi.1, ?_⟩
  have h1 : 0 ≤ i.toInt := by have := Int32.le_iff_toInt_le.mp hi.1; simpa using this
  have h2 := hi.2
  rw [Int32.lt_iff_toInt_lt]
  rw [Int32.toNatClampNeg] at h2
  have : (174 : Int32).toInt = 174 := by decide
  omega
theorem ev_lat (i : Int32) (hi : ev_in i 174) (d : Nat) (hd : 2 ≤ d) : Mk l Ln xs YJ1_charAt_3b067 d 0 0 [.ref 5002, .int i] S m (ev_same S m (some (.int (ev_ch i)))) := by
  refine Mk.ofF (by decide +kernel) rfl (by simp [ev_en, Value.category]) ?_
  refine Wk.run (pc' := 2) (ls' := [some (.ref 5002), some (.int i)]) (st' := [.ref 5002, .int i]) (m' := m) [(.iload_n 1, 0, 0, 0, 0), (.aload_n 0, 0, 0, 0, 0)] (by decide +kernel) rfl ?_
  refine Wk.strL (ev_is_ok (by decide +kernel)) ?_
  refine Wk.callS (av := [.int i, .int 174]) (st := []) rfl (ev_is_ok (i := .invokestatic 9) (by decide +kernel)) mwJ0_checkIndex_df160 swJ0_checkIndex_df160 lkj_17_9 (ev_chk0 i 174 1 (by decide) (ev_in_174 hi).1 (ev_in_174 hi).2) (by omega) (Nat.le_refl _) (Nat.le_refl _) rfl (by decide) (fun v S' m' q => ?_)
  obtain ⟨rfl, rfl, rfl⟩ := q
  refine Wk.run (pc' := 8) (ls' := [some (.ref 5002), some (.int i)]) (st' := [.int i, .ref 5002]) (m' := m') [(.aload_n 0, 0, 0, 0, 0), (.iload_n 1, 0, 0, 0, 0)] (by decide +kernel) rfl ?_
  refine Wk.strB (ev_is_ok (by decide +kernel)) hi ?_
  refine Wk.run (pc' := 13) (ls' := [some (.ref 5002), some (.int i)]) (st' := [.int (ev_bytes.getD i.toNatClampNeg 0 &&& 255)]) (m' := m') [(.sipush 255, 0, 0, 255, 0), (.iand, 0, 0, 0, 0)] (by decide +kernel) rfl ?_
  refine Wk.i2c (ev_is_ok (by decide +kernel)) ?_
  rw [(ev_ch_ok _ hi.2).1]
  exact Wk.cret rfl (ev_ch_ok _ hi.2).2 (ev_is_ok (by decide +kernel)) ⟨rfl, rfl, rfl⟩
theorem ev_isLat (d : Nat) : Mk l Ln xs YJ0_isLatin1_aae02 d 0 0 [.ref 5001] S m (ev_same S m (some (.int 1))) := by
  refine Mk.ofF (by decide +kernel) rfl (by simp [ev_en, Value.category]) ?_
  refine Wk.gets1 (idx := 38) flj_s (ev_is_ok (by decide +kernel)) ?_
  refine Wk.if_eq (off := 14) (tgt := 17) (ev_is_ok (by decide +kernel)) (by decide) (fun z => absurd z (by decide)) (fun _ => ?_)
  refine Wk.run (pc' := 7) (ls' := [some (.ref 5001)]) (st' := [.ref 5001]) (m' := m) [(.aload_n 0, 0, 0, 0, 0)] (by decide +kernel) rfl ?_
  refine Wk.strC (idx := 15) flj_c (ev_is_ok (by decide +kernel)) ?_
  refine Wk.if_ne (off := 7) (tgt := 17) (ev_is_ok (by decide +kernel)) (by decide) (fun z => absurd rfl z) (fun _ => ?_)
  refine Wk.run (pc' := 14) (ls' := [some (.ref 5001)]) (st' := [.int 1]) (m' := m) [(.iconst 1, 0, 0, 1, 0)] (by decide +kernel) rfl ?_
  refine Wk.gto (off := 4) (tgt := 18) (ev_is_ok (by decide +kernel)) (by decide) ?_
  exact Wk.zret rfl (Or.inr rfl) (ev_is_ok (by decide +kernel)) ⟨rfl, rfl, rfl⟩
theorem ev_charAt (i : Int32) (hi : ev_in i 174) (d : Nat) (hd : 3 ≤ d) : Mk l Ln xs YJ0_charAt_5068e d 0 0 [.ref 5001, .int i] S m (ev_same S m (some (.int (ev_ch i)))) := by
  refine Mk.ofF (by decide +kernel) rfl (by simp [ev_en, Value.category]) ?_
  refine Wk.run (pc' := 1) (ls' := [some (.ref 5001), some (.int i)]) (st' := [.ref 5001]) (m' := m) [(.aload_n 0, 0, 0, 0, 0)] (by decide +kernel) rfl ?_
  refine Wk.callStr (av := []) (st := []) rfl (ev_is_ok (i := .invokevirtual 492) (by decide +kernel)) mwJ0_isLatin1_aae02 iwJ0_isLatin1_aae02 vwJ0_isLatin1_aae02 lkj_16_492 (ev_isLat 0) (by omega) rfl rfl (by decide) (fun v S' m' q => ?_)
  obtain ⟨rfl, rfl, rfl⟩ := q
  refine Wk.if_eq (off := 12) (tgt := 16) (ev_is_ok (by decide +kernel)) (by decide) (fun z => absurd z (by decide)) (fun _ => ?_)
  refine Wk.run (pc' := 8) (ls' := [some (.ref 5001), some (.int i)]) (st' := [.ref 5001]) (m' := m') [(.aload_n 0, 0, 0, 0, 0)] (by decide +kernel) rfl ?_
  refine Wk.strV (idx := 9) flj_v (ev_is_ok (by decide +kernel)) ?_
  refine Wk.run (pc' := 12) (ls' := [some (.ref 5001), some (.int i)]) (st' := [.int i, .ref 5002]) (m' := m') [(.iload_n 1, 0, 0, 0, 0)] (by decide +kernel) rfl ?_
  refine Wk.callS (av := [.ref 5002, .int i]) (st := []) rfl (ev_is_ok (i := .invokestatic 495) (by decide +kernel)) mwJ1_charAt_3b067 swJ1_charAt_3b067 lkj_16_495 (ev_lat i hi 2 (by decide)) (by omega) (Nat.le_refl _) (Nat.le_refl _) rfl (by decide) (fun v S'' m'' q => ?_)
  obtain ⟨rfl, rfl, rfl⟩ := q
  exact Wk.cret rfl (ev_ch_ok _ hi.2).2 (ev_is_ok (by decide +kernel)) ⟨rfl, rfl, rfl⟩
variable {τ : Type} {en : τ → Option Value} {Y : ev_Y} {d pc : Nat} {ls : List (Option Value)} {st : List Value} {o o1 o2 : Option (τ × ev_M)}
theorem Ev.ldcS (hY : Y.2.2.2.2 = 10) (h : ev_is Y pc (.ldc 63) 2 = true) (k : Ev en l Ln xs Y d S (pc + 2) ls (.ref 5001 :: st) m o) : Ev en l Ln xs Y d S pc ls st m o := fun r m' q => Wk.ldcS hY (ev_is_ok h) (k r m' q)
theorem Ev.chr {i : Int32} (hY : Y.2.2.2.2 = 10) (hdd : 4 ≤ d) (h : ev_is Y pc (.invokevirtual 65) 3 = true) (hrm : (st.map fun v => v.category).sum ≤ 8) (k : Ev en l Ln xs Y d S (pc + 3) ls (.int (ev_ch i) :: st) m o) : Ev en l Ln xs Y d S pc ls (.int i :: .ref 5001 :: st) m (if ev_in i 174 then o else .none) := by
  intro r m' q
  by_cases z : ev_in i 174
  · rw [if_pos z] at q
    refine Wk.callStr (av := [.int i]) (st := st) rfl (ev_is_ok (i := .invokevirtual 65) h) mwJ0_charAt_5068e iwJ0_charAt_5068e vwJ0_charAt_5068e (by rw [hY]; exact lkj_10_65) (ev_charAt i z 3 (by decide)) (by omega) rfl rfl hrm (fun v S' m2 hq => ?_)
    obtain ⟨rfl, rfl, rfl⟩ := hq
    exact k r m' q
  · rw [if_neg z] at q; cases q
/-- a reference that may be null, tested -/
def ev_nl (Y : ev_Y) (pc : Nat) (t : Nat) : Bool := match decode Y.2.1 pc with
  | .ok (.ifnull off, n) => (n == 3) && decide ((pc : Int) + off = (t : Int))
  | _ => false
theorem Ev.getN {a ci k idx t : Nat} (hlk : ev_lk Y.2.2.2.2 idx = some (ci, k)) (h : ev_is Y pc (.getfield idx) 3 = true) (ha : a < S.1) (hs : (S.2.1 a).1 = ci) (hk : k < (S.2.1 a).2) (hdy : ev_dyn ci k = true) (hn : ev_nl Y (pc + 3) t = true) (k0 : Ev en l Ln xs Y d S t ls st m o1) (k1 : Ev en l Ln xs Y d S (pc + 3 + 3) ls st m o2) : Ev en l Ln xs Y d S pc ls (.ref a :: st) m (if m.1 a k = 0 then o1 else o2) := by
  intro r m' q
  have hg : ev_gv S m ci a k = if m.1 a k = 0 then .null else .ref (m.1 a k).toNatClampNeg := by unfold ev_gv; rw [if_pos hdy]
  unfold ev_nl at hn
  split at hn
  · rename_i off n hq
    simp only [Bool.and_eq_true, decide_eq_true_eq, beq_iff_eq] at hn
    obtain ⟨rfl, h3⟩ := hn
    refine Wk.getf hlk (ev_is_ok h) ha hs hk ?_
    rw [hg]
    by_cases z : m.1 a k = 0
    · rw [if_pos z] at q ⊢
      intro D cA base ext p e R s mi args below meth c H locs cells slots als hC h1 h2 h3' h4 hR hF hL
      exact lv_ifnullN hC.1 hC.2.1 hq h3 (k0 r m' q D cA base ext p e R s mi args below meth c H locs cells slots als hC h1 h2 h3' h4 hR hF hL)
    · rw [if_neg z] at q ⊢
      intro D cA base ext p e R s mi args below meth c H locs cells slots als hC h1 h2 h3' h4 hR hF hL
      exact lv_ifnull hC.1 hC.2.1 hq (k1 r m' q D cA base ext p e R s mi args below meth c H locs cells slots als hC h1 h2 h3' h4 hR hF hL)
  · cases hn
end EvChar
