-- ===== end of PART A; then your names; then what follows =====
/-! THE CLAIM OUT OF ONE WALK OF THE LAW'S BODY. Your part is whole_start (and what it stands on); all else here is the same for every law, but numbers. -/
def R_law : String := "AllIsWellLaw"
def lw_P (b : Addr) (xs : List Int32) (args : Array Value) (s : State) : Prop := args = #[.ref b] ∧ s.IntsAt b xs ∧ xs.length ≤ 3072 ∧ (Jvm.Cond.and given_1 narrow_1).before args s = true
def lw_Q (_ : Array Value) (s : State) (o : Outcome) (t : State) : Prop := o = .returned (some (.int 1)) ∧ Framed s o t [] 600000 7302249
def lw_Z (below : List Frame) (a : Array Value) (s : State) : State → Prop := fun t => ∃ o, t.status = .running ∧ Ended t below o ∧ lw_Q a s o t
/-- the law's own end, with 1 on the stack, nothing written that was there before, its room as the claim has it -/
theorem lw_ret {p : Program} {l : Launch} {e : Env} {s : State} {m : MethodId} {below : List Frame} {meth : Method} {c : Code} {b : Nat} (hx : p.tables.exec = Jvm.exec) (hb : c.code = code) (hr : meth.sig.returnType = ret) (hlocks : meth.locks = false) {pc : Nat} {H : Heap} {ls : Array Slot} (hdg : decode code pc = .ok (.ireturn, 1)) : W p l e room_1 s m #[Value.ref b] below meth c H [] 600000 7302249 (lw_Z below #[Value.ref b] s) (F0 m pc ls [.int 1]) := by
  intro T hT X
  obtain ⟨fs, hret, hrun, hended, hW, hframe⟩ := X.leave (v := some (.int 1)) (hlocks := hlocks) (fun h => by rw [hr] at h; cases h)
  have hmeth' : T.vm.method? m = some meth := X.method'
  refine ⟨T.setFrames fs, ?_, .returned (some (.int 1)), hrun, hended, rfl, ⟨_, rfl⟩, hW, hframe⟩
  jvm_step X.here [X.here.top, hx, hb, hdg, hmeth', hr, ret, narrow_b1]
  (try refine ⟨rfl, ?_⟩); (try refine ⟨rfl, ?_⟩)
  first | (intro acts; rw [hret _ acts rfl rfl rfl]) | rw [hret _ _ rfl rfl rfl]
  exact Steps.refl _
/-- what holds at the law's entry: the machine, the code, the tables' words (any of lw_tbl by 'hts w (by decide +kernel)'), the script of L ints xs at the cell b, what the Statement gives of the start (any of its parts by flat_of_before) -/
def lw_At (p : Program) (s : State) (m : MethodId) (meth : Method) (c : Code) (b L : Nat) (xs : Nat → Int32) : Prop :=
  p.tables.exec = Jvm.exec ∧ c.code = code ∧ meth.sig.returnType = ret ∧ c.maxLocals = 4 ∧ s.vm.findClass R_law = some m.cls ∧ (∀ w ∈ lw_tbl, w.before #[Value.ref b] s = true) ∧ va_X b L xs s s.heap ∧ b < s.heap.size ∧ meth.locks = false ∧ (Jvm.Cond.and given_1 narrow_1).before #[Value.ref b] s = true ∧ meth.name = "law"

set_option maxRecDepth 100000 in
theorem wj_0 : Cond.instantiable RX0 5 ∈ lw_tbl := ev_t2 (List.mem_of_getElem? (i := 59) rfl)
set_option maxRecDepth 100000 in
theorem wj_1 : Cond.instantiable RX1 15 ∈ lw_tbl := ev_t1 (List.mem_of_getElem? (i := 29) rfl)
set_option maxRecDepth 100000 in
theorem wj_2 : Cond.instantiable RX2 2 ∈ lw_tbl := ev_t1 (List.mem_of_getElem? (i := 35) rfl)
set_option maxRecDepth 100000 in
theorem wj_3 : Cond.instantiable RX3 4 ∈ lw_tbl := ev_t1 (List.mem_of_getElem? (i := 178) rfl)
set_option maxRecDepth 100000 in
theorem wj_4 : Cond.instantiable RX4 10 ∈ lw_tbl := ev_t2 (List.mem_of_getElem? (i := 86) rfl)
set_option maxRecDepth 100000 in
theorem wj_5 : Cond.instantiable RX5 4 ∈ lw_tbl := ev_t1 (List.mem_of_getElem? (i := 184) rfl)
set_option maxRecDepth 100000 in
theorem wj_6 : Cond.instantiable RX6 4 ∈ lw_tbl := ev_t2 (List.mem_of_getElem? (i := 129) rfl)
set_option maxRecDepth 100000 in
theorem wj_7 : Cond.instantiable RX7 7 ∈ lw_tbl := ev_t1 (List.mem_of_getElem? (i := 225) rfl)
set_option maxRecDepth 100000 in
theorem wj_8 : Cond.instantiable RX8 6 ∈ lw_tbl := ev_t1 (List.mem_of_getElem? (i := 233) rfl)
set_option maxRecDepth 100000 in
theorem wj_9 : Cond.instantiable RX9 5 ∈ lw_tbl := ev_t1 (List.mem_of_getElem? (i := 155) rfl)
set_option maxRecDepth 100000 in
theorem wj_10 : Cond.instantiable RX10 8 ∈ lw_tbl := ev_t1 (List.mem_of_getElem? (i := 115) rfl)
set_option maxRecDepth 100000 in
theorem wj_11 : Cond.instantiable RX11 18 ∈ lw_tbl := ev_t1 (List.mem_of_getElem? (i := 21) rfl)
set_option maxRecDepth 100000 in
theorem wj_12 : Cond.instantiable RX12 104 ∈ lw_tbl := ev_t5 (List.mem_of_getElem? (i := 186) rfl)
theorem wj_all (c : Nat) (q : vw_C) (h : vwCl[c]? = some q) : Cond.instantiable q.1 q.2.2 ∈ lw_tbl := by
  match c, h with
  | 0, h => cases h; exact wj_0
  | 1, h => cases h; exact wj_1
  | 2, h => cases h; exact wj_2
  | 3, h => cases h; exact wj_3
  | 4, h => cases h; exact wj_4
  | 5, h => cases h; exact wj_5
  | 6, h => cases h; exact wj_6
  | 7, h => cases h; exact wj_7
  | 8, h => cases h; exact wj_8
  | 9, h => cases h; exact wj_9
  | 10, h => cases h; exact wj_10
  | 11, h => cases h; exact wj_11
  | 12, h => cases h; exact wj_12
  | c + 13, h => simp [vwCl] at h
set_option maxRecDepth 100000 in
theorem wz_int : Cond.arrayClass .int ∈ lw_tbl := ev_t1 (List.mem_of_getElem? (i := 50) rfl)
set_option maxRecDepth 100000 in
theorem wz_char : Cond.arrayClass .char ∈ lw_tbl := ev_t7 (List.mem_of_getElem? (i := 24) rfl)
set_option maxRecDepth 100000 in
theorem wz_long : Cond.arrayClass .long ∈ lw_tbl := ev_t2 (List.mem_of_getElem? (i := 208) rfl)
set_option maxRecDepth 100000 in
theorem wz_boolean : Cond.arrayClass .boolean ∈ lw_tbl := ev_t7 (List.mem_of_getElem? (i := 25) rfl)
set_option maxRecDepth 100000 in
theorem wz_over : Cond.arrayOver (.object "AllIsWell$State") ∈ lw_tbl := ev_t2 (List.mem_of_getElem? (i := 135) rfl)
set_option maxRecDepth 100000 in
theorem wz_str : Cond.stringRef "AllIsWell$Tape" 63 ev_text ∈ lw_tbl := ev_t3 (List.mem_of_getElem? (i := 26) rfl)
set_option maxRecDepth 100000 in
theorem wz_ls1 : Cond.laysStatic "java/lang/String" "COMPACT_STRINGS" "Z" ∈ lw_tbl := ev_t3 (List.mem_of_getElem? (i := 36) rfl)
set_option maxRecDepth 100000 in
theorem wz_ls1i : Cond.initialized "java/lang/String" ∈ lw_tbl := ev_t1 (List.mem_of_getElem? (i := 14) rfl)
set_option maxRecDepth 100000 in
theorem wz_ls2 : Cond.laysStatic "jdk/internal/util/Preconditions" "SIOOBE_FORMATTER" "Ljava/util/function/BiFunction;" ∈ lw_tbl := ev_t3 (List.mem_of_getElem? (i := 44) rfl)
set_option maxRecDepth 100000 in
theorem wz_ls2i : Cond.initialized "jdk/internal/util/Preconditions" ∈ lw_tbl := ev_t1 (List.mem_of_getElem? (i := 16) rfl)
set_option maxRecDepth 100000 in
theorem wl_7 : Cond.classLink (ev_cn 13) 7 RX11 ∈ lw_tbl := ev_t1 (List.mem_of_getElem? (i := 20) rfl)
set_option maxRecDepth 100000 in
theorem wl_10 : Cond.classLink (ev_cn 13) 10 RX12 ∈ lw_tbl := ev_t5 (List.mem_of_getElem? (i := 185) rfl)
set_option maxRecDepth 100000 in
theorem wl_n11 : Cond.initialized RX11 ∈ lw_tbl := ev_t1 (List.mem_of_getElem? (i := 1) rfl)
set_option maxRecDepth 100000 in
theorem wl_n12 : Cond.initialized RX12 ∈ lw_tbl := ev_t1 (List.mem_of_getElem? (i := 13) rfl)
set_option maxRecDepth 100000 in
theorem wl_m9 : Cond.methodLink (ev_cn 13) 9 YX11_init.1 ∈ lw_tbl := ev_t1 (List.mem_of_getElem? (i := 22) rfl)
set_option maxRecDepth 100000 in
theorem wl_m12 : Cond.methodLink (ev_cn 13) 12 YX12_init.1 ∈ lw_tbl := ev_t5 (List.mem_of_getElem? (i := 187) rfl)
theorem Wk.wide {l : Launch} {Ln : Nat} {xs : Nat → Int32} {Y : ev_Y} {d kc ks pc : Nat} {ls : List (Option Value)} {st : List Value} {S : ev_S} {m : ev_M} {P : Option Value → ev_S → ev_M → Prop} (k : Wk l Ln xs Y d 0 0 pc ls st S m P) : Wk l Ln xs Y d kc ks pc ls st S m P := by
  intro D cA base ext p e R s mi args below meth c H locs cells slots als hC h1 h2 h3 h4 hR hF hL
  exact W.widen (k := cells + kc) (n := slots + ks) (Nat.le_add_right _ _) (Nat.le_add_right _ _) (k D cA base ext p e R s mi args below meth c H locs (cells + kc) (slots + ks) als hC h1 h2 (by omega) (by omega) hR hF hL)
/-- two layouts that agree where it counts -/
def ev_agree (S S' : ev_S) : Bool := decide (S.1 = S'.1) && (List.range S.1).all (fun i => decide (S.2.1 i = S'.2.1 i) && (decide (100 ≤ (S.2.1 i).1 ∧ (S.2.1 i).1 ≠ 104) || (List.range (S.2.1 i).2).all (fun k => decide (S.2.2 i k = S'.2.2 i k))))
theorem ev_R.conv {D : va_G} {cA : Nat → ClassId} {base : Nat} {ext : Nat → Nat} {S S' : ev_S} {m : ev_M} {H : Heap} (h : ev_agree S S' = true) (h104 : ∀ i, i < S.1 → (S.2.1 i).1 ≤ 104) (hR : ev_R D cA base ext S m H) : ev_R D cA base ext S' m H := by
  unfold ev_agree at h
  rw [Bool.and_eq_true] at h
  have e1 := of_decide_eq_true h.1
  refine ⟨by rw [← e1]; exact hR.1, by rw [← e1]; exact hR.2.1, fun i hi => ?_⟩
  rw [← e1] at hi
  have h2 := List.all_eq_true.mp h.2 i (List.mem_range.mpr hi)
  rw [Bool.and_eq_true] at h2
  have e2 := of_decide_eq_true h2.1
  have hat := hR.2.2 i hi
  have h4 := h104 i hi
  by_cases hk : 100 ≤ (S.2.1 i).1 ∧ (S.2.1 i).1 ≠ 104
  · have e : ev_ent cA (ev_al base ext) S' m i = ev_ent cA (ev_al base ext) S m i := by
      unfold ev_ent
      rw [← e2]
      have hc1 : ¬ (S.2.1 i).1 < 100 := by omega
      rw [if_neg hc1, if_neg hc1]
      by_cases q0 : (S.2.1 i).1 = 100
      · rw [if_pos q0, if_pos q0]
      · rw [if_neg q0, if_neg q0]
        by_cases q1 : (S.2.1 i).1 = 101
        · rw [if_pos q1, if_pos q1]
        · rw [if_neg q1, if_neg q1]
          by_cases q2 : (S.2.1 i).1 = 102
          · rw [if_pos q2, if_pos q2]
          · rw [if_neg q2, if_neg q2]
            have q3 : (S.2.1 i).1 = 103 := by omega
            rw [if_pos q3, if_pos q3]
    rw [e]; exact hat
  · have h3 : ∀ k, k < (S.2.1 i).2 → S.2.2 i k = S'.2.2 i k := by
      have h5 := h2.2
      rw [Bool.or_eq_true] at h5
      rcases h5 with h5 | h5
      · exact absurd (of_decide_eq_true h5) hk
      · exact fun k hk => of_decide_eq_true (List.all_eq_true.mp h5 k (List.mem_range.mpr hk))
    by_cases hc : (S.2.1 i).1 < 100
    · have e : ev_ent cA (ev_al base ext) S' m i = ev_ent cA (ev_al base ext) S m i := by
        rw [ev_ent_o hc, ev_ent_o (by rw [← e2]; exact hc), ← e2]
        have : (List.range (S.2.1 i).2).map (fun k => ev_v (ev_al base ext) (ev_gv S' m (S.2.1 i).1 i k)) = (List.range (S.2.1 i).2).map (fun k => ev_v (ev_al base ext) (ev_gv S m (S.2.1 i).1 i k)) := by
          apply List.map_congr_left
          intro k hk
          unfold ev_gv
          rw [h3 k (List.mem_range.mp hk)]
        rw [this]
      rw [e]; exact hat
    · have q4 : (S.2.1 i).1 = 104 := by omega
      have es : S.2.1 i = (104, (S.2.1 i).2) := by rw [← q4]
      have es' : S'.2.1 i = (104, (S.2.1 i).2) := by rw [← e2, ← q4]
      rw [ev_ent_a es] at hat
      rw [ev_ent_a es']
      have hat : H[base + i]? = some (vp_cell (cA 4) ((S.2.1 i).2, .inr (.inr (.inr (.inr (fun k => (S.2.2 i k).map (ev_al base ext))))))) := hat
      show H[base + i]? = some (vp_cell (cA 4) ((S.2.1 i).2, .inr (.inr (.inr (.inr (fun k => (S'.2.2 i k).map (ev_al base ext)))))))
      rw [hat, vp_cell_q, vp_cell_q]
      congr 1
      unfold arrV
      congr 1
      apply congrArg
      funext j
      dsimp only
      rw [h3 j.val j.isLt]
theorem Wk.conv {l : Launch} {Ln : Nat} {xs : Nat → Int32} {Y : ev_Y} {d kc ks pc : Nat} {ls : List (Option Value)} {st : List Value} {S S' : ev_S} {m : ev_M} {P : Option Value → ev_S → ev_M → Prop} (h : ev_agree S S' = true) (h104 : ∀ i, i < S.1 → (S.2.1 i).1 ≤ 104) (k : Wk l Ln xs Y d kc ks pc ls st S' m P) : Wk l Ln xs Y d kc ks pc ls st S m P := by
  intro D cA base ext p e R s mi args below meth c H locs cells slots als hC h1 h2 h3 h4 hR hF hL
  exact k D cA base ext p e R s mi args below meth c H locs cells slots als hC h1 h2 h3 h4 (hR.conv h h104) hF hL
set_option maxRecDepth 1000000 in
theorem ev_agree_x : ev_agree cS364 Sx = true := by decide +kernel
set_option maxRecDepth 1000000 in
theorem ev_104_x : ∀ i, i < cS364.1 → (cS364.2.1 i).1 ≤ 104 := by decide +kernel
set_option maxRecDepth 100000 in
set_option maxHeartbeats 4000000 in
theorem law_wk {l : Launch} {Ln : Nat} {xs : Nat → Int32} {d : Nat} (f : Nat) (m' : ev_M) (h : FL_law_L18 f Ln xs (fun m => some (1, m)) f 0 cM355 = some (1, m')) (hd : 200 ≤ d) : Wk l Ln xs YL_law d 181 29957 0 [some (.ref 5000), none, none, none] [] cS0 cM0 (fun v _ _ => v = some (.int 1)) := by
  refine Wk.new (ci := 11) (q := (RX11, TX11, 18)) rfl (ev_is_ok (i := .new 7) (by decide +kernel)) wl_7 wj_11 wl_n11 (by decide +kernel) rfl rfl rfl (by decide) (by decide) ?_
  show Wk l Ln xs YL_law d 180 29939 3 [some (.ref 5000), none, none, none] [.ref 0] cS1 cM0 _
  refine Wk.run (pc' := 4) (ls' := [some (.ref 5000), none, none, none]) (st' := [.ref 0, .ref 0]) (m' := cM0) [(.dup, 0, 0, 0, 0)] (by decide +kernel) rfl ?_
  refine Wk.callI (av := []) (a := 0) (st := [.ref 0]) rfl (ev_is_ok (i := .invokespecial 9) (by decide +kernel)) mwX11_init iwX11_init rfl rfl wl_m9 (KC1_X11_init (d := 3) (by decide)) (by omega) (by decide) (by decide) (by decide +kernel) rfl (Nat.le_of_ble_eq_true rfl) (fun v S2 m2 z => ?_)
  obtain ⟨rfl, rfl, rfl⟩ := z
  show Wk l Ln xs YL_law d 69 16744 7 [some (.ref 5000), none, none, none] [.ref 0] cS227 cM155 _
  refine Wk.run (pc' := 8) (ls' := [some (.ref 5000), some (.ref 0), none, none]) (st' := []) (m' := cM155) [(.astore_n 1, 0, 0, 0, 0)] (by decide +kernel) rfl ?_
  refine Wk.new (ci := 12) (q := (RX12, TX12, 104)) rfl (ev_is_ok (i := .new 10) (by decide +kernel)) wl_10 wj_12 wl_n12 (by decide +kernel) rfl rfl rfl (by decide) (by decide) ?_
  show Wk l Ln xs YL_law d 68 16640 11 [some (.ref 5000), some (.ref 0), none, none] [.ref 112] cS228 cM155 _
  refine Wk.run (pc' := 12) (ls' := [some (.ref 5000), some (.ref 0), none, none]) (st' := [.ref 112, .ref 112]) (m' := cM155) [(.dup, 0, 0, 0, 0)] (by decide +kernel) rfl ?_
  refine Wk.callI (av := []) (a := 112) (st := [.ref 112]) rfl (ev_is_ok (i := .invokespecial 12) (by decide +kernel)) mwX12_init iwX12_init rfl rfl wl_m12 (KC40_X12_init (d := 1) (by decide)) (by omega) (by decide) (by decide) (by decide +kernel) rfl (Nat.le_of_ble_eq_true rfl) (fun v S2 m2 z => ?_)
  obtain ⟨rfl, rfl, rfl⟩ := z
  show Wk l Ln xs YL_law d 0 0 15 [some (.ref 5000), some (.ref 0), none, none] [.ref 112] cS364 cM355 _
  refine Wk.conv ev_agree_x ev_104_x ?_
  refine Wk.run (pc' := 18) (ls' := [some (.ref 5000), some (.ref 0), some (.ref 112), some (.int 0)]) (st' := []) (m' := cM355) [(.astore_n 2, 0, 0, 0, 0), (.iconst 0, 0, 0, 0, 0), (.istore_n 3, 0, 0, 0, 0)] (by decide +kernel) rfl ?_
  have hk : ∀ (em : ev_M), Ev ev_eI l Ln xs YL_law d Sx 1063 [none, none, none, none] [] em ((fun m => some (1, m)) em) := by
    intro em
    refine Ev.run (pc' := 1064) (ls' := [none, none, none, none]) (st' := [.int 1]) (m' := em) [(.iconst 1, 0, 0, 1, 0)] (by decide +kernel) rfl ?_
    exact Ev.iretz rfl rfl (by decide +kernel) (by decide)
  exact Wk.post (fun v S m hq => by obtain ⟨rfl, -, -⟩ := hq; rfl) (EL_law_L18 f (fun m => some (1, m)) hk (by omega) f 0 cM355 1 m' h)

theorem ev_start_K {s : State} {a : Array Value} (hts : ∀ w ∈ lw_tbl, w.before a s = true) : ∃ (D : va_G) (cA : Nat → ClassId), va_K D vwCl (ev_ty cA) s := by
  have h0 : ∀ c : Nat, ∃ r : ClassId × (Nat → Nat), ∀ q, vwCl[c]? = some q → u_Kn s q.1 q.2.1 q.2.2 r.1 r.2 := by
    intro c
    cases hq : vwCl[c]? with
    | none => exact ⟨(0, fun _ => 0), fun q h => by cases h⟩
    | some q =>
      obtain ⟨cc, iS, h⟩ := u_known (C := q.1) (T := q.2.1) (N := q.2.2) (n := q.2.2) hts (ev_cls_in c q hq).1 (hts _ (wj_all c q hq))
      exact ⟨(cc, iS), fun q' h' => by cases h'; exact h⟩
  obtain ⟨ch, hch⟩ := Classical.axiomOfChoice h0
  obtain ⟨c0, k0, p0, a0, b0, d0⟩ := Cond.arrayClass_spec (hts _ wz_int)
  obtain ⟨c1, k1, p1, a1, b1, d1⟩ := Cond.arrayClass_spec (hts _ wz_char)
  obtain ⟨c2, k2, p2, a2, b2, d2⟩ := Cond.arrayClass_spec (hts _ wz_long)
  obtain ⟨c3, k3, p3, a3, b3, d3⟩ := Cond.arrayClass_spec (hts _ wz_boolean)
  obtain ⟨p4, c4, k4, e4, -, b4, d4, a4⟩ := Cond.arrayOver_spec (hts _ wz_over)
  refine ⟨(fun c => (ch c).1, fun c => (ch c).2), fun n => match n with | 0 => c0 | 1 => c1 | 2 => c2 | 3 => c3 | _ => c4, fun c q hq => hch c q hq, fun k q hk => ?_⟩
  match k, hk with
  | 0, hk => cases hk; exact ⟨fun n z => ⟨fun k h => (by cases h), k0, b0, p0, d0⟩, a0⟩
  | 1, hk => cases hk; exact ⟨fun n z => ⟨fun k h => (by cases h), k1, b1, p1, d1⟩, a1⟩
  | 2, hk => cases hk; exact ⟨fun n z => ⟨fun k h => (by cases h), k2, b2, p2, d2⟩, a2⟩
  | 3, hk => cases hk; exact ⟨fun n z => ⟨fun k h => (by cases h), k3, b3, p3, d3⟩, a3⟩
  | 4, hk => cases hk; exact ⟨fun n z => ⟨fun k h => (by cases h), k4, b4, p4, d4⟩, k4, p4, b4, d4, e4, a4⟩
  | k + 5, hk => simp at hk
def ev_el (j : Nat) : Cond := Cond.eq (.elem (.field (.string "AllIsWell$Tape" 63) "java/lang/String" "value" "[B") (.int (Int32.ofNat j))) (.int (ev_bytes.getD j 0))
set_option maxRecDepth 1000000 in
theorem ev_elems0 : (flatC narrow_1).drop 11 = (List.range 174).map ev_el := by decide +kernel
theorem ev_elems (j : Nat) (hj : j < 174) : ev_el j ∈ flatC (Jvm.Cond.and given_1 narrow_1) := by
  have h : ev_el j ∈ (flatC narrow_1).drop 11 := by rw [ev_elems0]; exact List.mem_map.mpr ⟨j, List.mem_range.mpr hj, rfl⟩
  exact List.mem_append_right (flatC given_1) (List.mem_of_mem_drop h)
set_option maxRecDepth 1000000 in
theorem ev_start_O {s : State} {b L : Nat} {xs : Nat → Int32} (hts : ∀ w ∈ lw_tbl, w.before #[Value.ref b] s = true) (hX : va_X b L xs s s.heap) (hb : b < s.heap.size) (hgv : (Jvm.Cond.and given_1 narrow_1).before #[Value.ref b] s = true) : ∃ ext : Nat → Nat, ext 0 = b ∧ ev_O L xs s.heap.size ext s s.heap := by
  have hs := flat_of_before _ hgv
  have hA : ∀ a : Nat, a < s.heap.size → ¬ (fun q => s.heap.size ≤ q) a := fun a h => Nat.not_le.mpr h
  obtain ⟨adK, adV, h1, h2⟩ := vk_Sof (args := #[Value.ref b]) (s := s) (N := 1) (tm := fun _ => .string "AllIsWell$Tape" 63) (len := [174]) (byt := [ev_bytes]) (A := fun q => s.heap.size ≤ q) (fun i hi => by rw [show i = 0 by omega]; decide)
    (fun i hi => hs _ (by decide +kernel)) (fun i hi => hs _ (by decide +kernel)) (fun i hi => hs _ (by decide +kernel)) (fun i hi => by rw [show i = 0 by omega]; exact hs _ (by decide +kernel))
    (fun i hi j hj => by rw [show i = 0 by omega] at hj ⊢; exact hs _ (ev_elems j hj)) (fun i j hi hj hij => absurd (show i = j by omega) hij) hA
  have hz1 := va_Zof (A := fun q => s.heap.size ≤ q) (hts _ wz_ls1) (hts _ wz_ls1i) (va_eqi (hs (Cond.eq (.static "java/lang/String" "COMPACT_STRINGS" "Z") (.int 1)) (by decide +kernel))) hA
  have hz2 := va_Zqof (A := fun q => s.heap.size ≤ q) (hts _ wz_ls2) (hts _ wz_ls2i) (hs (Cond.isRef (.static "jdk/internal/util/Preconditions" "SIOOBE_FORMATTER" "Ljava/util/function/BiFunction;")) (by decide +kernel)) hA
  have hr := vk_R.of (hts _ wz_str) (h2 0 (by decide))
  rcases hz2 with hz2 | ⟨t, hz2⟩
  · refine ⟨fun n => match n with | 0 => b | 1 => adK 0 | _ => adV 0, rfl, hX, hb, Nat.le_refl _, hr, ?_, hz1, Or.inl hz2⟩
    exact ⟨fun i hi => by have := h1.1 i hi; rw [show i = 0 by omega] at this ⊢; exact this, fun i j hi hj _ => by omega⟩
  · refine ⟨fun n => match n with | 0 => b | 1 => adK 0 | 2 => adV 0 | _ => t, rfl, hX, hb, Nat.le_refl _, hr, ?_, hz1, Or.inr hz2⟩
    exact ⟨fun i hi => by have := h1.1 i hi; rw [show i = 0 by omega] at this ⊢; exact this, fun i j hi hj _ => by omega⟩
set_option maxRecDepth 100000 in
set_option maxHeartbeats 4000000 in
theorem ev_whole {p : Program} {e : Env} {s : State} {m : MethodId} {below : List Frame} {meth : Method} {c : Code} (l : Launch) {b L : Nat} {xs : Nat → Int32} (C0 : lw_At p s m meth c b L xs) (f : Nat) (m' : ev_M) (h : FL_law_L18 f L xs (fun m => some (1, m)) f 0 cM355 = some (1, m')) : W p l e room_1 s m #[Value.ref b] below meth c s.heap [] 0 0 (lw_Z below #[Value.ref b] s) (entryFrame m ([Value.ref b] : List Value).toArray 4) := by
  obtain ⟨hx, hb, hr, hml, hown, hts, hX, hbl, hlocks, hgv, hnm⟩ := id C0
  obtain ⟨D, cA, hK⟩ := ev_start_K hts
  obtain ⟨ext, hext, hO⟩ := ev_start_O hts hX hbl hgv
  have hl := lv_entry ([.ref b]) (n := 4) (Nat.le_of_ble_eq_true rfl)
  rw [lg_entry_eq]
  generalize (lg_sl ([.ref b]) ++ List.replicate (4 - (lg_sl ([.ref b])).length) Slot.unset).toArray = als at hl ⊢
  have k := law_wk (l := l) (Ln := L) (xs := xs) (d := 2048) f m' h (by decide) D cA s.heap.size ext p e room_1 s m #[Value.ref b] below meth c s.heap [] 0 0 als ⟨hx, hb, hml, hr, hlocks, hown, hnm, ev_TB.of hts, hK, hO⟩ (by decide) (by decide) (by decide) (by decide) ⟨rfl, by decide, fun i hi => absurd hi (Nat.not_lt_zero i)⟩ ⟨fun _ _ => rfl, fun _ h => by cases h⟩ ⟨hl.1, hl.2.1, fun i v hv => by
    match i, hv with
    | 0, hv => cases hv; show als[0]? = some (.val (.ref (ev_al s.heap.size ext 5000))); rw [show ev_al s.heap.size ext 5000 = ext 0 from rfl, hext]; exact hl.2.2 (0, .ref b) (by simp [lv_args])
    | 1, hv => cases hv
    | 2, hv => cases hv
    | 3, hv => cases hv
    | i + 4, hv => simp at hv⟩
  intro T hT X
  obtain ⟨t, a1, o, b1, b2, ⟨v, S', m2, q1, q2, q3, q4⟩, Lc, hFE, hLc⟩ := k T hT X
  refine ⟨t, a1, o, b1, b2, by rw [q1, q2]; rfl, ?_⟩
  obtain ⟨f1, f2, f3⟩ := hFE
  refine ⟨f1, f2, ?_⟩
  obtain ⟨g1, g2, g3, g4, g5, g6⟩ := f3
  exact ⟨g1, g2, Nat.le_trans g3 (Nat.add_le_add_left (by decide) _), g4, Nat.le_trans g5 (by decide), fun a cc hcc => by
    obtain ⟨c', u1, u2, u3, u4⟩ := g6 a cc hcc
    exact ⟨c', u1, u2, u3, fun i _ => u4 i (fun hmem => absurd (hLc _ hmem) (Nat.not_le.mpr (Array.getElem?_eq_some_iff.mp hcc).1))⟩⟩
