section EvStep
variable {l : Launch} {Ln : Nat} {xs : Nat → Int32} {Y : ev_Y} {d kc ks pc : Nat} {ls : List (Option Value)} {st : List Value} {S : ev_S} {m : ev_M} {P : Option Value → ev_S → ev_M → Prop}
set_option maxHeartbeats 4000000 in
theorem Wk.stp (x : ev_I) {ls' : List (Option Value)} {st' : List Value} {m' : ev_M} (hd : decode Y.2.1 pc = .ok (x.1, ev_ln x.1)) (ho : ev_okA Y.2.2.2.2 x = true) (h : ev_stp Y.2.2.1 S x ls st m = some (ls', st', m')) (kk : Wk l Ln xs Y d kc ks (pc + ev_ln x.1) ls' st' S m' P) : Wk l Ln xs Y d kc ks pc ls st S m P := by
  obtain ⟨i, fa, fb, vi, vl⟩ := x
  dsimp only at hd kk
  cases i
  all_goals (unfold ev_stp at h; dsimp only at h)
  all_goals first
    | (cases h; done)
    | skip
  case iconst n =>
    cases h
    intro D cA base ext p e R s mi args below meth c H locs cells slots als hC h1 h2 h3 h4 hR hF hL
    exact lv_iconst hC.1 hC.2.1 hd (of_decide_eq_true ho) (kk D cA base ext p e R s mi args below meth c H locs cells slots als hC h1 h2 h3 h4 hR hF hL)
  case bipush n =>
    cases h
    intro D cA base ext p e R s mi args below meth c H locs cells slots als hC h1 h2 h3 h4 hR hF hL
    exact lv_bipush hC.1 hC.2.1 hd (of_decide_eq_true ho) (kk D cA base ext p e R s mi args below meth c H locs cells slots als hC h1 h2 h3 h4 hR hF hL)
  case sipush n =>
    cases h
    intro D cA base ext p e R s mi args below meth c H locs cells slots als hC h1 h2 h3 h4 hR hF hL
    exact lv_sipush hC.1 hC.2.1 hd (of_decide_eq_true ho) (kk D cA base ext p e R s mi args below meth c H locs cells slots als hC h1 h2 h3 h4 hR hF hL)
  case lconst n =>
    cases h
    intro D cA base ext p e R s mi args below meth c H locs cells slots als hC h1 h2 h3 h4 hR hF hL
    exact lv_lconst hC.1 hC.2.1 hd (of_decide_eq_true ho) (kk D cA base ext p e R s mi args below meth c H locs cells slots als hC h1 h2 h3 h4 hR hF hL)
  case ldc i =>
    have hw : Cond.constant (ev_cn Y.2.2.2.2) i vi ∈ lw_tbl := by simpa [ev_okA] using ho
    cases h
    intro D cA base ext p e R s mi args below meth c H locs cells slots als hC h1 h2 h3 h4 hR hF hL
    exact lv_ldc hC.1 hC.2.1 hC.2.2.2.2.2.1 (hC.word hw rfl args) hd (kk D cA base ext p e R s mi args below meth c H locs cells slots als hC h1 h2 h3 h4 hR hF hL)
  case ldc_w i =>
    have hw : Cond.constant (ev_cn Y.2.2.2.2) i vi ∈ lw_tbl := by simpa [ev_okA] using ho
    cases h
    intro D cA base ext p e R s mi args below meth c H locs cells slots als hC h1 h2 h3 h4 hR hF hL
    exact lv_ldcw hC.1 hC.2.1 hC.2.2.2.2.2.1 (hC.word hw rfl args) hd (kk D cA base ext p e R s mi args below meth c H locs cells slots als hC h1 h2 h3 h4 hR hF hL)
  case ldc2_w i =>
    have hw : Cond.constantLong (ev_cn Y.2.2.2.2) i vl ∈ lw_tbl := by simpa [ev_okA] using ho
    cases h
    intro D cA base ext p e R s mi args below meth c H locs cells slots als hC h1 h2 h3 h4 hR hF hL
    exact lv_ldc2 hC.1 hC.2.1 hC.2.2.2.2.2.1 (hC.word hw rfl args) hd (kk D cA base ext p e R s mi args below meth c H locs cells slots als hC h1 h2 h3 h4 hR hF hL)
  case iload i =>
    split at h
    · rename_i v hv
      cases h
      intro D cA base ext p e R s mi args below meth c H locs cells slots als hC h1 h2 h3 h4 hR hF hL
      exact lv_iload hC.1 hC.2.1 hd (hL.2.2 i _ (ev_ld_at hv (fun n q => by cases q))) (kk D cA base ext p e R s mi args below meth c H locs cells slots als hC h1 h2 h3 h4 hR hF hL)
    · cases h
  case lload i =>
    split at h
    · rename_i v hv
      cases h
      intro D cA base ext p e R s mi args below meth c H locs cells slots als hC h1 h2 h3 h4 hR hF hL
      exact lv_lload hC.1 hC.2.1 hd (hL.2.2 i _ (ev_ld_at hv (fun n q => by cases q))) (kk D cA base ext p e R s mi args below meth c H locs cells slots als hC h1 h2 h3 h4 hR hF hL)
    · cases h
  case aload i =>
    split at h
    · rename_i v hv
      cases h
      intro D cA base ext p e R s mi args below meth c H locs cells slots als hC h1 h2 h3 h4 hR hF hL
      exact lv_aload hC.1 hC.2.1 hd (hL.2.2 i _ (ev_ld_at hv (fun n q => by cases q))) (kk D cA base ext p e R s mi args below meth c H locs cells slots als hC h1 h2 h3 h4 hR hF hL)
    · cases h
  case iload_n i =>
    split at h
    · rename_i v hv
      cases h
      intro D cA base ext p e R s mi args below meth c H locs cells slots als hC h1 h2 h3 h4 hR hF hL
      exact lv_iload_n hC.1 hC.2.1 hd rfl (hL.2.2 i _ (ev_ld_at hv (fun n q => by cases q))) (kk D cA base ext p e R s mi args below meth c H locs cells slots als hC h1 h2 h3 h4 hR hF hL)
    · cases h
  case lload_n i =>
    split at h
    · rename_i v hv
      cases h
      intro D cA base ext p e R s mi args below meth c H locs cells slots als hC h1 h2 h3 h4 hR hF hL
      exact lv_lload_n hC.1 hC.2.1 hd rfl (hL.2.2 i _ (ev_ld_at hv (fun n q => by cases q))) (kk D cA base ext p e R s mi args below meth c H locs cells slots als hC h1 h2 h3 h4 hR hF hL)
    · cases h
  case aload_n i =>
    split at h
    · rename_i v hv
      cases h
      intro D cA base ext p e R s mi args below meth c H locs cells slots als hC h1 h2 h3 h4 hR hF hL
      exact lv_aload_n hC.1 hC.2.1 hd rfl (hL.2.2 i _ (ev_ld_at hv (fun n q => by cases q))) (kk D cA base ext p e R s mi args below meth c H locs cells slots als hC h1 h2 h3 h4 hR hF hL)
    · cases h
  case istore i =>
    split at h
    · rename_i v st
      split at h
      · rename_i hi
        cases h
        intro D cA base ext p e R s mi args below meth c H locs cells slots als hC h1 h2 h3 h4 hR hF hL
        exact lv_istore hC.1 hC.2.1 hd hL.has hi rfl (fun als2 hl2 => (kk D cA base ext p e R s mi args below meth c H locs cells slots als2 hC h1 h2 h3 h4 hR hF (ev_L.st1 (v := .int v) hl2)))
      · cases h
    · cases h
  case istore_n i =>
    split at h
    · rename_i v st
      split at h
      · rename_i hi
        cases h
        intro D cA base ext p e R s mi args below meth c H locs cells slots als hC h1 h2 h3 h4 hR hF hL
        exact lv_istore_n hC.1 hC.2.1 hd rfl hL.has hi rfl (fun als2 hl2 => (kk D cA base ext p e R s mi args below meth c H locs cells slots als2 hC h1 h2 h3 h4 hR hF (ev_L.st1 (v := .int v) hl2)))
      · cases h
    · cases h
  case astore i =>
    split at h
    · rename_i v st
      split at h
      · rename_i hi
        cases h
        intro D cA base ext p e R s mi args below meth c H locs cells slots als hC h1 h2 h3 h4 hR hF hL
        exact lv_astore hC.1 hC.2.1 hd hL.has hi rfl (fun als2 hl2 => (kk D cA base ext p e R s mi args below meth c H locs cells slots als2 hC h1 h2 h3 h4 hR hF (ev_L.st1 (v := .ref v) hl2)))
      · cases h
    · cases h
  case astore_n i =>
    split at h
    · rename_i v st
      split at h
      · rename_i hi
        cases h
        intro D cA base ext p e R s mi args below meth c H locs cells slots als hC h1 h2 h3 h4 hR hF hL
        exact lv_astore_n hC.1 hC.2.1 hd rfl hL.has hi rfl (fun als2 hl2 => (kk D cA base ext p e R s mi args below meth c H locs cells slots als2 hC h1 h2 h3 h4 hR hF (ev_L.st1 (v := .ref v) hl2)))
      · cases h
    · cases h
  case lstore i =>
    split at h
    · rename_i v st
      split at h
      · rename_i hi
        cases h
        intro D cA base ext p e R s mi args below meth c H locs cells slots als hC h1 h2 h3 h4 hR hF hL
        exact lv_lstore hC.1 hC.2.1 hd hL.has hi rfl (fun als2 hl2 => (kk D cA base ext p e R s mi args below meth c H locs cells slots als2 hC h1 h2 h3 h4 hR hF (ev_L.st2 (v := .long v) hl2)))
      · cases h
    · cases h
  case lstore_n i =>
    split at h
    · rename_i v st
      split at h
      · rename_i hi
        cases h
        intro D cA base ext p e R s mi args below meth c H locs cells slots als hC h1 h2 h3 h4 hR hF hL
        exact lv_lstore_n hC.1 hC.2.1 hd rfl hL.has hi rfl (fun als2 hl2 => (kk D cA base ext p e R s mi args below meth c H locs cells slots als2 hC h1 h2 h3 h4 hR hF (ev_L.st2 (v := .long v) hl2)))
      · cases h
    · cases h
  case iinc i n =>
    split at h
    · rename_i v hv
      split at h
      · rename_i hi
        cases h
        intro D cA base ext p e R s mi args below meth c H locs cells slots als hC h1 h2 h3 h4 hR hF hL
        obtain ⟨k, hk⟩ := List.getElem?_of_mem ((ev_lv_mem (ev_al base ext) ls 0 (i, .int v)).mpr ⟨i, .int v, ev_ld_at hv (fun n q => by cases q), by rw [Nat.zero_add]; rfl⟩)
        exact lv_iinc hC.1 hC.2.1 hd hL.has hk (by rw [of_decide_eq_true ho]) hi rfl (fun als2 hl2 => (kk D cA base ext p e R s mi args below meth c H locs cells slots als2 hC h1 h2 h3 h4 hR hF (ev_L.st1 (v := .int (v + vi)) hl2)))
      · cases h
    · cases h
  case iadd =>
    split at h
    · cases h
      intro D cA base ext p e R s mi args below meth c H locs cells slots als hC h1 h2 h3 h4 hR hF hL
      exact lv_iadd hC.1 hC.2.1 hd (kk D cA base ext p e R s mi args below meth c H locs cells slots als hC h1 h2 h3 h4 hR hF hL)
    · cases h
  case isub =>
    split at h
    · cases h
      intro D cA base ext p e R s mi args below meth c H locs cells slots als hC h1 h2 h3 h4 hR hF hL
      exact lv_isub hC.1 hC.2.1 hd (kk D cA base ext p e R s mi args below meth c H locs cells slots als hC h1 h2 h3 h4 hR hF hL)
    · cases h
  case imul =>
    split at h
    · cases h
      intro D cA base ext p e R s mi args below meth c H locs cells slots als hC h1 h2 h3 h4 hR hF hL
      exact lv_imul hC.1 hC.2.1 hd (kk D cA base ext p e R s mi args below meth c H locs cells slots als hC h1 h2 h3 h4 hR hF hL)
    · cases h
  case iand =>
    split at h
    · cases h
      intro D cA base ext p e R s mi args below meth c H locs cells slots als hC h1 h2 h3 h4 hR hF hL
      exact lv_iand hC.1 hC.2.1 hd (kk D cA base ext p e R s mi args below meth c H locs cells slots als hC h1 h2 h3 h4 hR hF hL)
    · cases h
  case ior =>
    split at h
    · cases h
      intro D cA base ext p e R s mi args below meth c H locs cells slots als hC h1 h2 h3 h4 hR hF hL
      exact lv_ior hC.1 hC.2.1 hd (kk D cA base ext p e R s mi args below meth c H locs cells slots als hC h1 h2 h3 h4 hR hF hL)
    · cases h
  case ixor =>
    split at h
    · cases h
      intro D cA base ext p e R s mi args below meth c H locs cells slots als hC h1 h2 h3 h4 hR hF hL
      exact lv_ixor hC.1 hC.2.1 hd (kk D cA base ext p e R s mi args below meth c H locs cells slots als hC h1 h2 h3 h4 hR hF hL)
    · cases h
  case ishl =>
    split at h
    · cases h
      intro D cA base ext p e R s mi args below meth c H locs cells slots als hC h1 h2 h3 h4 hR hF hL
      exact lv_ishl hC.1 hC.2.1 hd (kk D cA base ext p e R s mi args below meth c H locs cells slots als hC h1 h2 h3 h4 hR hF hL)
    · cases h
  case ishr =>
    split at h
    · cases h
      intro D cA base ext p e R s mi args below meth c H locs cells slots als hC h1 h2 h3 h4 hR hF hL
      exact lv_ishr hC.1 hC.2.1 hd (kk D cA base ext p e R s mi args below meth c H locs cells slots als hC h1 h2 h3 h4 hR hF hL)
    · cases h
  case ladd =>
    split at h
    · cases h
      intro D cA base ext p e R s mi args below meth c H locs cells slots als hC h1 h2 h3 h4 hR hF hL
      exact lv_ladd hC.1 hC.2.1 hd (kk D cA base ext p e R s mi args below meth c H locs cells slots als hC h1 h2 h3 h4 hR hF hL)
    · cases h
  case lsub =>
    split at h
    · cases h
      intro D cA base ext p e R s mi args below meth c H locs cells slots als hC h1 h2 h3 h4 hR hF hL
      exact lv_lsub hC.1 hC.2.1 hd (kk D cA base ext p e R s mi args below meth c H locs cells slots als hC h1 h2 h3 h4 hR hF hL)
    · cases h
  case lmul =>
    split at h
    · cases h
      intro D cA base ext p e R s mi args below meth c H locs cells slots als hC h1 h2 h3 h4 hR hF hL
      exact lv_lmul hC.1 hC.2.1 hd (kk D cA base ext p e R s mi args below meth c H locs cells slots als hC h1 h2 h3 h4 hR hF hL)
    · cases h
  case land =>
    split at h
    · cases h
      intro D cA base ext p e R s mi args below meth c H locs cells slots als hC h1 h2 h3 h4 hR hF hL
      exact lv_land hC.1 hC.2.1 hd (kk D cA base ext p e R s mi args below meth c H locs cells slots als hC h1 h2 h3 h4 hR hF hL)
    · cases h
  case iushr =>
    split at h
    · cases h
      intro D cA base ext p e R s mi args below meth c H locs cells slots als hC h1 h2 h3 h4 hR hF hL
      exact lv_iushr hC.1 hC.2.1 hd rfl (kk D cA base ext p e R s mi args below meth c H locs cells slots als hC h1 h2 h3 h4 hR hF hL)
    · cases h
  case lcmp =>
    split at h
    · cases h
      intro D cA base ext p e R s mi args below meth c H locs cells slots als hC h1 h2 h3 h4 hR hF hL
      exact W.lcmp hC.1 hC.2.1 hd (kk D cA base ext p e R s mi args below meth c H locs cells slots als hC h1 h2 h3 h4 hR hF hL)
    · cases h
  case i2l =>
    split at h
    · cases h
      intro D cA base ext p e R s mi args below meth c H locs cells slots als hC h1 h2 h3 h4 hR hF hL
      exact lv_i2l hC.1 hC.2.1 hd rfl (kk D cA base ext p e R s mi args below meth c H locs cells slots als hC h1 h2 h3 h4 hR hF hL)
    · cases h
  case l2i =>
    split at h
    · cases h
      intro D cA base ext p e R s mi args below meth c H locs cells slots als hC h1 h2 h3 h4 hR hF hL
      exact lv_l2i hC.1 hC.2.1 hd rfl (kk D cA base ext p e R s mi args below meth c H locs cells slots als hC h1 h2 h3 h4 hR hF hL)
    · cases h
  case dup =>
    split at h
    · cases h
      intro D cA base ext p e R s mi args below meth c H locs cells slots als hC h1 h2 h3 h4 hR hF hL
      exact lv_dup hC.1 hC.2.1 hd rfl (kk D cA base ext p e R s mi args below meth c H locs cells slots als hC h1 h2 h3 h4 hR hF hL)
    · cases h
      intro D cA base ext p e R s mi args below meth c H locs cells slots als hC h1 h2 h3 h4 hR hF hL
      exact lv_dup hC.1 hC.2.1 hd rfl (kk D cA base ext p e R s mi args below meth c H locs cells slots als hC h1 h2 h3 h4 hR hF hL)
    · cases h
  case pop =>
    split at h
    · cases h
      intro D cA base ext p e R s mi args below meth c H locs cells slots als hC h1 h2 h3 h4 hR hF hL
      exact lv_pop hC.1 hC.2.1 hd rfl (kk D cA base ext p e R s mi args below meth c H locs cells slots als hC h1 h2 h3 h4 hR hF hL)
    · cases h
      intro D cA base ext p e R s mi args below meth c H locs cells slots als hC h1 h2 h3 h4 hR hF hL
      exact lv_pop hC.1 hC.2.1 hd rfl (kk D cA base ext p e R s mi args below meth c H locs cells slots als hC h1 h2 h3 h4 hR hF hL)
    · cases h
  case dup2 =>
    split at h
    · cases h
      intro D cA base ext p e R s mi args below meth c H locs cells slots als hC h1 h2 h3 h4 hR hF hL
      exact lv_dup2_11 hC.1 hC.2.1 hd rfl rfl (kk D cA base ext p e R s mi args below meth c H locs cells slots als hC h1 h2 h3 h4 hR hF hL)
    · cases h
      intro D cA base ext p e R s mi args below meth c H locs cells slots als hC h1 h2 h3 h4 hR hF hL
      exact lv_dup2_11 hC.1 hC.2.1 hd rfl rfl (kk D cA base ext p e R s mi args below meth c H locs cells slots als hC h1 h2 h3 h4 hR hF hL)
    · cases h
      intro D cA base ext p e R s mi args below meth c H locs cells slots als hC h1 h2 h3 h4 hR hF hL
      exact lv_dup2_2 hC.1 hC.2.1 hd rfl (kk D cA base ext p e R s mi args below meth c H locs cells slots als hC h1 h2 h3 h4 hR hF hL)
    · cases h
  case getfield i =>
    split at h
    · split at h
      · rename_i a st hs
        cases h
        exact Wk.getf (of_decide_eq_true ho) hd hs.1 hs.2.1 hs.2.2 kk
      · cases h
    · cases h
  case putfield i =>
    have ho := Bool.and_eq_true_iff.mp ho
    have hlk := of_decide_eq_true ho.1
    have hfin : ev_fin fa fb = false := by simpa using ho.2
    split at h
    · split at h
      · rename_i v a st hs
        have hdy : ∀ t, ev_tys fa fb = t → (∀ n, t ≠ .object n) → ev_dyn fa fb = false := fun t ht hn => by
          by_cases hq : ev_dyn fa fb = true
          · obtain ⟨n, hn2⟩ := ev_dyn_ty hq
            exact absurd (ht.symm.trans hn2) (hn n)
          · simpa using hq
        split at h
        · rename_i ht
          cases h
          exact Wk.putf (m' := (ev_up m.1 a fb v, m.2)) hlk hfin hd hs.1 hs.2.1 hs.2.2 (fun i hi => ⟨ev_up_ne _ _ _ hi, rfl⟩) (fun j _ => ev_gv_up S m _ _ _ _ (hdy _ ht (fun n q => by cases q)) (Or.inl ht) j) (fun al => by rw [ht]; rfl) (fun al => by rw [ht]; rfl) kk
        · rename_i ht
          split at h
          · rename_i hv
            cases h
            exact Wk.putf (m' := (ev_up m.1 a fb v, m.2)) hlk hfin hd hs.1 hs.2.1 hs.2.2 (fun i hi => ⟨ev_up_ne _ _ _ hi, rfl⟩) (fun j _ => ev_gv_up S m _ _ _ _ (hdy _ ht (fun n q => by cases q)) (Or.inr ht) j) (fun al => by rw [ht]; rcases hv with rfl | rfl <;> rfl) (fun al => by rw [ht]; rcases hv with rfl | rfl <;> rfl) kk
          · cases h
        · cases h
      · cases h
    · split at h
      · rename_i v a st hs
        split at h
        · rename_i ht
          cases h
          have hdy : ev_dyn fa fb = false := by
            by_cases hq : ev_dyn fa fb = true
            · obtain ⟨n, hn2⟩ := ev_dyn_ty hq
              rw [ht] at hn2; cases hn2
            · simpa using hq
          exact Wk.putf (m' := (m.1, ev_up m.2 a fb v)) hlk hfin hd hs.1 hs.2.1 hs.2.2 (fun i hi => ⟨rfl, ev_up_ne _ _ _ hi⟩) (fun j _ => ev_gv_upL S m _ _ _ _ ht hdy j) (fun al => by rw [ht]; rfl) (fun al => by rw [ht]; rfl) kk
        · cases h
      · cases h
    · cases h
  case arraylength =>
    split at h
    · split at h
      · rename_i a st hs
        cases h
        exact Wk.alen hd hs.1 hs.2 kk
      · cases h
    · cases h
def ev_run (n : Nat) (S : ev_S) : List ev_I → List (Option Value) → List Value → ev_M → Option (List (Option Value) × List Value × ev_M)
  | [], ls, st, m => some (ls, st, m)
  | x :: t, ls, st, m => match ev_stp n S x ls st m with
    | some q => ev_run n S t q.1 q.2.1 q.2.2
    | none => none
def ev_has (Y : ev_Y) : Nat → List ev_I → Nat → Bool
  | pc, [], pc' => pc == pc'
  | pc, x :: t, pc' => (match decode Y.2.1 pc with
    | .ok q => decide (q = (x.1, ev_ln x.1))
    | _ => false) && (ev_okA Y.2.2.2.2 x && ev_has Y (pc + ev_ln x.1) t pc')
theorem Wk.run {pc' : Nat} (is : List ev_I) {ls' : List (Option Value)} {st' : List Value} {m' : ev_M} (hc : ev_has Y pc is pc' = true) (hr : ev_run Y.2.2.1 S is ls st m = some (ls', st', m')) (kk : Wk l Ln xs Y d kc ks pc' ls' st' S m' P) : Wk l Ln xs Y d kc ks pc ls st S m P := by
  induction is generalizing pc ls st m with
  | nil =>
    cases hr
    have : pc = pc' := by simpa [ev_has] using hc
    rw [this]; exact kk
  | cons x t ih =>
    rw [ev_has, Bool.and_eq_true, Bool.and_eq_true] at hc
    obtain ⟨c1, c2, c3⟩ := hc
    rw [ev_run] at hr
    cases hq : ev_stp Y.2.2.1 S x ls st m with
    | none => rw [hq] at hr; cases hr
    | some q =>
      rw [hq] at hr
      refine Wk.stp x ?_ c2 hq (ih c3 hr)
      split at c1
      · rename_i q' hq'
        rw [hq', of_decide_eq_true c1]
      · cases c1
end EvStep
