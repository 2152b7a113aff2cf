set_option maxRecDepth 100000 in
set_option maxHeartbeats 4000000 in
theorem KC3_X2_init {l : Launch} {Ln : Nat} {xs : Nat → Int32} {d : Nat} (hd : 1 ≤ d) : Mk l Ln xs YX2_init d 1 1608 [.ref 5] cS9 cM0 (fun v S' m' => v = none ∧ S' = cS11 ∧ m' = cM1) := by
  refine Mk.of (by decide +kernel) rfl (Nat.le_of_ble_eq_true rfl) (Wk.le (ls' := [some (.ref 5)]) ⟨rfl, trivial⟩ ?_)
  refine Wk.run (pc' := 1) (ls' := [some (.ref 5)]) (st' := [.ref 5]) (m' := cM0) [(.aload_n 0, 0, 0, 0, 0)] (by decide +kernel) rfl ?_
  refine Wk.objInit (idx := 3) (ev_is_ok (by decide +kernel)) wo_2_3 wobj_i wobj_c (by omega) (Nat.le_of_ble_eq_true rfl) ?_
  show Wk l Ln xs YX2_init d 1 1608 4 [some (.ref 5)] [] cS9 cM0 _
  refine Wk.run (pc' := 8) (ls' := [some (.ref 5)]) (st' := [.int 1608, .ref 5]) (m' := cM0) [(.aload_n 0, 0, 0, 0, 0), (.sipush 1608, 0, 0, 1608, 0)] (by decide +kernel) rfl ?_
  refine Wk.newa (at_ := .int) (N := 1608) (code := 100) (ty := .int) rfl (Or.inl ⟨rfl, rfl, rfl⟩) (ev_is_ok (by decide +kernel)) wa_int (by decide) (by decide) (by decide) (by decide +kernel) rfl rfl (by decide) (by decide) ?_
  show Wk l Ln xs YX2_init d 0 0 10 [some (.ref 5)] [.ref 6, .ref 5] cS10 cM0 _
  refine Wk.putF (ci := 2) (k := 0) (idx := 9) (b := 6) (by decide +kernel) (by decide +kernel) rfl rfl (ev_is_ok (by decide +kernel)) (by decide +kernel) rfl (by decide +kernel) rfl (Or.inr ⟨_, rfl⟩) ?_
  show Wk l Ln xs YX2_init d 0 0 13 [some (.ref 5)] [] cS11 cM0 _
  refine Wk.run (pc' := 18) (ls' := [some (.ref 5)]) (st' := []) (m' := cM1) [(.aload_n 0, 0, 0, 0, 0), (.iconst 0, 0, 0, 0, 0), (.putfield 15, 2, 1, 0, 0)] (by decide +kernel) rfl ?_
  exact Wk.vret rfl (ev_is_ok (by decide +kernel)) ⟨rfl, rfl, rfl⟩
set_option maxRecDepth 100000 in
set_option maxHeartbeats 4000000 in
theorem KC2_X1_init {l : Launch} {Ln : Nat} {xs : Nat → Int32} {d : Nat} (hd : 2 ≤ d) : Mk l Ln xs YX1_init d 5 1674 [.ref 1] cS2 cM0 (fun v S' m' => v = none ∧ S' = cS12 ∧ m' = cM12) := by
  refine Mk.of (by decide +kernel) rfl (Nat.le_of_ble_eq_true rfl) (Wk.le (ls' := [some (.ref 1)]) ⟨rfl, trivial⟩ ?_)
  refine Wk.run (pc' := 1) (ls' := [some (.ref 1)]) (st' := [.ref 1]) (m' := cM0) [(.aload_n 0, 0, 0, 0, 0)] (by decide +kernel) rfl ?_
  refine Wk.objInit (idx := 3) (ev_is_ok (by decide +kernel)) wo_1_3 wobj_i wobj_c (by omega) (Nat.le_of_ble_eq_true rfl) ?_
  show Wk l Ln xs YX1_init d 5 1674 4 [some (.ref 1)] [] cS2 cM0 _
  refine Wk.run (pc' := 7) (ls' := [some (.ref 1)]) (st' := [.int 48, .ref 1]) (m' := cM0) [(.aload_n 0, 0, 0, 0, 0), (.bipush 48, 0, 0, 48, 0)] (by decide +kernel) rfl ?_
  refine Wk.newa (at_ := .int) (N := 48) (code := 100) (ty := .int) rfl (Or.inl ⟨rfl, rfl, rfl⟩) (ev_is_ok (by decide +kernel)) wa_int (by decide) (by decide) (by decide) (by decide +kernel) rfl rfl (by decide) (by decide) ?_
  show Wk l Ln xs YX1_init d 4 1626 9 [some (.ref 1)] [.ref 2, .ref 1] cS3 cM0 _
  refine Wk.putF (ci := 1) (k := 0) (idx := 9) (b := 2) (by decide +kernel) (by decide +kernel) rfl rfl (ev_is_ok (by decide +kernel)) (by decide +kernel) rfl (by decide +kernel) rfl (Or.inr ⟨_, rfl⟩) ?_
  show Wk l Ln xs YX1_init d 4 1626 12 [some (.ref 1)] [] cS4 cM0 _
  refine Wk.run (pc' := 15) (ls' := [some (.ref 1)]) (st' := [.int 8, .ref 1]) (m' := cM0) [(.aload_n 0, 0, 0, 0, 0), (.bipush 8, 0, 0, 8, 0)] (by decide +kernel) rfl ?_
  refine Wk.newa (at_ := .int) (N := 8) (code := 100) (ty := .int) rfl (Or.inl ⟨rfl, rfl, rfl⟩) (ev_is_ok (by decide +kernel)) wa_int (by decide) (by decide) (by decide) (by decide +kernel) rfl rfl (by decide) (by decide) ?_
  show Wk l Ln xs YX1_init d 3 1618 17 [some (.ref 1)] [.ref 3, .ref 1] cS5 cM0 _
  refine Wk.putF (ci := 1) (k := 1) (idx := 15) (b := 3) (by decide +kernel) (by decide +kernel) rfl rfl (ev_is_ok (by decide +kernel)) (by decide +kernel) rfl (by decide +kernel) rfl (Or.inr ⟨_, rfl⟩) ?_
  show Wk l Ln xs YX1_init d 3 1618 20 [some (.ref 1)] [] cS6 cM0 _
  refine Wk.run (pc' := 23) (ls' := [some (.ref 1)]) (st' := [.int 8, .ref 1]) (m' := cM0) [(.aload_n 0, 0, 0, 0, 0), (.bipush 8, 0, 0, 8, 0)] (by decide +kernel) rfl ?_
  refine Wk.newa (at_ := .int) (N := 8) (code := 100) (ty := .int) rfl (Or.inl ⟨rfl, rfl, rfl⟩) (ev_is_ok (by decide +kernel)) wa_int (by decide) (by decide) (by decide) (by decide +kernel) rfl rfl (by decide) (by decide) ?_
  show Wk l Ln xs YX1_init d 2 1610 25 [some (.ref 1)] [.ref 4, .ref 1] cS7 cM0 _
  refine Wk.putF (ci := 1) (k := 2) (idx := 18) (b := 4) (by decide +kernel) (by decide +kernel) rfl rfl (ev_is_ok (by decide +kernel)) (by decide +kernel) rfl (by decide +kernel) rfl (Or.inr ⟨_, rfl⟩) ?_
  show Wk l Ln xs YX1_init d 2 1610 28 [some (.ref 1)] [] cS8 cM0 _
  refine Wk.run (pc' := 29) (ls' := [some (.ref 1)]) (st' := [.ref 1]) (m' := cM0) [(.aload_n 0, 0, 0, 0, 0)] (by decide +kernel) rfl ?_
  refine Wk.new (ci := 2) (q := (RX2, TX2, 2)) rfl (ev_is_ok (i := .new 21) (by decide +kernel)) wc_1_21 wi_2 wn_2 (by decide +kernel) rfl rfl rfl (by decide) (by decide) ?_
  show Wk l Ln xs YX1_init d 1 1608 32 [some (.ref 1)] [.ref 5, .ref 1] cS9 cM0 _
  refine Wk.run (pc' := 33) (ls' := [some (.ref 1)]) (st' := [.ref 5, .ref 5, .ref 1]) (m' := cM0) [(.dup, 0, 0, 0, 0)] (by decide +kernel) rfl ?_
  refine Wk.callIN (av := []) (a := 5) (st := [.ref 5, .ref 1]) rfl (ev_is_ok (i := .invokespecial 23) (by decide +kernel)) mwX2_init iwX2_init rfl rfl wm_1_23 (KC3_X2_init (d := 1) (by decide)) (by omega) (by decide) (by decide) (by decide +kernel) rfl (Nat.le_of_ble_eq_true rfl) (fun v S2 m2 z => ?_)
  obtain ⟨rfl, rfl, rfl⟩ := z
  show Wk l Ln xs YX1_init d 0 0 36 [some (.ref 1)] [.ref 5, .ref 1] cS11 cM1 _
  refine Wk.putF (ci := 1) (k := 3) (idx := 24) (b := 5) (by decide +kernel) (by decide +kernel) rfl rfl (ev_is_ok (by decide +kernel)) (by decide +kernel) rfl (by decide +kernel) rfl (Or.inl ⟨_, rfl⟩) ?_
  show Wk l Ln xs YX1_init d 0 0 39 [some (.ref 1)] [] cS12 cM1 _
  refine Wk.run (pc' := 94) (ls' := [some (.ref 1)]) (st' := []) (m' := cM12) [(.aload_n 0, 0, 0, 0, 0), (.iconst 0, 0, 0, 0, 0), (.putfield 28, 1, 4, 0, 0), (.aload_n 0, 0, 0, 0, 0), (.iconst 0, 0, 0, 0, 0), (.putfield 32, 1, 5, 0, 0), (.aload_n 0, 0, 0, 0, 0), (.iconst 0, 0, 0, 0, 0), (.putfield 35, 1, 6, 0, 0), (.aload_n 0, 0, 0, 0, 0), (.iconst 0, 0, 0, 0, 0), (.putfield 38, 1, 7, 0, 0), (.aload_n 0, 0, 0, 0, 0), (.iconst 4, 0, 0, 4, 0), (.putfield 41, 1, 8, 0, 0), (.aload_n 0, 0, 0, 0, 0), (.iconst 3, 0, 0, 3, 0), (.putfield 44, 1, 9, 0, 0), (.aload_n 0, 0, 0, 0, 0), (.iconst 0, 0, 0, 0, 0), (.putfield 47, 1, 10, 0, 0), (.aload_n 0, 0, 0, 0, 0), (.iconst 0, 0, 0, 0, 0), (.putfield 50, 1, 11, 0, 0), (.aload_n 0, 0, 0, 0, 0), (.iconst 0, 0, 0, 0, 0), (.putfield 53, 1, 12, 0, 0), (.aload_n 0, 0, 0, 0, 0), (.iconst 0, 0, 0, 0, 0), (.putfield 56, 1, 13, 0, 0), (.aload_n 0, 0, 0, 0, 0), (.iconst 0, 0, 0, 0, 0), (.putfield 59, 1, 14, 0, 0)] (by decide +kernel) rfl ?_
  exact Wk.vret rfl (ev_is_ok (by decide +kernel)) ⟨rfl, rfl, rfl⟩
set_option maxRecDepth 100000 in
set_option maxHeartbeats 4000000 in
theorem KC5_X2_init {l : Launch} {Ln : Nat} {xs : Nat → Int32} {d : Nat} (hd : 1 ≤ d) : Mk l Ln xs YX2_init d 1 1608 [.ref 11] cS20 cM13 (fun v S' m' => v = none ∧ S' = cS22 ∧ m' = cM14) := by
  refine Mk.of (by decide +kernel) rfl (Nat.le_of_ble_eq_true rfl) (Wk.le (ls' := [some (.ref 11)]) ⟨rfl, trivial⟩ ?_)
  refine Wk.run (pc' := 1) (ls' := [some (.ref 11)]) (st' := [.ref 11]) (m' := cM13) [(.aload_n 0, 0, 0, 0, 0)] (by decide +kernel) rfl ?_
  refine Wk.objInit (idx := 3) (ev_is_ok (by decide +kernel)) wo_2_3 wobj_i wobj_c (by omega) (Nat.le_of_ble_eq_true rfl) ?_
  show Wk l Ln xs YX2_init d 1 1608 4 [some (.ref 11)] [] cS20 cM13 _
  refine Wk.run (pc' := 8) (ls' := [some (.ref 11)]) (st' := [.int 1608, .ref 11]) (m' := cM13) [(.aload_n 0, 0, 0, 0, 0), (.sipush 1608, 0, 0, 1608, 0)] (by decide +kernel) rfl ?_
  refine Wk.newa (at_ := .int) (N := 1608) (code := 100) (ty := .int) rfl (Or.inl ⟨rfl, rfl, rfl⟩) (ev_is_ok (by decide +kernel)) wa_int (by decide) (by decide) (by decide) (by decide +kernel) rfl rfl (by decide) (by decide) ?_
  show Wk l Ln xs YX2_init d 0 0 10 [some (.ref 11)] [.ref 12, .ref 11] cS21 cM13 _
  refine Wk.putF (ci := 2) (k := 0) (idx := 9) (b := 12) (by decide +kernel) (by decide +kernel) rfl rfl (ev_is_ok (by decide +kernel)) (by decide +kernel) rfl (by decide +kernel) rfl (Or.inr ⟨_, rfl⟩) ?_
  show Wk l Ln xs YX2_init d 0 0 13 [some (.ref 11)] [] cS22 cM13 _
  refine Wk.run (pc' := 18) (ls' := [some (.ref 11)]) (st' := []) (m' := cM14) [(.aload_n 0, 0, 0, 0, 0), (.iconst 0, 0, 0, 0, 0), (.putfield 15, 2, 1, 0, 0)] (by decide +kernel) rfl ?_
  exact Wk.vret rfl (ev_is_ok (by decide +kernel)) ⟨rfl, rfl, rfl⟩
set_option maxRecDepth 100000 in
set_option maxHeartbeats 4000000 in
theorem KC4_X1_init {l : Launch} {Ln : Nat} {xs : Nat → Int32} {d : Nat} (hd : 2 ≤ d) : Mk l Ln xs YX1_init d 5 1674 [.ref 7] cS13 cM13 (fun v S' m' => v = none ∧ S' = cS23 ∧ m' = cM25) := by
  refine Mk.of (by decide +kernel) rfl (Nat.le_of_ble_eq_true rfl) (Wk.le (ls' := [some (.ref 7)]) ⟨rfl, trivial⟩ ?_)
  refine Wk.run (pc' := 1) (ls' := [some (.ref 7)]) (st' := [.ref 7]) (m' := cM13) [(.aload_n 0, 0, 0, 0, 0)] (by decide +kernel) rfl ?_
  refine Wk.objInit (idx := 3) (ev_is_ok (by decide +kernel)) wo_1_3 wobj_i wobj_c (by omega) (Nat.le_of_ble_eq_true rfl) ?_
  show Wk l Ln xs YX1_init d 5 1674 4 [some (.ref 7)] [] cS13 cM13 _
  refine Wk.run (pc' := 7) (ls' := [some (.ref 7)]) (st' := [.int 48, .ref 7]) (m' := cM13) [(.aload_n 0, 0, 0, 0, 0), (.bipush 48, 0, 0, 48, 0)] (by decide +kernel) rfl ?_
  refine Wk.newa (at_ := .int) (N := 48) (code := 100) (ty := .int) rfl (Or.inl ⟨rfl, rfl, rfl⟩) (ev_is_ok (by decide +kernel)) wa_int (by decide) (by decide) (by decide) (by decide +kernel) rfl rfl (by decide) (by decide) ?_
  show Wk l Ln xs YX1_init d 4 1626 9 [some (.ref 7)] [.ref 8, .ref 7] cS14 cM13 _
  refine Wk.putF (ci := 1) (k := 0) (idx := 9) (b := 8) (by decide +kernel) (by decide +kernel) rfl rfl (ev_is_ok (by decide +kernel)) (by decide +kernel) rfl (by decide +kernel) rfl (Or.inr ⟨_, rfl⟩) ?_
  show Wk l Ln xs YX1_init d 4 1626 12 [some (.ref 7)] [] cS15 cM13 _
  refine Wk.run (pc' := 15) (ls' := [some (.ref 7)]) (st' := [.int 8, .ref 7]) (m' := cM13) [(.aload_n 0, 0, 0, 0, 0), (.bipush 8, 0, 0, 8, 0)] (by decide +kernel) rfl ?_
  refine Wk.newa (at_ := .int) (N := 8) (code := 100) (ty := .int) rfl (Or.inl ⟨rfl, rfl, rfl⟩) (ev_is_ok (by decide +kernel)) wa_int (by decide) (by decide) (by decide) (by decide +kernel) rfl rfl (by decide) (by decide) ?_
  show Wk l Ln xs YX1_init d 3 1618 17 [some (.ref 7)] [.ref 9, .ref 7] cS16 cM13 _
  refine Wk.putF (ci := 1) (k := 1) (idx := 15) (b := 9) (by decide +kernel) (by decide +kernel) rfl rfl (ev_is_ok (by decide +kernel)) (by decide +kernel) rfl (by decide +kernel) rfl (Or.inr ⟨_, rfl⟩) ?_
  show Wk l Ln xs YX1_init d 3 1618 20 [some (.ref 7)] [] cS17 cM13 _
  refine Wk.run (pc' := 23) (ls' := [some (.ref 7)]) (st' := [.int 8, .ref 7]) (m' := cM13) [(.aload_n 0, 0, 0, 0, 0), (.bipush 8, 0, 0, 8, 0)] (by decide +kernel) rfl ?_
  refine Wk.newa (at_ := .int) (N := 8) (code := 100) (ty := .int) rfl (Or.inl ⟨rfl, rfl, rfl⟩) (ev_is_ok (by decide +kernel)) wa_int (by decide) (by decide) (by decide) (by decide +kernel) rfl rfl (by decide) (by decide) ?_
  show Wk l Ln xs YX1_init d 2 1610 25 [some (.ref 7)] [.ref 10, .ref 7] cS18 cM13 _
  refine Wk.putF (ci := 1) (k := 2) (idx := 18) (b := 10) (by decide +kernel) (by decide +kernel) rfl rfl (ev_is_ok (by decide +kernel)) (by decide +kernel) rfl (by decide +kernel) rfl (Or.inr ⟨_, rfl⟩) ?_
  show Wk l Ln xs YX1_init d 2 1610 28 [some (.ref 7)] [] cS19 cM13 _
  refine Wk.run (pc' := 29) (ls' := [some (.ref 7)]) (st' := [.ref 7]) (m' := cM13) [(.aload_n 0, 0, 0, 0, 0)] (by decide +kernel) rfl ?_
  refine Wk.new (ci := 2) (q := (RX2, TX2, 2)) rfl (ev_is_ok (i := .new 21) (by decide +kernel)) wc_1_21 wi_2 wn_2 (by decide +kernel) rfl rfl rfl (by decide) (by decide) ?_
  show Wk l Ln xs YX1_init d 1 1608 32 [some (.ref 7)] [.ref 11, .ref 7] cS20 cM13 _
  refine Wk.run (pc' := 33) (ls' := [some (.ref 7)]) (st' := [.ref 11, .ref 11, .ref 7]) (m' := cM13) [(.dup, 0, 0, 0, 0)] (by decide +kernel) rfl ?_
  refine Wk.callIN (av := []) (a := 11) (st := [.ref 11, .ref 7]) rfl (ev_is_ok (i := .invokespecial 23) (by decide +kernel)) mwX2_init iwX2_init rfl rfl wm_1_23 (KC5_X2_init (d := 1) (by decide)) (by omega) (by decide) (by decide) (by decide +kernel) rfl (Nat.le_of_ble_eq_true rfl) (fun v S2 m2 z => ?_)
  obtain ⟨rfl, rfl, rfl⟩ := z
  show Wk l Ln xs YX1_init d 0 0 36 [some (.ref 7)] [.ref 11, .ref 7] cS22 cM14 _
  refine Wk.putF (ci := 1) (k := 3) (idx := 24) (b := 11) (by decide +kernel) (by decide +kernel) rfl rfl (ev_is_ok (by decide +kernel)) (by decide +kernel) rfl (by decide +kernel) rfl (Or.inl ⟨_, rfl⟩) ?_
  show Wk l Ln xs YX1_init d 0 0 39 [some (.ref 7)] [] cS23 cM14 _
  refine Wk.run (pc' := 94) (ls' := [some (.ref 7)]) (st' := []) (m' := cM25) [(.aload_n 0, 0, 0, 0, 0), (.iconst 0, 0, 0, 0, 0), (.putfield 28, 1, 4, 0, 0), (.aload_n 0, 0, 0, 0, 0), (.iconst 0, 0, 0, 0, 0), (.putfield 32, 1, 5, 0, 0), (.aload_n 0, 0, 0, 0, 0), (.iconst 0, 0, 0, 0, 0), (.putfield 35, 1, 6, 0, 0), (.aload_n 0, 0, 0, 0, 0), (.iconst 0, 0, 0, 0, 0), (.putfield 38, 1, 7, 0, 0), (.aload_n 0, 0, 0, 0, 0), (.iconst 4, 0, 0, 4, 0), (.putfield 41, 1, 8, 0, 0), (.aload_n 0, 0, 0, 0, 0), (.iconst 3, 0, 0, 3, 0), (.putfield 44, 1, 9, 0, 0), (.aload_n 0, 0, 0, 0, 0), (.iconst 0, 0, 0, 0, 0), (.putfield 47, 1, 10, 0, 0), (.aload_n 0, 0, 0, 0, 0), (.iconst 0, 0, 0, 0, 0), (.putfield 50, 1, 11, 0, 0), (.aload_n 0, 0, 0, 0, 0), (.iconst 0, 0, 0, 0, 0), (.putfield 53, 1, 12, 0, 0), (.aload_n 0, 0, 0, 0, 0), (.iconst 0, 0, 0, 0, 0), (.putfield 56, 1, 13, 0, 0), (.aload_n 0, 0, 0, 0, 0), (.iconst 0, 0, 0, 0, 0), (.putfield 59, 1, 14, 0, 0)] (by decide +kernel) rfl ?_
  exact Wk.vret rfl (ev_is_ok (by decide +kernel)) ⟨rfl, rfl, rfl⟩
set_option maxRecDepth 100000 in
set_option maxHeartbeats 4000000 in
theorem KC6_X10_init {l : Launch} {Ln : Nat} {xs : Nat → Int32} {d : Nat} (hd : 1 ≤ d) : Mk l Ln xs YX10_init d 1 1600 [.ref 13] cS24 cM26 (fun v S' m' => v = none ∧ S' = cS26 ∧ m' = cM33) := by
  refine Mk.of (by decide +kernel) rfl (Nat.le_of_ble_eq_true rfl) (Wk.le (ls' := [some (.ref 13)]) ⟨rfl, trivial⟩ ?_)
  refine Wk.run (pc' := 1) (ls' := [some (.ref 13)]) (st' := [.ref 13]) (m' := cM26) [(.aload_n 0, 0, 0, 0, 0)] (by decide +kernel) rfl ?_
  refine Wk.objInit (idx := 3) (ev_is_ok (by decide +kernel)) wo_10_3 wobj_i wobj_c (by omega) (Nat.le_of_ble_eq_true rfl) ?_
  show Wk l Ln xs YX10_init d 1 1600 4 [some (.ref 13)] [] cS24 cM26 _
  refine Wk.run (pc' := 8) (ls' := [some (.ref 13)]) (st' := [.int 1600, .ref 13]) (m' := cM26) [(.aload_n 0, 0, 0, 0, 0), (.sipush 1600, 0, 0, 1600, 0)] (by decide +kernel) rfl ?_
  refine Wk.newa (at_ := .int) (N := 1600) (code := 100) (ty := .int) rfl (Or.inl ⟨rfl, rfl, rfl⟩) (ev_is_ok (by decide +kernel)) wa_int (by decide) (by decide) (by decide) (by decide +kernel) rfl rfl (by decide) (by decide) ?_
  show Wk l Ln xs YX10_init d 0 0 10 [some (.ref 13)] [.ref 14, .ref 13] cS25 cM26 _
  refine Wk.putF (ci := 10) (k := 0) (idx := 9) (b := 14) (by decide +kernel) (by decide +kernel) rfl rfl (ev_is_ok (by decide +kernel)) (by decide +kernel) rfl (by decide +kernel) rfl (Or.inr ⟨_, rfl⟩) ?_
  show Wk l Ln xs YX10_init d 0 0 13 [some (.ref 13)] [] cS26 cM26 _
  refine Wk.run (pc' := 48) (ls' := [some (.ref 13)]) (st' := []) (m' := cM33) [(.aload_n 0, 0, 0, 0, 0), (.iconst 0, 0, 0, 0, 0), (.putfield 15, 10, 1, 0, 0), (.aload_n 0, 0, 0, 0, 0), (.iconst 0, 0, 0, 0, 0), (.putfield 19, 10, 2, 0, 0), (.aload_n 0, 0, 0, 0, 0), (.iconst 0, 0, 0, 0, 0), (.putfield 22, 10, 3, 0, 0), (.aload_n 0, 0, 0, 0, 0), (.iconst (-1), 0, 0, (-1), 0), (.putfield 25, 10, 4, 0, 0), (.aload_n 0, 0, 0, 0, 0), (.iconst 0, 0, 0, 0, 0), (.putfield 28, 10, 5, 0, 0), (.aload_n 0, 0, 0, 0, 0), (.iconst 0, 0, 0, 0, 0), (.putfield 31, 10, 6, 0, 0), (.aload_n 0, 0, 0, 0, 0), (.iconst 0, 0, 0, 0, 0), (.putfield 34, 10, 7, 0, 0)] (by decide +kernel) rfl ?_
  exact Wk.vret rfl (ev_is_ok (by decide +kernel)) ⟨rfl, rfl, rfl⟩
set_option maxRecDepth 100000 in
set_option maxHeartbeats 4000000 in
theorem KC7_X9_init {l : Launch} {Ln : Nat} {xs : Nat → Int32} {d : Nat} (hd : 1 ≤ d) : Mk l Ln xs YX9_init d 0 0 [.ref 15, .ref 13] cS28 cM33 (fun v S' m' => v = none ∧ S' = cS29 ∧ m' = cM36) := by
  refine Mk.of (by decide +kernel) rfl (Nat.le_of_ble_eq_true rfl) (Wk.le (ls' := [some (.ref 15), some (.ref 13)]) ⟨rfl, ⟨rfl, trivial⟩⟩ ?_)
  refine Wk.run (pc' := 1) (ls' := [some (.ref 15), some (.ref 13)]) (st' := [.ref 15]) (m' := cM33) [(.aload_n 0, 0, 0, 0, 0)] (by decide +kernel) rfl ?_
  refine Wk.objInit (idx := 3) (ev_is_ok (by decide +kernel)) wo_9_3 wobj_i wobj_c (by omega) (Nat.le_of_ble_eq_true rfl) ?_
  show Wk l Ln xs YX9_init d 0 0 4 [some (.ref 15), some (.ref 13)] [] cS28 cM33 _
  refine Wk.run (pc' := 5) (ls' := [some (.ref 15), some (.ref 13)]) (st' := [.ref 15]) (m' := cM33) [(.aload_n 0, 0, 0, 0, 0)] (by decide +kernel) rfl ?_
  refine Wk.nul (ev_is_ok (by decide +kernel)) ?_
  show Wk l Ln xs YX9_init d 0 0 6 [some (.ref 15), some (.ref 13)] [.null, .ref 15] cS28 cM33 _
  refine Wk.putN (ci := 9) (k := 1) (idx := 9) (by decide +kernel) (by decide +kernel) (ev_is_ok (by decide +kernel)) (by decide +kernel) rfl (by decide +kernel) rfl rfl ?_
  show Wk l Ln xs YX9_init d 0 0 9 [some (.ref 15), some (.ref 13)] [] cS28 cM33 _
  refine Wk.run (pc' := 26) (ls' := [some (.ref 15), some (.ref 13)]) (st' := [.ref 13, .ref 15]) (m' := cM36) [(.aload_n 0, 0, 0, 0, 0), (.iconst 0, 0, 0, 0, 0), (.putfield 15, 9, 2, 0, 0), (.aload_n 0, 0, 0, 0, 0), (.iconst 0, 0, 0, 0, 0), (.putfield 19, 9, 3, 0, 0), (.aload_n 0, 0, 0, 0, 0), (.iconst 0, 0, 0, 0, 0), (.putfield 22, 9, 4, 0, 0), (.aload_n 0, 0, 0, 0, 0), (.aload_n 1, 0, 0, 0, 0)] (by decide +kernel) rfl ?_
  refine Wk.putF (ci := 9) (k := 0) (idx := 25) (b := 13) (by decide +kernel) (by decide +kernel) rfl rfl (ev_is_ok (by decide +kernel)) (by decide +kernel) rfl (by decide +kernel) rfl (Or.inl ⟨_, rfl⟩) ?_
  show Wk l Ln xs YX9_init d 0 0 29 [some (.ref 15), some (.ref 13)] [] cS29 cM36 _
  exact Wk.vret rfl (ev_is_ok (by decide +kernel)) ⟨rfl, rfl, rfl⟩
set_option maxRecDepth 100000 in
set_option maxHeartbeats 4000000 in
theorem KC9_X5_init {l : Launch} {Ln : Nat} {xs : Nat → Int32} {d : Nat} (hd : 1 ≤ d) : Mk l Ln xs YX5_init d 3 341 [.ref 17] cS32 cM36 (fun v S' m' => v = none ∧ S' = cS38 ∧ m' = cM37) := by
  refine Mk.of (by decide +kernel) rfl (Nat.le_of_ble_eq_true rfl) (Wk.le (ls' := [some (.ref 17)]) ⟨rfl, trivial⟩ ?_)
  refine Wk.run (pc' := 1) (ls' := [some (.ref 17)]) (st' := [.ref 17]) (m' := cM36) [(.aload_n 0, 0, 0, 0, 0)] (by decide +kernel) rfl ?_
  refine Wk.objInit (idx := 3) (ev_is_ok (by decide +kernel)) wo_5_3 wobj_i wobj_c (by omega) (Nat.le_of_ble_eq_true rfl) ?_
  show Wk l Ln xs YX5_init d 3 341 4 [some (.ref 17)] [] cS32 cM36 _
  refine Wk.run (pc' := 7) (ls' := [some (.ref 17)]) (st' := [.int 29, .ref 17]) (m' := cM36) [(.aload_n 0, 0, 0, 0, 0), (.bipush 29, 0, 0, 29, 0)] (by decide +kernel) rfl ?_
  refine Wk.newa (at_ := .int) (N := 29) (code := 100) (ty := .int) rfl (Or.inl ⟨rfl, rfl, rfl⟩) (ev_is_ok (by decide +kernel)) wa_int (by decide) (by decide) (by decide) (by decide +kernel) rfl rfl (by decide) (by decide) ?_
  show Wk l Ln xs YX5_init d 2 312 9 [some (.ref 17)] [.ref 18, .ref 17] cS33 cM36 _
  refine Wk.putF (ci := 5) (k := 0) (idx := 9) (b := 18) (by decide +kernel) (by decide +kernel) rfl rfl (ev_is_ok (by decide +kernel)) (by decide +kernel) rfl (by decide +kernel) rfl (Or.inr ⟨_, rfl⟩) ?_
  show Wk l Ln xs YX5_init d 2 312 12 [some (.ref 17)] [] cS34 cM36 _
  refine Wk.run (pc' := 16) (ls' := [some (.ref 17)]) (st' := [.int 248, .ref 17]) (m' := cM36) [(.aload_n 0, 0, 0, 0, 0), (.sipush 248, 0, 0, 248, 0)] (by decide +kernel) rfl ?_
  refine Wk.newa (at_ := .int) (N := 248) (code := 100) (ty := .int) rfl (Or.inl ⟨rfl, rfl, rfl⟩) (ev_is_ok (by decide +kernel)) wa_int (by decide) (by decide) (by decide) (by decide +kernel) rfl rfl (by decide) (by decide) ?_
  show Wk l Ln xs YX5_init d 1 64 18 [some (.ref 17)] [.ref 19, .ref 17] cS35 cM36 _
  refine Wk.putF (ci := 5) (k := 1) (idx := 15) (b := 19) (by decide +kernel) (by decide +kernel) rfl rfl (ev_is_ok (by decide +kernel)) (by decide +kernel) rfl (by decide +kernel) rfl (Or.inr ⟨_, rfl⟩) ?_
  show Wk l Ln xs YX5_init d 1 64 21 [some (.ref 17)] [] cS36 cM36 _
  refine Wk.run (pc' := 29) (ls' := [some (.ref 17)]) (st' := [.int 64, .ref 17]) (m' := cM37) [(.aload_n 0, 0, 0, 0, 0), (.iconst 0, 0, 0, 0, 0), (.putfield 18, 5, 2, 0, 0), (.aload_n 0, 0, 0, 0, 0), (.bipush 64, 0, 0, 64, 0)] (by decide +kernel) rfl ?_
  refine Wk.newa (at_ := .int) (N := 64) (code := 100) (ty := .int) rfl (Or.inl ⟨rfl, rfl, rfl⟩) (ev_is_ok (by decide +kernel)) wa_int (by decide) (by decide) (by decide) (by decide +kernel) rfl rfl (by decide) (by decide) ?_
  show Wk l Ln xs YX5_init d 0 0 31 [some (.ref 17)] [.ref 20, .ref 17] cS37 cM37 _
  refine Wk.putF (ci := 5) (k := 3) (idx := 22) (b := 20) (by decide +kernel) (by decide +kernel) rfl rfl (ev_is_ok (by decide +kernel)) (by decide +kernel) rfl (by decide +kernel) rfl (Or.inr ⟨_, rfl⟩) ?_
  show Wk l Ln xs YX5_init d 0 0 34 [some (.ref 17)] [] cS38 cM37 _
  exact Wk.vret rfl (ev_is_ok (by decide +kernel)) ⟨rfl, rfl, rfl⟩
set_option maxRecDepth 100000 in
set_option maxHeartbeats 4000000 in
theorem KC8_X3_init {l : Launch} {Ln : Nat} {xs : Nat → Int32} {d : Nat} (hd : 2 ≤ d) : Mk l Ln xs YX3_init d 5 353 [.ref 16, .ref 1] cS31 cM36 (fun v S' m' => v = none ∧ S' = cS41 ∧ m' = cM39) := by
  refine Mk.of (by decide +kernel) rfl (Nat.le_of_ble_eq_true rfl) (Wk.le (ls' := [some (.ref 16), some (.ref 1)]) ⟨rfl, ⟨rfl, trivial⟩⟩ ?_)
  refine Wk.run (pc' := 1) (ls' := [some (.ref 16), some (.ref 1)]) (st' := [.ref 16]) (m' := cM36) [(.aload_n 0, 0, 0, 0, 0)] (by decide +kernel) rfl ?_
  refine Wk.objInit (idx := 3) (ev_is_ok (by decide +kernel)) wo_3_3 wobj_i wobj_c (by omega) (Nat.le_of_ble_eq_true rfl) ?_
  show Wk l Ln xs YX3_init d 5 353 4 [some (.ref 16), some (.ref 1)] [] cS31 cM36 _
  refine Wk.run (pc' := 5) (ls' := [some (.ref 16), some (.ref 1)]) (st' := [.ref 16]) (m' := cM36) [(.aload_n 0, 0, 0, 0, 0)] (by decide +kernel) rfl ?_
  refine Wk.new (ci := 5) (q := (RX5, TX5, 4)) rfl (ev_is_ok (i := .new 9) (by decide +kernel)) wc_3_9 wi_5 wn_5 (by decide +kernel) rfl rfl rfl (by decide) (by decide) ?_
  show Wk l Ln xs YX3_init d 4 349 8 [some (.ref 16), some (.ref 1)] [.ref 17, .ref 16] cS32 cM36 _
  refine Wk.run (pc' := 9) (ls' := [some (.ref 16), some (.ref 1)]) (st' := [.ref 17, .ref 17, .ref 16]) (m' := cM36) [(.dup, 0, 0, 0, 0)] (by decide +kernel) rfl ?_
  refine Wk.callIN (av := []) (a := 17) (st := [.ref 17, .ref 16]) rfl (ev_is_ok (i := .invokespecial 11) (by decide +kernel)) mwX5_init iwX5_init rfl rfl wm_3_11 (KC9_X5_init (d := 1) (by decide)) (by omega) (by decide) (by decide) (by decide +kernel) rfl (Nat.le_of_ble_eq_true rfl) (fun v S2 m2 z => ?_)
  obtain ⟨rfl, rfl, rfl⟩ := z
  show Wk l Ln xs YX3_init d 1 8 12 [some (.ref 16), some (.ref 1)] [.ref 17, .ref 16] cS38 cM37 _
  refine Wk.putF (ci := 3) (k := 0) (idx := 12) (b := 17) (by decide +kernel) (by decide +kernel) rfl rfl (ev_is_ok (by decide +kernel)) (by decide +kernel) rfl (by decide +kernel) rfl (Or.inl ⟨_, rfl⟩) ?_
  show Wk l Ln xs YX3_init d 1 8 15 [some (.ref 16), some (.ref 1)] [] cS39 cM37 _
  refine Wk.run (pc' := 18) (ls' := [some (.ref 16), some (.ref 1)]) (st' := [.int 8, .ref 16]) (m' := cM37) [(.aload_n 0, 0, 0, 0, 0), (.bipush 8, 0, 0, 8, 0)] (by decide +kernel) rfl ?_
  refine Wk.newa (at_ := .int) (N := 8) (code := 100) (ty := .int) rfl (Or.inl ⟨rfl, rfl, rfl⟩) (ev_is_ok (by decide +kernel)) wa_int (by decide) (by decide) (by decide) (by decide +kernel) rfl rfl (by decide) (by decide) ?_
  show Wk l Ln xs YX3_init d 0 0 20 [some (.ref 16), some (.ref 1)] [.ref 21, .ref 16] cS40 cM37 _
  refine Wk.putF (ci := 3) (k := 1) (idx := 18) (b := 21) (by decide +kernel) (by decide +kernel) rfl rfl (ev_is_ok (by decide +kernel)) (by decide +kernel) rfl (by decide +kernel) rfl (Or.inr ⟨_, rfl⟩) ?_
  show Wk l Ln xs YX3_init d 0 0 23 [some (.ref 16), some (.ref 1)] [] cS41 cM37 _
  refine Wk.run (pc' := 30) (ls' := [some (.ref 16), some (.ref 1)]) (st' := [.ref 1, .ref 16]) (m' := cM38) [(.aload_n 0, 0, 0, 0, 0), (.iconst 0, 0, 0, 0, 0), (.putfield 22, 3, 3, 0, 0), (.aload_n 0, 0, 0, 0, 0), (.aload_n 1, 0, 0, 0, 0)] (by decide +kernel) rfl ?_
  refine Wk.putD (ci := 3) (k := 2) (idx := 26) (b := 1) (by decide +kernel) (by decide +kernel) (ev_is_ok (by decide +kernel)) (by decide +kernel) rfl (by decide +kernel) rfl (by decide) (by decide) ?_
  show Wk l Ln xs YX3_init d 0 0 33 [some (.ref 16), some (.ref 1)] [] cS41 cM39 _
  exact Wk.vret rfl (ev_is_ok (by decide +kernel)) ⟨rfl, rfl, rfl⟩
set_option maxRecDepth 100000 in
set_option maxHeartbeats 4000000 in
theorem KC11_X2_init {l : Launch} {Ln : Nat} {xs : Nat → Int32} {d : Nat} (hd : 1 ≤ d) : Mk l Ln xs YX2_init d 1 1608 [.ref 23] cS44 cM39 (fun v S' m' => v = none ∧ S' = cS46 ∧ m' = cM40) := by
  refine Mk.of (by decide +kernel) rfl (Nat.le_of_ble_eq_true rfl) (Wk.le (ls' := [some (.ref 23)]) ⟨rfl, trivial⟩ ?_)
  refine Wk.run (pc' := 1) (ls' := [some (.ref 23)]) (st' := [.ref 23]) (m' := cM39) [(.aload_n 0, 0, 0, 0, 0)] (by decide +kernel) rfl ?_
  refine Wk.objInit (idx := 3) (ev_is_ok (by decide +kernel)) wo_2_3 wobj_i wobj_c (by omega) (Nat.le_of_ble_eq_true rfl) ?_
  show Wk l Ln xs YX2_init d 1 1608 4 [some (.ref 23)] [] cS44 cM39 _
  refine Wk.run (pc' := 8) (ls' := [some (.ref 23)]) (st' := [.int 1608, .ref 23]) (m' := cM39) [(.aload_n 0, 0, 0, 0, 0), (.sipush 1608, 0, 0, 1608, 0)] (by decide +kernel) rfl ?_
  refine Wk.newa (at_ := .int) (N := 1608) (code := 100) (ty := .int) rfl (Or.inl ⟨rfl, rfl, rfl⟩) (ev_is_ok (by decide +kernel)) wa_int (by decide) (by decide) (by decide) (by decide +kernel) rfl rfl (by decide) (by decide) ?_
  show Wk l Ln xs YX2_init d 0 0 10 [some (.ref 23)] [.ref 24, .ref 23] cS45 cM39 _
  refine Wk.putF (ci := 2) (k := 0) (idx := 9) (b := 24) (by decide +kernel) (by decide +kernel) rfl rfl (ev_is_ok (by decide +kernel)) (by decide +kernel) rfl (by decide +kernel) rfl (Or.inr ⟨_, rfl⟩) ?_
  show Wk l Ln xs YX2_init d 0 0 13 [some (.ref 23)] [] cS46 cM39 _
  refine Wk.run (pc' := 18) (ls' := [some (.ref 23)]) (st' := []) (m' := cM40) [(.aload_n 0, 0, 0, 0, 0), (.iconst 0, 0, 0, 0, 0), (.putfield 15, 2, 1, 0, 0)] (by decide +kernel) rfl ?_
  exact Wk.vret rfl (ev_is_ok (by decide +kernel)) ⟨rfl, rfl, rfl⟩
set_option maxRecDepth 100000 in
set_option maxHeartbeats 4000000 in
theorem KC12_X8_init {l : Launch} {Ln : Nat} {xs : Nat → Int32} {d : Nat} (hd : 1 ≤ d) : Mk l Ln xs YX8_init d 2 16 [.ref 25] cS48 cM40 (fun v S' m' => v = none ∧ S' = cS52 ∧ m' = cM44) := by
  refine Mk.of (by decide +kernel) rfl (Nat.le_of_ble_eq_true rfl) (Wk.le (ls' := [some (.ref 25)]) ⟨rfl, trivial⟩ ?_)
  refine Wk.run (pc' := 1) (ls' := [some (.ref 25)]) (st' := [.ref 25]) (m' := cM40) [(.aload_n 0, 0, 0, 0, 0)] (by decide +kernel) rfl ?_
  refine Wk.objInit (idx := 3) (ev_is_ok (by decide +kernel)) wo_8_3 wobj_i wobj_c (by omega) (Nat.le_of_ble_eq_true rfl) ?_
  show Wk l Ln xs YX8_init d 2 16 4 [some (.ref 25)] [] cS48 cM40 _
  refine Wk.run (pc' := 7) (ls' := [some (.ref 25)]) (st' := [.int 8, .ref 25]) (m' := cM40) [(.aload_n 0, 0, 0, 0, 0), (.bipush 8, 0, 0, 8, 0)] (by decide +kernel) rfl ?_
  refine Wk.newa (at_ := .int) (N := 8) (code := 100) (ty := .int) rfl (Or.inl ⟨rfl, rfl, rfl⟩) (ev_is_ok (by decide +kernel)) wa_int (by decide) (by decide) (by decide) (by decide +kernel) rfl rfl (by decide) (by decide) ?_
  show Wk l Ln xs YX8_init d 1 8 9 [some (.ref 25)] [.ref 26, .ref 25] cS49 cM40 _
  refine Wk.putF (ci := 8) (k := 0) (idx := 9) (b := 26) (by decide +kernel) (by decide +kernel) rfl rfl (ev_is_ok (by decide +kernel)) (by decide +kernel) rfl (by decide +kernel) rfl (Or.inr ⟨_, rfl⟩) ?_
  show Wk l Ln xs YX8_init d 1 8 12 [some (.ref 25)] [] cS50 cM40 _
  refine Wk.run (pc' := 15) (ls' := [some (.ref 25)]) (st' := [.int 8, .ref 25]) (m' := cM40) [(.aload_n 0, 0, 0, 0, 0), (.bipush 8, 0, 0, 8, 0)] (by decide +kernel) rfl ?_
  refine Wk.newa (at_ := .int) (N := 8) (code := 100) (ty := .int) rfl (Or.inl ⟨rfl, rfl, rfl⟩) (ev_is_ok (by decide +kernel)) wa_int (by decide) (by decide) (by decide) (by decide +kernel) rfl rfl (by decide) (by decide) ?_
  show Wk l Ln xs YX8_init d 0 0 17 [some (.ref 25)] [.ref 27, .ref 25] cS51 cM40 _
  refine Wk.putF (ci := 8) (k := 1) (idx := 15) (b := 27) (by decide +kernel) (by decide +kernel) rfl rfl (ev_is_ok (by decide +kernel)) (by decide +kernel) rfl (by decide +kernel) rfl (Or.inr ⟨_, rfl⟩) ?_
  show Wk l Ln xs YX8_init d 0 0 20 [some (.ref 25)] [] cS52 cM40 _
  refine Wk.run (pc' := 40) (ls' := [some (.ref 25)]) (st' := []) (m' := cM44) [(.aload_n 0, 0, 0, 0, 0), (.iconst 0, 0, 0, 0, 0), (.putfield 18, 8, 2, 0, 0), (.aload_n 0, 0, 0, 0, 0), (.iconst 0, 0, 0, 0, 0), (.putfield 22, 8, 3, 0, 0), (.aload_n 0, 0, 0, 0, 0), (.iconst 0, 0, 0, 0, 0), (.putfield 25, 8, 4, 0, 0), (.aload_n 0, 0, 0, 0, 0), (.iconst 0, 0, 0, 0, 0), (.putfield 28, 8, 5, 0, 0)] (by decide +kernel) rfl ?_
  exact Wk.vret rfl (ev_is_ok (by decide +kernel)) ⟨rfl, rfl, rfl⟩
set_option maxRecDepth 100000 in
set_option maxHeartbeats 4000000 in
theorem KC10_X7_init {l : Launch} {Ln : Nat} {xs : Nat → Int32} {d : Nat} (hd : 2 ≤ d) : Mk l Ln xs YX7_init d 6 1640 [.ref 22, .ref 13, .ref 15, .ref 16] cS43 cM39 (fun v S' m' => v = none ∧ S' = cS58 ∧ m' = cM45) := by
  refine Mk.of (by decide +kernel) rfl (Nat.le_of_ble_eq_true rfl) (Wk.le (ls' := [some (.ref 22), some (.ref 13), some (.ref 15), some (.ref 16)]) ⟨rfl, ⟨rfl, ⟨rfl, ⟨rfl, trivial⟩⟩⟩⟩ ?_)
  refine Wk.run (pc' := 1) (ls' := [some (.ref 22), some (.ref 13), some (.ref 15), some (.ref 16)]) (st' := [.ref 22]) (m' := cM39) [(.aload_n 0, 0, 0, 0, 0)] (by decide +kernel) rfl ?_
  refine Wk.objInit (idx := 3) (ev_is_ok (by decide +kernel)) wo_7_3 wobj_i wobj_c (by omega) (Nat.le_of_ble_eq_true rfl) ?_
  show Wk l Ln xs YX7_init d 6 1640 4 [some (.ref 22), some (.ref 13), some (.ref 15), some (.ref 16)] [] cS43 cM39 _
  refine Wk.run (pc' := 5) (ls' := [some (.ref 22), some (.ref 13), some (.ref 15), some (.ref 16)]) (st' := [.ref 22]) (m' := cM39) [(.aload_n 0, 0, 0, 0, 0)] (by decide +kernel) rfl ?_
  refine Wk.new (ci := 2) (q := (RX2, TX2, 2)) rfl (ev_is_ok (i := .new 9) (by decide +kernel)) wc_7_9 wi_2 wn_2 (by decide +kernel) rfl rfl rfl (by decide) (by decide) ?_
  show Wk l Ln xs YX7_init d 5 1638 8 [some (.ref 22), some (.ref 13), some (.ref 15), some (.ref 16)] [.ref 23, .ref 22] cS44 cM39 _
  refine Wk.run (pc' := 9) (ls' := [some (.ref 22), some (.ref 13), some (.ref 15), some (.ref 16)]) (st' := [.ref 23, .ref 23, .ref 22]) (m' := cM39) [(.dup, 0, 0, 0, 0)] (by decide +kernel) rfl ?_
  refine Wk.callIN (av := []) (a := 23) (st := [.ref 23, .ref 22]) rfl (ev_is_ok (i := .invokespecial 11) (by decide +kernel)) mwX2_init iwX2_init rfl rfl wm_7_11 (KC11_X2_init (d := 1) (by decide)) (by omega) (by decide) (by decide) (by decide +kernel) rfl (Nat.le_of_ble_eq_true rfl) (fun v S2 m2 z => ?_)
  obtain ⟨rfl, rfl, rfl⟩ := z
  show Wk l Ln xs YX7_init d 4 30 12 [some (.ref 22), some (.ref 13), some (.ref 15), some (.ref 16)] [.ref 23, .ref 22] cS46 cM40 _
  refine Wk.putF (ci := 7) (k := 3) (idx := 12) (b := 23) (by decide +kernel) (by decide +kernel) rfl rfl (ev_is_ok (by decide +kernel)) (by decide +kernel) rfl (by decide +kernel) rfl (Or.inl ⟨_, rfl⟩) ?_
  show Wk l Ln xs YX7_init d 4 30 15 [some (.ref 22), some (.ref 13), some (.ref 15), some (.ref 16)] [] cS47 cM40 _
  refine Wk.run (pc' := 16) (ls' := [some (.ref 22), some (.ref 13), some (.ref 15), some (.ref 16)]) (st' := [.ref 22]) (m' := cM40) [(.aload_n 0, 0, 0, 0, 0)] (by decide +kernel) rfl ?_
  refine Wk.new (ci := 8) (q := (RX8, TX8, 6)) rfl (ev_is_ok (i := .new 18) (by decide +kernel)) wc_7_18 wi_8 wn_8 (by decide +kernel) rfl rfl rfl (by decide) (by decide) ?_
  show Wk l Ln xs YX7_init d 3 24 19 [some (.ref 22), some (.ref 13), some (.ref 15), some (.ref 16)] [.ref 25, .ref 22] cS48 cM40 _
  refine Wk.run (pc' := 20) (ls' := [some (.ref 22), some (.ref 13), some (.ref 15), some (.ref 16)]) (st' := [.ref 25, .ref 25, .ref 22]) (m' := cM40) [(.dup, 0, 0, 0, 0)] (by decide +kernel) rfl ?_
  refine Wk.callIN (av := []) (a := 25) (st := [.ref 25, .ref 22]) rfl (ev_is_ok (i := .invokespecial 20) (by decide +kernel)) mwX8_init iwX8_init rfl rfl wm_7_20 (KC12_X8_init (d := 1) (by decide)) (by omega) (by decide) (by decide) (by decide +kernel) rfl (Nat.le_of_ble_eq_true rfl) (fun v S2 m2 z => ?_)
  obtain ⟨rfl, rfl, rfl⟩ := z
  show Wk l Ln xs YX7_init d 1 8 23 [some (.ref 22), some (.ref 13), some (.ref 15), some (.ref 16)] [.ref 25, .ref 22] cS52 cM44 _
  refine Wk.putF (ci := 7) (k := 4) (idx := 21) (b := 25) (by decide +kernel) (by decide +kernel) rfl rfl (ev_is_ok (by decide +kernel)) (by decide +kernel) rfl (by decide +kernel) rfl (Or.inl ⟨_, rfl⟩) ?_
  show Wk l Ln xs YX7_init d 1 8 26 [some (.ref 22), some (.ref 13), some (.ref 15), some (.ref 16)] [] cS53 cM44 _
  refine Wk.run (pc' := 29) (ls' := [some (.ref 22), some (.ref 13), some (.ref 15), some (.ref 16)]) (st' := [.int 8, .ref 22]) (m' := cM44) [(.aload_n 0, 0, 0, 0, 0), (.bipush 8, 0, 0, 8, 0)] (by decide +kernel) rfl ?_
  refine Wk.newa (at_ := .int) (N := 8) (code := 100) (ty := .int) rfl (Or.inl ⟨rfl, rfl, rfl⟩) (ev_is_ok (by decide +kernel)) wa_int (by decide) (by decide) (by decide) (by decide +kernel) rfl rfl (by decide) (by decide) ?_
  show Wk l Ln xs YX7_init d 0 0 31 [some (.ref 22), some (.ref 13), some (.ref 15), some (.ref 16)] [.ref 28, .ref 22] cS54 cM44 _
  refine Wk.putF (ci := 7) (k := 5) (idx := 25) (b := 28) (by decide +kernel) (by decide +kernel) rfl rfl (ev_is_ok (by decide +kernel)) (by decide +kernel) rfl (by decide +kernel) rfl (Or.inr ⟨_, rfl⟩) ?_
  show Wk l Ln xs YX7_init d 0 0 34 [some (.ref 22), some (.ref 13), some (.ref 15), some (.ref 16)] [] cS55 cM44 _
  refine Wk.run (pc' := 41) (ls' := [some (.ref 22), some (.ref 13), some (.ref 15), some (.ref 16)]) (st' := [.ref 13, .ref 22]) (m' := cM45) [(.aload_n 0, 0, 0, 0, 0), (.iconst (-1), 0, 0, (-1), 0), (.putfield 29, 7, 6, 0, 0), (.aload_n 0, 0, 0, 0, 0), (.aload_n 1, 0, 0, 0, 0)] (by decide +kernel) rfl ?_
  refine Wk.putF (ci := 7) (k := 0) (idx := 33) (b := 13) (by decide +kernel) (by decide +kernel) rfl rfl (ev_is_ok (by decide +kernel)) (by decide +kernel) rfl (by decide +kernel) rfl (Or.inl ⟨_, rfl⟩) ?_
  show Wk l Ln xs YX7_init d 0 0 44 [some (.ref 22), some (.ref 13), some (.ref 15), some (.ref 16)] [] cS56 cM45 _
  refine Wk.run (pc' := 46) (ls' := [some (.ref 22), some (.ref 13), some (.ref 15), some (.ref 16)]) (st' := [.ref 15, .ref 22]) (m' := cM45) [(.aload_n 0, 0, 0, 0, 0), (.aload_n 2, 0, 0, 0, 0)] (by decide +kernel) rfl ?_
  refine Wk.putF (ci := 7) (k := 1) (idx := 37) (b := 15) (by decide +kernel) (by decide +kernel) rfl rfl (ev_is_ok (by decide +kernel)) (by decide +kernel) rfl (by decide +kernel) rfl (Or.inl ⟨_, rfl⟩) ?_
  show Wk l Ln xs YX7_init d 0 0 49 [some (.ref 22), some (.ref 13), some (.ref 15), some (.ref 16)] [] cS57 cM45 _
  refine Wk.run (pc' := 51) (ls' := [some (.ref 22), some (.ref 13), some (.ref 15), some (.ref 16)]) (st' := [.ref 16, .ref 22]) (m' := cM45) [(.aload_n 0, 0, 0, 0, 0), (.aload_n 3, 0, 0, 0, 0)] (by decide +kernel) rfl ?_
  refine Wk.putF (ci := 7) (k := 2) (idx := 41) (b := 16) (by decide +kernel) (by decide +kernel) rfl rfl (ev_is_ok (by decide +kernel)) (by decide +kernel) rfl (by decide +kernel) rfl (Or.inl ⟨_, rfl⟩) ?_
  show Wk l Ln xs YX7_init d 0 0 54 [some (.ref 22), some (.ref 13), some (.ref 15), some (.ref 16)] [] cS58 cM45 _
  exact Wk.vret rfl (ev_is_ok (by decide +kernel)) ⟨rfl, rfl, rfl⟩
set_option maxRecDepth 100000 in
set_option maxHeartbeats 4000000 in
theorem KC14_X8_init {l : Launch} {Ln : Nat} {xs : Nat → Int32} {d : Nat} (hd : 1 ≤ d) : Mk l Ln xs YX8_init d 2 16 [.ref 30] cS61 cM45 (fun v S' m' => v = none ∧ S' = cS65 ∧ m' = cM49) := by
  refine Mk.of (by decide +kernel) rfl (Nat.le_of_ble_eq_true rfl) (Wk.le (ls' := [some (.ref 30)]) ⟨rfl, trivial⟩ ?_)
  refine Wk.run (pc' := 1) (ls' := [some (.ref 30)]) (st' := [.ref 30]) (m' := cM45) [(.aload_n 0, 0, 0, 0, 0)] (by decide +kernel) rfl ?_
  refine Wk.objInit (idx := 3) (ev_is_ok (by decide +kernel)) wo_8_3 wobj_i wobj_c (by omega) (Nat.le_of_ble_eq_true rfl) ?_
  show Wk l Ln xs YX8_init d 2 16 4 [some (.ref 30)] [] cS61 cM45 _
  refine Wk.run (pc' := 7) (ls' := [some (.ref 30)]) (st' := [.int 8, .ref 30]) (m' := cM45) [(.aload_n 0, 0, 0, 0, 0), (.bipush 8, 0, 0, 8, 0)] (by decide +kernel) rfl ?_
  refine Wk.newa (at_ := .int) (N := 8) (code := 100) (ty := .int) rfl (Or.inl ⟨rfl, rfl, rfl⟩) (ev_is_ok (by decide +kernel)) wa_int (by decide) (by decide) (by decide) (by decide +kernel) rfl rfl (by decide) (by decide) ?_
  show Wk l Ln xs YX8_init d 1 8 9 [some (.ref 30)] [.ref 31, .ref 30] cS62 cM45 _
  refine Wk.putF (ci := 8) (k := 0) (idx := 9) (b := 31) (by decide +kernel) (by decide +kernel) rfl rfl (ev_is_ok (by decide +kernel)) (by decide +kernel) rfl (by decide +kernel) rfl (Or.inr ⟨_, rfl⟩) ?_
  show Wk l Ln xs YX8_init d 1 8 12 [some (.ref 30)] [] cS63 cM45 _
  refine Wk.run (pc' := 15) (ls' := [some (.ref 30)]) (st' := [.int 8, .ref 30]) (m' := cM45) [(.aload_n 0, 0, 0, 0, 0), (.bipush 8, 0, 0, 8, 0)] (by decide +kernel) rfl ?_
  refine Wk.newa (at_ := .int) (N := 8) (code := 100) (ty := .int) rfl (Or.inl ⟨rfl, rfl, rfl⟩) (ev_is_ok (by decide +kernel)) wa_int (by decide) (by decide) (by decide) (by decide +kernel) rfl rfl (by decide) (by decide) ?_
  show Wk l Ln xs YX8_init d 0 0 17 [some (.ref 30)] [.ref 32, .ref 30] cS64 cM45 _
  refine Wk.putF (ci := 8) (k := 1) (idx := 15) (b := 32) (by decide +kernel) (by decide +kernel) rfl rfl (ev_is_ok (by decide +kernel)) (by decide +kernel) rfl (by decide +kernel) rfl (Or.inr ⟨_, rfl⟩) ?_
  show Wk l Ln xs YX8_init d 0 0 20 [some (.ref 30)] [] cS65 cM45 _
  refine Wk.run (pc' := 40) (ls' := [some (.ref 30)]) (st' := []) (m' := cM49) [(.aload_n 0, 0, 0, 0, 0), (.iconst 0, 0, 0, 0, 0), (.putfield 18, 8, 2, 0, 0), (.aload_n 0, 0, 0, 0, 0), (.iconst 0, 0, 0, 0, 0), (.putfield 22, 8, 3, 0, 0), (.aload_n 0, 0, 0, 0, 0), (.iconst 0, 0, 0, 0, 0), (.putfield 25, 8, 4, 0, 0), (.aload_n 0, 0, 0, 0, 0), (.iconst 0, 0, 0, 0, 0), (.putfield 28, 8, 5, 0, 0)] (by decide +kernel) rfl ?_
  exact Wk.vret rfl (ev_is_ok (by decide +kernel)) ⟨rfl, rfl, rfl⟩
set_option maxRecDepth 100000 in
set_option maxHeartbeats 4000000 in
theorem KC13_X0_init {l : Launch} {Ln : Nat} {xs : Nat → Int32} {d : Nat} (hd : 2 ≤ d) : Mk l Ln xs YX0_init d 3 22 [.ref 29, .ref 16] cS60 cM45 (fun v S' m' => v = none ∧ S' = cS67 ∧ m' = cM52) := by
  refine Mk.of (by decide +kernel) rfl (Nat.le_of_ble_eq_true rfl) (Wk.le (ls' := [some (.ref 29), some (.ref 16)]) ⟨rfl, ⟨rfl, trivial⟩⟩ ?_)
  refine Wk.run (pc' := 1) (ls' := [some (.ref 29), some (.ref 16)]) (st' := [.ref 29]) (m' := cM45) [(.aload_n 0, 0, 0, 0, 0)] (by decide +kernel) rfl ?_
  refine Wk.objInit (idx := 3) (ev_is_ok (by decide +kernel)) wo_0_3 wobj_i wobj_c (by omega) (Nat.le_of_ble_eq_true rfl) ?_
  show Wk l Ln xs YX0_init d 3 22 4 [some (.ref 29), some (.ref 16)] [] cS60 cM45 _
  refine Wk.run (pc' := 5) (ls' := [some (.ref 29), some (.ref 16)]) (st' := [.ref 29]) (m' := cM45) [(.aload_n 0, 0, 0, 0, 0)] (by decide +kernel) rfl ?_
  refine Wk.new (ci := 8) (q := (RX8, TX8, 6)) rfl (ev_is_ok (i := .new 9) (by decide +kernel)) wc_0_9 wi_8 wn_8 (by decide +kernel) rfl rfl rfl (by decide) (by decide) ?_
  show Wk l Ln xs YX0_init d 2 16 8 [some (.ref 29), some (.ref 16)] [.ref 30, .ref 29] cS61 cM45 _
  refine Wk.run (pc' := 9) (ls' := [some (.ref 29), some (.ref 16)]) (st' := [.ref 30, .ref 30, .ref 29]) (m' := cM45) [(.dup, 0, 0, 0, 0)] (by decide +kernel) rfl ?_
  refine Wk.callIN (av := []) (a := 30) (st := [.ref 30, .ref 29]) rfl (ev_is_ok (i := .invokespecial 11) (by decide +kernel)) mwX8_init iwX8_init rfl rfl wm_0_11 (KC14_X8_init (d := 1) (by decide)) (by omega) (by decide) (by decide) (by decide +kernel) rfl (Nat.le_of_ble_eq_true rfl) (fun v S2 m2 z => ?_)
  obtain ⟨rfl, rfl, rfl⟩ := z
  show Wk l Ln xs YX0_init d 0 0 12 [some (.ref 29), some (.ref 16)] [.ref 30, .ref 29] cS65 cM49 _
  refine Wk.putF (ci := 0) (k := 1) (idx := 12) (b := 30) (by decide +kernel) (by decide +kernel) rfl rfl (ev_is_ok (by decide +kernel)) (by decide +kernel) rfl (by decide +kernel) rfl (Or.inl ⟨_, rfl⟩) ?_
  show Wk l Ln xs YX0_init d 0 0 15 [some (.ref 29), some (.ref 16)] [] cS66 cM49 _
  refine Wk.run (pc' := 32) (ls' := [some (.ref 29), some (.ref 16)]) (st' := [.ref 16, .ref 29]) (m' := cM52) [(.aload_n 0, 0, 0, 0, 0), (.iconst (-1), 0, 0, (-1), 0), (.putfield 18, 0, 2, 0, 0), (.aload_n 0, 0, 0, 0, 0), (.iconst (-1), 0, 0, (-1), 0), (.putfield 22, 0, 3, 0, 0), (.aload_n 0, 0, 0, 0, 0), (.iconst 0, 0, 0, 0, 0), (.putfield 25, 0, 4, 0, 0), (.aload_n 0, 0, 0, 0, 0), (.aload_n 1, 0, 0, 0, 0)] (by decide +kernel) rfl ?_
  refine Wk.putF (ci := 0) (k := 0) (idx := 28) (b := 16) (by decide +kernel) (by decide +kernel) rfl rfl (ev_is_ok (by decide +kernel)) (by decide +kernel) rfl (by decide +kernel) rfl (Or.inl ⟨_, rfl⟩) ?_
  show Wk l Ln xs YX0_init d 0 0 35 [some (.ref 29), some (.ref 16)] [] cS67 cM52 _
  exact Wk.vret rfl (ev_is_ok (by decide +kernel)) ⟨rfl, rfl, rfl⟩
set_option maxRecDepth 100000 in
set_option maxHeartbeats 4000000 in
theorem KC16_X8_init {l : Launch} {Ln : Nat} {xs : Nat → Int32} {d : Nat} (hd : 1 ≤ d) : Mk l Ln xs YX8_init d 2 16 [.ref 34] cS70 cM52 (fun v S' m' => v = none ∧ S' = cS74 ∧ m' = cM56) := by
  refine Mk.of (by decide +kernel) rfl (Nat.le_of_ble_eq_true rfl) (Wk.le (ls' := [some (.ref 34)]) ⟨rfl, trivial⟩ ?_)
  refine Wk.run (pc' := 1) (ls' := [some (.ref 34)]) (st' := [.ref 34]) (m' := cM52) [(.aload_n 0, 0, 0, 0, 0)] (by decide +kernel) rfl ?_
  refine Wk.objInit (idx := 3) (ev_is_ok (by decide +kernel)) wo_8_3 wobj_i wobj_c (by omega) (Nat.le_of_ble_eq_true rfl) ?_
  show Wk l Ln xs YX8_init d 2 16 4 [some (.ref 34)] [] cS70 cM52 _
  refine Wk.run (pc' := 7) (ls' := [some (.ref 34)]) (st' := [.int 8, .ref 34]) (m' := cM52) [(.aload_n 0, 0, 0, 0, 0), (.bipush 8, 0, 0, 8, 0)] (by decide +kernel) rfl ?_
  refine Wk.newa (at_ := .int) (N := 8) (code := 100) (ty := .int) rfl (Or.inl ⟨rfl, rfl, rfl⟩) (ev_is_ok (by decide +kernel)) wa_int (by decide) (by decide) (by decide) (by decide +kernel) rfl rfl (by decide) (by decide) ?_
  show Wk l Ln xs YX8_init d 1 8 9 [some (.ref 34)] [.ref 35, .ref 34] cS71 cM52 _
  refine Wk.putF (ci := 8) (k := 0) (idx := 9) (b := 35) (by decide +kernel) (by decide +kernel) rfl rfl (ev_is_ok (by decide +kernel)) (by decide +kernel) rfl (by decide +kernel) rfl (Or.inr ⟨_, rfl⟩) ?_
  show Wk l Ln xs YX8_init d 1 8 12 [some (.ref 34)] [] cS72 cM52 _
  refine Wk.run (pc' := 15) (ls' := [some (.ref 34)]) (st' := [.int 8, .ref 34]) (m' := cM52) [(.aload_n 0, 0, 0, 0, 0), (.bipush 8, 0, 0, 8, 0)] (by decide +kernel) rfl ?_
  refine Wk.newa (at_ := .int) (N := 8) (code := 100) (ty := .int) rfl (Or.inl ⟨rfl, rfl, rfl⟩) (ev_is_ok (by decide +kernel)) wa_int (by decide) (by decide) (by decide) (by decide +kernel) rfl rfl (by decide) (by decide) ?_
  show Wk l Ln xs YX8_init d 0 0 17 [some (.ref 34)] [.ref 36, .ref 34] cS73 cM52 _
  refine Wk.putF (ci := 8) (k := 1) (idx := 15) (b := 36) (by decide +kernel) (by decide +kernel) rfl rfl (ev_is_ok (by decide +kernel)) (by decide +kernel) rfl (by decide +kernel) rfl (Or.inr ⟨_, rfl⟩) ?_
  show Wk l Ln xs YX8_init d 0 0 20 [some (.ref 34)] [] cS74 cM52 _
  refine Wk.run (pc' := 40) (ls' := [some (.ref 34)]) (st' := []) (m' := cM56) [(.aload_n 0, 0, 0, 0, 0), (.iconst 0, 0, 0, 0, 0), (.putfield 18, 8, 2, 0, 0), (.aload_n 0, 0, 0, 0, 0), (.iconst 0, 0, 0, 0, 0), (.putfield 22, 8, 3, 0, 0), (.aload_n 0, 0, 0, 0, 0), (.iconst 0, 0, 0, 0, 0), (.putfield 25, 8, 4, 0, 0), (.aload_n 0, 0, 0, 0, 0), (.iconst 0, 0, 0, 0, 0), (.putfield 28, 8, 5, 0, 0)] (by decide +kernel) rfl ?_
  exact Wk.vret rfl (ev_is_ok (by decide +kernel)) ⟨rfl, rfl, rfl⟩
set_option maxRecDepth 100000 in
set_option maxHeartbeats 4000000 in
theorem KC15_X4_init {l : Launch} {Ln : Nat} {xs : Nat → Int32} {d : Nat} (hd : 2 ≤ d) : Mk l Ln xs YX4_init d 6 2560 [.ref 33, .ref 16] cS69 cM52 (fun v S' m' => v = none ∧ S' = cS82 ∧ m' = cM61) := by
  refine Mk.of (by decide +kernel) rfl (Nat.le_of_ble_eq_true rfl) (Wk.le (ls' := [some (.ref 33), some (.ref 16)]) ⟨rfl, ⟨rfl, trivial⟩⟩ ?_)
  refine Wk.run (pc' := 1) (ls' := [some (.ref 33), some (.ref 16)]) (st' := [.ref 33]) (m' := cM52) [(.aload_n 0, 0, 0, 0, 0)] (by decide +kernel) rfl ?_
  refine Wk.objInit (idx := 3) (ev_is_ok (by decide +kernel)) wo_4_3 wobj_i wobj_c (by omega) (Nat.le_of_ble_eq_true rfl) ?_
  show Wk l Ln xs YX4_init d 6 2560 4 [some (.ref 33), some (.ref 16)] [] cS69 cM52 _
  refine Wk.run (pc' := 5) (ls' := [some (.ref 33), some (.ref 16)]) (st' := [.ref 33]) (m' := cM52) [(.aload_n 0, 0, 0, 0, 0)] (by decide +kernel) rfl ?_
  refine Wk.new (ci := 8) (q := (RX8, TX8, 6)) rfl (ev_is_ok (i := .new 9) (by decide +kernel)) wc_4_9 wi_8 wn_8 (by decide +kernel) rfl rfl rfl (by decide) (by decide) ?_
  show Wk l Ln xs YX4_init d 5 2554 8 [some (.ref 33), some (.ref 16)] [.ref 34, .ref 33] cS70 cM52 _
  refine Wk.run (pc' := 9) (ls' := [some (.ref 33), some (.ref 16)]) (st' := [.ref 34, .ref 34, .ref 33]) (m' := cM52) [(.dup, 0, 0, 0, 0)] (by decide +kernel) rfl ?_
  refine Wk.callIN (av := []) (a := 34) (st := [.ref 34, .ref 33]) rfl (ev_is_ok (i := .invokespecial 11) (by decide +kernel)) mwX8_init iwX8_init rfl rfl wm_4_11 (KC16_X8_init (d := 1) (by decide)) (by omega) (by decide) (by decide) (by decide +kernel) rfl (Nat.le_of_ble_eq_true rfl) (fun v S2 m2 z => ?_)
  obtain ⟨rfl, rfl, rfl⟩ := z
  show Wk l Ln xs YX4_init d 3 2538 12 [some (.ref 33), some (.ref 16)] [.ref 34, .ref 33] cS74 cM56 _
  refine Wk.putF (ci := 4) (k := 1) (idx := 12) (b := 34) (by decide +kernel) (by decide +kernel) rfl rfl (ev_is_ok (by decide +kernel)) (by decide +kernel) rfl (by decide +kernel) rfl (Or.inl ⟨_, rfl⟩) ?_
  show Wk l Ln xs YX4_init d 3 2538 15 [some (.ref 33), some (.ref 16)] [] cS75 cM56 _
  refine Wk.run (pc' := 18) (ls' := [some (.ref 33), some (.ref 16)]) (st' := [.int 48, .ref 33]) (m' := cM56) [(.aload_n 0, 0, 0, 0, 0), (.bipush 48, 0, 0, 48, 0)] (by decide +kernel) rfl ?_
  refine Wk.newa (at_ := .int) (N := 48) (code := 100) (ty := .int) rfl (Or.inl ⟨rfl, rfl, rfl⟩) (ev_is_ok (by decide +kernel)) wa_int (by decide) (by decide) (by decide) (by decide +kernel) rfl rfl (by decide) (by decide) ?_
  show Wk l Ln xs YX4_init d 2 2490 20 [some (.ref 33), some (.ref 16)] [.ref 37, .ref 33] cS76 cM56 _
  refine Wk.putF (ci := 4) (k := 2) (idx := 18) (b := 37) (by decide +kernel) (by decide +kernel) rfl rfl (ev_is_ok (by decide +kernel)) (by decide +kernel) rfl (by decide +kernel) rfl (Or.inr ⟨_, rfl⟩) ?_
  show Wk l Ln xs YX4_init d 2 2490 23 [some (.ref 33), some (.ref 16)] [] cS77 cM56 _
  refine Wk.run (pc' := 27) (ls' := [some (.ref 33), some (.ref 16)]) (st' := [.int 2480, .ref 33]) (m' := cM56) [(.aload_n 0, 0, 0, 0, 0), (.sipush 2480, 0, 0, 2480, 0)] (by decide +kernel) rfl ?_
  refine Wk.newa (at_ := .int) (N := 2480) (code := 100) (ty := .int) rfl (Or.inl ⟨rfl, rfl, rfl⟩) (ev_is_ok (by decide +kernel)) wa_int (by decide) (by decide) (by decide) (by decide +kernel) rfl rfl (by decide) (by decide) ?_
  show Wk l Ln xs YX4_init d 1 10 29 [some (.ref 33), some (.ref 16)] [.ref 38, .ref 33] cS78 cM56 _
  refine Wk.putF (ci := 4) (k := 3) (idx := 22) (b := 38) (by decide +kernel) (by decide +kernel) rfl rfl (ev_is_ok (by decide +kernel)) (by decide +kernel) rfl (by decide +kernel) rfl (Or.inr ⟨_, rfl⟩) ?_
  show Wk l Ln xs YX4_init d 1 10 32 [some (.ref 33), some (.ref 16)] [] cS79 cM56 _
  refine Wk.run (pc' := 35) (ls' := [some (.ref 33), some (.ref 16)]) (st' := [.int 10, .ref 33]) (m' := cM56) [(.aload_n 0, 0, 0, 0, 0), (.bipush 10, 0, 0, 10, 0)] (by decide +kernel) rfl ?_
  refine Wk.newa (at_ := .int) (N := 10) (code := 100) (ty := .int) rfl (Or.inl ⟨rfl, rfl, rfl⟩) (ev_is_ok (by decide +kernel)) wa_int (by decide) (by decide) (by decide) (by decide +kernel) rfl rfl (by decide) (by decide) ?_
  show Wk l Ln xs YX4_init d 0 0 37 [some (.ref 33), some (.ref 16)] [.ref 39, .ref 33] cS80 cM56 _
  refine Wk.putF (ci := 4) (k := 4) (idx := 25) (b := 39) (by decide +kernel) (by decide +kernel) rfl rfl (ev_is_ok (by decide +kernel)) (by decide +kernel) rfl (by decide +kernel) rfl (Or.inr ⟨_, rfl⟩) ?_
  show Wk l Ln xs YX4_init d 0 0 40 [some (.ref 33), some (.ref 16)] [] cS81 cM56 _
  refine Wk.run (pc' := 67) (ls' := [some (.ref 33), some (.ref 16)]) (st' := [.ref 16, .ref 33]) (m' := cM61) [(.aload_n 0, 0, 0, 0, 0), (.iconst 0, 0, 0, 0, 0), (.putfield 28, 4, 5, 0, 0), (.aload_n 0, 0, 0, 0, 0), (.iconst 0, 0, 0, 0, 0), (.putfield 32, 4, 6, 0, 0), (.aload_n 0, 0, 0, 0, 0), (.iconst (-1), 0, 0, (-1), 0), (.putfield 35, 4, 7, 0, 0), (.aload_n 0, 0, 0, 0, 0), (.iconst (-1), 0, 0, (-1), 0), (.putfield 38, 4, 8, 0, 0), (.aload_n 0, 0, 0, 0, 0), (.iconst (-1), 0, 0, (-1), 0), (.putfield 41, 4, 9, 0, 0), (.aload_n 0, 0, 0, 0, 0), (.aload_n 1, 0, 0, 0, 0)] (by decide +kernel) rfl ?_
  refine Wk.putF (ci := 4) (k := 0) (idx := 44) (b := 16) (by decide +kernel) (by decide +kernel) rfl rfl (ev_is_ok (by decide +kernel)) (by decide +kernel) rfl (by decide +kernel) rfl (Or.inl ⟨_, rfl⟩) ?_
  show Wk l Ln xs YX4_init d 0 0 70 [some (.ref 33), some (.ref 16)] [] cS82 cM61 _
  exact Wk.vret rfl (ev_is_ok (by decide +kernel)) ⟨rfl, rfl, rfl⟩
set_option maxRecDepth 100000 in
set_option maxHeartbeats 4000000 in
theorem KC18_X8_init {l : Launch} {Ln : Nat} {xs : Nat → Int32} {d : Nat} (hd : 1 ≤ d) : Mk l Ln xs YX8_init d 2 16 [.ref 43] cS89 cM63 (fun v S' m' => v = none ∧ S' = cS93 ∧ m' = cM67) := by
  refine Mk.of (by decide +kernel) rfl (Nat.le_of_ble_eq_true rfl) (Wk.le (ls' := [some (.ref 43)]) ⟨rfl, trivial⟩ ?_)
  refine Wk.run (pc' := 1) (ls' := [some (.ref 43)]) (st' := [.ref 43]) (m' := cM63) [(.aload_n 0, 0, 0, 0, 0)] (by decide +kernel) rfl ?_
  refine Wk.objInit (idx := 3) (ev_is_ok (by decide +kernel)) wo_8_3 wobj_i wobj_c (by omega) (Nat.le_of_ble_eq_true rfl) ?_
  show Wk l Ln xs YX8_init d 2 16 4 [some (.ref 43)] [] cS89 cM63 _
  refine Wk.run (pc' := 7) (ls' := [some (.ref 43)]) (st' := [.int 8, .ref 43]) (m' := cM63) [(.aload_n 0, 0, 0, 0, 0), (.bipush 8, 0, 0, 8, 0)] (by decide +kernel) rfl ?_
  refine Wk.newa (at_ := .int) (N := 8) (code := 100) (ty := .int) rfl (Or.inl ⟨rfl, rfl, rfl⟩) (ev_is_ok (by decide +kernel)) wa_int (by decide) (by decide) (by decide) (by decide +kernel) rfl rfl (by decide) (by decide) ?_
  show Wk l Ln xs YX8_init d 1 8 9 [some (.ref 43)] [.ref 44, .ref 43] cS90 cM63 _
  refine Wk.putF (ci := 8) (k := 0) (idx := 9) (b := 44) (by decide +kernel) (by decide +kernel) rfl rfl (ev_is_ok (by decide +kernel)) (by decide +kernel) rfl (by decide +kernel) rfl (Or.inr ⟨_, rfl⟩) ?_
  show Wk l Ln xs YX8_init d 1 8 12 [some (.ref 43)] [] cS91 cM63 _
  refine Wk.run (pc' := 15) (ls' := [some (.ref 43)]) (st' := [.int 8, .ref 43]) (m' := cM63) [(.aload_n 0, 0, 0, 0, 0), (.bipush 8, 0, 0, 8, 0)] (by decide +kernel) rfl ?_
  refine Wk.newa (at_ := .int) (N := 8) (code := 100) (ty := .int) rfl (Or.inl ⟨rfl, rfl, rfl⟩) (ev_is_ok (by decide +kernel)) wa_int (by decide) (by decide) (by decide) (by decide +kernel) rfl rfl (by decide) (by decide) ?_
  show Wk l Ln xs YX8_init d 0 0 17 [some (.ref 43)] [.ref 45, .ref 43] cS92 cM63 _
  refine Wk.putF (ci := 8) (k := 1) (idx := 15) (b := 45) (by decide +kernel) (by decide +kernel) rfl rfl (ev_is_ok (by decide +kernel)) (by decide +kernel) rfl (by decide +kernel) rfl (Or.inr ⟨_, rfl⟩) ?_
  show Wk l Ln xs YX8_init d 0 0 20 [some (.ref 43)] [] cS93 cM63 _
  refine Wk.run (pc' := 40) (ls' := [some (.ref 43)]) (st' := []) (m' := cM67) [(.aload_n 0, 0, 0, 0, 0), (.iconst 0, 0, 0, 0, 0), (.putfield 18, 8, 2, 0, 0), (.aload_n 0, 0, 0, 0, 0), (.iconst 0, 0, 0, 0, 0), (.putfield 22, 8, 3, 0, 0), (.aload_n 0, 0, 0, 0, 0), (.iconst 0, 0, 0, 0, 0), (.putfield 25, 8, 4, 0, 0), (.aload_n 0, 0, 0, 0, 0), (.iconst 0, 0, 0, 0, 0), (.putfield 28, 8, 5, 0, 0)] (by decide +kernel) rfl ?_
  exact Wk.vret rfl (ev_is_ok (by decide +kernel)) ⟨rfl, rfl, rfl⟩
set_option maxRecDepth 100000 in
set_option maxHeartbeats 4000000 in
theorem KC19_X8_init {l : Launch} {Ln : Nat} {xs : Nat → Int32} {d : Nat} (hd : 1 ≤ d) : Mk l Ln xs YX8_init d 2 16 [.ref 46] cS95 cM67 (fun v S' m' => v = none ∧ S' = cS99 ∧ m' = cM71) := by
  refine Mk.of (by decide +kernel) rfl (Nat.le_of_ble_eq_true rfl) (Wk.le (ls' := [some (.ref 46)]) ⟨rfl, trivial⟩ ?_)
  refine Wk.run (pc' := 1) (ls' := [some (.ref 46)]) (st' := [.ref 46]) (m' := cM67) [(.aload_n 0, 0, 0, 0, 0)] (by decide +kernel) rfl ?_
  refine Wk.objInit (idx := 3) (ev_is_ok (by decide +kernel)) wo_8_3 wobj_i wobj_c (by omega) (Nat.le_of_ble_eq_true rfl) ?_
  show Wk l Ln xs YX8_init d 2 16 4 [some (.ref 46)] [] cS95 cM67 _
  refine Wk.run (pc' := 7) (ls' := [some (.ref 46)]) (st' := [.int 8, .ref 46]) (m' := cM67) [(.aload_n 0, 0, 0, 0, 0), (.bipush 8, 0, 0, 8, 0)] (by decide +kernel) rfl ?_
  refine Wk.newa (at_ := .int) (N := 8) (code := 100) (ty := .int) rfl (Or.inl ⟨rfl, rfl, rfl⟩) (ev_is_ok (by decide +kernel)) wa_int (by decide) (by decide) (by decide) (by decide +kernel) rfl rfl (by decide) (by decide) ?_
  show Wk l Ln xs YX8_init d 1 8 9 [some (.ref 46)] [.ref 47, .ref 46] cS96 cM67 _
  refine Wk.putF (ci := 8) (k := 0) (idx := 9) (b := 47) (by decide +kernel) (by decide +kernel) rfl rfl (ev_is_ok (by decide +kernel)) (by decide +kernel) rfl (by decide +kernel) rfl (Or.inr ⟨_, rfl⟩) ?_
  show Wk l Ln xs YX8_init d 1 8 12 [some (.ref 46)] [] cS97 cM67 _
  refine Wk.run (pc' := 15) (ls' := [some (.ref 46)]) (st' := [.int 8, .ref 46]) (m' := cM67) [(.aload_n 0, 0, 0, 0, 0), (.bipush 8, 0, 0, 8, 0)] (by decide +kernel) rfl ?_
  refine Wk.newa (at_ := .int) (N := 8) (code := 100) (ty := .int) rfl (Or.inl ⟨rfl, rfl, rfl⟩) (ev_is_ok (by decide +kernel)) wa_int (by decide) (by decide) (by decide) (by decide +kernel) rfl rfl (by decide) (by decide) ?_
  show Wk l Ln xs YX8_init d 0 0 17 [some (.ref 46)] [.ref 48, .ref 46] cS98 cM67 _
  refine Wk.putF (ci := 8) (k := 1) (idx := 15) (b := 48) (by decide +kernel) (by decide +kernel) rfl rfl (ev_is_ok (by decide +kernel)) (by decide +kernel) rfl (by decide +kernel) rfl (Or.inr ⟨_, rfl⟩) ?_
  show Wk l Ln xs YX8_init d 0 0 20 [some (.ref 46)] [] cS99 cM67 _
  refine Wk.run (pc' := 40) (ls' := [some (.ref 46)]) (st' := []) (m' := cM71) [(.aload_n 0, 0, 0, 0, 0), (.iconst 0, 0, 0, 0, 0), (.putfield 18, 8, 2, 0, 0), (.aload_n 0, 0, 0, 0, 0), (.iconst 0, 0, 0, 0, 0), (.putfield 22, 8, 3, 0, 0), (.aload_n 0, 0, 0, 0, 0), (.iconst 0, 0, 0, 0, 0), (.putfield 25, 8, 4, 0, 0), (.aload_n 0, 0, 0, 0, 0), (.iconst 0, 0, 0, 0, 0), (.putfield 28, 8, 5, 0, 0)] (by decide +kernel) rfl ?_
  exact Wk.vret rfl (ev_is_ok (by decide +kernel)) ⟨rfl, rfl, rfl⟩
set_option maxRecDepth 100000 in
set_option maxHeartbeats 4000000 in
theorem KC20_X8_init {l : Launch} {Ln : Nat} {xs : Nat → Int32} {d : Nat} (hd : 1 ≤ d) : Mk l Ln xs YX8_init d 2 16 [.ref 49] cS101 cM71 (fun v S' m' => v = none ∧ S' = cS105 ∧ m' = cM75) := by
  refine Mk.of (by decide +kernel) rfl (Nat.le_of_ble_eq_true rfl) (Wk.le (ls' := [some (.ref 49)]) ⟨rfl, trivial⟩ ?_)
  refine Wk.run (pc' := 1) (ls' := [some (.ref 49)]) (st' := [.ref 49]) (m' := cM71) [(.aload_n 0, 0, 0, 0, 0)] (by decide +kernel) rfl ?_
  refine Wk.objInit (idx := 3) (ev_is_ok (by decide +kernel)) wo_8_3 wobj_i wobj_c (by omega) (Nat.le_of_ble_eq_true rfl) ?_
  show Wk l Ln xs YX8_init d 2 16 4 [some (.ref 49)] [] cS101 cM71 _
  refine Wk.run (pc' := 7) (ls' := [some (.ref 49)]) (st' := [.int 8, .ref 49]) (m' := cM71) [(.aload_n 0, 0, 0, 0, 0), (.bipush 8, 0, 0, 8, 0)] (by decide +kernel) rfl ?_
  refine Wk.newa (at_ := .int) (N := 8) (code := 100) (ty := .int) rfl (Or.inl ⟨rfl, rfl, rfl⟩) (ev_is_ok (by decide +kernel)) wa_int (by decide) (by decide) (by decide) (by decide +kernel) rfl rfl (by decide) (by decide) ?_
  show Wk l Ln xs YX8_init d 1 8 9 [some (.ref 49)] [.ref 50, .ref 49] cS102 cM71 _
  refine Wk.putF (ci := 8) (k := 0) (idx := 9) (b := 50) (by decide +kernel) (by decide +kernel) rfl rfl (ev_is_ok (by decide +kernel)) (by decide +kernel) rfl (by decide +kernel) rfl (Or.inr ⟨_, rfl⟩) ?_
  show Wk l Ln xs YX8_init d 1 8 12 [some (.ref 49)] [] cS103 cM71 _
  refine Wk.run (pc' := 15) (ls' := [some (.ref 49)]) (st' := [.int 8, .ref 49]) (m' := cM71) [(.aload_n 0, 0, 0, 0, 0), (.bipush 8, 0, 0, 8, 0)] (by decide +kernel) rfl ?_
  refine Wk.newa (at_ := .int) (N := 8) (code := 100) (ty := .int) rfl (Or.inl ⟨rfl, rfl, rfl⟩) (ev_is_ok (by decide +kernel)) wa_int (by decide) (by decide) (by decide) (by decide +kernel) rfl rfl (by decide) (by decide) ?_
  show Wk l Ln xs YX8_init d 0 0 17 [some (.ref 49)] [.ref 51, .ref 49] cS104 cM71 _
  refine Wk.putF (ci := 8) (k := 1) (idx := 15) (b := 51) (by decide +kernel) (by decide +kernel) rfl rfl (ev_is_ok (by decide +kernel)) (by decide +kernel) rfl (by decide +kernel) rfl (Or.inr ⟨_, rfl⟩) ?_
  show Wk l Ln xs YX8_init d 0 0 20 [some (.ref 49)] [] cS105 cM71 _
  refine Wk.run (pc' := 40) (ls' := [some (.ref 49)]) (st' := []) (m' := cM75) [(.aload_n 0, 0, 0, 0, 0), (.iconst 0, 0, 0, 0, 0), (.putfield 18, 8, 2, 0, 0), (.aload_n 0, 0, 0, 0, 0), (.iconst 0, 0, 0, 0, 0), (.putfield 22, 8, 3, 0, 0), (.aload_n 0, 0, 0, 0, 0), (.iconst 0, 0, 0, 0, 0), (.putfield 25, 8, 4, 0, 0), (.aload_n 0, 0, 0, 0, 0), (.iconst 0, 0, 0, 0, 0), (.putfield 28, 8, 5, 0, 0)] (by decide +kernel) rfl ?_
  exact Wk.vret rfl (ev_is_ok (by decide +kernel)) ⟨rfl, rfl, rfl⟩
set_option maxRecDepth 100000 in
set_option maxHeartbeats 4000000 in
theorem KC21_X8_init {l : Launch} {Ln : Nat} {xs : Nat → Int32} {d : Nat} (hd : 1 ≤ d) : Mk l Ln xs YX8_init d 2 16 [.ref 52] cS107 cM75 (fun v S' m' => v = none ∧ S' = cS111 ∧ m' = cM79) := by
  refine Mk.of (by decide +kernel) rfl (Nat.le_of_ble_eq_true rfl) (Wk.le (ls' := [some (.ref 52)]) ⟨rfl, trivial⟩ ?_)
  refine Wk.run (pc' := 1) (ls' := [some (.ref 52)]) (st' := [.ref 52]) (m' := cM75) [(.aload_n 0, 0, 0, 0, 0)] (by decide +kernel) rfl ?_
  refine Wk.objInit (idx := 3) (ev_is_ok (by decide +kernel)) wo_8_3 wobj_i wobj_c (by omega) (Nat.le_of_ble_eq_true rfl) ?_
  show Wk l Ln xs YX8_init d 2 16 4 [some (.ref 52)] [] cS107 cM75 _
  refine Wk.run (pc' := 7) (ls' := [some (.ref 52)]) (st' := [.int 8, .ref 52]) (m' := cM75) [(.aload_n 0, 0, 0, 0, 0), (.bipush 8, 0, 0, 8, 0)] (by decide +kernel) rfl ?_
  refine Wk.newa (at_ := .int) (N := 8) (code := 100) (ty := .int) rfl (Or.inl ⟨rfl, rfl, rfl⟩) (ev_is_ok (by decide +kernel)) wa_int (by decide) (by decide) (by decide) (by decide +kernel) rfl rfl (by decide) (by decide) ?_
  show Wk l Ln xs YX8_init d 1 8 9 [some (.ref 52)] [.ref 53, .ref 52] cS108 cM75 _
  refine Wk.putF (ci := 8) (k := 0) (idx := 9) (b := 53) (by decide +kernel) (by decide +kernel) rfl rfl (ev_is_ok (by decide +kernel)) (by decide +kernel) rfl (by decide +kernel) rfl (Or.inr ⟨_, rfl⟩) ?_
  show Wk l Ln xs YX8_init d 1 8 12 [some (.ref 52)] [] cS109 cM75 _
  refine Wk.run (pc' := 15) (ls' := [some (.ref 52)]) (st' := [.int 8, .ref 52]) (m' := cM75) [(.aload_n 0, 0, 0, 0, 0), (.bipush 8, 0, 0, 8, 0)] (by decide +kernel) rfl ?_
  refine Wk.newa (at_ := .int) (N := 8) (code := 100) (ty := .int) rfl (Or.inl ⟨rfl, rfl, rfl⟩) (ev_is_ok (by decide +kernel)) wa_int (by decide) (by decide) (by decide) (by decide +kernel) rfl rfl (by decide) (by decide) ?_
  show Wk l Ln xs YX8_init d 0 0 17 [some (.ref 52)] [.ref 54, .ref 52] cS110 cM75 _
  refine Wk.putF (ci := 8) (k := 1) (idx := 15) (b := 54) (by decide +kernel) (by decide +kernel) rfl rfl (ev_is_ok (by decide +kernel)) (by decide +kernel) rfl (by decide +kernel) rfl (Or.inr ⟨_, rfl⟩) ?_
  show Wk l Ln xs YX8_init d 0 0 20 [some (.ref 52)] [] cS111 cM75 _
  refine Wk.run (pc' := 40) (ls' := [some (.ref 52)]) (st' := []) (m' := cM79) [(.aload_n 0, 0, 0, 0, 0), (.iconst 0, 0, 0, 0, 0), (.putfield 18, 8, 2, 0, 0), (.aload_n 0, 0, 0, 0, 0), (.iconst 0, 0, 0, 0, 0), (.putfield 22, 8, 3, 0, 0), (.aload_n 0, 0, 0, 0, 0), (.iconst 0, 0, 0, 0, 0), (.putfield 25, 8, 4, 0, 0), (.aload_n 0, 0, 0, 0, 0), (.iconst 0, 0, 0, 0, 0), (.putfield 28, 8, 5, 0, 0)] (by decide +kernel) rfl ?_
  exact Wk.vret rfl (ev_is_ok (by decide +kernel)) ⟨rfl, rfl, rfl⟩
set_option maxRecDepth 100000 in
set_option maxHeartbeats 4000000 in
theorem KC22_X8_init {l : Launch} {Ln : Nat} {xs : Nat → Int32} {d : Nat} (hd : 1 ≤ d) : Mk l Ln xs YX8_init d 2 16 [.ref 55] cS113 cM79 (fun v S' m' => v = none ∧ S' = cS117 ∧ m' = cM83) := by
  refine Mk.of (by decide +kernel) rfl (Nat.le_of_ble_eq_true rfl) (Wk.le (ls' := [some (.ref 55)]) ⟨rfl, trivial⟩ ?_)
  refine Wk.run (pc' := 1) (ls' := [some (.ref 55)]) (st' := [.ref 55]) (m' := cM79) [(.aload_n 0, 0, 0, 0, 0)] (by decide +kernel) rfl ?_
  refine Wk.objInit (idx := 3) (ev_is_ok (by decide +kernel)) wo_8_3 wobj_i wobj_c (by omega) (Nat.le_of_ble_eq_true rfl) ?_
  show Wk l Ln xs YX8_init d 2 16 4 [some (.ref 55)] [] cS113 cM79 _
  refine Wk.run (pc' := 7) (ls' := [some (.ref 55)]) (st' := [.int 8, .ref 55]) (m' := cM79) [(.aload_n 0, 0, 0, 0, 0), (.bipush 8, 0, 0, 8, 0)] (by decide +kernel) rfl ?_
  refine Wk.newa (at_ := .int) (N := 8) (code := 100) (ty := .int) rfl (Or.inl ⟨rfl, rfl, rfl⟩) (ev_is_ok (by decide +kernel)) wa_int (by decide) (by decide) (by decide) (by decide +kernel) rfl rfl (by decide) (by decide) ?_
  show Wk l Ln xs YX8_init d 1 8 9 [some (.ref 55)] [.ref 56, .ref 55] cS114 cM79 _
  refine Wk.putF (ci := 8) (k := 0) (idx := 9) (b := 56) (by decide +kernel) (by decide +kernel) rfl rfl (ev_is_ok (by decide +kernel)) (by decide +kernel) rfl (by decide +kernel) rfl (Or.inr ⟨_, rfl⟩) ?_
  show Wk l Ln xs YX8_init d 1 8 12 [some (.ref 55)] [] cS115 cM79 _
  refine Wk.run (pc' := 15) (ls' := [some (.ref 55)]) (st' := [.int 8, .ref 55]) (m' := cM79) [(.aload_n 0, 0, 0, 0, 0), (.bipush 8, 0, 0, 8, 0)] (by decide +kernel) rfl ?_
  refine Wk.newa (at_ := .int) (N := 8) (code := 100) (ty := .int) rfl (Or.inl ⟨rfl, rfl, rfl⟩) (ev_is_ok (by decide +kernel)) wa_int (by decide) (by decide) (by decide) (by decide +kernel) rfl rfl (by decide) (by decide) ?_
  show Wk l Ln xs YX8_init d 0 0 17 [some (.ref 55)] [.ref 57, .ref 55] cS116 cM79 _
  refine Wk.putF (ci := 8) (k := 1) (idx := 15) (b := 57) (by decide +kernel) (by decide +kernel) rfl rfl (ev_is_ok (by decide +kernel)) (by decide +kernel) rfl (by decide +kernel) rfl (Or.inr ⟨_, rfl⟩) ?_
  show Wk l Ln xs YX8_init d 0 0 20 [some (.ref 55)] [] cS117 cM79 _
  refine Wk.run (pc' := 40) (ls' := [some (.ref 55)]) (st' := []) (m' := cM83) [(.aload_n 0, 0, 0, 0, 0), (.iconst 0, 0, 0, 0, 0), (.putfield 18, 8, 2, 0, 0), (.aload_n 0, 0, 0, 0, 0), (.iconst 0, 0, 0, 0, 0), (.putfield 22, 8, 3, 0, 0), (.aload_n 0, 0, 0, 0, 0), (.iconst 0, 0, 0, 0, 0), (.putfield 25, 8, 4, 0, 0), (.aload_n 0, 0, 0, 0, 0), (.iconst 0, 0, 0, 0, 0), (.putfield 28, 8, 5, 0, 0)] (by decide +kernel) rfl ?_
  exact Wk.vret rfl (ev_is_ok (by decide +kernel)) ⟨rfl, rfl, rfl⟩
set_option maxRecDepth 100000 in
set_option maxHeartbeats 4000000 in
theorem KC23_X8_init {l : Launch} {Ln : Nat} {xs : Nat → Int32} {d : Nat} (hd : 1 ≤ d) : Mk l Ln xs YX8_init d 2 16 [.ref 58] cS119 cM83 (fun v S' m' => v = none ∧ S' = cS123 ∧ m' = cM87) := by
  refine Mk.of (by decide +kernel) rfl (Nat.le_of_ble_eq_true rfl) (Wk.le (ls' := [some (.ref 58)]) ⟨rfl, trivial⟩ ?_)
  refine Wk.run (pc' := 1) (ls' := [some (.ref 58)]) (st' := [.ref 58]) (m' := cM83) [(.aload_n 0, 0, 0, 0, 0)] (by decide +kernel) rfl ?_
  refine Wk.objInit (idx := 3) (ev_is_ok (by decide +kernel)) wo_8_3 wobj_i wobj_c (by omega) (Nat.le_of_ble_eq_true rfl) ?_
  show Wk l Ln xs YX8_init d 2 16 4 [some (.ref 58)] [] cS119 cM83 _
  refine Wk.run (pc' := 7) (ls' := [some (.ref 58)]) (st' := [.int 8, .ref 58]) (m' := cM83) [(.aload_n 0, 0, 0, 0, 0), (.bipush 8, 0, 0, 8, 0)] (by decide +kernel) rfl ?_
  refine Wk.newa (at_ := .int) (N := 8) (code := 100) (ty := .int) rfl (Or.inl ⟨rfl, rfl, rfl⟩) (ev_is_ok (by decide +kernel)) wa_int (by decide) (by decide) (by decide) (by decide +kernel) rfl rfl (by decide) (by decide) ?_
  show Wk l Ln xs YX8_init d 1 8 9 [some (.ref 58)] [.ref 59, .ref 58] cS120 cM83 _
  refine Wk.putF (ci := 8) (k := 0) (idx := 9) (b := 59) (by decide +kernel) (by decide +kernel) rfl rfl (ev_is_ok (by decide +kernel)) (by decide +kernel) rfl (by decide +kernel) rfl (Or.inr ⟨_, rfl⟩) ?_
  show Wk l Ln xs YX8_init d 1 8 12 [some (.ref 58)] [] cS121 cM83 _
  refine Wk.run (pc' := 15) (ls' := [some (.ref 58)]) (st' := [.int 8, .ref 58]) (m' := cM83) [(.aload_n 0, 0, 0, 0, 0), (.bipush 8, 0, 0, 8, 0)] (by decide +kernel) rfl ?_
  refine Wk.newa (at_ := .int) (N := 8) (code := 100) (ty := .int) rfl (Or.inl ⟨rfl, rfl, rfl⟩) (ev_is_ok (by decide +kernel)) wa_int (by decide) (by decide) (by decide) (by decide +kernel) rfl rfl (by decide) (by decide) ?_
  show Wk l Ln xs YX8_init d 0 0 17 [some (.ref 58)] [.ref 60, .ref 58] cS122 cM83 _
  refine Wk.putF (ci := 8) (k := 1) (idx := 15) (b := 60) (by decide +kernel) (by decide +kernel) rfl rfl (ev_is_ok (by decide +kernel)) (by decide +kernel) rfl (by decide +kernel) rfl (Or.inr ⟨_, rfl⟩) ?_
  show Wk l Ln xs YX8_init d 0 0 20 [some (.ref 58)] [] cS123 cM83 _
  refine Wk.run (pc' := 40) (ls' := [some (.ref 58)]) (st' := []) (m' := cM87) [(.aload_n 0, 0, 0, 0, 0), (.iconst 0, 0, 0, 0, 0), (.putfield 18, 8, 2, 0, 0), (.aload_n 0, 0, 0, 0, 0), (.iconst 0, 0, 0, 0, 0), (.putfield 22, 8, 3, 0, 0), (.aload_n 0, 0, 0, 0, 0), (.iconst 0, 0, 0, 0, 0), (.putfield 25, 8, 4, 0, 0), (.aload_n 0, 0, 0, 0, 0), (.iconst 0, 0, 0, 0, 0), (.putfield 28, 8, 5, 0, 0)] (by decide +kernel) rfl ?_
  exact Wk.vret rfl (ev_is_ok (by decide +kernel)) ⟨rfl, rfl, rfl⟩
set_option maxRecDepth 100000 in
set_option maxHeartbeats 4000000 in
theorem KC24_X8_init {l : Launch} {Ln : Nat} {xs : Nat → Int32} {d : Nat} (hd : 1 ≤ d) : Mk l Ln xs YX8_init d 2 16 [.ref 61] cS125 cM87 (fun v S' m' => v = none ∧ S' = cS129 ∧ m' = cM91) := by
  refine Mk.of (by decide +kernel) rfl (Nat.le_of_ble_eq_true rfl) (Wk.le (ls' := [some (.ref 61)]) ⟨rfl, trivial⟩ ?_)
  refine Wk.run (pc' := 1) (ls' := [some (.ref 61)]) (st' := [.ref 61]) (m' := cM87) [(.aload_n 0, 0, 0, 0, 0)] (by decide +kernel) rfl ?_
  refine Wk.objInit (idx := 3) (ev_is_ok (by decide +kernel)) wo_8_3 wobj_i wobj_c (by omega) (Nat.le_of_ble_eq_true rfl) ?_
  show Wk l Ln xs YX8_init d 2 16 4 [some (.ref 61)] [] cS125 cM87 _
  refine Wk.run (pc' := 7) (ls' := [some (.ref 61)]) (st' := [.int 8, .ref 61]) (m' := cM87) [(.aload_n 0, 0, 0, 0, 0), (.bipush 8, 0, 0, 8, 0)] (by decide +kernel) rfl ?_
  refine Wk.newa (at_ := .int) (N := 8) (code := 100) (ty := .int) rfl (Or.inl ⟨rfl, rfl, rfl⟩) (ev_is_ok (by decide +kernel)) wa_int (by decide) (by decide) (by decide) (by decide +kernel) rfl rfl (by decide) (by decide) ?_
  show Wk l Ln xs YX8_init d 1 8 9 [some (.ref 61)] [.ref 62, .ref 61] cS126 cM87 _
  refine Wk.putF (ci := 8) (k := 0) (idx := 9) (b := 62) (by decide +kernel) (by decide +kernel) rfl rfl (ev_is_ok (by decide +kernel)) (by decide +kernel) rfl (by decide +kernel) rfl (Or.inr ⟨_, rfl⟩) ?_
  show Wk l Ln xs YX8_init d 1 8 12 [some (.ref 61)] [] cS127 cM87 _
  refine Wk.run (pc' := 15) (ls' := [some (.ref 61)]) (st' := [.int 8, .ref 61]) (m' := cM87) [(.aload_n 0, 0, 0, 0, 0), (.bipush 8, 0, 0, 8, 0)] (by decide +kernel) rfl ?_
  refine Wk.newa (at_ := .int) (N := 8) (code := 100) (ty := .int) rfl (Or.inl ⟨rfl, rfl, rfl⟩) (ev_is_ok (by decide +kernel)) wa_int (by decide) (by decide) (by decide) (by decide +kernel) rfl rfl (by decide) (by decide) ?_
  show Wk l Ln xs YX8_init d 0 0 17 [some (.ref 61)] [.ref 63, .ref 61] cS128 cM87 _
  refine Wk.putF (ci := 8) (k := 1) (idx := 15) (b := 63) (by decide +kernel) (by decide +kernel) rfl rfl (ev_is_ok (by decide +kernel)) (by decide +kernel) rfl (by decide +kernel) rfl (Or.inr ⟨_, rfl⟩) ?_
  show Wk l Ln xs YX8_init d 0 0 20 [some (.ref 61)] [] cS129 cM87 _
  refine Wk.run (pc' := 40) (ls' := [some (.ref 61)]) (st' := []) (m' := cM91) [(.aload_n 0, 0, 0, 0, 0), (.iconst 0, 0, 0, 0, 0), (.putfield 18, 8, 2, 0, 0), (.aload_n 0, 0, 0, 0, 0), (.iconst 0, 0, 0, 0, 0), (.putfield 22, 8, 3, 0, 0), (.aload_n 0, 0, 0, 0, 0), (.iconst 0, 0, 0, 0, 0), (.putfield 25, 8, 4, 0, 0), (.aload_n 0, 0, 0, 0, 0), (.iconst 0, 0, 0, 0, 0), (.putfield 28, 8, 5, 0, 0)] (by decide +kernel) rfl ?_
  exact Wk.vret rfl (ev_is_ok (by decide +kernel)) ⟨rfl, rfl, rfl⟩
set_option maxRecDepth 100000 in
set_option maxHeartbeats 4000000 in
theorem KC25_X8_init {l : Launch} {Ln : Nat} {xs : Nat → Int32} {d : Nat} (hd : 1 ≤ d) : Mk l Ln xs YX8_init d 2 16 [.ref 64] cS131 cM91 (fun v S' m' => v = none ∧ S' = cS135 ∧ m' = cM95) := by
  refine Mk.of (by decide +kernel) rfl (Nat.le_of_ble_eq_true rfl) (Wk.le (ls' := [some (.ref 64)]) ⟨rfl, trivial⟩ ?_)
  refine Wk.run (pc' := 1) (ls' := [some (.ref 64)]) (st' := [.ref 64]) (m' := cM91) [(.aload_n 0, 0, 0, 0, 0)] (by decide +kernel) rfl ?_
  refine Wk.objInit (idx := 3) (ev_is_ok (by decide +kernel)) wo_8_3 wobj_i wobj_c (by omega) (Nat.le_of_ble_eq_true rfl) ?_
  show Wk l Ln xs YX8_init d 2 16 4 [some (.ref 64)] [] cS131 cM91 _
  refine Wk.run (pc' := 7) (ls' := [some (.ref 64)]) (st' := [.int 8, .ref 64]) (m' := cM91) [(.aload_n 0, 0, 0, 0, 0), (.bipush 8, 0, 0, 8, 0)] (by decide +kernel) rfl ?_
  refine Wk.newa (at_ := .int) (N := 8) (code := 100) (ty := .int) rfl (Or.inl ⟨rfl, rfl, rfl⟩) (ev_is_ok (by decide +kernel)) wa_int (by decide) (by decide) (by decide) (by decide +kernel) rfl rfl (by decide) (by decide) ?_
  show Wk l Ln xs YX8_init d 1 8 9 [some (.ref 64)] [.ref 65, .ref 64] cS132 cM91 _
  refine Wk.putF (ci := 8) (k := 0) (idx := 9) (b := 65) (by decide +kernel) (by decide +kernel) rfl rfl (ev_is_ok (by decide +kernel)) (by decide +kernel) rfl (by decide +kernel) rfl (Or.inr ⟨_, rfl⟩) ?_
  show Wk l Ln xs YX8_init d 1 8 12 [some (.ref 64)] [] cS133 cM91 _
  refine Wk.run (pc' := 15) (ls' := [some (.ref 64)]) (st' := [.int 8, .ref 64]) (m' := cM91) [(.aload_n 0, 0, 0, 0, 0), (.bipush 8, 0, 0, 8, 0)] (by decide +kernel) rfl ?_
  refine Wk.newa (at_ := .int) (N := 8) (code := 100) (ty := .int) rfl (Or.inl ⟨rfl, rfl, rfl⟩) (ev_is_ok (by decide +kernel)) wa_int (by decide) (by decide) (by decide) (by decide +kernel) rfl rfl (by decide) (by decide) ?_
  show Wk l Ln xs YX8_init d 0 0 17 [some (.ref 64)] [.ref 66, .ref 64] cS134 cM91 _
  refine Wk.putF (ci := 8) (k := 1) (idx := 15) (b := 66) (by decide +kernel) (by decide +kernel) rfl rfl (ev_is_ok (by decide +kernel)) (by decide +kernel) rfl (by decide +kernel) rfl (Or.inr ⟨_, rfl⟩) ?_
  show Wk l Ln xs YX8_init d 0 0 20 [some (.ref 64)] [] cS135 cM91 _
  refine Wk.run (pc' := 40) (ls' := [some (.ref 64)]) (st' := []) (m' := cM95) [(.aload_n 0, 0, 0, 0, 0), (.iconst 0, 0, 0, 0, 0), (.putfield 18, 8, 2, 0, 0), (.aload_n 0, 0, 0, 0, 0), (.iconst 0, 0, 0, 0, 0), (.putfield 22, 8, 3, 0, 0), (.aload_n 0, 0, 0, 0, 0), (.iconst 0, 0, 0, 0, 0), (.putfield 25, 8, 4, 0, 0), (.aload_n 0, 0, 0, 0, 0), (.iconst 0, 0, 0, 0, 0), (.putfield 28, 8, 5, 0, 0)] (by decide +kernel) rfl ?_
  exact Wk.vret rfl (ev_is_ok (by decide +kernel)) ⟨rfl, rfl, rfl⟩
set_option maxRecDepth 100000 in
set_option maxHeartbeats 4000000 in
theorem KC26_X8_init {l : Launch} {Ln : Nat} {xs : Nat → Int32} {d : Nat} (hd : 1 ≤ d) : Mk l Ln xs YX8_init d 2 16 [.ref 67] cS137 cM95 (fun v S' m' => v = none ∧ S' = cS141 ∧ m' = cM99) := by
  refine Mk.of (by decide +kernel) rfl (Nat.le_of_ble_eq_true rfl) (Wk.le (ls' := [some (.ref 67)]) ⟨rfl, trivial⟩ ?_)
  refine Wk.run (pc' := 1) (ls' := [some (.ref 67)]) (st' := [.ref 67]) (m' := cM95) [(.aload_n 0, 0, 0, 0, 0)] (by decide +kernel) rfl ?_
  refine Wk.objInit (idx := 3) (ev_is_ok (by decide +kernel)) wo_8_3 wobj_i wobj_c (by omega) (Nat.le_of_ble_eq_true rfl) ?_
  show Wk l Ln xs YX8_init d 2 16 4 [some (.ref 67)] [] cS137 cM95 _
  refine Wk.run (pc' := 7) (ls' := [some (.ref 67)]) (st' := [.int 8, .ref 67]) (m' := cM95) [(.aload_n 0, 0, 0, 0, 0), (.bipush 8, 0, 0, 8, 0)] (by decide +kernel) rfl ?_
  refine Wk.newa (at_ := .int) (N := 8) (code := 100) (ty := .int) rfl (Or.inl ⟨rfl, rfl, rfl⟩) (ev_is_ok (by decide +kernel)) wa_int (by decide) (by decide) (by decide) (by decide +kernel) rfl rfl (by decide) (by decide) ?_
  show Wk l Ln xs YX8_init d 1 8 9 [some (.ref 67)] [.ref 68, .ref 67] cS138 cM95 _
  refine Wk.putF (ci := 8) (k := 0) (idx := 9) (b := 68) (by decide +kernel) (by decide +kernel) rfl rfl (ev_is_ok (by decide +kernel)) (by decide +kernel) rfl (by decide +kernel) rfl (Or.inr ⟨_, rfl⟩) ?_
  show Wk l Ln xs YX8_init d 1 8 12 [some (.ref 67)] [] cS139 cM95 _
  refine Wk.run (pc' := 15) (ls' := [some (.ref 67)]) (st' := [.int 8, .ref 67]) (m' := cM95) [(.aload_n 0, 0, 0, 0, 0), (.bipush 8, 0, 0, 8, 0)] (by decide +kernel) rfl ?_
  refine Wk.newa (at_ := .int) (N := 8) (code := 100) (ty := .int) rfl (Or.inl ⟨rfl, rfl, rfl⟩) (ev_is_ok (by decide +kernel)) wa_int (by decide) (by decide) (by decide) (by decide +kernel) rfl rfl (by decide) (by decide) ?_
  show Wk l Ln xs YX8_init d 0 0 17 [some (.ref 67)] [.ref 69, .ref 67] cS140 cM95 _
  refine Wk.putF (ci := 8) (k := 1) (idx := 15) (b := 69) (by decide +kernel) (by decide +kernel) rfl rfl (ev_is_ok (by decide +kernel)) (by decide +kernel) rfl (by decide +kernel) rfl (Or.inr ⟨_, rfl⟩) ?_
  show Wk l Ln xs YX8_init d 0 0 20 [some (.ref 67)] [] cS141 cM95 _
  refine Wk.run (pc' := 40) (ls' := [some (.ref 67)]) (st' := []) (m' := cM99) [(.aload_n 0, 0, 0, 0, 0), (.iconst 0, 0, 0, 0, 0), (.putfield 18, 8, 2, 0, 0), (.aload_n 0, 0, 0, 0, 0), (.iconst 0, 0, 0, 0, 0), (.putfield 22, 8, 3, 0, 0), (.aload_n 0, 0, 0, 0, 0), (.iconst 0, 0, 0, 0, 0), (.putfield 25, 8, 4, 0, 0), (.aload_n 0, 0, 0, 0, 0), (.iconst 0, 0, 0, 0, 0), (.putfield 28, 8, 5, 0, 0)] (by decide +kernel) rfl ?_
  exact Wk.vret rfl (ev_is_ok (by decide +kernel)) ⟨rfl, rfl, rfl⟩
set_option maxRecDepth 100000 in
set_option maxHeartbeats 4000000 in
theorem KC27_X8_init {l : Launch} {Ln : Nat} {xs : Nat → Int32} {d : Nat} (hd : 1 ≤ d) : Mk l Ln xs YX8_init d 2 16 [.ref 70] cS143 cM99 (fun v S' m' => v = none ∧ S' = cS147 ∧ m' = cM103) := by
  refine Mk.of (by decide +kernel) rfl (Nat.le_of_ble_eq_true rfl) (Wk.le (ls' := [some (.ref 70)]) ⟨rfl, trivial⟩ ?_)
  refine Wk.run (pc' := 1) (ls' := [some (.ref 70)]) (st' := [.ref 70]) (m' := cM99) [(.aload_n 0, 0, 0, 0, 0)] (by decide +kernel) rfl ?_
  refine Wk.objInit (idx := 3) (ev_is_ok (by decide +kernel)) wo_8_3 wobj_i wobj_c (by omega) (Nat.le_of_ble_eq_true rfl) ?_
  show Wk l Ln xs YX8_init d 2 16 4 [some (.ref 70)] [] cS143 cM99 _
  refine Wk.run (pc' := 7) (ls' := [some (.ref 70)]) (st' := [.int 8, .ref 70]) (m' := cM99) [(.aload_n 0, 0, 0, 0, 0), (.bipush 8, 0, 0, 8, 0)] (by decide +kernel) rfl ?_
  refine Wk.newa (at_ := .int) (N := 8) (code := 100) (ty := .int) rfl (Or.inl ⟨rfl, rfl, rfl⟩) (ev_is_ok (by decide +kernel)) wa_int (by decide) (by decide) (by decide) (by decide +kernel) rfl rfl (by decide) (by decide) ?_
  show Wk l Ln xs YX8_init d 1 8 9 [some (.ref 70)] [.ref 71, .ref 70] cS144 cM99 _
  refine Wk.putF (ci := 8) (k := 0) (idx := 9) (b := 71) (by decide +kernel) (by decide +kernel) rfl rfl (ev_is_ok (by decide +kernel)) (by decide +kernel) rfl (by decide +kernel) rfl (Or.inr ⟨_, rfl⟩) ?_
  show Wk l Ln xs YX8_init d 1 8 12 [some (.ref 70)] [] cS145 cM99 _
  refine Wk.run (pc' := 15) (ls' := [some (.ref 70)]) (st' := [.int 8, .ref 70]) (m' := cM99) [(.aload_n 0, 0, 0, 0, 0), (.bipush 8, 0, 0, 8, 0)] (by decide +kernel) rfl ?_
  refine Wk.newa (at_ := .int) (N := 8) (code := 100) (ty := .int) rfl (Or.inl ⟨rfl, rfl, rfl⟩) (ev_is_ok (by decide +kernel)) wa_int (by decide) (by decide) (by decide) (by decide +kernel) rfl rfl (by decide) (by decide) ?_
  show Wk l Ln xs YX8_init d 0 0 17 [some (.ref 70)] [.ref 72, .ref 70] cS146 cM99 _
  refine Wk.putF (ci := 8) (k := 1) (idx := 15) (b := 72) (by decide +kernel) (by decide +kernel) rfl rfl (ev_is_ok (by decide +kernel)) (by decide +kernel) rfl (by decide +kernel) rfl (Or.inr ⟨_, rfl⟩) ?_
  show Wk l Ln xs YX8_init d 0 0 20 [some (.ref 70)] [] cS147 cM99 _
  refine Wk.run (pc' := 40) (ls' := [some (.ref 70)]) (st' := []) (m' := cM103) [(.aload_n 0, 0, 0, 0, 0), (.iconst 0, 0, 0, 0, 0), (.putfield 18, 8, 2, 0, 0), (.aload_n 0, 0, 0, 0, 0), (.iconst 0, 0, 0, 0, 0), (.putfield 22, 8, 3, 0, 0), (.aload_n 0, 0, 0, 0, 0), (.iconst 0, 0, 0, 0, 0), (.putfield 25, 8, 4, 0, 0), (.aload_n 0, 0, 0, 0, 0), (.iconst 0, 0, 0, 0, 0), (.putfield 28, 8, 5, 0, 0)] (by decide +kernel) rfl ?_
  exact Wk.vret rfl (ev_is_ok (by decide +kernel)) ⟨rfl, rfl, rfl⟩
set_option maxRecDepth 100000 in
set_option maxHeartbeats 4000000 in
theorem KC28_X8_init {l : Launch} {Ln : Nat} {xs : Nat → Int32} {d : Nat} (hd : 1 ≤ d) : Mk l Ln xs YX8_init d 2 16 [.ref 73] cS149 cM103 (fun v S' m' => v = none ∧ S' = cS153 ∧ m' = cM107) := by
  refine Mk.of (by decide +kernel) rfl (Nat.le_of_ble_eq_true rfl) (Wk.le (ls' := [some (.ref 73)]) ⟨rfl, trivial⟩ ?_)
  refine Wk.run (pc' := 1) (ls' := [some (.ref 73)]) (st' := [.ref 73]) (m' := cM103) [(.aload_n 0, 0, 0, 0, 0)] (by decide +kernel) rfl ?_
  refine Wk.objInit (idx := 3) (ev_is_ok (by decide +kernel)) wo_8_3 wobj_i wobj_c (by omega) (Nat.le_of_ble_eq_true rfl) ?_
  show Wk l Ln xs YX8_init d 2 16 4 [some (.ref 73)] [] cS149 cM103 _
  refine Wk.run (pc' := 7) (ls' := [some (.ref 73)]) (st' := [.int 8, .ref 73]) (m' := cM103) [(.aload_n 0, 0, 0, 0, 0), (.bipush 8, 0, 0, 8, 0)] (by decide +kernel) rfl ?_
  refine Wk.newa (at_ := .int) (N := 8) (code := 100) (ty := .int) rfl (Or.inl ⟨rfl, rfl, rfl⟩) (ev_is_ok (by decide +kernel)) wa_int (by decide) (by decide) (by decide) (by decide +kernel) rfl rfl (by decide) (by decide) ?_
  show Wk l Ln xs YX8_init d 1 8 9 [some (.ref 73)] [.ref 74, .ref 73] cS150 cM103 _
  refine Wk.putF (ci := 8) (k := 0) (idx := 9) (b := 74) (by decide +kernel) (by decide +kernel) rfl rfl (ev_is_ok (by decide +kernel)) (by decide +kernel) rfl (by decide +kernel) rfl (Or.inr ⟨_, rfl⟩) ?_
  show Wk l Ln xs YX8_init d 1 8 12 [some (.ref 73)] [] cS151 cM103 _
  refine Wk.run (pc' := 15) (ls' := [some (.ref 73)]) (st' := [.int 8, .ref 73]) (m' := cM103) [(.aload_n 0, 0, 0, 0, 0), (.bipush 8, 0, 0, 8, 0)] (by decide +kernel) rfl ?_
  refine Wk.newa (at_ := .int) (N := 8) (code := 100) (ty := .int) rfl (Or.inl ⟨rfl, rfl, rfl⟩) (ev_is_ok (by decide +kernel)) wa_int (by decide) (by decide) (by decide) (by decide +kernel) rfl rfl (by decide) (by decide) ?_
  show Wk l Ln xs YX8_init d 0 0 17 [some (.ref 73)] [.ref 75, .ref 73] cS152 cM103 _
  refine Wk.putF (ci := 8) (k := 1) (idx := 15) (b := 75) (by decide +kernel) (by decide +kernel) rfl rfl (ev_is_ok (by decide +kernel)) (by decide +kernel) rfl (by decide +kernel) rfl (Or.inr ⟨_, rfl⟩) ?_
  show Wk l Ln xs YX8_init d 0 0 20 [some (.ref 73)] [] cS153 cM103 _
  refine Wk.run (pc' := 40) (ls' := [some (.ref 73)]) (st' := []) (m' := cM107) [(.aload_n 0, 0, 0, 0, 0), (.iconst 0, 0, 0, 0, 0), (.putfield 18, 8, 2, 0, 0), (.aload_n 0, 0, 0, 0, 0), (.iconst 0, 0, 0, 0, 0), (.putfield 22, 8, 3, 0, 0), (.aload_n 0, 0, 0, 0, 0), (.iconst 0, 0, 0, 0, 0), (.putfield 25, 8, 4, 0, 0), (.aload_n 0, 0, 0, 0, 0), (.iconst 0, 0, 0, 0, 0), (.putfield 28, 8, 5, 0, 0)] (by decide +kernel) rfl ?_
  exact Wk.vret rfl (ev_is_ok (by decide +kernel)) ⟨rfl, rfl, rfl⟩
set_option maxRecDepth 100000 in
set_option maxHeartbeats 4000000 in
theorem KC29_X8_init {l : Launch} {Ln : Nat} {xs : Nat → Int32} {d : Nat} (hd : 1 ≤ d) : Mk l Ln xs YX8_init d 2 16 [.ref 76] cS155 cM107 (fun v S' m' => v = none ∧ S' = cS159 ∧ m' = cM111) := by
  refine Mk.of (by decide +kernel) rfl (Nat.le_of_ble_eq_true rfl) (Wk.le (ls' := [some (.ref 76)]) ⟨rfl, trivial⟩ ?_)
  refine Wk.run (pc' := 1) (ls' := [some (.ref 76)]) (st' := [.ref 76]) (m' := cM107) [(.aload_n 0, 0, 0, 0, 0)] (by decide +kernel) rfl ?_
  refine Wk.objInit (idx := 3) (ev_is_ok (by decide +kernel)) wo_8_3 wobj_i wobj_c (by omega) (Nat.le_of_ble_eq_true rfl) ?_
  show Wk l Ln xs YX8_init d 2 16 4 [some (.ref 76)] [] cS155 cM107 _
  refine Wk.run (pc' := 7) (ls' := [some (.ref 76)]) (st' := [.int 8, .ref 76]) (m' := cM107) [(.aload_n 0, 0, 0, 0, 0), (.bipush 8, 0, 0, 8, 0)] (by decide +kernel) rfl ?_
  refine Wk.newa (at_ := .int) (N := 8) (code := 100) (ty := .int) rfl (Or.inl ⟨rfl, rfl, rfl⟩) (ev_is_ok (by decide +kernel)) wa_int (by decide) (by decide) (by decide) (by decide +kernel) rfl rfl (by decide) (by decide) ?_
  show Wk l Ln xs YX8_init d 1 8 9 [some (.ref 76)] [.ref 77, .ref 76] cS156 cM107 _
  refine Wk.putF (ci := 8) (k := 0) (idx := 9) (b := 77) (by decide +kernel) (by decide +kernel) rfl rfl (ev_is_ok (by decide +kernel)) (by decide +kernel) rfl (by decide +kernel) rfl (Or.inr ⟨_, rfl⟩) ?_
  show Wk l Ln xs YX8_init d 1 8 12 [some (.ref 76)] [] cS157 cM107 _
  refine Wk.run (pc' := 15) (ls' := [some (.ref 76)]) (st' := [.int 8, .ref 76]) (m' := cM107) [(.aload_n 0, 0, 0, 0, 0), (.bipush 8, 0, 0, 8, 0)] (by decide +kernel) rfl ?_
  refine Wk.newa (at_ := .int) (N := 8) (code := 100) (ty := .int) rfl (Or.inl ⟨rfl, rfl, rfl⟩) (ev_is_ok (by decide +kernel)) wa_int (by decide) (by decide) (by decide) (by decide +kernel) rfl rfl (by decide) (by decide) ?_
  show Wk l Ln xs YX8_init d 0 0 17 [some (.ref 76)] [.ref 78, .ref 76] cS158 cM107 _
  refine Wk.putF (ci := 8) (k := 1) (idx := 15) (b := 78) (by decide +kernel) (by decide +kernel) rfl rfl (ev_is_ok (by decide +kernel)) (by decide +kernel) rfl (by decide +kernel) rfl (Or.inr ⟨_, rfl⟩) ?_
  show Wk l Ln xs YX8_init d 0 0 20 [some (.ref 76)] [] cS159 cM107 _
  refine Wk.run (pc' := 40) (ls' := [some (.ref 76)]) (st' := []) (m' := cM111) [(.aload_n 0, 0, 0, 0, 0), (.iconst 0, 0, 0, 0, 0), (.putfield 18, 8, 2, 0, 0), (.aload_n 0, 0, 0, 0, 0), (.iconst 0, 0, 0, 0, 0), (.putfield 22, 8, 3, 0, 0), (.aload_n 0, 0, 0, 0, 0), (.iconst 0, 0, 0, 0, 0), (.putfield 25, 8, 4, 0, 0), (.aload_n 0, 0, 0, 0, 0), (.iconst 0, 0, 0, 0, 0), (.putfield 28, 8, 5, 0, 0)] (by decide +kernel) rfl ?_
  exact Wk.vret rfl (ev_is_ok (by decide +kernel)) ⟨rfl, rfl, rfl⟩
set_option maxRecDepth 100000 in
set_option maxHeartbeats 4000000 in
theorem KC30_X8_init {l : Launch} {Ln : Nat} {xs : Nat → Int32} {d : Nat} (hd : 1 ≤ d) : Mk l Ln xs YX8_init d 2 16 [.ref 79] cS161 cM111 (fun v S' m' => v = none ∧ S' = cS165 ∧ m' = cM115) := by
  refine Mk.of (by decide +kernel) rfl (Nat.le_of_ble_eq_true rfl) (Wk.le (ls' := [some (.ref 79)]) ⟨rfl, trivial⟩ ?_)
  refine Wk.run (pc' := 1) (ls' := [some (.ref 79)]) (st' := [.ref 79]) (m' := cM111) [(.aload_n 0, 0, 0, 0, 0)] (by decide +kernel) rfl ?_
  refine Wk.objInit (idx := 3) (ev_is_ok (by decide +kernel)) wo_8_3 wobj_i wobj_c (by omega) (Nat.le_of_ble_eq_true rfl) ?_
  show Wk l Ln xs YX8_init d 2 16 4 [some (.ref 79)] [] cS161 cM111 _
  refine Wk.run (pc' := 7) (ls' := [some (.ref 79)]) (st' := [.int 8, .ref 79]) (m' := cM111) [(.aload_n 0, 0, 0, 0, 0), (.bipush 8, 0, 0, 8, 0)] (by decide +kernel) rfl ?_
  refine Wk.newa (at_ := .int) (N := 8) (code := 100) (ty := .int) rfl (Or.inl ⟨rfl, rfl, rfl⟩) (ev_is_ok (by decide +kernel)) wa_int (by decide) (by decide) (by decide) (by decide +kernel) rfl rfl (by decide) (by decide) ?_
  show Wk l Ln xs YX8_init d 1 8 9 [some (.ref 79)] [.ref 80, .ref 79] cS162 cM111 _
  refine Wk.putF (ci := 8) (k := 0) (idx := 9) (b := 80) (by decide +kernel) (by decide +kernel) rfl rfl (ev_is_ok (by decide +kernel)) (by decide +kernel) rfl (by decide +kernel) rfl (Or.inr ⟨_, rfl⟩) ?_
  show Wk l Ln xs YX8_init d 1 8 12 [some (.ref 79)] [] cS163 cM111 _
  refine Wk.run (pc' := 15) (ls' := [some (.ref 79)]) (st' := [.int 8, .ref 79]) (m' := cM111) [(.aload_n 0, 0, 0, 0, 0), (.bipush 8, 0, 0, 8, 0)] (by decide +kernel) rfl ?_
  refine Wk.newa (at_ := .int) (N := 8) (code := 100) (ty := .int) rfl (Or.inl ⟨rfl, rfl, rfl⟩) (ev_is_ok (by decide +kernel)) wa_int (by decide) (by decide) (by decide) (by decide +kernel) rfl rfl (by decide) (by decide) ?_
  show Wk l Ln xs YX8_init d 0 0 17 [some (.ref 79)] [.ref 81, .ref 79] cS164 cM111 _
  refine Wk.putF (ci := 8) (k := 1) (idx := 15) (b := 81) (by decide +kernel) (by decide +kernel) rfl rfl (ev_is_ok (by decide +kernel)) (by decide +kernel) rfl (by decide +kernel) rfl (Or.inr ⟨_, rfl⟩) ?_
  show Wk l Ln xs YX8_init d 0 0 20 [some (.ref 79)] [] cS165 cM111 _
  refine Wk.run (pc' := 40) (ls' := [some (.ref 79)]) (st' := []) (m' := cM115) [(.aload_n 0, 0, 0, 0, 0), (.iconst 0, 0, 0, 0, 0), (.putfield 18, 8, 2, 0, 0), (.aload_n 0, 0, 0, 0, 0), (.iconst 0, 0, 0, 0, 0), (.putfield 22, 8, 3, 0, 0), (.aload_n 0, 0, 0, 0, 0), (.iconst 0, 0, 0, 0, 0), (.putfield 25, 8, 4, 0, 0), (.aload_n 0, 0, 0, 0, 0), (.iconst 0, 0, 0, 0, 0), (.putfield 28, 8, 5, 0, 0)] (by decide +kernel) rfl ?_
  exact Wk.vret rfl (ev_is_ok (by decide +kernel)) ⟨rfl, rfl, rfl⟩
set_option maxRecDepth 100000 in
set_option maxHeartbeats 4000000 in
theorem KC31_X8_init {l : Launch} {Ln : Nat} {xs : Nat → Int32} {d : Nat} (hd : 1 ≤ d) : Mk l Ln xs YX8_init d 2 16 [.ref 82] cS167 cM115 (fun v S' m' => v = none ∧ S' = cS171 ∧ m' = cM119) := by
  refine Mk.of (by decide +kernel) rfl (Nat.le_of_ble_eq_true rfl) (Wk.le (ls' := [some (.ref 82)]) ⟨rfl, trivial⟩ ?_)
  refine Wk.run (pc' := 1) (ls' := [some (.ref 82)]) (st' := [.ref 82]) (m' := cM115) [(.aload_n 0, 0, 0, 0, 0)] (by decide +kernel) rfl ?_
  refine Wk.objInit (idx := 3) (ev_is_ok (by decide +kernel)) wo_8_3 wobj_i wobj_c (by omega) (Nat.le_of_ble_eq_true rfl) ?_
  show Wk l Ln xs YX8_init d 2 16 4 [some (.ref 82)] [] cS167 cM115 _
  refine Wk.run (pc' := 7) (ls' := [some (.ref 82)]) (st' := [.int 8, .ref 82]) (m' := cM115) [(.aload_n 0, 0, 0, 0, 0), (.bipush 8, 0, 0, 8, 0)] (by decide +kernel) rfl ?_
  refine Wk.newa (at_ := .int) (N := 8) (code := 100) (ty := .int) rfl (Or.inl ⟨rfl, rfl, rfl⟩) (ev_is_ok (by decide +kernel)) wa_int (by decide) (by decide) (by decide) (by decide +kernel) rfl rfl (by decide) (by decide) ?_
  show Wk l Ln xs YX8_init d 1 8 9 [some (.ref 82)] [.ref 83, .ref 82] cS168 cM115 _
  refine Wk.putF (ci := 8) (k := 0) (idx := 9) (b := 83) (by decide +kernel) (by decide +kernel) rfl rfl (ev_is_ok (by decide +kernel)) (by decide +kernel) rfl (by decide +kernel) rfl (Or.inr ⟨_, rfl⟩) ?_
  show Wk l Ln xs YX8_init d 1 8 12 [some (.ref 82)] [] cS169 cM115 _
  refine Wk.run (pc' := 15) (ls' := [some (.ref 82)]) (st' := [.int 8, .ref 82]) (m' := cM115) [(.aload_n 0, 0, 0, 0, 0), (.bipush 8, 0, 0, 8, 0)] (by decide +kernel) rfl ?_
  refine Wk.newa (at_ := .int) (N := 8) (code := 100) (ty := .int) rfl (Or.inl ⟨rfl, rfl, rfl⟩) (ev_is_ok (by decide +kernel)) wa_int (by decide) (by decide) (by decide) (by decide +kernel) rfl rfl (by decide) (by decide) ?_
  show Wk l Ln xs YX8_init d 0 0 17 [some (.ref 82)] [.ref 84, .ref 82] cS170 cM115 _
  refine Wk.putF (ci := 8) (k := 1) (idx := 15) (b := 84) (by decide +kernel) (by decide +kernel) rfl rfl (ev_is_ok (by decide +kernel)) (by decide +kernel) rfl (by decide +kernel) rfl (Or.inr ⟨_, rfl⟩) ?_
  show Wk l Ln xs YX8_init d 0 0 20 [some (.ref 82)] [] cS171 cM115 _
  refine Wk.run (pc' := 40) (ls' := [some (.ref 82)]) (st' := []) (m' := cM119) [(.aload_n 0, 0, 0, 0, 0), (.iconst 0, 0, 0, 0, 0), (.putfield 18, 8, 2, 0, 0), (.aload_n 0, 0, 0, 0, 0), (.iconst 0, 0, 0, 0, 0), (.putfield 22, 8, 3, 0, 0), (.aload_n 0, 0, 0, 0, 0), (.iconst 0, 0, 0, 0, 0), (.putfield 25, 8, 4, 0, 0), (.aload_n 0, 0, 0, 0, 0), (.iconst 0, 0, 0, 0, 0), (.putfield 28, 8, 5, 0, 0)] (by decide +kernel) rfl ?_
  exact Wk.vret rfl (ev_is_ok (by decide +kernel)) ⟨rfl, rfl, rfl⟩
set_option maxRecDepth 100000 in
set_option maxHeartbeats 4000000 in
theorem KC32_X8_init {l : Launch} {Ln : Nat} {xs : Nat → Int32} {d : Nat} (hd : 1 ≤ d) : Mk l Ln xs YX8_init d 2 16 [.ref 85] cS173 cM119 (fun v S' m' => v = none ∧ S' = cS177 ∧ m' = cM123) := by
  refine Mk.of (by decide +kernel) rfl (Nat.le_of_ble_eq_true rfl) (Wk.le (ls' := [some (.ref 85)]) ⟨rfl, trivial⟩ ?_)
  refine Wk.run (pc' := 1) (ls' := [some (.ref 85)]) (st' := [.ref 85]) (m' := cM119) [(.aload_n 0, 0, 0, 0, 0)] (by decide +kernel) rfl ?_
  refine Wk.objInit (idx := 3) (ev_is_ok (by decide +kernel)) wo_8_3 wobj_i wobj_c (by omega) (Nat.le_of_ble_eq_true rfl) ?_
  show Wk l Ln xs YX8_init d 2 16 4 [some (.ref 85)] [] cS173 cM119 _
  refine Wk.run (pc' := 7) (ls' := [some (.ref 85)]) (st' := [.int 8, .ref 85]) (m' := cM119) [(.aload_n 0, 0, 0, 0, 0), (.bipush 8, 0, 0, 8, 0)] (by decide +kernel) rfl ?_
  refine Wk.newa (at_ := .int) (N := 8) (code := 100) (ty := .int) rfl (Or.inl ⟨rfl, rfl, rfl⟩) (ev_is_ok (by decide +kernel)) wa_int (by decide) (by decide) (by decide) (by decide +kernel) rfl rfl (by decide) (by decide) ?_
  show Wk l Ln xs YX8_init d 1 8 9 [some (.ref 85)] [.ref 86, .ref 85] cS174 cM119 _
  refine Wk.putF (ci := 8) (k := 0) (idx := 9) (b := 86) (by decide +kernel) (by decide +kernel) rfl rfl (ev_is_ok (by decide +kernel)) (by decide +kernel) rfl (by decide +kernel) rfl (Or.inr ⟨_, rfl⟩) ?_
  show Wk l Ln xs YX8_init d 1 8 12 [some (.ref 85)] [] cS175 cM119 _
  refine Wk.run (pc' := 15) (ls' := [some (.ref 85)]) (st' := [.int 8, .ref 85]) (m' := cM119) [(.aload_n 0, 0, 0, 0, 0), (.bipush 8, 0, 0, 8, 0)] (by decide +kernel) rfl ?_
  refine Wk.newa (at_ := .int) (N := 8) (code := 100) (ty := .int) rfl (Or.inl ⟨rfl, rfl, rfl⟩) (ev_is_ok (by decide +kernel)) wa_int (by decide) (by decide) (by decide) (by decide +kernel) rfl rfl (by decide) (by decide) ?_
  show Wk l Ln xs YX8_init d 0 0 17 [some (.ref 85)] [.ref 87, .ref 85] cS176 cM119 _
  refine Wk.putF (ci := 8) (k := 1) (idx := 15) (b := 87) (by decide +kernel) (by decide +kernel) rfl rfl (ev_is_ok (by decide +kernel)) (by decide +kernel) rfl (by decide +kernel) rfl (Or.inr ⟨_, rfl⟩) ?_
  show Wk l Ln xs YX8_init d 0 0 20 [some (.ref 85)] [] cS177 cM119 _
  refine Wk.run (pc' := 40) (ls' := [some (.ref 85)]) (st' := []) (m' := cM123) [(.aload_n 0, 0, 0, 0, 0), (.iconst 0, 0, 0, 0, 0), (.putfield 18, 8, 2, 0, 0), (.aload_n 0, 0, 0, 0, 0), (.iconst 0, 0, 0, 0, 0), (.putfield 22, 8, 3, 0, 0), (.aload_n 0, 0, 0, 0, 0), (.iconst 0, 0, 0, 0, 0), (.putfield 25, 8, 4, 0, 0), (.aload_n 0, 0, 0, 0, 0), (.iconst 0, 0, 0, 0, 0), (.putfield 28, 8, 5, 0, 0)] (by decide +kernel) rfl ?_
  exact Wk.vret rfl (ev_is_ok (by decide +kernel)) ⟨rfl, rfl, rfl⟩
set_option maxRecDepth 100000 in
set_option maxHeartbeats 4000000 in
theorem KC33_X8_init {l : Launch} {Ln : Nat} {xs : Nat → Int32} {d : Nat} (hd : 1 ≤ d) : Mk l Ln xs YX8_init d 2 16 [.ref 88] cS179 cM123 (fun v S' m' => v = none ∧ S' = cS183 ∧ m' = cM127) := by
  refine Mk.of (by decide +kernel) rfl (Nat.le_of_ble_eq_true rfl) (Wk.le (ls' := [some (.ref 88)]) ⟨rfl, trivial⟩ ?_)
  refine Wk.run (pc' := 1) (ls' := [some (.ref 88)]) (st' := [.ref 88]) (m' := cM123) [(.aload_n 0, 0, 0, 0, 0)] (by decide +kernel) rfl ?_
  refine Wk.objInit (idx := 3) (ev_is_ok (by decide +kernel)) wo_8_3 wobj_i wobj_c (by omega) (Nat.le_of_ble_eq_true rfl) ?_
  show Wk l Ln xs YX8_init d 2 16 4 [some (.ref 88)] [] cS179 cM123 _
  refine Wk.run (pc' := 7) (ls' := [some (.ref 88)]) (st' := [.int 8, .ref 88]) (m' := cM123) [(.aload_n 0, 0, 0, 0, 0), (.bipush 8, 0, 0, 8, 0)] (by decide +kernel) rfl ?_
  refine Wk.newa (at_ := .int) (N := 8) (code := 100) (ty := .int) rfl (Or.inl ⟨rfl, rfl, rfl⟩) (ev_is_ok (by decide +kernel)) wa_int (by decide) (by decide) (by decide) (by decide +kernel) rfl rfl (by decide) (by decide) ?_
  show Wk l Ln xs YX8_init d 1 8 9 [some (.ref 88)] [.ref 89, .ref 88] cS180 cM123 _
  refine Wk.putF (ci := 8) (k := 0) (idx := 9) (b := 89) (by decide +kernel) (by decide +kernel) rfl rfl (ev_is_ok (by decide +kernel)) (by decide +kernel) rfl (by decide +kernel) rfl (Or.inr ⟨_, rfl⟩) ?_
  show Wk l Ln xs YX8_init d 1 8 12 [some (.ref 88)] [] cS181 cM123 _
  refine Wk.run (pc' := 15) (ls' := [some (.ref 88)]) (st' := [.int 8, .ref 88]) (m' := cM123) [(.aload_n 0, 0, 0, 0, 0), (.bipush 8, 0, 0, 8, 0)] (by decide +kernel) rfl ?_
  refine Wk.newa (at_ := .int) (N := 8) (code := 100) (ty := .int) rfl (Or.inl ⟨rfl, rfl, rfl⟩) (ev_is_ok (by decide +kernel)) wa_int (by decide) (by decide) (by decide) (by decide +kernel) rfl rfl (by decide) (by decide) ?_
  show Wk l Ln xs YX8_init d 0 0 17 [some (.ref 88)] [.ref 90, .ref 88] cS182 cM123 _
  refine Wk.putF (ci := 8) (k := 1) (idx := 15) (b := 90) (by decide +kernel) (by decide +kernel) rfl rfl (ev_is_ok (by decide +kernel)) (by decide +kernel) rfl (by decide +kernel) rfl (Or.inr ⟨_, rfl⟩) ?_
  show Wk l Ln xs YX8_init d 0 0 20 [some (.ref 88)] [] cS183 cM123 _
  refine Wk.run (pc' := 40) (ls' := [some (.ref 88)]) (st' := []) (m' := cM127) [(.aload_n 0, 0, 0, 0, 0), (.iconst 0, 0, 0, 0, 0), (.putfield 18, 8, 2, 0, 0), (.aload_n 0, 0, 0, 0, 0), (.iconst 0, 0, 0, 0, 0), (.putfield 22, 8, 3, 0, 0), (.aload_n 0, 0, 0, 0, 0), (.iconst 0, 0, 0, 0, 0), (.putfield 25, 8, 4, 0, 0), (.aload_n 0, 0, 0, 0, 0), (.iconst 0, 0, 0, 0, 0), (.putfield 28, 8, 5, 0, 0)] (by decide +kernel) rfl ?_
  exact Wk.vret rfl (ev_is_ok (by decide +kernel)) ⟨rfl, rfl, rfl⟩
set_option maxRecDepth 100000 in
set_option maxHeartbeats 4000000 in
theorem KC34_X8_init {l : Launch} {Ln : Nat} {xs : Nat → Int32} {d : Nat} (hd : 1 ≤ d) : Mk l Ln xs YX8_init d 2 16 [.ref 91] cS185 cM127 (fun v S' m' => v = none ∧ S' = cS189 ∧ m' = cM131) := by
  refine Mk.of (by decide +kernel) rfl (Nat.le_of_ble_eq_true rfl) (Wk.le (ls' := [some (.ref 91)]) ⟨rfl, trivial⟩ ?_)
  refine Wk.run (pc' := 1) (ls' := [some (.ref 91)]) (st' := [.ref 91]) (m' := cM127) [(.aload_n 0, 0, 0, 0, 0)] (by decide +kernel) rfl ?_
  refine Wk.objInit (idx := 3) (ev_is_ok (by decide +kernel)) wo_8_3 wobj_i wobj_c (by omega) (Nat.le_of_ble_eq_true rfl) ?_
  show Wk l Ln xs YX8_init d 2 16 4 [some (.ref 91)] [] cS185 cM127 _
  refine Wk.run (pc' := 7) (ls' := [some (.ref 91)]) (st' := [.int 8, .ref 91]) (m' := cM127) [(.aload_n 0, 0, 0, 0, 0), (.bipush 8, 0, 0, 8, 0)] (by decide +kernel) rfl ?_
  refine Wk.newa (at_ := .int) (N := 8) (code := 100) (ty := .int) rfl (Or.inl ⟨rfl, rfl, rfl⟩) (ev_is_ok (by decide +kernel)) wa_int (by decide) (by decide) (by decide) (by decide +kernel) rfl rfl (by decide) (by decide) ?_
  show Wk l Ln xs YX8_init d 1 8 9 [some (.ref 91)] [.ref 92, .ref 91] cS186 cM127 _
  refine Wk.putF (ci := 8) (k := 0) (idx := 9) (b := 92) (by decide +kernel) (by decide +kernel) rfl rfl (ev_is_ok (by decide +kernel)) (by decide +kernel) rfl (by decide +kernel) rfl (Or.inr ⟨_, rfl⟩) ?_
  show Wk l Ln xs YX8_init d 1 8 12 [some (.ref 91)] [] cS187 cM127 _
  refine Wk.run (pc' := 15) (ls' := [some (.ref 91)]) (st' := [.int 8, .ref 91]) (m' := cM127) [(.aload_n 0, 0, 0, 0, 0), (.bipush 8, 0, 0, 8, 0)] (by decide +kernel) rfl ?_
  refine Wk.newa (at_ := .int) (N := 8) (code := 100) (ty := .int) rfl (Or.inl ⟨rfl, rfl, rfl⟩) (ev_is_ok (by decide +kernel)) wa_int (by decide) (by decide) (by decide) (by decide +kernel) rfl rfl (by decide) (by decide) ?_
  show Wk l Ln xs YX8_init d 0 0 17 [some (.ref 91)] [.ref 93, .ref 91] cS188 cM127 _
  refine Wk.putF (ci := 8) (k := 1) (idx := 15) (b := 93) (by decide +kernel) (by decide +kernel) rfl rfl (ev_is_ok (by decide +kernel)) (by decide +kernel) rfl (by decide +kernel) rfl (Or.inr ⟨_, rfl⟩) ?_
  show Wk l Ln xs YX8_init d 0 0 20 [some (.ref 91)] [] cS189 cM127 _
  refine Wk.run (pc' := 40) (ls' := [some (.ref 91)]) (st' := []) (m' := cM131) [(.aload_n 0, 0, 0, 0, 0), (.iconst 0, 0, 0, 0, 0), (.putfield 18, 8, 2, 0, 0), (.aload_n 0, 0, 0, 0, 0), (.iconst 0, 0, 0, 0, 0), (.putfield 22, 8, 3, 0, 0), (.aload_n 0, 0, 0, 0, 0), (.iconst 0, 0, 0, 0, 0), (.putfield 25, 8, 4, 0, 0), (.aload_n 0, 0, 0, 0, 0), (.iconst 0, 0, 0, 0, 0), (.putfield 28, 8, 5, 0, 0)] (by decide +kernel) rfl ?_
  exact Wk.vret rfl (ev_is_ok (by decide +kernel)) ⟨rfl, rfl, rfl⟩
set_option maxRecDepth 100000 in
set_option maxHeartbeats 4000000 in
theorem KC35_X8_init {l : Launch} {Ln : Nat} {xs : Nat → Int32} {d : Nat} (hd : 1 ≤ d) : Mk l Ln xs YX8_init d 2 16 [.ref 94] cS191 cM131 (fun v S' m' => v = none ∧ S' = cS195 ∧ m' = cM135) := by
  refine Mk.of (by decide +kernel) rfl (Nat.le_of_ble_eq_true rfl) (Wk.le (ls' := [some (.ref 94)]) ⟨rfl, trivial⟩ ?_)
  refine Wk.run (pc' := 1) (ls' := [some (.ref 94)]) (st' := [.ref 94]) (m' := cM131) [(.aload_n 0, 0, 0, 0, 0)] (by decide +kernel) rfl ?_
  refine Wk.objInit (idx := 3) (ev_is_ok (by decide +kernel)) wo_8_3 wobj_i wobj_c (by omega) (Nat.le_of_ble_eq_true rfl) ?_
  show Wk l Ln xs YX8_init d 2 16 4 [some (.ref 94)] [] cS191 cM131 _
  refine Wk.run (pc' := 7) (ls' := [some (.ref 94)]) (st' := [.int 8, .ref 94]) (m' := cM131) [(.aload_n 0, 0, 0, 0, 0), (.bipush 8, 0, 0, 8, 0)] (by decide +kernel) rfl ?_
  refine Wk.newa (at_ := .int) (N := 8) (code := 100) (ty := .int) rfl (Or.inl ⟨rfl, rfl, rfl⟩) (ev_is_ok (by decide +kernel)) wa_int (by decide) (by decide) (by decide) (by decide +kernel) rfl rfl (by decide) (by decide) ?_
  show Wk l Ln xs YX8_init d 1 8 9 [some (.ref 94)] [.ref 95, .ref 94] cS192 cM131 _
  refine Wk.putF (ci := 8) (k := 0) (idx := 9) (b := 95) (by decide +kernel) (by decide +kernel) rfl rfl (ev_is_ok (by decide +kernel)) (by decide +kernel) rfl (by decide +kernel) rfl (Or.inr ⟨_, rfl⟩) ?_
  show Wk l Ln xs YX8_init d 1 8 12 [some (.ref 94)] [] cS193 cM131 _
  refine Wk.run (pc' := 15) (ls' := [some (.ref 94)]) (st' := [.int 8, .ref 94]) (m' := cM131) [(.aload_n 0, 0, 0, 0, 0), (.bipush 8, 0, 0, 8, 0)] (by decide +kernel) rfl ?_
  refine Wk.newa (at_ := .int) (N := 8) (code := 100) (ty := .int) rfl (Or.inl ⟨rfl, rfl, rfl⟩) (ev_is_ok (by decide +kernel)) wa_int (by decide) (by decide) (by decide) (by decide +kernel) rfl rfl (by decide) (by decide) ?_
  show Wk l Ln xs YX8_init d 0 0 17 [some (.ref 94)] [.ref 96, .ref 94] cS194 cM131 _
  refine Wk.putF (ci := 8) (k := 1) (idx := 15) (b := 96) (by decide +kernel) (by decide +kernel) rfl rfl (ev_is_ok (by decide +kernel)) (by decide +kernel) rfl (by decide +kernel) rfl (Or.inr ⟨_, rfl⟩) ?_
  show Wk l Ln xs YX8_init d 0 0 20 [some (.ref 94)] [] cS195 cM131 _
  refine Wk.run (pc' := 40) (ls' := [some (.ref 94)]) (st' := []) (m' := cM135) [(.aload_n 0, 0, 0, 0, 0), (.iconst 0, 0, 0, 0, 0), (.putfield 18, 8, 2, 0, 0), (.aload_n 0, 0, 0, 0, 0), (.iconst 0, 0, 0, 0, 0), (.putfield 22, 8, 3, 0, 0), (.aload_n 0, 0, 0, 0, 0), (.iconst 0, 0, 0, 0, 0), (.putfield 25, 8, 4, 0, 0), (.aload_n 0, 0, 0, 0, 0), (.iconst 0, 0, 0, 0, 0), (.putfield 28, 8, 5, 0, 0)] (by decide +kernel) rfl ?_
  exact Wk.vret rfl (ev_is_ok (by decide +kernel)) ⟨rfl, rfl, rfl⟩
set_option maxRecDepth 100000 in
set_option maxHeartbeats 4000000 in
theorem KC36_X8_init {l : Launch} {Ln : Nat} {xs : Nat → Int32} {d : Nat} (hd : 1 ≤ d) : Mk l Ln xs YX8_init d 2 16 [.ref 97] cS197 cM135 (fun v S' m' => v = none ∧ S' = cS201 ∧ m' = cM139) := by
  refine Mk.of (by decide +kernel) rfl (Nat.le_of_ble_eq_true rfl) (Wk.le (ls' := [some (.ref 97)]) ⟨rfl, trivial⟩ ?_)
  refine Wk.run (pc' := 1) (ls' := [some (.ref 97)]) (st' := [.ref 97]) (m' := cM135) [(.aload_n 0, 0, 0, 0, 0)] (by decide +kernel) rfl ?_
  refine Wk.objInit (idx := 3) (ev_is_ok (by decide +kernel)) wo_8_3 wobj_i wobj_c (by omega) (Nat.le_of_ble_eq_true rfl) ?_
  show Wk l Ln xs YX8_init d 2 16 4 [some (.ref 97)] [] cS197 cM135 _
  refine Wk.run (pc' := 7) (ls' := [some (.ref 97)]) (st' := [.int 8, .ref 97]) (m' := cM135) [(.aload_n 0, 0, 0, 0, 0), (.bipush 8, 0, 0, 8, 0)] (by decide +kernel) rfl ?_
  refine Wk.newa (at_ := .int) (N := 8) (code := 100) (ty := .int) rfl (Or.inl ⟨rfl, rfl, rfl⟩) (ev_is_ok (by decide +kernel)) wa_int (by decide) (by decide) (by decide) (by decide +kernel) rfl rfl (by decide) (by decide) ?_
  show Wk l Ln xs YX8_init d 1 8 9 [some (.ref 97)] [.ref 98, .ref 97] cS198 cM135 _
  refine Wk.putF (ci := 8) (k := 0) (idx := 9) (b := 98) (by decide +kernel) (by decide +kernel) rfl rfl (ev_is_ok (by decide +kernel)) (by decide +kernel) rfl (by decide +kernel) rfl (Or.inr ⟨_, rfl⟩) ?_
  show Wk l Ln xs YX8_init d 1 8 12 [some (.ref 97)] [] cS199 cM135 _
  refine Wk.run (pc' := 15) (ls' := [some (.ref 97)]) (st' := [.int 8, .ref 97]) (m' := cM135) [(.aload_n 0, 0, 0, 0, 0), (.bipush 8, 0, 0, 8, 0)] (by decide +kernel) rfl ?_
  refine Wk.newa (at_ := .int) (N := 8) (code := 100) (ty := .int) rfl (Or.inl ⟨rfl, rfl, rfl⟩) (ev_is_ok (by decide +kernel)) wa_int (by decide) (by decide) (by decide) (by decide +kernel) rfl rfl (by decide) (by decide) ?_
  show Wk l Ln xs YX8_init d 0 0 17 [some (.ref 97)] [.ref 99, .ref 97] cS200 cM135 _
  refine Wk.putF (ci := 8) (k := 1) (idx := 15) (b := 99) (by decide +kernel) (by decide +kernel) rfl rfl (ev_is_ok (by decide +kernel)) (by decide +kernel) rfl (by decide +kernel) rfl (Or.inr ⟨_, rfl⟩) ?_
  show Wk l Ln xs YX8_init d 0 0 20 [some (.ref 97)] [] cS201 cM135 _
  refine Wk.run (pc' := 40) (ls' := [some (.ref 97)]) (st' := []) (m' := cM139) [(.aload_n 0, 0, 0, 0, 0), (.iconst 0, 0, 0, 0, 0), (.putfield 18, 8, 2, 0, 0), (.aload_n 0, 0, 0, 0, 0), (.iconst 0, 0, 0, 0, 0), (.putfield 22, 8, 3, 0, 0), (.aload_n 0, 0, 0, 0, 0), (.iconst 0, 0, 0, 0, 0), (.putfield 25, 8, 4, 0, 0), (.aload_n 0, 0, 0, 0, 0), (.iconst 0, 0, 0, 0, 0), (.putfield 28, 8, 5, 0, 0)] (by decide +kernel) rfl ?_
  exact Wk.vret rfl (ev_is_ok (by decide +kernel)) ⟨rfl, rfl, rfl⟩
set_option maxRecDepth 100000 in
set_option maxHeartbeats 4000000 in
theorem KC37_X8_init {l : Launch} {Ln : Nat} {xs : Nat → Int32} {d : Nat} (hd : 1 ≤ d) : Mk l Ln xs YX8_init d 2 16 [.ref 100] cS203 cM139 (fun v S' m' => v = none ∧ S' = cS207 ∧ m' = cM143) := by
  refine Mk.of (by decide +kernel) rfl (Nat.le_of_ble_eq_true rfl) (Wk.le (ls' := [some (.ref 100)]) ⟨rfl, trivial⟩ ?_)
  refine Wk.run (pc' := 1) (ls' := [some (.ref 100)]) (st' := [.ref 100]) (m' := cM139) [(.aload_n 0, 0, 0, 0, 0)] (by decide +kernel) rfl ?_
  refine Wk.objInit (idx := 3) (ev_is_ok (by decide +kernel)) wo_8_3 wobj_i wobj_c (by omega) (Nat.le_of_ble_eq_true rfl) ?_
  show Wk l Ln xs YX8_init d 2 16 4 [some (.ref 100)] [] cS203 cM139 _
  refine Wk.run (pc' := 7) (ls' := [some (.ref 100)]) (st' := [.int 8, .ref 100]) (m' := cM139) [(.aload_n 0, 0, 0, 0, 0), (.bipush 8, 0, 0, 8, 0)] (by decide +kernel) rfl ?_
  refine Wk.newa (at_ := .int) (N := 8) (code := 100) (ty := .int) rfl (Or.inl ⟨rfl, rfl, rfl⟩) (ev_is_ok (by decide +kernel)) wa_int (by decide) (by decide) (by decide) (by decide +kernel) rfl rfl (by decide) (by decide) ?_
  show Wk l Ln xs YX8_init d 1 8 9 [some (.ref 100)] [.ref 101, .ref 100] cS204 cM139 _
  refine Wk.putF (ci := 8) (k := 0) (idx := 9) (b := 101) (by decide +kernel) (by decide +kernel) rfl rfl (ev_is_ok (by decide +kernel)) (by decide +kernel) rfl (by decide +kernel) rfl (Or.inr ⟨_, rfl⟩) ?_
  show Wk l Ln xs YX8_init d 1 8 12 [some (.ref 100)] [] cS205 cM139 _
  refine Wk.run (pc' := 15) (ls' := [some (.ref 100)]) (st' := [.int 8, .ref 100]) (m' := cM139) [(.aload_n 0, 0, 0, 0, 0), (.bipush 8, 0, 0, 8, 0)] (by decide +kernel) rfl ?_
  refine Wk.newa (at_ := .int) (N := 8) (code := 100) (ty := .int) rfl (Or.inl ⟨rfl, rfl, rfl⟩) (ev_is_ok (by decide +kernel)) wa_int (by decide) (by decide) (by decide) (by decide +kernel) rfl rfl (by decide) (by decide) ?_
  show Wk l Ln xs YX8_init d 0 0 17 [some (.ref 100)] [.ref 102, .ref 100] cS206 cM139 _
  refine Wk.putF (ci := 8) (k := 1) (idx := 15) (b := 102) (by decide +kernel) (by decide +kernel) rfl rfl (ev_is_ok (by decide +kernel)) (by decide +kernel) rfl (by decide +kernel) rfl (Or.inr ⟨_, rfl⟩) ?_
  show Wk l Ln xs YX8_init d 0 0 20 [some (.ref 100)] [] cS207 cM139 _
  refine Wk.run (pc' := 40) (ls' := [some (.ref 100)]) (st' := []) (m' := cM143) [(.aload_n 0, 0, 0, 0, 0), (.iconst 0, 0, 0, 0, 0), (.putfield 18, 8, 2, 0, 0), (.aload_n 0, 0, 0, 0, 0), (.iconst 0, 0, 0, 0, 0), (.putfield 22, 8, 3, 0, 0), (.aload_n 0, 0, 0, 0, 0), (.iconst 0, 0, 0, 0, 0), (.putfield 25, 8, 4, 0, 0), (.aload_n 0, 0, 0, 0, 0), (.iconst 0, 0, 0, 0, 0), (.putfield 28, 8, 5, 0, 0)] (by decide +kernel) rfl ?_
  exact Wk.vret rfl (ev_is_ok (by decide +kernel)) ⟨rfl, rfl, rfl⟩
set_option maxRecDepth 100000 in
set_option maxHeartbeats 4000000 in
theorem KC17_X6_init {l : Launch} {Ln : Nat} {xs : Nat → Int32} {d : Nat} (hd : 2 ≤ d) : Mk l Ln xs YX6_init d 62 3460 [.ref 40] cS84 cM61 (fun v S' m' => v = none ∧ S' = cS208 ∧ m' = cM143) := by
  refine Mk.of (by decide +kernel) rfl (Nat.le_of_ble_eq_true rfl) (Wk.le (ls' := [some (.ref 40), none]) ⟨rfl, trivial⟩ ?_)
  refine Wk.run (pc' := 1) (ls' := [some (.ref 40), none]) (st' := [.ref 40]) (m' := cM61) [(.aload_n 0, 0, 0, 0, 0)] (by decide +kernel) rfl ?_
  refine Wk.objInit (idx := 3) (ev_is_ok (by decide +kernel)) wo_6_3 wobj_i wobj_c (by omega) (Nat.le_of_ble_eq_true rfl) ?_
  show Wk l Ln xs YX6_init d 62 3460 4 [some (.ref 40), none] [] cS84 cM61 _
  refine Wk.run (pc' := 7) (ls' := [some (.ref 40), none]) (st' := [.int 20, .ref 40]) (m' := cM61) [(.aload_n 0, 0, 0, 0, 0), (.bipush 20, 0, 0, 20, 0)] (by decide +kernel) rfl ?_
  refine Wk.anew (idx := 9) (N := 20) (ev_is_ok (by decide +kernel)) wca_6_9 wover (by decide) (by decide) (by decide) (by decide +kernel) rfl (by decide) (by decide) ?_
  show Wk l Ln xs YX6_init d 61 3440 10 [some (.ref 40), none] [.ref 41, .ref 40] cS85 cM61 _
  refine Wk.putF (ci := 6) (k := 0) (idx := 11) (b := 41) (by decide +kernel) (by decide +kernel) rfl rfl (ev_is_ok (by decide +kernel)) (by decide +kernel) rfl (by decide +kernel) rfl (Or.inr ⟨_, rfl⟩) ?_
  show Wk l Ln xs YX6_init d 61 3440 13 [some (.ref 40), none] [] cS86 cM61 _
  refine Wk.run (pc' := 17) (ls' := [some (.ref 40), none]) (st' := [.int 3000, .ref 40]) (m' := cM61) [(.aload_n 0, 0, 0, 0, 0), (.sipush 3000, 0, 0, 3000, 0)] (by decide +kernel) rfl ?_
  refine Wk.newa (at_ := .int) (N := 3000) (code := 100) (ty := .int) rfl (Or.inl ⟨rfl, rfl, rfl⟩) (ev_is_ok (by decide +kernel)) wa_int (by decide) (by decide) (by decide) (by decide +kernel) rfl rfl (by decide) (by decide) ?_
  show Wk l Ln xs YX6_init d 60 440 19 [some (.ref 40), none] [.ref 42, .ref 40] cS87 cM61 _
  refine Wk.putF (ci := 6) (k := 1) (idx := 17) (b := 42) (by decide +kernel) (by decide +kernel) rfl rfl (ev_is_ok (by decide +kernel)) (by decide +kernel) rfl (by decide +kernel) rfl (Or.inr ⟨_, rfl⟩) ?_
  show Wk l Ln xs YX6_init d 60 440 22 [some (.ref 40), none] [] cS88 cM61 _
  refine Wk.run (pc' := 37) (ls' := [some (.ref 40), some (.int 0)]) (st' := [.int 20, .int 0]) (m' := cM63) [(.aload_n 0, 0, 0, 0, 0), (.iconst 0, 0, 0, 0, 0), (.putfield 21, 6, 2, 0, 0), (.aload_n 0, 0, 0, 0, 0), (.iconst 0, 0, 0, 0, 0), (.putfield 25, 6, 3, 0, 0), (.iconst 0, 0, 0, 0, 0), (.istore_n 1, 0, 0, 0, 0), (.iload_n 1, 0, 0, 0, 0), (.bipush 20, 0, 0, 20, 0)] (by decide +kernel) rfl ?_
  refine Wk.ic_ge (tgt := 59) (off := 22) (ev_is_ok (by decide +kernel)) (by decide) (fun z => absurd z (by decide)) (fun _ => ?_)
  refine Wk.run (pc' := 45) (ls' := [some (.ref 40), some (.int 0)]) (st' := [.int 0, .ref 41]) (m' := cM63) [(.aload_n 0, 0, 0, 0, 0), (.getfield 11, 6, 0, 0, 0), (.iload_n 1, 0, 0, 0, 0)] (by decide +kernel) rfl ?_
  refine Wk.new (ci := 8) (q := (RX8, TX8, 6)) rfl (ev_is_ok (i := .new 9) (by decide +kernel)) wc_6_9 wi_8 wn_8 (by decide +kernel) rfl rfl rfl (by decide) (by decide) ?_
  show Wk l Ln xs YX6_init d 59 434 48 [some (.ref 40), some (.int 0)] [.ref 43, .int 0, .ref 41] cS89 cM63 _
  refine Wk.run (pc' := 49) (ls' := [some (.ref 40), some (.int 0)]) (st' := [.ref 43, .ref 43, .int 0, .ref 41]) (m' := cM63) [(.dup, 0, 0, 0, 0)] (by decide +kernel) rfl ?_
  refine Wk.callIN (av := []) (a := 43) (st := [.ref 43, .int 0, .ref 41]) rfl (ev_is_ok (i := .invokespecial 28) (by decide +kernel)) mwX8_init iwX8_init rfl rfl wm_6_28 (KC18_X8_init (d := 1) (by decide)) (by omega) (by decide) (by decide) (by decide +kernel) rfl (Nat.le_of_ble_eq_true rfl) (fun v S2 m2 z => ?_)
  obtain ⟨rfl, rfl, rfl⟩ := z
  show Wk l Ln xs YX6_init d 57 418 52 [some (.ref 40), some (.int 0)] [.ref 43, .int 0, .ref 41] cS93 cM67 _
  refine Wk.aast (n := 20) (ev_is_ok (by decide +kernel)) (by decide +kernel) rfl (by decide +kernel) rfl (by decide) ?_
  show Wk l Ln xs YX6_init d 57 418 53 [some (.ref 40), some (.int 0)] [] cS94 cM67 _
  refine Wk.run (pc' := 56) (ls' := [some (.ref 40), some (.int 1)]) (st' := []) (m' := cM67) [(.iinc 1 1, 0, 0, 1, 0)] (by decide +kernel) rfl ?_
  refine Wk.gto (tgt := 34) (off := -22) (ev_is_ok (by decide +kernel)) (by decide) ?_
  refine Wk.run (pc' := 37) (ls' := [some (.ref 40), some (.int 1)]) (st' := [.int 20, .int 1]) (m' := cM67) [(.iload_n 1, 0, 0, 0, 0), (.bipush 20, 0, 0, 20, 0)] (by decide +kernel) rfl ?_
  refine Wk.ic_ge (tgt := 59) (off := 22) (ev_is_ok (by decide +kernel)) (by decide) (fun z => absurd z (by decide)) (fun _ => ?_)
  refine Wk.run (pc' := 45) (ls' := [some (.ref 40), some (.int 1)]) (st' := [.int 1, .ref 41]) (m' := cM67) [(.aload_n 0, 0, 0, 0, 0), (.getfield 11, 6, 0, 0, 0), (.iload_n 1, 0, 0, 0, 0)] (by decide +kernel) rfl ?_
  refine Wk.new (ci := 8) (q := (RX8, TX8, 6)) rfl (ev_is_ok (i := .new 9) (by decide +kernel)) wc_6_9 wi_8 wn_8 (by decide +kernel) rfl rfl rfl (by decide) (by decide) ?_
  show Wk l Ln xs YX6_init d 56 412 48 [some (.ref 40), some (.int 1)] [.ref 46, .int 1, .ref 41] cS95 cM67 _
  refine Wk.run (pc' := 49) (ls' := [some (.ref 40), some (.int 1)]) (st' := [.ref 46, .ref 46, .int 1, .ref 41]) (m' := cM67) [(.dup, 0, 0, 0, 0)] (by decide +kernel) rfl ?_
  refine Wk.callIN (av := []) (a := 46) (st := [.ref 46, .int 1, .ref 41]) rfl (ev_is_ok (i := .invokespecial 28) (by decide +kernel)) mwX8_init iwX8_init rfl rfl wm_6_28 (KC19_X8_init (d := 1) (by decide)) (by omega) (by decide) (by decide) (by decide +kernel) rfl (Nat.le_of_ble_eq_true rfl) (fun v S2 m2 z => ?_)
  obtain ⟨rfl, rfl, rfl⟩ := z
  show Wk l Ln xs YX6_init d 54 396 52 [some (.ref 40), some (.int 1)] [.ref 46, .int 1, .ref 41] cS99 cM71 _
  refine Wk.aast (n := 20) (ev_is_ok (by decide +kernel)) (by decide +kernel) rfl (by decide +kernel) rfl (by decide) ?_
  show Wk l Ln xs YX6_init d 54 396 53 [some (.ref 40), some (.int 1)] [] cS100 cM71 _
  refine Wk.run (pc' := 56) (ls' := [some (.ref 40), some (.int 2)]) (st' := []) (m' := cM71) [(.iinc 1 1, 0, 0, 1, 0)] (by decide +kernel) rfl ?_
  refine Wk.gto (tgt := 34) (off := -22) (ev_is_ok (by decide +kernel)) (by decide) ?_
  refine Wk.run (pc' := 37) (ls' := [some (.ref 40), some (.int 2)]) (st' := [.int 20, .int 2]) (m' := cM71) [(.iload_n 1, 0, 0, 0, 0), (.bipush 20, 0, 0, 20, 0)] (by decide +kernel) rfl ?_
  refine Wk.ic_ge (tgt := 59) (off := 22) (ev_is_ok (by decide +kernel)) (by decide) (fun z => absurd z (by decide)) (fun _ => ?_)
  refine Wk.run (pc' := 45) (ls' := [some (.ref 40), some (.int 2)]) (st' := [.int 2, .ref 41]) (m' := cM71) [(.aload_n 0, 0, 0, 0, 0), (.getfield 11, 6, 0, 0, 0), (.iload_n 1, 0, 0, 0, 0)] (by decide +kernel) rfl ?_
  refine Wk.new (ci := 8) (q := (RX8, TX8, 6)) rfl (ev_is_ok (i := .new 9) (by decide +kernel)) wc_6_9 wi_8 wn_8 (by decide +kernel) rfl rfl rfl (by decide) (by decide) ?_
  show Wk l Ln xs YX6_init d 53 390 48 [some (.ref 40), some (.int 2)] [.ref 49, .int 2, .ref 41] cS101 cM71 _
  refine Wk.run (pc' := 49) (ls' := [some (.ref 40), some (.int 2)]) (st' := [.ref 49, .ref 49, .int 2, .ref 41]) (m' := cM71) [(.dup, 0, 0, 0, 0)] (by decide +kernel) rfl ?_
  refine Wk.callIN (av := []) (a := 49) (st := [.ref 49, .int 2, .ref 41]) rfl (ev_is_ok (i := .invokespecial 28) (by decide +kernel)) mwX8_init iwX8_init rfl rfl wm_6_28 (KC20_X8_init (d := 1) (by decide)) (by omega) (by decide) (by decide) (by decide +kernel) rfl (Nat.le_of_ble_eq_true rfl) (fun v S2 m2 z => ?_)
  obtain ⟨rfl, rfl, rfl⟩ := z
  show Wk l Ln xs YX6_init d 51 374 52 [some (.ref 40), some (.int 2)] [.ref 49, .int 2, .ref 41] cS105 cM75 _
  refine Wk.aast (n := 20) (ev_is_ok (by decide +kernel)) (by decide +kernel) rfl (by decide +kernel) rfl (by decide) ?_
  show Wk l Ln xs YX6_init d 51 374 53 [some (.ref 40), some (.int 2)] [] cS106 cM75 _
  refine Wk.run (pc' := 56) (ls' := [some (.ref 40), some (.int 3)]) (st' := []) (m' := cM75) [(.iinc 1 1, 0, 0, 1, 0)] (by decide +kernel) rfl ?_
  refine Wk.gto (tgt := 34) (off := -22) (ev_is_ok (by decide +kernel)) (by decide) ?_
  refine Wk.run (pc' := 37) (ls' := [some (.ref 40), some (.int 3)]) (st' := [.int 20, .int 3]) (m' := cM75) [(.iload_n 1, 0, 0, 0, 0), (.bipush 20, 0, 0, 20, 0)] (by decide +kernel) rfl ?_
  refine Wk.ic_ge (tgt := 59) (off := 22) (ev_is_ok (by decide +kernel)) (by decide) (fun z => absurd z (by decide)) (fun _ => ?_)
  refine Wk.run (pc' := 45) (ls' := [some (.ref 40), some (.int 3)]) (st' := [.int 3, .ref 41]) (m' := cM75) [(.aload_n 0, 0, 0, 0, 0), (.getfield 11, 6, 0, 0, 0), (.iload_n 1, 0, 0, 0, 0)] (by decide +kernel) rfl ?_
  refine Wk.new (ci := 8) (q := (RX8, TX8, 6)) rfl (ev_is_ok (i := .new 9) (by decide +kernel)) wc_6_9 wi_8 wn_8 (by decide +kernel) rfl rfl rfl (by decide) (by decide) ?_
  show Wk l Ln xs YX6_init d 50 368 48 [some (.ref 40), some (.int 3)] [.ref 52, .int 3, .ref 41] cS107 cM75 _
  refine Wk.run (pc' := 49) (ls' := [some (.ref 40), some (.int 3)]) (st' := [.ref 52, .ref 52, .int 3, .ref 41]) (m' := cM75) [(.dup, 0, 0, 0, 0)] (by decide +kernel) rfl ?_
  refine Wk.callIN (av := []) (a := 52) (st := [.ref 52, .int 3, .ref 41]) rfl (ev_is_ok (i := .invokespecial 28) (by decide +kernel)) mwX8_init iwX8_init rfl rfl wm_6_28 (KC21_X8_init (d := 1) (by decide)) (by omega) (by decide) (by decide) (by decide +kernel) rfl (Nat.le_of_ble_eq_true rfl) (fun v S2 m2 z => ?_)
  obtain ⟨rfl, rfl, rfl⟩ := z
  show Wk l Ln xs YX6_init d 48 352 52 [some (.ref 40), some (.int 3)] [.ref 52, .int 3, .ref 41] cS111 cM79 _
  refine Wk.aast (n := 20) (ev_is_ok (by decide +kernel)) (by decide +kernel) rfl (by decide +kernel) rfl (by decide) ?_
  show Wk l Ln xs YX6_init d 48 352 53 [some (.ref 40), some (.int 3)] [] cS112 cM79 _
  refine Wk.run (pc' := 56) (ls' := [some (.ref 40), some (.int 4)]) (st' := []) (m' := cM79) [(.iinc 1 1, 0, 0, 1, 0)] (by decide +kernel) rfl ?_
  refine Wk.gto (tgt := 34) (off := -22) (ev_is_ok (by decide +kernel)) (by decide) ?_
  refine Wk.run (pc' := 37) (ls' := [some (.ref 40), some (.int 4)]) (st' := [.int 20, .int 4]) (m' := cM79) [(.iload_n 1, 0, 0, 0, 0), (.bipush 20, 0, 0, 20, 0)] (by decide +kernel) rfl ?_
  refine Wk.ic_ge (tgt := 59) (off := 22) (ev_is_ok (by decide +kernel)) (by decide) (fun z => absurd z (by decide)) (fun _ => ?_)
  refine Wk.run (pc' := 45) (ls' := [some (.ref 40), some (.int 4)]) (st' := [.int 4, .ref 41]) (m' := cM79) [(.aload_n 0, 0, 0, 0, 0), (.getfield 11, 6, 0, 0, 0), (.iload_n 1, 0, 0, 0, 0)] (by decide +kernel) rfl ?_
  refine Wk.new (ci := 8) (q := (RX8, TX8, 6)) rfl (ev_is_ok (i := .new 9) (by decide +kernel)) wc_6_9 wi_8 wn_8 (by decide +kernel) rfl rfl rfl (by decide) (by decide) ?_
  show Wk l Ln xs YX6_init d 47 346 48 [some (.ref 40), some (.int 4)] [.ref 55, .int 4, .ref 41] cS113 cM79 _
  refine Wk.run (pc' := 49) (ls' := [some (.ref 40), some (.int 4)]) (st' := [.ref 55, .ref 55, .int 4, .ref 41]) (m' := cM79) [(.dup, 0, 0, 0, 0)] (by decide +kernel) rfl ?_
  refine Wk.callIN (av := []) (a := 55) (st := [.ref 55, .int 4, .ref 41]) rfl (ev_is_ok (i := .invokespecial 28) (by decide +kernel)) mwX8_init iwX8_init rfl rfl wm_6_28 (KC22_X8_init (d := 1) (by decide)) (by omega) (by decide) (by decide) (by decide +kernel) rfl (Nat.le_of_ble_eq_true rfl) (fun v S2 m2 z => ?_)
  obtain ⟨rfl, rfl, rfl⟩ := z
  show Wk l Ln xs YX6_init d 45 330 52 [some (.ref 40), some (.int 4)] [.ref 55, .int 4, .ref 41] cS117 cM83 _
  refine Wk.aast (n := 20) (ev_is_ok (by decide +kernel)) (by decide +kernel) rfl (by decide +kernel) rfl (by decide) ?_
  show Wk l Ln xs YX6_init d 45 330 53 [some (.ref 40), some (.int 4)] [] cS118 cM83 _
  refine Wk.run (pc' := 56) (ls' := [some (.ref 40), some (.int 5)]) (st' := []) (m' := cM83) [(.iinc 1 1, 0, 0, 1, 0)] (by decide +kernel) rfl ?_
  refine Wk.gto (tgt := 34) (off := -22) (ev_is_ok (by decide +kernel)) (by decide) ?_
  refine Wk.run (pc' := 37) (ls' := [some (.ref 40), some (.int 5)]) (st' := [.int 20, .int 5]) (m' := cM83) [(.iload_n 1, 0, 0, 0, 0), (.bipush 20, 0, 0, 20, 0)] (by decide +kernel) rfl ?_
  refine Wk.ic_ge (tgt := 59) (off := 22) (ev_is_ok (by decide +kernel)) (by decide) (fun z => absurd z (by decide)) (fun _ => ?_)
  refine Wk.run (pc' := 45) (ls' := [some (.ref 40), some (.int 5)]) (st' := [.int 5, .ref 41]) (m' := cM83) [(.aload_n 0, 0, 0, 0, 0), (.getfield 11, 6, 0, 0, 0), (.iload_n 1, 0, 0, 0, 0)] (by decide +kernel) rfl ?_
  refine Wk.new (ci := 8) (q := (RX8, TX8, 6)) rfl (ev_is_ok (i := .new 9) (by decide +kernel)) wc_6_9 wi_8 wn_8 (by decide +kernel) rfl rfl rfl (by decide) (by decide) ?_
  show Wk l Ln xs YX6_init d 44 324 48 [some (.ref 40), some (.int 5)] [.ref 58, .int 5, .ref 41] cS119 cM83 _
  refine Wk.run (pc' := 49) (ls' := [some (.ref 40), some (.int 5)]) (st' := [.ref 58, .ref 58, .int 5, .ref 41]) (m' := cM83) [(.dup, 0, 0, 0, 0)] (by decide +kernel) rfl ?_
  refine Wk.callIN (av := []) (a := 58) (st := [.ref 58, .int 5, .ref 41]) rfl (ev_is_ok (i := .invokespecial 28) (by decide +kernel)) mwX8_init iwX8_init rfl rfl wm_6_28 (KC23_X8_init (d := 1) (by decide)) (by omega) (by decide) (by decide) (by decide +kernel) rfl (Nat.le_of_ble_eq_true rfl) (fun v S2 m2 z => ?_)
  obtain ⟨rfl, rfl, rfl⟩ := z
  show Wk l Ln xs YX6_init d 42 308 52 [some (.ref 40), some (.int 5)] [.ref 58, .int 5, .ref 41] cS123 cM87 _
  refine Wk.aast (n := 20) (ev_is_ok (by decide +kernel)) (by decide +kernel) rfl (by decide +kernel) rfl (by decide) ?_
  show Wk l Ln xs YX6_init d 42 308 53 [some (.ref 40), some (.int 5)] [] cS124 cM87 _
  refine Wk.run (pc' := 56) (ls' := [some (.ref 40), some (.int 6)]) (st' := []) (m' := cM87) [(.iinc 1 1, 0, 0, 1, 0)] (by decide +kernel) rfl ?_
  refine Wk.gto (tgt := 34) (off := -22) (ev_is_ok (by decide +kernel)) (by decide) ?_
  refine Wk.run (pc' := 37) (ls' := [some (.ref 40), some (.int 6)]) (st' := [.int 20, .int 6]) (m' := cM87) [(.iload_n 1, 0, 0, 0, 0), (.bipush 20, 0, 0, 20, 0)] (by decide +kernel) rfl ?_
  refine Wk.ic_ge (tgt := 59) (off := 22) (ev_is_ok (by decide +kernel)) (by decide) (fun z => absurd z (by decide)) (fun _ => ?_)
  refine Wk.run (pc' := 45) (ls' := [some (.ref 40), some (.int 6)]) (st' := [.int 6, .ref 41]) (m' := cM87) [(.aload_n 0, 0, 0, 0, 0), (.getfield 11, 6, 0, 0, 0), (.iload_n 1, 0, 0, 0, 0)] (by decide +kernel) rfl ?_
  refine Wk.new (ci := 8) (q := (RX8, TX8, 6)) rfl (ev_is_ok (i := .new 9) (by decide +kernel)) wc_6_9 wi_8 wn_8 (by decide +kernel) rfl rfl rfl (by decide) (by decide) ?_
  show Wk l Ln xs YX6_init d 41 302 48 [some (.ref 40), some (.int 6)] [.ref 61, .int 6, .ref 41] cS125 cM87 _
  refine Wk.run (pc' := 49) (ls' := [some (.ref 40), some (.int 6)]) (st' := [.ref 61, .ref 61, .int 6, .ref 41]) (m' := cM87) [(.dup, 0, 0, 0, 0)] (by decide +kernel) rfl ?_
  refine Wk.callIN (av := []) (a := 61) (st := [.ref 61, .int 6, .ref 41]) rfl (ev_is_ok (i := .invokespecial 28) (by decide +kernel)) mwX8_init iwX8_init rfl rfl wm_6_28 (KC24_X8_init (d := 1) (by decide)) (by omega) (by decide) (by decide) (by decide +kernel) rfl (Nat.le_of_ble_eq_true rfl) (fun v S2 m2 z => ?_)
  obtain ⟨rfl, rfl, rfl⟩ := z
  show Wk l Ln xs YX6_init d 39 286 52 [some (.ref 40), some (.int 6)] [.ref 61, .int 6, .ref 41] cS129 cM91 _
  refine Wk.aast (n := 20) (ev_is_ok (by decide +kernel)) (by decide +kernel) rfl (by decide +kernel) rfl (by decide) ?_
  show Wk l Ln xs YX6_init d 39 286 53 [some (.ref 40), some (.int 6)] [] cS130 cM91 _
  refine Wk.run (pc' := 56) (ls' := [some (.ref 40), some (.int 7)]) (st' := []) (m' := cM91) [(.iinc 1 1, 0, 0, 1, 0)] (by decide +kernel) rfl ?_
  refine Wk.gto (tgt := 34) (off := -22) (ev_is_ok (by decide +kernel)) (by decide) ?_
  refine Wk.run (pc' := 37) (ls' := [some (.ref 40), some (.int 7)]) (st' := [.int 20, .int 7]) (m' := cM91) [(.iload_n 1, 0, 0, 0, 0), (.bipush 20, 0, 0, 20, 0)] (by decide +kernel) rfl ?_
  refine Wk.ic_ge (tgt := 59) (off := 22) (ev_is_ok (by decide +kernel)) (by decide) (fun z => absurd z (by decide)) (fun _ => ?_)
  refine Wk.run (pc' := 45) (ls' := [some (.ref 40), some (.int 7)]) (st' := [.int 7, .ref 41]) (m' := cM91) [(.aload_n 0, 0, 0, 0, 0), (.getfield 11, 6, 0, 0, 0), (.iload_n 1, 0, 0, 0, 0)] (by decide +kernel) rfl ?_
  refine Wk.new (ci := 8) (q := (RX8, TX8, 6)) rfl (ev_is_ok (i := .new 9) (by decide +kernel)) wc_6_9 wi_8 wn_8 (by decide +kernel) rfl rfl rfl (by decide) (by decide) ?_
  show Wk l Ln xs YX6_init d 38 280 48 [some (.ref 40), some (.int 7)] [.ref 64, .int 7, .ref 41] cS131 cM91 _
  refine Wk.run (pc' := 49) (ls' := [some (.ref 40), some (.int 7)]) (st' := [.ref 64, .ref 64, .int 7, .ref 41]) (m' := cM91) [(.dup, 0, 0, 0, 0)] (by decide +kernel) rfl ?_
  refine Wk.callIN (av := []) (a := 64) (st := [.ref 64, .int 7, .ref 41]) rfl (ev_is_ok (i := .invokespecial 28) (by decide +kernel)) mwX8_init iwX8_init rfl rfl wm_6_28 (KC25_X8_init (d := 1) (by decide)) (by omega) (by decide) (by decide) (by decide +kernel) rfl (Nat.le_of_ble_eq_true rfl) (fun v S2 m2 z => ?_)
  obtain ⟨rfl, rfl, rfl⟩ := z
  show Wk l Ln xs YX6_init d 36 264 52 [some (.ref 40), some (.int 7)] [.ref 64, .int 7, .ref 41] cS135 cM95 _
  refine Wk.aast (n := 20) (ev_is_ok (by decide +kernel)) (by decide +kernel) rfl (by decide +kernel) rfl (by decide) ?_
  show Wk l Ln xs YX6_init d 36 264 53 [some (.ref 40), some (.int 7)] [] cS136 cM95 _
  refine Wk.run (pc' := 56) (ls' := [some (.ref 40), some (.int 8)]) (st' := []) (m' := cM95) [(.iinc 1 1, 0, 0, 1, 0)] (by decide +kernel) rfl ?_
  refine Wk.gto (tgt := 34) (off := -22) (ev_is_ok (by decide +kernel)) (by decide) ?_
  refine Wk.run (pc' := 37) (ls' := [some (.ref 40), some (.int 8)]) (st' := [.int 20, .int 8]) (m' := cM95) [(.iload_n 1, 0, 0, 0, 0), (.bipush 20, 0, 0, 20, 0)] (by decide +kernel) rfl ?_
  refine Wk.ic_ge (tgt := 59) (off := 22) (ev_is_ok (by decide +kernel)) (by decide) (fun z => absurd z (by decide)) (fun _ => ?_)
  refine Wk.run (pc' := 45) (ls' := [some (.ref 40), some (.int 8)]) (st' := [.int 8, .ref 41]) (m' := cM95) [(.aload_n 0, 0, 0, 0, 0), (.getfield 11, 6, 0, 0, 0), (.iload_n 1, 0, 0, 0, 0)] (by decide +kernel) rfl ?_
  refine Wk.new (ci := 8) (q := (RX8, TX8, 6)) rfl (ev_is_ok (i := .new 9) (by decide +kernel)) wc_6_9 wi_8 wn_8 (by decide +kernel) rfl rfl rfl (by decide) (by decide) ?_
  show Wk l Ln xs YX6_init d 35 258 48 [some (.ref 40), some (.int 8)] [.ref 67, .int 8, .ref 41] cS137 cM95 _
  refine Wk.run (pc' := 49) (ls' := [some (.ref 40), some (.int 8)]) (st' := [.ref 67, .ref 67, .int 8, .ref 41]) (m' := cM95) [(.dup, 0, 0, 0, 0)] (by decide +kernel) rfl ?_
  refine Wk.callIN (av := []) (a := 67) (st := [.ref 67, .int 8, .ref 41]) rfl (ev_is_ok (i := .invokespecial 28) (by decide +kernel)) mwX8_init iwX8_init rfl rfl wm_6_28 (KC26_X8_init (d := 1) (by decide)) (by omega) (by decide) (by decide) (by decide +kernel) rfl (Nat.le_of_ble_eq_true rfl) (fun v S2 m2 z => ?_)
  obtain ⟨rfl, rfl, rfl⟩ := z
  show Wk l Ln xs YX6_init d 33 242 52 [some (.ref 40), some (.int 8)] [.ref 67, .int 8, .ref 41] cS141 cM99 _
  refine Wk.aast (n := 20) (ev_is_ok (by decide +kernel)) (by decide +kernel) rfl (by decide +kernel) rfl (by decide) ?_
  show Wk l Ln xs YX6_init d 33 242 53 [some (.ref 40), some (.int 8)] [] cS142 cM99 _
  refine Wk.run (pc' := 56) (ls' := [some (.ref 40), some (.int 9)]) (st' := []) (m' := cM99) [(.iinc 1 1, 0, 0, 1, 0)] (by decide +kernel) rfl ?_
  refine Wk.gto (tgt := 34) (off := -22) (ev_is_ok (by decide +kernel)) (by decide) ?_
  refine Wk.run (pc' := 37) (ls' := [some (.ref 40), some (.int 9)]) (st' := [.int 20, .int 9]) (m' := cM99) [(.iload_n 1, 0, 0, 0, 0), (.bipush 20, 0, 0, 20, 0)] (by decide +kernel) rfl ?_
  refine Wk.ic_ge (tgt := 59) (off := 22) (ev_is_ok (by decide +kernel)) (by decide) (fun z => absurd z (by decide)) (fun _ => ?_)
  refine Wk.run (pc' := 45) (ls' := [some (.ref 40), some (.int 9)]) (st' := [.int 9, .ref 41]) (m' := cM99) [(.aload_n 0, 0, 0, 0, 0), (.getfield 11, 6, 0, 0, 0), (.iload_n 1, 0, 0, 0, 0)] (by decide +kernel) rfl ?_
  refine Wk.new (ci := 8) (q := (RX8, TX8, 6)) rfl (ev_is_ok (i := .new 9) (by decide +kernel)) wc_6_9 wi_8 wn_8 (by decide +kernel) rfl rfl rfl (by decide) (by decide) ?_
  show Wk l Ln xs YX6_init d 32 236 48 [some (.ref 40), some (.int 9)] [.ref 70, .int 9, .ref 41] cS143 cM99 _
  refine Wk.run (pc' := 49) (ls' := [some (.ref 40), some (.int 9)]) (st' := [.ref 70, .ref 70, .int 9, .ref 41]) (m' := cM99) [(.dup, 0, 0, 0, 0)] (by decide +kernel) rfl ?_
  refine Wk.callIN (av := []) (a := 70) (st := [.ref 70, .int 9, .ref 41]) rfl (ev_is_ok (i := .invokespecial 28) (by decide +kernel)) mwX8_init iwX8_init rfl rfl wm_6_28 (KC27_X8_init (d := 1) (by decide)) (by omega) (by decide) (by decide) (by decide +kernel) rfl (Nat.le_of_ble_eq_true rfl) (fun v S2 m2 z => ?_)
  obtain ⟨rfl, rfl, rfl⟩ := z
  show Wk l Ln xs YX6_init d 30 220 52 [some (.ref 40), some (.int 9)] [.ref 70, .int 9, .ref 41] cS147 cM103 _
  refine Wk.aast (n := 20) (ev_is_ok (by decide +kernel)) (by decide +kernel) rfl (by decide +kernel) rfl (by decide) ?_
  show Wk l Ln xs YX6_init d 30 220 53 [some (.ref 40), some (.int 9)] [] cS148 cM103 _
  refine Wk.run (pc' := 56) (ls' := [some (.ref 40), some (.int 10)]) (st' := []) (m' := cM103) [(.iinc 1 1, 0, 0, 1, 0)] (by decide +kernel) rfl ?_
  refine Wk.gto (tgt := 34) (off := -22) (ev_is_ok (by decide +kernel)) (by decide) ?_
  refine Wk.run (pc' := 37) (ls' := [some (.ref 40), some (.int 10)]) (st' := [.int 20, .int 10]) (m' := cM103) [(.iload_n 1, 0, 0, 0, 0), (.bipush 20, 0, 0, 20, 0)] (by decide +kernel) rfl ?_
  refine Wk.ic_ge (tgt := 59) (off := 22) (ev_is_ok (by decide +kernel)) (by decide) (fun z => absurd z (by decide)) (fun _ => ?_)
  refine Wk.run (pc' := 45) (ls' := [some (.ref 40), some (.int 10)]) (st' := [.int 10, .ref 41]) (m' := cM103) [(.aload_n 0, 0, 0, 0, 0), (.getfield 11, 6, 0, 0, 0), (.iload_n 1, 0, 0, 0, 0)] (by decide +kernel) rfl ?_
  refine Wk.new (ci := 8) (q := (RX8, TX8, 6)) rfl (ev_is_ok (i := .new 9) (by decide +kernel)) wc_6_9 wi_8 wn_8 (by decide +kernel) rfl rfl rfl (by decide) (by decide) ?_
  show Wk l Ln xs YX6_init d 29 214 48 [some (.ref 40), some (.int 10)] [.ref 73, .int 10, .ref 41] cS149 cM103 _
  refine Wk.run (pc' := 49) (ls' := [some (.ref 40), some (.int 10)]) (st' := [.ref 73, .ref 73, .int 10, .ref 41]) (m' := cM103) [(.dup, 0, 0, 0, 0)] (by decide +kernel) rfl ?_
  refine Wk.callIN (av := []) (a := 73) (st := [.ref 73, .int 10, .ref 41]) rfl (ev_is_ok (i := .invokespecial 28) (by decide +kernel)) mwX8_init iwX8_init rfl rfl wm_6_28 (KC28_X8_init (d := 1) (by decide)) (by omega) (by decide) (by decide) (by decide +kernel) rfl (Nat.le_of_ble_eq_true rfl) (fun v S2 m2 z => ?_)
  obtain ⟨rfl, rfl, rfl⟩ := z
  show Wk l Ln xs YX6_init d 27 198 52 [some (.ref 40), some (.int 10)] [.ref 73, .int 10, .ref 41] cS153 cM107 _
  refine Wk.aast (n := 20) (ev_is_ok (by decide +kernel)) (by decide +kernel) rfl (by decide +kernel) rfl (by decide) ?_
  show Wk l Ln xs YX6_init d 27 198 53 [some (.ref 40), some (.int 10)] [] cS154 cM107 _
  refine Wk.run (pc' := 56) (ls' := [some (.ref 40), some (.int 11)]) (st' := []) (m' := cM107) [(.iinc 1 1, 0, 0, 1, 0)] (by decide +kernel) rfl ?_
  refine Wk.gto (tgt := 34) (off := -22) (ev_is_ok (by decide +kernel)) (by decide) ?_
  refine Wk.run (pc' := 37) (ls' := [some (.ref 40), some (.int 11)]) (st' := [.int 20, .int 11]) (m' := cM107) [(.iload_n 1, 0, 0, 0, 0), (.bipush 20, 0, 0, 20, 0)] (by decide +kernel) rfl ?_
  refine Wk.ic_ge (tgt := 59) (off := 22) (ev_is_ok (by decide +kernel)) (by decide) (fun z => absurd z (by decide)) (fun _ => ?_)
  refine Wk.run (pc' := 45) (ls' := [some (.ref 40), some (.int 11)]) (st' := [.int 11, .ref 41]) (m' := cM107) [(.aload_n 0, 0, 0, 0, 0), (.getfield 11, 6, 0, 0, 0), (.iload_n 1, 0, 0, 0, 0)] (by decide +kernel) rfl ?_
  refine Wk.new (ci := 8) (q := (RX8, TX8, 6)) rfl (ev_is_ok (i := .new 9) (by decide +kernel)) wc_6_9 wi_8 wn_8 (by decide +kernel) rfl rfl rfl (by decide) (by decide) ?_
  show Wk l Ln xs YX6_init d 26 192 48 [some (.ref 40), some (.int 11)] [.ref 76, .int 11, .ref 41] cS155 cM107 _
  refine Wk.run (pc' := 49) (ls' := [some (.ref 40), some (.int 11)]) (st' := [.ref 76, .ref 76, .int 11, .ref 41]) (m' := cM107) [(.dup, 0, 0, 0, 0)] (by decide +kernel) rfl ?_
  refine Wk.callIN (av := []) (a := 76) (st := [.ref 76, .int 11, .ref 41]) rfl (ev_is_ok (i := .invokespecial 28) (by decide +kernel)) mwX8_init iwX8_init rfl rfl wm_6_28 (KC29_X8_init (d := 1) (by decide)) (by omega) (by decide) (by decide) (by decide +kernel) rfl (Nat.le_of_ble_eq_true rfl) (fun v S2 m2 z => ?_)
  obtain ⟨rfl, rfl, rfl⟩ := z
  show Wk l Ln xs YX6_init d 24 176 52 [some (.ref 40), some (.int 11)] [.ref 76, .int 11, .ref 41] cS159 cM111 _
  refine Wk.aast (n := 20) (ev_is_ok (by decide +kernel)) (by decide +kernel) rfl (by decide +kernel) rfl (by decide) ?_
  show Wk l Ln xs YX6_init d 24 176 53 [some (.ref 40), some (.int 11)] [] cS160 cM111 _
  refine Wk.run (pc' := 56) (ls' := [some (.ref 40), some (.int 12)]) (st' := []) (m' := cM111) [(.iinc 1 1, 0, 0, 1, 0)] (by decide +kernel) rfl ?_
  refine Wk.gto (tgt := 34) (off := -22) (ev_is_ok (by decide +kernel)) (by decide) ?_
  refine Wk.run (pc' := 37) (ls' := [some (.ref 40), some (.int 12)]) (st' := [.int 20, .int 12]) (m' := cM111) [(.iload_n 1, 0, 0, 0, 0), (.bipush 20, 0, 0, 20, 0)] (by decide +kernel) rfl ?_
  refine Wk.ic_ge (tgt := 59) (off := 22) (ev_is_ok (by decide +kernel)) (by decide) (fun z => absurd z (by decide)) (fun _ => ?_)
  refine Wk.run (pc' := 45) (ls' := [some (.ref 40), some (.int 12)]) (st' := [.int 12, .ref 41]) (m' := cM111) [(.aload_n 0, 0, 0, 0, 0), (.getfield 11, 6, 0, 0, 0), (.iload_n 1, 0, 0, 0, 0)] (by decide +kernel) rfl ?_
  refine Wk.new (ci := 8) (q := (RX8, TX8, 6)) rfl (ev_is_ok (i := .new 9) (by decide +kernel)) wc_6_9 wi_8 wn_8 (by decide +kernel) rfl rfl rfl (by decide) (by decide) ?_
  show Wk l Ln xs YX6_init d 23 170 48 [some (.ref 40), some (.int 12)] [.ref 79, .int 12, .ref 41] cS161 cM111 _
  refine Wk.run (pc' := 49) (ls' := [some (.ref 40), some (.int 12)]) (st' := [.ref 79, .ref 79, .int 12, .ref 41]) (m' := cM111) [(.dup, 0, 0, 0, 0)] (by decide +kernel) rfl ?_
  refine Wk.callIN (av := []) (a := 79) (st := [.ref 79, .int 12, .ref 41]) rfl (ev_is_ok (i := .invokespecial 28) (by decide +kernel)) mwX8_init iwX8_init rfl rfl wm_6_28 (KC30_X8_init (d := 1) (by decide)) (by omega) (by decide) (by decide) (by decide +kernel) rfl (Nat.le_of_ble_eq_true rfl) (fun v S2 m2 z => ?_)
  obtain ⟨rfl, rfl, rfl⟩ := z
  show Wk l Ln xs YX6_init d 21 154 52 [some (.ref 40), some (.int 12)] [.ref 79, .int 12, .ref 41] cS165 cM115 _
  refine Wk.aast (n := 20) (ev_is_ok (by decide +kernel)) (by decide +kernel) rfl (by decide +kernel) rfl (by decide) ?_
  show Wk l Ln xs YX6_init d 21 154 53 [some (.ref 40), some (.int 12)] [] cS166 cM115 _
  refine Wk.run (pc' := 56) (ls' := [some (.ref 40), some (.int 13)]) (st' := []) (m' := cM115) [(.iinc 1 1, 0, 0, 1, 0)] (by decide +kernel) rfl ?_
  refine Wk.gto (tgt := 34) (off := -22) (ev_is_ok (by decide +kernel)) (by decide) ?_
  refine Wk.run (pc' := 37) (ls' := [some (.ref 40), some (.int 13)]) (st' := [.int 20, .int 13]) (m' := cM115) [(.iload_n 1, 0, 0, 0, 0), (.bipush 20, 0, 0, 20, 0)] (by decide +kernel) rfl ?_
  refine Wk.ic_ge (tgt := 59) (off := 22) (ev_is_ok (by decide +kernel)) (by decide) (fun z => absurd z (by decide)) (fun _ => ?_)
  refine Wk.run (pc' := 45) (ls' := [some (.ref 40), some (.int 13)]) (st' := [.int 13, .ref 41]) (m' := cM115) [(.aload_n 0, 0, 0, 0, 0), (.getfield 11, 6, 0, 0, 0), (.iload_n 1, 0, 0, 0, 0)] (by decide +kernel) rfl ?_
  refine Wk.new (ci := 8) (q := (RX8, TX8, 6)) rfl (ev_is_ok (i := .new 9) (by decide +kernel)) wc_6_9 wi_8 wn_8 (by decide +kernel) rfl rfl rfl (by decide) (by decide) ?_
  show Wk l Ln xs YX6_init d 20 148 48 [some (.ref 40), some (.int 13)] [.ref 82, .int 13, .ref 41] cS167 cM115 _
  refine Wk.run (pc' := 49) (ls' := [some (.ref 40), some (.int 13)]) (st' := [.ref 82, .ref 82, .int 13, .ref 41]) (m' := cM115) [(.dup, 0, 0, 0, 0)] (by decide +kernel) rfl ?_
  refine Wk.callIN (av := []) (a := 82) (st := [.ref 82, .int 13, .ref 41]) rfl (ev_is_ok (i := .invokespecial 28) (by decide +kernel)) mwX8_init iwX8_init rfl rfl wm_6_28 (KC31_X8_init (d := 1) (by decide)) (by omega) (by decide) (by decide) (by decide +kernel) rfl (Nat.le_of_ble_eq_true rfl) (fun v S2 m2 z => ?_)
  obtain ⟨rfl, rfl, rfl⟩ := z
  show Wk l Ln xs YX6_init d 18 132 52 [some (.ref 40), some (.int 13)] [.ref 82, .int 13, .ref 41] cS171 cM119 _
  refine Wk.aast (n := 20) (ev_is_ok (by decide +kernel)) (by decide +kernel) rfl (by decide +kernel) rfl (by decide) ?_
  show Wk l Ln xs YX6_init d 18 132 53 [some (.ref 40), some (.int 13)] [] cS172 cM119 _
  refine Wk.run (pc' := 56) (ls' := [some (.ref 40), some (.int 14)]) (st' := []) (m' := cM119) [(.iinc 1 1, 0, 0, 1, 0)] (by decide +kernel) rfl ?_
  refine Wk.gto (tgt := 34) (off := -22) (ev_is_ok (by decide +kernel)) (by decide) ?_
  refine Wk.run (pc' := 37) (ls' := [some (.ref 40), some (.int 14)]) (st' := [.int 20, .int 14]) (m' := cM119) [(.iload_n 1, 0, 0, 0, 0), (.bipush 20, 0, 0, 20, 0)] (by decide +kernel) rfl ?_
  refine Wk.ic_ge (tgt := 59) (off := 22) (ev_is_ok (by decide +kernel)) (by decide) (fun z => absurd z (by decide)) (fun _ => ?_)
  refine Wk.run (pc' := 45) (ls' := [some (.ref 40), some (.int 14)]) (st' := [.int 14, .ref 41]) (m' := cM119) [(.aload_n 0, 0, 0, 0, 0), (.getfield 11, 6, 0, 0, 0), (.iload_n 1, 0, 0, 0, 0)] (by decide +kernel) rfl ?_
  refine Wk.new (ci := 8) (q := (RX8, TX8, 6)) rfl (ev_is_ok (i := .new 9) (by decide +kernel)) wc_6_9 wi_8 wn_8 (by decide +kernel) rfl rfl rfl (by decide) (by decide) ?_
  show Wk l Ln xs YX6_init d 17 126 48 [some (.ref 40), some (.int 14)] [.ref 85, .int 14, .ref 41] cS173 cM119 _
  refine Wk.run (pc' := 49) (ls' := [some (.ref 40), some (.int 14)]) (st' := [.ref 85, .ref 85, .int 14, .ref 41]) (m' := cM119) [(.dup, 0, 0, 0, 0)] (by decide +kernel) rfl ?_
  refine Wk.callIN (av := []) (a := 85) (st := [.ref 85, .int 14, .ref 41]) rfl (ev_is_ok (i := .invokespecial 28) (by decide +kernel)) mwX8_init iwX8_init rfl rfl wm_6_28 (KC32_X8_init (d := 1) (by decide)) (by omega) (by decide) (by decide) (by decide +kernel) rfl (Nat.le_of_ble_eq_true rfl) (fun v S2 m2 z => ?_)
  obtain ⟨rfl, rfl, rfl⟩ := z
  show Wk l Ln xs YX6_init d 15 110 52 [some (.ref 40), some (.int 14)] [.ref 85, .int 14, .ref 41] cS177 cM123 _
  refine Wk.aast (n := 20) (ev_is_ok (by decide +kernel)) (by decide +kernel) rfl (by decide +kernel) rfl (by decide) ?_
  show Wk l Ln xs YX6_init d 15 110 53 [some (.ref 40), some (.int 14)] [] cS178 cM123 _
  refine Wk.run (pc' := 56) (ls' := [some (.ref 40), some (.int 15)]) (st' := []) (m' := cM123) [(.iinc 1 1, 0, 0, 1, 0)] (by decide +kernel) rfl ?_
  refine Wk.gto (tgt := 34) (off := -22) (ev_is_ok (by decide +kernel)) (by decide) ?_
  refine Wk.run (pc' := 37) (ls' := [some (.ref 40), some (.int 15)]) (st' := [.int 20, .int 15]) (m' := cM123) [(.iload_n 1, 0, 0, 0, 0), (.bipush 20, 0, 0, 20, 0)] (by decide +kernel) rfl ?_
  refine Wk.ic_ge (tgt := 59) (off := 22) (ev_is_ok (by decide +kernel)) (by decide) (fun z => absurd z (by decide)) (fun _ => ?_)
  refine Wk.run (pc' := 45) (ls' := [some (.ref 40), some (.int 15)]) (st' := [.int 15, .ref 41]) (m' := cM123) [(.aload_n 0, 0, 0, 0, 0), (.getfield 11, 6, 0, 0, 0), (.iload_n 1, 0, 0, 0, 0)] (by decide +kernel) rfl ?_
  refine Wk.new (ci := 8) (q := (RX8, TX8, 6)) rfl (ev_is_ok (i := .new 9) (by decide +kernel)) wc_6_9 wi_8 wn_8 (by decide +kernel) rfl rfl rfl (by decide) (by decide) ?_
  show Wk l Ln xs YX6_init d 14 104 48 [some (.ref 40), some (.int 15)] [.ref 88, .int 15, .ref 41] cS179 cM123 _
  refine Wk.run (pc' := 49) (ls' := [some (.ref 40), some (.int 15)]) (st' := [.ref 88, .ref 88, .int 15, .ref 41]) (m' := cM123) [(.dup, 0, 0, 0, 0)] (by decide +kernel) rfl ?_
  refine Wk.callIN (av := []) (a := 88) (st := [.ref 88, .int 15, .ref 41]) rfl (ev_is_ok (i := .invokespecial 28) (by decide +kernel)) mwX8_init iwX8_init rfl rfl wm_6_28 (KC33_X8_init (d := 1) (by decide)) (by omega) (by decide) (by decide) (by decide +kernel) rfl (Nat.le_of_ble_eq_true rfl) (fun v S2 m2 z => ?_)
  obtain ⟨rfl, rfl, rfl⟩ := z
  show Wk l Ln xs YX6_init d 12 88 52 [some (.ref 40), some (.int 15)] [.ref 88, .int 15, .ref 41] cS183 cM127 _
  refine Wk.aast (n := 20) (ev_is_ok (by decide +kernel)) (by decide +kernel) rfl (by decide +kernel) rfl (by decide) ?_
  show Wk l Ln xs YX6_init d 12 88 53 [some (.ref 40), some (.int 15)] [] cS184 cM127 _
  refine Wk.run (pc' := 56) (ls' := [some (.ref 40), some (.int 16)]) (st' := []) (m' := cM127) [(.iinc 1 1, 0, 0, 1, 0)] (by decide +kernel) rfl ?_
  refine Wk.gto (tgt := 34) (off := -22) (ev_is_ok (by decide +kernel)) (by decide) ?_
  refine Wk.run (pc' := 37) (ls' := [some (.ref 40), some (.int 16)]) (st' := [.int 20, .int 16]) (m' := cM127) [(.iload_n 1, 0, 0, 0, 0), (.bipush 20, 0, 0, 20, 0)] (by decide +kernel) rfl ?_
  refine Wk.ic_ge (tgt := 59) (off := 22) (ev_is_ok (by decide +kernel)) (by decide) (fun z => absurd z (by decide)) (fun _ => ?_)
  refine Wk.run (pc' := 45) (ls' := [some (.ref 40), some (.int 16)]) (st' := [.int 16, .ref 41]) (m' := cM127) [(.aload_n 0, 0, 0, 0, 0), (.getfield 11, 6, 0, 0, 0), (.iload_n 1, 0, 0, 0, 0)] (by decide +kernel) rfl ?_
  refine Wk.new (ci := 8) (q := (RX8, TX8, 6)) rfl (ev_is_ok (i := .new 9) (by decide +kernel)) wc_6_9 wi_8 wn_8 (by decide +kernel) rfl rfl rfl (by decide) (by decide) ?_
  show Wk l Ln xs YX6_init d 11 82 48 [some (.ref 40), some (.int 16)] [.ref 91, .int 16, .ref 41] cS185 cM127 _
  refine Wk.run (pc' := 49) (ls' := [some (.ref 40), some (.int 16)]) (st' := [.ref 91, .ref 91, .int 16, .ref 41]) (m' := cM127) [(.dup, 0, 0, 0, 0)] (by decide +kernel) rfl ?_
  refine Wk.callIN (av := []) (a := 91) (st := [.ref 91, .int 16, .ref 41]) rfl (ev_is_ok (i := .invokespecial 28) (by decide +kernel)) mwX8_init iwX8_init rfl rfl wm_6_28 (KC34_X8_init (d := 1) (by decide)) (by omega) (by decide) (by decide) (by decide +kernel) rfl (Nat.le_of_ble_eq_true rfl) (fun v S2 m2 z => ?_)
  obtain ⟨rfl, rfl, rfl⟩ := z
  show Wk l Ln xs YX6_init d 9 66 52 [some (.ref 40), some (.int 16)] [.ref 91, .int 16, .ref 41] cS189 cM131 _
  refine Wk.aast (n := 20) (ev_is_ok (by decide +kernel)) (by decide +kernel) rfl (by decide +kernel) rfl (by decide) ?_
  show Wk l Ln xs YX6_init d 9 66 53 [some (.ref 40), some (.int 16)] [] cS190 cM131 _
  refine Wk.run (pc' := 56) (ls' := [some (.ref 40), some (.int 17)]) (st' := []) (m' := cM131) [(.iinc 1 1, 0, 0, 1, 0)] (by decide +kernel) rfl ?_
  refine Wk.gto (tgt := 34) (off := -22) (ev_is_ok (by decide +kernel)) (by decide) ?_
  refine Wk.run (pc' := 37) (ls' := [some (.ref 40), some (.int 17)]) (st' := [.int 20, .int 17]) (m' := cM131) [(.iload_n 1, 0, 0, 0, 0), (.bipush 20, 0, 0, 20, 0)] (by decide +kernel) rfl ?_
  refine Wk.ic_ge (tgt := 59) (off := 22) (ev_is_ok (by decide +kernel)) (by decide) (fun z => absurd z (by decide)) (fun _ => ?_)
  refine Wk.run (pc' := 45) (ls' := [some (.ref 40), some (.int 17)]) (st' := [.int 17, .ref 41]) (m' := cM131) [(.aload_n 0, 0, 0, 0, 0), (.getfield 11, 6, 0, 0, 0), (.iload_n 1, 0, 0, 0, 0)] (by decide +kernel) rfl ?_
  refine Wk.new (ci := 8) (q := (RX8, TX8, 6)) rfl (ev_is_ok (i := .new 9) (by decide +kernel)) wc_6_9 wi_8 wn_8 (by decide +kernel) rfl rfl rfl (by decide) (by decide) ?_
  show Wk l Ln xs YX6_init d 8 60 48 [some (.ref 40), some (.int 17)] [.ref 94, .int 17, .ref 41] cS191 cM131 _
  refine Wk.run (pc' := 49) (ls' := [some (.ref 40), some (.int 17)]) (st' := [.ref 94, .ref 94, .int 17, .ref 41]) (m' := cM131) [(.dup, 0, 0, 0, 0)] (by decide +kernel) rfl ?_
  refine Wk.callIN (av := []) (a := 94) (st := [.ref 94, .int 17, .ref 41]) rfl (ev_is_ok (i := .invokespecial 28) (by decide +kernel)) mwX8_init iwX8_init rfl rfl wm_6_28 (KC35_X8_init (d := 1) (by decide)) (by omega) (by decide) (by decide) (by decide +kernel) rfl (Nat.le_of_ble_eq_true rfl) (fun v S2 m2 z => ?_)
  obtain ⟨rfl, rfl, rfl⟩ := z
  show Wk l Ln xs YX6_init d 6 44 52 [some (.ref 40), some (.int 17)] [.ref 94, .int 17, .ref 41] cS195 cM135 _
  refine Wk.aast (n := 20) (ev_is_ok (by decide +kernel)) (by decide +kernel) rfl (by decide +kernel) rfl (by decide) ?_
  show Wk l Ln xs YX6_init d 6 44 53 [some (.ref 40), some (.int 17)] [] cS196 cM135 _
  refine Wk.run (pc' := 56) (ls' := [some (.ref 40), some (.int 18)]) (st' := []) (m' := cM135) [(.iinc 1 1, 0, 0, 1, 0)] (by decide +kernel) rfl ?_
  refine Wk.gto (tgt := 34) (off := -22) (ev_is_ok (by decide +kernel)) (by decide) ?_
  refine Wk.run (pc' := 37) (ls' := [some (.ref 40), some (.int 18)]) (st' := [.int 20, .int 18]) (m' := cM135) [(.iload_n 1, 0, 0, 0, 0), (.bipush 20, 0, 0, 20, 0)] (by decide +kernel) rfl ?_
  refine Wk.ic_ge (tgt := 59) (off := 22) (ev_is_ok (by decide +kernel)) (by decide) (fun z => absurd z (by decide)) (fun _ => ?_)
  refine Wk.run (pc' := 45) (ls' := [some (.ref 40), some (.int 18)]) (st' := [.int 18, .ref 41]) (m' := cM135) [(.aload_n 0, 0, 0, 0, 0), (.getfield 11, 6, 0, 0, 0), (.iload_n 1, 0, 0, 0, 0)] (by decide +kernel) rfl ?_
  refine Wk.new (ci := 8) (q := (RX8, TX8, 6)) rfl (ev_is_ok (i := .new 9) (by decide +kernel)) wc_6_9 wi_8 wn_8 (by decide +kernel) rfl rfl rfl (by decide) (by decide) ?_
  show Wk l Ln xs YX6_init d 5 38 48 [some (.ref 40), some (.int 18)] [.ref 97, .int 18, .ref 41] cS197 cM135 _
  refine Wk.run (pc' := 49) (ls' := [some (.ref 40), some (.int 18)]) (st' := [.ref 97, .ref 97, .int 18, .ref 41]) (m' := cM135) [(.dup, 0, 0, 0, 0)] (by decide +kernel) rfl ?_
  refine Wk.callIN (av := []) (a := 97) (st := [.ref 97, .int 18, .ref 41]) rfl (ev_is_ok (i := .invokespecial 28) (by decide +kernel)) mwX8_init iwX8_init rfl rfl wm_6_28 (KC36_X8_init (d := 1) (by decide)) (by omega) (by decide) (by decide) (by decide +kernel) rfl (Nat.le_of_ble_eq_true rfl) (fun v S2 m2 z => ?_)
  obtain ⟨rfl, rfl, rfl⟩ := z
  show Wk l Ln xs YX6_init d 3 22 52 [some (.ref 40), some (.int 18)] [.ref 97, .int 18, .ref 41] cS201 cM139 _
  refine Wk.aast (n := 20) (ev_is_ok (by decide +kernel)) (by decide +kernel) rfl (by decide +kernel) rfl (by decide) ?_
  show Wk l Ln xs YX6_init d 3 22 53 [some (.ref 40), some (.int 18)] [] cS202 cM139 _
  refine Wk.run (pc' := 56) (ls' := [some (.ref 40), some (.int 19)]) (st' := []) (m' := cM139) [(.iinc 1 1, 0, 0, 1, 0)] (by decide +kernel) rfl ?_
  refine Wk.gto (tgt := 34) (off := -22) (ev_is_ok (by decide +kernel)) (by decide) ?_
  refine Wk.run (pc' := 37) (ls' := [some (.ref 40), some (.int 19)]) (st' := [.int 20, .int 19]) (m' := cM139) [(.iload_n 1, 0, 0, 0, 0), (.bipush 20, 0, 0, 20, 0)] (by decide +kernel) rfl ?_
  refine Wk.ic_ge (tgt := 59) (off := 22) (ev_is_ok (by decide +kernel)) (by decide) (fun z => absurd z (by decide)) (fun _ => ?_)
  refine Wk.run (pc' := 45) (ls' := [some (.ref 40), some (.int 19)]) (st' := [.int 19, .ref 41]) (m' := cM139) [(.aload_n 0, 0, 0, 0, 0), (.getfield 11, 6, 0, 0, 0), (.iload_n 1, 0, 0, 0, 0)] (by decide +kernel) rfl ?_
  refine Wk.new (ci := 8) (q := (RX8, TX8, 6)) rfl (ev_is_ok (i := .new 9) (by decide +kernel)) wc_6_9 wi_8 wn_8 (by decide +kernel) rfl rfl rfl (by decide) (by decide) ?_
  show Wk l Ln xs YX6_init d 2 16 48 [some (.ref 40), some (.int 19)] [.ref 100, .int 19, .ref 41] cS203 cM139 _
  refine Wk.run (pc' := 49) (ls' := [some (.ref 40), some (.int 19)]) (st' := [.ref 100, .ref 100, .int 19, .ref 41]) (m' := cM139) [(.dup, 0, 0, 0, 0)] (by decide +kernel) rfl ?_
  refine Wk.callIN (av := []) (a := 100) (st := [.ref 100, .int 19, .ref 41]) rfl (ev_is_ok (i := .invokespecial 28) (by decide +kernel)) mwX8_init iwX8_init rfl rfl wm_6_28 (KC37_X8_init (d := 1) (by decide)) (by omega) (by decide) (by decide) (by decide +kernel) rfl (Nat.le_of_ble_eq_true rfl) (fun v S2 m2 z => ?_)
  obtain ⟨rfl, rfl, rfl⟩ := z
  show Wk l Ln xs YX6_init d 0 0 52 [some (.ref 40), some (.int 19)] [.ref 100, .int 19, .ref 41] cS207 cM143 _
  refine Wk.aast (n := 20) (ev_is_ok (by decide +kernel)) (by decide +kernel) rfl (by decide +kernel) rfl (by decide) ?_
  show Wk l Ln xs YX6_init d 0 0 53 [some (.ref 40), some (.int 19)] [] cS208 cM143 _
  refine Wk.run (pc' := 56) (ls' := [some (.ref 40), some (.int 20)]) (st' := []) (m' := cM143) [(.iinc 1 1, 0, 0, 1, 0)] (by decide +kernel) rfl ?_
  refine Wk.gto (tgt := 34) (off := -22) (ev_is_ok (by decide +kernel)) (by decide) ?_
  refine Wk.run (pc' := 37) (ls' := [some (.ref 40), some (.int 20)]) (st' := [.int 20, .int 20]) (m' := cM143) [(.iload_n 1, 0, 0, 0, 0), (.bipush 20, 0, 0, 20, 0)] (by decide +kernel) rfl ?_
  refine Wk.ic_ge (tgt := 59) (off := 22) (ev_is_ok (by decide +kernel)) (by decide) (fun _ => ?_) (fun z => absurd (by decide) z)
  exact Wk.vret rfl (ev_is_ok (by decide +kernel)) ⟨rfl, rfl, rfl⟩
set_option maxRecDepth 100000 in
set_option maxHeartbeats 4000000 in
theorem KC38_X8_init {l : Launch} {Ln : Nat} {xs : Nat → Int32} {d : Nat} (hd : 1 ≤ d) : Mk l Ln xs YX8_init d 2 16 [.ref 103] cS210 cM143 (fun v S' m' => v = none ∧ S' = cS214 ∧ m' = cM147) := by
  refine Mk.of (by decide +kernel) rfl (Nat.le_of_ble_eq_true rfl) (Wk.le (ls' := [some (.ref 103)]) ⟨rfl, trivial⟩ ?_)
  refine Wk.run (pc' := 1) (ls' := [some (.ref 103)]) (st' := [.ref 103]) (m' := cM143) [(.aload_n 0, 0, 0, 0, 0)] (by decide +kernel) rfl ?_
  refine Wk.objInit (idx := 3) (ev_is_ok (by decide +kernel)) wo_8_3 wobj_i wobj_c (by omega) (Nat.le_of_ble_eq_true rfl) ?_
  show Wk l Ln xs YX8_init d 2 16 4 [some (.ref 103)] [] cS210 cM143 _
  refine Wk.run (pc' := 7) (ls' := [some (.ref 103)]) (st' := [.int 8, .ref 103]) (m' := cM143) [(.aload_n 0, 0, 0, 0, 0), (.bipush 8, 0, 0, 8, 0)] (by decide +kernel) rfl ?_
  refine Wk.newa (at_ := .int) (N := 8) (code := 100) (ty := .int) rfl (Or.inl ⟨rfl, rfl, rfl⟩) (ev_is_ok (by decide +kernel)) wa_int (by decide) (by decide) (by decide) (by decide +kernel) rfl rfl (by decide) (by decide) ?_
  show Wk l Ln xs YX8_init d 1 8 9 [some (.ref 103)] [.ref 104, .ref 103] cS211 cM143 _
  refine Wk.putF (ci := 8) (k := 0) (idx := 9) (b := 104) (by decide +kernel) (by decide +kernel) rfl rfl (ev_is_ok (by decide +kernel)) (by decide +kernel) rfl (by decide +kernel) rfl (Or.inr ⟨_, rfl⟩) ?_
  show Wk l Ln xs YX8_init d 1 8 12 [some (.ref 103)] [] cS212 cM143 _
  refine Wk.run (pc' := 15) (ls' := [some (.ref 103)]) (st' := [.int 8, .ref 103]) (m' := cM143) [(.aload_n 0, 0, 0, 0, 0), (.bipush 8, 0, 0, 8, 0)] (by decide +kernel) rfl ?_
  refine Wk.newa (at_ := .int) (N := 8) (code := 100) (ty := .int) rfl (Or.inl ⟨rfl, rfl, rfl⟩) (ev_is_ok (by decide +kernel)) wa_int (by decide) (by decide) (by decide) (by decide +kernel) rfl rfl (by decide) (by decide) ?_
  show Wk l Ln xs YX8_init d 0 0 17 [some (.ref 103)] [.ref 105, .ref 103] cS213 cM143 _
  refine Wk.putF (ci := 8) (k := 1) (idx := 15) (b := 105) (by decide +kernel) (by decide +kernel) rfl rfl (ev_is_ok (by decide +kernel)) (by decide +kernel) rfl (by decide +kernel) rfl (Or.inr ⟨_, rfl⟩) ?_
  show Wk l Ln xs YX8_init d 0 0 20 [some (.ref 103)] [] cS214 cM143 _
  refine Wk.run (pc' := 40) (ls' := [some (.ref 103)]) (st' := []) (m' := cM147) [(.aload_n 0, 0, 0, 0, 0), (.iconst 0, 0, 0, 0, 0), (.putfield 18, 8, 2, 0, 0), (.aload_n 0, 0, 0, 0, 0), (.iconst 0, 0, 0, 0, 0), (.putfield 22, 8, 3, 0, 0), (.aload_n 0, 0, 0, 0, 0), (.iconst 0, 0, 0, 0, 0), (.putfield 25, 8, 4, 0, 0), (.aload_n 0, 0, 0, 0, 0), (.iconst 0, 0, 0, 0, 0), (.putfield 28, 8, 5, 0, 0)] (by decide +kernel) rfl ?_
  exact Wk.vret rfl (ev_is_ok (by decide +kernel)) ⟨rfl, rfl, rfl⟩
set_option maxRecDepth 100000 in
set_option maxHeartbeats 4000000 in
theorem KC39_X8_init {l : Launch} {Ln : Nat} {xs : Nat → Int32} {d : Nat} (hd : 1 ≤ d) : Mk l Ln xs YX8_init d 2 16 [.ref 106] cS216 cM147 (fun v S' m' => v = none ∧ S' = cS220 ∧ m' = cM151) := by
  refine Mk.of (by decide +kernel) rfl (Nat.le_of_ble_eq_true rfl) (Wk.le (ls' := [some (.ref 106)]) ⟨rfl, trivial⟩ ?_)
  refine Wk.run (pc' := 1) (ls' := [some (.ref 106)]) (st' := [.ref 106]) (m' := cM147) [(.aload_n 0, 0, 0, 0, 0)] (by decide +kernel) rfl ?_
  refine Wk.objInit (idx := 3) (ev_is_ok (by decide +kernel)) wo_8_3 wobj_i wobj_c (by omega) (Nat.le_of_ble_eq_true rfl) ?_
  show Wk l Ln xs YX8_init d 2 16 4 [some (.ref 106)] [] cS216 cM147 _
  refine Wk.run (pc' := 7) (ls' := [some (.ref 106)]) (st' := [.int 8, .ref 106]) (m' := cM147) [(.aload_n 0, 0, 0, 0, 0), (.bipush 8, 0, 0, 8, 0)] (by decide +kernel) rfl ?_
  refine Wk.newa (at_ := .int) (N := 8) (code := 100) (ty := .int) rfl (Or.inl ⟨rfl, rfl, rfl⟩) (ev_is_ok (by decide +kernel)) wa_int (by decide) (by decide) (by decide) (by decide +kernel) rfl rfl (by decide) (by decide) ?_
  show Wk l Ln xs YX8_init d 1 8 9 [some (.ref 106)] [.ref 107, .ref 106] cS217 cM147 _
  refine Wk.putF (ci := 8) (k := 0) (idx := 9) (b := 107) (by decide +kernel) (by decide +kernel) rfl rfl (ev_is_ok (by decide +kernel)) (by decide +kernel) rfl (by decide +kernel) rfl (Or.inr ⟨_, rfl⟩) ?_
  show Wk l Ln xs YX8_init d 1 8 12 [some (.ref 106)] [] cS218 cM147 _
  refine Wk.run (pc' := 15) (ls' := [some (.ref 106)]) (st' := [.int 8, .ref 106]) (m' := cM147) [(.aload_n 0, 0, 0, 0, 0), (.bipush 8, 0, 0, 8, 0)] (by decide +kernel) rfl ?_
  refine Wk.newa (at_ := .int) (N := 8) (code := 100) (ty := .int) rfl (Or.inl ⟨rfl, rfl, rfl⟩) (ev_is_ok (by decide +kernel)) wa_int (by decide) (by decide) (by decide) (by decide +kernel) rfl rfl (by decide) (by decide) ?_
  show Wk l Ln xs YX8_init d 0 0 17 [some (.ref 106)] [.ref 108, .ref 106] cS219 cM147 _
  refine Wk.putF (ci := 8) (k := 1) (idx := 15) (b := 108) (by decide +kernel) (by decide +kernel) rfl rfl (ev_is_ok (by decide +kernel)) (by decide +kernel) rfl (by decide +kernel) rfl (Or.inr ⟨_, rfl⟩) ?_
  show Wk l Ln xs YX8_init d 0 0 20 [some (.ref 106)] [] cS220 cM147 _
  refine Wk.run (pc' := 40) (ls' := [some (.ref 106)]) (st' := []) (m' := cM151) [(.aload_n 0, 0, 0, 0, 0), (.iconst 0, 0, 0, 0, 0), (.putfield 18, 8, 2, 0, 0), (.aload_n 0, 0, 0, 0, 0), (.iconst 0, 0, 0, 0, 0), (.putfield 22, 8, 3, 0, 0), (.aload_n 0, 0, 0, 0, 0), (.iconst 0, 0, 0, 0, 0), (.putfield 25, 8, 4, 0, 0), (.aload_n 0, 0, 0, 0, 0), (.iconst 0, 0, 0, 0, 0), (.putfield 28, 8, 5, 0, 0)] (by decide +kernel) rfl ?_
  exact Wk.vret rfl (ev_is_ok (by decide +kernel)) ⟨rfl, rfl, rfl⟩
set_option maxRecDepth 100000 in
set_option maxHeartbeats 4000000 in
theorem KC1_X11_init {l : Launch} {Ln : Nat} {xs : Nat → Int32} {d : Nat} (hd : 3 ≤ d) : Mk l Ln xs YX11_init d 111 13195 [.ref 0] cS1 cM0 (fun v S' m' => v = none ∧ S' = cS227 ∧ m' = cM155) := by
  refine Mk.of (by decide +kernel) rfl (Nat.le_of_ble_eq_true rfl) (Wk.le (ls' := [some (.ref 0)]) ⟨rfl, trivial⟩ ?_)
  refine Wk.run (pc' := 1) (ls' := [some (.ref 0)]) (st' := [.ref 0]) (m' := cM0) [(.aload_n 0, 0, 0, 0, 0)] (by decide +kernel) rfl ?_
  refine Wk.objInit (idx := 1) (ev_is_ok (by decide +kernel)) wo_11_1 wobj_i wobj_c (by omega) (Nat.le_of_ble_eq_true rfl) ?_
  show Wk l Ln xs YX11_init d 111 13195 4 [some (.ref 0)] [] cS1 cM0 _
  refine Wk.run (pc' := 5) (ls' := [some (.ref 0)]) (st' := [.ref 0]) (m' := cM0) [(.aload_n 0, 0, 0, 0, 0)] (by decide +kernel) rfl ?_
  refine Wk.new (ci := 1) (q := (RX1, TX1, 15)) rfl (ev_is_ok (i := .new 7) (by decide +kernel)) wc_11_7 wi_1 wn_1 (by decide +kernel) rfl rfl rfl (by decide) (by decide) ?_
  show Wk l Ln xs YX11_init d 110 13180 8 [some (.ref 0)] [.ref 1, .ref 0] cS2 cM0 _
  refine Wk.run (pc' := 9) (ls' := [some (.ref 0)]) (st' := [.ref 1, .ref 1, .ref 0]) (m' := cM0) [(.dup, 0, 0, 0, 0)] (by decide +kernel) rfl ?_
  refine Wk.callIN (av := []) (a := 1) (st := [.ref 1, .ref 0]) rfl (ev_is_ok (i := .invokespecial 9) (by decide +kernel)) mwX1_init iwX1_init rfl rfl wm_11_9 (KC2_X1_init (d := 2) (by decide)) (by omega) (by decide) (by decide) (by decide +kernel) rfl (Nat.le_of_ble_eq_true rfl) (fun v S2 m2 z => ?_)
  obtain ⟨rfl, rfl, rfl⟩ := z
  show Wk l Ln xs YX11_init d 105 11506 12 [some (.ref 0)] [.ref 1, .ref 0] cS12 cM12 _
  refine Wk.putD (ci := 11) (k := 0) (idx := 10) (b := 1) (by decide +kernel) (by decide +kernel) (ev_is_ok (by decide +kernel)) (by decide +kernel) rfl (by decide +kernel) rfl (by decide) (by decide) ?_
  show Wk l Ln xs YX11_init d 105 11506 15 [some (.ref 0)] [] cS12 cM13 _
  refine Wk.run (pc' := 16) (ls' := [some (.ref 0)]) (st' := [.ref 0]) (m' := cM13) [(.aload_n 0, 0, 0, 0, 0)] (by decide +kernel) rfl ?_
  refine Wk.new (ci := 1) (q := (RX1, TX1, 15)) rfl (ev_is_ok (i := .new 7) (by decide +kernel)) wc_11_7 wi_1 wn_1 (by decide +kernel) rfl rfl rfl (by decide) (by decide) ?_
  show Wk l Ln xs YX11_init d 104 11491 19 [some (.ref 0)] [.ref 7, .ref 0] cS13 cM13 _
  refine Wk.run (pc' := 20) (ls' := [some (.ref 0)]) (st' := [.ref 7, .ref 7, .ref 0]) (m' := cM13) [(.dup, 0, 0, 0, 0)] (by decide +kernel) rfl ?_
  refine Wk.callIN (av := []) (a := 7) (st := [.ref 7, .ref 0]) rfl (ev_is_ok (i := .invokespecial 9) (by decide +kernel)) mwX1_init iwX1_init rfl rfl wm_11_9 (KC4_X1_init (d := 2) (by decide)) (by omega) (by decide) (by decide) (by decide +kernel) rfl (Nat.le_of_ble_eq_true rfl) (fun v S2 m2 z => ?_)
  obtain ⟨rfl, rfl, rfl⟩ := z
  show Wk l Ln xs YX11_init d 99 9817 23 [some (.ref 0)] [.ref 7, .ref 0] cS23 cM25 _
  refine Wk.putD (ci := 11) (k := 1) (idx := 16) (b := 7) (by decide +kernel) (by decide +kernel) (ev_is_ok (by decide +kernel)) (by decide +kernel) rfl (by decide +kernel) rfl (by decide) (by decide) ?_
  show Wk l Ln xs YX11_init d 99 9817 26 [some (.ref 0)] [] cS23 cM26 _
  refine Wk.run (pc' := 27) (ls' := [some (.ref 0)]) (st' := [.ref 0]) (m' := cM26) [(.aload_n 0, 0, 0, 0, 0)] (by decide +kernel) rfl ?_
  refine Wk.new (ci := 10) (q := (RX10, TX10, 8)) rfl (ev_is_ok (i := .new 19) (by decide +kernel)) wc_11_19 wi_10 wn_10 (by decide +kernel) rfl rfl rfl (by decide) (by decide) ?_
  show Wk l Ln xs YX11_init d 98 9809 30 [some (.ref 0)] [.ref 13, .ref 0] cS24 cM26 _
  refine Wk.run (pc' := 31) (ls' := [some (.ref 0)]) (st' := [.ref 13, .ref 13, .ref 0]) (m' := cM26) [(.dup, 0, 0, 0, 0)] (by decide +kernel) rfl ?_
  refine Wk.callIN (av := []) (a := 13) (st := [.ref 13, .ref 0]) rfl (ev_is_ok (i := .invokespecial 21) (by decide +kernel)) mwX10_init iwX10_init rfl rfl wm_11_21 (KC6_X10_init (d := 1) (by decide)) (by omega) (by decide) (by decide) (by decide +kernel) rfl (Nat.le_of_ble_eq_true rfl) (fun v S2 m2 z => ?_)
  obtain ⟨rfl, rfl, rfl⟩ := z
  show Wk l Ln xs YX11_init d 97 8209 34 [some (.ref 0)] [.ref 13, .ref 0] cS26 cM33 _
  refine Wk.putF (ci := 11) (k := 2) (idx := 22) (b := 13) (by decide +kernel) (by decide +kernel) rfl rfl (ev_is_ok (by decide +kernel)) (by decide +kernel) rfl (by decide +kernel) rfl (Or.inl ⟨_, rfl⟩) ?_
  show Wk l Ln xs YX11_init d 97 8209 37 [some (.ref 0)] [] cS27 cM33 _
  refine Wk.run (pc' := 38) (ls' := [some (.ref 0)]) (st' := [.ref 0]) (m' := cM33) [(.aload_n 0, 0, 0, 0, 0)] (by decide +kernel) rfl ?_
  refine Wk.new (ci := 9) (q := (RX9, TX9, 5)) rfl (ev_is_ok (i := .new 26) (by decide +kernel)) wc_11_26 wi_9 wn_9 (by decide +kernel) rfl rfl rfl (by decide) (by decide) ?_
  show Wk l Ln xs YX11_init d 96 8204 41 [some (.ref 0)] [.ref 15, .ref 0] cS28 cM33 _
  refine Wk.run (pc' := 46) (ls' := [some (.ref 0)]) (st' := [.ref 13, .ref 15, .ref 15, .ref 0]) (m' := cM33) [(.dup, 0, 0, 0, 0), (.aload_n 0, 0, 0, 0, 0), (.getfield 22, 11, 2, 0, 0)] (by decide +kernel) rfl ?_
  refine Wk.callI (av := [.ref 13]) (a := 15) (st := [.ref 15, .ref 0]) rfl (ev_is_ok (i := .invokespecial 28) (by decide +kernel)) mwX9_init iwX9_init rfl rfl wm_11_28 (KC7_X9_init (d := 1) (by decide)) (by omega) (by decide) (by decide) (by decide +kernel) rfl (Nat.le_of_ble_eq_true rfl) (fun v S2 m2 z => ?_)
  obtain ⟨rfl, rfl, rfl⟩ := z
  show Wk l Ln xs YX11_init d 96 8204 49 [some (.ref 0)] [.ref 15, .ref 0] cS29 cM36 _
  refine Wk.putF (ci := 11) (k := 3) (idx := 31) (b := 15) (by decide +kernel) (by decide +kernel) rfl rfl (ev_is_ok (by decide +kernel)) (by decide +kernel) rfl (by decide +kernel) rfl (Or.inl ⟨_, rfl⟩) ?_
  show Wk l Ln xs YX11_init d 96 8204 52 [some (.ref 0)] [] cS30 cM36 _
  refine Wk.run (pc' := 53) (ls' := [some (.ref 0)]) (st' := [.ref 0]) (m' := cM36) [(.aload_n 0, 0, 0, 0, 0)] (by decide +kernel) rfl ?_
  refine Wk.new (ci := 3) (q := (RX3, TX3, 4)) rfl (ev_is_ok (i := .new 35) (by decide +kernel)) wc_11_35 wi_3 wn_3 (by decide +kernel) rfl rfl rfl (by decide) (by decide) ?_
  show Wk l Ln xs YX11_init d 95 8200 56 [some (.ref 0)] [.ref 16, .ref 0] cS31 cM36 _
  refine Wk.run (pc' := 61) (ls' := [some (.ref 0)]) (st' := [.ref 1, .ref 16, .ref 16, .ref 0]) (m' := cM36) [(.dup, 0, 0, 0, 0), (.aload_n 0, 0, 0, 0, 0), (.getfield 10, 11, 0, 0, 0)] (by decide +kernel) rfl ?_
  refine Wk.callI (av := [.ref 1]) (a := 16) (st := [.ref 16, .ref 0]) rfl (ev_is_ok (i := .invokespecial 37) (by decide +kernel)) mwX3_init iwX3_init rfl rfl wm_11_37 (KC8_X3_init (d := 2) (by decide)) (by omega) (by decide) (by decide) (by decide +kernel) rfl (Nat.le_of_ble_eq_true rfl) (fun v S2 m2 z => ?_)
  obtain ⟨rfl, rfl, rfl⟩ := z
  show Wk l Ln xs YX11_init d 90 7847 64 [some (.ref 0)] [.ref 16, .ref 0] cS41 cM39 _
  refine Wk.putF (ci := 11) (k := 4) (idx := 40) (b := 16) (by decide +kernel) (by decide +kernel) rfl rfl (ev_is_ok (by decide +kernel)) (by decide +kernel) rfl (by decide +kernel) rfl (Or.inl ⟨_, rfl⟩) ?_
  show Wk l Ln xs YX11_init d 90 7847 67 [some (.ref 0)] [] cS42 cM39 _
  refine Wk.run (pc' := 68) (ls' := [some (.ref 0)]) (st' := [.ref 0]) (m' := cM39) [(.aload_n 0, 0, 0, 0, 0)] (by decide +kernel) rfl ?_
  refine Wk.new (ci := 7) (q := (RX7, TX7, 7)) rfl (ev_is_ok (i := .new 44) (by decide +kernel)) wc_11_44 wi_7 wn_7 (by decide +kernel) rfl rfl rfl (by decide) (by decide) ?_
  show Wk l Ln xs YX11_init d 89 7840 71 [some (.ref 0)] [.ref 22, .ref 0] cS43 cM39 _
  refine Wk.run (pc' := 84) (ls' := [some (.ref 0)]) (st' := [.ref 16, .ref 15, .ref 13, .ref 22, .ref 22, .ref 0]) (m' := cM39) [(.dup, 0, 0, 0, 0), (.aload_n 0, 0, 0, 0, 0), (.getfield 22, 11, 2, 0, 0), (.aload_n 0, 0, 0, 0, 0), (.getfield 31, 11, 3, 0, 0), (.aload_n 0, 0, 0, 0, 0), (.getfield 40, 11, 4, 0, 0)] (by decide +kernel) rfl ?_
  refine Wk.callI (av := [.ref 13, .ref 15, .ref 16]) (a := 22) (st := [.ref 22, .ref 0]) rfl (ev_is_ok (i := .invokespecial 46) (by decide +kernel)) mwX7_init iwX7_init rfl rfl wm_11_46 (KC10_X7_init (d := 2) (by decide)) (by omega) (by decide) (by decide) (by decide +kernel) rfl (Nat.le_of_ble_eq_true rfl) (fun v S2 m2 z => ?_)
  obtain ⟨rfl, rfl, rfl⟩ := z
  show Wk l Ln xs YX11_init d 83 6200 87 [some (.ref 0)] [.ref 22, .ref 0] cS58 cM45 _
  refine Wk.putF (ci := 11) (k := 5) (idx := 49) (b := 22) (by decide +kernel) (by decide +kernel) rfl rfl (ev_is_ok (by decide +kernel)) (by decide +kernel) rfl (by decide +kernel) rfl (Or.inl ⟨_, rfl⟩) ?_
  show Wk l Ln xs YX11_init d 83 6200 90 [some (.ref 0)] [] cS59 cM45 _
  refine Wk.run (pc' := 91) (ls' := [some (.ref 0)]) (st' := [.ref 0]) (m' := cM45) [(.aload_n 0, 0, 0, 0, 0)] (by decide +kernel) rfl ?_
  refine Wk.new (ci := 0) (q := (RX0, TX0, 5)) rfl (ev_is_ok (i := .new 53) (by decide +kernel)) wc_11_53 wi_0 wn_0 (by decide +kernel) rfl rfl rfl (by decide) (by decide) ?_
  show Wk l Ln xs YX11_init d 82 6195 94 [some (.ref 0)] [.ref 29, .ref 0] cS60 cM45 _
  refine Wk.run (pc' := 99) (ls' := [some (.ref 0)]) (st' := [.ref 16, .ref 29, .ref 29, .ref 0]) (m' := cM45) [(.dup, 0, 0, 0, 0), (.aload_n 0, 0, 0, 0, 0), (.getfield 40, 11, 4, 0, 0)] (by decide +kernel) rfl ?_
  refine Wk.callI (av := [.ref 16]) (a := 29) (st := [.ref 29, .ref 0]) rfl (ev_is_ok (i := .invokespecial 55) (by decide +kernel)) mwX0_init iwX0_init rfl rfl wm_11_55 (KC13_X0_init (d := 2) (by decide)) (by omega) (by decide) (by decide) (by decide +kernel) rfl (Nat.le_of_ble_eq_true rfl) (fun v S2 m2 z => ?_)
  obtain ⟨rfl, rfl, rfl⟩ := z
  show Wk l Ln xs YX11_init d 79 6173 102 [some (.ref 0)] [.ref 29, .ref 0] cS67 cM52 _
  refine Wk.putF (ci := 11) (k := 6) (idx := 58) (b := 29) (by decide +kernel) (by decide +kernel) rfl rfl (ev_is_ok (by decide +kernel)) (by decide +kernel) rfl (by decide +kernel) rfl (Or.inl ⟨_, rfl⟩) ?_
  show Wk l Ln xs YX11_init d 79 6173 105 [some (.ref 0)] [] cS68 cM52 _
  refine Wk.run (pc' := 106) (ls' := [some (.ref 0)]) (st' := [.ref 0]) (m' := cM52) [(.aload_n 0, 0, 0, 0, 0)] (by decide +kernel) rfl ?_
  refine Wk.new (ci := 4) (q := (RX4, TX4, 10)) rfl (ev_is_ok (i := .new 62) (by decide +kernel)) wc_11_62 wi_4 wn_4 (by decide +kernel) rfl rfl rfl (by decide) (by decide) ?_
  show Wk l Ln xs YX11_init d 78 6163 109 [some (.ref 0)] [.ref 33, .ref 0] cS69 cM52 _
  refine Wk.run (pc' := 114) (ls' := [some (.ref 0)]) (st' := [.ref 16, .ref 33, .ref 33, .ref 0]) (m' := cM52) [(.dup, 0, 0, 0, 0), (.aload_n 0, 0, 0, 0, 0), (.getfield 40, 11, 4, 0, 0)] (by decide +kernel) rfl ?_
  refine Wk.callI (av := [.ref 16]) (a := 33) (st := [.ref 33, .ref 0]) rfl (ev_is_ok (i := .invokespecial 64) (by decide +kernel)) mwX4_init iwX4_init rfl rfl wm_11_64 (KC15_X4_init (d := 2) (by decide)) (by omega) (by decide) (by decide) (by decide +kernel) rfl (Nat.le_of_ble_eq_true rfl) (fun v S2 m2 z => ?_)
  obtain ⟨rfl, rfl, rfl⟩ := z
  show Wk l Ln xs YX11_init d 72 3603 117 [some (.ref 0)] [.ref 33, .ref 0] cS82 cM61 _
  refine Wk.putF (ci := 11) (k := 7) (idx := 65) (b := 33) (by decide +kernel) (by decide +kernel) rfl rfl (ev_is_ok (by decide +kernel)) (by decide +kernel) rfl (by decide +kernel) rfl (Or.inl ⟨_, rfl⟩) ?_
  show Wk l Ln xs YX11_init d 72 3603 120 [some (.ref 0)] [] cS83 cM61 _
  refine Wk.run (pc' := 121) (ls' := [some (.ref 0)]) (st' := [.ref 0]) (m' := cM61) [(.aload_n 0, 0, 0, 0, 0)] (by decide +kernel) rfl ?_
  refine Wk.new (ci := 6) (q := (RX6, TX6, 4)) rfl (ev_is_ok (i := .new 69) (by decide +kernel)) wc_11_69 wi_6 wn_6 (by decide +kernel) rfl rfl rfl (by decide) (by decide) ?_
  show Wk l Ln xs YX11_init d 71 3599 124 [some (.ref 0)] [.ref 40, .ref 0] cS84 cM61 _
  refine Wk.run (pc' := 125) (ls' := [some (.ref 0)]) (st' := [.ref 40, .ref 40, .ref 0]) (m' := cM61) [(.dup, 0, 0, 0, 0)] (by decide +kernel) rfl ?_
  refine Wk.callI (av := []) (a := 40) (st := [.ref 40, .ref 0]) rfl (ev_is_ok (i := .invokespecial 71) (by decide +kernel)) mwX6_init iwX6_init rfl rfl wm_11_71 (KC17_X6_init (d := 2) (by decide)) (by omega) (by decide) (by decide) (by decide +kernel) rfl (Nat.le_of_ble_eq_true rfl) (fun v S2 m2 z => ?_)
  obtain ⟨rfl, rfl, rfl⟩ := z
  show Wk l Ln xs YX11_init d 9 139 128 [some (.ref 0)] [.ref 40, .ref 0] cS208 cM143 _
  refine Wk.putF (ci := 11) (k := 8) (idx := 72) (b := 40) (by decide +kernel) (by decide +kernel) rfl rfl (ev_is_ok (by decide +kernel)) (by decide +kernel) rfl (by decide +kernel) rfl (Or.inl ⟨_, rfl⟩) ?_
  show Wk l Ln xs YX11_init d 9 139 131 [some (.ref 0)] [] cS209 cM143 _
  refine Wk.run (pc' := 132) (ls' := [some (.ref 0)]) (st' := [.ref 0]) (m' := cM143) [(.aload_n 0, 0, 0, 0, 0)] (by decide +kernel) rfl ?_
  refine Wk.new (ci := 8) (q := (RX8, TX8, 6)) rfl (ev_is_ok (i := .new 76) (by decide +kernel)) wc_11_76 wi_8 wn_8 (by decide +kernel) rfl rfl rfl (by decide) (by decide) ?_
  show Wk l Ln xs YX11_init d 8 133 135 [some (.ref 0)] [.ref 103, .ref 0] cS210 cM143 _
  refine Wk.run (pc' := 136) (ls' := [some (.ref 0)]) (st' := [.ref 103, .ref 103, .ref 0]) (m' := cM143) [(.dup, 0, 0, 0, 0)] (by decide +kernel) rfl ?_
  refine Wk.callIN (av := []) (a := 103) (st := [.ref 103, .ref 0]) rfl (ev_is_ok (i := .invokespecial 78) (by decide +kernel)) mwX8_init iwX8_init rfl rfl wm_11_78 (KC38_X8_init (d := 1) (by decide)) (by omega) (by decide) (by decide) (by decide +kernel) rfl (Nat.le_of_ble_eq_true rfl) (fun v S2 m2 z => ?_)
  obtain ⟨rfl, rfl, rfl⟩ := z
  show Wk l Ln xs YX11_init d 6 117 139 [some (.ref 0)] [.ref 103, .ref 0] cS214 cM147 _
  refine Wk.putF (ci := 11) (k := 9) (idx := 79) (b := 103) (by decide +kernel) (by decide +kernel) rfl rfl (ev_is_ok (by decide +kernel)) (by decide +kernel) rfl (by decide +kernel) rfl (Or.inl ⟨_, rfl⟩) ?_
  show Wk l Ln xs YX11_init d 6 117 142 [some (.ref 0)] [] cS215 cM147 _
  refine Wk.run (pc' := 143) (ls' := [some (.ref 0)]) (st' := [.ref 0]) (m' := cM147) [(.aload_n 0, 0, 0, 0, 0)] (by decide +kernel) rfl ?_
  refine Wk.new (ci := 8) (q := (RX8, TX8, 6)) rfl (ev_is_ok (i := .new 76) (by decide +kernel)) wc_11_76 wi_8 wn_8 (by decide +kernel) rfl rfl rfl (by decide) (by decide) ?_
  show Wk l Ln xs YX11_init d 5 111 146 [some (.ref 0)] [.ref 106, .ref 0] cS216 cM147 _
  refine Wk.run (pc' := 147) (ls' := [some (.ref 0)]) (st' := [.ref 106, .ref 106, .ref 0]) (m' := cM147) [(.dup, 0, 0, 0, 0)] (by decide +kernel) rfl ?_
  refine Wk.callIN (av := []) (a := 106) (st := [.ref 106, .ref 0]) rfl (ev_is_ok (i := .invokespecial 78) (by decide +kernel)) mwX8_init iwX8_init rfl rfl wm_11_78 (KC39_X8_init (d := 1) (by decide)) (by omega) (by decide) (by decide) (by decide +kernel) rfl (Nat.le_of_ble_eq_true rfl) (fun v S2 m2 z => ?_)
  obtain ⟨rfl, rfl, rfl⟩ := z
  show Wk l Ln xs YX11_init d 3 95 150 [some (.ref 0)] [.ref 106, .ref 0] cS220 cM151 _
  refine Wk.putF (ci := 11) (k := 10) (idx := 83) (b := 106) (by decide +kernel) (by decide +kernel) rfl rfl (ev_is_ok (by decide +kernel)) (by decide +kernel) rfl (by decide +kernel) rfl (Or.inl ⟨_, rfl⟩) ?_
  show Wk l Ln xs YX11_init d 3 95 153 [some (.ref 0)] [] cS221 cM151 _
  refine Wk.run (pc' := 156) (ls' := [some (.ref 0)]) (st' := [.int 6, .ref 0]) (m' := cM151) [(.aload_n 0, 0, 0, 0, 0), (.bipush 6, 0, 0, 6, 0)] (by decide +kernel) rfl ?_
  refine Wk.newa (at_ := .int) (N := 6) (code := 100) (ty := .int) rfl (Or.inl ⟨rfl, rfl, rfl⟩) (ev_is_ok (by decide +kernel)) wa_int (by decide) (by decide) (by decide) (by decide +kernel) rfl rfl (by decide) (by decide) ?_
  show Wk l Ln xs YX11_init d 2 89 158 [some (.ref 0)] [.ref 109, .ref 0] cS222 cM151 _
  refine Wk.putF (ci := 11) (k := 11) (idx := 86) (b := 109) (by decide +kernel) (by decide +kernel) rfl rfl (ev_is_ok (by decide +kernel)) (by decide +kernel) rfl (by decide +kernel) rfl (Or.inr ⟨_, rfl⟩) ?_
  show Wk l Ln xs YX11_init d 2 89 161 [some (.ref 0)] [] cS223 cM151 _
  refine Wk.run (pc' := 164) (ls' := [some (.ref 0)]) (st' := [.int 28, .ref 0]) (m' := cM151) [(.aload_n 0, 0, 0, 0, 0), (.bipush 28, 0, 0, 28, 0)] (by decide +kernel) rfl ?_
  refine Wk.newa (at_ := .int) (N := 28) (code := 100) (ty := .int) rfl (Or.inl ⟨rfl, rfl, rfl⟩) (ev_is_ok (by decide +kernel)) wa_int (by decide) (by decide) (by decide) (by decide +kernel) rfl rfl (by decide) (by decide) ?_
  show Wk l Ln xs YX11_init d 1 61 166 [some (.ref 0)] [.ref 110, .ref 0] cS224 cM151 _
  refine Wk.putF (ci := 11) (k := 12) (idx := 90) (b := 110) (by decide +kernel) (by decide +kernel) rfl rfl (ev_is_ok (by decide +kernel)) (by decide +kernel) rfl (by decide +kernel) rfl (Or.inr ⟨_, rfl⟩) ?_
  show Wk l Ln xs YX11_init d 1 61 169 [some (.ref 0)] [] cS225 cM151 _
  refine Wk.run (pc' := 172) (ls' := [some (.ref 0)]) (st' := [.int 61, .ref 0]) (m' := cM151) [(.aload_n 0, 0, 0, 0, 0), (.bipush 61, 0, 0, 61, 0)] (by decide +kernel) rfl ?_
  refine Wk.newa (at_ := .long) (N := 61) (code := 102) (ty := .long) rfl (Or.inr (Or.inr (Or.inl ⟨rfl, rfl, rfl⟩))) (ev_is_ok (by decide +kernel)) wa_long (by decide) (by decide) (by decide) (by decide +kernel) rfl rfl (by decide) (by decide) ?_
  show Wk l Ln xs YX11_init d 0 0 174 [some (.ref 0)] [.ref 111, .ref 0] cS226 cM151 _
  refine Wk.putF (ci := 11) (k := 13) (idx := 93) (b := 111) (by decide +kernel) (by decide +kernel) rfl rfl (ev_is_ok (by decide +kernel)) (by decide +kernel) rfl (by decide +kernel) rfl (Or.inr ⟨_, rfl⟩) ?_
  show Wk l Ln xs YX11_init d 0 0 177 [some (.ref 0)] [] cS227 cM151 _
  refine Wk.run (pc' := 197) (ls' := [some (.ref 0)]) (st' := []) (m' := cM155) [(.aload_n 0, 0, 0, 0, 0), (.iconst 0, 0, 0, 0, 0), (.putfield 97, 11, 14, 0, 0), (.aload_n 0, 0, 0, 0, 0), (.iconst 0, 0, 0, 0, 0), (.putfield 101, 11, 15, 0, 0), (.aload_n 0, 0, 0, 0, 0), (.iconst (-1), 0, 0, (-1), 0), (.putfield 104, 11, 16, 0, 0), (.aload_n 0, 0, 0, 0, 0), (.lconst 1, 0, 0, 0, 1), (.putfield 107, 11, 17, 0, 0)] (by decide +kernel) rfl ?_
  exact Wk.vret rfl (ev_is_ok (by decide +kernel)) ⟨rfl, rfl, rfl⟩
