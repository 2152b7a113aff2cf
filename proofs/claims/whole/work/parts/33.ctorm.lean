set_option maxRecDepth 100000 in
set_option maxHeartbeats 4000000 in
theorem KC40_X12_init {l : Launch} {Ln : Nat} {xs : Nat → Int32} {d : Nat} (hd : 1 ≤ d) : Mk l Ln xs YX12_init d 68 16640 [.ref 112] cS228 cM155 (fun v S' m' => v = none ∧ S' = cS364 ∧ m' = cM355) := by
  refine Mk.of (by decide +kernel) rfl (Nat.le_of_ble_eq_true rfl) (Wk.le (ls' := [some (.ref 112)]) ⟨rfl, trivial⟩ ?_)
  refine Wk.run (pc' := 1) (ls' := [some (.ref 112)]) (st' := [.ref 112]) (m' := cM155) [(.aload_n 0, 0, 0, 0, 0)] (by decide +kernel) rfl ?_
  refine Wk.objInit (idx := 1) (ev_is_ok (by decide +kernel)) wo_12_1 wobj_i wobj_c (by omega) (Nat.le_of_ble_eq_true rfl) ?_
  show Wk l Ln xs YX12_init d 68 16640 4 [some (.ref 112)] [] cS228 cM155 _
  refine Wk.run (pc' := 8) (ls' := [some (.ref 112)]) (st' := [.int 1600, .ref 112]) (m' := cM155) [(.aload_n 0, 0, 0, 0, 0), (.sipush 1600, 0, 0, 1600, 0)] (by decide +kernel) rfl ?_
  refine Wk.newa (at_ := .int) (N := 1600) (code := 100) (ty := .int) rfl (Or.inl ⟨rfl, rfl, rfl⟩) (ev_is_ok (by decide +kernel)) wa_int (by decide) (by decide) (by decide) (by decide +kernel) rfl rfl (by decide) (by decide) ?_
  show Wk l Ln xs YX12_init d 67 15040 10 [some (.ref 112)] [.ref 113, .ref 112] cS229 cM155 _
  refine Wk.putF (ci := 12) (k := 0) (idx := 7) (b := 113) (by decide +kernel) (by decide +kernel) rfl rfl (ev_is_ok (by decide +kernel)) (by decide +kernel) rfl (by decide +kernel) rfl (Or.inr ⟨_, rfl⟩) ?_
  show Wk l Ln xs YX12_init d 67 15040 13 [some (.ref 112)] [] cS230 cM155 _
  refine Wk.run (pc' := 21) (ls' := [some (.ref 112)]) (st' := [.int 6, .ref 112]) (m' := cM156) [(.aload_n 0, 0, 0, 0, 0), (.iconst (-1), 0, 0, (-1), 0), (.putfield 13, 12, 8, 0, 0), (.aload_n 0, 0, 0, 0, 0), (.bipush 6, 0, 0, 6, 0)] (by decide +kernel) rfl ?_
  refine Wk.newa (at_ := .int) (N := 6) (code := 100) (ty := .int) rfl (Or.inl ⟨rfl, rfl, rfl⟩) (ev_is_ok (by decide +kernel)) wa_int (by decide) (by decide) (by decide) (by decide +kernel) rfl rfl (by decide) (by decide) ?_
  show Wk l Ln xs YX12_init d 66 15034 23 [some (.ref 112)] [.ref 114, .ref 112] cS231 cM156 _
  refine Wk.putF (ci := 12) (k := 9) (idx := 17) (b := 114) (by decide +kernel) (by decide +kernel) rfl rfl (ev_is_ok (by decide +kernel)) (by decide +kernel) rfl (by decide +kernel) rfl (Or.inr ⟨_, rfl⟩) ?_
  show Wk l Ln xs YX12_init d 66 15034 26 [some (.ref 112)] [] cS232 cM156 _
  refine Wk.run (pc' := 28) (ls' := [some (.ref 112)]) (st' := [.int 4, .ref 112]) (m' := cM156) [(.aload_n 0, 0, 0, 0, 0), (.iconst 4, 0, 0, 4, 0)] (by decide +kernel) rfl ?_
  refine Wk.newa (at_ := .char) (N := 4) (code := 101) (ty := .char) rfl (Or.inr (Or.inl ⟨rfl, rfl, rfl⟩)) (ev_is_ok (by decide +kernel)) wa_char (by decide) (by decide) (by decide) (by decide +kernel) rfl rfl (by decide) (by decide) ?_
  show Wk l Ln xs YX12_init d 65 15030 30 [some (.ref 112)] [.ref 115, .ref 112] cS233 cM156 _
  refine Wk.run (pc' := 34) (ls' := [some (.ref 112)]) (st' := [.int 99, .int 0, .ref 115, .ref 115, .ref 112]) (m' := cM156) [(.dup, 0, 0, 0, 0), (.iconst 0, 0, 0, 0, 0), (.bipush 99, 0, 0, 99, 0)] (by decide +kernel) rfl ?_
  refine Wk.cast (n := 4) (ev_is_ok (by decide +kernel)) (by decide +kernel) rfl (by decide) ?_
  show Wk l Ln xs YX12_init d 65 15030 35 [some (.ref 112)] [.ref 115, .ref 112] cS233 cM157 _
  refine Wk.run (pc' := 39) (ls' := [some (.ref 112)]) (st' := [.int 97, .int 1, .ref 115, .ref 115, .ref 112]) (m' := cM157) [(.dup, 0, 0, 0, 0), (.iconst 1, 0, 0, 1, 0), (.bipush 97, 0, 0, 97, 0)] (by decide +kernel) rfl ?_
  refine Wk.cast (n := 4) (ev_is_ok (by decide +kernel)) (by decide +kernel) rfl (by decide) ?_
  show Wk l Ln xs YX12_init d 65 15030 40 [some (.ref 112)] [.ref 115, .ref 112] cS233 cM158 _
  refine Wk.run (pc' := 44) (ls' := [some (.ref 112)]) (st' := [.int 108, .int 2, .ref 115, .ref 115, .ref 112]) (m' := cM158) [(.dup, 0, 0, 0, 0), (.iconst 2, 0, 0, 2, 0), (.bipush 108, 0, 0, 108, 0)] (by decide +kernel) rfl ?_
  refine Wk.cast (n := 4) (ev_is_ok (by decide +kernel)) (by decide +kernel) rfl (by decide) ?_
  show Wk l Ln xs YX12_init d 65 15030 45 [some (.ref 112)] [.ref 115, .ref 112] cS233 cM159 _
  refine Wk.run (pc' := 49) (ls' := [some (.ref 112)]) (st' := [.int 108, .int 3, .ref 115, .ref 115, .ref 112]) (m' := cM159) [(.dup, 0, 0, 0, 0), (.iconst 3, 0, 0, 3, 0), (.bipush 108, 0, 0, 108, 0)] (by decide +kernel) rfl ?_
  refine Wk.cast (n := 4) (ev_is_ok (by decide +kernel)) (by decide +kernel) rfl (by decide) ?_
  show Wk l Ln xs YX12_init d 65 15030 50 [some (.ref 112)] [.ref 115, .ref 112] cS233 cM160 _
  refine Wk.putF (ci := 12) (k := 10) (idx := 20) (b := 115) (by decide +kernel) (by decide +kernel) rfl rfl (ev_is_ok (by decide +kernel)) (by decide +kernel) rfl (by decide +kernel) rfl (Or.inr ⟨_, rfl⟩) ?_
  show Wk l Ln xs YX12_init d 65 15030 53 [some (.ref 112)] [] cS234 cM160 _
  refine Wk.run (pc' := 55) (ls' := [some (.ref 112)]) (st' := [.int 5, .ref 112]) (m' := cM160) [(.aload_n 0, 0, 0, 0, 0), (.iconst 5, 0, 0, 5, 0)] (by decide +kernel) rfl ?_
  refine Wk.newa (at_ := .char) (N := 5) (code := 101) (ty := .char) rfl (Or.inr (Or.inl ⟨rfl, rfl, rfl⟩)) (ev_is_ok (by decide +kernel)) wa_char (by decide) (by decide) (by decide) (by decide +kernel) rfl rfl (by decide) (by decide) ?_
  show Wk l Ln xs YX12_init d 64 15025 57 [some (.ref 112)] [.ref 116, .ref 112] cS235 cM160 _
  refine Wk.run (pc' := 61) (ls' := [some (.ref 112)]) (st' := [.int 116, .int 0, .ref 116, .ref 116, .ref 112]) (m' := cM160) [(.dup, 0, 0, 0, 0), (.iconst 0, 0, 0, 0, 0), (.bipush 116, 0, 0, 116, 0)] (by decide +kernel) rfl ?_
  refine Wk.cast (n := 5) (ev_is_ok (by decide +kernel)) (by decide +kernel) rfl (by decide) ?_
  show Wk l Ln xs YX12_init d 64 15025 62 [some (.ref 112)] [.ref 116, .ref 112] cS235 cM161 _
  refine Wk.run (pc' := 66) (ls' := [some (.ref 112)]) (st' := [.int 111, .int 1, .ref 116, .ref 116, .ref 112]) (m' := cM161) [(.dup, 0, 0, 0, 0), (.iconst 1, 0, 0, 1, 0), (.bipush 111, 0, 0, 111, 0)] (by decide +kernel) rfl ?_
  refine Wk.cast (n := 5) (ev_is_ok (by decide +kernel)) (by decide +kernel) rfl (by decide) ?_
  show Wk l Ln xs YX12_init d 64 15025 67 [some (.ref 112)] [.ref 116, .ref 112] cS235 cM162 _
  refine Wk.run (pc' := 71) (ls' := [some (.ref 112)]) (st' := [.int 119, .int 2, .ref 116, .ref 116, .ref 112]) (m' := cM162) [(.dup, 0, 0, 0, 0), (.iconst 2, 0, 0, 2, 0), (.bipush 119, 0, 0, 119, 0)] (by decide +kernel) rfl ?_
  refine Wk.cast (n := 5) (ev_is_ok (by decide +kernel)) (by decide +kernel) rfl (by decide) ?_
  show Wk l Ln xs YX12_init d 64 15025 72 [some (.ref 112)] [.ref 116, .ref 112] cS235 cM163 _
  refine Wk.run (pc' := 76) (ls' := [some (.ref 112)]) (st' := [.int 101, .int 3, .ref 116, .ref 116, .ref 112]) (m' := cM163) [(.dup, 0, 0, 0, 0), (.iconst 3, 0, 0, 3, 0), (.bipush 101, 0, 0, 101, 0)] (by decide +kernel) rfl ?_
  refine Wk.cast (n := 5) (ev_is_ok (by decide +kernel)) (by decide +kernel) rfl (by decide) ?_
  show Wk l Ln xs YX12_init d 64 15025 77 [some (.ref 112)] [.ref 116, .ref 112] cS235 cM164 _
  refine Wk.run (pc' := 81) (ls' := [some (.ref 112)]) (st' := [.int 114, .int 4, .ref 116, .ref 116, .ref 112]) (m' := cM164) [(.dup, 0, 0, 0, 0), (.iconst 4, 0, 0, 4, 0), (.bipush 114, 0, 0, 114, 0)] (by decide +kernel) rfl ?_
  refine Wk.cast (n := 5) (ev_is_ok (by decide +kernel)) (by decide +kernel) rfl (by decide) ?_
  show Wk l Ln xs YX12_init d 64 15025 82 [some (.ref 112)] [.ref 116, .ref 112] cS235 cM165 _
  refine Wk.putF (ci := 12) (k := 11) (idx := 24) (b := 116) (by decide +kernel) (by decide +kernel) rfl rfl (ev_is_ok (by decide +kernel)) (by decide +kernel) rfl (by decide +kernel) rfl (Or.inr ⟨_, rfl⟩) ?_
  show Wk l Ln xs YX12_init d 64 15025 85 [some (.ref 112)] [] cS236 cM165 _
  refine Wk.run (pc' := 87) (ls' := [some (.ref 112)]) (st' := [.int 4, .ref 112]) (m' := cM165) [(.aload_n 0, 0, 0, 0, 0), (.iconst 4, 0, 0, 4, 0)] (by decide +kernel) rfl ?_
  refine Wk.newa (at_ := .char) (N := 4) (code := 101) (ty := .char) rfl (Or.inr (Or.inl ⟨rfl, rfl, rfl⟩)) (ev_is_ok (by decide +kernel)) wa_char (by decide) (by decide) (by decide) (by decide +kernel) rfl rfl (by decide) (by decide) ?_
  show Wk l Ln xs YX12_init d 63 15021 89 [some (.ref 112)] [.ref 117, .ref 112] cS237 cM165 _
  refine Wk.run (pc' := 93) (ls' := [some (.ref 112)]) (st' := [.int 109, .int 0, .ref 117, .ref 117, .ref 112]) (m' := cM165) [(.dup, 0, 0, 0, 0), (.iconst 0, 0, 0, 0, 0), (.bipush 109, 0, 0, 109, 0)] (by decide +kernel) rfl ?_
  refine Wk.cast (n := 4) (ev_is_ok (by decide +kernel)) (by decide +kernel) rfl (by decide) ?_
  show Wk l Ln xs YX12_init d 63 15021 94 [some (.ref 112)] [.ref 117, .ref 112] cS237 cM166 _
  refine Wk.run (pc' := 98) (ls' := [some (.ref 112)]) (st' := [.int 111, .int 1, .ref 117, .ref 117, .ref 112]) (m' := cM166) [(.dup, 0, 0, 0, 0), (.iconst 1, 0, 0, 1, 0), (.bipush 111, 0, 0, 111, 0)] (by decide +kernel) rfl ?_
  refine Wk.cast (n := 4) (ev_is_ok (by decide +kernel)) (by decide +kernel) rfl (by decide) ?_
  show Wk l Ln xs YX12_init d 63 15021 99 [some (.ref 112)] [.ref 117, .ref 112] cS237 cM167 _
  refine Wk.run (pc' := 103) (ls' := [some (.ref 112)]) (st' := [.int 111, .int 2, .ref 117, .ref 117, .ref 112]) (m' := cM167) [(.dup, 0, 0, 0, 0), (.iconst 2, 0, 0, 2, 0), (.bipush 111, 0, 0, 111, 0)] (by decide +kernel) rfl ?_
  refine Wk.cast (n := 4) (ev_is_ok (by decide +kernel)) (by decide +kernel) rfl (by decide) ?_
  show Wk l Ln xs YX12_init d 63 15021 104 [some (.ref 112)] [.ref 117, .ref 112] cS237 cM168 _
  refine Wk.run (pc' := 108) (ls' := [some (.ref 112)]) (st' := [.int 100, .int 3, .ref 117, .ref 117, .ref 112]) (m' := cM168) [(.dup, 0, 0, 0, 0), (.iconst 3, 0, 0, 3, 0), (.bipush 100, 0, 0, 100, 0)] (by decide +kernel) rfl ?_
  refine Wk.cast (n := 4) (ev_is_ok (by decide +kernel)) (by decide +kernel) rfl (by decide) ?_
  show Wk l Ln xs YX12_init d 63 15021 109 [some (.ref 112)] [.ref 117, .ref 112] cS237 cM169 _
  refine Wk.putF (ci := 12) (k := 12) (idx := 27) (b := 117) (by decide +kernel) (by decide +kernel) rfl rfl (ev_is_ok (by decide +kernel)) (by decide +kernel) rfl (by decide +kernel) rfl (Or.inr ⟨_, rfl⟩) ?_
  show Wk l Ln xs YX12_init d 63 15021 112 [some (.ref 112)] [] cS238 cM169 _
  refine Wk.run (pc' := 114) (ls' := [some (.ref 112)]) (st' := [.int 5, .ref 112]) (m' := cM169) [(.aload_n 0, 0, 0, 0, 0), (.iconst 5, 0, 0, 5, 0)] (by decide +kernel) rfl ?_
  refine Wk.newa (at_ := .char) (N := 5) (code := 101) (ty := .char) rfl (Or.inr (Or.inl ⟨rfl, rfl, rfl⟩)) (ev_is_ok (by decide +kernel)) wa_char (by decide) (by decide) (by decide) (by decide +kernel) rfl rfl (by decide) (by decide) ?_
  show Wk l Ln xs YX12_init d 62 15016 116 [some (.ref 112)] [.ref 118, .ref 112] cS239 cM169 _
  refine Wk.run (pc' := 120) (ls' := [some (.ref 112)]) (st' := [.int 99, .int 0, .ref 118, .ref 118, .ref 112]) (m' := cM169) [(.dup, 0, 0, 0, 0), (.iconst 0, 0, 0, 0, 0), (.bipush 99, 0, 0, 99, 0)] (by decide +kernel) rfl ?_
  refine Wk.cast (n := 5) (ev_is_ok (by decide +kernel)) (by decide +kernel) rfl (by decide) ?_
  show Wk l Ln xs YX12_init d 62 15016 121 [some (.ref 112)] [.ref 118, .ref 112] cS239 cM170 _
  refine Wk.run (pc' := 125) (ls' := [some (.ref 112)]) (st' := [.int 104, .int 1, .ref 118, .ref 118, .ref 112]) (m' := cM170) [(.dup, 0, 0, 0, 0), (.iconst 1, 0, 0, 1, 0), (.bipush 104, 0, 0, 104, 0)] (by decide +kernel) rfl ?_
  refine Wk.cast (n := 5) (ev_is_ok (by decide +kernel)) (by decide +kernel) rfl (by decide) ?_
  show Wk l Ln xs YX12_init d 62 15016 126 [some (.ref 112)] [.ref 118, .ref 112] cS239 cM171 _
  refine Wk.run (pc' := 130) (ls' := [some (.ref 112)]) (st' := [.int 101, .int 2, .ref 118, .ref 118, .ref 112]) (m' := cM171) [(.dup, 0, 0, 0, 0), (.iconst 2, 0, 0, 2, 0), (.bipush 101, 0, 0, 101, 0)] (by decide +kernel) rfl ?_
  refine Wk.cast (n := 5) (ev_is_ok (by decide +kernel)) (by decide +kernel) rfl (by decide) ?_
  show Wk l Ln xs YX12_init d 62 15016 131 [some (.ref 112)] [.ref 118, .ref 112] cS239 cM172 _
  refine Wk.run (pc' := 135) (ls' := [some (.ref 112)]) (st' := [.int 101, .int 3, .ref 118, .ref 118, .ref 112]) (m' := cM172) [(.dup, 0, 0, 0, 0), (.iconst 3, 0, 0, 3, 0), (.bipush 101, 0, 0, 101, 0)] (by decide +kernel) rfl ?_
  refine Wk.cast (n := 5) (ev_is_ok (by decide +kernel)) (by decide +kernel) rfl (by decide) ?_
  show Wk l Ln xs YX12_init d 62 15016 136 [some (.ref 112)] [.ref 118, .ref 112] cS239 cM173 _
  refine Wk.run (pc' := 140) (ls' := [some (.ref 112)]) (st' := [.int 114, .int 4, .ref 118, .ref 118, .ref 112]) (m' := cM173) [(.dup, 0, 0, 0, 0), (.iconst 4, 0, 0, 4, 0), (.bipush 114, 0, 0, 114, 0)] (by decide +kernel) rfl ?_
  refine Wk.cast (n := 5) (ev_is_ok (by decide +kernel)) (by decide +kernel) rfl (by decide) ?_
  show Wk l Ln xs YX12_init d 62 15016 141 [some (.ref 112)] [.ref 118, .ref 112] cS239 cM174 _
  refine Wk.putF (ci := 12) (k := 13) (idx := 30) (b := 118) (by decide +kernel) (by decide +kernel) rfl rfl (ev_is_ok (by decide +kernel)) (by decide +kernel) rfl (by decide +kernel) rfl (Or.inr ⟨_, rfl⟩) ?_
  show Wk l Ln xs YX12_init d 62 15016 144 [some (.ref 112)] [] cS240 cM174 _
  refine Wk.run (pc' := 146) (ls' := [some (.ref 112)]) (st' := [.int 3, .ref 112]) (m' := cM174) [(.aload_n 0, 0, 0, 0, 0), (.iconst 3, 0, 0, 3, 0)] (by decide +kernel) rfl ?_
  refine Wk.newa (at_ := .char) (N := 3) (code := 101) (ty := .char) rfl (Or.inr (Or.inl ⟨rfl, rfl, rfl⟩)) (ev_is_ok (by decide +kernel)) wa_char (by decide) (by decide) (by decide) (by decide +kernel) rfl rfl (by decide) (by decide) ?_
  show Wk l Ln xs YX12_init d 61 15013 148 [some (.ref 112)] [.ref 119, .ref 112] cS241 cM174 _
  refine Wk.run (pc' := 152) (ls' := [some (.ref 112)]) (st' := [.int 121, .int 0, .ref 119, .ref 119, .ref 112]) (m' := cM174) [(.dup, 0, 0, 0, 0), (.iconst 0, 0, 0, 0, 0), (.bipush 121, 0, 0, 121, 0)] (by decide +kernel) rfl ?_
  refine Wk.cast (n := 3) (ev_is_ok (by decide +kernel)) (by decide +kernel) rfl (by decide) ?_
  show Wk l Ln xs YX12_init d 61 15013 153 [some (.ref 112)] [.ref 119, .ref 112] cS241 cM175 _
  refine Wk.run (pc' := 157) (ls' := [some (.ref 112)]) (st' := [.int 101, .int 1, .ref 119, .ref 119, .ref 112]) (m' := cM175) [(.dup, 0, 0, 0, 0), (.iconst 1, 0, 0, 1, 0), (.bipush 101, 0, 0, 101, 0)] (by decide +kernel) rfl ?_
  refine Wk.cast (n := 3) (ev_is_ok (by decide +kernel)) (by decide +kernel) rfl (by decide) ?_
  show Wk l Ln xs YX12_init d 61 15013 158 [some (.ref 112)] [.ref 119, .ref 112] cS241 cM176 _
  refine Wk.run (pc' := 162) (ls' := [some (.ref 112)]) (st' := [.int 115, .int 2, .ref 119, .ref 119, .ref 112]) (m' := cM176) [(.dup, 0, 0, 0, 0), (.iconst 2, 0, 0, 2, 0), (.bipush 115, 0, 0, 115, 0)] (by decide +kernel) rfl ?_
  refine Wk.cast (n := 3) (ev_is_ok (by decide +kernel)) (by decide +kernel) rfl (by decide) ?_
  show Wk l Ln xs YX12_init d 61 15013 163 [some (.ref 112)] [.ref 119, .ref 112] cS241 cM177 _
  refine Wk.putF (ci := 12) (k := 14) (idx := 33) (b := 119) (by decide +kernel) (by decide +kernel) rfl rfl (ev_is_ok (by decide +kernel)) (by decide +kernel) rfl (by decide +kernel) rfl (Or.inr ⟨_, rfl⟩) ?_
  show Wk l Ln xs YX12_init d 61 15013 166 [some (.ref 112)] [] cS242 cM177 _
  refine Wk.run (pc' := 168) (ls' := [some (.ref 112)]) (st' := [.int 4, .ref 112]) (m' := cM177) [(.aload_n 0, 0, 0, 0, 0), (.iconst 4, 0, 0, 4, 0)] (by decide +kernel) rfl ?_
  refine Wk.newa (at_ := .char) (N := 4) (code := 101) (ty := .char) rfl (Or.inr (Or.inl ⟨rfl, rfl, rfl⟩)) (ev_is_ok (by decide +kernel)) wa_char (by decide) (by decide) (by decide) (by decide +kernel) rfl rfl (by decide) (by decide) ?_
  show Wk l Ln xs YX12_init d 60 15009 170 [some (.ref 112)] [.ref 120, .ref 112] cS243 cM177 _
  refine Wk.run (pc' := 174) (ls' := [some (.ref 112)]) (st' := [.int 115, .int 0, .ref 120, .ref 120, .ref 112]) (m' := cM177) [(.dup, 0, 0, 0, 0), (.iconst 0, 0, 0, 0, 0), (.bipush 115, 0, 0, 115, 0)] (by decide +kernel) rfl ?_
  refine Wk.cast (n := 4) (ev_is_ok (by decide +kernel)) (by decide +kernel) rfl (by decide) ?_
  show Wk l Ln xs YX12_init d 60 15009 175 [some (.ref 112)] [.ref 120, .ref 112] cS243 cM178 _
  refine Wk.run (pc' := 179) (ls' := [some (.ref 112)]) (st' := [.int 97, .int 1, .ref 120, .ref 120, .ref 112]) (m' := cM178) [(.dup, 0, 0, 0, 0), (.iconst 1, 0, 0, 1, 0), (.bipush 97, 0, 0, 97, 0)] (by decide +kernel) rfl ?_
  refine Wk.cast (n := 4) (ev_is_ok (by decide +kernel)) (by decide +kernel) rfl (by decide) ?_
  show Wk l Ln xs YX12_init d 60 15009 180 [some (.ref 112)] [.ref 120, .ref 112] cS243 cM179 _
  refine Wk.run (pc' := 184) (ls' := [some (.ref 112)]) (st' := [.int 121, .int 2, .ref 120, .ref 120, .ref 112]) (m' := cM179) [(.dup, 0, 0, 0, 0), (.iconst 2, 0, 0, 2, 0), (.bipush 121, 0, 0, 121, 0)] (by decide +kernel) rfl ?_
  refine Wk.cast (n := 4) (ev_is_ok (by decide +kernel)) (by decide +kernel) rfl (by decide) ?_
  show Wk l Ln xs YX12_init d 60 15009 185 [some (.ref 112)] [.ref 120, .ref 112] cS243 cM180 _
  refine Wk.run (pc' := 189) (ls' := [some (.ref 112)]) (st' := [.int 115, .int 3, .ref 120, .ref 120, .ref 112]) (m' := cM180) [(.dup, 0, 0, 0, 0), (.iconst 3, 0, 0, 3, 0), (.bipush 115, 0, 0, 115, 0)] (by decide +kernel) rfl ?_
  refine Wk.cast (n := 4) (ev_is_ok (by decide +kernel)) (by decide +kernel) rfl (by decide) ?_
  show Wk l Ln xs YX12_init d 60 15009 190 [some (.ref 112)] [.ref 120, .ref 112] cS243 cM181 _
  refine Wk.putF (ci := 12) (k := 15) (idx := 36) (b := 120) (by decide +kernel) (by decide +kernel) rfl rfl (ev_is_ok (by decide +kernel)) (by decide +kernel) rfl (by decide +kernel) rfl (Or.inr ⟨_, rfl⟩) ?_
  show Wk l Ln xs YX12_init d 60 15009 193 [some (.ref 112)] [] cS244 cM181 _
  refine Wk.run (pc' := 195) (ls' := [some (.ref 112)]) (st' := [.int 5, .ref 112]) (m' := cM181) [(.aload_n 0, 0, 0, 0, 0), (.iconst 5, 0, 0, 5, 0)] (by decide +kernel) rfl ?_
  refine Wk.newa (at_ := .char) (N := 5) (code := 101) (ty := .char) rfl (Or.inr (Or.inl ⟨rfl, rfl, rfl⟩)) (ev_is_ok (by decide +kernel)) wa_char (by decide) (by decide) (by decide) (by decide +kernel) rfl rfl (by decide) (by decide) ?_
  show Wk l Ln xs YX12_init d 59 15004 197 [some (.ref 112)] [.ref 121, .ref 112] cS245 cM181 _
  refine Wk.run (pc' := 201) (ls' := [some (.ref 112)]) (st' := [.int 102, .int 0, .ref 121, .ref 121, .ref 112]) (m' := cM181) [(.dup, 0, 0, 0, 0), (.iconst 0, 0, 0, 0, 0), (.bipush 102, 0, 0, 102, 0)] (by decide +kernel) rfl ?_
  refine Wk.cast (n := 5) (ev_is_ok (by decide +kernel)) (by decide +kernel) rfl (by decide) ?_
  show Wk l Ln xs YX12_init d 59 15004 202 [some (.ref 112)] [.ref 121, .ref 112] cS245 cM182 _
  refine Wk.run (pc' := 206) (ls' := [some (.ref 112)]) (st' := [.int 101, .int 1, .ref 121, .ref 121, .ref 112]) (m' := cM182) [(.dup, 0, 0, 0, 0), (.iconst 1, 0, 0, 1, 0), (.bipush 101, 0, 0, 101, 0)] (by decide +kernel) rfl ?_
  refine Wk.cast (n := 5) (ev_is_ok (by decide +kernel)) (by decide +kernel) rfl (by decide) ?_
  show Wk l Ln xs YX12_init d 59 15004 207 [some (.ref 112)] [.ref 121, .ref 112] cS245 cM183 _
  refine Wk.run (pc' := 211) (ls' := [some (.ref 112)]) (st' := [.int 101, .int 2, .ref 121, .ref 121, .ref 112]) (m' := cM183) [(.dup, 0, 0, 0, 0), (.iconst 2, 0, 0, 2, 0), (.bipush 101, 0, 0, 101, 0)] (by decide +kernel) rfl ?_
  refine Wk.cast (n := 5) (ev_is_ok (by decide +kernel)) (by decide +kernel) rfl (by decide) ?_
  show Wk l Ln xs YX12_init d 59 15004 212 [some (.ref 112)] [.ref 121, .ref 112] cS245 cM184 _
  refine Wk.run (pc' := 216) (ls' := [some (.ref 112)]) (st' := [.int 108, .int 3, .ref 121, .ref 121, .ref 112]) (m' := cM184) [(.dup, 0, 0, 0, 0), (.iconst 3, 0, 0, 3, 0), (.bipush 108, 0, 0, 108, 0)] (by decide +kernel) rfl ?_
  refine Wk.cast (n := 5) (ev_is_ok (by decide +kernel)) (by decide +kernel) rfl (by decide) ?_
  show Wk l Ln xs YX12_init d 59 15004 217 [some (.ref 112)] [.ref 121, .ref 112] cS245 cM185 _
  refine Wk.run (pc' := 221) (ls' := [some (.ref 112)]) (st' := [.int 115, .int 4, .ref 121, .ref 121, .ref 112]) (m' := cM185) [(.dup, 0, 0, 0, 0), (.iconst 4, 0, 0, 4, 0), (.bipush 115, 0, 0, 115, 0)] (by decide +kernel) rfl ?_
  refine Wk.cast (n := 5) (ev_is_ok (by decide +kernel)) (by decide +kernel) rfl (by decide) ?_
  show Wk l Ln xs YX12_init d 59 15004 222 [some (.ref 112)] [.ref 121, .ref 112] cS245 cM186 _
  refine Wk.putF (ci := 12) (k := 16) (idx := 39) (b := 121) (by decide +kernel) (by decide +kernel) rfl rfl (ev_is_ok (by decide +kernel)) (by decide +kernel) rfl (by decide +kernel) rfl (Or.inr ⟨_, rfl⟩) ?_
  show Wk l Ln xs YX12_init d 59 15004 225 [some (.ref 112)] [] cS246 cM186 _
  refine Wk.run (pc' := 227) (ls' := [some (.ref 112)]) (st' := [.int 4, .ref 112]) (m' := cM186) [(.aload_n 0, 0, 0, 0, 0), (.iconst 4, 0, 0, 4, 0)] (by decide +kernel) rfl ?_
  refine Wk.newa (at_ := .char) (N := 4) (code := 101) (ty := .char) rfl (Or.inr (Or.inl ⟨rfl, rfl, rfl⟩)) (ev_is_ok (by decide +kernel)) wa_char (by decide) (by decide) (by decide) (by decide +kernel) rfl rfl (by decide) (by decide) ?_
  show Wk l Ln xs YX12_init d 58 15000 229 [some (.ref 112)] [.ref 122, .ref 112] cS247 cM186 _
  refine Wk.run (pc' := 233) (ls' := [some (.ref 112)]) (st' := [.int 119, .int 0, .ref 122, .ref 122, .ref 112]) (m' := cM186) [(.dup, 0, 0, 0, 0), (.iconst 0, 0, 0, 0, 0), (.bipush 119, 0, 0, 119, 0)] (by decide +kernel) rfl ?_
  refine Wk.cast (n := 4) (ev_is_ok (by decide +kernel)) (by decide +kernel) rfl (by decide) ?_
  show Wk l Ln xs YX12_init d 58 15000 234 [some (.ref 112)] [.ref 122, .ref 112] cS247 cM187 _
  refine Wk.run (pc' := 238) (ls' := [some (.ref 112)]) (st' := [.int 101, .int 1, .ref 122, .ref 122, .ref 112]) (m' := cM187) [(.dup, 0, 0, 0, 0), (.iconst 1, 0, 0, 1, 0), (.bipush 101, 0, 0, 101, 0)] (by decide +kernel) rfl ?_
  refine Wk.cast (n := 4) (ev_is_ok (by decide +kernel)) (by decide +kernel) rfl (by decide) ?_
  show Wk l Ln xs YX12_init d 58 15000 239 [some (.ref 112)] [.ref 122, .ref 112] cS247 cM188 _
  refine Wk.run (pc' := 243) (ls' := [some (.ref 112)]) (st' := [.int 108, .int 2, .ref 122, .ref 122, .ref 112]) (m' := cM188) [(.dup, 0, 0, 0, 0), (.iconst 2, 0, 0, 2, 0), (.bipush 108, 0, 0, 108, 0)] (by decide +kernel) rfl ?_
  refine Wk.cast (n := 4) (ev_is_ok (by decide +kernel)) (by decide +kernel) rfl (by decide) ?_
  show Wk l Ln xs YX12_init d 58 15000 244 [some (.ref 112)] [.ref 122, .ref 112] cS247 cM189 _
  refine Wk.run (pc' := 248) (ls' := [some (.ref 112)]) (st' := [.int 108, .int 3, .ref 122, .ref 122, .ref 112]) (m' := cM189) [(.dup, 0, 0, 0, 0), (.iconst 3, 0, 0, 3, 0), (.bipush 108, 0, 0, 108, 0)] (by decide +kernel) rfl ?_
  refine Wk.cast (n := 4) (ev_is_ok (by decide +kernel)) (by decide +kernel) rfl (by decide) ?_
  show Wk l Ln xs YX12_init d 58 15000 249 [some (.ref 112)] [.ref 122, .ref 112] cS247 cM190 _
  refine Wk.putF (ci := 12) (k := 17) (idx := 42) (b := 122) (by decide +kernel) (by decide +kernel) rfl rfl (ev_is_ok (by decide +kernel)) (by decide +kernel) rfl (by decide +kernel) rfl (Or.inr ⟨_, rfl⟩) ?_
  show Wk l Ln xs YX12_init d 58 15000 252 [some (.ref 112)] [] cS248 cM190 _
  refine Wk.run (pc' := 254) (ls' := [some (.ref 112)]) (st' := [.int 5, .ref 112]) (m' := cM190) [(.aload_n 0, 0, 0, 0, 0), (.iconst 5, 0, 0, 5, 0)] (by decide +kernel) rfl ?_
  refine Wk.newa (at_ := .char) (N := 5) (code := 101) (ty := .char) rfl (Or.inr (Or.inl ⟨rfl, rfl, rfl⟩)) (ev_is_ok (by decide +kernel)) wa_char (by decide) (by decide) (by decide) (by decide +kernel) rfl rfl (by decide) (by decide) ?_
  show Wk l Ln xs YX12_init d 57 14995 256 [some (.ref 112)] [.ref 123, .ref 112] cS249 cM190 _
  refine Wk.run (pc' := 260) (ls' := [some (.ref 112)]) (st' := [.int 102, .int 0, .ref 123, .ref 123, .ref 112]) (m' := cM190) [(.dup, 0, 0, 0, 0), (.iconst 0, 0, 0, 0, 0), (.bipush 102, 0, 0, 102, 0)] (by decide +kernel) rfl ?_
  refine Wk.cast (n := 5) (ev_is_ok (by decide +kernel)) (by decide +kernel) rfl (by decide) ?_
  show Wk l Ln xs YX12_init d 57 14995 261 [some (.ref 112)] [.ref 123, .ref 112] cS249 cM191 _
  refine Wk.run (pc' := 265) (ls' := [some (.ref 112)]) (st' := [.int 105, .int 1, .ref 123, .ref 123, .ref 112]) (m' := cM191) [(.dup, 0, 0, 0, 0), (.iconst 1, 0, 0, 1, 0), (.bipush 105, 0, 0, 105, 0)] (by decide +kernel) rfl ?_
  refine Wk.cast (n := 5) (ev_is_ok (by decide +kernel)) (by decide +kernel) rfl (by decide) ?_
  show Wk l Ln xs YX12_init d 57 14995 266 [some (.ref 112)] [.ref 123, .ref 112] cS249 cM192 _
  refine Wk.run (pc' := 270) (ls' := [some (.ref 112)]) (st' := [.int 114, .int 2, .ref 123, .ref 123, .ref 112]) (m' := cM192) [(.dup, 0, 0, 0, 0), (.iconst 2, 0, 0, 2, 0), (.bipush 114, 0, 0, 114, 0)] (by decide +kernel) rfl ?_
  refine Wk.cast (n := 5) (ev_is_ok (by decide +kernel)) (by decide +kernel) rfl (by decide) ?_
  show Wk l Ln xs YX12_init d 57 14995 271 [some (.ref 112)] [.ref 123, .ref 112] cS249 cM193 _
  refine Wk.run (pc' := 275) (ls' := [some (.ref 112)]) (st' := [.int 101, .int 3, .ref 123, .ref 123, .ref 112]) (m' := cM193) [(.dup, 0, 0, 0, 0), (.iconst 3, 0, 0, 3, 0), (.bipush 101, 0, 0, 101, 0)] (by decide +kernel) rfl ?_
  refine Wk.cast (n := 5) (ev_is_ok (by decide +kernel)) (by decide +kernel) rfl (by decide) ?_
  show Wk l Ln xs YX12_init d 57 14995 276 [some (.ref 112)] [.ref 123, .ref 112] cS249 cM194 _
  refine Wk.run (pc' := 280) (ls' := [some (.ref 112)]) (st' := [.int 115, .int 4, .ref 123, .ref 123, .ref 112]) (m' := cM194) [(.dup, 0, 0, 0, 0), (.iconst 4, 0, 0, 4, 0), (.bipush 115, 0, 0, 115, 0)] (by decide +kernel) rfl ?_
  refine Wk.cast (n := 5) (ev_is_ok (by decide +kernel)) (by decide +kernel) rfl (by decide) ?_
  show Wk l Ln xs YX12_init d 57 14995 281 [some (.ref 112)] [.ref 123, .ref 112] cS249 cM195 _
  refine Wk.putF (ci := 12) (k := 18) (idx := 45) (b := 123) (by decide +kernel) (by decide +kernel) rfl rfl (ev_is_ok (by decide +kernel)) (by decide +kernel) rfl (by decide +kernel) rfl (Or.inr ⟨_, rfl⟩) ?_
  show Wk l Ln xs YX12_init d 57 14995 284 [some (.ref 112)] [] cS250 cM195 _
  refine Wk.run (pc' := 286) (ls' := [some (.ref 112)]) (st' := [.int 4, .ref 112]) (m' := cM195) [(.aload_n 0, 0, 0, 0, 0), (.iconst 4, 0, 0, 4, 0)] (by decide +kernel) rfl ?_
  refine Wk.newa (at_ := .char) (N := 4) (code := 101) (ty := .char) rfl (Or.inr (Or.inl ⟨rfl, rfl, rfl⟩)) (ev_is_ok (by decide +kernel)) wa_char (by decide) (by decide) (by decide) (by decide +kernel) rfl rfl (by decide) (by decide) ?_
  show Wk l Ln xs YX12_init d 56 14991 288 [some (.ref 112)] [.ref 124, .ref 112] cS251 cM195 _
  refine Wk.run (pc' := 292) (ls' := [some (.ref 112)]) (st' := [.int 99, .int 0, .ref 124, .ref 124, .ref 112]) (m' := cM195) [(.dup, 0, 0, 0, 0), (.iconst 0, 0, 0, 0, 0), (.bipush 99, 0, 0, 99, 0)] (by decide +kernel) rfl ?_
  refine Wk.cast (n := 4) (ev_is_ok (by decide +kernel)) (by decide +kernel) rfl (by decide) ?_
  show Wk l Ln xs YX12_init d 56 14991 293 [some (.ref 112)] [.ref 124, .ref 112] cS251 cM196 _
  refine Wk.run (pc' := 297) (ls' := [some (.ref 112)]) (st' := [.int 111, .int 1, .ref 124, .ref 124, .ref 112]) (m' := cM196) [(.dup, 0, 0, 0, 0), (.iconst 1, 0, 0, 1, 0), (.bipush 111, 0, 0, 111, 0)] (by decide +kernel) rfl ?_
  refine Wk.cast (n := 4) (ev_is_ok (by decide +kernel)) (by decide +kernel) rfl (by decide) ?_
  show Wk l Ln xs YX12_init d 56 14991 298 [some (.ref 112)] [.ref 124, .ref 112] cS251 cM197 _
  refine Wk.run (pc' := 302) (ls' := [some (.ref 112)]) (st' := [.int 108, .int 2, .ref 124, .ref 124, .ref 112]) (m' := cM197) [(.dup, 0, 0, 0, 0), (.iconst 2, 0, 0, 2, 0), (.bipush 108, 0, 0, 108, 0)] (by decide +kernel) rfl ?_
  refine Wk.cast (n := 4) (ev_is_ok (by decide +kernel)) (by decide +kernel) rfl (by decide) ?_
  show Wk l Ln xs YX12_init d 56 14991 303 [some (.ref 112)] [.ref 124, .ref 112] cS251 cM198 _
  refine Wk.run (pc' := 307) (ls' := [some (.ref 112)]) (st' := [.int 100, .int 3, .ref 124, .ref 124, .ref 112]) (m' := cM198) [(.dup, 0, 0, 0, 0), (.iconst 3, 0, 0, 3, 0), (.bipush 100, 0, 0, 100, 0)] (by decide +kernel) rfl ?_
  refine Wk.cast (n := 4) (ev_is_ok (by decide +kernel)) (by decide +kernel) rfl (by decide) ?_
  show Wk l Ln xs YX12_init d 56 14991 308 [some (.ref 112)] [.ref 124, .ref 112] cS251 cM199 _
  refine Wk.putF (ci := 12) (k := 19) (idx := 48) (b := 124) (by decide +kernel) (by decide +kernel) rfl rfl (ev_is_ok (by decide +kernel)) (by decide +kernel) rfl (by decide +kernel) rfl (Or.inr ⟨_, rfl⟩) ?_
  show Wk l Ln xs YX12_init d 56 14991 311 [some (.ref 112)] [] cS252 cM199 _
  refine Wk.run (pc' := 313) (ls' := [some (.ref 112)]) (st' := [.int 5, .ref 112]) (m' := cM199) [(.aload_n 0, 0, 0, 0, 0), (.iconst 5, 0, 0, 5, 0)] (by decide +kernel) rfl ?_
  refine Wk.newa (at_ := .char) (N := 5) (code := 101) (ty := .char) rfl (Or.inr (Or.inl ⟨rfl, rfl, rfl⟩)) (ev_is_ok (by decide +kernel)) wa_char (by decide) (by decide) (by decide) (by decide +kernel) rfl rfl (by decide) (by decide) ?_
  show Wk l Ln xs YX12_init d 55 14986 315 [some (.ref 112)] [.ref 125, .ref 112] cS253 cM199 _
  refine Wk.run (pc' := 319) (ls' := [some (.ref 112)]) (st' := [.int 104, .int 0, .ref 125, .ref 125, .ref 112]) (m' := cM199) [(.dup, 0, 0, 0, 0), (.iconst 0, 0, 0, 0, 0), (.bipush 104, 0, 0, 104, 0)] (by decide +kernel) rfl ?_
  refine Wk.cast (n := 5) (ev_is_ok (by decide +kernel)) (by decide +kernel) rfl (by decide) ?_
  show Wk l Ln xs YX12_init d 55 14986 320 [some (.ref 112)] [.ref 125, .ref 112] cS253 cM200 _
  refine Wk.run (pc' := 324) (ls' := [some (.ref 112)]) (st' := [.int 101, .int 1, .ref 125, .ref 125, .ref 112]) (m' := cM200) [(.dup, 0, 0, 0, 0), (.iconst 1, 0, 0, 1, 0), (.bipush 101, 0, 0, 101, 0)] (by decide +kernel) rfl ?_
  refine Wk.cast (n := 5) (ev_is_ok (by decide +kernel)) (by decide +kernel) rfl (by decide) ?_
  show Wk l Ln xs YX12_init d 55 14986 325 [some (.ref 112)] [.ref 125, .ref 112] cS253 cM201 _
  refine Wk.run (pc' := 329) (ls' := [some (.ref 112)]) (st' := [.int 97, .int 2, .ref 125, .ref 125, .ref 112]) (m' := cM201) [(.dup, 0, 0, 0, 0), (.iconst 2, 0, 0, 2, 0), (.bipush 97, 0, 0, 97, 0)] (by decide +kernel) rfl ?_
  refine Wk.cast (n := 5) (ev_is_ok (by decide +kernel)) (by decide +kernel) rfl (by decide) ?_
  show Wk l Ln xs YX12_init d 55 14986 330 [some (.ref 112)] [.ref 125, .ref 112] cS253 cM202 _
  refine Wk.run (pc' := 334) (ls' := [some (.ref 112)]) (st' := [.int 114, .int 3, .ref 125, .ref 125, .ref 112]) (m' := cM202) [(.dup, 0, 0, 0, 0), (.iconst 3, 0, 0, 3, 0), (.bipush 114, 0, 0, 114, 0)] (by decide +kernel) rfl ?_
  refine Wk.cast (n := 5) (ev_is_ok (by decide +kernel)) (by decide +kernel) rfl (by decide) ?_
  show Wk l Ln xs YX12_init d 55 14986 335 [some (.ref 112)] [.ref 125, .ref 112] cS253 cM203 _
  refine Wk.run (pc' := 339) (ls' := [some (.ref 112)]) (st' := [.int 100, .int 4, .ref 125, .ref 125, .ref 112]) (m' := cM203) [(.dup, 0, 0, 0, 0), (.iconst 4, 0, 0, 4, 0), (.bipush 100, 0, 0, 100, 0)] (by decide +kernel) rfl ?_
  refine Wk.cast (n := 5) (ev_is_ok (by decide +kernel)) (by decide +kernel) rfl (by decide) ?_
  show Wk l Ln xs YX12_init d 55 14986 340 [some (.ref 112)] [.ref 125, .ref 112] cS253 cM204 _
  refine Wk.putF (ci := 12) (k := 20) (idx := 51) (b := 125) (by decide +kernel) (by decide +kernel) rfl rfl (ev_is_ok (by decide +kernel)) (by decide +kernel) rfl (by decide +kernel) rfl (Or.inr ⟨_, rfl⟩) ?_
  show Wk l Ln xs YX12_init d 55 14986 343 [some (.ref 112)] [] cS254 cM204 _
  refine Wk.run (pc' := 345) (ls' := [some (.ref 112)]) (st' := [.int 5, .ref 112]) (m' := cM204) [(.aload_n 0, 0, 0, 0, 0), (.iconst 5, 0, 0, 5, 0)] (by decide +kernel) rfl ?_
  refine Wk.newa (at_ := .char) (N := 5) (code := 101) (ty := .char) rfl (Or.inr (Or.inl ⟨rfl, rfl, rfl⟩)) (ev_is_ok (by decide +kernel)) wa_char (by decide) (by decide) (by decide) (by decide +kernel) rfl rfl (by decide) (by decide) ?_
  show Wk l Ln xs YX12_init d 54 14981 347 [some (.ref 112)] [.ref 126, .ref 112] cS255 cM204 _
  refine Wk.run (pc' := 351) (ls' := [some (.ref 112)]) (st' := [.int 114, .int 0, .ref 126, .ref 126, .ref 112]) (m' := cM204) [(.dup, 0, 0, 0, 0), (.iconst 0, 0, 0, 0, 0), (.bipush 114, 0, 0, 114, 0)] (by decide +kernel) rfl ?_
  refine Wk.cast (n := 5) (ev_is_ok (by decide +kernel)) (by decide +kernel) rfl (by decide) ?_
  show Wk l Ln xs YX12_init d 54 14981 352 [some (.ref 112)] [.ref 126, .ref 112] cS255 cM205 _
  refine Wk.run (pc' := 356) (ls' := [some (.ref 112)]) (st' := [.int 111, .int 1, .ref 126, .ref 126, .ref 112]) (m' := cM205) [(.dup, 0, 0, 0, 0), (.iconst 1, 0, 0, 1, 0), (.bipush 111, 0, 0, 111, 0)] (by decide +kernel) rfl ?_
  refine Wk.cast (n := 5) (ev_is_ok (by decide +kernel)) (by decide +kernel) rfl (by decide) ?_
  show Wk l Ln xs YX12_init d 54 14981 357 [some (.ref 112)] [.ref 126, .ref 112] cS255 cM206 _
  refine Wk.run (pc' := 361) (ls' := [some (.ref 112)]) (st' := [.int 117, .int 2, .ref 126, .ref 126, .ref 112]) (m' := cM206) [(.dup, 0, 0, 0, 0), (.iconst 2, 0, 0, 2, 0), (.bipush 117, 0, 0, 117, 0)] (by decide +kernel) rfl ?_
  refine Wk.cast (n := 5) (ev_is_ok (by decide +kernel)) (by decide +kernel) rfl (by decide) ?_
  show Wk l Ln xs YX12_init d 54 14981 362 [some (.ref 112)] [.ref 126, .ref 112] cS255 cM207 _
  refine Wk.run (pc' := 366) (ls' := [some (.ref 112)]) (st' := [.int 110, .int 3, .ref 126, .ref 126, .ref 112]) (m' := cM207) [(.dup, 0, 0, 0, 0), (.iconst 3, 0, 0, 3, 0), (.bipush 110, 0, 0, 110, 0)] (by decide +kernel) rfl ?_
  refine Wk.cast (n := 5) (ev_is_ok (by decide +kernel)) (by decide +kernel) rfl (by decide) ?_
  show Wk l Ln xs YX12_init d 54 14981 367 [some (.ref 112)] [.ref 126, .ref 112] cS255 cM208 _
  refine Wk.run (pc' := 371) (ls' := [some (.ref 112)]) (st' := [.int 100, .int 4, .ref 126, .ref 126, .ref 112]) (m' := cM208) [(.dup, 0, 0, 0, 0), (.iconst 4, 0, 0, 4, 0), (.bipush 100, 0, 0, 100, 0)] (by decide +kernel) rfl ?_
  refine Wk.cast (n := 5) (ev_is_ok (by decide +kernel)) (by decide +kernel) rfl (by decide) ?_
  show Wk l Ln xs YX12_init d 54 14981 372 [some (.ref 112)] [.ref 126, .ref 112] cS255 cM209 _
  refine Wk.putF (ci := 12) (k := 21) (idx := 54) (b := 126) (by decide +kernel) (by decide +kernel) rfl rfl (ev_is_ok (by decide +kernel)) (by decide +kernel) rfl (by decide +kernel) rfl (Or.inr ⟨_, rfl⟩) ?_
  show Wk l Ln xs YX12_init d 54 14981 375 [some (.ref 112)] [] cS256 cM209 _
  refine Wk.run (pc' := 377) (ls' := [some (.ref 112)]) (st' := [.int 5, .ref 112]) (m' := cM209) [(.aload_n 0, 0, 0, 0, 0), (.iconst 5, 0, 0, 5, 0)] (by decide +kernel) rfl ?_
  refine Wk.newa (at_ := .char) (N := 5) (code := 101) (ty := .char) rfl (Or.inr (Or.inl ⟨rfl, rfl, rfl⟩)) (ev_is_ok (by decide +kernel)) wa_char (by decide) (by decide) (by decide) (by decide +kernel) rfl rfl (by decide) (by decide) ?_
  show Wk l Ln xs YX12_init d 53 14976 379 [some (.ref 112)] [.ref 127, .ref 112] cS257 cM209 _
  refine Wk.run (pc' := 383) (ls' := [some (.ref 112)]) (st' := [.int 112, .int 0, .ref 127, .ref 127, .ref 112]) (m' := cM209) [(.dup, 0, 0, 0, 0), (.iconst 0, 0, 0, 0, 0), (.bipush 112, 0, 0, 112, 0)] (by decide +kernel) rfl ?_
  refine Wk.cast (n := 5) (ev_is_ok (by decide +kernel)) (by decide +kernel) rfl (by decide) ?_
  show Wk l Ln xs YX12_init d 53 14976 384 [some (.ref 112)] [.ref 127, .ref 112] cS257 cM210 _
  refine Wk.run (pc' := 388) (ls' := [some (.ref 112)]) (st' := [.int 108, .int 1, .ref 127, .ref 127, .ref 112]) (m' := cM210) [(.dup, 0, 0, 0, 0), (.iconst 1, 0, 0, 1, 0), (.bipush 108, 0, 0, 108, 0)] (by decide +kernel) rfl ?_
  refine Wk.cast (n := 5) (ev_is_ok (by decide +kernel)) (by decide +kernel) rfl (by decide) ?_
  show Wk l Ln xs YX12_init d 53 14976 389 [some (.ref 112)] [.ref 127, .ref 112] cS257 cM211 _
  refine Wk.run (pc' := 393) (ls' := [some (.ref 112)]) (st' := [.int 97, .int 2, .ref 127, .ref 127, .ref 112]) (m' := cM211) [(.dup, 0, 0, 0, 0), (.iconst 2, 0, 0, 2, 0), (.bipush 97, 0, 0, 97, 0)] (by decide +kernel) rfl ?_
  refine Wk.cast (n := 5) (ev_is_ok (by decide +kernel)) (by decide +kernel) rfl (by decide) ?_
  show Wk l Ln xs YX12_init d 53 14976 394 [some (.ref 112)] [.ref 127, .ref 112] cS257 cM212 _
  refine Wk.run (pc' := 398) (ls' := [some (.ref 112)]) (st' := [.int 99, .int 3, .ref 127, .ref 127, .ref 112]) (m' := cM212) [(.dup, 0, 0, 0, 0), (.iconst 3, 0, 0, 3, 0), (.bipush 99, 0, 0, 99, 0)] (by decide +kernel) rfl ?_
  refine Wk.cast (n := 5) (ev_is_ok (by decide +kernel)) (by decide +kernel) rfl (by decide) ?_
  show Wk l Ln xs YX12_init d 53 14976 399 [some (.ref 112)] [.ref 127, .ref 112] cS257 cM213 _
  refine Wk.run (pc' := 403) (ls' := [some (.ref 112)]) (st' := [.int 101, .int 4, .ref 127, .ref 127, .ref 112]) (m' := cM213) [(.dup, 0, 0, 0, 0), (.iconst 4, 0, 0, 4, 0), (.bipush 101, 0, 0, 101, 0)] (by decide +kernel) rfl ?_
  refine Wk.cast (n := 5) (ev_is_ok (by decide +kernel)) (by decide +kernel) rfl (by decide) ?_
  show Wk l Ln xs YX12_init d 53 14976 404 [some (.ref 112)] [.ref 127, .ref 112] cS257 cM214 _
  refine Wk.putF (ci := 12) (k := 22) (idx := 57) (b := 127) (by decide +kernel) (by decide +kernel) rfl rfl (ev_is_ok (by decide +kernel)) (by decide +kernel) rfl (by decide +kernel) rfl (Or.inr ⟨_, rfl⟩) ?_
  show Wk l Ln xs YX12_init d 53 14976 407 [some (.ref 112)] [] cS258 cM214 _
  refine Wk.run (pc' := 409) (ls' := [some (.ref 112)]) (st' := [.int 4, .ref 112]) (m' := cM214) [(.aload_n 0, 0, 0, 0, 0), (.iconst 4, 0, 0, 4, 0)] (by decide +kernel) rfl ?_
  refine Wk.newa (at_ := .char) (N := 4) (code := 101) (ty := .char) rfl (Or.inr (Or.inl ⟨rfl, rfl, rfl⟩)) (ev_is_ok (by decide +kernel)) wa_char (by decide) (by decide) (by decide) (by decide +kernel) rfl rfl (by decide) (by decide) ?_
  show Wk l Ln xs YX12_init d 52 14972 411 [some (.ref 112)] [.ref 128, .ref 112] cS259 cM214 _
  refine Wk.run (pc' := 415) (ls' := [some (.ref 112)]) (st' := [.int 115, .int 0, .ref 128, .ref 128, .ref 112]) (m' := cM214) [(.dup, 0, 0, 0, 0), (.iconst 0, 0, 0, 0, 0), (.bipush 115, 0, 0, 115, 0)] (by decide +kernel) rfl ?_
  refine Wk.cast (n := 4) (ev_is_ok (by decide +kernel)) (by decide +kernel) rfl (by decide) ?_
  show Wk l Ln xs YX12_init d 52 14972 416 [some (.ref 112)] [.ref 128, .ref 112] cS259 cM215 _
  refine Wk.run (pc' := 420) (ls' := [some (.ref 112)]) (st' := [.int 105, .int 1, .ref 128, .ref 128, .ref 112]) (m' := cM215) [(.dup, 0, 0, 0, 0), (.iconst 1, 0, 0, 1, 0), (.bipush 105, 0, 0, 105, 0)] (by decide +kernel) rfl ?_
  refine Wk.cast (n := 4) (ev_is_ok (by decide +kernel)) (by decide +kernel) rfl (by decide) ?_
  show Wk l Ln xs YX12_init d 52 14972 421 [some (.ref 112)] [.ref 128, .ref 112] cS259 cM216 _
  refine Wk.run (pc' := 425) (ls' := [some (.ref 112)]) (st' := [.int 103, .int 2, .ref 128, .ref 128, .ref 112]) (m' := cM216) [(.dup, 0, 0, 0, 0), (.iconst 2, 0, 0, 2, 0), (.bipush 103, 0, 0, 103, 0)] (by decide +kernel) rfl ?_
  refine Wk.cast (n := 4) (ev_is_ok (by decide +kernel)) (by decide +kernel) rfl (by decide) ?_
  show Wk l Ln xs YX12_init d 52 14972 426 [some (.ref 112)] [.ref 128, .ref 112] cS259 cM217 _
  refine Wk.run (pc' := 430) (ls' := [some (.ref 112)]) (st' := [.int 104, .int 3, .ref 128, .ref 128, .ref 112]) (m' := cM217) [(.dup, 0, 0, 0, 0), (.iconst 3, 0, 0, 3, 0), (.bipush 104, 0, 0, 104, 0)] (by decide +kernel) rfl ?_
  refine Wk.cast (n := 4) (ev_is_ok (by decide +kernel)) (by decide +kernel) rfl (by decide) ?_
  show Wk l Ln xs YX12_init d 52 14972 431 [some (.ref 112)] [.ref 128, .ref 112] cS259 cM218 _
  refine Wk.putF (ci := 12) (k := 23) (idx := 60) (b := 128) (by decide +kernel) (by decide +kernel) rfl rfl (ev_is_ok (by decide +kernel)) (by decide +kernel) rfl (by decide +kernel) rfl (Or.inr ⟨_, rfl⟩) ?_
  show Wk l Ln xs YX12_init d 52 14972 434 [some (.ref 112)] [] cS260 cM218 _
  refine Wk.run (pc' := 436) (ls' := [some (.ref 112)]) (st' := [.int 4, .ref 112]) (m' := cM218) [(.aload_n 0, 0, 0, 0, 0), (.iconst 4, 0, 0, 4, 0)] (by decide +kernel) rfl ?_
  refine Wk.newa (at_ := .char) (N := 4) (code := 101) (ty := .char) rfl (Or.inr (Or.inl ⟨rfl, rfl, rfl⟩)) (ev_is_ok (by decide +kernel)) wa_char (by decide) (by decide) (by decide) (by decide +kernel) rfl rfl (by decide) (by decide) ?_
  show Wk l Ln xs YX12_init d 51 14968 438 [some (.ref 112)] [.ref 129, .ref 112] cS261 cM218 _
  refine Wk.run (pc' := 442) (ls' := [some (.ref 112)]) (st' := [.int 116, .int 0, .ref 129, .ref 129, .ref 112]) (m' := cM218) [(.dup, 0, 0, 0, 0), (.iconst 0, 0, 0, 0, 0), (.bipush 116, 0, 0, 116, 0)] (by decide +kernel) rfl ?_
  refine Wk.cast (n := 4) (ev_is_ok (by decide +kernel)) (by decide +kernel) rfl (by decide) ?_
  show Wk l Ln xs YX12_init d 51 14968 443 [some (.ref 112)] [.ref 129, .ref 112] cS261 cM219 _
  refine Wk.run (pc' := 447) (ls' := [some (.ref 112)]) (st' := [.int 111, .int 1, .ref 129, .ref 129, .ref 112]) (m' := cM219) [(.dup, 0, 0, 0, 0), (.iconst 1, 0, 0, 1, 0), (.bipush 111, 0, 0, 111, 0)] (by decide +kernel) rfl ?_
  refine Wk.cast (n := 4) (ev_is_ok (by decide +kernel)) (by decide +kernel) rfl (by decide) ?_
  show Wk l Ln xs YX12_init d 51 14968 448 [some (.ref 112)] [.ref 129, .ref 112] cS261 cM220 _
  refine Wk.run (pc' := 452) (ls' := [some (.ref 112)]) (st' := [.int 110, .int 2, .ref 129, .ref 129, .ref 112]) (m' := cM220) [(.dup, 0, 0, 0, 0), (.iconst 2, 0, 0, 2, 0), (.bipush 110, 0, 0, 110, 0)] (by decide +kernel) rfl ?_
  refine Wk.cast (n := 4) (ev_is_ok (by decide +kernel)) (by decide +kernel) rfl (by decide) ?_
  show Wk l Ln xs YX12_init d 51 14968 453 [some (.ref 112)] [.ref 129, .ref 112] cS261 cM221 _
  refine Wk.run (pc' := 457) (ls' := [some (.ref 112)]) (st' := [.int 101, .int 3, .ref 129, .ref 129, .ref 112]) (m' := cM221) [(.dup, 0, 0, 0, 0), (.iconst 3, 0, 0, 3, 0), (.bipush 101, 0, 0, 101, 0)] (by decide +kernel) rfl ?_
  refine Wk.cast (n := 4) (ev_is_ok (by decide +kernel)) (by decide +kernel) rfl (by decide) ?_
  show Wk l Ln xs YX12_init d 51 14968 458 [some (.ref 112)] [.ref 129, .ref 112] cS261 cM222 _
  refine Wk.putF (ci := 12) (k := 24) (idx := 63) (b := 129) (by decide +kernel) (by decide +kernel) rfl rfl (ev_is_ok (by decide +kernel)) (by decide +kernel) rfl (by decide +kernel) rfl (Or.inr ⟨_, rfl⟩) ?_
  show Wk l Ln xs YX12_init d 51 14968 461 [some (.ref 112)] [] cS262 cM222 _
  refine Wk.run (pc' := 464) (ls' := [some (.ref 112)]) (st' := [.int 6, .ref 112]) (m' := cM222) [(.aload_n 0, 0, 0, 0, 0), (.bipush 6, 0, 0, 6, 0)] (by decide +kernel) rfl ?_
  refine Wk.newa (at_ := .char) (N := 6) (code := 101) (ty := .char) rfl (Or.inr (Or.inl ⟨rfl, rfl, rfl⟩)) (ev_is_ok (by decide +kernel)) wa_char (by decide) (by decide) (by decide) (by decide +kernel) rfl rfl (by decide) (by decide) ?_
  show Wk l Ln xs YX12_init d 50 14962 466 [some (.ref 112)] [.ref 130, .ref 112] cS263 cM222 _
  refine Wk.run (pc' := 470) (ls' := [some (.ref 112)]) (st' := [.int 110, .int 0, .ref 130, .ref 130, .ref 112]) (m' := cM222) [(.dup, 0, 0, 0, 0), (.iconst 0, 0, 0, 0, 0), (.bipush 110, 0, 0, 110, 0)] (by decide +kernel) rfl ?_
  refine Wk.cast (n := 6) (ev_is_ok (by decide +kernel)) (by decide +kernel) rfl (by decide) ?_
  show Wk l Ln xs YX12_init d 50 14962 471 [some (.ref 112)] [.ref 130, .ref 112] cS263 cM223 _
  refine Wk.run (pc' := 475) (ls' := [some (.ref 112)]) (st' := [.int 117, .int 1, .ref 130, .ref 130, .ref 112]) (m' := cM223) [(.dup, 0, 0, 0, 0), (.iconst 1, 0, 0, 1, 0), (.bipush 117, 0, 0, 117, 0)] (by decide +kernel) rfl ?_
  refine Wk.cast (n := 6) (ev_is_ok (by decide +kernel)) (by decide +kernel) rfl (by decide) ?_
  show Wk l Ln xs YX12_init d 50 14962 476 [some (.ref 112)] [.ref 130, .ref 112] cS263 cM224 _
  refine Wk.run (pc' := 480) (ls' := [some (.ref 112)]) (st' := [.int 109, .int 2, .ref 130, .ref 130, .ref 112]) (m' := cM224) [(.dup, 0, 0, 0, 0), (.iconst 2, 0, 0, 2, 0), (.bipush 109, 0, 0, 109, 0)] (by decide +kernel) rfl ?_
  refine Wk.cast (n := 6) (ev_is_ok (by decide +kernel)) (by decide +kernel) rfl (by decide) ?_
  show Wk l Ln xs YX12_init d 50 14962 481 [some (.ref 112)] [.ref 130, .ref 112] cS263 cM225 _
  refine Wk.run (pc' := 485) (ls' := [some (.ref 112)]) (st' := [.int 98, .int 3, .ref 130, .ref 130, .ref 112]) (m' := cM225) [(.dup, 0, 0, 0, 0), (.iconst 3, 0, 0, 3, 0), (.bipush 98, 0, 0, 98, 0)] (by decide +kernel) rfl ?_
  refine Wk.cast (n := 6) (ev_is_ok (by decide +kernel)) (by decide +kernel) rfl (by decide) ?_
  show Wk l Ln xs YX12_init d 50 14962 486 [some (.ref 112)] [.ref 130, .ref 112] cS263 cM226 _
  refine Wk.run (pc' := 490) (ls' := [some (.ref 112)]) (st' := [.int 101, .int 4, .ref 130, .ref 130, .ref 112]) (m' := cM226) [(.dup, 0, 0, 0, 0), (.iconst 4, 0, 0, 4, 0), (.bipush 101, 0, 0, 101, 0)] (by decide +kernel) rfl ?_
  refine Wk.cast (n := 6) (ev_is_ok (by decide +kernel)) (by decide +kernel) rfl (by decide) ?_
  show Wk l Ln xs YX12_init d 50 14962 491 [some (.ref 112)] [.ref 130, .ref 112] cS263 cM227 _
  refine Wk.run (pc' := 495) (ls' := [some (.ref 112)]) (st' := [.int 114, .int 5, .ref 130, .ref 130, .ref 112]) (m' := cM227) [(.dup, 0, 0, 0, 0), (.iconst 5, 0, 0, 5, 0), (.bipush 114, 0, 0, 114, 0)] (by decide +kernel) rfl ?_
  refine Wk.cast (n := 6) (ev_is_ok (by decide +kernel)) (by decide +kernel) rfl (by decide) ?_
  show Wk l Ln xs YX12_init d 50 14962 496 [some (.ref 112)] [.ref 130, .ref 112] cS263 cM228 _
  refine Wk.putF (ci := 12) (k := 25) (idx := 66) (b := 130) (by decide +kernel) (by decide +kernel) rfl rfl (ev_is_ok (by decide +kernel)) (by decide +kernel) rfl (by decide +kernel) rfl (Or.inr ⟨_, rfl⟩) ?_
  show Wk l Ln xs YX12_init d 50 14962 499 [some (.ref 112)] [] cS264 cM228 _
  refine Wk.run (pc' := 501) (ls' := [some (.ref 112)]) (st' := [.int 4, .ref 112]) (m' := cM228) [(.aload_n 0, 0, 0, 0, 0), (.iconst 4, 0, 0, 4, 0)] (by decide +kernel) rfl ?_
  refine Wk.newa (at_ := .char) (N := 4) (code := 101) (ty := .char) rfl (Or.inr (Or.inl ⟨rfl, rfl, rfl⟩)) (ev_is_ok (by decide +kernel)) wa_char (by decide) (by decide) (by decide) (by decide +kernel) rfl rfl (by decide) (by decide) ?_
  show Wk l Ln xs YX12_init d 49 14958 503 [some (.ref 112)] [.ref 131, .ref 112] cS265 cM228 _
  refine Wk.run (pc' := 507) (ls' := [some (.ref 112)]) (st' := [.int 103, .int 0, .ref 131, .ref 131, .ref 112]) (m' := cM228) [(.dup, 0, 0, 0, 0), (.iconst 0, 0, 0, 0, 0), (.bipush 103, 0, 0, 103, 0)] (by decide +kernel) rfl ?_
  refine Wk.cast (n := 4) (ev_is_ok (by decide +kernel)) (by decide +kernel) rfl (by decide) ?_
  show Wk l Ln xs YX12_init d 49 14958 508 [some (.ref 112)] [.ref 131, .ref 112] cS265 cM229 _
  refine Wk.run (pc' := 512) (ls' := [some (.ref 112)]) (st' := [.int 108, .int 1, .ref 131, .ref 131, .ref 112]) (m' := cM229) [(.dup, 0, 0, 0, 0), (.iconst 1, 0, 0, 1, 0), (.bipush 108, 0, 0, 108, 0)] (by decide +kernel) rfl ?_
  refine Wk.cast (n := 4) (ev_is_ok (by decide +kernel)) (by decide +kernel) rfl (by decide) ?_
  show Wk l Ln xs YX12_init d 49 14958 513 [some (.ref 112)] [.ref 131, .ref 112] cS265 cM230 _
  refine Wk.run (pc' := 517) (ls' := [some (.ref 112)]) (st' := [.int 97, .int 2, .ref 131, .ref 131, .ref 112]) (m' := cM230) [(.dup, 0, 0, 0, 0), (.iconst 2, 0, 0, 2, 0), (.bipush 97, 0, 0, 97, 0)] (by decide +kernel) rfl ?_
  refine Wk.cast (n := 4) (ev_is_ok (by decide +kernel)) (by decide +kernel) rfl (by decide) ?_
  show Wk l Ln xs YX12_init d 49 14958 518 [some (.ref 112)] [.ref 131, .ref 112] cS265 cM231 _
  refine Wk.run (pc' := 522) (ls' := [some (.ref 112)]) (st' := [.int 100, .int 3, .ref 131, .ref 131, .ref 112]) (m' := cM231) [(.dup, 0, 0, 0, 0), (.iconst 3, 0, 0, 3, 0), (.bipush 100, 0, 0, 100, 0)] (by decide +kernel) rfl ?_
  refine Wk.cast (n := 4) (ev_is_ok (by decide +kernel)) (by decide +kernel) rfl (by decide) ?_
  show Wk l Ln xs YX12_init d 49 14958 523 [some (.ref 112)] [.ref 131, .ref 112] cS265 cM232 _
  refine Wk.putF (ci := 12) (k := 26) (idx := 69) (b := 131) (by decide +kernel) (by decide +kernel) rfl rfl (ev_is_ok (by decide +kernel)) (by decide +kernel) rfl (by decide +kernel) rfl (Or.inr ⟨_, rfl⟩) ?_
  show Wk l Ln xs YX12_init d 49 14958 526 [some (.ref 112)] [] cS266 cM232 _
  refine Wk.run (pc' := 528) (ls' := [some (.ref 112)]) (st' := [.int 2, .ref 112]) (m' := cM232) [(.aload_n 0, 0, 0, 0, 0), (.iconst 2, 0, 0, 2, 0)] (by decide +kernel) rfl ?_
  refine Wk.newa (at_ := .char) (N := 2) (code := 101) (ty := .char) rfl (Or.inr (Or.inl ⟨rfl, rfl, rfl⟩)) (ev_is_ok (by decide +kernel)) wa_char (by decide) (by decide) (by decide) (by decide +kernel) rfl rfl (by decide) (by decide) ?_
  show Wk l Ln xs YX12_init d 48 14956 530 [some (.ref 112)] [.ref 132, .ref 112] cS267 cM232 _
  refine Wk.run (pc' := 534) (ls' := [some (.ref 112)]) (st' := [.int 111, .int 0, .ref 132, .ref 132, .ref 112]) (m' := cM232) [(.dup, 0, 0, 0, 0), (.iconst 0, 0, 0, 0, 0), (.bipush 111, 0, 0, 111, 0)] (by decide +kernel) rfl ?_
  refine Wk.cast (n := 2) (ev_is_ok (by decide +kernel)) (by decide +kernel) rfl (by decide) ?_
  show Wk l Ln xs YX12_init d 48 14956 535 [some (.ref 112)] [.ref 132, .ref 112] cS267 cM233 _
  refine Wk.run (pc' := 539) (ls' := [some (.ref 112)]) (st' := [.int 114, .int 1, .ref 132, .ref 132, .ref 112]) (m' := cM233) [(.dup, 0, 0, 0, 0), (.iconst 1, 0, 0, 1, 0), (.bipush 114, 0, 0, 114, 0)] (by decide +kernel) rfl ?_
  refine Wk.cast (n := 2) (ev_is_ok (by decide +kernel)) (by decide +kernel) rfl (by decide) ?_
  show Wk l Ln xs YX12_init d 48 14956 540 [some (.ref 112)] [.ref 132, .ref 112] cS267 cM234 _
  refine Wk.putF (ci := 12) (k := 27) (idx := 72) (b := 132) (by decide +kernel) (by decide +kernel) rfl rfl (ev_is_ok (by decide +kernel)) (by decide +kernel) rfl (by decide +kernel) rfl (Or.inr ⟨_, rfl⟩) ?_
  show Wk l Ln xs YX12_init d 48 14956 543 [some (.ref 112)] [] cS268 cM234 _
  refine Wk.run (pc' := 545) (ls' := [some (.ref 112)]) (st' := [.int 3, .ref 112]) (m' := cM234) [(.aload_n 0, 0, 0, 0, 0), (.iconst 3, 0, 0, 3, 0)] (by decide +kernel) rfl ?_
  refine Wk.newa (at_ := .char) (N := 3) (code := 101) (ty := .char) rfl (Or.inr (Or.inl ⟨rfl, rfl, rfl⟩)) (ev_is_ok (by decide +kernel)) wa_char (by decide) (by decide) (by decide) (by decide +kernel) rfl rfl (by decide) (by decide) ?_
  show Wk l Ln xs YX12_init d 47 14953 547 [some (.ref 112)] [.ref 133, .ref 112] cS269 cM234 _
  refine Wk.run (pc' := 551) (ls' := [some (.ref 112)]) (st' := [.int 97, .int 0, .ref 133, .ref 133, .ref 112]) (m' := cM234) [(.dup, 0, 0, 0, 0), (.iconst 0, 0, 0, 0, 0), (.bipush 97, 0, 0, 97, 0)] (by decide +kernel) rfl ?_
  refine Wk.cast (n := 3) (ev_is_ok (by decide +kernel)) (by decide +kernel) rfl (by decide) ?_
  show Wk l Ln xs YX12_init d 47 14953 552 [some (.ref 112)] [.ref 133, .ref 112] cS269 cM235 _
  refine Wk.run (pc' := 556) (ls' := [some (.ref 112)]) (st' := [.int 110, .int 1, .ref 133, .ref 133, .ref 112]) (m' := cM235) [(.dup, 0, 0, 0, 0), (.iconst 1, 0, 0, 1, 0), (.bipush 110, 0, 0, 110, 0)] (by decide +kernel) rfl ?_
  refine Wk.cast (n := 3) (ev_is_ok (by decide +kernel)) (by decide +kernel) rfl (by decide) ?_
  show Wk l Ln xs YX12_init d 47 14953 557 [some (.ref 112)] [.ref 133, .ref 112] cS269 cM236 _
  refine Wk.run (pc' := 561) (ls' := [some (.ref 112)]) (st' := [.int 100, .int 2, .ref 133, .ref 133, .ref 112]) (m' := cM236) [(.dup, 0, 0, 0, 0), (.iconst 2, 0, 0, 2, 0), (.bipush 100, 0, 0, 100, 0)] (by decide +kernel) rfl ?_
  refine Wk.cast (n := 3) (ev_is_ok (by decide +kernel)) (by decide +kernel) rfl (by decide) ?_
  show Wk l Ln xs YX12_init d 47 14953 562 [some (.ref 112)] [.ref 133, .ref 112] cS269 cM237 _
  refine Wk.putF (ci := 12) (k := 28) (idx := 75) (b := 133) (by decide +kernel) (by decide +kernel) rfl rfl (ev_is_ok (by decide +kernel)) (by decide +kernel) rfl (by decide +kernel) rfl (Or.inr ⟨_, rfl⟩) ?_
  show Wk l Ln xs YX12_init d 47 14953 565 [some (.ref 112)] [] cS270 cM237 _
  refine Wk.run (pc' := 567) (ls' := [some (.ref 112)]) (st' := [.int 3, .ref 112]) (m' := cM237) [(.aload_n 0, 0, 0, 0, 0), (.iconst 3, 0, 0, 3, 0)] (by decide +kernel) rfl ?_
  refine Wk.newa (at_ := .char) (N := 3) (code := 101) (ty := .char) rfl (Or.inr (Or.inl ⟨rfl, rfl, rfl⟩)) (ev_is_ok (by decide +kernel)) wa_char (by decide) (by decide) (by decide) (by decide +kernel) rfl rfl (by decide) (by decide) ?_
  show Wk l Ln xs YX12_init d 46 14950 569 [some (.ref 112)] [.ref 134, .ref 112] cS271 cM237 _
  refine Wk.run (pc' := 573) (ls' := [some (.ref 112)]) (st' := [.int 110, .int 0, .ref 134, .ref 134, .ref 112]) (m' := cM237) [(.dup, 0, 0, 0, 0), (.iconst 0, 0, 0, 0, 0), (.bipush 110, 0, 0, 110, 0)] (by decide +kernel) rfl ?_
  refine Wk.cast (n := 3) (ev_is_ok (by decide +kernel)) (by decide +kernel) rfl (by decide) ?_
  show Wk l Ln xs YX12_init d 46 14950 574 [some (.ref 112)] [.ref 134, .ref 112] cS271 cM238 _
  refine Wk.run (pc' := 578) (ls' := [some (.ref 112)]) (st' := [.int 111, .int 1, .ref 134, .ref 134, .ref 112]) (m' := cM238) [(.dup, 0, 0, 0, 0), (.iconst 1, 0, 0, 1, 0), (.bipush 111, 0, 0, 111, 0)] (by decide +kernel) rfl ?_
  refine Wk.cast (n := 3) (ev_is_ok (by decide +kernel)) (by decide +kernel) rfl (by decide) ?_
  show Wk l Ln xs YX12_init d 46 14950 579 [some (.ref 112)] [.ref 134, .ref 112] cS271 cM239 _
  refine Wk.run (pc' := 583) (ls' := [some (.ref 112)]) (st' := [.int 116, .int 2, .ref 134, .ref 134, .ref 112]) (m' := cM239) [(.dup, 0, 0, 0, 0), (.iconst 2, 0, 0, 2, 0), (.bipush 116, 0, 0, 116, 0)] (by decide +kernel) rfl ?_
  refine Wk.cast (n := 3) (ev_is_ok (by decide +kernel)) (by decide +kernel) rfl (by decide) ?_
  show Wk l Ln xs YX12_init d 46 14950 584 [some (.ref 112)] [.ref 134, .ref 112] cS271 cM240 _
  refine Wk.putF (ci := 12) (k := 29) (idx := 78) (b := 134) (by decide +kernel) (by decide +kernel) rfl rfl (ev_is_ok (by decide +kernel)) (by decide +kernel) rfl (by decide +kernel) rfl (Or.inr ⟨_, rfl⟩) ?_
  show Wk l Ln xs YX12_init d 46 14950 587 [some (.ref 112)] [] cS272 cM240 _
  refine Wk.run (pc' := 589) (ls' := [some (.ref 112)]) (st' := [.int 3, .ref 112]) (m' := cM240) [(.aload_n 0, 0, 0, 0, 0), (.iconst 3, 0, 0, 3, 0)] (by decide +kernel) rfl ?_
  refine Wk.newa (at_ := .char) (N := 3) (code := 101) (ty := .char) rfl (Or.inr (Or.inl ⟨rfl, rfl, rfl⟩)) (ev_is_ok (by decide +kernel)) wa_char (by decide) (by decide) (by decide) (by decide +kernel) rfl rfl (by decide) (by decide) ?_
  show Wk l Ln xs YX12_init d 45 14947 591 [some (.ref 112)] [.ref 135, .ref 112] cS273 cM240 _
  refine Wk.run (pc' := 595) (ls' := [some (.ref 112)]) (st' := [.int 97, .int 0, .ref 135, .ref 135, .ref 112]) (m' := cM240) [(.dup, 0, 0, 0, 0), (.iconst 0, 0, 0, 0, 0), (.bipush 97, 0, 0, 97, 0)] (by decide +kernel) rfl ?_
  refine Wk.cast (n := 3) (ev_is_ok (by decide +kernel)) (by decide +kernel) rfl (by decide) ?_
  show Wk l Ln xs YX12_init d 45 14947 596 [some (.ref 112)] [.ref 135, .ref 112] cS273 cM241 _
  refine Wk.run (pc' := 600) (ls' := [some (.ref 112)]) (st' := [.int 108, .int 1, .ref 135, .ref 135, .ref 112]) (m' := cM241) [(.dup, 0, 0, 0, 0), (.iconst 1, 0, 0, 1, 0), (.bipush 108, 0, 0, 108, 0)] (by decide +kernel) rfl ?_
  refine Wk.cast (n := 3) (ev_is_ok (by decide +kernel)) (by decide +kernel) rfl (by decide) ?_
  show Wk l Ln xs YX12_init d 45 14947 601 [some (.ref 112)] [.ref 135, .ref 112] cS273 cM242 _
  refine Wk.run (pc' := 605) (ls' := [some (.ref 112)]) (st' := [.int 108, .int 2, .ref 135, .ref 135, .ref 112]) (m' := cM242) [(.dup, 0, 0, 0, 0), (.iconst 2, 0, 0, 2, 0), (.bipush 108, 0, 0, 108, 0)] (by decide +kernel) rfl ?_
  refine Wk.cast (n := 3) (ev_is_ok (by decide +kernel)) (by decide +kernel) rfl (by decide) ?_
  show Wk l Ln xs YX12_init d 45 14947 606 [some (.ref 112)] [.ref 135, .ref 112] cS273 cM243 _
  refine Wk.putF (ci := 12) (k := 30) (idx := 81) (b := 135) (by decide +kernel) (by decide +kernel) rfl rfl (ev_is_ok (by decide +kernel)) (by decide +kernel) rfl (by decide +kernel) rfl (Or.inr ⟨_, rfl⟩) ?_
  show Wk l Ln xs YX12_init d 45 14947 609 [some (.ref 112)] [] cS274 cM243 _
  refine Wk.run (pc' := 611) (ls' := [some (.ref 112)]) (st' := [.int 3, .ref 112]) (m' := cM243) [(.aload_n 0, 0, 0, 0, 0), (.iconst 3, 0, 0, 3, 0)] (by decide +kernel) rfl ?_
  refine Wk.newa (at_ := .char) (N := 3) (code := 101) (ty := .char) rfl (Or.inr (Or.inl ⟨rfl, rfl, rfl⟩)) (ev_is_ok (by decide +kernel)) wa_char (by decide) (by decide) (by decide) (by decide +kernel) rfl rfl (by decide) (by decide) ?_
  show Wk l Ln xs YX12_init d 44 14944 613 [some (.ref 112)] [.ref 136, .ref 112] cS275 cM243 _
  refine Wk.run (pc' := 617) (ls' := [some (.ref 112)]) (st' := [.int 109, .int 0, .ref 136, .ref 136, .ref 112]) (m' := cM243) [(.dup, 0, 0, 0, 0), (.iconst 0, 0, 0, 0, 0), (.bipush 109, 0, 0, 109, 0)] (by decide +kernel) rfl ?_
  refine Wk.cast (n := 3) (ev_is_ok (by decide +kernel)) (by decide +kernel) rfl (by decide) ?_
  show Wk l Ln xs YX12_init d 44 14944 618 [some (.ref 112)] [.ref 136, .ref 112] cS275 cM244 _
  refine Wk.run (pc' := 622) (ls' := [some (.ref 112)]) (st' := [.int 105, .int 1, .ref 136, .ref 136, .ref 112]) (m' := cM244) [(.dup, 0, 0, 0, 0), (.iconst 1, 0, 0, 1, 0), (.bipush 105, 0, 0, 105, 0)] (by decide +kernel) rfl ?_
  refine Wk.cast (n := 3) (ev_is_ok (by decide +kernel)) (by decide +kernel) rfl (by decide) ?_
  show Wk l Ln xs YX12_init d 44 14944 623 [some (.ref 112)] [.ref 136, .ref 112] cS275 cM245 _
  refine Wk.run (pc' := 627) (ls' := [some (.ref 112)]) (st' := [.int 110, .int 2, .ref 136, .ref 136, .ref 112]) (m' := cM245) [(.dup, 0, 0, 0, 0), (.iconst 2, 0, 0, 2, 0), (.bipush 110, 0, 0, 110, 0)] (by decide +kernel) rfl ?_
  refine Wk.cast (n := 3) (ev_is_ok (by decide +kernel)) (by decide +kernel) rfl (by decide) ?_
  show Wk l Ln xs YX12_init d 44 14944 628 [some (.ref 112)] [.ref 136, .ref 112] cS275 cM246 _
  refine Wk.putF (ci := 12) (k := 31) (idx := 84) (b := 136) (by decide +kernel) (by decide +kernel) rfl rfl (ev_is_ok (by decide +kernel)) (by decide +kernel) rfl (by decide +kernel) rfl (Or.inr ⟨_, rfl⟩) ?_
  show Wk l Ln xs YX12_init d 44 14944 631 [some (.ref 112)] [] cS276 cM246 _
  refine Wk.run (pc' := 633) (ls' := [some (.ref 112)]) (st' := [.int 3, .ref 112]) (m' := cM246) [(.aload_n 0, 0, 0, 0, 0), (.iconst 3, 0, 0, 3, 0)] (by decide +kernel) rfl ?_
  refine Wk.newa (at_ := .char) (N := 3) (code := 101) (ty := .char) rfl (Or.inr (Or.inl ⟨rfl, rfl, rfl⟩)) (ev_is_ok (by decide +kernel)) wa_char (by decide) (by decide) (by decide) (by decide +kernel) rfl rfl (by decide) (by decide) ?_
  show Wk l Ln xs YX12_init d 43 14941 635 [some (.ref 112)] [.ref 137, .ref 112] cS277 cM246 _
  refine Wk.run (pc' := 639) (ls' := [some (.ref 112)]) (st' := [.int 109, .int 0, .ref 137, .ref 137, .ref 112]) (m' := cM246) [(.dup, 0, 0, 0, 0), (.iconst 0, 0, 0, 0, 0), (.bipush 109, 0, 0, 109, 0)] (by decide +kernel) rfl ?_
  refine Wk.cast (n := 3) (ev_is_ok (by decide +kernel)) (by decide +kernel) rfl (by decide) ?_
  show Wk l Ln xs YX12_init d 43 14941 640 [some (.ref 112)] [.ref 137, .ref 112] cS277 cM247 _
  refine Wk.run (pc' := 644) (ls' := [some (.ref 112)]) (st' := [.int 97, .int 1, .ref 137, .ref 137, .ref 112]) (m' := cM247) [(.dup, 0, 0, 0, 0), (.iconst 1, 0, 0, 1, 0), (.bipush 97, 0, 0, 97, 0)] (by decide +kernel) rfl ?_
  refine Wk.cast (n := 3) (ev_is_ok (by decide +kernel)) (by decide +kernel) rfl (by decide) ?_
  show Wk l Ln xs YX12_init d 43 14941 645 [some (.ref 112)] [.ref 137, .ref 112] cS277 cM248 _
  refine Wk.run (pc' := 649) (ls' := [some (.ref 112)]) (st' := [.int 120, .int 2, .ref 137, .ref 137, .ref 112]) (m' := cM248) [(.dup, 0, 0, 0, 0), (.iconst 2, 0, 0, 2, 0), (.bipush 120, 0, 0, 120, 0)] (by decide +kernel) rfl ?_
  refine Wk.cast (n := 3) (ev_is_ok (by decide +kernel)) (by decide +kernel) rfl (by decide) ?_
  show Wk l Ln xs YX12_init d 43 14941 650 [some (.ref 112)] [.ref 137, .ref 112] cS277 cM249 _
  refine Wk.putF (ci := 12) (k := 32) (idx := 87) (b := 137) (by decide +kernel) (by decide +kernel) rfl rfl (ev_is_ok (by decide +kernel)) (by decide +kernel) rfl (by decide +kernel) rfl (Or.inr ⟨_, rfl⟩) ?_
  show Wk l Ln xs YX12_init d 43 14941 653 [some (.ref 112)] [] cS278 cM249 _
  refine Wk.run (pc' := 656) (ls' := [some (.ref 112)]) (st' := [.int 16, .ref 112]) (m' := cM249) [(.aload_n 0, 0, 0, 0, 0), (.bipush 16, 0, 0, 16, 0)] (by decide +kernel) rfl ?_
  refine Wk.newa (at_ := .long) (N := 16) (code := 102) (ty := .long) rfl (Or.inr (Or.inr (Or.inl ⟨rfl, rfl, rfl⟩))) (ev_is_ok (by decide +kernel)) wa_long (by decide) (by decide) (by decide) (by decide +kernel) rfl rfl (by decide) (by decide) ?_
  show Wk l Ln xs YX12_init d 42 14925 658 [some (.ref 112)] [.ref 138, .ref 112] cS279 cM249 _
  refine Wk.putF (ci := 12) (k := 37) (idx := 90) (b := 138) (by decide +kernel) (by decide +kernel) rfl rfl (ev_is_ok (by decide +kernel)) (by decide +kernel) rfl (by decide +kernel) rfl (Or.inr ⟨_, rfl⟩) ?_
  show Wk l Ln xs YX12_init d 42 14925 661 [some (.ref 112)] [] cS280 cM249 _
  refine Wk.run (pc' := 664) (ls' := [some (.ref 112)]) (st' := [.int 24, .ref 112]) (m' := cM249) [(.aload_n 0, 0, 0, 0, 0), (.bipush 24, 0, 0, 24, 0)] (by decide +kernel) rfl ?_
  refine Wk.newa (at_ := .int) (N := 24) (code := 100) (ty := .int) rfl (Or.inl ⟨rfl, rfl, rfl⟩) (ev_is_ok (by decide +kernel)) wa_int (by decide) (by decide) (by decide) (by decide +kernel) rfl rfl (by decide) (by decide) ?_
  show Wk l Ln xs YX12_init d 41 14901 666 [some (.ref 112)] [.ref 139, .ref 112] cS281 cM249 _
  refine Wk.putF (ci := 12) (k := 38) (idx := 94) (b := 139) (by decide +kernel) (by decide +kernel) rfl rfl (ev_is_ok (by decide +kernel)) (by decide +kernel) rfl (by decide +kernel) rfl (Or.inr ⟨_, rfl⟩) ?_
  show Wk l Ln xs YX12_init d 41 14901 669 [some (.ref 112)] [] cS282 cM249 _
  refine Wk.run (pc' := 672) (ls' := [some (.ref 112)]) (st' := [.int 6, .ref 112]) (m' := cM249) [(.aload_n 0, 0, 0, 0, 0), (.bipush 6, 0, 0, 6, 0)] (by decide +kernel) rfl ?_
  refine Wk.newa (at_ := .int) (N := 6) (code := 100) (ty := .int) rfl (Or.inl ⟨rfl, rfl, rfl⟩) (ev_is_ok (by decide +kernel)) wa_int (by decide) (by decide) (by decide) (by decide +kernel) rfl rfl (by decide) (by decide) ?_
  show Wk l Ln xs YX12_init d 40 14895 674 [some (.ref 112)] [.ref 140, .ref 112] cS283 cM249 _
  refine Wk.run (pc' := 677) (ls' := [some (.ref 112)]) (st' := [.int 4, .int 0, .ref 140, .ref 140, .ref 112]) (m' := cM249) [(.dup, 0, 0, 0, 0), (.iconst 0, 0, 0, 0, 0), (.iconst 4, 0, 0, 4, 0)] (by decide +kernel) rfl ?_
  refine Wk.iast (n := 6) (ev_is_ok (by decide +kernel)) (by decide +kernel) rfl (by decide) ?_
  show Wk l Ln xs YX12_init d 40 14895 678 [some (.ref 112)] [.ref 140, .ref 112] cS283 cM250 _
  refine Wk.run (pc' := 681) (ls' := [some (.ref 112)]) (st' := [.int 3, .int 1, .ref 140, .ref 140, .ref 112]) (m' := cM250) [(.dup, 0, 0, 0, 0), (.iconst 1, 0, 0, 1, 0), (.iconst 3, 0, 0, 3, 0)] (by decide +kernel) rfl ?_
  refine Wk.iast (n := 6) (ev_is_ok (by decide +kernel)) (by decide +kernel) rfl (by decide) ?_
  show Wk l Ln xs YX12_init d 40 14895 682 [some (.ref 112)] [.ref 140, .ref 112] cS283 cM251 _
  refine Wk.run (pc' := 685) (ls' := [some (.ref 112)]) (st' := [.int 0, .int 2, .ref 140, .ref 140, .ref 112]) (m' := cM251) [(.dup, 0, 0, 0, 0), (.iconst 2, 0, 0, 2, 0), (.iconst 0, 0, 0, 0, 0)] (by decide +kernel) rfl ?_
  refine Wk.iast (n := 6) (ev_is_ok (by decide +kernel)) (by decide +kernel) rfl (by decide) ?_
  show Wk l Ln xs YX12_init d 40 14895 686 [some (.ref 112)] [.ref 140, .ref 112] cS283 cM252 _
  refine Wk.run (pc' := 689) (ls' := [some (.ref 112)]) (st' := [.int 4, .int 3, .ref 140, .ref 140, .ref 112]) (m' := cM252) [(.dup, 0, 0, 0, 0), (.iconst 3, 0, 0, 3, 0), (.iconst 4, 0, 0, 4, 0)] (by decide +kernel) rfl ?_
  refine Wk.iast (n := 6) (ev_is_ok (by decide +kernel)) (by decide +kernel) rfl (by decide) ?_
  show Wk l Ln xs YX12_init d 40 14895 690 [some (.ref 112)] [.ref 140, .ref 112] cS283 cM253 _
  refine Wk.run (pc' := 693) (ls' := [some (.ref 112)]) (st' := [.int 3, .int 4, .ref 140, .ref 140, .ref 112]) (m' := cM253) [(.dup, 0, 0, 0, 0), (.iconst 4, 0, 0, 4, 0), (.iconst 3, 0, 0, 3, 0)] (by decide +kernel) rfl ?_
  refine Wk.iast (n := 6) (ev_is_ok (by decide +kernel)) (by decide +kernel) rfl (by decide) ?_
  show Wk l Ln xs YX12_init d 40 14895 694 [some (.ref 112)] [.ref 140, .ref 112] cS283 cM254 _
  refine Wk.run (pc' := 697) (ls' := [some (.ref 112)]) (st' := [.int 0, .int 5, .ref 140, .ref 140, .ref 112]) (m' := cM254) [(.dup, 0, 0, 0, 0), (.iconst 5, 0, 0, 5, 0), (.iconst 0, 0, 0, 0, 0)] (by decide +kernel) rfl ?_
  refine Wk.iast (n := 6) (ev_is_ok (by decide +kernel)) (by decide +kernel) rfl (by decide) ?_
  show Wk l Ln xs YX12_init d 40 14895 698 [some (.ref 112)] [.ref 140, .ref 112] cS283 cM255 _
  refine Wk.putF (ci := 12) (k := 39) (idx := 97) (b := 140) (by decide +kernel) (by decide +kernel) rfl rfl (ev_is_ok (by decide +kernel)) (by decide +kernel) rfl (by decide +kernel) rfl (Or.inr ⟨_, rfl⟩) ?_
  show Wk l Ln xs YX12_init d 40 14895 701 [some (.ref 112)] [] cS284 cM255 _
  refine Wk.run (pc' := 703) (ls' := [some (.ref 112)]) (st' := [.int 4, .ref 112]) (m' := cM255) [(.aload_n 0, 0, 0, 0, 0), (.iconst 4, 0, 0, 4, 0)] (by decide +kernel) rfl ?_
  refine Wk.newa (at_ := .int) (N := 4) (code := 100) (ty := .int) rfl (Or.inl ⟨rfl, rfl, rfl⟩) (ev_is_ok (by decide +kernel)) wa_int (by decide) (by decide) (by decide) (by decide +kernel) rfl rfl (by decide) (by decide) ?_
  show Wk l Ln xs YX12_init d 39 14891 705 [some (.ref 112)] [.ref 141, .ref 112] cS285 cM255 _
  refine Wk.run (pc' := 708) (ls' := [some (.ref 112)]) (st' := [.int (-1), .int 0, .ref 141, .ref 141, .ref 112]) (m' := cM255) [(.dup, 0, 0, 0, 0), (.iconst 0, 0, 0, 0, 0), (.iconst (-1), 0, 0, (-1), 0)] (by decide +kernel) rfl ?_
  refine Wk.iast (n := 4) (ev_is_ok (by decide +kernel)) (by decide +kernel) rfl (by decide) ?_
  show Wk l Ln xs YX12_init d 39 14891 709 [some (.ref 112)] [.ref 141, .ref 112] cS285 cM256 _
  refine Wk.run (pc' := 712) (ls' := [some (.ref 112)]) (st' := [.int (-1), .int 1, .ref 141, .ref 141, .ref 112]) (m' := cM256) [(.dup, 0, 0, 0, 0), (.iconst 1, 0, 0, 1, 0), (.iconst (-1), 0, 0, (-1), 0)] (by decide +kernel) rfl ?_
  refine Wk.iast (n := 4) (ev_is_ok (by decide +kernel)) (by decide +kernel) rfl (by decide) ?_
  show Wk l Ln xs YX12_init d 39 14891 713 [some (.ref 112)] [.ref 141, .ref 112] cS285 cM257 _
  refine Wk.run (pc' := 716) (ls' := [some (.ref 112)]) (st' := [.int (-1), .int 2, .ref 141, .ref 141, .ref 112]) (m' := cM257) [(.dup, 0, 0, 0, 0), (.iconst 2, 0, 0, 2, 0), (.iconst (-1), 0, 0, (-1), 0)] (by decide +kernel) rfl ?_
  refine Wk.iast (n := 4) (ev_is_ok (by decide +kernel)) (by decide +kernel) rfl (by decide) ?_
  show Wk l Ln xs YX12_init d 39 14891 717 [some (.ref 112)] [.ref 141, .ref 112] cS285 cM258 _
  refine Wk.run (pc' := 720) (ls' := [some (.ref 112)]) (st' := [.int (-1), .int 3, .ref 141, .ref 141, .ref 112]) (m' := cM258) [(.dup, 0, 0, 0, 0), (.iconst 3, 0, 0, 3, 0), (.iconst (-1), 0, 0, (-1), 0)] (by decide +kernel) rfl ?_
  refine Wk.iast (n := 4) (ev_is_ok (by decide +kernel)) (by decide +kernel) rfl (by decide) ?_
  show Wk l Ln xs YX12_init d 39 14891 721 [some (.ref 112)] [.ref 141, .ref 112] cS285 cM259 _
  refine Wk.putF (ci := 12) (k := 40) (idx := 100) (b := 141) (by decide +kernel) (by decide +kernel) rfl rfl (ev_is_ok (by decide +kernel)) (by decide +kernel) rfl (by decide +kernel) rfl (Or.inr ⟨_, rfl⟩) ?_
  show Wk l Ln xs YX12_init d 39 14891 724 [some (.ref 112)] [] cS286 cM259 _
  refine Wk.run (pc' := 726) (ls' := [some (.ref 112)]) (st' := [.int 4, .ref 112]) (m' := cM259) [(.aload_n 0, 0, 0, 0, 0), (.iconst 4, 0, 0, 4, 0)] (by decide +kernel) rfl ?_
  refine Wk.newa (at_ := .int) (N := 4) (code := 100) (ty := .int) rfl (Or.inl ⟨rfl, rfl, rfl⟩) (ev_is_ok (by decide +kernel)) wa_int (by decide) (by decide) (by decide) (by decide +kernel) rfl rfl (by decide) (by decide) ?_
  show Wk l Ln xs YX12_init d 38 14887 728 [some (.ref 112)] [.ref 142, .ref 112] cS287 cM259 _
  refine Wk.putF (ci := 12) (k := 41) (idx := 103) (b := 142) (by decide +kernel) (by decide +kernel) rfl rfl (ev_is_ok (by decide +kernel)) (by decide +kernel) rfl (by decide +kernel) rfl (Or.inr ⟨_, rfl⟩) ?_
  show Wk l Ln xs YX12_init d 38 14887 731 [some (.ref 112)] [] cS288 cM259 _
  refine Wk.run (pc' := 735) (ls' := [some (.ref 112)]) (st' := [.int 3200, .ref 112]) (m' := cM259) [(.aload_n 0, 0, 0, 0, 0), (.sipush 3200, 0, 0, 3200, 0)] (by decide +kernel) rfl ?_
  refine Wk.newa (at_ := .int) (N := 3200) (code := 100) (ty := .int) rfl (Or.inl ⟨rfl, rfl, rfl⟩) (ev_is_ok (by decide +kernel)) wa_int (by decide) (by decide) (by decide) (by decide +kernel) rfl rfl (by decide) (by decide) ?_
  show Wk l Ln xs YX12_init d 37 11687 737 [some (.ref 112)] [.ref 143, .ref 112] cS289 cM259 _
  refine Wk.putF (ci := 12) (k := 42) (idx := 106) (b := 143) (by decide +kernel) (by decide +kernel) rfl rfl (ev_is_ok (by decide +kernel)) (by decide +kernel) rfl (by decide +kernel) rfl (Or.inr ⟨_, rfl⟩) ?_
  show Wk l Ln xs YX12_init d 37 11687 740 [some (.ref 112)] [] cS290 cM259 _
  refine Wk.run (pc' := 744) (ls' := [some (.ref 112)]) (st' := [.int 147, .ref 112]) (m' := cM259) [(.aload_n 0, 0, 0, 0, 0), (.sipush 147, 0, 0, 147, 0)] (by decide +kernel) rfl ?_
  refine Wk.newa (at_ := .int) (N := 147) (code := 100) (ty := .int) rfl (Or.inl ⟨rfl, rfl, rfl⟩) (ev_is_ok (by decide +kernel)) wa_int (by decide) (by decide) (by decide) (by decide +kernel) rfl rfl (by decide) (by decide) ?_
  show Wk l Ln xs YX12_init d 36 11540 746 [some (.ref 112)] [.ref 144, .ref 112] cS291 cM259 _
  refine Wk.putF (ci := 12) (k := 47) (idx := 109) (b := 144) (by decide +kernel) (by decide +kernel) rfl rfl (ev_is_ok (by decide +kernel)) (by decide +kernel) rfl (by decide +kernel) rfl (Or.inr ⟨_, rfl⟩) ?_
  show Wk l Ln xs YX12_init d 36 11540 749 [some (.ref 112)] [] cS292 cM259 _
  refine Wk.run (pc' := 752) (ls' := [some (.ref 112)]) (st' := [.int 26, .ref 112]) (m' := cM259) [(.aload_n 0, 0, 0, 0, 0), (.bipush 26, 0, 0, 26, 0)] (by decide +kernel) rfl ?_
  refine Wk.newa (at_ := .int) (N := 26) (code := 100) (ty := .int) rfl (Or.inl ⟨rfl, rfl, rfl⟩) (ev_is_ok (by decide +kernel)) wa_int (by decide) (by decide) (by decide) (by decide +kernel) rfl rfl (by decide) (by decide) ?_
  show Wk l Ln xs YX12_init d 35 11514 754 [some (.ref 112)] [.ref 145, .ref 112] cS293 cM259 _
  refine Wk.putF (ci := 12) (k := 48) (idx := 112) (b := 145) (by decide +kernel) (by decide +kernel) rfl rfl (ev_is_ok (by decide +kernel)) (by decide +kernel) rfl (by decide +kernel) rfl (Or.inr ⟨_, rfl⟩) ?_
  show Wk l Ln xs YX12_init d 35 11514 757 [some (.ref 112)] [] cS294 cM259 _
  refine Wk.run (pc' := 760) (ls' := [some (.ref 112)]) (st' := [.int 8, .ref 112]) (m' := cM259) [(.aload_n 0, 0, 0, 0, 0), (.bipush 8, 0, 0, 8, 0)] (by decide +kernel) rfl ?_
  refine Wk.newa (at_ := .int) (N := 8) (code := 100) (ty := .int) rfl (Or.inl ⟨rfl, rfl, rfl⟩) (ev_is_ok (by decide +kernel)) wa_int (by decide) (by decide) (by decide) (by decide +kernel) rfl rfl (by decide) (by decide) ?_
  show Wk l Ln xs YX12_init d 34 11506 762 [some (.ref 112)] [.ref 146, .ref 112] cS295 cM259 _
  refine Wk.putF (ci := 12) (k := 52) (idx := 115) (b := 146) (by decide +kernel) (by decide +kernel) rfl rfl (ev_is_ok (by decide +kernel)) (by decide +kernel) rfl (by decide +kernel) rfl (Or.inr ⟨_, rfl⟩) ?_
  show Wk l Ln xs YX12_init d 34 11506 765 [some (.ref 112)] [] cS296 cM259 _
  refine Wk.run (pc' := 769) (ls' := [some (.ref 112)]) (st' := [.int 549, .ref 112]) (m' := cM259) [(.aload_n 0, 0, 0, 0, 0), (.sipush 549, 0, 0, 549, 0)] (by decide +kernel) rfl ?_
  refine Wk.newa (at_ := .int) (N := 549) (code := 100) (ty := .int) rfl (Or.inl ⟨rfl, rfl, rfl⟩) (ev_is_ok (by decide +kernel)) wa_int (by decide) (by decide) (by decide) (by decide +kernel) rfl rfl (by decide) (by decide) ?_
  show Wk l Ln xs YX12_init d 33 10957 771 [some (.ref 112)] [.ref 147, .ref 112] cS297 cM259 _
  refine Wk.putF (ci := 12) (k := 57) (idx := 118) (b := 147) (by decide +kernel) (by decide +kernel) rfl rfl (ev_is_ok (by decide +kernel)) (by decide +kernel) rfl (by decide +kernel) rfl (Or.inr ⟨_, rfl⟩) ?_
  show Wk l Ln xs YX12_init d 33 10957 774 [some (.ref 112)] [] cS298 cM259 _
  refine Wk.run (pc' := 777) (ls' := [some (.ref 112)]) (st' := [.int 48, .ref 112]) (m' := cM259) [(.aload_n 0, 0, 0, 0, 0), (.bipush 48, 0, 0, 48, 0)] (by decide +kernel) rfl ?_
  refine Wk.newa (at_ := .int) (N := 48) (code := 100) (ty := .int) rfl (Or.inl ⟨rfl, rfl, rfl⟩) (ev_is_ok (by decide +kernel)) wa_int (by decide) (by decide) (by decide) (by decide +kernel) rfl rfl (by decide) (by decide) ?_
  show Wk l Ln xs YX12_init d 32 10909 779 [some (.ref 112)] [.ref 148, .ref 112] cS299 cM259 _
  refine Wk.putF (ci := 12) (k := 59) (idx := 121) (b := 148) (by decide +kernel) (by decide +kernel) rfl rfl (ev_is_ok (by decide +kernel)) (by decide +kernel) rfl (by decide +kernel) rfl (Or.inr ⟨_, rfl⟩) ?_
  show Wk l Ln xs YX12_init d 32 10909 782 [some (.ref 112)] [] cS300 cM259 _
  refine Wk.run (pc' := 786) (ls' := [some (.ref 112)]) (st' := [.int 2480, .ref 112]) (m' := cM259) [(.aload_n 0, 0, 0, 0, 0), (.sipush 2480, 0, 0, 2480, 0)] (by decide +kernel) rfl ?_
  refine Wk.newa (at_ := .int) (N := 2480) (code := 100) (ty := .int) rfl (Or.inl ⟨rfl, rfl, rfl⟩) (ev_is_ok (by decide +kernel)) wa_int (by decide) (by decide) (by decide) (by decide +kernel) rfl rfl (by decide) (by decide) ?_
  show Wk l Ln xs YX12_init d 31 8429 788 [some (.ref 112)] [.ref 149, .ref 112] cS301 cM259 _
  refine Wk.putF (ci := 12) (k := 60) (idx := 124) (b := 149) (by decide +kernel) (by decide +kernel) rfl rfl (ev_is_ok (by decide +kernel)) (by decide +kernel) rfl (by decide +kernel) rfl (Or.inr ⟨_, rfl⟩) ?_
  show Wk l Ln xs YX12_init d 31 8429 791 [some (.ref 112)] [] cS302 cM259 _
  refine Wk.run (pc' := 794) (ls' := [some (.ref 112)]) (st' := [.int 10, .ref 112]) (m' := cM259) [(.aload_n 0, 0, 0, 0, 0), (.bipush 10, 0, 0, 10, 0)] (by decide +kernel) rfl ?_
  refine Wk.newa (at_ := .boolean) (N := 10) (code := 103) (ty := .boolean) rfl (Or.inr (Or.inr (Or.inr ⟨rfl, rfl, rfl⟩))) (ev_is_ok (by decide +kernel)) wa_boolean (by decide) (by decide) (by decide) (by decide +kernel) rfl rfl (by decide) (by decide) ?_
  show Wk l Ln xs YX12_init d 30 8419 796 [some (.ref 112)] [.ref 150, .ref 112] cS303 cM259 _
  refine Wk.putF (ci := 12) (k := 61) (idx := 127) (b := 150) (by decide +kernel) (by decide +kernel) rfl rfl (ev_is_ok (by decide +kernel)) (by decide +kernel) rfl (by decide +kernel) rfl (Or.inr ⟨_, rfl⟩) ?_
  show Wk l Ln xs YX12_init d 30 8419 799 [some (.ref 112)] [] cS304 cM259 _
  refine Wk.run (pc' := 803) (ls' := [some (.ref 112)]) (st' := [.int 2940, .ref 112]) (m' := cM259) [(.aload_n 0, 0, 0, 0, 0), (.sipush 2940, 0, 0, 2940, 0)] (by decide +kernel) rfl ?_
  refine Wk.newa (at_ := .int) (N := 2940) (code := 100) (ty := .int) rfl (Or.inl ⟨rfl, rfl, rfl⟩) (ev_is_ok (by decide +kernel)) wa_int (by decide) (by decide) (by decide) (by decide +kernel) rfl rfl (by decide) (by decide) ?_
  show Wk l Ln xs YX12_init d 29 5479 805 [some (.ref 112)] [.ref 151, .ref 112] cS305 cM259 _
  refine Wk.putF (ci := 12) (k := 63) (idx := 131) (b := 151) (by decide +kernel) (by decide +kernel) rfl rfl (ev_is_ok (by decide +kernel)) (by decide +kernel) rfl (by decide +kernel) rfl (Or.inr ⟨_, rfl⟩) ?_
  show Wk l Ln xs YX12_init d 29 5479 808 [some (.ref 112)] [] cS306 cM259 _
  refine Wk.run (pc' := 817) (ls' := [some (.ref 112)]) (st' := [.int 248, .ref 112]) (m' := cM260) [(.aload_n 0, 0, 0, 0, 0), (.lconst 1, 0, 0, 0, 1), (.putfield 134, 12, 66, 0, 0), (.aload_n 0, 0, 0, 0, 0), (.sipush 248, 0, 0, 248, 0)] (by decide +kernel) rfl ?_
  refine Wk.newa (at_ := .int) (N := 248) (code := 100) (ty := .int) rfl (Or.inl ⟨rfl, rfl, rfl⟩) (ev_is_ok (by decide +kernel)) wa_int (by decide) (by decide) (by decide) (by decide +kernel) rfl rfl (by decide) (by decide) ?_
  show Wk l Ln xs YX12_init d 28 5231 819 [some (.ref 112)] [.ref 152, .ref 112] cS307 cM260 _
  refine Wk.putF (ci := 12) (k := 67) (idx := 138) (b := 152) (by decide +kernel) (by decide +kernel) rfl rfl (ev_is_ok (by decide +kernel)) (by decide +kernel) rfl (by decide +kernel) rfl (Or.inr ⟨_, rfl⟩) ?_
  show Wk l Ln xs YX12_init d 28 5231 822 [some (.ref 112)] [] cS308 cM260 _
  refine Wk.run (pc' := 825) (ls' := [some (.ref 112)]) (st' := [.int 8, .ref 112]) (m' := cM260) [(.aload_n 0, 0, 0, 0, 0), (.bipush 8, 0, 0, 8, 0)] (by decide +kernel) rfl ?_
  refine Wk.newa (at_ := .int) (N := 8) (code := 100) (ty := .int) rfl (Or.inl ⟨rfl, rfl, rfl⟩) (ev_is_ok (by decide +kernel)) wa_int (by decide) (by decide) (by decide) (by decide +kernel) rfl rfl (by decide) (by decide) ?_
  show Wk l Ln xs YX12_init d 27 5223 827 [some (.ref 112)] [.ref 153, .ref 112] cS309 cM260 _
  refine Wk.putF (ci := 12) (k := 68) (idx := 141) (b := 153) (by decide +kernel) (by decide +kernel) rfl rfl (ev_is_ok (by decide +kernel)) (by decide +kernel) rfl (by decide +kernel) rfl (Or.inr ⟨_, rfl⟩) ?_
  show Wk l Ln xs YX12_init d 27 5223 830 [some (.ref 112)] [] cS310 cM260 _
  refine Wk.run (pc' := 832) (ls' := [some (.ref 112)]) (st' := [.int 5, .ref 112]) (m' := cM260) [(.aload_n 0, 0, 0, 0, 0), (.iconst 5, 0, 0, 5, 0)] (by decide +kernel) rfl ?_
  refine Wk.newa (at_ := .char) (N := 5) (code := 101) (ty := .char) rfl (Or.inr (Or.inl ⟨rfl, rfl, rfl⟩)) (ev_is_ok (by decide +kernel)) wa_char (by decide) (by decide) (by decide) (by decide +kernel) rfl rfl (by decide) (by decide) ?_
  show Wk l Ln xs YX12_init d 26 5218 834 [some (.ref 112)] [.ref 154, .ref 112] cS311 cM260 _
  refine Wk.run (pc' := 838) (ls' := [some (.ref 112)]) (st' := [.int 102, .int 0, .ref 154, .ref 154, .ref 112]) (m' := cM260) [(.dup, 0, 0, 0, 0), (.iconst 0, 0, 0, 0, 0), (.bipush 102, 0, 0, 102, 0)] (by decide +kernel) rfl ?_
  refine Wk.cast (n := 5) (ev_is_ok (by decide +kernel)) (by decide +kernel) rfl (by decide) ?_
  show Wk l Ln xs YX12_init d 26 5218 839 [some (.ref 112)] [.ref 154, .ref 112] cS311 cM261 _
  refine Wk.run (pc' := 843) (ls' := [some (.ref 112)]) (st' := [.int 105, .int 1, .ref 154, .ref 154, .ref 112]) (m' := cM261) [(.dup, 0, 0, 0, 0), (.iconst 1, 0, 0, 1, 0), (.bipush 105, 0, 0, 105, 0)] (by decide +kernel) rfl ?_
  refine Wk.cast (n := 5) (ev_is_ok (by decide +kernel)) (by decide +kernel) rfl (by decide) ?_
  show Wk l Ln xs YX12_init d 26 5218 844 [some (.ref 112)] [.ref 154, .ref 112] cS311 cM262 _
  refine Wk.run (pc' := 848) (ls' := [some (.ref 112)]) (st' := [.int 114, .int 2, .ref 154, .ref 154, .ref 112]) (m' := cM262) [(.dup, 0, 0, 0, 0), (.iconst 2, 0, 0, 2, 0), (.bipush 114, 0, 0, 114, 0)] (by decide +kernel) rfl ?_
  refine Wk.cast (n := 5) (ev_is_ok (by decide +kernel)) (by decide +kernel) rfl (by decide) ?_
  show Wk l Ln xs YX12_init d 26 5218 849 [some (.ref 112)] [.ref 154, .ref 112] cS311 cM263 _
  refine Wk.run (pc' := 853) (ls' := [some (.ref 112)]) (st' := [.int 115, .int 3, .ref 154, .ref 154, .ref 112]) (m' := cM263) [(.dup, 0, 0, 0, 0), (.iconst 3, 0, 0, 3, 0), (.bipush 115, 0, 0, 115, 0)] (by decide +kernel) rfl ?_
  refine Wk.cast (n := 5) (ev_is_ok (by decide +kernel)) (by decide +kernel) rfl (by decide) ?_
  show Wk l Ln xs YX12_init d 26 5218 854 [some (.ref 112)] [.ref 154, .ref 112] cS311 cM264 _
  refine Wk.run (pc' := 858) (ls' := [some (.ref 112)]) (st' := [.int 116, .int 4, .ref 154, .ref 154, .ref 112]) (m' := cM264) [(.dup, 0, 0, 0, 0), (.iconst 4, 0, 0, 4, 0), (.bipush 116, 0, 0, 116, 0)] (by decide +kernel) rfl ?_
  refine Wk.cast (n := 5) (ev_is_ok (by decide +kernel)) (by decide +kernel) rfl (by decide) ?_
  show Wk l Ln xs YX12_init d 26 5218 859 [some (.ref 112)] [.ref 154, .ref 112] cS311 cM265 _
  refine Wk.putF (ci := 12) (k := 69) (idx := 144) (b := 154) (by decide +kernel) (by decide +kernel) rfl rfl (ev_is_ok (by decide +kernel)) (by decide +kernel) rfl (by decide +kernel) rfl (Or.inr ⟨_, rfl⟩) ?_
  show Wk l Ln xs YX12_init d 26 5218 862 [some (.ref 112)] [] cS312 cM265 _
  refine Wk.run (pc' := 864) (ls' := [some (.ref 112)]) (st' := [.int 4, .ref 112]) (m' := cM265) [(.aload_n 0, 0, 0, 0, 0), (.iconst 4, 0, 0, 4, 0)] (by decide +kernel) rfl ?_
  refine Wk.newa (at_ := .char) (N := 4) (code := 101) (ty := .char) rfl (Or.inr (Or.inl ⟨rfl, rfl, rfl⟩)) (ev_is_ok (by decide +kernel)) wa_char (by decide) (by decide) (by decide) (by decide +kernel) rfl rfl (by decide) (by decide) ?_
  show Wk l Ln xs YX12_init d 25 5214 866 [some (.ref 112)] [.ref 155, .ref 112] cS313 cM265 _
  refine Wk.run (pc' := 870) (ls' := [some (.ref 112)]) (st' := [.int 108, .int 0, .ref 155, .ref 155, .ref 112]) (m' := cM265) [(.dup, 0, 0, 0, 0), (.iconst 0, 0, 0, 0, 0), (.bipush 108, 0, 0, 108, 0)] (by decide +kernel) rfl ?_
  refine Wk.cast (n := 4) (ev_is_ok (by decide +kernel)) (by decide +kernel) rfl (by decide) ?_
  show Wk l Ln xs YX12_init d 25 5214 871 [some (.ref 112)] [.ref 155, .ref 112] cS313 cM266 _
  refine Wk.run (pc' := 875) (ls' := [some (.ref 112)]) (st' := [.int 97, .int 1, .ref 155, .ref 155, .ref 112]) (m' := cM266) [(.dup, 0, 0, 0, 0), (.iconst 1, 0, 0, 1, 0), (.bipush 97, 0, 0, 97, 0)] (by decide +kernel) rfl ?_
  refine Wk.cast (n := 4) (ev_is_ok (by decide +kernel)) (by decide +kernel) rfl (by decide) ?_
  show Wk l Ln xs YX12_init d 25 5214 876 [some (.ref 112)] [.ref 155, .ref 112] cS313 cM267 _
  refine Wk.run (pc' := 880) (ls' := [some (.ref 112)]) (st' := [.int 115, .int 2, .ref 155, .ref 155, .ref 112]) (m' := cM267) [(.dup, 0, 0, 0, 0), (.iconst 2, 0, 0, 2, 0), (.bipush 115, 0, 0, 115, 0)] (by decide +kernel) rfl ?_
  refine Wk.cast (n := 4) (ev_is_ok (by decide +kernel)) (by decide +kernel) rfl (by decide) ?_
  show Wk l Ln xs YX12_init d 25 5214 881 [some (.ref 112)] [.ref 155, .ref 112] cS313 cM268 _
  refine Wk.run (pc' := 885) (ls' := [some (.ref 112)]) (st' := [.int 116, .int 3, .ref 155, .ref 155, .ref 112]) (m' := cM268) [(.dup, 0, 0, 0, 0), (.iconst 3, 0, 0, 3, 0), (.bipush 116, 0, 0, 116, 0)] (by decide +kernel) rfl ?_
  refine Wk.cast (n := 4) (ev_is_ok (by decide +kernel)) (by decide +kernel) rfl (by decide) ?_
  show Wk l Ln xs YX12_init d 25 5214 886 [some (.ref 112)] [.ref 155, .ref 112] cS313 cM269 _
  refine Wk.putF (ci := 12) (k := 70) (idx := 147) (b := 155) (by decide +kernel) (by decide +kernel) rfl rfl (ev_is_ok (by decide +kernel)) (by decide +kernel) rfl (by decide +kernel) rfl (Or.inr ⟨_, rfl⟩) ?_
  show Wk l Ln xs YX12_init d 25 5214 889 [some (.ref 112)] [] cS314 cM269 _
  refine Wk.run (pc' := 891) (ls' := [some (.ref 112)]) (st' := [.int 5, .ref 112]) (m' := cM269) [(.aload_n 0, 0, 0, 0, 0), (.iconst 5, 0, 0, 5, 0)] (by decide +kernel) rfl ?_
  refine Wk.newa (at_ := .char) (N := 5) (code := 101) (ty := .char) rfl (Or.inr (Or.inl ⟨rfl, rfl, rfl⟩)) (ev_is_ok (by decide +kernel)) wa_char (by decide) (by decide) (by decide) (by decide +kernel) rfl rfl (by decide) (by decide) ?_
  show Wk l Ln xs YX12_init d 24 5209 893 [some (.ref 112)] [.ref 156, .ref 112] cS315 cM269 _
  refine Wk.run (pc' := 897) (ls' := [some (.ref 112)]) (st' := [.int 111, .int 0, .ref 156, .ref 156, .ref 112]) (m' := cM269) [(.dup, 0, 0, 0, 0), (.iconst 0, 0, 0, 0, 0), (.bipush 111, 0, 0, 111, 0)] (by decide +kernel) rfl ?_
  refine Wk.cast (n := 5) (ev_is_ok (by decide +kernel)) (by decide +kernel) rfl (by decide) ?_
  show Wk l Ln xs YX12_init d 24 5209 898 [some (.ref 112)] [.ref 156, .ref 112] cS315 cM270 _
  refine Wk.run (pc' := 902) (ls' := [some (.ref 112)]) (st' := [.int 102, .int 1, .ref 156, .ref 156, .ref 112]) (m' := cM270) [(.dup, 0, 0, 0, 0), (.iconst 1, 0, 0, 1, 0), (.bipush 102, 0, 0, 102, 0)] (by decide +kernel) rfl ?_
  refine Wk.cast (n := 5) (ev_is_ok (by decide +kernel)) (by decide +kernel) rfl (by decide) ?_
  show Wk l Ln xs YX12_init d 24 5209 903 [some (.ref 112)] [.ref 156, .ref 112] cS315 cM271 _
  refine Wk.run (pc' := 907) (ls' := [some (.ref 112)]) (st' := [.int 116, .int 2, .ref 156, .ref 156, .ref 112]) (m' := cM271) [(.dup, 0, 0, 0, 0), (.iconst 2, 0, 0, 2, 0), (.bipush 116, 0, 0, 116, 0)] (by decide +kernel) rfl ?_
  refine Wk.cast (n := 5) (ev_is_ok (by decide +kernel)) (by decide +kernel) rfl (by decide) ?_
  show Wk l Ln xs YX12_init d 24 5209 908 [some (.ref 112)] [.ref 156, .ref 112] cS315 cM272 _
  refine Wk.run (pc' := 912) (ls' := [some (.ref 112)]) (st' := [.int 101, .int 3, .ref 156, .ref 156, .ref 112]) (m' := cM272) [(.dup, 0, 0, 0, 0), (.iconst 3, 0, 0, 3, 0), (.bipush 101, 0, 0, 101, 0)] (by decide +kernel) rfl ?_
  refine Wk.cast (n := 5) (ev_is_ok (by decide +kernel)) (by decide +kernel) rfl (by decide) ?_
  show Wk l Ln xs YX12_init d 24 5209 913 [some (.ref 112)] [.ref 156, .ref 112] cS315 cM273 _
  refine Wk.run (pc' := 917) (ls' := [some (.ref 112)]) (st' := [.int 110, .int 4, .ref 156, .ref 156, .ref 112]) (m' := cM273) [(.dup, 0, 0, 0, 0), (.iconst 4, 0, 0, 4, 0), (.bipush 110, 0, 0, 110, 0)] (by decide +kernel) rfl ?_
  refine Wk.cast (n := 5) (ev_is_ok (by decide +kernel)) (by decide +kernel) rfl (by decide) ?_
  show Wk l Ln xs YX12_init d 24 5209 918 [some (.ref 112)] [.ref 156, .ref 112] cS315 cM274 _
  refine Wk.putF (ci := 12) (k := 71) (idx := 150) (b := 156) (by decide +kernel) (by decide +kernel) rfl rfl (ev_is_ok (by decide +kernel)) (by decide +kernel) rfl (by decide +kernel) rfl (Or.inr ⟨_, rfl⟩) ?_
  show Wk l Ln xs YX12_init d 24 5209 921 [some (.ref 112)] [] cS316 cM274 _
  refine Wk.run (pc' := 923) (ls' := [some (.ref 112)]) (st' := [.int 5, .ref 112]) (m' := cM274) [(.aload_n 0, 0, 0, 0, 0), (.iconst 5, 0, 0, 5, 0)] (by decide +kernel) rfl ?_
  refine Wk.newa (at_ := .char) (N := 5) (code := 101) (ty := .char) rfl (Or.inr (Or.inl ⟨rfl, rfl, rfl⟩)) (ev_is_ok (by decide +kernel)) wa_char (by decide) (by decide) (by decide) (by decide +kernel) rfl rfl (by decide) (by decide) ?_
  show Wk l Ln xs YX12_init d 23 5204 925 [some (.ref 112)] [.ref 157, .ref 112] cS317 cM274 _
  refine Wk.run (pc' := 929) (ls' := [some (.ref 112)]) (st' := [.int 116, .int 0, .ref 157, .ref 157, .ref 112]) (m' := cM274) [(.dup, 0, 0, 0, 0), (.iconst 0, 0, 0, 0, 0), (.bipush 116, 0, 0, 116, 0)] (by decide +kernel) rfl ?_
  refine Wk.cast (n := 5) (ev_is_ok (by decide +kernel)) (by decide +kernel) rfl (by decide) ?_
  show Wk l Ln xs YX12_init d 23 5204 930 [some (.ref 112)] [.ref 157, .ref 112] cS317 cM275 _
  refine Wk.run (pc' := 934) (ls' := [some (.ref 112)]) (st' := [.int 111, .int 1, .ref 157, .ref 157, .ref 112]) (m' := cM275) [(.dup, 0, 0, 0, 0), (.iconst 1, 0, 0, 1, 0), (.bipush 111, 0, 0, 111, 0)] (by decide +kernel) rfl ?_
  refine Wk.cast (n := 5) (ev_is_ok (by decide +kernel)) (by decide +kernel) rfl (by decide) ?_
  show Wk l Ln xs YX12_init d 23 5204 935 [some (.ref 112)] [.ref 157, .ref 112] cS317 cM276 _
  refine Wk.run (pc' := 939) (ls' := [some (.ref 112)]) (st' := [.int 116, .int 2, .ref 157, .ref 157, .ref 112]) (m' := cM276) [(.dup, 0, 0, 0, 0), (.iconst 2, 0, 0, 2, 0), (.bipush 116, 0, 0, 116, 0)] (by decide +kernel) rfl ?_
  refine Wk.cast (n := 5) (ev_is_ok (by decide +kernel)) (by decide +kernel) rfl (by decide) ?_
  show Wk l Ln xs YX12_init d 23 5204 940 [some (.ref 112)] [.ref 157, .ref 112] cS317 cM277 _
  refine Wk.run (pc' := 944) (ls' := [some (.ref 112)]) (st' := [.int 97, .int 3, .ref 157, .ref 157, .ref 112]) (m' := cM277) [(.dup, 0, 0, 0, 0), (.iconst 3, 0, 0, 3, 0), (.bipush 97, 0, 0, 97, 0)] (by decide +kernel) rfl ?_
  refine Wk.cast (n := 5) (ev_is_ok (by decide +kernel)) (by decide +kernel) rfl (by decide) ?_
  show Wk l Ln xs YX12_init d 23 5204 945 [some (.ref 112)] [.ref 157, .ref 112] cS317 cM278 _
  refine Wk.run (pc' := 949) (ls' := [some (.ref 112)]) (st' := [.int 108, .int 4, .ref 157, .ref 157, .ref 112]) (m' := cM278) [(.dup, 0, 0, 0, 0), (.iconst 4, 0, 0, 4, 0), (.bipush 108, 0, 0, 108, 0)] (by decide +kernel) rfl ?_
  refine Wk.cast (n := 5) (ev_is_ok (by decide +kernel)) (by decide +kernel) rfl (by decide) ?_
  show Wk l Ln xs YX12_init d 23 5204 950 [some (.ref 112)] [.ref 157, .ref 112] cS317 cM279 _
  refine Wk.putF (ci := 12) (k := 72) (idx := 153) (b := 157) (by decide +kernel) (by decide +kernel) rfl rfl (ev_is_ok (by decide +kernel)) (by decide +kernel) rfl (by decide +kernel) rfl (Or.inr ⟨_, rfl⟩) ?_
  show Wk l Ln xs YX12_init d 23 5204 953 [some (.ref 112)] [] cS318 cM279 _
  refine Wk.run (pc' := 955) (ls' := [some (.ref 112)]) (st' := [.int 4, .ref 112]) (m' := cM279) [(.aload_n 0, 0, 0, 0, 0), (.iconst 4, 0, 0, 4, 0)] (by decide +kernel) rfl ?_
  refine Wk.newa (at_ := .char) (N := 4) (code := 101) (ty := .char) rfl (Or.inr (Or.inl ⟨rfl, rfl, rfl⟩)) (ev_is_ok (by decide +kernel)) wa_char (by decide) (by decide) (by decide) (by decide +kernel) rfl rfl (by decide) (by decide) ?_
  show Wk l Ln xs YX12_init d 22 5200 957 [some (.ref 112)] [.ref 158, .ref 112] cS319 cM279 _
  refine Wk.run (pc' := 961) (ls' := [some (.ref 112)]) (st' := [.int 109, .int 0, .ref 158, .ref 158, .ref 112]) (m' := cM279) [(.dup, 0, 0, 0, 0), (.iconst 0, 0, 0, 0, 0), (.bipush 109, 0, 0, 109, 0)] (by decide +kernel) rfl ?_
  refine Wk.cast (n := 4) (ev_is_ok (by decide +kernel)) (by decide +kernel) rfl (by decide) ?_
  show Wk l Ln xs YX12_init d 22 5200 962 [some (.ref 112)] [.ref 158, .ref 112] cS319 cM280 _
  refine Wk.run (pc' := 966) (ls' := [some (.ref 112)]) (st' := [.int 111, .int 1, .ref 158, .ref 158, .ref 112]) (m' := cM280) [(.dup, 0, 0, 0, 0), (.iconst 1, 0, 0, 1, 0), (.bipush 111, 0, 0, 111, 0)] (by decide +kernel) rfl ?_
  refine Wk.cast (n := 4) (ev_is_ok (by decide +kernel)) (by decide +kernel) rfl (by decide) ?_
  show Wk l Ln xs YX12_init d 22 5200 967 [some (.ref 112)] [.ref 158, .ref 112] cS319 cM281 _
  refine Wk.run (pc' := 971) (ls' := [some (.ref 112)]) (st' := [.int 115, .int 2, .ref 158, .ref 158, .ref 112]) (m' := cM281) [(.dup, 0, 0, 0, 0), (.iconst 2, 0, 0, 2, 0), (.bipush 115, 0, 0, 115, 0)] (by decide +kernel) rfl ?_
  refine Wk.cast (n := 4) (ev_is_ok (by decide +kernel)) (by decide +kernel) rfl (by decide) ?_
  show Wk l Ln xs YX12_init d 22 5200 972 [some (.ref 112)] [.ref 158, .ref 112] cS319 cM282 _
  refine Wk.run (pc' := 976) (ls' := [some (.ref 112)]) (st' := [.int 116, .int 3, .ref 158, .ref 158, .ref 112]) (m' := cM282) [(.dup, 0, 0, 0, 0), (.iconst 3, 0, 0, 3, 0), (.bipush 116, 0, 0, 116, 0)] (by decide +kernel) rfl ?_
  refine Wk.cast (n := 4) (ev_is_ok (by decide +kernel)) (by decide +kernel) rfl (by decide) ?_
  show Wk l Ln xs YX12_init d 22 5200 977 [some (.ref 112)] [.ref 158, .ref 112] cS319 cM283 _
  refine Wk.putF (ci := 12) (k := 73) (idx := 156) (b := 158) (by decide +kernel) (by decide +kernel) rfl rfl (ev_is_ok (by decide +kernel)) (by decide +kernel) rfl (by decide +kernel) rfl (Or.inr ⟨_, rfl⟩) ?_
  show Wk l Ln xs YX12_init d 22 5200 980 [some (.ref 112)] [] cS320 cM283 _
  refine Wk.run (pc' := 982) (ls' := [some (.ref 112)]) (st' := [.int 5, .ref 112]) (m' := cM283) [(.aload_n 0, 0, 0, 0, 0), (.iconst 5, 0, 0, 5, 0)] (by decide +kernel) rfl ?_
  refine Wk.newa (at_ := .char) (N := 5) (code := 101) (ty := .char) rfl (Or.inr (Or.inl ⟨rfl, rfl, rfl⟩)) (ev_is_ok (by decide +kernel)) wa_char (by decide) (by decide) (by decide) (by decide +kernel) rfl rfl (by decide) (by decide) ?_
  show Wk l Ln xs YX12_init d 21 5195 984 [some (.ref 112)] [.ref 159, .ref 112] cS321 cM283 _
  refine Wk.run (pc' := 988) (ls' := [some (.ref 112)]) (st' := [.int 108, .int 0, .ref 159, .ref 159, .ref 112]) (m' := cM283) [(.dup, 0, 0, 0, 0), (.iconst 0, 0, 0, 0, 0), (.bipush 108, 0, 0, 108, 0)] (by decide +kernel) rfl ?_
  refine Wk.cast (n := 5) (ev_is_ok (by decide +kernel)) (by decide +kernel) rfl (by decide) ?_
  show Wk l Ln xs YX12_init d 21 5195 989 [some (.ref 112)] [.ref 159, .ref 112] cS321 cM284 _
  refine Wk.run (pc' := 993) (ls' := [some (.ref 112)]) (st' := [.int 101, .int 1, .ref 159, .ref 159, .ref 112]) (m' := cM284) [(.dup, 0, 0, 0, 0), (.iconst 1, 0, 0, 1, 0), (.bipush 101, 0, 0, 101, 0)] (by decide +kernel) rfl ?_
  refine Wk.cast (n := 5) (ev_is_ok (by decide +kernel)) (by decide +kernel) rfl (by decide) ?_
  show Wk l Ln xs YX12_init d 21 5195 994 [some (.ref 112)] [.ref 159, .ref 112] cS321 cM285 _
  refine Wk.run (pc' := 998) (ls' := [some (.ref 112)]) (st' := [.int 97, .int 2, .ref 159, .ref 159, .ref 112]) (m' := cM285) [(.dup, 0, 0, 0, 0), (.iconst 2, 0, 0, 2, 0), (.bipush 97, 0, 0, 97, 0)] (by decide +kernel) rfl ?_
  refine Wk.cast (n := 5) (ev_is_ok (by decide +kernel)) (by decide +kernel) rfl (by decide) ?_
  show Wk l Ln xs YX12_init d 21 5195 999 [some (.ref 112)] [.ref 159, .ref 112] cS321 cM286 _
  refine Wk.run (pc' := 1003) (ls' := [some (.ref 112)]) (st' := [.int 115, .int 3, .ref 159, .ref 159, .ref 112]) (m' := cM286) [(.dup, 0, 0, 0, 0), (.iconst 3, 0, 0, 3, 0), (.bipush 115, 0, 0, 115, 0)] (by decide +kernel) rfl ?_
  refine Wk.cast (n := 5) (ev_is_ok (by decide +kernel)) (by decide +kernel) rfl (by decide) ?_
  show Wk l Ln xs YX12_init d 21 5195 1004 [some (.ref 112)] [.ref 159, .ref 112] cS321 cM287 _
  refine Wk.run (pc' := 1008) (ls' := [some (.ref 112)]) (st' := [.int 116, .int 4, .ref 159, .ref 159, .ref 112]) (m' := cM287) [(.dup, 0, 0, 0, 0), (.iconst 4, 0, 0, 4, 0), (.bipush 116, 0, 0, 116, 0)] (by decide +kernel) rfl ?_
  refine Wk.cast (n := 5) (ev_is_ok (by decide +kernel)) (by decide +kernel) rfl (by decide) ?_
  show Wk l Ln xs YX12_init d 21 5195 1009 [some (.ref 112)] [.ref 159, .ref 112] cS321 cM288 _
  refine Wk.putF (ci := 12) (k := 74) (idx := 159) (b := 159) (by decide +kernel) (by decide +kernel) rfl rfl (ev_is_ok (by decide +kernel)) (by decide +kernel) rfl (by decide +kernel) rfl (Or.inr ⟨_, rfl⟩) ?_
  show Wk l Ln xs YX12_init d 21 5195 1012 [some (.ref 112)] [] cS322 cM288 _
  refine Wk.run (pc' := 1014) (ls' := [some (.ref 112)]) (st' := [.int 3, .ref 112]) (m' := cM288) [(.aload_n 0, 0, 0, 0, 0), (.iconst 3, 0, 0, 3, 0)] (by decide +kernel) rfl ?_
  refine Wk.newa (at_ := .char) (N := 3) (code := 101) (ty := .char) rfl (Or.inr (Or.inl ⟨rfl, rfl, rfl⟩)) (ev_is_ok (by decide +kernel)) wa_char (by decide) (by decide) (by decide) (by decide +kernel) rfl rfl (by decide) (by decide) ?_
  show Wk l Ln xs YX12_init d 20 5192 1016 [some (.ref 112)] [.ref 160, .ref 112] cS323 cM288 _
  refine Wk.run (pc' := 1020) (ls' := [some (.ref 112)]) (st' := [.int 110, .int 0, .ref 160, .ref 160, .ref 112]) (m' := cM288) [(.dup, 0, 0, 0, 0), (.iconst 0, 0, 0, 0, 0), (.bipush 110, 0, 0, 110, 0)] (by decide +kernel) rfl ?_
  refine Wk.cast (n := 3) (ev_is_ok (by decide +kernel)) (by decide +kernel) rfl (by decide) ?_
  show Wk l Ln xs YX12_init d 20 5192 1021 [some (.ref 112)] [.ref 160, .ref 112] cS323 cM289 _
  refine Wk.run (pc' := 1025) (ls' := [some (.ref 112)]) (st' := [.int 111, .int 1, .ref 160, .ref 160, .ref 112]) (m' := cM289) [(.dup, 0, 0, 0, 0), (.iconst 1, 0, 0, 1, 0), (.bipush 111, 0, 0, 111, 0)] (by decide +kernel) rfl ?_
  refine Wk.cast (n := 3) (ev_is_ok (by decide +kernel)) (by decide +kernel) rfl (by decide) ?_
  show Wk l Ln xs YX12_init d 20 5192 1026 [some (.ref 112)] [.ref 160, .ref 112] cS323 cM290 _
  refine Wk.run (pc' := 1030) (ls' := [some (.ref 112)]) (st' := [.int 116, .int 2, .ref 160, .ref 160, .ref 112]) (m' := cM290) [(.dup, 0, 0, 0, 0), (.iconst 2, 0, 0, 2, 0), (.bipush 116, 0, 0, 116, 0)] (by decide +kernel) rfl ?_
  refine Wk.cast (n := 3) (ev_is_ok (by decide +kernel)) (by decide +kernel) rfl (by decide) ?_
  show Wk l Ln xs YX12_init d 20 5192 1031 [some (.ref 112)] [.ref 160, .ref 112] cS323 cM291 _
  refine Wk.putF (ci := 12) (k := 75) (idx := 162) (b := 160) (by decide +kernel) (by decide +kernel) rfl rfl (ev_is_ok (by decide +kernel)) (by decide +kernel) rfl (by decide +kernel) rfl (Or.inr ⟨_, rfl⟩) ?_
  show Wk l Ln xs YX12_init d 20 5192 1034 [some (.ref 112)] [] cS324 cM291 _
  refine Wk.run (pc' := 1036) (ls' := [some (.ref 112)]) (st' := [.int 3, .ref 112]) (m' := cM291) [(.aload_n 0, 0, 0, 0, 0), (.iconst 3, 0, 0, 3, 0)] (by decide +kernel) rfl ?_
  refine Wk.newa (at_ := .char) (N := 3) (code := 101) (ty := .char) rfl (Or.inr (Or.inl ⟨rfl, rfl, rfl⟩)) (ev_is_ok (by decide +kernel)) wa_char (by decide) (by decide) (by decide) (by decide +kernel) rfl rfl (by decide) (by decide) ?_
  show Wk l Ln xs YX12_init d 19 5189 1038 [some (.ref 112)] [.ref 161, .ref 112] cS325 cM291 _
  refine Wk.run (pc' := 1042) (ls' := [some (.ref 112)]) (st' := [.int 97, .int 0, .ref 161, .ref 161, .ref 112]) (m' := cM291) [(.dup, 0, 0, 0, 0), (.iconst 0, 0, 0, 0, 0), (.bipush 97, 0, 0, 97, 0)] (by decide +kernel) rfl ?_
  refine Wk.cast (n := 3) (ev_is_ok (by decide +kernel)) (by decide +kernel) rfl (by decide) ?_
  show Wk l Ln xs YX12_init d 19 5189 1043 [some (.ref 112)] [.ref 161, .ref 112] cS325 cM292 _
  refine Wk.run (pc' := 1047) (ls' := [some (.ref 112)]) (st' := [.int 110, .int 1, .ref 161, .ref 161, .ref 112]) (m' := cM292) [(.dup, 0, 0, 0, 0), (.iconst 1, 0, 0, 1, 0), (.bipush 110, 0, 0, 110, 0)] (by decide +kernel) rfl ?_
  refine Wk.cast (n := 3) (ev_is_ok (by decide +kernel)) (by decide +kernel) rfl (by decide) ?_
  show Wk l Ln xs YX12_init d 19 5189 1048 [some (.ref 112)] [.ref 161, .ref 112] cS325 cM293 _
  refine Wk.run (pc' := 1052) (ls' := [some (.ref 112)]) (st' := [.int 100, .int 2, .ref 161, .ref 161, .ref 112]) (m' := cM293) [(.dup, 0, 0, 0, 0), (.iconst 2, 0, 0, 2, 0), (.bipush 100, 0, 0, 100, 0)] (by decide +kernel) rfl ?_
  refine Wk.cast (n := 3) (ev_is_ok (by decide +kernel)) (by decide +kernel) rfl (by decide) ?_
  show Wk l Ln xs YX12_init d 19 5189 1053 [some (.ref 112)] [.ref 161, .ref 112] cS325 cM294 _
  refine Wk.putF (ci := 12) (k := 76) (idx := 165) (b := 161) (by decide +kernel) (by decide +kernel) rfl rfl (ev_is_ok (by decide +kernel)) (by decide +kernel) rfl (by decide +kernel) rfl (Or.inr ⟨_, rfl⟩) ?_
  show Wk l Ln xs YX12_init d 19 5189 1056 [some (.ref 112)] [] cS326 cM294 _
  refine Wk.run (pc' := 1058) (ls' := [some (.ref 112)]) (st' := [.int 2, .ref 112]) (m' := cM294) [(.aload_n 0, 0, 0, 0, 0), (.iconst 2, 0, 0, 2, 0)] (by decide +kernel) rfl ?_
  refine Wk.newa (at_ := .char) (N := 2) (code := 101) (ty := .char) rfl (Or.inr (Or.inl ⟨rfl, rfl, rfl⟩)) (ev_is_ok (by decide +kernel)) wa_char (by decide) (by decide) (by decide) (by decide +kernel) rfl rfl (by decide) (by decide) ?_
  show Wk l Ln xs YX12_init d 18 5187 1060 [some (.ref 112)] [.ref 162, .ref 112] cS327 cM294 _
  refine Wk.run (pc' := 1064) (ls' := [some (.ref 112)]) (st' := [.int 111, .int 0, .ref 162, .ref 162, .ref 112]) (m' := cM294) [(.dup, 0, 0, 0, 0), (.iconst 0, 0, 0, 0, 0), (.bipush 111, 0, 0, 111, 0)] (by decide +kernel) rfl ?_
  refine Wk.cast (n := 2) (ev_is_ok (by decide +kernel)) (by decide +kernel) rfl (by decide) ?_
  show Wk l Ln xs YX12_init d 18 5187 1065 [some (.ref 112)] [.ref 162, .ref 112] cS327 cM295 _
  refine Wk.run (pc' := 1069) (ls' := [some (.ref 112)]) (st' := [.int 114, .int 1, .ref 162, .ref 162, .ref 112]) (m' := cM295) [(.dup, 0, 0, 0, 0), (.iconst 1, 0, 0, 1, 0), (.bipush 114, 0, 0, 114, 0)] (by decide +kernel) rfl ?_
  refine Wk.cast (n := 2) (ev_is_ok (by decide +kernel)) (by decide +kernel) rfl (by decide) ?_
  show Wk l Ln xs YX12_init d 18 5187 1070 [some (.ref 112)] [.ref 162, .ref 112] cS327 cM296 _
  refine Wk.putF (ci := 12) (k := 77) (idx := 168) (b := 162) (by decide +kernel) (by decide +kernel) rfl rfl (ev_is_ok (by decide +kernel)) (by decide +kernel) rfl (by decide +kernel) rfl (Or.inr ⟨_, rfl⟩) ?_
  show Wk l Ln xs YX12_init d 18 5187 1073 [some (.ref 112)] [] cS328 cM296 _
  refine Wk.run (pc' := 1075) (ls' := [some (.ref 112)]) (st' := [.int 3, .ref 112]) (m' := cM296) [(.aload_n 0, 0, 0, 0, 0), (.iconst 3, 0, 0, 3, 0)] (by decide +kernel) rfl ?_
  refine Wk.newa (at_ := .char) (N := 3) (code := 101) (ty := .char) rfl (Or.inr (Or.inl ⟨rfl, rfl, rfl⟩)) (ev_is_ok (by decide +kernel)) wa_char (by decide) (by decide) (by decide) (by decide +kernel) rfl rfl (by decide) (by decide) ?_
  show Wk l Ln xs YX12_init d 17 5184 1077 [some (.ref 112)] [.ref 163, .ref 112] cS329 cM296 _
  refine Wk.run (pc' := 1081) (ls' := [some (.ref 112)]) (st' := [.int 97, .int 0, .ref 163, .ref 163, .ref 112]) (m' := cM296) [(.dup, 0, 0, 0, 0), (.iconst 0, 0, 0, 0, 0), (.bipush 97, 0, 0, 97, 0)] (by decide +kernel) rfl ?_
  refine Wk.cast (n := 3) (ev_is_ok (by decide +kernel)) (by decide +kernel) rfl (by decide) ?_
  show Wk l Ln xs YX12_init d 17 5184 1082 [some (.ref 112)] [.ref 163, .ref 112] cS329 cM297 _
  refine Wk.run (pc' := 1086) (ls' := [some (.ref 112)]) (st' := [.int 108, .int 1, .ref 163, .ref 163, .ref 112]) (m' := cM297) [(.dup, 0, 0, 0, 0), (.iconst 1, 0, 0, 1, 0), (.bipush 108, 0, 0, 108, 0)] (by decide +kernel) rfl ?_
  refine Wk.cast (n := 3) (ev_is_ok (by decide +kernel)) (by decide +kernel) rfl (by decide) ?_
  show Wk l Ln xs YX12_init d 17 5184 1087 [some (.ref 112)] [.ref 163, .ref 112] cS329 cM298 _
  refine Wk.run (pc' := 1091) (ls' := [some (.ref 112)]) (st' := [.int 108, .int 2, .ref 163, .ref 163, .ref 112]) (m' := cM298) [(.dup, 0, 0, 0, 0), (.iconst 2, 0, 0, 2, 0), (.bipush 108, 0, 0, 108, 0)] (by decide +kernel) rfl ?_
  refine Wk.cast (n := 3) (ev_is_ok (by decide +kernel)) (by decide +kernel) rfl (by decide) ?_
  show Wk l Ln xs YX12_init d 17 5184 1092 [some (.ref 112)] [.ref 163, .ref 112] cS329 cM299 _
  refine Wk.putF (ci := 12) (k := 78) (idx := 171) (b := 163) (by decide +kernel) (by decide +kernel) rfl rfl (ev_is_ok (by decide +kernel)) (by decide +kernel) rfl (by decide +kernel) rfl (Or.inr ⟨_, rfl⟩) ?_
  show Wk l Ln xs YX12_init d 17 5184 1095 [some (.ref 112)] [] cS330 cM299 _
  refine Wk.run (pc' := 1097) (ls' := [some (.ref 112)]) (st' := [.int 3, .ref 112]) (m' := cM299) [(.aload_n 0, 0, 0, 0, 0), (.iconst 3, 0, 0, 3, 0)] (by decide +kernel) rfl ?_
  refine Wk.newa (at_ := .char) (N := 3) (code := 101) (ty := .char) rfl (Or.inr (Or.inl ⟨rfl, rfl, rfl⟩)) (ev_is_ok (by decide +kernel)) wa_char (by decide) (by decide) (by decide) (by decide +kernel) rfl rfl (by decide) (by decide) ?_
  show Wk l Ln xs YX12_init d 16 5181 1099 [some (.ref 112)] [.ref 164, .ref 112] cS331 cM299 _
  refine Wk.run (pc' := 1103) (ls' := [some (.ref 112)]) (st' := [.int 109, .int 0, .ref 164, .ref 164, .ref 112]) (m' := cM299) [(.dup, 0, 0, 0, 0), (.iconst 0, 0, 0, 0, 0), (.bipush 109, 0, 0, 109, 0)] (by decide +kernel) rfl ?_
  refine Wk.cast (n := 3) (ev_is_ok (by decide +kernel)) (by decide +kernel) rfl (by decide) ?_
  show Wk l Ln xs YX12_init d 16 5181 1104 [some (.ref 112)] [.ref 164, .ref 112] cS331 cM300 _
  refine Wk.run (pc' := 1108) (ls' := [some (.ref 112)]) (st' := [.int 105, .int 1, .ref 164, .ref 164, .ref 112]) (m' := cM300) [(.dup, 0, 0, 0, 0), (.iconst 1, 0, 0, 1, 0), (.bipush 105, 0, 0, 105, 0)] (by decide +kernel) rfl ?_
  refine Wk.cast (n := 3) (ev_is_ok (by decide +kernel)) (by decide +kernel) rfl (by decide) ?_
  show Wk l Ln xs YX12_init d 16 5181 1109 [some (.ref 112)] [.ref 164, .ref 112] cS331 cM301 _
  refine Wk.run (pc' := 1113) (ls' := [some (.ref 112)]) (st' := [.int 110, .int 2, .ref 164, .ref 164, .ref 112]) (m' := cM301) [(.dup, 0, 0, 0, 0), (.iconst 2, 0, 0, 2, 0), (.bipush 110, 0, 0, 110, 0)] (by decide +kernel) rfl ?_
  refine Wk.cast (n := 3) (ev_is_ok (by decide +kernel)) (by decide +kernel) rfl (by decide) ?_
  show Wk l Ln xs YX12_init d 16 5181 1114 [some (.ref 112)] [.ref 164, .ref 112] cS331 cM302 _
  refine Wk.putF (ci := 12) (k := 79) (idx := 174) (b := 164) (by decide +kernel) (by decide +kernel) rfl rfl (ev_is_ok (by decide +kernel)) (by decide +kernel) rfl (by decide +kernel) rfl (Or.inr ⟨_, rfl⟩) ?_
  show Wk l Ln xs YX12_init d 16 5181 1117 [some (.ref 112)] [] cS332 cM302 _
  refine Wk.run (pc' := 1119) (ls' := [some (.ref 112)]) (st' := [.int 3, .ref 112]) (m' := cM302) [(.aload_n 0, 0, 0, 0, 0), (.iconst 3, 0, 0, 3, 0)] (by decide +kernel) rfl ?_
  refine Wk.newa (at_ := .char) (N := 3) (code := 101) (ty := .char) rfl (Or.inr (Or.inl ⟨rfl, rfl, rfl⟩)) (ev_is_ok (by decide +kernel)) wa_char (by decide) (by decide) (by decide) (by decide +kernel) rfl rfl (by decide) (by decide) ?_
  show Wk l Ln xs YX12_init d 15 5178 1121 [some (.ref 112)] [.ref 165, .ref 112] cS333 cM302 _
  refine Wk.run (pc' := 1125) (ls' := [some (.ref 112)]) (st' := [.int 109, .int 0, .ref 165, .ref 165, .ref 112]) (m' := cM302) [(.dup, 0, 0, 0, 0), (.iconst 0, 0, 0, 0, 0), (.bipush 109, 0, 0, 109, 0)] (by decide +kernel) rfl ?_
  refine Wk.cast (n := 3) (ev_is_ok (by decide +kernel)) (by decide +kernel) rfl (by decide) ?_
  show Wk l Ln xs YX12_init d 15 5178 1126 [some (.ref 112)] [.ref 165, .ref 112] cS333 cM303 _
  refine Wk.run (pc' := 1130) (ls' := [some (.ref 112)]) (st' := [.int 97, .int 1, .ref 165, .ref 165, .ref 112]) (m' := cM303) [(.dup, 0, 0, 0, 0), (.iconst 1, 0, 0, 1, 0), (.bipush 97, 0, 0, 97, 0)] (by decide +kernel) rfl ?_
  refine Wk.cast (n := 3) (ev_is_ok (by decide +kernel)) (by decide +kernel) rfl (by decide) ?_
  show Wk l Ln xs YX12_init d 15 5178 1131 [some (.ref 112)] [.ref 165, .ref 112] cS333 cM304 _
  refine Wk.run (pc' := 1135) (ls' := [some (.ref 112)]) (st' := [.int 120, .int 2, .ref 165, .ref 165, .ref 112]) (m' := cM304) [(.dup, 0, 0, 0, 0), (.iconst 2, 0, 0, 2, 0), (.bipush 120, 0, 0, 120, 0)] (by decide +kernel) rfl ?_
  refine Wk.cast (n := 3) (ev_is_ok (by decide +kernel)) (by decide +kernel) rfl (by decide) ?_
  show Wk l Ln xs YX12_init d 15 5178 1136 [some (.ref 112)] [.ref 165, .ref 112] cS333 cM305 _
  refine Wk.putF (ci := 12) (k := 80) (idx := 177) (b := 165) (by decide +kernel) (by decide +kernel) rfl rfl (ev_is_ok (by decide +kernel)) (by decide +kernel) rfl (by decide +kernel) rfl (Or.inr ⟨_, rfl⟩) ?_
  show Wk l Ln xs YX12_init d 15 5178 1139 [some (.ref 112)] [] cS334 cM305 _
  refine Wk.run (pc' := 1141) (ls' := [some (.ref 112)]) (st' := [.int 5, .ref 112]) (m' := cM305) [(.aload_n 0, 0, 0, 0, 0), (.iconst 5, 0, 0, 5, 0)] (by decide +kernel) rfl ?_
  refine Wk.newa (at_ := .char) (N := 5) (code := 101) (ty := .char) rfl (Or.inr (Or.inl ⟨rfl, rfl, rfl⟩)) (ev_is_ok (by decide +kernel)) wa_char (by decide) (by decide) (by decide) (by decide +kernel) rfl rfl (by decide) (by decide) ?_
  show Wk l Ln xs YX12_init d 14 5173 1143 [some (.ref 112)] [.ref 166, .ref 112] cS335 cM305 _
  refine Wk.run (pc' := 1147) (ls' := [some (.ref 112)]) (st' := [.int 104, .int 0, .ref 166, .ref 166, .ref 112]) (m' := cM305) [(.dup, 0, 0, 0, 0), (.iconst 0, 0, 0, 0, 0), (.bipush 104, 0, 0, 104, 0)] (by decide +kernel) rfl ?_
  refine Wk.cast (n := 5) (ev_is_ok (by decide +kernel)) (by decide +kernel) rfl (by decide) ?_
  show Wk l Ln xs YX12_init d 14 5173 1148 [some (.ref 112)] [.ref 166, .ref 112] cS335 cM306 _
  refine Wk.run (pc' := 1152) (ls' := [some (.ref 112)]) (st' := [.int 101, .int 1, .ref 166, .ref 166, .ref 112]) (m' := cM306) [(.dup, 0, 0, 0, 0), (.iconst 1, 0, 0, 1, 0), (.bipush 101, 0, 0, 101, 0)] (by decide +kernel) rfl ?_
  refine Wk.cast (n := 5) (ev_is_ok (by decide +kernel)) (by decide +kernel) rfl (by decide) ?_
  show Wk l Ln xs YX12_init d 14 5173 1153 [some (.ref 112)] [.ref 166, .ref 112] cS335 cM307 _
  refine Wk.run (pc' := 1157) (ls' := [some (.ref 112)]) (st' := [.int 97, .int 2, .ref 166, .ref 166, .ref 112]) (m' := cM307) [(.dup, 0, 0, 0, 0), (.iconst 2, 0, 0, 2, 0), (.bipush 97, 0, 0, 97, 0)] (by decide +kernel) rfl ?_
  refine Wk.cast (n := 5) (ev_is_ok (by decide +kernel)) (by decide +kernel) rfl (by decide) ?_
  show Wk l Ln xs YX12_init d 14 5173 1158 [some (.ref 112)] [.ref 166, .ref 112] cS335 cM308 _
  refine Wk.run (pc' := 1162) (ls' := [some (.ref 112)]) (st' := [.int 114, .int 3, .ref 166, .ref 166, .ref 112]) (m' := cM308) [(.dup, 0, 0, 0, 0), (.iconst 3, 0, 0, 3, 0), (.bipush 114, 0, 0, 114, 0)] (by decide +kernel) rfl ?_
  refine Wk.cast (n := 5) (ev_is_ok (by decide +kernel)) (by decide +kernel) rfl (by decide) ?_
  show Wk l Ln xs YX12_init d 14 5173 1163 [some (.ref 112)] [.ref 166, .ref 112] cS335 cM309 _
  refine Wk.run (pc' := 1167) (ls' := [some (.ref 112)]) (st' := [.int 100, .int 4, .ref 166, .ref 166, .ref 112]) (m' := cM309) [(.dup, 0, 0, 0, 0), (.iconst 4, 0, 0, 4, 0), (.bipush 100, 0, 0, 100, 0)] (by decide +kernel) rfl ?_
  refine Wk.cast (n := 5) (ev_is_ok (by decide +kernel)) (by decide +kernel) rfl (by decide) ?_
  show Wk l Ln xs YX12_init d 14 5173 1168 [some (.ref 112)] [.ref 166, .ref 112] cS335 cM310 _
  refine Wk.putF (ci := 12) (k := 81) (idx := 180) (b := 166) (by decide +kernel) (by decide +kernel) rfl rfl (ev_is_ok (by decide +kernel)) (by decide +kernel) rfl (by decide +kernel) rfl (Or.inr ⟨_, rfl⟩) ?_
  show Wk l Ln xs YX12_init d 14 5173 1171 [some (.ref 112)] [] cS336 cM310 _
  refine Wk.run (pc' := 1173) (ls' := [some (.ref 112)]) (st' := [.int 4, .ref 112]) (m' := cM310) [(.aload_n 0, 0, 0, 0, 0), (.iconst 4, 0, 0, 4, 0)] (by decide +kernel) rfl ?_
  refine Wk.newa (at_ := .char) (N := 4) (code := 101) (ty := .char) rfl (Or.inr (Or.inl ⟨rfl, rfl, rfl⟩)) (ev_is_ok (by decide +kernel)) wa_char (by decide) (by decide) (by decide) (by decide +kernel) rfl rfl (by decide) (by decide) ?_
  show Wk l Ln xs YX12_init d 13 5169 1175 [some (.ref 112)] [.ref 167, .ref 112] cS337 cM310 _
  refine Wk.run (pc' := 1179) (ls' := [some (.ref 112)]) (st' := [.int 109, .int 0, .ref 167, .ref 167, .ref 112]) (m' := cM310) [(.dup, 0, 0, 0, 0), (.iconst 0, 0, 0, 0, 0), (.bipush 109, 0, 0, 109, 0)] (by decide +kernel) rfl ?_
  refine Wk.cast (n := 4) (ev_is_ok (by decide +kernel)) (by decide +kernel) rfl (by decide) ?_
  show Wk l Ln xs YX12_init d 13 5169 1180 [some (.ref 112)] [.ref 167, .ref 112] cS337 cM311 _
  refine Wk.run (pc' := 1184) (ls' := [some (.ref 112)]) (st' := [.int 111, .int 1, .ref 167, .ref 167, .ref 112]) (m' := cM311) [(.dup, 0, 0, 0, 0), (.iconst 1, 0, 0, 1, 0), (.bipush 111, 0, 0, 111, 0)] (by decide +kernel) rfl ?_
  refine Wk.cast (n := 4) (ev_is_ok (by decide +kernel)) (by decide +kernel) rfl (by decide) ?_
  show Wk l Ln xs YX12_init d 13 5169 1185 [some (.ref 112)] [.ref 167, .ref 112] cS337 cM312 _
  refine Wk.run (pc' := 1189) (ls' := [some (.ref 112)]) (st' := [.int 111, .int 2, .ref 167, .ref 167, .ref 112]) (m' := cM312) [(.dup, 0, 0, 0, 0), (.iconst 2, 0, 0, 2, 0), (.bipush 111, 0, 0, 111, 0)] (by decide +kernel) rfl ?_
  refine Wk.cast (n := 4) (ev_is_ok (by decide +kernel)) (by decide +kernel) rfl (by decide) ?_
  show Wk l Ln xs YX12_init d 13 5169 1190 [some (.ref 112)] [.ref 167, .ref 112] cS337 cM313 _
  refine Wk.run (pc' := 1194) (ls' := [some (.ref 112)]) (st' := [.int 100, .int 3, .ref 167, .ref 167, .ref 112]) (m' := cM313) [(.dup, 0, 0, 0, 0), (.iconst 3, 0, 0, 3, 0), (.bipush 100, 0, 0, 100, 0)] (by decide +kernel) rfl ?_
  refine Wk.cast (n := 4) (ev_is_ok (by decide +kernel)) (by decide +kernel) rfl (by decide) ?_
  show Wk l Ln xs YX12_init d 13 5169 1195 [some (.ref 112)] [.ref 167, .ref 112] cS337 cM314 _
  refine Wk.putF (ci := 12) (k := 82) (idx := 183) (b := 167) (by decide +kernel) (by decide +kernel) rfl rfl (ev_is_ok (by decide +kernel)) (by decide +kernel) rfl (by decide +kernel) rfl (Or.inr ⟨_, rfl⟩) ?_
  show Wk l Ln xs YX12_init d 13 5169 1198 [some (.ref 112)] [] cS338 cM314 _
  refine Wk.run (pc' := 1200) (ls' := [some (.ref 112)]) (st' := [.int 5, .ref 112]) (m' := cM314) [(.aload_n 0, 0, 0, 0, 0), (.iconst 5, 0, 0, 5, 0)] (by decide +kernel) rfl ?_
  refine Wk.newa (at_ := .char) (N := 5) (code := 101) (ty := .char) rfl (Or.inr (Or.inl ⟨rfl, rfl, rfl⟩)) (ev_is_ok (by decide +kernel)) wa_char (by decide) (by decide) (by decide) (by decide +kernel) rfl rfl (by decide) (by decide) ?_
  show Wk l Ln xs YX12_init d 12 5164 1202 [some (.ref 112)] [.ref 168, .ref 112] cS339 cM314 _
  refine Wk.run (pc' := 1206) (ls' := [some (.ref 112)]) (st' := [.int 99, .int 0, .ref 168, .ref 168, .ref 112]) (m' := cM314) [(.dup, 0, 0, 0, 0), (.iconst 0, 0, 0, 0, 0), (.bipush 99, 0, 0, 99, 0)] (by decide +kernel) rfl ?_
  refine Wk.cast (n := 5) (ev_is_ok (by decide +kernel)) (by decide +kernel) rfl (by decide) ?_
  show Wk l Ln xs YX12_init d 12 5164 1207 [some (.ref 112)] [.ref 168, .ref 112] cS339 cM315 _
  refine Wk.run (pc' := 1211) (ls' := [some (.ref 112)]) (st' := [.int 104, .int 1, .ref 168, .ref 168, .ref 112]) (m' := cM315) [(.dup, 0, 0, 0, 0), (.iconst 1, 0, 0, 1, 0), (.bipush 104, 0, 0, 104, 0)] (by decide +kernel) rfl ?_
  refine Wk.cast (n := 5) (ev_is_ok (by decide +kernel)) (by decide +kernel) rfl (by decide) ?_
  show Wk l Ln xs YX12_init d 12 5164 1212 [some (.ref 112)] [.ref 168, .ref 112] cS339 cM316 _
  refine Wk.run (pc' := 1216) (ls' := [some (.ref 112)]) (st' := [.int 101, .int 2, .ref 168, .ref 168, .ref 112]) (m' := cM316) [(.dup, 0, 0, 0, 0), (.iconst 2, 0, 0, 2, 0), (.bipush 101, 0, 0, 101, 0)] (by decide +kernel) rfl ?_
  refine Wk.cast (n := 5) (ev_is_ok (by decide +kernel)) (by decide +kernel) rfl (by decide) ?_
  show Wk l Ln xs YX12_init d 12 5164 1217 [some (.ref 112)] [.ref 168, .ref 112] cS339 cM317 _
  refine Wk.run (pc' := 1221) (ls' := [some (.ref 112)]) (st' := [.int 101, .int 3, .ref 168, .ref 168, .ref 112]) (m' := cM317) [(.dup, 0, 0, 0, 0), (.iconst 3, 0, 0, 3, 0), (.bipush 101, 0, 0, 101, 0)] (by decide +kernel) rfl ?_
  refine Wk.cast (n := 5) (ev_is_ok (by decide +kernel)) (by decide +kernel) rfl (by decide) ?_
  show Wk l Ln xs YX12_init d 12 5164 1222 [some (.ref 112)] [.ref 168, .ref 112] cS339 cM318 _
  refine Wk.run (pc' := 1226) (ls' := [some (.ref 112)]) (st' := [.int 114, .int 4, .ref 168, .ref 168, .ref 112]) (m' := cM318) [(.dup, 0, 0, 0, 0), (.iconst 4, 0, 0, 4, 0), (.bipush 114, 0, 0, 114, 0)] (by decide +kernel) rfl ?_
  refine Wk.cast (n := 5) (ev_is_ok (by decide +kernel)) (by decide +kernel) rfl (by decide) ?_
  show Wk l Ln xs YX12_init d 12 5164 1227 [some (.ref 112)] [.ref 168, .ref 112] cS339 cM319 _
  refine Wk.putF (ci := 12) (k := 83) (idx := 186) (b := 168) (by decide +kernel) (by decide +kernel) rfl rfl (ev_is_ok (by decide +kernel)) (by decide +kernel) rfl (by decide +kernel) rfl (Or.inr ⟨_, rfl⟩) ?_
  show Wk l Ln xs YX12_init d 12 5164 1230 [some (.ref 112)] [] cS340 cM319 _
  refine Wk.run (pc' := 1232) (ls' := [some (.ref 112)]) (st' := [.int 5, .ref 112]) (m' := cM319) [(.aload_n 0, 0, 0, 0, 0), (.iconst 5, 0, 0, 5, 0)] (by decide +kernel) rfl ?_
  refine Wk.newa (at_ := .char) (N := 5) (code := 101) (ty := .char) rfl (Or.inr (Or.inl ⟨rfl, rfl, rfl⟩)) (ev_is_ok (by decide +kernel)) wa_char (by decide) (by decide) (by decide) (by decide +kernel) rfl rfl (by decide) (by decide) ?_
  show Wk l Ln xs YX12_init d 11 5159 1234 [some (.ref 112)] [.ref 169, .ref 112] cS341 cM319 _
  refine Wk.run (pc' := 1238) (ls' := [some (.ref 112)]) (st' := [.int 114, .int 0, .ref 169, .ref 169, .ref 112]) (m' := cM319) [(.dup, 0, 0, 0, 0), (.iconst 0, 0, 0, 0, 0), (.bipush 114, 0, 0, 114, 0)] (by decide +kernel) rfl ?_
  refine Wk.cast (n := 5) (ev_is_ok (by decide +kernel)) (by decide +kernel) rfl (by decide) ?_
  show Wk l Ln xs YX12_init d 11 5159 1239 [some (.ref 112)] [.ref 169, .ref 112] cS341 cM320 _
  refine Wk.run (pc' := 1243) (ls' := [some (.ref 112)]) (st' := [.int 111, .int 1, .ref 169, .ref 169, .ref 112]) (m' := cM320) [(.dup, 0, 0, 0, 0), (.iconst 1, 0, 0, 1, 0), (.bipush 111, 0, 0, 111, 0)] (by decide +kernel) rfl ?_
  refine Wk.cast (n := 5) (ev_is_ok (by decide +kernel)) (by decide +kernel) rfl (by decide) ?_
  show Wk l Ln xs YX12_init d 11 5159 1244 [some (.ref 112)] [.ref 169, .ref 112] cS341 cM321 _
  refine Wk.run (pc' := 1248) (ls' := [some (.ref 112)]) (st' := [.int 117, .int 2, .ref 169, .ref 169, .ref 112]) (m' := cM321) [(.dup, 0, 0, 0, 0), (.iconst 2, 0, 0, 2, 0), (.bipush 117, 0, 0, 117, 0)] (by decide +kernel) rfl ?_
  refine Wk.cast (n := 5) (ev_is_ok (by decide +kernel)) (by decide +kernel) rfl (by decide) ?_
  show Wk l Ln xs YX12_init d 11 5159 1249 [some (.ref 112)] [.ref 169, .ref 112] cS341 cM322 _
  refine Wk.run (pc' := 1253) (ls' := [some (.ref 112)]) (st' := [.int 110, .int 3, .ref 169, .ref 169, .ref 112]) (m' := cM322) [(.dup, 0, 0, 0, 0), (.iconst 3, 0, 0, 3, 0), (.bipush 110, 0, 0, 110, 0)] (by decide +kernel) rfl ?_
  refine Wk.cast (n := 5) (ev_is_ok (by decide +kernel)) (by decide +kernel) rfl (by decide) ?_
  show Wk l Ln xs YX12_init d 11 5159 1254 [some (.ref 112)] [.ref 169, .ref 112] cS341 cM323 _
  refine Wk.run (pc' := 1258) (ls' := [some (.ref 112)]) (st' := [.int 100, .int 4, .ref 169, .ref 169, .ref 112]) (m' := cM323) [(.dup, 0, 0, 0, 0), (.iconst 4, 0, 0, 4, 0), (.bipush 100, 0, 0, 100, 0)] (by decide +kernel) rfl ?_
  refine Wk.cast (n := 5) (ev_is_ok (by decide +kernel)) (by decide +kernel) rfl (by decide) ?_
  show Wk l Ln xs YX12_init d 11 5159 1259 [some (.ref 112)] [.ref 169, .ref 112] cS341 cM324 _
  refine Wk.putF (ci := 12) (k := 84) (idx := 189) (b := 169) (by decide +kernel) (by decide +kernel) rfl rfl (ev_is_ok (by decide +kernel)) (by decide +kernel) rfl (by decide +kernel) rfl (Or.inr ⟨_, rfl⟩) ?_
  show Wk l Ln xs YX12_init d 11 5159 1262 [some (.ref 112)] [] cS342 cM324 _
  refine Wk.run (pc' := 1264) (ls' := [some (.ref 112)]) (st' := [.int 5, .ref 112]) (m' := cM324) [(.aload_n 0, 0, 0, 0, 0), (.iconst 5, 0, 0, 5, 0)] (by decide +kernel) rfl ?_
  refine Wk.newa (at_ := .char) (N := 5) (code := 101) (ty := .char) rfl (Or.inr (Or.inl ⟨rfl, rfl, rfl⟩)) (ev_is_ok (by decide +kernel)) wa_char (by decide) (by decide) (by decide) (by decide +kernel) rfl rfl (by decide) (by decide) ?_
  show Wk l Ln xs YX12_init d 10 5154 1266 [some (.ref 112)] [.ref 170, .ref 112] cS343 cM324 _
  refine Wk.run (pc' := 1270) (ls' := [some (.ref 112)]) (st' := [.int 112, .int 0, .ref 170, .ref 170, .ref 112]) (m' := cM324) [(.dup, 0, 0, 0, 0), (.iconst 0, 0, 0, 0, 0), (.bipush 112, 0, 0, 112, 0)] (by decide +kernel) rfl ?_
  refine Wk.cast (n := 5) (ev_is_ok (by decide +kernel)) (by decide +kernel) rfl (by decide) ?_
  show Wk l Ln xs YX12_init d 10 5154 1271 [some (.ref 112)] [.ref 170, .ref 112] cS343 cM325 _
  refine Wk.run (pc' := 1275) (ls' := [some (.ref 112)]) (st' := [.int 108, .int 1, .ref 170, .ref 170, .ref 112]) (m' := cM325) [(.dup, 0, 0, 0, 0), (.iconst 1, 0, 0, 1, 0), (.bipush 108, 0, 0, 108, 0)] (by decide +kernel) rfl ?_
  refine Wk.cast (n := 5) (ev_is_ok (by decide +kernel)) (by decide +kernel) rfl (by decide) ?_
  show Wk l Ln xs YX12_init d 10 5154 1276 [some (.ref 112)] [.ref 170, .ref 112] cS343 cM326 _
  refine Wk.run (pc' := 1280) (ls' := [some (.ref 112)]) (st' := [.int 97, .int 2, .ref 170, .ref 170, .ref 112]) (m' := cM326) [(.dup, 0, 0, 0, 0), (.iconst 2, 0, 0, 2, 0), (.bipush 97, 0, 0, 97, 0)] (by decide +kernel) rfl ?_
  refine Wk.cast (n := 5) (ev_is_ok (by decide +kernel)) (by decide +kernel) rfl (by decide) ?_
  show Wk l Ln xs YX12_init d 10 5154 1281 [some (.ref 112)] [.ref 170, .ref 112] cS343 cM327 _
  refine Wk.run (pc' := 1285) (ls' := [some (.ref 112)]) (st' := [.int 99, .int 3, .ref 170, .ref 170, .ref 112]) (m' := cM327) [(.dup, 0, 0, 0, 0), (.iconst 3, 0, 0, 3, 0), (.bipush 99, 0, 0, 99, 0)] (by decide +kernel) rfl ?_
  refine Wk.cast (n := 5) (ev_is_ok (by decide +kernel)) (by decide +kernel) rfl (by decide) ?_
  show Wk l Ln xs YX12_init d 10 5154 1286 [some (.ref 112)] [.ref 170, .ref 112] cS343 cM328 _
  refine Wk.run (pc' := 1290) (ls' := [some (.ref 112)]) (st' := [.int 101, .int 4, .ref 170, .ref 170, .ref 112]) (m' := cM328) [(.dup, 0, 0, 0, 0), (.iconst 4, 0, 0, 4, 0), (.bipush 101, 0, 0, 101, 0)] (by decide +kernel) rfl ?_
  refine Wk.cast (n := 5) (ev_is_ok (by decide +kernel)) (by decide +kernel) rfl (by decide) ?_
  show Wk l Ln xs YX12_init d 10 5154 1291 [some (.ref 112)] [.ref 170, .ref 112] cS343 cM329 _
  refine Wk.putF (ci := 12) (k := 85) (idx := 192) (b := 170) (by decide +kernel) (by decide +kernel) rfl rfl (ev_is_ok (by decide +kernel)) (by decide +kernel) rfl (by decide +kernel) rfl (Or.inr ⟨_, rfl⟩) ?_
  show Wk l Ln xs YX12_init d 10 5154 1294 [some (.ref 112)] [] cS344 cM329 _
  refine Wk.run (pc' := 1296) (ls' := [some (.ref 112)]) (st' := [.int 4, .ref 112]) (m' := cM329) [(.aload_n 0, 0, 0, 0, 0), (.iconst 4, 0, 0, 4, 0)] (by decide +kernel) rfl ?_
  refine Wk.newa (at_ := .char) (N := 4) (code := 101) (ty := .char) rfl (Or.inr (Or.inl ⟨rfl, rfl, rfl⟩)) (ev_is_ok (by decide +kernel)) wa_char (by decide) (by decide) (by decide) (by decide +kernel) rfl rfl (by decide) (by decide) ?_
  show Wk l Ln xs YX12_init d 9 5150 1298 [some (.ref 112)] [.ref 171, .ref 112] cS345 cM329 _
  refine Wk.run (pc' := 1302) (ls' := [some (.ref 112)]) (st' := [.int 115, .int 0, .ref 171, .ref 171, .ref 112]) (m' := cM329) [(.dup, 0, 0, 0, 0), (.iconst 0, 0, 0, 0, 0), (.bipush 115, 0, 0, 115, 0)] (by decide +kernel) rfl ?_
  refine Wk.cast (n := 4) (ev_is_ok (by decide +kernel)) (by decide +kernel) rfl (by decide) ?_
  show Wk l Ln xs YX12_init d 9 5150 1303 [some (.ref 112)] [.ref 171, .ref 112] cS345 cM330 _
  refine Wk.run (pc' := 1307) (ls' := [some (.ref 112)]) (st' := [.int 105, .int 1, .ref 171, .ref 171, .ref 112]) (m' := cM330) [(.dup, 0, 0, 0, 0), (.iconst 1, 0, 0, 1, 0), (.bipush 105, 0, 0, 105, 0)] (by decide +kernel) rfl ?_
  refine Wk.cast (n := 4) (ev_is_ok (by decide +kernel)) (by decide +kernel) rfl (by decide) ?_
  show Wk l Ln xs YX12_init d 9 5150 1308 [some (.ref 112)] [.ref 171, .ref 112] cS345 cM331 _
  refine Wk.run (pc' := 1312) (ls' := [some (.ref 112)]) (st' := [.int 103, .int 2, .ref 171, .ref 171, .ref 112]) (m' := cM331) [(.dup, 0, 0, 0, 0), (.iconst 2, 0, 0, 2, 0), (.bipush 103, 0, 0, 103, 0)] (by decide +kernel) rfl ?_
  refine Wk.cast (n := 4) (ev_is_ok (by decide +kernel)) (by decide +kernel) rfl (by decide) ?_
  show Wk l Ln xs YX12_init d 9 5150 1313 [some (.ref 112)] [.ref 171, .ref 112] cS345 cM332 _
  refine Wk.run (pc' := 1317) (ls' := [some (.ref 112)]) (st' := [.int 104, .int 3, .ref 171, .ref 171, .ref 112]) (m' := cM332) [(.dup, 0, 0, 0, 0), (.iconst 3, 0, 0, 3, 0), (.bipush 104, 0, 0, 104, 0)] (by decide +kernel) rfl ?_
  refine Wk.cast (n := 4) (ev_is_ok (by decide +kernel)) (by decide +kernel) rfl (by decide) ?_
  show Wk l Ln xs YX12_init d 9 5150 1318 [some (.ref 112)] [.ref 171, .ref 112] cS345 cM333 _
  refine Wk.putF (ci := 12) (k := 86) (idx := 195) (b := 171) (by decide +kernel) (by decide +kernel) rfl rfl (ev_is_ok (by decide +kernel)) (by decide +kernel) rfl (by decide +kernel) rfl (Or.inr ⟨_, rfl⟩) ?_
  show Wk l Ln xs YX12_init d 9 5150 1321 [some (.ref 112)] [] cS346 cM333 _
  refine Wk.run (pc' := 1323) (ls' := [some (.ref 112)]) (st' := [.int 4, .ref 112]) (m' := cM333) [(.aload_n 0, 0, 0, 0, 0), (.iconst 4, 0, 0, 4, 0)] (by decide +kernel) rfl ?_
  refine Wk.newa (at_ := .char) (N := 4) (code := 101) (ty := .char) rfl (Or.inr (Or.inl ⟨rfl, rfl, rfl⟩)) (ev_is_ok (by decide +kernel)) wa_char (by decide) (by decide) (by decide) (by decide +kernel) rfl rfl (by decide) (by decide) ?_
  show Wk l Ln xs YX12_init d 8 5146 1325 [some (.ref 112)] [.ref 172, .ref 112] cS347 cM333 _
  refine Wk.run (pc' := 1329) (ls' := [some (.ref 112)]) (st' := [.int 116, .int 0, .ref 172, .ref 172, .ref 112]) (m' := cM333) [(.dup, 0, 0, 0, 0), (.iconst 0, 0, 0, 0, 0), (.bipush 116, 0, 0, 116, 0)] (by decide +kernel) rfl ?_
  refine Wk.cast (n := 4) (ev_is_ok (by decide +kernel)) (by decide +kernel) rfl (by decide) ?_
  show Wk l Ln xs YX12_init d 8 5146 1330 [some (.ref 112)] [.ref 172, .ref 112] cS347 cM334 _
  refine Wk.run (pc' := 1334) (ls' := [some (.ref 112)]) (st' := [.int 111, .int 1, .ref 172, .ref 172, .ref 112]) (m' := cM334) [(.dup, 0, 0, 0, 0), (.iconst 1, 0, 0, 1, 0), (.bipush 111, 0, 0, 111, 0)] (by decide +kernel) rfl ?_
  refine Wk.cast (n := 4) (ev_is_ok (by decide +kernel)) (by decide +kernel) rfl (by decide) ?_
  show Wk l Ln xs YX12_init d 8 5146 1335 [some (.ref 112)] [.ref 172, .ref 112] cS347 cM335 _
  refine Wk.run (pc' := 1339) (ls' := [some (.ref 112)]) (st' := [.int 110, .int 2, .ref 172, .ref 172, .ref 112]) (m' := cM335) [(.dup, 0, 0, 0, 0), (.iconst 2, 0, 0, 2, 0), (.bipush 110, 0, 0, 110, 0)] (by decide +kernel) rfl ?_
  refine Wk.cast (n := 4) (ev_is_ok (by decide +kernel)) (by decide +kernel) rfl (by decide) ?_
  show Wk l Ln xs YX12_init d 8 5146 1340 [some (.ref 112)] [.ref 172, .ref 112] cS347 cM336 _
  refine Wk.run (pc' := 1344) (ls' := [some (.ref 112)]) (st' := [.int 101, .int 3, .ref 172, .ref 172, .ref 112]) (m' := cM336) [(.dup, 0, 0, 0, 0), (.iconst 3, 0, 0, 3, 0), (.bipush 101, 0, 0, 101, 0)] (by decide +kernel) rfl ?_
  refine Wk.cast (n := 4) (ev_is_ok (by decide +kernel)) (by decide +kernel) rfl (by decide) ?_
  show Wk l Ln xs YX12_init d 8 5146 1345 [some (.ref 112)] [.ref 172, .ref 112] cS347 cM337 _
  refine Wk.putF (ci := 12) (k := 87) (idx := 198) (b := 172) (by decide +kernel) (by decide +kernel) rfl rfl (ev_is_ok (by decide +kernel)) (by decide +kernel) rfl (by decide +kernel) rfl (Or.inr ⟨_, rfl⟩) ?_
  show Wk l Ln xs YX12_init d 8 5146 1348 [some (.ref 112)] [] cS348 cM337 _
  refine Wk.run (pc' := 1351) (ls' := [some (.ref 112)]) (st' := [.int 6, .ref 112]) (m' := cM337) [(.aload_n 0, 0, 0, 0, 0), (.bipush 6, 0, 0, 6, 0)] (by decide +kernel) rfl ?_
  refine Wk.newa (at_ := .char) (N := 6) (code := 101) (ty := .char) rfl (Or.inr (Or.inl ⟨rfl, rfl, rfl⟩)) (ev_is_ok (by decide +kernel)) wa_char (by decide) (by decide) (by decide) (by decide +kernel) rfl rfl (by decide) (by decide) ?_
  show Wk l Ln xs YX12_init d 7 5140 1353 [some (.ref 112)] [.ref 173, .ref 112] cS349 cM337 _
  refine Wk.run (pc' := 1357) (ls' := [some (.ref 112)]) (st' := [.int 110, .int 0, .ref 173, .ref 173, .ref 112]) (m' := cM337) [(.dup, 0, 0, 0, 0), (.iconst 0, 0, 0, 0, 0), (.bipush 110, 0, 0, 110, 0)] (by decide +kernel) rfl ?_
  refine Wk.cast (n := 6) (ev_is_ok (by decide +kernel)) (by decide +kernel) rfl (by decide) ?_
  show Wk l Ln xs YX12_init d 7 5140 1358 [some (.ref 112)] [.ref 173, .ref 112] cS349 cM338 _
  refine Wk.run (pc' := 1362) (ls' := [some (.ref 112)]) (st' := [.int 117, .int 1, .ref 173, .ref 173, .ref 112]) (m' := cM338) [(.dup, 0, 0, 0, 0), (.iconst 1, 0, 0, 1, 0), (.bipush 117, 0, 0, 117, 0)] (by decide +kernel) rfl ?_
  refine Wk.cast (n := 6) (ev_is_ok (by decide +kernel)) (by decide +kernel) rfl (by decide) ?_
  show Wk l Ln xs YX12_init d 7 5140 1363 [some (.ref 112)] [.ref 173, .ref 112] cS349 cM339 _
  refine Wk.run (pc' := 1367) (ls' := [some (.ref 112)]) (st' := [.int 109, .int 2, .ref 173, .ref 173, .ref 112]) (m' := cM339) [(.dup, 0, 0, 0, 0), (.iconst 2, 0, 0, 2, 0), (.bipush 109, 0, 0, 109, 0)] (by decide +kernel) rfl ?_
  refine Wk.cast (n := 6) (ev_is_ok (by decide +kernel)) (by decide +kernel) rfl (by decide) ?_
  show Wk l Ln xs YX12_init d 7 5140 1368 [some (.ref 112)] [.ref 173, .ref 112] cS349 cM340 _
  refine Wk.run (pc' := 1372) (ls' := [some (.ref 112)]) (st' := [.int 98, .int 3, .ref 173, .ref 173, .ref 112]) (m' := cM340) [(.dup, 0, 0, 0, 0), (.iconst 3, 0, 0, 3, 0), (.bipush 98, 0, 0, 98, 0)] (by decide +kernel) rfl ?_
  refine Wk.cast (n := 6) (ev_is_ok (by decide +kernel)) (by decide +kernel) rfl (by decide) ?_
  show Wk l Ln xs YX12_init d 7 5140 1373 [some (.ref 112)] [.ref 173, .ref 112] cS349 cM341 _
  refine Wk.run (pc' := 1377) (ls' := [some (.ref 112)]) (st' := [.int 101, .int 4, .ref 173, .ref 173, .ref 112]) (m' := cM341) [(.dup, 0, 0, 0, 0), (.iconst 4, 0, 0, 4, 0), (.bipush 101, 0, 0, 101, 0)] (by decide +kernel) rfl ?_
  refine Wk.cast (n := 6) (ev_is_ok (by decide +kernel)) (by decide +kernel) rfl (by decide) ?_
  show Wk l Ln xs YX12_init d 7 5140 1378 [some (.ref 112)] [.ref 173, .ref 112] cS349 cM342 _
  refine Wk.run (pc' := 1382) (ls' := [some (.ref 112)]) (st' := [.int 114, .int 5, .ref 173, .ref 173, .ref 112]) (m' := cM342) [(.dup, 0, 0, 0, 0), (.iconst 5, 0, 0, 5, 0), (.bipush 114, 0, 0, 114, 0)] (by decide +kernel) rfl ?_
  refine Wk.cast (n := 6) (ev_is_ok (by decide +kernel)) (by decide +kernel) rfl (by decide) ?_
  show Wk l Ln xs YX12_init d 7 5140 1383 [some (.ref 112)] [.ref 173, .ref 112] cS349 cM343 _
  refine Wk.putF (ci := 12) (k := 88) (idx := 201) (b := 173) (by decide +kernel) (by decide +kernel) rfl rfl (ev_is_ok (by decide +kernel)) (by decide +kernel) rfl (by decide +kernel) rfl (Or.inr ⟨_, rfl⟩) ?_
  show Wk l Ln xs YX12_init d 7 5140 1386 [some (.ref 112)] [] cS350 cM343 _
  refine Wk.run (pc' := 1388) (ls' := [some (.ref 112)]) (st' := [.int 4, .ref 112]) (m' := cM343) [(.aload_n 0, 0, 0, 0, 0), (.iconst 4, 0, 0, 4, 0)] (by decide +kernel) rfl ?_
  refine Wk.newa (at_ := .char) (N := 4) (code := 101) (ty := .char) rfl (Or.inr (Or.inl ⟨rfl, rfl, rfl⟩)) (ev_is_ok (by decide +kernel)) wa_char (by decide) (by decide) (by decide) (by decide +kernel) rfl rfl (by decide) (by decide) ?_
  show Wk l Ln xs YX12_init d 6 5136 1390 [some (.ref 112)] [.ref 174, .ref 112] cS351 cM343 _
  refine Wk.run (pc' := 1394) (ls' := [some (.ref 112)]) (st' := [.int 103, .int 0, .ref 174, .ref 174, .ref 112]) (m' := cM343) [(.dup, 0, 0, 0, 0), (.iconst 0, 0, 0, 0, 0), (.bipush 103, 0, 0, 103, 0)] (by decide +kernel) rfl ?_
  refine Wk.cast (n := 4) (ev_is_ok (by decide +kernel)) (by decide +kernel) rfl (by decide) ?_
  show Wk l Ln xs YX12_init d 6 5136 1395 [some (.ref 112)] [.ref 174, .ref 112] cS351 cM344 _
  refine Wk.run (pc' := 1399) (ls' := [some (.ref 112)]) (st' := [.int 108, .int 1, .ref 174, .ref 174, .ref 112]) (m' := cM344) [(.dup, 0, 0, 0, 0), (.iconst 1, 0, 0, 1, 0), (.bipush 108, 0, 0, 108, 0)] (by decide +kernel) rfl ?_
  refine Wk.cast (n := 4) (ev_is_ok (by decide +kernel)) (by decide +kernel) rfl (by decide) ?_
  show Wk l Ln xs YX12_init d 6 5136 1400 [some (.ref 112)] [.ref 174, .ref 112] cS351 cM345 _
  refine Wk.run (pc' := 1404) (ls' := [some (.ref 112)]) (st' := [.int 97, .int 2, .ref 174, .ref 174, .ref 112]) (m' := cM345) [(.dup, 0, 0, 0, 0), (.iconst 2, 0, 0, 2, 0), (.bipush 97, 0, 0, 97, 0)] (by decide +kernel) rfl ?_
  refine Wk.cast (n := 4) (ev_is_ok (by decide +kernel)) (by decide +kernel) rfl (by decide) ?_
  show Wk l Ln xs YX12_init d 6 5136 1405 [some (.ref 112)] [.ref 174, .ref 112] cS351 cM346 _
  refine Wk.run (pc' := 1409) (ls' := [some (.ref 112)]) (st' := [.int 100, .int 3, .ref 174, .ref 174, .ref 112]) (m' := cM346) [(.dup, 0, 0, 0, 0), (.iconst 3, 0, 0, 3, 0), (.bipush 100, 0, 0, 100, 0)] (by decide +kernel) rfl ?_
  refine Wk.cast (n := 4) (ev_is_ok (by decide +kernel)) (by decide +kernel) rfl (by decide) ?_
  show Wk l Ln xs YX12_init d 6 5136 1410 [some (.ref 112)] [.ref 174, .ref 112] cS351 cM347 _
  refine Wk.putF (ci := 12) (k := 89) (idx := 204) (b := 174) (by decide +kernel) (by decide +kernel) rfl rfl (ev_is_ok (by decide +kernel)) (by decide +kernel) rfl (by decide +kernel) rfl (Or.inr ⟨_, rfl⟩) ?_
  show Wk l Ln xs YX12_init d 6 5136 1413 [some (.ref 112)] [] cS352 cM347 _
  refine Wk.run (pc' := 1415) (ls' := [some (.ref 112)]) (st' := [.int 3, .ref 112]) (m' := cM347) [(.aload_n 0, 0, 0, 0, 0), (.iconst 3, 0, 0, 3, 0)] (by decide +kernel) rfl ?_
  refine Wk.newa (at_ := .char) (N := 3) (code := 101) (ty := .char) rfl (Or.inr (Or.inl ⟨rfl, rfl, rfl⟩)) (ev_is_ok (by decide +kernel)) wa_char (by decide) (by decide) (by decide) (by decide +kernel) rfl rfl (by decide) (by decide) ?_
  show Wk l Ln xs YX12_init d 5 5133 1417 [some (.ref 112)] [.ref 175, .ref 112] cS353 cM347 _
  refine Wk.run (pc' := 1421) (ls' := [some (.ref 112)]) (st' := [.int 121, .int 0, .ref 175, .ref 175, .ref 112]) (m' := cM347) [(.dup, 0, 0, 0, 0), (.iconst 0, 0, 0, 0, 0), (.bipush 121, 0, 0, 121, 0)] (by decide +kernel) rfl ?_
  refine Wk.cast (n := 3) (ev_is_ok (by decide +kernel)) (by decide +kernel) rfl (by decide) ?_
  show Wk l Ln xs YX12_init d 5 5133 1422 [some (.ref 112)] [.ref 175, .ref 112] cS353 cM348 _
  refine Wk.run (pc' := 1426) (ls' := [some (.ref 112)]) (st' := [.int 101, .int 1, .ref 175, .ref 175, .ref 112]) (m' := cM348) [(.dup, 0, 0, 0, 0), (.iconst 1, 0, 0, 1, 0), (.bipush 101, 0, 0, 101, 0)] (by decide +kernel) rfl ?_
  refine Wk.cast (n := 3) (ev_is_ok (by decide +kernel)) (by decide +kernel) rfl (by decide) ?_
  show Wk l Ln xs YX12_init d 5 5133 1427 [some (.ref 112)] [.ref 175, .ref 112] cS353 cM349 _
  refine Wk.run (pc' := 1431) (ls' := [some (.ref 112)]) (st' := [.int 115, .int 2, .ref 175, .ref 175, .ref 112]) (m' := cM349) [(.dup, 0, 0, 0, 0), (.iconst 2, 0, 0, 2, 0), (.bipush 115, 0, 0, 115, 0)] (by decide +kernel) rfl ?_
  refine Wk.cast (n := 3) (ev_is_ok (by decide +kernel)) (by decide +kernel) rfl (by decide) ?_
  show Wk l Ln xs YX12_init d 5 5133 1432 [some (.ref 112)] [.ref 175, .ref 112] cS353 cM350 _
  refine Wk.putF (ci := 12) (k := 90) (idx := 207) (b := 175) (by decide +kernel) (by decide +kernel) rfl rfl (ev_is_ok (by decide +kernel)) (by decide +kernel) rfl (by decide +kernel) rfl (Or.inr ⟨_, rfl⟩) ?_
  show Wk l Ln xs YX12_init d 5 5133 1435 [some (.ref 112)] [] cS354 cM350 _
  refine Wk.run (pc' := 1437) (ls' := [some (.ref 112)]) (st' := [.int 5, .ref 112]) (m' := cM350) [(.aload_n 0, 0, 0, 0, 0), (.iconst 5, 0, 0, 5, 0)] (by decide +kernel) rfl ?_
  refine Wk.newa (at_ := .char) (N := 5) (code := 101) (ty := .char) rfl (Or.inr (Or.inl ⟨rfl, rfl, rfl⟩)) (ev_is_ok (by decide +kernel)) wa_char (by decide) (by decide) (by decide) (by decide +kernel) rfl rfl (by decide) (by decide) ?_
  show Wk l Ln xs YX12_init d 4 5128 1439 [some (.ref 112)] [.ref 176, .ref 112] cS355 cM350 _
  refine Wk.run (pc' := 1443) (ls' := [some (.ref 112)]) (st' := [.int 104, .int 0, .ref 176, .ref 176, .ref 112]) (m' := cM350) [(.dup, 0, 0, 0, 0), (.iconst 0, 0, 0, 0, 0), (.bipush 104, 0, 0, 104, 0)] (by decide +kernel) rfl ?_
  refine Wk.cast (n := 5) (ev_is_ok (by decide +kernel)) (by decide +kernel) rfl (by decide) ?_
  show Wk l Ln xs YX12_init d 4 5128 1444 [some (.ref 112)] [.ref 176, .ref 112] cS355 cM351 _
  refine Wk.run (pc' := 1448) (ls' := [some (.ref 112)]) (st' := [.int 101, .int 1, .ref 176, .ref 176, .ref 112]) (m' := cM351) [(.dup, 0, 0, 0, 0), (.iconst 1, 0, 0, 1, 0), (.bipush 101, 0, 0, 101, 0)] (by decide +kernel) rfl ?_
  refine Wk.cast (n := 5) (ev_is_ok (by decide +kernel)) (by decide +kernel) rfl (by decide) ?_
  show Wk l Ln xs YX12_init d 4 5128 1449 [some (.ref 112)] [.ref 176, .ref 112] cS355 cM352 _
  refine Wk.run (pc' := 1453) (ls' := [some (.ref 112)]) (st' := [.int 97, .int 2, .ref 176, .ref 176, .ref 112]) (m' := cM352) [(.dup, 0, 0, 0, 0), (.iconst 2, 0, 0, 2, 0), (.bipush 97, 0, 0, 97, 0)] (by decide +kernel) rfl ?_
  refine Wk.cast (n := 5) (ev_is_ok (by decide +kernel)) (by decide +kernel) rfl (by decide) ?_
  show Wk l Ln xs YX12_init d 4 5128 1454 [some (.ref 112)] [.ref 176, .ref 112] cS355 cM353 _
  refine Wk.run (pc' := 1458) (ls' := [some (.ref 112)]) (st' := [.int 114, .int 3, .ref 176, .ref 176, .ref 112]) (m' := cM353) [(.dup, 0, 0, 0, 0), (.iconst 3, 0, 0, 3, 0), (.bipush 114, 0, 0, 114, 0)] (by decide +kernel) rfl ?_
  refine Wk.cast (n := 5) (ev_is_ok (by decide +kernel)) (by decide +kernel) rfl (by decide) ?_
  show Wk l Ln xs YX12_init d 4 5128 1459 [some (.ref 112)] [.ref 176, .ref 112] cS355 cM354 _
  refine Wk.run (pc' := 1463) (ls' := [some (.ref 112)]) (st' := [.int 100, .int 4, .ref 176, .ref 176, .ref 112]) (m' := cM354) [(.dup, 0, 0, 0, 0), (.iconst 4, 0, 0, 4, 0), (.bipush 100, 0, 0, 100, 0)] (by decide +kernel) rfl ?_
  refine Wk.cast (n := 5) (ev_is_ok (by decide +kernel)) (by decide +kernel) rfl (by decide) ?_
  show Wk l Ln xs YX12_init d 4 5128 1464 [some (.ref 112)] [.ref 176, .ref 112] cS355 cM355 _
  refine Wk.putF (ci := 12) (k := 91) (idx := 210) (b := 176) (by decide +kernel) (by decide +kernel) rfl rfl (ev_is_ok (by decide +kernel)) (by decide +kernel) rfl (by decide +kernel) rfl (Or.inr ⟨_, rfl⟩) ?_
  show Wk l Ln xs YX12_init d 4 5128 1467 [some (.ref 112)] [] cS356 cM355 _
  refine Wk.run (pc' := 1471) (ls' := [some (.ref 112)]) (st' := [.int 1700, .ref 112]) (m' := cM355) [(.aload_n 0, 0, 0, 0, 0), (.sipush 1700, 0, 0, 1700, 0)] (by decide +kernel) rfl ?_
  refine Wk.newa (at_ := .int) (N := 1700) (code := 100) (ty := .int) rfl (Or.inl ⟨rfl, rfl, rfl⟩) (ev_is_ok (by decide +kernel)) wa_int (by decide) (by decide) (by decide) (by decide +kernel) rfl rfl (by decide) (by decide) ?_
  show Wk l Ln xs YX12_init d 3 3428 1473 [some (.ref 112)] [.ref 177, .ref 112] cS357 cM355 _
  refine Wk.putF (ci := 12) (k := 92) (idx := 213) (b := 177) (by decide +kernel) (by decide +kernel) rfl rfl (ev_is_ok (by decide +kernel)) (by decide +kernel) rfl (by decide +kernel) rfl (Or.inr ⟨_, rfl⟩) ?_
  show Wk l Ln xs YX12_init d 3 3428 1476 [some (.ref 112)] [] cS358 cM355 _
  refine Wk.run (pc' := 1480) (ls' := [some (.ref 112)]) (st' := [.int 1700, .ref 112]) (m' := cM355) [(.aload_n 0, 0, 0, 0, 0), (.sipush 1700, 0, 0, 1700, 0)] (by decide +kernel) rfl ?_
  refine Wk.newa (at_ := .int) (N := 1700) (code := 100) (ty := .int) rfl (Or.inl ⟨rfl, rfl, rfl⟩) (ev_is_ok (by decide +kernel)) wa_int (by decide) (by decide) (by decide) (by decide +kernel) rfl rfl (by decide) (by decide) ?_
  show Wk l Ln xs YX12_init d 2 1728 1482 [some (.ref 112)] [.ref 178, .ref 112] cS359 cM355 _
  refine Wk.putF (ci := 12) (k := 94) (idx := 216) (b := 178) (by decide +kernel) (by decide +kernel) rfl rfl (ev_is_ok (by decide +kernel)) (by decide +kernel) rfl (by decide +kernel) rfl (Or.inr ⟨_, rfl⟩) ?_
  show Wk l Ln xs YX12_init d 2 1728 1485 [some (.ref 112)] [] cS360 cM355 _
  refine Wk.run (pc' := 1489) (ls' := [some (.ref 112)]) (st' := [.int 1700, .ref 112]) (m' := cM355) [(.aload_n 0, 0, 0, 0, 0), (.sipush 1700, 0, 0, 1700, 0)] (by decide +kernel) rfl ?_
  refine Wk.newa (at_ := .long) (N := 1700) (code := 102) (ty := .long) rfl (Or.inr (Or.inr (Or.inl ⟨rfl, rfl, rfl⟩))) (ev_is_ok (by decide +kernel)) wa_long (by decide) (by decide) (by decide) (by decide +kernel) rfl rfl (by decide) (by decide) ?_
  show Wk l Ln xs YX12_init d 1 28 1491 [some (.ref 112)] [.ref 179, .ref 112] cS361 cM355 _
  refine Wk.putF (ci := 12) (k := 98) (idx := 219) (b := 179) (by decide +kernel) (by decide +kernel) rfl rfl (ev_is_ok (by decide +kernel)) (by decide +kernel) rfl (by decide +kernel) rfl (Or.inr ⟨_, rfl⟩) ?_
  show Wk l Ln xs YX12_init d 1 28 1494 [some (.ref 112)] [] cS362 cM355 _
  refine Wk.run (pc' := 1497) (ls' := [some (.ref 112)]) (st' := [.int 28, .ref 112]) (m' := cM355) [(.aload_n 0, 0, 0, 0, 0), (.bipush 28, 0, 0, 28, 0)] (by decide +kernel) rfl ?_
  refine Wk.newa (at_ := .int) (N := 28) (code := 100) (ty := .int) rfl (Or.inl ⟨rfl, rfl, rfl⟩) (ev_is_ok (by decide +kernel)) wa_int (by decide) (by decide) (by decide) (by decide +kernel) rfl rfl (by decide) (by decide) ?_
  show Wk l Ln xs YX12_init d 0 0 1499 [some (.ref 112)] [.ref 180, .ref 112] cS363 cM355 _
  refine Wk.putF (ci := 12) (k := 102) (idx := 222) (b := 180) (by decide +kernel) (by decide +kernel) rfl rfl (ev_is_ok (by decide +kernel)) (by decide +kernel) rfl (by decide +kernel) rfl (Or.inr ⟨_, rfl⟩) ?_
  show Wk l Ln xs YX12_init d 0 0 1502 [some (.ref 112)] [] cS364 cM355 _
  exact Wk.vret rfl (ev_is_ok (by decide +kernel)) ⟨rfl, rfl, rfl⟩
