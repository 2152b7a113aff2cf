abbrev YL_law : ev_Y := (yL_law, cL_law, 4, (some .boolean), 13)
set_option maxRecDepth 100000 in
theorem lk_13_13 : Cond.methodLink (ev_cn 13) 13 YX11_feed.1 ∈ lw_tbl := ev_t2 (List.mem_of_getElem? (i := 209) rfl)
set_option maxRecDepth 100000 in
theorem lk_13_17 : Cond.methodLink (ev_cn 13) 17 YX12_feed.1 ∈ lw_tbl := ev_t7 (List.mem_of_getElem? (i := 26) rfl)
set_option maxRecDepth 100000 in
theorem lk_13_18 : Cond.methodLink (ev_cn 13) 18 YX11_end.1 ∈ lw_tbl := ev_t2 (List.mem_of_getElem? (i := 226) rfl)
set_option maxRecDepth 100000 in
theorem lk_13_22 : Cond.methodLink (ev_cn 13) 22 YX12_end.1 ∈ lw_tbl := ev_t7 (List.mem_of_getElem? (i := 30) rfl)
set_option maxRecDepth 100000 in
theorem lk_13_23 : Cond.methodLink (ev_cn 13) 23 YX11_castle.1 ∈ lw_tbl := ev_t2 (List.mem_of_getElem? (i := 230) rfl)
set_option maxRecDepth 100000 in
theorem lk_13_27 : Cond.methodLink (ev_cn 13) 27 YX12_castle.1 ∈ lw_tbl := ev_t7 (List.mem_of_getElem? (i := 34) rfl)
set_option maxRecDepth 100000 in
theorem lk_13_28 : Cond.methodLink (ev_cn 13) 28 YX11_fault.1 ∈ lw_tbl := ev_t3 (List.mem_of_getElem? (i := 235) rfl)
set_option maxRecDepth 100000 in
theorem lk_13_32 : Cond.methodLink (ev_cn 13) 32 YX12_fault.1 ∈ lw_tbl := ev_t7 (List.mem_of_getElem? (i := 177) rfl)
set_option maxRecDepth 100000 in
theorem lk_13_33 : Cond.methodLink (ev_cn 13) 33 YX11_has.1 ∈ lw_tbl := ev_t3 (List.mem_of_getElem? (i := 239) rfl)
set_option maxRecDepth 100000 in
theorem lk_13_36 : Cond.methodLink (ev_cn 13) 36 YX12_has.1 ∈ lw_tbl := ev_t7 (List.mem_of_getElem? (i := 181) rfl)
set_option maxRecDepth 100000 in
theorem lk_13_37 : Cond.methodLink (ev_cn 13) 37 YX11_letter.1 ∈ lw_tbl := ev_t4 (List.mem_of_getElem? (i := 20) rfl)
set_option maxRecDepth 100000 in
theorem lk_13_41 : Cond.methodLink (ev_cn 13) 41 YX12_letter.1 ∈ lw_tbl := ev_t7 (List.mem_of_getElem? (i := 193) rfl)
set_option maxRecDepth 100000 in
theorem lk_13_42 : Cond.methodLink (ev_cn 13) 42 YX11_tower.1 ∈ lw_tbl := ev_t4 (List.mem_of_getElem? (i := 28) rfl)
set_option maxRecDepth 100000 in
theorem lk_13_45 : Cond.methodLink (ev_cn 13) 45 YX12_tower.1 ∈ lw_tbl := ev_t7 (List.mem_of_getElem? (i := 202) rfl)
set_option maxRecDepth 100000 in
theorem lk_13_46 : Cond.methodLink (ev_cn 13) 46 YX11_kept.1 ∈ lw_tbl := ev_t4 (List.mem_of_getElem? (i := 32) rfl)
set_option maxRecDepth 100000 in
theorem lk_13_49 : Cond.methodLink (ev_cn 13) 49 YX12_kept.1 ∈ lw_tbl := ev_t7 (List.mem_of_getElem? (i := 207) rfl)
set_option maxRecDepth 100000 in
theorem lk_13_50 : Cond.methodLink (ev_cn 13) 50 YX11_tone.1 ∈ lw_tbl := ev_t4 (List.mem_of_getElem? (i := 40) rfl)
set_option maxRecDepth 100000 in
theorem lk_13_53 : Cond.methodLink (ev_cn 13) 53 YX12_tone.1 ∈ lw_tbl := ev_t7 (List.mem_of_getElem? (i := 211) rfl)
set_option maxRecDepth 100000 in
theorem lk_13_54 : Cond.methodLink (ev_cn 13) 54 YX11_mood.1 ∈ lw_tbl := ev_t4 (List.mem_of_getElem? (i := 101) rfl)
set_option maxRecDepth 100000 in
theorem lk_13_57 : Cond.methodLink (ev_cn 13) 57 YX12_mood.1 ∈ lw_tbl := ev_t8 (List.mem_of_getElem? (i := 77) rfl)
set_option maxRecDepth 100000 in
theorem lk_13_58 : Cond.methodLink (ev_cn 13) 58 YX11_doubts.1 ∈ lw_tbl := ev_t4 (List.mem_of_getElem? (i := 109) rfl)
set_option maxRecDepth 100000 in
theorem lk_13_61 : Cond.methodLink (ev_cn 13) 61 YX12_doubts.1 ∈ lw_tbl := ev_t8 (List.mem_of_getElem? (i := 81) rfl)
set_option maxRecDepth 100000 in
theorem lk_13_62 : Cond.methodLink (ev_cn 13) 62 YX11_fire.1 ∈ lw_tbl := ev_t4 (List.mem_of_getElem? (i := 118) rfl)
set_option maxRecDepth 100000 in
theorem lk_13_65 : Cond.methodLink (ev_cn 13) 65 YX12_fire.1 ∈ lw_tbl := ev_t8 (List.mem_of_getElem? (i := 85) rfl)
set_option maxRecDepth 100000 in
theorem lk_13_66 : Cond.methodLink (ev_cn 13) 66 YX11_settles.1 ∈ lw_tbl := ev_t4 (List.mem_of_getElem? (i := 131) rfl)
set_option maxRecDepth 100000 in
theorem lk_13_69 : Cond.methodLink (ev_cn 13) 69 YX12_settles.1 ∈ lw_tbl := ev_t8 (List.mem_of_getElem? (i := 89) rfl)
set_option maxRecDepth 100000 in
theorem lk_13_70 : Cond.methodLink (ev_cn 13) 70 YX11_cheered.1 ∈ lw_tbl := ev_t4 (List.mem_of_getElem? (i := 144) rfl)
set_option maxRecDepth 100000 in
theorem lk_13_73 : Cond.methodLink (ev_cn 13) 73 YX12_cheered.1 ∈ lw_tbl := ev_t8 (List.mem_of_getElem? (i := 101) rfl)
set_option maxRecDepth 100000 in
theorem lk_13_74 : Cond.methodLink (ev_cn 13) 74 YX11_sighs.1 ∈ lw_tbl := ev_t4 (List.mem_of_getElem? (i := 164) rfl)
set_option maxRecDepth 100000 in
theorem lk_13_77 : Cond.methodLink (ev_cn 13) 77 YX12_sighs.1 ∈ lw_tbl := ev_t8 (List.mem_of_getElem? (i := 120) rfl)
set_option maxRecDepth 100000 in
theorem lk_13_78 : Cond.methodLink (ev_cn 13) 78 YX11_better.1 ∈ lw_tbl := ev_t4 (List.mem_of_getElem? (i := 172) rfl)
set_option maxRecDepth 100000 in
theorem lk_13_81 : Cond.methodLink (ev_cn 13) 81 YX12_better.1 ∈ lw_tbl := ev_t8 (List.mem_of_getElem? (i := 124) rfl)
set_option maxRecDepth 100000 in
theorem lk_13_82 : Cond.methodLink (ev_cn 13) 82 YX11_placed.1 ∈ lw_tbl := ev_t4 (List.mem_of_getElem? (i := 193) rfl)
set_option maxRecDepth 100000 in
theorem lk_13_85 : Cond.methodLink (ev_cn 13) 85 YX12_placed.1 ∈ lw_tbl := ev_t8 (List.mem_of_getElem? (i := 132) rfl)
set_option maxRecDepth 100000 in
theorem lk_13_86 : Cond.methodLink (ev_cn 13) 86 YX11_game.1 ∈ lw_tbl := ev_t4 (List.mem_of_getElem? (i := 205) rfl)
set_option maxRecDepth 100000 in
theorem lk_13_89 : Cond.methodLink (ev_cn 13) 89 YX12_game.1 ∈ lw_tbl := ev_t8 (List.mem_of_getElem? (i := 140) rfl)
set_option maxRecDepth 100000 in
theorem lk_13_90 : Cond.methodLink (ev_cn 13) 90 YX11_rule.1 ∈ lw_tbl := ev_t4 (List.mem_of_getElem? (i := 218) rfl)
set_option maxRecDepth 100000 in
theorem lk_13_93 : Cond.methodLink (ev_cn 13) 93 YX12_rule.1 ∈ lw_tbl := ev_t8 (List.mem_of_getElem? (i := 148) rfl)
set_option maxRecDepth 100000 in
theorem lk_13_94 : Cond.methodLink (ev_cn 13) 94 YX11_see.1 ∈ lw_tbl := ev_t4 (List.mem_of_getElem? (i := 223) rfl)
set_option maxRecDepth 100000 in
theorem lk_13_97 : Cond.methodLink (ev_cn 13) 97 YX12_see.1 ∈ lw_tbl := ev_t8 (List.mem_of_getElem? (i := 153) rfl)
set_option maxRecDepth 100000 in
theorem lk_13_98 : Cond.methodLink (ev_cn 13) 98 YX11_moods.1 ∈ lw_tbl := ev_t4 (List.mem_of_getElem? (i := 231) rfl)
set_option maxRecDepth 100000 in
theorem lk_13_101 : Cond.methodLink (ev_cn 13) 101 YX12_moods.1 ∈ lw_tbl := ev_t8 (List.mem_of_getElem? (i := 161) rfl)
set_option maxRecDepth 100000 in
theorem lk_13_102 : Cond.methodLink (ev_cn 13) 102 YX11_tells.1 ∈ lw_tbl := ev_t5 (List.mem_of_getElem? (i := 19) rfl)
set_option maxRecDepth 100000 in
theorem lk_13_105 : Cond.methodLink (ev_cn 13) 105 YX12_tells.1 ∈ lw_tbl := ev_t8 (List.mem_of_getElem? (i := 173) rfl)
set_option maxRecDepth 100000 in
theorem lk_13_106 : Cond.methodLink (ev_cn 13) 106 YX11_cheer.1 ∈ lw_tbl := ev_t5 (List.mem_of_getElem? (i := 31) rfl)
set_option maxRecDepth 100000 in
theorem lk_13_110 : Cond.methodLink (ev_cn 13) 110 YX12_cheer.1 ∈ lw_tbl := ev_t8 (List.mem_of_getElem? (i := 185) rfl)
set_option maxRecDepth 100000 in
theorem lk_13_111 : Cond.methodLink (ev_cn 13) 111 YX11_yes.1 ∈ lw_tbl := ev_t5 (List.mem_of_getElem? (i := 41) rfl)
set_option maxRecDepth 100000 in
theorem lk_13_114 : Cond.methodLink (ev_cn 13) 114 YX12_yes.1 ∈ lw_tbl := ev_t8 (List.mem_of_getElem? (i := 197) rfl)
set_option maxRecDepth 100000 in
theorem lk_13_115 : Cond.methodLink (ev_cn 13) 115 YX11_change.1 ∈ lw_tbl := ev_t5 (List.mem_of_getElem? (i := 45) rfl)
set_option maxRecDepth 100000 in
theorem lk_13_118 : Cond.methodLink (ev_cn 13) 118 YX12_change.1 ∈ lw_tbl := ev_t8 (List.mem_of_getElem? (i := 201) rfl)
set_option maxRecDepth 100000 in
theorem lk_13_119 : Cond.methodLink (ev_cn 13) 119 YX11_rounds.1 ∈ lw_tbl := ev_t5 (List.mem_of_getElem? (i := 50) rfl)
set_option maxRecDepth 100000 in
theorem lk_13_122 : Cond.methodLink (ev_cn 13) 122 YX12_rounds.1 ∈ lw_tbl := ev_t8 (List.mem_of_getElem? (i := 205) rfl)
set_option maxRecDepth 100000 in
theorem lk_13_123 : Cond.methodLink (ev_cn 13) 123 YX11_chance.1 ∈ lw_tbl := ev_t5 (List.mem_of_getElem? (i := 66) rfl)
set_option maxRecDepth 100000 in
theorem lk_13_126 : Cond.methodLink (ev_cn 13) 126 YX12_chance.1 ∈ lw_tbl := ev_t8 (List.mem_of_getElem? (i := 213) rfl)
set_option maxRecDepth 100000 in
theorem lk_13_127 : Cond.methodLink (ev_cn 13) 127 YX11_undo.1 ∈ lw_tbl := ev_t5 (List.mem_of_getElem? (i := 83) rfl)
set_option maxRecDepth 100000 in
theorem lk_13_131 : Cond.methodLink (ev_cn 13) 131 YX12_undo.1 ∈ lw_tbl := ev_t8 (List.mem_of_getElem? (i := 181) rfl)
set_option maxRecDepth 100000 in
theorem lk_13_132 : Cond.methodLink (ev_cn 13) 132 YX11_seed.1 ∈ lw_tbl := ev_t5 (List.mem_of_getElem? (i := 91) rfl)
set_option maxRecDepth 100000 in
theorem lk_13_135 : Cond.methodLink (ev_cn 13) 135 YX12_seed.1 ∈ lw_tbl := ev_t8 (List.mem_of_getElem? (i := 209) rfl)
set_option maxRecDepth 100000 in
theorem lk_13_136 : Cond.methodLink (ev_cn 13) 136 YX11_ask.1 ∈ lw_tbl := ev_t5 (List.mem_of_getElem? (i := 95) rfl)
set_option maxRecDepth 100000 in
theorem lk_13_140 : Cond.methodLink (ev_cn 13) 140 YX12_ask.1 ∈ lw_tbl := ev_t8 (List.mem_of_getElem? (i := 225) rfl)
set_option maxRecDepth 100000 in
theorem lk_13_141 : Cond.methodLink (ev_cn 13) 141 YX11_image.1 ∈ lw_tbl := ev_t5 (List.mem_of_getElem? (i := 158) rfl)
set_option maxRecDepth 100000 in
theorem lk_13_144 : Cond.methodLink (ev_cn 13) 144 YX12_image.1 ∈ lw_tbl := ev_t9 (List.mem_of_getElem? (i := 31) rfl)
set_option maxRecDepth 100000 in
theorem lk_13_145 : Cond.methodLink (ev_cn 13) 145 YX11_octet.1 ∈ lw_tbl := ev_t5 (List.mem_of_getElem? (i := 165) rfl)
set_option maxRecDepth 100000 in
theorem lk_13_148 : Cond.methodLink (ev_cn 13) 148 YX12_octet.1 ∈ lw_tbl := ev_t9 (List.mem_of_getElem? (i := 42) rfl)
set_option maxRecDepth 100000 in
theorem lk_13_149 : Cond.methodLink (ev_cn 13) 149 YX11_on.1 ∈ lw_tbl := ev_t5 (List.mem_of_getElem? (i := 169) rfl)
set_option maxRecDepth 100000 in
theorem lk_13_152 : Cond.methodLink (ev_cn 13) 152 YX12_on.1 ∈ lw_tbl := ev_t9 (List.mem_of_getElem? (i := 46) rfl)
set_option maxRecDepth 100000 in
theorem lk_13_153 : Cond.methodLink (ev_cn 13) 153 YX11_status.1 ∈ lw_tbl := ev_t5 (List.mem_of_getElem? (i := 181) rfl)
set_option maxRecDepth 100000 in
theorem lk_13_156 : Cond.methodLink (ev_cn 13) 156 YX12_status.1 ∈ lw_tbl := ev_t9 (List.mem_of_getElem? (i := 54) rfl)
def FL_law_J1057 (f : Nat) (Ln : Nat) (xs : Nat → Int32) (kt18 : Int32 → ev_M → Option (Int32 × ev_M))  (a3 : Int32)  (m : ev_M) : Option (Int32 × ev_M) :=
  (kt18 (a3 + 6) m)
def FL_law_L18 (f : Nat) (Ln : Nat) (xs : Nat → Int32) (k : ev_M → Option (Int32 × ev_M))   : Nat → Int32 → ev_M → Option (Int32 × ev_M)
  | 0, _, _ => none
  | n + 1, a3, m => (if ((Int32.ofNat Ln) - 6) < a3 then (k m) else (if ev_in a3 Ln then (if ((xs a3.toNatClampNeg) &&& 63) = 0 then (if ev_in (a3 + 1) Ln then (if ev_in (a3 + 2) Ln then (if ev_in (a3 + 3) Ln then (if ev_in (a3 + 4) Ln then (if ev_in (a3 + 5) Ln then (ev_bd (FX11_feed f (xs (a3 + 1).toNatClampNeg) (xs (a3 + 2).toNatClampNeg) (xs (a3 + 3).toNatClampNeg) (xs (a3 + 4).toNatClampNeg) (xs (a3 + 5).toNatClampNeg) m) (fun r1 m2 => (if ev_in (a3 + 1) Ln then (if ev_in (a3 + 2) Ln then (if ev_in (a3 + 3) Ln then (if ev_in (a3 + 4) Ln then (if ev_in (a3 + 5) Ln then (ev_bd (FX12_feed f (xs (a3 + 1).toNatClampNeg) (xs (a3 + 2).toNatClampNeg) (xs (a3 + 3).toNatClampNeg) (xs (a3 + 4).toNatClampNeg) (xs (a3 + 5).toNatClampNeg) m2) (fun r3 m4 => (if r1 = r3 then (FL_law_J1057 f Ln xs (FL_law_L18 f Ln xs k n) a3 m4) else some (0, m4)))) else none) else none) else none) else none) else none))) else none) else none) else none) else none) else none) else (if ((xs a3.toNatClampNeg) &&& 63) = 1 then (if ev_in (a3 + 1) Ln then (ev_bd (FX11_end f (xs (a3 + 1).toNatClampNeg) m) (fun r6 m7 => (if ev_in (a3 + 1) Ln then (ev_bd (FX12_end f (xs (a3 + 1).toNatClampNeg) m7) (fun r8 m9 => (if r6 = r8 then (FL_law_J1057 f Ln xs (FL_law_L18 f Ln xs k n) a3 m9) else some (0, m9)))) else none))) else none) else (if ((xs a3.toNatClampNeg) &&& 63) = 2 then (ev_bd (FX11_castle f m) (fun r11 m12 => (ev_bd (FX12_castle f m12) (fun r13 m14 => (if r11 = r13 then (FL_law_J1057 f Ln xs (FL_law_L18 f Ln xs k n) a3 m14) else some (0, m14)))))) else (if ((xs a3.toNatClampNeg) &&& 63) = 3 then (if ev_in (a3 + 1) Ln then (ev_bd (FX11_fault f (xs (a3 + 1).toNatClampNeg) m) (fun r16 m17 => (if ev_in (a3 + 1) Ln then (ev_bd (FX12_fault f (xs (a3 + 1).toNatClampNeg) m17) (fun r18 m19 => (if r16 = r18 then (FL_law_J1057 f Ln xs (FL_law_L18 f Ln xs k n) a3 m19) else some (0, m19)))) else none))) else none) else (if ((xs a3.toNatClampNeg) &&& 63) = 4 then (if ev_in (a3 + 1) Ln then (ev_bd (FX11_has f (xs (a3 + 1).toNatClampNeg) m) (fun r21 m22 => (if ev_in (a3 + 1) Ln then (ev_bd (FX12_has f (xs (a3 + 1).toNatClampNeg) m22) (fun r23 m24 => (if r21 = r23 then (FL_law_J1057 f Ln xs (FL_law_L18 f Ln xs k n) a3 m24) else some (0, m24)))) else none))) else none) else (if ((xs a3.toNatClampNeg) &&& 63) = 5 then (if ev_in (a3 + 1) Ln then (if ev_in (a3 + 2) Ln then (ev_bd (FX11_letter f (xs (a3 + 1).toNatClampNeg) (xs (a3 + 2).toNatClampNeg) m) (fun r26 m27 => (if ev_in (a3 + 1) Ln then (if ev_in (a3 + 2) Ln then (ev_bd (FX12_letter f (xs (a3 + 1).toNatClampNeg) (xs (a3 + 2).toNatClampNeg) m27) (fun r28 m29 => (if r26 = r28 then (FL_law_J1057 f Ln xs (FL_law_L18 f Ln xs k n) a3 m29) else some (0, m29)))) else none) else none))) else none) else none) else (if ((xs a3.toNatClampNeg) &&& 63) = 6 then (if ev_in (a3 + 1) Ln then (if ev_in (a3 + 2) Ln then (ev_bd (FX11_tower f (xs (a3 + 1).toNatClampNeg) (xs (a3 + 2).toNatClampNeg) m) (fun r31 m32 => (if ev_in (a3 + 1) Ln then (if ev_in (a3 + 2) Ln then (ev_bd (FX12_tower f (xs (a3 + 1).toNatClampNeg) (xs (a3 + 2).toNatClampNeg) m32) (fun r33 m34 => (if r31 = r33 then (FL_law_J1057 f Ln xs (FL_law_L18 f Ln xs k n) a3 m34) else some (0, m34)))) else none) else none))) else none) else none) else (if ((xs a3.toNatClampNeg) &&& 63) = 7 then (if ev_in (a3 + 1) Ln then (if ev_in (a3 + 2) Ln then (ev_bd (FX11_kept f (xs (a3 + 1).toNatClampNeg) (xs (a3 + 2).toNatClampNeg) m) (fun r36 m37 => (if ev_in (a3 + 1) Ln then (if ev_in (a3 + 2) Ln then (ev_bd (FX12_kept f (xs (a3 + 1).toNatClampNeg) (xs (a3 + 2).toNatClampNeg) m37) (fun r38 m39 => (if r36 = r38 then (FL_law_J1057 f Ln xs (FL_law_L18 f Ln xs k n) a3 m39) else some (0, m39)))) else none) else none))) else none) else none) else (if ((xs a3.toNatClampNeg) &&& 63) = 8 then (if ev_in (a3 + 1) Ln then (if ev_in (a3 + 2) Ln then (ev_bd (FX11_tone f (xs (a3 + 1).toNatClampNeg) (xs (a3 + 2).toNatClampNeg) m) (fun r41 m42 => (if ev_in (a3 + 1) Ln then (if ev_in (a3 + 2) Ln then (ev_bd (FX12_tone f (xs (a3 + 1).toNatClampNeg) (xs (a3 + 2).toNatClampNeg) m42) (fun r43 m44 => (if r41 = r43 then (FL_law_J1057 f Ln xs (FL_law_L18 f Ln xs k n) a3 m44) else some (0, m44)))) else none) else none))) else none) else none) else (if ((xs a3.toNatClampNeg) &&& 63) = 9 then (if ev_in (a3 + 1) Ln then (if ev_in (a3 + 2) Ln then (ev_bd (FX11_mood f (xs (a3 + 1).toNatClampNeg) (xs (a3 + 2).toNatClampNeg) m) (fun r46 m47 => (if ev_in (a3 + 1) Ln then (if ev_in (a3 + 2) Ln then (ev_bd (FX12_mood f (xs (a3 + 1).toNatClampNeg) (xs (a3 + 2).toNatClampNeg) m47) (fun r48 m49 => (if r46 = r48 then (FL_law_J1057 f Ln xs (FL_law_L18 f Ln xs k n) a3 m49) else some (0, m49)))) else none) else none))) else none) else none) else (if ((xs a3.toNatClampNeg) &&& 63) = 10 then (if ev_in (a3 + 1) Ln then (ev_bd (FX11_doubts f (xs (a3 + 1).toNatClampNeg) m) (fun r51 m52 => (if ev_in (a3 + 1) Ln then (ev_bd (FX12_doubts f (xs (a3 + 1).toNatClampNeg) m52) (fun r53 m54 => (if r51 = r53 then (FL_law_J1057 f Ln xs (FL_law_L18 f Ln xs k n) a3 m54) else some (0, m54)))) else none))) else none) else (if ((xs a3.toNatClampNeg) &&& 63) = 11 then (ev_bd (FX11_fire f m) (fun r56 m57 => (ev_bd (FX12_fire f m57) (fun r58 m59 => (if r56 = r58 then (FL_law_J1057 f Ln xs (FL_law_L18 f Ln xs k n) a3 m59) else some (0, m59)))))) else (if ((xs a3.toNatClampNeg) &&& 63) = 12 then (if ev_in (a3 + 1) Ln then (ev_bd (FX11_settles f (xs (a3 + 1).toNatClampNeg) m) (fun r61 m62 => (if ev_in (a3 + 1) Ln then (ev_bd (FX12_settles f (xs (a3 + 1).toNatClampNeg) m62) (fun r63 m64 => (if r61 = r63 then (FL_law_J1057 f Ln xs (FL_law_L18 f Ln xs k n) a3 m64) else some (0, m64)))) else none))) else none) else (if ((xs a3.toNatClampNeg) &&& 63) = 13 then (if ev_in (a3 + 1) Ln then (ev_bd (FX11_cheered f (xs (a3 + 1).toNatClampNeg) m) (fun r66 m67 => (if ev_in (a3 + 1) Ln then (ev_bd (FX12_cheered f (xs (a3 + 1).toNatClampNeg) m67) (fun r68 m69 => (if r66 = r68 then (FL_law_J1057 f Ln xs (FL_law_L18 f Ln xs k n) a3 m69) else some (0, m69)))) else none))) else none) else (if ((xs a3.toNatClampNeg) &&& 63) = 14 then (if ev_in (a3 + 1) Ln then (ev_bd (FX11_sighs f (xs (a3 + 1).toNatClampNeg) m) (fun r71 m72 => (if ev_in (a3 + 1) Ln then (ev_bd (FX12_sighs f (xs (a3 + 1).toNatClampNeg) m72) (fun r73 m74 => (if r71 = r73 then (FL_law_J1057 f Ln xs (FL_law_L18 f Ln xs k n) a3 m74) else some (0, m74)))) else none))) else none) else (if ((xs a3.toNatClampNeg) &&& 63) = 15 then (if ev_in (a3 + 1) Ln then (if ev_in (a3 + 2) Ln then (ev_bd (FX11_better f (xs (a3 + 1).toNatClampNeg) (xs (a3 + 2).toNatClampNeg) m) (fun r76 m77 => (if ev_in (a3 + 1) Ln then (if ev_in (a3 + 2) Ln then (ev_bd (FX12_better f (xs (a3 + 1).toNatClampNeg) (xs (a3 + 2).toNatClampNeg) m77) (fun r78 m79 => (if r76 = r78 then (FL_law_J1057 f Ln xs (FL_law_L18 f Ln xs k n) a3 m79) else some (0, m79)))) else none) else none))) else none) else none) else (if ((xs a3.toNatClampNeg) &&& 63) = 16 then (if ev_in (a3 + 1) Ln then (if ev_in (a3 + 2) Ln then (ev_bd (FX11_placed f (xs (a3 + 1).toNatClampNeg) (xs (a3 + 2).toNatClampNeg) m) (fun r81 m82 => (if ev_in (a3 + 1) Ln then (if ev_in (a3 + 2) Ln then (ev_bd (FX12_placed f (xs (a3 + 1).toNatClampNeg) (xs (a3 + 2).toNatClampNeg) m82) (fun r83 m84 => (if r81 = r83 then (FL_law_J1057 f Ln xs (FL_law_L18 f Ln xs k n) a3 m84) else some (0, m84)))) else none) else none))) else none) else none) else (if ((xs a3.toNatClampNeg) &&& 63) = 17 then (if ev_in (a3 + 1) Ln then (ev_bd (FX11_game f (xs (a3 + 1).toNatClampNeg) m) (fun r86 m87 => (if ev_in (a3 + 1) Ln then (ev_bd (FX12_game f (xs (a3 + 1).toNatClampNeg) m87) (fun r88 m89 => (if r86 = r88 then (FL_law_J1057 f Ln xs (FL_law_L18 f Ln xs k n) a3 m89) else some (0, m89)))) else none))) else none) else (if ((xs a3.toNatClampNeg) &&& 63) = 18 then (if ev_in (a3 + 1) Ln then (if ev_in (a3 + 2) Ln then (ev_bd (FX11_rule f (xs (a3 + 1).toNatClampNeg) (xs (a3 + 2).toNatClampNeg) m) (fun r91 m92 => (if ev_in (a3 + 1) Ln then (if ev_in (a3 + 2) Ln then (ev_bd (FX12_rule f (xs (a3 + 1).toNatClampNeg) (xs (a3 + 2).toNatClampNeg) m92) (fun r93 m94 => (if r91 = r93 then (FL_law_J1057 f Ln xs (FL_law_L18 f Ln xs k n) a3 m94) else some (0, m94)))) else none) else none))) else none) else none) else (if ((xs a3.toNatClampNeg) &&& 63) = 19 then (ev_bd (FX11_see f m) (fun r96 m97 => (ev_bd (FX12_see f m97) (fun r98 m99 => (if r96 = r98 then (FL_law_J1057 f Ln xs (FL_law_L18 f Ln xs k n) a3 m99) else some (0, m99)))))) else (if ((xs a3.toNatClampNeg) &&& 63) = 20 then (if ev_in (a3 + 1) Ln then (ev_bd (FX11_moods f (xs (a3 + 1).toNatClampNeg) m) (fun r101 m102 => (if ev_in (a3 + 1) Ln then (ev_bd (FX12_moods f (xs (a3 + 1).toNatClampNeg) m102) (fun r103 m104 => (if r101 = r103 then (FL_law_J1057 f Ln xs (FL_law_L18 f Ln xs k n) a3 m104) else some (0, m104)))) else none))) else none) else (if ((xs a3.toNatClampNeg) &&& 63) = 21 then (if ev_in (a3 + 1) Ln then (if ev_in (a3 + 2) Ln then (ev_bd (FX11_tells f (xs (a3 + 1).toNatClampNeg) (xs (a3 + 2).toNatClampNeg) m) (fun r106 m107 => (if ev_in (a3 + 1) Ln then (if ev_in (a3 + 2) Ln then (ev_bd (FX12_tells f (xs (a3 + 1).toNatClampNeg) (xs (a3 + 2).toNatClampNeg) m107) (fun r108 m109 => (if r106 = r108 then (FL_law_J1057 f Ln xs (FL_law_L18 f Ln xs k n) a3 m109) else some (0, m109)))) else none) else none))) else none) else none) else (if ((xs a3.toNatClampNeg) &&& 63) = 22 then (if ev_in (a3 + 1) Ln then (if ev_in (a3 + 2) Ln then (ev_bd (FX11_cheer f (xs (a3 + 1).toNatClampNeg) (xs (a3 + 2).toNatClampNeg) m) (fun r111 m112 => (if ev_in (a3 + 1) Ln then (if ev_in (a3 + 2) Ln then (ev_bd (FX12_cheer f (xs (a3 + 1).toNatClampNeg) (xs (a3 + 2).toNatClampNeg) m112) (fun r113 m114 => (if r111 = r113 then (FL_law_J1057 f Ln xs (FL_law_L18 f Ln xs k n) a3 m114) else some (0, m114)))) else none) else none))) else none) else none) else (if ((xs a3.toNatClampNeg) &&& 63) = 23 then (if ev_in (a3 + 1) Ln then (if ev_in (a3 + 2) Ln then (ev_bd (FX11_yes f (xs (a3 + 1).toNatClampNeg) (xs (a3 + 2).toNatClampNeg) m) (fun r116 m117 => (if ev_in (a3 + 1) Ln then (if ev_in (a3 + 2) Ln then (ev_bd (FX12_yes f (xs (a3 + 1).toNatClampNeg) (xs (a3 + 2).toNatClampNeg) m117) (fun r118 m119 => (if r116 = r118 then (FL_law_J1057 f Ln xs (FL_law_L18 f Ln xs k n) a3 m119) else some (0, m119)))) else none) else none))) else none) else none) else (if ((xs a3.toNatClampNeg) &&& 63) = 24 then (if ev_in (a3 + 1) Ln then (if ev_in (a3 + 2) Ln then (ev_bd (FX11_change f (xs (a3 + 1).toNatClampNeg) (xs (a3 + 2).toNatClampNeg) m) (fun r121 m122 => (if ev_in (a3 + 1) Ln then (if ev_in (a3 + 2) Ln then (ev_bd (FX12_change f (xs (a3 + 1).toNatClampNeg) (xs (a3 + 2).toNatClampNeg) m122) (fun r123 m124 => (if r121 = r123 then (FL_law_J1057 f Ln xs (FL_law_L18 f Ln xs k n) a3 m124) else some (0, m124)))) else none) else none))) else none) else none) else (if ((xs a3.toNatClampNeg) &&& 63) = 25 then (if ev_in (a3 + 1) Ln then (ev_bd (FX11_rounds f (xs (a3 + 1).toNatClampNeg) m) (fun r126 m127 => (if ev_in (a3 + 1) Ln then (ev_bd (FX12_rounds f (xs (a3 + 1).toNatClampNeg) m127) (fun r128 m129 => (if r126 = r128 then (FL_law_J1057 f Ln xs (FL_law_L18 f Ln xs k n) a3 m129) else some (0, m129)))) else none))) else none) else (if ((xs a3.toNatClampNeg) &&& 63) = 26 then (if ev_in (a3 + 1) Ln then (ev_bd (FX11_chance f (xs (a3 + 1).toNatClampNeg) m) (fun r131 m132 => (if ev_in (a3 + 1) Ln then (ev_bd (FX12_chance f (xs (a3 + 1).toNatClampNeg) m132) (fun r133 m134 => (if r131 = r133 then (FL_law_J1057 f Ln xs (FL_law_L18 f Ln xs k n) a3 m134) else some (0, m134)))) else none))) else none) else (if ((xs a3.toNatClampNeg) &&& 63) = 27 then (ev_bd (FX11_undo f m) (fun r136 m137 => (ev_bd (FX12_undo f m137) (fun r138 m139 => (if r136 = r138 then (FL_law_J1057 f Ln xs (FL_law_L18 f Ln xs k n) a3 m139) else some (0, m139)))))) else (if ((xs a3.toNatClampNeg) &&& 63) = 28 then (if ev_in (a3 + 1) Ln then (ev_bd (FX11_seed f (xs (a3 + 1).toNatClampNeg) m) (fun r141 m142 => (if ev_in (a3 + 1) Ln then (ev_bd (FX12_seed f (xs (a3 + 1).toNatClampNeg) m142) (fun r143 m144 => (if r141 = r143 then (FL_law_J1057 f Ln xs (FL_law_L18 f Ln xs k n) a3 m144) else some (0, m144)))) else none))) else none) else (if ((xs a3.toNatClampNeg) &&& 63) = 29 then (ev_bd (FX11_ask f m) (fun r146 m147 => (ev_bd (FX12_ask f m147) (fun r148 m149 => (if (lg_cmp r146 r148) = 0 then (FL_law_J1057 f Ln xs (FL_law_L18 f Ln xs k n) a3 m149) else some (0, m149)))))) else (if ((xs a3.toNatClampNeg) &&& 63) = 30 then (ev_bd (FX11_image f m) (fun r151 m152 => (ev_bd (FX12_image f m152) (fun r153 m154 => (if r151 = r153 then (FL_law_J1057 f Ln xs (FL_law_L18 f Ln xs k n) a3 m154) else some (0, m154)))))) else (if ((xs a3.toNatClampNeg) &&& 63) = 31 then (if ev_in (a3 + 1) Ln then (ev_bd (FX11_octet f (xs (a3 + 1).toNatClampNeg) m) (fun r156 m157 => (if ev_in (a3 + 1) Ln then (ev_bd (FX12_octet f (xs (a3 + 1).toNatClampNeg) m157) (fun r158 m159 => (if r156 = r158 then (FL_law_J1057 f Ln xs (FL_law_L18 f Ln xs k n) a3 m159) else some (0, m159)))) else none))) else none) else (if ((xs a3.toNatClampNeg) &&& 63) = 32 then (ev_bd (FX11_on f m) (fun r161 m162 => (ev_bd (FX12_on f m162) (fun r163 m164 => (if r161 = r163 then (FL_law_J1057 f Ln xs (FL_law_L18 f Ln xs k n) a3 m164) else some (0, m164)))))) else (if ((xs a3.toNatClampNeg) &&& 63) = 33 then (if ev_in (a3 + 1) Ln then (ev_bd (FX11_status f (xs (a3 + 1).toNatClampNeg) m) (fun r166 m167 => (if ev_in (a3 + 1) Ln then (ev_bd (FX12_status f (xs (a3 + 1).toNatClampNeg) m167) (fun r168 m169 => (if r166 = r168 then (FL_law_J1057 f Ln xs (FL_law_L18 f Ln xs k n) a3 m169) else some (0, m169)))) else none))) else none) else (FL_law_J1057 f Ln xs (FL_law_L18 f Ln xs k n) a3 m))))))))))))))))))))))))))))))))))) else none))
set_option maxRecDepth 100000 in
set_option maxHeartbeats 8000000 in
theorem EL_law_J1057 {l : Launch} {Ln : Nat} {xs : Nat → Int32} {d : Nat} (f : Nat) (kt18 : Int32 → ev_M → Option (Int32 × ev_M))  (a3 : Int32)  (m : ev_M)  (hkt18 : ∀ (e3 : Int32) (em : ev_M), Ev ev_eI l Ln xs YL_law d Sx 18 [some (.ref 5000), some (.ref 0), some (.ref 112), some (.int e3)] [] em (kt18 e3 em)) (hd : 140 ≤ d) : Ev ev_eI l Ln xs YL_law d Sx 1057 [some (.ref 5000), some (.ref 0), some (.ref 112), some (.int a3)] [] m (FL_law_J1057 f Ln xs kt18 a3 m) := by
  unfold FL_law_J1057
  refine Ev.run (pc' := 1060) (ls' := [some (.ref 5000), some (.ref 0), some (.ref 112), some (.int (a3 + 6))]) (st' := []) (m' := m) [(.iinc 3 6, 0, 0, 6, 0)] (by decide +kernel) rfl ?_
  refine Ev.gto (t := 18) (by decide +kernel) ?_
  exact hkt18 _ _
set_option maxRecDepth 100000 in
set_option maxHeartbeats 8000000 in
theorem EL_law_L18 {l : Launch} {Ln : Nat} {xs : Nat → Int32} {d : Nat} (f : Nat) (k : ev_M → Option (Int32 × ev_M))     (hk : ∀  (em : ev_M), Ev ev_eI l Ln xs YL_law d Sx 1063 [none, none, none, none] [] em (k em)) (hd : 140 ≤ d) : ∀ (n : Nat) (a3 : Int32) (m : ev_M), Ev ev_eI l Ln xs YL_law d Sx 18 [some (.ref 5000), some (.ref 0), some (.ref 112), some (.int a3)] [] m (FL_law_L18 f Ln xs k n a3 m) := by
  intro n
  induction n with
  | zero => intros; exact Ev.nn
  | succ n ih =>
    intro a3 m
    rw [FL_law_L18]
    refine Ev.run (pc' := 20) (ls' := [some (.ref 5000), some (.ref 0), some (.ref 112), some (.int a3)]) (st' := [.ref 5000, .int a3]) (m' := m) [(.iload_n 3, 0, 0, 0, 0), (.aload_n 0, 0, 0, 0, 0)] (by decide +kernel) rfl ?_
    refine Ev.slen (by decide +kernel) ?_
    refine Ev.run (pc' := 24) (ls' := [some (.ref 5000), some (.ref 0), some (.ref 112), some (.int a3)]) (st' := [.int ((Int32.ofNat Ln) - 6), .int a3]) (m' := m) [(.bipush 6, 0, 0, 6, 0), (.isub, 0, 0, 0, 0)] (by decide +kernel) rfl ?_
    refine Ev.ic_gt (t := 1063) (by decide +kernel) ?_ ?_
    · refine Ev.le (ls' := [none, none, none, none]) trivial ?_
      exact hk _
    · refine Ev.run (pc' := 29) (ls' := [some (.ref 5000), some (.ref 0), some (.ref 112), some (.int a3)]) (st' := [.int a3, .ref 5000]) (m' := m) [(.aload_n 0, 0, 0, 0, 0), (.iload_n 3, 0, 0, 0, 0)] (by decide +kernel) rfl ?_
      refine Ev.sald (by decide +kernel) ?_
      refine Ev.run (pc' := 33) (ls' := [some (.ref 5000), some (.ref 0), some (.ref 112), some (.int a3)]) (st' := [.int ((xs a3.toNatClampNeg) &&& 63)]) (m' := m) [(.bipush 63, 0, 0, 63, 0), (.iand, 0, 0, 0, 0)] (by decide +kernel) rfl ?_
      refine Ev.sw1 0 (t := 184) (by decide +kernel) (by decide) ?_ (fun z5 => ?_)
      · refine Ev.run (pc' := 189) (ls' := [some (.ref 5000), some (.ref 0), some (.ref 112), some (.int a3)]) (st' := [.int (a3 + 1), .ref 5000, .ref 0]) (m' := m) [(.aload_n 1, 0, 0, 0, 0), (.aload_n 0, 0, 0, 0, 0), (.iload_n 3, 0, 0, 0, 0), (.iconst 1, 0, 0, 1, 0), (.iadd, 0, 0, 0, 0)] (by decide +kernel) rfl ?_
        refine Ev.sald (by decide +kernel) ?_
        refine Ev.run (pc' := 194) (ls' := [some (.ref 5000), some (.ref 0), some (.ref 112), some (.int a3)]) (st' := [.int (a3 + 2), .ref 5000, .int (xs (a3 + 1).toNatClampNeg), .ref 0]) (m' := m) [(.aload_n 0, 0, 0, 0, 0), (.iload_n 3, 0, 0, 0, 0), (.iconst 2, 0, 0, 2, 0), (.iadd, 0, 0, 0, 0)] (by decide +kernel) rfl ?_
        refine Ev.sald (by decide +kernel) ?_
        refine Ev.run (pc' := 199) (ls' := [some (.ref 5000), some (.ref 0), some (.ref 112), some (.int a3)]) (st' := [.int (a3 + 3), .ref 5000, .int (xs (a3 + 2).toNatClampNeg), .int (xs (a3 + 1).toNatClampNeg), .ref 0]) (m' := m) [(.aload_n 0, 0, 0, 0, 0), (.iload_n 3, 0, 0, 0, 0), (.iconst 3, 0, 0, 3, 0), (.iadd, 0, 0, 0, 0)] (by decide +kernel) rfl ?_
        refine Ev.sald (by decide +kernel) ?_
        refine Ev.run (pc' := 204) (ls' := [some (.ref 5000), some (.ref 0), some (.ref 112), some (.int a3)]) (st' := [.int (a3 + 4), .ref 5000, .int (xs (a3 + 3).toNatClampNeg), .int (xs (a3 + 2).toNatClampNeg), .int (xs (a3 + 1).toNatClampNeg), .ref 0]) (m' := m) [(.aload_n 0, 0, 0, 0, 0), (.iload_n 3, 0, 0, 0, 0), (.iconst 4, 0, 0, 4, 0), (.iadd, 0, 0, 0, 0)] (by decide +kernel) rfl ?_
        refine Ev.sald (by decide +kernel) ?_
        refine Ev.run (pc' := 209) (ls' := [some (.ref 5000), some (.ref 0), some (.ref 112), some (.int a3)]) (st' := [.int (a3 + 5), .ref 5000, .int (xs (a3 + 4).toNatClampNeg), .int (xs (a3 + 3).toNatClampNeg), .int (xs (a3 + 2).toNatClampNeg), .int (xs (a3 + 1).toNatClampNeg), .ref 0]) (m' := m) [(.aload_n 0, 0, 0, 0, 0), (.iload_n 3, 0, 0, 0, 0), (.iconst 5, 0, 0, 5, 0), (.iadd, 0, 0, 0, 0)] (by decide +kernel) rfl ?_
        refine Ev.sald (by decide +kernel) ?_
        refine Ev.cV (av := [.int (xs (a3 + 1).toNatClampNeg), .int (xs (a3 + 2).toNatClampNeg), .int (xs (a3 + 3).toNatClampNeg), .int (xs (a3 + 4).toNatClampNeg), .int (xs (a3 + 5).toNatClampNeg)]) (st := []) (a := 0) (EX11_feed (l := l) (Ln := Ln) (xs := xs) (d := 2) f (xs (a3 + 1).toNatClampNeg) (xs (a3 + 2).toNatClampNeg) (xs (a3 + 3).toNatClampNeg) (xs (a3 + 4).toNatClampNeg) (xs (a3 + 5).toNatClampNeg) m (by decide)) rfl (by decide +kernel) mwX11_feed iwX11_feed vwX11_feed lk_13_13 (by omega) (by decide) rfl (by decide) rfl rfl (Nat.le_of_ble_eq_true rfl) (fun r1 m2 => ?_)
        refine Ev.run (pc' := 218) (ls' := [some (.ref 5000), some (.ref 0), some (.ref 112), some (.int a3)]) (st' := [.int (a3 + 1), .ref 5000, .ref 112, .int r1]) (m' := m2) [(.aload_n 2, 0, 0, 0, 0), (.aload_n 0, 0, 0, 0, 0), (.iload_n 3, 0, 0, 0, 0), (.iconst 1, 0, 0, 1, 0), (.iadd, 0, 0, 0, 0)] (by decide +kernel) rfl ?_
        refine Ev.sald (by decide +kernel) ?_
        refine Ev.run (pc' := 223) (ls' := [some (.ref 5000), some (.ref 0), some (.ref 112), some (.int a3)]) (st' := [.int (a3 + 2), .ref 5000, .int (xs (a3 + 1).toNatClampNeg), .ref 112, .int r1]) (m' := m2) [(.aload_n 0, 0, 0, 0, 0), (.iload_n 3, 0, 0, 0, 0), (.iconst 2, 0, 0, 2, 0), (.iadd, 0, 0, 0, 0)] (by decide +kernel) rfl ?_
        refine Ev.sald (by decide +kernel) ?_
        refine Ev.run (pc' := 228) (ls' := [some (.ref 5000), some (.ref 0), some (.ref 112), some (.int a3)]) (st' := [.int (a3 + 3), .ref 5000, .int (xs (a3 + 2).toNatClampNeg), .int (xs (a3 + 1).toNatClampNeg), .ref 112, .int r1]) (m' := m2) [(.aload_n 0, 0, 0, 0, 0), (.iload_n 3, 0, 0, 0, 0), (.iconst 3, 0, 0, 3, 0), (.iadd, 0, 0, 0, 0)] (by decide +kernel) rfl ?_
        refine Ev.sald (by decide +kernel) ?_
        refine Ev.run (pc' := 233) (ls' := [some (.ref 5000), some (.ref 0), some (.ref 112), some (.int a3)]) (st' := [.int (a3 + 4), .ref 5000, .int (xs (a3 + 3).toNatClampNeg), .int (xs (a3 + 2).toNatClampNeg), .int (xs (a3 + 1).toNatClampNeg), .ref 112, .int r1]) (m' := m2) [(.aload_n 0, 0, 0, 0, 0), (.iload_n 3, 0, 0, 0, 0), (.iconst 4, 0, 0, 4, 0), (.iadd, 0, 0, 0, 0)] (by decide +kernel) rfl ?_
        refine Ev.sald (by decide +kernel) ?_
        refine Ev.run (pc' := 238) (ls' := [some (.ref 5000), some (.ref 0), some (.ref 112), some (.int a3)]) (st' := [.int (a3 + 5), .ref 5000, .int (xs (a3 + 4).toNatClampNeg), .int (xs (a3 + 3).toNatClampNeg), .int (xs (a3 + 2).toNatClampNeg), .int (xs (a3 + 1).toNatClampNeg), .ref 112, .int r1]) (m' := m2) [(.aload_n 0, 0, 0, 0, 0), (.iload_n 3, 0, 0, 0, 0), (.iconst 5, 0, 0, 5, 0), (.iadd, 0, 0, 0, 0)] (by decide +kernel) rfl ?_
        refine Ev.sald (by decide +kernel) ?_
        refine Ev.cV (av := [.int (xs (a3 + 1).toNatClampNeg), .int (xs (a3 + 2).toNatClampNeg), .int (xs (a3 + 3).toNatClampNeg), .int (xs (a3 + 4).toNatClampNeg), .int (xs (a3 + 5).toNatClampNeg)]) (st := [.int r1]) (a := 112) (EX12_feed (l := l) (Ln := Ln) (xs := xs) (d := 0) f (xs (a3 + 1).toNatClampNeg) (xs (a3 + 2).toNatClampNeg) (xs (a3 + 3).toNatClampNeg) (xs (a3 + 4).toNatClampNeg) (xs (a3 + 5).toNatClampNeg) m2 (by decide)) rfl (by decide +kernel) mwX12_feed iwX12_feed vwX12_feed lk_13_17 (by omega) (by decide) rfl (by decide) rfl rfl (Nat.le_of_ble_eq_true rfl) (fun r3 m4 => ?_)
        refine Ev.ic_eq (t := 1057) (by decide +kernel) ?_ ?_
        · exact EL_law_J1057 f (FL_law_L18 f Ln xs k n) a3 m4 ih (by omega)
        · refine Ev.run (pc' := 246) (ls' := [some (.ref 5000), some (.ref 0), some (.ref 112), some (.int a3)]) (st' := [.int 0]) (m' := m4) [(.iconst 0, 0, 0, 0, 0)] (by decide +kernel) rfl ?_
          exact Ev.iretz rfl rfl (by decide +kernel) (by decide)
      refine Ev.sw1 1 (t := 247) (by decide +kernel) (by decide) ?_ (fun z10 => ?_)
      · refine Ev.run (pc' := 252) (ls' := [some (.ref 5000), some (.ref 0), some (.ref 112), some (.int a3)]) (st' := [.int (a3 + 1), .ref 5000, .ref 0]) (m' := m) [(.aload_n 1, 0, 0, 0, 0), (.aload_n 0, 0, 0, 0, 0), (.iload_n 3, 0, 0, 0, 0), (.iconst 1, 0, 0, 1, 0), (.iadd, 0, 0, 0, 0)] (by decide +kernel) rfl ?_
        refine Ev.sald (by decide +kernel) ?_
        refine Ev.cV (av := [.int (xs (a3 + 1).toNatClampNeg)]) (st := []) (a := 0) (EX11_end (l := l) (Ln := Ln) (xs := xs) (d := 1) f (xs (a3 + 1).toNatClampNeg) m (by decide)) rfl (by decide +kernel) mwX11_end iwX11_end vwX11_end lk_13_18 (by omega) (by decide) rfl (by decide) rfl rfl (Nat.le_of_ble_eq_true rfl) (fun r6 m7 => ?_)
        refine Ev.run (pc' := 261) (ls' := [some (.ref 5000), some (.ref 0), some (.ref 112), some (.int a3)]) (st' := [.int (a3 + 1), .ref 5000, .ref 112, .int r6]) (m' := m7) [(.aload_n 2, 0, 0, 0, 0), (.aload_n 0, 0, 0, 0, 0), (.iload_n 3, 0, 0, 0, 0), (.iconst 1, 0, 0, 1, 0), (.iadd, 0, 0, 0, 0)] (by decide +kernel) rfl ?_
        refine Ev.sald (by decide +kernel) ?_
        refine Ev.cV (av := [.int (xs (a3 + 1).toNatClampNeg)]) (st := [.int r6]) (a := 112) (EX12_end (l := l) (Ln := Ln) (xs := xs) (d := 0) f (xs (a3 + 1).toNatClampNeg) m7 (by decide)) rfl (by decide +kernel) mwX12_end iwX12_end vwX12_end lk_13_22 (by omega) (by decide) rfl (by decide) rfl rfl (Nat.le_of_ble_eq_true rfl) (fun r8 m9 => ?_)
        refine Ev.ic_eq (t := 1057) (by decide +kernel) ?_ ?_
        · exact EL_law_J1057 f (FL_law_L18 f Ln xs k n) a3 m9 ih (by omega)
        · refine Ev.run (pc' := 269) (ls' := [some (.ref 5000), some (.ref 0), some (.ref 112), some (.int a3)]) (st' := [.int 0]) (m' := m9) [(.iconst 0, 0, 0, 0, 0)] (by decide +kernel) rfl ?_
          exact Ev.iretz rfl rfl (by decide +kernel) (by decide)
      refine Ev.sw1 2 (t := 270) (by decide +kernel) (by decide) ?_ (fun z15 => ?_)
      · refine Ev.run (pc' := 271) (ls' := [some (.ref 5000), some (.ref 0), some (.ref 112), some (.int a3)]) (st' := [.ref 0]) (m' := m) [(.aload_n 1, 0, 0, 0, 0)] (by decide +kernel) rfl ?_
        refine Ev.cV (av := []) (st := []) (a := 0) (EX11_castle (l := l) (Ln := Ln) (xs := xs) (d := 75) f m (by decide)) rfl (by decide +kernel) mwX11_castle iwX11_castle vwX11_castle lk_13_23 (by omega) (by decide) rfl (by decide) rfl rfl (Nat.le_of_ble_eq_true rfl) (fun r11 m12 => ?_)
        refine Ev.run (pc' := 275) (ls' := [some (.ref 5000), some (.ref 0), some (.ref 112), some (.int a3)]) (st' := [.ref 112, .int r11]) (m' := m12) [(.aload_n 2, 0, 0, 0, 0)] (by decide +kernel) rfl ?_
        refine Ev.cV (av := []) (st := [.int r11]) (a := 112) (EX12_castle (l := l) (Ln := Ln) (xs := xs) (d := 9) f m12 (by decide)) rfl (by decide +kernel) mwX12_castle iwX12_castle vwX12_castle lk_13_27 (by omega) (by decide) rfl (by decide) rfl rfl (Nat.le_of_ble_eq_true rfl) (fun r13 m14 => ?_)
        refine Ev.ic_eq (t := 1057) (by decide +kernel) ?_ ?_
        · exact EL_law_J1057 f (FL_law_L18 f Ln xs k n) a3 m14 ih (by omega)
        · refine Ev.run (pc' := 282) (ls' := [some (.ref 5000), some (.ref 0), some (.ref 112), some (.int a3)]) (st' := [.int 0]) (m' := m14) [(.iconst 0, 0, 0, 0, 0)] (by decide +kernel) rfl ?_
          exact Ev.iretz rfl rfl (by decide +kernel) (by decide)
      refine Ev.sw1 3 (t := 283) (by decide +kernel) (by decide) ?_ (fun z20 => ?_)
      · refine Ev.run (pc' := 288) (ls' := [some (.ref 5000), some (.ref 0), some (.ref 112), some (.int a3)]) (st' := [.int (a3 + 1), .ref 5000, .ref 0]) (m' := m) [(.aload_n 1, 0, 0, 0, 0), (.aload_n 0, 0, 0, 0, 0), (.iload_n 3, 0, 0, 0, 0), (.iconst 1, 0, 0, 1, 0), (.iadd, 0, 0, 0, 0)] (by decide +kernel) rfl ?_
        refine Ev.sald (by decide +kernel) ?_
        refine Ev.cV (av := [.int (xs (a3 + 1).toNatClampNeg)]) (st := []) (a := 0) (EX11_fault (l := l) (Ln := Ln) (xs := xs) (d := 0) f (xs (a3 + 1).toNatClampNeg) m (by decide)) rfl (by decide +kernel) mwX11_fault iwX11_fault vwX11_fault lk_13_28 (by omega) (by decide) rfl (by decide) rfl rfl (Nat.le_of_ble_eq_true rfl) (fun r16 m17 => ?_)
        refine Ev.run (pc' := 297) (ls' := [some (.ref 5000), some (.ref 0), some (.ref 112), some (.int a3)]) (st' := [.int (a3 + 1), .ref 5000, .ref 112, .int r16]) (m' := m17) [(.aload_n 2, 0, 0, 0, 0), (.aload_n 0, 0, 0, 0, 0), (.iload_n 3, 0, 0, 0, 0), (.iconst 1, 0, 0, 1, 0), (.iadd, 0, 0, 0, 0)] (by decide +kernel) rfl ?_
        refine Ev.sald (by decide +kernel) ?_
        refine Ev.cV (av := [.int (xs (a3 + 1).toNatClampNeg)]) (st := [.int r16]) (a := 112) (EX12_fault (l := l) (Ln := Ln) (xs := xs) (d := 0) f (xs (a3 + 1).toNatClampNeg) m17 (by decide)) rfl (by decide +kernel) mwX12_fault iwX12_fault vwX12_fault lk_13_32 (by omega) (by decide) rfl (by decide) rfl rfl (Nat.le_of_ble_eq_true rfl) (fun r18 m19 => ?_)
        refine Ev.ic_eq (t := 1057) (by decide +kernel) ?_ ?_
        · exact EL_law_J1057 f (FL_law_L18 f Ln xs k n) a3 m19 ih (by omega)
        · refine Ev.run (pc' := 305) (ls' := [some (.ref 5000), some (.ref 0), some (.ref 112), some (.int a3)]) (st' := [.int 0]) (m' := m19) [(.iconst 0, 0, 0, 0, 0)] (by decide +kernel) rfl ?_
          exact Ev.iretz rfl rfl (by decide +kernel) (by decide)
      refine Ev.sw1 4 (t := 306) (by decide +kernel) (by decide) ?_ (fun z25 => ?_)
      · refine Ev.run (pc' := 311) (ls' := [some (.ref 5000), some (.ref 0), some (.ref 112), some (.int a3)]) (st' := [.int (a3 + 1), .ref 5000, .ref 0]) (m' := m) [(.aload_n 1, 0, 0, 0, 0), (.aload_n 0, 0, 0, 0, 0), (.iload_n 3, 0, 0, 0, 0), (.iconst 1, 0, 0, 1, 0), (.iadd, 0, 0, 0, 0)] (by decide +kernel) rfl ?_
        refine Ev.sald (by decide +kernel) ?_
        refine Ev.cV (av := [.int (xs (a3 + 1).toNatClampNeg)]) (st := []) (a := 0) (EX11_has (l := l) (Ln := Ln) (xs := xs) (d := 1) f (xs (a3 + 1).toNatClampNeg) m (by decide)) rfl (by decide +kernel) mwX11_has iwX11_has vwX11_has lk_13_33 (by omega) (by decide) rfl (by decide) rfl rfl (Nat.le_of_ble_eq_true rfl) (fun r21 m22 => ?_)
        refine Ev.run (pc' := 320) (ls' := [some (.ref 5000), some (.ref 0), some (.ref 112), some (.int a3)]) (st' := [.int (a3 + 1), .ref 5000, .ref 112, .int r21]) (m' := m22) [(.aload_n 2, 0, 0, 0, 0), (.aload_n 0, 0, 0, 0, 0), (.iload_n 3, 0, 0, 0, 0), (.iconst 1, 0, 0, 1, 0), (.iadd, 0, 0, 0, 0)] (by decide +kernel) rfl ?_
        refine Ev.sald (by decide +kernel) ?_
        refine Ev.cV (av := [.int (xs (a3 + 1).toNatClampNeg)]) (st := [.int r21]) (a := 112) (EX12_has (l := l) (Ln := Ln) (xs := xs) (d := 2) f (xs (a3 + 1).toNatClampNeg) m22 (by decide)) rfl (by decide +kernel) mwX12_has iwX12_has vwX12_has lk_13_36 (by omega) (by decide) rfl (by decide) rfl rfl (Nat.le_of_ble_eq_true rfl) (fun r23 m24 => ?_)
        refine Ev.ic_eq (t := 1057) (by decide +kernel) ?_ ?_
        · exact EL_law_J1057 f (FL_law_L18 f Ln xs k n) a3 m24 ih (by omega)
        · refine Ev.run (pc' := 328) (ls' := [some (.ref 5000), some (.ref 0), some (.ref 112), some (.int a3)]) (st' := [.int 0]) (m' := m24) [(.iconst 0, 0, 0, 0, 0)] (by decide +kernel) rfl ?_
          exact Ev.iretz rfl rfl (by decide +kernel) (by decide)
      refine Ev.sw1 5 (t := 329) (by decide +kernel) (by decide) ?_ (fun z30 => ?_)
      · refine Ev.run (pc' := 334) (ls' := [some (.ref 5000), some (.ref 0), some (.ref 112), some (.int a3)]) (st' := [.int (a3 + 1), .ref 5000, .ref 0]) (m' := m) [(.aload_n 1, 0, 0, 0, 0), (.aload_n 0, 0, 0, 0, 0), (.iload_n 3, 0, 0, 0, 0), (.iconst 1, 0, 0, 1, 0), (.iadd, 0, 0, 0, 0)] (by decide +kernel) rfl ?_
        refine Ev.sald (by decide +kernel) ?_
        refine Ev.run (pc' := 339) (ls' := [some (.ref 5000), some (.ref 0), some (.ref 112), some (.int a3)]) (st' := [.int (a3 + 2), .ref 5000, .int (xs (a3 + 1).toNatClampNeg), .ref 0]) (m' := m) [(.aload_n 0, 0, 0, 0, 0), (.iload_n 3, 0, 0, 0, 0), (.iconst 2, 0, 0, 2, 0), (.iadd, 0, 0, 0, 0)] (by decide +kernel) rfl ?_
        refine Ev.sald (by decide +kernel) ?_
        refine Ev.cV (av := [.int (xs (a3 + 1).toNatClampNeg), .int (xs (a3 + 2).toNatClampNeg)]) (st := []) (a := 0) (EX11_letter (l := l) (Ln := Ln) (xs := xs) (d := 1) f (xs (a3 + 1).toNatClampNeg) (xs (a3 + 2).toNatClampNeg) m (by decide)) rfl (by decide +kernel) mwX11_letter iwX11_letter vwX11_letter lk_13_37 (by omega) (by decide) rfl (by decide) rfl rfl (Nat.le_of_ble_eq_true rfl) (fun r26 m27 => ?_)
        refine Ev.run (pc' := 348) (ls' := [some (.ref 5000), some (.ref 0), some (.ref 112), some (.int a3)]) (st' := [.int (a3 + 1), .ref 5000, .ref 112, .int r26]) (m' := m27) [(.aload_n 2, 0, 0, 0, 0), (.aload_n 0, 0, 0, 0, 0), (.iload_n 3, 0, 0, 0, 0), (.iconst 1, 0, 0, 1, 0), (.iadd, 0, 0, 0, 0)] (by decide +kernel) rfl ?_
        refine Ev.sald (by decide +kernel) ?_
        refine Ev.run (pc' := 353) (ls' := [some (.ref 5000), some (.ref 0), some (.ref 112), some (.int a3)]) (st' := [.int (a3 + 2), .ref 5000, .int (xs (a3 + 1).toNatClampNeg), .ref 112, .int r26]) (m' := m27) [(.aload_n 0, 0, 0, 0, 0), (.iload_n 3, 0, 0, 0, 0), (.iconst 2, 0, 0, 2, 0), (.iadd, 0, 0, 0, 0)] (by decide +kernel) rfl ?_
        refine Ev.sald (by decide +kernel) ?_
        refine Ev.cV (av := [.int (xs (a3 + 1).toNatClampNeg), .int (xs (a3 + 2).toNatClampNeg)]) (st := [.int r26]) (a := 112) (EX12_letter (l := l) (Ln := Ln) (xs := xs) (d := 2) f (xs (a3 + 1).toNatClampNeg) (xs (a3 + 2).toNatClampNeg) m27 (by decide)) rfl (by decide +kernel) mwX12_letter iwX12_letter vwX12_letter lk_13_41 (by omega) (by decide) rfl (by decide) rfl rfl (Nat.le_of_ble_eq_true rfl) (fun r28 m29 => ?_)
        refine Ev.ic_eq (t := 1057) (by decide +kernel) ?_ ?_
        · exact EL_law_J1057 f (FL_law_L18 f Ln xs k n) a3 m29 ih (by omega)
        · refine Ev.run (pc' := 361) (ls' := [some (.ref 5000), some (.ref 0), some (.ref 112), some (.int a3)]) (st' := [.int 0]) (m' := m29) [(.iconst 0, 0, 0, 0, 0)] (by decide +kernel) rfl ?_
          exact Ev.iretz rfl rfl (by decide +kernel) (by decide)
      refine Ev.sw1 6 (t := 362) (by decide +kernel) (by decide) ?_ (fun z35 => ?_)
      · refine Ev.run (pc' := 367) (ls' := [some (.ref 5000), some (.ref 0), some (.ref 112), some (.int a3)]) (st' := [.int (a3 + 1), .ref 5000, .ref 0]) (m' := m) [(.aload_n 1, 0, 0, 0, 0), (.aload_n 0, 0, 0, 0, 0), (.iload_n 3, 0, 0, 0, 0), (.iconst 1, 0, 0, 1, 0), (.iadd, 0, 0, 0, 0)] (by decide +kernel) rfl ?_
        refine Ev.sald (by decide +kernel) ?_
        refine Ev.run (pc' := 372) (ls' := [some (.ref 5000), some (.ref 0), some (.ref 112), some (.int a3)]) (st' := [.int (a3 + 2), .ref 5000, .int (xs (a3 + 1).toNatClampNeg), .ref 0]) (m' := m) [(.aload_n 0, 0, 0, 0, 0), (.iload_n 3, 0, 0, 0, 0), (.iconst 2, 0, 0, 2, 0), (.iadd, 0, 0, 0, 0)] (by decide +kernel) rfl ?_
        refine Ev.sald (by decide +kernel) ?_
        refine Ev.cV (av := [.int (xs (a3 + 1).toNatClampNeg), .int (xs (a3 + 2).toNatClampNeg)]) (st := []) (a := 0) (EX11_tower (l := l) (Ln := Ln) (xs := xs) (d := 1) f (xs (a3 + 1).toNatClampNeg) (xs (a3 + 2).toNatClampNeg) m (by decide)) rfl (by decide +kernel) mwX11_tower iwX11_tower vwX11_tower lk_13_42 (by omega) (by decide) rfl (by decide) rfl rfl (Nat.le_of_ble_eq_true rfl) (fun r31 m32 => ?_)
        refine Ev.run (pc' := 381) (ls' := [some (.ref 5000), some (.ref 0), some (.ref 112), some (.int a3)]) (st' := [.int (a3 + 1), .ref 5000, .ref 112, .int r31]) (m' := m32) [(.aload_n 2, 0, 0, 0, 0), (.aload_n 0, 0, 0, 0, 0), (.iload_n 3, 0, 0, 0, 0), (.iconst 1, 0, 0, 1, 0), (.iadd, 0, 0, 0, 0)] (by decide +kernel) rfl ?_
        refine Ev.sald (by decide +kernel) ?_
        refine Ev.run (pc' := 386) (ls' := [some (.ref 5000), some (.ref 0), some (.ref 112), some (.int a3)]) (st' := [.int (a3 + 2), .ref 5000, .int (xs (a3 + 1).toNatClampNeg), .ref 112, .int r31]) (m' := m32) [(.aload_n 0, 0, 0, 0, 0), (.iload_n 3, 0, 0, 0, 0), (.iconst 2, 0, 0, 2, 0), (.iadd, 0, 0, 0, 0)] (by decide +kernel) rfl ?_
        refine Ev.sald (by decide +kernel) ?_
        refine Ev.cV (av := [.int (xs (a3 + 1).toNatClampNeg), .int (xs (a3 + 2).toNatClampNeg)]) (st := [.int r31]) (a := 112) (EX12_tower (l := l) (Ln := Ln) (xs := xs) (d := 2) f (xs (a3 + 1).toNatClampNeg) (xs (a3 + 2).toNatClampNeg) m32 (by decide)) rfl (by decide +kernel) mwX12_tower iwX12_tower vwX12_tower lk_13_45 (by omega) (by decide) rfl (by decide) rfl rfl (Nat.le_of_ble_eq_true rfl) (fun r33 m34 => ?_)
        refine Ev.ic_eq (t := 1057) (by decide +kernel) ?_ ?_
        · exact EL_law_J1057 f (FL_law_L18 f Ln xs k n) a3 m34 ih (by omega)
        · refine Ev.run (pc' := 394) (ls' := [some (.ref 5000), some (.ref 0), some (.ref 112), some (.int a3)]) (st' := [.int 0]) (m' := m34) [(.iconst 0, 0, 0, 0, 0)] (by decide +kernel) rfl ?_
          exact Ev.iretz rfl rfl (by decide +kernel) (by decide)
      refine Ev.sw1 7 (t := 395) (by decide +kernel) (by decide) ?_ (fun z40 => ?_)
      · refine Ev.run (pc' := 400) (ls' := [some (.ref 5000), some (.ref 0), some (.ref 112), some (.int a3)]) (st' := [.int (a3 + 1), .ref 5000, .ref 0]) (m' := m) [(.aload_n 1, 0, 0, 0, 0), (.aload_n 0, 0, 0, 0, 0), (.iload_n 3, 0, 0, 0, 0), (.iconst 1, 0, 0, 1, 0), (.iadd, 0, 0, 0, 0)] (by decide +kernel) rfl ?_
        refine Ev.sald (by decide +kernel) ?_
        refine Ev.run (pc' := 405) (ls' := [some (.ref 5000), some (.ref 0), some (.ref 112), some (.int a3)]) (st' := [.int (a3 + 2), .ref 5000, .int (xs (a3 + 1).toNatClampNeg), .ref 0]) (m' := m) [(.aload_n 0, 0, 0, 0, 0), (.iload_n 3, 0, 0, 0, 0), (.iconst 2, 0, 0, 2, 0), (.iadd, 0, 0, 0, 0)] (by decide +kernel) rfl ?_
        refine Ev.sald (by decide +kernel) ?_
        refine Ev.cV (av := [.int (xs (a3 + 1).toNatClampNeg), .int (xs (a3 + 2).toNatClampNeg)]) (st := []) (a := 0) (EX11_kept (l := l) (Ln := Ln) (xs := xs) (d := 1) f (xs (a3 + 1).toNatClampNeg) (xs (a3 + 2).toNatClampNeg) m (by decide)) rfl (by decide +kernel) mwX11_kept iwX11_kept vwX11_kept lk_13_46 (by omega) (by decide) rfl (by decide) rfl rfl (Nat.le_of_ble_eq_true rfl) (fun r36 m37 => ?_)
        refine Ev.run (pc' := 414) (ls' := [some (.ref 5000), some (.ref 0), some (.ref 112), some (.int a3)]) (st' := [.int (a3 + 1), .ref 5000, .ref 112, .int r36]) (m' := m37) [(.aload_n 2, 0, 0, 0, 0), (.aload_n 0, 0, 0, 0, 0), (.iload_n 3, 0, 0, 0, 0), (.iconst 1, 0, 0, 1, 0), (.iadd, 0, 0, 0, 0)] (by decide +kernel) rfl ?_
        refine Ev.sald (by decide +kernel) ?_
        refine Ev.run (pc' := 419) (ls' := [some (.ref 5000), some (.ref 0), some (.ref 112), some (.int a3)]) (st' := [.int (a3 + 2), .ref 5000, .int (xs (a3 + 1).toNatClampNeg), .ref 112, .int r36]) (m' := m37) [(.aload_n 0, 0, 0, 0, 0), (.iload_n 3, 0, 0, 0, 0), (.iconst 2, 0, 0, 2, 0), (.iadd, 0, 0, 0, 0)] (by decide +kernel) rfl ?_
        refine Ev.sald (by decide +kernel) ?_
        refine Ev.cV (av := [.int (xs (a3 + 1).toNatClampNeg), .int (xs (a3 + 2).toNatClampNeg)]) (st := [.int r36]) (a := 112) (EX12_kept (l := l) (Ln := Ln) (xs := xs) (d := 1) f (xs (a3 + 1).toNatClampNeg) (xs (a3 + 2).toNatClampNeg) m37 (by decide)) rfl (by decide +kernel) mwX12_kept iwX12_kept vwX12_kept lk_13_49 (by omega) (by decide) rfl (by decide) rfl rfl (Nat.le_of_ble_eq_true rfl) (fun r38 m39 => ?_)
        refine Ev.ic_eq (t := 1057) (by decide +kernel) ?_ ?_
        · exact EL_law_J1057 f (FL_law_L18 f Ln xs k n) a3 m39 ih (by omega)
        · refine Ev.run (pc' := 427) (ls' := [some (.ref 5000), some (.ref 0), some (.ref 112), some (.int a3)]) (st' := [.int 0]) (m' := m39) [(.iconst 0, 0, 0, 0, 0)] (by decide +kernel) rfl ?_
          exact Ev.iretz rfl rfl (by decide +kernel) (by decide)
      refine Ev.sw1 8 (t := 428) (by decide +kernel) (by decide) ?_ (fun z45 => ?_)
      · refine Ev.run (pc' := 433) (ls' := [some (.ref 5000), some (.ref 0), some (.ref 112), some (.int a3)]) (st' := [.int (a3 + 1), .ref 5000, .ref 0]) (m' := m) [(.aload_n 1, 0, 0, 0, 0), (.aload_n 0, 0, 0, 0, 0), (.iload_n 3, 0, 0, 0, 0), (.iconst 1, 0, 0, 1, 0), (.iadd, 0, 0, 0, 0)] (by decide +kernel) rfl ?_
        refine Ev.sald (by decide +kernel) ?_
        refine Ev.run (pc' := 438) (ls' := [some (.ref 5000), some (.ref 0), some (.ref 112), some (.int a3)]) (st' := [.int (a3 + 2), .ref 5000, .int (xs (a3 + 1).toNatClampNeg), .ref 0]) (m' := m) [(.aload_n 0, 0, 0, 0, 0), (.iload_n 3, 0, 0, 0, 0), (.iconst 2, 0, 0, 2, 0), (.iadd, 0, 0, 0, 0)] (by decide +kernel) rfl ?_
        refine Ev.sald (by decide +kernel) ?_
        refine Ev.cV (av := [.int (xs (a3 + 1).toNatClampNeg), .int (xs (a3 + 2).toNatClampNeg)]) (st := []) (a := 0) (EX11_tone (l := l) (Ln := Ln) (xs := xs) (d := 6) f (xs (a3 + 1).toNatClampNeg) (xs (a3 + 2).toNatClampNeg) m (by decide)) rfl (by decide +kernel) mwX11_tone iwX11_tone vwX11_tone lk_13_50 (by omega) (by decide) rfl (by decide) rfl rfl (Nat.le_of_ble_eq_true rfl) (fun r41 m42 => ?_)
        refine Ev.run (pc' := 447) (ls' := [some (.ref 5000), some (.ref 0), some (.ref 112), some (.int a3)]) (st' := [.int (a3 + 1), .ref 5000, .ref 112, .int r41]) (m' := m42) [(.aload_n 2, 0, 0, 0, 0), (.aload_n 0, 0, 0, 0, 0), (.iload_n 3, 0, 0, 0, 0), (.iconst 1, 0, 0, 1, 0), (.iadd, 0, 0, 0, 0)] (by decide +kernel) rfl ?_
        refine Ev.sald (by decide +kernel) ?_
        refine Ev.run (pc' := 452) (ls' := [some (.ref 5000), some (.ref 0), some (.ref 112), some (.int a3)]) (st' := [.int (a3 + 2), .ref 5000, .int (xs (a3 + 1).toNatClampNeg), .ref 112, .int r41]) (m' := m42) [(.aload_n 0, 0, 0, 0, 0), (.iload_n 3, 0, 0, 0, 0), (.iconst 2, 0, 0, 2, 0), (.iadd, 0, 0, 0, 0)] (by decide +kernel) rfl ?_
        refine Ev.sald (by decide +kernel) ?_
        refine Ev.cV (av := [.int (xs (a3 + 1).toNatClampNeg), .int (xs (a3 + 2).toNatClampNeg)]) (st := [.int r41]) (a := 112) (EX12_tone (l := l) (Ln := Ln) (xs := xs) (d := 7) f (xs (a3 + 1).toNatClampNeg) (xs (a3 + 2).toNatClampNeg) m42 (by decide)) rfl (by decide +kernel) mwX12_tone iwX12_tone vwX12_tone lk_13_53 (by omega) (by decide) rfl (by decide) rfl rfl (Nat.le_of_ble_eq_true rfl) (fun r43 m44 => ?_)
        refine Ev.ic_eq (t := 1057) (by decide +kernel) ?_ ?_
        · exact EL_law_J1057 f (FL_law_L18 f Ln xs k n) a3 m44 ih (by omega)
        · refine Ev.run (pc' := 460) (ls' := [some (.ref 5000), some (.ref 0), some (.ref 112), some (.int a3)]) (st' := [.int 0]) (m' := m44) [(.iconst 0, 0, 0, 0, 0)] (by decide +kernel) rfl ?_
          exact Ev.iretz rfl rfl (by decide +kernel) (by decide)
      refine Ev.sw1 9 (t := 461) (by decide +kernel) (by decide) ?_ (fun z50 => ?_)
      · refine Ev.run (pc' := 466) (ls' := [some (.ref 5000), some (.ref 0), some (.ref 112), some (.int a3)]) (st' := [.int (a3 + 1), .ref 5000, .ref 0]) (m' := m) [(.aload_n 1, 0, 0, 0, 0), (.aload_n 0, 0, 0, 0, 0), (.iload_n 3, 0, 0, 0, 0), (.iconst 1, 0, 0, 1, 0), (.iadd, 0, 0, 0, 0)] (by decide +kernel) rfl ?_
        refine Ev.sald (by decide +kernel) ?_
        refine Ev.run (pc' := 471) (ls' := [some (.ref 5000), some (.ref 0), some (.ref 112), some (.int a3)]) (st' := [.int (a3 + 2), .ref 5000, .int (xs (a3 + 1).toNatClampNeg), .ref 0]) (m' := m) [(.aload_n 0, 0, 0, 0, 0), (.iload_n 3, 0, 0, 0, 0), (.iconst 2, 0, 0, 2, 0), (.iadd, 0, 0, 0, 0)] (by decide +kernel) rfl ?_
        refine Ev.sald (by decide +kernel) ?_
        refine Ev.cV (av := [.int (xs (a3 + 1).toNatClampNeg), .int (xs (a3 + 2).toNatClampNeg)]) (st := []) (a := 0) (EX11_mood (l := l) (Ln := Ln) (xs := xs) (d := 6) f (xs (a3 + 1).toNatClampNeg) (xs (a3 + 2).toNatClampNeg) m (by decide)) rfl (by decide +kernel) mwX11_mood iwX11_mood vwX11_mood lk_13_54 (by omega) (by decide) rfl (by decide) rfl rfl (Nat.le_of_ble_eq_true rfl) (fun r46 m47 => ?_)
        refine Ev.run (pc' := 480) (ls' := [some (.ref 5000), some (.ref 0), some (.ref 112), some (.int a3)]) (st' := [.int (a3 + 1), .ref 5000, .ref 112, .int r46]) (m' := m47) [(.aload_n 2, 0, 0, 0, 0), (.aload_n 0, 0, 0, 0, 0), (.iload_n 3, 0, 0, 0, 0), (.iconst 1, 0, 0, 1, 0), (.iadd, 0, 0, 0, 0)] (by decide +kernel) rfl ?_
        refine Ev.sald (by decide +kernel) ?_
        refine Ev.run (pc' := 485) (ls' := [some (.ref 5000), some (.ref 0), some (.ref 112), some (.int a3)]) (st' := [.int (a3 + 2), .ref 5000, .int (xs (a3 + 1).toNatClampNeg), .ref 112, .int r46]) (m' := m47) [(.aload_n 0, 0, 0, 0, 0), (.iload_n 3, 0, 0, 0, 0), (.iconst 2, 0, 0, 2, 0), (.iadd, 0, 0, 0, 0)] (by decide +kernel) rfl ?_
        refine Ev.sald (by decide +kernel) ?_
        refine Ev.cV (av := [.int (xs (a3 + 1).toNatClampNeg), .int (xs (a3 + 2).toNatClampNeg)]) (st := [.int r46]) (a := 112) (EX12_mood (l := l) (Ln := Ln) (xs := xs) (d := 6) f (xs (a3 + 1).toNatClampNeg) (xs (a3 + 2).toNatClampNeg) m47 (by decide)) rfl (by decide +kernel) mwX12_mood iwX12_mood vwX12_mood lk_13_57 (by omega) (by decide) rfl (by decide) rfl rfl (Nat.le_of_ble_eq_true rfl) (fun r48 m49 => ?_)
        refine Ev.ic_eq (t := 1057) (by decide +kernel) ?_ ?_
        · exact EL_law_J1057 f (FL_law_L18 f Ln xs k n) a3 m49 ih (by omega)
        · refine Ev.run (pc' := 493) (ls' := [some (.ref 5000), some (.ref 0), some (.ref 112), some (.int a3)]) (st' := [.int 0]) (m' := m49) [(.iconst 0, 0, 0, 0, 0)] (by decide +kernel) rfl ?_
          exact Ev.iretz rfl rfl (by decide +kernel) (by decide)
      refine Ev.sw1 10 (t := 494) (by decide +kernel) (by decide) ?_ (fun z55 => ?_)
      · refine Ev.run (pc' := 499) (ls' := [some (.ref 5000), some (.ref 0), some (.ref 112), some (.int a3)]) (st' := [.int (a3 + 1), .ref 5000, .ref 0]) (m' := m) [(.aload_n 1, 0, 0, 0, 0), (.aload_n 0, 0, 0, 0, 0), (.iload_n 3, 0, 0, 0, 0), (.iconst 1, 0, 0, 1, 0), (.iadd, 0, 0, 0, 0)] (by decide +kernel) rfl ?_
        refine Ev.sald (by decide +kernel) ?_
        refine Ev.cV (av := [.int (xs (a3 + 1).toNatClampNeg)]) (st := []) (a := 0) (EX11_doubts (l := l) (Ln := Ln) (xs := xs) (d := 6) f (xs (a3 + 1).toNatClampNeg) m (by decide)) rfl (by decide +kernel) mwX11_doubts iwX11_doubts vwX11_doubts lk_13_58 (by omega) (by decide) rfl (by decide) rfl rfl (Nat.le_of_ble_eq_true rfl) (fun r51 m52 => ?_)
        refine Ev.run (pc' := 508) (ls' := [some (.ref 5000), some (.ref 0), some (.ref 112), some (.int a3)]) (st' := [.int (a3 + 1), .ref 5000, .ref 112, .int r51]) (m' := m52) [(.aload_n 2, 0, 0, 0, 0), (.aload_n 0, 0, 0, 0, 0), (.iload_n 3, 0, 0, 0, 0), (.iconst 1, 0, 0, 1, 0), (.iadd, 0, 0, 0, 0)] (by decide +kernel) rfl ?_
        refine Ev.sald (by decide +kernel) ?_
        refine Ev.cV (av := [.int (xs (a3 + 1).toNatClampNeg)]) (st := [.int r51]) (a := 112) (EX12_doubts (l := l) (Ln := Ln) (xs := xs) (d := 7) f (xs (a3 + 1).toNatClampNeg) m52 (by decide)) rfl (by decide +kernel) mwX12_doubts iwX12_doubts vwX12_doubts lk_13_61 (by omega) (by decide) rfl (by decide) rfl rfl (Nat.le_of_ble_eq_true rfl) (fun r53 m54 => ?_)
        refine Ev.ic_eq (t := 1057) (by decide +kernel) ?_ ?_
        · exact EL_law_J1057 f (FL_law_L18 f Ln xs k n) a3 m54 ih (by omega)
        · refine Ev.run (pc' := 516) (ls' := [some (.ref 5000), some (.ref 0), some (.ref 112), some (.int a3)]) (st' := [.int 0]) (m' := m54) [(.iconst 0, 0, 0, 0, 0)] (by decide +kernel) rfl ?_
          exact Ev.iretz rfl rfl (by decide +kernel) (by decide)
      refine Ev.sw1 11 (t := 517) (by decide +kernel) (by decide) ?_ (fun z60 => ?_)
      · refine Ev.run (pc' := 518) (ls' := [some (.ref 5000), some (.ref 0), some (.ref 112), some (.int a3)]) (st' := [.ref 0]) (m' := m) [(.aload_n 1, 0, 0, 0, 0)] (by decide +kernel) rfl ?_
        refine Ev.cV (av := []) (st := []) (a := 0) (EX11_fire (l := l) (Ln := Ln) (xs := xs) (d := 5) f m (by decide)) rfl (by decide +kernel) mwX11_fire iwX11_fire vwX11_fire lk_13_62 (by omega) (by decide) rfl (by decide) rfl rfl (Nat.le_of_ble_eq_true rfl) (fun r56 m57 => ?_)
        refine Ev.run (pc' := 522) (ls' := [some (.ref 5000), some (.ref 0), some (.ref 112), some (.int a3)]) (st' := [.ref 112, .int r56]) (m' := m57) [(.aload_n 2, 0, 0, 0, 0)] (by decide +kernel) rfl ?_
        refine Ev.cV (av := []) (st := [.int r56]) (a := 112) (EX12_fire (l := l) (Ln := Ln) (xs := xs) (d := 5) f m57 (by decide)) rfl (by decide +kernel) mwX12_fire iwX12_fire vwX12_fire lk_13_65 (by omega) (by decide) rfl (by decide) rfl rfl (Nat.le_of_ble_eq_true rfl) (fun r58 m59 => ?_)
        refine Ev.ic_eq (t := 1057) (by decide +kernel) ?_ ?_
        · exact EL_law_J1057 f (FL_law_L18 f Ln xs k n) a3 m59 ih (by omega)
        · refine Ev.run (pc' := 529) (ls' := [some (.ref 5000), some (.ref 0), some (.ref 112), some (.int a3)]) (st' := [.int 0]) (m' := m59) [(.iconst 0, 0, 0, 0, 0)] (by decide +kernel) rfl ?_
          exact Ev.iretz rfl rfl (by decide +kernel) (by decide)
      refine Ev.sw1 12 (t := 530) (by decide +kernel) (by decide) ?_ (fun z65 => ?_)
      · refine Ev.run (pc' := 535) (ls' := [some (.ref 5000), some (.ref 0), some (.ref 112), some (.int a3)]) (st' := [.int (a3 + 1), .ref 5000, .ref 0]) (m' := m) [(.aload_n 1, 0, 0, 0, 0), (.aload_n 0, 0, 0, 0, 0), (.iload_n 3, 0, 0, 0, 0), (.iconst 1, 0, 0, 1, 0), (.iadd, 0, 0, 0, 0)] (by decide +kernel) rfl ?_
        refine Ev.sald (by decide +kernel) ?_
        refine Ev.cV (av := [.int (xs (a3 + 1).toNatClampNeg)]) (st := []) (a := 0) (EX11_settles (l := l) (Ln := Ln) (xs := xs) (d := 5) f (xs (a3 + 1).toNatClampNeg) m (by decide)) rfl (by decide +kernel) mwX11_settles iwX11_settles vwX11_settles lk_13_66 (by omega) (by decide) rfl (by decide) rfl rfl (Nat.le_of_ble_eq_true rfl) (fun r61 m62 => ?_)
        refine Ev.run (pc' := 544) (ls' := [some (.ref 5000), some (.ref 0), some (.ref 112), some (.int a3)]) (st' := [.int (a3 + 1), .ref 5000, .ref 112, .int r61]) (m' := m62) [(.aload_n 2, 0, 0, 0, 0), (.aload_n 0, 0, 0, 0, 0), (.iload_n 3, 0, 0, 0, 0), (.iconst 1, 0, 0, 1, 0), (.iadd, 0, 0, 0, 0)] (by decide +kernel) rfl ?_
        refine Ev.sald (by decide +kernel) ?_
        refine Ev.cV (av := [.int (xs (a3 + 1).toNatClampNeg)]) (st := [.int r61]) (a := 112) (EX12_settles (l := l) (Ln := Ln) (xs := xs) (d := 5) f (xs (a3 + 1).toNatClampNeg) m62 (by decide)) rfl (by decide +kernel) mwX12_settles iwX12_settles vwX12_settles lk_13_69 (by omega) (by decide) rfl (by decide) rfl rfl (Nat.le_of_ble_eq_true rfl) (fun r63 m64 => ?_)
        refine Ev.ic_eq (t := 1057) (by decide +kernel) ?_ ?_
        · exact EL_law_J1057 f (FL_law_L18 f Ln xs k n) a3 m64 ih (by omega)
        · refine Ev.run (pc' := 552) (ls' := [some (.ref 5000), some (.ref 0), some (.ref 112), some (.int a3)]) (st' := [.int 0]) (m' := m64) [(.iconst 0, 0, 0, 0, 0)] (by decide +kernel) rfl ?_
          exact Ev.iretz rfl rfl (by decide +kernel) (by decide)
      refine Ev.sw1 13 (t := 553) (by decide +kernel) (by decide) ?_ (fun z70 => ?_)
      · refine Ev.run (pc' := 558) (ls' := [some (.ref 5000), some (.ref 0), some (.ref 112), some (.int a3)]) (st' := [.int (a3 + 1), .ref 5000, .ref 0]) (m' := m) [(.aload_n 1, 0, 0, 0, 0), (.aload_n 0, 0, 0, 0, 0), (.iload_n 3, 0, 0, 0, 0), (.iconst 1, 0, 0, 1, 0), (.iadd, 0, 0, 0, 0)] (by decide +kernel) rfl ?_
        refine Ev.sald (by decide +kernel) ?_
        refine Ev.cV (av := [.int (xs (a3 + 1).toNatClampNeg)]) (st := []) (a := 0) (EX11_cheered (l := l) (Ln := Ln) (xs := xs) (d := 7) f (xs (a3 + 1).toNatClampNeg) m (by decide)) rfl (by decide +kernel) mwX11_cheered iwX11_cheered vwX11_cheered lk_13_70 (by omega) (by decide) rfl (by decide) rfl rfl (Nat.le_of_ble_eq_true rfl) (fun r66 m67 => ?_)
        refine Ev.run (pc' := 567) (ls' := [some (.ref 5000), some (.ref 0), some (.ref 112), some (.int a3)]) (st' := [.int (a3 + 1), .ref 5000, .ref 112, .int r66]) (m' := m67) [(.aload_n 2, 0, 0, 0, 0), (.aload_n 0, 0, 0, 0, 0), (.iload_n 3, 0, 0, 0, 0), (.iconst 1, 0, 0, 1, 0), (.iadd, 0, 0, 0, 0)] (by decide +kernel) rfl ?_
        refine Ev.sald (by decide +kernel) ?_
        refine Ev.cV (av := [.int (xs (a3 + 1).toNatClampNeg)]) (st := [.int r66]) (a := 112) (EX12_cheered (l := l) (Ln := Ln) (xs := xs) (d := 8) f (xs (a3 + 1).toNatClampNeg) m67 (by decide)) rfl (by decide +kernel) mwX12_cheered iwX12_cheered vwX12_cheered lk_13_73 (by omega) (by decide) rfl (by decide) rfl rfl (Nat.le_of_ble_eq_true rfl) (fun r68 m69 => ?_)
        refine Ev.ic_eq (t := 1057) (by decide +kernel) ?_ ?_
        · exact EL_law_J1057 f (FL_law_L18 f Ln xs k n) a3 m69 ih (by omega)
        · refine Ev.run (pc' := 575) (ls' := [some (.ref 5000), some (.ref 0), some (.ref 112), some (.int a3)]) (st' := [.int 0]) (m' := m69) [(.iconst 0, 0, 0, 0, 0)] (by decide +kernel) rfl ?_
          exact Ev.iretz rfl rfl (by decide +kernel) (by decide)
      refine Ev.sw1 14 (t := 576) (by decide +kernel) (by decide) ?_ (fun z75 => ?_)
      · refine Ev.run (pc' := 581) (ls' := [some (.ref 5000), some (.ref 0), some (.ref 112), some (.int a3)]) (st' := [.int (a3 + 1), .ref 5000, .ref 0]) (m' := m) [(.aload_n 1, 0, 0, 0, 0), (.aload_n 0, 0, 0, 0, 0), (.iload_n 3, 0, 0, 0, 0), (.iconst 1, 0, 0, 1, 0), (.iadd, 0, 0, 0, 0)] (by decide +kernel) rfl ?_
        refine Ev.sald (by decide +kernel) ?_
        refine Ev.cV (av := [.int (xs (a3 + 1).toNatClampNeg)]) (st := []) (a := 0) (EX11_sighs (l := l) (Ln := Ln) (xs := xs) (d := 7) f (xs (a3 + 1).toNatClampNeg) m (by decide)) rfl (by decide +kernel) mwX11_sighs iwX11_sighs vwX11_sighs lk_13_74 (by omega) (by decide) rfl (by decide) rfl rfl (Nat.le_of_ble_eq_true rfl) (fun r71 m72 => ?_)
        refine Ev.run (pc' := 590) (ls' := [some (.ref 5000), some (.ref 0), some (.ref 112), some (.int a3)]) (st' := [.int (a3 + 1), .ref 5000, .ref 112, .int r71]) (m' := m72) [(.aload_n 2, 0, 0, 0, 0), (.aload_n 0, 0, 0, 0, 0), (.iload_n 3, 0, 0, 0, 0), (.iconst 1, 0, 0, 1, 0), (.iadd, 0, 0, 0, 0)] (by decide +kernel) rfl ?_
        refine Ev.sald (by decide +kernel) ?_
        refine Ev.cV (av := [.int (xs (a3 + 1).toNatClampNeg)]) (st := [.int r71]) (a := 112) (EX12_sighs (l := l) (Ln := Ln) (xs := xs) (d := 8) f (xs (a3 + 1).toNatClampNeg) m72 (by decide)) rfl (by decide +kernel) mwX12_sighs iwX12_sighs vwX12_sighs lk_13_77 (by omega) (by decide) rfl (by decide) rfl rfl (Nat.le_of_ble_eq_true rfl) (fun r73 m74 => ?_)
        refine Ev.ic_eq (t := 1057) (by decide +kernel) ?_ ?_
        · exact EL_law_J1057 f (FL_law_L18 f Ln xs k n) a3 m74 ih (by omega)
        · refine Ev.run (pc' := 598) (ls' := [some (.ref 5000), some (.ref 0), some (.ref 112), some (.int a3)]) (st' := [.int 0]) (m' := m74) [(.iconst 0, 0, 0, 0, 0)] (by decide +kernel) rfl ?_
          exact Ev.iretz rfl rfl (by decide +kernel) (by decide)
      refine Ev.sw1 15 (t := 599) (by decide +kernel) (by decide) ?_ (fun z80 => ?_)
      · refine Ev.run (pc' := 604) (ls' := [some (.ref 5000), some (.ref 0), some (.ref 112), some (.int a3)]) (st' := [.int (a3 + 1), .ref 5000, .ref 0]) (m' := m) [(.aload_n 1, 0, 0, 0, 0), (.aload_n 0, 0, 0, 0, 0), (.iload_n 3, 0, 0, 0, 0), (.iconst 1, 0, 0, 1, 0), (.iadd, 0, 0, 0, 0)] (by decide +kernel) rfl ?_
        refine Ev.sald (by decide +kernel) ?_
        refine Ev.run (pc' := 609) (ls' := [some (.ref 5000), some (.ref 0), some (.ref 112), some (.int a3)]) (st' := [.int (a3 + 2), .ref 5000, .int (xs (a3 + 1).toNatClampNeg), .ref 0]) (m' := m) [(.aload_n 0, 0, 0, 0, 0), (.iload_n 3, 0, 0, 0, 0), (.iconst 2, 0, 0, 2, 0), (.iadd, 0, 0, 0, 0)] (by decide +kernel) rfl ?_
        refine Ev.sald (by decide +kernel) ?_
        refine Ev.cV (av := [.int (xs (a3 + 1).toNatClampNeg), .int (xs (a3 + 2).toNatClampNeg)]) (st := []) (a := 0) (EX11_better (l := l) (Ln := Ln) (xs := xs) (d := 7) f (xs (a3 + 1).toNatClampNeg) (xs (a3 + 2).toNatClampNeg) m (by decide)) rfl (by decide +kernel) mwX11_better iwX11_better vwX11_better lk_13_78 (by omega) (by decide) rfl (by decide) rfl rfl (Nat.le_of_ble_eq_true rfl) (fun r76 m77 => ?_)
        refine Ev.run (pc' := 618) (ls' := [some (.ref 5000), some (.ref 0), some (.ref 112), some (.int a3)]) (st' := [.int (a3 + 1), .ref 5000, .ref 112, .int r76]) (m' := m77) [(.aload_n 2, 0, 0, 0, 0), (.aload_n 0, 0, 0, 0, 0), (.iload_n 3, 0, 0, 0, 0), (.iconst 1, 0, 0, 1, 0), (.iadd, 0, 0, 0, 0)] (by decide +kernel) rfl ?_
        refine Ev.sald (by decide +kernel) ?_
        refine Ev.run (pc' := 623) (ls' := [some (.ref 5000), some (.ref 0), some (.ref 112), some (.int a3)]) (st' := [.int (a3 + 2), .ref 5000, .int (xs (a3 + 1).toNatClampNeg), .ref 112, .int r76]) (m' := m77) [(.aload_n 0, 0, 0, 0, 0), (.iload_n 3, 0, 0, 0, 0), (.iconst 2, 0, 0, 2, 0), (.iadd, 0, 0, 0, 0)] (by decide +kernel) rfl ?_
        refine Ev.sald (by decide +kernel) ?_
        refine Ev.cV (av := [.int (xs (a3 + 1).toNatClampNeg), .int (xs (a3 + 2).toNatClampNeg)]) (st := [.int r76]) (a := 112) (EX12_better (l := l) (Ln := Ln) (xs := xs) (d := 7) f (xs (a3 + 1).toNatClampNeg) (xs (a3 + 2).toNatClampNeg) m77 (by decide)) rfl (by decide +kernel) mwX12_better iwX12_better vwX12_better lk_13_81 (by omega) (by decide) rfl (by decide) rfl rfl (Nat.le_of_ble_eq_true rfl) (fun r78 m79 => ?_)
        refine Ev.ic_eq (t := 1057) (by decide +kernel) ?_ ?_
        · exact EL_law_J1057 f (FL_law_L18 f Ln xs k n) a3 m79 ih (by omega)
        · refine Ev.run (pc' := 631) (ls' := [some (.ref 5000), some (.ref 0), some (.ref 112), some (.int a3)]) (st' := [.int 0]) (m' := m79) [(.iconst 0, 0, 0, 0, 0)] (by decide +kernel) rfl ?_
          exact Ev.iretz rfl rfl (by decide +kernel) (by decide)
      refine Ev.sw1 16 (t := 632) (by decide +kernel) (by decide) ?_ (fun z85 => ?_)
      · refine Ev.run (pc' := 637) (ls' := [some (.ref 5000), some (.ref 0), some (.ref 112), some (.int a3)]) (st' := [.int (a3 + 1), .ref 5000, .ref 0]) (m' := m) [(.aload_n 1, 0, 0, 0, 0), (.aload_n 0, 0, 0, 0, 0), (.iload_n 3, 0, 0, 0, 0), (.iconst 1, 0, 0, 1, 0), (.iadd, 0, 0, 0, 0)] (by decide +kernel) rfl ?_
        refine Ev.sald (by decide +kernel) ?_
        refine Ev.run (pc' := 642) (ls' := [some (.ref 5000), some (.ref 0), some (.ref 112), some (.int a3)]) (st' := [.int (a3 + 2), .ref 5000, .int (xs (a3 + 1).toNatClampNeg), .ref 0]) (m' := m) [(.aload_n 0, 0, 0, 0, 0), (.iload_n 3, 0, 0, 0, 0), (.iconst 2, 0, 0, 2, 0), (.iadd, 0, 0, 0, 0)] (by decide +kernel) rfl ?_
        refine Ev.sald (by decide +kernel) ?_
        refine Ev.cV (av := [.int (xs (a3 + 1).toNatClampNeg), .int (xs (a3 + 2).toNatClampNeg)]) (st := []) (a := 0) (EX11_placed (l := l) (Ln := Ln) (xs := xs) (d := 7) f (xs (a3 + 1).toNatClampNeg) (xs (a3 + 2).toNatClampNeg) m (by decide)) rfl (by decide +kernel) mwX11_placed iwX11_placed vwX11_placed lk_13_82 (by omega) (by decide) rfl (by decide) rfl rfl (Nat.le_of_ble_eq_true rfl) (fun r81 m82 => ?_)
        refine Ev.run (pc' := 651) (ls' := [some (.ref 5000), some (.ref 0), some (.ref 112), some (.int a3)]) (st' := [.int (a3 + 1), .ref 5000, .ref 112, .int r81]) (m' := m82) [(.aload_n 2, 0, 0, 0, 0), (.aload_n 0, 0, 0, 0, 0), (.iload_n 3, 0, 0, 0, 0), (.iconst 1, 0, 0, 1, 0), (.iadd, 0, 0, 0, 0)] (by decide +kernel) rfl ?_
        refine Ev.sald (by decide +kernel) ?_
        refine Ev.run (pc' := 656) (ls' := [some (.ref 5000), some (.ref 0), some (.ref 112), some (.int a3)]) (st' := [.int (a3 + 2), .ref 5000, .int (xs (a3 + 1).toNatClampNeg), .ref 112, .int r81]) (m' := m82) [(.aload_n 0, 0, 0, 0, 0), (.iload_n 3, 0, 0, 0, 0), (.iconst 2, 0, 0, 2, 0), (.iadd, 0, 0, 0, 0)] (by decide +kernel) rfl ?_
        refine Ev.sald (by decide +kernel) ?_
        refine Ev.cV (av := [.int (xs (a3 + 1).toNatClampNeg), .int (xs (a3 + 2).toNatClampNeg)]) (st := [.int r81]) (a := 112) (EX12_placed (l := l) (Ln := Ln) (xs := xs) (d := 7) f (xs (a3 + 1).toNatClampNeg) (xs (a3 + 2).toNatClampNeg) m82 (by decide)) rfl (by decide +kernel) mwX12_placed iwX12_placed vwX12_placed lk_13_85 (by omega) (by decide) rfl (by decide) rfl rfl (Nat.le_of_ble_eq_true rfl) (fun r83 m84 => ?_)
        refine Ev.ic_eq (t := 1057) (by decide +kernel) ?_ ?_
        · exact EL_law_J1057 f (FL_law_L18 f Ln xs k n) a3 m84 ih (by omega)
        · refine Ev.run (pc' := 664) (ls' := [some (.ref 5000), some (.ref 0), some (.ref 112), some (.int a3)]) (st' := [.int 0]) (m' := m84) [(.iconst 0, 0, 0, 0, 0)] (by decide +kernel) rfl ?_
          exact Ev.iretz rfl rfl (by decide +kernel) (by decide)
      refine Ev.sw1 17 (t := 665) (by decide +kernel) (by decide) ?_ (fun z90 => ?_)
      · refine Ev.run (pc' := 670) (ls' := [some (.ref 5000), some (.ref 0), some (.ref 112), some (.int a3)]) (st' := [.int (a3 + 1), .ref 5000, .ref 0]) (m' := m) [(.aload_n 1, 0, 0, 0, 0), (.aload_n 0, 0, 0, 0, 0), (.iload_n 3, 0, 0, 0, 0), (.iconst 1, 0, 0, 1, 0), (.iadd, 0, 0, 0, 0)] (by decide +kernel) rfl ?_
        refine Ev.sald (by decide +kernel) ?_
        refine Ev.cV (av := [.int (xs (a3 + 1).toNatClampNeg)]) (st := []) (a := 0) (EX11_game (l := l) (Ln := Ln) (xs := xs) (d := 7) f (xs (a3 + 1).toNatClampNeg) m (by decide)) rfl (by decide +kernel) mwX11_game iwX11_game vwX11_game lk_13_86 (by omega) (by decide) rfl (by decide) rfl rfl (Nat.le_of_ble_eq_true rfl) (fun r86 m87 => ?_)
        refine Ev.run (pc' := 679) (ls' := [some (.ref 5000), some (.ref 0), some (.ref 112), some (.int a3)]) (st' := [.int (a3 + 1), .ref 5000, .ref 112, .int r86]) (m' := m87) [(.aload_n 2, 0, 0, 0, 0), (.aload_n 0, 0, 0, 0, 0), (.iload_n 3, 0, 0, 0, 0), (.iconst 1, 0, 0, 1, 0), (.iadd, 0, 0, 0, 0)] (by decide +kernel) rfl ?_
        refine Ev.sald (by decide +kernel) ?_
        refine Ev.cV (av := [.int (xs (a3 + 1).toNatClampNeg)]) (st := [.int r86]) (a := 112) (EX12_game (l := l) (Ln := Ln) (xs := xs) (d := 8) f (xs (a3 + 1).toNatClampNeg) m87 (by decide)) rfl (by decide +kernel) mwX12_game iwX12_game vwX12_game lk_13_89 (by omega) (by decide) rfl (by decide) rfl rfl (Nat.le_of_ble_eq_true rfl) (fun r88 m89 => ?_)
        refine Ev.ic_eq (t := 1057) (by decide +kernel) ?_ ?_
        · exact EL_law_J1057 f (FL_law_L18 f Ln xs k n) a3 m89 ih (by omega)
        · refine Ev.run (pc' := 687) (ls' := [some (.ref 5000), some (.ref 0), some (.ref 112), some (.int a3)]) (st' := [.int 0]) (m' := m89) [(.iconst 0, 0, 0, 0, 0)] (by decide +kernel) rfl ?_
          exact Ev.iretz rfl rfl (by decide +kernel) (by decide)
      refine Ev.sw1 18 (t := 688) (by decide +kernel) (by decide) ?_ (fun z95 => ?_)
      · refine Ev.run (pc' := 693) (ls' := [some (.ref 5000), some (.ref 0), some (.ref 112), some (.int a3)]) (st' := [.int (a3 + 1), .ref 5000, .ref 0]) (m' := m) [(.aload_n 1, 0, 0, 0, 0), (.aload_n 0, 0, 0, 0, 0), (.iload_n 3, 0, 0, 0, 0), (.iconst 1, 0, 0, 1, 0), (.iadd, 0, 0, 0, 0)] (by decide +kernel) rfl ?_
        refine Ev.sald (by decide +kernel) ?_
        refine Ev.run (pc' := 698) (ls' := [some (.ref 5000), some (.ref 0), some (.ref 112), some (.int a3)]) (st' := [.int (a3 + 2), .ref 5000, .int (xs (a3 + 1).toNatClampNeg), .ref 0]) (m' := m) [(.aload_n 0, 0, 0, 0, 0), (.iload_n 3, 0, 0, 0, 0), (.iconst 2, 0, 0, 2, 0), (.iadd, 0, 0, 0, 0)] (by decide +kernel) rfl ?_
        refine Ev.sald (by decide +kernel) ?_
        refine Ev.cV (av := [.int (xs (a3 + 1).toNatClampNeg), .int (xs (a3 + 2).toNatClampNeg)]) (st := []) (a := 0) (EX11_rule (l := l) (Ln := Ln) (xs := xs) (d := 5) f (xs (a3 + 1).toNatClampNeg) (xs (a3 + 2).toNatClampNeg) m (by decide)) rfl (by decide +kernel) mwX11_rule iwX11_rule vwX11_rule lk_13_90 (by omega) (by decide) rfl (by decide) rfl rfl (Nat.le_of_ble_eq_true rfl) (fun r91 m92 => ?_)
        refine Ev.run (pc' := 707) (ls' := [some (.ref 5000), some (.ref 0), some (.ref 112), some (.int a3)]) (st' := [.int (a3 + 1), .ref 5000, .ref 112, .int r91]) (m' := m92) [(.aload_n 2, 0, 0, 0, 0), (.aload_n 0, 0, 0, 0, 0), (.iload_n 3, 0, 0, 0, 0), (.iconst 1, 0, 0, 1, 0), (.iadd, 0, 0, 0, 0)] (by decide +kernel) rfl ?_
        refine Ev.sald (by decide +kernel) ?_
        refine Ev.run (pc' := 712) (ls' := [some (.ref 5000), some (.ref 0), some (.ref 112), some (.int a3)]) (st' := [.int (a3 + 2), .ref 5000, .int (xs (a3 + 1).toNatClampNeg), .ref 112, .int r91]) (m' := m92) [(.aload_n 0, 0, 0, 0, 0), (.iload_n 3, 0, 0, 0, 0), (.iconst 2, 0, 0, 2, 0), (.iadd, 0, 0, 0, 0)] (by decide +kernel) rfl ?_
        refine Ev.sald (by decide +kernel) ?_
        refine Ev.cV (av := [.int (xs (a3 + 1).toNatClampNeg), .int (xs (a3 + 2).toNatClampNeg)]) (st := [.int r91]) (a := 112) (EX12_rule (l := l) (Ln := Ln) (xs := xs) (d := 5) f (xs (a3 + 1).toNatClampNeg) (xs (a3 + 2).toNatClampNeg) m92 (by decide)) rfl (by decide +kernel) mwX12_rule iwX12_rule vwX12_rule lk_13_93 (by omega) (by decide) rfl (by decide) rfl rfl (Nat.le_of_ble_eq_true rfl) (fun r93 m94 => ?_)
        refine Ev.ic_eq (t := 1057) (by decide +kernel) ?_ ?_
        · exact EL_law_J1057 f (FL_law_L18 f Ln xs k n) a3 m94 ih (by omega)
        · refine Ev.run (pc' := 720) (ls' := [some (.ref 5000), some (.ref 0), some (.ref 112), some (.int a3)]) (st' := [.int 0]) (m' := m94) [(.iconst 0, 0, 0, 0, 0)] (by decide +kernel) rfl ?_
          exact Ev.iretz rfl rfl (by decide +kernel) (by decide)
      refine Ev.sw1 19 (t := 721) (by decide +kernel) (by decide) ?_ (fun z100 => ?_)
      · refine Ev.run (pc' := 722) (ls' := [some (.ref 5000), some (.ref 0), some (.ref 112), some (.int a3)]) (st' := [.ref 0]) (m' := m) [(.aload_n 1, 0, 0, 0, 0)] (by decide +kernel) rfl ?_
        refine Ev.cV (av := []) (st := []) (a := 0) (EX11_see (l := l) (Ln := Ln) (xs := xs) (d := 1) f m (by decide)) rfl (by decide +kernel) mwX11_see iwX11_see vwX11_see lk_13_94 (by omega) (by decide) rfl (by decide) rfl rfl (Nat.le_of_ble_eq_true rfl) (fun r96 m97 => ?_)
        refine Ev.run (pc' := 726) (ls' := [some (.ref 5000), some (.ref 0), some (.ref 112), some (.int a3)]) (st' := [.ref 112, .int r96]) (m' := m97) [(.aload_n 2, 0, 0, 0, 0)] (by decide +kernel) rfl ?_
        refine Ev.cV (av := []) (st := [.int r96]) (a := 112) (EX12_see (l := l) (Ln := Ln) (xs := xs) (d := 2) f m97 (by decide)) rfl (by decide +kernel) mwX12_see iwX12_see vwX12_see lk_13_97 (by omega) (by decide) rfl (by decide) rfl rfl (Nat.le_of_ble_eq_true rfl) (fun r98 m99 => ?_)
        refine Ev.ic_eq (t := 1057) (by decide +kernel) ?_ ?_
        · exact EL_law_J1057 f (FL_law_L18 f Ln xs k n) a3 m99 ih (by omega)
        · refine Ev.run (pc' := 733) (ls' := [some (.ref 5000), some (.ref 0), some (.ref 112), some (.int a3)]) (st' := [.int 0]) (m' := m99) [(.iconst 0, 0, 0, 0, 0)] (by decide +kernel) rfl ?_
          exact Ev.iretz rfl rfl (by decide +kernel) (by decide)
      refine Ev.sw1 20 (t := 734) (by decide +kernel) (by decide) ?_ (fun z105 => ?_)
      · refine Ev.run (pc' := 739) (ls' := [some (.ref 5000), some (.ref 0), some (.ref 112), some (.int a3)]) (st' := [.int (a3 + 1), .ref 5000, .ref 0]) (m' := m) [(.aload_n 1, 0, 0, 0, 0), (.aload_n 0, 0, 0, 0, 0), (.iload_n 3, 0, 0, 0, 0), (.iconst 1, 0, 0, 1, 0), (.iadd, 0, 0, 0, 0)] (by decide +kernel) rfl ?_
        refine Ev.sald (by decide +kernel) ?_
        refine Ev.cV (av := [.int (xs (a3 + 1).toNatClampNeg)]) (st := []) (a := 0) (EX11_moods (l := l) (Ln := Ln) (xs := xs) (d := 7) f (xs (a3 + 1).toNatClampNeg) m (by decide)) rfl (by decide +kernel) mwX11_moods iwX11_moods vwX11_moods lk_13_98 (by omega) (by decide) rfl (by decide) rfl rfl (Nat.le_of_ble_eq_true rfl) (fun r101 m102 => ?_)
        refine Ev.run (pc' := 748) (ls' := [some (.ref 5000), some (.ref 0), some (.ref 112), some (.int a3)]) (st' := [.int (a3 + 1), .ref 5000, .ref 112, .int r101]) (m' := m102) [(.aload_n 2, 0, 0, 0, 0), (.aload_n 0, 0, 0, 0, 0), (.iload_n 3, 0, 0, 0, 0), (.iconst 1, 0, 0, 1, 0), (.iadd, 0, 0, 0, 0)] (by decide +kernel) rfl ?_
        refine Ev.sald (by decide +kernel) ?_
        refine Ev.cV (av := [.int (xs (a3 + 1).toNatClampNeg)]) (st := [.int r101]) (a := 112) (EX12_moods (l := l) (Ln := Ln) (xs := xs) (d := 6) f (xs (a3 + 1).toNatClampNeg) m102 (by decide)) rfl (by decide +kernel) mwX12_moods iwX12_moods vwX12_moods lk_13_101 (by omega) (by decide) rfl (by decide) rfl rfl (Nat.le_of_ble_eq_true rfl) (fun r103 m104 => ?_)
        refine Ev.ic_eq (t := 1057) (by decide +kernel) ?_ ?_
        · exact EL_law_J1057 f (FL_law_L18 f Ln xs k n) a3 m104 ih (by omega)
        · refine Ev.run (pc' := 756) (ls' := [some (.ref 5000), some (.ref 0), some (.ref 112), some (.int a3)]) (st' := [.int 0]) (m' := m104) [(.iconst 0, 0, 0, 0, 0)] (by decide +kernel) rfl ?_
          exact Ev.iretz rfl rfl (by decide +kernel) (by decide)
      refine Ev.sw1 21 (t := 757) (by decide +kernel) (by decide) ?_ (fun z110 => ?_)
      · refine Ev.run (pc' := 762) (ls' := [some (.ref 5000), some (.ref 0), some (.ref 112), some (.int a3)]) (st' := [.int (a3 + 1), .ref 5000, .ref 0]) (m' := m) [(.aload_n 1, 0, 0, 0, 0), (.aload_n 0, 0, 0, 0, 0), (.iload_n 3, 0, 0, 0, 0), (.iconst 1, 0, 0, 1, 0), (.iadd, 0, 0, 0, 0)] (by decide +kernel) rfl ?_
        refine Ev.sald (by decide +kernel) ?_
        refine Ev.run (pc' := 767) (ls' := [some (.ref 5000), some (.ref 0), some (.ref 112), some (.int a3)]) (st' := [.int (a3 + 2), .ref 5000, .int (xs (a3 + 1).toNatClampNeg), .ref 0]) (m' := m) [(.aload_n 0, 0, 0, 0, 0), (.iload_n 3, 0, 0, 0, 0), (.iconst 2, 0, 0, 2, 0), (.iadd, 0, 0, 0, 0)] (by decide +kernel) rfl ?_
        refine Ev.sald (by decide +kernel) ?_
        refine Ev.cV (av := [.int (xs (a3 + 1).toNatClampNeg), .int (xs (a3 + 2).toNatClampNeg)]) (st := []) (a := 0) (EX11_tells (l := l) (Ln := Ln) (xs := xs) (d := 7) f (xs (a3 + 1).toNatClampNeg) (xs (a3 + 2).toNatClampNeg) m (by decide)) rfl (by decide +kernel) mwX11_tells iwX11_tells vwX11_tells lk_13_102 (by omega) (by decide) rfl (by decide) rfl rfl (Nat.le_of_ble_eq_true rfl) (fun r106 m107 => ?_)
        refine Ev.run (pc' := 776) (ls' := [some (.ref 5000), some (.ref 0), some (.ref 112), some (.int a3)]) (st' := [.int (a3 + 1), .ref 5000, .ref 112, .int r106]) (m' := m107) [(.aload_n 2, 0, 0, 0, 0), (.aload_n 0, 0, 0, 0, 0), (.iload_n 3, 0, 0, 0, 0), (.iconst 1, 0, 0, 1, 0), (.iadd, 0, 0, 0, 0)] (by decide +kernel) rfl ?_
        refine Ev.sald (by decide +kernel) ?_
        refine Ev.run (pc' := 781) (ls' := [some (.ref 5000), some (.ref 0), some (.ref 112), some (.int a3)]) (st' := [.int (a3 + 2), .ref 5000, .int (xs (a3 + 1).toNatClampNeg), .ref 112, .int r106]) (m' := m107) [(.aload_n 0, 0, 0, 0, 0), (.iload_n 3, 0, 0, 0, 0), (.iconst 2, 0, 0, 2, 0), (.iadd, 0, 0, 0, 0)] (by decide +kernel) rfl ?_
        refine Ev.sald (by decide +kernel) ?_
        refine Ev.cV (av := [.int (xs (a3 + 1).toNatClampNeg), .int (xs (a3 + 2).toNatClampNeg)]) (st := [.int r106]) (a := 112) (EX12_tells (l := l) (Ln := Ln) (xs := xs) (d := 6) f (xs (a3 + 1).toNatClampNeg) (xs (a3 + 2).toNatClampNeg) m107 (by decide)) rfl (by decide +kernel) mwX12_tells iwX12_tells vwX12_tells lk_13_105 (by omega) (by decide) rfl (by decide) rfl rfl (Nat.le_of_ble_eq_true rfl) (fun r108 m109 => ?_)
        refine Ev.ic_eq (t := 1057) (by decide +kernel) ?_ ?_
        · exact EL_law_J1057 f (FL_law_L18 f Ln xs k n) a3 m109 ih (by omega)
        · refine Ev.run (pc' := 789) (ls' := [some (.ref 5000), some (.ref 0), some (.ref 112), some (.int a3)]) (st' := [.int 0]) (m' := m109) [(.iconst 0, 0, 0, 0, 0)] (by decide +kernel) rfl ?_
          exact Ev.iretz rfl rfl (by decide +kernel) (by decide)
      refine Ev.sw1 22 (t := 790) (by decide +kernel) (by decide) ?_ (fun z115 => ?_)
      · refine Ev.run (pc' := 795) (ls' := [some (.ref 5000), some (.ref 0), some (.ref 112), some (.int a3)]) (st' := [.int (a3 + 1), .ref 5000, .ref 0]) (m' := m) [(.aload_n 1, 0, 0, 0, 0), (.aload_n 0, 0, 0, 0, 0), (.iload_n 3, 0, 0, 0, 0), (.iconst 1, 0, 0, 1, 0), (.iadd, 0, 0, 0, 0)] (by decide +kernel) rfl ?_
        refine Ev.sald (by decide +kernel) ?_
        refine Ev.run (pc' := 800) (ls' := [some (.ref 5000), some (.ref 0), some (.ref 112), some (.int a3)]) (st' := [.int (a3 + 2), .ref 5000, .int (xs (a3 + 1).toNatClampNeg), .ref 0]) (m' := m) [(.aload_n 0, 0, 0, 0, 0), (.iload_n 3, 0, 0, 0, 0), (.iconst 2, 0, 0, 2, 0), (.iadd, 0, 0, 0, 0)] (by decide +kernel) rfl ?_
        refine Ev.sald (by decide +kernel) ?_
        refine Ev.cV (av := [.int (xs (a3 + 1).toNatClampNeg), .int (xs (a3 + 2).toNatClampNeg)]) (st := []) (a := 0) (EX11_cheer (l := l) (Ln := Ln) (xs := xs) (d := 2) f (xs (a3 + 1).toNatClampNeg) (xs (a3 + 2).toNatClampNeg) m (by decide)) rfl (by decide +kernel) mwX11_cheer iwX11_cheer vwX11_cheer lk_13_106 (by omega) (by decide) rfl (by decide) rfl rfl (Nat.le_of_ble_eq_true rfl) (fun r111 m112 => ?_)
        refine Ev.run (pc' := 809) (ls' := [some (.ref 5000), some (.ref 0), some (.ref 112), some (.int a3)]) (st' := [.int (a3 + 1), .ref 5000, .ref 112, .int r111]) (m' := m112) [(.aload_n 2, 0, 0, 0, 0), (.aload_n 0, 0, 0, 0, 0), (.iload_n 3, 0, 0, 0, 0), (.iconst 1, 0, 0, 1, 0), (.iadd, 0, 0, 0, 0)] (by decide +kernel) rfl ?_
        refine Ev.sald (by decide +kernel) ?_
        refine Ev.run (pc' := 814) (ls' := [some (.ref 5000), some (.ref 0), some (.ref 112), some (.int a3)]) (st' := [.int (a3 + 2), .ref 5000, .int (xs (a3 + 1).toNatClampNeg), .ref 112, .int r111]) (m' := m112) [(.aload_n 0, 0, 0, 0, 0), (.iload_n 3, 0, 0, 0, 0), (.iconst 2, 0, 0, 2, 0), (.iadd, 0, 0, 0, 0)] (by decide +kernel) rfl ?_
        refine Ev.sald (by decide +kernel) ?_
        refine Ev.cV (av := [.int (xs (a3 + 1).toNatClampNeg), .int (xs (a3 + 2).toNatClampNeg)]) (st := [.int r111]) (a := 112) (EX12_cheer (l := l) (Ln := Ln) (xs := xs) (d := 2) f (xs (a3 + 1).toNatClampNeg) (xs (a3 + 2).toNatClampNeg) m112 (by decide)) rfl (by decide +kernel) mwX12_cheer iwX12_cheer vwX12_cheer lk_13_110 (by omega) (by decide) rfl (by decide) rfl rfl (Nat.le_of_ble_eq_true rfl) (fun r113 m114 => ?_)
        refine Ev.ic_eq (t := 1057) (by decide +kernel) ?_ ?_
        · exact EL_law_J1057 f (FL_law_L18 f Ln xs k n) a3 m114 ih (by omega)
        · refine Ev.run (pc' := 822) (ls' := [some (.ref 5000), some (.ref 0), some (.ref 112), some (.int a3)]) (st' := [.int 0]) (m' := m114) [(.iconst 0, 0, 0, 0, 0)] (by decide +kernel) rfl ?_
          exact Ev.iretz rfl rfl (by decide +kernel) (by decide)
      refine Ev.sw1 23 (t := 823) (by decide +kernel) (by decide) ?_ (fun z120 => ?_)
      · refine Ev.run (pc' := 828) (ls' := [some (.ref 5000), some (.ref 0), some (.ref 112), some (.int a3)]) (st' := [.int (a3 + 1), .ref 5000, .ref 0]) (m' := m) [(.aload_n 1, 0, 0, 0, 0), (.aload_n 0, 0, 0, 0, 0), (.iload_n 3, 0, 0, 0, 0), (.iconst 1, 0, 0, 1, 0), (.iadd, 0, 0, 0, 0)] (by decide +kernel) rfl ?_
        refine Ev.sald (by decide +kernel) ?_
        refine Ev.run (pc' := 833) (ls' := [some (.ref 5000), some (.ref 0), some (.ref 112), some (.int a3)]) (st' := [.int (a3 + 2), .ref 5000, .int (xs (a3 + 1).toNatClampNeg), .ref 0]) (m' := m) [(.aload_n 0, 0, 0, 0, 0), (.iload_n 3, 0, 0, 0, 0), (.iconst 2, 0, 0, 2, 0), (.iadd, 0, 0, 0, 0)] (by decide +kernel) rfl ?_
        refine Ev.sald (by decide +kernel) ?_
        refine Ev.cV (av := [.int (xs (a3 + 1).toNatClampNeg), .int (xs (a3 + 2).toNatClampNeg)]) (st := []) (a := 0) (EX11_yes (l := l) (Ln := Ln) (xs := xs) (d := 2) f (xs (a3 + 1).toNatClampNeg) (xs (a3 + 2).toNatClampNeg) m (by decide)) rfl (by decide +kernel) mwX11_yes iwX11_yes vwX11_yes lk_13_111 (by omega) (by decide) rfl (by decide) rfl rfl (Nat.le_of_ble_eq_true rfl) (fun r116 m117 => ?_)
        refine Ev.run (pc' := 842) (ls' := [some (.ref 5000), some (.ref 0), some (.ref 112), some (.int a3)]) (st' := [.int (a3 + 1), .ref 5000, .ref 112, .int r116]) (m' := m117) [(.aload_n 2, 0, 0, 0, 0), (.aload_n 0, 0, 0, 0, 0), (.iload_n 3, 0, 0, 0, 0), (.iconst 1, 0, 0, 1, 0), (.iadd, 0, 0, 0, 0)] (by decide +kernel) rfl ?_
        refine Ev.sald (by decide +kernel) ?_
        refine Ev.run (pc' := 847) (ls' := [some (.ref 5000), some (.ref 0), some (.ref 112), some (.int a3)]) (st' := [.int (a3 + 2), .ref 5000, .int (xs (a3 + 1).toNatClampNeg), .ref 112, .int r116]) (m' := m117) [(.aload_n 0, 0, 0, 0, 0), (.iload_n 3, 0, 0, 0, 0), (.iconst 2, 0, 0, 2, 0), (.iadd, 0, 0, 0, 0)] (by decide +kernel) rfl ?_
        refine Ev.sald (by decide +kernel) ?_
        refine Ev.cV (av := [.int (xs (a3 + 1).toNatClampNeg), .int (xs (a3 + 2).toNatClampNeg)]) (st := [.int r116]) (a := 112) (EX12_yes (l := l) (Ln := Ln) (xs := xs) (d := 2) f (xs (a3 + 1).toNatClampNeg) (xs (a3 + 2).toNatClampNeg) m117 (by decide)) rfl (by decide +kernel) mwX12_yes iwX12_yes vwX12_yes lk_13_114 (by omega) (by decide) rfl (by decide) rfl rfl (Nat.le_of_ble_eq_true rfl) (fun r118 m119 => ?_)
        refine Ev.ic_eq (t := 1057) (by decide +kernel) ?_ ?_
        · exact EL_law_J1057 f (FL_law_L18 f Ln xs k n) a3 m119 ih (by omega)
        · refine Ev.run (pc' := 855) (ls' := [some (.ref 5000), some (.ref 0), some (.ref 112), some (.int a3)]) (st' := [.int 0]) (m' := m119) [(.iconst 0, 0, 0, 0, 0)] (by decide +kernel) rfl ?_
          exact Ev.iretz rfl rfl (by decide +kernel) (by decide)
      refine Ev.sw1 24 (t := 856) (by decide +kernel) (by decide) ?_ (fun z125 => ?_)
      · refine Ev.run (pc' := 861) (ls' := [some (.ref 5000), some (.ref 0), some (.ref 112), some (.int a3)]) (st' := [.int (a3 + 1), .ref 5000, .ref 0]) (m' := m) [(.aload_n 1, 0, 0, 0, 0), (.aload_n 0, 0, 0, 0, 0), (.iload_n 3, 0, 0, 0, 0), (.iconst 1, 0, 0, 1, 0), (.iadd, 0, 0, 0, 0)] (by decide +kernel) rfl ?_
        refine Ev.sald (by decide +kernel) ?_
        refine Ev.run (pc' := 866) (ls' := [some (.ref 5000), some (.ref 0), some (.ref 112), some (.int a3)]) (st' := [.int (a3 + 2), .ref 5000, .int (xs (a3 + 1).toNatClampNeg), .ref 0]) (m' := m) [(.aload_n 0, 0, 0, 0, 0), (.iload_n 3, 0, 0, 0, 0), (.iconst 2, 0, 0, 2, 0), (.iadd, 0, 0, 0, 0)] (by decide +kernel) rfl ?_
        refine Ev.sald (by decide +kernel) ?_
        refine Ev.cV (av := [.int (xs (a3 + 1).toNatClampNeg), .int (xs (a3 + 2).toNatClampNeg)]) (st := []) (a := 0) (EX11_change (l := l) (Ln := Ln) (xs := xs) (d := 2) f (xs (a3 + 1).toNatClampNeg) (xs (a3 + 2).toNatClampNeg) m (by decide)) rfl (by decide +kernel) mwX11_change iwX11_change vwX11_change lk_13_115 (by omega) (by decide) rfl (by decide) rfl rfl (Nat.le_of_ble_eq_true rfl) (fun r121 m122 => ?_)
        refine Ev.run (pc' := 875) (ls' := [some (.ref 5000), some (.ref 0), some (.ref 112), some (.int a3)]) (st' := [.int (a3 + 1), .ref 5000, .ref 112, .int r121]) (m' := m122) [(.aload_n 2, 0, 0, 0, 0), (.aload_n 0, 0, 0, 0, 0), (.iload_n 3, 0, 0, 0, 0), (.iconst 1, 0, 0, 1, 0), (.iadd, 0, 0, 0, 0)] (by decide +kernel) rfl ?_
        refine Ev.sald (by decide +kernel) ?_
        refine Ev.run (pc' := 880) (ls' := [some (.ref 5000), some (.ref 0), some (.ref 112), some (.int a3)]) (st' := [.int (a3 + 2), .ref 5000, .int (xs (a3 + 1).toNatClampNeg), .ref 112, .int r121]) (m' := m122) [(.aload_n 0, 0, 0, 0, 0), (.iload_n 3, 0, 0, 0, 0), (.iconst 2, 0, 0, 2, 0), (.iadd, 0, 0, 0, 0)] (by decide +kernel) rfl ?_
        refine Ev.sald (by decide +kernel) ?_
        refine Ev.cV (av := [.int (xs (a3 + 1).toNatClampNeg), .int (xs (a3 + 2).toNatClampNeg)]) (st := [.int r121]) (a := 112) (EX12_change (l := l) (Ln := Ln) (xs := xs) (d := 2) f (xs (a3 + 1).toNatClampNeg) (xs (a3 + 2).toNatClampNeg) m122 (by decide)) rfl (by decide +kernel) mwX12_change iwX12_change vwX12_change lk_13_118 (by omega) (by decide) rfl (by decide) rfl rfl (Nat.le_of_ble_eq_true rfl) (fun r123 m124 => ?_)
        refine Ev.ic_eq (t := 1057) (by decide +kernel) ?_ ?_
        · exact EL_law_J1057 f (FL_law_L18 f Ln xs k n) a3 m124 ih (by omega)
        · refine Ev.run (pc' := 888) (ls' := [some (.ref 5000), some (.ref 0), some (.ref 112), some (.int a3)]) (st' := [.int 0]) (m' := m124) [(.iconst 0, 0, 0, 0, 0)] (by decide +kernel) rfl ?_
          exact Ev.iretz rfl rfl (by decide +kernel) (by decide)
      refine Ev.sw1 25 (t := 889) (by decide +kernel) (by decide) ?_ (fun z130 => ?_)
      · refine Ev.run (pc' := 894) (ls' := [some (.ref 5000), some (.ref 0), some (.ref 112), some (.int a3)]) (st' := [.int (a3 + 1), .ref 5000, .ref 0]) (m' := m) [(.aload_n 1, 0, 0, 0, 0), (.aload_n 0, 0, 0, 0, 0), (.iload_n 3, 0, 0, 0, 0), (.iconst 1, 0, 0, 1, 0), (.iadd, 0, 0, 0, 0)] (by decide +kernel) rfl ?_
        refine Ev.sald (by decide +kernel) ?_
        refine Ev.cV (av := [.int (xs (a3 + 1).toNatClampNeg)]) (st := []) (a := 0) (EX11_rounds (l := l) (Ln := Ln) (xs := xs) (d := 6) f (xs (a3 + 1).toNatClampNeg) m (by decide)) rfl (by decide +kernel) mwX11_rounds iwX11_rounds vwX11_rounds lk_13_119 (by omega) (by decide) rfl (by decide) rfl rfl (Nat.le_of_ble_eq_true rfl) (fun r126 m127 => ?_)
        refine Ev.run (pc' := 903) (ls' := [some (.ref 5000), some (.ref 0), some (.ref 112), some (.int a3)]) (st' := [.int (a3 + 1), .ref 5000, .ref 112, .int r126]) (m' := m127) [(.aload_n 2, 0, 0, 0, 0), (.aload_n 0, 0, 0, 0, 0), (.iload_n 3, 0, 0, 0, 0), (.iconst 1, 0, 0, 1, 0), (.iadd, 0, 0, 0, 0)] (by decide +kernel) rfl ?_
        refine Ev.sald (by decide +kernel) ?_
        refine Ev.cV (av := [.int (xs (a3 + 1).toNatClampNeg)]) (st := [.int r126]) (a := 112) (EX12_rounds (l := l) (Ln := Ln) (xs := xs) (d := 6) f (xs (a3 + 1).toNatClampNeg) m127 (by decide)) rfl (by decide +kernel) mwX12_rounds iwX12_rounds vwX12_rounds lk_13_122 (by omega) (by decide) rfl (by decide) rfl rfl (Nat.le_of_ble_eq_true rfl) (fun r128 m129 => ?_)
        refine Ev.ic_eq (t := 1057) (by decide +kernel) ?_ ?_
        · exact EL_law_J1057 f (FL_law_L18 f Ln xs k n) a3 m129 ih (by omega)
        · refine Ev.run (pc' := 911) (ls' := [some (.ref 5000), some (.ref 0), some (.ref 112), some (.int a3)]) (st' := [.int 0]) (m' := m129) [(.iconst 0, 0, 0, 0, 0)] (by decide +kernel) rfl ?_
          exact Ev.iretz rfl rfl (by decide +kernel) (by decide)
      refine Ev.sw1 26 (t := 912) (by decide +kernel) (by decide) ?_ (fun z135 => ?_)
      · refine Ev.run (pc' := 917) (ls' := [some (.ref 5000), some (.ref 0), some (.ref 112), some (.int a3)]) (st' := [.int (a3 + 1), .ref 5000, .ref 0]) (m' := m) [(.aload_n 1, 0, 0, 0, 0), (.aload_n 0, 0, 0, 0, 0), (.iload_n 3, 0, 0, 0, 0), (.iconst 1, 0, 0, 1, 0), (.iadd, 0, 0, 0, 0)] (by decide +kernel) rfl ?_
        refine Ev.sald (by decide +kernel) ?_
        refine Ev.cV (av := [.int (xs (a3 + 1).toNatClampNeg)]) (st := []) (a := 0) (EX11_chance (l := l) (Ln := Ln) (xs := xs) (d := 6) f (xs (a3 + 1).toNatClampNeg) m (by decide)) rfl (by decide +kernel) mwX11_chance iwX11_chance vwX11_chance lk_13_123 (by omega) (by decide) rfl (by decide) rfl rfl (Nat.le_of_ble_eq_true rfl) (fun r131 m132 => ?_)
        refine Ev.run (pc' := 926) (ls' := [some (.ref 5000), some (.ref 0), some (.ref 112), some (.int a3)]) (st' := [.int (a3 + 1), .ref 5000, .ref 112, .int r131]) (m' := m132) [(.aload_n 2, 0, 0, 0, 0), (.aload_n 0, 0, 0, 0, 0), (.iload_n 3, 0, 0, 0, 0), (.iconst 1, 0, 0, 1, 0), (.iadd, 0, 0, 0, 0)] (by decide +kernel) rfl ?_
        refine Ev.sald (by decide +kernel) ?_
        refine Ev.cV (av := [.int (xs (a3 + 1).toNatClampNeg)]) (st := [.int r131]) (a := 112) (EX12_chance (l := l) (Ln := Ln) (xs := xs) (d := 5) f (xs (a3 + 1).toNatClampNeg) m132 (by decide)) rfl (by decide +kernel) mwX12_chance iwX12_chance vwX12_chance lk_13_126 (by omega) (by decide) rfl (by decide) rfl rfl (Nat.le_of_ble_eq_true rfl) (fun r133 m134 => ?_)
        refine Ev.ic_eq (t := 1057) (by decide +kernel) ?_ ?_
        · exact EL_law_J1057 f (FL_law_L18 f Ln xs k n) a3 m134 ih (by omega)
        · refine Ev.run (pc' := 934) (ls' := [some (.ref 5000), some (.ref 0), some (.ref 112), some (.int a3)]) (st' := [.int 0]) (m' := m134) [(.iconst 0, 0, 0, 0, 0)] (by decide +kernel) rfl ?_
          exact Ev.iretz rfl rfl (by decide +kernel) (by decide)
      refine Ev.sw1 27 (t := 935) (by decide +kernel) (by decide) ?_ (fun z140 => ?_)
      · refine Ev.run (pc' := 936) (ls' := [some (.ref 5000), some (.ref 0), some (.ref 112), some (.int a3)]) (st' := [.ref 0]) (m' := m) [(.aload_n 1, 0, 0, 0, 0)] (by decide +kernel) rfl ?_
        refine Ev.cV (av := []) (st := []) (a := 0) (EX11_undo (l := l) (Ln := Ln) (xs := xs) (d := 2) f m (by decide)) rfl (by decide +kernel) mwX11_undo iwX11_undo vwX11_undo lk_13_127 (by omega) (by decide) rfl (by decide) rfl rfl (Nat.le_of_ble_eq_true rfl) (fun r136 m137 => ?_)
        refine Ev.run (pc' := 940) (ls' := [some (.ref 5000), some (.ref 0), some (.ref 112), some (.int a3)]) (st' := [.ref 112, .int r136]) (m' := m137) [(.aload_n 2, 0, 0, 0, 0)] (by decide +kernel) rfl ?_
        refine Ev.cV (av := []) (st := [.int r136]) (a := 112) (EX12_undo (l := l) (Ln := Ln) (xs := xs) (d := 0) f m137 (by decide)) rfl (by decide +kernel) mwX12_undo iwX12_undo vwX12_undo lk_13_131 (by omega) (by decide) rfl (by decide) rfl rfl (Nat.le_of_ble_eq_true rfl) (fun r138 m139 => ?_)
        refine Ev.ic_eq (t := 1057) (by decide +kernel) ?_ ?_
        · exact EL_law_J1057 f (FL_law_L18 f Ln xs k n) a3 m139 ih (by omega)
        · refine Ev.run (pc' := 947) (ls' := [some (.ref 5000), some (.ref 0), some (.ref 112), some (.int a3)]) (st' := [.int 0]) (m' := m139) [(.iconst 0, 0, 0, 0, 0)] (by decide +kernel) rfl ?_
          exact Ev.iretz rfl rfl (by decide +kernel) (by decide)
      refine Ev.sw1 28 (t := 948) (by decide +kernel) (by decide) ?_ (fun z145 => ?_)
      · refine Ev.run (pc' := 953) (ls' := [some (.ref 5000), some (.ref 0), some (.ref 112), some (.int a3)]) (st' := [.int (a3 + 1), .ref 5000, .ref 0]) (m' := m) [(.aload_n 1, 0, 0, 0, 0), (.aload_n 0, 0, 0, 0, 0), (.iload_n 3, 0, 0, 0, 0), (.iconst 1, 0, 0, 1, 0), (.iadd, 0, 0, 0, 0)] (by decide +kernel) rfl ?_
        refine Ev.sald (by decide +kernel) ?_
        refine Ev.cV (av := [.int (xs (a3 + 1).toNatClampNeg)]) (st := []) (a := 0) (EX11_seed (l := l) (Ln := Ln) (xs := xs) (d := 1) f (xs (a3 + 1).toNatClampNeg) m (by decide)) rfl (by decide +kernel) mwX11_seed iwX11_seed vwX11_seed lk_13_132 (by omega) (by decide) rfl (by decide) rfl rfl (Nat.le_of_ble_eq_true rfl) (fun r141 m142 => ?_)
        refine Ev.run (pc' := 962) (ls' := [some (.ref 5000), some (.ref 0), some (.ref 112), some (.int a3)]) (st' := [.int (a3 + 1), .ref 5000, .ref 112, .int r141]) (m' := m142) [(.aload_n 2, 0, 0, 0, 0), (.aload_n 0, 0, 0, 0, 0), (.iload_n 3, 0, 0, 0, 0), (.iconst 1, 0, 0, 1, 0), (.iadd, 0, 0, 0, 0)] (by decide +kernel) rfl ?_
        refine Ev.sald (by decide +kernel) ?_
        refine Ev.cV (av := [.int (xs (a3 + 1).toNatClampNeg)]) (st := [.int r141]) (a := 112) (EX12_seed (l := l) (Ln := Ln) (xs := xs) (d := 0) f (xs (a3 + 1).toNatClampNeg) m142 (by decide)) rfl (by decide +kernel) mwX12_seed iwX12_seed vwX12_seed lk_13_135 (by omega) (by decide) rfl (by decide) rfl rfl (Nat.le_of_ble_eq_true rfl) (fun r143 m144 => ?_)
        refine Ev.ic_eq (t := 1057) (by decide +kernel) ?_ ?_
        · exact EL_law_J1057 f (FL_law_L18 f Ln xs k n) a3 m144 ih (by omega)
        · refine Ev.run (pc' := 970) (ls' := [some (.ref 5000), some (.ref 0), some (.ref 112), some (.int a3)]) (st' := [.int 0]) (m' := m144) [(.iconst 0, 0, 0, 0, 0)] (by decide +kernel) rfl ?_
          exact Ev.iretz rfl rfl (by decide +kernel) (by decide)
      refine Ev.sw1 29 (t := 971) (by decide +kernel) (by decide) ?_ (fun z150 => ?_)
      · refine Ev.run (pc' := 972) (ls' := [some (.ref 5000), some (.ref 0), some (.ref 112), some (.int a3)]) (st' := [.ref 0]) (m' := m) [(.aload_n 1, 0, 0, 0, 0)] (by decide +kernel) rfl ?_
        refine Ev.cV (av := []) (st := []) (a := 0) (EX11_ask (l := l) (Ln := Ln) (xs := xs) (d := 139) f m (by decide)) rfl (by decide +kernel) mwX11_ask iwX11_ask vwX11_ask lk_13_136 (by omega) (by decide) rfl (by decide) rfl rfl (Nat.le_of_ble_eq_true rfl) (fun r146 m147 => ?_)
        refine Ev.run (pc' := 976) (ls' := [some (.ref 5000), some (.ref 0), some (.ref 112), some (.int a3)]) (st' := [.ref 112, .long r146]) (m' := m147) [(.aload_n 2, 0, 0, 0, 0)] (by decide +kernel) rfl ?_
        refine Ev.cV (av := []) (st := [.long r146]) (a := 112) (EX12_ask (l := l) (Ln := Ln) (xs := xs) (d := 9) f m147 (by decide)) rfl (by decide +kernel) mwX12_ask iwX12_ask vwX12_ask lk_13_140 (by omega) (by decide) rfl (by decide) rfl rfl (Nat.le_of_ble_eq_true rfl) (fun r148 m149 => ?_)
        refine Ev.run (pc' := 980) (ls' := [some (.ref 5000), some (.ref 0), some (.ref 112), some (.int a3)]) (st' := [.int (lg_cmp r146 r148)]) (m' := m149) [(.lcmp, 0, 0, 0, 0)] (by decide +kernel) rfl ?_
        refine Ev.if_eq (t := 1057) (by decide +kernel) ?_ ?_
        · exact EL_law_J1057 f (FL_law_L18 f Ln xs k n) a3 m149 ih (by omega)
        · refine Ev.run (pc' := 984) (ls' := [some (.ref 5000), some (.ref 0), some (.ref 112), some (.int a3)]) (st' := [.int 0]) (m' := m149) [(.iconst 0, 0, 0, 0, 0)] (by decide +kernel) rfl ?_
          exact Ev.iretz rfl rfl (by decide +kernel) (by decide)
      refine Ev.sw1 30 (t := 985) (by decide +kernel) (by decide) ?_ (fun z155 => ?_)
      · refine Ev.run (pc' := 986) (ls' := [some (.ref 5000), some (.ref 0), some (.ref 112), some (.int a3)]) (st' := [.ref 0]) (m' := m) [(.aload_n 1, 0, 0, 0, 0)] (by decide +kernel) rfl ?_
        refine Ev.cV (av := []) (st := []) (a := 0) (EX11_image (l := l) (Ln := Ln) (xs := xs) (d := 1) f m (by decide)) rfl (by decide +kernel) mwX11_image iwX11_image vwX11_image lk_13_141 (by omega) (by decide) rfl (by decide) rfl rfl (Nat.le_of_ble_eq_true rfl) (fun r151 m152 => ?_)
        refine Ev.run (pc' := 990) (ls' := [some (.ref 5000), some (.ref 0), some (.ref 112), some (.int a3)]) (st' := [.ref 112, .int r151]) (m' := m152) [(.aload_n 2, 0, 0, 0, 0)] (by decide +kernel) rfl ?_
        refine Ev.cV (av := []) (st := [.int r151]) (a := 112) (EX12_image (l := l) (Ln := Ln) (xs := xs) (d := 1) f m152 (by decide)) rfl (by decide +kernel) mwX12_image iwX12_image vwX12_image lk_13_144 (by omega) (by decide) rfl (by decide) rfl rfl (Nat.le_of_ble_eq_true rfl) (fun r153 m154 => ?_)
        refine Ev.ic_eq (t := 1057) (by decide +kernel) ?_ ?_
        · exact EL_law_J1057 f (FL_law_L18 f Ln xs k n) a3 m154 ih (by omega)
        · refine Ev.run (pc' := 997) (ls' := [some (.ref 5000), some (.ref 0), some (.ref 112), some (.int a3)]) (st' := [.int 0]) (m' := m154) [(.iconst 0, 0, 0, 0, 0)] (by decide +kernel) rfl ?_
          exact Ev.iretz rfl rfl (by decide +kernel) (by decide)
      refine Ev.sw1 31 (t := 998) (by decide +kernel) (by decide) ?_ (fun z160 => ?_)
      · refine Ev.run (pc' := 1003) (ls' := [some (.ref 5000), some (.ref 0), some (.ref 112), some (.int a3)]) (st' := [.int (a3 + 1), .ref 5000, .ref 0]) (m' := m) [(.aload_n 1, 0, 0, 0, 0), (.aload_n 0, 0, 0, 0, 0), (.iload_n 3, 0, 0, 0, 0), (.iconst 1, 0, 0, 1, 0), (.iadd, 0, 0, 0, 0)] (by decide +kernel) rfl ?_
        refine Ev.sald (by decide +kernel) ?_
        refine Ev.cV (av := [.int (xs (a3 + 1).toNatClampNeg)]) (st := []) (a := 0) (EX11_octet (l := l) (Ln := Ln) (xs := xs) (d := 0) f (xs (a3 + 1).toNatClampNeg) m (by decide)) rfl (by decide +kernel) mwX11_octet iwX11_octet vwX11_octet lk_13_145 (by omega) (by decide) rfl (by decide) rfl rfl (Nat.le_of_ble_eq_true rfl) (fun r156 m157 => ?_)
        refine Ev.run (pc' := 1012) (ls' := [some (.ref 5000), some (.ref 0), some (.ref 112), some (.int a3)]) (st' := [.int (a3 + 1), .ref 5000, .ref 112, .int r156]) (m' := m157) [(.aload_n 2, 0, 0, 0, 0), (.aload_n 0, 0, 0, 0, 0), (.iload_n 3, 0, 0, 0, 0), (.iconst 1, 0, 0, 1, 0), (.iadd, 0, 0, 0, 0)] (by decide +kernel) rfl ?_
        refine Ev.sald (by decide +kernel) ?_
        refine Ev.cV (av := [.int (xs (a3 + 1).toNatClampNeg)]) (st := [.int r156]) (a := 112) (EX12_octet (l := l) (Ln := Ln) (xs := xs) (d := 0) f (xs (a3 + 1).toNatClampNeg) m157 (by decide)) rfl (by decide +kernel) mwX12_octet iwX12_octet vwX12_octet lk_13_148 (by omega) (by decide) rfl (by decide) rfl rfl (Nat.le_of_ble_eq_true rfl) (fun r158 m159 => ?_)
        refine Ev.ic_eq (t := 1057) (by decide +kernel) ?_ ?_
        · exact EL_law_J1057 f (FL_law_L18 f Ln xs k n) a3 m159 ih (by omega)
        · refine Ev.run (pc' := 1020) (ls' := [some (.ref 5000), some (.ref 0), some (.ref 112), some (.int a3)]) (st' := [.int 0]) (m' := m159) [(.iconst 0, 0, 0, 0, 0)] (by decide +kernel) rfl ?_
          exact Ev.iretz rfl rfl (by decide +kernel) (by decide)
      refine Ev.sw1 32 (t := 1021) (by decide +kernel) (by decide) ?_ (fun z165 => ?_)
      · refine Ev.run (pc' := 1022) (ls' := [some (.ref 5000), some (.ref 0), some (.ref 112), some (.int a3)]) (st' := [.ref 0]) (m' := m) [(.aload_n 1, 0, 0, 0, 0)] (by decide +kernel) rfl ?_
        refine Ev.cV (av := []) (st := []) (a := 0) (EX11_on (l := l) (Ln := Ln) (xs := xs) (d := 2) f m (by decide)) rfl (by decide +kernel) mwX11_on iwX11_on vwX11_on lk_13_149 (by omega) (by decide) rfl (by decide) rfl rfl (Nat.le_of_ble_eq_true rfl) (fun r161 m162 => ?_)
        refine Ev.run (pc' := 1026) (ls' := [some (.ref 5000), some (.ref 0), some (.ref 112), some (.int a3)]) (st' := [.ref 112, .int r161]) (m' := m162) [(.aload_n 2, 0, 0, 0, 0)] (by decide +kernel) rfl ?_
        refine Ev.cV (av := []) (st := [.int r161]) (a := 112) (EX12_on (l := l) (Ln := Ln) (xs := xs) (d := 2) f m162 (by decide)) rfl (by decide +kernel) mwX12_on iwX12_on vwX12_on lk_13_152 (by omega) (by decide) rfl (by decide) rfl rfl (Nat.le_of_ble_eq_true rfl) (fun r163 m164 => ?_)
        refine Ev.ic_eq (t := 1057) (by decide +kernel) ?_ ?_
        · exact EL_law_J1057 f (FL_law_L18 f Ln xs k n) a3 m164 ih (by omega)
        · refine Ev.run (pc' := 1033) (ls' := [some (.ref 5000), some (.ref 0), some (.ref 112), some (.int a3)]) (st' := [.int 0]) (m' := m164) [(.iconst 0, 0, 0, 0, 0)] (by decide +kernel) rfl ?_
          exact Ev.iretz rfl rfl (by decide +kernel) (by decide)
      refine Ev.sw1 33 (t := 1034) (by decide +kernel) (by decide) ?_ (fun z170 => ?_)
      · refine Ev.run (pc' := 1039) (ls' := [some (.ref 5000), some (.ref 0), some (.ref 112), some (.int a3)]) (st' := [.int (a3 + 1), .ref 5000, .ref 0]) (m' := m) [(.aload_n 1, 0, 0, 0, 0), (.aload_n 0, 0, 0, 0, 0), (.iload_n 3, 0, 0, 0, 0), (.iconst 1, 0, 0, 1, 0), (.iadd, 0, 0, 0, 0)] (by decide +kernel) rfl ?_
        refine Ev.sald (by decide +kernel) ?_
        refine Ev.cV (av := [.int (xs (a3 + 1).toNatClampNeg)]) (st := []) (a := 0) (EX11_status (l := l) (Ln := Ln) (xs := xs) (d := 0) f (xs (a3 + 1).toNatClampNeg) m (by decide)) rfl (by decide +kernel) mwX11_status iwX11_status vwX11_status lk_13_153 (by omega) (by decide) rfl (by decide) rfl rfl (Nat.le_of_ble_eq_true rfl) (fun r166 m167 => ?_)
        refine Ev.run (pc' := 1048) (ls' := [some (.ref 5000), some (.ref 0), some (.ref 112), some (.int a3)]) (st' := [.int (a3 + 1), .ref 5000, .ref 112, .int r166]) (m' := m167) [(.aload_n 2, 0, 0, 0, 0), (.aload_n 0, 0, 0, 0, 0), (.iload_n 3, 0, 0, 0, 0), (.iconst 1, 0, 0, 1, 0), (.iadd, 0, 0, 0, 0)] (by decide +kernel) rfl ?_
        refine Ev.sald (by decide +kernel) ?_
        refine Ev.cV (av := [.int (xs (a3 + 1).toNatClampNeg)]) (st := [.int r166]) (a := 112) (EX12_status (l := l) (Ln := Ln) (xs := xs) (d := 1) f (xs (a3 + 1).toNatClampNeg) m167 (by decide)) rfl (by decide +kernel) mwX12_status iwX12_status vwX12_status lk_13_156 (by omega) (by decide) rfl (by decide) rfl rfl (Nat.le_of_ble_eq_true rfl) (fun r168 m169 => ?_)
        refine Ev.ic_eq (t := 1057) (by decide +kernel) ?_ ?_
        · exact EL_law_J1057 f (FL_law_L18 f Ln xs k n) a3 m169 ih (by omega)
        · refine Ev.run (pc' := 1056) (ls' := [some (.ref 5000), some (.ref 0), some (.ref 112), some (.int a3)]) (st' := [.int 0]) (m' := m169) [(.iconst 0, 0, 0, 0, 0)] (by decide +kernel) rfl ?_
          exact Ev.iretz rfl rfl (by decide +kernel) (by decide)
      refine Ev.sw0 (vals := [0, 1, 2, 3, 4, 5, 6, 7, 8, 9, 10, 11, 12, 13, 14, 15, 16, 17, 18, 19, 20, 21, 22, 23, 24, 25, 26, 27, 28, 29, 30, 31, 32, 33]) (dt := 1057) (by decide +kernel) (by simp only [List.mem_cons, List.not_mem_nil, or_false, not_or]; exact ⟨(lv_neT (k := 0) (a := 0) z5 (by decide)), (lv_neT (k := 1) (a := 1) z10 (by decide)), (lv_neT (k := 2) (a := 2) z15 (by decide)), (lv_neT (k := 3) (a := 3) z20 (by decide)), (lv_neT (k := 4) (a := 4) z25 (by decide)), (lv_neT (k := 5) (a := 5) z30 (by decide)), (lv_neT (k := 6) (a := 6) z35 (by decide)), (lv_neT (k := 7) (a := 7) z40 (by decide)), (lv_neT (k := 8) (a := 8) z45 (by decide)), (lv_neT (k := 9) (a := 9) z50 (by decide)), (lv_neT (k := 10) (a := 10) z55 (by decide)), (lv_neT (k := 11) (a := 11) z60 (by decide)), (lv_neT (k := 12) (a := 12) z65 (by decide)), (lv_neT (k := 13) (a := 13) z70 (by decide)), (lv_neT (k := 14) (a := 14) z75 (by decide)), (lv_neT (k := 15) (a := 15) z80 (by decide)), (lv_neT (k := 16) (a := 16) z85 (by decide)), (lv_neT (k := 17) (a := 17) z90 (by decide)), (lv_neT (k := 18) (a := 18) z95 (by decide)), (lv_neT (k := 19) (a := 19) z100 (by decide)), (lv_neT (k := 20) (a := 20) z105 (by decide)), (lv_neT (k := 21) (a := 21) z110 (by decide)), (lv_neT (k := 22) (a := 22) z115 (by decide)), (lv_neT (k := 23) (a := 23) z120 (by decide)), (lv_neT (k := 24) (a := 24) z125 (by decide)), (lv_neT (k := 25) (a := 25) z130 (by decide)), (lv_neT (k := 26) (a := 26) z135 (by decide)), (lv_neT (k := 27) (a := 27) z140 (by decide)), (lv_neT (k := 28) (a := 28) z145 (by decide)), (lv_neT (k := 29) (a := 29) z150 (by decide)), (lv_neT (k := 30) (a := 30) z155 (by decide)), (lv_neT (k := 31) (a := 31) z160 (by decide)), (lv_neT (k := 32) (a := 32) z165 (by decide)), (lv_neT (k := 33) (a := 33) z170 (by decide))⟩) ?_
      exact EL_law_J1057 f (FL_law_L18 f Ln xs k n) a3 m ih (by omega)
