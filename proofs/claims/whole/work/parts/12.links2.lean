set_option maxRecDepth 100000 in
theorem lk_0_32 : Cond.methodLink (ev_cn 0) 32 YX3_towers.1 ∈ lw_tbl := ev_t4 (List.mem_of_getElem? (i := 152) rfl)
set_option maxRecDepth 100000 in
theorem lk_0_38 : Cond.methodLink (ev_cn 0) 38 YJ6_bitCount_0f7a4.1 ∈ lw_tbl := ev_t4 (List.mem_of_getElem? (i := 156) rfl)
set_option maxRecDepth 100000 in
theorem lk_0_44 : Cond.methodLink (ev_cn 0) 44 YX0_fires.1 ∈ lw_tbl := ev_t4 (List.mem_of_getElem? (i := 157) rfl)
set_option maxRecDepth 100000 in
theorem lk_0_48 : Cond.methodLink (ev_cn 0) 48 YX8_copy.1 ∈ lw_tbl := ev_t4 (List.mem_of_getElem? (i := 161) rfl)
set_option maxRecDepth 100000 in
theorem lk_0_56 : Cond.methodLink (ev_cn 0) 56 YX3_go.1 ∈ lw_tbl := ev_t4 (List.mem_of_getElem? (i := 162) rfl)
set_option maxRecDepth 100000 in
theorem lk_0_60 : Cond.methodLink (ev_cn 0) 60 YX3_isFire.1 ∈ lw_tbl := ev_t4 (List.mem_of_getElem? (i := 163) rfl)
set_option maxRecDepth 100000 in
theorem lk_0_64 : Cond.methodLink (ev_cn 0) 64 YX0_tryRounds.1 ∈ lw_tbl := ev_t4 (List.mem_of_getElem? (i := 180) rfl)
set_option maxRecDepth 100000 in
theorem lk_0_67 : Cond.methodLink (ev_cn 0) 67 YX0_startWith.1 ∈ lw_tbl := ev_t4 (List.mem_of_getElem? (i := 185) rfl)
set_option maxRecDepth 100000 in
theorem lk_0_74 : Cond.methodLink (ev_cn 0) 74 YX0_weigh.1 ∈ lw_tbl := ev_t4 (List.mem_of_getElem? (i := 189) rfl)
set_option maxRecDepth 100000 in
theorem lk_0_78 : Cond.methodLink (ev_cn 0) 78 YX8_swap.1 ∈ lw_tbl := ev_t4 (List.mem_of_getElem? (i := 201) rfl)
set_option maxRecDepth 100000 in
theorem lk_0_82 : Cond.methodLink (ev_cn 0) 82 YX3_doubtfulOnes.1 ∈ lw_tbl := ev_t4 (List.mem_of_getElem? (i := 184) rfl)
set_option maxRecDepth 100000 in
theorem lk_0_85 : Cond.methodLink (ev_cn 0) 85 YX0_worstBySigh.1 ∈ lw_tbl := ev_t4 (List.mem_of_getElem? (i := 213) rfl)
set_option maxRecDepth 100000 in
theorem lk_0_89 : Cond.methodLink (ev_cn 0) 89 YJ9_max_7cf53.1 ∈ lw_tbl := ev_t4 (List.mem_of_getElem? (i := 217) rfl)
set_option maxRecDepth 100000 in
theorem lk_1_62 : Cond.methodLink (ev_cn 1) 62 YX1_clear.1 ∈ lw_tbl := ev_t2 (List.mem_of_getElem? (i := 238) rfl)
set_option maxRecDepth 100000 in
theorem lk_1_65 : Cond.methodLink (ev_cn 1) 65 YX10_begin.1 ∈ lw_tbl := ev_t3 (List.mem_of_getElem? (i := 2) rfl)
set_option maxRecDepth 100000 in
theorem lk_1_70 : Cond.methodLink (ev_cn 1) 70 YX10_takeWord.1 ∈ lw_tbl := ev_t3 (List.mem_of_getElem? (i := 71) rfl)
set_option maxRecDepth 100000 in
theorem lk_1_74 : Cond.methodLink (ev_cn 1) 74 YX10_takeNumber.1 ∈ lw_tbl := ev_t3 (List.mem_of_getElem? (i := 83) rfl)
set_option maxRecDepth 100000 in
theorem lk_1_78 : Cond.methodLink (ev_cn 1) 78 YX10_takeSign.1 ∈ lw_tbl := ev_t3 (List.mem_of_getElem? (i := 91) rfl)
set_option maxRecDepth 100000 in
theorem lk_1_81 : Cond.methodLink (ev_cn 1) 81 YX10_isGood.1 ∈ lw_tbl := ev_t3 (List.mem_of_getElem? (i := 99) rfl)
set_option maxRecDepth 100000 in
theorem lk_1_85 : Cond.methodLink (ev_cn 1) 85 YX10_isEnd.1 ∈ lw_tbl := ev_t3 (List.mem_of_getElem? (i := 100) rfl)
set_option maxRecDepth 100000 in
theorem lk_1_88 : Cond.methodLink (ev_cn 1) 88 YX1_readStatement.1 ∈ lw_tbl := ev_t3 (List.mem_of_getElem? (i := 104) rfl)
set_option maxRecDepth 100000 in
theorem lk_1_95 : Cond.methodLink (ev_cn 1) 95 YX10_fail.1 ∈ lw_tbl := ev_t3 (List.mem_of_getElem? (i := 124) rfl)
set_option maxRecDepth 100000 in
theorem lk_1_99 : Cond.methodLink (ev_cn 1) 99 YX1_addUntoldSums.1 ∈ lw_tbl := ev_t3 (List.mem_of_getElem? (i := 221) rfl)
set_option maxRecDepth 100000 in
theorem lk_1_105 : Cond.methodLink (ev_cn 1) 105 YX1_hasSays.1 ∈ lw_tbl := ev_t3 (List.mem_of_getElem? (i := 116) rfl)
set_option maxRecDepth 100000 in
theorem lk_1_108 : Cond.methodLink (ev_cn 1) 108 YX2_add.1 ∈ lw_tbl := ev_t3 (List.mem_of_getElem? (i := 225) rfl)
set_option maxRecDepth 100000 in
theorem lk_1_111 : Cond.methodLink (ev_cn 1) 111 YX1_hasFeels.1 ∈ lw_tbl := ev_t3 (List.mem_of_getElem? (i := 120) rfl)
set_option maxRecDepth 100000 in
theorem lk_1_114 : Cond.methodLink (ev_cn 1) 114 YX10_word.1 ∈ lw_tbl := ev_t3 (List.mem_of_getElem? (i := 108) rfl)
set_option maxRecDepth 100000 in
theorem lk_1_118 : Cond.methodLink (ev_cn 1) 118 YX1_isTooMany.1 ∈ lw_tbl := ev_t3 (List.mem_of_getElem? (i := 112) rfl)
set_option maxRecDepth 100000 in
theorem lk_1_122 : Cond.methodLink (ev_cn 1) 122 YX10_advance.1 ∈ lw_tbl := ev_t3 (List.mem_of_getElem? (i := 125) rfl)
set_option maxRecDepth 100000 in
theorem lk_1_125 : Cond.methodLink (ev_cn 1) 125 YX1_readTower.1 ∈ lw_tbl := ev_t3 (List.mem_of_getElem? (i := 126) rfl)
set_option maxRecDepth 100000 in
theorem lk_1_129 : Cond.methodLink (ev_cn 1) 129 YX1_readYes.1 ∈ lw_tbl := ev_t3 (List.mem_of_getElem? (i := 142) rfl)
set_option maxRecDepth 100000 in
theorem lk_1_132 : Cond.methodLink (ev_cn 1) 132 YX1_readSays.1 ∈ lw_tbl := ev_t3 (List.mem_of_getElem? (i := 146) rfl)
set_option maxRecDepth 100000 in
theorem lk_1_136 : Cond.methodLink (ev_cn 1) 136 YX1_readFeels.1 ∈ lw_tbl := ev_t3 (List.mem_of_getElem? (i := 217) rfl)
set_option maxRecDepth 100000 in
theorem lk_1_139 : Cond.methodLink (ev_cn 1) 139 YX10_checkName.1 ∈ lw_tbl := ev_t3 (List.mem_of_getElem? (i := 130) rfl)
set_option maxRecDepth 100000 in
theorem lk_1_142 : Cond.methodLink (ev_cn 1) 142 YX1_find.1 ∈ lw_tbl := ev_t3 (List.mem_of_getElem? (i := 134) rfl)
set_option maxRecDepth 100000 in
theorem lk_1_146 : Cond.methodLink (ev_cn 1) 146 YX10_nameLetter.1 ∈ lw_tbl := ev_t3 (List.mem_of_getElem? (i := 138) rfl)
set_option maxRecDepth 100000 in
theorem lk_1_150 : Cond.methodLink (ev_cn 1) 150 YX9_begin.1 ∈ lw_tbl := ev_t3 (List.mem_of_getElem? (i := 150) rfl)
set_option maxRecDepth 100000 in
theorem lk_1_155 : Cond.methodLinkNest (ev_cn 1) 155 YX9_readSum.1 "AllIsWell" ∈ lw_tbl := ev_t3 (List.mem_of_getElem? (i := 154) rfl)
set_option maxRecDepth 100000 in
theorem lk_3_35 : Cond.methodLink (ev_cn 3) 35 YX3_goThrough.1 ∈ lw_tbl := ev_t4 (List.mem_of_getElem? (i := 60) rfl)
set_option maxRecDepth 100000 in
theorem lk_3_42 : Cond.methodLink (ev_cn 3) 42 YX8_hasNext.1 ∈ lw_tbl := ev_t4 (List.mem_of_getElem? (i := 97) rfl)
set_option maxRecDepth 100000 in
theorem lk_3_76 : Cond.methodLink (ev_cn 3) 76 YX5_work.1 ∈ lw_tbl := ev_t4 (List.mem_of_getElem? (i := 64) rfl)
set_option maxRecDepth 100000 in
theorem lk_3_80 : Cond.methodLink (ev_cn 3) 80 YX3_graded.1 ∈ lw_tbl := ev_t4 (List.mem_of_getElem? (i := 92) rfl)
set_option maxRecDepth 100000 in
theorem lk_3_90 : Cond.methodLink (ev_cn 3) 90 YJ9_min_7cf53.1 ∈ lw_tbl := ev_t4 (List.mem_of_getElem? (i := 95) rfl)
set_option maxRecDepth 100000 in
theorem lk_3_96 : Cond.methodLink (ev_cn 3) 96 YJ9_max_7cf53.1 ∈ lw_tbl := ev_t4 (List.mem_of_getElem? (i := 96) rfl)
set_option maxRecDepth 100000 in
theorem lk_3_99 : Cond.methodLink (ev_cn 3) 99 YJ6_bitCount_0f7a4.1 ∈ lw_tbl := ev_t4 (List.mem_of_getElem? (i := 117) rfl)
set_option maxRecDepth 100000 in
theorem lk_3_107 : Cond.methodLink (ev_cn 3) 107 YX3_rowOf.1 ∈ lw_tbl := ev_t4 (List.mem_of_getElem? (i := 127) rfl)
set_option maxRecDepth 100000 in
theorem lk_4_56 : Cond.methodLink (ev_cn 4) 56 YX4_farthestSeen.1 ∈ lw_tbl := ev_t4 (List.mem_of_getElem? (i := 239) rfl)
set_option maxRecDepth 100000 in
theorem lk_4_60 : Cond.methodLink (ev_cn 4) 60 YX4_listen.1 ∈ lw_tbl := ev_t5 (List.mem_of_getElem? (i := 4) rfl)
set_option maxRecDepth 100000 in
theorem lk_4_64 : Cond.methodLink (ev_cn 4) 64 YX4_isAllSo.1 ∈ lw_tbl := ev_t5 (List.mem_of_getElem? (i := 15) rfl)
set_option maxRecDepth 100000 in
theorem lk_4_68 : Cond.methodLink (ev_cn 4) 68 YJ9_max_7cf53.1 ∈ lw_tbl := ev_t5 (List.mem_of_getElem? (i := 3) rfl)
set_option maxRecDepth 100000 in
theorem lk_4_74 : Cond.methodLink (ev_cn 4) 74 YJ9_min_7cf53.1 ∈ lw_tbl := ev_t5 (List.mem_of_getElem? (i := 8) rfl)
set_option maxRecDepth 100000 in
theorem lk_4_80 : Cond.methodLink (ev_cn 4) 80 YX8_copy.1 ∈ lw_tbl := ev_t5 (List.mem_of_getElem? (i := 9) rfl)
set_option maxRecDepth 100000 in
theorem lk_4_87 : Cond.methodLink (ev_cn 4) 87 YX3_go.1 ∈ lw_tbl := ev_t5 (List.mem_of_getElem? (i := 10) rfl)
set_option maxRecDepth 100000 in
theorem lk_4_93 : Cond.methodLink (ev_cn 4) 93 YX3_towers.1 ∈ lw_tbl := ev_t5 (List.mem_of_getElem? (i := 11) rfl)
set_option maxRecDepth 100000 in
theorem lk_4_96 : Cond.methodLink (ev_cn 4) 96 YX4_indexOf.1 ∈ lw_tbl := ev_t5 (List.mem_of_getElem? (i := 12) rfl)
set_option maxRecDepth 100000 in
theorem lk_4_103 : Cond.methodLink (ev_cn 4) 103 YX4_mostAlike.1 ∈ lw_tbl := ev_t5 (List.mem_of_getElem? (i := 27) rfl)
set_option maxRecDepth 100000 in
theorem lk_5_25 : Cond.methodLink (ev_cn 5) 25 YJ9_max_7cf53.1 ∈ lw_tbl := ev_t4 (List.mem_of_getElem? (i := 68) rfl)
set_option maxRecDepth 100000 in
theorem lk_5_36 : Cond.methodLink (ev_cn 5) 36 YX5_valueOf.1 ∈ lw_tbl := ev_t4 (List.mem_of_getElem? (i := 69) rfl)
set_option maxRecDepth 100000 in
theorem lk_5_40 : Cond.methodLink (ev_cn 5) 40 YX5_saidAhead.1 ∈ lw_tbl := ev_t4 (List.mem_of_getElem? (i := 73) rfl)
set_option maxRecDepth 100000 in
theorem lk_5_43 : Cond.methodLink (ev_cn 5) 43 YX5_join.1 ∈ lw_tbl := ev_t4 (List.mem_of_getElem? (i := 77) rfl)
set_option maxRecDepth 100000 in
theorem lk_5_51 : Cond.methodLink (ev_cn 5) 51 YJ9_min_f86c9.1 ∈ lw_tbl := ev_t4 (List.mem_of_getElem? (i := 82) rfl)
set_option maxRecDepth 100000 in
theorem lk_5_55 : Cond.methodLink (ev_cn 5) 55 YJ9_max_f86c9.1 ∈ lw_tbl := ev_t4 (List.mem_of_getElem? (i := 85) rfl)
set_option maxRecDepth 100000 in
theorem lk_5_57 : Cond.methodLink (ev_cn 5) 57 YJ9_floorDiv_7cf53.1 ∈ lw_tbl := ev_t4 (List.mem_of_getElem? (i := 88) rfl)
set_option maxRecDepth 100000 in
theorem lk_5_60 : Cond.methodLink (ev_cn 5) 60 YJ9_min_7cf53.1 ∈ lw_tbl := ev_t4 (List.mem_of_getElem? (i := 91) rfl)
set_option maxRecDepth 100000 in
theorem lk_6_29 : Cond.methodLink (ev_cn 6) 29 YX8_copy.1 ∈ lw_tbl := ev_t5 (List.mem_of_getElem? (i := 39) rfl)
set_option maxRecDepth 100000 in
theorem lk_6_33 : Cond.methodLink (ev_cn 6) 33 YJ9_min_7cf53.1 ∈ lw_tbl := ev_t5 (List.mem_of_getElem? (i := 40) rfl)
set_option maxRecDepth 100000 in
theorem lk_7_48 : Cond.methodLink (ev_cn 7) 48 YX10_begin.1 ∈ lw_tbl := ev_t5 (List.mem_of_getElem? (i := 104) rfl)
set_option maxRecDepth 100000 in
theorem lk_7_53 : Cond.methodLink (ev_cn 7) 53 YX9_begin.1 ∈ lw_tbl := ev_t5 (List.mem_of_getElem? (i := 105) rfl)
set_option maxRecDepth 100000 in
theorem lk_7_58 : Cond.methodLink (ev_cn 7) 58 YX10_word.1 ∈ lw_tbl := ev_t5 (List.mem_of_getElem? (i := 106) rfl)
set_option maxRecDepth 100000 in
theorem lk_7_62 : Cond.methodLink (ev_cn 7) 62 YX10_advance.1 ∈ lw_tbl := ev_t5 (List.mem_of_getElem? (i := 107) rfl)
set_option maxRecDepth 100000 in
theorem lk_7_65 : Cond.methodLink (ev_cn 7) 65 YX7_readTest.1 ∈ lw_tbl := ev_t5 (List.mem_of_getElem? (i := 108) rfl)
set_option maxRecDepth 100000 in
theorem lk_7_68 : Cond.methodLinkNest (ev_cn 7) 68 YX9_readSum.1 "AllIsWell" ∈ lw_tbl := ev_t5 (List.mem_of_getElem? (i := 130) rfl)
set_option maxRecDepth 100000 in
theorem lk_7_74 : Cond.methodLink (ev_cn 7) 74 YX10_fail.1 ∈ lw_tbl := ev_t5 (List.mem_of_getElem? (i := 131) rfl)
set_option maxRecDepth 100000 in
theorem lk_7_78 : Cond.methodLink (ev_cn 7) 78 YX10_isEnd.1 ∈ lw_tbl := ev_t5 (List.mem_of_getElem? (i := 132) rfl)
set_option maxRecDepth 100000 in
theorem lk_7_82 : Cond.methodLink (ev_cn 7) 82 YX10_isGood.1 ∈ lw_tbl := ev_t5 (List.mem_of_getElem? (i := 133) rfl)
set_option maxRecDepth 100000 in
theorem lk_7_85 : Cond.methodLink (ev_cn 7) 85 YX7_readBoth.1 ∈ lw_tbl := ev_t5 (List.mem_of_getElem? (i := 112) rfl)
set_option maxRecDepth 100000 in
theorem lk_7_88 : Cond.methodLink (ev_cn 7) 88 YX10_isWord.1 ∈ lw_tbl := ev_t5 (List.mem_of_getElem? (i := 120) rfl)
set_option maxRecDepth 100000 in
theorem lk_7_92 : Cond.methodLink (ev_cn 7) 92 YX2_add.1 ∈ lw_tbl := ev_t5 (List.mem_of_getElem? (i := 123) rfl)
set_option maxRecDepth 100000 in
theorem lk_7_96 : Cond.methodLink (ev_cn 7) 96 YX7_readFact.1 ∈ lw_tbl := ev_t5 (List.mem_of_getElem? (i := 116) rfl)
set_option maxRecDepth 100000 in
theorem lk_7_99 : Cond.methodLink (ev_cn 7) 99 YX9_opens.1 ∈ lw_tbl := ev_t5 (List.mem_of_getElem? (i := 121) rfl)
set_option maxRecDepth 100000 in
theorem lk_7_102 : Cond.methodLink (ev_cn 7) 102 YX9_closes.1 ∈ lw_tbl := ev_t5 (List.mem_of_getElem? (i := 122) rfl)
set_option maxRecDepth 100000 in
theorem lk_7_105 : Cond.methodLink (ev_cn 7) 105 YX10_isSign.1 ∈ lw_tbl := ev_t5 (List.mem_of_getElem? (i := 124) rfl)
set_option maxRecDepth 100000 in
theorem lk_7_108 : Cond.methodLink (ev_cn 7) 108 YX10_takeSign.1 ∈ lw_tbl := ev_t5 (List.mem_of_getElem? (i := 125) rfl)
set_option maxRecDepth 100000 in
theorem lk_7_111 : Cond.methodLink (ev_cn 7) 111 YX7_readComparison.1 ∈ lw_tbl := ev_t5 (List.mem_of_getElem? (i := 126) rfl)
set_option maxRecDepth 100000 in
theorem lk_7_114 : Cond.methodLink (ev_cn 7) 114 YX7_lookAhead.1 ∈ lw_tbl := ev_t5 (List.mem_of_getElem? (i := 138) rfl)
set_option maxRecDepth 100000 in
theorem lk_7_120 : Cond.methodLink (ev_cn 7) 120 YX3_towers.1 ∈ lw_tbl := ev_t5 (List.mem_of_getElem? (i := 145) rfl)
set_option maxRecDepth 100000 in
theorem lk_7_125 : Cond.methodLink (ev_cn 7) 125 YX7_setValues.1 ∈ lw_tbl := ev_t5 (List.mem_of_getElem? (i := 147) rfl)
set_option maxRecDepth 100000 in
theorem lk_7_133 : Cond.methodLink (ev_cn 7) 133 YX5_work.1 ∈ lw_tbl := ev_t5 (List.mem_of_getElem? (i := 151) rfl)
set_option maxRecDepth 100000 in
theorem lk_7_139 : Cond.methodLink (ev_cn 7) 139 YX7_joined.1 ∈ lw_tbl := ev_t5 (List.mem_of_getElem? (i := 152) rfl)
set_option maxRecDepth 100000 in
theorem lk_7_143 : Cond.methodLink (ev_cn 7) 143 YJ9_max_f86c9.1 ∈ lw_tbl := ev_t5 (List.mem_of_getElem? (i := 156) rfl)
set_option maxRecDepth 100000 in
theorem lk_7_149 : Cond.methodLink (ev_cn 7) 149 YJ9_min_f86c9.1 ∈ lw_tbl := ev_t5 (List.mem_of_getElem? (i := 157) rfl)
set_option maxRecDepth 100000 in
theorem lk_7_176 : Cond.methodLink (ev_cn 7) 176 YJ9_min_7cf53.1 ∈ lw_tbl := ev_t5 (List.mem_of_getElem? (i := 142) rfl)
set_option maxRecDepth 100000 in
theorem lk_7_179 : Cond.methodLink (ev_cn 7) 179 YX8_copy.1 ∈ lw_tbl := ev_t5 (List.mem_of_getElem? (i := 143) rfl)
set_option maxRecDepth 100000 in
theorem lk_7_182 : Cond.methodLink (ev_cn 7) 182 YX3_go.1 ∈ lw_tbl := ev_t5 (List.mem_of_getElem? (i := 144) rfl)
set_option maxRecDepth 100000 in
theorem lk_9_34 : Cond.methodLink (ev_cn 9) 34 YX10_fail.1 ∈ lw_tbl := ev_t3 (List.mem_of_getElem? (i := 188) rfl)
set_option maxRecDepth 100000 in
theorem lk_9_38 : Cond.methodLink (ev_cn 9) 38 YX10_advance.1 ∈ lw_tbl := ev_t3 (List.mem_of_getElem? (i := 189) rfl)
set_option maxRecDepth 100000 in
theorem lk_9_41 : Cond.methodLink (ev_cn 9) 41 YX2_add.1 ∈ lw_tbl := ev_t3 (List.mem_of_getElem? (i := 175) rfl)
set_option maxRecDepth 100000 in
theorem lk_9_47 : Cond.methodLink (ev_cn 9) 47 YX9_readProduct.1 ∈ lw_tbl := ev_t3 (List.mem_of_getElem? (i := 158) rfl)
set_option maxRecDepth 100000 in
theorem lk_9_50 : Cond.methodLink (ev_cn 9) 50 YX10_isSign.1 ∈ lw_tbl := ev_t3 (List.mem_of_getElem? (i := 179) rfl)
set_option maxRecDepth 100000 in
theorem lk_9_54 : Cond.methodLink (ev_cn 9) 54 YX9_put.1 ∈ lw_tbl := ev_t3 (List.mem_of_getElem? (i := 171) rfl)
set_option maxRecDepth 100000 in
theorem lk_9_57 : Cond.methodLink (ev_cn 9) 57 YX9_readPart.1 ∈ lw_tbl := ev_t3 (List.mem_of_getElem? (i := 162) rfl)
set_option maxRecDepth 100000 in
theorem lk_9_60 : Cond.methodLink (ev_cn 9) 60 YX10_isNumber.1 ∈ lw_tbl := ev_t3 (List.mem_of_getElem? (i := 166) rfl)
set_option maxRecDepth 100000 in
theorem lk_9_64 : Cond.methodLink (ev_cn 9) 64 YX10_takeNumber.1 ∈ lw_tbl := ev_t3 (List.mem_of_getElem? (i := 170) rfl)
set_option maxRecDepth 100000 in
theorem lk_9_68 : Cond.methodLink (ev_cn 9) 68 YX9_readOpened.1 ∈ lw_tbl := ev_t3 (List.mem_of_getElem? (i := 180) rfl)
set_option maxRecDepth 100000 in
theorem lk_9_71 : Cond.methodLink (ev_cn 9) 71 YX10_isWord.1 ∈ lw_tbl := ev_t3 (List.mem_of_getElem? (i := 196) rfl)
set_option maxRecDepth 100000 in
theorem lk_9_74 : Cond.methodLink (ev_cn 9) 74 YX9_readPair.1 ∈ lw_tbl := ev_t3 (List.mem_of_getElem? (i := 197) rfl)
set_option maxRecDepth 100000 in
theorem lk_9_77 : Cond.methodLink (ev_cn 9) 77 YX9_readSaidAhead.1 ∈ lw_tbl := ev_t3 (List.mem_of_getElem? (i := 201) rfl)
set_option maxRecDepth 100000 in
theorem lk_9_80 : Cond.methodLink (ev_cn 9) 80 YX10_word.1 ∈ lw_tbl := ev_t3 (List.mem_of_getElem? (i := 205) rfl)
set_option maxRecDepth 100000 in
theorem lk_9_84 : Cond.methodLink (ev_cn 9) 84 YX9_isValue.1 ∈ lw_tbl := ev_t3 (List.mem_of_getElem? (i := 206) rfl)
set_option maxRecDepth 100000 in
theorem lk_9_87 : Cond.methodLink (ev_cn 9) 87 YX9_readValue.1 ∈ lw_tbl := ev_t3 (List.mem_of_getElem? (i := 210) rfl)
set_option maxRecDepth 100000 in
theorem lk_9_90 : Cond.methodLink (ev_cn 9) 90 YX9_opens.1 ∈ lw_tbl := ev_t3 (List.mem_of_getElem? (i := 184) rfl)
set_option maxRecDepth 100000 in
theorem lk_9_93 : Cond.methodLink (ev_cn 9) 93 YX9_readSum.1 ∈ lw_tbl := ev_t3 (List.mem_of_getElem? (i := 190) rfl)
set_option maxRecDepth 100000 in
theorem lk_9_96 : Cond.methodLink (ev_cn 9) 96 YX10_takeSign.1 ∈ lw_tbl := ev_t3 (List.mem_of_getElem? (i := 191) rfl)
set_option maxRecDepth 100000 in
theorem lk_9_99 : Cond.methodLink (ev_cn 9) 99 YX9_closes.1 ∈ lw_tbl := ev_t3 (List.mem_of_getElem? (i := 192) rfl)
set_option maxRecDepth 100000 in
theorem lk_9_102 : Cond.methodLink (ev_cn 9) 102 YJ9_max_7cf53.1 ∈ lw_tbl := ev_t3 (List.mem_of_getElem? (i := 214) rfl)
set_option maxRecDepth 100000 in
theorem lk_10_37 : Cond.methodLink (ev_cn 10) 37 YX10_hasRoom.1 ∈ lw_tbl := ev_t2 (List.mem_of_getElem? (i := 225) rfl)
set_option maxRecDepth 100000 in
theorem lk_10_41 : Cond.methodLink (ev_cn 10) 41 YX10_advance.1 ∈ lw_tbl := ev_t3 (List.mem_of_getElem? (i := 6) rfl)
set_option maxRecDepth 100000 in
theorem lk_10_44 : Cond.methodLink (ev_cn 10) 44 YX10_isLong.1 ∈ lw_tbl := ev_t3 (List.mem_of_getElem? (i := 10) rfl)
set_option maxRecDepth 100000 in
theorem lk_10_48 : Cond.methodLink (ev_cn 10) 48 YX10_skipBlanks.1 ∈ lw_tbl := ev_t3 (List.mem_of_getElem? (i := 14) rfl)
set_option maxRecDepth 100000 in
theorem lk_10_52 : Cond.methodLink (ev_cn 10) 52 YX10_kindAt.1 ∈ lw_tbl := ev_t3 (List.mem_of_getElem? (i := 18) rfl)
set_option maxRecDepth 100000 in
theorem lk_10_56 : Cond.methodLink (ev_cn 10) 56 YX10_wordHere.1 ∈ lw_tbl := ev_t3 (List.mem_of_getElem? (i := 22) rfl)
set_option maxRecDepth 100000 in
theorem lk_10_60 : Cond.methodLink (ev_cn 10) 60 YX10_numberHere.1 ∈ lw_tbl := ev_t3 (List.mem_of_getElem? (i := 67) rfl)
set_option maxRecDepth 100000 in
theorem lk_10_71 : Cond.methodLink (ev_cn 10) 71 YX10_isSign.1 ∈ lw_tbl := ev_t3 (List.mem_of_getElem? (i := 95) rfl)
set_option maxRecDepth 100000 in
theorem lk_10_74 : Cond.methodLink (ev_cn 10) 74 YX10_fail.1 ∈ lw_tbl := ev_t3 (List.mem_of_getElem? (i := 79) rfl)
set_option maxRecDepth 100000 in
theorem lk_10_78 : Cond.methodLink (ev_cn 10) 78 YX10_isWord.1 ∈ lw_tbl := ev_t3 (List.mem_of_getElem? (i := 75) rfl)
set_option maxRecDepth 100000 in
theorem lk_10_81 : Cond.methodLink (ev_cn 10) 81 YX10_isGood.1 ∈ lw_tbl := ev_t3 (List.mem_of_getElem? (i := 87) rfl)
set_option maxRecDepth 100000 in
theorem lk_11_111 : Cond.methodLink (ev_cn 11) 111 YX10_hasRoom.1 ∈ lw_tbl := ev_t2 (List.mem_of_getElem? (i := 213) rfl)
set_option maxRecDepth 100000 in
theorem lk_11_115 : Cond.methodLink (ev_cn 11) 115 YX11_refuse.1 ∈ lw_tbl := ev_t2 (List.mem_of_getElem? (i := 217) rfl)
set_option maxRecDepth 100000 in
theorem lk_11_118 : Cond.methodLink (ev_cn 11) 118 YX10_write.1 ∈ lw_tbl := ev_t2 (List.mem_of_getElem? (i := 221) rfl)
set_option maxRecDepth 100000 in
theorem lk_11_125 : Cond.methodLink (ev_cn 11) 125 YX1_readFrom.1 ∈ lw_tbl := ev_t2 (List.mem_of_getElem? (i := 234) rfl)
set_option maxRecDepth 100000 in
theorem lk_11_129 : Cond.methodLink (ev_cn 11) 129 YX11_noteFault.1 ∈ lw_tbl := ev_t3 (List.mem_of_getElem? (i := 226) rfl)
set_option maxRecDepth 100000 in
theorem lk_11_135 : Cond.methodLink (ev_cn 11) 135 YX8_begin.1 ∈ lw_tbl := ev_t3 (List.mem_of_getElem? (i := 230) rfl)
set_option maxRecDepth 100000 in
theorem lk_11_153 : Cond.methodLink (ev_cn 11) 153 YX11_isTold.1 ∈ lw_tbl := ev_t4 (List.mem_of_getElem? (i := 3) rfl)
set_option maxRecDepth 100000 in
theorem lk_11_163 : Cond.methodLink (ev_cn 11) 163 YJ6_bitCount_0f7a4.1 ∈ lw_tbl := ev_t4 (List.mem_of_getElem? (i := 7) rfl)
set_option maxRecDepth 100000 in
theorem lk_11_169 : Cond.methodLink (ev_cn 11) 169 YX11_moodsTogether.1 ∈ lw_tbl := ev_t4 (List.mem_of_getElem? (i := 13) rfl)
set_option maxRecDepth 100000 in
theorem lk_11_176 : Cond.methodLink (ev_cn 11) 176 YJ9_min_7cf53.1 ∈ lw_tbl := ev_t4 (List.mem_of_getElem? (i := 17) rfl)
set_option maxRecDepth 100000 in
theorem lk_11_182 : Cond.methodLink (ev_cn 11) 182 YX11_isTower.1 ∈ lw_tbl := ev_t4 (List.mem_of_getElem? (i := 24) rfl)
set_option maxRecDepth 100000 in
theorem lk_11_194 : Cond.methodLink (ev_cn 11) 194 YX6_fireOf.1 ∈ lw_tbl := ev_t4 (List.mem_of_getElem? (i := 36) rfl)
set_option maxRecDepth 100000 in
theorem lk_11_197 : Cond.methodLink (ev_cn 11) 197 YX11_comes.1 ∈ lw_tbl := ev_t4 (List.mem_of_getElem? (i := 44) rfl)
set_option maxRecDepth 100000 in
theorem lk_11_200 : Cond.methodLink (ev_cn 11) 200 YX11_goAhead.1 ∈ lw_tbl := ev_t4 (List.mem_of_getElem? (i := 48) rfl)
set_option maxRecDepth 100000 in
theorem lk_11_206 : Cond.methodLink (ev_cn 11) 206 YX11_canBeAhead.1 ∈ lw_tbl := ev_t4 (List.mem_of_getElem? (i := 105) rfl)
set_option maxRecDepth 100000 in
theorem lk_11_210 : Cond.methodLink (ev_cn 11) 210 YX3_doubtfulOnes.1 ∈ lw_tbl := ev_t4 (List.mem_of_getElem? (i := 113) rfl)
set_option maxRecDepth 100000 in
theorem lk_11_213 : Cond.methodLink (ev_cn 11) 213 YX8_copy.1 ∈ lw_tbl := ev_t4 (List.mem_of_getElem? (i := 52) rfl)
set_option maxRecDepth 100000 in
theorem lk_11_217 : Cond.methodLink (ev_cn 11) 217 YX8_hasNext.1 ∈ lw_tbl := ev_t4 (List.mem_of_getElem? (i := 122) rfl)
set_option maxRecDepth 100000 in
theorem lk_11_220 : Cond.methodLink (ev_cn 11) 220 YX3_go.1 ∈ lw_tbl := ev_t4 (List.mem_of_getElem? (i := 56) rfl)
set_option maxRecDepth 100000 in
theorem lk_11_224 : Cond.methodLink (ev_cn 11) 224 YX3_isFire.1 ∈ lw_tbl := ev_t4 (List.mem_of_getElem? (i := 123) rfl)
set_option maxRecDepth 100000 in
theorem lk_11_227 : Cond.methodLink (ev_cn 11) 227 YX8_feature.1 ∈ lw_tbl := ev_t4 (List.mem_of_getElem? (i := 135) rfl)
set_option maxRecDepth 100000 in
theorem lk_11_231 : Cond.methodLink (ev_cn 11) 231 YX11_indexBelow.1 ∈ lw_tbl := ev_t4 (List.mem_of_getElem? (i := 140) rfl)
set_option maxRecDepth 100000 in
theorem lk_11_234 : Cond.methodLink (ev_cn 11) 234 YX0_fewestToCheer.1 ∈ lw_tbl := ev_t4 (List.mem_of_getElem? (i := 148) rfl)
set_option maxRecDepth 100000 in
theorem lk_11_238 : Cond.methodLink (ev_cn 11) 238 YX0_fewestToSigh.1 ∈ lw_tbl := ev_t4 (List.mem_of_getElem? (i := 168) rfl)
set_option maxRecDepth 100000 in
theorem lk_11_241 : Cond.methodLink (ev_cn 11) 241 YX0_seekYes.1 ∈ lw_tbl := ev_t4 (List.mem_of_getElem? (i := 176) rfl)
set_option maxRecDepth 100000 in
theorem lk_11_250 : Cond.methodLink (ev_cn 11) 250 YX0_seekPlaces.1 ∈ lw_tbl := ev_t4 (List.mem_of_getElem? (i := 197) rfl)
set_option maxRecDepth 100000 in
theorem lk_11_256 : Cond.methodLink (ev_cn 11) 256 YX0_play.1 ∈ lw_tbl := ev_t4 (List.mem_of_getElem? (i := 209) rfl)
set_option maxRecDepth 100000 in
theorem lk_11_259 : Cond.methodLink (ev_cn 11) 259 YX3_rowOf.1 ∈ lw_tbl := ev_t4 (List.mem_of_getElem? (i := 222) rfl)
set_option maxRecDepth 100000 in
theorem lk_11_262 : Cond.methodLink (ev_cn 11) 262 YX4_look.1 ∈ lw_tbl := ev_t4 (List.mem_of_getElem? (i := 227) rfl)
set_option maxRecDepth 100000 in
theorem lk_11_266 : Cond.methodLink (ev_cn 11) 266 YX4_moodBits.1 ∈ lw_tbl := ev_t4 (List.mem_of_getElem? (i := 235) rfl)
set_option maxRecDepth 100000 in
theorem lk_11_269 : Cond.methodLink (ev_cn 11) 269 YX4_seekTelling.1 ∈ lw_tbl := ev_t5 (List.mem_of_getElem? (i := 23) rfl)
set_option maxRecDepth 100000 in
theorem lk_11_282 : Cond.methodLink (ev_cn 11) 282 YX6_keep.1 ∈ lw_tbl := ev_t5 (List.mem_of_getElem? (i := 35) rfl)
set_option maxRecDepth 100000 in
theorem lk_11_285 : Cond.methodLink (ev_cn 11) 285 YX8_swap.1 ∈ lw_tbl := ev_t5 (List.mem_of_getElem? (i := 49) rfl)
set_option maxRecDepth 100000 in
theorem lk_11_289 : Cond.methodLink (ev_cn 11) 289 YX11_canGo.1 ∈ lw_tbl := ev_t5 (List.mem_of_getElem? (i := 54) rfl)
set_option maxRecDepth 100000 in
theorem lk_11_292 : Cond.methodLink (ev_cn 11) 292 YX11_goOn.1 ∈ lw_tbl := ev_t5 (List.mem_of_getElem? (i := 58) rfl)
set_option maxRecDepth 100000 in
theorem lk_11_295 : Cond.methodLink (ev_cn 11) 295 YX11_catchCold.1 ∈ lw_tbl := ev_t5 (List.mem_of_getElem? (i := 70) rfl)
set_option maxRecDepth 100000 in
theorem lk_11_298 : Cond.methodLink (ev_cn 11) 298 YX6_bringBack.1 ∈ lw_tbl := ev_t5 (List.mem_of_getElem? (i := 87) rfl)
set_option maxRecDepth 100000 in
theorem lk_11_304 : Cond.methodLink (ev_cn 11) 304 YX7_read.1 ∈ lw_tbl := ev_t5 (List.mem_of_getElem? (i := 100) rfl)
set_option maxRecDepth 100000 in
theorem lk_11_307 : Cond.methodLink (ev_cn 11) 307 YX7_answer.1 ∈ lw_tbl := ev_t5 (List.mem_of_getElem? (i := 134) rfl)
set_option maxRecDepth 100000 in
theorem lk_11_311 : Cond.methodLink (ev_cn 11) 311 YX11_checkOf.1 ∈ lw_tbl := ev_t5 (List.mem_of_getElem? (i := 162) rfl)
set_option maxRecDepth 100000 in
theorem lk_11_315 : Cond.methodLink (ev_cn 11) 315 YX11_isPicture.1 ∈ lw_tbl := ev_t5 (List.mem_of_getElem? (i := 173) rfl)
set_option maxRecDepth 100000 in
theorem lk_11_318 : Cond.methodLink (ev_cn 11) 318 YX11_takePicture.1 ∈ lw_tbl := ev_t5 (List.mem_of_getElem? (i := 177) rfl)
set_option maxRecDepth 100000 in
theorem lk_11_326 : Cond.methodLink (ev_cn 11) 326 YX6_addFire.1 ∈ lw_tbl := ev_t5 (List.mem_of_getElem? (i := 62) rfl)
set_option maxRecDepth 100000 in
theorem lk_11_330 : Cond.methodLink (ev_cn 11) 330 YX11_draw.1 ∈ lw_tbl := ev_t5 (List.mem_of_getElem? (i := 74) rfl)
set_option maxRecDepth 100000 in
theorem lk_11_336 : Cond.methodLink (ev_cn 11) 336 YJ9_max_7cf53.1 ∈ lw_tbl := ev_t5 (List.mem_of_getElem? (i := 82) rfl)
set_option maxRecDepth 100000 in
theorem lk_12_240 : Cond.methodLink (ev_cn 12) 240 YX12_look.1 ∈ lw_tbl := ev_t7 (List.mem_of_getElem? (i := 54) rfl)
set_option maxRecDepth 100000 in
theorem lk_12_244 : Cond.methodLink (ev_cn 12) 244 YX12_isLetter.1 ∈ lw_tbl := ev_t7 (List.mem_of_getElem? (i := 58) rfl)
set_option maxRecDepth 100000 in
theorem lk_12_251 : Cond.methodLink (ev_cn 12) 251 YX12_isHere.1 ∈ lw_tbl := ev_t7 (List.mem_of_getElem? (i := 50) rfl)
set_option maxRecDepth 100000 in
theorem lk_12_255 : Cond.methodLink (ev_cn 12) 255 YX12_takes.1 ∈ lw_tbl := ev_t7 (List.mem_of_getElem? (i := 46) rfl)
set_option maxRecDepth 100000 in
theorem lk_12_258 : Cond.methodLink (ev_cn 12) 258 YX12_fail.1 ∈ lw_tbl := ev_t7 (List.mem_of_getElem? (i := 61) rfl)
set_option maxRecDepth 100000 in
theorem lk_12_262 : Cond.methodLink (ev_cn 12) 262 YX12_takesSign.1 ∈ lw_tbl := ev_t7 (List.mem_of_getElem? (i := 79) rfl)
set_option maxRecDepth 100000 in
theorem lk_12_265 : Cond.methodLink (ev_cn 12) 265 YX12_isDigit.1 ∈ lw_tbl := ev_t7 (List.mem_of_getElem? (i := 69) rfl)
set_option maxRecDepth 100000 in
theorem lk_12_268 : Cond.methodLink (ev_cn 12) 268 YX12_isIn.1 ∈ lw_tbl := ev_t7 (List.mem_of_getElem? (i := 72) rfl)
set_option maxRecDepth 100000 in
theorem lk_12_272 : Cond.methodLink (ev_cn 12) 272 YX12_isOwnHere.1 ∈ lw_tbl := ev_t7 (List.mem_of_getElem? (i := 95) rfl)
set_option maxRecDepth 100000 in
theorem lk_12_291 : Cond.methodLink (ev_cn 12) 291 YX12_asks.1 ∈ lw_tbl := ev_t7 (List.mem_of_getElem? (i := 42) rfl)
set_option maxRecDepth 100000 in
theorem lk_12_295 : Cond.methodLink (ev_cn 12) 295 YX12_number.1 ∈ lw_tbl := ev_t7 (List.mem_of_getElem? (i := 65) rfl)
set_option maxRecDepth 100000 in
theorem lk_12_302 : Cond.methodLink (ev_cn 12) 302 YX12_asksSign.1 ∈ lw_tbl := ev_t7 (List.mem_of_getElem? (i := 75) rfl)
set_option maxRecDepth 100000 in
theorem lk_12_306 : Cond.methodLink (ev_cn 12) 306 YX12_name.1 ∈ lw_tbl := ev_t7 (List.mem_of_getElem? (i := 91) rfl)
set_option maxRecDepth 100000 in
theorem lk_12_310 : Cond.methodLink (ev_cn 12) 310 YX12_nameOf.1 ∈ lw_tbl := ev_t7 (List.mem_of_getElem? (i := 101) rfl)
set_option maxRecDepth 100000 in
theorem lk_12_326 : Cond.methodLink (ev_cn 12) 326 YX12_qSums.1 ∈ lw_tbl := ev_t7 (List.mem_of_getElem? (i := 113) rfl)
set_option maxRecDepth 100000 in
theorem lk_12_335 : Cond.methodLink (ev_cn 12) 335 YX12_towerTold.1 ∈ lw_tbl := ev_t7 (List.mem_of_getElem? (i := 87) rfl)
set_option maxRecDepth 100000 in
theorem lk_12_338 : Cond.methodLink (ev_cn 12) 338 YX12_yesTold.1 ∈ lw_tbl := ev_t7 (List.mem_of_getElem? (i := 105) rfl)
set_option maxRecDepth 100000 in
theorem lk_12_341 : Cond.methodLink (ev_cn 12) 341 YX12_codesTold.1 ∈ lw_tbl := ev_t7 (List.mem_of_getElem? (i := 109) rfl)
set_option maxRecDepth 100000 in
theorem lk_12_344 : Cond.methodLink (ev_cn 12) 344 YX12_callTold0.1 ∈ lw_tbl := ev_t7 (List.mem_of_getElem? (i := 38) rfl)
set_option maxRecDepth 100000 in
theorem lk_12_347 : Cond.methodLink (ev_cn 12) 347 YX12_statementTold.1 ∈ lw_tbl := ev_t7 (List.mem_of_getElem? (i := 83) rfl)
set_option maxRecDepth 100000 in
theorem lk_12_353 : Cond.methodLink (ev_cn 12) 353 YX12_stands.1 ∈ lw_tbl := ev_t7 (List.mem_of_getElem? (i := 173) rfl)
set_option maxRecDepth 100000 in
theorem lk_12_369 : Cond.methodLink (ev_cn 12) 369 YX12_towerMany.1 ∈ lw_tbl := ev_t7 (List.mem_of_getElem? (i := 185) rfl)
set_option maxRecDepth 100000 in
theorem lk_12_375 : Cond.methodLink (ev_cn 12) 375 YX12_qPuts.1 ∈ lw_tbl := ev_t8 (List.mem_of_getElem? (i := 8) rfl)
set_option maxRecDepth 100000 in
theorem lk_12_379 : Cond.methodLink (ev_cn 12) 379 YX12_qPartOf.1 ∈ lw_tbl := ev_t8 (List.mem_of_getElem? (i := 12) rfl)
set_option maxRecDepth 100000 in
theorem lk_12_383 : Cond.methodLink (ev_cn 12) 383 YX12_qJoins.1 ∈ lw_tbl := ev_t8 (List.mem_of_getElem? (i := 29) rfl)
set_option maxRecDepth 100000 in
theorem lk_12_388 : Cond.methodLink (ev_cn 12) 388 YX12_isYes.1 ∈ lw_tbl := ev_t8 (List.mem_of_getElem? (i := 0) rfl)
set_option maxRecDepth 100000 in
theorem lk_12_391 : Cond.methodLink (ev_cn 12) 391 YX12_codesTell.1 ∈ lw_tbl := ev_t8 (List.mem_of_getElem? (i := 4) rfl)
set_option maxRecDepth 100000 in
theorem lk_12_394 : Cond.methodLink (ev_cn 12) 394 YX12_cut.1 ∈ lw_tbl := ev_t8 (List.mem_of_getElem? (i := 41) rfl)
set_option maxRecDepth 100000 in
theorem lk_12_397 : Cond.methodLink (ev_cn 12) 397 YX12_moodOf.1 ∈ lw_tbl := ev_t8 (List.mem_of_getElem? (i := 16) rfl)
set_option maxRecDepth 100000 in
theorem lk_12_401 : Cond.methodLink (ev_cn 12) 401 YX12_cheerOf.1 ∈ lw_tbl := ev_t8 (List.mem_of_getElem? (i := 20) rfl)
set_option maxRecDepth 100000 in
theorem lk_12_410 : Cond.methodLink (ev_cn 12) 410 YX12_isDoubt.1 ∈ lw_tbl := ev_t8 (List.mem_of_getElem? (i := 53) rfl)
set_option maxRecDepth 100000 in
theorem lk_12_413 : Cond.methodLink (ev_cn 12) 413 YX12_rowAt.1 ∈ lw_tbl := ev_t8 (List.mem_of_getElem? (i := 61) rfl)
set_option maxRecDepth 100000 in
theorem lk_12_422 : Cond.methodLink (ev_cn 12) 422 YX12_saidBy.1 ∈ lw_tbl := ev_t7 (List.mem_of_getElem? (i := 236) rfl)
set_option maxRecDepth 100000 in
theorem lk_12_428 : Cond.methodLink (ev_cn 12) 428 YX12_feltBy.1 ∈ lw_tbl := ev_t8 (List.mem_of_getElem? (i := 45) rfl)
set_option maxRecDepth 100000 in
theorem lk_12_434 : Cond.methodLink (ev_cn 12) 434 YX12_doubtsNow.1 ∈ lw_tbl := ev_t8 (List.mem_of_getElem? (i := 49) rfl)
set_option maxRecDepth 100000 in
theorem lk_12_437 : Cond.methodLink (ev_cn 12) 437 YX12_rowOf.1 ∈ lw_tbl := ev_t8 (List.mem_of_getElem? (i := 57) rfl)
set_option maxRecDepth 100000 in
theorem lk_12_443 : Cond.methodLink (ev_cn 12) 443 YX12_isKept.1 ∈ lw_tbl := ev_t8 (List.mem_of_getElem? (i := 65) rfl)
set_option maxRecDepth 100000 in
theorem lk_12_446 : Cond.methodLink (ev_cn 12) 446 YX12_roundGoes.1 ∈ lw_tbl := ev_t7 (List.mem_of_getElem? (i := 232) rfl)
set_option maxRecDepth 100000 in
theorem lk_12_449 : Cond.methodLink (ev_cn 12) 449 YX12_triesAnew.1 ∈ lw_tbl := ev_t8 (List.mem_of_getElem? (i := 73) rfl)
set_option maxRecDepth 100000 in
theorem lk_12_452 : Cond.methodLink (ev_cn 12) 452 YX12_summed.1 ∈ lw_tbl := ev_t7 (List.mem_of_getElem? (i := 189) rfl)
set_option maxRecDepth 100000 in
theorem lk_12_455 : Cond.methodLink (ev_cn 12) 455 YX12_isTower.1 ∈ lw_tbl := ev_t7 (List.mem_of_getElem? (i := 197) rfl)
set_option maxRecDepth 100000 in
theorem lk_12_464 : Cond.methodLink (ev_cn 12) 464 YX12_isAhead.1 ∈ lw_tbl := ev_t7 (List.mem_of_getElem? (i := 220) rfl)
set_option maxRecDepth 100000 in
theorem lk_12_468 : Cond.methodLink (ev_cn 12) 468 YX12_putsAside.1 ∈ lw_tbl := ev_t7 (List.mem_of_getElem? (i := 224) rfl)
set_option maxRecDepth 100000 in
theorem lk_12_471 : Cond.methodLink (ev_cn 12) 471 YX12_roundsGo.1 ∈ lw_tbl := ev_t7 (List.mem_of_getElem? (i := 228) rfl)
set_option maxRecDepth 100000 in
theorem lk_12_474 : Cond.methodLink (ev_cn 12) 474 YX12_takesBack.1 ∈ lw_tbl := ev_t8 (List.mem_of_getElem? (i := 69) rfl)
set_option maxRecDepth 100000 in
theorem lk_12_477 : Cond.methodLink (ev_cn 12) 477 YX12_doGoTo.1 ∈ lw_tbl := ev_t7 (List.mem_of_getElem? (i := 215) rfl)
set_option maxRecDepth 100000 in
theorem lk_12_480 : Cond.methodLink (ev_cn 12) 480 YX12_isWritten.1 ∈ lw_tbl := ev_t8 (List.mem_of_getElem? (i := 93) rfl)
set_option maxRecDepth 100000 in
theorem lk_12_483 : Cond.methodLink (ev_cn 12) 483 YX12_isAs.1 ∈ lw_tbl := ev_t8 (List.mem_of_getElem? (i := 97) rfl)
set_option maxRecDepth 100000 in
theorem lk_12_487 : Cond.methodLink (ev_cn 12) 487 YX12_bits.1 ∈ lw_tbl := ev_t8 (List.mem_of_getElem? (i := 109) rfl)
set_option maxRecDepth 100000 in
theorem lk_12_490 : Cond.methodLink (ev_cn 12) 490 YX12_isCheered.1 ∈ lw_tbl := ev_t8 (List.mem_of_getElem? (i := 112) rfl)
set_option maxRecDepth 100000 in
theorem lk_12_493 : Cond.methodLink (ev_cn 12) 493 YX12_isSighed.1 ∈ lw_tbl := ev_t8 (List.mem_of_getElem? (i := 116) rfl)
set_option maxRecDepth 100000 in
theorem lk_12_496 : Cond.methodLink (ev_cn 12) 496 YX12_fewest.1 ∈ lw_tbl := ev_t8 (List.mem_of_getElem? (i := 105) rfl)
set_option maxRecDepth 100000 in
theorem lk_12_500 : Cond.methodLink (ev_cn 12) 500 YX12_doubtsIn.1 ∈ lw_tbl := ev_t8 (List.mem_of_getElem? (i := 128) rfl)
set_option maxRecDepth 100000 in
theorem lk_12_503 : Cond.methodLink (ev_cn 12) 503 YX12_changes.1 ∈ lw_tbl := ev_t8 (List.mem_of_getElem? (i := 136) rfl)
set_option maxRecDepth 100000 in
theorem lk_12_506 : Cond.methodLink (ev_cn 12) 506 YX12_ditched.1 ∈ lw_tbl := ev_t8 (List.mem_of_getElem? (i := 144) rfl)
set_option maxRecDepth 100000 in
theorem lk_12_511 : Cond.methodLink (ev_cn 12) 511 YX12_refuses.1 ∈ lw_tbl := ev_t8 (List.mem_of_getElem? (i := 157) rfl)
set_option maxRecDepth 100000 in
theorem lk_12_517 : Cond.methodLink (ev_cn 12) 517 YX12_isAsSeen.1 ∈ lw_tbl := ev_t8 (List.mem_of_getElem? (i := 169) rfl)
set_option maxRecDepth 100000 in
theorem lk_12_520 : Cond.methodLink (ev_cn 12) 520 YX12_laysMoods.1 ∈ lw_tbl := ev_t8 (List.mem_of_getElem? (i := 165) rfl)
set_option maxRecDepth 100000 in
theorem lk_12_523 : Cond.methodLink (ev_cn 12) 523 YX12_mostAlike.1 ∈ lw_tbl := ev_t8 (List.mem_of_getElem? (i := 177) rfl)
set_option maxRecDepth 100000 in
theorem lk_12_529 : Cond.methodLink (ev_cn 12) 529 YX12_isRefused.1 ∈ lw_tbl := ev_t8 (List.mem_of_getElem? (i := 189) rfl)
set_option maxRecDepth 100000 in
theorem lk_12_532 : Cond.methodLink (ev_cn 12) 532 YX12_keeps.1 ∈ lw_tbl := ev_t8 (List.mem_of_getElem? (i := 193) rfl)
set_option maxRecDepth 100000 in
theorem lk_12_543 : Cond.methodLink (ev_cn 12) 543 YX12_drawOf.1 ∈ lw_tbl := ev_t8 (List.mem_of_getElem? (i := 217) rfl)
set_option maxRecDepth 100000 in
theorem lk_12_546 : Cond.methodLink (ev_cn 12) 546 YX12_qCode.1 ∈ lw_tbl := ev_t7 (List.mem_of_getElem? (i := 142) rfl)
set_option maxRecDepth 100000 in
theorem lk_12_549 : Cond.methodLink (ev_cn 12) 549 YX12_qIsBracket.1 ∈ lw_tbl := ev_t7 (List.mem_of_getElem? (i := 162) rfl)
set_option maxRecDepth 100000 in
theorem lk_12_552 : Cond.methodLink (ev_cn 12) 552 YX12_qDrops.1 ∈ lw_tbl := ev_t7 (List.mem_of_getElem? (i := 150) rfl)
set_option maxRecDepth 100000 in
theorem lk_12_555 : Cond.methodLink (ev_cn 12) 555 YX12_qWordHere.1 ∈ lw_tbl := ev_t7 (List.mem_of_getElem? (i := 125) rfl)
set_option maxRecDepth 100000 in
theorem lk_12_558 : Cond.methodLink (ev_cn 12) 558 YX12_isAllowed.1 ∈ lw_tbl := ev_t7 (List.mem_of_getElem? (i := 129) rfl)
set_option maxRecDepth 100000 in
theorem lk_12_561 : Cond.methodLink (ev_cn 12) 561 YX12_qWordOf.1 ∈ lw_tbl := ev_t7 (List.mem_of_getElem? (i := 121) rfl)
set_option maxRecDepth 100000 in
theorem lk_12_564 : Cond.methodLink (ev_cn 12) 564 YX12_qOpens.1 ∈ lw_tbl := ev_t7 (List.mem_of_getElem? (i := 134) rfl)
set_option maxRecDepth 100000 in
theorem lk_12_567 : Cond.methodLink (ev_cn 12) 567 YX12_qAsksWord.1 ∈ lw_tbl := ev_t7 (List.mem_of_getElem? (i := 138) rfl)
set_option maxRecDepth 100000 in
theorem lk_12_570 : Cond.methodLink (ev_cn 12) 570 YX12_qEndsPart.1 ∈ lw_tbl := ev_t7 (List.mem_of_getElem? (i := 146) rfl)
set_option maxRecDepth 100000 in
theorem lk_12_573 : Cond.methodLink (ev_cn 12) 573 YX12_qBracket.1 ∈ lw_tbl := ev_t7 (List.mem_of_getElem? (i := 158) rfl)
set_option maxRecDepth 100000 in
theorem lk_12_576 : Cond.methodLink (ev_cn 12) 576 YX12_qDropsToBracket.1 ∈ lw_tbl := ev_t7 (List.mem_of_getElem? (i := 165) rfl)
set_option maxRecDepth 100000 in
theorem lk_12_579 : Cond.methodLink (ev_cn 12) 579 YX12_qIsOn.1 ∈ lw_tbl := ev_t7 (List.mem_of_getElem? (i := 169) rfl)
set_option maxRecDepth 100000 in
theorem lk_12_582 : Cond.methodLink (ev_cn 12) 582 YX12_qPartTold.1 ∈ lw_tbl := ev_t7 (List.mem_of_getElem? (i := 117) rfl)
set_option maxRecDepth 100000 in
theorem lk_12_585 : Cond.methodLink (ev_cn 12) 585 YX12_qGoesOn.1 ∈ lw_tbl := ev_t7 (List.mem_of_getElem? (i := 154) rfl)
set_option maxRecDepth 100000 in
theorem lk_12_588 : Cond.methodLink (ev_cn 12) 588 YX12_qFact.1 ∈ lw_tbl := ev_t8 (List.mem_of_getElem? (i := 238) rfl)
set_option maxRecDepth 100000 in
theorem lk_12_591 : Cond.methodLink (ev_cn 12) 591 YX12_qDropsNots.1 ∈ lw_tbl := ev_t9 (List.mem_of_getElem? (i := 2) rfl)
set_option maxRecDepth 100000 in
theorem lk_12_594 : Cond.methodLink (ev_cn 12) 594 YX12_qGoesOnTest.1 ∈ lw_tbl := ev_t9 (List.mem_of_getElem? (i := 6) rfl)
set_option maxRecDepth 100000 in
theorem lk_12_597 : Cond.methodLink (ev_cn 12) 597 YX12_qHasSquare.1 ∈ lw_tbl := ev_t9 (List.mem_of_getElem? (i := 10) rfl)
set_option maxRecDepth 100000 in
theorem lk_12_604 : Cond.methodLink (ev_cn 12) 604 YX12_qClip.1 ∈ lw_tbl := ev_t8 (List.mem_of_getElem? (i := 33) rfl)
set_option maxRecDepth 100000 in
theorem lk_12_608 : Cond.methodLink (ev_cn 12) 608 YX12_qFloor.1 ∈ lw_tbl := ev_t8 (List.mem_of_getElem? (i := 38) rfl)
set_option maxRecDepth 100000 in
theorem lk_12_612 : Cond.methodLink (ev_cn 12) 612 YX12_toneIn.1 ∈ lw_tbl := ev_t8 (List.mem_of_getElem? (i := 24) rfl)
set_option maxRecDepth 100000 in
theorem lk_12_619 : Cond.methodLink (ev_cn 12) 619 YX12_qOf.1 ∈ lw_tbl := ev_t9 (List.mem_of_getElem? (i := 22) rfl)
set_option maxRecDepth 100000 in
theorem lk_12_631 : Cond.methodLink (ev_cn 12) 631 YX12_qKind.1 ∈ lw_tbl := ev_t8 (List.mem_of_getElem? (i := 230) rfl)
set_option maxRecDepth 100000 in
theorem lk_12_634 : Cond.methodLink (ev_cn 12) 634 YX12_qTest.1 ∈ lw_tbl := ev_t8 (List.mem_of_getElem? (i := 234) rfl)
set_option maxRecDepth 100000 in
theorem lk_12_637 : Cond.methodLink (ev_cn 12) 637 YX12_laysTones.1 ∈ lw_tbl := ev_t9 (List.mem_of_getElem? (i := 14) rfl)
set_option maxRecDepth 100000 in
theorem lk_12_640 : Cond.methodLink (ev_cn 12) 640 YX12_qTold.1 ∈ lw_tbl := ev_t9 (List.mem_of_getElem? (i := 18) rfl)
set_option maxRecDepth 100000 in
theorem lk_12_644 : Cond.methodLink (ev_cn 12) 644 YX12_qTakes.1 ∈ lw_tbl := ev_t9 (List.mem_of_getElem? (i := 27) rfl)
set_option maxRecDepth 100000 in
theorem lk_12_651 : Cond.methodLink (ev_cn 12) 651 YX12_writes.1 ∈ lw_tbl := ev_t9 (List.mem_of_getElem? (i := 35) rfl)
set_option maxRecDepth 100000 in
theorem lk_12_654 : Cond.methodLink (ev_cn 12) 654 YX12_checked.1 ∈ lw_tbl := ev_t9 (List.mem_of_getElem? (i := 39) rfl)
set_option maxRecDepth 100000 in
theorem lk_12_658 : Cond.methodLink (ev_cn 12) 658 YX12_isImage.1 ∈ lw_tbl := ev_t9 (List.mem_of_getElem? (i := 50) rfl)
