/-! field links: own class, index, class, field, place among the words -/
def ev_fl0 : List (Nat × Nat × Nat × Nat × Nat) := [(2, 9, 2, 0, 181), (5, 31, 2, 0, 182), (2, 15, 2, 1, 183), (7, 45, 2, 1, 184), (1, 102, 2, 1, 185), (1, 9, 1, 0, 192), (11, 185, 1, 0, 193), (1, 15, 1, 1, 194), (8, 37, 1, 1, 195), (1, 18, 1, 2, 196), (8, 38, 1, 2, 197), (1, 24, 1, 3, 198), (3, 66, 1, 3, 199), (1, 28, 1, 4, 200), (11, 144, 1, 4, 201), (1, 32, 1, 5, 202), (3, 30, 1, 5, 203), (11, 147, 1, 5, 204), (1, 35, 1, 6, 205), (8, 36, 1, 6, 206), (1, 38, 1, 7, 207), (8, 31, 1, 7, 208), (1, 41, 1, 8, 209), (3, 39, 1, 8, 210), (1, 44, 1, 9, 211), (3, 104, 1, 9, 212), (11, 323, 1, 9, 213), (1, 47, 1, 10, 214), (11, 333, 1, 10, 215), (1, 50, 1, 11, 216)]
def ev_fl1 : List (Nat × Nat × Nat × Nat × Nat) := [(3, 70, 1, 11, 217), (1, 53, 1, 12, 218), (3, 73, 1, 12, 219), (1, 56, 1, 13, 220), (3, 84, 1, 13, 221), (1, 59, 1, 14, 222), (3, 87, 1, 14, 223), (10, 9, 10, 0, 261), (4, 53, 10, 0, 262), (11, 347, 10, 0, 263), (10, 15, 10, 1, 264), (4, 48, 10, 1, 265), (11, 122, 10, 1, 266), (10, 19, 10, 2, 267), (1, 92, 10, 2, 268), (7, 71, 10, 2, 269), (9, 29, 10, 2, 270), (10, 22, 10, 3, 271), (11, 321, 10, 3, 272), (10, 25, 10, 4, 273), (11, 322, 10, 4, 274), (10, 28, 10, 5, 275), (10, 31, 10, 6, 276), (10, 34, 10, 7, 277), (9, 25, 9, 0, 301), (9, 9, 9, 1, 302), (9, 15, 9, 2, 303), (9, 19, 9, 3, 304), (9, 22, 9, 4, 305), (7, 173, 9, 4, 306)]
def ev_fl2 : List (Nat × Nat × Nat × Nat × Nat) := [(5, 9, 5, 0, 330), (3, 51, 5, 0, 331), (7, 155, 5, 0, 332), (5, 15, 5, 1, 333), (7, 167, 5, 1, 334), (5, 18, 5, 2, 335), (7, 152, 5, 2, 336), (5, 22, 5, 3, 337), (3, 12, 3, 0, 347), (7, 129, 3, 0, 348), (3, 18, 3, 1, 349), (4, 100, 3, 1, 350), (11, 203, 3, 1, 351), (7, 185, 3, 1, 352), (3, 26, 3, 2, 353), (11, 132, 3, 2, 354), (3, 22, 3, 3, 355), (8, 9, 8, 0, 379), (3, 57, 8, 0, 380), (4, 84, 8, 0, 381), (11, 188, 8, 0, 382), (7, 158, 8, 0, 383), (8, 15, 8, 1, 384), (3, 60, 8, 1, 385), (0, 52, 8, 1, 386), (11, 191, 8, 1, 387), (7, 161, 8, 1, 388), (8, 18, 8, 2, 389), (3, 48, 8, 2, 390), (4, 77, 8, 2, 391)]
def ev_fl3 : List (Nat × Nat × Nat × Nat × Nat) := [(11, 150, 8, 2, 392), (7, 164, 8, 2, 393), (8, 22, 8, 3, 394), (3, 54, 8, 3, 395), (11, 157, 8, 3, 396), (8, 25, 8, 4, 397), (3, 63, 8, 4, 398), (0, 71, 8, 4, 399), (11, 160, 8, 4, 400), (7, 170, 8, 4, 401), (8, 28, 8, 5, 402), (11, 173, 8, 5, 403), (7, 33, 7, 0, 417), (7, 37, 7, 1, 418), (7, 41, 7, 2, 419), (7, 12, 7, 3, 420), (7, 21, 7, 4, 421), (7, 25, 7, 5, 422), (7, 29, 7, 6, 423), (0, 28, 0, 0, 447), (0, 12, 0, 1, 448), (0, 18, 0, 2, 449), (11, 244, 0, 2, 450), (0, 22, 0, 3, 451), (11, 253, 0, 3, 452), (0, 25, 0, 4, 453), (11, 247, 0, 4, 454), (4, 44, 4, 0, 474), (4, 12, 4, 1, 475), (4, 18, 4, 2, 476)]
def ev_fl4 : List (Nat × Nat × Nat × Nat × Nat) := [(4, 22, 4, 3, 477), (4, 25, 4, 4, 478), (4, 28, 4, 5, 479), (4, 32, 4, 6, 480), (11, 141, 4, 6, 481), (4, 35, 4, 7, 482), (11, 276, 4, 7, 483), (4, 38, 4, 8, 484), (11, 279, 4, 8, 485), (4, 41, 4, 9, 486), (11, 273, 4, 9, 487), (6, 11, 6, 0, 518), (6, 17, 6, 1, 519), (6, 21, 6, 2, 520), (6, 25, 6, 3, 521), (11, 138, 6, 3, 522), (11, 10, 11, 0, 534), (11, 16, 11, 1, 535), (11, 22, 11, 2, 536), (11, 31, 11, 3, 537), (11, 40, 11, 4, 538), (11, 49, 11, 5, 539), (11, 58, 11, 6, 540), (11, 65, 11, 7, 541), (11, 72, 11, 8, 542), (11, 79, 11, 9, 543), (11, 83, 11, 10, 544), (11, 86, 11, 11, 545), (11, 90, 11, 12, 546), (11, 93, 11, 13, 547)]
def ev_fl5 : List (Nat × Nat × Nat × Nat × Nat) := [(11, 97, 11, 14, 548), (11, 101, 11, 15, 549), (11, 104, 11, 16, 550), (11, 107, 11, 17, 551), (12, 7, 12, 0, 1292), (12, 225, 12, 1, 1293), (12, 234, 12, 2, 1294), (12, 237, 12, 3, 1295), (12, 248, 12, 4, 1296), (12, 228, 12, 5, 1297), (12, 231, 12, 6, 1298), (12, 350, 12, 7, 1299), (12, 13, 12, 8, 1300), (12, 17, 12, 9, 1301), (12, 20, 12, 10, 1302), (12, 24, 12, 11, 1303), (12, 27, 12, 12, 1304), (12, 30, 12, 13, 1305), (12, 33, 12, 14, 1306), (12, 36, 12, 15, 1307), (12, 39, 12, 16, 1308), (12, 42, 12, 17, 1309), (12, 45, 12, 18, 1310), (12, 48, 12, 19, 1311), (12, 51, 12, 20, 1312), (12, 54, 12, 21, 1313), (12, 57, 12, 22, 1314), (12, 60, 12, 23, 1315), (12, 63, 12, 24, 1316), (12, 66, 12, 25, 1317)]
def ev_fl6 : List (Nat × Nat × Nat × Nat × Nat) := [(12, 69, 12, 26, 1318), (12, 72, 12, 27, 1319), (12, 75, 12, 28, 1320), (12, 78, 12, 29, 1321), (12, 81, 12, 30, 1322), (12, 84, 12, 31, 1323), (12, 87, 12, 32, 1324), (12, 276, 12, 33, 1325), (12, 299, 12, 34, 1326), (12, 288, 12, 35, 1327), (12, 360, 12, 36, 1328), (12, 90, 12, 37, 1329), (12, 94, 12, 38, 1330), (12, 97, 12, 39, 1331), (12, 100, 12, 40, 1332), (12, 103, 12, 41, 1333), (12, 106, 12, 42, 1334), (12, 329, 12, 43, 1335), (12, 332, 12, 44, 1336), (12, 356, 12, 45, 1337), (12, 283, 12, 46, 1338), (12, 109, 12, 47, 1339), (12, 112, 12, 48, 1340), (12, 404, 12, 49, 1341), (12, 407, 12, 50, 1342), (12, 425, 12, 51, 1343), (12, 115, 12, 52, 1344), (12, 419, 12, 53, 1345), (12, 416, 12, 54, 1346), (12, 440, 12, 55, 1347)]
def ev_fl7 : List (Nat × Nat × Nat × Nat × Nat) := [(12, 431, 12, 56, 1348), (12, 118, 12, 57, 1349), (12, 366, 12, 58, 1350), (12, 121, 12, 59, 1351), (12, 124, 12, 60, 1352), (12, 127, 12, 61, 1353), (12, 514, 12, 62, 1354), (12, 131, 12, 63, 1355), (12, 363, 12, 64, 1356), (12, 526, 12, 65, 1357), (12, 134, 12, 66, 1358), (12, 138, 12, 67, 1359), (12, 141, 12, 68, 1360), (12, 144, 12, 69, 1361), (12, 147, 12, 70, 1362), (12, 150, 12, 71, 1363), (12, 153, 12, 72, 1364), (12, 156, 12, 73, 1365), (12, 159, 12, 74, 1366), (12, 162, 12, 75, 1367), (12, 165, 12, 76, 1368), (12, 168, 12, 77, 1369), (12, 171, 12, 78, 1370), (12, 174, 12, 79, 1371), (12, 177, 12, 80, 1372), (12, 180, 12, 81, 1373), (12, 183, 12, 82, 1374), (12, 186, 12, 83, 1375), (12, 189, 12, 84, 1376), (12, 192, 12, 85, 1377)]
def ev_fl8 : List (Nat × Nat × Nat × Nat × Nat) := [(12, 195, 12, 86, 1378), (12, 198, 12, 87, 1379), (12, 201, 12, 88, 1380), (12, 204, 12, 89, 1381), (12, 207, 12, 90, 1382), (12, 210, 12, 91, 1383), (12, 213, 12, 92, 1384), (12, 314, 12, 93, 1385), (12, 216, 12, 94, 1386), (12, 317, 12, 95, 1387), (12, 320, 12, 96, 1388), (12, 323, 12, 97, 1389), (12, 219, 12, 98, 1390), (12, 372, 12, 99, 1391), (12, 623, 12, 100, 1392), (12, 626, 12, 101, 1393), (12, 222, 12, 102, 1394), (12, 648, 12, 103, 1395)]
def ev_fl : List (Nat × Nat × Nat × Nat × Nat) := ev_fl0 ++ ev_fl1 ++ ev_fl2 ++ ev_fl3 ++ ev_fl4 ++ ev_fl5 ++ ev_fl6 ++ ev_fl7 ++ ev_fl8
def ev_flw (e : Nat × Nat × Nat × Nat × Nat) : Bool := match vwCl[e.2.2.1]? with
  | none => false
  | some q => decide (lw_tbl[e.2.2.2.2]? = some (.fieldLink (ev_cn e.1) e.2.1 q.1 (q.2.1 e.2.2.2.1).2.1 (q.2.1 e.2.2.2.1).2.2.1)) && decide (e.2.2.2.1 < q.2.2) && decide ((q.2.1 e.2.2.2.1).1 = q.1)
set_option maxRecDepth 100000 in
theorem ev_fl0_ok : ev_fl0.all ev_flw = true := by decide +kernel
set_option maxRecDepth 100000 in
theorem ev_fl1_ok : ev_fl1.all ev_flw = true := by decide +kernel
set_option maxRecDepth 100000 in
theorem ev_fl2_ok : ev_fl2.all ev_flw = true := by decide +kernel
set_option maxRecDepth 100000 in
theorem ev_fl3_ok : ev_fl3.all ev_flw = true := by decide +kernel
set_option maxRecDepth 100000 in
theorem ev_fl4_ok : ev_fl4.all ev_flw = true := by decide +kernel
set_option maxRecDepth 100000 in
theorem ev_fl5_ok : ev_fl5.all ev_flw = true := by decide +kernel
set_option maxRecDepth 100000 in
theorem ev_fl6_ok : ev_fl6.all ev_flw = true := by decide +kernel
set_option maxRecDepth 100000 in
theorem ev_fl7_ok : ev_fl7.all ev_flw = true := by decide +kernel
set_option maxRecDepth 100000 in
theorem ev_fl8_ok : ev_fl8.all ev_flw = true := by decide +kernel
theorem ev_fl_ok : ev_fl.all ev_flw = true := by
  simp only [ev_fl, List.all_append, Bool.and_eq_true]
  exact ⟨⟨⟨⟨⟨⟨⟨⟨ev_fl0_ok, ev_fl1_ok⟩, ev_fl2_ok⟩, ev_fl3_ok⟩, ev_fl4_ok⟩, ev_fl5_ok⟩, ev_fl6_ok⟩, ev_fl7_ok⟩, ev_fl8_ok⟩
def ev_lk (own idx : Nat) : Option (Nat × Nat) := (ev_fl.find? (fun e => e.1 == own && e.2.1 == idx)).map (fun e => (e.2.2.1, e.2.2.2.1))
theorem ev_lk_ok {own idx ci k : Nat} (h : ev_lk own idx = some (ci, k)) : ∃ q : vw_C, vwCl[ci]? = some q ∧ k < q.2.2 ∧ Cond.fieldLink (ev_cn own) idx q.1 (q.2.1 k).2.1 (q.2.1 k).2.2.1 ∈ lw_tbl ∧ (q.2.1 k).1 = q.1 := by
  unfold ev_lk at h
  cases hf : ev_fl.find? (fun e => e.1 == own && e.2.1 == idx) with
  | none => rw [hf] at h; cases h
  | some e =>
    rw [hf] at h
    have h1 := List.find?_some hf
    have h2 := List.all_eq_true.mp ev_fl_ok e (List.mem_of_find?_eq_some hf)
    simp only [Bool.and_eq_true, beq_iff_eq] at h1
    obtain ⟨o, i, c, f, w⟩ := e
    dsimp only at h1
    obtain ⟨rfl, rfl⟩ := h1
    simp only [Option.map_some, Option.some.injEq, Prod.mk.injEq] at h
    obtain ⟨rfl, rfl⟩ := h
    unfold ev_flw at h2
    dsimp only at h2
    split at h2
    · cases h2
    · rename_i q hq
      simp only [Bool.and_eq_true, decide_eq_true_eq] at h2
      exact ⟨q, hq, h2.1.2, List.mem_of_getElem? h2.1.1, h2.2⟩
set_option maxRecDepth 100000 in
theorem ev_in0 : (u_ws RX0 TX0 5).all (fun w => decide (w ∈ lw_tbl)) = true := by decide +kernel
set_option maxRecDepth 100000 in
theorem ev_in1 : (u_ws RX1 TX1 15).all (fun w => decide (w ∈ lw_tbl)) = true := by decide +kernel
set_option maxRecDepth 100000 in
theorem ev_in2 : (u_ws RX2 TX2 2).all (fun w => decide (w ∈ lw_tbl)) = true := by decide +kernel
set_option maxRecDepth 100000 in
theorem ev_in3 : (u_ws RX3 TX3 4).all (fun w => decide (w ∈ lw_tbl)) = true := by decide +kernel
set_option maxRecDepth 100000 in
theorem ev_in4 : (u_ws RX4 TX4 10).all (fun w => decide (w ∈ lw_tbl)) = true := by decide +kernel
set_option maxRecDepth 100000 in
theorem ev_in5 : (u_ws RX5 TX5 4).all (fun w => decide (w ∈ lw_tbl)) = true := by decide +kernel
set_option maxRecDepth 100000 in
theorem ev_in6 : (u_ws RX6 TX6 4).all (fun w => decide (w ∈ lw_tbl)) = true := by decide +kernel
set_option maxRecDepth 100000 in
theorem ev_in7 : (u_ws RX7 TX7 7).all (fun w => decide (w ∈ lw_tbl)) = true := by decide +kernel
set_option maxRecDepth 100000 in
theorem ev_in8 : (u_ws RX8 TX8 6).all (fun w => decide (w ∈ lw_tbl)) = true := by decide +kernel
set_option maxRecDepth 100000 in
theorem ev_in9 : (u_ws RX9 TX9 5).all (fun w => decide (w ∈ lw_tbl)) = true := by decide +kernel
set_option maxRecDepth 100000 in
theorem ev_in10 : (u_ws RX10 TX10 8).all (fun w => decide (w ∈ lw_tbl)) = true := by decide +kernel
set_option maxRecDepth 100000 in
theorem ev_in11 : (u_ws RX11 TX11 18).all (fun w => decide (w ∈ lw_tbl)) = true := by decide +kernel
set_option maxRecDepth 100000 in
theorem ev_in12 : (u_ws RX12 TX12 104).all (fun w => decide (w ∈ lw_tbl)) = true := by decide +kernel
theorem ev_cls_in (c : Nat) (q : vw_C) (h : vwCl[c]? = some q) : (∀ w ∈ u_ws q.1 q.2.1 q.2.2, w ∈ lw_tbl) ∧ (∀ k, k < q.2.2 → parseFieldDescriptor (q.2.1 k).2.2.1 = some (ev_tys c k)) ∧ (∀ a, a < q.2.2 → ∀ b, b < q.2.2 → a ≠ b → (q.2.1 a).2.1 ≠ (q.2.1 b).2.1) ∧ c < 13 := by
  match c, h with
  | 0, h => cases h; exact ⟨fun w hw => of_decide_eq_true (List.all_eq_true.mp ev_in0 w hw), tyX0_ok, nmX0, by decide⟩
  | 1, h => cases h; exact ⟨fun w hw => of_decide_eq_true (List.all_eq_true.mp ev_in1 w hw), tyX1_ok, nmX1, by decide⟩
  | 2, h => cases h; exact ⟨fun w hw => of_decide_eq_true (List.all_eq_true.mp ev_in2 w hw), tyX2_ok, nmX2, by decide⟩
  | 3, h => cases h; exact ⟨fun w hw => of_decide_eq_true (List.all_eq_true.mp ev_in3 w hw), tyX3_ok, nmX3, by decide⟩
  | 4, h => cases h; exact ⟨fun w hw => of_decide_eq_true (List.all_eq_true.mp ev_in4 w hw), tyX4_ok, nmX4, by decide⟩
  | 5, h => cases h; exact ⟨fun w hw => of_decide_eq_true (List.all_eq_true.mp ev_in5 w hw), tyX5_ok, nmX5, by decide⟩
  | 6, h => cases h; exact ⟨fun w hw => of_decide_eq_true (List.all_eq_true.mp ev_in6 w hw), tyX6_ok, nmX6, by decide⟩
  | 7, h => cases h; exact ⟨fun w hw => of_decide_eq_true (List.all_eq_true.mp ev_in7 w hw), tyX7_ok, nmX7, by decide⟩
  | 8, h => cases h; exact ⟨fun w hw => of_decide_eq_true (List.all_eq_true.mp ev_in8 w hw), tyX8_ok, nmX8, by decide⟩
  | 9, h => cases h; exact ⟨fun w hw => of_decide_eq_true (List.all_eq_true.mp ev_in9 w hw), tyX9_ok, nmX9, by decide⟩
  | 10, h => cases h; exact ⟨fun w hw => of_decide_eq_true (List.all_eq_true.mp ev_in10 w hw), tyX10_ok, nmX10, by decide⟩
  | 11, h => cases h; exact ⟨fun w hw => of_decide_eq_true (List.all_eq_true.mp ev_in11 w hw), tyX11_ok, nmX11, by decide⟩
  | 12, h => cases h; exact ⟨fun w hw => of_decide_eq_true (List.all_eq_true.mp ev_in12 w hw), tyX12_ok, nmX12, by decide⟩
  | c + 13, h => simp [vwCl] at h
theorem ev_u_ok {C : String} {T : u_T} {N : Nat} {w : Cond} (h : w ∈ u_ws C T N) : ev_ok w = true := by
  unfold u_ws at h
  obtain ⟨k, -, rfl⟩ := List.mem_map.mp h
  unfold u_lay
  split <;> rfl
