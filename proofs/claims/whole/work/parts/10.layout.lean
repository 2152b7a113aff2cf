/-! the heap behind the two constructors: class or kind of array, size; the references -/
def lay_sh : List (Nat × Nat) := [(11, 18), (1, 15), (100, 48), (100, 8), (100, 8), (2, 2), (100, 1608), (1, 15), (100, 48), (100, 8), (100, 8), (2, 2), (100, 1608), (10, 8), (100, 1600), (9, 5), (3, 4), (5, 4), (100, 29), (100, 248), (100, 64), (100, 8), (7, 7), (2, 2), (100, 1608), (8, 6), (100, 8), (100, 8), (100, 8), (0, 5), (8, 6), (100, 8), (100, 8), (4, 10), (8, 6), (100, 8), (100, 8), (100, 48), (100, 2480), (100, 10), (6, 4), (104, 20), (100, 3000), (8, 6), (100, 8), (100, 8), (8, 6), (100, 8), (100, 8), (8, 6), (100, 8), (100, 8), (8, 6), (100, 8), (100, 8), (8, 6), (100, 8), (100, 8), (8, 6), (100, 8), (100, 8), (8, 6), (100, 8), (100, 8), (8, 6), (100, 8), (100, 8), (8, 6), (100, 8), (100, 8), (8, 6), (100, 8), (100, 8), (8, 6), (100, 8), (100, 8), (8, 6), (100, 8), (100, 8), (8, 6), (100, 8), (100, 8), (8, 6), (100, 8), (100, 8), (8, 6), (100, 8), (100, 8), (8, 6), (100, 8), (100, 8), (8, 6), (100, 8), (100, 8), (8, 6), (100, 8), (100, 8), (8, 6), (100, 8), (100, 8), (8, 6), (100, 8), (100, 8), (8, 6), (100, 8), (100, 8), (8, 6), (100, 8), (100, 8), (100, 6), (100, 28), (102, 61), (12, 104), (100, 1600), (100, 6), (101, 4), (101, 5), (101, 4), (101, 5), (101, 3), (101, 4), (101, 5), (101, 4), (101, 5), (101, 4), (101, 5), (101, 5), (101, 5), (101, 4), (101, 4), (101, 6), (101, 4), (101, 2), (101, 3), (101, 3), (101, 3), (101, 3), (101, 3), (102, 16), (100, 24), (100, 6), (100, 4), (100, 4), (100, 3200), (100, 147), (100, 26), (100, 8), (100, 549), (100, 48), (100, 2480), (103, 10), (100, 2940), (100, 248), (100, 8), (101, 5), (101, 4), (101, 5), (101, 5), (101, 4), (101, 5), (101, 3), (101, 3), (101, 2), (101, 3), (101, 3), (101, 3), (101, 5), (101, 4), (101, 5), (101, 5), (101, 5), (101, 4), (101, 4), (101, 6), (101, 4), (101, 3), (101, 5), (100, 1700), (100, 1700), (102, 1700), (100, 28)]
def lay_rf : Nat → List (Option Nat)
  | 0 => [none, none, some 13, some 15, some 16, some 22, some 29, some 33, some 40, some 103, some 106, some 109, some 110, some 111]
  | 1 => [some 2, some 3, some 4, some 5]
  | 5 => [some 6]
  | 7 => [some 8, some 9, some 10, some 11]
  | 11 => [some 12]
  | 13 => [some 14]
  | 15 => [some 13]
  | 16 => [some 17, some 21]
  | 17 => [some 18, some 19, none, some 20]
  | 22 => [some 13, some 15, some 16, some 23, some 25, some 28]
  | 23 => [some 24]
  | 25 => [some 26, some 27]
  | 29 => [some 16, some 30]
  | 30 => [some 31, some 32]
  | 33 => [some 16, some 34, some 37, some 38, some 39]
  | 34 => [some 35, some 36]
  | 40 => [some 41, some 42]
  | 41 => [some 43, some 46, some 49, some 52, some 55, some 58, some 61, some 64, some 67, some 70, some 73, some 76, some 79, some 82, some 85, some 88, some 91, some 94, some 97, some 100]
  | 43 => [some 44, some 45]
  | 46 => [some 47, some 48]
  | 49 => [some 50, some 51]
  | 52 => [some 53, some 54]
  | 55 => [some 56, some 57]
  | 58 => [some 59, some 60]
  | 61 => [some 62, some 63]
  | 64 => [some 65, some 66]
  | 67 => [some 68, some 69]
  | 70 => [some 71, some 72]
  | 73 => [some 74, some 75]
  | 76 => [some 77, some 78]
  | 79 => [some 80, some 81]
  | 82 => [some 83, some 84]
  | 85 => [some 86, some 87]
  | 88 => [some 89, some 90]
  | 91 => [some 92, some 93]
  | 94 => [some 95, some 96]
  | 97 => [some 98, some 99]
  | 100 => [some 101, some 102]
  | 103 => [some 104, some 105]
  | 106 => [some 107, some 108]
  | 112 => [some 113, none, none, none, none, none, none, none, none, some 114, some 115, some 116, some 117, some 118, some 119, some 120, some 121, some 122, some 123, some 124, some 125, some 126, some 127, some 128, some 129, some 130, some 131, some 132, some 133, some 134, some 135, some 136, some 137, none, none, none, none, some 138, some 139, some 140, some 141, some 142, some 143, none, none, none, none, some 144, some 145, none, none, none, some 146, none, none, none, none, some 147, none, some 148, some 149, some 150, none, some 151, none, none, none, some 152, some 153, some 154, some 155, some 156, some 157, some 158, some 159, some 160, some 161, some 162, some 163, some 164, some 165, some 166, some 167, some 168, some 169, some 170, some 171, some 172, some 173, some 174, some 175, some 176, some 177, none, some 178, none, none, none, some 179, none, none, none, some 180]
  | _ => []
def Sx : ev_S := (181, fun i => lay_sh.getD i (0, 0), fun i k => (lay_rf i).getD k none)
/-- an object of this kind -/
abbrev isK (t o : Nat) : Prop := o < 181 ∧ (lay_sh.getD o (0, 0)).1 = t
set_option maxRecDepth 100000 in
theorem k8_all0 : ∀ o, o < 181 → (lay_sh.getD o (0, 0)).1 = 8 → o < Sx.1 ∧ Sx.2.1 o = (8, 6) ∧ Sx.2.2 o 0 = some (o + 1) ∧ Sx.2.2 o 1 = some (o + 2) ∧ o + 1 < Sx.1 ∧ Sx.2.1 (o + 1) = (100, 8) ∧ o + 2 < Sx.1 ∧ Sx.2.1 (o + 2) = (100, 8) := by decide +kernel
theorem k8_l0 {o : Nat} (h : isK 8 o) : o < Sx.1 := (k8_all0 o h.1 h.2).1
theorem k8_s0 {o : Nat} (h : isK 8 o) : Sx.2.1 o = (8, 6) := (k8_all0 o h.1 h.2).2.1
theorem k8_r0 {o : Nat} (h : isK 8 o) : Sx.2.2 o 0 = some (o + 1) := (k8_all0 o h.1 h.2).2.2.1
theorem k8_r1 {o : Nat} (h : isK 8 o) : Sx.2.2 o 1 = some (o + 2) := (k8_all0 o h.1 h.2).2.2.2.1
theorem k8_l1 {o : Nat} (h : isK 8 o) : o + 1 < Sx.1 := (k8_all0 o h.1 h.2).2.2.2.2.1
theorem k8_s1 {o : Nat} (h : isK 8 o) : Sx.2.1 (o + 1) = (100, 8) := (k8_all0 o h.1 h.2).2.2.2.2.2.1
theorem k8_l2 {o : Nat} (h : isK 8 o) : o + 2 < Sx.1 := (k8_all0 o h.1 h.2).2.2.2.2.2.2.1
theorem k8_s2 {o : Nat} (h : isK 8 o) : Sx.2.1 (o + 2) = (100, 8) := (k8_all0 o h.1 h.2).2.2.2.2.2.2.2
set_option maxRecDepth 100000 in
theorem k1_all0 : ∀ o, o < 181 → (lay_sh.getD o (0, 0)).1 = 1 → o < Sx.1 ∧ Sx.2.1 o = (1, 15) ∧ Sx.2.2 o 0 = some (o + 1) ∧ Sx.2.2 o 1 = some (o + 2) ∧ Sx.2.2 o 2 = some (o + 3) ∧ Sx.2.2 o 3 = some (o + 4) ∧ o + 1 < Sx.1 ∧ Sx.2.1 (o + 1) = (100, 48) := by decide +kernel
theorem k1_l0 {o : Nat} (h : isK 1 o) : o < Sx.1 := (k1_all0 o h.1 h.2).1
theorem k1_s0 {o : Nat} (h : isK 1 o) : Sx.2.1 o = (1, 15) := (k1_all0 o h.1 h.2).2.1
theorem k1_r0 {o : Nat} (h : isK 1 o) : Sx.2.2 o 0 = some (o + 1) := (k1_all0 o h.1 h.2).2.2.1
theorem k1_r1 {o : Nat} (h : isK 1 o) : Sx.2.2 o 1 = some (o + 2) := (k1_all0 o h.1 h.2).2.2.2.1
theorem k1_r2 {o : Nat} (h : isK 1 o) : Sx.2.2 o 2 = some (o + 3) := (k1_all0 o h.1 h.2).2.2.2.2.1
theorem k1_r3 {o : Nat} (h : isK 1 o) : Sx.2.2 o 3 = some (o + 4) := (k1_all0 o h.1 h.2).2.2.2.2.2.1
theorem k1_l1 {o : Nat} (h : isK 1 o) : o + 1 < Sx.1 := (k1_all0 o h.1 h.2).2.2.2.2.2.2.1
theorem k1_s1 {o : Nat} (h : isK 1 o) : Sx.2.1 (o + 1) = (100, 48) := (k1_all0 o h.1 h.2).2.2.2.2.2.2.2
set_option maxRecDepth 100000 in
theorem k1_all1 : ∀ o, o < 181 → (lay_sh.getD o (0, 0)).1 = 1 → o + 2 < Sx.1 ∧ Sx.2.1 (o + 2) = (100, 8) ∧ o + 3 < Sx.1 ∧ Sx.2.1 (o + 3) = (100, 8) ∧ o + 4 < Sx.1 ∧ Sx.2.1 (o + 4) = (2, 2) ∧ 0 < o ∧ o < 4000 := by decide +kernel
theorem k1_l2 {o : Nat} (h : isK 1 o) : o + 2 < Sx.1 := (k1_all1 o h.1 h.2).1
theorem k1_s2 {o : Nat} (h : isK 1 o) : Sx.2.1 (o + 2) = (100, 8) := (k1_all1 o h.1 h.2).2.1
theorem k1_l3 {o : Nat} (h : isK 1 o) : o + 3 < Sx.1 := (k1_all1 o h.1 h.2).2.2.1
theorem k1_s3 {o : Nat} (h : isK 1 o) : Sx.2.1 (o + 3) = (100, 8) := (k1_all1 o h.1 h.2).2.2.2.1
theorem k1_l4 {o : Nat} (h : isK 1 o) : o + 4 < Sx.1 := (k1_all1 o h.1 h.2).2.2.2.2.1
theorem k1_s4 {o : Nat} (h : isK 1 o) : Sx.2.1 (o + 4) = (2, 2) := (k1_all1 o h.1 h.2).2.2.2.2.2.1
theorem k1_z0 {o : Nat} (h : isK 1 o) : 0 < o := (k1_all1 o h.1 h.2).2.2.2.2.2.2.1
theorem k1_z1 {o : Nat} (h : isK 1 o) : o < 4000 := (k1_all1 o h.1 h.2).2.2.2.2.2.2.2
set_option maxRecDepth 100000 in
theorem k1_all2 : ∀ o, o < 181 → (lay_sh.getD o (0, 0)).1 = 1 → Sx.2.1 (o + 4) = (2, 2) := by decide +kernel
theorem k1_c4 {o : Nat} (h : isK 1 o) : Sx.2.1 (o + 4) = (2, 2) := (k1_all2 o h.1 h.2)
set_option maxRecDepth 100000 in
theorem k2_all0 : ∀ o, o < 181 → (lay_sh.getD o (0, 0)).1 = 2 → o < Sx.1 ∧ Sx.2.1 o = (2, 2) ∧ Sx.2.2 o 0 = some (o + 1) ∧ o + 1 < Sx.1 ∧ Sx.2.1 (o + 1) = (100, 1608) ∧ 0 < o ∧ o < 4000 := by decide +kernel
theorem k2_l0 {o : Nat} (h : isK 2 o) : o < Sx.1 := (k2_all0 o h.1 h.2).1
theorem k2_s0 {o : Nat} (h : isK 2 o) : Sx.2.1 o = (2, 2) := (k2_all0 o h.1 h.2).2.1
theorem k2_r0 {o : Nat} (h : isK 2 o) : Sx.2.2 o 0 = some (o + 1) := (k2_all0 o h.1 h.2).2.2.1
theorem k2_l1 {o : Nat} (h : isK 2 o) : o + 1 < Sx.1 := (k2_all0 o h.1 h.2).2.2.2.1
theorem k2_s1 {o : Nat} (h : isK 2 o) : Sx.2.1 (o + 1) = (100, 1608) := (k2_all0 o h.1 h.2).2.2.2.2.1
theorem k2_z0 {o : Nat} (h : isK 2 o) : 0 < o := (k2_all0 o h.1 h.2).2.2.2.2.2.1
theorem k2_z1 {o : Nat} (h : isK 2 o) : o < 4000 := (k2_all0 o h.1 h.2).2.2.2.2.2.2
set_option maxRecDepth 100000 in
theorem k101_all0 : ∀ o, o < 181 → (lay_sh.getD o (0, 0)).1 = 101 → o < Sx.1 ∧ Sx.2.1 o = (101, (Sx.2.1 o).2) := by decide +kernel
theorem k101_l0 {o : Nat} (h : isK 101 o) : o < Sx.1 := (k101_all0 o h.1 h.2).1
theorem k101_s0 {o : Nat} (h : isK 101 o) : Sx.2.1 o = (101, (Sx.2.1 o).2) := (k101_all0 o h.1 h.2).2
set_option maxRecDepth 100000 in
theorem k100_all0 : ∀ o, o < 181 → (lay_sh.getD o (0, 0)).1 = 100 → o < Sx.1 ∧ Sx.2.1 o = (100, (Sx.2.1 o).2) := by decide +kernel
theorem k100_l0 {o : Nat} (h : isK 100 o) : o < Sx.1 := (k100_all0 o h.1 h.2).1
theorem k100_s0 {o : Nat} (h : isK 100 o) : Sx.2.1 o = (100, (Sx.2.1 o).2) := (k100_all0 o h.1 h.2).2
theorem k6_at : ∀ i, i < 20 → Sx.2.2 41 i = some (43 + 3 * i) ∧ isK 8 (43 + 3 * i) := by decide +kernel
theorem ev_clamp_ne {v : Int32} {n : Nat} (h : v.toNatClampNeg = n) (h0 : 0 < n) : v.toNatClampNeg ≠ 0 := by omega
/-- a call's answer handed on -/
def ev_bd {α β : Type} (oc : Option (α × ev_M)) (kf : α → ev_M → Option (β × ev_M)) : Option (β × ev_M) := match oc with
  | none => none
  | some q => kf q.1 q.2
theorem ev_bd_bind {α β : Type} (oc : Option (α × ev_M)) (kf : α → ev_M → Option (β × ev_M)) : ev_bd oc kf = oc.bind (fun q => kf q.1 q.2) := by cases oc <;> rfl
/-! the methods and their words -/
theorem ev_t1 {w : Cond} (h : w ∈ tables_1_1) : w ∈ lw_tbl := List.mem_append_right _ (show w ∈ tables_1 from List.mem_append_left _ h)
theorem ev_t2 {w : Cond} (h : w ∈ tables_1_2) : w ∈ lw_tbl := List.mem_append_right _ (show w ∈ tables_1 from List.mem_append_right _ (List.mem_append_left _ h))
theorem ev_t3 {w : Cond} (h : w ∈ tables_1_3) : w ∈ lw_tbl := List.mem_append_right _ (show w ∈ tables_1 from List.mem_append_right _ (List.mem_append_right _ (List.mem_append_left _ h)))
theorem ev_t4 {w : Cond} (h : w ∈ tables_1_4) : w ∈ lw_tbl := List.mem_append_right _ (show w ∈ tables_1 from List.mem_append_right _ (List.mem_append_right _ (List.mem_append_right _ (List.mem_append_left _ h))))
theorem ev_t5 {w : Cond} (h : w ∈ tables_1_5) : w ∈ lw_tbl := List.mem_append_right _ (show w ∈ tables_1 from List.mem_append_right _ (List.mem_append_right _ (List.mem_append_right _ (List.mem_append_right _ (List.mem_append_left _ h)))))
theorem ev_t6 {w : Cond} (h : w ∈ tables_1_6) : w ∈ lw_tbl := List.mem_append_right _ (show w ∈ tables_1 from List.mem_append_right _ (List.mem_append_right _ (List.mem_append_right _ (List.mem_append_right _ (List.mem_append_right _ (List.mem_append_left _ h))))))
theorem ev_t7 {w : Cond} (h : w ∈ tables_1_7) : w ∈ lw_tbl := List.mem_append_right _ (show w ∈ tables_1 from List.mem_append_right _ (List.mem_append_right _ (List.mem_append_right _ (List.mem_append_right _ (List.mem_append_right _ (List.mem_append_right _ (List.mem_append_left _ h)))))))
theorem ev_t8 {w : Cond} (h : w ∈ tables_1_8) : w ∈ lw_tbl := List.mem_append_right _ (show w ∈ tables_1 from List.mem_append_right _ (List.mem_append_right _ (List.mem_append_right _ (List.mem_append_right _ (List.mem_append_right _ (List.mem_append_right _ (List.mem_append_right _ (List.mem_append_left _ h))))))))
theorem ev_t9 {w : Cond} (h : w ∈ tables_1_9) : w ∈ lw_tbl := List.mem_append_right _ (show w ∈ tables_1 from List.mem_append_right _ (List.mem_append_right _ (List.mem_append_right _ (List.mem_append_right _ (List.mem_append_right _ (List.mem_append_right _ (List.mem_append_right _ (List.mem_append_right _ h))))))))
theorem ev_p1 {q : MethodName × Nat} (h : q ∈ lw_privs_1) : Cond.selects q.1.cls q.1 q.1 ∈ lw_tbl := List.mem_append_left _ (List.mem_map.mpr ⟨q, (show q ∈ lw_privs from List.mem_append_left _ h), rfl⟩)
theorem ev_p2 {q : MethodName × Nat} (h : q ∈ lw_privs_2) : Cond.selects q.1.cls q.1 q.1 ∈ lw_tbl := List.mem_append_left _ (List.mem_map.mpr ⟨q, (show q ∈ lw_privs from List.mem_append_right _ (List.mem_append_left _ h)), rfl⟩)
theorem ev_p3 {q : MethodName × Nat} (h : q ∈ lw_privs_3) : Cond.selects q.1.cls q.1 q.1 ∈ lw_tbl := List.mem_append_left _ (List.mem_map.mpr ⟨q, (show q ∈ lw_privs from List.mem_append_right _ (List.mem_append_right _ (List.mem_append_left _ h))), rfl⟩)
theorem ev_p4 {q : MethodName × Nat} (h : q ∈ lw_privs_4) : Cond.selects q.1.cls q.1 q.1 ∈ lw_tbl := List.mem_append_left _ (List.mem_map.mpr ⟨q, (show q ∈ lw_privs from List.mem_append_right _ (List.mem_append_right _ (List.mem_append_right _ (List.mem_append_left _ h)))), rfl⟩)
theorem ev_p5 {q : MethodName × Nat} (h : q ∈ lw_privs_5) : Cond.selects q.1.cls q.1 q.1 ∈ lw_tbl := List.mem_append_left _ (List.mem_map.mpr ⟨q, (show q ∈ lw_privs from List.mem_append_right _ (List.mem_append_right _ (List.mem_append_right _ (List.mem_append_right _ (List.mem_append_left _ h))))), rfl⟩)
theorem ev_p6 {q : MethodName × Nat} (h : q ∈ lw_privs_6) : Cond.selects q.1.cls q.1 q.1 ∈ lw_tbl := List.mem_append_left _ (List.mem_map.mpr ⟨q, (show q ∈ lw_privs from List.mem_append_right _ (List.mem_append_right _ (List.mem_append_right _ (List.mem_append_right _ (List.mem_append_right _ (List.mem_append_left _ h)))))), rfl⟩)
theorem ev_p7 {q : MethodName × Nat} (h : q ∈ lw_privs_7) : Cond.selects q.1.cls q.1 q.1 ∈ lw_tbl := List.mem_append_left _ (List.mem_map.mpr ⟨q, (show q ∈ lw_privs from List.mem_append_right _ (List.mem_append_right _ (List.mem_append_right _ (List.mem_append_right _ (List.mem_append_right _ (List.mem_append_right _ (List.mem_append_left _ h))))))), rfl⟩)
theorem ev_p8 {q : MethodName × Nat} (h : q ∈ lw_privs_8) : Cond.selects q.1.cls q.1 q.1 ∈ lw_tbl := List.mem_append_left _ (List.mem_map.mpr ⟨q, (show q ∈ lw_privs from List.mem_append_right _ (List.mem_append_right _ (List.mem_append_right _ (List.mem_append_right _ (List.mem_append_right _ (List.mem_append_right _ (List.mem_append_right _ (List.mem_append_left _ h)))))))), rfl⟩)
theorem ev_p9 {q : MethodName × Nat} (h : q ∈ lw_privs_9) : Cond.selects q.1.cls q.1 q.1 ∈ lw_tbl := List.mem_append_left _ (List.mem_map.mpr ⟨q, (show q ∈ lw_privs from List.mem_append_right _ (List.mem_append_right _ (List.mem_append_right _ (List.mem_append_right _ (List.mem_append_right _ (List.mem_append_right _ (List.mem_append_right _ (List.mem_append_right _ h)))))))), rfl⟩)
abbrev YX11_init : ev_Y := (yX11_init, cX11_init, 1, none, 11)
set_option maxRecDepth 100000 in
theorem mwX11_init : ev_mw YX11_init 0 := ⟨ev_t1 (List.mem_of_getElem? (i := 24) rfl), ev_t1 (List.mem_of_getElem? (i := 1) rfl), by decide, by decide +kernel, by decide +kernel, by decide +kernel⟩
set_option maxRecDepth 100000 in
theorem iwX11_init : Cond.instanceMethod YX11_init.1 ∈ lw_tbl := ev_t1 (List.mem_of_getElem? (i := 23) rfl)
abbrev YX11_feed : ev_Y := (yX11_feed, cX11_feed, 6, (some .int), 11)
set_option maxRecDepth 100000 in
theorem mwX11_feed : ev_mw YX11_feed 5 := ⟨ev_t2 (List.mem_of_getElem? (i := 212) rfl), ev_t1 (List.mem_of_getElem? (i := 1) rfl), by decide, by decide +kernel, by decide +kernel, by decide +kernel⟩
set_option maxRecDepth 100000 in
theorem iwX11_feed : Cond.instanceMethod YX11_feed.1 ∈ lw_tbl := ev_t2 (List.mem_of_getElem? (i := 210) rfl)
set_option maxRecDepth 100000 in
theorem vwX11_feed : Cond.selects YX11_feed.1.cls YX11_feed.1 YX11_feed.1 ∈ lw_tbl := ev_t2 (List.mem_of_getElem? (i := 211) rfl)
abbrev YX11_end : ev_Y := (yX11_end, cX11_end, 2, (some .boolean), 11)
set_option maxRecDepth 100000 in
theorem mwX11_end : ev_mw YX11_end 1 := ⟨ev_t2 (List.mem_of_getElem? (i := 229) rfl), ev_t1 (List.mem_of_getElem? (i := 1) rfl), by decide, by decide +kernel, by decide +kernel, by decide +kernel⟩
set_option maxRecDepth 100000 in
theorem iwX11_end : Cond.instanceMethod YX11_end.1 ∈ lw_tbl := ev_t2 (List.mem_of_getElem? (i := 227) rfl)
set_option maxRecDepth 100000 in
theorem vwX11_end : Cond.selects YX11_end.1.cls YX11_end.1 YX11_end.1 ∈ lw_tbl := ev_t2 (List.mem_of_getElem? (i := 228) rfl)
abbrev YX11_castle : ev_Y := (yX11_castle, cX11_castle, 3, (some .int), 11)
set_option maxRecDepth 100000 in
theorem mwX11_castle : ev_mw YX11_castle 0 := ⟨ev_t2 (List.mem_of_getElem? (i := 233) rfl), ev_t1 (List.mem_of_getElem? (i := 1) rfl), by decide, by decide +kernel, by decide +kernel, by decide +kernel⟩
set_option maxRecDepth 100000 in
theorem iwX11_castle : Cond.instanceMethod YX11_castle.1 ∈ lw_tbl := ev_t2 (List.mem_of_getElem? (i := 231) rfl)
set_option maxRecDepth 100000 in
theorem vwX11_castle : Cond.selects YX11_castle.1.cls YX11_castle.1 YX11_castle.1 ∈ lw_tbl := ev_t2 (List.mem_of_getElem? (i := 232) rfl)
abbrev YX11_fault : ev_Y := (yX11_fault, cX11_fault, 2, (some .int), 11)
set_option maxRecDepth 100000 in
theorem mwX11_fault : ev_mw YX11_fault 1 := ⟨ev_t3 (List.mem_of_getElem? (i := 238) rfl), ev_t1 (List.mem_of_getElem? (i := 1) rfl), by decide, by decide +kernel, by decide +kernel, by decide +kernel⟩
set_option maxRecDepth 100000 in
theorem iwX11_fault : Cond.instanceMethod YX11_fault.1 ∈ lw_tbl := ev_t3 (List.mem_of_getElem? (i := 236) rfl)
set_option maxRecDepth 100000 in
theorem vwX11_fault : Cond.selects YX11_fault.1.cls YX11_fault.1 YX11_fault.1 ∈ lw_tbl := ev_t3 (List.mem_of_getElem? (i := 237) rfl)
abbrev YX11_has : ev_Y := (yX11_has, cX11_has, 2, (some .int), 11)
set_option maxRecDepth 100000 in
theorem mwX11_has : ev_mw YX11_has 1 := ⟨ev_t4 (List.mem_of_getElem? (i := 2) rfl), ev_t1 (List.mem_of_getElem? (i := 1) rfl), by decide, by decide +kernel, by decide +kernel, by decide +kernel⟩
set_option maxRecDepth 100000 in
theorem iwX11_has : Cond.instanceMethod YX11_has.1 ∈ lw_tbl := ev_t4 (List.mem_of_getElem? (i := 0) rfl)
set_option maxRecDepth 100000 in
theorem vwX11_has : Cond.selects YX11_has.1.cls YX11_has.1 YX11_has.1 ∈ lw_tbl := ev_t4 (List.mem_of_getElem? (i := 1) rfl)
abbrev YX11_letter : ev_Y := (yX11_letter, cX11_letter, 3, (some .int), 11)
set_option maxRecDepth 100000 in
theorem mwX11_letter : ev_mw YX11_letter 2 := ⟨ev_t4 (List.mem_of_getElem? (i := 23) rfl), ev_t1 (List.mem_of_getElem? (i := 1) rfl), by decide, by decide +kernel, by decide +kernel, by decide +kernel⟩
set_option maxRecDepth 100000 in
theorem iwX11_letter : Cond.instanceMethod YX11_letter.1 ∈ lw_tbl := ev_t4 (List.mem_of_getElem? (i := 21) rfl)
set_option maxRecDepth 100000 in
theorem vwX11_letter : Cond.selects YX11_letter.1.cls YX11_letter.1 YX11_letter.1 ∈ lw_tbl := ev_t4 (List.mem_of_getElem? (i := 22) rfl)
abbrev YX11_tower : ev_Y := (yX11_tower, cX11_tower, 3, (some .int), 11)
set_option maxRecDepth 100000 in
theorem mwX11_tower : ev_mw YX11_tower 2 := ⟨ev_t4 (List.mem_of_getElem? (i := 31) rfl), ev_t1 (List.mem_of_getElem? (i := 1) rfl), by decide, by decide +kernel, by decide +kernel, by decide +kernel⟩
set_option maxRecDepth 100000 in
theorem iwX11_tower : Cond.instanceMethod YX11_tower.1 ∈ lw_tbl := ev_t4 (List.mem_of_getElem? (i := 29) rfl)
set_option maxRecDepth 100000 in
theorem vwX11_tower : Cond.selects YX11_tower.1.cls YX11_tower.1 YX11_tower.1 ∈ lw_tbl := ev_t4 (List.mem_of_getElem? (i := 30) rfl)
abbrev YX11_kept : ev_Y := (yX11_kept, cX11_kept, 4, (some .int), 11)
set_option maxRecDepth 100000 in
theorem mwX11_kept : ev_mw YX11_kept 2 := ⟨ev_t4 (List.mem_of_getElem? (i := 35) rfl), ev_t1 (List.mem_of_getElem? (i := 1) rfl), by decide, by decide +kernel, by decide +kernel, by decide +kernel⟩
set_option maxRecDepth 100000 in
theorem iwX11_kept : Cond.instanceMethod YX11_kept.1 ∈ lw_tbl := ev_t4 (List.mem_of_getElem? (i := 33) rfl)
set_option maxRecDepth 100000 in
theorem vwX11_kept : Cond.selects YX11_kept.1.cls YX11_kept.1 YX11_kept.1 ∈ lw_tbl := ev_t4 (List.mem_of_getElem? (i := 34) rfl)
abbrev YX11_tone : ev_Y := (yX11_tone, cX11_tone, 3, (some .int), 11)
set_option maxRecDepth 100000 in
theorem mwX11_tone : ev_mw YX11_tone 2 := ⟨ev_t4 (List.mem_of_getElem? (i := 43) rfl), ev_t1 (List.mem_of_getElem? (i := 1) rfl), by decide, by decide +kernel, by decide +kernel, by decide +kernel⟩
set_option maxRecDepth 100000 in
theorem iwX11_tone : Cond.instanceMethod YX11_tone.1 ∈ lw_tbl := ev_t4 (List.mem_of_getElem? (i := 41) rfl)
set_option maxRecDepth 100000 in
theorem vwX11_tone : Cond.selects YX11_tone.1.cls YX11_tone.1 YX11_tone.1 ∈ lw_tbl := ev_t4 (List.mem_of_getElem? (i := 42) rfl)
abbrev YX11_mood : ev_Y := (yX11_mood, cX11_mood, 3, (some .int), 11)
set_option maxRecDepth 100000 in
theorem mwX11_mood : ev_mw YX11_mood 2 := ⟨ev_t4 (List.mem_of_getElem? (i := 104) rfl), ev_t1 (List.mem_of_getElem? (i := 1) rfl), by decide, by decide +kernel, by decide +kernel, by decide +kernel⟩
set_option maxRecDepth 100000 in
theorem iwX11_mood : Cond.instanceMethod YX11_mood.1 ∈ lw_tbl := ev_t4 (List.mem_of_getElem? (i := 102) rfl)
set_option maxRecDepth 100000 in
theorem vwX11_mood : Cond.selects YX11_mood.1.cls YX11_mood.1 YX11_mood.1 ∈ lw_tbl := ev_t4 (List.mem_of_getElem? (i := 103) rfl)
abbrev YX11_doubts : ev_Y := (yX11_doubts, cX11_doubts, 2, (some .int), 11)
set_option maxRecDepth 100000 in
theorem mwX11_doubts : ev_mw YX11_doubts 1 := ⟨ev_t4 (List.mem_of_getElem? (i := 112) rfl), ev_t1 (List.mem_of_getElem? (i := 1) rfl), by decide, by decide +kernel, by decide +kernel, by decide +kernel⟩
set_option maxRecDepth 100000 in
theorem iwX11_doubts : Cond.instanceMethod YX11_doubts.1 ∈ lw_tbl := ev_t4 (List.mem_of_getElem? (i := 110) rfl)
set_option maxRecDepth 100000 in
theorem vwX11_doubts : Cond.selects YX11_doubts.1.cls YX11_doubts.1 YX11_doubts.1 ∈ lw_tbl := ev_t4 (List.mem_of_getElem? (i := 111) rfl)
abbrev YX11_fire : ev_Y := (yX11_fire, cX11_fire, 2, (some .int), 11)
set_option maxRecDepth 100000 in
theorem mwX11_fire : ev_mw YX11_fire 0 := ⟨ev_t4 (List.mem_of_getElem? (i := 121) rfl), ev_t1 (List.mem_of_getElem? (i := 1) rfl), by decide, by decide +kernel, by decide +kernel, by decide +kernel⟩
set_option maxRecDepth 100000 in
theorem iwX11_fire : Cond.instanceMethod YX11_fire.1 ∈ lw_tbl := ev_t4 (List.mem_of_getElem? (i := 119) rfl)
set_option maxRecDepth 100000 in
theorem vwX11_fire : Cond.selects YX11_fire.1.cls YX11_fire.1 YX11_fire.1 ∈ lw_tbl := ev_t4 (List.mem_of_getElem? (i := 120) rfl)
abbrev YX11_settles : ev_Y := (yX11_settles, cX11_settles, 4, (some .int), 11)
set_option maxRecDepth 100000 in
theorem mwX11_settles : ev_mw YX11_settles 1 := ⟨ev_t4 (List.mem_of_getElem? (i := 134) rfl), ev_t1 (List.mem_of_getElem? (i := 1) rfl), by decide, by decide +kernel, by decide +kernel, by decide +kernel⟩
set_option maxRecDepth 100000 in
theorem iwX11_settles : Cond.instanceMethod YX11_settles.1 ∈ lw_tbl := ev_t4 (List.mem_of_getElem? (i := 132) rfl)
set_option maxRecDepth 100000 in
theorem vwX11_settles : Cond.selects YX11_settles.1.cls YX11_settles.1 YX11_settles.1 ∈ lw_tbl := ev_t4 (List.mem_of_getElem? (i := 133) rfl)
abbrev YX11_cheered : ev_Y := (yX11_cheered, cX11_cheered, 2, (some .int), 11)
set_option maxRecDepth 100000 in
theorem mwX11_cheered : ev_mw YX11_cheered 1 := ⟨ev_t4 (List.mem_of_getElem? (i := 147) rfl), ev_t1 (List.mem_of_getElem? (i := 1) rfl), by decide, by decide +kernel, by decide +kernel, by decide +kernel⟩
set_option maxRecDepth 100000 in
theorem iwX11_cheered : Cond.instanceMethod YX11_cheered.1 ∈ lw_tbl := ev_t4 (List.mem_of_getElem? (i := 145) rfl)
set_option maxRecDepth 100000 in
theorem vwX11_cheered : Cond.selects YX11_cheered.1.cls YX11_cheered.1 YX11_cheered.1 ∈ lw_tbl := ev_t4 (List.mem_of_getElem? (i := 146) rfl)
abbrev YX11_sighs : ev_Y := (yX11_sighs, cX11_sighs, 2, (some .int), 11)
set_option maxRecDepth 100000 in
theorem mwX11_sighs : ev_mw YX11_sighs 1 := ⟨ev_t4 (List.mem_of_getElem? (i := 167) rfl), ev_t1 (List.mem_of_getElem? (i := 1) rfl), by decide, by decide +kernel, by decide +kernel, by decide +kernel⟩
set_option maxRecDepth 100000 in
theorem iwX11_sighs : Cond.instanceMethod YX11_sighs.1 ∈ lw_tbl := ev_t4 (List.mem_of_getElem? (i := 165) rfl)
set_option maxRecDepth 100000 in
theorem vwX11_sighs : Cond.selects YX11_sighs.1.cls YX11_sighs.1 YX11_sighs.1 ∈ lw_tbl := ev_t4 (List.mem_of_getElem? (i := 166) rfl)
abbrev YX11_better : ev_Y := (yX11_better, cX11_better, 3, (some .int), 11)
set_option maxRecDepth 100000 in
theorem mwX11_better : ev_mw YX11_better 2 := ⟨ev_t4 (List.mem_of_getElem? (i := 175) rfl), ev_t1 (List.mem_of_getElem? (i := 1) rfl), by decide, by decide +kernel, by decide +kernel, by decide +kernel⟩
set_option maxRecDepth 100000 in
theorem iwX11_better : Cond.instanceMethod YX11_better.1 ∈ lw_tbl := ev_t4 (List.mem_of_getElem? (i := 173) rfl)
set_option maxRecDepth 100000 in
theorem vwX11_better : Cond.selects YX11_better.1.cls YX11_better.1 YX11_better.1 ∈ lw_tbl := ev_t4 (List.mem_of_getElem? (i := 174) rfl)
abbrev YX11_placed : ev_Y := (yX11_placed, cX11_placed, 3, (some .int), 11)
set_option maxRecDepth 100000 in
theorem mwX11_placed : ev_mw YX11_placed 2 := ⟨ev_t4 (List.mem_of_getElem? (i := 196) rfl), ev_t1 (List.mem_of_getElem? (i := 1) rfl), by decide, by decide +kernel, by decide +kernel, by decide +kernel⟩
set_option maxRecDepth 100000 in
theorem iwX11_placed : Cond.instanceMethod YX11_placed.1 ∈ lw_tbl := ev_t4 (List.mem_of_getElem? (i := 194) rfl)
set_option maxRecDepth 100000 in
theorem vwX11_placed : Cond.selects YX11_placed.1.cls YX11_placed.1 YX11_placed.1 ∈ lw_tbl := ev_t4 (List.mem_of_getElem? (i := 195) rfl)
abbrev YX11_game : ev_Y := (yX11_game, cX11_game, 2, (some .int), 11)
set_option maxRecDepth 100000 in
theorem mwX11_game : ev_mw YX11_game 1 := ⟨ev_t4 (List.mem_of_getElem? (i := 208) rfl), ev_t1 (List.mem_of_getElem? (i := 1) rfl), by decide, by decide +kernel, by decide +kernel, by decide +kernel⟩
set_option maxRecDepth 100000 in
theorem iwX11_game : Cond.instanceMethod YX11_game.1 ∈ lw_tbl := ev_t4 (List.mem_of_getElem? (i := 206) rfl)
set_option maxRecDepth 100000 in
theorem vwX11_game : Cond.selects YX11_game.1.cls YX11_game.1 YX11_game.1 ∈ lw_tbl := ev_t4 (List.mem_of_getElem? (i := 207) rfl)
abbrev YX11_rule : ev_Y := (yX11_rule, cX11_rule, 5, (some .int), 11)
set_option maxRecDepth 100000 in
theorem mwX11_rule : ev_mw YX11_rule 2 := ⟨ev_t4 (List.mem_of_getElem? (i := 221) rfl), ev_t1 (List.mem_of_getElem? (i := 1) rfl), by decide, by decide +kernel, by decide +kernel, by decide +kernel⟩
set_option maxRecDepth 100000 in
theorem iwX11_rule : Cond.instanceMethod YX11_rule.1 ∈ lw_tbl := ev_t4 (List.mem_of_getElem? (i := 219) rfl)
set_option maxRecDepth 100000 in
theorem vwX11_rule : Cond.selects YX11_rule.1.cls YX11_rule.1 YX11_rule.1 ∈ lw_tbl := ev_t4 (List.mem_of_getElem? (i := 220) rfl)
abbrev YX11_see : ev_Y := (yX11_see, cX11_see, 2, (some .int), 11)
set_option maxRecDepth 100000 in
theorem mwX11_see : ev_mw YX11_see 0 := ⟨ev_t4 (List.mem_of_getElem? (i := 226) rfl), ev_t1 (List.mem_of_getElem? (i := 1) rfl), by decide, by decide +kernel, by decide +kernel, by decide +kernel⟩
set_option maxRecDepth 100000 in
theorem iwX11_see : Cond.instanceMethod YX11_see.1 ∈ lw_tbl := ev_t4 (List.mem_of_getElem? (i := 224) rfl)
set_option maxRecDepth 100000 in
theorem vwX11_see : Cond.selects YX11_see.1.cls YX11_see.1 YX11_see.1 ∈ lw_tbl := ev_t4 (List.mem_of_getElem? (i := 225) rfl)
abbrev YX11_moods : ev_Y := (yX11_moods, cX11_moods, 2, (some .int), 11)
set_option maxRecDepth 100000 in
theorem mwX11_moods : ev_mw YX11_moods 1 := ⟨ev_t4 (List.mem_of_getElem? (i := 234) rfl), ev_t1 (List.mem_of_getElem? (i := 1) rfl), by decide, by decide +kernel, by decide +kernel, by decide +kernel⟩
set_option maxRecDepth 100000 in
theorem iwX11_moods : Cond.instanceMethod YX11_moods.1 ∈ lw_tbl := ev_t4 (List.mem_of_getElem? (i := 232) rfl)
set_option maxRecDepth 100000 in
theorem vwX11_moods : Cond.selects YX11_moods.1.cls YX11_moods.1 YX11_moods.1 ∈ lw_tbl := ev_t4 (List.mem_of_getElem? (i := 233) rfl)
abbrev YX11_tells : ev_Y := (yX11_tells, cX11_tells, 4, (some .int), 11)
set_option maxRecDepth 100000 in
theorem mwX11_tells : ev_mw YX11_tells 2 := ⟨ev_t5 (List.mem_of_getElem? (i := 22) rfl), ev_t1 (List.mem_of_getElem? (i := 1) rfl), by decide, by decide +kernel, by decide +kernel, by decide +kernel⟩
set_option maxRecDepth 100000 in
theorem iwX11_tells : Cond.instanceMethod YX11_tells.1 ∈ lw_tbl := ev_t5 (List.mem_of_getElem? (i := 20) rfl)
set_option maxRecDepth 100000 in
theorem vwX11_tells : Cond.selects YX11_tells.1.cls YX11_tells.1 YX11_tells.1 ∈ lw_tbl := ev_t5 (List.mem_of_getElem? (i := 21) rfl)
abbrev YX11_cheer : ev_Y := (yX11_cheer, cX11_cheer, 3, (some .boolean), 11)
set_option maxRecDepth 100000 in
theorem mwX11_cheer : ev_mw YX11_cheer 2 := ⟨ev_t5 (List.mem_of_getElem? (i := 34) rfl), ev_t1 (List.mem_of_getElem? (i := 1) rfl), by decide, by decide +kernel, by decide +kernel, by decide +kernel⟩
set_option maxRecDepth 100000 in
theorem iwX11_cheer : Cond.instanceMethod YX11_cheer.1 ∈ lw_tbl := ev_t5 (List.mem_of_getElem? (i := 32) rfl)
set_option maxRecDepth 100000 in
theorem vwX11_cheer : Cond.selects YX11_cheer.1.cls YX11_cheer.1 YX11_cheer.1 ∈ lw_tbl := ev_t5 (List.mem_of_getElem? (i := 33) rfl)
abbrev YX11_yes : ev_Y := (yX11_yes, cX11_yes, 3, (some .boolean), 11)
set_option maxRecDepth 100000 in
theorem mwX11_yes : ev_mw YX11_yes 2 := ⟨ev_t5 (List.mem_of_getElem? (i := 44) rfl), ev_t1 (List.mem_of_getElem? (i := 1) rfl), by decide, by decide +kernel, by decide +kernel, by decide +kernel⟩
set_option maxRecDepth 100000 in
theorem iwX11_yes : Cond.instanceMethod YX11_yes.1 ∈ lw_tbl := ev_t5 (List.mem_of_getElem? (i := 42) rfl)
set_option maxRecDepth 100000 in
theorem vwX11_yes : Cond.selects YX11_yes.1.cls YX11_yes.1 YX11_yes.1 ∈ lw_tbl := ev_t5 (List.mem_of_getElem? (i := 43) rfl)
abbrev YX11_change : ev_Y := (yX11_change, cX11_change, 3, (some .boolean), 11)
set_option maxRecDepth 100000 in
theorem mwX11_change : ev_mw YX11_change 2 := ⟨ev_t5 (List.mem_of_getElem? (i := 48) rfl), ev_t1 (List.mem_of_getElem? (i := 1) rfl), by decide, by decide +kernel, by decide +kernel, by decide +kernel⟩
set_option maxRecDepth 100000 in
theorem iwX11_change : Cond.instanceMethod YX11_change.1 ∈ lw_tbl := ev_t5 (List.mem_of_getElem? (i := 46) rfl)
set_option maxRecDepth 100000 in
theorem vwX11_change : Cond.selects YX11_change.1.cls YX11_change.1 YX11_change.1 ∈ lw_tbl := ev_t5 (List.mem_of_getElem? (i := 47) rfl)
abbrev YX11_rounds : ev_Y := (yX11_rounds, cX11_rounds, 4, (some .int), 11)
set_option maxRecDepth 100000 in
theorem mwX11_rounds : ev_mw YX11_rounds 1 := ⟨ev_t5 (List.mem_of_getElem? (i := 53) rfl), ev_t1 (List.mem_of_getElem? (i := 1) rfl), by decide, by decide +kernel, by decide +kernel, by decide +kernel⟩
set_option maxRecDepth 100000 in
theorem iwX11_rounds : Cond.instanceMethod YX11_rounds.1 ∈ lw_tbl := ev_t5 (List.mem_of_getElem? (i := 51) rfl)
set_option maxRecDepth 100000 in
theorem vwX11_rounds : Cond.selects YX11_rounds.1.cls YX11_rounds.1 YX11_rounds.1 ∈ lw_tbl := ev_t5 (List.mem_of_getElem? (i := 52) rfl)
abbrev YX11_chance : ev_Y := (yX11_chance, cX11_chance, 4, (some .int), 11)
set_option maxRecDepth 100000 in
theorem mwX11_chance : ev_mw YX11_chance 1 := ⟨ev_t5 (List.mem_of_getElem? (i := 69) rfl), ev_t1 (List.mem_of_getElem? (i := 1) rfl), by decide, by decide +kernel, by decide +kernel, by decide +kernel⟩
set_option maxRecDepth 100000 in
theorem iwX11_chance : Cond.instanceMethod YX11_chance.1 ∈ lw_tbl := ev_t5 (List.mem_of_getElem? (i := 67) rfl)
set_option maxRecDepth 100000 in
theorem vwX11_chance : Cond.selects YX11_chance.1.cls YX11_chance.1 YX11_chance.1 ∈ lw_tbl := ev_t5 (List.mem_of_getElem? (i := 68) rfl)
abbrev YX11_undo : ev_Y := (yX11_undo, cX11_undo, 1, (some .boolean), 11)
set_option maxRecDepth 100000 in
theorem mwX11_undo : ev_mw YX11_undo 0 := ⟨ev_t5 (List.mem_of_getElem? (i := 86) rfl), ev_t1 (List.mem_of_getElem? (i := 1) rfl), by decide, by decide +kernel, by decide +kernel, by decide +kernel⟩
set_option maxRecDepth 100000 in
theorem iwX11_undo : Cond.instanceMethod YX11_undo.1 ∈ lw_tbl := ev_t5 (List.mem_of_getElem? (i := 84) rfl)
set_option maxRecDepth 100000 in
theorem vwX11_undo : Cond.selects YX11_undo.1.cls YX11_undo.1 YX11_undo.1 ∈ lw_tbl := ev_t5 (List.mem_of_getElem? (i := 85) rfl)
abbrev YX11_seed : ev_Y := (yX11_seed, cX11_seed, 2, (some .boolean), 11)
set_option maxRecDepth 100000 in
theorem mwX11_seed : ev_mw YX11_seed 1 := ⟨ev_t5 (List.mem_of_getElem? (i := 94) rfl), ev_t1 (List.mem_of_getElem? (i := 1) rfl), by decide, by decide +kernel, by decide +kernel, by decide +kernel⟩
set_option maxRecDepth 100000 in
theorem iwX11_seed : Cond.instanceMethod YX11_seed.1 ∈ lw_tbl := ev_t5 (List.mem_of_getElem? (i := 92) rfl)
set_option maxRecDepth 100000 in
theorem vwX11_seed : Cond.selects YX11_seed.1.cls YX11_seed.1 YX11_seed.1 ∈ lw_tbl := ev_t5 (List.mem_of_getElem? (i := 93) rfl)
abbrev YX11_ask : ev_Y := (yX11_ask, cX11_ask, 2, (some .long), 11)
set_option maxRecDepth 100000 in
theorem mwX11_ask : ev_mw YX11_ask 0 := ⟨ev_t5 (List.mem_of_getElem? (i := 98) rfl), ev_t1 (List.mem_of_getElem? (i := 1) rfl), by decide, by decide +kernel, by decide +kernel, by decide +kernel⟩
set_option maxRecDepth 100000 in
theorem iwX11_ask : Cond.instanceMethod YX11_ask.1 ∈ lw_tbl := ev_t5 (List.mem_of_getElem? (i := 96) rfl)
set_option maxRecDepth 100000 in
theorem vwX11_ask : Cond.selects YX11_ask.1.cls YX11_ask.1 YX11_ask.1 ∈ lw_tbl := ev_t5 (List.mem_of_getElem? (i := 97) rfl)
abbrev YX11_image : ev_Y := (yX11_image, cX11_image, 3, (some .int), 11)
set_option maxRecDepth 100000 in
theorem mwX11_image : ev_mw YX11_image 0 := ⟨ev_t5 (List.mem_of_getElem? (i := 161) rfl), ev_t1 (List.mem_of_getElem? (i := 1) rfl), by decide, by decide +kernel, by decide +kernel, by decide +kernel⟩
set_option maxRecDepth 100000 in
theorem iwX11_image : Cond.instanceMethod YX11_image.1 ∈ lw_tbl := ev_t5 (List.mem_of_getElem? (i := 159) rfl)
set_option maxRecDepth 100000 in
theorem vwX11_image : Cond.selects YX11_image.1.cls YX11_image.1 YX11_image.1 ∈ lw_tbl := ev_t5 (List.mem_of_getElem? (i := 160) rfl)
abbrev YX11_octet : ev_Y := (yX11_octet, cX11_octet, 2, (some .int), 11)
set_option maxRecDepth 100000 in
theorem mwX11_octet : ev_mw YX11_octet 1 := ⟨ev_t5 (List.mem_of_getElem? (i := 168) rfl), ev_t1 (List.mem_of_getElem? (i := 1) rfl), by decide, by decide +kernel, by decide +kernel, by decide +kernel⟩
set_option maxRecDepth 100000 in
theorem iwX11_octet : Cond.instanceMethod YX11_octet.1 ∈ lw_tbl := ev_t5 (List.mem_of_getElem? (i := 166) rfl)
set_option maxRecDepth 100000 in
theorem vwX11_octet : Cond.selects YX11_octet.1.cls YX11_octet.1 YX11_octet.1 ∈ lw_tbl := ev_t5 (List.mem_of_getElem? (i := 167) rfl)
abbrev YX11_on : ev_Y := (yX11_on, cX11_on, 2, (some .boolean), 11)
set_option maxRecDepth 100000 in
theorem mwX11_on : ev_mw YX11_on 0 := ⟨ev_t5 (List.mem_of_getElem? (i := 172) rfl), ev_t1 (List.mem_of_getElem? (i := 1) rfl), by decide, by decide +kernel, by decide +kernel, by decide +kernel⟩
set_option maxRecDepth 100000 in
theorem iwX11_on : Cond.instanceMethod YX11_on.1 ∈ lw_tbl := ev_t5 (List.mem_of_getElem? (i := 170) rfl)
set_option maxRecDepth 100000 in
theorem vwX11_on : Cond.selects YX11_on.1.cls YX11_on.1 YX11_on.1 ∈ lw_tbl := ev_t5 (List.mem_of_getElem? (i := 171) rfl)
abbrev YX11_status : ev_Y := (yX11_status, cX11_status, 2, (some .int), 11)
set_option maxRecDepth 100000 in
theorem mwX11_status : ev_mw YX11_status 1 := ⟨ev_t5 (List.mem_of_getElem? (i := 184) rfl), ev_t1 (List.mem_of_getElem? (i := 1) rfl), by decide, by decide +kernel, by decide +kernel, by decide +kernel⟩
set_option maxRecDepth 100000 in
theorem iwX11_status : Cond.instanceMethod YX11_status.1 ∈ lw_tbl := ev_t5 (List.mem_of_getElem? (i := 182) rfl)
set_option maxRecDepth 100000 in
theorem vwX11_status : Cond.selects YX11_status.1.cls YX11_status.1 YX11_status.1 ∈ lw_tbl := ev_t5 (List.mem_of_getElem? (i := 183) rfl)
abbrev YX11_refuse : ev_Y := (yX11_refuse, cX11_refuse, 2, (some .boolean), 11)
set_option maxRecDepth 100000 in
theorem mwX11_refuse : ev_mw YX11_refuse 1 := ⟨ev_t2 (List.mem_of_getElem? (i := 220) rfl), ev_t1 (List.mem_of_getElem? (i := 1) rfl), by decide, by decide +kernel, by decide +kernel, by decide +kernel⟩
set_option maxRecDepth 100000 in
theorem iwX11_refuse : Cond.instanceMethod YX11_refuse.1 ∈ lw_tbl := ev_t2 (List.mem_of_getElem? (i := 219) rfl)
set_option maxRecDepth 100000 in
theorem vwX11_refuse : Cond.selects YX11_refuse.1.cls YX11_refuse.1 YX11_refuse.1 ∈ lw_tbl := ev_p1 (q := (yX11_refuse, 18)) (List.mem_of_getElem? (i := 0) rfl)
abbrev YX11_noteFault : ev_Y := (yX11_noteFault, cX11_noteFault, 1, none, 11)
set_option maxRecDepth 100000 in
theorem mwX11_noteFault : ev_mw YX11_noteFault 0 := ⟨ev_t3 (List.mem_of_getElem? (i := 229) rfl), ev_t1 (List.mem_of_getElem? (i := 1) rfl), by decide, by decide +kernel, by decide +kernel, by decide +kernel⟩
set_option maxRecDepth 100000 in
theorem iwX11_noteFault : Cond.instanceMethod YX11_noteFault.1 ∈ lw_tbl := ev_t3 (List.mem_of_getElem? (i := 228) rfl)
set_option maxRecDepth 100000 in
theorem vwX11_noteFault : Cond.selects YX11_noteFault.1.cls YX11_noteFault.1 YX11_noteFault.1 ∈ lw_tbl := ev_p2 (q := (yX11_noteFault, 18)) (List.mem_of_getElem? (i := 9) rfl)
abbrev YX11_isTold : ev_Y := (yX11_isTold, cX11_isTold, 1, (some .boolean), 11)
set_option maxRecDepth 100000 in
theorem mwX11_isTold : ev_mw YX11_isTold 0 := ⟨ev_t4 (List.mem_of_getElem? (i := 6) rfl), ev_t1 (List.mem_of_getElem? (i := 1) rfl), by decide, by decide +kernel, by decide +kernel, by decide +kernel⟩
set_option maxRecDepth 100000 in
theorem iwX11_isTold : Cond.instanceMethod YX11_isTold.1 ∈ lw_tbl := ev_t4 (List.mem_of_getElem? (i := 5) rfl)
set_option maxRecDepth 100000 in
theorem vwX11_isTold : Cond.selects YX11_isTold.1.cls YX11_isTold.1 YX11_isTold.1 ∈ lw_tbl := ev_p2 (q := (yX11_isTold, 18)) (List.mem_of_getElem? (i := 10) rfl)
abbrev YX11_isTower : ev_Y := (yX11_isTower, cX11_isTower, 2, (some .boolean), 11)
set_option maxRecDepth 100000 in
theorem mwX11_isTower : ev_mw YX11_isTower 1 := ⟨ev_t4 (List.mem_of_getElem? (i := 27) rfl), ev_t1 (List.mem_of_getElem? (i := 1) rfl), by decide, by decide +kernel, by decide +kernel, by decide +kernel⟩
set_option maxRecDepth 100000 in
theorem iwX11_isTower : Cond.instanceMethod YX11_isTower.1 ∈ lw_tbl := ev_t4 (List.mem_of_getElem? (i := 26) rfl)
set_option maxRecDepth 100000 in
theorem vwX11_isTower : Cond.selects YX11_isTower.1.cls YX11_isTower.1 YX11_isTower.1 ∈ lw_tbl := ev_p2 (q := (yX11_isTower, 18)) (List.mem_of_getElem? (i := 12) rfl)
abbrev YX11_canBeAhead : ev_Y := (yX11_canBeAhead, cX11_canBeAhead, 4, (some .boolean), 11)
set_option maxRecDepth 100000 in
theorem mwX11_canBeAhead : ev_mw YX11_canBeAhead 3 := ⟨ev_t4 (List.mem_of_getElem? (i := 108) rfl), ev_t1 (List.mem_of_getElem? (i := 1) rfl), by decide, by decide +kernel, by decide +kernel, by decide +kernel⟩
set_option maxRecDepth 100000 in
theorem iwX11_canBeAhead : Cond.instanceMethod YX11_canBeAhead.1 ∈ lw_tbl := ev_t4 (List.mem_of_getElem? (i := 107) rfl)
set_option maxRecDepth 100000 in
theorem vwX11_canBeAhead : Cond.selects YX11_canBeAhead.1.cls YX11_canBeAhead.1 YX11_canBeAhead.1 ∈ lw_tbl := ev_p3 (q := (yX11_canBeAhead, 18)) (List.mem_of_getElem? (i := 2) rfl)
abbrev YX11_comes : ev_Y := (yX11_comes, cX11_comes, 2, (some .boolean), 11)
set_option maxRecDepth 100000 in
theorem mwX11_comes : ev_mw YX11_comes 1 := ⟨ev_t4 (List.mem_of_getElem? (i := 47) rfl), ev_t1 (List.mem_of_getElem? (i := 1) rfl), by decide, by decide +kernel, by decide +kernel, by decide +kernel⟩
set_option maxRecDepth 100000 in
theorem iwX11_comes : Cond.instanceMethod YX11_comes.1 ∈ lw_tbl := ev_t4 (List.mem_of_getElem? (i := 46) rfl)
set_option maxRecDepth 100000 in
theorem vwX11_comes : Cond.selects YX11_comes.1.cls YX11_comes.1 YX11_comes.1 ∈ lw_tbl := ev_p2 (q := (yX11_comes, 18)) (List.mem_of_getElem? (i := 13) rfl)
abbrev YX11_canGo : ev_Y := (yX11_canGo, cX11_canGo, 2, (some .boolean), 11)
set_option maxRecDepth 100000 in
theorem mwX11_canGo : ev_mw YX11_canGo 1 := ⟨ev_t5 (List.mem_of_getElem? (i := 57) rfl), ev_t1 (List.mem_of_getElem? (i := 1) rfl), by decide, by decide +kernel, by decide +kernel, by decide +kernel⟩
set_option maxRecDepth 100000 in
theorem iwX11_canGo : Cond.instanceMethod YX11_canGo.1 ∈ lw_tbl := ev_t5 (List.mem_of_getElem? (i := 56) rfl)
set_option maxRecDepth 100000 in
theorem vwX11_canGo : Cond.selects YX11_canGo.1.cls YX11_canGo.1 YX11_canGo.1 ∈ lw_tbl := ev_p3 (q := (yX11_canGo, 18)) (List.mem_of_getElem? (i := 13) rfl)
abbrev YX11_moodsTogether : ev_Y := (yX11_moodsTogether, cX11_moodsTogether, 3, (some .int), 11)
set_option maxRecDepth 100000 in
theorem mwX11_moodsTogether : ev_mw YX11_moodsTogether 0 := ⟨ev_t4 (List.mem_of_getElem? (i := 16) rfl), ev_t1 (List.mem_of_getElem? (i := 1) rfl), by decide, by decide +kernel, by decide +kernel, by decide +kernel⟩
set_option maxRecDepth 100000 in
theorem iwX11_moodsTogether : Cond.instanceMethod YX11_moodsTogether.1 ∈ lw_tbl := ev_t4 (List.mem_of_getElem? (i := 15) rfl)
set_option maxRecDepth 100000 in
theorem vwX11_moodsTogether : Cond.selects YX11_moodsTogether.1.cls YX11_moodsTogether.1 YX11_moodsTogether.1 ∈ lw_tbl := ev_p2 (q := (yX11_moodsTogether, 18)) (List.mem_of_getElem? (i := 11) rfl)
abbrev YX11_goAhead : ev_Y := (yX11_goAhead, cX11_goAhead, 3, none, 11)
set_option maxRecDepth 100000 in
theorem mwX11_goAhead : ev_mw YX11_goAhead 1 := ⟨ev_t4 (List.mem_of_getElem? (i := 51) rfl), ev_t1 (List.mem_of_getElem? (i := 1) rfl), by decide, by decide +kernel, by decide +kernel, by decide +kernel⟩
set_option maxRecDepth 100000 in
theorem iwX11_goAhead : Cond.instanceMethod YX11_goAhead.1 ∈ lw_tbl := ev_t4 (List.mem_of_getElem? (i := 50) rfl)
set_option maxRecDepth 100000 in
theorem vwX11_goAhead : Cond.selects YX11_goAhead.1.cls YX11_goAhead.1 YX11_goAhead.1 ∈ lw_tbl := ev_p2 (q := (yX11_goAhead, 18)) (List.mem_of_getElem? (i := 14) rfl)
abbrev YX11_indexBelow : ev_Y := (yX11_indexBelow, cX11_indexBelow, 3, (some .int), 11)
set_option maxRecDepth 100000 in
theorem mwX11_indexBelow : ev_mw YX11_indexBelow 1 := ⟨ev_t4 (List.mem_of_getElem? (i := 143) rfl), ev_t1 (List.mem_of_getElem? (i := 1) rfl), by decide, by decide +kernel, by decide +kernel, by decide +kernel⟩
set_option maxRecDepth 100000 in
theorem iwX11_indexBelow : Cond.instanceMethod YX11_indexBelow.1 ∈ lw_tbl := ev_t4 (List.mem_of_getElem? (i := 142) rfl)
set_option maxRecDepth 100000 in
theorem vwX11_indexBelow : Cond.selects YX11_indexBelow.1.cls YX11_indexBelow.1 YX11_indexBelow.1 ∈ lw_tbl := ev_p3 (q := (yX11_indexBelow, 18)) (List.mem_of_getElem? (i := 3) rfl)
abbrev YX11_goOn : ev_Y := (yX11_goOn, cX11_goOn, 3, (some .int), 11)
set_option maxRecDepth 100000 in
theorem mwX11_goOn : ev_mw YX11_goOn 0 := ⟨ev_t5 (List.mem_of_getElem? (i := 61) rfl), ev_t1 (List.mem_of_getElem? (i := 1) rfl), by decide, by decide +kernel, by decide +kernel, by decide +kernel⟩
set_option maxRecDepth 100000 in
theorem iwX11_goOn : Cond.instanceMethod YX11_goOn.1 ∈ lw_tbl := ev_t5 (List.mem_of_getElem? (i := 60) rfl)
set_option maxRecDepth 100000 in
theorem vwX11_goOn : Cond.selects YX11_goOn.1.cls YX11_goOn.1 YX11_goOn.1 ∈ lw_tbl := ev_p3 (q := (yX11_goOn, 18)) (List.mem_of_getElem? (i := 14) rfl)
abbrev YX11_catchCold : ev_Y := (yX11_catchCold, cX11_catchCold, 2, (some .int), 11)
set_option maxRecDepth 100000 in
theorem mwX11_catchCold : ev_mw YX11_catchCold 0 := ⟨ev_t5 (List.mem_of_getElem? (i := 73) rfl), ev_t1 (List.mem_of_getElem? (i := 1) rfl), by decide, by decide +kernel, by decide +kernel, by decide +kernel⟩
set_option maxRecDepth 100000 in
theorem iwX11_catchCold : Cond.instanceMethod YX11_catchCold.1 ∈ lw_tbl := ev_t5 (List.mem_of_getElem? (i := 72) rfl)
set_option maxRecDepth 100000 in
theorem vwX11_catchCold : Cond.selects YX11_catchCold.1.cls YX11_catchCold.1 YX11_catchCold.1 ∈ lw_tbl := ev_p3 (q := (yX11_catchCold, 18)) (List.mem_of_getElem? (i := 15) rfl)
abbrev YX11_draw : ev_Y := (yX11_draw, cX11_draw, 2, (some .int), 11)
set_option maxRecDepth 100000 in
theorem mwX11_draw : ev_mw YX11_draw 1 := ⟨ev_t5 (List.mem_of_getElem? (i := 77) rfl), ev_t1 (List.mem_of_getElem? (i := 1) rfl), by decide, by decide +kernel, by decide +kernel, by decide +kernel⟩
set_option maxRecDepth 100000 in
theorem iwX11_draw : Cond.instanceMethod YX11_draw.1 ∈ lw_tbl := ev_t5 (List.mem_of_getElem? (i := 76) rfl)
set_option maxRecDepth 100000 in
theorem vwX11_draw : Cond.selects YX11_draw.1.cls YX11_draw.1 YX11_draw.1 ∈ lw_tbl := ev_p4 (q := (yX11_draw, 18)) (List.mem_of_getElem? (i := 0) rfl)
abbrev YX11_checkOf : ev_Y := (yX11_checkOf, cX11_checkOf, 4, (some .int), 11)
set_option maxRecDepth 100000 in
theorem mwX11_checkOf : ev_mw YX11_checkOf 2 := ⟨ev_t5 (List.mem_of_getElem? (i := 164) rfl), ev_t1 (List.mem_of_getElem? (i := 1) rfl), by decide, by decide +kernel, by decide +kernel, by decide +kernel⟩
set_option maxRecDepth 100000 in
theorem swX11_checkOf : Cond.static YX11_checkOf.1 ∈ lw_tbl := ev_t5 (List.mem_of_getElem? (i := 163) rfl)
abbrev YX11_isPicture : ev_Y := (yX11_isPicture, cX11_isPicture, 4, (some .boolean), 11)
set_option maxRecDepth 100000 in
theorem mwX11_isPicture : ev_mw YX11_isPicture 0 := ⟨ev_t5 (List.mem_of_getElem? (i := 176) rfl), ev_t1 (List.mem_of_getElem? (i := 1) rfl), by decide, by decide +kernel, by decide +kernel, by decide +kernel⟩
set_option maxRecDepth 100000 in
theorem iwX11_isPicture : Cond.instanceMethod YX11_isPicture.1 ∈ lw_tbl := ev_t5 (List.mem_of_getElem? (i := 175) rfl)
set_option maxRecDepth 100000 in
theorem vwX11_isPicture : Cond.selects YX11_isPicture.1.cls YX11_isPicture.1 YX11_isPicture.1 ∈ lw_tbl := ev_p4 (q := (yX11_isPicture, 18)) (List.mem_of_getElem? (i := 8) rfl)
abbrev YX11_takePicture : ev_Y := (yX11_takePicture, cX11_takePicture, 3, none, 11)
set_option maxRecDepth 100000 in
theorem mwX11_takePicture : ev_mw YX11_takePicture 0 := ⟨ev_t5 (List.mem_of_getElem? (i := 180) rfl), ev_t1 (List.mem_of_getElem? (i := 1) rfl), by decide, by decide +kernel, by decide +kernel, by decide +kernel⟩
set_option maxRecDepth 100000 in
theorem iwX11_takePicture : Cond.instanceMethod YX11_takePicture.1 ∈ lw_tbl := ev_t5 (List.mem_of_getElem? (i := 179) rfl)
set_option maxRecDepth 100000 in
theorem vwX11_takePicture : Cond.selects YX11_takePicture.1.cls YX11_takePicture.1 YX11_takePicture.1 ∈ lw_tbl := ev_p4 (q := (yX11_takePicture, 18)) (List.mem_of_getElem? (i := 9) rfl)
abbrev YX12_init : ev_Y := (yX12_init, cX12_init, 1, none, 12)
set_option maxRecDepth 100000 in
theorem mwX12_init : ev_mw YX12_init 0 := ⟨ev_t5 (List.mem_of_getElem? (i := 189) rfl), ev_t1 (List.mem_of_getElem? (i := 13) rfl), by decide, by decide +kernel, by decide +kernel, by decide +kernel⟩
set_option maxRecDepth 100000 in
theorem iwX12_init : Cond.instanceMethod YX12_init.1 ∈ lw_tbl := ev_t5 (List.mem_of_getElem? (i := 188) rfl)
abbrev YX12_isIn : ev_Y := (yX12_isIn, cX12_isIn, 6, (some .boolean), 12)
set_option maxRecDepth 100000 in
theorem mwX12_isIn : ev_mw YX12_isIn 3 := ⟨ev_t7 (List.mem_of_getElem? (i := 74) rfl), ev_t1 (List.mem_of_getElem? (i := 13) rfl), by decide, by decide +kernel, by decide +kernel, by decide +kernel⟩
set_option maxRecDepth 100000 in
theorem swX12_isIn : Cond.static YX12_isIn.1 ∈ lw_tbl := ev_t7 (List.mem_of_getElem? (i := 73) rfl)
abbrev YX12_feed : ev_Y := (yX12_feed, cX12_feed, 8, (some .int), 12)
set_option maxRecDepth 100000 in
theorem mwX12_feed : ev_mw YX12_feed 5 := ⟨ev_t7 (List.mem_of_getElem? (i := 29) rfl), ev_t1 (List.mem_of_getElem? (i := 13) rfl), by decide, by decide +kernel, by decide +kernel, by decide +kernel⟩
set_option maxRecDepth 100000 in
theorem iwX12_feed : Cond.instanceMethod YX12_feed.1 ∈ lw_tbl := ev_t7 (List.mem_of_getElem? (i := 27) rfl)
set_option maxRecDepth 100000 in
theorem vwX12_feed : Cond.selects YX12_feed.1.cls YX12_feed.1 YX12_feed.1 ∈ lw_tbl := ev_t7 (List.mem_of_getElem? (i := 28) rfl)
abbrev YX12_end : ev_Y := (yX12_end, cX12_end, 2, (some .boolean), 12)
set_option maxRecDepth 100000 in
theorem mwX12_end : ev_mw YX12_end 1 := ⟨ev_t7 (List.mem_of_getElem? (i := 33) rfl), ev_t1 (List.mem_of_getElem? (i := 13) rfl), by decide, by decide +kernel, by decide +kernel, by decide +kernel⟩
set_option maxRecDepth 100000 in
theorem iwX12_end : Cond.instanceMethod YX12_end.1 ∈ lw_tbl := ev_t7 (List.mem_of_getElem? (i := 31) rfl)
set_option maxRecDepth 100000 in
theorem vwX12_end : Cond.selects YX12_end.1.cls YX12_end.1 YX12_end.1 ∈ lw_tbl := ev_t7 (List.mem_of_getElem? (i := 32) rfl)
abbrev YX12_fail : ev_Y := (yX12_fail, cX12_fail, 3, none, 12)
set_option maxRecDepth 100000 in
theorem mwX12_fail : ev_mw YX12_fail 2 := ⟨ev_t7 (List.mem_of_getElem? (i := 64) rfl), ev_t1 (List.mem_of_getElem? (i := 13) rfl), by decide, by decide +kernel, by decide +kernel, by decide +kernel⟩
set_option maxRecDepth 100000 in
theorem iwX12_fail : Cond.instanceMethod YX12_fail.1 ∈ lw_tbl := ev_t7 (List.mem_of_getElem? (i := 63) rfl)
set_option maxRecDepth 100000 in
theorem vwX12_fail : Cond.selects YX12_fail.1.cls YX12_fail.1 YX12_fail.1 ∈ lw_tbl := ev_p4 (q := (yX12_fail, 104)) (List.mem_of_getElem? (i := 15) rfl)
abbrev YX12_isLetter : ev_Y := (yX12_isLetter, cX12_isLetter, 1, (some .boolean), 12)
set_option maxRecDepth 100000 in
theorem mwX12_isLetter : ev_mw YX12_isLetter 1 := ⟨ev_t7 (List.mem_of_getElem? (i := 60) rfl), ev_t1 (List.mem_of_getElem? (i := 13) rfl), by decide, by decide +kernel, by decide +kernel, by decide +kernel⟩
set_option maxRecDepth 100000 in
theorem swX12_isLetter : Cond.static YX12_isLetter.1 ∈ lw_tbl := ev_t7 (List.mem_of_getElem? (i := 59) rfl)
abbrev YX12_isDigit : ev_Y := (yX12_isDigit, cX12_isDigit, 1, (some .boolean), 12)
set_option maxRecDepth 100000 in
theorem mwX12_isDigit : ev_mw YX12_isDigit 1 := ⟨ev_t7 (List.mem_of_getElem? (i := 71) rfl), ev_t1 (List.mem_of_getElem? (i := 13) rfl), by decide, by decide +kernel, by decide +kernel, by decide +kernel⟩
set_option maxRecDepth 100000 in
theorem swX12_isDigit : Cond.static YX12_isDigit.1 ∈ lw_tbl := ev_t7 (List.mem_of_getElem? (i := 70) rfl)
abbrev YX12_look : ev_Y := (yX12_look, cX12_look, 1, (some .int), 12)
set_option maxRecDepth 100000 in
theorem mwX12_look : ev_mw YX12_look 0 := ⟨ev_t7 (List.mem_of_getElem? (i := 57) rfl), ev_t1 (List.mem_of_getElem? (i := 13) rfl), by decide, by decide +kernel, by decide +kernel, by decide +kernel⟩
set_option maxRecDepth 100000 in
theorem iwX12_look : Cond.instanceMethod YX12_look.1 ∈ lw_tbl := ev_t7 (List.mem_of_getElem? (i := 56) rfl)
set_option maxRecDepth 100000 in
theorem vwX12_look : Cond.selects YX12_look.1.cls YX12_look.1 YX12_look.1 ∈ lw_tbl := ev_p4 (q := (yX12_look, 104)) (List.mem_of_getElem? (i := 14) rfl)
abbrev YX12_isHere : ev_Y := (yX12_isHere, cX12_isHere, 4, (some .boolean), 12)
set_option maxRecDepth 100000 in
theorem mwX12_isHere : ev_mw YX12_isHere 1 := ⟨ev_t7 (List.mem_of_getElem? (i := 53) rfl), ev_t1 (List.mem_of_getElem? (i := 13) rfl), by decide, by decide +kernel, by decide +kernel, by decide +kernel⟩
set_option maxRecDepth 100000 in
theorem iwX12_isHere : Cond.instanceMethod YX12_isHere.1 ∈ lw_tbl := ev_t7 (List.mem_of_getElem? (i := 52) rfl)
set_option maxRecDepth 100000 in
theorem vwX12_isHere : Cond.selects YX12_isHere.1.cls YX12_isHere.1 YX12_isHere.1 ∈ lw_tbl := ev_p4 (q := (yX12_isHere, 104)) (List.mem_of_getElem? (i := 13) rfl)
abbrev YX12_takes : ev_Y := (yX12_takes, cX12_takes, 2, (some .boolean), 12)
set_option maxRecDepth 100000 in
theorem mwX12_takes : ev_mw YX12_takes 1 := ⟨ev_t7 (List.mem_of_getElem? (i := 49) rfl), ev_t1 (List.mem_of_getElem? (i := 13) rfl), by decide, by decide +kernel, by decide +kernel, by decide +kernel⟩
set_option maxRecDepth 100000 in
theorem iwX12_takes : Cond.instanceMethod YX12_takes.1 ∈ lw_tbl := ev_t7 (List.mem_of_getElem? (i := 48) rfl)
set_option maxRecDepth 100000 in
theorem vwX12_takes : Cond.selects YX12_takes.1.cls YX12_takes.1 YX12_takes.1 ∈ lw_tbl := ev_p4 (q := (yX12_takes, 104)) (List.mem_of_getElem? (i := 12) rfl)
abbrev YX12_asks : ev_Y := (yX12_asks, cX12_asks, 2, none, 12)
set_option maxRecDepth 100000 in
theorem mwX12_asks : ev_mw YX12_asks 1 := ⟨ev_t7 (List.mem_of_getElem? (i := 45) rfl), ev_t1 (List.mem_of_getElem? (i := 13) rfl), by decide, by decide +kernel, by decide +kernel, by decide +kernel⟩
set_option maxRecDepth 100000 in
theorem iwX12_asks : Cond.instanceMethod YX12_asks.1 ∈ lw_tbl := ev_t7 (List.mem_of_getElem? (i := 44) rfl)
set_option maxRecDepth 100000 in
theorem vwX12_asks : Cond.selects YX12_asks.1.cls YX12_asks.1 YX12_asks.1 ∈ lw_tbl := ev_p4 (q := (yX12_asks, 104)) (List.mem_of_getElem? (i := 11) rfl)
abbrev YX12_takesSign : ev_Y := (yX12_takesSign, cX12_takesSign, 2, (some .boolean), 12)
set_option maxRecDepth 100000 in
theorem mwX12_takesSign : ev_mw YX12_takesSign 1 := ⟨ev_t7 (List.mem_of_getElem? (i := 82) rfl), ev_t1 (List.mem_of_getElem? (i := 13) rfl), by decide, by decide +kernel, by decide +kernel, by decide +kernel⟩
set_option maxRecDepth 100000 in
theorem iwX12_takesSign : Cond.instanceMethod YX12_takesSign.1 ∈ lw_tbl := ev_t7 (List.mem_of_getElem? (i := 81) rfl)
set_option maxRecDepth 100000 in
theorem vwX12_takesSign : Cond.selects YX12_takesSign.1.cls YX12_takesSign.1 YX12_takesSign.1 ∈ lw_tbl := ev_p5 (q := (yX12_takesSign, 104)) (List.mem_of_getElem? (i := 2) rfl)
abbrev YX12_asksSign : ev_Y := (yX12_asksSign, cX12_asksSign, 2, none, 12)
set_option maxRecDepth 100000 in
theorem mwX12_asksSign : ev_mw YX12_asksSign 1 := ⟨ev_t7 (List.mem_of_getElem? (i := 78) rfl), ev_t1 (List.mem_of_getElem? (i := 13) rfl), by decide, by decide +kernel, by decide +kernel, by decide +kernel⟩
set_option maxRecDepth 100000 in
theorem iwX12_asksSign : Cond.instanceMethod YX12_asksSign.1 ∈ lw_tbl := ev_t7 (List.mem_of_getElem? (i := 77) rfl)
set_option maxRecDepth 100000 in
theorem vwX12_asksSign : Cond.selects YX12_asksSign.1.cls YX12_asksSign.1 YX12_asksSign.1 ∈ lw_tbl := ev_p5 (q := (yX12_asksSign, 104)) (List.mem_of_getElem? (i := 1) rfl)
abbrev YX12_number : ev_Y := (yX12_number, cX12_number, 5, (some .int), 12)
set_option maxRecDepth 100000 in
theorem mwX12_number : ev_mw YX12_number 2 := ⟨ev_t7 (List.mem_of_getElem? (i := 68) rfl), ev_t1 (List.mem_of_getElem? (i := 13) rfl), by decide, by decide +kernel, by decide +kernel, by decide +kernel⟩
set_option maxRecDepth 100000 in
theorem iwX12_number : Cond.instanceMethod YX12_number.1 ∈ lw_tbl := ev_t7 (List.mem_of_getElem? (i := 67) rfl)
set_option maxRecDepth 100000 in
theorem vwX12_number : Cond.selects YX12_number.1.cls YX12_number.1 YX12_number.1 ∈ lw_tbl := ev_p5 (q := (yX12_number, 104)) (List.mem_of_getElem? (i := 0) rfl)
abbrev YX12_isOwnHere : ev_Y := (yX12_isOwnHere, cX12_isOwnHere, 2, (some .boolean), 12)
set_option maxRecDepth 100000 in
theorem mwX12_isOwnHere : ev_mw YX12_isOwnHere 0 := ⟨ev_t7 (List.mem_of_getElem? (i := 98) rfl), ev_t1 (List.mem_of_getElem? (i := 13) rfl), by decide, by decide +kernel, by decide +kernel, by decide +kernel⟩
set_option maxRecDepth 100000 in
theorem iwX12_isOwnHere : Cond.instanceMethod YX12_isOwnHere.1 ∈ lw_tbl := ev_t7 (List.mem_of_getElem? (i := 97) rfl)
set_option maxRecDepth 100000 in
theorem vwX12_isOwnHere : Cond.selects YX12_isOwnHere.1.cls YX12_isOwnHere.1 YX12_isOwnHere.1 ∈ lw_tbl := ev_p5 (q := (yX12_isOwnHere, 104)) (List.mem_of_getElem? (i := 6) rfl)
abbrev YX12_name : ev_Y := (yX12_name, cX12_name, 3, (some .long), 12)
set_option maxRecDepth 100000 in
theorem mwX12_name : ev_mw YX12_name 0 := ⟨ev_t7 (List.mem_of_getElem? (i := 94) rfl), ev_t1 (List.mem_of_getElem? (i := 13) rfl), by decide, by decide +kernel, by decide +kernel, by decide +kernel⟩
set_option maxRecDepth 100000 in
theorem iwX12_name : Cond.instanceMethod YX12_name.1 ∈ lw_tbl := ev_t7 (List.mem_of_getElem? (i := 93) rfl)
set_option maxRecDepth 100000 in
theorem vwX12_name : Cond.selects YX12_name.1.cls YX12_name.1 YX12_name.1 ∈ lw_tbl := ev_p5 (q := (yX12_name, 104)) (List.mem_of_getElem? (i := 5) rfl)
abbrev YX12_isAllowed : ev_Y := (yX12_isAllowed, cX12_isAllowed, 2, (some .boolean), 12)
set_option maxRecDepth 100000 in
theorem mwX12_isAllowed : ev_mw YX12_isAllowed 1 := ⟨ev_t7 (List.mem_of_getElem? (i := 132) rfl), ev_t1 (List.mem_of_getElem? (i := 13) rfl), by decide, by decide +kernel, by decide +kernel, by decide +kernel⟩
set_option maxRecDepth 100000 in
theorem iwX12_isAllowed : Cond.instanceMethod YX12_isAllowed.1 ∈ lw_tbl := ev_t7 (List.mem_of_getElem? (i := 131) rfl)
set_option maxRecDepth 100000 in
theorem vwX12_isAllowed : Cond.selects YX12_isAllowed.1.cls YX12_isAllowed.1 YX12_isAllowed.1 ∈ lw_tbl := ev_p5 (q := (yX12_isAllowed, 104)) (List.mem_of_getElem? (i := 14) rfl)
abbrev YX12_nameOf : ev_Y := (yX12_nameOf, cX12_nameOf, 4, (some .int), 12)
set_option maxRecDepth 100000 in
theorem mwX12_nameOf : ev_mw YX12_nameOf 1 := ⟨ev_t7 (List.mem_of_getElem? (i := 104) rfl), ev_t1 (List.mem_of_getElem? (i := 13) rfl), by decide, by decide +kernel, by decide +kernel, by decide +kernel⟩
set_option maxRecDepth 100000 in
theorem iwX12_nameOf : Cond.instanceMethod YX12_nameOf.1 ∈ lw_tbl := ev_t7 (List.mem_of_getElem? (i := 103) rfl)
set_option maxRecDepth 100000 in
theorem vwX12_nameOf : Cond.selects YX12_nameOf.1.cls YX12_nameOf.1 YX12_nameOf.1 ∈ lw_tbl := ev_p5 (q := (yX12_nameOf, 104)) (List.mem_of_getElem? (i := 7) rfl)
abbrev YX12_callTold0 : ev_Y := (yX12_callTold0, cX12_callTold0, 1, none, 12)
set_option maxRecDepth 100000 in
theorem mwX12_callTold0 : ev_mw YX12_callTold0 0 := ⟨ev_t7 (List.mem_of_getElem? (i := 41) rfl), ev_t1 (List.mem_of_getElem? (i := 13) rfl), by decide, by decide +kernel, by decide +kernel, by decide +kernel⟩
set_option maxRecDepth 100000 in
theorem iwX12_callTold0 : Cond.instanceMethod YX12_callTold0.1 ∈ lw_tbl := ev_t7 (List.mem_of_getElem? (i := 40) rfl)
set_option maxRecDepth 100000 in
theorem vwX12_callTold0 : Cond.selects YX12_callTold0.1.cls YX12_callTold0.1 YX12_callTold0.1 ∈ lw_tbl := ev_p4 (q := (yX12_callTold0, 104)) (List.mem_of_getElem? (i := 10) rfl)
abbrev YX12_towerTold : ev_Y := (yX12_towerTold, cX12_towerTold, 6, none, 12)
set_option maxRecDepth 100000 in
theorem mwX12_towerTold : ev_mw YX12_towerTold 1 := ⟨ev_t7 (List.mem_of_getElem? (i := 90) rfl), ev_t1 (List.mem_of_getElem? (i := 13) rfl), by decide, by decide +kernel, by decide +kernel, by decide +kernel⟩
set_option maxRecDepth 100000 in
theorem iwX12_towerTold : Cond.instanceMethod YX12_towerTold.1 ∈ lw_tbl := ev_t7 (List.mem_of_getElem? (i := 89) rfl)
set_option maxRecDepth 100000 in
theorem vwX12_towerTold : Cond.selects YX12_towerTold.1.cls YX12_towerTold.1 YX12_towerTold.1 ∈ lw_tbl := ev_p5 (q := (yX12_towerTold, 104)) (List.mem_of_getElem? (i := 4) rfl)
abbrev YX12_yesTold : ev_Y := (yX12_yesTold, cX12_yesTold, 4, none, 12)
set_option maxRecDepth 100000 in
theorem mwX12_yesTold : ev_mw YX12_yesTold 0 := ⟨ev_t7 (List.mem_of_getElem? (i := 108) rfl), ev_t1 (List.mem_of_getElem? (i := 13) rfl), by decide, by decide +kernel, by decide +kernel, by decide +kernel⟩
set_option maxRecDepth 100000 in
theorem iwX12_yesTold : Cond.instanceMethod YX12_yesTold.1 ∈ lw_tbl := ev_t7 (List.mem_of_getElem? (i := 107) rfl)
set_option maxRecDepth 100000 in
theorem vwX12_yesTold : Cond.selects YX12_yesTold.1.cls YX12_yesTold.1 YX12_yesTold.1 ∈ lw_tbl := ev_p5 (q := (yX12_yesTold, 104)) (List.mem_of_getElem? (i := 8) rfl)
abbrev YX12_codesTold : ev_Y := (yX12_codesTold, cX12_codesTold, 4, none, 12)
set_option maxRecDepth 100000 in
theorem mwX12_codesTold : ev_mw YX12_codesTold 2 := ⟨ev_t7 (List.mem_of_getElem? (i := 112) rfl), ev_t1 (List.mem_of_getElem? (i := 13) rfl), by decide, by decide +kernel, by decide +kernel, by decide +kernel⟩
set_option maxRecDepth 100000 in
theorem iwX12_codesTold : Cond.instanceMethod YX12_codesTold.1 ∈ lw_tbl := ev_t7 (List.mem_of_getElem? (i := 111) rfl)
set_option maxRecDepth 100000 in
theorem vwX12_codesTold : Cond.selects YX12_codesTold.1.cls YX12_codesTold.1 YX12_codesTold.1 ∈ lw_tbl := ev_p5 (q := (yX12_codesTold, 104)) (List.mem_of_getElem? (i := 9) rfl)
abbrev YX12_statementTold : ev_Y := (yX12_statementTold, cX12_statementTold, 2, none, 12)
set_option maxRecDepth 100000 in
theorem mwX12_statementTold : ev_mw YX12_statementTold 0 := ⟨ev_t7 (List.mem_of_getElem? (i := 86) rfl), ev_t1 (List.mem_of_getElem? (i := 13) rfl), by decide, by decide +kernel, by decide +kernel, by decide +kernel⟩
set_option maxRecDepth 100000 in
theorem iwX12_statementTold : Cond.instanceMethod YX12_statementTold.1 ∈ lw_tbl := ev_t7 (List.mem_of_getElem? (i := 85) rfl)
set_option maxRecDepth 100000 in
theorem vwX12_statementTold : Cond.selects YX12_statementTold.1.cls YX12_statementTold.1 YX12_statementTold.1 ∈ lw_tbl := ev_p5 (q := (yX12_statementTold, 104)) (List.mem_of_getElem? (i := 3) rfl)
abbrev YX12_castle : ev_Y := (yX12_castle, cX12_castle, 1, (some .int), 12)
set_option maxRecDepth 100000 in
theorem mwX12_castle : ev_mw YX12_castle 0 := ⟨ev_t7 (List.mem_of_getElem? (i := 37) rfl), ev_t1 (List.mem_of_getElem? (i := 13) rfl), by decide, by decide +kernel, by decide +kernel, by decide +kernel⟩
set_option maxRecDepth 100000 in
theorem iwX12_castle : Cond.instanceMethod YX12_castle.1 ∈ lw_tbl := ev_t7 (List.mem_of_getElem? (i := 35) rfl)
set_option maxRecDepth 100000 in
theorem vwX12_castle : Cond.selects YX12_castle.1.cls YX12_castle.1 YX12_castle.1 ∈ lw_tbl := ev_t7 (List.mem_of_getElem? (i := 36) rfl)
abbrev YX12_stands : ev_Y := (yX12_stands, cX12_stands, 2, none, 12)
set_option maxRecDepth 100000 in
theorem mwX12_stands : ev_mw YX12_stands 0 := ⟨ev_t7 (List.mem_of_getElem? (i := 176) rfl), ev_t1 (List.mem_of_getElem? (i := 13) rfl), by decide, by decide +kernel, by decide +kernel, by decide +kernel⟩
set_option maxRecDepth 100000 in
theorem iwX12_stands : Cond.instanceMethod YX12_stands.1 ∈ lw_tbl := ev_t7 (List.mem_of_getElem? (i := 175) rfl)
set_option maxRecDepth 100000 in
theorem vwX12_stands : Cond.selects YX12_stands.1.cls YX12_stands.1 YX12_stands.1 ∈ lw_tbl := ev_p6 (q := (yX12_stands, 104)) (List.mem_of_getElem? (i := 8) rfl)
abbrev YX12_fault : ev_Y := (yX12_fault, cX12_fault, 2, (some .int), 12)
set_option maxRecDepth 100000 in
theorem mwX12_fault : ev_mw YX12_fault 1 := ⟨ev_t7 (List.mem_of_getElem? (i := 180) rfl), ev_t1 (List.mem_of_getElem? (i := 13) rfl), by decide, by decide +kernel, by decide +kernel, by decide +kernel⟩
set_option maxRecDepth 100000 in
theorem iwX12_fault : Cond.instanceMethod YX12_fault.1 ∈ lw_tbl := ev_t7 (List.mem_of_getElem? (i := 178) rfl)
set_option maxRecDepth 100000 in
theorem vwX12_fault : Cond.selects YX12_fault.1.cls YX12_fault.1 YX12_fault.1 ∈ lw_tbl := ev_t7 (List.mem_of_getElem? (i := 179) rfl)
abbrev YX12_towerMany : ev_Y := (yX12_towerMany, cX12_towerMany, 1, (some .int), 12)
set_option maxRecDepth 100000 in
theorem mwX12_towerMany : ev_mw YX12_towerMany 0 := ⟨ev_t7 (List.mem_of_getElem? (i := 188) rfl), ev_t1 (List.mem_of_getElem? (i := 13) rfl), by decide, by decide +kernel, by decide +kernel, by decide +kernel⟩
set_option maxRecDepth 100000 in
theorem iwX12_towerMany : Cond.instanceMethod YX12_towerMany.1 ∈ lw_tbl := ev_t7 (List.mem_of_getElem? (i := 187) rfl)
set_option maxRecDepth 100000 in
theorem vwX12_towerMany : Cond.selects YX12_towerMany.1.cls YX12_towerMany.1 YX12_towerMany.1 ∈ lw_tbl := ev_p6 (q := (yX12_towerMany, 104)) (List.mem_of_getElem? (i := 9) rfl)
abbrev YX12_isTower : ev_Y := (yX12_isTower, cX12_isTower, 2, (some .boolean), 12)
set_option maxRecDepth 100000 in
theorem mwX12_isTower : ev_mw YX12_isTower 1 := ⟨ev_t7 (List.mem_of_getElem? (i := 200) rfl), ev_t1 (List.mem_of_getElem? (i := 13) rfl), by decide, by decide +kernel, by decide +kernel, by decide +kernel⟩
set_option maxRecDepth 100000 in
theorem iwX12_isTower : Cond.instanceMethod YX12_isTower.1 ∈ lw_tbl := ev_t7 (List.mem_of_getElem? (i := 199) rfl)
set_option maxRecDepth 100000 in
theorem vwX12_isTower : Cond.selects YX12_isTower.1.cls YX12_isTower.1 YX12_isTower.1 ∈ lw_tbl := ev_p6 (q := (yX12_isTower, 104)) (List.mem_of_getElem? (i := 11) rfl)
abbrev YX12_moodOf : ev_Y := (yX12_moodOf, cX12_moodOf, 2, (some .int), 12)
set_option maxRecDepth 100000 in
theorem mwX12_moodOf : ev_mw YX12_moodOf 1 := ⟨ev_t8 (List.mem_of_getElem? (i := 19) rfl), ev_t1 (List.mem_of_getElem? (i := 13) rfl), by decide, by decide +kernel, by decide +kernel, by decide +kernel⟩
set_option maxRecDepth 100000 in
theorem iwX12_moodOf : Cond.instanceMethod YX12_moodOf.1 ∈ lw_tbl := ev_t8 (List.mem_of_getElem? (i := 18) rfl)
set_option maxRecDepth 100000 in
theorem vwX12_moodOf : Cond.selects YX12_moodOf.1.cls YX12_moodOf.1 YX12_moodOf.1 ∈ lw_tbl := ev_p7 (q := (yX12_moodOf, 104)) (List.mem_of_getElem? (i := 6) rfl)
abbrev YX12_cheerOf : ev_Y := (yX12_cheerOf, cX12_cheerOf, 2, (some .int), 12)
set_option maxRecDepth 100000 in
theorem mwX12_cheerOf : ev_mw YX12_cheerOf 1 := ⟨ev_t8 (List.mem_of_getElem? (i := 23) rfl), ev_t1 (List.mem_of_getElem? (i := 13) rfl), by decide, by decide +kernel, by decide +kernel, by decide +kernel⟩
set_option maxRecDepth 100000 in
theorem iwX12_cheerOf : Cond.instanceMethod YX12_cheerOf.1 ∈ lw_tbl := ev_t8 (List.mem_of_getElem? (i := 22) rfl)
set_option maxRecDepth 100000 in
theorem vwX12_cheerOf : Cond.selects YX12_cheerOf.1.cls YX12_cheerOf.1 YX12_cheerOf.1 ∈ lw_tbl := ev_p7 (q := (yX12_cheerOf, 104)) (List.mem_of_getElem? (i := 7) rfl)
abbrev YX12_isYes : ev_Y := (yX12_isYes, cX12_isYes, 2, (some .boolean), 12)
set_option maxRecDepth 100000 in
theorem mwX12_isYes : ev_mw YX12_isYes 1 := ⟨ev_t8 (List.mem_of_getElem? (i := 3) rfl), ev_t1 (List.mem_of_getElem? (i := 13) rfl), by decide, by decide +kernel, by decide +kernel, by decide +kernel⟩
set_option maxRecDepth 100000 in
theorem iwX12_isYes : Cond.instanceMethod YX12_isYes.1 ∈ lw_tbl := ev_t8 (List.mem_of_getElem? (i := 2) rfl)
set_option maxRecDepth 100000 in
theorem vwX12_isYes : Cond.selects YX12_isYes.1.cls YX12_isYes.1 YX12_isYes.1 ∈ lw_tbl := ev_p7 (q := (yX12_isYes, 104)) (List.mem_of_getElem? (i := 2) rfl)
abbrev YX12_codesTell : ev_Y := (yX12_codesTell, cX12_codesTell, 5, (some .long), 12)
set_option maxRecDepth 100000 in
theorem mwX12_codesTell : ev_mw YX12_codesTell 2 := ⟨ev_t8 (List.mem_of_getElem? (i := 7) rfl), ev_t1 (List.mem_of_getElem? (i := 13) rfl), by decide, by decide +kernel, by decide +kernel, by decide +kernel⟩
set_option maxRecDepth 100000 in
theorem iwX12_codesTell : Cond.instanceMethod YX12_codesTell.1 ∈ lw_tbl := ev_t8 (List.mem_of_getElem? (i := 6) rfl)
set_option maxRecDepth 100000 in
theorem vwX12_codesTell : Cond.selects YX12_codesTell.1.cls YX12_codesTell.1 YX12_codesTell.1 ∈ lw_tbl := ev_p7 (q := (yX12_codesTell, 104)) (List.mem_of_getElem? (i := 3) rfl)
abbrev YX12_cut : ev_Y := (yX12_cut, cX12_cut, 2, (some .int), 12)
set_option maxRecDepth 100000 in
theorem mwX12_cut : ev_mw YX12_cut 1 := ⟨ev_t8 (List.mem_of_getElem? (i := 43) rfl), ev_t1 (List.mem_of_getElem? (i := 13) rfl), by decide, by decide +kernel, by decide +kernel, by decide +kernel⟩
set_option maxRecDepth 100000 in
theorem swX12_cut : Cond.static YX12_cut.1 ∈ lw_tbl := ev_t8 (List.mem_of_getElem? (i := 42) rfl)
abbrev YX12_saidBy : ev_Y := (yX12_saidBy, cX12_saidBy, 3, (some .int), 12)
set_option maxRecDepth 100000 in
theorem mwX12_saidBy : ev_mw YX12_saidBy 1 := ⟨ev_t7 (List.mem_of_getElem? (i := 239) rfl), ev_t1 (List.mem_of_getElem? (i := 13) rfl), by decide, by decide +kernel, by decide +kernel, by decide +kernel⟩
set_option maxRecDepth 100000 in
theorem iwX12_saidBy : Cond.instanceMethod YX12_saidBy.1 ∈ lw_tbl := ev_t7 (List.mem_of_getElem? (i := 238) rfl)
set_option maxRecDepth 100000 in
theorem vwX12_saidBy : Cond.selects YX12_saidBy.1.cls YX12_saidBy.1 YX12_saidBy.1 ∈ lw_tbl := ev_p7 (q := (yX12_saidBy, 104)) (List.mem_of_getElem? (i := 1) rfl)
abbrev YX12_feltBy : ev_Y := (yX12_feltBy, cX12_feltBy, 2, (some .int), 12)
set_option maxRecDepth 100000 in
theorem mwX12_feltBy : ev_mw YX12_feltBy 1 := ⟨ev_t8 (List.mem_of_getElem? (i := 48) rfl), ev_t1 (List.mem_of_getElem? (i := 13) rfl), by decide, by decide +kernel, by decide +kernel, by decide +kernel⟩
set_option maxRecDepth 100000 in
theorem iwX12_feltBy : Cond.instanceMethod YX12_feltBy.1 ∈ lw_tbl := ev_t8 (List.mem_of_getElem? (i := 47) rfl)
set_option maxRecDepth 100000 in
theorem vwX12_feltBy : Cond.selects YX12_feltBy.1.cls YX12_feltBy.1 YX12_feltBy.1 ∈ lw_tbl := ev_p7 (q := (yX12_feltBy, 104)) (List.mem_of_getElem? (i := 10) rfl)
abbrev YX12_isDoubt : ev_Y := (yX12_isDoubt, cX12_isDoubt, 2, (some .boolean), 12)
set_option maxRecDepth 100000 in
theorem mwX12_isDoubt : ev_mw YX12_isDoubt 1 := ⟨ev_t8 (List.mem_of_getElem? (i := 56) rfl), ev_t1 (List.mem_of_getElem? (i := 13) rfl), by decide, by decide +kernel, by decide +kernel, by decide +kernel⟩
set_option maxRecDepth 100000 in
theorem iwX12_isDoubt : Cond.instanceMethod YX12_isDoubt.1 ∈ lw_tbl := ev_t8 (List.mem_of_getElem? (i := 55) rfl)
set_option maxRecDepth 100000 in
theorem vwX12_isDoubt : Cond.selects YX12_isDoubt.1.cls YX12_isDoubt.1 YX12_isDoubt.1 ∈ lw_tbl := ev_p7 (q := (yX12_isDoubt, 104)) (List.mem_of_getElem? (i := 12) rfl)
abbrev YX12_rowAt : ev_Y := (yX12_rowAt, cX12_rowAt, 3, (some .int), 12)
set_option maxRecDepth 100000 in
theorem mwX12_rowAt : ev_mw YX12_rowAt 1 := ⟨ev_t8 (List.mem_of_getElem? (i := 64) rfl), ev_t1 (List.mem_of_getElem? (i := 13) rfl), by decide, by decide +kernel, by decide +kernel, by decide +kernel⟩
set_option maxRecDepth 100000 in
theorem iwX12_rowAt : Cond.instanceMethod YX12_rowAt.1 ∈ lw_tbl := ev_t8 (List.mem_of_getElem? (i := 63) rfl)
set_option maxRecDepth 100000 in
theorem vwX12_rowAt : Cond.selects YX12_rowAt.1.cls YX12_rowAt.1 YX12_rowAt.1 ∈ lw_tbl := ev_p7 (q := (yX12_rowAt, 104)) (List.mem_of_getElem? (i := 14) rfl)
abbrev YX12_rowOf : ev_Y := (yX12_rowOf, cX12_rowOf, 3, (some .int), 12)
set_option maxRecDepth 100000 in
theorem mwX12_rowOf : ev_mw YX12_rowOf 1 := ⟨ev_t8 (List.mem_of_getElem? (i := 60) rfl), ev_t1 (List.mem_of_getElem? (i := 13) rfl), by decide, by decide +kernel, by decide +kernel, by decide +kernel⟩
set_option maxRecDepth 100000 in
theorem iwX12_rowOf : Cond.instanceMethod YX12_rowOf.1 ∈ lw_tbl := ev_t8 (List.mem_of_getElem? (i := 59) rfl)
set_option maxRecDepth 100000 in
theorem vwX12_rowOf : Cond.selects YX12_rowOf.1.cls YX12_rowOf.1 YX12_rowOf.1 ∈ lw_tbl := ev_p7 (q := (yX12_rowOf, 104)) (List.mem_of_getElem? (i := 13) rfl)
abbrev YX12_doubtsNow : ev_Y := (yX12_doubtsNow, cX12_doubtsNow, 3, (some .int), 12)
set_option maxRecDepth 100000 in
theorem mwX12_doubtsNow : ev_mw YX12_doubtsNow 0 := ⟨ev_t8 (List.mem_of_getElem? (i := 52) rfl), ev_t1 (List.mem_of_getElem? (i := 13) rfl), by decide, by decide +kernel, by decide +kernel, by decide +kernel⟩
set_option maxRecDepth 100000 in
theorem iwX12_doubtsNow : Cond.instanceMethod YX12_doubtsNow.1 ∈ lw_tbl := ev_t8 (List.mem_of_getElem? (i := 51) rfl)
set_option maxRecDepth 100000 in
theorem vwX12_doubtsNow : Cond.selects YX12_doubtsNow.1.cls YX12_doubtsNow.1 YX12_doubtsNow.1 ∈ lw_tbl := ev_p7 (q := (yX12_doubtsNow, 104)) (List.mem_of_getElem? (i := 11) rfl)
abbrev YX12_isKept : ev_Y := (yX12_isKept, cX12_isKept, 4, none, 12)
set_option maxRecDepth 100000 in
theorem mwX12_isKept : ev_mw YX12_isKept 2 := ⟨ev_t8 (List.mem_of_getElem? (i := 68) rfl), ev_t1 (List.mem_of_getElem? (i := 13) rfl), by decide, by decide +kernel, by decide +kernel, by decide +kernel⟩
set_option maxRecDepth 100000 in
theorem iwX12_isKept : Cond.instanceMethod YX12_isKept.1 ∈ lw_tbl := ev_t8 (List.mem_of_getElem? (i := 67) rfl)
set_option maxRecDepth 100000 in
theorem vwX12_isKept : Cond.selects YX12_isKept.1.cls YX12_isKept.1 YX12_isKept.1 ∈ lw_tbl := ev_p7 (q := (yX12_isKept, 104)) (List.mem_of_getElem? (i := 15) rfl)
abbrev YX12_roundGoes : ev_Y := (yX12_roundGoes, cX12_roundGoes, 2, none, 12)
set_option maxRecDepth 100000 in
theorem mwX12_roundGoes : ev_mw YX12_roundGoes 0 := ⟨ev_t7 (List.mem_of_getElem? (i := 235) rfl), ev_t1 (List.mem_of_getElem? (i := 13) rfl), by decide, by decide +kernel, by decide +kernel, by decide +kernel⟩
set_option maxRecDepth 100000 in
theorem iwX12_roundGoes : Cond.instanceMethod YX12_roundGoes.1 ∈ lw_tbl := ev_t7 (List.mem_of_getElem? (i := 234) rfl)
set_option maxRecDepth 100000 in
theorem vwX12_roundGoes : Cond.selects YX12_roundGoes.1.cls YX12_roundGoes.1 YX12_roundGoes.1 ∈ lw_tbl := ev_p7 (q := (yX12_roundGoes, 104)) (List.mem_of_getElem? (i := 0) rfl)
abbrev YX12_roundsGo : ev_Y := (yX12_roundsGo, cX12_roundsGo, 3, none, 12)
set_option maxRecDepth 100000 in
theorem mwX12_roundsGo : ev_mw YX12_roundsGo 1 := ⟨ev_t7 (List.mem_of_getElem? (i := 231) rfl), ev_t1 (List.mem_of_getElem? (i := 13) rfl), by decide, by decide +kernel, by decide +kernel, by decide +kernel⟩
set_option maxRecDepth 100000 in
theorem iwX12_roundsGo : Cond.instanceMethod YX12_roundsGo.1 ∈ lw_tbl := ev_t7 (List.mem_of_getElem? (i := 230) rfl)
set_option maxRecDepth 100000 in
theorem vwX12_roundsGo : Cond.selects YX12_roundsGo.1.cls YX12_roundsGo.1 YX12_roundsGo.1 ∈ lw_tbl := ev_p6 (q := (yX12_roundsGo, 104)) (List.mem_of_getElem? (i := 15) rfl)
abbrev YX12_putsAside : ev_Y := (yX12_putsAside, cX12_putsAside, 2, none, 12)
set_option maxRecDepth 100000 in
theorem mwX12_putsAside : ev_mw YX12_putsAside 0 := ⟨ev_t7 (List.mem_of_getElem? (i := 227) rfl), ev_t1 (List.mem_of_getElem? (i := 13) rfl), by decide, by decide +kernel, by decide +kernel, by decide +kernel⟩
set_option maxRecDepth 100000 in
theorem iwX12_putsAside : Cond.instanceMethod YX12_putsAside.1 ∈ lw_tbl := ev_t7 (List.mem_of_getElem? (i := 226) rfl)
set_option maxRecDepth 100000 in
theorem vwX12_putsAside : Cond.selects YX12_putsAside.1.cls YX12_putsAside.1 YX12_putsAside.1 ∈ lw_tbl := ev_p6 (q := (yX12_putsAside, 104)) (List.mem_of_getElem? (i := 14) rfl)
abbrev YX12_triesAnew : ev_Y := (yX12_triesAnew, cX12_triesAnew, 2, none, 12)
set_option maxRecDepth 100000 in
theorem mwX12_triesAnew : ev_mw YX12_triesAnew 0 := ⟨ev_t8 (List.mem_of_getElem? (i := 76) rfl), ev_t1 (List.mem_of_getElem? (i := 13) rfl), by decide, by decide +kernel, by decide +kernel, by decide +kernel⟩
set_option maxRecDepth 100000 in
theorem iwX12_triesAnew : Cond.instanceMethod YX12_triesAnew.1 ∈ lw_tbl := ev_t8 (List.mem_of_getElem? (i := 75) rfl)
set_option maxRecDepth 100000 in
theorem vwX12_triesAnew : Cond.selects YX12_triesAnew.1.cls YX12_triesAnew.1 YX12_triesAnew.1 ∈ lw_tbl := ev_p8 (q := (yX12_triesAnew, 104)) (List.mem_of_getElem? (i := 1) rfl)
abbrev YX12_takesBack : ev_Y := (yX12_takesBack, cX12_takesBack, 1, none, 12)
set_option maxRecDepth 100000 in
theorem mwX12_takesBack : ev_mw YX12_takesBack 0 := ⟨ev_t8 (List.mem_of_getElem? (i := 72) rfl), ev_t1 (List.mem_of_getElem? (i := 13) rfl), by decide, by decide +kernel, by decide +kernel, by decide +kernel⟩
set_option maxRecDepth 100000 in
theorem iwX12_takesBack : Cond.instanceMethod YX12_takesBack.1 ∈ lw_tbl := ev_t8 (List.mem_of_getElem? (i := 71) rfl)
set_option maxRecDepth 100000 in
theorem vwX12_takesBack : Cond.selects YX12_takesBack.1.cls YX12_takesBack.1 YX12_takesBack.1 ∈ lw_tbl := ev_p8 (q := (yX12_takesBack, 104)) (List.mem_of_getElem? (i := 0) rfl)
abbrev YX12_isAhead : ev_Y := (yX12_isAhead, cX12_isAhead, 4, (some .boolean), 12)
set_option maxRecDepth 100000 in
theorem mwX12_isAhead : ev_mw YX12_isAhead 3 := ⟨ev_t7 (List.mem_of_getElem? (i := 223) rfl), ev_t1 (List.mem_of_getElem? (i := 13) rfl), by decide, by decide +kernel, by decide +kernel, by decide +kernel⟩
set_option maxRecDepth 100000 in
theorem iwX12_isAhead : Cond.instanceMethod YX12_isAhead.1 ∈ lw_tbl := ev_t7 (List.mem_of_getElem? (i := 222) rfl)
set_option maxRecDepth 100000 in
theorem vwX12_isAhead : Cond.selects YX12_isAhead.1.cls YX12_isAhead.1 YX12_isAhead.1 ∈ lw_tbl := ev_p6 (q := (yX12_isAhead, 104)) (List.mem_of_getElem? (i := 13) rfl)
abbrev YX12_bits : ev_Y := (yX12_bits, cX12_bits, 3, (some .int), 12)
set_option maxRecDepth 100000 in
theorem mwX12_bits : ev_mw YX12_bits 1 := ⟨ev_t8 (List.mem_of_getElem? (i := 111) rfl), ev_t1 (List.mem_of_getElem? (i := 13) rfl), by decide, by decide +kernel, by decide +kernel, by decide +kernel⟩
set_option maxRecDepth 100000 in
theorem swX12_bits : Cond.static YX12_bits.1 ∈ lw_tbl := ev_t8 (List.mem_of_getElem? (i := 110) rfl)
abbrev YX12_summed : ev_Y := (yX12_summed, cX12_summed, 4, (some .int), 12)
set_option maxRecDepth 100000 in
theorem mwX12_summed : ev_mw YX12_summed 1 := ⟨ev_t7 (List.mem_of_getElem? (i := 192) rfl), ev_t1 (List.mem_of_getElem? (i := 13) rfl), by decide, by decide +kernel, by decide +kernel, by decide +kernel⟩
set_option maxRecDepth 100000 in
theorem iwX12_summed : Cond.instanceMethod YX12_summed.1 ∈ lw_tbl := ev_t7 (List.mem_of_getElem? (i := 191) rfl)
set_option maxRecDepth 100000 in
theorem vwX12_summed : Cond.selects YX12_summed.1.cls YX12_summed.1 YX12_summed.1 ∈ lw_tbl := ev_p6 (q := (yX12_summed, 104)) (List.mem_of_getElem? (i := 10) rfl)
abbrev YX12_has : ev_Y := (yX12_has, cX12_has, 2, (some .int), 12)
set_option maxRecDepth 100000 in
theorem mwX12_has : ev_mw YX12_has 1 := ⟨ev_t7 (List.mem_of_getElem? (i := 184) rfl), ev_t1 (List.mem_of_getElem? (i := 13) rfl), by decide, by decide +kernel, by decide +kernel, by decide +kernel⟩
set_option maxRecDepth 100000 in
theorem iwX12_has : Cond.instanceMethod YX12_has.1 ∈ lw_tbl := ev_t7 (List.mem_of_getElem? (i := 182) rfl)
set_option maxRecDepth 100000 in
theorem vwX12_has : Cond.selects YX12_has.1.cls YX12_has.1 YX12_has.1 ∈ lw_tbl := ev_t7 (List.mem_of_getElem? (i := 183) rfl)
abbrev YX12_letter : ev_Y := (yX12_letter, cX12_letter, 8, (some .int), 12)
set_option maxRecDepth 100000 in
theorem mwX12_letter : ev_mw YX12_letter 2 := ⟨ev_t7 (List.mem_of_getElem? (i := 196) rfl), ev_t1 (List.mem_of_getElem? (i := 13) rfl), by decide, by decide +kernel, by decide +kernel, by decide +kernel⟩
set_option maxRecDepth 100000 in
theorem iwX12_letter : Cond.instanceMethod YX12_letter.1 ∈ lw_tbl := ev_t7 (List.mem_of_getElem? (i := 194) rfl)
set_option maxRecDepth 100000 in
theorem vwX12_letter : Cond.selects YX12_letter.1.cls YX12_letter.1 YX12_letter.1 ∈ lw_tbl := ev_t7 (List.mem_of_getElem? (i := 195) rfl)
abbrev YX12_tower : ev_Y := (yX12_tower, cX12_tower, 3, (some .int), 12)
set_option maxRecDepth 100000 in
theorem mwX12_tower : ev_mw YX12_tower 2 := ⟨ev_t7 (List.mem_of_getElem? (i := 205) rfl), ev_t1 (List.mem_of_getElem? (i := 13) rfl), by decide, by decide +kernel, by decide +kernel, by decide +kernel⟩
set_option maxRecDepth 100000 in
theorem iwX12_tower : Cond.instanceMethod YX12_tower.1 ∈ lw_tbl := ev_t7 (List.mem_of_getElem? (i := 203) rfl)
set_option maxRecDepth 100000 in
theorem vwX12_tower : Cond.selects YX12_tower.1.cls YX12_tower.1 YX12_tower.1 ∈ lw_tbl := ev_t7 (List.mem_of_getElem? (i := 204) rfl)
abbrev YX12_kept : ev_Y := (yX12_kept, cX12_kept, 3, (some .int), 12)
set_option maxRecDepth 100000 in
theorem mwX12_kept : ev_mw YX12_kept 2 := ⟨ev_t7 (List.mem_of_getElem? (i := 210) rfl), ev_t1 (List.mem_of_getElem? (i := 13) rfl), by decide, by decide +kernel, by decide +kernel, by decide +kernel⟩
set_option maxRecDepth 100000 in
theorem iwX12_kept : Cond.instanceMethod YX12_kept.1 ∈ lw_tbl := ev_t7 (List.mem_of_getElem? (i := 208) rfl)
set_option maxRecDepth 100000 in
theorem vwX12_kept : Cond.selects YX12_kept.1.cls YX12_kept.1 YX12_kept.1 ∈ lw_tbl := ev_t7 (List.mem_of_getElem? (i := 209) rfl)
abbrev YX12_doGoTo : ev_Y := (yX12_doGoTo, cX12_doGoTo, 2, (some .boolean), 12)
set_option maxRecDepth 100000 in
theorem mwX12_doGoTo : ev_mw YX12_doGoTo 1 := ⟨ev_t7 (List.mem_of_getElem? (i := 218) rfl), ev_t1 (List.mem_of_getElem? (i := 13) rfl), by decide, by decide +kernel, by decide +kernel, by decide +kernel⟩
set_option maxRecDepth 100000 in
theorem iwX12_doGoTo : Cond.instanceMethod YX12_doGoTo.1 ∈ lw_tbl := ev_t7 (List.mem_of_getElem? (i := 217) rfl)
set_option maxRecDepth 100000 in
theorem vwX12_doGoTo : Cond.selects YX12_doGoTo.1.cls YX12_doGoTo.1 YX12_doGoTo.1 ∈ lw_tbl := ev_p6 (q := (yX12_doGoTo, 104)) (List.mem_of_getElem? (i := 12) rfl)
abbrev YX12_tone : ev_Y := (yX12_tone, cX12_tone, 3, (some .int), 12)
set_option maxRecDepth 100000 in
theorem mwX12_tone : ev_mw YX12_tone 2 := ⟨ev_t7 (List.mem_of_getElem? (i := 214) rfl), ev_t1 (List.mem_of_getElem? (i := 13) rfl), by decide, by decide +kernel, by decide +kernel, by decide +kernel⟩
set_option maxRecDepth 100000 in
theorem iwX12_tone : Cond.instanceMethod YX12_tone.1 ∈ lw_tbl := ev_t7 (List.mem_of_getElem? (i := 212) rfl)
set_option maxRecDepth 100000 in
theorem vwX12_tone : Cond.selects YX12_tone.1.cls YX12_tone.1 YX12_tone.1 ∈ lw_tbl := ev_t7 (List.mem_of_getElem? (i := 213) rfl)
abbrev YX12_mood : ev_Y := (yX12_mood, cX12_mood, 4, (some .int), 12)
set_option maxRecDepth 100000 in
theorem mwX12_mood : ev_mw YX12_mood 2 := ⟨ev_t8 (List.mem_of_getElem? (i := 80) rfl), ev_t1 (List.mem_of_getElem? (i := 13) rfl), by decide, by decide +kernel, by decide +kernel, by decide +kernel⟩
set_option maxRecDepth 100000 in
theorem iwX12_mood : Cond.instanceMethod YX12_mood.1 ∈ lw_tbl := ev_t8 (List.mem_of_getElem? (i := 78) rfl)
set_option maxRecDepth 100000 in
theorem vwX12_mood : Cond.selects YX12_mood.1.cls YX12_mood.1 YX12_mood.1 ∈ lw_tbl := ev_t8 (List.mem_of_getElem? (i := 79) rfl)
abbrev YX12_doubts : ev_Y := (yX12_doubts, cX12_doubts, 2, (some .int), 12)
set_option maxRecDepth 100000 in
theorem mwX12_doubts : ev_mw YX12_doubts 1 := ⟨ev_t8 (List.mem_of_getElem? (i := 84) rfl), ev_t1 (List.mem_of_getElem? (i := 13) rfl), by decide, by decide +kernel, by decide +kernel, by decide +kernel⟩
set_option maxRecDepth 100000 in
theorem iwX12_doubts : Cond.instanceMethod YX12_doubts.1 ∈ lw_tbl := ev_t8 (List.mem_of_getElem? (i := 82) rfl)
set_option maxRecDepth 100000 in
theorem vwX12_doubts : Cond.selects YX12_doubts.1.cls YX12_doubts.1 YX12_doubts.1 ∈ lw_tbl := ev_t8 (List.mem_of_getElem? (i := 83) rfl)
abbrev YX12_fire : ev_Y := (yX12_fire, cX12_fire, 3, (some .int), 12)
set_option maxRecDepth 100000 in
theorem mwX12_fire : ev_mw YX12_fire 0 := ⟨ev_t8 (List.mem_of_getElem? (i := 88) rfl), ev_t1 (List.mem_of_getElem? (i := 13) rfl), by decide, by decide +kernel, by decide +kernel, by decide +kernel⟩
set_option maxRecDepth 100000 in
theorem iwX12_fire : Cond.instanceMethod YX12_fire.1 ∈ lw_tbl := ev_t8 (List.mem_of_getElem? (i := 86) rfl)
set_option maxRecDepth 100000 in
theorem vwX12_fire : Cond.selects YX12_fire.1.cls YX12_fire.1 YX12_fire.1 ∈ lw_tbl := ev_t8 (List.mem_of_getElem? (i := 87) rfl)
abbrev YX12_isWritten : ev_Y := (yX12_isWritten, cX12_isWritten, 3, none, 12)
set_option maxRecDepth 100000 in
theorem mwX12_isWritten : ev_mw YX12_isWritten 1 := ⟨ev_t8 (List.mem_of_getElem? (i := 96) rfl), ev_t1 (List.mem_of_getElem? (i := 13) rfl), by decide, by decide +kernel, by decide +kernel, by decide +kernel⟩
set_option maxRecDepth 100000 in
theorem iwX12_isWritten : Cond.instanceMethod YX12_isWritten.1 ∈ lw_tbl := ev_t8 (List.mem_of_getElem? (i := 95) rfl)
set_option maxRecDepth 100000 in
theorem vwX12_isWritten : Cond.selects YX12_isWritten.1.cls YX12_isWritten.1 YX12_isWritten.1 ∈ lw_tbl := ev_p8 (q := (yX12_isWritten, 104)) (List.mem_of_getElem? (i := 2) rfl)
abbrev YX12_isAs : ev_Y := (yX12_isAs, cX12_isAs, 4, (some .boolean), 12)
set_option maxRecDepth 100000 in
theorem mwX12_isAs : ev_mw YX12_isAs 2 := ⟨ev_t8 (List.mem_of_getElem? (i := 100) rfl), ev_t1 (List.mem_of_getElem? (i := 13) rfl), by decide, by decide +kernel, by decide +kernel, by decide +kernel⟩
set_option maxRecDepth 100000 in
theorem iwX12_isAs : Cond.instanceMethod YX12_isAs.1 ∈ lw_tbl := ev_t8 (List.mem_of_getElem? (i := 99) rfl)
set_option maxRecDepth 100000 in
theorem vwX12_isAs : Cond.selects YX12_isAs.1.cls YX12_isAs.1 YX12_isAs.1 ∈ lw_tbl := ev_p8 (q := (yX12_isAs, 104)) (List.mem_of_getElem? (i := 3) rfl)
abbrev YX12_settles : ev_Y := (yX12_settles, cX12_settles, 6, (some .int), 12)
set_option maxRecDepth 100000 in
theorem mwX12_settles : ev_mw YX12_settles 1 := ⟨ev_t8 (List.mem_of_getElem? (i := 92) rfl), ev_t1 (List.mem_of_getElem? (i := 13) rfl), by decide, by decide +kernel, by decide +kernel, by decide +kernel⟩
set_option maxRecDepth 100000 in
theorem iwX12_settles : Cond.instanceMethod YX12_settles.1 ∈ lw_tbl := ev_t8 (List.mem_of_getElem? (i := 90) rfl)
set_option maxRecDepth 100000 in
theorem vwX12_settles : Cond.selects YX12_settles.1.cls YX12_settles.1 YX12_settles.1 ∈ lw_tbl := ev_t8 (List.mem_of_getElem? (i := 91) rfl)
abbrev YX12_isCheered : ev_Y := (yX12_isCheered, cX12_isCheered, 4, (some .boolean), 12)
set_option maxRecDepth 100000 in
theorem mwX12_isCheered : ev_mw YX12_isCheered 2 := ⟨ev_t8 (List.mem_of_getElem? (i := 115) rfl), ev_t1 (List.mem_of_getElem? (i := 13) rfl), by decide, by decide +kernel, by decide +kernel, by decide +kernel⟩
set_option maxRecDepth 100000 in
theorem iwX12_isCheered : Cond.instanceMethod YX12_isCheered.1 ∈ lw_tbl := ev_t8 (List.mem_of_getElem? (i := 114) rfl)
set_option maxRecDepth 100000 in
theorem vwX12_isCheered : Cond.selects YX12_isCheered.1.cls YX12_isCheered.1 YX12_isCheered.1 ∈ lw_tbl := ev_p8 (q := (yX12_isCheered, 104)) (List.mem_of_getElem? (i := 5) rfl)
abbrev YX12_isSighed : ev_Y := (yX12_isSighed, cX12_isSighed, 4, (some .boolean), 12)
set_option maxRecDepth 100000 in
theorem mwX12_isSighed : ev_mw YX12_isSighed 2 := ⟨ev_t8 (List.mem_of_getElem? (i := 119) rfl), ev_t1 (List.mem_of_getElem? (i := 13) rfl), by decide, by decide +kernel, by decide +kernel, by decide +kernel⟩
set_option maxRecDepth 100000 in
theorem iwX12_isSighed : Cond.instanceMethod YX12_isSighed.1 ∈ lw_tbl := ev_t8 (List.mem_of_getElem? (i := 118) rfl)
set_option maxRecDepth 100000 in
theorem vwX12_isSighed : Cond.selects YX12_isSighed.1.cls YX12_isSighed.1 YX12_isSighed.1 ∈ lw_tbl := ev_p8 (q := (yX12_isSighed, 104)) (List.mem_of_getElem? (i := 6) rfl)
abbrev YX12_fewest : ev_Y := (yX12_fewest, cX12_fewest, 5, (some .int), 12)
set_option maxRecDepth 100000 in
theorem mwX12_fewest : ev_mw YX12_fewest 2 := ⟨ev_t8 (List.mem_of_getElem? (i := 108) rfl), ev_t1 (List.mem_of_getElem? (i := 13) rfl), by decide, by decide +kernel, by decide +kernel, by decide +kernel⟩
set_option maxRecDepth 100000 in
theorem iwX12_fewest : Cond.instanceMethod YX12_fewest.1 ∈ lw_tbl := ev_t8 (List.mem_of_getElem? (i := 107) rfl)
set_option maxRecDepth 100000 in
theorem vwX12_fewest : Cond.selects YX12_fewest.1.cls YX12_fewest.1 YX12_fewest.1 ∈ lw_tbl := ev_p8 (q := (yX12_fewest, 104)) (List.mem_of_getElem? (i := 4) rfl)
abbrev YX12_cheered : ev_Y := (yX12_cheered, cX12_cheered, 2, (some .int), 12)
set_option maxRecDepth 100000 in
theorem mwX12_cheered : ev_mw YX12_cheered 1 := ⟨ev_t8 (List.mem_of_getElem? (i := 104) rfl), ev_t1 (List.mem_of_getElem? (i := 13) rfl), by decide, by decide +kernel, by decide +kernel, by decide +kernel⟩
set_option maxRecDepth 100000 in
theorem iwX12_cheered : Cond.instanceMethod YX12_cheered.1 ∈ lw_tbl := ev_t8 (List.mem_of_getElem? (i := 102) rfl)
set_option maxRecDepth 100000 in
theorem vwX12_cheered : Cond.selects YX12_cheered.1.cls YX12_cheered.1 YX12_cheered.1 ∈ lw_tbl := ev_t8 (List.mem_of_getElem? (i := 103) rfl)
abbrev YX12_sighs : ev_Y := (yX12_sighs, cX12_sighs, 2, (some .int), 12)
set_option maxRecDepth 100000 in
theorem mwX12_sighs : ev_mw YX12_sighs 1 := ⟨ev_t8 (List.mem_of_getElem? (i := 123) rfl), ev_t1 (List.mem_of_getElem? (i := 13) rfl), by decide, by decide +kernel, by decide +kernel, by decide +kernel⟩
set_option maxRecDepth 100000 in
theorem iwX12_sighs : Cond.instanceMethod YX12_sighs.1 ∈ lw_tbl := ev_t8 (List.mem_of_getElem? (i := 121) rfl)
set_option maxRecDepth 100000 in
theorem vwX12_sighs : Cond.selects YX12_sighs.1.cls YX12_sighs.1 YX12_sighs.1 ∈ lw_tbl := ev_t8 (List.mem_of_getElem? (i := 122) rfl)
abbrev YX12_doubtsIn : ev_Y := (yX12_doubtsIn, cX12_doubtsIn, 3, (some .int), 12)
set_option maxRecDepth 100000 in
theorem mwX12_doubtsIn : ev_mw YX12_doubtsIn 1 := ⟨ev_t8 (List.mem_of_getElem? (i := 131) rfl), ev_t1 (List.mem_of_getElem? (i := 13) rfl), by decide, by decide +kernel, by decide +kernel, by decide +kernel⟩
set_option maxRecDepth 100000 in
theorem iwX12_doubtsIn : Cond.instanceMethod YX12_doubtsIn.1 ∈ lw_tbl := ev_t8 (List.mem_of_getElem? (i := 130) rfl)
set_option maxRecDepth 100000 in
theorem vwX12_doubtsIn : Cond.selects YX12_doubtsIn.1.cls YX12_doubtsIn.1 YX12_doubtsIn.1 ∈ lw_tbl := ev_p8 (q := (yX12_doubtsIn, 104)) (List.mem_of_getElem? (i := 7) rfl)
abbrev YX12_better : ev_Y := (yX12_better, cX12_better, 7, (some .int), 12)
set_option maxRecDepth 100000 in
theorem mwX12_better : ev_mw YX12_better 2 := ⟨ev_t8 (List.mem_of_getElem? (i := 127) rfl), ev_t1 (List.mem_of_getElem? (i := 13) rfl), by decide, by decide +kernel, by decide +kernel, by decide +kernel⟩
set_option maxRecDepth 100000 in
theorem iwX12_better : Cond.instanceMethod YX12_better.1 ∈ lw_tbl := ev_t8 (List.mem_of_getElem? (i := 125) rfl)
set_option maxRecDepth 100000 in
theorem vwX12_better : Cond.selects YX12_better.1.cls YX12_better.1 YX12_better.1 ∈ lw_tbl := ev_t8 (List.mem_of_getElem? (i := 126) rfl)
abbrev YX12_changes : ev_Y := (yX12_changes, cX12_changes, 5, none, 12)
set_option maxRecDepth 100000 in
theorem mwX12_changes : ev_mw YX12_changes 2 := ⟨ev_t8 (List.mem_of_getElem? (i := 139) rfl), ev_t1 (List.mem_of_getElem? (i := 13) rfl), by decide, by decide +kernel, by decide +kernel, by decide +kernel⟩
set_option maxRecDepth 100000 in
theorem iwX12_changes : Cond.instanceMethod YX12_changes.1 ∈ lw_tbl := ev_t8 (List.mem_of_getElem? (i := 138) rfl)
set_option maxRecDepth 100000 in
theorem vwX12_changes : Cond.selects YX12_changes.1.cls YX12_changes.1 YX12_changes.1 ∈ lw_tbl := ev_p8 (q := (yX12_changes, 104)) (List.mem_of_getElem? (i := 8) rfl)
abbrev YX12_placed : ev_Y := (yX12_placed, cX12_placed, 9, (some .int), 12)
set_option maxRecDepth 100000 in
theorem mwX12_placed : ev_mw YX12_placed 2 := ⟨ev_t8 (List.mem_of_getElem? (i := 135) rfl), ev_t1 (List.mem_of_getElem? (i := 13) rfl), by decide, by decide +kernel, by decide +kernel, by decide +kernel⟩
set_option maxRecDepth 100000 in
theorem iwX12_placed : Cond.instanceMethod YX12_placed.1 ∈ lw_tbl := ev_t8 (List.mem_of_getElem? (i := 133) rfl)
set_option maxRecDepth 100000 in
theorem vwX12_placed : Cond.selects YX12_placed.1.cls YX12_placed.1 YX12_placed.1 ∈ lw_tbl := ev_t8 (List.mem_of_getElem? (i := 134) rfl)
abbrev YX12_ditched : ev_Y := (yX12_ditched, cX12_ditched, 5, (some .int), 12)
set_option maxRecDepth 100000 in
theorem mwX12_ditched : ev_mw YX12_ditched 1 := ⟨ev_t8 (List.mem_of_getElem? (i := 147) rfl), ev_t1 (List.mem_of_getElem? (i := 13) rfl), by decide, by decide +kernel, by decide +kernel, by decide +kernel⟩
set_option maxRecDepth 100000 in
theorem iwX12_ditched : Cond.instanceMethod YX12_ditched.1 ∈ lw_tbl := ev_t8 (List.mem_of_getElem? (i := 146) rfl)
set_option maxRecDepth 100000 in
theorem vwX12_ditched : Cond.selects YX12_ditched.1.cls YX12_ditched.1 YX12_ditched.1 ∈ lw_tbl := ev_p8 (q := (yX12_ditched, 104)) (List.mem_of_getElem? (i := 9) rfl)
abbrev YX12_game : ev_Y := (yX12_game, cX12_game, 6, (some .int), 12)
set_option maxRecDepth 100000 in
theorem mwX12_game : ev_mw YX12_game 1 := ⟨ev_t8 (List.mem_of_getElem? (i := 143) rfl), ev_t1 (List.mem_of_getElem? (i := 13) rfl), by decide, by decide +kernel, by decide +kernel, by decide +kernel⟩
set_option maxRecDepth 100000 in
theorem iwX12_game : Cond.instanceMethod YX12_game.1 ∈ lw_tbl := ev_t8 (List.mem_of_getElem? (i := 141) rfl)
set_option maxRecDepth 100000 in
theorem vwX12_game : Cond.selects YX12_game.1.cls YX12_game.1 YX12_game.1 ∈ lw_tbl := ev_t8 (List.mem_of_getElem? (i := 142) rfl)
abbrev YX12_rule : ev_Y := (yX12_rule, cX12_rule, 5, (some .int), 12)
set_option maxRecDepth 100000 in
theorem mwX12_rule : ev_mw YX12_rule 2 := ⟨ev_t8 (List.mem_of_getElem? (i := 151) rfl), ev_t1 (List.mem_of_getElem? (i := 13) rfl), by decide, by decide +kernel, by decide +kernel, by decide +kernel⟩
set_option maxRecDepth 100000 in
theorem iwX12_rule : Cond.instanceMethod YX12_rule.1 ∈ lw_tbl := ev_t8 (List.mem_of_getElem? (i := 149) rfl)
set_option maxRecDepth 100000 in
theorem vwX12_rule : Cond.selects YX12_rule.1.cls YX12_rule.1 YX12_rule.1 ∈ lw_tbl := ev_t8 (List.mem_of_getElem? (i := 150) rfl)
abbrev YX12_refuses : ev_Y := (yX12_refuses, cX12_refuses, 2, (some .int), 12)
set_option maxRecDepth 100000 in
theorem mwX12_refuses : ev_mw YX12_refuses 1 := ⟨ev_t8 (List.mem_of_getElem? (i := 160) rfl), ev_t1 (List.mem_of_getElem? (i := 13) rfl), by decide, by decide +kernel, by decide +kernel, by decide +kernel⟩
set_option maxRecDepth 100000 in
theorem iwX12_refuses : Cond.instanceMethod YX12_refuses.1 ∈ lw_tbl := ev_t8 (List.mem_of_getElem? (i := 159) rfl)
set_option maxRecDepth 100000 in
theorem vwX12_refuses : Cond.selects YX12_refuses.1.cls YX12_refuses.1 YX12_refuses.1 ∈ lw_tbl := ev_p8 (q := (yX12_refuses, 104)) (List.mem_of_getElem? (i := 10) rfl)
abbrev YX12_see : ev_Y := (yX12_see, cX12_see, 4, (some .int), 12)
set_option maxRecDepth 100000 in
theorem mwX12_see : ev_mw YX12_see 0 := ⟨ev_t8 (List.mem_of_getElem? (i := 156) rfl), ev_t1 (List.mem_of_getElem? (i := 13) rfl), by decide, by decide +kernel, by decide +kernel, by decide +kernel⟩
set_option maxRecDepth 100000 in
theorem iwX12_see : Cond.instanceMethod YX12_see.1 ∈ lw_tbl := ev_t8 (List.mem_of_getElem? (i := 154) rfl)
set_option maxRecDepth 100000 in
theorem vwX12_see : Cond.selects YX12_see.1.cls YX12_see.1 YX12_see.1 ∈ lw_tbl := ev_t8 (List.mem_of_getElem? (i := 155) rfl)
abbrev YX12_isAsSeen : ev_Y := (yX12_isAsSeen, cX12_isAsSeen, 3, (some .boolean), 12)
set_option maxRecDepth 100000 in
theorem mwX12_isAsSeen : ev_mw YX12_isAsSeen 1 := ⟨ev_t8 (List.mem_of_getElem? (i := 172) rfl), ev_t1 (List.mem_of_getElem? (i := 13) rfl), by decide, by decide +kernel, by decide +kernel, by decide +kernel⟩
set_option maxRecDepth 100000 in
theorem iwX12_isAsSeen : Cond.instanceMethod YX12_isAsSeen.1 ∈ lw_tbl := ev_t8 (List.mem_of_getElem? (i := 171) rfl)
set_option maxRecDepth 100000 in
theorem vwX12_isAsSeen : Cond.selects YX12_isAsSeen.1.cls YX12_isAsSeen.1 YX12_isAsSeen.1 ∈ lw_tbl := ev_p8 (q := (yX12_isAsSeen, 104)) (List.mem_of_getElem? (i := 12) rfl)
abbrev YX12_laysMoods : ev_Y := (yX12_laysMoods, cX12_laysMoods, 6, none, 12)
set_option maxRecDepth 100000 in
theorem mwX12_laysMoods : ev_mw YX12_laysMoods 1 := ⟨ev_t8 (List.mem_of_getElem? (i := 168) rfl), ev_t1 (List.mem_of_getElem? (i := 13) rfl), by decide, by decide +kernel, by decide +kernel, by decide +kernel⟩
set_option maxRecDepth 100000 in
theorem iwX12_laysMoods : Cond.instanceMethod YX12_laysMoods.1 ∈ lw_tbl := ev_t8 (List.mem_of_getElem? (i := 167) rfl)
set_option maxRecDepth 100000 in
theorem vwX12_laysMoods : Cond.selects YX12_laysMoods.1.cls YX12_laysMoods.1 YX12_laysMoods.1 ∈ lw_tbl := ev_p8 (q := (yX12_laysMoods, 104)) (List.mem_of_getElem? (i := 11) rfl)
abbrev YX12_moods : ev_Y := (yX12_moods, cX12_moods, 4, (some .int), 12)
set_option maxRecDepth 100000 in
theorem mwX12_moods : ev_mw YX12_moods 1 := ⟨ev_t8 (List.mem_of_getElem? (i := 164) rfl), ev_t1 (List.mem_of_getElem? (i := 13) rfl), by decide, by decide +kernel, by decide +kernel, by decide +kernel⟩
set_option maxRecDepth 100000 in
theorem iwX12_moods : Cond.instanceMethod YX12_moods.1 ∈ lw_tbl := ev_t8 (List.mem_of_getElem? (i := 162) rfl)
set_option maxRecDepth 100000 in
theorem vwX12_moods : Cond.selects YX12_moods.1.cls YX12_moods.1 YX12_moods.1 ∈ lw_tbl := ev_t8 (List.mem_of_getElem? (i := 163) rfl)
abbrev YX12_mostAlike : ev_Y := (yX12_mostAlike, cX12_mostAlike, 8, (some .int), 12)
set_option maxRecDepth 100000 in
theorem mwX12_mostAlike : ev_mw YX12_mostAlike 2 := ⟨ev_t8 (List.mem_of_getElem? (i := 180) rfl), ev_t1 (List.mem_of_getElem? (i := 13) rfl), by decide, by decide +kernel, by decide +kernel, by decide +kernel⟩
set_option maxRecDepth 100000 in
theorem iwX12_mostAlike : Cond.instanceMethod YX12_mostAlike.1 ∈ lw_tbl := ev_t8 (List.mem_of_getElem? (i := 179) rfl)
set_option maxRecDepth 100000 in
theorem vwX12_mostAlike : Cond.selects YX12_mostAlike.1.cls YX12_mostAlike.1 YX12_mostAlike.1 ∈ lw_tbl := ev_p8 (q := (yX12_mostAlike, 104)) (List.mem_of_getElem? (i := 13) rfl)
abbrev YX12_tells : ev_Y := (yX12_tells, cX12_tells, 9, (some .int), 12)
set_option maxRecDepth 100000 in
theorem mwX12_tells : ev_mw YX12_tells 2 := ⟨ev_t8 (List.mem_of_getElem? (i := 176) rfl), ev_t1 (List.mem_of_getElem? (i := 13) rfl), by decide, by decide +kernel, by decide +kernel, by decide +kernel⟩
set_option maxRecDepth 100000 in
theorem iwX12_tells : Cond.instanceMethod YX12_tells.1 ∈ lw_tbl := ev_t8 (List.mem_of_getElem? (i := 174) rfl)
set_option maxRecDepth 100000 in
theorem vwX12_tells : Cond.selects YX12_tells.1.cls YX12_tells.1 YX12_tells.1 ∈ lw_tbl := ev_t8 (List.mem_of_getElem? (i := 175) rfl)
abbrev YX12_keeps : ev_Y := (yX12_keeps, cX12_keeps, 2, none, 12)
set_option maxRecDepth 100000 in
theorem mwX12_keeps : ev_mw YX12_keeps 0 := ⟨ev_t8 (List.mem_of_getElem? (i := 196) rfl), ev_t1 (List.mem_of_getElem? (i := 13) rfl), by decide, by decide +kernel, by decide +kernel, by decide +kernel⟩
set_option maxRecDepth 100000 in
theorem iwX12_keeps : Cond.instanceMethod YX12_keeps.1 ∈ lw_tbl := ev_t8 (List.mem_of_getElem? (i := 195) rfl)
set_option maxRecDepth 100000 in
theorem vwX12_keeps : Cond.selects YX12_keeps.1.cls YX12_keeps.1 YX12_keeps.1 ∈ lw_tbl := ev_p8 (q := (yX12_keeps, 104)) (List.mem_of_getElem? (i := 15) rfl)
abbrev YX12_undo : ev_Y := (yX12_undo, cX12_undo, 2, (some .boolean), 12)
set_option maxRecDepth 100000 in
theorem mwX12_undo : ev_mw YX12_undo 0 := ⟨ev_t8 (List.mem_of_getElem? (i := 184) rfl), ev_t1 (List.mem_of_getElem? (i := 13) rfl), by decide, by decide +kernel, by decide +kernel, by decide +kernel⟩
set_option maxRecDepth 100000 in
theorem iwX12_undo : Cond.instanceMethod YX12_undo.1 ∈ lw_tbl := ev_t8 (List.mem_of_getElem? (i := 182) rfl)
set_option maxRecDepth 100000 in
theorem vwX12_undo : Cond.selects YX12_undo.1.cls YX12_undo.1 YX12_undo.1 ∈ lw_tbl := ev_t8 (List.mem_of_getElem? (i := 183) rfl)
abbrev YX12_isRefused : ev_Y := (yX12_isRefused, cX12_isRefused, 1, (some .boolean), 12)
set_option maxRecDepth 100000 in
theorem mwX12_isRefused : ev_mw YX12_isRefused 0 := ⟨ev_t8 (List.mem_of_getElem? (i := 192) rfl), ev_t1 (List.mem_of_getElem? (i := 13) rfl), by decide, by decide +kernel, by decide +kernel, by decide +kernel⟩
set_option maxRecDepth 100000 in
theorem iwX12_isRefused : Cond.instanceMethod YX12_isRefused.1 ∈ lw_tbl := ev_t8 (List.mem_of_getElem? (i := 191) rfl)
set_option maxRecDepth 100000 in
theorem vwX12_isRefused : Cond.selects YX12_isRefused.1.cls YX12_isRefused.1 YX12_isRefused.1 ∈ lw_tbl := ev_p8 (q := (yX12_isRefused, 104)) (List.mem_of_getElem? (i := 14) rfl)
abbrev YX12_cheer : ev_Y := (yX12_cheer, cX12_cheer, 3, (some .boolean), 12)
set_option maxRecDepth 100000 in
theorem mwX12_cheer : ev_mw YX12_cheer 2 := ⟨ev_t8 (List.mem_of_getElem? (i := 188) rfl), ev_t1 (List.mem_of_getElem? (i := 13) rfl), by decide, by decide +kernel, by decide +kernel, by decide +kernel⟩
set_option maxRecDepth 100000 in
theorem iwX12_cheer : Cond.instanceMethod YX12_cheer.1 ∈ lw_tbl := ev_t8 (List.mem_of_getElem? (i := 186) rfl)
set_option maxRecDepth 100000 in
theorem vwX12_cheer : Cond.selects YX12_cheer.1.cls YX12_cheer.1 YX12_cheer.1 ∈ lw_tbl := ev_t8 (List.mem_of_getElem? (i := 187) rfl)
abbrev YX12_yes : ev_Y := (yX12_yes, cX12_yes, 3, (some .boolean), 12)
set_option maxRecDepth 100000 in
theorem mwX12_yes : ev_mw YX12_yes 2 := ⟨ev_t8 (List.mem_of_getElem? (i := 200) rfl), ev_t1 (List.mem_of_getElem? (i := 13) rfl), by decide, by decide +kernel, by decide +kernel, by decide +kernel⟩
set_option maxRecDepth 100000 in
theorem iwX12_yes : Cond.instanceMethod YX12_yes.1 ∈ lw_tbl := ev_t8 (List.mem_of_getElem? (i := 198) rfl)
set_option maxRecDepth 100000 in
theorem vwX12_yes : Cond.selects YX12_yes.1.cls YX12_yes.1 YX12_yes.1 ∈ lw_tbl := ev_t8 (List.mem_of_getElem? (i := 199) rfl)
abbrev YX12_change : ev_Y := (yX12_change, cX12_change, 3, (some .boolean), 12)
set_option maxRecDepth 100000 in
theorem mwX12_change : ev_mw YX12_change 2 := ⟨ev_t8 (List.mem_of_getElem? (i := 204) rfl), ev_t1 (List.mem_of_getElem? (i := 13) rfl), by decide, by decide +kernel, by decide +kernel, by decide +kernel⟩
set_option maxRecDepth 100000 in
theorem iwX12_change : Cond.instanceMethod YX12_change.1 ∈ lw_tbl := ev_t8 (List.mem_of_getElem? (i := 202) rfl)
set_option maxRecDepth 100000 in
theorem vwX12_change : Cond.selects YX12_change.1.cls YX12_change.1 YX12_change.1 ∈ lw_tbl := ev_t8 (List.mem_of_getElem? (i := 203) rfl)
abbrev YX12_rounds : ev_Y := (yX12_rounds, cX12_rounds, 2, (some .int), 12)
set_option maxRecDepth 100000 in
theorem mwX12_rounds : ev_mw YX12_rounds 1 := ⟨ev_t8 (List.mem_of_getElem? (i := 208) rfl), ev_t1 (List.mem_of_getElem? (i := 13) rfl), by decide, by decide +kernel, by decide +kernel, by decide +kernel⟩
set_option maxRecDepth 100000 in
theorem iwX12_rounds : Cond.instanceMethod YX12_rounds.1 ∈ lw_tbl := ev_t8 (List.mem_of_getElem? (i := 206) rfl)
set_option maxRecDepth 100000 in
theorem vwX12_rounds : Cond.selects YX12_rounds.1.cls YX12_rounds.1 YX12_rounds.1 ∈ lw_tbl := ev_t8 (List.mem_of_getElem? (i := 207) rfl)
abbrev YX12_seed : ev_Y := (yX12_seed, cX12_seed, 2, (some .boolean), 12)
set_option maxRecDepth 100000 in
theorem mwX12_seed : ev_mw YX12_seed 1 := ⟨ev_t8 (List.mem_of_getElem? (i := 212) rfl), ev_t1 (List.mem_of_getElem? (i := 13) rfl), by decide, by decide +kernel, by decide +kernel, by decide +kernel⟩
set_option maxRecDepth 100000 in
theorem iwX12_seed : Cond.instanceMethod YX12_seed.1 ∈ lw_tbl := ev_t8 (List.mem_of_getElem? (i := 210) rfl)
set_option maxRecDepth 100000 in
theorem vwX12_seed : Cond.selects YX12_seed.1.cls YX12_seed.1 YX12_seed.1 ∈ lw_tbl := ev_t8 (List.mem_of_getElem? (i := 211) rfl)
abbrev YX12_drawOf : ev_Y := (yX12_drawOf, cX12_drawOf, 2, (some .int), 12)
set_option maxRecDepth 100000 in
theorem mwX12_drawOf : ev_mw YX12_drawOf 1 := ⟨ev_t8 (List.mem_of_getElem? (i := 220) rfl), ev_t1 (List.mem_of_getElem? (i := 13) rfl), by decide, by decide +kernel, by decide +kernel, by decide +kernel⟩
set_option maxRecDepth 100000 in
theorem iwX12_drawOf : Cond.instanceMethod YX12_drawOf.1 ∈ lw_tbl := ev_t8 (List.mem_of_getElem? (i := 219) rfl)
set_option maxRecDepth 100000 in
theorem vwX12_drawOf : Cond.selects YX12_drawOf.1.cls YX12_drawOf.1 YX12_drawOf.1 ∈ lw_tbl := ev_p9 (q := (yX12_drawOf, 104)) (List.mem_of_getElem? (i := 0) rfl)
abbrev YX12_chance : ev_Y := (yX12_chance, cX12_chance, 5, (some .int), 12)
set_option maxRecDepth 100000 in
theorem mwX12_chance : ev_mw YX12_chance 1 := ⟨ev_t8 (List.mem_of_getElem? (i := 216) rfl), ev_t1 (List.mem_of_getElem? (i := 13) rfl), by decide, by decide +kernel, by decide +kernel, by decide +kernel⟩
set_option maxRecDepth 100000 in
theorem iwX12_chance : Cond.instanceMethod YX12_chance.1 ∈ lw_tbl := ev_t8 (List.mem_of_getElem? (i := 214) rfl)
set_option maxRecDepth 100000 in
theorem vwX12_chance : Cond.selects YX12_chance.1.cls YX12_chance.1 YX12_chance.1 ∈ lw_tbl := ev_t8 (List.mem_of_getElem? (i := 215) rfl)
abbrev YX12_laysTones : ev_Y := (yX12_laysTones, cX12_laysTones, 3, none, 12)
set_option maxRecDepth 100000 in
theorem mwX12_laysTones : ev_mw YX12_laysTones 0 := ⟨ev_t9 (List.mem_of_getElem? (i := 17) rfl), ev_t1 (List.mem_of_getElem? (i := 13) rfl), by decide, by decide +kernel, by decide +kernel, by decide +kernel⟩
set_option maxRecDepth 100000 in
theorem iwX12_laysTones : Cond.instanceMethod YX12_laysTones.1 ∈ lw_tbl := ev_t9 (List.mem_of_getElem? (i := 16) rfl)
set_option maxRecDepth 100000 in
theorem vwX12_laysTones : Cond.selects YX12_laysTones.1.cls YX12_laysTones.1 YX12_laysTones.1 ∈ lw_tbl := ev_p9 (q := (yX12_laysTones, 104)) (List.mem_of_getElem? (i := 7) rfl)
abbrev YX12_toneIn : ev_Y := (yX12_toneIn, cX12_toneIn, 3, (some .int), 12)
set_option maxRecDepth 100000 in
theorem mwX12_toneIn : ev_mw YX12_toneIn 2 := ⟨ev_t8 (List.mem_of_getElem? (i := 27) rfl), ev_t1 (List.mem_of_getElem? (i := 13) rfl), by decide, by decide +kernel, by decide +kernel, by decide +kernel⟩
set_option maxRecDepth 100000 in
theorem iwX12_toneIn : Cond.instanceMethod YX12_toneIn.1 ∈ lw_tbl := ev_t8 (List.mem_of_getElem? (i := 26) rfl)
set_option maxRecDepth 100000 in
theorem vwX12_toneIn : Cond.selects YX12_toneIn.1.cls YX12_toneIn.1 YX12_toneIn.1 ∈ lw_tbl := ev_p7 (q := (yX12_toneIn, 104)) (List.mem_of_getElem? (i := 8) rfl)
abbrev YX12_qCode : ev_Y := (yX12_qCode, cX12_qCode, 2, none, 12)
set_option maxRecDepth 100000 in
theorem mwX12_qCode : ev_mw YX12_qCode 1 := ⟨ev_t7 (List.mem_of_getElem? (i := 145) rfl), ev_t1 (List.mem_of_getElem? (i := 13) rfl), by decide, by decide +kernel, by decide +kernel, by decide +kernel⟩
set_option maxRecDepth 100000 in
theorem iwX12_qCode : Cond.instanceMethod YX12_qCode.1 ∈ lw_tbl := ev_t7 (List.mem_of_getElem? (i := 144) rfl)
set_option maxRecDepth 100000 in
theorem vwX12_qCode : Cond.selects YX12_qCode.1.cls YX12_qCode.1 YX12_qCode.1 ∈ lw_tbl := ev_p6 (q := (yX12_qCode, 104)) (List.mem_of_getElem? (i := 1) rfl)
abbrev YX12_qOpens : ev_Y := (yX12_qOpens, cX12_qOpens, 3, none, 12)
set_option maxRecDepth 100000 in
theorem mwX12_qOpens : ev_mw YX12_qOpens 2 := ⟨ev_t7 (List.mem_of_getElem? (i := 137) rfl), ev_t1 (List.mem_of_getElem? (i := 13) rfl), by decide, by decide +kernel, by decide +kernel, by decide +kernel⟩
set_option maxRecDepth 100000 in
theorem iwX12_qOpens : Cond.instanceMethod YX12_qOpens.1 ∈ lw_tbl := ev_t7 (List.mem_of_getElem? (i := 136) rfl)
set_option maxRecDepth 100000 in
theorem vwX12_qOpens : Cond.selects YX12_qOpens.1.cls YX12_qOpens.1 YX12_qOpens.1 ∈ lw_tbl := ev_p5 (q := (yX12_qOpens, 104)) (List.mem_of_getElem? (i := 15) rfl)
abbrev YX12_qIsOn : ev_Y := (yX12_qIsOn, cX12_qIsOn, 2, (some .boolean), 12)
set_option maxRecDepth 100000 in
theorem mwX12_qIsOn : ev_mw YX12_qIsOn 1 := ⟨ev_t7 (List.mem_of_getElem? (i := 172) rfl), ev_t1 (List.mem_of_getElem? (i := 13) rfl), by decide, by decide +kernel, by decide +kernel, by decide +kernel⟩
set_option maxRecDepth 100000 in
theorem iwX12_qIsOn : Cond.instanceMethod YX12_qIsOn.1 ∈ lw_tbl := ev_t7 (List.mem_of_getElem? (i := 171) rfl)
set_option maxRecDepth 100000 in
theorem vwX12_qIsOn : Cond.selects YX12_qIsOn.1.cls YX12_qIsOn.1 YX12_qIsOn.1 ∈ lw_tbl := ev_p6 (q := (yX12_qIsOn, 104)) (List.mem_of_getElem? (i := 7) rfl)
abbrev YX12_qDrops : ev_Y := (yX12_qDrops, cX12_qDrops, 1, none, 12)
set_option maxRecDepth 100000 in
theorem mwX12_qDrops : ev_mw YX12_qDrops 0 := ⟨ev_t7 (List.mem_of_getElem? (i := 153) rfl), ev_t1 (List.mem_of_getElem? (i := 13) rfl), by decide, by decide +kernel, by decide +kernel, by decide +kernel⟩
set_option maxRecDepth 100000 in
theorem iwX12_qDrops : Cond.instanceMethod YX12_qDrops.1 ∈ lw_tbl := ev_t7 (List.mem_of_getElem? (i := 152) rfl)
set_option maxRecDepth 100000 in
theorem vwX12_qDrops : Cond.selects YX12_qDrops.1.cls YX12_qDrops.1 YX12_qDrops.1 ∈ lw_tbl := ev_p6 (q := (yX12_qDrops, 104)) (List.mem_of_getElem? (i := 3) rfl)
abbrev YX12_qIsBracket : ev_Y := (yX12_qIsBracket, cX12_qIsBracket, 1, (some .boolean), 12)
set_option maxRecDepth 100000 in
theorem mwX12_qIsBracket : ev_mw YX12_qIsBracket 1 := ⟨ev_t7 (List.mem_of_getElem? (i := 164) rfl), ev_t1 (List.mem_of_getElem? (i := 13) rfl), by decide, by decide +kernel, by decide +kernel, by decide +kernel⟩
set_option maxRecDepth 100000 in
theorem swX12_qIsBracket : Cond.static YX12_qIsBracket.1 ∈ lw_tbl := ev_t7 (List.mem_of_getElem? (i := 163) rfl)
abbrev YX12_qBracket : ev_Y := (yX12_qBracket, cX12_qBracket, 2, (some .int), 12)
set_option maxRecDepth 100000 in
theorem mwX12_qBracket : ev_mw YX12_qBracket 0 := ⟨ev_t7 (List.mem_of_getElem? (i := 161) rfl), ev_t1 (List.mem_of_getElem? (i := 13) rfl), by decide, by decide +kernel, by decide +kernel, by decide +kernel⟩
set_option maxRecDepth 100000 in
theorem iwX12_qBracket : Cond.instanceMethod YX12_qBracket.1 ∈ lw_tbl := ev_t7 (List.mem_of_getElem? (i := 160) rfl)
set_option maxRecDepth 100000 in
theorem vwX12_qBracket : Cond.selects YX12_qBracket.1.cls YX12_qBracket.1 YX12_qBracket.1 ∈ lw_tbl := ev_p6 (q := (yX12_qBracket, 104)) (List.mem_of_getElem? (i := 5) rfl)
abbrev YX12_qDropsToBracket : ev_Y := (yX12_qDropsToBracket, cX12_qDropsToBracket, 1, none, 12)
set_option maxRecDepth 100000 in
theorem mwX12_qDropsToBracket : ev_mw YX12_qDropsToBracket 0 := ⟨ev_t7 (List.mem_of_getElem? (i := 168) rfl), ev_t1 (List.mem_of_getElem? (i := 13) rfl), by decide, by decide +kernel, by decide +kernel, by decide +kernel⟩
set_option maxRecDepth 100000 in
theorem iwX12_qDropsToBracket : Cond.instanceMethod YX12_qDropsToBracket.1 ∈ lw_tbl := ev_t7 (List.mem_of_getElem? (i := 167) rfl)
set_option maxRecDepth 100000 in
theorem vwX12_qDropsToBracket : Cond.selects YX12_qDropsToBracket.1.cls YX12_qDropsToBracket.1 YX12_qDropsToBracket.1 ∈ lw_tbl := ev_p6 (q := (yX12_qDropsToBracket, 104)) (List.mem_of_getElem? (i := 6) rfl)
abbrev YX12_qWordHere : ev_Y := (yX12_qWordHere, cX12_qWordHere, 1, (some .int), 12)
set_option maxRecDepth 100000 in
theorem mwX12_qWordHere : ev_mw YX12_qWordHere 0 := ⟨ev_t7 (List.mem_of_getElem? (i := 128) rfl), ev_t1 (List.mem_of_getElem? (i := 13) rfl), by decide, by decide +kernel, by decide +kernel, by decide +kernel⟩
set_option maxRecDepth 100000 in
theorem iwX12_qWordHere : Cond.instanceMethod YX12_qWordHere.1 ∈ lw_tbl := ev_t7 (List.mem_of_getElem? (i := 127) rfl)
set_option maxRecDepth 100000 in
theorem vwX12_qWordHere : Cond.selects YX12_qWordHere.1.cls YX12_qWordHere.1 YX12_qWordHere.1 ∈ lw_tbl := ev_p5 (q := (yX12_qWordHere, 104)) (List.mem_of_getElem? (i := 13) rfl)
abbrev YX12_qWordOf : ev_Y := (yX12_qWordOf, cX12_qWordOf, 4, (some .int), 12)
set_option maxRecDepth 100000 in
theorem mwX12_qWordOf : ev_mw YX12_qWordOf 2 := ⟨ev_t7 (List.mem_of_getElem? (i := 124) rfl), ev_t1 (List.mem_of_getElem? (i := 13) rfl), by decide, by decide +kernel, by decide +kernel, by decide +kernel⟩
set_option maxRecDepth 100000 in
theorem iwX12_qWordOf : Cond.instanceMethod YX12_qWordOf.1 ∈ lw_tbl := ev_t7 (List.mem_of_getElem? (i := 123) rfl)
set_option maxRecDepth 100000 in
theorem vwX12_qWordOf : Cond.selects YX12_qWordOf.1.cls YX12_qWordOf.1 YX12_qWordOf.1 ∈ lw_tbl := ev_p5 (q := (yX12_qWordOf, 104)) (List.mem_of_getElem? (i := 12) rfl)
abbrev YX12_qAsksWord : ev_Y := (yX12_qAsksWord, cX12_qAsksWord, 2, none, 12)
set_option maxRecDepth 100000 in
theorem mwX12_qAsksWord : ev_mw YX12_qAsksWord 1 := ⟨ev_t7 (List.mem_of_getElem? (i := 141) rfl), ev_t1 (List.mem_of_getElem? (i := 13) rfl), by decide, by decide +kernel, by decide +kernel, by decide +kernel⟩
set_option maxRecDepth 100000 in
theorem iwX12_qAsksWord : Cond.instanceMethod YX12_qAsksWord.1 ∈ lw_tbl := ev_t7 (List.mem_of_getElem? (i := 140) rfl)
set_option maxRecDepth 100000 in
theorem vwX12_qAsksWord : Cond.selects YX12_qAsksWord.1.cls YX12_qAsksWord.1 YX12_qAsksWord.1 ∈ lw_tbl := ev_p6 (q := (yX12_qAsksWord, 104)) (List.mem_of_getElem? (i := 0) rfl)
abbrev YX12_qEndsPart : ev_Y := (yX12_qEndsPart, cX12_qEndsPart, 1, none, 12)
set_option maxRecDepth 100000 in
theorem mwX12_qEndsPart : ev_mw YX12_qEndsPart 0 := ⟨ev_t7 (List.mem_of_getElem? (i := 149) rfl), ev_t1 (List.mem_of_getElem? (i := 13) rfl), by decide, by decide +kernel, by decide +kernel, by decide +kernel⟩
set_option maxRecDepth 100000 in
theorem iwX12_qEndsPart : Cond.instanceMethod YX12_qEndsPart.1 ∈ lw_tbl := ev_t7 (List.mem_of_getElem? (i := 148) rfl)
set_option maxRecDepth 100000 in
theorem vwX12_qEndsPart : Cond.selects YX12_qEndsPart.1.cls YX12_qEndsPart.1 YX12_qEndsPart.1 ∈ lw_tbl := ev_p6 (q := (yX12_qEndsPart, 104)) (List.mem_of_getElem? (i := 2) rfl)
abbrev YX12_qPartTold : ev_Y := (yX12_qPartTold, cX12_qPartTold, 6, none, 12)
set_option maxRecDepth 100000 in
theorem mwX12_qPartTold : ev_mw YX12_qPartTold 0 := ⟨ev_t7 (List.mem_of_getElem? (i := 120) rfl), ev_t1 (List.mem_of_getElem? (i := 13) rfl), by decide, by decide +kernel, by decide +kernel, by decide +kernel⟩
set_option maxRecDepth 100000 in
theorem iwX12_qPartTold : Cond.instanceMethod YX12_qPartTold.1 ∈ lw_tbl := ev_t7 (List.mem_of_getElem? (i := 119) rfl)
set_option maxRecDepth 100000 in
theorem vwX12_qPartTold : Cond.selects YX12_qPartTold.1.cls YX12_qPartTold.1 YX12_qPartTold.1 ∈ lw_tbl := ev_p5 (q := (yX12_qPartTold, 104)) (List.mem_of_getElem? (i := 11) rfl)
abbrev YX12_qGoesOn : ev_Y := (yX12_qGoesOn, cX12_qGoesOn, 2, (some .boolean), 12)
set_option maxRecDepth 100000 in
theorem mwX12_qGoesOn : ev_mw YX12_qGoesOn 0 := ⟨ev_t7 (List.mem_of_getElem? (i := 157) rfl), ev_t1 (List.mem_of_getElem? (i := 13) rfl), by decide, by decide +kernel, by decide +kernel, by decide +kernel⟩
set_option maxRecDepth 100000 in
theorem iwX12_qGoesOn : Cond.instanceMethod YX12_qGoesOn.1 ∈ lw_tbl := ev_t7 (List.mem_of_getElem? (i := 156) rfl)
set_option maxRecDepth 100000 in
theorem vwX12_qGoesOn : Cond.selects YX12_qGoesOn.1.cls YX12_qGoesOn.1 YX12_qGoesOn.1 ∈ lw_tbl := ev_p6 (q := (yX12_qGoesOn, 104)) (List.mem_of_getElem? (i := 4) rfl)
abbrev YX12_qSums : ev_Y := (yX12_qSums, cX12_qSums, 3, none, 12)
set_option maxRecDepth 100000 in
theorem mwX12_qSums : ev_mw YX12_qSums 0 := ⟨ev_t7 (List.mem_of_getElem? (i := 116) rfl), ev_t1 (List.mem_of_getElem? (i := 13) rfl), by decide, by decide +kernel, by decide +kernel, by decide +kernel⟩
set_option maxRecDepth 100000 in
theorem iwX12_qSums : Cond.instanceMethod YX12_qSums.1 ∈ lw_tbl := ev_t7 (List.mem_of_getElem? (i := 115) rfl)
set_option maxRecDepth 100000 in
theorem vwX12_qSums : Cond.selects YX12_qSums.1.cls YX12_qSums.1 YX12_qSums.1 ∈ lw_tbl := ev_p5 (q := (yX12_qSums, 104)) (List.mem_of_getElem? (i := 10) rfl)
abbrev YX12_qFact : ev_Y := (yX12_qFact, cX12_qFact, 2, none, 12)
set_option maxRecDepth 100000 in
theorem mwX12_qFact : ev_mw YX12_qFact 0 := ⟨ev_t9 (List.mem_of_getElem? (i := 1) rfl), ev_t1 (List.mem_of_getElem? (i := 13) rfl), by decide, by decide +kernel, by decide +kernel, by decide +kernel⟩
set_option maxRecDepth 100000 in
theorem iwX12_qFact : Cond.instanceMethod YX12_qFact.1 ∈ lw_tbl := ev_t9 (List.mem_of_getElem? (i := 0) rfl)
set_option maxRecDepth 100000 in
theorem vwX12_qFact : Cond.selects YX12_qFact.1.cls YX12_qFact.1 YX12_qFact.1 ∈ lw_tbl := ev_p9 (q := (yX12_qFact, 104)) (List.mem_of_getElem? (i := 3) rfl)
abbrev YX12_qHasSquare : ev_Y := (yX12_qHasSquare, cX12_qHasSquare, 2, (some .boolean), 12)
set_option maxRecDepth 100000 in
theorem mwX12_qHasSquare : ev_mw YX12_qHasSquare 0 := ⟨ev_t9 (List.mem_of_getElem? (i := 13) rfl), ev_t1 (List.mem_of_getElem? (i := 13) rfl), by decide, by decide +kernel, by decide +kernel, by decide +kernel⟩
set_option maxRecDepth 100000 in
theorem iwX12_qHasSquare : Cond.instanceMethod YX12_qHasSquare.1 ∈ lw_tbl := ev_t9 (List.mem_of_getElem? (i := 12) rfl)
set_option maxRecDepth 100000 in
theorem vwX12_qHasSquare : Cond.selects YX12_qHasSquare.1.cls YX12_qHasSquare.1 YX12_qHasSquare.1 ∈ lw_tbl := ev_p9 (q := (yX12_qHasSquare, 104)) (List.mem_of_getElem? (i := 6) rfl)
abbrev YX12_qDropsNots : ev_Y := (yX12_qDropsNots, cX12_qDropsNots, 1, none, 12)
set_option maxRecDepth 100000 in
theorem mwX12_qDropsNots : ev_mw YX12_qDropsNots 0 := ⟨ev_t9 (List.mem_of_getElem? (i := 5) rfl), ev_t1 (List.mem_of_getElem? (i := 13) rfl), by decide, by decide +kernel, by decide +kernel, by decide +kernel⟩
set_option maxRecDepth 100000 in
theorem iwX12_qDropsNots : Cond.instanceMethod YX12_qDropsNots.1 ∈ lw_tbl := ev_t9 (List.mem_of_getElem? (i := 4) rfl)
set_option maxRecDepth 100000 in
theorem vwX12_qDropsNots : Cond.selects YX12_qDropsNots.1.cls YX12_qDropsNots.1 YX12_qDropsNots.1 ∈ lw_tbl := ev_p9 (q := (yX12_qDropsNots, 104)) (List.mem_of_getElem? (i := 4) rfl)
abbrev YX12_qTest : ev_Y := (yX12_qTest, cX12_qTest, 3, none, 12)
set_option maxRecDepth 100000 in
theorem mwX12_qTest : ev_mw YX12_qTest 0 := ⟨ev_t8 (List.mem_of_getElem? (i := 237) rfl), ev_t1 (List.mem_of_getElem? (i := 13) rfl), by decide, by decide +kernel, by decide +kernel, by decide +kernel⟩
set_option maxRecDepth 100000 in
theorem iwX12_qTest : Cond.instanceMethod YX12_qTest.1 ∈ lw_tbl := ev_t8 (List.mem_of_getElem? (i := 236) rfl)
set_option maxRecDepth 100000 in
theorem vwX12_qTest : Cond.selects YX12_qTest.1.cls YX12_qTest.1 YX12_qTest.1 ∈ lw_tbl := ev_p9 (q := (yX12_qTest, 104)) (List.mem_of_getElem? (i := 2) rfl)
abbrev YX12_qGoesOnTest : ev_Y := (yX12_qGoesOnTest, cX12_qGoesOnTest, 1, (some .boolean), 12)
set_option maxRecDepth 100000 in
theorem mwX12_qGoesOnTest : ev_mw YX12_qGoesOnTest 0 := ⟨ev_t9 (List.mem_of_getElem? (i := 9) rfl), ev_t1 (List.mem_of_getElem? (i := 13) rfl), by decide, by decide +kernel, by decide +kernel, by decide +kernel⟩
set_option maxRecDepth 100000 in
theorem iwX12_qGoesOnTest : Cond.instanceMethod YX12_qGoesOnTest.1 ∈ lw_tbl := ev_t9 (List.mem_of_getElem? (i := 8) rfl)
set_option maxRecDepth 100000 in
theorem vwX12_qGoesOnTest : Cond.selects YX12_qGoesOnTest.1.cls YX12_qGoesOnTest.1 YX12_qGoesOnTest.1 ∈ lw_tbl := ev_p9 (q := (yX12_qGoesOnTest, 104)) (List.mem_of_getElem? (i := 5) rfl)
abbrev YX12_qClip : ev_Y := (yX12_qClip, cX12_qClip, 2, (some .long), 12)
set_option maxRecDepth 100000 in
theorem mwX12_qClip : ev_mw YX12_qClip 1 := ⟨ev_t8 (List.mem_of_getElem? (i := 35) rfl), ev_t1 (List.mem_of_getElem? (i := 13) rfl), by decide, by decide +kernel, by decide +kernel, by decide +kernel⟩
set_option maxRecDepth 100000 in
theorem swX12_qClip : Cond.static YX12_qClip.1 ∈ lw_tbl := ev_t8 (List.mem_of_getElem? (i := 34) rfl)
abbrev YX12_qFloor : ev_Y := (yX12_qFloor, cX12_qFloor, 6, (some .long), 12)
set_option maxRecDepth 100000 in
theorem mwX12_qFloor : ev_mw YX12_qFloor 2 := ⟨ev_t8 (List.mem_of_getElem? (i := 40) rfl), ev_t1 (List.mem_of_getElem? (i := 13) rfl), by decide, by decide +kernel, by decide +kernel, by decide +kernel⟩
set_option maxRecDepth 100000 in
theorem swX12_qFloor : Cond.static YX12_qFloor.1 ∈ lw_tbl := ev_t8 (List.mem_of_getElem? (i := 39) rfl)
abbrev YX12_qPuts : ev_Y := (yX12_qPuts, cX12_qPuts, 3, none, 12)
set_option maxRecDepth 100000 in
theorem mwX12_qPuts : ev_mw YX12_qPuts 1 := ⟨ev_t8 (List.mem_of_getElem? (i := 11) rfl), ev_t1 (List.mem_of_getElem? (i := 13) rfl), by decide, by decide +kernel, by decide +kernel, by decide +kernel⟩
set_option maxRecDepth 100000 in
theorem iwX12_qPuts : Cond.instanceMethod YX12_qPuts.1 ∈ lw_tbl := ev_t8 (List.mem_of_getElem? (i := 10) rfl)
set_option maxRecDepth 100000 in
theorem vwX12_qPuts : Cond.selects YX12_qPuts.1.cls YX12_qPuts.1 YX12_qPuts.1 ∈ lw_tbl := ev_p7 (q := (yX12_qPuts, 104)) (List.mem_of_getElem? (i := 4) rfl)
abbrev YX12_qJoins : ev_Y := (yX12_qJoins, cX12_qJoins, 6, none, 12)
set_option maxRecDepth 100000 in
theorem mwX12_qJoins : ev_mw YX12_qJoins 1 := ⟨ev_t8 (List.mem_of_getElem? (i := 32) rfl), ev_t1 (List.mem_of_getElem? (i := 13) rfl), by decide, by decide +kernel, by decide +kernel, by decide +kernel⟩
set_option maxRecDepth 100000 in
theorem iwX12_qJoins : Cond.instanceMethod YX12_qJoins.1 ∈ lw_tbl := ev_t8 (List.mem_of_getElem? (i := 31) rfl)
set_option maxRecDepth 100000 in
theorem vwX12_qJoins : Cond.selects YX12_qJoins.1.cls YX12_qJoins.1 YX12_qJoins.1 ∈ lw_tbl := ev_p7 (q := (yX12_qJoins, 104)) (List.mem_of_getElem? (i := 9) rfl)
abbrev YX12_qPartOf : ev_Y := (yX12_qPartOf, cX12_qPartOf, 3, (some .long), 12)
set_option maxRecDepth 100000 in
theorem mwX12_qPartOf : ev_mw YX12_qPartOf 2 := ⟨ev_t8 (List.mem_of_getElem? (i := 15) rfl), ev_t1 (List.mem_of_getElem? (i := 13) rfl), by decide, by decide +kernel, by decide +kernel, by decide +kernel⟩
set_option maxRecDepth 100000 in
theorem iwX12_qPartOf : Cond.instanceMethod YX12_qPartOf.1 ∈ lw_tbl := ev_t8 (List.mem_of_getElem? (i := 14) rfl)
set_option maxRecDepth 100000 in
theorem vwX12_qPartOf : Cond.selects YX12_qPartOf.1.cls YX12_qPartOf.1 YX12_qPartOf.1 ∈ lw_tbl := ev_p7 (q := (yX12_qPartOf, 104)) (List.mem_of_getElem? (i := 5) rfl)
abbrev YX12_qOf : ev_Y := (yX12_qOf, cX12_qOf, 5, (some .long), 12)
set_option maxRecDepth 100000 in
theorem mwX12_qOf : ev_mw YX12_qOf 3 := ⟨ev_t9 (List.mem_of_getElem? (i := 25) rfl), ev_t1 (List.mem_of_getElem? (i := 13) rfl), by decide, by decide +kernel, by decide +kernel, by decide +kernel⟩
set_option maxRecDepth 100000 in
theorem iwX12_qOf : Cond.instanceMethod YX12_qOf.1 ∈ lw_tbl := ev_t9 (List.mem_of_getElem? (i := 24) rfl)
set_option maxRecDepth 100000 in
theorem vwX12_qOf : Cond.selects YX12_qOf.1.cls YX12_qOf.1 YX12_qOf.1 ∈ lw_tbl := ev_p9 (q := (yX12_qOf, 104)) (List.mem_of_getElem? (i := 9) rfl)
abbrev YX12_qTold : ev_Y := (yX12_qTold, cX12_qTold, 4, (some .long), 12)
set_option maxRecDepth 100000 in
theorem mwX12_qTold : ev_mw YX12_qTold 1 := ⟨ev_t9 (List.mem_of_getElem? (i := 21) rfl), ev_t1 (List.mem_of_getElem? (i := 13) rfl), by decide, by decide +kernel, by decide +kernel, by decide +kernel⟩
set_option maxRecDepth 100000 in
theorem iwX12_qTold : Cond.instanceMethod YX12_qTold.1 ∈ lw_tbl := ev_t9 (List.mem_of_getElem? (i := 20) rfl)
set_option maxRecDepth 100000 in
theorem vwX12_qTold : Cond.selects YX12_qTold.1.cls YX12_qTold.1 YX12_qTold.1 ∈ lw_tbl := ev_p9 (q := (yX12_qTold, 104)) (List.mem_of_getElem? (i := 8) rfl)
abbrev YX12_qKind : ev_Y := (yX12_qKind, cX12_qKind, 2, (some .int), 12)
set_option maxRecDepth 100000 in
theorem mwX12_qKind : ev_mw YX12_qKind 0 := ⟨ev_t8 (List.mem_of_getElem? (i := 233) rfl), ev_t1 (List.mem_of_getElem? (i := 13) rfl), by decide, by decide +kernel, by decide +kernel, by decide +kernel⟩
set_option maxRecDepth 100000 in
theorem iwX12_qKind : Cond.instanceMethod YX12_qKind.1 ∈ lw_tbl := ev_t8 (List.mem_of_getElem? (i := 232) rfl)
set_option maxRecDepth 100000 in
theorem vwX12_qKind : Cond.selects YX12_qKind.1.cls YX12_qKind.1 YX12_qKind.1 ∈ lw_tbl := ev_p9 (q := (yX12_qKind, 104)) (List.mem_of_getElem? (i := 1) rfl)
abbrev YX12_qTakes : ev_Y := (yX12_qTakes, cX12_qTakes, 6, none, 12)
set_option maxRecDepth 100000 in
theorem mwX12_qTakes : ev_mw YX12_qTakes 3 := ⟨ev_t9 (List.mem_of_getElem? (i := 30) rfl), ev_t1 (List.mem_of_getElem? (i := 13) rfl), by decide, by decide +kernel, by decide +kernel, by decide +kernel⟩
set_option maxRecDepth 100000 in
theorem iwX12_qTakes : Cond.instanceMethod YX12_qTakes.1 ∈ lw_tbl := ev_t9 (List.mem_of_getElem? (i := 29) rfl)
set_option maxRecDepth 100000 in
theorem vwX12_qTakes : Cond.selects YX12_qTakes.1.cls YX12_qTakes.1 YX12_qTakes.1 ∈ lw_tbl := ev_p9 (q := (yX12_qTakes, 104)) (List.mem_of_getElem? (i := 10) rfl)
abbrev YX12_ask : ev_Y := (yX12_ask, cX12_ask, 3, (some .long), 12)
set_option maxRecDepth 100000 in
theorem mwX12_ask : ev_mw YX12_ask 0 := ⟨ev_t8 (List.mem_of_getElem? (i := 228) rfl), ev_t1 (List.mem_of_getElem? (i := 13) rfl), by decide, by decide +kernel, by decide +kernel, by decide +kernel⟩
set_option maxRecDepth 100000 in
theorem iwX12_ask : Cond.instanceMethod YX12_ask.1 ∈ lw_tbl := ev_t8 (List.mem_of_getElem? (i := 226) rfl)
set_option maxRecDepth 100000 in
theorem vwX12_ask : Cond.selects YX12_ask.1.cls YX12_ask.1 YX12_ask.1 ∈ lw_tbl := ev_t8 (List.mem_of_getElem? (i := 227) rfl)
abbrev YX12_checked : ev_Y := (yX12_checked, cX12_checked, 4, (some .int), 12)
set_option maxRecDepth 100000 in
theorem mwX12_checked : ev_mw YX12_checked 2 := ⟨ev_t9 (List.mem_of_getElem? (i := 41) rfl), ev_t1 (List.mem_of_getElem? (i := 13) rfl), by decide, by decide +kernel, by decide +kernel, by decide +kernel⟩
set_option maxRecDepth 100000 in
theorem swX12_checked : Cond.static YX12_checked.1 ∈ lw_tbl := ev_t9 (List.mem_of_getElem? (i := 40) rfl)
abbrev YX12_writes : ev_Y := (yX12_writes, cX12_writes, 2, none, 12)
set_option maxRecDepth 100000 in
theorem mwX12_writes : ev_mw YX12_writes 1 := ⟨ev_t9 (List.mem_of_getElem? (i := 38) rfl), ev_t1 (List.mem_of_getElem? (i := 13) rfl), by decide, by decide +kernel, by decide +kernel, by decide +kernel⟩
set_option maxRecDepth 100000 in
theorem iwX12_writes : Cond.instanceMethod YX12_writes.1 ∈ lw_tbl := ev_t9 (List.mem_of_getElem? (i := 37) rfl)
set_option maxRecDepth 100000 in
theorem vwX12_writes : Cond.selects YX12_writes.1.cls YX12_writes.1 YX12_writes.1 ∈ lw_tbl := ev_p9 (q := (yX12_writes, 104)) (List.mem_of_getElem? (i := 11) rfl)
abbrev YX12_image : ev_Y := (yX12_image, cX12_image, 2, (some .int), 12)
set_option maxRecDepth 100000 in
theorem mwX12_image : ev_mw YX12_image 0 := ⟨ev_t9 (List.mem_of_getElem? (i := 34) rfl), ev_t1 (List.mem_of_getElem? (i := 13) rfl), by decide, by decide +kernel, by decide +kernel, by decide +kernel⟩
set_option maxRecDepth 100000 in
theorem iwX12_image : Cond.instanceMethod YX12_image.1 ∈ lw_tbl := ev_t9 (List.mem_of_getElem? (i := 32) rfl)
set_option maxRecDepth 100000 in
theorem vwX12_image : Cond.selects YX12_image.1.cls YX12_image.1 YX12_image.1 ∈ lw_tbl := ev_t9 (List.mem_of_getElem? (i := 33) rfl)
abbrev YX12_octet : ev_Y := (yX12_octet, cX12_octet, 2, (some .int), 12)
set_option maxRecDepth 100000 in
theorem mwX12_octet : ev_mw YX12_octet 1 := ⟨ev_t9 (List.mem_of_getElem? (i := 45) rfl), ev_t1 (List.mem_of_getElem? (i := 13) rfl), by decide, by decide +kernel, by decide +kernel, by decide +kernel⟩
set_option maxRecDepth 100000 in
theorem iwX12_octet : Cond.instanceMethod YX12_octet.1 ∈ lw_tbl := ev_t9 (List.mem_of_getElem? (i := 43) rfl)
set_option maxRecDepth 100000 in
theorem vwX12_octet : Cond.selects YX12_octet.1.cls YX12_octet.1 YX12_octet.1 ∈ lw_tbl := ev_t9 (List.mem_of_getElem? (i := 44) rfl)
abbrev YX12_isImage : ev_Y := (yX12_isImage, cX12_isImage, 3, (some .boolean), 12)
set_option maxRecDepth 100000 in
theorem mwX12_isImage : ev_mw YX12_isImage 1 := ⟨ev_t9 (List.mem_of_getElem? (i := 53) rfl), ev_t1 (List.mem_of_getElem? (i := 13) rfl), by decide, by decide +kernel, by decide +kernel, by decide +kernel⟩
set_option maxRecDepth 100000 in
theorem iwX12_isImage : Cond.instanceMethod YX12_isImage.1 ∈ lw_tbl := ev_t9 (List.mem_of_getElem? (i := 52) rfl)
set_option maxRecDepth 100000 in
theorem vwX12_isImage : Cond.selects YX12_isImage.1.cls YX12_isImage.1 YX12_isImage.1 ∈ lw_tbl := ev_p9 (q := (yX12_isImage, 104)) (List.mem_of_getElem? (i := 12) rfl)
abbrev YX12_on : ev_Y := (yX12_on, cX12_on, 3, (some .boolean), 12)
set_option maxRecDepth 100000 in
theorem mwX12_on : ev_mw YX12_on 0 := ⟨ev_t9 (List.mem_of_getElem? (i := 49) rfl), ev_t1 (List.mem_of_getElem? (i := 13) rfl), by decide, by decide +kernel, by decide +kernel, by decide +kernel⟩
set_option maxRecDepth 100000 in
theorem iwX12_on : Cond.instanceMethod YX12_on.1 ∈ lw_tbl := ev_t9 (List.mem_of_getElem? (i := 47) rfl)
set_option maxRecDepth 100000 in
theorem vwX12_on : Cond.selects YX12_on.1.cls YX12_on.1 YX12_on.1 ∈ lw_tbl := ev_t9 (List.mem_of_getElem? (i := 48) rfl)
abbrev YX12_status : ev_Y := (yX12_status, cX12_status, 2, (some .int), 12)
set_option maxRecDepth 100000 in
theorem mwX12_status : ev_mw YX12_status 1 := ⟨ev_t9 (List.mem_of_getElem? (i := 57) rfl), ev_t1 (List.mem_of_getElem? (i := 13) rfl), by decide, by decide +kernel, by decide +kernel, by decide +kernel⟩
set_option maxRecDepth 100000 in
theorem iwX12_status : Cond.instanceMethod YX12_status.1 ∈ lw_tbl := ev_t9 (List.mem_of_getElem? (i := 55) rfl)
set_option maxRecDepth 100000 in
theorem vwX12_status : Cond.selects YX12_status.1.cls YX12_status.1 YX12_status.1 ∈ lw_tbl := ev_t9 (List.mem_of_getElem? (i := 56) rfl)
abbrev YX0_init : ev_Y := (yX0_init, cX0_init, 2, none, 0)
set_option maxRecDepth 100000 in
theorem mwX0_init : ev_mw YX0_init 1 := ⟨ev_t2 (List.mem_of_getElem? (i := 62) rfl), ev_t1 (List.mem_of_getElem? (i := 10) rfl), by decide, by decide +kernel, by decide +kernel, by decide +kernel⟩
set_option maxRecDepth 100000 in
theorem iwX0_init : Cond.instanceMethod YX0_init.1 ∈ lw_tbl := ev_t2 (List.mem_of_getElem? (i := 61) rfl)
abbrev YX0_fewestToCheer : ev_Y := (yX0_fewestToCheer, cX0_fewestToCheer, 5, (some .int), 0)
set_option maxRecDepth 100000 in
theorem mwX0_fewestToCheer : ev_mw YX0_fewestToCheer 2 := ⟨ev_t4 (List.mem_of_getElem? (i := 151) rfl), ev_t1 (List.mem_of_getElem? (i := 10) rfl), by decide, by decide +kernel, by decide +kernel, by decide +kernel⟩
set_option maxRecDepth 100000 in
theorem iwX0_fewestToCheer : Cond.instanceMethod YX0_fewestToCheer.1 ∈ lw_tbl := ev_t4 (List.mem_of_getElem? (i := 149) rfl)
set_option maxRecDepth 100000 in
theorem vwX0_fewestToCheer : Cond.selects YX0_fewestToCheer.1.cls YX0_fewestToCheer.1 YX0_fewestToCheer.1 ∈ lw_tbl := ev_t4 (List.mem_of_getElem? (i := 150) rfl)
abbrev YX0_fewestToSigh : ev_Y := (yX0_fewestToSigh, cX0_fewestToSigh, 5, (some .int), 0)
set_option maxRecDepth 100000 in
theorem mwX0_fewestToSigh : ev_mw YX0_fewestToSigh 2 := ⟨ev_t4 (List.mem_of_getElem? (i := 171) rfl), ev_t1 (List.mem_of_getElem? (i := 10) rfl), by decide, by decide +kernel, by decide +kernel, by decide +kernel⟩
set_option maxRecDepth 100000 in
theorem iwX0_fewestToSigh : Cond.instanceMethod YX0_fewestToSigh.1 ∈ lw_tbl := ev_t4 (List.mem_of_getElem? (i := 169) rfl)
set_option maxRecDepth 100000 in
theorem vwX0_fewestToSigh : Cond.selects YX0_fewestToSigh.1.cls YX0_fewestToSigh.1 YX0_fewestToSigh.1 ∈ lw_tbl := ev_t4 (List.mem_of_getElem? (i := 170) rfl)
abbrev YX0_fires : ev_Y := (yX0_fires, cX0_fires, 6, (some .boolean), 0)
set_option maxRecDepth 100000 in
theorem mwX0_fires : ev_mw YX0_fires 4 := ⟨ev_t4 (List.mem_of_getElem? (i := 160) rfl), ev_t1 (List.mem_of_getElem? (i := 10) rfl), by decide, by decide +kernel, by decide +kernel, by decide +kernel⟩
set_option maxRecDepth 100000 in
theorem iwX0_fires : Cond.instanceMethod YX0_fires.1 ∈ lw_tbl := ev_t4 (List.mem_of_getElem? (i := 159) rfl)
set_option maxRecDepth 100000 in
theorem vwX0_fires : Cond.selects YX0_fires.1.cls YX0_fires.1 YX0_fires.1 ∈ lw_tbl := ev_p3 (q := (yX0_fires, 5)) (List.mem_of_getElem? (i := 4) rfl)
abbrev YX0_seekYes : ev_Y := (yX0_seekYes, cX0_seekYes, 4, none, 0)
set_option maxRecDepth 100000 in
theorem mwX0_seekYes : ev_mw YX0_seekYes 2 := ⟨ev_t4 (List.mem_of_getElem? (i := 179) rfl), ev_t1 (List.mem_of_getElem? (i := 10) rfl), by decide, by decide +kernel, by decide +kernel, by decide +kernel⟩
set_option maxRecDepth 100000 in
theorem iwX0_seekYes : Cond.instanceMethod YX0_seekYes.1 ∈ lw_tbl := ev_t4 (List.mem_of_getElem? (i := 177) rfl)
set_option maxRecDepth 100000 in
theorem vwX0_seekYes : Cond.selects YX0_seekYes.1.cls YX0_seekYes.1 YX0_seekYes.1 ∈ lw_tbl := ev_t4 (List.mem_of_getElem? (i := 178) rfl)
abbrev YX0_seekPlaces : ev_Y := (yX0_seekPlaces, cX0_seekPlaces, 5, none, 0)
set_option maxRecDepth 100000 in
theorem mwX0_seekPlaces : ev_mw YX0_seekPlaces 2 := ⟨ev_t4 (List.mem_of_getElem? (i := 200) rfl), ev_t1 (List.mem_of_getElem? (i := 10) rfl), by decide, by decide +kernel, by decide +kernel, by decide +kernel⟩
set_option maxRecDepth 100000 in
theorem iwX0_seekPlaces : Cond.instanceMethod YX0_seekPlaces.1 ∈ lw_tbl := ev_t4 (List.mem_of_getElem? (i := 198) rfl)
set_option maxRecDepth 100000 in
theorem vwX0_seekPlaces : Cond.selects YX0_seekPlaces.1.cls YX0_seekPlaces.1 YX0_seekPlaces.1 ∈ lw_tbl := ev_t4 (List.mem_of_getElem? (i := 199) rfl)
abbrev YX0_tryRounds : ev_Y := (yX0_tryRounds, cX0_tryRounds, 4, (some .int), 0)
set_option maxRecDepth 100000 in
theorem mwX0_tryRounds : ev_mw YX0_tryRounds 1 := ⟨ev_t4 (List.mem_of_getElem? (i := 183) rfl), ev_t1 (List.mem_of_getElem? (i := 10) rfl), by decide, by decide +kernel, by decide +kernel, by decide +kernel⟩
set_option maxRecDepth 100000 in
theorem iwX0_tryRounds : Cond.instanceMethod YX0_tryRounds.1 ∈ lw_tbl := ev_t4 (List.mem_of_getElem? (i := 182) rfl)
set_option maxRecDepth 100000 in
theorem vwX0_tryRounds : Cond.selects YX0_tryRounds.1.cls YX0_tryRounds.1 YX0_tryRounds.1 ∈ lw_tbl := ev_p3 (q := (yX0_tryRounds, 5)) (List.mem_of_getElem? (i := 5) rfl)
abbrev YX0_startWith : ev_Y := (yX0_startWith, cX0_startWith, 2, none, 0)
set_option maxRecDepth 100000 in
theorem mwX0_startWith : ev_mw YX0_startWith 1 := ⟨ev_t4 (List.mem_of_getElem? (i := 188) rfl), ev_t1 (List.mem_of_getElem? (i := 10) rfl), by decide, by decide +kernel, by decide +kernel, by decide +kernel⟩
set_option maxRecDepth 100000 in
theorem iwX0_startWith : Cond.instanceMethod YX0_startWith.1 ∈ lw_tbl := ev_t4 (List.mem_of_getElem? (i := 187) rfl)
set_option maxRecDepth 100000 in
theorem vwX0_startWith : Cond.selects YX0_startWith.1.cls YX0_startWith.1 YX0_startWith.1 ∈ lw_tbl := ev_p3 (q := (yX0_startWith, 5)) (List.mem_of_getElem? (i := 6) rfl)
abbrev YX0_weigh : ev_Y := (yX0_weigh, cX0_weigh, 4, none, 0)
set_option maxRecDepth 100000 in
theorem mwX0_weigh : ev_mw YX0_weigh 3 := ⟨ev_t4 (List.mem_of_getElem? (i := 192) rfl), ev_t1 (List.mem_of_getElem? (i := 10) rfl), by decide, by decide +kernel, by decide +kernel, by decide +kernel⟩
set_option maxRecDepth 100000 in
theorem iwX0_weigh : Cond.instanceMethod YX0_weigh.1 ∈ lw_tbl := ev_t4 (List.mem_of_getElem? (i := 191) rfl)
set_option maxRecDepth 100000 in
theorem vwX0_weigh : Cond.selects YX0_weigh.1.cls YX0_weigh.1 YX0_weigh.1 ∈ lw_tbl := ev_p3 (q := (yX0_weigh, 5)) (List.mem_of_getElem? (i := 7) rfl)
abbrev YX0_play : ev_Y := (yX0_play, cX0_play, 3, none, 0)
set_option maxRecDepth 100000 in
theorem mwX0_play : ev_mw YX0_play 1 := ⟨ev_t4 (List.mem_of_getElem? (i := 212) rfl), ev_t1 (List.mem_of_getElem? (i := 10) rfl), by decide, by decide +kernel, by decide +kernel, by decide +kernel⟩
set_option maxRecDepth 100000 in
theorem iwX0_play : Cond.instanceMethod YX0_play.1 ∈ lw_tbl := ev_t4 (List.mem_of_getElem? (i := 210) rfl)
set_option maxRecDepth 100000 in
theorem vwX0_play : Cond.selects YX0_play.1.cls YX0_play.1 YX0_play.1 ∈ lw_tbl := ev_t4 (List.mem_of_getElem? (i := 211) rfl)
abbrev YX0_worstBySigh : ev_Y := (yX0_worstBySigh, cX0_worstBySigh, 5, (some .int), 0)
set_option maxRecDepth 100000 in
theorem mwX0_worstBySigh : ev_mw YX0_worstBySigh 2 := ⟨ev_t4 (List.mem_of_getElem? (i := 216) rfl), ev_t1 (List.mem_of_getElem? (i := 10) rfl), by decide, by decide +kernel, by decide +kernel, by decide +kernel⟩
set_option maxRecDepth 100000 in
theorem iwX0_worstBySigh : Cond.instanceMethod YX0_worstBySigh.1 ∈ lw_tbl := ev_t4 (List.mem_of_getElem? (i := 215) rfl)
set_option maxRecDepth 100000 in
theorem vwX0_worstBySigh : Cond.selects YX0_worstBySigh.1.cls YX0_worstBySigh.1 YX0_worstBySigh.1 ∈ lw_tbl := ev_p3 (q := (yX0_worstBySigh, 5)) (List.mem_of_getElem? (i := 8) rfl)
abbrev YX1_init : ev_Y := (yX1_init, cX1_init, 1, none, 1)
set_option maxRecDepth 100000 in
theorem mwX1_init : ev_mw YX1_init 0 := ⟨ev_t1 (List.mem_of_getElem? (i := 32) rfl), ev_t1 (List.mem_of_getElem? (i := 2) rfl), by decide, by decide +kernel, by decide +kernel, by decide +kernel⟩
set_option maxRecDepth 100000 in
theorem iwX1_init : Cond.instanceMethod YX1_init.1 ∈ lw_tbl := ev_t1 (List.mem_of_getElem? (i := 31) rfl)
abbrev YX1_readFrom : ev_Y := (yX1_readFrom, cX1_readFrom, 4, (some .boolean), 1)
set_option maxRecDepth 100000 in
theorem mwX1_readFrom : ev_mw YX1_readFrom 2 := ⟨ev_t2 (List.mem_of_getElem? (i := 237) rfl), ev_t1 (List.mem_of_getElem? (i := 2) rfl), by decide, by decide +kernel, by decide +kernel, by decide +kernel⟩
set_option maxRecDepth 100000 in
theorem iwX1_readFrom : Cond.instanceMethod YX1_readFrom.1 ∈ lw_tbl := ev_t2 (List.mem_of_getElem? (i := 235) rfl)
set_option maxRecDepth 100000 in
theorem vwX1_readFrom : Cond.selects YX1_readFrom.1.cls YX1_readFrom.1 YX1_readFrom.1 ∈ lw_tbl := ev_t2 (List.mem_of_getElem? (i := 236) rfl)
abbrev YX1_clear : ev_Y := (yX1_clear, cX1_clear, 1, none, 1)
set_option maxRecDepth 100000 in
theorem mwX1_clear : ev_mw YX1_clear 0 := ⟨ev_t3 (List.mem_of_getElem? (i := 1) rfl), ev_t1 (List.mem_of_getElem? (i := 2) rfl), by decide, by decide +kernel, by decide +kernel, by decide +kernel⟩
set_option maxRecDepth 100000 in
theorem iwX1_clear : Cond.instanceMethod YX1_clear.1 ∈ lw_tbl := ev_t3 (List.mem_of_getElem? (i := 0) rfl)
set_option maxRecDepth 100000 in
theorem vwX1_clear : Cond.selects YX1_clear.1.cls YX1_clear.1 YX1_clear.1 ∈ lw_tbl := ev_p1 (q := (yX1_clear, 15)) (List.mem_of_getElem? (i := 1) rfl)
abbrev YX1_hasSays : ev_Y := (yX1_hasSays, cX1_hasSays, 1, (some .boolean), 1)
set_option maxRecDepth 100000 in
theorem mwX1_hasSays : ev_mw YX1_hasSays 0 := ⟨ev_t3 (List.mem_of_getElem? (i := 119) rfl), ev_t1 (List.mem_of_getElem? (i := 2) rfl), by decide, by decide +kernel, by decide +kernel, by decide +kernel⟩
set_option maxRecDepth 100000 in
theorem iwX1_hasSays : Cond.instanceMethod YX1_hasSays.1 ∈ lw_tbl := ev_t3 (List.mem_of_getElem? (i := 118) rfl)
set_option maxRecDepth 100000 in
theorem vwX1_hasSays : Cond.selects YX1_hasSays.1.cls YX1_hasSays.1 YX1_hasSays.1 ∈ lw_tbl := ev_p1 (q := (yX1_hasSays, 15)) (List.mem_of_getElem? (i := 9) rfl)
abbrev YX1_hasFeels : ev_Y := (yX1_hasFeels, cX1_hasFeels, 1, (some .boolean), 1)
set_option maxRecDepth 100000 in
theorem mwX1_hasFeels : ev_mw YX1_hasFeels 0 := ⟨ev_t3 (List.mem_of_getElem? (i := 123) rfl), ev_t1 (List.mem_of_getElem? (i := 2) rfl), by decide, by decide +kernel, by decide +kernel, by decide +kernel⟩
set_option maxRecDepth 100000 in
theorem iwX1_hasFeels : Cond.instanceMethod YX1_hasFeels.1 ∈ lw_tbl := ev_t3 (List.mem_of_getElem? (i := 122) rfl)
set_option maxRecDepth 100000 in
theorem vwX1_hasFeels : Cond.selects YX1_hasFeels.1.cls YX1_hasFeels.1 YX1_hasFeels.1 ∈ lw_tbl := ev_p1 (q := (yX1_hasFeels, 15)) (List.mem_of_getElem? (i := 10) rfl)
abbrev YX1_addUntoldSums : ev_Y := (yX1_addUntoldSums, cX1_addUntoldSums, 1, none, 1)
set_option maxRecDepth 100000 in
theorem mwX1_addUntoldSums : ev_mw YX1_addUntoldSums 0 := ⟨ev_t3 (List.mem_of_getElem? (i := 224) rfl), ev_t1 (List.mem_of_getElem? (i := 2) rfl), by decide, by decide +kernel, by decide +kernel, by decide +kernel⟩
set_option maxRecDepth 100000 in
theorem iwX1_addUntoldSums : Cond.instanceMethod YX1_addUntoldSums.1 ∈ lw_tbl := ev_t3 (List.mem_of_getElem? (i := 223) rfl)
set_option maxRecDepth 100000 in
theorem vwX1_addUntoldSums : Cond.selects YX1_addUntoldSums.1.cls YX1_addUntoldSums.1 YX1_addUntoldSums.1 ∈ lw_tbl := ev_p2 (q := (yX1_addUntoldSums, 15)) (List.mem_of_getElem? (i := 8) rfl)
abbrev YX1_readStatement : ev_Y := (yX1_readStatement, cX1_readStatement, 5, none, 1)
set_option maxRecDepth 100000 in
theorem mwX1_readStatement : ev_mw YX1_readStatement 2 := ⟨ev_t3 (List.mem_of_getElem? (i := 107) rfl), ev_t1 (List.mem_of_getElem? (i := 2) rfl), by decide, by decide +kernel, by decide +kernel, by decide +kernel⟩
set_option maxRecDepth 100000 in
theorem iwX1_readStatement : Cond.instanceMethod YX1_readStatement.1 ∈ lw_tbl := ev_t3 (List.mem_of_getElem? (i := 106) rfl)
set_option maxRecDepth 100000 in
theorem vwX1_readStatement : Cond.selects YX1_readStatement.1.cls YX1_readStatement.1 YX1_readStatement.1 ∈ lw_tbl := ev_p1 (q := (yX1_readStatement, 15)) (List.mem_of_getElem? (i := 7) rfl)
abbrev YX1_isTooMany : ev_Y := (yX1_isTooMany, cX1_isTooMany, 2, (some .boolean), 1)
set_option maxRecDepth 100000 in
theorem mwX1_isTooMany : ev_mw YX1_isTooMany 1 := ⟨ev_t3 (List.mem_of_getElem? (i := 115) rfl), ev_t1 (List.mem_of_getElem? (i := 2) rfl), by decide, by decide +kernel, by decide +kernel, by decide +kernel⟩
set_option maxRecDepth 100000 in
theorem iwX1_isTooMany : Cond.instanceMethod YX1_isTooMany.1 ∈ lw_tbl := ev_t3 (List.mem_of_getElem? (i := 114) rfl)
set_option maxRecDepth 100000 in
theorem vwX1_isTooMany : Cond.selects YX1_isTooMany.1.cls YX1_isTooMany.1 YX1_isTooMany.1 ∈ lw_tbl := ev_p1 (q := (yX1_isTooMany, 15)) (List.mem_of_getElem? (i := 8) rfl)
abbrev YX1_readTower : ev_Y := (yX1_readTower, cX1_readTower, 3, none, 1)
set_option maxRecDepth 100000 in
theorem mwX1_readTower : ev_mw YX1_readTower 1 := ⟨ev_t3 (List.mem_of_getElem? (i := 129) rfl), ev_t1 (List.mem_of_getElem? (i := 2) rfl), by decide, by decide +kernel, by decide +kernel, by decide +kernel⟩
set_option maxRecDepth 100000 in
theorem iwX1_readTower : Cond.instanceMethod YX1_readTower.1 ∈ lw_tbl := ev_t3 (List.mem_of_getElem? (i := 128) rfl)
set_option maxRecDepth 100000 in
theorem vwX1_readTower : Cond.selects YX1_readTower.1.cls YX1_readTower.1 YX1_readTower.1 ∈ lw_tbl := ev_p1 (q := (yX1_readTower, 15)) (List.mem_of_getElem? (i := 11) rfl)
abbrev YX1_readYes : ev_Y := (yX1_readYes, cX1_readYes, 3, none, 1)
set_option maxRecDepth 100000 in
theorem mwX1_readYes : ev_mw YX1_readYes 1 := ⟨ev_t3 (List.mem_of_getElem? (i := 145) rfl), ev_t1 (List.mem_of_getElem? (i := 2) rfl), by decide, by decide +kernel, by decide +kernel, by decide +kernel⟩
set_option maxRecDepth 100000 in
theorem iwX1_readYes : Cond.instanceMethod YX1_readYes.1 ∈ lw_tbl := ev_t3 (List.mem_of_getElem? (i := 144) rfl)
set_option maxRecDepth 100000 in
theorem vwX1_readYes : Cond.selects YX1_readYes.1.cls YX1_readYes.1 YX1_readYes.1 ∈ lw_tbl := ev_p1 (q := (yX1_readYes, 15)) (List.mem_of_getElem? (i := 13) rfl)
abbrev YX1_find : ev_Y := (yX1_find, cX1_find, 5, (some .int), 1)
set_option maxRecDepth 100000 in
theorem mwX1_find : ev_mw YX1_find 1 := ⟨ev_t3 (List.mem_of_getElem? (i := 137) rfl), ev_t1 (List.mem_of_getElem? (i := 2) rfl), by decide, by decide +kernel, by decide +kernel, by decide +kernel⟩
set_option maxRecDepth 100000 in
theorem iwX1_find : Cond.instanceMethod YX1_find.1 ∈ lw_tbl := ev_t3 (List.mem_of_getElem? (i := 136) rfl)
set_option maxRecDepth 100000 in
theorem vwX1_find : Cond.selects YX1_find.1.cls YX1_find.1 YX1_find.1 ∈ lw_tbl := ev_p1 (q := (yX1_find, 15)) (List.mem_of_getElem? (i := 12) rfl)
abbrev YX1_readSays : ev_Y := (yX1_readSays, cX1_readSays, 2, none, 1)
set_option maxRecDepth 100000 in
theorem mwX1_readSays : ev_mw YX1_readSays 1 := ⟨ev_t3 (List.mem_of_getElem? (i := 149) rfl), ev_t1 (List.mem_of_getElem? (i := 2) rfl), by decide, by decide +kernel, by decide +kernel, by decide +kernel⟩
set_option maxRecDepth 100000 in
theorem iwX1_readSays : Cond.instanceMethod YX1_readSays.1 ∈ lw_tbl := ev_t3 (List.mem_of_getElem? (i := 148) rfl)
set_option maxRecDepth 100000 in
theorem vwX1_readSays : Cond.selects YX1_readSays.1.cls YX1_readSays.1 YX1_readSays.1 ∈ lw_tbl := ev_p1 (q := (yX1_readSays, 15)) (List.mem_of_getElem? (i := 14) rfl)
abbrev YX1_readFeels : ev_Y := (yX1_readFeels, cX1_readFeels, 2, none, 1)
set_option maxRecDepth 100000 in
theorem mwX1_readFeels : ev_mw YX1_readFeels 1 := ⟨ev_t3 (List.mem_of_getElem? (i := 220) rfl), ev_t1 (List.mem_of_getElem? (i := 2) rfl), by decide, by decide +kernel, by decide +kernel, by decide +kernel⟩
set_option maxRecDepth 100000 in
theorem iwX1_readFeels : Cond.instanceMethod YX1_readFeels.1 ∈ lw_tbl := ev_t3 (List.mem_of_getElem? (i := 219) rfl)
set_option maxRecDepth 100000 in
theorem vwX1_readFeels : Cond.selects YX1_readFeels.1.cls YX1_readFeels.1 YX1_readFeels.1 ∈ lw_tbl := ev_p2 (q := (yX1_readFeels, 15)) (List.mem_of_getElem? (i := 7) rfl)
abbrev YX2_init : ev_Y := (yX2_init, cX2_init, 1, none, 2)
set_option maxRecDepth 100000 in
theorem mwX2_init : ev_mw YX2_init 0 := ⟨ev_t1 (List.mem_of_getElem? (i := 38) rfl), ev_t1 (List.mem_of_getElem? (i := 3) rfl), by decide, by decide +kernel, by decide +kernel, by decide +kernel⟩
set_option maxRecDepth 100000 in
theorem iwX2_init : Cond.instanceMethod YX2_init.1 ∈ lw_tbl := ev_t1 (List.mem_of_getElem? (i := 37) rfl)
abbrev YX2_add : ev_Y := (yX2_add, cX2_add, 2, none, 2)
set_option maxRecDepth 100000 in
theorem mwX2_add : ev_mw YX2_add 1 := ⟨ev_t3 (List.mem_of_getElem? (i := 178) rfl), ev_t1 (List.mem_of_getElem? (i := 3) rfl), by decide, by decide +kernel, by decide +kernel, by decide +kernel⟩
set_option maxRecDepth 100000 in
theorem iwX2_add : Cond.instanceMethod YX2_add.1 ∈ lw_tbl := ev_t3 (List.mem_of_getElem? (i := 176) rfl)
set_option maxRecDepth 100000 in
theorem vwX2_add : Cond.selects YX2_add.1.cls YX2_add.1 YX2_add.1 ∈ lw_tbl := ev_t3 (List.mem_of_getElem? (i := 177) rfl)
abbrev YX3_init : ev_Y := (yX3_init, cX3_init, 2, none, 3)
set_option maxRecDepth 100000 in
theorem mwX3_init : ev_mw YX3_init 1 := ⟨ev_t1 (List.mem_of_getElem? (i := 181) rfl), ev_t1 (List.mem_of_getElem? (i := 6) rfl), by decide, by decide +kernel, by decide +kernel, by decide +kernel⟩
set_option maxRecDepth 100000 in
theorem iwX3_init : Cond.instanceMethod YX3_init.1 ∈ lw_tbl := ev_t1 (List.mem_of_getElem? (i := 180) rfl)
abbrev YX3_go : ev_Y := (yX3_go, cX3_go, 4, none, 3)
set_option maxRecDepth 100000 in
theorem mwX3_go : ev_mw YX3_go 2 := ⟨ev_t4 (List.mem_of_getElem? (i := 59) rfl), ev_t1 (List.mem_of_getElem? (i := 6) rfl), by decide, by decide +kernel, by decide +kernel, by decide +kernel⟩
set_option maxRecDepth 100000 in
theorem iwX3_go : Cond.instanceMethod YX3_go.1 ∈ lw_tbl := ev_t4 (List.mem_of_getElem? (i := 57) rfl)
set_option maxRecDepth 100000 in
theorem vwX3_go : Cond.selects YX3_go.1.cls YX3_go.1 YX3_go.1 ∈ lw_tbl := ev_t4 (List.mem_of_getElem? (i := 58) rfl)
abbrev YX3_goThrough : ev_Y := (yX3_goThrough, cX3_goThrough, 6, none, 3)
set_option maxRecDepth 100000 in
theorem mwX3_goThrough : ev_mw YX3_goThrough 3 := ⟨ev_t4 (List.mem_of_getElem? (i := 63) rfl), ev_t1 (List.mem_of_getElem? (i := 6) rfl), by decide, by decide +kernel, by decide +kernel, by decide +kernel⟩
set_option maxRecDepth 100000 in
theorem iwX3_goThrough : Cond.instanceMethod YX3_goThrough.1 ∈ lw_tbl := ev_t4 (List.mem_of_getElem? (i := 62) rfl)
set_option maxRecDepth 100000 in
theorem vwX3_goThrough : Cond.selects YX3_goThrough.1.cls YX3_goThrough.1 YX3_goThrough.1 ∈ lw_tbl := ev_p2 (q := (yX3_goThrough, 4)) (List.mem_of_getElem? (i := 15) rfl)
abbrev YX3_graded : ev_Y := (yX3_graded, cX3_graded, 1, (some .int), 3)
set_option maxRecDepth 100000 in
theorem mwX3_graded : ev_mw YX3_graded 1 := ⟨ev_t4 (List.mem_of_getElem? (i := 94) rfl), ev_t1 (List.mem_of_getElem? (i := 6) rfl), by decide, by decide +kernel, by decide +kernel, by decide +kernel⟩
set_option maxRecDepth 100000 in
theorem swX3_graded : Cond.static YX3_graded.1 ∈ lw_tbl := ev_t4 (List.mem_of_getElem? (i := 93) rfl)
abbrev YX3_towers : ev_Y := (yX3_towers, cX3_towers, 1, (some .int), 3)
set_option maxRecDepth 100000 in
theorem mwX3_towers : ev_mw YX3_towers 0 := ⟨ev_t4 (List.mem_of_getElem? (i := 155) rfl), ev_t1 (List.mem_of_getElem? (i := 6) rfl), by decide, by decide +kernel, by decide +kernel, by decide +kernel⟩
set_option maxRecDepth 100000 in
theorem iwX3_towers : Cond.instanceMethod YX3_towers.1 ∈ lw_tbl := ev_t4 (List.mem_of_getElem? (i := 153) rfl)
set_option maxRecDepth 100000 in
theorem vwX3_towers : Cond.selects YX3_towers.1.cls YX3_towers.1 YX3_towers.1 ∈ lw_tbl := ev_t4 (List.mem_of_getElem? (i := 154) rfl)
abbrev YX3_doubtfulOnes : ev_Y := (yX3_doubtfulOnes, cX3_doubtfulOnes, 1, (some .int), 3)
set_option maxRecDepth 100000 in
theorem mwX3_doubtfulOnes : ev_mw YX3_doubtfulOnes 0 := ⟨ev_t4 (List.mem_of_getElem? (i := 116) rfl), ev_t1 (List.mem_of_getElem? (i := 6) rfl), by decide, by decide +kernel, by decide +kernel, by decide +kernel⟩
set_option maxRecDepth 100000 in
theorem iwX3_doubtfulOnes : Cond.instanceMethod YX3_doubtfulOnes.1 ∈ lw_tbl := ev_t4 (List.mem_of_getElem? (i := 114) rfl)
set_option maxRecDepth 100000 in
theorem vwX3_doubtfulOnes : Cond.selects YX3_doubtfulOnes.1.cls YX3_doubtfulOnes.1 YX3_doubtfulOnes.1 ∈ lw_tbl := ev_t4 (List.mem_of_getElem? (i := 115) rfl)
abbrev YX3_isFire : ev_Y := (yX3_isFire, cX3_isFire, 1, (some .boolean), 3)
set_option maxRecDepth 100000 in
theorem mwX3_isFire : ev_mw YX3_isFire 0 := ⟨ev_t4 (List.mem_of_getElem? (i := 126) rfl), ev_t1 (List.mem_of_getElem? (i := 6) rfl), by decide, by decide +kernel, by decide +kernel, by decide +kernel⟩
set_option maxRecDepth 100000 in
theorem iwX3_isFire : Cond.instanceMethod YX3_isFire.1 ∈ lw_tbl := ev_t4 (List.mem_of_getElem? (i := 124) rfl)
set_option maxRecDepth 100000 in
theorem vwX3_isFire : Cond.selects YX3_isFire.1.cls YX3_isFire.1 YX3_isFire.1 ∈ lw_tbl := ev_t4 (List.mem_of_getElem? (i := 125) rfl)
abbrev YX3_rowOf : ev_Y := (yX3_rowOf, cX3_rowOf, 4, (some .int), 3)
set_option maxRecDepth 100000 in
theorem mwX3_rowOf : ev_mw YX3_rowOf 1 := ⟨ev_t4 (List.mem_of_getElem? (i := 130) rfl), ev_t1 (List.mem_of_getElem? (i := 6) rfl), by decide, by decide +kernel, by decide +kernel, by decide +kernel⟩
set_option maxRecDepth 100000 in
theorem iwX3_rowOf : Cond.instanceMethod YX3_rowOf.1 ∈ lw_tbl := ev_t4 (List.mem_of_getElem? (i := 128) rfl)
set_option maxRecDepth 100000 in
theorem vwX3_rowOf : Cond.selects YX3_rowOf.1.cls YX3_rowOf.1 YX3_rowOf.1 ∈ lw_tbl := ev_t4 (List.mem_of_getElem? (i := 129) rfl)
abbrev YX4_init : ev_Y := (yX4_init, cX4_init, 2, none, 4)
set_option maxRecDepth 100000 in
theorem mwX4_init : ev_mw YX4_init 1 := ⟨ev_t2 (List.mem_of_getElem? (i := 89) rfl), ev_t1 (List.mem_of_getElem? (i := 11) rfl), by decide, by decide +kernel, by decide +kernel, by decide +kernel⟩
set_option maxRecDepth 100000 in
theorem iwX4_init : Cond.instanceMethod YX4_init.1 ∈ lw_tbl := ev_t2 (List.mem_of_getElem? (i := 88) rfl)
abbrev YX4_look : ev_Y := (yX4_look, cX4_look, 5, (some .boolean), 4)
set_option maxRecDepth 100000 in
theorem mwX4_look : ev_mw YX4_look 2 := ⟨ev_t4 (List.mem_of_getElem? (i := 230) rfl), ev_t1 (List.mem_of_getElem? (i := 11) rfl), by decide, by decide +kernel, by decide +kernel, by decide +kernel⟩
set_option maxRecDepth 100000 in
theorem iwX4_look : Cond.instanceMethod YX4_look.1 ∈ lw_tbl := ev_t4 (List.mem_of_getElem? (i := 228) rfl)
set_option maxRecDepth 100000 in
theorem vwX4_look : Cond.selects YX4_look.1.cls YX4_look.1 YX4_look.1 ∈ lw_tbl := ev_t4 (List.mem_of_getElem? (i := 229) rfl)
abbrev YX4_moodBits : ev_Y := (yX4_moodBits, cX4_moodBits, 5, (some .int), 4)
set_option maxRecDepth 100000 in
theorem mwX4_moodBits : ev_mw YX4_moodBits 2 := ⟨ev_t4 (List.mem_of_getElem? (i := 238) rfl), ev_t1 (List.mem_of_getElem? (i := 11) rfl), by decide, by decide +kernel, by decide +kernel, by decide +kernel⟩
set_option maxRecDepth 100000 in
theorem iwX4_moodBits : Cond.instanceMethod YX4_moodBits.1 ∈ lw_tbl := ev_t4 (List.mem_of_getElem? (i := 236) rfl)
set_option maxRecDepth 100000 in
theorem vwX4_moodBits : Cond.selects YX4_moodBits.1.cls YX4_moodBits.1 YX4_moodBits.1 ∈ lw_tbl := ev_t4 (List.mem_of_getElem? (i := 237) rfl)
abbrev YX4_farthestSeen : ev_Y := (yX4_farthestSeen, cX4_farthestSeen, 3, (some .int), 4)
set_option maxRecDepth 100000 in
theorem mwX4_farthestSeen : ev_mw YX4_farthestSeen 0 := ⟨ev_t5 (List.mem_of_getElem? (i := 2) rfl), ev_t1 (List.mem_of_getElem? (i := 11) rfl), by decide, by decide +kernel, by decide +kernel, by decide +kernel⟩
set_option maxRecDepth 100000 in
theorem iwX4_farthestSeen : Cond.instanceMethod YX4_farthestSeen.1 ∈ lw_tbl := ev_t5 (List.mem_of_getElem? (i := 1) rfl)
set_option maxRecDepth 100000 in
theorem vwX4_farthestSeen : Cond.selects YX4_farthestSeen.1.cls YX4_farthestSeen.1 YX4_farthestSeen.1 ∈ lw_tbl := ev_p3 (q := (yX4_farthestSeen, 10)) (List.mem_of_getElem? (i := 9) rfl)
abbrev YX4_listen : ev_Y := (yX4_listen, cX4_listen, 7, none, 4)
set_option maxRecDepth 100000 in
theorem mwX4_listen : ev_mw YX4_listen 3 := ⟨ev_t5 (List.mem_of_getElem? (i := 7) rfl), ev_t1 (List.mem_of_getElem? (i := 11) rfl), by decide, by decide +kernel, by decide +kernel, by decide +kernel⟩
set_option maxRecDepth 100000 in
theorem iwX4_listen : Cond.instanceMethod YX4_listen.1 ∈ lw_tbl := ev_t5 (List.mem_of_getElem? (i := 6) rfl)
set_option maxRecDepth 100000 in
theorem vwX4_listen : Cond.selects YX4_listen.1.cls YX4_listen.1 YX4_listen.1 ∈ lw_tbl := ev_p3 (q := (yX4_listen, 10)) (List.mem_of_getElem? (i := 10) rfl)
abbrev YX4_indexOf : ev_Y := (yX4_indexOf, cX4_indexOf, 3, (some .int), 4)
set_option maxRecDepth 100000 in
theorem mwX4_indexOf : ev_mw YX4_indexOf 3 := ⟨ev_t5 (List.mem_of_getElem? (i := 14) rfl), ev_t1 (List.mem_of_getElem? (i := 11) rfl), by decide, by decide +kernel, by decide +kernel, by decide +kernel⟩
set_option maxRecDepth 100000 in
theorem swX4_indexOf : Cond.static YX4_indexOf.1 ∈ lw_tbl := ev_t5 (List.mem_of_getElem? (i := 13) rfl)
abbrev YX4_isAllSo : ev_Y := (yX4_isAllSo, cX4_isAllSo, 4, (some .boolean), 4)
set_option maxRecDepth 100000 in
theorem mwX4_isAllSo : ev_mw YX4_isAllSo 1 := ⟨ev_t5 (List.mem_of_getElem? (i := 18) rfl), ev_t1 (List.mem_of_getElem? (i := 11) rfl), by decide, by decide +kernel, by decide +kernel, by decide +kernel⟩
set_option maxRecDepth 100000 in
theorem iwX4_isAllSo : Cond.instanceMethod YX4_isAllSo.1 ∈ lw_tbl := ev_t5 (List.mem_of_getElem? (i := 17) rfl)
set_option maxRecDepth 100000 in
theorem vwX4_isAllSo : Cond.selects YX4_isAllSo.1.cls YX4_isAllSo.1 YX4_isAllSo.1 ∈ lw_tbl := ev_p3 (q := (yX4_isAllSo, 10)) (List.mem_of_getElem? (i := 11) rfl)
abbrev YX4_seekTelling : ev_Y := (yX4_seekTelling, cX4_seekTelling, 7, none, 4)
set_option maxRecDepth 100000 in
theorem mwX4_seekTelling : ev_mw YX4_seekTelling 3 := ⟨ev_t5 (List.mem_of_getElem? (i := 26) rfl), ev_t1 (List.mem_of_getElem? (i := 11) rfl), by decide, by decide +kernel, by decide +kernel, by decide +kernel⟩
set_option maxRecDepth 100000 in
theorem iwX4_seekTelling : Cond.instanceMethod YX4_seekTelling.1 ∈ lw_tbl := ev_t5 (List.mem_of_getElem? (i := 24) rfl)
set_option maxRecDepth 100000 in
theorem vwX4_seekTelling : Cond.selects YX4_seekTelling.1.cls YX4_seekTelling.1 YX4_seekTelling.1 ∈ lw_tbl := ev_t5 (List.mem_of_getElem? (i := 25) rfl)
abbrev YX4_mostAlike : ev_Y := (yX4_mostAlike, cX4_mostAlike, 7, (some .int), 4)
set_option maxRecDepth 100000 in
theorem mwX4_mostAlike : ev_mw YX4_mostAlike 3 := ⟨ev_t5 (List.mem_of_getElem? (i := 30) rfl), ev_t1 (List.mem_of_getElem? (i := 11) rfl), by decide, by decide +kernel, by decide +kernel, by decide +kernel⟩
set_option maxRecDepth 100000 in
theorem iwX4_mostAlike : Cond.instanceMethod YX4_mostAlike.1 ∈ lw_tbl := ev_t5 (List.mem_of_getElem? (i := 29) rfl)
set_option maxRecDepth 100000 in
theorem vwX4_mostAlike : Cond.selects YX4_mostAlike.1.cls YX4_mostAlike.1 YX4_mostAlike.1 ∈ lw_tbl := ev_p3 (q := (yX4_mostAlike, 10)) (List.mem_of_getElem? (i := 12) rfl)
abbrev YX5_init : ev_Y := (yX5_init, cX5_init, 1, none, 5)
set_option maxRecDepth 100000 in
theorem mwX5_init : ev_mw YX5_init 0 := ⟨ev_t1 (List.mem_of_getElem? (i := 187) rfl), ev_t1 (List.mem_of_getElem? (i := 7) rfl), by decide, by decide +kernel, by decide +kernel, by decide +kernel⟩
set_option maxRecDepth 100000 in
theorem iwX5_init : Cond.instanceMethod YX5_init.1 ∈ lw_tbl := ev_t1 (List.mem_of_getElem? (i := 186) rfl)
abbrev YX5_work : ev_Y := (yX5_work, cX5_work, 7, (some .int), 5)
set_option maxRecDepth 100000 in
theorem mwX5_work : ev_mw YX5_work 3 := ⟨ev_t4 (List.mem_of_getElem? (i := 67) rfl), ev_t1 (List.mem_of_getElem? (i := 7) rfl), by decide, by decide +kernel, by decide +kernel, by decide +kernel⟩
set_option maxRecDepth 100000 in
theorem iwX5_work : Cond.instanceMethod YX5_work.1 ∈ lw_tbl := ev_t4 (List.mem_of_getElem? (i := 65) rfl)
set_option maxRecDepth 100000 in
theorem vwX5_work : Cond.selects YX5_work.1.cls YX5_work.1 YX5_work.1 ∈ lw_tbl := ev_t4 (List.mem_of_getElem? (i := 66) rfl)
abbrev YX5_valueOf : ev_Y := (yX5_valueOf, cX5_valueOf, 3, (some .int), 5)
set_option maxRecDepth 100000 in
theorem mwX5_valueOf : ev_mw YX5_valueOf 1 := ⟨ev_t4 (List.mem_of_getElem? (i := 72) rfl), ev_t1 (List.mem_of_getElem? (i := 7) rfl), by decide, by decide +kernel, by decide +kernel, by decide +kernel⟩
set_option maxRecDepth 100000 in
theorem iwX5_valueOf : Cond.instanceMethod YX5_valueOf.1 ∈ lw_tbl := ev_t4 (List.mem_of_getElem? (i := 71) rfl)
set_option maxRecDepth 100000 in
theorem vwX5_valueOf : Cond.selects YX5_valueOf.1.cls YX5_valueOf.1 YX5_valueOf.1 ∈ lw_tbl := ev_p3 (q := (yX5_valueOf, 4)) (List.mem_of_getElem? (i := 0) rfl)
abbrev YX5_saidAhead : ev_Y := (yX5_saidAhead, cX5_saidAhead, 3, (some .int), 5)
set_option maxRecDepth 100000 in
theorem mwX5_saidAhead : ev_mw YX5_saidAhead 1 := ⟨ev_t4 (List.mem_of_getElem? (i := 76) rfl), ev_t1 (List.mem_of_getElem? (i := 7) rfl), by decide, by decide +kernel, by decide +kernel, by decide +kernel⟩
set_option maxRecDepth 100000 in
theorem iwX5_saidAhead : Cond.instanceMethod YX5_saidAhead.1 ∈ lw_tbl := ev_t4 (List.mem_of_getElem? (i := 75) rfl)
set_option maxRecDepth 100000 in
theorem vwX5_saidAhead : Cond.selects YX5_saidAhead.1.cls YX5_saidAhead.1 YX5_saidAhead.1 ∈ lw_tbl := ev_p3 (q := (yX5_saidAhead, 4)) (List.mem_of_getElem? (i := 1) rfl)
abbrev YX5_join : ev_Y := (yX5_join, cX5_join, 3, (some .int), 5)
set_option maxRecDepth 100000 in
theorem mwX5_join : ev_mw YX5_join 3 := ⟨ev_t4 (List.mem_of_getElem? (i := 79) rfl), ev_t1 (List.mem_of_getElem? (i := 7) rfl), by decide, by decide +kernel, by decide +kernel, by decide +kernel⟩
set_option maxRecDepth 100000 in
theorem swX5_join : Cond.static YX5_join.1 ∈ lw_tbl := ev_t4 (List.mem_of_getElem? (i := 78) rfl)
abbrev YX6_init : ev_Y := (yX6_init, cX6_init, 2, none, 6)
set_option maxRecDepth 100000 in
theorem mwX6_init : ev_mw YX6_init 0 := ⟨ev_t2 (List.mem_of_getElem? (i := 132) rfl), ev_t1 (List.mem_of_getElem? (i := 12) rfl), by decide, by decide +kernel, by decide +kernel, by decide +kernel⟩
set_option maxRecDepth 100000 in
theorem iwX6_init : Cond.instanceMethod YX6_init.1 ∈ lw_tbl := ev_t2 (List.mem_of_getElem? (i := 131) rfl)
abbrev YX6_keep : ev_Y := (yX6_keep, cX6_keep, 2, none, 6)
set_option maxRecDepth 100000 in
theorem mwX6_keep : ev_mw YX6_keep 1 := ⟨ev_t5 (List.mem_of_getElem? (i := 38) rfl), ev_t1 (List.mem_of_getElem? (i := 12) rfl), by decide, by decide +kernel, by decide +kernel, by decide +kernel⟩
set_option maxRecDepth 100000 in
theorem iwX6_keep : Cond.instanceMethod YX6_keep.1 ∈ lw_tbl := ev_t5 (List.mem_of_getElem? (i := 36) rfl)
set_option maxRecDepth 100000 in
theorem vwX6_keep : Cond.selects YX6_keep.1.cls YX6_keep.1 YX6_keep.1 ∈ lw_tbl := ev_t5 (List.mem_of_getElem? (i := 37) rfl)
abbrev YX6_bringBack : ev_Y := (yX6_bringBack, cX6_bringBack, 2, (some .boolean), 6)
set_option maxRecDepth 100000 in
theorem mwX6_bringBack : ev_mw YX6_bringBack 1 := ⟨ev_t5 (List.mem_of_getElem? (i := 90) rfl), ev_t1 (List.mem_of_getElem? (i := 12) rfl), by decide, by decide +kernel, by decide +kernel, by decide +kernel⟩
set_option maxRecDepth 100000 in
theorem iwX6_bringBack : Cond.instanceMethod YX6_bringBack.1 ∈ lw_tbl := ev_t5 (List.mem_of_getElem? (i := 88) rfl)
set_option maxRecDepth 100000 in
theorem vwX6_bringBack : Cond.selects YX6_bringBack.1.cls YX6_bringBack.1 YX6_bringBack.1 ∈ lw_tbl := ev_t5 (List.mem_of_getElem? (i := 89) rfl)
abbrev YX6_addFire : ev_Y := (yX6_addFire, cX6_addFire, 5, (some .int), 6)
set_option maxRecDepth 100000 in
theorem mwX6_addFire : ev_mw YX6_addFire 4 := ⟨ev_t5 (List.mem_of_getElem? (i := 65) rfl), ev_t1 (List.mem_of_getElem? (i := 12) rfl), by decide, by decide +kernel, by decide +kernel, by decide +kernel⟩
set_option maxRecDepth 100000 in
theorem iwX6_addFire : Cond.instanceMethod YX6_addFire.1 ∈ lw_tbl := ev_t5 (List.mem_of_getElem? (i := 63) rfl)
set_option maxRecDepth 100000 in
theorem vwX6_addFire : Cond.selects YX6_addFire.1.cls YX6_addFire.1 YX6_addFire.1 ∈ lw_tbl := ev_t5 (List.mem_of_getElem? (i := 64) rfl)
abbrev YX6_fireOf : ev_Y := (yX6_fireOf, cX6_fireOf, 3, (some .int), 6)
set_option maxRecDepth 100000 in
theorem mwX6_fireOf : ev_mw YX6_fireOf 2 := ⟨ev_t4 (List.mem_of_getElem? (i := 39) rfl), ev_t1 (List.mem_of_getElem? (i := 12) rfl), by decide, by decide +kernel, by decide +kernel, by decide +kernel⟩
set_option maxRecDepth 100000 in
theorem iwX6_fireOf : Cond.instanceMethod YX6_fireOf.1 ∈ lw_tbl := ev_t4 (List.mem_of_getElem? (i := 37) rfl)
set_option maxRecDepth 100000 in
theorem vwX6_fireOf : Cond.selects YX6_fireOf.1.cls YX6_fireOf.1 YX6_fireOf.1 ∈ lw_tbl := ev_t4 (List.mem_of_getElem? (i := 38) rfl)
abbrev YX7_init : ev_Y := (yX7_init, cX7_init, 4, none, 7)
set_option maxRecDepth 100000 in
theorem mwX7_init : ev_mw YX7_init 3 := ⟨ev_t1 (List.mem_of_getElem? (i := 228) rfl), ev_t1 (List.mem_of_getElem? (i := 8) rfl), by decide, by decide +kernel, by decide +kernel, by decide +kernel⟩
set_option maxRecDepth 100000 in
theorem iwX7_init : Cond.instanceMethod YX7_init.1 ∈ lw_tbl := ev_t1 (List.mem_of_getElem? (i := 227) rfl)
abbrev YX7_read : ev_Y := (yX7_read, cX7_read, 1, (some .boolean), 7)
set_option maxRecDepth 100000 in
theorem mwX7_read : ev_mw YX7_read 0 := ⟨ev_t5 (List.mem_of_getElem? (i := 103) rfl), ev_t1 (List.mem_of_getElem? (i := 8) rfl), by decide, by decide +kernel, by decide +kernel, by decide +kernel⟩
set_option maxRecDepth 100000 in
theorem iwX7_read : Cond.instanceMethod YX7_read.1 ∈ lw_tbl := ev_t5 (List.mem_of_getElem? (i := 101) rfl)
set_option maxRecDepth 100000 in
theorem vwX7_read : Cond.selects YX7_read.1.cls YX7_read.1 YX7_read.1 ∈ lw_tbl := ev_t5 (List.mem_of_getElem? (i := 102) rfl)
abbrev YX7_readTest : ev_Y := (yX7_readTest, cX7_readTest, 2, none, 7)
set_option maxRecDepth 100000 in
theorem mwX7_readTest : ev_mw YX7_readTest 0 := ⟨ev_t5 (List.mem_of_getElem? (i := 111) rfl), ev_t1 (List.mem_of_getElem? (i := 8) rfl), by decide, by decide +kernel, by decide +kernel, by decide +kernel⟩
set_option maxRecDepth 100000 in
theorem iwX7_readTest : Cond.instanceMethod YX7_readTest.1 ∈ lw_tbl := ev_t5 (List.mem_of_getElem? (i := 110) rfl)
set_option maxRecDepth 100000 in
theorem vwX7_readTest : Cond.selects YX7_readTest.1.cls YX7_readTest.1 YX7_readTest.1 ∈ lw_tbl := ev_p4 (q := (yX7_readTest, 7)) (List.mem_of_getElem? (i := 1) rfl)
abbrev YX7_readBoth : ev_Y := (yX7_readBoth, cX7_readBoth, 2, none, 7)
set_option maxRecDepth 100000 in
theorem mwX7_readBoth : ev_mw YX7_readBoth 0 := ⟨ev_t5 (List.mem_of_getElem? (i := 115) rfl), ev_t1 (List.mem_of_getElem? (i := 8) rfl), by decide, by decide +kernel, by decide +kernel, by decide +kernel⟩
set_option maxRecDepth 100000 in
theorem iwX7_readBoth : Cond.instanceMethod YX7_readBoth.1 ∈ lw_tbl := ev_t5 (List.mem_of_getElem? (i := 114) rfl)
set_option maxRecDepth 100000 in
theorem vwX7_readBoth : Cond.selects YX7_readBoth.1.cls YX7_readBoth.1 YX7_readBoth.1 ∈ lw_tbl := ev_p4 (q := (yX7_readBoth, 7)) (List.mem_of_getElem? (i := 2) rfl)
abbrev YX7_readFact : ev_Y := (yX7_readFact, cX7_readFact, 1, none, 7)
set_option maxRecDepth 100000 in
theorem mwX7_readFact : ev_mw YX7_readFact 0 := ⟨ev_t5 (List.mem_of_getElem? (i := 119) rfl), ev_t1 (List.mem_of_getElem? (i := 8) rfl), by decide, by decide +kernel, by decide +kernel, by decide +kernel⟩
set_option maxRecDepth 100000 in
theorem iwX7_readFact : Cond.instanceMethod YX7_readFact.1 ∈ lw_tbl := ev_t5 (List.mem_of_getElem? (i := 118) rfl)
set_option maxRecDepth 100000 in
theorem vwX7_readFact : Cond.selects YX7_readFact.1.cls YX7_readFact.1 YX7_readFact.1 ∈ lw_tbl := ev_p4 (q := (yX7_readFact, 7)) (List.mem_of_getElem? (i := 3) rfl)
abbrev YX7_readComparison : ev_Y := (yX7_readComparison, cX7_readComparison, 2, none, 7)
set_option maxRecDepth 100000 in
theorem mwX7_readComparison : ev_mw YX7_readComparison 0 := ⟨ev_t5 (List.mem_of_getElem? (i := 129) rfl), ev_t1 (List.mem_of_getElem? (i := 8) rfl), by decide, by decide +kernel, by decide +kernel, by decide +kernel⟩
set_option maxRecDepth 100000 in
theorem iwX7_readComparison : Cond.instanceMethod YX7_readComparison.1 ∈ lw_tbl := ev_t5 (List.mem_of_getElem? (i := 128) rfl)
set_option maxRecDepth 100000 in
theorem vwX7_readComparison : Cond.selects YX7_readComparison.1.cls YX7_readComparison.1 YX7_readComparison.1 ∈ lw_tbl := ev_p4 (q := (yX7_readComparison, 7)) (List.mem_of_getElem? (i := 4) rfl)
abbrev YX7_answer : ev_Y := (yX7_answer, cX7_answer, 5, (some .long), 7)
set_option maxRecDepth 100000 in
theorem mwX7_answer : ev_mw YX7_answer 1 := ⟨ev_t5 (List.mem_of_getElem? (i := 137) rfl), ev_t1 (List.mem_of_getElem? (i := 8) rfl), by decide, by decide +kernel, by decide +kernel, by decide +kernel⟩
set_option maxRecDepth 100000 in
theorem iwX7_answer : Cond.instanceMethod YX7_answer.1 ∈ lw_tbl := ev_t5 (List.mem_of_getElem? (i := 135) rfl)
set_option maxRecDepth 100000 in
theorem vwX7_answer : Cond.selects YX7_answer.1.cls YX7_answer.1 YX7_answer.1 ∈ lw_tbl := ev_t5 (List.mem_of_getElem? (i := 136) rfl)
abbrev YX7_joined : ev_Y := (yX7_joined, cX7_joined, 5, (some .long), 7)
set_option maxRecDepth 100000 in
theorem mwX7_joined : ev_mw YX7_joined 3 := ⟨ev_t5 (List.mem_of_getElem? (i := 155) rfl), ev_t1 (List.mem_of_getElem? (i := 8) rfl), by decide, by decide +kernel, by decide +kernel, by decide +kernel⟩
set_option maxRecDepth 100000 in
theorem iwX7_joined : Cond.instanceMethod YX7_joined.1 ∈ lw_tbl := ev_t5 (List.mem_of_getElem? (i := 154) rfl)
set_option maxRecDepth 100000 in
theorem vwX7_joined : Cond.selects YX7_joined.1.cls YX7_joined.1 YX7_joined.1 ∈ lw_tbl := ev_p4 (q := (yX7_joined, 7)) (List.mem_of_getElem? (i := 7) rfl)
abbrev YX7_setValues : ev_Y := (yX7_setValues, cX7_setValues, 5, none, 7)
set_option maxRecDepth 100000 in
theorem mwX7_setValues : ev_mw YX7_setValues 2 := ⟨ev_t5 (List.mem_of_getElem? (i := 150) rfl), ev_t1 (List.mem_of_getElem? (i := 8) rfl), by decide, by decide +kernel, by decide +kernel, by decide +kernel⟩
set_option maxRecDepth 100000 in
theorem iwX7_setValues : Cond.instanceMethod YX7_setValues.1 ∈ lw_tbl := ev_t5 (List.mem_of_getElem? (i := 149) rfl)
set_option maxRecDepth 100000 in
theorem vwX7_setValues : Cond.selects YX7_setValues.1.cls YX7_setValues.1 YX7_setValues.1 ∈ lw_tbl := ev_p4 (q := (yX7_setValues, 7)) (List.mem_of_getElem? (i := 6) rfl)
abbrev YX7_lookAhead : ev_Y := (yX7_lookAhead, cX7_lookAhead, 5, none, 7)
set_option maxRecDepth 100000 in
theorem mwX7_lookAhead : ev_mw YX7_lookAhead 1 := ⟨ev_t5 (List.mem_of_getElem? (i := 141) rfl), ev_t1 (List.mem_of_getElem? (i := 8) rfl), by decide, by decide +kernel, by decide +kernel, by decide +kernel⟩
set_option maxRecDepth 100000 in
theorem iwX7_lookAhead : Cond.instanceMethod YX7_lookAhead.1 ∈ lw_tbl := ev_t5 (List.mem_of_getElem? (i := 140) rfl)
set_option maxRecDepth 100000 in
theorem vwX7_lookAhead : Cond.selects YX7_lookAhead.1.cls YX7_lookAhead.1 YX7_lookAhead.1 ∈ lw_tbl := ev_p4 (q := (yX7_lookAhead, 7)) (List.mem_of_getElem? (i := 5) rfl)
abbrev YX8_init : ev_Y := (yX8_init, cX8_init, 1, none, 8)
set_option maxRecDepth 100000 in
theorem mwX8_init : ev_mw YX8_init 0 := ⟨ev_t1 (List.mem_of_getElem? (i := 236) rfl), ev_t1 (List.mem_of_getElem? (i := 9) rfl), by decide, by decide +kernel, by decide +kernel, by decide +kernel⟩
set_option maxRecDepth 100000 in
theorem iwX8_init : Cond.instanceMethod YX8_init.1 ∈ lw_tbl := ev_t1 (List.mem_of_getElem? (i := 235) rfl)
abbrev YX8_begin : ev_Y := (yX8_begin, cX8_begin, 3, none, 8)
set_option maxRecDepth 100000 in
theorem mwX8_begin : ev_mw YX8_begin 1 := ⟨ev_t3 (List.mem_of_getElem? (i := 233) rfl), ev_t1 (List.mem_of_getElem? (i := 9) rfl), by decide, by decide +kernel, by decide +kernel, by decide +kernel⟩
set_option maxRecDepth 100000 in
theorem iwX8_begin : Cond.instanceMethod YX8_begin.1 ∈ lw_tbl := ev_t3 (List.mem_of_getElem? (i := 231) rfl)
set_option maxRecDepth 100000 in
theorem vwX8_begin : Cond.selects YX8_begin.1.cls YX8_begin.1 YX8_begin.1 ∈ lw_tbl := ev_t3 (List.mem_of_getElem? (i := 232) rfl)
abbrev YX8_copy : ev_Y := (yX8_copy, cX8_copy, 3, none, 8)
set_option maxRecDepth 100000 in
theorem mwX8_copy : ev_mw YX8_copy 1 := ⟨ev_t4 (List.mem_of_getElem? (i := 55) rfl), ev_t1 (List.mem_of_getElem? (i := 9) rfl), by decide, by decide +kernel, by decide +kernel, by decide +kernel⟩
set_option maxRecDepth 100000 in
theorem iwX8_copy : Cond.instanceMethod YX8_copy.1 ∈ lw_tbl := ev_t4 (List.mem_of_getElem? (i := 53) rfl)
set_option maxRecDepth 100000 in
theorem vwX8_copy : Cond.selects YX8_copy.1.cls YX8_copy.1 YX8_copy.1 ∈ lw_tbl := ev_t4 (List.mem_of_getElem? (i := 54) rfl)
abbrev YX8_hasNext : ev_Y := (yX8_hasNext, cX8_hasNext, 1, (some .boolean), 8)
set_option maxRecDepth 100000 in
theorem mwX8_hasNext : ev_mw YX8_hasNext 0 := ⟨ev_t4 (List.mem_of_getElem? (i := 100) rfl), ev_t1 (List.mem_of_getElem? (i := 9) rfl), by decide, by decide +kernel, by decide +kernel, by decide +kernel⟩
set_option maxRecDepth 100000 in
theorem iwX8_hasNext : Cond.instanceMethod YX8_hasNext.1 ∈ lw_tbl := ev_t4 (List.mem_of_getElem? (i := 98) rfl)
set_option maxRecDepth 100000 in
theorem vwX8_hasNext : Cond.selects YX8_hasNext.1.cls YX8_hasNext.1 YX8_hasNext.1 ∈ lw_tbl := ev_t4 (List.mem_of_getElem? (i := 99) rfl)
abbrev YX8_swap : ev_Y := (yX8_swap, cX8_swap, 5, none, 8)
set_option maxRecDepth 100000 in
theorem mwX8_swap : ev_mw YX8_swap 2 := ⟨ev_t4 (List.mem_of_getElem? (i := 204) rfl), ev_t1 (List.mem_of_getElem? (i := 9) rfl), by decide, by decide +kernel, by decide +kernel, by decide +kernel⟩
set_option maxRecDepth 100000 in
theorem iwX8_swap : Cond.instanceMethod YX8_swap.1 ∈ lw_tbl := ev_t4 (List.mem_of_getElem? (i := 202) rfl)
set_option maxRecDepth 100000 in
theorem vwX8_swap : Cond.selects YX8_swap.1.cls YX8_swap.1 YX8_swap.1 ∈ lw_tbl := ev_t4 (List.mem_of_getElem? (i := 203) rfl)
abbrev YX8_feature : ev_Y := (yX8_feature, cX8_feature, 5, (some .long), 8)
set_option maxRecDepth 100000 in
theorem mwX8_feature : ev_mw YX8_feature 1 := ⟨ev_t4 (List.mem_of_getElem? (i := 138) rfl), ev_t1 (List.mem_of_getElem? (i := 9) rfl), by decide, by decide +kernel, by decide +kernel, by decide +kernel⟩
set_option maxRecDepth 100000 in
theorem iwX8_feature : Cond.instanceMethod YX8_feature.1 ∈ lw_tbl := ev_t4 (List.mem_of_getElem? (i := 136) rfl)
set_option maxRecDepth 100000 in
theorem vwX8_feature : Cond.selects YX8_feature.1.cls YX8_feature.1 YX8_feature.1 ∈ lw_tbl := ev_t4 (List.mem_of_getElem? (i := 137) rfl)
abbrev YX9_init : ev_Y := (yX9_init, cX9_init, 2, none, 9)
set_option maxRecDepth 100000 in
theorem mwX9_init : ev_mw YX9_init 1 := ⟨ev_t1 (List.mem_of_getElem? (i := 158) rfl), ev_t1 (List.mem_of_getElem? (i := 5) rfl), by decide, by decide +kernel, by decide +kernel, by decide +kernel⟩
set_option maxRecDepth 100000 in
theorem iwX9_init : Cond.instanceMethod YX9_init.1 ∈ lw_tbl := ev_t1 (List.mem_of_getElem? (i := 157) rfl)
abbrev YX9_begin : ev_Y := (yX9_begin, cX9_begin, 3, none, 9)
set_option maxRecDepth 100000 in
theorem mwX9_begin : ev_mw YX9_begin 2 := ⟨ev_t3 (List.mem_of_getElem? (i := 153) rfl), ev_t1 (List.mem_of_getElem? (i := 5) rfl), by decide, by decide +kernel, by decide +kernel, by decide +kernel⟩
set_option maxRecDepth 100000 in
theorem iwX9_begin : Cond.instanceMethod YX9_begin.1 ∈ lw_tbl := ev_t3 (List.mem_of_getElem? (i := 151) rfl)
set_option maxRecDepth 100000 in
theorem vwX9_begin : Cond.selects YX9_begin.1.cls YX9_begin.1 YX9_begin.1 ∈ lw_tbl := ev_t3 (List.mem_of_getElem? (i := 152) rfl)
abbrev YX9_opens : ev_Y := (yX9_opens, cX9_opens, 1, (some .boolean), 9)
set_option maxRecDepth 100000 in
theorem mwX9_opens : ev_mw YX9_opens 0 := ⟨ev_t3 (List.mem_of_getElem? (i := 187) rfl), ev_t1 (List.mem_of_getElem? (i := 5) rfl), by decide, by decide +kernel, by decide +kernel, by decide +kernel⟩
set_option maxRecDepth 100000 in
theorem iwX9_opens : Cond.instanceMethod YX9_opens.1 ∈ lw_tbl := ev_t3 (List.mem_of_getElem? (i := 185) rfl)
set_option maxRecDepth 100000 in
theorem vwX9_opens : Cond.selects YX9_opens.1.cls YX9_opens.1 YX9_opens.1 ∈ lw_tbl := ev_t3 (List.mem_of_getElem? (i := 186) rfl)
abbrev YX9_closes : ev_Y := (yX9_closes, cX9_closes, 1, none, 9)
set_option maxRecDepth 100000 in
theorem mwX9_closes : ev_mw YX9_closes 0 := ⟨ev_t3 (List.mem_of_getElem? (i := 195) rfl), ev_t1 (List.mem_of_getElem? (i := 5) rfl), by decide, by decide +kernel, by decide +kernel, by decide +kernel⟩
set_option maxRecDepth 100000 in
theorem iwX9_closes : Cond.instanceMethod YX9_closes.1 ∈ lw_tbl := ev_t3 (List.mem_of_getElem? (i := 193) rfl)
set_option maxRecDepth 100000 in
theorem vwX9_closes : Cond.selects YX9_closes.1.cls YX9_closes.1 YX9_closes.1 ∈ lw_tbl := ev_t3 (List.mem_of_getElem? (i := 194) rfl)
abbrev YX9_put : ev_Y := (yX9_put, cX9_put, 2, none, 9)
set_option maxRecDepth 100000 in
theorem mwX9_put : ev_mw YX9_put 1 := ⟨ev_t3 (List.mem_of_getElem? (i := 174) rfl), ev_t1 (List.mem_of_getElem? (i := 5) rfl), by decide, by decide +kernel, by decide +kernel, by decide +kernel⟩
set_option maxRecDepth 100000 in
theorem iwX9_put : Cond.instanceMethod YX9_put.1 ∈ lw_tbl := ev_t3 (List.mem_of_getElem? (i := 172) rfl)
set_option maxRecDepth 100000 in
theorem vwX9_put : Cond.selects YX9_put.1.cls YX9_put.1 YX9_put.1 ∈ lw_tbl := ev_t3 (List.mem_of_getElem? (i := 173) rfl)
abbrev YX9_readSum : ev_Y := (yX9_readSum, cX9_readSum, 3, none, 9)
set_option maxRecDepth 100000 in
theorem mwX9_readSum : ev_mw YX9_readSum 0 := ⟨ev_t3 (List.mem_of_getElem? (i := 157) rfl), ev_t1 (List.mem_of_getElem? (i := 5) rfl), by decide, by decide +kernel, by decide +kernel, by decide +kernel⟩
set_option maxRecDepth 100000 in
theorem iwX9_readSum : Cond.instanceMethod YX9_readSum.1 ∈ lw_tbl := ev_t3 (List.mem_of_getElem? (i := 156) rfl)
set_option maxRecDepth 100000 in
theorem vwX9_readSum : Cond.selects YX9_readSum.1.cls YX9_readSum.1 YX9_readSum.1 ∈ lw_tbl := ev_p1 (q := (yX9_readSum, 5)) (List.mem_of_getElem? (i := 15) rfl)
abbrev YX9_readProduct : ev_Y := (yX9_readProduct, cX9_readProduct, 3, none, 9)
set_option maxRecDepth 100000 in
theorem mwX9_readProduct : ev_mw YX9_readProduct 0 := ⟨ev_t3 (List.mem_of_getElem? (i := 161) rfl), ev_t1 (List.mem_of_getElem? (i := 5) rfl), by decide, by decide +kernel, by decide +kernel, by decide +kernel⟩
set_option maxRecDepth 100000 in
theorem iwX9_readProduct : Cond.instanceMethod YX9_readProduct.1 ∈ lw_tbl := ev_t3 (List.mem_of_getElem? (i := 160) rfl)
set_option maxRecDepth 100000 in
theorem vwX9_readProduct : Cond.selects YX9_readProduct.1.cls YX9_readProduct.1 YX9_readProduct.1 ∈ lw_tbl := ev_p2 (q := (yX9_readProduct, 5)) (List.mem_of_getElem? (i := 0) rfl)
abbrev YX9_readPart : ev_Y := (yX9_readPart, cX9_readPart, 1, none, 9)
set_option maxRecDepth 100000 in
theorem mwX9_readPart : ev_mw YX9_readPart 0 := ⟨ev_t3 (List.mem_of_getElem? (i := 165) rfl), ev_t1 (List.mem_of_getElem? (i := 5) rfl), by decide, by decide +kernel, by decide +kernel, by decide +kernel⟩
set_option maxRecDepth 100000 in
theorem iwX9_readPart : Cond.instanceMethod YX9_readPart.1 ∈ lw_tbl := ev_t3 (List.mem_of_getElem? (i := 164) rfl)
set_option maxRecDepth 100000 in
theorem vwX9_readPart : Cond.selects YX9_readPart.1.cls YX9_readPart.1 YX9_readPart.1 ∈ lw_tbl := ev_p2 (q := (yX9_readPart, 5)) (List.mem_of_getElem? (i := 1) rfl)
abbrev YX9_readOpened : ev_Y := (yX9_readOpened, cX9_readOpened, 1, none, 9)
set_option maxRecDepth 100000 in
theorem mwX9_readOpened : ev_mw YX9_readOpened 0 := ⟨ev_t3 (List.mem_of_getElem? (i := 183) rfl), ev_t1 (List.mem_of_getElem? (i := 5) rfl), by decide, by decide +kernel, by decide +kernel, by decide +kernel⟩
set_option maxRecDepth 100000 in
theorem iwX9_readOpened : Cond.instanceMethod YX9_readOpened.1 ∈ lw_tbl := ev_t3 (List.mem_of_getElem? (i := 182) rfl)
set_option maxRecDepth 100000 in
theorem vwX9_readOpened : Cond.selects YX9_readOpened.1.cls YX9_readOpened.1 YX9_readOpened.1 ∈ lw_tbl := ev_p2 (q := (yX9_readOpened, 5)) (List.mem_of_getElem? (i := 2) rfl)
abbrev YX9_readPair : ev_Y := (yX9_readPair, cX9_readPair, 2, none, 9)
set_option maxRecDepth 100000 in
theorem mwX9_readPair : ev_mw YX9_readPair 1 := ⟨ev_t3 (List.mem_of_getElem? (i := 200) rfl), ev_t1 (List.mem_of_getElem? (i := 5) rfl), by decide, by decide +kernel, by decide +kernel, by decide +kernel⟩
set_option maxRecDepth 100000 in
theorem iwX9_readPair : Cond.instanceMethod YX9_readPair.1 ∈ lw_tbl := ev_t3 (List.mem_of_getElem? (i := 199) rfl)
set_option maxRecDepth 100000 in
theorem vwX9_readPair : Cond.selects YX9_readPair.1.cls YX9_readPair.1 YX9_readPair.1 ∈ lw_tbl := ev_p2 (q := (yX9_readPair, 5)) (List.mem_of_getElem? (i := 3) rfl)
abbrev YX9_readSaidAhead : ev_Y := (yX9_readSaidAhead, cX9_readSaidAhead, 1, none, 9)
set_option maxRecDepth 100000 in
theorem mwX9_readSaidAhead : ev_mw YX9_readSaidAhead 0 := ⟨ev_t3 (List.mem_of_getElem? (i := 204) rfl), ev_t1 (List.mem_of_getElem? (i := 5) rfl), by decide, by decide +kernel, by decide +kernel, by decide +kernel⟩
set_option maxRecDepth 100000 in
theorem iwX9_readSaidAhead : Cond.instanceMethod YX9_readSaidAhead.1 ∈ lw_tbl := ev_t3 (List.mem_of_getElem? (i := 203) rfl)
set_option maxRecDepth 100000 in
theorem vwX9_readSaidAhead : Cond.selects YX9_readSaidAhead.1.cls YX9_readSaidAhead.1 YX9_readSaidAhead.1 ∈ lw_tbl := ev_p2 (q := (yX9_readSaidAhead, 5)) (List.mem_of_getElem? (i := 4) rfl)
abbrev YX9_readValue : ev_Y := (yX9_readValue, cX9_readValue, 1, none, 9)
set_option maxRecDepth 100000 in
theorem mwX9_readValue : ev_mw YX9_readValue 0 := ⟨ev_t3 (List.mem_of_getElem? (i := 213) rfl), ev_t1 (List.mem_of_getElem? (i := 5) rfl), by decide, by decide +kernel, by decide +kernel, by decide +kernel⟩
set_option maxRecDepth 100000 in
theorem iwX9_readValue : Cond.instanceMethod YX9_readValue.1 ∈ lw_tbl := ev_t3 (List.mem_of_getElem? (i := 212) rfl)
set_option maxRecDepth 100000 in
theorem vwX9_readValue : Cond.selects YX9_readValue.1.cls YX9_readValue.1 YX9_readValue.1 ∈ lw_tbl := ev_p2 (q := (yX9_readValue, 5)) (List.mem_of_getElem? (i := 6) rfl)
abbrev YX9_isValue : ev_Y := (yX9_isValue, cX9_isValue, 2, (some .boolean), 9)
set_option maxRecDepth 100000 in
theorem mwX9_isValue : ev_mw YX9_isValue 1 := ⟨ev_t3 (List.mem_of_getElem? (i := 209) rfl), ev_t1 (List.mem_of_getElem? (i := 5) rfl), by decide, by decide +kernel, by decide +kernel, by decide +kernel⟩
set_option maxRecDepth 100000 in
theorem iwX9_isValue : Cond.instanceMethod YX9_isValue.1 ∈ lw_tbl := ev_t3 (List.mem_of_getElem? (i := 208) rfl)
set_option maxRecDepth 100000 in
theorem vwX9_isValue : Cond.selects YX9_isValue.1.cls YX9_isValue.1 YX9_isValue.1 ∈ lw_tbl := ev_p2 (q := (yX9_isValue, 5)) (List.mem_of_getElem? (i := 5) rfl)
abbrev YX10_init : ev_Y := (yX10_init, cX10_init, 1, none, 10)
set_option maxRecDepth 100000 in
theorem mwX10_init : ev_mw YX10_init 0 := ⟨ev_t1 (List.mem_of_getElem? (i := 118) rfl), ev_t1 (List.mem_of_getElem? (i := 4) rfl), by decide, by decide +kernel, by decide +kernel, by decide +kernel⟩
set_option maxRecDepth 100000 in
theorem iwX10_init : Cond.instanceMethod YX10_init.1 ∈ lw_tbl := ev_t1 (List.mem_of_getElem? (i := 117) rfl)
abbrev YX10_hasRoom : ev_Y := (yX10_hasRoom, cX10_hasRoom, 2, (some .boolean), 10)
set_option maxRecDepth 100000 in
theorem mwX10_hasRoom : ev_mw YX10_hasRoom 1 := ⟨ev_t2 (List.mem_of_getElem? (i := 216) rfl), ev_t1 (List.mem_of_getElem? (i := 4) rfl), by decide, by decide +kernel, by decide +kernel, by decide +kernel⟩
set_option maxRecDepth 100000 in
theorem iwX10_hasRoom : Cond.instanceMethod YX10_hasRoom.1 ∈ lw_tbl := ev_t2 (List.mem_of_getElem? (i := 214) rfl)
set_option maxRecDepth 100000 in
theorem vwX10_hasRoom : Cond.selects YX10_hasRoom.1.cls YX10_hasRoom.1 YX10_hasRoom.1 ∈ lw_tbl := ev_t2 (List.mem_of_getElem? (i := 215) rfl)
abbrev YX10_write : ev_Y := (yX10_write, cX10_write, 2, none, 10)
set_option maxRecDepth 100000 in
theorem mwX10_write : ev_mw YX10_write 1 := ⟨ev_t2 (List.mem_of_getElem? (i := 224) rfl), ev_t1 (List.mem_of_getElem? (i := 4) rfl), by decide, by decide +kernel, by decide +kernel, by decide +kernel⟩
set_option maxRecDepth 100000 in
theorem iwX10_write : Cond.instanceMethod YX10_write.1 ∈ lw_tbl := ev_t2 (List.mem_of_getElem? (i := 222) rfl)
set_option maxRecDepth 100000 in
theorem vwX10_write : Cond.selects YX10_write.1.cls YX10_write.1 YX10_write.1 ∈ lw_tbl := ev_t2 (List.mem_of_getElem? (i := 223) rfl)
abbrev YX10_begin : ev_Y := (yX10_begin, cX10_begin, 1, none, 10)
set_option maxRecDepth 100000 in
theorem mwX10_begin : ev_mw YX10_begin 0 := ⟨ev_t3 (List.mem_of_getElem? (i := 5) rfl), ev_t1 (List.mem_of_getElem? (i := 4) rfl), by decide, by decide +kernel, by decide +kernel, by decide +kernel⟩
set_option maxRecDepth 100000 in
theorem iwX10_begin : Cond.instanceMethod YX10_begin.1 ∈ lw_tbl := ev_t3 (List.mem_of_getElem? (i := 3) rfl)
set_option maxRecDepth 100000 in
theorem vwX10_begin : Cond.selects YX10_begin.1.cls YX10_begin.1 YX10_begin.1 ∈ lw_tbl := ev_t3 (List.mem_of_getElem? (i := 4) rfl)
abbrev YX10_isGood : ev_Y := (yX10_isGood, cX10_isGood, 1, (some .boolean), 10)
set_option maxRecDepth 100000 in
theorem mwX10_isGood : ev_mw YX10_isGood 0 := ⟨ev_t3 (List.mem_of_getElem? (i := 90) rfl), ev_t1 (List.mem_of_getElem? (i := 4) rfl), by decide, by decide +kernel, by decide +kernel, by decide +kernel⟩
set_option maxRecDepth 100000 in
theorem iwX10_isGood : Cond.instanceMethod YX10_isGood.1 ∈ lw_tbl := ev_t3 (List.mem_of_getElem? (i := 88) rfl)
set_option maxRecDepth 100000 in
theorem vwX10_isGood : Cond.selects YX10_isGood.1.cls YX10_isGood.1 YX10_isGood.1 ∈ lw_tbl := ev_t3 (List.mem_of_getElem? (i := 89) rfl)
abbrev YX10_fail : ev_Y := (yX10_fail, cX10_fail, 3, none, 10)
set_option maxRecDepth 100000 in
theorem mwX10_fail : ev_mw YX10_fail 2 := ⟨ev_t3 (List.mem_of_getElem? (i := 82) rfl), ev_t1 (List.mem_of_getElem? (i := 4) rfl), by decide, by decide +kernel, by decide +kernel, by decide +kernel⟩
set_option maxRecDepth 100000 in
theorem iwX10_fail : Cond.instanceMethod YX10_fail.1 ∈ lw_tbl := ev_t3 (List.mem_of_getElem? (i := 80) rfl)
set_option maxRecDepth 100000 in
theorem vwX10_fail : Cond.selects YX10_fail.1.cls YX10_fail.1 YX10_fail.1 ∈ lw_tbl := ev_t3 (List.mem_of_getElem? (i := 81) rfl)
abbrev YX10_advance : ev_Y := (yX10_advance, cX10_advance, 3, none, 10)
set_option maxRecDepth 100000 in
theorem mwX10_advance : ev_mw YX10_advance 0 := ⟨ev_t3 (List.mem_of_getElem? (i := 9) rfl), ev_t1 (List.mem_of_getElem? (i := 4) rfl), by decide, by decide +kernel, by decide +kernel, by decide +kernel⟩
set_option maxRecDepth 100000 in
theorem iwX10_advance : Cond.instanceMethod YX10_advance.1 ∈ lw_tbl := ev_t3 (List.mem_of_getElem? (i := 7) rfl)
set_option maxRecDepth 100000 in
theorem vwX10_advance : Cond.selects YX10_advance.1.cls YX10_advance.1 YX10_advance.1 ∈ lw_tbl := ev_t3 (List.mem_of_getElem? (i := 8) rfl)
abbrev YX10_skipBlanks : ev_Y := (yX10_skipBlanks, cX10_skipBlanks, 2, none, 10)
set_option maxRecDepth 100000 in
theorem mwX10_skipBlanks : ev_mw YX10_skipBlanks 1 := ⟨ev_t3 (List.mem_of_getElem? (i := 17) rfl), ev_t1 (List.mem_of_getElem? (i := 4) rfl), by decide, by decide +kernel, by decide +kernel, by decide +kernel⟩
set_option maxRecDepth 100000 in
theorem iwX10_skipBlanks : Cond.instanceMethod YX10_skipBlanks.1 ∈ lw_tbl := ev_t3 (List.mem_of_getElem? (i := 16) rfl)
set_option maxRecDepth 100000 in
theorem vwX10_skipBlanks : Cond.selects YX10_skipBlanks.1.cls YX10_skipBlanks.1 YX10_skipBlanks.1 ∈ lw_tbl := ev_p1 (q := (yX10_skipBlanks, 8)) (List.mem_of_getElem? (i := 3) rfl)
abbrev YX10_kindAt : ev_Y := (yX10_kindAt, cX10_kindAt, 3, (some .int), 10)
set_option maxRecDepth 100000 in
theorem mwX10_kindAt : ev_mw YX10_kindAt 1 := ⟨ev_t3 (List.mem_of_getElem? (i := 21) rfl), ev_t1 (List.mem_of_getElem? (i := 4) rfl), by decide, by decide +kernel, by decide +kernel, by decide +kernel⟩
set_option maxRecDepth 100000 in
theorem iwX10_kindAt : Cond.instanceMethod YX10_kindAt.1 ∈ lw_tbl := ev_t3 (List.mem_of_getElem? (i := 20) rfl)
set_option maxRecDepth 100000 in
theorem vwX10_kindAt : Cond.selects YX10_kindAt.1.cls YX10_kindAt.1 YX10_kindAt.1 ∈ lw_tbl := ev_p1 (q := (yX10_kindAt, 8)) (List.mem_of_getElem? (i := 4) rfl)
abbrev YX10_isLong : ev_Y := (yX10_isLong, cX10_isLong, 1, (some .boolean), 10)
set_option maxRecDepth 100000 in
theorem mwX10_isLong : ev_mw YX10_isLong 0 := ⟨ev_t3 (List.mem_of_getElem? (i := 13) rfl), ev_t1 (List.mem_of_getElem? (i := 4) rfl), by decide, by decide +kernel, by decide +kernel, by decide +kernel⟩
set_option maxRecDepth 100000 in
theorem iwX10_isLong : Cond.instanceMethod YX10_isLong.1 ∈ lw_tbl := ev_t3 (List.mem_of_getElem? (i := 12) rfl)
set_option maxRecDepth 100000 in
theorem vwX10_isLong : Cond.selects YX10_isLong.1.cls YX10_isLong.1 YX10_isLong.1 ∈ lw_tbl := ev_p1 (q := (yX10_isLong, 8)) (List.mem_of_getElem? (i := 2) rfl)
abbrev YX10_wordHere : ev_Y := (yX10_wordHere, cX10_wordHere, 3, (some .int), 10)
set_option maxRecDepth 100000 in
theorem mwX10_wordHere : ev_mw YX10_wordHere 0 := ⟨ev_t3 (List.mem_of_getElem? (i := 25) rfl), ev_t1 (List.mem_of_getElem? (i := 4) rfl), by decide, by decide +kernel, by decide +kernel, by decide +kernel⟩
set_option maxRecDepth 100000 in
theorem iwX10_wordHere : Cond.instanceMethod YX10_wordHere.1 ∈ lw_tbl := ev_t3 (List.mem_of_getElem? (i := 24) rfl)
set_option maxRecDepth 100000 in
theorem vwX10_wordHere : Cond.selects YX10_wordHere.1.cls YX10_wordHere.1 YX10_wordHere.1 ∈ lw_tbl := ev_p1 (q := (yX10_wordHere, 8)) (List.mem_of_getElem? (i := 5) rfl)
abbrev YX10_numberHere : ev_Y := (yX10_numberHere, cX10_numberHere, 3, (some .int), 10)
set_option maxRecDepth 100000 in
theorem mwX10_numberHere : ev_mw YX10_numberHere 0 := ⟨ev_t3 (List.mem_of_getElem? (i := 70) rfl), ev_t1 (List.mem_of_getElem? (i := 4) rfl), by decide, by decide +kernel, by decide +kernel, by decide +kernel⟩
set_option maxRecDepth 100000 in
theorem iwX10_numberHere : Cond.instanceMethod YX10_numberHere.1 ∈ lw_tbl := ev_t3 (List.mem_of_getElem? (i := 69) rfl)
set_option maxRecDepth 100000 in
theorem vwX10_numberHere : Cond.selects YX10_numberHere.1.cls YX10_numberHere.1 YX10_numberHere.1 ∈ lw_tbl := ev_p1 (q := (yX10_numberHere, 8)) (List.mem_of_getElem? (i := 6) rfl)
abbrev YX10_isEnd : ev_Y := (yX10_isEnd, cX10_isEnd, 1, (some .boolean), 10)
set_option maxRecDepth 100000 in
theorem mwX10_isEnd : ev_mw YX10_isEnd 0 := ⟨ev_t3 (List.mem_of_getElem? (i := 103) rfl), ev_t1 (List.mem_of_getElem? (i := 4) rfl), by decide, by decide +kernel, by decide +kernel, by decide +kernel⟩
set_option maxRecDepth 100000 in
theorem iwX10_isEnd : Cond.instanceMethod YX10_isEnd.1 ∈ lw_tbl := ev_t3 (List.mem_of_getElem? (i := 101) rfl)
set_option maxRecDepth 100000 in
theorem vwX10_isEnd : Cond.selects YX10_isEnd.1.cls YX10_isEnd.1 YX10_isEnd.1 ∈ lw_tbl := ev_t3 (List.mem_of_getElem? (i := 102) rfl)
abbrev YX10_isNumber : ev_Y := (yX10_isNumber, cX10_isNumber, 1, (some .boolean), 10)
set_option maxRecDepth 100000 in
theorem mwX10_isNumber : ev_mw YX10_isNumber 0 := ⟨ev_t3 (List.mem_of_getElem? (i := 169) rfl), ev_t1 (List.mem_of_getElem? (i := 4) rfl), by decide, by decide +kernel, by decide +kernel, by decide +kernel⟩
set_option maxRecDepth 100000 in
theorem iwX10_isNumber : Cond.instanceMethod YX10_isNumber.1 ∈ lw_tbl := ev_t3 (List.mem_of_getElem? (i := 167) rfl)
set_option maxRecDepth 100000 in
theorem vwX10_isNumber : Cond.selects YX10_isNumber.1.cls YX10_isNumber.1 YX10_isNumber.1 ∈ lw_tbl := ev_t3 (List.mem_of_getElem? (i := 168) rfl)
abbrev YX10_isSign : ev_Y := (yX10_isSign, cX10_isSign, 2, (some .boolean), 10)
set_option maxRecDepth 100000 in
theorem mwX10_isSign : ev_mw YX10_isSign 1 := ⟨ev_t3 (List.mem_of_getElem? (i := 98) rfl), ev_t1 (List.mem_of_getElem? (i := 4) rfl), by decide, by decide +kernel, by decide +kernel, by decide +kernel⟩
set_option maxRecDepth 100000 in
theorem iwX10_isSign : Cond.instanceMethod YX10_isSign.1 ∈ lw_tbl := ev_t3 (List.mem_of_getElem? (i := 96) rfl)
set_option maxRecDepth 100000 in
theorem vwX10_isSign : Cond.selects YX10_isSign.1.cls YX10_isSign.1 YX10_isSign.1 ∈ lw_tbl := ev_t3 (List.mem_of_getElem? (i := 97) rfl)
abbrev YX10_isWord : ev_Y := (yX10_isWord, cX10_isWord, 2, (some .boolean), 10)
set_option maxRecDepth 100000 in
theorem mwX10_isWord : ev_mw YX10_isWord 1 := ⟨ev_t3 (List.mem_of_getElem? (i := 78) rfl), ev_t1 (List.mem_of_getElem? (i := 4) rfl), by decide, by decide +kernel, by decide +kernel, by decide +kernel⟩
set_option maxRecDepth 100000 in
theorem iwX10_isWord : Cond.instanceMethod YX10_isWord.1 ∈ lw_tbl := ev_t3 (List.mem_of_getElem? (i := 76) rfl)
set_option maxRecDepth 100000 in
theorem vwX10_isWord : Cond.selects YX10_isWord.1.cls YX10_isWord.1 YX10_isWord.1 ∈ lw_tbl := ev_t3 (List.mem_of_getElem? (i := 77) rfl)
abbrev YX10_word : ev_Y := (yX10_word, cX10_word, 1, (some .int), 10)
set_option maxRecDepth 100000 in
theorem mwX10_word : ev_mw YX10_word 0 := ⟨ev_t3 (List.mem_of_getElem? (i := 111) rfl), ev_t1 (List.mem_of_getElem? (i := 4) rfl), by decide, by decide +kernel, by decide +kernel, by decide +kernel⟩
set_option maxRecDepth 100000 in
theorem iwX10_word : Cond.instanceMethod YX10_word.1 ∈ lw_tbl := ev_t3 (List.mem_of_getElem? (i := 109) rfl)
set_option maxRecDepth 100000 in
theorem vwX10_word : Cond.selects YX10_word.1.cls YX10_word.1 YX10_word.1 ∈ lw_tbl := ev_t3 (List.mem_of_getElem? (i := 110) rfl)
abbrev YX10_takeSign : ev_Y := (yX10_takeSign, cX10_takeSign, 2, none, 10)
set_option maxRecDepth 100000 in
theorem mwX10_takeSign : ev_mw YX10_takeSign 1 := ⟨ev_t3 (List.mem_of_getElem? (i := 94) rfl), ev_t1 (List.mem_of_getElem? (i := 4) rfl), by decide, by decide +kernel, by decide +kernel, by decide +kernel⟩
set_option maxRecDepth 100000 in
theorem iwX10_takeSign : Cond.instanceMethod YX10_takeSign.1 ∈ lw_tbl := ev_t3 (List.mem_of_getElem? (i := 92) rfl)
set_option maxRecDepth 100000 in
theorem vwX10_takeSign : Cond.selects YX10_takeSign.1.cls YX10_takeSign.1 YX10_takeSign.1 ∈ lw_tbl := ev_t3 (List.mem_of_getElem? (i := 93) rfl)
abbrev YX10_takeWord : ev_Y := (yX10_takeWord, cX10_takeWord, 2, none, 10)
set_option maxRecDepth 100000 in
theorem mwX10_takeWord : ev_mw YX10_takeWord 1 := ⟨ev_t3 (List.mem_of_getElem? (i := 74) rfl), ev_t1 (List.mem_of_getElem? (i := 4) rfl), by decide, by decide +kernel, by decide +kernel, by decide +kernel⟩
set_option maxRecDepth 100000 in
theorem iwX10_takeWord : Cond.instanceMethod YX10_takeWord.1 ∈ lw_tbl := ev_t3 (List.mem_of_getElem? (i := 72) rfl)
set_option maxRecDepth 100000 in
theorem vwX10_takeWord : Cond.selects YX10_takeWord.1.cls YX10_takeWord.1 YX10_takeWord.1 ∈ lw_tbl := ev_t3 (List.mem_of_getElem? (i := 73) rfl)
abbrev YX10_takeNumber : ev_Y := (yX10_takeNumber, cX10_takeNumber, 4, (some .int), 10)
set_option maxRecDepth 100000 in
theorem mwX10_takeNumber : ev_mw YX10_takeNumber 2 := ⟨ev_t3 (List.mem_of_getElem? (i := 86) rfl), ev_t1 (List.mem_of_getElem? (i := 4) rfl), by decide, by decide +kernel, by decide +kernel, by decide +kernel⟩
set_option maxRecDepth 100000 in
theorem iwX10_takeNumber : Cond.instanceMethod YX10_takeNumber.1 ∈ lw_tbl := ev_t3 (List.mem_of_getElem? (i := 84) rfl)
set_option maxRecDepth 100000 in
theorem vwX10_takeNumber : Cond.selects YX10_takeNumber.1.cls YX10_takeNumber.1 YX10_takeNumber.1 ∈ lw_tbl := ev_t3 (List.mem_of_getElem? (i := 85) rfl)
abbrev YX10_checkName : ev_Y := (yX10_checkName, cX10_checkName, 1, (some .boolean), 10)
set_option maxRecDepth 100000 in
theorem mwX10_checkName : ev_mw YX10_checkName 0 := ⟨ev_t3 (List.mem_of_getElem? (i := 133) rfl), ev_t1 (List.mem_of_getElem? (i := 4) rfl), by decide, by decide +kernel, by decide +kernel, by decide +kernel⟩
set_option maxRecDepth 100000 in
theorem iwX10_checkName : Cond.instanceMethod YX10_checkName.1 ∈ lw_tbl := ev_t3 (List.mem_of_getElem? (i := 131) rfl)
set_option maxRecDepth 100000 in
theorem vwX10_checkName : Cond.selects YX10_checkName.1.cls YX10_checkName.1 YX10_checkName.1 ∈ lw_tbl := ev_t3 (List.mem_of_getElem? (i := 132) rfl)
abbrev YX10_nameLetter : ev_Y := (yX10_nameLetter, cX10_nameLetter, 2, (some .int), 10)
set_option maxRecDepth 100000 in
theorem mwX10_nameLetter : ev_mw YX10_nameLetter 1 := ⟨ev_t3 (List.mem_of_getElem? (i := 141) rfl), ev_t1 (List.mem_of_getElem? (i := 4) rfl), by decide, by decide +kernel, by decide +kernel, by decide +kernel⟩
set_option maxRecDepth 100000 in
theorem iwX10_nameLetter : Cond.instanceMethod YX10_nameLetter.1 ∈ lw_tbl := ev_t3 (List.mem_of_getElem? (i := 139) rfl)
set_option maxRecDepth 100000 in
theorem vwX10_nameLetter : Cond.selects YX10_nameLetter.1.cls YX10_nameLetter.1 YX10_nameLetter.1 ∈ lw_tbl := ev_t3 (List.mem_of_getElem? (i := 140) rfl)
abbrev YJ6_bitCount_0f7a4 : ev_Y := (yJ6_bitCount_0f7a4, cJ6_bitCount_0f7a4, 1, (some .int), 14)
set_option maxRecDepth 100000 in
theorem mwJ6_bitCount_0f7a4 : ev_mw YJ6_bitCount_0f7a4 1 := ⟨ev_t4 (List.mem_of_getElem? (i := 9) rfl), ev_t1 (List.mem_of_getElem? (i := 19) rfl), by decide, by decide +kernel, by decide +kernel, by decide +kernel⟩
set_option maxRecDepth 100000 in
theorem swJ6_bitCount_0f7a4 : Cond.static YJ6_bitCount_0f7a4.1 ∈ lw_tbl := ev_t4 (List.mem_of_getElem? (i := 8) rfl)
abbrev YJ9_floorDiv_7cf53 : ev_Y := (yJ9_floorDiv_7cf53, cJ9_floorDiv_7cf53, 3, (some .int), 15)
set_option maxRecDepth 100000 in
theorem mwJ9_floorDiv_7cf53 : ev_mw YJ9_floorDiv_7cf53 2 := ⟨ev_t4 (List.mem_of_getElem? (i := 90) rfl), ev_t1 (List.mem_of_getElem? (i := 18) rfl), by decide, by decide +kernel, by decide +kernel, by decide +kernel⟩
set_option maxRecDepth 100000 in
theorem swJ9_floorDiv_7cf53 : Cond.static YJ9_floorDiv_7cf53.1 ∈ lw_tbl := ev_t4 (List.mem_of_getElem? (i := 89) rfl)
abbrev YJ9_max_7cf53 : ev_Y := (yJ9_max_7cf53, cJ9_max_7cf53, 2, (some .int), 15)
set_option maxRecDepth 100000 in
theorem mwJ9_max_7cf53 : ev_mw YJ9_max_7cf53 2 := ⟨ev_t3 (List.mem_of_getElem? (i := 216) rfl), ev_t1 (List.mem_of_getElem? (i := 18) rfl), by decide, by decide +kernel, by decide +kernel, by decide +kernel⟩
set_option maxRecDepth 100000 in
theorem swJ9_max_7cf53 : Cond.static YJ9_max_7cf53.1 ∈ lw_tbl := ev_t3 (List.mem_of_getElem? (i := 215) rfl)
abbrev YJ9_max_f86c9 : ev_Y := (yJ9_max_f86c9, cJ9_max_f86c9, 4, (some .long), 15)
set_option maxRecDepth 100000 in
theorem mwJ9_max_f86c9 : ev_mw YJ9_max_f86c9 2 := ⟨ev_t4 (List.mem_of_getElem? (i := 87) rfl), ev_t1 (List.mem_of_getElem? (i := 18) rfl), by decide, by decide +kernel, by decide +kernel, by decide +kernel⟩
set_option maxRecDepth 100000 in
theorem swJ9_max_f86c9 : Cond.static YJ9_max_f86c9.1 ∈ lw_tbl := ev_t4 (List.mem_of_getElem? (i := 86) rfl)
abbrev YJ9_min_7cf53 : ev_Y := (yJ9_min_7cf53, cJ9_min_7cf53, 2, (some .int), 15)
set_option maxRecDepth 100000 in
theorem mwJ9_min_7cf53 : ev_mw YJ9_min_7cf53 2 := ⟨ev_t4 (List.mem_of_getElem? (i := 19) rfl), ev_t1 (List.mem_of_getElem? (i := 18) rfl), by decide, by decide +kernel, by decide +kernel, by decide +kernel⟩
set_option maxRecDepth 100000 in
theorem swJ9_min_7cf53 : Cond.static YJ9_min_7cf53.1 ∈ lw_tbl := ev_t4 (List.mem_of_getElem? (i := 18) rfl)
abbrev YJ9_min_f86c9 : ev_Y := (yJ9_min_f86c9, cJ9_min_f86c9, 4, (some .long), 15)
set_option maxRecDepth 100000 in
theorem mwJ9_min_f86c9 : ev_mw YJ9_min_f86c9 2 := ⟨ev_t4 (List.mem_of_getElem? (i := 84) rfl), ev_t1 (List.mem_of_getElem? (i := 18) rfl), by decide, by decide +kernel, by decide +kernel, by decide +kernel⟩
set_option maxRecDepth 100000 in
theorem swJ9_min_f86c9 : Cond.static YJ9_min_f86c9.1 ∈ lw_tbl := ev_t4 (List.mem_of_getElem? (i := 83) rfl)
