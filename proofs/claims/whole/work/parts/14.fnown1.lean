def FX5_saidAhead (f : Nat) (a1 : Int32) (m : ev_M) : Option (Int32 × ev_M) :=
  (if a1 < 0 then some ((-1), m) else (if (m.1 17 2) ≤ a1 then some ((-1), m) else (if 31 ≤ a1 then some ((-1), m) else (if (m.1 18 15) < 0 then some ((-1), m) else (if (m.1 18 15) < 8 then (if ev_in ((a1 * 8) + (m.1 18 15)) 248 then some ((m.1 19 ((a1 * 8) + (m.1 18 15)).toNatClampNeg), m) else none) else some ((-1), m))))))
set_option maxRecDepth 100000 in
set_option maxHeartbeats 4000000 in
theorem EX5_saidAhead {l : Launch} {Ln : Nat} {xs : Nat → Int32} {d : Nat} (f : Nat) (a1 : Int32) (m : ev_M)  (hd : 0 ≤ d) : Mv ev_eI l Ln xs YX5_saidAhead d Sx [.ref 17, .int a1] m (FX5_saidAhead f a1 m) := by
  refine Mv.of (by decide +kernel) rfl (Nat.le_of_ble_eq_true rfl) (Ev.le (ls' := [some (.ref 17), some (.int a1), none]) ⟨rfl, ⟨rfl, trivial⟩⟩ ?_)
  unfold FX5_saidAhead
  refine Ev.run (pc' := 6) (ls' := [some (.ref 17), some (.int a1), none]) (st' := [.int 15, .ref 18]) (m' := m) [(.aload_n 0, 0, 0, 0, 0), (.getfield 9, 5, 0, 0, 0), (.bipush 15, 0, 0, 15, 0)] (by decide +kernel) rfl ?_
  refine Ev.ialdK (n := 29) (j := 15) (by decide +kernel) (by decide) rfl rfl (by decide) ?_
  refine Ev.run (pc' := 9) (ls' := [some (.ref 17), some (.int a1), some (.int (m.1 18 15))]) (st' := [.int a1]) (m' := m) [(.istore_n 2, 0, 0, 0, 0), (.iload_n 1, 0, 0, 0, 0)] (by decide +kernel) rfl ?_
  refine Ev.if_lt (t := 36) (by decide +kernel) ?_ ?_
  · refine Ev.run (pc' := 37) (ls' := [some (.ref 17), some (.int a1), some (.int (m.1 18 15))]) (st' := [.int (-1)]) (m' := m) [(.iconst (-1), 0, 0, (-1), 0)] (by decide +kernel) rfl ?_
    exact Ev.ireti rfl rfl (by decide +kernel)
  · refine Ev.run (pc' := 17) (ls' := [some (.ref 17), some (.int a1), some (.int (m.1 18 15))]) (st' := [.int (m.1 17 2), .int a1]) (m' := m) [(.iload_n 1, 0, 0, 0, 0), (.aload_n 0, 0, 0, 0, 0), (.getfield 18, 5, 2, 0, 0)] (by decide +kernel) rfl ?_
    refine Ev.ic_ge (t := 36) (by decide +kernel) ?_ ?_
    · refine Ev.run (pc' := 37) (ls' := [some (.ref 17), some (.int a1), some (.int (m.1 18 15))]) (st' := [.int (-1)]) (m' := m) [(.iconst (-1), 0, 0, (-1), 0)] (by decide +kernel) rfl ?_
      exact Ev.ireti rfl rfl (by decide +kernel)
    · refine Ev.run (pc' := 23) (ls' := [some (.ref 17), some (.int a1), some (.int (m.1 18 15))]) (st' := [.int 31, .int a1]) (m' := m) [(.iload_n 1, 0, 0, 0, 0), (.bipush 31, 0, 0, 31, 0)] (by decide +kernel) rfl ?_
      refine Ev.ic_ge (t := 36) (by decide +kernel) ?_ ?_
      · refine Ev.run (pc' := 37) (ls' := [some (.ref 17), some (.int a1), some (.int (m.1 18 15))]) (st' := [.int (-1)]) (m' := m) [(.iconst (-1), 0, 0, (-1), 0)] (by decide +kernel) rfl ?_
        exact Ev.ireti rfl rfl (by decide +kernel)
      · refine Ev.run (pc' := 27) (ls' := [some (.ref 17), some (.int a1), some (.int (m.1 18 15))]) (st' := [.int (m.1 18 15)]) (m' := m) [(.iload_n 2, 0, 0, 0, 0)] (by decide +kernel) rfl ?_
        refine Ev.if_lt (t := 36) (by decide +kernel) ?_ ?_
        · refine Ev.run (pc' := 37) (ls' := [some (.ref 17), some (.int a1), some (.int (m.1 18 15))]) (st' := [.int (-1)]) (m' := m) [(.iconst (-1), 0, 0, (-1), 0)] (by decide +kernel) rfl ?_
          exact Ev.ireti rfl rfl (by decide +kernel)
        · refine Ev.run (pc' := 33) (ls' := [some (.ref 17), some (.int a1), some (.int (m.1 18 15))]) (st' := [.int 8, .int (m.1 18 15)]) (m' := m) [(.iload_n 2, 0, 0, 0, 0), (.bipush 8, 0, 0, 8, 0)] (by decide +kernel) rfl ?_
          refine Ev.ic_lt (t := 38) (by decide +kernel) ?_ ?_
          · refine Ev.run (pc' := 48) (ls' := [some (.ref 17), some (.int a1), some (.int (m.1 18 15))]) (st' := [.int ((a1 * 8) + (m.1 18 15)), .ref 19]) (m' := m) [(.aload_n 0, 0, 0, 0, 0), (.getfield 15, 5, 1, 0, 0), (.iload_n 1, 0, 0, 0, 0), (.bipush 8, 0, 0, 8, 0), (.imul, 0, 0, 0, 0), (.iload_n 2, 0, 0, 0, 0), (.iadd, 0, 0, 0, 0)] (by decide +kernel) rfl ?_
            refine Ev.iald (n := 248) (by decide +kernel) (by decide) rfl ?_
            exact Ev.ireti rfl rfl (by decide +kernel)
          · refine Ev.run (pc' := 37) (ls' := [some (.ref 17), some (.int a1), some (.int (m.1 18 15))]) (st' := [.int (-1)]) (m' := m) [(.iconst (-1), 0, 0, (-1), 0)] (by decide +kernel) rfl ?_
            exact Ev.ireti rfl rfl (by decide +kernel)
def FX6_addFire (f : Nat) (a1 : Int32) (a2 : Int32) (a3 : Int32) (a4 : Int32) (m : ev_M) : Option (Int32 × ev_M) :=
  (if a1 < 0 then some (a1, m) else (if a1 < 1000 then (if ev_in (3 * a1) 3000 then (if ev_in ((3 * a1) + 1) 3000 then (if ev_in ((3 * a1) + 2) 3000 then some ((a1 + 1), ((ev_up (ev_up (ev_up m.1 42 (3 * a1).toNatClampNeg a2) 42 ((3 * a1) + 1).toNatClampNeg a3) 42 ((3 * a1) + 2).toNatClampNeg a4), m.2)) else none) else none) else none) else some (a1, m)))
set_option maxRecDepth 100000 in
set_option maxHeartbeats 4000000 in
theorem EX6_addFire {l : Launch} {Ln : Nat} {xs : Nat → Int32} {d : Nat} (f : Nat) (a1 : Int32) (a2 : Int32) (a3 : Int32) (a4 : Int32) (m : ev_M)  (hd : 0 ≤ d) : Mv ev_eI l Ln xs YX6_addFire d Sx [.ref 40, .int a1, .int a2, .int a3, .int a4] m (FX6_addFire f a1 a2 a3 a4 m) := by
  refine Mv.of (by decide +kernel) rfl (Nat.le_of_ble_eq_true rfl) (Ev.le (ls' := [some (.ref 40), some (.int a1), some (.int a2), some (.int a3), some (.int a4)]) ⟨rfl, ⟨rfl, ⟨rfl, ⟨rfl, ⟨rfl, trivial⟩⟩⟩⟩⟩ ?_)
  unfold FX6_addFire
  refine Ev.run (pc' := 1) (ls' := [some (.ref 40), some (.int a1), some (.int a2), some (.int a3), some (.int a4)]) (st' := [.int a1]) (m' := m) [(.iload_n 1, 0, 0, 0, 0)] (by decide +kernel) rfl ?_
  refine Ev.if_lt (t := 11) (by decide +kernel) ?_ ?_
  · refine Ev.run (pc' := 12) (ls' := [some (.ref 40), some (.int a1), some (.int a2), some (.int a3), some (.int a4)]) (st' := [.int a1]) (m' := m) [(.iload_n 1, 0, 0, 0, 0)] (by decide +kernel) rfl ?_
    exact Ev.ireti rfl rfl (by decide +kernel)
  · refine Ev.run (pc' := 8) (ls' := [some (.ref 40), some (.int a1), some (.int a2), some (.int a3), some (.int a4)]) (st' := [.int 1000, .int a1]) (m' := m) [(.iload_n 1, 0, 0, 0, 0), (.sipush 1000, 0, 0, 1000, 0)] (by decide +kernel) rfl ?_
    refine Ev.ic_lt (t := 13) (by decide +kernel) ?_ ?_
    · refine Ev.run (pc' := 21) (ls' := [some (.ref 40), some (.int a1), some (.int a2), some (.int a3), some (.int a4)]) (st' := [.int a2, .int (3 * a1), .ref 42]) (m' := m) [(.aload_n 0, 0, 0, 0, 0), (.getfield 17, 6, 1, 0, 0), (.iconst 3, 0, 0, 3, 0), (.iload_n 1, 0, 0, 0, 0), (.imul, 0, 0, 0, 0), (.iload_n 2, 0, 0, 0, 0)] (by decide +kernel) rfl ?_
      refine Ev.iast (n := 3000) (by decide +kernel) (by decide) rfl ?_
      refine Ev.run (pc' := 32) (ls' := [some (.ref 40), some (.int a1), some (.int a2), some (.int a3), some (.int a4)]) (st' := [.int a3, .int ((3 * a1) + 1), .ref 42]) (m' := ((ev_up m.1 42 (3 * a1).toNatClampNeg a2), m.2)) [(.aload_n 0, 0, 0, 0, 0), (.getfield 17, 6, 1, 0, 0), (.iconst 3, 0, 0, 3, 0), (.iload_n 1, 0, 0, 0, 0), (.imul, 0, 0, 0, 0), (.iconst 1, 0, 0, 1, 0), (.iadd, 0, 0, 0, 0), (.iload_n 3, 0, 0, 0, 0)] (by decide +kernel) rfl ?_
      refine Ev.iast (n := 3000) (by decide +kernel) (by decide) rfl ?_
      refine Ev.run (pc' := 44) (ls' := [some (.ref 40), some (.int a1), some (.int a2), some (.int a3), some (.int a4)]) (st' := [.int a4, .int ((3 * a1) + 2), .ref 42]) (m' := ((ev_up (ev_up m.1 42 (3 * a1).toNatClampNeg a2) 42 ((3 * a1) + 1).toNatClampNeg a3), m.2)) [(.aload_n 0, 0, 0, 0, 0), (.getfield 17, 6, 1, 0, 0), (.iconst 3, 0, 0, 3, 0), (.iload_n 1, 0, 0, 0, 0), (.imul, 0, 0, 0, 0), (.iconst 2, 0, 0, 2, 0), (.iadd, 0, 0, 0, 0), (.iload 4, 0, 0, 0, 0)] (by decide +kernel) rfl ?_
      refine Ev.iast (n := 3000) (by decide +kernel) (by decide) rfl ?_
      refine Ev.run (pc' := 48) (ls' := [some (.ref 40), some (.int a1), some (.int a2), some (.int a3), some (.int a4)]) (st' := [.int (a1 + 1)]) (m' := ((ev_up (ev_up (ev_up m.1 42 (3 * a1).toNatClampNeg a2) 42 ((3 * a1) + 1).toNatClampNeg a3) 42 ((3 * a1) + 2).toNatClampNeg a4), m.2)) [(.iload_n 1, 0, 0, 0, 0), (.iconst 1, 0, 0, 1, 0), (.iadd, 0, 0, 0, 0)] (by decide +kernel) rfl ?_
      exact Ev.ireti rfl rfl (by decide +kernel)
    · refine Ev.run (pc' := 12) (ls' := [some (.ref 40), some (.int a1), some (.int a2), some (.int a3), some (.int a4)]) (st' := [.int a1]) (m' := m) [(.iload_n 1, 0, 0, 0, 0)] (by decide +kernel) rfl ?_
      exact Ev.ireti rfl rfl (by decide +kernel)
def FX6_fireOf (f : Nat) (a1 : Int32) (a2 : Int32) (m : ev_M) : Option (Int32 × ev_M) :=
  (if a1 < 0 then some ((-1), m) else (if 1000 ≤ a1 then some ((-1), m) else (if a2 < 0 then some ((-1), m) else (if 3 ≤ a2 then some ((-1), m) else (if ev_in ((3 * a1) + a2) 3000 then some ((m.1 42 ((3 * a1) + a2).toNatClampNeg), m) else none)))))
set_option maxRecDepth 100000 in
set_option maxHeartbeats 4000000 in
theorem EX6_fireOf {l : Launch} {Ln : Nat} {xs : Nat → Int32} {d : Nat} (f : Nat) (a1 : Int32) (a2 : Int32) (m : ev_M)  (hd : 0 ≤ d) : Mv ev_eI l Ln xs YX6_fireOf d Sx [.ref 40, .int a1, .int a2] m (FX6_fireOf f a1 a2 m) := by
  refine Mv.of (by decide +kernel) rfl (Nat.le_of_ble_eq_true rfl) (Ev.le (ls' := [some (.ref 40), some (.int a1), some (.int a2)]) ⟨rfl, ⟨rfl, ⟨rfl, trivial⟩⟩⟩ ?_)
  unfold FX6_fireOf
  refine Ev.run (pc' := 1) (ls' := [some (.ref 40), some (.int a1), some (.int a2)]) (st' := [.int a1]) (m' := m) [(.iload_n 1, 0, 0, 0, 0)] (by decide +kernel) rfl ?_
  refine Ev.if_lt (t := 33) (by decide +kernel) ?_ ?_
  · refine Ev.run (pc' := 34) (ls' := [some (.ref 40), some (.int a1), some (.int a2)]) (st' := [.int (-1)]) (m' := m) [(.iconst (-1), 0, 0, (-1), 0)] (by decide +kernel) rfl ?_
    exact Ev.ireti rfl rfl (by decide +kernel)
  · refine Ev.run (pc' := 8) (ls' := [some (.ref 40), some (.int a1), some (.int a2)]) (st' := [.int 1000, .int a1]) (m' := m) [(.iload_n 1, 0, 0, 0, 0), (.sipush 1000, 0, 0, 1000, 0)] (by decide +kernel) rfl ?_
    refine Ev.ic_ge (t := 33) (by decide +kernel) ?_ ?_
    · refine Ev.run (pc' := 34) (ls' := [some (.ref 40), some (.int a1), some (.int a2)]) (st' := [.int (-1)]) (m' := m) [(.iconst (-1), 0, 0, (-1), 0)] (by decide +kernel) rfl ?_
      exact Ev.ireti rfl rfl (by decide +kernel)
    · refine Ev.run (pc' := 12) (ls' := [some (.ref 40), some (.int a1), some (.int a2)]) (st' := [.int a2]) (m' := m) [(.iload_n 2, 0, 0, 0, 0)] (by decide +kernel) rfl ?_
      refine Ev.if_lt (t := 33) (by decide +kernel) ?_ ?_
      · refine Ev.run (pc' := 34) (ls' := [some (.ref 40), some (.int a1), some (.int a2)]) (st' := [.int (-1)]) (m' := m) [(.iconst (-1), 0, 0, (-1), 0)] (by decide +kernel) rfl ?_
        exact Ev.ireti rfl rfl (by decide +kernel)
      · refine Ev.run (pc' := 17) (ls' := [some (.ref 40), some (.int a1), some (.int a2)]) (st' := [.int 3, .int a2]) (m' := m) [(.iload_n 2, 0, 0, 0, 0), (.iconst 3, 0, 0, 3, 0)] (by decide +kernel) rfl ?_
        refine Ev.ic_ge (t := 33) (by decide +kernel) ?_ ?_
        · refine Ev.run (pc' := 34) (ls' := [some (.ref 40), some (.int a1), some (.int a2)]) (st' := [.int (-1)]) (m' := m) [(.iconst (-1), 0, 0, (-1), 0)] (by decide +kernel) rfl ?_
          exact Ev.ireti rfl rfl (by decide +kernel)
        · refine Ev.run (pc' := 29) (ls' := [some (.ref 40), some (.int a1), some (.int a2)]) (st' := [.int ((3 * a1) + a2), .ref 42]) (m' := m) [(.aload_n 0, 0, 0, 0, 0), (.getfield 17, 6, 1, 0, 0), (.iconst 3, 0, 0, 3, 0), (.iload_n 1, 0, 0, 0, 0), (.imul, 0, 0, 0, 0), (.iload_n 2, 0, 0, 0, 0), (.iadd, 0, 0, 0, 0)] (by decide +kernel) rfl ?_
          refine Ev.iald (n := 3000) (by decide +kernel) (by decide) rfl ?_
          refine Ev.gto (t := 34) (by decide +kernel) ?_
          exact Ev.ireti rfl rfl (by decide +kernel)
def FX7_setValues_J86 (f : Nat)  (o1 : Nat) (a2 : Int32) (a4 : Int32) (s1 : Int32) (s2 : Int32) (m : ev_M) : Option (Unit × ev_M) :=
  (if ev_in s1 29 then (if a4 = 0 then some ((), ((ev_up (ev_up (ev_up m.1 18 s1.toNatClampNeg s2) 18 16 (-1)) 18 4 ((((ev_up (ev_up m.1 18 s1.toNatClampNeg s2) 18 16 (-1)) o1 4) >>> (a2 &&& 31)) &&& 1)), m.2)) else (if ev_in a2 8 then some ((), ((ev_up (ev_up (ev_up m.1 18 s1.toNatClampNeg s2) 18 16 (m.1 28 a2.toNatClampNeg)) 18 4 ((((ev_up (ev_up m.1 18 s1.toNatClampNeg s2) 18 16 (m.1 28 a2.toNatClampNeg)) o1 4) >>> (a2 &&& 31)) &&& 1)), m.2)) else none)) else none)
def FX7_setValues_J20 (f : Nat)  (o1 : Nat) (a2 : Int32) (s0 : Int32) (m : ev_M) : Option (Unit × ev_M) :=
  (if ev_in a2 8 then (if ev_in a2 8 then (if s0 = 0 then (FX7_setValues_J86 f o1 a2 s0 (14 : Int32) (-1 : Int32) ((ev_up (ev_up (ev_up (ev_up m.1 18 15 a2) 18 2 ((ev_up m.1 18 15 a2) (o1 + 1) a2.toNatClampNeg)) 18 3 ((ev_up (ev_up m.1 18 15 a2) 18 2 ((ev_up m.1 18 15 a2) (o1 + 1) a2.toNatClampNeg)) (o1 + 2) a2.toNatClampNeg)) 18 11 ((ev_up (ev_up (ev_up m.1 18 15 a2) 18 2 ((ev_up m.1 18 15 a2) (o1 + 1) a2.toNatClampNeg)) 18 3 ((ev_up (ev_up m.1 18 15 a2) 18 2 ((ev_up m.1 18 15 a2) (o1 + 1) a2.toNatClampNeg)) (o1 + 2) a2.toNatClampNeg)) o1 2)), m.2)) else (if ev_in a2 248 then (FX7_setValues_J86 f o1 a2 s0 (14 : Int32) (m.1 19 a2.toNatClampNeg) ((ev_up (ev_up (ev_up (ev_up m.1 18 15 a2) 18 2 ((ev_up m.1 18 15 a2) (o1 + 1) a2.toNatClampNeg)) 18 3 ((ev_up (ev_up m.1 18 15 a2) 18 2 ((ev_up m.1 18 15 a2) (o1 + 1) a2.toNatClampNeg)) (o1 + 2) a2.toNatClampNeg)) 18 11 ((ev_up (ev_up (ev_up m.1 18 15 a2) 18 2 ((ev_up m.1 18 15 a2) (o1 + 1) a2.toNatClampNeg)) 18 3 ((ev_up (ev_up m.1 18 15 a2) 18 2 ((ev_up m.1 18 15 a2) (o1 + 1) a2.toNatClampNeg)) (o1 + 2) a2.toNatClampNeg)) o1 2)), m.2)) else none)) else none) else none)
def FX7_setValues (f : Nat) (o1 : Nat) (a2 : Int32) (m : ev_M) : Option (Unit × ev_M) :=
  (if (m.1 17 2) ≤ 0 then (FX7_setValues_J20 f o1 a2 (0 : Int32) m) else (FX7_setValues_J20 f o1 a2 (1 : Int32) m))
set_option maxRecDepth 100000 in
set_option maxHeartbeats 4000000 in
theorem EX7_setValues_J86 {l : Launch} {Ln : Nat} {xs : Nat → Int32} {d : Nat} (f : Nat)  (o1 : Nat) (a2 : Int32) (a4 : Int32) (s1 : Int32) (s2 : Int32) (m : ev_M) (h_o1 : isK 8 o1)  (hd : 0 ≤ d) : Ev ev_eV l Ln xs YX7_setValues d Sx 86 [some (.ref 22), some (.ref o1), some (.int a2), some (.ref 17), some (.int a4)] [.int s2, .int s1, .ref 18] m (FX7_setValues_J86 f o1 a2 a4 s1 s2 m) := by
  unfold FX7_setValues_J86
  refine Ev.iast (n := 29) (by decide +kernel) (by decide) rfl ?_
  refine Ev.run (pc' := 95) (ls' := [some (.ref 22), some (.ref o1), some (.int a2), some (.ref 17), some (.int a4)]) (st' := [.int a4, .int 16, .ref 18]) (m' := ((ev_up m.1 18 s1.toNatClampNeg s2), m.2)) [(.aload_n 3, 0, 0, 0, 0), (.getfield 155, 5, 0, 0, 0), (.bipush 16, 0, 0, 16, 0), (.iload 4, 0, 0, 0, 0)] (by decide +kernel) rfl ?_
  refine Ev.if_eq (t := 107) (by decide +kernel) ?_ ?_
  · refine Ev.run (pc' := 108) (ls' := [some (.ref 22), some (.ref o1), some (.int a2), some (.ref 17), some (.int a4)]) (st' := [.int (-1), .int 16, .ref 18]) (m' := ((ev_up m.1 18 s1.toNatClampNeg s2), m.2)) [(.iconst (-1), 0, 0, (-1), 0)] (by decide +kernel) rfl ?_
    refine Ev.iastK (n := 29) (j := 16) (by decide +kernel) (by decide) rfl rfl (by decide) ?_
    refine Ev.run (pc' := 115) (ls' := [some (.ref 22), some (.ref o1), some (.int a2), some (.ref 17), some (.int a4)]) (st' := [.ref o1, .int 4, .ref 18]) (m' := ((ev_up (ev_up m.1 18 s1.toNatClampNeg s2) 18 16 (-1)), m.2)) [(.aload_n 3, 0, 0, 0, 0), (.getfield 155, 5, 0, 0, 0), (.iconst 4, 0, 0, 4, 0), (.aload_n 1, 0, 0, 0, 0)] (by decide +kernel) rfl ?_
    refine Ev.getS (v := .int ((ev_up (ev_up m.1 18 s1.toNatClampNeg s2) 18 16 (-1)) o1 4)) (ci := 8) (k := 4) (idx := 170) (by decide +kernel) (by decide +kernel) (k8_l0 h_o1) (by rw [(k8_s0 h_o1)]) (by rw [(k8_s0 h_o1)]; decide) rfl ?_
    refine Ev.run (pc' := 122) (ls' := [some (.ref 22), some (.ref o1), some (.int a2), some (.ref 17), some (.int a4)]) (st' := [.int ((((ev_up (ev_up m.1 18 s1.toNatClampNeg s2) 18 16 (-1)) o1 4) >>> (a2 &&& 31)) &&& 1), .int 4, .ref 18]) (m' := ((ev_up (ev_up m.1 18 s1.toNatClampNeg s2) 18 16 (-1)), m.2)) [(.iload_n 2, 0, 0, 0, 0), (.ishr, 0, 0, 0, 0), (.iconst 1, 0, 0, 1, 0), (.iand, 0, 0, 0, 0)] (by decide +kernel) rfl ?_
    refine Ev.iastK (n := 29) (j := 4) (by decide +kernel) (by decide) rfl rfl (by decide) ?_
    exact Ev.retv rfl rfl (by decide +kernel)
  · refine Ev.run (pc' := 103) (ls' := [some (.ref 22), some (.ref o1), some (.int a2), some (.ref 17), some (.int a4)]) (st' := [.int a2, .ref 28, .int 16, .ref 18]) (m' := ((ev_up m.1 18 s1.toNatClampNeg s2), m.2)) [(.aload_n 0, 0, 0, 0, 0), (.getfield 25, 7, 5, 0, 0), (.iload_n 2, 0, 0, 0, 0)] (by decide +kernel) rfl ?_
    refine Ev.iald (n := 8) (by decide +kernel) (by decide) rfl ?_
    refine Ev.gto (t := 108) (by decide +kernel) ?_
    refine Ev.iastK (n := 29) (j := 16) (by decide +kernel) (by decide) rfl rfl (by decide) ?_
    refine Ev.run (pc' := 115) (ls' := [some (.ref 22), some (.ref o1), some (.int a2), some (.ref 17), some (.int a4)]) (st' := [.ref o1, .int 4, .ref 18]) (m' := ((ev_up (ev_up m.1 18 s1.toNatClampNeg s2) 18 16 (m.1 28 a2.toNatClampNeg)), m.2)) [(.aload_n 3, 0, 0, 0, 0), (.getfield 155, 5, 0, 0, 0), (.iconst 4, 0, 0, 4, 0), (.aload_n 1, 0, 0, 0, 0)] (by decide +kernel) rfl ?_
    refine Ev.getS (v := .int ((ev_up (ev_up m.1 18 s1.toNatClampNeg s2) 18 16 (m.1 28 a2.toNatClampNeg)) o1 4)) (ci := 8) (k := 4) (idx := 170) (by decide +kernel) (by decide +kernel) (k8_l0 h_o1) (by rw [(k8_s0 h_o1)]) (by rw [(k8_s0 h_o1)]; decide) rfl ?_
    refine Ev.run (pc' := 122) (ls' := [some (.ref 22), some (.ref o1), some (.int a2), some (.ref 17), some (.int a4)]) (st' := [.int ((((ev_up (ev_up m.1 18 s1.toNatClampNeg s2) 18 16 (m.1 28 a2.toNatClampNeg)) o1 4) >>> (a2 &&& 31)) &&& 1), .int 4, .ref 18]) (m' := ((ev_up (ev_up m.1 18 s1.toNatClampNeg s2) 18 16 (m.1 28 a2.toNatClampNeg)), m.2)) [(.iload_n 2, 0, 0, 0, 0), (.ishr, 0, 0, 0, 0), (.iconst 1, 0, 0, 1, 0), (.iand, 0, 0, 0, 0)] (by decide +kernel) rfl ?_
    refine Ev.iastK (n := 29) (j := 4) (by decide +kernel) (by decide) rfl rfl (by decide) ?_
    exact Ev.retv rfl rfl (by decide +kernel)
set_option maxRecDepth 100000 in
set_option maxHeartbeats 4000000 in
theorem EX7_setValues_J20 {l : Launch} {Ln : Nat} {xs : Nat → Int32} {d : Nat} (f : Nat)  (o1 : Nat) (a2 : Int32) (s0 : Int32) (m : ev_M) (h_o1 : isK 8 o1)  (hd : 0 ≤ d) : Ev ev_eV l Ln xs YX7_setValues d Sx 20 [some (.ref 22), some (.ref o1), some (.int a2), some (.ref 17), none] [.int s0] m (FX7_setValues_J20 f o1 a2 s0 m) := by
  unfold FX7_setValues_J20
  refine Ev.run (pc' := 29) (ls' := [some (.ref 22), some (.ref o1), some (.int a2), some (.ref 17), some (.int s0)]) (st' := [.int a2, .int 15, .ref 18]) (m' := m) [(.istore 4, 0, 0, 0, 0), (.aload_n 3, 0, 0, 0, 0), (.getfield 155, 5, 0, 0, 0), (.bipush 15, 0, 0, 15, 0), (.iload_n 2, 0, 0, 0, 0)] (by decide +kernel) rfl ?_
  refine Ev.iastK (n := 29) (j := 15) (by decide +kernel) (by decide) rfl rfl (by decide) ?_
  refine Ev.run (pc' := 36) (ls' := [some (.ref 22), some (.ref o1), some (.int a2), some (.ref 17), some (.int s0)]) (st' := [.ref o1, .int 2, .ref 18]) (m' := ((ev_up m.1 18 15 a2), m.2)) [(.aload_n 3, 0, 0, 0, 0), (.getfield 155, 5, 0, 0, 0), (.iconst 2, 0, 0, 2, 0), (.aload_n 1, 0, 0, 0, 0)] (by decide +kernel) rfl ?_
  refine Ev.getS (v := .ref (o1 + 1)) (ci := 8) (k := 0) (idx := 158) (by decide +kernel) (by decide +kernel) (k8_l0 h_o1) (by rw [(k8_s0 h_o1)]) (by rw [(k8_s0 h_o1)]; decide) (by unfold ev_gv; rw [if_neg (by decide)]; show va_rf (Sx.2.2 o1 0) = _; rw [k8_r0 h_o1]; rfl) ?_
  refine Ev.run (pc' := 40) (ls' := [some (.ref 22), some (.ref o1), some (.int a2), some (.ref 17), some (.int s0)]) (st' := [.int a2, .ref (o1 + 1), .int 2, .ref 18]) (m' := ((ev_up m.1 18 15 a2), m.2)) [(.iload_n 2, 0, 0, 0, 0)] (by decide +kernel) rfl ?_
  refine Ev.iald (n := 8) (by decide +kernel) (k8_l1 h_o1) (k8_s1 h_o1) ?_
  refine Ev.iastK (n := 29) (j := 2) (by decide +kernel) (by decide) rfl rfl (by decide) ?_
  refine Ev.run (pc' := 48) (ls' := [some (.ref 22), some (.ref o1), some (.int a2), some (.ref 17), some (.int s0)]) (st' := [.ref o1, .int 3, .ref 18]) (m' := ((ev_up (ev_up m.1 18 15 a2) 18 2 ((ev_up m.1 18 15 a2) (o1 + 1) a2.toNatClampNeg)), m.2)) [(.aload_n 3, 0, 0, 0, 0), (.getfield 155, 5, 0, 0, 0), (.iconst 3, 0, 0, 3, 0), (.aload_n 1, 0, 0, 0, 0)] (by decide +kernel) rfl ?_
  refine Ev.getS (v := .ref (o1 + 2)) (ci := 8) (k := 1) (idx := 161) (by decide +kernel) (by decide +kernel) (k8_l0 h_o1) (by rw [(k8_s0 h_o1)]) (by rw [(k8_s0 h_o1)]; decide) (by unfold ev_gv; rw [if_neg (by decide)]; show va_rf (Sx.2.2 o1 1) = _; rw [k8_r1 h_o1]; rfl) ?_
  refine Ev.run (pc' := 52) (ls' := [some (.ref 22), some (.ref o1), some (.int a2), some (.ref 17), some (.int s0)]) (st' := [.int a2, .ref (o1 + 2), .int 3, .ref 18]) (m' := ((ev_up (ev_up m.1 18 15 a2) 18 2 ((ev_up m.1 18 15 a2) (o1 + 1) a2.toNatClampNeg)), m.2)) [(.iload_n 2, 0, 0, 0, 0)] (by decide +kernel) rfl ?_
  refine Ev.iald (n := 8) (by decide +kernel) (k8_l2 h_o1) (k8_s2 h_o1) ?_
  refine Ev.iastK (n := 29) (j := 3) (by decide +kernel) (by decide) rfl rfl (by decide) ?_
  refine Ev.run (pc' := 61) (ls' := [some (.ref 22), some (.ref o1), some (.int a2), some (.ref 17), some (.int s0)]) (st' := [.ref o1, .int 11, .ref 18]) (m' := ((ev_up (ev_up (ev_up m.1 18 15 a2) 18 2 ((ev_up m.1 18 15 a2) (o1 + 1) a2.toNatClampNeg)) 18 3 ((ev_up (ev_up m.1 18 15 a2) 18 2 ((ev_up m.1 18 15 a2) (o1 + 1) a2.toNatClampNeg)) (o1 + 2) a2.toNatClampNeg)), m.2)) [(.aload_n 3, 0, 0, 0, 0), (.getfield 155, 5, 0, 0, 0), (.bipush 11, 0, 0, 11, 0), (.aload_n 1, 0, 0, 0, 0)] (by decide +kernel) rfl ?_
  refine Ev.getS (v := .int ((ev_up (ev_up (ev_up m.1 18 15 a2) 18 2 ((ev_up m.1 18 15 a2) (o1 + 1) a2.toNatClampNeg)) 18 3 ((ev_up (ev_up m.1 18 15 a2) 18 2 ((ev_up m.1 18 15 a2) (o1 + 1) a2.toNatClampNeg)) (o1 + 2) a2.toNatClampNeg)) o1 2)) (ci := 8) (k := 2) (idx := 164) (by decide +kernel) (by decide +kernel) (k8_l0 h_o1) (by rw [(k8_s0 h_o1)]) (by rw [(k8_s0 h_o1)]; decide) rfl ?_
  refine Ev.iastK (n := 29) (j := 11) (by decide +kernel) (by decide) rfl rfl (by decide) ?_
  refine Ev.run (pc' := 73) (ls' := [some (.ref 22), some (.ref o1), some (.int a2), some (.ref 17), some (.int s0)]) (st' := [.int s0, .int 14, .ref 18]) (m' := ((ev_up (ev_up (ev_up (ev_up m.1 18 15 a2) 18 2 ((ev_up m.1 18 15 a2) (o1 + 1) a2.toNatClampNeg)) 18 3 ((ev_up (ev_up m.1 18 15 a2) 18 2 ((ev_up m.1 18 15 a2) (o1 + 1) a2.toNatClampNeg)) (o1 + 2) a2.toNatClampNeg)) 18 11 ((ev_up (ev_up (ev_up m.1 18 15 a2) 18 2 ((ev_up m.1 18 15 a2) (o1 + 1) a2.toNatClampNeg)) 18 3 ((ev_up (ev_up m.1 18 15 a2) 18 2 ((ev_up m.1 18 15 a2) (o1 + 1) a2.toNatClampNeg)) (o1 + 2) a2.toNatClampNeg)) o1 2)), m.2)) [(.aload_n 3, 0, 0, 0, 0), (.getfield 155, 5, 0, 0, 0), (.bipush 14, 0, 0, 14, 0), (.iload 4, 0, 0, 0, 0)] (by decide +kernel) rfl ?_
  refine Ev.if_eq (t := 85) (by decide +kernel) ?_ ?_
  · refine Ev.run (pc' := 86) (ls' := [some (.ref 22), some (.ref o1), some (.int a2), some (.ref 17), some (.int s0)]) (st' := [.int (-1), .int 14, .ref 18]) (m' := ((ev_up (ev_up (ev_up (ev_up m.1 18 15 a2) 18 2 ((ev_up m.1 18 15 a2) (o1 + 1) a2.toNatClampNeg)) 18 3 ((ev_up (ev_up m.1 18 15 a2) 18 2 ((ev_up m.1 18 15 a2) (o1 + 1) a2.toNatClampNeg)) (o1 + 2) a2.toNatClampNeg)) 18 11 ((ev_up (ev_up (ev_up m.1 18 15 a2) 18 2 ((ev_up m.1 18 15 a2) (o1 + 1) a2.toNatClampNeg)) 18 3 ((ev_up (ev_up m.1 18 15 a2) 18 2 ((ev_up m.1 18 15 a2) (o1 + 1) a2.toNatClampNeg)) (o1 + 2) a2.toNatClampNeg)) o1 2)), m.2)) [(.iconst (-1), 0, 0, (-1), 0)] (by decide +kernel) rfl ?_
    exact EX7_setValues_J86 f o1 a2 s0 (14 : Int32) (-1 : Int32) ((ev_up (ev_up (ev_up (ev_up m.1 18 15 a2) 18 2 ((ev_up m.1 18 15 a2) (o1 + 1) a2.toNatClampNeg)) 18 3 ((ev_up (ev_up m.1 18 15 a2) 18 2 ((ev_up m.1 18 15 a2) (o1 + 1) a2.toNatClampNeg)) (o1 + 2) a2.toNatClampNeg)) 18 11 ((ev_up (ev_up (ev_up m.1 18 15 a2) 18 2 ((ev_up m.1 18 15 a2) (o1 + 1) a2.toNatClampNeg)) 18 3 ((ev_up (ev_up m.1 18 15 a2) 18 2 ((ev_up m.1 18 15 a2) (o1 + 1) a2.toNatClampNeg)) (o1 + 2) a2.toNatClampNeg)) o1 2)), m.2) h_o1 (by omega)
  · refine Ev.run (pc' := 81) (ls' := [some (.ref 22), some (.ref o1), some (.int a2), some (.ref 17), some (.int s0)]) (st' := [.int a2, .ref 19, .int 14, .ref 18]) (m' := ((ev_up (ev_up (ev_up (ev_up m.1 18 15 a2) 18 2 ((ev_up m.1 18 15 a2) (o1 + 1) a2.toNatClampNeg)) 18 3 ((ev_up (ev_up m.1 18 15 a2) 18 2 ((ev_up m.1 18 15 a2) (o1 + 1) a2.toNatClampNeg)) (o1 + 2) a2.toNatClampNeg)) 18 11 ((ev_up (ev_up (ev_up m.1 18 15 a2) 18 2 ((ev_up m.1 18 15 a2) (o1 + 1) a2.toNatClampNeg)) 18 3 ((ev_up (ev_up m.1 18 15 a2) 18 2 ((ev_up m.1 18 15 a2) (o1 + 1) a2.toNatClampNeg)) (o1 + 2) a2.toNatClampNeg)) o1 2)), m.2)) [(.aload_n 3, 0, 0, 0, 0), (.getfield 167, 5, 1, 0, 0), (.iload_n 2, 0, 0, 0, 0)] (by decide +kernel) rfl ?_
    refine Ev.iald (n := 248) (by decide +kernel) (by decide) rfl ?_
    refine Ev.gto (t := 86) (by decide +kernel) ?_
    exact EX7_setValues_J86 f o1 a2 s0 (14 : Int32) (m.1 19 a2.toNatClampNeg) ((ev_up (ev_up (ev_up (ev_up m.1 18 15 a2) 18 2 ((ev_up m.1 18 15 a2) (o1 + 1) a2.toNatClampNeg)) 18 3 ((ev_up (ev_up m.1 18 15 a2) 18 2 ((ev_up m.1 18 15 a2) (o1 + 1) a2.toNatClampNeg)) (o1 + 2) a2.toNatClampNeg)) 18 11 ((ev_up (ev_up (ev_up m.1 18 15 a2) 18 2 ((ev_up m.1 18 15 a2) (o1 + 1) a2.toNatClampNeg)) 18 3 ((ev_up (ev_up m.1 18 15 a2) 18 2 ((ev_up m.1 18 15 a2) (o1 + 1) a2.toNatClampNeg)) (o1 + 2) a2.toNatClampNeg)) o1 2)), m.2) h_o1 (by omega)
set_option maxRecDepth 100000 in
set_option maxHeartbeats 4000000 in
theorem EX7_setValues {l : Launch} {Ln : Nat} {xs : Nat → Int32} {d : Nat} (f : Nat) (o1 : Nat) (a2 : Int32) (m : ev_M) (h_o1 : isK 8 o1) (hd : 0 ≤ d) : Mv ev_eV l Ln xs YX7_setValues d Sx [.ref 22, .ref o1, .int a2] m (FX7_setValues f o1 a2 m) := by
  refine Mv.of (by decide +kernel) rfl (Nat.le_of_ble_eq_true rfl) (Ev.le (ls' := [some (.ref 22), some (.ref o1), some (.int a2), none, none]) ⟨rfl, ⟨rfl, ⟨rfl, trivial⟩⟩⟩ ?_)
  unfold FX7_setValues
  refine Ev.run (pc' := 12) (ls' := [some (.ref 22), some (.ref o1), some (.int a2), some (.ref 17), none]) (st' := [.int (m.1 17 2)]) (m' := m) [(.aload_n 0, 0, 0, 0, 0), (.getfield 41, 7, 2, 0, 0), (.getfield 129, 3, 0, 0, 0), (.astore_n 3, 0, 0, 0, 0), (.aload_n 3, 0, 0, 0, 0), (.getfield 152, 5, 2, 0, 0)] (by decide +kernel) rfl ?_
  refine Ev.if_le (t := 19) (by decide +kernel) ?_ ?_
  · refine Ev.run (pc' := 20) (ls' := [some (.ref 22), some (.ref o1), some (.int a2), some (.ref 17), none]) (st' := [.int 0]) (m' := m) [(.iconst 0, 0, 0, 0, 0)] (by decide +kernel) rfl ?_
    exact EX7_setValues_J20 f o1 a2 (0 : Int32) m h_o1 (by omega)
  · refine Ev.run (pc' := 16) (ls' := [some (.ref 22), some (.ref o1), some (.int a2), some (.ref 17), none]) (st' := [.int 1]) (m' := m) [(.iconst 1, 0, 0, 1, 0)] (by decide +kernel) rfl ?_
    refine Ev.gto (t := 20) (by decide +kernel) ?_
    exact EX7_setValues_J20 f o1 a2 (1 : Int32) m h_o1 (by omega)
def FX8_begin_L28 (f : Nat) (k : ev_M → Option (Unit × ev_M)) (o0 : Nat) (o1 : Nat)  : Nat → Int32 → ev_M → Option (Unit × ev_M)
  | 0, _, _ => none
  | n + 1, a2, m => (if 8 ≤ a2 then (k m) else (if ev_in a2 8 then (if ev_in a2 8 then (if ev_in a2 8 then (if ev_in a2 8 then (FX8_begin_L28 f k o0 o1 n (a2 + 1) ((ev_up (ev_up m.1 (o0 + 1) a2.toNatClampNeg (m.1 (o1 + 2) a2.toNatClampNeg)) (o0 + 2) a2.toNatClampNeg ((ev_up m.1 (o0 + 1) a2.toNatClampNeg (m.1 (o1 + 2) a2.toNatClampNeg)) (o1 + 3) a2.toNatClampNeg)), m.2)) else none) else none) else none) else none))
def FX8_begin (f : Nat) (o0 : Nat) (o1 : Nat) (m : ev_M) : Option (Unit × ev_M) :=
  (FX8_begin_L28 f (fun m1 => some ((), m1)) o0 o1 f (0 : Int32) ((ev_up (ev_up (ev_up (ev_up m.1 o0 2 0) o0 3 ((ev_up m.1 o0 2 0) o1 7)) o0 4 ((ev_up (ev_up m.1 o0 2 0) o0 3 ((ev_up m.1 o0 2 0) o1 7)) o1 6)) o0 5 0), m.2))
set_option maxRecDepth 100000 in
set_option maxHeartbeats 4000000 in
theorem EX8_begin_L28 {l : Launch} {Ln : Nat} {xs : Nat → Int32} {d : Nat} (f : Nat) (k : ev_M → Option (Unit × ev_M)) (o0 : Nat) (o1 : Nat)  (h_o0 : isK 8 o0) (h_o1 : isK 1 o1)  (hk : ∀  (em : ev_M), Ev ev_eV l Ln xs YX8_begin d Sx 64 [none, none, none] [] em (k em)) (hd : 0 ≤ d) : ∀ (n : Nat) (a2 : Int32) (m : ev_M), Ev ev_eV l Ln xs YX8_begin d Sx 28 [some (.ref o0), some (.ref o1), some (.int a2)] [] m (FX8_begin_L28 f k o0 o1 n a2 m) := by
  intro n
  induction n with
  | zero => intros; exact Ev.nn
  | succ n ih =>
    intro a2 m
    rw [FX8_begin_L28]
    refine Ev.run (pc' := 31) (ls' := [some (.ref o0), some (.ref o1), some (.int a2)]) (st' := [.int 8, .int a2]) (m' := m) [(.iload_n 2, 0, 0, 0, 0), (.bipush 8, 0, 0, 8, 0)] (by decide +kernel) rfl ?_
    refine Ev.ic_ge (t := 64) (by decide +kernel) ?_ ?_
    · refine Ev.le (ls' := [none, none, none]) trivial ?_
      exact hk _
    · refine Ev.run (pc' := 35) (ls' := [some (.ref o0), some (.ref o1), some (.int a2)]) (st' := [.ref o0]) (m' := m) [(.aload_n 0, 0, 0, 0, 0)] (by decide +kernel) rfl ?_
      refine Ev.getS (v := .ref (o0 + 1)) (ci := 8) (k := 0) (idx := 9) (by decide +kernel) (by decide +kernel) (k8_l0 h_o0) (by rw [(k8_s0 h_o0)]) (by rw [(k8_s0 h_o0)]; decide) (by unfold ev_gv; rw [if_neg (by decide)]; show va_rf (Sx.2.2 o0 0) = _; rw [k8_r0 h_o0]; rfl) ?_
      refine Ev.run (pc' := 40) (ls' := [some (.ref o0), some (.ref o1), some (.int a2)]) (st' := [.ref o1, .int a2, .ref (o0 + 1)]) (m' := m) [(.iload_n 2, 0, 0, 0, 0), (.aload_n 1, 0, 0, 0, 0)] (by decide +kernel) rfl ?_
      refine Ev.getS (v := .ref (o1 + 2)) (ci := 1) (k := 1) (idx := 37) (by decide +kernel) (by decide +kernel) (k1_l0 h_o1) (by rw [(k1_s0 h_o1)]) (by rw [(k1_s0 h_o1)]; decide) (by unfold ev_gv; rw [if_neg (by decide)]; show va_rf (Sx.2.2 o1 1) = _; rw [k1_r1 h_o1]; rfl) ?_
      refine Ev.run (pc' := 44) (ls' := [some (.ref o0), some (.ref o1), some (.int a2)]) (st' := [.int a2, .ref (o1 + 2), .int a2, .ref (o0 + 1)]) (m' := m) [(.iload_n 2, 0, 0, 0, 0)] (by decide +kernel) rfl ?_
      refine Ev.iald (n := 8) (by decide +kernel) (k1_l2 h_o1) (k1_s2 h_o1) ?_
      refine Ev.iast (n := 8) (by decide +kernel) (k8_l1 h_o0) (k8_s1 h_o0) ?_
      refine Ev.run (pc' := 47) (ls' := [some (.ref o0), some (.ref o1), some (.int a2)]) (st' := [.ref o0]) (m' := ((ev_up m.1 (o0 + 1) a2.toNatClampNeg (m.1 (o1 + 2) a2.toNatClampNeg)), m.2)) [(.aload_n 0, 0, 0, 0, 0)] (by decide +kernel) rfl ?_
      refine Ev.getS (v := .ref (o0 + 2)) (ci := 8) (k := 1) (idx := 15) (by decide +kernel) (by decide +kernel) (k8_l0 h_o0) (by rw [(k8_s0 h_o0)]) (by rw [(k8_s0 h_o0)]; decide) (by unfold ev_gv; rw [if_neg (by decide)]; show va_rf (Sx.2.2 o0 1) = _; rw [k8_r1 h_o0]; rfl) ?_
      refine Ev.run (pc' := 52) (ls' := [some (.ref o0), some (.ref o1), some (.int a2)]) (st' := [.ref o1, .int a2, .ref (o0 + 2)]) (m' := ((ev_up m.1 (o0 + 1) a2.toNatClampNeg (m.1 (o1 + 2) a2.toNatClampNeg)), m.2)) [(.iload_n 2, 0, 0, 0, 0), (.aload_n 1, 0, 0, 0, 0)] (by decide +kernel) rfl ?_
      refine Ev.getS (v := .ref (o1 + 3)) (ci := 1) (k := 2) (idx := 38) (by decide +kernel) (by decide +kernel) (k1_l0 h_o1) (by rw [(k1_s0 h_o1)]) (by rw [(k1_s0 h_o1)]; decide) (by unfold ev_gv; rw [if_neg (by decide)]; show va_rf (Sx.2.2 o1 2) = _; rw [k1_r2 h_o1]; rfl) ?_
      refine Ev.run (pc' := 56) (ls' := [some (.ref o0), some (.ref o1), some (.int a2)]) (st' := [.int a2, .ref (o1 + 3), .int a2, .ref (o0 + 2)]) (m' := ((ev_up m.1 (o0 + 1) a2.toNatClampNeg (m.1 (o1 + 2) a2.toNatClampNeg)), m.2)) [(.iload_n 2, 0, 0, 0, 0)] (by decide +kernel) rfl ?_
      refine Ev.iald (n := 8) (by decide +kernel) (k1_l3 h_o1) (k1_s3 h_o1) ?_
      refine Ev.iast (n := 8) (by decide +kernel) (k8_l2 h_o0) (k8_s2 h_o0) ?_
      refine Ev.run (pc' := 61) (ls' := [some (.ref o0), some (.ref o1), some (.int (a2 + 1))]) (st' := []) (m' := ((ev_up (ev_up m.1 (o0 + 1) a2.toNatClampNeg (m.1 (o1 + 2) a2.toNatClampNeg)) (o0 + 2) a2.toNatClampNeg ((ev_up m.1 (o0 + 1) a2.toNatClampNeg (m.1 (o1 + 2) a2.toNatClampNeg)) (o1 + 3) a2.toNatClampNeg)), m.2)) [(.iinc 2 1, 0, 0, 1, 0)] (by decide +kernel) rfl ?_
      refine Ev.gto (t := 28) (by decide +kernel) ?_
      exact ih _ _
set_option maxRecDepth 100000 in
set_option maxHeartbeats 4000000 in
theorem EX8_begin {l : Launch} {Ln : Nat} {xs : Nat → Int32} {d : Nat} (f : Nat) (o0 : Nat) (o1 : Nat) (m : ev_M) (h_o0 : isK 8 o0) (h_o1 : isK 1 o1) (hd : 0 ≤ d) : Mv ev_eV l Ln xs YX8_begin d Sx [.ref o0, .ref o1] m (FX8_begin f o0 o1 m) := by
  refine Mv.of (by decide +kernel) rfl (Nat.le_of_ble_eq_true rfl) (Ev.le (ls' := [some (.ref o0), some (.ref o1), none]) ⟨rfl, ⟨rfl, trivial⟩⟩ ?_)
  unfold FX8_begin
  refine Ev.run (pc' := 2) (ls' := [some (.ref o0), some (.ref o1), none]) (st' := [.int 0, .ref o0]) (m' := m) [(.aload_n 0, 0, 0, 0, 0), (.iconst 0, 0, 0, 0, 0)] (by decide +kernel) rfl ?_
  refine Ev.putI (ci := 8) (k := 2) (idx := 18) (by decide +kernel) (by decide +kernel) (by decide +kernel) (k8_l0 h_o0) (by rw [(k8_s0 h_o0)]) (by rw [(k8_s0 h_o0)]; decide) rfl rfl ?_
  refine Ev.run (pc' := 7) (ls' := [some (.ref o0), some (.ref o1), none]) (st' := [.ref o1, .ref o0]) (m' := ((ev_up m.1 o0 2 0), m.2)) [(.aload_n 0, 0, 0, 0, 0), (.aload_n 1, 0, 0, 0, 0)] (by decide +kernel) rfl ?_
  refine Ev.getS (v := .int ((ev_up m.1 o0 2 0) o1 7)) (ci := 1) (k := 7) (idx := 31) (by decide +kernel) (by decide +kernel) (k1_l0 h_o1) (by rw [(k1_s0 h_o1)]) (by rw [(k1_s0 h_o1)]; decide) rfl ?_
  refine Ev.putI (ci := 8) (k := 3) (idx := 22) (by decide +kernel) (by decide +kernel) (by decide +kernel) (k8_l0 h_o0) (by rw [(k8_s0 h_o0)]) (by rw [(k8_s0 h_o0)]; decide) rfl rfl ?_
  refine Ev.run (pc' := 15) (ls' := [some (.ref o0), some (.ref o1), none]) (st' := [.ref o1, .ref o0]) (m' := ((ev_up (ev_up m.1 o0 2 0) o0 3 ((ev_up m.1 o0 2 0) o1 7)), m.2)) [(.aload_n 0, 0, 0, 0, 0), (.aload_n 1, 0, 0, 0, 0)] (by decide +kernel) rfl ?_
  refine Ev.getS (v := .int ((ev_up (ev_up m.1 o0 2 0) o0 3 ((ev_up m.1 o0 2 0) o1 7)) o1 6)) (ci := 1) (k := 6) (idx := 36) (by decide +kernel) (by decide +kernel) (k1_l0 h_o1) (by rw [(k1_s0 h_o1)]) (by rw [(k1_s0 h_o1)]; decide) rfl ?_
  refine Ev.putI (ci := 8) (k := 4) (idx := 25) (by decide +kernel) (by decide +kernel) (by decide +kernel) (k8_l0 h_o0) (by rw [(k8_s0 h_o0)]) (by rw [(k8_s0 h_o0)]; decide) rfl rfl ?_
  refine Ev.run (pc' := 23) (ls' := [some (.ref o0), some (.ref o1), none]) (st' := [.int 0, .ref o0]) (m' := ((ev_up (ev_up (ev_up m.1 o0 2 0) o0 3 ((ev_up m.1 o0 2 0) o1 7)) o0 4 ((ev_up (ev_up m.1 o0 2 0) o0 3 ((ev_up m.1 o0 2 0) o1 7)) o1 6)), m.2)) [(.aload_n 0, 0, 0, 0, 0), (.iconst 0, 0, 0, 0, 0)] (by decide +kernel) rfl ?_
  refine Ev.putI (ci := 8) (k := 5) (idx := 28) (by decide +kernel) (by decide +kernel) (by decide +kernel) (k8_l0 h_o0) (by rw [(k8_s0 h_o0)]) (by rw [(k8_s0 h_o0)]; decide) rfl rfl ?_
  refine Ev.run (pc' := 28) (ls' := [some (.ref o0), some (.ref o1), some (.int 0)]) (st' := []) (m' := ((ev_up (ev_up (ev_up (ev_up m.1 o0 2 0) o0 3 ((ev_up m.1 o0 2 0) o1 7)) o0 4 ((ev_up (ev_up m.1 o0 2 0) o0 3 ((ev_up m.1 o0 2 0) o1 7)) o1 6)) o0 5 0), m.2)) [(.iconst 0, 0, 0, 0, 0), (.istore_n 2, 0, 0, 0, 0)] (by decide +kernel) rfl ?_
  refine EX8_begin_L28 f _ o0 o1 h_o0 h_o1 ?_ (by omega) _ _ _
  intro m1
  exact Ev.retv rfl rfl (by decide +kernel)
def FX8_copy_L34 (f : Nat) (k : ev_M → Option (Unit × ev_M)) (o0 : Nat) (o1 : Nat)  : Nat → Int32 → ev_M → Option (Unit × ev_M)
  | 0, _, _ => none
  | n + 1, a2, m => (if 8 ≤ a2 then (k m) else (if ev_in a2 8 then (if ev_in a2 8 then (if ev_in a2 8 then (if ev_in a2 8 then (FX8_copy_L34 f k o0 o1 n (a2 + 1) ((ev_up (ev_up m.1 (o0 + 1) a2.toNatClampNeg (m.1 (o1 + 1) a2.toNatClampNeg)) (o0 + 2) a2.toNatClampNeg ((ev_up m.1 (o0 + 1) a2.toNatClampNeg (m.1 (o1 + 1) a2.toNatClampNeg)) (o1 + 2) a2.toNatClampNeg)), m.2)) else none) else none) else none) else none))
def FX8_copy (f : Nat) (o0 : Nat) (o1 : Nat) (m : ev_M) : Option (Unit × ev_M) :=
  (FX8_copy_L34 f (fun m1 => some ((), m1)) o0 o1 f (0 : Int32) ((ev_up (ev_up (ev_up (ev_up m.1 o0 2 (m.1 o1 2)) o0 3 ((ev_up m.1 o0 2 (m.1 o1 2)) o1 3)) o0 4 ((ev_up (ev_up m.1 o0 2 (m.1 o1 2)) o0 3 ((ev_up m.1 o0 2 (m.1 o1 2)) o1 3)) o1 4)) o0 5 ((ev_up (ev_up (ev_up m.1 o0 2 (m.1 o1 2)) o0 3 ((ev_up m.1 o0 2 (m.1 o1 2)) o1 3)) o0 4 ((ev_up (ev_up m.1 o0 2 (m.1 o1 2)) o0 3 ((ev_up m.1 o0 2 (m.1 o1 2)) o1 3)) o1 4)) o1 5)), m.2))
set_option maxRecDepth 100000 in
set_option maxHeartbeats 4000000 in
theorem EX8_copy_L34 {l : Launch} {Ln : Nat} {xs : Nat → Int32} {d : Nat} (f : Nat) (k : ev_M → Option (Unit × ev_M)) (o0 : Nat) (o1 : Nat)  (h_o0 : isK 8 o0) (h_o1 : isK 8 o1)  (hk : ∀  (em : ev_M), Ev ev_eV l Ln xs YX8_copy d Sx 70 [none, none, none] [] em (k em)) (hd : 0 ≤ d) : ∀ (n : Nat) (a2 : Int32) (m : ev_M), Ev ev_eV l Ln xs YX8_copy d Sx 34 [some (.ref o0), some (.ref o1), some (.int a2)] [] m (FX8_copy_L34 f k o0 o1 n a2 m) := by
  intro n
  induction n with
  | zero => intros; exact Ev.nn
  | succ n ih =>
    intro a2 m
    rw [FX8_copy_L34]
    refine Ev.run (pc' := 37) (ls' := [some (.ref o0), some (.ref o1), some (.int a2)]) (st' := [.int 8, .int a2]) (m' := m) [(.iload_n 2, 0, 0, 0, 0), (.bipush 8, 0, 0, 8, 0)] (by decide +kernel) rfl ?_
    refine Ev.ic_ge (t := 70) (by decide +kernel) ?_ ?_
    · refine Ev.le (ls' := [none, none, none]) trivial ?_
      exact hk _
    · refine Ev.run (pc' := 41) (ls' := [some (.ref o0), some (.ref o1), some (.int a2)]) (st' := [.ref o0]) (m' := m) [(.aload_n 0, 0, 0, 0, 0)] (by decide +kernel) rfl ?_
      refine Ev.getS (v := .ref (o0 + 1)) (ci := 8) (k := 0) (idx := 9) (by decide +kernel) (by decide +kernel) (k8_l0 h_o0) (by rw [(k8_s0 h_o0)]) (by rw [(k8_s0 h_o0)]; decide) (by unfold ev_gv; rw [if_neg (by decide)]; show va_rf (Sx.2.2 o0 0) = _; rw [k8_r0 h_o0]; rfl) ?_
      refine Ev.run (pc' := 46) (ls' := [some (.ref o0), some (.ref o1), some (.int a2)]) (st' := [.ref o1, .int a2, .ref (o0 + 1)]) (m' := m) [(.iload_n 2, 0, 0, 0, 0), (.aload_n 1, 0, 0, 0, 0)] (by decide +kernel) rfl ?_
      refine Ev.getS (v := .ref (o1 + 1)) (ci := 8) (k := 0) (idx := 9) (by decide +kernel) (by decide +kernel) (k8_l0 h_o1) (by rw [(k8_s0 h_o1)]) (by rw [(k8_s0 h_o1)]; decide) (by unfold ev_gv; rw [if_neg (by decide)]; show va_rf (Sx.2.2 o1 0) = _; rw [k8_r0 h_o1]; rfl) ?_
      refine Ev.run (pc' := 50) (ls' := [some (.ref o0), some (.ref o1), some (.int a2)]) (st' := [.int a2, .ref (o1 + 1), .int a2, .ref (o0 + 1)]) (m' := m) [(.iload_n 2, 0, 0, 0, 0)] (by decide +kernel) rfl ?_
      refine Ev.iald (n := 8) (by decide +kernel) (k8_l1 h_o1) (k8_s1 h_o1) ?_
      refine Ev.iast (n := 8) (by decide +kernel) (k8_l1 h_o0) (k8_s1 h_o0) ?_
      refine Ev.run (pc' := 53) (ls' := [some (.ref o0), some (.ref o1), some (.int a2)]) (st' := [.ref o0]) (m' := ((ev_up m.1 (o0 + 1) a2.toNatClampNeg (m.1 (o1 + 1) a2.toNatClampNeg)), m.2)) [(.aload_n 0, 0, 0, 0, 0)] (by decide +kernel) rfl ?_
      refine Ev.getS (v := .ref (o0 + 2)) (ci := 8) (k := 1) (idx := 15) (by decide +kernel) (by decide +kernel) (k8_l0 h_o0) (by rw [(k8_s0 h_o0)]) (by rw [(k8_s0 h_o0)]; decide) (by unfold ev_gv; rw [if_neg (by decide)]; show va_rf (Sx.2.2 o0 1) = _; rw [k8_r1 h_o0]; rfl) ?_
      refine Ev.run (pc' := 58) (ls' := [some (.ref o0), some (.ref o1), some (.int a2)]) (st' := [.ref o1, .int a2, .ref (o0 + 2)]) (m' := ((ev_up m.1 (o0 + 1) a2.toNatClampNeg (m.1 (o1 + 1) a2.toNatClampNeg)), m.2)) [(.iload_n 2, 0, 0, 0, 0), (.aload_n 1, 0, 0, 0, 0)] (by decide +kernel) rfl ?_
      refine Ev.getS (v := .ref (o1 + 2)) (ci := 8) (k := 1) (idx := 15) (by decide +kernel) (by decide +kernel) (k8_l0 h_o1) (by rw [(k8_s0 h_o1)]) (by rw [(k8_s0 h_o1)]; decide) (by unfold ev_gv; rw [if_neg (by decide)]; show va_rf (Sx.2.2 o1 1) = _; rw [k8_r1 h_o1]; rfl) ?_
      refine Ev.run (pc' := 62) (ls' := [some (.ref o0), some (.ref o1), some (.int a2)]) (st' := [.int a2, .ref (o1 + 2), .int a2, .ref (o0 + 2)]) (m' := ((ev_up m.1 (o0 + 1) a2.toNatClampNeg (m.1 (o1 + 1) a2.toNatClampNeg)), m.2)) [(.iload_n 2, 0, 0, 0, 0)] (by decide +kernel) rfl ?_
      refine Ev.iald (n := 8) (by decide +kernel) (k8_l2 h_o1) (k8_s2 h_o1) ?_
      refine Ev.iast (n := 8) (by decide +kernel) (k8_l2 h_o0) (k8_s2 h_o0) ?_
      refine Ev.run (pc' := 67) (ls' := [some (.ref o0), some (.ref o1), some (.int (a2 + 1))]) (st' := []) (m' := ((ev_up (ev_up m.1 (o0 + 1) a2.toNatClampNeg (m.1 (o1 + 1) a2.toNatClampNeg)) (o0 + 2) a2.toNatClampNeg ((ev_up m.1 (o0 + 1) a2.toNatClampNeg (m.1 (o1 + 1) a2.toNatClampNeg)) (o1 + 2) a2.toNatClampNeg)), m.2)) [(.iinc 2 1, 0, 0, 1, 0)] (by decide +kernel) rfl ?_
      refine Ev.gto (t := 34) (by decide +kernel) ?_
      exact ih _ _
set_option maxRecDepth 100000 in
set_option maxHeartbeats 4000000 in
theorem EX8_copy {l : Launch} {Ln : Nat} {xs : Nat → Int32} {d : Nat} (f : Nat) (o0 : Nat) (o1 : Nat) (m : ev_M) (h_o0 : isK 8 o0) (h_o1 : isK 8 o1) (hd : 0 ≤ d) : Mv ev_eV l Ln xs YX8_copy d Sx [.ref o0, .ref o1] m (FX8_copy f o0 o1 m) := by
  refine Mv.of (by decide +kernel) rfl (Nat.le_of_ble_eq_true rfl) (Ev.le (ls' := [some (.ref o0), some (.ref o1), none]) ⟨rfl, ⟨rfl, trivial⟩⟩ ?_)
  unfold FX8_copy
  refine Ev.run (pc' := 2) (ls' := [some (.ref o0), some (.ref o1), none]) (st' := [.ref o1, .ref o0]) (m' := m) [(.aload_n 0, 0, 0, 0, 0), (.aload_n 1, 0, 0, 0, 0)] (by decide +kernel) rfl ?_
  refine Ev.getS (v := .int (m.1 o1 2)) (ci := 8) (k := 2) (idx := 18) (by decide +kernel) (by decide +kernel) (k8_l0 h_o1) (by rw [(k8_s0 h_o1)]) (by rw [(k8_s0 h_o1)]; decide) rfl ?_
  refine Ev.putI (ci := 8) (k := 2) (idx := 18) (by decide +kernel) (by decide +kernel) (by decide +kernel) (k8_l0 h_o0) (by rw [(k8_s0 h_o0)]) (by rw [(k8_s0 h_o0)]; decide) rfl rfl ?_
  refine Ev.run (pc' := 10) (ls' := [some (.ref o0), some (.ref o1), none]) (st' := [.ref o1, .ref o0]) (m' := ((ev_up m.1 o0 2 (m.1 o1 2)), m.2)) [(.aload_n 0, 0, 0, 0, 0), (.aload_n 1, 0, 0, 0, 0)] (by decide +kernel) rfl ?_
  refine Ev.getS (v := .int ((ev_up m.1 o0 2 (m.1 o1 2)) o1 3)) (ci := 8) (k := 3) (idx := 22) (by decide +kernel) (by decide +kernel) (k8_l0 h_o1) (by rw [(k8_s0 h_o1)]) (by rw [(k8_s0 h_o1)]; decide) rfl ?_
  refine Ev.putI (ci := 8) (k := 3) (idx := 22) (by decide +kernel) (by decide +kernel) (by decide +kernel) (k8_l0 h_o0) (by rw [(k8_s0 h_o0)]) (by rw [(k8_s0 h_o0)]; decide) rfl rfl ?_
  refine Ev.run (pc' := 18) (ls' := [some (.ref o0), some (.ref o1), none]) (st' := [.ref o1, .ref o0]) (m' := ((ev_up (ev_up m.1 o0 2 (m.1 o1 2)) o0 3 ((ev_up m.1 o0 2 (m.1 o1 2)) o1 3)), m.2)) [(.aload_n 0, 0, 0, 0, 0), (.aload_n 1, 0, 0, 0, 0)] (by decide +kernel) rfl ?_
  refine Ev.getS (v := .int ((ev_up (ev_up m.1 o0 2 (m.1 o1 2)) o0 3 ((ev_up m.1 o0 2 (m.1 o1 2)) o1 3)) o1 4)) (ci := 8) (k := 4) (idx := 25) (by decide +kernel) (by decide +kernel) (k8_l0 h_o1) (by rw [(k8_s0 h_o1)]) (by rw [(k8_s0 h_o1)]; decide) rfl ?_
  refine Ev.putI (ci := 8) (k := 4) (idx := 25) (by decide +kernel) (by decide +kernel) (by decide +kernel) (k8_l0 h_o0) (by rw [(k8_s0 h_o0)]) (by rw [(k8_s0 h_o0)]; decide) rfl rfl ?_
  refine Ev.run (pc' := 26) (ls' := [some (.ref o0), some (.ref o1), none]) (st' := [.ref o1, .ref o0]) (m' := ((ev_up (ev_up (ev_up m.1 o0 2 (m.1 o1 2)) o0 3 ((ev_up m.1 o0 2 (m.1 o1 2)) o1 3)) o0 4 ((ev_up (ev_up m.1 o0 2 (m.1 o1 2)) o0 3 ((ev_up m.1 o0 2 (m.1 o1 2)) o1 3)) o1 4)), m.2)) [(.aload_n 0, 0, 0, 0, 0), (.aload_n 1, 0, 0, 0, 0)] (by decide +kernel) rfl ?_
  refine Ev.getS (v := .int ((ev_up (ev_up (ev_up m.1 o0 2 (m.1 o1 2)) o0 3 ((ev_up m.1 o0 2 (m.1 o1 2)) o1 3)) o0 4 ((ev_up (ev_up m.1 o0 2 (m.1 o1 2)) o0 3 ((ev_up m.1 o0 2 (m.1 o1 2)) o1 3)) o1 4)) o1 5)) (ci := 8) (k := 5) (idx := 28) (by decide +kernel) (by decide +kernel) (k8_l0 h_o1) (by rw [(k8_s0 h_o1)]) (by rw [(k8_s0 h_o1)]; decide) rfl ?_
  refine Ev.putI (ci := 8) (k := 5) (idx := 28) (by decide +kernel) (by decide +kernel) (by decide +kernel) (k8_l0 h_o0) (by rw [(k8_s0 h_o0)]) (by rw [(k8_s0 h_o0)]; decide) rfl rfl ?_
  refine Ev.run (pc' := 34) (ls' := [some (.ref o0), some (.ref o1), some (.int 0)]) (st' := []) (m' := ((ev_up (ev_up (ev_up (ev_up m.1 o0 2 (m.1 o1 2)) o0 3 ((ev_up m.1 o0 2 (m.1 o1 2)) o1 3)) o0 4 ((ev_up (ev_up m.1 o0 2 (m.1 o1 2)) o0 3 ((ev_up m.1 o0 2 (m.1 o1 2)) o1 3)) o1 4)) o0 5 ((ev_up (ev_up (ev_up m.1 o0 2 (m.1 o1 2)) o0 3 ((ev_up m.1 o0 2 (m.1 o1 2)) o1 3)) o0 4 ((ev_up (ev_up m.1 o0 2 (m.1 o1 2)) o0 3 ((ev_up m.1 o0 2 (m.1 o1 2)) o1 3)) o1 4)) o1 5)), m.2)) [(.iconst 0, 0, 0, 0, 0), (.istore_n 2, 0, 0, 0, 0)] (by decide +kernel) rfl ?_
  refine EX8_copy_L34 f _ o0 o1 h_o0 h_o1 ?_ (by omega) _ _ _
  intro m1
  exact Ev.retv rfl rfl (by decide +kernel)
def FX8_hasNext (f : Nat) (o0 : Nat) (m : ev_M) : Option (Int32 × ev_M) :=
  (if 999 ≤ (m.1 o0 2) then some (0, m) else some (1, m))
set_option maxRecDepth 100000 in
set_option maxHeartbeats 4000000 in
theorem EX8_hasNext {l : Launch} {Ln : Nat} {xs : Nat → Int32} {d : Nat} (f : Nat) (o0 : Nat) (m : ev_M) (h_o0 : isK 8 o0) (hd : 0 ≤ d) : Mv ev_eI l Ln xs YX8_hasNext d Sx [.ref o0] m (FX8_hasNext f o0 m) := by
  refine Mv.of (by decide +kernel) rfl (Nat.le_of_ble_eq_true rfl) (Ev.le (ls' := [some (.ref o0)]) ⟨rfl, trivial⟩ ?_)
  unfold FX8_hasNext
  refine Ev.run (pc' := 1) (ls' := [some (.ref o0)]) (st' := [.ref o0]) (m' := m) [(.aload_n 0, 0, 0, 0, 0)] (by decide +kernel) rfl ?_
  refine Ev.getS (v := .int (m.1 o0 2)) (ci := 8) (k := 2) (idx := 18) (by decide +kernel) (by decide +kernel) (k8_l0 h_o0) (by rw [(k8_s0 h_o0)]) (by rw [(k8_s0 h_o0)]; decide) rfl ?_
  refine Ev.run (pc' := 7) (ls' := [some (.ref o0)]) (st' := [.int 999, .int (m.1 o0 2)]) (m' := m) [(.sipush 999, 0, 0, 999, 0)] (by decide +kernel) rfl ?_
  refine Ev.ic_ge (t := 14) (by decide +kernel) ?_ ?_
  · refine Ev.run (pc' := 15) (ls' := [some (.ref o0)]) (st' := [.int 0]) (m' := m) [(.iconst 0, 0, 0, 0, 0)] (by decide +kernel) rfl ?_
    exact Ev.iretz rfl rfl (by decide +kernel) (by decide)
  · refine Ev.run (pc' := 11) (ls' := [some (.ref o0)]) (st' := [.int 1]) (m' := m) [(.iconst 1, 0, 0, 1, 0)] (by decide +kernel) rfl ?_
    refine Ev.gto (t := 15) (by decide +kernel) ?_
    exact Ev.iretz rfl rfl (by decide +kernel) (by decide)
def FX8_swap (f : Nat) (o0 : Nat) (a1 : Int32) (a2 : Int32) (m : ev_M) : Option (Unit × ev_M) :=
  (if ev_in a1 8 then (if ev_in a1 8 then (if ev_in a2 8 then (if ev_in a1 8 then (if ev_in a2 8 then (if ev_in a1 8 then (if ev_in a2 8 then (if ev_in a2 8 then some ((), ((ev_up (ev_up (ev_up (ev_up m.1 (o0 + 1) a1.toNatClampNeg (m.1 (o0 + 1) a2.toNatClampNeg)) (o0 + 2) a1.toNatClampNeg ((ev_up m.1 (o0 + 1) a1.toNatClampNeg (m.1 (o0 + 1) a2.toNatClampNeg)) (o0 + 2) a2.toNatClampNeg)) (o0 + 1) a2.toNatClampNeg (m.1 (o0 + 1) a1.toNatClampNeg)) (o0 + 2) a2.toNatClampNeg (m.1 (o0 + 2) a1.toNatClampNeg)), m.2)) else none) else none) else none) else none) else none) else none) else none) else none)
set_option maxRecDepth 100000 in
set_option maxHeartbeats 4000000 in
theorem EX8_swap {l : Launch} {Ln : Nat} {xs : Nat → Int32} {d : Nat} (f : Nat) (o0 : Nat) (a1 : Int32) (a2 : Int32) (m : ev_M) (h_o0 : isK 8 o0) (hd : 0 ≤ d) : Mv ev_eV l Ln xs YX8_swap d Sx [.ref o0, .int a1, .int a2] m (FX8_swap f o0 a1 a2 m) := by
  refine Mv.of (by decide +kernel) rfl (Nat.le_of_ble_eq_true rfl) (Ev.le (ls' := [some (.ref o0), some (.int a1), some (.int a2), none, none]) ⟨rfl, ⟨rfl, ⟨rfl, trivial⟩⟩⟩ ?_)
  unfold FX8_swap
  refine Ev.run (pc' := 1) (ls' := [some (.ref o0), some (.int a1), some (.int a2), none, none]) (st' := [.ref o0]) (m' := m) [(.aload_n 0, 0, 0, 0, 0)] (by decide +kernel) rfl ?_
  refine Ev.getS (v := .ref (o0 + 1)) (ci := 8) (k := 0) (idx := 9) (by decide +kernel) (by decide +kernel) (k8_l0 h_o0) (by rw [(k8_s0 h_o0)]) (by rw [(k8_s0 h_o0)]; decide) (by unfold ev_gv; rw [if_neg (by decide)]; show va_rf (Sx.2.2 o0 0) = _; rw [k8_r0 h_o0]; rfl) ?_
  refine Ev.run (pc' := 5) (ls' := [some (.ref o0), some (.int a1), some (.int a2), none, none]) (st' := [.int a1, .ref (o0 + 1)]) (m' := m) [(.iload_n 1, 0, 0, 0, 0)] (by decide +kernel) rfl ?_
  refine Ev.iald (n := 8) (by decide +kernel) (k8_l1 h_o0) (k8_s1 h_o0) ?_
  refine Ev.run (pc' := 8) (ls' := [some (.ref o0), some (.int a1), some (.int a2), some (.int (m.1 (o0 + 1) a1.toNatClampNeg)), none]) (st' := [.ref o0]) (m' := m) [(.istore_n 3, 0, 0, 0, 0), (.aload_n 0, 0, 0, 0, 0)] (by decide +kernel) rfl ?_
  refine Ev.getS (v := .ref (o0 + 2)) (ci := 8) (k := 1) (idx := 15) (by decide +kernel) (by decide +kernel) (k8_l0 h_o0) (by rw [(k8_s0 h_o0)]) (by rw [(k8_s0 h_o0)]; decide) (by unfold ev_gv; rw [if_neg (by decide)]; show va_rf (Sx.2.2 o0 1) = _; rw [k8_r1 h_o0]; rfl) ?_
  refine Ev.run (pc' := 12) (ls' := [some (.ref o0), some (.int a1), some (.int a2), some (.int (m.1 (o0 + 1) a1.toNatClampNeg)), none]) (st' := [.int a1, .ref (o0 + 2)]) (m' := m) [(.iload_n 1, 0, 0, 0, 0)] (by decide +kernel) rfl ?_
  refine Ev.iald (n := 8) (by decide +kernel) (k8_l2 h_o0) (k8_s2 h_o0) ?_
  refine Ev.run (pc' := 16) (ls' := [some (.ref o0), some (.int a1), some (.int a2), some (.int (m.1 (o0 + 1) a1.toNatClampNeg)), some (.int (m.1 (o0 + 2) a1.toNatClampNeg))]) (st' := [.ref o0]) (m' := m) [(.istore 4, 0, 0, 0, 0), (.aload_n 0, 0, 0, 0, 0)] (by decide +kernel) rfl ?_
  refine Ev.getS (v := .ref (o0 + 1)) (ci := 8) (k := 0) (idx := 9) (by decide +kernel) (by decide +kernel) (k8_l0 h_o0) (by rw [(k8_s0 h_o0)]) (by rw [(k8_s0 h_o0)]; decide) (by unfold ev_gv; rw [if_neg (by decide)]; show va_rf (Sx.2.2 o0 0) = _; rw [k8_r0 h_o0]; rfl) ?_
  refine Ev.run (pc' := 21) (ls' := [some (.ref o0), some (.int a1), some (.int a2), some (.int (m.1 (o0 + 1) a1.toNatClampNeg)), some (.int (m.1 (o0 + 2) a1.toNatClampNeg))]) (st' := [.ref o0, .int a1, .ref (o0 + 1)]) (m' := m) [(.iload_n 1, 0, 0, 0, 0), (.aload_n 0, 0, 0, 0, 0)] (by decide +kernel) rfl ?_
  refine Ev.getS (v := .ref (o0 + 1)) (ci := 8) (k := 0) (idx := 9) (by decide +kernel) (by decide +kernel) (k8_l0 h_o0) (by rw [(k8_s0 h_o0)]) (by rw [(k8_s0 h_o0)]; decide) (by unfold ev_gv; rw [if_neg (by decide)]; show va_rf (Sx.2.2 o0 0) = _; rw [k8_r0 h_o0]; rfl) ?_
  refine Ev.run (pc' := 25) (ls' := [some (.ref o0), some (.int a1), some (.int a2), some (.int (m.1 (o0 + 1) a1.toNatClampNeg)), some (.int (m.1 (o0 + 2) a1.toNatClampNeg))]) (st' := [.int a2, .ref (o0 + 1), .int a1, .ref (o0 + 1)]) (m' := m) [(.iload_n 2, 0, 0, 0, 0)] (by decide +kernel) rfl ?_
  refine Ev.iald (n := 8) (by decide +kernel) (k8_l1 h_o0) (k8_s1 h_o0) ?_
  refine Ev.iast (n := 8) (by decide +kernel) (k8_l1 h_o0) (k8_s1 h_o0) ?_
  refine Ev.run (pc' := 28) (ls' := [some (.ref o0), some (.int a1), some (.int a2), some (.int (m.1 (o0 + 1) a1.toNatClampNeg)), some (.int (m.1 (o0 + 2) a1.toNatClampNeg))]) (st' := [.ref o0]) (m' := ((ev_up m.1 (o0 + 1) a1.toNatClampNeg (m.1 (o0 + 1) a2.toNatClampNeg)), m.2)) [(.aload_n 0, 0, 0, 0, 0)] (by decide +kernel) rfl ?_
  refine Ev.getS (v := .ref (o0 + 2)) (ci := 8) (k := 1) (idx := 15) (by decide +kernel) (by decide +kernel) (k8_l0 h_o0) (by rw [(k8_s0 h_o0)]) (by rw [(k8_s0 h_o0)]; decide) (by unfold ev_gv; rw [if_neg (by decide)]; show va_rf (Sx.2.2 o0 1) = _; rw [k8_r1 h_o0]; rfl) ?_
  refine Ev.run (pc' := 33) (ls' := [some (.ref o0), some (.int a1), some (.int a2), some (.int (m.1 (o0 + 1) a1.toNatClampNeg)), some (.int (m.1 (o0 + 2) a1.toNatClampNeg))]) (st' := [.ref o0, .int a1, .ref (o0 + 2)]) (m' := ((ev_up m.1 (o0 + 1) a1.toNatClampNeg (m.1 (o0 + 1) a2.toNatClampNeg)), m.2)) [(.iload_n 1, 0, 0, 0, 0), (.aload_n 0, 0, 0, 0, 0)] (by decide +kernel) rfl ?_
  refine Ev.getS (v := .ref (o0 + 2)) (ci := 8) (k := 1) (idx := 15) (by decide +kernel) (by decide +kernel) (k8_l0 h_o0) (by rw [(k8_s0 h_o0)]) (by rw [(k8_s0 h_o0)]; decide) (by unfold ev_gv; rw [if_neg (by decide)]; show va_rf (Sx.2.2 o0 1) = _; rw [k8_r1 h_o0]; rfl) ?_
  refine Ev.run (pc' := 37) (ls' := [some (.ref o0), some (.int a1), some (.int a2), some (.int (m.1 (o0 + 1) a1.toNatClampNeg)), some (.int (m.1 (o0 + 2) a1.toNatClampNeg))]) (st' := [.int a2, .ref (o0 + 2), .int a1, .ref (o0 + 2)]) (m' := ((ev_up m.1 (o0 + 1) a1.toNatClampNeg (m.1 (o0 + 1) a2.toNatClampNeg)), m.2)) [(.iload_n 2, 0, 0, 0, 0)] (by decide +kernel) rfl ?_
  refine Ev.iald (n := 8) (by decide +kernel) (k8_l2 h_o0) (k8_s2 h_o0) ?_
  refine Ev.iast (n := 8) (by decide +kernel) (k8_l2 h_o0) (k8_s2 h_o0) ?_
  refine Ev.run (pc' := 40) (ls' := [some (.ref o0), some (.int a1), some (.int a2), some (.int (m.1 (o0 + 1) a1.toNatClampNeg)), some (.int (m.1 (o0 + 2) a1.toNatClampNeg))]) (st' := [.ref o0]) (m' := ((ev_up (ev_up m.1 (o0 + 1) a1.toNatClampNeg (m.1 (o0 + 1) a2.toNatClampNeg)) (o0 + 2) a1.toNatClampNeg ((ev_up m.1 (o0 + 1) a1.toNatClampNeg (m.1 (o0 + 1) a2.toNatClampNeg)) (o0 + 2) a2.toNatClampNeg)), m.2)) [(.aload_n 0, 0, 0, 0, 0)] (by decide +kernel) rfl ?_
  refine Ev.getS (v := .ref (o0 + 1)) (ci := 8) (k := 0) (idx := 9) (by decide +kernel) (by decide +kernel) (k8_l0 h_o0) (by rw [(k8_s0 h_o0)]) (by rw [(k8_s0 h_o0)]; decide) (by unfold ev_gv; rw [if_neg (by decide)]; show va_rf (Sx.2.2 o0 0) = _; rw [k8_r0 h_o0]; rfl) ?_
  refine Ev.run (pc' := 45) (ls' := [some (.ref o0), some (.int a1), some (.int a2), some (.int (m.1 (o0 + 1) a1.toNatClampNeg)), some (.int (m.1 (o0 + 2) a1.toNatClampNeg))]) (st' := [.int (m.1 (o0 + 1) a1.toNatClampNeg), .int a2, .ref (o0 + 1)]) (m' := ((ev_up (ev_up m.1 (o0 + 1) a1.toNatClampNeg (m.1 (o0 + 1) a2.toNatClampNeg)) (o0 + 2) a1.toNatClampNeg ((ev_up m.1 (o0 + 1) a1.toNatClampNeg (m.1 (o0 + 1) a2.toNatClampNeg)) (o0 + 2) a2.toNatClampNeg)), m.2)) [(.iload_n 2, 0, 0, 0, 0), (.iload_n 3, 0, 0, 0, 0)] (by decide +kernel) rfl ?_
  refine Ev.iast (n := 8) (by decide +kernel) (k8_l1 h_o0) (k8_s1 h_o0) ?_
  refine Ev.run (pc' := 47) (ls' := [some (.ref o0), some (.int a1), some (.int a2), some (.int (m.1 (o0 + 1) a1.toNatClampNeg)), some (.int (m.1 (o0 + 2) a1.toNatClampNeg))]) (st' := [.ref o0]) (m' := ((ev_up (ev_up (ev_up m.1 (o0 + 1) a1.toNatClampNeg (m.1 (o0 + 1) a2.toNatClampNeg)) (o0 + 2) a1.toNatClampNeg ((ev_up m.1 (o0 + 1) a1.toNatClampNeg (m.1 (o0 + 1) a2.toNatClampNeg)) (o0 + 2) a2.toNatClampNeg)) (o0 + 1) a2.toNatClampNeg (m.1 (o0 + 1) a1.toNatClampNeg)), m.2)) [(.aload_n 0, 0, 0, 0, 0)] (by decide +kernel) rfl ?_
  refine Ev.getS (v := .ref (o0 + 2)) (ci := 8) (k := 1) (idx := 15) (by decide +kernel) (by decide +kernel) (k8_l0 h_o0) (by rw [(k8_s0 h_o0)]) (by rw [(k8_s0 h_o0)]; decide) (by unfold ev_gv; rw [if_neg (by decide)]; show va_rf (Sx.2.2 o0 1) = _; rw [k8_r1 h_o0]; rfl) ?_
  refine Ev.run (pc' := 53) (ls' := [some (.ref o0), some (.int a1), some (.int a2), some (.int (m.1 (o0 + 1) a1.toNatClampNeg)), some (.int (m.1 (o0 + 2) a1.toNatClampNeg))]) (st' := [.int (m.1 (o0 + 2) a1.toNatClampNeg), .int a2, .ref (o0 + 2)]) (m' := ((ev_up (ev_up (ev_up m.1 (o0 + 1) a1.toNatClampNeg (m.1 (o0 + 1) a2.toNatClampNeg)) (o0 + 2) a1.toNatClampNeg ((ev_up m.1 (o0 + 1) a1.toNatClampNeg (m.1 (o0 + 1) a2.toNatClampNeg)) (o0 + 2) a2.toNatClampNeg)) (o0 + 1) a2.toNatClampNeg (m.1 (o0 + 1) a1.toNatClampNeg)), m.2)) [(.iload_n 2, 0, 0, 0, 0), (.iload 4, 0, 0, 0, 0)] (by decide +kernel) rfl ?_
  refine Ev.iast (n := 8) (by decide +kernel) (k8_l2 h_o0) (k8_s2 h_o0) ?_
  exact Ev.retv rfl rfl (by decide +kernel)
def FX8_feature_L9 (f : Nat) (k : Int64 → ev_M → Option (Int64 × ev_M)) (o0 : Nat) (a1 : Int32) : Nat → Int64 → Int32 → ev_M → Option (Int64 × ev_M)
  | 0, _, _, _ => none
  | n + 1, a2, a4, m => (if a1 ≤ a4 then (k a2 m) else (if 8 ≤ a4 then (k a2 m) else (if ev_in a4 8 then (FX8_feature_L9 f k o0 a1 n ((a2 * 10) + ((m.1 (o0 + 1) a4.toNatClampNeg) : Int32).toInt64) (a4 + 1) m) else none)))
def FX8_feature (f : Nat) (o0 : Nat) (a1 : Int32) (m : ev_M) : Option (Int64 × ev_M) :=
  (FX8_feature_L9 f (fun e1 m2 => some (e1, m2)) o0 a1 f ((m.1 o0 3) : Int32).toInt64 (0 : Int32) m)
set_option maxRecDepth 100000 in
set_option maxHeartbeats 4000000 in
theorem EX8_feature_L9 {l : Launch} {Ln : Nat} {xs : Nat → Int32} {d : Nat} (f : Nat) (k : Int64 → ev_M → Option (Int64 × ev_M)) (o0 : Nat) (a1 : Int32) (h_o0 : isK 8 o0)  (hk : ∀ (e2 : Int64) (em : ev_M), Ev ev_eL l Ln xs YX8_feature d Sx 43 [none, none, some (.long e2), none, none] [] em (k e2 em)) (hd : 0 ≤ d) : ∀ (n : Nat) (a2 : Int64) (a4 : Int32) (m : ev_M), Ev ev_eL l Ln xs YX8_feature d Sx 9 [some (.ref o0), some (.int a1), some (.long a2), none, some (.int a4)] [] m (FX8_feature_L9 f k o0 a1 n a2 a4 m) := by
  intro n
  induction n with
  | zero => intros; exact Ev.nn
  | succ n ih =>
    intro a2 a4 m
    rw [FX8_feature_L9]
    refine Ev.run (pc' := 12) (ls' := [some (.ref o0), some (.int a1), some (.long a2), none, some (.int a4)]) (st' := [.int a1, .int a4]) (m' := m) [(.iload 4, 0, 0, 0, 0), (.iload_n 1, 0, 0, 0, 0)] (by decide +kernel) rfl ?_
    refine Ev.ic_ge (t := 43) (by decide +kernel) ?_ ?_
    · refine Ev.le (ls' := [none, none, some (.long a2), none, none]) ⟨rfl, trivial⟩ ?_
      exact hk _ _
    · refine Ev.run (pc' := 19) (ls' := [some (.ref o0), some (.int a1), some (.long a2), none, some (.int a4)]) (st' := [.int 8, .int a4]) (m' := m) [(.iload 4, 0, 0, 0, 0), (.bipush 8, 0, 0, 8, 0)] (by decide +kernel) rfl ?_
      refine Ev.ic_ge (t := 43) (by decide +kernel) ?_ ?_
      · refine Ev.le (ls' := [none, none, some (.long a2), none, none]) ⟨rfl, trivial⟩ ?_
        exact hk _ _
      · refine Ev.run (pc' := 28) (ls' := [some (.ref o0), some (.int a1), some (.long a2), none, some (.int a4)]) (st' := [.ref o0, .long (a2 * 10)]) (m' := m) [(.lload_n 2, 0, 0, 0, 0), (.ldc2_w 39, 0, 0, 0, 10), (.lmul, 0, 0, 0, 0), (.aload_n 0, 0, 0, 0, 0)] (by decide +kernel) rfl ?_
        refine Ev.getS (v := .ref (o0 + 1)) (ci := 8) (k := 0) (idx := 9) (by decide +kernel) (by decide +kernel) (k8_l0 h_o0) (by rw [(k8_s0 h_o0)]) (by rw [(k8_s0 h_o0)]; decide) (by unfold ev_gv; rw [if_neg (by decide)]; show va_rf (Sx.2.2 o0 0) = _; rw [k8_r0 h_o0]; rfl) ?_
        refine Ev.run (pc' := 33) (ls' := [some (.ref o0), some (.int a1), some (.long a2), none, some (.int a4)]) (st' := [.int a4, .ref (o0 + 1), .long (a2 * 10)]) (m' := m) [(.iload 4, 0, 0, 0, 0)] (by decide +kernel) rfl ?_
        refine Ev.iald (n := 8) (by decide +kernel) (k8_l1 h_o0) (k8_s1 h_o0) ?_
        refine Ev.run (pc' := 40) (ls' := [some (.ref o0), some (.int a1), some (.long ((a2 * 10) + ((m.1 (o0 + 1) a4.toNatClampNeg) : Int32).toInt64)), none, some (.int (a4 + 1))]) (st' := []) (m' := m) [(.i2l, 0, 0, 0, 0), (.ladd, 0, 0, 0, 0), (.lstore_n 2, 0, 0, 0, 0), (.iinc 4 1, 0, 0, 1, 0)] (by decide +kernel) rfl ?_
        refine Ev.gto (t := 9) (by decide +kernel) ?_
        exact ih _ _ _
set_option maxRecDepth 100000 in
set_option maxHeartbeats 4000000 in
theorem EX8_feature {l : Launch} {Ln : Nat} {xs : Nat → Int32} {d : Nat} (f : Nat) (o0 : Nat) (a1 : Int32) (m : ev_M) (h_o0 : isK 8 o0) (hd : 0 ≤ d) : Mv ev_eL l Ln xs YX8_feature d Sx [.ref o0, .int a1] m (FX8_feature f o0 a1 m) := by
  refine Mv.of (by decide +kernel) rfl (Nat.le_of_ble_eq_true rfl) (Ev.le (ls' := [some (.ref o0), some (.int a1), none, none, none]) ⟨rfl, ⟨rfl, trivial⟩⟩ ?_)
  unfold FX8_feature
  refine Ev.run (pc' := 1) (ls' := [some (.ref o0), some (.int a1), none, none, none]) (st' := [.ref o0]) (m' := m) [(.aload_n 0, 0, 0, 0, 0)] (by decide +kernel) rfl ?_
  refine Ev.getS (v := .int (m.1 o0 3)) (ci := 8) (k := 3) (idx := 22) (by decide +kernel) (by decide +kernel) (k8_l0 h_o0) (by rw [(k8_s0 h_o0)]) (by rw [(k8_s0 h_o0)]; decide) rfl ?_
  refine Ev.run (pc' := 9) (ls' := [some (.ref o0), some (.int a1), some (.long ((m.1 o0 3) : Int32).toInt64), none, some (.int 0)]) (st' := []) (m' := m) [(.i2l, 0, 0, 0, 0), (.lstore_n 2, 0, 0, 0, 0), (.iconst 0, 0, 0, 0, 0), (.istore 4, 0, 0, 0, 0)] (by decide +kernel) rfl ?_
  refine EX8_feature_L9 f _ o0 a1 h_o0 ?_ (by omega) _ _ _ _
  intro e1 m2
  refine Ev.run (pc' := 44) (ls' := [none, none, some (.long e1), none, none]) (st' := [.long e1]) (m' := m2) [(.lload_n 2, 0, 0, 0, 0)] (by decide +kernel) rfl ?_
  exact Ev.retl rfl rfl (by decide +kernel)
def FX9_begin (f : Nat) (o1 : Nat) (a2 : Int32) (m : ev_M) : Option (Unit × ev_M) :=
  some ((), ((ev_up (ev_up (ev_up (ev_up m.1 15 1 (Int32.ofNat o1)) 15 2 a2) 15 3 0) 15 4 0), m.2))
set_option maxRecDepth 100000 in
set_option maxHeartbeats 4000000 in
theorem EX9_begin {l : Launch} {Ln : Nat} {xs : Nat → Int32} {d : Nat} (f : Nat) (o1 : Nat) (a2 : Int32) (m : ev_M) (h_o1 : isK 2 o1) (hd : 0 ≤ d) : Mv ev_eV l Ln xs YX9_begin d Sx [.ref 15, .ref o1, .int a2] m (FX9_begin f o1 a2 m) := by
  refine Mv.of (by decide +kernel) rfl (Nat.le_of_ble_eq_true rfl) (Ev.le (ls' := [some (.ref 15), some (.ref o1), some (.int a2)]) ⟨rfl, ⟨rfl, ⟨rfl, trivial⟩⟩⟩ ?_)
  unfold FX9_begin
  refine Ev.run (pc' := 2) (ls' := [some (.ref 15), some (.ref o1), some (.int a2)]) (st' := [.ref o1, .ref 15]) (m' := m) [(.aload_n 0, 0, 0, 0, 0), (.aload_n 1, 0, 0, 0, 0)] (by decide +kernel) rfl ?_
  refine Ev.putD (ci := 9) (k := 1) (idx := 9) (by decide +kernel) (by decide +kernel) (by decide +kernel) (by decide) (by rw [show Sx.2.1 15 = (9, 5) from rfl]) (by rw [show Sx.2.1 15 = (9, 5) from rfl]; decide) rfl (k2_z0 h_o1) (k2_z1 h_o1) ?_
  refine Ev.run (pc' := 20) (ls' := [some (.ref 15), some (.ref o1), some (.int a2)]) (st' := []) (m' := ((ev_up (ev_up (ev_up (ev_up m.1 15 1 (Int32.ofNat o1)) 15 2 a2) 15 3 0) 15 4 0), m.2)) [(.aload_n 0, 0, 0, 0, 0), (.iload_n 2, 0, 0, 0, 0), (.putfield 15, 9, 2, 0, 0), (.aload_n 0, 0, 0, 0, 0), (.iconst 0, 0, 0, 0, 0), (.putfield 19, 9, 3, 0, 0), (.aload_n 0, 0, 0, 0, 0), (.iconst 0, 0, 0, 0, 0), (.putfield 22, 9, 4, 0, 0)] (by decide +kernel) rfl ?_
  exact Ev.retv rfl rfl (by decide +kernel)
def FX9_closes (f : Nat)  (m : ev_M) : Option (Unit × ev_M) :=
  some ((), ((ev_up m.1 15 3 ((m.1 15 3) - 1)), m.2))
set_option maxRecDepth 100000 in
set_option maxHeartbeats 4000000 in
theorem EX9_closes {l : Launch} {Ln : Nat} {xs : Nat → Int32} {d : Nat} (f : Nat)  (m : ev_M)  (hd : 0 ≤ d) : Mv ev_eV l Ln xs YX9_closes d Sx [.ref 15] m (FX9_closes f  m) := by
  refine Mv.of (by decide +kernel) rfl (Nat.le_of_ble_eq_true rfl) (Ev.le (ls' := [some (.ref 15)]) ⟨rfl, trivial⟩ ?_)
  unfold FX9_closes
  refine Ev.run (pc' := 10) (ls' := [some (.ref 15)]) (st' := []) (m' := ((ev_up m.1 15 3 ((m.1 15 3) - 1)), m.2)) [(.aload_n 0, 0, 0, 0, 0), (.dup, 0, 0, 0, 0), (.getfield 19, 9, 3, 0, 0), (.iconst 1, 0, 0, 1, 0), (.isub, 0, 0, 0, 0), (.putfield 19, 9, 3, 0, 0)] (by decide +kernel) rfl ?_
  exact Ev.retv rfl rfl (by decide +kernel)
def FX9_put (f : Nat) (a1 : Int32) (m : ev_M) : Option (Unit × ev_M) :=
  (if (m.1 15 1) = 0 then some ((), m) else (if isK 2 ((m.1 15 1)).toNatClampNeg then (ev_bd (FX2_add f ((m.1 15 1)).toNatClampNeg a1 m) (fun _ m3 => some ((), m3))) else none))
set_option maxRecDepth 100000 in
set_option maxHeartbeats 4000000 in
theorem EX9_put {l : Launch} {Ln : Nat} {xs : Nat → Int32} {d : Nat} (f : Nat) (a1 : Int32) (m : ev_M)  (hd : 1 ≤ d) : Mv ev_eV l Ln xs YX9_put d Sx [.ref 15, .int a1] m (FX9_put f a1 m) := by
  refine Mv.of (by decide +kernel) rfl (Nat.le_of_ble_eq_true rfl) (Ev.le (ls' := [some (.ref 15), some (.int a1)]) ⟨rfl, ⟨rfl, trivial⟩⟩ ?_)
  unfold FX9_put
  refine Ev.run (pc' := 1) (ls' := [some (.ref 15), some (.int a1)]) (st' := [.ref 15]) (m' := m) [(.aload_n 0, 0, 0, 0, 0)] (by decide +kernel) rfl ?_
  refine Ev.getN (ci := 9) (k := 1) (idx := 9) (t := 15) (by decide +kernel) (by decide +kernel) (by decide) (by rw [show Sx.2.1 15 = (9, 5) from rfl]) (by rw [show Sx.2.1 15 = (9, 5) from rfl]; decide) rfl (by decide +kernel) ?_ ?_
  · exact Ev.retv rfl rfl (by decide +kernel)
  · refine Ev.run (pc' := 8) (ls' := [some (.ref 15), some (.int a1)]) (st' := [.ref 15]) (m' := m) [(.aload_n 0, 0, 0, 0, 0)] (by decide +kernel) rfl ?_
    refine Ev.ite (fun h1 => ?_) (fun _ => Ev.nn)
    refine Ev.getS (v := .ref ((m.1 15 1)).toNatClampNeg) (ci := 9) (k := 1) (idx := 9) (by decide +kernel) (by decide +kernel) (by decide) (by rw [show Sx.2.1 15 = (9, 5) from rfl]) (by rw [show Sx.2.1 15 = (9, 5) from rfl]; decide) (ev_gv_dyn1 rfl (Nat.pos_iff_ne_zero.mp (k2_z0 h1))) ?_
    refine Ev.run (pc' := 12) (ls' := [some (.ref 15), some (.int a1)]) (st' := [.int a1, .ref ((m.1 15 1)).toNatClampNeg]) (m' := m) [(.iload_n 1, 0, 0, 0, 0)] (by decide +kernel) rfl ?_
    refine Ev.cV (av := [.int a1]) (st := []) (a := ((m.1 15 1)).toNatClampNeg) (EX2_add (l := l) (Ln := Ln) (xs := xs) (d := 0) f ((m.1 15 1)).toNatClampNeg a1 m h1 (by decide)) rfl (by decide +kernel) mwX2_add iwX2_add vwX2_add lk_9_41 (by omega) (k2_l0 h1) (by rw [(k2_s0 h1)]) (by decide) rfl rfl (Nat.le_of_ble_eq_true rfl) (fun r2 m3 => ?_)
    exact Ev.retv rfl rfl (by decide +kernel)
def FX9_isValue (f : Nat) (a1 : Int32) (m : ev_M) : Option (Int32 × ev_M) :=
  (if a1 = 2 then some (1, m) else (if a1 = 3 then some (1, m) else (if a1 = 4 then (if (m.1 15 2) = 2 then some (1, m) else some (0, m)) else (if a1 = 10 then (if (m.1 15 2) = 2 then some (0, m) else some (1, m)) else (if a1 = 11 then some (1, m) else (if a1 = 12 then (if (m.1 15 2) = 2 then some (0, m) else some (1, m)) else (if a1 = 13 then (if (m.1 15 2) = 0 then some (1, m) else some (0, m)) else (if a1 = 14 then (if (m.1 15 2) = 0 then some (0, m) else some (1, m)) else (if a1 = 15 then (if (m.1 15 2) = 2 then some (1, m) else some (0, m)) else (if a1 = 16 then (if (m.1 15 2) = 2 then some (1, m) else some (0, m)) else some (0, m)))))))))))
set_option maxRecDepth 100000 in
set_option maxHeartbeats 4000000 in
theorem EX9_isValue {l : Launch} {Ln : Nat} {xs : Nat → Int32} {d : Nat} (f : Nat) (a1 : Int32) (m : ev_M)  (hd : 0 ≤ d) : Mv ev_eI l Ln xs YX9_isValue d Sx [.ref 15, .int a1] m (FX9_isValue f a1 m) := by
  refine Mv.of (by decide +kernel) rfl (Nat.le_of_ble_eq_true rfl) (Ev.le (ls' := [some (.ref 15), some (.int a1)]) ⟨rfl, ⟨rfl, trivial⟩⟩ ?_)
  unfold FX9_isValue
  refine Ev.run (pc' := 1) (ls' := [some (.ref 15), some (.int a1)]) (st' := [.int a1]) (m' := m) [(.iload_n 1, 0, 0, 0, 0)] (by decide +kernel) rfl ?_
  refine Ev.sw1 2 (t := 76) (by decide +kernel) (by decide) ?_ (fun z1 => ?_)
  · refine Ev.run (pc' := 77) (ls' := [some (.ref 15), some (.int a1)]) (st' := [.int 1]) (m' := m) [(.iconst 1, 0, 0, 1, 0)] (by decide +kernel) rfl ?_
    exact Ev.iretz rfl rfl (by decide +kernel) (by decide)
  refine Ev.sw1 3 (t := 76) (by decide +kernel) (by decide) ?_ (fun z2 => ?_)
  · refine Ev.run (pc' := 77) (ls' := [some (.ref 15), some (.int a1)]) (st' := [.int 1]) (m' := m) [(.iconst 1, 0, 0, 1, 0)] (by decide +kernel) rfl ?_
    exact Ev.iretz rfl rfl (by decide +kernel) (by decide)
  refine Ev.sw1 4 (t := 118) (by decide +kernel) (by decide) ?_ (fun z3 => ?_)
  · refine Ev.run (pc' := 123) (ls' := [some (.ref 15), some (.int a1)]) (st' := [.int 2, .int (m.1 15 2)]) (m' := m) [(.aload_n 0, 0, 0, 0, 0), (.getfield 15, 9, 2, 0, 0), (.iconst 2, 0, 0, 2, 0)] (by decide +kernel) rfl ?_
    refine Ev.ic_ne (t := 130) (by decide +kernel) ?_ ?_
    · refine Ev.run (pc' := 131) (ls' := [some (.ref 15), some (.int a1)]) (st' := [.int 0]) (m' := m) [(.iconst 0, 0, 0, 0, 0)] (by decide +kernel) rfl ?_
      exact Ev.iretz rfl rfl (by decide +kernel) (by decide)
    · refine Ev.run (pc' := 127) (ls' := [some (.ref 15), some (.int a1)]) (st' := [.int 1]) (m' := m) [(.iconst 1, 0, 0, 1, 0)] (by decide +kernel) rfl ?_
      refine Ev.gto (t := 131) (by decide +kernel) ?_
      exact Ev.iretz rfl rfl (by decide +kernel) (by decide)
  refine Ev.sw1 10 (t := 78) (by decide +kernel) (by decide) ?_ (fun z4 => ?_)
  · refine Ev.run (pc' := 83) (ls' := [some (.ref 15), some (.int a1)]) (st' := [.int 2, .int (m.1 15 2)]) (m' := m) [(.aload_n 0, 0, 0, 0, 0), (.getfield 15, 9, 2, 0, 0), (.iconst 2, 0, 0, 2, 0)] (by decide +kernel) rfl ?_
    refine Ev.ic_eq (t := 90) (by decide +kernel) ?_ ?_
    · refine Ev.run (pc' := 91) (ls' := [some (.ref 15), some (.int a1)]) (st' := [.int 0]) (m' := m) [(.iconst 0, 0, 0, 0, 0)] (by decide +kernel) rfl ?_
      exact Ev.iretz rfl rfl (by decide +kernel) (by decide)
    · refine Ev.run (pc' := 87) (ls' := [some (.ref 15), some (.int a1)]) (st' := [.int 1]) (m' := m) [(.iconst 1, 0, 0, 1, 0)] (by decide +kernel) rfl ?_
      refine Ev.gto (t := 91) (by decide +kernel) ?_
      exact Ev.iretz rfl rfl (by decide +kernel) (by decide)
  refine Ev.sw1 11 (t := 76) (by decide +kernel) (by decide) ?_ (fun z5 => ?_)
  · refine Ev.run (pc' := 77) (ls' := [some (.ref 15), some (.int a1)]) (st' := [.int 1]) (m' := m) [(.iconst 1, 0, 0, 1, 0)] (by decide +kernel) rfl ?_
    exact Ev.iretz rfl rfl (by decide +kernel) (by decide)
  refine Ev.sw1 12 (t := 78) (by decide +kernel) (by decide) ?_ (fun z6 => ?_)
  · refine Ev.run (pc' := 83) (ls' := [some (.ref 15), some (.int a1)]) (st' := [.int 2, .int (m.1 15 2)]) (m' := m) [(.aload_n 0, 0, 0, 0, 0), (.getfield 15, 9, 2, 0, 0), (.iconst 2, 0, 0, 2, 0)] (by decide +kernel) rfl ?_
    refine Ev.ic_eq (t := 90) (by decide +kernel) ?_ ?_
    · refine Ev.run (pc' := 91) (ls' := [some (.ref 15), some (.int a1)]) (st' := [.int 0]) (m' := m) [(.iconst 0, 0, 0, 0, 0)] (by decide +kernel) rfl ?_
      exact Ev.iretz rfl rfl (by decide +kernel) (by decide)
    · refine Ev.run (pc' := 87) (ls' := [some (.ref 15), some (.int a1)]) (st' := [.int 1]) (m' := m) [(.iconst 1, 0, 0, 1, 0)] (by decide +kernel) rfl ?_
      refine Ev.gto (t := 91) (by decide +kernel) ?_
      exact Ev.iretz rfl rfl (by decide +kernel) (by decide)
  refine Ev.sw1 13 (t := 92) (by decide +kernel) (by decide) ?_ (fun z7 => ?_)
  · refine Ev.run (pc' := 96) (ls' := [some (.ref 15), some (.int a1)]) (st' := [.int (m.1 15 2)]) (m' := m) [(.aload_n 0, 0, 0, 0, 0), (.getfield 15, 9, 2, 0, 0)] (by decide +kernel) rfl ?_
    refine Ev.if_ne (t := 103) (by decide +kernel) ?_ ?_
    · refine Ev.run (pc' := 104) (ls' := [some (.ref 15), some (.int a1)]) (st' := [.int 0]) (m' := m) [(.iconst 0, 0, 0, 0, 0)] (by decide +kernel) rfl ?_
      exact Ev.iretz rfl rfl (by decide +kernel) (by decide)
    · refine Ev.run (pc' := 100) (ls' := [some (.ref 15), some (.int a1)]) (st' := [.int 1]) (m' := m) [(.iconst 1, 0, 0, 1, 0)] (by decide +kernel) rfl ?_
      refine Ev.gto (t := 104) (by decide +kernel) ?_
      exact Ev.iretz rfl rfl (by decide +kernel) (by decide)
  refine Ev.sw1 14 (t := 105) (by decide +kernel) (by decide) ?_ (fun z8 => ?_)
  · refine Ev.run (pc' := 109) (ls' := [some (.ref 15), some (.int a1)]) (st' := [.int (m.1 15 2)]) (m' := m) [(.aload_n 0, 0, 0, 0, 0), (.getfield 15, 9, 2, 0, 0)] (by decide +kernel) rfl ?_
    refine Ev.if_eq (t := 116) (by decide +kernel) ?_ ?_
    · refine Ev.run (pc' := 117) (ls' := [some (.ref 15), some (.int a1)]) (st' := [.int 0]) (m' := m) [(.iconst 0, 0, 0, 0, 0)] (by decide +kernel) rfl ?_
      exact Ev.iretz rfl rfl (by decide +kernel) (by decide)
    · refine Ev.run (pc' := 113) (ls' := [some (.ref 15), some (.int a1)]) (st' := [.int 1]) (m' := m) [(.iconst 1, 0, 0, 1, 0)] (by decide +kernel) rfl ?_
      refine Ev.gto (t := 117) (by decide +kernel) ?_
      exact Ev.iretz rfl rfl (by decide +kernel) (by decide)
  refine Ev.sw1 15 (t := 118) (by decide +kernel) (by decide) ?_ (fun z9 => ?_)
  · refine Ev.run (pc' := 123) (ls' := [some (.ref 15), some (.int a1)]) (st' := [.int 2, .int (m.1 15 2)]) (m' := m) [(.aload_n 0, 0, 0, 0, 0), (.getfield 15, 9, 2, 0, 0), (.iconst 2, 0, 0, 2, 0)] (by decide +kernel) rfl ?_
    refine Ev.ic_ne (t := 130) (by decide +kernel) ?_ ?_
    · refine Ev.run (pc' := 131) (ls' := [some (.ref 15), some (.int a1)]) (st' := [.int 0]) (m' := m) [(.iconst 0, 0, 0, 0, 0)] (by decide +kernel) rfl ?_
      exact Ev.iretz rfl rfl (by decide +kernel) (by decide)
    · refine Ev.run (pc' := 127) (ls' := [some (.ref 15), some (.int a1)]) (st' := [.int 1]) (m' := m) [(.iconst 1, 0, 0, 1, 0)] (by decide +kernel) rfl ?_
      refine Ev.gto (t := 131) (by decide +kernel) ?_
      exact Ev.iretz rfl rfl (by decide +kernel) (by decide)
  refine Ev.sw1 16 (t := 118) (by decide +kernel) (by decide) ?_ (fun z10 => ?_)
  · refine Ev.run (pc' := 123) (ls' := [some (.ref 15), some (.int a1)]) (st' := [.int 2, .int (m.1 15 2)]) (m' := m) [(.aload_n 0, 0, 0, 0, 0), (.getfield 15, 9, 2, 0, 0), (.iconst 2, 0, 0, 2, 0)] (by decide +kernel) rfl ?_
    refine Ev.ic_ne (t := 130) (by decide +kernel) ?_ ?_
    · refine Ev.run (pc' := 131) (ls' := [some (.ref 15), some (.int a1)]) (st' := [.int 0]) (m' := m) [(.iconst 0, 0, 0, 0, 0)] (by decide +kernel) rfl ?_
      exact Ev.iretz rfl rfl (by decide +kernel) (by decide)
    · refine Ev.run (pc' := 127) (ls' := [some (.ref 15), some (.int a1)]) (st' := [.int 1]) (m' := m) [(.iconst 1, 0, 0, 1, 0)] (by decide +kernel) rfl ?_
      refine Ev.gto (t := 131) (by decide +kernel) ?_
      exact Ev.iretz rfl rfl (by decide +kernel) (by decide)
  refine Ev.sw0 (vals := [2, 3, 4, 10, 11, 12, 13, 14, 15, 16]) (dt := 132) (by decide +kernel) (by simp only [List.mem_cons, List.not_mem_nil, or_false, not_or]; exact ⟨(lv_neT (k := 2) (a := 2) z1 (by decide)), (lv_neT (k := 3) (a := 3) z2 (by decide)), (lv_neT (k := 4) (a := 4) z3 (by decide)), (lv_neT (k := 10) (a := 10) z4 (by decide)), (lv_neT (k := 11) (a := 11) z5 (by decide)), (lv_neT (k := 12) (a := 12) z6 (by decide)), (lv_neT (k := 13) (a := 13) z7 (by decide)), (lv_neT (k := 14) (a := 14) z8 (by decide)), (lv_neT (k := 15) (a := 15) z9 (by decide)), (lv_neT (k := 16) (a := 16) z10 (by decide))⟩) ?_
  refine Ev.run (pc' := 133) (ls' := [some (.ref 15), some (.int a1)]) (st' := [.int 0]) (m' := m) [(.iconst 0, 0, 0, 0, 0)] (by decide +kernel) rfl ?_
  exact Ev.iretz rfl rfl (by decide +kernel) (by decide)
def FX10_hasRoom (f : Nat) (a1 : Int32) (m : ev_M) : Option (Int32 × ev_M) :=
  (if 1600 < ((m.1 13 1) + a1) then some (0, m) else some (1, m))
set_option maxRecDepth 100000 in
set_option maxHeartbeats 4000000 in
theorem EX10_hasRoom {l : Launch} {Ln : Nat} {xs : Nat → Int32} {d : Nat} (f : Nat) (a1 : Int32) (m : ev_M)  (hd : 0 ≤ d) : Mv ev_eI l Ln xs YX10_hasRoom d Sx [.ref 13, .int a1] m (FX10_hasRoom f a1 m) := by
  refine Mv.of (by decide +kernel) rfl (Nat.le_of_ble_eq_true rfl) (Ev.le (ls' := [some (.ref 13), some (.int a1)]) ⟨rfl, ⟨rfl, trivial⟩⟩ ?_)
  unfold FX10_hasRoom
  refine Ev.run (pc' := 9) (ls' := [some (.ref 13), some (.int a1)]) (st' := [.int 1600, .int ((m.1 13 1) + a1)]) (m' := m) [(.aload_n 0, 0, 0, 0, 0), (.getfield 15, 10, 1, 0, 0), (.iload_n 1, 0, 0, 0, 0), (.iadd, 0, 0, 0, 0), (.sipush 1600, 0, 0, 1600, 0)] (by decide +kernel) rfl ?_
  refine Ev.ic_gt (t := 16) (by decide +kernel) ?_ ?_
  · refine Ev.run (pc' := 17) (ls' := [some (.ref 13), some (.int a1)]) (st' := [.int 0]) (m' := m) [(.iconst 0, 0, 0, 0, 0)] (by decide +kernel) rfl ?_
    exact Ev.iretz rfl rfl (by decide +kernel) (by decide)
  · refine Ev.run (pc' := 13) (ls' := [some (.ref 13), some (.int a1)]) (st' := [.int 1]) (m' := m) [(.iconst 1, 0, 0, 1, 0)] (by decide +kernel) rfl ?_
    refine Ev.gto (t := 17) (by decide +kernel) ?_
    exact Ev.iretz rfl rfl (by decide +kernel) (by decide)
def FX10_write (f : Nat) (a1 : Int32) (m : ev_M) : Option (Unit × ev_M) :=
  (ev_bd (FX10_hasRoom f (4 : Int32) m) (fun r1 m2 => (if r1 = 0 then some ((), m2) else (if ev_in (m2.1 13 1) 1600 then (if ev_in ((m2.1 13 1) + 1) 1600 then (if ev_in ((m2.1 13 1) + 2) 1600 then (if ev_in ((m2.1 13 1) + 3) 1600 then some ((), ((ev_up (ev_up (ev_up (ev_up (ev_up m2.1 14 (m2.1 13 1).toNatClampNeg ((a1 : Int32).toUInt32 >>> ((24 : Int32).toUInt32 &&& Int32.toUInt32 31)).toInt32) 14 ((m2.1 13 1) + 1).toNatClampNeg (((a1 : Int32).toUInt32 >>> ((16 : Int32).toUInt32 &&& Int32.toUInt32 31)).toInt32 &&& 255)) 14 ((m2.1 13 1) + 2).toNatClampNeg (((a1 : Int32).toUInt32 >>> ((8 : Int32).toUInt32 &&& Int32.toUInt32 31)).toInt32 &&& 255)) 14 ((m2.1 13 1) + 3).toNatClampNeg (a1 &&& 255)) 13 1 ((m2.1 13 1) + 4)), m2.2)) else none) else none) else none) else none))))
set_option maxRecDepth 100000 in
set_option maxHeartbeats 4000000 in
theorem EX10_write {l : Launch} {Ln : Nat} {xs : Nat → Int32} {d : Nat} (f : Nat) (a1 : Int32) (m : ev_M)  (hd : 1 ≤ d) : Mv ev_eV l Ln xs YX10_write d Sx [.ref 13, .int a1] m (FX10_write f a1 m) := by
  refine Mv.of (by decide +kernel) rfl (Nat.le_of_ble_eq_true rfl) (Ev.le (ls' := [some (.ref 13), some (.int a1)]) ⟨rfl, ⟨rfl, trivial⟩⟩ ?_)
  unfold FX10_write
  refine Ev.run (pc' := 2) (ls' := [some (.ref 13), some (.int a1)]) (st' := [.int 4, .ref 13]) (m' := m) [(.aload_n 0, 0, 0, 0, 0), (.iconst 4, 0, 0, 4, 0)] (by decide +kernel) rfl ?_
  refine Ev.cV (av := [.int 4]) (st := []) (a := 13) (EX10_hasRoom (l := l) (Ln := Ln) (xs := xs) (d := 0) f (4 : Int32) m (by decide)) rfl (by decide +kernel) mwX10_hasRoom iwX10_hasRoom vwX10_hasRoom lk_10_37 (by omega) (by decide) rfl (by decide) rfl rfl (Nat.le_of_ble_eq_true rfl) (fun r1 m2 => ?_)
  refine Ev.if_eq (t := 85) (by decide +kernel) ?_ ?_
  · exact Ev.retv rfl rfl (by decide +kernel)
  · refine Ev.run (pc' := 20) (ls' := [some (.ref 13), some (.int a1)]) (st' := [.int ((a1 : Int32).toUInt32 >>> ((24 : Int32).toUInt32 &&& Int32.toUInt32 31)).toInt32, .int (m2.1 13 1), .ref 14]) (m' := m2) [(.aload_n 0, 0, 0, 0, 0), (.getfield 9, 10, 0, 0, 0), (.aload_n 0, 0, 0, 0, 0), (.getfield 15, 10, 1, 0, 0), (.iload_n 1, 0, 0, 0, 0), (.bipush 24, 0, 0, 24, 0), (.iushr, 0, 0, 0, 0)] (by decide +kernel) rfl ?_
    refine Ev.iast (n := 1600) (by decide +kernel) (by decide) rfl ?_
    refine Ev.run (pc' := 39) (ls' := [some (.ref 13), some (.int a1)]) (st' := [.int (((a1 : Int32).toUInt32 >>> ((16 : Int32).toUInt32 &&& Int32.toUInt32 31)).toInt32 &&& 255), .int ((m2.1 13 1) + 1), .ref 14]) (m' := ((ev_up m2.1 14 (m2.1 13 1).toNatClampNeg ((a1 : Int32).toUInt32 >>> ((24 : Int32).toUInt32 &&& Int32.toUInt32 31)).toInt32), m2.2)) [(.aload_n 0, 0, 0, 0, 0), (.getfield 9, 10, 0, 0, 0), (.aload_n 0, 0, 0, 0, 0), (.getfield 15, 10, 1, 0, 0), (.iconst 1, 0, 0, 1, 0), (.iadd, 0, 0, 0, 0), (.iload_n 1, 0, 0, 0, 0), (.bipush 16, 0, 0, 16, 0), (.iushr, 0, 0, 0, 0), (.sipush 255, 0, 0, 255, 0), (.iand, 0, 0, 0, 0)] (by decide +kernel) rfl ?_
    refine Ev.iast (n := 1600) (by decide +kernel) (by decide) rfl ?_
    refine Ev.run (pc' := 58) (ls' := [some (.ref 13), some (.int a1)]) (st' := [.int (((a1 : Int32).toUInt32 >>> ((8 : Int32).toUInt32 &&& Int32.toUInt32 31)).toInt32 &&& 255), .int ((m2.1 13 1) + 2), .ref 14]) (m' := ((ev_up (ev_up m2.1 14 (m2.1 13 1).toNatClampNeg ((a1 : Int32).toUInt32 >>> ((24 : Int32).toUInt32 &&& Int32.toUInt32 31)).toInt32) 14 ((m2.1 13 1) + 1).toNatClampNeg (((a1 : Int32).toUInt32 >>> ((16 : Int32).toUInt32 &&& Int32.toUInt32 31)).toInt32 &&& 255)), m2.2)) [(.aload_n 0, 0, 0, 0, 0), (.getfield 9, 10, 0, 0, 0), (.aload_n 0, 0, 0, 0, 0), (.getfield 15, 10, 1, 0, 0), (.iconst 2, 0, 0, 2, 0), (.iadd, 0, 0, 0, 0), (.iload_n 1, 0, 0, 0, 0), (.bipush 8, 0, 0, 8, 0), (.iushr, 0, 0, 0, 0), (.sipush 255, 0, 0, 255, 0), (.iand, 0, 0, 0, 0)] (by decide +kernel) rfl ?_
    refine Ev.iast (n := 1600) (by decide +kernel) (by decide) rfl ?_
    refine Ev.run (pc' := 74) (ls' := [some (.ref 13), some (.int a1)]) (st' := [.int (a1 &&& 255), .int ((m2.1 13 1) + 3), .ref 14]) (m' := ((ev_up (ev_up (ev_up m2.1 14 (m2.1 13 1).toNatClampNeg ((a1 : Int32).toUInt32 >>> ((24 : Int32).toUInt32 &&& Int32.toUInt32 31)).toInt32) 14 ((m2.1 13 1) + 1).toNatClampNeg (((a1 : Int32).toUInt32 >>> ((16 : Int32).toUInt32 &&& Int32.toUInt32 31)).toInt32 &&& 255)) 14 ((m2.1 13 1) + 2).toNatClampNeg (((a1 : Int32).toUInt32 >>> ((8 : Int32).toUInt32 &&& Int32.toUInt32 31)).toInt32 &&& 255)), m2.2)) [(.aload_n 0, 0, 0, 0, 0), (.getfield 9, 10, 0, 0, 0), (.aload_n 0, 0, 0, 0, 0), (.getfield 15, 10, 1, 0, 0), (.iconst 3, 0, 0, 3, 0), (.iadd, 0, 0, 0, 0), (.iload_n 1, 0, 0, 0, 0), (.sipush 255, 0, 0, 255, 0), (.iand, 0, 0, 0, 0)] (by decide +kernel) rfl ?_
    refine Ev.iast (n := 1600) (by decide +kernel) (by decide) rfl ?_
    refine Ev.run (pc' := 85) (ls' := [some (.ref 13), some (.int a1)]) (st' := []) (m' := ((ev_up (ev_up (ev_up (ev_up (ev_up m2.1 14 (m2.1 13 1).toNatClampNeg ((a1 : Int32).toUInt32 >>> ((24 : Int32).toUInt32 &&& Int32.toUInt32 31)).toInt32) 14 ((m2.1 13 1) + 1).toNatClampNeg (((a1 : Int32).toUInt32 >>> ((16 : Int32).toUInt32 &&& Int32.toUInt32 31)).toInt32 &&& 255)) 14 ((m2.1 13 1) + 2).toNatClampNeg (((a1 : Int32).toUInt32 >>> ((8 : Int32).toUInt32 &&& Int32.toUInt32 31)).toInt32 &&& 255)) 14 ((m2.1 13 1) + 3).toNatClampNeg (a1 &&& 255)) 13 1 ((m2.1 13 1) + 4)), m2.2)) [(.aload_n 0, 0, 0, 0, 0), (.dup, 0, 0, 0, 0), (.getfield 15, 10, 1, 0, 0), (.iconst 4, 0, 0, 4, 0), (.iadd, 0, 0, 0, 0), (.putfield 15, 10, 1, 0, 0)] (by decide +kernel) rfl ?_
    exact Ev.retv rfl rfl (by decide +kernel)
def FX10_isGood (f : Nat)  (m : ev_M) : Option (Int32 × ev_M) :=
  (if (m.1 13 3) = 0 then some (1, m) else some (0, m))
set_option maxRecDepth 100000 in
set_option maxHeartbeats 4000000 in
theorem EX10_isGood {l : Launch} {Ln : Nat} {xs : Nat → Int32} {d : Nat} (f : Nat)  (m : ev_M)  (hd : 0 ≤ d) : Mv ev_eI l Ln xs YX10_isGood d Sx [.ref 13] m (FX10_isGood f  m) := by
  refine Mv.of (by decide +kernel) rfl (Nat.le_of_ble_eq_true rfl) (Ev.le (ls' := [some (.ref 13)]) ⟨rfl, trivial⟩ ?_)
  unfold FX10_isGood
  refine Ev.run (pc' := 4) (ls' := [some (.ref 13)]) (st' := [.int (m.1 13 3)]) (m' := m) [(.aload_n 0, 0, 0, 0, 0), (.getfield 22, 10, 3, 0, 0)] (by decide +kernel) rfl ?_
  refine Ev.if_ne (t := 11) (by decide +kernel) ?_ ?_
  · refine Ev.run (pc' := 12) (ls' := [some (.ref 13)]) (st' := [.int 0]) (m' := m) [(.iconst 0, 0, 0, 0, 0)] (by decide +kernel) rfl ?_
    exact Ev.iretz rfl rfl (by decide +kernel) (by decide)
  · refine Ev.run (pc' := 8) (ls' := [some (.ref 13)]) (st' := [.int 1]) (m' := m) [(.iconst 1, 0, 0, 1, 0)] (by decide +kernel) rfl ?_
    refine Ev.gto (t := 12) (by decide +kernel) ?_
    exact Ev.iretz rfl rfl (by decide +kernel) (by decide)
def FX10_fail (f : Nat) (a1 : Int32) (a2 : Int32) (m : ev_M) : Option (Unit × ev_M) :=
  (if (m.1 13 3) = 0 then some ((), ((ev_up (ev_up (ev_up m.1 13 3 a1) 13 4 a2) 13 5 4), m.2)) else some ((), ((ev_up m.1 13 5 4), m.2)))
set_option maxRecDepth 100000 in
set_option maxHeartbeats 4000000 in
theorem EX10_fail {l : Launch} {Ln : Nat} {xs : Nat → Int32} {d : Nat} (f : Nat) (a1 : Int32) (a2 : Int32) (m : ev_M)  (hd : 0 ≤ d) : Mv ev_eV l Ln xs YX10_fail d Sx [.ref 13, .int a1, .int a2] m (FX10_fail f a1 a2 m) := by
  refine Mv.of (by decide +kernel) rfl (Nat.le_of_ble_eq_true rfl) (Ev.le (ls' := [some (.ref 13), some (.int a1), some (.int a2)]) ⟨rfl, ⟨rfl, ⟨rfl, trivial⟩⟩⟩ ?_)
  unfold FX10_fail
  refine Ev.run (pc' := 4) (ls' := [some (.ref 13), some (.int a1), some (.int a2)]) (st' := [.int (m.1 13 3)]) (m' := m) [(.aload_n 0, 0, 0, 0, 0), (.getfield 22, 10, 3, 0, 0)] (by decide +kernel) rfl ?_
  refine Ev.if_ne (t := 17) (by decide +kernel) ?_ ?_
  · refine Ev.run (pc' := 22) (ls' := [some (.ref 13), some (.int a1), some (.int a2)]) (st' := []) (m' := ((ev_up m.1 13 5 4), m.2)) [(.aload_n 0, 0, 0, 0, 0), (.iconst 4, 0, 0, 4, 0), (.putfield 28, 10, 5, 0, 0)] (by decide +kernel) rfl ?_
    exact Ev.retv rfl rfl (by decide +kernel)
  · refine Ev.run (pc' := 22) (ls' := [some (.ref 13), some (.int a1), some (.int a2)]) (st' := []) (m' := ((ev_up (ev_up (ev_up m.1 13 3 a1) 13 4 a2) 13 5 4), m.2)) [(.aload_n 0, 0, 0, 0, 0), (.iload_n 1, 0, 0, 0, 0), (.putfield 22, 10, 3, 0, 0), (.aload_n 0, 0, 0, 0, 0), (.iload_n 2, 0, 0, 0, 0), (.putfield 25, 10, 4, 0, 0), (.aload_n 0, 0, 0, 0, 0), (.iconst 4, 0, 0, 4, 0), (.putfield 28, 10, 5, 0, 0)] (by decide +kernel) rfl ?_
    exact Ev.retv rfl rfl (by decide +kernel)
def FX10_skipBlanks_J44 (f : Nat) (kt5 : ev_M → Option (Unit × ev_M))    (m : ev_M) : Option (Unit × ev_M) :=
  (kt5 ((ev_up m.1 13 2 ((m.1 13 2) + 1)), m.2))
def FX10_skipBlanks_L5 (f : Nat) (k : ev_M → Option (Unit × ev_M))   : Nat → ev_M → Option (Unit × ev_M)
  | 0, _ => none
  | n + 1, m => (if (m.1 13 1) ≤ (m.1 13 2) then (k m) else (if ev_in (m.1 13 2) 1600 then (if (m.1 14 (m.1 13 2).toNatClampNeg) = 10 then (FX10_skipBlanks_J44 f (FX10_skipBlanks_L5 f k n) m) else (if ev_in (m.1 13 2) 1600 then (if (m.1 14 (m.1 13 2).toNatClampNeg) = 32 then (FX10_skipBlanks_J44 f (FX10_skipBlanks_L5 f k n) m) else (k m)) else none)) else none))
def FX10_skipBlanks (f : Nat) (a1 : Int32) (m : ev_M) : Option (Unit × ev_M) :=
  (FX10_skipBlanks_L5 f (fun m1 => some ((), m1)) f ((ev_up m.1 13 2 a1), m.2))
set_option maxRecDepth 100000 in
set_option maxHeartbeats 4000000 in
theorem EX10_skipBlanks_J44 {l : Launch} {Ln : Nat} {xs : Nat → Int32} {d : Nat} (f : Nat) (kt5 : ev_M → Option (Unit × ev_M))    (m : ev_M)  (hkt5 : ∀  (em : ev_M), Ev ev_eV l Ln xs YX10_skipBlanks d Sx 5 [some (.ref 13), none] [] em (kt5 em)) (hd : 0 ≤ d) : Ev ev_eV l Ln xs YX10_skipBlanks d Sx 44 [some (.ref 13), none] [] m (FX10_skipBlanks_J44 f kt5 m) := by
  unfold FX10_skipBlanks_J44
  refine Ev.run (pc' := 54) (ls' := [some (.ref 13), none]) (st' := []) (m' := ((ev_up m.1 13 2 ((m.1 13 2) + 1)), m.2)) [(.aload_n 0, 0, 0, 0, 0), (.dup, 0, 0, 0, 0), (.getfield 19, 10, 2, 0, 0), (.iconst 1, 0, 0, 1, 0), (.iadd, 0, 0, 0, 0), (.putfield 19, 10, 2, 0, 0)] (by decide +kernel) rfl ?_
  refine Ev.gto (t := 5) (by decide +kernel) ?_
  exact hkt5 _
set_option maxRecDepth 100000 in
set_option maxHeartbeats 4000000 in
theorem EX10_skipBlanks_L5 {l : Launch} {Ln : Nat} {xs : Nat → Int32} {d : Nat} (f : Nat) (k : ev_M → Option (Unit × ev_M))     (hk : ∀  (em : ev_M), Ev ev_eV l Ln xs YX10_skipBlanks d Sx 57 [none, none] [] em (k em)) (hd : 0 ≤ d) : ∀ (n : Nat)  (m : ev_M), Ev ev_eV l Ln xs YX10_skipBlanks d Sx 5 [some (.ref 13), none] [] m (FX10_skipBlanks_L5 f k n m) := by
  intro n
  induction n with
  | zero => intros; exact Ev.nn
  | succ n ih =>
    intro  m
    rw [FX10_skipBlanks_L5]
    refine Ev.run (pc' := 13) (ls' := [some (.ref 13), none]) (st' := [.int (m.1 13 1), .int (m.1 13 2)]) (m' := m) [(.aload_n 0, 0, 0, 0, 0), (.getfield 19, 10, 2, 0, 0), (.aload_n 0, 0, 0, 0, 0), (.getfield 15, 10, 1, 0, 0)] (by decide +kernel) rfl ?_
    refine Ev.ic_ge (t := 57) (by decide +kernel) ?_ ?_
    · refine Ev.le (ls' := [none, none]) trivial ?_
      exact hk _
    · refine Ev.run (pc' := 24) (ls' := [some (.ref 13), none]) (st' := [.int (m.1 13 2), .ref 14]) (m' := m) [(.aload_n 0, 0, 0, 0, 0), (.getfield 9, 10, 0, 0, 0), (.aload_n 0, 0, 0, 0, 0), (.getfield 19, 10, 2, 0, 0)] (by decide +kernel) rfl ?_
      refine Ev.iald (n := 1600) (by decide +kernel) (by decide) rfl ?_
      refine Ev.run (pc' := 27) (ls' := [some (.ref 13), none]) (st' := [.int 10, .int (m.1 14 (m.1 13 2).toNatClampNeg)]) (m' := m) [(.bipush 10, 0, 0, 10, 0)] (by decide +kernel) rfl ?_
      refine Ev.ic_eq (t := 44) (by decide +kernel) ?_ ?_
      · exact EX10_skipBlanks_J44 f (FX10_skipBlanks_L5 f k n) m ih (by omega)
      · refine Ev.run (pc' := 38) (ls' := [some (.ref 13), none]) (st' := [.int (m.1 13 2), .ref 14]) (m' := m) [(.aload_n 0, 0, 0, 0, 0), (.getfield 9, 10, 0, 0, 0), (.aload_n 0, 0, 0, 0, 0), (.getfield 19, 10, 2, 0, 0)] (by decide +kernel) rfl ?_
        refine Ev.iald (n := 1600) (by decide +kernel) (by decide) rfl ?_
        refine Ev.run (pc' := 41) (ls' := [some (.ref 13), none]) (st' := [.int 32, .int (m.1 14 (m.1 13 2).toNatClampNeg)]) (m' := m) [(.bipush 32, 0, 0, 32, 0)] (by decide +kernel) rfl ?_
        refine Ev.ic_ne (t := 57) (by decide +kernel) ?_ ?_
        · refine Ev.le (ls' := [none, none]) trivial ?_
          exact hk _
        · exact EX10_skipBlanks_J44 f (FX10_skipBlanks_L5 f k n) m ih (by omega)
set_option maxRecDepth 100000 in
set_option maxHeartbeats 4000000 in
theorem EX10_skipBlanks {l : Launch} {Ln : Nat} {xs : Nat → Int32} {d : Nat} (f : Nat) (a1 : Int32) (m : ev_M)  (hd : 0 ≤ d) : Mv ev_eV l Ln xs YX10_skipBlanks d Sx [.ref 13, .int a1] m (FX10_skipBlanks f a1 m) := by
  refine Mv.of (by decide +kernel) rfl (Nat.le_of_ble_eq_true rfl) (Ev.le (ls' := [some (.ref 13), some (.int a1)]) ⟨rfl, ⟨rfl, trivial⟩⟩ ?_)
  unfold FX10_skipBlanks
  refine Ev.run (pc' := 5) (ls' := [some (.ref 13), some (.int a1)]) (st' := []) (m' := ((ev_up m.1 13 2 a1), m.2)) [(.aload_n 0, 0, 0, 0, 0), (.iload_n 1, 0, 0, 0, 0), (.putfield 19, 10, 2, 0, 0)] (by decide +kernel) rfl ?_
  refine Ev.le (ls' := [some (.ref 13), none]) ⟨rfl, trivial⟩ ?_
  refine EX10_skipBlanks_L5 f _ ?_ (by omega) _ _
  intro m1
  exact Ev.retv rfl rfl (by decide +kernel)
def FX10_kindAt (f : Nat) (a1 : Int32) (m : ev_M) : Option (Int32 × ev_M) :=
  (if a1 < 0 then some (0, m) else (if a1 < (m.1 13 1) then (if ev_in a1 1600 then (if (m.1 14 a1.toNatClampNeg) < 97 then (if (m.1 14 a1.toNatClampNeg) < 48 then some (3, m) else (if 57 < (m.1 14 a1.toNatClampNeg) then some (3, m) else some (2, m))) else (if 122 < (m.1 14 a1.toNatClampNeg) then (if (m.1 14 a1.toNatClampNeg) < 48 then some (3, m) else (if 57 < (m.1 14 a1.toNatClampNeg) then some (3, m) else some (2, m))) else some (1, m))) else none) else some (0, m)))
set_option maxRecDepth 100000 in
set_option maxHeartbeats 4000000 in
theorem EX10_kindAt {l : Launch} {Ln : Nat} {xs : Nat → Int32} {d : Nat} (f : Nat) (a1 : Int32) (m : ev_M)  (hd : 0 ≤ d) : Mv ev_eI l Ln xs YX10_kindAt d Sx [.ref 13, .int a1] m (FX10_kindAt f a1 m) := by
  refine Mv.of (by decide +kernel) rfl (Nat.le_of_ble_eq_true rfl) (Ev.le (ls' := [some (.ref 13), some (.int a1), none]) ⟨rfl, ⟨rfl, trivial⟩⟩ ?_)
  unfold FX10_kindAt
  refine Ev.run (pc' := 1) (ls' := [some (.ref 13), some (.int a1), none]) (st' := [.int a1]) (m' := m) [(.iload_n 1, 0, 0, 0, 0)] (by decide +kernel) rfl ?_
  refine Ev.if_lt (t := 12) (by decide +kernel) ?_ ?_
  · refine Ev.run (pc' := 13) (ls' := [some (.ref 13), some (.int a1), none]) (st' := [.int 0]) (m' := m) [(.iconst 0, 0, 0, 0, 0)] (by decide +kernel) rfl ?_
    exact Ev.ireti rfl rfl (by decide +kernel)
  · refine Ev.run (pc' := 9) (ls' := [some (.ref 13), some (.int a1), none]) (st' := [.int (m.1 13 1), .int a1]) (m' := m) [(.iload_n 1, 0, 0, 0, 0), (.aload_n 0, 0, 0, 0, 0), (.getfield 15, 10, 1, 0, 0)] (by decide +kernel) rfl ?_
    refine Ev.ic_lt (t := 14) (by decide +kernel) ?_ ?_
    · refine Ev.run (pc' := 19) (ls' := [some (.ref 13), some (.int a1), none]) (st' := [.int a1, .ref 14]) (m' := m) [(.aload_n 0, 0, 0, 0, 0), (.getfield 9, 10, 0, 0, 0), (.iload_n 1, 0, 0, 0, 0)] (by decide +kernel) rfl ?_
      refine Ev.iald (n := 1600) (by decide +kernel) (by decide) rfl ?_
      refine Ev.run (pc' := 24) (ls' := [some (.ref 13), some (.int a1), some (.int (m.1 14 a1.toNatClampNeg))]) (st' := [.int 97, .int (m.1 14 a1.toNatClampNeg)]) (m' := m) [(.istore_n 2, 0, 0, 0, 0), (.iload_n 2, 0, 0, 0, 0), (.bipush 97, 0, 0, 97, 0)] (by decide +kernel) rfl ?_
      refine Ev.ic_lt (t := 35) (by decide +kernel) ?_ ?_
      · refine Ev.run (pc' := 38) (ls' := [some (.ref 13), some (.int a1), some (.int (m.1 14 a1.toNatClampNeg))]) (st' := [.int 48, .int (m.1 14 a1.toNatClampNeg)]) (m' := m) [(.iload_n 2, 0, 0, 0, 0), (.bipush 48, 0, 0, 48, 0)] (by decide +kernel) rfl ?_
        refine Ev.ic_lt (t := 51) (by decide +kernel) ?_ ?_
        · refine Ev.run (pc' := 52) (ls' := [some (.ref 13), some (.int a1), some (.int (m.1 14 a1.toNatClampNeg))]) (st' := [.int 3]) (m' := m) [(.iconst 3, 0, 0, 3, 0)] (by decide +kernel) rfl ?_
          exact Ev.ireti rfl rfl (by decide +kernel)
        · refine Ev.run (pc' := 44) (ls' := [some (.ref 13), some (.int a1), some (.int (m.1 14 a1.toNatClampNeg))]) (st' := [.int 57, .int (m.1 14 a1.toNatClampNeg)]) (m' := m) [(.iload_n 2, 0, 0, 0, 0), (.bipush 57, 0, 0, 57, 0)] (by decide +kernel) rfl ?_
          refine Ev.ic_gt (t := 51) (by decide +kernel) ?_ ?_
          · refine Ev.run (pc' := 52) (ls' := [some (.ref 13), some (.int a1), some (.int (m.1 14 a1.toNatClampNeg))]) (st' := [.int 3]) (m' := m) [(.iconst 3, 0, 0, 3, 0)] (by decide +kernel) rfl ?_
            exact Ev.ireti rfl rfl (by decide +kernel)
          · refine Ev.run (pc' := 48) (ls' := [some (.ref 13), some (.int a1), some (.int (m.1 14 a1.toNatClampNeg))]) (st' := [.int 2]) (m' := m) [(.iconst 2, 0, 0, 2, 0)] (by decide +kernel) rfl ?_
            refine Ev.gto (t := 52) (by decide +kernel) ?_
            exact Ev.ireti rfl rfl (by decide +kernel)
      · refine Ev.run (pc' := 30) (ls' := [some (.ref 13), some (.int a1), some (.int (m.1 14 a1.toNatClampNeg))]) (st' := [.int 122, .int (m.1 14 a1.toNatClampNeg)]) (m' := m) [(.iload_n 2, 0, 0, 0, 0), (.bipush 122, 0, 0, 122, 0)] (by decide +kernel) rfl ?_
        refine Ev.ic_gt (t := 35) (by decide +kernel) ?_ ?_
        · refine Ev.run (pc' := 38) (ls' := [some (.ref 13), some (.int a1), some (.int (m.1 14 a1.toNatClampNeg))]) (st' := [.int 48, .int (m.1 14 a1.toNatClampNeg)]) (m' := m) [(.iload_n 2, 0, 0, 0, 0), (.bipush 48, 0, 0, 48, 0)] (by decide +kernel) rfl ?_
          refine Ev.ic_lt (t := 51) (by decide +kernel) ?_ ?_
          · refine Ev.run (pc' := 52) (ls' := [some (.ref 13), some (.int a1), some (.int (m.1 14 a1.toNatClampNeg))]) (st' := [.int 3]) (m' := m) [(.iconst 3, 0, 0, 3, 0)] (by decide +kernel) rfl ?_
            exact Ev.ireti rfl rfl (by decide +kernel)
          · refine Ev.run (pc' := 44) (ls' := [some (.ref 13), some (.int a1), some (.int (m.1 14 a1.toNatClampNeg))]) (st' := [.int 57, .int (m.1 14 a1.toNatClampNeg)]) (m' := m) [(.iload_n 2, 0, 0, 0, 0), (.bipush 57, 0, 0, 57, 0)] (by decide +kernel) rfl ?_
            refine Ev.ic_gt (t := 51) (by decide +kernel) ?_ ?_
            · refine Ev.run (pc' := 52) (ls' := [some (.ref 13), some (.int a1), some (.int (m.1 14 a1.toNatClampNeg))]) (st' := [.int 3]) (m' := m) [(.iconst 3, 0, 0, 3, 0)] (by decide +kernel) rfl ?_
              exact Ev.ireti rfl rfl (by decide +kernel)
            · refine Ev.run (pc' := 48) (ls' := [some (.ref 13), some (.int a1), some (.int (m.1 14 a1.toNatClampNeg))]) (st' := [.int 2]) (m' := m) [(.iconst 2, 0, 0, 2, 0)] (by decide +kernel) rfl ?_
              refine Ev.gto (t := 52) (by decide +kernel) ?_
              exact Ev.ireti rfl rfl (by decide +kernel)
        · refine Ev.run (pc' := 34) (ls' := [some (.ref 13), some (.int a1), some (.int (m.1 14 a1.toNatClampNeg))]) (st' := [.int 1]) (m' := m) [(.iconst 1, 0, 0, 1, 0)] (by decide +kernel) rfl ?_
          exact Ev.ireti rfl rfl (by decide +kernel)
    · refine Ev.run (pc' := 13) (ls' := [some (.ref 13), some (.int a1), none]) (st' := [.int 0]) (m' := m) [(.iconst 0, 0, 0, 0, 0)] (by decide +kernel) rfl ?_
      exact Ev.ireti rfl rfl (by decide +kernel)
def FX10_isLong (f : Nat)  (m : ev_M) : Option (Int32 × ev_M) :=
  (if (m.1 13 5) = 1 then some (1, m) else (if (m.1 13 5) = 2 then some (1, m) else some (0, m)))
set_option maxRecDepth 100000 in
set_option maxHeartbeats 4000000 in
theorem EX10_isLong {l : Launch} {Ln : Nat} {xs : Nat → Int32} {d : Nat} (f : Nat)  (m : ev_M)  (hd : 0 ≤ d) : Mv ev_eI l Ln xs YX10_isLong d Sx [.ref 13] m (FX10_isLong f  m) := by
  refine Mv.of (by decide +kernel) rfl (Nat.le_of_ble_eq_true rfl) (Ev.le (ls' := [some (.ref 13)]) ⟨rfl, trivial⟩ ?_)
  unfold FX10_isLong
  refine Ev.run (pc' := 5) (ls' := [some (.ref 13)]) (st' := [.int 1, .int (m.1 13 5)]) (m' := m) [(.aload_n 0, 0, 0, 0, 0), (.getfield 28, 10, 5, 0, 0), (.iconst 1, 0, 0, 1, 0)] (by decide +kernel) rfl ?_
  refine Ev.ic_eq (t := 16) (by decide +kernel) ?_ ?_
  · refine Ev.run (pc' := 17) (ls' := [some (.ref 13)]) (st' := [.int 1]) (m' := m) [(.iconst 1, 0, 0, 1, 0)] (by decide +kernel) rfl ?_
    refine Ev.gto (t := 21) (by decide +kernel) ?_
    exact Ev.iretz rfl rfl (by decide +kernel) (by decide)
  · refine Ev.run (pc' := 13) (ls' := [some (.ref 13)]) (st' := [.int 2, .int (m.1 13 5)]) (m' := m) [(.aload_n 0, 0, 0, 0, 0), (.getfield 28, 10, 5, 0, 0), (.iconst 2, 0, 0, 2, 0)] (by decide +kernel) rfl ?_
    refine Ev.ic_ne (t := 20) (by decide +kernel) ?_ ?_
    · refine Ev.run (pc' := 21) (ls' := [some (.ref 13)]) (st' := [.int 0]) (m' := m) [(.iconst 0, 0, 0, 0, 0)] (by decide +kernel) rfl ?_
      exact Ev.iretz rfl rfl (by decide +kernel) (by decide)
    · refine Ev.run (pc' := 17) (ls' := [some (.ref 13)]) (st' := [.int 1]) (m' := m) [(.iconst 1, 0, 0, 1, 0)] (by decide +kernel) rfl ?_
      refine Ev.gto (t := 21) (by decide +kernel) ?_
      exact Ev.iretz rfl rfl (by decide +kernel) (by decide)
def FX10_wordHere_J60 (f : Nat) (kt19 : Int32 → ev_M → Option (Int32 × ev_M)) (kt69 : Int32 → ev_M → Option (Int32 × ev_M))  (a2 : Int32) (s0 : Int32) (s1 : Int32) (m : ev_M) : Option (Int32 × ev_M) :=
  (if s0 = s1 then (kt19 (a2 + 1) m) else (kt69 a2 m))
def FX10_wordHere_L19 (f : Nat) (k : Int32 → ev_M → Option (Int32 × ev_M))  (a1 : Int32) : Nat → Int32 → ev_M → Option (Int32 × ev_M)
  | 0, _, _ => none
  | n + 1, a2, m => (if 6 ≤ a2 then (k a2 m) else (if ev_in ((a1 * 6) + a2) 174 then (if (m.1 13 6) ≤ a2 then (FX10_wordHere_J60 f (FX10_wordHere_L19 f k a1 n) k a2 (ev_ch ((a1 * 6) + a2)) (32 : Int32) m) else (if ev_in ((m.1 13 2) + a2) 1600 then (FX10_wordHere_J60 f (FX10_wordHere_L19 f k a1 n) k a2 (ev_ch ((a1 * 6) + a2)) (m.1 14 ((m.1 13 2) + a2).toNatClampNeg) m) else none)) else none))
def FX10_wordHere_J69 (f : Nat) (kt2 : Int32 → ev_M → Option (Int32 × ev_M))  (a1 : Int32) (a2 : Int32)  (m : ev_M) : Option (Int32 × ev_M) :=
  (if a2 = 6 then some (a1, m) else (kt2 (a1 + 1) m))
def FX10_wordHere_L2 (f : Nat) (k : ev_M → Option (Int32 × ev_M))   : Nat → Int32 → ev_M → Option (Int32 × ev_M)
  | 0, _, _ => none
  | n + 1, a1, m => (if 29 ≤ a1 then (k m) else (if 6 < (m.1 13 6) then (k m) else (FX10_wordHere_L19 f (fun e1 m2 => (FX10_wordHere_J69 f (FX10_wordHere_L2 f k n) a1 e1 m2)) a1 f (0 : Int32) m)))
def FX10_wordHere (f : Nat)  (m : ev_M) : Option (Int32 × ev_M) :=
  (FX10_wordHere_L2 f (fun m3 => some ((-1), m3)) f (0 : Int32) m)
set_option maxRecDepth 100000 in
set_option maxHeartbeats 4000000 in
theorem EX10_wordHere_J60 {l : Launch} {Ln : Nat} {xs : Nat → Int32} {d : Nat} (f : Nat) (kt19 : Int32 → ev_M → Option (Int32 × ev_M)) (kt69 : Int32 → ev_M → Option (Int32 × ev_M))  (a1 : Int32) (a2 : Int32) (s0 : Int32) (s1 : Int32) (m : ev_M)  (hkt19 : ∀ (e2 : Int32) (em : ev_M), Ev ev_eI l Ln xs YX10_wordHere d Sx 19 [some (.ref 13), some (.int a1), some (.int e2)] [] em (kt19 e2 em)) (hkt69 : ∀ (e2 : Int32) (em : ev_M), Ev ev_eI l Ln xs YX10_wordHere d Sx 69 [some (.ref 13), some (.int a1), some (.int e2)] [] em (kt69 e2 em)) (hd : 4 ≤ d) : Ev ev_eI l Ln xs YX10_wordHere d Sx 60 [some (.ref 13), some (.int a1), some (.int a2)] [.int s1, .int s0] m (FX10_wordHere_J60 f kt19 kt69 a2 s0 s1 m) := by
  unfold FX10_wordHere_J60
  refine Ev.ic_ne (t := 69) (by decide +kernel) ?_ ?_
  · exact hkt69 _ _
  · refine Ev.run (pc' := 66) (ls' := [some (.ref 13), some (.int a1), some (.int (a2 + 1))]) (st' := []) (m' := m) [(.iinc 2 1, 0, 0, 1, 0)] (by decide +kernel) rfl ?_
    refine Ev.gto (t := 19) (by decide +kernel) ?_
    exact hkt19 _ _
set_option maxRecDepth 100000 in
set_option maxHeartbeats 4000000 in
theorem EX10_wordHere_L19 {l : Launch} {Ln : Nat} {xs : Nat → Int32} {d : Nat} (f : Nat) (k : Int32 → ev_M → Option (Int32 × ev_M))  (a1 : Int32)   (hk : ∀ (e2 : Int32) (em : ev_M), Ev ev_eI l Ln xs YX10_wordHere d Sx 69 [some (.ref 13), some (.int a1), some (.int e2)] [] em (k e2 em)) (hd : 4 ≤ d) : ∀ (n : Nat) (a2 : Int32) (m : ev_M), Ev ev_eI l Ln xs YX10_wordHere d Sx 19 [some (.ref 13), some (.int a1), some (.int a2)] [] m (FX10_wordHere_L19 f k a1 n a2 m) := by
  intro n
  induction n with
  | zero => intros; exact Ev.nn
  | succ n ih =>
    intro a2 m
    rw [FX10_wordHere_L19]
    refine Ev.run (pc' := 22) (ls' := [some (.ref 13), some (.int a1), some (.int a2)]) (st' := [.int 6, .int a2]) (m' := m) [(.iload_n 2, 0, 0, 0, 0), (.bipush 6, 0, 0, 6, 0)] (by decide +kernel) rfl ?_
    refine Ev.ic_ge (t := 69) (by decide +kernel) ?_ ?_
    · exact hk _ _
    · refine Ev.ldcS rfl (by decide +kernel) ?_
      refine Ev.run (pc' := 33) (ls' := [some (.ref 13), some (.int a1), some (.int a2)]) (st' := [.int ((a1 * 6) + a2), .ref 5001]) (m' := m) [(.iload_n 1, 0, 0, 0, 0), (.bipush 6, 0, 0, 6, 0), (.imul, 0, 0, 0, 0), (.iload_n 2, 0, 0, 0, 0), (.iadd, 0, 0, 0, 0)] (by decide +kernel) rfl ?_
      refine Ev.chr rfl (by omega) (by decide +kernel) (Nat.le_of_ble_eq_true rfl) ?_
      refine Ev.run (pc' := 41) (ls' := [some (.ref 13), some (.int a1), some (.int a2)]) (st' := [.int (m.1 13 6), .int a2, .int (ev_ch ((a1 * 6) + a2))]) (m' := m) [(.iload_n 2, 0, 0, 0, 0), (.aload_n 0, 0, 0, 0, 0), (.getfield 31, 10, 6, 0, 0)] (by decide +kernel) rfl ?_
      refine Ev.ic_ge (t := 58) (by decide +kernel) ?_ ?_
      · refine Ev.run (pc' := 60) (ls' := [some (.ref 13), some (.int a1), some (.int a2)]) (st' := [.int 32, .int (ev_ch ((a1 * 6) + a2))]) (m' := m) [(.bipush 32, 0, 0, 32, 0)] (by decide +kernel) rfl ?_
        exact EX10_wordHere_J60 f (FX10_wordHere_L19 f k a1 n) k a1 a2 (ev_ch ((a1 * 6) + a2)) (32 : Int32) m ih hk (by omega)
      · refine Ev.run (pc' := 54) (ls' := [some (.ref 13), some (.int a1), some (.int a2)]) (st' := [.int ((m.1 13 2) + a2), .ref 14, .int (ev_ch ((a1 * 6) + a2))]) (m' := m) [(.aload_n 0, 0, 0, 0, 0), (.getfield 9, 10, 0, 0, 0), (.aload_n 0, 0, 0, 0, 0), (.getfield 19, 10, 2, 0, 0), (.iload_n 2, 0, 0, 0, 0), (.iadd, 0, 0, 0, 0)] (by decide +kernel) rfl ?_
        refine Ev.iald (n := 1600) (by decide +kernel) (by decide) rfl ?_
        refine Ev.gto (t := 60) (by decide +kernel) ?_
        exact EX10_wordHere_J60 f (FX10_wordHere_L19 f k a1 n) k a1 a2 (ev_ch ((a1 * 6) + a2)) (m.1 14 ((m.1 13 2) + a2).toNatClampNeg) m ih hk (by omega)
set_option maxRecDepth 100000 in
set_option maxHeartbeats 4000000 in
theorem EX10_wordHere_J69 {l : Launch} {Ln : Nat} {xs : Nat → Int32} {d : Nat} (f : Nat) (kt2 : Int32 → ev_M → Option (Int32 × ev_M))  (a1 : Int32) (a2 : Int32)  (m : ev_M)  (hkt2 : ∀ (e1 : Int32) (em : ev_M), Ev ev_eI l Ln xs YX10_wordHere d Sx 2 [some (.ref 13), some (.int e1), none] [] em (kt2 e1 em)) (hd : 4 ≤ d) : Ev ev_eI l Ln xs YX10_wordHere d Sx 69 [some (.ref 13), some (.int a1), some (.int a2)] [] m (FX10_wordHere_J69 f kt2 a1 a2 m) := by
  unfold FX10_wordHere_J69
  refine Ev.run (pc' := 72) (ls' := [some (.ref 13), some (.int a1), some (.int a2)]) (st' := [.int 6, .int a2]) (m' := m) [(.iload_n 2, 0, 0, 0, 0), (.bipush 6, 0, 0, 6, 0)] (by decide +kernel) rfl ?_
  refine Ev.ic_ne (t := 77) (by decide +kernel) ?_ ?_
  · refine Ev.run (pc' := 80) (ls' := [some (.ref 13), some (.int (a1 + 1)), some (.int a2)]) (st' := []) (m' := m) [(.iinc 1 1, 0, 0, 1, 0)] (by decide +kernel) rfl ?_
    refine Ev.gto (t := 2) (by decide +kernel) ?_
    refine Ev.le (ls' := [some (.ref 13), some (.int (a1 + 1)), none]) ⟨rfl, ⟨rfl, trivial⟩⟩ ?_
    exact hkt2 _ _
  · refine Ev.run (pc' := 76) (ls' := [some (.ref 13), some (.int a1), some (.int a2)]) (st' := [.int a1]) (m' := m) [(.iload_n 1, 0, 0, 0, 0)] (by decide +kernel) rfl ?_
    exact Ev.ireti rfl rfl (by decide +kernel)
set_option maxRecDepth 100000 in
set_option maxHeartbeats 4000000 in
theorem EX10_wordHere_L2 {l : Launch} {Ln : Nat} {xs : Nat → Int32} {d : Nat} (f : Nat) (k : ev_M → Option (Int32 × ev_M))     (hk : ∀  (em : ev_M), Ev ev_eI l Ln xs YX10_wordHere d Sx 83 [none, none, none] [] em (k em)) (hd : 4 ≤ d) : ∀ (n : Nat) (a1 : Int32) (m : ev_M), Ev ev_eI l Ln xs YX10_wordHere d Sx 2 [some (.ref 13), some (.int a1), none] [] m (FX10_wordHere_L2 f k n a1 m) := by
  intro n
  induction n with
  | zero => intros; exact Ev.nn
  | succ n ih =>
    intro a1 m
    rw [FX10_wordHere_L2]
    refine Ev.run (pc' := 5) (ls' := [some (.ref 13), some (.int a1), none]) (st' := [.int 29, .int a1]) (m' := m) [(.iload_n 1, 0, 0, 0, 0), (.bipush 29, 0, 0, 29, 0)] (by decide +kernel) rfl ?_
    refine Ev.ic_ge (t := 83) (by decide +kernel) ?_ ?_
    · refine Ev.le (ls' := [none, none, none]) trivial ?_
      exact hk _
    · refine Ev.run (pc' := 14) (ls' := [some (.ref 13), some (.int a1), none]) (st' := [.int 6, .int (m.1 13 6)]) (m' := m) [(.aload_n 0, 0, 0, 0, 0), (.getfield 31, 10, 6, 0, 0), (.bipush 6, 0, 0, 6, 0)] (by decide +kernel) rfl ?_
      refine Ev.ic_gt (t := 83) (by decide +kernel) ?_ ?_
      · refine Ev.le (ls' := [none, none, none]) trivial ?_
        exact hk _
      · refine Ev.run (pc' := 19) (ls' := [some (.ref 13), some (.int a1), some (.int 0)]) (st' := []) (m' := m) [(.iconst 0, 0, 0, 0, 0), (.istore_n 2, 0, 0, 0, 0)] (by decide +kernel) rfl ?_
        refine EX10_wordHere_L19 f _ a1 ?_ (by omega) _ _ _
        intro e1 m2
        exact EX10_wordHere_J69 f (FX10_wordHere_L2 f k n) a1 e1 m2 ih (by omega)
set_option maxRecDepth 100000 in
set_option maxHeartbeats 4000000 in
theorem EX10_wordHere {l : Launch} {Ln : Nat} {xs : Nat → Int32} {d : Nat} (f : Nat)  (m : ev_M)  (hd : 4 ≤ d) : Mv ev_eI l Ln xs YX10_wordHere d Sx [.ref 13] m (FX10_wordHere f  m) := by
  refine Mv.of (by decide +kernel) rfl (Nat.le_of_ble_eq_true rfl) (Ev.le (ls' := [some (.ref 13), none, none]) ⟨rfl, trivial⟩ ?_)
  unfold FX10_wordHere
  refine Ev.run (pc' := 2) (ls' := [some (.ref 13), some (.int 0), none]) (st' := []) (m' := m) [(.iconst 0, 0, 0, 0, 0), (.istore_n 1, 0, 0, 0, 0)] (by decide +kernel) rfl ?_
  refine EX10_wordHere_L2 f _ ?_ (by omega) _ _ _
  intro m3
  refine Ev.run (pc' := 84) (ls' := [none, none, none]) (st' := [.int (-1)]) (m' := m3) [(.iconst (-1), 0, 0, (-1), 0)] (by decide +kernel) rfl ?_
  exact Ev.ireti rfl rfl (by decide +kernel)
def FX10_numberHere_L4 (f : Nat) (k : Int32 → ev_M → Option (Int32 × ev_M))   : Nat → Int32 → Int32 → ev_M → Option (Int32 × ev_M)
  | 0, _, _, _ => none
  | n + 1, a1, a2, m => (if (m.1 13 6) ≤ a2 then (k a1 m) else (if 4 ≤ a2 then (k a1 m) else (if ev_in ((m.1 13 2) + a2) 1600 then (FX10_numberHere_L4 f k n (((a1 * 10) + (m.1 14 ((m.1 13 2) + a2).toNatClampNeg)) - 48) (a2 + 1) m) else none)))
def FX10_numberHere (f : Nat)  (m : ev_M) : Option (Int32 × ev_M) :=
  (FX10_numberHere_L4 f (fun e1 m2 => some (e1, m2)) f (0 : Int32) (0 : Int32) m)
set_option maxRecDepth 100000 in
set_option maxHeartbeats 4000000 in
theorem EX10_numberHere_L4 {l : Launch} {Ln : Nat} {xs : Nat → Int32} {d : Nat} (f : Nat) (k : Int32 → ev_M → Option (Int32 × ev_M))     (hk : ∀ (e1 : Int32) (em : ev_M), Ev ev_eI l Ln xs YX10_numberHere d Sx 43 [none, some (.int e1), none] [] em (k e1 em)) (hd : 0 ≤ d) : ∀ (n : Nat) (a1 : Int32) (a2 : Int32) (m : ev_M), Ev ev_eI l Ln xs YX10_numberHere d Sx 4 [some (.ref 13), some (.int a1), some (.int a2)] [] m (FX10_numberHere_L4 f k n a1 a2 m) := by
  intro n
  induction n with
  | zero => intros; exact Ev.nn
  | succ n ih =>
    intro a1 a2 m
    rw [FX10_numberHere_L4]
    refine Ev.run (pc' := 9) (ls' := [some (.ref 13), some (.int a1), some (.int a2)]) (st' := [.int (m.1 13 6), .int a2]) (m' := m) [(.iload_n 2, 0, 0, 0, 0), (.aload_n 0, 0, 0, 0, 0), (.getfield 31, 10, 6, 0, 0)] (by decide +kernel) rfl ?_
    refine Ev.ic_ge (t := 43) (by decide +kernel) ?_ ?_
    · refine Ev.le (ls' := [none, some (.int a1), none]) ⟨rfl, trivial⟩ ?_
      exact hk _ _
    · refine Ev.run (pc' := 14) (ls' := [some (.ref 13), some (.int a1), some (.int a2)]) (st' := [.int 4, .int a2]) (m' := m) [(.iload_n 2, 0, 0, 0, 0), (.iconst 4, 0, 0, 4, 0)] (by decide +kernel) rfl ?_
      refine Ev.ic_ge (t := 43) (by decide +kernel) ?_ ?_
      · refine Ev.le (ls' := [none, some (.int a1), none]) ⟨rfl, trivial⟩ ?_
        exact hk _ _
      · refine Ev.run (pc' := 31) (ls' := [some (.ref 13), some (.int a1), some (.int a2)]) (st' := [.int ((m.1 13 2) + a2), .ref 14, .int (a1 * 10)]) (m' := m) [(.iload_n 1, 0, 0, 0, 0), (.bipush 10, 0, 0, 10, 0), (.imul, 0, 0, 0, 0), (.aload_n 0, 0, 0, 0, 0), (.getfield 9, 10, 0, 0, 0), (.aload_n 0, 0, 0, 0, 0), (.getfield 19, 10, 2, 0, 0), (.iload_n 2, 0, 0, 0, 0), (.iadd, 0, 0, 0, 0)] (by decide +kernel) rfl ?_
        refine Ev.iald (n := 1600) (by decide +kernel) (by decide) rfl ?_
        refine Ev.run (pc' := 40) (ls' := [some (.ref 13), some (.int (((a1 * 10) + (m.1 14 ((m.1 13 2) + a2).toNatClampNeg)) - 48)), some (.int (a2 + 1))]) (st' := []) (m' := m) [(.iadd, 0, 0, 0, 0), (.bipush 48, 0, 0, 48, 0), (.isub, 0, 0, 0, 0), (.istore_n 1, 0, 0, 0, 0), (.iinc 2 1, 0, 0, 1, 0)] (by decide +kernel) rfl ?_
        refine Ev.gto (t := 4) (by decide +kernel) ?_
        exact ih _ _ _
set_option maxRecDepth 100000 in
set_option maxHeartbeats 4000000 in
theorem EX10_numberHere {l : Launch} {Ln : Nat} {xs : Nat → Int32} {d : Nat} (f : Nat)  (m : ev_M)  (hd : 0 ≤ d) : Mv ev_eI l Ln xs YX10_numberHere d Sx [.ref 13] m (FX10_numberHere f  m) := by
  refine Mv.of (by decide +kernel) rfl (Nat.le_of_ble_eq_true rfl) (Ev.le (ls' := [some (.ref 13), none, none]) ⟨rfl, trivial⟩ ?_)
  unfold FX10_numberHere
  refine Ev.run (pc' := 4) (ls' := [some (.ref 13), some (.int 0), some (.int 0)]) (st' := []) (m' := m) [(.iconst 0, 0, 0, 0, 0), (.istore_n 1, 0, 0, 0, 0), (.iconst 0, 0, 0, 0, 0), (.istore_n 2, 0, 0, 0, 0)] (by decide +kernel) rfl ?_
  refine EX10_numberHere_L4 f _ ?_ (by omega) _ _ _ _
  intro e1 m2
  refine Ev.run (pc' := 44) (ls' := [none, some (.int e1), none]) (st' := [.int e1]) (m' := m2) [(.iload_n 1, 0, 0, 0, 0)] (by decide +kernel) rfl ?_
  exact Ev.ireti rfl rfl (by decide +kernel)
def FX10_isEnd (f : Nat)  (m : ev_M) : Option (Int32 × ev_M) :=
  (if (m.1 13 5) = 0 then some (1, m) else some (0, m))
set_option maxRecDepth 100000 in
set_option maxHeartbeats 4000000 in
theorem EX10_isEnd {l : Launch} {Ln : Nat} {xs : Nat → Int32} {d : Nat} (f : Nat)  (m : ev_M)  (hd : 0 ≤ d) : Mv ev_eI l Ln xs YX10_isEnd d Sx [.ref 13] m (FX10_isEnd f  m) := by
  refine Mv.of (by decide +kernel) rfl (Nat.le_of_ble_eq_true rfl) (Ev.le (ls' := [some (.ref 13)]) ⟨rfl, trivial⟩ ?_)
  unfold FX10_isEnd
  refine Ev.run (pc' := 4) (ls' := [some (.ref 13)]) (st' := [.int (m.1 13 5)]) (m' := m) [(.aload_n 0, 0, 0, 0, 0), (.getfield 28, 10, 5, 0, 0)] (by decide +kernel) rfl ?_
  refine Ev.if_ne (t := 11) (by decide +kernel) ?_ ?_
  · refine Ev.run (pc' := 12) (ls' := [some (.ref 13)]) (st' := [.int 0]) (m' := m) [(.iconst 0, 0, 0, 0, 0)] (by decide +kernel) rfl ?_
    exact Ev.iretz rfl rfl (by decide +kernel) (by decide)
  · refine Ev.run (pc' := 8) (ls' := [some (.ref 13)]) (st' := [.int 1]) (m' := m) [(.iconst 1, 0, 0, 1, 0)] (by decide +kernel) rfl ?_
    refine Ev.gto (t := 12) (by decide +kernel) ?_
    exact Ev.iretz rfl rfl (by decide +kernel) (by decide)
def FX10_isNumber (f : Nat)  (m : ev_M) : Option (Int32 × ev_M) :=
  (if (m.1 13 5) = 2 then some (1, m) else some (0, m))
set_option maxRecDepth 100000 in
set_option maxHeartbeats 4000000 in
theorem EX10_isNumber {l : Launch} {Ln : Nat} {xs : Nat → Int32} {d : Nat} (f : Nat)  (m : ev_M)  (hd : 0 ≤ d) : Mv ev_eI l Ln xs YX10_isNumber d Sx [.ref 13] m (FX10_isNumber f  m) := by
  refine Mv.of (by decide +kernel) rfl (Nat.le_of_ble_eq_true rfl) (Ev.le (ls' := [some (.ref 13)]) ⟨rfl, trivial⟩ ?_)
  unfold FX10_isNumber
  refine Ev.run (pc' := 5) (ls' := [some (.ref 13)]) (st' := [.int 2, .int (m.1 13 5)]) (m' := m) [(.aload_n 0, 0, 0, 0, 0), (.getfield 28, 10, 5, 0, 0), (.iconst 2, 0, 0, 2, 0)] (by decide +kernel) rfl ?_
  refine Ev.ic_ne (t := 12) (by decide +kernel) ?_ ?_
  · refine Ev.run (pc' := 13) (ls' := [some (.ref 13)]) (st' := [.int 0]) (m' := m) [(.iconst 0, 0, 0, 0, 0)] (by decide +kernel) rfl ?_
    exact Ev.iretz rfl rfl (by decide +kernel) (by decide)
  · refine Ev.run (pc' := 9) (ls' := [some (.ref 13)]) (st' := [.int 1]) (m' := m) [(.iconst 1, 0, 0, 1, 0)] (by decide +kernel) rfl ?_
    refine Ev.gto (t := 13) (by decide +kernel) ?_
    exact Ev.iretz rfl rfl (by decide +kernel) (by decide)
def FX10_isSign (f : Nat) (a1 : Int32) (m : ev_M) : Option (Int32 × ev_M) :=
  (if (m.1 13 5) = 3 then (if (m.1 13 7) = a1 then some (1, m) else some (0, m)) else some (0, m))
set_option maxRecDepth 100000 in
set_option maxHeartbeats 4000000 in
theorem EX10_isSign {l : Launch} {Ln : Nat} {xs : Nat → Int32} {d : Nat} (f : Nat) (a1 : Int32) (m : ev_M)  (hd : 0 ≤ d) : Mv ev_eI l Ln xs YX10_isSign d Sx [.ref 13, .int a1] m (FX10_isSign f a1 m) := by
  refine Mv.of (by decide +kernel) rfl (Nat.le_of_ble_eq_true rfl) (Ev.le (ls' := [some (.ref 13), some (.int a1)]) ⟨rfl, ⟨rfl, trivial⟩⟩ ?_)
  unfold FX10_isSign
  refine Ev.run (pc' := 5) (ls' := [some (.ref 13), some (.int a1)]) (st' := [.int 3, .int (m.1 13 5)]) (m' := m) [(.aload_n 0, 0, 0, 0, 0), (.getfield 28, 10, 5, 0, 0), (.iconst 3, 0, 0, 3, 0)] (by decide +kernel) rfl ?_
  refine Ev.ic_ne (t := 20) (by decide +kernel) ?_ ?_
  · refine Ev.run (pc' := 21) (ls' := [some (.ref 13), some (.int a1)]) (st' := [.int 0]) (m' := m) [(.iconst 0, 0, 0, 0, 0)] (by decide +kernel) rfl ?_
    exact Ev.iretz rfl rfl (by decide +kernel) (by decide)
  · refine Ev.run (pc' := 13) (ls' := [some (.ref 13), some (.int a1)]) (st' := [.int a1, .int (m.1 13 7)]) (m' := m) [(.aload_n 0, 0, 0, 0, 0), (.getfield 34, 10, 7, 0, 0), (.iload_n 1, 0, 0, 0, 0)] (by decide +kernel) rfl ?_
    refine Ev.ic_ne (t := 20) (by decide +kernel) ?_ ?_
    · refine Ev.run (pc' := 21) (ls' := [some (.ref 13), some (.int a1)]) (st' := [.int 0]) (m' := m) [(.iconst 0, 0, 0, 0, 0)] (by decide +kernel) rfl ?_
      exact Ev.iretz rfl rfl (by decide +kernel) (by decide)
    · refine Ev.run (pc' := 17) (ls' := [some (.ref 13), some (.int a1)]) (st' := [.int 1]) (m' := m) [(.iconst 1, 0, 0, 1, 0)] (by decide +kernel) rfl ?_
      refine Ev.gto (t := 21) (by decide +kernel) ?_
      exact Ev.iretz rfl rfl (by decide +kernel) (by decide)
def FX10_isWord (f : Nat) (a1 : Int32) (m : ev_M) : Option (Int32 × ev_M) :=
  (if (m.1 13 5) = 1 then (if (m.1 13 7) = a1 then some (1, m) else some (0, m)) else some (0, m))
set_option maxRecDepth 100000 in
set_option maxHeartbeats 4000000 in
theorem EX10_isWord {l : Launch} {Ln : Nat} {xs : Nat → Int32} {d : Nat} (f : Nat) (a1 : Int32) (m : ev_M)  (hd : 0 ≤ d) : Mv ev_eI l Ln xs YX10_isWord d Sx [.ref 13, .int a1] m (FX10_isWord f a1 m) := by
  refine Mv.of (by decide +kernel) rfl (Nat.le_of_ble_eq_true rfl) (Ev.le (ls' := [some (.ref 13), some (.int a1)]) ⟨rfl, ⟨rfl, trivial⟩⟩ ?_)
  unfold FX10_isWord
  refine Ev.run (pc' := 5) (ls' := [some (.ref 13), some (.int a1)]) (st' := [.int 1, .int (m.1 13 5)]) (m' := m) [(.aload_n 0, 0, 0, 0, 0), (.getfield 28, 10, 5, 0, 0), (.iconst 1, 0, 0, 1, 0)] (by decide +kernel) rfl ?_
  refine Ev.ic_ne (t := 20) (by decide +kernel) ?_ ?_
  · refine Ev.run (pc' := 21) (ls' := [some (.ref 13), some (.int a1)]) (st' := [.int 0]) (m' := m) [(.iconst 0, 0, 0, 0, 0)] (by decide +kernel) rfl ?_
    exact Ev.iretz rfl rfl (by decide +kernel) (by decide)
  · refine Ev.run (pc' := 13) (ls' := [some (.ref 13), some (.int a1)]) (st' := [.int a1, .int (m.1 13 7)]) (m' := m) [(.aload_n 0, 0, 0, 0, 0), (.getfield 34, 10, 7, 0, 0), (.iload_n 1, 0, 0, 0, 0)] (by decide +kernel) rfl ?_
    refine Ev.ic_ne (t := 20) (by decide +kernel) ?_ ?_
    · refine Ev.run (pc' := 21) (ls' := [some (.ref 13), some (.int a1)]) (st' := [.int 0]) (m' := m) [(.iconst 0, 0, 0, 0, 0)] (by decide +kernel) rfl ?_
      exact Ev.iretz rfl rfl (by decide +kernel) (by decide)
    · refine Ev.run (pc' := 17) (ls' := [some (.ref 13), some (.int a1)]) (st' := [.int 1]) (m' := m) [(.iconst 1, 0, 0, 1, 0)] (by decide +kernel) rfl ?_
      refine Ev.gto (t := 21) (by decide +kernel) ?_
      exact Ev.iretz rfl rfl (by decide +kernel) (by decide)
def FX10_word (f : Nat)  (m : ev_M) : Option (Int32 × ev_M) :=
  (if (m.1 13 5) = 1 then some ((m.1 13 7), m) else some ((-1), m))
set_option maxRecDepth 100000 in
set_option maxHeartbeats 4000000 in
theorem EX10_word {l : Launch} {Ln : Nat} {xs : Nat → Int32} {d : Nat} (f : Nat)  (m : ev_M)  (hd : 0 ≤ d) : Mv ev_eI l Ln xs YX10_word d Sx [.ref 13] m (FX10_word f  m) := by
  refine Mv.of (by decide +kernel) rfl (Nat.le_of_ble_eq_true rfl) (Ev.le (ls' := [some (.ref 13)]) ⟨rfl, trivial⟩ ?_)
  unfold FX10_word
  refine Ev.run (pc' := 5) (ls' := [some (.ref 13)]) (st' := [.int 1, .int (m.1 13 5)]) (m' := m) [(.aload_n 0, 0, 0, 0, 0), (.getfield 28, 10, 5, 0, 0), (.iconst 1, 0, 0, 1, 0)] (by decide +kernel) rfl ?_
  refine Ev.ic_ne (t := 15) (by decide +kernel) ?_ ?_
  · refine Ev.run (pc' := 16) (ls' := [some (.ref 13)]) (st' := [.int (-1)]) (m' := m) [(.iconst (-1), 0, 0, (-1), 0)] (by decide +kernel) rfl ?_
    exact Ev.ireti rfl rfl (by decide +kernel)
  · refine Ev.run (pc' := 12) (ls' := [some (.ref 13)]) (st' := [.int (m.1 13 7)]) (m' := m) [(.aload_n 0, 0, 0, 0, 0), (.getfield 34, 10, 7, 0, 0)] (by decide +kernel) rfl ?_
    refine Ev.gto (t := 16) (by decide +kernel) ?_
    exact Ev.ireti rfl rfl (by decide +kernel)
def FX10_checkName_J57 (f : Nat)     (m : ev_M) : Option (Int32 × ev_M) :=
  (ev_bd (FX10_isGood f m) (fun r3 m4 => (if r3 = 0 ∨ r3 = 1 then some (r3, m4) else none)))
def FX10_checkName_J24 (f : Nat)     (m : ev_M) : Option (Int32 × ev_M) :=
  (ev_bd (FX10_fail f (1 : Int32) (m.1 13 2) m) (fun _ m2 => (FX10_checkName_J57 f m2)))
def FX10_checkName_J36 (f : Nat)     (m : ev_M) : Option (Int32 × ev_M) :=
  (if (m.1 13 6) ≤ 6 then (FX10_checkName_J57 f m) else (ev_bd (FX10_fail f (1 : Int32) ((m.1 13 2) + 6) m) (fun _ m6 => (FX10_checkName_J57 f m6))))
def FX10_checkName (f : Nat)  (m : ev_M) : Option (Int32 × ev_M) :=
  (if (m.1 13 5) = 1 then (if (m.1 13 7) < 0 then (FX10_checkName_J36 f m) else (if 23 ≤ (m.1 13 7) then (FX10_checkName_J36 f m) else (FX10_checkName_J24 f m))) else (FX10_checkName_J24 f m))
set_option maxRecDepth 100000 in
set_option maxHeartbeats 4000000 in
theorem EX10_checkName_J57 {l : Launch} {Ln : Nat} {xs : Nat → Int32} {d : Nat} (f : Nat)     (m : ev_M)   (hd : 1 ≤ d) : Ev ev_eI l Ln xs YX10_checkName d Sx 57 [some (.ref 13)] [] m (FX10_checkName_J57 f m) := by
  unfold FX10_checkName_J57
  refine Ev.run (pc' := 58) (ls' := [some (.ref 13)]) (st' := [.ref 13]) (m' := m) [(.aload_n 0, 0, 0, 0, 0)] (by decide +kernel) rfl ?_
  refine Ev.cV (av := []) (st := []) (a := 13) (EX10_isGood (l := l) (Ln := Ln) (xs := xs) (d := 0) f m (by decide)) rfl (by decide +kernel) mwX10_isGood iwX10_isGood vwX10_isGood lk_10_81 (by omega) (by decide) rfl (by decide) rfl rfl (Nat.le_of_ble_eq_true rfl) (fun r3 m4 => ?_)
  exact Ev.iretb rfl rfl (by decide +kernel)
set_option maxRecDepth 100000 in
set_option maxHeartbeats 4000000 in
theorem EX10_checkName_J24 {l : Launch} {Ln : Nat} {xs : Nat → Int32} {d : Nat} (f : Nat)     (m : ev_M)   (hd : 1 ≤ d) : Ev ev_eI l Ln xs YX10_checkName d Sx 24 [some (.ref 13)] [] m (FX10_checkName_J24 f m) := by
  unfold FX10_checkName_J24
  refine Ev.run (pc' := 30) (ls' := [some (.ref 13)]) (st' := [.int (m.1 13 2), .int 1, .ref 13]) (m' := m) [(.aload_n 0, 0, 0, 0, 0), (.iconst 1, 0, 0, 1, 0), (.aload_n 0, 0, 0, 0, 0), (.getfield 19, 10, 2, 0, 0)] (by decide +kernel) rfl ?_
  refine Ev.cV (av := [.int 1, .int (m.1 13 2)]) (st := []) (a := 13) (EX10_fail (l := l) (Ln := Ln) (xs := xs) (d := 0) f (1 : Int32) (m.1 13 2) m (by decide)) rfl (by decide +kernel) mwX10_fail iwX10_fail vwX10_fail lk_10_74 (by omega) (by decide) rfl (by decide) rfl rfl (Nat.le_of_ble_eq_true rfl) (fun r1 m2 => ?_)
  refine Ev.gto (t := 57) (by decide +kernel) ?_
  exact EX10_checkName_J57 f m2 (by omega)
set_option maxRecDepth 100000 in
set_option maxHeartbeats 4000000 in
theorem EX10_checkName_J36 {l : Launch} {Ln : Nat} {xs : Nat → Int32} {d : Nat} (f : Nat)     (m : ev_M)   (hd : 1 ≤ d) : Ev ev_eI l Ln xs YX10_checkName d Sx 36 [some (.ref 13)] [] m (FX10_checkName_J36 f m) := by
  unfold FX10_checkName_J36
  refine Ev.run (pc' := 42) (ls' := [some (.ref 13)]) (st' := [.int 6, .int (m.1 13 6)]) (m' := m) [(.aload_n 0, 0, 0, 0, 0), (.getfield 31, 10, 6, 0, 0), (.bipush 6, 0, 0, 6, 0)] (by decide +kernel) rfl ?_
  refine Ev.ic_le (t := 57) (by decide +kernel) ?_ ?_
  · exact EX10_checkName_J57 f m (by omega)
  · refine Ev.run (pc' := 54) (ls' := [some (.ref 13)]) (st' := [.int ((m.1 13 2) + 6), .int 1, .ref 13]) (m' := m) [(.aload_n 0, 0, 0, 0, 0), (.iconst 1, 0, 0, 1, 0), (.aload_n 0, 0, 0, 0, 0), (.getfield 19, 10, 2, 0, 0), (.bipush 6, 0, 0, 6, 0), (.iadd, 0, 0, 0, 0)] (by decide +kernel) rfl ?_
    refine Ev.cV (av := [.int 1, .int ((m.1 13 2) + 6)]) (st := []) (a := 13) (EX10_fail (l := l) (Ln := Ln) (xs := xs) (d := 0) f (1 : Int32) ((m.1 13 2) + 6) m (by decide)) rfl (by decide +kernel) mwX10_fail iwX10_fail vwX10_fail lk_10_74 (by omega) (by decide) rfl (by decide) rfl rfl (Nat.le_of_ble_eq_true rfl) (fun r5 m6 => ?_)
    exact EX10_checkName_J57 f m6 (by omega)
set_option maxRecDepth 100000 in
set_option maxHeartbeats 4000000 in
theorem EX10_checkName {l : Launch} {Ln : Nat} {xs : Nat → Int32} {d : Nat} (f : Nat)  (m : ev_M)  (hd : 1 ≤ d) : Mv ev_eI l Ln xs YX10_checkName d Sx [.ref 13] m (FX10_checkName f  m) := by
  refine Mv.of (by decide +kernel) rfl (Nat.le_of_ble_eq_true rfl) (Ev.le (ls' := [some (.ref 13)]) ⟨rfl, trivial⟩ ?_)
  unfold FX10_checkName
  refine Ev.run (pc' := 5) (ls' := [some (.ref 13)]) (st' := [.int 1, .int (m.1 13 5)]) (m' := m) [(.aload_n 0, 0, 0, 0, 0), (.getfield 28, 10, 5, 0, 0), (.iconst 1, 0, 0, 1, 0)] (by decide +kernel) rfl ?_
  refine Ev.ic_ne (t := 24) (by decide +kernel) ?_ ?_
  · exact EX10_checkName_J24 f m (by omega)
  · refine Ev.run (pc' := 12) (ls' := [some (.ref 13)]) (st' := [.int (m.1 13 7)]) (m' := m) [(.aload_n 0, 0, 0, 0, 0), (.getfield 34, 10, 7, 0, 0)] (by decide +kernel) rfl ?_
    refine Ev.if_lt (t := 36) (by decide +kernel) ?_ ?_
    · exact EX10_checkName_J36 f m (by omega)
    · refine Ev.run (pc' := 21) (ls' := [some (.ref 13)]) (st' := [.int 23, .int (m.1 13 7)]) (m' := m) [(.aload_n 0, 0, 0, 0, 0), (.getfield 34, 10, 7, 0, 0), (.bipush 23, 0, 0, 23, 0)] (by decide +kernel) rfl ?_
      refine Ev.ic_ge (t := 36) (by decide +kernel) ?_ ?_
      · exact EX10_checkName_J36 f m (by omega)
      · exact EX10_checkName_J24 f m (by omega)
