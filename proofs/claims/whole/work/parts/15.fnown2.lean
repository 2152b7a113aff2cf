def FX10_nameLetter (f : Nat) (a1 : Int32) (m : ev_M) : Option (Int32 × ev_M) :=
  (if a1 < 0 then some (0, m) else (if (m.1 13 6) ≤ a1 then some (0, m) else (if (m.1 13 1) ≤ ((m.1 13 2) + a1) then some (0, m) else (if ev_in ((m.1 13 2) + a1) 1600 then some ((((m.1 14 ((m.1 13 2) + a1).toNatClampNeg) - 97) + 1), m) else none))))
set_option maxRecDepth 100000 in
set_option maxHeartbeats 4000000 in
theorem EX10_nameLetter {l : Launch} {Ln : Nat} {xs : Nat → Int32} {d : Nat} (f : Nat) (a1 : Int32) (m : ev_M)  (hd : 0 ≤ d) : Mv ev_eI l Ln xs YX10_nameLetter d Sx [.ref 13, .int a1] m (FX10_nameLetter f a1 m) := by
  refine Mv.of (by decide +kernel) rfl (Nat.le_of_ble_eq_true rfl) (Ev.le (ls' := [some (.ref 13), some (.int a1)]) ⟨rfl, ⟨rfl, trivial⟩⟩ ?_)
  unfold FX10_nameLetter
  refine Ev.run (pc' := 1) (ls' := [some (.ref 13), some (.int a1)]) (st' := [.int a1]) (m' := m) [(.iload_n 1, 0, 0, 0, 0)] (by decide +kernel) rfl ?_
  refine Ev.if_lt (t := 44) (by decide +kernel) ?_ ?_
  · refine Ev.run (pc' := 45) (ls' := [some (.ref 13), some (.int a1)]) (st' := [.int 0]) (m' := m) [(.iconst 0, 0, 0, 0, 0)] (by decide +kernel) rfl ?_
    exact Ev.ireti rfl rfl (by decide +kernel)
  · refine Ev.run (pc' := 9) (ls' := [some (.ref 13), some (.int a1)]) (st' := [.int (m.1 13 6), .int a1]) (m' := m) [(.iload_n 1, 0, 0, 0, 0), (.aload_n 0, 0, 0, 0, 0), (.getfield 31, 10, 6, 0, 0)] (by decide +kernel) rfl ?_
    refine Ev.ic_ge (t := 44) (by decide +kernel) ?_ ?_
    · refine Ev.run (pc' := 45) (ls' := [some (.ref 13), some (.int a1)]) (st' := [.int 0]) (m' := m) [(.iconst 0, 0, 0, 0, 0)] (by decide +kernel) rfl ?_
      exact Ev.ireti rfl rfl (by decide +kernel)
    · refine Ev.run (pc' := 22) (ls' := [some (.ref 13), some (.int a1)]) (st' := [.int (m.1 13 1), .int ((m.1 13 2) + a1)]) (m' := m) [(.aload_n 0, 0, 0, 0, 0), (.getfield 19, 10, 2, 0, 0), (.iload_n 1, 0, 0, 0, 0), (.iadd, 0, 0, 0, 0), (.aload_n 0, 0, 0, 0, 0), (.getfield 15, 10, 1, 0, 0)] (by decide +kernel) rfl ?_
      refine Ev.ic_ge (t := 44) (by decide +kernel) ?_ ?_
      · refine Ev.run (pc' := 45) (ls' := [some (.ref 13), some (.int a1)]) (st' := [.int 0]) (m' := m) [(.iconst 0, 0, 0, 0, 0)] (by decide +kernel) rfl ?_
        exact Ev.ireti rfl rfl (by decide +kernel)
      · refine Ev.run (pc' := 35) (ls' := [some (.ref 13), some (.int a1)]) (st' := [.int ((m.1 13 2) + a1), .ref 14]) (m' := m) [(.aload_n 0, 0, 0, 0, 0), (.getfield 9, 10, 0, 0, 0), (.aload_n 0, 0, 0, 0, 0), (.getfield 19, 10, 2, 0, 0), (.iload_n 1, 0, 0, 0, 0), (.iadd, 0, 0, 0, 0)] (by decide +kernel) rfl ?_
        refine Ev.iald (n := 1600) (by decide +kernel) (by decide) rfl ?_
        refine Ev.run (pc' := 41) (ls' := [some (.ref 13), some (.int a1)]) (st' := [.int (((m.1 14 ((m.1 13 2) + a1).toNatClampNeg) - 97) + 1)]) (m' := m) [(.bipush 97, 0, 0, 97, 0), (.isub, 0, 0, 0, 0), (.iconst 1, 0, 0, 1, 0), (.iadd, 0, 0, 0, 0)] (by decide +kernel) rfl ?_
        refine Ev.gto (t := 45) (by decide +kernel) ?_
        exact Ev.ireti rfl rfl (by decide +kernel)
def FJ6_bitCount_0f7a4 (f : Nat) (a0 : Int32) (m : ev_M) : Option (Int32 × ev_M) :=
  some (((((((((a0 - (((a0 : Int32).toUInt32 >>> ((1 : Int32).toUInt32 &&& Int32.toUInt32 31)).toInt32 &&& 1431655765)) &&& 858993459) + ((((a0 - (((a0 : Int32).toUInt32 >>> ((1 : Int32).toUInt32 &&& Int32.toUInt32 31)).toInt32 &&& 1431655765)) : Int32).toUInt32 >>> ((2 : Int32).toUInt32 &&& Int32.toUInt32 31)).toInt32 &&& 858993459)) + (((((a0 - (((a0 : Int32).toUInt32 >>> ((1 : Int32).toUInt32 &&& Int32.toUInt32 31)).toInt32 &&& 1431655765)) &&& 858993459) + ((((a0 - (((a0 : Int32).toUInt32 >>> ((1 : Int32).toUInt32 &&& Int32.toUInt32 31)).toInt32 &&& 1431655765)) : Int32).toUInt32 >>> ((2 : Int32).toUInt32 &&& Int32.toUInt32 31)).toInt32 &&& 858993459)) : Int32).toUInt32 >>> ((4 : Int32).toUInt32 &&& Int32.toUInt32 31)).toInt32) &&& 252645135) + (((((((a0 - (((a0 : Int32).toUInt32 >>> ((1 : Int32).toUInt32 &&& Int32.toUInt32 31)).toInt32 &&& 1431655765)) &&& 858993459) + ((((a0 - (((a0 : Int32).toUInt32 >>> ((1 : Int32).toUInt32 &&& Int32.toUInt32 31)).toInt32 &&& 1431655765)) : Int32).toUInt32 >>> ((2 : Int32).toUInt32 &&& Int32.toUInt32 31)).toInt32 &&& 858993459)) + (((((a0 - (((a0 : Int32).toUInt32 >>> ((1 : Int32).toUInt32 &&& Int32.toUInt32 31)).toInt32 &&& 1431655765)) &&& 858993459) + ((((a0 - (((a0 : Int32).toUInt32 >>> ((1 : Int32).toUInt32 &&& Int32.toUInt32 31)).toInt32 &&& 1431655765)) : Int32).toUInt32 >>> ((2 : Int32).toUInt32 &&& Int32.toUInt32 31)).toInt32 &&& 858993459)) : Int32).toUInt32 >>> ((4 : Int32).toUInt32 &&& Int32.toUInt32 31)).toInt32) &&& 252645135) : Int32).toUInt32 >>> ((8 : Int32).toUInt32 &&& Int32.toUInt32 31)).toInt32) + ((((((((a0 - (((a0 : Int32).toUInt32 >>> ((1 : Int32).toUInt32 &&& Int32.toUInt32 31)).toInt32 &&& 1431655765)) &&& 858993459) + ((((a0 - (((a0 : Int32).toUInt32 >>> ((1 : Int32).toUInt32 &&& Int32.toUInt32 31)).toInt32 &&& 1431655765)) : Int32).toUInt32 >>> ((2 : Int32).toUInt32 &&& Int32.toUInt32 31)).toInt32 &&& 858993459)) + (((((a0 - (((a0 : Int32).toUInt32 >>> ((1 : Int32).toUInt32 &&& Int32.toUInt32 31)).toInt32 &&& 1431655765)) &&& 858993459) + ((((a0 - (((a0 : Int32).toUInt32 >>> ((1 : Int32).toUInt32 &&& Int32.toUInt32 31)).toInt32 &&& 1431655765)) : Int32).toUInt32 >>> ((2 : Int32).toUInt32 &&& Int32.toUInt32 31)).toInt32 &&& 858993459)) : Int32).toUInt32 >>> ((4 : Int32).toUInt32 &&& Int32.toUInt32 31)).toInt32) &&& 252645135) + (((((((a0 - (((a0 : Int32).toUInt32 >>> ((1 : Int32).toUInt32 &&& Int32.toUInt32 31)).toInt32 &&& 1431655765)) &&& 858993459) + ((((a0 - (((a0 : Int32).toUInt32 >>> ((1 : Int32).toUInt32 &&& Int32.toUInt32 31)).toInt32 &&& 1431655765)) : Int32).toUInt32 >>> ((2 : Int32).toUInt32 &&& Int32.toUInt32 31)).toInt32 &&& 858993459)) + (((((a0 - (((a0 : Int32).toUInt32 >>> ((1 : Int32).toUInt32 &&& Int32.toUInt32 31)).toInt32 &&& 1431655765)) &&& 858993459) + ((((a0 - (((a0 : Int32).toUInt32 >>> ((1 : Int32).toUInt32 &&& Int32.toUInt32 31)).toInt32 &&& 1431655765)) : Int32).toUInt32 >>> ((2 : Int32).toUInt32 &&& Int32.toUInt32 31)).toInt32 &&& 858993459)) : Int32).toUInt32 >>> ((4 : Int32).toUInt32 &&& Int32.toUInt32 31)).toInt32) &&& 252645135) : Int32).toUInt32 >>> ((8 : Int32).toUInt32 &&& Int32.toUInt32 31)).toInt32) : Int32).toUInt32 >>> ((16 : Int32).toUInt32 &&& Int32.toUInt32 31)).toInt32) &&& 63), m)
set_option maxRecDepth 100000 in
set_option maxHeartbeats 4000000 in
theorem EJ6_bitCount_0f7a4 {l : Launch} {Ln : Nat} {xs : Nat → Int32} {d : Nat} (f : Nat) (a0 : Int32) (m : ev_M)  (hd : 0 ≤ d) : Mv ev_eI l Ln xs YJ6_bitCount_0f7a4 d Sx [.int a0] m (FJ6_bitCount_0f7a4 f a0 m) := by
  refine Mv.ofF (by decide +kernel) rfl (Nat.le_of_ble_eq_true rfl) (Ev.le (ls' := [some (.int a0)]) ⟨rfl, trivial⟩ ?_)
  unfold FJ6_bitCount_0f7a4
  refine Ev.run (pc' := 52) (ls' := [some (.int (((((((a0 - (((a0 : Int32).toUInt32 >>> ((1 : Int32).toUInt32 &&& Int32.toUInt32 31)).toInt32 &&& 1431655765)) &&& 858993459) + ((((a0 - (((a0 : Int32).toUInt32 >>> ((1 : Int32).toUInt32 &&& Int32.toUInt32 31)).toInt32 &&& 1431655765)) : Int32).toUInt32 >>> ((2 : Int32).toUInt32 &&& Int32.toUInt32 31)).toInt32 &&& 858993459)) + (((((a0 - (((a0 : Int32).toUInt32 >>> ((1 : Int32).toUInt32 &&& Int32.toUInt32 31)).toInt32 &&& 1431655765)) &&& 858993459) + ((((a0 - (((a0 : Int32).toUInt32 >>> ((1 : Int32).toUInt32 &&& Int32.toUInt32 31)).toInt32 &&& 1431655765)) : Int32).toUInt32 >>> ((2 : Int32).toUInt32 &&& Int32.toUInt32 31)).toInt32 &&& 858993459)) : Int32).toUInt32 >>> ((4 : Int32).toUInt32 &&& Int32.toUInt32 31)).toInt32) &&& 252645135) + (((((((a0 - (((a0 : Int32).toUInt32 >>> ((1 : Int32).toUInt32 &&& Int32.toUInt32 31)).toInt32 &&& 1431655765)) &&& 858993459) + ((((a0 - (((a0 : Int32).toUInt32 >>> ((1 : Int32).toUInt32 &&& Int32.toUInt32 31)).toInt32 &&& 1431655765)) : Int32).toUInt32 >>> ((2 : Int32).toUInt32 &&& Int32.toUInt32 31)).toInt32 &&& 858993459)) + (((((a0 - (((a0 : Int32).toUInt32 >>> ((1 : Int32).toUInt32 &&& Int32.toUInt32 31)).toInt32 &&& 1431655765)) &&& 858993459) + ((((a0 - (((a0 : Int32).toUInt32 >>> ((1 : Int32).toUInt32 &&& Int32.toUInt32 31)).toInt32 &&& 1431655765)) : Int32).toUInt32 >>> ((2 : Int32).toUInt32 &&& Int32.toUInt32 31)).toInt32 &&& 858993459)) : Int32).toUInt32 >>> ((4 : Int32).toUInt32 &&& Int32.toUInt32 31)).toInt32) &&& 252645135) : Int32).toUInt32 >>> ((8 : Int32).toUInt32 &&& Int32.toUInt32 31)).toInt32) + ((((((((a0 - (((a0 : Int32).toUInt32 >>> ((1 : Int32).toUInt32 &&& Int32.toUInt32 31)).toInt32 &&& 1431655765)) &&& 858993459) + ((((a0 - (((a0 : Int32).toUInt32 >>> ((1 : Int32).toUInt32 &&& Int32.toUInt32 31)).toInt32 &&& 1431655765)) : Int32).toUInt32 >>> ((2 : Int32).toUInt32 &&& Int32.toUInt32 31)).toInt32 &&& 858993459)) + (((((a0 - (((a0 : Int32).toUInt32 >>> ((1 : Int32).toUInt32 &&& Int32.toUInt32 31)).toInt32 &&& 1431655765)) &&& 858993459) + ((((a0 - (((a0 : Int32).toUInt32 >>> ((1 : Int32).toUInt32 &&& Int32.toUInt32 31)).toInt32 &&& 1431655765)) : Int32).toUInt32 >>> ((2 : Int32).toUInt32 &&& Int32.toUInt32 31)).toInt32 &&& 858993459)) : Int32).toUInt32 >>> ((4 : Int32).toUInt32 &&& Int32.toUInt32 31)).toInt32) &&& 252645135) + (((((((a0 - (((a0 : Int32).toUInt32 >>> ((1 : Int32).toUInt32 &&& Int32.toUInt32 31)).toInt32 &&& 1431655765)) &&& 858993459) + ((((a0 - (((a0 : Int32).toUInt32 >>> ((1 : Int32).toUInt32 &&& Int32.toUInt32 31)).toInt32 &&& 1431655765)) : Int32).toUInt32 >>> ((2 : Int32).toUInt32 &&& Int32.toUInt32 31)).toInt32 &&& 858993459)) + (((((a0 - (((a0 : Int32).toUInt32 >>> ((1 : Int32).toUInt32 &&& Int32.toUInt32 31)).toInt32 &&& 1431655765)) &&& 858993459) + ((((a0 - (((a0 : Int32).toUInt32 >>> ((1 : Int32).toUInt32 &&& Int32.toUInt32 31)).toInt32 &&& 1431655765)) : Int32).toUInt32 >>> ((2 : Int32).toUInt32 &&& Int32.toUInt32 31)).toInt32 &&& 858993459)) : Int32).toUInt32 >>> ((4 : Int32).toUInt32 &&& Int32.toUInt32 31)).toInt32) &&& 252645135) : Int32).toUInt32 >>> ((8 : Int32).toUInt32 &&& Int32.toUInt32 31)).toInt32) : Int32).toUInt32 >>> ((16 : Int32).toUInt32 &&& Int32.toUInt32 31)).toInt32))]) (st' := [.int ((((((((a0 - (((a0 : Int32).toUInt32 >>> ((1 : Int32).toUInt32 &&& Int32.toUInt32 31)).toInt32 &&& 1431655765)) &&& 858993459) + ((((a0 - (((a0 : Int32).toUInt32 >>> ((1 : Int32).toUInt32 &&& Int32.toUInt32 31)).toInt32 &&& 1431655765)) : Int32).toUInt32 >>> ((2 : Int32).toUInt32 &&& Int32.toUInt32 31)).toInt32 &&& 858993459)) + (((((a0 - (((a0 : Int32).toUInt32 >>> ((1 : Int32).toUInt32 &&& Int32.toUInt32 31)).toInt32 &&& 1431655765)) &&& 858993459) + ((((a0 - (((a0 : Int32).toUInt32 >>> ((1 : Int32).toUInt32 &&& Int32.toUInt32 31)).toInt32 &&& 1431655765)) : Int32).toUInt32 >>> ((2 : Int32).toUInt32 &&& Int32.toUInt32 31)).toInt32 &&& 858993459)) : Int32).toUInt32 >>> ((4 : Int32).toUInt32 &&& Int32.toUInt32 31)).toInt32) &&& 252645135) + (((((((a0 - (((a0 : Int32).toUInt32 >>> ((1 : Int32).toUInt32 &&& Int32.toUInt32 31)).toInt32 &&& 1431655765)) &&& 858993459) + ((((a0 - (((a0 : Int32).toUInt32 >>> ((1 : Int32).toUInt32 &&& Int32.toUInt32 31)).toInt32 &&& 1431655765)) : Int32).toUInt32 >>> ((2 : Int32).toUInt32 &&& Int32.toUInt32 31)).toInt32 &&& 858993459)) + (((((a0 - (((a0 : Int32).toUInt32 >>> ((1 : Int32).toUInt32 &&& Int32.toUInt32 31)).toInt32 &&& 1431655765)) &&& 858993459) + ((((a0 - (((a0 : Int32).toUInt32 >>> ((1 : Int32).toUInt32 &&& Int32.toUInt32 31)).toInt32 &&& 1431655765)) : Int32).toUInt32 >>> ((2 : Int32).toUInt32 &&& Int32.toUInt32 31)).toInt32 &&& 858993459)) : Int32).toUInt32 >>> ((4 : Int32).toUInt32 &&& Int32.toUInt32 31)).toInt32) &&& 252645135) : Int32).toUInt32 >>> ((8 : Int32).toUInt32 &&& Int32.toUInt32 31)).toInt32) + ((((((((a0 - (((a0 : Int32).toUInt32 >>> ((1 : Int32).toUInt32 &&& Int32.toUInt32 31)).toInt32 &&& 1431655765)) &&& 858993459) + ((((a0 - (((a0 : Int32).toUInt32 >>> ((1 : Int32).toUInt32 &&& Int32.toUInt32 31)).toInt32 &&& 1431655765)) : Int32).toUInt32 >>> ((2 : Int32).toUInt32 &&& Int32.toUInt32 31)).toInt32 &&& 858993459)) + (((((a0 - (((a0 : Int32).toUInt32 >>> ((1 : Int32).toUInt32 &&& Int32.toUInt32 31)).toInt32 &&& 1431655765)) &&& 858993459) + ((((a0 - (((a0 : Int32).toUInt32 >>> ((1 : Int32).toUInt32 &&& Int32.toUInt32 31)).toInt32 &&& 1431655765)) : Int32).toUInt32 >>> ((2 : Int32).toUInt32 &&& Int32.toUInt32 31)).toInt32 &&& 858993459)) : Int32).toUInt32 >>> ((4 : Int32).toUInt32 &&& Int32.toUInt32 31)).toInt32) &&& 252645135) + (((((((a0 - (((a0 : Int32).toUInt32 >>> ((1 : Int32).toUInt32 &&& Int32.toUInt32 31)).toInt32 &&& 1431655765)) &&& 858993459) + ((((a0 - (((a0 : Int32).toUInt32 >>> ((1 : Int32).toUInt32 &&& Int32.toUInt32 31)).toInt32 &&& 1431655765)) : Int32).toUInt32 >>> ((2 : Int32).toUInt32 &&& Int32.toUInt32 31)).toInt32 &&& 858993459)) + (((((a0 - (((a0 : Int32).toUInt32 >>> ((1 : Int32).toUInt32 &&& Int32.toUInt32 31)).toInt32 &&& 1431655765)) &&& 858993459) + ((((a0 - (((a0 : Int32).toUInt32 >>> ((1 : Int32).toUInt32 &&& Int32.toUInt32 31)).toInt32 &&& 1431655765)) : Int32).toUInt32 >>> ((2 : Int32).toUInt32 &&& Int32.toUInt32 31)).toInt32 &&& 858993459)) : Int32).toUInt32 >>> ((4 : Int32).toUInt32 &&& Int32.toUInt32 31)).toInt32) &&& 252645135) : Int32).toUInt32 >>> ((8 : Int32).toUInt32 &&& Int32.toUInt32 31)).toInt32) : Int32).toUInt32 >>> ((16 : Int32).toUInt32 &&& Int32.toUInt32 31)).toInt32) &&& 63)]) (m' := m) [(.iload_n 0, 0, 0, 0, 0), (.iload_n 0, 0, 0, 0, 0), (.iconst 1, 0, 0, 1, 0), (.iushr, 0, 0, 0, 0), (.ldc_w 265, 0, 0, 1431655765, 0), (.iand, 0, 0, 0, 0), (.isub, 0, 0, 0, 0), (.istore_n 0, 0, 0, 0, 0), (.iload_n 0, 0, 0, 0, 0), (.ldc_w 266, 0, 0, 858993459, 0), (.iand, 0, 0, 0, 0), (.iload_n 0, 0, 0, 0, 0), (.iconst 2, 0, 0, 2, 0), (.iushr, 0, 0, 0, 0), (.ldc_w 266, 0, 0, 858993459, 0), (.iand, 0, 0, 0, 0), (.iadd, 0, 0, 0, 0), (.istore_n 0, 0, 0, 0, 0), (.iload_n 0, 0, 0, 0, 0), (.iload_n 0, 0, 0, 0, 0), (.iconst 4, 0, 0, 4, 0), (.iushr, 0, 0, 0, 0), (.iadd, 0, 0, 0, 0), (.ldc_w 267, 0, 0, 252645135, 0), (.iand, 0, 0, 0, 0), (.istore_n 0, 0, 0, 0, 0), (.iload_n 0, 0, 0, 0, 0), (.iload_n 0, 0, 0, 0, 0), (.bipush 8, 0, 0, 8, 0), (.iushr, 0, 0, 0, 0), (.iadd, 0, 0, 0, 0), (.istore_n 0, 0, 0, 0, 0), (.iload_n 0, 0, 0, 0, 0), (.iload_n 0, 0, 0, 0, 0), (.bipush 16, 0, 0, 16, 0), (.iushr, 0, 0, 0, 0), (.iadd, 0, 0, 0, 0), (.istore_n 0, 0, 0, 0, 0), (.iload_n 0, 0, 0, 0, 0), (.bipush 63, 0, 0, 63, 0), (.iand, 0, 0, 0, 0)] (by decide +kernel) rfl ?_
  exact Ev.ireti rfl rfl (by decide +kernel)
def FJ9_floorDiv_7cf53 (f : Nat) (a0 : Int32) (a1 : Int32) (m : ev_M) : Option (Int32 × ev_M) :=
  (if a1 = 0 then none else (if 0 ≤ (a0 ^^^ a1) then some ((a0 / a1), m) else (if ((a0 / a1) * a1) = a0 then some ((a0 / a1), m) else some (((a0 / a1) - 1), m))))
set_option maxRecDepth 100000 in
set_option maxHeartbeats 4000000 in
theorem EJ9_floorDiv_7cf53 {l : Launch} {Ln : Nat} {xs : Nat → Int32} {d : Nat} (f : Nat) (a0 : Int32) (a1 : Int32) (m : ev_M)  (hd : 0 ≤ d) : Mv ev_eI l Ln xs YJ9_floorDiv_7cf53 d Sx [.int a0, .int a1] m (FJ9_floorDiv_7cf53 f a0 a1 m) := by
  refine Mv.ofF (by decide +kernel) rfl (Nat.le_of_ble_eq_true rfl) (Ev.le (ls' := [some (.int a0), some (.int a1), none]) ⟨rfl, ⟨rfl, trivial⟩⟩ ?_)
  unfold FJ9_floorDiv_7cf53
  refine Ev.run (pc' := 2) (ls' := [some (.int a0), some (.int a1), none]) (st' := [.int a1, .int a0]) (m' := m) [(.iload_n 0, 0, 0, 0, 0), (.iload_n 1, 0, 0, 0, 0)] (by decide +kernel) rfl ?_
  refine Ev.idiv (by decide +kernel) ?_
  refine Ev.run (pc' := 7) (ls' := [some (.int a0), some (.int a1), some (.int (a0 / a1))]) (st' := [.int (a0 ^^^ a1)]) (m' := m) [(.istore_n 2, 0, 0, 0, 0), (.iload_n 0, 0, 0, 0, 0), (.iload_n 1, 0, 0, 0, 0), (.ixor, 0, 0, 0, 0)] (by decide +kernel) rfl ?_
  refine Ev.if_ge (t := 21) (by decide +kernel) ?_ ?_
  · refine Ev.run (pc' := 22) (ls' := [some (.int a0), some (.int a1), some (.int (a0 / a1))]) (st' := [.int (a0 / a1)]) (m' := m) [(.iload_n 2, 0, 0, 0, 0)] (by decide +kernel) rfl ?_
    exact Ev.ireti rfl rfl (by decide +kernel)
  · refine Ev.run (pc' := 14) (ls' := [some (.int a0), some (.int a1), some (.int (a0 / a1))]) (st' := [.int a0, .int ((a0 / a1) * a1)]) (m' := m) [(.iload_n 2, 0, 0, 0, 0), (.iload_n 1, 0, 0, 0, 0), (.imul, 0, 0, 0, 0), (.iload_n 0, 0, 0, 0, 0)] (by decide +kernel) rfl ?_
    refine Ev.ic_eq (t := 21) (by decide +kernel) ?_ ?_
    · refine Ev.run (pc' := 22) (ls' := [some (.int a0), some (.int a1), some (.int (a0 / a1))]) (st' := [.int (a0 / a1)]) (m' := m) [(.iload_n 2, 0, 0, 0, 0)] (by decide +kernel) rfl ?_
      exact Ev.ireti rfl rfl (by decide +kernel)
    · refine Ev.run (pc' := 20) (ls' := [some (.int a0), some (.int a1), some (.int (a0 / a1))]) (st' := [.int ((a0 / a1) - 1)]) (m' := m) [(.iload_n 2, 0, 0, 0, 0), (.iconst 1, 0, 0, 1, 0), (.isub, 0, 0, 0, 0)] (by decide +kernel) rfl ?_
      exact Ev.ireti rfl rfl (by decide +kernel)
def FJ9_max_7cf53 (f : Nat) (a0 : Int32) (a1 : Int32) (m : ev_M) : Option (Int32 × ev_M) :=
  (if a0 < a1 then some (a1, m) else some (a0, m))
set_option maxRecDepth 100000 in
set_option maxHeartbeats 4000000 in
theorem EJ9_max_7cf53 {l : Launch} {Ln : Nat} {xs : Nat → Int32} {d : Nat} (f : Nat) (a0 : Int32) (a1 : Int32) (m : ev_M)  (hd : 0 ≤ d) : Mv ev_eI l Ln xs YJ9_max_7cf53 d Sx [.int a0, .int a1] m (FJ9_max_7cf53 f a0 a1 m) := by
  refine Mv.ofF (by decide +kernel) rfl (Nat.le_of_ble_eq_true rfl) (Ev.le (ls' := [some (.int a0), some (.int a1)]) ⟨rfl, ⟨rfl, trivial⟩⟩ ?_)
  unfold FJ9_max_7cf53
  refine Ev.run (pc' := 2) (ls' := [some (.int a0), some (.int a1)]) (st' := [.int a1, .int a0]) (m' := m) [(.iload_n 0, 0, 0, 0, 0), (.iload_n 1, 0, 0, 0, 0)] (by decide +kernel) rfl ?_
  refine Ev.ic_lt (t := 9) (by decide +kernel) ?_ ?_
  · refine Ev.run (pc' := 10) (ls' := [some (.int a0), some (.int a1)]) (st' := [.int a1]) (m' := m) [(.iload_n 1, 0, 0, 0, 0)] (by decide +kernel) rfl ?_
    exact Ev.ireti rfl rfl (by decide +kernel)
  · refine Ev.run (pc' := 6) (ls' := [some (.int a0), some (.int a1)]) (st' := [.int a0]) (m' := m) [(.iload_n 0, 0, 0, 0, 0)] (by decide +kernel) rfl ?_
    refine Ev.gto (t := 10) (by decide +kernel) ?_
    exact Ev.ireti rfl rfl (by decide +kernel)
def FJ9_max_f86c9 (f : Nat) (a0 : Int64) (a2 : Int64) (m : ev_M) : Option (Int64 × ev_M) :=
  (if (lg_cmp a0 a2) < 0 then some (a2, m) else some (a0, m))
set_option maxRecDepth 100000 in
set_option maxHeartbeats 4000000 in
theorem EJ9_max_f86c9 {l : Launch} {Ln : Nat} {xs : Nat → Int32} {d : Nat} (f : Nat) (a0 : Int64) (a2 : Int64) (m : ev_M)  (hd : 0 ≤ d) : Mv ev_eL l Ln xs YJ9_max_f86c9 d Sx [.long a0, .long a2] m (FJ9_max_f86c9 f a0 a2 m) := by
  refine Mv.ofF (by decide +kernel) rfl (Nat.le_of_ble_eq_true rfl) (Ev.le (ls' := [some (.long a0), none, some (.long a2), none]) ⟨rfl, ⟨rfl, trivial⟩⟩ ?_)
  unfold FJ9_max_f86c9
  refine Ev.run (pc' := 3) (ls' := [some (.long a0), none, some (.long a2), none]) (st' := [.int (lg_cmp a0 a2)]) (m' := m) [(.lload_n 0, 0, 0, 0, 0), (.lload_n 2, 0, 0, 0, 0), (.lcmp, 0, 0, 0, 0)] (by decide +kernel) rfl ?_
  refine Ev.if_lt (t := 10) (by decide +kernel) ?_ ?_
  · refine Ev.run (pc' := 11) (ls' := [some (.long a0), none, some (.long a2), none]) (st' := [.long a2]) (m' := m) [(.lload_n 2, 0, 0, 0, 0)] (by decide +kernel) rfl ?_
    exact Ev.retl rfl rfl (by decide +kernel)
  · refine Ev.run (pc' := 7) (ls' := [some (.long a0), none, some (.long a2), none]) (st' := [.long a0]) (m' := m) [(.lload_n 0, 0, 0, 0, 0)] (by decide +kernel) rfl ?_
    refine Ev.gto (t := 11) (by decide +kernel) ?_
    exact Ev.retl rfl rfl (by decide +kernel)
def FJ9_min_7cf53 (f : Nat) (a0 : Int32) (a1 : Int32) (m : ev_M) : Option (Int32 × ev_M) :=
  (if a1 < a0 then some (a1, m) else some (a0, m))
set_option maxRecDepth 100000 in
set_option maxHeartbeats 4000000 in
theorem EJ9_min_7cf53 {l : Launch} {Ln : Nat} {xs : Nat → Int32} {d : Nat} (f : Nat) (a0 : Int32) (a1 : Int32) (m : ev_M)  (hd : 0 ≤ d) : Mv ev_eI l Ln xs YJ9_min_7cf53 d Sx [.int a0, .int a1] m (FJ9_min_7cf53 f a0 a1 m) := by
  refine Mv.ofF (by decide +kernel) rfl (Nat.le_of_ble_eq_true rfl) (Ev.le (ls' := [some (.int a0), some (.int a1)]) ⟨rfl, ⟨rfl, trivial⟩⟩ ?_)
  unfold FJ9_min_7cf53
  refine Ev.run (pc' := 2) (ls' := [some (.int a0), some (.int a1)]) (st' := [.int a1, .int a0]) (m' := m) [(.iload_n 0, 0, 0, 0, 0), (.iload_n 1, 0, 0, 0, 0)] (by decide +kernel) rfl ?_
  refine Ev.ic_gt (t := 9) (by decide +kernel) ?_ ?_
  · refine Ev.run (pc' := 10) (ls' := [some (.int a0), some (.int a1)]) (st' := [.int a1]) (m' := m) [(.iload_n 1, 0, 0, 0, 0)] (by decide +kernel) rfl ?_
    exact Ev.ireti rfl rfl (by decide +kernel)
  · refine Ev.run (pc' := 6) (ls' := [some (.int a0), some (.int a1)]) (st' := [.int a0]) (m' := m) [(.iload_n 0, 0, 0, 0, 0)] (by decide +kernel) rfl ?_
    refine Ev.gto (t := 10) (by decide +kernel) ?_
    exact Ev.ireti rfl rfl (by decide +kernel)
def FJ9_min_f86c9 (f : Nat) (a0 : Int64) (a2 : Int64) (m : ev_M) : Option (Int64 × ev_M) :=
  (if 0 < (lg_cmp a0 a2) then some (a2, m) else some (a0, m))
set_option maxRecDepth 100000 in
set_option maxHeartbeats 4000000 in
theorem EJ9_min_f86c9 {l : Launch} {Ln : Nat} {xs : Nat → Int32} {d : Nat} (f : Nat) (a0 : Int64) (a2 : Int64) (m : ev_M)  (hd : 0 ≤ d) : Mv ev_eL l Ln xs YJ9_min_f86c9 d Sx [.long a0, .long a2] m (FJ9_min_f86c9 f a0 a2 m) := by
  refine Mv.ofF (by decide +kernel) rfl (Nat.le_of_ble_eq_true rfl) (Ev.le (ls' := [some (.long a0), none, some (.long a2), none]) ⟨rfl, ⟨rfl, trivial⟩⟩ ?_)
  unfold FJ9_min_f86c9
  refine Ev.run (pc' := 3) (ls' := [some (.long a0), none, some (.long a2), none]) (st' := [.int (lg_cmp a0 a2)]) (m' := m) [(.lload_n 0, 0, 0, 0, 0), (.lload_n 2, 0, 0, 0, 0), (.lcmp, 0, 0, 0, 0)] (by decide +kernel) rfl ?_
  refine Ev.if_gt (t := 10) (by decide +kernel) ?_ ?_
  · refine Ev.run (pc' := 11) (ls' := [some (.long a0), none, some (.long a2), none]) (st' := [.long a2]) (m' := m) [(.lload_n 2, 0, 0, 0, 0)] (by decide +kernel) rfl ?_
    exact Ev.retl rfl rfl (by decide +kernel)
  · refine Ev.run (pc' := 7) (ls' := [some (.long a0), none, some (.long a2), none]) (st' := [.long a0]) (m' := m) [(.lload_n 0, 0, 0, 0, 0)] (by decide +kernel) rfl ?_
    refine Ev.gto (t := 11) (by decide +kernel) ?_
    exact Ev.retl rfl rfl (by decide +kernel)
def FX11_feed (f : Nat) (a1 : Int32) (a2 : Int32) (a3 : Int32) (a4 : Int32) (a5 : Int32) (m : ev_M) : Option (Int32 × ev_M) :=
  (ev_bd (FX10_hasRoom f (20 : Int32) m) (fun r1 m2 => (if r1 = 0 then (ev_bd (FX11_refuse f (0 : Int32) m2) (fun r13 m14 => some ((-1), m14))) else (ev_bd (FX10_write f a1 m2) (fun _ m4 => (ev_bd (FX10_write f a2 m4) (fun _ m6 => (ev_bd (FX10_write f a3 m6) (fun _ m8 => (ev_bd (FX10_write f a4 m8) (fun _ m10 => (ev_bd (FX10_write f a5 m10) (fun _ m12 => some ((m12.1 13 1), m12))))))))))))))
set_option maxRecDepth 100000 in
set_option maxHeartbeats 4000000 in
theorem EX11_feed {l : Launch} {Ln : Nat} {xs : Nat → Int32} {d : Nat} (f : Nat) (a1 : Int32) (a2 : Int32) (a3 : Int32) (a4 : Int32) (a5 : Int32) (m : ev_M)  (hd : 2 ≤ d) : Mv ev_eI l Ln xs YX11_feed d Sx [.ref 0, .int a1, .int a2, .int a3, .int a4, .int a5] m (FX11_feed f a1 a2 a3 a4 a5 m) := by
  refine Mv.of (by decide +kernel) rfl (Nat.le_of_ble_eq_true rfl) (Ev.le (ls' := [some (.ref 0), some (.int a1), some (.int a2), some (.int a3), some (.int a4), some (.int a5)]) ⟨rfl, ⟨rfl, ⟨rfl, ⟨rfl, ⟨rfl, ⟨rfl, trivial⟩⟩⟩⟩⟩⟩ ?_)
  unfold FX11_feed
  refine Ev.run (pc' := 6) (ls' := [some (.ref 0), some (.int a1), some (.int a2), some (.int a3), some (.int a4), some (.int a5)]) (st' := [.int 20, .ref 13]) (m' := m) [(.aload_n 0, 0, 0, 0, 0), (.getfield 22, 11, 2, 0, 0), (.bipush 20, 0, 0, 20, 0)] (by decide +kernel) rfl ?_
  refine Ev.cV (av := [.int 20]) (st := []) (a := 13) (EX10_hasRoom (l := l) (Ln := Ln) (xs := xs) (d := 0) f (20 : Int32) m (by decide)) rfl (by decide +kernel) mwX10_hasRoom iwX10_hasRoom vwX10_hasRoom lk_11_111 (by omega) (by decide) rfl (by decide) rfl rfl (Nat.le_of_ble_eq_true rfl) (fun r1 m2 => ?_)
  refine Ev.if_ne (t := 20) (by decide +kernel) ?_ ?_
  · refine Ev.run (pc' := 25) (ls' := [some (.ref 0), some (.int a1), some (.int a2), some (.int a3), some (.int a4), some (.int a5)]) (st' := [.int a1, .ref 13]) (m' := m2) [(.aload_n 0, 0, 0, 0, 0), (.getfield 22, 11, 2, 0, 0), (.iload_n 1, 0, 0, 0, 0)] (by decide +kernel) rfl ?_
    refine Ev.cV (av := [.int a1]) (st := []) (a := 13) (EX10_write (l := l) (Ln := Ln) (xs := xs) (d := 1) f a1 m2 (by decide)) rfl (by decide +kernel) mwX10_write iwX10_write vwX10_write lk_11_118 (by omega) (by decide) rfl (by decide) rfl rfl (Nat.le_of_ble_eq_true rfl) (fun r3 m4 => ?_)
    refine Ev.run (pc' := 33) (ls' := [some (.ref 0), some (.int a1), some (.int a2), some (.int a3), some (.int a4), some (.int a5)]) (st' := [.int a2, .ref 13]) (m' := m4) [(.aload_n 0, 0, 0, 0, 0), (.getfield 22, 11, 2, 0, 0), (.iload_n 2, 0, 0, 0, 0)] (by decide +kernel) rfl ?_
    refine Ev.cV (av := [.int a2]) (st := []) (a := 13) (EX10_write (l := l) (Ln := Ln) (xs := xs) (d := 1) f a2 m4 (by decide)) rfl (by decide +kernel) mwX10_write iwX10_write vwX10_write lk_11_118 (by omega) (by decide) rfl (by decide) rfl rfl (Nat.le_of_ble_eq_true rfl) (fun r5 m6 => ?_)
    refine Ev.run (pc' := 41) (ls' := [some (.ref 0), some (.int a1), some (.int a2), some (.int a3), some (.int a4), some (.int a5)]) (st' := [.int a3, .ref 13]) (m' := m6) [(.aload_n 0, 0, 0, 0, 0), (.getfield 22, 11, 2, 0, 0), (.iload_n 3, 0, 0, 0, 0)] (by decide +kernel) rfl ?_
    refine Ev.cV (av := [.int a3]) (st := []) (a := 13) (EX10_write (l := l) (Ln := Ln) (xs := xs) (d := 1) f a3 m6 (by decide)) rfl (by decide +kernel) mwX10_write iwX10_write vwX10_write lk_11_118 (by omega) (by decide) rfl (by decide) rfl rfl (Nat.le_of_ble_eq_true rfl) (fun r7 m8 => ?_)
    refine Ev.run (pc' := 50) (ls' := [some (.ref 0), some (.int a1), some (.int a2), some (.int a3), some (.int a4), some (.int a5)]) (st' := [.int a4, .ref 13]) (m' := m8) [(.aload_n 0, 0, 0, 0, 0), (.getfield 22, 11, 2, 0, 0), (.iload 4, 0, 0, 0, 0)] (by decide +kernel) rfl ?_
    refine Ev.cV (av := [.int a4]) (st := []) (a := 13) (EX10_write (l := l) (Ln := Ln) (xs := xs) (d := 1) f a4 m8 (by decide)) rfl (by decide +kernel) mwX10_write iwX10_write vwX10_write lk_11_118 (by omega) (by decide) rfl (by decide) rfl rfl (Nat.le_of_ble_eq_true rfl) (fun r9 m10 => ?_)
    refine Ev.run (pc' := 59) (ls' := [some (.ref 0), some (.int a1), some (.int a2), some (.int a3), some (.int a4), some (.int a5)]) (st' := [.int a5, .ref 13]) (m' := m10) [(.aload_n 0, 0, 0, 0, 0), (.getfield 22, 11, 2, 0, 0), (.iload 5, 0, 0, 0, 0)] (by decide +kernel) rfl ?_
    refine Ev.cV (av := [.int a5]) (st := []) (a := 13) (EX10_write (l := l) (Ln := Ln) (xs := xs) (d := 1) f a5 m10 (by decide)) rfl (by decide +kernel) mwX10_write iwX10_write vwX10_write lk_11_118 (by omega) (by decide) rfl (by decide) rfl rfl (Nat.le_of_ble_eq_true rfl) (fun r11 m12 => ?_)
    refine Ev.run (pc' := 69) (ls' := [some (.ref 0), some (.int a1), some (.int a2), some (.int a3), some (.int a4), some (.int a5)]) (st' := [.int (m12.1 13 1)]) (m' := m12) [(.aload_n 0, 0, 0, 0, 0), (.getfield 22, 11, 2, 0, 0), (.getfield 122, 10, 1, 0, 0)] (by decide +kernel) rfl ?_
    exact Ev.ireti rfl rfl (by decide +kernel)
  · refine Ev.run (pc' := 14) (ls' := [some (.ref 0), some (.int a1), some (.int a2), some (.int a3), some (.int a4), some (.int a5)]) (st' := [.int 0, .ref 0]) (m' := m2) [(.aload_n 0, 0, 0, 0, 0), (.iconst 0, 0, 0, 0, 0)] (by decide +kernel) rfl ?_
    refine Ev.cV (av := [.int 0]) (st := []) (a := 0) (EX11_refuse (l := l) (Ln := Ln) (xs := xs) (d := 0) f (0 : Int32) m2 (by decide)) rfl (by decide +kernel) mwX11_refuse iwX11_refuse vwX11_refuse lk_11_115 (by omega) (by decide) rfl (by decide) rfl rfl (Nat.le_of_ble_eq_true rfl) (fun r13 m14 => ?_)
    refine Ev.run (pc' := 19) (ls' := [some (.ref 0), some (.int a1), some (.int a2), some (.int a3), some (.int a4), some (.int a5)]) (st' := [.int (-1)]) (m' := m14) [(.pop, 0, 0, 0, 0), (.iconst (-1), 0, 0, (-1), 0)] (by decide +kernel) rfl ?_
    exact Ev.ireti rfl rfl (by decide +kernel)
def FX11_end_J15 (f : Nat)     (m : ev_M) : Option (Int32 × ev_M) :=
  (ev_bd (FX11_refuse f (0 : Int32) m) (fun r1 m2 => (if r1 = 0 ∨ r1 = 1 then some (r1, m2) else none)))
def FX11_end (f : Nat) (a1 : Int32) (m : ev_M) : Option (Int32 × ev_M) :=
  (if a1 < 0 then (FX11_end_J15 f m) else (if a1 ≤ (m.1 13 1) then some (1, ((ev_up m.1 13 1 a1), m.2)) else (FX11_end_J15 f m)))
set_option maxRecDepth 100000 in
set_option maxHeartbeats 4000000 in
theorem EX11_end_J15 {l : Launch} {Ln : Nat} {xs : Nat → Int32} {d : Nat} (f : Nat)     (m : ev_M)   (hd : 1 ≤ d) : Ev ev_eI l Ln xs YX11_end d Sx 15 [some (.ref 0), none] [] m (FX11_end_J15 f m) := by
  unfold FX11_end_J15
  refine Ev.run (pc' := 17) (ls' := [some (.ref 0), none]) (st' := [.int 0, .ref 0]) (m' := m) [(.aload_n 0, 0, 0, 0, 0), (.iconst 0, 0, 0, 0, 0)] (by decide +kernel) rfl ?_
  refine Ev.cV (av := [.int 0]) (st := []) (a := 0) (EX11_refuse (l := l) (Ln := Ln) (xs := xs) (d := 0) f (0 : Int32) m (by decide)) rfl (by decide +kernel) mwX11_refuse iwX11_refuse vwX11_refuse lk_11_115 (by omega) (by decide) rfl (by decide) rfl rfl (Nat.le_of_ble_eq_true rfl) (fun r1 m2 => ?_)
  exact Ev.iretb rfl rfl (by decide +kernel)
set_option maxRecDepth 100000 in
set_option maxHeartbeats 4000000 in
theorem EX11_end {l : Launch} {Ln : Nat} {xs : Nat → Int32} {d : Nat} (f : Nat) (a1 : Int32) (m : ev_M)  (hd : 1 ≤ d) : Mv ev_eI l Ln xs YX11_end d Sx [.ref 0, .int a1] m (FX11_end f a1 m) := by
  refine Mv.of (by decide +kernel) rfl (Nat.le_of_ble_eq_true rfl) (Ev.le (ls' := [some (.ref 0), some (.int a1)]) ⟨rfl, ⟨rfl, trivial⟩⟩ ?_)
  unfold FX11_end
  refine Ev.run (pc' := 1) (ls' := [some (.ref 0), some (.int a1)]) (st' := [.int a1]) (m' := m) [(.iload_n 1, 0, 0, 0, 0)] (by decide +kernel) rfl ?_
  refine Ev.if_lt (t := 15) (by decide +kernel) ?_ ?_
  · refine Ev.le (ls' := [some (.ref 0), none]) ⟨rfl, trivial⟩ ?_
    exact EX11_end_J15 f m (by omega)
  · refine Ev.run (pc' := 12) (ls' := [some (.ref 0), some (.int a1)]) (st' := [.int (m.1 13 1), .int a1]) (m' := m) [(.iload_n 1, 0, 0, 0, 0), (.aload_n 0, 0, 0, 0, 0), (.getfield 22, 11, 2, 0, 0), (.getfield 122, 10, 1, 0, 0)] (by decide +kernel) rfl ?_
    refine Ev.ic_le (t := 21) (by decide +kernel) ?_ ?_
    · refine Ev.run (pc' := 30) (ls' := [some (.ref 0), some (.int a1)]) (st' := [.int 1]) (m' := ((ev_up m.1 13 1 a1), m.2)) [(.aload_n 0, 0, 0, 0, 0), (.getfield 22, 11, 2, 0, 0), (.iload_n 1, 0, 0, 0, 0), (.putfield 122, 10, 1, 0, 0), (.iconst 1, 0, 0, 1, 0)] (by decide +kernel) rfl ?_
      exact Ev.iretz rfl rfl (by decide +kernel) (by decide)
    · refine Ev.le (ls' := [some (.ref 0), none]) ⟨rfl, trivial⟩ ?_
      exact EX11_end_J15 f m (by omega)
def FX11_has (f : Nat) (a1 : Int32) (m : ev_M) : Option (Int32 × ev_M) :=
  (if a1 = 0 then (if isK 1 ((m.1 0 0)).toNatClampNeg then some ((m.1 ((m.1 0 0)).toNatClampNeg 5), m) else none) else (if a1 = 1 then some ((m.1 103 2), m) else (if a1 = 2 then (ev_bd (FX11_isTold f m) (fun r4 m5 => (if r4 = 0 then some ((-1), m5) else some ((m5.1 103 3), m5)))) else (if a1 = 3 then (ev_bd (FJ6_bitCount_0f7a4 f (m.1 103 4) m) (fun r7 m8 => some (r7, m8))) else (if a1 = 4 then (ev_bd (FX11_moodsTogether f m) (fun r10 m11 => some (r10, m11))) else (if a1 = 5 then (ev_bd (FJ9_min_7cf53 f (40 : Int32) (m.1 103 5) m) (fun r13 m14 => some (r13, m14))) else (if a1 = 6 then some ((m.1 33 6), m) else (if a1 = 7 then some ((m.1 40 3), m) else some ((-1), m)))))))))
set_option maxRecDepth 100000 in
set_option maxHeartbeats 4000000 in
theorem EX11_has {l : Launch} {Ln : Nat} {xs : Nat → Int32} {d : Nat} (f : Nat) (a1 : Int32) (m : ev_M)  (hd : 1 ≤ d) : Mv ev_eI l Ln xs YX11_has d Sx [.ref 0, .int a1] m (FX11_has f a1 m) := by
  refine Mv.of (by decide +kernel) rfl (Nat.le_of_ble_eq_true rfl) (Ev.le (ls' := [some (.ref 0), some (.int a1)]) ⟨rfl, ⟨rfl, trivial⟩⟩ ?_)
  unfold FX11_has
  refine Ev.run (pc' := 1) (ls' := [some (.ref 0), some (.int a1)]) (st' := [.int a1]) (m' := m) [(.iload_n 1, 0, 0, 0, 0)] (by decide +kernel) rfl ?_
  refine Ev.sw1 0 (t := 48) (by decide +kernel) (by decide) ?_ (fun z2 => ?_)
  · refine Ev.run (pc' := 49) (ls' := [some (.ref 0), some (.int a1)]) (st' := [.ref 0]) (m' := m) [(.aload_n 0, 0, 0, 0, 0)] (by decide +kernel) rfl ?_
    refine Ev.ite (fun h1 => ?_) (fun _ => Ev.nn)
    refine Ev.getS (v := .ref ((m.1 0 0)).toNatClampNeg) (ci := 11) (k := 0) (idx := 10) (by decide +kernel) (by decide +kernel) (by decide) (by rw [show Sx.2.1 0 = (11, 18) from rfl]) (by rw [show Sx.2.1 0 = (11, 18) from rfl]; decide) (ev_gv_dyn1 rfl (Nat.pos_iff_ne_zero.mp (k1_z0 h1))) ?_
    refine Ev.getS (v := .int (m.1 ((m.1 0 0)).toNatClampNeg 5)) (ci := 1) (k := 5) (idx := 147) (by decide +kernel) (by decide +kernel) (k1_l0 h1) (by rw [(k1_s0 h1)]) (by rw [(k1_s0 h1)]; decide) rfl ?_
    exact Ev.ireti rfl rfl (by decide +kernel)
  refine Ev.sw1 1 (t := 56) (by decide +kernel) (by decide) ?_ (fun z3 => ?_)
  · refine Ev.run (pc' := 63) (ls' := [some (.ref 0), some (.int a1)]) (st' := [.int (m.1 103 2)]) (m' := m) [(.aload_n 0, 0, 0, 0, 0), (.getfield 79, 11, 9, 0, 0), (.getfield 150, 8, 2, 0, 0)] (by decide +kernel) rfl ?_
    exact Ev.ireti rfl rfl (by decide +kernel)
  refine Ev.sw1 2 (t := 64) (by decide +kernel) (by decide) ?_ (fun z6 => ?_)
  · refine Ev.run (pc' := 65) (ls' := [some (.ref 0), some (.int a1)]) (st' := [.ref 0]) (m' := m) [(.aload_n 0, 0, 0, 0, 0)] (by decide +kernel) rfl ?_
    refine Ev.cV (av := []) (st := []) (a := 0) (EX11_isTold (l := l) (Ln := Ln) (xs := xs) (d := 0) f m (by decide)) rfl (by decide +kernel) mwX11_isTold iwX11_isTold vwX11_isTold lk_11_153 (by omega) (by decide) rfl (by decide) rfl rfl (Nat.le_of_ble_eq_true rfl) (fun r4 m5 => ?_)
    refine Ev.if_eq (t := 81) (by decide +kernel) ?_ ?_
    · refine Ev.run (pc' := 82) (ls' := [some (.ref 0), some (.int a1)]) (st' := [.int (-1)]) (m' := m5) [(.iconst (-1), 0, 0, (-1), 0)] (by decide +kernel) rfl ?_
      exact Ev.ireti rfl rfl (by decide +kernel)
    · refine Ev.run (pc' := 78) (ls' := [some (.ref 0), some (.int a1)]) (st' := [.int (m5.1 103 3)]) (m' := m5) [(.aload_n 0, 0, 0, 0, 0), (.getfield 79, 11, 9, 0, 0), (.getfield 157, 8, 3, 0, 0)] (by decide +kernel) rfl ?_
      refine Ev.gto (t := 82) (by decide +kernel) ?_
      exact Ev.ireti rfl rfl (by decide +kernel)
  refine Ev.sw1 3 (t := 83) (by decide +kernel) (by decide) ?_ (fun z9 => ?_)
  · refine Ev.run (pc' := 90) (ls' := [some (.ref 0), some (.int a1)]) (st' := [.int (m.1 103 4)]) (m' := m) [(.aload_n 0, 0, 0, 0, 0), (.getfield 79, 11, 9, 0, 0), (.getfield 160, 8, 4, 0, 0)] (by decide +kernel) rfl ?_
    refine Ev.cS (av := [.int (m.1 103 4)]) (st := []) (EJ6_bitCount_0f7a4 (l := l) (Ln := Ln) (xs := xs) (d := 0) f (m.1 103 4) m (by decide)) rfl (by decide +kernel) mwJ6_bitCount_0f7a4 swJ6_bitCount_0f7a4 lk_11_163 (by omega) rfl (Nat.le_of_ble_eq_true rfl) (fun r7 m8 => ?_)
    exact Ev.ireti rfl rfl (by decide +kernel)
  refine Ev.sw1 4 (t := 94) (by decide +kernel) (by decide) ?_ (fun z12 => ?_)
  · refine Ev.run (pc' := 95) (ls' := [some (.ref 0), some (.int a1)]) (st' := [.ref 0]) (m' := m) [(.aload_n 0, 0, 0, 0, 0)] (by decide +kernel) rfl ?_
    refine Ev.cV (av := []) (st := []) (a := 0) (EX11_moodsTogether (l := l) (Ln := Ln) (xs := xs) (d := 0) f m (by decide)) rfl (by decide +kernel) mwX11_moodsTogether iwX11_moodsTogether vwX11_moodsTogether lk_11_169 (by omega) (by decide) rfl (by decide) rfl rfl (Nat.le_of_ble_eq_true rfl) (fun r10 m11 => ?_)
    exact Ev.ireti rfl rfl (by decide +kernel)
  refine Ev.sw1 5 (t := 99) (by decide +kernel) (by decide) ?_ (fun z15 => ?_)
  · refine Ev.run (pc' := 108) (ls' := [some (.ref 0), some (.int a1)]) (st' := [.int (m.1 103 5), .int 40]) (m' := m) [(.bipush 40, 0, 0, 40, 0), (.aload_n 0, 0, 0, 0, 0), (.getfield 79, 11, 9, 0, 0), (.getfield 173, 8, 5, 0, 0)] (by decide +kernel) rfl ?_
    refine Ev.cS (av := [.int 40, .int (m.1 103 5)]) (st := []) (EJ9_min_7cf53 (l := l) (Ln := Ln) (xs := xs) (d := 0) f (40 : Int32) (m.1 103 5) m (by decide)) rfl (by decide +kernel) mwJ9_min_7cf53 swJ9_min_7cf53 lk_11_176 (by omega) rfl (Nat.le_of_ble_eq_true rfl) (fun r13 m14 => ?_)
    exact Ev.ireti rfl rfl (by decide +kernel)
  refine Ev.sw1 6 (t := 112) (by decide +kernel) (by decide) ?_ (fun z16 => ?_)
  · refine Ev.run (pc' := 119) (ls' := [some (.ref 0), some (.int a1)]) (st' := [.int (m.1 33 6)]) (m' := m) [(.aload_n 0, 0, 0, 0, 0), (.getfield 65, 11, 7, 0, 0), (.getfield 141, 4, 6, 0, 0)] (by decide +kernel) rfl ?_
    exact Ev.ireti rfl rfl (by decide +kernel)
  refine Ev.sw1 7 (t := 120) (by decide +kernel) (by decide) ?_ (fun z17 => ?_)
  · refine Ev.run (pc' := 127) (ls' := [some (.ref 0), some (.int a1)]) (st' := [.int (m.1 40 3)]) (m' := m) [(.aload_n 0, 0, 0, 0, 0), (.getfield 72, 11, 8, 0, 0), (.getfield 138, 6, 3, 0, 0)] (by decide +kernel) rfl ?_
    exact Ev.ireti rfl rfl (by decide +kernel)
  refine Ev.sw0 (vals := [0, 1, 2, 3, 4, 5, 6, 7]) (dt := 128) (by decide +kernel) (by simp only [List.mem_cons, List.not_mem_nil, or_false, not_or]; exact ⟨(lv_neT (k := 0) (a := 0) z2 (by decide)), (lv_neT (k := 1) (a := 1) z3 (by decide)), (lv_neT (k := 2) (a := 2) z6 (by decide)), (lv_neT (k := 3) (a := 3) z9 (by decide)), (lv_neT (k := 4) (a := 4) z12 (by decide)), (lv_neT (k := 5) (a := 5) z15 (by decide)), (lv_neT (k := 6) (a := 6) z16 (by decide)), (lv_neT (k := 7) (a := 7) z17 (by decide))⟩) ?_
  refine Ev.run (pc' := 129) (ls' := [some (.ref 0), some (.int a1)]) (st' := [.int (-1)]) (m' := m) [(.iconst (-1), 0, 0, (-1), 0)] (by decide +kernel) rfl ?_
  exact Ev.ireti rfl rfl (by decide +kernel)
def FX11_letter (f : Nat) (a1 : Int32) (a2 : Int32) (m : ev_M) : Option (Int32 × ev_M) :=
  (ev_bd (FX11_isTower f a1 m) (fun r1 m2 => (if r1 = 0 then some ((-1), m2) else (if a2 < 0 then some ((-1), m2) else (if a2 < 6 then (if isK 1 ((m2.1 0 0)).toNatClampNeg then (if ev_in ((a1 * 6) + a2) 48 then some ((m2.1 (((m2.1 0 0)).toNatClampNeg + 1) ((a1 * 6) + a2).toNatClampNeg), m2) else none) else none) else some ((-1), m2))))))
set_option maxRecDepth 100000 in
set_option maxHeartbeats 4000000 in
theorem EX11_letter {l : Launch} {Ln : Nat} {xs : Nat → Int32} {d : Nat} (f : Nat) (a1 : Int32) (a2 : Int32) (m : ev_M)  (hd : 1 ≤ d) : Mv ev_eI l Ln xs YX11_letter d Sx [.ref 0, .int a1, .int a2] m (FX11_letter f a1 a2 m) := by
  refine Mv.of (by decide +kernel) rfl (Nat.le_of_ble_eq_true rfl) (Ev.le (ls' := [some (.ref 0), some (.int a1), some (.int a2)]) ⟨rfl, ⟨rfl, ⟨rfl, trivial⟩⟩⟩ ?_)
  unfold FX11_letter
  refine Ev.run (pc' := 2) (ls' := [some (.ref 0), some (.int a1), some (.int a2)]) (st' := [.int a1, .ref 0]) (m' := m) [(.aload_n 0, 0, 0, 0, 0), (.iload_n 1, 0, 0, 0, 0)] (by decide +kernel) rfl ?_
  refine Ev.cV (av := [.int a1]) (st := []) (a := 0) (EX11_isTower (l := l) (Ln := Ln) (xs := xs) (d := 0) f a1 m (by decide)) rfl (by decide +kernel) mwX11_isTower iwX11_isTower vwX11_isTower lk_11_182 (by omega) (by decide) rfl (by decide) rfl rfl (Nat.le_of_ble_eq_true rfl) (fun r1 m2 => ?_)
  refine Ev.if_eq (t := 18) (by decide +kernel) ?_ ?_
  · refine Ev.run (pc' := 19) (ls' := [some (.ref 0), some (.int a1), some (.int a2)]) (st' := [.int (-1)]) (m' := m2) [(.iconst (-1), 0, 0, (-1), 0)] (by decide +kernel) rfl ?_
    exact Ev.ireti rfl rfl (by decide +kernel)
  · refine Ev.run (pc' := 9) (ls' := [some (.ref 0), some (.int a1), some (.int a2)]) (st' := [.int a2]) (m' := m2) [(.iload_n 2, 0, 0, 0, 0)] (by decide +kernel) rfl ?_
    refine Ev.if_lt (t := 18) (by decide +kernel) ?_ ?_
    · refine Ev.run (pc' := 19) (ls' := [some (.ref 0), some (.int a1), some (.int a2)]) (st' := [.int (-1)]) (m' := m2) [(.iconst (-1), 0, 0, (-1), 0)] (by decide +kernel) rfl ?_
      exact Ev.ireti rfl rfl (by decide +kernel)
    · refine Ev.run (pc' := 15) (ls' := [some (.ref 0), some (.int a1), some (.int a2)]) (st' := [.int 6, .int a2]) (m' := m2) [(.iload_n 2, 0, 0, 0, 0), (.bipush 6, 0, 0, 6, 0)] (by decide +kernel) rfl ?_
      refine Ev.ic_lt (t := 20) (by decide +kernel) ?_ ?_
      · refine Ev.run (pc' := 21) (ls' := [some (.ref 0), some (.int a1), some (.int a2)]) (st' := [.ref 0]) (m' := m2) [(.aload_n 0, 0, 0, 0, 0)] (by decide +kernel) rfl ?_
        refine Ev.ite (fun h3 => ?_) (fun _ => Ev.nn)
        refine Ev.getS (v := .ref ((m2.1 0 0)).toNatClampNeg) (ci := 11) (k := 0) (idx := 10) (by decide +kernel) (by decide +kernel) (by decide) (by rw [show Sx.2.1 0 = (11, 18) from rfl]) (by rw [show Sx.2.1 0 = (11, 18) from rfl]; decide) (ev_gv_dyn1 rfl (Nat.pos_iff_ne_zero.mp (k1_z0 h3))) ?_
        refine Ev.getS (v := .ref (((m2.1 0 0)).toNatClampNeg + 1)) (ci := 1) (k := 0) (idx := 185) (by decide +kernel) (by decide +kernel) (k1_l0 h3) (by rw [(k1_s0 h3)]) (by rw [(k1_s0 h3)]; decide) (by unfold ev_gv; rw [if_neg (by decide)]; show va_rf (Sx.2.2 ((m2.1 0 0)).toNatClampNeg 0) = _; rw [k1_r0 h3]; rfl) ?_
        refine Ev.run (pc' := 33) (ls' := [some (.ref 0), some (.int a1), some (.int a2)]) (st' := [.int ((a1 * 6) + a2), .ref (((m2.1 0 0)).toNatClampNeg + 1)]) (m' := m2) [(.iload_n 1, 0, 0, 0, 0), (.bipush 6, 0, 0, 6, 0), (.imul, 0, 0, 0, 0), (.iload_n 2, 0, 0, 0, 0), (.iadd, 0, 0, 0, 0)] (by decide +kernel) rfl ?_
        refine Ev.iald (n := 48) (by decide +kernel) (k1_l1 h3) (k1_s1 h3) ?_
        exact Ev.ireti rfl rfl (by decide +kernel)
      · refine Ev.run (pc' := 19) (ls' := [some (.ref 0), some (.int a1), some (.int a2)]) (st' := [.int (-1)]) (m' := m2) [(.iconst (-1), 0, 0, (-1), 0)] (by decide +kernel) rfl ?_
        exact Ev.ireti rfl rfl (by decide +kernel)
def FX11_tower (f : Nat) (a1 : Int32) (a2 : Int32) (m : ev_M) : Option (Int32 × ev_M) :=
  (ev_bd (FX11_isTower f a1 m) (fun r1 m2 => (if r1 = 0 then some ((-1), m2) else (if a2 = 0 then (if ev_in a1 8 then some ((m2.1 104 a1.toNatClampNeg), m2) else none) else (if a2 = 1 then (if ev_in a1 8 then some ((m2.1 105 a1.toNatClampNeg), m2) else none) else (if a2 = 2 then some ((((m2.1 103 4) >>> (a1 &&& 31)) &&& 1), m2) else some ((-1), m2)))))))
set_option maxRecDepth 100000 in
set_option maxHeartbeats 4000000 in
theorem EX11_tower {l : Launch} {Ln : Nat} {xs : Nat → Int32} {d : Nat} (f : Nat) (a1 : Int32) (a2 : Int32) (m : ev_M)  (hd : 1 ≤ d) : Mv ev_eI l Ln xs YX11_tower d Sx [.ref 0, .int a1, .int a2] m (FX11_tower f a1 a2 m) := by
  refine Mv.of (by decide +kernel) rfl (Nat.le_of_ble_eq_true rfl) (Ev.le (ls' := [some (.ref 0), some (.int a1), some (.int a2)]) ⟨rfl, ⟨rfl, ⟨rfl, trivial⟩⟩⟩ ?_)
  unfold FX11_tower
  refine Ev.run (pc' := 2) (ls' := [some (.ref 0), some (.int a1), some (.int a2)]) (st' := [.int a1, .ref 0]) (m' := m) [(.aload_n 0, 0, 0, 0, 0), (.iload_n 1, 0, 0, 0, 0)] (by decide +kernel) rfl ?_
  refine Ev.cV (av := [.int a1]) (st := []) (a := 0) (EX11_isTower (l := l) (Ln := Ln) (xs := xs) (d := 0) f a1 m (by decide)) rfl (by decide +kernel) mwX11_isTower iwX11_isTower vwX11_isTower lk_11_182 (by omega) (by decide) rfl (by decide) rfl rfl (Nat.le_of_ble_eq_true rfl) (fun r1 m2 => ?_)
  refine Ev.if_ne (t := 10) (by decide +kernel) ?_ ?_
  · refine Ev.run (pc' := 11) (ls' := [some (.ref 0), some (.int a1), some (.int a2)]) (st' := [.int a2]) (m' := m2) [(.iload_n 2, 0, 0, 0, 0)] (by decide +kernel) rfl ?_
    refine Ev.sw1 0 (t := 36) (by decide +kernel) (by decide) ?_ (fun z3 => ?_)
    · refine Ev.run (pc' := 44) (ls' := [some (.ref 0), some (.int a1), some (.int a2)]) (st' := [.int a1, .ref 104]) (m' := m2) [(.aload_n 0, 0, 0, 0, 0), (.getfield 79, 11, 9, 0, 0), (.getfield 188, 8, 0, 0, 0), (.iload_n 1, 0, 0, 0, 0)] (by decide +kernel) rfl ?_
      refine Ev.iald (n := 8) (by decide +kernel) (by decide) rfl ?_
      exact Ev.ireti rfl rfl (by decide +kernel)
    refine Ev.sw1 1 (t := 46) (by decide +kernel) (by decide) ?_ (fun z4 => ?_)
    · refine Ev.run (pc' := 54) (ls' := [some (.ref 0), some (.int a1), some (.int a2)]) (st' := [.int a1, .ref 105]) (m' := m2) [(.aload_n 0, 0, 0, 0, 0), (.getfield 79, 11, 9, 0, 0), (.getfield 191, 8, 1, 0, 0), (.iload_n 1, 0, 0, 0, 0)] (by decide +kernel) rfl ?_
      refine Ev.iald (n := 8) (by decide +kernel) (by decide) rfl ?_
      exact Ev.ireti rfl rfl (by decide +kernel)
    refine Ev.sw1 2 (t := 56) (by decide +kernel) (by decide) ?_ (fun z5 => ?_)
    · refine Ev.run (pc' := 67) (ls' := [some (.ref 0), some (.int a1), some (.int a2)]) (st' := [.int (((m2.1 103 4) >>> (a1 &&& 31)) &&& 1)]) (m' := m2) [(.aload_n 0, 0, 0, 0, 0), (.getfield 79, 11, 9, 0, 0), (.getfield 160, 8, 4, 0, 0), (.iload_n 1, 0, 0, 0, 0), (.ishr, 0, 0, 0, 0), (.iconst 1, 0, 0, 1, 0), (.iand, 0, 0, 0, 0)] (by decide +kernel) rfl ?_
      exact Ev.ireti rfl rfl (by decide +kernel)
    refine Ev.sw0 (vals := [0, 1, 2]) (dt := 68) (by decide +kernel) (by simp only [List.mem_cons, List.not_mem_nil, or_false, not_or]; exact ⟨(lv_neT (k := 0) (a := 0) z3 (by decide)), (lv_neT (k := 1) (a := 1) z4 (by decide)), (lv_neT (k := 2) (a := 2) z5 (by decide))⟩) ?_
    refine Ev.run (pc' := 69) (ls' := [some (.ref 0), some (.int a1), some (.int a2)]) (st' := [.int (-1)]) (m' := m2) [(.iconst (-1), 0, 0, (-1), 0)] (by decide +kernel) rfl ?_
    exact Ev.ireti rfl rfl (by decide +kernel)
  · refine Ev.run (pc' := 9) (ls' := [some (.ref 0), some (.int a1), some (.int a2)]) (st' := [.int (-1)]) (m' := m2) [(.iconst (-1), 0, 0, (-1), 0)] (by decide +kernel) rfl ?_
    exact Ev.ireti rfl rfl (by decide +kernel)
def FX11_kept (f : Nat) (a1 : Int32) (a2 : Int32) (m : ev_M) : Option (Int32 × ev_M) :=
  (ev_bd (FJ9_min_7cf53 f (40 : Int32) (m.1 103 5) m) (fun r1 m2 => (if a1 < 0 then some ((-1), m2) else (if r1 ≤ a1 then some ((-1), m2) else (if a2 < 0 then some ((-1), m2) else (if a2 ≤ 2 then (ev_bd (FX6_fireOf f (((m2.1 103 5) - r1) + a1) a2 m2) (fun r3 m4 => some (r3, m4))) else some ((-1), m2)))))))
set_option maxRecDepth 100000 in
set_option maxHeartbeats 4000000 in
theorem EX11_kept {l : Launch} {Ln : Nat} {xs : Nat → Int32} {d : Nat} (f : Nat) (a1 : Int32) (a2 : Int32) (m : ev_M)  (hd : 1 ≤ d) : Mv ev_eI l Ln xs YX11_kept d Sx [.ref 0, .int a1, .int a2] m (FX11_kept f a1 a2 m) := by
  refine Mv.of (by decide +kernel) rfl (Nat.le_of_ble_eq_true rfl) (Ev.le (ls' := [some (.ref 0), some (.int a1), some (.int a2), none]) ⟨rfl, ⟨rfl, ⟨rfl, trivial⟩⟩⟩ ?_)
  unfold FX11_kept
  refine Ev.run (pc' := 9) (ls' := [some (.ref 0), some (.int a1), some (.int a2), none]) (st' := [.int (m.1 103 5), .int 40]) (m' := m) [(.bipush 40, 0, 0, 40, 0), (.aload_n 0, 0, 0, 0, 0), (.getfield 79, 11, 9, 0, 0), (.getfield 173, 8, 5, 0, 0)] (by decide +kernel) rfl ?_
  refine Ev.cS (av := [.int 40, .int (m.1 103 5)]) (st := []) (EJ9_min_7cf53 (l := l) (Ln := Ln) (xs := xs) (d := 0) f (40 : Int32) (m.1 103 5) m (by decide)) rfl (by decide +kernel) mwJ9_min_7cf53 swJ9_min_7cf53 lk_11_176 (by omega) rfl (Nat.le_of_ble_eq_true rfl) (fun r1 m2 => ?_)
  refine Ev.run (pc' := 14) (ls' := [some (.ref 0), some (.int a1), some (.int a2), some (.int r1)]) (st' := [.int a1]) (m' := m2) [(.istore_n 3, 0, 0, 0, 0), (.iload_n 1, 0, 0, 0, 0)] (by decide +kernel) rfl ?_
  refine Ev.if_lt (t := 31) (by decide +kernel) ?_ ?_
  · refine Ev.run (pc' := 32) (ls' := [some (.ref 0), some (.int a1), some (.int a2), some (.int r1)]) (st' := [.int (-1)]) (m' := m2) [(.iconst (-1), 0, 0, (-1), 0)] (by decide +kernel) rfl ?_
    exact Ev.ireti rfl rfl (by decide +kernel)
  · refine Ev.run (pc' := 19) (ls' := [some (.ref 0), some (.int a1), some (.int a2), some (.int r1)]) (st' := [.int r1, .int a1]) (m' := m2) [(.iload_n 1, 0, 0, 0, 0), (.iload_n 3, 0, 0, 0, 0)] (by decide +kernel) rfl ?_
    refine Ev.ic_ge (t := 31) (by decide +kernel) ?_ ?_
    · refine Ev.run (pc' := 32) (ls' := [some (.ref 0), some (.int a1), some (.int a2), some (.int r1)]) (st' := [.int (-1)]) (m' := m2) [(.iconst (-1), 0, 0, (-1), 0)] (by decide +kernel) rfl ?_
      exact Ev.ireti rfl rfl (by decide +kernel)
    · refine Ev.run (pc' := 23) (ls' := [some (.ref 0), some (.int a1), some (.int a2), some (.int r1)]) (st' := [.int a2]) (m' := m2) [(.iload_n 2, 0, 0, 0, 0)] (by decide +kernel) rfl ?_
      refine Ev.if_lt (t := 31) (by decide +kernel) ?_ ?_
      · refine Ev.run (pc' := 32) (ls' := [some (.ref 0), some (.int a1), some (.int a2), some (.int r1)]) (st' := [.int (-1)]) (m' := m2) [(.iconst (-1), 0, 0, (-1), 0)] (by decide +kernel) rfl ?_
        exact Ev.ireti rfl rfl (by decide +kernel)
      · refine Ev.run (pc' := 28) (ls' := [some (.ref 0), some (.int a1), some (.int a2), some (.int r1)]) (st' := [.int 2, .int a2]) (m' := m2) [(.iload_n 2, 0, 0, 0, 0), (.iconst 2, 0, 0, 2, 0)] (by decide +kernel) rfl ?_
        refine Ev.ic_le (t := 33) (by decide +kernel) ?_ ?_
        · refine Ev.run (pc' := 49) (ls' := [some (.ref 0), some (.int a1), some (.int a2), some (.int r1)]) (st' := [.int a2, .int (((m2.1 103 5) - r1) + a1), .ref 40]) (m' := m2) [(.aload_n 0, 0, 0, 0, 0), (.getfield 72, 11, 8, 0, 0), (.aload_n 0, 0, 0, 0, 0), (.getfield 79, 11, 9, 0, 0), (.getfield 173, 8, 5, 0, 0), (.iload_n 3, 0, 0, 0, 0), (.isub, 0, 0, 0, 0), (.iload_n 1, 0, 0, 0, 0), (.iadd, 0, 0, 0, 0), (.iload_n 2, 0, 0, 0, 0)] (by decide +kernel) rfl ?_
          refine Ev.cV (av := [.int (((m2.1 103 5) - r1) + a1), .int a2]) (st := []) (a := 40) (EX6_fireOf (l := l) (Ln := Ln) (xs := xs) (d := 0) f (((m2.1 103 5) - r1) + a1) a2 m2 (by decide)) rfl (by decide +kernel) mwX6_fireOf iwX6_fireOf vwX6_fireOf lk_11_194 (by omega) (by decide) rfl (by decide) rfl rfl (Nat.le_of_ble_eq_true rfl) (fun r3 m4 => ?_)
          exact Ev.ireti rfl rfl (by decide +kernel)
        · refine Ev.run (pc' := 32) (ls' := [some (.ref 0), some (.int a1), some (.int a2), some (.int r1)]) (st' := [.int (-1)]) (m' := m2) [(.iconst (-1), 0, 0, (-1), 0)] (by decide +kernel) rfl ?_
          exact Ev.ireti rfl rfl (by decide +kernel)
def FX11_see (f : Nat)  (m : ev_M) : Option (Int32 × ev_M) :=
  (if isK 1 ((m.1 0 0)).toNatClampNeg then (ev_bd (FX4_look f (m.1 ((m.1 0 0)).toNatClampNeg 5) m) (fun r2 m3 => (if r2 = 0 then (ev_bd (FX11_refuse f (1 : Int32) ((ev_up m3.1 13 1 0), m3.2)) (fun r4 m5 => some ((-1), m5))) else some ((m3.1 33 6), ((ev_up m3.1 13 1 0), m3.2))))) else none)
set_option maxRecDepth 100000 in
set_option maxHeartbeats 4000000 in
theorem EX11_see {l : Launch} {Ln : Nat} {xs : Nat → Int32} {d : Nat} (f : Nat)  (m : ev_M)  (hd : 1 ≤ d) : Mv ev_eI l Ln xs YX11_see d Sx [.ref 0] m (FX11_see f  m) := by
  refine Mv.of (by decide +kernel) rfl (Nat.le_of_ble_eq_true rfl) (Ev.le (ls' := [some (.ref 0), none]) ⟨rfl, trivial⟩ ?_)
  unfold FX11_see
  refine Ev.run (pc' := 9) (ls' := [some (.ref 0), none]) (st' := [.ref 0, .ref 13, .ref 33]) (m' := m) [(.aload_n 0, 0, 0, 0, 0), (.getfield 65, 11, 7, 0, 0), (.aload_n 0, 0, 0, 0, 0), (.getfield 22, 11, 2, 0, 0), (.aload_n 0, 0, 0, 0, 0)] (by decide +kernel) rfl ?_
  refine Ev.ite (fun h1 => ?_) (fun _ => Ev.nn)
  refine Ev.getS (v := .ref ((m.1 0 0)).toNatClampNeg) (ci := 11) (k := 0) (idx := 10) (by decide +kernel) (by decide +kernel) (by decide) (by rw [show Sx.2.1 0 = (11, 18) from rfl]) (by rw [show Sx.2.1 0 = (11, 18) from rfl]; decide) (ev_gv_dyn1 rfl (Nat.pos_iff_ne_zero.mp (k1_z0 h1))) ?_
  refine Ev.getS (v := .int (m.1 ((m.1 0 0)).toNatClampNeg 5)) (ci := 1) (k := 5) (idx := 147) (by decide +kernel) (by decide +kernel) (k1_l0 h1) (by rw [(k1_s0 h1)]) (by rw [(k1_s0 h1)]; decide) rfl ?_
  refine Ev.cV (av := [.ref 13, .int (m.1 ((m.1 0 0)).toNatClampNeg 5)]) (st := []) (a := 33) (EX4_look (l := l) (Ln := Ln) (xs := xs) (d := 0) f (m.1 ((m.1 0 0)).toNatClampNeg 5) m (by decide)) rfl (by decide +kernel) mwX4_look iwX4_look vwX4_look lk_11_262 (by omega) (by decide) rfl (by decide) rfl rfl (Nat.le_of_ble_eq_true rfl) (fun r2 m3 => ?_)
  refine Ev.run (pc' := 28) (ls' := [some (.ref 0), some (.int r2)]) (st' := [.int r2]) (m' := ((ev_up m3.1 13 1 0), m3.2)) [(.istore_n 1, 0, 0, 0, 0), (.aload_n 0, 0, 0, 0, 0), (.getfield 22, 11, 2, 0, 0), (.iconst 0, 0, 0, 0, 0), (.putfield 122, 10, 1, 0, 0), (.iload_n 1, 0, 0, 0, 0)] (by decide +kernel) rfl ?_
  refine Ev.if_ne (t := 39) (by decide +kernel) ?_ ?_
  · refine Ev.run (pc' := 46) (ls' := [some (.ref 0), some (.int r2)]) (st' := [.int (m3.1 33 6)]) (m' := ((ev_up m3.1 13 1 0), m3.2)) [(.aload_n 0, 0, 0, 0, 0), (.getfield 65, 11, 7, 0, 0), (.getfield 141, 4, 6, 0, 0)] (by decide +kernel) rfl ?_
    exact Ev.ireti rfl rfl (by decide +kernel)
  · refine Ev.run (pc' := 33) (ls' := [some (.ref 0), some (.int r2)]) (st' := [.int 1, .ref 0]) (m' := ((ev_up m3.1 13 1 0), m3.2)) [(.aload_n 0, 0, 0, 0, 0), (.iconst 1, 0, 0, 1, 0)] (by decide +kernel) rfl ?_
    refine Ev.cV (av := [.int 1]) (st := []) (a := 0) (EX11_refuse (l := l) (Ln := Ln) (xs := xs) (d := 0) f (1 : Int32) ((ev_up m3.1 13 1 0), m3.2) (by decide)) rfl (by decide +kernel) mwX11_refuse iwX11_refuse vwX11_refuse lk_11_115 (by omega) (by decide) rfl (by decide) rfl rfl (Nat.le_of_ble_eq_true rfl) (fun r4 m5 => ?_)
    refine Ev.run (pc' := 38) (ls' := [some (.ref 0), some (.int r2)]) (st' := [.int (-1)]) (m' := m5) [(.pop, 0, 0, 0, 0), (.iconst (-1), 0, 0, (-1), 0)] (by decide +kernel) rfl ?_
    exact Ev.ireti rfl rfl (by decide +kernel)
def FX11_seed (f : Nat) (a1 : Int32) (m : ev_M) : Option (Int32 × ev_M) :=
  (if 0 ≤ a1 then some (1, (m.1, (ev_up m.2 0 17 (a1 : Int32).toInt64))) else (ev_bd (FX11_refuse f (5 : Int32) m) (fun r1 m2 => (if r1 = 0 ∨ r1 = 1 then some (r1, m2) else none))))
set_option maxRecDepth 100000 in
set_option maxHeartbeats 4000000 in
theorem EX11_seed {l : Launch} {Ln : Nat} {xs : Nat → Int32} {d : Nat} (f : Nat) (a1 : Int32) (m : ev_M)  (hd : 1 ≤ d) : Mv ev_eI l Ln xs YX11_seed d Sx [.ref 0, .int a1] m (FX11_seed f a1 m) := by
  refine Mv.of (by decide +kernel) rfl (Nat.le_of_ble_eq_true rfl) (Ev.le (ls' := [some (.ref 0), some (.int a1)]) ⟨rfl, ⟨rfl, trivial⟩⟩ ?_)
  unfold FX11_seed
  refine Ev.run (pc' := 1) (ls' := [some (.ref 0), some (.int a1)]) (st' := [.int a1]) (m' := m) [(.iload_n 1, 0, 0, 0, 0)] (by decide +kernel) rfl ?_
  refine Ev.if_ge (t := 10) (by decide +kernel) ?_ ?_
  · refine Ev.run (pc' := 17) (ls' := [some (.ref 0), some (.int a1)]) (st' := [.int 1]) (m' := (m.1, (ev_up m.2 0 17 (a1 : Int32).toInt64))) [(.aload_n 0, 0, 0, 0, 0), (.iload_n 1, 0, 0, 0, 0), (.i2l, 0, 0, 0, 0), (.putfield 107, 11, 17, 0, 0), (.iconst 1, 0, 0, 1, 0)] (by decide +kernel) rfl ?_
    exact Ev.iretz rfl rfl (by decide +kernel) (by decide)
  · refine Ev.run (pc' := 6) (ls' := [some (.ref 0), some (.int a1)]) (st' := [.int 5, .ref 0]) (m' := m) [(.aload_n 0, 0, 0, 0, 0), (.iconst 5, 0, 0, 5, 0)] (by decide +kernel) rfl ?_
    refine Ev.cV (av := [.int 5]) (st := []) (a := 0) (EX11_refuse (l := l) (Ln := Ln) (xs := xs) (d := 0) f (5 : Int32) m (by decide)) rfl (by decide +kernel) mwX11_refuse iwX11_refuse vwX11_refuse lk_11_115 (by omega) (by decide) rfl (by decide) rfl rfl (Nat.le_of_ble_eq_true rfl) (fun r1 m2 => ?_)
    exact Ev.iretb rfl rfl (by decide +kernel)
def FX11_image_L50 (f : Nat) (k : Int32 → ev_M → Option (Int32 × ev_M))   : Nat → Int32 → Int32 → ev_M → Option (Int32 × ev_M)
  | 0, _, _, _ => none
  | n + 1, a1, a2, m => (if isK 1 ((m.1 0 0)).toNatClampNeg then (if (m.1 ((m.1 0 0)).toNatClampNeg 5) ≤ a2 then (k a1 m) else (if ev_in a2 8 then (if ev_in a1 28 then (if ev_in a2 8 then (if ev_in (a1 + 1) 28 then (if ev_in (a1 + 2) 28 then (FX11_image_L50 f k n (a1 + 3) (a2 + 1) ((ev_up (ev_up (ev_up m.1 110 a1.toNatClampNeg (m.1 104 a2.toNatClampNeg)) 110 (a1 + 1).toNatClampNeg (m.1 105 a2.toNatClampNeg)) 110 (a1 + 2).toNatClampNeg (((m.1 103 4) >>> (a2 &&& 31)) &&& 1)), m.2)) else none) else none) else none) else none) else none)) else none)
def FX11_image (f : Nat)  (m : ev_M) : Option (Int32 × ev_M) :=
  (FX11_image_L50 f (fun e2 m3 => (ev_bd (FX11_checkOf f 110 e2 m3) (fun r4 m5 => (if ev_in e2 28 then some ((e2 + 1), ((ev_up (ev_up m5.1 110 e2.toNatClampNeg r4) 0 14 (e2 + 1)), m5.2)) else none)))) f (3 : Int32) (0 : Int32) ((ev_up (ev_up (ev_up m.1 110 0 ((m.1 103 2) >>> (8 &&& 31))) 110 1 ((m.1 103 2) &&& 255)) 110 2 (m.1 103 3)), m.2))
set_option maxRecDepth 100000 in
set_option maxHeartbeats 4000000 in
theorem EX11_image_L50 {l : Launch} {Ln : Nat} {xs : Nat → Int32} {d : Nat} (f : Nat) (k : Int32 → ev_M → Option (Int32 × ev_M))     (hk : ∀ (e1 : Int32) (em : ev_M), Ev ev_eI l Ln xs YX11_image d Sx 121 [some (.ref 0), some (.int e1), none] [] em (k e1 em)) (hd : 1 ≤ d) : ∀ (n : Nat) (a1 : Int32) (a2 : Int32) (m : ev_M), Ev ev_eI l Ln xs YX11_image d Sx 50 [some (.ref 0), some (.int a1), some (.int a2)] [] m (FX11_image_L50 f k n a1 a2 m) := by
  intro n
  induction n with
  | zero => intros; exact Ev.nn
  | succ n ih =>
    intro a1 a2 m
    rw [FX11_image_L50]
    refine Ev.run (pc' := 52) (ls' := [some (.ref 0), some (.int a1), some (.int a2)]) (st' := [.ref 0, .int a2]) (m' := m) [(.iload_n 2, 0, 0, 0, 0), (.aload_n 0, 0, 0, 0, 0)] (by decide +kernel) rfl ?_
    refine Ev.ite (fun h1 => ?_) (fun _ => Ev.nn)
    refine Ev.getS (v := .ref ((m.1 0 0)).toNatClampNeg) (ci := 11) (k := 0) (idx := 10) (by decide +kernel) (by decide +kernel) (by decide) (by rw [show Sx.2.1 0 = (11, 18) from rfl]) (by rw [show Sx.2.1 0 = (11, 18) from rfl]; decide) (ev_gv_dyn1 rfl (Nat.pos_iff_ne_zero.mp (k1_z0 h1))) ?_
    refine Ev.getS (v := .int (m.1 ((m.1 0 0)).toNatClampNeg 5)) (ci := 1) (k := 5) (idx := 147) (by decide +kernel) (by decide +kernel) (k1_l0 h1) (by rw [(k1_s0 h1)]) (by rw [(k1_s0 h1)]; decide) rfl ?_
    refine Ev.ic_ge (t := 121) (by decide +kernel) ?_ ?_
    · refine Ev.le (ls' := [some (.ref 0), some (.int a1), none]) ⟨rfl, ⟨rfl, trivial⟩⟩ ?_
      exact hk _ _
    · refine Ev.run (pc' := 74) (ls' := [some (.ref 0), some (.int a1), some (.int a2)]) (st' := [.int a2, .ref 104, .int a1, .ref 110]) (m' := m) [(.aload_n 0, 0, 0, 0, 0), (.getfield 90, 11, 12, 0, 0), (.iload_n 1, 0, 0, 0, 0), (.aload_n 0, 0, 0, 0, 0), (.getfield 79, 11, 9, 0, 0), (.getfield 188, 8, 0, 0, 0), (.iload_n 2, 0, 0, 0, 0)] (by decide +kernel) rfl ?_
      refine Ev.iald (n := 8) (by decide +kernel) (by decide) rfl ?_
      refine Ev.iast (n := 28) (by decide +kernel) (by decide) rfl ?_
      refine Ev.run (pc' := 91) (ls' := [some (.ref 0), some (.int a1), some (.int a2)]) (st' := [.int a2, .ref 105, .int (a1 + 1), .ref 110]) (m' := ((ev_up m.1 110 a1.toNatClampNeg (m.1 104 a2.toNatClampNeg)), m.2)) [(.aload_n 0, 0, 0, 0, 0), (.getfield 90, 11, 12, 0, 0), (.iload_n 1, 0, 0, 0, 0), (.iconst 1, 0, 0, 1, 0), (.iadd, 0, 0, 0, 0), (.aload_n 0, 0, 0, 0, 0), (.getfield 79, 11, 9, 0, 0), (.getfield 191, 8, 1, 0, 0), (.iload_n 2, 0, 0, 0, 0)] (by decide +kernel) rfl ?_
      refine Ev.iald (n := 8) (by decide +kernel) (by decide) rfl ?_
      refine Ev.iast (n := 28) (by decide +kernel) (by decide) rfl ?_
      refine Ev.run (pc' := 111) (ls' := [some (.ref 0), some (.int a1), some (.int a2)]) (st' := [.int (((m.1 103 4) >>> (a2 &&& 31)) &&& 1), .int (a1 + 2), .ref 110]) (m' := ((ev_up (ev_up m.1 110 a1.toNatClampNeg (m.1 104 a2.toNatClampNeg)) 110 (a1 + 1).toNatClampNeg (m.1 105 a2.toNatClampNeg)), m.2)) [(.aload_n 0, 0, 0, 0, 0), (.getfield 90, 11, 12, 0, 0), (.iload_n 1, 0, 0, 0, 0), (.iconst 2, 0, 0, 2, 0), (.iadd, 0, 0, 0, 0), (.aload_n 0, 0, 0, 0, 0), (.getfield 79, 11, 9, 0, 0), (.getfield 160, 8, 4, 0, 0), (.iload_n 2, 0, 0, 0, 0), (.ishr, 0, 0, 0, 0), (.iconst 1, 0, 0, 1, 0), (.iand, 0, 0, 0, 0)] (by decide +kernel) rfl ?_
      refine Ev.iast (n := 28) (by decide +kernel) (by decide) rfl ?_
      refine Ev.run (pc' := 118) (ls' := [some (.ref 0), some (.int (a1 + 3)), some (.int (a2 + 1))]) (st' := []) (m' := ((ev_up (ev_up (ev_up m.1 110 a1.toNatClampNeg (m.1 104 a2.toNatClampNeg)) 110 (a1 + 1).toNatClampNeg (m.1 105 a2.toNatClampNeg)) 110 (a1 + 2).toNatClampNeg (((m.1 103 4) >>> (a2 &&& 31)) &&& 1)), m.2)) [(.iinc 1 3, 0, 0, 3, 0), (.iinc 2 1, 0, 0, 1, 0)] (by decide +kernel) rfl ?_
      refine Ev.gto (t := 50) (by decide +kernel) ?_
      exact ih _ _ _
set_option maxRecDepth 100000 in
set_option maxHeartbeats 4000000 in
theorem EX11_image {l : Launch} {Ln : Nat} {xs : Nat → Int32} {d : Nat} (f : Nat)  (m : ev_M)  (hd : 1 ≤ d) : Mv ev_eI l Ln xs YX11_image d Sx [.ref 0] m (FX11_image f  m) := by
  refine Mv.of (by decide +kernel) rfl (Nat.le_of_ble_eq_true rfl) (Ev.le (ls' := [some (.ref 0), none, none]) ⟨rfl, trivial⟩ ?_)
  unfold FX11_image
  refine Ev.run (pc' := 15) (ls' := [some (.ref 0), none, none]) (st' := [.int ((m.1 103 2) >>> (8 &&& 31)), .int 0, .ref 110]) (m' := m) [(.aload_n 0, 0, 0, 0, 0), (.getfield 90, 11, 12, 0, 0), (.iconst 0, 0, 0, 0, 0), (.aload_n 0, 0, 0, 0, 0), (.getfield 79, 11, 9, 0, 0), (.getfield 150, 8, 2, 0, 0), (.bipush 8, 0, 0, 8, 0), (.ishr, 0, 0, 0, 0)] (by decide +kernel) rfl ?_
  refine Ev.iastK (n := 28) (j := 0) (by decide +kernel) (by decide) rfl rfl (by decide) ?_
  refine Ev.run (pc' := 32) (ls' := [some (.ref 0), none, none]) (st' := [.int ((m.1 103 2) &&& 255), .int 1, .ref 110]) (m' := ((ev_up m.1 110 0 ((m.1 103 2) >>> (8 &&& 31))), m.2)) [(.aload_n 0, 0, 0, 0, 0), (.getfield 90, 11, 12, 0, 0), (.iconst 1, 0, 0, 1, 0), (.aload_n 0, 0, 0, 0, 0), (.getfield 79, 11, 9, 0, 0), (.getfield 150, 8, 2, 0, 0), (.sipush 255, 0, 0, 255, 0), (.iand, 0, 0, 0, 0)] (by decide +kernel) rfl ?_
  refine Ev.iastK (n := 28) (j := 1) (by decide +kernel) (by decide) rfl rfl (by decide) ?_
  refine Ev.run (pc' := 45) (ls' := [some (.ref 0), none, none]) (st' := [.int (m.1 103 3), .int 2, .ref 110]) (m' := ((ev_up (ev_up m.1 110 0 ((m.1 103 2) >>> (8 &&& 31))) 110 1 ((m.1 103 2) &&& 255)), m.2)) [(.aload_n 0, 0, 0, 0, 0), (.getfield 90, 11, 12, 0, 0), (.iconst 2, 0, 0, 2, 0), (.aload_n 0, 0, 0, 0, 0), (.getfield 79, 11, 9, 0, 0), (.getfield 157, 8, 3, 0, 0)] (by decide +kernel) rfl ?_
  refine Ev.iastK (n := 28) (j := 2) (by decide +kernel) (by decide) rfl rfl (by decide) ?_
  refine Ev.run (pc' := 50) (ls' := [some (.ref 0), some (.int 3), some (.int 0)]) (st' := []) (m' := ((ev_up (ev_up (ev_up m.1 110 0 ((m.1 103 2) >>> (8 &&& 31))) 110 1 ((m.1 103 2) &&& 255)) 110 2 (m.1 103 3)), m.2)) [(.iconst 3, 0, 0, 3, 0), (.istore_n 1, 0, 0, 0, 0), (.iconst 0, 0, 0, 0, 0), (.istore_n 2, 0, 0, 0, 0)] (by decide +kernel) rfl ?_
  refine EX11_image_L50 f _ ?_ (by omega) _ _ _ _
  intro e2 m3
  refine Ev.run (pc' := 131) (ls' := [some (.ref 0), some (.int e2), none]) (st' := [.int e2, .ref 110, .int e2, .ref 110]) (m' := m3) [(.aload_n 0, 0, 0, 0, 0), (.getfield 90, 11, 12, 0, 0), (.iload_n 1, 0, 0, 0, 0), (.aload_n 0, 0, 0, 0, 0), (.getfield 90, 11, 12, 0, 0), (.iload_n 1, 0, 0, 0, 0)] (by decide +kernel) rfl ?_
  refine Ev.cS (av := [.ref 110, .int e2]) (st := [.int e2, .ref 110]) (EX11_checkOf (l := l) (Ln := Ln) (xs := xs) (d := 0) f 110 e2 m3 (by decide) (by decide)) rfl (by decide +kernel) mwX11_checkOf swX11_checkOf lk_11_311 (by omega) rfl (Nat.le_of_ble_eq_true rfl) (fun r4 m5 => ?_)
  refine Ev.iast (n := 28) (by decide +kernel) (by decide) rfl ?_
  refine Ev.run (pc' := 146) (ls' := [some (.ref 0), some (.int e2), none]) (st' := [.int (e2 + 1)]) (m' := ((ev_up (ev_up m5.1 110 e2.toNatClampNeg r4) 0 14 (e2 + 1)), m5.2)) [(.aload_n 0, 0, 0, 0, 0), (.iload_n 1, 0, 0, 0, 0), (.iconst 1, 0, 0, 1, 0), (.iadd, 0, 0, 0, 0), (.putfield 97, 11, 14, 0, 0), (.aload_n 0, 0, 0, 0, 0), (.getfield 97, 11, 14, 0, 0)] (by decide +kernel) rfl ?_
  exact Ev.ireti rfl rfl (by decide +kernel)
def FX11_on_J28 (f : Nat)   (a1 : Int32)  (m : ev_M) : Option (Int32 × ev_M) :=
  (if a1 = 0 then (ev_bd (FX11_refuse f (5 : Int32) ((ev_up m.1 13 1 0), m.2)) (fun r3 m4 => (if r3 = 0 then some (0, m4) else some (1, m4)))) else some (1, ((ev_up m.1 13 1 0), m.2)))
def FX11_on_J19 (f : Nat)    (s0 : Int32) (m : ev_M) : Option (Int32 × ev_M) :=
  (if s0 = 0 then (FX11_on_J28 f s0 m) else (ev_bd (FX11_takePicture f m) (fun _ m6 => (FX11_on_J28 f s0 m6))))
def FX11_on_J18 (f : Nat)     (m : ev_M) : Option (Int32 × ev_M) :=
  (FX11_on_J19 f (0 : Int32) m)
def FX11_on (f : Nat)  (m : ev_M) : Option (Int32 × ev_M) :=
  (ev_bd (FX11_isTold f m) (fun r1 m2 => (if r1 = 0 then (FX11_on_J18 f m2) else (ev_bd (FX11_isPicture f m2) (fun r7 m8 => (if r7 = 0 then (FX11_on_J18 f m8) else (FX11_on_J19 f (1 : Int32) m8)))))))
set_option maxRecDepth 100000 in
set_option maxHeartbeats 4000000 in
theorem EX11_on_J28 {l : Launch} {Ln : Nat} {xs : Nat → Int32} {d : Nat} (f : Nat)   (a1 : Int32)  (m : ev_M)   (hd : 2 ≤ d) : Ev ev_eI l Ln xs YX11_on d Sx 28 [some (.ref 0), some (.int a1)] [] m (FX11_on_J28 f a1 m) := by
  unfold FX11_on_J28
  refine Ev.run (pc' := 37) (ls' := [some (.ref 0), some (.int a1)]) (st' := [.int a1]) (m' := ((ev_up m.1 13 1 0), m.2)) [(.aload_n 0, 0, 0, 0, 0), (.getfield 22, 11, 2, 0, 0), (.iconst 0, 0, 0, 0, 0), (.putfield 122, 10, 1, 0, 0), (.iload_n 1, 0, 0, 0, 0)] (by decide +kernel) rfl ?_
  refine Ev.if_ne (t := 48) (by decide +kernel) ?_ ?_
  · refine Ev.run (pc' := 49) (ls' := [some (.ref 0), some (.int a1)]) (st' := [.int 1]) (m' := ((ev_up m.1 13 1 0), m.2)) [(.iconst 1, 0, 0, 1, 0)] (by decide +kernel) rfl ?_
    refine Ev.gto (t := 53) (by decide +kernel) ?_
    exact Ev.iretz rfl rfl (by decide +kernel) (by decide)
  · refine Ev.run (pc' := 42) (ls' := [some (.ref 0), some (.int a1)]) (st' := [.int 5, .ref 0]) (m' := ((ev_up m.1 13 1 0), m.2)) [(.aload_n 0, 0, 0, 0, 0), (.iconst 5, 0, 0, 5, 0)] (by decide +kernel) rfl ?_
    refine Ev.cV (av := [.int 5]) (st := []) (a := 0) (EX11_refuse (l := l) (Ln := Ln) (xs := xs) (d := 0) f (5 : Int32) ((ev_up m.1 13 1 0), m.2) (by decide)) rfl (by decide +kernel) mwX11_refuse iwX11_refuse vwX11_refuse lk_11_115 (by omega) (by decide) rfl (by decide) rfl rfl (Nat.le_of_ble_eq_true rfl) (fun r3 m4 => ?_)
    refine Ev.if_eq (t := 52) (by decide +kernel) ?_ ?_
    · refine Ev.run (pc' := 53) (ls' := [some (.ref 0), some (.int a1)]) (st' := [.int 0]) (m' := m4) [(.iconst 0, 0, 0, 0, 0)] (by decide +kernel) rfl ?_
      exact Ev.iretz rfl rfl (by decide +kernel) (by decide)
    · refine Ev.run (pc' := 49) (ls' := [some (.ref 0), some (.int a1)]) (st' := [.int 1]) (m' := m4) [(.iconst 1, 0, 0, 1, 0)] (by decide +kernel) rfl ?_
      refine Ev.gto (t := 53) (by decide +kernel) ?_
      exact Ev.iretz rfl rfl (by decide +kernel) (by decide)
set_option maxRecDepth 100000 in
set_option maxHeartbeats 4000000 in
theorem EX11_on_J19 {l : Launch} {Ln : Nat} {xs : Nat → Int32} {d : Nat} (f : Nat)    (s0 : Int32) (m : ev_M)   (hd : 2 ≤ d) : Ev ev_eI l Ln xs YX11_on d Sx 19 [some (.ref 0), none] [.int s0] m (FX11_on_J19 f s0 m) := by
  unfold FX11_on_J19
  refine Ev.run (pc' := 21) (ls' := [some (.ref 0), some (.int s0)]) (st' := [.int s0]) (m' := m) [(.istore_n 1, 0, 0, 0, 0), (.iload_n 1, 0, 0, 0, 0)] (by decide +kernel) rfl ?_
  refine Ev.if_eq (t := 28) (by decide +kernel) ?_ ?_
  · exact EX11_on_J28 f s0 m (by omega)
  · refine Ev.run (pc' := 25) (ls' := [some (.ref 0), some (.int s0)]) (st' := [.ref 0]) (m' := m) [(.aload_n 0, 0, 0, 0, 0)] (by decide +kernel) rfl ?_
    refine Ev.cV (av := []) (st := []) (a := 0) (EX11_takePicture (l := l) (Ln := Ln) (xs := xs) (d := 0) f m (by decide)) rfl (by decide +kernel) mwX11_takePicture iwX11_takePicture vwX11_takePicture lk_11_318 (by omega) (by decide) rfl (by decide) rfl rfl (Nat.le_of_ble_eq_true rfl) (fun r5 m6 => ?_)
    exact EX11_on_J28 f s0 m6 (by omega)
set_option maxRecDepth 100000 in
set_option maxHeartbeats 4000000 in
theorem EX11_on_J18 {l : Launch} {Ln : Nat} {xs : Nat → Int32} {d : Nat} (f : Nat)     (m : ev_M)   (hd : 2 ≤ d) : Ev ev_eI l Ln xs YX11_on d Sx 18 [some (.ref 0), none] [] m (FX11_on_J18 f m) := by
  unfold FX11_on_J18
  refine Ev.run (pc' := 19) (ls' := [some (.ref 0), none]) (st' := [.int 0]) (m' := m) [(.iconst 0, 0, 0, 0, 0)] (by decide +kernel) rfl ?_
  exact EX11_on_J19 f (0 : Int32) m (by omega)
set_option maxRecDepth 100000 in
set_option maxHeartbeats 4000000 in
theorem EX11_on {l : Launch} {Ln : Nat} {xs : Nat → Int32} {d : Nat} (f : Nat)  (m : ev_M)  (hd : 2 ≤ d) : Mv ev_eI l Ln xs YX11_on d Sx [.ref 0] m (FX11_on f  m) := by
  refine Mv.of (by decide +kernel) rfl (Nat.le_of_ble_eq_true rfl) (Ev.le (ls' := [some (.ref 0), none]) ⟨rfl, trivial⟩ ?_)
  unfold FX11_on
  refine Ev.run (pc' := 1) (ls' := [some (.ref 0), none]) (st' := [.ref 0]) (m' := m) [(.aload_n 0, 0, 0, 0, 0)] (by decide +kernel) rfl ?_
  refine Ev.cV (av := []) (st := []) (a := 0) (EX11_isTold (l := l) (Ln := Ln) (xs := xs) (d := 0) f m (by decide)) rfl (by decide +kernel) mwX11_isTold iwX11_isTold vwX11_isTold lk_11_153 (by omega) (by decide) rfl (by decide) rfl rfl (Nat.le_of_ble_eq_true rfl) (fun r1 m2 => ?_)
  refine Ev.if_eq (t := 18) (by decide +kernel) ?_ ?_
  · exact EX11_on_J18 f m2 (by omega)
  · refine Ev.run (pc' := 8) (ls' := [some (.ref 0), none]) (st' := [.ref 0]) (m' := m2) [(.aload_n 0, 0, 0, 0, 0)] (by decide +kernel) rfl ?_
    refine Ev.cV (av := []) (st := []) (a := 0) (EX11_isPicture (l := l) (Ln := Ln) (xs := xs) (d := 1) f m2 (by decide)) rfl (by decide +kernel) mwX11_isPicture iwX11_isPicture vwX11_isPicture lk_11_315 (by omega) (by decide) rfl (by decide) rfl rfl (Nat.le_of_ble_eq_true rfl) (fun r7 m8 => ?_)
    refine Ev.if_eq (t := 18) (by decide +kernel) ?_ ?_
    · exact EX11_on_J18 f m8 (by omega)
    · refine Ev.run (pc' := 15) (ls' := [some (.ref 0), none]) (st' := [.int 1]) (m' := m8) [(.iconst 1, 0, 0, 1, 0)] (by decide +kernel) rfl ?_
      refine Ev.gto (t := 19) (by decide +kernel) ?_
      exact EX11_on_J19 f (1 : Int32) m8 (by omega)
def FX11_catchCold (f : Nat)  (m : ev_M) : Option (Int32 × ev_M) :=
  (ev_bd (FX11_draw f (100 : Int32) m) (fun r1 m2 => (if isK 1 ((m2.1 0 0)).toNatClampNeg then (if (m2.1 ((m2.1 0 0)).toNatClampNeg 10) ≤ r1 then some (0, m2) else (if (m2.1 ((m2.1 0 0)).toNatClampNeg 5) = 0 then some (0, m2) else (ev_bd (FX11_draw f (m2.1 ((m2.1 0 0)).toNatClampNeg 5) m2) (fun r4 m5 => (if ev_in r4 8 then (ev_bd (FJ9_max_7cf53 f (0 : Int32) ((m5.1 104 r4.toNatClampNeg) - 2) m5) (fun r6 m7 => (if ev_in r4 8 then some (1, ((ev_up m7.1 104 r4.toNatClampNeg r6), m7.2)) else none))) else none))))) else none)))
set_option maxRecDepth 100000 in
set_option maxHeartbeats 4000000 in
theorem EX11_catchCold {l : Launch} {Ln : Nat} {xs : Nat → Int32} {d : Nat} (f : Nat)  (m : ev_M)  (hd : 1 ≤ d) : Mv ev_eI l Ln xs YX11_catchCold d Sx [.ref 0] m (FX11_catchCold f  m) := by
  refine Mv.of (by decide +kernel) rfl (Nat.le_of_ble_eq_true rfl) (Ev.le (ls' := [some (.ref 0), none]) ⟨rfl, trivial⟩ ?_)
  unfold FX11_catchCold
  refine Ev.run (pc' := 3) (ls' := [some (.ref 0), none]) (st' := [.int 100, .ref 0]) (m' := m) [(.aload_n 0, 0, 0, 0, 0), (.bipush 100, 0, 0, 100, 0)] (by decide +kernel) rfl ?_
  refine Ev.cV (av := [.int 100]) (st := []) (a := 0) (EX11_draw (l := l) (Ln := Ln) (xs := xs) (d := 0) f (100 : Int32) m (by decide)) rfl (by decide +kernel) mwX11_draw iwX11_draw vwX11_draw lk_11_330 (by omega) (by decide) rfl (by decide) rfl rfl (Nat.le_of_ble_eq_true rfl) (fun r1 m2 => ?_)
  refine Ev.run (pc' := 7) (ls' := [some (.ref 0), none]) (st' := [.ref 0, .int r1]) (m' := m2) [(.aload_n 0, 0, 0, 0, 0)] (by decide +kernel) rfl ?_
  refine Ev.ite (fun h3 => ?_) (fun _ => Ev.nn)
  refine Ev.getS (v := .ref ((m2.1 0 0)).toNatClampNeg) (ci := 11) (k := 0) (idx := 10) (by decide +kernel) (by decide +kernel) (by decide) (by rw [show Sx.2.1 0 = (11, 18) from rfl]) (by rw [show Sx.2.1 0 = (11, 18) from rfl]; decide) (ev_gv_dyn1 rfl (Nat.pos_iff_ne_zero.mp (k1_z0 h3))) ?_
  refine Ev.getS (v := .int (m2.1 ((m2.1 0 0)).toNatClampNeg 10)) (ci := 1) (k := 10) (idx := 333) (by decide +kernel) (by decide +kernel) (k1_l0 h3) (by rw [(k1_s0 h3)]) (by rw [(k1_s0 h3)]; decide) rfl ?_
  refine Ev.ic_ge (t := 26) (by decide +kernel) ?_ ?_
  · refine Ev.run (pc' := 27) (ls' := [some (.ref 0), none]) (st' := [.int 0]) (m' := m2) [(.iconst 0, 0, 0, 0, 0)] (by decide +kernel) rfl ?_
    exact Ev.ireti rfl rfl (by decide +kernel)
  · refine Ev.run (pc' := 17) (ls' := [some (.ref 0), none]) (st' := [.ref 0]) (m' := m2) [(.aload_n 0, 0, 0, 0, 0)] (by decide +kernel) rfl ?_
    refine Ev.getS (v := .ref ((m2.1 0 0)).toNatClampNeg) (ci := 11) (k := 0) (idx := 10) (by decide +kernel) (by decide +kernel) (by decide) (by rw [show Sx.2.1 0 = (11, 18) from rfl]) (by rw [show Sx.2.1 0 = (11, 18) from rfl]; decide) (ev_gv_dyn1 rfl (Nat.pos_iff_ne_zero.mp (k1_z0 h3))) ?_
    refine Ev.getS (v := .int (m2.1 ((m2.1 0 0)).toNatClampNeg 5)) (ci := 1) (k := 5) (idx := 147) (by decide +kernel) (by decide +kernel) (k1_l0 h3) (by rw [(k1_s0 h3)]) (by rw [(k1_s0 h3)]; decide) rfl ?_
    refine Ev.if_ne (t := 28) (by decide +kernel) ?_ ?_
    · refine Ev.run (pc' := 30) (ls' := [some (.ref 0), none]) (st' := [.ref 0, .ref 0]) (m' := m2) [(.aload_n 0, 0, 0, 0, 0), (.aload_n 0, 0, 0, 0, 0)] (by decide +kernel) rfl ?_
      refine Ev.getS (v := .ref ((m2.1 0 0)).toNatClampNeg) (ci := 11) (k := 0) (idx := 10) (by decide +kernel) (by decide +kernel) (by decide) (by rw [show Sx.2.1 0 = (11, 18) from rfl]) (by rw [show Sx.2.1 0 = (11, 18) from rfl]; decide) (ev_gv_dyn1 rfl (Nat.pos_iff_ne_zero.mp (k1_z0 h3))) ?_
      refine Ev.getS (v := .int (m2.1 ((m2.1 0 0)).toNatClampNeg 5)) (ci := 1) (k := 5) (idx := 147) (by decide +kernel) (by decide +kernel) (k1_l0 h3) (by rw [(k1_s0 h3)]) (by rw [(k1_s0 h3)]; decide) rfl ?_
      refine Ev.cV (av := [.int (m2.1 ((m2.1 0 0)).toNatClampNeg 5)]) (st := []) (a := 0) (EX11_draw (l := l) (Ln := Ln) (xs := xs) (d := 0) f (m2.1 ((m2.1 0 0)).toNatClampNeg 5) m2 (by decide)) rfl (by decide +kernel) mwX11_draw iwX11_draw vwX11_draw lk_11_330 (by omega) (by decide) rfl (by decide) rfl rfl (Nat.le_of_ble_eq_true rfl) (fun r4 m5 => ?_)
      refine Ev.run (pc' := 57) (ls' := [some (.ref 0), some (.int r4)]) (st' := [.int r4, .ref 104, .int 0, .int r4, .ref 104]) (m' := m5) [(.istore_n 1, 0, 0, 0, 0), (.aload_n 0, 0, 0, 0, 0), (.getfield 79, 11, 9, 0, 0), (.getfield 188, 8, 0, 0, 0), (.iload_n 1, 0, 0, 0, 0), (.iconst 0, 0, 0, 0, 0), (.aload_n 0, 0, 0, 0, 0), (.getfield 79, 11, 9, 0, 0), (.getfield 188, 8, 0, 0, 0), (.iload_n 1, 0, 0, 0, 0)] (by decide +kernel) rfl ?_
      refine Ev.iald (n := 8) (by decide +kernel) (by decide) rfl ?_
      refine Ev.run (pc' := 60) (ls' := [some (.ref 0), some (.int r4)]) (st' := [.int ((m5.1 104 r4.toNatClampNeg) - 2), .int 0, .int r4, .ref 104]) (m' := m5) [(.iconst 2, 0, 0, 2, 0), (.isub, 0, 0, 0, 0)] (by decide +kernel) rfl ?_
      refine Ev.cS (av := [.int 0, .int ((m5.1 104 r4.toNatClampNeg) - 2)]) (st := [.int r4, .ref 104]) (EJ9_max_7cf53 (l := l) (Ln := Ln) (xs := xs) (d := 0) f (0 : Int32) ((m5.1 104 r4.toNatClampNeg) - 2) m5 (by decide)) rfl (by decide +kernel) mwJ9_max_7cf53 swJ9_max_7cf53 lk_11_336 (by omega) rfl (Nat.le_of_ble_eq_true rfl) (fun r6 m7 => ?_)
      refine Ev.iast (n := 8) (by decide +kernel) (by decide) rfl ?_
      refine Ev.run (pc' := 65) (ls' := [some (.ref 0), some (.int r4)]) (st' := [.int 1]) (m' := ((ev_up m7.1 104 r4.toNatClampNeg r6), m7.2)) [(.iconst 1, 0, 0, 1, 0)] (by decide +kernel) rfl ?_
      exact Ev.ireti rfl rfl (by decide +kernel)
    · refine Ev.run (pc' := 27) (ls' := [some (.ref 0), none]) (st' := [.int 0]) (m' := m2) [(.iconst 0, 0, 0, 0, 0)] (by decide +kernel) rfl ?_
      exact Ev.ireti rfl rfl (by decide +kernel)
def FX1_addUntoldSums_J91 (f : Nat)  (o0 : Nat)   (m : ev_M) : Option (Unit × ev_M) :=
  (ev_bd (FX1_hasFeels f o0 m) (fun r3 m4 => (if r3 = 0 then (ev_bd (FX2_add f (o0 + 4) (-22 : Int32) ((ev_up m4.1 o0 13 (m4.1 (o0 + 4) 1)), m4.2)) (fun _ m6 => some ((), ((ev_up m6.1 o0 14 (m6.1 (o0 + 4) 1)), m6.2)))) else some ((), m4))))
def FX1_addUntoldSums (f : Nat) (o0 : Nat) (m : ev_M) : Option (Unit × ev_M) :=
  (ev_bd (FX1_hasSays f o0 m) (fun r1 m2 => (if r1 = 0 then (ev_bd (FX2_add f (o0 + 4) (-30 : Int32) ((ev_up m2.1 o0 11 (m2.1 (o0 + 4) 1)), m2.2)) (fun _ m8 => (ev_bd (FX2_add f (o0 + 4) (-22 : Int32) m8) (fun _ m10 => (ev_bd (FX2_add f (o0 + 4) (-23 : Int32) m10) (fun _ m12 => (ev_bd (FX2_add f (o0 + 4) (-1 : Int32) m12) (fun _ m14 => (ev_bd (FX2_add f (o0 + 4) (-5 : Int32) m14) (fun _ m16 => (ev_bd (FX2_add f (o0 + 4) (-33 : Int32) m16) (fun _ m18 => (ev_bd (FX2_add f (o0 + 4) (-2 : Int32) m18) (fun _ m20 => (FX1_addUntoldSums_J91 f o0 ((ev_up m20.1 o0 12 (m20.1 (o0 + 4) 1)), m20.2)))))))))))))))) else (FX1_addUntoldSums_J91 f o0 m2))))
set_option maxRecDepth 100000 in
set_option maxHeartbeats 4000000 in
theorem EX1_addUntoldSums_J91 {l : Launch} {Ln : Nat} {xs : Nat → Int32} {d : Nat} (f : Nat)  (o0 : Nat)   (m : ev_M) (h_o0 : isK 1 o0)  (hd : 1 ≤ d) : Ev ev_eV l Ln xs YX1_addUntoldSums d Sx 91 [some (.ref o0)] [] m (FX1_addUntoldSums_J91 f o0 m) := by
  unfold FX1_addUntoldSums_J91
  refine Ev.run (pc' := 92) (ls' := [some (.ref o0)]) (st' := [.ref o0]) (m' := m) [(.aload_n 0, 0, 0, 0, 0)] (by decide +kernel) rfl ?_
  refine Ev.cV (av := []) (st := []) (a := o0) (EX1_hasFeels (l := l) (Ln := Ln) (xs := xs) (d := 0) f o0 m h_o0 (by decide)) rfl (by decide +kernel) mwX1_hasFeels iwX1_hasFeels vwX1_hasFeels lk_1_111 (by omega) (k1_l0 h_o0) (by rw [(k1_s0 h_o0)]) (by decide) rfl rfl (Nat.le_of_ble_eq_true rfl) (fun r3 m4 => ?_)
  refine Ev.if_ne (t := 129) (by decide +kernel) ?_ ?_
  · exact Ev.retv rfl rfl (by decide +kernel)
  · refine Ev.run (pc' := 100) (ls' := [some (.ref o0)]) (st' := [.ref o0, .ref o0]) (m' := m4) [(.aload_n 0, 0, 0, 0, 0), (.aload_n 0, 0, 0, 0, 0)] (by decide +kernel) rfl ?_
    refine Ev.getS (v := .ref (o0 + 4)) (ci := 1) (k := 3) (idx := 24) (by decide +kernel) (by decide +kernel) (k1_l0 h_o0) (by rw [(k1_s0 h_o0)]) (by rw [(k1_s0 h_o0)]; decide) (by unfold ev_gv; rw [if_neg (by decide)]; show va_rf (Sx.2.2 o0 3) = _; rw [k1_r3 h_o0]; rfl) ?_
    refine Ev.getS (v := .int (m4.1 (o0 + 4) 1)) (ci := 2) (k := 1) (idx := 102) (by decide +kernel) (by decide +kernel) (k2_l0 (k1_k2 h_o0)) (by rw [(k2_s0 (k1_k2 h_o0))]) (by rw [(k2_s0 (k1_k2 h_o0))]; decide) rfl ?_
    refine Ev.putI (ci := 1) (k := 13) (idx := 56) (by decide +kernel) (by decide +kernel) (by decide +kernel) (k1_l0 h_o0) (by rw [(k1_s0 h_o0)]) (by rw [(k1_s0 h_o0)]; decide) rfl rfl ?_
    refine Ev.run (pc' := 110) (ls' := [some (.ref o0)]) (st' := [.ref o0]) (m' := ((ev_up m4.1 o0 13 (m4.1 (o0 + 4) 1)), m4.2)) [(.aload_n 0, 0, 0, 0, 0)] (by decide +kernel) rfl ?_
    refine Ev.getS (v := .ref (o0 + 4)) (ci := 1) (k := 3) (idx := 24) (by decide +kernel) (by decide +kernel) (k1_l0 h_o0) (by rw [(k1_s0 h_o0)]) (by rw [(k1_s0 h_o0)]; decide) (by unfold ev_gv; rw [if_neg (by decide)]; show va_rf (Sx.2.2 o0 3) = _; rw [k1_r3 h_o0]; rfl) ?_
    refine Ev.run (pc' := 115) (ls' := [some (.ref o0)]) (st' := [.int (-22), .ref (o0 + 4)]) (m' := ((ev_up m4.1 o0 13 (m4.1 (o0 + 4) 1)), m4.2)) [(.bipush (-22), 0, 0, (-22), 0)] (by decide +kernel) rfl ?_
    refine Ev.cV (av := [.int (-22)]) (st := []) (a := (o0 + 4)) (EX2_add (l := l) (Ln := Ln) (xs := xs) (d := 0) f (o0 + 4) (-22 : Int32) ((ev_up m4.1 o0 13 (m4.1 (o0 + 4) 1)), m4.2) (k1_k2 h_o0) (by decide)) rfl (by decide +kernel) mwX2_add iwX2_add vwX2_add lk_1_108 (by omega) (k2_l0 (k1_k2 h_o0)) (by rw [(k2_s0 (k1_k2 h_o0))]) (by decide) rfl rfl (Nat.le_of_ble_eq_true rfl) (fun r5 m6 => ?_)
    refine Ev.run (pc' := 120) (ls' := [some (.ref o0)]) (st' := [.ref o0, .ref o0]) (m' := m6) [(.aload_n 0, 0, 0, 0, 0), (.aload_n 0, 0, 0, 0, 0)] (by decide +kernel) rfl ?_
    refine Ev.getS (v := .ref (o0 + 4)) (ci := 1) (k := 3) (idx := 24) (by decide +kernel) (by decide +kernel) (k1_l0 h_o0) (by rw [(k1_s0 h_o0)]) (by rw [(k1_s0 h_o0)]; decide) (by unfold ev_gv; rw [if_neg (by decide)]; show va_rf (Sx.2.2 o0 3) = _; rw [k1_r3 h_o0]; rfl) ?_
    refine Ev.getS (v := .int (m6.1 (o0 + 4) 1)) (ci := 2) (k := 1) (idx := 102) (by decide +kernel) (by decide +kernel) (k2_l0 (k1_k2 h_o0)) (by rw [(k2_s0 (k1_k2 h_o0))]) (by rw [(k2_s0 (k1_k2 h_o0))]; decide) rfl ?_
    refine Ev.putI (ci := 1) (k := 14) (idx := 59) (by decide +kernel) (by decide +kernel) (by decide +kernel) (k1_l0 h_o0) (by rw [(k1_s0 h_o0)]) (by rw [(k1_s0 h_o0)]; decide) rfl rfl ?_
    exact Ev.retv rfl rfl (by decide +kernel)
set_option maxRecDepth 100000 in
set_option maxHeartbeats 4000000 in
theorem EX1_addUntoldSums {l : Launch} {Ln : Nat} {xs : Nat → Int32} {d : Nat} (f : Nat) (o0 : Nat) (m : ev_M) (h_o0 : isK 1 o0) (hd : 1 ≤ d) : Mv ev_eV l Ln xs YX1_addUntoldSums d Sx [.ref o0] m (FX1_addUntoldSums f o0 m) := by
  refine Mv.of (by decide +kernel) rfl (Nat.le_of_ble_eq_true rfl) (Ev.le (ls' := [some (.ref o0)]) ⟨rfl, trivial⟩ ?_)
  unfold FX1_addUntoldSums
  refine Ev.run (pc' := 1) (ls' := [some (.ref o0)]) (st' := [.ref o0]) (m' := m) [(.aload_n 0, 0, 0, 0, 0)] (by decide +kernel) rfl ?_
  refine Ev.cV (av := []) (st := []) (a := o0) (EX1_hasSays (l := l) (Ln := Ln) (xs := xs) (d := 0) f o0 m h_o0 (by decide)) rfl (by decide +kernel) mwX1_hasSays iwX1_hasSays vwX1_hasSays lk_1_105 (by omega) (k1_l0 h_o0) (by rw [(k1_s0 h_o0)]) (by decide) rfl rfl (Nat.le_of_ble_eq_true rfl) (fun r1 m2 => ?_)
  refine Ev.if_ne (t := 91) (by decide +kernel) ?_ ?_
  · exact EX1_addUntoldSums_J91 f o0 m2 h_o0 (by omega)
  · refine Ev.run (pc' := 9) (ls' := [some (.ref o0)]) (st' := [.ref o0, .ref o0]) (m' := m2) [(.aload_n 0, 0, 0, 0, 0), (.aload_n 0, 0, 0, 0, 0)] (by decide +kernel) rfl ?_
    refine Ev.getS (v := .ref (o0 + 4)) (ci := 1) (k := 3) (idx := 24) (by decide +kernel) (by decide +kernel) (k1_l0 h_o0) (by rw [(k1_s0 h_o0)]) (by rw [(k1_s0 h_o0)]; decide) (by unfold ev_gv; rw [if_neg (by decide)]; show va_rf (Sx.2.2 o0 3) = _; rw [k1_r3 h_o0]; rfl) ?_
    refine Ev.getS (v := .int (m2.1 (o0 + 4) 1)) (ci := 2) (k := 1) (idx := 102) (by decide +kernel) (by decide +kernel) (k2_l0 (k1_k2 h_o0)) (by rw [(k2_s0 (k1_k2 h_o0))]) (by rw [(k2_s0 (k1_k2 h_o0))]; decide) rfl ?_
    refine Ev.putI (ci := 1) (k := 11) (idx := 50) (by decide +kernel) (by decide +kernel) (by decide +kernel) (k1_l0 h_o0) (by rw [(k1_s0 h_o0)]) (by rw [(k1_s0 h_o0)]; decide) rfl rfl ?_
    refine Ev.run (pc' := 19) (ls' := [some (.ref o0)]) (st' := [.ref o0]) (m' := ((ev_up m2.1 o0 11 (m2.1 (o0 + 4) 1)), m2.2)) [(.aload_n 0, 0, 0, 0, 0)] (by decide +kernel) rfl ?_
    refine Ev.getS (v := .ref (o0 + 4)) (ci := 1) (k := 3) (idx := 24) (by decide +kernel) (by decide +kernel) (k1_l0 h_o0) (by rw [(k1_s0 h_o0)]) (by rw [(k1_s0 h_o0)]; decide) (by unfold ev_gv; rw [if_neg (by decide)]; show va_rf (Sx.2.2 o0 3) = _; rw [k1_r3 h_o0]; rfl) ?_
    refine Ev.run (pc' := 24) (ls' := [some (.ref o0)]) (st' := [.int (-30), .ref (o0 + 4)]) (m' := ((ev_up m2.1 o0 11 (m2.1 (o0 + 4) 1)), m2.2)) [(.bipush (-30), 0, 0, (-30), 0)] (by decide +kernel) rfl ?_
    refine Ev.cV (av := [.int (-30)]) (st := []) (a := (o0 + 4)) (EX2_add (l := l) (Ln := Ln) (xs := xs) (d := 0) f (o0 + 4) (-30 : Int32) ((ev_up m2.1 o0 11 (m2.1 (o0 + 4) 1)), m2.2) (k1_k2 h_o0) (by decide)) rfl (by decide +kernel) mwX2_add iwX2_add vwX2_add lk_1_108 (by omega) (k2_l0 (k1_k2 h_o0)) (by rw [(k2_s0 (k1_k2 h_o0))]) (by decide) rfl rfl (Nat.le_of_ble_eq_true rfl) (fun r7 m8 => ?_)
    refine Ev.run (pc' := 28) (ls' := [some (.ref o0)]) (st' := [.ref o0]) (m' := m8) [(.aload_n 0, 0, 0, 0, 0)] (by decide +kernel) rfl ?_
    refine Ev.getS (v := .ref (o0 + 4)) (ci := 1) (k := 3) (idx := 24) (by decide +kernel) (by decide +kernel) (k1_l0 h_o0) (by rw [(k1_s0 h_o0)]) (by rw [(k1_s0 h_o0)]; decide) (by unfold ev_gv; rw [if_neg (by decide)]; show va_rf (Sx.2.2 o0 3) = _; rw [k1_r3 h_o0]; rfl) ?_
    refine Ev.run (pc' := 33) (ls' := [some (.ref o0)]) (st' := [.int (-22), .ref (o0 + 4)]) (m' := m8) [(.bipush (-22), 0, 0, (-22), 0)] (by decide +kernel) rfl ?_
    refine Ev.cV (av := [.int (-22)]) (st := []) (a := (o0 + 4)) (EX2_add (l := l) (Ln := Ln) (xs := xs) (d := 0) f (o0 + 4) (-22 : Int32) m8 (k1_k2 h_o0) (by decide)) rfl (by decide +kernel) mwX2_add iwX2_add vwX2_add lk_1_108 (by omega) (k2_l0 (k1_k2 h_o0)) (by rw [(k2_s0 (k1_k2 h_o0))]) (by decide) rfl rfl (Nat.le_of_ble_eq_true rfl) (fun r9 m10 => ?_)
    refine Ev.run (pc' := 37) (ls' := [some (.ref o0)]) (st' := [.ref o0]) (m' := m10) [(.aload_n 0, 0, 0, 0, 0)] (by decide +kernel) rfl ?_
    refine Ev.getS (v := .ref (o0 + 4)) (ci := 1) (k := 3) (idx := 24) (by decide +kernel) (by decide +kernel) (k1_l0 h_o0) (by rw [(k1_s0 h_o0)]) (by rw [(k1_s0 h_o0)]; decide) (by unfold ev_gv; rw [if_neg (by decide)]; show va_rf (Sx.2.2 o0 3) = _; rw [k1_r3 h_o0]; rfl) ?_
    refine Ev.run (pc' := 42) (ls' := [some (.ref o0)]) (st' := [.int (-23), .ref (o0 + 4)]) (m' := m10) [(.bipush (-23), 0, 0, (-23), 0)] (by decide +kernel) rfl ?_
    refine Ev.cV (av := [.int (-23)]) (st := []) (a := (o0 + 4)) (EX2_add (l := l) (Ln := Ln) (xs := xs) (d := 0) f (o0 + 4) (-23 : Int32) m10 (k1_k2 h_o0) (by decide)) rfl (by decide +kernel) mwX2_add iwX2_add vwX2_add lk_1_108 (by omega) (k2_l0 (k1_k2 h_o0)) (by rw [(k2_s0 (k1_k2 h_o0))]) (by decide) rfl rfl (Nat.le_of_ble_eq_true rfl) (fun r11 m12 => ?_)
    refine Ev.run (pc' := 46) (ls' := [some (.ref o0)]) (st' := [.ref o0]) (m' := m12) [(.aload_n 0, 0, 0, 0, 0)] (by decide +kernel) rfl ?_
    refine Ev.getS (v := .ref (o0 + 4)) (ci := 1) (k := 3) (idx := 24) (by decide +kernel) (by decide +kernel) (k1_l0 h_o0) (by rw [(k1_s0 h_o0)]) (by rw [(k1_s0 h_o0)]; decide) (by unfold ev_gv; rw [if_neg (by decide)]; show va_rf (Sx.2.2 o0 3) = _; rw [k1_r3 h_o0]; rfl) ?_
    refine Ev.run (pc' := 50) (ls' := [some (.ref o0)]) (st' := [.int (-1), .ref (o0 + 4)]) (m' := m12) [(.iconst (-1), 0, 0, (-1), 0)] (by decide +kernel) rfl ?_
    refine Ev.cV (av := [.int (-1)]) (st := []) (a := (o0 + 4)) (EX2_add (l := l) (Ln := Ln) (xs := xs) (d := 0) f (o0 + 4) (-1 : Int32) m12 (k1_k2 h_o0) (by decide)) rfl (by decide +kernel) mwX2_add iwX2_add vwX2_add lk_1_108 (by omega) (k2_l0 (k1_k2 h_o0)) (by rw [(k2_s0 (k1_k2 h_o0))]) (by decide) rfl rfl (Nat.le_of_ble_eq_true rfl) (fun r13 m14 => ?_)
    refine Ev.run (pc' := 54) (ls' := [some (.ref o0)]) (st' := [.ref o0]) (m' := m14) [(.aload_n 0, 0, 0, 0, 0)] (by decide +kernel) rfl ?_
    refine Ev.getS (v := .ref (o0 + 4)) (ci := 1) (k := 3) (idx := 24) (by decide +kernel) (by decide +kernel) (k1_l0 h_o0) (by rw [(k1_s0 h_o0)]) (by rw [(k1_s0 h_o0)]; decide) (by unfold ev_gv; rw [if_neg (by decide)]; show va_rf (Sx.2.2 o0 3) = _; rw [k1_r3 h_o0]; rfl) ?_
    refine Ev.run (pc' := 59) (ls' := [some (.ref o0)]) (st' := [.int (-5), .ref (o0 + 4)]) (m' := m14) [(.bipush (-5), 0, 0, (-5), 0)] (by decide +kernel) rfl ?_
    refine Ev.cV (av := [.int (-5)]) (st := []) (a := (o0 + 4)) (EX2_add (l := l) (Ln := Ln) (xs := xs) (d := 0) f (o0 + 4) (-5 : Int32) m14 (k1_k2 h_o0) (by decide)) rfl (by decide +kernel) mwX2_add iwX2_add vwX2_add lk_1_108 (by omega) (k2_l0 (k1_k2 h_o0)) (by rw [(k2_s0 (k1_k2 h_o0))]) (by decide) rfl rfl (Nat.le_of_ble_eq_true rfl) (fun r15 m16 => ?_)
    refine Ev.run (pc' := 63) (ls' := [some (.ref o0)]) (st' := [.ref o0]) (m' := m16) [(.aload_n 0, 0, 0, 0, 0)] (by decide +kernel) rfl ?_
    refine Ev.getS (v := .ref (o0 + 4)) (ci := 1) (k := 3) (idx := 24) (by decide +kernel) (by decide +kernel) (k1_l0 h_o0) (by rw [(k1_s0 h_o0)]) (by rw [(k1_s0 h_o0)]; decide) (by unfold ev_gv; rw [if_neg (by decide)]; show va_rf (Sx.2.2 o0 3) = _; rw [k1_r3 h_o0]; rfl) ?_
    refine Ev.run (pc' := 68) (ls' := [some (.ref o0)]) (st' := [.int (-33), .ref (o0 + 4)]) (m' := m16) [(.bipush (-33), 0, 0, (-33), 0)] (by decide +kernel) rfl ?_
    refine Ev.cV (av := [.int (-33)]) (st := []) (a := (o0 + 4)) (EX2_add (l := l) (Ln := Ln) (xs := xs) (d := 0) f (o0 + 4) (-33 : Int32) m16 (k1_k2 h_o0) (by decide)) rfl (by decide +kernel) mwX2_add iwX2_add vwX2_add lk_1_108 (by omega) (k2_l0 (k1_k2 h_o0)) (by rw [(k2_s0 (k1_k2 h_o0))]) (by decide) rfl rfl (Nat.le_of_ble_eq_true rfl) (fun r17 m18 => ?_)
    refine Ev.run (pc' := 72) (ls' := [some (.ref o0)]) (st' := [.ref o0]) (m' := m18) [(.aload_n 0, 0, 0, 0, 0)] (by decide +kernel) rfl ?_
    refine Ev.getS (v := .ref (o0 + 4)) (ci := 1) (k := 3) (idx := 24) (by decide +kernel) (by decide +kernel) (k1_l0 h_o0) (by rw [(k1_s0 h_o0)]) (by rw [(k1_s0 h_o0)]; decide) (by unfold ev_gv; rw [if_neg (by decide)]; show va_rf (Sx.2.2 o0 3) = _; rw [k1_r3 h_o0]; rfl) ?_
    refine Ev.run (pc' := 77) (ls' := [some (.ref o0)]) (st' := [.int (-2), .ref (o0 + 4)]) (m' := m18) [(.bipush (-2), 0, 0, (-2), 0)] (by decide +kernel) rfl ?_
    refine Ev.cV (av := [.int (-2)]) (st := []) (a := (o0 + 4)) (EX2_add (l := l) (Ln := Ln) (xs := xs) (d := 0) f (o0 + 4) (-2 : Int32) m18 (k1_k2 h_o0) (by decide)) rfl (by decide +kernel) mwX2_add iwX2_add vwX2_add lk_1_108 (by omega) (k2_l0 (k1_k2 h_o0)) (by rw [(k2_s0 (k1_k2 h_o0))]) (by decide) rfl rfl (Nat.le_of_ble_eq_true rfl) (fun r19 m20 => ?_)
    refine Ev.run (pc' := 82) (ls' := [some (.ref o0)]) (st' := [.ref o0, .ref o0]) (m' := m20) [(.aload_n 0, 0, 0, 0, 0), (.aload_n 0, 0, 0, 0, 0)] (by decide +kernel) rfl ?_
    refine Ev.getS (v := .ref (o0 + 4)) (ci := 1) (k := 3) (idx := 24) (by decide +kernel) (by decide +kernel) (k1_l0 h_o0) (by rw [(k1_s0 h_o0)]) (by rw [(k1_s0 h_o0)]; decide) (by unfold ev_gv; rw [if_neg (by decide)]; show va_rf (Sx.2.2 o0 3) = _; rw [k1_r3 h_o0]; rfl) ?_
    refine Ev.getS (v := .int (m20.1 (o0 + 4) 1)) (ci := 2) (k := 1) (idx := 102) (by decide +kernel) (by decide +kernel) (k2_l0 (k1_k2 h_o0)) (by rw [(k2_s0 (k1_k2 h_o0))]) (by rw [(k2_s0 (k1_k2 h_o0))]; decide) rfl ?_
    refine Ev.putI (ci := 1) (k := 12) (idx := 53) (by decide +kernel) (by decide +kernel) (by decide +kernel) (k1_l0 h_o0) (by rw [(k1_s0 h_o0)]) (by rw [(k1_s0 h_o0)]; decide) rfl rfl ?_
    exact EX1_addUntoldSums_J91 f o0 ((ev_up m20.1 o0 12 (m20.1 (o0 + 4) 1)), m20.2) h_o0 (by omega)
def FX1_find_J52 (f : Nat) (kt15 : Int32 → Int32 → ev_M → Option (Int32 × ev_M))  (a4 : Int32) (s0 : Int32) (m : ev_M) : Option (Int32 × ev_M) :=
  (kt15 s0 (a4 + 1) m)
def FX1_find_J51 (f : Nat) (kt15 : Int32 → Int32 → ev_M → Option (Int32 × ev_M))  (a4 : Int32)  (m : ev_M) : Option (Int32 × ev_M) :=
  (FX1_find_J52 f kt15 a4 (0 : Int32) m)
def FX1_find_L15 (f : Nat) (k : Int32 → ev_M → Option (Int32 × ev_M)) (o0 : Nat) (a2 : Int32) : Nat → Int32 → Int32 → ev_M → Option (Int32 × ev_M)
  | 0, _, _, _ => none
  | n + 1, a3, a4, m => (if 6 ≤ a4 then (k a3 m) else (if a3 = 0 then (FX1_find_J51 f (FX1_find_L15 f k o0 a2 n) a4 m) else (if ev_in ((a2 * 6) + a4) 48 then (ev_bd (FX10_nameLetter f a4 m) (fun r1 m2 => (if (m.1 (o0 + 1) ((a2 * 6) + a4).toNatClampNeg) = r1 then (FX1_find_J52 f (FX1_find_L15 f k o0 a2 n) a4 (1 : Int32) m2) else (FX1_find_J51 f (FX1_find_L15 f k o0 a2 n) a4 m2)))) else none)))
def FX1_find_L2 (f : Nat) (k : ev_M → Option (Int32 × ev_M)) (o0 : Nat)  : Nat → Int32 → ev_M → Option (Int32 × ev_M)
  | 0, _, _ => none
  | n + 1, a2, m => (if (m.1 o0 5) ≤ a2 then (k m) else (FX1_find_L15 f (fun e3 m4 => (if e3 = 0 then (FX1_find_L2 f k o0 n (a2 + 1) m4) else some (a2, m4))) o0 a2 f (1 : Int32) (0 : Int32) m))
def FX1_find (f : Nat) (o0 : Nat) (m : ev_M) : Option (Int32 × ev_M) :=
  (FX1_find_L2 f (fun m5 => some ((-1), m5)) o0 f (0 : Int32) m)
set_option maxRecDepth 100000 in
set_option maxHeartbeats 4000000 in
theorem EX1_find_J52 {l : Launch} {Ln : Nat} {xs : Nat → Int32} {d : Nat} (f : Nat) (kt15 : Int32 → Int32 → ev_M → Option (Int32 × ev_M)) (o0 : Nat) (a2 : Int32) (a4 : Int32) (s0 : Int32) (m : ev_M) (h_o0 : isK 1 o0) (hkt15 : ∀ (e3 : Int32) (e4 : Int32) (em : ev_M), Ev ev_eI l Ln xs YX1_find d Sx 15 [some (.ref o0), some (.ref 13), some (.int a2), some (.int e3), some (.int e4)] [] em (kt15 e3 e4 em)) (hd : 1 ≤ d) : Ev ev_eI l Ln xs YX1_find d Sx 52 [some (.ref o0), some (.ref 13), some (.int a2), none, some (.int a4)] [.int s0] m (FX1_find_J52 f kt15 a4 s0 m) := by
  unfold FX1_find_J52
  refine Ev.run (pc' := 56) (ls' := [some (.ref o0), some (.ref 13), some (.int a2), some (.int s0), some (.int (a4 + 1))]) (st' := []) (m' := m) [(.istore_n 3, 0, 0, 0, 0), (.iinc 4 1, 0, 0, 1, 0)] (by decide +kernel) rfl ?_
  refine Ev.gto (t := 15) (by decide +kernel) ?_
  exact hkt15 _ _ _
set_option maxRecDepth 100000 in
set_option maxHeartbeats 4000000 in
theorem EX1_find_J51 {l : Launch} {Ln : Nat} {xs : Nat → Int32} {d : Nat} (f : Nat) (kt15 : Int32 → Int32 → ev_M → Option (Int32 × ev_M)) (o0 : Nat) (a2 : Int32) (a4 : Int32)  (m : ev_M) (h_o0 : isK 1 o0) (hkt15 : ∀ (e3 : Int32) (e4 : Int32) (em : ev_M), Ev ev_eI l Ln xs YX1_find d Sx 15 [some (.ref o0), some (.ref 13), some (.int a2), some (.int e3), some (.int e4)] [] em (kt15 e3 e4 em)) (hd : 1 ≤ d) : Ev ev_eI l Ln xs YX1_find d Sx 51 [some (.ref o0), some (.ref 13), some (.int a2), none, some (.int a4)] [] m (FX1_find_J51 f kt15 a4 m) := by
  unfold FX1_find_J51
  refine Ev.run (pc' := 52) (ls' := [some (.ref o0), some (.ref 13), some (.int a2), none, some (.int a4)]) (st' := [.int 0]) (m' := m) [(.iconst 0, 0, 0, 0, 0)] (by decide +kernel) rfl ?_
  exact EX1_find_J52 f kt15 o0 a2 a4 (0 : Int32) m h_o0 hkt15 (by omega)
set_option maxRecDepth 100000 in
set_option maxHeartbeats 4000000 in
theorem EX1_find_L15 {l : Launch} {Ln : Nat} {xs : Nat → Int32} {d : Nat} (f : Nat) (k : Int32 → ev_M → Option (Int32 × ev_M)) (o0 : Nat) (a2 : Int32) (h_o0 : isK 1 o0)  (hk : ∀ (e3 : Int32) (em : ev_M), Ev ev_eI l Ln xs YX1_find d Sx 59 [some (.ref o0), some (.ref 13), some (.int a2), some (.int e3), none] [] em (k e3 em)) (hd : 1 ≤ d) : ∀ (n : Nat) (a3 : Int32) (a4 : Int32) (m : ev_M), Ev ev_eI l Ln xs YX1_find d Sx 15 [some (.ref o0), some (.ref 13), some (.int a2), some (.int a3), some (.int a4)] [] m (FX1_find_L15 f k o0 a2 n a3 a4 m) := by
  intro n
  induction n with
  | zero => intros; exact Ev.nn
  | succ n ih =>
    intro a3 a4 m
    rw [FX1_find_L15]
    refine Ev.run (pc' := 19) (ls' := [some (.ref o0), some (.ref 13), some (.int a2), some (.int a3), some (.int a4)]) (st' := [.int 6, .int a4]) (m' := m) [(.iload 4, 0, 0, 0, 0), (.bipush 6, 0, 0, 6, 0)] (by decide +kernel) rfl ?_
    refine Ev.ic_ge (t := 59) (by decide +kernel) ?_ ?_
    · refine Ev.le (ls' := [some (.ref o0), some (.ref 13), some (.int a2), some (.int a3), none]) ⟨rfl, ⟨rfl, ⟨rfl, ⟨rfl, trivial⟩⟩⟩⟩ ?_
      exact hk _ _
    · refine Ev.run (pc' := 23) (ls' := [some (.ref o0), some (.ref 13), some (.int a2), some (.int a3), some (.int a4)]) (st' := [.int a3]) (m' := m) [(.iload_n 3, 0, 0, 0, 0)] (by decide +kernel) rfl ?_
      refine Ev.if_eq (t := 51) (by decide +kernel) ?_ ?_
      · refine Ev.le (ls' := [some (.ref o0), some (.ref 13), some (.int a2), none, some (.int a4)]) ⟨rfl, ⟨rfl, ⟨rfl, ⟨rfl, trivial⟩⟩⟩⟩ ?_
        exact EX1_find_J51 f (FX1_find_L15 f k o0 a2 n) o0 a2 a4 m h_o0 ih (by omega)
      · refine Ev.run (pc' := 27) (ls' := [some (.ref o0), some (.ref 13), some (.int a2), some (.int a3), some (.int a4)]) (st' := [.ref o0]) (m' := m) [(.aload_n 0, 0, 0, 0, 0)] (by decide +kernel) rfl ?_
        refine Ev.getS (v := .ref (o0 + 1)) (ci := 1) (k := 0) (idx := 9) (by decide +kernel) (by decide +kernel) (k1_l0 h_o0) (by rw [(k1_s0 h_o0)]) (by rw [(k1_s0 h_o0)]; decide) (by unfold ev_gv; rw [if_neg (by decide)]; show va_rf (Sx.2.2 o0 0) = _; rw [k1_r0 h_o0]; rfl) ?_
        refine Ev.run (pc' := 37) (ls' := [some (.ref o0), some (.ref 13), some (.int a2), some (.int a3), some (.int a4)]) (st' := [.int ((a2 * 6) + a4), .ref (o0 + 1)]) (m' := m) [(.iload_n 2, 0, 0, 0, 0), (.bipush 6, 0, 0, 6, 0), (.imul, 0, 0, 0, 0), (.iload 4, 0, 0, 0, 0), (.iadd, 0, 0, 0, 0)] (by decide +kernel) rfl ?_
        refine Ev.iald (n := 48) (by decide +kernel) (k1_l1 h_o0) (k1_s1 h_o0) ?_
        refine Ev.run (pc' := 41) (ls' := [some (.ref o0), some (.ref 13), some (.int a2), some (.int a3), some (.int a4)]) (st' := [.int a4, .ref 13, .int (m.1 (o0 + 1) ((a2 * 6) + a4).toNatClampNeg)]) (m' := m) [(.aload_n 1, 0, 0, 0, 0), (.iload 4, 0, 0, 0, 0)] (by decide +kernel) rfl ?_
        refine Ev.cV (av := [.int a4]) (st := [.int (m.1 (o0 + 1) ((a2 * 6) + a4).toNatClampNeg)]) (a := 13) (EX10_nameLetter (l := l) (Ln := Ln) (xs := xs) (d := 0) f a4 m (by decide)) rfl (by decide +kernel) mwX10_nameLetter iwX10_nameLetter vwX10_nameLetter lk_1_146 (by omega) (by decide) rfl (by decide) rfl rfl (Nat.le_of_ble_eq_true rfl) (fun r1 m2 => ?_)
        refine Ev.ic_ne (t := 51) (by decide +kernel) ?_ ?_
        · refine Ev.le (ls' := [some (.ref o0), some (.ref 13), some (.int a2), none, some (.int a4)]) ⟨rfl, ⟨rfl, ⟨rfl, ⟨rfl, trivial⟩⟩⟩⟩ ?_
          exact EX1_find_J51 f (FX1_find_L15 f k o0 a2 n) o0 a2 a4 m2 h_o0 ih (by omega)
        · refine Ev.run (pc' := 48) (ls' := [some (.ref o0), some (.ref 13), some (.int a2), some (.int a3), some (.int a4)]) (st' := [.int 1]) (m' := m2) [(.iconst 1, 0, 0, 1, 0)] (by decide +kernel) rfl ?_
          refine Ev.gto (t := 52) (by decide +kernel) ?_
          refine Ev.le (ls' := [some (.ref o0), some (.ref 13), some (.int a2), none, some (.int a4)]) ⟨rfl, ⟨rfl, ⟨rfl, ⟨rfl, trivial⟩⟩⟩⟩ ?_
          exact EX1_find_J52 f (FX1_find_L15 f k o0 a2 n) o0 a2 a4 (1 : Int32) m2 h_o0 ih (by omega)
set_option maxRecDepth 100000 in
set_option maxHeartbeats 4000000 in
theorem EX1_find_L2 {l : Launch} {Ln : Nat} {xs : Nat → Int32} {d : Nat} (f : Nat) (k : ev_M → Option (Int32 × ev_M)) (o0 : Nat)  (h_o0 : isK 1 o0)  (hk : ∀  (em : ev_M), Ev ev_eI l Ln xs YX1_find d Sx 71 [none, none, none, none, none] [] em (k em)) (hd : 1 ≤ d) : ∀ (n : Nat) (a2 : Int32) (m : ev_M), Ev ev_eI l Ln xs YX1_find d Sx 2 [some (.ref o0), some (.ref 13), some (.int a2), none, none] [] m (FX1_find_L2 f k o0 n a2 m) := by
  intro n
  induction n with
  | zero => intros; exact Ev.nn
  | succ n ih =>
    intro a2 m
    rw [FX1_find_L2]
    refine Ev.run (pc' := 4) (ls' := [some (.ref o0), some (.ref 13), some (.int a2), none, none]) (st' := [.ref o0, .int a2]) (m' := m) [(.iload_n 2, 0, 0, 0, 0), (.aload_n 0, 0, 0, 0, 0)] (by decide +kernel) rfl ?_
    refine Ev.getS (v := .int (m.1 o0 5)) (ci := 1) (k := 5) (idx := 32) (by decide +kernel) (by decide +kernel) (k1_l0 h_o0) (by rw [(k1_s0 h_o0)]) (by rw [(k1_s0 h_o0)]; decide) rfl ?_
    refine Ev.ic_ge (t := 71) (by decide +kernel) ?_ ?_
    · refine Ev.le (ls' := [none, none, none, none, none]) trivial ?_
      exact hk _
    · refine Ev.run (pc' := 15) (ls' := [some (.ref o0), some (.ref 13), some (.int a2), some (.int 1), some (.int 0)]) (st' := []) (m' := m) [(.iconst 1, 0, 0, 1, 0), (.istore_n 3, 0, 0, 0, 0), (.iconst 0, 0, 0, 0, 0), (.istore 4, 0, 0, 0, 0)] (by decide +kernel) rfl ?_
      refine EX1_find_L15 f _ o0 a2 h_o0 ?_ (by omega) _ _ _ _
      intro e3 m4
      refine Ev.run (pc' := 60) (ls' := [some (.ref o0), some (.ref 13), some (.int a2), some (.int e3), none]) (st' := [.int e3]) (m' := m4) [(.iload_n 3, 0, 0, 0, 0)] (by decide +kernel) rfl ?_
      refine Ev.if_eq (t := 65) (by decide +kernel) ?_ ?_
      · refine Ev.run (pc' := 68) (ls' := [some (.ref o0), some (.ref 13), some (.int (a2 + 1)), some (.int e3), none]) (st' := []) (m' := m4) [(.iinc 2 1, 0, 0, 1, 0)] (by decide +kernel) rfl ?_
        refine Ev.gto (t := 2) (by decide +kernel) ?_
        refine Ev.le (ls' := [some (.ref o0), some (.ref 13), some (.int (a2 + 1)), none, none]) ⟨rfl, ⟨rfl, ⟨rfl, trivial⟩⟩⟩ ?_
        exact ih _ _
      · refine Ev.run (pc' := 64) (ls' := [some (.ref o0), some (.ref 13), some (.int a2), some (.int e3), none]) (st' := [.int a2]) (m' := m4) [(.iload_n 2, 0, 0, 0, 0)] (by decide +kernel) rfl ?_
        exact Ev.ireti rfl rfl (by decide +kernel)
set_option maxRecDepth 100000 in
set_option maxHeartbeats 4000000 in
theorem EX1_find {l : Launch} {Ln : Nat} {xs : Nat → Int32} {d : Nat} (f : Nat) (o0 : Nat) (m : ev_M) (h_o0 : isK 1 o0) (hd : 1 ≤ d) : Mv ev_eI l Ln xs YX1_find d Sx [.ref o0, .ref 13] m (FX1_find f o0 m) := by
  refine Mv.of (by decide +kernel) rfl (Nat.le_of_ble_eq_true rfl) (Ev.le (ls' := [some (.ref o0), some (.ref 13), none, none, none]) ⟨rfl, ⟨rfl, trivial⟩⟩ ?_)
  unfold FX1_find
  refine Ev.run (pc' := 2) (ls' := [some (.ref o0), some (.ref 13), some (.int 0), none, none]) (st' := []) (m' := m) [(.iconst 0, 0, 0, 0, 0), (.istore_n 2, 0, 0, 0, 0)] (by decide +kernel) rfl ?_
  refine EX1_find_L2 f _ o0 h_o0 ?_ (by omega) _ _ _
  intro m5
  refine Ev.run (pc' := 72) (ls' := [none, none, none, none, none]) (st' := [.int (-1)]) (m' := m5) [(.iconst (-1), 0, 0, (-1), 0)] (by decide +kernel) rfl ?_
  exact Ev.ireti rfl rfl (by decide +kernel)
def FX3_graded (f : Nat) (a0 : Int32) (m : ev_M) : Option (Int32 × ev_M) :=
  (ev_bd (FJ9_min_7cf53 f (9 : Int32) a0 m) (fun r1 m2 => (ev_bd (FJ9_max_7cf53 f (0 : Int32) r1 m2) (fun r3 m4 => some (r3, m4)))))
set_option maxRecDepth 100000 in
set_option maxHeartbeats 4000000 in
theorem EX3_graded {l : Launch} {Ln : Nat} {xs : Nat → Int32} {d : Nat} (f : Nat) (a0 : Int32) (m : ev_M)  (hd : 1 ≤ d) : Mv ev_eI l Ln xs YX3_graded d Sx [.int a0] m (FX3_graded f a0 m) := by
  refine Mv.of (by decide +kernel) rfl (Nat.le_of_ble_eq_true rfl) (Ev.le (ls' := [some (.int a0)]) ⟨rfl, trivial⟩ ?_)
  unfold FX3_graded
  refine Ev.run (pc' := 4) (ls' := [some (.int a0)]) (st' := [.int a0, .int 9, .int 0]) (m' := m) [(.iconst 0, 0, 0, 0, 0), (.bipush 9, 0, 0, 9, 0), (.iload_n 0, 0, 0, 0, 0)] (by decide +kernel) rfl ?_
  refine Ev.cS (av := [.int 9, .int a0]) (st := [.int 0]) (EJ9_min_7cf53 (l := l) (Ln := Ln) (xs := xs) (d := 0) f (9 : Int32) a0 m (by decide)) rfl (by decide +kernel) mwJ9_min_7cf53 swJ9_min_7cf53 lk_3_90 (by omega) rfl (Nat.le_of_ble_eq_true rfl) (fun r1 m2 => ?_)
  refine Ev.cS (av := [.int 0, .int r1]) (st := []) (EJ9_max_7cf53 (l := l) (Ln := Ln) (xs := xs) (d := 0) f (0 : Int32) r1 m2 (by decide)) rfl (by decide +kernel) mwJ9_max_7cf53 swJ9_max_7cf53 lk_3_96 (by omega) rfl (Nat.le_of_ble_eq_true rfl) (fun r3 m4 => ?_)
  exact Ev.ireti rfl rfl (by decide +kernel)
def FX3_doubtfulOnes (f : Nat)  (m : ev_M) : Option (Int32 × ev_M) :=
  (ev_bd (FJ6_bitCount_0f7a4 f (m.1 16 3) m) (fun r1 m2 => some (r1, m2)))
set_option maxRecDepth 100000 in
set_option maxHeartbeats 4000000 in
theorem EX3_doubtfulOnes {l : Launch} {Ln : Nat} {xs : Nat → Int32} {d : Nat} (f : Nat)  (m : ev_M)  (hd : 1 ≤ d) : Mv ev_eI l Ln xs YX3_doubtfulOnes d Sx [.ref 16] m (FX3_doubtfulOnes f  m) := by
  refine Mv.of (by decide +kernel) rfl (Nat.le_of_ble_eq_true rfl) (Ev.le (ls' := [some (.ref 16)]) ⟨rfl, trivial⟩ ?_)
  unfold FX3_doubtfulOnes
  refine Ev.run (pc' := 4) (ls' := [some (.ref 16)]) (st' := [.int (m.1 16 3)]) (m' := m) [(.aload_n 0, 0, 0, 0, 0), (.getfield 22, 3, 3, 0, 0)] (by decide +kernel) rfl ?_
  refine Ev.cS (av := [.int (m.1 16 3)]) (st := []) (EJ6_bitCount_0f7a4 (l := l) (Ln := Ln) (xs := xs) (d := 0) f (m.1 16 3) m (by decide)) rfl (by decide +kernel) mwJ6_bitCount_0f7a4 swJ6_bitCount_0f7a4 lk_3_99 (by omega) rfl (Nat.le_of_ble_eq_true rfl) (fun r1 m2 => ?_)
  exact Ev.ireti rfl rfl (by decide +kernel)
def FX3_isFire (f : Nat)  (m : ev_M) : Option (Int32 × ev_M) :=
  (if isK 1 ((m.1 16 2)).toNatClampNeg then (ev_bd (FX3_rowOf f (m.1 ((m.1 16 2)).toNatClampNeg 9) m) (fun r2 m3 => (if r2 = (-1) then some (0, m3) else some (1, m3)))) else none)
set_option maxRecDepth 100000 in
set_option maxHeartbeats 4000000 in
theorem EX3_isFire {l : Launch} {Ln : Nat} {xs : Nat → Int32} {d : Nat} (f : Nat)  (m : ev_M)  (hd : 1 ≤ d) : Mv ev_eI l Ln xs YX3_isFire d Sx [.ref 16] m (FX3_isFire f  m) := by
  refine Mv.of (by decide +kernel) rfl (Nat.le_of_ble_eq_true rfl) (Ev.le (ls' := [some (.ref 16)]) ⟨rfl, trivial⟩ ?_)
  unfold FX3_isFire
  refine Ev.run (pc' := 2) (ls' := [some (.ref 16)]) (st' := [.ref 16, .ref 16]) (m' := m) [(.aload_n 0, 0, 0, 0, 0), (.aload_n 0, 0, 0, 0, 0)] (by decide +kernel) rfl ?_
  refine Ev.ite (fun h1 => ?_) (fun _ => Ev.nn)
  refine Ev.getS (v := .ref ((m.1 16 2)).toNatClampNeg) (ci := 3) (k := 2) (idx := 26) (by decide +kernel) (by decide +kernel) (by decide) (by rw [show Sx.2.1 16 = (3, 4) from rfl]) (by rw [show Sx.2.1 16 = (3, 4) from rfl]; decide) (ev_gv_dyn1 rfl (Nat.pos_iff_ne_zero.mp (k1_z0 h1))) ?_
  refine Ev.getS (v := .int (m.1 ((m.1 16 2)).toNatClampNeg 9)) (ci := 1) (k := 9) (idx := 104) (by decide +kernel) (by decide +kernel) (k1_l0 h1) (by rw [(k1_s0 h1)]) (by rw [(k1_s0 h1)]; decide) rfl ?_
  refine Ev.cV (av := [.int (m.1 ((m.1 16 2)).toNatClampNeg 9)]) (st := []) (a := 16) (EX3_rowOf (l := l) (Ln := Ln) (xs := xs) (d := 0) f (m.1 ((m.1 16 2)).toNatClampNeg 9) m (by decide)) rfl (by decide +kernel) mwX3_rowOf iwX3_rowOf vwX3_rowOf lk_3_107 (by omega) (by decide) rfl (by decide) rfl rfl (Nat.le_of_ble_eq_true rfl) (fun r2 m3 => ?_)
  refine Ev.run (pc' := 12) (ls' := [some (.ref 16)]) (st' := [.int (-1), .int r2]) (m' := m3) [(.iconst (-1), 0, 0, (-1), 0)] (by decide +kernel) rfl ?_
  refine Ev.ic_eq (t := 19) (by decide +kernel) ?_ ?_
  · refine Ev.run (pc' := 20) (ls' := [some (.ref 16)]) (st' := [.int 0]) (m' := m3) [(.iconst 0, 0, 0, 0, 0)] (by decide +kernel) rfl ?_
    exact Ev.iretz rfl rfl (by decide +kernel) (by decide)
  · refine Ev.run (pc' := 16) (ls' := [some (.ref 16)]) (st' := [.int 1]) (m' := m3) [(.iconst 1, 0, 0, 1, 0)] (by decide +kernel) rfl ?_
    refine Ev.gto (t := 20) (by decide +kernel) ?_
    exact Ev.iretz rfl rfl (by decide +kernel) (by decide)
def FX4_farthestSeen_L4 (f : Nat) (k : Int32 → ev_M → Option (Int32 × ev_M))   : Nat → Int32 → Int32 → ev_M → Option (Int32 × ev_M)
  | 0, _, _, _ => none
  | n + 1, a1, a2, m => (if (m.1 33 6) ≤ a2 then (k a1 m) else (if 16 ≤ a2 then (k a1 m) else (if ev_in (3 * a2) 48 then (ev_bd (FJ9_max_7cf53 f a1 (m.1 37 (3 * a2).toNatClampNeg) m) (fun r1 m2 => (FX4_farthestSeen_L4 f k n r1 (a2 + 1) m2))) else none)))
def FX4_farthestSeen (f : Nat)  (m : ev_M) : Option (Int32 × ev_M) :=
  (FX4_farthestSeen_L4 f (fun e3 m4 => some (e3, m4)) f (0 : Int32) (0 : Int32) m)
set_option maxRecDepth 100000 in
set_option maxHeartbeats 4000000 in
theorem EX4_farthestSeen_L4 {l : Launch} {Ln : Nat} {xs : Nat → Int32} {d : Nat} (f : Nat) (k : Int32 → ev_M → Option (Int32 × ev_M))     (hk : ∀ (e1 : Int32) (em : ev_M), Ev ev_eI l Ln xs YX4_farthestSeen d Sx 37 [none, some (.int e1), none] [] em (k e1 em)) (hd : 1 ≤ d) : ∀ (n : Nat) (a1 : Int32) (a2 : Int32) (m : ev_M), Ev ev_eI l Ln xs YX4_farthestSeen d Sx 4 [some (.ref 33), some (.int a1), some (.int a2)] [] m (FX4_farthestSeen_L4 f k n a1 a2 m) := by
  intro n
  induction n with
  | zero => intros; exact Ev.nn
  | succ n ih =>
    intro a1 a2 m
    rw [FX4_farthestSeen_L4]
    refine Ev.run (pc' := 9) (ls' := [some (.ref 33), some (.int a1), some (.int a2)]) (st' := [.int (m.1 33 6), .int a2]) (m' := m) [(.iload_n 2, 0, 0, 0, 0), (.aload_n 0, 0, 0, 0, 0), (.getfield 32, 4, 6, 0, 0)] (by decide +kernel) rfl ?_
    refine Ev.ic_ge (t := 37) (by decide +kernel) ?_ ?_
    · refine Ev.le (ls' := [none, some (.int a1), none]) ⟨rfl, trivial⟩ ?_
      exact hk _ _
    · refine Ev.run (pc' := 15) (ls' := [some (.ref 33), some (.int a1), some (.int a2)]) (st' := [.int 16, .int a2]) (m' := m) [(.iload_n 2, 0, 0, 0, 0), (.bipush 16, 0, 0, 16, 0)] (by decide +kernel) rfl ?_
      refine Ev.ic_ge (t := 37) (by decide +kernel) ?_ ?_
      · refine Ev.le (ls' := [none, some (.int a1), none]) ⟨rfl, trivial⟩ ?_
        exact hk _ _
      · refine Ev.run (pc' := 26) (ls' := [some (.ref 33), some (.int a1), some (.int a2)]) (st' := [.int (3 * a2), .ref 37, .int a1]) (m' := m) [(.iload_n 1, 0, 0, 0, 0), (.aload_n 0, 0, 0, 0, 0), (.getfield 18, 4, 2, 0, 0), (.iconst 3, 0, 0, 3, 0), (.iload_n 2, 0, 0, 0, 0), (.imul, 0, 0, 0, 0)] (by decide +kernel) rfl ?_
        refine Ev.iald (n := 48) (by decide +kernel) (by decide) rfl ?_
        refine Ev.cS (av := [.int a1, .int (m.1 37 (3 * a2).toNatClampNeg)]) (st := []) (EJ9_max_7cf53 (l := l) (Ln := Ln) (xs := xs) (d := 0) f a1 (m.1 37 (3 * a2).toNatClampNeg) m (by decide)) rfl (by decide +kernel) mwJ9_max_7cf53 swJ9_max_7cf53 lk_4_68 (by omega) rfl (Nat.le_of_ble_eq_true rfl) (fun r1 m2 => ?_)
        refine Ev.run (pc' := 34) (ls' := [some (.ref 33), some (.int r1), some (.int (a2 + 1))]) (st' := []) (m' := m2) [(.istore_n 1, 0, 0, 0, 0), (.iinc 2 1, 0, 0, 1, 0)] (by decide +kernel) rfl ?_
        refine Ev.gto (t := 4) (by decide +kernel) ?_
        exact ih _ _ _
set_option maxRecDepth 100000 in
set_option maxHeartbeats 4000000 in
theorem EX4_farthestSeen {l : Launch} {Ln : Nat} {xs : Nat → Int32} {d : Nat} (f : Nat)  (m : ev_M)  (hd : 1 ≤ d) : Mv ev_eI l Ln xs YX4_farthestSeen d Sx [.ref 33] m (FX4_farthestSeen f  m) := by
  refine Mv.of (by decide +kernel) rfl (Nat.le_of_ble_eq_true rfl) (Ev.le (ls' := [some (.ref 33), none, none]) ⟨rfl, trivial⟩ ?_)
  unfold FX4_farthestSeen
  refine Ev.run (pc' := 4) (ls' := [some (.ref 33), some (.int 0), some (.int 0)]) (st' := []) (m' := m) [(.iconst 0, 0, 0, 0, 0), (.istore_n 1, 0, 0, 0, 0), (.iconst 0, 0, 0, 0, 0), (.istore_n 2, 0, 0, 0, 0)] (by decide +kernel) rfl ?_
  refine EX4_farthestSeen_L4 f _ ?_ (by omega) _ _ _ _
  intro e3 m4
  refine Ev.run (pc' := 38) (ls' := [none, some (.int e3), none]) (st' := [.int e3]) (m' := m4) [(.iload_n 1, 0, 0, 0, 0)] (by decide +kernel) rfl ?_
  exact Ev.ireti rfl rfl (by decide +kernel)
def FX4_mostAlike_L6 (f : Nat) (k : ev_M → Option (Int32 × ev_M))   : Nat → Int32 → ev_M → Option (Int32 × ev_M)
  | 0, _, _ => none
  | n + 1, a5, m => (if 10 ≤ a5 then (k m) else (if ev_in a5 10 then (FX4_mostAlike_L6 f k n (a5 + 1) ((ev_up m.1 39 a5.toNatClampNeg 0), m.2)) else none))
def FX4_mostAlike_J86 (f : Nat) (kt30 : Int32 → Int32 → ev_M → Option (Int32 × ev_M))  (a4 : Int32) (a5 : Int32)  (m : ev_M) : Option (Int32 × ev_M) :=
  (kt30 a4 (a5 + 1) m)
def FX4_mostAlike_L30 (f : Nat) (k : Int32 → ev_M → Option (Int32 × ev_M))  (a1 : Int32) (a2 : Int32) (a3 : Int32) : Nat → Int32 → Int32 → ev_M → Option (Int32 × ev_M)
  | 0, _, _, _ => none
  | n + 1, a4, a5, m => (if 10 ≤ a5 then (k a4 m) else (if ((a1 >>> (a5 &&& 31)) &&& 1) = 1 then (ev_bd (FX4_indexOf f a5 a2 a3 m) (fun r2 m3 => (if ev_in r2 2480 then (if ev_in (m3.1 38 r2.toNatClampNeg) 10 then (if ev_in (m3.1 38 r2.toNatClampNeg) 10 then (if ev_in (m3.1 38 r2.toNatClampNeg) 10 then (ev_bd (FJ9_max_7cf53 f a4 ((ev_up m3.1 39 (m3.1 38 r2.toNatClampNeg).toNatClampNeg ((m3.1 39 (m3.1 38 r2.toNatClampNeg).toNatClampNeg) + 1)) 39 (m3.1 38 r2.toNatClampNeg).toNatClampNeg) ((ev_up m3.1 39 (m3.1 38 r2.toNatClampNeg).toNatClampNeg ((m3.1 39 (m3.1 38 r2.toNatClampNeg).toNatClampNeg) + 1)), m3.2)) (fun r4 m5 => (FX4_mostAlike_J86 f (FX4_mostAlike_L30 f k a1 a2 a3 n) r4 a5 m5))) else none) else none) else none) else none))) else (FX4_mostAlike_J86 f (FX4_mostAlike_L30 f k a1 a2 a3 n) a4 a5 m)))
def FX4_mostAlike (f : Nat) (a1 : Int32) (a2 : Int32) (a3 : Int32) (m : ev_M) : Option (Int32 × ev_M) :=
  (FX4_mostAlike_L6 f (fun m1 => (FX4_mostAlike_L30 f (fun e6 m7 => some (e6, m7)) a1 a2 a3 f (0 : Int32) (0 : Int32) m1)) f (0 : Int32) m)
set_option maxRecDepth 100000 in
set_option maxHeartbeats 4000000 in
theorem EX4_mostAlike_L6 {l : Launch} {Ln : Nat} {xs : Nat → Int32} {d : Nat} (f : Nat) (k : ev_M → Option (Int32 × ev_M))  (a1 : Int32) (a2 : Int32) (a3 : Int32) (a4 : Int32)   (hk : ∀  (em : ev_M), Ev ev_eI l Ln xs YX4_mostAlike d Sx 27 [some (.ref 33), some (.int a1), some (.int a2), some (.int a3), some (.int a4), none, none] [] em (k em)) (hd : 1 ≤ d) : ∀ (n : Nat) (a5 : Int32) (m : ev_M), Ev ev_eI l Ln xs YX4_mostAlike d Sx 6 [some (.ref 33), some (.int a1), some (.int a2), some (.int a3), some (.int a4), some (.int a5), none] [] m (FX4_mostAlike_L6 f k n a5 m) := by
  intro n
  induction n with
  | zero => intros; exact Ev.nn
  | succ n ih =>
    intro a5 m
    rw [FX4_mostAlike_L6]
    refine Ev.run (pc' := 10) (ls' := [some (.ref 33), some (.int a1), some (.int a2), some (.int a3), some (.int a4), some (.int a5), none]) (st' := [.int 10, .int a5]) (m' := m) [(.iload 5, 0, 0, 0, 0), (.bipush 10, 0, 0, 10, 0)] (by decide +kernel) rfl ?_
    refine Ev.ic_ge (t := 27) (by decide +kernel) ?_ ?_
    · refine Ev.le (ls' := [some (.ref 33), some (.int a1), some (.int a2), some (.int a3), some (.int a4), none, none]) ⟨rfl, ⟨rfl, ⟨rfl, ⟨rfl, ⟨rfl, trivial⟩⟩⟩⟩⟩ ?_
      exact hk _
    · refine Ev.run (pc' := 20) (ls' := [some (.ref 33), some (.int a1), some (.int a2), some (.int a3), some (.int a4), some (.int a5), none]) (st' := [.int 0, .int a5, .ref 39]) (m' := m) [(.aload_n 0, 0, 0, 0, 0), (.getfield 25, 4, 4, 0, 0), (.iload 5, 0, 0, 0, 0), (.iconst 0, 0, 0, 0, 0)] (by decide +kernel) rfl ?_
      refine Ev.iast (n := 10) (by decide +kernel) (by decide) rfl ?_
      refine Ev.run (pc' := 24) (ls' := [some (.ref 33), some (.int a1), some (.int a2), some (.int a3), some (.int a4), some (.int (a5 + 1)), none]) (st' := []) (m' := ((ev_up m.1 39 a5.toNatClampNeg 0), m.2)) [(.iinc 5 1, 0, 0, 1, 0)] (by decide +kernel) rfl ?_
      refine Ev.gto (t := 6) (by decide +kernel) ?_
      exact ih _ _
set_option maxRecDepth 100000 in
set_option maxHeartbeats 4000000 in
theorem EX4_mostAlike_J86 {l : Launch} {Ln : Nat} {xs : Nat → Int32} {d : Nat} (f : Nat) (kt30 : Int32 → Int32 → ev_M → Option (Int32 × ev_M))  (a1 : Int32) (a2 : Int32) (a3 : Int32) (a4 : Int32) (a5 : Int32)  (m : ev_M)  (hkt30 : ∀ (e4 : Int32) (e5 : Int32) (em : ev_M), Ev ev_eI l Ln xs YX4_mostAlike d Sx 30 [some (.ref 33), some (.int a1), some (.int a2), some (.int a3), some (.int e4), some (.int e5), none] [] em (kt30 e4 e5 em)) (hd : 1 ≤ d) : Ev ev_eI l Ln xs YX4_mostAlike d Sx 86 [some (.ref 33), some (.int a1), some (.int a2), some (.int a3), some (.int a4), some (.int a5), none] [] m (FX4_mostAlike_J86 f kt30 a4 a5 m) := by
  unfold FX4_mostAlike_J86
  refine Ev.run (pc' := 89) (ls' := [some (.ref 33), some (.int a1), some (.int a2), some (.int a3), some (.int a4), some (.int (a5 + 1)), none]) (st' := []) (m' := m) [(.iinc 5 1, 0, 0, 1, 0)] (by decide +kernel) rfl ?_
  refine Ev.gto (t := 30) (by decide +kernel) ?_
  exact hkt30 _ _ _
set_option maxRecDepth 100000 in
set_option maxHeartbeats 4000000 in
theorem EX4_mostAlike_L30 {l : Launch} {Ln : Nat} {xs : Nat → Int32} {d : Nat} (f : Nat) (k : Int32 → ev_M → Option (Int32 × ev_M))  (a1 : Int32) (a2 : Int32) (a3 : Int32)   (hk : ∀ (e4 : Int32) (em : ev_M), Ev ev_eI l Ln xs YX4_mostAlike d Sx 92 [none, none, none, none, some (.int e4), none, none] [] em (k e4 em)) (hd : 1 ≤ d) : ∀ (n : Nat) (a4 : Int32) (a5 : Int32) (m : ev_M), Ev ev_eI l Ln xs YX4_mostAlike d Sx 30 [some (.ref 33), some (.int a1), some (.int a2), some (.int a3), some (.int a4), some (.int a5), none] [] m (FX4_mostAlike_L30 f k a1 a2 a3 n a4 a5 m) := by
  intro n
  induction n with
  | zero => intros; exact Ev.nn
  | succ n ih =>
    intro a4 a5 m
    rw [FX4_mostAlike_L30]
    refine Ev.run (pc' := 34) (ls' := [some (.ref 33), some (.int a1), some (.int a2), some (.int a3), some (.int a4), some (.int a5), none]) (st' := [.int 10, .int a5]) (m' := m) [(.iload 5, 0, 0, 0, 0), (.bipush 10, 0, 0, 10, 0)] (by decide +kernel) rfl ?_
    refine Ev.ic_ge (t := 92) (by decide +kernel) ?_ ?_
    · refine Ev.le (ls' := [none, none, none, none, some (.int a4), none, none]) ⟨rfl, trivial⟩ ?_
      exact hk _ _
    · refine Ev.run (pc' := 44) (ls' := [some (.ref 33), some (.int a1), some (.int a2), some (.int a3), some (.int a4), some (.int a5), none]) (st' := [.int 1, .int ((a1 >>> (a5 &&& 31)) &&& 1)]) (m' := m) [(.iload_n 1, 0, 0, 0, 0), (.iload 5, 0, 0, 0, 0), (.ishr, 0, 0, 0, 0), (.iconst 1, 0, 0, 1, 0), (.iand, 0, 0, 0, 0), (.iconst 1, 0, 0, 1, 0)] (by decide +kernel) rfl ?_
      refine Ev.ic_ne (t := 86) (by decide +kernel) ?_ ?_
      · exact EX4_mostAlike_J86 f (FX4_mostAlike_L30 f k a1 a2 a3 n) a1 a2 a3 a4 a5 m ih (by omega)
      · refine Ev.run (pc' := 55) (ls' := [some (.ref 33), some (.int a1), some (.int a2), some (.int a3), some (.int a4), some (.int a5), none]) (st' := [.int a3, .int a2, .int a5, .ref 38]) (m' := m) [(.aload_n 0, 0, 0, 0, 0), (.getfield 22, 4, 3, 0, 0), (.iload 5, 0, 0, 0, 0), (.iload_n 2, 0, 0, 0, 0), (.iload_n 3, 0, 0, 0, 0)] (by decide +kernel) rfl ?_
        refine Ev.cS (av := [.int a5, .int a2, .int a3]) (st := [.ref 38]) (EX4_indexOf (l := l) (Ln := Ln) (xs := xs) (d := 0) f a5 a2 a3 m (by decide)) rfl (by decide +kernel) mwX4_indexOf swX4_indexOf lk_4_96 (by omega) rfl (Nat.le_of_ble_eq_true rfl) (fun r2 m3 => ?_)
        refine Ev.iald (n := 2480) (by decide +kernel) (by decide) rfl ?_
        refine Ev.run (pc' := 68) (ls' := [some (.ref 33), some (.int a1), some (.int a2), some (.int a3), some (.int a4), some (.int a5), some (.int (m3.1 38 r2.toNatClampNeg))]) (st' := [.int (m3.1 38 r2.toNatClampNeg), .ref 39, .int (m3.1 38 r2.toNatClampNeg), .ref 39]) (m' := m3) [(.istore 6, 0, 0, 0, 0), (.aload_n 0, 0, 0, 0, 0), (.getfield 25, 4, 4, 0, 0), (.iload 6, 0, 0, 0, 0), (.dup2, 0, 0, 0, 0)] (by decide +kernel) rfl ?_
        refine Ev.iald (n := 10) (by decide +kernel) (by decide) rfl ?_
        refine Ev.run (pc' := 71) (ls' := [some (.ref 33), some (.int a1), some (.int a2), some (.int a3), some (.int a4), some (.int a5), some (.int (m3.1 38 r2.toNatClampNeg))]) (st' := [.int ((m3.1 39 (m3.1 38 r2.toNatClampNeg).toNatClampNeg) + 1), .int (m3.1 38 r2.toNatClampNeg), .ref 39]) (m' := m3) [(.iconst 1, 0, 0, 1, 0), (.iadd, 0, 0, 0, 0)] (by decide +kernel) rfl ?_
        refine Ev.iast (n := 10) (by decide +kernel) (by decide) rfl ?_
        refine Ev.run (pc' := 80) (ls' := [some (.ref 33), some (.int a1), some (.int a2), some (.int a3), some (.int a4), some (.int a5), some (.int (m3.1 38 r2.toNatClampNeg))]) (st' := [.int (m3.1 38 r2.toNatClampNeg), .ref 39, .int a4]) (m' := ((ev_up m3.1 39 (m3.1 38 r2.toNatClampNeg).toNatClampNeg ((m3.1 39 (m3.1 38 r2.toNatClampNeg).toNatClampNeg) + 1)), m3.2)) [(.iload 4, 0, 0, 0, 0), (.aload_n 0, 0, 0, 0, 0), (.getfield 25, 4, 4, 0, 0), (.iload 6, 0, 0, 0, 0)] (by decide +kernel) rfl ?_
        refine Ev.iald (n := 10) (by decide +kernel) (by decide) rfl ?_
        refine Ev.cS (av := [.int a4, .int ((ev_up m3.1 39 (m3.1 38 r2.toNatClampNeg).toNatClampNeg ((m3.1 39 (m3.1 38 r2.toNatClampNeg).toNatClampNeg) + 1)) 39 (m3.1 38 r2.toNatClampNeg).toNatClampNeg)]) (st := []) (EJ9_max_7cf53 (l := l) (Ln := Ln) (xs := xs) (d := 0) f a4 ((ev_up m3.1 39 (m3.1 38 r2.toNatClampNeg).toNatClampNeg ((m3.1 39 (m3.1 38 r2.toNatClampNeg).toNatClampNeg) + 1)) 39 (m3.1 38 r2.toNatClampNeg).toNatClampNeg) ((ev_up m3.1 39 (m3.1 38 r2.toNatClampNeg).toNatClampNeg ((m3.1 39 (m3.1 38 r2.toNatClampNeg).toNatClampNeg) + 1)), m3.2) (by decide)) rfl (by decide +kernel) mwJ9_max_7cf53 swJ9_max_7cf53 lk_4_68 (by omega) rfl (Nat.le_of_ble_eq_true rfl) (fun r4 m5 => ?_)
        refine Ev.run (pc' := 86) (ls' := [some (.ref 33), some (.int a1), some (.int a2), some (.int a3), some (.int r4), some (.int a5), some (.int (m3.1 38 r2.toNatClampNeg))]) (st' := []) (m' := m5) [(.istore 4, 0, 0, 0, 0)] (by decide +kernel) rfl ?_
        refine Ev.le (ls' := [some (.ref 33), some (.int a1), some (.int a2), some (.int a3), some (.int r4), some (.int a5), none]) ⟨rfl, ⟨rfl, ⟨rfl, ⟨rfl, ⟨rfl, ⟨rfl, trivial⟩⟩⟩⟩⟩⟩ ?_
        exact EX4_mostAlike_J86 f (FX4_mostAlike_L30 f k a1 a2 a3 n) a1 a2 a3 r4 a5 m5 ih (by omega)
set_option maxRecDepth 100000 in
set_option maxHeartbeats 4000000 in
theorem EX4_mostAlike {l : Launch} {Ln : Nat} {xs : Nat → Int32} {d : Nat} (f : Nat) (a1 : Int32) (a2 : Int32) (a3 : Int32) (m : ev_M)  (hd : 1 ≤ d) : Mv ev_eI l Ln xs YX4_mostAlike d Sx [.ref 33, .int a1, .int a2, .int a3] m (FX4_mostAlike f a1 a2 a3 m) := by
  refine Mv.of (by decide +kernel) rfl (Nat.le_of_ble_eq_true rfl) (Ev.le (ls' := [some (.ref 33), some (.int a1), some (.int a2), some (.int a3), none, none, none]) ⟨rfl, ⟨rfl, ⟨rfl, ⟨rfl, trivial⟩⟩⟩⟩ ?_)
  unfold FX4_mostAlike
  refine Ev.run (pc' := 6) (ls' := [some (.ref 33), some (.int a1), some (.int a2), some (.int a3), some (.int 0), some (.int 0), none]) (st' := []) (m' := m) [(.iconst 0, 0, 0, 0, 0), (.istore 4, 0, 0, 0, 0), (.iconst 0, 0, 0, 0, 0), (.istore 5, 0, 0, 0, 0)] (by decide +kernel) rfl ?_
  refine EX4_mostAlike_L6 f _ a1 a2 a3 (0 : Int32) ?_ (by omega) _ _ _
  intro m1
  refine Ev.run (pc' := 30) (ls' := [some (.ref 33), some (.int a1), some (.int a2), some (.int a3), some (.int 0), some (.int 0), none]) (st' := []) (m' := m1) [(.iconst 0, 0, 0, 0, 0), (.istore 5, 0, 0, 0, 0)] (by decide +kernel) rfl ?_
  refine EX4_mostAlike_L30 f _ a1 a2 a3 ?_ (by omega) _ _ _ _
  intro e6 m7
  refine Ev.run (pc' := 94) (ls' := [none, none, none, none, some (.int e6), none, none]) (st' := [.int e6]) (m' := m7) [(.iload 4, 0, 0, 0, 0)] (by decide +kernel) rfl ?_
  exact Ev.ireti rfl rfl (by decide +kernel)
