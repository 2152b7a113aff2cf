def FX11_fault (f : Nat) (a1 : Int32) (m : ev_M) : Option (Int32 × ev_M) :=
  (if a1 = 0 then some ((m.1 0 15), m) else (if a1 = 1 then some ((m.1 0 16), m) else some ((-1), m)))
set_option maxRecDepth 100000 in
set_option maxHeartbeats 4000000 in
theorem EX11_fault {l : Launch} {Ln : Nat} {xs : Nat → Int32} {d : Nat} (f : Nat) (a1 : Int32) (m : ev_M)  (hd : 0 ≤ d) : Mv ev_eI l Ln xs YX11_fault d Sx [.ref 0, .int a1] m (FX11_fault f a1 m) := by
  refine Mv.of (by decide +kernel) rfl (Nat.le_of_ble_eq_true rfl) (Ev.le (ls' := [some (.ref 0), some (.int a1)]) ⟨rfl, ⟨rfl, trivial⟩⟩ ?_)
  unfold FX11_fault
  refine Ev.run (pc' := 1) (ls' := [some (.ref 0), some (.int a1)]) (st' := [.int a1]) (m' := m) [(.iload_n 1, 0, 0, 0, 0)] (by decide +kernel) rfl ?_
  refine Ev.if_ne (t := 9) (by decide +kernel) ?_ ?_
  · refine Ev.run (pc' := 11) (ls' := [some (.ref 0), some (.int a1)]) (st' := [.int 1, .int a1]) (m' := m) [(.iload_n 1, 0, 0, 0, 0), (.iconst 1, 0, 0, 1, 0)] (by decide +kernel) rfl ?_
    refine Ev.ic_ne (t := 21) (by decide +kernel) ?_ ?_
    · refine Ev.run (pc' := 22) (ls' := [some (.ref 0), some (.int a1)]) (st' := [.int (-1)]) (m' := m) [(.iconst (-1), 0, 0, (-1), 0)] (by decide +kernel) rfl ?_
      exact Ev.ireti rfl rfl (by decide +kernel)
    · refine Ev.run (pc' := 18) (ls' := [some (.ref 0), some (.int a1)]) (st' := [.int (m.1 0 16)]) (m' := m) [(.aload_n 0, 0, 0, 0, 0), (.getfield 104, 11, 16, 0, 0)] (by decide +kernel) rfl ?_
      refine Ev.gto (t := 22) (by decide +kernel) ?_
      exact Ev.ireti rfl rfl (by decide +kernel)
  · refine Ev.run (pc' := 8) (ls' := [some (.ref 0), some (.int a1)]) (st' := [.int (m.1 0 15)]) (m' := m) [(.aload_n 0, 0, 0, 0, 0), (.getfield 101, 11, 15, 0, 0)] (by decide +kernel) rfl ?_
    exact Ev.ireti rfl rfl (by decide +kernel)
def FX11_octet (f : Nat) (a1 : Int32) (m : ev_M) : Option (Int32 × ev_M) :=
  (if a1 < 0 then some ((-1), m) else (if (m.1 0 14) ≤ a1 then some ((-1), m) else (if ev_in a1 28 then some ((m.1 110 a1.toNatClampNeg), m) else none)))
set_option maxRecDepth 100000 in
set_option maxHeartbeats 4000000 in
theorem EX11_octet {l : Launch} {Ln : Nat} {xs : Nat → Int32} {d : Nat} (f : Nat) (a1 : Int32) (m : ev_M)  (hd : 0 ≤ d) : Mv ev_eI l Ln xs YX11_octet d Sx [.ref 0, .int a1] m (FX11_octet f a1 m) := by
  refine Mv.of (by decide +kernel) rfl (Nat.le_of_ble_eq_true rfl) (Ev.le (ls' := [some (.ref 0), some (.int a1)]) ⟨rfl, ⟨rfl, trivial⟩⟩ ?_)
  unfold FX11_octet
  refine Ev.run (pc' := 1) (ls' := [some (.ref 0), some (.int a1)]) (st' := [.int a1]) (m' := m) [(.iload_n 1, 0, 0, 0, 0)] (by decide +kernel) rfl ?_
  refine Ev.if_lt (t := 21) (by decide +kernel) ?_ ?_
  · refine Ev.run (pc' := 22) (ls' := [some (.ref 0), some (.int a1)]) (st' := [.int (-1)]) (m' := m) [(.iconst (-1), 0, 0, (-1), 0)] (by decide +kernel) rfl ?_
    exact Ev.ireti rfl rfl (by decide +kernel)
  · refine Ev.run (pc' := 9) (ls' := [some (.ref 0), some (.int a1)]) (st' := [.int (m.1 0 14), .int a1]) (m' := m) [(.iload_n 1, 0, 0, 0, 0), (.aload_n 0, 0, 0, 0, 0), (.getfield 97, 11, 14, 0, 0)] (by decide +kernel) rfl ?_
    refine Ev.ic_ge (t := 21) (by decide +kernel) ?_ ?_
    · refine Ev.run (pc' := 22) (ls' := [some (.ref 0), some (.int a1)]) (st' := [.int (-1)]) (m' := m) [(.iconst (-1), 0, 0, (-1), 0)] (by decide +kernel) rfl ?_
      exact Ev.ireti rfl rfl (by decide +kernel)
    · refine Ev.run (pc' := 17) (ls' := [some (.ref 0), some (.int a1)]) (st' := [.int a1, .ref 110]) (m' := m) [(.aload_n 0, 0, 0, 0, 0), (.getfield 90, 11, 12, 0, 0), (.iload_n 1, 0, 0, 0, 0)] (by decide +kernel) rfl ?_
      refine Ev.iald (n := 28) (by decide +kernel) (by decide) rfl ?_
      refine Ev.gto (t := 22) (by decide +kernel) ?_
      exact Ev.ireti rfl rfl (by decide +kernel)
def FX11_status (f : Nat) (a1 : Int32) (m : ev_M) : Option (Int32 × ev_M) :=
  (if a1 < 0 then some ((-1), m) else (if 6 ≤ a1 then some ((-1), m) else (if ev_in a1 6 then some ((m.1 109 a1.toNatClampNeg), m) else none)))
set_option maxRecDepth 100000 in
set_option maxHeartbeats 4000000 in
theorem EX11_status {l : Launch} {Ln : Nat} {xs : Nat → Int32} {d : Nat} (f : Nat) (a1 : Int32) (m : ev_M)  (hd : 0 ≤ d) : Mv ev_eI l Ln xs YX11_status d Sx [.ref 0, .int a1] m (FX11_status f a1 m) := by
  refine Mv.of (by decide +kernel) rfl (Nat.le_of_ble_eq_true rfl) (Ev.le (ls' := [some (.ref 0), some (.int a1)]) ⟨rfl, ⟨rfl, trivial⟩⟩ ?_)
  unfold FX11_status
  refine Ev.run (pc' := 1) (ls' := [some (.ref 0), some (.int a1)]) (st' := [.int a1]) (m' := m) [(.iload_n 1, 0, 0, 0, 0)] (by decide +kernel) rfl ?_
  refine Ev.if_lt (t := 19) (by decide +kernel) ?_ ?_
  · refine Ev.run (pc' := 20) (ls' := [some (.ref 0), some (.int a1)]) (st' := [.int (-1)]) (m' := m) [(.iconst (-1), 0, 0, (-1), 0)] (by decide +kernel) rfl ?_
    exact Ev.ireti rfl rfl (by decide +kernel)
  · refine Ev.run (pc' := 7) (ls' := [some (.ref 0), some (.int a1)]) (st' := [.int 6, .int a1]) (m' := m) [(.iload_n 1, 0, 0, 0, 0), (.bipush 6, 0, 0, 6, 0)] (by decide +kernel) rfl ?_
    refine Ev.ic_ge (t := 19) (by decide +kernel) ?_ ?_
    · refine Ev.run (pc' := 20) (ls' := [some (.ref 0), some (.int a1)]) (st' := [.int (-1)]) (m' := m) [(.iconst (-1), 0, 0, (-1), 0)] (by decide +kernel) rfl ?_
      exact Ev.ireti rfl rfl (by decide +kernel)
    · refine Ev.run (pc' := 15) (ls' := [some (.ref 0), some (.int a1)]) (st' := [.int a1, .ref 109]) (m' := m) [(.aload_n 0, 0, 0, 0, 0), (.getfield 86, 11, 11, 0, 0), (.iload_n 1, 0, 0, 0, 0)] (by decide +kernel) rfl ?_
      refine Ev.iald (n := 6) (by decide +kernel) (by decide) rfl ?_
      refine Ev.gto (t := 20) (by decide +kernel) ?_
      exact Ev.ireti rfl rfl (by decide +kernel)
def FX11_refuse (f : Nat) (a1 : Int32) (m : ev_M) : Option (Int32 × ev_M) :=
  (if ev_in a1 6 then (if ev_in a1 6 then some (0, ((ev_up m.1 109 a1.toNatClampNeg ((m.1 109 a1.toNatClampNeg) + 1)), m.2)) else none) else none)
set_option maxRecDepth 100000 in
set_option maxHeartbeats 4000000 in
theorem EX11_refuse {l : Launch} {Ln : Nat} {xs : Nat → Int32} {d : Nat} (f : Nat) (a1 : Int32) (m : ev_M)  (hd : 0 ≤ d) : Mv ev_eI l Ln xs YX11_refuse d Sx [.ref 0, .int a1] m (FX11_refuse f a1 m) := by
  refine Mv.of (by decide +kernel) rfl (Nat.le_of_ble_eq_true rfl) (Ev.le (ls' := [some (.ref 0), some (.int a1)]) ⟨rfl, ⟨rfl, trivial⟩⟩ ?_)
  unfold FX11_refuse
  refine Ev.run (pc' := 6) (ls' := [some (.ref 0), some (.int a1)]) (st' := [.int a1, .ref 109, .int a1, .ref 109]) (m' := m) [(.aload_n 0, 0, 0, 0, 0), (.getfield 86, 11, 11, 0, 0), (.iload_n 1, 0, 0, 0, 0), (.dup2, 0, 0, 0, 0)] (by decide +kernel) rfl ?_
  refine Ev.iald (n := 6) (by decide +kernel) (by decide) rfl ?_
  refine Ev.run (pc' := 9) (ls' := [some (.ref 0), some (.int a1)]) (st' := [.int ((m.1 109 a1.toNatClampNeg) + 1), .int a1, .ref 109]) (m' := m) [(.iconst 1, 0, 0, 1, 0), (.iadd, 0, 0, 0, 0)] (by decide +kernel) rfl ?_
  refine Ev.iast (n := 6) (by decide +kernel) (by decide) rfl ?_
  refine Ev.run (pc' := 11) (ls' := [some (.ref 0), some (.int a1)]) (st' := [.int 0]) (m' := ((ev_up m.1 109 a1.toNatClampNeg ((m.1 109 a1.toNatClampNeg) + 1)), m.2)) [(.iconst 0, 0, 0, 0, 0)] (by decide +kernel) rfl ?_
  exact Ev.iretz rfl rfl (by decide +kernel) (by decide)
def FX11_noteFault (f : Nat)  (m : ev_M) : Option (Unit × ev_M) :=
  some ((), ((ev_up (ev_up m.1 0 15 (m.1 13 3)) 0 16 (m.1 13 4)), m.2))
set_option maxRecDepth 100000 in
set_option maxHeartbeats 4000000 in
theorem EX11_noteFault {l : Launch} {Ln : Nat} {xs : Nat → Int32} {d : Nat} (f : Nat)  (m : ev_M)  (hd : 0 ≤ d) : Mv ev_eV l Ln xs YX11_noteFault d Sx [.ref 0] m (FX11_noteFault f  m) := by
  refine Mv.of (by decide +kernel) rfl (Nat.le_of_ble_eq_true rfl) (Ev.le (ls' := [some (.ref 0)]) ⟨rfl, trivial⟩ ?_)
  unfold FX11_noteFault
  refine Ev.run (pc' := 22) (ls' := [some (.ref 0)]) (st' := []) (m' := ((ev_up (ev_up m.1 0 15 (m.1 13 3)) 0 16 (m.1 13 4)), m.2)) [(.aload_n 0, 0, 0, 0, 0), (.aload_n 0, 0, 0, 0, 0), (.getfield 22, 11, 2, 0, 0), (.getfield 321, 10, 3, 0, 0), (.putfield 101, 11, 15, 0, 0), (.aload_n 0, 0, 0, 0, 0), (.aload_n 0, 0, 0, 0, 0), (.getfield 22, 11, 2, 0, 0), (.getfield 322, 10, 4, 0, 0), (.putfield 104, 11, 16, 0, 0)] (by decide +kernel) rfl ?_
  exact Ev.retv rfl rfl (by decide +kernel)
def FX11_isTold (f : Nat)  (m : ev_M) : Option (Int32 × ev_M) :=
  (if isK 1 ((m.1 0 0)).toNatClampNeg then (if (m.1 ((m.1 0 0)).toNatClampNeg 4) ≤ 0 then some (0, m) else some (1, m)) else none)
set_option maxRecDepth 100000 in
set_option maxHeartbeats 4000000 in
theorem EX11_isTold {l : Launch} {Ln : Nat} {xs : Nat → Int32} {d : Nat} (f : Nat)  (m : ev_M)  (hd : 0 ≤ d) : Mv ev_eI l Ln xs YX11_isTold d Sx [.ref 0] m (FX11_isTold f  m) := by
  refine Mv.of (by decide +kernel) rfl (Nat.le_of_ble_eq_true rfl) (Ev.le (ls' := [some (.ref 0)]) ⟨rfl, trivial⟩ ?_)
  unfold FX11_isTold
  refine Ev.run (pc' := 1) (ls' := [some (.ref 0)]) (st' := [.ref 0]) (m' := m) [(.aload_n 0, 0, 0, 0, 0)] (by decide +kernel) rfl ?_
  refine Ev.ite (fun h1 => ?_) (fun _ => Ev.nn)
  refine Ev.getS (v := .ref ((m.1 0 0)).toNatClampNeg) (ci := 11) (k := 0) (idx := 10) (by decide +kernel) (by decide +kernel) (by decide) (by rw [show Sx.2.1 0 = (11, 18) from rfl]) (by rw [show Sx.2.1 0 = (11, 18) from rfl]; decide) (ev_gv_dyn1 rfl (Nat.pos_iff_ne_zero.mp (k1_z0 h1))) ?_
  refine Ev.getS (v := .int (m.1 ((m.1 0 0)).toNatClampNeg 4)) (ci := 1) (k := 4) (idx := 144) (by decide +kernel) (by decide +kernel) (k1_l0 h1) (by rw [(k1_s0 h1)]) (by rw [(k1_s0 h1)]; decide) rfl ?_
  refine Ev.if_le (t := 14) (by decide +kernel) ?_ ?_
  · refine Ev.run (pc' := 15) (ls' := [some (.ref 0)]) (st' := [.int 0]) (m' := m) [(.iconst 0, 0, 0, 0, 0)] (by decide +kernel) rfl ?_
    exact Ev.iretz rfl rfl (by decide +kernel) (by decide)
  · refine Ev.run (pc' := 11) (ls' := [some (.ref 0)]) (st' := [.int 1]) (m' := m) [(.iconst 1, 0, 0, 1, 0)] (by decide +kernel) rfl ?_
    refine Ev.gto (t := 15) (by decide +kernel) ?_
    exact Ev.iretz rfl rfl (by decide +kernel) (by decide)
def FX11_isTower (f : Nat) (a1 : Int32) (m : ev_M) : Option (Int32 × ev_M) :=
  (if a1 < 0 then some (0, m) else (if isK 1 ((m.1 0 0)).toNatClampNeg then (if (m.1 ((m.1 0 0)).toNatClampNeg 5) ≤ a1 then some (0, m) else some (1, m)) else none))
set_option maxRecDepth 100000 in
set_option maxHeartbeats 4000000 in
theorem EX11_isTower {l : Launch} {Ln : Nat} {xs : Nat → Int32} {d : Nat} (f : Nat) (a1 : Int32) (m : ev_M)  (hd : 0 ≤ d) : Mv ev_eI l Ln xs YX11_isTower d Sx [.ref 0, .int a1] m (FX11_isTower f a1 m) := by
  refine Mv.of (by decide +kernel) rfl (Nat.le_of_ble_eq_true rfl) (Ev.le (ls' := [some (.ref 0), some (.int a1)]) ⟨rfl, ⟨rfl, trivial⟩⟩ ?_)
  unfold FX11_isTower
  refine Ev.run (pc' := 1) (ls' := [some (.ref 0), some (.int a1)]) (st' := [.int a1]) (m' := m) [(.iload_n 1, 0, 0, 0, 0)] (by decide +kernel) rfl ?_
  refine Ev.if_lt (t := 19) (by decide +kernel) ?_ ?_
  · refine Ev.run (pc' := 20) (ls' := [some (.ref 0), some (.int a1)]) (st' := [.int 0]) (m' := m) [(.iconst 0, 0, 0, 0, 0)] (by decide +kernel) rfl ?_
    exact Ev.iretz rfl rfl (by decide +kernel) (by decide)
  · refine Ev.run (pc' := 6) (ls' := [some (.ref 0), some (.int a1)]) (st' := [.ref 0, .int a1]) (m' := m) [(.iload_n 1, 0, 0, 0, 0), (.aload_n 0, 0, 0, 0, 0)] (by decide +kernel) rfl ?_
    refine Ev.ite (fun h1 => ?_) (fun _ => Ev.nn)
    refine Ev.getS (v := .ref ((m.1 0 0)).toNatClampNeg) (ci := 11) (k := 0) (idx := 10) (by decide +kernel) (by decide +kernel) (by decide) (by rw [show Sx.2.1 0 = (11, 18) from rfl]) (by rw [show Sx.2.1 0 = (11, 18) from rfl]; decide) (ev_gv_dyn1 rfl (Nat.pos_iff_ne_zero.mp (k1_z0 h1))) ?_
    refine Ev.getS (v := .int (m.1 ((m.1 0 0)).toNatClampNeg 5)) (ci := 1) (k := 5) (idx := 147) (by decide +kernel) (by decide +kernel) (k1_l0 h1) (by rw [(k1_s0 h1)]) (by rw [(k1_s0 h1)]; decide) rfl ?_
    refine Ev.ic_ge (t := 19) (by decide +kernel) ?_ ?_
    · refine Ev.run (pc' := 20) (ls' := [some (.ref 0), some (.int a1)]) (st' := [.int 0]) (m' := m) [(.iconst 0, 0, 0, 0, 0)] (by decide +kernel) rfl ?_
      exact Ev.iretz rfl rfl (by decide +kernel) (by decide)
    · refine Ev.run (pc' := 16) (ls' := [some (.ref 0), some (.int a1)]) (st' := [.int 1]) (m' := m) [(.iconst 1, 0, 0, 1, 0)] (by decide +kernel) rfl ?_
      refine Ev.gto (t := 20) (by decide +kernel) ?_
      exact Ev.iretz rfl rfl (by decide +kernel) (by decide)
def FX11_canBeAhead (f : Nat) (a1 : Int32) (a2 : Int32) (a3 : Int32) (m : ev_M) : Option (Int32 × ev_M) :=
  (if a1 < a2 then some (0, m) else (if a3 < a1 then some (0, m) else (if 999 < ((m.1 103 2) + a1) then some (0, m) else some (1, m))))
set_option maxRecDepth 100000 in
set_option maxHeartbeats 4000000 in
theorem EX11_canBeAhead {l : Launch} {Ln : Nat} {xs : Nat → Int32} {d : Nat} (f : Nat) (a1 : Int32) (a2 : Int32) (a3 : Int32) (m : ev_M)  (hd : 0 ≤ d) : Mv ev_eI l Ln xs YX11_canBeAhead d Sx [.ref 0, .int a1, .int a2, .int a3] m (FX11_canBeAhead f a1 a2 a3 m) := by
  refine Mv.of (by decide +kernel) rfl (Nat.le_of_ble_eq_true rfl) (Ev.le (ls' := [some (.ref 0), some (.int a1), some (.int a2), some (.int a3)]) ⟨rfl, ⟨rfl, ⟨rfl, ⟨rfl, trivial⟩⟩⟩⟩ ?_)
  unfold FX11_canBeAhead
  refine Ev.run (pc' := 2) (ls' := [some (.ref 0), some (.int a1), some (.int a2), some (.int a3)]) (st' := [.int a2, .int a1]) (m' := m) [(.iload_n 1, 0, 0, 0, 0), (.iload_n 2, 0, 0, 0, 0)] (by decide +kernel) rfl ?_
  refine Ev.ic_lt (t := 29) (by decide +kernel) ?_ ?_
  · refine Ev.run (pc' := 30) (ls' := [some (.ref 0), some (.int a1), some (.int a2), some (.int a3)]) (st' := [.int 0]) (m' := m) [(.iconst 0, 0, 0, 0, 0)] (by decide +kernel) rfl ?_
    exact Ev.iretz rfl rfl (by decide +kernel) (by decide)
  · refine Ev.run (pc' := 7) (ls' := [some (.ref 0), some (.int a1), some (.int a2), some (.int a3)]) (st' := [.int a3, .int a1]) (m' := m) [(.iload_n 1, 0, 0, 0, 0), (.iload_n 3, 0, 0, 0, 0)] (by decide +kernel) rfl ?_
    refine Ev.ic_gt (t := 29) (by decide +kernel) ?_ ?_
    · refine Ev.run (pc' := 30) (ls' := [some (.ref 0), some (.int a1), some (.int a2), some (.int a3)]) (st' := [.int 0]) (m' := m) [(.iconst 0, 0, 0, 0, 0)] (by decide +kernel) rfl ?_
      exact Ev.iretz rfl rfl (by decide +kernel) (by decide)
    · refine Ev.run (pc' := 22) (ls' := [some (.ref 0), some (.int a1), some (.int a2), some (.int a3)]) (st' := [.int 999, .int ((m.1 103 2) + a1)]) (m' := m) [(.aload_n 0, 0, 0, 0, 0), (.getfield 79, 11, 9, 0, 0), (.getfield 150, 8, 2, 0, 0), (.iload_n 1, 0, 0, 0, 0), (.iadd, 0, 0, 0, 0), (.sipush 999, 0, 0, 999, 0)] (by decide +kernel) rfl ?_
      refine Ev.ic_gt (t := 29) (by decide +kernel) ?_ ?_
      · refine Ev.run (pc' := 30) (ls' := [some (.ref 0), some (.int a1), some (.int a2), some (.int a3)]) (st' := [.int 0]) (m' := m) [(.iconst 0, 0, 0, 0, 0)] (by decide +kernel) rfl ?_
        exact Ev.iretz rfl rfl (by decide +kernel) (by decide)
      · refine Ev.run (pc' := 26) (ls' := [some (.ref 0), some (.int a1), some (.int a2), some (.int a3)]) (st' := [.int 1]) (m' := m) [(.iconst 1, 0, 0, 1, 0)] (by decide +kernel) rfl ?_
        refine Ev.gto (t := 30) (by decide +kernel) ?_
        exact Ev.iretz rfl rfl (by decide +kernel) (by decide)
def FX11_comes (f : Nat) (a1 : Int32) (m : ev_M) : Option (Int32 × ev_M) :=
  (if a1 < 0 then some (0, m) else (if 60 < a1 then some (0, m) else (if 999 ≤ ((m.1 103 2) + a1) then some (0, m) else some (1, m))))
set_option maxRecDepth 100000 in
set_option maxHeartbeats 4000000 in
theorem EX11_comes {l : Launch} {Ln : Nat} {xs : Nat → Int32} {d : Nat} (f : Nat) (a1 : Int32) (m : ev_M)  (hd : 0 ≤ d) : Mv ev_eI l Ln xs YX11_comes d Sx [.ref 0, .int a1] m (FX11_comes f a1 m) := by
  refine Mv.of (by decide +kernel) rfl (Nat.le_of_ble_eq_true rfl) (Ev.le (ls' := [some (.ref 0), some (.int a1)]) ⟨rfl, ⟨rfl, trivial⟩⟩ ?_)
  unfold FX11_comes
  refine Ev.run (pc' := 1) (ls' := [some (.ref 0), some (.int a1)]) (st' := [.int a1]) (m' := m) [(.iload_n 1, 0, 0, 0, 0)] (by decide +kernel) rfl ?_
  refine Ev.if_lt (t := 29) (by decide +kernel) ?_ ?_
  · refine Ev.run (pc' := 30) (ls' := [some (.ref 0), some (.int a1)]) (st' := [.int 0]) (m' := m) [(.iconst 0, 0, 0, 0, 0)] (by decide +kernel) rfl ?_
    exact Ev.iretz rfl rfl (by decide +kernel) (by decide)
  · refine Ev.run (pc' := 7) (ls' := [some (.ref 0), some (.int a1)]) (st' := [.int 60, .int a1]) (m' := m) [(.iload_n 1, 0, 0, 0, 0), (.bipush 60, 0, 0, 60, 0)] (by decide +kernel) rfl ?_
    refine Ev.ic_gt (t := 29) (by decide +kernel) ?_ ?_
    · refine Ev.run (pc' := 30) (ls' := [some (.ref 0), some (.int a1)]) (st' := [.int 0]) (m' := m) [(.iconst 0, 0, 0, 0, 0)] (by decide +kernel) rfl ?_
      exact Ev.iretz rfl rfl (by decide +kernel) (by decide)
    · refine Ev.run (pc' := 22) (ls' := [some (.ref 0), some (.int a1)]) (st' := [.int 999, .int ((m.1 103 2) + a1)]) (m' := m) [(.aload_n 0, 0, 0, 0, 0), (.getfield 79, 11, 9, 0, 0), (.getfield 150, 8, 2, 0, 0), (.iload_n 1, 0, 0, 0, 0), (.iadd, 0, 0, 0, 0), (.sipush 999, 0, 0, 999, 0)] (by decide +kernel) rfl ?_
      refine Ev.ic_ge (t := 29) (by decide +kernel) ?_ ?_
      · refine Ev.run (pc' := 30) (ls' := [some (.ref 0), some (.int a1)]) (st' := [.int 0]) (m' := m) [(.iconst 0, 0, 0, 0, 0)] (by decide +kernel) rfl ?_
        exact Ev.iretz rfl rfl (by decide +kernel) (by decide)
      · refine Ev.run (pc' := 26) (ls' := [some (.ref 0), some (.int a1)]) (st' := [.int 1]) (m' := m) [(.iconst 1, 0, 0, 1, 0)] (by decide +kernel) rfl ?_
        refine Ev.gto (t := 30) (by decide +kernel) ?_
        exact Ev.iretz rfl rfl (by decide +kernel) (by decide)
def FX11_canGo (f : Nat) (a1 : Int32) (m : ev_M) : Option (Int32 × ev_M) :=
  (ev_bd (FX11_isTold f m) (fun r1 m2 => (if r1 = 0 then some (0, m2) else (ev_bd (FX11_canBeAhead f a1 (1 : Int32) (100 : Int32) m2) (fun r3 m4 => (if r3 = 0 then some (0, m4) else some (1, m4)))))))
set_option maxRecDepth 100000 in
set_option maxHeartbeats 4000000 in
theorem EX11_canGo {l : Launch} {Ln : Nat} {xs : Nat → Int32} {d : Nat} (f : Nat) (a1 : Int32) (m : ev_M)  (hd : 1 ≤ d) : Mv ev_eI l Ln xs YX11_canGo d Sx [.ref 0, .int a1] m (FX11_canGo f a1 m) := by
  refine Mv.of (by decide +kernel) rfl (Nat.le_of_ble_eq_true rfl) (Ev.le (ls' := [some (.ref 0), some (.int a1)]) ⟨rfl, ⟨rfl, trivial⟩⟩ ?_)
  unfold FX11_canGo
  refine Ev.run (pc' := 1) (ls' := [some (.ref 0), some (.int a1)]) (st' := [.ref 0]) (m' := m) [(.aload_n 0, 0, 0, 0, 0)] (by decide +kernel) rfl ?_
  refine Ev.cV (av := []) (st := []) (a := 0) (EX11_isTold (l := l) (Ln := Ln) (xs := xs) (d := 0) f m (by decide)) rfl (by decide +kernel) mwX11_isTold iwX11_isTold vwX11_isTold lk_11_153 (by omega) (by decide) rfl (by decide) rfl rfl (Nat.le_of_ble_eq_true rfl) (fun r1 m2 => ?_)
  refine Ev.if_eq (t := 22) (by decide +kernel) ?_ ?_
  · refine Ev.run (pc' := 23) (ls' := [some (.ref 0), some (.int a1)]) (st' := [.int 0]) (m' := m2) [(.iconst 0, 0, 0, 0, 0)] (by decide +kernel) rfl ?_
    exact Ev.iretz rfl rfl (by decide +kernel) (by decide)
  · refine Ev.run (pc' := 12) (ls' := [some (.ref 0), some (.int a1)]) (st' := [.int 100, .int 1, .int a1, .ref 0]) (m' := m2) [(.aload_n 0, 0, 0, 0, 0), (.iload_n 1, 0, 0, 0, 0), (.iconst 1, 0, 0, 1, 0), (.bipush 100, 0, 0, 100, 0)] (by decide +kernel) rfl ?_
    refine Ev.cV (av := [.int a1, .int 1, .int 100]) (st := []) (a := 0) (EX11_canBeAhead (l := l) (Ln := Ln) (xs := xs) (d := 0) f a1 (1 : Int32) (100 : Int32) m2 (by decide)) rfl (by decide +kernel) mwX11_canBeAhead iwX11_canBeAhead vwX11_canBeAhead lk_11_206 (by omega) (by decide) rfl (by decide) rfl rfl (Nat.le_of_ble_eq_true rfl) (fun r3 m4 => ?_)
    refine Ev.if_eq (t := 22) (by decide +kernel) ?_ ?_
    · refine Ev.run (pc' := 23) (ls' := [some (.ref 0), some (.int a1)]) (st' := [.int 0]) (m' := m4) [(.iconst 0, 0, 0, 0, 0)] (by decide +kernel) rfl ?_
      exact Ev.iretz rfl rfl (by decide +kernel) (by decide)
    · refine Ev.run (pc' := 19) (ls' := [some (.ref 0), some (.int a1)]) (st' := [.int 1]) (m' := m4) [(.iconst 1, 0, 0, 1, 0)] (by decide +kernel) rfl ?_
      refine Ev.gto (t := 23) (by decide +kernel) ?_
      exact Ev.iretz rfl rfl (by decide +kernel) (by decide)
def FX11_moodsTogether_L4 (f : Nat) (k : Int32 → ev_M → Option (Int32 × ev_M))   : Nat → Int32 → Int32 → ev_M → Option (Int32 × ev_M)
  | 0, _, _, _ => none
  | n + 1, a1, a2, m => (if isK 1 ((m.1 0 0)).toNatClampNeg then (if (m.1 ((m.1 0 0)).toNatClampNeg 5) ≤ a2 then (k a1 m) else (if ev_in a2 8 then (FX11_moodsTogether_L4 f k n (a1 + (m.1 104 a2.toNatClampNeg)) (a2 + 1) m) else none)) else none)
def FX11_moodsTogether (f : Nat)  (m : ev_M) : Option (Int32 × ev_M) :=
  (FX11_moodsTogether_L4 f (fun e2 m3 => some (e2, m3)) f (0 : Int32) (0 : Int32) m)
set_option maxRecDepth 100000 in
set_option maxHeartbeats 4000000 in
theorem EX11_moodsTogether_L4 {l : Launch} {Ln : Nat} {xs : Nat → Int32} {d : Nat} (f : Nat) (k : Int32 → ev_M → Option (Int32 × ev_M))     (hk : ∀ (e1 : Int32) (em : ev_M), Ev ev_eI l Ln xs YX11_moodsTogether d Sx 33 [none, some (.int e1), none] [] em (k e1 em)) (hd : 0 ≤ d) : ∀ (n : Nat) (a1 : Int32) (a2 : Int32) (m : ev_M), Ev ev_eI l Ln xs YX11_moodsTogether d Sx 4 [some (.ref 0), some (.int a1), some (.int a2)] [] m (FX11_moodsTogether_L4 f k n a1 a2 m) := by
  intro n
  induction n with
  | zero => intros; exact Ev.nn
  | succ n ih =>
    intro a1 a2 m
    rw [FX11_moodsTogether_L4]
    refine Ev.run (pc' := 6) (ls' := [some (.ref 0), some (.int a1), some (.int a2)]) (st' := [.ref 0, .int a2]) (m' := m) [(.iload_n 2, 0, 0, 0, 0), (.aload_n 0, 0, 0, 0, 0)] (by decide +kernel) rfl ?_
    refine Ev.ite (fun h1 => ?_) (fun _ => Ev.nn)
    refine Ev.getS (v := .ref ((m.1 0 0)).toNatClampNeg) (ci := 11) (k := 0) (idx := 10) (by decide +kernel) (by decide +kernel) (by decide) (by rw [show Sx.2.1 0 = (11, 18) from rfl]) (by rw [show Sx.2.1 0 = (11, 18) from rfl]; decide) (ev_gv_dyn1 rfl (Nat.pos_iff_ne_zero.mp (k1_z0 h1))) ?_
    refine Ev.getS (v := .int (m.1 ((m.1 0 0)).toNatClampNeg 5)) (ci := 1) (k := 5) (idx := 147) (by decide +kernel) (by decide +kernel) (k1_l0 h1) (by rw [(k1_s0 h1)]) (by rw [(k1_s0 h1)]; decide) rfl ?_
    refine Ev.ic_ge (t := 33) (by decide +kernel) ?_ ?_
    · refine Ev.le (ls' := [none, some (.int a1), none]) ⟨rfl, trivial⟩ ?_
      exact hk _ _
    · refine Ev.run (pc' := 24) (ls' := [some (.ref 0), some (.int a1), some (.int a2)]) (st' := [.int a2, .ref 104, .int a1]) (m' := m) [(.iload_n 1, 0, 0, 0, 0), (.aload_n 0, 0, 0, 0, 0), (.getfield 79, 11, 9, 0, 0), (.getfield 188, 8, 0, 0, 0), (.iload_n 2, 0, 0, 0, 0)] (by decide +kernel) rfl ?_
      refine Ev.iald (n := 8) (by decide +kernel) (by decide) rfl ?_
      refine Ev.run (pc' := 30) (ls' := [some (.ref 0), some (.int (a1 + (m.1 104 a2.toNatClampNeg))), some (.int (a2 + 1))]) (st' := []) (m' := m) [(.iadd, 0, 0, 0, 0), (.istore_n 1, 0, 0, 0, 0), (.iinc 2 1, 0, 0, 1, 0)] (by decide +kernel) rfl ?_
      refine Ev.gto (t := 4) (by decide +kernel) ?_
      exact ih _ _ _
set_option maxRecDepth 100000 in
set_option maxHeartbeats 4000000 in
theorem EX11_moodsTogether {l : Launch} {Ln : Nat} {xs : Nat → Int32} {d : Nat} (f : Nat)  (m : ev_M)  (hd : 0 ≤ d) : Mv ev_eI l Ln xs YX11_moodsTogether d Sx [.ref 0] m (FX11_moodsTogether f  m) := by
  refine Mv.of (by decide +kernel) rfl (Nat.le_of_ble_eq_true rfl) (Ev.le (ls' := [some (.ref 0), none, none]) ⟨rfl, trivial⟩ ?_)
  unfold FX11_moodsTogether
  refine Ev.run (pc' := 4) (ls' := [some (.ref 0), some (.int 0), some (.int 0)]) (st' := []) (m' := m) [(.iconst 0, 0, 0, 0, 0), (.istore_n 1, 0, 0, 0, 0), (.iconst 0, 0, 0, 0, 0), (.istore_n 2, 0, 0, 0, 0)] (by decide +kernel) rfl ?_
  refine EX11_moodsTogether_L4 f _ ?_ (by omega) _ _ _ _
  intro e2 m3
  refine Ev.run (pc' := 34) (ls' := [none, some (.int e2), none]) (st' := [.int e2]) (m' := m3) [(.iload_n 1, 0, 0, 0, 0)] (by decide +kernel) rfl ?_
  exact Ev.ireti rfl rfl (by decide +kernel)
def FX11_indexBelow_L2 (f : Nat) (k : ev_M → Option (Int32 × ev_M))  (a1 : Int32) : Nat → Int32 → ev_M → Option (Int32 × ev_M)
  | 0, _, _ => none
  | n + 1, a2, m => (if a1 ≤ a2 then (k m) else (if ev_in a2 61 then (if ev_in a1 61 then (if (lg_cmp (m.2 111 a2.toNatClampNeg) (m.2 111 a1.toNatClampNeg)) = 0 then some (a2, m) else (FX11_indexBelow_L2 f k a1 n (a2 + 1) m)) else none) else none))
def FX11_indexBelow (f : Nat) (a1 : Int32) (m : ev_M) : Option (Int32 × ev_M) :=
  (FX11_indexBelow_L2 f (fun m1 => some ((-1), m1)) a1 f (0 : Int32) m)
set_option maxRecDepth 100000 in
set_option maxHeartbeats 4000000 in
theorem EX11_indexBelow_L2 {l : Launch} {Ln : Nat} {xs : Nat → Int32} {d : Nat} (f : Nat) (k : ev_M → Option (Int32 × ev_M))  (a1 : Int32)   (hk : ∀  (em : ev_M), Ev ev_eI l Ln xs YX11_indexBelow d Sx 31 [none, none, none] [] em (k em)) (hd : 0 ≤ d) : ∀ (n : Nat) (a2 : Int32) (m : ev_M), Ev ev_eI l Ln xs YX11_indexBelow d Sx 2 [some (.ref 0), some (.int a1), some (.int a2)] [] m (FX11_indexBelow_L2 f k a1 n a2 m) := by
  intro n
  induction n with
  | zero => intros; exact Ev.nn
  | succ n ih =>
    intro a2 m
    rw [FX11_indexBelow_L2]
    refine Ev.run (pc' := 4) (ls' := [some (.ref 0), some (.int a1), some (.int a2)]) (st' := [.int a1, .int a2]) (m' := m) [(.iload_n 2, 0, 0, 0, 0), (.iload_n 1, 0, 0, 0, 0)] (by decide +kernel) rfl ?_
    refine Ev.ic_ge (t := 31) (by decide +kernel) ?_ ?_
    · refine Ev.le (ls' := [none, none, none]) trivial ?_
      exact hk _
    · refine Ev.run (pc' := 12) (ls' := [some (.ref 0), some (.int a1), some (.int a2)]) (st' := [.int a2, .ref 111]) (m' := m) [(.aload_n 0, 0, 0, 0, 0), (.getfield 93, 11, 13, 0, 0), (.iload_n 2, 0, 0, 0, 0)] (by decide +kernel) rfl ?_
      refine Ev.lald (n := 61) (by decide +kernel) (by decide) rfl ?_
      refine Ev.run (pc' := 18) (ls' := [some (.ref 0), some (.int a1), some (.int a2)]) (st' := [.int a1, .ref 111, .long (m.2 111 a2.toNatClampNeg)]) (m' := m) [(.aload_n 0, 0, 0, 0, 0), (.getfield 93, 11, 13, 0, 0), (.iload_n 1, 0, 0, 0, 0)] (by decide +kernel) rfl ?_
      refine Ev.lald (n := 61) (by decide +kernel) (by decide) rfl ?_
      refine Ev.run (pc' := 20) (ls' := [some (.ref 0), some (.int a1), some (.int a2)]) (st' := [.int (lg_cmp (m.2 111 a2.toNatClampNeg) (m.2 111 a1.toNatClampNeg))]) (m' := m) [(.lcmp, 0, 0, 0, 0)] (by decide +kernel) rfl ?_
      refine Ev.if_ne (t := 25) (by decide +kernel) ?_ ?_
      · refine Ev.run (pc' := 28) (ls' := [some (.ref 0), some (.int a1), some (.int (a2 + 1))]) (st' := []) (m' := m) [(.iinc 2 1, 0, 0, 1, 0)] (by decide +kernel) rfl ?_
        refine Ev.gto (t := 2) (by decide +kernel) ?_
        exact ih _ _
      · refine Ev.run (pc' := 24) (ls' := [some (.ref 0), some (.int a1), some (.int a2)]) (st' := [.int a2]) (m' := m) [(.iload_n 2, 0, 0, 0, 0)] (by decide +kernel) rfl ?_
        exact Ev.ireti rfl rfl (by decide +kernel)
set_option maxRecDepth 100000 in
set_option maxHeartbeats 4000000 in
theorem EX11_indexBelow {l : Launch} {Ln : Nat} {xs : Nat → Int32} {d : Nat} (f : Nat) (a1 : Int32) (m : ev_M)  (hd : 0 ≤ d) : Mv ev_eI l Ln xs YX11_indexBelow d Sx [.ref 0, .int a1] m (FX11_indexBelow f a1 m) := by
  refine Mv.of (by decide +kernel) rfl (Nat.le_of_ble_eq_true rfl) (Ev.le (ls' := [some (.ref 0), some (.int a1), none]) ⟨rfl, ⟨rfl, trivial⟩⟩ ?_)
  unfold FX11_indexBelow
  refine Ev.run (pc' := 2) (ls' := [some (.ref 0), some (.int a1), some (.int 0)]) (st' := []) (m' := m) [(.iconst 0, 0, 0, 0, 0), (.istore_n 2, 0, 0, 0, 0)] (by decide +kernel) rfl ?_
  refine EX11_indexBelow_L2 f _ a1 ?_ (by omega) _ _ _
  intro m1
  refine Ev.run (pc' := 32) (ls' := [none, none, none]) (st' := [.int (-1)]) (m' := m1) [(.iconst (-1), 0, 0, (-1), 0)] (by decide +kernel) rfl ?_
  exact Ev.ireti rfl rfl (by decide +kernel)
def FX11_draw (f : Nat) (a1 : Int32) (m : ev_M) : Option (Int32 × ev_M) :=
  (if a1 ≤ 0 then some (0, (m.1, (ev_up m.2 0 17 (((1103515245 * (m.2 0 17)) + 12345) &&& 2147483647)))) else (if (a1 : Int32).toInt64 = 0 then none else some (((((((1103515245 * (m.2 0 17)) + 12345) &&& 2147483647) / 64) - ((((1103515245 * (m.2 0 17)) + 12345) &&& 2147483647) / 64) / (a1 : Int32).toInt64 * (a1 : Int32).toInt64) : Int64).toInt32, (m.1, (ev_up m.2 0 17 (((1103515245 * (m.2 0 17)) + 12345) &&& 2147483647))))))
set_option maxRecDepth 100000 in
set_option maxHeartbeats 4000000 in
theorem EX11_draw {l : Launch} {Ln : Nat} {xs : Nat → Int32} {d : Nat} (f : Nat) (a1 : Int32) (m : ev_M)  (hd : 0 ≤ d) : Mv ev_eI l Ln xs YX11_draw d Sx [.ref 0, .int a1] m (FX11_draw f a1 m) := by
  refine Mv.of (by decide +kernel) rfl (Nat.le_of_ble_eq_true rfl) (Ev.le (ls' := [some (.ref 0), some (.int a1)]) ⟨rfl, ⟨rfl, trivial⟩⟩ ?_)
  unfold FX11_draw
  refine Ev.run (pc' := 21) (ls' := [some (.ref 0), some (.int a1)]) (st' := [.int a1]) (m' := (m.1, (ev_up m.2 0 17 (((1103515245 * (m.2 0 17)) + 12345) &&& 2147483647)))) [(.aload_n 0, 0, 0, 0, 0), (.ldc2_w 339, 0, 0, 0, 1103515245), (.aload_n 0, 0, 0, 0, 0), (.getfield 107, 11, 17, 0, 0), (.lmul, 0, 0, 0, 0), (.ldc2_w 341, 0, 0, 0, 12345), (.ladd, 0, 0, 0, 0), (.ldc2_w 343, 0, 0, 0, 2147483647), (.land, 0, 0, 0, 0), (.putfield 107, 11, 17, 0, 0), (.iload_n 1, 0, 0, 0, 0)] (by decide +kernel) rfl ?_
  refine Ev.if_le (t := 39) (by decide +kernel) ?_ ?_
  · refine Ev.run (pc' := 40) (ls' := [some (.ref 0), some (.int a1)]) (st' := [.int 0]) (m' := (m.1, (ev_up m.2 0 17 (((1103515245 * (m.2 0 17)) + 12345) &&& 2147483647)))) [(.iconst 0, 0, 0, 0, 0)] (by decide +kernel) rfl ?_
    exact Ev.ireti rfl rfl (by decide +kernel)
  · refine Ev.run (pc' := 31) (ls' := [some (.ref 0), some (.int a1)]) (st' := [.long 64, .long (((1103515245 * (m.2 0 17)) + 12345) &&& 2147483647)]) (m' := (m.1, (ev_up m.2 0 17 (((1103515245 * (m.2 0 17)) + 12345) &&& 2147483647)))) [(.aload_n 0, 0, 0, 0, 0), (.getfield 107, 11, 17, 0, 0), (.ldc2_w 345, 0, 0, 0, 64)] (by decide +kernel) rfl ?_
    refine Ev.ldiv' (by decide +kernel) (by decide) ?_
    refine Ev.run (pc' := 34) (ls' := [some (.ref 0), some (.int a1)]) (st' := [.long (a1 : Int32).toInt64, .long ((((1103515245 * (m.2 0 17)) + 12345) &&& 2147483647) / 64)]) (m' := (m.1, (ev_up m.2 0 17 (((1103515245 * (m.2 0 17)) + 12345) &&& 2147483647)))) [(.iload_n 1, 0, 0, 0, 0), (.i2l, 0, 0, 0, 0)] (by decide +kernel) rfl ?_
    refine Ev.lrem (by decide +kernel) ?_
    refine Ev.run (pc' := 36) (ls' := [some (.ref 0), some (.int a1)]) (st' := [.int ((((((1103515245 * (m.2 0 17)) + 12345) &&& 2147483647) / 64) - ((((1103515245 * (m.2 0 17)) + 12345) &&& 2147483647) / 64) / (a1 : Int32).toInt64 * (a1 : Int32).toInt64) : Int64).toInt32]) (m' := (m.1, (ev_up m.2 0 17 (((1103515245 * (m.2 0 17)) + 12345) &&& 2147483647)))) [(.l2i, 0, 0, 0, 0)] (by decide +kernel) rfl ?_
    refine Ev.gto (t := 40) (by decide +kernel) ?_
    exact Ev.ireti rfl rfl (by decide +kernel)
def FX11_checkOf_L6 (f : Nat) (k : Int32 → ev_M → Option (Int32 × ev_M)) (o0 : Nat) (a1 : Int32) : Nat → Int32 → Int32 → ev_M → Option (Int32 × ev_M)
  | 0, _, _, _ => none
  | n + 1, a2, a3, m => (if a1 ≤ a3 then (k a2 m) else (if (Int32.ofNat (Sx.2.1 o0).2) ≤ a3 then (k a2 m) else (if ev_in a3 (Sx.2.1 o0).2 then (FX11_checkOf_L6 f k o0 a1 n (((3 * a2) + (m.1 o0 a3.toNatClampNeg)) - ((3 * a2) + (m.1 o0 a3.toNatClampNeg)) / 251 * 251) (a3 + 1) m) else none)))
def FX11_checkOf (f : Nat) (o0 : Nat) (a1 : Int32) (m : ev_M) : Option (Int32 × ev_M) :=
  (FX11_checkOf_L6 f (fun e1 m2 => some (e1, m2)) o0 a1 f (157 : Int32) (0 : Int32) m)
set_option maxRecDepth 100000 in
set_option maxHeartbeats 4000000 in
theorem EX11_checkOf_L6 {l : Launch} {Ln : Nat} {xs : Nat → Int32} {d : Nat} (f : Nat) (k : Int32 → ev_M → Option (Int32 × ev_M)) (o0 : Nat) (a1 : Int32) (h_o0 : isK 100 o0)  (hk : ∀ (e2 : Int32) (em : ev_M), Ev ev_eI l Ln xs YX11_checkOf d Sx 35 [none, none, some (.int e2), none] [] em (k e2 em)) (hd : 0 ≤ d) : ∀ (n : Nat) (a2 : Int32) (a3 : Int32) (m : ev_M), Ev ev_eI l Ln xs YX11_checkOf d Sx 6 [some (.ref o0), some (.int a1), some (.int a2), some (.int a3)] [] m (FX11_checkOf_L6 f k o0 a1 n a2 a3 m) := by
  intro n
  induction n with
  | zero => intros; exact Ev.nn
  | succ n ih =>
    intro a2 a3 m
    rw [FX11_checkOf_L6]
    refine Ev.run (pc' := 8) (ls' := [some (.ref o0), some (.int a1), some (.int a2), some (.int a3)]) (st' := [.int a1, .int a3]) (m' := m) [(.iload_n 3, 0, 0, 0, 0), (.iload_n 1, 0, 0, 0, 0)] (by decide +kernel) rfl ?_
    refine Ev.ic_ge (t := 35) (by decide +kernel) ?_ ?_
    · refine Ev.le (ls' := [none, none, some (.int a2), none]) ⟨rfl, trivial⟩ ?_
      exact hk _ _
    · refine Ev.run (pc' := 13) (ls' := [some (.ref o0), some (.int a1), some (.int a2), some (.int a3)]) (st' := [.ref o0, .int a3]) (m' := m) [(.iload_n 3, 0, 0, 0, 0), (.aload_n 0, 0, 0, 0, 0)] (by decide +kernel) rfl ?_
      refine Ev.alen (by decide +kernel) (k100_l0 h_o0) (k100_s0 h_o0) (by decide) ?_
      refine Ev.ic_ge (t := 35) (by decide +kernel) ?_ ?_
      · refine Ev.le (ls' := [none, none, some (.int a2), none]) ⟨rfl, trivial⟩ ?_
        exact hk _ _
      · refine Ev.run (pc' := 22) (ls' := [some (.ref o0), some (.int a1), some (.int a2), some (.int a3)]) (st' := [.int a3, .ref o0, .int (3 * a2)]) (m' := m) [(.iconst 3, 0, 0, 3, 0), (.iload_n 2, 0, 0, 0, 0), (.imul, 0, 0, 0, 0), (.aload_n 0, 0, 0, 0, 0), (.iload_n 3, 0, 0, 0, 0)] (by decide +kernel) rfl ?_
        refine Ev.iald (n := (Sx.2.1 o0).2) (by decide +kernel) (k100_l0 h_o0) (k100_s0 h_o0) ?_
        refine Ev.run (pc' := 27) (ls' := [some (.ref o0), some (.int a1), some (.int a2), some (.int a3)]) (st' := [.int 251, .int ((3 * a2) + (m.1 o0 a3.toNatClampNeg))]) (m' := m) [(.iadd, 0, 0, 0, 0), (.sipush 251, 0, 0, 251, 0)] (by decide +kernel) rfl ?_
        refine Ev.irem' (by decide +kernel) (by decide) ?_
        refine Ev.run (pc' := 32) (ls' := [some (.ref o0), some (.int a1), some (.int (((3 * a2) + (m.1 o0 a3.toNatClampNeg)) - ((3 * a2) + (m.1 o0 a3.toNatClampNeg)) / 251 * 251)), some (.int (a3 + 1))]) (st' := []) (m' := m) [(.istore_n 2, 0, 0, 0, 0), (.iinc 3 1, 0, 0, 1, 0)] (by decide +kernel) rfl ?_
        refine Ev.gto (t := 6) (by decide +kernel) ?_
        exact ih _ _ _
set_option maxRecDepth 100000 in
set_option maxHeartbeats 4000000 in
theorem EX11_checkOf {l : Launch} {Ln : Nat} {xs : Nat → Int32} {d : Nat} (f : Nat) (o0 : Nat) (a1 : Int32) (m : ev_M) (h_o0 : isK 100 o0) (hd : 0 ≤ d) : Mv ev_eI l Ln xs YX11_checkOf d Sx [.ref o0, .int a1] m (FX11_checkOf f o0 a1 m) := by
  refine Mv.of (by decide +kernel) rfl (Nat.le_of_ble_eq_true rfl) (Ev.le (ls' := [some (.ref o0), some (.int a1), none, none]) ⟨rfl, ⟨rfl, trivial⟩⟩ ?_)
  unfold FX11_checkOf
  refine Ev.run (pc' := 6) (ls' := [some (.ref o0), some (.int a1), some (.int 157), some (.int 0)]) (st' := []) (m' := m) [(.sipush 157, 0, 0, 157, 0), (.istore_n 2, 0, 0, 0, 0), (.iconst 0, 0, 0, 0, 0), (.istore_n 3, 0, 0, 0, 0)] (by decide +kernel) rfl ?_
  refine EX11_checkOf_L6 f _ o0 a1 h_o0 ?_ (by omega) _ _ _ _
  intro e1 m2
  refine Ev.run (pc' := 36) (ls' := [none, none, some (.int e1), none]) (st' := [.int e1]) (m' := m2) [(.iload_n 2, 0, 0, 0, 0)] (by decide +kernel) rfl ?_
  exact Ev.ireti rfl rfl (by decide +kernel)
def FX11_isPicture_J160 (f : Nat) (kt101 : Int32 → Int32 → ev_M → Option (Int32 × ev_M))  (a3 : Int32) (s0 : Int32) (m : ev_M) : Option (Int32 × ev_M) :=
  (kt101 s0 (a3 + 3) m)
def FX11_isPicture_J159 (f : Nat) (kt101 : Int32 → Int32 → ev_M → Option (Int32 × ev_M))  (a3 : Int32)  (m : ev_M) : Option (Int32 × ev_M) :=
  (FX11_isPicture_J160 f kt101 a3 (0 : Int32) m)
def FX11_isPicture_L101 (f : Nat) (k : Int32 → ev_M → Option (Int32 × ev_M))  (a1 : Int32) : Nat → Int32 → Int32 → ev_M → Option (Int32 × ev_M)
  | 0, _, _, _ => none
  | n + 1, a2, a3, m => (if a1 ≤ a3 then (k a2 m) else (if a2 = 0 then (FX11_isPicture_J159 f (FX11_isPicture_L101 f k a1 n) a3 m) else (if ev_in a3 1600 then (if 9 < (m.1 14 a3.toNatClampNeg) then (FX11_isPicture_J159 f (FX11_isPicture_L101 f k a1 n) a3 m) else (if ev_in (a3 + 1) 1600 then (if 9 < (m.1 14 (a3 + 1).toNatClampNeg) then (FX11_isPicture_J159 f (FX11_isPicture_L101 f k a1 n) a3 m) else (if ev_in (a3 + 2) 1600 then (if 1 < (m.1 14 (a3 + 2).toNatClampNeg) then (FX11_isPicture_J159 f (FX11_isPicture_L101 f k a1 n) a3 m) else (FX11_isPicture_J160 f (FX11_isPicture_L101 f k a1 n) a3 (1 : Int32) m)) else none)) else none)) else none)))
def FX11_isPicture_J98 (f : Nat)   (a1 : Int32) (s0 : Int32) (m : ev_M) : Option (Int32 × ev_M) :=
  (FX11_isPicture_L101 f (fun e4 m5 => (if e4 = 0 ∨ e4 = 1 then some (e4, m5) else none)) a1 f s0 (3 : Int32) m)
def FX11_isPicture_J97 (f : Nat)   (a1 : Int32)  (m : ev_M) : Option (Int32 × ev_M) :=
  (FX11_isPicture_J98 f a1 (0 : Int32) m)
def FX11_isPicture (f : Nat)  (m : ev_M) : Option (Int32 × ev_M) :=
  (if isK 1 ((m.1 0 0)).toNatClampNeg then (if (m.1 13 1) = ((3 + (3 * (m.1 ((m.1 0 0)).toNatClampNeg 5))) + 1) then (ev_bd (FX11_checkOf f 14 (3 + (3 * (m.1 ((m.1 0 0)).toNatClampNeg 5))) m) (fun r2 m3 => (if ev_in (3 + (3 * (m.1 ((m.1 0 0)).toNatClampNeg 5))) 1600 then (if r2 = (m3.1 14 (3 + (3 * (m.1 ((m.1 0 0)).toNatClampNeg 5))).toNatClampNeg) then (if 999 < (((m3.1 14 0) * 256) + (m3.1 14 1)) then (FX11_isPicture_J97 f (3 + (3 * (m.1 ((m.1 0 0)).toNatClampNeg 5))) m3) else (if 9 < (m3.1 14 2) then (FX11_isPicture_J97 f (3 + (3 * (m.1 ((m.1 0 0)).toNatClampNeg 5))) m3) else (FX11_isPicture_J98 f (3 + (3 * (m.1 ((m.1 0 0)).toNatClampNeg 5))) (1 : Int32) m3))) else some (0, m3)) else none))) else some (0, m)) else none)
set_option maxRecDepth 100000 in
set_option maxHeartbeats 4000000 in
theorem EX11_isPicture_J160 {l : Launch} {Ln : Nat} {xs : Nat → Int32} {d : Nat} (f : Nat) (kt101 : Int32 → Int32 → ev_M → Option (Int32 × ev_M))  (a1 : Int32) (a3 : Int32) (s0 : Int32) (m : ev_M)  (hkt101 : ∀ (e2 : Int32) (e3 : Int32) (em : ev_M), Ev ev_eI l Ln xs YX11_isPicture d Sx 101 [some (.ref 0), some (.int a1), some (.int e2), some (.int e3)] [] em (kt101 e2 e3 em)) (hd : 1 ≤ d) : Ev ev_eI l Ln xs YX11_isPicture d Sx 160 [some (.ref 0), some (.int a1), none, some (.int a3)] [.int s0] m (FX11_isPicture_J160 f kt101 a3 s0 m) := by
  unfold FX11_isPicture_J160
  refine Ev.run (pc' := 164) (ls' := [some (.ref 0), some (.int a1), some (.int s0), some (.int (a3 + 3))]) (st' := []) (m' := m) [(.istore_n 2, 0, 0, 0, 0), (.iinc 3 3, 0, 0, 3, 0)] (by decide +kernel) rfl ?_
  refine Ev.gto (t := 101) (by decide +kernel) ?_
  exact hkt101 _ _ _
set_option maxRecDepth 100000 in
set_option maxHeartbeats 4000000 in
theorem EX11_isPicture_J159 {l : Launch} {Ln : Nat} {xs : Nat → Int32} {d : Nat} (f : Nat) (kt101 : Int32 → Int32 → ev_M → Option (Int32 × ev_M))  (a1 : Int32) (a3 : Int32)  (m : ev_M)  (hkt101 : ∀ (e2 : Int32) (e3 : Int32) (em : ev_M), Ev ev_eI l Ln xs YX11_isPicture d Sx 101 [some (.ref 0), some (.int a1), some (.int e2), some (.int e3)] [] em (kt101 e2 e3 em)) (hd : 1 ≤ d) : Ev ev_eI l Ln xs YX11_isPicture d Sx 159 [some (.ref 0), some (.int a1), none, some (.int a3)] [] m (FX11_isPicture_J159 f kt101 a3 m) := by
  unfold FX11_isPicture_J159
  refine Ev.run (pc' := 160) (ls' := [some (.ref 0), some (.int a1), none, some (.int a3)]) (st' := [.int 0]) (m' := m) [(.iconst 0, 0, 0, 0, 0)] (by decide +kernel) rfl ?_
  exact EX11_isPicture_J160 f kt101 a1 a3 (0 : Int32) m hkt101 (by omega)
set_option maxRecDepth 100000 in
set_option maxHeartbeats 4000000 in
theorem EX11_isPicture_L101 {l : Launch} {Ln : Nat} {xs : Nat → Int32} {d : Nat} (f : Nat) (k : Int32 → ev_M → Option (Int32 × ev_M))  (a1 : Int32)   (hk : ∀ (e2 : Int32) (em : ev_M), Ev ev_eI l Ln xs YX11_isPicture d Sx 167 [none, none, some (.int e2), none] [] em (k e2 em)) (hd : 1 ≤ d) : ∀ (n : Nat) (a2 : Int32) (a3 : Int32) (m : ev_M), Ev ev_eI l Ln xs YX11_isPicture d Sx 101 [some (.ref 0), some (.int a1), some (.int a2), some (.int a3)] [] m (FX11_isPicture_L101 f k a1 n a2 a3 m) := by
  intro n
  induction n with
  | zero => intros; exact Ev.nn
  | succ n ih =>
    intro a2 a3 m
    rw [FX11_isPicture_L101]
    refine Ev.run (pc' := 103) (ls' := [some (.ref 0), some (.int a1), some (.int a2), some (.int a3)]) (st' := [.int a1, .int a3]) (m' := m) [(.iload_n 3, 0, 0, 0, 0), (.iload_n 1, 0, 0, 0, 0)] (by decide +kernel) rfl ?_
    refine Ev.ic_ge (t := 167) (by decide +kernel) ?_ ?_
    · refine Ev.le (ls' := [none, none, some (.int a2), none]) ⟨rfl, trivial⟩ ?_
      exact hk _ _
    · refine Ev.run (pc' := 107) (ls' := [some (.ref 0), some (.int a1), some (.int a2), some (.int a3)]) (st' := [.int a2]) (m' := m) [(.iload_n 2, 0, 0, 0, 0)] (by decide +kernel) rfl ?_
      refine Ev.if_eq (t := 159) (by decide +kernel) ?_ ?_
      · refine Ev.le (ls' := [some (.ref 0), some (.int a1), none, some (.int a3)]) ⟨rfl, ⟨rfl, ⟨rfl, trivial⟩⟩⟩ ?_
        exact EX11_isPicture_J159 f (FX11_isPicture_L101 f k a1 n) a1 a3 m ih (by omega)
      · refine Ev.run (pc' := 118) (ls' := [some (.ref 0), some (.int a1), some (.int a2), some (.int a3)]) (st' := [.int a3, .ref 14]) (m' := m) [(.aload_n 0, 0, 0, 0, 0), (.getfield 22, 11, 2, 0, 0), (.getfield 347, 10, 0, 0, 0), (.iload_n 3, 0, 0, 0, 0)] (by decide +kernel) rfl ?_
        refine Ev.iald (n := 1600) (by decide +kernel) (by decide) rfl ?_
        refine Ev.run (pc' := 121) (ls' := [some (.ref 0), some (.int a1), some (.int a2), some (.int a3)]) (st' := [.int 9, .int (m.1 14 a3.toNatClampNeg)]) (m' := m) [(.bipush 9, 0, 0, 9, 0)] (by decide +kernel) rfl ?_
        refine Ev.ic_gt (t := 159) (by decide +kernel) ?_ ?_
        · refine Ev.le (ls' := [some (.ref 0), some (.int a1), none, some (.int a3)]) ⟨rfl, ⟨rfl, ⟨rfl, trivial⟩⟩⟩ ?_
          exact EX11_isPicture_J159 f (FX11_isPicture_L101 f k a1 n) a1 a3 m ih (by omega)
        · refine Ev.run (pc' := 134) (ls' := [some (.ref 0), some (.int a1), some (.int a2), some (.int a3)]) (st' := [.int (a3 + 1), .ref 14]) (m' := m) [(.aload_n 0, 0, 0, 0, 0), (.getfield 22, 11, 2, 0, 0), (.getfield 347, 10, 0, 0, 0), (.iload_n 3, 0, 0, 0, 0), (.iconst 1, 0, 0, 1, 0), (.iadd, 0, 0, 0, 0)] (by decide +kernel) rfl ?_
          refine Ev.iald (n := 1600) (by decide +kernel) (by decide) rfl ?_
          refine Ev.run (pc' := 137) (ls' := [some (.ref 0), some (.int a1), some (.int a2), some (.int a3)]) (st' := [.int 9, .int (m.1 14 (a3 + 1).toNatClampNeg)]) (m' := m) [(.bipush 9, 0, 0, 9, 0)] (by decide +kernel) rfl ?_
          refine Ev.ic_gt (t := 159) (by decide +kernel) ?_ ?_
          · refine Ev.le (ls' := [some (.ref 0), some (.int a1), none, some (.int a3)]) ⟨rfl, ⟨rfl, ⟨rfl, trivial⟩⟩⟩ ?_
            exact EX11_isPicture_J159 f (FX11_isPicture_L101 f k a1 n) a1 a3 m ih (by omega)
          · refine Ev.run (pc' := 150) (ls' := [some (.ref 0), some (.int a1), some (.int a2), some (.int a3)]) (st' := [.int (a3 + 2), .ref 14]) (m' := m) [(.aload_n 0, 0, 0, 0, 0), (.getfield 22, 11, 2, 0, 0), (.getfield 347, 10, 0, 0, 0), (.iload_n 3, 0, 0, 0, 0), (.iconst 2, 0, 0, 2, 0), (.iadd, 0, 0, 0, 0)] (by decide +kernel) rfl ?_
            refine Ev.iald (n := 1600) (by decide +kernel) (by decide) rfl ?_
            refine Ev.run (pc' := 152) (ls' := [some (.ref 0), some (.int a1), some (.int a2), some (.int a3)]) (st' := [.int 1, .int (m.1 14 (a3 + 2).toNatClampNeg)]) (m' := m) [(.iconst 1, 0, 0, 1, 0)] (by decide +kernel) rfl ?_
            refine Ev.ic_gt (t := 159) (by decide +kernel) ?_ ?_
            · refine Ev.le (ls' := [some (.ref 0), some (.int a1), none, some (.int a3)]) ⟨rfl, ⟨rfl, ⟨rfl, trivial⟩⟩⟩ ?_
              exact EX11_isPicture_J159 f (FX11_isPicture_L101 f k a1 n) a1 a3 m ih (by omega)
            · refine Ev.run (pc' := 156) (ls' := [some (.ref 0), some (.int a1), some (.int a2), some (.int a3)]) (st' := [.int 1]) (m' := m) [(.iconst 1, 0, 0, 1, 0)] (by decide +kernel) rfl ?_
              refine Ev.gto (t := 160) (by decide +kernel) ?_
              refine Ev.le (ls' := [some (.ref 0), some (.int a1), none, some (.int a3)]) ⟨rfl, ⟨rfl, ⟨rfl, trivial⟩⟩⟩ ?_
              exact EX11_isPicture_J160 f (FX11_isPicture_L101 f k a1 n) a1 a3 (1 : Int32) m ih (by omega)
set_option maxRecDepth 100000 in
set_option maxHeartbeats 4000000 in
theorem EX11_isPicture_J98 {l : Launch} {Ln : Nat} {xs : Nat → Int32} {d : Nat} (f : Nat)   (a1 : Int32) (s0 : Int32) (m : ev_M)   (hd : 1 ≤ d) : Ev ev_eI l Ln xs YX11_isPicture d Sx 98 [some (.ref 0), some (.int a1), none, none] [.int s0] m (FX11_isPicture_J98 f a1 s0 m) := by
  unfold FX11_isPicture_J98
  refine Ev.run (pc' := 101) (ls' := [some (.ref 0), some (.int a1), some (.int s0), some (.int 3)]) (st' := []) (m' := m) [(.istore_n 2, 0, 0, 0, 0), (.iconst 3, 0, 0, 3, 0), (.istore_n 3, 0, 0, 0, 0)] (by decide +kernel) rfl ?_
  refine EX11_isPicture_L101 f _ a1 ?_ (by omega) _ _ _ _
  intro e4 m5
  refine Ev.run (pc' := 168) (ls' := [none, none, some (.int e4), none]) (st' := [.int e4]) (m' := m5) [(.iload_n 2, 0, 0, 0, 0)] (by decide +kernel) rfl ?_
  exact Ev.iretb rfl rfl (by decide +kernel)
set_option maxRecDepth 100000 in
set_option maxHeartbeats 4000000 in
theorem EX11_isPicture_J97 {l : Launch} {Ln : Nat} {xs : Nat → Int32} {d : Nat} (f : Nat)   (a1 : Int32)  (m : ev_M)   (hd : 1 ≤ d) : Ev ev_eI l Ln xs YX11_isPicture d Sx 97 [some (.ref 0), some (.int a1), none, none] [] m (FX11_isPicture_J97 f a1 m) := by
  unfold FX11_isPicture_J97
  refine Ev.run (pc' := 98) (ls' := [some (.ref 0), some (.int a1), none, none]) (st' := [.int 0]) (m' := m) [(.iconst 0, 0, 0, 0, 0)] (by decide +kernel) rfl ?_
  exact EX11_isPicture_J98 f a1 (0 : Int32) m (by omega)
set_option maxRecDepth 100000 in
set_option maxHeartbeats 4000000 in
theorem EX11_isPicture {l : Launch} {Ln : Nat} {xs : Nat → Int32} {d : Nat} (f : Nat)  (m : ev_M)  (hd : 1 ≤ d) : Mv ev_eI l Ln xs YX11_isPicture d Sx [.ref 0] m (FX11_isPicture f  m) := by
  refine Mv.of (by decide +kernel) rfl (Nat.le_of_ble_eq_true rfl) (Ev.le (ls' := [some (.ref 0), none, none, none]) ⟨rfl, trivial⟩ ?_)
  unfold FX11_isPicture
  refine Ev.run (pc' := 3) (ls' := [some (.ref 0), none, none, none]) (st' := [.ref 0, .int 3, .int 3]) (m' := m) [(.iconst 3, 0, 0, 3, 0), (.iconst 3, 0, 0, 3, 0), (.aload_n 0, 0, 0, 0, 0)] (by decide +kernel) rfl ?_
  refine Ev.ite (fun h1 => ?_) (fun _ => Ev.nn)
  refine Ev.getS (v := .ref ((m.1 0 0)).toNatClampNeg) (ci := 11) (k := 0) (idx := 10) (by decide +kernel) (by decide +kernel) (by decide) (by rw [show Sx.2.1 0 = (11, 18) from rfl]) (by rw [show Sx.2.1 0 = (11, 18) from rfl]; decide) (ev_gv_dyn1 rfl (Nat.pos_iff_ne_zero.mp (k1_z0 h1))) ?_
  refine Ev.getS (v := .int (m.1 ((m.1 0 0)).toNatClampNeg 5)) (ci := 1) (k := 5) (idx := 147) (by decide +kernel) (by decide +kernel) (k1_l0 h1) (by rw [(k1_s0 h1)]) (by rw [(k1_s0 h1)]; decide) rfl ?_
  refine Ev.run (pc' := 22) (ls' := [some (.ref 0), some (.int (3 + (3 * (m.1 ((m.1 0 0)).toNatClampNeg 5)))), none, none]) (st' := [.int ((3 + (3 * (m.1 ((m.1 0 0)).toNatClampNeg 5))) + 1), .int (m.1 13 1)]) (m' := m) [(.imul, 0, 0, 0, 0), (.iadd, 0, 0, 0, 0), (.istore_n 1, 0, 0, 0, 0), (.aload_n 0, 0, 0, 0, 0), (.getfield 22, 11, 2, 0, 0), (.getfield 122, 10, 1, 0, 0), (.iload_n 1, 0, 0, 0, 0), (.iconst 1, 0, 0, 1, 0), (.iadd, 0, 0, 0, 0)] (by decide +kernel) rfl ?_
  refine Ev.ic_ne (t := 48) (by decide +kernel) ?_ ?_
  · refine Ev.run (pc' := 49) (ls' := [some (.ref 0), some (.int (3 + (3 * (m.1 ((m.1 0 0)).toNatClampNeg 5)))), none, none]) (st' := [.int 0]) (m' := m) [(.iconst 0, 0, 0, 0, 0)] (by decide +kernel) rfl ?_
    exact Ev.iretz rfl rfl (by decide +kernel) (by decide)
  · refine Ev.run (pc' := 33) (ls' := [some (.ref 0), some (.int (3 + (3 * (m.1 ((m.1 0 0)).toNatClampNeg 5)))), none, none]) (st' := [.int (3 + (3 * (m.1 ((m.1 0 0)).toNatClampNeg 5))), .ref 14]) (m' := m) [(.aload_n 0, 0, 0, 0, 0), (.getfield 22, 11, 2, 0, 0), (.getfield 347, 10, 0, 0, 0), (.iload_n 1, 0, 0, 0, 0)] (by decide +kernel) rfl ?_
    refine Ev.cS (av := [.ref 14, .int (3 + (3 * (m.1 ((m.1 0 0)).toNatClampNeg 5)))]) (st := []) (EX11_checkOf (l := l) (Ln := Ln) (xs := xs) (d := 0) f 14 (3 + (3 * (m.1 ((m.1 0 0)).toNatClampNeg 5))) m (by decide) (by decide)) rfl (by decide +kernel) mwX11_checkOf swX11_checkOf lk_11_311 (by omega) rfl (Nat.le_of_ble_eq_true rfl) (fun r2 m3 => ?_)
    refine Ev.run (pc' := 44) (ls' := [some (.ref 0), some (.int (3 + (3 * (m.1 ((m.1 0 0)).toNatClampNeg 5)))), none, none]) (st' := [.int (3 + (3 * (m.1 ((m.1 0 0)).toNatClampNeg 5))), .ref 14, .int r2]) (m' := m3) [(.aload_n 0, 0, 0, 0, 0), (.getfield 22, 11, 2, 0, 0), (.getfield 347, 10, 0, 0, 0), (.iload_n 1, 0, 0, 0, 0)] (by decide +kernel) rfl ?_
    refine Ev.iald (n := 1600) (by decide +kernel) (by decide) rfl ?_
    refine Ev.ic_eq (t := 50) (by decide +kernel) ?_ ?_
    · refine Ev.run (pc' := 58) (ls' := [some (.ref 0), some (.int (3 + (3 * (m.1 ((m.1 0 0)).toNatClampNeg 5)))), none, none]) (st' := [.int 0, .ref 14]) (m' := m3) [(.aload_n 0, 0, 0, 0, 0), (.getfield 22, 11, 2, 0, 0), (.getfield 347, 10, 0, 0, 0), (.iconst 0, 0, 0, 0, 0)] (by decide +kernel) rfl ?_
      refine Ev.ialdK (n := 1600) (j := 0) (by decide +kernel) (by decide) rfl rfl (by decide) ?_
      refine Ev.run (pc' := 71) (ls' := [some (.ref 0), some (.int (3 + (3 * (m.1 ((m.1 0 0)).toNatClampNeg 5)))), none, none]) (st' := [.int 1, .ref 14, .int ((m3.1 14 0) * 256)]) (m' := m3) [(.sipush 256, 0, 0, 256, 0), (.imul, 0, 0, 0, 0), (.aload_n 0, 0, 0, 0, 0), (.getfield 22, 11, 2, 0, 0), (.getfield 347, 10, 0, 0, 0), (.iconst 1, 0, 0, 1, 0)] (by decide +kernel) rfl ?_
      refine Ev.ialdK (n := 1600) (j := 1) (by decide +kernel) (by decide) rfl rfl (by decide) ?_
      refine Ev.run (pc' := 76) (ls' := [some (.ref 0), some (.int (3 + (3 * (m.1 ((m.1 0 0)).toNatClampNeg 5)))), none, none]) (st' := [.int 999, .int (((m3.1 14 0) * 256) + (m3.1 14 1))]) (m' := m3) [(.iadd, 0, 0, 0, 0), (.sipush 999, 0, 0, 999, 0)] (by decide +kernel) rfl ?_
      refine Ev.ic_gt (t := 97) (by decide +kernel) ?_ ?_
      · exact EX11_isPicture_J97 f (3 + (3 * (m.1 ((m.1 0 0)).toNatClampNeg 5))) m3 (by omega)
      · refine Ev.run (pc' := 87) (ls' := [some (.ref 0), some (.int (3 + (3 * (m.1 ((m.1 0 0)).toNatClampNeg 5)))), none, none]) (st' := [.int 2, .ref 14]) (m' := m3) [(.aload_n 0, 0, 0, 0, 0), (.getfield 22, 11, 2, 0, 0), (.getfield 347, 10, 0, 0, 0), (.iconst 2, 0, 0, 2, 0)] (by decide +kernel) rfl ?_
        refine Ev.ialdK (n := 1600) (j := 2) (by decide +kernel) (by decide) rfl rfl (by decide) ?_
        refine Ev.run (pc' := 90) (ls' := [some (.ref 0), some (.int (3 + (3 * (m.1 ((m.1 0 0)).toNatClampNeg 5)))), none, none]) (st' := [.int 9, .int (m3.1 14 2)]) (m' := m3) [(.bipush 9, 0, 0, 9, 0)] (by decide +kernel) rfl ?_
        refine Ev.ic_gt (t := 97) (by decide +kernel) ?_ ?_
        · exact EX11_isPicture_J97 f (3 + (3 * (m.1 ((m.1 0 0)).toNatClampNeg 5))) m3 (by omega)
        · refine Ev.run (pc' := 94) (ls' := [some (.ref 0), some (.int (3 + (3 * (m.1 ((m.1 0 0)).toNatClampNeg 5)))), none, none]) (st' := [.int 1]) (m' := m3) [(.iconst 1, 0, 0, 1, 0)] (by decide +kernel) rfl ?_
          refine Ev.gto (t := 98) (by decide +kernel) ?_
          exact EX11_isPicture_J98 f (3 + (3 * (m.1 ((m.1 0 0)).toNatClampNeg 5))) (1 : Int32) m3 (by omega)
    · refine Ev.run (pc' := 49) (ls' := [some (.ref 0), some (.int (3 + (3 * (m.1 ((m.1 0 0)).toNatClampNeg 5)))), none, none]) (st' := [.int 0]) (m' := m3) [(.iconst 0, 0, 0, 0, 0)] (by decide +kernel) rfl ?_
      exact Ev.iretz rfl rfl (by decide +kernel) (by decide)
def FX11_takePicture_L56 (f : Nat) (k : ev_M → Option (Unit × ev_M))   : Nat → Int32 → ev_M → Option (Unit × ev_M)
  | 0, _, _ => none
  | n + 1, a1, m => (if isK 1 ((m.1 0 0)).toNatClampNeg then (if (m.1 ((m.1 0 0)).toNatClampNeg 5) ≤ a1 then (k m) else (if ev_in (3 + (3 * a1)) 1600 then (if ev_in a1 8 then (if ev_in ((3 + (3 * a1)) + 1) 1600 then (if ev_in a1 8 then (if ev_in ((3 + (3 * a1)) + 2) 1600 then (FX11_takePicture_L56 f k n (a1 + 1) ((ev_up (ev_up (ev_up m.1 104 a1.toNatClampNeg (m.1 14 (3 + (3 * a1)).toNatClampNeg)) 105 a1.toNatClampNeg (m.1 14 ((3 + (3 * a1)) + 1).toNatClampNeg)) 103 4 ((m.1 103 4) ||| ((m.1 14 ((3 + (3 * a1)) + 2).toNatClampNeg) <<< (a1 &&& 31)))), m.2)) else none) else none) else none) else none) else none)) else none)
def FX11_takePicture (f : Nat)  (m : ev_M) : Option (Unit × ev_M) :=
  (FX11_takePicture_L56 f (fun m2 => some ((), ((ev_up (ev_up m2.1 103 5 0) 40 3 0), m2.2))) f (0 : Int32) ((ev_up (ev_up (ev_up m.1 103 2 (((m.1 14 0) * 256) + (m.1 14 1))) 103 3 (m.1 14 2)) 103 4 0), m.2))
set_option maxRecDepth 100000 in
set_option maxHeartbeats 4000000 in
theorem EX11_takePicture_L56 {l : Launch} {Ln : Nat} {xs : Nat → Int32} {d : Nat} (f : Nat) (k : ev_M → Option (Unit × ev_M))     (hk : ∀  (em : ev_M), Ev ev_eV l Ln xs YX11_takePicture d Sx 142 [some (.ref 0), none, none] [] em (k em)) (hd : 0 ≤ d) : ∀ (n : Nat) (a1 : Int32) (m : ev_M), Ev ev_eV l Ln xs YX11_takePicture d Sx 56 [some (.ref 0), some (.int a1), none] [] m (FX11_takePicture_L56 f k n a1 m) := by
  intro n
  induction n with
  | zero => intros; exact Ev.nn
  | succ n ih =>
    intro a1 m
    rw [FX11_takePicture_L56]
    refine Ev.run (pc' := 58) (ls' := [some (.ref 0), some (.int a1), none]) (st' := [.ref 0, .int a1]) (m' := m) [(.iload_n 1, 0, 0, 0, 0), (.aload_n 0, 0, 0, 0, 0)] (by decide +kernel) rfl ?_
    refine Ev.ite (fun h1 => ?_) (fun _ => Ev.nn)
    refine Ev.getS (v := .ref ((m.1 0 0)).toNatClampNeg) (ci := 11) (k := 0) (idx := 10) (by decide +kernel) (by decide +kernel) (by decide) (by rw [show Sx.2.1 0 = (11, 18) from rfl]) (by rw [show Sx.2.1 0 = (11, 18) from rfl]; decide) (ev_gv_dyn1 rfl (Nat.pos_iff_ne_zero.mp (k1_z0 h1))) ?_
    refine Ev.getS (v := .int (m.1 ((m.1 0 0)).toNatClampNeg 5)) (ci := 1) (k := 5) (idx := 147) (by decide +kernel) (by decide +kernel) (k1_l0 h1) (by rw [(k1_s0 h1)]) (by rw [(k1_s0 h1)]; decide) rfl ?_
    refine Ev.ic_ge (t := 142) (by decide +kernel) ?_ ?_
    · refine Ev.le (ls' := [some (.ref 0), none, none]) ⟨rfl, trivial⟩ ?_
      exact hk _
    · refine Ev.run (pc' := 89) (ls' := [some (.ref 0), some (.int a1), some (.int (3 + (3 * a1)))]) (st' := [.int (3 + (3 * a1)), .ref 14, .int a1, .ref 104]) (m' := m) [(.iconst 3, 0, 0, 3, 0), (.iconst 3, 0, 0, 3, 0), (.iload_n 1, 0, 0, 0, 0), (.imul, 0, 0, 0, 0), (.iadd, 0, 0, 0, 0), (.istore_n 2, 0, 0, 0, 0), (.aload_n 0, 0, 0, 0, 0), (.getfield 79, 11, 9, 0, 0), (.getfield 188, 8, 0, 0, 0), (.iload_n 1, 0, 0, 0, 0), (.aload_n 0, 0, 0, 0, 0), (.getfield 22, 11, 2, 0, 0), (.getfield 347, 10, 0, 0, 0), (.iload_n 2, 0, 0, 0, 0)] (by decide +kernel) rfl ?_
      refine Ev.iald (n := 1600) (by decide +kernel) (by decide) rfl ?_
      refine Ev.iast (n := 8) (by decide +kernel) (by decide) rfl ?_
      refine Ev.run (pc' := 109) (ls' := [some (.ref 0), some (.int a1), some (.int (3 + (3 * a1)))]) (st' := [.int ((3 + (3 * a1)) + 1), .ref 14, .int a1, .ref 105]) (m' := ((ev_up m.1 104 a1.toNatClampNeg (m.1 14 (3 + (3 * a1)).toNatClampNeg)), m.2)) [(.aload_n 0, 0, 0, 0, 0), (.getfield 79, 11, 9, 0, 0), (.getfield 191, 8, 1, 0, 0), (.iload_n 1, 0, 0, 0, 0), (.aload_n 0, 0, 0, 0, 0), (.getfield 22, 11, 2, 0, 0), (.getfield 347, 10, 0, 0, 0), (.iload_n 2, 0, 0, 0, 0), (.iconst 1, 0, 0, 1, 0), (.iadd, 0, 0, 0, 0)] (by decide +kernel) rfl ?_
      refine Ev.iald (n := 1600) (by decide +kernel) (by decide) rfl ?_
      refine Ev.iast (n := 8) (by decide +kernel) (by decide) rfl ?_
      refine Ev.run (pc' := 129) (ls' := [some (.ref 0), some (.int a1), some (.int (3 + (3 * a1)))]) (st' := [.int ((3 + (3 * a1)) + 2), .ref 14, .int (m.1 103 4), .ref 103]) (m' := ((ev_up (ev_up m.1 104 a1.toNatClampNeg (m.1 14 (3 + (3 * a1)).toNatClampNeg)) 105 a1.toNatClampNeg (m.1 14 ((3 + (3 * a1)) + 1).toNatClampNeg)), m.2)) [(.aload_n 0, 0, 0, 0, 0), (.getfield 79, 11, 9, 0, 0), (.dup, 0, 0, 0, 0), (.getfield 160, 8, 4, 0, 0), (.aload_n 0, 0, 0, 0, 0), (.getfield 22, 11, 2, 0, 0), (.getfield 347, 10, 0, 0, 0), (.iload_n 2, 0, 0, 0, 0), (.iconst 2, 0, 0, 2, 0), (.iadd, 0, 0, 0, 0)] (by decide +kernel) rfl ?_
      refine Ev.iald (n := 1600) (by decide +kernel) (by decide) rfl ?_
      refine Ev.run (pc' := 139) (ls' := [some (.ref 0), some (.int (a1 + 1)), some (.int (3 + (3 * a1)))]) (st' := []) (m' := ((ev_up (ev_up (ev_up m.1 104 a1.toNatClampNeg (m.1 14 (3 + (3 * a1)).toNatClampNeg)) 105 a1.toNatClampNeg (m.1 14 ((3 + (3 * a1)) + 1).toNatClampNeg)) 103 4 ((m.1 103 4) ||| ((m.1 14 ((3 + (3 * a1)) + 2).toNatClampNeg) <<< (a1 &&& 31)))), m.2)) [(.iload_n 1, 0, 0, 0, 0), (.ishl, 0, 0, 0, 0), (.ior, 0, 0, 0, 0), (.putfield 160, 8, 4, 0, 0), (.iinc 1 1, 0, 0, 1, 0)] (by decide +kernel) rfl ?_
      refine Ev.gto (t := 56) (by decide +kernel) ?_
      refine Ev.le (ls' := [some (.ref 0), some (.int (a1 + 1)), none]) ⟨rfl, ⟨rfl, trivial⟩⟩ ?_
      exact ih _ _
set_option maxRecDepth 100000 in
set_option maxHeartbeats 4000000 in
theorem EX11_takePicture {l : Launch} {Ln : Nat} {xs : Nat → Int32} {d : Nat} (f : Nat)  (m : ev_M)  (hd : 0 ≤ d) : Mv ev_eV l Ln xs YX11_takePicture d Sx [.ref 0] m (FX11_takePicture f  m) := by
  refine Mv.of (by decide +kernel) rfl (Nat.le_of_ble_eq_true rfl) (Ev.le (ls' := [some (.ref 0), none, none]) ⟨rfl, trivial⟩ ?_)
  unfold FX11_takePicture
  refine Ev.run (pc' := 12) (ls' := [some (.ref 0), none, none]) (st' := [.int 0, .ref 14, .ref 103]) (m' := m) [(.aload_n 0, 0, 0, 0, 0), (.getfield 79, 11, 9, 0, 0), (.aload_n 0, 0, 0, 0, 0), (.getfield 22, 11, 2, 0, 0), (.getfield 347, 10, 0, 0, 0), (.iconst 0, 0, 0, 0, 0)] (by decide +kernel) rfl ?_
  refine Ev.ialdK (n := 1600) (j := 0) (by decide +kernel) (by decide) rfl rfl (by decide) ?_
  refine Ev.run (pc' := 25) (ls' := [some (.ref 0), none, none]) (st' := [.int 1, .ref 14, .int ((m.1 14 0) * 256), .ref 103]) (m' := m) [(.sipush 256, 0, 0, 256, 0), (.imul, 0, 0, 0, 0), (.aload_n 0, 0, 0, 0, 0), (.getfield 22, 11, 2, 0, 0), (.getfield 347, 10, 0, 0, 0), (.iconst 1, 0, 0, 1, 0)] (by decide +kernel) rfl ?_
  refine Ev.ialdK (n := 1600) (j := 1) (by decide +kernel) (by decide) rfl rfl (by decide) ?_
  refine Ev.run (pc' := 42) (ls' := [some (.ref 0), none, none]) (st' := [.int 2, .ref 14, .ref 103]) (m' := ((ev_up m.1 103 2 (((m.1 14 0) * 256) + (m.1 14 1))), m.2)) [(.iadd, 0, 0, 0, 0), (.putfield 150, 8, 2, 0, 0), (.aload_n 0, 0, 0, 0, 0), (.getfield 79, 11, 9, 0, 0), (.aload_n 0, 0, 0, 0, 0), (.getfield 22, 11, 2, 0, 0), (.getfield 347, 10, 0, 0, 0), (.iconst 2, 0, 0, 2, 0)] (by decide +kernel) rfl ?_
  refine Ev.ialdK (n := 1600) (j := 2) (by decide +kernel) (by decide) rfl rfl (by decide) ?_
  refine Ev.run (pc' := 56) (ls' := [some (.ref 0), some (.int 0), none]) (st' := []) (m' := ((ev_up (ev_up (ev_up m.1 103 2 (((m.1 14 0) * 256) + (m.1 14 1))) 103 3 (m.1 14 2)) 103 4 0), m.2)) [(.putfield 157, 8, 3, 0, 0), (.aload_n 0, 0, 0, 0, 0), (.getfield 79, 11, 9, 0, 0), (.iconst 0, 0, 0, 0, 0), (.putfield 160, 8, 4, 0, 0), (.iconst 0, 0, 0, 0, 0), (.istore_n 1, 0, 0, 0, 0)] (by decide +kernel) rfl ?_
  refine EX11_takePicture_L56 f _ ?_ (by omega) _ _ _
  intro m2
  refine Ev.run (pc' := 158) (ls' := [some (.ref 0), none, none]) (st' := []) (m' := ((ev_up (ev_up m2.1 103 5 0) 40 3 0), m2.2)) [(.aload_n 0, 0, 0, 0, 0), (.getfield 79, 11, 9, 0, 0), (.iconst 0, 0, 0, 0, 0), (.putfield 173, 8, 5, 0, 0), (.aload_n 0, 0, 0, 0, 0), (.getfield 72, 11, 8, 0, 0), (.iconst 0, 0, 0, 0, 0), (.putfield 138, 6, 3, 0, 0)] (by decide +kernel) rfl ?_
  exact Ev.retv rfl rfl (by decide +kernel)
def FX0_startWith (f : Nat) (a1 : Int32) (m : ev_M) : Option (Unit × ev_M) :=
  some ((), ((ev_up (ev_up (ev_up m.1 29 2 (-1)) 29 3 (-1)) 29 4 a1), m.2))
set_option maxRecDepth 100000 in
set_option maxHeartbeats 4000000 in
theorem EX0_startWith {l : Launch} {Ln : Nat} {xs : Nat → Int32} {d : Nat} (f : Nat) (a1 : Int32) (m : ev_M)  (hd : 0 ≤ d) : Mv ev_eV l Ln xs YX0_startWith d Sx [.ref 29, .int a1] m (FX0_startWith f a1 m) := by
  refine Mv.of (by decide +kernel) rfl (Nat.le_of_ble_eq_true rfl) (Ev.le (ls' := [some (.ref 29), some (.int a1)]) ⟨rfl, ⟨rfl, trivial⟩⟩ ?_)
  unfold FX0_startWith
  refine Ev.run (pc' := 15) (ls' := [some (.ref 29), some (.int a1)]) (st' := []) (m' := ((ev_up (ev_up (ev_up m.1 29 2 (-1)) 29 3 (-1)) 29 4 a1), m.2)) [(.aload_n 0, 0, 0, 0, 0), (.iconst (-1), 0, 0, (-1), 0), (.putfield 18, 0, 2, 0, 0), (.aload_n 0, 0, 0, 0, 0), (.iconst (-1), 0, 0, (-1), 0), (.putfield 22, 0, 3, 0, 0), (.aload_n 0, 0, 0, 0, 0), (.iload_n 1, 0, 0, 0, 0), (.putfield 25, 0, 4, 0, 0)] (by decide +kernel) rfl ?_
  exact Ev.retv rfl rfl (by decide +kernel)
def FX0_weigh (f : Nat) (a1 : Int32) (a2 : Int32) (a3 : Int32) (m : ev_M) : Option (Unit × ev_M) :=
  (if (m.1 29 4) ≤ a1 then some ((), m) else some ((), ((ev_up (ev_up (ev_up m.1 29 4 a1) 29 2 a2) 29 3 a3), m.2)))
set_option maxRecDepth 100000 in
set_option maxHeartbeats 4000000 in
theorem EX0_weigh {l : Launch} {Ln : Nat} {xs : Nat → Int32} {d : Nat} (f : Nat) (a1 : Int32) (a2 : Int32) (a3 : Int32) (m : ev_M)  (hd : 0 ≤ d) : Mv ev_eV l Ln xs YX0_weigh d Sx [.ref 29, .int a1, .int a2, .int a3] m (FX0_weigh f a1 a2 a3 m) := by
  refine Mv.of (by decide +kernel) rfl (Nat.le_of_ble_eq_true rfl) (Ev.le (ls' := [some (.ref 29), some (.int a1), some (.int a2), some (.int a3)]) ⟨rfl, ⟨rfl, ⟨rfl, ⟨rfl, trivial⟩⟩⟩⟩ ?_)
  unfold FX0_weigh
  refine Ev.run (pc' := 5) (ls' := [some (.ref 29), some (.int a1), some (.int a2), some (.int a3)]) (st' := [.int (m.1 29 4), .int a1]) (m' := m) [(.iload_n 1, 0, 0, 0, 0), (.aload_n 0, 0, 0, 0, 0), (.getfield 25, 0, 4, 0, 0)] (by decide +kernel) rfl ?_
  refine Ev.ic_ge (t := 23) (by decide +kernel) ?_ ?_
  · exact Ev.retv rfl rfl (by decide +kernel)
  · refine Ev.run (pc' := 23) (ls' := [some (.ref 29), some (.int a1), some (.int a2), some (.int a3)]) (st' := []) (m' := ((ev_up (ev_up (ev_up m.1 29 4 a1) 29 2 a2) 29 3 a3), m.2)) [(.aload_n 0, 0, 0, 0, 0), (.iload_n 1, 0, 0, 0, 0), (.putfield 25, 0, 4, 0, 0), (.aload_n 0, 0, 0, 0, 0), (.iload_n 2, 0, 0, 0, 0), (.putfield 18, 0, 2, 0, 0), (.aload_n 0, 0, 0, 0, 0), (.iload_n 3, 0, 0, 0, 0), (.putfield 22, 0, 3, 0, 0)] (by decide +kernel) rfl ?_
    exact Ev.retv rfl rfl (by decide +kernel)
def FX1_clear (f : Nat) (o0 : Nat) (m : ev_M) : Option (Unit × ev_M) :=
  some ((), ((ev_up (ev_up (ev_up (ev_up (ev_up (ev_up (ev_up (ev_up (ev_up (ev_up (ev_up m.1 (o0 + 4) 1 0) o0 4 0) o0 5 0) o0 6 0) o0 8 4) o0 9 3) o0 10 0) o0 11 0) o0 12 0) o0 13 0) o0 14 0), m.2))
set_option maxRecDepth 100000 in
set_option maxHeartbeats 4000000 in
theorem EX1_clear {l : Launch} {Ln : Nat} {xs : Nat → Int32} {d : Nat} (f : Nat) (o0 : Nat) (m : ev_M) (h_o0 : isK 1 o0) (hd : 0 ≤ d) : Mv ev_eV l Ln xs YX1_clear d Sx [.ref o0] m (FX1_clear f o0 m) := by
  refine Mv.of (by decide +kernel) rfl (Nat.le_of_ble_eq_true rfl) (Ev.le (ls' := [some (.ref o0)]) ⟨rfl, trivial⟩ ?_)
  unfold FX1_clear
  refine Ev.run (pc' := 1) (ls' := [some (.ref o0)]) (st' := [.ref o0]) (m' := m) [(.aload_n 0, 0, 0, 0, 0)] (by decide +kernel) rfl ?_
  refine Ev.getS (v := .ref (o0 + 4)) (ci := 1) (k := 3) (idx := 24) (by decide +kernel) (by decide +kernel) (k1_l0 h_o0) (by rw [(k1_s0 h_o0)]) (by rw [(k1_s0 h_o0)]; decide) (by unfold ev_gv; rw [if_neg (by decide)]; show va_rf (Sx.2.2 o0 3) = _; rw [k1_r3 h_o0]; rfl) ?_
  refine Ev.run (pc' := 5) (ls' := [some (.ref o0)]) (st' := [.int 0, .ref (o0 + 4)]) (m' := m) [(.iconst 0, 0, 0, 0, 0)] (by decide +kernel) rfl ?_
  refine Ev.putI (ci := 2) (k := 1) (idx := 102) (by decide +kernel) (by decide +kernel) (by decide +kernel) (k2_l0 (k1_k2 h_o0)) (by rw [(k2_s0 (k1_k2 h_o0))]) (by rw [(k2_s0 (k1_k2 h_o0))]; decide) rfl rfl ?_
  refine Ev.run (pc' := 10) (ls' := [some (.ref o0)]) (st' := [.int 0, .ref o0]) (m' := ((ev_up m.1 (o0 + 4) 1 0), m.2)) [(.aload_n 0, 0, 0, 0, 0), (.iconst 0, 0, 0, 0, 0)] (by decide +kernel) rfl ?_
  refine Ev.putI (ci := 1) (k := 4) (idx := 28) (by decide +kernel) (by decide +kernel) (by decide +kernel) (k1_l0 h_o0) (by rw [(k1_s0 h_o0)]) (by rw [(k1_s0 h_o0)]; decide) rfl rfl ?_
  refine Ev.run (pc' := 15) (ls' := [some (.ref o0)]) (st' := [.int 0, .ref o0]) (m' := ((ev_up (ev_up m.1 (o0 + 4) 1 0) o0 4 0), m.2)) [(.aload_n 0, 0, 0, 0, 0), (.iconst 0, 0, 0, 0, 0)] (by decide +kernel) rfl ?_
  refine Ev.putI (ci := 1) (k := 5) (idx := 32) (by decide +kernel) (by decide +kernel) (by decide +kernel) (k1_l0 h_o0) (by rw [(k1_s0 h_o0)]) (by rw [(k1_s0 h_o0)]; decide) rfl rfl ?_
  refine Ev.run (pc' := 20) (ls' := [some (.ref o0)]) (st' := [.int 0, .ref o0]) (m' := ((ev_up (ev_up (ev_up m.1 (o0 + 4) 1 0) o0 4 0) o0 5 0), m.2)) [(.aload_n 0, 0, 0, 0, 0), (.iconst 0, 0, 0, 0, 0)] (by decide +kernel) rfl ?_
  refine Ev.putI (ci := 1) (k := 6) (idx := 35) (by decide +kernel) (by decide +kernel) (by decide +kernel) (k1_l0 h_o0) (by rw [(k1_s0 h_o0)]) (by rw [(k1_s0 h_o0)]; decide) rfl rfl ?_
  refine Ev.run (pc' := 25) (ls' := [some (.ref o0)]) (st' := [.int 4, .ref o0]) (m' := ((ev_up (ev_up (ev_up (ev_up m.1 (o0 + 4) 1 0) o0 4 0) o0 5 0) o0 6 0), m.2)) [(.aload_n 0, 0, 0, 0, 0), (.iconst 4, 0, 0, 4, 0)] (by decide +kernel) rfl ?_
  refine Ev.putI (ci := 1) (k := 8) (idx := 41) (by decide +kernel) (by decide +kernel) (by decide +kernel) (k1_l0 h_o0) (by rw [(k1_s0 h_o0)]) (by rw [(k1_s0 h_o0)]; decide) rfl rfl ?_
  refine Ev.run (pc' := 30) (ls' := [some (.ref o0)]) (st' := [.int 3, .ref o0]) (m' := ((ev_up (ev_up (ev_up (ev_up (ev_up m.1 (o0 + 4) 1 0) o0 4 0) o0 5 0) o0 6 0) o0 8 4), m.2)) [(.aload_n 0, 0, 0, 0, 0), (.iconst 3, 0, 0, 3, 0)] (by decide +kernel) rfl ?_
  refine Ev.putI (ci := 1) (k := 9) (idx := 44) (by decide +kernel) (by decide +kernel) (by decide +kernel) (k1_l0 h_o0) (by rw [(k1_s0 h_o0)]) (by rw [(k1_s0 h_o0)]; decide) rfl rfl ?_
  refine Ev.run (pc' := 35) (ls' := [some (.ref o0)]) (st' := [.int 0, .ref o0]) (m' := ((ev_up (ev_up (ev_up (ev_up (ev_up (ev_up m.1 (o0 + 4) 1 0) o0 4 0) o0 5 0) o0 6 0) o0 8 4) o0 9 3), m.2)) [(.aload_n 0, 0, 0, 0, 0), (.iconst 0, 0, 0, 0, 0)] (by decide +kernel) rfl ?_
  refine Ev.putI (ci := 1) (k := 10) (idx := 47) (by decide +kernel) (by decide +kernel) (by decide +kernel) (k1_l0 h_o0) (by rw [(k1_s0 h_o0)]) (by rw [(k1_s0 h_o0)]; decide) rfl rfl ?_
  refine Ev.run (pc' := 40) (ls' := [some (.ref o0)]) (st' := [.int 0, .ref o0]) (m' := ((ev_up (ev_up (ev_up (ev_up (ev_up (ev_up (ev_up m.1 (o0 + 4) 1 0) o0 4 0) o0 5 0) o0 6 0) o0 8 4) o0 9 3) o0 10 0), m.2)) [(.aload_n 0, 0, 0, 0, 0), (.iconst 0, 0, 0, 0, 0)] (by decide +kernel) rfl ?_
  refine Ev.putI (ci := 1) (k := 11) (idx := 50) (by decide +kernel) (by decide +kernel) (by decide +kernel) (k1_l0 h_o0) (by rw [(k1_s0 h_o0)]) (by rw [(k1_s0 h_o0)]; decide) rfl rfl ?_
  refine Ev.run (pc' := 45) (ls' := [some (.ref o0)]) (st' := [.int 0, .ref o0]) (m' := ((ev_up (ev_up (ev_up (ev_up (ev_up (ev_up (ev_up (ev_up m.1 (o0 + 4) 1 0) o0 4 0) o0 5 0) o0 6 0) o0 8 4) o0 9 3) o0 10 0) o0 11 0), m.2)) [(.aload_n 0, 0, 0, 0, 0), (.iconst 0, 0, 0, 0, 0)] (by decide +kernel) rfl ?_
  refine Ev.putI (ci := 1) (k := 12) (idx := 53) (by decide +kernel) (by decide +kernel) (by decide +kernel) (k1_l0 h_o0) (by rw [(k1_s0 h_o0)]) (by rw [(k1_s0 h_o0)]; decide) rfl rfl ?_
  refine Ev.run (pc' := 50) (ls' := [some (.ref o0)]) (st' := [.int 0, .ref o0]) (m' := ((ev_up (ev_up (ev_up (ev_up (ev_up (ev_up (ev_up (ev_up (ev_up m.1 (o0 + 4) 1 0) o0 4 0) o0 5 0) o0 6 0) o0 8 4) o0 9 3) o0 10 0) o0 11 0) o0 12 0), m.2)) [(.aload_n 0, 0, 0, 0, 0), (.iconst 0, 0, 0, 0, 0)] (by decide +kernel) rfl ?_
  refine Ev.putI (ci := 1) (k := 13) (idx := 56) (by decide +kernel) (by decide +kernel) (by decide +kernel) (k1_l0 h_o0) (by rw [(k1_s0 h_o0)]) (by rw [(k1_s0 h_o0)]; decide) rfl rfl ?_
  refine Ev.run (pc' := 55) (ls' := [some (.ref o0)]) (st' := [.int 0, .ref o0]) (m' := ((ev_up (ev_up (ev_up (ev_up (ev_up (ev_up (ev_up (ev_up (ev_up (ev_up m.1 (o0 + 4) 1 0) o0 4 0) o0 5 0) o0 6 0) o0 8 4) o0 9 3) o0 10 0) o0 11 0) o0 12 0) o0 13 0), m.2)) [(.aload_n 0, 0, 0, 0, 0), (.iconst 0, 0, 0, 0, 0)] (by decide +kernel) rfl ?_
  refine Ev.putI (ci := 1) (k := 14) (idx := 59) (by decide +kernel) (by decide +kernel) (by decide +kernel) (k1_l0 h_o0) (by rw [(k1_s0 h_o0)]) (by rw [(k1_s0 h_o0)]; decide) rfl rfl ?_
  exact Ev.retv rfl rfl (by decide +kernel)
def FX1_hasSays (f : Nat) (o0 : Nat) (m : ev_M) : Option (Int32 × ev_M) :=
  (if (m.1 o0 12) ≤ (m.1 o0 11) then some (0, m) else some (1, m))
set_option maxRecDepth 100000 in
set_option maxHeartbeats 4000000 in
theorem EX1_hasSays {l : Launch} {Ln : Nat} {xs : Nat → Int32} {d : Nat} (f : Nat) (o0 : Nat) (m : ev_M) (h_o0 : isK 1 o0) (hd : 0 ≤ d) : Mv ev_eI l Ln xs YX1_hasSays d Sx [.ref o0] m (FX1_hasSays f o0 m) := by
  refine Mv.of (by decide +kernel) rfl (Nat.le_of_ble_eq_true rfl) (Ev.le (ls' := [some (.ref o0)]) ⟨rfl, trivial⟩ ?_)
  unfold FX1_hasSays
  refine Ev.run (pc' := 1) (ls' := [some (.ref o0)]) (st' := [.ref o0]) (m' := m) [(.aload_n 0, 0, 0, 0, 0)] (by decide +kernel) rfl ?_
  refine Ev.getS (v := .int (m.1 o0 12)) (ci := 1) (k := 12) (idx := 53) (by decide +kernel) (by decide +kernel) (k1_l0 h_o0) (by rw [(k1_s0 h_o0)]) (by rw [(k1_s0 h_o0)]; decide) rfl ?_
  refine Ev.run (pc' := 5) (ls' := [some (.ref o0)]) (st' := [.ref o0, .int (m.1 o0 12)]) (m' := m) [(.aload_n 0, 0, 0, 0, 0)] (by decide +kernel) rfl ?_
  refine Ev.getS (v := .int (m.1 o0 11)) (ci := 1) (k := 11) (idx := 50) (by decide +kernel) (by decide +kernel) (k1_l0 h_o0) (by rw [(k1_s0 h_o0)]) (by rw [(k1_s0 h_o0)]; decide) rfl ?_
  refine Ev.ic_le (t := 15) (by decide +kernel) ?_ ?_
  · refine Ev.run (pc' := 16) (ls' := [some (.ref o0)]) (st' := [.int 0]) (m' := m) [(.iconst 0, 0, 0, 0, 0)] (by decide +kernel) rfl ?_
    exact Ev.iretz rfl rfl (by decide +kernel) (by decide)
  · refine Ev.run (pc' := 12) (ls' := [some (.ref o0)]) (st' := [.int 1]) (m' := m) [(.iconst 1, 0, 0, 1, 0)] (by decide +kernel) rfl ?_
    refine Ev.gto (t := 16) (by decide +kernel) ?_
    exact Ev.iretz rfl rfl (by decide +kernel) (by decide)
def FX1_hasFeels (f : Nat) (o0 : Nat) (m : ev_M) : Option (Int32 × ev_M) :=
  (if (m.1 o0 14) ≤ (m.1 o0 13) then some (0, m) else some (1, m))
set_option maxRecDepth 100000 in
set_option maxHeartbeats 4000000 in
theorem EX1_hasFeels {l : Launch} {Ln : Nat} {xs : Nat → Int32} {d : Nat} (f : Nat) (o0 : Nat) (m : ev_M) (h_o0 : isK 1 o0) (hd : 0 ≤ d) : Mv ev_eI l Ln xs YX1_hasFeels d Sx [.ref o0] m (FX1_hasFeels f o0 m) := by
  refine Mv.of (by decide +kernel) rfl (Nat.le_of_ble_eq_true rfl) (Ev.le (ls' := [some (.ref o0)]) ⟨rfl, trivial⟩ ?_)
  unfold FX1_hasFeels
  refine Ev.run (pc' := 1) (ls' := [some (.ref o0)]) (st' := [.ref o0]) (m' := m) [(.aload_n 0, 0, 0, 0, 0)] (by decide +kernel) rfl ?_
  refine Ev.getS (v := .int (m.1 o0 14)) (ci := 1) (k := 14) (idx := 59) (by decide +kernel) (by decide +kernel) (k1_l0 h_o0) (by rw [(k1_s0 h_o0)]) (by rw [(k1_s0 h_o0)]; decide) rfl ?_
  refine Ev.run (pc' := 5) (ls' := [some (.ref o0)]) (st' := [.ref o0, .int (m.1 o0 14)]) (m' := m) [(.aload_n 0, 0, 0, 0, 0)] (by decide +kernel) rfl ?_
  refine Ev.getS (v := .int (m.1 o0 13)) (ci := 1) (k := 13) (idx := 56) (by decide +kernel) (by decide +kernel) (k1_l0 h_o0) (by rw [(k1_s0 h_o0)]) (by rw [(k1_s0 h_o0)]; decide) rfl ?_
  refine Ev.ic_le (t := 15) (by decide +kernel) ?_ ?_
  · refine Ev.run (pc' := 16) (ls' := [some (.ref o0)]) (st' := [.int 0]) (m' := m) [(.iconst 0, 0, 0, 0, 0)] (by decide +kernel) rfl ?_
    exact Ev.iretz rfl rfl (by decide +kernel) (by decide)
  · refine Ev.run (pc' := 12) (ls' := [some (.ref o0)]) (st' := [.int 1]) (m' := m) [(.iconst 1, 0, 0, 1, 0)] (by decide +kernel) rfl ?_
    refine Ev.gto (t := 16) (by decide +kernel) ?_
    exact Ev.iretz rfl rfl (by decide +kernel) (by decide)
def FX1_isTooMany (f : Nat) (o0 : Nat) (a1 : Int32) (m : ev_M) : Option (Int32 × ev_M) :=
  (if a1 = 1 then (if (m.1 o0 5) < 8 then some (0, m) else some (1, m)) else (if a1 = 5 then (ev_bd (FX1_hasSays f o0 m) (fun r2 m3 => (if r2 = 0 ∨ r2 = 1 then some (r2, m3) else none))) else (if a1 = 6 then (ev_bd (FX1_hasFeels f o0 m) (fun r5 m6 => (if r5 = 0 ∨ r5 = 1 then some (r5, m6) else none))) else some (0, m))))
set_option maxRecDepth 100000 in
set_option maxHeartbeats 4000000 in
theorem EX1_isTooMany {l : Launch} {Ln : Nat} {xs : Nat → Int32} {d : Nat} (f : Nat) (o0 : Nat) (a1 : Int32) (m : ev_M) (h_o0 : isK 1 o0) (hd : 1 ≤ d) : Mv ev_eI l Ln xs YX1_isTooMany d Sx [.ref o0, .int a1] m (FX1_isTooMany f o0 a1 m) := by
  refine Mv.of (by decide +kernel) rfl (Nat.le_of_ble_eq_true rfl) (Ev.le (ls' := [some (.ref o0), some (.int a1)]) ⟨rfl, ⟨rfl, trivial⟩⟩ ?_)
  unfold FX1_isTooMany
  refine Ev.run (pc' := 1) (ls' := [some (.ref o0), some (.int a1)]) (st' := [.int a1]) (m' := m) [(.iload_n 1, 0, 0, 0, 0)] (by decide +kernel) rfl ?_
  refine Ev.sw1 1 (t := 36) (by decide +kernel) (by decide) ?_ (fun z1 => ?_)
  · refine Ev.run (pc' := 37) (ls' := [some (.ref o0), some (.int a1)]) (st' := [.ref o0]) (m' := m) [(.aload_n 0, 0, 0, 0, 0)] (by decide +kernel) rfl ?_
    refine Ev.getS (v := .int (m.1 o0 5)) (ci := 1) (k := 5) (idx := 32) (by decide +kernel) (by decide +kernel) (k1_l0 h_o0) (by rw [(k1_s0 h_o0)]) (by rw [(k1_s0 h_o0)]; decide) rfl ?_
    refine Ev.run (pc' := 42) (ls' := [some (.ref o0), some (.int a1)]) (st' := [.int 8, .int (m.1 o0 5)]) (m' := m) [(.bipush 8, 0, 0, 8, 0)] (by decide +kernel) rfl ?_
    refine Ev.ic_lt (t := 49) (by decide +kernel) ?_ ?_
    · refine Ev.run (pc' := 50) (ls' := [some (.ref o0), some (.int a1)]) (st' := [.int 0]) (m' := m) [(.iconst 0, 0, 0, 0, 0)] (by decide +kernel) rfl ?_
      exact Ev.iretz rfl rfl (by decide +kernel) (by decide)
    · refine Ev.run (pc' := 46) (ls' := [some (.ref o0), some (.int a1)]) (st' := [.int 1]) (m' := m) [(.iconst 1, 0, 0, 1, 0)] (by decide +kernel) rfl ?_
      refine Ev.gto (t := 50) (by decide +kernel) ?_
      exact Ev.iretz rfl rfl (by decide +kernel) (by decide)
  refine Ev.sw1 5 (t := 51) (by decide +kernel) (by decide) ?_ (fun z4 => ?_)
  · refine Ev.run (pc' := 52) (ls' := [some (.ref o0), some (.int a1)]) (st' := [.ref o0]) (m' := m) [(.aload_n 0, 0, 0, 0, 0)] (by decide +kernel) rfl ?_
    refine Ev.cV (av := []) (st := []) (a := o0) (EX1_hasSays (l := l) (Ln := Ln) (xs := xs) (d := 0) f o0 m h_o0 (by decide)) rfl (by decide +kernel) mwX1_hasSays iwX1_hasSays vwX1_hasSays lk_1_105 (by omega) (k1_l0 h_o0) (by rw [(k1_s0 h_o0)]) (by decide) rfl rfl (Nat.le_of_ble_eq_true rfl) (fun r2 m3 => ?_)
    exact Ev.iretb rfl rfl (by decide +kernel)
  refine Ev.sw1 6 (t := 56) (by decide +kernel) (by decide) ?_ (fun z7 => ?_)
  · refine Ev.run (pc' := 57) (ls' := [some (.ref o0), some (.int a1)]) (st' := [.ref o0]) (m' := m) [(.aload_n 0, 0, 0, 0, 0)] (by decide +kernel) rfl ?_
    refine Ev.cV (av := []) (st := []) (a := o0) (EX1_hasFeels (l := l) (Ln := Ln) (xs := xs) (d := 0) f o0 m h_o0 (by decide)) rfl (by decide +kernel) mwX1_hasFeels iwX1_hasFeels vwX1_hasFeels lk_1_111 (by omega) (k1_l0 h_o0) (by rw [(k1_s0 h_o0)]) (by decide) rfl rfl (Nat.le_of_ble_eq_true rfl) (fun r5 m6 => ?_)
    exact Ev.iretb rfl rfl (by decide +kernel)
  refine Ev.sw0 (vals := [1, 5, 6]) (dt := 61) (by decide +kernel) (by simp only [List.mem_cons, List.not_mem_nil, or_false, not_or]; exact ⟨(lv_neT (k := 1) (a := 1) z1 (by decide)), (lv_neT (k := 5) (a := 5) z4 (by decide)), (lv_neT (k := 6) (a := 6) z7 (by decide))⟩) ?_
  refine Ev.run (pc' := 62) (ls' := [some (.ref o0), some (.int a1)]) (st' := [.int 0]) (m' := m) [(.iconst 0, 0, 0, 0, 0)] (by decide +kernel) rfl ?_
  exact Ev.iretz rfl rfl (by decide +kernel) (by decide)
def FX2_add (f : Nat) (o0 : Nat) (a1 : Int32) (m : ev_M) : Option (Unit × ev_M) :=
  (if (Int32.ofNat 1608) ≤ (m.1 o0 1) then some ((), m) else (if ev_in (m.1 o0 1) 1608 then some ((), ((ev_up (ev_up m.1 (o0 + 1) (m.1 o0 1).toNatClampNeg a1) o0 1 (((ev_up m.1 (o0 + 1) (m.1 o0 1).toNatClampNeg a1) o0 1) + 1)), m.2)) else none))
set_option maxRecDepth 100000 in
set_option maxHeartbeats 4000000 in
theorem EX2_add {l : Launch} {Ln : Nat} {xs : Nat → Int32} {d : Nat} (f : Nat) (o0 : Nat) (a1 : Int32) (m : ev_M) (h_o0 : isK 2 o0) (hd : 0 ≤ d) : Mv ev_eV l Ln xs YX2_add d Sx [.ref o0, .int a1] m (FX2_add f o0 a1 m) := by
  refine Mv.of (by decide +kernel) rfl (Nat.le_of_ble_eq_true rfl) (Ev.le (ls' := [some (.ref o0), some (.int a1)]) ⟨rfl, ⟨rfl, trivial⟩⟩ ?_)
  unfold FX2_add
  refine Ev.run (pc' := 1) (ls' := [some (.ref o0), some (.int a1)]) (st' := [.ref o0]) (m' := m) [(.aload_n 0, 0, 0, 0, 0)] (by decide +kernel) rfl ?_
  refine Ev.getS (v := .int (m.1 o0 1)) (ci := 2) (k := 1) (idx := 15) (by decide +kernel) (by decide +kernel) (k2_l0 h_o0) (by rw [(k2_s0 h_o0)]) (by rw [(k2_s0 h_o0)]; decide) rfl ?_
  refine Ev.run (pc' := 5) (ls' := [some (.ref o0), some (.int a1)]) (st' := [.ref o0, .int (m.1 o0 1)]) (m' := m) [(.aload_n 0, 0, 0, 0, 0)] (by decide +kernel) rfl ?_
  refine Ev.getS (v := .ref (o0 + 1)) (ci := 2) (k := 0) (idx := 9) (by decide +kernel) (by decide +kernel) (k2_l0 h_o0) (by rw [(k2_s0 h_o0)]) (by rw [(k2_s0 h_o0)]; decide) (by unfold ev_gv; rw [if_neg (by decide)]; show va_rf (Sx.2.2 o0 0) = _; rw [k2_r0 h_o0]; rfl) ?_
  refine Ev.alen (by decide +kernel) (k2_l1 h_o0) (k2_s1 h_o0) (by decide) ?_
  refine Ev.ic_ge (t := 32) (by decide +kernel) ?_ ?_
  · exact Ev.retv rfl rfl (by decide +kernel)
  · refine Ev.run (pc' := 13) (ls' := [some (.ref o0), some (.int a1)]) (st' := [.ref o0]) (m' := m) [(.aload_n 0, 0, 0, 0, 0)] (by decide +kernel) rfl ?_
    refine Ev.getS (v := .ref (o0 + 1)) (ci := 2) (k := 0) (idx := 9) (by decide +kernel) (by decide +kernel) (k2_l0 h_o0) (by rw [(k2_s0 h_o0)]) (by rw [(k2_s0 h_o0)]; decide) (by unfold ev_gv; rw [if_neg (by decide)]; show va_rf (Sx.2.2 o0 0) = _; rw [k2_r0 h_o0]; rfl) ?_
    refine Ev.run (pc' := 17) (ls' := [some (.ref o0), some (.int a1)]) (st' := [.ref o0, .ref (o0 + 1)]) (m' := m) [(.aload_n 0, 0, 0, 0, 0)] (by decide +kernel) rfl ?_
    refine Ev.getS (v := .int (m.1 o0 1)) (ci := 2) (k := 1) (idx := 15) (by decide +kernel) (by decide +kernel) (k2_l0 h_o0) (by rw [(k2_s0 h_o0)]) (by rw [(k2_s0 h_o0)]; decide) rfl ?_
    refine Ev.run (pc' := 21) (ls' := [some (.ref o0), some (.int a1)]) (st' := [.int a1, .int (m.1 o0 1), .ref (o0 + 1)]) (m' := m) [(.iload_n 1, 0, 0, 0, 0)] (by decide +kernel) rfl ?_
    refine Ev.iast (n := 1608) (by decide +kernel) (k2_l1 h_o0) (k2_s1 h_o0) ?_
    refine Ev.run (pc' := 24) (ls' := [some (.ref o0), some (.int a1)]) (st' := [.ref o0, .ref o0]) (m' := ((ev_up m.1 (o0 + 1) (m.1 o0 1).toNatClampNeg a1), m.2)) [(.aload_n 0, 0, 0, 0, 0), (.dup, 0, 0, 0, 0)] (by decide +kernel) rfl ?_
    refine Ev.getS (v := .int ((ev_up m.1 (o0 + 1) (m.1 o0 1).toNatClampNeg a1) o0 1)) (ci := 2) (k := 1) (idx := 15) (by decide +kernel) (by decide +kernel) (k2_l0 h_o0) (by rw [(k2_s0 h_o0)]) (by rw [(k2_s0 h_o0)]; decide) rfl ?_
    refine Ev.run (pc' := 29) (ls' := [some (.ref o0), some (.int a1)]) (st' := [.int (((ev_up m.1 (o0 + 1) (m.1 o0 1).toNatClampNeg a1) o0 1) + 1), .ref o0]) (m' := ((ev_up m.1 (o0 + 1) (m.1 o0 1).toNatClampNeg a1), m.2)) [(.iconst 1, 0, 0, 1, 0), (.iadd, 0, 0, 0, 0)] (by decide +kernel) rfl ?_
    refine Ev.putI (ci := 2) (k := 1) (idx := 15) (by decide +kernel) (by decide +kernel) (by decide +kernel) (k2_l0 h_o0) (by rw [(k2_s0 h_o0)]) (by rw [(k2_s0 h_o0)]; decide) rfl rfl ?_
    exact Ev.retv rfl rfl (by decide +kernel)
def FX3_towers (f : Nat)  (m : ev_M) : Option (Int32 × ev_M) :=
  (if isK 1 ((m.1 16 2)).toNatClampNeg then some ((m.1 ((m.1 16 2)).toNatClampNeg 5), m) else none)
set_option maxRecDepth 100000 in
set_option maxHeartbeats 4000000 in
theorem EX3_towers {l : Launch} {Ln : Nat} {xs : Nat → Int32} {d : Nat} (f : Nat)  (m : ev_M)  (hd : 0 ≤ d) : Mv ev_eI l Ln xs YX3_towers d Sx [.ref 16] m (FX3_towers f  m) := by
  refine Mv.of (by decide +kernel) rfl (Nat.le_of_ble_eq_true rfl) (Ev.le (ls' := [some (.ref 16)]) ⟨rfl, trivial⟩ ?_)
  unfold FX3_towers
  refine Ev.run (pc' := 1) (ls' := [some (.ref 16)]) (st' := [.ref 16]) (m' := m) [(.aload_n 0, 0, 0, 0, 0)] (by decide +kernel) rfl ?_
  refine Ev.ite (fun h1 => ?_) (fun _ => Ev.nn)
  refine Ev.getS (v := .ref ((m.1 16 2)).toNatClampNeg) (ci := 3) (k := 2) (idx := 26) (by decide +kernel) (by decide +kernel) (by decide) (by rw [show Sx.2.1 16 = (3, 4) from rfl]) (by rw [show Sx.2.1 16 = (3, 4) from rfl]; decide) (ev_gv_dyn1 rfl (Nat.pos_iff_ne_zero.mp (k1_z0 h1))) ?_
  refine Ev.getS (v := .int (m.1 ((m.1 16 2)).toNatClampNeg 5)) (ci := 1) (k := 5) (idx := 30) (by decide +kernel) (by decide +kernel) (k1_l0 h1) (by rw [(k1_s0 h1)]) (by rw [(k1_s0 h1)]; decide) rfl ?_
  exact Ev.ireti rfl rfl (by decide +kernel)
def FX3_rowOf_J45 (f : Nat) (kt4 : Int32 → Int32 → ev_M → Option (Int32 × ev_M))  (a2 : Int32) (a3 : Int32)  (m : ev_M) : Option (Int32 × ev_M) :=
  (kt4 a2 (a3 + 1) m)
def FX3_rowOf_J29 (f : Nat) (kt4 : Int32 → Int32 → ev_M → Option (Int32 × ev_M)) (kt39 : Int32 → Int32 → ev_M → Option (Int32 × ev_M))  (a1 : Int32) (a3 : Int32) (s0 : Int32) (m : ev_M) : Option (Int32 × ev_M) :=
  (if s0 ≤ 0 then (FX3_rowOf_J45 f kt4 s0 a3 m) else (if s0 < a1 then (FX3_rowOf_J45 f kt4 s0 a3 m) else (kt39 s0 a3 m)))
def FX3_rowOf_L4 (f : Nat) (k : Int32 → Int32 → ev_M → Option (Int32 × ev_M))  (a1 : Int32) : Nat → Int32 → Int32 → ev_M → Option (Int32 × ev_M)
  | 0, _, _, _ => none
  | n + 1, a2, a3, m => (if 8 ≤ a3 then some ((-1), m) else (if (((m.1 16 3) >>> (a3 &&& 31)) &&& 1) = 1 then (FX3_rowOf_J29 f (FX3_rowOf_L4 f k a1 n) k a1 a3 (a2 + 1) m) else (FX3_rowOf_J29 f (FX3_rowOf_L4 f k a1 n) k a1 a3 (0 : Int32) m)))
def FX3_rowOf (f : Nat) (a1 : Int32) (m : ev_M) : Option (Int32 × ev_M) :=
  (FX3_rowOf_L4 f (fun e1 e2 m3 => some (((e2 - e1) + 1), m3)) a1 f (0 : Int32) (0 : Int32) m)
set_option maxRecDepth 100000 in
set_option maxHeartbeats 4000000 in
theorem EX3_rowOf_J45 {l : Launch} {Ln : Nat} {xs : Nat → Int32} {d : Nat} (f : Nat) (kt4 : Int32 → Int32 → ev_M → Option (Int32 × ev_M))  (a1 : Int32) (a2 : Int32) (a3 : Int32)  (m : ev_M)  (hkt4 : ∀ (e2 : Int32) (e3 : Int32) (em : ev_M), Ev ev_eI l Ln xs YX3_rowOf d Sx 4 [some (.ref 16), some (.int a1), some (.int e2), some (.int e3)] [] em (kt4 e2 e3 em)) (hd : 0 ≤ d) : Ev ev_eI l Ln xs YX3_rowOf d Sx 45 [some (.ref 16), some (.int a1), some (.int a2), some (.int a3)] [] m (FX3_rowOf_J45 f kt4 a2 a3 m) := by
  unfold FX3_rowOf_J45
  refine Ev.run (pc' := 48) (ls' := [some (.ref 16), some (.int a1), some (.int a2), some (.int (a3 + 1))]) (st' := []) (m' := m) [(.iinc 3 1, 0, 0, 1, 0)] (by decide +kernel) rfl ?_
  refine Ev.gto (t := 4) (by decide +kernel) ?_
  exact hkt4 _ _ _
set_option maxRecDepth 100000 in
set_option maxHeartbeats 4000000 in
theorem EX3_rowOf_J29 {l : Launch} {Ln : Nat} {xs : Nat → Int32} {d : Nat} (f : Nat) (kt4 : Int32 → Int32 → ev_M → Option (Int32 × ev_M)) (kt39 : Int32 → Int32 → ev_M → Option (Int32 × ev_M))  (a1 : Int32) (a3 : Int32) (s0 : Int32) (m : ev_M)  (hkt4 : ∀ (e2 : Int32) (e3 : Int32) (em : ev_M), Ev ev_eI l Ln xs YX3_rowOf d Sx 4 [some (.ref 16), some (.int a1), some (.int e2), some (.int e3)] [] em (kt4 e2 e3 em)) (hkt39 : ∀ (e2 : Int32) (e3 : Int32) (em : ev_M), Ev ev_eI l Ln xs YX3_rowOf d Sx 39 [none, none, some (.int e2), some (.int e3)] [] em (kt39 e2 e3 em)) (hd : 0 ≤ d) : Ev ev_eI l Ln xs YX3_rowOf d Sx 29 [some (.ref 16), some (.int a1), none, some (.int a3)] [.int s0] m (FX3_rowOf_J29 f kt4 kt39 a1 a3 s0 m) := by
  unfold FX3_rowOf_J29
  refine Ev.run (pc' := 31) (ls' := [some (.ref 16), some (.int a1), some (.int s0), some (.int a3)]) (st' := [.int s0]) (m' := m) [(.istore_n 2, 0, 0, 0, 0), (.iload_n 2, 0, 0, 0, 0)] (by decide +kernel) rfl ?_
  refine Ev.if_le (t := 45) (by decide +kernel) ?_ ?_
  · exact EX3_rowOf_J45 f kt4 a1 s0 a3 m hkt4 (by omega)
  · refine Ev.run (pc' := 36) (ls' := [some (.ref 16), some (.int a1), some (.int s0), some (.int a3)]) (st' := [.int a1, .int s0]) (m' := m) [(.iload_n 2, 0, 0, 0, 0), (.iload_n 1, 0, 0, 0, 0)] (by decide +kernel) rfl ?_
    refine Ev.ic_lt (t := 45) (by decide +kernel) ?_ ?_
    · exact EX3_rowOf_J45 f kt4 a1 s0 a3 m hkt4 (by omega)
    · refine Ev.le (ls' := [none, none, some (.int s0), some (.int a3)]) ⟨rfl, ⟨rfl, trivial⟩⟩ ?_
      exact hkt39 _ _ _
set_option maxRecDepth 100000 in
set_option maxHeartbeats 4000000 in
theorem EX3_rowOf_L4 {l : Launch} {Ln : Nat} {xs : Nat → Int32} {d : Nat} (f : Nat) (k : Int32 → Int32 → ev_M → Option (Int32 × ev_M))  (a1 : Int32)   (hk : ∀ (e2 : Int32) (e3 : Int32) (em : ev_M), Ev ev_eI l Ln xs YX3_rowOf d Sx 39 [none, none, some (.int e2), some (.int e3)] [] em (k e2 e3 em)) (hd : 0 ≤ d) : ∀ (n : Nat) (a2 : Int32) (a3 : Int32) (m : ev_M), Ev ev_eI l Ln xs YX3_rowOf d Sx 4 [some (.ref 16), some (.int a1), some (.int a2), some (.int a3)] [] m (FX3_rowOf_L4 f k a1 n a2 a3 m) := by
  intro n
  induction n with
  | zero => intros; exact Ev.nn
  | succ n ih =>
    intro a2 a3 m
    rw [FX3_rowOf_L4]
    refine Ev.run (pc' := 7) (ls' := [some (.ref 16), some (.int a1), some (.int a2), some (.int a3)]) (st' := [.int 8, .int a3]) (m' := m) [(.iload_n 3, 0, 0, 0, 0), (.bipush 8, 0, 0, 8, 0)] (by decide +kernel) rfl ?_
    refine Ev.ic_ge (t := 51) (by decide +kernel) ?_ ?_
    · refine Ev.run (pc' := 52) (ls' := [some (.ref 16), some (.int a1), some (.int a2), some (.int a3)]) (st' := [.int (-1)]) (m' := m) [(.iconst (-1), 0, 0, (-1), 0)] (by decide +kernel) rfl ?_
      exact Ev.ireti rfl rfl (by decide +kernel)
    · refine Ev.run (pc' := 19) (ls' := [some (.ref 16), some (.int a1), some (.int a2), some (.int a3)]) (st' := [.int 1, .int (((m.1 16 3) >>> (a3 &&& 31)) &&& 1)]) (m' := m) [(.aload_n 0, 0, 0, 0, 0), (.getfield 22, 3, 3, 0, 0), (.iload_n 3, 0, 0, 0, 0), (.ishr, 0, 0, 0, 0), (.iconst 1, 0, 0, 1, 0), (.iand, 0, 0, 0, 0), (.iconst 1, 0, 0, 1, 0)] (by decide +kernel) rfl ?_
      refine Ev.ic_ne (t := 28) (by decide +kernel) ?_ ?_
      · refine Ev.run (pc' := 29) (ls' := [some (.ref 16), some (.int a1), some (.int a2), some (.int a3)]) (st' := [.int 0]) (m' := m) [(.iconst 0, 0, 0, 0, 0)] (by decide +kernel) rfl ?_
        refine Ev.le (ls' := [some (.ref 16), some (.int a1), none, some (.int a3)]) ⟨rfl, ⟨rfl, ⟨rfl, trivial⟩⟩⟩ ?_
        exact EX3_rowOf_J29 f (FX3_rowOf_L4 f k a1 n) k a1 a3 (0 : Int32) m ih hk (by omega)
      · refine Ev.run (pc' := 25) (ls' := [some (.ref 16), some (.int a1), some (.int a2), some (.int a3)]) (st' := [.int (a2 + 1)]) (m' := m) [(.iload_n 2, 0, 0, 0, 0), (.iconst 1, 0, 0, 1, 0), (.iadd, 0, 0, 0, 0)] (by decide +kernel) rfl ?_
        refine Ev.gto (t := 29) (by decide +kernel) ?_
        refine Ev.le (ls' := [some (.ref 16), some (.int a1), none, some (.int a3)]) ⟨rfl, ⟨rfl, ⟨rfl, trivial⟩⟩⟩ ?_
        exact EX3_rowOf_J29 f (FX3_rowOf_L4 f k a1 n) k a1 a3 (a2 + 1) m ih hk (by omega)
set_option maxRecDepth 100000 in
set_option maxHeartbeats 4000000 in
theorem EX3_rowOf {l : Launch} {Ln : Nat} {xs : Nat → Int32} {d : Nat} (f : Nat) (a1 : Int32) (m : ev_M)  (hd : 0 ≤ d) : Mv ev_eI l Ln xs YX3_rowOf d Sx [.ref 16, .int a1] m (FX3_rowOf f a1 m) := by
  refine Mv.of (by decide +kernel) rfl (Nat.le_of_ble_eq_true rfl) (Ev.le (ls' := [some (.ref 16), some (.int a1), none, none]) ⟨rfl, ⟨rfl, trivial⟩⟩ ?_)
  unfold FX3_rowOf
  refine Ev.run (pc' := 4) (ls' := [some (.ref 16), some (.int a1), some (.int 0), some (.int 0)]) (st' := []) (m' := m) [(.iconst 0, 0, 0, 0, 0), (.istore_n 2, 0, 0, 0, 0), (.iconst 0, 0, 0, 0, 0), (.istore_n 3, 0, 0, 0, 0)] (by decide +kernel) rfl ?_
  refine EX3_rowOf_L4 f _ a1 ?_ (by omega) _ _ _ _
  intro e1 e2 m3
  refine Ev.run (pc' := 44) (ls' := [none, none, some (.int e1), some (.int e2)]) (st' := [.int ((e2 - e1) + 1)]) (m' := m3) [(.iload_n 3, 0, 0, 0, 0), (.iload_n 2, 0, 0, 0, 0), (.isub, 0, 0, 0, 0), (.iconst 1, 0, 0, 1, 0), (.iadd, 0, 0, 0, 0)] (by decide +kernel) rfl ?_
  exact Ev.ireti rfl rfl (by decide +kernel)
def FX4_look_L27 (f : Nat) (k : ev_M → Option (Int32 × ev_M))  (a2 : Int32) (a3 : Int32) : Nat → Int32 → ev_M → Option (Int32 × ev_M)
  | 0, _, _ => none
  | n + 1, a4, m => (if a3 ≤ a4 then (k m) else (if ev_in a4 1600 then (if 30 < (m.1 14 a4.toNatClampNeg) then some (0, m) else (if ev_in (a4 + 1) 1600 then (if a2 ≤ (m.1 14 (a4 + 1).toNatClampNeg) then some (0, m) else (if ev_in (a4 + 2) 1600 then (if (m.1 14 (a4 + 2).toNatClampNeg) ≤ 9 then (FX4_look_L27 f k a2 a3 n (a4 + 3) m) else some (0, m)) else none)) else none)) else none))
def FX4_look_L83 (f : Nat) (k : ev_M → Option (Int32 × ev_M))  (a3 : Int32) : Nat → Int32 → ev_M → Option (Int32 × ev_M)
  | 0, _, _ => none
  | n + 1, a4, m => (if a3 ≤ a4 then (k m) else (if ev_in a4 1600 then (if ev_in a4 48 then (FX4_look_L83 f k a3 n (a4 + 1) ((ev_up m.1 37 a4.toNatClampNeg (m.1 14 a4.toNatClampNeg)), m.2)) else none) else none))
def FX4_look (f : Nat) (a2 : Int32) (m : ev_M) : Option (Int32 × ev_M) :=
  (if (m.1 13 1) < 3 then some (0, m) else (if 48 < (m.1 13 1) then some (0, m) else (if ((m.1 13 1) - (m.1 13 1) / 3 * 3) = 0 then (FX4_look_L27 f (fun m1 => (FX4_look_L83 f (fun m2 => some (1, ((ev_up m2.1 33 6 ((m.1 13 1) / 3)), m2.2))) (m.1 13 1) f (0 : Int32) m1)) a2 (m.1 13 1) f (0 : Int32) m) else some (0, m))))
set_option maxRecDepth 100000 in
set_option maxHeartbeats 4000000 in
theorem EX4_look_L27 {l : Launch} {Ln : Nat} {xs : Nat → Int32} {d : Nat} (f : Nat) (k : ev_M → Option (Int32 × ev_M))  (a2 : Int32) (a3 : Int32)   (hk : ∀  (em : ev_M), Ev ev_eI l Ln xs YX4_look d Sx 80 [some (.ref 33), some (.ref 13), none, some (.int a3), none] [] em (k em)) (hd : 0 ≤ d) : ∀ (n : Nat) (a4 : Int32) (m : ev_M), Ev ev_eI l Ln xs YX4_look d Sx 27 [some (.ref 33), some (.ref 13), some (.int a2), some (.int a3), some (.int a4)] [] m (FX4_look_L27 f k a2 a3 n a4 m) := by
  intro n
  induction n with
  | zero => intros; exact Ev.nn
  | succ n ih =>
    intro a4 m
    rw [FX4_look_L27]
    refine Ev.run (pc' := 30) (ls' := [some (.ref 33), some (.ref 13), some (.int a2), some (.int a3), some (.int a4)]) (st' := [.int a3, .int a4]) (m' := m) [(.iload 4, 0, 0, 0, 0), (.iload_n 3, 0, 0, 0, 0)] (by decide +kernel) rfl ?_
    refine Ev.ic_ge (t := 80) (by decide +kernel) ?_ ?_
    · refine Ev.le (ls' := [some (.ref 33), some (.ref 13), none, some (.int a3), none]) ⟨rfl, ⟨rfl, ⟨rfl, trivial⟩⟩⟩ ?_
      exact hk _
    · refine Ev.run (pc' := 39) (ls' := [some (.ref 33), some (.ref 13), some (.int a2), some (.int a3), some (.int a4)]) (st' := [.int a4, .ref 14]) (m' := m) [(.aload_n 1, 0, 0, 0, 0), (.getfield 53, 10, 0, 0, 0), (.iload 4, 0, 0, 0, 0)] (by decide +kernel) rfl ?_
      refine Ev.iald (n := 1600) (by decide +kernel) (by decide) rfl ?_
      refine Ev.run (pc' := 42) (ls' := [some (.ref 33), some (.ref 13), some (.int a2), some (.int a3), some (.int a4)]) (st' := [.int 30, .int (m.1 14 a4.toNatClampNeg)]) (m' := m) [(.bipush 30, 0, 0, 30, 0)] (by decide +kernel) rfl ?_
      refine Ev.ic_gt (t := 72) (by decide +kernel) ?_ ?_
      · refine Ev.run (pc' := 73) (ls' := [some (.ref 33), some (.ref 13), some (.int a2), some (.int a3), some (.int a4)]) (st' := [.int 0]) (m' := m) [(.iconst 0, 0, 0, 0, 0)] (by decide +kernel) rfl ?_
        exact Ev.iretz rfl rfl (by decide +kernel) (by decide)
      · refine Ev.run (pc' := 53) (ls' := [some (.ref 33), some (.ref 13), some (.int a2), some (.int a3), some (.int a4)]) (st' := [.int (a4 + 1), .ref 14]) (m' := m) [(.aload_n 1, 0, 0, 0, 0), (.getfield 53, 10, 0, 0, 0), (.iload 4, 0, 0, 0, 0), (.iconst 1, 0, 0, 1, 0), (.iadd, 0, 0, 0, 0)] (by decide +kernel) rfl ?_
        refine Ev.iald (n := 1600) (by decide +kernel) (by decide) rfl ?_
        refine Ev.run (pc' := 55) (ls' := [some (.ref 33), some (.ref 13), some (.int a2), some (.int a3), some (.int a4)]) (st' := [.int a2, .int (m.1 14 (a4 + 1).toNatClampNeg)]) (m' := m) [(.iload_n 2, 0, 0, 0, 0)] (by decide +kernel) rfl ?_
        refine Ev.ic_ge (t := 72) (by decide +kernel) ?_ ?_
        · refine Ev.run (pc' := 73) (ls' := [some (.ref 33), some (.ref 13), some (.int a2), some (.int a3), some (.int a4)]) (st' := [.int 0]) (m' := m) [(.iconst 0, 0, 0, 0, 0)] (by decide +kernel) rfl ?_
          exact Ev.iretz rfl rfl (by decide +kernel) (by decide)
        · refine Ev.run (pc' := 66) (ls' := [some (.ref 33), some (.ref 13), some (.int a2), some (.int a3), some (.int a4)]) (st' := [.int (a4 + 2), .ref 14]) (m' := m) [(.aload_n 1, 0, 0, 0, 0), (.getfield 53, 10, 0, 0, 0), (.iload 4, 0, 0, 0, 0), (.iconst 2, 0, 0, 2, 0), (.iadd, 0, 0, 0, 0)] (by decide +kernel) rfl ?_
          refine Ev.iald (n := 1600) (by decide +kernel) (by decide) rfl ?_
          refine Ev.run (pc' := 69) (ls' := [some (.ref 33), some (.ref 13), some (.int a2), some (.int a3), some (.int a4)]) (st' := [.int 9, .int (m.1 14 (a4 + 2).toNatClampNeg)]) (m' := m) [(.bipush 9, 0, 0, 9, 0)] (by decide +kernel) rfl ?_
          refine Ev.ic_le (t := 74) (by decide +kernel) ?_ ?_
          · refine Ev.run (pc' := 77) (ls' := [some (.ref 33), some (.ref 13), some (.int a2), some (.int a3), some (.int (a4 + 3))]) (st' := []) (m' := m) [(.iinc 4 3, 0, 0, 3, 0)] (by decide +kernel) rfl ?_
            refine Ev.gto (t := 27) (by decide +kernel) ?_
            exact ih _ _
          · refine Ev.run (pc' := 73) (ls' := [some (.ref 33), some (.ref 13), some (.int a2), some (.int a3), some (.int a4)]) (st' := [.int 0]) (m' := m) [(.iconst 0, 0, 0, 0, 0)] (by decide +kernel) rfl ?_
            exact Ev.iretz rfl rfl (by decide +kernel) (by decide)
set_option maxRecDepth 100000 in
set_option maxHeartbeats 4000000 in
theorem EX4_look_L83 {l : Launch} {Ln : Nat} {xs : Nat → Int32} {d : Nat} (f : Nat) (k : ev_M → Option (Int32 × ev_M))  (a3 : Int32)   (hk : ∀  (em : ev_M), Ev ev_eI l Ln xs YX4_look d Sx 109 [some (.ref 33), none, none, some (.int a3), none] [] em (k em)) (hd : 0 ≤ d) : ∀ (n : Nat) (a4 : Int32) (m : ev_M), Ev ev_eI l Ln xs YX4_look d Sx 83 [some (.ref 33), some (.ref 13), none, some (.int a3), some (.int a4)] [] m (FX4_look_L83 f k a3 n a4 m) := by
  intro n
  induction n with
  | zero => intros; exact Ev.nn
  | succ n ih =>
    intro a4 m
    rw [FX4_look_L83]
    refine Ev.run (pc' := 86) (ls' := [some (.ref 33), some (.ref 13), none, some (.int a3), some (.int a4)]) (st' := [.int a3, .int a4]) (m' := m) [(.iload 4, 0, 0, 0, 0), (.iload_n 3, 0, 0, 0, 0)] (by decide +kernel) rfl ?_
    refine Ev.ic_ge (t := 109) (by decide +kernel) ?_ ?_
    · refine Ev.le (ls' := [some (.ref 33), none, none, some (.int a3), none]) ⟨rfl, ⟨rfl, trivial⟩⟩ ?_
      exact hk _
    · refine Ev.run (pc' := 101) (ls' := [some (.ref 33), some (.ref 13), none, some (.int a3), some (.int a4)]) (st' := [.int a4, .ref 14, .int a4, .ref 37]) (m' := m) [(.aload_n 0, 0, 0, 0, 0), (.getfield 18, 4, 2, 0, 0), (.iload 4, 0, 0, 0, 0), (.aload_n 1, 0, 0, 0, 0), (.getfield 53, 10, 0, 0, 0), (.iload 4, 0, 0, 0, 0)] (by decide +kernel) rfl ?_
      refine Ev.iald (n := 1600) (by decide +kernel) (by decide) rfl ?_
      refine Ev.iast (n := 48) (by decide +kernel) (by decide) rfl ?_
      refine Ev.run (pc' := 106) (ls' := [some (.ref 33), some (.ref 13), none, some (.int a3), some (.int (a4 + 1))]) (st' := []) (m' := ((ev_up m.1 37 a4.toNatClampNeg (m.1 14 a4.toNatClampNeg)), m.2)) [(.iinc 4 1, 0, 0, 1, 0)] (by decide +kernel) rfl ?_
      refine Ev.gto (t := 83) (by decide +kernel) ?_
      exact ih _ _
set_option maxRecDepth 100000 in
set_option maxHeartbeats 4000000 in
theorem EX4_look {l : Launch} {Ln : Nat} {xs : Nat → Int32} {d : Nat} (f : Nat) (a2 : Int32) (m : ev_M)  (hd : 0 ≤ d) : Mv ev_eI l Ln xs YX4_look d Sx [.ref 33, .ref 13, .int a2] m (FX4_look f a2 m) := by
  refine Mv.of (by decide +kernel) rfl (Nat.le_of_ble_eq_true rfl) (Ev.le (ls' := [some (.ref 33), some (.ref 13), some (.int a2), none, none]) ⟨rfl, ⟨rfl, ⟨rfl, trivial⟩⟩⟩ ?_)
  unfold FX4_look
  refine Ev.run (pc' := 7) (ls' := [some (.ref 33), some (.ref 13), some (.int a2), some (.int (m.1 13 1)), none]) (st' := [.int 3, .int (m.1 13 1)]) (m' := m) [(.aload_n 1, 0, 0, 0, 0), (.getfield 48, 10, 1, 0, 0), (.istore_n 3, 0, 0, 0, 0), (.iload_n 3, 0, 0, 0, 0), (.iconst 3, 0, 0, 3, 0)] (by decide +kernel) rfl ?_
  refine Ev.ic_lt (t := 22) (by decide +kernel) ?_ ?_
  · refine Ev.run (pc' := 23) (ls' := [some (.ref 33), some (.ref 13), some (.int a2), some (.int (m.1 13 1)), none]) (st' := [.int 0]) (m' := m) [(.iconst 0, 0, 0, 0, 0)] (by decide +kernel) rfl ?_
    exact Ev.iretz rfl rfl (by decide +kernel) (by decide)
  · refine Ev.run (pc' := 13) (ls' := [some (.ref 33), some (.ref 13), some (.int a2), some (.int (m.1 13 1)), none]) (st' := [.int 48, .int (m.1 13 1)]) (m' := m) [(.iload_n 3, 0, 0, 0, 0), (.bipush 48, 0, 0, 48, 0)] (by decide +kernel) rfl ?_
    refine Ev.ic_gt (t := 22) (by decide +kernel) ?_ ?_
    · refine Ev.run (pc' := 23) (ls' := [some (.ref 33), some (.ref 13), some (.int a2), some (.int (m.1 13 1)), none]) (st' := [.int 0]) (m' := m) [(.iconst 0, 0, 0, 0, 0)] (by decide +kernel) rfl ?_
      exact Ev.iretz rfl rfl (by decide +kernel) (by decide)
    · refine Ev.run (pc' := 18) (ls' := [some (.ref 33), some (.ref 13), some (.int a2), some (.int (m.1 13 1)), none]) (st' := [.int 3, .int (m.1 13 1)]) (m' := m) [(.iload_n 3, 0, 0, 0, 0), (.iconst 3, 0, 0, 3, 0)] (by decide +kernel) rfl ?_
      refine Ev.irem' (by decide +kernel) (by decide) ?_
      refine Ev.if_eq (t := 24) (by decide +kernel) ?_ ?_
      · refine Ev.run (pc' := 27) (ls' := [some (.ref 33), some (.ref 13), some (.int a2), some (.int (m.1 13 1)), some (.int 0)]) (st' := []) (m' := m) [(.iconst 0, 0, 0, 0, 0), (.istore 4, 0, 0, 0, 0)] (by decide +kernel) rfl ?_
        refine EX4_look_L27 f _ a2 (m.1 13 1) ?_ (by omega) _ _ _
        intro m1
        refine Ev.run (pc' := 83) (ls' := [some (.ref 33), some (.ref 13), none, some (.int (m.1 13 1)), some (.int 0)]) (st' := []) (m' := m1) [(.iconst 0, 0, 0, 0, 0), (.istore 4, 0, 0, 0, 0)] (by decide +kernel) rfl ?_
        refine EX4_look_L83 f _ (m.1 13 1) ?_ (by omega) _ _ _
        intro m2
        refine Ev.run (pc' := 112) (ls' := [some (.ref 33), none, none, some (.int (m.1 13 1)), none]) (st' := [.int 3, .int (m.1 13 1), .ref 33]) (m' := m2) [(.aload_n 0, 0, 0, 0, 0), (.iload_n 3, 0, 0, 0, 0), (.iconst 3, 0, 0, 3, 0)] (by decide +kernel) rfl ?_
        refine Ev.idiv' (by decide +kernel) (by decide) ?_
        refine Ev.run (pc' := 117) (ls' := [some (.ref 33), none, none, some (.int (m.1 13 1)), none]) (st' := [.int 1]) (m' := ((ev_up m2.1 33 6 ((m.1 13 1) / 3)), m2.2)) [(.putfield 32, 4, 6, 0, 0), (.iconst 1, 0, 0, 1, 0)] (by decide +kernel) rfl ?_
        exact Ev.iretz rfl rfl (by decide +kernel) (by decide)
      · refine Ev.run (pc' := 23) (ls' := [some (.ref 33), some (.ref 13), some (.int a2), some (.int (m.1 13 1)), none]) (st' := [.int 0]) (m' := m) [(.iconst 0, 0, 0, 0, 0)] (by decide +kernel) rfl ?_
        exact Ev.iretz rfl rfl (by decide +kernel) (by decide)
def FX4_indexOf (f : Nat) (a0 : Int32) (a1 : Int32) (a2 : Int32) (m : ev_M) : Option (Int32 × ev_M) :=
  some (((((a0 * 31) + a1) * 8) + a2), m)
set_option maxRecDepth 100000 in
set_option maxHeartbeats 4000000 in
theorem EX4_indexOf {l : Launch} {Ln : Nat} {xs : Nat → Int32} {d : Nat} (f : Nat) (a0 : Int32) (a1 : Int32) (a2 : Int32) (m : ev_M)  (hd : 0 ≤ d) : Mv ev_eI l Ln xs YX4_indexOf d Sx [.int a0, .int a1, .int a2] m (FX4_indexOf f a0 a1 a2 m) := by
  refine Mv.of (by decide +kernel) rfl (Nat.le_of_ble_eq_true rfl) (Ev.le (ls' := [some (.int a0), some (.int a1), some (.int a2)]) ⟨rfl, ⟨rfl, ⟨rfl, trivial⟩⟩⟩ ?_)
  unfold FX4_indexOf
  refine Ev.run (pc' := 11) (ls' := [some (.int a0), some (.int a1), some (.int a2)]) (st' := [.int ((((a0 * 31) + a1) * 8) + a2)]) (m' := m) [(.iload_n 0, 0, 0, 0, 0), (.bipush 31, 0, 0, 31, 0), (.imul, 0, 0, 0, 0), (.iload_n 1, 0, 0, 0, 0), (.iadd, 0, 0, 0, 0), (.bipush 8, 0, 0, 8, 0), (.imul, 0, 0, 0, 0), (.iload_n 2, 0, 0, 0, 0), (.iadd, 0, 0, 0, 0)] (by decide +kernel) rfl ?_
  exact Ev.ireti rfl rfl (by decide +kernel)
def FX4_isAllSo_L2 (f : Nat) (k : ev_M → Option (Int32 × ev_M))  (a1 : Int32) : Nat → Int32 → ev_M → Option (Int32 × ev_M)
  | 0, _, _ => none
  | n + 1, a2, m => (if (m.1 33 6) ≤ a2 then (k m) else (if 16 ≤ a2 then (k m) else (if ev_in (3 * a2) 48 then (if (m.1 33 5) ≤ (m.1 37 (3 * a2).toNatClampNeg) then some (0, m) else (if ev_in ((3 * a2) + 1) 48 then (ev_bd (FX4_indexOf f a1 (m.1 37 (3 * a2).toNatClampNeg) (m.1 37 ((3 * a2) + 1).toNatClampNeg) m) (fun r1 m2 => (if ev_in r1 2480 then (if ev_in ((3 * a2) + 2) 48 then (if (m2.1 38 r1.toNatClampNeg) = (m2.1 37 ((3 * a2) + 2).toNatClampNeg) then (FX4_isAllSo_L2 f k a1 n (a2 + 1) m2) else some (0, m2)) else none) else none))) else none)) else none)))
def FX4_isAllSo (f : Nat) (a1 : Int32) (m : ev_M) : Option (Int32 × ev_M) :=
  (FX4_isAllSo_L2 f (fun m3 => some (1, m3)) a1 f (0 : Int32) m)
set_option maxRecDepth 100000 in
set_option maxHeartbeats 4000000 in
theorem EX4_isAllSo_L2 {l : Launch} {Ln : Nat} {xs : Nat → Int32} {d : Nat} (f : Nat) (k : ev_M → Option (Int32 × ev_M))  (a1 : Int32)   (hk : ∀  (em : ev_M), Ev ev_eI l Ln xs YX4_isAllSo d Sx 74 [none, none, none, none] [] em (k em)) (hd : 1 ≤ d) : ∀ (n : Nat) (a2 : Int32) (m : ev_M), Ev ev_eI l Ln xs YX4_isAllSo d Sx 2 [some (.ref 33), some (.int a1), some (.int a2), none] [] m (FX4_isAllSo_L2 f k a1 n a2 m) := by
  intro n
  induction n with
  | zero => intros; exact Ev.nn
  | succ n ih =>
    intro a2 m
    rw [FX4_isAllSo_L2]
    refine Ev.run (pc' := 7) (ls' := [some (.ref 33), some (.int a1), some (.int a2), none]) (st' := [.int (m.1 33 6), .int a2]) (m' := m) [(.iload_n 2, 0, 0, 0, 0), (.aload_n 0, 0, 0, 0, 0), (.getfield 32, 4, 6, 0, 0)] (by decide +kernel) rfl ?_
    refine Ev.ic_ge (t := 74) (by decide +kernel) ?_ ?_
    · refine Ev.le (ls' := [none, none, none, none]) trivial ?_
      exact hk _
    · refine Ev.run (pc' := 13) (ls' := [some (.ref 33), some (.int a1), some (.int a2), none]) (st' := [.int 16, .int a2]) (m' := m) [(.iload_n 2, 0, 0, 0, 0), (.bipush 16, 0, 0, 16, 0)] (by decide +kernel) rfl ?_
      refine Ev.ic_ge (t := 74) (by decide +kernel) ?_ ?_
      · refine Ev.le (ls' := [none, none, none, none]) trivial ?_
        exact hk _
      · refine Ev.run (pc' := 23) (ls' := [some (.ref 33), some (.int a1), some (.int a2), none]) (st' := [.int (3 * a2), .ref 37]) (m' := m) [(.aload_n 0, 0, 0, 0, 0), (.getfield 18, 4, 2, 0, 0), (.iconst 3, 0, 0, 3, 0), (.iload_n 2, 0, 0, 0, 0), (.imul, 0, 0, 0, 0)] (by decide +kernel) rfl ?_
        refine Ev.iald (n := 48) (by decide +kernel) (by decide) rfl ?_
        refine Ev.run (pc' := 30) (ls' := [some (.ref 33), some (.int a1), some (.int a2), some (.int (m.1 37 (3 * a2).toNatClampNeg))]) (st' := [.int (m.1 33 5), .int (m.1 37 (3 * a2).toNatClampNeg)]) (m' := m) [(.istore_n 3, 0, 0, 0, 0), (.iload_n 3, 0, 0, 0, 0), (.aload_n 0, 0, 0, 0, 0), (.getfield 28, 4, 5, 0, 0)] (by decide +kernel) rfl ?_
        refine Ev.ic_ge (t := 66) (by decide +kernel) ?_ ?_
        · refine Ev.run (pc' := 67) (ls' := [some (.ref 33), some (.int a1), some (.int a2), some (.int (m.1 37 (3 * a2).toNatClampNeg))]) (st' := [.int 0]) (m' := m) [(.iconst 0, 0, 0, 0, 0)] (by decide +kernel) rfl ?_
          exact Ev.iretz rfl rfl (by decide +kernel) (by decide)
        · refine Ev.run (pc' := 48) (ls' := [some (.ref 33), some (.int a1), some (.int a2), some (.int (m.1 37 (3 * a2).toNatClampNeg))]) (st' := [.int ((3 * a2) + 1), .ref 37, .int (m.1 37 (3 * a2).toNatClampNeg), .int a1, .ref 38]) (m' := m) [(.aload_n 0, 0, 0, 0, 0), (.getfield 22, 4, 3, 0, 0), (.iload_n 1, 0, 0, 0, 0), (.iload_n 3, 0, 0, 0, 0), (.aload_n 0, 0, 0, 0, 0), (.getfield 18, 4, 2, 0, 0), (.iconst 3, 0, 0, 3, 0), (.iload_n 2, 0, 0, 0, 0), (.imul, 0, 0, 0, 0), (.iconst 1, 0, 0, 1, 0), (.iadd, 0, 0, 0, 0)] (by decide +kernel) rfl ?_
          refine Ev.iald (n := 48) (by decide +kernel) (by decide) rfl ?_
          refine Ev.cS (av := [.int a1, .int (m.1 37 (3 * a2).toNatClampNeg), .int (m.1 37 ((3 * a2) + 1).toNatClampNeg)]) (st := [.ref 38]) (EX4_indexOf (l := l) (Ln := Ln) (xs := xs) (d := 0) f a1 (m.1 37 (3 * a2).toNatClampNeg) (m.1 37 ((3 * a2) + 1).toNatClampNeg) m (by decide)) rfl (by decide +kernel) mwX4_indexOf swX4_indexOf lk_4_96 (by omega) rfl (Nat.le_of_ble_eq_true rfl) (fun r1 m2 => ?_)
          refine Ev.iald (n := 2480) (by decide +kernel) (by decide) rfl ?_
          refine Ev.run (pc' := 62) (ls' := [some (.ref 33), some (.int a1), some (.int a2), some (.int (m.1 37 (3 * a2).toNatClampNeg))]) (st' := [.int ((3 * a2) + 2), .ref 37, .int (m2.1 38 r1.toNatClampNeg)]) (m' := m2) [(.aload_n 0, 0, 0, 0, 0), (.getfield 18, 4, 2, 0, 0), (.iconst 3, 0, 0, 3, 0), (.iload_n 2, 0, 0, 0, 0), (.imul, 0, 0, 0, 0), (.iconst 2, 0, 0, 2, 0), (.iadd, 0, 0, 0, 0)] (by decide +kernel) rfl ?_
          refine Ev.iald (n := 48) (by decide +kernel) (by decide) rfl ?_
          refine Ev.ic_eq (t := 68) (by decide +kernel) ?_ ?_
          · refine Ev.run (pc' := 71) (ls' := [some (.ref 33), some (.int a1), some (.int (a2 + 1)), some (.int (m.1 37 (3 * a2).toNatClampNeg))]) (st' := []) (m' := m2) [(.iinc 2 1, 0, 0, 1, 0)] (by decide +kernel) rfl ?_
            refine Ev.gto (t := 2) (by decide +kernel) ?_
            refine Ev.le (ls' := [some (.ref 33), some (.int a1), some (.int (a2 + 1)), none]) ⟨rfl, ⟨rfl, ⟨rfl, trivial⟩⟩⟩ ?_
            exact ih _ _
          · refine Ev.run (pc' := 67) (ls' := [some (.ref 33), some (.int a1), some (.int a2), some (.int (m.1 37 (3 * a2).toNatClampNeg))]) (st' := [.int 0]) (m' := m2) [(.iconst 0, 0, 0, 0, 0)] (by decide +kernel) rfl ?_
            exact Ev.iretz rfl rfl (by decide +kernel) (by decide)
set_option maxRecDepth 100000 in
set_option maxHeartbeats 4000000 in
theorem EX4_isAllSo {l : Launch} {Ln : Nat} {xs : Nat → Int32} {d : Nat} (f : Nat) (a1 : Int32) (m : ev_M)  (hd : 1 ≤ d) : Mv ev_eI l Ln xs YX4_isAllSo d Sx [.ref 33, .int a1] m (FX4_isAllSo f a1 m) := by
  refine Mv.of (by decide +kernel) rfl (Nat.le_of_ble_eq_true rfl) (Ev.le (ls' := [some (.ref 33), some (.int a1), none, none]) ⟨rfl, ⟨rfl, trivial⟩⟩ ?_)
  unfold FX4_isAllSo
  refine Ev.run (pc' := 2) (ls' := [some (.ref 33), some (.int a1), some (.int 0), none]) (st' := []) (m' := m) [(.iconst 0, 0, 0, 0, 0), (.istore_n 2, 0, 0, 0, 0)] (by decide +kernel) rfl ?_
  refine EX4_isAllSo_L2 f _ a1 ?_ (by omega) _ _ _
  intro m3
  refine Ev.run (pc' := 75) (ls' := [none, none, none, none]) (st' := [.int 1]) (m' := m3) [(.iconst 1, 0, 0, 1, 0)] (by decide +kernel) rfl ?_
  exact Ev.iretz rfl rfl (by decide +kernel) (by decide)
def FX5_valueOf (f : Nat) (a1 : Int32) (m : ev_M) : Option (Int32 × ev_M) :=
  (if a1 < 0 then (if ((-20) - a1) < 0 then some (0, m) else (if 29 ≤ ((-20) - a1) then some (0, m) else (if ev_in ((-20) - a1) 29 then some ((m.1 18 ((-20) - a1).toNatClampNeg), m) else none))) else some (a1, m))
set_option maxRecDepth 100000 in
set_option maxHeartbeats 4000000 in
theorem EX5_valueOf {l : Launch} {Ln : Nat} {xs : Nat → Int32} {d : Nat} (f : Nat) (a1 : Int32) (m : ev_M)  (hd : 0 ≤ d) : Mv ev_eI l Ln xs YX5_valueOf d Sx [.ref 17, .int a1] m (FX5_valueOf f a1 m) := by
  refine Mv.of (by decide +kernel) rfl (Nat.le_of_ble_eq_true rfl) (Ev.le (ls' := [some (.ref 17), some (.int a1), none]) ⟨rfl, ⟨rfl, trivial⟩⟩ ?_)
  unfold FX5_valueOf
  refine Ev.run (pc' := 1) (ls' := [some (.ref 17), some (.int a1), none]) (st' := [.int a1]) (m' := m) [(.iload_n 1, 0, 0, 0, 0)] (by decide +kernel) rfl ?_
  refine Ev.if_lt (t := 6) (by decide +kernel) ?_ ?_
  · refine Ev.run (pc' := 12) (ls' := [some (.ref 17), some (.int a1), some (.int ((-20) - a1))]) (st' := [.int ((-20) - a1)]) (m' := m) [(.bipush (-20), 0, 0, (-20), 0), (.iload_n 1, 0, 0, 0, 0), (.isub, 0, 0, 0, 0), (.istore_n 2, 0, 0, 0, 0), (.iload_n 2, 0, 0, 0, 0)] (by decide +kernel) rfl ?_
    refine Ev.if_lt (t := 30) (by decide +kernel) ?_ ?_
    · refine Ev.run (pc' := 31) (ls' := [some (.ref 17), some (.int a1), some (.int ((-20) - a1))]) (st' := [.int 0]) (m' := m) [(.iconst 0, 0, 0, 0, 0)] (by decide +kernel) rfl ?_
      exact Ev.ireti rfl rfl (by decide +kernel)
    · refine Ev.run (pc' := 18) (ls' := [some (.ref 17), some (.int a1), some (.int ((-20) - a1))]) (st' := [.int 29, .int ((-20) - a1)]) (m' := m) [(.iload_n 2, 0, 0, 0, 0), (.bipush 29, 0, 0, 29, 0)] (by decide +kernel) rfl ?_
      refine Ev.ic_ge (t := 30) (by decide +kernel) ?_ ?_
      · refine Ev.run (pc' := 31) (ls' := [some (.ref 17), some (.int a1), some (.int ((-20) - a1))]) (st' := [.int 0]) (m' := m) [(.iconst 0, 0, 0, 0, 0)] (by decide +kernel) rfl ?_
        exact Ev.ireti rfl rfl (by decide +kernel)
      · refine Ev.run (pc' := 26) (ls' := [some (.ref 17), some (.int a1), some (.int ((-20) - a1))]) (st' := [.int ((-20) - a1), .ref 18]) (m' := m) [(.aload_n 0, 0, 0, 0, 0), (.getfield 9, 5, 0, 0, 0), (.iload_n 2, 0, 0, 0, 0)] (by decide +kernel) rfl ?_
        refine Ev.iald (n := 29) (by decide +kernel) (by decide) rfl ?_
        refine Ev.gto (t := 31) (by decide +kernel) ?_
        exact Ev.ireti rfl rfl (by decide +kernel)
  · refine Ev.run (pc' := 5) (ls' := [some (.ref 17), some (.int a1), none]) (st' := [.int a1]) (m' := m) [(.iload_n 1, 0, 0, 0, 0)] (by decide +kernel) rfl ?_
    exact Ev.ireti rfl rfl (by decide +kernel)
