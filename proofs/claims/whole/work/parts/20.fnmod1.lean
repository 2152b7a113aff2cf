def FX12_towerTold_J60 (f : Nat)   (a2 : Int64)  (m : ev_M) : Option (Unit × ev_M) :=
  (ev_bd (FX12_asks f 117 m) (fun _ m4 => (ev_bd (FX12_number f (0 : Int32) (9 : Int32) m4) (fun r5 m6 => (ev_bd (FX12_asks f 118 m6) (fun _ m8 => (ev_bd (FX12_number f (0 : Int32) (9 : Int32) m8) (fun r9 m10 => (if (m10.1 112 5) = 0 then (if ev_in (m10.1 112 35) 16 then (if ev_in (3 * (m10.1 112 35)) 24 then (if ev_in ((3 * (m10.1 112 35)) + 1) 24 then (if ev_in ((3 * (m10.1 112 35)) + 2) 24 then some ((), ((ev_up (ev_up (ev_up (ev_up m10.1 139 (3 * (m10.1 112 35)).toNatClampNeg r5) 139 ((3 * (m10.1 112 35)) + 1).toNatClampNeg r9) 139 ((3 * (m10.1 112 35)) + 2).toNatClampNeg 0) 112 35 ((m10.1 112 35) + 1)), (ev_up m10.2 138 (m10.1 112 35).toNatClampNeg a2))) else none) else none) else none) else none) else some ((), m10))))))))))
def FX12_towerTold_J22 (f : Nat)     (m : ev_M) : Option (Unit × ev_M) :=
  (if (m.1 112 5) = 0 then (ev_bd (FX12_name f m) (fun r1 m2 => (if (m2.1 112 5) = 0 then (ev_bd (FX12_nameOf f r1 m2) (fun r11 m12 => (if r11 = (-1) then (FX12_towerTold_J60 f r1 m12) else (ev_bd (FX12_fail f (3 : Int32) (m12.1 112 33) m12) (fun _ m14 => (FX12_towerTold_J60 f r1 m14)))))) else (FX12_towerTold_J60 f r1 m2)))) else some ((), m))
def FX12_towerTold (f : Nat) (a1 : Int32) (m : ev_M) : Option (Unit × ev_M) :=
  (if (m.1 112 5) = 0 then (if (m.1 112 35) = 8 then (ev_bd (FX12_fail f (5 : Int32) a1 m) (fun _ m16 => (FX12_towerTold_J22 f m16))) else (FX12_towerTold_J22 f m)) else (FX12_towerTold_J22 f m))
set_option maxRecDepth 100000 in
set_option maxHeartbeats 4000000 in
theorem EX12_towerTold_J60 {l : Launch} {Ln : Nat} {xs : Nat → Int32} {d : Nat} (f : Nat)   (a2 : Int64)  (m : ev_M)   (hd : 4 ≤ d) : Ev ev_eV l Ln xs YX12_towerTold d Sx 60 [some (.ref 112), none, some (.long a2), none, none, none] [] m (FX12_towerTold_J60 f a2 m) := by
  unfold FX12_towerTold_J60
  refine Ev.run (pc' := 65) (ls' := [some (.ref 112), none, some (.long a2), none, none, none]) (st' := [.ref 117, .ref 112]) (m' := m) [(.aload_n 0, 0, 0, 0, 0), (.aload_n 0, 0, 0, 0, 0), (.getfield 27, 12, 12, 0, 0)] (by decide +kernel) rfl ?_
  refine Ev.cV (av := [.ref 117]) (st := []) (a := 112) (EX12_asks (l := l) (Ln := Ln) (xs := xs) (d := 3) f 117 m (by decide) (by decide)) rfl (by decide +kernel) mwX12_asks iwX12_asks vwX12_asks lk_12_291 (by omega) (by decide) rfl (by decide) rfl rfl (Nat.le_of_ble_eq_true rfl) (fun r3 m4 => ?_)
  refine Ev.run (pc' := 72) (ls' := [some (.ref 112), none, some (.long a2), none, none, none]) (st' := [.int 9, .int 0, .ref 112]) (m' := m4) [(.aload_n 0, 0, 0, 0, 0), (.iconst 0, 0, 0, 0, 0), (.bipush 9, 0, 0, 9, 0)] (by decide +kernel) rfl ?_
  refine Ev.cV (av := [.int 0, .int 9]) (st := []) (a := 112) (EX12_number (l := l) (Ln := Ln) (xs := xs) (d := 1) f (0 : Int32) (9 : Int32) m4 (by decide)) rfl (by decide +kernel) mwX12_number iwX12_number vwX12_number lk_12_295 (by omega) (by decide) rfl (by decide) rfl rfl (Nat.le_of_ble_eq_true rfl) (fun r5 m6 => ?_)
  refine Ev.run (pc' := 82) (ls' := [some (.ref 112), none, some (.long a2), none, some (.int r5), none]) (st' := [.ref 118, .ref 112]) (m' := m6) [(.istore 4, 0, 0, 0, 0), (.aload_n 0, 0, 0, 0, 0), (.aload_n 0, 0, 0, 0, 0), (.getfield 30, 12, 13, 0, 0)] (by decide +kernel) rfl ?_
  refine Ev.cV (av := [.ref 118]) (st := []) (a := 112) (EX12_asks (l := l) (Ln := Ln) (xs := xs) (d := 3) f 118 m6 (by decide) (by decide)) rfl (by decide +kernel) mwX12_asks iwX12_asks vwX12_asks lk_12_291 (by omega) (by decide) rfl (by decide) rfl rfl (Nat.le_of_ble_eq_true rfl) (fun r7 m8 => ?_)
  refine Ev.run (pc' := 89) (ls' := [some (.ref 112), none, some (.long a2), none, some (.int r5), none]) (st' := [.int 9, .int 0, .ref 112]) (m' := m8) [(.aload_n 0, 0, 0, 0, 0), (.iconst 0, 0, 0, 0, 0), (.bipush 9, 0, 0, 9, 0)] (by decide +kernel) rfl ?_
  refine Ev.cV (av := [.int 0, .int 9]) (st := []) (a := 112) (EX12_number (l := l) (Ln := Ln) (xs := xs) (d := 1) f (0 : Int32) (9 : Int32) m8 (by decide)) rfl (by decide +kernel) mwX12_number iwX12_number vwX12_number lk_12_295 (by omega) (by decide) rfl (by decide) rfl rfl (Nat.le_of_ble_eq_true rfl) (fun r9 m10 => ?_)
  refine Ev.run (pc' := 98) (ls' := [some (.ref 112), none, some (.long a2), none, some (.int r5), some (.int r9)]) (st' := [.int (m10.1 112 5)]) (m' := m10) [(.istore 5, 0, 0, 0, 0), (.aload_n 0, 0, 0, 0, 0), (.getfield 228, 12, 5, 0, 0)] (by decide +kernel) rfl ?_
  refine Ev.if_eq (t := 102) (by decide +kernel) ?_ ?_
  · refine Ev.run (pc' := 111) (ls' := [some (.ref 112), none, some (.long a2), none, some (.int r5), some (.int r9)]) (st' := [.long a2, .int (m10.1 112 35), .ref 138]) (m' := m10) [(.aload_n 0, 0, 0, 0, 0), (.getfield 90, 12, 37, 0, 0), (.aload_n 0, 0, 0, 0, 0), (.getfield 288, 12, 35, 0, 0), (.lload_n 2, 0, 0, 0, 0)] (by decide +kernel) rfl ?_
    refine Ev.last (n := 16) (by decide +kernel) (by decide) rfl ?_
    refine Ev.run (pc' := 124) (ls' := [some (.ref 112), none, some (.long a2), none, some (.int r5), some (.int r9)]) (st' := [.int r5, .int (3 * (m10.1 112 35)), .ref 139]) (m' := (m10.1, (ev_up m10.2 138 (m10.1 112 35).toNatClampNeg a2))) [(.aload_n 0, 0, 0, 0, 0), (.getfield 94, 12, 38, 0, 0), (.iconst 3, 0, 0, 3, 0), (.aload_n 0, 0, 0, 0, 0), (.getfield 288, 12, 35, 0, 0), (.imul, 0, 0, 0, 0), (.iload 4, 0, 0, 0, 0)] (by decide +kernel) rfl ?_
    refine Ev.iast (n := 24) (by decide +kernel) (by decide) rfl ?_
    refine Ev.run (pc' := 139) (ls' := [some (.ref 112), none, some (.long a2), none, some (.int r5), some (.int r9)]) (st' := [.int r9, .int ((3 * (m10.1 112 35)) + 1), .ref 139]) (m' := ((ev_up m10.1 139 (3 * (m10.1 112 35)).toNatClampNeg r5), (ev_up m10.2 138 (m10.1 112 35).toNatClampNeg a2))) [(.aload_n 0, 0, 0, 0, 0), (.getfield 94, 12, 38, 0, 0), (.iconst 3, 0, 0, 3, 0), (.aload_n 0, 0, 0, 0, 0), (.getfield 288, 12, 35, 0, 0), (.imul, 0, 0, 0, 0), (.iconst 1, 0, 0, 1, 0), (.iadd, 0, 0, 0, 0), (.iload 5, 0, 0, 0, 0)] (by decide +kernel) rfl ?_
    refine Ev.iast (n := 24) (by decide +kernel) (by decide) rfl ?_
    refine Ev.run (pc' := 153) (ls' := [some (.ref 112), none, some (.long a2), none, some (.int r5), some (.int r9)]) (st' := [.int 0, .int ((3 * (m10.1 112 35)) + 2), .ref 139]) (m' := ((ev_up (ev_up m10.1 139 (3 * (m10.1 112 35)).toNatClampNeg r5) 139 ((3 * (m10.1 112 35)) + 1).toNatClampNeg r9), (ev_up m10.2 138 (m10.1 112 35).toNatClampNeg a2))) [(.aload_n 0, 0, 0, 0, 0), (.getfield 94, 12, 38, 0, 0), (.iconst 3, 0, 0, 3, 0), (.aload_n 0, 0, 0, 0, 0), (.getfield 288, 12, 35, 0, 0), (.imul, 0, 0, 0, 0), (.iconst 2, 0, 0, 2, 0), (.iadd, 0, 0, 0, 0), (.iconst 0, 0, 0, 0, 0)] (by decide +kernel) rfl ?_
    refine Ev.iast (n := 24) (by decide +kernel) (by decide) rfl ?_
    refine Ev.run (pc' := 164) (ls' := [some (.ref 112), none, some (.long a2), none, some (.int r5), some (.int r9)]) (st' := []) (m' := ((ev_up (ev_up (ev_up (ev_up m10.1 139 (3 * (m10.1 112 35)).toNatClampNeg r5) 139 ((3 * (m10.1 112 35)) + 1).toNatClampNeg r9) 139 ((3 * (m10.1 112 35)) + 2).toNatClampNeg 0) 112 35 ((m10.1 112 35) + 1)), (ev_up m10.2 138 (m10.1 112 35).toNatClampNeg a2))) [(.aload_n 0, 0, 0, 0, 0), (.dup, 0, 0, 0, 0), (.getfield 288, 12, 35, 0, 0), (.iconst 1, 0, 0, 1, 0), (.iadd, 0, 0, 0, 0), (.putfield 288, 12, 35, 0, 0)] (by decide +kernel) rfl ?_
    exact Ev.retv rfl rfl (by decide +kernel)
  · exact Ev.retv rfl rfl (by decide +kernel)
set_option maxRecDepth 100000 in
set_option maxHeartbeats 4000000 in
theorem EX12_towerTold_J22 {l : Launch} {Ln : Nat} {xs : Nat → Int32} {d : Nat} (f : Nat)     (m : ev_M)   (hd : 4 ≤ d) : Ev ev_eV l Ln xs YX12_towerTold d Sx 22 [some (.ref 112), none, none, none, none, none] [] m (FX12_towerTold_J22 f m) := by
  unfold FX12_towerTold_J22
  refine Ev.run (pc' := 26) (ls' := [some (.ref 112), none, none, none, none, none]) (st' := [.int (m.1 112 5)]) (m' := m) [(.aload_n 0, 0, 0, 0, 0), (.getfield 228, 12, 5, 0, 0)] (by decide +kernel) rfl ?_
  refine Ev.if_eq (t := 30) (by decide +kernel) ?_ ?_
  · refine Ev.run (pc' := 31) (ls' := [some (.ref 112), none, none, none, none, none]) (st' := [.ref 112]) (m' := m) [(.aload_n 0, 0, 0, 0, 0)] (by decide +kernel) rfl ?_
    refine Ev.cV (av := []) (st := []) (a := 112) (EX12_name (l := l) (Ln := Ln) (xs := xs) (d := 3) f m (by decide)) rfl (by decide +kernel) mwX12_name iwX12_name vwX12_name lk_12_306 (by omega) (by decide) rfl (by decide) rfl rfl (Nat.le_of_ble_eq_true rfl) (fun r1 m2 => ?_)
    refine Ev.run (pc' := 39) (ls' := [some (.ref 112), none, some (.long r1), none, none, none]) (st' := [.int (m2.1 112 5)]) (m' := m2) [(.lstore_n 2, 0, 0, 0, 0), (.aload_n 0, 0, 0, 0, 0), (.getfield 228, 12, 5, 0, 0)] (by decide +kernel) rfl ?_
    refine Ev.if_ne (t := 60) (by decide +kernel) ?_ ?_
    · exact EX12_towerTold_J60 f r1 m2 (by omega)
    · refine Ev.run (pc' := 44) (ls' := [some (.ref 112), none, some (.long r1), none, none, none]) (st' := [.long r1, .ref 112]) (m' := m2) [(.aload_n 0, 0, 0, 0, 0), (.lload_n 2, 0, 0, 0, 0)] (by decide +kernel) rfl ?_
      refine Ev.cV (av := [.long r1]) (st := []) (a := 112) (EX12_nameOf (l := l) (Ln := Ln) (xs := xs) (d := 0) f r1 m2 (by decide)) rfl (by decide +kernel) mwX12_nameOf iwX12_nameOf vwX12_nameOf lk_12_310 (by omega) (by decide) rfl (by decide) rfl rfl (Nat.le_of_ble_eq_true rfl) (fun r11 m12 => ?_)
      refine Ev.run (pc' := 48) (ls' := [some (.ref 112), none, some (.long r1), none, none, none]) (st' := [.int (-1), .int r11]) (m' := m12) [(.iconst (-1), 0, 0, (-1), 0)] (by decide +kernel) rfl ?_
      refine Ev.ic_eq (t := 60) (by decide +kernel) ?_ ?_
      · exact EX12_towerTold_J60 f r1 m12 (by omega)
      · refine Ev.run (pc' := 57) (ls' := [some (.ref 112), none, some (.long r1), none, none, none]) (st' := [.int (m12.1 112 33), .int 3, .ref 112]) (m' := m12) [(.aload_n 0, 0, 0, 0, 0), (.iconst 3, 0, 0, 3, 0), (.aload_n 0, 0, 0, 0, 0), (.getfield 276, 12, 33, 0, 0)] (by decide +kernel) rfl ?_
        refine Ev.cV (av := [.int 3, .int (m12.1 112 33)]) (st := []) (a := 112) (EX12_fail (l := l) (Ln := Ln) (xs := xs) (d := 0) f (3 : Int32) (m12.1 112 33) m12 (by decide)) rfl (by decide +kernel) mwX12_fail iwX12_fail vwX12_fail lk_12_258 (by omega) (by decide) rfl (by decide) rfl rfl (Nat.le_of_ble_eq_true rfl) (fun r13 m14 => ?_)
        exact EX12_towerTold_J60 f r1 m14 (by omega)
  · exact Ev.retv rfl rfl (by decide +kernel)
set_option maxRecDepth 100000 in
set_option maxHeartbeats 4000000 in
theorem EX12_towerTold {l : Launch} {Ln : Nat} {xs : Nat → Int32} {d : Nat} (f : Nat) (a1 : Int32) (m : ev_M)  (hd : 4 ≤ d) : Mv ev_eV l Ln xs YX12_towerTold d Sx [.ref 112, .int a1] m (FX12_towerTold f a1 m) := by
  refine Mv.of (by decide +kernel) rfl (Nat.le_of_ble_eq_true rfl) (Ev.le (ls' := [some (.ref 112), some (.int a1), none, none, none, none]) ⟨rfl, ⟨rfl, trivial⟩⟩ ?_)
  unfold FX12_towerTold
  refine Ev.run (pc' := 4) (ls' := [some (.ref 112), some (.int a1), none, none, none, none]) (st' := [.int (m.1 112 5)]) (m' := m) [(.aload_n 0, 0, 0, 0, 0), (.getfield 228, 12, 5, 0, 0)] (by decide +kernel) rfl ?_
  refine Ev.if_ne (t := 22) (by decide +kernel) ?_ ?_
  · refine Ev.le (ls' := [some (.ref 112), none, none, none, none, none]) ⟨rfl, trivial⟩ ?_
    exact EX12_towerTold_J22 f m (by omega)
  · refine Ev.run (pc' := 13) (ls' := [some (.ref 112), some (.int a1), none, none, none, none]) (st' := [.int 8, .int (m.1 112 35)]) (m' := m) [(.aload_n 0, 0, 0, 0, 0), (.getfield 288, 12, 35, 0, 0), (.bipush 8, 0, 0, 8, 0)] (by decide +kernel) rfl ?_
    refine Ev.ic_ne (t := 22) (by decide +kernel) ?_ ?_
    · refine Ev.le (ls' := [some (.ref 112), none, none, none, none, none]) ⟨rfl, trivial⟩ ?_
      exact EX12_towerTold_J22 f m (by omega)
    · refine Ev.run (pc' := 19) (ls' := [some (.ref 112), some (.int a1), none, none, none, none]) (st' := [.int a1, .int 5, .ref 112]) (m' := m) [(.aload_n 0, 0, 0, 0, 0), (.iconst 5, 0, 0, 5, 0), (.iload_n 1, 0, 0, 0, 0)] (by decide +kernel) rfl ?_
      refine Ev.cV (av := [.int 5, .int a1]) (st := []) (a := 112) (EX12_fail (l := l) (Ln := Ln) (xs := xs) (d := 0) f (5 : Int32) a1 m (by decide)) rfl (by decide +kernel) mwX12_fail iwX12_fail vwX12_fail lk_12_258 (by omega) (by decide) rfl (by decide) rfl rfl (Nat.le_of_ble_eq_true rfl) (fun r15 m16 => ?_)
      refine Ev.le (ls' := [some (.ref 112), none, none, none, none, none]) ⟨rfl, trivial⟩ ?_
      exact EX12_towerTold_J22 f m16 (by omega)
def FX12_yesTold_J37 (f : Nat)   (a3 : Int32)  (m : ev_M) : Option (Unit × ev_M) :=
  (ev_bd (FX12_fail f (3 : Int32) (m.1 112 33) m) (fun _ m6 => (if (m6.1 112 5) = 0 then (if ev_in ((3 * a3) + 2) 24 then some ((), ((ev_up m6.1 139 ((3 * a3) + 2).toNatClampNeg 1), m6.2)) else none) else some ((), m6))))
def FX12_yesTold (f : Nat)  (m : ev_M) : Option (Unit × ev_M) :=
  (ev_bd (FX12_name f m) (fun r1 m2 => (ev_bd (FX12_nameOf f r1 m2) (fun r3 m4 => (if (m4.1 112 5) = 0 then (if r3 = (-1) then (FX12_yesTold_J37 f r3 m4) else (if ev_in ((3 * r3) + 2) 24 then (if (m4.1 139 ((3 * r3) + 2).toNatClampNeg) = 1 then (FX12_yesTold_J37 f r3 m4) else (if (m4.1 112 5) = 0 then (if ev_in ((3 * r3) + 2) 24 then some ((), ((ev_up m4.1 139 ((3 * r3) + 2).toNatClampNeg 1), m4.2)) else none) else some ((), m4))) else none)) else (if (m4.1 112 5) = 0 then (if ev_in ((3 * r3) + 2) 24 then some ((), ((ev_up m4.1 139 ((3 * r3) + 2).toNatClampNeg 1), m4.2)) else none) else some ((), m4)))))))
set_option maxRecDepth 100000 in
set_option maxHeartbeats 4000000 in
theorem EX12_yesTold_J37 {l : Launch} {Ln : Nat} {xs : Nat → Int32} {d : Nat} (f : Nat)   (a3 : Int32)  (m : ev_M)   (hd : 4 ≤ d) : Ev ev_eV l Ln xs YX12_yesTold d Sx 37 [some (.ref 112), none, none, some (.int a3)] [] m (FX12_yesTold_J37 f a3 m) := by
  unfold FX12_yesTold_J37
  refine Ev.run (pc' := 43) (ls' := [some (.ref 112), none, none, some (.int a3)]) (st' := [.int (m.1 112 33), .int 3, .ref 112]) (m' := m) [(.aload_n 0, 0, 0, 0, 0), (.iconst 3, 0, 0, 3, 0), (.aload_n 0, 0, 0, 0, 0), (.getfield 276, 12, 33, 0, 0)] (by decide +kernel) rfl ?_
  refine Ev.cV (av := [.int 3, .int (m.1 112 33)]) (st := []) (a := 112) (EX12_fail (l := l) (Ln := Ln) (xs := xs) (d := 0) f (3 : Int32) (m.1 112 33) m (by decide)) rfl (by decide +kernel) mwX12_fail iwX12_fail vwX12_fail lk_12_258 (by omega) (by decide) rfl (by decide) rfl rfl (Nat.le_of_ble_eq_true rfl) (fun r5 m6 => ?_)
  refine Ev.run (pc' := 50) (ls' := [some (.ref 112), none, none, some (.int a3)]) (st' := [.int (m6.1 112 5)]) (m' := m6) [(.aload_n 0, 0, 0, 0, 0), (.getfield 228, 12, 5, 0, 0)] (by decide +kernel) rfl ?_
  refine Ev.if_ne (t := 64) (by decide +kernel) ?_ ?_
  · exact Ev.retv rfl rfl (by decide +kernel)
  · refine Ev.run (pc' := 63) (ls' := [some (.ref 112), none, none, some (.int a3)]) (st' := [.int 1, .int ((3 * a3) + 2), .ref 139]) (m' := m6) [(.aload_n 0, 0, 0, 0, 0), (.getfield 94, 12, 38, 0, 0), (.iconst 3, 0, 0, 3, 0), (.iload_n 3, 0, 0, 0, 0), (.imul, 0, 0, 0, 0), (.iconst 2, 0, 0, 2, 0), (.iadd, 0, 0, 0, 0), (.iconst 1, 0, 0, 1, 0)] (by decide +kernel) rfl ?_
    refine Ev.iast (n := 24) (by decide +kernel) (by decide) rfl ?_
    exact Ev.retv rfl rfl (by decide +kernel)
set_option maxRecDepth 100000 in
set_option maxHeartbeats 4000000 in
theorem EX12_yesTold {l : Launch} {Ln : Nat} {xs : Nat → Int32} {d : Nat} (f : Nat)  (m : ev_M)  (hd : 4 ≤ d) : Mv ev_eV l Ln xs YX12_yesTold d Sx [.ref 112] m (FX12_yesTold f  m) := by
  refine Mv.of (by decide +kernel) rfl (Nat.le_of_ble_eq_true rfl) (Ev.le (ls' := [some (.ref 112), none, none, none]) ⟨rfl, trivial⟩ ?_)
  unfold FX12_yesTold
  refine Ev.run (pc' := 1) (ls' := [some (.ref 112), none, none, none]) (st' := [.ref 112]) (m' := m) [(.aload_n 0, 0, 0, 0, 0)] (by decide +kernel) rfl ?_
  refine Ev.cV (av := []) (st := []) (a := 112) (EX12_name (l := l) (Ln := Ln) (xs := xs) (d := 3) f m (by decide)) rfl (by decide +kernel) mwX12_name iwX12_name vwX12_name lk_12_306 (by omega) (by decide) rfl (by decide) rfl rfl (Nat.le_of_ble_eq_true rfl) (fun r1 m2 => ?_)
  refine Ev.run (pc' := 7) (ls' := [some (.ref 112), some (.long r1), none, none]) (st' := [.long r1, .ref 112]) (m' := m2) [(.lstore_n 1, 0, 0, 0, 0), (.aload_n 0, 0, 0, 0, 0), (.lload_n 1, 0, 0, 0, 0)] (by decide +kernel) rfl ?_
  refine Ev.cV (av := [.long r1]) (st := []) (a := 112) (EX12_nameOf (l := l) (Ln := Ln) (xs := xs) (d := 0) f r1 m2 (by decide)) rfl (by decide +kernel) mwX12_nameOf iwX12_nameOf vwX12_nameOf lk_12_310 (by omega) (by decide) rfl (by decide) rfl rfl (Nat.le_of_ble_eq_true rfl) (fun r3 m4 => ?_)
  refine Ev.run (pc' := 15) (ls' := [some (.ref 112), some (.long r1), none, some (.int r3)]) (st' := [.int (m4.1 112 5)]) (m' := m4) [(.istore_n 3, 0, 0, 0, 0), (.aload_n 0, 0, 0, 0, 0), (.getfield 228, 12, 5, 0, 0)] (by decide +kernel) rfl ?_
  refine Ev.if_ne (t := 46) (by decide +kernel) ?_ ?_
  · refine Ev.run (pc' := 50) (ls' := [some (.ref 112), some (.long r1), none, some (.int r3)]) (st' := [.int (m4.1 112 5)]) (m' := m4) [(.aload_n 0, 0, 0, 0, 0), (.getfield 228, 12, 5, 0, 0)] (by decide +kernel) rfl ?_
    refine Ev.if_ne (t := 64) (by decide +kernel) ?_ ?_
    · exact Ev.retv rfl rfl (by decide +kernel)
    · refine Ev.run (pc' := 63) (ls' := [some (.ref 112), some (.long r1), none, some (.int r3)]) (st' := [.int 1, .int ((3 * r3) + 2), .ref 139]) (m' := m4) [(.aload_n 0, 0, 0, 0, 0), (.getfield 94, 12, 38, 0, 0), (.iconst 3, 0, 0, 3, 0), (.iload_n 3, 0, 0, 0, 0), (.imul, 0, 0, 0, 0), (.iconst 2, 0, 0, 2, 0), (.iadd, 0, 0, 0, 0), (.iconst 1, 0, 0, 1, 0)] (by decide +kernel) rfl ?_
      refine Ev.iast (n := 24) (by decide +kernel) (by decide) rfl ?_
      exact Ev.retv rfl rfl (by decide +kernel)
  · refine Ev.run (pc' := 20) (ls' := [some (.ref 112), some (.long r1), none, some (.int r3)]) (st' := [.int (-1), .int r3]) (m' := m4) [(.iload_n 3, 0, 0, 0, 0), (.iconst (-1), 0, 0, (-1), 0)] (by decide +kernel) rfl ?_
    refine Ev.ic_eq (t := 37) (by decide +kernel) ?_ ?_
    · refine Ev.le (ls' := [some (.ref 112), none, none, some (.int r3)]) ⟨rfl, ⟨rfl, trivial⟩⟩ ?_
      exact EX12_yesTold_J37 f r3 m4 (by omega)
    · refine Ev.run (pc' := 32) (ls' := [some (.ref 112), some (.long r1), none, some (.int r3)]) (st' := [.int ((3 * r3) + 2), .ref 139]) (m' := m4) [(.aload_n 0, 0, 0, 0, 0), (.getfield 94, 12, 38, 0, 0), (.iconst 3, 0, 0, 3, 0), (.iload_n 3, 0, 0, 0, 0), (.imul, 0, 0, 0, 0), (.iconst 2, 0, 0, 2, 0), (.iadd, 0, 0, 0, 0)] (by decide +kernel) rfl ?_
      refine Ev.iald (n := 24) (by decide +kernel) (by decide) rfl ?_
      refine Ev.run (pc' := 34) (ls' := [some (.ref 112), some (.long r1), none, some (.int r3)]) (st' := [.int 1, .int (m4.1 139 ((3 * r3) + 2).toNatClampNeg)]) (m' := m4) [(.iconst 1, 0, 0, 1, 0)] (by decide +kernel) rfl ?_
      refine Ev.ic_ne (t := 46) (by decide +kernel) ?_ ?_
      · refine Ev.run (pc' := 50) (ls' := [some (.ref 112), some (.long r1), none, some (.int r3)]) (st' := [.int (m4.1 112 5)]) (m' := m4) [(.aload_n 0, 0, 0, 0, 0), (.getfield 228, 12, 5, 0, 0)] (by decide +kernel) rfl ?_
        refine Ev.if_ne (t := 64) (by decide +kernel) ?_ ?_
        · exact Ev.retv rfl rfl (by decide +kernel)
        · refine Ev.run (pc' := 63) (ls' := [some (.ref 112), some (.long r1), none, some (.int r3)]) (st' := [.int 1, .int ((3 * r3) + 2), .ref 139]) (m' := m4) [(.aload_n 0, 0, 0, 0, 0), (.getfield 94, 12, 38, 0, 0), (.iconst 3, 0, 0, 3, 0), (.iload_n 3, 0, 0, 0, 0), (.imul, 0, 0, 0, 0), (.iconst 2, 0, 0, 2, 0), (.iadd, 0, 0, 0, 0), (.iconst 1, 0, 0, 1, 0)] (by decide +kernel) rfl ?_
          refine Ev.iast (n := 24) (by decide +kernel) (by decide) rfl ?_
          exact Ev.retv rfl rfl (by decide +kernel)
      · refine Ev.le (ls' := [some (.ref 112), none, none, some (.int r3)]) ⟨rfl, ⟨rfl, trivial⟩⟩ ?_
        exact EX12_yesTold_J37 f r3 m4 (by omega)
def FX12_stands_L15 (f : Nat) (k : ev_M → Option (Unit × ev_M))   : Nat → Int32 → ev_M → Option (Unit × ev_M)
  | 0, _, _ => none
  | n + 1, a1, m => (if 8 ≤ a1 then (k m) else (if ev_in a1 16 then (if ev_in (8 + a1) 16 then (FX12_stands_L15 f k n (a1 + 1) (m.1, (ev_up m.2 138 (8 + a1).toNatClampNeg (m.2 138 a1.toNatClampNeg)))) else none) else none))
def FX12_stands_L44 (f : Nat) (k : ev_M → Option (Unit × ev_M))   : Nat → Int32 → ev_M → Option (Unit × ev_M)
  | 0, _, _ => none
  | n + 1, a1, m => (if 3 ≤ a1 then (k m) else (if ev_in a1 6 then (if ev_in (3 + a1) 6 then (FX12_stands_L44 f k n (a1 + 1) ((ev_up m.1 140 (3 + a1).toNatClampNeg (m.1 140 a1.toNatClampNeg)), m.2)) else none) else none))
def FX12_stands_L71 (f : Nat) (k : ev_M → Option (Unit × ev_M))   : Nat → Int32 → ev_M → Option (Unit × ev_M)
  | 0, _, _ => none
  | n + 1, a1, m => (if 2 ≤ a1 then (k m) else (if ev_in a1 4 then (if ev_in (2 + a1) 4 then (if ev_in a1 4 then (if ev_in (2 + a1) 4 then (FX12_stands_L71 f k n (a1 + 1) ((ev_up (ev_up m.1 141 (2 + a1).toNatClampNeg (m.1 141 a1.toNatClampNeg)) 142 (2 + a1).toNatClampNeg (m.1 142 a1.toNatClampNeg)), m.2)) else none) else none) else none) else none))
def FX12_stands_L112 (f : Nat) (k : ev_M → Option (Unit × ev_M))   : Nat → Int32 → ev_M → Option (Unit × ev_M)
  | 0, _, _ => none
  | n + 1, a1, m => (if (m.1 112 43) ≤ a1 then (k m) else (if ev_in a1 3200 then (if ev_in (1600 + a1) 3200 then (FX12_stands_L112 f k n (a1 + 1) ((ev_up m.1 143 (1600 + a1).toNatClampNeg (m.1 143 a1.toNatClampNeg)), m.2)) else none) else none))
def FX12_stands_L144 (f : Nat) (k : ev_M → Option (Unit × ev_M))   : Nat → Int32 → ev_M → Option (Unit × ev_M)
  | 0, _, _ => none
  | n + 1, a1, m => (if 147 ≤ a1 then (k m) else (if ev_in a1 147 then (FX12_stands_L144 f k n (a1 + 1) ((ev_up m.1 144 a1.toNatClampNeg 0), m.2)) else none))
def FX12_stands_L176 (f : Nat) (k : ev_M → Option (Unit × ev_M))   : Nat → Int32 → ev_M → Option (Unit × ev_M)
  | 0, _, _ => none
  | n + 1, a1, m => (if (3 * (m.1 112 36)) ≤ a1 then (k m) else (if ev_in a1 24 then (if ev_in (2 + a1) 147 then (FX12_stands_L176 f k n (a1 + 1) ((ev_up m.1 144 (2 + a1).toNatClampNeg (m.1 139 a1.toNatClampNeg)), m.2)) else none) else none))
def FX12_stands (f : Nat)  (m : ev_M) : Option (Unit × ev_M) :=
  (FX12_stands_L15 f (fun m1 => (FX12_stands_L44 f (fun m2 => (FX12_stands_L71 f (fun m3 => (FX12_stands_L112 f (fun m4 => (FX12_stands_L144 f (fun m5 => (FX12_stands_L176 f (fun m6 => some ((), ((ev_up (ev_up m6.1 112 64 0) 112 58 0), m6.2))) f (0 : Int32) ((ev_up m5.1 144 1 (m5.1 112 34)), m5.2))) f (0 : Int32) m4)) f (0 : Int32) m3)) f (0 : Int32) m2)) f (0 : Int32) m1)) f (0 : Int32) ((ev_up (ev_up m.1 112 45 1) 112 36 (m.1 112 35)), m.2))
set_option maxRecDepth 100000 in
set_option maxHeartbeats 4000000 in
theorem EX12_stands_L15 {l : Launch} {Ln : Nat} {xs : Nat → Int32} {d : Nat} (f : Nat) (k : ev_M → Option (Unit × ev_M))     (hk : ∀  (em : ev_M), Ev ev_eV l Ln xs YX12_stands d Sx 42 [some (.ref 112), none] [] em (k em)) (hd : 0 ≤ d) : ∀ (n : Nat) (a1 : Int32) (m : ev_M), Ev ev_eV l Ln xs YX12_stands d Sx 15 [some (.ref 112), some (.int a1)] [] m (FX12_stands_L15 f k n a1 m) := by
  intro n
  induction n with
  | zero => intros; exact Ev.nn
  | succ n ih =>
    intro a1 m
    rw [FX12_stands_L15]
    refine Ev.run (pc' := 18) (ls' := [some (.ref 112), some (.int a1)]) (st' := [.int 8, .int a1]) (m' := m) [(.iload_n 1, 0, 0, 0, 0), (.bipush 8, 0, 0, 8, 0)] (by decide +kernel) rfl ?_
    refine Ev.ic_ge (t := 42) (by decide +kernel) ?_ ?_
    · refine Ev.le (ls' := [some (.ref 112), none]) ⟨rfl, trivial⟩ ?_
      exact hk _
    · refine Ev.run (pc' := 34) (ls' := [some (.ref 112), some (.int a1)]) (st' := [.int a1, .ref 138, .int (8 + a1), .ref 138]) (m' := m) [(.aload_n 0, 0, 0, 0, 0), (.getfield 90, 12, 37, 0, 0), (.bipush 8, 0, 0, 8, 0), (.iload_n 1, 0, 0, 0, 0), (.iadd, 0, 0, 0, 0), (.aload_n 0, 0, 0, 0, 0), (.getfield 90, 12, 37, 0, 0), (.iload_n 1, 0, 0, 0, 0)] (by decide +kernel) rfl ?_
      refine Ev.lald (n := 16) (by decide +kernel) (by decide) rfl ?_
      refine Ev.last (n := 16) (by decide +kernel) (by decide) rfl ?_
      refine Ev.run (pc' := 39) (ls' := [some (.ref 112), some (.int (a1 + 1))]) (st' := []) (m' := (m.1, (ev_up m.2 138 (8 + a1).toNatClampNeg (m.2 138 a1.toNatClampNeg)))) [(.iinc 1 1, 0, 0, 1, 0)] (by decide +kernel) rfl ?_
      refine Ev.gto (t := 15) (by decide +kernel) ?_
      exact ih _ _
set_option maxRecDepth 100000 in
set_option maxHeartbeats 4000000 in
theorem EX12_stands_L44 {l : Launch} {Ln : Nat} {xs : Nat → Int32} {d : Nat} (f : Nat) (k : ev_M → Option (Unit × ev_M))     (hk : ∀  (em : ev_M), Ev ev_eV l Ln xs YX12_stands d Sx 69 [some (.ref 112), none] [] em (k em)) (hd : 0 ≤ d) : ∀ (n : Nat) (a1 : Int32) (m : ev_M), Ev ev_eV l Ln xs YX12_stands d Sx 44 [some (.ref 112), some (.int a1)] [] m (FX12_stands_L44 f k n a1 m) := by
  intro n
  induction n with
  | zero => intros; exact Ev.nn
  | succ n ih =>
    intro a1 m
    rw [FX12_stands_L44]
    refine Ev.run (pc' := 46) (ls' := [some (.ref 112), some (.int a1)]) (st' := [.int 3, .int a1]) (m' := m) [(.iload_n 1, 0, 0, 0, 0), (.iconst 3, 0, 0, 3, 0)] (by decide +kernel) rfl ?_
    refine Ev.ic_ge (t := 69) (by decide +kernel) ?_ ?_
    · refine Ev.le (ls' := [some (.ref 112), none]) ⟨rfl, trivial⟩ ?_
      exact hk _
    · refine Ev.run (pc' := 61) (ls' := [some (.ref 112), some (.int a1)]) (st' := [.int a1, .ref 140, .int (3 + a1), .ref 140]) (m' := m) [(.aload_n 0, 0, 0, 0, 0), (.getfield 97, 12, 39, 0, 0), (.iconst 3, 0, 0, 3, 0), (.iload_n 1, 0, 0, 0, 0), (.iadd, 0, 0, 0, 0), (.aload_n 0, 0, 0, 0, 0), (.getfield 97, 12, 39, 0, 0), (.iload_n 1, 0, 0, 0, 0)] (by decide +kernel) rfl ?_
      refine Ev.iald (n := 6) (by decide +kernel) (by decide) rfl ?_
      refine Ev.iast (n := 6) (by decide +kernel) (by decide) rfl ?_
      refine Ev.run (pc' := 66) (ls' := [some (.ref 112), some (.int (a1 + 1))]) (st' := []) (m' := ((ev_up m.1 140 (3 + a1).toNatClampNeg (m.1 140 a1.toNatClampNeg)), m.2)) [(.iinc 1 1, 0, 0, 1, 0)] (by decide +kernel) rfl ?_
      refine Ev.gto (t := 44) (by decide +kernel) ?_
      exact ih _ _
set_option maxRecDepth 100000 in
set_option maxHeartbeats 4000000 in
theorem EX12_stands_L71 {l : Launch} {Ln : Nat} {xs : Nat → Int32} {d : Nat} (f : Nat) (k : ev_M → Option (Unit × ev_M))     (hk : ∀  (em : ev_M), Ev ev_eV l Ln xs YX12_stands d Sx 110 [some (.ref 112), none] [] em (k em)) (hd : 0 ≤ d) : ∀ (n : Nat) (a1 : Int32) (m : ev_M), Ev ev_eV l Ln xs YX12_stands d Sx 71 [some (.ref 112), some (.int a1)] [] m (FX12_stands_L71 f k n a1 m) := by
  intro n
  induction n with
  | zero => intros; exact Ev.nn
  | succ n ih =>
    intro a1 m
    rw [FX12_stands_L71]
    refine Ev.run (pc' := 73) (ls' := [some (.ref 112), some (.int a1)]) (st' := [.int 2, .int a1]) (m' := m) [(.iload_n 1, 0, 0, 0, 0), (.iconst 2, 0, 0, 2, 0)] (by decide +kernel) rfl ?_
    refine Ev.ic_ge (t := 110) (by decide +kernel) ?_ ?_
    · refine Ev.le (ls' := [some (.ref 112), none]) ⟨rfl, trivial⟩ ?_
      exact hk _
    · refine Ev.run (pc' := 88) (ls' := [some (.ref 112), some (.int a1)]) (st' := [.int a1, .ref 141, .int (2 + a1), .ref 141]) (m' := m) [(.aload_n 0, 0, 0, 0, 0), (.getfield 100, 12, 40, 0, 0), (.iconst 2, 0, 0, 2, 0), (.iload_n 1, 0, 0, 0, 0), (.iadd, 0, 0, 0, 0), (.aload_n 0, 0, 0, 0, 0), (.getfield 100, 12, 40, 0, 0), (.iload_n 1, 0, 0, 0, 0)] (by decide +kernel) rfl ?_
      refine Ev.iald (n := 4) (by decide +kernel) (by decide) rfl ?_
      refine Ev.iast (n := 4) (by decide +kernel) (by decide) rfl ?_
      refine Ev.run (pc' := 102) (ls' := [some (.ref 112), some (.int a1)]) (st' := [.int a1, .ref 142, .int (2 + a1), .ref 142]) (m' := ((ev_up m.1 141 (2 + a1).toNatClampNeg (m.1 141 a1.toNatClampNeg)), m.2)) [(.aload_n 0, 0, 0, 0, 0), (.getfield 103, 12, 41, 0, 0), (.iconst 2, 0, 0, 2, 0), (.iload_n 1, 0, 0, 0, 0), (.iadd, 0, 0, 0, 0), (.aload_n 0, 0, 0, 0, 0), (.getfield 103, 12, 41, 0, 0), (.iload_n 1, 0, 0, 0, 0)] (by decide +kernel) rfl ?_
      refine Ev.iald (n := 4) (by decide +kernel) (by decide) rfl ?_
      refine Ev.iast (n := 4) (by decide +kernel) (by decide) rfl ?_
      refine Ev.run (pc' := 107) (ls' := [some (.ref 112), some (.int (a1 + 1))]) (st' := []) (m' := ((ev_up (ev_up m.1 141 (2 + a1).toNatClampNeg (m.1 141 a1.toNatClampNeg)) 142 (2 + a1).toNatClampNeg (m.1 142 a1.toNatClampNeg)), m.2)) [(.iinc 1 1, 0, 0, 1, 0)] (by decide +kernel) rfl ?_
      refine Ev.gto (t := 71) (by decide +kernel) ?_
      exact ih _ _
set_option maxRecDepth 100000 in
set_option maxHeartbeats 4000000 in
theorem EX12_stands_L112 {l : Launch} {Ln : Nat} {xs : Nat → Int32} {d : Nat} (f : Nat) (k : ev_M → Option (Unit × ev_M))     (hk : ∀  (em : ev_M), Ev ev_eV l Ln xs YX12_stands d Sx 142 [some (.ref 112), none] [] em (k em)) (hd : 0 ≤ d) : ∀ (n : Nat) (a1 : Int32) (m : ev_M), Ev ev_eV l Ln xs YX12_stands d Sx 112 [some (.ref 112), some (.int a1)] [] m (FX12_stands_L112 f k n a1 m) := by
  intro n
  induction n with
  | zero => intros; exact Ev.nn
  | succ n ih =>
    intro a1 m
    rw [FX12_stands_L112]
    refine Ev.run (pc' := 117) (ls' := [some (.ref 112), some (.int a1)]) (st' := [.int (m.1 112 43), .int a1]) (m' := m) [(.iload_n 1, 0, 0, 0, 0), (.aload_n 0, 0, 0, 0, 0), (.getfield 329, 12, 43, 0, 0)] (by decide +kernel) rfl ?_
    refine Ev.ic_ge (t := 142) (by decide +kernel) ?_ ?_
    · refine Ev.le (ls' := [some (.ref 112), none]) ⟨rfl, trivial⟩ ?_
      exact hk _
    · refine Ev.run (pc' := 134) (ls' := [some (.ref 112), some (.int a1)]) (st' := [.int a1, .ref 143, .int (1600 + a1), .ref 143]) (m' := m) [(.aload_n 0, 0, 0, 0, 0), (.getfield 106, 12, 42, 0, 0), (.sipush 1600, 0, 0, 1600, 0), (.iload_n 1, 0, 0, 0, 0), (.iadd, 0, 0, 0, 0), (.aload_n 0, 0, 0, 0, 0), (.getfield 106, 12, 42, 0, 0), (.iload_n 1, 0, 0, 0, 0)] (by decide +kernel) rfl ?_
      refine Ev.iald (n := 3200) (by decide +kernel) (by decide) rfl ?_
      refine Ev.iast (n := 3200) (by decide +kernel) (by decide) rfl ?_
      refine Ev.run (pc' := 139) (ls' := [some (.ref 112), some (.int (a1 + 1))]) (st' := []) (m' := ((ev_up m.1 143 (1600 + a1).toNatClampNeg (m.1 143 a1.toNatClampNeg)), m.2)) [(.iinc 1 1, 0, 0, 1, 0)] (by decide +kernel) rfl ?_
      refine Ev.gto (t := 112) (by decide +kernel) ?_
      exact ih _ _
set_option maxRecDepth 100000 in
set_option maxHeartbeats 4000000 in
theorem EX12_stands_L144 {l : Launch} {Ln : Nat} {xs : Nat → Int32} {d : Nat} (f : Nat) (k : ev_M → Option (Unit × ev_M))     (hk : ∀  (em : ev_M), Ev ev_eV l Ln xs YX12_stands d Sx 164 [some (.ref 112), none] [] em (k em)) (hd : 0 ≤ d) : ∀ (n : Nat) (a1 : Int32) (m : ev_M), Ev ev_eV l Ln xs YX12_stands d Sx 144 [some (.ref 112), some (.int a1)] [] m (FX12_stands_L144 f k n a1 m) := by
  intro n
  induction n with
  | zero => intros; exact Ev.nn
  | succ n ih =>
    intro a1 m
    rw [FX12_stands_L144]
    refine Ev.run (pc' := 148) (ls' := [some (.ref 112), some (.int a1)]) (st' := [.int 147, .int a1]) (m' := m) [(.iload_n 1, 0, 0, 0, 0), (.sipush 147, 0, 0, 147, 0)] (by decide +kernel) rfl ?_
    refine Ev.ic_ge (t := 164) (by decide +kernel) ?_ ?_
    · refine Ev.le (ls' := [some (.ref 112), none]) ⟨rfl, trivial⟩ ?_
      exact hk _
    · refine Ev.run (pc' := 157) (ls' := [some (.ref 112), some (.int a1)]) (st' := [.int 0, .int a1, .ref 144]) (m' := m) [(.aload_n 0, 0, 0, 0, 0), (.getfield 109, 12, 47, 0, 0), (.iload_n 1, 0, 0, 0, 0), (.iconst 0, 0, 0, 0, 0)] (by decide +kernel) rfl ?_
      refine Ev.iast (n := 147) (by decide +kernel) (by decide) rfl ?_
      refine Ev.run (pc' := 161) (ls' := [some (.ref 112), some (.int (a1 + 1))]) (st' := []) (m' := ((ev_up m.1 144 a1.toNatClampNeg 0), m.2)) [(.iinc 1 1, 0, 0, 1, 0)] (by decide +kernel) rfl ?_
      refine Ev.gto (t := 144) (by decide +kernel) ?_
      exact ih _ _
set_option maxRecDepth 100000 in
set_option maxHeartbeats 4000000 in
theorem EX12_stands_L176 {l : Launch} {Ln : Nat} {xs : Nat → Int32} {d : Nat} (f : Nat) (k : ev_M → Option (Unit × ev_M))     (hk : ∀  (em : ev_M), Ev ev_eV l Ln xs YX12_stands d Sx 206 [some (.ref 112), none] [] em (k em)) (hd : 0 ≤ d) : ∀ (n : Nat) (a1 : Int32) (m : ev_M), Ev ev_eV l Ln xs YX12_stands d Sx 176 [some (.ref 112), some (.int a1)] [] m (FX12_stands_L176 f k n a1 m) := by
  intro n
  induction n with
  | zero => intros; exact Ev.nn
  | succ n ih =>
    intro a1 m
    rw [FX12_stands_L176]
    refine Ev.run (pc' := 183) (ls' := [some (.ref 112), some (.int a1)]) (st' := [.int (3 * (m.1 112 36)), .int a1]) (m' := m) [(.iload_n 1, 0, 0, 0, 0), (.iconst 3, 0, 0, 3, 0), (.aload_n 0, 0, 0, 0, 0), (.getfield 360, 12, 36, 0, 0), (.imul, 0, 0, 0, 0)] (by decide +kernel) rfl ?_
    refine Ev.ic_ge (t := 206) (by decide +kernel) ?_ ?_
    · refine Ev.le (ls' := [some (.ref 112), none]) ⟨rfl, trivial⟩ ?_
      exact hk _
    · refine Ev.run (pc' := 198) (ls' := [some (.ref 112), some (.int a1)]) (st' := [.int a1, .ref 139, .int (2 + a1), .ref 144]) (m' := m) [(.aload_n 0, 0, 0, 0, 0), (.getfield 109, 12, 47, 0, 0), (.iconst 2, 0, 0, 2, 0), (.iload_n 1, 0, 0, 0, 0), (.iadd, 0, 0, 0, 0), (.aload_n 0, 0, 0, 0, 0), (.getfield 94, 12, 38, 0, 0), (.iload_n 1, 0, 0, 0, 0)] (by decide +kernel) rfl ?_
      refine Ev.iald (n := 24) (by decide +kernel) (by decide) rfl ?_
      refine Ev.iast (n := 147) (by decide +kernel) (by decide) rfl ?_
      refine Ev.run (pc' := 203) (ls' := [some (.ref 112), some (.int (a1 + 1))]) (st' := []) (m' := ((ev_up m.1 144 (2 + a1).toNatClampNeg (m.1 139 a1.toNatClampNeg)), m.2)) [(.iinc 1 1, 0, 0, 1, 0)] (by decide +kernel) rfl ?_
      refine Ev.gto (t := 176) (by decide +kernel) ?_
      exact ih _ _
set_option maxRecDepth 100000 in
set_option maxHeartbeats 4000000 in
theorem EX12_stands {l : Launch} {Ln : Nat} {xs : Nat → Int32} {d : Nat} (f : Nat)  (m : ev_M)  (hd : 0 ≤ d) : Mv ev_eV l Ln xs YX12_stands d Sx [.ref 112] m (FX12_stands f  m) := by
  refine Mv.of (by decide +kernel) rfl (Nat.le_of_ble_eq_true rfl) (Ev.le (ls' := [some (.ref 112), none]) ⟨rfl, trivial⟩ ?_)
  unfold FX12_stands
  refine Ev.run (pc' := 15) (ls' := [some (.ref 112), some (.int 0)]) (st' := []) (m' := ((ev_up (ev_up m.1 112 45 1) 112 36 (m.1 112 35)), m.2)) [(.aload_n 0, 0, 0, 0, 0), (.iconst 1, 0, 0, 1, 0), (.putfield 356, 12, 45, 0, 0), (.aload_n 0, 0, 0, 0, 0), (.aload_n 0, 0, 0, 0, 0), (.getfield 288, 12, 35, 0, 0), (.putfield 360, 12, 36, 0, 0), (.iconst 0, 0, 0, 0, 0), (.istore_n 1, 0, 0, 0, 0)] (by decide +kernel) rfl ?_
  refine EX12_stands_L15 f _ ?_ (by omega) _ _ _
  intro m1
  refine Ev.run (pc' := 44) (ls' := [some (.ref 112), some (.int 0)]) (st' := []) (m' := m1) [(.iconst 0, 0, 0, 0, 0), (.istore_n 1, 0, 0, 0, 0)] (by decide +kernel) rfl ?_
  refine EX12_stands_L44 f _ ?_ (by omega) _ _ _
  intro m2
  refine Ev.run (pc' := 71) (ls' := [some (.ref 112), some (.int 0)]) (st' := []) (m' := m2) [(.iconst 0, 0, 0, 0, 0), (.istore_n 1, 0, 0, 0, 0)] (by decide +kernel) rfl ?_
  refine EX12_stands_L71 f _ ?_ (by omega) _ _ _
  intro m3
  refine Ev.run (pc' := 112) (ls' := [some (.ref 112), some (.int 0)]) (st' := []) (m' := m3) [(.iconst 0, 0, 0, 0, 0), (.istore_n 1, 0, 0, 0, 0)] (by decide +kernel) rfl ?_
  refine EX12_stands_L112 f _ ?_ (by omega) _ _ _
  intro m4
  refine Ev.run (pc' := 144) (ls' := [some (.ref 112), some (.int 0)]) (st' := []) (m' := m4) [(.iconst 0, 0, 0, 0, 0), (.istore_n 1, 0, 0, 0, 0)] (by decide +kernel) rfl ?_
  refine EX12_stands_L144 f _ ?_ (by omega) _ _ _
  intro m5
  refine Ev.run (pc' := 173) (ls' := [some (.ref 112), none]) (st' := [.int (m5.1 112 34), .int 1, .ref 144]) (m' := m5) [(.aload_n 0, 0, 0, 0, 0), (.getfield 109, 12, 47, 0, 0), (.iconst 1, 0, 0, 1, 0), (.aload_n 0, 0, 0, 0, 0), (.getfield 299, 12, 34, 0, 0)] (by decide +kernel) rfl ?_
  refine Ev.iastK (n := 147) (j := 1) (by decide +kernel) (by decide) rfl rfl (by decide) ?_
  refine Ev.run (pc' := 176) (ls' := [some (.ref 112), some (.int 0)]) (st' := []) (m' := ((ev_up m5.1 144 1 (m5.1 112 34)), m5.2)) [(.iconst 0, 0, 0, 0, 0), (.istore_n 1, 0, 0, 0, 0)] (by decide +kernel) rfl ?_
  refine EX12_stands_L176 f _ ?_ (by omega) _ _ _
  intro m6
  refine Ev.run (pc' := 216) (ls' := [some (.ref 112), none]) (st' := []) (m' := ((ev_up (ev_up m6.1 112 64 0) 112 58 0), m6.2)) [(.aload_n 0, 0, 0, 0, 0), (.iconst 0, 0, 0, 0, 0), (.putfield 363, 12, 64, 0, 0), (.aload_n 0, 0, 0, 0, 0), (.iconst 0, 0, 0, 0, 0), (.putfield 366, 12, 58, 0, 0)] (by decide +kernel) rfl ?_
  exact Ev.retv rfl rfl (by decide +kernel)
def FX12_fault (f : Nat) (a1 : Int32) (m : ev_M) : Option (Int32 × ev_M) :=
  (if a1 = 0 then some ((m.1 112 7), m) else (if a1 = 1 then some ((m.1 112 8), m) else some ((-1), m)))
set_option maxRecDepth 100000 in
set_option maxHeartbeats 4000000 in
theorem EX12_fault {l : Launch} {Ln : Nat} {xs : Nat → Int32} {d : Nat} (f : Nat) (a1 : Int32) (m : ev_M)  (hd : 0 ≤ d) : Mv ev_eI l Ln xs YX12_fault d Sx [.ref 112, .int a1] m (FX12_fault f a1 m) := by
  refine Mv.of (by decide +kernel) rfl (Nat.le_of_ble_eq_true rfl) (Ev.le (ls' := [some (.ref 112), some (.int a1)]) ⟨rfl, ⟨rfl, trivial⟩⟩ ?_)
  unfold FX12_fault
  refine Ev.run (pc' := 1) (ls' := [some (.ref 112), some (.int a1)]) (st' := [.int a1]) (m' := m) [(.iload_n 1, 0, 0, 0, 0)] (by decide +kernel) rfl ?_
  refine Ev.if_ne (t := 11) (by decide +kernel) ?_ ?_
  · refine Ev.run (pc' := 13) (ls' := [some (.ref 112), some (.int a1)]) (st' := [.int 1, .int a1]) (m' := m) [(.iload_n 1, 0, 0, 0, 0), (.iconst 1, 0, 0, 1, 0)] (by decide +kernel) rfl ?_
    refine Ev.ic_ne (t := 23) (by decide +kernel) ?_ ?_
    · refine Ev.run (pc' := 24) (ls' := [some (.ref 112), some (.int a1)]) (st' := [.int (-1)]) (m' := m) [(.iconst (-1), 0, 0, (-1), 0)] (by decide +kernel) rfl ?_
      exact Ev.ireti rfl rfl (by decide +kernel)
    · refine Ev.run (pc' := 20) (ls' := [some (.ref 112), some (.int a1)]) (st' := [.int (m.1 112 8)]) (m' := m) [(.aload_n 0, 0, 0, 0, 0), (.getfield 13, 12, 8, 0, 0)] (by decide +kernel) rfl ?_
      refine Ev.gto (t := 24) (by decide +kernel) ?_
      exact Ev.ireti rfl rfl (by decide +kernel)
  · refine Ev.run (pc' := 8) (ls' := [some (.ref 112), some (.int a1)]) (st' := [.int (m.1 112 7)]) (m' := m) [(.aload_n 0, 0, 0, 0, 0), (.getfield 350, 12, 7, 0, 0)] (by decide +kernel) rfl ?_
    refine Ev.gto (t := 24) (by decide +kernel) ?_
    exact Ev.ireti rfl rfl (by decide +kernel)
def FX12_towerMany (f : Nat)  (m : ev_M) : Option (Int32 × ev_M) :=
  some ((m.1 112 36), m)
set_option maxRecDepth 100000 in
set_option maxHeartbeats 4000000 in
theorem EX12_towerMany {l : Launch} {Ln : Nat} {xs : Nat → Int32} {d : Nat} (f : Nat)  (m : ev_M)  (hd : 0 ≤ d) : Mv ev_eI l Ln xs YX12_towerMany d Sx [.ref 112] m (FX12_towerMany f  m) := by
  refine Mv.of (by decide +kernel) rfl (Nat.le_of_ble_eq_true rfl) (Ev.le (ls' := [some (.ref 112)]) ⟨rfl, trivial⟩ ?_)
  unfold FX12_towerMany
  refine Ev.run (pc' := 4) (ls' := [some (.ref 112)]) (st' := [.int (m.1 112 36)]) (m' := m) [(.aload_n 0, 0, 0, 0, 0), (.getfield 360, 12, 36, 0, 0)] (by decide +kernel) rfl ?_
  exact Ev.ireti rfl rfl (by decide +kernel)
def FX12_isTower (f : Nat) (a1 : Int32) (m : ev_M) : Option (Int32 × ev_M) :=
  (ev_bd (FX12_towerMany f m) (fun r1 m2 => (ev_bd (FX12_isIn f (a1 : Int32).toInt64 (0 : Int64) ((r1 - 1) : Int32).toInt64 m2) (fun r3 m4 => (if r3 = 0 ∨ r3 = 1 then some (r3, m4) else none)))))
set_option maxRecDepth 100000 in
set_option maxHeartbeats 4000000 in
theorem EX12_isTower {l : Launch} {Ln : Nat} {xs : Nat → Int32} {d : Nat} (f : Nat) (a1 : Int32) (m : ev_M)  (hd : 1 ≤ d) : Mv ev_eI l Ln xs YX12_isTower d Sx [.ref 112, .int a1] m (FX12_isTower f a1 m) := by
  refine Mv.of (by decide +kernel) rfl (Nat.le_of_ble_eq_true rfl) (Ev.le (ls' := [some (.ref 112), some (.int a1)]) ⟨rfl, ⟨rfl, trivial⟩⟩ ?_)
  unfold FX12_isTower
  refine Ev.run (pc' := 4) (ls' := [some (.ref 112), some (.int a1)]) (st' := [.ref 112, .long 0, .long (a1 : Int32).toInt64]) (m' := m) [(.iload_n 1, 0, 0, 0, 0), (.i2l, 0, 0, 0, 0), (.lconst 0, 0, 0, 0, 0), (.aload_n 0, 0, 0, 0, 0)] (by decide +kernel) rfl ?_
  refine Ev.cV (av := []) (st := [.long 0, .long (a1 : Int32).toInt64]) (a := 112) (EX12_towerMany (l := l) (Ln := Ln) (xs := xs) (d := 0) f m (by decide)) rfl (by decide +kernel) mwX12_towerMany iwX12_towerMany vwX12_towerMany lk_12_369 (by omega) (by decide) rfl (by decide) rfl rfl (Nat.le_of_ble_eq_true rfl) (fun r1 m2 => ?_)
  refine Ev.run (pc' := 10) (ls' := [some (.ref 112), some (.int a1)]) (st' := [.long ((r1 - 1) : Int32).toInt64, .long 0, .long (a1 : Int32).toInt64]) (m' := m2) [(.iconst 1, 0, 0, 1, 0), (.isub, 0, 0, 0, 0), (.i2l, 0, 0, 0, 0)] (by decide +kernel) rfl ?_
  refine Ev.cS (av := [.long (a1 : Int32).toInt64, .long 0, .long ((r1 - 1) : Int32).toInt64]) (st := []) (EX12_isIn (l := l) (Ln := Ln) (xs := xs) (d := 0) f (a1 : Int32).toInt64 (0 : Int64) ((r1 - 1) : Int32).toInt64 m2 (by decide)) rfl (by decide +kernel) mwX12_isIn swX12_isIn lk_12_268 (by omega) rfl (Nat.le_of_ble_eq_true rfl) (fun r3 m4 => ?_)
  exact Ev.iretb rfl rfl (by decide +kernel)
def FX12_moodOf (f : Nat) (a1 : Int32) (m : ev_M) : Option (Int32 × ev_M) :=
  (if ev_in (2 + (3 * a1)) 147 then some ((m.1 144 (2 + (3 * a1)).toNatClampNeg), m) else none)
set_option maxRecDepth 100000 in
set_option maxHeartbeats 4000000 in
theorem EX12_moodOf {l : Launch} {Ln : Nat} {xs : Nat → Int32} {d : Nat} (f : Nat) (a1 : Int32) (m : ev_M)  (hd : 0 ≤ d) : Mv ev_eI l Ln xs YX12_moodOf d Sx [.ref 112, .int a1] m (FX12_moodOf f a1 m) := by
  refine Mv.of (by decide +kernel) rfl (Nat.le_of_ble_eq_true rfl) (Ev.le (ls' := [some (.ref 112), some (.int a1)]) ⟨rfl, ⟨rfl, trivial⟩⟩ ?_)
  unfold FX12_moodOf
  refine Ev.run (pc' := 9) (ls' := [some (.ref 112), some (.int a1)]) (st' := [.int (2 + (3 * a1)), .ref 144]) (m' := m) [(.aload_n 0, 0, 0, 0, 0), (.getfield 109, 12, 47, 0, 0), (.iconst 2, 0, 0, 2, 0), (.iconst 3, 0, 0, 3, 0), (.iload_n 1, 0, 0, 0, 0), (.imul, 0, 0, 0, 0), (.iadd, 0, 0, 0, 0)] (by decide +kernel) rfl ?_
  refine Ev.iald (n := 147) (by decide +kernel) (by decide) rfl ?_
  exact Ev.ireti rfl rfl (by decide +kernel)
def FX12_cheerOf (f : Nat) (a1 : Int32) (m : ev_M) : Option (Int32 × ev_M) :=
  (if ev_in ((2 + (3 * a1)) + 1) 147 then some ((m.1 144 ((2 + (3 * a1)) + 1).toNatClampNeg), m) else none)
set_option maxRecDepth 100000 in
set_option maxHeartbeats 4000000 in
theorem EX12_cheerOf {l : Launch} {Ln : Nat} {xs : Nat → Int32} {d : Nat} (f : Nat) (a1 : Int32) (m : ev_M)  (hd : 0 ≤ d) : Mv ev_eI l Ln xs YX12_cheerOf d Sx [.ref 112, .int a1] m (FX12_cheerOf f a1 m) := by
  refine Mv.of (by decide +kernel) rfl (Nat.le_of_ble_eq_true rfl) (Ev.le (ls' := [some (.ref 112), some (.int a1)]) ⟨rfl, ⟨rfl, trivial⟩⟩ ?_)
  unfold FX12_cheerOf
  refine Ev.run (pc' := 11) (ls' := [some (.ref 112), some (.int a1)]) (st' := [.int ((2 + (3 * a1)) + 1), .ref 144]) (m' := m) [(.aload_n 0, 0, 0, 0, 0), (.getfield 109, 12, 47, 0, 0), (.iconst 2, 0, 0, 2, 0), (.iconst 3, 0, 0, 3, 0), (.iload_n 1, 0, 0, 0, 0), (.imul, 0, 0, 0, 0), (.iadd, 0, 0, 0, 0), (.iconst 1, 0, 0, 1, 0), (.iadd, 0, 0, 0, 0)] (by decide +kernel) rfl ?_
  refine Ev.iald (n := 147) (by decide +kernel) (by decide) rfl ?_
  exact Ev.ireti rfl rfl (by decide +kernel)
def FX12_isYes (f : Nat) (a1 : Int32) (m : ev_M) : Option (Int32 × ev_M) :=
  (if ev_in ((2 + (3 * a1)) + 2) 147 then (if (m.1 144 ((2 + (3 * a1)) + 2).toNatClampNeg) = 1 then some (1, m) else some (0, m)) else none)
set_option maxRecDepth 100000 in
set_option maxHeartbeats 4000000 in
theorem EX12_isYes {l : Launch} {Ln : Nat} {xs : Nat → Int32} {d : Nat} (f : Nat) (a1 : Int32) (m : ev_M)  (hd : 0 ≤ d) : Mv ev_eI l Ln xs YX12_isYes d Sx [.ref 112, .int a1] m (FX12_isYes f a1 m) := by
  refine Mv.of (by decide +kernel) rfl (Nat.le_of_ble_eq_true rfl) (Ev.le (ls' := [some (.ref 112), some (.int a1)]) ⟨rfl, ⟨rfl, trivial⟩⟩ ?_)
  unfold FX12_isYes
  refine Ev.run (pc' := 11) (ls' := [some (.ref 112), some (.int a1)]) (st' := [.int ((2 + (3 * a1)) + 2), .ref 144]) (m' := m) [(.aload_n 0, 0, 0, 0, 0), (.getfield 109, 12, 47, 0, 0), (.iconst 2, 0, 0, 2, 0), (.iconst 3, 0, 0, 3, 0), (.iload_n 1, 0, 0, 0, 0), (.imul, 0, 0, 0, 0), (.iadd, 0, 0, 0, 0), (.iconst 2, 0, 0, 2, 0), (.iadd, 0, 0, 0, 0)] (by decide +kernel) rfl ?_
  refine Ev.iald (n := 147) (by decide +kernel) (by decide) rfl ?_
  refine Ev.run (pc' := 13) (ls' := [some (.ref 112), some (.int a1)]) (st' := [.int 1, .int (m.1 144 ((2 + (3 * a1)) + 2).toNatClampNeg)]) (m' := m) [(.iconst 1, 0, 0, 1, 0)] (by decide +kernel) rfl ?_
  refine Ev.ic_ne (t := 20) (by decide +kernel) ?_ ?_
  · refine Ev.run (pc' := 21) (ls' := [some (.ref 112), some (.int a1)]) (st' := [.int 0]) (m' := m) [(.iconst 0, 0, 0, 0, 0)] (by decide +kernel) rfl ?_
    exact Ev.iretz rfl rfl (by decide +kernel) (by decide)
  · refine Ev.run (pc' := 17) (ls' := [some (.ref 112), some (.int a1)]) (st' := [.int 1]) (m' := m) [(.iconst 1, 0, 0, 1, 0)] (by decide +kernel) rfl ?_
    refine Ev.gto (t := 21) (by decide +kernel) ?_
    exact Ev.iretz rfl rfl (by decide +kernel) (by decide)
def FX12_cut (f : Nat) (a0 : Int64) (m : ev_M) : Option (Int32 × ev_M) :=
  (if 0 ≤ (lg_cmp a0 0) then (if (lg_cmp a0 9) ≤ 0 then some ((a0 : Int64).toInt32, m) else some (9, m)) else some (0, m))
set_option maxRecDepth 100000 in
set_option maxHeartbeats 4000000 in
theorem EX12_cut {l : Launch} {Ln : Nat} {xs : Nat → Int32} {d : Nat} (f : Nat) (a0 : Int64) (m : ev_M)  (hd : 0 ≤ d) : Mv ev_eI l Ln xs YX12_cut d Sx [.long a0] m (FX12_cut f a0 m) := by
  refine Mv.of (by decide +kernel) rfl (Nat.le_of_ble_eq_true rfl) (Ev.le (ls' := [some (.long a0), none]) ⟨rfl, trivial⟩ ?_)
  unfold FX12_cut
  refine Ev.run (pc' := 3) (ls' := [some (.long a0), none]) (st' := [.int (lg_cmp a0 0)]) (m' := m) [(.lload_n 0, 0, 0, 0, 0), (.lconst 0, 0, 0, 0, 0), (.lcmp, 0, 0, 0, 0)] (by decide +kernel) rfl ?_
  refine Ev.if_ge (t := 10) (by decide +kernel) ?_ ?_
  · refine Ev.run (pc' := 15) (ls' := [some (.long a0), none]) (st' := [.int (lg_cmp a0 9)]) (m' := m) [(.lload_n 0, 0, 0, 0, 0), (.ldc2_w 386, 0, 0, 0, 9), (.lcmp, 0, 0, 0, 0)] (by decide +kernel) rfl ?_
    refine Ev.if_le (t := 23) (by decide +kernel) ?_ ?_
    · refine Ev.run (pc' := 25) (ls' := [some (.long a0), none]) (st' := [.int (a0 : Int64).toInt32]) (m' := m) [(.lload_n 0, 0, 0, 0, 0), (.l2i, 0, 0, 0, 0)] (by decide +kernel) rfl ?_
      exact Ev.ireti rfl rfl (by decide +kernel)
    · refine Ev.run (pc' := 20) (ls' := [some (.long a0), none]) (st' := [.int 9]) (m' := m) [(.bipush 9, 0, 0, 9, 0)] (by decide +kernel) rfl ?_
      refine Ev.gto (t := 25) (by decide +kernel) ?_
      exact Ev.ireti rfl rfl (by decide +kernel)
  · refine Ev.run (pc' := 7) (ls' := [some (.long a0), none]) (st' := [.int 0]) (m' := m) [(.iconst 0, 0, 0, 0, 0)] (by decide +kernel) rfl ?_
    refine Ev.gto (t := 25) (by decide +kernel) ?_
    exact Ev.ireti rfl rfl (by decide +kernel)
def FX12_isDoubt (f : Nat) (a1 : Int32) (m : ev_M) : Option (Int32 × ev_M) :=
  (if ev_in a1 8 then (if (m.1 140 3) ≤ (m.1 146 a1.toNatClampNeg) then some (0, m) else some (1, m)) else none)
set_option maxRecDepth 100000 in
set_option maxHeartbeats 4000000 in
theorem EX12_isDoubt {l : Launch} {Ln : Nat} {xs : Nat → Int32} {d : Nat} (f : Nat) (a1 : Int32) (m : ev_M)  (hd : 0 ≤ d) : Mv ev_eI l Ln xs YX12_isDoubt d Sx [.ref 112, .int a1] m (FX12_isDoubt f a1 m) := by
  refine Mv.of (by decide +kernel) rfl (Nat.le_of_ble_eq_true rfl) (Ev.le (ls' := [some (.ref 112), some (.int a1)]) ⟨rfl, ⟨rfl, trivial⟩⟩ ?_)
  unfold FX12_isDoubt
  refine Ev.run (pc' := 5) (ls' := [some (.ref 112), some (.int a1)]) (st' := [.int a1, .ref 146]) (m' := m) [(.aload_n 0, 0, 0, 0, 0), (.getfield 115, 12, 52, 0, 0), (.iload_n 1, 0, 0, 0, 0)] (by decide +kernel) rfl ?_
  refine Ev.iald (n := 8) (by decide +kernel) (by decide) rfl ?_
  refine Ev.run (pc' := 11) (ls' := [some (.ref 112), some (.int a1)]) (st' := [.int 3, .ref 140, .int (m.1 146 a1.toNatClampNeg)]) (m' := m) [(.aload_n 0, 0, 0, 0, 0), (.getfield 97, 12, 39, 0, 0), (.iconst 3, 0, 0, 3, 0)] (by decide +kernel) rfl ?_
  refine Ev.ialdK (n := 6) (j := 3) (by decide +kernel) (by decide) rfl rfl (by decide) ?_
  refine Ev.ic_ge (t := 19) (by decide +kernel) ?_ ?_
  · refine Ev.run (pc' := 20) (ls' := [some (.ref 112), some (.int a1)]) (st' := [.int 0]) (m' := m) [(.iconst 0, 0, 0, 0, 0)] (by decide +kernel) rfl ?_
    exact Ev.iretz rfl rfl (by decide +kernel) (by decide)
  · refine Ev.run (pc' := 16) (ls' := [some (.ref 112), some (.int a1)]) (st' := [.int 1]) (m' := m) [(.iconst 1, 0, 0, 1, 0)] (by decide +kernel) rfl ?_
    refine Ev.gto (t := 20) (by decide +kernel) ?_
    exact Ev.iretz rfl rfl (by decide +kernel) (by decide)
def FX12_rowAt_L26 (f : Nat) (k : Int32 → ev_M → Option (Int32 × ev_M))  (a1 : Int32) : Nat → Int32 → ev_M → Option (Int32 × ev_M)
  | 0, _, _ => none
  | n + 1, a2, m => (ev_bd (FX12_towerMany f m) (fun r3 m4 => (if r3 ≤ (a1 + a2) then (k a2 m4) else (ev_bd (FX12_isDoubt f (a1 + a2) m4) (fun r5 m6 => (if r5 = 0 then (k a2 m6) else (FX12_rowAt_L26 f k a1 n (a2 + 1) m6)))))))
def FX12_rowAt_J24 (f : Nat)   (a1 : Int32)  (m : ev_M) : Option (Int32 × ev_M) :=
  (FX12_rowAt_L26 f (fun e7 m8 => some (e7, m8)) a1 f (0 : Int32) m)
def FX12_rowAt (f : Nat) (a1 : Int32) (m : ev_M) : Option (Int32 × ev_M) :=
  (ev_bd (FX12_isDoubt f a1 m) (fun r1 m2 => (if r1 = 0 then some (0, m2) else (if a1 ≤ 0 then (FX12_rowAt_J24 f a1 m2) else (ev_bd (FX12_isDoubt f (a1 - 1) m2) (fun r9 m10 => (if r9 = 0 then (FX12_rowAt_J24 f a1 m10) else some (0, m10))))))))
set_option maxRecDepth 100000 in
set_option maxHeartbeats 4000000 in
theorem EX12_rowAt_L26 {l : Launch} {Ln : Nat} {xs : Nat → Int32} {d : Nat} (f : Nat) (k : Int32 → ev_M → Option (Int32 × ev_M))  (a1 : Int32)   (hk : ∀ (e2 : Int32) (em : ev_M), Ev ev_eI l Ln xs YX12_rowAt d Sx 52 [none, none, some (.int e2)] [] em (k e2 em)) (hd : 1 ≤ d) : ∀ (n : Nat) (a2 : Int32) (m : ev_M), Ev ev_eI l Ln xs YX12_rowAt d Sx 26 [some (.ref 112), some (.int a1), some (.int a2)] [] m (FX12_rowAt_L26 f k a1 n a2 m) := by
  intro n
  induction n with
  | zero => intros; exact Ev.nn
  | succ n ih =>
    intro a2 m
    rw [FX12_rowAt_L26]
    refine Ev.run (pc' := 30) (ls' := [some (.ref 112), some (.int a1), some (.int a2)]) (st' := [.ref 112, .int (a1 + a2)]) (m' := m) [(.iload_n 1, 0, 0, 0, 0), (.iload_n 2, 0, 0, 0, 0), (.iadd, 0, 0, 0, 0), (.aload_n 0, 0, 0, 0, 0)] (by decide +kernel) rfl ?_
    refine Ev.cV (av := []) (st := [.int (a1 + a2)]) (a := 112) (EX12_towerMany (l := l) (Ln := Ln) (xs := xs) (d := 0) f m (by decide)) rfl (by decide +kernel) mwX12_towerMany iwX12_towerMany vwX12_towerMany lk_12_369 (by omega) (by decide) rfl (by decide) rfl rfl (Nat.le_of_ble_eq_true rfl) (fun r3 m4 => ?_)
    refine Ev.ic_ge (t := 52) (by decide +kernel) ?_ ?_
    · refine Ev.le (ls' := [none, none, some (.int a2)]) ⟨rfl, trivial⟩ ?_
      exact hk _ _
    · refine Ev.run (pc' := 40) (ls' := [some (.ref 112), some (.int a1), some (.int a2)]) (st' := [.int (a1 + a2), .ref 112]) (m' := m4) [(.aload_n 0, 0, 0, 0, 0), (.iload_n 1, 0, 0, 0, 0), (.iload_n 2, 0, 0, 0, 0), (.iadd, 0, 0, 0, 0)] (by decide +kernel) rfl ?_
      refine Ev.cV (av := [.int (a1 + a2)]) (st := []) (a := 112) (EX12_isDoubt (l := l) (Ln := Ln) (xs := xs) (d := 0) f (a1 + a2) m4 (by decide)) rfl (by decide +kernel) mwX12_isDoubt iwX12_isDoubt vwX12_isDoubt lk_12_410 (by omega) (by decide) rfl (by decide) rfl rfl (Nat.le_of_ble_eq_true rfl) (fun r5 m6 => ?_)
      refine Ev.if_eq (t := 52) (by decide +kernel) ?_ ?_
      · refine Ev.le (ls' := [none, none, some (.int a2)]) ⟨rfl, trivial⟩ ?_
        exact hk _ _
      · refine Ev.run (pc' := 49) (ls' := [some (.ref 112), some (.int a1), some (.int (a2 + 1))]) (st' := []) (m' := m6) [(.iinc 2 1, 0, 0, 1, 0)] (by decide +kernel) rfl ?_
        refine Ev.gto (t := 26) (by decide +kernel) ?_
        exact ih _ _
set_option maxRecDepth 100000 in
set_option maxHeartbeats 4000000 in
theorem EX12_rowAt_J24 {l : Launch} {Ln : Nat} {xs : Nat → Int32} {d : Nat} (f : Nat)   (a1 : Int32)  (m : ev_M)   (hd : 1 ≤ d) : Ev ev_eI l Ln xs YX12_rowAt d Sx 24 [some (.ref 112), some (.int a1), none] [] m (FX12_rowAt_J24 f a1 m) := by
  unfold FX12_rowAt_J24
  refine Ev.run (pc' := 26) (ls' := [some (.ref 112), some (.int a1), some (.int 0)]) (st' := []) (m' := m) [(.iconst 0, 0, 0, 0, 0), (.istore_n 2, 0, 0, 0, 0)] (by decide +kernel) rfl ?_
  refine EX12_rowAt_L26 f _ a1 ?_ (by omega) _ _ _
  intro e7 m8
  refine Ev.run (pc' := 53) (ls' := [none, none, some (.int e7)]) (st' := [.int e7]) (m' := m8) [(.iload_n 2, 0, 0, 0, 0)] (by decide +kernel) rfl ?_
  exact Ev.ireti rfl rfl (by decide +kernel)
set_option maxRecDepth 100000 in
set_option maxHeartbeats 4000000 in
theorem EX12_rowAt {l : Launch} {Ln : Nat} {xs : Nat → Int32} {d : Nat} (f : Nat) (a1 : Int32) (m : ev_M)  (hd : 1 ≤ d) : Mv ev_eI l Ln xs YX12_rowAt d Sx [.ref 112, .int a1] m (FX12_rowAt f a1 m) := by
  refine Mv.of (by decide +kernel) rfl (Nat.le_of_ble_eq_true rfl) (Ev.le (ls' := [some (.ref 112), some (.int a1), none]) ⟨rfl, ⟨rfl, trivial⟩⟩ ?_)
  unfold FX12_rowAt
  refine Ev.run (pc' := 2) (ls' := [some (.ref 112), some (.int a1), none]) (st' := [.int a1, .ref 112]) (m' := m) [(.aload_n 0, 0, 0, 0, 0), (.iload_n 1, 0, 0, 0, 0)] (by decide +kernel) rfl ?_
  refine Ev.cV (av := [.int a1]) (st := []) (a := 112) (EX12_isDoubt (l := l) (Ln := Ln) (xs := xs) (d := 0) f a1 m (by decide)) rfl (by decide +kernel) mwX12_isDoubt iwX12_isDoubt vwX12_isDoubt lk_12_410 (by omega) (by decide) rfl (by decide) rfl rfl (Nat.le_of_ble_eq_true rfl) (fun r1 m2 => ?_)
  refine Ev.if_eq (t := 22) (by decide +kernel) ?_ ?_
  · refine Ev.run (pc' := 23) (ls' := [some (.ref 112), some (.int a1), none]) (st' := [.int 0]) (m' := m2) [(.iconst 0, 0, 0, 0, 0)] (by decide +kernel) rfl ?_
    exact Ev.ireti rfl rfl (by decide +kernel)
  · refine Ev.run (pc' := 9) (ls' := [some (.ref 112), some (.int a1), none]) (st' := [.int a1]) (m' := m2) [(.iload_n 1, 0, 0, 0, 0)] (by decide +kernel) rfl ?_
    refine Ev.if_le (t := 24) (by decide +kernel) ?_ ?_
    · exact EX12_rowAt_J24 f a1 m2 (by omega)
    · refine Ev.run (pc' := 16) (ls' := [some (.ref 112), some (.int a1), none]) (st' := [.int (a1 - 1), .ref 112]) (m' := m2) [(.aload_n 0, 0, 0, 0, 0), (.iload_n 1, 0, 0, 0, 0), (.iconst 1, 0, 0, 1, 0), (.isub, 0, 0, 0, 0)] (by decide +kernel) rfl ?_
      refine Ev.cV (av := [.int (a1 - 1)]) (st := []) (a := 112) (EX12_isDoubt (l := l) (Ln := Ln) (xs := xs) (d := 0) f (a1 - 1) m2 (by decide)) rfl (by decide +kernel) mwX12_isDoubt iwX12_isDoubt vwX12_isDoubt lk_12_410 (by omega) (by decide) rfl (by decide) rfl rfl (Nat.le_of_ble_eq_true rfl) (fun r9 m10 => ?_)
      refine Ev.if_eq (t := 24) (by decide +kernel) ?_ ?_
      · exact EX12_rowAt_J24 f a1 m10 (by omega)
      · refine Ev.run (pc' := 23) (ls' := [some (.ref 112), some (.int a1), none]) (st' := [.int 0]) (m' := m10) [(.iconst 0, 0, 0, 0, 0)] (by decide +kernel) rfl ?_
        exact Ev.ireti rfl rfl (by decide +kernel)
def FX12_rowOf_L2 (f : Nat) (k : ev_M → Option (Int32 × ev_M))  (a1 : Int32) : Nat → Int32 → ev_M → Option (Int32 × ev_M)
  | 0, _, _ => none
  | n + 1, a2, m => (ev_bd (FX12_towerMany f m) (fun r1 m2 => (if r1 ≤ a2 then (k m2) else (ev_bd (FX12_rowAt f a2 m2) (fun r3 m4 => (if r3 < a1 then (FX12_rowOf_L2 f k a1 n (a2 + 1) m4) else some (a2, m4)))))))
def FX12_rowOf (f : Nat) (a1 : Int32) (m : ev_M) : Option (Int32 × ev_M) :=
  (FX12_rowOf_L2 f (fun m5 => some ((-1), m5)) a1 f (0 : Int32) m)
set_option maxRecDepth 100000 in
set_option maxHeartbeats 4000000 in
theorem EX12_rowOf_L2 {l : Launch} {Ln : Nat} {xs : Nat → Int32} {d : Nat} (f : Nat) (k : ev_M → Option (Int32 × ev_M))  (a1 : Int32)   (hk : ∀  (em : ev_M), Ev ev_eI l Ln xs YX12_rowOf d Sx 27 [none, none, none] [] em (k em)) (hd : 2 ≤ d) : ∀ (n : Nat) (a2 : Int32) (m : ev_M), Ev ev_eI l Ln xs YX12_rowOf d Sx 2 [some (.ref 112), some (.int a1), some (.int a2)] [] m (FX12_rowOf_L2 f k a1 n a2 m) := by
  intro n
  induction n with
  | zero => intros; exact Ev.nn
  | succ n ih =>
    intro a2 m
    rw [FX12_rowOf_L2]
    refine Ev.run (pc' := 4) (ls' := [some (.ref 112), some (.int a1), some (.int a2)]) (st' := [.ref 112, .int a2]) (m' := m) [(.iload_n 2, 0, 0, 0, 0), (.aload_n 0, 0, 0, 0, 0)] (by decide +kernel) rfl ?_
    refine Ev.cV (av := []) (st := [.int a2]) (a := 112) (EX12_towerMany (l := l) (Ln := Ln) (xs := xs) (d := 0) f m (by decide)) rfl (by decide +kernel) mwX12_towerMany iwX12_towerMany vwX12_towerMany lk_12_369 (by omega) (by decide) rfl (by decide) rfl rfl (Nat.le_of_ble_eq_true rfl) (fun r1 m2 => ?_)
    refine Ev.ic_ge (t := 27) (by decide +kernel) ?_ ?_
    · refine Ev.le (ls' := [none, none, none]) trivial ?_
      exact hk _
    · refine Ev.run (pc' := 12) (ls' := [some (.ref 112), some (.int a1), some (.int a2)]) (st' := [.int a2, .ref 112]) (m' := m2) [(.aload_n 0, 0, 0, 0, 0), (.iload_n 2, 0, 0, 0, 0)] (by decide +kernel) rfl ?_
      refine Ev.cV (av := [.int a2]) (st := []) (a := 112) (EX12_rowAt (l := l) (Ln := Ln) (xs := xs) (d := 1) f a2 m2 (by decide)) rfl (by decide +kernel) mwX12_rowAt iwX12_rowAt vwX12_rowAt lk_12_413 (by omega) (by decide) rfl (by decide) rfl rfl (Nat.le_of_ble_eq_true rfl) (fun r3 m4 => ?_)
      refine Ev.run (pc' := 16) (ls' := [some (.ref 112), some (.int a1), some (.int a2)]) (st' := [.int a1, .int r3]) (m' := m4) [(.iload_n 1, 0, 0, 0, 0)] (by decide +kernel) rfl ?_
      refine Ev.ic_lt (t := 21) (by decide +kernel) ?_ ?_
      · refine Ev.run (pc' := 24) (ls' := [some (.ref 112), some (.int a1), some (.int (a2 + 1))]) (st' := []) (m' := m4) [(.iinc 2 1, 0, 0, 1, 0)] (by decide +kernel) rfl ?_
        refine Ev.gto (t := 2) (by decide +kernel) ?_
        exact ih _ _
      · refine Ev.run (pc' := 20) (ls' := [some (.ref 112), some (.int a1), some (.int a2)]) (st' := [.int a2]) (m' := m4) [(.iload_n 2, 0, 0, 0, 0)] (by decide +kernel) rfl ?_
        exact Ev.ireti rfl rfl (by decide +kernel)
set_option maxRecDepth 100000 in
set_option maxHeartbeats 4000000 in
theorem EX12_rowOf {l : Launch} {Ln : Nat} {xs : Nat → Int32} {d : Nat} (f : Nat) (a1 : Int32) (m : ev_M)  (hd : 2 ≤ d) : Mv ev_eI l Ln xs YX12_rowOf d Sx [.ref 112, .int a1] m (FX12_rowOf f a1 m) := by
  refine Mv.of (by decide +kernel) rfl (Nat.le_of_ble_eq_true rfl) (Ev.le (ls' := [some (.ref 112), some (.int a1), none]) ⟨rfl, ⟨rfl, trivial⟩⟩ ?_)
  unfold FX12_rowOf
  refine Ev.run (pc' := 2) (ls' := [some (.ref 112), some (.int a1), some (.int 0)]) (st' := []) (m' := m) [(.iconst 0, 0, 0, 0, 0), (.istore_n 2, 0, 0, 0, 0)] (by decide +kernel) rfl ?_
  refine EX12_rowOf_L2 f _ a1 ?_ (by omega) _ _ _
  intro m5
  refine Ev.run (pc' := 28) (ls' := [none, none, none]) (st' := [.int (-1)]) (m' := m5) [(.iconst (-1), 0, 0, (-1), 0)] (by decide +kernel) rfl ?_
  exact Ev.ireti rfl rfl (by decide +kernel)
def FX12_doubtsNow_J23 (f : Nat) (kt4 : Int32 → Int32 → ev_M → Option (Int32 × ev_M))  (a1 : Int32) (a2 : Int32)  (m : ev_M) : Option (Int32 × ev_M) :=
  (kt4 a1 (a2 + 1) m)
def FX12_doubtsNow_L4 (f : Nat) (k : Int32 → ev_M → Option (Int32 × ev_M))   : Nat → Int32 → Int32 → ev_M → Option (Int32 × ev_M)
  | 0, _, _, _ => none
  | n + 1, a1, a2, m => (ev_bd (FX12_towerMany f m) (fun r1 m2 => (if r1 ≤ a2 then (k a1 m2) else (ev_bd (FX12_isDoubt f a2 m2) (fun r3 m4 => (if r3 = 0 then (FX12_doubtsNow_J23 f (FX12_doubtsNow_L4 f k n) a1 a2 m4) else (FX12_doubtsNow_J23 f (FX12_doubtsNow_L4 f k n) (a1 + 1) a2 m4)))))))
def FX12_doubtsNow (f : Nat)  (m : ev_M) : Option (Int32 × ev_M) :=
  (FX12_doubtsNow_L4 f (fun e5 m6 => some (e5, m6)) f (0 : Int32) (0 : Int32) m)
set_option maxRecDepth 100000 in
set_option maxHeartbeats 4000000 in
theorem EX12_doubtsNow_J23 {l : Launch} {Ln : Nat} {xs : Nat → Int32} {d : Nat} (f : Nat) (kt4 : Int32 → Int32 → ev_M → Option (Int32 × ev_M))  (a1 : Int32) (a2 : Int32)  (m : ev_M)  (hkt4 : ∀ (e1 : Int32) (e2 : Int32) (em : ev_M), Ev ev_eI l Ln xs YX12_doubtsNow d Sx 4 [some (.ref 112), some (.int e1), some (.int e2)] [] em (kt4 e1 e2 em)) (hd : 1 ≤ d) : Ev ev_eI l Ln xs YX12_doubtsNow d Sx 23 [some (.ref 112), some (.int a1), some (.int a2)] [] m (FX12_doubtsNow_J23 f kt4 a1 a2 m) := by
  unfold FX12_doubtsNow_J23
  refine Ev.run (pc' := 26) (ls' := [some (.ref 112), some (.int a1), some (.int (a2 + 1))]) (st' := []) (m' := m) [(.iinc 2 1, 0, 0, 1, 0)] (by decide +kernel) rfl ?_
  refine Ev.gto (t := 4) (by decide +kernel) ?_
  exact hkt4 _ _ _
set_option maxRecDepth 100000 in
set_option maxHeartbeats 4000000 in
theorem EX12_doubtsNow_L4 {l : Launch} {Ln : Nat} {xs : Nat → Int32} {d : Nat} (f : Nat) (k : Int32 → ev_M → Option (Int32 × ev_M))     (hk : ∀ (e1 : Int32) (em : ev_M), Ev ev_eI l Ln xs YX12_doubtsNow d Sx 29 [none, some (.int e1), none] [] em (k e1 em)) (hd : 1 ≤ d) : ∀ (n : Nat) (a1 : Int32) (a2 : Int32) (m : ev_M), Ev ev_eI l Ln xs YX12_doubtsNow d Sx 4 [some (.ref 112), some (.int a1), some (.int a2)] [] m (FX12_doubtsNow_L4 f k n a1 a2 m) := by
  intro n
  induction n with
  | zero => intros; exact Ev.nn
  | succ n ih =>
    intro a1 a2 m
    rw [FX12_doubtsNow_L4]
    refine Ev.run (pc' := 6) (ls' := [some (.ref 112), some (.int a1), some (.int a2)]) (st' := [.ref 112, .int a2]) (m' := m) [(.iload_n 2, 0, 0, 0, 0), (.aload_n 0, 0, 0, 0, 0)] (by decide +kernel) rfl ?_
    refine Ev.cV (av := []) (st := [.int a2]) (a := 112) (EX12_towerMany (l := l) (Ln := Ln) (xs := xs) (d := 0) f m (by decide)) rfl (by decide +kernel) mwX12_towerMany iwX12_towerMany vwX12_towerMany lk_12_369 (by omega) (by decide) rfl (by decide) rfl rfl (Nat.le_of_ble_eq_true rfl) (fun r1 m2 => ?_)
    refine Ev.ic_ge (t := 29) (by decide +kernel) ?_ ?_
    · refine Ev.le (ls' := [none, some (.int a1), none]) ⟨rfl, trivial⟩ ?_
      exact hk _ _
    · refine Ev.run (pc' := 14) (ls' := [some (.ref 112), some (.int a1), some (.int a2)]) (st' := [.int a2, .ref 112]) (m' := m2) [(.aload_n 0, 0, 0, 0, 0), (.iload_n 2, 0, 0, 0, 0)] (by decide +kernel) rfl ?_
      refine Ev.cV (av := [.int a2]) (st := []) (a := 112) (EX12_isDoubt (l := l) (Ln := Ln) (xs := xs) (d := 0) f a2 m2 (by decide)) rfl (by decide +kernel) mwX12_isDoubt iwX12_isDoubt vwX12_isDoubt lk_12_410 (by omega) (by decide) rfl (by decide) rfl rfl (Nat.le_of_ble_eq_true rfl) (fun r3 m4 => ?_)
      refine Ev.if_eq (t := 23) (by decide +kernel) ?_ ?_
      · exact EX12_doubtsNow_J23 f (FX12_doubtsNow_L4 f k n) a1 a2 m4 ih (by omega)
      · refine Ev.run (pc' := 23) (ls' := [some (.ref 112), some (.int (a1 + 1)), some (.int a2)]) (st' := []) (m' := m4) [(.iinc 1 1, 0, 0, 1, 0)] (by decide +kernel) rfl ?_
        exact EX12_doubtsNow_J23 f (FX12_doubtsNow_L4 f k n) (a1 + 1) a2 m4 ih (by omega)
set_option maxRecDepth 100000 in
set_option maxHeartbeats 4000000 in
theorem EX12_doubtsNow {l : Launch} {Ln : Nat} {xs : Nat → Int32} {d : Nat} (f : Nat)  (m : ev_M)  (hd : 1 ≤ d) : Mv ev_eI l Ln xs YX12_doubtsNow d Sx [.ref 112] m (FX12_doubtsNow f  m) := by
  refine Mv.of (by decide +kernel) rfl (Nat.le_of_ble_eq_true rfl) (Ev.le (ls' := [some (.ref 112), none, none]) ⟨rfl, trivial⟩ ?_)
  unfold FX12_doubtsNow
  refine Ev.run (pc' := 4) (ls' := [some (.ref 112), some (.int 0), some (.int 0)]) (st' := []) (m' := m) [(.iconst 0, 0, 0, 0, 0), (.istore_n 1, 0, 0, 0, 0), (.iconst 0, 0, 0, 0, 0), (.istore_n 2, 0, 0, 0, 0)] (by decide +kernel) rfl ?_
  refine EX12_doubtsNow_L4 f _ ?_ (by omega) _ _ _ _
  intro e5 m6
  refine Ev.run (pc' := 30) (ls' := [none, some (.int e5), none]) (st' := [.int e5]) (m' := m6) [(.iload_n 1, 0, 0, 0, 0)] (by decide +kernel) rfl ?_
  exact Ev.ireti rfl rfl (by decide +kernel)
def FX12_isKept_J64 (f : Nat)   (a1 : Int32) (a2 : Int32)  (m : ev_M) : Option (Unit × ev_M) :=
  (if ev_in ((27 + (3 * (m.1 144 26))) - 3) 147 then (if ev_in (((27 + (3 * (m.1 144 26))) - 3) + 1) 147 then (if ev_in (((27 + (3 * (m.1 144 26))) - 3) + 2) 147 then some ((), ((ev_up (ev_up (ev_up m.1 144 ((27 + (3 * (m.1 144 26))) - 3).toNatClampNeg (m.1 144 0)) 144 (((27 + (3 * (m.1 144 26))) - 3) + 1).toNatClampNeg a1) 144 (((27 + (3 * (m.1 144 26))) - 3) + 2).toNatClampNeg a2), m.2)) else none) else none) else none)
def FX12_isKept_L23 (f : Nat) (k : ev_M → Option (Unit × ev_M))   : Nat → Int32 → ev_M → Option (Unit × ev_M)
  | 0, _, _ => none
  | n + 1, a3, m => (if 144 ≤ a3 then (k m) else (if ev_in (a3 + 3) 147 then (if ev_in a3 147 then (FX12_isKept_L23 f k n (a3 + 1) ((ev_up m.1 144 a3.toNatClampNeg (m.1 144 (a3 + 3).toNatClampNeg)), m.2)) else none) else none))
def FX12_isKept (f : Nat) (a1 : Int32) (a2 : Int32) (m : ev_M) : Option (Unit × ev_M) :=
  (if (m.1 112 54) = 0 then (if (m.1 144 26) = 40 then (FX12_isKept_L23 f (fun m1 => (FX12_isKept_J64 f a1 a2 m1)) f (27 : Int32) m) else (FX12_isKept_J64 f a1 a2 ((ev_up m.1 144 26 ((m.1 144 26) + 1)), m.2))) else some ((), m))
set_option maxRecDepth 100000 in
set_option maxHeartbeats 4000000 in
theorem EX12_isKept_J64 {l : Launch} {Ln : Nat} {xs : Nat → Int32} {d : Nat} (f : Nat)   (a1 : Int32) (a2 : Int32)  (m : ev_M)   (hd : 0 ≤ d) : Ev ev_eV l Ln xs YX12_isKept d Sx 64 [some (.ref 112), some (.int a1), some (.int a2), none] [] m (FX12_isKept_J64 f a1 a2 m) := by
  unfold FX12_isKept_J64
  refine Ev.run (pc' := 73) (ls' := [some (.ref 112), some (.int a1), some (.int a2), none]) (st' := [.int 26, .ref 144, .int 3, .int 27]) (m' := m) [(.bipush 27, 0, 0, 27, 0), (.iconst 3, 0, 0, 3, 0), (.aload_n 0, 0, 0, 0, 0), (.getfield 109, 12, 47, 0, 0), (.bipush 26, 0, 0, 26, 0)] (by decide +kernel) rfl ?_
  refine Ev.ialdK (n := 147) (j := 26) (by decide +kernel) (by decide) rfl rfl (by decide) ?_
  refine Ev.run (pc' := 89) (ls' := [some (.ref 112), some (.int a1), some (.int a2), some (.int ((27 + (3 * (m.1 144 26))) - 3))]) (st' := [.int 0, .ref 144, .int ((27 + (3 * (m.1 144 26))) - 3), .ref 144]) (m' := m) [(.imul, 0, 0, 0, 0), (.iadd, 0, 0, 0, 0), (.iconst 3, 0, 0, 3, 0), (.isub, 0, 0, 0, 0), (.istore_n 3, 0, 0, 0, 0), (.aload_n 0, 0, 0, 0, 0), (.getfield 109, 12, 47, 0, 0), (.iload_n 3, 0, 0, 0, 0), (.aload_n 0, 0, 0, 0, 0), (.getfield 109, 12, 47, 0, 0), (.iconst 0, 0, 0, 0, 0)] (by decide +kernel) rfl ?_
  refine Ev.ialdK (n := 147) (j := 0) (by decide +kernel) (by decide) rfl rfl (by decide) ?_
  refine Ev.iast (n := 147) (by decide +kernel) (by decide) rfl ?_
  refine Ev.run (pc' := 99) (ls' := [some (.ref 112), some (.int a1), some (.int a2), some (.int ((27 + (3 * (m.1 144 26))) - 3))]) (st' := [.int a1, .int (((27 + (3 * (m.1 144 26))) - 3) + 1), .ref 144]) (m' := ((ev_up m.1 144 ((27 + (3 * (m.1 144 26))) - 3).toNatClampNeg (m.1 144 0)), m.2)) [(.aload_n 0, 0, 0, 0, 0), (.getfield 109, 12, 47, 0, 0), (.iload_n 3, 0, 0, 0, 0), (.iconst 1, 0, 0, 1, 0), (.iadd, 0, 0, 0, 0), (.iload_n 1, 0, 0, 0, 0)] (by decide +kernel) rfl ?_
  refine Ev.iast (n := 147) (by decide +kernel) (by decide) rfl ?_
  refine Ev.run (pc' := 108) (ls' := [some (.ref 112), some (.int a1), some (.int a2), some (.int ((27 + (3 * (m.1 144 26))) - 3))]) (st' := [.int a2, .int (((27 + (3 * (m.1 144 26))) - 3) + 2), .ref 144]) (m' := ((ev_up (ev_up m.1 144 ((27 + (3 * (m.1 144 26))) - 3).toNatClampNeg (m.1 144 0)) 144 (((27 + (3 * (m.1 144 26))) - 3) + 1).toNatClampNeg a1), m.2)) [(.aload_n 0, 0, 0, 0, 0), (.getfield 109, 12, 47, 0, 0), (.iload_n 3, 0, 0, 0, 0), (.iconst 2, 0, 0, 2, 0), (.iadd, 0, 0, 0, 0), (.iload_n 2, 0, 0, 0, 0)] (by decide +kernel) rfl ?_
  refine Ev.iast (n := 147) (by decide +kernel) (by decide) rfl ?_
  exact Ev.retv rfl rfl (by decide +kernel)
set_option maxRecDepth 100000 in
set_option maxHeartbeats 4000000 in
theorem EX12_isKept_L23 {l : Launch} {Ln : Nat} {xs : Nat → Int32} {d : Nat} (f : Nat) (k : ev_M → Option (Unit × ev_M))  (a1 : Int32) (a2 : Int32)   (hk : ∀  (em : ev_M), Ev ev_eV l Ln xs YX12_isKept d Sx 50 [some (.ref 112), some (.int a1), some (.int a2), none] [] em (k em)) (hd : 0 ≤ d) : ∀ (n : Nat) (a3 : Int32) (m : ev_M), Ev ev_eV l Ln xs YX12_isKept d Sx 23 [some (.ref 112), some (.int a1), some (.int a2), some (.int a3)] [] m (FX12_isKept_L23 f k n a3 m) := by
  intro n
  induction n with
  | zero => intros; exact Ev.nn
  | succ n ih =>
    intro a3 m
    rw [FX12_isKept_L23]
    refine Ev.run (pc' := 27) (ls' := [some (.ref 112), some (.int a1), some (.int a2), some (.int a3)]) (st' := [.int 144, .int a3]) (m' := m) [(.iload_n 3, 0, 0, 0, 0), (.sipush 144, 0, 0, 144, 0)] (by decide +kernel) rfl ?_
    refine Ev.ic_ge (t := 50) (by decide +kernel) ?_ ?_
    · refine Ev.le (ls' := [some (.ref 112), some (.int a1), some (.int a2), none]) ⟨rfl, ⟨rfl, ⟨rfl, trivial⟩⟩⟩ ?_
      exact hk _
    · refine Ev.run (pc' := 42) (ls' := [some (.ref 112), some (.int a1), some (.int a2), some (.int a3)]) (st' := [.int (a3 + 3), .ref 144, .int a3, .ref 144]) (m' := m) [(.aload_n 0, 0, 0, 0, 0), (.getfield 109, 12, 47, 0, 0), (.iload_n 3, 0, 0, 0, 0), (.aload_n 0, 0, 0, 0, 0), (.getfield 109, 12, 47, 0, 0), (.iload_n 3, 0, 0, 0, 0), (.iconst 3, 0, 0, 3, 0), (.iadd, 0, 0, 0, 0)] (by decide +kernel) rfl ?_
      refine Ev.iald (n := 147) (by decide +kernel) (by decide) rfl ?_
      refine Ev.iast (n := 147) (by decide +kernel) (by decide) rfl ?_
      refine Ev.run (pc' := 47) (ls' := [some (.ref 112), some (.int a1), some (.int a2), some (.int (a3 + 1))]) (st' := []) (m' := ((ev_up m.1 144 a3.toNatClampNeg (m.1 144 (a3 + 3).toNatClampNeg)), m.2)) [(.iinc 3 1, 0, 0, 1, 0)] (by decide +kernel) rfl ?_
      refine Ev.gto (t := 23) (by decide +kernel) ?_
      exact ih _ _
set_option maxRecDepth 100000 in
set_option maxHeartbeats 4000000 in
theorem EX12_isKept {l : Launch} {Ln : Nat} {xs : Nat → Int32} {d : Nat} (f : Nat) (a1 : Int32) (a2 : Int32) (m : ev_M)  (hd : 0 ≤ d) : Mv ev_eV l Ln xs YX12_isKept d Sx [.ref 112, .int a1, .int a2] m (FX12_isKept f a1 a2 m) := by
  refine Mv.of (by decide +kernel) rfl (Nat.le_of_ble_eq_true rfl) (Ev.le (ls' := [some (.ref 112), some (.int a1), some (.int a2), none]) ⟨rfl, ⟨rfl, ⟨rfl, trivial⟩⟩⟩ ?_)
  unfold FX12_isKept
  refine Ev.run (pc' := 4) (ls' := [some (.ref 112), some (.int a1), some (.int a2), none]) (st' := [.int (m.1 112 54)]) (m' := m) [(.aload_n 0, 0, 0, 0, 0), (.getfield 416, 12, 54, 0, 0)] (by decide +kernel) rfl ?_
  refine Ev.if_eq (t := 8) (by decide +kernel) ?_ ?_
  · refine Ev.run (pc' := 14) (ls' := [some (.ref 112), some (.int a1), some (.int a2), none]) (st' := [.int 26, .ref 144]) (m' := m) [(.aload_n 0, 0, 0, 0, 0), (.getfield 109, 12, 47, 0, 0), (.bipush 26, 0, 0, 26, 0)] (by decide +kernel) rfl ?_
    refine Ev.ialdK (n := 147) (j := 26) (by decide +kernel) (by decide) rfl rfl (by decide) ?_
    refine Ev.run (pc' := 17) (ls' := [some (.ref 112), some (.int a1), some (.int a2), none]) (st' := [.int 40, .int (m.1 144 26)]) (m' := m) [(.bipush 40, 0, 0, 40, 0)] (by decide +kernel) rfl ?_
    refine Ev.ic_ne (t := 53) (by decide +kernel) ?_ ?_
    · refine Ev.run (pc' := 60) (ls' := [some (.ref 112), some (.int a1), some (.int a2), none]) (st' := [.int 26, .ref 144, .int 26, .ref 144]) (m' := m) [(.aload_n 0, 0, 0, 0, 0), (.getfield 109, 12, 47, 0, 0), (.bipush 26, 0, 0, 26, 0), (.dup2, 0, 0, 0, 0)] (by decide +kernel) rfl ?_
      refine Ev.ialdK (n := 147) (j := 26) (by decide +kernel) (by decide) rfl rfl (by decide) ?_
      refine Ev.run (pc' := 63) (ls' := [some (.ref 112), some (.int a1), some (.int a2), none]) (st' := [.int ((m.1 144 26) + 1), .int 26, .ref 144]) (m' := m) [(.iconst 1, 0, 0, 1, 0), (.iadd, 0, 0, 0, 0)] (by decide +kernel) rfl ?_
      refine Ev.iastK (n := 147) (j := 26) (by decide +kernel) (by decide) rfl rfl (by decide) ?_
      exact EX12_isKept_J64 f a1 a2 ((ev_up m.1 144 26 ((m.1 144 26) + 1)), m.2) (by omega)
    · refine Ev.run (pc' := 23) (ls' := [some (.ref 112), some (.int a1), some (.int a2), some (.int 27)]) (st' := []) (m' := m) [(.bipush 27, 0, 0, 27, 0), (.istore_n 3, 0, 0, 0, 0)] (by decide +kernel) rfl ?_
      refine EX12_isKept_L23 f _ a1 a2 ?_ (by omega) _ _ _
      intro m1
      refine Ev.gto (t := 64) (by decide +kernel) ?_
      exact EX12_isKept_J64 f a1 a2 m1 (by omega)
  · exact Ev.retv rfl rfl (by decide +kernel)
def FX12_putsAside_L7 (f : Nat) (k : ev_M → Option (Unit × ev_M))   : Nat → Int32 → ev_M → Option (Unit × ev_M)
  | 0, _, _ => none
  | n + 1, a1, m => (if 26 ≤ a1 then (k m) else (if ev_in a1 147 then (if ev_in a1 26 then (FX12_putsAside_L7 f k n (a1 + 1) ((ev_up m.1 145 a1.toNatClampNeg (m.1 144 a1.toNatClampNeg)), m.2)) else none) else none))
def FX12_putsAside (f : Nat)  (m : ev_M) : Option (Unit × ev_M) :=
  (FX12_putsAside_L7 f (fun m1 => some ((), ((ev_up (ev_up m1.1 112 55 0) 112 56 0), m1.2))) f (0 : Int32) ((ev_up m.1 112 54 1), m.2))
set_option maxRecDepth 100000 in
set_option maxHeartbeats 4000000 in
theorem EX12_putsAside_L7 {l : Launch} {Ln : Nat} {xs : Nat → Int32} {d : Nat} (f : Nat) (k : ev_M → Option (Unit × ev_M))     (hk : ∀  (em : ev_M), Ev ev_eV l Ln xs YX12_putsAside d Sx 31 [some (.ref 112), none] [] em (k em)) (hd : 0 ≤ d) : ∀ (n : Nat) (a1 : Int32) (m : ev_M), Ev ev_eV l Ln xs YX12_putsAside d Sx 7 [some (.ref 112), some (.int a1)] [] m (FX12_putsAside_L7 f k n a1 m) := by
  intro n
  induction n with
  | zero => intros; exact Ev.nn
  | succ n ih =>
    intro a1 m
    rw [FX12_putsAside_L7]
    refine Ev.run (pc' := 10) (ls' := [some (.ref 112), some (.int a1)]) (st' := [.int 26, .int a1]) (m' := m) [(.iload_n 1, 0, 0, 0, 0), (.bipush 26, 0, 0, 26, 0)] (by decide +kernel) rfl ?_
    refine Ev.ic_ge (t := 31) (by decide +kernel) ?_ ?_
    · refine Ev.le (ls' := [some (.ref 112), none]) ⟨rfl, trivial⟩ ?_
      exact hk _
    · refine Ev.run (pc' := 23) (ls' := [some (.ref 112), some (.int a1)]) (st' := [.int a1, .ref 144, .int a1, .ref 145]) (m' := m) [(.aload_n 0, 0, 0, 0, 0), (.getfield 112, 12, 48, 0, 0), (.iload_n 1, 0, 0, 0, 0), (.aload_n 0, 0, 0, 0, 0), (.getfield 109, 12, 47, 0, 0), (.iload_n 1, 0, 0, 0, 0)] (by decide +kernel) rfl ?_
      refine Ev.iald (n := 147) (by decide +kernel) (by decide) rfl ?_
      refine Ev.iast (n := 26) (by decide +kernel) (by decide) rfl ?_
      refine Ev.run (pc' := 28) (ls' := [some (.ref 112), some (.int (a1 + 1))]) (st' := []) (m' := ((ev_up m.1 145 a1.toNatClampNeg (m.1 144 a1.toNatClampNeg)), m.2)) [(.iinc 1 1, 0, 0, 1, 0)] (by decide +kernel) rfl ?_
      refine Ev.gto (t := 7) (by decide +kernel) ?_
      exact ih _ _
set_option maxRecDepth 100000 in
set_option maxHeartbeats 4000000 in
theorem EX12_putsAside {l : Launch} {Ln : Nat} {xs : Nat → Int32} {d : Nat} (f : Nat)  (m : ev_M)  (hd : 0 ≤ d) : Mv ev_eV l Ln xs YX12_putsAside d Sx [.ref 112] m (FX12_putsAside f  m) := by
  refine Mv.of (by decide +kernel) rfl (Nat.le_of_ble_eq_true rfl) (Ev.le (ls' := [some (.ref 112), none]) ⟨rfl, trivial⟩ ?_)
  unfold FX12_putsAside
  refine Ev.run (pc' := 7) (ls' := [some (.ref 112), some (.int 0)]) (st' := []) (m' := ((ev_up m.1 112 54 1), m.2)) [(.aload_n 0, 0, 0, 0, 0), (.iconst 1, 0, 0, 1, 0), (.putfield 416, 12, 54, 0, 0), (.iconst 0, 0, 0, 0, 0), (.istore_n 1, 0, 0, 0, 0)] (by decide +kernel) rfl ?_
  refine EX12_putsAside_L7 f _ ?_ (by omega) _ _ _
  intro m1
  refine Ev.run (pc' := 41) (ls' := [some (.ref 112), none]) (st' := []) (m' := ((ev_up (ev_up m1.1 112 55 0) 112 56 0), m1.2)) [(.aload_n 0, 0, 0, 0, 0), (.iconst 0, 0, 0, 0, 0), (.putfield 440, 12, 55, 0, 0), (.aload_n 0, 0, 0, 0, 0), (.iconst 0, 0, 0, 0, 0), (.putfield 431, 12, 56, 0, 0)] (by decide +kernel) rfl ?_
  exact Ev.retv rfl rfl (by decide +kernel)
def FX12_triesAnew_L2 (f : Nat) (k : ev_M → Option (Unit × ev_M))   : Nat → Int32 → ev_M → Option (Unit × ev_M)
  | 0, _, _ => none
  | n + 1, a1, m => (if 26 ≤ a1 then (k m) else (if ev_in a1 26 then (if ev_in a1 147 then (FX12_triesAnew_L2 f k n (a1 + 1) ((ev_up m.1 144 a1.toNatClampNeg (m.1 145 a1.toNatClampNeg)), m.2)) else none) else none))
def FX12_triesAnew (f : Nat)  (m : ev_M) : Option (Unit × ev_M) :=
  (FX12_triesAnew_L2 f (fun m1 => some ((), ((ev_up (ev_up m1.1 112 55 0) 112 56 0), m1.2))) f (0 : Int32) m)
set_option maxRecDepth 100000 in
set_option maxHeartbeats 4000000 in
theorem EX12_triesAnew_L2 {l : Launch} {Ln : Nat} {xs : Nat → Int32} {d : Nat} (f : Nat) (k : ev_M → Option (Unit × ev_M))     (hk : ∀  (em : ev_M), Ev ev_eV l Ln xs YX12_triesAnew d Sx 26 [some (.ref 112), none] [] em (k em)) (hd : 0 ≤ d) : ∀ (n : Nat) (a1 : Int32) (m : ev_M), Ev ev_eV l Ln xs YX12_triesAnew d Sx 2 [some (.ref 112), some (.int a1)] [] m (FX12_triesAnew_L2 f k n a1 m) := by
  intro n
  induction n with
  | zero => intros; exact Ev.nn
  | succ n ih =>
    intro a1 m
    rw [FX12_triesAnew_L2]
    refine Ev.run (pc' := 5) (ls' := [some (.ref 112), some (.int a1)]) (st' := [.int 26, .int a1]) (m' := m) [(.iload_n 1, 0, 0, 0, 0), (.bipush 26, 0, 0, 26, 0)] (by decide +kernel) rfl ?_
    refine Ev.ic_ge (t := 26) (by decide +kernel) ?_ ?_
    · refine Ev.le (ls' := [some (.ref 112), none]) ⟨rfl, trivial⟩ ?_
      exact hk _
    · refine Ev.run (pc' := 18) (ls' := [some (.ref 112), some (.int a1)]) (st' := [.int a1, .ref 145, .int a1, .ref 144]) (m' := m) [(.aload_n 0, 0, 0, 0, 0), (.getfield 109, 12, 47, 0, 0), (.iload_n 1, 0, 0, 0, 0), (.aload_n 0, 0, 0, 0, 0), (.getfield 112, 12, 48, 0, 0), (.iload_n 1, 0, 0, 0, 0)] (by decide +kernel) rfl ?_
      refine Ev.iald (n := 26) (by decide +kernel) (by decide) rfl ?_
      refine Ev.iast (n := 147) (by decide +kernel) (by decide) rfl ?_
      refine Ev.run (pc' := 23) (ls' := [some (.ref 112), some (.int (a1 + 1))]) (st' := []) (m' := ((ev_up m.1 144 a1.toNatClampNeg (m.1 145 a1.toNatClampNeg)), m.2)) [(.iinc 1 1, 0, 0, 1, 0)] (by decide +kernel) rfl ?_
      refine Ev.gto (t := 2) (by decide +kernel) ?_
      exact ih _ _
set_option maxRecDepth 100000 in
set_option maxHeartbeats 4000000 in
theorem EX12_triesAnew {l : Launch} {Ln : Nat} {xs : Nat → Int32} {d : Nat} (f : Nat)  (m : ev_M)  (hd : 0 ≤ d) : Mv ev_eV l Ln xs YX12_triesAnew d Sx [.ref 112] m (FX12_triesAnew f  m) := by
  refine Mv.of (by decide +kernel) rfl (Nat.le_of_ble_eq_true rfl) (Ev.le (ls' := [some (.ref 112), none]) ⟨rfl, trivial⟩ ?_)
  unfold FX12_triesAnew
  refine Ev.run (pc' := 2) (ls' := [some (.ref 112), some (.int 0)]) (st' := []) (m' := m) [(.iconst 0, 0, 0, 0, 0), (.istore_n 1, 0, 0, 0, 0)] (by decide +kernel) rfl ?_
  refine EX12_triesAnew_L2 f _ ?_ (by omega) _ _ _
  intro m1
  refine Ev.run (pc' := 36) (ls' := [some (.ref 112), none]) (st' := []) (m' := ((ev_up (ev_up m1.1 112 55 0) 112 56 0), m1.2)) [(.aload_n 0, 0, 0, 0, 0), (.iconst 0, 0, 0, 0, 0), (.putfield 440, 12, 55, 0, 0), (.aload_n 0, 0, 0, 0, 0), (.iconst 0, 0, 0, 0, 0), (.putfield 431, 12, 56, 0, 0)] (by decide +kernel) rfl ?_
  exact Ev.retv rfl rfl (by decide +kernel)
def FX12_takesBack (f : Nat)  (m : ev_M) : Option (Unit × ev_M) :=
  (ev_bd (FX12_triesAnew f m) (fun _ m2 => some ((), ((ev_up m2.1 112 54 0), m2.2))))
set_option maxRecDepth 100000 in
set_option maxHeartbeats 4000000 in
theorem EX12_takesBack {l : Launch} {Ln : Nat} {xs : Nat → Int32} {d : Nat} (f : Nat)  (m : ev_M)  (hd : 1 ≤ d) : Mv ev_eV l Ln xs YX12_takesBack d Sx [.ref 112] m (FX12_takesBack f  m) := by
  refine Mv.of (by decide +kernel) rfl (Nat.le_of_ble_eq_true rfl) (Ev.le (ls' := [some (.ref 112)]) ⟨rfl, trivial⟩ ?_)
  unfold FX12_takesBack
  refine Ev.run (pc' := 1) (ls' := [some (.ref 112)]) (st' := [.ref 112]) (m' := m) [(.aload_n 0, 0, 0, 0, 0)] (by decide +kernel) rfl ?_
  refine Ev.cV (av := []) (st := []) (a := 112) (EX12_triesAnew (l := l) (Ln := Ln) (xs := xs) (d := 0) f m (by decide)) rfl (by decide +kernel) mwX12_triesAnew iwX12_triesAnew vwX12_triesAnew lk_12_449 (by omega) (by decide) rfl (by decide) rfl rfl (Nat.le_of_ble_eq_true rfl) (fun r1 m2 => ?_)
  refine Ev.run (pc' := 9) (ls' := [some (.ref 112)]) (st' := []) (m' := ((ev_up m2.1 112 54 0), m2.2)) [(.aload_n 0, 0, 0, 0, 0), (.iconst 0, 0, 0, 0, 0), (.putfield 416, 12, 54, 0, 0)] (by decide +kernel) rfl ?_
  exact Ev.retv rfl rfl (by decide +kernel)
def FX12_isAhead (f : Nat) (a1 : Int32) (a2 : Int32) (a3 : Int32) (m : ev_M) : Option (Int32 × ev_M) :=
  (if (m.1 112 45) = 0 then some (0, m) else (ev_bd (FX12_isIn f (a1 : Int32).toInt64 (a2 : Int32).toInt64 (a3 : Int32).toInt64 m) (fun r1 m2 => (if r1 = 0 then some (0, m2) else (if 999 < ((m2.1 144 0) + a1) then some (0, m2) else some (1, m2))))))
set_option maxRecDepth 100000 in
set_option maxHeartbeats 4000000 in
theorem EX12_isAhead {l : Launch} {Ln : Nat} {xs : Nat → Int32} {d : Nat} (f : Nat) (a1 : Int32) (a2 : Int32) (a3 : Int32) (m : ev_M)  (hd : 1 ≤ d) : Mv ev_eI l Ln xs YX12_isAhead d Sx [.ref 112, .int a1, .int a2, .int a3] m (FX12_isAhead f a1 a2 a3 m) := by
  refine Mv.of (by decide +kernel) rfl (Nat.le_of_ble_eq_true rfl) (Ev.le (ls' := [some (.ref 112), some (.int a1), some (.int a2), some (.int a3)]) ⟨rfl, ⟨rfl, ⟨rfl, ⟨rfl, trivial⟩⟩⟩⟩ ?_)
  unfold FX12_isAhead
  refine Ev.run (pc' := 4) (ls' := [some (.ref 112), some (.int a1), some (.int a2), some (.int a3)]) (st' := [.int (m.1 112 45)]) (m' := m) [(.aload_n 0, 0, 0, 0, 0), (.getfield 356, 12, 45, 0, 0)] (by decide +kernel) rfl ?_
  refine Ev.if_eq (t := 37) (by decide +kernel) ?_ ?_
  · refine Ev.run (pc' := 38) (ls' := [some (.ref 112), some (.int a1), some (.int a2), some (.int a3)]) (st' := [.int 0]) (m' := m) [(.iconst 0, 0, 0, 0, 0)] (by decide +kernel) rfl ?_
    exact Ev.iretz rfl rfl (by decide +kernel) (by decide)
  · refine Ev.run (pc' := 13) (ls' := [some (.ref 112), some (.int a1), some (.int a2), some (.int a3)]) (st' := [.long (a3 : Int32).toInt64, .long (a2 : Int32).toInt64, .long (a1 : Int32).toInt64]) (m' := m) [(.iload_n 1, 0, 0, 0, 0), (.i2l, 0, 0, 0, 0), (.iload_n 2, 0, 0, 0, 0), (.i2l, 0, 0, 0, 0), (.iload_n 3, 0, 0, 0, 0), (.i2l, 0, 0, 0, 0)] (by decide +kernel) rfl ?_
    refine Ev.cS (av := [.long (a1 : Int32).toInt64, .long (a2 : Int32).toInt64, .long (a3 : Int32).toInt64]) (st := []) (EX12_isIn (l := l) (Ln := Ln) (xs := xs) (d := 0) f (a1 : Int32).toInt64 (a2 : Int32).toInt64 (a3 : Int32).toInt64 m (by decide)) rfl (by decide +kernel) mwX12_isIn swX12_isIn lk_12_268 (by omega) rfl (Nat.le_of_ble_eq_true rfl) (fun r1 m2 => ?_)
    refine Ev.if_eq (t := 37) (by decide +kernel) ?_ ?_
    · refine Ev.run (pc' := 38) (ls' := [some (.ref 112), some (.int a1), some (.int a2), some (.int a3)]) (st' := [.int 0]) (m' := m2) [(.iconst 0, 0, 0, 0, 0)] (by decide +kernel) rfl ?_
      exact Ev.iretz rfl rfl (by decide +kernel) (by decide)
    · refine Ev.run (pc' := 24) (ls' := [some (.ref 112), some (.int a1), some (.int a2), some (.int a3)]) (st' := [.int 0, .ref 144]) (m' := m2) [(.aload_n 0, 0, 0, 0, 0), (.getfield 109, 12, 47, 0, 0), (.iconst 0, 0, 0, 0, 0)] (by decide +kernel) rfl ?_
      refine Ev.ialdK (n := 147) (j := 0) (by decide +kernel) (by decide) rfl rfl (by decide) ?_
      refine Ev.run (pc' := 30) (ls' := [some (.ref 112), some (.int a1), some (.int a2), some (.int a3)]) (st' := [.int 999, .int ((m2.1 144 0) + a1)]) (m' := m2) [(.iload_n 1, 0, 0, 0, 0), (.iadd, 0, 0, 0, 0), (.sipush 999, 0, 0, 999, 0)] (by decide +kernel) rfl ?_
      refine Ev.ic_gt (t := 37) (by decide +kernel) ?_ ?_
      · refine Ev.run (pc' := 38) (ls' := [some (.ref 112), some (.int a1), some (.int a2), some (.int a3)]) (st' := [.int 0]) (m' := m2) [(.iconst 0, 0, 0, 0, 0)] (by decide +kernel) rfl ?_
        exact Ev.iretz rfl rfl (by decide +kernel) (by decide)
      · refine Ev.run (pc' := 34) (ls' := [some (.ref 112), some (.int a1), some (.int a2), some (.int a3)]) (st' := [.int 1]) (m' := m2) [(.iconst 1, 0, 0, 1, 0)] (by decide +kernel) rfl ?_
        refine Ev.gto (t := 38) (by decide +kernel) ?_
        exact Ev.iretz rfl rfl (by decide +kernel) (by decide)
def FX12_bits_L4 (f : Nat) (k : Int32 → ev_M → Option (Int32 × ev_M))   : Nat → Int32 → Int32 → ev_M → Option (Int32 × ev_M)
  | 0, _, _, _ => none
  | n + 1, a1, a2, m => (if a2 = 0 then (k a1 m) else (FX12_bits_L4 f k n (a1 + 1) (a2 &&& (a2 - 1)) m))
def FX12_bits (f : Nat) (a0 : Int32) (m : ev_M) : Option (Int32 × ev_M) :=
  (FX12_bits_L4 f (fun e1 m2 => some (e1, m2)) f (0 : Int32) a0 m)
set_option maxRecDepth 100000 in
set_option maxHeartbeats 4000000 in
theorem EX12_bits_L4 {l : Launch} {Ln : Nat} {xs : Nat → Int32} {d : Nat} (f : Nat) (k : Int32 → ev_M → Option (Int32 × ev_M))     (hk : ∀ (e1 : Int32) (em : ev_M), Ev ev_eI l Ln xs YX12_bits d Sx 20 [none, some (.int e1), none] [] em (k e1 em)) (hd : 0 ≤ d) : ∀ (n : Nat) (a1 : Int32) (a2 : Int32) (m : ev_M), Ev ev_eI l Ln xs YX12_bits d Sx 4 [none, some (.int a1), some (.int a2)] [] m (FX12_bits_L4 f k n a1 a2 m) := by
  intro n
  induction n with
  | zero => intros; exact Ev.nn
  | succ n ih =>
    intro a1 a2 m
    rw [FX12_bits_L4]
    refine Ev.run (pc' := 5) (ls' := [none, some (.int a1), some (.int a2)]) (st' := [.int a2]) (m' := m) [(.iload_n 2, 0, 0, 0, 0)] (by decide +kernel) rfl ?_
    refine Ev.if_eq (t := 20) (by decide +kernel) ?_ ?_
    · refine Ev.le (ls' := [none, some (.int a1), none]) ⟨rfl, trivial⟩ ?_
      exact hk _ _
    · refine Ev.run (pc' := 17) (ls' := [none, some (.int (a1 + 1)), some (.int (a2 &&& (a2 - 1)))]) (st' := []) (m' := m) [(.iinc 1 1, 0, 0, 1, 0), (.iload_n 2, 0, 0, 0, 0), (.iload_n 2, 0, 0, 0, 0), (.iconst 1, 0, 0, 1, 0), (.isub, 0, 0, 0, 0), (.iand, 0, 0, 0, 0), (.istore_n 2, 0, 0, 0, 0)] (by decide +kernel) rfl ?_
      refine Ev.gto (t := 4) (by decide +kernel) ?_
      exact ih _ _ _
set_option maxRecDepth 100000 in
set_option maxHeartbeats 4000000 in
theorem EX12_bits {l : Launch} {Ln : Nat} {xs : Nat → Int32} {d : Nat} (f : Nat) (a0 : Int32) (m : ev_M)  (hd : 0 ≤ d) : Mv ev_eI l Ln xs YX12_bits d Sx [.int a0] m (FX12_bits f a0 m) := by
  refine Mv.of (by decide +kernel) rfl (Nat.le_of_ble_eq_true rfl) (Ev.le (ls' := [some (.int a0), none, none]) ⟨rfl, trivial⟩ ?_)
  unfold FX12_bits
  refine Ev.run (pc' := 4) (ls' := [some (.int a0), some (.int 0), some (.int a0)]) (st' := []) (m' := m) [(.iconst 0, 0, 0, 0, 0), (.istore_n 1, 0, 0, 0, 0), (.iload_n 0, 0, 0, 0, 0), (.istore_n 2, 0, 0, 0, 0)] (by decide +kernel) rfl ?_
  refine Ev.le (ls' := [none, some (.int 0), some (.int a0)]) ⟨rfl, ⟨rfl, trivial⟩⟩ ?_
  refine EX12_bits_L4 f _ ?_ (by omega) _ _ _ _
  intro e1 m2
  refine Ev.run (pc' := 21) (ls' := [none, some (.int e1), none]) (st' := [.int e1]) (m' := m2) [(.iload_n 1, 0, 0, 0, 0)] (by decide +kernel) rfl ?_
  exact Ev.ireti rfl rfl (by decide +kernel)
def FX12_summed_L4 (f : Nat) (k : Int32 → ev_M → Option (Int32 × ev_M))  (a1 : Int32) : Nat → Int32 → Int32 → ev_M → Option (Int32 × ev_M)
  | 0, _, _, _ => none
  | n + 1, a2, a3, m => (ev_bd (FX12_towerMany f m) (fun r1 m2 => (if r1 ≤ a3 then (k a2 m2) else (if ev_in ((2 + (3 * a3)) + a1) 147 then (FX12_summed_L4 f k a1 n (a2 + (m2.1 144 ((2 + (3 * a3)) + a1).toNatClampNeg)) (a3 + 1) m2) else none))))
def FX12_summed (f : Nat) (a1 : Int32) (m : ev_M) : Option (Int32 × ev_M) :=
  (FX12_summed_L4 f (fun e3 m4 => some (e3, m4)) a1 f (0 : Int32) (0 : Int32) m)
set_option maxRecDepth 100000 in
set_option maxHeartbeats 4000000 in
theorem EX12_summed_L4 {l : Launch} {Ln : Nat} {xs : Nat → Int32} {d : Nat} (f : Nat) (k : Int32 → ev_M → Option (Int32 × ev_M))  (a1 : Int32)   (hk : ∀ (e2 : Int32) (em : ev_M), Ev ev_eI l Ln xs YX12_summed d Sx 33 [none, none, some (.int e2), none] [] em (k e2 em)) (hd : 1 ≤ d) : ∀ (n : Nat) (a2 : Int32) (a3 : Int32) (m : ev_M), Ev ev_eI l Ln xs YX12_summed d Sx 4 [some (.ref 112), some (.int a1), some (.int a2), some (.int a3)] [] m (FX12_summed_L4 f k a1 n a2 a3 m) := by
  intro n
  induction n with
  | zero => intros; exact Ev.nn
  | succ n ih =>
    intro a2 a3 m
    rw [FX12_summed_L4]
    refine Ev.run (pc' := 6) (ls' := [some (.ref 112), some (.int a1), some (.int a2), some (.int a3)]) (st' := [.ref 112, .int a3]) (m' := m) [(.iload_n 3, 0, 0, 0, 0), (.aload_n 0, 0, 0, 0, 0)] (by decide +kernel) rfl ?_
    refine Ev.cV (av := []) (st := [.int a3]) (a := 112) (EX12_towerMany (l := l) (Ln := Ln) (xs := xs) (d := 0) f m (by decide)) rfl (by decide +kernel) mwX12_towerMany iwX12_towerMany vwX12_towerMany lk_12_369 (by omega) (by decide) rfl (by decide) rfl rfl (Nat.le_of_ble_eq_true rfl) (fun r1 m2 => ?_)
    refine Ev.ic_ge (t := 33) (by decide +kernel) ?_ ?_
    · refine Ev.le (ls' := [none, none, some (.int a2), none]) ⟨rfl, trivial⟩ ?_
      exact hk _ _
    · refine Ev.run (pc' := 24) (ls' := [some (.ref 112), some (.int a1), some (.int a2), some (.int a3)]) (st' := [.int ((2 + (3 * a3)) + a1), .ref 144, .int a2]) (m' := m2) [(.iload_n 2, 0, 0, 0, 0), (.aload_n 0, 0, 0, 0, 0), (.getfield 109, 12, 47, 0, 0), (.iconst 2, 0, 0, 2, 0), (.iconst 3, 0, 0, 3, 0), (.iload_n 3, 0, 0, 0, 0), (.imul, 0, 0, 0, 0), (.iadd, 0, 0, 0, 0), (.iload_n 1, 0, 0, 0, 0), (.iadd, 0, 0, 0, 0)] (by decide +kernel) rfl ?_
      refine Ev.iald (n := 147) (by decide +kernel) (by decide) rfl ?_
      refine Ev.run (pc' := 30) (ls' := [some (.ref 112), some (.int a1), some (.int (a2 + (m2.1 144 ((2 + (3 * a3)) + a1).toNatClampNeg))), some (.int (a3 + 1))]) (st' := []) (m' := m2) [(.iadd, 0, 0, 0, 0), (.istore_n 2, 0, 0, 0, 0), (.iinc 3 1, 0, 0, 1, 0)] (by decide +kernel) rfl ?_
      refine Ev.gto (t := 4) (by decide +kernel) ?_
      exact ih _ _ _
set_option maxRecDepth 100000 in
set_option maxHeartbeats 4000000 in
theorem EX12_summed {l : Launch} {Ln : Nat} {xs : Nat → Int32} {d : Nat} (f : Nat) (a1 : Int32) (m : ev_M)  (hd : 1 ≤ d) : Mv ev_eI l Ln xs YX12_summed d Sx [.ref 112, .int a1] m (FX12_summed f a1 m) := by
  refine Mv.of (by decide +kernel) rfl (Nat.le_of_ble_eq_true rfl) (Ev.le (ls' := [some (.ref 112), some (.int a1), none, none]) ⟨rfl, ⟨rfl, trivial⟩⟩ ?_)
  unfold FX12_summed
  refine Ev.run (pc' := 4) (ls' := [some (.ref 112), some (.int a1), some (.int 0), some (.int 0)]) (st' := []) (m' := m) [(.iconst 0, 0, 0, 0, 0), (.istore_n 2, 0, 0, 0, 0), (.iconst 0, 0, 0, 0, 0), (.istore_n 3, 0, 0, 0, 0)] (by decide +kernel) rfl ?_
  refine EX12_summed_L4 f _ a1 ?_ (by omega) _ _ _ _
  intro e3 m4
  refine Ev.run (pc' := 34) (ls' := [none, none, some (.int e3), none]) (st' := [.int e3]) (m' := m4) [(.iload_n 2, 0, 0, 0, 0)] (by decide +kernel) rfl ?_
  exact Ev.ireti rfl rfl (by decide +kernel)
def FX12_has (f : Nat) (a1 : Int32) (m : ev_M) : Option (Int32 × ev_M) :=
  (if a1 = 0 then (ev_bd (FX12_towerMany f m) (fun r1 m2 => some (r1, m2))) else (if a1 = 1 then some ((m.1 144 0), m) else (if a1 = 2 then (if (m.1 112 45) = 0 then some ((-1), m) else some ((m.1 144 1), m)) else (if a1 = 3 then (ev_bd (FX12_summed f (2 : Int32) m) (fun r6 m7 => some (r6, m7))) else (if a1 = 4 then (ev_bd (FX12_summed f (0 : Int32) m) (fun r9 m10 => some (r9, m10))) else (if a1 = 5 then some ((m.1 144 26), m) else (if a1 = 6 then some ((m.1 112 58), m) else (if a1 = 7 then some ((m.1 112 64), m) else some ((-1), m)))))))))
set_option maxRecDepth 100000 in
set_option maxHeartbeats 4000000 in
theorem EX12_has {l : Launch} {Ln : Nat} {xs : Nat → Int32} {d : Nat} (f : Nat) (a1 : Int32) (m : ev_M)  (hd : 2 ≤ d) : Mv ev_eI l Ln xs YX12_has d Sx [.ref 112, .int a1] m (FX12_has f a1 m) := by
  refine Mv.of (by decide +kernel) rfl (Nat.le_of_ble_eq_true rfl) (Ev.le (ls' := [some (.ref 112), some (.int a1)]) ⟨rfl, ⟨rfl, trivial⟩⟩ ?_)
  unfold FX12_has
  refine Ev.run (pc' := 1) (ls' := [some (.ref 112), some (.int a1)]) (st' := [.int a1]) (m' := m) [(.iload_n 1, 0, 0, 0, 0)] (by decide +kernel) rfl ?_
  refine Ev.sw1 0 (t := 48) (by decide +kernel) (by decide) ?_ (fun z3 => ?_)
  · refine Ev.run (pc' := 49) (ls' := [some (.ref 112), some (.int a1)]) (st' := [.ref 112]) (m' := m) [(.aload_n 0, 0, 0, 0, 0)] (by decide +kernel) rfl ?_
    refine Ev.cV (av := []) (st := []) (a := 112) (EX12_towerMany (l := l) (Ln := Ln) (xs := xs) (d := 0) f m (by decide)) rfl (by decide +kernel) mwX12_towerMany iwX12_towerMany vwX12_towerMany lk_12_369 (by omega) (by decide) rfl (by decide) rfl rfl (Nat.le_of_ble_eq_true rfl) (fun r1 m2 => ?_)
    exact Ev.ireti rfl rfl (by decide +kernel)
  refine Ev.sw1 1 (t := 53) (by decide +kernel) (by decide) ?_ (fun z4 => ?_)
  · refine Ev.run (pc' := 58) (ls' := [some (.ref 112), some (.int a1)]) (st' := [.int 0, .ref 144]) (m' := m) [(.aload_n 0, 0, 0, 0, 0), (.getfield 109, 12, 47, 0, 0), (.iconst 0, 0, 0, 0, 0)] (by decide +kernel) rfl ?_
    refine Ev.ialdK (n := 147) (j := 0) (by decide +kernel) (by decide) rfl rfl (by decide) ?_
    exact Ev.ireti rfl rfl (by decide +kernel)
  refine Ev.sw1 2 (t := 60) (by decide +kernel) (by decide) ?_ (fun z5 => ?_)
  · refine Ev.run (pc' := 64) (ls' := [some (.ref 112), some (.int a1)]) (st' := [.int (m.1 112 45)]) (m' := m) [(.aload_n 0, 0, 0, 0, 0), (.getfield 356, 12, 45, 0, 0)] (by decide +kernel) rfl ?_
    refine Ev.if_eq (t := 76) (by decide +kernel) ?_ ?_
    · refine Ev.run (pc' := 77) (ls' := [some (.ref 112), some (.int a1)]) (st' := [.int (-1)]) (m' := m) [(.iconst (-1), 0, 0, (-1), 0)] (by decide +kernel) rfl ?_
      exact Ev.ireti rfl rfl (by decide +kernel)
    · refine Ev.run (pc' := 72) (ls' := [some (.ref 112), some (.int a1)]) (st' := [.int 1, .ref 144]) (m' := m) [(.aload_n 0, 0, 0, 0, 0), (.getfield 109, 12, 47, 0, 0), (.iconst 1, 0, 0, 1, 0)] (by decide +kernel) rfl ?_
      refine Ev.ialdK (n := 147) (j := 1) (by decide +kernel) (by decide) rfl rfl (by decide) ?_
      refine Ev.gto (t := 77) (by decide +kernel) ?_
      exact Ev.ireti rfl rfl (by decide +kernel)
  refine Ev.sw1 3 (t := 78) (by decide +kernel) (by decide) ?_ (fun z8 => ?_)
  · refine Ev.run (pc' := 80) (ls' := [some (.ref 112), some (.int a1)]) (st' := [.int 2, .ref 112]) (m' := m) [(.aload_n 0, 0, 0, 0, 0), (.iconst 2, 0, 0, 2, 0)] (by decide +kernel) rfl ?_
    refine Ev.cV (av := [.int 2]) (st := []) (a := 112) (EX12_summed (l := l) (Ln := Ln) (xs := xs) (d := 1) f (2 : Int32) m (by decide)) rfl (by decide +kernel) mwX12_summed iwX12_summed vwX12_summed lk_12_452 (by omega) (by decide) rfl (by decide) rfl rfl (Nat.le_of_ble_eq_true rfl) (fun r6 m7 => ?_)
    exact Ev.ireti rfl rfl (by decide +kernel)
  refine Ev.sw1 4 (t := 84) (by decide +kernel) (by decide) ?_ (fun z11 => ?_)
  · refine Ev.run (pc' := 86) (ls' := [some (.ref 112), some (.int a1)]) (st' := [.int 0, .ref 112]) (m' := m) [(.aload_n 0, 0, 0, 0, 0), (.iconst 0, 0, 0, 0, 0)] (by decide +kernel) rfl ?_
    refine Ev.cV (av := [.int 0]) (st := []) (a := 112) (EX12_summed (l := l) (Ln := Ln) (xs := xs) (d := 1) f (0 : Int32) m (by decide)) rfl (by decide +kernel) mwX12_summed iwX12_summed vwX12_summed lk_12_452 (by omega) (by decide) rfl (by decide) rfl rfl (Nat.le_of_ble_eq_true rfl) (fun r9 m10 => ?_)
    exact Ev.ireti rfl rfl (by decide +kernel)
  refine Ev.sw1 5 (t := 90) (by decide +kernel) (by decide) ?_ (fun z12 => ?_)
  · refine Ev.run (pc' := 96) (ls' := [some (.ref 112), some (.int a1)]) (st' := [.int 26, .ref 144]) (m' := m) [(.aload_n 0, 0, 0, 0, 0), (.getfield 109, 12, 47, 0, 0), (.bipush 26, 0, 0, 26, 0)] (by decide +kernel) rfl ?_
    refine Ev.ialdK (n := 147) (j := 26) (by decide +kernel) (by decide) rfl rfl (by decide) ?_
    exact Ev.ireti rfl rfl (by decide +kernel)
  refine Ev.sw1 6 (t := 98) (by decide +kernel) (by decide) ?_ (fun z13 => ?_)
  · refine Ev.run (pc' := 102) (ls' := [some (.ref 112), some (.int a1)]) (st' := [.int (m.1 112 58)]) (m' := m) [(.aload_n 0, 0, 0, 0, 0), (.getfield 366, 12, 58, 0, 0)] (by decide +kernel) rfl ?_
    exact Ev.ireti rfl rfl (by decide +kernel)
  refine Ev.sw1 7 (t := 103) (by decide +kernel) (by decide) ?_ (fun z14 => ?_)
  · refine Ev.run (pc' := 107) (ls' := [some (.ref 112), some (.int a1)]) (st' := [.int (m.1 112 64)]) (m' := m) [(.aload_n 0, 0, 0, 0, 0), (.getfield 363, 12, 64, 0, 0)] (by decide +kernel) rfl ?_
    exact Ev.ireti rfl rfl (by decide +kernel)
  refine Ev.sw0 (vals := [0, 1, 2, 3, 4, 5, 6, 7]) (dt := 108) (by decide +kernel) (by simp only [List.mem_cons, List.not_mem_nil, or_false, not_or]; exact ⟨(lv_neT (k := 0) (a := 0) z3 (by decide)), (lv_neT (k := 1) (a := 1) z4 (by decide)), (lv_neT (k := 2) (a := 2) z5 (by decide)), (lv_neT (k := 3) (a := 3) z8 (by decide)), (lv_neT (k := 4) (a := 4) z11 (by decide)), (lv_neT (k := 5) (a := 5) z12 (by decide)), (lv_neT (k := 6) (a := 6) z13 (by decide)), (lv_neT (k := 7) (a := 7) z14 (by decide))⟩) ?_
  refine Ev.run (pc' := 109) (ls' := [some (.ref 112), some (.int a1)]) (st' := [.int (-1)]) (m' := m) [(.iconst (-1), 0, 0, (-1), 0)] (by decide +kernel) rfl ?_
  exact Ev.ireti rfl rfl (by decide +kernel)
