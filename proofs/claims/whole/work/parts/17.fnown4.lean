def FX9_readValue_J36 (f : Nat)     (m : ev_M) : Option (Unit × ev_M) :=
  (ev_bd (FX10_word f m) (fun r5 m6 => (ev_bd (FX9_put f ((-20) - r5) m6) (fun _ m8 => (ev_bd (FX10_advance f m8) (fun _ m10 => some ((), m10)))))))
def FX9_readValue_J24 (f : Nat)     (m : ev_M) : Option (Unit × ev_M) :=
  (ev_bd (FJ9_max_7cf53 f (m.1 15 4) (1 : Int32) m) (fun r3 m4 => (FX9_readValue_J36 f ((ev_up m4.1 15 4 r3), m4.2))))
def FX9_readValue (f : Nat)  (m : ev_M) : Option (Unit × ev_M) :=
  (ev_bd (FX10_isWord f (14 : Int32) m) (fun r1 m2 => (if r1 = 0 then (ev_bd (FX10_isWord f (16 : Int32) m2) (fun r11 m12 => (if r11 = 0 then (FX9_readValue_J36 f m12) else (FX9_readValue_J24 f m12)))) else (FX9_readValue_J24 f m2))))
set_option maxRecDepth 100000 in
set_option maxHeartbeats 4000000 in
theorem EX9_readValue_J36 {l : Launch} {Ln : Nat} {xs : Nat → Int32} {d : Nat} (f : Nat)     (m : ev_M)   (hd : 6 ≤ d) : Ev ev_eV l Ln xs YX9_readValue d Sx 36 [some (.ref 15)] [] m (FX9_readValue_J36 f m) := by
  unfold FX9_readValue_J36
  refine Ev.run (pc' := 43) (ls' := [some (.ref 15)]) (st' := [.ref 13, .int (-20), .ref 15]) (m' := m) [(.aload_n 0, 0, 0, 0, 0), (.bipush (-20), 0, 0, (-20), 0), (.aload_n 0, 0, 0, 0, 0), (.getfield 25, 9, 0, 0, 0)] (by decide +kernel) rfl ?_
  refine Ev.cV (av := []) (st := [.int (-20), .ref 15]) (a := 13) (EX10_word (l := l) (Ln := Ln) (xs := xs) (d := 0) f m (by decide)) rfl (by decide +kernel) mwX10_word iwX10_word vwX10_word lk_9_80 (by omega) (by decide) rfl (by decide) rfl rfl (Nat.le_of_ble_eq_true rfl) (fun r5 m6 => ?_)
  refine Ev.run (pc' := 47) (ls' := [some (.ref 15)]) (st' := [.int ((-20) - r5), .ref 15]) (m' := m6) [(.isub, 0, 0, 0, 0)] (by decide +kernel) rfl ?_
  refine Ev.cV (av := [.int ((-20) - r5)]) (st := []) (a := 15) (EX9_put (l := l) (Ln := Ln) (xs := xs) (d := 1) f ((-20) - r5) m6 (by decide)) rfl (by decide +kernel) mwX9_put iwX9_put vwX9_put lk_9_54 (by omega) (by decide) rfl (by decide) rfl rfl (Nat.le_of_ble_eq_true rfl) (fun r7 m8 => ?_)
  refine Ev.run (pc' := 54) (ls' := [some (.ref 15)]) (st' := [.ref 13]) (m' := m8) [(.aload_n 0, 0, 0, 0, 0), (.getfield 25, 9, 0, 0, 0)] (by decide +kernel) rfl ?_
  refine Ev.cV (av := []) (st := []) (a := 13) (EX10_advance (l := l) (Ln := Ln) (xs := xs) (d := 5) f m8 (by decide)) rfl (by decide +kernel) mwX10_advance iwX10_advance vwX10_advance lk_9_38 (by omega) (by decide) rfl (by decide) rfl rfl (Nat.le_of_ble_eq_true rfl) (fun r9 m10 => ?_)
  exact Ev.retv rfl rfl (by decide +kernel)
set_option maxRecDepth 100000 in
set_option maxHeartbeats 4000000 in
theorem EX9_readValue_J24 {l : Launch} {Ln : Nat} {xs : Nat → Int32} {d : Nat} (f : Nat)     (m : ev_M)   (hd : 6 ≤ d) : Ev ev_eV l Ln xs YX9_readValue d Sx 24 [some (.ref 15)] [] m (FX9_readValue_J24 f m) := by
  unfold FX9_readValue_J24
  refine Ev.run (pc' := 30) (ls' := [some (.ref 15)]) (st' := [.int 1, .int (m.1 15 4), .ref 15]) (m' := m) [(.aload_n 0, 0, 0, 0, 0), (.aload_n 0, 0, 0, 0, 0), (.getfield 22, 9, 4, 0, 0), (.iconst 1, 0, 0, 1, 0)] (by decide +kernel) rfl ?_
  refine Ev.cS (av := [.int (m.1 15 4), .int 1]) (st := [.ref 15]) (EJ9_max_7cf53 (l := l) (Ln := Ln) (xs := xs) (d := 0) f (m.1 15 4) (1 : Int32) m (by decide)) rfl (by decide +kernel) mwJ9_max_7cf53 swJ9_max_7cf53 lk_9_102 (by omega) rfl (Nat.le_of_ble_eq_true rfl) (fun r3 m4 => ?_)
  refine Ev.run (pc' := 36) (ls' := [some (.ref 15)]) (st' := []) (m' := ((ev_up m4.1 15 4 r3), m4.2)) [(.putfield 22, 9, 4, 0, 0)] (by decide +kernel) rfl ?_
  exact EX9_readValue_J36 f ((ev_up m4.1 15 4 r3), m4.2) (by omega)
set_option maxRecDepth 100000 in
set_option maxHeartbeats 4000000 in
theorem EX9_readValue {l : Launch} {Ln : Nat} {xs : Nat → Int32} {d : Nat} (f : Nat)  (m : ev_M)  (hd : 6 ≤ d) : Mv ev_eV l Ln xs YX9_readValue d Sx [.ref 15] m (FX9_readValue f  m) := by
  refine Mv.of (by decide +kernel) rfl (Nat.le_of_ble_eq_true rfl) (Ev.le (ls' := [some (.ref 15)]) ⟨rfl, trivial⟩ ?_)
  unfold FX9_readValue
  refine Ev.run (pc' := 6) (ls' := [some (.ref 15)]) (st' := [.int 14, .ref 13]) (m' := m) [(.aload_n 0, 0, 0, 0, 0), (.getfield 25, 9, 0, 0, 0), (.bipush 14, 0, 0, 14, 0)] (by decide +kernel) rfl ?_
  refine Ev.cV (av := [.int 14]) (st := []) (a := 13) (EX10_isWord (l := l) (Ln := Ln) (xs := xs) (d := 0) f (14 : Int32) m (by decide)) rfl (by decide +kernel) mwX10_isWord iwX10_isWord vwX10_isWord lk_9_71 (by omega) (by decide) rfl (by decide) rfl rfl (Nat.le_of_ble_eq_true rfl) (fun r1 m2 => ?_)
  refine Ev.if_ne (t := 24) (by decide +kernel) ?_ ?_
  · exact EX9_readValue_J24 f m2 (by omega)
  · refine Ev.run (pc' := 18) (ls' := [some (.ref 15)]) (st' := [.int 16, .ref 13]) (m' := m2) [(.aload_n 0, 0, 0, 0, 0), (.getfield 25, 9, 0, 0, 0), (.bipush 16, 0, 0, 16, 0)] (by decide +kernel) rfl ?_
    refine Ev.cV (av := [.int 16]) (st := []) (a := 13) (EX10_isWord (l := l) (Ln := Ln) (xs := xs) (d := 0) f (16 : Int32) m2 (by decide)) rfl (by decide +kernel) mwX10_isWord iwX10_isWord vwX10_isWord lk_9_71 (by omega) (by decide) rfl (by decide) rfl rfl (Nat.le_of_ble_eq_true rfl) (fun r11 m12 => ?_)
    refine Ev.if_eq (t := 36) (by decide +kernel) ?_ ?_
    · exact EX9_readValue_J36 f m12 (by omega)
    · exact EX9_readValue_J24 f m12 (by omega)
def FX10_begin (f : Nat)  (m : ev_M) : Option (Unit × ev_M) :=
  (ev_bd (FX10_advance f ((ev_up (ev_up (ev_up (ev_up (ev_up m.1 13 5 3) 13 2 0) 13 6 0) 13 3 0) 13 4 (-1)), m.2)) (fun _ m2 => some ((), m2)))
set_option maxRecDepth 100000 in
set_option maxHeartbeats 4000000 in
theorem EX10_begin {l : Launch} {Ln : Nat} {xs : Nat → Int32} {d : Nat} (f : Nat)  (m : ev_M)  (hd : 6 ≤ d) : Mv ev_eV l Ln xs YX10_begin d Sx [.ref 13] m (FX10_begin f  m) := by
  refine Mv.of (by decide +kernel) rfl (Nat.le_of_ble_eq_true rfl) (Ev.le (ls' := [some (.ref 13)]) ⟨rfl, trivial⟩ ?_)
  unfold FX10_begin
  refine Ev.run (pc' := 26) (ls' := [some (.ref 13)]) (st' := [.ref 13]) (m' := ((ev_up (ev_up (ev_up (ev_up (ev_up m.1 13 5 3) 13 2 0) 13 6 0) 13 3 0) 13 4 (-1)), m.2)) [(.aload_n 0, 0, 0, 0, 0), (.iconst 3, 0, 0, 3, 0), (.putfield 28, 10, 5, 0, 0), (.aload_n 0, 0, 0, 0, 0), (.iconst 0, 0, 0, 0, 0), (.putfield 19, 10, 2, 0, 0), (.aload_n 0, 0, 0, 0, 0), (.iconst 0, 0, 0, 0, 0), (.putfield 31, 10, 6, 0, 0), (.aload_n 0, 0, 0, 0, 0), (.iconst 0, 0, 0, 0, 0), (.putfield 22, 10, 3, 0, 0), (.aload_n 0, 0, 0, 0, 0), (.iconst (-1), 0, 0, (-1), 0), (.putfield 25, 10, 4, 0, 0), (.aload_n 0, 0, 0, 0, 0)] (by decide +kernel) rfl ?_
  refine Ev.cV (av := []) (st := []) (a := 13) (EX10_advance (l := l) (Ln := Ln) (xs := xs) (d := 5) f ((ev_up (ev_up (ev_up (ev_up (ev_up m.1 13 5 3) 13 2 0) 13 6 0) 13 3 0) 13 4 (-1)), m.2) (by decide)) rfl (by decide +kernel) mwX10_advance iwX10_advance vwX10_advance lk_10_41 (by omega) (by decide) rfl (by decide) rfl rfl (Nat.le_of_ble_eq_true rfl) (fun r1 m2 => ?_)
  exact Ev.retv rfl rfl (by decide +kernel)
def FX3_goThrough_J107 (f : Nat)  (o1 : Nat) (a2 : Int32) (a5 : Int32)  (m : ev_M) : Option (Unit × ev_M) :=
  (if isK 1 ((m.1 16 2)).toNatClampNeg then (ev_bd (FX5_work f (((m.1 16 2)).toNatClampNeg + 4) ((ev_up m.1 18 14 a5) ((m.1 16 2)).toNatClampNeg 13) ((ev_up m.1 18 14 a5) ((m.1 16 2)).toNatClampNeg 14) ((ev_up m.1 18 14 a5), m.2)) (fun r2 m3 => (ev_bd (FX3_graded f r2 m3) (fun r4 m5 => (if ev_in a2 8 then (if ev_in a2 8 then some ((), ((ev_up (ev_up (ev_up m5.1 (o1 + 1) a2.toNatClampNeg r4) o1 3 a5) 21 a2.toNatClampNeg a5), m5.2)) else none) else none))))) else none)
def FX3_goThrough (f : Nat) (o1 : Nat) (a2 : Int32) (a3 : Int32) (m : ev_M) : Option (Unit × ev_M) :=
  (if ev_in a2 8 then (if ev_in a2 8 then (if ((((ev_up (ev_up (ev_up (ev_up (ev_up (ev_up m.1 18 10 (m.1 o1 3)) 18 2 ((ev_up m.1 18 10 (m.1 o1 3)) (o1 + 1) a2.toNatClampNeg)) 18 3 ((ev_up (ev_up m.1 18 10 (m.1 o1 3)) 18 2 ((ev_up m.1 18 10 (m.1 o1 3)) (o1 + 1) a2.toNatClampNeg)) (o1 + 2) a2.toNatClampNeg)) 18 11 ((ev_up (ev_up (ev_up m.1 18 10 (m.1 o1 3)) 18 2 ((ev_up m.1 18 10 (m.1 o1 3)) (o1 + 1) a2.toNatClampNeg)) 18 3 ((ev_up (ev_up m.1 18 10 (m.1 o1 3)) 18 2 ((ev_up m.1 18 10 (m.1 o1 3)) (o1 + 1) a2.toNatClampNeg)) (o1 + 2) a2.toNatClampNeg)) o1 2)) 18 12 a2) 18 13 a3) o1 4) >>> (a2 &&& 31)) &&& 1) = 0 then (if isK 1 ((m.1 16 2)).toNatClampNeg then (ev_bd (FX5_work f (((m.1 16 2)).toNatClampNeg + 4) ((ev_up (ev_up (ev_up (ev_up (ev_up (ev_up m.1 18 10 (m.1 o1 3)) 18 2 ((ev_up m.1 18 10 (m.1 o1 3)) (o1 + 1) a2.toNatClampNeg)) 18 3 ((ev_up (ev_up m.1 18 10 (m.1 o1 3)) 18 2 ((ev_up m.1 18 10 (m.1 o1 3)) (o1 + 1) a2.toNatClampNeg)) (o1 + 2) a2.toNatClampNeg)) 18 11 ((ev_up (ev_up (ev_up m.1 18 10 (m.1 o1 3)) 18 2 ((ev_up m.1 18 10 (m.1 o1 3)) (o1 + 1) a2.toNatClampNeg)) 18 3 ((ev_up (ev_up m.1 18 10 (m.1 o1 3)) 18 2 ((ev_up m.1 18 10 (m.1 o1 3)) (o1 + 1) a2.toNatClampNeg)) (o1 + 2) a2.toNatClampNeg)) o1 2)) 18 12 a2) 18 13 a3) ((m.1 16 2)).toNatClampNeg 11) ((ev_up (ev_up (ev_up (ev_up (ev_up (ev_up m.1 18 10 (m.1 o1 3)) 18 2 ((ev_up m.1 18 10 (m.1 o1 3)) (o1 + 1) a2.toNatClampNeg)) 18 3 ((ev_up (ev_up m.1 18 10 (m.1 o1 3)) 18 2 ((ev_up m.1 18 10 (m.1 o1 3)) (o1 + 1) a2.toNatClampNeg)) (o1 + 2) a2.toNatClampNeg)) 18 11 ((ev_up (ev_up (ev_up m.1 18 10 (m.1 o1 3)) 18 2 ((ev_up m.1 18 10 (m.1 o1 3)) (o1 + 1) a2.toNatClampNeg)) 18 3 ((ev_up (ev_up m.1 18 10 (m.1 o1 3)) 18 2 ((ev_up m.1 18 10 (m.1 o1 3)) (o1 + 1) a2.toNatClampNeg)) (o1 + 2) a2.toNatClampNeg)) o1 2)) 18 12 a2) 18 13 a3) ((m.1 16 2)).toNatClampNeg 12) ((ev_up (ev_up (ev_up (ev_up (ev_up (ev_up m.1 18 10 (m.1 o1 3)) 18 2 ((ev_up m.1 18 10 (m.1 o1 3)) (o1 + 1) a2.toNatClampNeg)) 18 3 ((ev_up (ev_up m.1 18 10 (m.1 o1 3)) 18 2 ((ev_up m.1 18 10 (m.1 o1 3)) (o1 + 1) a2.toNatClampNeg)) (o1 + 2) a2.toNatClampNeg)) 18 11 ((ev_up (ev_up (ev_up m.1 18 10 (m.1 o1 3)) 18 2 ((ev_up m.1 18 10 (m.1 o1 3)) (o1 + 1) a2.toNatClampNeg)) 18 3 ((ev_up (ev_up m.1 18 10 (m.1 o1 3)) 18 2 ((ev_up m.1 18 10 (m.1 o1 3)) (o1 + 1) a2.toNatClampNeg)) (o1 + 2) a2.toNatClampNeg)) o1 2)) 18 12 a2) 18 13 a3), m.2)) (fun r7 m8 => (ev_bd (FX3_graded f r7 m8) (fun r9 m10 => (FX3_goThrough_J107 f o1 a2 r9 m10))))) else none) else (FX3_goThrough_J107 f o1 a2 (9 : Int32) ((ev_up (ev_up (ev_up (ev_up (ev_up (ev_up m.1 18 10 (m.1 o1 3)) 18 2 ((ev_up m.1 18 10 (m.1 o1 3)) (o1 + 1) a2.toNatClampNeg)) 18 3 ((ev_up (ev_up m.1 18 10 (m.1 o1 3)) 18 2 ((ev_up m.1 18 10 (m.1 o1 3)) (o1 + 1) a2.toNatClampNeg)) (o1 + 2) a2.toNatClampNeg)) 18 11 ((ev_up (ev_up (ev_up m.1 18 10 (m.1 o1 3)) 18 2 ((ev_up m.1 18 10 (m.1 o1 3)) (o1 + 1) a2.toNatClampNeg)) 18 3 ((ev_up (ev_up m.1 18 10 (m.1 o1 3)) 18 2 ((ev_up m.1 18 10 (m.1 o1 3)) (o1 + 1) a2.toNatClampNeg)) (o1 + 2) a2.toNatClampNeg)) o1 2)) 18 12 a2) 18 13 a3), m.2))) else none) else none)
set_option maxRecDepth 100000 in
set_option maxHeartbeats 4000000 in
theorem EX3_goThrough_J107 {l : Launch} {Ln : Nat} {xs : Nat → Int32} {d : Nat} (f : Nat)  (o1 : Nat) (a2 : Int32) (a5 : Int32)  (m : ev_M) (h_o1 : isK 8 o1)  (hd : 3 ≤ d) : Ev ev_eV l Ln xs YX3_goThrough d Sx 107 [some (.ref 16), some (.ref o1), some (.int a2), none, some (.ref 18), some (.int a5)] [] m (FX3_goThrough_J107 f o1 a2 a5 m) := by
  unfold FX3_goThrough_J107
  refine Ev.run (pc' := 113) (ls' := [some (.ref 16), some (.ref o1), some (.int a2), none, some (.ref 18), some (.int a5)]) (st' := [.int a5, .int 14, .ref 18]) (m' := m) [(.aload 4, 0, 0, 0, 0), (.bipush 14, 0, 0, 14, 0), (.iload 5, 0, 0, 0, 0)] (by decide +kernel) rfl ?_
  refine Ev.iastK (n := 29) (j := 14) (by decide +kernel) (by decide) rfl rfl (by decide) ?_
  refine Ev.run (pc' := 115) (ls' := [some (.ref 16), some (.ref o1), some (.int a2), none, some (.ref 18), some (.int a5)]) (st' := [.ref o1]) (m' := ((ev_up m.1 18 14 a5), m.2)) [(.aload_n 1, 0, 0, 0, 0)] (by decide +kernel) rfl ?_
  refine Ev.getS (v := .ref (o1 + 1)) (ci := 8) (k := 0) (idx := 57) (by decide +kernel) (by decide +kernel) (k8_l0 h_o1) (by rw [(k8_s0 h_o1)]) (by rw [(k8_s0 h_o1)]; decide) (by unfold ev_gv; rw [if_neg (by decide)]; show va_rf (Sx.2.2 o1 0) = _; rw [k8_r0 h_o1]; rfl) ?_
  refine Ev.run (pc' := 124) (ls' := [some (.ref 16), some (.ref o1), some (.int a2), none, some (.ref 18), some (.int a5)]) (st' := [.ref 16, .ref 17, .int a2, .ref (o1 + 1)]) (m' := ((ev_up m.1 18 14 a5), m.2)) [(.iload_n 2, 0, 0, 0, 0), (.aload_n 0, 0, 0, 0, 0), (.getfield 12, 3, 0, 0, 0), (.aload_n 0, 0, 0, 0, 0)] (by decide +kernel) rfl ?_
  refine Ev.ite (fun h1 => ?_) (fun _ => Ev.nn)
  refine Ev.getS (v := .ref ((m.1 16 2)).toNatClampNeg) (ci := 3) (k := 2) (idx := 26) (by decide +kernel) (by decide +kernel) (by decide) (by rw [show Sx.2.1 16 = (3, 4) from rfl]) (by rw [show Sx.2.1 16 = (3, 4) from rfl]; decide) (ev_gv_dyn1 rfl (Nat.pos_iff_ne_zero.mp (k1_z0 h1))) ?_
  refine Ev.getS (v := .ref (((m.1 16 2)).toNatClampNeg + 4)) (ci := 1) (k := 3) (idx := 66) (by decide +kernel) (by decide +kernel) (k1_l0 h1) (by rw [(k1_s0 h1)]) (by rw [(k1_s0 h1)]; decide) (by unfold ev_gv; rw [if_neg (by decide)]; show va_rf (Sx.2.2 ((m.1 16 2)).toNatClampNeg 3) = _; rw [k1_r3 h1]; rfl) ?_
  refine Ev.run (pc' := 131) (ls' := [some (.ref 16), some (.ref o1), some (.int a2), none, some (.ref 18), some (.int a5)]) (st' := [.ref 16, .ref (((m.1 16 2)).toNatClampNeg + 4), .ref 17, .int a2, .ref (o1 + 1)]) (m' := ((ev_up m.1 18 14 a5), m.2)) [(.aload_n 0, 0, 0, 0, 0)] (by decide +kernel) rfl ?_
  refine Ev.getS (v := .ref ((m.1 16 2)).toNatClampNeg) (ci := 3) (k := 2) (idx := 26) (by decide +kernel) (by decide +kernel) (by decide) (by rw [show Sx.2.1 16 = (3, 4) from rfl]) (by rw [show Sx.2.1 16 = (3, 4) from rfl]; decide) (ev_gv_dyn1 rfl (Nat.pos_iff_ne_zero.mp (k1_z0 h1))) ?_
  refine Ev.getS (v := .int ((ev_up m.1 18 14 a5) ((m.1 16 2)).toNatClampNeg 13)) (ci := 1) (k := 13) (idx := 84) (by decide +kernel) (by decide +kernel) (k1_l0 h1) (by rw [(k1_s0 h1)]) (by rw [(k1_s0 h1)]; decide) rfl ?_
  refine Ev.run (pc' := 138) (ls' := [some (.ref 16), some (.ref o1), some (.int a2), none, some (.ref 18), some (.int a5)]) (st' := [.ref 16, .int ((ev_up m.1 18 14 a5) ((m.1 16 2)).toNatClampNeg 13), .ref (((m.1 16 2)).toNatClampNeg + 4), .ref 17, .int a2, .ref (o1 + 1)]) (m' := ((ev_up m.1 18 14 a5), m.2)) [(.aload_n 0, 0, 0, 0, 0)] (by decide +kernel) rfl ?_
  refine Ev.getS (v := .ref ((m.1 16 2)).toNatClampNeg) (ci := 3) (k := 2) (idx := 26) (by decide +kernel) (by decide +kernel) (by decide) (by rw [show Sx.2.1 16 = (3, 4) from rfl]) (by rw [show Sx.2.1 16 = (3, 4) from rfl]; decide) (ev_gv_dyn1 rfl (Nat.pos_iff_ne_zero.mp (k1_z0 h1))) ?_
  refine Ev.getS (v := .int ((ev_up m.1 18 14 a5) ((m.1 16 2)).toNatClampNeg 14)) (ci := 1) (k := 14) (idx := 87) (by decide +kernel) (by decide +kernel) (k1_l0 h1) (by rw [(k1_s0 h1)]) (by rw [(k1_s0 h1)]; decide) rfl ?_
  refine Ev.cV (av := [.ref (((m.1 16 2)).toNatClampNeg + 4), .int ((ev_up m.1 18 14 a5) ((m.1 16 2)).toNatClampNeg 13), .int ((ev_up m.1 18 14 a5) ((m.1 16 2)).toNatClampNeg 14)]) (st := [.int a2, .ref (o1 + 1)]) (a := 17) (EX5_work (l := l) (Ln := Ln) (xs := xs) (d := 2) f (((m.1 16 2)).toNatClampNeg + 4) ((ev_up m.1 18 14 a5) ((m.1 16 2)).toNatClampNeg 13) ((ev_up m.1 18 14 a5) ((m.1 16 2)).toNatClampNeg 14) ((ev_up m.1 18 14 a5), m.2) (k1_k2 h1) (by decide)) rfl (by decide +kernel) mwX5_work iwX5_work vwX5_work lk_3_76 (by omega) (by decide) rfl (by decide) rfl rfl (Nat.le_of_ble_eq_true rfl) (fun r2 m3 => ?_)
  refine Ev.cS (av := [.int r2]) (st := [.int a2, .ref (o1 + 1)]) (EX3_graded (l := l) (Ln := Ln) (xs := xs) (d := 1) f r2 m3 (by decide)) rfl (by decide +kernel) mwX3_graded swX3_graded lk_3_80 (by omega) rfl (Nat.le_of_ble_eq_true rfl) (fun r4 m5 => ?_)
  refine Ev.iast (n := 8) (by decide +kernel) (k8_l1 h_o1) (k8_s1 h_o1) ?_
  refine Ev.run (pc' := 154) (ls' := [some (.ref 16), some (.ref o1), some (.int a2), none, some (.ref 18), some (.int a5)]) (st' := [.int a5, .ref o1]) (m' := ((ev_up m5.1 (o1 + 1) a2.toNatClampNeg r4), m5.2)) [(.aload_n 1, 0, 0, 0, 0), (.iload 5, 0, 0, 0, 0)] (by decide +kernel) rfl ?_
  refine Ev.putI (ci := 8) (k := 3) (idx := 54) (by decide +kernel) (by decide +kernel) (by decide +kernel) (k8_l0 h_o1) (by rw [(k8_s0 h_o1)]) (by rw [(k8_s0 h_o1)]; decide) rfl rfl ?_
  refine Ev.run (pc' := 164) (ls' := [some (.ref 16), some (.ref o1), some (.int a2), none, some (.ref 18), some (.int a5)]) (st' := [.int a5, .int a2, .ref 21]) (m' := ((ev_up (ev_up m5.1 (o1 + 1) a2.toNatClampNeg r4) o1 3 a5), m5.2)) [(.aload_n 0, 0, 0, 0, 0), (.getfield 18, 3, 1, 0, 0), (.iload_n 2, 0, 0, 0, 0), (.iload 5, 0, 0, 0, 0)] (by decide +kernel) rfl ?_
  refine Ev.iast (n := 8) (by decide +kernel) (by decide) rfl ?_
  exact Ev.retv rfl rfl (by decide +kernel)
set_option maxRecDepth 100000 in
set_option maxHeartbeats 4000000 in
theorem EX3_goThrough {l : Launch} {Ln : Nat} {xs : Nat → Int32} {d : Nat} (f : Nat) (o1 : Nat) (a2 : Int32) (a3 : Int32) (m : ev_M) (h_o1 : isK 8 o1) (hd : 3 ≤ d) : Mv ev_eV l Ln xs YX3_goThrough d Sx [.ref 16, .ref o1, .int a2, .int a3] m (FX3_goThrough f o1 a2 a3 m) := by
  refine Mv.of (by decide +kernel) rfl (Nat.le_of_ble_eq_true rfl) (Ev.le (ls' := [some (.ref 16), some (.ref o1), some (.int a2), some (.int a3), none, none]) ⟨rfl, ⟨rfl, ⟨rfl, ⟨rfl, trivial⟩⟩⟩⟩ ?_)
  unfold FX3_goThrough
  refine Ev.run (pc' := 14) (ls' := [some (.ref 16), some (.ref o1), some (.int a2), some (.int a3), some (.ref 18), none]) (st' := [.ref o1, .int 10, .ref 18]) (m' := m) [(.aload_n 0, 0, 0, 0, 0), (.getfield 12, 3, 0, 0, 0), (.getfield 51, 5, 0, 0, 0), (.astore 4, 0, 0, 0, 0), (.aload 4, 0, 0, 0, 0), (.bipush 10, 0, 0, 10, 0), (.aload_n 1, 0, 0, 0, 0)] (by decide +kernel) rfl ?_
  refine Ev.getS (v := .int (m.1 o1 3)) (ci := 8) (k := 3) (idx := 54) (by decide +kernel) (by decide +kernel) (k8_l0 h_o1) (by rw [(k8_s0 h_o1)]) (by rw [(k8_s0 h_o1)]; decide) rfl ?_
  refine Ev.iastK (n := 29) (j := 10) (by decide +kernel) (by decide) rfl rfl (by decide) ?_
  refine Ev.run (pc' := 22) (ls' := [some (.ref 16), some (.ref o1), some (.int a2), some (.int a3), some (.ref 18), none]) (st' := [.ref o1, .int 2, .ref 18]) (m' := ((ev_up m.1 18 10 (m.1 o1 3)), m.2)) [(.aload 4, 0, 0, 0, 0), (.iconst 2, 0, 0, 2, 0), (.aload_n 1, 0, 0, 0, 0)] (by decide +kernel) rfl ?_
  refine Ev.getS (v := .ref (o1 + 1)) (ci := 8) (k := 0) (idx := 57) (by decide +kernel) (by decide +kernel) (k8_l0 h_o1) (by rw [(k8_s0 h_o1)]) (by rw [(k8_s0 h_o1)]; decide) (by unfold ev_gv; rw [if_neg (by decide)]; show va_rf (Sx.2.2 o1 0) = _; rw [k8_r0 h_o1]; rfl) ?_
  refine Ev.run (pc' := 26) (ls' := [some (.ref 16), some (.ref o1), some (.int a2), some (.int a3), some (.ref 18), none]) (st' := [.int a2, .ref (o1 + 1), .int 2, .ref 18]) (m' := ((ev_up m.1 18 10 (m.1 o1 3)), m.2)) [(.iload_n 2, 0, 0, 0, 0)] (by decide +kernel) rfl ?_
  refine Ev.iald (n := 8) (by decide +kernel) (k8_l1 h_o1) (k8_s1 h_o1) ?_
  refine Ev.iastK (n := 29) (j := 2) (by decide +kernel) (by decide) rfl rfl (by decide) ?_
  refine Ev.run (pc' := 32) (ls' := [some (.ref 16), some (.ref o1), some (.int a2), some (.int a3), some (.ref 18), none]) (st' := [.ref o1, .int 3, .ref 18]) (m' := ((ev_up (ev_up m.1 18 10 (m.1 o1 3)) 18 2 ((ev_up m.1 18 10 (m.1 o1 3)) (o1 + 1) a2.toNatClampNeg)), m.2)) [(.aload 4, 0, 0, 0, 0), (.iconst 3, 0, 0, 3, 0), (.aload_n 1, 0, 0, 0, 0)] (by decide +kernel) rfl ?_
  refine Ev.getS (v := .ref (o1 + 2)) (ci := 8) (k := 1) (idx := 60) (by decide +kernel) (by decide +kernel) (k8_l0 h_o1) (by rw [(k8_s0 h_o1)]) (by rw [(k8_s0 h_o1)]; decide) (by unfold ev_gv; rw [if_neg (by decide)]; show va_rf (Sx.2.2 o1 1) = _; rw [k8_r1 h_o1]; rfl) ?_
  refine Ev.run (pc' := 36) (ls' := [some (.ref 16), some (.ref o1), some (.int a2), some (.int a3), some (.ref 18), none]) (st' := [.int a2, .ref (o1 + 2), .int 3, .ref 18]) (m' := ((ev_up (ev_up m.1 18 10 (m.1 o1 3)) 18 2 ((ev_up m.1 18 10 (m.1 o1 3)) (o1 + 1) a2.toNatClampNeg)), m.2)) [(.iload_n 2, 0, 0, 0, 0)] (by decide +kernel) rfl ?_
  refine Ev.iald (n := 8) (by decide +kernel) (k8_l2 h_o1) (k8_s2 h_o1) ?_
  refine Ev.iastK (n := 29) (j := 3) (by decide +kernel) (by decide) rfl rfl (by decide) ?_
  refine Ev.run (pc' := 43) (ls' := [some (.ref 16), some (.ref o1), some (.int a2), some (.int a3), some (.ref 18), none]) (st' := [.ref o1, .int 11, .ref 18]) (m' := ((ev_up (ev_up (ev_up m.1 18 10 (m.1 o1 3)) 18 2 ((ev_up m.1 18 10 (m.1 o1 3)) (o1 + 1) a2.toNatClampNeg)) 18 3 ((ev_up (ev_up m.1 18 10 (m.1 o1 3)) 18 2 ((ev_up m.1 18 10 (m.1 o1 3)) (o1 + 1) a2.toNatClampNeg)) (o1 + 2) a2.toNatClampNeg)), m.2)) [(.aload 4, 0, 0, 0, 0), (.bipush 11, 0, 0, 11, 0), (.aload_n 1, 0, 0, 0, 0)] (by decide +kernel) rfl ?_
  refine Ev.getS (v := .int ((ev_up (ev_up (ev_up m.1 18 10 (m.1 o1 3)) 18 2 ((ev_up m.1 18 10 (m.1 o1 3)) (o1 + 1) a2.toNatClampNeg)) 18 3 ((ev_up (ev_up m.1 18 10 (m.1 o1 3)) 18 2 ((ev_up m.1 18 10 (m.1 o1 3)) (o1 + 1) a2.toNatClampNeg)) (o1 + 2) a2.toNatClampNeg)) o1 2)) (ci := 8) (k := 2) (idx := 48) (by decide +kernel) (by decide +kernel) (k8_l0 h_o1) (by rw [(k8_s0 h_o1)]) (by rw [(k8_s0 h_o1)]; decide) rfl ?_
  refine Ev.iastK (n := 29) (j := 11) (by decide +kernel) (by decide) rfl rfl (by decide) ?_
  refine Ev.run (pc' := 52) (ls' := [some (.ref 16), some (.ref o1), some (.int a2), some (.int a3), some (.ref 18), none]) (st' := [.int a2, .int 12, .ref 18]) (m' := ((ev_up (ev_up (ev_up (ev_up m.1 18 10 (m.1 o1 3)) 18 2 ((ev_up m.1 18 10 (m.1 o1 3)) (o1 + 1) a2.toNatClampNeg)) 18 3 ((ev_up (ev_up m.1 18 10 (m.1 o1 3)) 18 2 ((ev_up m.1 18 10 (m.1 o1 3)) (o1 + 1) a2.toNatClampNeg)) (o1 + 2) a2.toNatClampNeg)) 18 11 ((ev_up (ev_up (ev_up m.1 18 10 (m.1 o1 3)) 18 2 ((ev_up m.1 18 10 (m.1 o1 3)) (o1 + 1) a2.toNatClampNeg)) 18 3 ((ev_up (ev_up m.1 18 10 (m.1 o1 3)) 18 2 ((ev_up m.1 18 10 (m.1 o1 3)) (o1 + 1) a2.toNatClampNeg)) (o1 + 2) a2.toNatClampNeg)) o1 2)), m.2)) [(.aload 4, 0, 0, 0, 0), (.bipush 12, 0, 0, 12, 0), (.iload_n 2, 0, 0, 0, 0)] (by decide +kernel) rfl ?_
  refine Ev.iastK (n := 29) (j := 12) (by decide +kernel) (by decide) rfl rfl (by decide) ?_
  refine Ev.run (pc' := 58) (ls' := [some (.ref 16), some (.ref o1), some (.int a2), some (.int a3), some (.ref 18), none]) (st' := [.int a3, .int 13, .ref 18]) (m' := ((ev_up (ev_up (ev_up (ev_up (ev_up m.1 18 10 (m.1 o1 3)) 18 2 ((ev_up m.1 18 10 (m.1 o1 3)) (o1 + 1) a2.toNatClampNeg)) 18 3 ((ev_up (ev_up m.1 18 10 (m.1 o1 3)) 18 2 ((ev_up m.1 18 10 (m.1 o1 3)) (o1 + 1) a2.toNatClampNeg)) (o1 + 2) a2.toNatClampNeg)) 18 11 ((ev_up (ev_up (ev_up m.1 18 10 (m.1 o1 3)) 18 2 ((ev_up m.1 18 10 (m.1 o1 3)) (o1 + 1) a2.toNatClampNeg)) 18 3 ((ev_up (ev_up m.1 18 10 (m.1 o1 3)) 18 2 ((ev_up m.1 18 10 (m.1 o1 3)) (o1 + 1) a2.toNatClampNeg)) (o1 + 2) a2.toNatClampNeg)) o1 2)) 18 12 a2), m.2)) [(.aload 4, 0, 0, 0, 0), (.bipush 13, 0, 0, 13, 0), (.iload_n 3, 0, 0, 0, 0)] (by decide +kernel) rfl ?_
  refine Ev.iastK (n := 29) (j := 13) (by decide +kernel) (by decide) rfl rfl (by decide) ?_
  refine Ev.run (pc' := 64) (ls' := [some (.ref 16), some (.ref o1), some (.int a2), some (.int a3), some (.ref 18), some (.int 9)]) (st' := [.ref o1]) (m' := ((ev_up (ev_up (ev_up (ev_up (ev_up (ev_up m.1 18 10 (m.1 o1 3)) 18 2 ((ev_up m.1 18 10 (m.1 o1 3)) (o1 + 1) a2.toNatClampNeg)) 18 3 ((ev_up (ev_up m.1 18 10 (m.1 o1 3)) 18 2 ((ev_up m.1 18 10 (m.1 o1 3)) (o1 + 1) a2.toNatClampNeg)) (o1 + 2) a2.toNatClampNeg)) 18 11 ((ev_up (ev_up (ev_up m.1 18 10 (m.1 o1 3)) 18 2 ((ev_up m.1 18 10 (m.1 o1 3)) (o1 + 1) a2.toNatClampNeg)) 18 3 ((ev_up (ev_up m.1 18 10 (m.1 o1 3)) 18 2 ((ev_up m.1 18 10 (m.1 o1 3)) (o1 + 1) a2.toNatClampNeg)) (o1 + 2) a2.toNatClampNeg)) o1 2)) 18 12 a2) 18 13 a3), m.2)) [(.bipush 9, 0, 0, 9, 0), (.istore 5, 0, 0, 0, 0), (.aload_n 1, 0, 0, 0, 0)] (by decide +kernel) rfl ?_
  refine Ev.getS (v := .int ((ev_up (ev_up (ev_up (ev_up (ev_up (ev_up m.1 18 10 (m.1 o1 3)) 18 2 ((ev_up m.1 18 10 (m.1 o1 3)) (o1 + 1) a2.toNatClampNeg)) 18 3 ((ev_up (ev_up m.1 18 10 (m.1 o1 3)) 18 2 ((ev_up m.1 18 10 (m.1 o1 3)) (o1 + 1) a2.toNatClampNeg)) (o1 + 2) a2.toNatClampNeg)) 18 11 ((ev_up (ev_up (ev_up m.1 18 10 (m.1 o1 3)) 18 2 ((ev_up m.1 18 10 (m.1 o1 3)) (o1 + 1) a2.toNatClampNeg)) 18 3 ((ev_up (ev_up m.1 18 10 (m.1 o1 3)) 18 2 ((ev_up m.1 18 10 (m.1 o1 3)) (o1 + 1) a2.toNatClampNeg)) (o1 + 2) a2.toNatClampNeg)) o1 2)) 18 12 a2) 18 13 a3) o1 4)) (ci := 8) (k := 4) (idx := 63) (by decide +kernel) (by decide +kernel) (k8_l0 h_o1) (by rw [(k8_s0 h_o1)]) (by rw [(k8_s0 h_o1)]; decide) rfl ?_
  refine Ev.run (pc' := 71) (ls' := [some (.ref 16), some (.ref o1), some (.int a2), some (.int a3), some (.ref 18), some (.int 9)]) (st' := [.int ((((ev_up (ev_up (ev_up (ev_up (ev_up (ev_up m.1 18 10 (m.1 o1 3)) 18 2 ((ev_up m.1 18 10 (m.1 o1 3)) (o1 + 1) a2.toNatClampNeg)) 18 3 ((ev_up (ev_up m.1 18 10 (m.1 o1 3)) 18 2 ((ev_up m.1 18 10 (m.1 o1 3)) (o1 + 1) a2.toNatClampNeg)) (o1 + 2) a2.toNatClampNeg)) 18 11 ((ev_up (ev_up (ev_up m.1 18 10 (m.1 o1 3)) 18 2 ((ev_up m.1 18 10 (m.1 o1 3)) (o1 + 1) a2.toNatClampNeg)) 18 3 ((ev_up (ev_up m.1 18 10 (m.1 o1 3)) 18 2 ((ev_up m.1 18 10 (m.1 o1 3)) (o1 + 1) a2.toNatClampNeg)) (o1 + 2) a2.toNatClampNeg)) o1 2)) 18 12 a2) 18 13 a3) o1 4) >>> (a2 &&& 31)) &&& 1)]) (m' := ((ev_up (ev_up (ev_up (ev_up (ev_up (ev_up m.1 18 10 (m.1 o1 3)) 18 2 ((ev_up m.1 18 10 (m.1 o1 3)) (o1 + 1) a2.toNatClampNeg)) 18 3 ((ev_up (ev_up m.1 18 10 (m.1 o1 3)) 18 2 ((ev_up m.1 18 10 (m.1 o1 3)) (o1 + 1) a2.toNatClampNeg)) (o1 + 2) a2.toNatClampNeg)) 18 11 ((ev_up (ev_up (ev_up m.1 18 10 (m.1 o1 3)) 18 2 ((ev_up m.1 18 10 (m.1 o1 3)) (o1 + 1) a2.toNatClampNeg)) 18 3 ((ev_up (ev_up m.1 18 10 (m.1 o1 3)) 18 2 ((ev_up m.1 18 10 (m.1 o1 3)) (o1 + 1) a2.toNatClampNeg)) (o1 + 2) a2.toNatClampNeg)) o1 2)) 18 12 a2) 18 13 a3), m.2)) [(.iload_n 2, 0, 0, 0, 0), (.ishr, 0, 0, 0, 0), (.iconst 1, 0, 0, 1, 0), (.iand, 0, 0, 0, 0)] (by decide +kernel) rfl ?_
  refine Ev.if_ne (t := 107) (by decide +kernel) ?_ ?_
  · refine Ev.le (ls' := [some (.ref 16), some (.ref o1), some (.int a2), none, some (.ref 18), some (.int 9)]) ⟨rfl, ⟨rfl, ⟨rfl, ⟨rfl, ⟨rfl, trivial⟩⟩⟩⟩⟩ ?_
    exact EX3_goThrough_J107 f o1 a2 (9 : Int32) ((ev_up (ev_up (ev_up (ev_up (ev_up (ev_up m.1 18 10 (m.1 o1 3)) 18 2 ((ev_up m.1 18 10 (m.1 o1 3)) (o1 + 1) a2.toNatClampNeg)) 18 3 ((ev_up (ev_up m.1 18 10 (m.1 o1 3)) 18 2 ((ev_up m.1 18 10 (m.1 o1 3)) (o1 + 1) a2.toNatClampNeg)) (o1 + 2) a2.toNatClampNeg)) 18 11 ((ev_up (ev_up (ev_up m.1 18 10 (m.1 o1 3)) 18 2 ((ev_up m.1 18 10 (m.1 o1 3)) (o1 + 1) a2.toNatClampNeg)) 18 3 ((ev_up (ev_up m.1 18 10 (m.1 o1 3)) 18 2 ((ev_up m.1 18 10 (m.1 o1 3)) (o1 + 1) a2.toNatClampNeg)) (o1 + 2) a2.toNatClampNeg)) o1 2)) 18 12 a2) 18 13 a3), m.2) h_o1 (by omega)
  · refine Ev.run (pc' := 79) (ls' := [some (.ref 16), some (.ref o1), some (.int a2), some (.int a3), some (.ref 18), some (.int 9)]) (st' := [.ref 16, .ref 17]) (m' := ((ev_up (ev_up (ev_up (ev_up (ev_up (ev_up m.1 18 10 (m.1 o1 3)) 18 2 ((ev_up m.1 18 10 (m.1 o1 3)) (o1 + 1) a2.toNatClampNeg)) 18 3 ((ev_up (ev_up m.1 18 10 (m.1 o1 3)) 18 2 ((ev_up m.1 18 10 (m.1 o1 3)) (o1 + 1) a2.toNatClampNeg)) (o1 + 2) a2.toNatClampNeg)) 18 11 ((ev_up (ev_up (ev_up m.1 18 10 (m.1 o1 3)) 18 2 ((ev_up m.1 18 10 (m.1 o1 3)) (o1 + 1) a2.toNatClampNeg)) 18 3 ((ev_up (ev_up m.1 18 10 (m.1 o1 3)) 18 2 ((ev_up m.1 18 10 (m.1 o1 3)) (o1 + 1) a2.toNatClampNeg)) (o1 + 2) a2.toNatClampNeg)) o1 2)) 18 12 a2) 18 13 a3), m.2)) [(.aload_n 0, 0, 0, 0, 0), (.getfield 12, 3, 0, 0, 0), (.aload_n 0, 0, 0, 0, 0)] (by decide +kernel) rfl ?_
    refine Ev.ite (fun h6 => ?_) (fun _ => Ev.nn)
    refine Ev.getS (v := .ref ((m.1 16 2)).toNatClampNeg) (ci := 3) (k := 2) (idx := 26) (by decide +kernel) (by decide +kernel) (by decide) (by rw [show Sx.2.1 16 = (3, 4) from rfl]) (by rw [show Sx.2.1 16 = (3, 4) from rfl]; decide) (ev_gv_dyn1 rfl (Nat.pos_iff_ne_zero.mp (k1_z0 h6))) ?_
    refine Ev.getS (v := .ref (((m.1 16 2)).toNatClampNeg + 4)) (ci := 1) (k := 3) (idx := 66) (by decide +kernel) (by decide +kernel) (k1_l0 h6) (by rw [(k1_s0 h6)]) (by rw [(k1_s0 h6)]; decide) (by unfold ev_gv; rw [if_neg (by decide)]; show va_rf (Sx.2.2 ((m.1 16 2)).toNatClampNeg 3) = _; rw [k1_r3 h6]; rfl) ?_
    refine Ev.run (pc' := 86) (ls' := [some (.ref 16), some (.ref o1), some (.int a2), some (.int a3), some (.ref 18), some (.int 9)]) (st' := [.ref 16, .ref (((m.1 16 2)).toNatClampNeg + 4), .ref 17]) (m' := ((ev_up (ev_up (ev_up (ev_up (ev_up (ev_up m.1 18 10 (m.1 o1 3)) 18 2 ((ev_up m.1 18 10 (m.1 o1 3)) (o1 + 1) a2.toNatClampNeg)) 18 3 ((ev_up (ev_up m.1 18 10 (m.1 o1 3)) 18 2 ((ev_up m.1 18 10 (m.1 o1 3)) (o1 + 1) a2.toNatClampNeg)) (o1 + 2) a2.toNatClampNeg)) 18 11 ((ev_up (ev_up (ev_up m.1 18 10 (m.1 o1 3)) 18 2 ((ev_up m.1 18 10 (m.1 o1 3)) (o1 + 1) a2.toNatClampNeg)) 18 3 ((ev_up (ev_up m.1 18 10 (m.1 o1 3)) 18 2 ((ev_up m.1 18 10 (m.1 o1 3)) (o1 + 1) a2.toNatClampNeg)) (o1 + 2) a2.toNatClampNeg)) o1 2)) 18 12 a2) 18 13 a3), m.2)) [(.aload_n 0, 0, 0, 0, 0)] (by decide +kernel) rfl ?_
    refine Ev.getS (v := .ref ((m.1 16 2)).toNatClampNeg) (ci := 3) (k := 2) (idx := 26) (by decide +kernel) (by decide +kernel) (by decide) (by rw [show Sx.2.1 16 = (3, 4) from rfl]) (by rw [show Sx.2.1 16 = (3, 4) from rfl]; decide) (ev_gv_dyn1 rfl (Nat.pos_iff_ne_zero.mp (k1_z0 h6))) ?_
    refine Ev.getS (v := .int ((ev_up (ev_up (ev_up (ev_up (ev_up (ev_up m.1 18 10 (m.1 o1 3)) 18 2 ((ev_up m.1 18 10 (m.1 o1 3)) (o1 + 1) a2.toNatClampNeg)) 18 3 ((ev_up (ev_up m.1 18 10 (m.1 o1 3)) 18 2 ((ev_up m.1 18 10 (m.1 o1 3)) (o1 + 1) a2.toNatClampNeg)) (o1 + 2) a2.toNatClampNeg)) 18 11 ((ev_up (ev_up (ev_up m.1 18 10 (m.1 o1 3)) 18 2 ((ev_up m.1 18 10 (m.1 o1 3)) (o1 + 1) a2.toNatClampNeg)) 18 3 ((ev_up (ev_up m.1 18 10 (m.1 o1 3)) 18 2 ((ev_up m.1 18 10 (m.1 o1 3)) (o1 + 1) a2.toNatClampNeg)) (o1 + 2) a2.toNatClampNeg)) o1 2)) 18 12 a2) 18 13 a3) ((m.1 16 2)).toNatClampNeg 11)) (ci := 1) (k := 11) (idx := 70) (by decide +kernel) (by decide +kernel) (k1_l0 h6) (by rw [(k1_s0 h6)]) (by rw [(k1_s0 h6)]; decide) rfl ?_
    refine Ev.run (pc' := 93) (ls' := [some (.ref 16), some (.ref o1), some (.int a2), some (.int a3), some (.ref 18), some (.int 9)]) (st' := [.ref 16, .int ((ev_up (ev_up (ev_up (ev_up (ev_up (ev_up m.1 18 10 (m.1 o1 3)) 18 2 ((ev_up m.1 18 10 (m.1 o1 3)) (o1 + 1) a2.toNatClampNeg)) 18 3 ((ev_up (ev_up m.1 18 10 (m.1 o1 3)) 18 2 ((ev_up m.1 18 10 (m.1 o1 3)) (o1 + 1) a2.toNatClampNeg)) (o1 + 2) a2.toNatClampNeg)) 18 11 ((ev_up (ev_up (ev_up m.1 18 10 (m.1 o1 3)) 18 2 ((ev_up m.1 18 10 (m.1 o1 3)) (o1 + 1) a2.toNatClampNeg)) 18 3 ((ev_up (ev_up m.1 18 10 (m.1 o1 3)) 18 2 ((ev_up m.1 18 10 (m.1 o1 3)) (o1 + 1) a2.toNatClampNeg)) (o1 + 2) a2.toNatClampNeg)) o1 2)) 18 12 a2) 18 13 a3) ((m.1 16 2)).toNatClampNeg 11), .ref (((m.1 16 2)).toNatClampNeg + 4), .ref 17]) (m' := ((ev_up (ev_up (ev_up (ev_up (ev_up (ev_up m.1 18 10 (m.1 o1 3)) 18 2 ((ev_up m.1 18 10 (m.1 o1 3)) (o1 + 1) a2.toNatClampNeg)) 18 3 ((ev_up (ev_up m.1 18 10 (m.1 o1 3)) 18 2 ((ev_up m.1 18 10 (m.1 o1 3)) (o1 + 1) a2.toNatClampNeg)) (o1 + 2) a2.toNatClampNeg)) 18 11 ((ev_up (ev_up (ev_up m.1 18 10 (m.1 o1 3)) 18 2 ((ev_up m.1 18 10 (m.1 o1 3)) (o1 + 1) a2.toNatClampNeg)) 18 3 ((ev_up (ev_up m.1 18 10 (m.1 o1 3)) 18 2 ((ev_up m.1 18 10 (m.1 o1 3)) (o1 + 1) a2.toNatClampNeg)) (o1 + 2) a2.toNatClampNeg)) o1 2)) 18 12 a2) 18 13 a3), m.2)) [(.aload_n 0, 0, 0, 0, 0)] (by decide +kernel) rfl ?_
    refine Ev.getS (v := .ref ((m.1 16 2)).toNatClampNeg) (ci := 3) (k := 2) (idx := 26) (by decide +kernel) (by decide +kernel) (by decide) (by rw [show Sx.2.1 16 = (3, 4) from rfl]) (by rw [show Sx.2.1 16 = (3, 4) from rfl]; decide) (ev_gv_dyn1 rfl (Nat.pos_iff_ne_zero.mp (k1_z0 h6))) ?_
    refine Ev.getS (v := .int ((ev_up (ev_up (ev_up (ev_up (ev_up (ev_up m.1 18 10 (m.1 o1 3)) 18 2 ((ev_up m.1 18 10 (m.1 o1 3)) (o1 + 1) a2.toNatClampNeg)) 18 3 ((ev_up (ev_up m.1 18 10 (m.1 o1 3)) 18 2 ((ev_up m.1 18 10 (m.1 o1 3)) (o1 + 1) a2.toNatClampNeg)) (o1 + 2) a2.toNatClampNeg)) 18 11 ((ev_up (ev_up (ev_up m.1 18 10 (m.1 o1 3)) 18 2 ((ev_up m.1 18 10 (m.1 o1 3)) (o1 + 1) a2.toNatClampNeg)) 18 3 ((ev_up (ev_up m.1 18 10 (m.1 o1 3)) 18 2 ((ev_up m.1 18 10 (m.1 o1 3)) (o1 + 1) a2.toNatClampNeg)) (o1 + 2) a2.toNatClampNeg)) o1 2)) 18 12 a2) 18 13 a3) ((m.1 16 2)).toNatClampNeg 12)) (ci := 1) (k := 12) (idx := 73) (by decide +kernel) (by decide +kernel) (k1_l0 h6) (by rw [(k1_s0 h6)]) (by rw [(k1_s0 h6)]; decide) rfl ?_
    refine Ev.cV (av := [.ref (((m.1 16 2)).toNatClampNeg + 4), .int ((ev_up (ev_up (ev_up (ev_up (ev_up (ev_up m.1 18 10 (m.1 o1 3)) 18 2 ((ev_up m.1 18 10 (m.1 o1 3)) (o1 + 1) a2.toNatClampNeg)) 18 3 ((ev_up (ev_up m.1 18 10 (m.1 o1 3)) 18 2 ((ev_up m.1 18 10 (m.1 o1 3)) (o1 + 1) a2.toNatClampNeg)) (o1 + 2) a2.toNatClampNeg)) 18 11 ((ev_up (ev_up (ev_up m.1 18 10 (m.1 o1 3)) 18 2 ((ev_up m.1 18 10 (m.1 o1 3)) (o1 + 1) a2.toNatClampNeg)) 18 3 ((ev_up (ev_up m.1 18 10 (m.1 o1 3)) 18 2 ((ev_up m.1 18 10 (m.1 o1 3)) (o1 + 1) a2.toNatClampNeg)) (o1 + 2) a2.toNatClampNeg)) o1 2)) 18 12 a2) 18 13 a3) ((m.1 16 2)).toNatClampNeg 11), .int ((ev_up (ev_up (ev_up (ev_up (ev_up (ev_up m.1 18 10 (m.1 o1 3)) 18 2 ((ev_up m.1 18 10 (m.1 o1 3)) (o1 + 1) a2.toNatClampNeg)) 18 3 ((ev_up (ev_up m.1 18 10 (m.1 o1 3)) 18 2 ((ev_up m.1 18 10 (m.1 o1 3)) (o1 + 1) a2.toNatClampNeg)) (o1 + 2) a2.toNatClampNeg)) 18 11 ((ev_up (ev_up (ev_up m.1 18 10 (m.1 o1 3)) 18 2 ((ev_up m.1 18 10 (m.1 o1 3)) (o1 + 1) a2.toNatClampNeg)) 18 3 ((ev_up (ev_up m.1 18 10 (m.1 o1 3)) 18 2 ((ev_up m.1 18 10 (m.1 o1 3)) (o1 + 1) a2.toNatClampNeg)) (o1 + 2) a2.toNatClampNeg)) o1 2)) 18 12 a2) 18 13 a3) ((m.1 16 2)).toNatClampNeg 12)]) (st := []) (a := 17) (EX5_work (l := l) (Ln := Ln) (xs := xs) (d := 2) f (((m.1 16 2)).toNatClampNeg + 4) ((ev_up (ev_up (ev_up (ev_up (ev_up (ev_up m.1 18 10 (m.1 o1 3)) 18 2 ((ev_up m.1 18 10 (m.1 o1 3)) (o1 + 1) a2.toNatClampNeg)) 18 3 ((ev_up (ev_up m.1 18 10 (m.1 o1 3)) 18 2 ((ev_up m.1 18 10 (m.1 o1 3)) (o1 + 1) a2.toNatClampNeg)) (o1 + 2) a2.toNatClampNeg)) 18 11 ((ev_up (ev_up (ev_up m.1 18 10 (m.1 o1 3)) 18 2 ((ev_up m.1 18 10 (m.1 o1 3)) (o1 + 1) a2.toNatClampNeg)) 18 3 ((ev_up (ev_up m.1 18 10 (m.1 o1 3)) 18 2 ((ev_up m.1 18 10 (m.1 o1 3)) (o1 + 1) a2.toNatClampNeg)) (o1 + 2) a2.toNatClampNeg)) o1 2)) 18 12 a2) 18 13 a3) ((m.1 16 2)).toNatClampNeg 11) ((ev_up (ev_up (ev_up (ev_up (ev_up (ev_up m.1 18 10 (m.1 o1 3)) 18 2 ((ev_up m.1 18 10 (m.1 o1 3)) (o1 + 1) a2.toNatClampNeg)) 18 3 ((ev_up (ev_up m.1 18 10 (m.1 o1 3)) 18 2 ((ev_up m.1 18 10 (m.1 o1 3)) (o1 + 1) a2.toNatClampNeg)) (o1 + 2) a2.toNatClampNeg)) 18 11 ((ev_up (ev_up (ev_up m.1 18 10 (m.1 o1 3)) 18 2 ((ev_up m.1 18 10 (m.1 o1 3)) (o1 + 1) a2.toNatClampNeg)) 18 3 ((ev_up (ev_up m.1 18 10 (m.1 o1 3)) 18 2 ((ev_up m.1 18 10 (m.1 o1 3)) (o1 + 1) a2.toNatClampNeg)) (o1 + 2) a2.toNatClampNeg)) o1 2)) 18 12 a2) 18 13 a3) ((m.1 16 2)).toNatClampNeg 12) ((ev_up (ev_up (ev_up (ev_up (ev_up (ev_up m.1 18 10 (m.1 o1 3)) 18 2 ((ev_up m.1 18 10 (m.1 o1 3)) (o1 + 1) a2.toNatClampNeg)) 18 3 ((ev_up (ev_up m.1 18 10 (m.1 o1 3)) 18 2 ((ev_up m.1 18 10 (m.1 o1 3)) (o1 + 1) a2.toNatClampNeg)) (o1 + 2) a2.toNatClampNeg)) 18 11 ((ev_up (ev_up (ev_up m.1 18 10 (m.1 o1 3)) 18 2 ((ev_up m.1 18 10 (m.1 o1 3)) (o1 + 1) a2.toNatClampNeg)) 18 3 ((ev_up (ev_up m.1 18 10 (m.1 o1 3)) 18 2 ((ev_up m.1 18 10 (m.1 o1 3)) (o1 + 1) a2.toNatClampNeg)) (o1 + 2) a2.toNatClampNeg)) o1 2)) 18 12 a2) 18 13 a3), m.2) (k1_k2 h6) (by decide)) rfl (by decide +kernel) mwX5_work iwX5_work vwX5_work lk_3_76 (by omega) (by decide) rfl (by decide) rfl rfl (Nat.le_of_ble_eq_true rfl) (fun r7 m8 => ?_)
    refine Ev.cS (av := [.int r7]) (st := []) (EX3_graded (l := l) (Ln := Ln) (xs := xs) (d := 1) f r7 m8 (by decide)) rfl (by decide +kernel) mwX3_graded swX3_graded lk_3_80 (by omega) rfl (Nat.le_of_ble_eq_true rfl) (fun r9 m10 => ?_)
    refine Ev.run (pc' := 107) (ls' := [some (.ref 16), some (.ref o1), some (.int a2), some (.int a3), some (.ref 18), some (.int r9)]) (st' := []) (m' := m10) [(.istore 5, 0, 0, 0, 0)] (by decide +kernel) rfl ?_
    refine Ev.le (ls' := [some (.ref 16), some (.ref o1), some (.int a2), none, some (.ref 18), some (.int r9)]) ⟨rfl, ⟨rfl, ⟨rfl, ⟨rfl, ⟨rfl, trivial⟩⟩⟩⟩⟩ ?_
    exact EX3_goThrough_J107 f o1 a2 r9 m10 h_o1 (by omega)
def FX3_go_J57 (f : Nat) (kt7 : Int32 → ev_M → Option (Unit × ev_M))  (a3 : Int32)  (m : ev_M) : Option (Unit × ev_M) :=
  (kt7 (a3 + 1) m)
def FX3_go_L7 (f : Nat) (k : ev_M → Option (Unit × ev_M)) (o1 : Nat) (a2 : Int32) : Nat → Int32 → ev_M → Option (Unit × ev_M)
  | 0, _, _ => none
  | n + 1, a3, m => (if isK 1 ((m.1 16 2)).toNatClampNeg then (if (m.1 ((m.1 16 2)).toNatClampNeg 5) ≤ a3 then (k m) else (ev_bd (FX3_goThrough f o1 a3 ((a2 >>> (a3 &&& 31)) &&& 1) m) (fun _ m3 => (if ev_in a3 8 then (if isK 1 ((m3.1 16 2)).toNatClampNeg then (if (m3.1 ((m3.1 16 2)).toNatClampNeg 8) ≤ (m3.1 21 a3.toNatClampNeg) then (FX3_go_J57 f (FX3_go_L7 f k o1 a2 n) a3 m3) else (FX3_go_J57 f (FX3_go_L7 f k o1 a2 n) a3 ((ev_up m3.1 16 3 ((m3.1 16 3) ||| (1 <<< (a3 &&& 31)))), m3.2))) else none) else none)))) else none)
def FX3_go (f : Nat) (o1 : Nat) (a2 : Int32) (m : ev_M) : Option (Unit × ev_M) :=
  (FX3_go_L7 f (fun m5 => (ev_bd (FX8_hasNext f o1 m5) (fun r6 m7 => (if r6 = 0 then some ((), m7) else some ((), ((ev_up m7.1 o1 2 ((m7.1 o1 2) + 1)), m7.2)))))) o1 a2 f (0 : Int32) ((ev_up m.1 16 3 0), m.2))
set_option maxRecDepth 100000 in
set_option maxHeartbeats 4000000 in
theorem EX3_go_J57 {l : Launch} {Ln : Nat} {xs : Nat → Int32} {d : Nat} (f : Nat) (kt7 : Int32 → ev_M → Option (Unit × ev_M)) (o1 : Nat) (a2 : Int32) (a3 : Int32)  (m : ev_M) (h_o1 : isK 8 o1) (hkt7 : ∀ (e3 : Int32) (em : ev_M), Ev ev_eV l Ln xs YX3_go d Sx 7 [some (.ref 16), some (.ref o1), some (.int a2), some (.int e3)] [] em (kt7 e3 em)) (hd : 4 ≤ d) : Ev ev_eV l Ln xs YX3_go d Sx 57 [some (.ref 16), some (.ref o1), some (.int a2), some (.int a3)] [] m (FX3_go_J57 f kt7 a3 m) := by
  unfold FX3_go_J57
  refine Ev.run (pc' := 60) (ls' := [some (.ref 16), some (.ref o1), some (.int a2), some (.int (a3 + 1))]) (st' := []) (m' := m) [(.iinc 3 1, 0, 0, 1, 0)] (by decide +kernel) rfl ?_
  refine Ev.gto (t := 7) (by decide +kernel) ?_
  exact hkt7 _ _
set_option maxRecDepth 100000 in
set_option maxHeartbeats 4000000 in
theorem EX3_go_L7 {l : Launch} {Ln : Nat} {xs : Nat → Int32} {d : Nat} (f : Nat) (k : ev_M → Option (Unit × ev_M)) (o1 : Nat) (a2 : Int32) (h_o1 : isK 8 o1)  (hk : ∀  (em : ev_M), Ev ev_eV l Ln xs YX3_go d Sx 63 [none, some (.ref o1), none, none] [] em (k em)) (hd : 4 ≤ d) : ∀ (n : Nat) (a3 : Int32) (m : ev_M), Ev ev_eV l Ln xs YX3_go d Sx 7 [some (.ref 16), some (.ref o1), some (.int a2), some (.int a3)] [] m (FX3_go_L7 f k o1 a2 n a3 m) := by
  intro n
  induction n with
  | zero => intros; exact Ev.nn
  | succ n ih =>
    intro a3 m
    rw [FX3_go_L7]
    refine Ev.run (pc' := 9) (ls' := [some (.ref 16), some (.ref o1), some (.int a2), some (.int a3)]) (st' := [.ref 16, .int a3]) (m' := m) [(.iload_n 3, 0, 0, 0, 0), (.aload_n 0, 0, 0, 0, 0)] (by decide +kernel) rfl ?_
    refine Ev.ite (fun h1 => ?_) (fun _ => Ev.nn)
    refine Ev.getS (v := .ref ((m.1 16 2)).toNatClampNeg) (ci := 3) (k := 2) (idx := 26) (by decide +kernel) (by decide +kernel) (by decide) (by rw [show Sx.2.1 16 = (3, 4) from rfl]) (by rw [show Sx.2.1 16 = (3, 4) from rfl]; decide) (ev_gv_dyn1 rfl (Nat.pos_iff_ne_zero.mp (k1_z0 h1))) ?_
    refine Ev.getS (v := .int (m.1 ((m.1 16 2)).toNatClampNeg 5)) (ci := 1) (k := 5) (idx := 30) (by decide +kernel) (by decide +kernel) (k1_l0 h1) (by rw [(k1_s0 h1)]) (by rw [(k1_s0 h1)]; decide) rfl ?_
    refine Ev.ic_ge (t := 63) (by decide +kernel) ?_ ?_
    · refine Ev.le (ls' := [none, some (.ref o1), none, none]) ⟨rfl, trivial⟩ ?_
      exact hk _
    · refine Ev.run (pc' := 26) (ls' := [some (.ref 16), some (.ref o1), some (.int a2), some (.int a3)]) (st' := [.int ((a2 >>> (a3 &&& 31)) &&& 1), .int a3, .ref o1, .ref 16]) (m' := m) [(.aload_n 0, 0, 0, 0, 0), (.aload_n 1, 0, 0, 0, 0), (.iload_n 3, 0, 0, 0, 0), (.iload_n 2, 0, 0, 0, 0), (.iload_n 3, 0, 0, 0, 0), (.ishr, 0, 0, 0, 0), (.iconst 1, 0, 0, 1, 0), (.iand, 0, 0, 0, 0)] (by decide +kernel) rfl ?_
      refine Ev.cV (av := [.ref o1, .int a3, .int ((a2 >>> (a3 &&& 31)) &&& 1)]) (st := []) (a := 16) (EX3_goThrough (l := l) (Ln := Ln) (xs := xs) (d := 3) f o1 a3 ((a2 >>> (a3 &&& 31)) &&& 1) m h_o1 (by decide)) rfl (by decide +kernel) mwX3_goThrough iwX3_goThrough vwX3_goThrough lk_3_35 (by omega) (by decide) rfl (by decide) rfl rfl (Nat.le_of_ble_eq_true rfl) (fun r2 m3 => ?_)
      refine Ev.run (pc' := 34) (ls' := [some (.ref 16), some (.ref o1), some (.int a2), some (.int a3)]) (st' := [.int a3, .ref 21]) (m' := m3) [(.aload_n 0, 0, 0, 0, 0), (.getfield 18, 3, 1, 0, 0), (.iload_n 3, 0, 0, 0, 0)] (by decide +kernel) rfl ?_
      refine Ev.iald (n := 8) (by decide +kernel) (by decide) rfl ?_
      refine Ev.run (pc' := 36) (ls' := [some (.ref 16), some (.ref o1), some (.int a2), some (.int a3)]) (st' := [.ref 16, .int (m3.1 21 a3.toNatClampNeg)]) (m' := m3) [(.aload_n 0, 0, 0, 0, 0)] (by decide +kernel) rfl ?_
      refine Ev.ite (fun h4 => ?_) (fun _ => Ev.nn)
      refine Ev.getS (v := .ref ((m3.1 16 2)).toNatClampNeg) (ci := 3) (k := 2) (idx := 26) (by decide +kernel) (by decide +kernel) (by decide) (by rw [show Sx.2.1 16 = (3, 4) from rfl]) (by rw [show Sx.2.1 16 = (3, 4) from rfl]; decide) (ev_gv_dyn1 rfl (Nat.pos_iff_ne_zero.mp (k1_z0 h4))) ?_
      refine Ev.getS (v := .int (m3.1 ((m3.1 16 2)).toNatClampNeg 8)) (ci := 1) (k := 8) (idx := 39) (by decide +kernel) (by decide +kernel) (k1_l0 h4) (by rw [(k1_s0 h4)]) (by rw [(k1_s0 h4)]; decide) rfl ?_
      refine Ev.ic_ge (t := 57) (by decide +kernel) ?_ ?_
      · exact EX3_go_J57 f (FX3_go_L7 f k o1 a2 n) o1 a2 a3 m3 h_o1 ih (by omega)
      · refine Ev.run (pc' := 57) (ls' := [some (.ref 16), some (.ref o1), some (.int a2), some (.int a3)]) (st' := []) (m' := ((ev_up m3.1 16 3 ((m3.1 16 3) ||| (1 <<< (a3 &&& 31)))), m3.2)) [(.aload_n 0, 0, 0, 0, 0), (.dup, 0, 0, 0, 0), (.getfield 22, 3, 3, 0, 0), (.iconst 1, 0, 0, 1, 0), (.iload_n 3, 0, 0, 0, 0), (.ishl, 0, 0, 0, 0), (.ior, 0, 0, 0, 0), (.putfield 22, 3, 3, 0, 0)] (by decide +kernel) rfl ?_
        exact EX3_go_J57 f (FX3_go_L7 f k o1 a2 n) o1 a2 a3 ((ev_up m3.1 16 3 ((m3.1 16 3) ||| (1 <<< (a3 &&& 31)))), m3.2) h_o1 ih (by omega)
set_option maxRecDepth 100000 in
set_option maxHeartbeats 4000000 in
theorem EX3_go {l : Launch} {Ln : Nat} {xs : Nat → Int32} {d : Nat} (f : Nat) (o1 : Nat) (a2 : Int32) (m : ev_M) (h_o1 : isK 8 o1) (hd : 4 ≤ d) : Mv ev_eV l Ln xs YX3_go d Sx [.ref 16, .ref o1, .int a2] m (FX3_go f o1 a2 m) := by
  refine Mv.of (by decide +kernel) rfl (Nat.le_of_ble_eq_true rfl) (Ev.le (ls' := [some (.ref 16), some (.ref o1), some (.int a2), none]) ⟨rfl, ⟨rfl, ⟨rfl, trivial⟩⟩⟩ ?_)
  unfold FX3_go
  refine Ev.run (pc' := 7) (ls' := [some (.ref 16), some (.ref o1), some (.int a2), some (.int 0)]) (st' := []) (m' := ((ev_up m.1 16 3 0), m.2)) [(.aload_n 0, 0, 0, 0, 0), (.iconst 0, 0, 0, 0, 0), (.putfield 22, 3, 3, 0, 0), (.iconst 0, 0, 0, 0, 0), (.istore_n 3, 0, 0, 0, 0)] (by decide +kernel) rfl ?_
  refine EX3_go_L7 f _ o1 a2 h_o1 ?_ (by omega) _ _ _
  intro m5
  refine Ev.run (pc' := 64) (ls' := [none, some (.ref o1), none, none]) (st' := [.ref o1]) (m' := m5) [(.aload_n 1, 0, 0, 0, 0)] (by decide +kernel) rfl ?_
  refine Ev.cV (av := []) (st := []) (a := o1) (EX8_hasNext (l := l) (Ln := Ln) (xs := xs) (d := 0) f o1 m5 h_o1 (by decide)) rfl (by decide +kernel) mwX8_hasNext iwX8_hasNext vwX8_hasNext lk_3_42 (by omega) (k8_l0 h_o1) (by rw [(k8_s0 h_o1)]) (by decide) rfl rfl (Nat.le_of_ble_eq_true rfl) (fun r6 m7 => ?_)
  refine Ev.if_eq (t := 80) (by decide +kernel) ?_ ?_
  · exact Ev.retv rfl rfl (by decide +kernel)
  · refine Ev.run (pc' := 72) (ls' := [none, some (.ref o1), none, none]) (st' := [.ref o1, .ref o1]) (m' := m7) [(.aload_n 1, 0, 0, 0, 0), (.dup, 0, 0, 0, 0)] (by decide +kernel) rfl ?_
    refine Ev.getS (v := .int (m7.1 o1 2)) (ci := 8) (k := 2) (idx := 48) (by decide +kernel) (by decide +kernel) (k8_l0 h_o1) (by rw [(k8_s0 h_o1)]) (by rw [(k8_s0 h_o1)]; decide) rfl ?_
    refine Ev.run (pc' := 77) (ls' := [none, some (.ref o1), none, none]) (st' := [.int ((m7.1 o1 2) + 1), .ref o1]) (m' := m7) [(.iconst 1, 0, 0, 1, 0), (.iadd, 0, 0, 0, 0)] (by decide +kernel) rfl ?_
    refine Ev.putI (ci := 8) (k := 2) (idx := 48) (by decide +kernel) (by decide +kernel) (by decide +kernel) (k8_l0 h_o1) (by rw [(k8_s0 h_o1)]) (by rw [(k8_s0 h_o1)]; decide) rfl rfl ?_
    exact Ev.retv rfl rfl (by decide +kernel)
def FX4_listen_L77 (f : Nat) (k : ev_M → Option (Unit × ev_M))  (a4 : Int32) (a5 : Int32) : Nat → Int32 → ev_M → Option (Unit × ev_M)
  | 0, _, _ => none
  | n + 1, a6, m => (ev_bd (FX3_towers f m) (fun r9 m10 => (if r9 ≤ a6 then (k m10) else (ev_bd (FX4_indexOf f a4 a5 a6 m10) (fun r11 m12 => (if ev_in a6 8 then (if ev_in r11 2480 then (FX4_listen_L77 f k a4 a5 n (a6 + 1) ((ev_up m12.1 38 r11.toNatClampNeg (m12.1 21 a6.toNatClampNeg)), m12.2)) else none) else none))))))
def FX4_listen_L53 (f : Nat) (k : ev_M → Option (Unit × ev_M))  (a4 : Int32) : Nat → Int32 → ev_M → Option (Unit × ev_M)
  | 0, _, _ => none
  | n + 1, a5, m => (if (m.1 33 5) ≤ a5 then (k m) else (ev_bd (FX3_go f 34 (0 : Int32) m) (fun _ m8 => (FX4_listen_L77 f (fun m13 => (FX4_listen_L53 f k a4 n (a5 + 1) m13)) a4 a5 f (0 : Int32) m8))))
def FX4_listen_L24 (f : Nat) (k : ev_M → Option (Unit × ev_M)) (o1 : Nat) (a2 : Int32) : Nat → Int32 → ev_M → Option (Unit × ev_M)
  | 0, _, _ => none
  | n + 1, a4, m => (if 10 ≤ a4 then (k m) else (ev_bd (FX8_copy f 34 o1 m) (fun _ m6 => (if ev_in a2 8 then (FX4_listen_L53 f (fun m14 => (FX4_listen_L24 f k o1 a2 n (a4 + 1) m14)) a4 f (0 : Int32) ((ev_up m6.1 35 a2.toNatClampNeg a4), m6.2)) else none))))
def FX4_listen (f : Nat) (o1 : Nat) (a2 : Int32) (a3 : Int32) (m : ev_M) : Option (Unit × ev_M) :=
  (ev_bd (FJ9_min_7cf53 f a3 (31 : Int32) m) (fun r1 m2 => (ev_bd (FJ9_min_7cf53 f r1 (999 - (m2.1 o1 2)) m2) (fun r3 m4 => (FX4_listen_L24 f (fun m15 => some ((), m15)) o1 a2 f (0 : Int32) ((ev_up m4.1 33 5 r3), m4.2))))))
set_option maxRecDepth 100000 in
set_option maxHeartbeats 4000000 in
theorem EX4_listen_L77 {l : Launch} {Ln : Nat} {xs : Nat → Int32} {d : Nat} (f : Nat) (k : ev_M → Option (Unit × ev_M)) (o1 : Nat) (a2 : Int32) (a4 : Int32) (a5 : Int32) (h_o1 : isK 8 o1)  (hk : ∀  (em : ev_M), Ev ev_eV l Ln xs YX4_listen d Sx 119 [some (.ref 33), some (.ref o1), some (.int a2), none, some (.int a4), some (.int a5), none] [] em (k em)) (hd : 5 ≤ d) : ∀ (n : Nat) (a6 : Int32) (m : ev_M), Ev ev_eV l Ln xs YX4_listen d Sx 77 [some (.ref 33), some (.ref o1), some (.int a2), none, some (.int a4), some (.int a5), some (.int a6)] [] m (FX4_listen_L77 f k a4 a5 n a6 m) := by
  intro n
  induction n with
  | zero => intros; exact Ev.nn
  | succ n ih =>
    intro a6 m
    rw [FX4_listen_L77]
    refine Ev.run (pc' := 83) (ls' := [some (.ref 33), some (.ref o1), some (.int a2), none, some (.int a4), some (.int a5), some (.int a6)]) (st' := [.ref 16, .int a6]) (m' := m) [(.iload 6, 0, 0, 0, 0), (.aload_n 0, 0, 0, 0, 0), (.getfield 44, 4, 0, 0, 0)] (by decide +kernel) rfl ?_
    refine Ev.cV (av := []) (st := [.int a6]) (a := 16) (EX3_towers (l := l) (Ln := Ln) (xs := xs) (d := 0) f m (by decide)) rfl (by decide +kernel) mwX3_towers iwX3_towers vwX3_towers lk_4_93 (by omega) (by decide) rfl (by decide) rfl rfl (Nat.le_of_ble_eq_true rfl) (fun r9 m10 => ?_)
    refine Ev.ic_ge (t := 119) (by decide +kernel) ?_ ?_
    · refine Ev.le (ls' := [some (.ref 33), some (.ref o1), some (.int a2), none, some (.int a4), some (.int a5), none]) ⟨rfl, ⟨rfl, ⟨rfl, ⟨rfl, ⟨rfl, trivial⟩⟩⟩⟩⟩ ?_
      exact hk _
    · refine Ev.run (pc' := 99) (ls' := [some (.ref 33), some (.ref o1), some (.int a2), none, some (.int a4), some (.int a5), some (.int a6)]) (st' := [.int a6, .int a5, .int a4, .ref 38]) (m' := m10) [(.aload_n 0, 0, 0, 0, 0), (.getfield 22, 4, 3, 0, 0), (.iload 4, 0, 0, 0, 0), (.iload 5, 0, 0, 0, 0), (.iload 6, 0, 0, 0, 0)] (by decide +kernel) rfl ?_
      refine Ev.cS (av := [.int a4, .int a5, .int a6]) (st := [.ref 38]) (EX4_indexOf (l := l) (Ln := Ln) (xs := xs) (d := 0) f a4 a5 a6 m10 (by decide)) rfl (by decide +kernel) mwX4_indexOf swX4_indexOf lk_4_96 (by omega) rfl (Nat.le_of_ble_eq_true rfl) (fun r11 m12 => ?_)
      refine Ev.run (pc' := 111) (ls' := [some (.ref 33), some (.ref o1), some (.int a2), none, some (.int a4), some (.int a5), some (.int a6)]) (st' := [.int a6, .ref 21, .int r11, .ref 38]) (m' := m12) [(.aload_n 0, 0, 0, 0, 0), (.getfield 44, 4, 0, 0, 0), (.getfield 100, 3, 1, 0, 0), (.iload 6, 0, 0, 0, 0)] (by decide +kernel) rfl ?_
      refine Ev.iald (n := 8) (by decide +kernel) (by decide) rfl ?_
      refine Ev.iast (n := 2480) (by decide +kernel) (by decide) rfl ?_
      refine Ev.run (pc' := 116) (ls' := [some (.ref 33), some (.ref o1), some (.int a2), none, some (.int a4), some (.int a5), some (.int (a6 + 1))]) (st' := []) (m' := ((ev_up m12.1 38 r11.toNatClampNeg (m12.1 21 a6.toNatClampNeg)), m12.2)) [(.iinc 6 1, 0, 0, 1, 0)] (by decide +kernel) rfl ?_
      refine Ev.gto (t := 77) (by decide +kernel) ?_
      exact ih _ _
set_option maxRecDepth 100000 in
set_option maxHeartbeats 4000000 in
theorem EX4_listen_L53 {l : Launch} {Ln : Nat} {xs : Nat → Int32} {d : Nat} (f : Nat) (k : ev_M → Option (Unit × ev_M)) (o1 : Nat) (a2 : Int32) (a4 : Int32) (h_o1 : isK 8 o1)  (hk : ∀  (em : ev_M), Ev ev_eV l Ln xs YX4_listen d Sx 125 [some (.ref 33), some (.ref o1), some (.int a2), none, some (.int a4), none, none] [] em (k em)) (hd : 5 ≤ d) : ∀ (n : Nat) (a5 : Int32) (m : ev_M), Ev ev_eV l Ln xs YX4_listen d Sx 53 [some (.ref 33), some (.ref o1), some (.int a2), none, some (.int a4), some (.int a5), none] [] m (FX4_listen_L53 f k a4 n a5 m) := by
  intro n
  induction n with
  | zero => intros; exact Ev.nn
  | succ n ih =>
    intro a5 m
    rw [FX4_listen_L53]
    refine Ev.run (pc' := 59) (ls' := [some (.ref 33), some (.ref o1), some (.int a2), none, some (.int a4), some (.int a5), none]) (st' := [.int (m.1 33 5), .int a5]) (m' := m) [(.iload 5, 0, 0, 0, 0), (.aload_n 0, 0, 0, 0, 0), (.getfield 28, 4, 5, 0, 0)] (by decide +kernel) rfl ?_
    refine Ev.ic_ge (t := 125) (by decide +kernel) ?_ ?_
    · refine Ev.le (ls' := [some (.ref 33), some (.ref o1), some (.int a2), none, some (.int a4), none, none]) ⟨rfl, ⟨rfl, ⟨rfl, ⟨rfl, trivial⟩⟩⟩⟩ ?_
      exact hk _
    · refine Ev.run (pc' := 71) (ls' := [some (.ref 33), some (.ref o1), some (.int a2), none, some (.int a4), some (.int a5), none]) (st' := [.int 0, .ref 34, .ref 16]) (m' := m) [(.aload_n 0, 0, 0, 0, 0), (.getfield 44, 4, 0, 0, 0), (.aload_n 0, 0, 0, 0, 0), (.getfield 12, 4, 1, 0, 0), (.iconst 0, 0, 0, 0, 0)] (by decide +kernel) rfl ?_
      refine Ev.cV (av := [.ref 34, .int 0]) (st := []) (a := 16) (EX3_go (l := l) (Ln := Ln) (xs := xs) (d := 4) f 34 (0 : Int32) m (by decide) (by decide)) rfl (by decide +kernel) mwX3_go iwX3_go vwX3_go lk_4_87 (by omega) (by decide) rfl (by decide) rfl rfl (Nat.le_of_ble_eq_true rfl) (fun r7 m8 => ?_)
      refine Ev.run (pc' := 77) (ls' := [some (.ref 33), some (.ref o1), some (.int a2), none, some (.int a4), some (.int a5), some (.int 0)]) (st' := []) (m' := m8) [(.iconst 0, 0, 0, 0, 0), (.istore 6, 0, 0, 0, 0)] (by decide +kernel) rfl ?_
      refine EX4_listen_L77 f _ o1 a2 a4 a5 h_o1 ?_ (by omega) _ _ _
      intro m13
      refine Ev.run (pc' := 122) (ls' := [some (.ref 33), some (.ref o1), some (.int a2), none, some (.int a4), some (.int (a5 + 1)), none]) (st' := []) (m' := m13) [(.iinc 5 1, 0, 0, 1, 0)] (by decide +kernel) rfl ?_
      refine Ev.gto (t := 53) (by decide +kernel) ?_
      exact ih _ _
set_option maxRecDepth 100000 in
set_option maxHeartbeats 4000000 in
theorem EX4_listen_L24 {l : Launch} {Ln : Nat} {xs : Nat → Int32} {d : Nat} (f : Nat) (k : ev_M → Option (Unit × ev_M)) (o1 : Nat) (a2 : Int32) (h_o1 : isK 8 o1)  (hk : ∀  (em : ev_M), Ev ev_eV l Ln xs YX4_listen d Sx 131 [none, none, none, none, none, none, none] [] em (k em)) (hd : 5 ≤ d) : ∀ (n : Nat) (a4 : Int32) (m : ev_M), Ev ev_eV l Ln xs YX4_listen d Sx 24 [some (.ref 33), some (.ref o1), some (.int a2), none, some (.int a4), none, none] [] m (FX4_listen_L24 f k o1 a2 n a4 m) := by
  intro n
  induction n with
  | zero => intros; exact Ev.nn
  | succ n ih =>
    intro a4 m
    rw [FX4_listen_L24]
    refine Ev.run (pc' := 28) (ls' := [some (.ref 33), some (.ref o1), some (.int a2), none, some (.int a4), none, none]) (st' := [.int 10, .int a4]) (m' := m) [(.iload 4, 0, 0, 0, 0), (.bipush 10, 0, 0, 10, 0)] (by decide +kernel) rfl ?_
    refine Ev.ic_ge (t := 131) (by decide +kernel) ?_ ?_
    · refine Ev.le (ls' := [none, none, none, none, none, none, none]) trivial ?_
      exact hk _
    · refine Ev.run (pc' := 36) (ls' := [some (.ref 33), some (.ref o1), some (.int a2), none, some (.int a4), none, none]) (st' := [.ref o1, .ref 34]) (m' := m) [(.aload_n 0, 0, 0, 0, 0), (.getfield 12, 4, 1, 0, 0), (.aload_n 1, 0, 0, 0, 0)] (by decide +kernel) rfl ?_
      refine Ev.cV (av := [.ref o1]) (st := []) (a := 34) (EX8_copy (l := l) (Ln := Ln) (xs := xs) (d := 0) f 34 o1 m (by decide) h_o1 (by decide)) rfl (by decide +kernel) mwX8_copy iwX8_copy vwX8_copy lk_4_80 (by omega) (by decide) rfl (by decide) rfl rfl (Nat.le_of_ble_eq_true rfl) (fun r5 m6 => ?_)
      refine Ev.run (pc' := 49) (ls' := [some (.ref 33), some (.ref o1), some (.int a2), none, some (.int a4), none, none]) (st' := [.int a4, .int a2, .ref 35]) (m' := m6) [(.aload_n 0, 0, 0, 0, 0), (.getfield 12, 4, 1, 0, 0), (.getfield 84, 8, 0, 0, 0), (.iload_n 2, 0, 0, 0, 0), (.iload 4, 0, 0, 0, 0)] (by decide +kernel) rfl ?_
      refine Ev.iast (n := 8) (by decide +kernel) (by decide) rfl ?_
      refine Ev.run (pc' := 53) (ls' := [some (.ref 33), some (.ref o1), some (.int a2), none, some (.int a4), some (.int 0), none]) (st' := []) (m' := ((ev_up m6.1 35 a2.toNatClampNeg a4), m6.2)) [(.iconst 0, 0, 0, 0, 0), (.istore 5, 0, 0, 0, 0)] (by decide +kernel) rfl ?_
      refine EX4_listen_L53 f _ o1 a2 a4 h_o1 ?_ (by omega) _ _ _
      intro m14
      refine Ev.run (pc' := 128) (ls' := [some (.ref 33), some (.ref o1), some (.int a2), none, some (.int (a4 + 1)), none, none]) (st' := []) (m' := m14) [(.iinc 4 1, 0, 0, 1, 0)] (by decide +kernel) rfl ?_
      refine Ev.gto (t := 24) (by decide +kernel) ?_
      exact ih _ _
set_option maxRecDepth 100000 in
set_option maxHeartbeats 4000000 in
theorem EX4_listen {l : Launch} {Ln : Nat} {xs : Nat → Int32} {d : Nat} (f : Nat) (o1 : Nat) (a2 : Int32) (a3 : Int32) (m : ev_M) (h_o1 : isK 8 o1) (hd : 5 ≤ d) : Mv ev_eV l Ln xs YX4_listen d Sx [.ref 33, .ref o1, .int a2, .int a3] m (FX4_listen f o1 a2 a3 m) := by
  refine Mv.of (by decide +kernel) rfl (Nat.le_of_ble_eq_true rfl) (Ev.le (ls' := [some (.ref 33), some (.ref o1), some (.int a2), some (.int a3), none, none, none]) ⟨rfl, ⟨rfl, ⟨rfl, ⟨rfl, trivial⟩⟩⟩⟩ ?_)
  unfold FX4_listen
  refine Ev.run (pc' := 4) (ls' := [some (.ref 33), some (.ref o1), some (.int a2), some (.int a3), none, none, none]) (st' := [.int 31, .int a3, .ref 33]) (m' := m) [(.aload_n 0, 0, 0, 0, 0), (.iload_n 3, 0, 0, 0, 0), (.bipush 31, 0, 0, 31, 0)] (by decide +kernel) rfl ?_
  refine Ev.cS (av := [.int a3, .int 31]) (st := [.ref 33]) (EJ9_min_7cf53 (l := l) (Ln := Ln) (xs := xs) (d := 0) f a3 (31 : Int32) m (by decide)) rfl (by decide +kernel) mwJ9_min_7cf53 swJ9_min_7cf53 lk_4_74 (by omega) rfl (Nat.le_of_ble_eq_true rfl) (fun r1 m2 => ?_)
  refine Ev.run (pc' := 11) (ls' := [some (.ref 33), some (.ref o1), some (.int a2), some (.int a3), none, none, none]) (st' := [.ref o1, .int 999, .int r1, .ref 33]) (m' := m2) [(.sipush 999, 0, 0, 999, 0), (.aload_n 1, 0, 0, 0, 0)] (by decide +kernel) rfl ?_
  refine Ev.getS (v := .int (m2.1 o1 2)) (ci := 8) (k := 2) (idx := 77) (by decide +kernel) (by decide +kernel) (k8_l0 h_o1) (by rw [(k8_s0 h_o1)]) (by rw [(k8_s0 h_o1)]; decide) rfl ?_
  refine Ev.run (pc' := 15) (ls' := [some (.ref 33), some (.ref o1), some (.int a2), some (.int a3), none, none, none]) (st' := [.int (999 - (m2.1 o1 2)), .int r1, .ref 33]) (m' := m2) [(.isub, 0, 0, 0, 0)] (by decide +kernel) rfl ?_
  refine Ev.cS (av := [.int r1, .int (999 - (m2.1 o1 2))]) (st := [.ref 33]) (EJ9_min_7cf53 (l := l) (Ln := Ln) (xs := xs) (d := 0) f r1 (999 - (m2.1 o1 2)) m2 (by decide)) rfl (by decide +kernel) mwJ9_min_7cf53 swJ9_min_7cf53 lk_4_74 (by omega) rfl (Nat.le_of_ble_eq_true rfl) (fun r3 m4 => ?_)
  refine Ev.run (pc' := 24) (ls' := [some (.ref 33), some (.ref o1), some (.int a2), some (.int a3), some (.int 0), none, none]) (st' := []) (m' := ((ev_up m4.1 33 5 r3), m4.2)) [(.putfield 28, 4, 5, 0, 0), (.iconst 0, 0, 0, 0, 0), (.istore 4, 0, 0, 0, 0)] (by decide +kernel) rfl ?_
  refine Ev.le (ls' := [some (.ref 33), some (.ref o1), some (.int a2), none, some (.int 0), none, none]) ⟨rfl, ⟨rfl, ⟨rfl, ⟨rfl, trivial⟩⟩⟩⟩ ?_
  refine EX4_listen_L24 f _ o1 a2 h_o1 ?_ (by omega) _ _ _
  intro m15
  exact Ev.retv rfl rfl (by decide +kernel)
def FX4_seekTelling_J79 (f : Nat) (kt29 : Int32 → ev_M → Option (Unit × ev_M))  (a5 : Int32)  (m : ev_M) : Option (Unit × ev_M) :=
  (kt29 (a5 + 1) m)
def FX4_seekTelling_L29 (f : Nat) (k : ev_M → Option (Unit × ev_M))  (a3 : Int32) (a4 : Int32) : Nat → Int32 → ev_M → Option (Unit × ev_M)
  | 0, _, _ => none
  | n + 1, a5, m => (ev_bd (FX3_towers f m) (fun r3 m4 => (if r3 ≤ a5 then (k m4) else (ev_bd (FX4_mostAlike f a3 a4 a5 m4) (fun r5 m6 => (if (m6.1 33 9) ≤ r5 then (FX4_seekTelling_J79 f (FX4_seekTelling_L29 f k a3 a4 n) a5 m6) else (FX4_seekTelling_J79 f (FX4_seekTelling_L29 f k a3 a4 n) a5 ((ev_up (ev_up (ev_up m6.1 33 9 r5) 33 7 a4) 33 8 a5), m6.2))))))))
def FX4_seekTelling_L17 (f : Nat) (k : ev_M → Option (Unit × ev_M))  (a3 : Int32) : Nat → Int32 → ev_M → Option (Unit × ev_M)
  | 0, _, _ => none
  | n + 1, a4, m => (if (m.1 33 5) ≤ a4 then (k m) else (FX4_seekTelling_L29 f (fun m7 => (FX4_seekTelling_L17 f k a3 n (a4 + 1) m7)) a3 a4 f (0 : Int32) m))
def FX4_seekTelling (f : Nat) (o1 : Nat) (a2 : Int32) (a3 : Int32) (m : ev_M) : Option (Unit × ev_M) :=
  (ev_bd (FX4_listen f o1 a2 (31 : Int32) m) (fun _ m2 => (FX4_seekTelling_L17 f (fun m8 => some ((), m8)) a3 f (0 : Int32) ((ev_up m2.1 33 9 11), m2.2))))
set_option maxRecDepth 100000 in
set_option maxHeartbeats 4000000 in
theorem EX4_seekTelling_J79 {l : Launch} {Ln : Nat} {xs : Nat → Int32} {d : Nat} (f : Nat) (kt29 : Int32 → ev_M → Option (Unit × ev_M))  (a3 : Int32) (a4 : Int32) (a5 : Int32)  (m : ev_M)  (hkt29 : ∀ (e5 : Int32) (em : ev_M), Ev ev_eV l Ln xs YX4_seekTelling d Sx 29 [some (.ref 33), none, none, some (.int a3), some (.int a4), some (.int e5), none] [] em (kt29 e5 em)) (hd : 6 ≤ d) : Ev ev_eV l Ln xs YX4_seekTelling d Sx 79 [some (.ref 33), none, none, some (.int a3), some (.int a4), some (.int a5), none] [] m (FX4_seekTelling_J79 f kt29 a5 m) := by
  unfold FX4_seekTelling_J79
  refine Ev.run (pc' := 82) (ls' := [some (.ref 33), none, none, some (.int a3), some (.int a4), some (.int (a5 + 1)), none]) (st' := []) (m' := m) [(.iinc 5 1, 0, 0, 1, 0)] (by decide +kernel) rfl ?_
  refine Ev.gto (t := 29) (by decide +kernel) ?_
  exact hkt29 _ _
set_option maxRecDepth 100000 in
set_option maxHeartbeats 4000000 in
theorem EX4_seekTelling_L29 {l : Launch} {Ln : Nat} {xs : Nat → Int32} {d : Nat} (f : Nat) (k : ev_M → Option (Unit × ev_M))  (a3 : Int32) (a4 : Int32)   (hk : ∀  (em : ev_M), Ev ev_eV l Ln xs YX4_seekTelling d Sx 85 [some (.ref 33), none, none, some (.int a3), some (.int a4), none, none] [] em (k em)) (hd : 6 ≤ d) : ∀ (n : Nat) (a5 : Int32) (m : ev_M), Ev ev_eV l Ln xs YX4_seekTelling d Sx 29 [some (.ref 33), none, none, some (.int a3), some (.int a4), some (.int a5), none] [] m (FX4_seekTelling_L29 f k a3 a4 n a5 m) := by
  intro n
  induction n with
  | zero => intros; exact Ev.nn
  | succ n ih =>
    intro a5 m
    rw [FX4_seekTelling_L29]
    refine Ev.run (pc' := 35) (ls' := [some (.ref 33), none, none, some (.int a3), some (.int a4), some (.int a5), none]) (st' := [.ref 16, .int a5]) (m' := m) [(.iload 5, 0, 0, 0, 0), (.aload_n 0, 0, 0, 0, 0), (.getfield 44, 4, 0, 0, 0)] (by decide +kernel) rfl ?_
    refine Ev.cV (av := []) (st := [.int a5]) (a := 16) (EX3_towers (l := l) (Ln := Ln) (xs := xs) (d := 0) f m (by decide)) rfl (by decide +kernel) mwX3_towers iwX3_towers vwX3_towers lk_4_93 (by omega) (by decide) rfl (by decide) rfl rfl (Nat.le_of_ble_eq_true rfl) (fun r3 m4 => ?_)
    refine Ev.ic_ge (t := 85) (by decide +kernel) ?_ ?_
    · refine Ev.le (ls' := [some (.ref 33), none, none, some (.int a3), some (.int a4), none, none]) ⟨rfl, ⟨rfl, ⟨rfl, trivial⟩⟩⟩ ?_
      exact hk _
    · refine Ev.run (pc' := 47) (ls' := [some (.ref 33), none, none, some (.int a3), some (.int a4), some (.int a5), none]) (st' := [.int a5, .int a4, .int a3, .ref 33]) (m' := m4) [(.aload_n 0, 0, 0, 0, 0), (.iload_n 3, 0, 0, 0, 0), (.iload 4, 0, 0, 0, 0), (.iload 5, 0, 0, 0, 0)] (by decide +kernel) rfl ?_
      refine Ev.cV (av := [.int a3, .int a4, .int a5]) (st := []) (a := 33) (EX4_mostAlike (l := l) (Ln := Ln) (xs := xs) (d := 1) f a3 a4 a5 m4 (by decide)) rfl (by decide +kernel) mwX4_mostAlike iwX4_mostAlike vwX4_mostAlike lk_4_103 (by omega) (by decide) rfl (by decide) rfl rfl (Nat.le_of_ble_eq_true rfl) (fun r5 m6 => ?_)
      refine Ev.run (pc' := 58) (ls' := [some (.ref 33), none, none, some (.int a3), some (.int a4), some (.int a5), some (.int r5)]) (st' := [.int (m6.1 33 9), .int r5]) (m' := m6) [(.istore 6, 0, 0, 0, 0), (.iload 6, 0, 0, 0, 0), (.aload_n 0, 0, 0, 0, 0), (.getfield 41, 4, 9, 0, 0)] (by decide +kernel) rfl ?_
      refine Ev.ic_ge (t := 79) (by decide +kernel) ?_ ?_
      · refine Ev.le (ls' := [some (.ref 33), none, none, some (.int a3), some (.int a4), some (.int a5), none]) ⟨rfl, ⟨rfl, ⟨rfl, ⟨rfl, trivial⟩⟩⟩⟩ ?_
        exact EX4_seekTelling_J79 f (FX4_seekTelling_L29 f k a3 a4 n) a3 a4 a5 m6 ih (by omega)
      · refine Ev.run (pc' := 79) (ls' := [some (.ref 33), none, none, some (.int a3), some (.int a4), some (.int a5), some (.int r5)]) (st' := []) (m' := ((ev_up (ev_up (ev_up m6.1 33 9 r5) 33 7 a4) 33 8 a5), m6.2)) [(.aload_n 0, 0, 0, 0, 0), (.iload 6, 0, 0, 0, 0), (.putfield 41, 4, 9, 0, 0), (.aload_n 0, 0, 0, 0, 0), (.iload 4, 0, 0, 0, 0), (.putfield 35, 4, 7, 0, 0), (.aload_n 0, 0, 0, 0, 0), (.iload 5, 0, 0, 0, 0), (.putfield 38, 4, 8, 0, 0)] (by decide +kernel) rfl ?_
        refine Ev.le (ls' := [some (.ref 33), none, none, some (.int a3), some (.int a4), some (.int a5), none]) ⟨rfl, ⟨rfl, ⟨rfl, ⟨rfl, trivial⟩⟩⟩⟩ ?_
        exact EX4_seekTelling_J79 f (FX4_seekTelling_L29 f k a3 a4 n) a3 a4 a5 ((ev_up (ev_up (ev_up m6.1 33 9 r5) 33 7 a4) 33 8 a5), m6.2) ih (by omega)
set_option maxRecDepth 100000 in
set_option maxHeartbeats 4000000 in
theorem EX4_seekTelling_L17 {l : Launch} {Ln : Nat} {xs : Nat → Int32} {d : Nat} (f : Nat) (k : ev_M → Option (Unit × ev_M))  (a3 : Int32)   (hk : ∀  (em : ev_M), Ev ev_eV l Ln xs YX4_seekTelling d Sx 91 [none, none, none, none, none, none, none] [] em (k em)) (hd : 6 ≤ d) : ∀ (n : Nat) (a4 : Int32) (m : ev_M), Ev ev_eV l Ln xs YX4_seekTelling d Sx 17 [some (.ref 33), none, none, some (.int a3), some (.int a4), none, none] [] m (FX4_seekTelling_L17 f k a3 n a4 m) := by
  intro n
  induction n with
  | zero => intros; exact Ev.nn
  | succ n ih =>
    intro a4 m
    rw [FX4_seekTelling_L17]
    refine Ev.run (pc' := 23) (ls' := [some (.ref 33), none, none, some (.int a3), some (.int a4), none, none]) (st' := [.int (m.1 33 5), .int a4]) (m' := m) [(.iload 4, 0, 0, 0, 0), (.aload_n 0, 0, 0, 0, 0), (.getfield 28, 4, 5, 0, 0)] (by decide +kernel) rfl ?_
    refine Ev.ic_ge (t := 91) (by decide +kernel) ?_ ?_
    · refine Ev.le (ls' := [none, none, none, none, none, none, none]) trivial ?_
      exact hk _
    · refine Ev.run (pc' := 29) (ls' := [some (.ref 33), none, none, some (.int a3), some (.int a4), some (.int 0), none]) (st' := []) (m' := m) [(.iconst 0, 0, 0, 0, 0), (.istore 5, 0, 0, 0, 0)] (by decide +kernel) rfl ?_
      refine EX4_seekTelling_L29 f _ a3 a4 ?_ (by omega) _ _ _
      intro m7
      refine Ev.run (pc' := 88) (ls' := [some (.ref 33), none, none, some (.int a3), some (.int (a4 + 1)), none, none]) (st' := []) (m' := m7) [(.iinc 4 1, 0, 0, 1, 0)] (by decide +kernel) rfl ?_
      refine Ev.gto (t := 17) (by decide +kernel) ?_
      exact ih _ _
set_option maxRecDepth 100000 in
set_option maxHeartbeats 4000000 in
theorem EX4_seekTelling {l : Launch} {Ln : Nat} {xs : Nat → Int32} {d : Nat} (f : Nat) (o1 : Nat) (a2 : Int32) (a3 : Int32) (m : ev_M) (h_o1 : isK 8 o1) (hd : 6 ≤ d) : Mv ev_eV l Ln xs YX4_seekTelling d Sx [.ref 33, .ref o1, .int a2, .int a3] m (FX4_seekTelling f o1 a2 a3 m) := by
  refine Mv.of (by decide +kernel) rfl (Nat.le_of_ble_eq_true rfl) (Ev.le (ls' := [some (.ref 33), some (.ref o1), some (.int a2), some (.int a3), none, none, none]) ⟨rfl, ⟨rfl, ⟨rfl, ⟨rfl, trivial⟩⟩⟩⟩ ?_)
  unfold FX4_seekTelling
  refine Ev.run (pc' := 5) (ls' := [some (.ref 33), some (.ref o1), some (.int a2), some (.int a3), none, none, none]) (st' := [.int 31, .int a2, .ref o1, .ref 33]) (m' := m) [(.aload_n 0, 0, 0, 0, 0), (.aload_n 1, 0, 0, 0, 0), (.iload_n 2, 0, 0, 0, 0), (.bipush 31, 0, 0, 31, 0)] (by decide +kernel) rfl ?_
  refine Ev.cV (av := [.ref o1, .int a2, .int 31]) (st := []) (a := 33) (EX4_listen (l := l) (Ln := Ln) (xs := xs) (d := 5) f o1 a2 (31 : Int32) m h_o1 (by decide)) rfl (by decide +kernel) mwX4_listen iwX4_listen vwX4_listen lk_4_60 (by omega) (by decide) rfl (by decide) rfl rfl (Nat.le_of_ble_eq_true rfl) (fun r1 m2 => ?_)
  refine Ev.run (pc' := 17) (ls' := [some (.ref 33), some (.ref o1), some (.int a2), some (.int a3), some (.int 0), none, none]) (st' := []) (m' := ((ev_up m2.1 33 9 11), m2.2)) [(.aload_n 0, 0, 0, 0, 0), (.bipush 11, 0, 0, 11, 0), (.putfield 41, 4, 9, 0, 0), (.iconst 0, 0, 0, 0, 0), (.istore 4, 0, 0, 0, 0)] (by decide +kernel) rfl ?_
  refine Ev.le (ls' := [some (.ref 33), none, none, some (.int a3), some (.int 0), none, none]) ⟨rfl, ⟨rfl, ⟨rfl, trivial⟩⟩⟩ ?_
  refine EX4_seekTelling_L17 f _ a3 ?_ (by omega) _ _ _
  intro m8
  exact Ev.retv rfl rfl (by decide +kernel)
def FX7_lookAhead_J132 (f : Nat) (kt68 : Int32 → ev_M → Option (Unit × ev_M))  (a4 : Int32) (s1 : Int32) (s2 : Int32) (m : ev_M) : Option (Unit × ev_M) :=
  (if ev_in s1 8 then (kt68 (a4 + 1) ((ev_up m.1 28 s1.toNatClampNeg s2), m.2)) else none)
def FX7_lookAhead_L68 (f : Nat) (k : ev_M → Option (Unit × ev_M))  (a3 : Int32) : Nat → Int32 → ev_M → Option (Unit × ev_M)
  | 0, _, _ => none
  | n + 1, a4, m => (ev_bd (FX3_towers f m) (fun r9 m10 => (if r9 ≤ a4 then (k m10) else (if ev_in a4 8 then (if ev_in ((a3 * 8) + a4) 248 then (if a3 = 0 then (if ev_in a4 8 then (FX7_lookAhead_J132 f (FX7_lookAhead_L68 f k a3 n) a4 a4 (m10.1 26 a4.toNatClampNeg) ((ev_up m10.1 19 ((a3 * 8) + a4).toNatClampNeg (m10.1 21 a4.toNatClampNeg)), m10.2)) else none) else (if ev_in a4 8 then (FX7_lookAhead_J132 f (FX7_lookAhead_L68 f k a3 n) a4 a4 (m10.1 28 a4.toNatClampNeg) ((ev_up m10.1 19 ((a3 * 8) + a4).toNatClampNeg (m10.1 21 a4.toNatClampNeg)), m10.2)) else none)) else none) else none))))
def FX7_lookAhead_L45 (f : Nat) (k : ev_M → Option (Unit × ev_M))   : Nat → Int32 → ev_M → Option (Unit × ev_M)
  | 0, _, _ => none
  | n + 1, a3, m => (if (m.1 17 2) ≤ a3 then (k m) else (ev_bd (FX3_go f 25 (0 : Int32) m) (fun _ m8 => (FX7_lookAhead_L68 f (fun m11 => (FX7_lookAhead_L45 f k n (a3 + 1) m11)) a3 f (0 : Int32) m8))))
def FX7_lookAhead (f : Nat) (o1 : Nat) (m : ev_M) : Option (Unit × ev_M) :=
  (ev_bd (FJ9_min_7cf53 f (m.1 15 4) (31 : Int32) m) (fun r1 m2 => (ev_bd (FJ9_min_7cf53 f r1 (999 - (m2.1 o1 2)) m2) (fun r3 m4 => (ev_bd (FX8_copy f 25 o1 ((ev_up m4.1 17 2 r3), m4.2)) (fun _ m6 => (FX7_lookAhead_L45 f (fun m12 => some ((), m12)) f (0 : Int32) m6)))))))
set_option maxRecDepth 100000 in
set_option maxHeartbeats 4000000 in
theorem EX7_lookAhead_J132 {l : Launch} {Ln : Nat} {xs : Nat → Int32} {d : Nat} (f : Nat) (kt68 : Int32 → ev_M → Option (Unit × ev_M))  (a3 : Int32) (a4 : Int32) (s1 : Int32) (s2 : Int32) (m : ev_M)  (hkt68 : ∀ (e4 : Int32) (em : ev_M), Ev ev_eV l Ln xs YX7_lookAhead d Sx 68 [some (.ref 22), none, some (.ref 17), some (.int a3), some (.int e4)] [] em (kt68 e4 em)) (hd : 5 ≤ d) : Ev ev_eV l Ln xs YX7_lookAhead d Sx 132 [some (.ref 22), none, some (.ref 17), some (.int a3), some (.int a4)] [.int s2, .int s1, .ref 28] m (FX7_lookAhead_J132 f kt68 a4 s1 s2 m) := by
  unfold FX7_lookAhead_J132
  refine Ev.iast (n := 8) (by decide +kernel) (by decide) rfl ?_
  refine Ev.run (pc' := 136) (ls' := [some (.ref 22), none, some (.ref 17), some (.int a3), some (.int (a4 + 1))]) (st' := []) (m' := ((ev_up m.1 28 s1.toNatClampNeg s2), m.2)) [(.iinc 4 1, 0, 0, 1, 0)] (by decide +kernel) rfl ?_
  refine Ev.gto (t := 68) (by decide +kernel) ?_
  exact hkt68 _ _
set_option maxRecDepth 100000 in
set_option maxHeartbeats 4000000 in
theorem EX7_lookAhead_L68 {l : Launch} {Ln : Nat} {xs : Nat → Int32} {d : Nat} (f : Nat) (k : ev_M → Option (Unit × ev_M))  (a3 : Int32)   (hk : ∀  (em : ev_M), Ev ev_eV l Ln xs YX7_lookAhead d Sx 139 [some (.ref 22), none, some (.ref 17), some (.int a3), none] [] em (k em)) (hd : 5 ≤ d) : ∀ (n : Nat) (a4 : Int32) (m : ev_M), Ev ev_eV l Ln xs YX7_lookAhead d Sx 68 [some (.ref 22), none, some (.ref 17), some (.int a3), some (.int a4)] [] m (FX7_lookAhead_L68 f k a3 n a4 m) := by
  intro n
  induction n with
  | zero => intros; exact Ev.nn
  | succ n ih =>
    intro a4 m
    rw [FX7_lookAhead_L68]
    refine Ev.run (pc' := 74) (ls' := [some (.ref 22), none, some (.ref 17), some (.int a3), some (.int a4)]) (st' := [.ref 16, .int a4]) (m' := m) [(.iload 4, 0, 0, 0, 0), (.aload_n 0, 0, 0, 0, 0), (.getfield 41, 7, 2, 0, 0)] (by decide +kernel) rfl ?_
    refine Ev.cV (av := []) (st := [.int a4]) (a := 16) (EX3_towers (l := l) (Ln := Ln) (xs := xs) (d := 0) f m (by decide)) rfl (by decide +kernel) mwX3_towers iwX3_towers vwX3_towers lk_7_120 (by omega) (by decide) rfl (by decide) rfl rfl (Nat.le_of_ble_eq_true rfl) (fun r9 m10 => ?_)
    refine Ev.ic_ge (t := 139) (by decide +kernel) ?_ ?_
    · refine Ev.le (ls' := [some (.ref 22), none, some (.ref 17), some (.int a3), none]) ⟨rfl, ⟨rfl, ⟨rfl, trivial⟩⟩⟩ ?_
      exact hk _
    · refine Ev.run (pc' := 100) (ls' := [some (.ref 22), none, some (.ref 17), some (.int a3), some (.int a4)]) (st' := [.int a4, .ref 21, .int ((a3 * 8) + a4), .ref 19]) (m' := m10) [(.aload_n 2, 0, 0, 0, 0), (.getfield 167, 5, 1, 0, 0), (.iload_n 3, 0, 0, 0, 0), (.bipush 8, 0, 0, 8, 0), (.imul, 0, 0, 0, 0), (.iload 4, 0, 0, 0, 0), (.iadd, 0, 0, 0, 0), (.aload_n 0, 0, 0, 0, 0), (.getfield 41, 7, 2, 0, 0), (.getfield 185, 3, 1, 0, 0), (.iload 4, 0, 0, 0, 0)] (by decide +kernel) rfl ?_
      refine Ev.iald (n := 8) (by decide +kernel) (by decide) rfl ?_
      refine Ev.iast (n := 248) (by decide +kernel) (by decide) rfl ?_
      refine Ev.run (pc' := 109) (ls' := [some (.ref 22), none, some (.ref 17), some (.int a3), some (.int a4)]) (st' := [.int a3, .int a4, .ref 28]) (m' := ((ev_up m10.1 19 ((a3 * 8) + a4).toNatClampNeg (m10.1 21 a4.toNatClampNeg)), m10.2)) [(.aload_n 0, 0, 0, 0, 0), (.getfield 25, 7, 5, 0, 0), (.iload 4, 0, 0, 0, 0), (.iload_n 3, 0, 0, 0, 0)] (by decide +kernel) rfl ?_
      refine Ev.if_ne (t := 125) (by decide +kernel) ?_ ?_
      · refine Ev.run (pc' := 131) (ls' := [some (.ref 22), none, some (.ref 17), some (.int a3), some (.int a4)]) (st' := [.int a4, .ref 28, .int a4, .ref 28]) (m' := ((ev_up m10.1 19 ((a3 * 8) + a4).toNatClampNeg (m10.1 21 a4.toNatClampNeg)), m10.2)) [(.aload_n 0, 0, 0, 0, 0), (.getfield 25, 7, 5, 0, 0), (.iload 4, 0, 0, 0, 0)] (by decide +kernel) rfl ?_
        refine Ev.iald (n := 8) (by decide +kernel) (by decide) rfl ?_
        exact EX7_lookAhead_J132 f (FX7_lookAhead_L68 f k a3 n) a3 a4 a4 (m10.1 28 a4.toNatClampNeg) ((ev_up m10.1 19 ((a3 * 8) + a4).toNatClampNeg (m10.1 21 a4.toNatClampNeg)), m10.2) ih (by omega)
      · refine Ev.run (pc' := 121) (ls' := [some (.ref 22), none, some (.ref 17), some (.int a3), some (.int a4)]) (st' := [.int a4, .ref 26, .int a4, .ref 28]) (m' := ((ev_up m10.1 19 ((a3 * 8) + a4).toNatClampNeg (m10.1 21 a4.toNatClampNeg)), m10.2)) [(.aload_n 0, 0, 0, 0, 0), (.getfield 21, 7, 4, 0, 0), (.getfield 158, 8, 0, 0, 0), (.iload 4, 0, 0, 0, 0)] (by decide +kernel) rfl ?_
        refine Ev.iald (n := 8) (by decide +kernel) (by decide) rfl ?_
        refine Ev.gto (t := 132) (by decide +kernel) ?_
        exact EX7_lookAhead_J132 f (FX7_lookAhead_L68 f k a3 n) a3 a4 a4 (m10.1 26 a4.toNatClampNeg) ((ev_up m10.1 19 ((a3 * 8) + a4).toNatClampNeg (m10.1 21 a4.toNatClampNeg)), m10.2) ih (by omega)
set_option maxRecDepth 100000 in
set_option maxHeartbeats 4000000 in
theorem EX7_lookAhead_L45 {l : Launch} {Ln : Nat} {xs : Nat → Int32} {d : Nat} (f : Nat) (k : ev_M → Option (Unit × ev_M))     (hk : ∀  (em : ev_M), Ev ev_eV l Ln xs YX7_lookAhead d Sx 145 [none, none, none, none, none] [] em (k em)) (hd : 5 ≤ d) : ∀ (n : Nat) (a3 : Int32) (m : ev_M), Ev ev_eV l Ln xs YX7_lookAhead d Sx 45 [some (.ref 22), none, some (.ref 17), some (.int a3), none] [] m (FX7_lookAhead_L45 f k n a3 m) := by
  intro n
  induction n with
  | zero => intros; exact Ev.nn
  | succ n ih =>
    intro a3 m
    rw [FX7_lookAhead_L45]
    refine Ev.run (pc' := 50) (ls' := [some (.ref 22), none, some (.ref 17), some (.int a3), none]) (st' := [.int (m.1 17 2), .int a3]) (m' := m) [(.iload_n 3, 0, 0, 0, 0), (.aload_n 2, 0, 0, 0, 0), (.getfield 152, 5, 2, 0, 0)] (by decide +kernel) rfl ?_
    refine Ev.ic_ge (t := 145) (by decide +kernel) ?_ ?_
    · refine Ev.le (ls' := [none, none, none, none, none]) trivial ?_
      exact hk _
    · refine Ev.run (pc' := 62) (ls' := [some (.ref 22), none, some (.ref 17), some (.int a3), none]) (st' := [.int 0, .ref 25, .ref 16]) (m' := m) [(.aload_n 0, 0, 0, 0, 0), (.getfield 41, 7, 2, 0, 0), (.aload_n 0, 0, 0, 0, 0), (.getfield 21, 7, 4, 0, 0), (.iconst 0, 0, 0, 0, 0)] (by decide +kernel) rfl ?_
      refine Ev.cV (av := [.ref 25, .int 0]) (st := []) (a := 16) (EX3_go (l := l) (Ln := Ln) (xs := xs) (d := 4) f 25 (0 : Int32) m (by decide) (by decide)) rfl (by decide +kernel) mwX3_go iwX3_go vwX3_go lk_7_182 (by omega) (by decide) rfl (by decide) rfl rfl (Nat.le_of_ble_eq_true rfl) (fun r7 m8 => ?_)
      refine Ev.run (pc' := 68) (ls' := [some (.ref 22), none, some (.ref 17), some (.int a3), some (.int 0)]) (st' := []) (m' := m8) [(.iconst 0, 0, 0, 0, 0), (.istore 4, 0, 0, 0, 0)] (by decide +kernel) rfl ?_
      refine EX7_lookAhead_L68 f _ a3 ?_ (by omega) _ _ _
      intro m11
      refine Ev.run (pc' := 142) (ls' := [some (.ref 22), none, some (.ref 17), some (.int (a3 + 1)), none]) (st' := []) (m' := m11) [(.iinc 3 1, 0, 0, 1, 0)] (by decide +kernel) rfl ?_
      refine Ev.gto (t := 45) (by decide +kernel) ?_
      exact ih _ _
set_option maxRecDepth 100000 in
set_option maxHeartbeats 4000000 in
theorem EX7_lookAhead {l : Launch} {Ln : Nat} {xs : Nat → Int32} {d : Nat} (f : Nat) (o1 : Nat) (m : ev_M) (h_o1 : isK 8 o1) (hd : 5 ≤ d) : Mv ev_eV l Ln xs YX7_lookAhead d Sx [.ref 22, .ref o1] m (FX7_lookAhead f o1 m) := by
  refine Mv.of (by decide +kernel) rfl (Nat.le_of_ble_eq_true rfl) (Ev.le (ls' := [some (.ref 22), some (.ref o1), none, none, none]) ⟨rfl, ⟨rfl, trivial⟩⟩ ?_)
  unfold FX7_lookAhead
  refine Ev.run (pc' := 18) (ls' := [some (.ref 22), some (.ref o1), some (.ref 17), none, none]) (st' := [.int 31, .int (m.1 15 4), .ref 17]) (m' := m) [(.aload_n 0, 0, 0, 0, 0), (.getfield 41, 7, 2, 0, 0), (.getfield 129, 3, 0, 0, 0), (.astore_n 2, 0, 0, 0, 0), (.aload_n 2, 0, 0, 0, 0), (.aload_n 0, 0, 0, 0, 0), (.getfield 37, 7, 1, 0, 0), (.getfield 173, 9, 4, 0, 0), (.bipush 31, 0, 0, 31, 0)] (by decide +kernel) rfl ?_
  refine Ev.cS (av := [.int (m.1 15 4), .int 31]) (st := [.ref 17]) (EJ9_min_7cf53 (l := l) (Ln := Ln) (xs := xs) (d := 0) f (m.1 15 4) (31 : Int32) m (by decide)) rfl (by decide +kernel) mwJ9_min_7cf53 swJ9_min_7cf53 lk_7_176 (by omega) rfl (Nat.le_of_ble_eq_true rfl) (fun r1 m2 => ?_)
  refine Ev.run (pc' := 25) (ls' := [some (.ref 22), some (.ref o1), some (.ref 17), none, none]) (st' := [.ref o1, .int 999, .int r1, .ref 17]) (m' := m2) [(.sipush 999, 0, 0, 999, 0), (.aload_n 1, 0, 0, 0, 0)] (by decide +kernel) rfl ?_
  refine Ev.getS (v := .int (m2.1 o1 2)) (ci := 8) (k := 2) (idx := 164) (by decide +kernel) (by decide +kernel) (k8_l0 h_o1) (by rw [(k8_s0 h_o1)]) (by rw [(k8_s0 h_o1)]; decide) rfl ?_
  refine Ev.run (pc' := 29) (ls' := [some (.ref 22), some (.ref o1), some (.ref 17), none, none]) (st' := [.int (999 - (m2.1 o1 2)), .int r1, .ref 17]) (m' := m2) [(.isub, 0, 0, 0, 0)] (by decide +kernel) rfl ?_
  refine Ev.cS (av := [.int r1, .int (999 - (m2.1 o1 2))]) (st := [.ref 17]) (EJ9_min_7cf53 (l := l) (Ln := Ln) (xs := xs) (d := 0) f r1 (999 - (m2.1 o1 2)) m2 (by decide)) rfl (by decide +kernel) mwJ9_min_7cf53 swJ9_min_7cf53 lk_7_176 (by omega) rfl (Nat.le_of_ble_eq_true rfl) (fun r3 m4 => ?_)
  refine Ev.run (pc' := 40) (ls' := [some (.ref 22), some (.ref o1), some (.ref 17), none, none]) (st' := [.ref o1, .ref 25]) (m' := ((ev_up m4.1 17 2 r3), m4.2)) [(.putfield 152, 5, 2, 0, 0), (.aload_n 0, 0, 0, 0, 0), (.getfield 21, 7, 4, 0, 0), (.aload_n 1, 0, 0, 0, 0)] (by decide +kernel) rfl ?_
  refine Ev.cV (av := [.ref o1]) (st := []) (a := 25) (EX8_copy (l := l) (Ln := Ln) (xs := xs) (d := 0) f 25 o1 ((ev_up m4.1 17 2 r3), m4.2) (by decide) h_o1 (by decide)) rfl (by decide +kernel) mwX8_copy iwX8_copy vwX8_copy lk_7_179 (by omega) (by decide) rfl (by decide) rfl rfl (Nat.le_of_ble_eq_true rfl) (fun r5 m6 => ?_)
  refine Ev.run (pc' := 45) (ls' := [some (.ref 22), some (.ref o1), some (.ref 17), some (.int 0), none]) (st' := []) (m' := m6) [(.iconst 0, 0, 0, 0, 0), (.istore_n 3, 0, 0, 0, 0)] (by decide +kernel) rfl ?_
  refine Ev.le (ls' := [some (.ref 22), none, some (.ref 17), some (.int 0), none]) ⟨rfl, ⟨rfl, ⟨rfl, trivial⟩⟩⟩ ?_
  refine EX7_lookAhead_L45 f _ ?_ (by omega) _ _ _
  intro m12
  exact Ev.retv rfl rfl (by decide +kernel)
def FX11_fire_L22 (f : Nat) (k : ev_M → Option (Int32 × ev_M))   : Nat → Int32 → ev_M → Option (Int32 × ev_M)
  | 0, _, _ => none
  | n + 1, a1, m => (if 60 < a1 then (k m) else (ev_bd (FX8_hasNext f 106 m) (fun r5 m6 => (if r5 = 0 then (k m6) else (ev_bd (FX3_go f 106 (0 : Int32) m6) (fun _ m8 => (ev_bd (FX3_isFire f m8) (fun r9 m10 => (if r9 = 0 then (FX11_fire_L22 f k n (a1 + 1) m10) else some (a1, m10))))))))))
def FX11_fire (f : Nat)  (m : ev_M) : Option (Int32 × ev_M) :=
  (ev_bd (FX11_isTold f m) (fun r1 m2 => (if r1 = 0 then some ((-1), m2) else (ev_bd (FX8_copy f 106 103 m2) (fun _ m4 => (FX11_fire_L22 f (fun m11 => some ((-1), m11)) f (0 : Int32) m4))))))
set_option maxRecDepth 100000 in
set_option maxHeartbeats 4000000 in
theorem EX11_fire_L22 {l : Launch} {Ln : Nat} {xs : Nat → Int32} {d : Nat} (f : Nat) (k : ev_M → Option (Int32 × ev_M))     (hk : ∀  (em : ev_M), Ev ev_eI l Ln xs YX11_fire d Sx 68 [none, none] [] em (k em)) (hd : 5 ≤ d) : ∀ (n : Nat) (a1 : Int32) (m : ev_M), Ev ev_eI l Ln xs YX11_fire d Sx 22 [some (.ref 0), some (.int a1)] [] m (FX11_fire_L22 f k n a1 m) := by
  intro n
  induction n with
  | zero => intros; exact Ev.nn
  | succ n ih =>
    intro a1 m
    rw [FX11_fire_L22]
    refine Ev.run (pc' := 25) (ls' := [some (.ref 0), some (.int a1)]) (st' := [.int 60, .int a1]) (m' := m) [(.iload_n 1, 0, 0, 0, 0), (.bipush 60, 0, 0, 60, 0)] (by decide +kernel) rfl ?_
    refine Ev.ic_gt (t := 68) (by decide +kernel) ?_ ?_
    · refine Ev.le (ls' := [none, none]) trivial ?_
      exact hk _
    · refine Ev.run (pc' := 32) (ls' := [some (.ref 0), some (.int a1)]) (st' := [.ref 106]) (m' := m) [(.aload_n 0, 0, 0, 0, 0), (.getfield 83, 11, 10, 0, 0)] (by decide +kernel) rfl ?_
      refine Ev.cV (av := []) (st := []) (a := 106) (EX8_hasNext (l := l) (Ln := Ln) (xs := xs) (d := 0) f 106 m (by decide) (by decide)) rfl (by decide +kernel) mwX8_hasNext iwX8_hasNext vwX8_hasNext lk_11_217 (by omega) (by decide) rfl (by decide) rfl rfl (Nat.le_of_ble_eq_true rfl) (fun r5 m6 => ?_)
      refine Ev.if_eq (t := 68) (by decide +kernel) ?_ ?_
      · refine Ev.le (ls' := [none, none]) trivial ?_
        exact hk _
      · refine Ev.run (pc' := 47) (ls' := [some (.ref 0), some (.int a1)]) (st' := [.int 0, .ref 106, .ref 16]) (m' := m6) [(.aload_n 0, 0, 0, 0, 0), (.getfield 40, 11, 4, 0, 0), (.aload_n 0, 0, 0, 0, 0), (.getfield 83, 11, 10, 0, 0), (.iconst 0, 0, 0, 0, 0)] (by decide +kernel) rfl ?_
        refine Ev.cV (av := [.ref 106, .int 0]) (st := []) (a := 16) (EX3_go (l := l) (Ln := Ln) (xs := xs) (d := 4) f 106 (0 : Int32) m6 (by decide) (by decide)) rfl (by decide +kernel) mwX3_go iwX3_go vwX3_go lk_11_220 (by omega) (by decide) rfl (by decide) rfl rfl (Nat.le_of_ble_eq_true rfl) (fun r7 m8 => ?_)
        refine Ev.run (pc' := 54) (ls' := [some (.ref 0), some (.int a1)]) (st' := [.ref 16]) (m' := m8) [(.aload_n 0, 0, 0, 0, 0), (.getfield 40, 11, 4, 0, 0)] (by decide +kernel) rfl ?_
        refine Ev.cV (av := []) (st := []) (a := 16) (EX3_isFire (l := l) (Ln := Ln) (xs := xs) (d := 1) f m8 (by decide)) rfl (by decide +kernel) mwX3_isFire iwX3_isFire vwX3_isFire lk_11_224 (by omega) (by decide) rfl (by decide) rfl rfl (Nat.le_of_ble_eq_true rfl) (fun r9 m10 => ?_)
        refine Ev.if_eq (t := 62) (by decide +kernel) ?_ ?_
        · refine Ev.run (pc' := 65) (ls' := [some (.ref 0), some (.int (a1 + 1))]) (st' := []) (m' := m10) [(.iinc 1 1, 0, 0, 1, 0)] (by decide +kernel) rfl ?_
          refine Ev.gto (t := 22) (by decide +kernel) ?_
          exact ih _ _
        · refine Ev.run (pc' := 61) (ls' := [some (.ref 0), some (.int a1)]) (st' := [.int a1]) (m' := m10) [(.iload_n 1, 0, 0, 0, 0)] (by decide +kernel) rfl ?_
          exact Ev.ireti rfl rfl (by decide +kernel)
set_option maxRecDepth 100000 in
set_option maxHeartbeats 4000000 in
theorem EX11_fire {l : Launch} {Ln : Nat} {xs : Nat → Int32} {d : Nat} (f : Nat)  (m : ev_M)  (hd : 5 ≤ d) : Mv ev_eI l Ln xs YX11_fire d Sx [.ref 0] m (FX11_fire f  m) := by
  refine Mv.of (by decide +kernel) rfl (Nat.le_of_ble_eq_true rfl) (Ev.le (ls' := [some (.ref 0), none]) ⟨rfl, trivial⟩ ?_)
  unfold FX11_fire
  refine Ev.run (pc' := 1) (ls' := [some (.ref 0), none]) (st' := [.ref 0]) (m' := m) [(.aload_n 0, 0, 0, 0, 0)] (by decide +kernel) rfl ?_
  refine Ev.cV (av := []) (st := []) (a := 0) (EX11_isTold (l := l) (Ln := Ln) (xs := xs) (d := 0) f m (by decide)) rfl (by decide +kernel) mwX11_isTold iwX11_isTold vwX11_isTold lk_11_153 (by omega) (by decide) rfl (by decide) rfl rfl (Nat.le_of_ble_eq_true rfl) (fun r1 m2 => ?_)
  refine Ev.if_ne (t := 9) (by decide +kernel) ?_ ?_
  · refine Ev.run (pc' := 17) (ls' := [some (.ref 0), none]) (st' := [.ref 103, .ref 106]) (m' := m2) [(.aload_n 0, 0, 0, 0, 0), (.getfield 83, 11, 10, 0, 0), (.aload_n 0, 0, 0, 0, 0), (.getfield 79, 11, 9, 0, 0)] (by decide +kernel) rfl ?_
    refine Ev.cV (av := [.ref 103]) (st := []) (a := 106) (EX8_copy (l := l) (Ln := Ln) (xs := xs) (d := 0) f 106 103 m2 (by decide) (by decide) (by decide)) rfl (by decide +kernel) mwX8_copy iwX8_copy vwX8_copy lk_11_213 (by omega) (by decide) rfl (by decide) rfl rfl (Nat.le_of_ble_eq_true rfl) (fun r3 m4 => ?_)
    refine Ev.run (pc' := 22) (ls' := [some (.ref 0), some (.int 0)]) (st' := []) (m' := m4) [(.iconst 0, 0, 0, 0, 0), (.istore_n 1, 0, 0, 0, 0)] (by decide +kernel) rfl ?_
    refine EX11_fire_L22 f _ ?_ (by omega) _ _ _
    intro m11
    refine Ev.run (pc' := 69) (ls' := [none, none]) (st' := [.int (-1)]) (m' := m11) [(.iconst (-1), 0, 0, (-1), 0)] (by decide +kernel) rfl ?_
    exact Ev.ireti rfl rfl (by decide +kernel)
  · refine Ev.run (pc' := 8) (ls' := [some (.ref 0), none]) (st' := [.int (-1)]) (m' := m2) [(.iconst (-1), 0, 0, (-1), 0)] (by decide +kernel) rfl ?_
    exact Ev.ireti rfl rfl (by decide +kernel)
def FX11_settles_L51 (f : Nat) (k : Int32 → Int32 → ev_M → Option (Int32 × ev_M))   : Nat → Int32 → ev_M → Option (Int32 × ev_M)
  | 0, _, _ => none
  | n + 1, a2, m => (if 60 < a2 then some ((-1), m) else (ev_bd (FX8_hasNext f 106 m) (fun r8 m9 => (if r8 = 0 then some ((-1), m9) else (ev_bd (FX3_go f 106 (0 : Int32) m9) (fun _ m11 => (if isK 1 ((m11.1 0 0)).toNatClampNeg then (ev_bd (FX8_feature f 106 (m11.1 ((m11.1 0 0)).toNatClampNeg 5) m11) (fun r13 m14 => (if ev_in a2 61 then (ev_bd (FX11_indexBelow f a2 (m14.1, (ev_up m14.2 111 a2.toNatClampNeg r13))) (fun r15 m16 => (if r15 = (-1) then (FX11_settles_L51 f k n (a2 + 1) m16) else (k a2 r15 m16)))) else none))) else none)))))))
def FX11_settles (f : Nat) (a1 : Int32) (m : ev_M) : Option (Int32 × ev_M) :=
  (ev_bd (FX11_isTold f m) (fun r1 m2 => (if r1 = 0 then some ((-1), m2) else (if a1 < 0 then some ((-1), m2) else (if a1 ≤ 1 then (ev_bd (FX8_copy f 106 103 m2) (fun _ m4 => (if isK 1 ((m4.1 0 0)).toNatClampNeg then (ev_bd (FX8_feature f 106 (m4.1 ((m4.1 0 0)).toNatClampNeg 5) m4) (fun r6 m7 => (FX11_settles_L51 f (fun e17 e18 m19 => (if a1 = 0 then some (e17, m19) else some ((e17 - e18), m19))) f (1 : Int32) (m7.1, (ev_up m7.2 111 0 r6))))) else none))) else some ((-1), m2))))))
set_option maxRecDepth 100000 in
set_option maxHeartbeats 4000000 in
theorem EX11_settles_L51 {l : Launch} {Ln : Nat} {xs : Nat → Int32} {d : Nat} (f : Nat) (k : Int32 → Int32 → ev_M → Option (Int32 × ev_M))  (a1 : Int32)   (hk : ∀ (e2 : Int32) (e3 : Int32) (em : ev_M), Ev ev_eI l Ln xs YX11_settles d Sx 110 [none, some (.int a1), some (.int e2), some (.int e3)] [] em (k e2 e3 em)) (hd : 5 ≤ d) : ∀ (n : Nat) (a2 : Int32) (m : ev_M), Ev ev_eI l Ln xs YX11_settles d Sx 51 [some (.ref 0), some (.int a1), some (.int a2), none] [] m (FX11_settles_L51 f k n a2 m) := by
  intro n
  induction n with
  | zero => intros; exact Ev.nn
  | succ n ih =>
    intro a2 m
    rw [FX11_settles_L51]
    refine Ev.run (pc' := 54) (ls' := [some (.ref 0), some (.int a1), some (.int a2), none]) (st' := [.int 60, .int a2]) (m' := m) [(.iload_n 2, 0, 0, 0, 0), (.bipush 60, 0, 0, 60, 0)] (by decide +kernel) rfl ?_
    refine Ev.ic_gt (t := 128) (by decide +kernel) ?_ ?_
    · refine Ev.run (pc' := 129) (ls' := [some (.ref 0), some (.int a1), some (.int a2), none]) (st' := [.int (-1)]) (m' := m) [(.iconst (-1), 0, 0, (-1), 0)] (by decide +kernel) rfl ?_
      exact Ev.ireti rfl rfl (by decide +kernel)
    · refine Ev.run (pc' := 61) (ls' := [some (.ref 0), some (.int a1), some (.int a2), none]) (st' := [.ref 106]) (m' := m) [(.aload_n 0, 0, 0, 0, 0), (.getfield 83, 11, 10, 0, 0)] (by decide +kernel) rfl ?_
      refine Ev.cV (av := []) (st := []) (a := 106) (EX8_hasNext (l := l) (Ln := Ln) (xs := xs) (d := 0) f 106 m (by decide) (by decide)) rfl (by decide +kernel) mwX8_hasNext iwX8_hasNext vwX8_hasNext lk_11_217 (by omega) (by decide) rfl (by decide) rfl rfl (Nat.le_of_ble_eq_true rfl) (fun r8 m9 => ?_)
      refine Ev.if_eq (t := 128) (by decide +kernel) ?_ ?_
      · refine Ev.run (pc' := 129) (ls' := [some (.ref 0), some (.int a1), some (.int a2), none]) (st' := [.int (-1)]) (m' := m9) [(.iconst (-1), 0, 0, (-1), 0)] (by decide +kernel) rfl ?_
        exact Ev.ireti rfl rfl (by decide +kernel)
      · refine Ev.run (pc' := 76) (ls' := [some (.ref 0), some (.int a1), some (.int a2), none]) (st' := [.int 0, .ref 106, .ref 16]) (m' := m9) [(.aload_n 0, 0, 0, 0, 0), (.getfield 40, 11, 4, 0, 0), (.aload_n 0, 0, 0, 0, 0), (.getfield 83, 11, 10, 0, 0), (.iconst 0, 0, 0, 0, 0)] (by decide +kernel) rfl ?_
        refine Ev.cV (av := [.ref 106, .int 0]) (st := []) (a := 16) (EX3_go (l := l) (Ln := Ln) (xs := xs) (d := 4) f 106 (0 : Int32) m9 (by decide) (by decide)) rfl (by decide +kernel) mwX3_go iwX3_go vwX3_go lk_11_220 (by omega) (by decide) rfl (by decide) rfl rfl (Nat.le_of_ble_eq_true rfl) (fun r10 m11 => ?_)
        refine Ev.run (pc' := 89) (ls' := [some (.ref 0), some (.int a1), some (.int a2), none]) (st' := [.ref 0, .ref 106, .int a2, .ref 111]) (m' := m11) [(.aload_n 0, 0, 0, 0, 0), (.getfield 93, 11, 13, 0, 0), (.iload_n 2, 0, 0, 0, 0), (.aload_n 0, 0, 0, 0, 0), (.getfield 83, 11, 10, 0, 0), (.aload_n 0, 0, 0, 0, 0)] (by decide +kernel) rfl ?_
        refine Ev.ite (fun h12 => ?_) (fun _ => Ev.nn)
        refine Ev.getS (v := .ref ((m11.1 0 0)).toNatClampNeg) (ci := 11) (k := 0) (idx := 10) (by decide +kernel) (by decide +kernel) (by decide) (by rw [show Sx.2.1 0 = (11, 18) from rfl]) (by rw [show Sx.2.1 0 = (11, 18) from rfl]; decide) (ev_gv_dyn1 rfl (Nat.pos_iff_ne_zero.mp (k1_z0 h12))) ?_
        refine Ev.getS (v := .int (m11.1 ((m11.1 0 0)).toNatClampNeg 5)) (ci := 1) (k := 5) (idx := 147) (by decide +kernel) (by decide +kernel) (k1_l0 h12) (by rw [(k1_s0 h12)]) (by rw [(k1_s0 h12)]; decide) rfl ?_
        refine Ev.cV (av := [.int (m11.1 ((m11.1 0 0)).toNatClampNeg 5)]) (st := [.int a2, .ref 111]) (a := 106) (EX8_feature (l := l) (Ln := Ln) (xs := xs) (d := 0) f 106 (m11.1 ((m11.1 0 0)).toNatClampNeg 5) m11 (by decide) (by decide)) rfl (by decide +kernel) mwX8_feature iwX8_feature vwX8_feature lk_11_227 (by omega) (by decide) rfl (by decide) rfl rfl (Nat.le_of_ble_eq_true rfl) (fun r13 m14 => ?_)
        refine Ev.last (n := 61) (by decide +kernel) (by decide) rfl ?_
        refine Ev.run (pc' := 101) (ls' := [some (.ref 0), some (.int a1), some (.int a2), none]) (st' := [.int a2, .ref 0]) (m' := (m14.1, (ev_up m14.2 111 a2.toNatClampNeg r13))) [(.aload_n 0, 0, 0, 0, 0), (.iload_n 2, 0, 0, 0, 0)] (by decide +kernel) rfl ?_
        refine Ev.cV (av := [.int a2]) (st := []) (a := 0) (EX11_indexBelow (l := l) (Ln := Ln) (xs := xs) (d := 0) f a2 (m14.1, (ev_up m14.2 111 a2.toNatClampNeg r13)) (by decide)) rfl (by decide +kernel) mwX11_indexBelow iwX11_indexBelow vwX11_indexBelow lk_11_231 (by omega) (by decide) rfl (by decide) rfl rfl (Nat.le_of_ble_eq_true rfl) (fun r15 m16 => ?_)
        refine Ev.run (pc' := 107) (ls' := [some (.ref 0), some (.int a1), some (.int a2), some (.int r15)]) (st' := [.int (-1), .int r15]) (m' := m16) [(.istore_n 3, 0, 0, 0, 0), (.iload_n 3, 0, 0, 0, 0), (.iconst (-1), 0, 0, (-1), 0)] (by decide +kernel) rfl ?_
        refine Ev.ic_eq (t := 122) (by decide +kernel) ?_ ?_
        · refine Ev.run (pc' := 125) (ls' := [some (.ref 0), some (.int a1), some (.int (a2 + 1)), some (.int r15)]) (st' := []) (m' := m16) [(.iinc 2 1, 0, 0, 1, 0)] (by decide +kernel) rfl ?_
          refine Ev.gto (t := 51) (by decide +kernel) ?_
          refine Ev.le (ls' := [some (.ref 0), some (.int a1), some (.int (a2 + 1)), none]) ⟨rfl, ⟨rfl, ⟨rfl, trivial⟩⟩⟩ ?_
          exact ih _ _
        · refine Ev.le (ls' := [none, some (.int a1), some (.int a2), some (.int r15)]) ⟨rfl, ⟨rfl, ⟨rfl, trivial⟩⟩⟩ ?_
          exact hk _ _ _
set_option maxRecDepth 100000 in
set_option maxHeartbeats 4000000 in
theorem EX11_settles {l : Launch} {Ln : Nat} {xs : Nat → Int32} {d : Nat} (f : Nat) (a1 : Int32) (m : ev_M)  (hd : 5 ≤ d) : Mv ev_eI l Ln xs YX11_settles d Sx [.ref 0, .int a1] m (FX11_settles f a1 m) := by
  refine Mv.of (by decide +kernel) rfl (Nat.le_of_ble_eq_true rfl) (Ev.le (ls' := [some (.ref 0), some (.int a1), none, none]) ⟨rfl, ⟨rfl, trivial⟩⟩ ?_)
  unfold FX11_settles
  refine Ev.run (pc' := 1) (ls' := [some (.ref 0), some (.int a1), none, none]) (st' := [.ref 0]) (m' := m) [(.aload_n 0, 0, 0, 0, 0)] (by decide +kernel) rfl ?_
  refine Ev.cV (av := []) (st := []) (a := 0) (EX11_isTold (l := l) (Ln := Ln) (xs := xs) (d := 0) f m (by decide)) rfl (by decide +kernel) mwX11_isTold iwX11_isTold vwX11_isTold lk_11_153 (by omega) (by decide) rfl (by decide) rfl rfl (Nat.le_of_ble_eq_true rfl) (fun r1 m2 => ?_)
  refine Ev.if_eq (t := 16) (by decide +kernel) ?_ ?_
  · refine Ev.run (pc' := 17) (ls' := [some (.ref 0), some (.int a1), none, none]) (st' := [.int (-1)]) (m' := m2) [(.iconst (-1), 0, 0, (-1), 0)] (by decide +kernel) rfl ?_
    exact Ev.ireti rfl rfl (by decide +kernel)
  · refine Ev.run (pc' := 8) (ls' := [some (.ref 0), some (.int a1), none, none]) (st' := [.int a1]) (m' := m2) [(.iload_n 1, 0, 0, 0, 0)] (by decide +kernel) rfl ?_
    refine Ev.if_lt (t := 16) (by decide +kernel) ?_ ?_
    · refine Ev.run (pc' := 17) (ls' := [some (.ref 0), some (.int a1), none, none]) (st' := [.int (-1)]) (m' := m2) [(.iconst (-1), 0, 0, (-1), 0)] (by decide +kernel) rfl ?_
      exact Ev.ireti rfl rfl (by decide +kernel)
    · refine Ev.run (pc' := 13) (ls' := [some (.ref 0), some (.int a1), none, none]) (st' := [.int 1, .int a1]) (m' := m2) [(.iload_n 1, 0, 0, 0, 0), (.iconst 1, 0, 0, 1, 0)] (by decide +kernel) rfl ?_
      refine Ev.ic_le (t := 18) (by decide +kernel) ?_ ?_
      · refine Ev.run (pc' := 26) (ls' := [some (.ref 0), some (.int a1), none, none]) (st' := [.ref 103, .ref 106]) (m' := m2) [(.aload_n 0, 0, 0, 0, 0), (.getfield 83, 11, 10, 0, 0), (.aload_n 0, 0, 0, 0, 0), (.getfield 79, 11, 9, 0, 0)] (by decide +kernel) rfl ?_
        refine Ev.cV (av := [.ref 103]) (st := []) (a := 106) (EX8_copy (l := l) (Ln := Ln) (xs := xs) (d := 0) f 106 103 m2 (by decide) (by decide) (by decide)) rfl (by decide +kernel) mwX8_copy iwX8_copy vwX8_copy lk_11_213 (by omega) (by decide) rfl (by decide) rfl rfl (Nat.le_of_ble_eq_true rfl) (fun r3 m4 => ?_)
        refine Ev.run (pc' := 39) (ls' := [some (.ref 0), some (.int a1), none, none]) (st' := [.ref 0, .ref 106, .int 0, .ref 111]) (m' := m4) [(.aload_n 0, 0, 0, 0, 0), (.getfield 93, 11, 13, 0, 0), (.iconst 0, 0, 0, 0, 0), (.aload_n 0, 0, 0, 0, 0), (.getfield 83, 11, 10, 0, 0), (.aload_n 0, 0, 0, 0, 0)] (by decide +kernel) rfl ?_
        refine Ev.ite (fun h5 => ?_) (fun _ => Ev.nn)
        refine Ev.getS (v := .ref ((m4.1 0 0)).toNatClampNeg) (ci := 11) (k := 0) (idx := 10) (by decide +kernel) (by decide +kernel) (by decide) (by rw [show Sx.2.1 0 = (11, 18) from rfl]) (by rw [show Sx.2.1 0 = (11, 18) from rfl]; decide) (ev_gv_dyn1 rfl (Nat.pos_iff_ne_zero.mp (k1_z0 h5))) ?_
        refine Ev.getS (v := .int (m4.1 ((m4.1 0 0)).toNatClampNeg 5)) (ci := 1) (k := 5) (idx := 147) (by decide +kernel) (by decide +kernel) (k1_l0 h5) (by rw [(k1_s0 h5)]) (by rw [(k1_s0 h5)]; decide) rfl ?_
        refine Ev.cV (av := [.int (m4.1 ((m4.1 0 0)).toNatClampNeg 5)]) (st := [.int 0, .ref 111]) (a := 106) (EX8_feature (l := l) (Ln := Ln) (xs := xs) (d := 0) f 106 (m4.1 ((m4.1 0 0)).toNatClampNeg 5) m4 (by decide) (by decide)) rfl (by decide +kernel) mwX8_feature iwX8_feature vwX8_feature lk_11_227 (by omega) (by decide) rfl (by decide) rfl rfl (Nat.le_of_ble_eq_true rfl) (fun r6 m7 => ?_)
        refine Ev.lastK (n := 61) (j := 0) (by decide +kernel) (by decide) rfl rfl (by decide) ?_
        refine Ev.run (pc' := 51) (ls' := [some (.ref 0), some (.int a1), some (.int 1), none]) (st' := []) (m' := (m7.1, (ev_up m7.2 111 0 r6))) [(.iconst 1, 0, 0, 1, 0), (.istore_n 2, 0, 0, 0, 0)] (by decide +kernel) rfl ?_
        refine EX11_settles_L51 f _ a1 ?_ (by omega) _ _ _
        intro e17 e18 m19
        refine Ev.run (pc' := 111) (ls' := [none, some (.int a1), some (.int e17), some (.int e18)]) (st' := [.int a1]) (m' := m19) [(.iload_n 1, 0, 0, 0, 0)] (by decide +kernel) rfl ?_
        refine Ev.if_ne (t := 118) (by decide +kernel) ?_ ?_
        · refine Ev.run (pc' := 121) (ls' := [none, some (.int a1), some (.int e17), some (.int e18)]) (st' := [.int (e17 - e18)]) (m' := m19) [(.iload_n 2, 0, 0, 0, 0), (.iload_n 3, 0, 0, 0, 0), (.isub, 0, 0, 0, 0)] (by decide +kernel) rfl ?_
          exact Ev.ireti rfl rfl (by decide +kernel)
        · refine Ev.run (pc' := 115) (ls' := [none, some (.int a1), some (.int e17), some (.int e18)]) (st' := [.int e17]) (m' := m19) [(.iload_n 2, 0, 0, 0, 0)] (by decide +kernel) rfl ?_
          refine Ev.gto (t := 121) (by decide +kernel) ?_
          exact Ev.ireti rfl rfl (by decide +kernel)
      · refine Ev.run (pc' := 17) (ls' := [some (.ref 0), some (.int a1), none, none]) (st' := [.int (-1)]) (m' := m2) [(.iconst (-1), 0, 0, (-1), 0)] (by decide +kernel) rfl ?_
        exact Ev.ireti rfl rfl (by decide +kernel)
def FX11_rule_J80 (f : Nat) (kt47 : Int32 → Int32 → ev_M → Option (Int32 × ev_M))  (a3 : Int32) (a4 : Int32)  (m : ev_M) : Option (Int32 × ev_M) :=
  (kt47 a3 (a4 + 1) m)
def FX11_rule_L47 (f : Nat) (k : Int32 → ev_M → Option (Int32 × ev_M))  (a1 : Int32) (a2 : Int32) : Nat → Int32 → Int32 → ev_M → Option (Int32 × ev_M)
  | 0, _, _, _ => none
  | n + 1, a3, a4, m => (if a2 ≤ a4 then (k a3 m) else (ev_bd (FX3_go f 106 (0 : Int32) m) (fun _ m8 => (ev_bd (FX3_rowOf f a1 m8) (fun r9 m10 => (if r9 = (-1) then (FX11_rule_J80 f (FX11_rule_L47 f k a1 a2 n) a3 a4 m10) else (FX11_rule_J80 f (FX11_rule_L47 f k a1 a2 n) (a3 + 1) a4 m10)))))))
def FX11_rule (f : Nat) (a1 : Int32) (a2 : Int32) (m : ev_M) : Option (Int32 × ev_M) :=
  (ev_bd (FX11_isTold f m) (fun r1 m2 => (if r1 = 0 then some ((-1), m2) else (if a1 < 1 then some ((-1), m2) else (if 8 < a1 then some ((-1), m2) else (ev_bd (FX11_canBeAhead f a2 (1 : Int32) (60 : Int32) m2) (fun r3 m4 => (if r3 = 0 then some ((-1), m4) else (ev_bd (FX8_copy f 106 103 m4) (fun _ m6 => (FX11_rule_L47 f (fun e11 m12 => some (e11, m12)) a1 a2 f (0 : Int32) (0 : Int32) m6)))))))))))
set_option maxRecDepth 100000 in
set_option maxHeartbeats 4000000 in
theorem EX11_rule_J80 {l : Launch} {Ln : Nat} {xs : Nat → Int32} {d : Nat} (f : Nat) (kt47 : Int32 → Int32 → ev_M → Option (Int32 × ev_M))  (a1 : Int32) (a2 : Int32) (a3 : Int32) (a4 : Int32)  (m : ev_M)  (hkt47 : ∀ (e3 : Int32) (e4 : Int32) (em : ev_M), Ev ev_eI l Ln xs YX11_rule d Sx 47 [some (.ref 0), some (.int a1), some (.int a2), some (.int e3), some (.int e4)] [] em (kt47 e3 e4 em)) (hd : 5 ≤ d) : Ev ev_eI l Ln xs YX11_rule d Sx 80 [some (.ref 0), some (.int a1), some (.int a2), some (.int a3), some (.int a4)] [] m (FX11_rule_J80 f kt47 a3 a4 m) := by
  unfold FX11_rule_J80
  refine Ev.run (pc' := 83) (ls' := [some (.ref 0), some (.int a1), some (.int a2), some (.int a3), some (.int (a4 + 1))]) (st' := []) (m' := m) [(.iinc 4 1, 0, 0, 1, 0)] (by decide +kernel) rfl ?_
  refine Ev.gto (t := 47) (by decide +kernel) ?_
  exact hkt47 _ _ _
set_option maxRecDepth 100000 in
set_option maxHeartbeats 4000000 in
theorem EX11_rule_L47 {l : Launch} {Ln : Nat} {xs : Nat → Int32} {d : Nat} (f : Nat) (k : Int32 → ev_M → Option (Int32 × ev_M))  (a1 : Int32) (a2 : Int32)   (hk : ∀ (e3 : Int32) (em : ev_M), Ev ev_eI l Ln xs YX11_rule d Sx 86 [none, none, none, some (.int e3), none] [] em (k e3 em)) (hd : 5 ≤ d) : ∀ (n : Nat) (a3 : Int32) (a4 : Int32) (m : ev_M), Ev ev_eI l Ln xs YX11_rule d Sx 47 [some (.ref 0), some (.int a1), some (.int a2), some (.int a3), some (.int a4)] [] m (FX11_rule_L47 f k a1 a2 n a3 a4 m) := by
  intro n
  induction n with
  | zero => intros; exact Ev.nn
  | succ n ih =>
    intro a3 a4 m
    rw [FX11_rule_L47]
    refine Ev.run (pc' := 50) (ls' := [some (.ref 0), some (.int a1), some (.int a2), some (.int a3), some (.int a4)]) (st' := [.int a2, .int a4]) (m' := m) [(.iload 4, 0, 0, 0, 0), (.iload_n 2, 0, 0, 0, 0)] (by decide +kernel) rfl ?_
    refine Ev.ic_ge (t := 86) (by decide +kernel) ?_ ?_
    · refine Ev.le (ls' := [none, none, none, some (.int a3), none]) ⟨rfl, trivial⟩ ?_
      exact hk _ _
    · refine Ev.run (pc' := 62) (ls' := [some (.ref 0), some (.int a1), some (.int a2), some (.int a3), some (.int a4)]) (st' := [.int 0, .ref 106, .ref 16]) (m' := m) [(.aload_n 0, 0, 0, 0, 0), (.getfield 40, 11, 4, 0, 0), (.aload_n 0, 0, 0, 0, 0), (.getfield 83, 11, 10, 0, 0), (.iconst 0, 0, 0, 0, 0)] (by decide +kernel) rfl ?_
      refine Ev.cV (av := [.ref 106, .int 0]) (st := []) (a := 16) (EX3_go (l := l) (Ln := Ln) (xs := xs) (d := 4) f 106 (0 : Int32) m (by decide) (by decide)) rfl (by decide +kernel) mwX3_go iwX3_go vwX3_go lk_11_220 (by omega) (by decide) rfl (by decide) rfl rfl (Nat.le_of_ble_eq_true rfl) (fun r7 m8 => ?_)
      refine Ev.run (pc' := 70) (ls' := [some (.ref 0), some (.int a1), some (.int a2), some (.int a3), some (.int a4)]) (st' := [.int a1, .ref 16]) (m' := m8) [(.aload_n 0, 0, 0, 0, 0), (.getfield 40, 11, 4, 0, 0), (.iload_n 1, 0, 0, 0, 0)] (by decide +kernel) rfl ?_
      refine Ev.cV (av := [.int a1]) (st := []) (a := 16) (EX3_rowOf (l := l) (Ln := Ln) (xs := xs) (d := 0) f a1 m8 (by decide)) rfl (by decide +kernel) mwX3_rowOf iwX3_rowOf vwX3_rowOf lk_11_259 (by omega) (by decide) rfl (by decide) rfl rfl (Nat.le_of_ble_eq_true rfl) (fun r9 m10 => ?_)
      refine Ev.run (pc' := 74) (ls' := [some (.ref 0), some (.int a1), some (.int a2), some (.int a3), some (.int a4)]) (st' := [.int (-1), .int r9]) (m' := m10) [(.iconst (-1), 0, 0, (-1), 0)] (by decide +kernel) rfl ?_
      refine Ev.ic_eq (t := 80) (by decide +kernel) ?_ ?_
      · exact EX11_rule_J80 f (FX11_rule_L47 f k a1 a2 n) a1 a2 a3 a4 m10 ih (by omega)
      · refine Ev.run (pc' := 80) (ls' := [some (.ref 0), some (.int a1), some (.int a2), some (.int (a3 + 1)), some (.int a4)]) (st' := []) (m' := m10) [(.iinc 3 1, 0, 0, 1, 0)] (by decide +kernel) rfl ?_
        exact EX11_rule_J80 f (FX11_rule_L47 f k a1 a2 n) a1 a2 (a3 + 1) a4 m10 ih (by omega)
set_option maxRecDepth 100000 in
set_option maxHeartbeats 4000000 in
theorem EX11_rule {l : Launch} {Ln : Nat} {xs : Nat → Int32} {d : Nat} (f : Nat) (a1 : Int32) (a2 : Int32) (m : ev_M)  (hd : 5 ≤ d) : Mv ev_eI l Ln xs YX11_rule d Sx [.ref 0, .int a1, .int a2] m (FX11_rule f a1 a2 m) := by
  refine Mv.of (by decide +kernel) rfl (Nat.le_of_ble_eq_true rfl) (Ev.le (ls' := [some (.ref 0), some (.int a1), some (.int a2), none, none]) ⟨rfl, ⟨rfl, ⟨rfl, trivial⟩⟩⟩ ?_)
  unfold FX11_rule
  refine Ev.run (pc' := 1) (ls' := [some (.ref 0), some (.int a1), some (.int a2), none, none]) (st' := [.ref 0]) (m' := m) [(.aload_n 0, 0, 0, 0, 0)] (by decide +kernel) rfl ?_
  refine Ev.cV (av := []) (st := []) (a := 0) (EX11_isTold (l := l) (Ln := Ln) (xs := xs) (d := 0) f m (by decide)) rfl (by decide +kernel) mwX11_isTold iwX11_isTold vwX11_isTold lk_11_153 (by omega) (by decide) rfl (by decide) rfl rfl (Nat.le_of_ble_eq_true rfl) (fun r1 m2 => ?_)
  refine Ev.if_eq (t := 29) (by decide +kernel) ?_ ?_
  · refine Ev.run (pc' := 30) (ls' := [some (.ref 0), some (.int a1), some (.int a2), none, none]) (st' := [.int (-1)]) (m' := m2) [(.iconst (-1), 0, 0, (-1), 0)] (by decide +kernel) rfl ?_
    exact Ev.ireti rfl rfl (by decide +kernel)
  · refine Ev.run (pc' := 9) (ls' := [some (.ref 0), some (.int a1), some (.int a2), none, none]) (st' := [.int 1, .int a1]) (m' := m2) [(.iload_n 1, 0, 0, 0, 0), (.iconst 1, 0, 0, 1, 0)] (by decide +kernel) rfl ?_
    refine Ev.ic_lt (t := 29) (by decide +kernel) ?_ ?_
    · refine Ev.run (pc' := 30) (ls' := [some (.ref 0), some (.int a1), some (.int a2), none, none]) (st' := [.int (-1)]) (m' := m2) [(.iconst (-1), 0, 0, (-1), 0)] (by decide +kernel) rfl ?_
      exact Ev.ireti rfl rfl (by decide +kernel)
    · refine Ev.run (pc' := 15) (ls' := [some (.ref 0), some (.int a1), some (.int a2), none, none]) (st' := [.int 8, .int a1]) (m' := m2) [(.iload_n 1, 0, 0, 0, 0), (.bipush 8, 0, 0, 8, 0)] (by decide +kernel) rfl ?_
      refine Ev.ic_gt (t := 29) (by decide +kernel) ?_ ?_
      · refine Ev.run (pc' := 30) (ls' := [some (.ref 0), some (.int a1), some (.int a2), none, none]) (st' := [.int (-1)]) (m' := m2) [(.iconst (-1), 0, 0, (-1), 0)] (by decide +kernel) rfl ?_
        exact Ev.ireti rfl rfl (by decide +kernel)
      · refine Ev.run (pc' := 23) (ls' := [some (.ref 0), some (.int a1), some (.int a2), none, none]) (st' := [.int 60, .int 1, .int a2, .ref 0]) (m' := m2) [(.aload_n 0, 0, 0, 0, 0), (.iload_n 2, 0, 0, 0, 0), (.iconst 1, 0, 0, 1, 0), (.bipush 60, 0, 0, 60, 0)] (by decide +kernel) rfl ?_
        refine Ev.cV (av := [.int a2, .int 1, .int 60]) (st := []) (a := 0) (EX11_canBeAhead (l := l) (Ln := Ln) (xs := xs) (d := 0) f a2 (1 : Int32) (60 : Int32) m2 (by decide)) rfl (by decide +kernel) mwX11_canBeAhead iwX11_canBeAhead vwX11_canBeAhead lk_11_206 (by omega) (by decide) rfl (by decide) rfl rfl (Nat.le_of_ble_eq_true rfl) (fun r3 m4 => ?_)
        refine Ev.if_ne (t := 31) (by decide +kernel) ?_ ?_
        · refine Ev.run (pc' := 41) (ls' := [some (.ref 0), some (.int a1), some (.int a2), some (.int 0), none]) (st' := [.ref 103, .ref 106]) (m' := m4) [(.iconst 0, 0, 0, 0, 0), (.istore_n 3, 0, 0, 0, 0), (.aload_n 0, 0, 0, 0, 0), (.getfield 83, 11, 10, 0, 0), (.aload_n 0, 0, 0, 0, 0), (.getfield 79, 11, 9, 0, 0)] (by decide +kernel) rfl ?_
          refine Ev.cV (av := [.ref 103]) (st := []) (a := 106) (EX8_copy (l := l) (Ln := Ln) (xs := xs) (d := 0) f 106 103 m4 (by decide) (by decide) (by decide)) rfl (by decide +kernel) mwX8_copy iwX8_copy vwX8_copy lk_11_213 (by omega) (by decide) rfl (by decide) rfl rfl (Nat.le_of_ble_eq_true rfl) (fun r5 m6 => ?_)
          refine Ev.run (pc' := 47) (ls' := [some (.ref 0), some (.int a1), some (.int a2), some (.int 0), some (.int 0)]) (st' := []) (m' := m6) [(.iconst 0, 0, 0, 0, 0), (.istore 4, 0, 0, 0, 0)] (by decide +kernel) rfl ?_
          refine EX11_rule_L47 f _ a1 a2 ?_ (by omega) _ _ _ _
          intro e11 m12
          refine Ev.run (pc' := 87) (ls' := [none, none, none, some (.int e11), none]) (st' := [.int e11]) (m' := m12) [(.iload_n 3, 0, 0, 0, 0)] (by decide +kernel) rfl ?_
          exact Ev.ireti rfl rfl (by decide +kernel)
        · refine Ev.run (pc' := 30) (ls' := [some (.ref 0), some (.int a1), some (.int a2), none, none]) (st' := [.int (-1)]) (m' := m4) [(.iconst (-1), 0, 0, (-1), 0)] (by decide +kernel) rfl ?_
          exact Ev.ireti rfl rfl (by decide +kernel)
def FX11_goAhead_L13 (f : Nat) (k : ev_M → Option (Unit × ev_M))  (a1 : Int32) : Nat → Int32 → ev_M → Option (Unit × ev_M)
  | 0, _, _ => none
  | n + 1, a2, m => (if a1 ≤ a2 then (k m) else (ev_bd (FX3_go f 106 (0 : Int32) m) (fun _ m4 => (FX11_goAhead_L13 f k a1 n (a2 + 1) m4))))
def FX11_goAhead (f : Nat) (a1 : Int32) (m : ev_M) : Option (Unit × ev_M) :=
  (ev_bd (FX8_copy f 106 103 m) (fun _ m2 => (FX11_goAhead_L13 f (fun m5 => some ((), m5)) a1 f (0 : Int32) m2)))
set_option maxRecDepth 100000 in
set_option maxHeartbeats 4000000 in
theorem EX11_goAhead_L13 {l : Launch} {Ln : Nat} {xs : Nat → Int32} {d : Nat} (f : Nat) (k : ev_M → Option (Unit × ev_M))  (a1 : Int32)   (hk : ∀  (em : ev_M), Ev ev_eV l Ln xs YX11_goAhead d Sx 36 [none, none, none] [] em (k em)) (hd : 5 ≤ d) : ∀ (n : Nat) (a2 : Int32) (m : ev_M), Ev ev_eV l Ln xs YX11_goAhead d Sx 13 [some (.ref 0), some (.int a1), some (.int a2)] [] m (FX11_goAhead_L13 f k a1 n a2 m) := by
  intro n
  induction n with
  | zero => intros; exact Ev.nn
  | succ n ih =>
    intro a2 m
    rw [FX11_goAhead_L13]
    refine Ev.run (pc' := 15) (ls' := [some (.ref 0), some (.int a1), some (.int a2)]) (st' := [.int a1, .int a2]) (m' := m) [(.iload_n 2, 0, 0, 0, 0), (.iload_n 1, 0, 0, 0, 0)] (by decide +kernel) rfl ?_
    refine Ev.ic_ge (t := 36) (by decide +kernel) ?_ ?_
    · refine Ev.le (ls' := [none, none, none]) trivial ?_
      exact hk _
    · refine Ev.run (pc' := 27) (ls' := [some (.ref 0), some (.int a1), some (.int a2)]) (st' := [.int 0, .ref 106, .ref 16]) (m' := m) [(.aload_n 0, 0, 0, 0, 0), (.getfield 40, 11, 4, 0, 0), (.aload_n 0, 0, 0, 0, 0), (.getfield 83, 11, 10, 0, 0), (.iconst 0, 0, 0, 0, 0)] (by decide +kernel) rfl ?_
      refine Ev.cV (av := [.ref 106, .int 0]) (st := []) (a := 16) (EX3_go (l := l) (Ln := Ln) (xs := xs) (d := 4) f 106 (0 : Int32) m (by decide) (by decide)) rfl (by decide +kernel) mwX3_go iwX3_go vwX3_go lk_11_220 (by omega) (by decide) rfl (by decide) rfl rfl (Nat.le_of_ble_eq_true rfl) (fun r3 m4 => ?_)
      refine Ev.run (pc' := 33) (ls' := [some (.ref 0), some (.int a1), some (.int (a2 + 1))]) (st' := []) (m' := m4) [(.iinc 2 1, 0, 0, 1, 0)] (by decide +kernel) rfl ?_
      refine Ev.gto (t := 13) (by decide +kernel) ?_
      exact ih _ _
set_option maxRecDepth 100000 in
set_option maxHeartbeats 4000000 in
theorem EX11_goAhead {l : Launch} {Ln : Nat} {xs : Nat → Int32} {d : Nat} (f : Nat) (a1 : Int32) (m : ev_M)  (hd : 5 ≤ d) : Mv ev_eV l Ln xs YX11_goAhead d Sx [.ref 0, .int a1] m (FX11_goAhead f a1 m) := by
  refine Mv.of (by decide +kernel) rfl (Nat.le_of_ble_eq_true rfl) (Ev.le (ls' := [some (.ref 0), some (.int a1), none]) ⟨rfl, ⟨rfl, trivial⟩⟩ ?_)
  unfold FX11_goAhead
  refine Ev.run (pc' := 8) (ls' := [some (.ref 0), some (.int a1), none]) (st' := [.ref 103, .ref 106]) (m' := m) [(.aload_n 0, 0, 0, 0, 0), (.getfield 83, 11, 10, 0, 0), (.aload_n 0, 0, 0, 0, 0), (.getfield 79, 11, 9, 0, 0)] (by decide +kernel) rfl ?_
  refine Ev.cV (av := [.ref 103]) (st := []) (a := 106) (EX8_copy (l := l) (Ln := Ln) (xs := xs) (d := 0) f 106 103 m (by decide) (by decide) (by decide)) rfl (by decide +kernel) mwX8_copy iwX8_copy vwX8_copy lk_11_213 (by omega) (by decide) rfl (by decide) rfl rfl (Nat.le_of_ble_eq_true rfl) (fun r1 m2 => ?_)
  refine Ev.run (pc' := 13) (ls' := [some (.ref 0), some (.int a1), some (.int 0)]) (st' := []) (m' := m2) [(.iconst 0, 0, 0, 0, 0), (.istore_n 2, 0, 0, 0, 0)] (by decide +kernel) rfl ?_
  refine EX11_goAhead_L13 f _ a1 ?_ (by omega) _ _ _
  intro m5
  exact Ev.retv rfl rfl (by decide +kernel)
def FX11_goOn (f : Nat)  (m : ev_M) : Option (Int32 × ev_M) :=
  (ev_bd (FX3_go f 103 (0 : Int32) m) (fun _ m2 => (if isK 1 ((m2.1 0 0)).toNatClampNeg then (ev_bd (FX3_rowOf f (m2.1 ((m2.1 0 0)).toNatClampNeg 9) m2) (fun r4 m5 => (if r4 = (-1) then some (0, m5) else (ev_bd (FX3_doubtfulOnes f m5) (fun r6 m7 => (ev_bd (FX6_addFire f (m5.1 103 5) (m.1 103 2) r4 r6 m7) (fun r8 m9 => some (1, ((ev_up m9.1 103 5 r8), m9.2))))))))) else none)))
set_option maxRecDepth 100000 in
set_option maxHeartbeats 4000000 in
theorem EX11_goOn {l : Launch} {Ln : Nat} {xs : Nat → Int32} {d : Nat} (f : Nat)  (m : ev_M)  (hd : 5 ≤ d) : Mv ev_eI l Ln xs YX11_goOn d Sx [.ref 0] m (FX11_goOn f  m) := by
  refine Mv.of (by decide +kernel) rfl (Nat.le_of_ble_eq_true rfl) (Ev.le (ls' := [some (.ref 0), none, none]) ⟨rfl, trivial⟩ ?_)
  unfold FX11_goOn
  refine Ev.run (pc' := 17) (ls' := [some (.ref 0), some (.int (m.1 103 2)), none]) (st' := [.int 0, .ref 103, .ref 16]) (m' := m) [(.aload_n 0, 0, 0, 0, 0), (.getfield 79, 11, 9, 0, 0), (.getfield 150, 8, 2, 0, 0), (.istore_n 1, 0, 0, 0, 0), (.aload_n 0, 0, 0, 0, 0), (.getfield 40, 11, 4, 0, 0), (.aload_n 0, 0, 0, 0, 0), (.getfield 79, 11, 9, 0, 0), (.iconst 0, 0, 0, 0, 0)] (by decide +kernel) rfl ?_
  refine Ev.cV (av := [.ref 103, .int 0]) (st := []) (a := 16) (EX3_go (l := l) (Ln := Ln) (xs := xs) (d := 4) f 103 (0 : Int32) m (by decide) (by decide)) rfl (by decide +kernel) mwX3_go iwX3_go vwX3_go lk_11_220 (by omega) (by decide) rfl (by decide) rfl rfl (Nat.le_of_ble_eq_true rfl) (fun r1 m2 => ?_)
  refine Ev.run (pc' := 25) (ls' := [some (.ref 0), some (.int (m.1 103 2)), none]) (st' := [.ref 0, .ref 16]) (m' := m2) [(.aload_n 0, 0, 0, 0, 0), (.getfield 40, 11, 4, 0, 0), (.aload_n 0, 0, 0, 0, 0)] (by decide +kernel) rfl ?_
  refine Ev.ite (fun h3 => ?_) (fun _ => Ev.nn)
  refine Ev.getS (v := .ref ((m2.1 0 0)).toNatClampNeg) (ci := 11) (k := 0) (idx := 10) (by decide +kernel) (by decide +kernel) (by decide) (by rw [show Sx.2.1 0 = (11, 18) from rfl]) (by rw [show Sx.2.1 0 = (11, 18) from rfl]; decide) (ev_gv_dyn1 rfl (Nat.pos_iff_ne_zero.mp (k1_z0 h3))) ?_
  refine Ev.getS (v := .int (m2.1 ((m2.1 0 0)).toNatClampNeg 9)) (ci := 1) (k := 9) (idx := 323) (by decide +kernel) (by decide +kernel) (k1_l0 h3) (by rw [(k1_s0 h3)]) (by rw [(k1_s0 h3)]; decide) rfl ?_
  refine Ev.cV (av := [.int (m2.1 ((m2.1 0 0)).toNatClampNeg 9)]) (st := []) (a := 16) (EX3_rowOf (l := l) (Ln := Ln) (xs := xs) (d := 0) f (m2.1 ((m2.1 0 0)).toNatClampNeg 9) m2 (by decide)) rfl (by decide +kernel) mwX3_rowOf iwX3_rowOf vwX3_rowOf lk_11_259 (by omega) (by decide) rfl (by decide) rfl rfl (Nat.le_of_ble_eq_true rfl) (fun r4 m5 => ?_)
  refine Ev.run (pc' := 37) (ls' := [some (.ref 0), some (.int (m.1 103 2)), some (.int r4)]) (st' := [.int (-1), .int r4]) (m' := m5) [(.istore_n 2, 0, 0, 0, 0), (.iload_n 2, 0, 0, 0, 0), (.iconst (-1), 0, 0, (-1), 0)] (by decide +kernel) rfl ?_
  refine Ev.ic_ne (t := 42) (by decide +kernel) ?_ ?_
  · refine Ev.run (pc' := 63) (ls' := [some (.ref 0), some (.int (m.1 103 2)), some (.int r4)]) (st' := [.ref 16, .int r4, .int (m.1 103 2), .int (m5.1 103 5), .ref 40, .ref 103]) (m' := m5) [(.aload_n 0, 0, 0, 0, 0), (.getfield 79, 11, 9, 0, 0), (.aload_n 0, 0, 0, 0, 0), (.getfield 72, 11, 8, 0, 0), (.aload_n 0, 0, 0, 0, 0), (.getfield 79, 11, 9, 0, 0), (.getfield 173, 8, 5, 0, 0), (.iload_n 1, 0, 0, 0, 0), (.iload_n 2, 0, 0, 0, 0), (.aload_n 0, 0, 0, 0, 0), (.getfield 40, 11, 4, 0, 0)] (by decide +kernel) rfl ?_
    refine Ev.cV (av := []) (st := [.int r4, .int (m.1 103 2), .int (m5.1 103 5), .ref 40, .ref 103]) (a := 16) (EX3_doubtfulOnes (l := l) (Ln := Ln) (xs := xs) (d := 1) f m5 (by decide)) rfl (by decide +kernel) mwX3_doubtfulOnes iwX3_doubtfulOnes vwX3_doubtfulOnes lk_11_210 (by omega) (by decide) rfl (by decide) rfl rfl (Nat.le_of_ble_eq_true rfl) (fun r6 m7 => ?_)
    refine Ev.cV (av := [.int (m5.1 103 5), .int (m.1 103 2), .int r4, .int r6]) (st := [.ref 103]) (a := 40) (EX6_addFire (l := l) (Ln := Ln) (xs := xs) (d := 0) f (m5.1 103 5) (m.1 103 2) r4 r6 m7 (by decide)) rfl (by decide +kernel) mwX6_addFire iwX6_addFire vwX6_addFire lk_11_326 (by omega) (by decide) rfl (by decide) rfl rfl (Nat.le_of_ble_eq_true rfl) (fun r8 m9 => ?_)
    refine Ev.run (pc' := 73) (ls' := [some (.ref 0), some (.int (m.1 103 2)), some (.int r4)]) (st' := [.int 1]) (m' := ((ev_up m9.1 103 5 r8), m9.2)) [(.putfield 173, 8, 5, 0, 0), (.iconst 1, 0, 0, 1, 0)] (by decide +kernel) rfl ?_
    exact Ev.ireti rfl rfl (by decide +kernel)
  · refine Ev.run (pc' := 41) (ls' := [some (.ref 0), some (.int (m.1 103 2)), some (.int r4)]) (st' := [.int 0]) (m' := m5) [(.iconst 0, 0, 0, 0, 0)] (by decide +kernel) rfl ?_
    exact Ev.ireti rfl rfl (by decide +kernel)
def FX0_fires_J45 (f : Nat) (kt11 : Int32 → ev_M → Option (Int32 × ev_M))  (a5 : Int32)  (m : ev_M) : Option (Int32 × ev_M) :=
  (kt11 (a5 + 1) m)
def FX0_fires_L11 (f : Nat) (k : ev_M → Option (Int32 × ev_M))  (a3 : Int32) : Nat → Int32 → ev_M → Option (Int32 × ev_M)
  | 0, _, _ => none
  | n + 1, a5, m => (ev_bd (FX3_towers f m) (fun r3 m4 => (if r3 ≤ a5 then (k m4) else (if ((a3 >>> (a5 &&& 31)) &&& 1) = 1 then (if ev_in a5 8 then (FX0_fires_J45 f (FX0_fires_L11 f k a3 n) a5 ((ev_up m4.1 32 a5.toNatClampNeg 9), m4.2)) else none) else (FX0_fires_J45 f (FX0_fires_L11 f k a3 n) a5 m4)))))
def FX0_fires_J79 (f : Nat) (kt54 : Int32 → ev_M → Option (Int32 × ev_M))  (a5 : Int32) (s2 : Int32) (m : ev_M) : Option (Int32 × ev_M) :=
  (ev_bd (FX3_go f 30 s2 m) (fun _ m7 => (ev_bd (FX3_isFire f m7) (fun r8 m9 => (if r8 = 0 then (kt54 (a5 + 1) m9) else some (1, m9))))))
def FX0_fires_L54 (f : Nat) (k : ev_M → Option (Int32 × ev_M))  (a2 : Int32) (a4 : Int32) : Nat → Int32 → ev_M → Option (Int32 × ev_M)
  | 0, _, _ => none
  | n + 1, a5, m => (if a2 ≤ a5 then (k m) else (if a5 = 0 then (FX0_fires_J79 f (FX0_fires_L54 f k a2 a4 n) a5 a4 m) else (FX0_fires_J79 f (FX0_fires_L54 f k a2 a4 n) a5 (0 : Int32) m)))
def FX0_fires (f : Nat) (o1 : Nat) (a2 : Int32) (a3 : Int32) (a4 : Int32) (m : ev_M) : Option (Int32 × ev_M) :=
  (ev_bd (FX8_copy f 30 o1 m) (fun _ m2 => (FX0_fires_L11 f (fun m5 => (FX0_fires_L54 f (fun m10 => some (0, m10)) a2 a4 f (0 : Int32) m5)) a3 f (0 : Int32) m2)))
set_option maxRecDepth 100000 in
set_option maxHeartbeats 4000000 in
theorem EX0_fires_J45 {l : Launch} {Ln : Nat} {xs : Nat → Int32} {d : Nat} (f : Nat) (kt11 : Int32 → ev_M → Option (Int32 × ev_M))  (a2 : Int32) (a3 : Int32) (a4 : Int32) (a5 : Int32)  (m : ev_M)  (hkt11 : ∀ (e5 : Int32) (em : ev_M), Ev ev_eI l Ln xs YX0_fires d Sx 11 [some (.ref 29), none, some (.int a2), some (.int a3), some (.int a4), some (.int e5)] [] em (kt11 e5 em)) (hd : 5 ≤ d) : Ev ev_eI l Ln xs YX0_fires d Sx 45 [some (.ref 29), none, some (.int a2), some (.int a3), some (.int a4), some (.int a5)] [] m (FX0_fires_J45 f kt11 a5 m) := by
  unfold FX0_fires_J45
  refine Ev.run (pc' := 48) (ls' := [some (.ref 29), none, some (.int a2), some (.int a3), some (.int a4), some (.int (a5 + 1))]) (st' := []) (m' := m) [(.iinc 5 1, 0, 0, 1, 0)] (by decide +kernel) rfl ?_
  refine Ev.gto (t := 11) (by decide +kernel) ?_
  exact hkt11 _ _
set_option maxRecDepth 100000 in
set_option maxHeartbeats 4000000 in
theorem EX0_fires_L11 {l : Launch} {Ln : Nat} {xs : Nat → Int32} {d : Nat} (f : Nat) (k : ev_M → Option (Int32 × ev_M))  (a2 : Int32) (a3 : Int32) (a4 : Int32)   (hk : ∀  (em : ev_M), Ev ev_eI l Ln xs YX0_fires d Sx 51 [some (.ref 29), none, some (.int a2), none, some (.int a4), none] [] em (k em)) (hd : 5 ≤ d) : ∀ (n : Nat) (a5 : Int32) (m : ev_M), Ev ev_eI l Ln xs YX0_fires d Sx 11 [some (.ref 29), none, some (.int a2), some (.int a3), some (.int a4), some (.int a5)] [] m (FX0_fires_L11 f k a3 n a5 m) := by
  intro n
  induction n with
  | zero => intros; exact Ev.nn
  | succ n ih =>
    intro a5 m
    rw [FX0_fires_L11]
    refine Ev.run (pc' := 17) (ls' := [some (.ref 29), none, some (.int a2), some (.int a3), some (.int a4), some (.int a5)]) (st' := [.ref 16, .int a5]) (m' := m) [(.iload 5, 0, 0, 0, 0), (.aload_n 0, 0, 0, 0, 0), (.getfield 28, 0, 0, 0, 0)] (by decide +kernel) rfl ?_
    refine Ev.cV (av := []) (st := [.int a5]) (a := 16) (EX3_towers (l := l) (Ln := Ln) (xs := xs) (d := 0) f m (by decide)) rfl (by decide +kernel) mwX3_towers iwX3_towers vwX3_towers lk_0_32 (by omega) (by decide) rfl (by decide) rfl rfl (Nat.le_of_ble_eq_true rfl) (fun r3 m4 => ?_)
    refine Ev.ic_ge (t := 51) (by decide +kernel) ?_ ?_
    · refine Ev.le (ls' := [some (.ref 29), none, some (.int a2), none, some (.int a4), none]) ⟨rfl, ⟨rfl, ⟨rfl, trivial⟩⟩⟩ ?_
      exact hk _
    · refine Ev.run (pc' := 30) (ls' := [some (.ref 29), none, some (.int a2), some (.int a3), some (.int a4), some (.int a5)]) (st' := [.int 1, .int ((a3 >>> (a5 &&& 31)) &&& 1)]) (m' := m4) [(.iload_n 3, 0, 0, 0, 0), (.iload 5, 0, 0, 0, 0), (.ishr, 0, 0, 0, 0), (.iconst 1, 0, 0, 1, 0), (.iand, 0, 0, 0, 0), (.iconst 1, 0, 0, 1, 0)] (by decide +kernel) rfl ?_
      refine Ev.ic_ne (t := 45) (by decide +kernel) ?_ ?_
      · exact EX0_fires_J45 f (FX0_fires_L11 f k a3 n) a2 a3 a4 a5 m4 ih (by omega)
      · refine Ev.run (pc' := 44) (ls' := [some (.ref 29), none, some (.int a2), some (.int a3), some (.int a4), some (.int a5)]) (st' := [.int 9, .int a5, .ref 32]) (m' := m4) [(.aload_n 0, 0, 0, 0, 0), (.getfield 12, 0, 1, 0, 0), (.getfield 52, 8, 1, 0, 0), (.iload 5, 0, 0, 0, 0), (.bipush 9, 0, 0, 9, 0)] (by decide +kernel) rfl ?_
        refine Ev.iast (n := 8) (by decide +kernel) (by decide) rfl ?_
        exact EX0_fires_J45 f (FX0_fires_L11 f k a3 n) a2 a3 a4 a5 ((ev_up m4.1 32 a5.toNatClampNeg 9), m4.2) ih (by omega)
set_option maxRecDepth 100000 in
set_option maxHeartbeats 4000000 in
theorem EX0_fires_J79 {l : Launch} {Ln : Nat} {xs : Nat → Int32} {d : Nat} (f : Nat) (kt54 : Int32 → ev_M → Option (Int32 × ev_M))  (a2 : Int32) (a4 : Int32) (a5 : Int32) (s2 : Int32) (m : ev_M)  (hkt54 : ∀ (e5 : Int32) (em : ev_M), Ev ev_eI l Ln xs YX0_fires d Sx 54 [some (.ref 29), none, some (.int a2), none, some (.int a4), some (.int e5)] [] em (kt54 e5 em)) (hd : 5 ≤ d) : Ev ev_eI l Ln xs YX0_fires d Sx 79 [some (.ref 29), none, some (.int a2), none, some (.int a4), some (.int a5)] [.int s2, .ref 30, .ref 16] m (FX0_fires_J79 f kt54 a5 s2 m) := by
  unfold FX0_fires_J79
  refine Ev.cV (av := [.ref 30, .int s2]) (st := []) (a := 16) (EX3_go (l := l) (Ln := Ln) (xs := xs) (d := 4) f 30 s2 m (by decide) (by decide)) rfl (by decide +kernel) mwX3_go iwX3_go vwX3_go lk_0_56 (by omega) (by decide) rfl (by decide) rfl rfl (Nat.le_of_ble_eq_true rfl) (fun r6 m7 => ?_)
  refine Ev.run (pc' := 86) (ls' := [some (.ref 29), none, some (.int a2), none, some (.int a4), some (.int a5)]) (st' := [.ref 16]) (m' := m7) [(.aload_n 0, 0, 0, 0, 0), (.getfield 28, 0, 0, 0, 0)] (by decide +kernel) rfl ?_
  refine Ev.cV (av := []) (st := []) (a := 16) (EX3_isFire (l := l) (Ln := Ln) (xs := xs) (d := 1) f m7 (by decide)) rfl (by decide +kernel) mwX3_isFire iwX3_isFire vwX3_isFire lk_0_60 (by omega) (by decide) rfl (by decide) rfl rfl (Nat.le_of_ble_eq_true rfl) (fun r8 m9 => ?_)
  refine Ev.if_eq (t := 94) (by decide +kernel) ?_ ?_
  · refine Ev.run (pc' := 97) (ls' := [some (.ref 29), none, some (.int a2), none, some (.int a4), some (.int (a5 + 1))]) (st' := []) (m' := m9) [(.iinc 5 1, 0, 0, 1, 0)] (by decide +kernel) rfl ?_
    refine Ev.gto (t := 54) (by decide +kernel) ?_
    exact hkt54 _ _
  · refine Ev.run (pc' := 93) (ls' := [some (.ref 29), none, some (.int a2), none, some (.int a4), some (.int a5)]) (st' := [.int 1]) (m' := m9) [(.iconst 1, 0, 0, 1, 0)] (by decide +kernel) rfl ?_
    exact Ev.iretz rfl rfl (by decide +kernel) (by decide)
set_option maxRecDepth 100000 in
set_option maxHeartbeats 4000000 in
theorem EX0_fires_L54 {l : Launch} {Ln : Nat} {xs : Nat → Int32} {d : Nat} (f : Nat) (k : ev_M → Option (Int32 × ev_M))  (a2 : Int32) (a4 : Int32)   (hk : ∀  (em : ev_M), Ev ev_eI l Ln xs YX0_fires d Sx 100 [none, none, none, none, none, none] [] em (k em)) (hd : 5 ≤ d) : ∀ (n : Nat) (a5 : Int32) (m : ev_M), Ev ev_eI l Ln xs YX0_fires d Sx 54 [some (.ref 29), none, some (.int a2), none, some (.int a4), some (.int a5)] [] m (FX0_fires_L54 f k a2 a4 n a5 m) := by
  intro n
  induction n with
  | zero => intros; exact Ev.nn
  | succ n ih =>
    intro a5 m
    rw [FX0_fires_L54]
    refine Ev.run (pc' := 57) (ls' := [some (.ref 29), none, some (.int a2), none, some (.int a4), some (.int a5)]) (st' := [.int a2, .int a5]) (m' := m) [(.iload 5, 0, 0, 0, 0), (.iload_n 2, 0, 0, 0, 0)] (by decide +kernel) rfl ?_
    refine Ev.ic_ge (t := 100) (by decide +kernel) ?_ ?_
    · refine Ev.le (ls' := [none, none, none, none, none, none]) trivial ?_
      exact hk _
    · refine Ev.run (pc' := 70) (ls' := [some (.ref 29), none, some (.int a2), none, some (.int a4), some (.int a5)]) (st' := [.int a5, .ref 30, .ref 16]) (m' := m) [(.aload_n 0, 0, 0, 0, 0), (.getfield 28, 0, 0, 0, 0), (.aload_n 0, 0, 0, 0, 0), (.getfield 12, 0, 1, 0, 0), (.iload 5, 0, 0, 0, 0)] (by decide +kernel) rfl ?_
      refine Ev.if_ne (t := 78) (by decide +kernel) ?_ ?_
      · refine Ev.run (pc' := 79) (ls' := [some (.ref 29), none, some (.int a2), none, some (.int a4), some (.int a5)]) (st' := [.int 0, .ref 30, .ref 16]) (m' := m) [(.iconst 0, 0, 0, 0, 0)] (by decide +kernel) rfl ?_
        exact EX0_fires_J79 f (FX0_fires_L54 f k a2 a4 n) a2 a4 a5 (0 : Int32) m ih (by omega)
      · refine Ev.run (pc' := 75) (ls' := [some (.ref 29), none, some (.int a2), none, some (.int a4), some (.int a5)]) (st' := [.int a4, .ref 30, .ref 16]) (m' := m) [(.iload 4, 0, 0, 0, 0)] (by decide +kernel) rfl ?_
        refine Ev.gto (t := 79) (by decide +kernel) ?_
        exact EX0_fires_J79 f (FX0_fires_L54 f k a2 a4 n) a2 a4 a5 a4 m ih (by omega)
set_option maxRecDepth 100000 in
set_option maxHeartbeats 4000000 in
theorem EX0_fires {l : Launch} {Ln : Nat} {xs : Nat → Int32} {d : Nat} (f : Nat) (o1 : Nat) (a2 : Int32) (a3 : Int32) (a4 : Int32) (m : ev_M) (h_o1 : isK 8 o1) (hd : 5 ≤ d) : Mv ev_eI l Ln xs YX0_fires d Sx [.ref 29, .ref o1, .int a2, .int a3, .int a4] m (FX0_fires f o1 a2 a3 a4 m) := by
  refine Mv.of (by decide +kernel) rfl (Nat.le_of_ble_eq_true rfl) (Ev.le (ls' := [some (.ref 29), some (.ref o1), some (.int a2), some (.int a3), some (.int a4), none]) ⟨rfl, ⟨rfl, ⟨rfl, ⟨rfl, ⟨rfl, trivial⟩⟩⟩⟩⟩ ?_)
  unfold FX0_fires
  refine Ev.run (pc' := 5) (ls' := [some (.ref 29), some (.ref o1), some (.int a2), some (.int a3), some (.int a4), none]) (st' := [.ref o1, .ref 30]) (m' := m) [(.aload_n 0, 0, 0, 0, 0), (.getfield 12, 0, 1, 0, 0), (.aload_n 1, 0, 0, 0, 0)] (by decide +kernel) rfl ?_
  refine Ev.cV (av := [.ref o1]) (st := []) (a := 30) (EX8_copy (l := l) (Ln := Ln) (xs := xs) (d := 0) f 30 o1 m (by decide) h_o1 (by decide)) rfl (by decide +kernel) mwX8_copy iwX8_copy vwX8_copy lk_0_48 (by omega) (by decide) rfl (by decide) rfl rfl (Nat.le_of_ble_eq_true rfl) (fun r1 m2 => ?_)
  refine Ev.run (pc' := 11) (ls' := [some (.ref 29), some (.ref o1), some (.int a2), some (.int a3), some (.int a4), some (.int 0)]) (st' := []) (m' := m2) [(.iconst 0, 0, 0, 0, 0), (.istore 5, 0, 0, 0, 0)] (by decide +kernel) rfl ?_
  refine Ev.le (ls' := [some (.ref 29), none, some (.int a2), some (.int a3), some (.int a4), some (.int 0)]) ⟨rfl, ⟨rfl, ⟨rfl, ⟨rfl, ⟨rfl, trivial⟩⟩⟩⟩⟩ ?_
  refine EX0_fires_L11 f _ a2 a3 a4 ?_ (by omega) _ _ _
  intro m5
  refine Ev.run (pc' := 54) (ls' := [some (.ref 29), none, some (.int a2), none, some (.int a4), some (.int 0)]) (st' := []) (m' := m5) [(.iconst 0, 0, 0, 0, 0), (.istore 5, 0, 0, 0, 0)] (by decide +kernel) rfl ?_
  refine EX0_fires_L54 f _ a2 a4 ?_ (by omega) _ _ _
  intro m10
  refine Ev.run (pc' := 101) (ls' := [none, none, none, none, none, none]) (st' := [.int 0]) (m' := m10) [(.iconst 0, 0, 0, 0, 0)] (by decide +kernel) rfl ?_
  exact Ev.iretz rfl rfl (by decide +kernel) (by decide)
def FX0_tryRounds_L4 (f : Nat) (k : Int32 → ev_M → Option (Int32 × ev_M))  (a1 : Int32) : Nat → Int32 → Int32 → ev_M → Option (Int32 × ev_M)
  | 0, _, _, _ => none
  | n + 1, a2, a3, m => (if a1 ≤ a3 then (k a2 m) else (ev_bd (FX3_go f 30 (0 : Int32) m) (fun _ m2 => (ev_bd (FX3_doubtfulOnes f m2) (fun r3 m4 => (FX0_tryRounds_L4 f k a1 n (a2 + r3) (a3 + 1) m4))))))
def FX0_tryRounds (f : Nat) (a1 : Int32) (m : ev_M) : Option (Int32 × ev_M) :=
  (FX0_tryRounds_L4 f (fun e5 m6 => some (e5, m6)) a1 f (0 : Int32) (0 : Int32) m)
set_option maxRecDepth 100000 in
set_option maxHeartbeats 4000000 in
theorem EX0_tryRounds_L4 {l : Launch} {Ln : Nat} {xs : Nat → Int32} {d : Nat} (f : Nat) (k : Int32 → ev_M → Option (Int32 × ev_M))  (a1 : Int32)   (hk : ∀ (e2 : Int32) (em : ev_M), Ev ev_eI l Ln xs YX0_tryRounds d Sx 37 [none, none, some (.int e2), none] [] em (k e2 em)) (hd : 5 ≤ d) : ∀ (n : Nat) (a2 : Int32) (a3 : Int32) (m : ev_M), Ev ev_eI l Ln xs YX0_tryRounds d Sx 4 [some (.ref 29), some (.int a1), some (.int a2), some (.int a3)] [] m (FX0_tryRounds_L4 f k a1 n a2 a3 m) := by
  intro n
  induction n with
  | zero => intros; exact Ev.nn
  | succ n ih =>
    intro a2 a3 m
    rw [FX0_tryRounds_L4]
    refine Ev.run (pc' := 6) (ls' := [some (.ref 29), some (.int a1), some (.int a2), some (.int a3)]) (st' := [.int a1, .int a3]) (m' := m) [(.iload_n 3, 0, 0, 0, 0), (.iload_n 1, 0, 0, 0, 0)] (by decide +kernel) rfl ?_
    refine Ev.ic_ge (t := 37) (by decide +kernel) ?_ ?_
    · refine Ev.le (ls' := [none, none, some (.int a2), none]) ⟨rfl, trivial⟩ ?_
      exact hk _ _
    · refine Ev.run (pc' := 18) (ls' := [some (.ref 29), some (.int a1), some (.int a2), some (.int a3)]) (st' := [.int 0, .ref 30, .ref 16]) (m' := m) [(.aload_n 0, 0, 0, 0, 0), (.getfield 28, 0, 0, 0, 0), (.aload_n 0, 0, 0, 0, 0), (.getfield 12, 0, 1, 0, 0), (.iconst 0, 0, 0, 0, 0)] (by decide +kernel) rfl ?_
      refine Ev.cV (av := [.ref 30, .int 0]) (st := []) (a := 16) (EX3_go (l := l) (Ln := Ln) (xs := xs) (d := 4) f 30 (0 : Int32) m (by decide) (by decide)) rfl (by decide +kernel) mwX3_go iwX3_go vwX3_go lk_0_56 (by omega) (by decide) rfl (by decide) rfl rfl (Nat.le_of_ble_eq_true rfl) (fun r1 m2 => ?_)
      refine Ev.run (pc' := 26) (ls' := [some (.ref 29), some (.int a1), some (.int a2), some (.int a3)]) (st' := [.ref 16, .int a2]) (m' := m2) [(.iload_n 2, 0, 0, 0, 0), (.aload_n 0, 0, 0, 0, 0), (.getfield 28, 0, 0, 0, 0)] (by decide +kernel) rfl ?_
      refine Ev.cV (av := []) (st := [.int a2]) (a := 16) (EX3_doubtfulOnes (l := l) (Ln := Ln) (xs := xs) (d := 1) f m2 (by decide)) rfl (by decide +kernel) mwX3_doubtfulOnes iwX3_doubtfulOnes vwX3_doubtfulOnes lk_0_82 (by omega) (by decide) rfl (by decide) rfl rfl (Nat.le_of_ble_eq_true rfl) (fun r3 m4 => ?_)
      refine Ev.run (pc' := 34) (ls' := [some (.ref 29), some (.int a1), some (.int (a2 + r3)), some (.int (a3 + 1))]) (st' := []) (m' := m4) [(.iadd, 0, 0, 0, 0), (.istore_n 2, 0, 0, 0, 0), (.iinc 3 1, 0, 0, 1, 0)] (by decide +kernel) rfl ?_
      refine Ev.gto (t := 4) (by decide +kernel) ?_
      exact ih _ _ _
set_option maxRecDepth 100000 in
set_option maxHeartbeats 4000000 in
theorem EX0_tryRounds {l : Launch} {Ln : Nat} {xs : Nat → Int32} {d : Nat} (f : Nat) (a1 : Int32) (m : ev_M)  (hd : 5 ≤ d) : Mv ev_eI l Ln xs YX0_tryRounds d Sx [.ref 29, .int a1] m (FX0_tryRounds f a1 m) := by
  refine Mv.of (by decide +kernel) rfl (Nat.le_of_ble_eq_true rfl) (Ev.le (ls' := [some (.ref 29), some (.int a1), none, none]) ⟨rfl, ⟨rfl, trivial⟩⟩ ?_)
  unfold FX0_tryRounds
  refine Ev.run (pc' := 4) (ls' := [some (.ref 29), some (.int a1), some (.int 0), some (.int 0)]) (st' := []) (m' := m) [(.iconst 0, 0, 0, 0, 0), (.istore_n 2, 0, 0, 0, 0), (.iconst 0, 0, 0, 0, 0), (.istore_n 3, 0, 0, 0, 0)] (by decide +kernel) rfl ?_
  refine EX0_tryRounds_L4 f _ a1 ?_ (by omega) _ _ _ _
  intro e5 m6
  refine Ev.run (pc' := 38) (ls' := [none, none, some (.int e5), none]) (st' := [.int e5]) (m' := m6) [(.iload_n 2, 0, 0, 0, 0)] (by decide +kernel) rfl ?_
  exact Ev.ireti rfl rfl (by decide +kernel)
def FX0_worstBySigh_J69 (f : Nat) (kt5 : Int32 → Int32 → ev_M → Option (Int32 × ev_M))  (a3 : Int32) (a4 : Int32) (s2 : Int32) (m : ev_M) : Option (Int32 × ev_M) :=
  (ev_bd (FX3_go f 30 s2 m) (fun _ m6 => (ev_bd (FX3_doubtfulOnes f m6) (fun r7 m8 => (ev_bd (FJ9_max_7cf53 f a3 r7 m8) (fun r9 m10 => (kt5 r9 (a4 + 1) m10)))))))
def FX0_worstBySigh_J46 (f : Nat) (kt5 : Int32 → Int32 → ev_M → Option (Int32 × ev_M))  (a3 : Int32) (a4 : Int32)  (m : ev_M) : Option (Int32 × ev_M) :=
  (if a4 = 0 then (FX0_worstBySigh_J69 f kt5 a3 a4 (0 : Int32) m) else (FX0_worstBySigh_J69 f kt5 a3 a4 (1 <<< ((a4 - 1) &&& 31)) m))
def FX0_worstBySigh_L5 (f : Nat) (k : Int32 → ev_M → Option (Int32 × ev_M)) (o1 : Nat) (a2 : Int32) : Nat → Int32 → Int32 → ev_M → Option (Int32 × ev_M)
  | 0, _, _, _ => none
  | n + 1, a3, a4, m => (ev_bd (FX3_towers f m) (fun r1 m2 => (if r1 < a4 then (k a3 m2) else (ev_bd (FX8_copy f 30 o1 m2) (fun _ m4 => (if a2 < 0 then (FX0_worstBySigh_J46 f (FX0_worstBySigh_L5 f k o1 a2 n) a3 a4 m4) else (if 8 ≤ a2 then (FX0_worstBySigh_J46 f (FX0_worstBySigh_L5 f k o1 a2 n) a3 a4 m4) else (if ev_in a2 8 then (FX0_worstBySigh_J46 f (FX0_worstBySigh_L5 f k o1 a2 n) a3 a4 ((ev_up m4.1 32 a2.toNatClampNeg 9), m4.2)) else none))))))))
def FX0_worstBySigh (f : Nat) (o1 : Nat) (a2 : Int32) (m : ev_M) : Option (Int32 × ev_M) :=
  (FX0_worstBySigh_L5 f (fun e11 m12 => some (e11, m12)) o1 a2 f (0 : Int32) (0 : Int32) m)
set_option maxRecDepth 100000 in
set_option maxHeartbeats 4000000 in
theorem EX0_worstBySigh_J69 {l : Launch} {Ln : Nat} {xs : Nat → Int32} {d : Nat} (f : Nat) (kt5 : Int32 → Int32 → ev_M → Option (Int32 × ev_M)) (o1 : Nat) (a2 : Int32) (a3 : Int32) (a4 : Int32) (s2 : Int32) (m : ev_M) (h_o1 : isK 8 o1) (hkt5 : ∀ (e3 : Int32) (e4 : Int32) (em : ev_M), Ev ev_eI l Ln xs YX0_worstBySigh d Sx 5 [some (.ref 29), some (.ref o1), some (.int a2), some (.int e3), some (.int e4)] [] em (kt5 e3 e4 em)) (hd : 5 ≤ d) : Ev ev_eI l Ln xs YX0_worstBySigh d Sx 69 [some (.ref 29), some (.ref o1), some (.int a2), some (.int a3), some (.int a4)] [.int s2, .ref 30, .ref 16] m (FX0_worstBySigh_J69 f kt5 a3 a4 s2 m) := by
  unfold FX0_worstBySigh_J69
  refine Ev.cV (av := [.ref 30, .int s2]) (st := []) (a := 16) (EX3_go (l := l) (Ln := Ln) (xs := xs) (d := 4) f 30 s2 m (by decide) (by decide)) rfl (by decide +kernel) mwX3_go iwX3_go vwX3_go lk_0_56 (by omega) (by decide) rfl (by decide) rfl rfl (Nat.le_of_ble_eq_true rfl) (fun r5 m6 => ?_)
  refine Ev.run (pc' := 77) (ls' := [some (.ref 29), some (.ref o1), some (.int a2), some (.int a3), some (.int a4)]) (st' := [.ref 16, .int a3]) (m' := m6) [(.iload_n 3, 0, 0, 0, 0), (.aload_n 0, 0, 0, 0, 0), (.getfield 28, 0, 0, 0, 0)] (by decide +kernel) rfl ?_
  refine Ev.cV (av := []) (st := [.int a3]) (a := 16) (EX3_doubtfulOnes (l := l) (Ln := Ln) (xs := xs) (d := 1) f m6 (by decide)) rfl (by decide +kernel) mwX3_doubtfulOnes iwX3_doubtfulOnes vwX3_doubtfulOnes lk_0_82 (by omega) (by decide) rfl (by decide) rfl rfl (Nat.le_of_ble_eq_true rfl) (fun r7 m8 => ?_)
  refine Ev.cS (av := [.int a3, .int r7]) (st := []) (EJ9_max_7cf53 (l := l) (Ln := Ln) (xs := xs) (d := 0) f a3 r7 m8 (by decide)) rfl (by decide +kernel) mwJ9_max_7cf53 swJ9_max_7cf53 lk_0_89 (by omega) rfl (Nat.le_of_ble_eq_true rfl) (fun r9 m10 => ?_)
  refine Ev.run (pc' := 87) (ls' := [some (.ref 29), some (.ref o1), some (.int a2), some (.int r9), some (.int (a4 + 1))]) (st' := []) (m' := m10) [(.istore_n 3, 0, 0, 0, 0), (.iinc 4 1, 0, 0, 1, 0)] (by decide +kernel) rfl ?_
  refine Ev.gto (t := 5) (by decide +kernel) ?_
  exact hkt5 _ _ _
set_option maxRecDepth 100000 in
set_option maxHeartbeats 4000000 in
theorem EX0_worstBySigh_J46 {l : Launch} {Ln : Nat} {xs : Nat → Int32} {d : Nat} (f : Nat) (kt5 : Int32 → Int32 → ev_M → Option (Int32 × ev_M)) (o1 : Nat) (a2 : Int32) (a3 : Int32) (a4 : Int32)  (m : ev_M) (h_o1 : isK 8 o1) (hkt5 : ∀ (e3 : Int32) (e4 : Int32) (em : ev_M), Ev ev_eI l Ln xs YX0_worstBySigh d Sx 5 [some (.ref 29), some (.ref o1), some (.int a2), some (.int e3), some (.int e4)] [] em (kt5 e3 e4 em)) (hd : 5 ≤ d) : Ev ev_eI l Ln xs YX0_worstBySigh d Sx 46 [some (.ref 29), some (.ref o1), some (.int a2), some (.int a3), some (.int a4)] [] m (FX0_worstBySigh_J46 f kt5 a3 a4 m) := by
  unfold FX0_worstBySigh_J46
  refine Ev.run (pc' := 56) (ls' := [some (.ref 29), some (.ref o1), some (.int a2), some (.int a3), some (.int a4)]) (st' := [.int a4, .ref 30, .ref 16]) (m' := m) [(.aload_n 0, 0, 0, 0, 0), (.getfield 28, 0, 0, 0, 0), (.aload_n 0, 0, 0, 0, 0), (.getfield 12, 0, 1, 0, 0), (.iload 4, 0, 0, 0, 0)] (by decide +kernel) rfl ?_
  refine Ev.if_ne (t := 63) (by decide +kernel) ?_ ?_
  · refine Ev.run (pc' := 69) (ls' := [some (.ref 29), some (.ref o1), some (.int a2), some (.int a3), some (.int a4)]) (st' := [.int (1 <<< ((a4 - 1) &&& 31)), .ref 30, .ref 16]) (m' := m) [(.iconst 1, 0, 0, 1, 0), (.iload 4, 0, 0, 0, 0), (.iconst 1, 0, 0, 1, 0), (.isub, 0, 0, 0, 0), (.ishl, 0, 0, 0, 0)] (by decide +kernel) rfl ?_
    exact EX0_worstBySigh_J69 f kt5 o1 a2 a3 a4 (1 <<< ((a4 - 1) &&& 31)) m h_o1 hkt5 (by omega)
  · refine Ev.run (pc' := 60) (ls' := [some (.ref 29), some (.ref o1), some (.int a2), some (.int a3), some (.int a4)]) (st' := [.int 0, .ref 30, .ref 16]) (m' := m) [(.iconst 0, 0, 0, 0, 0)] (by decide +kernel) rfl ?_
    refine Ev.gto (t := 69) (by decide +kernel) ?_
    exact EX0_worstBySigh_J69 f kt5 o1 a2 a3 a4 (0 : Int32) m h_o1 hkt5 (by omega)
set_option maxRecDepth 100000 in
set_option maxHeartbeats 4000000 in
theorem EX0_worstBySigh_L5 {l : Launch} {Ln : Nat} {xs : Nat → Int32} {d : Nat} (f : Nat) (k : Int32 → ev_M → Option (Int32 × ev_M)) (o1 : Nat) (a2 : Int32) (h_o1 : isK 8 o1)  (hk : ∀ (e3 : Int32) (em : ev_M), Ev ev_eI l Ln xs YX0_worstBySigh d Sx 90 [none, none, none, some (.int e3), none] [] em (k e3 em)) (hd : 5 ≤ d) : ∀ (n : Nat) (a3 : Int32) (a4 : Int32) (m : ev_M), Ev ev_eI l Ln xs YX0_worstBySigh d Sx 5 [some (.ref 29), some (.ref o1), some (.int a2), some (.int a3), some (.int a4)] [] m (FX0_worstBySigh_L5 f k o1 a2 n a3 a4 m) := by
  intro n
  induction n with
  | zero => intros; exact Ev.nn
  | succ n ih =>
    intro a3 a4 m
    rw [FX0_worstBySigh_L5]
    refine Ev.run (pc' := 11) (ls' := [some (.ref 29), some (.ref o1), some (.int a2), some (.int a3), some (.int a4)]) (st' := [.ref 16, .int a4]) (m' := m) [(.iload 4, 0, 0, 0, 0), (.aload_n 0, 0, 0, 0, 0), (.getfield 28, 0, 0, 0, 0)] (by decide +kernel) rfl ?_
    refine Ev.cV (av := []) (st := [.int a4]) (a := 16) (EX3_towers (l := l) (Ln := Ln) (xs := xs) (d := 0) f m (by decide)) rfl (by decide +kernel) mwX3_towers iwX3_towers vwX3_towers lk_0_32 (by omega) (by decide) rfl (by decide) rfl rfl (Nat.le_of_ble_eq_true rfl) (fun r1 m2 => ?_)
    refine Ev.ic_gt (t := 90) (by decide +kernel) ?_ ?_
    · refine Ev.le (ls' := [none, none, none, some (.int a3), none]) ⟨rfl, trivial⟩ ?_
      exact hk _ _
    · refine Ev.run (pc' := 22) (ls' := [some (.ref 29), some (.ref o1), some (.int a2), some (.int a3), some (.int a4)]) (st' := [.ref o1, .ref 30]) (m' := m2) [(.aload_n 0, 0, 0, 0, 0), (.getfield 12, 0, 1, 0, 0), (.aload_n 1, 0, 0, 0, 0)] (by decide +kernel) rfl ?_
      refine Ev.cV (av := [.ref o1]) (st := []) (a := 30) (EX8_copy (l := l) (Ln := Ln) (xs := xs) (d := 0) f 30 o1 m2 (by decide) h_o1 (by decide)) rfl (by decide +kernel) mwX8_copy iwX8_copy vwX8_copy lk_0_48 (by omega) (by decide) rfl (by decide) rfl rfl (Nat.le_of_ble_eq_true rfl) (fun r3 m4 => ?_)
      refine Ev.run (pc' := 26) (ls' := [some (.ref 29), some (.ref o1), some (.int a2), some (.int a3), some (.int a4)]) (st' := [.int a2]) (m' := m4) [(.iload_n 2, 0, 0, 0, 0)] (by decide +kernel) rfl ?_
      refine Ev.if_lt (t := 46) (by decide +kernel) ?_ ?_
      · exact EX0_worstBySigh_J46 f (FX0_worstBySigh_L5 f k o1 a2 n) o1 a2 a3 a4 m4 h_o1 ih (by omega)
      · refine Ev.run (pc' := 32) (ls' := [some (.ref 29), some (.ref o1), some (.int a2), some (.int a3), some (.int a4)]) (st' := [.int 8, .int a2]) (m' := m4) [(.iload_n 2, 0, 0, 0, 0), (.bipush 8, 0, 0, 8, 0)] (by decide +kernel) rfl ?_
        refine Ev.ic_ge (t := 46) (by decide +kernel) ?_ ?_
        · exact EX0_worstBySigh_J46 f (FX0_worstBySigh_L5 f k o1 a2 n) o1 a2 a3 a4 m4 h_o1 ih (by omega)
        · refine Ev.run (pc' := 45) (ls' := [some (.ref 29), some (.ref o1), some (.int a2), some (.int a3), some (.int a4)]) (st' := [.int 9, .int a2, .ref 32]) (m' := m4) [(.aload_n 0, 0, 0, 0, 0), (.getfield 12, 0, 1, 0, 0), (.getfield 52, 8, 1, 0, 0), (.iload_n 2, 0, 0, 0, 0), (.bipush 9, 0, 0, 9, 0)] (by decide +kernel) rfl ?_
          refine Ev.iast (n := 8) (by decide +kernel) (by decide) rfl ?_
          exact EX0_worstBySigh_J46 f (FX0_worstBySigh_L5 f k o1 a2 n) o1 a2 a3 a4 ((ev_up m4.1 32 a2.toNatClampNeg 9), m4.2) h_o1 ih (by omega)
set_option maxRecDepth 100000 in
set_option maxHeartbeats 4000000 in
theorem EX0_worstBySigh {l : Launch} {Ln : Nat} {xs : Nat → Int32} {d : Nat} (f : Nat) (o1 : Nat) (a2 : Int32) (m : ev_M) (h_o1 : isK 8 o1) (hd : 5 ≤ d) : Mv ev_eI l Ln xs YX0_worstBySigh d Sx [.ref 29, .ref o1, .int a2] m (FX0_worstBySigh f o1 a2 m) := by
  refine Mv.of (by decide +kernel) rfl (Nat.le_of_ble_eq_true rfl) (Ev.le (ls' := [some (.ref 29), some (.ref o1), some (.int a2), none, none]) ⟨rfl, ⟨rfl, ⟨rfl, trivial⟩⟩⟩ ?_)
  unfold FX0_worstBySigh
  refine Ev.run (pc' := 5) (ls' := [some (.ref 29), some (.ref o1), some (.int a2), some (.int 0), some (.int 0)]) (st' := []) (m' := m) [(.iconst 0, 0, 0, 0, 0), (.istore_n 3, 0, 0, 0, 0), (.iconst 0, 0, 0, 0, 0), (.istore 4, 0, 0, 0, 0)] (by decide +kernel) rfl ?_
  refine EX0_worstBySigh_L5 f _ o1 a2 h_o1 ?_ (by omega) _ _ _ _
  intro e11 m12
  refine Ev.run (pc' := 91) (ls' := [none, none, none, some (.int e11), none]) (st' := [.int e11]) (m' := m12) [(.iload_n 3, 0, 0, 0, 0)] (by decide +kernel) rfl ?_
  exact Ev.ireti rfl rfl (by decide +kernel)
