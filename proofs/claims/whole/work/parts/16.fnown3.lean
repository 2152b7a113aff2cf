def FX5_join (f : Nat) (a0 : Int32) (a1 : Int32) (a2 : Int32) (m : ev_M) : Option (Int32 × ev_M) :=
  (if a0 = (-11) then some ((a1 ||| a2), m) else (if a0 = (-10) then some ((a1 &&& a2), m) else (if a0 = (-9) then (if a1 = a2 then some (1, m) else some (0, m)) else (if a0 = (-8) then (if a1 ≤ a2 then some (0, m) else some (1, m)) else (if a0 = (-7) then (if a2 ≤ a1 then some (0, m) else some (1, m)) else (if a0 = (-6) then (ev_bd (FJ9_max_7cf53 f a1 a2 m) (fun r6 m7 => some (r6, m7))) else (if a0 = (-5) then (ev_bd (FJ9_min_7cf53 f a1 a2 m) (fun r9 m10 => some (r9, m10))) else (if a0 = (-4) then (if a2 = 0 then some (0, m) else (ev_bd (FJ9_floorDiv_7cf53 f a1 a2 m) (fun r12 m13 => some (r12, m13)))) else (if a0 = (-3) then (ev_bd (FJ9_min_f86c9 f (1000000 : Int64) ((a1 : Int32).toInt64 * (a2 : Int32).toInt64) m) (fun r15 m16 => (ev_bd (FJ9_max_f86c9 f (-1000000 : Int64) r15 m16) (fun r17 m18 => some ((r17 : Int64).toInt32, m18))))) else (if a0 = (-2) then (ev_bd (FJ9_min_f86c9 f (1000000 : Int64) ((a1 : Int32).toInt64 - (a2 : Int32).toInt64) m) (fun r20 m21 => (ev_bd (FJ9_max_f86c9 f (-1000000 : Int64) r20 m21) (fun r22 m23 => some ((r22 : Int64).toInt32, m23))))) else (if a0 = (-1) then (ev_bd (FJ9_min_f86c9 f (1000000 : Int64) ((a1 : Int32).toInt64 + (a2 : Int32).toInt64) m) (fun r25 m26 => (ev_bd (FJ9_max_f86c9 f (-1000000 : Int64) r25 m26) (fun r27 m28 => some ((r27 : Int64).toInt32, m28))))) else some (0, m))))))))))))
set_option maxRecDepth 100000 in
set_option maxHeartbeats 4000000 in
theorem EX5_join {l : Launch} {Ln : Nat} {xs : Nat → Int32} {d : Nat} (f : Nat) (a0 : Int32) (a1 : Int32) (a2 : Int32) (m : ev_M)  (hd : 1 ≤ d) : Mv ev_eI l Ln xs YX5_join d Sx [.int a0, .int a1, .int a2] m (FX5_join f a0 a1 a2 m) := by
  refine Mv.of (by decide +kernel) rfl (Nat.le_of_ble_eq_true rfl) (Ev.le (ls' := [some (.int a0), some (.int a1), some (.int a2)]) ⟨rfl, ⟨rfl, ⟨rfl, trivial⟩⟩⟩ ?_)
  unfold FX5_join
  refine Ev.run (pc' := 1) (ls' := [some (.int a0), some (.int a1), some (.int a2)]) (st' := [.int a0]) (m' := m) [(.iload_n 0, 0, 0, 0, 0)] (by decide +kernel) rfl ?_
  refine Ev.sw1 (-11) (t := 180) (by decide +kernel) (by decide) ?_ (fun z1 => ?_)
  · refine Ev.run (pc' := 183) (ls' := [some (.int a0), some (.int a1), some (.int a2)]) (st' := [.int (a1 ||| a2)]) (m' := m) [(.iload_n 1, 0, 0, 0, 0), (.iload_n 2, 0, 0, 0, 0), (.ior, 0, 0, 0, 0)] (by decide +kernel) rfl ?_
    exact Ev.ireti rfl rfl (by decide +kernel)
  refine Ev.sw1 (-10) (t := 176) (by decide +kernel) (by decide) ?_ (fun z2 => ?_)
  · refine Ev.run (pc' := 179) (ls' := [some (.int a0), some (.int a1), some (.int a2)]) (st' := [.int (a1 &&& a2)]) (m' := m) [(.iload_n 1, 0, 0, 0, 0), (.iload_n 2, 0, 0, 0, 0), (.iand, 0, 0, 0, 0)] (by decide +kernel) rfl ?_
    exact Ev.ireti rfl rfl (by decide +kernel)
  refine Ev.sw1 (-9) (t := 165) (by decide +kernel) (by decide) ?_ (fun z3 => ?_)
  · refine Ev.run (pc' := 167) (ls' := [some (.int a0), some (.int a1), some (.int a2)]) (st' := [.int a2, .int a1]) (m' := m) [(.iload_n 1, 0, 0, 0, 0), (.iload_n 2, 0, 0, 0, 0)] (by decide +kernel) rfl ?_
    refine Ev.ic_ne (t := 174) (by decide +kernel) ?_ ?_
    · refine Ev.run (pc' := 175) (ls' := [some (.int a0), some (.int a1), some (.int a2)]) (st' := [.int 0]) (m' := m) [(.iconst 0, 0, 0, 0, 0)] (by decide +kernel) rfl ?_
      exact Ev.ireti rfl rfl (by decide +kernel)
    · refine Ev.run (pc' := 171) (ls' := [some (.int a0), some (.int a1), some (.int a2)]) (st' := [.int 1]) (m' := m) [(.iconst 1, 0, 0, 1, 0)] (by decide +kernel) rfl ?_
      refine Ev.gto (t := 175) (by decide +kernel) ?_
      exact Ev.ireti rfl rfl (by decide +kernel)
  refine Ev.sw1 (-8) (t := 154) (by decide +kernel) (by decide) ?_ (fun z4 => ?_)
  · refine Ev.run (pc' := 156) (ls' := [some (.int a0), some (.int a1), some (.int a2)]) (st' := [.int a2, .int a1]) (m' := m) [(.iload_n 1, 0, 0, 0, 0), (.iload_n 2, 0, 0, 0, 0)] (by decide +kernel) rfl ?_
    refine Ev.ic_le (t := 163) (by decide +kernel) ?_ ?_
    · refine Ev.run (pc' := 164) (ls' := [some (.int a0), some (.int a1), some (.int a2)]) (st' := [.int 0]) (m' := m) [(.iconst 0, 0, 0, 0, 0)] (by decide +kernel) rfl ?_
      exact Ev.ireti rfl rfl (by decide +kernel)
    · refine Ev.run (pc' := 160) (ls' := [some (.int a0), some (.int a1), some (.int a2)]) (st' := [.int 1]) (m' := m) [(.iconst 1, 0, 0, 1, 0)] (by decide +kernel) rfl ?_
      refine Ev.gto (t := 164) (by decide +kernel) ?_
      exact Ev.ireti rfl rfl (by decide +kernel)
  refine Ev.sw1 (-7) (t := 143) (by decide +kernel) (by decide) ?_ (fun z5 => ?_)
  · refine Ev.run (pc' := 145) (ls' := [some (.int a0), some (.int a1), some (.int a2)]) (st' := [.int a2, .int a1]) (m' := m) [(.iload_n 1, 0, 0, 0, 0), (.iload_n 2, 0, 0, 0, 0)] (by decide +kernel) rfl ?_
    refine Ev.ic_ge (t := 152) (by decide +kernel) ?_ ?_
    · refine Ev.run (pc' := 153) (ls' := [some (.int a0), some (.int a1), some (.int a2)]) (st' := [.int 0]) (m' := m) [(.iconst 0, 0, 0, 0, 0)] (by decide +kernel) rfl ?_
      exact Ev.ireti rfl rfl (by decide +kernel)
    · refine Ev.run (pc' := 149) (ls' := [some (.int a0), some (.int a1), some (.int a2)]) (st' := [.int 1]) (m' := m) [(.iconst 1, 0, 0, 1, 0)] (by decide +kernel) rfl ?_
      refine Ev.gto (t := 153) (by decide +kernel) ?_
      exact Ev.ireti rfl rfl (by decide +kernel)
  refine Ev.sw1 (-6) (t := 137) (by decide +kernel) (by decide) ?_ (fun z8 => ?_)
  · refine Ev.run (pc' := 139) (ls' := [some (.int a0), some (.int a1), some (.int a2)]) (st' := [.int a2, .int a1]) (m' := m) [(.iload_n 1, 0, 0, 0, 0), (.iload_n 2, 0, 0, 0, 0)] (by decide +kernel) rfl ?_
    refine Ev.cS (av := [.int a1, .int a2]) (st := []) (EJ9_max_7cf53 (l := l) (Ln := Ln) (xs := xs) (d := 0) f a1 a2 m (by decide)) rfl (by decide +kernel) mwJ9_max_7cf53 swJ9_max_7cf53 lk_5_25 (by omega) rfl (Nat.le_of_ble_eq_true rfl) (fun r6 m7 => ?_)
    exact Ev.ireti rfl rfl (by decide +kernel)
  refine Ev.sw1 (-5) (t := 131) (by decide +kernel) (by decide) ?_ (fun z11 => ?_)
  · refine Ev.run (pc' := 133) (ls' := [some (.int a0), some (.int a1), some (.int a2)]) (st' := [.int a2, .int a1]) (m' := m) [(.iload_n 1, 0, 0, 0, 0), (.iload_n 2, 0, 0, 0, 0)] (by decide +kernel) rfl ?_
    refine Ev.cS (av := [.int a1, .int a2]) (st := []) (EJ9_min_7cf53 (l := l) (Ln := Ln) (xs := xs) (d := 0) f a1 a2 m (by decide)) rfl (by decide +kernel) mwJ9_min_7cf53 swJ9_min_7cf53 lk_5_60 (by omega) rfl (Nat.le_of_ble_eq_true rfl) (fun r9 m10 => ?_)
    exact Ev.ireti rfl rfl (by decide +kernel)
  refine Ev.sw1 (-4) (t := 117) (by decide +kernel) (by decide) ?_ (fun z14 => ?_)
  · refine Ev.run (pc' := 118) (ls' := [some (.int a0), some (.int a1), some (.int a2)]) (st' := [.int a2]) (m' := m) [(.iload_n 2, 0, 0, 0, 0)] (by decide +kernel) rfl ?_
    refine Ev.if_ne (t := 125) (by decide +kernel) ?_ ?_
    · refine Ev.run (pc' := 127) (ls' := [some (.int a0), some (.int a1), some (.int a2)]) (st' := [.int a2, .int a1]) (m' := m) [(.iload_n 1, 0, 0, 0, 0), (.iload_n 2, 0, 0, 0, 0)] (by decide +kernel) rfl ?_
      refine Ev.cS (av := [.int a1, .int a2]) (st := []) (EJ9_floorDiv_7cf53 (l := l) (Ln := Ln) (xs := xs) (d := 0) f a1 a2 m (by decide)) rfl (by decide +kernel) mwJ9_floorDiv_7cf53 swJ9_floorDiv_7cf53 lk_5_57 (by omega) rfl (Nat.le_of_ble_eq_true rfl) (fun r12 m13 => ?_)
      exact Ev.ireti rfl rfl (by decide +kernel)
    · refine Ev.run (pc' := 122) (ls' := [some (.int a0), some (.int a1), some (.int a2)]) (st' := [.int 0]) (m' := m) [(.iconst 0, 0, 0, 0, 0)] (by decide +kernel) rfl ?_
      refine Ev.gto (t := 130) (by decide +kernel) ?_
      exact Ev.ireti rfl rfl (by decide +kernel)
  refine Ev.sw1 (-3) (t := 98) (by decide +kernel) (by decide) ?_ (fun z19 => ?_)
  · refine Ev.run (pc' := 109) (ls' := [some (.int a0), some (.int a1), some (.int a2)]) (st' := [.long ((a1 : Int32).toInt64 * (a2 : Int32).toInt64), .long 1000000, .long (-1000000)]) (m' := m) [(.ldc2_w 47, 0, 0, 0, (-1000000)), (.ldc2_w 49, 0, 0, 0, 1000000), (.iload_n 1, 0, 0, 0, 0), (.i2l, 0, 0, 0, 0), (.iload_n 2, 0, 0, 0, 0), (.i2l, 0, 0, 0, 0), (.lmul, 0, 0, 0, 0)] (by decide +kernel) rfl ?_
    refine Ev.cS (av := [.long 1000000, .long ((a1 : Int32).toInt64 * (a2 : Int32).toInt64)]) (st := [.long (-1000000)]) (EJ9_min_f86c9 (l := l) (Ln := Ln) (xs := xs) (d := 0) f (1000000 : Int64) ((a1 : Int32).toInt64 * (a2 : Int32).toInt64) m (by decide)) rfl (by decide +kernel) mwJ9_min_f86c9 swJ9_min_f86c9 lk_5_51 (by omega) rfl (Nat.le_of_ble_eq_true rfl) (fun r15 m16 => ?_)
    refine Ev.cS (av := [.long (-1000000), .long r15]) (st := []) (EJ9_max_f86c9 (l := l) (Ln := Ln) (xs := xs) (d := 0) f (-1000000 : Int64) r15 m16 (by decide)) rfl (by decide +kernel) mwJ9_max_f86c9 swJ9_max_f86c9 lk_5_55 (by omega) rfl (Nat.le_of_ble_eq_true rfl) (fun r17 m18 => ?_)
    refine Ev.run (pc' := 116) (ls' := [some (.int a0), some (.int a1), some (.int a2)]) (st' := [.int (r17 : Int64).toInt32]) (m' := m18) [(.l2i, 0, 0, 0, 0)] (by decide +kernel) rfl ?_
    exact Ev.ireti rfl rfl (by decide +kernel)
  refine Ev.sw1 (-2) (t := 79) (by decide +kernel) (by decide) ?_ (fun z24 => ?_)
  · refine Ev.run (pc' := 90) (ls' := [some (.int a0), some (.int a1), some (.int a2)]) (st' := [.long ((a1 : Int32).toInt64 - (a2 : Int32).toInt64), .long 1000000, .long (-1000000)]) (m' := m) [(.ldc2_w 47, 0, 0, 0, (-1000000)), (.ldc2_w 49, 0, 0, 0, 1000000), (.iload_n 1, 0, 0, 0, 0), (.i2l, 0, 0, 0, 0), (.iload_n 2, 0, 0, 0, 0), (.i2l, 0, 0, 0, 0), (.lsub, 0, 0, 0, 0)] (by decide +kernel) rfl ?_
    refine Ev.cS (av := [.long 1000000, .long ((a1 : Int32).toInt64 - (a2 : Int32).toInt64)]) (st := [.long (-1000000)]) (EJ9_min_f86c9 (l := l) (Ln := Ln) (xs := xs) (d := 0) f (1000000 : Int64) ((a1 : Int32).toInt64 - (a2 : Int32).toInt64) m (by decide)) rfl (by decide +kernel) mwJ9_min_f86c9 swJ9_min_f86c9 lk_5_51 (by omega) rfl (Nat.le_of_ble_eq_true rfl) (fun r20 m21 => ?_)
    refine Ev.cS (av := [.long (-1000000), .long r20]) (st := []) (EJ9_max_f86c9 (l := l) (Ln := Ln) (xs := xs) (d := 0) f (-1000000 : Int64) r20 m21 (by decide)) rfl (by decide +kernel) mwJ9_max_f86c9 swJ9_max_f86c9 lk_5_55 (by omega) rfl (Nat.le_of_ble_eq_true rfl) (fun r22 m23 => ?_)
    refine Ev.run (pc' := 97) (ls' := [some (.int a0), some (.int a1), some (.int a2)]) (st' := [.int (r22 : Int64).toInt32]) (m' := m23) [(.l2i, 0, 0, 0, 0)] (by decide +kernel) rfl ?_
    exact Ev.ireti rfl rfl (by decide +kernel)
  refine Ev.sw1 (-1) (t := 60) (by decide +kernel) (by decide) ?_ (fun z29 => ?_)
  · refine Ev.run (pc' := 71) (ls' := [some (.int a0), some (.int a1), some (.int a2)]) (st' := [.long ((a1 : Int32).toInt64 + (a2 : Int32).toInt64), .long 1000000, .long (-1000000)]) (m' := m) [(.ldc2_w 47, 0, 0, 0, (-1000000)), (.ldc2_w 49, 0, 0, 0, 1000000), (.iload_n 1, 0, 0, 0, 0), (.i2l, 0, 0, 0, 0), (.iload_n 2, 0, 0, 0, 0), (.i2l, 0, 0, 0, 0), (.ladd, 0, 0, 0, 0)] (by decide +kernel) rfl ?_
    refine Ev.cS (av := [.long 1000000, .long ((a1 : Int32).toInt64 + (a2 : Int32).toInt64)]) (st := [.long (-1000000)]) (EJ9_min_f86c9 (l := l) (Ln := Ln) (xs := xs) (d := 0) f (1000000 : Int64) ((a1 : Int32).toInt64 + (a2 : Int32).toInt64) m (by decide)) rfl (by decide +kernel) mwJ9_min_f86c9 swJ9_min_f86c9 lk_5_51 (by omega) rfl (Nat.le_of_ble_eq_true rfl) (fun r25 m26 => ?_)
    refine Ev.cS (av := [.long (-1000000), .long r25]) (st := []) (EJ9_max_f86c9 (l := l) (Ln := Ln) (xs := xs) (d := 0) f (-1000000 : Int64) r25 m26 (by decide)) rfl (by decide +kernel) mwJ9_max_f86c9 swJ9_max_f86c9 lk_5_55 (by omega) rfl (Nat.le_of_ble_eq_true rfl) (fun r27 m28 => ?_)
    refine Ev.run (pc' := 78) (ls' := [some (.int a0), some (.int a1), some (.int a2)]) (st' := [.int (r27 : Int64).toInt32]) (m' := m28) [(.l2i, 0, 0, 0, 0)] (by decide +kernel) rfl ?_
    exact Ev.ireti rfl rfl (by decide +kernel)
  refine Ev.sw0 (vals := [-11, -10, -9, -8, -7, -6, -5, -4, -3, -2, -1]) (dt := 184) (by decide +kernel) (by simp only [List.mem_cons, List.not_mem_nil, or_false, not_or]; exact ⟨(lv_neT (k := (-11)) (a := -11) z1 (by decide)), (lv_neT (k := (-10)) (a := -10) z2 (by decide)), (lv_neT (k := (-9)) (a := -9) z3 (by decide)), (lv_neT (k := (-8)) (a := -8) z4 (by decide)), (lv_neT (k := (-7)) (a := -7) z5 (by decide)), (lv_neT (k := (-6)) (a := -6) z8 (by decide)), (lv_neT (k := (-5)) (a := -5) z11 (by decide)), (lv_neT (k := (-4)) (a := -4) z14 (by decide)), (lv_neT (k := (-3)) (a := -3) z19 (by decide)), (lv_neT (k := (-2)) (a := -2) z24 (by decide)), (lv_neT (k := (-1)) (a := -1) z29 (by decide))⟩) ?_
  refine Ev.run (pc' := 185) (ls' := [some (.int a0), some (.int a1), some (.int a2)]) (st' := [.int 0]) (m' := m) [(.iconst 0, 0, 0, 0, 0)] (by decide +kernel) rfl ?_
  exact Ev.ireti rfl rfl (by decide +kernel)
def FX6_keep (f : Nat) (o1 : Nat) (m : ev_M) : Option (Unit × ev_M) :=
  (if ev_in (m.1 40 2) 20 then (ev_bd (FX8_copy f (43 + 3 * (m.1 40 2).toNatClampNeg) o1 m) (fun _ m3 => (ev_bd (FJ9_min_7cf53 f (20 : Int32) ((m3.1 40 3) + 1) ((ev_up m3.1 40 2 (((m3.1 40 2) + 1) - ((m3.1 40 2) + 1) / 20 * 20)), m3.2)) (fun r4 m5 => some ((), ((ev_up m5.1 40 3 r4), m5.2)))))) else none)
set_option maxRecDepth 100000 in
set_option maxHeartbeats 4000000 in
theorem EX6_keep {l : Launch} {Ln : Nat} {xs : Nat → Int32} {d : Nat} (f : Nat) (o1 : Nat) (m : ev_M) (h_o1 : isK 8 o1) (hd : 1 ≤ d) : Mv ev_eV l Ln xs YX6_keep d Sx [.ref 40, .ref o1] m (FX6_keep f o1 m) := by
  refine Mv.of (by decide +kernel) rfl (Nat.le_of_ble_eq_true rfl) (Ev.le (ls' := [some (.ref 40), some (.ref o1)]) ⟨rfl, ⟨rfl, trivial⟩⟩ ?_)
  unfold FX6_keep
  refine Ev.run (pc' := 8) (ls' := [some (.ref 40), some (.ref o1)]) (st' := [.int (m.1 40 2), .ref 41]) (m' := m) [(.aload_n 0, 0, 0, 0, 0), (.getfield 11, 6, 0, 0, 0), (.aload_n 0, 0, 0, 0, 0), (.getfield 21, 6, 2, 0, 0)] (by decide +kernel) rfl ?_
  refine Ev.aald (n := 20) (b := (43 + 3 * (m.1 40 2).toNatClampNeg)) (by decide +kernel) (by decide) rfl (fun z => (k6_at _ z.2).1) (fun h1 => ?_)
  refine Ev.run (pc' := 10) (ls' := [some (.ref 40), some (.ref o1)]) (st' := [.ref o1, .ref (43 + 3 * (m.1 40 2).toNatClampNeg)]) (m' := m) [(.aload_n 1, 0, 0, 0, 0)] (by decide +kernel) rfl ?_
  refine Ev.cV (av := [.ref o1]) (st := []) (a := (43 + 3 * (m.1 40 2).toNatClampNeg)) (EX8_copy (l := l) (Ln := Ln) (xs := xs) (d := 0) f (43 + 3 * (m.1 40 2).toNatClampNeg) o1 m (k6_at _ h1.2).2 h_o1 (by decide)) rfl (by decide +kernel) mwX8_copy iwX8_copy vwX8_copy lk_6_29 (by omega) (k8_l0 (k6_at _ h1.2).2) (by rw [(k8_s0 (k6_at _ h1.2).2)]) (by decide) rfl rfl (Nat.le_of_ble_eq_true rfl) (fun r2 m3 => ?_)
  refine Ev.run (pc' := 22) (ls' := [some (.ref 40), some (.ref o1)]) (st' := [.int 20, .int ((m3.1 40 2) + 1), .ref 40]) (m' := m3) [(.aload_n 0, 0, 0, 0, 0), (.aload_n 0, 0, 0, 0, 0), (.getfield 21, 6, 2, 0, 0), (.iconst 1, 0, 0, 1, 0), (.iadd, 0, 0, 0, 0), (.bipush 20, 0, 0, 20, 0)] (by decide +kernel) rfl ?_
  refine Ev.irem' (by decide +kernel) (by decide) ?_
  refine Ev.run (pc' := 35) (ls' := [some (.ref 40), some (.ref o1)]) (st' := [.int ((m3.1 40 3) + 1), .int 20, .ref 40]) (m' := ((ev_up m3.1 40 2 (((m3.1 40 2) + 1) - ((m3.1 40 2) + 1) / 20 * 20)), m3.2)) [(.putfield 21, 6, 2, 0, 0), (.aload_n 0, 0, 0, 0, 0), (.bipush 20, 0, 0, 20, 0), (.aload_n 0, 0, 0, 0, 0), (.getfield 25, 6, 3, 0, 0), (.iconst 1, 0, 0, 1, 0), (.iadd, 0, 0, 0, 0)] (by decide +kernel) rfl ?_
  refine Ev.cS (av := [.int 20, .int ((m3.1 40 3) + 1)]) (st := [.ref 40]) (EJ9_min_7cf53 (l := l) (Ln := Ln) (xs := xs) (d := 0) f (20 : Int32) ((m3.1 40 3) + 1) ((ev_up m3.1 40 2 (((m3.1 40 2) + 1) - ((m3.1 40 2) + 1) / 20 * 20)), m3.2) (by decide)) rfl (by decide +kernel) mwJ9_min_7cf53 swJ9_min_7cf53 lk_6_33 (by omega) rfl (Nat.le_of_ble_eq_true rfl) (fun r4 m5 => ?_)
  refine Ev.run (pc' := 41) (ls' := [some (.ref 40), some (.ref o1)]) (st' := []) (m' := ((ev_up m5.1 40 3 r4), m5.2)) [(.putfield 25, 6, 3, 0, 0)] (by decide +kernel) rfl ?_
  exact Ev.retv rfl rfl (by decide +kernel)
def FX6_bringBack (f : Nat) (o1 : Nat) (m : ev_M) : Option (Int32 × ev_M) :=
  (if (m.1 40 3) = 0 then some (0, m) else (if ev_in ((((m.1 40 2) + 20) - 1) - (((m.1 40 2) + 20) - 1) / 20 * 20) 20 then (ev_bd (FX8_copy f o1 (43 + 3 * ((((m.1 40 2) + 20) - 1) - (((m.1 40 2) + 20) - 1) / 20 * 20).toNatClampNeg) ((ev_up (ev_up m.1 40 3 ((m.1 40 3) - 1)) 40 2 ((((m.1 40 2) + 20) - 1) - (((m.1 40 2) + 20) - 1) / 20 * 20)), m.2)) (fun _ m3 => some (1, m3))) else none))
set_option maxRecDepth 100000 in
set_option maxHeartbeats 4000000 in
theorem EX6_bringBack {l : Launch} {Ln : Nat} {xs : Nat → Int32} {d : Nat} (f : Nat) (o1 : Nat) (m : ev_M) (h_o1 : isK 8 o1) (hd : 1 ≤ d) : Mv ev_eI l Ln xs YX6_bringBack d Sx [.ref 40, .ref o1] m (FX6_bringBack f o1 m) := by
  refine Mv.of (by decide +kernel) rfl (Nat.le_of_ble_eq_true rfl) (Ev.le (ls' := [some (.ref 40), some (.ref o1)]) ⟨rfl, ⟨rfl, trivial⟩⟩ ?_)
  unfold FX6_bringBack
  refine Ev.run (pc' := 4) (ls' := [some (.ref 40), some (.ref o1)]) (st' := [.int (m.1 40 3)]) (m' := m) [(.aload_n 0, 0, 0, 0, 0), (.getfield 25, 6, 3, 0, 0)] (by decide +kernel) rfl ?_
  refine Ev.if_ne (t := 9) (by decide +kernel) ?_ ?_
  · refine Ev.run (pc' := 31) (ls' := [some (.ref 40), some (.ref o1)]) (st' := [.int 20, .int (((m.1 40 2) + 20) - 1), .ref 40]) (m' := ((ev_up m.1 40 3 ((m.1 40 3) - 1)), m.2)) [(.aload_n 0, 0, 0, 0, 0), (.dup, 0, 0, 0, 0), (.getfield 25, 6, 3, 0, 0), (.iconst 1, 0, 0, 1, 0), (.isub, 0, 0, 0, 0), (.putfield 25, 6, 3, 0, 0), (.aload_n 0, 0, 0, 0, 0), (.aload_n 0, 0, 0, 0, 0), (.getfield 21, 6, 2, 0, 0), (.bipush 20, 0, 0, 20, 0), (.iadd, 0, 0, 0, 0), (.iconst 1, 0, 0, 1, 0), (.isub, 0, 0, 0, 0), (.bipush 20, 0, 0, 20, 0)] (by decide +kernel) rfl ?_
    refine Ev.irem' (by decide +kernel) (by decide) ?_
    refine Ev.run (pc' := 44) (ls' := [some (.ref 40), some (.ref o1)]) (st' := [.int ((((m.1 40 2) + 20) - 1) - (((m.1 40 2) + 20) - 1) / 20 * 20), .ref 41, .ref o1]) (m' := ((ev_up (ev_up m.1 40 3 ((m.1 40 3) - 1)) 40 2 ((((m.1 40 2) + 20) - 1) - (((m.1 40 2) + 20) - 1) / 20 * 20)), m.2)) [(.putfield 21, 6, 2, 0, 0), (.aload_n 1, 0, 0, 0, 0), (.aload_n 0, 0, 0, 0, 0), (.getfield 11, 6, 0, 0, 0), (.aload_n 0, 0, 0, 0, 0), (.getfield 21, 6, 2, 0, 0)] (by decide +kernel) rfl ?_
    refine Ev.aald (n := 20) (b := (43 + 3 * ((((m.1 40 2) + 20) - 1) - (((m.1 40 2) + 20) - 1) / 20 * 20).toNatClampNeg)) (by decide +kernel) (by decide) rfl (fun z => (k6_at _ z.2).1) (fun h1 => ?_)
    refine Ev.cV (av := [.ref (43 + 3 * ((((m.1 40 2) + 20) - 1) - (((m.1 40 2) + 20) - 1) / 20 * 20).toNatClampNeg)]) (st := []) (a := o1) (EX8_copy (l := l) (Ln := Ln) (xs := xs) (d := 0) f o1 (43 + 3 * ((((m.1 40 2) + 20) - 1) - (((m.1 40 2) + 20) - 1) / 20 * 20).toNatClampNeg) ((ev_up (ev_up m.1 40 3 ((m.1 40 3) - 1)) 40 2 ((((m.1 40 2) + 20) - 1) - (((m.1 40 2) + 20) - 1) / 20 * 20)), m.2) h_o1 (k6_at _ h1.2).2 (by decide)) rfl (by decide +kernel) mwX8_copy iwX8_copy vwX8_copy lk_6_29 (by omega) (k8_l0 h_o1) (by rw [(k8_s0 h_o1)]) (by decide) rfl rfl (Nat.le_of_ble_eq_true rfl) (fun r2 m3 => ?_)
    refine Ev.run (pc' := 49) (ls' := [some (.ref 40), some (.ref o1)]) (st' := [.int 1]) (m' := m3) [(.iconst 1, 0, 0, 1, 0)] (by decide +kernel) rfl ?_
    exact Ev.iretz rfl rfl (by decide +kernel) (by decide)
  · refine Ev.run (pc' := 8) (ls' := [some (.ref 40), some (.ref o1)]) (st' := [.int 0]) (m' := m) [(.iconst 0, 0, 0, 0, 0)] (by decide +kernel) rfl ?_
    exact Ev.iretz rfl rfl (by decide +kernel) (by decide)
def FX7_joined (f : Nat) (a1 : Int64) (a3 : Int32) (a4 : Int32) (m : ev_M) : Option (Int64 × ev_M) :=
  (if (m.1 22 6) = 23 then (if (lg_cmp a1 (-1)) = 0 then (if a4 = 1 then some ((a3 : Int32).toInt64, m) else some (a1, m)) else some (a1, m)) else (if (m.1 22 6) = 24 then (if a4 = 1 then some ((a3 : Int32).toInt64, m) else some (a1, m)) else (if (m.1 22 6) = 27 then (if a3 = 0 then some ((a4 : Int32).toInt64, m) else (ev_bd (FJ9_max_f86c9 f a1 (a4 : Int32).toInt64 m) (fun r3 m4 => some (r3, m4)))) else (if (m.1 22 6) = 28 then (if a3 = 0 then some ((a4 : Int32).toInt64, m) else (ev_bd (FJ9_min_f86c9 f a1 (a4 : Int32).toInt64 m) (fun r6 m7 => some (r6, m7)))) else some ((a1 + (a4 : Int32).toInt64), m)))))
set_option maxRecDepth 100000 in
set_option maxHeartbeats 4000000 in
theorem EX7_joined {l : Launch} {Ln : Nat} {xs : Nat → Int32} {d : Nat} (f : Nat) (a1 : Int64) (a3 : Int32) (a4 : Int32) (m : ev_M)  (hd : 1 ≤ d) : Mv ev_eL l Ln xs YX7_joined d Sx [.ref 22, .long a1, .int a3, .int a4] m (FX7_joined f a1 a3 a4 m) := by
  refine Mv.of (by decide +kernel) rfl (Nat.le_of_ble_eq_true rfl) (Ev.le (ls' := [some (.ref 22), some (.long a1), none, some (.int a3), some (.int a4)]) ⟨rfl, ⟨rfl, ⟨rfl, ⟨rfl, trivial⟩⟩⟩⟩ ?_)
  unfold FX7_joined
  refine Ev.run (pc' := 4) (ls' := [some (.ref 22), some (.long a1), none, some (.int a3), some (.int a4)]) (st' := [.int (m.1 22 6)]) (m' := m) [(.aload_n 0, 0, 0, 0, 0), (.getfield 29, 7, 6, 0, 0)] (by decide +kernel) rfl ?_
  refine Ev.sw1 23 (t := 44) (by decide +kernel) (by decide) ?_ (fun z1 => ?_)
  · refine Ev.run (pc' := 49) (ls' := [some (.ref 22), some (.long a1), none, some (.int a3), some (.int a4)]) (st' := [.int (lg_cmp a1 (-1))]) (m' := m) [(.lload_n 1, 0, 0, 0, 0), (.ldc2_w 118, 0, 0, 0, (-1)), (.lcmp, 0, 0, 0, 0)] (by decide +kernel) rfl ?_
    refine Ev.if_ne (t := 63) (by decide +kernel) ?_ ?_
    · refine Ev.run (pc' := 64) (ls' := [some (.ref 22), some (.long a1), none, some (.int a3), some (.int a4)]) (st' := [.long a1]) (m' := m) [(.lload_n 1, 0, 0, 0, 0)] (by decide +kernel) rfl ?_
      exact Ev.retl rfl rfl (by decide +kernel)
    · refine Ev.run (pc' := 55) (ls' := [some (.ref 22), some (.long a1), none, some (.int a3), some (.int a4)]) (st' := [.int 1, .int a4]) (m' := m) [(.iload 4, 0, 0, 0, 0), (.iconst 1, 0, 0, 1, 0)] (by decide +kernel) rfl ?_
      refine Ev.ic_ne (t := 63) (by decide +kernel) ?_ ?_
      · refine Ev.run (pc' := 64) (ls' := [some (.ref 22), some (.long a1), none, some (.int a3), some (.int a4)]) (st' := [.long a1]) (m' := m) [(.lload_n 1, 0, 0, 0, 0)] (by decide +kernel) rfl ?_
        exact Ev.retl rfl rfl (by decide +kernel)
      · refine Ev.run (pc' := 60) (ls' := [some (.ref 22), some (.long a1), none, some (.int a3), some (.int a4)]) (st' := [.long (a3 : Int32).toInt64]) (m' := m) [(.iload_n 3, 0, 0, 0, 0), (.i2l, 0, 0, 0, 0)] (by decide +kernel) rfl ?_
        refine Ev.gto (t := 64) (by decide +kernel) ?_
        exact Ev.retl rfl rfl (by decide +kernel)
  refine Ev.sw1 24 (t := 65) (by decide +kernel) (by decide) ?_ (fun z2 => ?_)
  · refine Ev.run (pc' := 68) (ls' := [some (.ref 22), some (.long a1), none, some (.int a3), some (.int a4)]) (st' := [.int 1, .int a4]) (m' := m) [(.iload 4, 0, 0, 0, 0), (.iconst 1, 0, 0, 1, 0)] (by decide +kernel) rfl ?_
    refine Ev.ic_ne (t := 76) (by decide +kernel) ?_ ?_
    · refine Ev.run (pc' := 77) (ls' := [some (.ref 22), some (.long a1), none, some (.int a3), some (.int a4)]) (st' := [.long a1]) (m' := m) [(.lload_n 1, 0, 0, 0, 0)] (by decide +kernel) rfl ?_
      exact Ev.retl rfl rfl (by decide +kernel)
    · refine Ev.run (pc' := 73) (ls' := [some (.ref 22), some (.long a1), none, some (.int a3), some (.int a4)]) (st' := [.long (a3 : Int32).toInt64]) (m' := m) [(.iload_n 3, 0, 0, 0, 0), (.i2l, 0, 0, 0, 0)] (by decide +kernel) rfl ?_
      refine Ev.gto (t := 77) (by decide +kernel) ?_
      exact Ev.retl rfl rfl (by decide +kernel)
  refine Ev.sw1 27 (t := 78) (by decide +kernel) (by decide) ?_ (fun z5 => ?_)
  · refine Ev.run (pc' := 79) (ls' := [some (.ref 22), some (.long a1), none, some (.int a3), some (.int a4)]) (st' := [.int a3]) (m' := m) [(.iload_n 3, 0, 0, 0, 0)] (by decide +kernel) rfl ?_
    refine Ev.if_ne (t := 88) (by decide +kernel) ?_ ?_
    · refine Ev.run (pc' := 92) (ls' := [some (.ref 22), some (.long a1), none, some (.int a3), some (.int a4)]) (st' := [.long (a4 : Int32).toInt64, .long a1]) (m' := m) [(.lload_n 1, 0, 0, 0, 0), (.iload 4, 0, 0, 0, 0), (.i2l, 0, 0, 0, 0)] (by decide +kernel) rfl ?_
      refine Ev.cS (av := [.long a1, .long (a4 : Int32).toInt64]) (st := []) (EJ9_max_f86c9 (l := l) (Ln := Ln) (xs := xs) (d := 0) f a1 (a4 : Int32).toInt64 m (by decide)) rfl (by decide +kernel) mwJ9_max_f86c9 swJ9_max_f86c9 lk_7_143 (by omega) rfl (Nat.le_of_ble_eq_true rfl) (fun r3 m4 => ?_)
      exact Ev.retl rfl rfl (by decide +kernel)
    · refine Ev.run (pc' := 85) (ls' := [some (.ref 22), some (.long a1), none, some (.int a3), some (.int a4)]) (st' := [.long (a4 : Int32).toInt64]) (m' := m) [(.iload 4, 0, 0, 0, 0), (.i2l, 0, 0, 0, 0)] (by decide +kernel) rfl ?_
      refine Ev.gto (t := 95) (by decide +kernel) ?_
      exact Ev.retl rfl rfl (by decide +kernel)
  refine Ev.sw1 28 (t := 96) (by decide +kernel) (by decide) ?_ (fun z8 => ?_)
  · refine Ev.run (pc' := 97) (ls' := [some (.ref 22), some (.long a1), none, some (.int a3), some (.int a4)]) (st' := [.int a3]) (m' := m) [(.iload_n 3, 0, 0, 0, 0)] (by decide +kernel) rfl ?_
    refine Ev.if_ne (t := 106) (by decide +kernel) ?_ ?_
    · refine Ev.run (pc' := 110) (ls' := [some (.ref 22), some (.long a1), none, some (.int a3), some (.int a4)]) (st' := [.long (a4 : Int32).toInt64, .long a1]) (m' := m) [(.lload_n 1, 0, 0, 0, 0), (.iload 4, 0, 0, 0, 0), (.i2l, 0, 0, 0, 0)] (by decide +kernel) rfl ?_
      refine Ev.cS (av := [.long a1, .long (a4 : Int32).toInt64]) (st := []) (EJ9_min_f86c9 (l := l) (Ln := Ln) (xs := xs) (d := 0) f a1 (a4 : Int32).toInt64 m (by decide)) rfl (by decide +kernel) mwJ9_min_f86c9 swJ9_min_f86c9 lk_7_149 (by omega) rfl (Nat.le_of_ble_eq_true rfl) (fun r6 m7 => ?_)
      exact Ev.retl rfl rfl (by decide +kernel)
    · refine Ev.run (pc' := 103) (ls' := [some (.ref 22), some (.long a1), none, some (.int a3), some (.int a4)]) (st' := [.long (a4 : Int32).toInt64]) (m' := m) [(.iload 4, 0, 0, 0, 0), (.i2l, 0, 0, 0, 0)] (by decide +kernel) rfl ?_
      refine Ev.gto (t := 113) (by decide +kernel) ?_
      exact Ev.retl rfl rfl (by decide +kernel)
  refine Ev.sw0 (vals := [23, 24, 27, 28]) (dt := 114) (by decide +kernel) (by simp only [List.mem_cons, List.not_mem_nil, or_false, not_or]; exact ⟨(lv_neT (k := 23) (a := 23) z1 (by decide)), (lv_neT (k := 24) (a := 24) z2 (by decide)), (lv_neT (k := 27) (a := 27) z5 (by decide)), (lv_neT (k := 28) (a := 28) z8 (by decide))⟩) ?_
  refine Ev.run (pc' := 119) (ls' := [some (.ref 22), some (.long a1), none, some (.int a3), some (.int a4)]) (st' := [.long (a1 + (a4 : Int32).toInt64)]) (m' := m) [(.lload_n 1, 0, 0, 0, 0), (.iload 4, 0, 0, 0, 0), (.i2l, 0, 0, 0, 0), (.ladd, 0, 0, 0, 0)] (by decide +kernel) rfl ?_
  exact Ev.retl rfl rfl (by decide +kernel)
def FX10_advance_L56 (f : Nat) (k : ev_M → Option (Unit × ev_M))   : Nat → ev_M → Option (Unit × ev_M)
  | 0, _ => none
  | n + 1, m => (if (m.1 13 1) ≤ ((m.1 13 2) + (m.1 13 6)) then (k m) else (ev_bd (FX10_isLong f m) (fun r7 m8 => (if r7 = 0 then (k m8) else (ev_bd (FX10_kindAt f ((m8.1 13 2) + (m8.1 13 6)) m8) (fun r9 m10 => (if r9 = (m10.1 13 5) then (FX10_advance_L56 f k n ((ev_up m10.1 13 6 ((m10.1 13 6) + 1)), m10.2)) else (k m10))))))))
def FX10_advance_J191 (f : Nat)   (a1 : Int32) (a2 : Int32)  (m : ev_M) : Option (Unit × ev_M) :=
  (if a1 = 0 then some ((), m) else (if (m.1 13 2) = a2 then (ev_bd (FX10_isLong f m) (fun r14 m15 => (if r14 = 0 then some ((), m15) else some ((), ((ev_up m15.1 13 5 4), m15.2))))) else some ((), m)))
def FX10_advance_J188 (f : Nat)   (a1 : Int32) (a2 : Int32) (s1 : Int32) (m : ev_M) : Option (Unit × ev_M) :=
  (FX10_advance_J191 f a1 a2 ((ev_up m.1 13 7 s1), m.2))
def FX10_advance_J112 (f : Nat)   (a1 : Int32) (a2 : Int32)  (m : ev_M) : Option (Unit × ev_M) :=
  (if (m.1 13 5) = 1 then (ev_bd (FX10_wordHere f m) (fun r12 m13 => (FX10_advance_J191 f a1 a2 ((ev_up m13.1 13 7 r12), m13.2)))) else (if (m.1 13 5) = 2 then (ev_bd (FX10_numberHere f m) (fun r17 m18 => (FX10_advance_J191 f a1 a2 ((ev_up m18.1 13 7 r17), m18.2)))) else (if (m.1 13 5) = 3 then (if ev_in (m.1 13 2) 1600 then (FX10_advance_J188 f a1 a2 (m.1 14 (m.1 13 2).toNatClampNeg) m) else none) else (FX10_advance_J188 f a1 a2 (-1 : Int32) m))))
def FX10_advance_J53 (f : Nat)   (a1 : Int32) (a2 : Int32) (s1 : Int32) (m : ev_M) : Option (Unit × ev_M) :=
  (FX10_advance_L56 f (fun m11 => (FX10_advance_J112 f a1 a2 m11)) f ((ev_up m.1 13 6 s1), m.2))
def FX10_advance (f : Nat)  (m : ev_M) : Option (Unit × ev_M) :=
  (if (m.1 13 3) = 0 then (ev_bd (FX10_isLong f m) (fun r1 m2 => (ev_bd (FX10_skipBlanks f ((m2.1 13 2) + (m2.1 13 6)) m2) (fun _ m4 => (ev_bd (FX10_kindAt f (m4.1 13 2) m4) (fun r5 m6 => (if r5 = 0 then (FX10_advance_J53 f r1 ((m2.1 13 2) + (m2.1 13 6)) (0 : Int32) ((ev_up m6.1 13 5 r5), m6.2)) else (FX10_advance_J53 f r1 ((m2.1 13 2) + (m2.1 13 6)) (1 : Int32) ((ev_up m6.1 13 5 r5), m6.2))))))))) else some ((), m))
set_option maxRecDepth 100000 in
set_option maxHeartbeats 4000000 in
theorem EX10_advance_L56 {l : Launch} {Ln : Nat} {xs : Nat → Int32} {d : Nat} (f : Nat) (k : ev_M → Option (Unit × ev_M))  (a1 : Int32) (a2 : Int32)   (hk : ∀  (em : ev_M), Ev ev_eV l Ln xs YX10_advance d Sx 112 [some (.ref 13), some (.int a1), some (.int a2)] [] em (k em)) (hd : 5 ≤ d) : ∀ (n : Nat)  (m : ev_M), Ev ev_eV l Ln xs YX10_advance d Sx 56 [some (.ref 13), some (.int a1), some (.int a2)] [] m (FX10_advance_L56 f k n m) := by
  intro n
  induction n with
  | zero => intros; exact Ev.nn
  | succ n ih =>
    intro  m
    rw [FX10_advance_L56]
    refine Ev.run (pc' := 69) (ls' := [some (.ref 13), some (.int a1), some (.int a2)]) (st' := [.int (m.1 13 1), .int ((m.1 13 2) + (m.1 13 6))]) (m' := m) [(.aload_n 0, 0, 0, 0, 0), (.getfield 19, 10, 2, 0, 0), (.aload_n 0, 0, 0, 0, 0), (.getfield 31, 10, 6, 0, 0), (.iadd, 0, 0, 0, 0), (.aload_n 0, 0, 0, 0, 0), (.getfield 15, 10, 1, 0, 0)] (by decide +kernel) rfl ?_
    refine Ev.ic_ge (t := 112) (by decide +kernel) ?_ ?_
    · exact hk _
    · refine Ev.run (pc' := 73) (ls' := [some (.ref 13), some (.int a1), some (.int a2)]) (st' := [.ref 13]) (m' := m) [(.aload_n 0, 0, 0, 0, 0)] (by decide +kernel) rfl ?_
      refine Ev.cV (av := []) (st := []) (a := 13) (EX10_isLong (l := l) (Ln := Ln) (xs := xs) (d := 0) f m (by decide)) rfl (by decide +kernel) mwX10_isLong iwX10_isLong vwX10_isLong lk_10_44 (by omega) (by decide) rfl (by decide) rfl rfl (Nat.le_of_ble_eq_true rfl) (fun r7 m8 => ?_)
      refine Ev.if_eq (t := 112) (by decide +kernel) ?_ ?_
      · exact hk _
      · refine Ev.run (pc' := 89) (ls' := [some (.ref 13), some (.int a1), some (.int a2)]) (st' := [.int ((m8.1 13 2) + (m8.1 13 6)), .ref 13]) (m' := m8) [(.aload_n 0, 0, 0, 0, 0), (.aload_n 0, 0, 0, 0, 0), (.getfield 19, 10, 2, 0, 0), (.aload_n 0, 0, 0, 0, 0), (.getfield 31, 10, 6, 0, 0), (.iadd, 0, 0, 0, 0)] (by decide +kernel) rfl ?_
        refine Ev.cV (av := [.int ((m8.1 13 2) + (m8.1 13 6))]) (st := []) (a := 13) (EX10_kindAt (l := l) (Ln := Ln) (xs := xs) (d := 0) f ((m8.1 13 2) + (m8.1 13 6)) m8 (by decide)) rfl (by decide +kernel) mwX10_kindAt iwX10_kindAt vwX10_kindAt lk_10_52 (by omega) (by decide) rfl (by decide) rfl rfl (Nat.le_of_ble_eq_true rfl) (fun r9 m10 => ?_)
        refine Ev.run (pc' := 96) (ls' := [some (.ref 13), some (.int a1), some (.int a2)]) (st' := [.int (m10.1 13 5), .int r9]) (m' := m10) [(.aload_n 0, 0, 0, 0, 0), (.getfield 28, 10, 5, 0, 0)] (by decide +kernel) rfl ?_
        refine Ev.ic_ne (t := 112) (by decide +kernel) ?_ ?_
        · exact hk _
        · refine Ev.run (pc' := 109) (ls' := [some (.ref 13), some (.int a1), some (.int a2)]) (st' := []) (m' := ((ev_up m10.1 13 6 ((m10.1 13 6) + 1)), m10.2)) [(.aload_n 0, 0, 0, 0, 0), (.dup, 0, 0, 0, 0), (.getfield 31, 10, 6, 0, 0), (.iconst 1, 0, 0, 1, 0), (.iadd, 0, 0, 0, 0), (.putfield 31, 10, 6, 0, 0)] (by decide +kernel) rfl ?_
          refine Ev.gto (t := 56) (by decide +kernel) ?_
          exact ih _
set_option maxRecDepth 100000 in
set_option maxHeartbeats 4000000 in
theorem EX10_advance_J191 {l : Launch} {Ln : Nat} {xs : Nat → Int32} {d : Nat} (f : Nat)   (a1 : Int32) (a2 : Int32)  (m : ev_M)   (hd : 5 ≤ d) : Ev ev_eV l Ln xs YX10_advance d Sx 191 [some (.ref 13), some (.int a1), some (.int a2)] [] m (FX10_advance_J191 f a1 a2 m) := by
  unfold FX10_advance_J191
  refine Ev.run (pc' := 192) (ls' := [some (.ref 13), some (.int a1), some (.int a2)]) (st' := [.int a1]) (m' := m) [(.iload_n 1, 0, 0, 0, 0)] (by decide +kernel) rfl ?_
  refine Ev.if_eq (t := 215) (by decide +kernel) ?_ ?_
  · exact Ev.retv rfl rfl (by decide +kernel)
  · refine Ev.run (pc' := 200) (ls' := [some (.ref 13), some (.int a1), some (.int a2)]) (st' := [.int a2, .int (m.1 13 2)]) (m' := m) [(.aload_n 0, 0, 0, 0, 0), (.getfield 19, 10, 2, 0, 0), (.iload_n 2, 0, 0, 0, 0)] (by decide +kernel) rfl ?_
    refine Ev.ic_ne (t := 215) (by decide +kernel) ?_ ?_
    · exact Ev.retv rfl rfl (by decide +kernel)
    · refine Ev.run (pc' := 204) (ls' := [some (.ref 13), some (.int a1), some (.int a2)]) (st' := [.ref 13]) (m' := m) [(.aload_n 0, 0, 0, 0, 0)] (by decide +kernel) rfl ?_
      refine Ev.cV (av := []) (st := []) (a := 13) (EX10_isLong (l := l) (Ln := Ln) (xs := xs) (d := 0) f m (by decide)) rfl (by decide +kernel) mwX10_isLong iwX10_isLong vwX10_isLong lk_10_44 (by omega) (by decide) rfl (by decide) rfl rfl (Nat.le_of_ble_eq_true rfl) (fun r14 m15 => ?_)
      refine Ev.if_eq (t := 215) (by decide +kernel) ?_ ?_
      · exact Ev.retv rfl rfl (by decide +kernel)
      · refine Ev.run (pc' := 215) (ls' := [some (.ref 13), some (.int a1), some (.int a2)]) (st' := []) (m' := ((ev_up m15.1 13 5 4), m15.2)) [(.aload_n 0, 0, 0, 0, 0), (.iconst 4, 0, 0, 4, 0), (.putfield 28, 10, 5, 0, 0)] (by decide +kernel) rfl ?_
        exact Ev.retv rfl rfl (by decide +kernel)
set_option maxRecDepth 100000 in
set_option maxHeartbeats 4000000 in
theorem EX10_advance_J188 {l : Launch} {Ln : Nat} {xs : Nat → Int32} {d : Nat} (f : Nat)   (a1 : Int32) (a2 : Int32) (s1 : Int32) (m : ev_M)   (hd : 5 ≤ d) : Ev ev_eV l Ln xs YX10_advance d Sx 188 [some (.ref 13), some (.int a1), some (.int a2)] [.int s1, .ref 13] m (FX10_advance_J188 f a1 a2 s1 m) := by
  unfold FX10_advance_J188
  refine Ev.run (pc' := 191) (ls' := [some (.ref 13), some (.int a1), some (.int a2)]) (st' := []) (m' := ((ev_up m.1 13 7 s1), m.2)) [(.putfield 34, 10, 7, 0, 0)] (by decide +kernel) rfl ?_
  exact EX10_advance_J191 f a1 a2 ((ev_up m.1 13 7 s1), m.2) (by omega)
set_option maxRecDepth 100000 in
set_option maxHeartbeats 4000000 in
theorem EX10_advance_J112 {l : Launch} {Ln : Nat} {xs : Nat → Int32} {d : Nat} (f : Nat)   (a1 : Int32) (a2 : Int32)  (m : ev_M)   (hd : 5 ≤ d) : Ev ev_eV l Ln xs YX10_advance d Sx 112 [some (.ref 13), some (.int a1), some (.int a2)] [] m (FX10_advance_J112 f a1 a2 m) := by
  unfold FX10_advance_J112
  refine Ev.run (pc' := 116) (ls' := [some (.ref 13), some (.int a1), some (.int a2)]) (st' := [.int (m.1 13 5)]) (m' := m) [(.aload_n 0, 0, 0, 0, 0), (.getfield 28, 10, 5, 0, 0)] (by decide +kernel) rfl ?_
  refine Ev.sw1 1 (t := 144) (by decide +kernel) (by decide) ?_ (fun z16 => ?_)
  · refine Ev.run (pc' := 146) (ls' := [some (.ref 13), some (.int a1), some (.int a2)]) (st' := [.ref 13, .ref 13]) (m' := m) [(.aload_n 0, 0, 0, 0, 0), (.aload_n 0, 0, 0, 0, 0)] (by decide +kernel) rfl ?_
    refine Ev.cV (av := []) (st := [.ref 13]) (a := 13) (EX10_wordHere (l := l) (Ln := Ln) (xs := xs) (d := 4) f m (by decide)) rfl (by decide +kernel) mwX10_wordHere iwX10_wordHere vwX10_wordHere lk_10_56 (by omega) (by decide) rfl (by decide) rfl rfl (Nat.le_of_ble_eq_true rfl) (fun r12 m13 => ?_)
    refine Ev.run (pc' := 152) (ls' := [some (.ref 13), some (.int a1), some (.int a2)]) (st' := []) (m' := ((ev_up m13.1 13 7 r12), m13.2)) [(.putfield 34, 10, 7, 0, 0)] (by decide +kernel) rfl ?_
    refine Ev.gto (t := 191) (by decide +kernel) ?_
    exact EX10_advance_J191 f a1 a2 ((ev_up m13.1 13 7 r12), m13.2) (by omega)
  refine Ev.sw1 2 (t := 155) (by decide +kernel) (by decide) ?_ (fun z19 => ?_)
  · refine Ev.run (pc' := 157) (ls' := [some (.ref 13), some (.int a1), some (.int a2)]) (st' := [.ref 13, .ref 13]) (m' := m) [(.aload_n 0, 0, 0, 0, 0), (.aload_n 0, 0, 0, 0, 0)] (by decide +kernel) rfl ?_
    refine Ev.cV (av := []) (st := [.ref 13]) (a := 13) (EX10_numberHere (l := l) (Ln := Ln) (xs := xs) (d := 0) f m (by decide)) rfl (by decide +kernel) mwX10_numberHere iwX10_numberHere vwX10_numberHere lk_10_60 (by omega) (by decide) rfl (by decide) rfl rfl (Nat.le_of_ble_eq_true rfl) (fun r17 m18 => ?_)
    refine Ev.run (pc' := 163) (ls' := [some (.ref 13), some (.int a1), some (.int a2)]) (st' := []) (m' := ((ev_up m18.1 13 7 r17), m18.2)) [(.putfield 34, 10, 7, 0, 0)] (by decide +kernel) rfl ?_
    refine Ev.gto (t := 191) (by decide +kernel) ?_
    exact EX10_advance_J191 f a1 a2 ((ev_up m18.1 13 7 r17), m18.2) (by omega)
  refine Ev.sw0 (vals := [1, 2]) (dt := 166) (by decide +kernel) (by simp only [List.mem_cons, List.not_mem_nil, or_false, not_or]; exact ⟨(lv_neT (k := 1) (a := 1) z16 (by decide)), (lv_neT (k := 2) (a := 2) z19 (by decide))⟩) ?_
  refine Ev.run (pc' := 172) (ls' := [some (.ref 13), some (.int a1), some (.int a2)]) (st' := [.int 3, .int (m.1 13 5), .ref 13]) (m' := m) [(.aload_n 0, 0, 0, 0, 0), (.aload_n 0, 0, 0, 0, 0), (.getfield 28, 10, 5, 0, 0), (.iconst 3, 0, 0, 3, 0)] (by decide +kernel) rfl ?_
  refine Ev.ic_ne (t := 187) (by decide +kernel) ?_ ?_
  · refine Ev.run (pc' := 188) (ls' := [some (.ref 13), some (.int a1), some (.int a2)]) (st' := [.int (-1), .ref 13]) (m' := m) [(.iconst (-1), 0, 0, (-1), 0)] (by decide +kernel) rfl ?_
    exact EX10_advance_J188 f a1 a2 (-1 : Int32) m (by omega)
  · refine Ev.run (pc' := 183) (ls' := [some (.ref 13), some (.int a1), some (.int a2)]) (st' := [.int (m.1 13 2), .ref 14, .ref 13]) (m' := m) [(.aload_n 0, 0, 0, 0, 0), (.getfield 9, 10, 0, 0, 0), (.aload_n 0, 0, 0, 0, 0), (.getfield 19, 10, 2, 0, 0)] (by decide +kernel) rfl ?_
    refine Ev.iald (n := 1600) (by decide +kernel) (by decide) rfl ?_
    refine Ev.gto (t := 188) (by decide +kernel) ?_
    exact EX10_advance_J188 f a1 a2 (m.1 14 (m.1 13 2).toNatClampNeg) m (by omega)
set_option maxRecDepth 100000 in
set_option maxHeartbeats 4000000 in
theorem EX10_advance_J53 {l : Launch} {Ln : Nat} {xs : Nat → Int32} {d : Nat} (f : Nat)   (a1 : Int32) (a2 : Int32) (s1 : Int32) (m : ev_M)   (hd : 5 ≤ d) : Ev ev_eV l Ln xs YX10_advance d Sx 53 [some (.ref 13), some (.int a1), some (.int a2)] [.int s1, .ref 13] m (FX10_advance_J53 f a1 a2 s1 m) := by
  unfold FX10_advance_J53
  refine Ev.run (pc' := 56) (ls' := [some (.ref 13), some (.int a1), some (.int a2)]) (st' := []) (m' := ((ev_up m.1 13 6 s1), m.2)) [(.putfield 31, 10, 6, 0, 0)] (by decide +kernel) rfl ?_
  refine EX10_advance_L56 f _ a1 a2 ?_ (by omega) _ _
  intro m11
  exact EX10_advance_J112 f a1 a2 m11 (by omega)
set_option maxRecDepth 100000 in
set_option maxHeartbeats 4000000 in
theorem EX10_advance {l : Launch} {Ln : Nat} {xs : Nat → Int32} {d : Nat} (f : Nat)  (m : ev_M)  (hd : 5 ≤ d) : Mv ev_eV l Ln xs YX10_advance d Sx [.ref 13] m (FX10_advance f  m) := by
  refine Mv.of (by decide +kernel) rfl (Nat.le_of_ble_eq_true rfl) (Ev.le (ls' := [some (.ref 13), none, none]) ⟨rfl, trivial⟩ ?_)
  unfold FX10_advance
  refine Ev.run (pc' := 4) (ls' := [some (.ref 13), none, none]) (st' := [.int (m.1 13 3)]) (m' := m) [(.aload_n 0, 0, 0, 0, 0), (.getfield 22, 10, 3, 0, 0)] (by decide +kernel) rfl ?_
  refine Ev.if_eq (t := 8) (by decide +kernel) ?_ ?_
  · refine Ev.run (pc' := 9) (ls' := [some (.ref 13), none, none]) (st' := [.ref 13]) (m' := m) [(.aload_n 0, 0, 0, 0, 0)] (by decide +kernel) rfl ?_
    refine Ev.cV (av := []) (st := []) (a := 13) (EX10_isLong (l := l) (Ln := Ln) (xs := xs) (d := 0) f m (by decide)) rfl (by decide +kernel) mwX10_isLong iwX10_isLong vwX10_isLong lk_10_44 (by omega) (by decide) rfl (by decide) rfl rfl (Nat.le_of_ble_eq_true rfl) (fun r1 m2 => ?_)
    refine Ev.run (pc' := 25) (ls' := [some (.ref 13), some (.int r1), some (.int ((m2.1 13 2) + (m2.1 13 6)))]) (st' := [.int ((m2.1 13 2) + (m2.1 13 6)), .ref 13]) (m' := m2) [(.istore_n 1, 0, 0, 0, 0), (.aload_n 0, 0, 0, 0, 0), (.getfield 19, 10, 2, 0, 0), (.aload_n 0, 0, 0, 0, 0), (.getfield 31, 10, 6, 0, 0), (.iadd, 0, 0, 0, 0), (.istore_n 2, 0, 0, 0, 0), (.aload_n 0, 0, 0, 0, 0), (.iload_n 2, 0, 0, 0, 0)] (by decide +kernel) rfl ?_
    refine Ev.cV (av := [.int ((m2.1 13 2) + (m2.1 13 6))]) (st := []) (a := 13) (EX10_skipBlanks (l := l) (Ln := Ln) (xs := xs) (d := 0) f ((m2.1 13 2) + (m2.1 13 6)) m2 (by decide)) rfl (by decide +kernel) mwX10_skipBlanks iwX10_skipBlanks vwX10_skipBlanks lk_10_48 (by omega) (by decide) rfl (by decide) rfl rfl (Nat.le_of_ble_eq_true rfl) (fun r3 m4 => ?_)
    refine Ev.run (pc' := 34) (ls' := [some (.ref 13), some (.int r1), some (.int ((m2.1 13 2) + (m2.1 13 6)))]) (st' := [.int (m4.1 13 2), .ref 13, .ref 13]) (m' := m4) [(.aload_n 0, 0, 0, 0, 0), (.aload_n 0, 0, 0, 0, 0), (.aload_n 0, 0, 0, 0, 0), (.getfield 19, 10, 2, 0, 0)] (by decide +kernel) rfl ?_
    refine Ev.cV (av := [.int (m4.1 13 2)]) (st := [.ref 13]) (a := 13) (EX10_kindAt (l := l) (Ln := Ln) (xs := xs) (d := 0) f (m4.1 13 2) m4 (by decide)) rfl (by decide +kernel) mwX10_kindAt iwX10_kindAt vwX10_kindAt lk_10_52 (by omega) (by decide) rfl (by decide) rfl rfl (Nat.le_of_ble_eq_true rfl) (fun r5 m6 => ?_)
    refine Ev.run (pc' := 45) (ls' := [some (.ref 13), some (.int r1), some (.int ((m2.1 13 2) + (m2.1 13 6)))]) (st' := [.int r5, .ref 13]) (m' := ((ev_up m6.1 13 5 r5), m6.2)) [(.putfield 28, 10, 5, 0, 0), (.aload_n 0, 0, 0, 0, 0), (.aload_n 0, 0, 0, 0, 0), (.getfield 28, 10, 5, 0, 0)] (by decide +kernel) rfl ?_
    refine Ev.if_ne (t := 52) (by decide +kernel) ?_ ?_
    · refine Ev.run (pc' := 53) (ls' := [some (.ref 13), some (.int r1), some (.int ((m2.1 13 2) + (m2.1 13 6)))]) (st' := [.int 1, .ref 13]) (m' := ((ev_up m6.1 13 5 r5), m6.2)) [(.iconst 1, 0, 0, 1, 0)] (by decide +kernel) rfl ?_
      exact EX10_advance_J53 f r1 ((m2.1 13 2) + (m2.1 13 6)) (1 : Int32) ((ev_up m6.1 13 5 r5), m6.2) (by omega)
    · refine Ev.run (pc' := 49) (ls' := [some (.ref 13), some (.int r1), some (.int ((m2.1 13 2) + (m2.1 13 6)))]) (st' := [.int 0, .ref 13]) (m' := ((ev_up m6.1 13 5 r5), m6.2)) [(.iconst 0, 0, 0, 0, 0)] (by decide +kernel) rfl ?_
      refine Ev.gto (t := 53) (by decide +kernel) ?_
      exact EX10_advance_J53 f r1 ((m2.1 13 2) + (m2.1 13 6)) (0 : Int32) ((ev_up m6.1 13 5 r5), m6.2) (by omega)
  · exact Ev.retv rfl rfl (by decide +kernel)
def FX10_takeSign (f : Nat) (a1 : Int32) (m : ev_M) : Option (Unit × ev_M) :=
  (ev_bd (FX10_isSign f a1 m) (fun r1 m2 => (if r1 = 0 then (ev_bd (FX10_fail f (1 : Int32) (m2.1 13 2) m2) (fun _ m4 => some ((), m4))) else (ev_bd (FX10_advance f m2) (fun _ m6 => some ((), m6))))))
set_option maxRecDepth 100000 in
set_option maxHeartbeats 4000000 in
theorem EX10_takeSign {l : Launch} {Ln : Nat} {xs : Nat → Int32} {d : Nat} (f : Nat) (a1 : Int32) (m : ev_M)  (hd : 6 ≤ d) : Mv ev_eV l Ln xs YX10_takeSign d Sx [.ref 13, .int a1] m (FX10_takeSign f a1 m) := by
  refine Mv.of (by decide +kernel) rfl (Nat.le_of_ble_eq_true rfl) (Ev.le (ls' := [some (.ref 13), some (.int a1)]) ⟨rfl, ⟨rfl, trivial⟩⟩ ?_)
  unfold FX10_takeSign
  refine Ev.run (pc' := 2) (ls' := [some (.ref 13), some (.int a1)]) (st' := [.int a1, .ref 13]) (m' := m) [(.aload_n 0, 0, 0, 0, 0), (.iload_n 1, 0, 0, 0, 0)] (by decide +kernel) rfl ?_
  refine Ev.cV (av := [.int a1]) (st := []) (a := 13) (EX10_isSign (l := l) (Ln := Ln) (xs := xs) (d := 0) f a1 m (by decide)) rfl (by decide +kernel) mwX10_isSign iwX10_isSign vwX10_isSign lk_10_71 (by omega) (by decide) rfl (by decide) rfl rfl (Nat.le_of_ble_eq_true rfl) (fun r1 m2 => ?_)
  refine Ev.if_eq (t := 15) (by decide +kernel) ?_ ?_
  · refine Ev.run (pc' := 21) (ls' := [some (.ref 13), some (.int a1)]) (st' := [.int (m2.1 13 2), .int 1, .ref 13]) (m' := m2) [(.aload_n 0, 0, 0, 0, 0), (.iconst 1, 0, 0, 1, 0), (.aload_n 0, 0, 0, 0, 0), (.getfield 19, 10, 2, 0, 0)] (by decide +kernel) rfl ?_
    refine Ev.cV (av := [.int 1, .int (m2.1 13 2)]) (st := []) (a := 13) (EX10_fail (l := l) (Ln := Ln) (xs := xs) (d := 0) f (1 : Int32) (m2.1 13 2) m2 (by decide)) rfl (by decide +kernel) mwX10_fail iwX10_fail vwX10_fail lk_10_74 (by omega) (by decide) rfl (by decide) rfl rfl (Nat.le_of_ble_eq_true rfl) (fun r3 m4 => ?_)
    exact Ev.retv rfl rfl (by decide +kernel)
  · refine Ev.run (pc' := 9) (ls' := [some (.ref 13), some (.int a1)]) (st' := [.ref 13]) (m' := m2) [(.aload_n 0, 0, 0, 0, 0)] (by decide +kernel) rfl ?_
    refine Ev.cV (av := []) (st := []) (a := 13) (EX10_advance (l := l) (Ln := Ln) (xs := xs) (d := 5) f m2 (by decide)) rfl (by decide +kernel) mwX10_advance iwX10_advance vwX10_advance lk_10_41 (by omega) (by decide) rfl (by decide) rfl rfl (Nat.le_of_ble_eq_true rfl) (fun r5 m6 => ?_)
    refine Ev.gto (t := 24) (by decide +kernel) ?_
    exact Ev.retv rfl rfl (by decide +kernel)
def FX10_takeWord (f : Nat) (a1 : Int32) (m : ev_M) : Option (Unit × ev_M) :=
  (ev_bd (FX10_isWord f a1 m) (fun r1 m2 => (if r1 = 0 then (ev_bd (FX10_fail f (1 : Int32) (m2.1 13 2) m2) (fun _ m4 => some ((), m4))) else (ev_bd (FX10_advance f m2) (fun _ m6 => some ((), m6))))))
set_option maxRecDepth 100000 in
set_option maxHeartbeats 4000000 in
theorem EX10_takeWord {l : Launch} {Ln : Nat} {xs : Nat → Int32} {d : Nat} (f : Nat) (a1 : Int32) (m : ev_M)  (hd : 6 ≤ d) : Mv ev_eV l Ln xs YX10_takeWord d Sx [.ref 13, .int a1] m (FX10_takeWord f a1 m) := by
  refine Mv.of (by decide +kernel) rfl (Nat.le_of_ble_eq_true rfl) (Ev.le (ls' := [some (.ref 13), some (.int a1)]) ⟨rfl, ⟨rfl, trivial⟩⟩ ?_)
  unfold FX10_takeWord
  refine Ev.run (pc' := 2) (ls' := [some (.ref 13), some (.int a1)]) (st' := [.int a1, .ref 13]) (m' := m) [(.aload_n 0, 0, 0, 0, 0), (.iload_n 1, 0, 0, 0, 0)] (by decide +kernel) rfl ?_
  refine Ev.cV (av := [.int a1]) (st := []) (a := 13) (EX10_isWord (l := l) (Ln := Ln) (xs := xs) (d := 0) f a1 m (by decide)) rfl (by decide +kernel) mwX10_isWord iwX10_isWord vwX10_isWord lk_10_78 (by omega) (by decide) rfl (by decide) rfl rfl (Nat.le_of_ble_eq_true rfl) (fun r1 m2 => ?_)
  refine Ev.if_eq (t := 15) (by decide +kernel) ?_ ?_
  · refine Ev.run (pc' := 21) (ls' := [some (.ref 13), some (.int a1)]) (st' := [.int (m2.1 13 2), .int 1, .ref 13]) (m' := m2) [(.aload_n 0, 0, 0, 0, 0), (.iconst 1, 0, 0, 1, 0), (.aload_n 0, 0, 0, 0, 0), (.getfield 19, 10, 2, 0, 0)] (by decide +kernel) rfl ?_
    refine Ev.cV (av := [.int 1, .int (m2.1 13 2)]) (st := []) (a := 13) (EX10_fail (l := l) (Ln := Ln) (xs := xs) (d := 0) f (1 : Int32) (m2.1 13 2) m2 (by decide)) rfl (by decide +kernel) mwX10_fail iwX10_fail vwX10_fail lk_10_74 (by omega) (by decide) rfl (by decide) rfl rfl (Nat.le_of_ble_eq_true rfl) (fun r3 m4 => ?_)
    exact Ev.retv rfl rfl (by decide +kernel)
  · refine Ev.run (pc' := 9) (ls' := [some (.ref 13), some (.int a1)]) (st' := [.ref 13]) (m' := m2) [(.aload_n 0, 0, 0, 0, 0)] (by decide +kernel) rfl ?_
    refine Ev.cV (av := []) (st := []) (a := 13) (EX10_advance (l := l) (Ln := Ln) (xs := xs) (d := 5) f m2 (by decide)) rfl (by decide +kernel) mwX10_advance iwX10_advance vwX10_advance lk_10_41 (by omega) (by decide) rfl (by decide) rfl rfl (Nat.le_of_ble_eq_true rfl) (fun r5 m6 => ?_)
    refine Ev.gto (t := 24) (by decide +kernel) ?_
    exact Ev.retv rfl rfl (by decide +kernel)
def FX10_takeNumber_J66 (f : Nat)   (a1 : Int32) (a3 : Int32)  (m : ev_M) : Option (Int32 × ev_M) :=
  (ev_bd (FX10_advance f m) (fun _ m4 => (ev_bd (FX10_isGood f m4) (fun r5 m6 => (if r5 = 0 then some (a1, m6) else some (a3, m6))))))
def FX10_takeNumber_J57 (f : Nat)   (a1 : Int32) (a3 : Int32)  (m : ev_M) : Option (Int32 × ev_M) :=
  (ev_bd (FX10_fail f (2 : Int32) (m.1 13 2) m) (fun _ m2 => (FX10_takeNumber_J66 f a1 a3 m2)))
def FX10_takeNumber (f : Nat) (a1 : Int32) (a2 : Int32) (m : ev_M) : Option (Int32 × ev_M) :=
  (if (m.1 13 5) = 2 then (if (m.1 13 6) ≤ 4 then (if (m.1 13 7) < a1 then (FX10_takeNumber_J57 f a1 (m.1 13 7) m) else (if (m.1 13 7) ≤ a2 then (FX10_takeNumber_J66 f a1 (m.1 13 7) m) else (FX10_takeNumber_J57 f a1 (m.1 13 7) m))) else (ev_bd (FX10_fail f (1 : Int32) ((m.1 13 2) + 4) m) (fun _ m8 => (FX10_takeNumber_J66 f a1 (m.1 13 7) m8)))) else (ev_bd (FX10_fail f (1 : Int32) (m.1 13 2) m) (fun _ m10 => (FX10_takeNumber_J66 f a1 (m.1 13 7) m10))))
set_option maxRecDepth 100000 in
set_option maxHeartbeats 4000000 in
theorem EX10_takeNumber_J66 {l : Launch} {Ln : Nat} {xs : Nat → Int32} {d : Nat} (f : Nat)   (a1 : Int32) (a3 : Int32)  (m : ev_M)   (hd : 6 ≤ d) : Ev ev_eI l Ln xs YX10_takeNumber d Sx 66 [some (.ref 13), some (.int a1), none, some (.int a3)] [] m (FX10_takeNumber_J66 f a1 a3 m) := by
  unfold FX10_takeNumber_J66
  refine Ev.run (pc' := 67) (ls' := [some (.ref 13), some (.int a1), none, some (.int a3)]) (st' := [.ref 13]) (m' := m) [(.aload_n 0, 0, 0, 0, 0)] (by decide +kernel) rfl ?_
  refine Ev.cV (av := []) (st := []) (a := 13) (EX10_advance (l := l) (Ln := Ln) (xs := xs) (d := 5) f m (by decide)) rfl (by decide +kernel) mwX10_advance iwX10_advance vwX10_advance lk_10_41 (by omega) (by decide) rfl (by decide) rfl rfl (Nat.le_of_ble_eq_true rfl) (fun r3 m4 => ?_)
  refine Ev.run (pc' := 71) (ls' := [some (.ref 13), some (.int a1), none, some (.int a3)]) (st' := [.ref 13]) (m' := m4) [(.aload_n 0, 0, 0, 0, 0)] (by decide +kernel) rfl ?_
  refine Ev.cV (av := []) (st := []) (a := 13) (EX10_isGood (l := l) (Ln := Ln) (xs := xs) (d := 0) f m4 (by decide)) rfl (by decide +kernel) mwX10_isGood iwX10_isGood vwX10_isGood lk_10_81 (by omega) (by decide) rfl (by decide) rfl rfl (Nat.le_of_ble_eq_true rfl) (fun r5 m6 => ?_)
  refine Ev.if_eq (t := 81) (by decide +kernel) ?_ ?_
  · refine Ev.run (pc' := 82) (ls' := [some (.ref 13), some (.int a1), none, some (.int a3)]) (st' := [.int a1]) (m' := m6) [(.iload_n 1, 0, 0, 0, 0)] (by decide +kernel) rfl ?_
    exact Ev.ireti rfl rfl (by decide +kernel)
  · refine Ev.run (pc' := 78) (ls' := [some (.ref 13), some (.int a1), none, some (.int a3)]) (st' := [.int a3]) (m' := m6) [(.iload_n 3, 0, 0, 0, 0)] (by decide +kernel) rfl ?_
    refine Ev.gto (t := 82) (by decide +kernel) ?_
    exact Ev.ireti rfl rfl (by decide +kernel)
set_option maxRecDepth 100000 in
set_option maxHeartbeats 4000000 in
theorem EX10_takeNumber_J57 {l : Launch} {Ln : Nat} {xs : Nat → Int32} {d : Nat} (f : Nat)   (a1 : Int32) (a3 : Int32)  (m : ev_M)   (hd : 6 ≤ d) : Ev ev_eI l Ln xs YX10_takeNumber d Sx 57 [some (.ref 13), some (.int a1), none, some (.int a3)] [] m (FX10_takeNumber_J57 f a1 a3 m) := by
  unfold FX10_takeNumber_J57
  refine Ev.run (pc' := 63) (ls' := [some (.ref 13), some (.int a1), none, some (.int a3)]) (st' := [.int (m.1 13 2), .int 2, .ref 13]) (m' := m) [(.aload_n 0, 0, 0, 0, 0), (.iconst 2, 0, 0, 2, 0), (.aload_n 0, 0, 0, 0, 0), (.getfield 19, 10, 2, 0, 0)] (by decide +kernel) rfl ?_
  refine Ev.cV (av := [.int 2, .int (m.1 13 2)]) (st := []) (a := 13) (EX10_fail (l := l) (Ln := Ln) (xs := xs) (d := 0) f (2 : Int32) (m.1 13 2) m (by decide)) rfl (by decide +kernel) mwX10_fail iwX10_fail vwX10_fail lk_10_74 (by omega) (by decide) rfl (by decide) rfl rfl (Nat.le_of_ble_eq_true rfl) (fun r1 m2 => ?_)
  exact EX10_takeNumber_J66 f a1 a3 m2 (by omega)
set_option maxRecDepth 100000 in
set_option maxHeartbeats 4000000 in
theorem EX10_takeNumber {l : Launch} {Ln : Nat} {xs : Nat → Int32} {d : Nat} (f : Nat) (a1 : Int32) (a2 : Int32) (m : ev_M)  (hd : 6 ≤ d) : Mv ev_eI l Ln xs YX10_takeNumber d Sx [.ref 13, .int a1, .int a2] m (FX10_takeNumber f a1 a2 m) := by
  refine Mv.of (by decide +kernel) rfl (Nat.le_of_ble_eq_true rfl) (Ev.le (ls' := [some (.ref 13), some (.int a1), some (.int a2), none]) ⟨rfl, ⟨rfl, ⟨rfl, trivial⟩⟩⟩ ?_)
  unfold FX10_takeNumber
  refine Ev.run (pc' := 10) (ls' := [some (.ref 13), some (.int a1), some (.int a2), some (.int (m.1 13 7))]) (st' := [.int 2, .int (m.1 13 5)]) (m' := m) [(.aload_n 0, 0, 0, 0, 0), (.getfield 34, 10, 7, 0, 0), (.istore_n 3, 0, 0, 0, 0), (.aload_n 0, 0, 0, 0, 0), (.getfield 28, 10, 5, 0, 0), (.iconst 2, 0, 0, 2, 0)] (by decide +kernel) rfl ?_
  refine Ev.ic_eq (t := 25) (by decide +kernel) ?_ ?_
  · refine Ev.run (pc' := 30) (ls' := [some (.ref 13), some (.int a1), some (.int a2), some (.int (m.1 13 7))]) (st' := [.int 4, .int (m.1 13 6)]) (m' := m) [(.aload_n 0, 0, 0, 0, 0), (.getfield 31, 10, 6, 0, 0), (.iconst 4, 0, 0, 4, 0)] (by decide +kernel) rfl ?_
    refine Ev.ic_le (t := 47) (by decide +kernel) ?_ ?_
    · refine Ev.run (pc' := 49) (ls' := [some (.ref 13), some (.int a1), some (.int a2), some (.int (m.1 13 7))]) (st' := [.int a1, .int (m.1 13 7)]) (m' := m) [(.iload_n 3, 0, 0, 0, 0), (.iload_n 1, 0, 0, 0, 0)] (by decide +kernel) rfl ?_
      refine Ev.ic_lt (t := 57) (by decide +kernel) ?_ ?_
      · refine Ev.le (ls' := [some (.ref 13), some (.int a1), none, some (.int (m.1 13 7))]) ⟨rfl, ⟨rfl, ⟨rfl, trivial⟩⟩⟩ ?_
        exact EX10_takeNumber_J57 f a1 (m.1 13 7) m (by omega)
      · refine Ev.run (pc' := 54) (ls' := [some (.ref 13), some (.int a1), some (.int a2), some (.int (m.1 13 7))]) (st' := [.int a2, .int (m.1 13 7)]) (m' := m) [(.iload_n 3, 0, 0, 0, 0), (.iload_n 2, 0, 0, 0, 0)] (by decide +kernel) rfl ?_
        refine Ev.ic_le (t := 66) (by decide +kernel) ?_ ?_
        · refine Ev.le (ls' := [some (.ref 13), some (.int a1), none, some (.int (m.1 13 7))]) ⟨rfl, ⟨rfl, ⟨rfl, trivial⟩⟩⟩ ?_
          exact EX10_takeNumber_J66 f a1 (m.1 13 7) m (by omega)
        · refine Ev.le (ls' := [some (.ref 13), some (.int a1), none, some (.int (m.1 13 7))]) ⟨rfl, ⟨rfl, ⟨rfl, trivial⟩⟩⟩ ?_
          exact EX10_takeNumber_J57 f a1 (m.1 13 7) m (by omega)
    · refine Ev.run (pc' := 41) (ls' := [some (.ref 13), some (.int a1), some (.int a2), some (.int (m.1 13 7))]) (st' := [.int ((m.1 13 2) + 4), .int 1, .ref 13]) (m' := m) [(.aload_n 0, 0, 0, 0, 0), (.iconst 1, 0, 0, 1, 0), (.aload_n 0, 0, 0, 0, 0), (.getfield 19, 10, 2, 0, 0), (.iconst 4, 0, 0, 4, 0), (.iadd, 0, 0, 0, 0)] (by decide +kernel) rfl ?_
      refine Ev.cV (av := [.int 1, .int ((m.1 13 2) + 4)]) (st := []) (a := 13) (EX10_fail (l := l) (Ln := Ln) (xs := xs) (d := 0) f (1 : Int32) ((m.1 13 2) + 4) m (by decide)) rfl (by decide +kernel) mwX10_fail iwX10_fail vwX10_fail lk_10_74 (by omega) (by decide) rfl (by decide) rfl rfl (Nat.le_of_ble_eq_true rfl) (fun r7 m8 => ?_)
      refine Ev.gto (t := 66) (by decide +kernel) ?_
      refine Ev.le (ls' := [some (.ref 13), some (.int a1), none, some (.int (m.1 13 7))]) ⟨rfl, ⟨rfl, ⟨rfl, trivial⟩⟩⟩ ?_
      exact EX10_takeNumber_J66 f a1 (m.1 13 7) m8 (by omega)
  · refine Ev.run (pc' := 19) (ls' := [some (.ref 13), some (.int a1), some (.int a2), some (.int (m.1 13 7))]) (st' := [.int (m.1 13 2), .int 1, .ref 13]) (m' := m) [(.aload_n 0, 0, 0, 0, 0), (.iconst 1, 0, 0, 1, 0), (.aload_n 0, 0, 0, 0, 0), (.getfield 19, 10, 2, 0, 0)] (by decide +kernel) rfl ?_
    refine Ev.cV (av := [.int 1, .int (m.1 13 2)]) (st := []) (a := 13) (EX10_fail (l := l) (Ln := Ln) (xs := xs) (d := 0) f (1 : Int32) (m.1 13 2) m (by decide)) rfl (by decide +kernel) mwX10_fail iwX10_fail vwX10_fail lk_10_74 (by omega) (by decide) rfl (by decide) rfl rfl (Nat.le_of_ble_eq_true rfl) (fun r9 m10 => ?_)
    refine Ev.gto (t := 66) (by decide +kernel) ?_
    refine Ev.le (ls' := [some (.ref 13), some (.int a1), none, some (.int (m.1 13 7))]) ⟨rfl, ⟨rfl, ⟨rfl, trivial⟩⟩⟩ ?_
    exact EX10_takeNumber_J66 f a1 (m.1 13 7) m10 (by omega)
def FX11_cheer_J31 (f : Nat)     (m : ev_M) : Option (Int32 × ev_M) :=
  (ev_bd (FX11_refuse f (2 : Int32) m) (fun r3 m4 => (if r3 = 0 ∨ r3 = 1 then some (r3, m4) else none)))
def FX11_cheer (f : Nat) (a1 : Int32) (a2 : Int32) (m : ev_M) : Option (Int32 × ev_M) :=
  (ev_bd (FX11_isTower f a1 m) (fun r1 m2 => (if r1 = 0 then (FX11_cheer_J31 f m2) else (if a2 < 0 then (FX11_cheer_J31 f m2) else (if 9 < a2 then (FX11_cheer_J31 f m2) else (if ev_in a1 8 then (if (m2.1 105 a1.toNatClampNeg) = a2 then (FX11_cheer_J31 f m2) else (ev_bd (FX6_keep f 103 m2) (fun _ m6 => (if ev_in a1 8 then some (1, ((ev_up m6.1 105 a1.toNatClampNeg a2), m6.2)) else none)))) else none))))))
set_option maxRecDepth 100000 in
set_option maxHeartbeats 4000000 in
theorem EX11_cheer_J31 {l : Launch} {Ln : Nat} {xs : Nat → Int32} {d : Nat} (f : Nat)     (m : ev_M)   (hd : 2 ≤ d) : Ev ev_eI l Ln xs YX11_cheer d Sx 31 [some (.ref 0), none, none] [] m (FX11_cheer_J31 f m) := by
  unfold FX11_cheer_J31
  refine Ev.run (pc' := 33) (ls' := [some (.ref 0), none, none]) (st' := [.int 2, .ref 0]) (m' := m) [(.aload_n 0, 0, 0, 0, 0), (.iconst 2, 0, 0, 2, 0)] (by decide +kernel) rfl ?_
  refine Ev.cV (av := [.int 2]) (st := []) (a := 0) (EX11_refuse (l := l) (Ln := Ln) (xs := xs) (d := 0) f (2 : Int32) m (by decide)) rfl (by decide +kernel) mwX11_refuse iwX11_refuse vwX11_refuse lk_11_115 (by omega) (by decide) rfl (by decide) rfl rfl (Nat.le_of_ble_eq_true rfl) (fun r3 m4 => ?_)
  exact Ev.iretb rfl rfl (by decide +kernel)
set_option maxRecDepth 100000 in
set_option maxHeartbeats 4000000 in
theorem EX11_cheer {l : Launch} {Ln : Nat} {xs : Nat → Int32} {d : Nat} (f : Nat) (a1 : Int32) (a2 : Int32) (m : ev_M)  (hd : 2 ≤ d) : Mv ev_eI l Ln xs YX11_cheer d Sx [.ref 0, .int a1, .int a2] m (FX11_cheer f a1 a2 m) := by
  refine Mv.of (by decide +kernel) rfl (Nat.le_of_ble_eq_true rfl) (Ev.le (ls' := [some (.ref 0), some (.int a1), some (.int a2)]) ⟨rfl, ⟨rfl, ⟨rfl, trivial⟩⟩⟩ ?_)
  unfold FX11_cheer
  refine Ev.run (pc' := 2) (ls' := [some (.ref 0), some (.int a1), some (.int a2)]) (st' := [.int a1, .ref 0]) (m' := m) [(.aload_n 0, 0, 0, 0, 0), (.iload_n 1, 0, 0, 0, 0)] (by decide +kernel) rfl ?_
  refine Ev.cV (av := [.int a1]) (st := []) (a := 0) (EX11_isTower (l := l) (Ln := Ln) (xs := xs) (d := 0) f a1 m (by decide)) rfl (by decide +kernel) mwX11_isTower iwX11_isTower vwX11_isTower lk_11_182 (by omega) (by decide) rfl (by decide) rfl rfl (Nat.le_of_ble_eq_true rfl) (fun r1 m2 => ?_)
  refine Ev.if_eq (t := 31) (by decide +kernel) ?_ ?_
  · refine Ev.le (ls' := [some (.ref 0), none, none]) ⟨rfl, trivial⟩ ?_
    exact EX11_cheer_J31 f m2 (by omega)
  · refine Ev.run (pc' := 9) (ls' := [some (.ref 0), some (.int a1), some (.int a2)]) (st' := [.int a2]) (m' := m2) [(.iload_n 2, 0, 0, 0, 0)] (by decide +kernel) rfl ?_
    refine Ev.if_lt (t := 31) (by decide +kernel) ?_ ?_
    · refine Ev.le (ls' := [some (.ref 0), none, none]) ⟨rfl, trivial⟩ ?_
      exact EX11_cheer_J31 f m2 (by omega)
    · refine Ev.run (pc' := 15) (ls' := [some (.ref 0), some (.int a1), some (.int a2)]) (st' := [.int 9, .int a2]) (m' := m2) [(.iload_n 2, 0, 0, 0, 0), (.bipush 9, 0, 0, 9, 0)] (by decide +kernel) rfl ?_
      refine Ev.ic_gt (t := 31) (by decide +kernel) ?_ ?_
      · refine Ev.le (ls' := [some (.ref 0), none, none]) ⟨rfl, trivial⟩ ?_
        exact EX11_cheer_J31 f m2 (by omega)
      · refine Ev.run (pc' := 26) (ls' := [some (.ref 0), some (.int a1), some (.int a2)]) (st' := [.int a1, .ref 105]) (m' := m2) [(.aload_n 0, 0, 0, 0, 0), (.getfield 79, 11, 9, 0, 0), (.getfield 191, 8, 1, 0, 0), (.iload_n 1, 0, 0, 0, 0)] (by decide +kernel) rfl ?_
        refine Ev.iald (n := 8) (by decide +kernel) (by decide) rfl ?_
        refine Ev.run (pc' := 28) (ls' := [some (.ref 0), some (.int a1), some (.int a2)]) (st' := [.int a2, .int (m2.1 105 a1.toNatClampNeg)]) (m' := m2) [(.iload_n 2, 0, 0, 0, 0)] (by decide +kernel) rfl ?_
        refine Ev.ic_ne (t := 37) (by decide +kernel) ?_ ?_
        · refine Ev.run (pc' := 45) (ls' := [some (.ref 0), some (.int a1), some (.int a2)]) (st' := [.ref 103, .ref 40]) (m' := m2) [(.aload_n 0, 0, 0, 0, 0), (.getfield 72, 11, 8, 0, 0), (.aload_n 0, 0, 0, 0, 0), (.getfield 79, 11, 9, 0, 0)] (by decide +kernel) rfl ?_
          refine Ev.cV (av := [.ref 103]) (st := []) (a := 40) (EX6_keep (l := l) (Ln := Ln) (xs := xs) (d := 1) f 103 m2 (by decide) (by decide)) rfl (by decide +kernel) mwX6_keep iwX6_keep vwX6_keep lk_11_282 (by omega) (by decide) rfl (by decide) rfl rfl (Nat.le_of_ble_eq_true rfl) (fun r5 m6 => ?_)
          refine Ev.run (pc' := 57) (ls' := [some (.ref 0), some (.int a1), some (.int a2)]) (st' := [.int a2, .int a1, .ref 105]) (m' := m6) [(.aload_n 0, 0, 0, 0, 0), (.getfield 79, 11, 9, 0, 0), (.getfield 191, 8, 1, 0, 0), (.iload_n 1, 0, 0, 0, 0), (.iload_n 2, 0, 0, 0, 0)] (by decide +kernel) rfl ?_
          refine Ev.iast (n := 8) (by decide +kernel) (by decide) rfl ?_
          refine Ev.run (pc' := 59) (ls' := [some (.ref 0), some (.int a1), some (.int a2)]) (st' := [.int 1]) (m' := ((ev_up m6.1 105 a1.toNatClampNeg a2), m6.2)) [(.iconst 1, 0, 0, 1, 0)] (by decide +kernel) rfl ?_
          exact Ev.iretz rfl rfl (by decide +kernel) (by decide)
        · refine Ev.le (ls' := [some (.ref 0), none, none]) ⟨rfl, trivial⟩ ?_
          exact EX11_cheer_J31 f m2 (by omega)
def FX11_yes_J32 (f : Nat)     (m : ev_M) : Option (Int32 × ev_M) :=
  (ev_bd (FX11_refuse f (2 : Int32) m) (fun r3 m4 => (if r3 = 0 ∨ r3 = 1 then some (r3, m4) else none)))
def FX11_yes (f : Nat) (a1 : Int32) (a2 : Int32) (m : ev_M) : Option (Int32 × ev_M) :=
  (ev_bd (FX11_isTower f a1 m) (fun r1 m2 => (if r1 = 0 then (FX11_yes_J32 f m2) else (if a2 < 0 then (FX11_yes_J32 f m2) else (if 1 < a2 then (FX11_yes_J32 f m2) else (if (((m2.1 103 4) >>> (a1 &&& 31)) &&& 1) = a2 then (FX11_yes_J32 f m2) else (ev_bd (FX6_keep f 103 m2) (fun _ m6 => some (1, ((ev_up m6.1 103 4 ((m6.1 103 4) ^^^ (1 <<< (a1 &&& 31)))), m6.2))))))))))
set_option maxRecDepth 100000 in
set_option maxHeartbeats 4000000 in
theorem EX11_yes_J32 {l : Launch} {Ln : Nat} {xs : Nat → Int32} {d : Nat} (f : Nat)     (m : ev_M)   (hd : 2 ≤ d) : Ev ev_eI l Ln xs YX11_yes d Sx 32 [some (.ref 0), none, none] [] m (FX11_yes_J32 f m) := by
  unfold FX11_yes_J32
  refine Ev.run (pc' := 34) (ls' := [some (.ref 0), none, none]) (st' := [.int 2, .ref 0]) (m' := m) [(.aload_n 0, 0, 0, 0, 0), (.iconst 2, 0, 0, 2, 0)] (by decide +kernel) rfl ?_
  refine Ev.cV (av := [.int 2]) (st := []) (a := 0) (EX11_refuse (l := l) (Ln := Ln) (xs := xs) (d := 0) f (2 : Int32) m (by decide)) rfl (by decide +kernel) mwX11_refuse iwX11_refuse vwX11_refuse lk_11_115 (by omega) (by decide) rfl (by decide) rfl rfl (Nat.le_of_ble_eq_true rfl) (fun r3 m4 => ?_)
  exact Ev.iretb rfl rfl (by decide +kernel)
set_option maxRecDepth 100000 in
set_option maxHeartbeats 4000000 in
theorem EX11_yes {l : Launch} {Ln : Nat} {xs : Nat → Int32} {d : Nat} (f : Nat) (a1 : Int32) (a2 : Int32) (m : ev_M)  (hd : 2 ≤ d) : Mv ev_eI l Ln xs YX11_yes d Sx [.ref 0, .int a1, .int a2] m (FX11_yes f a1 a2 m) := by
  refine Mv.of (by decide +kernel) rfl (Nat.le_of_ble_eq_true rfl) (Ev.le (ls' := [some (.ref 0), some (.int a1), some (.int a2)]) ⟨rfl, ⟨rfl, ⟨rfl, trivial⟩⟩⟩ ?_)
  unfold FX11_yes
  refine Ev.run (pc' := 2) (ls' := [some (.ref 0), some (.int a1), some (.int a2)]) (st' := [.int a1, .ref 0]) (m' := m) [(.aload_n 0, 0, 0, 0, 0), (.iload_n 1, 0, 0, 0, 0)] (by decide +kernel) rfl ?_
  refine Ev.cV (av := [.int a1]) (st := []) (a := 0) (EX11_isTower (l := l) (Ln := Ln) (xs := xs) (d := 0) f a1 m (by decide)) rfl (by decide +kernel) mwX11_isTower iwX11_isTower vwX11_isTower lk_11_182 (by omega) (by decide) rfl (by decide) rfl rfl (Nat.le_of_ble_eq_true rfl) (fun r1 m2 => ?_)
  refine Ev.if_eq (t := 32) (by decide +kernel) ?_ ?_
  · refine Ev.le (ls' := [some (.ref 0), none, none]) ⟨rfl, trivial⟩ ?_
    exact EX11_yes_J32 f m2 (by omega)
  · refine Ev.run (pc' := 9) (ls' := [some (.ref 0), some (.int a1), some (.int a2)]) (st' := [.int a2]) (m' := m2) [(.iload_n 2, 0, 0, 0, 0)] (by decide +kernel) rfl ?_
    refine Ev.if_lt (t := 32) (by decide +kernel) ?_ ?_
    · refine Ev.le (ls' := [some (.ref 0), none, none]) ⟨rfl, trivial⟩ ?_
      exact EX11_yes_J32 f m2 (by omega)
    · refine Ev.run (pc' := 14) (ls' := [some (.ref 0), some (.int a1), some (.int a2)]) (st' := [.int 1, .int a2]) (m' := m2) [(.iload_n 2, 0, 0, 0, 0), (.iconst 1, 0, 0, 1, 0)] (by decide +kernel) rfl ?_
      refine Ev.ic_gt (t := 32) (by decide +kernel) ?_ ?_
      · refine Ev.le (ls' := [some (.ref 0), none, none]) ⟨rfl, trivial⟩ ?_
        exact EX11_yes_J32 f m2 (by omega)
      · refine Ev.run (pc' := 29) (ls' := [some (.ref 0), some (.int a1), some (.int a2)]) (st' := [.int a2, .int (((m2.1 103 4) >>> (a1 &&& 31)) &&& 1)]) (m' := m2) [(.aload_n 0, 0, 0, 0, 0), (.getfield 79, 11, 9, 0, 0), (.getfield 160, 8, 4, 0, 0), (.iload_n 1, 0, 0, 0, 0), (.ishr, 0, 0, 0, 0), (.iconst 1, 0, 0, 1, 0), (.iand, 0, 0, 0, 0), (.iload_n 2, 0, 0, 0, 0)] (by decide +kernel) rfl ?_
        refine Ev.ic_ne (t := 38) (by decide +kernel) ?_ ?_
        · refine Ev.run (pc' := 46) (ls' := [some (.ref 0), some (.int a1), some (.int a2)]) (st' := [.ref 103, .ref 40]) (m' := m2) [(.aload_n 0, 0, 0, 0, 0), (.getfield 72, 11, 8, 0, 0), (.aload_n 0, 0, 0, 0, 0), (.getfield 79, 11, 9, 0, 0)] (by decide +kernel) rfl ?_
          refine Ev.cV (av := [.ref 103]) (st := []) (a := 40) (EX6_keep (l := l) (Ln := Ln) (xs := xs) (d := 1) f 103 m2 (by decide) (by decide)) rfl (by decide +kernel) mwX6_keep iwX6_keep vwX6_keep lk_11_282 (by omega) (by decide) rfl (by decide) rfl rfl (Nat.le_of_ble_eq_true rfl) (fun r5 m6 => ?_)
          refine Ev.run (pc' := 65) (ls' := [some (.ref 0), some (.int a1), some (.int a2)]) (st' := [.int 1]) (m' := ((ev_up m6.1 103 4 ((m6.1 103 4) ^^^ (1 <<< (a1 &&& 31)))), m6.2)) [(.aload_n 0, 0, 0, 0, 0), (.getfield 79, 11, 9, 0, 0), (.dup, 0, 0, 0, 0), (.getfield 160, 8, 4, 0, 0), (.iconst 1, 0, 0, 1, 0), (.iload_n 1, 0, 0, 0, 0), (.ishl, 0, 0, 0, 0), (.ixor, 0, 0, 0, 0), (.putfield 160, 8, 4, 0, 0), (.iconst 1, 0, 0, 1, 0)] (by decide +kernel) rfl ?_
          exact Ev.iretz rfl rfl (by decide +kernel) (by decide)
        · refine Ev.le (ls' := [some (.ref 0), none, none]) ⟨rfl, trivial⟩ ?_
          exact EX11_yes_J32 f m2 (by omega)
def FX11_change_J21 (f : Nat)     (m : ev_M) : Option (Int32 × ev_M) :=
  (ev_bd (FX11_refuse f (2 : Int32) m) (fun r3 m4 => (if r3 = 0 ∨ r3 = 1 then some (r3, m4) else none)))
def FX11_change (f : Nat) (a1 : Int32) (a2 : Int32) (m : ev_M) : Option (Int32 × ev_M) :=
  (ev_bd (FX11_isTower f a1 m) (fun r1 m2 => (if r1 = 0 then (FX11_change_J21 f m2) else (ev_bd (FX11_isTower f a2 m2) (fun r5 m6 => (if r5 = 0 then (FX11_change_J21 f m6) else (if a1 = a2 then (FX11_change_J21 f m6) else (ev_bd (FX6_keep f 103 m6) (fun _ m8 => (ev_bd (FX8_swap f 103 a1 a2 m8) (fun _ m10 => some (1, m10))))))))))))
set_option maxRecDepth 100000 in
set_option maxHeartbeats 4000000 in
theorem EX11_change_J21 {l : Launch} {Ln : Nat} {xs : Nat → Int32} {d : Nat} (f : Nat)     (m : ev_M)   (hd : 2 ≤ d) : Ev ev_eI l Ln xs YX11_change d Sx 21 [some (.ref 0), none, none] [] m (FX11_change_J21 f m) := by
  unfold FX11_change_J21
  refine Ev.run (pc' := 23) (ls' := [some (.ref 0), none, none]) (st' := [.int 2, .ref 0]) (m' := m) [(.aload_n 0, 0, 0, 0, 0), (.iconst 2, 0, 0, 2, 0)] (by decide +kernel) rfl ?_
  refine Ev.cV (av := [.int 2]) (st := []) (a := 0) (EX11_refuse (l := l) (Ln := Ln) (xs := xs) (d := 0) f (2 : Int32) m (by decide)) rfl (by decide +kernel) mwX11_refuse iwX11_refuse vwX11_refuse lk_11_115 (by omega) (by decide) rfl (by decide) rfl rfl (Nat.le_of_ble_eq_true rfl) (fun r3 m4 => ?_)
  exact Ev.iretb rfl rfl (by decide +kernel)
set_option maxRecDepth 100000 in
set_option maxHeartbeats 4000000 in
theorem EX11_change {l : Launch} {Ln : Nat} {xs : Nat → Int32} {d : Nat} (f : Nat) (a1 : Int32) (a2 : Int32) (m : ev_M)  (hd : 2 ≤ d) : Mv ev_eI l Ln xs YX11_change d Sx [.ref 0, .int a1, .int a2] m (FX11_change f a1 a2 m) := by
  refine Mv.of (by decide +kernel) rfl (Nat.le_of_ble_eq_true rfl) (Ev.le (ls' := [some (.ref 0), some (.int a1), some (.int a2)]) ⟨rfl, ⟨rfl, ⟨rfl, trivial⟩⟩⟩ ?_)
  unfold FX11_change
  refine Ev.run (pc' := 2) (ls' := [some (.ref 0), some (.int a1), some (.int a2)]) (st' := [.int a1, .ref 0]) (m' := m) [(.aload_n 0, 0, 0, 0, 0), (.iload_n 1, 0, 0, 0, 0)] (by decide +kernel) rfl ?_
  refine Ev.cV (av := [.int a1]) (st := []) (a := 0) (EX11_isTower (l := l) (Ln := Ln) (xs := xs) (d := 0) f a1 m (by decide)) rfl (by decide +kernel) mwX11_isTower iwX11_isTower vwX11_isTower lk_11_182 (by omega) (by decide) rfl (by decide) rfl rfl (Nat.le_of_ble_eq_true rfl) (fun r1 m2 => ?_)
  refine Ev.if_eq (t := 21) (by decide +kernel) ?_ ?_
  · refine Ev.le (ls' := [some (.ref 0), none, none]) ⟨rfl, trivial⟩ ?_
    exact EX11_change_J21 f m2 (by omega)
  · refine Ev.run (pc' := 10) (ls' := [some (.ref 0), some (.int a1), some (.int a2)]) (st' := [.int a2, .ref 0]) (m' := m2) [(.aload_n 0, 0, 0, 0, 0), (.iload_n 2, 0, 0, 0, 0)] (by decide +kernel) rfl ?_
    refine Ev.cV (av := [.int a2]) (st := []) (a := 0) (EX11_isTower (l := l) (Ln := Ln) (xs := xs) (d := 0) f a2 m2 (by decide)) rfl (by decide +kernel) mwX11_isTower iwX11_isTower vwX11_isTower lk_11_182 (by omega) (by decide) rfl (by decide) rfl rfl (Nat.le_of_ble_eq_true rfl) (fun r5 m6 => ?_)
    refine Ev.if_eq (t := 21) (by decide +kernel) ?_ ?_
    · refine Ev.le (ls' := [some (.ref 0), none, none]) ⟨rfl, trivial⟩ ?_
      exact EX11_change_J21 f m6 (by omega)
    · refine Ev.run (pc' := 18) (ls' := [some (.ref 0), some (.int a1), some (.int a2)]) (st' := [.int a2, .int a1]) (m' := m6) [(.iload_n 1, 0, 0, 0, 0), (.iload_n 2, 0, 0, 0, 0)] (by decide +kernel) rfl ?_
      refine Ev.ic_ne (t := 27) (by decide +kernel) ?_ ?_
      · refine Ev.run (pc' := 35) (ls' := [some (.ref 0), some (.int a1), some (.int a2)]) (st' := [.ref 103, .ref 40]) (m' := m6) [(.aload_n 0, 0, 0, 0, 0), (.getfield 72, 11, 8, 0, 0), (.aload_n 0, 0, 0, 0, 0), (.getfield 79, 11, 9, 0, 0)] (by decide +kernel) rfl ?_
        refine Ev.cV (av := [.ref 103]) (st := []) (a := 40) (EX6_keep (l := l) (Ln := Ln) (xs := xs) (d := 1) f 103 m6 (by decide) (by decide)) rfl (by decide +kernel) mwX6_keep iwX6_keep vwX6_keep lk_11_282 (by omega) (by decide) rfl (by decide) rfl rfl (Nat.le_of_ble_eq_true rfl) (fun r7 m8 => ?_)
        refine Ev.run (pc' := 44) (ls' := [some (.ref 0), some (.int a1), some (.int a2)]) (st' := [.int a2, .int a1, .ref 103]) (m' := m8) [(.aload_n 0, 0, 0, 0, 0), (.getfield 79, 11, 9, 0, 0), (.iload_n 1, 0, 0, 0, 0), (.iload_n 2, 0, 0, 0, 0)] (by decide +kernel) rfl ?_
        refine Ev.cV (av := [.int a1, .int a2]) (st := []) (a := 103) (EX8_swap (l := l) (Ln := Ln) (xs := xs) (d := 0) f 103 a1 a2 m8 (by decide) (by decide)) rfl (by decide +kernel) mwX8_swap iwX8_swap vwX8_swap lk_11_285 (by omega) (by decide) rfl (by decide) rfl rfl (Nat.le_of_ble_eq_true rfl) (fun r9 m10 => ?_)
        refine Ev.run (pc' := 48) (ls' := [some (.ref 0), some (.int a1), some (.int a2)]) (st' := [.int 1]) (m' := m10) [(.iconst 1, 0, 0, 1, 0)] (by decide +kernel) rfl ?_
        exact Ev.iretz rfl rfl (by decide +kernel) (by decide)
      · refine Ev.le (ls' := [some (.ref 0), none, none]) ⟨rfl, trivial⟩ ?_
        exact EX11_change_J21 f m6 (by omega)
def FX11_undo (f : Nat)  (m : ev_M) : Option (Int32 × ev_M) :=
  (ev_bd (FX6_bringBack f 103 m) (fun r1 m2 => (if r1 = 0 then (ev_bd (FX11_refuse f (4 : Int32) m2) (fun r3 m4 => (if r3 = 0 then some (0, m4) else some (1, m4)))) else some (1, m2))))
set_option maxRecDepth 100000 in
set_option maxHeartbeats 4000000 in
theorem EX11_undo {l : Launch} {Ln : Nat} {xs : Nat → Int32} {d : Nat} (f : Nat)  (m : ev_M)  (hd : 2 ≤ d) : Mv ev_eI l Ln xs YX11_undo d Sx [.ref 0] m (FX11_undo f  m) := by
  refine Mv.of (by decide +kernel) rfl (Nat.le_of_ble_eq_true rfl) (Ev.le (ls' := [some (.ref 0)]) ⟨rfl, trivial⟩ ?_)
  unfold FX11_undo
  refine Ev.run (pc' := 8) (ls' := [some (.ref 0)]) (st' := [.ref 103, .ref 40]) (m' := m) [(.aload_n 0, 0, 0, 0, 0), (.getfield 72, 11, 8, 0, 0), (.aload_n 0, 0, 0, 0, 0), (.getfield 79, 11, 9, 0, 0)] (by decide +kernel) rfl ?_
  refine Ev.cV (av := [.ref 103]) (st := []) (a := 40) (EX6_bringBack (l := l) (Ln := Ln) (xs := xs) (d := 1) f 103 m (by decide) (by decide)) rfl (by decide +kernel) mwX6_bringBack iwX6_bringBack vwX6_bringBack lk_11_298 (by omega) (by decide) rfl (by decide) rfl rfl (Nat.le_of_ble_eq_true rfl) (fun r1 m2 => ?_)
  refine Ev.if_ne (t := 22) (by decide +kernel) ?_ ?_
  · refine Ev.run (pc' := 23) (ls' := [some (.ref 0)]) (st' := [.int 1]) (m' := m2) [(.iconst 1, 0, 0, 1, 0)] (by decide +kernel) rfl ?_
    refine Ev.gto (t := 27) (by decide +kernel) ?_
    exact Ev.iretz rfl rfl (by decide +kernel) (by decide)
  · refine Ev.run (pc' := 16) (ls' := [some (.ref 0)]) (st' := [.int 4, .ref 0]) (m' := m2) [(.aload_n 0, 0, 0, 0, 0), (.iconst 4, 0, 0, 4, 0)] (by decide +kernel) rfl ?_
    refine Ev.cV (av := [.int 4]) (st := []) (a := 0) (EX11_refuse (l := l) (Ln := Ln) (xs := xs) (d := 0) f (4 : Int32) m2 (by decide)) rfl (by decide +kernel) mwX11_refuse iwX11_refuse vwX11_refuse lk_11_115 (by omega) (by decide) rfl (by decide) rfl rfl (Nat.le_of_ble_eq_true rfl) (fun r3 m4 => ?_)
    refine Ev.if_eq (t := 26) (by decide +kernel) ?_ ?_
    · refine Ev.run (pc' := 27) (ls' := [some (.ref 0)]) (st' := [.int 0]) (m' := m4) [(.iconst 0, 0, 0, 0, 0)] (by decide +kernel) rfl ?_
      exact Ev.iretz rfl rfl (by decide +kernel) (by decide)
    · refine Ev.run (pc' := 23) (ls' := [some (.ref 0)]) (st' := [.int 1]) (m' := m4) [(.iconst 1, 0, 0, 1, 0)] (by decide +kernel) rfl ?_
      refine Ev.gto (t := 27) (by decide +kernel) ?_
      exact Ev.iretz rfl rfl (by decide +kernel) (by decide)
def FX1_readTower_L38 (f : Nat) (k : ev_M → Option (Unit × ev_M)) (o0 : Nat)  : Nat → Int32 → ev_M → Option (Unit × ev_M)
  | 0, _, _ => none
  | n + 1, a2, m => (if 6 ≤ a2 then (k m) else (ev_bd (FX10_nameLetter f a2 m) (fun r5 m6 => (if ev_in (((m.1 o0 5) * 6) + a2) 48 then (FX1_readTower_L38 f k o0 n (a2 + 1) ((ev_up m6.1 (o0 + 1) (((m.1 o0 5) * 6) + a2).toNatClampNeg r5), m6.2)) else none))))
def FX1_readTower (f : Nat) (o0 : Nat) (m : ev_M) : Option (Unit × ev_M) :=
  (ev_bd (FX10_checkName f m) (fun r1 m2 => (if r1 = 0 then some ((), m2) else (if (m2.1 o0 5) < 8 then (ev_bd (FX1_find f o0 m2) (fun r3 m4 => (if r3 = (-1) then (FX1_readTower_L38 f (fun m7 => (ev_bd (FX10_advance f m7) (fun _ m9 => (ev_bd (FX10_takeWord f (2 : Int32) m9) (fun _ m11 => (ev_bd (FX10_takeNumber f (0 : Int32) (9 : Int32) m11) (fun r12 m13 => (if ev_in (m11.1 o0 5) 8 then (ev_bd (FX10_takeWord f (3 : Int32) ((ev_up m13.1 (o0 + 2) (m11.1 o0 5).toNatClampNeg r12), m13.2)) (fun _ m15 => (ev_bd (FX10_takeNumber f (0 : Int32) (9 : Int32) m15) (fun r16 m17 => (if ev_in (m15.1 o0 5) 8 then some ((), ((ev_up (ev_up m17.1 (o0 + 3) (m15.1 o0 5).toNatClampNeg r16) o0 5 (((ev_up m17.1 (o0 + 3) (m15.1 o0 5).toNatClampNeg r16) o0 5) + 1)), m17.2)) else none))))) else none)))))))) o0 f (0 : Int32) m4) else (ev_bd (FX10_fail f (3 : Int32) (m4.1 13 2) m4) (fun _ m19 => some ((), m19)))))) else some ((), m2)))))
set_option maxRecDepth 100000 in
set_option maxHeartbeats 4000000 in
theorem EX1_readTower_L38 {l : Launch} {Ln : Nat} {xs : Nat → Int32} {d : Nat} (f : Nat) (k : ev_M → Option (Unit × ev_M)) (o0 : Nat)  (h_o0 : isK 1 o0)  (hk : ∀  (em : ev_M), Ev ev_eV l Ln xs YX1_readTower d Sx 69 [some (.ref o0), some (.ref 13), none] [] em (k em)) (hd : 7 ≤ d) : ∀ (n : Nat) (a2 : Int32) (m : ev_M), Ev ev_eV l Ln xs YX1_readTower d Sx 38 [some (.ref o0), some (.ref 13), some (.int a2)] [] m (FX1_readTower_L38 f k o0 n a2 m) := by
  intro n
  induction n with
  | zero => intros; exact Ev.nn
  | succ n ih =>
    intro a2 m
    rw [FX1_readTower_L38]
    refine Ev.run (pc' := 41) (ls' := [some (.ref o0), some (.ref 13), some (.int a2)]) (st' := [.int 6, .int a2]) (m' := m) [(.iload_n 2, 0, 0, 0, 0), (.bipush 6, 0, 0, 6, 0)] (by decide +kernel) rfl ?_
    refine Ev.ic_ge (t := 69) (by decide +kernel) ?_ ?_
    · refine Ev.le (ls' := [some (.ref o0), some (.ref 13), none]) ⟨rfl, ⟨rfl, trivial⟩⟩ ?_
      exact hk _
    · refine Ev.run (pc' := 45) (ls' := [some (.ref o0), some (.ref 13), some (.int a2)]) (st' := [.ref o0]) (m' := m) [(.aload_n 0, 0, 0, 0, 0)] (by decide +kernel) rfl ?_
      refine Ev.getS (v := .ref (o0 + 1)) (ci := 1) (k := 0) (idx := 9) (by decide +kernel) (by decide +kernel) (k1_l0 h_o0) (by rw [(k1_s0 h_o0)]) (by rw [(k1_s0 h_o0)]; decide) (by unfold ev_gv; rw [if_neg (by decide)]; show va_rf (Sx.2.2 o0 0) = _; rw [k1_r0 h_o0]; rfl) ?_
      refine Ev.run (pc' := 49) (ls' := [some (.ref o0), some (.ref 13), some (.int a2)]) (st' := [.ref o0, .ref (o0 + 1)]) (m' := m) [(.aload_n 0, 0, 0, 0, 0)] (by decide +kernel) rfl ?_
      refine Ev.getS (v := .int (m.1 o0 5)) (ci := 1) (k := 5) (idx := 32) (by decide +kernel) (by decide +kernel) (k1_l0 h_o0) (by rw [(k1_s0 h_o0)]) (by rw [(k1_s0 h_o0)]; decide) rfl ?_
      refine Ev.run (pc' := 59) (ls' := [some (.ref o0), some (.ref 13), some (.int a2)]) (st' := [.int a2, .ref 13, .int (((m.1 o0 5) * 6) + a2), .ref (o0 + 1)]) (m' := m) [(.bipush 6, 0, 0, 6, 0), (.imul, 0, 0, 0, 0), (.iload_n 2, 0, 0, 0, 0), (.iadd, 0, 0, 0, 0), (.aload_n 1, 0, 0, 0, 0), (.iload_n 2, 0, 0, 0, 0)] (by decide +kernel) rfl ?_
      refine Ev.cV (av := [.int a2]) (st := [.int (((m.1 o0 5) * 6) + a2), .ref (o0 + 1)]) (a := 13) (EX10_nameLetter (l := l) (Ln := Ln) (xs := xs) (d := 0) f a2 m (by decide)) rfl (by decide +kernel) mwX10_nameLetter iwX10_nameLetter vwX10_nameLetter lk_1_146 (by omega) (by decide) rfl (by decide) rfl rfl (Nat.le_of_ble_eq_true rfl) (fun r5 m6 => ?_)
      refine Ev.iast (n := 48) (by decide +kernel) (k1_l1 h_o0) (k1_s1 h_o0) ?_
      refine Ev.run (pc' := 66) (ls' := [some (.ref o0), some (.ref 13), some (.int (a2 + 1))]) (st' := []) (m' := ((ev_up m6.1 (o0 + 1) (((m.1 o0 5) * 6) + a2).toNatClampNeg r5), m6.2)) [(.iinc 2 1, 0, 0, 1, 0)] (by decide +kernel) rfl ?_
      refine Ev.gto (t := 38) (by decide +kernel) ?_
      exact ih _ _
set_option maxRecDepth 100000 in
set_option maxHeartbeats 4000000 in
theorem EX1_readTower {l : Launch} {Ln : Nat} {xs : Nat → Int32} {d : Nat} (f : Nat) (o0 : Nat) (m : ev_M) (h_o0 : isK 1 o0) (hd : 7 ≤ d) : Mv ev_eV l Ln xs YX1_readTower d Sx [.ref o0, .ref 13] m (FX1_readTower f o0 m) := by
  refine Mv.of (by decide +kernel) rfl (Nat.le_of_ble_eq_true rfl) (Ev.le (ls' := [some (.ref o0), some (.ref 13), none]) ⟨rfl, ⟨rfl, trivial⟩⟩ ?_)
  unfold FX1_readTower
  refine Ev.run (pc' := 1) (ls' := [some (.ref o0), some (.ref 13), none]) (st' := [.ref 13]) (m' := m) [(.aload_n 1, 0, 0, 0, 0)] (by decide +kernel) rfl ?_
  refine Ev.cV (av := []) (st := []) (a := 13) (EX10_checkName (l := l) (Ln := Ln) (xs := xs) (d := 1) f m (by decide)) rfl (by decide +kernel) mwX10_checkName iwX10_checkName vwX10_checkName lk_1_139 (by omega) (by decide) rfl (by decide) rfl rfl (Nat.le_of_ble_eq_true rfl) (fun r1 m2 => ?_)
  refine Ev.if_eq (t := 16) (by decide +kernel) ?_ ?_
  · exact Ev.retv rfl rfl (by decide +kernel)
  · refine Ev.run (pc' := 8) (ls' := [some (.ref o0), some (.ref 13), none]) (st' := [.ref o0]) (m' := m2) [(.aload_n 0, 0, 0, 0, 0)] (by decide +kernel) rfl ?_
    refine Ev.getS (v := .int (m2.1 o0 5)) (ci := 1) (k := 5) (idx := 32) (by decide +kernel) (by decide +kernel) (k1_l0 h_o0) (by rw [(k1_s0 h_o0)]) (by rw [(k1_s0 h_o0)]; decide) rfl ?_
    refine Ev.run (pc' := 13) (ls' := [some (.ref o0), some (.ref 13), none]) (st' := [.int 8, .int (m2.1 o0 5)]) (m' := m2) [(.bipush 8, 0, 0, 8, 0)] (by decide +kernel) rfl ?_
    refine Ev.ic_lt (t := 17) (by decide +kernel) ?_ ?_
    · refine Ev.run (pc' := 19) (ls' := [some (.ref o0), some (.ref 13), none]) (st' := [.ref 13, .ref o0]) (m' := m2) [(.aload_n 0, 0, 0, 0, 0), (.aload_n 1, 0, 0, 0, 0)] (by decide +kernel) rfl ?_
      refine Ev.cV (av := [.ref 13]) (st := []) (a := o0) (EX1_find (l := l) (Ln := Ln) (xs := xs) (d := 1) f o0 m2 h_o0 (by decide)) rfl (by decide +kernel) mwX1_find iwX1_find vwX1_find lk_1_142 (by omega) (k1_l0 h_o0) (by rw [(k1_s0 h_o0)]) (by decide) rfl rfl (Nat.le_of_ble_eq_true rfl) (fun r3 m4 => ?_)
      refine Ev.run (pc' := 23) (ls' := [some (.ref o0), some (.ref 13), none]) (st' := [.int (-1), .int r3]) (m' := m4) [(.iconst (-1), 0, 0, (-1), 0)] (by decide +kernel) rfl ?_
      refine Ev.ic_eq (t := 36) (by decide +kernel) ?_ ?_
      · refine Ev.run (pc' := 38) (ls' := [some (.ref o0), some (.ref 13), some (.int 0)]) (st' := []) (m' := m4) [(.iconst 0, 0, 0, 0, 0), (.istore_n 2, 0, 0, 0, 0)] (by decide +kernel) rfl ?_
        refine EX1_readTower_L38 f _ o0 h_o0 ?_ (by omega) _ _ _
        intro m7
        refine Ev.run (pc' := 70) (ls' := [some (.ref o0), some (.ref 13), none]) (st' := [.ref 13]) (m' := m7) [(.aload_n 1, 0, 0, 0, 0)] (by decide +kernel) rfl ?_
        refine Ev.cV (av := []) (st := []) (a := 13) (EX10_advance (l := l) (Ln := Ln) (xs := xs) (d := 5) f m7 (by decide)) rfl (by decide +kernel) mwX10_advance iwX10_advance vwX10_advance lk_1_122 (by omega) (by decide) rfl (by decide) rfl rfl (Nat.le_of_ble_eq_true rfl) (fun r8 m9 => ?_)
        refine Ev.run (pc' := 75) (ls' := [some (.ref o0), some (.ref 13), none]) (st' := [.int 2, .ref 13]) (m' := m9) [(.aload_n 1, 0, 0, 0, 0), (.iconst 2, 0, 0, 2, 0)] (by decide +kernel) rfl ?_
        refine Ev.cV (av := [.int 2]) (st := []) (a := 13) (EX10_takeWord (l := l) (Ln := Ln) (xs := xs) (d := 6) f (2 : Int32) m9 (by decide)) rfl (by decide +kernel) mwX10_takeWord iwX10_takeWord vwX10_takeWord lk_1_70 (by omega) (by decide) rfl (by decide) rfl rfl (Nat.le_of_ble_eq_true rfl) (fun r10 m11 => ?_)
        refine Ev.run (pc' := 79) (ls' := [some (.ref o0), some (.ref 13), none]) (st' := [.ref o0]) (m' := m11) [(.aload_n 0, 0, 0, 0, 0)] (by decide +kernel) rfl ?_
        refine Ev.getS (v := .ref (o0 + 2)) (ci := 1) (k := 1) (idx := 15) (by decide +kernel) (by decide +kernel) (k1_l0 h_o0) (by rw [(k1_s0 h_o0)]) (by rw [(k1_s0 h_o0)]; decide) (by unfold ev_gv; rw [if_neg (by decide)]; show va_rf (Sx.2.2 o0 1) = _; rw [k1_r1 h_o0]; rfl) ?_
        refine Ev.run (pc' := 83) (ls' := [some (.ref o0), some (.ref 13), none]) (st' := [.ref o0, .ref (o0 + 2)]) (m' := m11) [(.aload_n 0, 0, 0, 0, 0)] (by decide +kernel) rfl ?_
        refine Ev.getS (v := .int (m11.1 o0 5)) (ci := 1) (k := 5) (idx := 32) (by decide +kernel) (by decide +kernel) (k1_l0 h_o0) (by rw [(k1_s0 h_o0)]) (by rw [(k1_s0 h_o0)]; decide) rfl ?_
        refine Ev.run (pc' := 90) (ls' := [some (.ref o0), some (.ref 13), none]) (st' := [.int 9, .int 0, .ref 13, .int (m11.1 o0 5), .ref (o0 + 2)]) (m' := m11) [(.aload_n 1, 0, 0, 0, 0), (.iconst 0, 0, 0, 0, 0), (.bipush 9, 0, 0, 9, 0)] (by decide +kernel) rfl ?_
        refine Ev.cV (av := [.int 0, .int 9]) (st := [.int (m11.1 o0 5), .ref (o0 + 2)]) (a := 13) (EX10_takeNumber (l := l) (Ln := Ln) (xs := xs) (d := 6) f (0 : Int32) (9 : Int32) m11 (by decide)) rfl (by decide +kernel) mwX10_takeNumber iwX10_takeNumber vwX10_takeNumber lk_1_74 (by omega) (by decide) rfl (by decide) rfl rfl (Nat.le_of_ble_eq_true rfl) (fun r12 m13 => ?_)
        refine Ev.iast (n := 8) (by decide +kernel) (k1_l2 h_o0) (k1_s2 h_o0) ?_
        refine Ev.run (pc' := 96) (ls' := [some (.ref o0), some (.ref 13), none]) (st' := [.int 3, .ref 13]) (m' := ((ev_up m13.1 (o0 + 2) (m11.1 o0 5).toNatClampNeg r12), m13.2)) [(.aload_n 1, 0, 0, 0, 0), (.iconst 3, 0, 0, 3, 0)] (by decide +kernel) rfl ?_
        refine Ev.cV (av := [.int 3]) (st := []) (a := 13) (EX10_takeWord (l := l) (Ln := Ln) (xs := xs) (d := 6) f (3 : Int32) ((ev_up m13.1 (o0 + 2) (m11.1 o0 5).toNatClampNeg r12), m13.2) (by decide)) rfl (by decide +kernel) mwX10_takeWord iwX10_takeWord vwX10_takeWord lk_1_70 (by omega) (by decide) rfl (by decide) rfl rfl (Nat.le_of_ble_eq_true rfl) (fun r14 m15 => ?_)
        refine Ev.run (pc' := 100) (ls' := [some (.ref o0), some (.ref 13), none]) (st' := [.ref o0]) (m' := m15) [(.aload_n 0, 0, 0, 0, 0)] (by decide +kernel) rfl ?_
        refine Ev.getS (v := .ref (o0 + 3)) (ci := 1) (k := 2) (idx := 18) (by decide +kernel) (by decide +kernel) (k1_l0 h_o0) (by rw [(k1_s0 h_o0)]) (by rw [(k1_s0 h_o0)]; decide) (by unfold ev_gv; rw [if_neg (by decide)]; show va_rf (Sx.2.2 o0 2) = _; rw [k1_r2 h_o0]; rfl) ?_
        refine Ev.run (pc' := 104) (ls' := [some (.ref o0), some (.ref 13), none]) (st' := [.ref o0, .ref (o0 + 3)]) (m' := m15) [(.aload_n 0, 0, 0, 0, 0)] (by decide +kernel) rfl ?_
        refine Ev.getS (v := .int (m15.1 o0 5)) (ci := 1) (k := 5) (idx := 32) (by decide +kernel) (by decide +kernel) (k1_l0 h_o0) (by rw [(k1_s0 h_o0)]) (by rw [(k1_s0 h_o0)]; decide) rfl ?_
        refine Ev.run (pc' := 111) (ls' := [some (.ref o0), some (.ref 13), none]) (st' := [.int 9, .int 0, .ref 13, .int (m15.1 o0 5), .ref (o0 + 3)]) (m' := m15) [(.aload_n 1, 0, 0, 0, 0), (.iconst 0, 0, 0, 0, 0), (.bipush 9, 0, 0, 9, 0)] (by decide +kernel) rfl ?_
        refine Ev.cV (av := [.int 0, .int 9]) (st := [.int (m15.1 o0 5), .ref (o0 + 3)]) (a := 13) (EX10_takeNumber (l := l) (Ln := Ln) (xs := xs) (d := 6) f (0 : Int32) (9 : Int32) m15 (by decide)) rfl (by decide +kernel) mwX10_takeNumber iwX10_takeNumber vwX10_takeNumber lk_1_74 (by omega) (by decide) rfl (by decide) rfl rfl (Nat.le_of_ble_eq_true rfl) (fun r16 m17 => ?_)
        refine Ev.iast (n := 8) (by decide +kernel) (k1_l3 h_o0) (k1_s3 h_o0) ?_
        refine Ev.run (pc' := 117) (ls' := [some (.ref o0), some (.ref 13), none]) (st' := [.ref o0, .ref o0]) (m' := ((ev_up m17.1 (o0 + 3) (m15.1 o0 5).toNatClampNeg r16), m17.2)) [(.aload_n 0, 0, 0, 0, 0), (.dup, 0, 0, 0, 0)] (by decide +kernel) rfl ?_
        refine Ev.getS (v := .int ((ev_up m17.1 (o0 + 3) (m15.1 o0 5).toNatClampNeg r16) o0 5)) (ci := 1) (k := 5) (idx := 32) (by decide +kernel) (by decide +kernel) (k1_l0 h_o0) (by rw [(k1_s0 h_o0)]) (by rw [(k1_s0 h_o0)]; decide) rfl ?_
        refine Ev.run (pc' := 122) (ls' := [some (.ref o0), some (.ref 13), none]) (st' := [.int (((ev_up m17.1 (o0 + 3) (m15.1 o0 5).toNatClampNeg r16) o0 5) + 1), .ref o0]) (m' := ((ev_up m17.1 (o0 + 3) (m15.1 o0 5).toNatClampNeg r16), m17.2)) [(.iconst 1, 0, 0, 1, 0), (.iadd, 0, 0, 0, 0)] (by decide +kernel) rfl ?_
        refine Ev.putI (ci := 1) (k := 5) (idx := 32) (by decide +kernel) (by decide +kernel) (by decide +kernel) (k1_l0 h_o0) (by rw [(k1_s0 h_o0)]) (by rw [(k1_s0 h_o0)]; decide) rfl rfl ?_
        exact Ev.retv rfl rfl (by decide +kernel)
      · refine Ev.run (pc' := 32) (ls' := [some (.ref o0), some (.ref 13), none]) (st' := [.int (m4.1 13 2), .int 3, .ref 13]) (m' := m4) [(.aload_n 1, 0, 0, 0, 0), (.iconst 3, 0, 0, 3, 0), (.aload_n 1, 0, 0, 0, 0), (.getfield 92, 10, 2, 0, 0)] (by decide +kernel) rfl ?_
        refine Ev.cV (av := [.int 3, .int (m4.1 13 2)]) (st := []) (a := 13) (EX10_fail (l := l) (Ln := Ln) (xs := xs) (d := 0) f (3 : Int32) (m4.1 13 2) m4 (by decide)) rfl (by decide +kernel) mwX10_fail iwX10_fail vwX10_fail lk_1_95 (by omega) (by decide) rfl (by decide) rfl rfl (Nat.le_of_ble_eq_true rfl) (fun r18 m19 => ?_)
        exact Ev.retv rfl rfl (by decide +kernel)
    · exact Ev.retv rfl rfl (by decide +kernel)
def FX1_readYes_J31 (f : Nat)     (m : ev_M) : Option (Unit × ev_M) :=
  (ev_bd (FX10_fail f (3 : Int32) (m.1 13 2) m) (fun _ m6 => some ((), m6)))
def FX1_readYes (f : Nat) (o0 : Nat) (m : ev_M) : Option (Unit × ev_M) :=
  (ev_bd (FX10_checkName f m) (fun r1 m2 => (if r1 = 0 then some ((), m2) else (ev_bd (FX1_find f o0 m2) (fun r3 m4 => (if r3 = (-1) then (FX1_readYes_J31 f m4) else (if (((m4.1 o0 6) >>> (r3 &&& 31)) &&& 1) = 1 then (FX1_readYes_J31 f m4) else (ev_bd (FX10_advance f ((ev_up m4.1 o0 6 ((m4.1 o0 6) ||| (1 <<< (r3 &&& 31)))), m4.2)) (fun _ m8 => some ((), m8))))))))))
set_option maxRecDepth 100000 in
set_option maxHeartbeats 4000000 in
theorem EX1_readYes_J31 {l : Launch} {Ln : Nat} {xs : Nat → Int32} {d : Nat} (f : Nat)     (m : ev_M)   (hd : 6 ≤ d) : Ev ev_eV l Ln xs YX1_readYes d Sx 31 [none, some (.ref 13), none] [] m (FX1_readYes_J31 f m) := by
  unfold FX1_readYes_J31
  refine Ev.run (pc' := 37) (ls' := [none, some (.ref 13), none]) (st' := [.int (m.1 13 2), .int 3, .ref 13]) (m' := m) [(.aload_n 1, 0, 0, 0, 0), (.iconst 3, 0, 0, 3, 0), (.aload_n 1, 0, 0, 0, 0), (.getfield 92, 10, 2, 0, 0)] (by decide +kernel) rfl ?_
  refine Ev.cV (av := [.int 3, .int (m.1 13 2)]) (st := []) (a := 13) (EX10_fail (l := l) (Ln := Ln) (xs := xs) (d := 0) f (3 : Int32) (m.1 13 2) m (by decide)) rfl (by decide +kernel) mwX10_fail iwX10_fail vwX10_fail lk_1_95 (by omega) (by decide) rfl (by decide) rfl rfl (Nat.le_of_ble_eq_true rfl) (fun r5 m6 => ?_)
  exact Ev.retv rfl rfl (by decide +kernel)
set_option maxRecDepth 100000 in
set_option maxHeartbeats 4000000 in
theorem EX1_readYes {l : Launch} {Ln : Nat} {xs : Nat → Int32} {d : Nat} (f : Nat) (o0 : Nat) (m : ev_M) (h_o0 : isK 1 o0) (hd : 6 ≤ d) : Mv ev_eV l Ln xs YX1_readYes d Sx [.ref o0, .ref 13] m (FX1_readYes f o0 m) := by
  refine Mv.of (by decide +kernel) rfl (Nat.le_of_ble_eq_true rfl) (Ev.le (ls' := [some (.ref o0), some (.ref 13), none]) ⟨rfl, ⟨rfl, trivial⟩⟩ ?_)
  unfold FX1_readYes
  refine Ev.run (pc' := 1) (ls' := [some (.ref o0), some (.ref 13), none]) (st' := [.ref 13]) (m' := m) [(.aload_n 1, 0, 0, 0, 0)] (by decide +kernel) rfl ?_
  refine Ev.cV (av := []) (st := []) (a := 13) (EX10_checkName (l := l) (Ln := Ln) (xs := xs) (d := 1) f m (by decide)) rfl (by decide +kernel) mwX10_checkName iwX10_checkName vwX10_checkName lk_1_139 (by omega) (by decide) rfl (by decide) rfl rfl (Nat.le_of_ble_eq_true rfl) (fun r1 m2 => ?_)
  refine Ev.if_ne (t := 8) (by decide +kernel) ?_ ?_
  · refine Ev.run (pc' := 10) (ls' := [some (.ref o0), some (.ref 13), none]) (st' := [.ref 13, .ref o0]) (m' := m2) [(.aload_n 0, 0, 0, 0, 0), (.aload_n 1, 0, 0, 0, 0)] (by decide +kernel) rfl ?_
    refine Ev.cV (av := [.ref 13]) (st := []) (a := o0) (EX1_find (l := l) (Ln := Ln) (xs := xs) (d := 1) f o0 m2 h_o0 (by decide)) rfl (by decide +kernel) mwX1_find iwX1_find vwX1_find lk_1_142 (by omega) (k1_l0 h_o0) (by rw [(k1_s0 h_o0)]) (by decide) rfl rfl (Nat.le_of_ble_eq_true rfl) (fun r3 m4 => ?_)
    refine Ev.run (pc' := 16) (ls' := [some (.ref o0), some (.ref 13), some (.int r3)]) (st' := [.int (-1), .int r3]) (m' := m4) [(.istore_n 2, 0, 0, 0, 0), (.iload_n 2, 0, 0, 0, 0), (.iconst (-1), 0, 0, (-1), 0)] (by decide +kernel) rfl ?_
    refine Ev.ic_eq (t := 31) (by decide +kernel) ?_ ?_
    · refine Ev.le (ls' := [none, some (.ref 13), none]) ⟨rfl, trivial⟩ ?_
      exact EX1_readYes_J31 f m4 (by omega)
    · refine Ev.run (pc' := 20) (ls' := [some (.ref o0), some (.ref 13), some (.int r3)]) (st' := [.ref o0]) (m' := m4) [(.aload_n 0, 0, 0, 0, 0)] (by decide +kernel) rfl ?_
      refine Ev.getS (v := .int (m4.1 o0 6)) (ci := 1) (k := 6) (idx := 35) (by decide +kernel) (by decide +kernel) (k1_l0 h_o0) (by rw [(k1_s0 h_o0)]) (by rw [(k1_s0 h_o0)]; decide) rfl ?_
      refine Ev.run (pc' := 28) (ls' := [some (.ref o0), some (.ref 13), some (.int r3)]) (st' := [.int 1, .int (((m4.1 o0 6) >>> (r3 &&& 31)) &&& 1)]) (m' := m4) [(.iload_n 2, 0, 0, 0, 0), (.ishr, 0, 0, 0, 0), (.iconst 1, 0, 0, 1, 0), (.iand, 0, 0, 0, 0), (.iconst 1, 0, 0, 1, 0)] (by decide +kernel) rfl ?_
      refine Ev.ic_ne (t := 41) (by decide +kernel) ?_ ?_
      · refine Ev.run (pc' := 43) (ls' := [some (.ref o0), some (.ref 13), some (.int r3)]) (st' := [.ref o0, .ref o0]) (m' := m4) [(.aload_n 0, 0, 0, 0, 0), (.dup, 0, 0, 0, 0)] (by decide +kernel) rfl ?_
        refine Ev.getS (v := .int (m4.1 o0 6)) (ci := 1) (k := 6) (idx := 35) (by decide +kernel) (by decide +kernel) (k1_l0 h_o0) (by rw [(k1_s0 h_o0)]) (by rw [(k1_s0 h_o0)]; decide) rfl ?_
        refine Ev.run (pc' := 50) (ls' := [some (.ref o0), some (.ref 13), some (.int r3)]) (st' := [.int ((m4.1 o0 6) ||| (1 <<< (r3 &&& 31))), .ref o0]) (m' := m4) [(.iconst 1, 0, 0, 1, 0), (.iload_n 2, 0, 0, 0, 0), (.ishl, 0, 0, 0, 0), (.ior, 0, 0, 0, 0)] (by decide +kernel) rfl ?_
        refine Ev.putI (ci := 1) (k := 6) (idx := 35) (by decide +kernel) (by decide +kernel) (by decide +kernel) (k1_l0 h_o0) (by rw [(k1_s0 h_o0)]) (by rw [(k1_s0 h_o0)]; decide) rfl rfl ?_
        refine Ev.run (pc' := 54) (ls' := [some (.ref o0), some (.ref 13), some (.int r3)]) (st' := [.ref 13]) (m' := ((ev_up m4.1 o0 6 ((m4.1 o0 6) ||| (1 <<< (r3 &&& 31)))), m4.2)) [(.aload_n 1, 0, 0, 0, 0)] (by decide +kernel) rfl ?_
        refine Ev.cV (av := []) (st := []) (a := 13) (EX10_advance (l := l) (Ln := Ln) (xs := xs) (d := 5) f ((ev_up m4.1 o0 6 ((m4.1 o0 6) ||| (1 <<< (r3 &&& 31)))), m4.2) (by decide)) rfl (by decide +kernel) mwX10_advance iwX10_advance vwX10_advance lk_1_122 (by omega) (by decide) rfl (by decide) rfl rfl (Nat.le_of_ble_eq_true rfl) (fun r7 m8 => ?_)
        exact Ev.retv rfl rfl (by decide +kernel)
      · refine Ev.le (ls' := [none, some (.ref 13), none]) ⟨rfl, trivial⟩ ?_
        exact EX1_readYes_J31 f m4 (by omega)
  · exact Ev.retv rfl rfl (by decide +kernel)
def FX5_work_J177 (f : Nat) (kt10 : Int32 → Int32 → ev_M → Option (Int32 × ev_M))  (a4 : Int32) (a5 : Int32)  (m : ev_M) : Option (Int32 × ev_M) :=
  (kt10 a4 (a5 + 1) m)
def FX5_work_J47 (f : Nat) (kt10 : Int32 → Int32 → ev_M → Option (Int32 × ev_M))  (a4 : Int32) (a5 : Int32) (a6 : Int32)  (m : ev_M) : Option (Int32 × ev_M) :=
  (if 64 ≤ a4 then (FX5_work_J177 f kt10 a4 a5 m) else (ev_bd (FX5_valueOf f a6 m) (fun r3 m4 => (if ev_in a4 64 then (FX5_work_J177 f kt10 (a4 + 1) a5 ((ev_up m4.1 20 a4.toNatClampNeg r3), m4.2)) else none))))
def FX5_work_J134 (f : Nat) (kt10 : Int32 → Int32 → ev_M → Option (Int32 × ev_M))  (a4 : Int32) (a5 : Int32) (s1 : Int32) (s2 : Int32) (m : ev_M) : Option (Int32 × ev_M) :=
  (if ev_in s1 64 then (FX5_work_J177 f kt10 a4 a5 ((ev_up m.1 20 s1.toNatClampNeg s2), m.2)) else none)
def FX5_work_J87 (f : Nat) (kt10 : Int32 → Int32 → ev_M → Option (Int32 × ev_M))  (a4 : Int32) (a5 : Int32) (a6 : Int32)  (m : ev_M) : Option (Int32 × ev_M) :=
  (if a4 ≤ 0 then (FX5_work_J177 f kt10 a4 a5 m) else (if a6 = (-12) then (if ev_in (a4 - 1) 64 then (FX5_work_J134 f kt10 a4 a5 (a4 - 1) (1 - (m.1 20 (a4 - 1).toNatClampNeg)) m) else none) else (if ev_in (a4 - 1) 64 then (ev_bd (FX5_saidAhead f (m.1 20 (a4 - 1).toNatClampNeg) m) (fun r5 m6 => (FX5_work_J134 f kt10 a4 a5 (a4 - 1) r5 m6))) else none)))
def FX5_work_L10 (f : Nat) (k : ev_M → Option (Int32 × ev_M)) (o1 : Nat) (a3 : Int32) : Nat → Int32 → Int32 → ev_M → Option (Int32 × ev_M)
  | 0, _, _, _ => none
  | n + 1, a4, a5, m => (if a3 ≤ a5 then (k m) else (if (Int32.ofNat 1608) ≤ a5 then (k m) else (if ev_in a5 1608 then (if 0 ≤ (m.1 (o1 + 1) a5.toNatClampNeg) then (FX5_work_J47 f (FX5_work_L10 f k o1 a3 n) a4 a5 (m.1 (o1 + 1) a5.toNatClampNeg) m) else (if (-20) < (m.1 (o1 + 1) a5.toNatClampNeg) then (if (m.1 (o1 + 1) a5.toNatClampNeg) = (-12) then (FX5_work_J87 f (FX5_work_L10 f k o1 a3 n) a4 a5 (m.1 (o1 + 1) a5.toNatClampNeg) m) else (if (m.1 (o1 + 1) a5.toNatClampNeg) = (-13) then (FX5_work_J87 f (FX5_work_L10 f k o1 a3 n) a4 a5 (m.1 (o1 + 1) a5.toNatClampNeg) m) else (if a4 ≤ 1 then (FX5_work_J177 f (FX5_work_L10 f k o1 a3 n) a4 a5 m) else (if ev_in ((a4 + (-1)) - 1) 64 then (if ev_in (a4 + (-1)) 64 then (ev_bd (FX5_join f (m.1 (o1 + 1) a5.toNatClampNeg) (m.1 20 ((a4 + (-1)) - 1).toNatClampNeg) (m.1 20 (a4 + (-1)).toNatClampNeg) m) (fun r7 m8 => (if ev_in ((a4 + (-1)) - 1) 64 then (FX5_work_J177 f (FX5_work_L10 f k o1 a3 n) (a4 + (-1)) a5 ((ev_up m8.1 20 ((a4 + (-1)) - 1).toNatClampNeg r7), m8.2)) else none))) else none) else none)))) else (FX5_work_J47 f (FX5_work_L10 f k o1 a3 n) a4 a5 (m.1 (o1 + 1) a5.toNatClampNeg) m))) else none)))
def FX5_work (f : Nat) (o1 : Nat) (a2 : Int32) (a3 : Int32) (m : ev_M) : Option (Int32 × ev_M) :=
  (ev_bd (FJ9_max_7cf53 f (0 : Int32) a2 m) (fun r1 m2 => (FX5_work_L10 f (fun m9 => some ((m9.1 20 0), m9)) o1 a3 f (0 : Int32) r1 m2)))
set_option maxRecDepth 100000 in
set_option maxHeartbeats 4000000 in
theorem EX5_work_J177 {l : Launch} {Ln : Nat} {xs : Nat → Int32} {d : Nat} (f : Nat) (kt10 : Int32 → Int32 → ev_M → Option (Int32 × ev_M)) (o1 : Nat) (a3 : Int32) (a4 : Int32) (a5 : Int32)  (m : ev_M) (h_o1 : isK 2 o1) (hkt10 : ∀ (e4 : Int32) (e5 : Int32) (em : ev_M), Ev ev_eI l Ln xs YX5_work d Sx 10 [some (.ref 17), some (.ref o1), none, some (.int a3), some (.int e4), some (.int e5), none] [] em (kt10 e4 e5 em)) (hd : 2 ≤ d) : Ev ev_eI l Ln xs YX5_work d Sx 177 [some (.ref 17), some (.ref o1), none, some (.int a3), some (.int a4), some (.int a5), none] [] m (FX5_work_J177 f kt10 a4 a5 m) := by
  unfold FX5_work_J177
  refine Ev.run (pc' := 180) (ls' := [some (.ref 17), some (.ref o1), none, some (.int a3), some (.int a4), some (.int (a5 + 1)), none]) (st' := []) (m' := m) [(.iinc 5 1, 0, 0, 1, 0)] (by decide +kernel) rfl ?_
  refine Ev.gto (t := 10) (by decide +kernel) ?_
  exact hkt10 _ _ _
set_option maxRecDepth 100000 in
set_option maxHeartbeats 4000000 in
theorem EX5_work_J47 {l : Launch} {Ln : Nat} {xs : Nat → Int32} {d : Nat} (f : Nat) (kt10 : Int32 → Int32 → ev_M → Option (Int32 × ev_M)) (o1 : Nat) (a3 : Int32) (a4 : Int32) (a5 : Int32) (a6 : Int32)  (m : ev_M) (h_o1 : isK 2 o1) (hkt10 : ∀ (e4 : Int32) (e5 : Int32) (em : ev_M), Ev ev_eI l Ln xs YX5_work d Sx 10 [some (.ref 17), some (.ref o1), none, some (.int a3), some (.int e4), some (.int e5), none] [] em (kt10 e4 e5 em)) (hd : 2 ≤ d) : Ev ev_eI l Ln xs YX5_work d Sx 47 [some (.ref 17), some (.ref o1), none, some (.int a3), some (.int a4), some (.int a5), some (.int a6)] [] m (FX5_work_J47 f kt10 a4 a5 a6 m) := by
  unfold FX5_work_J47
  refine Ev.run (pc' := 51) (ls' := [some (.ref 17), some (.ref o1), none, some (.int a3), some (.int a4), some (.int a5), some (.int a6)]) (st' := [.int 64, .int a4]) (m' := m) [(.iload 4, 0, 0, 0, 0), (.bipush 64, 0, 0, 64, 0)] (by decide +kernel) rfl ?_
  refine Ev.ic_ge (t := 177) (by decide +kernel) ?_ ?_
  · refine Ev.le (ls' := [some (.ref 17), some (.ref o1), none, some (.int a3), some (.int a4), some (.int a5), none]) ⟨rfl, ⟨rfl, ⟨rfl, ⟨rfl, ⟨rfl, trivial⟩⟩⟩⟩⟩ ?_
    exact EX5_work_J177 f kt10 o1 a3 a4 a5 m h_o1 hkt10 (by omega)
  · refine Ev.run (pc' := 63) (ls' := [some (.ref 17), some (.ref o1), none, some (.int a3), some (.int a4), some (.int a5), some (.int a6)]) (st' := [.int a6, .ref 17, .int a4, .ref 20]) (m' := m) [(.aload_n 0, 0, 0, 0, 0), (.getfield 22, 5, 3, 0, 0), (.iload 4, 0, 0, 0, 0), (.aload_n 0, 0, 0, 0, 0), (.iload 6, 0, 0, 0, 0)] (by decide +kernel) rfl ?_
    refine Ev.cV (av := [.int a6]) (st := [.int a4, .ref 20]) (a := 17) (EX5_valueOf (l := l) (Ln := Ln) (xs := xs) (d := 0) f a6 m (by decide)) rfl (by decide +kernel) mwX5_valueOf iwX5_valueOf vwX5_valueOf lk_5_36 (by omega) (by decide) rfl (by decide) rfl rfl (Nat.le_of_ble_eq_true rfl) (fun r3 m4 => ?_)
    refine Ev.iast (n := 64) (by decide +kernel) (by decide) rfl ?_
    refine Ev.run (pc' := 70) (ls' := [some (.ref 17), some (.ref o1), none, some (.int a3), some (.int (a4 + 1)), some (.int a5), some (.int a6)]) (st' := []) (m' := ((ev_up m4.1 20 a4.toNatClampNeg r3), m4.2)) [(.iinc 4 1, 0, 0, 1, 0)] (by decide +kernel) rfl ?_
    refine Ev.gto (t := 177) (by decide +kernel) ?_
    refine Ev.le (ls' := [some (.ref 17), some (.ref o1), none, some (.int a3), some (.int (a4 + 1)), some (.int a5), none]) ⟨rfl, ⟨rfl, ⟨rfl, ⟨rfl, ⟨rfl, trivial⟩⟩⟩⟩⟩ ?_
    exact EX5_work_J177 f kt10 o1 a3 (a4 + 1) a5 ((ev_up m4.1 20 a4.toNatClampNeg r3), m4.2) h_o1 hkt10 (by omega)
set_option maxRecDepth 100000 in
set_option maxHeartbeats 4000000 in
theorem EX5_work_J134 {l : Launch} {Ln : Nat} {xs : Nat → Int32} {d : Nat} (f : Nat) (kt10 : Int32 → Int32 → ev_M → Option (Int32 × ev_M)) (o1 : Nat) (a3 : Int32) (a4 : Int32) (a5 : Int32) (s1 : Int32) (s2 : Int32) (m : ev_M) (h_o1 : isK 2 o1) (hkt10 : ∀ (e4 : Int32) (e5 : Int32) (em : ev_M), Ev ev_eI l Ln xs YX5_work d Sx 10 [some (.ref 17), some (.ref o1), none, some (.int a3), some (.int e4), some (.int e5), none] [] em (kt10 e4 e5 em)) (hd : 2 ≤ d) : Ev ev_eI l Ln xs YX5_work d Sx 134 [some (.ref 17), some (.ref o1), none, some (.int a3), some (.int a4), some (.int a5), none] [.int s2, .int s1, .ref 20] m (FX5_work_J134 f kt10 a4 a5 s1 s2 m) := by
  unfold FX5_work_J134
  refine Ev.iast (n := 64) (by decide +kernel) (by decide) rfl ?_
  refine Ev.gto (t := 177) (by decide +kernel) ?_
  exact EX5_work_J177 f kt10 o1 a3 a4 a5 ((ev_up m.1 20 s1.toNatClampNeg s2), m.2) h_o1 hkt10 (by omega)
set_option maxRecDepth 100000 in
set_option maxHeartbeats 4000000 in
theorem EX5_work_J87 {l : Launch} {Ln : Nat} {xs : Nat → Int32} {d : Nat} (f : Nat) (kt10 : Int32 → Int32 → ev_M → Option (Int32 × ev_M)) (o1 : Nat) (a3 : Int32) (a4 : Int32) (a5 : Int32) (a6 : Int32)  (m : ev_M) (h_o1 : isK 2 o1) (hkt10 : ∀ (e4 : Int32) (e5 : Int32) (em : ev_M), Ev ev_eI l Ln xs YX5_work d Sx 10 [some (.ref 17), some (.ref o1), none, some (.int a3), some (.int e4), some (.int e5), none] [] em (kt10 e4 e5 em)) (hd : 2 ≤ d) : Ev ev_eI l Ln xs YX5_work d Sx 87 [some (.ref 17), some (.ref o1), none, some (.int a3), some (.int a4), some (.int a5), some (.int a6)] [] m (FX5_work_J87 f kt10 a4 a5 a6 m) := by
  unfold FX5_work_J87
  refine Ev.run (pc' := 89) (ls' := [some (.ref 17), some (.ref o1), none, some (.int a3), some (.int a4), some (.int a5), some (.int a6)]) (st' := [.int a4]) (m' := m) [(.iload 4, 0, 0, 0, 0)] (by decide +kernel) rfl ?_
  refine Ev.if_le (t := 177) (by decide +kernel) ?_ ?_
  · refine Ev.le (ls' := [some (.ref 17), some (.ref o1), none, some (.int a3), some (.int a4), some (.int a5), none]) ⟨rfl, ⟨rfl, ⟨rfl, ⟨rfl, ⟨rfl, trivial⟩⟩⟩⟩⟩ ?_
    exact EX5_work_J177 f kt10 o1 a3 a4 a5 m h_o1 hkt10 (by omega)
  · refine Ev.run (pc' := 104) (ls' := [some (.ref 17), some (.ref o1), none, some (.int a3), some (.int a4), some (.int a5), some (.int a6)]) (st' := [.int (-12), .int a6, .int (a4 - 1), .ref 20]) (m' := m) [(.aload_n 0, 0, 0, 0, 0), (.getfield 22, 5, 3, 0, 0), (.iload 4, 0, 0, 0, 0), (.iconst 1, 0, 0, 1, 0), (.isub, 0, 0, 0, 0), (.iload 6, 0, 0, 0, 0), (.bipush (-12), 0, 0, (-12), 0)] (by decide +kernel) rfl ?_
    refine Ev.ic_ne (t := 121) (by decide +kernel) ?_ ?_
    · refine Ev.run (pc' := 130) (ls' := [some (.ref 17), some (.ref o1), none, some (.int a3), some (.int a4), some (.int a5), some (.int a6)]) (st' := [.int (a4 - 1), .ref 20, .ref 17, .int (a4 - 1), .ref 20]) (m' := m) [(.aload_n 0, 0, 0, 0, 0), (.aload_n 0, 0, 0, 0, 0), (.getfield 22, 5, 3, 0, 0), (.iload 4, 0, 0, 0, 0), (.iconst 1, 0, 0, 1, 0), (.isub, 0, 0, 0, 0)] (by decide +kernel) rfl ?_
      refine Ev.iald (n := 64) (by decide +kernel) (by decide) rfl ?_
      refine Ev.cV (av := [.int (m.1 20 (a4 - 1).toNatClampNeg)]) (st := [.int (a4 - 1), .ref 20]) (a := 17) (EX5_saidAhead (l := l) (Ln := Ln) (xs := xs) (d := 0) f (m.1 20 (a4 - 1).toNatClampNeg) m (by decide)) rfl (by decide +kernel) mwX5_saidAhead iwX5_saidAhead vwX5_saidAhead lk_5_40 (by omega) (by decide) rfl (by decide) rfl rfl (Nat.le_of_ble_eq_true rfl) (fun r5 m6 => ?_)
      refine Ev.le (ls' := [some (.ref 17), some (.ref o1), none, some (.int a3), some (.int a4), some (.int a5), none]) ⟨rfl, ⟨rfl, ⟨rfl, ⟨rfl, ⟨rfl, trivial⟩⟩⟩⟩⟩ ?_
      exact EX5_work_J134 f kt10 o1 a3 a4 a5 (a4 - 1) r5 m6 h_o1 hkt10 (by omega)
    · refine Ev.run (pc' := 116) (ls' := [some (.ref 17), some (.ref o1), none, some (.int a3), some (.int a4), some (.int a5), some (.int a6)]) (st' := [.int (a4 - 1), .ref 20, .int 1, .int (a4 - 1), .ref 20]) (m' := m) [(.iconst 1, 0, 0, 1, 0), (.aload_n 0, 0, 0, 0, 0), (.getfield 22, 5, 3, 0, 0), (.iload 4, 0, 0, 0, 0), (.iconst 1, 0, 0, 1, 0), (.isub, 0, 0, 0, 0)] (by decide +kernel) rfl ?_
      refine Ev.iald (n := 64) (by decide +kernel) (by decide) rfl ?_
      refine Ev.run (pc' := 118) (ls' := [some (.ref 17), some (.ref o1), none, some (.int a3), some (.int a4), some (.int a5), some (.int a6)]) (st' := [.int (1 - (m.1 20 (a4 - 1).toNatClampNeg)), .int (a4 - 1), .ref 20]) (m' := m) [(.isub, 0, 0, 0, 0)] (by decide +kernel) rfl ?_
      refine Ev.gto (t := 134) (by decide +kernel) ?_
      refine Ev.le (ls' := [some (.ref 17), some (.ref o1), none, some (.int a3), some (.int a4), some (.int a5), none]) ⟨rfl, ⟨rfl, ⟨rfl, ⟨rfl, ⟨rfl, trivial⟩⟩⟩⟩⟩ ?_
      exact EX5_work_J134 f kt10 o1 a3 a4 a5 (a4 - 1) (1 - (m.1 20 (a4 - 1).toNatClampNeg)) m h_o1 hkt10 (by omega)
set_option maxRecDepth 100000 in
set_option maxHeartbeats 4000000 in
theorem EX5_work_L10 {l : Launch} {Ln : Nat} {xs : Nat → Int32} {d : Nat} (f : Nat) (k : ev_M → Option (Int32 × ev_M)) (o1 : Nat) (a3 : Int32) (h_o1 : isK 2 o1)  (hk : ∀  (em : ev_M), Ev ev_eI l Ln xs YX5_work d Sx 183 [some (.ref 17), none, none, none, none, none, none] [] em (k em)) (hd : 2 ≤ d) : ∀ (n : Nat) (a4 : Int32) (a5 : Int32) (m : ev_M), Ev ev_eI l Ln xs YX5_work d Sx 10 [some (.ref 17), some (.ref o1), none, some (.int a3), some (.int a4), some (.int a5), none] [] m (FX5_work_L10 f k o1 a3 n a4 a5 m) := by
  intro n
  induction n with
  | zero => intros; exact Ev.nn
  | succ n ih =>
    intro a4 a5 m
    rw [FX5_work_L10]
    refine Ev.run (pc' := 13) (ls' := [some (.ref 17), some (.ref o1), none, some (.int a3), some (.int a4), some (.int a5), none]) (st' := [.int a3, .int a5]) (m' := m) [(.iload 5, 0, 0, 0, 0), (.iload_n 3, 0, 0, 0, 0)] (by decide +kernel) rfl ?_
    refine Ev.ic_ge (t := 183) (by decide +kernel) ?_ ?_
    · refine Ev.le (ls' := [some (.ref 17), none, none, none, none, none, none]) ⟨rfl, trivial⟩ ?_
      exact hk _
    · refine Ev.run (pc' := 19) (ls' := [some (.ref 17), some (.ref o1), none, some (.int a3), some (.int a4), some (.int a5), none]) (st' := [.ref o1, .int a5]) (m' := m) [(.iload 5, 0, 0, 0, 0), (.aload_n 1, 0, 0, 0, 0)] (by decide +kernel) rfl ?_
      refine Ev.getS (v := .ref (o1 + 1)) (ci := 2) (k := 0) (idx := 31) (by decide +kernel) (by decide +kernel) (k2_l0 h_o1) (by rw [(k2_s0 h_o1)]) (by rw [(k2_s0 h_o1)]; decide) (by unfold ev_gv; rw [if_neg (by decide)]; show va_rf (Sx.2.2 o1 0) = _; rw [k2_r0 h_o1]; rfl) ?_
      refine Ev.alen (by decide +kernel) (k2_l1 h_o1) (k2_s1 h_o1) (by decide) ?_
      refine Ev.ic_ge (t := 183) (by decide +kernel) ?_ ?_
      · refine Ev.le (ls' := [some (.ref 17), none, none, none, none, none, none]) ⟨rfl, trivial⟩ ?_
        exact hk _
      · refine Ev.run (pc' := 27) (ls' := [some (.ref 17), some (.ref o1), none, some (.int a3), some (.int a4), some (.int a5), none]) (st' := [.ref o1]) (m' := m) [(.aload_n 1, 0, 0, 0, 0)] (by decide +kernel) rfl ?_
        refine Ev.getS (v := .ref (o1 + 1)) (ci := 2) (k := 0) (idx := 31) (by decide +kernel) (by decide +kernel) (k2_l0 h_o1) (by rw [(k2_s0 h_o1)]) (by rw [(k2_s0 h_o1)]; decide) (by unfold ev_gv; rw [if_neg (by decide)]; show va_rf (Sx.2.2 o1 0) = _; rw [k2_r0 h_o1]; rfl) ?_
        refine Ev.run (pc' := 32) (ls' := [some (.ref 17), some (.ref o1), none, some (.int a3), some (.int a4), some (.int a5), none]) (st' := [.int a5, .ref (o1 + 1)]) (m' := m) [(.iload 5, 0, 0, 0, 0)] (by decide +kernel) rfl ?_
        refine Ev.iald (n := 1608) (by decide +kernel) (k2_l1 h_o1) (k2_s1 h_o1) ?_
        refine Ev.run (pc' := 37) (ls' := [some (.ref 17), some (.ref o1), none, some (.int a3), some (.int a4), some (.int a5), some (.int (m.1 (o1 + 1) a5.toNatClampNeg))]) (st' := [.int (m.1 (o1 + 1) a5.toNatClampNeg)]) (m' := m) [(.istore 6, 0, 0, 0, 0), (.iload 6, 0, 0, 0, 0)] (by decide +kernel) rfl ?_
        refine Ev.if_ge (t := 47) (by decide +kernel) ?_ ?_
        · exact EX5_work_J47 f (FX5_work_L10 f k o1 a3 n) o1 a3 a4 a5 (m.1 (o1 + 1) a5.toNatClampNeg) m h_o1 ih (by omega)
        · refine Ev.run (pc' := 44) (ls' := [some (.ref 17), some (.ref o1), none, some (.int a3), some (.int a4), some (.int a5), some (.int (m.1 (o1 + 1) a5.toNatClampNeg))]) (st' := [.int (-20), .int (m.1 (o1 + 1) a5.toNatClampNeg)]) (m' := m) [(.iload 6, 0, 0, 0, 0), (.bipush (-20), 0, 0, (-20), 0)] (by decide +kernel) rfl ?_
          refine Ev.ic_gt (t := 73) (by decide +kernel) ?_ ?_
          · refine Ev.run (pc' := 77) (ls' := [some (.ref 17), some (.ref o1), none, some (.int a3), some (.int a4), some (.int a5), some (.int (m.1 (o1 + 1) a5.toNatClampNeg))]) (st' := [.int (-12), .int (m.1 (o1 + 1) a5.toNatClampNeg)]) (m' := m) [(.iload 6, 0, 0, 0, 0), (.bipush (-12), 0, 0, (-12), 0)] (by decide +kernel) rfl ?_
            refine Ev.ic_eq (t := 87) (by decide +kernel) ?_ ?_
            · exact EX5_work_J87 f (FX5_work_L10 f k o1 a3 n) o1 a3 a4 a5 (m.1 (o1 + 1) a5.toNatClampNeg) m h_o1 ih (by omega)
            · refine Ev.run (pc' := 84) (ls' := [some (.ref 17), some (.ref o1), none, some (.int a3), some (.int a4), some (.int a5), some (.int (m.1 (o1 + 1) a5.toNatClampNeg))]) (st' := [.int (-13), .int (m.1 (o1 + 1) a5.toNatClampNeg)]) (m' := m) [(.iload 6, 0, 0, 0, 0), (.bipush (-13), 0, 0, (-13), 0)] (by decide +kernel) rfl ?_
              refine Ev.ic_ne (t := 138) (by decide +kernel) ?_ ?_
              · refine Ev.run (pc' := 141) (ls' := [some (.ref 17), some (.ref o1), none, some (.int a3), some (.int a4), some (.int a5), some (.int (m.1 (o1 + 1) a5.toNatClampNeg))]) (st' := [.int 1, .int a4]) (m' := m) [(.iload 4, 0, 0, 0, 0), (.iconst 1, 0, 0, 1, 0)] (by decide +kernel) rfl ?_
                refine Ev.ic_le (t := 177) (by decide +kernel) ?_ ?_
                · refine Ev.le (ls' := [some (.ref 17), some (.ref o1), none, some (.int a3), some (.int a4), some (.int a5), none]) ⟨rfl, ⟨rfl, ⟨rfl, ⟨rfl, ⟨rfl, trivial⟩⟩⟩⟩⟩ ?_
                  exact EX5_work_J177 f (FX5_work_L10 f k o1 a3 n) o1 a3 a4 a5 m h_o1 ih (by omega)
                · refine Ev.run (pc' := 165) (ls' := [some (.ref 17), some (.ref o1), none, some (.int a3), some (.int (a4 + (-1))), some (.int a5), some (.int (m.1 (o1 + 1) a5.toNatClampNeg))]) (st' := [.int ((a4 + (-1)) - 1), .ref 20, .int (m.1 (o1 + 1) a5.toNatClampNeg), .int ((a4 + (-1)) - 1), .ref 20]) (m' := m) [(.iinc 4 (-1), 0, 0, (-1), 0), (.aload_n 0, 0, 0, 0, 0), (.getfield 22, 5, 3, 0, 0), (.iload 4, 0, 0, 0, 0), (.iconst 1, 0, 0, 1, 0), (.isub, 0, 0, 0, 0), (.iload 6, 0, 0, 0, 0), (.aload_n 0, 0, 0, 0, 0), (.getfield 22, 5, 3, 0, 0), (.iload 4, 0, 0, 0, 0), (.iconst 1, 0, 0, 1, 0), (.isub, 0, 0, 0, 0)] (by decide +kernel) rfl ?_
                  refine Ev.iald (n := 64) (by decide +kernel) (by decide) rfl ?_
                  refine Ev.run (pc' := 172) (ls' := [some (.ref 17), some (.ref o1), none, some (.int a3), some (.int (a4 + (-1))), some (.int a5), some (.int (m.1 (o1 + 1) a5.toNatClampNeg))]) (st' := [.int (a4 + (-1)), .ref 20, .int (m.1 20 ((a4 + (-1)) - 1).toNatClampNeg), .int (m.1 (o1 + 1) a5.toNatClampNeg), .int ((a4 + (-1)) - 1), .ref 20]) (m' := m) [(.aload_n 0, 0, 0, 0, 0), (.getfield 22, 5, 3, 0, 0), (.iload 4, 0, 0, 0, 0)] (by decide +kernel) rfl ?_
                  refine Ev.iald (n := 64) (by decide +kernel) (by decide) rfl ?_
                  refine Ev.cS (av := [.int (m.1 (o1 + 1) a5.toNatClampNeg), .int (m.1 20 ((a4 + (-1)) - 1).toNatClampNeg), .int (m.1 20 (a4 + (-1)).toNatClampNeg)]) (st := [.int ((a4 + (-1)) - 1), .ref 20]) (EX5_join (l := l) (Ln := Ln) (xs := xs) (d := 1) f (m.1 (o1 + 1) a5.toNatClampNeg) (m.1 20 ((a4 + (-1)) - 1).toNatClampNeg) (m.1 20 (a4 + (-1)).toNatClampNeg) m (by decide)) rfl (by decide +kernel) mwX5_join swX5_join lk_5_43 (by omega) rfl (Nat.le_of_ble_eq_true rfl) (fun r7 m8 => ?_)
                  refine Ev.iast (n := 64) (by decide +kernel) (by decide) rfl ?_
                  refine Ev.le (ls' := [some (.ref 17), some (.ref o1), none, some (.int a3), some (.int (a4 + (-1))), some (.int a5), none]) ⟨rfl, ⟨rfl, ⟨rfl, ⟨rfl, ⟨rfl, trivial⟩⟩⟩⟩⟩ ?_
                  exact EX5_work_J177 f (FX5_work_L10 f k o1 a3 n) o1 a3 (a4 + (-1)) a5 ((ev_up m8.1 20 ((a4 + (-1)) - 1).toNatClampNeg r7), m8.2) h_o1 ih (by omega)
              · exact EX5_work_J87 f (FX5_work_L10 f k o1 a3 n) o1 a3 a4 a5 (m.1 (o1 + 1) a5.toNatClampNeg) m h_o1 ih (by omega)
          · exact EX5_work_J47 f (FX5_work_L10 f k o1 a3 n) o1 a3 a4 a5 (m.1 (o1 + 1) a5.toNatClampNeg) m h_o1 ih (by omega)
set_option maxRecDepth 100000 in
set_option maxHeartbeats 4000000 in
theorem EX5_work {l : Launch} {Ln : Nat} {xs : Nat → Int32} {d : Nat} (f : Nat) (o1 : Nat) (a2 : Int32) (a3 : Int32) (m : ev_M) (h_o1 : isK 2 o1) (hd : 2 ≤ d) : Mv ev_eI l Ln xs YX5_work d Sx [.ref 17, .ref o1, .int a2, .int a3] m (FX5_work f o1 a2 a3 m) := by
  refine Mv.of (by decide +kernel) rfl (Nat.le_of_ble_eq_true rfl) (Ev.le (ls' := [some (.ref 17), some (.ref o1), some (.int a2), some (.int a3), none, none, none]) ⟨rfl, ⟨rfl, ⟨rfl, ⟨rfl, trivial⟩⟩⟩⟩ ?_)
  unfold FX5_work
  refine Ev.run (pc' := 5) (ls' := [some (.ref 17), some (.ref o1), some (.int a2), some (.int a3), some (.int 0), none, none]) (st' := [.int a2, .int 0]) (m' := m) [(.iconst 0, 0, 0, 0, 0), (.istore 4, 0, 0, 0, 0), (.iconst 0, 0, 0, 0, 0), (.iload_n 2, 0, 0, 0, 0)] (by decide +kernel) rfl ?_
  refine Ev.cS (av := [.int 0, .int a2]) (st := []) (EJ9_max_7cf53 (l := l) (Ln := Ln) (xs := xs) (d := 0) f (0 : Int32) a2 m (by decide)) rfl (by decide +kernel) mwJ9_max_7cf53 swJ9_max_7cf53 lk_5_25 (by omega) rfl (Nat.le_of_ble_eq_true rfl) (fun r1 m2 => ?_)
  refine Ev.run (pc' := 10) (ls' := [some (.ref 17), some (.ref o1), some (.int a2), some (.int a3), some (.int 0), some (.int r1), none]) (st' := []) (m' := m2) [(.istore 5, 0, 0, 0, 0)] (by decide +kernel) rfl ?_
  refine Ev.le (ls' := [some (.ref 17), some (.ref o1), none, some (.int a3), some (.int 0), some (.int r1), none]) ⟨rfl, ⟨rfl, ⟨rfl, ⟨rfl, ⟨rfl, trivial⟩⟩⟩⟩⟩ ?_
  refine EX5_work_L10 f _ o1 a3 h_o1 ?_ (by omega) _ _ _ _
  intro m9
  refine Ev.run (pc' := 188) (ls' := [some (.ref 17), none, none, none, none, none, none]) (st' := [.int 0, .ref 20]) (m' := m9) [(.aload_n 0, 0, 0, 0, 0), (.getfield 22, 5, 3, 0, 0), (.iconst 0, 0, 0, 0, 0)] (by decide +kernel) rfl ?_
  refine Ev.ialdK (n := 64) (j := 0) (by decide +kernel) (by decide) rfl rfl (by decide) ?_
  exact Ev.ireti rfl rfl (by decide +kernel)
def FX9_opens (f : Nat)  (m : ev_M) : Option (Int32 × ev_M) :=
  (if (m.1 15 3) < 6 then (ev_bd (FX10_advance f ((ev_up m.1 15 3 ((m.1 15 3) + 1)), m.2)) (fun _ m2 => some (1, m2))) else (ev_bd (FX10_fail f (4 : Int32) (m.1 13 2) m) (fun _ m4 => some (0, m4))))
set_option maxRecDepth 100000 in
set_option maxHeartbeats 4000000 in
theorem EX9_opens {l : Launch} {Ln : Nat} {xs : Nat → Int32} {d : Nat} (f : Nat)  (m : ev_M)  (hd : 6 ≤ d) : Mv ev_eI l Ln xs YX9_opens d Sx [.ref 15] m (FX9_opens f  m) := by
  refine Mv.of (by decide +kernel) rfl (Nat.le_of_ble_eq_true rfl) (Ev.le (ls' := [some (.ref 15)]) ⟨rfl, trivial⟩ ?_)
  unfold FX9_opens
  refine Ev.run (pc' := 6) (ls' := [some (.ref 15)]) (st' := [.int 6, .int (m.1 15 3)]) (m' := m) [(.aload_n 0, 0, 0, 0, 0), (.getfield 19, 9, 3, 0, 0), (.bipush 6, 0, 0, 6, 0)] (by decide +kernel) rfl ?_
  refine Ev.ic_lt (t := 26) (by decide +kernel) ?_ ?_
  · refine Ev.run (pc' := 40) (ls' := [some (.ref 15)]) (st' := [.ref 13]) (m' := ((ev_up m.1 15 3 ((m.1 15 3) + 1)), m.2)) [(.aload_n 0, 0, 0, 0, 0), (.dup, 0, 0, 0, 0), (.getfield 19, 9, 3, 0, 0), (.iconst 1, 0, 0, 1, 0), (.iadd, 0, 0, 0, 0), (.putfield 19, 9, 3, 0, 0), (.aload_n 0, 0, 0, 0, 0), (.getfield 25, 9, 0, 0, 0)] (by decide +kernel) rfl ?_
    refine Ev.cV (av := []) (st := []) (a := 13) (EX10_advance (l := l) (Ln := Ln) (xs := xs) (d := 5) f ((ev_up m.1 15 3 ((m.1 15 3) + 1)), m.2) (by decide)) rfl (by decide +kernel) mwX10_advance iwX10_advance vwX10_advance lk_9_38 (by omega) (by decide) rfl (by decide) rfl rfl (Nat.le_of_ble_eq_true rfl) (fun r1 m2 => ?_)
    refine Ev.run (pc' := 44) (ls' := [some (.ref 15)]) (st' := [.int 1]) (m' := m2) [(.iconst 1, 0, 0, 1, 0)] (by decide +kernel) rfl ?_
    exact Ev.iretz rfl rfl (by decide +kernel) (by decide)
  · refine Ev.run (pc' := 21) (ls' := [some (.ref 15)]) (st' := [.int (m.1 13 2), .int 4, .ref 13]) (m' := m) [(.aload_n 0, 0, 0, 0, 0), (.getfield 25, 9, 0, 0, 0), (.iconst 4, 0, 0, 4, 0), (.aload_n 0, 0, 0, 0, 0), (.getfield 25, 9, 0, 0, 0), (.getfield 29, 10, 2, 0, 0)] (by decide +kernel) rfl ?_
    refine Ev.cV (av := [.int 4, .int (m.1 13 2)]) (st := []) (a := 13) (EX10_fail (l := l) (Ln := Ln) (xs := xs) (d := 0) f (4 : Int32) (m.1 13 2) m (by decide)) rfl (by decide +kernel) mwX10_fail iwX10_fail vwX10_fail lk_9_34 (by omega) (by decide) rfl (by decide) rfl rfl (Nat.le_of_ble_eq_true rfl) (fun r3 m4 => ?_)
    refine Ev.run (pc' := 25) (ls' := [some (.ref 15)]) (st' := [.int 0]) (m' := m4) [(.iconst 0, 0, 0, 0, 0)] (by decide +kernel) rfl ?_
    exact Ev.iretz rfl rfl (by decide +kernel) (by decide)
