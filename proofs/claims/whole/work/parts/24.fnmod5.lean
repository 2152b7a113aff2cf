def FX12_checked_L6 (f : Nat) (k : Int32 → ev_M → Option (Int32 × ev_M)) (o0 : Nat) (a1 : Int32) : Nat → Int32 → Int32 → ev_M → Option (Int32 × ev_M)
  | 0, _, _, _ => none
  | n + 1, a2, a3, m => (if a1 ≤ a3 then (k a2 m) else (if ev_in a3 (Sx.2.1 o0).2 then (FX12_checked_L6 f k o0 a1 n (((3 * a2) + (m.1 o0 a3.toNatClampNeg)) - ((3 * a2) + (m.1 o0 a3.toNatClampNeg)) / 251 * 251) (a3 + 1) m) else none))
def FX12_checked (f : Nat) (o0 : Nat) (a1 : Int32) (m : ev_M) : Option (Int32 × ev_M) :=
  (FX12_checked_L6 f (fun e1 m2 => some (e1, m2)) o0 a1 f (157 : Int32) (0 : Int32) m)
set_option maxRecDepth 100000 in
set_option maxHeartbeats 4000000 in
theorem EX12_checked_L6 {l : Launch} {Ln : Nat} {xs : Nat → Int32} {d : Nat} (f : Nat) (k : Int32 → ev_M → Option (Int32 × ev_M)) (o0 : Nat) (a1 : Int32) (h_o0 : isK 100 o0)  (hk : ∀ (e2 : Int32) (em : ev_M), Ev ev_eI l Ln xs YX12_checked d Sx 29 [none, none, some (.int e2), none] [] em (k e2 em)) (hd : 0 ≤ d) : ∀ (n : Nat) (a2 : Int32) (a3 : Int32) (m : ev_M), Ev ev_eI l Ln xs YX12_checked d Sx 6 [some (.ref o0), some (.int a1), some (.int a2), some (.int a3)] [] m (FX12_checked_L6 f k o0 a1 n a2 a3 m) := by
  intro n
  induction n with
  | zero => intros; exact Ev.nn
  | succ n ih =>
    intro a2 a3 m
    rw [FX12_checked_L6]
    refine Ev.run (pc' := 8) (ls' := [some (.ref o0), some (.int a1), some (.int a2), some (.int a3)]) (st' := [.int a1, .int a3]) (m' := m) [(.iload_n 3, 0, 0, 0, 0), (.iload_n 1, 0, 0, 0, 0)] (by decide +kernel) rfl ?_
    refine Ev.ic_ge (t := 29) (by decide +kernel) ?_ ?_
    · refine Ev.le (ls' := [none, none, some (.int a2), none]) ⟨rfl, trivial⟩ ?_
      exact hk _ _
    · refine Ev.run (pc' := 16) (ls' := [some (.ref o0), some (.int a1), some (.int a2), some (.int a3)]) (st' := [.int a3, .ref o0, .int (3 * a2)]) (m' := m) [(.iconst 3, 0, 0, 3, 0), (.iload_n 2, 0, 0, 0, 0), (.imul, 0, 0, 0, 0), (.aload_n 0, 0, 0, 0, 0), (.iload_n 3, 0, 0, 0, 0)] (by decide +kernel) rfl ?_
      refine Ev.iald (n := (Sx.2.1 o0).2) (by decide +kernel) (k100_l0 h_o0) (k100_s0 h_o0) ?_
      refine Ev.run (pc' := 21) (ls' := [some (.ref o0), some (.int a1), some (.int a2), some (.int a3)]) (st' := [.int 251, .int ((3 * a2) + (m.1 o0 a3.toNatClampNeg))]) (m' := m) [(.iadd, 0, 0, 0, 0), (.sipush 251, 0, 0, 251, 0)] (by decide +kernel) rfl ?_
      refine Ev.irem' (by decide +kernel) (by decide) ?_
      refine Ev.run (pc' := 26) (ls' := [some (.ref o0), some (.int a1), some (.int (((3 * a2) + (m.1 o0 a3.toNatClampNeg)) - ((3 * a2) + (m.1 o0 a3.toNatClampNeg)) / 251 * 251)), some (.int (a3 + 1))]) (st' := []) (m' := m) [(.istore_n 2, 0, 0, 0, 0), (.iinc 3 1, 0, 0, 1, 0)] (by decide +kernel) rfl ?_
      refine Ev.gto (t := 6) (by decide +kernel) ?_
      exact ih _ _ _
set_option maxRecDepth 100000 in
set_option maxHeartbeats 4000000 in
theorem EX12_checked {l : Launch} {Ln : Nat} {xs : Nat → Int32} {d : Nat} (f : Nat) (o0 : Nat) (a1 : Int32) (m : ev_M) (h_o0 : isK 100 o0) (hd : 0 ≤ d) : Mv ev_eI l Ln xs YX12_checked d Sx [.ref o0, .int a1] m (FX12_checked f o0 a1 m) := by
  refine Mv.of (by decide +kernel) rfl (Nat.le_of_ble_eq_true rfl) (Ev.le (ls' := [some (.ref o0), some (.int a1), none, none]) ⟨rfl, ⟨rfl, trivial⟩⟩ ?_)
  unfold FX12_checked
  refine Ev.run (pc' := 6) (ls' := [some (.ref o0), some (.int a1), some (.int 157), some (.int 0)]) (st' := []) (m' := m) [(.sipush 157, 0, 0, 157, 0), (.istore_n 2, 0, 0, 0, 0), (.iconst 0, 0, 0, 0, 0), (.istore_n 3, 0, 0, 0, 0)] (by decide +kernel) rfl ?_
  refine EX12_checked_L6 f _ o0 a1 h_o0 ?_ (by omega) _ _ _ _
  intro e1 m2
  refine Ev.run (pc' := 30) (ls' := [none, none, some (.int e1), none]) (st' := [.int e1]) (m' := m2) [(.iload_n 2, 0, 0, 0, 0)] (by decide +kernel) rfl ?_
  exact Ev.ireti rfl rfl (by decide +kernel)
def FX12_writes (f : Nat) (a1 : Int32) (m : ev_M) : Option (Unit × ev_M) :=
  (if ev_in (m.1 112 103) 28 then some ((), ((ev_up (ev_up m.1 180 (m.1 112 103).toNatClampNeg a1) 112 103 ((m.1 112 103) + 1)), m.2)) else none)
set_option maxRecDepth 100000 in
set_option maxHeartbeats 4000000 in
theorem EX12_writes {l : Launch} {Ln : Nat} {xs : Nat → Int32} {d : Nat} (f : Nat) (a1 : Int32) (m : ev_M)  (hd : 0 ≤ d) : Mv ev_eV l Ln xs YX12_writes d Sx [.ref 112, .int a1] m (FX12_writes f a1 m) := by
  refine Mv.of (by decide +kernel) rfl (Nat.le_of_ble_eq_true rfl) (Ev.le (ls' := [some (.ref 112), some (.int a1)]) ⟨rfl, ⟨rfl, trivial⟩⟩ ?_)
  unfold FX12_writes
  refine Ev.run (pc' := 9) (ls' := [some (.ref 112), some (.int a1)]) (st' := [.int a1, .int (m.1 112 103), .ref 180]) (m' := m) [(.aload_n 0, 0, 0, 0, 0), (.getfield 222, 12, 102, 0, 0), (.aload_n 0, 0, 0, 0, 0), (.getfield 648, 12, 103, 0, 0), (.iload_n 1, 0, 0, 0, 0)] (by decide +kernel) rfl ?_
  refine Ev.iast (n := 28) (by decide +kernel) (by decide) rfl ?_
  refine Ev.run (pc' := 20) (ls' := [some (.ref 112), some (.int a1)]) (st' := []) (m' := ((ev_up (ev_up m.1 180 (m.1 112 103).toNatClampNeg a1) 112 103 ((m.1 112 103) + 1)), m.2)) [(.aload_n 0, 0, 0, 0, 0), (.dup, 0, 0, 0, 0), (.getfield 648, 12, 103, 0, 0), (.iconst 1, 0, 0, 1, 0), (.iadd, 0, 0, 0, 0), (.putfield 648, 12, 103, 0, 0)] (by decide +kernel) rfl ?_
  exact Ev.retv rfl rfl (by decide +kernel)
def FX12_image_L45 (f : Nat) (k : ev_M → Option (Int32 × ev_M))   : Nat → Int32 → ev_M → Option (Int32 × ev_M)
  | 0, _, _ => none
  | n + 1, a1, m => (ev_bd (FX12_towerMany f m) (fun r7 m8 => (if (3 * r7) ≤ a1 then (k m8) else (if ev_in (2 + a1) 147 then (ev_bd (FX12_writes f (m8.1 144 (2 + a1).toNatClampNeg) m8) (fun _ m10 => (FX12_image_L45 f k n (a1 + 1) m10))) else none))))
def FX12_image (f : Nat)  (m : ev_M) : Option (Int32 × ev_M) :=
  (ev_bd (FX12_writes f ((m.1 144 0) / 256) ((ev_up m.1 112 103 0), m.2)) (fun _ m2 => (ev_bd (FX12_writes f ((m2.1 144 0) - (m2.1 144 0) / 256 * 256) m2) (fun _ m4 => (ev_bd (FX12_writes f (m4.1 144 1) m4) (fun _ m6 => (FX12_image_L45 f (fun m11 => (ev_bd (FX12_checked f 180 (m11.1 112 103) m11) (fun r12 m13 => (ev_bd (FX12_writes f r12 m13) (fun _ m15 => some ((m15.1 112 103), m15)))))) f (0 : Int32) m6)))))))
set_option maxRecDepth 100000 in
set_option maxHeartbeats 4000000 in
theorem EX12_image_L45 {l : Launch} {Ln : Nat} {xs : Nat → Int32} {d : Nat} (f : Nat) (k : ev_M → Option (Int32 × ev_M))     (hk : ∀  (em : ev_M), Ev ev_eI l Ln xs YX12_image d Sx 73 [some (.ref 112), none] [] em (k em)) (hd : 1 ≤ d) : ∀ (n : Nat) (a1 : Int32) (m : ev_M), Ev ev_eI l Ln xs YX12_image d Sx 45 [some (.ref 112), some (.int a1)] [] m (FX12_image_L45 f k n a1 m) := by
  intro n
  induction n with
  | zero => intros; exact Ev.nn
  | succ n ih =>
    intro a1 m
    rw [FX12_image_L45]
    refine Ev.run (pc' := 48) (ls' := [some (.ref 112), some (.int a1)]) (st' := [.ref 112, .int 3, .int a1]) (m' := m) [(.iload_n 1, 0, 0, 0, 0), (.iconst 3, 0, 0, 3, 0), (.aload_n 0, 0, 0, 0, 0)] (by decide +kernel) rfl ?_
    refine Ev.cV (av := []) (st := [.int 3, .int a1]) (a := 112) (EX12_towerMany (l := l) (Ln := Ln) (xs := xs) (d := 0) f m (by decide)) rfl (by decide +kernel) mwX12_towerMany iwX12_towerMany vwX12_towerMany lk_12_369 (by omega) (by decide) rfl (by decide) rfl rfl (Nat.le_of_ble_eq_true rfl) (fun r7 m8 => ?_)
    refine Ev.run (pc' := 52) (ls' := [some (.ref 112), some (.int a1)]) (st' := [.int (3 * r7), .int a1]) (m' := m8) [(.imul, 0, 0, 0, 0)] (by decide +kernel) rfl ?_
    refine Ev.ic_ge (t := 73) (by decide +kernel) ?_ ?_
    · refine Ev.le (ls' := [some (.ref 112), none]) ⟨rfl, trivial⟩ ?_
      exact hk _
    · refine Ev.run (pc' := 63) (ls' := [some (.ref 112), some (.int a1)]) (st' := [.int (2 + a1), .ref 144, .ref 112]) (m' := m8) [(.aload_n 0, 0, 0, 0, 0), (.aload_n 0, 0, 0, 0, 0), (.getfield 109, 12, 47, 0, 0), (.iconst 2, 0, 0, 2, 0), (.iload_n 1, 0, 0, 0, 0), (.iadd, 0, 0, 0, 0)] (by decide +kernel) rfl ?_
      refine Ev.iald (n := 147) (by decide +kernel) (by decide) rfl ?_
      refine Ev.cV (av := [.int (m8.1 144 (2 + a1).toNatClampNeg)]) (st := []) (a := 112) (EX12_writes (l := l) (Ln := Ln) (xs := xs) (d := 0) f (m8.1 144 (2 + a1).toNatClampNeg) m8 (by decide)) rfl (by decide +kernel) mwX12_writes iwX12_writes vwX12_writes lk_12_651 (by omega) (by decide) rfl (by decide) rfl rfl (Nat.le_of_ble_eq_true rfl) (fun r9 m10 => ?_)
      refine Ev.run (pc' := 70) (ls' := [some (.ref 112), some (.int (a1 + 1))]) (st' := []) (m' := m10) [(.iinc 1 1, 0, 0, 1, 0)] (by decide +kernel) rfl ?_
      refine Ev.gto (t := 45) (by decide +kernel) ?_
      exact ih _ _
set_option maxRecDepth 100000 in
set_option maxHeartbeats 4000000 in
theorem EX12_image {l : Launch} {Ln : Nat} {xs : Nat → Int32} {d : Nat} (f : Nat)  (m : ev_M)  (hd : 1 ≤ d) : Mv ev_eI l Ln xs YX12_image d Sx [.ref 112] m (FX12_image f  m) := by
  refine Mv.of (by decide +kernel) rfl (Nat.le_of_ble_eq_true rfl) (Ev.le (ls' := [some (.ref 112), none]) ⟨rfl, trivial⟩ ?_)
  unfold FX12_image
  refine Ev.run (pc' := 11) (ls' := [some (.ref 112), none]) (st' := [.int 0, .ref 144, .ref 112]) (m' := ((ev_up m.1 112 103 0), m.2)) [(.aload_n 0, 0, 0, 0, 0), (.iconst 0, 0, 0, 0, 0), (.putfield 648, 12, 103, 0, 0), (.aload_n 0, 0, 0, 0, 0), (.aload_n 0, 0, 0, 0, 0), (.getfield 109, 12, 47, 0, 0), (.iconst 0, 0, 0, 0, 0)] (by decide +kernel) rfl ?_
  refine Ev.ialdK (n := 147) (j := 0) (by decide +kernel) (by decide) rfl rfl (by decide) ?_
  refine Ev.run (pc' := 15) (ls' := [some (.ref 112), none]) (st' := [.int 256, .int (m.1 144 0), .ref 112]) (m' := ((ev_up m.1 112 103 0), m.2)) [(.sipush 256, 0, 0, 256, 0)] (by decide +kernel) rfl ?_
  refine Ev.idiv' (by decide +kernel) (by decide) ?_
  refine Ev.cV (av := [.int ((m.1 144 0) / 256)]) (st := []) (a := 112) (EX12_writes (l := l) (Ln := Ln) (xs := xs) (d := 0) f ((m.1 144 0) / 256) ((ev_up m.1 112 103 0), m.2) (by decide)) rfl (by decide +kernel) mwX12_writes iwX12_writes vwX12_writes lk_12_651 (by omega) (by decide) rfl (by decide) rfl rfl (Nat.le_of_ble_eq_true rfl) (fun r1 m2 => ?_)
  refine Ev.run (pc' := 25) (ls' := [some (.ref 112), none]) (st' := [.int 0, .ref 144, .ref 112]) (m' := m2) [(.aload_n 0, 0, 0, 0, 0), (.aload_n 0, 0, 0, 0, 0), (.getfield 109, 12, 47, 0, 0), (.iconst 0, 0, 0, 0, 0)] (by decide +kernel) rfl ?_
  refine Ev.ialdK (n := 147) (j := 0) (by decide +kernel) (by decide) rfl rfl (by decide) ?_
  refine Ev.run (pc' := 29) (ls' := [some (.ref 112), none]) (st' := [.int 256, .int (m2.1 144 0), .ref 112]) (m' := m2) [(.sipush 256, 0, 0, 256, 0)] (by decide +kernel) rfl ?_
  refine Ev.irem' (by decide +kernel) (by decide) ?_
  refine Ev.cV (av := [.int ((m2.1 144 0) - (m2.1 144 0) / 256 * 256)]) (st := []) (a := 112) (EX12_writes (l := l) (Ln := Ln) (xs := xs) (d := 0) f ((m2.1 144 0) - (m2.1 144 0) / 256 * 256) m2 (by decide)) rfl (by decide +kernel) mwX12_writes iwX12_writes vwX12_writes lk_12_651 (by omega) (by decide) rfl (by decide) rfl rfl (Nat.le_of_ble_eq_true rfl) (fun r3 m4 => ?_)
  refine Ev.run (pc' := 39) (ls' := [some (.ref 112), none]) (st' := [.int 1, .ref 144, .ref 112]) (m' := m4) [(.aload_n 0, 0, 0, 0, 0), (.aload_n 0, 0, 0, 0, 0), (.getfield 109, 12, 47, 0, 0), (.iconst 1, 0, 0, 1, 0)] (by decide +kernel) rfl ?_
  refine Ev.ialdK (n := 147) (j := 1) (by decide +kernel) (by decide) rfl rfl (by decide) ?_
  refine Ev.cV (av := [.int (m4.1 144 1)]) (st := []) (a := 112) (EX12_writes (l := l) (Ln := Ln) (xs := xs) (d := 0) f (m4.1 144 1) m4 (by decide)) rfl (by decide +kernel) mwX12_writes iwX12_writes vwX12_writes lk_12_651 (by omega) (by decide) rfl (by decide) rfl rfl (Nat.le_of_ble_eq_true rfl) (fun r5 m6 => ?_)
  refine Ev.run (pc' := 45) (ls' := [some (.ref 112), some (.int 0)]) (st' := []) (m' := m6) [(.iconst 0, 0, 0, 0, 0), (.istore_n 1, 0, 0, 0, 0)] (by decide +kernel) rfl ?_
  refine EX12_image_L45 f _ ?_ (by omega) _ _ _
  intro m11
  refine Ev.run (pc' := 82) (ls' := [some (.ref 112), none]) (st' := [.int (m11.1 112 103), .ref 180, .ref 112]) (m' := m11) [(.aload_n 0, 0, 0, 0, 0), (.aload_n 0, 0, 0, 0, 0), (.getfield 222, 12, 102, 0, 0), (.aload_n 0, 0, 0, 0, 0), (.getfield 648, 12, 103, 0, 0)] (by decide +kernel) rfl ?_
  refine Ev.cS (av := [.ref 180, .int (m11.1 112 103)]) (st := [.ref 112]) (EX12_checked (l := l) (Ln := Ln) (xs := xs) (d := 0) f 180 (m11.1 112 103) m11 (by decide) (by decide)) rfl (by decide +kernel) mwX12_checked swX12_checked lk_12_654 (by omega) rfl (Nat.le_of_ble_eq_true rfl) (fun r12 m13 => ?_)
  refine Ev.cV (av := [.int r12]) (st := []) (a := 112) (EX12_writes (l := l) (Ln := Ln) (xs := xs) (d := 0) f r12 m13 (by decide)) rfl (by decide +kernel) mwX12_writes iwX12_writes vwX12_writes lk_12_651 (by omega) (by decide) rfl (by decide) rfl rfl (Nat.le_of_ble_eq_true rfl) (fun r14 m15 => ?_)
  refine Ev.run (pc' := 92) (ls' := [some (.ref 112), none]) (st' := [.int (m15.1 112 103)]) (m' := m15) [(.aload_n 0, 0, 0, 0, 0), (.getfield 648, 12, 103, 0, 0)] (by decide +kernel) rfl ?_
  exact Ev.ireti rfl rfl (by decide +kernel)
def FX12_octet (f : Nat) (a1 : Int32) (m : ev_M) : Option (Int32 × ev_M) :=
  (if a1 < 0 then some ((-1), m) else (if (m.1 112 103) ≤ a1 then some ((-1), m) else (if ev_in a1 28 then some ((m.1 180 a1.toNatClampNeg), m) else none)))
set_option maxRecDepth 100000 in
set_option maxHeartbeats 4000000 in
theorem EX12_octet {l : Launch} {Ln : Nat} {xs : Nat → Int32} {d : Nat} (f : Nat) (a1 : Int32) (m : ev_M)  (hd : 0 ≤ d) : Mv ev_eI l Ln xs YX12_octet d Sx [.ref 112, .int a1] m (FX12_octet f a1 m) := by
  refine Mv.of (by decide +kernel) rfl (Nat.le_of_ble_eq_true rfl) (Ev.le (ls' := [some (.ref 112), some (.int a1)]) ⟨rfl, ⟨rfl, trivial⟩⟩ ?_)
  unfold FX12_octet
  refine Ev.run (pc' := 1) (ls' := [some (.ref 112), some (.int a1)]) (st' := [.int a1]) (m' := m) [(.iload_n 1, 0, 0, 0, 0)] (by decide +kernel) rfl ?_
  refine Ev.if_lt (t := 21) (by decide +kernel) ?_ ?_
  · refine Ev.run (pc' := 22) (ls' := [some (.ref 112), some (.int a1)]) (st' := [.int (-1)]) (m' := m) [(.iconst (-1), 0, 0, (-1), 0)] (by decide +kernel) rfl ?_
    exact Ev.ireti rfl rfl (by decide +kernel)
  · refine Ev.run (pc' := 9) (ls' := [some (.ref 112), some (.int a1)]) (st' := [.int (m.1 112 103), .int a1]) (m' := m) [(.iload_n 1, 0, 0, 0, 0), (.aload_n 0, 0, 0, 0, 0), (.getfield 648, 12, 103, 0, 0)] (by decide +kernel) rfl ?_
    refine Ev.ic_ge (t := 21) (by decide +kernel) ?_ ?_
    · refine Ev.run (pc' := 22) (ls' := [some (.ref 112), some (.int a1)]) (st' := [.int (-1)]) (m' := m) [(.iconst (-1), 0, 0, (-1), 0)] (by decide +kernel) rfl ?_
      exact Ev.ireti rfl rfl (by decide +kernel)
    · refine Ev.run (pc' := 17) (ls' := [some (.ref 112), some (.int a1)]) (st' := [.int a1, .ref 180]) (m' := m) [(.aload_n 0, 0, 0, 0, 0), (.getfield 222, 12, 102, 0, 0), (.iload_n 1, 0, 0, 0, 0)] (by decide +kernel) rfl ?_
      refine Ev.iald (n := 28) (by decide +kernel) (by decide) rfl ?_
      refine Ev.gto (t := 22) (by decide +kernel) ?_
      exact Ev.ireti rfl rfl (by decide +kernel)
def FX12_isImage_J98 (f : Nat) (kt67 : Int32 → ev_M → Option (Int32 × ev_M))  (a2 : Int32) (s0 : Int32) (s1 : Int32) (m : ev_M) : Option (Int32 × ev_M) :=
  (if s0 ≤ s1 then (kt67 (a2 + 1) m) else some (0, m))
def FX12_isImage_J96 (f : Nat) (kt67 : Int32 → ev_M → Option (Int32 × ev_M))  (a2 : Int32) (s0 : Int32) (m : ev_M) : Option (Int32 × ev_M) :=
  (FX12_isImage_J98 f kt67 a2 s0 (9 : Int32) m)
def FX12_isImage_L67 (f : Nat) (k : ev_M → Option (Int32 × ev_M))  (a1 : Int32) : Nat → Int32 → ev_M → Option (Int32 × ev_M)
  | 0, _, _ => none
  | n + 1, a2, m => (if (a1 - 1) ≤ a2 then (k m) else (if ev_in a2 1600 then (if a2 ≤ 2 then (FX12_isImage_J96 f (FX12_isImage_L67 f k a1 n) a2 (m.1 113 a2.toNatClampNeg) m) else (if (a2 - a2 / 3 * 3) = 2 then (FX12_isImage_J98 f (FX12_isImage_L67 f k a1 n) a2 (m.1 113 a2.toNatClampNeg) (1 : Int32) m) else (FX12_isImage_J96 f (FX12_isImage_L67 f k a1 n) a2 (m.1 113 a2.toNatClampNeg) m))) else none))
def FX12_isImage (f : Nat) (a1 : Int32) (m : ev_M) : Option (Int32 × ev_M) :=
  (if (m.1 112 45) = 0 then some (0, m) else (ev_bd (FX12_towerMany f m) (fun r1 m2 => (if a1 = (4 + (3 * r1)) then (if ev_in (a1 - 1) 1600 then (ev_bd (FX12_checked f 113 (a1 - 1) m2) (fun r3 m4 => (if (m2.1 113 (a1 - 1).toNatClampNeg) = r3 then (if ((256 * (m4.1 113 0)) + (m4.1 113 1)) ≤ 999 then (FX12_isImage_L67 f (fun m5 => some (1, m5)) a1 f (2 : Int32) m4) else some (0, m4)) else some (0, m4)))) else none) else some (0, m2)))))
set_option maxRecDepth 100000 in
set_option maxHeartbeats 4000000 in
theorem EX12_isImage_J98 {l : Launch} {Ln : Nat} {xs : Nat → Int32} {d : Nat} (f : Nat) (kt67 : Int32 → ev_M → Option (Int32 × ev_M))  (a1 : Int32) (a2 : Int32) (s0 : Int32) (s1 : Int32) (m : ev_M)  (hkt67 : ∀ (e2 : Int32) (em : ev_M), Ev ev_eI l Ln xs YX12_isImage d Sx 67 [some (.ref 112), some (.int a1), some (.int e2)] [] em (kt67 e2 em)) (hd : 1 ≤ d) : Ev ev_eI l Ln xs YX12_isImage d Sx 98 [some (.ref 112), some (.int a1), some (.int a2)] [.int s1, .int s0] m (FX12_isImage_J98 f kt67 a2 s0 s1 m) := by
  unfold FX12_isImage_J98
  refine Ev.ic_le (t := 103) (by decide +kernel) ?_ ?_
  · refine Ev.run (pc' := 106) (ls' := [some (.ref 112), some (.int a1), some (.int (a2 + 1))]) (st' := []) (m' := m) [(.iinc 2 1, 0, 0, 1, 0)] (by decide +kernel) rfl ?_
    refine Ev.gto (t := 67) (by decide +kernel) ?_
    exact hkt67 _ _
  · refine Ev.run (pc' := 102) (ls' := [some (.ref 112), some (.int a1), some (.int a2)]) (st' := [.int 0]) (m' := m) [(.iconst 0, 0, 0, 0, 0)] (by decide +kernel) rfl ?_
    exact Ev.iretz rfl rfl (by decide +kernel) (by decide)
set_option maxRecDepth 100000 in
set_option maxHeartbeats 4000000 in
theorem EX12_isImage_J96 {l : Launch} {Ln : Nat} {xs : Nat → Int32} {d : Nat} (f : Nat) (kt67 : Int32 → ev_M → Option (Int32 × ev_M))  (a1 : Int32) (a2 : Int32) (s0 : Int32) (m : ev_M)  (hkt67 : ∀ (e2 : Int32) (em : ev_M), Ev ev_eI l Ln xs YX12_isImage d Sx 67 [some (.ref 112), some (.int a1), some (.int e2)] [] em (kt67 e2 em)) (hd : 1 ≤ d) : Ev ev_eI l Ln xs YX12_isImage d Sx 96 [some (.ref 112), some (.int a1), some (.int a2)] [.int s0] m (FX12_isImage_J96 f kt67 a2 s0 m) := by
  unfold FX12_isImage_J96
  refine Ev.run (pc' := 98) (ls' := [some (.ref 112), some (.int a1), some (.int a2)]) (st' := [.int 9, .int s0]) (m' := m) [(.bipush 9, 0, 0, 9, 0)] (by decide +kernel) rfl ?_
  exact EX12_isImage_J98 f kt67 a1 a2 s0 (9 : Int32) m hkt67 (by omega)
set_option maxRecDepth 100000 in
set_option maxHeartbeats 4000000 in
theorem EX12_isImage_L67 {l : Launch} {Ln : Nat} {xs : Nat → Int32} {d : Nat} (f : Nat) (k : ev_M → Option (Int32 × ev_M))  (a1 : Int32)   (hk : ∀  (em : ev_M), Ev ev_eI l Ln xs YX12_isImage d Sx 109 [none, none, none] [] em (k em)) (hd : 1 ≤ d) : ∀ (n : Nat) (a2 : Int32) (m : ev_M), Ev ev_eI l Ln xs YX12_isImage d Sx 67 [some (.ref 112), some (.int a1), some (.int a2)] [] m (FX12_isImage_L67 f k a1 n a2 m) := by
  intro n
  induction n with
  | zero => intros; exact Ev.nn
  | succ n ih =>
    intro a2 m
    rw [FX12_isImage_L67]
    refine Ev.run (pc' := 71) (ls' := [some (.ref 112), some (.int a1), some (.int a2)]) (st' := [.int (a1 - 1), .int a2]) (m' := m) [(.iload_n 2, 0, 0, 0, 0), (.iload_n 1, 0, 0, 0, 0), (.iconst 1, 0, 0, 1, 0), (.isub, 0, 0, 0, 0)] (by decide +kernel) rfl ?_
    refine Ev.ic_ge (t := 109) (by decide +kernel) ?_ ?_
    · refine Ev.le (ls' := [none, none, none]) trivial ?_
      exact hk _
    · refine Ev.run (pc' := 79) (ls' := [some (.ref 112), some (.int a1), some (.int a2)]) (st' := [.int a2, .ref 113]) (m' := m) [(.aload_n 0, 0, 0, 0, 0), (.getfield 7, 12, 0, 0, 0), (.iload_n 2, 0, 0, 0, 0)] (by decide +kernel) rfl ?_
      refine Ev.iald (n := 1600) (by decide +kernel) (by decide) rfl ?_
      refine Ev.run (pc' := 82) (ls' := [some (.ref 112), some (.int a1), some (.int a2)]) (st' := [.int 2, .int a2, .int (m.1 113 a2.toNatClampNeg)]) (m' := m) [(.iload_n 2, 0, 0, 0, 0), (.iconst 2, 0, 0, 2, 0)] (by decide +kernel) rfl ?_
      refine Ev.ic_le (t := 96) (by decide +kernel) ?_ ?_
      · exact EX12_isImage_J96 f (FX12_isImage_L67 f k a1 n) a1 a2 (m.1 113 a2.toNatClampNeg) m ih (by omega)
      · refine Ev.run (pc' := 87) (ls' := [some (.ref 112), some (.int a1), some (.int a2)]) (st' := [.int 3, .int a2, .int (m.1 113 a2.toNatClampNeg)]) (m' := m) [(.iload_n 2, 0, 0, 0, 0), (.iconst 3, 0, 0, 3, 0)] (by decide +kernel) rfl ?_
        refine Ev.irem' (by decide +kernel) (by decide) ?_
        refine Ev.run (pc' := 89) (ls' := [some (.ref 112), some (.int a1), some (.int a2)]) (st' := [.int 2, .int (a2 - a2 / 3 * 3), .int (m.1 113 a2.toNatClampNeg)]) (m' := m) [(.iconst 2, 0, 0, 2, 0)] (by decide +kernel) rfl ?_
        refine Ev.ic_ne (t := 96) (by decide +kernel) ?_ ?_
        · exact EX12_isImage_J96 f (FX12_isImage_L67 f k a1 n) a1 a2 (m.1 113 a2.toNatClampNeg) m ih (by omega)
        · refine Ev.run (pc' := 93) (ls' := [some (.ref 112), some (.int a1), some (.int a2)]) (st' := [.int 1, .int (m.1 113 a2.toNatClampNeg)]) (m' := m) [(.iconst 1, 0, 0, 1, 0)] (by decide +kernel) rfl ?_
          refine Ev.gto (t := 98) (by decide +kernel) ?_
          exact EX12_isImage_J98 f (FX12_isImage_L67 f k a1 n) a1 a2 (m.1 113 a2.toNatClampNeg) (1 : Int32) m ih (by omega)
set_option maxRecDepth 100000 in
set_option maxHeartbeats 4000000 in
theorem EX12_isImage {l : Launch} {Ln : Nat} {xs : Nat → Int32} {d : Nat} (f : Nat) (a1 : Int32) (m : ev_M)  (hd : 1 ≤ d) : Mv ev_eI l Ln xs YX12_isImage d Sx [.ref 112, .int a1] m (FX12_isImage f a1 m) := by
  refine Mv.of (by decide +kernel) rfl (Nat.le_of_ble_eq_true rfl) (Ev.le (ls' := [some (.ref 112), some (.int a1), none]) ⟨rfl, ⟨rfl, trivial⟩⟩ ?_)
  unfold FX12_isImage
  refine Ev.run (pc' := 4) (ls' := [some (.ref 112), some (.int a1), none]) (st' := [.int (m.1 112 45)]) (m' := m) [(.aload_n 0, 0, 0, 0, 0), (.getfield 356, 12, 45, 0, 0)] (by decide +kernel) rfl ?_
  refine Ev.if_eq (t := 63) (by decide +kernel) ?_ ?_
  · refine Ev.run (pc' := 64) (ls' := [some (.ref 112), some (.int a1), none]) (st' := [.int 0]) (m' := m) [(.iconst 0, 0, 0, 0, 0)] (by decide +kernel) rfl ?_
    exact Ev.iretz rfl rfl (by decide +kernel) (by decide)
  · refine Ev.run (pc' := 11) (ls' := [some (.ref 112), some (.int a1), none]) (st' := [.ref 112, .int 3, .int 4, .int a1]) (m' := m) [(.iload_n 1, 0, 0, 0, 0), (.iconst 4, 0, 0, 4, 0), (.iconst 3, 0, 0, 3, 0), (.aload_n 0, 0, 0, 0, 0)] (by decide +kernel) rfl ?_
    refine Ev.cV (av := []) (st := [.int 3, .int 4, .int a1]) (a := 112) (EX12_towerMany (l := l) (Ln := Ln) (xs := xs) (d := 0) f m (by decide)) rfl (by decide +kernel) mwX12_towerMany iwX12_towerMany vwX12_towerMany lk_12_369 (by omega) (by decide) rfl (by decide) rfl rfl (Nat.le_of_ble_eq_true rfl) (fun r1 m2 => ?_)
    refine Ev.run (pc' := 16) (ls' := [some (.ref 112), some (.int a1), none]) (st' := [.int (4 + (3 * r1)), .int a1]) (m' := m2) [(.imul, 0, 0, 0, 0), (.iadd, 0, 0, 0, 0)] (by decide +kernel) rfl ?_
    refine Ev.ic_ne (t := 63) (by decide +kernel) ?_ ?_
    · refine Ev.run (pc' := 64) (ls' := [some (.ref 112), some (.int a1), none]) (st' := [.int 0]) (m' := m2) [(.iconst 0, 0, 0, 0, 0)] (by decide +kernel) rfl ?_
      exact Ev.iretz rfl rfl (by decide +kernel) (by decide)
    · refine Ev.run (pc' := 26) (ls' := [some (.ref 112), some (.int a1), none]) (st' := [.int (a1 - 1), .ref 113]) (m' := m2) [(.aload_n 0, 0, 0, 0, 0), (.getfield 7, 12, 0, 0, 0), (.iload_n 1, 0, 0, 0, 0), (.iconst 1, 0, 0, 1, 0), (.isub, 0, 0, 0, 0)] (by decide +kernel) rfl ?_
      refine Ev.iald (n := 1600) (by decide +kernel) (by decide) rfl ?_
      refine Ev.run (pc' := 34) (ls' := [some (.ref 112), some (.int a1), none]) (st' := [.int (a1 - 1), .ref 113, .int (m2.1 113 (a1 - 1).toNatClampNeg)]) (m' := m2) [(.aload_n 0, 0, 0, 0, 0), (.getfield 7, 12, 0, 0, 0), (.iload_n 1, 0, 0, 0, 0), (.iconst 1, 0, 0, 1, 0), (.isub, 0, 0, 0, 0)] (by decide +kernel) rfl ?_
      refine Ev.cS (av := [.ref 113, .int (a1 - 1)]) (st := [.int (m2.1 113 (a1 - 1).toNatClampNeg)]) (EX12_checked (l := l) (Ln := Ln) (xs := xs) (d := 0) f 113 (a1 - 1) m2 (by decide) (by decide)) rfl (by decide +kernel) mwX12_checked swX12_checked lk_12_654 (by omega) rfl (Nat.le_of_ble_eq_true rfl) (fun r3 m4 => ?_)
      refine Ev.ic_ne (t := 63) (by decide +kernel) ?_ ?_
      · refine Ev.run (pc' := 64) (ls' := [some (.ref 112), some (.int a1), none]) (st' := [.int 0]) (m' := m4) [(.iconst 0, 0, 0, 0, 0)] (by decide +kernel) rfl ?_
        exact Ev.iretz rfl rfl (by decide +kernel) (by decide)
      · refine Ev.run (pc' := 48) (ls' := [some (.ref 112), some (.int a1), none]) (st' := [.int 0, .ref 113, .int 256]) (m' := m4) [(.sipush 256, 0, 0, 256, 0), (.aload_n 0, 0, 0, 0, 0), (.getfield 7, 12, 0, 0, 0), (.iconst 0, 0, 0, 0, 0)] (by decide +kernel) rfl ?_
        refine Ev.ialdK (n := 1600) (j := 0) (by decide +kernel) (by decide) rfl rfl (by decide) ?_
        refine Ev.run (pc' := 55) (ls' := [some (.ref 112), some (.int a1), none]) (st' := [.int 1, .ref 113, .int (256 * (m4.1 113 0))]) (m' := m4) [(.imul, 0, 0, 0, 0), (.aload_n 0, 0, 0, 0, 0), (.getfield 7, 12, 0, 0, 0), (.iconst 1, 0, 0, 1, 0)] (by decide +kernel) rfl ?_
        refine Ev.ialdK (n := 1600) (j := 1) (by decide +kernel) (by decide) rfl rfl (by decide) ?_
        refine Ev.run (pc' := 60) (ls' := [some (.ref 112), some (.int a1), none]) (st' := [.int 999, .int ((256 * (m4.1 113 0)) + (m4.1 113 1))]) (m' := m4) [(.iadd, 0, 0, 0, 0), (.sipush 999, 0, 0, 999, 0)] (by decide +kernel) rfl ?_
        refine Ev.ic_le (t := 65) (by decide +kernel) ?_ ?_
        · refine Ev.run (pc' := 67) (ls' := [some (.ref 112), some (.int a1), some (.int 2)]) (st' := []) (m' := m4) [(.iconst 2, 0, 0, 2, 0), (.istore_n 2, 0, 0, 0, 0)] (by decide +kernel) rfl ?_
          refine EX12_isImage_L67 f _ a1 ?_ (by omega) _ _ _
          intro m5
          refine Ev.run (pc' := 110) (ls' := [none, none, none]) (st' := [.int 1]) (m' := m5) [(.iconst 1, 0, 0, 1, 0)] (by decide +kernel) rfl ?_
          exact Ev.iretz rfl rfl (by decide +kernel) (by decide)
        · refine Ev.run (pc' := 64) (ls' := [some (.ref 112), some (.int a1), none]) (st' := [.int 0]) (m' := m4) [(.iconst 0, 0, 0, 0, 0)] (by decide +kernel) rfl ?_
          exact Ev.iretz rfl rfl (by decide +kernel) (by decide)
def FX12_on_L67 (f : Nat) (k : ev_M → Option (Int32 × ev_M))   : Nat → Int32 → ev_M → Option (Int32 × ev_M)
  | 0, _, _ => none
  | n + 1, a2, m => (ev_bd (FX12_towerMany f m) (fun r3 m4 => (if (3 * r3) ≤ a2 then (k m4) else (if ev_in (3 + a2) 1600 then (if ev_in (2 + a2) 147 then (FX12_on_L67 f k n (a2 + 1) ((ev_up m4.1 144 (2 + a2).toNatClampNeg (m4.1 113 (3 + a2).toNatClampNeg)), m4.2)) else none) else none))))
def FX12_on (f : Nat)  (m : ev_M) : Option (Int32 × ev_M) :=
  (ev_bd (FX12_isImage f (m.1 112 1) ((ev_up m.1 112 1 0), m.2)) (fun r1 m2 => (if r1 = 0 then some (0, ((ev_up m2.1 114 5 ((m2.1 114 5) + 1)), m2.2)) else (FX12_on_L67 f (fun m5 => some (1, ((ev_up (ev_up m5.1 144 26 0) 112 64 0), m5.2))) f (0 : Int32) ((ev_up (ev_up m2.1 144 0 ((256 * (m2.1 113 0)) + (m2.1 113 1))) 144 1 (m2.1 113 2)), m2.2)))))
set_option maxRecDepth 100000 in
set_option maxHeartbeats 4000000 in
theorem EX12_on_L67 {l : Launch} {Ln : Nat} {xs : Nat → Int32} {d : Nat} (f : Nat) (k : ev_M → Option (Int32 × ev_M))     (hk : ∀  (em : ev_M), Ev ev_eI l Ln xs YX12_on d Sx 99 [some (.ref 112), none, none] [] em (k em)) (hd : 2 ≤ d) : ∀ (n : Nat) (a2 : Int32) (m : ev_M), Ev ev_eI l Ln xs YX12_on d Sx 67 [some (.ref 112), none, some (.int a2)] [] m (FX12_on_L67 f k n a2 m) := by
  intro n
  induction n with
  | zero => intros; exact Ev.nn
  | succ n ih =>
    intro a2 m
    rw [FX12_on_L67]
    refine Ev.run (pc' := 70) (ls' := [some (.ref 112), none, some (.int a2)]) (st' := [.ref 112, .int 3, .int a2]) (m' := m) [(.iload_n 2, 0, 0, 0, 0), (.iconst 3, 0, 0, 3, 0), (.aload_n 0, 0, 0, 0, 0)] (by decide +kernel) rfl ?_
    refine Ev.cV (av := []) (st := [.int 3, .int a2]) (a := 112) (EX12_towerMany (l := l) (Ln := Ln) (xs := xs) (d := 0) f m (by decide)) rfl (by decide +kernel) mwX12_towerMany iwX12_towerMany vwX12_towerMany lk_12_369 (by omega) (by decide) rfl (by decide) rfl rfl (Nat.le_of_ble_eq_true rfl) (fun r3 m4 => ?_)
    refine Ev.run (pc' := 74) (ls' := [some (.ref 112), none, some (.int a2)]) (st' := [.int (3 * r3), .int a2]) (m' := m4) [(.imul, 0, 0, 0, 0)] (by decide +kernel) rfl ?_
    refine Ev.ic_ge (t := 99) (by decide +kernel) ?_ ?_
    · refine Ev.le (ls' := [some (.ref 112), none, none]) ⟨rfl, trivial⟩ ?_
      exact hk _
    · refine Ev.run (pc' := 91) (ls' := [some (.ref 112), none, some (.int a2)]) (st' := [.int (3 + a2), .ref 113, .int (2 + a2), .ref 144]) (m' := m4) [(.aload_n 0, 0, 0, 0, 0), (.getfield 109, 12, 47, 0, 0), (.iconst 2, 0, 0, 2, 0), (.iload_n 2, 0, 0, 0, 0), (.iadd, 0, 0, 0, 0), (.aload_n 0, 0, 0, 0, 0), (.getfield 7, 12, 0, 0, 0), (.iconst 3, 0, 0, 3, 0), (.iload_n 2, 0, 0, 0, 0), (.iadd, 0, 0, 0, 0)] (by decide +kernel) rfl ?_
      refine Ev.iald (n := 1600) (by decide +kernel) (by decide) rfl ?_
      refine Ev.iast (n := 147) (by decide +kernel) (by decide) rfl ?_
      refine Ev.run (pc' := 96) (ls' := [some (.ref 112), none, some (.int (a2 + 1))]) (st' := []) (m' := ((ev_up m4.1 144 (2 + a2).toNatClampNeg (m4.1 113 (3 + a2).toNatClampNeg)), m4.2)) [(.iinc 2 1, 0, 0, 1, 0)] (by decide +kernel) rfl ?_
      refine Ev.gto (t := 67) (by decide +kernel) ?_
      exact ih _ _
set_option maxRecDepth 100000 in
set_option maxHeartbeats 4000000 in
theorem EX12_on {l : Launch} {Ln : Nat} {xs : Nat → Int32} {d : Nat} (f : Nat)  (m : ev_M)  (hd : 2 ≤ d) : Mv ev_eI l Ln xs YX12_on d Sx [.ref 112] m (FX12_on f  m) := by
  refine Mv.of (by decide +kernel) rfl (Nat.le_of_ble_eq_true rfl) (Ev.le (ls' := [some (.ref 112), none, none]) ⟨rfl, trivial⟩ ?_)
  unfold FX12_on
  refine Ev.run (pc' := 12) (ls' := [some (.ref 112), some (.int (m.1 112 1)), none]) (st' := [.int (m.1 112 1), .ref 112]) (m' := ((ev_up m.1 112 1 0), m.2)) [(.aload_n 0, 0, 0, 0, 0), (.getfield 225, 12, 1, 0, 0), (.istore_n 1, 0, 0, 0, 0), (.aload_n 0, 0, 0, 0, 0), (.iconst 0, 0, 0, 0, 0), (.putfield 225, 12, 1, 0, 0), (.aload_n 0, 0, 0, 0, 0), (.iload_n 1, 0, 0, 0, 0)] (by decide +kernel) rfl ?_
  refine Ev.cV (av := [.int (m.1 112 1)]) (st := []) (a := 112) (EX12_isImage (l := l) (Ln := Ln) (xs := xs) (d := 1) f (m.1 112 1) ((ev_up m.1 112 1 0), m.2) (by decide)) rfl (by decide +kernel) mwX12_isImage iwX12_isImage vwX12_isImage lk_12_658 (by omega) (by decide) rfl (by decide) rfl rfl (Nat.le_of_ble_eq_true rfl) (fun r1 m2 => ?_)
  refine Ev.if_ne (t := 30) (by decide +kernel) ?_ ?_
  · refine Ev.run (pc' := 43) (ls' := [some (.ref 112), some (.int (m.1 112 1)), none]) (st' := [.int 0, .ref 113, .int 256, .int 0, .ref 144]) (m' := m2) [(.aload_n 0, 0, 0, 0, 0), (.getfield 109, 12, 47, 0, 0), (.iconst 0, 0, 0, 0, 0), (.sipush 256, 0, 0, 256, 0), (.aload_n 0, 0, 0, 0, 0), (.getfield 7, 12, 0, 0, 0), (.iconst 0, 0, 0, 0, 0)] (by decide +kernel) rfl ?_
    refine Ev.ialdK (n := 1600) (j := 0) (by decide +kernel) (by decide) rfl rfl (by decide) ?_
    refine Ev.run (pc' := 50) (ls' := [some (.ref 112), some (.int (m.1 112 1)), none]) (st' := [.int 1, .ref 113, .int (256 * (m2.1 113 0)), .int 0, .ref 144]) (m' := m2) [(.imul, 0, 0, 0, 0), (.aload_n 0, 0, 0, 0, 0), (.getfield 7, 12, 0, 0, 0), (.iconst 1, 0, 0, 1, 0)] (by decide +kernel) rfl ?_
    refine Ev.ialdK (n := 1600) (j := 1) (by decide +kernel) (by decide) rfl rfl (by decide) ?_
    refine Ev.run (pc' := 52) (ls' := [some (.ref 112), some (.int (m.1 112 1)), none]) (st' := [.int ((256 * (m2.1 113 0)) + (m2.1 113 1)), .int 0, .ref 144]) (m' := m2) [(.iadd, 0, 0, 0, 0)] (by decide +kernel) rfl ?_
    refine Ev.iastK (n := 147) (j := 0) (by decide +kernel) (by decide) rfl rfl (by decide) ?_
    refine Ev.run (pc' := 63) (ls' := [some (.ref 112), some (.int (m.1 112 1)), none]) (st' := [.int 2, .ref 113, .int 1, .ref 144]) (m' := ((ev_up m2.1 144 0 ((256 * (m2.1 113 0)) + (m2.1 113 1))), m2.2)) [(.aload_n 0, 0, 0, 0, 0), (.getfield 109, 12, 47, 0, 0), (.iconst 1, 0, 0, 1, 0), (.aload_n 0, 0, 0, 0, 0), (.getfield 7, 12, 0, 0, 0), (.iconst 2, 0, 0, 2, 0)] (by decide +kernel) rfl ?_
    refine Ev.ialdK (n := 1600) (j := 2) (by decide +kernel) (by decide) rfl rfl (by decide) ?_
    refine Ev.iastK (n := 147) (j := 1) (by decide +kernel) (by decide) rfl rfl (by decide) ?_
    refine Ev.run (pc' := 67) (ls' := [some (.ref 112), some (.int (m.1 112 1)), some (.int 0)]) (st' := []) (m' := ((ev_up (ev_up m2.1 144 0 ((256 * (m2.1 113 0)) + (m2.1 113 1))) 144 1 (m2.1 113 2)), m2.2)) [(.iconst 0, 0, 0, 0, 0), (.istore_n 2, 0, 0, 0, 0)] (by decide +kernel) rfl ?_
    refine Ev.le (ls' := [some (.ref 112), none, some (.int 0)]) ⟨rfl, ⟨rfl, trivial⟩⟩ ?_
    refine EX12_on_L67 f _ ?_ (by omega) _ _ _
    intro m5
    refine Ev.run (pc' := 106) (ls' := [some (.ref 112), none, none]) (st' := [.int 0, .int 26, .ref 144]) (m' := m5) [(.aload_n 0, 0, 0, 0, 0), (.getfield 109, 12, 47, 0, 0), (.bipush 26, 0, 0, 26, 0), (.iconst 0, 0, 0, 0, 0)] (by decide +kernel) rfl ?_
    refine Ev.iastK (n := 147) (j := 26) (by decide +kernel) (by decide) rfl rfl (by decide) ?_
    refine Ev.run (pc' := 113) (ls' := [some (.ref 112), none, none]) (st' := [.int 1]) (m' := ((ev_up (ev_up m5.1 144 26 0) 112 64 0), m5.2)) [(.aload_n 0, 0, 0, 0, 0), (.iconst 0, 0, 0, 0, 0), (.putfield 363, 12, 64, 0, 0), (.iconst 1, 0, 0, 1, 0)] (by decide +kernel) rfl ?_
    exact Ev.iretz rfl rfl (by decide +kernel) (by decide)
  · refine Ev.run (pc' := 24) (ls' := [some (.ref 112), some (.int (m.1 112 1)), none]) (st' := [.int 5, .ref 114, .int 5, .ref 114]) (m' := m2) [(.aload_n 0, 0, 0, 0, 0), (.getfield 17, 12, 9, 0, 0), (.iconst 5, 0, 0, 5, 0), (.dup2, 0, 0, 0, 0)] (by decide +kernel) rfl ?_
    refine Ev.ialdK (n := 6) (j := 5) (by decide +kernel) (by decide) rfl rfl (by decide) ?_
    refine Ev.run (pc' := 27) (ls' := [some (.ref 112), some (.int (m.1 112 1)), none]) (st' := [.int ((m2.1 114 5) + 1), .int 5, .ref 114]) (m' := m2) [(.iconst 1, 0, 0, 1, 0), (.iadd, 0, 0, 0, 0)] (by decide +kernel) rfl ?_
    refine Ev.iastK (n := 6) (j := 5) (by decide +kernel) (by decide) rfl rfl (by decide) ?_
    refine Ev.run (pc' := 29) (ls' := [some (.ref 112), some (.int (m.1 112 1)), none]) (st' := [.int 0]) (m' := ((ev_up m2.1 114 5 ((m2.1 114 5) + 1)), m2.2)) [(.iconst 0, 0, 0, 0, 0)] (by decide +kernel) rfl ?_
    exact Ev.iretz rfl rfl (by decide +kernel) (by decide)
def FX12_status (f : Nat) (a1 : Int32) (m : ev_M) : Option (Int32 × ev_M) :=
  (ev_bd (FX12_isIn f (a1 : Int32).toInt64 (0 : Int64) (5 : Int64) m) (fun r1 m2 => (if r1 = 0 then some ((-1), m2) else (if ev_in a1 6 then some ((m2.1 114 a1.toNatClampNeg), m2) else none))))
set_option maxRecDepth 100000 in
set_option maxHeartbeats 4000000 in
theorem EX12_status {l : Launch} {Ln : Nat} {xs : Nat → Int32} {d : Nat} (f : Nat) (a1 : Int32) (m : ev_M)  (hd : 1 ≤ d) : Mv ev_eI l Ln xs YX12_status d Sx [.ref 112, .int a1] m (FX12_status f a1 m) := by
  refine Mv.of (by decide +kernel) rfl (Nat.le_of_ble_eq_true rfl) (Ev.le (ls' := [some (.ref 112), some (.int a1)]) ⟨rfl, ⟨rfl, trivial⟩⟩ ?_)
  unfold FX12_status
  refine Ev.run (pc' := 6) (ls' := [some (.ref 112), some (.int a1)]) (st' := [.long 5, .long 0, .long (a1 : Int32).toInt64]) (m' := m) [(.iload_n 1, 0, 0, 0, 0), (.i2l, 0, 0, 0, 0), (.lconst 0, 0, 0, 0, 0), (.ldc2_w 458, 0, 0, 0, 5)] (by decide +kernel) rfl ?_
  refine Ev.cS (av := [.long (a1 : Int32).toInt64, .long 0, .long 5]) (st := []) (EX12_isIn (l := l) (Ln := Ln) (xs := xs) (d := 0) f (a1 : Int32).toInt64 (0 : Int64) (5 : Int64) m (by decide)) rfl (by decide +kernel) mwX12_isIn swX12_isIn lk_12_268 (by omega) rfl (Nat.le_of_ble_eq_true rfl) (fun r1 m2 => ?_)
  refine Ev.if_eq (t := 21) (by decide +kernel) ?_ ?_
  · refine Ev.run (pc' := 22) (ls' := [some (.ref 112), some (.int a1)]) (st' := [.int (-1)]) (m' := m2) [(.iconst (-1), 0, 0, (-1), 0)] (by decide +kernel) rfl ?_
    exact Ev.ireti rfl rfl (by decide +kernel)
  · refine Ev.run (pc' := 17) (ls' := [some (.ref 112), some (.int a1)]) (st' := [.int a1, .ref 114]) (m' := m2) [(.aload_n 0, 0, 0, 0, 0), (.getfield 17, 12, 9, 0, 0), (.iload_n 1, 0, 0, 0, 0)] (by decide +kernel) rfl ?_
    refine Ev.iald (n := 6) (by decide +kernel) (by decide) rfl ?_
    refine Ev.gto (t := 22) (by decide +kernel) ?_
    exact Ev.ireti rfl rfl (by decide +kernel)
def FX12_codesTold_L80 (f : Nat) (k : ev_M → Option (Unit × ev_M))   : Nat → Int32 → ev_M → Option (Unit × ev_M)
  | 0, _, _ => none
  | n + 1, a3, m => (if (m.1 112 93) ≤ a3 then (k m) else (if ev_in a3 1700 then (if ev_in (m.1 112 43) 3200 then (FX12_codesTold_L80 f k n (a3 + 1) ((ev_up (ev_up m.1 143 (m.1 112 43).toNatClampNeg (m.1 177 a3.toNatClampNeg)) 112 43 ((m.1 112 43) + 1)), m.2)) else none) else none))
def FX12_codesTold_J23 (f : Nat)   (a1 : Int32)  (m : ev_M) : Option (Unit × ev_M) :=
  (if (m.1 112 5) = 0 then (ev_bd (FX12_qSums f ((ev_up (ev_up (ev_up (ev_up (ev_up m.1 112 46 a1) 112 93 0) 112 95 0) 112 96 0) 112 97 0), m.2)) (fun _ m2 => (if (m2.1 112 5) = 0 then (if ev_in a1 4 then (FX12_codesTold_L80 f (fun m3 => (if ev_in a1 4 then some ((), ((ev_up m3.1 142 a1.toNatClampNeg (m3.1 112 43)), m3.2)) else none)) f (0 : Int32) ((ev_up m2.1 141 a1.toNatClampNeg (m2.1 112 43)), m2.2)) else none) else some ((), m2)))) else some ((), m))
def FX12_codesTold (f : Nat) (a1 : Int32) (a2 : Int32) (m : ev_M) : Option (Unit × ev_M) :=
  (if (m.1 112 5) = 0 then (if ev_in a1 4 then (if (m.1 141 a1.toNatClampNeg) = (-1) then (FX12_codesTold_J23 f a1 m) else (ev_bd (FX12_fail f (5 : Int32) a2 m) (fun _ m5 => (FX12_codesTold_J23 f a1 m5)))) else none) else (FX12_codesTold_J23 f a1 m))
set_option maxRecDepth 100000 in
set_option maxHeartbeats 4000000 in
theorem EX12_codesTold_L80 {l : Launch} {Ln : Nat} {xs : Nat → Int32} {d : Nat} (f : Nat) (k : ev_M → Option (Unit × ev_M))  (a1 : Int32)   (hk : ∀  (em : ev_M), Ev ev_eV l Ln xs YX12_codesTold d Sx 119 [some (.ref 112), some (.int a1), none, none] [] em (k em)) (hd : 7 ≤ d) : ∀ (n : Nat) (a3 : Int32) (m : ev_M), Ev ev_eV l Ln xs YX12_codesTold d Sx 80 [some (.ref 112), some (.int a1), none, some (.int a3)] [] m (FX12_codesTold_L80 f k n a3 m) := by
  intro n
  induction n with
  | zero => intros; exact Ev.nn
  | succ n ih =>
    intro a3 m
    rw [FX12_codesTold_L80]
    refine Ev.run (pc' := 85) (ls' := [some (.ref 112), some (.int a1), none, some (.int a3)]) (st' := [.int (m.1 112 93), .int a3]) (m' := m) [(.iload_n 3, 0, 0, 0, 0), (.aload_n 0, 0, 0, 0, 0), (.getfield 314, 12, 93, 0, 0)] (by decide +kernel) rfl ?_
    refine Ev.ic_ge (t := 119) (by decide +kernel) ?_ ?_
    · refine Ev.le (ls' := [some (.ref 112), some (.int a1), none, none]) ⟨rfl, ⟨rfl, trivial⟩⟩ ?_
      exact hk _
    · refine Ev.run (pc' := 101) (ls' := [some (.ref 112), some (.int a1), none, some (.int a3)]) (st' := [.int a3, .ref 177, .int (m.1 112 43), .ref 143]) (m' := m) [(.aload_n 0, 0, 0, 0, 0), (.getfield 106, 12, 42, 0, 0), (.aload_n 0, 0, 0, 0, 0), (.getfield 329, 12, 43, 0, 0), (.aload_n 0, 0, 0, 0, 0), (.getfield 213, 12, 92, 0, 0), (.iload_n 3, 0, 0, 0, 0)] (by decide +kernel) rfl ?_
      refine Ev.iald (n := 1700) (by decide +kernel) (by decide) rfl ?_
      refine Ev.iast (n := 3200) (by decide +kernel) (by decide) rfl ?_
      refine Ev.run (pc' := 116) (ls' := [some (.ref 112), some (.int a1), none, some (.int (a3 + 1))]) (st' := []) (m' := ((ev_up (ev_up m.1 143 (m.1 112 43).toNatClampNeg (m.1 177 a3.toNatClampNeg)) 112 43 ((m.1 112 43) + 1)), m.2)) [(.aload_n 0, 0, 0, 0, 0), (.dup, 0, 0, 0, 0), (.getfield 329, 12, 43, 0, 0), (.iconst 1, 0, 0, 1, 0), (.iadd, 0, 0, 0, 0), (.putfield 329, 12, 43, 0, 0), (.iinc 3 1, 0, 0, 1, 0)] (by decide +kernel) rfl ?_
      refine Ev.gto (t := 80) (by decide +kernel) ?_
      exact ih _ _
set_option maxRecDepth 100000 in
set_option maxHeartbeats 4000000 in
theorem EX12_codesTold_J23 {l : Launch} {Ln : Nat} {xs : Nat → Int32} {d : Nat} (f : Nat)   (a1 : Int32)  (m : ev_M)   (hd : 7 ≤ d) : Ev ev_eV l Ln xs YX12_codesTold d Sx 23 [some (.ref 112), some (.int a1), none, none] [] m (FX12_codesTold_J23 f a1 m) := by
  unfold FX12_codesTold_J23
  refine Ev.run (pc' := 27) (ls' := [some (.ref 112), some (.int a1), none, none]) (st' := [.int (m.1 112 5)]) (m' := m) [(.aload_n 0, 0, 0, 0, 0), (.getfield 228, 12, 5, 0, 0)] (by decide +kernel) rfl ?_
  refine Ev.if_eq (t := 31) (by decide +kernel) ?_ ?_
  · refine Ev.run (pc' := 57) (ls' := [some (.ref 112), some (.int a1), none, none]) (st' := [.ref 112]) (m' := ((ev_up (ev_up (ev_up (ev_up (ev_up m.1 112 46 a1) 112 93 0) 112 95 0) 112 96 0) 112 97 0), m.2)) [(.aload_n 0, 0, 0, 0, 0), (.iload_n 1, 0, 0, 0, 0), (.putfield 283, 12, 46, 0, 0), (.aload_n 0, 0, 0, 0, 0), (.iconst 0, 0, 0, 0, 0), (.putfield 314, 12, 93, 0, 0), (.aload_n 0, 0, 0, 0, 0), (.iconst 0, 0, 0, 0, 0), (.putfield 317, 12, 95, 0, 0), (.aload_n 0, 0, 0, 0, 0), (.iconst 0, 0, 0, 0, 0), (.putfield 320, 12, 96, 0, 0), (.aload_n 0, 0, 0, 0, 0), (.iconst 0, 0, 0, 0, 0), (.putfield 323, 12, 97, 0, 0), (.aload_n 0, 0, 0, 0, 0)] (by decide +kernel) rfl ?_
    refine Ev.cV (av := []) (st := []) (a := 112) (EX12_qSums (l := l) (Ln := Ln) (xs := xs) (d := 6) f ((ev_up (ev_up (ev_up (ev_up (ev_up m.1 112 46 a1) 112 93 0) 112 95 0) 112 96 0) 112 97 0), m.2) (by decide)) rfl (by decide +kernel) mwX12_qSums iwX12_qSums vwX12_qSums lk_12_326 (by omega) (by decide) rfl (by decide) rfl rfl (Nat.le_of_ble_eq_true rfl) (fun r1 m2 => ?_)
    refine Ev.run (pc' := 64) (ls' := [some (.ref 112), some (.int a1), none, none]) (st' := [.int (m2.1 112 5)]) (m' := m2) [(.aload_n 0, 0, 0, 0, 0), (.getfield 228, 12, 5, 0, 0)] (by decide +kernel) rfl ?_
    refine Ev.if_eq (t := 68) (by decide +kernel) ?_ ?_
    · refine Ev.run (pc' := 77) (ls' := [some (.ref 112), some (.int a1), none, none]) (st' := [.int (m2.1 112 43), .int a1, .ref 141]) (m' := m2) [(.aload_n 0, 0, 0, 0, 0), (.getfield 100, 12, 40, 0, 0), (.iload_n 1, 0, 0, 0, 0), (.aload_n 0, 0, 0, 0, 0), (.getfield 329, 12, 43, 0, 0)] (by decide +kernel) rfl ?_
      refine Ev.iast (n := 4) (by decide +kernel) (by decide) rfl ?_
      refine Ev.run (pc' := 80) (ls' := [some (.ref 112), some (.int a1), none, some (.int 0)]) (st' := []) (m' := ((ev_up m2.1 141 a1.toNatClampNeg (m2.1 112 43)), m2.2)) [(.iconst 0, 0, 0, 0, 0), (.istore_n 3, 0, 0, 0, 0)] (by decide +kernel) rfl ?_
      refine EX12_codesTold_L80 f _ a1 ?_ (by omega) _ _ _
      intro m3
      refine Ev.run (pc' := 128) (ls' := [some (.ref 112), some (.int a1), none, none]) (st' := [.int (m3.1 112 43), .int a1, .ref 142]) (m' := m3) [(.aload_n 0, 0, 0, 0, 0), (.getfield 103, 12, 41, 0, 0), (.iload_n 1, 0, 0, 0, 0), (.aload_n 0, 0, 0, 0, 0), (.getfield 329, 12, 43, 0, 0)] (by decide +kernel) rfl ?_
      refine Ev.iast (n := 4) (by decide +kernel) (by decide) rfl ?_
      exact Ev.retv rfl rfl (by decide +kernel)
    · exact Ev.retv rfl rfl (by decide +kernel)
  · exact Ev.retv rfl rfl (by decide +kernel)
set_option maxRecDepth 100000 in
set_option maxHeartbeats 4000000 in
theorem EX12_codesTold {l : Launch} {Ln : Nat} {xs : Nat → Int32} {d : Nat} (f : Nat) (a1 : Int32) (a2 : Int32) (m : ev_M)  (hd : 7 ≤ d) : Mv ev_eV l Ln xs YX12_codesTold d Sx [.ref 112, .int a1, .int a2] m (FX12_codesTold f a1 a2 m) := by
  refine Mv.of (by decide +kernel) rfl (Nat.le_of_ble_eq_true rfl) (Ev.le (ls' := [some (.ref 112), some (.int a1), some (.int a2), none]) ⟨rfl, ⟨rfl, ⟨rfl, trivial⟩⟩⟩ ?_)
  unfold FX12_codesTold
  refine Ev.run (pc' := 4) (ls' := [some (.ref 112), some (.int a1), some (.int a2), none]) (st' := [.int (m.1 112 5)]) (m' := m) [(.aload_n 0, 0, 0, 0, 0), (.getfield 228, 12, 5, 0, 0)] (by decide +kernel) rfl ?_
  refine Ev.if_ne (t := 23) (by decide +kernel) ?_ ?_
  · refine Ev.le (ls' := [some (.ref 112), some (.int a1), none, none]) ⟨rfl, ⟨rfl, trivial⟩⟩ ?_
    exact EX12_codesTold_J23 f a1 m (by omega)
  · refine Ev.run (pc' := 12) (ls' := [some (.ref 112), some (.int a1), some (.int a2), none]) (st' := [.int a1, .ref 141]) (m' := m) [(.aload_n 0, 0, 0, 0, 0), (.getfield 100, 12, 40, 0, 0), (.iload_n 1, 0, 0, 0, 0)] (by decide +kernel) rfl ?_
    refine Ev.iald (n := 4) (by decide +kernel) (by decide) rfl ?_
    refine Ev.run (pc' := 14) (ls' := [some (.ref 112), some (.int a1), some (.int a2), none]) (st' := [.int (-1), .int (m.1 141 a1.toNatClampNeg)]) (m' := m) [(.iconst (-1), 0, 0, (-1), 0)] (by decide +kernel) rfl ?_
    refine Ev.ic_eq (t := 23) (by decide +kernel) ?_ ?_
    · refine Ev.le (ls' := [some (.ref 112), some (.int a1), none, none]) ⟨rfl, ⟨rfl, trivial⟩⟩ ?_
      exact EX12_codesTold_J23 f a1 m (by omega)
    · refine Ev.run (pc' := 20) (ls' := [some (.ref 112), some (.int a1), some (.int a2), none]) (st' := [.int a2, .int 5, .ref 112]) (m' := m) [(.aload_n 0, 0, 0, 0, 0), (.iconst 5, 0, 0, 5, 0), (.iload_n 2, 0, 0, 0, 0)] (by decide +kernel) rfl ?_
      refine Ev.cV (av := [.int 5, .int a2]) (st := []) (a := 112) (EX12_fail (l := l) (Ln := Ln) (xs := xs) (d := 0) f (5 : Int32) a2 m (by decide)) rfl (by decide +kernel) mwX12_fail iwX12_fail vwX12_fail lk_12_258 (by omega) (by decide) rfl (by decide) rfl rfl (Nat.le_of_ble_eq_true rfl) (fun r4 m5 => ?_)
      refine Ev.le (ls' := [some (.ref 112), some (.int a1), none, none]) ⟨rfl, ⟨rfl, trivial⟩⟩ ?_
      exact EX12_codesTold_J23 f a1 m5 (by omega)
def FX12_statementTold_J173 (f : Nat)     (m : ev_M) : Option (Unit × ev_M) :=
  (ev_bd (FX12_asksSign f (59 : Int32) m) (fun _ m18 => some ((), ((ev_up m18.1 112 44 ((m18.1 112 44) + 1)), m18.2))))
def FX12_statementTold (f : Nat)  (m : ev_M) : Option (Unit × ev_M) :=
  (if (m.1 112 44) = 60 then (ev_bd (FX12_fail f (5 : Int32) (m.1 112 2) m) (fun _ m32 => some ((), m32))) else (ev_bd (FX12_takes f 116 m) (fun r1 m2 => (if r1 = 0 then (ev_bd (FX12_takes f 119 m2) (fun r3 m4 => (if r3 = 0 then (ev_bd (FX12_takes f 120 m4) (fun r5 m6 => (if r5 = 0 then (ev_bd (FX12_takes f 121 m6) (fun r7 m8 => (if r7 = 0 then (ev_bd (FX12_takes f 122 m8) (fun r9 m10 => (if r9 = 0 then (ev_bd (FX12_takes f 123 m10) (fun r11 m12 => (if r11 = 0 then (ev_bd (FX12_asks f 124 m12) (fun _ m14 => (ev_bd (FX12_number f (0 : Int32) (100 : Int32) m14) (fun r15 m16 => (FX12_statementTold_J173 f ((ev_up m16.1 140 2 r15), m16.2)))))) else (ev_bd (FX12_number f (1 : Int32) (8 : Int32) m12) (fun r19 m20 => (FX12_statementTold_J173 f ((ev_up m20.1 140 1 r19), m20.2))))))) else (ev_bd (FX12_number f (1 : Int32) (9 : Int32) m10) (fun r21 m22 => (FX12_statementTold_J173 f ((ev_up m22.1 140 0 r21), m22.2))))))) else (ev_bd (FX12_codesTold f (1 : Int32) (m.1 112 2) m8) (fun _ m24 => (FX12_statementTold_J173 f m24)))))) else (ev_bd (FX12_codesTold f (0 : Int32) (m.1 112 2) m6) (fun _ m26 => (FX12_statementTold_J173 f m26)))))) else (ev_bd (FX12_yesTold f m4) (fun _ m28 => (FX12_statementTold_J173 f m28)))))) else (ev_bd (FX12_towerTold f (m.1 112 2) m2) (fun _ m30 => (FX12_statementTold_J173 f m30)))))))
set_option maxRecDepth 100000 in
set_option maxHeartbeats 4000000 in
theorem EX12_statementTold_J173 {l : Launch} {Ln : Nat} {xs : Nat → Int32} {d : Nat} (f : Nat)     (m : ev_M)   (hd : 8 ≤ d) : Ev ev_eV l Ln xs YX12_statementTold d Sx 173 [some (.ref 112), none] [] m (FX12_statementTold_J173 f m) := by
  unfold FX12_statementTold_J173
  refine Ev.run (pc' := 176) (ls' := [some (.ref 112), none]) (st' := [.int 59, .ref 112]) (m' := m) [(.aload_n 0, 0, 0, 0, 0), (.bipush 59, 0, 0, 59, 0)] (by decide +kernel) rfl ?_
  refine Ev.cV (av := [.int 59]) (st := []) (a := 112) (EX12_asksSign (l := l) (Ln := Ln) (xs := xs) (d := 2) f (59 : Int32) m (by decide)) rfl (by decide +kernel) mwX12_asksSign iwX12_asksSign vwX12_asksSign lk_12_302 (by omega) (by decide) rfl (by decide) rfl rfl (Nat.le_of_ble_eq_true rfl) (fun r17 m18 => ?_)
  refine Ev.run (pc' := 189) (ls' := [some (.ref 112), none]) (st' := []) (m' := ((ev_up m18.1 112 44 ((m18.1 112 44) + 1)), m18.2)) [(.aload_n 0, 0, 0, 0, 0), (.dup, 0, 0, 0, 0), (.getfield 332, 12, 44, 0, 0), (.iconst 1, 0, 0, 1, 0), (.iadd, 0, 0, 0, 0), (.putfield 332, 12, 44, 0, 0)] (by decide +kernel) rfl ?_
  exact Ev.retv rfl rfl (by decide +kernel)
set_option maxRecDepth 100000 in
set_option maxHeartbeats 4000000 in
theorem EX12_statementTold {l : Launch} {Ln : Nat} {xs : Nat → Int32} {d : Nat} (f : Nat)  (m : ev_M)  (hd : 8 ≤ d) : Mv ev_eV l Ln xs YX12_statementTold d Sx [.ref 112] m (FX12_statementTold f  m) := by
  refine Mv.of (by decide +kernel) rfl (Nat.le_of_ble_eq_true rfl) (Ev.le (ls' := [some (.ref 112), none]) ⟨rfl, trivial⟩ ?_)
  unfold FX12_statementTold
  refine Ev.run (pc' := 11) (ls' := [some (.ref 112), some (.int (m.1 112 2))]) (st' := [.int 60, .int (m.1 112 44)]) (m' := m) [(.aload_n 0, 0, 0, 0, 0), (.getfield 234, 12, 2, 0, 0), (.istore_n 1, 0, 0, 0, 0), (.aload_n 0, 0, 0, 0, 0), (.getfield 332, 12, 44, 0, 0), (.bipush 60, 0, 0, 60, 0)] (by decide +kernel) rfl ?_
  refine Ev.ic_ne (t := 21) (by decide +kernel) ?_ ?_
  · refine Ev.run (pc' := 26) (ls' := [some (.ref 112), some (.int (m.1 112 2))]) (st' := [.ref 116, .ref 112]) (m' := m) [(.aload_n 0, 0, 0, 0, 0), (.aload_n 0, 0, 0, 0, 0), (.getfield 24, 12, 11, 0, 0)] (by decide +kernel) rfl ?_
    refine Ev.cV (av := [.ref 116]) (st := []) (a := 112) (EX12_takes (l := l) (Ln := Ln) (xs := xs) (d := 2) f 116 m (by decide) (by decide)) rfl (by decide +kernel) mwX12_takes iwX12_takes vwX12_takes lk_12_255 (by omega) (by decide) rfl (by decide) rfl rfl (Nat.le_of_ble_eq_true rfl) (fun r1 m2 => ?_)
    refine Ev.if_eq (t := 40) (by decide +kernel) ?_ ?_
    · refine Ev.run (pc' := 45) (ls' := [some (.ref 112), some (.int (m.1 112 2))]) (st' := [.ref 119, .ref 112]) (m' := m2) [(.aload_n 0, 0, 0, 0, 0), (.aload_n 0, 0, 0, 0, 0), (.getfield 33, 12, 14, 0, 0)] (by decide +kernel) rfl ?_
      refine Ev.cV (av := [.ref 119]) (st := []) (a := 112) (EX12_takes (l := l) (Ln := Ln) (xs := xs) (d := 2) f 119 m2 (by decide) (by decide)) rfl (by decide +kernel) mwX12_takes iwX12_takes vwX12_takes lk_12_255 (by omega) (by decide) rfl (by decide) rfl rfl (Nat.le_of_ble_eq_true rfl) (fun r3 m4 => ?_)
      refine Ev.if_eq (t := 58) (by decide +kernel) ?_ ?_
      · refine Ev.run (pc' := 63) (ls' := [some (.ref 112), some (.int (m.1 112 2))]) (st' := [.ref 120, .ref 112]) (m' := m4) [(.aload_n 0, 0, 0, 0, 0), (.aload_n 0, 0, 0, 0, 0), (.getfield 36, 12, 15, 0, 0)] (by decide +kernel) rfl ?_
        refine Ev.cV (av := [.ref 120]) (st := []) (a := 112) (EX12_takes (l := l) (Ln := Ln) (xs := xs) (d := 2) f 120 m4 (by decide) (by decide)) rfl (by decide +kernel) mwX12_takes iwX12_takes vwX12_takes lk_12_255 (by omega) (by decide) rfl (by decide) rfl rfl (Nat.le_of_ble_eq_true rfl) (fun r5 m6 => ?_)
        refine Ev.if_eq (t := 78) (by decide +kernel) ?_ ?_
        · refine Ev.run (pc' := 83) (ls' := [some (.ref 112), some (.int (m.1 112 2))]) (st' := [.ref 121, .ref 112]) (m' := m6) [(.aload_n 0, 0, 0, 0, 0), (.aload_n 0, 0, 0, 0, 0), (.getfield 39, 12, 16, 0, 0)] (by decide +kernel) rfl ?_
          refine Ev.cV (av := [.ref 121]) (st := []) (a := 112) (EX12_takes (l := l) (Ln := Ln) (xs := xs) (d := 2) f 121 m6 (by decide) (by decide)) rfl (by decide +kernel) mwX12_takes iwX12_takes vwX12_takes lk_12_255 (by omega) (by decide) rfl (by decide) rfl rfl (Nat.le_of_ble_eq_true rfl) (fun r7 m8 => ?_)
          refine Ev.if_eq (t := 98) (by decide +kernel) ?_ ?_
          · refine Ev.run (pc' := 103) (ls' := [some (.ref 112), some (.int (m.1 112 2))]) (st' := [.ref 122, .ref 112]) (m' := m8) [(.aload_n 0, 0, 0, 0, 0), (.aload_n 0, 0, 0, 0, 0), (.getfield 42, 12, 17, 0, 0)] (by decide +kernel) rfl ?_
            refine Ev.cV (av := [.ref 122]) (st := []) (a := 112) (EX12_takes (l := l) (Ln := Ln) (xs := xs) (d := 2) f 122 m8 (by decide) (by decide)) rfl (by decide +kernel) mwX12_takes iwX12_takes vwX12_takes lk_12_255 (by omega) (by decide) rfl (by decide) rfl rfl (Nat.le_of_ble_eq_true rfl) (fun r9 m10 => ?_)
            refine Ev.if_eq (t := 125) (by decide +kernel) ?_ ?_
            · refine Ev.run (pc' := 130) (ls' := [some (.ref 112), some (.int (m.1 112 2))]) (st' := [.ref 123, .ref 112]) (m' := m10) [(.aload_n 0, 0, 0, 0, 0), (.aload_n 0, 0, 0, 0, 0), (.getfield 45, 12, 18, 0, 0)] (by decide +kernel) rfl ?_
              refine Ev.cV (av := [.ref 123]) (st := []) (a := 112) (EX12_takes (l := l) (Ln := Ln) (xs := xs) (d := 2) f 123 m10 (by decide) (by decide)) rfl (by decide +kernel) mwX12_takes iwX12_takes vwX12_takes lk_12_255 (by omega) (by decide) rfl (by decide) rfl rfl (Nat.le_of_ble_eq_true rfl) (fun r11 m12 => ?_)
              refine Ev.if_eq (t := 152) (by decide +kernel) ?_ ?_
              · refine Ev.run (pc' := 157) (ls' := [some (.ref 112), some (.int (m.1 112 2))]) (st' := [.ref 124, .ref 112]) (m' := m12) [(.aload_n 0, 0, 0, 0, 0), (.aload_n 0, 0, 0, 0, 0), (.getfield 48, 12, 19, 0, 0)] (by decide +kernel) rfl ?_
                refine Ev.cV (av := [.ref 124]) (st := []) (a := 112) (EX12_asks (l := l) (Ln := Ln) (xs := xs) (d := 3) f 124 m12 (by decide) (by decide)) rfl (by decide +kernel) mwX12_asks iwX12_asks vwX12_asks lk_12_291 (by omega) (by decide) rfl (by decide) rfl rfl (Nat.le_of_ble_eq_true rfl) (fun r13 m14 => ?_)
                refine Ev.run (pc' := 169) (ls' := [some (.ref 112), some (.int (m.1 112 2))]) (st' := [.int 100, .int 0, .ref 112, .int 2, .ref 140]) (m' := m14) [(.aload_n 0, 0, 0, 0, 0), (.getfield 97, 12, 39, 0, 0), (.iconst 2, 0, 0, 2, 0), (.aload_n 0, 0, 0, 0, 0), (.iconst 0, 0, 0, 0, 0), (.bipush 100, 0, 0, 100, 0)] (by decide +kernel) rfl ?_
                refine Ev.cV (av := [.int 0, .int 100]) (st := [.int 2, .ref 140]) (a := 112) (EX12_number (l := l) (Ln := Ln) (xs := xs) (d := 1) f (0 : Int32) (100 : Int32) m14 (by decide)) rfl (by decide +kernel) mwX12_number iwX12_number vwX12_number lk_12_295 (by omega) (by decide) rfl (by decide) rfl rfl (Nat.le_of_ble_eq_true rfl) (fun r15 m16 => ?_)
                refine Ev.iastK (n := 6) (j := 2) (by decide +kernel) (by decide) rfl rfl (by decide) ?_
                refine Ev.le (ls' := [some (.ref 112), none]) ⟨rfl, trivial⟩ ?_
                exact EX12_statementTold_J173 f ((ev_up m16.1 140 2 r15), m16.2) (by omega)
              · refine Ev.run (pc' := 145) (ls' := [some (.ref 112), some (.int (m.1 112 2))]) (st' := [.int 8, .int 1, .ref 112, .int 1, .ref 140]) (m' := m12) [(.aload_n 0, 0, 0, 0, 0), (.getfield 97, 12, 39, 0, 0), (.iconst 1, 0, 0, 1, 0), (.aload_n 0, 0, 0, 0, 0), (.iconst 1, 0, 0, 1, 0), (.bipush 8, 0, 0, 8, 0)] (by decide +kernel) rfl ?_
                refine Ev.cV (av := [.int 1, .int 8]) (st := [.int 1, .ref 140]) (a := 112) (EX12_number (l := l) (Ln := Ln) (xs := xs) (d := 1) f (1 : Int32) (8 : Int32) m12 (by decide)) rfl (by decide +kernel) mwX12_number iwX12_number vwX12_number lk_12_295 (by omega) (by decide) rfl (by decide) rfl rfl (Nat.le_of_ble_eq_true rfl) (fun r19 m20 => ?_)
                refine Ev.iastK (n := 6) (j := 1) (by decide +kernel) (by decide) rfl rfl (by decide) ?_
                refine Ev.gto (t := 173) (by decide +kernel) ?_
                refine Ev.le (ls' := [some (.ref 112), none]) ⟨rfl, trivial⟩ ?_
                exact EX12_statementTold_J173 f ((ev_up m20.1 140 1 r19), m20.2) (by omega)
            · refine Ev.run (pc' := 118) (ls' := [some (.ref 112), some (.int (m.1 112 2))]) (st' := [.int 9, .int 1, .ref 112, .int 0, .ref 140]) (m' := m10) [(.aload_n 0, 0, 0, 0, 0), (.getfield 97, 12, 39, 0, 0), (.iconst 0, 0, 0, 0, 0), (.aload_n 0, 0, 0, 0, 0), (.iconst 1, 0, 0, 1, 0), (.bipush 9, 0, 0, 9, 0)] (by decide +kernel) rfl ?_
              refine Ev.cV (av := [.int 1, .int 9]) (st := [.int 0, .ref 140]) (a := 112) (EX12_number (l := l) (Ln := Ln) (xs := xs) (d := 1) f (1 : Int32) (9 : Int32) m10 (by decide)) rfl (by decide +kernel) mwX12_number iwX12_number vwX12_number lk_12_295 (by omega) (by decide) rfl (by decide) rfl rfl (Nat.le_of_ble_eq_true rfl) (fun r21 m22 => ?_)
              refine Ev.iastK (n := 6) (j := 0) (by decide +kernel) (by decide) rfl rfl (by decide) ?_
              refine Ev.gto (t := 173) (by decide +kernel) ?_
              refine Ev.le (ls' := [some (.ref 112), none]) ⟨rfl, trivial⟩ ?_
              exact EX12_statementTold_J173 f ((ev_up m22.1 140 0 r21), m22.2) (by omega)
          · refine Ev.run (pc' := 92) (ls' := [some (.ref 112), some (.int (m.1 112 2))]) (st' := [.int (m.1 112 2), .int 1, .ref 112]) (m' := m8) [(.aload_n 0, 0, 0, 0, 0), (.iconst 1, 0, 0, 1, 0), (.iload_n 1, 0, 0, 0, 0)] (by decide +kernel) rfl ?_
            refine Ev.cV (av := [.int 1, .int (m.1 112 2)]) (st := []) (a := 112) (EX12_codesTold (l := l) (Ln := Ln) (xs := xs) (d := 7) f (1 : Int32) (m.1 112 2) m8 (by decide)) rfl (by decide +kernel) mwX12_codesTold iwX12_codesTold vwX12_codesTold lk_12_341 (by omega) (by decide) rfl (by decide) rfl rfl (Nat.le_of_ble_eq_true rfl) (fun r23 m24 => ?_)
            refine Ev.gto (t := 173) (by decide +kernel) ?_
            refine Ev.le (ls' := [some (.ref 112), none]) ⟨rfl, trivial⟩ ?_
            exact EX12_statementTold_J173 f m24 (by omega)
        · refine Ev.run (pc' := 72) (ls' := [some (.ref 112), some (.int (m.1 112 2))]) (st' := [.int (m.1 112 2), .int 0, .ref 112]) (m' := m6) [(.aload_n 0, 0, 0, 0, 0), (.iconst 0, 0, 0, 0, 0), (.iload_n 1, 0, 0, 0, 0)] (by decide +kernel) rfl ?_
          refine Ev.cV (av := [.int 0, .int (m.1 112 2)]) (st := []) (a := 112) (EX12_codesTold (l := l) (Ln := Ln) (xs := xs) (d := 7) f (0 : Int32) (m.1 112 2) m6 (by decide)) rfl (by decide +kernel) mwX12_codesTold iwX12_codesTold vwX12_codesTold lk_12_341 (by omega) (by decide) rfl (by decide) rfl rfl (Nat.le_of_ble_eq_true rfl) (fun r25 m26 => ?_)
          refine Ev.gto (t := 173) (by decide +kernel) ?_
          refine Ev.le (ls' := [some (.ref 112), none]) ⟨rfl, trivial⟩ ?_
          exact EX12_statementTold_J173 f m26 (by omega)
      · refine Ev.run (pc' := 52) (ls' := [some (.ref 112), some (.int (m.1 112 2))]) (st' := [.ref 112]) (m' := m4) [(.aload_n 0, 0, 0, 0, 0)] (by decide +kernel) rfl ?_
        refine Ev.cV (av := []) (st := []) (a := 112) (EX12_yesTold (l := l) (Ln := Ln) (xs := xs) (d := 4) f m4 (by decide)) rfl (by decide +kernel) mwX12_yesTold iwX12_yesTold vwX12_yesTold lk_12_338 (by omega) (by decide) rfl (by decide) rfl rfl (Nat.le_of_ble_eq_true rfl) (fun r27 m28 => ?_)
        refine Ev.gto (t := 173) (by decide +kernel) ?_
        refine Ev.le (ls' := [some (.ref 112), none]) ⟨rfl, trivial⟩ ?_
        exact EX12_statementTold_J173 f m28 (by omega)
    · refine Ev.run (pc' := 34) (ls' := [some (.ref 112), some (.int (m.1 112 2))]) (st' := [.int (m.1 112 2), .ref 112]) (m' := m2) [(.aload_n 0, 0, 0, 0, 0), (.iload_n 1, 0, 0, 0, 0)] (by decide +kernel) rfl ?_
      refine Ev.cV (av := [.int (m.1 112 2)]) (st := []) (a := 112) (EX12_towerTold (l := l) (Ln := Ln) (xs := xs) (d := 4) f (m.1 112 2) m2 (by decide)) rfl (by decide +kernel) mwX12_towerTold iwX12_towerTold vwX12_towerTold lk_12_335 (by omega) (by decide) rfl (by decide) rfl rfl (Nat.le_of_ble_eq_true rfl) (fun r29 m30 => ?_)
      refine Ev.gto (t := 173) (by decide +kernel) ?_
      refine Ev.le (ls' := [some (.ref 112), none]) ⟨rfl, trivial⟩ ?_
      exact EX12_statementTold_J173 f m30 (by omega)
  · refine Ev.run (pc' := 17) (ls' := [some (.ref 112), some (.int (m.1 112 2))]) (st' := [.int (m.1 112 2), .int 5, .ref 112]) (m' := m) [(.aload_n 0, 0, 0, 0, 0), (.iconst 5, 0, 0, 5, 0), (.iload_n 1, 0, 0, 0, 0)] (by decide +kernel) rfl ?_
    refine Ev.cV (av := [.int 5, .int (m.1 112 2)]) (st := []) (a := 112) (EX12_fail (l := l) (Ln := Ln) (xs := xs) (d := 0) f (5 : Int32) (m.1 112 2) m (by decide)) rfl (by decide +kernel) mwX12_fail iwX12_fail vwX12_fail lk_12_258 (by omega) (by decide) rfl (by decide) rfl rfl (Nat.le_of_ble_eq_true rfl) (fun r31 m32 => ?_)
    exact Ev.retv rfl rfl (by decide +kernel)
def FX12_castle_L87 (f : Nat) (k : ev_M → Option (Int32 × ev_M))   : Nat → ev_M → Option (Int32 × ev_M)
  | 0, _ => none
  | n + 1, m => (if (m.1 112 5) = 0 then (ev_bd (FX12_look f m) (fun r3 m4 => (if r3 = (-1) then (k m4) else (ev_bd (FX12_statementTold f m4) (fun _ m6 => (FX12_castle_L87 f k n m6)))))) else (k m))
def FX12_castle_J109 (f : Nat)     (m : ev_M) : Option (Int32 × ev_M) :=
  (if (m.1 112 5) = 0 then (ev_bd (FX12_stands f ((ev_up (ev_up m.1 112 7 (m.1 112 5)) 112 8 (m.1 112 6)), m.2)) (fun _ m9 => some ((m9.1 112 44), m9))) else some ((-1), ((ev_up (ev_up (ev_up m.1 112 7 (m.1 112 5)) 112 8 (m.1 112 6)) 114 1 ((m.1 114 1) + 1)), m.2)))
def FX12_castle (f : Nat)  (m : ev_M) : Option (Int32 × ev_M) :=
  (ev_bd (FX12_callTold0 f ((ev_up (ev_up (ev_up (ev_up (ev_up (ev_up (ev_up (ev_up (ev_up (ev_up (ev_up (ev_up (ev_up m.1 112 3 (m.1 112 1)) 112 1 0) 112 2 0) 112 4 (-1)) 112 5 0) 112 6 (-1)) 112 43 0) 112 35 0) 141 0 (-1)) 141 1 (-1)) 140 0 4) 140 1 3) 140 2 0), m.2)) (fun _ m2 => (FX12_castle_L87 f (fun m7 => (FX12_castle_J109 f m7)) f ((ev_up m2.1 112 44 1), m2.2))))
set_option maxRecDepth 100000 in
set_option maxHeartbeats 4000000 in
theorem EX12_castle_L87 {l : Launch} {Ln : Nat} {xs : Nat → Int32} {d : Nat} (f : Nat) (k : ev_M → Option (Int32 × ev_M))     (hk : ∀  (em : ev_M), Ev ev_eI l Ln xs YX12_castle d Sx 109 [some (.ref 112)] [] em (k em)) (hd : 9 ≤ d) : ∀ (n : Nat)  (m : ev_M), Ev ev_eI l Ln xs YX12_castle d Sx 87 [some (.ref 112)] [] m (FX12_castle_L87 f k n m) := by
  intro n
  induction n with
  | zero => intros; exact Ev.nn
  | succ n ih =>
    intro  m
    rw [FX12_castle_L87]
    refine Ev.run (pc' := 91) (ls' := [some (.ref 112)]) (st' := [.int (m.1 112 5)]) (m' := m) [(.aload_n 0, 0, 0, 0, 0), (.getfield 228, 12, 5, 0, 0)] (by decide +kernel) rfl ?_
    refine Ev.if_ne (t := 109) (by decide +kernel) ?_ ?_
    · exact hk _
    · refine Ev.run (pc' := 95) (ls' := [some (.ref 112)]) (st' := [.ref 112]) (m' := m) [(.aload_n 0, 0, 0, 0, 0)] (by decide +kernel) rfl ?_
      refine Ev.cV (av := []) (st := []) (a := 112) (EX12_look (l := l) (Ln := Ln) (xs := xs) (d := 0) f m (by decide)) rfl (by decide +kernel) mwX12_look iwX12_look vwX12_look lk_12_240 (by omega) (by decide) rfl (by decide) rfl rfl (Nat.le_of_ble_eq_true rfl) (fun r3 m4 => ?_)
      refine Ev.run (pc' := 99) (ls' := [some (.ref 112)]) (st' := [.int (-1), .int r3]) (m' := m4) [(.iconst (-1), 0, 0, (-1), 0)] (by decide +kernel) rfl ?_
      refine Ev.ic_eq (t := 109) (by decide +kernel) ?_ ?_
      · exact hk _
      · refine Ev.run (pc' := 103) (ls' := [some (.ref 112)]) (st' := [.ref 112]) (m' := m4) [(.aload_n 0, 0, 0, 0, 0)] (by decide +kernel) rfl ?_
        refine Ev.cV (av := []) (st := []) (a := 112) (EX12_statementTold (l := l) (Ln := Ln) (xs := xs) (d := 8) f m4 (by decide)) rfl (by decide +kernel) mwX12_statementTold iwX12_statementTold vwX12_statementTold lk_12_347 (by omega) (by decide) rfl (by decide) rfl rfl (Nat.le_of_ble_eq_true rfl) (fun r5 m6 => ?_)
        refine Ev.gto (t := 87) (by decide +kernel) ?_
        exact ih _
set_option maxRecDepth 100000 in
set_option maxHeartbeats 4000000 in
theorem EX12_castle_J109 {l : Launch} {Ln : Nat} {xs : Nat → Int32} {d : Nat} (f : Nat)     (m : ev_M)   (hd : 9 ≤ d) : Ev ev_eI l Ln xs YX12_castle d Sx 109 [some (.ref 112)] [] m (FX12_castle_J109 f m) := by
  unfold FX12_castle_J109
  refine Ev.run (pc' := 129) (ls' := [some (.ref 112)]) (st' := [.int (m.1 112 5)]) (m' := ((ev_up (ev_up m.1 112 7 (m.1 112 5)) 112 8 (m.1 112 6)), m.2)) [(.aload_n 0, 0, 0, 0, 0), (.aload_n 0, 0, 0, 0, 0), (.getfield 228, 12, 5, 0, 0), (.putfield 350, 12, 7, 0, 0), (.aload_n 0, 0, 0, 0, 0), (.aload_n 0, 0, 0, 0, 0), (.getfield 231, 12, 6, 0, 0), (.putfield 13, 12, 8, 0, 0), (.aload_n 0, 0, 0, 0, 0), (.getfield 228, 12, 5, 0, 0)] (by decide +kernel) rfl ?_
  refine Ev.if_eq (t := 144) (by decide +kernel) ?_ ?_
  · refine Ev.run (pc' := 145) (ls' := [some (.ref 112)]) (st' := [.ref 112]) (m' := ((ev_up (ev_up m.1 112 7 (m.1 112 5)) 112 8 (m.1 112 6)), m.2)) [(.aload_n 0, 0, 0, 0, 0)] (by decide +kernel) rfl ?_
    refine Ev.cV (av := []) (st := []) (a := 112) (EX12_stands (l := l) (Ln := Ln) (xs := xs) (d := 0) f ((ev_up (ev_up m.1 112 7 (m.1 112 5)) 112 8 (m.1 112 6)), m.2) (by decide)) rfl (by decide +kernel) mwX12_stands iwX12_stands vwX12_stands lk_12_353 (by omega) (by decide) rfl (by decide) rfl rfl (Nat.le_of_ble_eq_true rfl) (fun r8 m9 => ?_)
    refine Ev.run (pc' := 152) (ls' := [some (.ref 112)]) (st' := [.int (m9.1 112 44)]) (m' := m9) [(.aload_n 0, 0, 0, 0, 0), (.getfield 332, 12, 44, 0, 0)] (by decide +kernel) rfl ?_
    exact Ev.ireti rfl rfl (by decide +kernel)
  · refine Ev.run (pc' := 138) (ls' := [some (.ref 112)]) (st' := [.int 1, .ref 114, .int 1, .ref 114]) (m' := ((ev_up (ev_up m.1 112 7 (m.1 112 5)) 112 8 (m.1 112 6)), m.2)) [(.aload_n 0, 0, 0, 0, 0), (.getfield 17, 12, 9, 0, 0), (.iconst 1, 0, 0, 1, 0), (.dup2, 0, 0, 0, 0)] (by decide +kernel) rfl ?_
    refine Ev.ialdK (n := 6) (j := 1) (by decide +kernel) (by decide) rfl rfl (by decide) ?_
    refine Ev.run (pc' := 141) (ls' := [some (.ref 112)]) (st' := [.int ((m.1 114 1) + 1), .int 1, .ref 114]) (m' := ((ev_up (ev_up m.1 112 7 (m.1 112 5)) 112 8 (m.1 112 6)), m.2)) [(.iconst 1, 0, 0, 1, 0), (.iadd, 0, 0, 0, 0)] (by decide +kernel) rfl ?_
    refine Ev.iastK (n := 6) (j := 1) (by decide +kernel) (by decide) rfl rfl (by decide) ?_
    refine Ev.run (pc' := 143) (ls' := [some (.ref 112)]) (st' := [.int (-1)]) (m' := ((ev_up (ev_up (ev_up m.1 112 7 (m.1 112 5)) 112 8 (m.1 112 6)) 114 1 ((m.1 114 1) + 1)), m.2)) [(.iconst (-1), 0, 0, (-1), 0)] (by decide +kernel) rfl ?_
    exact Ev.ireti rfl rfl (by decide +kernel)
set_option maxRecDepth 100000 in
set_option maxHeartbeats 4000000 in
theorem EX12_castle {l : Launch} {Ln : Nat} {xs : Nat → Int32} {d : Nat} (f : Nat)  (m : ev_M)  (hd : 9 ≤ d) : Mv ev_eI l Ln xs YX12_castle d Sx [.ref 112] m (FX12_castle f  m) := by
  refine Mv.of (by decide +kernel) rfl (Nat.le_of_ble_eq_true rfl) (Ev.le (ls' := [some (.ref 112)]) ⟨rfl, trivial⟩ ?_)
  unfold FX12_castle
  refine Ev.run (pc' := 49) (ls' := [some (.ref 112)]) (st' := [.int (-1), .int 0, .ref 141]) (m' := ((ev_up (ev_up (ev_up (ev_up (ev_up (ev_up (ev_up (ev_up m.1 112 3 (m.1 112 1)) 112 1 0) 112 2 0) 112 4 (-1)) 112 5 0) 112 6 (-1)) 112 43 0) 112 35 0), m.2)) [(.aload_n 0, 0, 0, 0, 0), (.aload_n 0, 0, 0, 0, 0), (.getfield 225, 12, 1, 0, 0), (.putfield 237, 12, 3, 0, 0), (.aload_n 0, 0, 0, 0, 0), (.iconst 0, 0, 0, 0, 0), (.putfield 225, 12, 1, 0, 0), (.aload_n 0, 0, 0, 0, 0), (.iconst 0, 0, 0, 0, 0), (.putfield 234, 12, 2, 0, 0), (.aload_n 0, 0, 0, 0, 0), (.iconst (-1), 0, 0, (-1), 0), (.putfield 248, 12, 4, 0, 0), (.aload_n 0, 0, 0, 0, 0), (.iconst 0, 0, 0, 0, 0), (.putfield 228, 12, 5, 0, 0), (.aload_n 0, 0, 0, 0, 0), (.iconst (-1), 0, 0, (-1), 0), (.putfield 231, 12, 6, 0, 0), (.aload_n 0, 0, 0, 0, 0), (.iconst 0, 0, 0, 0, 0), (.putfield 329, 12, 43, 0, 0), (.aload_n 0, 0, 0, 0, 0), (.iconst 0, 0, 0, 0, 0), (.putfield 288, 12, 35, 0, 0), (.aload_n 0, 0, 0, 0, 0), (.getfield 100, 12, 40, 0, 0), (.iconst 0, 0, 0, 0, 0), (.iconst (-1), 0, 0, (-1), 0)] (by decide +kernel) rfl ?_
  refine Ev.iastK (n := 4) (j := 0) (by decide +kernel) (by decide) rfl rfl (by decide) ?_
  refine Ev.run (pc' := 56) (ls' := [some (.ref 112)]) (st' := [.int (-1), .int 1, .ref 141]) (m' := ((ev_up (ev_up (ev_up (ev_up (ev_up (ev_up (ev_up (ev_up (ev_up m.1 112 3 (m.1 112 1)) 112 1 0) 112 2 0) 112 4 (-1)) 112 5 0) 112 6 (-1)) 112 43 0) 112 35 0) 141 0 (-1)), m.2)) [(.aload_n 0, 0, 0, 0, 0), (.getfield 100, 12, 40, 0, 0), (.iconst 1, 0, 0, 1, 0), (.iconst (-1), 0, 0, (-1), 0)] (by decide +kernel) rfl ?_
  refine Ev.iastK (n := 4) (j := 1) (by decide +kernel) (by decide) rfl rfl (by decide) ?_
  refine Ev.run (pc' := 63) (ls' := [some (.ref 112)]) (st' := [.int 4, .int 0, .ref 140]) (m' := ((ev_up (ev_up (ev_up (ev_up (ev_up (ev_up (ev_up (ev_up (ev_up (ev_up m.1 112 3 (m.1 112 1)) 112 1 0) 112 2 0) 112 4 (-1)) 112 5 0) 112 6 (-1)) 112 43 0) 112 35 0) 141 0 (-1)) 141 1 (-1)), m.2)) [(.aload_n 0, 0, 0, 0, 0), (.getfield 97, 12, 39, 0, 0), (.iconst 0, 0, 0, 0, 0), (.iconst 4, 0, 0, 4, 0)] (by decide +kernel) rfl ?_
  refine Ev.iastK (n := 6) (j := 0) (by decide +kernel) (by decide) rfl rfl (by decide) ?_
  refine Ev.run (pc' := 70) (ls' := [some (.ref 112)]) (st' := [.int 3, .int 1, .ref 140]) (m' := ((ev_up (ev_up (ev_up (ev_up (ev_up (ev_up (ev_up (ev_up (ev_up (ev_up (ev_up m.1 112 3 (m.1 112 1)) 112 1 0) 112 2 0) 112 4 (-1)) 112 5 0) 112 6 (-1)) 112 43 0) 112 35 0) 141 0 (-1)) 141 1 (-1)) 140 0 4), m.2)) [(.aload_n 0, 0, 0, 0, 0), (.getfield 97, 12, 39, 0, 0), (.iconst 1, 0, 0, 1, 0), (.iconst 3, 0, 0, 3, 0)] (by decide +kernel) rfl ?_
  refine Ev.iastK (n := 6) (j := 1) (by decide +kernel) (by decide) rfl rfl (by decide) ?_
  refine Ev.run (pc' := 77) (ls' := [some (.ref 112)]) (st' := [.int 0, .int 2, .ref 140]) (m' := ((ev_up (ev_up (ev_up (ev_up (ev_up (ev_up (ev_up (ev_up (ev_up (ev_up (ev_up (ev_up m.1 112 3 (m.1 112 1)) 112 1 0) 112 2 0) 112 4 (-1)) 112 5 0) 112 6 (-1)) 112 43 0) 112 35 0) 141 0 (-1)) 141 1 (-1)) 140 0 4) 140 1 3), m.2)) [(.aload_n 0, 0, 0, 0, 0), (.getfield 97, 12, 39, 0, 0), (.iconst 2, 0, 0, 2, 0), (.iconst 0, 0, 0, 0, 0)] (by decide +kernel) rfl ?_
  refine Ev.iastK (n := 6) (j := 2) (by decide +kernel) (by decide) rfl rfl (by decide) ?_
  refine Ev.run (pc' := 79) (ls' := [some (.ref 112)]) (st' := [.ref 112]) (m' := ((ev_up (ev_up (ev_up (ev_up (ev_up (ev_up (ev_up (ev_up (ev_up (ev_up (ev_up (ev_up (ev_up m.1 112 3 (m.1 112 1)) 112 1 0) 112 2 0) 112 4 (-1)) 112 5 0) 112 6 (-1)) 112 43 0) 112 35 0) 141 0 (-1)) 141 1 (-1)) 140 0 4) 140 1 3) 140 2 0), m.2)) [(.aload_n 0, 0, 0, 0, 0)] (by decide +kernel) rfl ?_
  refine Ev.cV (av := []) (st := []) (a := 112) (EX12_callTold0 (l := l) (Ln := Ln) (xs := xs) (d := 4) f ((ev_up (ev_up (ev_up (ev_up (ev_up (ev_up (ev_up (ev_up (ev_up (ev_up (ev_up (ev_up (ev_up m.1 112 3 (m.1 112 1)) 112 1 0) 112 2 0) 112 4 (-1)) 112 5 0) 112 6 (-1)) 112 43 0) 112 35 0) 141 0 (-1)) 141 1 (-1)) 140 0 4) 140 1 3) 140 2 0), m.2) (by decide)) rfl (by decide +kernel) mwX12_callTold0 iwX12_callTold0 vwX12_callTold0 lk_12_344 (by omega) (by decide) rfl (by decide) rfl rfl (Nat.le_of_ble_eq_true rfl) (fun r1 m2 => ?_)
  refine Ev.run (pc' := 87) (ls' := [some (.ref 112)]) (st' := []) (m' := ((ev_up m2.1 112 44 1), m2.2)) [(.aload_n 0, 0, 0, 0, 0), (.iconst 1, 0, 0, 1, 0), (.putfield 332, 12, 44, 0, 0)] (by decide +kernel) rfl ?_
  refine EX12_castle_L87 f _ ?_ (by omega) _ _
  intro m7
  exact EX12_castle_J109 f m7 (by omega)
def FX12_codesTell_J95 (f : Nat) (kt19 : Int32 → ev_M → Option (Int64 × ev_M))  (a3 : Int32)  (m : ev_M) : Option (Int64 × ev_M) :=
  (kt19 (a3 + 1) m)
def FX12_codesTell_L19 (f : Nat) (k : ev_M → Option (Int64 × ev_M))  (a1 : Int32) (a2 : Int32) : Nat → Int32 → ev_M → Option (Int64 × ev_M)
  | 0, _, _ => none
  | n + 1, a3, m => (if ev_in (2 + a1) 4 then (if (m.1 142 (2 + a1).toNatClampNeg) ≤ a3 then (k m) else (if ev_in (1600 + a3) 3200 then (if (m.1 143 (1600 + a3).toNatClampNeg) < 1000 then (if (m.1 143 (1600 + a3).toNatClampNeg) < 40 then (ev_bd (FX12_qJoins f (m.1 143 (1600 + a3).toNatClampNeg) m) (fun _ m2 => (FX12_codesTell_J95 f (FX12_codesTell_L19 f k a1 a2 n) a3 m2))) else (ev_bd (FX12_qPartOf f ((m.1 143 (1600 + a3).toNatClampNeg) - 40) a2 m) (fun r3 m4 => (ev_bd (FX12_qPuts f r3 m4) (fun _ m6 => (FX12_codesTell_J95 f (FX12_codesTell_L19 f k a1 a2 n) a3 m6)))))) else (ev_bd (FX12_qPuts f (((m.1 143 (1600 + a3).toNatClampNeg) - 1000) : Int32).toInt64 m) (fun _ m8 => (FX12_codesTell_J95 f (FX12_codesTell_L19 f k a1 a2 n) a3 m8)))) else none)) else none)
def FX12_codesTell (f : Nat) (a1 : Int32) (a2 : Int32) (m : ev_M) : Option (Int64 × ev_M) :=
  (if ev_in (2 + a1) 4 then (FX12_codesTell_L19 f (fun m9 => some ((m9.2 179 0), m9)) a1 a2 f (m.1 141 (2 + a1).toNatClampNeg) ((ev_up (ev_up m.1 112 46 a1) 112 99 0), m.2)) else none)
set_option maxRecDepth 100000 in
set_option maxHeartbeats 4000000 in
theorem EX12_codesTell_J95 {l : Launch} {Ln : Nat} {xs : Nat → Int32} {d : Nat} (f : Nat) (kt19 : Int32 → ev_M → Option (Int64 × ev_M))  (a1 : Int32) (a2 : Int32) (a3 : Int32)  (m : ev_M)  (hkt19 : ∀ (e3 : Int32) (em : ev_M), Ev ev_eL l Ln xs YX12_codesTell d Sx 19 [some (.ref 112), some (.int a1), some (.int a2), some (.int e3), none] [] em (kt19 e3 em)) (hd : 2 ≤ d) : Ev ev_eL l Ln xs YX12_codesTell d Sx 95 [some (.ref 112), some (.int a1), some (.int a2), some (.int a3), none] [] m (FX12_codesTell_J95 f kt19 a3 m) := by
  unfold FX12_codesTell_J95
  refine Ev.run (pc' := 98) (ls' := [some (.ref 112), some (.int a1), some (.int a2), some (.int (a3 + 1)), none]) (st' := []) (m' := m) [(.iinc 3 1, 0, 0, 1, 0)] (by decide +kernel) rfl ?_
  refine Ev.gto (t := 19) (by decide +kernel) ?_
  exact hkt19 _ _
set_option maxRecDepth 100000 in
set_option maxHeartbeats 4000000 in
theorem EX12_codesTell_L19 {l : Launch} {Ln : Nat} {xs : Nat → Int32} {d : Nat} (f : Nat) (k : ev_M → Option (Int64 × ev_M))  (a1 : Int32) (a2 : Int32)   (hk : ∀  (em : ev_M), Ev ev_eL l Ln xs YX12_codesTell d Sx 101 [some (.ref 112), none, none, none, none] [] em (k em)) (hd : 2 ≤ d) : ∀ (n : Nat) (a3 : Int32) (m : ev_M), Ev ev_eL l Ln xs YX12_codesTell d Sx 19 [some (.ref 112), some (.int a1), some (.int a2), some (.int a3), none] [] m (FX12_codesTell_L19 f k a1 a2 n a3 m) := by
  intro n
  induction n with
  | zero => intros; exact Ev.nn
  | succ n ih =>
    intro a3 m
    rw [FX12_codesTell_L19]
    refine Ev.run (pc' := 27) (ls' := [some (.ref 112), some (.int a1), some (.int a2), some (.int a3), none]) (st' := [.int (2 + a1), .ref 142, .int a3]) (m' := m) [(.iload_n 3, 0, 0, 0, 0), (.aload_n 0, 0, 0, 0, 0), (.getfield 103, 12, 41, 0, 0), (.iconst 2, 0, 0, 2, 0), (.iload_n 1, 0, 0, 0, 0), (.iadd, 0, 0, 0, 0)] (by decide +kernel) rfl ?_
    refine Ev.iald (n := 4) (by decide +kernel) (by decide) rfl ?_
    refine Ev.ic_ge (t := 101) (by decide +kernel) ?_ ?_
    · refine Ev.le (ls' := [some (.ref 112), none, none, none, none]) ⟨rfl, trivial⟩ ?_
      exact hk _
    · refine Ev.run (pc' := 40) (ls' := [some (.ref 112), some (.int a1), some (.int a2), some (.int a3), none]) (st' := [.int (1600 + a3), .ref 143]) (m' := m) [(.aload_n 0, 0, 0, 0, 0), (.getfield 106, 12, 42, 0, 0), (.sipush 1600, 0, 0, 1600, 0), (.iload_n 3, 0, 0, 0, 0), (.iadd, 0, 0, 0, 0)] (by decide +kernel) rfl ?_
      refine Ev.iald (n := 3200) (by decide +kernel) (by decide) rfl ?_
      refine Ev.run (pc' := 48) (ls' := [some (.ref 112), some (.int a1), some (.int a2), some (.int a3), some (.int (m.1 143 (1600 + a3).toNatClampNeg))]) (st' := [.int 1000, .int (m.1 143 (1600 + a3).toNatClampNeg)]) (m' := m) [(.istore 4, 0, 0, 0, 0), (.iload 4, 0, 0, 0, 0), (.sipush 1000, 0, 0, 1000, 0)] (by decide +kernel) rfl ?_
      refine Ev.ic_lt (t := 65) (by decide +kernel) ?_ ?_
      · refine Ev.run (pc' := 69) (ls' := [some (.ref 112), some (.int a1), some (.int a2), some (.int a3), some (.int (m.1 143 (1600 + a3).toNatClampNeg))]) (st' := [.int 40, .int (m.1 143 (1600 + a3).toNatClampNeg)]) (m' := m) [(.iload 4, 0, 0, 0, 0), (.bipush 40, 0, 0, 40, 0)] (by decide +kernel) rfl ?_
        refine Ev.ic_lt (t := 89) (by decide +kernel) ?_ ?_
        · refine Ev.run (pc' := 92) (ls' := [some (.ref 112), some (.int a1), some (.int a2), some (.int a3), some (.int (m.1 143 (1600 + a3).toNatClampNeg))]) (st' := [.int (m.1 143 (1600 + a3).toNatClampNeg), .ref 112]) (m' := m) [(.aload_n 0, 0, 0, 0, 0), (.iload 4, 0, 0, 0, 0)] (by decide +kernel) rfl ?_
          refine Ev.cV (av := [.int (m.1 143 (1600 + a3).toNatClampNeg)]) (st := []) (a := 112) (EX12_qJoins (l := l) (Ln := Ln) (xs := xs) (d := 1) f (m.1 143 (1600 + a3).toNatClampNeg) m (by decide)) rfl (by decide +kernel) mwX12_qJoins iwX12_qJoins vwX12_qJoins lk_12_383 (by omega) (by decide) rfl (by decide) rfl rfl (Nat.le_of_ble_eq_true rfl) (fun r1 m2 => ?_)
          refine Ev.le (ls' := [some (.ref 112), some (.int a1), some (.int a2), some (.int a3), none]) ⟨rfl, ⟨rfl, ⟨rfl, ⟨rfl, trivial⟩⟩⟩⟩ ?_
          exact EX12_codesTell_J95 f (FX12_codesTell_L19 f k a1 a2 n) a1 a2 a3 m2 ih (by omega)
        · refine Ev.run (pc' := 80) (ls' := [some (.ref 112), some (.int a1), some (.int a2), some (.int a3), some (.int (m.1 143 (1600 + a3).toNatClampNeg))]) (st' := [.int a2, .int ((m.1 143 (1600 + a3).toNatClampNeg) - 40), .ref 112, .ref 112]) (m' := m) [(.aload_n 0, 0, 0, 0, 0), (.aload_n 0, 0, 0, 0, 0), (.iload 4, 0, 0, 0, 0), (.bipush 40, 0, 0, 40, 0), (.isub, 0, 0, 0, 0), (.iload_n 2, 0, 0, 0, 0)] (by decide +kernel) rfl ?_
          refine Ev.cV (av := [.int ((m.1 143 (1600 + a3).toNatClampNeg) - 40), .int a2]) (st := [.ref 112]) (a := 112) (EX12_qPartOf (l := l) (Ln := Ln) (xs := xs) (d := 1) f ((m.1 143 (1600 + a3).toNatClampNeg) - 40) a2 m (by decide)) rfl (by decide +kernel) mwX12_qPartOf iwX12_qPartOf vwX12_qPartOf lk_12_379 (by omega) (by decide) rfl (by decide) rfl rfl (Nat.le_of_ble_eq_true rfl) (fun r3 m4 => ?_)
          refine Ev.cV (av := [.long r3]) (st := []) (a := 112) (EX12_qPuts (l := l) (Ln := Ln) (xs := xs) (d := 0) f r3 m4 (by decide)) rfl (by decide +kernel) mwX12_qPuts iwX12_qPuts vwX12_qPuts lk_12_375 (by omega) (by decide) rfl (by decide) rfl rfl (Nat.le_of_ble_eq_true rfl) (fun r5 m6 => ?_)
          refine Ev.gto (t := 95) (by decide +kernel) ?_
          refine Ev.le (ls' := [some (.ref 112), some (.int a1), some (.int a2), some (.int a3), none]) ⟨rfl, ⟨rfl, ⟨rfl, ⟨rfl, trivial⟩⟩⟩⟩ ?_
          exact EX12_codesTell_J95 f (FX12_codesTell_L19 f k a1 a2 n) a1 a2 a3 m6 ih (by omega)
      · refine Ev.run (pc' := 59) (ls' := [some (.ref 112), some (.int a1), some (.int a2), some (.int a3), some (.int (m.1 143 (1600 + a3).toNatClampNeg))]) (st' := [.long (((m.1 143 (1600 + a3).toNatClampNeg) - 1000) : Int32).toInt64, .ref 112]) (m' := m) [(.aload_n 0, 0, 0, 0, 0), (.iload 4, 0, 0, 0, 0), (.sipush 1000, 0, 0, 1000, 0), (.isub, 0, 0, 0, 0), (.i2l, 0, 0, 0, 0)] (by decide +kernel) rfl ?_
        refine Ev.cV (av := [.long (((m.1 143 (1600 + a3).toNatClampNeg) - 1000) : Int32).toInt64]) (st := []) (a := 112) (EX12_qPuts (l := l) (Ln := Ln) (xs := xs) (d := 0) f (((m.1 143 (1600 + a3).toNatClampNeg) - 1000) : Int32).toInt64 m (by decide)) rfl (by decide +kernel) mwX12_qPuts iwX12_qPuts vwX12_qPuts lk_12_375 (by omega) (by decide) rfl (by decide) rfl rfl (Nat.le_of_ble_eq_true rfl) (fun r7 m8 => ?_)
        refine Ev.gto (t := 95) (by decide +kernel) ?_
        refine Ev.le (ls' := [some (.ref 112), some (.int a1), some (.int a2), some (.int a3), none]) ⟨rfl, ⟨rfl, ⟨rfl, ⟨rfl, trivial⟩⟩⟩⟩ ?_
        exact EX12_codesTell_J95 f (FX12_codesTell_L19 f k a1 a2 n) a1 a2 a3 m8 ih (by omega)
set_option maxRecDepth 100000 in
set_option maxHeartbeats 4000000 in
theorem EX12_codesTell {l : Launch} {Ln : Nat} {xs : Nat → Int32} {d : Nat} (f : Nat) (a1 : Int32) (a2 : Int32) (m : ev_M)  (hd : 2 ≤ d) : Mv ev_eL l Ln xs YX12_codesTell d Sx [.ref 112, .int a1, .int a2] m (FX12_codesTell f a1 a2 m) := by
  refine Mv.of (by decide +kernel) rfl (Nat.le_of_ble_eq_true rfl) (Ev.le (ls' := [some (.ref 112), some (.int a1), some (.int a2), none, none]) ⟨rfl, ⟨rfl, ⟨rfl, trivial⟩⟩⟩ ?_)
  unfold FX12_codesTell
  refine Ev.run (pc' := 17) (ls' := [some (.ref 112), some (.int a1), some (.int a2), none, none]) (st' := [.int (2 + a1), .ref 141]) (m' := ((ev_up (ev_up m.1 112 46 a1) 112 99 0), m.2)) [(.aload_n 0, 0, 0, 0, 0), (.iload_n 1, 0, 0, 0, 0), (.putfield 283, 12, 46, 0, 0), (.aload_n 0, 0, 0, 0, 0), (.iconst 0, 0, 0, 0, 0), (.putfield 372, 12, 99, 0, 0), (.aload_n 0, 0, 0, 0, 0), (.getfield 100, 12, 40, 0, 0), (.iconst 2, 0, 0, 2, 0), (.iload_n 1, 0, 0, 0, 0), (.iadd, 0, 0, 0, 0)] (by decide +kernel) rfl ?_
  refine Ev.iald (n := 4) (by decide +kernel) (by decide) rfl ?_
  refine Ev.run (pc' := 19) (ls' := [some (.ref 112), some (.int a1), some (.int a2), some (.int (m.1 141 (2 + a1).toNatClampNeg)), none]) (st' := []) (m' := ((ev_up (ev_up m.1 112 46 a1) 112 99 0), m.2)) [(.istore_n 3, 0, 0, 0, 0)] (by decide +kernel) rfl ?_
  refine EX12_codesTell_L19 f _ a1 a2 ?_ (by omega) _ _ _
  intro m9
  refine Ev.run (pc' := 106) (ls' := [some (.ref 112), none, none, none, none]) (st' := [.int 0, .ref 179]) (m' := m9) [(.aload_n 0, 0, 0, 0, 0), (.getfield 219, 12, 98, 0, 0), (.iconst 0, 0, 0, 0, 0)] (by decide +kernel) rfl ?_
  refine Ev.laldK (n := 1700) (j := 0) (by decide +kernel) (by decide) rfl rfl (by decide) ?_
  exact Ev.retl rfl rfl (by decide +kernel)
def FX12_saidBy_J59 (f : Nat)    (s0 : Int32) (m : ev_M) : Option (Int32 × ev_M) :=
  (ev_bd (FX12_cut f ((s0 - (m.1 112 50)) : Int32).toInt64 m) (fun r7 m8 => some (r7, m8)))
def FX12_saidBy (f : Nat) (a1 : Int32) (m : ev_M) : Option (Int32 × ev_M) :=
  (ev_bd (FX12_isYes f a1 m) (fun r1 m2 => (if r1 = 0 then (if (m2.1 141 2) = (-1) then (ev_bd (FX12_moodOf f a1 m2) (fun r3 m4 => (ev_bd (FX12_cheerOf f a1 m4) (fun r5 m6 => (if (r3 + r5) ≤ (m6.1 112 49) then (FX12_saidBy_J59 f (r3 + r5) m6) else (FX12_saidBy_J59 f (m6.1 112 49) m6)))))) else (ev_bd (FX12_codesTell f (0 : Int32) a1 m2) (fun r9 m10 => (ev_bd (FX12_cut f r9 m10) (fun r11 m12 => some (r11, m12)))))) else some (9, m2))))
set_option maxRecDepth 100000 in
set_option maxHeartbeats 4000000 in
theorem EX12_saidBy_J59 {l : Launch} {Ln : Nat} {xs : Nat → Int32} {d : Nat} (f : Nat)    (s0 : Int32) (m : ev_M)   (hd : 3 ≤ d) : Ev ev_eI l Ln xs YX12_saidBy d Sx 59 [some (.ref 112), none, none] [.int s0] m (FX12_saidBy_J59 f s0 m) := by
  unfold FX12_saidBy_J59
  refine Ev.run (pc' := 65) (ls' := [some (.ref 112), none, none]) (st' := [.long ((s0 - (m.1 112 50)) : Int32).toInt64]) (m' := m) [(.aload_n 0, 0, 0, 0, 0), (.getfield 407, 12, 50, 0, 0), (.isub, 0, 0, 0, 0), (.i2l, 0, 0, 0, 0)] (by decide +kernel) rfl ?_
  refine Ev.cS (av := [.long ((s0 - (m.1 112 50)) : Int32).toInt64]) (st := []) (EX12_cut (l := l) (Ln := Ln) (xs := xs) (d := 0) f ((s0 - (m.1 112 50)) : Int32).toInt64 m (by decide)) rfl (by decide +kernel) mwX12_cut swX12_cut lk_12_394 (by omega) rfl (Nat.le_of_ble_eq_true rfl) (fun r7 m8 => ?_)
  exact Ev.ireti rfl rfl (by decide +kernel)
set_option maxRecDepth 100000 in
set_option maxHeartbeats 4000000 in
theorem EX12_saidBy {l : Launch} {Ln : Nat} {xs : Nat → Int32} {d : Nat} (f : Nat) (a1 : Int32) (m : ev_M)  (hd : 3 ≤ d) : Mv ev_eI l Ln xs YX12_saidBy d Sx [.ref 112, .int a1] m (FX12_saidBy f a1 m) := by
  refine Mv.of (by decide +kernel) rfl (Nat.le_of_ble_eq_true rfl) (Ev.le (ls' := [some (.ref 112), some (.int a1), none]) ⟨rfl, ⟨rfl, trivial⟩⟩ ?_)
  unfold FX12_saidBy
  refine Ev.run (pc' := 2) (ls' := [some (.ref 112), some (.int a1), none]) (st' := [.int a1, .ref 112]) (m' := m) [(.aload_n 0, 0, 0, 0, 0), (.iload_n 1, 0, 0, 0, 0)] (by decide +kernel) rfl ?_
  refine Ev.cV (av := [.int a1]) (st := []) (a := 112) (EX12_isYes (l := l) (Ln := Ln) (xs := xs) (d := 0) f a1 m (by decide)) rfl (by decide +kernel) mwX12_isYes iwX12_isYes vwX12_isYes lk_12_388 (by omega) (by decide) rfl (by decide) rfl rfl (Nat.le_of_ble_eq_true rfl) (fun r1 m2 => ?_)
  refine Ev.if_eq (t := 11) (by decide +kernel) ?_ ?_
  · refine Ev.run (pc' := 16) (ls' := [some (.ref 112), some (.int a1), none]) (st' := [.int 2, .ref 141]) (m' := m2) [(.aload_n 0, 0, 0, 0, 0), (.getfield 100, 12, 40, 0, 0), (.iconst 2, 0, 0, 2, 0)] (by decide +kernel) rfl ?_
    refine Ev.ialdK (n := 4) (j := 2) (by decide +kernel) (by decide) rfl rfl (by decide) ?_
    refine Ev.run (pc' := 18) (ls' := [some (.ref 112), some (.int a1), none]) (st' := [.int (-1), .int (m2.1 141 2)]) (m' := m2) [(.iconst (-1), 0, 0, (-1), 0)] (by decide +kernel) rfl ?_
    refine Ev.ic_eq (t := 31) (by decide +kernel) ?_ ?_
    · refine Ev.run (pc' := 33) (ls' := [some (.ref 112), some (.int a1), none]) (st' := [.int a1, .ref 112]) (m' := m2) [(.aload_n 0, 0, 0, 0, 0), (.iload_n 1, 0, 0, 0, 0)] (by decide +kernel) rfl ?_
      refine Ev.cV (av := [.int a1]) (st := []) (a := 112) (EX12_moodOf (l := l) (Ln := Ln) (xs := xs) (d := 0) f a1 m2 (by decide)) rfl (by decide +kernel) mwX12_moodOf iwX12_moodOf vwX12_moodOf lk_12_397 (by omega) (by decide) rfl (by decide) rfl rfl (Nat.le_of_ble_eq_true rfl) (fun r3 m4 => ?_)
      refine Ev.run (pc' := 38) (ls' := [some (.ref 112), some (.int a1), none]) (st' := [.int a1, .ref 112, .int r3]) (m' := m4) [(.aload_n 0, 0, 0, 0, 0), (.iload_n 1, 0, 0, 0, 0)] (by decide +kernel) rfl ?_
      refine Ev.cV (av := [.int a1]) (st := [.int r3]) (a := 112) (EX12_cheerOf (l := l) (Ln := Ln) (xs := xs) (d := 0) f a1 m4 (by decide)) rfl (by decide +kernel) mwX12_cheerOf iwX12_cheerOf vwX12_cheerOf lk_12_401 (by omega) (by decide) rfl (by decide) rfl rfl (Nat.le_of_ble_eq_true rfl) (fun r5 m6 => ?_)
      refine Ev.run (pc' := 48) (ls' := [some (.ref 112), some (.int a1), some (.int (r3 + r5))]) (st' := [.int (r3 + r5), .int (m6.1 112 49)]) (m' := m6) [(.iadd, 0, 0, 0, 0), (.istore_n 2, 0, 0, 0, 0), (.aload_n 0, 0, 0, 0, 0), (.getfield 404, 12, 49, 0, 0), (.iload_n 2, 0, 0, 0, 0)] (by decide +kernel) rfl ?_
      refine Ev.ic_ge (t := 58) (by decide +kernel) ?_ ?_
      · refine Ev.run (pc' := 59) (ls' := [some (.ref 112), some (.int a1), some (.int (r3 + r5))]) (st' := [.int (r3 + r5)]) (m' := m6) [(.iload_n 2, 0, 0, 0, 0)] (by decide +kernel) rfl ?_
        refine Ev.le (ls' := [some (.ref 112), none, none]) ⟨rfl, trivial⟩ ?_
        exact EX12_saidBy_J59 f (r3 + r5) m6 (by omega)
      · refine Ev.run (pc' := 55) (ls' := [some (.ref 112), some (.int a1), some (.int (r3 + r5))]) (st' := [.int (m6.1 112 49)]) (m' := m6) [(.aload_n 0, 0, 0, 0, 0), (.getfield 404, 12, 49, 0, 0)] (by decide +kernel) rfl ?_
        refine Ev.gto (t := 59) (by decide +kernel) ?_
        refine Ev.le (ls' := [some (.ref 112), none, none]) ⟨rfl, trivial⟩ ?_
        exact EX12_saidBy_J59 f (m6.1 112 49) m6 (by omega)
    · refine Ev.run (pc' := 24) (ls' := [some (.ref 112), some (.int a1), none]) (st' := [.int a1, .int 0, .ref 112]) (m' := m2) [(.aload_n 0, 0, 0, 0, 0), (.iconst 0, 0, 0, 0, 0), (.iload_n 1, 0, 0, 0, 0)] (by decide +kernel) rfl ?_
      refine Ev.cV (av := [.int 0, .int a1]) (st := []) (a := 112) (EX12_codesTell (l := l) (Ln := Ln) (xs := xs) (d := 2) f (0 : Int32) a1 m2 (by decide)) rfl (by decide +kernel) mwX12_codesTell iwX12_codesTell vwX12_codesTell lk_12_391 (by omega) (by decide) rfl (by decide) rfl rfl (Nat.le_of_ble_eq_true rfl) (fun r9 m10 => ?_)
      refine Ev.cS (av := [.long r9]) (st := []) (EX12_cut (l := l) (Ln := Ln) (xs := xs) (d := 0) f r9 m10 (by decide)) rfl (by decide +kernel) mwX12_cut swX12_cut lk_12_394 (by omega) rfl (Nat.le_of_ble_eq_true rfl) (fun r11 m12 => ?_)
      exact Ev.ireti rfl rfl (by decide +kernel)
  · refine Ev.run (pc' := 10) (ls' := [some (.ref 112), some (.int a1), none]) (st' := [.int 9]) (m' := m2) [(.bipush 9, 0, 0, 9, 0)] (by decide +kernel) rfl ?_
    exact Ev.ireti rfl rfl (by decide +kernel)
def FX12_feltBy (f : Nat) (a1 : Int32) (m : ev_M) : Option (Int32 × ev_M) :=
  (if (m.1 141 3) = (-1) then (ev_bd (FX12_moodOf f a1 m) (fun r5 m6 => some (r5, m6))) else (ev_bd (FX12_codesTell f (1 : Int32) a1 m) (fun r1 m2 => (ev_bd (FX12_cut f r1 m2) (fun r3 m4 => some (r3, m4))))))
set_option maxRecDepth 100000 in
set_option maxHeartbeats 4000000 in
theorem EX12_feltBy {l : Launch} {Ln : Nat} {xs : Nat → Int32} {d : Nat} (f : Nat) (a1 : Int32) (m : ev_M)  (hd : 3 ≤ d) : Mv ev_eI l Ln xs YX12_feltBy d Sx [.ref 112, .int a1] m (FX12_feltBy f a1 m) := by
  refine Mv.of (by decide +kernel) rfl (Nat.le_of_ble_eq_true rfl) (Ev.le (ls' := [some (.ref 112), some (.int a1)]) ⟨rfl, ⟨rfl, trivial⟩⟩ ?_)
  unfold FX12_feltBy
  refine Ev.run (pc' := 5) (ls' := [some (.ref 112), some (.int a1)]) (st' := [.int 3, .ref 141]) (m' := m) [(.aload_n 0, 0, 0, 0, 0), (.getfield 100, 12, 40, 0, 0), (.iconst 3, 0, 0, 3, 0)] (by decide +kernel) rfl ?_
  refine Ev.ialdK (n := 4) (j := 3) (by decide +kernel) (by decide) rfl rfl (by decide) ?_
  refine Ev.run (pc' := 7) (ls' := [some (.ref 112), some (.int a1)]) (st' := [.int (-1), .int (m.1 141 3)]) (m' := m) [(.iconst (-1), 0, 0, (-1), 0)] (by decide +kernel) rfl ?_
  refine Ev.ic_ne (t := 18) (by decide +kernel) ?_ ?_
  · refine Ev.run (pc' := 21) (ls' := [some (.ref 112), some (.int a1)]) (st' := [.int a1, .int 1, .ref 112]) (m' := m) [(.aload_n 0, 0, 0, 0, 0), (.iconst 1, 0, 0, 1, 0), (.iload_n 1, 0, 0, 0, 0)] (by decide +kernel) rfl ?_
    refine Ev.cV (av := [.int 1, .int a1]) (st := []) (a := 112) (EX12_codesTell (l := l) (Ln := Ln) (xs := xs) (d := 2) f (1 : Int32) a1 m (by decide)) rfl (by decide +kernel) mwX12_codesTell iwX12_codesTell vwX12_codesTell lk_12_391 (by omega) (by decide) rfl (by decide) rfl rfl (Nat.le_of_ble_eq_true rfl) (fun r1 m2 => ?_)
    refine Ev.cS (av := [.long r1]) (st := []) (EX12_cut (l := l) (Ln := Ln) (xs := xs) (d := 0) f r1 m2 (by decide)) rfl (by decide +kernel) mwX12_cut swX12_cut lk_12_394 (by omega) rfl (Nat.le_of_ble_eq_true rfl) (fun r3 m4 => ?_)
    exact Ev.ireti rfl rfl (by decide +kernel)
  · refine Ev.run (pc' := 12) (ls' := [some (.ref 112), some (.int a1)]) (st' := [.int a1, .ref 112]) (m' := m) [(.aload_n 0, 0, 0, 0, 0), (.iload_n 1, 0, 0, 0, 0)] (by decide +kernel) rfl ?_
    refine Ev.cV (av := [.int a1]) (st := []) (a := 112) (EX12_moodOf (l := l) (Ln := Ln) (xs := xs) (d := 0) f a1 m (by decide)) rfl (by decide +kernel) mwX12_moodOf iwX12_moodOf vwX12_moodOf lk_12_397 (by omega) (by decide) rfl (by decide) rfl rfl (Nat.le_of_ble_eq_true rfl) (fun r5 m6 => ?_)
    refine Ev.gto (t := 27) (by decide +kernel) ?_
    exact Ev.ireti rfl rfl (by decide +kernel)
