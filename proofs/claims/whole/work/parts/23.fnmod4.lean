def FX12_qFact_J102 (f : Nat)    (s1 : Int32) (m : ev_M) : Option (Unit × ev_M) :=
  (ev_bd (FX12_qCode f s1 m) (fun _ m10 => some ((), m10)))
def FX12_qFact_J63 (f : Nat)   (a1 : Int32)  (m : ev_M) : Option (Unit × ev_M) :=
  (ev_bd (FX12_qSums f ((ev_up m.1 112 2 ((m.1 112 2) + 1)), m.2)) (fun _ m8 => (if a1 = 60 then (FX12_qFact_J102 f (7 : Int32) m8) else (if a1 = 62 then (FX12_qFact_J102 f (8 : Int32) m8) else (FX12_qFact_J102 f (9 : Int32) m8)))))
def FX12_qFact (f : Nat)  (m : ev_M) : Option (Unit × ev_M) :=
  (ev_bd (FX12_takes f 163 m) (fun r1 m2 => (if r1 = 0 then (ev_bd (FX12_qSums f m2) (fun _ m4 => (if (m4.1 112 5) = 0 then (ev_bd (FX12_look f m4) (fun r5 m6 => (if r5 = 60 then (FX12_qFact_J63 f r5 m6) else (if r5 = 62 then (FX12_qFact_J63 f r5 m6) else (if r5 = 61 then (FX12_qFact_J63 f r5 m6) else (ev_bd (FX12_fail f (1 : Int32) (m6.1 112 2) m6) (fun _ m12 => some ((), m12)))))))) else some ((), m4)))) else (ev_bd (FX12_qCode f (13 : Int32) m2) (fun _ m14 => some ((), m14))))))
set_option maxRecDepth 100000 in
set_option maxHeartbeats 4000000 in
theorem EX12_qFact_J102 {l : Launch} {Ln : Nat} {xs : Nat → Int32} {d : Nat} (f : Nat)    (s1 : Int32) (m : ev_M)   (hd : 7 ≤ d) : Ev ev_eV l Ln xs YX12_qFact d Sx 102 [none, none] [.int s1, .ref 112] m (FX12_qFact_J102 f s1 m) := by
  unfold FX12_qFact_J102
  refine Ev.cV (av := [.int s1]) (st := []) (a := 112) (EX12_qCode (l := l) (Ln := Ln) (xs := xs) (d := 0) f s1 m (by decide)) rfl (by decide +kernel) mwX12_qCode iwX12_qCode vwX12_qCode lk_12_546 (by omega) (by decide) rfl (by decide) rfl rfl (Nat.le_of_ble_eq_true rfl) (fun r9 m10 => ?_)
  exact Ev.retv rfl rfl (by decide +kernel)
set_option maxRecDepth 100000 in
set_option maxHeartbeats 4000000 in
theorem EX12_qFact_J63 {l : Launch} {Ln : Nat} {xs : Nat → Int32} {d : Nat} (f : Nat)   (a1 : Int32)  (m : ev_M)   (hd : 7 ≤ d) : Ev ev_eV l Ln xs YX12_qFact d Sx 63 [some (.ref 112), some (.int a1)] [] m (FX12_qFact_J63 f a1 m) := by
  unfold FX12_qFact_J63
  refine Ev.run (pc' := 74) (ls' := [some (.ref 112), some (.int a1)]) (st' := [.ref 112]) (m' := ((ev_up m.1 112 2 ((m.1 112 2) + 1)), m.2)) [(.aload_n 0, 0, 0, 0, 0), (.dup, 0, 0, 0, 0), (.getfield 234, 12, 2, 0, 0), (.iconst 1, 0, 0, 1, 0), (.iadd, 0, 0, 0, 0), (.putfield 234, 12, 2, 0, 0), (.aload_n 0, 0, 0, 0, 0)] (by decide +kernel) rfl ?_
  refine Ev.cV (av := []) (st := []) (a := 112) (EX12_qSums (l := l) (Ln := Ln) (xs := xs) (d := 6) f ((ev_up m.1 112 2 ((m.1 112 2) + 1)), m.2) (by decide)) rfl (by decide +kernel) mwX12_qSums iwX12_qSums vwX12_qSums lk_12_326 (by omega) (by decide) rfl (by decide) rfl rfl (Nat.le_of_ble_eq_true rfl) (fun r7 m8 => ?_)
  refine Ev.run (pc' := 81) (ls' := [some (.ref 112), some (.int a1)]) (st' := [.int 60, .int a1, .ref 112]) (m' := m8) [(.aload_n 0, 0, 0, 0, 0), (.iload_n 1, 0, 0, 0, 0), (.bipush 60, 0, 0, 60, 0)] (by decide +kernel) rfl ?_
  refine Ev.ic_ne (t := 89) (by decide +kernel) ?_ ?_
  · refine Ev.run (pc' := 92) (ls' := [some (.ref 112), some (.int a1)]) (st' := [.int 62, .int a1, .ref 112]) (m' := m8) [(.iload_n 1, 0, 0, 0, 0), (.bipush 62, 0, 0, 62, 0)] (by decide +kernel) rfl ?_
    refine Ev.ic_ne (t := 100) (by decide +kernel) ?_ ?_
    · refine Ev.run (pc' := 102) (ls' := [some (.ref 112), some (.int a1)]) (st' := [.int 9, .ref 112]) (m' := m8) [(.bipush 9, 0, 0, 9, 0)] (by decide +kernel) rfl ?_
      refine Ev.le (ls' := [none, none]) trivial ?_
      exact EX12_qFact_J102 f (9 : Int32) m8 (by omega)
    · refine Ev.run (pc' := 97) (ls' := [some (.ref 112), some (.int a1)]) (st' := [.int 8, .ref 112]) (m' := m8) [(.bipush 8, 0, 0, 8, 0)] (by decide +kernel) rfl ?_
      refine Ev.gto (t := 102) (by decide +kernel) ?_
      refine Ev.le (ls' := [none, none]) trivial ?_
      exact EX12_qFact_J102 f (8 : Int32) m8 (by omega)
  · refine Ev.run (pc' := 86) (ls' := [some (.ref 112), some (.int a1)]) (st' := [.int 7, .ref 112]) (m' := m8) [(.bipush 7, 0, 0, 7, 0)] (by decide +kernel) rfl ?_
    refine Ev.gto (t := 102) (by decide +kernel) ?_
    refine Ev.le (ls' := [none, none]) trivial ?_
    exact EX12_qFact_J102 f (7 : Int32) m8 (by omega)
set_option maxRecDepth 100000 in
set_option maxHeartbeats 4000000 in
theorem EX12_qFact {l : Launch} {Ln : Nat} {xs : Nat → Int32} {d : Nat} (f : Nat)  (m : ev_M)  (hd : 7 ≤ d) : Mv ev_eV l Ln xs YX12_qFact d Sx [.ref 112] m (FX12_qFact f  m) := by
  refine Mv.of (by decide +kernel) rfl (Nat.le_of_ble_eq_true rfl) (Ev.le (ls' := [some (.ref 112), none]) ⟨rfl, trivial⟩ ?_)
  unfold FX12_qFact
  refine Ev.run (pc' := 5) (ls' := [some (.ref 112), none]) (st' := [.ref 163, .ref 112]) (m' := m) [(.aload_n 0, 0, 0, 0, 0), (.aload_n 0, 0, 0, 0, 0), (.getfield 171, 12, 78, 0, 0)] (by decide +kernel) rfl ?_
  refine Ev.cV (av := [.ref 163]) (st := []) (a := 112) (EX12_takes (l := l) (Ln := Ln) (xs := xs) (d := 2) f 163 m (by decide) (by decide)) rfl (by decide +kernel) mwX12_takes iwX12_takes vwX12_takes lk_12_255 (by omega) (by decide) rfl (by decide) rfl rfl (Nat.le_of_ble_eq_true rfl) (fun r1 m2 => ?_)
  refine Ev.if_eq (t := 18) (by decide +kernel) ?_ ?_
  · refine Ev.run (pc' := 19) (ls' := [some (.ref 112), none]) (st' := [.ref 112]) (m' := m2) [(.aload_n 0, 0, 0, 0, 0)] (by decide +kernel) rfl ?_
    refine Ev.cV (av := []) (st := []) (a := 112) (EX12_qSums (l := l) (Ln := Ln) (xs := xs) (d := 6) f m2 (by decide)) rfl (by decide +kernel) mwX12_qSums iwX12_qSums vwX12_qSums lk_12_326 (by omega) (by decide) rfl (by decide) rfl rfl (Nat.le_of_ble_eq_true rfl) (fun r3 m4 => ?_)
    refine Ev.run (pc' := 26) (ls' := [some (.ref 112), none]) (st' := [.int (m4.1 112 5)]) (m' := m4) [(.aload_n 0, 0, 0, 0, 0), (.getfield 228, 12, 5, 0, 0)] (by decide +kernel) rfl ?_
    refine Ev.if_eq (t := 30) (by decide +kernel) ?_ ?_
    · refine Ev.run (pc' := 31) (ls' := [some (.ref 112), none]) (st' := [.ref 112]) (m' := m4) [(.aload_n 0, 0, 0, 0, 0)] (by decide +kernel) rfl ?_
      refine Ev.cV (av := []) (st := []) (a := 112) (EX12_look (l := l) (Ln := Ln) (xs := xs) (d := 0) f m4 (by decide)) rfl (by decide +kernel) mwX12_look iwX12_look vwX12_look lk_12_240 (by omega) (by decide) rfl (by decide) rfl rfl (Nat.le_of_ble_eq_true rfl) (fun r5 m6 => ?_)
      refine Ev.run (pc' := 38) (ls' := [some (.ref 112), some (.int r5)]) (st' := [.int 60, .int r5]) (m' := m6) [(.istore_n 1, 0, 0, 0, 0), (.iload_n 1, 0, 0, 0, 0), (.bipush 60, 0, 0, 60, 0)] (by decide +kernel) rfl ?_
      refine Ev.ic_eq (t := 63) (by decide +kernel) ?_ ?_
      · exact EX12_qFact_J63 f r5 m6 (by omega)
      · refine Ev.run (pc' := 44) (ls' := [some (.ref 112), some (.int r5)]) (st' := [.int 62, .int r5]) (m' := m6) [(.iload_n 1, 0, 0, 0, 0), (.bipush 62, 0, 0, 62, 0)] (by decide +kernel) rfl ?_
        refine Ev.ic_eq (t := 63) (by decide +kernel) ?_ ?_
        · exact EX12_qFact_J63 f r5 m6 (by omega)
        · refine Ev.run (pc' := 50) (ls' := [some (.ref 112), some (.int r5)]) (st' := [.int 61, .int r5]) (m' := m6) [(.iload_n 1, 0, 0, 0, 0), (.bipush 61, 0, 0, 61, 0)] (by decide +kernel) rfl ?_
          refine Ev.ic_eq (t := 63) (by decide +kernel) ?_ ?_
          · exact EX12_qFact_J63 f r5 m6 (by omega)
          · refine Ev.run (pc' := 59) (ls' := [some (.ref 112), some (.int r5)]) (st' := [.int (m6.1 112 2), .int 1, .ref 112]) (m' := m6) [(.aload_n 0, 0, 0, 0, 0), (.iconst 1, 0, 0, 1, 0), (.aload_n 0, 0, 0, 0, 0), (.getfield 234, 12, 2, 0, 0)] (by decide +kernel) rfl ?_
            refine Ev.cV (av := [.int 1, .int (m6.1 112 2)]) (st := []) (a := 112) (EX12_fail (l := l) (Ln := Ln) (xs := xs) (d := 0) f (1 : Int32) (m6.1 112 2) m6 (by decide)) rfl (by decide +kernel) mwX12_fail iwX12_fail vwX12_fail lk_12_258 (by omega) (by decide) rfl (by decide) rfl rfl (Nat.le_of_ble_eq_true rfl) (fun r11 m12 => ?_)
            exact Ev.retv rfl rfl (by decide +kernel)
    · exact Ev.retv rfl rfl (by decide +kernel)
  · refine Ev.run (pc' := 14) (ls' := [some (.ref 112), none]) (st' := [.int 13, .ref 112]) (m' := m2) [(.aload_n 0, 0, 0, 0, 0), (.bipush 13, 0, 0, 13, 0)] (by decide +kernel) rfl ?_
    refine Ev.cV (av := [.int 13]) (st := []) (a := 112) (EX12_qCode (l := l) (Ln := Ln) (xs := xs) (d := 0) f (13 : Int32) m2 (by decide)) rfl (by decide +kernel) mwX12_qCode iwX12_qCode vwX12_qCode lk_12_546 (by omega) (by decide) rfl (by decide) rfl rfl (Nat.le_of_ble_eq_true rfl) (fun r13 m14 => ?_)
    exact Ev.retv rfl rfl (by decide +kernel)
def FX12_qHasSquare_L2 (f : Nat) (k : ev_M → Option (Int32 × ev_M))   : Nat → Int32 → ev_M → Option (Int32 × ev_M)
  | 0, _, _ => none
  | n + 1, a1, m => (if (m.1 112 95) ≤ a1 then (k m) else (if ev_in a1 1700 then (if (m.1 178 a1.toNatClampNeg) = 25 then some (1, m) else (FX12_qHasSquare_L2 f k n (a1 + 1) m)) else none))
def FX12_qHasSquare (f : Nat)  (m : ev_M) : Option (Int32 × ev_M) :=
  (FX12_qHasSquare_L2 f (fun m1 => some (0, m1)) f (0 : Int32) m)
set_option maxRecDepth 100000 in
set_option maxHeartbeats 4000000 in
theorem EX12_qHasSquare_L2 {l : Launch} {Ln : Nat} {xs : Nat → Int32} {d : Nat} (f : Nat) (k : ev_M → Option (Int32 × ev_M))     (hk : ∀  (em : ev_M), Ev ev_eI l Ln xs YX12_qHasSquare d Sx 29 [none, none] [] em (k em)) (hd : 0 ≤ d) : ∀ (n : Nat) (a1 : Int32) (m : ev_M), Ev ev_eI l Ln xs YX12_qHasSquare d Sx 2 [some (.ref 112), some (.int a1)] [] m (FX12_qHasSquare_L2 f k n a1 m) := by
  intro n
  induction n with
  | zero => intros; exact Ev.nn
  | succ n ih =>
    intro a1 m
    rw [FX12_qHasSquare_L2]
    refine Ev.run (pc' := 7) (ls' := [some (.ref 112), some (.int a1)]) (st' := [.int (m.1 112 95), .int a1]) (m' := m) [(.iload_n 1, 0, 0, 0, 0), (.aload_n 0, 0, 0, 0, 0), (.getfield 317, 12, 95, 0, 0)] (by decide +kernel) rfl ?_
    refine Ev.ic_ge (t := 29) (by decide +kernel) ?_ ?_
    · refine Ev.le (ls' := [none, none]) trivial ?_
      exact hk _
    · refine Ev.run (pc' := 15) (ls' := [some (.ref 112), some (.int a1)]) (st' := [.int a1, .ref 178]) (m' := m) [(.aload_n 0, 0, 0, 0, 0), (.getfield 216, 12, 94, 0, 0), (.iload_n 1, 0, 0, 0, 0)] (by decide +kernel) rfl ?_
      refine Ev.iald (n := 1700) (by decide +kernel) (by decide) rfl ?_
      refine Ev.run (pc' := 18) (ls' := [some (.ref 112), some (.int a1)]) (st' := [.int 25, .int (m.1 178 a1.toNatClampNeg)]) (m' := m) [(.bipush 25, 0, 0, 25, 0)] (by decide +kernel) rfl ?_
      refine Ev.ic_ne (t := 23) (by decide +kernel) ?_ ?_
      · refine Ev.run (pc' := 26) (ls' := [some (.ref 112), some (.int (a1 + 1))]) (st' := []) (m' := m) [(.iinc 1 1, 0, 0, 1, 0)] (by decide +kernel) rfl ?_
        refine Ev.gto (t := 2) (by decide +kernel) ?_
        exact ih _ _
      · refine Ev.run (pc' := 22) (ls' := [some (.ref 112), some (.int a1)]) (st' := [.int 1]) (m' := m) [(.iconst 1, 0, 0, 1, 0)] (by decide +kernel) rfl ?_
        exact Ev.iretz rfl rfl (by decide +kernel) (by decide)
set_option maxRecDepth 100000 in
set_option maxHeartbeats 4000000 in
theorem EX12_qHasSquare {l : Launch} {Ln : Nat} {xs : Nat → Int32} {d : Nat} (f : Nat)  (m : ev_M)  (hd : 0 ≤ d) : Mv ev_eI l Ln xs YX12_qHasSquare d Sx [.ref 112] m (FX12_qHasSquare f  m) := by
  refine Mv.of (by decide +kernel) rfl (Nat.le_of_ble_eq_true rfl) (Ev.le (ls' := [some (.ref 112), none]) ⟨rfl, trivial⟩ ?_)
  unfold FX12_qHasSquare
  refine Ev.run (pc' := 2) (ls' := [some (.ref 112), some (.int 0)]) (st' := []) (m' := m) [(.iconst 0, 0, 0, 0, 0), (.istore_n 1, 0, 0, 0, 0)] (by decide +kernel) rfl ?_
  refine EX12_qHasSquare_L2 f _ ?_ (by omega) _ _ _
  intro m1
  refine Ev.run (pc' := 30) (ls' := [none, none]) (st' := [.int 0]) (m' := m1) [(.iconst 0, 0, 0, 0, 0)] (by decide +kernel) rfl ?_
  exact Ev.iretz rfl rfl (by decide +kernel) (by decide)
def FX12_qDropsNots_L0 (f : Nat) (k : ev_M → Option (Unit × ev_M))   : Nat → ev_M → Option (Unit × ev_M)
  | 0, _ => none
  | n + 1, m => (if (m.1 112 5) = 0 then (ev_bd (FX12_qIsOn f (12 : Int32) m) (fun r1 m2 => (if r1 = 0 then (k m2) else (ev_bd (FX12_qDrops f ((ev_up m2.1 112 96 ((m2.1 112 96) - 1)), m2.2)) (fun _ m4 => (FX12_qDropsNots_L0 f k n m4)))))) else (k m))
def FX12_qDropsNots (f : Nat)  (m : ev_M) : Option (Unit × ev_M) :=
  (FX12_qDropsNots_L0 f (fun m5 => some ((), m5)) f m)
set_option maxRecDepth 100000 in
set_option maxHeartbeats 4000000 in
theorem EX12_qDropsNots_L0 {l : Launch} {Ln : Nat} {xs : Nat → Int32} {d : Nat} (f : Nat) (k : ev_M → Option (Unit × ev_M))     (hk : ∀  (em : ev_M), Ev ev_eV l Ln xs YX12_qDropsNots d Sx 33 [none] [] em (k em)) (hd : 2 ≤ d) : ∀ (n : Nat)  (m : ev_M), Ev ev_eV l Ln xs YX12_qDropsNots d Sx 0 [some (.ref 112)] [] m (FX12_qDropsNots_L0 f k n m) := by
  intro n
  induction n with
  | zero => intros; exact Ev.nn
  | succ n ih =>
    intro  m
    rw [FX12_qDropsNots_L0]
    refine Ev.run (pc' := 4) (ls' := [some (.ref 112)]) (st' := [.int (m.1 112 5)]) (m' := m) [(.aload_n 0, 0, 0, 0, 0), (.getfield 228, 12, 5, 0, 0)] (by decide +kernel) rfl ?_
    refine Ev.if_ne (t := 33) (by decide +kernel) ?_ ?_
    · refine Ev.le (ls' := [none]) trivial ?_
      exact hk _
    · refine Ev.run (pc' := 10) (ls' := [some (.ref 112)]) (st' := [.int 12, .ref 112]) (m' := m) [(.aload_n 0, 0, 0, 0, 0), (.bipush 12, 0, 0, 12, 0)] (by decide +kernel) rfl ?_
      refine Ev.cV (av := [.int 12]) (st := []) (a := 112) (EX12_qIsOn (l := l) (Ln := Ln) (xs := xs) (d := 0) f (12 : Int32) m (by decide)) rfl (by decide +kernel) mwX12_qIsOn iwX12_qIsOn vwX12_qIsOn lk_12_579 (by omega) (by decide) rfl (by decide) rfl rfl (Nat.le_of_ble_eq_true rfl) (fun r1 m2 => ?_)
      refine Ev.if_eq (t := 33) (by decide +kernel) ?_ ?_
      · refine Ev.le (ls' := [none]) trivial ?_
        exact hk _
      · refine Ev.run (pc' := 27) (ls' := [some (.ref 112)]) (st' := [.ref 112]) (m' := ((ev_up m2.1 112 96 ((m2.1 112 96) - 1)), m2.2)) [(.aload_n 0, 0, 0, 0, 0), (.dup, 0, 0, 0, 0), (.getfield 320, 12, 96, 0, 0), (.iconst 1, 0, 0, 1, 0), (.isub, 0, 0, 0, 0), (.putfield 320, 12, 96, 0, 0), (.aload_n 0, 0, 0, 0, 0)] (by decide +kernel) rfl ?_
        refine Ev.cV (av := []) (st := []) (a := 112) (EX12_qDrops (l := l) (Ln := Ln) (xs := xs) (d := 1) f ((ev_up m2.1 112 96 ((m2.1 112 96) - 1)), m2.2) (by decide)) rfl (by decide +kernel) mwX12_qDrops iwX12_qDrops vwX12_qDrops lk_12_552 (by omega) (by decide) rfl (by decide) rfl rfl (Nat.le_of_ble_eq_true rfl) (fun r3 m4 => ?_)
        refine Ev.gto (t := 0) (by decide +kernel) ?_
        exact ih _
set_option maxRecDepth 100000 in
set_option maxHeartbeats 4000000 in
theorem EX12_qDropsNots {l : Launch} {Ln : Nat} {xs : Nat → Int32} {d : Nat} (f : Nat)  (m : ev_M)  (hd : 2 ≤ d) : Mv ev_eV l Ln xs YX12_qDropsNots d Sx [.ref 112] m (FX12_qDropsNots f  m) := by
  refine Mv.of (by decide +kernel) rfl (Nat.le_of_ble_eq_true rfl) (Ev.le (ls' := [some (.ref 112)]) ⟨rfl, trivial⟩ ?_)
  unfold FX12_qDropsNots
  refine EX12_qDropsNots_L0 f _ ?_ (by omega) _ _
  intro m5
  exact Ev.retv rfl rfl (by decide +kernel)
def FX12_qGoesOnTest_L33 (f : Nat) (k : ev_M → Option (Int32 × ev_M))   : Nat → ev_M → Option (Int32 × ev_M)
  | 0, _ => none
  | n + 1, m => (ev_bd (FX12_qIsOn f (25 : Int32) m) (fun r5 m6 => (if r5 = 0 then (ev_bd (FX12_qDrops f m6) (fun _ m8 => (FX12_qGoesOnTest_L33 f k n m8))) else (k m6))))
def FX12_qGoesOnTest_L0 (f : Nat) (k : ev_M → Option (Int32 × ev_M))   : Nat → ev_M → Option (Int32 × ev_M)
  | 0, _ => none
  | n + 1, m => (if (m.1 112 5) = 0 then (ev_bd (FX12_look f m) (fun r1 m2 => (if r1 = 93 then (ev_bd (FX12_qHasSquare f m2) (fun r3 m4 => (if r3 = 0 then (k m4) else (FX12_qGoesOnTest_L33 f (fun m9 => (ev_bd (FX12_qDropsNots f ((ev_up (ev_up m9.1 112 95 ((m9.1 112 95) - 1)) 112 96 ((m9.1 112 96) - 1)), m9.2)) (fun _ m11 => (FX12_qGoesOnTest_L0 f k n m11)))) f ((ev_up m4.1 112 2 ((m4.1 112 2) + 1)), m4.2))))) else (k m2)))) else (k m))
def FX12_qGoesOnTest_J155 (f : Nat) (kt137 : ev_M → Option (Int32 × ev_M))    (m : ev_M) : Option (Int32 × ev_M) :=
  (ev_bd (FX12_qDrops f m) (fun _ m24 => (kt137 m24)))
def FX12_qGoesOnTest_L137 (f : Nat) (k : ev_M → Option (Int32 × ev_M))   : Nat → ev_M → Option (Int32 × ev_M)
  | 0, _ => none
  | n + 1, m => (ev_bd (FX12_qIsOn f (10 : Int32) m) (fun r21 m22 => (if r21 = 0 then (ev_bd (FX12_qIsOn f (11 : Int32) m22) (fun r25 m26 => (if r25 = 0 then (k m26) else (FX12_qGoesOnTest_J155 f (FX12_qGoesOnTest_L137 f k n) m26)))) else (FX12_qGoesOnTest_J155 f (FX12_qGoesOnTest_L137 f k n) m22))))
def FX12_qGoesOnTest_L87 (f : Nat) (k : ev_M → Option (Int32 × ev_M))   : Nat → ev_M → Option (Int32 × ev_M)
  | 0, _ => none
  | n + 1, m => (ev_bd (FX12_qIsOn f (10 : Int32) m) (fun r28 m29 => (if r28 = 0 then (k m29) else (ev_bd (FX12_qDrops f m29) (fun _ m31 => (FX12_qGoesOnTest_L87 f k n m31))))))
def FX12_qGoesOnTest_J76 (f : Nat)     (m : ev_M) : Option (Int32 × ev_M) :=
  (ev_bd (FX12_takes f 161 m) (fun r13 m14 => (if r13 = 0 then (ev_bd (FX12_takes f 162 m14) (fun r15 m16 => (if r15 = 0 then (if (m16.1 112 5) = 0 then (ev_bd (FX12_qHasSquare f m16) (fun r17 m18 => (if r17 = 0 then some (0, m18) else (ev_bd (FX12_fail f (1 : Int32) (m18.1 112 2) m18) (fun _ m20 => some (0, m20)))))) else some (0, m16)) else (FX12_qGoesOnTest_L137 f (fun m27 => (if ev_in (m27.1 112 95) 1700 then some (1, ((ev_up (ev_up m27.1 178 (m27.1 112 95).toNatClampNeg 11) 112 95 ((m27.1 112 95) + 1)), m27.2)) else none)) f m16)))) else (FX12_qGoesOnTest_L87 f (fun m32 => (if ev_in (m32.1 112 95) 1700 then some (1, ((ev_up (ev_up m32.1 178 (m32.1 112 95).toNatClampNeg 10) 112 95 ((m32.1 112 95) + 1)), m32.2)) else none)) f m14))))
def FX12_qGoesOnTest (f : Nat)  (m : ev_M) : Option (Int32 × ev_M) :=
  (FX12_qGoesOnTest_L0 f (fun m12 => (FX12_qGoesOnTest_J76 f m12)) f m)
set_option maxRecDepth 100000 in
set_option maxHeartbeats 4000000 in
theorem EX12_qGoesOnTest_L33 {l : Launch} {Ln : Nat} {xs : Nat → Int32} {d : Nat} (f : Nat) (k : ev_M → Option (Int32 × ev_M))     (hk : ∀  (em : ev_M), Ev ev_eI l Ln xs YX12_qGoesOnTest d Sx 49 [some (.ref 112)] [] em (k em)) (hd : 3 ≤ d) : ∀ (n : Nat)  (m : ev_M), Ev ev_eI l Ln xs YX12_qGoesOnTest d Sx 33 [some (.ref 112)] [] m (FX12_qGoesOnTest_L33 f k n m) := by
  intro n
  induction n with
  | zero => intros; exact Ev.nn
  | succ n ih =>
    intro  m
    rw [FX12_qGoesOnTest_L33]
    refine Ev.run (pc' := 36) (ls' := [some (.ref 112)]) (st' := [.int 25, .ref 112]) (m' := m) [(.aload_n 0, 0, 0, 0, 0), (.bipush 25, 0, 0, 25, 0)] (by decide +kernel) rfl ?_
    refine Ev.cV (av := [.int 25]) (st := []) (a := 112) (EX12_qIsOn (l := l) (Ln := Ln) (xs := xs) (d := 0) f (25 : Int32) m (by decide)) rfl (by decide +kernel) mwX12_qIsOn iwX12_qIsOn vwX12_qIsOn lk_12_579 (by omega) (by decide) rfl (by decide) rfl rfl (Nat.le_of_ble_eq_true rfl) (fun r5 m6 => ?_)
    refine Ev.if_ne (t := 49) (by decide +kernel) ?_ ?_
    · exact hk _
    · refine Ev.run (pc' := 43) (ls' := [some (.ref 112)]) (st' := [.ref 112]) (m' := m6) [(.aload_n 0, 0, 0, 0, 0)] (by decide +kernel) rfl ?_
      refine Ev.cV (av := []) (st := []) (a := 112) (EX12_qDrops (l := l) (Ln := Ln) (xs := xs) (d := 1) f m6 (by decide)) rfl (by decide +kernel) mwX12_qDrops iwX12_qDrops vwX12_qDrops lk_12_552 (by omega) (by decide) rfl (by decide) rfl rfl (Nat.le_of_ble_eq_true rfl) (fun r7 m8 => ?_)
      refine Ev.gto (t := 33) (by decide +kernel) ?_
      exact ih _
set_option maxRecDepth 100000 in
set_option maxHeartbeats 4000000 in
theorem EX12_qGoesOnTest_L0 {l : Launch} {Ln : Nat} {xs : Nat → Int32} {d : Nat} (f : Nat) (k : ev_M → Option (Int32 × ev_M))     (hk : ∀  (em : ev_M), Ev ev_eI l Ln xs YX12_qGoesOnTest d Sx 76 [some (.ref 112)] [] em (k em)) (hd : 3 ≤ d) : ∀ (n : Nat)  (m : ev_M), Ev ev_eI l Ln xs YX12_qGoesOnTest d Sx 0 [some (.ref 112)] [] m (FX12_qGoesOnTest_L0 f k n m) := by
  intro n
  induction n with
  | zero => intros; exact Ev.nn
  | succ n ih =>
    intro  m
    rw [FX12_qGoesOnTest_L0]
    refine Ev.run (pc' := 4) (ls' := [some (.ref 112)]) (st' := [.int (m.1 112 5)]) (m' := m) [(.aload_n 0, 0, 0, 0, 0), (.getfield 228, 12, 5, 0, 0)] (by decide +kernel) rfl ?_
    refine Ev.if_ne (t := 76) (by decide +kernel) ?_ ?_
    · exact hk _
    · refine Ev.run (pc' := 8) (ls' := [some (.ref 112)]) (st' := [.ref 112]) (m' := m) [(.aload_n 0, 0, 0, 0, 0)] (by decide +kernel) rfl ?_
      refine Ev.cV (av := []) (st := []) (a := 112) (EX12_look (l := l) (Ln := Ln) (xs := xs) (d := 0) f m (by decide)) rfl (by decide +kernel) mwX12_look iwX12_look vwX12_look lk_12_240 (by omega) (by decide) rfl (by decide) rfl rfl (Nat.le_of_ble_eq_true rfl) (fun r1 m2 => ?_)
      refine Ev.run (pc' := 13) (ls' := [some (.ref 112)]) (st' := [.int 93, .int r1]) (m' := m2) [(.bipush 93, 0, 0, 93, 0)] (by decide +kernel) rfl ?_
      refine Ev.ic_ne (t := 76) (by decide +kernel) ?_ ?_
      · exact hk _
      · refine Ev.run (pc' := 17) (ls' := [some (.ref 112)]) (st' := [.ref 112]) (m' := m2) [(.aload_n 0, 0, 0, 0, 0)] (by decide +kernel) rfl ?_
        refine Ev.cV (av := []) (st := []) (a := 112) (EX12_qHasSquare (l := l) (Ln := Ln) (xs := xs) (d := 0) f m2 (by decide)) rfl (by decide +kernel) mwX12_qHasSquare iwX12_qHasSquare vwX12_qHasSquare lk_12_597 (by omega) (by decide) rfl (by decide) rfl rfl (Nat.le_of_ble_eq_true rfl) (fun r3 m4 => ?_)
        refine Ev.if_eq (t := 76) (by decide +kernel) ?_ ?_
        · exact hk _
        · refine Ev.run (pc' := 33) (ls' := [some (.ref 112)]) (st' := []) (m' := ((ev_up m4.1 112 2 ((m4.1 112 2) + 1)), m4.2)) [(.aload_n 0, 0, 0, 0, 0), (.dup, 0, 0, 0, 0), (.getfield 234, 12, 2, 0, 0), (.iconst 1, 0, 0, 1, 0), (.iadd, 0, 0, 0, 0), (.putfield 234, 12, 2, 0, 0)] (by decide +kernel) rfl ?_
          refine EX12_qGoesOnTest_L33 f _ ?_ (by omega) _ _
          intro m9
          refine Ev.run (pc' := 70) (ls' := [some (.ref 112)]) (st' := [.ref 112]) (m' := ((ev_up (ev_up m9.1 112 95 ((m9.1 112 95) - 1)) 112 96 ((m9.1 112 96) - 1)), m9.2)) [(.aload_n 0, 0, 0, 0, 0), (.dup, 0, 0, 0, 0), (.getfield 317, 12, 95, 0, 0), (.iconst 1, 0, 0, 1, 0), (.isub, 0, 0, 0, 0), (.putfield 317, 12, 95, 0, 0), (.aload_n 0, 0, 0, 0, 0), (.dup, 0, 0, 0, 0), (.getfield 320, 12, 96, 0, 0), (.iconst 1, 0, 0, 1, 0), (.isub, 0, 0, 0, 0), (.putfield 320, 12, 96, 0, 0), (.aload_n 0, 0, 0, 0, 0)] (by decide +kernel) rfl ?_
          refine Ev.cV (av := []) (st := []) (a := 112) (EX12_qDropsNots (l := l) (Ln := Ln) (xs := xs) (d := 2) f ((ev_up (ev_up m9.1 112 95 ((m9.1 112 95) - 1)) 112 96 ((m9.1 112 96) - 1)), m9.2) (by decide)) rfl (by decide +kernel) mwX12_qDropsNots iwX12_qDropsNots vwX12_qDropsNots lk_12_591 (by omega) (by decide) rfl (by decide) rfl rfl (Nat.le_of_ble_eq_true rfl) (fun r10 m11 => ?_)
          refine Ev.gto (t := 0) (by decide +kernel) ?_
          exact ih _
set_option maxRecDepth 100000 in
set_option maxHeartbeats 4000000 in
theorem EX12_qGoesOnTest_J155 {l : Launch} {Ln : Nat} {xs : Nat → Int32} {d : Nat} (f : Nat) (kt137 : ev_M → Option (Int32 × ev_M))    (m : ev_M)  (hkt137 : ∀  (em : ev_M), Ev ev_eI l Ln xs YX12_qGoesOnTest d Sx 137 [some (.ref 112)] [] em (kt137 em)) (hd : 3 ≤ d) : Ev ev_eI l Ln xs YX12_qGoesOnTest d Sx 155 [some (.ref 112)] [] m (FX12_qGoesOnTest_J155 f kt137 m) := by
  unfold FX12_qGoesOnTest_J155
  refine Ev.run (pc' := 156) (ls' := [some (.ref 112)]) (st' := [.ref 112]) (m' := m) [(.aload_n 0, 0, 0, 0, 0)] (by decide +kernel) rfl ?_
  refine Ev.cV (av := []) (st := []) (a := 112) (EX12_qDrops (l := l) (Ln := Ln) (xs := xs) (d := 1) f m (by decide)) rfl (by decide +kernel) mwX12_qDrops iwX12_qDrops vwX12_qDrops lk_12_552 (by omega) (by decide) rfl (by decide) rfl rfl (Nat.le_of_ble_eq_true rfl) (fun r23 m24 => ?_)
  refine Ev.gto (t := 137) (by decide +kernel) ?_
  exact hkt137 _
set_option maxRecDepth 100000 in
set_option maxHeartbeats 4000000 in
theorem EX12_qGoesOnTest_L137 {l : Launch} {Ln : Nat} {xs : Nat → Int32} {d : Nat} (f : Nat) (k : ev_M → Option (Int32 × ev_M))     (hk : ∀  (em : ev_M), Ev ev_eI l Ln xs YX12_qGoesOnTest d Sx 162 [some (.ref 112)] [] em (k em)) (hd : 3 ≤ d) : ∀ (n : Nat)  (m : ev_M), Ev ev_eI l Ln xs YX12_qGoesOnTest d Sx 137 [some (.ref 112)] [] m (FX12_qGoesOnTest_L137 f k n m) := by
  intro n
  induction n with
  | zero => intros; exact Ev.nn
  | succ n ih =>
    intro  m
    rw [FX12_qGoesOnTest_L137]
    refine Ev.run (pc' := 140) (ls' := [some (.ref 112)]) (st' := [.int 10, .ref 112]) (m' := m) [(.aload_n 0, 0, 0, 0, 0), (.bipush 10, 0, 0, 10, 0)] (by decide +kernel) rfl ?_
    refine Ev.cV (av := [.int 10]) (st := []) (a := 112) (EX12_qIsOn (l := l) (Ln := Ln) (xs := xs) (d := 0) f (10 : Int32) m (by decide)) rfl (by decide +kernel) mwX12_qIsOn iwX12_qIsOn vwX12_qIsOn lk_12_579 (by omega) (by decide) rfl (by decide) rfl rfl (Nat.le_of_ble_eq_true rfl) (fun r21 m22 => ?_)
    refine Ev.if_ne (t := 155) (by decide +kernel) ?_ ?_
    · exact EX12_qGoesOnTest_J155 f (FX12_qGoesOnTest_L137 f k n) m22 ih (by omega)
    · refine Ev.run (pc' := 149) (ls' := [some (.ref 112)]) (st' := [.int 11, .ref 112]) (m' := m22) [(.aload_n 0, 0, 0, 0, 0), (.bipush 11, 0, 0, 11, 0)] (by decide +kernel) rfl ?_
      refine Ev.cV (av := [.int 11]) (st := []) (a := 112) (EX12_qIsOn (l := l) (Ln := Ln) (xs := xs) (d := 0) f (11 : Int32) m22 (by decide)) rfl (by decide +kernel) mwX12_qIsOn iwX12_qIsOn vwX12_qIsOn lk_12_579 (by omega) (by decide) rfl (by decide) rfl rfl (Nat.le_of_ble_eq_true rfl) (fun r25 m26 => ?_)
      refine Ev.if_eq (t := 162) (by decide +kernel) ?_ ?_
      · exact hk _
      · exact EX12_qGoesOnTest_J155 f (FX12_qGoesOnTest_L137 f k n) m26 ih (by omega)
set_option maxRecDepth 100000 in
set_option maxHeartbeats 4000000 in
theorem EX12_qGoesOnTest_L87 {l : Launch} {Ln : Nat} {xs : Nat → Int32} {d : Nat} (f : Nat) (k : ev_M → Option (Int32 × ev_M))     (hk : ∀  (em : ev_M), Ev ev_eI l Ln xs YX12_qGoesOnTest d Sx 103 [some (.ref 112)] [] em (k em)) (hd : 3 ≤ d) : ∀ (n : Nat)  (m : ev_M), Ev ev_eI l Ln xs YX12_qGoesOnTest d Sx 87 [some (.ref 112)] [] m (FX12_qGoesOnTest_L87 f k n m) := by
  intro n
  induction n with
  | zero => intros; exact Ev.nn
  | succ n ih =>
    intro  m
    rw [FX12_qGoesOnTest_L87]
    refine Ev.run (pc' := 90) (ls' := [some (.ref 112)]) (st' := [.int 10, .ref 112]) (m' := m) [(.aload_n 0, 0, 0, 0, 0), (.bipush 10, 0, 0, 10, 0)] (by decide +kernel) rfl ?_
    refine Ev.cV (av := [.int 10]) (st := []) (a := 112) (EX12_qIsOn (l := l) (Ln := Ln) (xs := xs) (d := 0) f (10 : Int32) m (by decide)) rfl (by decide +kernel) mwX12_qIsOn iwX12_qIsOn vwX12_qIsOn lk_12_579 (by omega) (by decide) rfl (by decide) rfl rfl (Nat.le_of_ble_eq_true rfl) (fun r28 m29 => ?_)
    refine Ev.if_eq (t := 103) (by decide +kernel) ?_ ?_
    · exact hk _
    · refine Ev.run (pc' := 97) (ls' := [some (.ref 112)]) (st' := [.ref 112]) (m' := m29) [(.aload_n 0, 0, 0, 0, 0)] (by decide +kernel) rfl ?_
      refine Ev.cV (av := []) (st := []) (a := 112) (EX12_qDrops (l := l) (Ln := Ln) (xs := xs) (d := 1) f m29 (by decide)) rfl (by decide +kernel) mwX12_qDrops iwX12_qDrops vwX12_qDrops lk_12_552 (by omega) (by decide) rfl (by decide) rfl rfl (Nat.le_of_ble_eq_true rfl) (fun r30 m31 => ?_)
      refine Ev.gto (t := 87) (by decide +kernel) ?_
      exact ih _
set_option maxRecDepth 100000 in
set_option maxHeartbeats 4000000 in
theorem EX12_qGoesOnTest_J76 {l : Launch} {Ln : Nat} {xs : Nat → Int32} {d : Nat} (f : Nat)     (m : ev_M)   (hd : 3 ≤ d) : Ev ev_eI l Ln xs YX12_qGoesOnTest d Sx 76 [some (.ref 112)] [] m (FX12_qGoesOnTest_J76 f m) := by
  unfold FX12_qGoesOnTest_J76
  refine Ev.run (pc' := 81) (ls' := [some (.ref 112)]) (st' := [.ref 161, .ref 112]) (m' := m) [(.aload_n 0, 0, 0, 0, 0), (.aload_n 0, 0, 0, 0, 0), (.getfield 165, 12, 76, 0, 0)] (by decide +kernel) rfl ?_
  refine Ev.cV (av := [.ref 161]) (st := []) (a := 112) (EX12_takes (l := l) (Ln := Ln) (xs := xs) (d := 2) f 161 m (by decide) (by decide)) rfl (by decide +kernel) mwX12_takes iwX12_takes vwX12_takes lk_12_255 (by omega) (by decide) rfl (by decide) rfl rfl (Nat.le_of_ble_eq_true rfl) (fun r13 m14 => ?_)
  refine Ev.if_eq (t := 126) (by decide +kernel) ?_ ?_
  · refine Ev.run (pc' := 131) (ls' := [some (.ref 112)]) (st' := [.ref 162, .ref 112]) (m' := m14) [(.aload_n 0, 0, 0, 0, 0), (.aload_n 0, 0, 0, 0, 0), (.getfield 168, 12, 77, 0, 0)] (by decide +kernel) rfl ?_
    refine Ev.cV (av := [.ref 162]) (st := []) (a := 112) (EX12_takes (l := l) (Ln := Ln) (xs := xs) (d := 2) f 162 m14 (by decide) (by decide)) rfl (by decide +kernel) mwX12_takes iwX12_takes vwX12_takes lk_12_255 (by omega) (by decide) rfl (by decide) rfl rfl (Nat.le_of_ble_eq_true rfl) (fun r15 m16 => ?_)
    refine Ev.if_eq (t := 185) (by decide +kernel) ?_ ?_
    · refine Ev.run (pc' := 189) (ls' := [some (.ref 112)]) (st' := [.int (m16.1 112 5)]) (m' := m16) [(.aload_n 0, 0, 0, 0, 0), (.getfield 228, 12, 5, 0, 0)] (by decide +kernel) rfl ?_
      refine Ev.if_ne (t := 208) (by decide +kernel) ?_ ?_
      · refine Ev.run (pc' := 209) (ls' := [some (.ref 112)]) (st' := [.int 0]) (m' := m16) [(.iconst 0, 0, 0, 0, 0)] (by decide +kernel) rfl ?_
        exact Ev.iretz rfl rfl (by decide +kernel) (by decide)
      · refine Ev.run (pc' := 193) (ls' := [some (.ref 112)]) (st' := [.ref 112]) (m' := m16) [(.aload_n 0, 0, 0, 0, 0)] (by decide +kernel) rfl ?_
        refine Ev.cV (av := []) (st := []) (a := 112) (EX12_qHasSquare (l := l) (Ln := Ln) (xs := xs) (d := 0) f m16 (by decide)) rfl (by decide +kernel) mwX12_qHasSquare iwX12_qHasSquare vwX12_qHasSquare lk_12_597 (by omega) (by decide) rfl (by decide) rfl rfl (Nat.le_of_ble_eq_true rfl) (fun r17 m18 => ?_)
        refine Ev.if_eq (t := 208) (by decide +kernel) ?_ ?_
        · refine Ev.run (pc' := 209) (ls' := [some (.ref 112)]) (st' := [.int 0]) (m' := m18) [(.iconst 0, 0, 0, 0, 0)] (by decide +kernel) rfl ?_
          exact Ev.iretz rfl rfl (by decide +kernel) (by decide)
        · refine Ev.run (pc' := 205) (ls' := [some (.ref 112)]) (st' := [.int (m18.1 112 2), .int 1, .ref 112]) (m' := m18) [(.aload_n 0, 0, 0, 0, 0), (.iconst 1, 0, 0, 1, 0), (.aload_n 0, 0, 0, 0, 0), (.getfield 234, 12, 2, 0, 0)] (by decide +kernel) rfl ?_
          refine Ev.cV (av := [.int 1, .int (m18.1 112 2)]) (st := []) (a := 112) (EX12_fail (l := l) (Ln := Ln) (xs := xs) (d := 0) f (1 : Int32) (m18.1 112 2) m18 (by decide)) rfl (by decide +kernel) mwX12_fail iwX12_fail vwX12_fail lk_12_258 (by omega) (by decide) rfl (by decide) rfl rfl (Nat.le_of_ble_eq_true rfl) (fun r19 m20 => ?_)
          refine Ev.run (pc' := 209) (ls' := [some (.ref 112)]) (st' := [.int 0]) (m' := m20) [(.iconst 0, 0, 0, 0, 0)] (by decide +kernel) rfl ?_
          exact Ev.iretz rfl rfl (by decide +kernel) (by decide)
    · refine EX12_qGoesOnTest_L137 f _ ?_ (by omega) _ _
      intro m27
      refine Ev.run (pc' := 172) (ls' := [some (.ref 112)]) (st' := [.int 11, .int (m27.1 112 95), .ref 178]) (m' := m27) [(.aload_n 0, 0, 0, 0, 0), (.getfield 216, 12, 94, 0, 0), (.aload_n 0, 0, 0, 0, 0), (.getfield 317, 12, 95, 0, 0), (.bipush 11, 0, 0, 11, 0)] (by decide +kernel) rfl ?_
      refine Ev.iast (n := 1700) (by decide +kernel) (by decide) rfl ?_
      refine Ev.run (pc' := 184) (ls' := [some (.ref 112)]) (st' := [.int 1]) (m' := ((ev_up (ev_up m27.1 178 (m27.1 112 95).toNatClampNeg 11) 112 95 ((m27.1 112 95) + 1)), m27.2)) [(.aload_n 0, 0, 0, 0, 0), (.dup, 0, 0, 0, 0), (.getfield 317, 12, 95, 0, 0), (.iconst 1, 0, 0, 1, 0), (.iadd, 0, 0, 0, 0), (.putfield 317, 12, 95, 0, 0), (.iconst 1, 0, 0, 1, 0)] (by decide +kernel) rfl ?_
      exact Ev.iretz rfl rfl (by decide +kernel) (by decide)
  · refine EX12_qGoesOnTest_L87 f _ ?_ (by omega) _ _
    intro m32
    refine Ev.run (pc' := 113) (ls' := [some (.ref 112)]) (st' := [.int 10, .int (m32.1 112 95), .ref 178]) (m' := m32) [(.aload_n 0, 0, 0, 0, 0), (.getfield 216, 12, 94, 0, 0), (.aload_n 0, 0, 0, 0, 0), (.getfield 317, 12, 95, 0, 0), (.bipush 10, 0, 0, 10, 0)] (by decide +kernel) rfl ?_
    refine Ev.iast (n := 1700) (by decide +kernel) (by decide) rfl ?_
    refine Ev.run (pc' := 125) (ls' := [some (.ref 112)]) (st' := [.int 1]) (m' := ((ev_up (ev_up m32.1 178 (m32.1 112 95).toNatClampNeg 10) 112 95 ((m32.1 112 95) + 1)), m32.2)) [(.aload_n 0, 0, 0, 0, 0), (.dup, 0, 0, 0, 0), (.getfield 317, 12, 95, 0, 0), (.iconst 1, 0, 0, 1, 0), (.iadd, 0, 0, 0, 0), (.putfield 317, 12, 95, 0, 0), (.iconst 1, 0, 0, 1, 0)] (by decide +kernel) rfl ?_
    exact Ev.iretz rfl rfl (by decide +kernel) (by decide)
set_option maxRecDepth 100000 in
set_option maxHeartbeats 4000000 in
theorem EX12_qGoesOnTest {l : Launch} {Ln : Nat} {xs : Nat → Int32} {d : Nat} (f : Nat)  (m : ev_M)  (hd : 3 ≤ d) : Mv ev_eI l Ln xs YX12_qGoesOnTest d Sx [.ref 112] m (FX12_qGoesOnTest f  m) := by
  refine Mv.of (by decide +kernel) rfl (Nat.le_of_ble_eq_true rfl) (Ev.le (ls' := [some (.ref 112)]) ⟨rfl, trivial⟩ ?_)
  unfold FX12_qGoesOnTest
  refine EX12_qGoesOnTest_L0 f _ ?_ (by omega) _ _
  intro m12
  exact EX12_qGoesOnTest_J76 f m12 (by omega)
def FX12_qClip (f : Nat) (a0 : Int64) (m : ev_M) : Option (Int64 × ev_M) :=
  (if (lg_cmp a0 1000000) ≤ 0 then (if 0 ≤ (lg_cmp a0 (-1000000)) then some (a0, m) else some ((-1000000), m)) else some (1000000, m))
set_option maxRecDepth 100000 in
set_option maxHeartbeats 4000000 in
theorem EX12_qClip {l : Launch} {Ln : Nat} {xs : Nat → Int32} {d : Nat} (f : Nat) (a0 : Int64) (m : ev_M)  (hd : 0 ≤ d) : Mv ev_eL l Ln xs YX12_qClip d Sx [.long a0] m (FX12_qClip f a0 m) := by
  refine Mv.of (by decide +kernel) rfl (Nat.le_of_ble_eq_true rfl) (Ev.le (ls' := [some (.long a0), none]) ⟨rfl, trivial⟩ ?_)
  unfold FX12_qClip
  refine Ev.run (pc' := 5) (ls' := [some (.long a0), none]) (st' := [.int (lg_cmp a0 1000000)]) (m' := m) [(.lload_n 0, 0, 0, 0, 0), (.ldc2_w 600, 0, 0, 0, 1000000), (.lcmp, 0, 0, 0, 0)] (by decide +kernel) rfl ?_
  refine Ev.if_le (t := 14) (by decide +kernel) ?_ ?_
  · refine Ev.run (pc' := 19) (ls' := [some (.long a0), none]) (st' := [.int (lg_cmp a0 (-1000000))]) (m' := m) [(.lload_n 0, 0, 0, 0, 0), (.ldc2_w 602, 0, 0, 0, (-1000000)), (.lcmp, 0, 0, 0, 0)] (by decide +kernel) rfl ?_
    refine Ev.if_ge (t := 28) (by decide +kernel) ?_ ?_
    · refine Ev.run (pc' := 29) (ls' := [some (.long a0), none]) (st' := [.long a0]) (m' := m) [(.lload_n 0, 0, 0, 0, 0)] (by decide +kernel) rfl ?_
      exact Ev.retl rfl rfl (by decide +kernel)
    · refine Ev.run (pc' := 25) (ls' := [some (.long a0), none]) (st' := [.long (-1000000)]) (m' := m) [(.ldc2_w 602, 0, 0, 0, (-1000000))] (by decide +kernel) rfl ?_
      refine Ev.gto (t := 29) (by decide +kernel) ?_
      exact Ev.retl rfl rfl (by decide +kernel)
  · refine Ev.run (pc' := 11) (ls' := [some (.long a0), none]) (st' := [.long 1000000]) (m' := m) [(.ldc2_w 600, 0, 0, 0, 1000000)] (by decide +kernel) rfl ?_
    refine Ev.gto (t := 29) (by decide +kernel) ?_
    exact Ev.retl rfl rfl (by decide +kernel)
def FX12_qFloor_J32 (f : Nat)   (a2 : Int64) (a4 : Int64) (s0 : Int32) (m : ev_M) : Option (Int64 × ev_M) :=
  (if 0 ≤ (lg_cmp a2 0) then (if s0 = 0 then some (a4, m) else some ((a4 - 1), m)) else (if s0 = 1 then some (a4, m) else some ((a4 - 1), m)))
def FX12_qFloor (f : Nat) (a0 : Int64) (a2 : Int64) (m : ev_M) : Option (Int64 × ev_M) :=
  (if (lg_cmp a2 0) = 0 then some (0, m) else (if a2 = 0 then none else (if a2 = 0 then none else (if (lg_cmp (a0 - a0 / a2 * a2) 0) = 0 then some ((a0 / a2), m) else (if 0 ≤ (lg_cmp a0 0) then (FX12_qFloor_J32 f a2 (a0 / a2) (0 : Int32) m) else (FX12_qFloor_J32 f a2 (a0 / a2) (1 : Int32) m))))))
set_option maxRecDepth 100000 in
set_option maxHeartbeats 4000000 in
theorem EX12_qFloor_J32 {l : Launch} {Ln : Nat} {xs : Nat → Int32} {d : Nat} (f : Nat)   (a2 : Int64) (a4 : Int64) (s0 : Int32) (m : ev_M)   (hd : 0 ≤ d) : Ev ev_eL l Ln xs YX12_qFloor d Sx 32 [none, none, some (.long a2), none, some (.long a4), none] [.int s0] m (FX12_qFloor_J32 f a2 a4 s0 m) := by
  unfold FX12_qFloor_J32
  refine Ev.run (pc' := 35) (ls' := [none, none, some (.long a2), none, some (.long a4), none]) (st' := [.int (lg_cmp a2 0), .int s0]) (m' := m) [(.lload_n 2, 0, 0, 0, 0), (.lconst 0, 0, 0, 0, 0), (.lcmp, 0, 0, 0, 0)] (by decide +kernel) rfl ?_
  refine Ev.if_ge (t := 42) (by decide +kernel) ?_ ?_
  · refine Ev.run (pc' := 43) (ls' := [none, none, some (.long a2), none, some (.long a4), none]) (st' := [.int 0, .int s0]) (m' := m) [(.iconst 0, 0, 0, 0, 0)] (by decide +kernel) rfl ?_
    refine Ev.ic_eq (t := 53) (by decide +kernel) ?_ ?_
    · refine Ev.run (pc' := 55) (ls' := [none, none, some (.long a2), none, some (.long a4), none]) (st' := [.long a4]) (m' := m) [(.lload 4, 0, 0, 0, 0)] (by decide +kernel) rfl ?_
      exact Ev.retl rfl rfl (by decide +kernel)
    · refine Ev.run (pc' := 50) (ls' := [none, none, some (.long a2), none, some (.long a4), none]) (st' := [.long (a4 - 1)]) (m' := m) [(.lload 4, 0, 0, 0, 0), (.lconst 1, 0, 0, 0, 1), (.lsub, 0, 0, 0, 0)] (by decide +kernel) rfl ?_
      refine Ev.gto (t := 55) (by decide +kernel) ?_
      exact Ev.retl rfl rfl (by decide +kernel)
  · refine Ev.run (pc' := 39) (ls' := [none, none, some (.long a2), none, some (.long a4), none]) (st' := [.int 1, .int s0]) (m' := m) [(.iconst 1, 0, 0, 1, 0)] (by decide +kernel) rfl ?_
    refine Ev.gto (t := 43) (by decide +kernel) ?_
    refine Ev.ic_eq (t := 53) (by decide +kernel) ?_ ?_
    · refine Ev.run (pc' := 55) (ls' := [none, none, some (.long a2), none, some (.long a4), none]) (st' := [.long a4]) (m' := m) [(.lload 4, 0, 0, 0, 0)] (by decide +kernel) rfl ?_
      exact Ev.retl rfl rfl (by decide +kernel)
    · refine Ev.run (pc' := 50) (ls' := [none, none, some (.long a2), none, some (.long a4), none]) (st' := [.long (a4 - 1)]) (m' := m) [(.lload 4, 0, 0, 0, 0), (.lconst 1, 0, 0, 0, 1), (.lsub, 0, 0, 0, 0)] (by decide +kernel) rfl ?_
      refine Ev.gto (t := 55) (by decide +kernel) ?_
      exact Ev.retl rfl rfl (by decide +kernel)
set_option maxRecDepth 100000 in
set_option maxHeartbeats 4000000 in
theorem EX12_qFloor {l : Launch} {Ln : Nat} {xs : Nat → Int32} {d : Nat} (f : Nat) (a0 : Int64) (a2 : Int64) (m : ev_M)  (hd : 0 ≤ d) : Mv ev_eL l Ln xs YX12_qFloor d Sx [.long a0, .long a2] m (FX12_qFloor f a0 a2 m) := by
  refine Mv.of (by decide +kernel) rfl (Nat.le_of_ble_eq_true rfl) (Ev.le (ls' := [some (.long a0), none, some (.long a2), none, none, none]) ⟨rfl, ⟨rfl, trivial⟩⟩ ?_)
  unfold FX12_qFloor
  refine Ev.run (pc' := 3) (ls' := [some (.long a0), none, some (.long a2), none, none, none]) (st' := [.int (lg_cmp a2 0)]) (m' := m) [(.lload_n 2, 0, 0, 0, 0), (.lconst 0, 0, 0, 0, 0), (.lcmp, 0, 0, 0, 0)] (by decide +kernel) rfl ?_
  refine Ev.if_ne (t := 8) (by decide +kernel) ?_ ?_
  · refine Ev.run (pc' := 10) (ls' := [some (.long a0), none, some (.long a2), none, none, none]) (st' := [.long a2, .long a0]) (m' := m) [(.lload_n 0, 0, 0, 0, 0), (.lload_n 2, 0, 0, 0, 0)] (by decide +kernel) rfl ?_
    refine Ev.ldiv (by decide +kernel) ?_
    refine Ev.run (pc' := 15) (ls' := [some (.long a0), none, some (.long a2), none, some (.long (a0 / a2)), none]) (st' := [.long a2, .long a0]) (m' := m) [(.lstore 4, 0, 0, 0, 0), (.lload_n 0, 0, 0, 0, 0), (.lload_n 2, 0, 0, 0, 0)] (by decide +kernel) rfl ?_
    refine Ev.lrem (by decide +kernel) ?_
    refine Ev.run (pc' := 18) (ls' := [some (.long a0), none, some (.long a2), none, some (.long (a0 / a2)), none]) (st' := [.int (lg_cmp (a0 - a0 / a2 * a2) 0)]) (m' := m) [(.lconst 0, 0, 0, 0, 0), (.lcmp, 0, 0, 0, 0)] (by decide +kernel) rfl ?_
    refine Ev.if_eq (t := 53) (by decide +kernel) ?_ ?_
    · refine Ev.run (pc' := 55) (ls' := [some (.long a0), none, some (.long a2), none, some (.long (a0 / a2)), none]) (st' := [.long (a0 / a2)]) (m' := m) [(.lload 4, 0, 0, 0, 0)] (by decide +kernel) rfl ?_
      exact Ev.retl rfl rfl (by decide +kernel)
    · refine Ev.run (pc' := 24) (ls' := [some (.long a0), none, some (.long a2), none, some (.long (a0 / a2)), none]) (st' := [.int (lg_cmp a0 0)]) (m' := m) [(.lload_n 0, 0, 0, 0, 0), (.lconst 0, 0, 0, 0, 0), (.lcmp, 0, 0, 0, 0)] (by decide +kernel) rfl ?_
      refine Ev.if_ge (t := 31) (by decide +kernel) ?_ ?_
      · refine Ev.run (pc' := 32) (ls' := [some (.long a0), none, some (.long a2), none, some (.long (a0 / a2)), none]) (st' := [.int 0]) (m' := m) [(.iconst 0, 0, 0, 0, 0)] (by decide +kernel) rfl ?_
        refine Ev.le (ls' := [none, none, some (.long a2), none, some (.long (a0 / a2)), none]) ⟨rfl, ⟨rfl, trivial⟩⟩ ?_
        exact EX12_qFloor_J32 f a2 (a0 / a2) (0 : Int32) m (by omega)
      · refine Ev.run (pc' := 28) (ls' := [some (.long a0), none, some (.long a2), none, some (.long (a0 / a2)), none]) (st' := [.int 1]) (m' := m) [(.iconst 1, 0, 0, 1, 0)] (by decide +kernel) rfl ?_
        refine Ev.gto (t := 32) (by decide +kernel) ?_
        refine Ev.le (ls' := [none, none, some (.long a2), none, some (.long (a0 / a2)), none]) ⟨rfl, ⟨rfl, trivial⟩⟩ ?_
        exact EX12_qFloor_J32 f a2 (a0 / a2) (1 : Int32) m (by omega)
  · refine Ev.run (pc' := 7) (ls' := [some (.long a0), none, some (.long a2), none, none, none]) (st' := [.long 0]) (m' := m) [(.lconst 0, 0, 0, 0, 0)] (by decide +kernel) rfl ?_
    exact Ev.retl rfl rfl (by decide +kernel)
def FX12_qPuts (f : Nat) (a1 : Int64) (m : ev_M) : Option (Unit × ev_M) :=
  (if ev_in (m.1 112 99) 1700 then some ((), ((ev_up m.1 112 99 ((m.1 112 99) + 1)), (ev_up m.2 179 (m.1 112 99).toNatClampNeg a1))) else none)
set_option maxRecDepth 100000 in
set_option maxHeartbeats 4000000 in
theorem EX12_qPuts {l : Launch} {Ln : Nat} {xs : Nat → Int32} {d : Nat} (f : Nat) (a1 : Int64) (m : ev_M)  (hd : 0 ≤ d) : Mv ev_eV l Ln xs YX12_qPuts d Sx [.ref 112, .long a1] m (FX12_qPuts f a1 m) := by
  refine Mv.of (by decide +kernel) rfl (Nat.le_of_ble_eq_true rfl) (Ev.le (ls' := [some (.ref 112), some (.long a1), none]) ⟨rfl, ⟨rfl, trivial⟩⟩ ?_)
  unfold FX12_qPuts
  refine Ev.run (pc' := 9) (ls' := [some (.ref 112), some (.long a1), none]) (st' := [.long a1, .int (m.1 112 99), .ref 179]) (m' := m) [(.aload_n 0, 0, 0, 0, 0), (.getfield 219, 12, 98, 0, 0), (.aload_n 0, 0, 0, 0, 0), (.getfield 372, 12, 99, 0, 0), (.lload_n 1, 0, 0, 0, 0)] (by decide +kernel) rfl ?_
  refine Ev.last (n := 1700) (by decide +kernel) (by decide) rfl ?_
  refine Ev.run (pc' := 20) (ls' := [some (.ref 112), some (.long a1), none]) (st' := []) (m' := ((ev_up m.1 112 99 ((m.1 112 99) + 1)), (ev_up m.2 179 (m.1 112 99).toNatClampNeg a1))) [(.aload_n 0, 0, 0, 0, 0), (.dup, 0, 0, 0, 0), (.getfield 372, 12, 99, 0, 0), (.iconst 1, 0, 0, 1, 0), (.iadd, 0, 0, 0, 0), (.putfield 372, 12, 99, 0, 0)] (by decide +kernel) rfl ?_
  exact Ev.retv rfl rfl (by decide +kernel)
def FX12_qJoins_J161 (f : Nat)    (s1 : Int64) (m : ev_M) : Option (Unit × ev_M) :=
  (ev_bd (FX12_qPuts f s1 m) (fun _ m22 => some ((), m22)))
def FX12_qJoins_J181 (f : Nat)    (s1 : Int64) (m : ev_M) : Option (Unit × ev_M) :=
  (ev_bd (FX12_qPuts f s1 m) (fun _ m25 => some ((), m25)))
def FX12_qJoins_J200 (f : Nat)    (s1 : Int64) (m : ev_M) : Option (Unit × ev_M) :=
  (ev_bd (FX12_qPuts f s1 m) (fun _ m28 => some ((), m28)))
def FX12_qJoins_J219 (f : Nat)    (s1 : Int64) (m : ev_M) : Option (Unit × ev_M) :=
  (ev_bd (FX12_qPuts f s1 m) (fun _ m31 => some ((), m31)))
def FX12_qJoins_J238 (f : Nat)    (s1 : Int64) (m : ev_M) : Option (Unit × ev_M) :=
  (ev_bd (FX12_qPuts f s1 m) (fun _ m34 => some ((), m34)))
def FX12_qJoins_J270 (f : Nat)    (s1 : Int64) (m : ev_M) : Option (Unit × ev_M) :=
  (ev_bd (FX12_qPuts f s1 m) (fun _ m40 => some ((), m40)))
def FX12_qJoins (f : Nat) (a1 : Int32) (m : ev_M) : Option (Unit × ev_M) :=
  (if ev_in ((m.1 112 99) - 1) 1700 then (if ev_in ((m.1 112 99) - 2) 1700 then (if a1 = 1 then (ev_bd (FX12_qClip f ((m.2 179 ((m.1 112 99) - 2).toNatClampNeg) + (m.2 179 ((m.1 112 99) - 1).toNatClampNeg)) ((ev_up m.1 112 99 ((m.1 112 99) - 2)), m.2)) (fun r1 m2 => (ev_bd (FX12_qPuts f r1 m2) (fun _ m4 => some ((), m4))))) else (if a1 = 2 then (ev_bd (FX12_qClip f ((m.2 179 ((m.1 112 99) - 2).toNatClampNeg) - (m.2 179 ((m.1 112 99) - 1).toNatClampNeg)) ((ev_up m.1 112 99 ((m.1 112 99) - 2)), m.2)) (fun r6 m7 => (ev_bd (FX12_qPuts f r6 m7) (fun _ m9 => some ((), m9))))) else (if a1 = 3 then (ev_bd (FX12_qClip f ((m.2 179 ((m.1 112 99) - 2).toNatClampNeg) * (m.2 179 ((m.1 112 99) - 1).toNatClampNeg)) ((ev_up m.1 112 99 ((m.1 112 99) - 2)), m.2)) (fun r11 m12 => (ev_bd (FX12_qPuts f r11 m12) (fun _ m14 => some ((), m14))))) else (if a1 = 4 then (ev_bd (FX12_qFloor f (m.2 179 ((m.1 112 99) - 2).toNatClampNeg) (m.2 179 ((m.1 112 99) - 1).toNatClampNeg) ((ev_up m.1 112 99 ((m.1 112 99) - 2)), m.2)) (fun r16 m17 => (ev_bd (FX12_qPuts f r16 m17) (fun _ m19 => some ((), m19))))) else (if a1 = 5 then (if 0 ≤ (lg_cmp (m.2 179 ((m.1 112 99) - 2).toNatClampNeg) (m.2 179 ((m.1 112 99) - 1).toNatClampNeg)) then (FX12_qJoins_J161 f (m.2 179 ((m.1 112 99) - 1).toNatClampNeg) ((ev_up m.1 112 99 ((m.1 112 99) - 2)), m.2)) else (FX12_qJoins_J161 f (m.2 179 ((m.1 112 99) - 2).toNatClampNeg) ((ev_up m.1 112 99 ((m.1 112 99) - 2)), m.2))) else (if a1 = 6 then (if (lg_cmp (m.2 179 ((m.1 112 99) - 2).toNatClampNeg) (m.2 179 ((m.1 112 99) - 1).toNatClampNeg)) ≤ 0 then (FX12_qJoins_J181 f (m.2 179 ((m.1 112 99) - 1).toNatClampNeg) ((ev_up m.1 112 99 ((m.1 112 99) - 2)), m.2)) else (FX12_qJoins_J181 f (m.2 179 ((m.1 112 99) - 2).toNatClampNeg) ((ev_up m.1 112 99 ((m.1 112 99) - 2)), m.2))) else (if a1 = 7 then (if 0 ≤ (lg_cmp (m.2 179 ((m.1 112 99) - 2).toNatClampNeg) (m.2 179 ((m.1 112 99) - 1).toNatClampNeg)) then (FX12_qJoins_J200 f (0 : Int64) ((ev_up m.1 112 99 ((m.1 112 99) - 2)), m.2)) else (FX12_qJoins_J200 f (1 : Int64) ((ev_up m.1 112 99 ((m.1 112 99) - 2)), m.2))) else (if a1 = 8 then (if (lg_cmp (m.2 179 ((m.1 112 99) - 2).toNatClampNeg) (m.2 179 ((m.1 112 99) - 1).toNatClampNeg)) ≤ 0 then (FX12_qJoins_J219 f (0 : Int64) ((ev_up m.1 112 99 ((m.1 112 99) - 2)), m.2)) else (FX12_qJoins_J219 f (1 : Int64) ((ev_up m.1 112 99 ((m.1 112 99) - 2)), m.2))) else (if a1 = 9 then (if (lg_cmp (m.2 179 ((m.1 112 99) - 2).toNatClampNeg) (m.2 179 ((m.1 112 99) - 1).toNatClampNeg)) = 0 then (FX12_qJoins_J238 f (1 : Int64) ((ev_up m.1 112 99 ((m.1 112 99) - 2)), m.2)) else (FX12_qJoins_J238 f (0 : Int64) ((ev_up m.1 112 99 ((m.1 112 99) - 2)), m.2))) else (if a1 = 10 then (ev_bd (FX12_qPuts f ((m.2 179 ((m.1 112 99) - 2).toNatClampNeg) * (m.2 179 ((m.1 112 99) - 1).toNatClampNeg)) ((ev_up m.1 112 99 ((m.1 112 99) - 2)), m.2)) (fun _ m37 => some ((), m37))) else (if (lg_cmp ((m.2 179 ((m.1 112 99) - 2).toNatClampNeg) + (m.2 179 ((m.1 112 99) - 1).toNatClampNeg)) 0) ≤ 0 then (FX12_qJoins_J270 f (0 : Int64) ((ev_up m.1 112 99 ((m.1 112 99) - 2)), m.2)) else (FX12_qJoins_J270 f (1 : Int64) ((ev_up m.1 112 99 ((m.1 112 99) - 2)), m.2))))))))))))) else none) else none)
set_option maxRecDepth 100000 in
set_option maxHeartbeats 4000000 in
theorem EX12_qJoins_J161 {l : Launch} {Ln : Nat} {xs : Nat → Int32} {d : Nat} (f : Nat)    (s1 : Int64) (m : ev_M)   (hd : 1 ≤ d) : Ev ev_eV l Ln xs YX12_qJoins d Sx 161 [none, none, none, none, none, none] [.long s1, .ref 112] m (FX12_qJoins_J161 f s1 m) := by
  unfold FX12_qJoins_J161
  refine Ev.cV (av := [.long s1]) (st := []) (a := 112) (EX12_qPuts (l := l) (Ln := Ln) (xs := xs) (d := 0) f s1 m (by decide)) rfl (by decide +kernel) mwX12_qPuts iwX12_qPuts vwX12_qPuts lk_12_375 (by omega) (by decide) rfl (by decide) rfl rfl (Nat.le_of_ble_eq_true rfl) (fun r21 m22 => ?_)
  refine Ev.gto (t := 273) (by decide +kernel) ?_
  exact Ev.retv rfl rfl (by decide +kernel)
set_option maxRecDepth 100000 in
set_option maxHeartbeats 4000000 in
theorem EX12_qJoins_J181 {l : Launch} {Ln : Nat} {xs : Nat → Int32} {d : Nat} (f : Nat)    (s1 : Int64) (m : ev_M)   (hd : 1 ≤ d) : Ev ev_eV l Ln xs YX12_qJoins d Sx 181 [none, none, none, none, none, none] [.long s1, .ref 112] m (FX12_qJoins_J181 f s1 m) := by
  unfold FX12_qJoins_J181
  refine Ev.cV (av := [.long s1]) (st := []) (a := 112) (EX12_qPuts (l := l) (Ln := Ln) (xs := xs) (d := 0) f s1 m (by decide)) rfl (by decide +kernel) mwX12_qPuts iwX12_qPuts vwX12_qPuts lk_12_375 (by omega) (by decide) rfl (by decide) rfl rfl (Nat.le_of_ble_eq_true rfl) (fun r24 m25 => ?_)
  refine Ev.gto (t := 273) (by decide +kernel) ?_
  exact Ev.retv rfl rfl (by decide +kernel)
set_option maxRecDepth 100000 in
set_option maxHeartbeats 4000000 in
theorem EX12_qJoins_J200 {l : Launch} {Ln : Nat} {xs : Nat → Int32} {d : Nat} (f : Nat)    (s1 : Int64) (m : ev_M)   (hd : 1 ≤ d) : Ev ev_eV l Ln xs YX12_qJoins d Sx 200 [none, none, none, none, none, none] [.long s1, .ref 112] m (FX12_qJoins_J200 f s1 m) := by
  unfold FX12_qJoins_J200
  refine Ev.cV (av := [.long s1]) (st := []) (a := 112) (EX12_qPuts (l := l) (Ln := Ln) (xs := xs) (d := 0) f s1 m (by decide)) rfl (by decide +kernel) mwX12_qPuts iwX12_qPuts vwX12_qPuts lk_12_375 (by omega) (by decide) rfl (by decide) rfl rfl (Nat.le_of_ble_eq_true rfl) (fun r27 m28 => ?_)
  refine Ev.gto (t := 273) (by decide +kernel) ?_
  exact Ev.retv rfl rfl (by decide +kernel)
set_option maxRecDepth 100000 in
set_option maxHeartbeats 4000000 in
theorem EX12_qJoins_J219 {l : Launch} {Ln : Nat} {xs : Nat → Int32} {d : Nat} (f : Nat)    (s1 : Int64) (m : ev_M)   (hd : 1 ≤ d) : Ev ev_eV l Ln xs YX12_qJoins d Sx 219 [none, none, none, none, none, none] [.long s1, .ref 112] m (FX12_qJoins_J219 f s1 m) := by
  unfold FX12_qJoins_J219
  refine Ev.cV (av := [.long s1]) (st := []) (a := 112) (EX12_qPuts (l := l) (Ln := Ln) (xs := xs) (d := 0) f s1 m (by decide)) rfl (by decide +kernel) mwX12_qPuts iwX12_qPuts vwX12_qPuts lk_12_375 (by omega) (by decide) rfl (by decide) rfl rfl (Nat.le_of_ble_eq_true rfl) (fun r30 m31 => ?_)
  refine Ev.gto (t := 273) (by decide +kernel) ?_
  exact Ev.retv rfl rfl (by decide +kernel)
set_option maxRecDepth 100000 in
set_option maxHeartbeats 4000000 in
theorem EX12_qJoins_J238 {l : Launch} {Ln : Nat} {xs : Nat → Int32} {d : Nat} (f : Nat)    (s1 : Int64) (m : ev_M)   (hd : 1 ≤ d) : Ev ev_eV l Ln xs YX12_qJoins d Sx 238 [none, none, none, none, none, none] [.long s1, .ref 112] m (FX12_qJoins_J238 f s1 m) := by
  unfold FX12_qJoins_J238
  refine Ev.cV (av := [.long s1]) (st := []) (a := 112) (EX12_qPuts (l := l) (Ln := Ln) (xs := xs) (d := 0) f s1 m (by decide)) rfl (by decide +kernel) mwX12_qPuts iwX12_qPuts vwX12_qPuts lk_12_375 (by omega) (by decide) rfl (by decide) rfl rfl (Nat.le_of_ble_eq_true rfl) (fun r33 m34 => ?_)
  refine Ev.gto (t := 273) (by decide +kernel) ?_
  exact Ev.retv rfl rfl (by decide +kernel)
set_option maxRecDepth 100000 in
set_option maxHeartbeats 4000000 in
theorem EX12_qJoins_J270 {l : Launch} {Ln : Nat} {xs : Nat → Int32} {d : Nat} (f : Nat)    (s1 : Int64) (m : ev_M)   (hd : 1 ≤ d) : Ev ev_eV l Ln xs YX12_qJoins d Sx 270 [none, none, none, none, none, none] [.long s1, .ref 112] m (FX12_qJoins_J270 f s1 m) := by
  unfold FX12_qJoins_J270
  refine Ev.cV (av := [.long s1]) (st := []) (a := 112) (EX12_qPuts (l := l) (Ln := Ln) (xs := xs) (d := 0) f s1 m (by decide)) rfl (by decide +kernel) mwX12_qPuts iwX12_qPuts vwX12_qPuts lk_12_375 (by omega) (by decide) rfl (by decide) rfl rfl (Nat.le_of_ble_eq_true rfl) (fun r39 m40 => ?_)
  exact Ev.retv rfl rfl (by decide +kernel)
set_option maxRecDepth 100000 in
set_option maxHeartbeats 4000000 in
theorem EX12_qJoins {l : Launch} {Ln : Nat} {xs : Nat → Int32} {d : Nat} (f : Nat) (a1 : Int32) (m : ev_M)  (hd : 1 ≤ d) : Mv ev_eV l Ln xs YX12_qJoins d Sx [.ref 112, .int a1] m (FX12_qJoins f a1 m) := by
  refine Mv.of (by decide +kernel) rfl (Nat.le_of_ble_eq_true rfl) (Ev.le (ls' := [some (.ref 112), some (.int a1), none, none, none, none]) ⟨rfl, ⟨rfl, trivial⟩⟩ ?_)
  unfold FX12_qJoins
  refine Ev.run (pc' := 10) (ls' := [some (.ref 112), some (.int a1), none, none, none, none]) (st' := [.int ((m.1 112 99) - 1), .ref 179]) (m' := m) [(.aload_n 0, 0, 0, 0, 0), (.getfield 219, 12, 98, 0, 0), (.aload_n 0, 0, 0, 0, 0), (.getfield 372, 12, 99, 0, 0), (.iconst 1, 0, 0, 1, 0), (.isub, 0, 0, 0, 0)] (by decide +kernel) rfl ?_
  refine Ev.lald (n := 1700) (by decide +kernel) (by decide) rfl ?_
  refine Ev.run (pc' := 22) (ls' := [some (.ref 112), some (.int a1), some (.long (m.2 179 ((m.1 112 99) - 1).toNatClampNeg)), none, none, none]) (st' := [.int ((m.1 112 99) - 2), .ref 179]) (m' := m) [(.lstore_n 2, 0, 0, 0, 0), (.aload_n 0, 0, 0, 0, 0), (.getfield 219, 12, 98, 0, 0), (.aload_n 0, 0, 0, 0, 0), (.getfield 372, 12, 99, 0, 0), (.iconst 2, 0, 0, 2, 0), (.isub, 0, 0, 0, 0)] (by decide +kernel) rfl ?_
  refine Ev.lald (n := 1700) (by decide +kernel) (by decide) rfl ?_
  refine Ev.run (pc' := 36) (ls' := [some (.ref 112), some (.int a1), some (.long (m.2 179 ((m.1 112 99) - 1).toNatClampNeg)), none, some (.long (m.2 179 ((m.1 112 99) - 2).toNatClampNeg)), none]) (st' := [.int a1]) (m' := ((ev_up m.1 112 99 ((m.1 112 99) - 2)), m.2)) [(.lstore 4, 0, 0, 0, 0), (.aload_n 0, 0, 0, 0, 0), (.dup, 0, 0, 0, 0), (.getfield 372, 12, 99, 0, 0), (.iconst 2, 0, 0, 2, 0), (.isub, 0, 0, 0, 0), (.putfield 372, 12, 99, 0, 0), (.iload_n 1, 0, 0, 0, 0)] (by decide +kernel) rfl ?_
  refine Ev.sw1 1 (t := 92) (by decide +kernel) (by decide) ?_ (fun z5 => ?_)
  · refine Ev.run (pc' := 97) (ls' := [some (.ref 112), some (.int a1), some (.long (m.2 179 ((m.1 112 99) - 1).toNatClampNeg)), none, some (.long (m.2 179 ((m.1 112 99) - 2).toNatClampNeg)), none]) (st' := [.long ((m.2 179 ((m.1 112 99) - 2).toNatClampNeg) + (m.2 179 ((m.1 112 99) - 1).toNatClampNeg)), .ref 112]) (m' := ((ev_up m.1 112 99 ((m.1 112 99) - 2)), m.2)) [(.aload_n 0, 0, 0, 0, 0), (.lload 4, 0, 0, 0, 0), (.lload_n 2, 0, 0, 0, 0), (.ladd, 0, 0, 0, 0)] (by decide +kernel) rfl ?_
    refine Ev.cS (av := [.long ((m.2 179 ((m.1 112 99) - 2).toNatClampNeg) + (m.2 179 ((m.1 112 99) - 1).toNatClampNeg))]) (st := [.ref 112]) (EX12_qClip (l := l) (Ln := Ln) (xs := xs) (d := 0) f ((m.2 179 ((m.1 112 99) - 2).toNatClampNeg) + (m.2 179 ((m.1 112 99) - 1).toNatClampNeg)) ((ev_up m.1 112 99 ((m.1 112 99) - 2)), m.2) (by decide)) rfl (by decide +kernel) mwX12_qClip swX12_qClip lk_12_604 (by omega) rfl (Nat.le_of_ble_eq_true rfl) (fun r1 m2 => ?_)
    refine Ev.cV (av := [.long r1]) (st := []) (a := 112) (EX12_qPuts (l := l) (Ln := Ln) (xs := xs) (d := 0) f r1 m2 (by decide)) rfl (by decide +kernel) mwX12_qPuts iwX12_qPuts vwX12_qPuts lk_12_375 (by omega) (by decide) rfl (by decide) rfl rfl (Nat.le_of_ble_eq_true rfl) (fun r3 m4 => ?_)
    refine Ev.gto (t := 273) (by decide +kernel) ?_
    exact Ev.retv rfl rfl (by decide +kernel)
  refine Ev.sw1 2 (t := 106) (by decide +kernel) (by decide) ?_ (fun z10 => ?_)
  · refine Ev.run (pc' := 111) (ls' := [some (.ref 112), some (.int a1), some (.long (m.2 179 ((m.1 112 99) - 1).toNatClampNeg)), none, some (.long (m.2 179 ((m.1 112 99) - 2).toNatClampNeg)), none]) (st' := [.long ((m.2 179 ((m.1 112 99) - 2).toNatClampNeg) - (m.2 179 ((m.1 112 99) - 1).toNatClampNeg)), .ref 112]) (m' := ((ev_up m.1 112 99 ((m.1 112 99) - 2)), m.2)) [(.aload_n 0, 0, 0, 0, 0), (.lload 4, 0, 0, 0, 0), (.lload_n 2, 0, 0, 0, 0), (.lsub, 0, 0, 0, 0)] (by decide +kernel) rfl ?_
    refine Ev.cS (av := [.long ((m.2 179 ((m.1 112 99) - 2).toNatClampNeg) - (m.2 179 ((m.1 112 99) - 1).toNatClampNeg))]) (st := [.ref 112]) (EX12_qClip (l := l) (Ln := Ln) (xs := xs) (d := 0) f ((m.2 179 ((m.1 112 99) - 2).toNatClampNeg) - (m.2 179 ((m.1 112 99) - 1).toNatClampNeg)) ((ev_up m.1 112 99 ((m.1 112 99) - 2)), m.2) (by decide)) rfl (by decide +kernel) mwX12_qClip swX12_qClip lk_12_604 (by omega) rfl (Nat.le_of_ble_eq_true rfl) (fun r6 m7 => ?_)
    refine Ev.cV (av := [.long r6]) (st := []) (a := 112) (EX12_qPuts (l := l) (Ln := Ln) (xs := xs) (d := 0) f r6 m7 (by decide)) rfl (by decide +kernel) mwX12_qPuts iwX12_qPuts vwX12_qPuts lk_12_375 (by omega) (by decide) rfl (by decide) rfl rfl (Nat.le_of_ble_eq_true rfl) (fun r8 m9 => ?_)
    refine Ev.gto (t := 273) (by decide +kernel) ?_
    exact Ev.retv rfl rfl (by decide +kernel)
  refine Ev.sw1 3 (t := 120) (by decide +kernel) (by decide) ?_ (fun z15 => ?_)
  · refine Ev.run (pc' := 125) (ls' := [some (.ref 112), some (.int a1), some (.long (m.2 179 ((m.1 112 99) - 1).toNatClampNeg)), none, some (.long (m.2 179 ((m.1 112 99) - 2).toNatClampNeg)), none]) (st' := [.long ((m.2 179 ((m.1 112 99) - 2).toNatClampNeg) * (m.2 179 ((m.1 112 99) - 1).toNatClampNeg)), .ref 112]) (m' := ((ev_up m.1 112 99 ((m.1 112 99) - 2)), m.2)) [(.aload_n 0, 0, 0, 0, 0), (.lload 4, 0, 0, 0, 0), (.lload_n 2, 0, 0, 0, 0), (.lmul, 0, 0, 0, 0)] (by decide +kernel) rfl ?_
    refine Ev.cS (av := [.long ((m.2 179 ((m.1 112 99) - 2).toNatClampNeg) * (m.2 179 ((m.1 112 99) - 1).toNatClampNeg))]) (st := [.ref 112]) (EX12_qClip (l := l) (Ln := Ln) (xs := xs) (d := 0) f ((m.2 179 ((m.1 112 99) - 2).toNatClampNeg) * (m.2 179 ((m.1 112 99) - 1).toNatClampNeg)) ((ev_up m.1 112 99 ((m.1 112 99) - 2)), m.2) (by decide)) rfl (by decide +kernel) mwX12_qClip swX12_qClip lk_12_604 (by omega) rfl (Nat.le_of_ble_eq_true rfl) (fun r11 m12 => ?_)
    refine Ev.cV (av := [.long r11]) (st := []) (a := 112) (EX12_qPuts (l := l) (Ln := Ln) (xs := xs) (d := 0) f r11 m12 (by decide)) rfl (by decide +kernel) mwX12_qPuts iwX12_qPuts vwX12_qPuts lk_12_375 (by omega) (by decide) rfl (by decide) rfl rfl (Nat.le_of_ble_eq_true rfl) (fun r13 m14 => ?_)
    refine Ev.gto (t := 273) (by decide +kernel) ?_
    exact Ev.retv rfl rfl (by decide +kernel)
  refine Ev.sw1 4 (t := 134) (by decide +kernel) (by decide) ?_ (fun z20 => ?_)
  · refine Ev.run (pc' := 138) (ls' := [some (.ref 112), some (.int a1), some (.long (m.2 179 ((m.1 112 99) - 1).toNatClampNeg)), none, some (.long (m.2 179 ((m.1 112 99) - 2).toNatClampNeg)), none]) (st' := [.long (m.2 179 ((m.1 112 99) - 1).toNatClampNeg), .long (m.2 179 ((m.1 112 99) - 2).toNatClampNeg), .ref 112]) (m' := ((ev_up m.1 112 99 ((m.1 112 99) - 2)), m.2)) [(.aload_n 0, 0, 0, 0, 0), (.lload 4, 0, 0, 0, 0), (.lload_n 2, 0, 0, 0, 0)] (by decide +kernel) rfl ?_
    refine Ev.cS (av := [.long (m.2 179 ((m.1 112 99) - 2).toNatClampNeg), .long (m.2 179 ((m.1 112 99) - 1).toNatClampNeg)]) (st := [.ref 112]) (EX12_qFloor (l := l) (Ln := Ln) (xs := xs) (d := 0) f (m.2 179 ((m.1 112 99) - 2).toNatClampNeg) (m.2 179 ((m.1 112 99) - 1).toNatClampNeg) ((ev_up m.1 112 99 ((m.1 112 99) - 2)), m.2) (by decide)) rfl (by decide +kernel) mwX12_qFloor swX12_qFloor lk_12_608 (by omega) rfl (Nat.le_of_ble_eq_true rfl) (fun r16 m17 => ?_)
    refine Ev.cV (av := [.long r16]) (st := []) (a := 112) (EX12_qPuts (l := l) (Ln := Ln) (xs := xs) (d := 0) f r16 m17 (by decide)) rfl (by decide +kernel) mwX12_qPuts iwX12_qPuts vwX12_qPuts lk_12_375 (by omega) (by decide) rfl (by decide) rfl rfl (Nat.le_of_ble_eq_true rfl) (fun r18 m19 => ?_)
    refine Ev.gto (t := 273) (by decide +kernel) ?_
    exact Ev.retv rfl rfl (by decide +kernel)
  refine Ev.sw1 5 (t := 147) (by decide +kernel) (by decide) ?_ (fun z23 => ?_)
  · refine Ev.run (pc' := 152) (ls' := [some (.ref 112), some (.int a1), some (.long (m.2 179 ((m.1 112 99) - 1).toNatClampNeg)), none, some (.long (m.2 179 ((m.1 112 99) - 2).toNatClampNeg)), none]) (st' := [.int (lg_cmp (m.2 179 ((m.1 112 99) - 2).toNatClampNeg) (m.2 179 ((m.1 112 99) - 1).toNatClampNeg)), .ref 112]) (m' := ((ev_up m.1 112 99 ((m.1 112 99) - 2)), m.2)) [(.aload_n 0, 0, 0, 0, 0), (.lload 4, 0, 0, 0, 0), (.lload_n 2, 0, 0, 0, 0), (.lcmp, 0, 0, 0, 0)] (by decide +kernel) rfl ?_
    refine Ev.if_ge (t := 160) (by decide +kernel) ?_ ?_
    · refine Ev.run (pc' := 161) (ls' := [some (.ref 112), some (.int a1), some (.long (m.2 179 ((m.1 112 99) - 1).toNatClampNeg)), none, some (.long (m.2 179 ((m.1 112 99) - 2).toNatClampNeg)), none]) (st' := [.long (m.2 179 ((m.1 112 99) - 1).toNatClampNeg), .ref 112]) (m' := ((ev_up m.1 112 99 ((m.1 112 99) - 2)), m.2)) [(.lload_n 2, 0, 0, 0, 0)] (by decide +kernel) rfl ?_
      refine Ev.le (ls' := [none, none, none, none, none, none]) trivial ?_
      exact EX12_qJoins_J161 f (m.2 179 ((m.1 112 99) - 1).toNatClampNeg) ((ev_up m.1 112 99 ((m.1 112 99) - 2)), m.2) (by omega)
    · refine Ev.run (pc' := 157) (ls' := [some (.ref 112), some (.int a1), some (.long (m.2 179 ((m.1 112 99) - 1).toNatClampNeg)), none, some (.long (m.2 179 ((m.1 112 99) - 2).toNatClampNeg)), none]) (st' := [.long (m.2 179 ((m.1 112 99) - 2).toNatClampNeg), .ref 112]) (m' := ((ev_up m.1 112 99 ((m.1 112 99) - 2)), m.2)) [(.lload 4, 0, 0, 0, 0)] (by decide +kernel) rfl ?_
      refine Ev.gto (t := 161) (by decide +kernel) ?_
      refine Ev.le (ls' := [none, none, none, none, none, none]) trivial ?_
      exact EX12_qJoins_J161 f (m.2 179 ((m.1 112 99) - 2).toNatClampNeg) ((ev_up m.1 112 99 ((m.1 112 99) - 2)), m.2) (by omega)
  refine Ev.sw1 6 (t := 167) (by decide +kernel) (by decide) ?_ (fun z26 => ?_)
  · refine Ev.run (pc' := 172) (ls' := [some (.ref 112), some (.int a1), some (.long (m.2 179 ((m.1 112 99) - 1).toNatClampNeg)), none, some (.long (m.2 179 ((m.1 112 99) - 2).toNatClampNeg)), none]) (st' := [.int (lg_cmp (m.2 179 ((m.1 112 99) - 2).toNatClampNeg) (m.2 179 ((m.1 112 99) - 1).toNatClampNeg)), .ref 112]) (m' := ((ev_up m.1 112 99 ((m.1 112 99) - 2)), m.2)) [(.aload_n 0, 0, 0, 0, 0), (.lload 4, 0, 0, 0, 0), (.lload_n 2, 0, 0, 0, 0), (.lcmp, 0, 0, 0, 0)] (by decide +kernel) rfl ?_
    refine Ev.if_le (t := 180) (by decide +kernel) ?_ ?_
    · refine Ev.run (pc' := 181) (ls' := [some (.ref 112), some (.int a1), some (.long (m.2 179 ((m.1 112 99) - 1).toNatClampNeg)), none, some (.long (m.2 179 ((m.1 112 99) - 2).toNatClampNeg)), none]) (st' := [.long (m.2 179 ((m.1 112 99) - 1).toNatClampNeg), .ref 112]) (m' := ((ev_up m.1 112 99 ((m.1 112 99) - 2)), m.2)) [(.lload_n 2, 0, 0, 0, 0)] (by decide +kernel) rfl ?_
      refine Ev.le (ls' := [none, none, none, none, none, none]) trivial ?_
      exact EX12_qJoins_J181 f (m.2 179 ((m.1 112 99) - 1).toNatClampNeg) ((ev_up m.1 112 99 ((m.1 112 99) - 2)), m.2) (by omega)
    · refine Ev.run (pc' := 177) (ls' := [some (.ref 112), some (.int a1), some (.long (m.2 179 ((m.1 112 99) - 1).toNatClampNeg)), none, some (.long (m.2 179 ((m.1 112 99) - 2).toNatClampNeg)), none]) (st' := [.long (m.2 179 ((m.1 112 99) - 2).toNatClampNeg), .ref 112]) (m' := ((ev_up m.1 112 99 ((m.1 112 99) - 2)), m.2)) [(.lload 4, 0, 0, 0, 0)] (by decide +kernel) rfl ?_
      refine Ev.gto (t := 181) (by decide +kernel) ?_
      refine Ev.le (ls' := [none, none, none, none, none, none]) trivial ?_
      exact EX12_qJoins_J181 f (m.2 179 ((m.1 112 99) - 2).toNatClampNeg) ((ev_up m.1 112 99 ((m.1 112 99) - 2)), m.2) (by omega)
  refine Ev.sw1 7 (t := 187) (by decide +kernel) (by decide) ?_ (fun z29 => ?_)
  · refine Ev.run (pc' := 192) (ls' := [some (.ref 112), some (.int a1), some (.long (m.2 179 ((m.1 112 99) - 1).toNatClampNeg)), none, some (.long (m.2 179 ((m.1 112 99) - 2).toNatClampNeg)), none]) (st' := [.int (lg_cmp (m.2 179 ((m.1 112 99) - 2).toNatClampNeg) (m.2 179 ((m.1 112 99) - 1).toNatClampNeg)), .ref 112]) (m' := ((ev_up m.1 112 99 ((m.1 112 99) - 2)), m.2)) [(.aload_n 0, 0, 0, 0, 0), (.lload 4, 0, 0, 0, 0), (.lload_n 2, 0, 0, 0, 0), (.lcmp, 0, 0, 0, 0)] (by decide +kernel) rfl ?_
    refine Ev.if_ge (t := 199) (by decide +kernel) ?_ ?_
    · refine Ev.run (pc' := 200) (ls' := [some (.ref 112), some (.int a1), some (.long (m.2 179 ((m.1 112 99) - 1).toNatClampNeg)), none, some (.long (m.2 179 ((m.1 112 99) - 2).toNatClampNeg)), none]) (st' := [.long 0, .ref 112]) (m' := ((ev_up m.1 112 99 ((m.1 112 99) - 2)), m.2)) [(.lconst 0, 0, 0, 0, 0)] (by decide +kernel) rfl ?_
      refine Ev.le (ls' := [none, none, none, none, none, none]) trivial ?_
      exact EX12_qJoins_J200 f (0 : Int64) ((ev_up m.1 112 99 ((m.1 112 99) - 2)), m.2) (by omega)
    · refine Ev.run (pc' := 196) (ls' := [some (.ref 112), some (.int a1), some (.long (m.2 179 ((m.1 112 99) - 1).toNatClampNeg)), none, some (.long (m.2 179 ((m.1 112 99) - 2).toNatClampNeg)), none]) (st' := [.long 1, .ref 112]) (m' := ((ev_up m.1 112 99 ((m.1 112 99) - 2)), m.2)) [(.lconst 1, 0, 0, 0, 1)] (by decide +kernel) rfl ?_
      refine Ev.gto (t := 200) (by decide +kernel) ?_
      refine Ev.le (ls' := [none, none, none, none, none, none]) trivial ?_
      exact EX12_qJoins_J200 f (1 : Int64) ((ev_up m.1 112 99 ((m.1 112 99) - 2)), m.2) (by omega)
  refine Ev.sw1 8 (t := 206) (by decide +kernel) (by decide) ?_ (fun z32 => ?_)
  · refine Ev.run (pc' := 211) (ls' := [some (.ref 112), some (.int a1), some (.long (m.2 179 ((m.1 112 99) - 1).toNatClampNeg)), none, some (.long (m.2 179 ((m.1 112 99) - 2).toNatClampNeg)), none]) (st' := [.int (lg_cmp (m.2 179 ((m.1 112 99) - 2).toNatClampNeg) (m.2 179 ((m.1 112 99) - 1).toNatClampNeg)), .ref 112]) (m' := ((ev_up m.1 112 99 ((m.1 112 99) - 2)), m.2)) [(.aload_n 0, 0, 0, 0, 0), (.lload 4, 0, 0, 0, 0), (.lload_n 2, 0, 0, 0, 0), (.lcmp, 0, 0, 0, 0)] (by decide +kernel) rfl ?_
    refine Ev.if_le (t := 218) (by decide +kernel) ?_ ?_
    · refine Ev.run (pc' := 219) (ls' := [some (.ref 112), some (.int a1), some (.long (m.2 179 ((m.1 112 99) - 1).toNatClampNeg)), none, some (.long (m.2 179 ((m.1 112 99) - 2).toNatClampNeg)), none]) (st' := [.long 0, .ref 112]) (m' := ((ev_up m.1 112 99 ((m.1 112 99) - 2)), m.2)) [(.lconst 0, 0, 0, 0, 0)] (by decide +kernel) rfl ?_
      refine Ev.le (ls' := [none, none, none, none, none, none]) trivial ?_
      exact EX12_qJoins_J219 f (0 : Int64) ((ev_up m.1 112 99 ((m.1 112 99) - 2)), m.2) (by omega)
    · refine Ev.run (pc' := 215) (ls' := [some (.ref 112), some (.int a1), some (.long (m.2 179 ((m.1 112 99) - 1).toNatClampNeg)), none, some (.long (m.2 179 ((m.1 112 99) - 2).toNatClampNeg)), none]) (st' := [.long 1, .ref 112]) (m' := ((ev_up m.1 112 99 ((m.1 112 99) - 2)), m.2)) [(.lconst 1, 0, 0, 0, 1)] (by decide +kernel) rfl ?_
      refine Ev.gto (t := 219) (by decide +kernel) ?_
      refine Ev.le (ls' := [none, none, none, none, none, none]) trivial ?_
      exact EX12_qJoins_J219 f (1 : Int64) ((ev_up m.1 112 99 ((m.1 112 99) - 2)), m.2) (by omega)
  refine Ev.sw1 9 (t := 225) (by decide +kernel) (by decide) ?_ (fun z35 => ?_)
  · refine Ev.run (pc' := 230) (ls' := [some (.ref 112), some (.int a1), some (.long (m.2 179 ((m.1 112 99) - 1).toNatClampNeg)), none, some (.long (m.2 179 ((m.1 112 99) - 2).toNatClampNeg)), none]) (st' := [.int (lg_cmp (m.2 179 ((m.1 112 99) - 2).toNatClampNeg) (m.2 179 ((m.1 112 99) - 1).toNatClampNeg)), .ref 112]) (m' := ((ev_up m.1 112 99 ((m.1 112 99) - 2)), m.2)) [(.aload_n 0, 0, 0, 0, 0), (.lload 4, 0, 0, 0, 0), (.lload_n 2, 0, 0, 0, 0), (.lcmp, 0, 0, 0, 0)] (by decide +kernel) rfl ?_
    refine Ev.if_ne (t := 237) (by decide +kernel) ?_ ?_
    · refine Ev.run (pc' := 238) (ls' := [some (.ref 112), some (.int a1), some (.long (m.2 179 ((m.1 112 99) - 1).toNatClampNeg)), none, some (.long (m.2 179 ((m.1 112 99) - 2).toNatClampNeg)), none]) (st' := [.long 0, .ref 112]) (m' := ((ev_up m.1 112 99 ((m.1 112 99) - 2)), m.2)) [(.lconst 0, 0, 0, 0, 0)] (by decide +kernel) rfl ?_
      refine Ev.le (ls' := [none, none, none, none, none, none]) trivial ?_
      exact EX12_qJoins_J238 f (0 : Int64) ((ev_up m.1 112 99 ((m.1 112 99) - 2)), m.2) (by omega)
    · refine Ev.run (pc' := 234) (ls' := [some (.ref 112), some (.int a1), some (.long (m.2 179 ((m.1 112 99) - 1).toNatClampNeg)), none, some (.long (m.2 179 ((m.1 112 99) - 2).toNatClampNeg)), none]) (st' := [.long 1, .ref 112]) (m' := ((ev_up m.1 112 99 ((m.1 112 99) - 2)), m.2)) [(.lconst 1, 0, 0, 0, 1)] (by decide +kernel) rfl ?_
      refine Ev.gto (t := 238) (by decide +kernel) ?_
      refine Ev.le (ls' := [none, none, none, none, none, none]) trivial ?_
      exact EX12_qJoins_J238 f (1 : Int64) ((ev_up m.1 112 99 ((m.1 112 99) - 2)), m.2) (by omega)
  refine Ev.sw1 10 (t := 244) (by decide +kernel) (by decide) ?_ (fun z38 => ?_)
  · refine Ev.run (pc' := 249) (ls' := [some (.ref 112), some (.int a1), some (.long (m.2 179 ((m.1 112 99) - 1).toNatClampNeg)), none, some (.long (m.2 179 ((m.1 112 99) - 2).toNatClampNeg)), none]) (st' := [.long ((m.2 179 ((m.1 112 99) - 2).toNatClampNeg) * (m.2 179 ((m.1 112 99) - 1).toNatClampNeg)), .ref 112]) (m' := ((ev_up m.1 112 99 ((m.1 112 99) - 2)), m.2)) [(.aload_n 0, 0, 0, 0, 0), (.lload 4, 0, 0, 0, 0), (.lload_n 2, 0, 0, 0, 0), (.lmul, 0, 0, 0, 0)] (by decide +kernel) rfl ?_
    refine Ev.cV (av := [.long ((m.2 179 ((m.1 112 99) - 2).toNatClampNeg) * (m.2 179 ((m.1 112 99) - 1).toNatClampNeg))]) (st := []) (a := 112) (EX12_qPuts (l := l) (Ln := Ln) (xs := xs) (d := 0) f ((m.2 179 ((m.1 112 99) - 2).toNatClampNeg) * (m.2 179 ((m.1 112 99) - 1).toNatClampNeg)) ((ev_up m.1 112 99 ((m.1 112 99) - 2)), m.2) (by decide)) rfl (by decide +kernel) mwX12_qPuts iwX12_qPuts vwX12_qPuts lk_12_375 (by omega) (by decide) rfl (by decide) rfl rfl (Nat.le_of_ble_eq_true rfl) (fun r36 m37 => ?_)
    refine Ev.gto (t := 273) (by decide +kernel) ?_
    exact Ev.retv rfl rfl (by decide +kernel)
  refine Ev.sw0 (vals := [1, 2, 3, 4, 5, 6, 7, 8, 9, 10]) (dt := 255) (by decide +kernel) (by simp only [List.mem_cons, List.not_mem_nil, or_false, not_or]; exact ⟨(lv_neT (k := 1) (a := 1) z5 (by decide)), (lv_neT (k := 2) (a := 2) z10 (by decide)), (lv_neT (k := 3) (a := 3) z15 (by decide)), (lv_neT (k := 4) (a := 4) z20 (by decide)), (lv_neT (k := 5) (a := 5) z23 (by decide)), (lv_neT (k := 6) (a := 6) z26 (by decide)), (lv_neT (k := 7) (a := 7) z29 (by decide)), (lv_neT (k := 8) (a := 8) z32 (by decide)), (lv_neT (k := 9) (a := 9) z35 (by decide)), (lv_neT (k := 10) (a := 10) z38 (by decide))⟩) ?_
  refine Ev.run (pc' := 262) (ls' := [some (.ref 112), some (.int a1), some (.long (m.2 179 ((m.1 112 99) - 1).toNatClampNeg)), none, some (.long (m.2 179 ((m.1 112 99) - 2).toNatClampNeg)), none]) (st' := [.int (lg_cmp ((m.2 179 ((m.1 112 99) - 2).toNatClampNeg) + (m.2 179 ((m.1 112 99) - 1).toNatClampNeg)) 0), .ref 112]) (m' := ((ev_up m.1 112 99 ((m.1 112 99) - 2)), m.2)) [(.aload_n 0, 0, 0, 0, 0), (.lload 4, 0, 0, 0, 0), (.lload_n 2, 0, 0, 0, 0), (.ladd, 0, 0, 0, 0), (.lconst 0, 0, 0, 0, 0), (.lcmp, 0, 0, 0, 0)] (by decide +kernel) rfl ?_
  refine Ev.if_le (t := 269) (by decide +kernel) ?_ ?_
  · refine Ev.run (pc' := 270) (ls' := [some (.ref 112), some (.int a1), some (.long (m.2 179 ((m.1 112 99) - 1).toNatClampNeg)), none, some (.long (m.2 179 ((m.1 112 99) - 2).toNatClampNeg)), none]) (st' := [.long 0, .ref 112]) (m' := ((ev_up m.1 112 99 ((m.1 112 99) - 2)), m.2)) [(.lconst 0, 0, 0, 0, 0)] (by decide +kernel) rfl ?_
    refine Ev.le (ls' := [none, none, none, none, none, none]) trivial ?_
    exact EX12_qJoins_J270 f (0 : Int64) ((ev_up m.1 112 99 ((m.1 112 99) - 2)), m.2) (by omega)
  · refine Ev.run (pc' := 266) (ls' := [some (.ref 112), some (.int a1), some (.long (m.2 179 ((m.1 112 99) - 1).toNatClampNeg)), none, some (.long (m.2 179 ((m.1 112 99) - 2).toNatClampNeg)), none]) (st' := [.long 1, .ref 112]) (m' := ((ev_up m.1 112 99 ((m.1 112 99) - 2)), m.2)) [(.lconst 1, 0, 0, 0, 1)] (by decide +kernel) rfl ?_
    refine Ev.gto (t := 270) (by decide +kernel) ?_
    refine Ev.le (ls' := [none, none, none, none, none, none]) trivial ?_
    exact EX12_qJoins_J270 f (1 : Int64) ((ev_up m.1 112 99 ((m.1 112 99) - 2)), m.2) (by omega)
def FX12_qPartOf (f : Nat) (a1 : Int32) (a2 : Int32) (m : ev_M) : Option (Int64 × ev_M) :=
  (if a1 = 0 then some (((m.1 112 49) : Int32).toInt64, m) else (if a1 = 1 then (ev_bd (FX12_moodOf f a2 m) (fun r2 m3 => some ((r2 : Int32).toInt64, m3))) else (if a1 = 2 then (ev_bd (FX12_cheerOf f a2 m) (fun r5 m6 => some ((r5 : Int32).toInt64, m6))) else (if a1 = 3 then some (((m.1 144 0) : Int32).toInt64, m) else (if a1 = 4 then some ((a2 : Int32).toInt64, m) else (if a1 = 5 then some (((m.1 112 50) : Int32).toInt64, m) else (if a1 = 6 then (if (m.1 112 46) = 2 then (ev_bd (FX12_toneIn f a2 (0 : Int32) m) (fun r11 m12 => some ((r11 : Int32).toInt64, m12))) else some (((m.1 112 51) : Int32).toInt64, m)) else (if a1 = 7 then some ((a2 : Int32).toInt64, m) else (if a1 = 8 then (if 999 ≤ (m.1 144 0) then some ((-1), m) else (if ev_in a2 8 then some (((m.1 153 a2.toNatClampNeg) : Int32).toInt64, m) else none)) else (ev_bd (FX12_isYes f a2 m) (fun r16 m17 => (if r16 = 0 then some (0, m17) else some (1, m17)))))))))))))
set_option maxRecDepth 100000 in
set_option maxHeartbeats 4000000 in
theorem EX12_qPartOf {l : Launch} {Ln : Nat} {xs : Nat → Int32} {d : Nat} (f : Nat) (a1 : Int32) (a2 : Int32) (m : ev_M)  (hd : 1 ≤ d) : Mv ev_eL l Ln xs YX12_qPartOf d Sx [.ref 112, .int a1, .int a2] m (FX12_qPartOf f a1 a2 m) := by
  refine Mv.of (by decide +kernel) rfl (Nat.le_of_ble_eq_true rfl) (Ev.le (ls' := [some (.ref 112), some (.int a1), some (.int a2)]) ⟨rfl, ⟨rfl, ⟨rfl, trivial⟩⟩⟩ ?_)
  unfold FX12_qPartOf
  refine Ev.run (pc' := 1) (ls' := [some (.ref 112), some (.int a1), some (.int a2)]) (st' := [.int a1]) (m' := m) [(.iload_n 1, 0, 0, 0, 0)] (by decide +kernel) rfl ?_
  refine Ev.sw1 0 (t := 52) (by decide +kernel) (by decide) ?_ (fun z1 => ?_)
  · refine Ev.run (pc' := 57) (ls' := [some (.ref 112), some (.int a1), some (.int a2)]) (st' := [.long ((m.1 112 49) : Int32).toInt64]) (m' := m) [(.aload_n 0, 0, 0, 0, 0), (.getfield 404, 12, 49, 0, 0), (.i2l, 0, 0, 0, 0)] (by decide +kernel) rfl ?_
    exact Ev.retl rfl rfl (by decide +kernel)
  refine Ev.sw1 1 (t := 58) (by decide +kernel) (by decide) ?_ (fun z4 => ?_)
  · refine Ev.run (pc' := 60) (ls' := [some (.ref 112), some (.int a1), some (.int a2)]) (st' := [.int a2, .ref 112]) (m' := m) [(.aload_n 0, 0, 0, 0, 0), (.iload_n 2, 0, 0, 0, 0)] (by decide +kernel) rfl ?_
    refine Ev.cV (av := [.int a2]) (st := []) (a := 112) (EX12_moodOf (l := l) (Ln := Ln) (xs := xs) (d := 0) f a2 m (by decide)) rfl (by decide +kernel) mwX12_moodOf iwX12_moodOf vwX12_moodOf lk_12_397 (by omega) (by decide) rfl (by decide) rfl rfl (Nat.le_of_ble_eq_true rfl) (fun r2 m3 => ?_)
    refine Ev.run (pc' := 64) (ls' := [some (.ref 112), some (.int a1), some (.int a2)]) (st' := [.long (r2 : Int32).toInt64]) (m' := m3) [(.i2l, 0, 0, 0, 0)] (by decide +kernel) rfl ?_
    exact Ev.retl rfl rfl (by decide +kernel)
  refine Ev.sw1 2 (t := 65) (by decide +kernel) (by decide) ?_ (fun z7 => ?_)
  · refine Ev.run (pc' := 67) (ls' := [some (.ref 112), some (.int a1), some (.int a2)]) (st' := [.int a2, .ref 112]) (m' := m) [(.aload_n 0, 0, 0, 0, 0), (.iload_n 2, 0, 0, 0, 0)] (by decide +kernel) rfl ?_
    refine Ev.cV (av := [.int a2]) (st := []) (a := 112) (EX12_cheerOf (l := l) (Ln := Ln) (xs := xs) (d := 0) f a2 m (by decide)) rfl (by decide +kernel) mwX12_cheerOf iwX12_cheerOf vwX12_cheerOf lk_12_401 (by omega) (by decide) rfl (by decide) rfl rfl (Nat.le_of_ble_eq_true rfl) (fun r5 m6 => ?_)
    refine Ev.run (pc' := 71) (ls' := [some (.ref 112), some (.int a1), some (.int a2)]) (st' := [.long (r5 : Int32).toInt64]) (m' := m6) [(.i2l, 0, 0, 0, 0)] (by decide +kernel) rfl ?_
    exact Ev.retl rfl rfl (by decide +kernel)
  refine Ev.sw1 3 (t := 72) (by decide +kernel) (by decide) ?_ (fun z8 => ?_)
  · refine Ev.run (pc' := 77) (ls' := [some (.ref 112), some (.int a1), some (.int a2)]) (st' := [.int 0, .ref 144]) (m' := m) [(.aload_n 0, 0, 0, 0, 0), (.getfield 109, 12, 47, 0, 0), (.iconst 0, 0, 0, 0, 0)] (by decide +kernel) rfl ?_
    refine Ev.ialdK (n := 147) (j := 0) (by decide +kernel) (by decide) rfl rfl (by decide) ?_
    refine Ev.run (pc' := 79) (ls' := [some (.ref 112), some (.int a1), some (.int a2)]) (st' := [.long ((m.1 144 0) : Int32).toInt64]) (m' := m) [(.i2l, 0, 0, 0, 0)] (by decide +kernel) rfl ?_
    exact Ev.retl rfl rfl (by decide +kernel)
  refine Ev.sw1 4 (t := 80) (by decide +kernel) (by decide) ?_ (fun z9 => ?_)
  · refine Ev.run (pc' := 82) (ls' := [some (.ref 112), some (.int a1), some (.int a2)]) (st' := [.long (a2 : Int32).toInt64]) (m' := m) [(.iload_n 2, 0, 0, 0, 0), (.i2l, 0, 0, 0, 0)] (by decide +kernel) rfl ?_
    exact Ev.retl rfl rfl (by decide +kernel)
  refine Ev.sw1 5 (t := 83) (by decide +kernel) (by decide) ?_ (fun z10 => ?_)
  · refine Ev.run (pc' := 88) (ls' := [some (.ref 112), some (.int a1), some (.int a2)]) (st' := [.long ((m.1 112 50) : Int32).toInt64]) (m' := m) [(.aload_n 0, 0, 0, 0, 0), (.getfield 407, 12, 50, 0, 0), (.i2l, 0, 0, 0, 0)] (by decide +kernel) rfl ?_
    exact Ev.retl rfl rfl (by decide +kernel)
  refine Ev.sw1 6 (t := 89) (by decide +kernel) (by decide) ?_ (fun z13 => ?_)
  · refine Ev.run (pc' := 94) (ls' := [some (.ref 112), some (.int a1), some (.int a2)]) (st' := [.int 2, .int (m.1 112 46)]) (m' := m) [(.aload_n 0, 0, 0, 0, 0), (.getfield 283, 12, 46, 0, 0), (.iconst 2, 0, 0, 2, 0)] (by decide +kernel) rfl ?_
    refine Ev.ic_ne (t := 107) (by decide +kernel) ?_ ?_
    · refine Ev.run (pc' := 112) (ls' := [some (.ref 112), some (.int a1), some (.int a2)]) (st' := [.long ((m.1 112 51) : Int32).toInt64]) (m' := m) [(.aload_n 0, 0, 0, 0, 0), (.getfield 425, 12, 51, 0, 0), (.i2l, 0, 0, 0, 0)] (by decide +kernel) rfl ?_
      exact Ev.retl rfl rfl (by decide +kernel)
    · refine Ev.run (pc' := 100) (ls' := [some (.ref 112), some (.int a1), some (.int a2)]) (st' := [.int 0, .int a2, .ref 112]) (m' := m) [(.aload_n 0, 0, 0, 0, 0), (.iload_n 2, 0, 0, 0, 0), (.iconst 0, 0, 0, 0, 0)] (by decide +kernel) rfl ?_
      refine Ev.cV (av := [.int a2, .int 0]) (st := []) (a := 112) (EX12_toneIn (l := l) (Ln := Ln) (xs := xs) (d := 0) f a2 (0 : Int32) m (by decide)) rfl (by decide +kernel) mwX12_toneIn iwX12_toneIn vwX12_toneIn lk_12_612 (by omega) (by decide) rfl (by decide) rfl rfl (Nat.le_of_ble_eq_true rfl) (fun r11 m12 => ?_)
      refine Ev.run (pc' := 104) (ls' := [some (.ref 112), some (.int a1), some (.int a2)]) (st' := [.long (r11 : Int32).toInt64]) (m' := m12) [(.i2l, 0, 0, 0, 0)] (by decide +kernel) rfl ?_
      refine Ev.gto (t := 112) (by decide +kernel) ?_
      exact Ev.retl rfl rfl (by decide +kernel)
  refine Ev.sw1 7 (t := 113) (by decide +kernel) (by decide) ?_ (fun z14 => ?_)
  · refine Ev.run (pc' := 115) (ls' := [some (.ref 112), some (.int a1), some (.int a2)]) (st' := [.long (a2 : Int32).toInt64]) (m' := m) [(.iload_n 2, 0, 0, 0, 0), (.i2l, 0, 0, 0, 0)] (by decide +kernel) rfl ?_
    exact Ev.retl rfl rfl (by decide +kernel)
  refine Ev.sw1 8 (t := 116) (by decide +kernel) (by decide) ?_ (fun z15 => ?_)
  · refine Ev.run (pc' := 121) (ls' := [some (.ref 112), some (.int a1), some (.int a2)]) (st' := [.int 0, .ref 144]) (m' := m) [(.aload_n 0, 0, 0, 0, 0), (.getfield 109, 12, 47, 0, 0), (.iconst 0, 0, 0, 0, 0)] (by decide +kernel) rfl ?_
    refine Ev.ialdK (n := 147) (j := 0) (by decide +kernel) (by decide) rfl rfl (by decide) ?_
    refine Ev.run (pc' := 125) (ls' := [some (.ref 112), some (.int a1), some (.int a2)]) (st' := [.int 999, .int (m.1 144 0)]) (m' := m) [(.sipush 999, 0, 0, 999, 0)] (by decide +kernel) rfl ?_
    refine Ev.ic_ge (t := 138) (by decide +kernel) ?_ ?_
    · refine Ev.run (pc' := 141) (ls' := [some (.ref 112), some (.int a1), some (.int a2)]) (st' := [.long (-1)]) (m' := m) [(.ldc2_w 615, 0, 0, 0, (-1))] (by decide +kernel) rfl ?_
      exact Ev.retl rfl rfl (by decide +kernel)
    · refine Ev.run (pc' := 133) (ls' := [some (.ref 112), some (.int a1), some (.int a2)]) (st' := [.int a2, .ref 153]) (m' := m) [(.aload_n 0, 0, 0, 0, 0), (.getfield 141, 12, 68, 0, 0), (.iload_n 2, 0, 0, 0, 0)] (by decide +kernel) rfl ?_
      refine Ev.iald (n := 8) (by decide +kernel) (by decide) rfl ?_
      refine Ev.run (pc' := 135) (ls' := [some (.ref 112), some (.int a1), some (.int a2)]) (st' := [.long ((m.1 153 a2.toNatClampNeg) : Int32).toInt64]) (m' := m) [(.i2l, 0, 0, 0, 0)] (by decide +kernel) rfl ?_
      refine Ev.gto (t := 141) (by decide +kernel) ?_
      exact Ev.retl rfl rfl (by decide +kernel)
  refine Ev.sw0 (vals := [0, 1, 2, 3, 4, 5, 6, 7, 8]) (dt := 142) (by decide +kernel) (by simp only [List.mem_cons, List.not_mem_nil, or_false, not_or]; exact ⟨(lv_neT (k := 0) (a := 0) z1 (by decide)), (lv_neT (k := 1) (a := 1) z4 (by decide)), (lv_neT (k := 2) (a := 2) z7 (by decide)), (lv_neT (k := 3) (a := 3) z8 (by decide)), (lv_neT (k := 4) (a := 4) z9 (by decide)), (lv_neT (k := 5) (a := 5) z10 (by decide)), (lv_neT (k := 6) (a := 6) z13 (by decide)), (lv_neT (k := 7) (a := 7) z14 (by decide)), (lv_neT (k := 8) (a := 8) z15 (by decide))⟩) ?_
  refine Ev.run (pc' := 144) (ls' := [some (.ref 112), some (.int a1), some (.int a2)]) (st' := [.int a2, .ref 112]) (m' := m) [(.aload_n 0, 0, 0, 0, 0), (.iload_n 2, 0, 0, 0, 0)] (by decide +kernel) rfl ?_
  refine Ev.cV (av := [.int a2]) (st := []) (a := 112) (EX12_isYes (l := l) (Ln := Ln) (xs := xs) (d := 0) f a2 m (by decide)) rfl (by decide +kernel) mwX12_isYes iwX12_isYes vwX12_isYes lk_12_388 (by omega) (by decide) rfl (by decide) rfl rfl (Nat.le_of_ble_eq_true rfl) (fun r16 m17 => ?_)
  refine Ev.if_eq (t := 154) (by decide +kernel) ?_ ?_
  · refine Ev.run (pc' := 155) (ls' := [some (.ref 112), some (.int a1), some (.int a2)]) (st' := [.long 0]) (m' := m17) [(.lconst 0, 0, 0, 0, 0)] (by decide +kernel) rfl ?_
    exact Ev.retl rfl rfl (by decide +kernel)
  · refine Ev.run (pc' := 151) (ls' := [some (.ref 112), some (.int a1), some (.int a2)]) (st' := [.long 1]) (m' := m17) [(.lconst 1, 0, 0, 0, 1)] (by decide +kernel) rfl ?_
    refine Ev.gto (t := 155) (by decide +kernel) ?_
    exact Ev.retl rfl rfl (by decide +kernel)
def FX12_qOf (f : Nat) (a1 : Int32) (a2 : Int64) (a4 : Int32) (m : ev_M) : Option (Int64 × ev_M) :=
  (ev_bd (FX12_isIn f a2 (0 : Int64) (30 : Int64) m) (fun r1 m2 => (if r1 = 0 then some ((-1), m2) else (ev_bd (FX12_toneIn f a4 (a2 : Int64).toInt32 m2) (fun r3 m4 => some ((r3 : Int32).toInt64, m4))))))
set_option maxRecDepth 100000 in
set_option maxHeartbeats 4000000 in
theorem EX12_qOf {l : Launch} {Ln : Nat} {xs : Nat → Int32} {d : Nat} (f : Nat) (a1 : Int32) (a2 : Int64) (a4 : Int32) (m : ev_M)  (hd : 1 ≤ d) : Mv ev_eL l Ln xs YX12_qOf d Sx [.ref 112, .int a1, .long a2, .int a4] m (FX12_qOf f a1 a2 a4 m) := by
  refine Mv.of (by decide +kernel) rfl (Nat.le_of_ble_eq_true rfl) (Ev.le (ls' := [some (.ref 112), some (.int a1), some (.long a2), none, some (.int a4)]) ⟨rfl, ⟨rfl, ⟨rfl, ⟨rfl, trivial⟩⟩⟩⟩ ?_)
  unfold FX12_qOf
  refine Ev.run (pc' := 1) (ls' := [some (.ref 112), some (.int a1), some (.long a2), none, some (.int a4)]) (st' := [.int a1]) (m' := m) [(.iload_n 1, 0, 0, 0, 0)] (by decide +kernel) rfl ?_
  refine Ev.sw0 (vals := []) (dt := 12) (by decide +kernel) (fun h => by cases h) ?_
  refine Ev.run (pc' := 17) (ls' := [some (.ref 112), some (.int a1), some (.long a2), none, some (.int a4)]) (st' := [.long 30, .long 0, .long a2]) (m' := m) [(.lload_n 2, 0, 0, 0, 0), (.lconst 0, 0, 0, 0, 0), (.ldc2_w 617, 0, 0, 0, 30)] (by decide +kernel) rfl ?_
  refine Ev.cS (av := [.long a2, .long 0, .long 30]) (st := []) (EX12_isIn (l := l) (Ln := Ln) (xs := xs) (d := 0) f a2 (0 : Int64) (30 : Int64) m (by decide)) rfl (by decide +kernel) mwX12_isIn swX12_isIn lk_12_268 (by omega) rfl (Nat.le_of_ble_eq_true rfl) (fun r1 m2 => ?_)
  refine Ev.if_eq (t := 35) (by decide +kernel) ?_ ?_
  · refine Ev.run (pc' := 38) (ls' := [some (.ref 112), some (.int a1), some (.long a2), none, some (.int a4)]) (st' := [.long (-1)]) (m' := m2) [(.ldc2_w 615, 0, 0, 0, (-1))] (by decide +kernel) rfl ?_
    exact Ev.retl rfl rfl (by decide +kernel)
  · refine Ev.run (pc' := 28) (ls' := [some (.ref 112), some (.int a1), some (.long a2), none, some (.int a4)]) (st' := [.int (a2 : Int64).toInt32, .int a4, .ref 112]) (m' := m2) [(.aload_n 0, 0, 0, 0, 0), (.iload 4, 0, 0, 0, 0), (.lload_n 2, 0, 0, 0, 0), (.l2i, 0, 0, 0, 0)] (by decide +kernel) rfl ?_
    refine Ev.cV (av := [.int a4, .int (a2 : Int64).toInt32]) (st := []) (a := 112) (EX12_toneIn (l := l) (Ln := Ln) (xs := xs) (d := 0) f a4 (a2 : Int64).toInt32 m2 (by decide)) rfl (by decide +kernel) mwX12_toneIn iwX12_toneIn vwX12_toneIn lk_12_612 (by omega) (by decide) rfl (by decide) rfl rfl (Nat.le_of_ble_eq_true rfl) (fun r3 m4 => ?_)
    refine Ev.run (pc' := 32) (ls' := [some (.ref 112), some (.int a1), some (.long a2), none, some (.int a4)]) (st' := [.long (r3 : Int32).toInt64]) (m' := m4) [(.i2l, 0, 0, 0, 0)] (by decide +kernel) rfl ?_
    refine Ev.gto (t := 38) (by decide +kernel) ?_
    exact Ev.retl rfl rfl (by decide +kernel)
def FX12_qTold_J162 (f : Nat) (kt7 : Int32 → ev_M → Option (Int64 × ev_M))  (a2 : Int32)  (m : ev_M) : Option (Int64 × ev_M) :=
  (kt7 (a2 + 1) m)
def FX12_qTold_L7 (f : Nat) (k : ev_M → Option (Int64 × ev_M))  (a1 : Int32) : Nat → Int32 → ev_M → Option (Int64 × ev_M)
  | 0, _, _ => none
  | n + 1, a2, m => (if (m.1 112 93) ≤ a2 then (k m) else (if ev_in a2 1700 then (if (m.1 177 a2.toNatClampNeg) < 1000 then (if (m.1 177 a2.toNatClampNeg) < 60 then (if (m.1 177 a2.toNatClampNeg) < 40 then (if (m.1 177 a2.toNatClampNeg) = 13 then (ev_bd (FX12_qPuts f (1 : Int64) m) (fun _ m4 => (FX12_qTold_J162 f (FX12_qTold_L7 f k a1 n) a2 m4))) else (if (m.1 177 a2.toNatClampNeg) = 12 then (if ev_in ((m.1 112 99) - 1) 1700 then (if ev_in ((m.1 112 99) - 1) 1700 then (FX12_qTold_J162 f (FX12_qTold_L7 f k a1 n) a2 (m.1, (ev_up m.2 179 ((m.1 112 99) - 1).toNatClampNeg (1 - (m.2 179 ((m.1 112 99) - 1).toNatClampNeg))))) else none) else none) else (ev_bd (FX12_qJoins f (m.1 177 a2.toNatClampNeg) m) (fun _ m2 => (FX12_qTold_J162 f (FX12_qTold_L7 f k a1 n) a2 m2))))) else (ev_bd (FX12_qPartOf f ((m.1 177 a2.toNatClampNeg) - 40) a1 m) (fun r5 m6 => (ev_bd (FX12_qClip f r5 m6) (fun r7 m8 => (ev_bd (FX12_qPuts f r7 m8) (fun _ m10 => (FX12_qTold_J162 f (FX12_qTold_L7 f k a1 n) a2 m10)))))))) else (if ev_in ((m.1 112 99) - 1) 1700 then (ev_bd (FX12_qOf f ((m.1 177 a2.toNatClampNeg) - 60) (m.2 179 ((m.1 112 99) - 1).toNatClampNeg) a1 m) (fun r11 m12 => (ev_bd (FX12_qClip f r11 m12) (fun r13 m14 => (if ev_in ((m.1 112 99) - 1) 1700 then (FX12_qTold_J162 f (FX12_qTold_L7 f k a1 n) a2 (m14.1, (ev_up m14.2 179 ((m.1 112 99) - 1).toNatClampNeg r13))) else none))))) else none)) else (ev_bd (FX12_qPuts f (((m.1 177 a2.toNatClampNeg) - 1000) : Int32).toInt64 m) (fun _ m16 => (FX12_qTold_J162 f (FX12_qTold_L7 f k a1 n) a2 m16)))) else none))
def FX12_qTold (f : Nat) (a1 : Int32) (m : ev_M) : Option (Int64 × ev_M) :=
  (FX12_qTold_L7 f (fun m17 => some ((m17.2 179 0), m17)) a1 f (0 : Int32) ((ev_up m.1 112 99 0), m.2))
set_option maxRecDepth 100000 in
set_option maxHeartbeats 4000000 in
theorem EX12_qTold_J162 {l : Launch} {Ln : Nat} {xs : Nat → Int32} {d : Nat} (f : Nat) (kt7 : Int32 → ev_M → Option (Int64 × ev_M))  (a1 : Int32) (a2 : Int32)  (m : ev_M)  (hkt7 : ∀ (e2 : Int32) (em : ev_M), Ev ev_eL l Ln xs YX12_qTold d Sx 7 [some (.ref 112), some (.int a1), some (.int e2), none] [] em (kt7 e2 em)) (hd : 2 ≤ d) : Ev ev_eL l Ln xs YX12_qTold d Sx 162 [some (.ref 112), some (.int a1), some (.int a2), none] [] m (FX12_qTold_J162 f kt7 a2 m) := by
  unfold FX12_qTold_J162
  refine Ev.run (pc' := 165) (ls' := [some (.ref 112), some (.int a1), some (.int (a2 + 1)), none]) (st' := []) (m' := m) [(.iinc 2 1, 0, 0, 1, 0)] (by decide +kernel) rfl ?_
  refine Ev.gto (t := 7) (by decide +kernel) ?_
  exact hkt7 _ _
set_option maxRecDepth 100000 in
set_option maxHeartbeats 4000000 in
theorem EX12_qTold_L7 {l : Launch} {Ln : Nat} {xs : Nat → Int32} {d : Nat} (f : Nat) (k : ev_M → Option (Int64 × ev_M))  (a1 : Int32)   (hk : ∀  (em : ev_M), Ev ev_eL l Ln xs YX12_qTold d Sx 168 [some (.ref 112), none, none, none] [] em (k em)) (hd : 2 ≤ d) : ∀ (n : Nat) (a2 : Int32) (m : ev_M), Ev ev_eL l Ln xs YX12_qTold d Sx 7 [some (.ref 112), some (.int a1), some (.int a2), none] [] m (FX12_qTold_L7 f k a1 n a2 m) := by
  intro n
  induction n with
  | zero => intros; exact Ev.nn
  | succ n ih =>
    intro a2 m
    rw [FX12_qTold_L7]
    refine Ev.run (pc' := 12) (ls' := [some (.ref 112), some (.int a1), some (.int a2), none]) (st' := [.int (m.1 112 93), .int a2]) (m' := m) [(.iload_n 2, 0, 0, 0, 0), (.aload_n 0, 0, 0, 0, 0), (.getfield 314, 12, 93, 0, 0)] (by decide +kernel) rfl ?_
    refine Ev.ic_ge (t := 168) (by decide +kernel) ?_ ?_
    · refine Ev.le (ls' := [some (.ref 112), none, none, none]) ⟨rfl, trivial⟩ ?_
      exact hk _
    · refine Ev.run (pc' := 20) (ls' := [some (.ref 112), some (.int a1), some (.int a2), none]) (st' := [.int a2, .ref 177]) (m' := m) [(.aload_n 0, 0, 0, 0, 0), (.getfield 213, 12, 92, 0, 0), (.iload_n 2, 0, 0, 0, 0)] (by decide +kernel) rfl ?_
      refine Ev.iald (n := 1700) (by decide +kernel) (by decide) rfl ?_
      refine Ev.run (pc' := 26) (ls' := [some (.ref 112), some (.int a1), some (.int a2), some (.int (m.1 177 a2.toNatClampNeg))]) (st' := [.int 1000, .int (m.1 177 a2.toNatClampNeg)]) (m' := m) [(.istore_n 3, 0, 0, 0, 0), (.iload_n 3, 0, 0, 0, 0), (.sipush 1000, 0, 0, 1000, 0)] (by decide +kernel) rfl ?_
      refine Ev.ic_lt (t := 42) (by decide +kernel) ?_ ?_
      · refine Ev.run (pc' := 45) (ls' := [some (.ref 112), some (.int a1), some (.int a2), some (.int (m.1 177 a2.toNatClampNeg))]) (st' := [.int 60, .int (m.1 177 a2.toNatClampNeg)]) (m' := m) [(.iload_n 3, 0, 0, 0, 0), (.bipush 60, 0, 0, 60, 0)] (by decide +kernel) rfl ?_
        refine Ev.ic_lt (t := 85) (by decide +kernel) ?_ ?_
        · refine Ev.run (pc' := 88) (ls' := [some (.ref 112), some (.int a1), some (.int a2), some (.int (m.1 177 a2.toNatClampNeg))]) (st' := [.int 40, .int (m.1 177 a2.toNatClampNeg)]) (m' := m) [(.iload_n 3, 0, 0, 0, 0), (.bipush 40, 0, 0, 40, 0)] (by decide +kernel) rfl ?_
          refine Ev.ic_lt (t := 110) (by decide +kernel) ?_ ?_
          · refine Ev.run (pc' := 113) (ls' := [some (.ref 112), some (.int a1), some (.int a2), some (.int (m.1 177 a2.toNatClampNeg))]) (st' := [.int 13, .int (m.1 177 a2.toNatClampNeg)]) (m' := m) [(.iload_n 3, 0, 0, 0, 0), (.bipush 13, 0, 0, 13, 0)] (by decide +kernel) rfl ?_
            refine Ev.ic_ne (t := 124) (by decide +kernel) ?_ ?_
            · refine Ev.run (pc' := 127) (ls' := [some (.ref 112), some (.int a1), some (.int a2), some (.int (m.1 177 a2.toNatClampNeg))]) (st' := [.int 12, .int (m.1 177 a2.toNatClampNeg)]) (m' := m) [(.iload_n 3, 0, 0, 0, 0), (.bipush 12, 0, 0, 12, 0)] (by decide +kernel) rfl ?_
              refine Ev.ic_ne (t := 157) (by decide +kernel) ?_ ?_
              · refine Ev.run (pc' := 159) (ls' := [some (.ref 112), some (.int a1), some (.int a2), some (.int (m.1 177 a2.toNatClampNeg))]) (st' := [.int (m.1 177 a2.toNatClampNeg), .ref 112]) (m' := m) [(.aload_n 0, 0, 0, 0, 0), (.iload_n 3, 0, 0, 0, 0)] (by decide +kernel) rfl ?_
                refine Ev.cV (av := [.int (m.1 177 a2.toNatClampNeg)]) (st := []) (a := 112) (EX12_qJoins (l := l) (Ln := Ln) (xs := xs) (d := 1) f (m.1 177 a2.toNatClampNeg) m (by decide)) rfl (by decide +kernel) mwX12_qJoins iwX12_qJoins vwX12_qJoins lk_12_383 (by omega) (by decide) rfl (by decide) rfl rfl (Nat.le_of_ble_eq_true rfl) (fun r1 m2 => ?_)
                refine Ev.le (ls' := [some (.ref 112), some (.int a1), some (.int a2), none]) ⟨rfl, ⟨rfl, ⟨rfl, trivial⟩⟩⟩ ?_
                exact EX12_qTold_J162 f (FX12_qTold_L7 f k a1 n) a1 a2 m2 ih (by omega)
              · refine Ev.run (pc' := 151) (ls' := [some (.ref 112), some (.int a1), some (.int a2), some (.int (m.1 177 a2.toNatClampNeg))]) (st' := [.int ((m.1 112 99) - 1), .ref 179, .long 1, .int ((m.1 112 99) - 1), .ref 179]) (m' := m) [(.aload_n 0, 0, 0, 0, 0), (.getfield 219, 12, 98, 0, 0), (.aload_n 0, 0, 0, 0, 0), (.getfield 372, 12, 99, 0, 0), (.iconst 1, 0, 0, 1, 0), (.isub, 0, 0, 0, 0), (.lconst 1, 0, 0, 0, 1), (.aload_n 0, 0, 0, 0, 0), (.getfield 219, 12, 98, 0, 0), (.aload_n 0, 0, 0, 0, 0), (.getfield 372, 12, 99, 0, 0), (.iconst 1, 0, 0, 1, 0), (.isub, 0, 0, 0, 0)] (by decide +kernel) rfl ?_
                refine Ev.lald (n := 1700) (by decide +kernel) (by decide) rfl ?_
                refine Ev.run (pc' := 153) (ls' := [some (.ref 112), some (.int a1), some (.int a2), some (.int (m.1 177 a2.toNatClampNeg))]) (st' := [.long (1 - (m.2 179 ((m.1 112 99) - 1).toNatClampNeg)), .int ((m.1 112 99) - 1), .ref 179]) (m' := m) [(.lsub, 0, 0, 0, 0)] (by decide +kernel) rfl ?_
                refine Ev.last (n := 1700) (by decide +kernel) (by decide) rfl ?_
                refine Ev.gto (t := 162) (by decide +kernel) ?_
                refine Ev.le (ls' := [some (.ref 112), some (.int a1), some (.int a2), none]) ⟨rfl, ⟨rfl, ⟨rfl, trivial⟩⟩⟩ ?_
                exact EX12_qTold_J162 f (FX12_qTold_L7 f k a1 n) a1 a2 (m.1, (ev_up m.2 179 ((m.1 112 99) - 1).toNatClampNeg (1 - (m.2 179 ((m.1 112 99) - 1).toNatClampNeg)))) ih (by omega)
            · refine Ev.run (pc' := 118) (ls' := [some (.ref 112), some (.int a1), some (.int a2), some (.int (m.1 177 a2.toNatClampNeg))]) (st' := [.long 1, .ref 112]) (m' := m) [(.aload_n 0, 0, 0, 0, 0), (.lconst 1, 0, 0, 0, 1)] (by decide +kernel) rfl ?_
              refine Ev.cV (av := [.long 1]) (st := []) (a := 112) (EX12_qPuts (l := l) (Ln := Ln) (xs := xs) (d := 0) f (1 : Int64) m (by decide)) rfl (by decide +kernel) mwX12_qPuts iwX12_qPuts vwX12_qPuts lk_12_375 (by omega) (by decide) rfl (by decide) rfl rfl (Nat.le_of_ble_eq_true rfl) (fun r3 m4 => ?_)
              refine Ev.gto (t := 162) (by decide +kernel) ?_
              refine Ev.le (ls' := [some (.ref 112), some (.int a1), some (.int a2), none]) ⟨rfl, ⟨rfl, ⟨rfl, trivial⟩⟩⟩ ?_
              exact EX12_qTold_J162 f (FX12_qTold_L7 f k a1 n) a1 a2 m4 ih (by omega)
          · refine Ev.run (pc' := 98) (ls' := [some (.ref 112), some (.int a1), some (.int a2), some (.int (m.1 177 a2.toNatClampNeg))]) (st' := [.int a1, .int ((m.1 177 a2.toNatClampNeg) - 40), .ref 112, .ref 112]) (m' := m) [(.aload_n 0, 0, 0, 0, 0), (.aload_n 0, 0, 0, 0, 0), (.iload_n 3, 0, 0, 0, 0), (.bipush 40, 0, 0, 40, 0), (.isub, 0, 0, 0, 0), (.iload_n 1, 0, 0, 0, 0)] (by decide +kernel) rfl ?_
            refine Ev.cV (av := [.int ((m.1 177 a2.toNatClampNeg) - 40), .int a1]) (st := [.ref 112]) (a := 112) (EX12_qPartOf (l := l) (Ln := Ln) (xs := xs) (d := 1) f ((m.1 177 a2.toNatClampNeg) - 40) a1 m (by decide)) rfl (by decide +kernel) mwX12_qPartOf iwX12_qPartOf vwX12_qPartOf lk_12_379 (by omega) (by decide) rfl (by decide) rfl rfl (Nat.le_of_ble_eq_true rfl) (fun r5 m6 => ?_)
            refine Ev.cS (av := [.long r5]) (st := [.ref 112]) (EX12_qClip (l := l) (Ln := Ln) (xs := xs) (d := 0) f r5 m6 (by decide)) rfl (by decide +kernel) mwX12_qClip swX12_qClip lk_12_604 (by omega) rfl (Nat.le_of_ble_eq_true rfl) (fun r7 m8 => ?_)
            refine Ev.cV (av := [.long r7]) (st := []) (a := 112) (EX12_qPuts (l := l) (Ln := Ln) (xs := xs) (d := 0) f r7 m8 (by decide)) rfl (by decide +kernel) mwX12_qPuts iwX12_qPuts vwX12_qPuts lk_12_375 (by omega) (by decide) rfl (by decide) rfl rfl (Nat.le_of_ble_eq_true rfl) (fun r9 m10 => ?_)
            refine Ev.gto (t := 162) (by decide +kernel) ?_
            refine Ev.le (ls' := [some (.ref 112), some (.int a1), some (.int a2), none]) ⟨rfl, ⟨rfl, ⟨rfl, trivial⟩⟩⟩ ?_
            exact EX12_qTold_J162 f (FX12_qTold_L7 f k a1 n) a1 a2 m10 ih (by omega)
        · refine Ev.run (pc' := 73) (ls' := [some (.ref 112), some (.int a1), some (.int a2), some (.int (m.1 177 a2.toNatClampNeg))]) (st' := [.int ((m.1 112 99) - 1), .ref 179, .int ((m.1 177 a2.toNatClampNeg) - 60), .ref 112, .int ((m.1 112 99) - 1), .ref 179]) (m' := m) [(.aload_n 0, 0, 0, 0, 0), (.getfield 219, 12, 98, 0, 0), (.aload_n 0, 0, 0, 0, 0), (.getfield 372, 12, 99, 0, 0), (.iconst 1, 0, 0, 1, 0), (.isub, 0, 0, 0, 0), (.aload_n 0, 0, 0, 0, 0), (.iload_n 3, 0, 0, 0, 0), (.bipush 60, 0, 0, 60, 0), (.isub, 0, 0, 0, 0), (.aload_n 0, 0, 0, 0, 0), (.getfield 219, 12, 98, 0, 0), (.aload_n 0, 0, 0, 0, 0), (.getfield 372, 12, 99, 0, 0), (.iconst 1, 0, 0, 1, 0), (.isub, 0, 0, 0, 0)] (by decide +kernel) rfl ?_
          refine Ev.lald (n := 1700) (by decide +kernel) (by decide) rfl ?_
          refine Ev.run (pc' := 75) (ls' := [some (.ref 112), some (.int a1), some (.int a2), some (.int (m.1 177 a2.toNatClampNeg))]) (st' := [.int a1, .long (m.2 179 ((m.1 112 99) - 1).toNatClampNeg), .int ((m.1 177 a2.toNatClampNeg) - 60), .ref 112, .int ((m.1 112 99) - 1), .ref 179]) (m' := m) [(.iload_n 1, 0, 0, 0, 0)] (by decide +kernel) rfl ?_
          refine Ev.cV (av := [.int ((m.1 177 a2.toNatClampNeg) - 60), .long (m.2 179 ((m.1 112 99) - 1).toNatClampNeg), .int a1]) (st := [.int ((m.1 112 99) - 1), .ref 179]) (a := 112) (EX12_qOf (l := l) (Ln := Ln) (xs := xs) (d := 1) f ((m.1 177 a2.toNatClampNeg) - 60) (m.2 179 ((m.1 112 99) - 1).toNatClampNeg) a1 m (by decide)) rfl (by decide +kernel) mwX12_qOf iwX12_qOf vwX12_qOf lk_12_619 (by omega) (by decide) rfl (by decide) rfl rfl (Nat.le_of_ble_eq_true rfl) (fun r11 m12 => ?_)
          refine Ev.cS (av := [.long r11]) (st := [.int ((m.1 112 99) - 1), .ref 179]) (EX12_qClip (l := l) (Ln := Ln) (xs := xs) (d := 0) f r11 m12 (by decide)) rfl (by decide +kernel) mwX12_qClip swX12_qClip lk_12_604 (by omega) rfl (Nat.le_of_ble_eq_true rfl) (fun r13 m14 => ?_)
          refine Ev.last (n := 1700) (by decide +kernel) (by decide) rfl ?_
          refine Ev.gto (t := 162) (by decide +kernel) ?_
          refine Ev.le (ls' := [some (.ref 112), some (.int a1), some (.int a2), none]) ⟨rfl, ⟨rfl, ⟨rfl, trivial⟩⟩⟩ ?_
          exact EX12_qTold_J162 f (FX12_qTold_L7 f k a1 n) a1 a2 (m14.1, (ev_up m14.2 179 ((m.1 112 99) - 1).toNatClampNeg r13)) ih (by omega)
      · refine Ev.run (pc' := 36) (ls' := [some (.ref 112), some (.int a1), some (.int a2), some (.int (m.1 177 a2.toNatClampNeg))]) (st' := [.long (((m.1 177 a2.toNatClampNeg) - 1000) : Int32).toInt64, .ref 112]) (m' := m) [(.aload_n 0, 0, 0, 0, 0), (.iload_n 3, 0, 0, 0, 0), (.sipush 1000, 0, 0, 1000, 0), (.isub, 0, 0, 0, 0), (.i2l, 0, 0, 0, 0)] (by decide +kernel) rfl ?_
        refine Ev.cV (av := [.long (((m.1 177 a2.toNatClampNeg) - 1000) : Int32).toInt64]) (st := []) (a := 112) (EX12_qPuts (l := l) (Ln := Ln) (xs := xs) (d := 0) f (((m.1 177 a2.toNatClampNeg) - 1000) : Int32).toInt64 m (by decide)) rfl (by decide +kernel) mwX12_qPuts iwX12_qPuts vwX12_qPuts lk_12_375 (by omega) (by decide) rfl (by decide) rfl rfl (Nat.le_of_ble_eq_true rfl) (fun r15 m16 => ?_)
        refine Ev.gto (t := 162) (by decide +kernel) ?_
        refine Ev.le (ls' := [some (.ref 112), some (.int a1), some (.int a2), none]) ⟨rfl, ⟨rfl, ⟨rfl, trivial⟩⟩⟩ ?_
        exact EX12_qTold_J162 f (FX12_qTold_L7 f k a1 n) a1 a2 m16 ih (by omega)
set_option maxRecDepth 100000 in
set_option maxHeartbeats 4000000 in
theorem EX12_qTold {l : Launch} {Ln : Nat} {xs : Nat → Int32} {d : Nat} (f : Nat) (a1 : Int32) (m : ev_M)  (hd : 2 ≤ d) : Mv ev_eL l Ln xs YX12_qTold d Sx [.ref 112, .int a1] m (FX12_qTold f a1 m) := by
  refine Mv.of (by decide +kernel) rfl (Nat.le_of_ble_eq_true rfl) (Ev.le (ls' := [some (.ref 112), some (.int a1), none, none]) ⟨rfl, ⟨rfl, trivial⟩⟩ ?_)
  unfold FX12_qTold
  refine Ev.run (pc' := 7) (ls' := [some (.ref 112), some (.int a1), some (.int 0), none]) (st' := []) (m' := ((ev_up m.1 112 99 0), m.2)) [(.aload_n 0, 0, 0, 0, 0), (.iconst 0, 0, 0, 0, 0), (.putfield 372, 12, 99, 0, 0), (.iconst 0, 0, 0, 0, 0), (.istore_n 2, 0, 0, 0, 0)] (by decide +kernel) rfl ?_
  refine EX12_qTold_L7 f _ a1 ?_ (by omega) _ _ _
  intro m17
  refine Ev.run (pc' := 173) (ls' := [some (.ref 112), none, none, none]) (st' := [.int 0, .ref 179]) (m' := m17) [(.aload_n 0, 0, 0, 0, 0), (.getfield 219, 12, 98, 0, 0), (.iconst 0, 0, 0, 0, 0)] (by decide +kernel) rfl ?_
  refine Ev.laldK (n := 1700) (j := 0) (by decide +kernel) (by decide) rfl rfl (by decide) ?_
  exact Ev.retl rfl rfl (by decide +kernel)
def FX12_qKind_J76 (f : Nat)    (s0 : Int32) (m : ev_M) : Option (Int32 × ev_M) :=
  (if s0 = 5 then (ev_bd (FX12_asks f 159 m) (fun _ m12 => some (s0, m12))) else some (s0, m))
def FX12_qKind (f : Nat)  (m : ev_M) : Option (Int32 × ev_M) :=
  (ev_bd (FX12_takes f 154 m) (fun r1 m2 => (if r1 = 0 then (ev_bd (FX12_takes f 155 m2) (fun r3 m4 => (if r3 = 0 then (ev_bd (FX12_takes f 156 m4) (fun r5 m6 => (if r5 = 0 then (ev_bd (FX12_takes f 157 m6) (fun r7 m8 => (if r7 = 0 then (ev_bd (FX12_takes f 158 m8) (fun r9 m10 => (if r9 = 0 then (FX12_qKind_J76 f (5 : Int32) m10) else (FX12_qKind_J76 f (4 : Int32) m10)))) else (FX12_qKind_J76 f (3 : Int32) m8)))) else (FX12_qKind_J76 f (2 : Int32) m6)))) else (FX12_qKind_J76 f (1 : Int32) m4)))) else (FX12_qKind_J76 f (0 : Int32) m2))))
set_option maxRecDepth 100000 in
set_option maxHeartbeats 4000000 in
theorem EX12_qKind_J76 {l : Launch} {Ln : Nat} {xs : Nat → Int32} {d : Nat} (f : Nat)    (s0 : Int32) (m : ev_M)   (hd : 4 ≤ d) : Ev ev_eI l Ln xs YX12_qKind d Sx 76 [some (.ref 112), none] [.int s0] m (FX12_qKind_J76 f s0 m) := by
  unfold FX12_qKind_J76
  refine Ev.run (pc' := 79) (ls' := [some (.ref 112), some (.int s0)]) (st' := [.int 5, .int s0]) (m' := m) [(.istore_n 1, 0, 0, 0, 0), (.iload_n 1, 0, 0, 0, 0), (.iconst 5, 0, 0, 5, 0)] (by decide +kernel) rfl ?_
  refine Ev.ic_ne (t := 90) (by decide +kernel) ?_ ?_
  · refine Ev.run (pc' := 91) (ls' := [some (.ref 112), some (.int s0)]) (st' := [.int s0]) (m' := m) [(.iload_n 1, 0, 0, 0, 0)] (by decide +kernel) rfl ?_
    exact Ev.ireti rfl rfl (by decide +kernel)
  · refine Ev.run (pc' := 87) (ls' := [some (.ref 112), some (.int s0)]) (st' := [.ref 159, .ref 112]) (m' := m) [(.aload_n 0, 0, 0, 0, 0), (.aload_n 0, 0, 0, 0, 0), (.getfield 159, 12, 74, 0, 0)] (by decide +kernel) rfl ?_
    refine Ev.cV (av := [.ref 159]) (st := []) (a := 112) (EX12_asks (l := l) (Ln := Ln) (xs := xs) (d := 3) f 159 m (by decide) (by decide)) rfl (by decide +kernel) mwX12_asks iwX12_asks vwX12_asks lk_12_291 (by omega) (by decide) rfl (by decide) rfl rfl (Nat.le_of_ble_eq_true rfl) (fun r11 m12 => ?_)
    refine Ev.run (pc' := 91) (ls' := [some (.ref 112), some (.int s0)]) (st' := [.int s0]) (m' := m12) [(.iload_n 1, 0, 0, 0, 0)] (by decide +kernel) rfl ?_
    exact Ev.ireti rfl rfl (by decide +kernel)
set_option maxRecDepth 100000 in
set_option maxHeartbeats 4000000 in
theorem EX12_qKind {l : Launch} {Ln : Nat} {xs : Nat → Int32} {d : Nat} (f : Nat)  (m : ev_M)  (hd : 4 ≤ d) : Mv ev_eI l Ln xs YX12_qKind d Sx [.ref 112] m (FX12_qKind f  m) := by
  refine Mv.of (by decide +kernel) rfl (Nat.le_of_ble_eq_true rfl) (Ev.le (ls' := [some (.ref 112), none]) ⟨rfl, trivial⟩ ?_)
  unfold FX12_qKind
  refine Ev.run (pc' := 5) (ls' := [some (.ref 112), none]) (st' := [.ref 154, .ref 112]) (m' := m) [(.aload_n 0, 0, 0, 0, 0), (.aload_n 0, 0, 0, 0, 0), (.getfield 144, 12, 69, 0, 0)] (by decide +kernel) rfl ?_
  refine Ev.cV (av := [.ref 154]) (st := []) (a := 112) (EX12_takes (l := l) (Ln := Ln) (xs := xs) (d := 2) f 154 m (by decide) (by decide)) rfl (by decide +kernel) mwX12_takes iwX12_takes vwX12_takes lk_12_255 (by omega) (by decide) rfl (by decide) rfl rfl (Nat.le_of_ble_eq_true rfl) (fun r1 m2 => ?_)
  refine Ev.if_eq (t := 15) (by decide +kernel) ?_ ?_
  · refine Ev.run (pc' := 20) (ls' := [some (.ref 112), none]) (st' := [.ref 155, .ref 112]) (m' := m2) [(.aload_n 0, 0, 0, 0, 0), (.aload_n 0, 0, 0, 0, 0), (.getfield 147, 12, 70, 0, 0)] (by decide +kernel) rfl ?_
    refine Ev.cV (av := [.ref 155]) (st := []) (a := 112) (EX12_takes (l := l) (Ln := Ln) (xs := xs) (d := 2) f 155 m2 (by decide) (by decide)) rfl (by decide +kernel) mwX12_takes iwX12_takes vwX12_takes lk_12_255 (by omega) (by decide) rfl (by decide) rfl rfl (Nat.le_of_ble_eq_true rfl) (fun r3 m4 => ?_)
    refine Ev.if_eq (t := 30) (by decide +kernel) ?_ ?_
    · refine Ev.run (pc' := 35) (ls' := [some (.ref 112), none]) (st' := [.ref 156, .ref 112]) (m' := m4) [(.aload_n 0, 0, 0, 0, 0), (.aload_n 0, 0, 0, 0, 0), (.getfield 150, 12, 71, 0, 0)] (by decide +kernel) rfl ?_
      refine Ev.cV (av := [.ref 156]) (st := []) (a := 112) (EX12_takes (l := l) (Ln := Ln) (xs := xs) (d := 2) f 156 m4 (by decide) (by decide)) rfl (by decide +kernel) mwX12_takes iwX12_takes vwX12_takes lk_12_255 (by omega) (by decide) rfl (by decide) rfl rfl (Nat.le_of_ble_eq_true rfl) (fun r5 m6 => ?_)
      refine Ev.if_eq (t := 45) (by decide +kernel) ?_ ?_
      · refine Ev.run (pc' := 50) (ls' := [some (.ref 112), none]) (st' := [.ref 157, .ref 112]) (m' := m6) [(.aload_n 0, 0, 0, 0, 0), (.aload_n 0, 0, 0, 0, 0), (.getfield 153, 12, 72, 0, 0)] (by decide +kernel) rfl ?_
        refine Ev.cV (av := [.ref 157]) (st := []) (a := 112) (EX12_takes (l := l) (Ln := Ln) (xs := xs) (d := 2) f 157 m6 (by decide) (by decide)) rfl (by decide +kernel) mwX12_takes iwX12_takes vwX12_takes lk_12_255 (by omega) (by decide) rfl (by decide) rfl rfl (Nat.le_of_ble_eq_true rfl) (fun r7 m8 => ?_)
        refine Ev.if_eq (t := 60) (by decide +kernel) ?_ ?_
        · refine Ev.run (pc' := 65) (ls' := [some (.ref 112), none]) (st' := [.ref 158, .ref 112]) (m' := m8) [(.aload_n 0, 0, 0, 0, 0), (.aload_n 0, 0, 0, 0, 0), (.getfield 156, 12, 73, 0, 0)] (by decide +kernel) rfl ?_
          refine Ev.cV (av := [.ref 158]) (st := []) (a := 112) (EX12_takes (l := l) (Ln := Ln) (xs := xs) (d := 2) f 158 m8 (by decide) (by decide)) rfl (by decide +kernel) mwX12_takes iwX12_takes vwX12_takes lk_12_255 (by omega) (by decide) rfl (by decide) rfl rfl (Nat.le_of_ble_eq_true rfl) (fun r9 m10 => ?_)
          refine Ev.if_eq (t := 75) (by decide +kernel) ?_ ?_
          · refine Ev.run (pc' := 76) (ls' := [some (.ref 112), none]) (st' := [.int 5]) (m' := m10) [(.iconst 5, 0, 0, 5, 0)] (by decide +kernel) rfl ?_
            exact EX12_qKind_J76 f (5 : Int32) m10 (by omega)
          · refine Ev.run (pc' := 72) (ls' := [some (.ref 112), none]) (st' := [.int 4]) (m' := m10) [(.iconst 4, 0, 0, 4, 0)] (by decide +kernel) rfl ?_
            refine Ev.gto (t := 76) (by decide +kernel) ?_
            exact EX12_qKind_J76 f (4 : Int32) m10 (by omega)
        · refine Ev.run (pc' := 57) (ls' := [some (.ref 112), none]) (st' := [.int 3]) (m' := m8) [(.iconst 3, 0, 0, 3, 0)] (by decide +kernel) rfl ?_
          refine Ev.gto (t := 76) (by decide +kernel) ?_
          exact EX12_qKind_J76 f (3 : Int32) m8 (by omega)
      · refine Ev.run (pc' := 42) (ls' := [some (.ref 112), none]) (st' := [.int 2]) (m' := m6) [(.iconst 2, 0, 0, 2, 0)] (by decide +kernel) rfl ?_
        refine Ev.gto (t := 76) (by decide +kernel) ?_
        exact EX12_qKind_J76 f (2 : Int32) m6 (by omega)
    · refine Ev.run (pc' := 27) (ls' := [some (.ref 112), none]) (st' := [.int 1]) (m' := m4) [(.iconst 1, 0, 0, 1, 0)] (by decide +kernel) rfl ?_
      refine Ev.gto (t := 76) (by decide +kernel) ?_
      exact EX12_qKind_J76 f (1 : Int32) m4 (by omega)
  · refine Ev.run (pc' := 12) (ls' := [some (.ref 112), none]) (st' := [.int 0]) (m' := m2) [(.iconst 0, 0, 0, 0, 0)] (by decide +kernel) rfl ?_
    refine Ev.gto (t := 76) (by decide +kernel) ?_
    exact EX12_qKind_J76 f (0 : Int32) m2 (by omega)
def FX12_qTakes_J90 (f : Nat)   (a1 : Int32) (a2 : Int64)  (m : ev_M) : Option (Unit × ev_M) :=
  (if a1 ≤ 3 then some ((), ((ev_up m.1 112 101 0), m.2)) else (if (m.1 112 101) = 0 then (if a1 = 4 then (if (lg_cmp a2 (m.2 112 100)) ≤ 0 then some ((), ((ev_up m.1 112 101 0), m.2)) else some ((), ((ev_up m.1 112 101 0), (ev_up m.2 112 100 a2)))) else (if 0 ≤ (lg_cmp a2 (m.2 112 100)) then some ((), ((ev_up m.1 112 101 0), m.2)) else some ((), ((ev_up m.1 112 101 0), (ev_up m.2 112 100 a2))))) else some ((), ((ev_up m.1 112 101 0), (ev_up m.2 112 100 a2)))))
def FX12_qTakes_J75 (f : Nat)   (a1 : Int32) (a2 : Int64)  (m : ev_M) : Option (Unit × ev_M) :=
  (if a1 = 3 then (FX12_qTakes_J90 f a1 a2 (m.1, (ev_up m.2 112 100 ((m.2 112 100) + a2)))) else (FX12_qTakes_J90 f a1 a2 m))
def FX12_qTakes_J55 (f : Nat)   (a1 : Int32) (a2 : Int64) (a5 : Int32)  (m : ev_M) : Option (Unit × ev_M) :=
  (if a1 = 2 then (if a5 = 0 then (FX12_qTakes_J75 f a1 a2 m) else (FX12_qTakes_J75 f a1 a2 (m.1, (ev_up m.2 112 100 ((m.2 112 100) + 1))))) else (FX12_qTakes_J75 f a1 a2 m))
def FX12_qTakes_J48 (f : Nat)   (a1 : Int32) (a2 : Int64) (a4 : Int32) (a5 : Int32)  (m : ev_M) : Option (Unit × ev_M) :=
  (FX12_qTakes_J55 f a1 a2 a5 (m.1, (ev_up m.2 112 100 (a4 : Int32).toInt64)))
def FX12_qTakes_J38 (f : Nat)   (a1 : Int32) (a2 : Int64) (a4 : Int32) (a5 : Int32)  (m : ev_M) : Option (Unit × ev_M) :=
  (if a1 = 1 then (if a5 = 0 then (FX12_qTakes_J55 f a1 a2 a5 m) else (FX12_qTakes_J48 f a1 a2 a4 a5 m)) else (FX12_qTakes_J55 f a1 a2 a5 m))
def FX12_qTakes_J16 (f : Nat)   (a1 : Int32) (a2 : Int64) (a4 : Int32) (s0 : Int32) (m : ev_M) : Option (Unit × ev_M) :=
  (if a1 = 0 then (if s0 = 0 then (FX12_qTakes_J38 f a1 a2 a4 s0 m) else (if (lg_cmp (m.2 112 100) (-1)) = 0 then (FX12_qTakes_J48 f a1 a2 a4 s0 m) else (FX12_qTakes_J38 f a1 a2 a4 s0 m))) else (FX12_qTakes_J38 f a1 a2 a4 s0 m))
def FX12_qTakes_J15 (f : Nat)   (a1 : Int32) (a2 : Int64) (a4 : Int32)  (m : ev_M) : Option (Unit × ev_M) :=
  (FX12_qTakes_J16 f a1 a2 a4 (0 : Int32) m)
def FX12_qTakes (f : Nat) (a1 : Int32) (a2 : Int64) (a4 : Int32) (m : ev_M) : Option (Unit × ev_M) :=
  (if 3 ≤ a1 then (FX12_qTakes_J15 f a1 a2 a4 m) else (if (lg_cmp a2 1) = 0 then (FX12_qTakes_J16 f a1 a2 a4 (1 : Int32) m) else (FX12_qTakes_J15 f a1 a2 a4 m)))
set_option maxRecDepth 100000 in
set_option maxHeartbeats 4000000 in
theorem EX12_qTakes_J90 {l : Launch} {Ln : Nat} {xs : Nat → Int32} {d : Nat} (f : Nat)   (a1 : Int32) (a2 : Int64)  (m : ev_M)   (hd : 0 ≤ d) : Ev ev_eV l Ln xs YX12_qTakes d Sx 90 [some (.ref 112), some (.int a1), some (.long a2), none, none, none] [] m (FX12_qTakes_J90 f a1 a2 m) := by
  unfold FX12_qTakes_J90
  refine Ev.run (pc' := 92) (ls' := [some (.ref 112), some (.int a1), some (.long a2), none, none, none]) (st' := [.int 3, .int a1]) (m' := m) [(.iload_n 1, 0, 0, 0, 0), (.iconst 3, 0, 0, 3, 0)] (by decide +kernel) rfl ?_
  refine Ev.ic_le (t := 133) (by decide +kernel) ?_ ?_
  · refine Ev.run (pc' := 138) (ls' := [some (.ref 112), some (.int a1), some (.long a2), none, none, none]) (st' := []) (m' := ((ev_up m.1 112 101 0), m.2)) [(.aload_n 0, 0, 0, 0, 0), (.iconst 0, 0, 0, 0, 0), (.putfield 626, 12, 101, 0, 0)] (by decide +kernel) rfl ?_
    exact Ev.retv rfl rfl (by decide +kernel)
  · refine Ev.run (pc' := 99) (ls' := [some (.ref 112), some (.int a1), some (.long a2), none, none, none]) (st' := [.int (m.1 112 101)]) (m' := m) [(.aload_n 0, 0, 0, 0, 0), (.getfield 626, 12, 101, 0, 0)] (by decide +kernel) rfl ?_
    refine Ev.if_ne (t := 128) (by decide +kernel) ?_ ?_
    · refine Ev.run (pc' := 138) (ls' := [some (.ref 112), some (.int a1), some (.long a2), none, none, none]) (st' := []) (m' := ((ev_up m.1 112 101 0), (ev_up m.2 112 100 a2))) [(.aload_n 0, 0, 0, 0, 0), (.lload_n 2, 0, 0, 0, 0), (.putfield 623, 12, 100, 0, 0), (.aload_n 0, 0, 0, 0, 0), (.iconst 0, 0, 0, 0, 0), (.putfield 626, 12, 101, 0, 0)] (by decide +kernel) rfl ?_
      exact Ev.retv rfl rfl (by decide +kernel)
    · refine Ev.run (pc' := 104) (ls' := [some (.ref 112), some (.int a1), some (.long a2), none, none, none]) (st' := [.int 4, .int a1]) (m' := m) [(.iload_n 1, 0, 0, 0, 0), (.iconst 4, 0, 0, 4, 0)] (by decide +kernel) rfl ?_
      refine Ev.ic_ne (t := 119) (by decide +kernel) ?_ ?_
      · refine Ev.run (pc' := 125) (ls' := [some (.ref 112), some (.int a1), some (.long a2), none, none, none]) (st' := [.int (lg_cmp a2 (m.2 112 100))]) (m' := m) [(.lload_n 2, 0, 0, 0, 0), (.aload_n 0, 0, 0, 0, 0), (.getfield 623, 12, 100, 0, 0), (.lcmp, 0, 0, 0, 0)] (by decide +kernel) rfl ?_
        refine Ev.if_ge (t := 133) (by decide +kernel) ?_ ?_
        · refine Ev.run (pc' := 138) (ls' := [some (.ref 112), some (.int a1), some (.long a2), none, none, none]) (st' := []) (m' := ((ev_up m.1 112 101 0), m.2)) [(.aload_n 0, 0, 0, 0, 0), (.iconst 0, 0, 0, 0, 0), (.putfield 626, 12, 101, 0, 0)] (by decide +kernel) rfl ?_
          exact Ev.retv rfl rfl (by decide +kernel)
        · refine Ev.run (pc' := 138) (ls' := [some (.ref 112), some (.int a1), some (.long a2), none, none, none]) (st' := []) (m' := ((ev_up m.1 112 101 0), (ev_up m.2 112 100 a2))) [(.aload_n 0, 0, 0, 0, 0), (.lload_n 2, 0, 0, 0, 0), (.putfield 623, 12, 100, 0, 0), (.aload_n 0, 0, 0, 0, 0), (.iconst 0, 0, 0, 0, 0), (.putfield 626, 12, 101, 0, 0)] (by decide +kernel) rfl ?_
          exact Ev.retv rfl rfl (by decide +kernel)
      · refine Ev.run (pc' := 113) (ls' := [some (.ref 112), some (.int a1), some (.long a2), none, none, none]) (st' := [.int (lg_cmp a2 (m.2 112 100))]) (m' := m) [(.lload_n 2, 0, 0, 0, 0), (.aload_n 0, 0, 0, 0, 0), (.getfield 623, 12, 100, 0, 0), (.lcmp, 0, 0, 0, 0)] (by decide +kernel) rfl ?_
        refine Ev.if_le (t := 133) (by decide +kernel) ?_ ?_
        · refine Ev.run (pc' := 138) (ls' := [some (.ref 112), some (.int a1), some (.long a2), none, none, none]) (st' := []) (m' := ((ev_up m.1 112 101 0), m.2)) [(.aload_n 0, 0, 0, 0, 0), (.iconst 0, 0, 0, 0, 0), (.putfield 626, 12, 101, 0, 0)] (by decide +kernel) rfl ?_
          exact Ev.retv rfl rfl (by decide +kernel)
        · refine Ev.gto (t := 128) (by decide +kernel) ?_
          refine Ev.run (pc' := 138) (ls' := [some (.ref 112), some (.int a1), some (.long a2), none, none, none]) (st' := []) (m' := ((ev_up m.1 112 101 0), (ev_up m.2 112 100 a2))) [(.aload_n 0, 0, 0, 0, 0), (.lload_n 2, 0, 0, 0, 0), (.putfield 623, 12, 100, 0, 0), (.aload_n 0, 0, 0, 0, 0), (.iconst 0, 0, 0, 0, 0), (.putfield 626, 12, 101, 0, 0)] (by decide +kernel) rfl ?_
          exact Ev.retv rfl rfl (by decide +kernel)
set_option maxRecDepth 100000 in
set_option maxHeartbeats 4000000 in
theorem EX12_qTakes_J75 {l : Launch} {Ln : Nat} {xs : Nat → Int32} {d : Nat} (f : Nat)   (a1 : Int32) (a2 : Int64)  (m : ev_M)   (hd : 0 ≤ d) : Ev ev_eV l Ln xs YX12_qTakes d Sx 75 [some (.ref 112), some (.int a1), some (.long a2), none, none, none] [] m (FX12_qTakes_J75 f a1 a2 m) := by
  unfold FX12_qTakes_J75
  refine Ev.run (pc' := 77) (ls' := [some (.ref 112), some (.int a1), some (.long a2), none, none, none]) (st' := [.int 3, .int a1]) (m' := m) [(.iload_n 1, 0, 0, 0, 0), (.iconst 3, 0, 0, 3, 0)] (by decide +kernel) rfl ?_
  refine Ev.ic_ne (t := 90) (by decide +kernel) ?_ ?_
  · exact EX12_qTakes_J90 f a1 a2 m (by omega)
  · refine Ev.run (pc' := 90) (ls' := [some (.ref 112), some (.int a1), some (.long a2), none, none, none]) (st' := []) (m' := (m.1, (ev_up m.2 112 100 ((m.2 112 100) + a2)))) [(.aload_n 0, 0, 0, 0, 0), (.dup, 0, 0, 0, 0), (.getfield 623, 12, 100, 0, 0), (.lload_n 2, 0, 0, 0, 0), (.ladd, 0, 0, 0, 0), (.putfield 623, 12, 100, 0, 0)] (by decide +kernel) rfl ?_
    exact EX12_qTakes_J90 f a1 a2 (m.1, (ev_up m.2 112 100 ((m.2 112 100) + a2))) (by omega)
set_option maxRecDepth 100000 in
set_option maxHeartbeats 4000000 in
theorem EX12_qTakes_J55 {l : Launch} {Ln : Nat} {xs : Nat → Int32} {d : Nat} (f : Nat)   (a1 : Int32) (a2 : Int64) (a5 : Int32)  (m : ev_M)   (hd : 0 ≤ d) : Ev ev_eV l Ln xs YX12_qTakes d Sx 55 [some (.ref 112), some (.int a1), some (.long a2), none, none, some (.int a5)] [] m (FX12_qTakes_J55 f a1 a2 a5 m) := by
  unfold FX12_qTakes_J55
  refine Ev.run (pc' := 57) (ls' := [some (.ref 112), some (.int a1), some (.long a2), none, none, some (.int a5)]) (st' := [.int 2, .int a1]) (m' := m) [(.iload_n 1, 0, 0, 0, 0), (.iconst 2, 0, 0, 2, 0)] (by decide +kernel) rfl ?_
  refine Ev.ic_ne (t := 75) (by decide +kernel) ?_ ?_
  · refine Ev.le (ls' := [some (.ref 112), some (.int a1), some (.long a2), none, none, none]) ⟨rfl, ⟨rfl, ⟨rfl, trivial⟩⟩⟩ ?_
    exact EX12_qTakes_J75 f a1 a2 m (by omega)
  · refine Ev.run (pc' := 62) (ls' := [some (.ref 112), some (.int a1), some (.long a2), none, none, some (.int a5)]) (st' := [.int a5]) (m' := m) [(.iload 5, 0, 0, 0, 0)] (by decide +kernel) rfl ?_
    refine Ev.if_eq (t := 75) (by decide +kernel) ?_ ?_
    · refine Ev.le (ls' := [some (.ref 112), some (.int a1), some (.long a2), none, none, none]) ⟨rfl, ⟨rfl, ⟨rfl, trivial⟩⟩⟩ ?_
      exact EX12_qTakes_J75 f a1 a2 m (by omega)
    · refine Ev.run (pc' := 75) (ls' := [some (.ref 112), some (.int a1), some (.long a2), none, none, some (.int a5)]) (st' := []) (m' := (m.1, (ev_up m.2 112 100 ((m.2 112 100) + 1)))) [(.aload_n 0, 0, 0, 0, 0), (.dup, 0, 0, 0, 0), (.getfield 623, 12, 100, 0, 0), (.lconst 1, 0, 0, 0, 1), (.ladd, 0, 0, 0, 0), (.putfield 623, 12, 100, 0, 0)] (by decide +kernel) rfl ?_
      refine Ev.le (ls' := [some (.ref 112), some (.int a1), some (.long a2), none, none, none]) ⟨rfl, ⟨rfl, ⟨rfl, trivial⟩⟩⟩ ?_
      exact EX12_qTakes_J75 f a1 a2 (m.1, (ev_up m.2 112 100 ((m.2 112 100) + 1))) (by omega)
set_option maxRecDepth 100000 in
set_option maxHeartbeats 4000000 in
theorem EX12_qTakes_J48 {l : Launch} {Ln : Nat} {xs : Nat → Int32} {d : Nat} (f : Nat)   (a1 : Int32) (a2 : Int64) (a4 : Int32) (a5 : Int32)  (m : ev_M)   (hd : 0 ≤ d) : Ev ev_eV l Ln xs YX12_qTakes d Sx 48 [some (.ref 112), some (.int a1), some (.long a2), none, some (.int a4), some (.int a5)] [] m (FX12_qTakes_J48 f a1 a2 a4 a5 m) := by
  unfold FX12_qTakes_J48
  refine Ev.run (pc' := 55) (ls' := [some (.ref 112), some (.int a1), some (.long a2), none, some (.int a4), some (.int a5)]) (st' := []) (m' := (m.1, (ev_up m.2 112 100 (a4 : Int32).toInt64))) [(.aload_n 0, 0, 0, 0, 0), (.iload 4, 0, 0, 0, 0), (.i2l, 0, 0, 0, 0), (.putfield 623, 12, 100, 0, 0)] (by decide +kernel) rfl ?_
  refine Ev.le (ls' := [some (.ref 112), some (.int a1), some (.long a2), none, none, some (.int a5)]) ⟨rfl, ⟨rfl, ⟨rfl, ⟨rfl, trivial⟩⟩⟩⟩ ?_
  exact EX12_qTakes_J55 f a1 a2 a5 (m.1, (ev_up m.2 112 100 (a4 : Int32).toInt64)) (by omega)
set_option maxRecDepth 100000 in
set_option maxHeartbeats 4000000 in
theorem EX12_qTakes_J38 {l : Launch} {Ln : Nat} {xs : Nat → Int32} {d : Nat} (f : Nat)   (a1 : Int32) (a2 : Int64) (a4 : Int32) (a5 : Int32)  (m : ev_M)   (hd : 0 ≤ d) : Ev ev_eV l Ln xs YX12_qTakes d Sx 38 [some (.ref 112), some (.int a1), some (.long a2), none, some (.int a4), some (.int a5)] [] m (FX12_qTakes_J38 f a1 a2 a4 a5 m) := by
  unfold FX12_qTakes_J38
  refine Ev.run (pc' := 40) (ls' := [some (.ref 112), some (.int a1), some (.long a2), none, some (.int a4), some (.int a5)]) (st' := [.int 1, .int a1]) (m' := m) [(.iload_n 1, 0, 0, 0, 0), (.iconst 1, 0, 0, 1, 0)] (by decide +kernel) rfl ?_
  refine Ev.ic_ne (t := 55) (by decide +kernel) ?_ ?_
  · refine Ev.le (ls' := [some (.ref 112), some (.int a1), some (.long a2), none, none, some (.int a5)]) ⟨rfl, ⟨rfl, ⟨rfl, ⟨rfl, trivial⟩⟩⟩⟩ ?_
    exact EX12_qTakes_J55 f a1 a2 a5 m (by omega)
  · refine Ev.run (pc' := 45) (ls' := [some (.ref 112), some (.int a1), some (.long a2), none, some (.int a4), some (.int a5)]) (st' := [.int a5]) (m' := m) [(.iload 5, 0, 0, 0, 0)] (by decide +kernel) rfl ?_
    refine Ev.if_eq (t := 55) (by decide +kernel) ?_ ?_
    · refine Ev.le (ls' := [some (.ref 112), some (.int a1), some (.long a2), none, none, some (.int a5)]) ⟨rfl, ⟨rfl, ⟨rfl, ⟨rfl, trivial⟩⟩⟩⟩ ?_
      exact EX12_qTakes_J55 f a1 a2 a5 m (by omega)
    · exact EX12_qTakes_J48 f a1 a2 a4 a5 m (by omega)
set_option maxRecDepth 100000 in
set_option maxHeartbeats 4000000 in
theorem EX12_qTakes_J16 {l : Launch} {Ln : Nat} {xs : Nat → Int32} {d : Nat} (f : Nat)   (a1 : Int32) (a2 : Int64) (a4 : Int32) (s0 : Int32) (m : ev_M)   (hd : 0 ≤ d) : Ev ev_eV l Ln xs YX12_qTakes d Sx 16 [some (.ref 112), some (.int a1), some (.long a2), none, some (.int a4), none] [.int s0] m (FX12_qTakes_J16 f a1 a2 a4 s0 m) := by
  unfold FX12_qTakes_J16
  refine Ev.run (pc' := 19) (ls' := [some (.ref 112), some (.int a1), some (.long a2), none, some (.int a4), some (.int s0)]) (st' := [.int a1]) (m' := m) [(.istore 5, 0, 0, 0, 0), (.iload_n 1, 0, 0, 0, 0)] (by decide +kernel) rfl ?_
  refine Ev.if_ne (t := 38) (by decide +kernel) ?_ ?_
  · exact EX12_qTakes_J38 f a1 a2 a4 s0 m (by omega)
  · refine Ev.run (pc' := 24) (ls' := [some (.ref 112), some (.int a1), some (.long a2), none, some (.int a4), some (.int s0)]) (st' := [.int s0]) (m' := m) [(.iload 5, 0, 0, 0, 0)] (by decide +kernel) rfl ?_
    refine Ev.if_eq (t := 38) (by decide +kernel) ?_ ?_
    · exact EX12_qTakes_J38 f a1 a2 a4 s0 m (by omega)
    · refine Ev.run (pc' := 35) (ls' := [some (.ref 112), some (.int a1), some (.long a2), none, some (.int a4), some (.int s0)]) (st' := [.int (lg_cmp (m.2 112 100) (-1))]) (m' := m) [(.aload_n 0, 0, 0, 0, 0), (.getfield 623, 12, 100, 0, 0), (.ldc2_w 615, 0, 0, 0, (-1)), (.lcmp, 0, 0, 0, 0)] (by decide +kernel) rfl ?_
      refine Ev.if_eq (t := 48) (by decide +kernel) ?_ ?_
      · exact EX12_qTakes_J48 f a1 a2 a4 s0 m (by omega)
      · exact EX12_qTakes_J38 f a1 a2 a4 s0 m (by omega)
set_option maxRecDepth 100000 in
set_option maxHeartbeats 4000000 in
theorem EX12_qTakes_J15 {l : Launch} {Ln : Nat} {xs : Nat → Int32} {d : Nat} (f : Nat)   (a1 : Int32) (a2 : Int64) (a4 : Int32)  (m : ev_M)   (hd : 0 ≤ d) : Ev ev_eV l Ln xs YX12_qTakes d Sx 15 [some (.ref 112), some (.int a1), some (.long a2), none, some (.int a4), none] [] m (FX12_qTakes_J15 f a1 a2 a4 m) := by
  unfold FX12_qTakes_J15
  refine Ev.run (pc' := 16) (ls' := [some (.ref 112), some (.int a1), some (.long a2), none, some (.int a4), none]) (st' := [.int 0]) (m' := m) [(.iconst 0, 0, 0, 0, 0)] (by decide +kernel) rfl ?_
  exact EX12_qTakes_J16 f a1 a2 a4 (0 : Int32) m (by omega)
set_option maxRecDepth 100000 in
set_option maxHeartbeats 4000000 in
theorem EX12_qTakes {l : Launch} {Ln : Nat} {xs : Nat → Int32} {d : Nat} (f : Nat) (a1 : Int32) (a2 : Int64) (a4 : Int32) (m : ev_M)  (hd : 0 ≤ d) : Mv ev_eV l Ln xs YX12_qTakes d Sx [.ref 112, .int a1, .long a2, .int a4] m (FX12_qTakes f a1 a2 a4 m) := by
  refine Mv.of (by decide +kernel) rfl (Nat.le_of_ble_eq_true rfl) (Ev.le (ls' := [some (.ref 112), some (.int a1), some (.long a2), none, some (.int a4), none]) ⟨rfl, ⟨rfl, ⟨rfl, ⟨rfl, trivial⟩⟩⟩⟩ ?_)
  unfold FX12_qTakes
  refine Ev.run (pc' := 2) (ls' := [some (.ref 112), some (.int a1), some (.long a2), none, some (.int a4), none]) (st' := [.int 3, .int a1]) (m' := m) [(.iload_n 1, 0, 0, 0, 0), (.iconst 3, 0, 0, 3, 0)] (by decide +kernel) rfl ?_
  refine Ev.ic_ge (t := 15) (by decide +kernel) ?_ ?_
  · exact EX12_qTakes_J15 f a1 a2 a4 m (by omega)
  · refine Ev.run (pc' := 8) (ls' := [some (.ref 112), some (.int a1), some (.long a2), none, some (.int a4), none]) (st' := [.int (lg_cmp a2 1)]) (m' := m) [(.lload_n 2, 0, 0, 0, 0), (.lconst 1, 0, 0, 0, 1), (.lcmp, 0, 0, 0, 0)] (by decide +kernel) rfl ?_
    refine Ev.if_ne (t := 15) (by decide +kernel) ?_ ?_
    · exact EX12_qTakes_J15 f a1 a2 a4 m (by omega)
    · refine Ev.run (pc' := 12) (ls' := [some (.ref 112), some (.int a1), some (.long a2), none, some (.int a4), none]) (st' := [.int 1]) (m' := m) [(.iconst 1, 0, 0, 1, 0)] (by decide +kernel) rfl ?_
      refine Ev.gto (t := 16) (by decide +kernel) ?_
      exact EX12_qTakes_J16 f a1 a2 a4 (1 : Int32) m (by omega)
