def FX12_qOpens (f : Nat) (a1 : Int32) (a2 : Int32) (m : ev_M) : Option (Unit × ev_M) :=
  (if (m.1 112 5) = 0 then (if (m.1 112 96) = 6 then (ev_bd (FX12_fail f (4 : Int32) a2 m) (fun _ m2 => some ((), m2))) else (if ev_in (m.1 112 95) 1700 then some ((), ((ev_up (ev_up (ev_up m.1 112 96 ((m.1 112 96) + 1)) 178 (m.1 112 95).toNatClampNeg a1) 112 95 ((m.1 112 95) + 1)), m.2)) else none)) else some ((), m))
set_option maxRecDepth 100000 in
set_option maxHeartbeats 4000000 in
theorem EX12_qOpens {l : Launch} {Ln : Nat} {xs : Nat → Int32} {d : Nat} (f : Nat) (a1 : Int32) (a2 : Int32) (m : ev_M)  (hd : 1 ≤ d) : Mv ev_eV l Ln xs YX12_qOpens d Sx [.ref 112, .int a1, .int a2] m (FX12_qOpens f a1 a2 m) := by
  refine Mv.of (by decide +kernel) rfl (Nat.le_of_ble_eq_true rfl) (Ev.le (ls' := [some (.ref 112), some (.int a1), some (.int a2)]) ⟨rfl, ⟨rfl, ⟨rfl, trivial⟩⟩⟩ ?_)
  unfold FX12_qOpens
  refine Ev.run (pc' := 4) (ls' := [some (.ref 112), some (.int a1), some (.int a2)]) (st' := [.int (m.1 112 5)]) (m' := m) [(.aload_n 0, 0, 0, 0, 0), (.getfield 228, 12, 5, 0, 0)] (by decide +kernel) rfl ?_
  refine Ev.if_eq (t := 8) (by decide +kernel) ?_ ?_
  · refine Ev.run (pc' := 14) (ls' := [some (.ref 112), some (.int a1), some (.int a2)]) (st' := [.int 6, .int (m.1 112 96)]) (m' := m) [(.aload_n 0, 0, 0, 0, 0), (.getfield 320, 12, 96, 0, 0), (.bipush 6, 0, 0, 6, 0)] (by decide +kernel) rfl ?_
    refine Ev.ic_ne (t := 24) (by decide +kernel) ?_ ?_
    · refine Ev.run (pc' := 43) (ls' := [some (.ref 112), some (.int a1), some (.int a2)]) (st' := [.int a1, .int (m.1 112 95), .ref 178]) (m' := ((ev_up m.1 112 96 ((m.1 112 96) + 1)), m.2)) [(.aload_n 0, 0, 0, 0, 0), (.dup, 0, 0, 0, 0), (.getfield 320, 12, 96, 0, 0), (.iconst 1, 0, 0, 1, 0), (.iadd, 0, 0, 0, 0), (.putfield 320, 12, 96, 0, 0), (.aload_n 0, 0, 0, 0, 0), (.getfield 216, 12, 94, 0, 0), (.aload_n 0, 0, 0, 0, 0), (.getfield 317, 12, 95, 0, 0), (.iload_n 1, 0, 0, 0, 0)] (by decide +kernel) rfl ?_
      refine Ev.iast (n := 1700) (by decide +kernel) (by decide) rfl ?_
      refine Ev.run (pc' := 54) (ls' := [some (.ref 112), some (.int a1), some (.int a2)]) (st' := []) (m' := ((ev_up (ev_up (ev_up m.1 112 96 ((m.1 112 96) + 1)) 178 (m.1 112 95).toNatClampNeg a1) 112 95 ((m.1 112 95) + 1)), m.2)) [(.aload_n 0, 0, 0, 0, 0), (.dup, 0, 0, 0, 0), (.getfield 317, 12, 95, 0, 0), (.iconst 1, 0, 0, 1, 0), (.iadd, 0, 0, 0, 0), (.putfield 317, 12, 95, 0, 0)] (by decide +kernel) rfl ?_
      exact Ev.retv rfl rfl (by decide +kernel)
    · refine Ev.run (pc' := 20) (ls' := [some (.ref 112), some (.int a1), some (.int a2)]) (st' := [.int a2, .int 4, .ref 112]) (m' := m) [(.aload_n 0, 0, 0, 0, 0), (.iconst 4, 0, 0, 4, 0), (.iload_n 2, 0, 0, 0, 0)] (by decide +kernel) rfl ?_
      refine Ev.cV (av := [.int 4, .int a2]) (st := []) (a := 112) (EX12_fail (l := l) (Ln := Ln) (xs := xs) (d := 0) f (4 : Int32) a2 m (by decide)) rfl (by decide +kernel) mwX12_fail iwX12_fail vwX12_fail lk_12_258 (by omega) (by decide) rfl (by decide) rfl rfl (Nat.le_of_ble_eq_true rfl) (fun r1 m2 => ?_)
      exact Ev.retv rfl rfl (by decide +kernel)
  · exact Ev.retv rfl rfl (by decide +kernel)
def FX12_qIsOn (f : Nat) (a1 : Int32) (m : ev_M) : Option (Int32 × ev_M) :=
  (if (m.1 112 95) ≤ 0 then some (0, m) else (if ev_in ((m.1 112 95) - 1) 1700 then (if (m.1 178 ((m.1 112 95) - 1).toNatClampNeg) = a1 then some (1, m) else some (0, m)) else none))
set_option maxRecDepth 100000 in
set_option maxHeartbeats 4000000 in
theorem EX12_qIsOn {l : Launch} {Ln : Nat} {xs : Nat → Int32} {d : Nat} (f : Nat) (a1 : Int32) (m : ev_M)  (hd : 0 ≤ d) : Mv ev_eI l Ln xs YX12_qIsOn d Sx [.ref 112, .int a1] m (FX12_qIsOn f a1 m) := by
  refine Mv.of (by decide +kernel) rfl (Nat.le_of_ble_eq_true rfl) (Ev.le (ls' := [some (.ref 112), some (.int a1)]) ⟨rfl, ⟨rfl, trivial⟩⟩ ?_)
  unfold FX12_qIsOn
  refine Ev.run (pc' := 4) (ls' := [some (.ref 112), some (.int a1)]) (st' := [.int (m.1 112 95)]) (m' := m) [(.aload_n 0, 0, 0, 0, 0), (.getfield 317, 12, 95, 0, 0)] (by decide +kernel) rfl ?_
  refine Ev.if_le (t := 26) (by decide +kernel) ?_ ?_
  · refine Ev.run (pc' := 27) (ls' := [some (.ref 112), some (.int a1)]) (st' := [.int 0]) (m' := m) [(.iconst 0, 0, 0, 0, 0)] (by decide +kernel) rfl ?_
    exact Ev.iretz rfl rfl (by decide +kernel) (by decide)
  · refine Ev.run (pc' := 17) (ls' := [some (.ref 112), some (.int a1)]) (st' := [.int ((m.1 112 95) - 1), .ref 178]) (m' := m) [(.aload_n 0, 0, 0, 0, 0), (.getfield 216, 12, 94, 0, 0), (.aload_n 0, 0, 0, 0, 0), (.getfield 317, 12, 95, 0, 0), (.iconst 1, 0, 0, 1, 0), (.isub, 0, 0, 0, 0)] (by decide +kernel) rfl ?_
    refine Ev.iald (n := 1700) (by decide +kernel) (by decide) rfl ?_
    refine Ev.run (pc' := 19) (ls' := [some (.ref 112), some (.int a1)]) (st' := [.int a1, .int (m.1 178 ((m.1 112 95) - 1).toNatClampNeg)]) (m' := m) [(.iload_n 1, 0, 0, 0, 0)] (by decide +kernel) rfl ?_
    refine Ev.ic_ne (t := 26) (by decide +kernel) ?_ ?_
    · refine Ev.run (pc' := 27) (ls' := [some (.ref 112), some (.int a1)]) (st' := [.int 0]) (m' := m) [(.iconst 0, 0, 0, 0, 0)] (by decide +kernel) rfl ?_
      exact Ev.iretz rfl rfl (by decide +kernel) (by decide)
    · refine Ev.run (pc' := 23) (ls' := [some (.ref 112), some (.int a1)]) (st' := [.int 1]) (m' := m) [(.iconst 1, 0, 0, 1, 0)] (by decide +kernel) rfl ?_
      refine Ev.gto (t := 27) (by decide +kernel) ?_
      exact Ev.iretz rfl rfl (by decide +kernel) (by decide)
def FX12_qDrops (f : Nat)  (m : ev_M) : Option (Unit × ev_M) :=
  (if ev_in ((m.1 112 95) - 1) 1700 then (ev_bd (FX12_qCode f (m.1 178 ((m.1 112 95) - 1).toNatClampNeg) ((ev_up m.1 112 95 ((m.1 112 95) - 1)), m.2)) (fun _ m2 => some ((), m2))) else none)
set_option maxRecDepth 100000 in
set_option maxHeartbeats 4000000 in
theorem EX12_qDrops {l : Launch} {Ln : Nat} {xs : Nat → Int32} {d : Nat} (f : Nat)  (m : ev_M)  (hd : 1 ≤ d) : Mv ev_eV l Ln xs YX12_qDrops d Sx [.ref 112] m (FX12_qDrops f  m) := by
  refine Mv.of (by decide +kernel) rfl (Nat.le_of_ble_eq_true rfl) (Ev.le (ls' := [some (.ref 112)]) ⟨rfl, trivial⟩ ?_)
  unfold FX12_qDrops
  refine Ev.run (pc' := 19) (ls' := [some (.ref 112)]) (st' := [.int ((m.1 112 95) - 1), .ref 178, .ref 112]) (m' := ((ev_up m.1 112 95 ((m.1 112 95) - 1)), m.2)) [(.aload_n 0, 0, 0, 0, 0), (.dup, 0, 0, 0, 0), (.getfield 317, 12, 95, 0, 0), (.iconst 1, 0, 0, 1, 0), (.isub, 0, 0, 0, 0), (.putfield 317, 12, 95, 0, 0), (.aload_n 0, 0, 0, 0, 0), (.aload_n 0, 0, 0, 0, 0), (.getfield 216, 12, 94, 0, 0), (.aload_n 0, 0, 0, 0, 0), (.getfield 317, 12, 95, 0, 0)] (by decide +kernel) rfl ?_
  refine Ev.iald (n := 1700) (by decide +kernel) (by decide) rfl ?_
  refine Ev.cV (av := [.int (m.1 178 ((m.1 112 95) - 1).toNatClampNeg)]) (st := []) (a := 112) (EX12_qCode (l := l) (Ln := Ln) (xs := xs) (d := 0) f (m.1 178 ((m.1 112 95) - 1).toNatClampNeg) ((ev_up m.1 112 95 ((m.1 112 95) - 1)), m.2) (by decide)) rfl (by decide +kernel) mwX12_qCode iwX12_qCode vwX12_qCode lk_12_546 (by omega) (by decide) rfl (by decide) rfl rfl (Nat.le_of_ble_eq_true rfl) (fun r1 m2 => ?_)
  exact Ev.retv rfl rfl (by decide +kernel)
def FX12_qIsBracket (f : Nat) (a0 : Int32) (m : ev_M) : Option (Int32 × ev_M) :=
  (if a0 < 20 then some (0, m) else (if 24 < a0 then some (0, m) else some (1, m)))
set_option maxRecDepth 100000 in
set_option maxHeartbeats 4000000 in
theorem EX12_qIsBracket {l : Launch} {Ln : Nat} {xs : Nat → Int32} {d : Nat} (f : Nat) (a0 : Int32) (m : ev_M)  (hd : 0 ≤ d) : Mv ev_eI l Ln xs YX12_qIsBracket d Sx [.int a0] m (FX12_qIsBracket f a0 m) := by
  refine Mv.of (by decide +kernel) rfl (Nat.le_of_ble_eq_true rfl) (Ev.le (ls' := [some (.int a0)]) ⟨rfl, trivial⟩ ?_)
  unfold FX12_qIsBracket
  refine Ev.run (pc' := 3) (ls' := [some (.int a0)]) (st' := [.int 20, .int a0]) (m' := m) [(.iload_n 0, 0, 0, 0, 0), (.bipush 20, 0, 0, 20, 0)] (by decide +kernel) rfl ?_
  refine Ev.ic_lt (t := 16) (by decide +kernel) ?_ ?_
  · refine Ev.run (pc' := 17) (ls' := [some (.int a0)]) (st' := [.int 0]) (m' := m) [(.iconst 0, 0, 0, 0, 0)] (by decide +kernel) rfl ?_
    exact Ev.iretz rfl rfl (by decide +kernel) (by decide)
  · refine Ev.run (pc' := 9) (ls' := [some (.int a0)]) (st' := [.int 24, .int a0]) (m' := m) [(.iload_n 0, 0, 0, 0, 0), (.bipush 24, 0, 0, 24, 0)] (by decide +kernel) rfl ?_
    refine Ev.ic_gt (t := 16) (by decide +kernel) ?_ ?_
    · refine Ev.run (pc' := 17) (ls' := [some (.int a0)]) (st' := [.int 0]) (m' := m) [(.iconst 0, 0, 0, 0, 0)] (by decide +kernel) rfl ?_
      exact Ev.iretz rfl rfl (by decide +kernel) (by decide)
    · refine Ev.run (pc' := 13) (ls' := [some (.int a0)]) (st' := [.int 1]) (m' := m) [(.iconst 1, 0, 0, 1, 0)] (by decide +kernel) rfl ?_
      refine Ev.gto (t := 17) (by decide +kernel) ?_
      exact Ev.iretz rfl rfl (by decide +kernel) (by decide)
def FX12_qBracket_L7 (f : Nat) (k : Int32 → ev_M → Option (Int32 × ev_M))   : Nat → Int32 → ev_M → Option (Int32 × ev_M)
  | 0, _, _ => none
  | n + 1, a1, m => (if a1 < (m.1 112 97) then (k a1 m) else (if ev_in a1 1700 then (ev_bd (FX12_qIsBracket f (m.1 178 a1.toNatClampNeg) m) (fun r1 m2 => (if r1 = 0 then (FX12_qBracket_L7 f k n (a1 + (-1)) m2) else (k a1 m2)))) else none))
def FX12_qBracket (f : Nat)  (m : ev_M) : Option (Int32 × ev_M) :=
  (FX12_qBracket_L7 f (fun e3 m4 => (if e3 < (m4.1 112 97) then some ((-1), m4) else (if ev_in e3 1700 then some ((m4.1 178 e3.toNatClampNeg), m4) else none))) f ((m.1 112 95) - 1) m)
set_option maxRecDepth 100000 in
set_option maxHeartbeats 4000000 in
theorem EX12_qBracket_L7 {l : Launch} {Ln : Nat} {xs : Nat → Int32} {d : Nat} (f : Nat) (k : Int32 → ev_M → Option (Int32 × ev_M))     (hk : ∀ (e1 : Int32) (em : ev_M), Ev ev_eI l Ln xs YX12_qBracket d Sx 33 [some (.ref 112), some (.int e1)] [] em (k e1 em)) (hd : 1 ≤ d) : ∀ (n : Nat) (a1 : Int32) (m : ev_M), Ev ev_eI l Ln xs YX12_qBracket d Sx 7 [some (.ref 112), some (.int a1)] [] m (FX12_qBracket_L7 f k n a1 m) := by
  intro n
  induction n with
  | zero => intros; exact Ev.nn
  | succ n ih =>
    intro a1 m
    rw [FX12_qBracket_L7]
    refine Ev.run (pc' := 12) (ls' := [some (.ref 112), some (.int a1)]) (st' := [.int (m.1 112 97), .int a1]) (m' := m) [(.iload_n 1, 0, 0, 0, 0), (.aload_n 0, 0, 0, 0, 0), (.getfield 323, 12, 97, 0, 0)] (by decide +kernel) rfl ?_
    refine Ev.ic_lt (t := 33) (by decide +kernel) ?_ ?_
    · exact hk _ _
    · refine Ev.run (pc' := 20) (ls' := [some (.ref 112), some (.int a1)]) (st' := [.int a1, .ref 178]) (m' := m) [(.aload_n 0, 0, 0, 0, 0), (.getfield 216, 12, 94, 0, 0), (.iload_n 1, 0, 0, 0, 0)] (by decide +kernel) rfl ?_
      refine Ev.iald (n := 1700) (by decide +kernel) (by decide) rfl ?_
      refine Ev.cS (av := [.int (m.1 178 a1.toNatClampNeg)]) (st := []) (EX12_qIsBracket (l := l) (Ln := Ln) (xs := xs) (d := 0) f (m.1 178 a1.toNatClampNeg) m (by decide)) rfl (by decide +kernel) mwX12_qIsBracket swX12_qIsBracket lk_12_549 (by omega) rfl (Nat.le_of_ble_eq_true rfl) (fun r1 m2 => ?_)
      refine Ev.if_ne (t := 33) (by decide +kernel) ?_ ?_
      · exact hk _ _
      · refine Ev.run (pc' := 30) (ls' := [some (.ref 112), some (.int (a1 + (-1)))]) (st' := []) (m' := m2) [(.iinc 1 (-1), 0, 0, (-1), 0)] (by decide +kernel) rfl ?_
        refine Ev.gto (t := 7) (by decide +kernel) ?_
        exact ih _ _
set_option maxRecDepth 100000 in
set_option maxHeartbeats 4000000 in
theorem EX12_qBracket {l : Launch} {Ln : Nat} {xs : Nat → Int32} {d : Nat} (f : Nat)  (m : ev_M)  (hd : 1 ≤ d) : Mv ev_eI l Ln xs YX12_qBracket d Sx [.ref 112] m (FX12_qBracket f  m) := by
  refine Mv.of (by decide +kernel) rfl (Nat.le_of_ble_eq_true rfl) (Ev.le (ls' := [some (.ref 112), none]) ⟨rfl, trivial⟩ ?_)
  unfold FX12_qBracket
  refine Ev.run (pc' := 7) (ls' := [some (.ref 112), some (.int ((m.1 112 95) - 1))]) (st' := []) (m' := m) [(.aload_n 0, 0, 0, 0, 0), (.getfield 317, 12, 95, 0, 0), (.iconst 1, 0, 0, 1, 0), (.isub, 0, 0, 0, 0), (.istore_n 1, 0, 0, 0, 0)] (by decide +kernel) rfl ?_
  refine EX12_qBracket_L7 f _ ?_ (by omega) _ _ _
  intro e3 m4
  refine Ev.run (pc' := 38) (ls' := [some (.ref 112), some (.int e3)]) (st' := [.int (m4.1 112 97), .int e3]) (m' := m4) [(.iload_n 1, 0, 0, 0, 0), (.aload_n 0, 0, 0, 0, 0), (.getfield 323, 12, 97, 0, 0)] (by decide +kernel) rfl ?_
  refine Ev.ic_lt (t := 50) (by decide +kernel) ?_ ?_
  · refine Ev.run (pc' := 51) (ls' := [some (.ref 112), some (.int e3)]) (st' := [.int (-1)]) (m' := m4) [(.iconst (-1), 0, 0, (-1), 0)] (by decide +kernel) rfl ?_
    exact Ev.ireti rfl rfl (by decide +kernel)
  · refine Ev.run (pc' := 46) (ls' := [some (.ref 112), some (.int e3)]) (st' := [.int e3, .ref 178]) (m' := m4) [(.aload_n 0, 0, 0, 0, 0), (.getfield 216, 12, 94, 0, 0), (.iload_n 1, 0, 0, 0, 0)] (by decide +kernel) rfl ?_
    refine Ev.iald (n := 1700) (by decide +kernel) (by decide) rfl ?_
    refine Ev.gto (t := 51) (by decide +kernel) ?_
    exact Ev.ireti rfl rfl (by decide +kernel)
def FX12_qDropsToBracket_L0 (f : Nat) (k : ev_M → Option (Unit × ev_M))   : Nat → ev_M → Option (Unit × ev_M)
  | 0, _ => none
  | n + 1, m => (if (m.1 112 95) ≤ (m.1 112 97) then (k m) else (if ev_in ((m.1 112 95) - 1) 1700 then (ev_bd (FX12_qIsBracket f (m.1 178 ((m.1 112 95) - 1).toNatClampNeg) m) (fun r1 m2 => (if r1 = 0 then (ev_bd (FX12_qDrops f m2) (fun _ m4 => (FX12_qDropsToBracket_L0 f k n m4))) else (k m2)))) else none))
def FX12_qDropsToBracket (f : Nat)  (m : ev_M) : Option (Unit × ev_M) :=
  (FX12_qDropsToBracket_L0 f (fun m5 => some ((), m5)) f m)
set_option maxRecDepth 100000 in
set_option maxHeartbeats 4000000 in
theorem EX12_qDropsToBracket_L0 {l : Launch} {Ln : Nat} {xs : Nat → Int32} {d : Nat} (f : Nat) (k : ev_M → Option (Unit × ev_M))     (hk : ∀  (em : ev_M), Ev ev_eV l Ln xs YX12_qDropsToBracket d Sx 35 [none] [] em (k em)) (hd : 2 ≤ d) : ∀ (n : Nat)  (m : ev_M), Ev ev_eV l Ln xs YX12_qDropsToBracket d Sx 0 [some (.ref 112)] [] m (FX12_qDropsToBracket_L0 f k n m) := by
  intro n
  induction n with
  | zero => intros; exact Ev.nn
  | succ n ih =>
    intro  m
    rw [FX12_qDropsToBracket_L0]
    refine Ev.run (pc' := 8) (ls' := [some (.ref 112)]) (st' := [.int (m.1 112 97), .int (m.1 112 95)]) (m' := m) [(.aload_n 0, 0, 0, 0, 0), (.getfield 317, 12, 95, 0, 0), (.aload_n 0, 0, 0, 0, 0), (.getfield 323, 12, 97, 0, 0)] (by decide +kernel) rfl ?_
    refine Ev.ic_le (t := 35) (by decide +kernel) ?_ ?_
    · refine Ev.le (ls' := [none]) trivial ?_
      exact hk _
    · refine Ev.run (pc' := 21) (ls' := [some (.ref 112)]) (st' := [.int ((m.1 112 95) - 1), .ref 178]) (m' := m) [(.aload_n 0, 0, 0, 0, 0), (.getfield 216, 12, 94, 0, 0), (.aload_n 0, 0, 0, 0, 0), (.getfield 317, 12, 95, 0, 0), (.iconst 1, 0, 0, 1, 0), (.isub, 0, 0, 0, 0)] (by decide +kernel) rfl ?_
      refine Ev.iald (n := 1700) (by decide +kernel) (by decide) rfl ?_
      refine Ev.cS (av := [.int (m.1 178 ((m.1 112 95) - 1).toNatClampNeg)]) (st := []) (EX12_qIsBracket (l := l) (Ln := Ln) (xs := xs) (d := 0) f (m.1 178 ((m.1 112 95) - 1).toNatClampNeg) m (by decide)) rfl (by decide +kernel) mwX12_qIsBracket swX12_qIsBracket lk_12_549 (by omega) rfl (Nat.le_of_ble_eq_true rfl) (fun r1 m2 => ?_)
      refine Ev.if_ne (t := 35) (by decide +kernel) ?_ ?_
      · refine Ev.le (ls' := [none]) trivial ?_
        exact hk _
      · refine Ev.run (pc' := 29) (ls' := [some (.ref 112)]) (st' := [.ref 112]) (m' := m2) [(.aload_n 0, 0, 0, 0, 0)] (by decide +kernel) rfl ?_
        refine Ev.cV (av := []) (st := []) (a := 112) (EX12_qDrops (l := l) (Ln := Ln) (xs := xs) (d := 1) f m2 (by decide)) rfl (by decide +kernel) mwX12_qDrops iwX12_qDrops vwX12_qDrops lk_12_552 (by omega) (by decide) rfl (by decide) rfl rfl (Nat.le_of_ble_eq_true rfl) (fun r3 m4 => ?_)
        refine Ev.gto (t := 0) (by decide +kernel) ?_
        exact ih _
set_option maxRecDepth 100000 in
set_option maxHeartbeats 4000000 in
theorem EX12_qDropsToBracket {l : Launch} {Ln : Nat} {xs : Nat → Int32} {d : Nat} (f : Nat)  (m : ev_M)  (hd : 2 ≤ d) : Mv ev_eV l Ln xs YX12_qDropsToBracket d Sx [.ref 112] m (FX12_qDropsToBracket f  m) := by
  refine Mv.of (by decide +kernel) rfl (Nat.le_of_ble_eq_true rfl) (Ev.le (ls' := [some (.ref 112)]) ⟨rfl, trivial⟩ ?_)
  unfold FX12_qDropsToBracket
  refine EX12_qDropsToBracket_L0 f _ ?_ (by omega) _ _
  intro m5
  exact Ev.retv rfl rfl (by decide +kernel)
def FX12_qWordHere_J21 (f : Nat)     (m : ev_M) : Option (Int32 × ev_M) :=
  (ev_bd (FX12_isHere f 167 m) (fun r1 m2 => (if r1 = 0 then (ev_bd (FX12_isHere f 168 m2) (fun r3 m4 => (if r3 = 0 then (ev_bd (FX12_isHere f 169 m4) (fun r5 m6 => (if r5 = 0 then (ev_bd (FX12_isHere f 170 m6) (fun r7 m8 => (if r7 = 0 then (ev_bd (FX12_isHere f 171 m8) (fun r9 m10 => (if r9 = 0 then (ev_bd (FX12_isHere f 172 m10) (fun r11 m12 => (if r11 = 0 then (ev_bd (FX12_isHere f 173 m12) (fun r13 m14 => (if r13 = 0 then (ev_bd (FX12_isHere f 174 m14) (fun r15 m16 => (if r15 = 0 then (ev_bd (FX12_isHere f 175 m16) (fun r17 m18 => (if r17 = 0 then (ev_bd (FX12_isHere f 176 m18) (fun r19 m20 => (if r19 = 0 then some ((-1), m20) else some (10, m20)))) else some (9, m18)))) else some (8, m16)))) else some (7, m14)))) else some (6, m12)))) else some (5, m10)))) else some (4, m8)))) else some (3, m6)))) else some (2, m4)))) else some (1, m2))))
def FX12_qWordHere (f : Nat)  (m : ev_M) : Option (Int32 × ev_M) :=
  (if 2 ≤ (m.1 112 46) then (FX12_qWordHere_J21 f m) else (ev_bd (FX12_isHere f 166 m) (fun r21 m22 => (if r21 = 0 then (FX12_qWordHere_J21 f m22) else some (0, m22)))))
set_option maxRecDepth 100000 in
set_option maxHeartbeats 4000000 in
theorem EX12_qWordHere_J21 {l : Launch} {Ln : Nat} {xs : Nat → Int32} {d : Nat} (f : Nat)     (m : ev_M)   (hd : 2 ≤ d) : Ev ev_eI l Ln xs YX12_qWordHere d Sx 21 [some (.ref 112)] [] m (FX12_qWordHere_J21 f m) := by
  unfold FX12_qWordHere_J21
  refine Ev.run (pc' := 26) (ls' := [some (.ref 112)]) (st' := [.ref 167, .ref 112]) (m' := m) [(.aload_n 0, 0, 0, 0, 0), (.aload_n 0, 0, 0, 0, 0), (.getfield 183, 12, 82, 0, 0)] (by decide +kernel) rfl ?_
  refine Ev.cV (av := [.ref 167]) (st := []) (a := 112) (EX12_isHere (l := l) (Ln := Ln) (xs := xs) (d := 1) f 167 m (by decide) (by decide)) rfl (by decide +kernel) mwX12_isHere iwX12_isHere vwX12_isHere lk_12_251 (by omega) (by decide) rfl (by decide) rfl rfl (Nat.le_of_ble_eq_true rfl) (fun r1 m2 => ?_)
  refine Ev.if_eq (t := 34) (by decide +kernel) ?_ ?_
  · refine Ev.run (pc' := 39) (ls' := [some (.ref 112)]) (st' := [.ref 168, .ref 112]) (m' := m2) [(.aload_n 0, 0, 0, 0, 0), (.aload_n 0, 0, 0, 0, 0), (.getfield 186, 12, 83, 0, 0)] (by decide +kernel) rfl ?_
    refine Ev.cV (av := [.ref 168]) (st := []) (a := 112) (EX12_isHere (l := l) (Ln := Ln) (xs := xs) (d := 1) f 168 m2 (by decide) (by decide)) rfl (by decide +kernel) mwX12_isHere iwX12_isHere vwX12_isHere lk_12_251 (by omega) (by decide) rfl (by decide) rfl rfl (Nat.le_of_ble_eq_true rfl) (fun r3 m4 => ?_)
    refine Ev.if_eq (t := 47) (by decide +kernel) ?_ ?_
    · refine Ev.run (pc' := 52) (ls' := [some (.ref 112)]) (st' := [.ref 169, .ref 112]) (m' := m4) [(.aload_n 0, 0, 0, 0, 0), (.aload_n 0, 0, 0, 0, 0), (.getfield 189, 12, 84, 0, 0)] (by decide +kernel) rfl ?_
      refine Ev.cV (av := [.ref 169]) (st := []) (a := 112) (EX12_isHere (l := l) (Ln := Ln) (xs := xs) (d := 1) f 169 m4 (by decide) (by decide)) rfl (by decide +kernel) mwX12_isHere iwX12_isHere vwX12_isHere lk_12_251 (by omega) (by decide) rfl (by decide) rfl rfl (Nat.le_of_ble_eq_true rfl) (fun r5 m6 => ?_)
      refine Ev.if_eq (t := 60) (by decide +kernel) ?_ ?_
      · refine Ev.run (pc' := 65) (ls' := [some (.ref 112)]) (st' := [.ref 170, .ref 112]) (m' := m6) [(.aload_n 0, 0, 0, 0, 0), (.aload_n 0, 0, 0, 0, 0), (.getfield 192, 12, 85, 0, 0)] (by decide +kernel) rfl ?_
        refine Ev.cV (av := [.ref 170]) (st := []) (a := 112) (EX12_isHere (l := l) (Ln := Ln) (xs := xs) (d := 1) f 170 m6 (by decide) (by decide)) rfl (by decide +kernel) mwX12_isHere iwX12_isHere vwX12_isHere lk_12_251 (by omega) (by decide) rfl (by decide) rfl rfl (Nat.le_of_ble_eq_true rfl) (fun r7 m8 => ?_)
        refine Ev.if_eq (t := 73) (by decide +kernel) ?_ ?_
        · refine Ev.run (pc' := 78) (ls' := [some (.ref 112)]) (st' := [.ref 171, .ref 112]) (m' := m8) [(.aload_n 0, 0, 0, 0, 0), (.aload_n 0, 0, 0, 0, 0), (.getfield 195, 12, 86, 0, 0)] (by decide +kernel) rfl ?_
          refine Ev.cV (av := [.ref 171]) (st := []) (a := 112) (EX12_isHere (l := l) (Ln := Ln) (xs := xs) (d := 1) f 171 m8 (by decide) (by decide)) rfl (by decide +kernel) mwX12_isHere iwX12_isHere vwX12_isHere lk_12_251 (by omega) (by decide) rfl (by decide) rfl rfl (Nat.le_of_ble_eq_true rfl) (fun r9 m10 => ?_)
          refine Ev.if_eq (t := 86) (by decide +kernel) ?_ ?_
          · refine Ev.run (pc' := 91) (ls' := [some (.ref 112)]) (st' := [.ref 172, .ref 112]) (m' := m10) [(.aload_n 0, 0, 0, 0, 0), (.aload_n 0, 0, 0, 0, 0), (.getfield 198, 12, 87, 0, 0)] (by decide +kernel) rfl ?_
            refine Ev.cV (av := [.ref 172]) (st := []) (a := 112) (EX12_isHere (l := l) (Ln := Ln) (xs := xs) (d := 1) f 172 m10 (by decide) (by decide)) rfl (by decide +kernel) mwX12_isHere iwX12_isHere vwX12_isHere lk_12_251 (by omega) (by decide) rfl (by decide) rfl rfl (Nat.le_of_ble_eq_true rfl) (fun r11 m12 => ?_)
            refine Ev.if_eq (t := 100) (by decide +kernel) ?_ ?_
            · refine Ev.run (pc' := 105) (ls' := [some (.ref 112)]) (st' := [.ref 173, .ref 112]) (m' := m12) [(.aload_n 0, 0, 0, 0, 0), (.aload_n 0, 0, 0, 0, 0), (.getfield 201, 12, 88, 0, 0)] (by decide +kernel) rfl ?_
              refine Ev.cV (av := [.ref 173]) (st := []) (a := 112) (EX12_isHere (l := l) (Ln := Ln) (xs := xs) (d := 1) f 173 m12 (by decide) (by decide)) rfl (by decide +kernel) mwX12_isHere iwX12_isHere vwX12_isHere lk_12_251 (by omega) (by decide) rfl (by decide) rfl rfl (Nat.le_of_ble_eq_true rfl) (fun r13 m14 => ?_)
              refine Ev.if_eq (t := 114) (by decide +kernel) ?_ ?_
              · refine Ev.run (pc' := 119) (ls' := [some (.ref 112)]) (st' := [.ref 174, .ref 112]) (m' := m14) [(.aload_n 0, 0, 0, 0, 0), (.aload_n 0, 0, 0, 0, 0), (.getfield 204, 12, 89, 0, 0)] (by decide +kernel) rfl ?_
                refine Ev.cV (av := [.ref 174]) (st := []) (a := 112) (EX12_isHere (l := l) (Ln := Ln) (xs := xs) (d := 1) f 174 m14 (by decide) (by decide)) rfl (by decide +kernel) mwX12_isHere iwX12_isHere vwX12_isHere lk_12_251 (by omega) (by decide) rfl (by decide) rfl rfl (Nat.le_of_ble_eq_true rfl) (fun r15 m16 => ?_)
                refine Ev.if_eq (t := 128) (by decide +kernel) ?_ ?_
                · refine Ev.run (pc' := 133) (ls' := [some (.ref 112)]) (st' := [.ref 175, .ref 112]) (m' := m16) [(.aload_n 0, 0, 0, 0, 0), (.aload_n 0, 0, 0, 0, 0), (.getfield 207, 12, 90, 0, 0)] (by decide +kernel) rfl ?_
                  refine Ev.cV (av := [.ref 175]) (st := []) (a := 112) (EX12_isHere (l := l) (Ln := Ln) (xs := xs) (d := 1) f 175 m16 (by decide) (by decide)) rfl (by decide +kernel) mwX12_isHere iwX12_isHere vwX12_isHere lk_12_251 (by omega) (by decide) rfl (by decide) rfl rfl (Nat.le_of_ble_eq_true rfl) (fun r17 m18 => ?_)
                  refine Ev.if_eq (t := 142) (by decide +kernel) ?_ ?_
                  · refine Ev.run (pc' := 147) (ls' := [some (.ref 112)]) (st' := [.ref 176, .ref 112]) (m' := m18) [(.aload_n 0, 0, 0, 0, 0), (.aload_n 0, 0, 0, 0, 0), (.getfield 210, 12, 91, 0, 0)] (by decide +kernel) rfl ?_
                    refine Ev.cV (av := [.ref 176]) (st := []) (a := 112) (EX12_isHere (l := l) (Ln := Ln) (xs := xs) (d := 1) f 176 m18 (by decide) (by decide)) rfl (by decide +kernel) mwX12_isHere iwX12_isHere vwX12_isHere lk_12_251 (by omega) (by decide) rfl (by decide) rfl rfl (Nat.le_of_ble_eq_true rfl) (fun r19 m20 => ?_)
                    refine Ev.if_eq (t := 156) (by decide +kernel) ?_ ?_
                    · refine Ev.run (pc' := 157) (ls' := [some (.ref 112)]) (st' := [.int (-1)]) (m' := m20) [(.iconst (-1), 0, 0, (-1), 0)] (by decide +kernel) rfl ?_
                      exact Ev.ireti rfl rfl (by decide +kernel)
                    · refine Ev.run (pc' := 155) (ls' := [some (.ref 112)]) (st' := [.int 10]) (m' := m20) [(.bipush 10, 0, 0, 10, 0)] (by decide +kernel) rfl ?_
                      exact Ev.ireti rfl rfl (by decide +kernel)
                  · refine Ev.run (pc' := 141) (ls' := [some (.ref 112)]) (st' := [.int 9]) (m' := m18) [(.bipush 9, 0, 0, 9, 0)] (by decide +kernel) rfl ?_
                    exact Ev.ireti rfl rfl (by decide +kernel)
                · refine Ev.run (pc' := 127) (ls' := [some (.ref 112)]) (st' := [.int 8]) (m' := m16) [(.bipush 8, 0, 0, 8, 0)] (by decide +kernel) rfl ?_
                  exact Ev.ireti rfl rfl (by decide +kernel)
              · refine Ev.run (pc' := 113) (ls' := [some (.ref 112)]) (st' := [.int 7]) (m' := m14) [(.bipush 7, 0, 0, 7, 0)] (by decide +kernel) rfl ?_
                exact Ev.ireti rfl rfl (by decide +kernel)
            · refine Ev.run (pc' := 99) (ls' := [some (.ref 112)]) (st' := [.int 6]) (m' := m12) [(.bipush 6, 0, 0, 6, 0)] (by decide +kernel) rfl ?_
              exact Ev.ireti rfl rfl (by decide +kernel)
          · refine Ev.run (pc' := 85) (ls' := [some (.ref 112)]) (st' := [.int 5]) (m' := m10) [(.iconst 5, 0, 0, 5, 0)] (by decide +kernel) rfl ?_
            exact Ev.ireti rfl rfl (by decide +kernel)
        · refine Ev.run (pc' := 72) (ls' := [some (.ref 112)]) (st' := [.int 4]) (m' := m8) [(.iconst 4, 0, 0, 4, 0)] (by decide +kernel) rfl ?_
          exact Ev.ireti rfl rfl (by decide +kernel)
      · refine Ev.run (pc' := 59) (ls' := [some (.ref 112)]) (st' := [.int 3]) (m' := m6) [(.iconst 3, 0, 0, 3, 0)] (by decide +kernel) rfl ?_
        exact Ev.ireti rfl rfl (by decide +kernel)
    · refine Ev.run (pc' := 46) (ls' := [some (.ref 112)]) (st' := [.int 2]) (m' := m4) [(.iconst 2, 0, 0, 2, 0)] (by decide +kernel) rfl ?_
      exact Ev.ireti rfl rfl (by decide +kernel)
  · refine Ev.run (pc' := 33) (ls' := [some (.ref 112)]) (st' := [.int 1]) (m' := m2) [(.iconst 1, 0, 0, 1, 0)] (by decide +kernel) rfl ?_
    exact Ev.ireti rfl rfl (by decide +kernel)
set_option maxRecDepth 100000 in
set_option maxHeartbeats 4000000 in
theorem EX12_qWordHere {l : Launch} {Ln : Nat} {xs : Nat → Int32} {d : Nat} (f : Nat)  (m : ev_M)  (hd : 2 ≤ d) : Mv ev_eI l Ln xs YX12_qWordHere d Sx [.ref 112] m (FX12_qWordHere f  m) := by
  refine Mv.of (by decide +kernel) rfl (Nat.le_of_ble_eq_true rfl) (Ev.le (ls' := [some (.ref 112)]) ⟨rfl, trivial⟩ ?_)
  unfold FX12_qWordHere
  refine Ev.run (pc' := 5) (ls' := [some (.ref 112)]) (st' := [.int 2, .int (m.1 112 46)]) (m' := m) [(.aload_n 0, 0, 0, 0, 0), (.getfield 283, 12, 46, 0, 0), (.iconst 2, 0, 0, 2, 0)] (by decide +kernel) rfl ?_
  refine Ev.ic_ge (t := 21) (by decide +kernel) ?_ ?_
  · exact EX12_qWordHere_J21 f m (by omega)
  · refine Ev.run (pc' := 13) (ls' := [some (.ref 112)]) (st' := [.ref 166, .ref 112]) (m' := m) [(.aload_n 0, 0, 0, 0, 0), (.aload_n 0, 0, 0, 0, 0), (.getfield 180, 12, 81, 0, 0)] (by decide +kernel) rfl ?_
    refine Ev.cV (av := [.ref 166]) (st := []) (a := 112) (EX12_isHere (l := l) (Ln := Ln) (xs := xs) (d := 1) f 166 m (by decide) (by decide)) rfl (by decide +kernel) mwX12_isHere iwX12_isHere vwX12_isHere lk_12_251 (by omega) (by decide) rfl (by decide) rfl rfl (Nat.le_of_ble_eq_true rfl) (fun r21 m22 => ?_)
    refine Ev.if_eq (t := 21) (by decide +kernel) ?_ ?_
    · exact EX12_qWordHere_J21 f m22 (by omega)
    · refine Ev.run (pc' := 20) (ls' := [some (.ref 112)]) (st' := [.int 0]) (m' := m22) [(.iconst 0, 0, 0, 0, 0)] (by decide +kernel) rfl ?_
      exact Ev.ireti rfl rfl (by decide +kernel)
def FX12_qWordOf (f : Nat) (a1 : Int32) (a2 : Int32) (m : ev_M) : Option (Int32 × ev_M) :=
  (ev_bd (FX12_qWordHere f m) (fun r1 m2 => (if r1 < a1 then some ((-1), m2) else (if a2 ≤ r1 then some ((-1), m2) else (ev_bd (FX12_isAllowed f r1 m2) (fun r3 m4 => (if r3 = 0 then some ((-1), m4) else some (r1, m4))))))))
set_option maxRecDepth 100000 in
set_option maxHeartbeats 4000000 in
theorem EX12_qWordOf {l : Launch} {Ln : Nat} {xs : Nat → Int32} {d : Nat} (f : Nat) (a1 : Int32) (a2 : Int32) (m : ev_M)  (hd : 3 ≤ d) : Mv ev_eI l Ln xs YX12_qWordOf d Sx [.ref 112, .int a1, .int a2] m (FX12_qWordOf f a1 a2 m) := by
  refine Mv.of (by decide +kernel) rfl (Nat.le_of_ble_eq_true rfl) (Ev.le (ls' := [some (.ref 112), some (.int a1), some (.int a2), none]) ⟨rfl, ⟨rfl, ⟨rfl, trivial⟩⟩⟩ ?_)
  unfold FX12_qWordOf
  refine Ev.run (pc' := 1) (ls' := [some (.ref 112), some (.int a1), some (.int a2), none]) (st' := [.ref 112]) (m' := m) [(.aload_n 0, 0, 0, 0, 0)] (by decide +kernel) rfl ?_
  refine Ev.cV (av := []) (st := []) (a := 112) (EX12_qWordHere (l := l) (Ln := Ln) (xs := xs) (d := 2) f m (by decide)) rfl (by decide +kernel) mwX12_qWordHere iwX12_qWordHere vwX12_qWordHere lk_12_555 (by omega) (by decide) rfl (by decide) rfl rfl (Nat.le_of_ble_eq_true rfl) (fun r1 m2 => ?_)
  refine Ev.run (pc' := 7) (ls' := [some (.ref 112), some (.int a1), some (.int a2), some (.int r1)]) (st' := [.int a1, .int r1]) (m' := m2) [(.istore_n 3, 0, 0, 0, 0), (.iload_n 3, 0, 0, 0, 0), (.iload_n 1, 0, 0, 0, 0)] (by decide +kernel) rfl ?_
  refine Ev.ic_lt (t := 27) (by decide +kernel) ?_ ?_
  · refine Ev.run (pc' := 28) (ls' := [some (.ref 112), some (.int a1), some (.int a2), some (.int r1)]) (st' := [.int (-1)]) (m' := m2) [(.iconst (-1), 0, 0, (-1), 0)] (by decide +kernel) rfl ?_
    exact Ev.ireti rfl rfl (by decide +kernel)
  · refine Ev.run (pc' := 12) (ls' := [some (.ref 112), some (.int a1), some (.int a2), some (.int r1)]) (st' := [.int a2, .int r1]) (m' := m2) [(.iload_n 3, 0, 0, 0, 0), (.iload_n 2, 0, 0, 0, 0)] (by decide +kernel) rfl ?_
    refine Ev.ic_ge (t := 27) (by decide +kernel) ?_ ?_
    · refine Ev.run (pc' := 28) (ls' := [some (.ref 112), some (.int a1), some (.int a2), some (.int r1)]) (st' := [.int (-1)]) (m' := m2) [(.iconst (-1), 0, 0, (-1), 0)] (by decide +kernel) rfl ?_
      exact Ev.ireti rfl rfl (by decide +kernel)
    · refine Ev.run (pc' := 17) (ls' := [some (.ref 112), some (.int a1), some (.int a2), some (.int r1)]) (st' := [.int r1, .ref 112]) (m' := m2) [(.aload_n 0, 0, 0, 0, 0), (.iload_n 3, 0, 0, 0, 0)] (by decide +kernel) rfl ?_
      refine Ev.cV (av := [.int r1]) (st := []) (a := 112) (EX12_isAllowed (l := l) (Ln := Ln) (xs := xs) (d := 1) f r1 m2 (by decide)) rfl (by decide +kernel) mwX12_isAllowed iwX12_isAllowed vwX12_isAllowed lk_12_558 (by omega) (by decide) rfl (by decide) rfl rfl (Nat.le_of_ble_eq_true rfl) (fun r3 m4 => ?_)
      refine Ev.if_eq (t := 27) (by decide +kernel) ?_ ?_
      · refine Ev.run (pc' := 28) (ls' := [some (.ref 112), some (.int a1), some (.int a2), some (.int r1)]) (st' := [.int (-1)]) (m' := m4) [(.iconst (-1), 0, 0, (-1), 0)] (by decide +kernel) rfl ?_
        exact Ev.ireti rfl rfl (by decide +kernel)
      · refine Ev.run (pc' := 24) (ls' := [some (.ref 112), some (.int a1), some (.int a2), some (.int r1)]) (st' := [.int r1]) (m' := m4) [(.iload_n 3, 0, 0, 0, 0)] (by decide +kernel) rfl ?_
        refine Ev.gto (t := 28) (by decide +kernel) ?_
        exact Ev.ireti rfl rfl (by decide +kernel)
def FX12_qAsksWord (f : Nat) (a1 : Int32) (m : ev_M) : Option (Unit × ev_M) :=
  (if a1 = 0 then (ev_bd (FX12_asks f 166 m) (fun _ m2 => some ((), m2))) else (if a1 = 1 then (ev_bd (FX12_asks f 167 m) (fun _ m5 => some ((), m5))) else (if a1 = 2 then (ev_bd (FX12_asks f 168 m) (fun _ m8 => some ((), m8))) else (if a1 = 3 then (ev_bd (FX12_asks f 169 m) (fun _ m11 => some ((), m11))) else (if a1 = 4 then (ev_bd (FX12_asks f 170 m) (fun _ m14 => some ((), m14))) else (if a1 = 5 then (ev_bd (FX12_asks f 171 m) (fun _ m17 => some ((), m17))) else (if a1 = 6 then (ev_bd (FX12_asks f 172 m) (fun _ m20 => some ((), m20))) else (if a1 = 7 then (ev_bd (FX12_asks f 173 m) (fun _ m23 => some ((), m23))) else (if a1 = 8 then (ev_bd (FX12_asks f 174 m) (fun _ m26 => some ((), m26))) else (if a1 = 9 then (ev_bd (FX12_asks f 175 m) (fun _ m29 => some ((), m29))) else (ev_bd (FX12_asks f 176 m) (fun _ m32 => some ((), m32)))))))))))))
set_option maxRecDepth 100000 in
set_option maxHeartbeats 4000000 in
theorem EX12_qAsksWord {l : Launch} {Ln : Nat} {xs : Nat → Int32} {d : Nat} (f : Nat) (a1 : Int32) (m : ev_M)  (hd : 4 ≤ d) : Mv ev_eV l Ln xs YX12_qAsksWord d Sx [.ref 112, .int a1] m (FX12_qAsksWord f a1 m) := by
  refine Mv.of (by decide +kernel) rfl (Nat.le_of_ble_eq_true rfl) (Ev.le (ls' := [some (.ref 112), some (.int a1)]) ⟨rfl, ⟨rfl, trivial⟩⟩ ?_)
  unfold FX12_qAsksWord
  refine Ev.run (pc' := 1) (ls' := [some (.ref 112), some (.int a1)]) (st' := [.int a1]) (m' := m) [(.iload_n 1, 0, 0, 0, 0)] (by decide +kernel) rfl ?_
  refine Ev.sw1 0 (t := 56) (by decide +kernel) (by decide) ?_ (fun z3 => ?_)
  · refine Ev.run (pc' := 61) (ls' := [some (.ref 112), some (.int a1)]) (st' := [.ref 166, .ref 112]) (m' := m) [(.aload_n 0, 0, 0, 0, 0), (.aload_n 0, 0, 0, 0, 0), (.getfield 180, 12, 81, 0, 0)] (by decide +kernel) rfl ?_
    refine Ev.cV (av := [.ref 166]) (st := []) (a := 112) (EX12_asks (l := l) (Ln := Ln) (xs := xs) (d := 3) f 166 m (by decide) (by decide)) rfl (by decide +kernel) mwX12_asks iwX12_asks vwX12_asks lk_12_291 (by omega) (by decide) rfl (by decide) rfl rfl (Nat.le_of_ble_eq_true rfl) (fun r1 m2 => ?_)
    refine Ev.gto (t := 174) (by decide +kernel) ?_
    exact Ev.retv rfl rfl (by decide +kernel)
  refine Ev.sw1 1 (t := 67) (by decide +kernel) (by decide) ?_ (fun z6 => ?_)
  · refine Ev.run (pc' := 72) (ls' := [some (.ref 112), some (.int a1)]) (st' := [.ref 167, .ref 112]) (m' := m) [(.aload_n 0, 0, 0, 0, 0), (.aload_n 0, 0, 0, 0, 0), (.getfield 183, 12, 82, 0, 0)] (by decide +kernel) rfl ?_
    refine Ev.cV (av := [.ref 167]) (st := []) (a := 112) (EX12_asks (l := l) (Ln := Ln) (xs := xs) (d := 3) f 167 m (by decide) (by decide)) rfl (by decide +kernel) mwX12_asks iwX12_asks vwX12_asks lk_12_291 (by omega) (by decide) rfl (by decide) rfl rfl (Nat.le_of_ble_eq_true rfl) (fun r4 m5 => ?_)
    refine Ev.gto (t := 174) (by decide +kernel) ?_
    exact Ev.retv rfl rfl (by decide +kernel)
  refine Ev.sw1 2 (t := 78) (by decide +kernel) (by decide) ?_ (fun z9 => ?_)
  · refine Ev.run (pc' := 83) (ls' := [some (.ref 112), some (.int a1)]) (st' := [.ref 168, .ref 112]) (m' := m) [(.aload_n 0, 0, 0, 0, 0), (.aload_n 0, 0, 0, 0, 0), (.getfield 186, 12, 83, 0, 0)] (by decide +kernel) rfl ?_
    refine Ev.cV (av := [.ref 168]) (st := []) (a := 112) (EX12_asks (l := l) (Ln := Ln) (xs := xs) (d := 3) f 168 m (by decide) (by decide)) rfl (by decide +kernel) mwX12_asks iwX12_asks vwX12_asks lk_12_291 (by omega) (by decide) rfl (by decide) rfl rfl (Nat.le_of_ble_eq_true rfl) (fun r7 m8 => ?_)
    refine Ev.gto (t := 174) (by decide +kernel) ?_
    exact Ev.retv rfl rfl (by decide +kernel)
  refine Ev.sw1 3 (t := 89) (by decide +kernel) (by decide) ?_ (fun z12 => ?_)
  · refine Ev.run (pc' := 94) (ls' := [some (.ref 112), some (.int a1)]) (st' := [.ref 169, .ref 112]) (m' := m) [(.aload_n 0, 0, 0, 0, 0), (.aload_n 0, 0, 0, 0, 0), (.getfield 189, 12, 84, 0, 0)] (by decide +kernel) rfl ?_
    refine Ev.cV (av := [.ref 169]) (st := []) (a := 112) (EX12_asks (l := l) (Ln := Ln) (xs := xs) (d := 3) f 169 m (by decide) (by decide)) rfl (by decide +kernel) mwX12_asks iwX12_asks vwX12_asks lk_12_291 (by omega) (by decide) rfl (by decide) rfl rfl (Nat.le_of_ble_eq_true rfl) (fun r10 m11 => ?_)
    refine Ev.gto (t := 174) (by decide +kernel) ?_
    exact Ev.retv rfl rfl (by decide +kernel)
  refine Ev.sw1 4 (t := 100) (by decide +kernel) (by decide) ?_ (fun z15 => ?_)
  · refine Ev.run (pc' := 105) (ls' := [some (.ref 112), some (.int a1)]) (st' := [.ref 170, .ref 112]) (m' := m) [(.aload_n 0, 0, 0, 0, 0), (.aload_n 0, 0, 0, 0, 0), (.getfield 192, 12, 85, 0, 0)] (by decide +kernel) rfl ?_
    refine Ev.cV (av := [.ref 170]) (st := []) (a := 112) (EX12_asks (l := l) (Ln := Ln) (xs := xs) (d := 3) f 170 m (by decide) (by decide)) rfl (by decide +kernel) mwX12_asks iwX12_asks vwX12_asks lk_12_291 (by omega) (by decide) rfl (by decide) rfl rfl (Nat.le_of_ble_eq_true rfl) (fun r13 m14 => ?_)
    refine Ev.gto (t := 174) (by decide +kernel) ?_
    exact Ev.retv rfl rfl (by decide +kernel)
  refine Ev.sw1 5 (t := 111) (by decide +kernel) (by decide) ?_ (fun z18 => ?_)
  · refine Ev.run (pc' := 116) (ls' := [some (.ref 112), some (.int a1)]) (st' := [.ref 171, .ref 112]) (m' := m) [(.aload_n 0, 0, 0, 0, 0), (.aload_n 0, 0, 0, 0, 0), (.getfield 195, 12, 86, 0, 0)] (by decide +kernel) rfl ?_
    refine Ev.cV (av := [.ref 171]) (st := []) (a := 112) (EX12_asks (l := l) (Ln := Ln) (xs := xs) (d := 3) f 171 m (by decide) (by decide)) rfl (by decide +kernel) mwX12_asks iwX12_asks vwX12_asks lk_12_291 (by omega) (by decide) rfl (by decide) rfl rfl (Nat.le_of_ble_eq_true rfl) (fun r16 m17 => ?_)
    refine Ev.gto (t := 174) (by decide +kernel) ?_
    exact Ev.retv rfl rfl (by decide +kernel)
  refine Ev.sw1 6 (t := 122) (by decide +kernel) (by decide) ?_ (fun z21 => ?_)
  · refine Ev.run (pc' := 127) (ls' := [some (.ref 112), some (.int a1)]) (st' := [.ref 172, .ref 112]) (m' := m) [(.aload_n 0, 0, 0, 0, 0), (.aload_n 0, 0, 0, 0, 0), (.getfield 198, 12, 87, 0, 0)] (by decide +kernel) rfl ?_
    refine Ev.cV (av := [.ref 172]) (st := []) (a := 112) (EX12_asks (l := l) (Ln := Ln) (xs := xs) (d := 3) f 172 m (by decide) (by decide)) rfl (by decide +kernel) mwX12_asks iwX12_asks vwX12_asks lk_12_291 (by omega) (by decide) rfl (by decide) rfl rfl (Nat.le_of_ble_eq_true rfl) (fun r19 m20 => ?_)
    refine Ev.gto (t := 174) (by decide +kernel) ?_
    exact Ev.retv rfl rfl (by decide +kernel)
  refine Ev.sw1 7 (t := 133) (by decide +kernel) (by decide) ?_ (fun z24 => ?_)
  · refine Ev.run (pc' := 138) (ls' := [some (.ref 112), some (.int a1)]) (st' := [.ref 173, .ref 112]) (m' := m) [(.aload_n 0, 0, 0, 0, 0), (.aload_n 0, 0, 0, 0, 0), (.getfield 201, 12, 88, 0, 0)] (by decide +kernel) rfl ?_
    refine Ev.cV (av := [.ref 173]) (st := []) (a := 112) (EX12_asks (l := l) (Ln := Ln) (xs := xs) (d := 3) f 173 m (by decide) (by decide)) rfl (by decide +kernel) mwX12_asks iwX12_asks vwX12_asks lk_12_291 (by omega) (by decide) rfl (by decide) rfl rfl (Nat.le_of_ble_eq_true rfl) (fun r22 m23 => ?_)
    refine Ev.gto (t := 174) (by decide +kernel) ?_
    exact Ev.retv rfl rfl (by decide +kernel)
  refine Ev.sw1 8 (t := 144) (by decide +kernel) (by decide) ?_ (fun z27 => ?_)
  · refine Ev.run (pc' := 149) (ls' := [some (.ref 112), some (.int a1)]) (st' := [.ref 174, .ref 112]) (m' := m) [(.aload_n 0, 0, 0, 0, 0), (.aload_n 0, 0, 0, 0, 0), (.getfield 204, 12, 89, 0, 0)] (by decide +kernel) rfl ?_
    refine Ev.cV (av := [.ref 174]) (st := []) (a := 112) (EX12_asks (l := l) (Ln := Ln) (xs := xs) (d := 3) f 174 m (by decide) (by decide)) rfl (by decide +kernel) mwX12_asks iwX12_asks vwX12_asks lk_12_291 (by omega) (by decide) rfl (by decide) rfl rfl (Nat.le_of_ble_eq_true rfl) (fun r25 m26 => ?_)
    refine Ev.gto (t := 174) (by decide +kernel) ?_
    exact Ev.retv rfl rfl (by decide +kernel)
  refine Ev.sw1 9 (t := 155) (by decide +kernel) (by decide) ?_ (fun z30 => ?_)
  · refine Ev.run (pc' := 160) (ls' := [some (.ref 112), some (.int a1)]) (st' := [.ref 175, .ref 112]) (m' := m) [(.aload_n 0, 0, 0, 0, 0), (.aload_n 0, 0, 0, 0, 0), (.getfield 207, 12, 90, 0, 0)] (by decide +kernel) rfl ?_
    refine Ev.cV (av := [.ref 175]) (st := []) (a := 112) (EX12_asks (l := l) (Ln := Ln) (xs := xs) (d := 3) f 175 m (by decide) (by decide)) rfl (by decide +kernel) mwX12_asks iwX12_asks vwX12_asks lk_12_291 (by omega) (by decide) rfl (by decide) rfl rfl (Nat.le_of_ble_eq_true rfl) (fun r28 m29 => ?_)
    refine Ev.gto (t := 174) (by decide +kernel) ?_
    exact Ev.retv rfl rfl (by decide +kernel)
  refine Ev.sw0 (vals := [0, 1, 2, 3, 4, 5, 6, 7, 8, 9]) (dt := 166) (by decide +kernel) (by simp only [List.mem_cons, List.not_mem_nil, or_false, not_or]; exact ⟨(lv_neT (k := 0) (a := 0) z3 (by decide)), (lv_neT (k := 1) (a := 1) z6 (by decide)), (lv_neT (k := 2) (a := 2) z9 (by decide)), (lv_neT (k := 3) (a := 3) z12 (by decide)), (lv_neT (k := 4) (a := 4) z15 (by decide)), (lv_neT (k := 5) (a := 5) z18 (by decide)), (lv_neT (k := 6) (a := 6) z21 (by decide)), (lv_neT (k := 7) (a := 7) z24 (by decide)), (lv_neT (k := 8) (a := 8) z27 (by decide)), (lv_neT (k := 9) (a := 9) z30 (by decide))⟩) ?_
  refine Ev.run (pc' := 171) (ls' := [some (.ref 112), some (.int a1)]) (st' := [.ref 176, .ref 112]) (m' := m) [(.aload_n 0, 0, 0, 0, 0), (.aload_n 0, 0, 0, 0, 0), (.getfield 210, 12, 91, 0, 0)] (by decide +kernel) rfl ?_
  refine Ev.cV (av := [.ref 176]) (st := []) (a := 112) (EX12_asks (l := l) (Ln := Ln) (xs := xs) (d := 3) f 176 m (by decide) (by decide)) rfl (by decide +kernel) mwX12_asks iwX12_asks vwX12_asks lk_12_291 (by omega) (by decide) rfl (by decide) rfl rfl (Nat.le_of_ble_eq_true rfl) (fun r31 m32 => ?_)
  exact Ev.retv rfl rfl (by decide +kernel)
def FX12_qEndsPart_L0 (f : Nat) (k : ev_M → Option (Unit × ev_M))   : Nat → ev_M → Option (Unit × ev_M)
  | 0, _ => none
  | n + 1, m => (if (m.1 112 5) = 0 then (if (m.1 112 95) ≤ (m.1 112 97) then (k m) else (if ev_in ((m.1 112 95) - 1) 1700 then (if (m.1 178 ((m.1 112 95) - 1).toNatClampNeg) < 60 then (k m) else (ev_bd (FX12_qDrops f ((ev_up m.1 112 96 ((m.1 112 96) - 1)), m.2)) (fun _ m2 => (FX12_qEndsPart_L0 f k n m2)))) else none)) else (k m))
def FX12_qEndsPart (f : Nat)  (m : ev_M) : Option (Unit × ev_M) :=
  (FX12_qEndsPart_L0 f (fun m3 => some ((), m3)) f m)
set_option maxRecDepth 100000 in
set_option maxHeartbeats 4000000 in
theorem EX12_qEndsPart_L0 {l : Launch} {Ln : Nat} {xs : Nat → Int32} {d : Nat} (f : Nat) (k : ev_M → Option (Unit × ev_M))     (hk : ∀  (em : ev_M), Ev ev_eV l Ln xs YX12_qEndsPart d Sx 51 [none] [] em (k em)) (hd : 2 ≤ d) : ∀ (n : Nat)  (m : ev_M), Ev ev_eV l Ln xs YX12_qEndsPart d Sx 0 [some (.ref 112)] [] m (FX12_qEndsPart_L0 f k n m) := by
  intro n
  induction n with
  | zero => intros; exact Ev.nn
  | succ n ih =>
    intro  m
    rw [FX12_qEndsPart_L0]
    refine Ev.run (pc' := 4) (ls' := [some (.ref 112)]) (st' := [.int (m.1 112 5)]) (m' := m) [(.aload_n 0, 0, 0, 0, 0), (.getfield 228, 12, 5, 0, 0)] (by decide +kernel) rfl ?_
    refine Ev.if_ne (t := 51) (by decide +kernel) ?_ ?_
    · refine Ev.le (ls' := [none]) trivial ?_
      exact hk _
    · refine Ev.run (pc' := 15) (ls' := [some (.ref 112)]) (st' := [.int (m.1 112 97), .int (m.1 112 95)]) (m' := m) [(.aload_n 0, 0, 0, 0, 0), (.getfield 317, 12, 95, 0, 0), (.aload_n 0, 0, 0, 0, 0), (.getfield 323, 12, 97, 0, 0)] (by decide +kernel) rfl ?_
      refine Ev.ic_le (t := 51) (by decide +kernel) ?_ ?_
      · refine Ev.le (ls' := [none]) trivial ?_
        exact hk _
      · refine Ev.run (pc' := 28) (ls' := [some (.ref 112)]) (st' := [.int ((m.1 112 95) - 1), .ref 178]) (m' := m) [(.aload_n 0, 0, 0, 0, 0), (.getfield 216, 12, 94, 0, 0), (.aload_n 0, 0, 0, 0, 0), (.getfield 317, 12, 95, 0, 0), (.iconst 1, 0, 0, 1, 0), (.isub, 0, 0, 0, 0)] (by decide +kernel) rfl ?_
        refine Ev.iald (n := 1700) (by decide +kernel) (by decide) rfl ?_
        refine Ev.run (pc' := 31) (ls' := [some (.ref 112)]) (st' := [.int 60, .int (m.1 178 ((m.1 112 95) - 1).toNatClampNeg)]) (m' := m) [(.bipush 60, 0, 0, 60, 0)] (by decide +kernel) rfl ?_
        refine Ev.ic_lt (t := 51) (by decide +kernel) ?_ ?_
        · refine Ev.le (ls' := [none]) trivial ?_
          exact hk _
        · refine Ev.run (pc' := 45) (ls' := [some (.ref 112)]) (st' := [.ref 112]) (m' := ((ev_up m.1 112 96 ((m.1 112 96) - 1)), m.2)) [(.aload_n 0, 0, 0, 0, 0), (.dup, 0, 0, 0, 0), (.getfield 320, 12, 96, 0, 0), (.iconst 1, 0, 0, 1, 0), (.isub, 0, 0, 0, 0), (.putfield 320, 12, 96, 0, 0), (.aload_n 0, 0, 0, 0, 0)] (by decide +kernel) rfl ?_
          refine Ev.cV (av := []) (st := []) (a := 112) (EX12_qDrops (l := l) (Ln := Ln) (xs := xs) (d := 1) f ((ev_up m.1 112 96 ((m.1 112 96) - 1)), m.2) (by decide)) rfl (by decide +kernel) mwX12_qDrops iwX12_qDrops vwX12_qDrops lk_12_552 (by omega) (by decide) rfl (by decide) rfl rfl (Nat.le_of_ble_eq_true rfl) (fun r1 m2 => ?_)
          refine Ev.gto (t := 0) (by decide +kernel) ?_
          exact ih _
set_option maxRecDepth 100000 in
set_option maxHeartbeats 4000000 in
theorem EX12_qEndsPart {l : Launch} {Ln : Nat} {xs : Nat → Int32} {d : Nat} (f : Nat)  (m : ev_M)  (hd : 2 ≤ d) : Mv ev_eV l Ln xs YX12_qEndsPart d Sx [.ref 112] m (FX12_qEndsPart f  m) := by
  refine Mv.of (by decide +kernel) rfl (Nat.le_of_ble_eq_true rfl) (Ev.le (ls' := [some (.ref 112)]) ⟨rfl, trivial⟩ ?_)
  unfold FX12_qEndsPart
  refine EX12_qEndsPart_L0 f _ ?_ (by omega) _ _
  intro m3
  exact Ev.retv rfl rfl (by decide +kernel)
def FX12_qPartTold_J183 (f : Nat) (kt2 : Int32 → ev_M → Option (Unit × ev_M))  (a1 : Int32)  (m : ev_M) : Option (Unit × ev_M) :=
  (kt2 a1 m)
def FX12_qPartTold_J144 (f : Nat) (kt2 : Int32 → ev_M → Option (Unit × ev_M))  (a1 : Int32)  (m : ev_M) : Option (Unit × ev_M) :=
  (ev_bd (FX12_asksSign f (40 : Int32) m) (fun _ m12 => (FX12_qPartTold_J183 f kt2 a1 m12)))
def FX12_qPartTold_J139 (f : Nat) (kt2 : Int32 → ev_M → Option (Unit × ev_M))  (a1 : Int32) (a5 : Int32) (s1 : Int32) (m : ev_M) : Option (Unit × ev_M) :=
  (ev_bd (FX12_qOpens f s1 a5 m) (fun _ m14 => (FX12_qPartTold_J144 f kt2 a1 m14)))
def FX12_qPartTold_J118 (f : Nat) (kt2 : Int32 → ev_M → Option (Unit × ev_M))  (a1 : Int32) (a4 : Int32) (s0 : Int32) (m : ev_M) : Option (Unit × ev_M) :=
  (if s0 = (-1) then (FX12_qPartTold_J144 f kt2 a1 m) else (if a4 = 0 then (FX12_qPartTold_J139 f kt2 a1 s0 (22 : Int32) m) else (FX12_qPartTold_J139 f kt2 a1 s0 (21 : Int32) m)))
def FX12_qPartTold_J101 (f : Nat) (kt2 : Int32 → ev_M → Option (Unit × ev_M))  (a1 : Int32) (a4 : Int32)  (m : ev_M) : Option (Unit × ev_M) :=
  (ev_bd (FX12_look f m) (fun r9 m10 => (if r9 = 40 then (FX12_qPartTold_J118 f kt2 a1 a4 (m10.1 112 2) m10) else (FX12_qPartTold_J118 f kt2 a1 a4 (-1 : Int32) m10))))
def FX12_qPartTold_J78 (f : Nat) (kt2 : Int32 → ev_M → Option (Unit × ev_M))  (a1 : Int32)  (m : ev_M) : Option (Unit × ev_M) :=
  (ev_bd (FX12_takes f 164 m) (fun r7 m8 => (if r7 = 0 then (ev_bd (FX12_asks f 165 m8) (fun _ m16 => (FX12_qPartTold_J101 f kt2 a1 r7 m16))) else (FX12_qPartTold_J101 f kt2 a1 r7 m8))))
def FX12_qPartTold_L2 (f : Nat) (k : ev_M → Option (Unit × ev_M))   : Nat → Int32 → ev_M → Option (Unit × ev_M)
  | 0, _, _ => none
  | n + 1, a1, m => (if a1 = 0 then (k m) else (if (m.1 112 5) = 0 then (ev_bd (FX12_look f m) (fun r1 m2 => (ev_bd (FX12_qWordOf f (10 : Int32) (11 : Int32) m2) (fun r3 m4 => (if r1 = 40 then (ev_bd (FX12_qOpens f (20 : Int32) (m4.1 112 2) m4) (fun _ m24 => (FX12_qPartTold_J183 f (FX12_qPartTold_L2 f k n) a1 ((ev_up m24.1 112 2 ((m24.1 112 2) + 1)), m24.2)))) else (ev_bd (FX12_isHere f 164 m4) (fun r5 m6 => (if r5 = 0 then (ev_bd (FX12_isHere f 165 m6) (fun r17 m18 => (if r17 = 0 then (if r3 = (-1) then (FX12_qPartTold_J183 f (FX12_qPartTold_L2 f k n) (0 : Int32) m18) else (ev_bd (FX12_qOpens f ((60 + r3) - 10) (m18.1 112 2) m18) (fun _ m20 => (ev_bd (FX12_qAsksWord f r3 m20) (fun _ m22 => (FX12_qPartTold_J183 f (FX12_qPartTold_L2 f k n) a1 m22)))))) else (FX12_qPartTold_J78 f (FX12_qPartTold_L2 f k n) a1 m18)))) else (FX12_qPartTold_J78 f (FX12_qPartTold_L2 f k n) a1 m6))))))))) else (k m)))
def FX12_qPartTold_J237 (f : Nat)    (s1 : Int32) (m : ev_M) : Option (Unit × ev_M) :=
  (ev_bd (FX12_qCode f s1 m) (fun _ m31 => (ev_bd (FX12_qEndsPart f m31) (fun _ m33 => some ((), m33)))))
def FX12_qPartTold_J212 (f : Nat)   (a2 : Int32)  (m : ev_M) : Option (Unit × ev_M) :=
  (if a2 = (-1) then (ev_bd (FX12_number f (0 : Int32) (9999 : Int32) m) (fun r28 m29 => (FX12_qPartTold_J237 f (1000 + r28) m29))) else (FX12_qPartTold_J237 f (40 + a2) m))
def FX12_qPartTold_J186 (f : Nat)     (m : ev_M) : Option (Unit × ev_M) :=
  (if (m.1 112 5) = 0 then (ev_bd (FX12_qWordOf f (0 : Int32) (10 : Int32) m) (fun r26 m27 => (if r26 = (-1) then (FX12_qPartTold_J212 f r26 m27) else (ev_bd (FX12_qAsksWord f r26 m27) (fun _ m35 => (FX12_qPartTold_J212 f r26 m35)))))) else some ((), m))
def FX12_qPartTold (f : Nat)  (m : ev_M) : Option (Unit × ev_M) :=
  (FX12_qPartTold_L2 f (fun m25 => (FX12_qPartTold_J186 f m25)) f (1 : Int32) m)
set_option maxRecDepth 100000 in
set_option maxHeartbeats 4000000 in
theorem EX12_qPartTold_J183 {l : Launch} {Ln : Nat} {xs : Nat → Int32} {d : Nat} (f : Nat) (kt2 : Int32 → ev_M → Option (Unit × ev_M))  (a1 : Int32)  (m : ev_M)  (hkt2 : ∀ (e1 : Int32) (em : ev_M), Ev ev_eV l Ln xs YX12_qPartTold d Sx 2 [some (.ref 112), some (.int e1), none, none, none, none] [] em (kt2 e1 em)) (hd : 5 ≤ d) : Ev ev_eV l Ln xs YX12_qPartTold d Sx 183 [some (.ref 112), some (.int a1), none, none, none, none] [] m (FX12_qPartTold_J183 f kt2 a1 m) := by
  unfold FX12_qPartTold_J183
  refine Ev.gto (t := 2) (by decide +kernel) ?_
  exact hkt2 _ _
set_option maxRecDepth 100000 in
set_option maxHeartbeats 4000000 in
theorem EX12_qPartTold_J144 {l : Launch} {Ln : Nat} {xs : Nat → Int32} {d : Nat} (f : Nat) (kt2 : Int32 → ev_M → Option (Unit × ev_M))  (a1 : Int32)  (m : ev_M)  (hkt2 : ∀ (e1 : Int32) (em : ev_M), Ev ev_eV l Ln xs YX12_qPartTold d Sx 2 [some (.ref 112), some (.int e1), none, none, none, none] [] em (kt2 e1 em)) (hd : 5 ≤ d) : Ev ev_eV l Ln xs YX12_qPartTold d Sx 144 [some (.ref 112), some (.int a1), none, none, none, none] [] m (FX12_qPartTold_J144 f kt2 a1 m) := by
  unfold FX12_qPartTold_J144
  refine Ev.run (pc' := 147) (ls' := [some (.ref 112), some (.int a1), none, none, none, none]) (st' := [.int 40, .ref 112]) (m' := m) [(.aload_n 0, 0, 0, 0, 0), (.bipush 40, 0, 0, 40, 0)] (by decide +kernel) rfl ?_
  refine Ev.cV (av := [.int 40]) (st := []) (a := 112) (EX12_asksSign (l := l) (Ln := Ln) (xs := xs) (d := 2) f (40 : Int32) m (by decide)) rfl (by decide +kernel) mwX12_asksSign iwX12_asksSign vwX12_asksSign lk_12_302 (by omega) (by decide) rfl (by decide) rfl rfl (Nat.le_of_ble_eq_true rfl) (fun r11 m12 => ?_)
  refine Ev.gto (t := 183) (by decide +kernel) ?_
  exact EX12_qPartTold_J183 f kt2 a1 m12 hkt2 (by omega)
set_option maxRecDepth 100000 in
set_option maxHeartbeats 4000000 in
theorem EX12_qPartTold_J139 {l : Launch} {Ln : Nat} {xs : Nat → Int32} {d : Nat} (f : Nat) (kt2 : Int32 → ev_M → Option (Unit × ev_M))  (a1 : Int32) (a5 : Int32) (s1 : Int32) (m : ev_M)  (hkt2 : ∀ (e1 : Int32) (em : ev_M), Ev ev_eV l Ln xs YX12_qPartTold d Sx 2 [some (.ref 112), some (.int e1), none, none, none, none] [] em (kt2 e1 em)) (hd : 5 ≤ d) : Ev ev_eV l Ln xs YX12_qPartTold d Sx 139 [some (.ref 112), some (.int a1), none, none, none, some (.int a5)] [.int s1, .ref 112] m (FX12_qPartTold_J139 f kt2 a1 a5 s1 m) := by
  unfold FX12_qPartTold_J139
  refine Ev.run (pc' := 141) (ls' := [some (.ref 112), some (.int a1), none, none, none, some (.int a5)]) (st' := [.int a5, .int s1, .ref 112]) (m' := m) [(.iload 5, 0, 0, 0, 0)] (by decide +kernel) rfl ?_
  refine Ev.cV (av := [.int s1, .int a5]) (st := []) (a := 112) (EX12_qOpens (l := l) (Ln := Ln) (xs := xs) (d := 1) f s1 a5 m (by decide)) rfl (by decide +kernel) mwX12_qOpens iwX12_qOpens vwX12_qOpens lk_12_564 (by omega) (by decide) rfl (by decide) rfl rfl (Nat.le_of_ble_eq_true rfl) (fun r13 m14 => ?_)
  refine Ev.le (ls' := [some (.ref 112), some (.int a1), none, none, none, none]) ⟨rfl, ⟨rfl, trivial⟩⟩ ?_
  exact EX12_qPartTold_J144 f kt2 a1 m14 hkt2 (by omega)
set_option maxRecDepth 100000 in
set_option maxHeartbeats 4000000 in
theorem EX12_qPartTold_J118 {l : Launch} {Ln : Nat} {xs : Nat → Int32} {d : Nat} (f : Nat) (kt2 : Int32 → ev_M → Option (Unit × ev_M))  (a1 : Int32) (a4 : Int32) (s0 : Int32) (m : ev_M)  (hkt2 : ∀ (e1 : Int32) (em : ev_M), Ev ev_eV l Ln xs YX12_qPartTold d Sx 2 [some (.ref 112), some (.int e1), none, none, none, none] [] em (kt2 e1 em)) (hd : 5 ≤ d) : Ev ev_eV l Ln xs YX12_qPartTold d Sx 118 [some (.ref 112), some (.int a1), none, none, some (.int a4), none] [.int s0] m (FX12_qPartTold_J118 f kt2 a1 a4 s0 m) := by
  unfold FX12_qPartTold_J118
  refine Ev.run (pc' := 123) (ls' := [some (.ref 112), some (.int a1), none, none, some (.int a4), some (.int s0)]) (st' := [.int (-1), .int s0]) (m' := m) [(.istore 5, 0, 0, 0, 0), (.iload 5, 0, 0, 0, 0), (.iconst (-1), 0, 0, (-1), 0)] (by decide +kernel) rfl ?_
  refine Ev.ic_eq (t := 144) (by decide +kernel) ?_ ?_
  · refine Ev.le (ls' := [some (.ref 112), some (.int a1), none, none, none, none]) ⟨rfl, ⟨rfl, trivial⟩⟩ ?_
    exact EX12_qPartTold_J144 f kt2 a1 m hkt2 (by omega)
  · refine Ev.run (pc' := 129) (ls' := [some (.ref 112), some (.int a1), none, none, some (.int a4), some (.int s0)]) (st' := [.int a4, .ref 112]) (m' := m) [(.aload_n 0, 0, 0, 0, 0), (.iload 4, 0, 0, 0, 0)] (by decide +kernel) rfl ?_
    refine Ev.if_eq (t := 137) (by decide +kernel) ?_ ?_
    · refine Ev.run (pc' := 139) (ls' := [some (.ref 112), some (.int a1), none, none, some (.int a4), some (.int s0)]) (st' := [.int 22, .ref 112]) (m' := m) [(.bipush 22, 0, 0, 22, 0)] (by decide +kernel) rfl ?_
      refine Ev.le (ls' := [some (.ref 112), some (.int a1), none, none, none, some (.int s0)]) ⟨rfl, ⟨rfl, ⟨rfl, trivial⟩⟩⟩ ?_
      exact EX12_qPartTold_J139 f kt2 a1 s0 (22 : Int32) m hkt2 (by omega)
    · refine Ev.run (pc' := 134) (ls' := [some (.ref 112), some (.int a1), none, none, some (.int a4), some (.int s0)]) (st' := [.int 21, .ref 112]) (m' := m) [(.bipush 21, 0, 0, 21, 0)] (by decide +kernel) rfl ?_
      refine Ev.gto (t := 139) (by decide +kernel) ?_
      refine Ev.le (ls' := [some (.ref 112), some (.int a1), none, none, none, some (.int s0)]) ⟨rfl, ⟨rfl, ⟨rfl, trivial⟩⟩⟩ ?_
      exact EX12_qPartTold_J139 f kt2 a1 s0 (21 : Int32) m hkt2 (by omega)
set_option maxRecDepth 100000 in
set_option maxHeartbeats 4000000 in
theorem EX12_qPartTold_J101 {l : Launch} {Ln : Nat} {xs : Nat → Int32} {d : Nat} (f : Nat) (kt2 : Int32 → ev_M → Option (Unit × ev_M))  (a1 : Int32) (a4 : Int32)  (m : ev_M)  (hkt2 : ∀ (e1 : Int32) (em : ev_M), Ev ev_eV l Ln xs YX12_qPartTold d Sx 2 [some (.ref 112), some (.int e1), none, none, none, none] [] em (kt2 e1 em)) (hd : 5 ≤ d) : Ev ev_eV l Ln xs YX12_qPartTold d Sx 101 [some (.ref 112), some (.int a1), none, none, some (.int a4), none] [] m (FX12_qPartTold_J101 f kt2 a1 a4 m) := by
  unfold FX12_qPartTold_J101
  refine Ev.run (pc' := 102) (ls' := [some (.ref 112), some (.int a1), none, none, some (.int a4), none]) (st' := [.ref 112]) (m' := m) [(.aload_n 0, 0, 0, 0, 0)] (by decide +kernel) rfl ?_
  refine Ev.cV (av := []) (st := []) (a := 112) (EX12_look (l := l) (Ln := Ln) (xs := xs) (d := 0) f m (by decide)) rfl (by decide +kernel) mwX12_look iwX12_look vwX12_look lk_12_240 (by omega) (by decide) rfl (by decide) rfl rfl (Nat.le_of_ble_eq_true rfl) (fun r9 m10 => ?_)
  refine Ev.run (pc' := 107) (ls' := [some (.ref 112), some (.int a1), none, none, some (.int a4), none]) (st' := [.int 40, .int r9]) (m' := m10) [(.bipush 40, 0, 0, 40, 0)] (by decide +kernel) rfl ?_
  refine Ev.ic_ne (t := 117) (by decide +kernel) ?_ ?_
  · refine Ev.run (pc' := 118) (ls' := [some (.ref 112), some (.int a1), none, none, some (.int a4), none]) (st' := [.int (-1)]) (m' := m10) [(.iconst (-1), 0, 0, (-1), 0)] (by decide +kernel) rfl ?_
    exact EX12_qPartTold_J118 f kt2 a1 a4 (-1 : Int32) m10 hkt2 (by omega)
  · refine Ev.run (pc' := 114) (ls' := [some (.ref 112), some (.int a1), none, none, some (.int a4), none]) (st' := [.int (m10.1 112 2)]) (m' := m10) [(.aload_n 0, 0, 0, 0, 0), (.getfield 234, 12, 2, 0, 0)] (by decide +kernel) rfl ?_
    refine Ev.gto (t := 118) (by decide +kernel) ?_
    exact EX12_qPartTold_J118 f kt2 a1 a4 (m10.1 112 2) m10 hkt2 (by omega)
set_option maxRecDepth 100000 in
set_option maxHeartbeats 4000000 in
theorem EX12_qPartTold_J78 {l : Launch} {Ln : Nat} {xs : Nat → Int32} {d : Nat} (f : Nat) (kt2 : Int32 → ev_M → Option (Unit × ev_M))  (a1 : Int32)  (m : ev_M)  (hkt2 : ∀ (e1 : Int32) (em : ev_M), Ev ev_eV l Ln xs YX12_qPartTold d Sx 2 [some (.ref 112), some (.int e1), none, none, none, none] [] em (kt2 e1 em)) (hd : 5 ≤ d) : Ev ev_eV l Ln xs YX12_qPartTold d Sx 78 [some (.ref 112), some (.int a1), none, none, none, none] [] m (FX12_qPartTold_J78 f kt2 a1 m) := by
  unfold FX12_qPartTold_J78
  refine Ev.run (pc' := 83) (ls' := [some (.ref 112), some (.int a1), none, none, none, none]) (st' := [.ref 164, .ref 112]) (m' := m) [(.aload_n 0, 0, 0, 0, 0), (.aload_n 0, 0, 0, 0, 0), (.getfield 174, 12, 79, 0, 0)] (by decide +kernel) rfl ?_
  refine Ev.cV (av := [.ref 164]) (st := []) (a := 112) (EX12_takes (l := l) (Ln := Ln) (xs := xs) (d := 2) f 164 m (by decide) (by decide)) rfl (by decide +kernel) mwX12_takes iwX12_takes vwX12_takes lk_12_255 (by omega) (by decide) rfl (by decide) rfl rfl (Nat.le_of_ble_eq_true rfl) (fun r7 m8 => ?_)
  refine Ev.run (pc' := 90) (ls' := [some (.ref 112), some (.int a1), none, none, some (.int r7), none]) (st' := [.int r7]) (m' := m8) [(.istore 4, 0, 0, 0, 0), (.iload 4, 0, 0, 0, 0)] (by decide +kernel) rfl ?_
  refine Ev.if_ne (t := 101) (by decide +kernel) ?_ ?_
  · exact EX12_qPartTold_J101 f kt2 a1 r7 m8 hkt2 (by omega)
  · refine Ev.run (pc' := 98) (ls' := [some (.ref 112), some (.int a1), none, none, some (.int r7), none]) (st' := [.ref 165, .ref 112]) (m' := m8) [(.aload_n 0, 0, 0, 0, 0), (.aload_n 0, 0, 0, 0, 0), (.getfield 177, 12, 80, 0, 0)] (by decide +kernel) rfl ?_
    refine Ev.cV (av := [.ref 165]) (st := []) (a := 112) (EX12_asks (l := l) (Ln := Ln) (xs := xs) (d := 3) f 165 m8 (by decide) (by decide)) rfl (by decide +kernel) mwX12_asks iwX12_asks vwX12_asks lk_12_291 (by omega) (by decide) rfl (by decide) rfl rfl (Nat.le_of_ble_eq_true rfl) (fun r15 m16 => ?_)
    exact EX12_qPartTold_J101 f kt2 a1 r7 m16 hkt2 (by omega)
set_option maxRecDepth 100000 in
set_option maxHeartbeats 4000000 in
theorem EX12_qPartTold_L2 {l : Launch} {Ln : Nat} {xs : Nat → Int32} {d : Nat} (f : Nat) (k : ev_M → Option (Unit × ev_M))     (hk : ∀  (em : ev_M), Ev ev_eV l Ln xs YX12_qPartTold d Sx 186 [some (.ref 112), none, none, none, none, none] [] em (k em)) (hd : 5 ≤ d) : ∀ (n : Nat) (a1 : Int32) (m : ev_M), Ev ev_eV l Ln xs YX12_qPartTold d Sx 2 [some (.ref 112), some (.int a1), none, none, none, none] [] m (FX12_qPartTold_L2 f k n a1 m) := by
  intro n
  induction n with
  | zero => intros; exact Ev.nn
  | succ n ih =>
    intro a1 m
    rw [FX12_qPartTold_L2]
    refine Ev.run (pc' := 3) (ls' := [some (.ref 112), some (.int a1), none, none, none, none]) (st' := [.int a1]) (m' := m) [(.iload_n 1, 0, 0, 0, 0)] (by decide +kernel) rfl ?_
    refine Ev.if_eq (t := 186) (by decide +kernel) ?_ ?_
    · refine Ev.le (ls' := [some (.ref 112), none, none, none, none, none]) ⟨rfl, trivial⟩ ?_
      exact hk _
    · refine Ev.run (pc' := 10) (ls' := [some (.ref 112), some (.int a1), none, none, none, none]) (st' := [.int (m.1 112 5)]) (m' := m) [(.aload_n 0, 0, 0, 0, 0), (.getfield 228, 12, 5, 0, 0)] (by decide +kernel) rfl ?_
      refine Ev.if_ne (t := 186) (by decide +kernel) ?_ ?_
      · refine Ev.le (ls' := [some (.ref 112), none, none, none, none, none]) ⟨rfl, trivial⟩ ?_
        exact hk _
      · refine Ev.run (pc' := 14) (ls' := [some (.ref 112), some (.int a1), none, none, none, none]) (st' := [.ref 112]) (m' := m) [(.aload_n 0, 0, 0, 0, 0)] (by decide +kernel) rfl ?_
        refine Ev.cV (av := []) (st := []) (a := 112) (EX12_look (l := l) (Ln := Ln) (xs := xs) (d := 0) f m (by decide)) rfl (by decide +kernel) mwX12_look iwX12_look vwX12_look lk_12_240 (by omega) (by decide) rfl (by decide) rfl rfl (Nat.le_of_ble_eq_true rfl) (fun r1 m2 => ?_)
        refine Ev.run (pc' := 23) (ls' := [some (.ref 112), some (.int a1), some (.int r1), none, none, none]) (st' := [.int 11, .int 10, .ref 112]) (m' := m2) [(.istore_n 2, 0, 0, 0, 0), (.aload_n 0, 0, 0, 0, 0), (.bipush 10, 0, 0, 10, 0), (.bipush 11, 0, 0, 11, 0)] (by decide +kernel) rfl ?_
        refine Ev.cV (av := [.int 10, .int 11]) (st := []) (a := 112) (EX12_qWordOf (l := l) (Ln := Ln) (xs := xs) (d := 3) f (10 : Int32) (11 : Int32) m2 (by decide)) rfl (by decide +kernel) mwX12_qWordOf iwX12_qWordOf vwX12_qWordOf lk_12_561 (by omega) (by decide) rfl (by decide) rfl rfl (Nat.le_of_ble_eq_true rfl) (fun r3 m4 => ?_)
        refine Ev.run (pc' := 30) (ls' := [some (.ref 112), some (.int a1), some (.int r1), some (.int r3), none, none]) (st' := [.int 40, .int r1]) (m' := m4) [(.istore_n 3, 0, 0, 0, 0), (.iload_n 2, 0, 0, 0, 0), (.bipush 40, 0, 0, 40, 0)] (by decide +kernel) rfl ?_
        refine Ev.ic_ne (t := 56) (by decide +kernel) ?_ ?_
        · refine Ev.run (pc' := 61) (ls' := [some (.ref 112), some (.int a1), some (.int r1), some (.int r3), none, none]) (st' := [.ref 164, .ref 112]) (m' := m4) [(.aload_n 0, 0, 0, 0, 0), (.aload_n 0, 0, 0, 0, 0), (.getfield 174, 12, 79, 0, 0)] (by decide +kernel) rfl ?_
          refine Ev.cV (av := [.ref 164]) (st := []) (a := 112) (EX12_isHere (l := l) (Ln := Ln) (xs := xs) (d := 1) f 164 m4 (by decide) (by decide)) rfl (by decide +kernel) mwX12_isHere iwX12_isHere vwX12_isHere lk_12_251 (by omega) (by decide) rfl (by decide) rfl rfl (Nat.le_of_ble_eq_true rfl) (fun r5 m6 => ?_)
          refine Ev.if_ne (t := 78) (by decide +kernel) ?_ ?_
          · refine Ev.le (ls' := [some (.ref 112), some (.int a1), none, none, none, none]) ⟨rfl, ⟨rfl, trivial⟩⟩ ?_
            exact EX12_qPartTold_J78 f (FX12_qPartTold_L2 f k n) a1 m6 ih (by omega)
          · refine Ev.run (pc' := 72) (ls' := [some (.ref 112), some (.int a1), some (.int r1), some (.int r3), none, none]) (st' := [.ref 165, .ref 112]) (m' := m6) [(.aload_n 0, 0, 0, 0, 0), (.aload_n 0, 0, 0, 0, 0), (.getfield 177, 12, 80, 0, 0)] (by decide +kernel) rfl ?_
            refine Ev.cV (av := [.ref 165]) (st := []) (a := 112) (EX12_isHere (l := l) (Ln := Ln) (xs := xs) (d := 1) f 165 m6 (by decide) (by decide)) rfl (by decide +kernel) mwX12_isHere iwX12_isHere vwX12_isHere lk_12_251 (by omega) (by decide) rfl (by decide) rfl rfl (Nat.le_of_ble_eq_true rfl) (fun r17 m18 => ?_)
            refine Ev.if_eq (t := 153) (by decide +kernel) ?_ ?_
            · refine Ev.run (pc' := 155) (ls' := [some (.ref 112), some (.int a1), some (.int r1), some (.int r3), none, none]) (st' := [.int (-1), .int r3]) (m' := m18) [(.iload_n 3, 0, 0, 0, 0), (.iconst (-1), 0, 0, (-1), 0)] (by decide +kernel) rfl ?_
              refine Ev.ic_eq (t := 181) (by decide +kernel) ?_ ?_
              · refine Ev.run (pc' := 183) (ls' := [some (.ref 112), some (.int 0), some (.int r1), some (.int r3), none, none]) (st' := []) (m' := m18) [(.iconst 0, 0, 0, 0, 0), (.istore_n 1, 0, 0, 0, 0)] (by decide +kernel) rfl ?_
                refine Ev.le (ls' := [some (.ref 112), some (.int 0), none, none, none, none]) ⟨rfl, ⟨rfl, trivial⟩⟩ ?_
                exact EX12_qPartTold_J183 f (FX12_qPartTold_L2 f k n) (0 : Int32) m18 ih (by omega)
              · refine Ev.run (pc' := 170) (ls' := [some (.ref 112), some (.int a1), some (.int r1), some (.int r3), none, none]) (st' := [.int (m18.1 112 2), .int ((60 + r3) - 10), .ref 112]) (m' := m18) [(.aload_n 0, 0, 0, 0, 0), (.bipush 60, 0, 0, 60, 0), (.iload_n 3, 0, 0, 0, 0), (.iadd, 0, 0, 0, 0), (.bipush 10, 0, 0, 10, 0), (.isub, 0, 0, 0, 0), (.aload_n 0, 0, 0, 0, 0), (.getfield 234, 12, 2, 0, 0)] (by decide +kernel) rfl ?_
                refine Ev.cV (av := [.int ((60 + r3) - 10), .int (m18.1 112 2)]) (st := []) (a := 112) (EX12_qOpens (l := l) (Ln := Ln) (xs := xs) (d := 1) f ((60 + r3) - 10) (m18.1 112 2) m18 (by decide)) rfl (by decide +kernel) mwX12_qOpens iwX12_qOpens vwX12_qOpens lk_12_564 (by omega) (by decide) rfl (by decide) rfl rfl (Nat.le_of_ble_eq_true rfl) (fun r19 m20 => ?_)
                refine Ev.run (pc' := 175) (ls' := [some (.ref 112), some (.int a1), some (.int r1), some (.int r3), none, none]) (st' := [.int r3, .ref 112]) (m' := m20) [(.aload_n 0, 0, 0, 0, 0), (.iload_n 3, 0, 0, 0, 0)] (by decide +kernel) rfl ?_
                refine Ev.cV (av := [.int r3]) (st := []) (a := 112) (EX12_qAsksWord (l := l) (Ln := Ln) (xs := xs) (d := 4) f r3 m20 (by decide)) rfl (by decide +kernel) mwX12_qAsksWord iwX12_qAsksWord vwX12_qAsksWord lk_12_567 (by omega) (by decide) rfl (by decide) rfl rfl (Nat.le_of_ble_eq_true rfl) (fun r21 m22 => ?_)
                refine Ev.gto (t := 183) (by decide +kernel) ?_
                refine Ev.le (ls' := [some (.ref 112), some (.int a1), none, none, none, none]) ⟨rfl, ⟨rfl, trivial⟩⟩ ?_
                exact EX12_qPartTold_J183 f (FX12_qPartTold_L2 f k n) a1 m22 ih (by omega)
            · refine Ev.le (ls' := [some (.ref 112), some (.int a1), none, none, none, none]) ⟨rfl, ⟨rfl, trivial⟩⟩ ?_
              exact EX12_qPartTold_J78 f (FX12_qPartTold_L2 f k n) a1 m18 ih (by omega)
        · refine Ev.run (pc' := 40) (ls' := [some (.ref 112), some (.int a1), some (.int r1), some (.int r3), none, none]) (st' := [.int (m4.1 112 2), .int 20, .ref 112]) (m' := m4) [(.aload_n 0, 0, 0, 0, 0), (.bipush 20, 0, 0, 20, 0), (.aload_n 0, 0, 0, 0, 0), (.getfield 234, 12, 2, 0, 0)] (by decide +kernel) rfl ?_
          refine Ev.cV (av := [.int 20, .int (m4.1 112 2)]) (st := []) (a := 112) (EX12_qOpens (l := l) (Ln := Ln) (xs := xs) (d := 1) f (20 : Int32) (m4.1 112 2) m4 (by decide)) rfl (by decide +kernel) mwX12_qOpens iwX12_qOpens vwX12_qOpens lk_12_564 (by omega) (by decide) rfl (by decide) rfl rfl (Nat.le_of_ble_eq_true rfl) (fun r23 m24 => ?_)
          refine Ev.run (pc' := 53) (ls' := [some (.ref 112), some (.int a1), some (.int r1), some (.int r3), none, none]) (st' := []) (m' := ((ev_up m24.1 112 2 ((m24.1 112 2) + 1)), m24.2)) [(.aload_n 0, 0, 0, 0, 0), (.dup, 0, 0, 0, 0), (.getfield 234, 12, 2, 0, 0), (.iconst 1, 0, 0, 1, 0), (.iadd, 0, 0, 0, 0), (.putfield 234, 12, 2, 0, 0)] (by decide +kernel) rfl ?_
          refine Ev.gto (t := 183) (by decide +kernel) ?_
          refine Ev.le (ls' := [some (.ref 112), some (.int a1), none, none, none, none]) ⟨rfl, ⟨rfl, trivial⟩⟩ ?_
          exact EX12_qPartTold_J183 f (FX12_qPartTold_L2 f k n) a1 ((ev_up m24.1 112 2 ((m24.1 112 2) + 1)), m24.2) ih (by omega)
set_option maxRecDepth 100000 in
set_option maxHeartbeats 4000000 in
theorem EX12_qPartTold_J237 {l : Launch} {Ln : Nat} {xs : Nat → Int32} {d : Nat} (f : Nat)    (s1 : Int32) (m : ev_M)   (hd : 5 ≤ d) : Ev ev_eV l Ln xs YX12_qPartTold d Sx 237 [some (.ref 112), none, none, none, none, none] [.int s1, .ref 112] m (FX12_qPartTold_J237 f s1 m) := by
  unfold FX12_qPartTold_J237
  refine Ev.cV (av := [.int s1]) (st := []) (a := 112) (EX12_qCode (l := l) (Ln := Ln) (xs := xs) (d := 0) f s1 m (by decide)) rfl (by decide +kernel) mwX12_qCode iwX12_qCode vwX12_qCode lk_12_546 (by omega) (by decide) rfl (by decide) rfl rfl (Nat.le_of_ble_eq_true rfl) (fun r30 m31 => ?_)
  refine Ev.run (pc' := 241) (ls' := [some (.ref 112), none, none, none, none, none]) (st' := [.ref 112]) (m' := m31) [(.aload_n 0, 0, 0, 0, 0)] (by decide +kernel) rfl ?_
  refine Ev.cV (av := []) (st := []) (a := 112) (EX12_qEndsPart (l := l) (Ln := Ln) (xs := xs) (d := 2) f m31 (by decide)) rfl (by decide +kernel) mwX12_qEndsPart iwX12_qEndsPart vwX12_qEndsPart lk_12_570 (by omega) (by decide) rfl (by decide) rfl rfl (Nat.le_of_ble_eq_true rfl) (fun r32 m33 => ?_)
  exact Ev.retv rfl rfl (by decide +kernel)
set_option maxRecDepth 100000 in
set_option maxHeartbeats 4000000 in
theorem EX12_qPartTold_J212 {l : Launch} {Ln : Nat} {xs : Nat → Int32} {d : Nat} (f : Nat)   (a2 : Int32)  (m : ev_M)   (hd : 5 ≤ d) : Ev ev_eV l Ln xs YX12_qPartTold d Sx 212 [some (.ref 112), none, some (.int a2), none, none, none] [] m (FX12_qPartTold_J212 f a2 m) := by
  unfold FX12_qPartTold_J212
  refine Ev.run (pc' := 215) (ls' := [some (.ref 112), none, some (.int a2), none, none, none]) (st' := [.int (-1), .int a2, .ref 112]) (m' := m) [(.aload_n 0, 0, 0, 0, 0), (.iload_n 2, 0, 0, 0, 0), (.iconst (-1), 0, 0, (-1), 0)] (by decide +kernel) rfl ?_
  refine Ev.ic_eq (t := 225) (by decide +kernel) ?_ ?_
  · refine Ev.run (pc' := 233) (ls' := [some (.ref 112), none, some (.int a2), none, none, none]) (st' := [.int 9999, .int 0, .ref 112, .int 1000, .ref 112]) (m' := m) [(.sipush 1000, 0, 0, 1000, 0), (.aload_n 0, 0, 0, 0, 0), (.iconst 0, 0, 0, 0, 0), (.sipush 9999, 0, 0, 9999, 0)] (by decide +kernel) rfl ?_
    refine Ev.cV (av := [.int 0, .int 9999]) (st := [.int 1000, .ref 112]) (a := 112) (EX12_number (l := l) (Ln := Ln) (xs := xs) (d := 1) f (0 : Int32) (9999 : Int32) m (by decide)) rfl (by decide +kernel) mwX12_number iwX12_number vwX12_number lk_12_295 (by omega) (by decide) rfl (by decide) rfl rfl (Nat.le_of_ble_eq_true rfl) (fun r28 m29 => ?_)
    refine Ev.run (pc' := 237) (ls' := [some (.ref 112), none, some (.int a2), none, none, none]) (st' := [.int (1000 + r28), .ref 112]) (m' := m29) [(.iadd, 0, 0, 0, 0)] (by decide +kernel) rfl ?_
    refine Ev.le (ls' := [some (.ref 112), none, none, none, none, none]) ⟨rfl, trivial⟩ ?_
    exact EX12_qPartTold_J237 f (1000 + r28) m29 (by omega)
  · refine Ev.run (pc' := 222) (ls' := [some (.ref 112), none, some (.int a2), none, none, none]) (st' := [.int (40 + a2), .ref 112]) (m' := m) [(.bipush 40, 0, 0, 40, 0), (.iload_n 2, 0, 0, 0, 0), (.iadd, 0, 0, 0, 0)] (by decide +kernel) rfl ?_
    refine Ev.gto (t := 237) (by decide +kernel) ?_
    refine Ev.le (ls' := [some (.ref 112), none, none, none, none, none]) ⟨rfl, trivial⟩ ?_
    exact EX12_qPartTold_J237 f (40 + a2) m (by omega)
set_option maxRecDepth 100000 in
set_option maxHeartbeats 4000000 in
theorem EX12_qPartTold_J186 {l : Launch} {Ln : Nat} {xs : Nat → Int32} {d : Nat} (f : Nat)     (m : ev_M)   (hd : 5 ≤ d) : Ev ev_eV l Ln xs YX12_qPartTold d Sx 186 [some (.ref 112), none, none, none, none, none] [] m (FX12_qPartTold_J186 f m) := by
  unfold FX12_qPartTold_J186
  refine Ev.run (pc' := 190) (ls' := [some (.ref 112), none, none, none, none, none]) (st' := [.int (m.1 112 5)]) (m' := m) [(.aload_n 0, 0, 0, 0, 0), (.getfield 228, 12, 5, 0, 0)] (by decide +kernel) rfl ?_
  refine Ev.if_eq (t := 194) (by decide +kernel) ?_ ?_
  · refine Ev.run (pc' := 198) (ls' := [some (.ref 112), none, none, none, none, none]) (st' := [.int 10, .int 0, .ref 112]) (m' := m) [(.aload_n 0, 0, 0, 0, 0), (.iconst 0, 0, 0, 0, 0), (.bipush 10, 0, 0, 10, 0)] (by decide +kernel) rfl ?_
    refine Ev.cV (av := [.int 0, .int 10]) (st := []) (a := 112) (EX12_qWordOf (l := l) (Ln := Ln) (xs := xs) (d := 3) f (0 : Int32) (10 : Int32) m (by decide)) rfl (by decide +kernel) mwX12_qWordOf iwX12_qWordOf vwX12_qWordOf lk_12_561 (by omega) (by decide) rfl (by decide) rfl rfl (Nat.le_of_ble_eq_true rfl) (fun r26 m27 => ?_)
    refine Ev.run (pc' := 204) (ls' := [some (.ref 112), none, some (.int r26), none, none, none]) (st' := [.int (-1), .int r26]) (m' := m27) [(.istore_n 2, 0, 0, 0, 0), (.iload_n 2, 0, 0, 0, 0), (.iconst (-1), 0, 0, (-1), 0)] (by decide +kernel) rfl ?_
    refine Ev.ic_eq (t := 212) (by decide +kernel) ?_ ?_
    · exact EX12_qPartTold_J212 f r26 m27 (by omega)
    · refine Ev.run (pc' := 209) (ls' := [some (.ref 112), none, some (.int r26), none, none, none]) (st' := [.int r26, .ref 112]) (m' := m27) [(.aload_n 0, 0, 0, 0, 0), (.iload_n 2, 0, 0, 0, 0)] (by decide +kernel) rfl ?_
      refine Ev.cV (av := [.int r26]) (st := []) (a := 112) (EX12_qAsksWord (l := l) (Ln := Ln) (xs := xs) (d := 4) f r26 m27 (by decide)) rfl (by decide +kernel) mwX12_qAsksWord iwX12_qAsksWord vwX12_qAsksWord lk_12_567 (by omega) (by decide) rfl (by decide) rfl rfl (Nat.le_of_ble_eq_true rfl) (fun r34 m35 => ?_)
      exact EX12_qPartTold_J212 f r26 m35 (by omega)
  · exact Ev.retv rfl rfl (by decide +kernel)
set_option maxRecDepth 100000 in
set_option maxHeartbeats 4000000 in
theorem EX12_qPartTold {l : Launch} {Ln : Nat} {xs : Nat → Int32} {d : Nat} (f : Nat)  (m : ev_M)  (hd : 5 ≤ d) : Mv ev_eV l Ln xs YX12_qPartTold d Sx [.ref 112] m (FX12_qPartTold f  m) := by
  refine Mv.of (by decide +kernel) rfl (Nat.le_of_ble_eq_true rfl) (Ev.le (ls' := [some (.ref 112), none, none, none, none, none]) ⟨rfl, trivial⟩ ?_)
  unfold FX12_qPartTold
  refine Ev.run (pc' := 2) (ls' := [some (.ref 112), some (.int 1), none, none, none, none]) (st' := []) (m' := m) [(.iconst 1, 0, 0, 1, 0), (.istore_n 1, 0, 0, 0, 0)] (by decide +kernel) rfl ?_
  refine EX12_qPartTold_L2 f _ ?_ (by omega) _ _ _
  intro m25
  exact EX12_qPartTold_J186 f m25 (by omega)
def FX12_qGoesOn_J115 (f : Nat) (kt0 : ev_M → Option (Int32 × ev_M))    (m : ev_M) : Option (Int32 × ev_M) :=
  (ev_bd (FX12_qEndsPart f m) (fun _ m8 => (kt0 m8)))
def FX12_qGoesOn_J112 (f : Nat) (kt0 : ev_M → Option (Int32 × ev_M))   (s1 : Int32) (m : ev_M) : Option (Int32 × ev_M) :=
  (ev_bd (FX12_qCode f s1 m) (fun _ m10 => (FX12_qGoesOn_J115 f kt0 m10)))
def FX12_qGoesOn_J43 (f : Nat) (kt0 : ev_M → Option (Int32 × ev_M))    (m : ev_M) : Option (Int32 × ev_M) :=
  (ev_bd (FX12_qDropsToBracket f ((ev_up m.1 112 2 ((m.1 112 2) + 1)), m.2)) (fun _ m6 => (if ev_in ((m6.1 112 95) - 1) 1700 then (if (m6.1 178 ((m6.1 112 95) - 1).toNatClampNeg) = 20 then (FX12_qGoesOn_J115 f kt0 ((ev_up (ev_up m6.1 112 95 ((m6.1 112 95) - 1)) 112 96 ((m6.1 112 96) - 1)), m6.2)) else (if ev_in ((m6.1 112 95) - 1) 1700 then (if (m6.1 178 ((m6.1 112 95) - 1).toNatClampNeg) = 23 then (FX12_qGoesOn_J112 f kt0 (5 : Int32) ((ev_up (ev_up m6.1 112 95 ((m6.1 112 95) - 1)) 112 96 ((m6.1 112 96) - 1)), m6.2)) else (FX12_qGoesOn_J112 f kt0 (6 : Int32) ((ev_up (ev_up m6.1 112 95 ((m6.1 112 95) - 1)) 112 96 ((m6.1 112 96) - 1)), m6.2))) else none)) else none)))
def FX12_qGoesOn_L0 (f : Nat) (k : ev_M → Option (Int32 × ev_M))   : Nat → ev_M → Option (Int32 × ev_M)
  | 0, _ => none
  | n + 1, m => (if (m.1 112 5) = 0 then (ev_bd (FX12_look f m) (fun r1 m2 => (if r1 = 41 then (ev_bd (FX12_qBracket f m2) (fun r3 m4 => (if r3 = 20 then (FX12_qGoesOn_J43 f (FX12_qGoesOn_L0 f k n) m4) else (ev_bd (FX12_qBracket f m4) (fun r11 m12 => (if r11 = 23 then (FX12_qGoesOn_J43 f (FX12_qGoesOn_L0 f k n) m12) else (ev_bd (FX12_qBracket f m12) (fun r13 m14 => (if r13 = 24 then (FX12_qGoesOn_J43 f (FX12_qGoesOn_L0 f k n) m14) else (k m14)))))))))) else (k m2)))) else (k m))
def FX12_qGoesOn_J178 (f : Nat) (kt162 : ev_M → Option (Int32 × ev_M))    (m : ev_M) : Option (Int32 × ev_M) :=
  (ev_bd (FX12_qDrops f m) (fun _ m21 => (kt162 m21)))
def FX12_qGoesOn_L162 (f : Nat) (k : ev_M → Option (Int32 × ev_M))   : Nat → ev_M → Option (Int32 × ev_M)
  | 0, _ => none
  | n + 1, m => (ev_bd (FX12_qIsOn f (3 : Int32) m) (fun r18 m19 => (if r18 = 0 then (ev_bd (FX12_qIsOn f (4 : Int32) m19) (fun r22 m23 => (if r22 = 0 then (k m23) else (FX12_qGoesOn_J178 f (FX12_qGoesOn_L162 f k n) m23)))) else (FX12_qGoesOn_J178 f (FX12_qGoesOn_L162 f k n) m19))))
def FX12_qGoesOn_J161 (f : Nat)    (s0 : Int32) (m : ev_M) : Option (Int32 × ev_M) :=
  (FX12_qGoesOn_L162 f (fun m24 => (if ev_in (m24.1 112 95) 1700 then some (1, ((ev_up (ev_up m24.1 178 (m24.1 112 95).toNatClampNeg s0) 112 95 ((m24.1 112 95) + 1)), m24.2)) else none)) f m)
def FX12_qGoesOn_J140 (f : Nat)     (m : ev_M) : Option (Int32 × ev_M) :=
  (if ev_in ((m.1 112 2) - 1) 1600 then (if (m.1 113 ((m.1 112 2) - 1).toNatClampNeg) = 42 then (FX12_qGoesOn_J161 f (3 : Int32) m) else (FX12_qGoesOn_J161 f (4 : Int32) m)) else none)
def FX12_qGoesOn_J279 (f : Nat) (kt247 : ev_M → Option (Int32 × ev_M))    (m : ev_M) : Option (Int32 × ev_M) :=
  (ev_bd (FX12_qDrops f m) (fun _ m32 => (kt247 m32)))
def FX12_qGoesOn_L247 (f : Nat) (k : ev_M → Option (Int32 × ev_M))   : Nat → ev_M → Option (Int32 × ev_M)
  | 0, _ => none
  | n + 1, m => (ev_bd (FX12_qIsOn f (3 : Int32) m) (fun r29 m30 => (if r29 = 0 then (ev_bd (FX12_qIsOn f (4 : Int32) m30) (fun r33 m34 => (if r33 = 0 then (ev_bd (FX12_qIsOn f (1 : Int32) m34) (fun r35 m36 => (if r35 = 0 then (ev_bd (FX12_qIsOn f (2 : Int32) m36) (fun r37 m38 => (if r37 = 0 then (k m38) else (FX12_qGoesOn_J279 f (FX12_qGoesOn_L247 f k n) m38)))) else (FX12_qGoesOn_J279 f (FX12_qGoesOn_L247 f k n) m36)))) else (FX12_qGoesOn_J279 f (FX12_qGoesOn_L247 f k n) m34)))) else (FX12_qGoesOn_J279 f (FX12_qGoesOn_L247 f k n) m30))))
def FX12_qGoesOn_J246 (f : Nat)    (s0 : Int32) (m : ev_M) : Option (Int32 × ev_M) :=
  (FX12_qGoesOn_L247 f (fun m39 => (if ev_in (m39.1 112 95) 1700 then some (1, ((ev_up (ev_up m39.1 178 (m39.1 112 95).toNatClampNeg s0) 112 95 ((m39.1 112 95) + 1)), m39.2)) else none)) f m)
def FX12_qGoesOn_J225 (f : Nat)     (m : ev_M) : Option (Int32 × ev_M) :=
  (if ev_in ((m.1 112 2) - 1) 1600 then (if (m.1 113 ((m.1 112 2) - 1).toNatClampNeg) = 43 then (FX12_qGoesOn_J246 f (1 : Int32) m) else (FX12_qGoesOn_J246 f (2 : Int32) m)) else none)
def FX12_qGoesOn_J326 (f : Nat)     (m : ev_M) : Option (Int32 × ev_M) :=
  (ev_bd (FX12_asksSign f (44 : Int32) m) (fun _ m45 => (if (m45.1 112 5) = 0 then (ev_bd (FX12_qDropsToBracket f m45) (fun _ m47 => (if ev_in ((m47.1 112 95) - 1) 1700 then (if ev_in ((m47.1 112 95) - 1) 1700 then some (1, ((ev_up m47.1 178 ((m47.1 112 95) - 1).toNatClampNeg ((m47.1 178 ((m47.1 112 95) - 1).toNatClampNeg) + 2)), m47.2)) else none) else none))) else some (0, m45))))
def FX12_qGoesOn_J122 (f : Nat)     (m : ev_M) : Option (Int32 × ev_M) :=
  (ev_bd (FX12_takesSign f (42 : Int32) m) (fun r16 m17 => (if r16 = 0 then (ev_bd (FX12_takesSign f (47 : Int32) m17) (fun r25 m26 => (if r25 = 0 then (ev_bd (FX12_takesSign f (43 : Int32) m26) (fun r27 m28 => (if r27 = 0 then (ev_bd (FX12_takesSign f (45 : Int32) m28) (fun r40 m41 => (if r40 = 0 then (ev_bd (FX12_qBracket f m41) (fun r42 m43 => (if r42 = 21 then (FX12_qGoesOn_J326 f m43) else (ev_bd (FX12_qBracket f m43) (fun r48 m49 => (if r48 = 22 then (FX12_qGoesOn_J326 f m49) else (ev_bd (FX12_qBracket f m49) (fun r50 m51 => (if r50 = (-1) then some (0, m51) else (if (m51.1 112 5) = 0 then (ev_bd (FX12_fail f (1 : Int32) (m51.1 112 2) m51) (fun _ m53 => some (0, m53))) else some (0, m51))))))))))) else (FX12_qGoesOn_J225 f m41)))) else (FX12_qGoesOn_J225 f m28)))) else (FX12_qGoesOn_J140 f m26)))) else (FX12_qGoesOn_J140 f m17))))
def FX12_qGoesOn (f : Nat)  (m : ev_M) : Option (Int32 × ev_M) :=
  (FX12_qGoesOn_L0 f (fun m15 => (FX12_qGoesOn_J122 f m15)) f m)
set_option maxRecDepth 100000 in
set_option maxHeartbeats 4000000 in
theorem EX12_qGoesOn_J115 {l : Launch} {Ln : Nat} {xs : Nat → Int32} {d : Nat} (f : Nat) (kt0 : ev_M → Option (Int32 × ev_M))    (m : ev_M)  (hkt0 : ∀  (em : ev_M), Ev ev_eI l Ln xs YX12_qGoesOn d Sx 0 [some (.ref 112), none] [] em (kt0 em)) (hd : 3 ≤ d) : Ev ev_eI l Ln xs YX12_qGoesOn d Sx 115 [some (.ref 112), none] [] m (FX12_qGoesOn_J115 f kt0 m) := by
  unfold FX12_qGoesOn_J115
  refine Ev.run (pc' := 116) (ls' := [some (.ref 112), none]) (st' := [.ref 112]) (m' := m) [(.aload_n 0, 0, 0, 0, 0)] (by decide +kernel) rfl ?_
  refine Ev.cV (av := []) (st := []) (a := 112) (EX12_qEndsPart (l := l) (Ln := Ln) (xs := xs) (d := 2) f m (by decide)) rfl (by decide +kernel) mwX12_qEndsPart iwX12_qEndsPart vwX12_qEndsPart lk_12_570 (by omega) (by decide) rfl (by decide) rfl rfl (Nat.le_of_ble_eq_true rfl) (fun r7 m8 => ?_)
  refine Ev.gto (t := 0) (by decide +kernel) ?_
  exact hkt0 _
set_option maxRecDepth 100000 in
set_option maxHeartbeats 4000000 in
theorem EX12_qGoesOn_J112 {l : Launch} {Ln : Nat} {xs : Nat → Int32} {d : Nat} (f : Nat) (kt0 : ev_M → Option (Int32 × ev_M))   (s1 : Int32) (m : ev_M)  (hkt0 : ∀  (em : ev_M), Ev ev_eI l Ln xs YX12_qGoesOn d Sx 0 [some (.ref 112), none] [] em (kt0 em)) (hd : 3 ≤ d) : Ev ev_eI l Ln xs YX12_qGoesOn d Sx 112 [some (.ref 112), none] [.int s1, .ref 112] m (FX12_qGoesOn_J112 f kt0 s1 m) := by
  unfold FX12_qGoesOn_J112
  refine Ev.cV (av := [.int s1]) (st := []) (a := 112) (EX12_qCode (l := l) (Ln := Ln) (xs := xs) (d := 0) f s1 m (by decide)) rfl (by decide +kernel) mwX12_qCode iwX12_qCode vwX12_qCode lk_12_546 (by omega) (by decide) rfl (by decide) rfl rfl (Nat.le_of_ble_eq_true rfl) (fun r9 m10 => ?_)
  exact EX12_qGoesOn_J115 f kt0 m10 hkt0 (by omega)
set_option maxRecDepth 100000 in
set_option maxHeartbeats 4000000 in
theorem EX12_qGoesOn_J43 {l : Launch} {Ln : Nat} {xs : Nat → Int32} {d : Nat} (f : Nat) (kt0 : ev_M → Option (Int32 × ev_M))    (m : ev_M)  (hkt0 : ∀  (em : ev_M), Ev ev_eI l Ln xs YX12_qGoesOn d Sx 0 [some (.ref 112), none] [] em (kt0 em)) (hd : 3 ≤ d) : Ev ev_eI l Ln xs YX12_qGoesOn d Sx 43 [some (.ref 112), none] [] m (FX12_qGoesOn_J43 f kt0 m) := by
  unfold FX12_qGoesOn_J43
  refine Ev.run (pc' := 54) (ls' := [some (.ref 112), none]) (st' := [.ref 112]) (m' := ((ev_up m.1 112 2 ((m.1 112 2) + 1)), m.2)) [(.aload_n 0, 0, 0, 0, 0), (.dup, 0, 0, 0, 0), (.getfield 234, 12, 2, 0, 0), (.iconst 1, 0, 0, 1, 0), (.iadd, 0, 0, 0, 0), (.putfield 234, 12, 2, 0, 0), (.aload_n 0, 0, 0, 0, 0)] (by decide +kernel) rfl ?_
  refine Ev.cV (av := []) (st := []) (a := 112) (EX12_qDropsToBracket (l := l) (Ln := Ln) (xs := xs) (d := 2) f ((ev_up m.1 112 2 ((m.1 112 2) + 1)), m.2) (by decide)) rfl (by decide +kernel) mwX12_qDropsToBracket iwX12_qDropsToBracket vwX12_qDropsToBracket lk_12_576 (by omega) (by decide) rfl (by decide) rfl rfl (Nat.le_of_ble_eq_true rfl) (fun r5 m6 => ?_)
  refine Ev.run (pc' := 85) (ls' := [some (.ref 112), none]) (st' := [.int ((m6.1 112 95) - 1), .ref 178]) (m' := ((ev_up (ev_up m6.1 112 95 ((m6.1 112 95) - 1)) 112 96 ((m6.1 112 96) - 1)), m6.2)) [(.aload_n 0, 0, 0, 0, 0), (.dup, 0, 0, 0, 0), (.getfield 317, 12, 95, 0, 0), (.iconst 1, 0, 0, 1, 0), (.isub, 0, 0, 0, 0), (.putfield 317, 12, 95, 0, 0), (.aload_n 0, 0, 0, 0, 0), (.dup, 0, 0, 0, 0), (.getfield 320, 12, 96, 0, 0), (.iconst 1, 0, 0, 1, 0), (.isub, 0, 0, 0, 0), (.putfield 320, 12, 96, 0, 0), (.aload_n 0, 0, 0, 0, 0), (.getfield 216, 12, 94, 0, 0), (.aload_n 0, 0, 0, 0, 0), (.getfield 317, 12, 95, 0, 0)] (by decide +kernel) rfl ?_
  refine Ev.iald (n := 1700) (by decide +kernel) (by decide) rfl ?_
  refine Ev.run (pc' := 88) (ls' := [some (.ref 112), none]) (st' := [.int 20, .int (m6.1 178 ((m6.1 112 95) - 1).toNatClampNeg)]) (m' := ((ev_up (ev_up m6.1 112 95 ((m6.1 112 95) - 1)) 112 96 ((m6.1 112 96) - 1)), m6.2)) [(.bipush 20, 0, 0, 20, 0)] (by decide +kernel) rfl ?_
  refine Ev.ic_eq (t := 115) (by decide +kernel) ?_ ?_
  · exact EX12_qGoesOn_J115 f kt0 ((ev_up (ev_up m6.1 112 95 ((m6.1 112 95) - 1)) 112 96 ((m6.1 112 96) - 1)), m6.2) hkt0 (by omega)
  · refine Ev.run (pc' := 100) (ls' := [some (.ref 112), none]) (st' := [.int ((m6.1 112 95) - 1), .ref 178, .ref 112]) (m' := ((ev_up (ev_up m6.1 112 95 ((m6.1 112 95) - 1)) 112 96 ((m6.1 112 96) - 1)), m6.2)) [(.aload_n 0, 0, 0, 0, 0), (.aload_n 0, 0, 0, 0, 0), (.getfield 216, 12, 94, 0, 0), (.aload_n 0, 0, 0, 0, 0), (.getfield 317, 12, 95, 0, 0)] (by decide +kernel) rfl ?_
    refine Ev.iald (n := 1700) (by decide +kernel) (by decide) rfl ?_
    refine Ev.run (pc' := 103) (ls' := [some (.ref 112), none]) (st' := [.int 23, .int (m6.1 178 ((m6.1 112 95) - 1).toNatClampNeg), .ref 112]) (m' := ((ev_up (ev_up m6.1 112 95 ((m6.1 112 95) - 1)) 112 96 ((m6.1 112 96) - 1)), m6.2)) [(.bipush 23, 0, 0, 23, 0)] (by decide +kernel) rfl ?_
    refine Ev.ic_ne (t := 110) (by decide +kernel) ?_ ?_
    · refine Ev.run (pc' := 112) (ls' := [some (.ref 112), none]) (st' := [.int 6, .ref 112]) (m' := ((ev_up (ev_up m6.1 112 95 ((m6.1 112 95) - 1)) 112 96 ((m6.1 112 96) - 1)), m6.2)) [(.bipush 6, 0, 0, 6, 0)] (by decide +kernel) rfl ?_
      exact EX12_qGoesOn_J112 f kt0 (6 : Int32) ((ev_up (ev_up m6.1 112 95 ((m6.1 112 95) - 1)) 112 96 ((m6.1 112 96) - 1)), m6.2) hkt0 (by omega)
    · refine Ev.run (pc' := 107) (ls' := [some (.ref 112), none]) (st' := [.int 5, .ref 112]) (m' := ((ev_up (ev_up m6.1 112 95 ((m6.1 112 95) - 1)) 112 96 ((m6.1 112 96) - 1)), m6.2)) [(.iconst 5, 0, 0, 5, 0)] (by decide +kernel) rfl ?_
      refine Ev.gto (t := 112) (by decide +kernel) ?_
      exact EX12_qGoesOn_J112 f kt0 (5 : Int32) ((ev_up (ev_up m6.1 112 95 ((m6.1 112 95) - 1)) 112 96 ((m6.1 112 96) - 1)), m6.2) hkt0 (by omega)
set_option maxRecDepth 100000 in
set_option maxHeartbeats 4000000 in
theorem EX12_qGoesOn_L0 {l : Launch} {Ln : Nat} {xs : Nat → Int32} {d : Nat} (f : Nat) (k : ev_M → Option (Int32 × ev_M))     (hk : ∀  (em : ev_M), Ev ev_eI l Ln xs YX12_qGoesOn d Sx 122 [some (.ref 112), none] [] em (k em)) (hd : 3 ≤ d) : ∀ (n : Nat)  (m : ev_M), Ev ev_eI l Ln xs YX12_qGoesOn d Sx 0 [some (.ref 112), none] [] m (FX12_qGoesOn_L0 f k n m) := by
  intro n
  induction n with
  | zero => intros; exact Ev.nn
  | succ n ih =>
    intro  m
    rw [FX12_qGoesOn_L0]
    refine Ev.run (pc' := 4) (ls' := [some (.ref 112), none]) (st' := [.int (m.1 112 5)]) (m' := m) [(.aload_n 0, 0, 0, 0, 0), (.getfield 228, 12, 5, 0, 0)] (by decide +kernel) rfl ?_
    refine Ev.if_ne (t := 122) (by decide +kernel) ?_ ?_
    · exact hk _
    · refine Ev.run (pc' := 8) (ls' := [some (.ref 112), none]) (st' := [.ref 112]) (m' := m) [(.aload_n 0, 0, 0, 0, 0)] (by decide +kernel) rfl ?_
      refine Ev.cV (av := []) (st := []) (a := 112) (EX12_look (l := l) (Ln := Ln) (xs := xs) (d := 0) f m (by decide)) rfl (by decide +kernel) mwX12_look iwX12_look vwX12_look lk_12_240 (by omega) (by decide) rfl (by decide) rfl rfl (Nat.le_of_ble_eq_true rfl) (fun r1 m2 => ?_)
      refine Ev.run (pc' := 13) (ls' := [some (.ref 112), none]) (st' := [.int 41, .int r1]) (m' := m2) [(.bipush 41, 0, 0, 41, 0)] (by decide +kernel) rfl ?_
      refine Ev.ic_ne (t := 122) (by decide +kernel) ?_ ?_
      · exact hk _
      · refine Ev.run (pc' := 17) (ls' := [some (.ref 112), none]) (st' := [.ref 112]) (m' := m2) [(.aload_n 0, 0, 0, 0, 0)] (by decide +kernel) rfl ?_
        refine Ev.cV (av := []) (st := []) (a := 112) (EX12_qBracket (l := l) (Ln := Ln) (xs := xs) (d := 1) f m2 (by decide)) rfl (by decide +kernel) mwX12_qBracket iwX12_qBracket vwX12_qBracket lk_12_573 (by omega) (by decide) rfl (by decide) rfl rfl (Nat.le_of_ble_eq_true rfl) (fun r3 m4 => ?_)
        refine Ev.run (pc' := 22) (ls' := [some (.ref 112), none]) (st' := [.int 20, .int r3]) (m' := m4) [(.bipush 20, 0, 0, 20, 0)] (by decide +kernel) rfl ?_
        refine Ev.ic_eq (t := 43) (by decide +kernel) ?_ ?_
        · exact EX12_qGoesOn_J43 f (FX12_qGoesOn_L0 f k n) m4 ih (by omega)
        · refine Ev.run (pc' := 26) (ls' := [some (.ref 112), none]) (st' := [.ref 112]) (m' := m4) [(.aload_n 0, 0, 0, 0, 0)] (by decide +kernel) rfl ?_
          refine Ev.cV (av := []) (st := []) (a := 112) (EX12_qBracket (l := l) (Ln := Ln) (xs := xs) (d := 1) f m4 (by decide)) rfl (by decide +kernel) mwX12_qBracket iwX12_qBracket vwX12_qBracket lk_12_573 (by omega) (by decide) rfl (by decide) rfl rfl (Nat.le_of_ble_eq_true rfl) (fun r11 m12 => ?_)
          refine Ev.run (pc' := 31) (ls' := [some (.ref 112), none]) (st' := [.int 23, .int r11]) (m' := m12) [(.bipush 23, 0, 0, 23, 0)] (by decide +kernel) rfl ?_
          refine Ev.ic_eq (t := 43) (by decide +kernel) ?_ ?_
          · exact EX12_qGoesOn_J43 f (FX12_qGoesOn_L0 f k n) m12 ih (by omega)
          · refine Ev.run (pc' := 35) (ls' := [some (.ref 112), none]) (st' := [.ref 112]) (m' := m12) [(.aload_n 0, 0, 0, 0, 0)] (by decide +kernel) rfl ?_
            refine Ev.cV (av := []) (st := []) (a := 112) (EX12_qBracket (l := l) (Ln := Ln) (xs := xs) (d := 1) f m12 (by decide)) rfl (by decide +kernel) mwX12_qBracket iwX12_qBracket vwX12_qBracket lk_12_573 (by omega) (by decide) rfl (by decide) rfl rfl (Nat.le_of_ble_eq_true rfl) (fun r13 m14 => ?_)
            refine Ev.run (pc' := 40) (ls' := [some (.ref 112), none]) (st' := [.int 24, .int r13]) (m' := m14) [(.bipush 24, 0, 0, 24, 0)] (by decide +kernel) rfl ?_
            refine Ev.ic_ne (t := 122) (by decide +kernel) ?_ ?_
            · exact hk _
            · exact EX12_qGoesOn_J43 f (FX12_qGoesOn_L0 f k n) m14 ih (by omega)
set_option maxRecDepth 100000 in
set_option maxHeartbeats 4000000 in
theorem EX12_qGoesOn_J178 {l : Launch} {Ln : Nat} {xs : Nat → Int32} {d : Nat} (f : Nat) (kt162 : ev_M → Option (Int32 × ev_M))  (a1 : Int32)  (m : ev_M)  (hkt162 : ∀  (em : ev_M), Ev ev_eI l Ln xs YX12_qGoesOn d Sx 162 [some (.ref 112), some (.int a1)] [] em (kt162 em)) (hd : 3 ≤ d) : Ev ev_eI l Ln xs YX12_qGoesOn d Sx 178 [some (.ref 112), some (.int a1)] [] m (FX12_qGoesOn_J178 f kt162 m) := by
  unfold FX12_qGoesOn_J178
  refine Ev.run (pc' := 179) (ls' := [some (.ref 112), some (.int a1)]) (st' := [.ref 112]) (m' := m) [(.aload_n 0, 0, 0, 0, 0)] (by decide +kernel) rfl ?_
  refine Ev.cV (av := []) (st := []) (a := 112) (EX12_qDrops (l := l) (Ln := Ln) (xs := xs) (d := 1) f m (by decide)) rfl (by decide +kernel) mwX12_qDrops iwX12_qDrops vwX12_qDrops lk_12_552 (by omega) (by decide) rfl (by decide) rfl rfl (Nat.le_of_ble_eq_true rfl) (fun r20 m21 => ?_)
  refine Ev.gto (t := 162) (by decide +kernel) ?_
  exact hkt162 _
set_option maxRecDepth 100000 in
set_option maxHeartbeats 4000000 in
theorem EX12_qGoesOn_L162 {l : Launch} {Ln : Nat} {xs : Nat → Int32} {d : Nat} (f : Nat) (k : ev_M → Option (Int32 × ev_M))  (a1 : Int32)   (hk : ∀  (em : ev_M), Ev ev_eI l Ln xs YX12_qGoesOn d Sx 185 [some (.ref 112), some (.int a1)] [] em (k em)) (hd : 3 ≤ d) : ∀ (n : Nat)  (m : ev_M), Ev ev_eI l Ln xs YX12_qGoesOn d Sx 162 [some (.ref 112), some (.int a1)] [] m (FX12_qGoesOn_L162 f k n m) := by
  intro n
  induction n with
  | zero => intros; exact Ev.nn
  | succ n ih =>
    intro  m
    rw [FX12_qGoesOn_L162]
    refine Ev.run (pc' := 164) (ls' := [some (.ref 112), some (.int a1)]) (st' := [.int 3, .ref 112]) (m' := m) [(.aload_n 0, 0, 0, 0, 0), (.iconst 3, 0, 0, 3, 0)] (by decide +kernel) rfl ?_
    refine Ev.cV (av := [.int 3]) (st := []) (a := 112) (EX12_qIsOn (l := l) (Ln := Ln) (xs := xs) (d := 0) f (3 : Int32) m (by decide)) rfl (by decide +kernel) mwX12_qIsOn iwX12_qIsOn vwX12_qIsOn lk_12_579 (by omega) (by decide) rfl (by decide) rfl rfl (Nat.le_of_ble_eq_true rfl) (fun r18 m19 => ?_)
    refine Ev.if_ne (t := 178) (by decide +kernel) ?_ ?_
    · exact EX12_qGoesOn_J178 f (FX12_qGoesOn_L162 f k n) a1 m19 ih (by omega)
    · refine Ev.run (pc' := 172) (ls' := [some (.ref 112), some (.int a1)]) (st' := [.int 4, .ref 112]) (m' := m19) [(.aload_n 0, 0, 0, 0, 0), (.iconst 4, 0, 0, 4, 0)] (by decide +kernel) rfl ?_
      refine Ev.cV (av := [.int 4]) (st := []) (a := 112) (EX12_qIsOn (l := l) (Ln := Ln) (xs := xs) (d := 0) f (4 : Int32) m19 (by decide)) rfl (by decide +kernel) mwX12_qIsOn iwX12_qIsOn vwX12_qIsOn lk_12_579 (by omega) (by decide) rfl (by decide) rfl rfl (Nat.le_of_ble_eq_true rfl) (fun r22 m23 => ?_)
      refine Ev.if_eq (t := 185) (by decide +kernel) ?_ ?_
      · exact hk _
      · exact EX12_qGoesOn_J178 f (FX12_qGoesOn_L162 f k n) a1 m23 ih (by omega)
set_option maxRecDepth 100000 in
set_option maxHeartbeats 4000000 in
theorem EX12_qGoesOn_J161 {l : Launch} {Ln : Nat} {xs : Nat → Int32} {d : Nat} (f : Nat)    (s0 : Int32) (m : ev_M)   (hd : 3 ≤ d) : Ev ev_eI l Ln xs YX12_qGoesOn d Sx 161 [some (.ref 112), none] [.int s0] m (FX12_qGoesOn_J161 f s0 m) := by
  unfold FX12_qGoesOn_J161
  refine Ev.run (pc' := 162) (ls' := [some (.ref 112), some (.int s0)]) (st' := []) (m' := m) [(.istore_n 1, 0, 0, 0, 0)] (by decide +kernel) rfl ?_
  refine EX12_qGoesOn_L162 f _ s0 ?_ (by omega) _ _
  intro m24
  refine Ev.run (pc' := 194) (ls' := [some (.ref 112), some (.int s0)]) (st' := [.int s0, .int (m24.1 112 95), .ref 178]) (m' := m24) [(.aload_n 0, 0, 0, 0, 0), (.getfield 216, 12, 94, 0, 0), (.aload_n 0, 0, 0, 0, 0), (.getfield 317, 12, 95, 0, 0), (.iload_n 1, 0, 0, 0, 0)] (by decide +kernel) rfl ?_
  refine Ev.iast (n := 1700) (by decide +kernel) (by decide) rfl ?_
  refine Ev.run (pc' := 206) (ls' := [some (.ref 112), some (.int s0)]) (st' := [.int 1]) (m' := ((ev_up (ev_up m24.1 178 (m24.1 112 95).toNatClampNeg s0) 112 95 ((m24.1 112 95) + 1)), m24.2)) [(.aload_n 0, 0, 0, 0, 0), (.dup, 0, 0, 0, 0), (.getfield 317, 12, 95, 0, 0), (.iconst 1, 0, 0, 1, 0), (.iadd, 0, 0, 0, 0), (.putfield 317, 12, 95, 0, 0), (.iconst 1, 0, 0, 1, 0)] (by decide +kernel) rfl ?_
  exact Ev.iretz rfl rfl (by decide +kernel) (by decide)
set_option maxRecDepth 100000 in
set_option maxHeartbeats 4000000 in
theorem EX12_qGoesOn_J140 {l : Launch} {Ln : Nat} {xs : Nat → Int32} {d : Nat} (f : Nat)     (m : ev_M)   (hd : 3 ≤ d) : Ev ev_eI l Ln xs YX12_qGoesOn d Sx 140 [some (.ref 112), none] [] m (FX12_qGoesOn_J140 f m) := by
  unfold FX12_qGoesOn_J140
  refine Ev.run (pc' := 150) (ls' := [some (.ref 112), none]) (st' := [.int ((m.1 112 2) - 1), .ref 113]) (m' := m) [(.aload_n 0, 0, 0, 0, 0), (.getfield 7, 12, 0, 0, 0), (.aload_n 0, 0, 0, 0, 0), (.getfield 234, 12, 2, 0, 0), (.iconst 1, 0, 0, 1, 0), (.isub, 0, 0, 0, 0)] (by decide +kernel) rfl ?_
  refine Ev.iald (n := 1600) (by decide +kernel) (by decide) rfl ?_
  refine Ev.run (pc' := 153) (ls' := [some (.ref 112), none]) (st' := [.int 42, .int (m.1 113 ((m.1 112 2) - 1).toNatClampNeg)]) (m' := m) [(.bipush 42, 0, 0, 42, 0)] (by decide +kernel) rfl ?_
  refine Ev.ic_ne (t := 160) (by decide +kernel) ?_ ?_
  · refine Ev.run (pc' := 161) (ls' := [some (.ref 112), none]) (st' := [.int 4]) (m' := m) [(.iconst 4, 0, 0, 4, 0)] (by decide +kernel) rfl ?_
    exact EX12_qGoesOn_J161 f (4 : Int32) m (by omega)
  · refine Ev.run (pc' := 157) (ls' := [some (.ref 112), none]) (st' := [.int 3]) (m' := m) [(.iconst 3, 0, 0, 3, 0)] (by decide +kernel) rfl ?_
    refine Ev.gto (t := 161) (by decide +kernel) ?_
    exact EX12_qGoesOn_J161 f (3 : Int32) m (by omega)
set_option maxRecDepth 100000 in
set_option maxHeartbeats 4000000 in
theorem EX12_qGoesOn_J279 {l : Launch} {Ln : Nat} {xs : Nat → Int32} {d : Nat} (f : Nat) (kt247 : ev_M → Option (Int32 × ev_M))  (a1 : Int32)  (m : ev_M)  (hkt247 : ∀  (em : ev_M), Ev ev_eI l Ln xs YX12_qGoesOn d Sx 247 [some (.ref 112), some (.int a1)] [] em (kt247 em)) (hd : 3 ≤ d) : Ev ev_eI l Ln xs YX12_qGoesOn d Sx 279 [some (.ref 112), some (.int a1)] [] m (FX12_qGoesOn_J279 f kt247 m) := by
  unfold FX12_qGoesOn_J279
  refine Ev.run (pc' := 280) (ls' := [some (.ref 112), some (.int a1)]) (st' := [.ref 112]) (m' := m) [(.aload_n 0, 0, 0, 0, 0)] (by decide +kernel) rfl ?_
  refine Ev.cV (av := []) (st := []) (a := 112) (EX12_qDrops (l := l) (Ln := Ln) (xs := xs) (d := 1) f m (by decide)) rfl (by decide +kernel) mwX12_qDrops iwX12_qDrops vwX12_qDrops lk_12_552 (by omega) (by decide) rfl (by decide) rfl rfl (Nat.le_of_ble_eq_true rfl) (fun r31 m32 => ?_)
  refine Ev.gto (t := 247) (by decide +kernel) ?_
  exact hkt247 _
set_option maxRecDepth 100000 in
set_option maxHeartbeats 4000000 in
theorem EX12_qGoesOn_L247 {l : Launch} {Ln : Nat} {xs : Nat → Int32} {d : Nat} (f : Nat) (k : ev_M → Option (Int32 × ev_M))  (a1 : Int32)   (hk : ∀  (em : ev_M), Ev ev_eI l Ln xs YX12_qGoesOn d Sx 286 [some (.ref 112), some (.int a1)] [] em (k em)) (hd : 3 ≤ d) : ∀ (n : Nat)  (m : ev_M), Ev ev_eI l Ln xs YX12_qGoesOn d Sx 247 [some (.ref 112), some (.int a1)] [] m (FX12_qGoesOn_L247 f k n m) := by
  intro n
  induction n with
  | zero => intros; exact Ev.nn
  | succ n ih =>
    intro  m
    rw [FX12_qGoesOn_L247]
    refine Ev.run (pc' := 249) (ls' := [some (.ref 112), some (.int a1)]) (st' := [.int 3, .ref 112]) (m' := m) [(.aload_n 0, 0, 0, 0, 0), (.iconst 3, 0, 0, 3, 0)] (by decide +kernel) rfl ?_
    refine Ev.cV (av := [.int 3]) (st := []) (a := 112) (EX12_qIsOn (l := l) (Ln := Ln) (xs := xs) (d := 0) f (3 : Int32) m (by decide)) rfl (by decide +kernel) mwX12_qIsOn iwX12_qIsOn vwX12_qIsOn lk_12_579 (by omega) (by decide) rfl (by decide) rfl rfl (Nat.le_of_ble_eq_true rfl) (fun r29 m30 => ?_)
    refine Ev.if_ne (t := 279) (by decide +kernel) ?_ ?_
    · exact EX12_qGoesOn_J279 f (FX12_qGoesOn_L247 f k n) a1 m30 ih (by omega)
    · refine Ev.run (pc' := 257) (ls' := [some (.ref 112), some (.int a1)]) (st' := [.int 4, .ref 112]) (m' := m30) [(.aload_n 0, 0, 0, 0, 0), (.iconst 4, 0, 0, 4, 0)] (by decide +kernel) rfl ?_
      refine Ev.cV (av := [.int 4]) (st := []) (a := 112) (EX12_qIsOn (l := l) (Ln := Ln) (xs := xs) (d := 0) f (4 : Int32) m30 (by decide)) rfl (by decide +kernel) mwX12_qIsOn iwX12_qIsOn vwX12_qIsOn lk_12_579 (by omega) (by decide) rfl (by decide) rfl rfl (Nat.le_of_ble_eq_true rfl) (fun r33 m34 => ?_)
      refine Ev.if_ne (t := 279) (by decide +kernel) ?_ ?_
      · exact EX12_qGoesOn_J279 f (FX12_qGoesOn_L247 f k n) a1 m34 ih (by omega)
      · refine Ev.run (pc' := 265) (ls' := [some (.ref 112), some (.int a1)]) (st' := [.int 1, .ref 112]) (m' := m34) [(.aload_n 0, 0, 0, 0, 0), (.iconst 1, 0, 0, 1, 0)] (by decide +kernel) rfl ?_
        refine Ev.cV (av := [.int 1]) (st := []) (a := 112) (EX12_qIsOn (l := l) (Ln := Ln) (xs := xs) (d := 0) f (1 : Int32) m34 (by decide)) rfl (by decide +kernel) mwX12_qIsOn iwX12_qIsOn vwX12_qIsOn lk_12_579 (by omega) (by decide) rfl (by decide) rfl rfl (Nat.le_of_ble_eq_true rfl) (fun r35 m36 => ?_)
        refine Ev.if_ne (t := 279) (by decide +kernel) ?_ ?_
        · exact EX12_qGoesOn_J279 f (FX12_qGoesOn_L247 f k n) a1 m36 ih (by omega)
        · refine Ev.run (pc' := 273) (ls' := [some (.ref 112), some (.int a1)]) (st' := [.int 2, .ref 112]) (m' := m36) [(.aload_n 0, 0, 0, 0, 0), (.iconst 2, 0, 0, 2, 0)] (by decide +kernel) rfl ?_
          refine Ev.cV (av := [.int 2]) (st := []) (a := 112) (EX12_qIsOn (l := l) (Ln := Ln) (xs := xs) (d := 0) f (2 : Int32) m36 (by decide)) rfl (by decide +kernel) mwX12_qIsOn iwX12_qIsOn vwX12_qIsOn lk_12_579 (by omega) (by decide) rfl (by decide) rfl rfl (Nat.le_of_ble_eq_true rfl) (fun r37 m38 => ?_)
          refine Ev.if_eq (t := 286) (by decide +kernel) ?_ ?_
          · exact hk _
          · exact EX12_qGoesOn_J279 f (FX12_qGoesOn_L247 f k n) a1 m38 ih (by omega)
set_option maxRecDepth 100000 in
set_option maxHeartbeats 4000000 in
theorem EX12_qGoesOn_J246 {l : Launch} {Ln : Nat} {xs : Nat → Int32} {d : Nat} (f : Nat)    (s0 : Int32) (m : ev_M)   (hd : 3 ≤ d) : Ev ev_eI l Ln xs YX12_qGoesOn d Sx 246 [some (.ref 112), none] [.int s0] m (FX12_qGoesOn_J246 f s0 m) := by
  unfold FX12_qGoesOn_J246
  refine Ev.run (pc' := 247) (ls' := [some (.ref 112), some (.int s0)]) (st' := []) (m' := m) [(.istore_n 1, 0, 0, 0, 0)] (by decide +kernel) rfl ?_
  refine EX12_qGoesOn_L247 f _ s0 ?_ (by omega) _ _
  intro m39
  refine Ev.run (pc' := 295) (ls' := [some (.ref 112), some (.int s0)]) (st' := [.int s0, .int (m39.1 112 95), .ref 178]) (m' := m39) [(.aload_n 0, 0, 0, 0, 0), (.getfield 216, 12, 94, 0, 0), (.aload_n 0, 0, 0, 0, 0), (.getfield 317, 12, 95, 0, 0), (.iload_n 1, 0, 0, 0, 0)] (by decide +kernel) rfl ?_
  refine Ev.iast (n := 1700) (by decide +kernel) (by decide) rfl ?_
  refine Ev.run (pc' := 307) (ls' := [some (.ref 112), some (.int s0)]) (st' := [.int 1]) (m' := ((ev_up (ev_up m39.1 178 (m39.1 112 95).toNatClampNeg s0) 112 95 ((m39.1 112 95) + 1)), m39.2)) [(.aload_n 0, 0, 0, 0, 0), (.dup, 0, 0, 0, 0), (.getfield 317, 12, 95, 0, 0), (.iconst 1, 0, 0, 1, 0), (.iadd, 0, 0, 0, 0), (.putfield 317, 12, 95, 0, 0), (.iconst 1, 0, 0, 1, 0)] (by decide +kernel) rfl ?_
  exact Ev.iretz rfl rfl (by decide +kernel) (by decide)
set_option maxRecDepth 100000 in
set_option maxHeartbeats 4000000 in
theorem EX12_qGoesOn_J225 {l : Launch} {Ln : Nat} {xs : Nat → Int32} {d : Nat} (f : Nat)     (m : ev_M)   (hd : 3 ≤ d) : Ev ev_eI l Ln xs YX12_qGoesOn d Sx 225 [some (.ref 112), none] [] m (FX12_qGoesOn_J225 f m) := by
  unfold FX12_qGoesOn_J225
  refine Ev.run (pc' := 235) (ls' := [some (.ref 112), none]) (st' := [.int ((m.1 112 2) - 1), .ref 113]) (m' := m) [(.aload_n 0, 0, 0, 0, 0), (.getfield 7, 12, 0, 0, 0), (.aload_n 0, 0, 0, 0, 0), (.getfield 234, 12, 2, 0, 0), (.iconst 1, 0, 0, 1, 0), (.isub, 0, 0, 0, 0)] (by decide +kernel) rfl ?_
  refine Ev.iald (n := 1600) (by decide +kernel) (by decide) rfl ?_
  refine Ev.run (pc' := 238) (ls' := [some (.ref 112), none]) (st' := [.int 43, .int (m.1 113 ((m.1 112 2) - 1).toNatClampNeg)]) (m' := m) [(.bipush 43, 0, 0, 43, 0)] (by decide +kernel) rfl ?_
  refine Ev.ic_ne (t := 245) (by decide +kernel) ?_ ?_
  · refine Ev.run (pc' := 246) (ls' := [some (.ref 112), none]) (st' := [.int 2]) (m' := m) [(.iconst 2, 0, 0, 2, 0)] (by decide +kernel) rfl ?_
    exact EX12_qGoesOn_J246 f (2 : Int32) m (by omega)
  · refine Ev.run (pc' := 242) (ls' := [some (.ref 112), none]) (st' := [.int 1]) (m' := m) [(.iconst 1, 0, 0, 1, 0)] (by decide +kernel) rfl ?_
    refine Ev.gto (t := 246) (by decide +kernel) ?_
    exact EX12_qGoesOn_J246 f (1 : Int32) m (by omega)
set_option maxRecDepth 100000 in
set_option maxHeartbeats 4000000 in
theorem EX12_qGoesOn_J326 {l : Launch} {Ln : Nat} {xs : Nat → Int32} {d : Nat} (f : Nat)     (m : ev_M)   (hd : 3 ≤ d) : Ev ev_eI l Ln xs YX12_qGoesOn d Sx 326 [some (.ref 112), none] [] m (FX12_qGoesOn_J326 f m) := by
  unfold FX12_qGoesOn_J326
  refine Ev.run (pc' := 329) (ls' := [some (.ref 112), none]) (st' := [.int 44, .ref 112]) (m' := m) [(.aload_n 0, 0, 0, 0, 0), (.bipush 44, 0, 0, 44, 0)] (by decide +kernel) rfl ?_
  refine Ev.cV (av := [.int 44]) (st := []) (a := 112) (EX12_asksSign (l := l) (Ln := Ln) (xs := xs) (d := 2) f (44 : Int32) m (by decide)) rfl (by decide +kernel) mwX12_asksSign iwX12_asksSign vwX12_asksSign lk_12_302 (by omega) (by decide) rfl (by decide) rfl rfl (Nat.le_of_ble_eq_true rfl) (fun r44 m45 => ?_)
  refine Ev.run (pc' := 336) (ls' := [some (.ref 112), none]) (st' := [.int (m45.1 112 5)]) (m' := m45) [(.aload_n 0, 0, 0, 0, 0), (.getfield 228, 12, 5, 0, 0)] (by decide +kernel) rfl ?_
  refine Ev.if_eq (t := 341) (by decide +kernel) ?_ ?_
  · refine Ev.run (pc' := 342) (ls' := [some (.ref 112), none]) (st' := [.ref 112]) (m' := m45) [(.aload_n 0, 0, 0, 0, 0)] (by decide +kernel) rfl ?_
    refine Ev.cV (av := []) (st := []) (a := 112) (EX12_qDropsToBracket (l := l) (Ln := Ln) (xs := xs) (d := 2) f m45 (by decide)) rfl (by decide +kernel) mwX12_qDropsToBracket iwX12_qDropsToBracket vwX12_qDropsToBracket lk_12_576 (by omega) (by decide) rfl (by decide) rfl rfl (Nat.le_of_ble_eq_true rfl) (fun r46 m47 => ?_)
    refine Ev.run (pc' := 356) (ls' := [some (.ref 112), none]) (st' := [.int ((m47.1 112 95) - 1), .ref 178, .int ((m47.1 112 95) - 1), .ref 178]) (m' := m47) [(.aload_n 0, 0, 0, 0, 0), (.getfield 216, 12, 94, 0, 0), (.aload_n 0, 0, 0, 0, 0), (.getfield 317, 12, 95, 0, 0), (.iconst 1, 0, 0, 1, 0), (.isub, 0, 0, 0, 0), (.dup2, 0, 0, 0, 0)] (by decide +kernel) rfl ?_
    refine Ev.iald (n := 1700) (by decide +kernel) (by decide) rfl ?_
    refine Ev.run (pc' := 359) (ls' := [some (.ref 112), none]) (st' := [.int ((m47.1 178 ((m47.1 112 95) - 1).toNatClampNeg) + 2), .int ((m47.1 112 95) - 1), .ref 178]) (m' := m47) [(.iconst 2, 0, 0, 2, 0), (.iadd, 0, 0, 0, 0)] (by decide +kernel) rfl ?_
    refine Ev.iast (n := 1700) (by decide +kernel) (by decide) rfl ?_
    refine Ev.run (pc' := 361) (ls' := [some (.ref 112), none]) (st' := [.int 1]) (m' := ((ev_up m47.1 178 ((m47.1 112 95) - 1).toNatClampNeg ((m47.1 178 ((m47.1 112 95) - 1).toNatClampNeg) + 2)), m47.2)) [(.iconst 1, 0, 0, 1, 0)] (by decide +kernel) rfl ?_
    exact Ev.iretz rfl rfl (by decide +kernel) (by decide)
  · refine Ev.run (pc' := 340) (ls' := [some (.ref 112), none]) (st' := [.int 0]) (m' := m45) [(.iconst 0, 0, 0, 0, 0)] (by decide +kernel) rfl ?_
    exact Ev.iretz rfl rfl (by decide +kernel) (by decide)
set_option maxRecDepth 100000 in
set_option maxHeartbeats 4000000 in
theorem EX12_qGoesOn_J122 {l : Launch} {Ln : Nat} {xs : Nat → Int32} {d : Nat} (f : Nat)     (m : ev_M)   (hd : 3 ≤ d) : Ev ev_eI l Ln xs YX12_qGoesOn d Sx 122 [some (.ref 112), none] [] m (FX12_qGoesOn_J122 f m) := by
  unfold FX12_qGoesOn_J122
  refine Ev.run (pc' := 125) (ls' := [some (.ref 112), none]) (st' := [.int 42, .ref 112]) (m' := m) [(.aload_n 0, 0, 0, 0, 0), (.bipush 42, 0, 0, 42, 0)] (by decide +kernel) rfl ?_
  refine Ev.cV (av := [.int 42]) (st := []) (a := 112) (EX12_takesSign (l := l) (Ln := Ln) (xs := xs) (d := 1) f (42 : Int32) m (by decide)) rfl (by decide +kernel) mwX12_takesSign iwX12_takesSign vwX12_takesSign lk_12_262 (by omega) (by decide) rfl (by decide) rfl rfl (Nat.le_of_ble_eq_true rfl) (fun r16 m17 => ?_)
  refine Ev.if_ne (t := 140) (by decide +kernel) ?_ ?_
  · exact EX12_qGoesOn_J140 f m17 (by omega)
  · refine Ev.run (pc' := 134) (ls' := [some (.ref 112), none]) (st' := [.int 47, .ref 112]) (m' := m17) [(.aload_n 0, 0, 0, 0, 0), (.bipush 47, 0, 0, 47, 0)] (by decide +kernel) rfl ?_
    refine Ev.cV (av := [.int 47]) (st := []) (a := 112) (EX12_takesSign (l := l) (Ln := Ln) (xs := xs) (d := 1) f (47 : Int32) m17 (by decide)) rfl (by decide +kernel) mwX12_takesSign iwX12_takesSign vwX12_takesSign lk_12_262 (by omega) (by decide) rfl (by decide) rfl rfl (Nat.le_of_ble_eq_true rfl) (fun r25 m26 => ?_)
    refine Ev.if_eq (t := 207) (by decide +kernel) ?_ ?_
    · refine Ev.run (pc' := 210) (ls' := [some (.ref 112), none]) (st' := [.int 43, .ref 112]) (m' := m26) [(.aload_n 0, 0, 0, 0, 0), (.bipush 43, 0, 0, 43, 0)] (by decide +kernel) rfl ?_
      refine Ev.cV (av := [.int 43]) (st := []) (a := 112) (EX12_takesSign (l := l) (Ln := Ln) (xs := xs) (d := 1) f (43 : Int32) m26 (by decide)) rfl (by decide +kernel) mwX12_takesSign iwX12_takesSign vwX12_takesSign lk_12_262 (by omega) (by decide) rfl (by decide) rfl rfl (Nat.le_of_ble_eq_true rfl) (fun r27 m28 => ?_)
      refine Ev.if_ne (t := 225) (by decide +kernel) ?_ ?_
      · exact EX12_qGoesOn_J225 f m28 (by omega)
      · refine Ev.run (pc' := 219) (ls' := [some (.ref 112), none]) (st' := [.int 45, .ref 112]) (m' := m28) [(.aload_n 0, 0, 0, 0, 0), (.bipush 45, 0, 0, 45, 0)] (by decide +kernel) rfl ?_
        refine Ev.cV (av := [.int 45]) (st := []) (a := 112) (EX12_takesSign (l := l) (Ln := Ln) (xs := xs) (d := 1) f (45 : Int32) m28 (by decide)) rfl (by decide +kernel) mwX12_takesSign iwX12_takesSign vwX12_takesSign lk_12_262 (by omega) (by decide) rfl (by decide) rfl rfl (Nat.le_of_ble_eq_true rfl) (fun r40 m41 => ?_)
        refine Ev.if_eq (t := 308) (by decide +kernel) ?_ ?_
        · refine Ev.run (pc' := 309) (ls' := [some (.ref 112), none]) (st' := [.ref 112]) (m' := m41) [(.aload_n 0, 0, 0, 0, 0)] (by decide +kernel) rfl ?_
          refine Ev.cV (av := []) (st := []) (a := 112) (EX12_qBracket (l := l) (Ln := Ln) (xs := xs) (d := 1) f m41 (by decide)) rfl (by decide +kernel) mwX12_qBracket iwX12_qBracket vwX12_qBracket lk_12_573 (by omega) (by decide) rfl (by decide) rfl rfl (Nat.le_of_ble_eq_true rfl) (fun r42 m43 => ?_)
          refine Ev.run (pc' := 314) (ls' := [some (.ref 112), none]) (st' := [.int 21, .int r42]) (m' := m43) [(.bipush 21, 0, 0, 21, 0)] (by decide +kernel) rfl ?_
          refine Ev.ic_eq (t := 326) (by decide +kernel) ?_ ?_
          · exact EX12_qGoesOn_J326 f m43 (by omega)
          · refine Ev.run (pc' := 318) (ls' := [some (.ref 112), none]) (st' := [.ref 112]) (m' := m43) [(.aload_n 0, 0, 0, 0, 0)] (by decide +kernel) rfl ?_
            refine Ev.cV (av := []) (st := []) (a := 112) (EX12_qBracket (l := l) (Ln := Ln) (xs := xs) (d := 1) f m43 (by decide)) rfl (by decide +kernel) mwX12_qBracket iwX12_qBracket vwX12_qBracket lk_12_573 (by omega) (by decide) rfl (by decide) rfl rfl (Nat.le_of_ble_eq_true rfl) (fun r48 m49 => ?_)
            refine Ev.run (pc' := 323) (ls' := [some (.ref 112), none]) (st' := [.int 22, .int r48]) (m' := m49) [(.bipush 22, 0, 0, 22, 0)] (by decide +kernel) rfl ?_
            refine Ev.ic_ne (t := 362) (by decide +kernel) ?_ ?_
            · refine Ev.run (pc' := 363) (ls' := [some (.ref 112), none]) (st' := [.ref 112]) (m' := m49) [(.aload_n 0, 0, 0, 0, 0)] (by decide +kernel) rfl ?_
              refine Ev.cV (av := []) (st := []) (a := 112) (EX12_qBracket (l := l) (Ln := Ln) (xs := xs) (d := 1) f m49 (by decide)) rfl (by decide +kernel) mwX12_qBracket iwX12_qBracket vwX12_qBracket lk_12_573 (by omega) (by decide) rfl (by decide) rfl rfl (Nat.le_of_ble_eq_true rfl) (fun r50 m51 => ?_)
              refine Ev.run (pc' := 367) (ls' := [some (.ref 112), none]) (st' := [.int (-1), .int r50]) (m' := m51) [(.iconst (-1), 0, 0, (-1), 0)] (by decide +kernel) rfl ?_
              refine Ev.ic_eq (t := 386) (by decide +kernel) ?_ ?_
              · refine Ev.run (pc' := 387) (ls' := [some (.ref 112), none]) (st' := [.int 0]) (m' := m51) [(.iconst 0, 0, 0, 0, 0)] (by decide +kernel) rfl ?_
                exact Ev.iretz rfl rfl (by decide +kernel) (by decide)
              · refine Ev.run (pc' := 374) (ls' := [some (.ref 112), none]) (st' := [.int (m51.1 112 5)]) (m' := m51) [(.aload_n 0, 0, 0, 0, 0), (.getfield 228, 12, 5, 0, 0)] (by decide +kernel) rfl ?_
                refine Ev.if_ne (t := 386) (by decide +kernel) ?_ ?_
                · refine Ev.run (pc' := 387) (ls' := [some (.ref 112), none]) (st' := [.int 0]) (m' := m51) [(.iconst 0, 0, 0, 0, 0)] (by decide +kernel) rfl ?_
                  exact Ev.iretz rfl rfl (by decide +kernel) (by decide)
                · refine Ev.run (pc' := 383) (ls' := [some (.ref 112), none]) (st' := [.int (m51.1 112 2), .int 1, .ref 112]) (m' := m51) [(.aload_n 0, 0, 0, 0, 0), (.iconst 1, 0, 0, 1, 0), (.aload_n 0, 0, 0, 0, 0), (.getfield 234, 12, 2, 0, 0)] (by decide +kernel) rfl ?_
                  refine Ev.cV (av := [.int 1, .int (m51.1 112 2)]) (st := []) (a := 112) (EX12_fail (l := l) (Ln := Ln) (xs := xs) (d := 0) f (1 : Int32) (m51.1 112 2) m51 (by decide)) rfl (by decide +kernel) mwX12_fail iwX12_fail vwX12_fail lk_12_258 (by omega) (by decide) rfl (by decide) rfl rfl (Nat.le_of_ble_eq_true rfl) (fun r52 m53 => ?_)
                  refine Ev.run (pc' := 387) (ls' := [some (.ref 112), none]) (st' := [.int 0]) (m' := m53) [(.iconst 0, 0, 0, 0, 0)] (by decide +kernel) rfl ?_
                  exact Ev.iretz rfl rfl (by decide +kernel) (by decide)
            · exact EX12_qGoesOn_J326 f m49 (by omega)
        · exact EX12_qGoesOn_J225 f m41 (by omega)
    · exact EX12_qGoesOn_J140 f m26 (by omega)
set_option maxRecDepth 100000 in
set_option maxHeartbeats 4000000 in
theorem EX12_qGoesOn {l : Launch} {Ln : Nat} {xs : Nat → Int32} {d : Nat} (f : Nat)  (m : ev_M)  (hd : 3 ≤ d) : Mv ev_eI l Ln xs YX12_qGoesOn d Sx [.ref 112] m (FX12_qGoesOn f  m) := by
  refine Mv.of (by decide +kernel) rfl (Nat.le_of_ble_eq_true rfl) (Ev.le (ls' := [some (.ref 112), none]) ⟨rfl, trivial⟩ ?_)
  unfold FX12_qGoesOn
  refine EX12_qGoesOn_L0 f _ ?_ (by omega) _ _
  intro m15
  exact EX12_qGoesOn_J122 f m15 (by omega)
def FX12_qSums_J49 (f : Nat) (kt15 : Int32 → ev_M → Option (Unit × ev_M))   (s0 : Int32) (m : ev_M) : Option (Unit × ev_M) :=
  (kt15 s0 m)
def FX12_qSums_J48 (f : Nat) (kt15 : Int32 → ev_M → Option (Unit × ev_M))    (m : ev_M) : Option (Unit × ev_M) :=
  (FX12_qSums_J49 f kt15 (0 : Int32) m)
def FX12_qSums_L15 (f : Nat) (k : ev_M → Option (Unit × ev_M))   : Nat → Int32 → ev_M → Option (Unit × ev_M)
  | 0, _, _ => none
  | n + 1, a2, m => (if a2 = 0 then (k m) else (if (m.1 112 5) = 0 then (ev_bd (FX12_qPartTold f m) (fun _ m2 => (if (m2.1 112 5) = 0 then (ev_bd (FX12_qGoesOn f m2) (fun r3 m4 => (if r3 = 0 then (FX12_qSums_J48 f (FX12_qSums_L15 f k n) m4) else (FX12_qSums_J49 f (FX12_qSums_L15 f k n) (1 : Int32) m4)))) else (FX12_qSums_J48 f (FX12_qSums_L15 f k n) m2)))) else (k m)))
def FX12_qSums_L53 (f : Nat) (k : ev_M → Option (Unit × ev_M))   : Nat → ev_M → Option (Unit × ev_M)
  | 0, _ => none
  | n + 1, m => (if (m.1 112 5) = 0 then (if (m.1 112 95) ≤ (m.1 112 97) then (k m) else (ev_bd (FX12_qDrops f m) (fun _ m7 => (FX12_qSums_L53 f k n m7)))) else (k m))
def FX12_qSums (f : Nat)  (m : ev_M) : Option (Unit × ev_M) :=
  (FX12_qSums_L15 f (fun m5 => (FX12_qSums_L53 f (fun m8 => some ((), ((ev_up m8.1 112 97 (m.1 112 97)), m8.2))) f m5)) f (1 : Int32) ((ev_up m.1 112 97 (m.1 112 95)), m.2))
set_option maxRecDepth 100000 in
set_option maxHeartbeats 4000000 in
theorem EX12_qSums_J49 {l : Launch} {Ln : Nat} {xs : Nat → Int32} {d : Nat} (f : Nat) (kt15 : Int32 → ev_M → Option (Unit × ev_M))  (a1 : Int32) (s0 : Int32) (m : ev_M)  (hkt15 : ∀ (e2 : Int32) (em : ev_M), Ev ev_eV l Ln xs YX12_qSums d Sx 15 [some (.ref 112), some (.int a1), some (.int e2)] [] em (kt15 e2 em)) (hd : 6 ≤ d) : Ev ev_eV l Ln xs YX12_qSums d Sx 49 [some (.ref 112), some (.int a1), none] [.int s0] m (FX12_qSums_J49 f kt15 s0 m) := by
  unfold FX12_qSums_J49
  refine Ev.run (pc' := 50) (ls' := [some (.ref 112), some (.int a1), some (.int s0)]) (st' := []) (m' := m) [(.istore_n 2, 0, 0, 0, 0)] (by decide +kernel) rfl ?_
  refine Ev.gto (t := 15) (by decide +kernel) ?_
  exact hkt15 _ _
set_option maxRecDepth 100000 in
set_option maxHeartbeats 4000000 in
theorem EX12_qSums_J48 {l : Launch} {Ln : Nat} {xs : Nat → Int32} {d : Nat} (f : Nat) (kt15 : Int32 → ev_M → Option (Unit × ev_M))  (a1 : Int32)  (m : ev_M)  (hkt15 : ∀ (e2 : Int32) (em : ev_M), Ev ev_eV l Ln xs YX12_qSums d Sx 15 [some (.ref 112), some (.int a1), some (.int e2)] [] em (kt15 e2 em)) (hd : 6 ≤ d) : Ev ev_eV l Ln xs YX12_qSums d Sx 48 [some (.ref 112), some (.int a1), none] [] m (FX12_qSums_J48 f kt15 m) := by
  unfold FX12_qSums_J48
  refine Ev.run (pc' := 49) (ls' := [some (.ref 112), some (.int a1), none]) (st' := [.int 0]) (m' := m) [(.iconst 0, 0, 0, 0, 0)] (by decide +kernel) rfl ?_
  exact EX12_qSums_J49 f kt15 a1 (0 : Int32) m hkt15 (by omega)
set_option maxRecDepth 100000 in
set_option maxHeartbeats 4000000 in
theorem EX12_qSums_L15 {l : Launch} {Ln : Nat} {xs : Nat → Int32} {d : Nat} (f : Nat) (k : ev_M → Option (Unit × ev_M))  (a1 : Int32)   (hk : ∀  (em : ev_M), Ev ev_eV l Ln xs YX12_qSums d Sx 53 [some (.ref 112), some (.int a1), none] [] em (k em)) (hd : 6 ≤ d) : ∀ (n : Nat) (a2 : Int32) (m : ev_M), Ev ev_eV l Ln xs YX12_qSums d Sx 15 [some (.ref 112), some (.int a1), some (.int a2)] [] m (FX12_qSums_L15 f k n a2 m) := by
  intro n
  induction n with
  | zero => intros; exact Ev.nn
  | succ n ih =>
    intro a2 m
    rw [FX12_qSums_L15]
    refine Ev.run (pc' := 16) (ls' := [some (.ref 112), some (.int a1), some (.int a2)]) (st' := [.int a2]) (m' := m) [(.iload_n 2, 0, 0, 0, 0)] (by decide +kernel) rfl ?_
    refine Ev.if_eq (t := 53) (by decide +kernel) ?_ ?_
    · refine Ev.le (ls' := [some (.ref 112), some (.int a1), none]) ⟨rfl, ⟨rfl, trivial⟩⟩ ?_
      exact hk _
    · refine Ev.run (pc' := 23) (ls' := [some (.ref 112), some (.int a1), some (.int a2)]) (st' := [.int (m.1 112 5)]) (m' := m) [(.aload_n 0, 0, 0, 0, 0), (.getfield 228, 12, 5, 0, 0)] (by decide +kernel) rfl ?_
      refine Ev.if_ne (t := 53) (by decide +kernel) ?_ ?_
      · refine Ev.le (ls' := [some (.ref 112), some (.int a1), none]) ⟨rfl, ⟨rfl, trivial⟩⟩ ?_
        exact hk _
      · refine Ev.run (pc' := 27) (ls' := [some (.ref 112), some (.int a1), some (.int a2)]) (st' := [.ref 112]) (m' := m) [(.aload_n 0, 0, 0, 0, 0)] (by decide +kernel) rfl ?_
        refine Ev.cV (av := []) (st := []) (a := 112) (EX12_qPartTold (l := l) (Ln := Ln) (xs := xs) (d := 5) f m (by decide)) rfl (by decide +kernel) mwX12_qPartTold iwX12_qPartTold vwX12_qPartTold lk_12_582 (by omega) (by decide) rfl (by decide) rfl rfl (Nat.le_of_ble_eq_true rfl) (fun r1 m2 => ?_)
        refine Ev.run (pc' := 34) (ls' := [some (.ref 112), some (.int a1), some (.int a2)]) (st' := [.int (m2.1 112 5)]) (m' := m2) [(.aload_n 0, 0, 0, 0, 0), (.getfield 228, 12, 5, 0, 0)] (by decide +kernel) rfl ?_
        refine Ev.if_ne (t := 48) (by decide +kernel) ?_ ?_
        · refine Ev.le (ls' := [some (.ref 112), some (.int a1), none]) ⟨rfl, ⟨rfl, trivial⟩⟩ ?_
          exact EX12_qSums_J48 f (FX12_qSums_L15 f k n) a1 m2 ih (by omega)
        · refine Ev.run (pc' := 38) (ls' := [some (.ref 112), some (.int a1), some (.int a2)]) (st' := [.ref 112]) (m' := m2) [(.aload_n 0, 0, 0, 0, 0)] (by decide +kernel) rfl ?_
          refine Ev.cV (av := []) (st := []) (a := 112) (EX12_qGoesOn (l := l) (Ln := Ln) (xs := xs) (d := 3) f m2 (by decide)) rfl (by decide +kernel) mwX12_qGoesOn iwX12_qGoesOn vwX12_qGoesOn lk_12_585 (by omega) (by decide) rfl (by decide) rfl rfl (Nat.le_of_ble_eq_true rfl) (fun r3 m4 => ?_)
          refine Ev.if_eq (t := 48) (by decide +kernel) ?_ ?_
          · refine Ev.le (ls' := [some (.ref 112), some (.int a1), none]) ⟨rfl, ⟨rfl, trivial⟩⟩ ?_
            exact EX12_qSums_J48 f (FX12_qSums_L15 f k n) a1 m4 ih (by omega)
          · refine Ev.run (pc' := 45) (ls' := [some (.ref 112), some (.int a1), some (.int a2)]) (st' := [.int 1]) (m' := m4) [(.iconst 1, 0, 0, 1, 0)] (by decide +kernel) rfl ?_
            refine Ev.gto (t := 49) (by decide +kernel) ?_
            refine Ev.le (ls' := [some (.ref 112), some (.int a1), none]) ⟨rfl, ⟨rfl, trivial⟩⟩ ?_
            exact EX12_qSums_J49 f (FX12_qSums_L15 f k n) a1 (1 : Int32) m4 ih (by omega)
set_option maxRecDepth 100000 in
set_option maxHeartbeats 4000000 in
theorem EX12_qSums_L53 {l : Launch} {Ln : Nat} {xs : Nat → Int32} {d : Nat} (f : Nat) (k : ev_M → Option (Unit × ev_M))  (a1 : Int32)   (hk : ∀  (em : ev_M), Ev ev_eV l Ln xs YX12_qSums d Sx 78 [some (.ref 112), some (.int a1), none] [] em (k em)) (hd : 6 ≤ d) : ∀ (n : Nat)  (m : ev_M), Ev ev_eV l Ln xs YX12_qSums d Sx 53 [some (.ref 112), some (.int a1), none] [] m (FX12_qSums_L53 f k n m) := by
  intro n
  induction n with
  | zero => intros; exact Ev.nn
  | succ n ih =>
    intro  m
    rw [FX12_qSums_L53]
    refine Ev.run (pc' := 57) (ls' := [some (.ref 112), some (.int a1), none]) (st' := [.int (m.1 112 5)]) (m' := m) [(.aload_n 0, 0, 0, 0, 0), (.getfield 228, 12, 5, 0, 0)] (by decide +kernel) rfl ?_
    refine Ev.if_ne (t := 78) (by decide +kernel) ?_ ?_
    · exact hk _
    · refine Ev.run (pc' := 68) (ls' := [some (.ref 112), some (.int a1), none]) (st' := [.int (m.1 112 97), .int (m.1 112 95)]) (m' := m) [(.aload_n 0, 0, 0, 0, 0), (.getfield 317, 12, 95, 0, 0), (.aload_n 0, 0, 0, 0, 0), (.getfield 323, 12, 97, 0, 0)] (by decide +kernel) rfl ?_
      refine Ev.ic_le (t := 78) (by decide +kernel) ?_ ?_
      · exact hk _
      · refine Ev.run (pc' := 72) (ls' := [some (.ref 112), some (.int a1), none]) (st' := [.ref 112]) (m' := m) [(.aload_n 0, 0, 0, 0, 0)] (by decide +kernel) rfl ?_
        refine Ev.cV (av := []) (st := []) (a := 112) (EX12_qDrops (l := l) (Ln := Ln) (xs := xs) (d := 1) f m (by decide)) rfl (by decide +kernel) mwX12_qDrops iwX12_qDrops vwX12_qDrops lk_12_552 (by omega) (by decide) rfl (by decide) rfl rfl (Nat.le_of_ble_eq_true rfl) (fun r6 m7 => ?_)
        refine Ev.gto (t := 53) (by decide +kernel) ?_
        exact ih _
set_option maxRecDepth 100000 in
set_option maxHeartbeats 4000000 in
theorem EX12_qSums {l : Launch} {Ln : Nat} {xs : Nat → Int32} {d : Nat} (f : Nat)  (m : ev_M)  (hd : 6 ≤ d) : Mv ev_eV l Ln xs YX12_qSums d Sx [.ref 112] m (FX12_qSums f  m) := by
  refine Mv.of (by decide +kernel) rfl (Nat.le_of_ble_eq_true rfl) (Ev.le (ls' := [some (.ref 112), none, none]) ⟨rfl, trivial⟩ ?_)
  unfold FX12_qSums
  refine Ev.run (pc' := 15) (ls' := [some (.ref 112), some (.int (m.1 112 97)), some (.int 1)]) (st' := []) (m' := ((ev_up m.1 112 97 (m.1 112 95)), m.2)) [(.aload_n 0, 0, 0, 0, 0), (.getfield 323, 12, 97, 0, 0), (.istore_n 1, 0, 0, 0, 0), (.aload_n 0, 0, 0, 0, 0), (.aload_n 0, 0, 0, 0, 0), (.getfield 317, 12, 95, 0, 0), (.putfield 323, 12, 97, 0, 0), (.iconst 1, 0, 0, 1, 0), (.istore_n 2, 0, 0, 0, 0)] (by decide +kernel) rfl ?_
  refine EX12_qSums_L15 f _ (m.1 112 97) ?_ (by omega) _ _ _
  intro m5
  refine EX12_qSums_L53 f _ (m.1 112 97) ?_ (by omega) _ _
  intro m8
  refine Ev.run (pc' := 83) (ls' := [some (.ref 112), some (.int (m.1 112 97)), none]) (st' := []) (m' := ((ev_up m8.1 112 97 (m.1 112 97)), m8.2)) [(.aload_n 0, 0, 0, 0, 0), (.iload_n 1, 0, 0, 0, 0), (.putfield 323, 12, 97, 0, 0)] (by decide +kernel) rfl ?_
  exact Ev.retv rfl rfl (by decide +kernel)
