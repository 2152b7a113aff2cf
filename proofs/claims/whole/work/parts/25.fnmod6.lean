def FX12_roundGoes_L2 (f : Nat) (k : ev_M → Option (Unit × ev_M))   : Nat → Int32 → ev_M → Option (Unit × ev_M)
  | 0, _, _ => none
  | n + 1, a1, m => (ev_bd (FX12_towerMany f m) (fun r1 m2 => (if r1 ≤ a1 then (k m2) else (ev_bd (FX12_saidBy f a1 ((ev_up (ev_up m2.1 112 49 (m2.1 144 1)) 112 50 (((m2.1 112 53) >>> (a1 &&& 31)) &&& 1)), m2.2)) (fun r3 m4 => (if ev_in a1 8 then (if ev_in a1 8 then (if ev_in a1 8 then (ev_bd (FX12_feltBy f a1 ((ev_up (ev_up (ev_up m4.1 146 a1.toNatClampNeg r3) 112 51 ((ev_up m4.1 146 a1.toNatClampNeg r3) 146 a1.toNatClampNeg)) 144 1 ((ev_up m4.1 146 a1.toNatClampNeg r3) 146 a1.toNatClampNeg)), m4.2)) (fun r5 m6 => (if ev_in (2 + (3 * a1)) 147 then (FX12_roundGoes_L2 f k n (a1 + 1) ((ev_up m6.1 144 (2 + (3 * a1)).toNatClampNeg r5), m6.2)) else none))) else none) else none) else none))))))
def FX12_roundGoes (f : Nat)  (m : ev_M) : Option (Unit × ev_M) :=
  (FX12_roundGoes_L2 f (fun m7 => (ev_bd (FX12_doubtsNow f ((ev_up m7.1 112 53 0), m7.2)) (fun r8 m9 => (ev_bd (FX12_rowOf f (m9.1 140 4) ((ev_up m9.1 112 56 ((m7.1 112 56) + r8)), m9.2)) (fun r10 m11 => (if r10 = (-1) then some ((), ((ev_up m11.1 144 0 ((m11.1 144 0) + 1)), m11.2)) else (ev_bd (FX12_doubtsNow f ((ev_up m11.1 112 55 ((m11.1 112 55) + 1)), m11.2)) (fun r12 m13 => (ev_bd (FX12_isKept f r10 r12 m13) (fun _ m15 => some ((), ((ev_up m15.1 144 0 ((m15.1 144 0) + 1)), m15.2)))))))))))) f (0 : Int32) m)
set_option maxRecDepth 100000 in
set_option maxHeartbeats 4000000 in
theorem EX12_roundGoes_L2 {l : Launch} {Ln : Nat} {xs : Nat → Int32} {d : Nat} (f : Nat) (k : ev_M → Option (Unit × ev_M))     (hk : ∀  (em : ev_M), Ev ev_eV l Ln xs YX12_roundGoes d Sx 86 [some (.ref 112), none] [] em (k em)) (hd : 4 ≤ d) : ∀ (n : Nat) (a1 : Int32) (m : ev_M), Ev ev_eV l Ln xs YX12_roundGoes d Sx 2 [some (.ref 112), some (.int a1)] [] m (FX12_roundGoes_L2 f k n a1 m) := by
  intro n
  induction n with
  | zero => intros; exact Ev.nn
  | succ n ih =>
    intro a1 m
    rw [FX12_roundGoes_L2]
    refine Ev.run (pc' := 4) (ls' := [some (.ref 112), some (.int a1)]) (st' := [.ref 112, .int a1]) (m' := m) [(.iload_n 1, 0, 0, 0, 0), (.aload_n 0, 0, 0, 0, 0)] (by decide +kernel) rfl ?_
    refine Ev.cV (av := []) (st := [.int a1]) (a := 112) (EX12_towerMany (l := l) (Ln := Ln) (xs := xs) (d := 0) f m (by decide)) rfl (by decide +kernel) mwX12_towerMany iwX12_towerMany vwX12_towerMany lk_12_369 (by omega) (by decide) rfl (by decide) rfl rfl (Nat.le_of_ble_eq_true rfl) (fun r1 m2 => ?_)
    refine Ev.ic_ge (t := 86) (by decide +kernel) ?_ ?_
    · refine Ev.le (ls' := [some (.ref 112), none]) ⟨rfl, trivial⟩ ?_
      exact hk _
    · refine Ev.run (pc' := 16) (ls' := [some (.ref 112), some (.int a1)]) (st' := [.int 1, .ref 144, .ref 112]) (m' := m2) [(.aload_n 0, 0, 0, 0, 0), (.aload_n 0, 0, 0, 0, 0), (.getfield 109, 12, 47, 0, 0), (.iconst 1, 0, 0, 1, 0)] (by decide +kernel) rfl ?_
      refine Ev.ialdK (n := 147) (j := 1) (by decide +kernel) (by decide) rfl rfl (by decide) ?_
      refine Ev.run (pc' := 39) (ls' := [some (.ref 112), some (.int a1)]) (st' := [.int a1, .ref 112, .int a1, .ref 146]) (m' := ((ev_up (ev_up m2.1 112 49 (m2.1 144 1)) 112 50 (((m2.1 112 53) >>> (a1 &&& 31)) &&& 1)), m2.2)) [(.putfield 404, 12, 49, 0, 0), (.aload_n 0, 0, 0, 0, 0), (.aload_n 0, 0, 0, 0, 0), (.getfield 419, 12, 53, 0, 0), (.iload_n 1, 0, 0, 0, 0), (.ishr, 0, 0, 0, 0), (.iconst 1, 0, 0, 1, 0), (.iand, 0, 0, 0, 0), (.putfield 407, 12, 50, 0, 0), (.aload_n 0, 0, 0, 0, 0), (.getfield 115, 12, 52, 0, 0), (.iload_n 1, 0, 0, 0, 0), (.aload_n 0, 0, 0, 0, 0), (.iload_n 1, 0, 0, 0, 0)] (by decide +kernel) rfl ?_
      refine Ev.cV (av := [.int a1]) (st := [.int a1, .ref 146]) (a := 112) (EX12_saidBy (l := l) (Ln := Ln) (xs := xs) (d := 3) f a1 ((ev_up (ev_up m2.1 112 49 (m2.1 144 1)) 112 50 (((m2.1 112 53) >>> (a1 &&& 31)) &&& 1)), m2.2) (by decide)) rfl (by decide +kernel) mwX12_saidBy iwX12_saidBy vwX12_saidBy lk_12_422 (by omega) (by decide) rfl (by decide) rfl rfl (Nat.le_of_ble_eq_true rfl) (fun r3 m4 => ?_)
      refine Ev.iast (n := 8) (by decide +kernel) (by decide) rfl ?_
      refine Ev.run (pc' := 49) (ls' := [some (.ref 112), some (.int a1)]) (st' := [.int a1, .ref 146, .ref 112]) (m' := ((ev_up m4.1 146 a1.toNatClampNeg r3), m4.2)) [(.aload_n 0, 0, 0, 0, 0), (.aload_n 0, 0, 0, 0, 0), (.getfield 115, 12, 52, 0, 0), (.iload_n 1, 0, 0, 0, 0)] (by decide +kernel) rfl ?_
      refine Ev.iald (n := 8) (by decide +kernel) (by decide) rfl ?_
      refine Ev.run (pc' := 63) (ls' := [some (.ref 112), some (.int a1)]) (st' := [.int a1, .ref 146, .int 1, .ref 144]) (m' := ((ev_up (ev_up m4.1 146 a1.toNatClampNeg r3) 112 51 ((ev_up m4.1 146 a1.toNatClampNeg r3) 146 a1.toNatClampNeg)), m4.2)) [(.putfield 425, 12, 51, 0, 0), (.aload_n 0, 0, 0, 0, 0), (.getfield 109, 12, 47, 0, 0), (.iconst 1, 0, 0, 1, 0), (.aload_n 0, 0, 0, 0, 0), (.getfield 115, 12, 52, 0, 0), (.iload_n 1, 0, 0, 0, 0)] (by decide +kernel) rfl ?_
      refine Ev.iald (n := 8) (by decide +kernel) (by decide) rfl ?_
      refine Ev.iastK (n := 147) (j := 1) (by decide +kernel) (by decide) rfl rfl (by decide) ?_
      refine Ev.run (pc' := 76) (ls' := [some (.ref 112), some (.int a1)]) (st' := [.int a1, .ref 112, .int (2 + (3 * a1)), .ref 144]) (m' := ((ev_up (ev_up (ev_up m4.1 146 a1.toNatClampNeg r3) 112 51 ((ev_up m4.1 146 a1.toNatClampNeg r3) 146 a1.toNatClampNeg)) 144 1 ((ev_up m4.1 146 a1.toNatClampNeg r3) 146 a1.toNatClampNeg)), m4.2)) [(.aload_n 0, 0, 0, 0, 0), (.getfield 109, 12, 47, 0, 0), (.iconst 2, 0, 0, 2, 0), (.iconst 3, 0, 0, 3, 0), (.iload_n 1, 0, 0, 0, 0), (.imul, 0, 0, 0, 0), (.iadd, 0, 0, 0, 0), (.aload_n 0, 0, 0, 0, 0), (.iload_n 1, 0, 0, 0, 0)] (by decide +kernel) rfl ?_
      refine Ev.cV (av := [.int a1]) (st := [.int (2 + (3 * a1)), .ref 144]) (a := 112) (EX12_feltBy (l := l) (Ln := Ln) (xs := xs) (d := 3) f a1 ((ev_up (ev_up (ev_up m4.1 146 a1.toNatClampNeg r3) 112 51 ((ev_up m4.1 146 a1.toNatClampNeg r3) 146 a1.toNatClampNeg)) 144 1 ((ev_up m4.1 146 a1.toNatClampNeg r3) 146 a1.toNatClampNeg)), m4.2) (by decide)) rfl (by decide +kernel) mwX12_feltBy iwX12_feltBy vwX12_feltBy lk_12_428 (by omega) (by decide) rfl (by decide) rfl rfl (Nat.le_of_ble_eq_true rfl) (fun r5 m6 => ?_)
      refine Ev.iast (n := 147) (by decide +kernel) (by decide) rfl ?_
      refine Ev.run (pc' := 83) (ls' := [some (.ref 112), some (.int (a1 + 1))]) (st' := []) (m' := ((ev_up m6.1 144 (2 + (3 * a1)).toNatClampNeg r5), m6.2)) [(.iinc 1 1, 0, 0, 1, 0)] (by decide +kernel) rfl ?_
      refine Ev.gto (t := 2) (by decide +kernel) ?_
      exact ih _ _
set_option maxRecDepth 100000 in
set_option maxHeartbeats 4000000 in
theorem EX12_roundGoes {l : Launch} {Ln : Nat} {xs : Nat → Int32} {d : Nat} (f : Nat)  (m : ev_M)  (hd : 4 ≤ d) : Mv ev_eV l Ln xs YX12_roundGoes d Sx [.ref 112] m (FX12_roundGoes f  m) := by
  refine Mv.of (by decide +kernel) rfl (Nat.le_of_ble_eq_true rfl) (Ev.le (ls' := [some (.ref 112), none]) ⟨rfl, trivial⟩ ?_)
  unfold FX12_roundGoes
  refine Ev.run (pc' := 2) (ls' := [some (.ref 112), some (.int 0)]) (st' := []) (m' := m) [(.iconst 0, 0, 0, 0, 0), (.istore_n 1, 0, 0, 0, 0)] (by decide +kernel) rfl ?_
  refine EX12_roundGoes_L2 f _ ?_ (by omega) _ _ _
  intro m7
  refine Ev.run (pc' := 97) (ls' := [some (.ref 112), none]) (st' := [.ref 112, .int (m7.1 112 56), .ref 112]) (m' := ((ev_up m7.1 112 53 0), m7.2)) [(.aload_n 0, 0, 0, 0, 0), (.iconst 0, 0, 0, 0, 0), (.putfield 419, 12, 53, 0, 0), (.aload_n 0, 0, 0, 0, 0), (.dup, 0, 0, 0, 0), (.getfield 431, 12, 56, 0, 0), (.aload_n 0, 0, 0, 0, 0)] (by decide +kernel) rfl ?_
  refine Ev.cV (av := []) (st := [.int (m7.1 112 56), .ref 112]) (a := 112) (EX12_doubtsNow (l := l) (Ln := Ln) (xs := xs) (d := 1) f ((ev_up m7.1 112 53 0), m7.2) (by decide)) rfl (by decide +kernel) mwX12_doubtsNow iwX12_doubtsNow vwX12_doubtsNow lk_12_434 (by omega) (by decide) rfl (by decide) rfl rfl (Nat.le_of_ble_eq_true rfl) (fun r8 m9 => ?_)
  refine Ev.run (pc' := 110) (ls' := [some (.ref 112), none]) (st' := [.int 4, .ref 140, .ref 112]) (m' := ((ev_up m9.1 112 56 ((m7.1 112 56) + r8)), m9.2)) [(.iadd, 0, 0, 0, 0), (.putfield 431, 12, 56, 0, 0), (.aload_n 0, 0, 0, 0, 0), (.aload_n 0, 0, 0, 0, 0), (.getfield 97, 12, 39, 0, 0), (.iconst 4, 0, 0, 4, 0)] (by decide +kernel) rfl ?_
  refine Ev.ialdK (n := 6) (j := 4) (by decide +kernel) (by decide) rfl rfl (by decide) ?_
  refine Ev.cV (av := [.int (m9.1 140 4)]) (st := []) (a := 112) (EX12_rowOf (l := l) (Ln := Ln) (xs := xs) (d := 2) f (m9.1 140 4) ((ev_up m9.1 112 56 ((m7.1 112 56) + r8)), m9.2) (by decide)) rfl (by decide +kernel) mwX12_rowOf iwX12_rowOf vwX12_rowOf lk_12_437 (by omega) (by decide) rfl (by decide) rfl rfl (Nat.le_of_ble_eq_true rfl) (fun r10 m11 => ?_)
  refine Ev.run (pc' := 117) (ls' := [some (.ref 112), some (.int r10)]) (st' := [.int (-1), .int r10]) (m' := m11) [(.istore_n 1, 0, 0, 0, 0), (.iload_n 1, 0, 0, 0, 0), (.iconst (-1), 0, 0, (-1), 0)] (by decide +kernel) rfl ?_
  refine Ev.ic_eq (t := 139) (by decide +kernel) ?_ ?_
  · refine Ev.run (pc' := 145) (ls' := [some (.ref 112), some (.int r10)]) (st' := [.int 0, .ref 144, .int 0, .ref 144]) (m' := m11) [(.aload_n 0, 0, 0, 0, 0), (.getfield 109, 12, 47, 0, 0), (.iconst 0, 0, 0, 0, 0), (.dup2, 0, 0, 0, 0)] (by decide +kernel) rfl ?_
    refine Ev.ialdK (n := 147) (j := 0) (by decide +kernel) (by decide) rfl rfl (by decide) ?_
    refine Ev.run (pc' := 148) (ls' := [some (.ref 112), some (.int r10)]) (st' := [.int ((m11.1 144 0) + 1), .int 0, .ref 144]) (m' := m11) [(.iconst 1, 0, 0, 1, 0), (.iadd, 0, 0, 0, 0)] (by decide +kernel) rfl ?_
    refine Ev.iastK (n := 147) (j := 0) (by decide +kernel) (by decide) rfl rfl (by decide) ?_
    exact Ev.retv rfl rfl (by decide +kernel)
  · refine Ev.run (pc' := 133) (ls' := [some (.ref 112), some (.int r10)]) (st' := [.ref 112, .int r10, .ref 112]) (m' := ((ev_up m11.1 112 55 ((m11.1 112 55) + 1)), m11.2)) [(.aload_n 0, 0, 0, 0, 0), (.dup, 0, 0, 0, 0), (.getfield 440, 12, 55, 0, 0), (.iconst 1, 0, 0, 1, 0), (.iadd, 0, 0, 0, 0), (.putfield 440, 12, 55, 0, 0), (.aload_n 0, 0, 0, 0, 0), (.iload_n 1, 0, 0, 0, 0), (.aload_n 0, 0, 0, 0, 0)] (by decide +kernel) rfl ?_
    refine Ev.cV (av := []) (st := [.int r10, .ref 112]) (a := 112) (EX12_doubtsNow (l := l) (Ln := Ln) (xs := xs) (d := 1) f ((ev_up m11.1 112 55 ((m11.1 112 55) + 1)), m11.2) (by decide)) rfl (by decide +kernel) mwX12_doubtsNow iwX12_doubtsNow vwX12_doubtsNow lk_12_434 (by omega) (by decide) rfl (by decide) rfl rfl (Nat.le_of_ble_eq_true rfl) (fun r12 m13 => ?_)
    refine Ev.cV (av := [.int r10, .int r12]) (st := []) (a := 112) (EX12_isKept (l := l) (Ln := Ln) (xs := xs) (d := 0) f r10 r12 m13 (by decide)) rfl (by decide +kernel) mwX12_isKept iwX12_isKept vwX12_isKept lk_12_443 (by omega) (by decide) rfl (by decide) rfl rfl (Nat.le_of_ble_eq_true rfl) (fun r14 m15 => ?_)
    refine Ev.run (pc' := 145) (ls' := [some (.ref 112), some (.int r10)]) (st' := [.int 0, .ref 144, .int 0, .ref 144]) (m' := m15) [(.aload_n 0, 0, 0, 0, 0), (.getfield 109, 12, 47, 0, 0), (.iconst 0, 0, 0, 0, 0), (.dup2, 0, 0, 0, 0)] (by decide +kernel) rfl ?_
    refine Ev.ialdK (n := 147) (j := 0) (by decide +kernel) (by decide) rfl rfl (by decide) ?_
    refine Ev.run (pc' := 148) (ls' := [some (.ref 112), some (.int r10)]) (st' := [.int ((m15.1 144 0) + 1), .int 0, .ref 144]) (m' := m15) [(.iconst 1, 0, 0, 1, 0), (.iadd, 0, 0, 0, 0)] (by decide +kernel) rfl ?_
    refine Ev.iastK (n := 147) (j := 0) (by decide +kernel) (by decide) rfl rfl (by decide) ?_
    exact Ev.retv rfl rfl (by decide +kernel)
def FX12_roundsGo_L2 (f : Nat) (k : ev_M → Option (Unit × ev_M))  (a1 : Int32) : Nat → Int32 → ev_M → Option (Unit × ev_M)
  | 0, _, _ => none
  | n + 1, a2, m => (if a1 ≤ a2 then (k m) else (ev_bd (FX12_roundGoes f m) (fun _ m2 => (FX12_roundsGo_L2 f k a1 n (a2 + 1) m2))))
def FX12_roundsGo (f : Nat) (a1 : Int32) (m : ev_M) : Option (Unit × ev_M) :=
  (FX12_roundsGo_L2 f (fun m3 => some ((), m3)) a1 f (0 : Int32) m)
set_option maxRecDepth 100000 in
set_option maxHeartbeats 4000000 in
theorem EX12_roundsGo_L2 {l : Launch} {Ln : Nat} {xs : Nat → Int32} {d : Nat} (f : Nat) (k : ev_M → Option (Unit × ev_M))  (a1 : Int32)   (hk : ∀  (em : ev_M), Ev ev_eV l Ln xs YX12_roundsGo d Sx 17 [none, none, none] [] em (k em)) (hd : 5 ≤ d) : ∀ (n : Nat) (a2 : Int32) (m : ev_M), Ev ev_eV l Ln xs YX12_roundsGo d Sx 2 [some (.ref 112), some (.int a1), some (.int a2)] [] m (FX12_roundsGo_L2 f k a1 n a2 m) := by
  intro n
  induction n with
  | zero => intros; exact Ev.nn
  | succ n ih =>
    intro a2 m
    rw [FX12_roundsGo_L2]
    refine Ev.run (pc' := 4) (ls' := [some (.ref 112), some (.int a1), some (.int a2)]) (st' := [.int a1, .int a2]) (m' := m) [(.iload_n 2, 0, 0, 0, 0), (.iload_n 1, 0, 0, 0, 0)] (by decide +kernel) rfl ?_
    refine Ev.ic_ge (t := 17) (by decide +kernel) ?_ ?_
    · refine Ev.le (ls' := [none, none, none]) trivial ?_
      exact hk _
    · refine Ev.run (pc' := 8) (ls' := [some (.ref 112), some (.int a1), some (.int a2)]) (st' := [.ref 112]) (m' := m) [(.aload_n 0, 0, 0, 0, 0)] (by decide +kernel) rfl ?_
      refine Ev.cV (av := []) (st := []) (a := 112) (EX12_roundGoes (l := l) (Ln := Ln) (xs := xs) (d := 4) f m (by decide)) rfl (by decide +kernel) mwX12_roundGoes iwX12_roundGoes vwX12_roundGoes lk_12_446 (by omega) (by decide) rfl (by decide) rfl rfl (Nat.le_of_ble_eq_true rfl) (fun r1 m2 => ?_)
      refine Ev.run (pc' := 14) (ls' := [some (.ref 112), some (.int a1), some (.int (a2 + 1))]) (st' := []) (m' := m2) [(.iinc 2 1, 0, 0, 1, 0)] (by decide +kernel) rfl ?_
      refine Ev.gto (t := 2) (by decide +kernel) ?_
      exact ih _ _
set_option maxRecDepth 100000 in
set_option maxHeartbeats 4000000 in
theorem EX12_roundsGo {l : Launch} {Ln : Nat} {xs : Nat → Int32} {d : Nat} (f : Nat) (a1 : Int32) (m : ev_M)  (hd : 5 ≤ d) : Mv ev_eV l Ln xs YX12_roundsGo d Sx [.ref 112, .int a1] m (FX12_roundsGo f a1 m) := by
  refine Mv.of (by decide +kernel) rfl (Nat.le_of_ble_eq_true rfl) (Ev.le (ls' := [some (.ref 112), some (.int a1), none]) ⟨rfl, ⟨rfl, trivial⟩⟩ ?_)
  unfold FX12_roundsGo
  refine Ev.run (pc' := 2) (ls' := [some (.ref 112), some (.int a1), some (.int 0)]) (st' := []) (m' := m) [(.iconst 0, 0, 0, 0, 0), (.istore_n 2, 0, 0, 0, 0)] (by decide +kernel) rfl ?_
  refine EX12_roundsGo_L2 f _ a1 ?_ (by omega) _ _ _
  intro m3
  exact Ev.retv rfl rfl (by decide +kernel)
def FX12_doGoTo (f : Nat) (a1 : Int32) (m : ev_M) : Option (Int32 × ev_M) :=
  (ev_bd (FX12_isIn f (a1 : Int32).toInt64 (0 : Int64) (60 : Int64) m) (fun r1 m2 => (if r1 = 0 then some (0, m2) else (ev_bd (FX12_isAhead f (a1 + 1) (1 : Int32) (61 : Int32) m2) (fun r3 m4 => (if r3 = 0 then some (0, m4) else (ev_bd (FX12_putsAside f m4) (fun _ m6 => (ev_bd (FX12_roundsGo f (a1 + 1) m6) (fun _ m8 => (ev_bd (FX12_takesBack f m8) (fun _ m10 => some (1, m10)))))))))))))
set_option maxRecDepth 100000 in
set_option maxHeartbeats 4000000 in
theorem EX12_doGoTo {l : Launch} {Ln : Nat} {xs : Nat → Int32} {d : Nat} (f : Nat) (a1 : Int32) (m : ev_M)  (hd : 6 ≤ d) : Mv ev_eI l Ln xs YX12_doGoTo d Sx [.ref 112, .int a1] m (FX12_doGoTo f a1 m) := by
  refine Mv.of (by decide +kernel) rfl (Nat.le_of_ble_eq_true rfl) (Ev.le (ls' := [some (.ref 112), some (.int a1)]) ⟨rfl, ⟨rfl, trivial⟩⟩ ?_)
  unfold FX12_doGoTo
  refine Ev.run (pc' := 6) (ls' := [some (.ref 112), some (.int a1)]) (st' := [.long 60, .long 0, .long (a1 : Int32).toInt64]) (m' := m) [(.iload_n 1, 0, 0, 0, 0), (.i2l, 0, 0, 0, 0), (.lconst 0, 0, 0, 0, 0), (.ldc2_w 462, 0, 0, 0, 60)] (by decide +kernel) rfl ?_
  refine Ev.cS (av := [.long (a1 : Int32).toInt64, .long 0, .long 60]) (st := []) (EX12_isIn (l := l) (Ln := Ln) (xs := xs) (d := 0) f (a1 : Int32).toInt64 (0 : Int64) (60 : Int64) m (by decide)) rfl (by decide +kernel) mwX12_isIn swX12_isIn lk_12_268 (by omega) rfl (Nat.le_of_ble_eq_true rfl) (fun r1 m2 => ?_)
  refine Ev.if_eq (t := 25) (by decide +kernel) ?_ ?_
  · refine Ev.run (pc' := 26) (ls' := [some (.ref 112), some (.int a1)]) (st' := [.int 0]) (m' := m2) [(.iconst 0, 0, 0, 0, 0)] (by decide +kernel) rfl ?_
    exact Ev.iretz rfl rfl (by decide +kernel) (by decide)
  · refine Ev.run (pc' := 19) (ls' := [some (.ref 112), some (.int a1)]) (st' := [.int 61, .int 1, .int (a1 + 1), .ref 112]) (m' := m2) [(.aload_n 0, 0, 0, 0, 0), (.iload_n 1, 0, 0, 0, 0), (.iconst 1, 0, 0, 1, 0), (.iadd, 0, 0, 0, 0), (.iconst 1, 0, 0, 1, 0), (.bipush 61, 0, 0, 61, 0)] (by decide +kernel) rfl ?_
    refine Ev.cV (av := [.int (a1 + 1), .int 1, .int 61]) (st := []) (a := 112) (EX12_isAhead (l := l) (Ln := Ln) (xs := xs) (d := 1) f (a1 + 1) (1 : Int32) (61 : Int32) m2 (by decide)) rfl (by decide +kernel) mwX12_isAhead iwX12_isAhead vwX12_isAhead lk_12_464 (by omega) (by decide) rfl (by decide) rfl rfl (Nat.le_of_ble_eq_true rfl) (fun r3 m4 => ?_)
    refine Ev.if_ne (t := 27) (by decide +kernel) ?_ ?_
    · refine Ev.run (pc' := 28) (ls' := [some (.ref 112), some (.int a1)]) (st' := [.ref 112]) (m' := m4) [(.aload_n 0, 0, 0, 0, 0)] (by decide +kernel) rfl ?_
      refine Ev.cV (av := []) (st := []) (a := 112) (EX12_putsAside (l := l) (Ln := Ln) (xs := xs) (d := 0) f m4 (by decide)) rfl (by decide +kernel) mwX12_putsAside iwX12_putsAside vwX12_putsAside lk_12_468 (by omega) (by decide) rfl (by decide) rfl rfl (Nat.le_of_ble_eq_true rfl) (fun r5 m6 => ?_)
      refine Ev.run (pc' := 35) (ls' := [some (.ref 112), some (.int a1)]) (st' := [.int (a1 + 1), .ref 112]) (m' := m6) [(.aload_n 0, 0, 0, 0, 0), (.iload_n 1, 0, 0, 0, 0), (.iconst 1, 0, 0, 1, 0), (.iadd, 0, 0, 0, 0)] (by decide +kernel) rfl ?_
      refine Ev.cV (av := [.int (a1 + 1)]) (st := []) (a := 112) (EX12_roundsGo (l := l) (Ln := Ln) (xs := xs) (d := 5) f (a1 + 1) m6 (by decide)) rfl (by decide +kernel) mwX12_roundsGo iwX12_roundsGo vwX12_roundsGo lk_12_471 (by omega) (by decide) rfl (by decide) rfl rfl (Nat.le_of_ble_eq_true rfl) (fun r7 m8 => ?_)
      refine Ev.run (pc' := 39) (ls' := [some (.ref 112), some (.int a1)]) (st' := [.ref 112]) (m' := m8) [(.aload_n 0, 0, 0, 0, 0)] (by decide +kernel) rfl ?_
      refine Ev.cV (av := []) (st := []) (a := 112) (EX12_takesBack (l := l) (Ln := Ln) (xs := xs) (d := 1) f m8 (by decide)) rfl (by decide +kernel) mwX12_takesBack iwX12_takesBack vwX12_takesBack lk_12_474 (by omega) (by decide) rfl (by decide) rfl rfl (Nat.le_of_ble_eq_true rfl) (fun r9 m10 => ?_)
      refine Ev.run (pc' := 43) (ls' := [some (.ref 112), some (.int a1)]) (st' := [.int 1]) (m' := m10) [(.iconst 1, 0, 0, 1, 0)] (by decide +kernel) rfl ?_
      exact Ev.iretz rfl rfl (by decide +kernel) (by decide)
    · refine Ev.run (pc' := 26) (ls' := [some (.ref 112), some (.int a1)]) (st' := [.int 0]) (m' := m4) [(.iconst 0, 0, 0, 0, 0)] (by decide +kernel) rfl ?_
      exact Ev.iretz rfl rfl (by decide +kernel) (by decide)
def FX12_tone (f : Nat) (a1 : Int32) (a2 : Int32) (m : ev_M) : Option (Int32 × ev_M) :=
  (ev_bd (FX12_isTower f a1 m) (fun r1 m2 => (if r1 = 0 then some ((-1), m2) else (ev_bd (FX12_doGoTo f a2 m2) (fun r3 m4 => (if r3 = 0 then some ((-1), m4) else (if ev_in a1 8 then some ((m4.1 146 a1.toNatClampNeg), m4) else none)))))))
set_option maxRecDepth 100000 in
set_option maxHeartbeats 4000000 in
theorem EX12_tone {l : Launch} {Ln : Nat} {xs : Nat → Int32} {d : Nat} (f : Nat) (a1 : Int32) (a2 : Int32) (m : ev_M)  (hd : 7 ≤ d) : Mv ev_eI l Ln xs YX12_tone d Sx [.ref 112, .int a1, .int a2] m (FX12_tone f a1 a2 m) := by
  refine Mv.of (by decide +kernel) rfl (Nat.le_of_ble_eq_true rfl) (Ev.le (ls' := [some (.ref 112), some (.int a1), some (.int a2)]) ⟨rfl, ⟨rfl, ⟨rfl, trivial⟩⟩⟩ ?_)
  unfold FX12_tone
  refine Ev.run (pc' := 2) (ls' := [some (.ref 112), some (.int a1), some (.int a2)]) (st' := [.int a1, .ref 112]) (m' := m) [(.aload_n 0, 0, 0, 0, 0), (.iload_n 1, 0, 0, 0, 0)] (by decide +kernel) rfl ?_
  refine Ev.cV (av := [.int a1]) (st := []) (a := 112) (EX12_isTower (l := l) (Ln := Ln) (xs := xs) (d := 1) f a1 m (by decide)) rfl (by decide +kernel) mwX12_isTower iwX12_isTower vwX12_isTower lk_12_455 (by omega) (by decide) rfl (by decide) rfl rfl (Nat.le_of_ble_eq_true rfl) (fun r1 m2 => ?_)
  refine Ev.if_eq (t := 25) (by decide +kernel) ?_ ?_
  · refine Ev.run (pc' := 26) (ls' := [some (.ref 112), some (.int a1), some (.int a2)]) (st' := [.int (-1)]) (m' := m2) [(.iconst (-1), 0, 0, (-1), 0)] (by decide +kernel) rfl ?_
    exact Ev.ireti rfl rfl (by decide +kernel)
  · refine Ev.run (pc' := 10) (ls' := [some (.ref 112), some (.int a1), some (.int a2)]) (st' := [.int a2, .ref 112]) (m' := m2) [(.aload_n 0, 0, 0, 0, 0), (.iload_n 2, 0, 0, 0, 0)] (by decide +kernel) rfl ?_
    refine Ev.cV (av := [.int a2]) (st := []) (a := 112) (EX12_doGoTo (l := l) (Ln := Ln) (xs := xs) (d := 6) f a2 m2 (by decide)) rfl (by decide +kernel) mwX12_doGoTo iwX12_doGoTo vwX12_doGoTo lk_12_477 (by omega) (by decide) rfl (by decide) rfl rfl (Nat.le_of_ble_eq_true rfl) (fun r3 m4 => ?_)
    refine Ev.if_eq (t := 25) (by decide +kernel) ?_ ?_
    · refine Ev.run (pc' := 26) (ls' := [some (.ref 112), some (.int a1), some (.int a2)]) (st' := [.int (-1)]) (m' := m4) [(.iconst (-1), 0, 0, (-1), 0)] (by decide +kernel) rfl ?_
      exact Ev.ireti rfl rfl (by decide +kernel)
    · refine Ev.run (pc' := 21) (ls' := [some (.ref 112), some (.int a1), some (.int a2)]) (st' := [.int a1, .ref 146]) (m' := m4) [(.aload_n 0, 0, 0, 0, 0), (.getfield 115, 12, 52, 0, 0), (.iload_n 1, 0, 0, 0, 0)] (by decide +kernel) rfl ?_
      refine Ev.iald (n := 8) (by decide +kernel) (by decide) rfl ?_
      refine Ev.gto (t := 26) (by decide +kernel) ?_
      exact Ev.ireti rfl rfl (by decide +kernel)
def FX12_mood (f : Nat) (a1 : Int32) (a2 : Int32) (m : ev_M) : Option (Int32 × ev_M) :=
  (ev_bd (FX12_isTower f a1 m) (fun r1 m2 => (if r1 = 0 then some ((-1), m2) else (ev_bd (FX12_isAhead f a2 (0 : Int32) (60 : Int32) m2) (fun r3 m4 => (if r3 = 0 then some ((-1), m4) else (ev_bd (FX12_putsAside f m4) (fun _ m6 => (ev_bd (FX12_roundsGo f a2 m6) (fun _ m8 => (ev_bd (FX12_moodOf f a1 m8) (fun r9 m10 => (ev_bd (FX12_takesBack f m10) (fun _ m12 => some (r9, m12)))))))))))))))
set_option maxRecDepth 100000 in
set_option maxHeartbeats 4000000 in
theorem EX12_mood {l : Launch} {Ln : Nat} {xs : Nat → Int32} {d : Nat} (f : Nat) (a1 : Int32) (a2 : Int32) (m : ev_M)  (hd : 6 ≤ d) : Mv ev_eI l Ln xs YX12_mood d Sx [.ref 112, .int a1, .int a2] m (FX12_mood f a1 a2 m) := by
  refine Mv.of (by decide +kernel) rfl (Nat.le_of_ble_eq_true rfl) (Ev.le (ls' := [some (.ref 112), some (.int a1), some (.int a2), none]) ⟨rfl, ⟨rfl, ⟨rfl, trivial⟩⟩⟩ ?_)
  unfold FX12_mood
  refine Ev.run (pc' := 2) (ls' := [some (.ref 112), some (.int a1), some (.int a2), none]) (st' := [.int a1, .ref 112]) (m' := m) [(.aload_n 0, 0, 0, 0, 0), (.iload_n 1, 0, 0, 0, 0)] (by decide +kernel) rfl ?_
  refine Ev.cV (av := [.int a1]) (st := []) (a := 112) (EX12_isTower (l := l) (Ln := Ln) (xs := xs) (d := 1) f a1 m (by decide)) rfl (by decide +kernel) mwX12_isTower iwX12_isTower vwX12_isTower lk_12_455 (by omega) (by decide) rfl (by decide) rfl rfl (Nat.le_of_ble_eq_true rfl) (fun r1 m2 => ?_)
  refine Ev.if_eq (t := 19) (by decide +kernel) ?_ ?_
  · refine Ev.run (pc' := 20) (ls' := [some (.ref 112), some (.int a1), some (.int a2), none]) (st' := [.int (-1)]) (m' := m2) [(.iconst (-1), 0, 0, (-1), 0)] (by decide +kernel) rfl ?_
    exact Ev.ireti rfl rfl (by decide +kernel)
  · refine Ev.run (pc' := 13) (ls' := [some (.ref 112), some (.int a1), some (.int a2), none]) (st' := [.int 60, .int 0, .int a2, .ref 112]) (m' := m2) [(.aload_n 0, 0, 0, 0, 0), (.iload_n 2, 0, 0, 0, 0), (.iconst 0, 0, 0, 0, 0), (.bipush 60, 0, 0, 60, 0)] (by decide +kernel) rfl ?_
    refine Ev.cV (av := [.int a2, .int 0, .int 60]) (st := []) (a := 112) (EX12_isAhead (l := l) (Ln := Ln) (xs := xs) (d := 1) f a2 (0 : Int32) (60 : Int32) m2 (by decide)) rfl (by decide +kernel) mwX12_isAhead iwX12_isAhead vwX12_isAhead lk_12_464 (by omega) (by decide) rfl (by decide) rfl rfl (Nat.le_of_ble_eq_true rfl) (fun r3 m4 => ?_)
    refine Ev.if_ne (t := 21) (by decide +kernel) ?_ ?_
    · refine Ev.run (pc' := 22) (ls' := [some (.ref 112), some (.int a1), some (.int a2), none]) (st' := [.ref 112]) (m' := m4) [(.aload_n 0, 0, 0, 0, 0)] (by decide +kernel) rfl ?_
      refine Ev.cV (av := []) (st := []) (a := 112) (EX12_putsAside (l := l) (Ln := Ln) (xs := xs) (d := 0) f m4 (by decide)) rfl (by decide +kernel) mwX12_putsAside iwX12_putsAside vwX12_putsAside lk_12_468 (by omega) (by decide) rfl (by decide) rfl rfl (Nat.le_of_ble_eq_true rfl) (fun r5 m6 => ?_)
      refine Ev.run (pc' := 27) (ls' := [some (.ref 112), some (.int a1), some (.int a2), none]) (st' := [.int a2, .ref 112]) (m' := m6) [(.aload_n 0, 0, 0, 0, 0), (.iload_n 2, 0, 0, 0, 0)] (by decide +kernel) rfl ?_
      refine Ev.cV (av := [.int a2]) (st := []) (a := 112) (EX12_roundsGo (l := l) (Ln := Ln) (xs := xs) (d := 5) f a2 m6 (by decide)) rfl (by decide +kernel) mwX12_roundsGo iwX12_roundsGo vwX12_roundsGo lk_12_471 (by omega) (by decide) rfl (by decide) rfl rfl (Nat.le_of_ble_eq_true rfl) (fun r7 m8 => ?_)
      refine Ev.run (pc' := 32) (ls' := [some (.ref 112), some (.int a1), some (.int a2), none]) (st' := [.int a1, .ref 112]) (m' := m8) [(.aload_n 0, 0, 0, 0, 0), (.iload_n 1, 0, 0, 0, 0)] (by decide +kernel) rfl ?_
      refine Ev.cV (av := [.int a1]) (st := []) (a := 112) (EX12_moodOf (l := l) (Ln := Ln) (xs := xs) (d := 0) f a1 m8 (by decide)) rfl (by decide +kernel) mwX12_moodOf iwX12_moodOf vwX12_moodOf lk_12_397 (by omega) (by decide) rfl (by decide) rfl rfl (Nat.le_of_ble_eq_true rfl) (fun r9 m10 => ?_)
      refine Ev.run (pc' := 37) (ls' := [some (.ref 112), some (.int a1), some (.int a2), some (.int r9)]) (st' := [.ref 112]) (m' := m10) [(.istore_n 3, 0, 0, 0, 0), (.aload_n 0, 0, 0, 0, 0)] (by decide +kernel) rfl ?_
      refine Ev.cV (av := []) (st := []) (a := 112) (EX12_takesBack (l := l) (Ln := Ln) (xs := xs) (d := 1) f m10 (by decide)) rfl (by decide +kernel) mwX12_takesBack iwX12_takesBack vwX12_takesBack lk_12_474 (by omega) (by decide) rfl (by decide) rfl rfl (Nat.le_of_ble_eq_true rfl) (fun r11 m12 => ?_)
      refine Ev.run (pc' := 41) (ls' := [some (.ref 112), some (.int a1), some (.int a2), some (.int r9)]) (st' := [.int r9]) (m' := m12) [(.iload_n 3, 0, 0, 0, 0)] (by decide +kernel) rfl ?_
      exact Ev.ireti rfl rfl (by decide +kernel)
    · refine Ev.run (pc' := 20) (ls' := [some (.ref 112), some (.int a1), some (.int a2), none]) (st' := [.int (-1)]) (m' := m4) [(.iconst (-1), 0, 0, (-1), 0)] (by decide +kernel) rfl ?_
      exact Ev.ireti rfl rfl (by decide +kernel)
def FX12_doubts (f : Nat) (a1 : Int32) (m : ev_M) : Option (Int32 × ev_M) :=
  (ev_bd (FX12_doGoTo f a1 m) (fun r1 m2 => (if r1 = 0 then some ((-1), m2) else (ev_bd (FX12_doubtsNow f m2) (fun r3 m4 => some (r3, m4))))))
set_option maxRecDepth 100000 in
set_option maxHeartbeats 4000000 in
theorem EX12_doubts {l : Launch} {Ln : Nat} {xs : Nat → Int32} {d : Nat} (f : Nat) (a1 : Int32) (m : ev_M)  (hd : 7 ≤ d) : Mv ev_eI l Ln xs YX12_doubts d Sx [.ref 112, .int a1] m (FX12_doubts f a1 m) := by
  refine Mv.of (by decide +kernel) rfl (Nat.le_of_ble_eq_true rfl) (Ev.le (ls' := [some (.ref 112), some (.int a1)]) ⟨rfl, ⟨rfl, trivial⟩⟩ ?_)
  unfold FX12_doubts
  refine Ev.run (pc' := 2) (ls' := [some (.ref 112), some (.int a1)]) (st' := [.int a1, .ref 112]) (m' := m) [(.aload_n 0, 0, 0, 0, 0), (.iload_n 1, 0, 0, 0, 0)] (by decide +kernel) rfl ?_
  refine Ev.cV (av := [.int a1]) (st := []) (a := 112) (EX12_doGoTo (l := l) (Ln := Ln) (xs := xs) (d := 6) f a1 m (by decide)) rfl (by decide +kernel) mwX12_doGoTo iwX12_doGoTo vwX12_doGoTo lk_12_477 (by omega) (by decide) rfl (by decide) rfl rfl (Nat.le_of_ble_eq_true rfl) (fun r1 m2 => ?_)
  refine Ev.if_eq (t := 15) (by decide +kernel) ?_ ?_
  · refine Ev.run (pc' := 16) (ls' := [some (.ref 112), some (.int a1)]) (st' := [.int (-1)]) (m' := m2) [(.iconst (-1), 0, 0, (-1), 0)] (by decide +kernel) rfl ?_
    exact Ev.ireti rfl rfl (by decide +kernel)
  · refine Ev.run (pc' := 9) (ls' := [some (.ref 112), some (.int a1)]) (st' := [.ref 112]) (m' := m2) [(.aload_n 0, 0, 0, 0, 0)] (by decide +kernel) rfl ?_
    refine Ev.cV (av := []) (st := []) (a := 112) (EX12_doubtsNow (l := l) (Ln := Ln) (xs := xs) (d := 1) f m2 (by decide)) rfl (by decide +kernel) mwX12_doubtsNow iwX12_doubtsNow vwX12_doubtsNow lk_12_434 (by omega) (by decide) rfl (by decide) rfl rfl (Nat.le_of_ble_eq_true rfl) (fun r3 m4 => ?_)
    refine Ev.gto (t := 16) (by decide +kernel) ?_
    exact Ev.ireti rfl rfl (by decide +kernel)
def FX12_fire_J53 (f : Nat) (kt17 : Int32 → Int32 → ev_M → Option (Int32 × ev_M))  (a1 : Int32) (a2 : Int32)  (m : ev_M) : Option (Int32 × ev_M) :=
  (kt17 a1 (a2 + 1) m)
def FX12_fire_L17 (f : Nat) (k : Int32 → ev_M → Option (Int32 × ev_M))   : Nat → Int32 → Int32 → ev_M → Option (Int32 × ev_M)
  | 0, _, _, _ => none
  | n + 1, a1, a2, m => (if 60 < a2 then (k a1 m) else (if a1 = (-1) then (if 999 ≤ (m.1 144 0) then (k a1 m) else (ev_bd (FX12_roundGoes f m) (fun _ m4 => (if (m4.1 112 55) ≤ 0 then (FX12_fire_J53 f (FX12_fire_L17 f k n) a1 a2 m4) else (FX12_fire_J53 f (FX12_fire_L17 f k n) a2 a2 m4))))) else (k a1 m)))
def FX12_fire_J59 (f : Nat)   (a1 : Int32)  (m : ev_M) : Option (Int32 × ev_M) :=
  (ev_bd (FX12_takesBack f m) (fun _ m8 => some (a1, m8)))
def FX12_fire (f : Nat)  (m : ev_M) : Option (Int32 × ev_M) :=
  (if (m.1 112 45) = 0 then some ((-1), m) else (ev_bd (FX12_putsAside f m) (fun _ m2 => (FX12_fire_L17 f (fun e5 m6 => (FX12_fire_J59 f e5 m6)) f (-1 : Int32) (0 : Int32) m2))))
set_option maxRecDepth 100000 in
set_option maxHeartbeats 4000000 in
theorem EX12_fire_J53 {l : Launch} {Ln : Nat} {xs : Nat → Int32} {d : Nat} (f : Nat) (kt17 : Int32 → Int32 → ev_M → Option (Int32 × ev_M))  (a1 : Int32) (a2 : Int32)  (m : ev_M)  (hkt17 : ∀ (e1 : Int32) (e2 : Int32) (em : ev_M), Ev ev_eI l Ln xs YX12_fire d Sx 17 [some (.ref 112), some (.int e1), some (.int e2)] [] em (kt17 e1 e2 em)) (hd : 5 ≤ d) : Ev ev_eI l Ln xs YX12_fire d Sx 53 [some (.ref 112), some (.int a1), some (.int a2)] [] m (FX12_fire_J53 f kt17 a1 a2 m) := by
  unfold FX12_fire_J53
  refine Ev.run (pc' := 56) (ls' := [some (.ref 112), some (.int a1), some (.int (a2 + 1))]) (st' := []) (m' := m) [(.iinc 2 1, 0, 0, 1, 0)] (by decide +kernel) rfl ?_
  refine Ev.gto (t := 17) (by decide +kernel) ?_
  exact hkt17 _ _ _
set_option maxRecDepth 100000 in
set_option maxHeartbeats 4000000 in
theorem EX12_fire_L17 {l : Launch} {Ln : Nat} {xs : Nat → Int32} {d : Nat} (f : Nat) (k : Int32 → ev_M → Option (Int32 × ev_M))     (hk : ∀ (e1 : Int32) (em : ev_M), Ev ev_eI l Ln xs YX12_fire d Sx 59 [some (.ref 112), some (.int e1), none] [] em (k e1 em)) (hd : 5 ≤ d) : ∀ (n : Nat) (a1 : Int32) (a2 : Int32) (m : ev_M), Ev ev_eI l Ln xs YX12_fire d Sx 17 [some (.ref 112), some (.int a1), some (.int a2)] [] m (FX12_fire_L17 f k n a1 a2 m) := by
  intro n
  induction n with
  | zero => intros; exact Ev.nn
  | succ n ih =>
    intro a1 a2 m
    rw [FX12_fire_L17]
    refine Ev.run (pc' := 20) (ls' := [some (.ref 112), some (.int a1), some (.int a2)]) (st' := [.int 60, .int a2]) (m' := m) [(.iload_n 2, 0, 0, 0, 0), (.bipush 60, 0, 0, 60, 0)] (by decide +kernel) rfl ?_
    refine Ev.ic_gt (t := 59) (by decide +kernel) ?_ ?_
    · refine Ev.le (ls' := [some (.ref 112), some (.int a1), none]) ⟨rfl, ⟨rfl, trivial⟩⟩ ?_
      exact hk _ _
    · refine Ev.run (pc' := 25) (ls' := [some (.ref 112), some (.int a1), some (.int a2)]) (st' := [.int (-1), .int a1]) (m' := m) [(.iload_n 1, 0, 0, 0, 0), (.iconst (-1), 0, 0, (-1), 0)] (by decide +kernel) rfl ?_
      refine Ev.ic_ne (t := 59) (by decide +kernel) ?_ ?_
      · refine Ev.le (ls' := [some (.ref 112), some (.int a1), none]) ⟨rfl, ⟨rfl, trivial⟩⟩ ?_
        exact hk _ _
      · refine Ev.run (pc' := 33) (ls' := [some (.ref 112), some (.int a1), some (.int a2)]) (st' := [.int 0, .ref 144]) (m' := m) [(.aload_n 0, 0, 0, 0, 0), (.getfield 109, 12, 47, 0, 0), (.iconst 0, 0, 0, 0, 0)] (by decide +kernel) rfl ?_
        refine Ev.ialdK (n := 147) (j := 0) (by decide +kernel) (by decide) rfl rfl (by decide) ?_
        refine Ev.run (pc' := 37) (ls' := [some (.ref 112), some (.int a1), some (.int a2)]) (st' := [.int 999, .int (m.1 144 0)]) (m' := m) [(.sipush 999, 0, 0, 999, 0)] (by decide +kernel) rfl ?_
        refine Ev.ic_ge (t := 59) (by decide +kernel) ?_ ?_
        · refine Ev.le (ls' := [some (.ref 112), some (.int a1), none]) ⟨rfl, ⟨rfl, trivial⟩⟩ ?_
          exact hk _ _
        · refine Ev.run (pc' := 41) (ls' := [some (.ref 112), some (.int a1), some (.int a2)]) (st' := [.ref 112]) (m' := m) [(.aload_n 0, 0, 0, 0, 0)] (by decide +kernel) rfl ?_
          refine Ev.cV (av := []) (st := []) (a := 112) (EX12_roundGoes (l := l) (Ln := Ln) (xs := xs) (d := 4) f m (by decide)) rfl (by decide +kernel) mwX12_roundGoes iwX12_roundGoes vwX12_roundGoes lk_12_446 (by omega) (by decide) rfl (by decide) rfl rfl (Nat.le_of_ble_eq_true rfl) (fun r3 m4 => ?_)
          refine Ev.run (pc' := 48) (ls' := [some (.ref 112), some (.int a1), some (.int a2)]) (st' := [.int (m4.1 112 55)]) (m' := m4) [(.aload_n 0, 0, 0, 0, 0), (.getfield 440, 12, 55, 0, 0)] (by decide +kernel) rfl ?_
          refine Ev.if_le (t := 53) (by decide +kernel) ?_ ?_
          · exact EX12_fire_J53 f (FX12_fire_L17 f k n) a1 a2 m4 ih (by omega)
          · refine Ev.run (pc' := 53) (ls' := [some (.ref 112), some (.int a2), some (.int a2)]) (st' := []) (m' := m4) [(.iload_n 2, 0, 0, 0, 0), (.istore_n 1, 0, 0, 0, 0)] (by decide +kernel) rfl ?_
            exact EX12_fire_J53 f (FX12_fire_L17 f k n) a2 a2 m4 ih (by omega)
set_option maxRecDepth 100000 in
set_option maxHeartbeats 4000000 in
theorem EX12_fire_J59 {l : Launch} {Ln : Nat} {xs : Nat → Int32} {d : Nat} (f : Nat)   (a1 : Int32)  (m : ev_M)   (hd : 5 ≤ d) : Ev ev_eI l Ln xs YX12_fire d Sx 59 [some (.ref 112), some (.int a1), none] [] m (FX12_fire_J59 f a1 m) := by
  unfold FX12_fire_J59
  refine Ev.run (pc' := 60) (ls' := [some (.ref 112), some (.int a1), none]) (st' := [.ref 112]) (m' := m) [(.aload_n 0, 0, 0, 0, 0)] (by decide +kernel) rfl ?_
  refine Ev.cV (av := []) (st := []) (a := 112) (EX12_takesBack (l := l) (Ln := Ln) (xs := xs) (d := 1) f m (by decide)) rfl (by decide +kernel) mwX12_takesBack iwX12_takesBack vwX12_takesBack lk_12_474 (by omega) (by decide) rfl (by decide) rfl rfl (Nat.le_of_ble_eq_true rfl) (fun r7 m8 => ?_)
  refine Ev.run (pc' := 64) (ls' := [some (.ref 112), some (.int a1), none]) (st' := [.int a1]) (m' := m8) [(.iload_n 1, 0, 0, 0, 0)] (by decide +kernel) rfl ?_
  exact Ev.ireti rfl rfl (by decide +kernel)
set_option maxRecDepth 100000 in
set_option maxHeartbeats 4000000 in
theorem EX12_fire {l : Launch} {Ln : Nat} {xs : Nat → Int32} {d : Nat} (f : Nat)  (m : ev_M)  (hd : 5 ≤ d) : Mv ev_eI l Ln xs YX12_fire d Sx [.ref 112] m (FX12_fire f  m) := by
  refine Mv.of (by decide +kernel) rfl (Nat.le_of_ble_eq_true rfl) (Ev.le (ls' := [some (.ref 112), none, none]) ⟨rfl, trivial⟩ ?_)
  unfold FX12_fire
  refine Ev.run (pc' := 4) (ls' := [some (.ref 112), none, none]) (st' := [.int (m.1 112 45)]) (m' := m) [(.aload_n 0, 0, 0, 0, 0), (.getfield 356, 12, 45, 0, 0)] (by decide +kernel) rfl ?_
  refine Ev.if_ne (t := 9) (by decide +kernel) ?_ ?_
  · refine Ev.run (pc' := 12) (ls' := [some (.ref 112), some (.int (-1)), none]) (st' := [.ref 112]) (m' := m) [(.iconst (-1), 0, 0, (-1), 0), (.istore_n 1, 0, 0, 0, 0), (.aload_n 0, 0, 0, 0, 0)] (by decide +kernel) rfl ?_
    refine Ev.cV (av := []) (st := []) (a := 112) (EX12_putsAside (l := l) (Ln := Ln) (xs := xs) (d := 0) f m (by decide)) rfl (by decide +kernel) mwX12_putsAside iwX12_putsAside vwX12_putsAside lk_12_468 (by omega) (by decide) rfl (by decide) rfl rfl (Nat.le_of_ble_eq_true rfl) (fun r1 m2 => ?_)
    refine Ev.run (pc' := 17) (ls' := [some (.ref 112), some (.int (-1)), some (.int 0)]) (st' := []) (m' := m2) [(.iconst 0, 0, 0, 0, 0), (.istore_n 2, 0, 0, 0, 0)] (by decide +kernel) rfl ?_
    refine EX12_fire_L17 f _ ?_ (by omega) _ _ _ _
    intro e5 m6
    exact EX12_fire_J59 f e5 m6 (by omega)
  · refine Ev.run (pc' := 8) (ls' := [some (.ref 112), none, none]) (st' := [.int (-1)]) (m' := m) [(.iconst (-1), 0, 0, (-1), 0)] (by decide +kernel) rfl ?_
    exact Ev.ireti rfl rfl (by decide +kernel)
def FX12_settles_J101 (f : Nat) (kt72 : Int32 → Int32 → Int32 → ev_M → Option (Int32 × ev_M))  (a2 : Int32) (a3 : Int32) (a5 : Int32)  (m : ev_M) : Option (Int32 × ev_M) :=
  (kt72 a2 a3 (a5 + 1) m)
def FX12_settles_L72 (f : Nat) (k : Int32 → Int32 → ev_M → Option (Int32 × ev_M))  (a4 : Int32) : Nat → Int32 → Int32 → Int32 → ev_M → Option (Int32 × ev_M)
  | 0, _, _, _, _ => none
  | n + 1, a2, a3, a5, m => (if a4 ≤ a5 then (k a2 a3 m) else (if a2 = (-1) then (ev_bd (FX12_isAs f a5 a4 m) (fun r11 m12 => (if r11 = 0 then (FX12_settles_J101 f (FX12_settles_L72 f k a4 n) a2 a3 a5 m12) else (FX12_settles_J101 f (FX12_settles_L72 f k a4 n) a4 a5 a5 m12)))) else (k a2 a3 m)))
def FX12_settles_J107 (f : Nat) (kt35 : Int32 → Int32 → Int32 → ev_M → Option (Int32 × ev_M))  (a2 : Int32) (a3 : Int32) (a4 : Int32)  (m : ev_M) : Option (Int32 × ev_M) :=
  (kt35 a2 a3 (a4 + 1) m)
def FX12_settles_L35 (f : Nat) (k : Int32 → Int32 → ev_M → Option (Int32 × ev_M))   : Nat → Int32 → Int32 → Int32 → ev_M → Option (Int32 × ev_M)
  | 0, _, _, _, _ => none
  | n + 1, a2, a3, a4, m => (if 60 < a4 then (k a2 a3 m) else (if a2 = (-1) then (if 999 ≤ (m.1 144 0) then (k a2 a3 m) else (ev_bd (FX12_roundGoes f m) (fun _ m8 => (ev_bd (FX12_isWritten f a4 m8) (fun _ m10 => (FX12_settles_L72 f (fun e13 e14 m15 => (FX12_settles_J107 f (FX12_settles_L35 f k n) e13 e14 a4 m15)) a4 f a2 a3 (0 : Int32) m10)))))) else (k a2 a3 m)))
def FX12_settles_J113 (f : Nat)   (a1 : Int32) (a2 : Int32) (a3 : Int32)  (m : ev_M) : Option (Int32 × ev_M) :=
  (ev_bd (FX12_takesBack f m) (fun _ m20 => (if a2 = (-1) then some ((-1), m20) else (if a1 = 0 then some (a2, m20) else some ((a2 - a3), m20)))))
def FX12_settles (f : Nat) (a1 : Int32) (m : ev_M) : Option (Int32 × ev_M) :=
  (if (m.1 112 45) = 0 then some ((-1), m) else (ev_bd (FX12_isIn f (a1 : Int32).toInt64 (0 : Int64) (1 : Int64) m) (fun r1 m2 => (if r1 = 0 then some ((-1), m2) else (ev_bd (FX12_putsAside f m2) (fun _ m4 => (ev_bd (FX12_isWritten f (0 : Int32) m4) (fun _ m6 => (FX12_settles_L35 f (fun e16 e17 m18 => (FX12_settles_J113 f a1 e16 e17 m18)) f (-1 : Int32) (-1 : Int32) (1 : Int32) m6)))))))))
set_option maxRecDepth 100000 in
set_option maxHeartbeats 4000000 in
theorem EX12_settles_J101 {l : Launch} {Ln : Nat} {xs : Nat → Int32} {d : Nat} (f : Nat) (kt72 : Int32 → Int32 → Int32 → ev_M → Option (Int32 × ev_M))  (a1 : Int32) (a2 : Int32) (a3 : Int32) (a4 : Int32) (a5 : Int32)  (m : ev_M)  (hkt72 : ∀ (e2 : Int32) (e3 : Int32) (e5 : Int32) (em : ev_M), Ev ev_eI l Ln xs YX12_settles d Sx 72 [some (.ref 112), some (.int a1), some (.int e2), some (.int e3), some (.int a4), some (.int e5)] [] em (kt72 e2 e3 e5 em)) (hd : 5 ≤ d) : Ev ev_eI l Ln xs YX12_settles d Sx 101 [some (.ref 112), some (.int a1), some (.int a2), some (.int a3), some (.int a4), some (.int a5)] [] m (FX12_settles_J101 f kt72 a2 a3 a5 m) := by
  unfold FX12_settles_J101
  refine Ev.run (pc' := 104) (ls' := [some (.ref 112), some (.int a1), some (.int a2), some (.int a3), some (.int a4), some (.int (a5 + 1))]) (st' := []) (m' := m) [(.iinc 5 1, 0, 0, 1, 0)] (by decide +kernel) rfl ?_
  refine Ev.gto (t := 72) (by decide +kernel) ?_
  exact hkt72 _ _ _ _
set_option maxRecDepth 100000 in
set_option maxHeartbeats 4000000 in
theorem EX12_settles_L72 {l : Launch} {Ln : Nat} {xs : Nat → Int32} {d : Nat} (f : Nat) (k : Int32 → Int32 → ev_M → Option (Int32 × ev_M))  (a1 : Int32) (a4 : Int32)   (hk : ∀ (e2 : Int32) (e3 : Int32) (em : ev_M), Ev ev_eI l Ln xs YX12_settles d Sx 107 [some (.ref 112), some (.int a1), some (.int e2), some (.int e3), some (.int a4), none] [] em (k e2 e3 em)) (hd : 5 ≤ d) : ∀ (n : Nat) (a2 : Int32) (a3 : Int32) (a5 : Int32) (m : ev_M), Ev ev_eI l Ln xs YX12_settles d Sx 72 [some (.ref 112), some (.int a1), some (.int a2), some (.int a3), some (.int a4), some (.int a5)] [] m (FX12_settles_L72 f k a4 n a2 a3 a5 m) := by
  intro n
  induction n with
  | zero => intros; exact Ev.nn
  | succ n ih =>
    intro a2 a3 a5 m
    rw [FX12_settles_L72]
    refine Ev.run (pc' := 76) (ls' := [some (.ref 112), some (.int a1), some (.int a2), some (.int a3), some (.int a4), some (.int a5)]) (st' := [.int a4, .int a5]) (m' := m) [(.iload 5, 0, 0, 0, 0), (.iload 4, 0, 0, 0, 0)] (by decide +kernel) rfl ?_
    refine Ev.ic_ge (t := 107) (by decide +kernel) ?_ ?_
    · refine Ev.le (ls' := [some (.ref 112), some (.int a1), some (.int a2), some (.int a3), some (.int a4), none]) ⟨rfl, ⟨rfl, ⟨rfl, ⟨rfl, ⟨rfl, trivial⟩⟩⟩⟩⟩ ?_
      exact hk _ _ _
    · refine Ev.run (pc' := 81) (ls' := [some (.ref 112), some (.int a1), some (.int a2), some (.int a3), some (.int a4), some (.int a5)]) (st' := [.int (-1), .int a2]) (m' := m) [(.iload_n 2, 0, 0, 0, 0), (.iconst (-1), 0, 0, (-1), 0)] (by decide +kernel) rfl ?_
      refine Ev.ic_ne (t := 107) (by decide +kernel) ?_ ?_
      · refine Ev.le (ls' := [some (.ref 112), some (.int a1), some (.int a2), some (.int a3), some (.int a4), none]) ⟨rfl, ⟨rfl, ⟨rfl, ⟨rfl, ⟨rfl, trivial⟩⟩⟩⟩⟩ ?_
        exact hk _ _ _
      · refine Ev.run (pc' := 89) (ls' := [some (.ref 112), some (.int a1), some (.int a2), some (.int a3), some (.int a4), some (.int a5)]) (st' := [.int a4, .int a5, .ref 112]) (m' := m) [(.aload_n 0, 0, 0, 0, 0), (.iload 5, 0, 0, 0, 0), (.iload 4, 0, 0, 0, 0)] (by decide +kernel) rfl ?_
        refine Ev.cV (av := [.int a5, .int a4]) (st := []) (a := 112) (EX12_isAs (l := l) (Ln := Ln) (xs := xs) (d := 1) f a5 a4 m (by decide)) rfl (by decide +kernel) mwX12_isAs iwX12_isAs vwX12_isAs lk_12_483 (by omega) (by decide) rfl (by decide) rfl rfl (Nat.le_of_ble_eq_true rfl) (fun r11 m12 => ?_)
        refine Ev.if_eq (t := 101) (by decide +kernel) ?_ ?_
        · exact EX12_settles_J101 f (FX12_settles_L72 f k a4 n) a1 a2 a3 a4 a5 m12 ih (by omega)
        · refine Ev.run (pc' := 101) (ls' := [some (.ref 112), some (.int a1), some (.int a4), some (.int a5), some (.int a4), some (.int a5)]) (st' := []) (m' := m12) [(.iload 4, 0, 0, 0, 0), (.istore_n 2, 0, 0, 0, 0), (.iload 5, 0, 0, 0, 0), (.istore_n 3, 0, 0, 0, 0)] (by decide +kernel) rfl ?_
          exact EX12_settles_J101 f (FX12_settles_L72 f k a4 n) a1 a4 a5 a4 a5 m12 ih (by omega)
set_option maxRecDepth 100000 in
set_option maxHeartbeats 4000000 in
theorem EX12_settles_J107 {l : Launch} {Ln : Nat} {xs : Nat → Int32} {d : Nat} (f : Nat) (kt35 : Int32 → Int32 → Int32 → ev_M → Option (Int32 × ev_M))  (a1 : Int32) (a2 : Int32) (a3 : Int32) (a4 : Int32)  (m : ev_M)  (hkt35 : ∀ (e2 : Int32) (e3 : Int32) (e4 : Int32) (em : ev_M), Ev ev_eI l Ln xs YX12_settles d Sx 35 [some (.ref 112), some (.int a1), some (.int e2), some (.int e3), some (.int e4), none] [] em (kt35 e2 e3 e4 em)) (hd : 5 ≤ d) : Ev ev_eI l Ln xs YX12_settles d Sx 107 [some (.ref 112), some (.int a1), some (.int a2), some (.int a3), some (.int a4), none] [] m (FX12_settles_J107 f kt35 a2 a3 a4 m) := by
  unfold FX12_settles_J107
  refine Ev.run (pc' := 110) (ls' := [some (.ref 112), some (.int a1), some (.int a2), some (.int a3), some (.int (a4 + 1)), none]) (st' := []) (m' := m) [(.iinc 4 1, 0, 0, 1, 0)] (by decide +kernel) rfl ?_
  refine Ev.gto (t := 35) (by decide +kernel) ?_
  exact hkt35 _ _ _ _
set_option maxRecDepth 100000 in
set_option maxHeartbeats 4000000 in
theorem EX12_settles_L35 {l : Launch} {Ln : Nat} {xs : Nat → Int32} {d : Nat} (f : Nat) (k : Int32 → Int32 → ev_M → Option (Int32 × ev_M))  (a1 : Int32)   (hk : ∀ (e2 : Int32) (e3 : Int32) (em : ev_M), Ev ev_eI l Ln xs YX12_settles d Sx 113 [some (.ref 112), some (.int a1), some (.int e2), some (.int e3), none, none] [] em (k e2 e3 em)) (hd : 5 ≤ d) : ∀ (n : Nat) (a2 : Int32) (a3 : Int32) (a4 : Int32) (m : ev_M), Ev ev_eI l Ln xs YX12_settles d Sx 35 [some (.ref 112), some (.int a1), some (.int a2), some (.int a3), some (.int a4), none] [] m (FX12_settles_L35 f k n a2 a3 a4 m) := by
  intro n
  induction n with
  | zero => intros; exact Ev.nn
  | succ n ih =>
    intro a2 a3 a4 m
    rw [FX12_settles_L35]
    refine Ev.run (pc' := 39) (ls' := [some (.ref 112), some (.int a1), some (.int a2), some (.int a3), some (.int a4), none]) (st' := [.int 60, .int a4]) (m' := m) [(.iload 4, 0, 0, 0, 0), (.bipush 60, 0, 0, 60, 0)] (by decide +kernel) rfl ?_
    refine Ev.ic_gt (t := 113) (by decide +kernel) ?_ ?_
    · refine Ev.le (ls' := [some (.ref 112), some (.int a1), some (.int a2), some (.int a3), none, none]) ⟨rfl, ⟨rfl, ⟨rfl, ⟨rfl, trivial⟩⟩⟩⟩ ?_
      exact hk _ _ _
    · refine Ev.run (pc' := 44) (ls' := [some (.ref 112), some (.int a1), some (.int a2), some (.int a3), some (.int a4), none]) (st' := [.int (-1), .int a2]) (m' := m) [(.iload_n 2, 0, 0, 0, 0), (.iconst (-1), 0, 0, (-1), 0)] (by decide +kernel) rfl ?_
      refine Ev.ic_ne (t := 113) (by decide +kernel) ?_ ?_
      · refine Ev.le (ls' := [some (.ref 112), some (.int a1), some (.int a2), some (.int a3), none, none]) ⟨rfl, ⟨rfl, ⟨rfl, ⟨rfl, trivial⟩⟩⟩⟩ ?_
        exact hk _ _ _
      · refine Ev.run (pc' := 52) (ls' := [some (.ref 112), some (.int a1), some (.int a2), some (.int a3), some (.int a4), none]) (st' := [.int 0, .ref 144]) (m' := m) [(.aload_n 0, 0, 0, 0, 0), (.getfield 109, 12, 47, 0, 0), (.iconst 0, 0, 0, 0, 0)] (by decide +kernel) rfl ?_
        refine Ev.ialdK (n := 147) (j := 0) (by decide +kernel) (by decide) rfl rfl (by decide) ?_
        refine Ev.run (pc' := 56) (ls' := [some (.ref 112), some (.int a1), some (.int a2), some (.int a3), some (.int a4), none]) (st' := [.int 999, .int (m.1 144 0)]) (m' := m) [(.sipush 999, 0, 0, 999, 0)] (by decide +kernel) rfl ?_
        refine Ev.ic_ge (t := 113) (by decide +kernel) ?_ ?_
        · refine Ev.le (ls' := [some (.ref 112), some (.int a1), some (.int a2), some (.int a3), none, none]) ⟨rfl, ⟨rfl, ⟨rfl, ⟨rfl, trivial⟩⟩⟩⟩ ?_
          exact hk _ _ _
        · refine Ev.run (pc' := 60) (ls' := [some (.ref 112), some (.int a1), some (.int a2), some (.int a3), some (.int a4), none]) (st' := [.ref 112]) (m' := m) [(.aload_n 0, 0, 0, 0, 0)] (by decide +kernel) rfl ?_
          refine Ev.cV (av := []) (st := []) (a := 112) (EX12_roundGoes (l := l) (Ln := Ln) (xs := xs) (d := 4) f m (by decide)) rfl (by decide +kernel) mwX12_roundGoes iwX12_roundGoes vwX12_roundGoes lk_12_446 (by omega) (by decide) rfl (by decide) rfl rfl (Nat.le_of_ble_eq_true rfl) (fun r7 m8 => ?_)
          refine Ev.run (pc' := 66) (ls' := [some (.ref 112), some (.int a1), some (.int a2), some (.int a3), some (.int a4), none]) (st' := [.int a4, .ref 112]) (m' := m8) [(.aload_n 0, 0, 0, 0, 0), (.iload 4, 0, 0, 0, 0)] (by decide +kernel) rfl ?_
          refine Ev.cV (av := [.int a4]) (st := []) (a := 112) (EX12_isWritten (l := l) (Ln := Ln) (xs := xs) (d := 1) f a4 m8 (by decide)) rfl (by decide +kernel) mwX12_isWritten iwX12_isWritten vwX12_isWritten lk_12_480 (by omega) (by decide) rfl (by decide) rfl rfl (Nat.le_of_ble_eq_true rfl) (fun r9 m10 => ?_)
          refine Ev.run (pc' := 72) (ls' := [some (.ref 112), some (.int a1), some (.int a2), some (.int a3), some (.int a4), some (.int 0)]) (st' := []) (m' := m10) [(.iconst 0, 0, 0, 0, 0), (.istore 5, 0, 0, 0, 0)] (by decide +kernel) rfl ?_
          refine EX12_settles_L72 f _ a1 a4 ?_ (by omega) _ _ _ _ _
          intro e13 e14 m15
          exact EX12_settles_J107 f (FX12_settles_L35 f k n) a1 e13 e14 a4 m15 ih (by omega)
set_option maxRecDepth 100000 in
set_option maxHeartbeats 4000000 in
theorem EX12_settles_J113 {l : Launch} {Ln : Nat} {xs : Nat → Int32} {d : Nat} (f : Nat)   (a1 : Int32) (a2 : Int32) (a3 : Int32)  (m : ev_M)   (hd : 5 ≤ d) : Ev ev_eI l Ln xs YX12_settles d Sx 113 [some (.ref 112), some (.int a1), some (.int a2), some (.int a3), none, none] [] m (FX12_settles_J113 f a1 a2 a3 m) := by
  unfold FX12_settles_J113
  refine Ev.run (pc' := 114) (ls' := [some (.ref 112), some (.int a1), some (.int a2), some (.int a3), none, none]) (st' := [.ref 112]) (m' := m) [(.aload_n 0, 0, 0, 0, 0)] (by decide +kernel) rfl ?_
  refine Ev.cV (av := []) (st := []) (a := 112) (EX12_takesBack (l := l) (Ln := Ln) (xs := xs) (d := 1) f m (by decide)) rfl (by decide +kernel) mwX12_takesBack iwX12_takesBack vwX12_takesBack lk_12_474 (by omega) (by decide) rfl (by decide) rfl rfl (Nat.le_of_ble_eq_true rfl) (fun r19 m20 => ?_)
  refine Ev.run (pc' := 119) (ls' := [some (.ref 112), some (.int a1), some (.int a2), some (.int a3), none, none]) (st' := [.int (-1), .int a2]) (m' := m20) [(.iload_n 2, 0, 0, 0, 0), (.iconst (-1), 0, 0, (-1), 0)] (by decide +kernel) rfl ?_
  refine Ev.ic_ne (t := 126) (by decide +kernel) ?_ ?_
  · refine Ev.run (pc' := 127) (ls' := [some (.ref 112), some (.int a1), some (.int a2), some (.int a3), none, none]) (st' := [.int a1]) (m' := m20) [(.iload_n 1, 0, 0, 0, 0)] (by decide +kernel) rfl ?_
    refine Ev.if_ne (t := 134) (by decide +kernel) ?_ ?_
    · refine Ev.run (pc' := 137) (ls' := [some (.ref 112), some (.int a1), some (.int a2), some (.int a3), none, none]) (st' := [.int (a2 - a3)]) (m' := m20) [(.iload_n 2, 0, 0, 0, 0), (.iload_n 3, 0, 0, 0, 0), (.isub, 0, 0, 0, 0)] (by decide +kernel) rfl ?_
      exact Ev.ireti rfl rfl (by decide +kernel)
    · refine Ev.run (pc' := 131) (ls' := [some (.ref 112), some (.int a1), some (.int a2), some (.int a3), none, none]) (st' := [.int a2]) (m' := m20) [(.iload_n 2, 0, 0, 0, 0)] (by decide +kernel) rfl ?_
      refine Ev.gto (t := 137) (by decide +kernel) ?_
      exact Ev.ireti rfl rfl (by decide +kernel)
  · refine Ev.run (pc' := 123) (ls' := [some (.ref 112), some (.int a1), some (.int a2), some (.int a3), none, none]) (st' := [.int (-1)]) (m' := m20) [(.iconst (-1), 0, 0, (-1), 0)] (by decide +kernel) rfl ?_
    refine Ev.gto (t := 137) (by decide +kernel) ?_
    exact Ev.ireti rfl rfl (by decide +kernel)
set_option maxRecDepth 100000 in
set_option maxHeartbeats 4000000 in
theorem EX12_settles {l : Launch} {Ln : Nat} {xs : Nat → Int32} {d : Nat} (f : Nat) (a1 : Int32) (m : ev_M)  (hd : 5 ≤ d) : Mv ev_eI l Ln xs YX12_settles d Sx [.ref 112, .int a1] m (FX12_settles f a1 m) := by
  refine Mv.of (by decide +kernel) rfl (Nat.le_of_ble_eq_true rfl) (Ev.le (ls' := [some (.ref 112), some (.int a1), none, none, none, none]) ⟨rfl, ⟨rfl, trivial⟩⟩ ?_)
  unfold FX12_settles
  refine Ev.run (pc' := 4) (ls' := [some (.ref 112), some (.int a1), none, none, none, none]) (st' := [.int (m.1 112 45)]) (m' := m) [(.aload_n 0, 0, 0, 0, 0), (.getfield 356, 12, 45, 0, 0)] (by decide +kernel) rfl ?_
  refine Ev.if_eq (t := 17) (by decide +kernel) ?_ ?_
  · refine Ev.run (pc' := 18) (ls' := [some (.ref 112), some (.int a1), none, none, none, none]) (st' := [.int (-1)]) (m' := m) [(.iconst (-1), 0, 0, (-1), 0)] (by decide +kernel) rfl ?_
    exact Ev.ireti rfl rfl (by decide +kernel)
  · refine Ev.run (pc' := 11) (ls' := [some (.ref 112), some (.int a1), none, none, none, none]) (st' := [.long 1, .long 0, .long (a1 : Int32).toInt64]) (m' := m) [(.iload_n 1, 0, 0, 0, 0), (.i2l, 0, 0, 0, 0), (.lconst 0, 0, 0, 0, 0), (.lconst 1, 0, 0, 0, 1)] (by decide +kernel) rfl ?_
    refine Ev.cS (av := [.long (a1 : Int32).toInt64, .long 0, .long 1]) (st := []) (EX12_isIn (l := l) (Ln := Ln) (xs := xs) (d := 0) f (a1 : Int32).toInt64 (0 : Int64) (1 : Int64) m (by decide)) rfl (by decide +kernel) mwX12_isIn swX12_isIn lk_12_268 (by omega) rfl (Nat.le_of_ble_eq_true rfl) (fun r1 m2 => ?_)
    refine Ev.if_ne (t := 19) (by decide +kernel) ?_ ?_
    · refine Ev.run (pc' := 24) (ls' := [some (.ref 112), some (.int a1), some (.int (-1)), some (.int (-1)), none, none]) (st' := [.ref 112]) (m' := m2) [(.iconst (-1), 0, 0, (-1), 0), (.istore_n 2, 0, 0, 0, 0), (.iconst (-1), 0, 0, (-1), 0), (.istore_n 3, 0, 0, 0, 0), (.aload_n 0, 0, 0, 0, 0)] (by decide +kernel) rfl ?_
      refine Ev.cV (av := []) (st := []) (a := 112) (EX12_putsAside (l := l) (Ln := Ln) (xs := xs) (d := 0) f m2 (by decide)) rfl (by decide +kernel) mwX12_putsAside iwX12_putsAside vwX12_putsAside lk_12_468 (by omega) (by decide) rfl (by decide) rfl rfl (Nat.le_of_ble_eq_true rfl) (fun r3 m4 => ?_)
      refine Ev.run (pc' := 29) (ls' := [some (.ref 112), some (.int a1), some (.int (-1)), some (.int (-1)), none, none]) (st' := [.int 0, .ref 112]) (m' := m4) [(.aload_n 0, 0, 0, 0, 0), (.iconst 0, 0, 0, 0, 0)] (by decide +kernel) rfl ?_
      refine Ev.cV (av := [.int 0]) (st := []) (a := 112) (EX12_isWritten (l := l) (Ln := Ln) (xs := xs) (d := 1) f (0 : Int32) m4 (by decide)) rfl (by decide +kernel) mwX12_isWritten iwX12_isWritten vwX12_isWritten lk_12_480 (by omega) (by decide) rfl (by decide) rfl rfl (Nat.le_of_ble_eq_true rfl) (fun r5 m6 => ?_)
      refine Ev.run (pc' := 35) (ls' := [some (.ref 112), some (.int a1), some (.int (-1)), some (.int (-1)), some (.int 1), none]) (st' := []) (m' := m6) [(.iconst 1, 0, 0, 1, 0), (.istore 4, 0, 0, 0, 0)] (by decide +kernel) rfl ?_
      refine EX12_settles_L35 f _ a1 ?_ (by omega) _ _ _ _ _
      intro e16 e17 m18
      exact EX12_settles_J113 f a1 e16 e17 m18 (by omega)
    · refine Ev.run (pc' := 18) (ls' := [some (.ref 112), some (.int a1), none, none, none, none]) (st' := [.int (-1)]) (m' := m2) [(.iconst (-1), 0, 0, (-1), 0)] (by decide +kernel) rfl ?_
      exact Ev.ireti rfl rfl (by decide +kernel)
def FX12_isCheered_J33 (f : Nat) (kt2 : Int32 → ev_M → Option (Int32 × ev_M))  (a3 : Int32)  (m : ev_M) : Option (Int32 × ev_M) :=
  (kt2 (a3 + 1) m)
def FX12_isCheered_L2 (f : Nat) (k : ev_M → Option (Int32 × ev_M))  (a1 : Int32) : Nat → Int32 → ev_M → Option (Int32 × ev_M)
  | 0, _, _ => none
  | n + 1, a3, m => (ev_bd (FX12_towerMany f m) (fun r1 m2 => (if r1 ≤ a3 then (k m2) else (if ((a1 >>> (a3 &&& 31)) &&& 1) = 1 then (if ev_in ((2 + (3 * a3)) + 1) 147 then (FX12_isCheered_J33 f (FX12_isCheered_L2 f k a1 n) a3 ((ev_up m2.1 144 ((2 + (3 * a3)) + 1).toNatClampNeg 9), m2.2)) else none) else (FX12_isCheered_J33 f (FX12_isCheered_L2 f k a1 n) a3 m2)))))
def FX12_isCheered_J56 (f : Nat)    (s0 : Int32) (m : ev_M) : Option (Int32 × ev_M) :=
  (ev_bd (FX12_triesAnew f m) (fun _ m7 => (if s0 = 0 ∨ s0 = 1 then some (s0, m7) else none)))
def FX12_isCheered (f : Nat) (a1 : Int32) (a2 : Int32) (m : ev_M) : Option (Int32 × ev_M) :=
  (FX12_isCheered_L2 f (fun m3 => (ev_bd (FX12_roundsGo f a2 m3) (fun _ m5 => (if (m5.1 112 55) = 0 then (FX12_isCheered_J56 f (1 : Int32) m5) else (FX12_isCheered_J56 f (0 : Int32) m5))))) a1 f (0 : Int32) m)
set_option maxRecDepth 100000 in
set_option maxHeartbeats 4000000 in
theorem EX12_isCheered_J33 {l : Launch} {Ln : Nat} {xs : Nat → Int32} {d : Nat} (f : Nat) (kt2 : Int32 → ev_M → Option (Int32 × ev_M))  (a1 : Int32) (a2 : Int32) (a3 : Int32)  (m : ev_M)  (hkt2 : ∀ (e3 : Int32) (em : ev_M), Ev ev_eI l Ln xs YX12_isCheered d Sx 2 [some (.ref 112), some (.int a1), some (.int a2), some (.int e3)] [] em (kt2 e3 em)) (hd : 6 ≤ d) : Ev ev_eI l Ln xs YX12_isCheered d Sx 33 [some (.ref 112), some (.int a1), some (.int a2), some (.int a3)] [] m (FX12_isCheered_J33 f kt2 a3 m) := by
  unfold FX12_isCheered_J33
  refine Ev.run (pc' := 36) (ls' := [some (.ref 112), some (.int a1), some (.int a2), some (.int (a3 + 1))]) (st' := []) (m' := m) [(.iinc 3 1, 0, 0, 1, 0)] (by decide +kernel) rfl ?_
  refine Ev.gto (t := 2) (by decide +kernel) ?_
  exact hkt2 _ _
set_option maxRecDepth 100000 in
set_option maxHeartbeats 4000000 in
theorem EX12_isCheered_L2 {l : Launch} {Ln : Nat} {xs : Nat → Int32} {d : Nat} (f : Nat) (k : ev_M → Option (Int32 × ev_M))  (a1 : Int32) (a2 : Int32)   (hk : ∀  (em : ev_M), Ev ev_eI l Ln xs YX12_isCheered d Sx 39 [some (.ref 112), none, some (.int a2), none] [] em (k em)) (hd : 6 ≤ d) : ∀ (n : Nat) (a3 : Int32) (m : ev_M), Ev ev_eI l Ln xs YX12_isCheered d Sx 2 [some (.ref 112), some (.int a1), some (.int a2), some (.int a3)] [] m (FX12_isCheered_L2 f k a1 n a3 m) := by
  intro n
  induction n with
  | zero => intros; exact Ev.nn
  | succ n ih =>
    intro a3 m
    rw [FX12_isCheered_L2]
    refine Ev.run (pc' := 4) (ls' := [some (.ref 112), some (.int a1), some (.int a2), some (.int a3)]) (st' := [.ref 112, .int a3]) (m' := m) [(.iload_n 3, 0, 0, 0, 0), (.aload_n 0, 0, 0, 0, 0)] (by decide +kernel) rfl ?_
    refine Ev.cV (av := []) (st := [.int a3]) (a := 112) (EX12_towerMany (l := l) (Ln := Ln) (xs := xs) (d := 0) f m (by decide)) rfl (by decide +kernel) mwX12_towerMany iwX12_towerMany vwX12_towerMany lk_12_369 (by omega) (by decide) rfl (by decide) rfl rfl (Nat.le_of_ble_eq_true rfl) (fun r1 m2 => ?_)
    refine Ev.ic_ge (t := 39) (by decide +kernel) ?_ ?_
    · refine Ev.le (ls' := [some (.ref 112), none, some (.int a2), none]) ⟨rfl, ⟨rfl, trivial⟩⟩ ?_
      exact hk _
    · refine Ev.run (pc' := 16) (ls' := [some (.ref 112), some (.int a1), some (.int a2), some (.int a3)]) (st' := [.int 1, .int ((a1 >>> (a3 &&& 31)) &&& 1)]) (m' := m2) [(.iload_n 1, 0, 0, 0, 0), (.iload_n 3, 0, 0, 0, 0), (.ishr, 0, 0, 0, 0), (.iconst 1, 0, 0, 1, 0), (.iand, 0, 0, 0, 0), (.iconst 1, 0, 0, 1, 0)] (by decide +kernel) rfl ?_
      refine Ev.ic_ne (t := 33) (by decide +kernel) ?_ ?_
      · exact EX12_isCheered_J33 f (FX12_isCheered_L2 f k a1 n) a1 a2 a3 m2 ih (by omega)
      · refine Ev.run (pc' := 32) (ls' := [some (.ref 112), some (.int a1), some (.int a2), some (.int a3)]) (st' := [.int 9, .int ((2 + (3 * a3)) + 1), .ref 144]) (m' := m2) [(.aload_n 0, 0, 0, 0, 0), (.getfield 109, 12, 47, 0, 0), (.iconst 2, 0, 0, 2, 0), (.iconst 3, 0, 0, 3, 0), (.iload_n 3, 0, 0, 0, 0), (.imul, 0, 0, 0, 0), (.iadd, 0, 0, 0, 0), (.iconst 1, 0, 0, 1, 0), (.iadd, 0, 0, 0, 0), (.bipush 9, 0, 0, 9, 0)] (by decide +kernel) rfl ?_
        refine Ev.iast (n := 147) (by decide +kernel) (by decide) rfl ?_
        exact EX12_isCheered_J33 f (FX12_isCheered_L2 f k a1 n) a1 a2 a3 ((ev_up m2.1 144 ((2 + (3 * a3)) + 1).toNatClampNeg 9), m2.2) ih (by omega)
set_option maxRecDepth 100000 in
set_option maxHeartbeats 4000000 in
theorem EX12_isCheered_J56 {l : Launch} {Ln : Nat} {xs : Nat → Int32} {d : Nat} (f : Nat)    (s0 : Int32) (m : ev_M)   (hd : 6 ≤ d) : Ev ev_eI l Ln xs YX12_isCheered d Sx 56 [some (.ref 112), none, none, none] [.int s0] m (FX12_isCheered_J56 f s0 m) := by
  unfold FX12_isCheered_J56
  refine Ev.run (pc' := 58) (ls' := [some (.ref 112), none, none, some (.int s0)]) (st' := [.ref 112]) (m' := m) [(.istore_n 3, 0, 0, 0, 0), (.aload_n 0, 0, 0, 0, 0)] (by decide +kernel) rfl ?_
  refine Ev.cV (av := []) (st := []) (a := 112) (EX12_triesAnew (l := l) (Ln := Ln) (xs := xs) (d := 0) f m (by decide)) rfl (by decide +kernel) mwX12_triesAnew iwX12_triesAnew vwX12_triesAnew lk_12_449 (by omega) (by decide) rfl (by decide) rfl rfl (Nat.le_of_ble_eq_true rfl) (fun r6 m7 => ?_)
  refine Ev.run (pc' := 62) (ls' := [some (.ref 112), none, none, some (.int s0)]) (st' := [.int s0]) (m' := m7) [(.iload_n 3, 0, 0, 0, 0)] (by decide +kernel) rfl ?_
  exact Ev.iretb rfl rfl (by decide +kernel)
set_option maxRecDepth 100000 in
set_option maxHeartbeats 4000000 in
theorem EX12_isCheered {l : Launch} {Ln : Nat} {xs : Nat → Int32} {d : Nat} (f : Nat) (a1 : Int32) (a2 : Int32) (m : ev_M)  (hd : 6 ≤ d) : Mv ev_eI l Ln xs YX12_isCheered d Sx [.ref 112, .int a1, .int a2] m (FX12_isCheered f a1 a2 m) := by
  refine Mv.of (by decide +kernel) rfl (Nat.le_of_ble_eq_true rfl) (Ev.le (ls' := [some (.ref 112), some (.int a1), some (.int a2), none]) ⟨rfl, ⟨rfl, ⟨rfl, trivial⟩⟩⟩ ?_)
  unfold FX12_isCheered
  refine Ev.run (pc' := 2) (ls' := [some (.ref 112), some (.int a1), some (.int a2), some (.int 0)]) (st' := []) (m' := m) [(.iconst 0, 0, 0, 0, 0), (.istore_n 3, 0, 0, 0, 0)] (by decide +kernel) rfl ?_
  refine EX12_isCheered_L2 f _ a1 a2 ?_ (by omega) _ _ _
  intro m3
  refine Ev.run (pc' := 41) (ls' := [some (.ref 112), none, some (.int a2), none]) (st' := [.int a2, .ref 112]) (m' := m3) [(.aload_n 0, 0, 0, 0, 0), (.iload_n 2, 0, 0, 0, 0)] (by decide +kernel) rfl ?_
  refine Ev.cV (av := [.int a2]) (st := []) (a := 112) (EX12_roundsGo (l := l) (Ln := Ln) (xs := xs) (d := 5) f a2 m3 (by decide)) rfl (by decide +kernel) mwX12_roundsGo iwX12_roundsGo vwX12_roundsGo lk_12_471 (by omega) (by decide) rfl (by decide) rfl rfl (Nat.le_of_ble_eq_true rfl) (fun r4 m5 => ?_)
  refine Ev.run (pc' := 48) (ls' := [some (.ref 112), none, some (.int a2), none]) (st' := [.int (m5.1 112 55)]) (m' := m5) [(.aload_n 0, 0, 0, 0, 0), (.getfield 440, 12, 55, 0, 0)] (by decide +kernel) rfl ?_
  refine Ev.if_ne (t := 55) (by decide +kernel) ?_ ?_
  · refine Ev.run (pc' := 56) (ls' := [some (.ref 112), none, some (.int a2), none]) (st' := [.int 0]) (m' := m5) [(.iconst 0, 0, 0, 0, 0)] (by decide +kernel) rfl ?_
    refine Ev.le (ls' := [some (.ref 112), none, none, none]) ⟨rfl, trivial⟩ ?_
    exact EX12_isCheered_J56 f (0 : Int32) m5 (by omega)
  · refine Ev.run (pc' := 52) (ls' := [some (.ref 112), none, some (.int a2), none]) (st' := [.int 1]) (m' := m5) [(.iconst 1, 0, 0, 1, 0)] (by decide +kernel) rfl ?_
    refine Ev.gto (t := 56) (by decide +kernel) ?_
    refine Ev.le (ls' := [some (.ref 112), none, none, none]) ⟨rfl, trivial⟩ ?_
    exact EX12_isCheered_J56 f (1 : Int32) m5 (by omega)
def FX12_isSighed_J22 (f : Nat)    (s0 : Int32) (m : ev_M) : Option (Int32 × ev_M) :=
  (ev_bd (FX12_triesAnew f m) (fun _ m4 => (if s0 = 0 ∨ s0 = 1 then some (s0, m4) else none)))
def FX12_isSighed (f : Nat) (a1 : Int32) (a2 : Int32) (m : ev_M) : Option (Int32 × ev_M) :=
  (ev_bd (FX12_roundsGo f a2 ((ev_up m.1 112 53 a1), m.2)) (fun _ m2 => (if (m2.1 112 55) ≤ 0 then (FX12_isSighed_J22 f (0 : Int32) m2) else (FX12_isSighed_J22 f (1 : Int32) m2))))
set_option maxRecDepth 100000 in
set_option maxHeartbeats 4000000 in
theorem EX12_isSighed_J22 {l : Launch} {Ln : Nat} {xs : Nat → Int32} {d : Nat} (f : Nat)    (s0 : Int32) (m : ev_M)   (hd : 6 ≤ d) : Ev ev_eI l Ln xs YX12_isSighed d Sx 22 [some (.ref 112), none, none, none] [.int s0] m (FX12_isSighed_J22 f s0 m) := by
  unfold FX12_isSighed_J22
  refine Ev.run (pc' := 24) (ls' := [some (.ref 112), none, none, some (.int s0)]) (st' := [.ref 112]) (m' := m) [(.istore_n 3, 0, 0, 0, 0), (.aload_n 0, 0, 0, 0, 0)] (by decide +kernel) rfl ?_
  refine Ev.cV (av := []) (st := []) (a := 112) (EX12_triesAnew (l := l) (Ln := Ln) (xs := xs) (d := 0) f m (by decide)) rfl (by decide +kernel) mwX12_triesAnew iwX12_triesAnew vwX12_triesAnew lk_12_449 (by omega) (by decide) rfl (by decide) rfl rfl (Nat.le_of_ble_eq_true rfl) (fun r3 m4 => ?_)
  refine Ev.run (pc' := 28) (ls' := [some (.ref 112), none, none, some (.int s0)]) (st' := [.int s0]) (m' := m4) [(.iload_n 3, 0, 0, 0, 0)] (by decide +kernel) rfl ?_
  exact Ev.iretb rfl rfl (by decide +kernel)
set_option maxRecDepth 100000 in
set_option maxHeartbeats 4000000 in
theorem EX12_isSighed {l : Launch} {Ln : Nat} {xs : Nat → Int32} {d : Nat} (f : Nat) (a1 : Int32) (a2 : Int32) (m : ev_M)  (hd : 6 ≤ d) : Mv ev_eI l Ln xs YX12_isSighed d Sx [.ref 112, .int a1, .int a2] m (FX12_isSighed f a1 a2 m) := by
  refine Mv.of (by decide +kernel) rfl (Nat.le_of_ble_eq_true rfl) (Ev.le (ls' := [some (.ref 112), some (.int a1), some (.int a2), none]) ⟨rfl, ⟨rfl, ⟨rfl, trivial⟩⟩⟩ ?_)
  unfold FX12_isSighed
  refine Ev.run (pc' := 7) (ls' := [some (.ref 112), some (.int a1), some (.int a2), none]) (st' := [.int a2, .ref 112]) (m' := ((ev_up m.1 112 53 a1), m.2)) [(.aload_n 0, 0, 0, 0, 0), (.iload_n 1, 0, 0, 0, 0), (.putfield 419, 12, 53, 0, 0), (.aload_n 0, 0, 0, 0, 0), (.iload_n 2, 0, 0, 0, 0)] (by decide +kernel) rfl ?_
  refine Ev.cV (av := [.int a2]) (st := []) (a := 112) (EX12_roundsGo (l := l) (Ln := Ln) (xs := xs) (d := 5) f a2 ((ev_up m.1 112 53 a1), m.2) (by decide)) rfl (by decide +kernel) mwX12_roundsGo iwX12_roundsGo vwX12_roundsGo lk_12_471 (by omega) (by decide) rfl (by decide) rfl rfl (Nat.le_of_ble_eq_true rfl) (fun r1 m2 => ?_)
  refine Ev.run (pc' := 14) (ls' := [some (.ref 112), some (.int a1), some (.int a2), none]) (st' := [.int (m2.1 112 55)]) (m' := m2) [(.aload_n 0, 0, 0, 0, 0), (.getfield 440, 12, 55, 0, 0)] (by decide +kernel) rfl ?_
  refine Ev.if_le (t := 21) (by decide +kernel) ?_ ?_
  · refine Ev.run (pc' := 22) (ls' := [some (.ref 112), some (.int a1), some (.int a2), none]) (st' := [.int 0]) (m' := m2) [(.iconst 0, 0, 0, 0, 0)] (by decide +kernel) rfl ?_
    refine Ev.le (ls' := [some (.ref 112), none, none, none]) ⟨rfl, trivial⟩ ?_
    exact EX12_isSighed_J22 f (0 : Int32) m2 (by omega)
  · refine Ev.run (pc' := 18) (ls' := [some (.ref 112), some (.int a1), some (.int a2), none]) (st' := [.int 1]) (m' := m2) [(.iconst 1, 0, 0, 1, 0)] (by decide +kernel) rfl ?_
    refine Ev.gto (t := 22) (by decide +kernel) ?_
    refine Ev.le (ls' := [some (.ref 112), none, none, none]) ⟨rfl, trivial⟩ ?_
    exact EX12_isSighed_J22 f (1 : Int32) m2 (by omega)
def FX12_fewest_J79 (f : Nat) (kt9 : Int32 → Int32 → ev_M → Option (Int32 × ev_M))  (a3 : Int32) (a4 : Int32)  (m : ev_M) : Option (Int32 × ev_M) :=
  (kt9 a3 (a4 + 1) m)
def FX12_fewest_J76 (f : Nat) (kt9 : Int32 → Int32 → ev_M → Option (Int32 × ev_M))  (a4 : Int32)  (m : ev_M) : Option (Int32 × ev_M) :=
  (FX12_fewest_J79 f kt9 a4 a4 m)
def FX12_fewest_J49 (f : Nat) (kt9 : Int32 → Int32 → ev_M → Option (Int32 × ev_M))  (a1 : Int32) (a2 : Int32) (a3 : Int32) (a4 : Int32)  (m : ev_M) : Option (Int32 × ev_M) :=
  (if a1 = 0 then (ev_bd (FX12_isSighed f a4 a2 m) (fun r7 m8 => (if r7 = 0 then (FX12_fewest_J79 f kt9 a3 a4 m8) else (FX12_fewest_J76 f kt9 a4 m8)))) else (ev_bd (FX12_isCheered f a4 a2 m) (fun r9 m10 => (if r9 = 0 then (FX12_fewest_J79 f kt9 a3 a4 m10) else (FX12_fewest_J76 f kt9 a4 m10)))))
def FX12_fewest_L9 (f : Nat) (k : Int32 → ev_M → Option (Int32 × ev_M))  (a1 : Int32) (a2 : Int32) : Nat → Int32 → Int32 → ev_M → Option (Int32 × ev_M)
  | 0, _, _, _ => none
  | n + 1, a3, a4, m => (ev_bd (FX12_towerMany f m) (fun r3 m4 => (if (1 <<< (r3 &&& 31)) ≤ a4 then (k a3 m4) else (ev_bd (FX12_bits f a4 m4) (fun r5 m6 => (if 3 < r5 then (FX12_fewest_J79 f (FX12_fewest_L9 f k a1 a2 n) a3 a4 m6) else (if a3 = (-1) then (FX12_fewest_J49 f (FX12_fewest_L9 f k a1 a2 n) a1 a2 a3 a4 m6) else (ev_bd (FX12_bits f a4 m6) (fun r11 m12 => (ev_bd (FX12_bits f a3 m12) (fun r13 m14 => (if r11 < r13 then (FX12_fewest_J49 f (FX12_fewest_L9 f k a1 a2 n) a1 a2 a3 a4 m14) else (FX12_fewest_J79 f (FX12_fewest_L9 f k a1 a2 n) a3 a4 m14)))))))))))))
def FX12_fewest (f : Nat) (a1 : Int32) (a2 : Int32) (m : ev_M) : Option (Int32 × ev_M) :=
  (ev_bd (FX12_putsAside f m) (fun _ m2 => (FX12_fewest_L9 f (fun e15 m16 => (ev_bd (FX12_takesBack f m16) (fun _ m18 => some (e15, m18)))) a1 a2 f (-1 : Int32) (0 : Int32) m2)))
set_option maxRecDepth 100000 in
set_option maxHeartbeats 4000000 in
theorem EX12_fewest_J79 {l : Launch} {Ln : Nat} {xs : Nat → Int32} {d : Nat} (f : Nat) (kt9 : Int32 → Int32 → ev_M → Option (Int32 × ev_M))  (a1 : Int32) (a2 : Int32) (a3 : Int32) (a4 : Int32)  (m : ev_M)  (hkt9 : ∀ (e3 : Int32) (e4 : Int32) (em : ev_M), Ev ev_eI l Ln xs YX12_fewest d Sx 9 [some (.ref 112), some (.int a1), some (.int a2), some (.int e3), some (.int e4)] [] em (kt9 e3 e4 em)) (hd : 7 ≤ d) : Ev ev_eI l Ln xs YX12_fewest d Sx 79 [some (.ref 112), some (.int a1), some (.int a2), some (.int a3), some (.int a4)] [] m (FX12_fewest_J79 f kt9 a3 a4 m) := by
  unfold FX12_fewest_J79
  refine Ev.run (pc' := 82) (ls' := [some (.ref 112), some (.int a1), some (.int a2), some (.int a3), some (.int (a4 + 1))]) (st' := []) (m' := m) [(.iinc 4 1, 0, 0, 1, 0)] (by decide +kernel) rfl ?_
  refine Ev.gto (t := 9) (by decide +kernel) ?_
  exact hkt9 _ _ _
set_option maxRecDepth 100000 in
set_option maxHeartbeats 4000000 in
theorem EX12_fewest_J76 {l : Launch} {Ln : Nat} {xs : Nat → Int32} {d : Nat} (f : Nat) (kt9 : Int32 → Int32 → ev_M → Option (Int32 × ev_M))  (a1 : Int32) (a2 : Int32) (a4 : Int32)  (m : ev_M)  (hkt9 : ∀ (e3 : Int32) (e4 : Int32) (em : ev_M), Ev ev_eI l Ln xs YX12_fewest d Sx 9 [some (.ref 112), some (.int a1), some (.int a2), some (.int e3), some (.int e4)] [] em (kt9 e3 e4 em)) (hd : 7 ≤ d) : Ev ev_eI l Ln xs YX12_fewest d Sx 76 [some (.ref 112), some (.int a1), some (.int a2), none, some (.int a4)] [] m (FX12_fewest_J76 f kt9 a4 m) := by
  unfold FX12_fewest_J76
  refine Ev.run (pc' := 79) (ls' := [some (.ref 112), some (.int a1), some (.int a2), some (.int a4), some (.int a4)]) (st' := []) (m' := m) [(.iload 4, 0, 0, 0, 0), (.istore_n 3, 0, 0, 0, 0)] (by decide +kernel) rfl ?_
  exact EX12_fewest_J79 f kt9 a1 a2 a4 a4 m hkt9 (by omega)
set_option maxRecDepth 100000 in
set_option maxHeartbeats 4000000 in
theorem EX12_fewest_J49 {l : Launch} {Ln : Nat} {xs : Nat → Int32} {d : Nat} (f : Nat) (kt9 : Int32 → Int32 → ev_M → Option (Int32 × ev_M))  (a1 : Int32) (a2 : Int32) (a3 : Int32) (a4 : Int32)  (m : ev_M)  (hkt9 : ∀ (e3 : Int32) (e4 : Int32) (em : ev_M), Ev ev_eI l Ln xs YX12_fewest d Sx 9 [some (.ref 112), some (.int a1), some (.int a2), some (.int e3), some (.int e4)] [] em (kt9 e3 e4 em)) (hd : 7 ≤ d) : Ev ev_eI l Ln xs YX12_fewest d Sx 49 [some (.ref 112), some (.int a1), some (.int a2), some (.int a3), some (.int a4)] [] m (FX12_fewest_J49 f kt9 a1 a2 a3 a4 m) := by
  unfold FX12_fewest_J49
  refine Ev.run (pc' := 50) (ls' := [some (.ref 112), some (.int a1), some (.int a2), some (.int a3), some (.int a4)]) (st' := [.int a1]) (m' := m) [(.iload_n 1, 0, 0, 0, 0)] (by decide +kernel) rfl ?_
  refine Ev.if_eq (t := 66) (by decide +kernel) ?_ ?_
  · refine Ev.run (pc' := 70) (ls' := [some (.ref 112), some (.int a1), some (.int a2), some (.int a3), some (.int a4)]) (st' := [.int a2, .int a4, .ref 112]) (m' := m) [(.aload_n 0, 0, 0, 0, 0), (.iload 4, 0, 0, 0, 0), (.iload_n 2, 0, 0, 0, 0)] (by decide +kernel) rfl ?_
    refine Ev.cV (av := [.int a4, .int a2]) (st := []) (a := 112) (EX12_isSighed (l := l) (Ln := Ln) (xs := xs) (d := 6) f a4 a2 m (by decide)) rfl (by decide +kernel) mwX12_isSighed iwX12_isSighed vwX12_isSighed lk_12_493 (by omega) (by decide) rfl (by decide) rfl rfl (Nat.le_of_ble_eq_true rfl) (fun r7 m8 => ?_)
    refine Ev.if_eq (t := 79) (by decide +kernel) ?_ ?_
    · exact EX12_fewest_J79 f kt9 a1 a2 a3 a4 m8 hkt9 (by omega)
    · refine Ev.le (ls' := [some (.ref 112), some (.int a1), some (.int a2), none, some (.int a4)]) ⟨rfl, ⟨rfl, ⟨rfl, ⟨rfl, trivial⟩⟩⟩⟩ ?_
      exact EX12_fewest_J76 f kt9 a1 a2 a4 m8 hkt9 (by omega)
  · refine Ev.run (pc' := 57) (ls' := [some (.ref 112), some (.int a1), some (.int a2), some (.int a3), some (.int a4)]) (st' := [.int a2, .int a4, .ref 112]) (m' := m) [(.aload_n 0, 0, 0, 0, 0), (.iload 4, 0, 0, 0, 0), (.iload_n 2, 0, 0, 0, 0)] (by decide +kernel) rfl ?_
    refine Ev.cV (av := [.int a4, .int a2]) (st := []) (a := 112) (EX12_isCheered (l := l) (Ln := Ln) (xs := xs) (d := 6) f a4 a2 m (by decide)) rfl (by decide +kernel) mwX12_isCheered iwX12_isCheered vwX12_isCheered lk_12_490 (by omega) (by decide) rfl (by decide) rfl rfl (Nat.le_of_ble_eq_true rfl) (fun r9 m10 => ?_)
    refine Ev.if_eq (t := 79) (by decide +kernel) ?_ ?_
    · exact EX12_fewest_J79 f kt9 a1 a2 a3 a4 m10 hkt9 (by omega)
    · refine Ev.gto (t := 76) (by decide +kernel) ?_
      refine Ev.le (ls' := [some (.ref 112), some (.int a1), some (.int a2), none, some (.int a4)]) ⟨rfl, ⟨rfl, ⟨rfl, ⟨rfl, trivial⟩⟩⟩⟩ ?_
      exact EX12_fewest_J76 f kt9 a1 a2 a4 m10 hkt9 (by omega)
set_option maxRecDepth 100000 in
set_option maxHeartbeats 4000000 in
theorem EX12_fewest_L9 {l : Launch} {Ln : Nat} {xs : Nat → Int32} {d : Nat} (f : Nat) (k : Int32 → ev_M → Option (Int32 × ev_M))  (a1 : Int32) (a2 : Int32)   (hk : ∀ (e3 : Int32) (em : ev_M), Ev ev_eI l Ln xs YX12_fewest d Sx 85 [some (.ref 112), none, none, some (.int e3), none] [] em (k e3 em)) (hd : 7 ≤ d) : ∀ (n : Nat) (a3 : Int32) (a4 : Int32) (m : ev_M), Ev ev_eI l Ln xs YX12_fewest d Sx 9 [some (.ref 112), some (.int a1), some (.int a2), some (.int a3), some (.int a4)] [] m (FX12_fewest_L9 f k a1 a2 n a3 a4 m) := by
  intro n
  induction n with
  | zero => intros; exact Ev.nn
  | succ n ih =>
    intro a3 a4 m
    rw [FX12_fewest_L9]
    refine Ev.run (pc' := 13) (ls' := [some (.ref 112), some (.int a1), some (.int a2), some (.int a3), some (.int a4)]) (st' := [.ref 112, .int 1, .int a4]) (m' := m) [(.iload 4, 0, 0, 0, 0), (.iconst 1, 0, 0, 1, 0), (.aload_n 0, 0, 0, 0, 0)] (by decide +kernel) rfl ?_
    refine Ev.cV (av := []) (st := [.int 1, .int a4]) (a := 112) (EX12_towerMany (l := l) (Ln := Ln) (xs := xs) (d := 0) f m (by decide)) rfl (by decide +kernel) mwX12_towerMany iwX12_towerMany vwX12_towerMany lk_12_369 (by omega) (by decide) rfl (by decide) rfl rfl (Nat.le_of_ble_eq_true rfl) (fun r3 m4 => ?_)
    refine Ev.run (pc' := 17) (ls' := [some (.ref 112), some (.int a1), some (.int a2), some (.int a3), some (.int a4)]) (st' := [.int (1 <<< (r3 &&& 31)), .int a4]) (m' := m4) [(.ishl, 0, 0, 0, 0)] (by decide +kernel) rfl ?_
    refine Ev.ic_ge (t := 85) (by decide +kernel) ?_ ?_
    · refine Ev.le (ls' := [some (.ref 112), none, none, some (.int a3), none]) ⟨rfl, ⟨rfl, trivial⟩⟩ ?_
      exact hk _ _
    · refine Ev.run (pc' := 22) (ls' := [some (.ref 112), some (.int a1), some (.int a2), some (.int a3), some (.int a4)]) (st' := [.int a4]) (m' := m4) [(.iload 4, 0, 0, 0, 0)] (by decide +kernel) rfl ?_
      refine Ev.cS (av := [.int a4]) (st := []) (EX12_bits (l := l) (Ln := Ln) (xs := xs) (d := 0) f a4 m4 (by decide)) rfl (by decide +kernel) mwX12_bits swX12_bits lk_12_487 (by omega) rfl (Nat.le_of_ble_eq_true rfl) (fun r5 m6 => ?_)
      refine Ev.run (pc' := 26) (ls' := [some (.ref 112), some (.int a1), some (.int a2), some (.int a3), some (.int a4)]) (st' := [.int 3, .int r5]) (m' := m6) [(.iconst 3, 0, 0, 3, 0)] (by decide +kernel) rfl ?_
      refine Ev.ic_gt (t := 79) (by decide +kernel) ?_ ?_
      · exact EX12_fewest_J79 f (FX12_fewest_L9 f k a1 a2 n) a1 a2 a3 a4 m6 ih (by omega)
      · refine Ev.run (pc' := 31) (ls' := [some (.ref 112), some (.int a1), some (.int a2), some (.int a3), some (.int a4)]) (st' := [.int (-1), .int a3]) (m' := m6) [(.iload_n 3, 0, 0, 0, 0), (.iconst (-1), 0, 0, (-1), 0)] (by decide +kernel) rfl ?_
        refine Ev.ic_eq (t := 49) (by decide +kernel) ?_ ?_
        · exact EX12_fewest_J49 f (FX12_fewest_L9 f k a1 a2 n) a1 a2 a3 a4 m6 ih (by omega)
        · refine Ev.run (pc' := 36) (ls' := [some (.ref 112), some (.int a1), some (.int a2), some (.int a3), some (.int a4)]) (st' := [.int a4]) (m' := m6) [(.iload 4, 0, 0, 0, 0)] (by decide +kernel) rfl ?_
          refine Ev.cS (av := [.int a4]) (st := []) (EX12_bits (l := l) (Ln := Ln) (xs := xs) (d := 0) f a4 m6 (by decide)) rfl (by decide +kernel) mwX12_bits swX12_bits lk_12_487 (by omega) rfl (Nat.le_of_ble_eq_true rfl) (fun r11 m12 => ?_)
          refine Ev.run (pc' := 40) (ls' := [some (.ref 112), some (.int a1), some (.int a2), some (.int a3), some (.int a4)]) (st' := [.int a3, .int r11]) (m' := m12) [(.iload_n 3, 0, 0, 0, 0)] (by decide +kernel) rfl ?_
          refine Ev.cS (av := [.int a3]) (st := [.int r11]) (EX12_bits (l := l) (Ln := Ln) (xs := xs) (d := 0) f a3 m12 (by decide)) rfl (by decide +kernel) mwX12_bits swX12_bits lk_12_487 (by omega) rfl (Nat.le_of_ble_eq_true rfl) (fun r13 m14 => ?_)
          refine Ev.ic_lt (t := 49) (by decide +kernel) ?_ ?_
          · exact EX12_fewest_J49 f (FX12_fewest_L9 f k a1 a2 n) a1 a2 a3 a4 m14 ih (by omega)
          · refine Ev.gto (t := 79) (by decide +kernel) ?_
            exact EX12_fewest_J79 f (FX12_fewest_L9 f k a1 a2 n) a1 a2 a3 a4 m14 ih (by omega)
set_option maxRecDepth 100000 in
set_option maxHeartbeats 4000000 in
theorem EX12_fewest {l : Launch} {Ln : Nat} {xs : Nat → Int32} {d : Nat} (f : Nat) (a1 : Int32) (a2 : Int32) (m : ev_M)  (hd : 7 ≤ d) : Mv ev_eI l Ln xs YX12_fewest d Sx [.ref 112, .int a1, .int a2] m (FX12_fewest f a1 a2 m) := by
  refine Mv.of (by decide +kernel) rfl (Nat.le_of_ble_eq_true rfl) (Ev.le (ls' := [some (.ref 112), some (.int a1), some (.int a2), none, none]) ⟨rfl, ⟨rfl, ⟨rfl, trivial⟩⟩⟩ ?_)
  unfold FX12_fewest
  refine Ev.run (pc' := 3) (ls' := [some (.ref 112), some (.int a1), some (.int a2), some (.int (-1)), none]) (st' := [.ref 112]) (m' := m) [(.iconst (-1), 0, 0, (-1), 0), (.istore_n 3, 0, 0, 0, 0), (.aload_n 0, 0, 0, 0, 0)] (by decide +kernel) rfl ?_
  refine Ev.cV (av := []) (st := []) (a := 112) (EX12_putsAside (l := l) (Ln := Ln) (xs := xs) (d := 0) f m (by decide)) rfl (by decide +kernel) mwX12_putsAside iwX12_putsAside vwX12_putsAside lk_12_468 (by omega) (by decide) rfl (by decide) rfl rfl (Nat.le_of_ble_eq_true rfl) (fun r1 m2 => ?_)
  refine Ev.run (pc' := 9) (ls' := [some (.ref 112), some (.int a1), some (.int a2), some (.int (-1)), some (.int 0)]) (st' := []) (m' := m2) [(.iconst 0, 0, 0, 0, 0), (.istore 4, 0, 0, 0, 0)] (by decide +kernel) rfl ?_
  refine EX12_fewest_L9 f _ a1 a2 ?_ (by omega) _ _ _ _
  intro e15 m16
  refine Ev.run (pc' := 86) (ls' := [some (.ref 112), none, none, some (.int e15), none]) (st' := [.ref 112]) (m' := m16) [(.aload_n 0, 0, 0, 0, 0)] (by decide +kernel) rfl ?_
  refine Ev.cV (av := []) (st := []) (a := 112) (EX12_takesBack (l := l) (Ln := Ln) (xs := xs) (d := 1) f m16 (by decide)) rfl (by decide +kernel) mwX12_takesBack iwX12_takesBack vwX12_takesBack lk_12_474 (by omega) (by decide) rfl (by decide) rfl rfl (Nat.le_of_ble_eq_true rfl) (fun r17 m18 => ?_)
  refine Ev.run (pc' := 90) (ls' := [some (.ref 112), none, none, some (.int e15), none]) (st' := [.int e15]) (m' := m18) [(.iload_n 3, 0, 0, 0, 0)] (by decide +kernel) rfl ?_
  exact Ev.ireti rfl rfl (by decide +kernel)
def FX12_cheered (f : Nat) (a1 : Int32) (m : ev_M) : Option (Int32 × ev_M) :=
  (ev_bd (FX12_isAhead f a1 (1 : Int32) (30 : Int32) m) (fun r1 m2 => (if r1 = 0 then some ((-1), m2) else (ev_bd (FX12_fewest f (1 : Int32) a1 m2) (fun r3 m4 => some (r3, m4))))))
set_option maxRecDepth 100000 in
set_option maxHeartbeats 4000000 in
theorem EX12_cheered {l : Launch} {Ln : Nat} {xs : Nat → Int32} {d : Nat} (f : Nat) (a1 : Int32) (m : ev_M)  (hd : 8 ≤ d) : Mv ev_eI l Ln xs YX12_cheered d Sx [.ref 112, .int a1] m (FX12_cheered f a1 m) := by
  refine Mv.of (by decide +kernel) rfl (Nat.le_of_ble_eq_true rfl) (Ev.le (ls' := [some (.ref 112), some (.int a1)]) ⟨rfl, ⟨rfl, trivial⟩⟩ ?_)
  unfold FX12_cheered
  refine Ev.run (pc' := 5) (ls' := [some (.ref 112), some (.int a1)]) (st' := [.int 30, .int 1, .int a1, .ref 112]) (m' := m) [(.aload_n 0, 0, 0, 0, 0), (.iload_n 1, 0, 0, 0, 0), (.iconst 1, 0, 0, 1, 0), (.bipush 30, 0, 0, 30, 0)] (by decide +kernel) rfl ?_
  refine Ev.cV (av := [.int a1, .int 1, .int 30]) (st := []) (a := 112) (EX12_isAhead (l := l) (Ln := Ln) (xs := xs) (d := 1) f a1 (1 : Int32) (30 : Int32) m (by decide)) rfl (by decide +kernel) mwX12_isAhead iwX12_isAhead vwX12_isAhead lk_12_464 (by omega) (by decide) rfl (by decide) rfl rfl (Nat.le_of_ble_eq_true rfl) (fun r1 m2 => ?_)
  refine Ev.if_eq (t := 20) (by decide +kernel) ?_ ?_
  · refine Ev.run (pc' := 21) (ls' := [some (.ref 112), some (.int a1)]) (st' := [.int (-1)]) (m' := m2) [(.iconst (-1), 0, 0, (-1), 0)] (by decide +kernel) rfl ?_
    exact Ev.ireti rfl rfl (by decide +kernel)
  · refine Ev.run (pc' := 14) (ls' := [some (.ref 112), some (.int a1)]) (st' := [.int a1, .int 1, .ref 112]) (m' := m2) [(.aload_n 0, 0, 0, 0, 0), (.iconst 1, 0, 0, 1, 0), (.iload_n 1, 0, 0, 0, 0)] (by decide +kernel) rfl ?_
    refine Ev.cV (av := [.int 1, .int a1]) (st := []) (a := 112) (EX12_fewest (l := l) (Ln := Ln) (xs := xs) (d := 7) f (1 : Int32) a1 m2 (by decide)) rfl (by decide +kernel) mwX12_fewest iwX12_fewest vwX12_fewest lk_12_496 (by omega) (by decide) rfl (by decide) rfl rfl (Nat.le_of_ble_eq_true rfl) (fun r3 m4 => ?_)
    refine Ev.gto (t := 21) (by decide +kernel) ?_
    exact Ev.ireti rfl rfl (by decide +kernel)
def FX12_sighs (f : Nat) (a1 : Int32) (m : ev_M) : Option (Int32 × ev_M) :=
  (ev_bd (FX12_isAhead f a1 (1 : Int32) (30 : Int32) m) (fun r1 m2 => (if r1 = 0 then some ((-1), m2) else (ev_bd (FX12_fewest f (0 : Int32) a1 m2) (fun r3 m4 => some (r3, m4))))))
set_option maxRecDepth 100000 in
set_option maxHeartbeats 4000000 in
theorem EX12_sighs {l : Launch} {Ln : Nat} {xs : Nat → Int32} {d : Nat} (f : Nat) (a1 : Int32) (m : ev_M)  (hd : 8 ≤ d) : Mv ev_eI l Ln xs YX12_sighs d Sx [.ref 112, .int a1] m (FX12_sighs f a1 m) := by
  refine Mv.of (by decide +kernel) rfl (Nat.le_of_ble_eq_true rfl) (Ev.le (ls' := [some (.ref 112), some (.int a1)]) ⟨rfl, ⟨rfl, trivial⟩⟩ ?_)
  unfold FX12_sighs
  refine Ev.run (pc' := 5) (ls' := [some (.ref 112), some (.int a1)]) (st' := [.int 30, .int 1, .int a1, .ref 112]) (m' := m) [(.aload_n 0, 0, 0, 0, 0), (.iload_n 1, 0, 0, 0, 0), (.iconst 1, 0, 0, 1, 0), (.bipush 30, 0, 0, 30, 0)] (by decide +kernel) rfl ?_
  refine Ev.cV (av := [.int a1, .int 1, .int 30]) (st := []) (a := 112) (EX12_isAhead (l := l) (Ln := Ln) (xs := xs) (d := 1) f a1 (1 : Int32) (30 : Int32) m (by decide)) rfl (by decide +kernel) mwX12_isAhead iwX12_isAhead vwX12_isAhead lk_12_464 (by omega) (by decide) rfl (by decide) rfl rfl (Nat.le_of_ble_eq_true rfl) (fun r1 m2 => ?_)
  refine Ev.if_eq (t := 20) (by decide +kernel) ?_ ?_
  · refine Ev.run (pc' := 21) (ls' := [some (.ref 112), some (.int a1)]) (st' := [.int (-1)]) (m' := m2) [(.iconst (-1), 0, 0, (-1), 0)] (by decide +kernel) rfl ?_
    exact Ev.ireti rfl rfl (by decide +kernel)
  · refine Ev.run (pc' := 14) (ls' := [some (.ref 112), some (.int a1)]) (st' := [.int a1, .int 0, .ref 112]) (m' := m2) [(.aload_n 0, 0, 0, 0, 0), (.iconst 0, 0, 0, 0, 0), (.iload_n 1, 0, 0, 0, 0)] (by decide +kernel) rfl ?_
    refine Ev.cV (av := [.int 0, .int a1]) (st := []) (a := 112) (EX12_fewest (l := l) (Ln := Ln) (xs := xs) (d := 7) f (0 : Int32) a1 m2 (by decide)) rfl (by decide +kernel) mwX12_fewest iwX12_fewest vwX12_fewest lk_12_496 (by omega) (by decide) rfl (by decide) rfl rfl (Nat.le_of_ble_eq_true rfl) (fun r3 m4 => ?_)
    refine Ev.gto (t := 21) (by decide +kernel) ?_
    exact Ev.ireti rfl rfl (by decide +kernel)
def FX12_doubtsIn (f : Nat) (a1 : Int32) (m : ev_M) : Option (Int32 × ev_M) :=
  (ev_bd (FX12_roundsGo f a1 m) (fun _ m2 => (ev_bd (FX12_triesAnew f m2) (fun _ m4 => some ((m2.1 112 56), m4)))))
set_option maxRecDepth 100000 in
set_option maxHeartbeats 4000000 in
theorem EX12_doubtsIn {l : Launch} {Ln : Nat} {xs : Nat → Int32} {d : Nat} (f : Nat) (a1 : Int32) (m : ev_M)  (hd : 6 ≤ d) : Mv ev_eI l Ln xs YX12_doubtsIn d Sx [.ref 112, .int a1] m (FX12_doubtsIn f a1 m) := by
  refine Mv.of (by decide +kernel) rfl (Nat.le_of_ble_eq_true rfl) (Ev.le (ls' := [some (.ref 112), some (.int a1), none]) ⟨rfl, ⟨rfl, trivial⟩⟩ ?_)
  unfold FX12_doubtsIn
  refine Ev.run (pc' := 2) (ls' := [some (.ref 112), some (.int a1), none]) (st' := [.int a1, .ref 112]) (m' := m) [(.aload_n 0, 0, 0, 0, 0), (.iload_n 1, 0, 0, 0, 0)] (by decide +kernel) rfl ?_
  refine Ev.cV (av := [.int a1]) (st := []) (a := 112) (EX12_roundsGo (l := l) (Ln := Ln) (xs := xs) (d := 5) f a1 m (by decide)) rfl (by decide +kernel) mwX12_roundsGo iwX12_roundsGo vwX12_roundsGo lk_12_471 (by omega) (by decide) rfl (by decide) rfl rfl (Nat.le_of_ble_eq_true rfl) (fun r1 m2 => ?_)
  refine Ev.run (pc' := 11) (ls' := [some (.ref 112), some (.int a1), some (.int (m2.1 112 56))]) (st' := [.ref 112]) (m' := m2) [(.aload_n 0, 0, 0, 0, 0), (.getfield 431, 12, 56, 0, 0), (.istore_n 2, 0, 0, 0, 0), (.aload_n 0, 0, 0, 0, 0)] (by decide +kernel) rfl ?_
  refine Ev.cV (av := []) (st := []) (a := 112) (EX12_triesAnew (l := l) (Ln := Ln) (xs := xs) (d := 0) f m2 (by decide)) rfl (by decide +kernel) mwX12_triesAnew iwX12_triesAnew vwX12_triesAnew lk_12_449 (by omega) (by decide) rfl (by decide) rfl rfl (Nat.le_of_ble_eq_true rfl) (fun r3 m4 => ?_)
  refine Ev.run (pc' := 15) (ls' := [some (.ref 112), some (.int a1), some (.int (m2.1 112 56))]) (st' := [.int (m2.1 112 56)]) (m' := m4) [(.iload_n 2, 0, 0, 0, 0)] (by decide +kernel) rfl ?_
  exact Ev.ireti rfl rfl (by decide +kernel)
def FX12_better_J97 (f : Nat) (kt39 : Int32 → Int32 → Int32 → ev_M → Option (Int32 × ev_M))  (a3 : Int32) (a4 : Int32) (a5 : Int32)  (m : ev_M) : Option (Int32 × ev_M) :=
  (kt39 a3 a4 (a5 + 1) m)
def FX12_better_L39 (f : Nat) (k : Int32 → Int32 → ev_M → Option (Int32 × ev_M))  (a1 : Int32) : Nat → Int32 → Int32 → Int32 → ev_M → Option (Int32 × ev_M)
  | 0, _, _, _, _ => none
  | n + 1, a3, a4, a5, m => (ev_bd (FX12_towerMany f m) (fun r9 m10 => (if r9 ≤ a5 then (k a3 a4 m10) else (ev_bd (FX12_isYes f a5 m10) (fun r11 m12 => (if r11 = 0 then (if ev_in ((2 + (3 * a5)) + 2) 147 then (ev_bd (FX12_doubtsIn f a1 ((ev_up m12.1 144 ((2 + (3 * a5)) + 2).toNatClampNeg 1), m12.2)) (fun r13 m14 => (if r13 < a3 then (FX12_better_J97 f (FX12_better_L39 f k a1 n) r13 a5 a5 m14) else (FX12_better_J97 f (FX12_better_L39 f k a1 n) a3 a4 a5 m14)))) else none) else (FX12_better_J97 f (FX12_better_L39 f k a1 n) a3 a4 a5 m12)))))))
def FX12_better (f : Nat) (a1 : Int32) (a2 : Int32) (m : ev_M) : Option (Int32 × ev_M) :=
  (ev_bd (FX12_isAhead f a1 (1 : Int32) (30 : Int32) m) (fun r1 m2 => (if r1 = 0 then some ((-1), m2) else (ev_bd (FX12_isIn f (a2 : Int32).toInt64 (0 : Int64) (1 : Int64) m2) (fun r3 m4 => (if r3 = 0 then some ((-1), m4) else (ev_bd (FX12_putsAside f m4) (fun _ m6 => (ev_bd (FX12_doubtsIn f a1 m6) (fun r7 m8 => (FX12_better_L39 f (fun e15 e16 m17 => (ev_bd (FX12_takesBack f m17) (fun _ m19 => (if e16 = (-1) then some ((-1), m19) else (if a2 = 0 then some (e16, m19) else some (e15, m19)))))) a1 f r7 (-1 : Int32) (0 : Int32) m8)))))))))))
set_option maxRecDepth 100000 in
set_option maxHeartbeats 4000000 in
theorem EX12_better_J97 {l : Launch} {Ln : Nat} {xs : Nat → Int32} {d : Nat} (f : Nat) (kt39 : Int32 → Int32 → Int32 → ev_M → Option (Int32 × ev_M))  (a1 : Int32) (a2 : Int32) (a3 : Int32) (a4 : Int32) (a5 : Int32)  (m : ev_M)  (hkt39 : ∀ (e3 : Int32) (e4 : Int32) (e5 : Int32) (em : ev_M), Ev ev_eI l Ln xs YX12_better d Sx 39 [some (.ref 112), some (.int a1), some (.int a2), some (.int e3), some (.int e4), some (.int e5), none] [] em (kt39 e3 e4 e5 em)) (hd : 7 ≤ d) : Ev ev_eI l Ln xs YX12_better d Sx 97 [some (.ref 112), some (.int a1), some (.int a2), some (.int a3), some (.int a4), some (.int a5), none] [] m (FX12_better_J97 f kt39 a3 a4 a5 m) := by
  unfold FX12_better_J97
  refine Ev.run (pc' := 100) (ls' := [some (.ref 112), some (.int a1), some (.int a2), some (.int a3), some (.int a4), some (.int (a5 + 1)), none]) (st' := []) (m' := m) [(.iinc 5 1, 0, 0, 1, 0)] (by decide +kernel) rfl ?_
  refine Ev.gto (t := 39) (by decide +kernel) ?_
  exact hkt39 _ _ _ _
set_option maxRecDepth 100000 in
set_option maxHeartbeats 4000000 in
theorem EX12_better_L39 {l : Launch} {Ln : Nat} {xs : Nat → Int32} {d : Nat} (f : Nat) (k : Int32 → Int32 → ev_M → Option (Int32 × ev_M))  (a1 : Int32) (a2 : Int32)   (hk : ∀ (e3 : Int32) (e4 : Int32) (em : ev_M), Ev ev_eI l Ln xs YX12_better d Sx 103 [some (.ref 112), none, some (.int a2), some (.int e3), some (.int e4), none, none] [] em (k e3 e4 em)) (hd : 7 ≤ d) : ∀ (n : Nat) (a3 : Int32) (a4 : Int32) (a5 : Int32) (m : ev_M), Ev ev_eI l Ln xs YX12_better d Sx 39 [some (.ref 112), some (.int a1), some (.int a2), some (.int a3), some (.int a4), some (.int a5), none] [] m (FX12_better_L39 f k a1 n a3 a4 a5 m) := by
  intro n
  induction n with
  | zero => intros; exact Ev.nn
  | succ n ih =>
    intro a3 a4 a5 m
    rw [FX12_better_L39]
    refine Ev.run (pc' := 42) (ls' := [some (.ref 112), some (.int a1), some (.int a2), some (.int a3), some (.int a4), some (.int a5), none]) (st' := [.ref 112, .int a5]) (m' := m) [(.iload 5, 0, 0, 0, 0), (.aload_n 0, 0, 0, 0, 0)] (by decide +kernel) rfl ?_
    refine Ev.cV (av := []) (st := [.int a5]) (a := 112) (EX12_towerMany (l := l) (Ln := Ln) (xs := xs) (d := 0) f m (by decide)) rfl (by decide +kernel) mwX12_towerMany iwX12_towerMany vwX12_towerMany lk_12_369 (by omega) (by decide) rfl (by decide) rfl rfl (Nat.le_of_ble_eq_true rfl) (fun r9 m10 => ?_)
    refine Ev.ic_ge (t := 103) (by decide +kernel) ?_ ?_
    · refine Ev.le (ls' := [some (.ref 112), none, some (.int a2), some (.int a3), some (.int a4), none, none]) ⟨rfl, ⟨rfl, ⟨rfl, ⟨rfl, trivial⟩⟩⟩⟩ ?_
      exact hk _ _ _
    · refine Ev.run (pc' := 51) (ls' := [some (.ref 112), some (.int a1), some (.int a2), some (.int a3), some (.int a4), some (.int a5), none]) (st' := [.int a5, .ref 112]) (m' := m10) [(.aload_n 0, 0, 0, 0, 0), (.iload 5, 0, 0, 0, 0)] (by decide +kernel) rfl ?_
      refine Ev.cV (av := [.int a5]) (st := []) (a := 112) (EX12_isYes (l := l) (Ln := Ln) (xs := xs) (d := 0) f a5 m10 (by decide)) rfl (by decide +kernel) mwX12_isYes iwX12_isYes vwX12_isYes lk_12_388 (by omega) (by decide) rfl (by decide) rfl rfl (Nat.le_of_ble_eq_true rfl) (fun r11 m12 => ?_)
      refine Ev.if_eq (t := 60) (by decide +kernel) ?_ ?_
      · refine Ev.run (pc' := 73) (ls' := [some (.ref 112), some (.int a1), some (.int a2), some (.int a3), some (.int a4), some (.int a5), none]) (st' := [.int 1, .int ((2 + (3 * a5)) + 2), .ref 144]) (m' := m12) [(.aload_n 0, 0, 0, 0, 0), (.getfield 109, 12, 47, 0, 0), (.iconst 2, 0, 0, 2, 0), (.iconst 3, 0, 0, 3, 0), (.iload 5, 0, 0, 0, 0), (.imul, 0, 0, 0, 0), (.iadd, 0, 0, 0, 0), (.iconst 2, 0, 0, 2, 0), (.iadd, 0, 0, 0, 0), (.iconst 1, 0, 0, 1, 0)] (by decide +kernel) rfl ?_
        refine Ev.iast (n := 147) (by decide +kernel) (by decide) rfl ?_
        refine Ev.run (pc' := 76) (ls' := [some (.ref 112), some (.int a1), some (.int a2), some (.int a3), some (.int a4), some (.int a5), none]) (st' := [.int a1, .ref 112]) (m' := ((ev_up m12.1 144 ((2 + (3 * a5)) + 2).toNatClampNeg 1), m12.2)) [(.aload_n 0, 0, 0, 0, 0), (.iload_n 1, 0, 0, 0, 0)] (by decide +kernel) rfl ?_
        refine Ev.cV (av := [.int a1]) (st := []) (a := 112) (EX12_doubtsIn (l := l) (Ln := Ln) (xs := xs) (d := 6) f a1 ((ev_up m12.1 144 ((2 + (3 * a5)) + 2).toNatClampNeg 1), m12.2) (by decide)) rfl (by decide +kernel) mwX12_doubtsIn iwX12_doubtsIn vwX12_doubtsIn lk_12_500 (by omega) (by decide) rfl (by decide) rfl rfl (Nat.le_of_ble_eq_true rfl) (fun r13 m14 => ?_)
        refine Ev.run (pc' := 84) (ls' := [some (.ref 112), some (.int a1), some (.int a2), some (.int a3), some (.int a4), some (.int a5), some (.int r13)]) (st' := [.int a3, .int r13]) (m' := m14) [(.istore 6, 0, 0, 0, 0), (.iload 6, 0, 0, 0, 0), (.iload_n 3, 0, 0, 0, 0)] (by decide +kernel) rfl ?_
        refine Ev.ic_lt (t := 90) (by decide +kernel) ?_ ?_
        · refine Ev.run (pc' := 97) (ls' := [some (.ref 112), some (.int a1), some (.int a2), some (.int r13), some (.int a5), some (.int a5), some (.int r13)]) (st' := []) (m' := m14) [(.iload 6, 0, 0, 0, 0), (.istore_n 3, 0, 0, 0, 0), (.iload 5, 0, 0, 0, 0), (.istore 4, 0, 0, 0, 0)] (by decide +kernel) rfl ?_
          refine Ev.le (ls' := [some (.ref 112), some (.int a1), some (.int a2), some (.int r13), some (.int a5), some (.int a5), none]) ⟨rfl, ⟨rfl, ⟨rfl, ⟨rfl, ⟨rfl, ⟨rfl, trivial⟩⟩⟩⟩⟩⟩ ?_
          exact EX12_better_J97 f (FX12_better_L39 f k a1 n) a1 a2 r13 a5 a5 m14 ih (by omega)
        · refine Ev.gto (t := 97) (by decide +kernel) ?_
          refine Ev.le (ls' := [some (.ref 112), some (.int a1), some (.int a2), some (.int a3), some (.int a4), some (.int a5), none]) ⟨rfl, ⟨rfl, ⟨rfl, ⟨rfl, ⟨rfl, ⟨rfl, trivial⟩⟩⟩⟩⟩⟩ ?_
          exact EX12_better_J97 f (FX12_better_L39 f k a1 n) a1 a2 a3 a4 a5 m14 ih (by omega)
      · refine Ev.gto (t := 97) (by decide +kernel) ?_
        exact EX12_better_J97 f (FX12_better_L39 f k a1 n) a1 a2 a3 a4 a5 m12 ih (by omega)
set_option maxRecDepth 100000 in
set_option maxHeartbeats 4000000 in
theorem EX12_better {l : Launch} {Ln : Nat} {xs : Nat → Int32} {d : Nat} (f : Nat) (a1 : Int32) (a2 : Int32) (m : ev_M)  (hd : 7 ≤ d) : Mv ev_eI l Ln xs YX12_better d Sx [.ref 112, .int a1, .int a2] m (FX12_better f a1 a2 m) := by
  refine Mv.of (by decide +kernel) rfl (Nat.le_of_ble_eq_true rfl) (Ev.le (ls' := [some (.ref 112), some (.int a1), some (.int a2), none, none, none, none]) ⟨rfl, ⟨rfl, ⟨rfl, trivial⟩⟩⟩ ?_)
  unfold FX12_better
  refine Ev.run (pc' := 5) (ls' := [some (.ref 112), some (.int a1), some (.int a2), none, none, none, none]) (st' := [.int 30, .int 1, .int a1, .ref 112]) (m' := m) [(.aload_n 0, 0, 0, 0, 0), (.iload_n 1, 0, 0, 0, 0), (.iconst 1, 0, 0, 1, 0), (.bipush 30, 0, 0, 30, 0)] (by decide +kernel) rfl ?_
  refine Ev.cV (av := [.int a1, .int 1, .int 30]) (st := []) (a := 112) (EX12_isAhead (l := l) (Ln := Ln) (xs := xs) (d := 1) f a1 (1 : Int32) (30 : Int32) m (by decide)) rfl (by decide +kernel) mwX12_isAhead iwX12_isAhead vwX12_isAhead lk_12_464 (by omega) (by decide) rfl (by decide) rfl rfl (Nat.le_of_ble_eq_true rfl) (fun r1 m2 => ?_)
  refine Ev.if_eq (t := 21) (by decide +kernel) ?_ ?_
  · refine Ev.run (pc' := 22) (ls' := [some (.ref 112), some (.int a1), some (.int a2), none, none, none, none]) (st' := [.int (-1)]) (m' := m2) [(.iconst (-1), 0, 0, (-1), 0)] (by decide +kernel) rfl ?_
    exact Ev.ireti rfl rfl (by decide +kernel)
  · refine Ev.run (pc' := 15) (ls' := [some (.ref 112), some (.int a1), some (.int a2), none, none, none, none]) (st' := [.long 1, .long 0, .long (a2 : Int32).toInt64]) (m' := m2) [(.iload_n 2, 0, 0, 0, 0), (.i2l, 0, 0, 0, 0), (.lconst 0, 0, 0, 0, 0), (.lconst 1, 0, 0, 0, 1)] (by decide +kernel) rfl ?_
    refine Ev.cS (av := [.long (a2 : Int32).toInt64, .long 0, .long 1]) (st := []) (EX12_isIn (l := l) (Ln := Ln) (xs := xs) (d := 0) f (a2 : Int32).toInt64 (0 : Int64) (1 : Int64) m2 (by decide)) rfl (by decide +kernel) mwX12_isIn swX12_isIn lk_12_268 (by omega) rfl (Nat.le_of_ble_eq_true rfl) (fun r3 m4 => ?_)
    refine Ev.if_ne (t := 23) (by decide +kernel) ?_ ?_
    · refine Ev.run (pc' := 24) (ls' := [some (.ref 112), some (.int a1), some (.int a2), none, none, none, none]) (st' := [.ref 112]) (m' := m4) [(.aload_n 0, 0, 0, 0, 0)] (by decide +kernel) rfl ?_
      refine Ev.cV (av := []) (st := []) (a := 112) (EX12_putsAside (l := l) (Ln := Ln) (xs := xs) (d := 0) f m4 (by decide)) rfl (by decide +kernel) mwX12_putsAside iwX12_putsAside vwX12_putsAside lk_12_468 (by omega) (by decide) rfl (by decide) rfl rfl (Nat.le_of_ble_eq_true rfl) (fun r5 m6 => ?_)
      refine Ev.run (pc' := 29) (ls' := [some (.ref 112), some (.int a1), some (.int a2), none, none, none, none]) (st' := [.int a1, .ref 112]) (m' := m6) [(.aload_n 0, 0, 0, 0, 0), (.iload_n 1, 0, 0, 0, 0)] (by decide +kernel) rfl ?_
      refine Ev.cV (av := [.int a1]) (st := []) (a := 112) (EX12_doubtsIn (l := l) (Ln := Ln) (xs := xs) (d := 6) f a1 m6 (by decide)) rfl (by decide +kernel) mwX12_doubtsIn iwX12_doubtsIn vwX12_doubtsIn lk_12_500 (by omega) (by decide) rfl (by decide) rfl rfl (Nat.le_of_ble_eq_true rfl) (fun r7 m8 => ?_)
      refine Ev.run (pc' := 39) (ls' := [some (.ref 112), some (.int a1), some (.int a2), some (.int r7), some (.int (-1)), some (.int 0), none]) (st' := []) (m' := m8) [(.istore_n 3, 0, 0, 0, 0), (.iconst (-1), 0, 0, (-1), 0), (.istore 4, 0, 0, 0, 0), (.iconst 0, 0, 0, 0, 0), (.istore 5, 0, 0, 0, 0)] (by decide +kernel) rfl ?_
      refine EX12_better_L39 f _ a1 a2 ?_ (by omega) _ _ _ _ _
      intro e15 e16 m17
      refine Ev.run (pc' := 104) (ls' := [some (.ref 112), none, some (.int a2), some (.int e15), some (.int e16), none, none]) (st' := [.ref 112]) (m' := m17) [(.aload_n 0, 0, 0, 0, 0)] (by decide +kernel) rfl ?_
      refine Ev.cV (av := []) (st := []) (a := 112) (EX12_takesBack (l := l) (Ln := Ln) (xs := xs) (d := 1) f m17 (by decide)) rfl (by decide +kernel) mwX12_takesBack iwX12_takesBack vwX12_takesBack lk_12_474 (by omega) (by decide) rfl (by decide) rfl rfl (Nat.le_of_ble_eq_true rfl) (fun r18 m19 => ?_)
      refine Ev.run (pc' := 110) (ls' := [some (.ref 112), none, some (.int a2), some (.int e15), some (.int e16), none, none]) (st' := [.int (-1), .int e16]) (m' := m19) [(.iload 4, 0, 0, 0, 0), (.iconst (-1), 0, 0, (-1), 0)] (by decide +kernel) rfl ?_
      refine Ev.ic_ne (t := 117) (by decide +kernel) ?_ ?_
      · refine Ev.run (pc' := 118) (ls' := [some (.ref 112), none, some (.int a2), some (.int e15), some (.int e16), none, none]) (st' := [.int a2]) (m' := m19) [(.iload_n 2, 0, 0, 0, 0)] (by decide +kernel) rfl ?_
        refine Ev.if_ne (t := 126) (by decide +kernel) ?_ ?_
        · refine Ev.run (pc' := 127) (ls' := [some (.ref 112), none, some (.int a2), some (.int e15), some (.int e16), none, none]) (st' := [.int e15]) (m' := m19) [(.iload_n 3, 0, 0, 0, 0)] (by decide +kernel) rfl ?_
          exact Ev.ireti rfl rfl (by decide +kernel)
        · refine Ev.run (pc' := 123) (ls' := [some (.ref 112), none, some (.int a2), some (.int e15), some (.int e16), none, none]) (st' := [.int e16]) (m' := m19) [(.iload 4, 0, 0, 0, 0)] (by decide +kernel) rfl ?_
          refine Ev.gto (t := 127) (by decide +kernel) ?_
          exact Ev.ireti rfl rfl (by decide +kernel)
      · refine Ev.run (pc' := 114) (ls' := [some (.ref 112), none, some (.int a2), some (.int e15), some (.int e16), none, none]) (st' := [.int (-1)]) (m' := m19) [(.iconst (-1), 0, 0, (-1), 0)] (by decide +kernel) rfl ?_
        refine Ev.gto (t := 127) (by decide +kernel) ?_
        exact Ev.ireti rfl rfl (by decide +kernel)
    · refine Ev.run (pc' := 22) (ls' := [some (.ref 112), some (.int a1), some (.int a2), none, none, none, none]) (st' := [.int (-1)]) (m' := m4) [(.iconst (-1), 0, 0, (-1), 0)] (by decide +kernel) rfl ?_
      exact Ev.ireti rfl rfl (by decide +kernel)
def FX12_placed_J103 (f : Nat) (kt59 : Int32 → Int32 → Int32 → Int32 → ev_M → Option (Int32 × ev_M))  (a3 : Int32) (a4 : Int32) (a5 : Int32) (a7 : Int32)  (m : ev_M) : Option (Int32 × ev_M) :=
  (kt59 a3 a4 a5 (a7 + 1) m)
def FX12_placed_L59 (f : Nat) (k : Int32 → Int32 → Int32 → ev_M → Option (Int32 × ev_M))  (a1 : Int32) (a6 : Int32) : Nat → Int32 → Int32 → Int32 → Int32 → ev_M → Option (Int32 × ev_M)
  | 0, _, _, _, _, _ => none
  | n + 1, a3, a4, a5, a7, m => (ev_bd (FX12_towerMany f m) (fun r11 m12 => (if r11 ≤ a7 then (k a3 a4 a5 m12) else (ev_bd (FX12_changes f a6 a7 m12) (fun _ m14 => (ev_bd (FX12_doubtsIn f a1 m14) (fun r15 m16 => (if r15 < a3 then (FX12_placed_J103 f (FX12_placed_L59 f k a1 a6 n) r15 a6 a7 a7 m16) else (FX12_placed_J103 f (FX12_placed_L59 f k a1 a6 n) a3 a4 a5 a7 m16)))))))))
def FX12_placed_L44 (f : Nat) (k : Int32 → Int32 → Int32 → ev_M → Option (Int32 × ev_M))  (a1 : Int32) : Nat → Int32 → Int32 → Int32 → Int32 → ev_M → Option (Int32 × ev_M)
  | 0, _, _, _, _, _ => none
  | n + 1, a3, a4, a5, a6, m => (ev_bd (FX12_towerMany f m) (fun r9 m10 => (if r9 ≤ a6 then (k a3 a4 a5 m10) else (FX12_placed_L59 f (fun e17 e18 e19 m20 => (FX12_placed_L44 f k a1 n e17 e18 e19 (a6 + 1) m20)) a1 a6 f a3 a4 a5 (a6 + 1) m10))))
def FX12_placed (f : Nat) (a1 : Int32) (a2 : Int32) (m : ev_M) : Option (Int32 × ev_M) :=
  (ev_bd (FX12_isAhead f a1 (1 : Int32) (30 : Int32) m) (fun r1 m2 => (if r1 = 0 then some ((-1), m2) else (ev_bd (FX12_isIn f (a2 : Int32).toInt64 (0 : Int64) (2 : Int64) m2) (fun r3 m4 => (if r3 = 0 then some ((-1), m4) else (ev_bd (FX12_putsAside f m4) (fun _ m6 => (ev_bd (FX12_doubtsIn f a1 m6) (fun r7 m8 => (FX12_placed_L44 f (fun e21 e22 e23 m24 => (ev_bd (FX12_takesBack f m24) (fun _ m26 => (if e22 = (-1) then some ((-1), m26) else (if a2 = 0 then some (e22, m26) else (if a2 = 1 then some (e23, m26) else some (e21, m26))))))) a1 f r7 (-1 : Int32) (-1 : Int32) (0 : Int32) m8)))))))))))
set_option maxRecDepth 100000 in
set_option maxHeartbeats 4000000 in
theorem EX12_placed_J103 {l : Launch} {Ln : Nat} {xs : Nat → Int32} {d : Nat} (f : Nat) (kt59 : Int32 → Int32 → Int32 → Int32 → ev_M → Option (Int32 × ev_M))  (a1 : Int32) (a2 : Int32) (a3 : Int32) (a4 : Int32) (a5 : Int32) (a6 : Int32) (a7 : Int32)  (m : ev_M)  (hkt59 : ∀ (e3 : Int32) (e4 : Int32) (e5 : Int32) (e7 : Int32) (em : ev_M), Ev ev_eI l Ln xs YX12_placed d Sx 59 [some (.ref 112), some (.int a1), some (.int a2), some (.int e3), some (.int e4), some (.int e5), some (.int a6), some (.int e7), none] [] em (kt59 e3 e4 e5 e7 em)) (hd : 7 ≤ d) : Ev ev_eI l Ln xs YX12_placed d Sx 103 [some (.ref 112), some (.int a1), some (.int a2), some (.int a3), some (.int a4), some (.int a5), some (.int a6), some (.int a7), none] [] m (FX12_placed_J103 f kt59 a3 a4 a5 a7 m) := by
  unfold FX12_placed_J103
  refine Ev.run (pc' := 106) (ls' := [some (.ref 112), some (.int a1), some (.int a2), some (.int a3), some (.int a4), some (.int a5), some (.int a6), some (.int (a7 + 1)), none]) (st' := []) (m' := m) [(.iinc 7 1, 0, 0, 1, 0)] (by decide +kernel) rfl ?_
  refine Ev.gto (t := 59) (by decide +kernel) ?_
  exact hkt59 _ _ _ _ _
set_option maxRecDepth 100000 in
set_option maxHeartbeats 4000000 in
theorem EX12_placed_L59 {l : Launch} {Ln : Nat} {xs : Nat → Int32} {d : Nat} (f : Nat) (k : Int32 → Int32 → Int32 → ev_M → Option (Int32 × ev_M))  (a1 : Int32) (a2 : Int32) (a6 : Int32)   (hk : ∀ (e3 : Int32) (e4 : Int32) (e5 : Int32) (em : ev_M), Ev ev_eI l Ln xs YX12_placed d Sx 109 [some (.ref 112), some (.int a1), some (.int a2), some (.int e3), some (.int e4), some (.int e5), some (.int a6), none, none] [] em (k e3 e4 e5 em)) (hd : 7 ≤ d) : ∀ (n : Nat) (a3 : Int32) (a4 : Int32) (a5 : Int32) (a7 : Int32) (m : ev_M), Ev ev_eI l Ln xs YX12_placed d Sx 59 [some (.ref 112), some (.int a1), some (.int a2), some (.int a3), some (.int a4), some (.int a5), some (.int a6), some (.int a7), none] [] m (FX12_placed_L59 f k a1 a6 n a3 a4 a5 a7 m) := by
  intro n
  induction n with
  | zero => intros; exact Ev.nn
  | succ n ih =>
    intro a3 a4 a5 a7 m
    rw [FX12_placed_L59]
    refine Ev.run (pc' := 62) (ls' := [some (.ref 112), some (.int a1), some (.int a2), some (.int a3), some (.int a4), some (.int a5), some (.int a6), some (.int a7), none]) (st' := [.ref 112, .int a7]) (m' := m) [(.iload 7, 0, 0, 0, 0), (.aload_n 0, 0, 0, 0, 0)] (by decide +kernel) rfl ?_
    refine Ev.cV (av := []) (st := [.int a7]) (a := 112) (EX12_towerMany (l := l) (Ln := Ln) (xs := xs) (d := 0) f m (by decide)) rfl (by decide +kernel) mwX12_towerMany iwX12_towerMany vwX12_towerMany lk_12_369 (by omega) (by decide) rfl (by decide) rfl rfl (Nat.le_of_ble_eq_true rfl) (fun r11 m12 => ?_)
    refine Ev.ic_ge (t := 109) (by decide +kernel) ?_ ?_
    · refine Ev.le (ls' := [some (.ref 112), some (.int a1), some (.int a2), some (.int a3), some (.int a4), some (.int a5), some (.int a6), none, none]) ⟨rfl, ⟨rfl, ⟨rfl, ⟨rfl, ⟨rfl, ⟨rfl, ⟨rfl, trivial⟩⟩⟩⟩⟩⟩⟩ ?_
      exact hk _ _ _ _
    · refine Ev.run (pc' := 73) (ls' := [some (.ref 112), some (.int a1), some (.int a2), some (.int a3), some (.int a4), some (.int a5), some (.int a6), some (.int a7), none]) (st' := [.int a7, .int a6, .ref 112]) (m' := m12) [(.aload_n 0, 0, 0, 0, 0), (.iload 6, 0, 0, 0, 0), (.iload 7, 0, 0, 0, 0)] (by decide +kernel) rfl ?_
      refine Ev.cV (av := [.int a6, .int a7]) (st := []) (a := 112) (EX12_changes (l := l) (Ln := Ln) (xs := xs) (d := 0) f a6 a7 m12 (by decide)) rfl (by decide +kernel) mwX12_changes iwX12_changes vwX12_changes lk_12_503 (by omega) (by decide) rfl (by decide) rfl rfl (Nat.le_of_ble_eq_true rfl) (fun r13 m14 => ?_)
      refine Ev.run (pc' := 78) (ls' := [some (.ref 112), some (.int a1), some (.int a2), some (.int a3), some (.int a4), some (.int a5), some (.int a6), some (.int a7), none]) (st' := [.int a1, .ref 112]) (m' := m14) [(.aload_n 0, 0, 0, 0, 0), (.iload_n 1, 0, 0, 0, 0)] (by decide +kernel) rfl ?_
      refine Ev.cV (av := [.int a1]) (st := []) (a := 112) (EX12_doubtsIn (l := l) (Ln := Ln) (xs := xs) (d := 6) f a1 m14 (by decide)) rfl (by decide +kernel) mwX12_doubtsIn iwX12_doubtsIn vwX12_doubtsIn lk_12_500 (by omega) (by decide) rfl (by decide) rfl rfl (Nat.le_of_ble_eq_true rfl) (fun r15 m16 => ?_)
      refine Ev.run (pc' := 86) (ls' := [some (.ref 112), some (.int a1), some (.int a2), some (.int a3), some (.int a4), some (.int a5), some (.int a6), some (.int a7), some (.int r15)]) (st' := [.int a3, .int r15]) (m' := m16) [(.istore 8, 0, 0, 0, 0), (.iload 8, 0, 0, 0, 0), (.iload_n 3, 0, 0, 0, 0)] (by decide +kernel) rfl ?_
      refine Ev.ic_lt (t := 92) (by decide +kernel) ?_ ?_
      · refine Ev.run (pc' := 103) (ls' := [some (.ref 112), some (.int a1), some (.int a2), some (.int r15), some (.int a6), some (.int a7), some (.int a6), some (.int a7), some (.int r15)]) (st' := []) (m' := m16) [(.iload 8, 0, 0, 0, 0), (.istore_n 3, 0, 0, 0, 0), (.iload 6, 0, 0, 0, 0), (.istore 4, 0, 0, 0, 0), (.iload 7, 0, 0, 0, 0), (.istore 5, 0, 0, 0, 0)] (by decide +kernel) rfl ?_
        refine Ev.le (ls' := [some (.ref 112), some (.int a1), some (.int a2), some (.int r15), some (.int a6), some (.int a7), some (.int a6), some (.int a7), none]) ⟨rfl, ⟨rfl, ⟨rfl, ⟨rfl, ⟨rfl, ⟨rfl, ⟨rfl, ⟨rfl, trivial⟩⟩⟩⟩⟩⟩⟩⟩ ?_
        exact EX12_placed_J103 f (FX12_placed_L59 f k a1 a6 n) a1 a2 r15 a6 a7 a6 a7 m16 ih (by omega)
      · refine Ev.gto (t := 103) (by decide +kernel) ?_
        refine Ev.le (ls' := [some (.ref 112), some (.int a1), some (.int a2), some (.int a3), some (.int a4), some (.int a5), some (.int a6), some (.int a7), none]) ⟨rfl, ⟨rfl, ⟨rfl, ⟨rfl, ⟨rfl, ⟨rfl, ⟨rfl, ⟨rfl, trivial⟩⟩⟩⟩⟩⟩⟩⟩ ?_
        exact EX12_placed_J103 f (FX12_placed_L59 f k a1 a6 n) a1 a2 a3 a4 a5 a6 a7 m16 ih (by omega)
set_option maxRecDepth 100000 in
set_option maxHeartbeats 4000000 in
theorem EX12_placed_L44 {l : Launch} {Ln : Nat} {xs : Nat → Int32} {d : Nat} (f : Nat) (k : Int32 → Int32 → Int32 → ev_M → Option (Int32 × ev_M))  (a1 : Int32) (a2 : Int32)   (hk : ∀ (e3 : Int32) (e4 : Int32) (e5 : Int32) (em : ev_M), Ev ev_eI l Ln xs YX12_placed d Sx 115 [some (.ref 112), none, some (.int a2), some (.int e3), some (.int e4), some (.int e5), none, none, none] [] em (k e3 e4 e5 em)) (hd : 7 ≤ d) : ∀ (n : Nat) (a3 : Int32) (a4 : Int32) (a5 : Int32) (a6 : Int32) (m : ev_M), Ev ev_eI l Ln xs YX12_placed d Sx 44 [some (.ref 112), some (.int a1), some (.int a2), some (.int a3), some (.int a4), some (.int a5), some (.int a6), none, none] [] m (FX12_placed_L44 f k a1 n a3 a4 a5 a6 m) := by
  intro n
  induction n with
  | zero => intros; exact Ev.nn
  | succ n ih =>
    intro a3 a4 a5 a6 m
    rw [FX12_placed_L44]
    refine Ev.run (pc' := 47) (ls' := [some (.ref 112), some (.int a1), some (.int a2), some (.int a3), some (.int a4), some (.int a5), some (.int a6), none, none]) (st' := [.ref 112, .int a6]) (m' := m) [(.iload 6, 0, 0, 0, 0), (.aload_n 0, 0, 0, 0, 0)] (by decide +kernel) rfl ?_
    refine Ev.cV (av := []) (st := [.int a6]) (a := 112) (EX12_towerMany (l := l) (Ln := Ln) (xs := xs) (d := 0) f m (by decide)) rfl (by decide +kernel) mwX12_towerMany iwX12_towerMany vwX12_towerMany lk_12_369 (by omega) (by decide) rfl (by decide) rfl rfl (Nat.le_of_ble_eq_true rfl) (fun r9 m10 => ?_)
    refine Ev.ic_ge (t := 115) (by decide +kernel) ?_ ?_
    · refine Ev.le (ls' := [some (.ref 112), none, some (.int a2), some (.int a3), some (.int a4), some (.int a5), none, none, none]) ⟨rfl, ⟨rfl, ⟨rfl, ⟨rfl, ⟨rfl, trivial⟩⟩⟩⟩⟩ ?_
      exact hk _ _ _ _
    · refine Ev.run (pc' := 59) (ls' := [some (.ref 112), some (.int a1), some (.int a2), some (.int a3), some (.int a4), some (.int a5), some (.int a6), some (.int (a6 + 1)), none]) (st' := []) (m' := m10) [(.iload 6, 0, 0, 0, 0), (.iconst 1, 0, 0, 1, 0), (.iadd, 0, 0, 0, 0), (.istore 7, 0, 0, 0, 0)] (by decide +kernel) rfl ?_
      refine EX12_placed_L59 f _ a1 a2 a6 ?_ (by omega) _ _ _ _ _ _
      intro e17 e18 e19 m20
      refine Ev.run (pc' := 112) (ls' := [some (.ref 112), some (.int a1), some (.int a2), some (.int e17), some (.int e18), some (.int e19), some (.int (a6 + 1)), none, none]) (st' := []) (m' := m20) [(.iinc 6 1, 0, 0, 1, 0)] (by decide +kernel) rfl ?_
      refine Ev.gto (t := 44) (by decide +kernel) ?_
      exact ih _ _ _ _ _
set_option maxRecDepth 100000 in
set_option maxHeartbeats 4000000 in
theorem EX12_placed {l : Launch} {Ln : Nat} {xs : Nat → Int32} {d : Nat} (f : Nat) (a1 : Int32) (a2 : Int32) (m : ev_M)  (hd : 7 ≤ d) : Mv ev_eI l Ln xs YX12_placed d Sx [.ref 112, .int a1, .int a2] m (FX12_placed f a1 a2 m) := by
  refine Mv.of (by decide +kernel) rfl (Nat.le_of_ble_eq_true rfl) (Ev.le (ls' := [some (.ref 112), some (.int a1), some (.int a2), none, none, none, none, none, none]) ⟨rfl, ⟨rfl, ⟨rfl, trivial⟩⟩⟩ ?_)
  unfold FX12_placed
  refine Ev.run (pc' := 5) (ls' := [some (.ref 112), some (.int a1), some (.int a2), none, none, none, none, none, none]) (st' := [.int 30, .int 1, .int a1, .ref 112]) (m' := m) [(.aload_n 0, 0, 0, 0, 0), (.iload_n 1, 0, 0, 0, 0), (.iconst 1, 0, 0, 1, 0), (.bipush 30, 0, 0, 30, 0)] (by decide +kernel) rfl ?_
  refine Ev.cV (av := [.int a1, .int 1, .int 30]) (st := []) (a := 112) (EX12_isAhead (l := l) (Ln := Ln) (xs := xs) (d := 1) f a1 (1 : Int32) (30 : Int32) m (by decide)) rfl (by decide +kernel) mwX12_isAhead iwX12_isAhead vwX12_isAhead lk_12_464 (by omega) (by decide) rfl (by decide) rfl rfl (Nat.le_of_ble_eq_true rfl) (fun r1 m2 => ?_)
  refine Ev.if_eq (t := 23) (by decide +kernel) ?_ ?_
  · refine Ev.run (pc' := 24) (ls' := [some (.ref 112), some (.int a1), some (.int a2), none, none, none, none, none, none]) (st' := [.int (-1)]) (m' := m2) [(.iconst (-1), 0, 0, (-1), 0)] (by decide +kernel) rfl ?_
    exact Ev.ireti rfl rfl (by decide +kernel)
  · refine Ev.run (pc' := 17) (ls' := [some (.ref 112), some (.int a1), some (.int a2), none, none, none, none, none, none]) (st' := [.long 2, .long 0, .long (a2 : Int32).toInt64]) (m' := m2) [(.iload_n 2, 0, 0, 0, 0), (.i2l, 0, 0, 0, 0), (.lconst 0, 0, 0, 0, 0), (.ldc2_w 460, 0, 0, 0, 2)] (by decide +kernel) rfl ?_
    refine Ev.cS (av := [.long (a2 : Int32).toInt64, .long 0, .long 2]) (st := []) (EX12_isIn (l := l) (Ln := Ln) (xs := xs) (d := 0) f (a2 : Int32).toInt64 (0 : Int64) (2 : Int64) m2 (by decide)) rfl (by decide +kernel) mwX12_isIn swX12_isIn lk_12_268 (by omega) rfl (Nat.le_of_ble_eq_true rfl) (fun r3 m4 => ?_)
    refine Ev.if_ne (t := 25) (by decide +kernel) ?_ ?_
    · refine Ev.run (pc' := 26) (ls' := [some (.ref 112), some (.int a1), some (.int a2), none, none, none, none, none, none]) (st' := [.ref 112]) (m' := m4) [(.aload_n 0, 0, 0, 0, 0)] (by decide +kernel) rfl ?_
      refine Ev.cV (av := []) (st := []) (a := 112) (EX12_putsAside (l := l) (Ln := Ln) (xs := xs) (d := 0) f m4 (by decide)) rfl (by decide +kernel) mwX12_putsAside iwX12_putsAside vwX12_putsAside lk_12_468 (by omega) (by decide) rfl (by decide) rfl rfl (Nat.le_of_ble_eq_true rfl) (fun r5 m6 => ?_)
      refine Ev.run (pc' := 31) (ls' := [some (.ref 112), some (.int a1), some (.int a2), none, none, none, none, none, none]) (st' := [.int a1, .ref 112]) (m' := m6) [(.aload_n 0, 0, 0, 0, 0), (.iload_n 1, 0, 0, 0, 0)] (by decide +kernel) rfl ?_
      refine Ev.cV (av := [.int a1]) (st := []) (a := 112) (EX12_doubtsIn (l := l) (Ln := Ln) (xs := xs) (d := 6) f a1 m6 (by decide)) rfl (by decide +kernel) mwX12_doubtsIn iwX12_doubtsIn vwX12_doubtsIn lk_12_500 (by omega) (by decide) rfl (by decide) rfl rfl (Nat.le_of_ble_eq_true rfl) (fun r7 m8 => ?_)
      refine Ev.run (pc' := 44) (ls' := [some (.ref 112), some (.int a1), some (.int a2), some (.int r7), some (.int (-1)), some (.int (-1)), some (.int 0), none, none]) (st' := []) (m' := m8) [(.istore_n 3, 0, 0, 0, 0), (.iconst (-1), 0, 0, (-1), 0), (.istore 4, 0, 0, 0, 0), (.iconst (-1), 0, 0, (-1), 0), (.istore 5, 0, 0, 0, 0), (.iconst 0, 0, 0, 0, 0), (.istore 6, 0, 0, 0, 0)] (by decide +kernel) rfl ?_
      refine EX12_placed_L44 f _ a1 a2 ?_ (by omega) _ _ _ _ _ _
      intro e21 e22 e23 m24
      refine Ev.run (pc' := 116) (ls' := [some (.ref 112), none, some (.int a2), some (.int e21), some (.int e22), some (.int e23), none, none, none]) (st' := [.ref 112]) (m' := m24) [(.aload_n 0, 0, 0, 0, 0)] (by decide +kernel) rfl ?_
      refine Ev.cV (av := []) (st := []) (a := 112) (EX12_takesBack (l := l) (Ln := Ln) (xs := xs) (d := 1) f m24 (by decide)) rfl (by decide +kernel) mwX12_takesBack iwX12_takesBack vwX12_takesBack lk_12_474 (by omega) (by decide) rfl (by decide) rfl rfl (Nat.le_of_ble_eq_true rfl) (fun r25 m26 => ?_)
      refine Ev.run (pc' := 122) (ls' := [some (.ref 112), none, some (.int a2), some (.int e21), some (.int e22), some (.int e23), none, none, none]) (st' := [.int (-1), .int e22]) (m' := m26) [(.iload 4, 0, 0, 0, 0), (.iconst (-1), 0, 0, (-1), 0)] (by decide +kernel) rfl ?_
      refine Ev.ic_ne (t := 129) (by decide +kernel) ?_ ?_
      · refine Ev.run (pc' := 130) (ls' := [some (.ref 112), none, some (.int a2), some (.int e21), some (.int e22), some (.int e23), none, none, none]) (st' := [.int a2]) (m' := m26) [(.iload_n 2, 0, 0, 0, 0)] (by decide +kernel) rfl ?_
        refine Ev.if_ne (t := 138) (by decide +kernel) ?_ ?_
        · refine Ev.run (pc' := 140) (ls' := [some (.ref 112), none, some (.int a2), some (.int e21), some (.int e22), some (.int e23), none, none, none]) (st' := [.int 1, .int a2]) (m' := m26) [(.iload_n 2, 0, 0, 0, 0), (.iconst 1, 0, 0, 1, 0)] (by decide +kernel) rfl ?_
          refine Ev.ic_ne (t := 148) (by decide +kernel) ?_ ?_
          · refine Ev.run (pc' := 149) (ls' := [some (.ref 112), none, some (.int a2), some (.int e21), some (.int e22), some (.int e23), none, none, none]) (st' := [.int e21]) (m' := m26) [(.iload_n 3, 0, 0, 0, 0)] (by decide +kernel) rfl ?_
            exact Ev.ireti rfl rfl (by decide +kernel)
          · refine Ev.run (pc' := 145) (ls' := [some (.ref 112), none, some (.int a2), some (.int e21), some (.int e22), some (.int e23), none, none, none]) (st' := [.int e23]) (m' := m26) [(.iload 5, 0, 0, 0, 0)] (by decide +kernel) rfl ?_
            refine Ev.gto (t := 149) (by decide +kernel) ?_
            exact Ev.ireti rfl rfl (by decide +kernel)
        · refine Ev.run (pc' := 135) (ls' := [some (.ref 112), none, some (.int a2), some (.int e21), some (.int e22), some (.int e23), none, none, none]) (st' := [.int e22]) (m' := m26) [(.iload 4, 0, 0, 0, 0)] (by decide +kernel) rfl ?_
          refine Ev.gto (t := 149) (by decide +kernel) ?_
          exact Ev.ireti rfl rfl (by decide +kernel)
      · refine Ev.run (pc' := 126) (ls' := [some (.ref 112), none, some (.int a2), some (.int e21), some (.int e22), some (.int e23), none, none, none]) (st' := [.int (-1)]) (m' := m26) [(.iconst (-1), 0, 0, (-1), 0)] (by decide +kernel) rfl ?_
        refine Ev.gto (t := 149) (by decide +kernel) ?_
        exact Ev.ireti rfl rfl (by decide +kernel)
    · refine Ev.run (pc' := 24) (ls' := [some (.ref 112), some (.int a1), some (.int a2), none, none, none, none, none, none]) (st' := [.int (-1)]) (m' := m4) [(.iconst (-1), 0, 0, (-1), 0)] (by decide +kernel) rfl ?_
      exact Ev.ireti rfl rfl (by decide +kernel)
def FX12_ditched_J63 (f : Nat) (kt4 : Int32 → Int32 → ev_M → Option (Int32 × ev_M))  (a2 : Int32) (a3 : Int32)  (m : ev_M) : Option (Int32 × ev_M) :=
  (kt4 a2 (a3 + 1) m)
def FX12_ditched_J44 (f : Nat) (kt4 : Int32 → Int32 → ev_M → Option (Int32 × ev_M))  (a2 : Int32) (a3 : Int32) (s1 : Int32) (m : ev_M) : Option (Int32 × ev_M) :=
  (ev_bd (FX12_doubtsIn f (1 : Int32) ((ev_up m.1 112 53 s1), m.2)) (fun r3 m4 => (if r3 ≤ a2 then (FX12_ditched_J63 f kt4 a2 a3 m4) else (FX12_ditched_J63 f kt4 r3 a3 m4))))
def FX12_ditched_J31 (f : Nat) (kt4 : Int32 → Int32 → ev_M → Option (Int32 × ev_M))  (a2 : Int32) (a3 : Int32)  (m : ev_M) : Option (Int32 × ev_M) :=
  (if a3 = (-1) then (FX12_ditched_J44 f kt4 a2 a3 (0 : Int32) m) else (FX12_ditched_J44 f kt4 a2 a3 (1 <<< (a3 &&& 31)) m))
def FX12_ditched_L4 (f : Nat) (k : Int32 → ev_M → Option (Int32 × ev_M))  (a1 : Int32) : Nat → Int32 → Int32 → ev_M → Option (Int32 × ev_M)
  | 0, _, _, _ => none
  | n + 1, a2, a3, m => (ev_bd (FX12_towerMany f m) (fun r1 m2 => (if r1 ≤ a3 then (k a2 m2) else (if a1 = (-1) then (FX12_ditched_J31 f (FX12_ditched_L4 f k a1 n) a2 a3 m2) else (if ev_in ((2 + (3 * a1)) + 1) 147 then (FX12_ditched_J31 f (FX12_ditched_L4 f k a1 n) a2 a3 ((ev_up m2.1 144 ((2 + (3 * a1)) + 1).toNatClampNeg 9), m2.2)) else none)))))
def FX12_ditched (f : Nat) (a1 : Int32) (m : ev_M) : Option (Int32 × ev_M) :=
  (FX12_ditched_L4 f (fun e5 m6 => some (e5, m6)) a1 f (0 : Int32) (-1 : Int32) m)
set_option maxRecDepth 100000 in
set_option maxHeartbeats 4000000 in
theorem EX12_ditched_J63 {l : Launch} {Ln : Nat} {xs : Nat → Int32} {d : Nat} (f : Nat) (kt4 : Int32 → Int32 → ev_M → Option (Int32 × ev_M))  (a1 : Int32) (a2 : Int32) (a3 : Int32)  (m : ev_M)  (hkt4 : ∀ (e2 : Int32) (e3 : Int32) (em : ev_M), Ev ev_eI l Ln xs YX12_ditched d Sx 4 [some (.ref 112), some (.int a1), some (.int e2), some (.int e3), none] [] em (kt4 e2 e3 em)) (hd : 7 ≤ d) : Ev ev_eI l Ln xs YX12_ditched d Sx 63 [some (.ref 112), some (.int a1), some (.int a2), some (.int a3), none] [] m (FX12_ditched_J63 f kt4 a2 a3 m) := by
  unfold FX12_ditched_J63
  refine Ev.run (pc' := 66) (ls' := [some (.ref 112), some (.int a1), some (.int a2), some (.int (a3 + 1)), none]) (st' := []) (m' := m) [(.iinc 3 1, 0, 0, 1, 0)] (by decide +kernel) rfl ?_
  refine Ev.gto (t := 4) (by decide +kernel) ?_
  exact hkt4 _ _ _
set_option maxRecDepth 100000 in
set_option maxHeartbeats 4000000 in
theorem EX12_ditched_J44 {l : Launch} {Ln : Nat} {xs : Nat → Int32} {d : Nat} (f : Nat) (kt4 : Int32 → Int32 → ev_M → Option (Int32 × ev_M))  (a1 : Int32) (a2 : Int32) (a3 : Int32) (s1 : Int32) (m : ev_M)  (hkt4 : ∀ (e2 : Int32) (e3 : Int32) (em : ev_M), Ev ev_eI l Ln xs YX12_ditched d Sx 4 [some (.ref 112), some (.int a1), some (.int e2), some (.int e3), none] [] em (kt4 e2 e3 em)) (hd : 7 ≤ d) : Ev ev_eI l Ln xs YX12_ditched d Sx 44 [some (.ref 112), some (.int a1), some (.int a2), some (.int a3), none] [.int s1, .ref 112] m (FX12_ditched_J44 f kt4 a2 a3 s1 m) := by
  unfold FX12_ditched_J44
  refine Ev.run (pc' := 49) (ls' := [some (.ref 112), some (.int a1), some (.int a2), some (.int a3), none]) (st' := [.int 1, .ref 112]) (m' := ((ev_up m.1 112 53 s1), m.2)) [(.putfield 419, 12, 53, 0, 0), (.aload_n 0, 0, 0, 0, 0), (.iconst 1, 0, 0, 1, 0)] (by decide +kernel) rfl ?_
  refine Ev.cV (av := [.int 1]) (st := []) (a := 112) (EX12_doubtsIn (l := l) (Ln := Ln) (xs := xs) (d := 6) f (1 : Int32) ((ev_up m.1 112 53 s1), m.2) (by decide)) rfl (by decide +kernel) mwX12_doubtsIn iwX12_doubtsIn vwX12_doubtsIn lk_12_500 (by omega) (by decide) rfl (by decide) rfl rfl (Nat.le_of_ble_eq_true rfl) (fun r3 m4 => ?_)
  refine Ev.run (pc' := 57) (ls' := [some (.ref 112), some (.int a1), some (.int a2), some (.int a3), some (.int r3)]) (st' := [.int a2, .int r3]) (m' := m4) [(.istore 4, 0, 0, 0, 0), (.iload 4, 0, 0, 0, 0), (.iload_n 2, 0, 0, 0, 0)] (by decide +kernel) rfl ?_
  refine Ev.ic_le (t := 63) (by decide +kernel) ?_ ?_
  · refine Ev.le (ls' := [some (.ref 112), some (.int a1), some (.int a2), some (.int a3), none]) ⟨rfl, ⟨rfl, ⟨rfl, ⟨rfl, trivial⟩⟩⟩⟩ ?_
    exact EX12_ditched_J63 f kt4 a1 a2 a3 m4 hkt4 (by omega)
  · refine Ev.run (pc' := 63) (ls' := [some (.ref 112), some (.int a1), some (.int r3), some (.int a3), some (.int r3)]) (st' := []) (m' := m4) [(.iload 4, 0, 0, 0, 0), (.istore_n 2, 0, 0, 0, 0)] (by decide +kernel) rfl ?_
    refine Ev.le (ls' := [some (.ref 112), some (.int a1), some (.int r3), some (.int a3), none]) ⟨rfl, ⟨rfl, ⟨rfl, ⟨rfl, trivial⟩⟩⟩⟩ ?_
    exact EX12_ditched_J63 f kt4 a1 r3 a3 m4 hkt4 (by omega)
set_option maxRecDepth 100000 in
set_option maxHeartbeats 4000000 in
theorem EX12_ditched_J31 {l : Launch} {Ln : Nat} {xs : Nat → Int32} {d : Nat} (f : Nat) (kt4 : Int32 → Int32 → ev_M → Option (Int32 × ev_M))  (a1 : Int32) (a2 : Int32) (a3 : Int32)  (m : ev_M)  (hkt4 : ∀ (e2 : Int32) (e3 : Int32) (em : ev_M), Ev ev_eI l Ln xs YX12_ditched d Sx 4 [some (.ref 112), some (.int a1), some (.int e2), some (.int e3), none] [] em (kt4 e2 e3 em)) (hd : 7 ≤ d) : Ev ev_eI l Ln xs YX12_ditched d Sx 31 [some (.ref 112), some (.int a1), some (.int a2), some (.int a3), none] [] m (FX12_ditched_J31 f kt4 a2 a3 m) := by
  unfold FX12_ditched_J31
  refine Ev.run (pc' := 34) (ls' := [some (.ref 112), some (.int a1), some (.int a2), some (.int a3), none]) (st' := [.int (-1), .int a3, .ref 112]) (m' := m) [(.aload_n 0, 0, 0, 0, 0), (.iload_n 3, 0, 0, 0, 0), (.iconst (-1), 0, 0, (-1), 0)] (by decide +kernel) rfl ?_
  refine Ev.ic_ne (t := 41) (by decide +kernel) ?_ ?_
  · refine Ev.run (pc' := 44) (ls' := [some (.ref 112), some (.int a1), some (.int a2), some (.int a3), none]) (st' := [.int (1 <<< (a3 &&& 31)), .ref 112]) (m' := m) [(.iconst 1, 0, 0, 1, 0), (.iload_n 3, 0, 0, 0, 0), (.ishl, 0, 0, 0, 0)] (by decide +kernel) rfl ?_
    exact EX12_ditched_J44 f kt4 a1 a2 a3 (1 <<< (a3 &&& 31)) m hkt4 (by omega)
  · refine Ev.run (pc' := 38) (ls' := [some (.ref 112), some (.int a1), some (.int a2), some (.int a3), none]) (st' := [.int 0, .ref 112]) (m' := m) [(.iconst 0, 0, 0, 0, 0)] (by decide +kernel) rfl ?_
    refine Ev.gto (t := 44) (by decide +kernel) ?_
    exact EX12_ditched_J44 f kt4 a1 a2 a3 (0 : Int32) m hkt4 (by omega)
set_option maxRecDepth 100000 in
set_option maxHeartbeats 4000000 in
theorem EX12_ditched_L4 {l : Launch} {Ln : Nat} {xs : Nat → Int32} {d : Nat} (f : Nat) (k : Int32 → ev_M → Option (Int32 × ev_M))  (a1 : Int32)   (hk : ∀ (e2 : Int32) (em : ev_M), Ev ev_eI l Ln xs YX12_ditched d Sx 69 [none, none, some (.int e2), none, none] [] em (k e2 em)) (hd : 7 ≤ d) : ∀ (n : Nat) (a2 : Int32) (a3 : Int32) (m : ev_M), Ev ev_eI l Ln xs YX12_ditched d Sx 4 [some (.ref 112), some (.int a1), some (.int a2), some (.int a3), none] [] m (FX12_ditched_L4 f k a1 n a2 a3 m) := by
  intro n
  induction n with
  | zero => intros; exact Ev.nn
  | succ n ih =>
    intro a2 a3 m
    rw [FX12_ditched_L4]
    refine Ev.run (pc' := 6) (ls' := [some (.ref 112), some (.int a1), some (.int a2), some (.int a3), none]) (st' := [.ref 112, .int a3]) (m' := m) [(.iload_n 3, 0, 0, 0, 0), (.aload_n 0, 0, 0, 0, 0)] (by decide +kernel) rfl ?_
    refine Ev.cV (av := []) (st := [.int a3]) (a := 112) (EX12_towerMany (l := l) (Ln := Ln) (xs := xs) (d := 0) f m (by decide)) rfl (by decide +kernel) mwX12_towerMany iwX12_towerMany vwX12_towerMany lk_12_369 (by omega) (by decide) rfl (by decide) rfl rfl (Nat.le_of_ble_eq_true rfl) (fun r1 m2 => ?_)
    refine Ev.ic_ge (t := 69) (by decide +kernel) ?_ ?_
    · refine Ev.le (ls' := [none, none, some (.int a2), none, none]) ⟨rfl, trivial⟩ ?_
      exact hk _ _
    · refine Ev.run (pc' := 14) (ls' := [some (.ref 112), some (.int a1), some (.int a2), some (.int a3), none]) (st' := [.int (-1), .int a1]) (m' := m2) [(.iload_n 1, 0, 0, 0, 0), (.iconst (-1), 0, 0, (-1), 0)] (by decide +kernel) rfl ?_
      refine Ev.ic_eq (t := 31) (by decide +kernel) ?_ ?_
      · exact EX12_ditched_J31 f (FX12_ditched_L4 f k a1 n) a1 a2 a3 m2 ih (by omega)
      · refine Ev.run (pc' := 30) (ls' := [some (.ref 112), some (.int a1), some (.int a2), some (.int a3), none]) (st' := [.int 9, .int ((2 + (3 * a1)) + 1), .ref 144]) (m' := m2) [(.aload_n 0, 0, 0, 0, 0), (.getfield 109, 12, 47, 0, 0), (.iconst 2, 0, 0, 2, 0), (.iconst 3, 0, 0, 3, 0), (.iload_n 1, 0, 0, 0, 0), (.imul, 0, 0, 0, 0), (.iadd, 0, 0, 0, 0), (.iconst 1, 0, 0, 1, 0), (.iadd, 0, 0, 0, 0), (.bipush 9, 0, 0, 9, 0)] (by decide +kernel) rfl ?_
        refine Ev.iast (n := 147) (by decide +kernel) (by decide) rfl ?_
        exact EX12_ditched_J31 f (FX12_ditched_L4 f k a1 n) a1 a2 a3 ((ev_up m2.1 144 ((2 + (3 * a1)) + 1).toNatClampNeg 9), m2.2) ih (by omega)
set_option maxRecDepth 100000 in
set_option maxHeartbeats 4000000 in
theorem EX12_ditched {l : Launch} {Ln : Nat} {xs : Nat → Int32} {d : Nat} (f : Nat) (a1 : Int32) (m : ev_M)  (hd : 7 ≤ d) : Mv ev_eI l Ln xs YX12_ditched d Sx [.ref 112, .int a1] m (FX12_ditched f a1 m) := by
  refine Mv.of (by decide +kernel) rfl (Nat.le_of_ble_eq_true rfl) (Ev.le (ls' := [some (.ref 112), some (.int a1), none, none, none]) ⟨rfl, ⟨rfl, trivial⟩⟩ ?_)
  unfold FX12_ditched
  refine Ev.run (pc' := 4) (ls' := [some (.ref 112), some (.int a1), some (.int 0), some (.int (-1)), none]) (st' := []) (m' := m) [(.iconst 0, 0, 0, 0, 0), (.istore_n 2, 0, 0, 0, 0), (.iconst (-1), 0, 0, (-1), 0), (.istore_n 3, 0, 0, 0, 0)] (by decide +kernel) rfl ?_
  refine EX12_ditched_L4 f _ a1 ?_ (by omega) _ _ _ _
  intro e5 m6
  refine Ev.run (pc' := 70) (ls' := [none, none, some (.int e5), none, none]) (st' := [.int e5]) (m' := m6) [(.iload_n 2, 0, 0, 0, 0)] (by decide +kernel) rfl ?_
  exact Ev.ireti rfl rfl (by decide +kernel)
def FX12_game_J69 (f : Nat) (kt37 : Int32 → Int32 → Int32 → ev_M → Option (Int32 × ev_M))  (a2 : Int32) (a3 : Int32) (a4 : Int32)  (m : ev_M) : Option (Int32 × ev_M) :=
  (kt37 a2 a3 (a4 + 1) m)
def FX12_game_L37 (f : Nat) (k : Int32 → Int32 → ev_M → Option (Int32 × ev_M))   : Nat → Int32 → Int32 → Int32 → ev_M → Option (Int32 × ev_M)
  | 0, _, _, _, _ => none
  | n + 1, a2, a3, a4, m => (ev_bd (FX12_towerMany f m) (fun r9 m10 => (if r9 ≤ a4 then (k a2 a3 m10) else (ev_bd (FX12_ditched f a4 m10) (fun r11 m12 => (if r11 < a3 then (FX12_game_J69 f (FX12_game_L37 f k n) a4 r11 a4 m12) else (FX12_game_J69 f (FX12_game_L37 f k n) a2 a3 a4 m12)))))))
def FX12_game (f : Nat) (a1 : Int32) (m : ev_M) : Option (Int32 × ev_M) :=
  (ev_bd (FX12_isAhead f (1 : Int32) (1 : Int32) (1 : Int32) m) (fun r1 m2 => (if r1 = 0 then some ((-1), m2) else (ev_bd (FX12_isIn f (a1 : Int32).toInt64 (0 : Int64) (1 : Int64) m2) (fun r3 m4 => (if r3 = 0 then some ((-1), m4) else (ev_bd (FX12_putsAside f m4) (fun _ m6 => (ev_bd (FX12_ditched f (-1 : Int32) m6) (fun r7 m8 => (FX12_game_L37 f (fun e13 e14 m15 => (ev_bd (FX12_takesBack f m15) (fun _ m17 => (if a1 = 0 then some (e14, m17) else some (e13, m17))))) f (-1 : Int32) r7 (0 : Int32) m8)))))))))))
set_option maxRecDepth 100000 in
set_option maxHeartbeats 4000000 in
theorem EX12_game_J69 {l : Launch} {Ln : Nat} {xs : Nat → Int32} {d : Nat} (f : Nat) (kt37 : Int32 → Int32 → Int32 → ev_M → Option (Int32 × ev_M))  (a1 : Int32) (a2 : Int32) (a3 : Int32) (a4 : Int32)  (m : ev_M)  (hkt37 : ∀ (e2 : Int32) (e3 : Int32) (e4 : Int32) (em : ev_M), Ev ev_eI l Ln xs YX12_game d Sx 37 [some (.ref 112), some (.int a1), some (.int e2), some (.int e3), some (.int e4), none] [] em (kt37 e2 e3 e4 em)) (hd : 8 ≤ d) : Ev ev_eI l Ln xs YX12_game d Sx 69 [some (.ref 112), some (.int a1), some (.int a2), some (.int a3), some (.int a4), none] [] m (FX12_game_J69 f kt37 a2 a3 a4 m) := by
  unfold FX12_game_J69
  refine Ev.run (pc' := 72) (ls' := [some (.ref 112), some (.int a1), some (.int a2), some (.int a3), some (.int (a4 + 1)), none]) (st' := []) (m' := m) [(.iinc 4 1, 0, 0, 1, 0)] (by decide +kernel) rfl ?_
  refine Ev.gto (t := 37) (by decide +kernel) ?_
  exact hkt37 _ _ _ _
set_option maxRecDepth 100000 in
set_option maxHeartbeats 4000000 in
theorem EX12_game_L37 {l : Launch} {Ln : Nat} {xs : Nat → Int32} {d : Nat} (f : Nat) (k : Int32 → Int32 → ev_M → Option (Int32 × ev_M))  (a1 : Int32)   (hk : ∀ (e2 : Int32) (e3 : Int32) (em : ev_M), Ev ev_eI l Ln xs YX12_game d Sx 75 [some (.ref 112), some (.int a1), some (.int e2), some (.int e3), none, none] [] em (k e2 e3 em)) (hd : 8 ≤ d) : ∀ (n : Nat) (a2 : Int32) (a3 : Int32) (a4 : Int32) (m : ev_M), Ev ev_eI l Ln xs YX12_game d Sx 37 [some (.ref 112), some (.int a1), some (.int a2), some (.int a3), some (.int a4), none] [] m (FX12_game_L37 f k n a2 a3 a4 m) := by
  intro n
  induction n with
  | zero => intros; exact Ev.nn
  | succ n ih =>
    intro a2 a3 a4 m
    rw [FX12_game_L37]
    refine Ev.run (pc' := 40) (ls' := [some (.ref 112), some (.int a1), some (.int a2), some (.int a3), some (.int a4), none]) (st' := [.ref 112, .int a4]) (m' := m) [(.iload 4, 0, 0, 0, 0), (.aload_n 0, 0, 0, 0, 0)] (by decide +kernel) rfl ?_
    refine Ev.cV (av := []) (st := [.int a4]) (a := 112) (EX12_towerMany (l := l) (Ln := Ln) (xs := xs) (d := 0) f m (by decide)) rfl (by decide +kernel) mwX12_towerMany iwX12_towerMany vwX12_towerMany lk_12_369 (by omega) (by decide) rfl (by decide) rfl rfl (Nat.le_of_ble_eq_true rfl) (fun r9 m10 => ?_)
    refine Ev.ic_ge (t := 75) (by decide +kernel) ?_ ?_
    · refine Ev.le (ls' := [some (.ref 112), some (.int a1), some (.int a2), some (.int a3), none, none]) ⟨rfl, ⟨rfl, ⟨rfl, ⟨rfl, trivial⟩⟩⟩⟩ ?_
      exact hk _ _ _
    · refine Ev.run (pc' := 49) (ls' := [some (.ref 112), some (.int a1), some (.int a2), some (.int a3), some (.int a4), none]) (st' := [.int a4, .ref 112]) (m' := m10) [(.aload_n 0, 0, 0, 0, 0), (.iload 4, 0, 0, 0, 0)] (by decide +kernel) rfl ?_
      refine Ev.cV (av := [.int a4]) (st := []) (a := 112) (EX12_ditched (l := l) (Ln := Ln) (xs := xs) (d := 7) f a4 m10 (by decide)) rfl (by decide +kernel) mwX12_ditched iwX12_ditched vwX12_ditched lk_12_506 (by omega) (by decide) rfl (by decide) rfl rfl (Nat.le_of_ble_eq_true rfl) (fun r11 m12 => ?_)
      refine Ev.run (pc' := 57) (ls' := [some (.ref 112), some (.int a1), some (.int a2), some (.int a3), some (.int a4), some (.int r11)]) (st' := [.int a3, .int r11]) (m' := m12) [(.istore 5, 0, 0, 0, 0), (.iload 5, 0, 0, 0, 0), (.iload_n 3, 0, 0, 0, 0)] (by decide +kernel) rfl ?_
      refine Ev.ic_lt (t := 63) (by decide +kernel) ?_ ?_
      · refine Ev.run (pc' := 69) (ls' := [some (.ref 112), some (.int a1), some (.int a4), some (.int r11), some (.int a4), some (.int r11)]) (st' := []) (m' := m12) [(.iload 5, 0, 0, 0, 0), (.istore_n 3, 0, 0, 0, 0), (.iload 4, 0, 0, 0, 0), (.istore_n 2, 0, 0, 0, 0)] (by decide +kernel) rfl ?_
        refine Ev.le (ls' := [some (.ref 112), some (.int a1), some (.int a4), some (.int r11), some (.int a4), none]) ⟨rfl, ⟨rfl, ⟨rfl, ⟨rfl, ⟨rfl, trivial⟩⟩⟩⟩⟩ ?_
        exact EX12_game_J69 f (FX12_game_L37 f k n) a1 a4 r11 a4 m12 ih (by omega)
      · refine Ev.gto (t := 69) (by decide +kernel) ?_
        refine Ev.le (ls' := [some (.ref 112), some (.int a1), some (.int a2), some (.int a3), some (.int a4), none]) ⟨rfl, ⟨rfl, ⟨rfl, ⟨rfl, ⟨rfl, trivial⟩⟩⟩⟩⟩ ?_
        exact EX12_game_J69 f (FX12_game_L37 f k n) a1 a2 a3 a4 m12 ih (by omega)
set_option maxRecDepth 100000 in
set_option maxHeartbeats 4000000 in
theorem EX12_game {l : Launch} {Ln : Nat} {xs : Nat → Int32} {d : Nat} (f : Nat) (a1 : Int32) (m : ev_M)  (hd : 8 ≤ d) : Mv ev_eI l Ln xs YX12_game d Sx [.ref 112, .int a1] m (FX12_game f a1 m) := by
  refine Mv.of (by decide +kernel) rfl (Nat.le_of_ble_eq_true rfl) (Ev.le (ls' := [some (.ref 112), some (.int a1), none, none, none, none]) ⟨rfl, ⟨rfl, trivial⟩⟩ ?_)
  unfold FX12_game
  refine Ev.run (pc' := 4) (ls' := [some (.ref 112), some (.int a1), none, none, none, none]) (st' := [.int 1, .int 1, .int 1, .ref 112]) (m' := m) [(.aload_n 0, 0, 0, 0, 0), (.iconst 1, 0, 0, 1, 0), (.iconst 1, 0, 0, 1, 0), (.iconst 1, 0, 0, 1, 0)] (by decide +kernel) rfl ?_
  refine Ev.cV (av := [.int 1, .int 1, .int 1]) (st := []) (a := 112) (EX12_isAhead (l := l) (Ln := Ln) (xs := xs) (d := 1) f (1 : Int32) (1 : Int32) (1 : Int32) m (by decide)) rfl (by decide +kernel) mwX12_isAhead iwX12_isAhead vwX12_isAhead lk_12_464 (by omega) (by decide) rfl (by decide) rfl rfl (Nat.le_of_ble_eq_true rfl) (fun r1 m2 => ?_)
  refine Ev.if_eq (t := 20) (by decide +kernel) ?_ ?_
  · refine Ev.run (pc' := 21) (ls' := [some (.ref 112), some (.int a1), none, none, none, none]) (st' := [.int (-1)]) (m' := m2) [(.iconst (-1), 0, 0, (-1), 0)] (by decide +kernel) rfl ?_
    exact Ev.ireti rfl rfl (by decide +kernel)
  · refine Ev.run (pc' := 14) (ls' := [some (.ref 112), some (.int a1), none, none, none, none]) (st' := [.long 1, .long 0, .long (a1 : Int32).toInt64]) (m' := m2) [(.iload_n 1, 0, 0, 0, 0), (.i2l, 0, 0, 0, 0), (.lconst 0, 0, 0, 0, 0), (.lconst 1, 0, 0, 0, 1)] (by decide +kernel) rfl ?_
    refine Ev.cS (av := [.long (a1 : Int32).toInt64, .long 0, .long 1]) (st := []) (EX12_isIn (l := l) (Ln := Ln) (xs := xs) (d := 0) f (a1 : Int32).toInt64 (0 : Int64) (1 : Int64) m2 (by decide)) rfl (by decide +kernel) mwX12_isIn swX12_isIn lk_12_268 (by omega) rfl (Nat.le_of_ble_eq_true rfl) (fun r3 m4 => ?_)
    refine Ev.if_ne (t := 22) (by decide +kernel) ?_ ?_
    · refine Ev.run (pc' := 23) (ls' := [some (.ref 112), some (.int a1), none, none, none, none]) (st' := [.ref 112]) (m' := m4) [(.aload_n 0, 0, 0, 0, 0)] (by decide +kernel) rfl ?_
      refine Ev.cV (av := []) (st := []) (a := 112) (EX12_putsAside (l := l) (Ln := Ln) (xs := xs) (d := 0) f m4 (by decide)) rfl (by decide +kernel) mwX12_putsAside iwX12_putsAside vwX12_putsAside lk_12_468 (by omega) (by decide) rfl (by decide) rfl rfl (Nat.le_of_ble_eq_true rfl) (fun r5 m6 => ?_)
      refine Ev.run (pc' := 30) (ls' := [some (.ref 112), some (.int a1), some (.int (-1)), none, none, none]) (st' := [.int (-1), .ref 112]) (m' := m6) [(.iconst (-1), 0, 0, (-1), 0), (.istore_n 2, 0, 0, 0, 0), (.aload_n 0, 0, 0, 0, 0), (.iconst (-1), 0, 0, (-1), 0)] (by decide +kernel) rfl ?_
      refine Ev.cV (av := [.int (-1)]) (st := []) (a := 112) (EX12_ditched (l := l) (Ln := Ln) (xs := xs) (d := 7) f (-1 : Int32) m6 (by decide)) rfl (by decide +kernel) mwX12_ditched iwX12_ditched vwX12_ditched lk_12_506 (by omega) (by decide) rfl (by decide) rfl rfl (Nat.le_of_ble_eq_true rfl) (fun r7 m8 => ?_)
      refine Ev.run (pc' := 37) (ls' := [some (.ref 112), some (.int a1), some (.int (-1)), some (.int r7), some (.int 0), none]) (st' := []) (m' := m8) [(.istore_n 3, 0, 0, 0, 0), (.iconst 0, 0, 0, 0, 0), (.istore 4, 0, 0, 0, 0)] (by decide +kernel) rfl ?_
      refine EX12_game_L37 f _ a1 ?_ (by omega) _ _ _ _ _
      intro e13 e14 m15
      refine Ev.run (pc' := 76) (ls' := [some (.ref 112), some (.int a1), some (.int e13), some (.int e14), none, none]) (st' := [.ref 112]) (m' := m15) [(.aload_n 0, 0, 0, 0, 0)] (by decide +kernel) rfl ?_
      refine Ev.cV (av := []) (st := []) (a := 112) (EX12_takesBack (l := l) (Ln := Ln) (xs := xs) (d := 1) f m15 (by decide)) rfl (by decide +kernel) mwX12_takesBack iwX12_takesBack vwX12_takesBack lk_12_474 (by omega) (by decide) rfl (by decide) rfl rfl (Nat.le_of_ble_eq_true rfl) (fun r16 m17 => ?_)
      refine Ev.run (pc' := 80) (ls' := [some (.ref 112), some (.int a1), some (.int e13), some (.int e14), none, none]) (st' := [.int a1]) (m' := m17) [(.iload_n 1, 0, 0, 0, 0)] (by decide +kernel) rfl ?_
      refine Ev.if_ne (t := 87) (by decide +kernel) ?_ ?_
      · refine Ev.run (pc' := 88) (ls' := [some (.ref 112), some (.int a1), some (.int e13), some (.int e14), none, none]) (st' := [.int e13]) (m' := m17) [(.iload_n 2, 0, 0, 0, 0)] (by decide +kernel) rfl ?_
        exact Ev.ireti rfl rfl (by decide +kernel)
      · refine Ev.run (pc' := 84) (ls' := [some (.ref 112), some (.int a1), some (.int e13), some (.int e14), none, none]) (st' := [.int e14]) (m' := m17) [(.iload_n 3, 0, 0, 0, 0)] (by decide +kernel) rfl ?_
        refine Ev.gto (t := 88) (by decide +kernel) ?_
        exact Ev.ireti rfl rfl (by decide +kernel)
    · refine Ev.run (pc' := 21) (ls' := [some (.ref 112), some (.int a1), none, none, none, none]) (st' := [.int (-1)]) (m' := m4) [(.iconst (-1), 0, 0, (-1), 0)] (by decide +kernel) rfl ?_
      exact Ev.ireti rfl rfl (by decide +kernel)
