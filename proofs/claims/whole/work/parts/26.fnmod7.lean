def FX12_rule_J56 (f : Nat) (kt34 : Int32 → Int32 → ev_M → Option (Int32 × ev_M))  (a3 : Int32) (a4 : Int32)  (m : ev_M) : Option (Int32 × ev_M) :=
  (kt34 a3 (a4 + 1) m)
def FX12_rule_L34 (f : Nat) (k : Int32 → ev_M → Option (Int32 × ev_M))  (a1 : Int32) (a2 : Int32) : Nat → Int32 → Int32 → ev_M → Option (Int32 × ev_M)
  | 0, _, _, _ => none
  | n + 1, a3, a4, m => (if a2 ≤ a4 then (k a3 m) else (ev_bd (FX12_roundGoes f m) (fun _ m8 => (ev_bd (FX12_rowOf f a1 m8) (fun r9 m10 => (if r9 = (-1) then (FX12_rule_J56 f (FX12_rule_L34 f k a1 a2 n) a3 a4 m10) else (FX12_rule_J56 f (FX12_rule_L34 f k a1 a2 n) (a3 + 1) a4 m10)))))))
def FX12_rule (f : Nat) (a1 : Int32) (a2 : Int32) (m : ev_M) : Option (Int32 × ev_M) :=
  (ev_bd (FX12_isIn f (a1 : Int32).toInt64 (1 : Int64) (8 : Int64) m) (fun r1 m2 => (if r1 = 0 then some ((-1), m2) else (ev_bd (FX12_isAhead f a2 (1 : Int32) (60 : Int32) m2) (fun r3 m4 => (if r3 = 0 then some ((-1), m4) else (ev_bd (FX12_putsAside f m4) (fun _ m6 => (FX12_rule_L34 f (fun e11 m12 => (ev_bd (FX12_takesBack f m12) (fun _ m14 => some (e11, m14)))) a1 a2 f (0 : Int32) (0 : Int32) m6)))))))))
set_option maxRecDepth 100000 in
set_option maxHeartbeats 4000000 in
theorem EX12_rule_J56 {l : Launch} {Ln : Nat} {xs : Nat → Int32} {d : Nat} (f : Nat) (kt34 : Int32 → Int32 → ev_M → Option (Int32 × ev_M))  (a1 : Int32) (a2 : Int32) (a3 : Int32) (a4 : Int32)  (m : ev_M)  (hkt34 : ∀ (e3 : Int32) (e4 : Int32) (em : ev_M), Ev ev_eI l Ln xs YX12_rule d Sx 34 [some (.ref 112), some (.int a1), some (.int a2), some (.int e3), some (.int e4)] [] em (kt34 e3 e4 em)) (hd : 5 ≤ d) : Ev ev_eI l Ln xs YX12_rule d Sx 56 [some (.ref 112), some (.int a1), some (.int a2), some (.int a3), some (.int a4)] [] m (FX12_rule_J56 f kt34 a3 a4 m) := by
  unfold FX12_rule_J56
  refine Ev.run (pc' := 59) (ls' := [some (.ref 112), some (.int a1), some (.int a2), some (.int a3), some (.int (a4 + 1))]) (st' := []) (m' := m) [(.iinc 4 1, 0, 0, 1, 0)] (by decide +kernel) rfl ?_
  refine Ev.gto (t := 34) (by decide +kernel) ?_
  exact hkt34 _ _ _
set_option maxRecDepth 100000 in
set_option maxHeartbeats 4000000 in
theorem EX12_rule_L34 {l : Launch} {Ln : Nat} {xs : Nat → Int32} {d : Nat} (f : Nat) (k : Int32 → ev_M → Option (Int32 × ev_M))  (a1 : Int32) (a2 : Int32)   (hk : ∀ (e3 : Int32) (em : ev_M), Ev ev_eI l Ln xs YX12_rule d Sx 62 [some (.ref 112), none, none, some (.int e3), none] [] em (k e3 em)) (hd : 5 ≤ d) : ∀ (n : Nat) (a3 : Int32) (a4 : Int32) (m : ev_M), Ev ev_eI l Ln xs YX12_rule d Sx 34 [some (.ref 112), some (.int a1), some (.int a2), some (.int a3), some (.int a4)] [] m (FX12_rule_L34 f k a1 a2 n a3 a4 m) := by
  intro n
  induction n with
  | zero => intros; exact Ev.nn
  | succ n ih =>
    intro a3 a4 m
    rw [FX12_rule_L34]
    refine Ev.run (pc' := 37) (ls' := [some (.ref 112), some (.int a1), some (.int a2), some (.int a3), some (.int a4)]) (st' := [.int a2, .int a4]) (m' := m) [(.iload 4, 0, 0, 0, 0), (.iload_n 2, 0, 0, 0, 0)] (by decide +kernel) rfl ?_
    refine Ev.ic_ge (t := 62) (by decide +kernel) ?_ ?_
    · refine Ev.le (ls' := [some (.ref 112), none, none, some (.int a3), none]) ⟨rfl, ⟨rfl, trivial⟩⟩ ?_
      exact hk _ _
    · refine Ev.run (pc' := 41) (ls' := [some (.ref 112), some (.int a1), some (.int a2), some (.int a3), some (.int a4)]) (st' := [.ref 112]) (m' := m) [(.aload_n 0, 0, 0, 0, 0)] (by decide +kernel) rfl ?_
      refine Ev.cV (av := []) (st := []) (a := 112) (EX12_roundGoes (l := l) (Ln := Ln) (xs := xs) (d := 4) f m (by decide)) rfl (by decide +kernel) mwX12_roundGoes iwX12_roundGoes vwX12_roundGoes lk_12_446 (by omega) (by decide) rfl (by decide) rfl rfl (Nat.le_of_ble_eq_true rfl) (fun r7 m8 => ?_)
      refine Ev.run (pc' := 46) (ls' := [some (.ref 112), some (.int a1), some (.int a2), some (.int a3), some (.int a4)]) (st' := [.int a1, .ref 112]) (m' := m8) [(.aload_n 0, 0, 0, 0, 0), (.iload_n 1, 0, 0, 0, 0)] (by decide +kernel) rfl ?_
      refine Ev.cV (av := [.int a1]) (st := []) (a := 112) (EX12_rowOf (l := l) (Ln := Ln) (xs := xs) (d := 2) f a1 m8 (by decide)) rfl (by decide +kernel) mwX12_rowOf iwX12_rowOf vwX12_rowOf lk_12_437 (by omega) (by decide) rfl (by decide) rfl rfl (Nat.le_of_ble_eq_true rfl) (fun r9 m10 => ?_)
      refine Ev.run (pc' := 50) (ls' := [some (.ref 112), some (.int a1), some (.int a2), some (.int a3), some (.int a4)]) (st' := [.int (-1), .int r9]) (m' := m10) [(.iconst (-1), 0, 0, (-1), 0)] (by decide +kernel) rfl ?_
      refine Ev.ic_eq (t := 56) (by decide +kernel) ?_ ?_
      · exact EX12_rule_J56 f (FX12_rule_L34 f k a1 a2 n) a1 a2 a3 a4 m10 ih (by omega)
      · refine Ev.run (pc' := 56) (ls' := [some (.ref 112), some (.int a1), some (.int a2), some (.int (a3 + 1)), some (.int a4)]) (st' := []) (m' := m10) [(.iinc 3 1, 0, 0, 1, 0)] (by decide +kernel) rfl ?_
        exact EX12_rule_J56 f (FX12_rule_L34 f k a1 a2 n) a1 a2 (a3 + 1) a4 m10 ih (by omega)
set_option maxRecDepth 100000 in
set_option maxHeartbeats 4000000 in
theorem EX12_rule {l : Launch} {Ln : Nat} {xs : Nat → Int32} {d : Nat} (f : Nat) (a1 : Int32) (a2 : Int32) (m : ev_M)  (hd : 5 ≤ d) : Mv ev_eI l Ln xs YX12_rule d Sx [.ref 112, .int a1, .int a2] m (FX12_rule f a1 a2 m) := by
  refine Mv.of (by decide +kernel) rfl (Nat.le_of_ble_eq_true rfl) (Ev.le (ls' := [some (.ref 112), some (.int a1), some (.int a2), none, none]) ⟨rfl, ⟨rfl, ⟨rfl, trivial⟩⟩⟩ ?_)
  unfold FX12_rule
  refine Ev.run (pc' := 6) (ls' := [some (.ref 112), some (.int a1), some (.int a2), none, none]) (st' := [.long 8, .long 1, .long (a1 : Int32).toInt64]) (m' := m) [(.iload_n 1, 0, 0, 0, 0), (.i2l, 0, 0, 0, 0), (.lconst 1, 0, 0, 0, 1), (.ldc2_w 509, 0, 0, 0, 8)] (by decide +kernel) rfl ?_
  refine Ev.cS (av := [.long (a1 : Int32).toInt64, .long 1, .long 8]) (st := []) (EX12_isIn (l := l) (Ln := Ln) (xs := xs) (d := 0) f (a1 : Int32).toInt64 (1 : Int64) (8 : Int64) m (by decide)) rfl (by decide +kernel) mwX12_isIn swX12_isIn lk_12_268 (by omega) rfl (Nat.le_of_ble_eq_true rfl) (fun r1 m2 => ?_)
  refine Ev.if_eq (t := 23) (by decide +kernel) ?_ ?_
  · refine Ev.run (pc' := 24) (ls' := [some (.ref 112), some (.int a1), some (.int a2), none, none]) (st' := [.int (-1)]) (m' := m2) [(.iconst (-1), 0, 0, (-1), 0)] (by decide +kernel) rfl ?_
    exact Ev.ireti rfl rfl (by decide +kernel)
  · refine Ev.run (pc' := 17) (ls' := [some (.ref 112), some (.int a1), some (.int a2), none, none]) (st' := [.int 60, .int 1, .int a2, .ref 112]) (m' := m2) [(.aload_n 0, 0, 0, 0, 0), (.iload_n 2, 0, 0, 0, 0), (.iconst 1, 0, 0, 1, 0), (.bipush 60, 0, 0, 60, 0)] (by decide +kernel) rfl ?_
    refine Ev.cV (av := [.int a2, .int 1, .int 60]) (st := []) (a := 112) (EX12_isAhead (l := l) (Ln := Ln) (xs := xs) (d := 1) f a2 (1 : Int32) (60 : Int32) m2 (by decide)) rfl (by decide +kernel) mwX12_isAhead iwX12_isAhead vwX12_isAhead lk_12_464 (by omega) (by decide) rfl (by decide) rfl rfl (Nat.le_of_ble_eq_true rfl) (fun r3 m4 => ?_)
    refine Ev.if_ne (t := 25) (by decide +kernel) ?_ ?_
    · refine Ev.run (pc' := 28) (ls' := [some (.ref 112), some (.int a1), some (.int a2), some (.int 0), none]) (st' := [.ref 112]) (m' := m4) [(.iconst 0, 0, 0, 0, 0), (.istore_n 3, 0, 0, 0, 0), (.aload_n 0, 0, 0, 0, 0)] (by decide +kernel) rfl ?_
      refine Ev.cV (av := []) (st := []) (a := 112) (EX12_putsAside (l := l) (Ln := Ln) (xs := xs) (d := 0) f m4 (by decide)) rfl (by decide +kernel) mwX12_putsAside iwX12_putsAside vwX12_putsAside lk_12_468 (by omega) (by decide) rfl (by decide) rfl rfl (Nat.le_of_ble_eq_true rfl) (fun r5 m6 => ?_)
      refine Ev.run (pc' := 34) (ls' := [some (.ref 112), some (.int a1), some (.int a2), some (.int 0), some (.int 0)]) (st' := []) (m' := m6) [(.iconst 0, 0, 0, 0, 0), (.istore 4, 0, 0, 0, 0)] (by decide +kernel) rfl ?_
      refine EX12_rule_L34 f _ a1 a2 ?_ (by omega) _ _ _ _
      intro e11 m12
      refine Ev.run (pc' := 63) (ls' := [some (.ref 112), none, none, some (.int e11), none]) (st' := [.ref 112]) (m' := m12) [(.aload_n 0, 0, 0, 0, 0)] (by decide +kernel) rfl ?_
      refine Ev.cV (av := []) (st := []) (a := 112) (EX12_takesBack (l := l) (Ln := Ln) (xs := xs) (d := 1) f m12 (by decide)) rfl (by decide +kernel) mwX12_takesBack iwX12_takesBack vwX12_takesBack lk_12_474 (by omega) (by decide) rfl (by decide) rfl rfl (Nat.le_of_ble_eq_true rfl) (fun r13 m14 => ?_)
      refine Ev.run (pc' := 67) (ls' := [some (.ref 112), none, none, some (.int e11), none]) (st' := [.int e11]) (m' := m14) [(.iload_n 3, 0, 0, 0, 0)] (by decide +kernel) rfl ?_
      exact Ev.ireti rfl rfl (by decide +kernel)
    · refine Ev.run (pc' := 24) (ls' := [some (.ref 112), some (.int a1), some (.int a2), none, none]) (st' := [.int (-1)]) (m' := m4) [(.iconst (-1), 0, 0, (-1), 0)] (by decide +kernel) rfl ?_
      exact Ev.ireti rfl rfl (by decide +kernel)
def FX12_laysMoods_L66 (f : Nat) (k : ev_M → Option (Unit × ev_M))  (a2 : Int32) (a4 : Int32) : Nat → Int32 → ev_M → Option (Unit × ev_M)
  | 0, _, _ => none
  | n + 1, a5, m => (ev_bd (FX12_towerMany f m) (fun r5 m6 => (if r5 ≤ a5 then (k m6) else (if ev_in a5 8 then (if ev_in (((248 * a2) + (8 * a4)) + a5) 2480 then (FX12_laysMoods_L66 f k a2 a4 n (a5 + 1) ((ev_up m6.1 149 (((248 * a2) + (8 * a4)) + a5).toNatClampNeg (m6.1 146 a5.toNatClampNeg)), m6.2)) else none) else none))))
def FX12_laysMoods_J62 (f : Nat) (kt33 : Int32 → Int32 → ev_M → Option (Unit × ev_M))  (a2 : Int32) (a4 : Int32) (s0 : Int32) (m : ev_M) : Option (Unit × ev_M) :=
  (FX12_laysMoods_L66 f (fun m7 => (kt33 s0 (a4 + 1) m7)) a2 a4 f (0 : Int32) m)
def FX12_laysMoods_J61 (f : Nat) (kt33 : Int32 → Int32 → ev_M → Option (Unit × ev_M))  (a2 : Int32) (a4 : Int32)  (m : ev_M) : Option (Unit × ev_M) :=
  (FX12_laysMoods_J62 f kt33 a2 a4 (0 : Int32) m)
def FX12_laysMoods_L33 (f : Nat) (k : Int32 → ev_M → Option (Unit × ev_M))  (a2 : Int32) : Nat → Int32 → Int32 → ev_M → Option (Unit × ev_M)
  | 0, _, _, _ => none
  | n + 1, a3, a4, m => (if 30 < a4 then (k a3 m) else (ev_bd (FX12_roundGoes f m) (fun _ m4 => (if a3 = 0 then (FX12_laysMoods_J61 f (FX12_laysMoods_L33 f k a2 n) a2 a4 m4) else (ev_bd (FX12_isAsSeen f a4 m4) (fun r8 m9 => (if r8 = 0 then (FX12_laysMoods_J61 f (FX12_laysMoods_L33 f k a2 n) a2 a4 m9) else (FX12_laysMoods_J62 f (FX12_laysMoods_L33 f k a2 n) a2 a4 (1 : Int32) m9))))))))
def FX12_laysMoods_J138 (f : Nat) (kt11 : Int32 → ev_M → Option (Unit × ev_M))  (a2 : Int32)  (m : ev_M) : Option (Unit × ev_M) :=
  (kt11 (a2 + 1) m)
def FX12_laysMoods_L11 (f : Nat) (k : ev_M → Option (Unit × ev_M))  (a1 : Int32) : Nat → Int32 → ev_M → Option (Unit × ev_M)
  | 0, _, _ => none
  | n + 1, a2, m => (if 10 ≤ a2 then (k m) else (if ev_in (2 + (3 * a1)) 147 then (FX12_laysMoods_L33 f (fun e10 m11 => (ev_bd (FX12_triesAnew f m11) (fun _ m13 => (if ev_in a2 10 then (if e10 = 0 then (FX12_laysMoods_J138 f (FX12_laysMoods_L11 f k a1 n) a2 ((ev_up m13.1 150 a2.toNatClampNeg (e10 &&& 1)), m13.2)) else (FX12_laysMoods_J138 f (FX12_laysMoods_L11 f k a1 n) a2 ((ev_up (ev_up m13.1 150 a2.toNatClampNeg (e10 &&& 1)) 112 62 ((m13.1 112 62) + 1)), m13.2))) else none)))) a2 f (1 : Int32) (0 : Int32) ((ev_up m.1 144 (2 + (3 * a1)).toNatClampNeg a2), m.2)) else none))
def FX12_laysMoods (f : Nat) (a1 : Int32) (m : ev_M) : Option (Unit × ev_M) :=
  (ev_bd (FX12_putsAside f ((ev_up m.1 112 62 0), m.2)) (fun _ m2 => (FX12_laysMoods_L11 f (fun m14 => (ev_bd (FX12_takesBack f m14) (fun _ m16 => some ((), m16)))) a1 f (0 : Int32) m2)))
set_option maxRecDepth 100000 in
set_option maxHeartbeats 4000000 in
theorem EX12_laysMoods_L66 {l : Launch} {Ln : Nat} {xs : Nat → Int32} {d : Nat} (f : Nat) (k : ev_M → Option (Unit × ev_M))  (a1 : Int32) (a2 : Int32) (a3 : Int32) (a4 : Int32)   (hk : ∀  (em : ev_M), Ev ev_eV l Ln xs YX12_laysMoods d Sx 107 [some (.ref 112), some (.int a1), some (.int a2), some (.int a3), some (.int a4), none] [] em (k em)) (hd : 5 ≤ d) : ∀ (n : Nat) (a5 : Int32) (m : ev_M), Ev ev_eV l Ln xs YX12_laysMoods d Sx 66 [some (.ref 112), some (.int a1), some (.int a2), some (.int a3), some (.int a4), some (.int a5)] [] m (FX12_laysMoods_L66 f k a2 a4 n a5 m) := by
  intro n
  induction n with
  | zero => intros; exact Ev.nn
  | succ n ih =>
    intro a5 m
    rw [FX12_laysMoods_L66]
    refine Ev.run (pc' := 69) (ls' := [some (.ref 112), some (.int a1), some (.int a2), some (.int a3), some (.int a4), some (.int a5)]) (st' := [.ref 112, .int a5]) (m' := m) [(.iload 5, 0, 0, 0, 0), (.aload_n 0, 0, 0, 0, 0)] (by decide +kernel) rfl ?_
    refine Ev.cV (av := []) (st := [.int a5]) (a := 112) (EX12_towerMany (l := l) (Ln := Ln) (xs := xs) (d := 0) f m (by decide)) rfl (by decide +kernel) mwX12_towerMany iwX12_towerMany vwX12_towerMany lk_12_369 (by omega) (by decide) rfl (by decide) rfl rfl (Nat.le_of_ble_eq_true rfl) (fun r5 m6 => ?_)
    refine Ev.ic_ge (t := 107) (by decide +kernel) ?_ ?_
    · refine Ev.le (ls' := [some (.ref 112), some (.int a1), some (.int a2), some (.int a3), some (.int a4), none]) ⟨rfl, ⟨rfl, ⟨rfl, ⟨rfl, ⟨rfl, trivial⟩⟩⟩⟩⟩ ?_
      exact hk _
    · refine Ev.run (pc' := 99) (ls' := [some (.ref 112), some (.int a1), some (.int a2), some (.int a3), some (.int a4), some (.int a5)]) (st' := [.int a5, .ref 146, .int (((248 * a2) + (8 * a4)) + a5), .ref 149]) (m' := m6) [(.aload_n 0, 0, 0, 0, 0), (.getfield 124, 12, 60, 0, 0), (.sipush 248, 0, 0, 248, 0), (.iload_n 2, 0, 0, 0, 0), (.imul, 0, 0, 0, 0), (.bipush 8, 0, 0, 8, 0), (.iload 4, 0, 0, 0, 0), (.imul, 0, 0, 0, 0), (.iadd, 0, 0, 0, 0), (.iload 5, 0, 0, 0, 0), (.iadd, 0, 0, 0, 0), (.aload_n 0, 0, 0, 0, 0), (.getfield 115, 12, 52, 0, 0), (.iload 5, 0, 0, 0, 0)] (by decide +kernel) rfl ?_
      refine Ev.iald (n := 8) (by decide +kernel) (by decide) rfl ?_
      refine Ev.iast (n := 2480) (by decide +kernel) (by decide) rfl ?_
      refine Ev.run (pc' := 104) (ls' := [some (.ref 112), some (.int a1), some (.int a2), some (.int a3), some (.int a4), some (.int (a5 + 1))]) (st' := []) (m' := ((ev_up m6.1 149 (((248 * a2) + (8 * a4)) + a5).toNatClampNeg (m6.1 146 a5.toNatClampNeg)), m6.2)) [(.iinc 5 1, 0, 0, 1, 0)] (by decide +kernel) rfl ?_
      refine Ev.gto (t := 66) (by decide +kernel) ?_
      exact ih _ _
set_option maxRecDepth 100000 in
set_option maxHeartbeats 4000000 in
theorem EX12_laysMoods_J62 {l : Launch} {Ln : Nat} {xs : Nat → Int32} {d : Nat} (f : Nat) (kt33 : Int32 → Int32 → ev_M → Option (Unit × ev_M))  (a1 : Int32) (a2 : Int32) (a4 : Int32) (s0 : Int32) (m : ev_M)  (hkt33 : ∀ (e3 : Int32) (e4 : Int32) (em : ev_M), Ev ev_eV l Ln xs YX12_laysMoods d Sx 33 [some (.ref 112), some (.int a1), some (.int a2), some (.int e3), some (.int e4), none] [] em (kt33 e3 e4 em)) (hd : 5 ≤ d) : Ev ev_eV l Ln xs YX12_laysMoods d Sx 62 [some (.ref 112), some (.int a1), some (.int a2), none, some (.int a4), none] [.int s0] m (FX12_laysMoods_J62 f kt33 a2 a4 s0 m) := by
  unfold FX12_laysMoods_J62
  refine Ev.run (pc' := 66) (ls' := [some (.ref 112), some (.int a1), some (.int a2), some (.int s0), some (.int a4), some (.int 0)]) (st' := []) (m' := m) [(.istore_n 3, 0, 0, 0, 0), (.iconst 0, 0, 0, 0, 0), (.istore 5, 0, 0, 0, 0)] (by decide +kernel) rfl ?_
  refine EX12_laysMoods_L66 f _ a1 a2 s0 a4 ?_ (by omega) _ _ _
  intro m7
  refine Ev.run (pc' := 110) (ls' := [some (.ref 112), some (.int a1), some (.int a2), some (.int s0), some (.int (a4 + 1)), none]) (st' := []) (m' := m7) [(.iinc 4 1, 0, 0, 1, 0)] (by decide +kernel) rfl ?_
  refine Ev.gto (t := 33) (by decide +kernel) ?_
  exact hkt33 _ _ _
set_option maxRecDepth 100000 in
set_option maxHeartbeats 4000000 in
theorem EX12_laysMoods_J61 {l : Launch} {Ln : Nat} {xs : Nat → Int32} {d : Nat} (f : Nat) (kt33 : Int32 → Int32 → ev_M → Option (Unit × ev_M))  (a1 : Int32) (a2 : Int32) (a4 : Int32)  (m : ev_M)  (hkt33 : ∀ (e3 : Int32) (e4 : Int32) (em : ev_M), Ev ev_eV l Ln xs YX12_laysMoods d Sx 33 [some (.ref 112), some (.int a1), some (.int a2), some (.int e3), some (.int e4), none] [] em (kt33 e3 e4 em)) (hd : 5 ≤ d) : Ev ev_eV l Ln xs YX12_laysMoods d Sx 61 [some (.ref 112), some (.int a1), some (.int a2), none, some (.int a4), none] [] m (FX12_laysMoods_J61 f kt33 a2 a4 m) := by
  unfold FX12_laysMoods_J61
  refine Ev.run (pc' := 62) (ls' := [some (.ref 112), some (.int a1), some (.int a2), none, some (.int a4), none]) (st' := [.int 0]) (m' := m) [(.iconst 0, 0, 0, 0, 0)] (by decide +kernel) rfl ?_
  exact EX12_laysMoods_J62 f kt33 a1 a2 a4 (0 : Int32) m hkt33 (by omega)
set_option maxRecDepth 100000 in
set_option maxHeartbeats 4000000 in
theorem EX12_laysMoods_L33 {l : Launch} {Ln : Nat} {xs : Nat → Int32} {d : Nat} (f : Nat) (k : Int32 → ev_M → Option (Unit × ev_M))  (a1 : Int32) (a2 : Int32)   (hk : ∀ (e3 : Int32) (em : ev_M), Ev ev_eV l Ln xs YX12_laysMoods d Sx 113 [some (.ref 112), some (.int a1), some (.int a2), some (.int e3), none, none] [] em (k e3 em)) (hd : 5 ≤ d) : ∀ (n : Nat) (a3 : Int32) (a4 : Int32) (m : ev_M), Ev ev_eV l Ln xs YX12_laysMoods d Sx 33 [some (.ref 112), some (.int a1), some (.int a2), some (.int a3), some (.int a4), none] [] m (FX12_laysMoods_L33 f k a2 n a3 a4 m) := by
  intro n
  induction n with
  | zero => intros; exact Ev.nn
  | succ n ih =>
    intro a3 a4 m
    rw [FX12_laysMoods_L33]
    refine Ev.run (pc' := 37) (ls' := [some (.ref 112), some (.int a1), some (.int a2), some (.int a3), some (.int a4), none]) (st' := [.int 30, .int a4]) (m' := m) [(.iload 4, 0, 0, 0, 0), (.bipush 30, 0, 0, 30, 0)] (by decide +kernel) rfl ?_
    refine Ev.ic_gt (t := 113) (by decide +kernel) ?_ ?_
    · refine Ev.le (ls' := [some (.ref 112), some (.int a1), some (.int a2), some (.int a3), none, none]) ⟨rfl, ⟨rfl, ⟨rfl, ⟨rfl, trivial⟩⟩⟩⟩ ?_
      exact hk _ _
    · refine Ev.run (pc' := 41) (ls' := [some (.ref 112), some (.int a1), some (.int a2), some (.int a3), some (.int a4), none]) (st' := [.ref 112]) (m' := m) [(.aload_n 0, 0, 0, 0, 0)] (by decide +kernel) rfl ?_
      refine Ev.cV (av := []) (st := []) (a := 112) (EX12_roundGoes (l := l) (Ln := Ln) (xs := xs) (d := 4) f m (by decide)) rfl (by decide +kernel) mwX12_roundGoes iwX12_roundGoes vwX12_roundGoes lk_12_446 (by omega) (by decide) rfl (by decide) rfl rfl (Nat.le_of_ble_eq_true rfl) (fun r3 m4 => ?_)
      refine Ev.run (pc' := 45) (ls' := [some (.ref 112), some (.int a1), some (.int a2), some (.int a3), some (.int a4), none]) (st' := [.int a3]) (m' := m4) [(.iload_n 3, 0, 0, 0, 0)] (by decide +kernel) rfl ?_
      refine Ev.if_eq (t := 61) (by decide +kernel) ?_ ?_
      · refine Ev.le (ls' := [some (.ref 112), some (.int a1), some (.int a2), none, some (.int a4), none]) ⟨rfl, ⟨rfl, ⟨rfl, ⟨rfl, trivial⟩⟩⟩⟩ ?_
        exact EX12_laysMoods_J61 f (FX12_laysMoods_L33 f k a2 n) a1 a2 a4 m4 ih (by omega)
      · refine Ev.run (pc' := 51) (ls' := [some (.ref 112), some (.int a1), some (.int a2), some (.int a3), some (.int a4), none]) (st' := [.int a4, .ref 112]) (m' := m4) [(.aload_n 0, 0, 0, 0, 0), (.iload 4, 0, 0, 0, 0)] (by decide +kernel) rfl ?_
        refine Ev.cV (av := [.int a4]) (st := []) (a := 112) (EX12_isAsSeen (l := l) (Ln := Ln) (xs := xs) (d := 0) f a4 m4 (by decide)) rfl (by decide +kernel) mwX12_isAsSeen iwX12_isAsSeen vwX12_isAsSeen lk_12_517 (by omega) (by decide) rfl (by decide) rfl rfl (Nat.le_of_ble_eq_true rfl) (fun r8 m9 => ?_)
        refine Ev.if_eq (t := 61) (by decide +kernel) ?_ ?_
        · refine Ev.le (ls' := [some (.ref 112), some (.int a1), some (.int a2), none, some (.int a4), none]) ⟨rfl, ⟨rfl, ⟨rfl, ⟨rfl, trivial⟩⟩⟩⟩ ?_
          exact EX12_laysMoods_J61 f (FX12_laysMoods_L33 f k a2 n) a1 a2 a4 m9 ih (by omega)
        · refine Ev.run (pc' := 58) (ls' := [some (.ref 112), some (.int a1), some (.int a2), some (.int a3), some (.int a4), none]) (st' := [.int 1]) (m' := m9) [(.iconst 1, 0, 0, 1, 0)] (by decide +kernel) rfl ?_
          refine Ev.gto (t := 62) (by decide +kernel) ?_
          refine Ev.le (ls' := [some (.ref 112), some (.int a1), some (.int a2), none, some (.int a4), none]) ⟨rfl, ⟨rfl, ⟨rfl, ⟨rfl, trivial⟩⟩⟩⟩ ?_
          exact EX12_laysMoods_J62 f (FX12_laysMoods_L33 f k a2 n) a1 a2 a4 (1 : Int32) m9 ih (by omega)
set_option maxRecDepth 100000 in
set_option maxHeartbeats 4000000 in
theorem EX12_laysMoods_J138 {l : Launch} {Ln : Nat} {xs : Nat → Int32} {d : Nat} (f : Nat) (kt11 : Int32 → ev_M → Option (Unit × ev_M))  (a1 : Int32) (a2 : Int32)  (m : ev_M)  (hkt11 : ∀ (e2 : Int32) (em : ev_M), Ev ev_eV l Ln xs YX12_laysMoods d Sx 11 [some (.ref 112), some (.int a1), some (.int e2), none, none, none] [] em (kt11 e2 em)) (hd : 5 ≤ d) : Ev ev_eV l Ln xs YX12_laysMoods d Sx 138 [some (.ref 112), some (.int a1), some (.int a2), none, none, none] [] m (FX12_laysMoods_J138 f kt11 a2 m) := by
  unfold FX12_laysMoods_J138
  refine Ev.run (pc' := 141) (ls' := [some (.ref 112), some (.int a1), some (.int (a2 + 1)), none, none, none]) (st' := []) (m' := m) [(.iinc 2 1, 0, 0, 1, 0)] (by decide +kernel) rfl ?_
  refine Ev.gto (t := 11) (by decide +kernel) ?_
  exact hkt11 _ _
set_option maxRecDepth 100000 in
set_option maxHeartbeats 4000000 in
theorem EX12_laysMoods_L11 {l : Launch} {Ln : Nat} {xs : Nat → Int32} {d : Nat} (f : Nat) (k : ev_M → Option (Unit × ev_M))  (a1 : Int32)   (hk : ∀  (em : ev_M), Ev ev_eV l Ln xs YX12_laysMoods d Sx 144 [some (.ref 112), none, none, none, none, none] [] em (k em)) (hd : 5 ≤ d) : ∀ (n : Nat) (a2 : Int32) (m : ev_M), Ev ev_eV l Ln xs YX12_laysMoods d Sx 11 [some (.ref 112), some (.int a1), some (.int a2), none, none, none] [] m (FX12_laysMoods_L11 f k a1 n a2 m) := by
  intro n
  induction n with
  | zero => intros; exact Ev.nn
  | succ n ih =>
    intro a2 m
    rw [FX12_laysMoods_L11]
    refine Ev.run (pc' := 14) (ls' := [some (.ref 112), some (.int a1), some (.int a2), none, none, none]) (st' := [.int 10, .int a2]) (m' := m) [(.iload_n 2, 0, 0, 0, 0), (.bipush 10, 0, 0, 10, 0)] (by decide +kernel) rfl ?_
    refine Ev.ic_ge (t := 144) (by decide +kernel) ?_ ?_
    · refine Ev.le (ls' := [some (.ref 112), none, none, none, none, none]) ⟨rfl, trivial⟩ ?_
      exact hk _
    · refine Ev.run (pc' := 27) (ls' := [some (.ref 112), some (.int a1), some (.int a2), none, none, none]) (st' := [.int a2, .int (2 + (3 * a1)), .ref 144]) (m' := m) [(.aload_n 0, 0, 0, 0, 0), (.getfield 109, 12, 47, 0, 0), (.iconst 2, 0, 0, 2, 0), (.iconst 3, 0, 0, 3, 0), (.iload_n 1, 0, 0, 0, 0), (.imul, 0, 0, 0, 0), (.iadd, 0, 0, 0, 0), (.iload_n 2, 0, 0, 0, 0)] (by decide +kernel) rfl ?_
      refine Ev.iast (n := 147) (by decide +kernel) (by decide) rfl ?_
      refine Ev.run (pc' := 33) (ls' := [some (.ref 112), some (.int a1), some (.int a2), some (.int 1), some (.int 0), none]) (st' := []) (m' := ((ev_up m.1 144 (2 + (3 * a1)).toNatClampNeg a2), m.2)) [(.iconst 1, 0, 0, 1, 0), (.istore_n 3, 0, 0, 0, 0), (.iconst 0, 0, 0, 0, 0), (.istore 4, 0, 0, 0, 0)] (by decide +kernel) rfl ?_
      refine EX12_laysMoods_L33 f _ a1 a2 ?_ (by omega) _ _ _ _
      intro e10 m11
      refine Ev.run (pc' := 114) (ls' := [some (.ref 112), some (.int a1), some (.int a2), some (.int e10), none, none]) (st' := [.ref 112]) (m' := m11) [(.aload_n 0, 0, 0, 0, 0)] (by decide +kernel) rfl ?_
      refine Ev.cV (av := []) (st := []) (a := 112) (EX12_triesAnew (l := l) (Ln := Ln) (xs := xs) (d := 0) f m11 (by decide)) rfl (by decide +kernel) mwX12_triesAnew iwX12_triesAnew vwX12_triesAnew lk_12_449 (by omega) (by decide) rfl (by decide) rfl rfl (Nat.le_of_ble_eq_true rfl) (fun r12 m13 => ?_)
      refine Ev.run (pc' := 123) (ls' := [some (.ref 112), some (.int a1), some (.int a2), some (.int e10), none, none]) (st' := [.int e10, .int a2, .ref 150]) (m' := m13) [(.aload_n 0, 0, 0, 0, 0), (.getfield 127, 12, 61, 0, 0), (.iload_n 2, 0, 0, 0, 0), (.iload_n 3, 0, 0, 0, 0)] (by decide +kernel) rfl ?_
      refine Ev.zast (n := 10) (by decide +kernel) (by decide) rfl ?_
      refine Ev.run (pc' := 125) (ls' := [some (.ref 112), some (.int a1), some (.int a2), some (.int e10), none, none]) (st' := [.int e10]) (m' := ((ev_up m13.1 150 a2.toNatClampNeg (e10 &&& 1)), m13.2)) [(.iload_n 3, 0, 0, 0, 0)] (by decide +kernel) rfl ?_
      refine Ev.if_eq (t := 138) (by decide +kernel) ?_ ?_
      · refine Ev.le (ls' := [some (.ref 112), some (.int a1), some (.int a2), none, none, none]) ⟨rfl, ⟨rfl, ⟨rfl, trivial⟩⟩⟩ ?_
        exact EX12_laysMoods_J138 f (FX12_laysMoods_L11 f k a1 n) a1 a2 ((ev_up m13.1 150 a2.toNatClampNeg (e10 &&& 1)), m13.2) ih (by omega)
      · refine Ev.run (pc' := 138) (ls' := [some (.ref 112), some (.int a1), some (.int a2), some (.int e10), none, none]) (st' := []) (m' := ((ev_up (ev_up m13.1 150 a2.toNatClampNeg (e10 &&& 1)) 112 62 ((m13.1 112 62) + 1)), m13.2)) [(.aload_n 0, 0, 0, 0, 0), (.dup, 0, 0, 0, 0), (.getfield 514, 12, 62, 0, 0), (.iconst 1, 0, 0, 1, 0), (.iadd, 0, 0, 0, 0), (.putfield 514, 12, 62, 0, 0)] (by decide +kernel) rfl ?_
        refine Ev.le (ls' := [some (.ref 112), some (.int a1), some (.int a2), none, none, none]) ⟨rfl, ⟨rfl, ⟨rfl, trivial⟩⟩⟩ ?_
        exact EX12_laysMoods_J138 f (FX12_laysMoods_L11 f k a1 n) a1 a2 ((ev_up (ev_up m13.1 150 a2.toNatClampNeg (e10 &&& 1)) 112 62 ((m13.1 112 62) + 1)), m13.2) ih (by omega)
set_option maxRecDepth 100000 in
set_option maxHeartbeats 4000000 in
theorem EX12_laysMoods {l : Launch} {Ln : Nat} {xs : Nat → Int32} {d : Nat} (f : Nat) (a1 : Int32) (m : ev_M)  (hd : 5 ≤ d) : Mv ev_eV l Ln xs YX12_laysMoods d Sx [.ref 112, .int a1] m (FX12_laysMoods f a1 m) := by
  refine Mv.of (by decide +kernel) rfl (Nat.le_of_ble_eq_true rfl) (Ev.le (ls' := [some (.ref 112), some (.int a1), none, none, none, none]) ⟨rfl, ⟨rfl, trivial⟩⟩ ?_)
  unfold FX12_laysMoods
  refine Ev.run (pc' := 6) (ls' := [some (.ref 112), some (.int a1), none, none, none, none]) (st' := [.ref 112]) (m' := ((ev_up m.1 112 62 0), m.2)) [(.aload_n 0, 0, 0, 0, 0), (.iconst 0, 0, 0, 0, 0), (.putfield 514, 12, 62, 0, 0), (.aload_n 0, 0, 0, 0, 0)] (by decide +kernel) rfl ?_
  refine Ev.cV (av := []) (st := []) (a := 112) (EX12_putsAside (l := l) (Ln := Ln) (xs := xs) (d := 0) f ((ev_up m.1 112 62 0), m.2) (by decide)) rfl (by decide +kernel) mwX12_putsAside iwX12_putsAside vwX12_putsAside lk_12_468 (by omega) (by decide) rfl (by decide) rfl rfl (Nat.le_of_ble_eq_true rfl) (fun r1 m2 => ?_)
  refine Ev.run (pc' := 11) (ls' := [some (.ref 112), some (.int a1), some (.int 0), none, none, none]) (st' := []) (m' := m2) [(.iconst 0, 0, 0, 0, 0), (.istore_n 2, 0, 0, 0, 0)] (by decide +kernel) rfl ?_
  refine EX12_laysMoods_L11 f _ a1 ?_ (by omega) _ _ _
  intro m14
  refine Ev.run (pc' := 145) (ls' := [some (.ref 112), none, none, none, none, none]) (st' := [.ref 112]) (m' := m14) [(.aload_n 0, 0, 0, 0, 0)] (by decide +kernel) rfl ?_
  refine Ev.cV (av := []) (st := []) (a := 112) (EX12_takesBack (l := l) (Ln := Ln) (xs := xs) (d := 1) f m14 (by decide)) rfl (by decide +kernel) mwX12_takesBack iwX12_takesBack vwX12_takesBack lk_12_474 (by omega) (by decide) rfl (by decide) rfl rfl (Nat.le_of_ble_eq_true rfl) (fun r15 m16 => ?_)
  exact Ev.retv rfl rfl (by decide +kernel)
def FX12_moods_J40 (f : Nat) (kt19 : Int32 → Int32 → ev_M → Option (Int32 × ev_M))  (a2 : Int32) (a3 : Int32)  (m : ev_M) : Option (Int32 × ev_M) :=
  (kt19 a2 (a3 + 1) m)
def FX12_moods_L19 (f : Nat) (k : Int32 → ev_M → Option (Int32 × ev_M))   : Nat → Int32 → Int32 → ev_M → Option (Int32 × ev_M)
  | 0, _, _, _ => none
  | n + 1, a2, a3, m => (if 10 ≤ a3 then (k a2 m) else (if ev_in a3 10 then (if (m.1 150 a3.toNatClampNeg) = 0 then (FX12_moods_J40 f (FX12_moods_L19 f k n) a2 a3 m) else (FX12_moods_J40 f (FX12_moods_L19 f k n) (a2 ||| (1 <<< (a3 &&& 31))) a3 m)) else none))
def FX12_moods (f : Nat) (a1 : Int32) (m : ev_M) : Option (Int32 × ev_M) :=
  (ev_bd (FX12_isTower f a1 m) (fun r1 m2 => (if r1 = 0 then some ((-1), m2) else (ev_bd (FX12_laysMoods f a1 m2) (fun _ m4 => (FX12_moods_L19 f (fun e5 m6 => some (e5, m6)) f (0 : Int32) (0 : Int32) m4))))))
set_option maxRecDepth 100000 in
set_option maxHeartbeats 4000000 in
theorem EX12_moods_J40 {l : Launch} {Ln : Nat} {xs : Nat → Int32} {d : Nat} (f : Nat) (kt19 : Int32 → Int32 → ev_M → Option (Int32 × ev_M))  (a2 : Int32) (a3 : Int32)  (m : ev_M)  (hkt19 : ∀ (e2 : Int32) (e3 : Int32) (em : ev_M), Ev ev_eI l Ln xs YX12_moods d Sx 19 [some (.ref 112), none, some (.int e2), some (.int e3)] [] em (kt19 e2 e3 em)) (hd : 6 ≤ d) : Ev ev_eI l Ln xs YX12_moods d Sx 40 [some (.ref 112), none, some (.int a2), some (.int a3)] [] m (FX12_moods_J40 f kt19 a2 a3 m) := by
  unfold FX12_moods_J40
  refine Ev.run (pc' := 43) (ls' := [some (.ref 112), none, some (.int a2), some (.int (a3 + 1))]) (st' := []) (m' := m) [(.iinc 3 1, 0, 0, 1, 0)] (by decide +kernel) rfl ?_
  refine Ev.gto (t := 19) (by decide +kernel) ?_
  exact hkt19 _ _ _
set_option maxRecDepth 100000 in
set_option maxHeartbeats 4000000 in
theorem EX12_moods_L19 {l : Launch} {Ln : Nat} {xs : Nat → Int32} {d : Nat} (f : Nat) (k : Int32 → ev_M → Option (Int32 × ev_M))     (hk : ∀ (e2 : Int32) (em : ev_M), Ev ev_eI l Ln xs YX12_moods d Sx 46 [none, none, some (.int e2), none] [] em (k e2 em)) (hd : 6 ≤ d) : ∀ (n : Nat) (a2 : Int32) (a3 : Int32) (m : ev_M), Ev ev_eI l Ln xs YX12_moods d Sx 19 [some (.ref 112), none, some (.int a2), some (.int a3)] [] m (FX12_moods_L19 f k n a2 a3 m) := by
  intro n
  induction n with
  | zero => intros; exact Ev.nn
  | succ n ih =>
    intro a2 a3 m
    rw [FX12_moods_L19]
    refine Ev.run (pc' := 22) (ls' := [some (.ref 112), none, some (.int a2), some (.int a3)]) (st' := [.int 10, .int a3]) (m' := m) [(.iload_n 3, 0, 0, 0, 0), (.bipush 10, 0, 0, 10, 0)] (by decide +kernel) rfl ?_
    refine Ev.ic_ge (t := 46) (by decide +kernel) ?_ ?_
    · refine Ev.le (ls' := [none, none, some (.int a2), none]) ⟨rfl, trivial⟩ ?_
      exact hk _ _
    · refine Ev.run (pc' := 30) (ls' := [some (.ref 112), none, some (.int a2), some (.int a3)]) (st' := [.int a3, .ref 150]) (m' := m) [(.aload_n 0, 0, 0, 0, 0), (.getfield 127, 12, 61, 0, 0), (.iload_n 3, 0, 0, 0, 0)] (by decide +kernel) rfl ?_
      refine Ev.zald (n := 10) (by decide +kernel) (by decide) rfl ?_
      refine Ev.if_eq (t := 40) (by decide +kernel) ?_ ?_
      · exact EX12_moods_J40 f (FX12_moods_L19 f k n) a2 a3 m ih (by omega)
      · refine Ev.run (pc' := 40) (ls' := [some (.ref 112), none, some (.int (a2 ||| (1 <<< (a3 &&& 31)))), some (.int a3)]) (st' := []) (m' := m) [(.iload_n 2, 0, 0, 0, 0), (.iconst 1, 0, 0, 1, 0), (.iload_n 3, 0, 0, 0, 0), (.ishl, 0, 0, 0, 0), (.ior, 0, 0, 0, 0), (.istore_n 2, 0, 0, 0, 0)] (by decide +kernel) rfl ?_
        exact EX12_moods_J40 f (FX12_moods_L19 f k n) (a2 ||| (1 <<< (a3 &&& 31))) a3 m ih (by omega)
set_option maxRecDepth 100000 in
set_option maxHeartbeats 4000000 in
theorem EX12_moods {l : Launch} {Ln : Nat} {xs : Nat → Int32} {d : Nat} (f : Nat) (a1 : Int32) (m : ev_M)  (hd : 6 ≤ d) : Mv ev_eI l Ln xs YX12_moods d Sx [.ref 112, .int a1] m (FX12_moods f a1 m) := by
  refine Mv.of (by decide +kernel) rfl (Nat.le_of_ble_eq_true rfl) (Ev.le (ls' := [some (.ref 112), some (.int a1), none, none]) ⟨rfl, ⟨rfl, trivial⟩⟩ ?_)
  unfold FX12_moods
  refine Ev.run (pc' := 2) (ls' := [some (.ref 112), some (.int a1), none, none]) (st' := [.int a1, .ref 112]) (m' := m) [(.aload_n 0, 0, 0, 0, 0), (.iload_n 1, 0, 0, 0, 0)] (by decide +kernel) rfl ?_
  refine Ev.cV (av := [.int a1]) (st := []) (a := 112) (EX12_isTower (l := l) (Ln := Ln) (xs := xs) (d := 1) f a1 m (by decide)) rfl (by decide +kernel) mwX12_isTower iwX12_isTower vwX12_isTower lk_12_455 (by omega) (by decide) rfl (by decide) rfl rfl (Nat.le_of_ble_eq_true rfl) (fun r1 m2 => ?_)
  refine Ev.if_ne (t := 10) (by decide +kernel) ?_ ?_
  · refine Ev.run (pc' := 12) (ls' := [some (.ref 112), some (.int a1), none, none]) (st' := [.int a1, .ref 112]) (m' := m2) [(.aload_n 0, 0, 0, 0, 0), (.iload_n 1, 0, 0, 0, 0)] (by decide +kernel) rfl ?_
    refine Ev.cV (av := [.int a1]) (st := []) (a := 112) (EX12_laysMoods (l := l) (Ln := Ln) (xs := xs) (d := 5) f a1 m2 (by decide)) rfl (by decide +kernel) mwX12_laysMoods iwX12_laysMoods vwX12_laysMoods lk_12_520 (by omega) (by decide) rfl (by decide) rfl rfl (Nat.le_of_ble_eq_true rfl) (fun r3 m4 => ?_)
    refine Ev.run (pc' := 19) (ls' := [some (.ref 112), some (.int a1), some (.int 0), some (.int 0)]) (st' := []) (m' := m4) [(.iconst 0, 0, 0, 0, 0), (.istore_n 2, 0, 0, 0, 0), (.iconst 0, 0, 0, 0, 0), (.istore_n 3, 0, 0, 0, 0)] (by decide +kernel) rfl ?_
    refine Ev.le (ls' := [some (.ref 112), none, some (.int 0), some (.int 0)]) ⟨rfl, ⟨rfl, ⟨rfl, trivial⟩⟩⟩ ?_
    refine EX12_moods_L19 f _ ?_ (by omega) _ _ _ _
    intro e5 m6
    refine Ev.run (pc' := 47) (ls' := [none, none, some (.int e5), none]) (st' := [.int e5]) (m' := m6) [(.iload_n 2, 0, 0, 0, 0)] (by decide +kernel) rfl ?_
    exact Ev.ireti rfl rfl (by decide +kernel)
  · refine Ev.run (pc' := 9) (ls' := [some (.ref 112), some (.int a1), none, none]) (st' := [.int (-1)]) (m' := m2) [(.iconst (-1), 0, 0, (-1), 0)] (by decide +kernel) rfl ?_
    exact Ev.ireti rfl rfl (by decide +kernel)
def FX12_tells_J115 (f : Nat) (kt70 : Int32 → Int32 → Int32 → Int32 → ev_M → Option (Int32 × ev_M))  (a3 : Int32) (a4 : Int32) (a5 : Int32) (a7 : Int32)  (m : ev_M) : Option (Int32 × ev_M) :=
  (kt70 a3 a4 a5 (a7 + 1) m)
def FX12_tells_J104 (f : Nat) (kt70 : Int32 → Int32 → Int32 → Int32 → ev_M → Option (Int32 × ev_M))  (a6 : Int32) (a7 : Int32) (a8 : Int32)  (m : ev_M) : Option (Int32 × ev_M) :=
  (FX12_tells_J115 f kt70 a6 a7 a8 a7 m)
def FX12_tells_L70 (f : Nat) (k : Int32 → Int32 → Int32 → ev_M → Option (Int32 × ev_M))  (a6 : Int32) : Nat → Int32 → Int32 → Int32 → Int32 → ev_M → Option (Int32 × ev_M)
  | 0, _, _, _, _, _ => none
  | n + 1, a3, a4, a5, a7, m => (ev_bd (FX12_towerMany f m) (fun r7 m8 => (if r7 ≤ a7 then (k a3 a4 a5 m8) else (ev_bd (FX12_mostAlike f a6 a7 m8) (fun r9 m10 => (if a3 = (-1) then (FX12_tells_J104 f (FX12_tells_L70 f k a6 n) a6 a7 r9 m10) else (if r9 < a5 then (FX12_tells_J104 f (FX12_tells_L70 f k a6 n) a6 a7 r9 m10) else (FX12_tells_J115 f (FX12_tells_L70 f k a6 n) a3 a4 a5 a7 m10))))))))
def FX12_tells_L38 (f : Nat) (k : Int32 → Int32 → Int32 → ev_M → Option (Int32 × ev_M))   : Nat → Int32 → Int32 → Int32 → Int32 → ev_M → Option (Int32 × ev_M)
  | 0, _, _, _, _, _ => none
  | n + 1, a3, a4, a5, a6, m => (if (m.1 112 62) ≤ 0 then (k a3 a4 a5 m) else (if 30 < a6 then (k a3 a4 a5 m) else (if 999 ≤ ((m.1 144 0) + a6) then (k a3 a4 a5 m) else (FX12_tells_L70 f (fun e11 e12 e13 m14 => (FX12_tells_L38 f k n e11 e12 e13 (a6 + 1) m14)) a6 f a3 a4 a5 (0 : Int32) m))))
def FX12_tells_J127 (f : Nat)   (a2 : Int32) (a3 : Int32) (a4 : Int32) (a5 : Int32)  (m : ev_M) : Option (Int32 × ev_M) :=
  (if a3 = (-1) then some ((-1), m) else (if a2 = 0 then some (a3, m) else (if a2 = 1 then some (a4, m) else some (a5, m))))
def FX12_tells (f : Nat) (a1 : Int32) (a2 : Int32) (m : ev_M) : Option (Int32 × ev_M) :=
  (ev_bd (FX12_isTower f a1 m) (fun r1 m2 => (if r1 = 0 then some ((-1), m2) else (ev_bd (FX12_isIn f (a2 : Int32).toInt64 (0 : Int64) (2 : Int64) m2) (fun r3 m4 => (if r3 = 0 then some ((-1), m4) else (ev_bd (FX12_laysMoods f a1 m4) (fun _ m6 => (FX12_tells_L38 f (fun e15 e16 e17 m18 => (FX12_tells_J127 f a2 e15 e16 e17 m18)) f (-1 : Int32) (-1 : Int32) (0 : Int32) (0 : Int32) m6)))))))))
set_option maxRecDepth 100000 in
set_option maxHeartbeats 4000000 in
theorem EX12_tells_J115 {l : Launch} {Ln : Nat} {xs : Nat → Int32} {d : Nat} (f : Nat) (kt70 : Int32 → Int32 → Int32 → Int32 → ev_M → Option (Int32 × ev_M))  (a2 : Int32) (a3 : Int32) (a4 : Int32) (a5 : Int32) (a6 : Int32) (a7 : Int32)  (m : ev_M)  (hkt70 : ∀ (e3 : Int32) (e4 : Int32) (e5 : Int32) (e7 : Int32) (em : ev_M), Ev ev_eI l Ln xs YX12_tells d Sx 70 [some (.ref 112), none, some (.int a2), some (.int e3), some (.int e4), some (.int e5), some (.int a6), some (.int e7), none] [] em (kt70 e3 e4 e5 e7 em)) (hd : 6 ≤ d) : Ev ev_eI l Ln xs YX12_tells d Sx 115 [some (.ref 112), none, some (.int a2), some (.int a3), some (.int a4), some (.int a5), some (.int a6), some (.int a7), none] [] m (FX12_tells_J115 f kt70 a3 a4 a5 a7 m) := by
  unfold FX12_tells_J115
  refine Ev.run (pc' := 118) (ls' := [some (.ref 112), none, some (.int a2), some (.int a3), some (.int a4), some (.int a5), some (.int a6), some (.int (a7 + 1)), none]) (st' := []) (m' := m) [(.iinc 7 1, 0, 0, 1, 0)] (by decide +kernel) rfl ?_
  refine Ev.gto (t := 70) (by decide +kernel) ?_
  exact hkt70 _ _ _ _ _
set_option maxRecDepth 100000 in
set_option maxHeartbeats 4000000 in
theorem EX12_tells_J104 {l : Launch} {Ln : Nat} {xs : Nat → Int32} {d : Nat} (f : Nat) (kt70 : Int32 → Int32 → Int32 → Int32 → ev_M → Option (Int32 × ev_M))  (a2 : Int32) (a6 : Int32) (a7 : Int32) (a8 : Int32)  (m : ev_M)  (hkt70 : ∀ (e3 : Int32) (e4 : Int32) (e5 : Int32) (e7 : Int32) (em : ev_M), Ev ev_eI l Ln xs YX12_tells d Sx 70 [some (.ref 112), none, some (.int a2), some (.int e3), some (.int e4), some (.int e5), some (.int a6), some (.int e7), none] [] em (kt70 e3 e4 e5 e7 em)) (hd : 6 ≤ d) : Ev ev_eI l Ln xs YX12_tells d Sx 104 [some (.ref 112), none, some (.int a2), none, none, none, some (.int a6), some (.int a7), some (.int a8)] [] m (FX12_tells_J104 f kt70 a6 a7 a8 m) := by
  unfold FX12_tells_J104
  refine Ev.run (pc' := 115) (ls' := [some (.ref 112), none, some (.int a2), some (.int a6), some (.int a7), some (.int a8), some (.int a6), some (.int a7), some (.int a8)]) (st' := []) (m' := m) [(.iload 6, 0, 0, 0, 0), (.istore_n 3, 0, 0, 0, 0), (.iload 7, 0, 0, 0, 0), (.istore 4, 0, 0, 0, 0), (.iload 8, 0, 0, 0, 0), (.istore 5, 0, 0, 0, 0)] (by decide +kernel) rfl ?_
  refine Ev.le (ls' := [some (.ref 112), none, some (.int a2), some (.int a6), some (.int a7), some (.int a8), some (.int a6), some (.int a7), none]) ⟨rfl, ⟨rfl, ⟨rfl, ⟨rfl, ⟨rfl, ⟨rfl, ⟨rfl, trivial⟩⟩⟩⟩⟩⟩⟩ ?_
  exact EX12_tells_J115 f kt70 a2 a6 a7 a8 a6 a7 m hkt70 (by omega)
set_option maxRecDepth 100000 in
set_option maxHeartbeats 4000000 in
theorem EX12_tells_L70 {l : Launch} {Ln : Nat} {xs : Nat → Int32} {d : Nat} (f : Nat) (k : Int32 → Int32 → Int32 → ev_M → Option (Int32 × ev_M))  (a2 : Int32) (a6 : Int32)   (hk : ∀ (e3 : Int32) (e4 : Int32) (e5 : Int32) (em : ev_M), Ev ev_eI l Ln xs YX12_tells d Sx 121 [some (.ref 112), none, some (.int a2), some (.int e3), some (.int e4), some (.int e5), some (.int a6), none, none] [] em (k e3 e4 e5 em)) (hd : 6 ≤ d) : ∀ (n : Nat) (a3 : Int32) (a4 : Int32) (a5 : Int32) (a7 : Int32) (m : ev_M), Ev ev_eI l Ln xs YX12_tells d Sx 70 [some (.ref 112), none, some (.int a2), some (.int a3), some (.int a4), some (.int a5), some (.int a6), some (.int a7), none] [] m (FX12_tells_L70 f k a6 n a3 a4 a5 a7 m) := by
  intro n
  induction n with
  | zero => intros; exact Ev.nn
  | succ n ih =>
    intro a3 a4 a5 a7 m
    rw [FX12_tells_L70]
    refine Ev.run (pc' := 73) (ls' := [some (.ref 112), none, some (.int a2), some (.int a3), some (.int a4), some (.int a5), some (.int a6), some (.int a7), none]) (st' := [.ref 112, .int a7]) (m' := m) [(.iload 7, 0, 0, 0, 0), (.aload_n 0, 0, 0, 0, 0)] (by decide +kernel) rfl ?_
    refine Ev.cV (av := []) (st := [.int a7]) (a := 112) (EX12_towerMany (l := l) (Ln := Ln) (xs := xs) (d := 0) f m (by decide)) rfl (by decide +kernel) mwX12_towerMany iwX12_towerMany vwX12_towerMany lk_12_369 (by omega) (by decide) rfl (by decide) rfl rfl (Nat.le_of_ble_eq_true rfl) (fun r7 m8 => ?_)
    refine Ev.ic_ge (t := 121) (by decide +kernel) ?_ ?_
    · refine Ev.le (ls' := [some (.ref 112), none, some (.int a2), some (.int a3), some (.int a4), some (.int a5), some (.int a6), none, none]) ⟨rfl, ⟨rfl, ⟨rfl, ⟨rfl, ⟨rfl, ⟨rfl, trivial⟩⟩⟩⟩⟩⟩ ?_
      exact hk _ _ _ _
    · refine Ev.run (pc' := 84) (ls' := [some (.ref 112), none, some (.int a2), some (.int a3), some (.int a4), some (.int a5), some (.int a6), some (.int a7), none]) (st' := [.int a7, .int a6, .ref 112]) (m' := m8) [(.aload_n 0, 0, 0, 0, 0), (.iload 6, 0, 0, 0, 0), (.iload 7, 0, 0, 0, 0)] (by decide +kernel) rfl ?_
      refine Ev.cV (av := [.int a6, .int a7]) (st := []) (a := 112) (EX12_mostAlike (l := l) (Ln := Ln) (xs := xs) (d := 0) f a6 a7 m8 (by decide)) rfl (by decide +kernel) mwX12_mostAlike iwX12_mostAlike vwX12_mostAlike lk_12_523 (by omega) (by decide) rfl (by decide) rfl rfl (Nat.le_of_ble_eq_true rfl) (fun r9 m10 => ?_)
      refine Ev.run (pc' := 91) (ls' := [some (.ref 112), none, some (.int a2), some (.int a3), some (.int a4), some (.int a5), some (.int a6), some (.int a7), some (.int r9)]) (st' := [.int (-1), .int a3]) (m' := m10) [(.istore 8, 0, 0, 0, 0), (.iload_n 3, 0, 0, 0, 0), (.iconst (-1), 0, 0, (-1), 0)] (by decide +kernel) rfl ?_
      refine Ev.ic_eq (t := 104) (by decide +kernel) ?_ ?_
      · refine Ev.le (ls' := [some (.ref 112), none, some (.int a2), none, none, none, some (.int a6), some (.int a7), some (.int r9)]) ⟨rfl, ⟨rfl, ⟨rfl, ⟨rfl, ⟨rfl, trivial⟩⟩⟩⟩⟩ ?_
        exact EX12_tells_J104 f (FX12_tells_L70 f k a6 n) a2 a6 a7 r9 m10 ih (by omega)
      · refine Ev.run (pc' := 98) (ls' := [some (.ref 112), none, some (.int a2), some (.int a3), some (.int a4), some (.int a5), some (.int a6), some (.int a7), some (.int r9)]) (st' := [.int a5, .int r9]) (m' := m10) [(.iload 8, 0, 0, 0, 0), (.iload 5, 0, 0, 0, 0)] (by decide +kernel) rfl ?_
        refine Ev.ic_lt (t := 104) (by decide +kernel) ?_ ?_
        · refine Ev.le (ls' := [some (.ref 112), none, some (.int a2), none, none, none, some (.int a6), some (.int a7), some (.int r9)]) ⟨rfl, ⟨rfl, ⟨rfl, ⟨rfl, ⟨rfl, trivial⟩⟩⟩⟩⟩ ?_
          exact EX12_tells_J104 f (FX12_tells_L70 f k a6 n) a2 a6 a7 r9 m10 ih (by omega)
        · refine Ev.gto (t := 115) (by decide +kernel) ?_
          refine Ev.le (ls' := [some (.ref 112), none, some (.int a2), some (.int a3), some (.int a4), some (.int a5), some (.int a6), some (.int a7), none]) ⟨rfl, ⟨rfl, ⟨rfl, ⟨rfl, ⟨rfl, ⟨rfl, ⟨rfl, trivial⟩⟩⟩⟩⟩⟩⟩ ?_
          exact EX12_tells_J115 f (FX12_tells_L70 f k a6 n) a2 a3 a4 a5 a6 a7 m10 ih (by omega)
set_option maxRecDepth 100000 in
set_option maxHeartbeats 4000000 in
theorem EX12_tells_L38 {l : Launch} {Ln : Nat} {xs : Nat → Int32} {d : Nat} (f : Nat) (k : Int32 → Int32 → Int32 → ev_M → Option (Int32 × ev_M))  (a2 : Int32)   (hk : ∀ (e3 : Int32) (e4 : Int32) (e5 : Int32) (em : ev_M), Ev ev_eI l Ln xs YX12_tells d Sx 127 [none, none, some (.int a2), some (.int e3), some (.int e4), some (.int e5), none, none, none] [] em (k e3 e4 e5 em)) (hd : 6 ≤ d) : ∀ (n : Nat) (a3 : Int32) (a4 : Int32) (a5 : Int32) (a6 : Int32) (m : ev_M), Ev ev_eI l Ln xs YX12_tells d Sx 38 [some (.ref 112), none, some (.int a2), some (.int a3), some (.int a4), some (.int a5), some (.int a6), none, none] [] m (FX12_tells_L38 f k n a3 a4 a5 a6 m) := by
  intro n
  induction n with
  | zero => intros; exact Ev.nn
  | succ n ih =>
    intro a3 a4 a5 a6 m
    rw [FX12_tells_L38]
    refine Ev.run (pc' := 42) (ls' := [some (.ref 112), none, some (.int a2), some (.int a3), some (.int a4), some (.int a5), some (.int a6), none, none]) (st' := [.int (m.1 112 62)]) (m' := m) [(.aload_n 0, 0, 0, 0, 0), (.getfield 514, 12, 62, 0, 0)] (by decide +kernel) rfl ?_
    refine Ev.if_le (t := 127) (by decide +kernel) ?_ ?_
    · refine Ev.le (ls' := [none, none, some (.int a2), some (.int a3), some (.int a4), some (.int a5), none, none, none]) ⟨rfl, ⟨rfl, ⟨rfl, ⟨rfl, trivial⟩⟩⟩⟩ ?_
      exact hk _ _ _ _
    · refine Ev.run (pc' := 49) (ls' := [some (.ref 112), none, some (.int a2), some (.int a3), some (.int a4), some (.int a5), some (.int a6), none, none]) (st' := [.int 30, .int a6]) (m' := m) [(.iload 6, 0, 0, 0, 0), (.bipush 30, 0, 0, 30, 0)] (by decide +kernel) rfl ?_
      refine Ev.ic_gt (t := 127) (by decide +kernel) ?_ ?_
      · refine Ev.le (ls' := [none, none, some (.int a2), some (.int a3), some (.int a4), some (.int a5), none, none, none]) ⟨rfl, ⟨rfl, ⟨rfl, ⟨rfl, trivial⟩⟩⟩⟩ ?_
        exact hk _ _ _ _
      · refine Ev.run (pc' := 57) (ls' := [some (.ref 112), none, some (.int a2), some (.int a3), some (.int a4), some (.int a5), some (.int a6), none, none]) (st' := [.int 0, .ref 144]) (m' := m) [(.aload_n 0, 0, 0, 0, 0), (.getfield 109, 12, 47, 0, 0), (.iconst 0, 0, 0, 0, 0)] (by decide +kernel) rfl ?_
        refine Ev.ialdK (n := 147) (j := 0) (by decide +kernel) (by decide) rfl rfl (by decide) ?_
        refine Ev.run (pc' := 64) (ls' := [some (.ref 112), none, some (.int a2), some (.int a3), some (.int a4), some (.int a5), some (.int a6), none, none]) (st' := [.int 999, .int ((m.1 144 0) + a6)]) (m' := m) [(.iload 6, 0, 0, 0, 0), (.iadd, 0, 0, 0, 0), (.sipush 999, 0, 0, 999, 0)] (by decide +kernel) rfl ?_
        refine Ev.ic_ge (t := 127) (by decide +kernel) ?_ ?_
        · refine Ev.le (ls' := [none, none, some (.int a2), some (.int a3), some (.int a4), some (.int a5), none, none, none]) ⟨rfl, ⟨rfl, ⟨rfl, ⟨rfl, trivial⟩⟩⟩⟩ ?_
          exact hk _ _ _ _
        · refine Ev.run (pc' := 70) (ls' := [some (.ref 112), none, some (.int a2), some (.int a3), some (.int a4), some (.int a5), some (.int a6), some (.int 0), none]) (st' := []) (m' := m) [(.iconst 0, 0, 0, 0, 0), (.istore 7, 0, 0, 0, 0)] (by decide +kernel) rfl ?_
          refine EX12_tells_L70 f _ a2 a6 ?_ (by omega) _ _ _ _ _ _
          intro e11 e12 e13 m14
          refine Ev.run (pc' := 124) (ls' := [some (.ref 112), none, some (.int a2), some (.int e11), some (.int e12), some (.int e13), some (.int (a6 + 1)), none, none]) (st' := []) (m' := m14) [(.iinc 6 1, 0, 0, 1, 0)] (by decide +kernel) rfl ?_
          refine Ev.gto (t := 38) (by decide +kernel) ?_
          exact ih _ _ _ _ _
set_option maxRecDepth 100000 in
set_option maxHeartbeats 4000000 in
theorem EX12_tells_J127 {l : Launch} {Ln : Nat} {xs : Nat → Int32} {d : Nat} (f : Nat)   (a2 : Int32) (a3 : Int32) (a4 : Int32) (a5 : Int32)  (m : ev_M)   (hd : 6 ≤ d) : Ev ev_eI l Ln xs YX12_tells d Sx 127 [none, none, some (.int a2), some (.int a3), some (.int a4), some (.int a5), none, none, none] [] m (FX12_tells_J127 f a2 a3 a4 a5 m) := by
  unfold FX12_tells_J127
  refine Ev.run (pc' := 129) (ls' := [none, none, some (.int a2), some (.int a3), some (.int a4), some (.int a5), none, none, none]) (st' := [.int (-1), .int a3]) (m' := m) [(.iload_n 3, 0, 0, 0, 0), (.iconst (-1), 0, 0, (-1), 0)] (by decide +kernel) rfl ?_
  refine Ev.ic_ne (t := 136) (by decide +kernel) ?_ ?_
  · refine Ev.run (pc' := 137) (ls' := [none, none, some (.int a2), some (.int a3), some (.int a4), some (.int a5), none, none, none]) (st' := [.int a2]) (m' := m) [(.iload_n 2, 0, 0, 0, 0)] (by decide +kernel) rfl ?_
    refine Ev.if_ne (t := 144) (by decide +kernel) ?_ ?_
    · refine Ev.run (pc' := 146) (ls' := [none, none, some (.int a2), some (.int a3), some (.int a4), some (.int a5), none, none, none]) (st' := [.int 1, .int a2]) (m' := m) [(.iload_n 2, 0, 0, 0, 0), (.iconst 1, 0, 0, 1, 0)] (by decide +kernel) rfl ?_
      refine Ev.ic_ne (t := 154) (by decide +kernel) ?_ ?_
      · refine Ev.run (pc' := 156) (ls' := [none, none, some (.int a2), some (.int a3), some (.int a4), some (.int a5), none, none, none]) (st' := [.int a5]) (m' := m) [(.iload 5, 0, 0, 0, 0)] (by decide +kernel) rfl ?_
        exact Ev.ireti rfl rfl (by decide +kernel)
      · refine Ev.run (pc' := 151) (ls' := [none, none, some (.int a2), some (.int a3), some (.int a4), some (.int a5), none, none, none]) (st' := [.int a4]) (m' := m) [(.iload 4, 0, 0, 0, 0)] (by decide +kernel) rfl ?_
        refine Ev.gto (t := 156) (by decide +kernel) ?_
        exact Ev.ireti rfl rfl (by decide +kernel)
    · refine Ev.run (pc' := 141) (ls' := [none, none, some (.int a2), some (.int a3), some (.int a4), some (.int a5), none, none, none]) (st' := [.int a3]) (m' := m) [(.iload_n 3, 0, 0, 0, 0)] (by decide +kernel) rfl ?_
      refine Ev.gto (t := 156) (by decide +kernel) ?_
      exact Ev.ireti rfl rfl (by decide +kernel)
  · refine Ev.run (pc' := 133) (ls' := [none, none, some (.int a2), some (.int a3), some (.int a4), some (.int a5), none, none, none]) (st' := [.int (-1)]) (m' := m) [(.iconst (-1), 0, 0, (-1), 0)] (by decide +kernel) rfl ?_
    refine Ev.gto (t := 156) (by decide +kernel) ?_
    exact Ev.ireti rfl rfl (by decide +kernel)
set_option maxRecDepth 100000 in
set_option maxHeartbeats 4000000 in
theorem EX12_tells {l : Launch} {Ln : Nat} {xs : Nat → Int32} {d : Nat} (f : Nat) (a1 : Int32) (a2 : Int32) (m : ev_M)  (hd : 6 ≤ d) : Mv ev_eI l Ln xs YX12_tells d Sx [.ref 112, .int a1, .int a2] m (FX12_tells f a1 a2 m) := by
  refine Mv.of (by decide +kernel) rfl (Nat.le_of_ble_eq_true rfl) (Ev.le (ls' := [some (.ref 112), some (.int a1), some (.int a2), none, none, none, none, none, none]) ⟨rfl, ⟨rfl, ⟨rfl, trivial⟩⟩⟩ ?_)
  unfold FX12_tells
  refine Ev.run (pc' := 2) (ls' := [some (.ref 112), some (.int a1), some (.int a2), none, none, none, none, none, none]) (st' := [.int a1, .ref 112]) (m' := m) [(.aload_n 0, 0, 0, 0, 0), (.iload_n 1, 0, 0, 0, 0)] (by decide +kernel) rfl ?_
  refine Ev.cV (av := [.int a1]) (st := []) (a := 112) (EX12_isTower (l := l) (Ln := Ln) (xs := xs) (d := 1) f a1 m (by decide)) rfl (by decide +kernel) mwX12_isTower iwX12_isTower vwX12_isTower lk_12_455 (by omega) (by decide) rfl (by decide) rfl rfl (Nat.le_of_ble_eq_true rfl) (fun r1 m2 => ?_)
  refine Ev.if_eq (t := 20) (by decide +kernel) ?_ ?_
  · refine Ev.run (pc' := 21) (ls' := [some (.ref 112), some (.int a1), some (.int a2), none, none, none, none, none, none]) (st' := [.int (-1)]) (m' := m2) [(.iconst (-1), 0, 0, (-1), 0)] (by decide +kernel) rfl ?_
    exact Ev.ireti rfl rfl (by decide +kernel)
  · refine Ev.run (pc' := 14) (ls' := [some (.ref 112), some (.int a1), some (.int a2), none, none, none, none, none, none]) (st' := [.long 2, .long 0, .long (a2 : Int32).toInt64]) (m' := m2) [(.iload_n 2, 0, 0, 0, 0), (.i2l, 0, 0, 0, 0), (.lconst 0, 0, 0, 0, 0), (.ldc2_w 460, 0, 0, 0, 2)] (by decide +kernel) rfl ?_
    refine Ev.cS (av := [.long (a2 : Int32).toInt64, .long 0, .long 2]) (st := []) (EX12_isIn (l := l) (Ln := Ln) (xs := xs) (d := 0) f (a2 : Int32).toInt64 (0 : Int64) (2 : Int64) m2 (by decide)) rfl (by decide +kernel) mwX12_isIn swX12_isIn lk_12_268 (by omega) rfl (Nat.le_of_ble_eq_true rfl) (fun r3 m4 => ?_)
    refine Ev.if_ne (t := 22) (by decide +kernel) ?_ ?_
    · refine Ev.run (pc' := 24) (ls' := [some (.ref 112), some (.int a1), some (.int a2), none, none, none, none, none, none]) (st' := [.int a1, .ref 112]) (m' := m4) [(.aload_n 0, 0, 0, 0, 0), (.iload_n 1, 0, 0, 0, 0)] (by decide +kernel) rfl ?_
      refine Ev.cV (av := [.int a1]) (st := []) (a := 112) (EX12_laysMoods (l := l) (Ln := Ln) (xs := xs) (d := 5) f a1 m4 (by decide)) rfl (by decide +kernel) mwX12_laysMoods iwX12_laysMoods vwX12_laysMoods lk_12_520 (by omega) (by decide) rfl (by decide) rfl rfl (Nat.le_of_ble_eq_true rfl) (fun r5 m6 => ?_)
      refine Ev.run (pc' := 38) (ls' := [some (.ref 112), some (.int a1), some (.int a2), some (.int (-1)), some (.int (-1)), some (.int 0), some (.int 0), none, none]) (st' := []) (m' := m6) [(.iconst (-1), 0, 0, (-1), 0), (.istore_n 3, 0, 0, 0, 0), (.iconst (-1), 0, 0, (-1), 0), (.istore 4, 0, 0, 0, 0), (.iconst 0, 0, 0, 0, 0), (.istore 5, 0, 0, 0, 0), (.iconst 0, 0, 0, 0, 0), (.istore 6, 0, 0, 0, 0)] (by decide +kernel) rfl ?_
      refine Ev.le (ls' := [some (.ref 112), none, some (.int a2), some (.int (-1)), some (.int (-1)), some (.int 0), some (.int 0), none, none]) ⟨rfl, ⟨rfl, ⟨rfl, ⟨rfl, ⟨rfl, ⟨rfl, trivial⟩⟩⟩⟩⟩⟩ ?_
      refine EX12_tells_L38 f _ a2 ?_ (by omega) _ _ _ _ _ _
      intro e15 e16 e17 m18
      exact EX12_tells_J127 f a2 e15 e16 e17 m18 (by omega)
    · refine Ev.run (pc' := 21) (ls' := [some (.ref 112), some (.int a1), some (.int a2), none, none, none, none, none, none]) (st' := [.int (-1)]) (m' := m4) [(.iconst (-1), 0, 0, (-1), 0)] (by decide +kernel) rfl ?_
      exact Ev.ireti rfl rfl (by decide +kernel)
def FX12_rounds (f : Nat) (a1 : Int32) (m : ev_M) : Option (Int32 × ev_M) :=
  (ev_bd (FX12_isAhead f a1 (1 : Int32) (100 : Int32) m) (fun r1 m2 => (if r1 = 0 then (ev_bd (FX12_refuses f (3 : Int32) m2) (fun r7 m8 => some (r7, m8))) else (ev_bd (FX12_keeps f m2) (fun _ m4 => (ev_bd (FX12_roundsGo f a1 ((ev_up m4.1 112 55 0), m4.2)) (fun _ m6 => some ((m6.1 112 55), m6))))))))
set_option maxRecDepth 100000 in
set_option maxHeartbeats 4000000 in
theorem EX12_rounds {l : Launch} {Ln : Nat} {xs : Nat → Int32} {d : Nat} (f : Nat) (a1 : Int32) (m : ev_M)  (hd : 6 ≤ d) : Mv ev_eI l Ln xs YX12_rounds d Sx [.ref 112, .int a1] m (FX12_rounds f a1 m) := by
  refine Mv.of (by decide +kernel) rfl (Nat.le_of_ble_eq_true rfl) (Ev.le (ls' := [some (.ref 112), some (.int a1)]) ⟨rfl, ⟨rfl, trivial⟩⟩ ?_)
  unfold FX12_rounds
  refine Ev.run (pc' := 5) (ls' := [some (.ref 112), some (.int a1)]) (st' := [.int 100, .int 1, .int a1, .ref 112]) (m' := m) [(.aload_n 0, 0, 0, 0, 0), (.iload_n 1, 0, 0, 0, 0), (.iconst 1, 0, 0, 1, 0), (.bipush 100, 0, 0, 100, 0)] (by decide +kernel) rfl ?_
  refine Ev.cV (av := [.int a1, .int 1, .int 100]) (st := []) (a := 112) (EX12_isAhead (l := l) (Ln := Ln) (xs := xs) (d := 1) f a1 (1 : Int32) (100 : Int32) m (by decide)) rfl (by decide +kernel) mwX12_isAhead iwX12_isAhead vwX12_isAhead lk_12_464 (by omega) (by decide) rfl (by decide) rfl rfl (Nat.le_of_ble_eq_true rfl) (fun r1 m2 => ?_)
  refine Ev.if_ne (t := 17) (by decide +kernel) ?_ ?_
  · refine Ev.run (pc' := 18) (ls' := [some (.ref 112), some (.int a1)]) (st' := [.ref 112]) (m' := m2) [(.aload_n 0, 0, 0, 0, 0)] (by decide +kernel) rfl ?_
    refine Ev.cV (av := []) (st := []) (a := 112) (EX12_keeps (l := l) (Ln := Ln) (xs := xs) (d := 0) f m2 (by decide)) rfl (by decide +kernel) mwX12_keeps iwX12_keeps vwX12_keeps lk_12_532 (by omega) (by decide) rfl (by decide) rfl rfl (Nat.le_of_ble_eq_true rfl) (fun r3 m4 => ?_)
    refine Ev.run (pc' := 28) (ls' := [some (.ref 112), some (.int a1)]) (st' := [.int a1, .ref 112]) (m' := ((ev_up m4.1 112 55 0), m4.2)) [(.aload_n 0, 0, 0, 0, 0), (.iconst 0, 0, 0, 0, 0), (.putfield 440, 12, 55, 0, 0), (.aload_n 0, 0, 0, 0, 0), (.iload_n 1, 0, 0, 0, 0)] (by decide +kernel) rfl ?_
    refine Ev.cV (av := [.int a1]) (st := []) (a := 112) (EX12_roundsGo (l := l) (Ln := Ln) (xs := xs) (d := 5) f a1 ((ev_up m4.1 112 55 0), m4.2) (by decide)) rfl (by decide +kernel) mwX12_roundsGo iwX12_roundsGo vwX12_roundsGo lk_12_471 (by omega) (by decide) rfl (by decide) rfl rfl (Nat.le_of_ble_eq_true rfl) (fun r5 m6 => ?_)
    refine Ev.run (pc' := 35) (ls' := [some (.ref 112), some (.int a1)]) (st' := [.int (m6.1 112 55)]) (m' := m6) [(.aload_n 0, 0, 0, 0, 0), (.getfield 440, 12, 55, 0, 0)] (by decide +kernel) rfl ?_
    exact Ev.ireti rfl rfl (by decide +kernel)
  · refine Ev.run (pc' := 13) (ls' := [some (.ref 112), some (.int a1)]) (st' := [.int 3, .ref 112]) (m' := m2) [(.aload_n 0, 0, 0, 0, 0), (.iconst 3, 0, 0, 3, 0)] (by decide +kernel) rfl ?_
    refine Ev.cV (av := [.int 3]) (st := []) (a := 112) (EX12_refuses (l := l) (Ln := Ln) (xs := xs) (d := 0) f (3 : Int32) m2 (by decide)) rfl (by decide +kernel) mwX12_refuses iwX12_refuses vwX12_refuses lk_12_511 (by omega) (by decide) rfl (by decide) rfl rfl (Nat.le_of_ble_eq_true rfl) (fun r7 m8 => ?_)
    exact Ev.ireti rfl rfl (by decide +kernel)
def FX12_chance_J100 (f : Nat) (kt25 : Int32 → Int32 → ev_M → Option (Int32 × ev_M))  (a2 : Int32) (a3 : Int32)  (m : ev_M) : Option (Int32 × ev_M) :=
  (ev_bd (FX12_roundGoes f m) (fun _ m8 => (kt25 a2 (a3 + 1) m8)))
def FX12_chance_J96 (f : Nat) (kt25 : Int32 → Int32 → ev_M → Option (Int32 × ev_M))  (a2 : Int32) (a3 : Int32) (s1 : Int32) (s2 : Int32) (m : ev_M) : Option (Int32 × ev_M) :=
  (if ev_in s1 147 then (FX12_chance_J100 f kt25 (a2 + 1) a3 ((ev_up m.1 144 s1.toNatClampNeg s2), m.2)) else none)
def FX12_chance_L25 (f : Nat) (k : Int32 → ev_M → Option (Int32 × ev_M))  (a1 : Int32) : Nat → Int32 → Int32 → ev_M → Option (Int32 × ev_M)
  | 0, _, _, _ => none
  | n + 1, a2, a3, m => (if a1 ≤ a3 then (k a2 m) else (ev_bd (FX12_drawOf f (100 : Int32) m) (fun r5 m6 => (if (m6.1 140 5) ≤ r5 then (FX12_chance_J100 f (FX12_chance_L25 f k a1 n) a2 a3 m6) else (ev_bd (FX12_towerMany f m6) (fun r9 m10 => (if r9 ≤ 0 then (FX12_chance_J100 f (FX12_chance_L25 f k a1 n) a2 a3 m10) else (ev_bd (FX12_towerMany f m10) (fun r11 m12 => (ev_bd (FX12_drawOf f r11 m12) (fun r13 m14 => (if ev_in (2 + (3 * r13)) 147 then (if 2 ≤ (m14.1 144 (2 + (3 * r13)).toNatClampNeg) then (if ev_in (2 + (3 * r13)) 147 then (FX12_chance_J96 f (FX12_chance_L25 f k a1 n) a2 a3 (2 + (3 * r13)) ((m14.1 144 (2 + (3 * r13)).toNatClampNeg) - 2) m14) else none) else (FX12_chance_J96 f (FX12_chance_L25 f k a1 n) a2 a3 (2 + (3 * r13)) (0 : Int32) m14)) else none))))))))))))
def FX12_chance (f : Nat) (a1 : Int32) (m : ev_M) : Option (Int32 × ev_M) :=
  (ev_bd (FX12_isAhead f a1 (1 : Int32) (100 : Int32) m) (fun r1 m2 => (if r1 = 0 then (ev_bd (FX12_refuses f (3 : Int32) m2) (fun r17 m18 => some (r17, m18))) else (ev_bd (FX12_keeps f m2) (fun _ m4 => (FX12_chance_L25 f (fun e15 m16 => some (e15, m16)) a1 f (0 : Int32) (0 : Int32) m4))))))
set_option maxRecDepth 100000 in
set_option maxHeartbeats 4000000 in
theorem EX12_chance_J100 {l : Launch} {Ln : Nat} {xs : Nat → Int32} {d : Nat} (f : Nat) (kt25 : Int32 → Int32 → ev_M → Option (Int32 × ev_M))  (a1 : Int32) (a2 : Int32) (a3 : Int32)  (m : ev_M)  (hkt25 : ∀ (e2 : Int32) (e3 : Int32) (em : ev_M), Ev ev_eI l Ln xs YX12_chance d Sx 25 [some (.ref 112), some (.int a1), some (.int e2), some (.int e3), none] [] em (kt25 e2 e3 em)) (hd : 5 ≤ d) : Ev ev_eI l Ln xs YX12_chance d Sx 100 [some (.ref 112), some (.int a1), some (.int a2), some (.int a3), none] [] m (FX12_chance_J100 f kt25 a2 a3 m) := by
  unfold FX12_chance_J100
  refine Ev.run (pc' := 101) (ls' := [some (.ref 112), some (.int a1), some (.int a2), some (.int a3), none]) (st' := [.ref 112]) (m' := m) [(.aload_n 0, 0, 0, 0, 0)] (by decide +kernel) rfl ?_
  refine Ev.cV (av := []) (st := []) (a := 112) (EX12_roundGoes (l := l) (Ln := Ln) (xs := xs) (d := 4) f m (by decide)) rfl (by decide +kernel) mwX12_roundGoes iwX12_roundGoes vwX12_roundGoes lk_12_446 (by omega) (by decide) rfl (by decide) rfl rfl (Nat.le_of_ble_eq_true rfl) (fun r7 m8 => ?_)
  refine Ev.run (pc' := 107) (ls' := [some (.ref 112), some (.int a1), some (.int a2), some (.int (a3 + 1)), none]) (st' := []) (m' := m8) [(.iinc 3 1, 0, 0, 1, 0)] (by decide +kernel) rfl ?_
  refine Ev.gto (t := 25) (by decide +kernel) ?_
  exact hkt25 _ _ _
set_option maxRecDepth 100000 in
set_option maxHeartbeats 4000000 in
theorem EX12_chance_J96 {l : Launch} {Ln : Nat} {xs : Nat → Int32} {d : Nat} (f : Nat) (kt25 : Int32 → Int32 → ev_M → Option (Int32 × ev_M))  (a1 : Int32) (a2 : Int32) (a3 : Int32) (s1 : Int32) (s2 : Int32) (m : ev_M)  (hkt25 : ∀ (e2 : Int32) (e3 : Int32) (em : ev_M), Ev ev_eI l Ln xs YX12_chance d Sx 25 [some (.ref 112), some (.int a1), some (.int e2), some (.int e3), none] [] em (kt25 e2 e3 em)) (hd : 5 ≤ d) : Ev ev_eI l Ln xs YX12_chance d Sx 96 [some (.ref 112), some (.int a1), some (.int a2), some (.int a3), none] [.int s2, .int s1, .ref 144] m (FX12_chance_J96 f kt25 a2 a3 s1 s2 m) := by
  unfold FX12_chance_J96
  refine Ev.iast (n := 147) (by decide +kernel) (by decide) rfl ?_
  refine Ev.run (pc' := 100) (ls' := [some (.ref 112), some (.int a1), some (.int (a2 + 1)), some (.int a3), none]) (st' := []) (m' := ((ev_up m.1 144 s1.toNatClampNeg s2), m.2)) [(.iinc 2 1, 0, 0, 1, 0)] (by decide +kernel) rfl ?_
  exact EX12_chance_J100 f kt25 a1 (a2 + 1) a3 ((ev_up m.1 144 s1.toNatClampNeg s2), m.2) hkt25 (by omega)
set_option maxRecDepth 100000 in
set_option maxHeartbeats 4000000 in
theorem EX12_chance_L25 {l : Launch} {Ln : Nat} {xs : Nat → Int32} {d : Nat} (f : Nat) (k : Int32 → ev_M → Option (Int32 × ev_M))  (a1 : Int32)   (hk : ∀ (e2 : Int32) (em : ev_M), Ev ev_eI l Ln xs YX12_chance d Sx 110 [none, none, some (.int e2), none, none] [] em (k e2 em)) (hd : 5 ≤ d) : ∀ (n : Nat) (a2 : Int32) (a3 : Int32) (m : ev_M), Ev ev_eI l Ln xs YX12_chance d Sx 25 [some (.ref 112), some (.int a1), some (.int a2), some (.int a3), none] [] m (FX12_chance_L25 f k a1 n a2 a3 m) := by
  intro n
  induction n with
  | zero => intros; exact Ev.nn
  | succ n ih =>
    intro a2 a3 m
    rw [FX12_chance_L25]
    refine Ev.run (pc' := 27) (ls' := [some (.ref 112), some (.int a1), some (.int a2), some (.int a3), none]) (st' := [.int a1, .int a3]) (m' := m) [(.iload_n 3, 0, 0, 0, 0), (.iload_n 1, 0, 0, 0, 0)] (by decide +kernel) rfl ?_
    refine Ev.ic_ge (t := 110) (by decide +kernel) ?_ ?_
    · refine Ev.le (ls' := [none, none, some (.int a2), none, none]) ⟨rfl, trivial⟩ ?_
      exact hk _ _
    · refine Ev.run (pc' := 33) (ls' := [some (.ref 112), some (.int a1), some (.int a2), some (.int a3), none]) (st' := [.int 100, .ref 112]) (m' := m) [(.aload_n 0, 0, 0, 0, 0), (.bipush 100, 0, 0, 100, 0)] (by decide +kernel) rfl ?_
      refine Ev.cV (av := [.int 100]) (st := []) (a := 112) (EX12_drawOf (l := l) (Ln := Ln) (xs := xs) (d := 0) f (100 : Int32) m (by decide)) rfl (by decide +kernel) mwX12_drawOf iwX12_drawOf vwX12_drawOf lk_12_543 (by omega) (by decide) rfl (by decide) rfl rfl (Nat.le_of_ble_eq_true rfl) (fun r5 m6 => ?_)
      refine Ev.run (pc' := 41) (ls' := [some (.ref 112), some (.int a1), some (.int a2), some (.int a3), none]) (st' := [.int 5, .ref 140, .int r5]) (m' := m6) [(.aload_n 0, 0, 0, 0, 0), (.getfield 97, 12, 39, 0, 0), (.iconst 5, 0, 0, 5, 0)] (by decide +kernel) rfl ?_
      refine Ev.ialdK (n := 6) (j := 5) (by decide +kernel) (by decide) rfl rfl (by decide) ?_
      refine Ev.ic_ge (t := 100) (by decide +kernel) ?_ ?_
      · exact EX12_chance_J100 f (FX12_chance_L25 f k a1 n) a1 a2 a3 m6 ih (by omega)
      · refine Ev.run (pc' := 46) (ls' := [some (.ref 112), some (.int a1), some (.int a2), some (.int a3), none]) (st' := [.ref 112]) (m' := m6) [(.aload_n 0, 0, 0, 0, 0)] (by decide +kernel) rfl ?_
        refine Ev.cV (av := []) (st := []) (a := 112) (EX12_towerMany (l := l) (Ln := Ln) (xs := xs) (d := 0) f m6 (by decide)) rfl (by decide +kernel) mwX12_towerMany iwX12_towerMany vwX12_towerMany lk_12_369 (by omega) (by decide) rfl (by decide) rfl rfl (Nat.le_of_ble_eq_true rfl) (fun r9 m10 => ?_)
        refine Ev.if_le (t := 100) (by decide +kernel) ?_ ?_
        · exact EX12_chance_J100 f (FX12_chance_L25 f k a1 n) a1 a2 a3 m10 ih (by omega)
        · refine Ev.run (pc' := 56) (ls' := [some (.ref 112), some (.int a1), some (.int a2), some (.int a3), none]) (st' := [.ref 112, .ref 112, .int 3, .int 2]) (m' := m10) [(.iconst 2, 0, 0, 2, 0), (.iconst 3, 0, 0, 3, 0), (.aload_n 0, 0, 0, 0, 0), (.aload_n 0, 0, 0, 0, 0)] (by decide +kernel) rfl ?_
          refine Ev.cV (av := []) (st := [.ref 112, .int 3, .int 2]) (a := 112) (EX12_towerMany (l := l) (Ln := Ln) (xs := xs) (d := 0) f m10 (by decide)) rfl (by decide +kernel) mwX12_towerMany iwX12_towerMany vwX12_towerMany lk_12_369 (by omega) (by decide) rfl (by decide) rfl rfl (Nat.le_of_ble_eq_true rfl) (fun r11 m12 => ?_)
          refine Ev.cV (av := [.int r11]) (st := [.int 3, .int 2]) (a := 112) (EX12_drawOf (l := l) (Ln := Ln) (xs := xs) (d := 0) f r11 m12 (by decide)) rfl (by decide +kernel) mwX12_drawOf iwX12_drawOf vwX12_drawOf lk_12_543 (by omega) (by decide) rfl (by decide) rfl rfl (Nat.le_of_ble_eq_true rfl) (fun r13 m14 => ?_)
          refine Ev.run (pc' := 78) (ls' := [some (.ref 112), some (.int a1), some (.int a2), some (.int a3), some (.int (2 + (3 * r13)))]) (st' := [.int (2 + (3 * r13)), .ref 144, .int (2 + (3 * r13)), .ref 144]) (m' := m14) [(.imul, 0, 0, 0, 0), (.iadd, 0, 0, 0, 0), (.istore 4, 0, 0, 0, 0), (.aload_n 0, 0, 0, 0, 0), (.getfield 109, 12, 47, 0, 0), (.iload 4, 0, 0, 0, 0), (.aload_n 0, 0, 0, 0, 0), (.getfield 109, 12, 47, 0, 0), (.iload 4, 0, 0, 0, 0)] (by decide +kernel) rfl ?_
          refine Ev.iald (n := 147) (by decide +kernel) (by decide) rfl ?_
          refine Ev.run (pc' := 80) (ls' := [some (.ref 112), some (.int a1), some (.int a2), some (.int a3), some (.int (2 + (3 * r13)))]) (st' := [.int 2, .int (m14.1 144 (2 + (3 * r13)).toNatClampNeg), .int (2 + (3 * r13)), .ref 144]) (m' := m14) [(.iconst 2, 0, 0, 2, 0)] (by decide +kernel) rfl ?_
          refine Ev.ic_ge (t := 87) (by decide +kernel) ?_ ?_
          · refine Ev.run (pc' := 93) (ls' := [some (.ref 112), some (.int a1), some (.int a2), some (.int a3), some (.int (2 + (3 * r13)))]) (st' := [.int (2 + (3 * r13)), .ref 144, .int (2 + (3 * r13)), .ref 144]) (m' := m14) [(.aload_n 0, 0, 0, 0, 0), (.getfield 109, 12, 47, 0, 0), (.iload 4, 0, 0, 0, 0)] (by decide +kernel) rfl ?_
            refine Ev.iald (n := 147) (by decide +kernel) (by decide) rfl ?_
            refine Ev.run (pc' := 96) (ls' := [some (.ref 112), some (.int a1), some (.int a2), some (.int a3), some (.int (2 + (3 * r13)))]) (st' := [.int ((m14.1 144 (2 + (3 * r13)).toNatClampNeg) - 2), .int (2 + (3 * r13)), .ref 144]) (m' := m14) [(.iconst 2, 0, 0, 2, 0), (.isub, 0, 0, 0, 0)] (by decide +kernel) rfl ?_
            refine Ev.le (ls' := [some (.ref 112), some (.int a1), some (.int a2), some (.int a3), none]) ⟨rfl, ⟨rfl, ⟨rfl, ⟨rfl, trivial⟩⟩⟩⟩ ?_
            exact EX12_chance_J96 f (FX12_chance_L25 f k a1 n) a1 a2 a3 (2 + (3 * r13)) ((m14.1 144 (2 + (3 * r13)).toNatClampNeg) - 2) m14 ih (by omega)
          · refine Ev.run (pc' := 84) (ls' := [some (.ref 112), some (.int a1), some (.int a2), some (.int a3), some (.int (2 + (3 * r13)))]) (st' := [.int 0, .int (2 + (3 * r13)), .ref 144]) (m' := m14) [(.iconst 0, 0, 0, 0, 0)] (by decide +kernel) rfl ?_
            refine Ev.gto (t := 96) (by decide +kernel) ?_
            refine Ev.le (ls' := [some (.ref 112), some (.int a1), some (.int a2), some (.int a3), none]) ⟨rfl, ⟨rfl, ⟨rfl, ⟨rfl, trivial⟩⟩⟩⟩ ?_
            exact EX12_chance_J96 f (FX12_chance_L25 f k a1 n) a1 a2 a3 (2 + (3 * r13)) (0 : Int32) m14 ih (by omega)
set_option maxRecDepth 100000 in
set_option maxHeartbeats 4000000 in
theorem EX12_chance {l : Launch} {Ln : Nat} {xs : Nat → Int32} {d : Nat} (f : Nat) (a1 : Int32) (m : ev_M)  (hd : 5 ≤ d) : Mv ev_eI l Ln xs YX12_chance d Sx [.ref 112, .int a1] m (FX12_chance f a1 m) := by
  refine Mv.of (by decide +kernel) rfl (Nat.le_of_ble_eq_true rfl) (Ev.le (ls' := [some (.ref 112), some (.int a1), none, none, none]) ⟨rfl, ⟨rfl, trivial⟩⟩ ?_)
  unfold FX12_chance
  refine Ev.run (pc' := 5) (ls' := [some (.ref 112), some (.int a1), none, none, none]) (st' := [.int 100, .int 1, .int a1, .ref 112]) (m' := m) [(.aload_n 0, 0, 0, 0, 0), (.iload_n 1, 0, 0, 0, 0), (.iconst 1, 0, 0, 1, 0), (.bipush 100, 0, 0, 100, 0)] (by decide +kernel) rfl ?_
  refine Ev.cV (av := [.int a1, .int 1, .int 100]) (st := []) (a := 112) (EX12_isAhead (l := l) (Ln := Ln) (xs := xs) (d := 1) f a1 (1 : Int32) (100 : Int32) m (by decide)) rfl (by decide +kernel) mwX12_isAhead iwX12_isAhead vwX12_isAhead lk_12_464 (by omega) (by decide) rfl (by decide) rfl rfl (Nat.le_of_ble_eq_true rfl) (fun r1 m2 => ?_)
  refine Ev.if_ne (t := 17) (by decide +kernel) ?_ ?_
  · refine Ev.run (pc' := 18) (ls' := [some (.ref 112), some (.int a1), none, none, none]) (st' := [.ref 112]) (m' := m2) [(.aload_n 0, 0, 0, 0, 0)] (by decide +kernel) rfl ?_
    refine Ev.cV (av := []) (st := []) (a := 112) (EX12_keeps (l := l) (Ln := Ln) (xs := xs) (d := 0) f m2 (by decide)) rfl (by decide +kernel) mwX12_keeps iwX12_keeps vwX12_keeps lk_12_532 (by omega) (by decide) rfl (by decide) rfl rfl (Nat.le_of_ble_eq_true rfl) (fun r3 m4 => ?_)
    refine Ev.run (pc' := 25) (ls' := [some (.ref 112), some (.int a1), some (.int 0), some (.int 0), none]) (st' := []) (m' := m4) [(.iconst 0, 0, 0, 0, 0), (.istore_n 2, 0, 0, 0, 0), (.iconst 0, 0, 0, 0, 0), (.istore_n 3, 0, 0, 0, 0)] (by decide +kernel) rfl ?_
    refine EX12_chance_L25 f _ a1 ?_ (by omega) _ _ _ _
    intro e15 m16
    refine Ev.run (pc' := 111) (ls' := [none, none, some (.int e15), none, none]) (st' := [.int e15]) (m' := m16) [(.iload_n 2, 0, 0, 0, 0)] (by decide +kernel) rfl ?_
    exact Ev.ireti rfl rfl (by decide +kernel)
  · refine Ev.run (pc' := 13) (ls' := [some (.ref 112), some (.int a1), none, none, none]) (st' := [.int 3, .ref 112]) (m' := m2) [(.aload_n 0, 0, 0, 0, 0), (.iconst 3, 0, 0, 3, 0)] (by decide +kernel) rfl ?_
    refine Ev.cV (av := [.int 3]) (st := []) (a := 112) (EX12_refuses (l := l) (Ln := Ln) (xs := xs) (d := 0) f (3 : Int32) m2 (by decide)) rfl (by decide +kernel) mwX12_refuses iwX12_refuses vwX12_refuses lk_12_511 (by omega) (by decide) rfl (by decide) rfl rfl (Nat.le_of_ble_eq_true rfl) (fun r17 m18 => ?_)
    exact Ev.ireti rfl rfl (by decide +kernel)
def FX12_laysTones_J74 (f : Nat) (kt18 : Int32 → ev_M → Option (Unit × ev_M))  (a2 : Int32)  (m : ev_M) : Option (Unit × ev_M) :=
  (kt18 (a2 + 1) m)
def FX12_laysTones_J58 (f : Nat) (kt18 : Int32 → ev_M → Option (Unit × ev_M))  (a1 : Int32) (a2 : Int32) (s1 : Int32) (s2 : Int32) (m : ev_M) : Option (Unit × ev_M) :=
  (if ev_in s1 248 then (if a1 = 0 then (ev_bd (FX12_moodOf f a2 ((ev_up m.1 152 s1.toNatClampNeg s2), m.2)) (fun r7 m8 => (if ev_in a2 8 then (FX12_laysTones_J74 f kt18 a2 ((ev_up m8.1 153 a2.toNatClampNeg r7), m8.2)) else none))) else (FX12_laysTones_J74 f kt18 a2 ((ev_up m.1 152 s1.toNatClampNeg s2), m.2))) else none)
def FX12_laysTones_L18 (f : Nat) (k : ev_M → Option (Unit × ev_M))  (a1 : Int32) : Nat → Int32 → ev_M → Option (Unit × ev_M)
  | 0, _, _ => none
  | n + 1, a2, m => (ev_bd (FX12_towerMany f m) (fun r5 m6 => (if r5 ≤ a2 then (k m6) else (if (m6.1 144 0) ≤ 999 then (if ev_in a2 8 then (FX12_laysTones_J58 f (FX12_laysTones_L18 f k a1 n) a1 a2 ((8 * a1) + a2) (m6.1 146 a2.toNatClampNeg) m6) else none) else (FX12_laysTones_J58 f (FX12_laysTones_L18 f k a1 n) a1 a2 ((8 * a1) + a2) (-1 : Int32) m6)))))
def FX12_laysTones_L6 (f : Nat) (k : ev_M → Option (Unit × ev_M))   : Nat → Int32 → ev_M → Option (Unit × ev_M)
  | 0, _, _ => none
  | n + 1, a1, m => (if 30 < a1 then (k m) else (ev_bd (FX12_roundGoes f m) (fun _ m4 => (FX12_laysTones_L18 f (fun m9 => (FX12_laysTones_L6 f k n (a1 + 1) m9)) a1 f (0 : Int32) m4))))
def FX12_laysTones (f : Nat)  (m : ev_M) : Option (Unit × ev_M) :=
  (ev_bd (FX12_putsAside f m) (fun _ m2 => (FX12_laysTones_L6 f (fun m10 => (ev_bd (FX12_takesBack f m10) (fun _ m12 => some ((), m12)))) f (0 : Int32) m2)))
set_option maxRecDepth 100000 in
set_option maxHeartbeats 4000000 in
theorem EX12_laysTones_J74 {l : Launch} {Ln : Nat} {xs : Nat → Int32} {d : Nat} (f : Nat) (kt18 : Int32 → ev_M → Option (Unit × ev_M))  (a1 : Int32) (a2 : Int32)  (m : ev_M)  (hkt18 : ∀ (e2 : Int32) (em : ev_M), Ev ev_eV l Ln xs YX12_laysTones d Sx 18 [some (.ref 112), some (.int a1), some (.int e2)] [] em (kt18 e2 em)) (hd : 5 ≤ d) : Ev ev_eV l Ln xs YX12_laysTones d Sx 74 [some (.ref 112), some (.int a1), some (.int a2)] [] m (FX12_laysTones_J74 f kt18 a2 m) := by
  unfold FX12_laysTones_J74
  refine Ev.run (pc' := 77) (ls' := [some (.ref 112), some (.int a1), some (.int (a2 + 1))]) (st' := []) (m' := m) [(.iinc 2 1, 0, 0, 1, 0)] (by decide +kernel) rfl ?_
  refine Ev.gto (t := 18) (by decide +kernel) ?_
  exact hkt18 _ _
set_option maxRecDepth 100000 in
set_option maxHeartbeats 4000000 in
theorem EX12_laysTones_J58 {l : Launch} {Ln : Nat} {xs : Nat → Int32} {d : Nat} (f : Nat) (kt18 : Int32 → ev_M → Option (Unit × ev_M))  (a1 : Int32) (a2 : Int32) (s1 : Int32) (s2 : Int32) (m : ev_M)  (hkt18 : ∀ (e2 : Int32) (em : ev_M), Ev ev_eV l Ln xs YX12_laysTones d Sx 18 [some (.ref 112), some (.int a1), some (.int e2)] [] em (kt18 e2 em)) (hd : 5 ≤ d) : Ev ev_eV l Ln xs YX12_laysTones d Sx 58 [some (.ref 112), some (.int a1), some (.int a2)] [.int s2, .int s1, .ref 152] m (FX12_laysTones_J58 f kt18 a1 a2 s1 s2 m) := by
  unfold FX12_laysTones_J58
  refine Ev.iast (n := 248) (by decide +kernel) (by decide) rfl ?_
  refine Ev.run (pc' := 60) (ls' := [some (.ref 112), some (.int a1), some (.int a2)]) (st' := [.int a1]) (m' := ((ev_up m.1 152 s1.toNatClampNeg s2), m.2)) [(.iload_n 1, 0, 0, 0, 0)] (by decide +kernel) rfl ?_
  refine Ev.if_ne (t := 74) (by decide +kernel) ?_ ?_
  · exact EX12_laysTones_J74 f kt18 a1 a2 ((ev_up m.1 152 s1.toNatClampNeg s2), m.2) hkt18 (by omega)
  · refine Ev.run (pc' := 70) (ls' := [some (.ref 112), some (.int a1), some (.int a2)]) (st' := [.int a2, .ref 112, .int a2, .ref 153]) (m' := ((ev_up m.1 152 s1.toNatClampNeg s2), m.2)) [(.aload_n 0, 0, 0, 0, 0), (.getfield 141, 12, 68, 0, 0), (.iload_n 2, 0, 0, 0, 0), (.aload_n 0, 0, 0, 0, 0), (.iload_n 2, 0, 0, 0, 0)] (by decide +kernel) rfl ?_
    refine Ev.cV (av := [.int a2]) (st := [.int a2, .ref 153]) (a := 112) (EX12_moodOf (l := l) (Ln := Ln) (xs := xs) (d := 0) f a2 ((ev_up m.1 152 s1.toNatClampNeg s2), m.2) (by decide)) rfl (by decide +kernel) mwX12_moodOf iwX12_moodOf vwX12_moodOf lk_12_397 (by omega) (by decide) rfl (by decide) rfl rfl (Nat.le_of_ble_eq_true rfl) (fun r7 m8 => ?_)
    refine Ev.iast (n := 8) (by decide +kernel) (by decide) rfl ?_
    exact EX12_laysTones_J74 f kt18 a1 a2 ((ev_up m8.1 153 a2.toNatClampNeg r7), m8.2) hkt18 (by omega)
set_option maxRecDepth 100000 in
set_option maxHeartbeats 4000000 in
theorem EX12_laysTones_L18 {l : Launch} {Ln : Nat} {xs : Nat → Int32} {d : Nat} (f : Nat) (k : ev_M → Option (Unit × ev_M))  (a1 : Int32)   (hk : ∀  (em : ev_M), Ev ev_eV l Ln xs YX12_laysTones d Sx 80 [some (.ref 112), some (.int a1), none] [] em (k em)) (hd : 5 ≤ d) : ∀ (n : Nat) (a2 : Int32) (m : ev_M), Ev ev_eV l Ln xs YX12_laysTones d Sx 18 [some (.ref 112), some (.int a1), some (.int a2)] [] m (FX12_laysTones_L18 f k a1 n a2 m) := by
  intro n
  induction n with
  | zero => intros; exact Ev.nn
  | succ n ih =>
    intro a2 m
    rw [FX12_laysTones_L18]
    refine Ev.run (pc' := 20) (ls' := [some (.ref 112), some (.int a1), some (.int a2)]) (st' := [.ref 112, .int a2]) (m' := m) [(.iload_n 2, 0, 0, 0, 0), (.aload_n 0, 0, 0, 0, 0)] (by decide +kernel) rfl ?_
    refine Ev.cV (av := []) (st := [.int a2]) (a := 112) (EX12_towerMany (l := l) (Ln := Ln) (xs := xs) (d := 0) f m (by decide)) rfl (by decide +kernel) mwX12_towerMany iwX12_towerMany vwX12_towerMany lk_12_369 (by omega) (by decide) rfl (by decide) rfl rfl (Nat.le_of_ble_eq_true rfl) (fun r5 m6 => ?_)
    refine Ev.ic_ge (t := 80) (by decide +kernel) ?_ ?_
    · refine Ev.le (ls' := [some (.ref 112), some (.int a1), none]) ⟨rfl, ⟨rfl, trivial⟩⟩ ?_
      exact hk _
    · refine Ev.run (pc' := 41) (ls' := [some (.ref 112), some (.int a1), some (.int a2)]) (st' := [.int 0, .ref 144, .int ((8 * a1) + a2), .ref 152]) (m' := m6) [(.aload_n 0, 0, 0, 0, 0), (.getfield 138, 12, 67, 0, 0), (.bipush 8, 0, 0, 8, 0), (.iload_n 1, 0, 0, 0, 0), (.imul, 0, 0, 0, 0), (.iload_n 2, 0, 0, 0, 0), (.iadd, 0, 0, 0, 0), (.aload_n 0, 0, 0, 0, 0), (.getfield 109, 12, 47, 0, 0), (.iconst 0, 0, 0, 0, 0)] (by decide +kernel) rfl ?_
      refine Ev.ialdK (n := 147) (j := 0) (by decide +kernel) (by decide) rfl rfl (by decide) ?_
      refine Ev.run (pc' := 45) (ls' := [some (.ref 112), some (.int a1), some (.int a2)]) (st' := [.int 999, .int (m6.1 144 0), .int ((8 * a1) + a2), .ref 152]) (m' := m6) [(.sipush 999, 0, 0, 999, 0)] (by decide +kernel) rfl ?_
      refine Ev.ic_le (t := 52) (by decide +kernel) ?_ ?_
      · refine Ev.run (pc' := 57) (ls' := [some (.ref 112), some (.int a1), some (.int a2)]) (st' := [.int a2, .ref 146, .int ((8 * a1) + a2), .ref 152]) (m' := m6) [(.aload_n 0, 0, 0, 0, 0), (.getfield 115, 12, 52, 0, 0), (.iload_n 2, 0, 0, 0, 0)] (by decide +kernel) rfl ?_
        refine Ev.iald (n := 8) (by decide +kernel) (by decide) rfl ?_
        exact EX12_laysTones_J58 f (FX12_laysTones_L18 f k a1 n) a1 a2 ((8 * a1) + a2) (m6.1 146 a2.toNatClampNeg) m6 ih (by omega)
      · refine Ev.run (pc' := 49) (ls' := [some (.ref 112), some (.int a1), some (.int a2)]) (st' := [.int (-1), .int ((8 * a1) + a2), .ref 152]) (m' := m6) [(.iconst (-1), 0, 0, (-1), 0)] (by decide +kernel) rfl ?_
        refine Ev.gto (t := 58) (by decide +kernel) ?_
        exact EX12_laysTones_J58 f (FX12_laysTones_L18 f k a1 n) a1 a2 ((8 * a1) + a2) (-1 : Int32) m6 ih (by omega)
set_option maxRecDepth 100000 in
set_option maxHeartbeats 4000000 in
theorem EX12_laysTones_L6 {l : Launch} {Ln : Nat} {xs : Nat → Int32} {d : Nat} (f : Nat) (k : ev_M → Option (Unit × ev_M))     (hk : ∀  (em : ev_M), Ev ev_eV l Ln xs YX12_laysTones d Sx 86 [some (.ref 112), none, none] [] em (k em)) (hd : 5 ≤ d) : ∀ (n : Nat) (a1 : Int32) (m : ev_M), Ev ev_eV l Ln xs YX12_laysTones d Sx 6 [some (.ref 112), some (.int a1), none] [] m (FX12_laysTones_L6 f k n a1 m) := by
  intro n
  induction n with
  | zero => intros; exact Ev.nn
  | succ n ih =>
    intro a1 m
    rw [FX12_laysTones_L6]
    refine Ev.run (pc' := 9) (ls' := [some (.ref 112), some (.int a1), none]) (st' := [.int 30, .int a1]) (m' := m) [(.iload_n 1, 0, 0, 0, 0), (.bipush 30, 0, 0, 30, 0)] (by decide +kernel) rfl ?_
    refine Ev.ic_gt (t := 86) (by decide +kernel) ?_ ?_
    · refine Ev.le (ls' := [some (.ref 112), none, none]) ⟨rfl, trivial⟩ ?_
      exact hk _
    · refine Ev.run (pc' := 13) (ls' := [some (.ref 112), some (.int a1), none]) (st' := [.ref 112]) (m' := m) [(.aload_n 0, 0, 0, 0, 0)] (by decide +kernel) rfl ?_
      refine Ev.cV (av := []) (st := []) (a := 112) (EX12_roundGoes (l := l) (Ln := Ln) (xs := xs) (d := 4) f m (by decide)) rfl (by decide +kernel) mwX12_roundGoes iwX12_roundGoes vwX12_roundGoes lk_12_446 (by omega) (by decide) rfl (by decide) rfl rfl (Nat.le_of_ble_eq_true rfl) (fun r3 m4 => ?_)
      refine Ev.run (pc' := 18) (ls' := [some (.ref 112), some (.int a1), some (.int 0)]) (st' := []) (m' := m4) [(.iconst 0, 0, 0, 0, 0), (.istore_n 2, 0, 0, 0, 0)] (by decide +kernel) rfl ?_
      refine EX12_laysTones_L18 f _ a1 ?_ (by omega) _ _ _
      intro m9
      refine Ev.run (pc' := 83) (ls' := [some (.ref 112), some (.int (a1 + 1)), none]) (st' := []) (m' := m9) [(.iinc 1 1, 0, 0, 1, 0)] (by decide +kernel) rfl ?_
      refine Ev.gto (t := 6) (by decide +kernel) ?_
      exact ih _ _
set_option maxRecDepth 100000 in
set_option maxHeartbeats 4000000 in
theorem EX12_laysTones {l : Launch} {Ln : Nat} {xs : Nat → Int32} {d : Nat} (f : Nat)  (m : ev_M)  (hd : 5 ≤ d) : Mv ev_eV l Ln xs YX12_laysTones d Sx [.ref 112] m (FX12_laysTones f  m) := by
  refine Mv.of (by decide +kernel) rfl (Nat.le_of_ble_eq_true rfl) (Ev.le (ls' := [some (.ref 112), none, none]) ⟨rfl, trivial⟩ ?_)
  unfold FX12_laysTones
  refine Ev.run (pc' := 1) (ls' := [some (.ref 112), none, none]) (st' := [.ref 112]) (m' := m) [(.aload_n 0, 0, 0, 0, 0)] (by decide +kernel) rfl ?_
  refine Ev.cV (av := []) (st := []) (a := 112) (EX12_putsAside (l := l) (Ln := Ln) (xs := xs) (d := 0) f m (by decide)) rfl (by decide +kernel) mwX12_putsAside iwX12_putsAside vwX12_putsAside lk_12_468 (by omega) (by decide) rfl (by decide) rfl rfl (Nat.le_of_ble_eq_true rfl) (fun r1 m2 => ?_)
  refine Ev.run (pc' := 6) (ls' := [some (.ref 112), some (.int 0), none]) (st' := []) (m' := m2) [(.iconst 0, 0, 0, 0, 0), (.istore_n 1, 0, 0, 0, 0)] (by decide +kernel) rfl ?_
  refine EX12_laysTones_L6 f _ ?_ (by omega) _ _ _
  intro m10
  refine Ev.run (pc' := 87) (ls' := [some (.ref 112), none, none]) (st' := [.ref 112]) (m' := m10) [(.aload_n 0, 0, 0, 0, 0)] (by decide +kernel) rfl ?_
  refine Ev.cV (av := []) (st := []) (a := 112) (EX12_takesBack (l := l) (Ln := Ln) (xs := xs) (d := 1) f m10 (by decide)) rfl (by decide +kernel) mwX12_takesBack iwX12_takesBack vwX12_takesBack lk_12_474 (by omega) (by decide) rfl (by decide) rfl rfl (Nat.le_of_ble_eq_true rfl) (fun r11 m12 => ?_)
  exact Ev.retv rfl rfl (by decide +kernel)
def FX12_qTest_J106 (f : Nat) (kt2 : Int32 → ev_M → Option (Unit × ev_M))   (s0 : Int32) (m : ev_M) : Option (Unit × ev_M) :=
  (kt2 s0 m)
def FX12_qTest_J105 (f : Nat) (kt2 : Int32 → ev_M → Option (Unit × ev_M))    (m : ev_M) : Option (Unit × ev_M) :=
  (FX12_qTest_J106 f kt2 (0 : Int32) m)
def FX12_qTest_L2 (f : Nat) (k : ev_M → Option (Unit × ev_M))   : Nat → Int32 → ev_M → Option (Unit × ev_M)
  | 0, _, _ => none
  | n + 1, a1, m => (if a1 = 0 then (k m) else (if (m.1 112 5) = 0 then (ev_bd (FX12_look f m) (fun r1 m2 => (if r1 = 91 then (ev_bd (FX12_qOpens f (25 : Int32) (m2.1 112 2) m2) (fun _ m16 => (FX12_qTest_L2 f k n a1 ((ev_up m16.1 112 2 ((m16.1 112 2) + 1)), m16.2)))) else (ev_bd (FX12_isHere f 160 m2) (fun r3 m4 => (if r3 = 0 then (ev_bd (FX12_qFact f m4) (fun _ m6 => (ev_bd (FX12_qDropsNots f m6) (fun _ m8 => (if (m8.1 112 5) = 0 then (ev_bd (FX12_qGoesOnTest f m8) (fun r9 m10 => (if r9 = 0 then (FX12_qTest_J105 f (FX12_qTest_L2 f k n) m10) else (FX12_qTest_J106 f (FX12_qTest_L2 f k n) (1 : Int32) m10)))) else (FX12_qTest_J105 f (FX12_qTest_L2 f k n) m8)))))) else (ev_bd (FX12_qOpens f (12 : Int32) (m4.1 112 2) m4) (fun _ m12 => (ev_bd (FX12_asks f 160 m12) (fun _ m14 => (FX12_qTest_L2 f k n a1 m14))))))))))) else (k m)))
def FX12_qTest_L110 (f : Nat) (k : ev_M → Option (Unit × ev_M))   : Nat → ev_M → Option (Unit × ev_M)
  | 0, _ => none
  | n + 1, m => (if (m.1 112 5) = 0 then (if (m.1 112 95) ≤ 0 then (k m) else (ev_bd (FX12_qDrops f m) (fun _ m19 => (FX12_qTest_L110 f k n m19)))) else (k m))
def FX12_qTest (f : Nat)  (m : ev_M) : Option (Unit × ev_M) :=
  (FX12_qTest_L2 f (fun m17 => (FX12_qTest_L110 f (fun m20 => some ((), m20)) f m17)) f (1 : Int32) m)
set_option maxRecDepth 100000 in
set_option maxHeartbeats 4000000 in
theorem EX12_qTest_J106 {l : Launch} {Ln : Nat} {xs : Nat → Int32} {d : Nat} (f : Nat) (kt2 : Int32 → ev_M → Option (Unit × ev_M))   (s0 : Int32) (m : ev_M)  (hkt2 : ∀ (e1 : Int32) (em : ev_M), Ev ev_eV l Ln xs YX12_qTest d Sx 2 [some (.ref 112), some (.int e1), none] [] em (kt2 e1 em)) (hd : 8 ≤ d) : Ev ev_eV l Ln xs YX12_qTest d Sx 106 [some (.ref 112), none, none] [.int s0] m (FX12_qTest_J106 f kt2 s0 m) := by
  unfold FX12_qTest_J106
  refine Ev.run (pc' := 107) (ls' := [some (.ref 112), some (.int s0), none]) (st' := []) (m' := m) [(.istore_n 1, 0, 0, 0, 0)] (by decide +kernel) rfl ?_
  refine Ev.gto (t := 2) (by decide +kernel) ?_
  exact hkt2 _ _
set_option maxRecDepth 100000 in
set_option maxHeartbeats 4000000 in
theorem EX12_qTest_J105 {l : Launch} {Ln : Nat} {xs : Nat → Int32} {d : Nat} (f : Nat) (kt2 : Int32 → ev_M → Option (Unit × ev_M))    (m : ev_M)  (hkt2 : ∀ (e1 : Int32) (em : ev_M), Ev ev_eV l Ln xs YX12_qTest d Sx 2 [some (.ref 112), some (.int e1), none] [] em (kt2 e1 em)) (hd : 8 ≤ d) : Ev ev_eV l Ln xs YX12_qTest d Sx 105 [some (.ref 112), none, none] [] m (FX12_qTest_J105 f kt2 m) := by
  unfold FX12_qTest_J105
  refine Ev.run (pc' := 106) (ls' := [some (.ref 112), none, none]) (st' := [.int 0]) (m' := m) [(.iconst 0, 0, 0, 0, 0)] (by decide +kernel) rfl ?_
  exact EX12_qTest_J106 f kt2 (0 : Int32) m hkt2 (by omega)
set_option maxRecDepth 100000 in
set_option maxHeartbeats 4000000 in
theorem EX12_qTest_L2 {l : Launch} {Ln : Nat} {xs : Nat → Int32} {d : Nat} (f : Nat) (k : ev_M → Option (Unit × ev_M))     (hk : ∀  (em : ev_M), Ev ev_eV l Ln xs YX12_qTest d Sx 110 [some (.ref 112), none, none] [] em (k em)) (hd : 8 ≤ d) : ∀ (n : Nat) (a1 : Int32) (m : ev_M), Ev ev_eV l Ln xs YX12_qTest d Sx 2 [some (.ref 112), some (.int a1), none] [] m (FX12_qTest_L2 f k n a1 m) := by
  intro n
  induction n with
  | zero => intros; exact Ev.nn
  | succ n ih =>
    intro a1 m
    rw [FX12_qTest_L2]
    refine Ev.run (pc' := 3) (ls' := [some (.ref 112), some (.int a1), none]) (st' := [.int a1]) (m' := m) [(.iload_n 1, 0, 0, 0, 0)] (by decide +kernel) rfl ?_
    refine Ev.if_eq (t := 110) (by decide +kernel) ?_ ?_
    · refine Ev.le (ls' := [some (.ref 112), none, none]) ⟨rfl, trivial⟩ ?_
      exact hk _
    · refine Ev.run (pc' := 10) (ls' := [some (.ref 112), some (.int a1), none]) (st' := [.int (m.1 112 5)]) (m' := m) [(.aload_n 0, 0, 0, 0, 0), (.getfield 228, 12, 5, 0, 0)] (by decide +kernel) rfl ?_
      refine Ev.if_ne (t := 110) (by decide +kernel) ?_ ?_
      · refine Ev.le (ls' := [some (.ref 112), none, none]) ⟨rfl, trivial⟩ ?_
        exact hk _
      · refine Ev.run (pc' := 14) (ls' := [some (.ref 112), some (.int a1), none]) (st' := [.ref 112]) (m' := m) [(.aload_n 0, 0, 0, 0, 0)] (by decide +kernel) rfl ?_
        refine Ev.cV (av := []) (st := []) (a := 112) (EX12_look (l := l) (Ln := Ln) (xs := xs) (d := 0) f m (by decide)) rfl (by decide +kernel) mwX12_look iwX12_look vwX12_look lk_12_240 (by omega) (by decide) rfl (by decide) rfl rfl (Nat.le_of_ble_eq_true rfl) (fun r1 m2 => ?_)
        refine Ev.run (pc' := 21) (ls' := [some (.ref 112), some (.int a1), some (.int r1)]) (st' := [.int 91, .int r1]) (m' := m2) [(.istore_n 2, 0, 0, 0, 0), (.iload_n 2, 0, 0, 0, 0), (.bipush 91, 0, 0, 91, 0)] (by decide +kernel) rfl ?_
        refine Ev.ic_ne (t := 47) (by decide +kernel) ?_ ?_
        · refine Ev.run (pc' := 52) (ls' := [some (.ref 112), some (.int a1), some (.int r1)]) (st' := [.ref 160, .ref 112]) (m' := m2) [(.aload_n 0, 0, 0, 0, 0), (.aload_n 0, 0, 0, 0, 0), (.getfield 162, 12, 75, 0, 0)] (by decide +kernel) rfl ?_
          refine Ev.cV (av := [.ref 160]) (st := []) (a := 112) (EX12_isHere (l := l) (Ln := Ln) (xs := xs) (d := 1) f 160 m2 (by decide) (by decide)) rfl (by decide +kernel) mwX12_isHere iwX12_isHere vwX12_isHere lk_12_251 (by omega) (by decide) rfl (by decide) rfl rfl (Nat.le_of_ble_eq_true rfl) (fun r3 m4 => ?_)
          refine Ev.if_eq (t := 79) (by decide +kernel) ?_ ?_
          · refine Ev.run (pc' := 80) (ls' := [some (.ref 112), some (.int a1), some (.int r1)]) (st' := [.ref 112]) (m' := m4) [(.aload_n 0, 0, 0, 0, 0)] (by decide +kernel) rfl ?_
            refine Ev.cV (av := []) (st := []) (a := 112) (EX12_qFact (l := l) (Ln := Ln) (xs := xs) (d := 7) f m4 (by decide)) rfl (by decide +kernel) mwX12_qFact iwX12_qFact vwX12_qFact lk_12_588 (by omega) (by decide) rfl (by decide) rfl rfl (Nat.le_of_ble_eq_true rfl) (fun r5 m6 => ?_)
            refine Ev.run (pc' := 84) (ls' := [some (.ref 112), some (.int a1), some (.int r1)]) (st' := [.ref 112]) (m' := m6) [(.aload_n 0, 0, 0, 0, 0)] (by decide +kernel) rfl ?_
            refine Ev.cV (av := []) (st := []) (a := 112) (EX12_qDropsNots (l := l) (Ln := Ln) (xs := xs) (d := 2) f m6 (by decide)) rfl (by decide +kernel) mwX12_qDropsNots iwX12_qDropsNots vwX12_qDropsNots lk_12_591 (by omega) (by decide) rfl (by decide) rfl rfl (Nat.le_of_ble_eq_true rfl) (fun r7 m8 => ?_)
            refine Ev.run (pc' := 91) (ls' := [some (.ref 112), some (.int a1), some (.int r1)]) (st' := [.int (m8.1 112 5)]) (m' := m8) [(.aload_n 0, 0, 0, 0, 0), (.getfield 228, 12, 5, 0, 0)] (by decide +kernel) rfl ?_
            refine Ev.if_ne (t := 105) (by decide +kernel) ?_ ?_
            · refine Ev.le (ls' := [some (.ref 112), none, none]) ⟨rfl, trivial⟩ ?_
              exact EX12_qTest_J105 f (FX12_qTest_L2 f k n) m8 ih (by omega)
            · refine Ev.run (pc' := 95) (ls' := [some (.ref 112), some (.int a1), some (.int r1)]) (st' := [.ref 112]) (m' := m8) [(.aload_n 0, 0, 0, 0, 0)] (by decide +kernel) rfl ?_
              refine Ev.cV (av := []) (st := []) (a := 112) (EX12_qGoesOnTest (l := l) (Ln := Ln) (xs := xs) (d := 3) f m8 (by decide)) rfl (by decide +kernel) mwX12_qGoesOnTest iwX12_qGoesOnTest vwX12_qGoesOnTest lk_12_594 (by omega) (by decide) rfl (by decide) rfl rfl (Nat.le_of_ble_eq_true rfl) (fun r9 m10 => ?_)
              refine Ev.if_eq (t := 105) (by decide +kernel) ?_ ?_
              · refine Ev.le (ls' := [some (.ref 112), none, none]) ⟨rfl, trivial⟩ ?_
                exact EX12_qTest_J105 f (FX12_qTest_L2 f k n) m10 ih (by omega)
              · refine Ev.run (pc' := 102) (ls' := [some (.ref 112), some (.int a1), some (.int r1)]) (st' := [.int 1]) (m' := m10) [(.iconst 1, 0, 0, 1, 0)] (by decide +kernel) rfl ?_
                refine Ev.gto (t := 106) (by decide +kernel) ?_
                refine Ev.le (ls' := [some (.ref 112), none, none]) ⟨rfl, trivial⟩ ?_
                exact EX12_qTest_J106 f (FX12_qTest_L2 f k n) (1 : Int32) m10 ih (by omega)
          · refine Ev.run (pc' := 65) (ls' := [some (.ref 112), some (.int a1), some (.int r1)]) (st' := [.int (m4.1 112 2), .int 12, .ref 112]) (m' := m4) [(.aload_n 0, 0, 0, 0, 0), (.bipush 12, 0, 0, 12, 0), (.aload_n 0, 0, 0, 0, 0), (.getfield 234, 12, 2, 0, 0)] (by decide +kernel) rfl ?_
            refine Ev.cV (av := [.int 12, .int (m4.1 112 2)]) (st := []) (a := 112) (EX12_qOpens (l := l) (Ln := Ln) (xs := xs) (d := 1) f (12 : Int32) (m4.1 112 2) m4 (by decide)) rfl (by decide +kernel) mwX12_qOpens iwX12_qOpens vwX12_qOpens lk_12_564 (by omega) (by decide) rfl (by decide) rfl rfl (Nat.le_of_ble_eq_true rfl) (fun r11 m12 => ?_)
            refine Ev.run (pc' := 73) (ls' := [some (.ref 112), some (.int a1), some (.int r1)]) (st' := [.ref 160, .ref 112]) (m' := m12) [(.aload_n 0, 0, 0, 0, 0), (.aload_n 0, 0, 0, 0, 0), (.getfield 162, 12, 75, 0, 0)] (by decide +kernel) rfl ?_
            refine Ev.cV (av := [.ref 160]) (st := []) (a := 112) (EX12_asks (l := l) (Ln := Ln) (xs := xs) (d := 3) f 160 m12 (by decide) (by decide)) rfl (by decide +kernel) mwX12_asks iwX12_asks vwX12_asks lk_12_291 (by omega) (by decide) rfl (by decide) rfl rfl (Nat.le_of_ble_eq_true rfl) (fun r13 m14 => ?_)
            refine Ev.gto (t := 2) (by decide +kernel) ?_
            refine Ev.le (ls' := [some (.ref 112), some (.int a1), none]) ⟨rfl, ⟨rfl, trivial⟩⟩ ?_
            exact ih _ _
        · refine Ev.run (pc' := 31) (ls' := [some (.ref 112), some (.int a1), some (.int r1)]) (st' := [.int (m2.1 112 2), .int 25, .ref 112]) (m' := m2) [(.aload_n 0, 0, 0, 0, 0), (.bipush 25, 0, 0, 25, 0), (.aload_n 0, 0, 0, 0, 0), (.getfield 234, 12, 2, 0, 0)] (by decide +kernel) rfl ?_
          refine Ev.cV (av := [.int 25, .int (m2.1 112 2)]) (st := []) (a := 112) (EX12_qOpens (l := l) (Ln := Ln) (xs := xs) (d := 1) f (25 : Int32) (m2.1 112 2) m2 (by decide)) rfl (by decide +kernel) mwX12_qOpens iwX12_qOpens vwX12_qOpens lk_12_564 (by omega) (by decide) rfl (by decide) rfl rfl (Nat.le_of_ble_eq_true rfl) (fun r15 m16 => ?_)
          refine Ev.run (pc' := 44) (ls' := [some (.ref 112), some (.int a1), some (.int r1)]) (st' := []) (m' := ((ev_up m16.1 112 2 ((m16.1 112 2) + 1)), m16.2)) [(.aload_n 0, 0, 0, 0, 0), (.dup, 0, 0, 0, 0), (.getfield 234, 12, 2, 0, 0), (.iconst 1, 0, 0, 1, 0), (.iadd, 0, 0, 0, 0), (.putfield 234, 12, 2, 0, 0)] (by decide +kernel) rfl ?_
          refine Ev.gto (t := 2) (by decide +kernel) ?_
          refine Ev.le (ls' := [some (.ref 112), some (.int a1), none]) ⟨rfl, ⟨rfl, trivial⟩⟩ ?_
          exact ih _ _
set_option maxRecDepth 100000 in
set_option maxHeartbeats 4000000 in
theorem EX12_qTest_L110 {l : Launch} {Ln : Nat} {xs : Nat → Int32} {d : Nat} (f : Nat) (k : ev_M → Option (Unit × ev_M))     (hk : ∀  (em : ev_M), Ev ev_eV l Ln xs YX12_qTest d Sx 131 [none, none, none] [] em (k em)) (hd : 8 ≤ d) : ∀ (n : Nat)  (m : ev_M), Ev ev_eV l Ln xs YX12_qTest d Sx 110 [some (.ref 112), none, none] [] m (FX12_qTest_L110 f k n m) := by
  intro n
  induction n with
  | zero => intros; exact Ev.nn
  | succ n ih =>
    intro  m
    rw [FX12_qTest_L110]
    refine Ev.run (pc' := 114) (ls' := [some (.ref 112), none, none]) (st' := [.int (m.1 112 5)]) (m' := m) [(.aload_n 0, 0, 0, 0, 0), (.getfield 228, 12, 5, 0, 0)] (by decide +kernel) rfl ?_
    refine Ev.if_ne (t := 131) (by decide +kernel) ?_ ?_
    · refine Ev.le (ls' := [none, none, none]) trivial ?_
      exact hk _
    · refine Ev.run (pc' := 121) (ls' := [some (.ref 112), none, none]) (st' := [.int (m.1 112 95)]) (m' := m) [(.aload_n 0, 0, 0, 0, 0), (.getfield 317, 12, 95, 0, 0)] (by decide +kernel) rfl ?_
      refine Ev.if_le (t := 131) (by decide +kernel) ?_ ?_
      · refine Ev.le (ls' := [none, none, none]) trivial ?_
        exact hk _
      · refine Ev.run (pc' := 125) (ls' := [some (.ref 112), none, none]) (st' := [.ref 112]) (m' := m) [(.aload_n 0, 0, 0, 0, 0)] (by decide +kernel) rfl ?_
        refine Ev.cV (av := []) (st := []) (a := 112) (EX12_qDrops (l := l) (Ln := Ln) (xs := xs) (d := 1) f m (by decide)) rfl (by decide +kernel) mwX12_qDrops iwX12_qDrops vwX12_qDrops lk_12_552 (by omega) (by decide) rfl (by decide) rfl rfl (Nat.le_of_ble_eq_true rfl) (fun r18 m19 => ?_)
        refine Ev.gto (t := 110) (by decide +kernel) ?_
        exact ih _
set_option maxRecDepth 100000 in
set_option maxHeartbeats 4000000 in
theorem EX12_qTest {l : Launch} {Ln : Nat} {xs : Nat → Int32} {d : Nat} (f : Nat)  (m : ev_M)  (hd : 8 ≤ d) : Mv ev_eV l Ln xs YX12_qTest d Sx [.ref 112] m (FX12_qTest f  m) := by
  refine Mv.of (by decide +kernel) rfl (Nat.le_of_ble_eq_true rfl) (Ev.le (ls' := [some (.ref 112), none, none]) ⟨rfl, trivial⟩ ?_)
  unfold FX12_qTest
  refine Ev.run (pc' := 2) (ls' := [some (.ref 112), some (.int 1), none]) (st' := []) (m' := m) [(.iconst 1, 0, 0, 1, 0), (.istore_n 1, 0, 0, 0, 0)] (by decide +kernel) rfl ?_
  refine EX12_qTest_L2 f _ ?_ (by omega) _ _ _
  intro m17
  refine EX12_qTest_L110 f _ ?_ (by omega) _ _
  intro m20
  exact Ev.retv rfl rfl (by decide +kernel)
def FX12_ask_L192 (f : Nat) (k : ev_M → Option (Int64 × ev_M))  (a1 : Int32) : Nat → Int32 → ev_M → Option (Int64 × ev_M)
  | 0, _, _ => none
  | n + 1, a2, m => (ev_bd (FX12_towerMany f m) (fun r5 m6 => (if r5 ≤ a2 then (k m6) else (ev_bd (FX12_qTold f a2 m6) (fun r7 m8 => (ev_bd (FX12_qTakes f a1 r7 a2 m8) (fun _ m10 => (FX12_ask_L192 f k a1 n (a2 + 1) m10))))))))
def FX12_ask_J173 (f : Nat)   (a1 : Int32) (s1 : Int64) (m : ev_M) : Option (Int64 × ev_M) :=
  (ev_bd (FX12_laysTones f ((ev_up m.1 112 101 1), (ev_up m.2 112 100 s1))) (fun _ m4 => (FX12_ask_L192 f (fun m11 => some ((m11.2 112 100), m11)) a1 f (0 : Int32) ((ev_up m4.1 112 46 2), m4.2))))
def FX12_ask_J133 (f : Nat)   (a1 : Int32)  (m : ev_M) : Option (Int64 × ev_M) :=
  (if (m.1 112 5) = 0 then (if 2 ≤ a1 then (FX12_ask_J173 f a1 (0 : Int64) ((ev_up (ev_up m.1 112 7 (m.1 112 5)) 112 8 (m.1 112 6)), m.2)) else (FX12_ask_J173 f a1 (-1 : Int64) ((ev_up (ev_up m.1 112 7 (m.1 112 5)) 112 8 (m.1 112 6)), m.2))) else some ((-1000000000000000), ((ev_up (ev_up m.1 112 7 (m.1 112 5)) 112 8 (m.1 112 6)), m.2)))
def FX12_ask_J109 (f : Nat)   (a1 : Int32)  (m : ev_M) : Option (Int64 × ev_M) :=
  (if (m.1 112 5) = 0 then (ev_bd (FX12_look f m) (fun r12 m13 => (if r12 = (-1) then (FX12_ask_J133 f a1 m13) else (ev_bd (FX12_fail f (1 : Int32) (m13.1 112 2) m13) (fun _ m15 => (FX12_ask_J133 f a1 m15)))))) else (FX12_ask_J133 f a1 m))
def FX12_ask_J98 (f : Nat)   (a1 : Int32)  (m : ev_M) : Option (Int64 × ev_M) :=
  (if (m.1 112 5) = 0 then (ev_bd (FX12_qSums f m) (fun _ m17 => (FX12_ask_J109 f a1 m17))) else (FX12_ask_J109 f a1 m))
def FX12_ask (f : Nat)  (m : ev_M) : Option (Int64 × ev_M) :=
  (if (m.1 112 45) = 0 then some ((-1000000000000000), ((ev_up m.1 112 1 0), m.2)) else (ev_bd (FX12_qKind f ((ev_up (ev_up (ev_up (ev_up (ev_up (ev_up (ev_up (ev_up (ev_up (ev_up (ev_up m.1 112 3 (m.1 112 1)) 112 1 0) 112 2 0) 112 4 (-1)) 112 5 0) 112 6 (-1)) 112 46 2) 112 93 0) 112 95 0) 112 96 0) 112 97 0), m.2)) (fun r1 m2 => (if (m2.1 112 5) = 0 then (if 3 ≤ r1 then (FX12_ask_J98 f r1 m2) else (ev_bd (FX12_qTest f m2) (fun _ m19 => (FX12_ask_J109 f r1 m19)))) else (FX12_ask_J98 f r1 m2)))))
set_option maxRecDepth 100000 in
set_option maxHeartbeats 4000000 in
theorem EX12_ask_L192 {l : Launch} {Ln : Nat} {xs : Nat → Int32} {d : Nat} (f : Nat) (k : ev_M → Option (Int64 × ev_M))  (a1 : Int32)   (hk : ∀  (em : ev_M), Ev ev_eL l Ln xs YX12_ask d Sx 217 [some (.ref 112), none, none] [] em (k em)) (hd : 9 ≤ d) : ∀ (n : Nat) (a2 : Int32) (m : ev_M), Ev ev_eL l Ln xs YX12_ask d Sx 192 [some (.ref 112), some (.int a1), some (.int a2)] [] m (FX12_ask_L192 f k a1 n a2 m) := by
  intro n
  induction n with
  | zero => intros; exact Ev.nn
  | succ n ih =>
    intro a2 m
    rw [FX12_ask_L192]
    refine Ev.run (pc' := 194) (ls' := [some (.ref 112), some (.int a1), some (.int a2)]) (st' := [.ref 112, .int a2]) (m' := m) [(.iload_n 2, 0, 0, 0, 0), (.aload_n 0, 0, 0, 0, 0)] (by decide +kernel) rfl ?_
    refine Ev.cV (av := []) (st := [.int a2]) (a := 112) (EX12_towerMany (l := l) (Ln := Ln) (xs := xs) (d := 0) f m (by decide)) rfl (by decide +kernel) mwX12_towerMany iwX12_towerMany vwX12_towerMany lk_12_369 (by omega) (by decide) rfl (by decide) rfl rfl (Nat.le_of_ble_eq_true rfl) (fun r5 m6 => ?_)
    refine Ev.ic_ge (t := 217) (by decide +kernel) ?_ ?_
    · refine Ev.le (ls' := [some (.ref 112), none, none]) ⟨rfl, trivial⟩ ?_
      exact hk _
    · refine Ev.run (pc' := 204) (ls' := [some (.ref 112), some (.int a1), some (.int a2)]) (st' := [.int a2, .ref 112, .int a1, .ref 112]) (m' := m6) [(.aload_n 0, 0, 0, 0, 0), (.iload_n 1, 0, 0, 0, 0), (.aload_n 0, 0, 0, 0, 0), (.iload_n 2, 0, 0, 0, 0)] (by decide +kernel) rfl ?_
      refine Ev.cV (av := [.int a2]) (st := [.int a1, .ref 112]) (a := 112) (EX12_qTold (l := l) (Ln := Ln) (xs := xs) (d := 2) f a2 m6 (by decide)) rfl (by decide +kernel) mwX12_qTold iwX12_qTold vwX12_qTold lk_12_640 (by omega) (by decide) rfl (by decide) rfl rfl (Nat.le_of_ble_eq_true rfl) (fun r7 m8 => ?_)
      refine Ev.run (pc' := 208) (ls' := [some (.ref 112), some (.int a1), some (.int a2)]) (st' := [.int a2, .long r7, .int a1, .ref 112]) (m' := m8) [(.iload_n 2, 0, 0, 0, 0)] (by decide +kernel) rfl ?_
      refine Ev.cV (av := [.int a1, .long r7, .int a2]) (st := []) (a := 112) (EX12_qTakes (l := l) (Ln := Ln) (xs := xs) (d := 0) f a1 r7 a2 m8 (by decide)) rfl (by decide +kernel) mwX12_qTakes iwX12_qTakes vwX12_qTakes lk_12_644 (by omega) (by decide) rfl (by decide) rfl rfl (Nat.le_of_ble_eq_true rfl) (fun r9 m10 => ?_)
      refine Ev.run (pc' := 214) (ls' := [some (.ref 112), some (.int a1), some (.int (a2 + 1))]) (st' := []) (m' := m10) [(.iinc 2 1, 0, 0, 1, 0)] (by decide +kernel) rfl ?_
      refine Ev.gto (t := 192) (by decide +kernel) ?_
      exact ih _ _
set_option maxRecDepth 100000 in
set_option maxHeartbeats 4000000 in
theorem EX12_ask_J173 {l : Launch} {Ln : Nat} {xs : Nat → Int32} {d : Nat} (f : Nat)   (a1 : Int32) (s1 : Int64) (m : ev_M)   (hd : 9 ≤ d) : Ev ev_eL l Ln xs YX12_ask d Sx 173 [some (.ref 112), some (.int a1), none] [.long s1, .ref 112] m (FX12_ask_J173 f a1 s1 m) := by
  unfold FX12_ask_J173
  refine Ev.run (pc' := 182) (ls' := [some (.ref 112), some (.int a1), none]) (st' := [.ref 112]) (m' := ((ev_up m.1 112 101 1), (ev_up m.2 112 100 s1))) [(.putfield 623, 12, 100, 0, 0), (.aload_n 0, 0, 0, 0, 0), (.iconst 1, 0, 0, 1, 0), (.putfield 626, 12, 101, 0, 0), (.aload_n 0, 0, 0, 0, 0)] (by decide +kernel) rfl ?_
  refine Ev.cV (av := []) (st := []) (a := 112) (EX12_laysTones (l := l) (Ln := Ln) (xs := xs) (d := 5) f ((ev_up m.1 112 101 1), (ev_up m.2 112 100 s1)) (by decide)) rfl (by decide +kernel) mwX12_laysTones iwX12_laysTones vwX12_laysTones lk_12_637 (by omega) (by decide) rfl (by decide) rfl rfl (Nat.le_of_ble_eq_true rfl) (fun r3 m4 => ?_)
  refine Ev.run (pc' := 192) (ls' := [some (.ref 112), some (.int a1), some (.int 0)]) (st' := []) (m' := ((ev_up m4.1 112 46 2), m4.2)) [(.aload_n 0, 0, 0, 0, 0), (.iconst 2, 0, 0, 2, 0), (.putfield 283, 12, 46, 0, 0), (.iconst 0, 0, 0, 0, 0), (.istore_n 2, 0, 0, 0, 0)] (by decide +kernel) rfl ?_
  refine EX12_ask_L192 f _ a1 ?_ (by omega) _ _ _
  intro m11
  refine Ev.run (pc' := 221) (ls' := [some (.ref 112), none, none]) (st' := [.long (m11.2 112 100)]) (m' := m11) [(.aload_n 0, 0, 0, 0, 0), (.getfield 623, 12, 100, 0, 0)] (by decide +kernel) rfl ?_
  exact Ev.retl rfl rfl (by decide +kernel)
set_option maxRecDepth 100000 in
set_option maxHeartbeats 4000000 in
theorem EX12_ask_J133 {l : Launch} {Ln : Nat} {xs : Nat → Int32} {d : Nat} (f : Nat)   (a1 : Int32)  (m : ev_M)   (hd : 9 ≤ d) : Ev ev_eL l Ln xs YX12_ask d Sx 133 [some (.ref 112), some (.int a1), none] [] m (FX12_ask_J133 f a1 m) := by
  unfold FX12_ask_J133
  refine Ev.run (pc' := 153) (ls' := [some (.ref 112), some (.int a1), none]) (st' := [.int (m.1 112 5)]) (m' := ((ev_up (ev_up m.1 112 7 (m.1 112 5)) 112 8 (m.1 112 6)), m.2)) [(.aload_n 0, 0, 0, 0, 0), (.aload_n 0, 0, 0, 0, 0), (.getfield 228, 12, 5, 0, 0), (.putfield 350, 12, 7, 0, 0), (.aload_n 0, 0, 0, 0, 0), (.aload_n 0, 0, 0, 0, 0), (.getfield 231, 12, 6, 0, 0), (.putfield 13, 12, 8, 0, 0), (.aload_n 0, 0, 0, 0, 0), (.getfield 228, 12, 5, 0, 0)] (by decide +kernel) rfl ?_
  refine Ev.if_eq (t := 160) (by decide +kernel) ?_ ?_
  · refine Ev.run (pc' := 163) (ls' := [some (.ref 112), some (.int a1), none]) (st' := [.int 2, .int a1, .ref 112]) (m' := ((ev_up (ev_up m.1 112 7 (m.1 112 5)) 112 8 (m.1 112 6)), m.2)) [(.aload_n 0, 0, 0, 0, 0), (.iload_n 1, 0, 0, 0, 0), (.iconst 2, 0, 0, 2, 0)] (by decide +kernel) rfl ?_
    refine Ev.ic_ge (t := 172) (by decide +kernel) ?_ ?_
    · refine Ev.run (pc' := 173) (ls' := [some (.ref 112), some (.int a1), none]) (st' := [.long 0, .ref 112]) (m' := ((ev_up (ev_up m.1 112 7 (m.1 112 5)) 112 8 (m.1 112 6)), m.2)) [(.lconst 0, 0, 0, 0, 0)] (by decide +kernel) rfl ?_
      exact EX12_ask_J173 f a1 (0 : Int64) ((ev_up (ev_up m.1 112 7 (m.1 112 5)) 112 8 (m.1 112 6)), m.2) (by omega)
    · refine Ev.run (pc' := 169) (ls' := [some (.ref 112), some (.int a1), none]) (st' := [.long (-1), .ref 112]) (m' := ((ev_up (ev_up m.1 112 7 (m.1 112 5)) 112 8 (m.1 112 6)), m.2)) [(.ldc2_w 615, 0, 0, 0, (-1))] (by decide +kernel) rfl ?_
      refine Ev.gto (t := 173) (by decide +kernel) ?_
      exact EX12_ask_J173 f a1 (-1 : Int64) ((ev_up (ev_up m.1 112 7 (m.1 112 5)) 112 8 (m.1 112 6)), m.2) (by omega)
  · refine Ev.run (pc' := 159) (ls' := [some (.ref 112), some (.int a1), none]) (st' := [.long (-1000000000000000)]) (m' := ((ev_up (ev_up m.1 112 7 (m.1 112 5)) 112 8 (m.1 112 6)), m.2)) [(.ldc2_w 629, 0, 0, 0, (-1000000000000000))] (by decide +kernel) rfl ?_
    exact Ev.retl rfl rfl (by decide +kernel)
set_option maxRecDepth 100000 in
set_option maxHeartbeats 4000000 in
theorem EX12_ask_J109 {l : Launch} {Ln : Nat} {xs : Nat → Int32} {d : Nat} (f : Nat)   (a1 : Int32)  (m : ev_M)   (hd : 9 ≤ d) : Ev ev_eL l Ln xs YX12_ask d Sx 109 [some (.ref 112), some (.int a1), none] [] m (FX12_ask_J109 f a1 m) := by
  unfold FX12_ask_J109
  refine Ev.run (pc' := 113) (ls' := [some (.ref 112), some (.int a1), none]) (st' := [.int (m.1 112 5)]) (m' := m) [(.aload_n 0, 0, 0, 0, 0), (.getfield 228, 12, 5, 0, 0)] (by decide +kernel) rfl ?_
  refine Ev.if_ne (t := 133) (by decide +kernel) ?_ ?_
  · exact EX12_ask_J133 f a1 m (by omega)
  · refine Ev.run (pc' := 117) (ls' := [some (.ref 112), some (.int a1), none]) (st' := [.ref 112]) (m' := m) [(.aload_n 0, 0, 0, 0, 0)] (by decide +kernel) rfl ?_
    refine Ev.cV (av := []) (st := []) (a := 112) (EX12_look (l := l) (Ln := Ln) (xs := xs) (d := 0) f m (by decide)) rfl (by decide +kernel) mwX12_look iwX12_look vwX12_look lk_12_240 (by omega) (by decide) rfl (by decide) rfl rfl (Nat.le_of_ble_eq_true rfl) (fun r12 m13 => ?_)
    refine Ev.run (pc' := 121) (ls' := [some (.ref 112), some (.int a1), none]) (st' := [.int (-1), .int r12]) (m' := m13) [(.iconst (-1), 0, 0, (-1), 0)] (by decide +kernel) rfl ?_
    refine Ev.ic_eq (t := 133) (by decide +kernel) ?_ ?_
    · exact EX12_ask_J133 f a1 m13 (by omega)
    · refine Ev.run (pc' := 130) (ls' := [some (.ref 112), some (.int a1), none]) (st' := [.int (m13.1 112 2), .int 1, .ref 112]) (m' := m13) [(.aload_n 0, 0, 0, 0, 0), (.iconst 1, 0, 0, 1, 0), (.aload_n 0, 0, 0, 0, 0), (.getfield 234, 12, 2, 0, 0)] (by decide +kernel) rfl ?_
      refine Ev.cV (av := [.int 1, .int (m13.1 112 2)]) (st := []) (a := 112) (EX12_fail (l := l) (Ln := Ln) (xs := xs) (d := 0) f (1 : Int32) (m13.1 112 2) m13 (by decide)) rfl (by decide +kernel) mwX12_fail iwX12_fail vwX12_fail lk_12_258 (by omega) (by decide) rfl (by decide) rfl rfl (Nat.le_of_ble_eq_true rfl) (fun r14 m15 => ?_)
      exact EX12_ask_J133 f a1 m15 (by omega)
set_option maxRecDepth 100000 in
set_option maxHeartbeats 4000000 in
theorem EX12_ask_J98 {l : Launch} {Ln : Nat} {xs : Nat → Int32} {d : Nat} (f : Nat)   (a1 : Int32)  (m : ev_M)   (hd : 9 ≤ d) : Ev ev_eL l Ln xs YX12_ask d Sx 98 [some (.ref 112), some (.int a1), none] [] m (FX12_ask_J98 f a1 m) := by
  unfold FX12_ask_J98
  refine Ev.run (pc' := 102) (ls' := [some (.ref 112), some (.int a1), none]) (st' := [.int (m.1 112 5)]) (m' := m) [(.aload_n 0, 0, 0, 0, 0), (.getfield 228, 12, 5, 0, 0)] (by decide +kernel) rfl ?_
  refine Ev.if_ne (t := 109) (by decide +kernel) ?_ ?_
  · exact EX12_ask_J109 f a1 m (by omega)
  · refine Ev.run (pc' := 106) (ls' := [some (.ref 112), some (.int a1), none]) (st' := [.ref 112]) (m' := m) [(.aload_n 0, 0, 0, 0, 0)] (by decide +kernel) rfl ?_
    refine Ev.cV (av := []) (st := []) (a := 112) (EX12_qSums (l := l) (Ln := Ln) (xs := xs) (d := 6) f m (by decide)) rfl (by decide +kernel) mwX12_qSums iwX12_qSums vwX12_qSums lk_12_326 (by omega) (by decide) rfl (by decide) rfl rfl (Nat.le_of_ble_eq_true rfl) (fun r16 m17 => ?_)
    exact EX12_ask_J109 f a1 m17 (by omega)
set_option maxRecDepth 100000 in
set_option maxHeartbeats 4000000 in
theorem EX12_ask {l : Launch} {Ln : Nat} {xs : Nat → Int32} {d : Nat} (f : Nat)  (m : ev_M)  (hd : 9 ≤ d) : Mv ev_eL l Ln xs YX12_ask d Sx [.ref 112] m (FX12_ask f  m) := by
  refine Mv.of (by decide +kernel) rfl (Nat.le_of_ble_eq_true rfl) (Ev.le (ls' := [some (.ref 112), none, none]) ⟨rfl, trivial⟩ ?_)
  unfold FX12_ask
  refine Ev.run (pc' := 4) (ls' := [some (.ref 112), none, none]) (st' := [.int (m.1 112 45)]) (m' := m) [(.aload_n 0, 0, 0, 0, 0), (.getfield 356, 12, 45, 0, 0)] (by decide +kernel) rfl ?_
  refine Ev.if_ne (t := 16) (by decide +kernel) ?_ ?_
  · refine Ev.run (pc' := 75) (ls' := [some (.ref 112), none, none]) (st' := [.ref 112]) (m' := ((ev_up (ev_up (ev_up (ev_up (ev_up (ev_up (ev_up (ev_up (ev_up (ev_up (ev_up m.1 112 3 (m.1 112 1)) 112 1 0) 112 2 0) 112 4 (-1)) 112 5 0) 112 6 (-1)) 112 46 2) 112 93 0) 112 95 0) 112 96 0) 112 97 0), m.2)) [(.aload_n 0, 0, 0, 0, 0), (.aload_n 0, 0, 0, 0, 0), (.getfield 225, 12, 1, 0, 0), (.putfield 237, 12, 3, 0, 0), (.aload_n 0, 0, 0, 0, 0), (.iconst 0, 0, 0, 0, 0), (.putfield 225, 12, 1, 0, 0), (.aload_n 0, 0, 0, 0, 0), (.iconst 0, 0, 0, 0, 0), (.putfield 234, 12, 2, 0, 0), (.aload_n 0, 0, 0, 0, 0), (.iconst (-1), 0, 0, (-1), 0), (.putfield 248, 12, 4, 0, 0), (.aload_n 0, 0, 0, 0, 0), (.iconst 0, 0, 0, 0, 0), (.putfield 228, 12, 5, 0, 0), (.aload_n 0, 0, 0, 0, 0), (.iconst (-1), 0, 0, (-1), 0), (.putfield 231, 12, 6, 0, 0), (.aload_n 0, 0, 0, 0, 0), (.iconst 2, 0, 0, 2, 0), (.putfield 283, 12, 46, 0, 0), (.aload_n 0, 0, 0, 0, 0), (.iconst 0, 0, 0, 0, 0), (.putfield 314, 12, 93, 0, 0), (.aload_n 0, 0, 0, 0, 0), (.iconst 0, 0, 0, 0, 0), (.putfield 317, 12, 95, 0, 0), (.aload_n 0, 0, 0, 0, 0), (.iconst 0, 0, 0, 0, 0), (.putfield 320, 12, 96, 0, 0), (.aload_n 0, 0, 0, 0, 0), (.iconst 0, 0, 0, 0, 0), (.putfield 323, 12, 97, 0, 0), (.aload_n 0, 0, 0, 0, 0)] (by decide +kernel) rfl ?_
    refine Ev.cV (av := []) (st := []) (a := 112) (EX12_qKind (l := l) (Ln := Ln) (xs := xs) (d := 4) f ((ev_up (ev_up (ev_up (ev_up (ev_up (ev_up (ev_up (ev_up (ev_up (ev_up (ev_up m.1 112 3 (m.1 112 1)) 112 1 0) 112 2 0) 112 4 (-1)) 112 5 0) 112 6 (-1)) 112 46 2) 112 93 0) 112 95 0) 112 96 0) 112 97 0), m.2) (by decide)) rfl (by decide +kernel) mwX12_qKind iwX12_qKind vwX12_qKind lk_12_631 (by omega) (by decide) rfl (by decide) rfl rfl (Nat.le_of_ble_eq_true rfl) (fun r1 m2 => ?_)
    refine Ev.run (pc' := 83) (ls' := [some (.ref 112), some (.int r1), none]) (st' := [.int (m2.1 112 5)]) (m' := m2) [(.istore_n 1, 0, 0, 0, 0), (.aload_n 0, 0, 0, 0, 0), (.getfield 228, 12, 5, 0, 0)] (by decide +kernel) rfl ?_
    refine Ev.if_ne (t := 98) (by decide +kernel) ?_ ?_
    · exact EX12_ask_J98 f r1 m2 (by omega)
    · refine Ev.run (pc' := 88) (ls' := [some (.ref 112), some (.int r1), none]) (st' := [.int 3, .int r1]) (m' := m2) [(.iload_n 1, 0, 0, 0, 0), (.iconst 3, 0, 0, 3, 0)] (by decide +kernel) rfl ?_
      refine Ev.ic_ge (t := 98) (by decide +kernel) ?_ ?_
      · exact EX12_ask_J98 f r1 m2 (by omega)
      · refine Ev.run (pc' := 92) (ls' := [some (.ref 112), some (.int r1), none]) (st' := [.ref 112]) (m' := m2) [(.aload_n 0, 0, 0, 0, 0)] (by decide +kernel) rfl ?_
        refine Ev.cV (av := []) (st := []) (a := 112) (EX12_qTest (l := l) (Ln := Ln) (xs := xs) (d := 8) f m2 (by decide)) rfl (by decide +kernel) mwX12_qTest iwX12_qTest vwX12_qTest lk_12_634 (by omega) (by decide) rfl (by decide) rfl rfl (Nat.le_of_ble_eq_true rfl) (fun r18 m19 => ?_)
        refine Ev.gto (t := 109) (by decide +kernel) ?_
        exact EX12_ask_J109 f r1 m19 (by omega)
  · refine Ev.run (pc' := 15) (ls' := [some (.ref 112), none, none]) (st' := [.long (-1000000000000000)]) (m' := ((ev_up m.1 112 1 0), m.2)) [(.aload_n 0, 0, 0, 0, 0), (.iconst 0, 0, 0, 0, 0), (.putfield 225, 12, 1, 0, 0), (.ldc2_w 629, 0, 0, 0, (-1000000000000000))] (by decide +kernel) rfl ?_
    exact Ev.retl rfl rfl (by decide +kernel)
