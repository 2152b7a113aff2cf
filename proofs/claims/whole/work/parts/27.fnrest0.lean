def HRA (l : Launch) (Ln : Nat) (xs : Nat → Int32) (dr : Nat) (rc : Nat → Int32 → ev_M → Option (Unit × ev_M)) : Prop := (∀ m : ev_M, Mv ev_eV l Ln xs YX9_readSum dr Sx [.ref 15] m (rc 0 0 m)) ∧ (∀ m : ev_M, Mv ev_eV l Ln xs YX9_readProduct dr Sx [.ref 15] m (rc 1 0 m)) ∧ (∀ m : ev_M, Mv ev_eV l Ln xs YX9_readPart dr Sx [.ref 15] m (rc 2 0 m)) ∧ (∀ m : ev_M, Mv ev_eV l Ln xs YX9_readOpened dr Sx [.ref 15] m (rc 3 0 m)) ∧ (∀ (a : Int32) (m : ev_M), Mv ev_eV l Ln xs YX9_readPair dr Sx [.ref 15, .int a] m (rc 4 a m)) ∧ (∀ m : ev_M, Mv ev_eV l Ln xs YX9_readSaidAhead dr Sx [.ref 15] m (rc 5 0 m))
def FX9_readSum_J55 (f : Nat) (rc : Nat → Int32 → ev_M → Option (Unit × ev_M)) (kt6 : Int32 → ev_M → Option (Unit × ev_M))  (a1 : Int32) (s0 : Int32) (m : ev_M) : Option (Unit × ev_M) :=
  (ev_bd (FX10_advance f m) (fun _ m8 => (ev_bd (rc 1 (0 : Int32) m8) (fun _ m10 => (ev_bd (FX9_put f s0 m10) (fun _ m12 => (kt6 (a1 + 1) m12)))))))
def FX9_readSum_J37 (f : Nat) (rc : Nat → Int32 → ev_M → Option (Unit × ev_M)) (kt6 : Int32 → ev_M → Option (Unit × ev_M))  (a1 : Int32)  (m : ev_M) : Option (Unit × ev_M) :=
  (ev_bd (FX10_isSign f (43 : Int32) m) (fun r5 m6 => (if r5 = 0 then (FX9_readSum_J55 f rc kt6 a1 (-2 : Int32) m6) else (FX9_readSum_J55 f rc kt6 a1 (-1 : Int32) m6))))
def FX9_readSum_L6 (f : Nat) (rc : Nat → Int32 → ev_M → Option (Unit × ev_M)) (k : ev_M → Option (Unit × ev_M))   : Nat → Int32 → ev_M → Option (Unit × ev_M)
  | 0, _, _ => none
  | n + 1, a1, m => (if 1600 ≤ a1 then (k m) else (ev_bd (FX10_isSign f (43 : Int32) m) (fun r3 m4 => (if r3 = 0 then (ev_bd (FX10_isSign f (45 : Int32) m4) (fun r13 m14 => (if r13 = 0 then (k m14) else (FX9_readSum_J37 f rc (FX9_readSum_L6 f rc k n) a1 m14)))) else (FX9_readSum_J37 f rc (FX9_readSum_L6 f rc k n) a1 m4)))))
def FX9_readSumB (f : Nat) (rc : Nat → Int32 → ev_M → Option (Unit × ev_M))  (m : ev_M) : Option (Unit × ev_M) :=
  (ev_bd (rc 1 (0 : Int32) m) (fun _ m2 => (FX9_readSum_L6 f rc (fun m15 => some ((), m15)) f (0 : Int32) m2)))
set_option maxRecDepth 100000 in
set_option maxHeartbeats 4000000 in
theorem EX9_readSum_J55 {l : Launch} {Ln : Nat} {xs : Nat → Int32} {d : Nat} (f : Nat) (rc : Nat → Int32 → ev_M → Option (Unit × ev_M)) {dr : Nat} (hr : HRA l Ln xs dr rc) (hdr : dr + 1 ≤ d) (kt6 : Int32 → ev_M → Option (Unit × ev_M))  (a1 : Int32) (s0 : Int32) (m : ev_M)  (hkt6 : ∀ (e1 : Int32) (em : ev_M), Ev ev_eV l Ln xs YX9_readSum d Sx 6 [some (.ref 15), some (.int e1), none] [] em (kt6 e1 em)) (hd : 6 ≤ d) : Ev ev_eV l Ln xs YX9_readSum d Sx 55 [some (.ref 15), some (.int a1), none] [.int s0] m (FX9_readSum_J55 f rc kt6 a1 s0 m) := by
  unfold FX9_readSum_J55
  refine Ev.run (pc' := 60) (ls' := [some (.ref 15), some (.int a1), some (.int s0)]) (st' := [.ref 13]) (m' := m) [(.istore_n 2, 0, 0, 0, 0), (.aload_n 0, 0, 0, 0, 0), (.getfield 25, 9, 0, 0, 0)] (by decide +kernel) rfl ?_
  refine Ev.cV (av := []) (st := []) (a := 13) (EX10_advance (l := l) (Ln := Ln) (xs := xs) (d := 5) f m (by decide)) rfl (by decide +kernel) mwX10_advance iwX10_advance vwX10_advance lk_9_38 (by omega) (by decide) rfl (by decide) rfl rfl (Nat.le_of_ble_eq_true rfl) (fun r7 m8 => ?_)
  refine Ev.run (pc' := 64) (ls' := [some (.ref 15), some (.int a1), some (.int s0)]) (st' := [.ref 15]) (m' := m8) [(.aload_n 0, 0, 0, 0, 0)] (by decide +kernel) rfl ?_
  refine Ev.cV (av := []) (st := []) (a := 15) (hr.2.1 m8) rfl (by decide +kernel) mwX9_readProduct iwX9_readProduct vwX9_readProduct lk_9_47 hdr (by decide) rfl (by decide) rfl rfl (Nat.le_of_ble_eq_true rfl) (fun r9 m10 => ?_)
  refine Ev.run (pc' := 69) (ls' := [some (.ref 15), some (.int a1), some (.int s0)]) (st' := [.int s0, .ref 15]) (m' := m10) [(.aload_n 0, 0, 0, 0, 0), (.iload_n 2, 0, 0, 0, 0)] (by decide +kernel) rfl ?_
  refine Ev.cV (av := [.int s0]) (st := []) (a := 15) (EX9_put (l := l) (Ln := Ln) (xs := xs) (d := 1) f s0 m10 (by decide)) rfl (by decide +kernel) mwX9_put iwX9_put vwX9_put lk_9_54 (by omega) (by decide) rfl (by decide) rfl rfl (Nat.le_of_ble_eq_true rfl) (fun r11 m12 => ?_)
  refine Ev.run (pc' := 75) (ls' := [some (.ref 15), some (.int (a1 + 1)), some (.int s0)]) (st' := []) (m' := m12) [(.iinc 1 1, 0, 0, 1, 0)] (by decide +kernel) rfl ?_
  refine Ev.gto (t := 6) (by decide +kernel) ?_
  refine Ev.le (ls' := [some (.ref 15), some (.int (a1 + 1)), none]) ⟨rfl, ⟨rfl, trivial⟩⟩ ?_
  exact hkt6 _ _
set_option maxRecDepth 100000 in
set_option maxHeartbeats 4000000 in
theorem EX9_readSum_J37 {l : Launch} {Ln : Nat} {xs : Nat → Int32} {d : Nat} (f : Nat) (rc : Nat → Int32 → ev_M → Option (Unit × ev_M)) {dr : Nat} (hr : HRA l Ln xs dr rc) (hdr : dr + 1 ≤ d) (kt6 : Int32 → ev_M → Option (Unit × ev_M))  (a1 : Int32)  (m : ev_M)  (hkt6 : ∀ (e1 : Int32) (em : ev_M), Ev ev_eV l Ln xs YX9_readSum d Sx 6 [some (.ref 15), some (.int e1), none] [] em (kt6 e1 em)) (hd : 6 ≤ d) : Ev ev_eV l Ln xs YX9_readSum d Sx 37 [some (.ref 15), some (.int a1), none] [] m (FX9_readSum_J37 f rc kt6 a1 m) := by
  unfold FX9_readSum_J37
  refine Ev.run (pc' := 43) (ls' := [some (.ref 15), some (.int a1), none]) (st' := [.int 43, .ref 13]) (m' := m) [(.aload_n 0, 0, 0, 0, 0), (.getfield 25, 9, 0, 0, 0), (.bipush 43, 0, 0, 43, 0)] (by decide +kernel) rfl ?_
  refine Ev.cV (av := [.int 43]) (st := []) (a := 13) (EX10_isSign (l := l) (Ln := Ln) (xs := xs) (d := 0) f (43 : Int32) m (by decide)) rfl (by decide +kernel) mwX10_isSign iwX10_isSign vwX10_isSign lk_9_50 (by omega) (by decide) rfl (by decide) rfl rfl (Nat.le_of_ble_eq_true rfl) (fun r5 m6 => ?_)
  refine Ev.if_eq (t := 53) (by decide +kernel) ?_ ?_
  · refine Ev.run (pc' := 55) (ls' := [some (.ref 15), some (.int a1), none]) (st' := [.int (-2)]) (m' := m6) [(.bipush (-2), 0, 0, (-2), 0)] (by decide +kernel) rfl ?_
    exact EX9_readSum_J55 f rc hr hdr kt6 a1 (-2 : Int32) m6 hkt6 (by omega)
  · refine Ev.run (pc' := 50) (ls' := [some (.ref 15), some (.int a1), none]) (st' := [.int (-1)]) (m' := m6) [(.iconst (-1), 0, 0, (-1), 0)] (by decide +kernel) rfl ?_
    refine Ev.gto (t := 55) (by decide +kernel) ?_
    exact EX9_readSum_J55 f rc hr hdr kt6 a1 (-1 : Int32) m6 hkt6 (by omega)
set_option maxRecDepth 100000 in
set_option maxHeartbeats 4000000 in
theorem EX9_readSum_L6 {l : Launch} {Ln : Nat} {xs : Nat → Int32} {d : Nat} (f : Nat) (rc : Nat → Int32 → ev_M → Option (Unit × ev_M)) {dr : Nat} (hr : HRA l Ln xs dr rc) (hdr : dr + 1 ≤ d) (k : ev_M → Option (Unit × ev_M))     (hk : ∀  (em : ev_M), Ev ev_eV l Ln xs YX9_readSum d Sx 78 [none, none, none] [] em (k em)) (hd : 6 ≤ d) : ∀ (n : Nat) (a1 : Int32) (m : ev_M), Ev ev_eV l Ln xs YX9_readSum d Sx 6 [some (.ref 15), some (.int a1), none] [] m (FX9_readSum_L6 f rc k n a1 m) := by
  intro n
  induction n with
  | zero => intros; exact Ev.nn
  | succ n ih =>
    intro a1 m
    rw [FX9_readSum_L6]
    refine Ev.run (pc' := 10) (ls' := [some (.ref 15), some (.int a1), none]) (st' := [.int 1600, .int a1]) (m' := m) [(.iload_n 1, 0, 0, 0, 0), (.sipush 1600, 0, 0, 1600, 0)] (by decide +kernel) rfl ?_
    refine Ev.ic_ge (t := 78) (by decide +kernel) ?_ ?_
    · refine Ev.le (ls' := [none, none, none]) trivial ?_
      exact hk _
    · refine Ev.run (pc' := 19) (ls' := [some (.ref 15), some (.int a1), none]) (st' := [.int 43, .ref 13]) (m' := m) [(.aload_n 0, 0, 0, 0, 0), (.getfield 25, 9, 0, 0, 0), (.bipush 43, 0, 0, 43, 0)] (by decide +kernel) rfl ?_
      refine Ev.cV (av := [.int 43]) (st := []) (a := 13) (EX10_isSign (l := l) (Ln := Ln) (xs := xs) (d := 0) f (43 : Int32) m (by decide)) rfl (by decide +kernel) mwX10_isSign iwX10_isSign vwX10_isSign lk_9_50 (by omega) (by decide) rfl (by decide) rfl rfl (Nat.le_of_ble_eq_true rfl) (fun r3 m4 => ?_)
      refine Ev.if_ne (t := 37) (by decide +kernel) ?_ ?_
      · exact EX9_readSum_J37 f rc hr hdr (FX9_readSum_L6 f rc k n) a1 m4 ih (by omega)
      · refine Ev.run (pc' := 31) (ls' := [some (.ref 15), some (.int a1), none]) (st' := [.int 45, .ref 13]) (m' := m4) [(.aload_n 0, 0, 0, 0, 0), (.getfield 25, 9, 0, 0, 0), (.bipush 45, 0, 0, 45, 0)] (by decide +kernel) rfl ?_
        refine Ev.cV (av := [.int 45]) (st := []) (a := 13) (EX10_isSign (l := l) (Ln := Ln) (xs := xs) (d := 0) f (45 : Int32) m4 (by decide)) rfl (by decide +kernel) mwX10_isSign iwX10_isSign vwX10_isSign lk_9_50 (by omega) (by decide) rfl (by decide) rfl rfl (Nat.le_of_ble_eq_true rfl) (fun r13 m14 => ?_)
        refine Ev.if_eq (t := 78) (by decide +kernel) ?_ ?_
        · refine Ev.le (ls' := [none, none, none]) trivial ?_
          exact hk _
        · exact EX9_readSum_J37 f rc hr hdr (FX9_readSum_L6 f rc k n) a1 m14 ih (by omega)
set_option maxRecDepth 100000 in
set_option maxHeartbeats 4000000 in
theorem EX9_readSumB {l : Launch} {Ln : Nat} {xs : Nat → Int32} {d : Nat} (f : Nat) (rc : Nat → Int32 → ev_M → Option (Unit × ev_M)) {dr : Nat} (hr : HRA l Ln xs dr rc) (hdr : dr + 1 ≤ d)  (m : ev_M)  (hd : 6 ≤ d) : Mv ev_eV l Ln xs YX9_readSum d Sx [.ref 15] m (FX9_readSumB f rc  m) := by
  refine Mv.of (by decide +kernel) rfl (Nat.le_of_ble_eq_true rfl) (Ev.le (ls' := [some (.ref 15), none, none]) ⟨rfl, trivial⟩ ?_)
  unfold FX9_readSumB
  refine Ev.run (pc' := 1) (ls' := [some (.ref 15), none, none]) (st' := [.ref 15]) (m' := m) [(.aload_n 0, 0, 0, 0, 0)] (by decide +kernel) rfl ?_
  refine Ev.cV (av := []) (st := []) (a := 15) (hr.2.1 m) rfl (by decide +kernel) mwX9_readProduct iwX9_readProduct vwX9_readProduct lk_9_47 hdr (by decide) rfl (by decide) rfl rfl (Nat.le_of_ble_eq_true rfl) (fun r1 m2 => ?_)
  refine Ev.run (pc' := 6) (ls' := [some (.ref 15), some (.int 0), none]) (st' := []) (m' := m2) [(.iconst 0, 0, 0, 0, 0), (.istore_n 1, 0, 0, 0, 0)] (by decide +kernel) rfl ?_
  refine EX9_readSum_L6 f rc hr hdr _ ?_ (by omega) _ _ _
  intro m15
  exact Ev.retv rfl rfl (by decide +kernel)
def FX9_readProduct_J56 (f : Nat) (rc : Nat → Int32 → ev_M → Option (Unit × ev_M)) (kt6 : Int32 → ev_M → Option (Unit × ev_M))  (a1 : Int32) (s0 : Int32) (m : ev_M) : Option (Unit × ev_M) :=
  (ev_bd (FX10_advance f m) (fun _ m8 => (ev_bd (rc 2 (0 : Int32) m8) (fun _ m10 => (ev_bd (FX9_put f s0 m10) (fun _ m12 => (kt6 (a1 + 1) m12)))))))
def FX9_readProduct_J37 (f : Nat) (rc : Nat → Int32 → ev_M → Option (Unit × ev_M)) (kt6 : Int32 → ev_M → Option (Unit × ev_M))  (a1 : Int32)  (m : ev_M) : Option (Unit × ev_M) :=
  (ev_bd (FX10_isSign f (42 : Int32) m) (fun r5 m6 => (if r5 = 0 then (FX9_readProduct_J56 f rc kt6 a1 (-4 : Int32) m6) else (FX9_readProduct_J56 f rc kt6 a1 (-3 : Int32) m6))))
def FX9_readProduct_L6 (f : Nat) (rc : Nat → Int32 → ev_M → Option (Unit × ev_M)) (k : ev_M → Option (Unit × ev_M))   : Nat → Int32 → ev_M → Option (Unit × ev_M)
  | 0, _, _ => none
  | n + 1, a1, m => (if 1600 ≤ a1 then (k m) else (ev_bd (FX10_isSign f (42 : Int32) m) (fun r3 m4 => (if r3 = 0 then (ev_bd (FX10_isSign f (47 : Int32) m4) (fun r13 m14 => (if r13 = 0 then (k m14) else (FX9_readProduct_J37 f rc (FX9_readProduct_L6 f rc k n) a1 m14)))) else (FX9_readProduct_J37 f rc (FX9_readProduct_L6 f rc k n) a1 m4)))))
def FX9_readProductB (f : Nat) (rc : Nat → Int32 → ev_M → Option (Unit × ev_M))  (m : ev_M) : Option (Unit × ev_M) :=
  (ev_bd (rc 2 (0 : Int32) m) (fun _ m2 => (FX9_readProduct_L6 f rc (fun m15 => some ((), m15)) f (0 : Int32) m2)))
set_option maxRecDepth 100000 in
set_option maxHeartbeats 4000000 in
theorem EX9_readProduct_J56 {l : Launch} {Ln : Nat} {xs : Nat → Int32} {d : Nat} (f : Nat) (rc : Nat → Int32 → ev_M → Option (Unit × ev_M)) {dr : Nat} (hr : HRA l Ln xs dr rc) (hdr : dr + 1 ≤ d) (kt6 : Int32 → ev_M → Option (Unit × ev_M))  (a1 : Int32) (s0 : Int32) (m : ev_M)  (hkt6 : ∀ (e1 : Int32) (em : ev_M), Ev ev_eV l Ln xs YX9_readProduct d Sx 6 [some (.ref 15), some (.int e1), none] [] em (kt6 e1 em)) (hd : 6 ≤ d) : Ev ev_eV l Ln xs YX9_readProduct d Sx 56 [some (.ref 15), some (.int a1), none] [.int s0] m (FX9_readProduct_J56 f rc kt6 a1 s0 m) := by
  unfold FX9_readProduct_J56
  refine Ev.run (pc' := 61) (ls' := [some (.ref 15), some (.int a1), some (.int s0)]) (st' := [.ref 13]) (m' := m) [(.istore_n 2, 0, 0, 0, 0), (.aload_n 0, 0, 0, 0, 0), (.getfield 25, 9, 0, 0, 0)] (by decide +kernel) rfl ?_
  refine Ev.cV (av := []) (st := []) (a := 13) (EX10_advance (l := l) (Ln := Ln) (xs := xs) (d := 5) f m (by decide)) rfl (by decide +kernel) mwX10_advance iwX10_advance vwX10_advance lk_9_38 (by omega) (by decide) rfl (by decide) rfl rfl (Nat.le_of_ble_eq_true rfl) (fun r7 m8 => ?_)
  refine Ev.run (pc' := 65) (ls' := [some (.ref 15), some (.int a1), some (.int s0)]) (st' := [.ref 15]) (m' := m8) [(.aload_n 0, 0, 0, 0, 0)] (by decide +kernel) rfl ?_
  refine Ev.cV (av := []) (st := []) (a := 15) (hr.2.2.1 m8) rfl (by decide +kernel) mwX9_readPart iwX9_readPart vwX9_readPart lk_9_57 hdr (by decide) rfl (by decide) rfl rfl (Nat.le_of_ble_eq_true rfl) (fun r9 m10 => ?_)
  refine Ev.run (pc' := 70) (ls' := [some (.ref 15), some (.int a1), some (.int s0)]) (st' := [.int s0, .ref 15]) (m' := m10) [(.aload_n 0, 0, 0, 0, 0), (.iload_n 2, 0, 0, 0, 0)] (by decide +kernel) rfl ?_
  refine Ev.cV (av := [.int s0]) (st := []) (a := 15) (EX9_put (l := l) (Ln := Ln) (xs := xs) (d := 1) f s0 m10 (by decide)) rfl (by decide +kernel) mwX9_put iwX9_put vwX9_put lk_9_54 (by omega) (by decide) rfl (by decide) rfl rfl (Nat.le_of_ble_eq_true rfl) (fun r11 m12 => ?_)
  refine Ev.run (pc' := 76) (ls' := [some (.ref 15), some (.int (a1 + 1)), some (.int s0)]) (st' := []) (m' := m12) [(.iinc 1 1, 0, 0, 1, 0)] (by decide +kernel) rfl ?_
  refine Ev.gto (t := 6) (by decide +kernel) ?_
  refine Ev.le (ls' := [some (.ref 15), some (.int (a1 + 1)), none]) ⟨rfl, ⟨rfl, trivial⟩⟩ ?_
  exact hkt6 _ _
set_option maxRecDepth 100000 in
set_option maxHeartbeats 4000000 in
theorem EX9_readProduct_J37 {l : Launch} {Ln : Nat} {xs : Nat → Int32} {d : Nat} (f : Nat) (rc : Nat → Int32 → ev_M → Option (Unit × ev_M)) {dr : Nat} (hr : HRA l Ln xs dr rc) (hdr : dr + 1 ≤ d) (kt6 : Int32 → ev_M → Option (Unit × ev_M))  (a1 : Int32)  (m : ev_M)  (hkt6 : ∀ (e1 : Int32) (em : ev_M), Ev ev_eV l Ln xs YX9_readProduct d Sx 6 [some (.ref 15), some (.int e1), none] [] em (kt6 e1 em)) (hd : 6 ≤ d) : Ev ev_eV l Ln xs YX9_readProduct d Sx 37 [some (.ref 15), some (.int a1), none] [] m (FX9_readProduct_J37 f rc kt6 a1 m) := by
  unfold FX9_readProduct_J37
  refine Ev.run (pc' := 43) (ls' := [some (.ref 15), some (.int a1), none]) (st' := [.int 42, .ref 13]) (m' := m) [(.aload_n 0, 0, 0, 0, 0), (.getfield 25, 9, 0, 0, 0), (.bipush 42, 0, 0, 42, 0)] (by decide +kernel) rfl ?_
  refine Ev.cV (av := [.int 42]) (st := []) (a := 13) (EX10_isSign (l := l) (Ln := Ln) (xs := xs) (d := 0) f (42 : Int32) m (by decide)) rfl (by decide +kernel) mwX10_isSign iwX10_isSign vwX10_isSign lk_9_50 (by omega) (by decide) rfl (by decide) rfl rfl (Nat.le_of_ble_eq_true rfl) (fun r5 m6 => ?_)
  refine Ev.if_eq (t := 54) (by decide +kernel) ?_ ?_
  · refine Ev.run (pc' := 56) (ls' := [some (.ref 15), some (.int a1), none]) (st' := [.int (-4)]) (m' := m6) [(.bipush (-4), 0, 0, (-4), 0)] (by decide +kernel) rfl ?_
    exact EX9_readProduct_J56 f rc hr hdr kt6 a1 (-4 : Int32) m6 hkt6 (by omega)
  · refine Ev.run (pc' := 51) (ls' := [some (.ref 15), some (.int a1), none]) (st' := [.int (-3)]) (m' := m6) [(.bipush (-3), 0, 0, (-3), 0)] (by decide +kernel) rfl ?_
    refine Ev.gto (t := 56) (by decide +kernel) ?_
    exact EX9_readProduct_J56 f rc hr hdr kt6 a1 (-3 : Int32) m6 hkt6 (by omega)
set_option maxRecDepth 100000 in
set_option maxHeartbeats 4000000 in
theorem EX9_readProduct_L6 {l : Launch} {Ln : Nat} {xs : Nat → Int32} {d : Nat} (f : Nat) (rc : Nat → Int32 → ev_M → Option (Unit × ev_M)) {dr : Nat} (hr : HRA l Ln xs dr rc) (hdr : dr + 1 ≤ d) (k : ev_M → Option (Unit × ev_M))     (hk : ∀  (em : ev_M), Ev ev_eV l Ln xs YX9_readProduct d Sx 79 [none, none, none] [] em (k em)) (hd : 6 ≤ d) : ∀ (n : Nat) (a1 : Int32) (m : ev_M), Ev ev_eV l Ln xs YX9_readProduct d Sx 6 [some (.ref 15), some (.int a1), none] [] m (FX9_readProduct_L6 f rc k n a1 m) := by
  intro n
  induction n with
  | zero => intros; exact Ev.nn
  | succ n ih =>
    intro a1 m
    rw [FX9_readProduct_L6]
    refine Ev.run (pc' := 10) (ls' := [some (.ref 15), some (.int a1), none]) (st' := [.int 1600, .int a1]) (m' := m) [(.iload_n 1, 0, 0, 0, 0), (.sipush 1600, 0, 0, 1600, 0)] (by decide +kernel) rfl ?_
    refine Ev.ic_ge (t := 79) (by decide +kernel) ?_ ?_
    · refine Ev.le (ls' := [none, none, none]) trivial ?_
      exact hk _
    · refine Ev.run (pc' := 19) (ls' := [some (.ref 15), some (.int a1), none]) (st' := [.int 42, .ref 13]) (m' := m) [(.aload_n 0, 0, 0, 0, 0), (.getfield 25, 9, 0, 0, 0), (.bipush 42, 0, 0, 42, 0)] (by decide +kernel) rfl ?_
      refine Ev.cV (av := [.int 42]) (st := []) (a := 13) (EX10_isSign (l := l) (Ln := Ln) (xs := xs) (d := 0) f (42 : Int32) m (by decide)) rfl (by decide +kernel) mwX10_isSign iwX10_isSign vwX10_isSign lk_9_50 (by omega) (by decide) rfl (by decide) rfl rfl (Nat.le_of_ble_eq_true rfl) (fun r3 m4 => ?_)
      refine Ev.if_ne (t := 37) (by decide +kernel) ?_ ?_
      · exact EX9_readProduct_J37 f rc hr hdr (FX9_readProduct_L6 f rc k n) a1 m4 ih (by omega)
      · refine Ev.run (pc' := 31) (ls' := [some (.ref 15), some (.int a1), none]) (st' := [.int 47, .ref 13]) (m' := m4) [(.aload_n 0, 0, 0, 0, 0), (.getfield 25, 9, 0, 0, 0), (.bipush 47, 0, 0, 47, 0)] (by decide +kernel) rfl ?_
        refine Ev.cV (av := [.int 47]) (st := []) (a := 13) (EX10_isSign (l := l) (Ln := Ln) (xs := xs) (d := 0) f (47 : Int32) m4 (by decide)) rfl (by decide +kernel) mwX10_isSign iwX10_isSign vwX10_isSign lk_9_50 (by omega) (by decide) rfl (by decide) rfl rfl (Nat.le_of_ble_eq_true rfl) (fun r13 m14 => ?_)
        refine Ev.if_eq (t := 79) (by decide +kernel) ?_ ?_
        · refine Ev.le (ls' := [none, none, none]) trivial ?_
          exact hk _
        · exact EX9_readProduct_J37 f rc hr hdr (FX9_readProduct_L6 f rc k n) a1 m14 ih (by omega)
set_option maxRecDepth 100000 in
set_option maxHeartbeats 4000000 in
theorem EX9_readProductB {l : Launch} {Ln : Nat} {xs : Nat → Int32} {d : Nat} (f : Nat) (rc : Nat → Int32 → ev_M → Option (Unit × ev_M)) {dr : Nat} (hr : HRA l Ln xs dr rc) (hdr : dr + 1 ≤ d)  (m : ev_M)  (hd : 6 ≤ d) : Mv ev_eV l Ln xs YX9_readProduct d Sx [.ref 15] m (FX9_readProductB f rc  m) := by
  refine Mv.of (by decide +kernel) rfl (Nat.le_of_ble_eq_true rfl) (Ev.le (ls' := [some (.ref 15), none, none]) ⟨rfl, trivial⟩ ?_)
  unfold FX9_readProductB
  refine Ev.run (pc' := 1) (ls' := [some (.ref 15), none, none]) (st' := [.ref 15]) (m' := m) [(.aload_n 0, 0, 0, 0, 0)] (by decide +kernel) rfl ?_
  refine Ev.cV (av := []) (st := []) (a := 15) (hr.2.2.1 m) rfl (by decide +kernel) mwX9_readPart iwX9_readPart vwX9_readPart lk_9_57 hdr (by decide) rfl (by decide) rfl rfl (Nat.le_of_ble_eq_true rfl) (fun r1 m2 => ?_)
  refine Ev.run (pc' := 6) (ls' := [some (.ref 15), some (.int 0), none]) (st' := []) (m' := m2) [(.iconst 0, 0, 0, 0, 0), (.istore_n 1, 0, 0, 0, 0)] (by decide +kernel) rfl ?_
  refine EX9_readProduct_L6 f rc hr hdr _ ?_ (by omega) _ _ _
  intro m15
  exact Ev.retv rfl rfl (by decide +kernel)
def FX9_readPart_J116 (f : Nat) (rc : Nat → Int32 → ev_M → Option (Unit × ev_M))     (m : ev_M) : Option (Unit × ev_M) :=
  (ev_bd (FX10_word f m) (fun r9 m10 => (ev_bd (FX9_isValue f r9 m10) (fun r11 m12 => (if r11 = 0 then (ev_bd (FX10_fail f (1 : Int32) (m12.1 13 2) m12) (fun _ m14 => some ((), m14))) else (ev_bd (FX9_readValue f m12) (fun _ m16 => some ((), m16))))))))
def FX9_readPartB (f : Nat) (rc : Nat → Int32 → ev_M → Option (Unit × ev_M))  (m : ev_M) : Option (Unit × ev_M) :=
  (ev_bd (FX10_isNumber f m) (fun r1 m2 => (if r1 = 0 then (ev_bd (FX10_isSign f (40 : Int32) m2) (fun r3 m4 => (if r3 = 0 then (ev_bd (FX10_isWord f (21 : Int32) m4) (fun r5 m6 => (if r5 = 0 then (ev_bd (FX10_isWord f (22 : Int32) m6) (fun r7 m8 => (if r7 = 0 then (if (m8.1 15 2) = 2 then (ev_bd (FX10_isWord f (10 : Int32) m8) (fun r17 m18 => (if r17 = 0 then (FX9_readPart_J116 f rc m18) else (ev_bd (rc 5 (0 : Int32) m18) (fun _ m20 => some ((), m20)))))) else (FX9_readPart_J116 f rc m8)) else (ev_bd (rc 4 (-6 : Int32) m8) (fun _ m22 => some ((), m22)))))) else (ev_bd (rc 4 (-5 : Int32) m6) (fun _ m24 => some ((), m24)))))) else (ev_bd (rc 3 (0 : Int32) m4) (fun _ m26 => some ((), m26)))))) else (ev_bd (FX10_takeNumber f (0 : Int32) (9999 : Int32) m2) (fun r27 m28 => (ev_bd (FX9_put f r27 m28) (fun _ m30 => some ((), m30))))))))
set_option maxRecDepth 100000 in
set_option maxHeartbeats 4000000 in
theorem EX9_readPart_J116 {l : Launch} {Ln : Nat} {xs : Nat → Int32} {d : Nat} (f : Nat) (rc : Nat → Int32 → ev_M → Option (Unit × ev_M)) {dr : Nat} (hr : HRA l Ln xs dr rc) (hdr : dr + 1 ≤ d)     (m : ev_M)   (hd : 7 ≤ d) : Ev ev_eV l Ln xs YX9_readPart d Sx 116 [some (.ref 15)] [] m (FX9_readPart_J116 f rc m) := by
  unfold FX9_readPart_J116
  refine Ev.run (pc' := 121) (ls' := [some (.ref 15)]) (st' := [.ref 13, .ref 15]) (m' := m) [(.aload_n 0, 0, 0, 0, 0), (.aload_n 0, 0, 0, 0, 0), (.getfield 25, 9, 0, 0, 0)] (by decide +kernel) rfl ?_
  refine Ev.cV (av := []) (st := [.ref 15]) (a := 13) (EX10_word (l := l) (Ln := Ln) (xs := xs) (d := 0) f m (by decide)) rfl (by decide +kernel) mwX10_word iwX10_word vwX10_word lk_9_80 (by omega) (by decide) rfl (by decide) rfl rfl (Nat.le_of_ble_eq_true rfl) (fun r9 m10 => ?_)
  refine Ev.cV (av := [.int r9]) (st := []) (a := 15) (EX9_isValue (l := l) (Ln := Ln) (xs := xs) (d := 0) f r9 m10 (by decide)) rfl (by decide +kernel) mwX9_isValue iwX9_isValue vwX9_isValue lk_9_84 (by omega) (by decide) rfl (by decide) rfl rfl (Nat.le_of_ble_eq_true rfl) (fun r11 m12 => ?_)
  refine Ev.if_eq (t := 137) (by decide +kernel) ?_ ?_
  · refine Ev.run (pc' := 149) (ls' := [some (.ref 15)]) (st' := [.int (m12.1 13 2), .int 1, .ref 13]) (m' := m12) [(.aload_n 0, 0, 0, 0, 0), (.getfield 25, 9, 0, 0, 0), (.iconst 1, 0, 0, 1, 0), (.aload_n 0, 0, 0, 0, 0), (.getfield 25, 9, 0, 0, 0), (.getfield 29, 10, 2, 0, 0)] (by decide +kernel) rfl ?_
    refine Ev.cV (av := [.int 1, .int (m12.1 13 2)]) (st := []) (a := 13) (EX10_fail (l := l) (Ln := Ln) (xs := xs) (d := 0) f (1 : Int32) (m12.1 13 2) m12 (by decide)) rfl (by decide +kernel) mwX10_fail iwX10_fail vwX10_fail lk_9_34 (by omega) (by decide) rfl (by decide) rfl rfl (Nat.le_of_ble_eq_true rfl) (fun r13 m14 => ?_)
    exact Ev.retv rfl rfl (by decide +kernel)
  · refine Ev.run (pc' := 131) (ls' := [some (.ref 15)]) (st' := [.ref 15]) (m' := m12) [(.aload_n 0, 0, 0, 0, 0)] (by decide +kernel) rfl ?_
    refine Ev.cV (av := []) (st := []) (a := 15) (EX9_readValue (l := l) (Ln := Ln) (xs := xs) (d := 6) f m12 (by decide)) rfl (by decide +kernel) mwX9_readValue iwX9_readValue vwX9_readValue lk_9_87 (by omega) (by decide) rfl (by decide) rfl rfl (Nat.le_of_ble_eq_true rfl) (fun r15 m16 => ?_)
    refine Ev.gto (t := 152) (by decide +kernel) ?_
    exact Ev.retv rfl rfl (by decide +kernel)
set_option maxRecDepth 100000 in
set_option maxHeartbeats 4000000 in
theorem EX9_readPartB {l : Launch} {Ln : Nat} {xs : Nat → Int32} {d : Nat} (f : Nat) (rc : Nat → Int32 → ev_M → Option (Unit × ev_M)) {dr : Nat} (hr : HRA l Ln xs dr rc) (hdr : dr + 1 ≤ d)  (m : ev_M)  (hd : 7 ≤ d) : Mv ev_eV l Ln xs YX9_readPart d Sx [.ref 15] m (FX9_readPartB f rc  m) := by
  refine Mv.of (by decide +kernel) rfl (Nat.le_of_ble_eq_true rfl) (Ev.le (ls' := [some (.ref 15)]) ⟨rfl, trivial⟩ ?_)
  unfold FX9_readPartB
  refine Ev.run (pc' := 4) (ls' := [some (.ref 15)]) (st' := [.ref 13]) (m' := m) [(.aload_n 0, 0, 0, 0, 0), (.getfield 25, 9, 0, 0, 0)] (by decide +kernel) rfl ?_
  refine Ev.cV (av := []) (st := []) (a := 13) (EX10_isNumber (l := l) (Ln := Ln) (xs := xs) (d := 0) f m (by decide)) rfl (by decide +kernel) mwX10_isNumber iwX10_isNumber vwX10_isNumber lk_9_60 (by omega) (by decide) rfl (by decide) rfl rfl (Nat.le_of_ble_eq_true rfl) (fun r1 m2 => ?_)
  refine Ev.if_eq (t := 28) (by decide +kernel) ?_ ?_
  · refine Ev.run (pc' := 34) (ls' := [some (.ref 15)]) (st' := [.int 40, .ref 13]) (m' := m2) [(.aload_n 0, 0, 0, 0, 0), (.getfield 25, 9, 0, 0, 0), (.bipush 40, 0, 0, 40, 0)] (by decide +kernel) rfl ?_
    refine Ev.cV (av := [.int 40]) (st := []) (a := 13) (EX10_isSign (l := l) (Ln := Ln) (xs := xs) (d := 0) f (40 : Int32) m2 (by decide)) rfl (by decide +kernel) mwX10_isSign iwX10_isSign vwX10_isSign lk_9_50 (by omega) (by decide) rfl (by decide) rfl rfl (Nat.le_of_ble_eq_true rfl) (fun r3 m4 => ?_)
    refine Ev.if_eq (t := 47) (by decide +kernel) ?_ ?_
    · refine Ev.run (pc' := 53) (ls' := [some (.ref 15)]) (st' := [.int 21, .ref 13]) (m' := m4) [(.aload_n 0, 0, 0, 0, 0), (.getfield 25, 9, 0, 0, 0), (.bipush 21, 0, 0, 21, 0)] (by decide +kernel) rfl ?_
      refine Ev.cV (av := [.int 21]) (st := []) (a := 13) (EX10_isWord (l := l) (Ln := Ln) (xs := xs) (d := 0) f (21 : Int32) m4 (by decide)) rfl (by decide +kernel) mwX10_isWord iwX10_isWord vwX10_isWord lk_9_71 (by omega) (by decide) rfl (by decide) rfl rfl (Nat.le_of_ble_eq_true rfl) (fun r5 m6 => ?_)
      refine Ev.if_eq (t := 68) (by decide +kernel) ?_ ?_
      · refine Ev.run (pc' := 74) (ls' := [some (.ref 15)]) (st' := [.int 22, .ref 13]) (m' := m6) [(.aload_n 0, 0, 0, 0, 0), (.getfield 25, 9, 0, 0, 0), (.bipush 22, 0, 0, 22, 0)] (by decide +kernel) rfl ?_
        refine Ev.cV (av := [.int 22]) (st := []) (a := 13) (EX10_isWord (l := l) (Ln := Ln) (xs := xs) (d := 0) f (22 : Int32) m6 (by decide)) rfl (by decide +kernel) mwX10_isWord iwX10_isWord vwX10_isWord lk_9_71 (by omega) (by decide) rfl (by decide) rfl rfl (Nat.le_of_ble_eq_true rfl) (fun r7 m8 => ?_)
        refine Ev.if_eq (t := 89) (by decide +kernel) ?_ ?_
        · refine Ev.run (pc' := 94) (ls' := [some (.ref 15)]) (st' := [.int 2, .int (m8.1 15 2)]) (m' := m8) [(.aload_n 0, 0, 0, 0, 0), (.getfield 15, 9, 2, 0, 0), (.iconst 2, 0, 0, 2, 0)] (by decide +kernel) rfl ?_
          refine Ev.ic_ne (t := 116) (by decide +kernel) ?_ ?_
          · exact EX9_readPart_J116 f rc hr hdr m8 (by omega)
          · refine Ev.run (pc' := 103) (ls' := [some (.ref 15)]) (st' := [.int 10, .ref 13]) (m' := m8) [(.aload_n 0, 0, 0, 0, 0), (.getfield 25, 9, 0, 0, 0), (.bipush 10, 0, 0, 10, 0)] (by decide +kernel) rfl ?_
            refine Ev.cV (av := [.int 10]) (st := []) (a := 13) (EX10_isWord (l := l) (Ln := Ln) (xs := xs) (d := 0) f (10 : Int32) m8 (by decide)) rfl (by decide +kernel) mwX10_isWord iwX10_isWord vwX10_isWord lk_9_71 (by omega) (by decide) rfl (by decide) rfl rfl (Nat.le_of_ble_eq_true rfl) (fun r17 m18 => ?_)
            refine Ev.if_eq (t := 116) (by decide +kernel) ?_ ?_
            · exact EX9_readPart_J116 f rc hr hdr m18 (by omega)
            · refine Ev.run (pc' := 110) (ls' := [some (.ref 15)]) (st' := [.ref 15]) (m' := m18) [(.aload_n 0, 0, 0, 0, 0)] (by decide +kernel) rfl ?_
              refine Ev.cV (av := []) (st := []) (a := 15) (hr.2.2.2.2.2 m18) rfl (by decide +kernel) mwX9_readSaidAhead iwX9_readSaidAhead vwX9_readSaidAhead lk_9_77 hdr (by decide) rfl (by decide) rfl rfl (Nat.le_of_ble_eq_true rfl) (fun r19 m20 => ?_)
              refine Ev.gto (t := 152) (by decide +kernel) ?_
              exact Ev.retv rfl rfl (by decide +kernel)
        · refine Ev.run (pc' := 83) (ls' := [some (.ref 15)]) (st' := [.int (-6), .ref 15]) (m' := m8) [(.aload_n 0, 0, 0, 0, 0), (.bipush (-6), 0, 0, (-6), 0)] (by decide +kernel) rfl ?_
          refine Ev.cV (av := [.int (-6)]) (st := []) (a := 15) (hr.2.2.2.2.1 (-6 : Int32) m8) rfl (by decide +kernel) mwX9_readPair iwX9_readPair vwX9_readPair lk_9_74 hdr (by decide) rfl (by decide) rfl rfl (Nat.le_of_ble_eq_true rfl) (fun r21 m22 => ?_)
          refine Ev.gto (t := 152) (by decide +kernel) ?_
          exact Ev.retv rfl rfl (by decide +kernel)
      · refine Ev.run (pc' := 62) (ls' := [some (.ref 15)]) (st' := [.int (-5), .ref 15]) (m' := m6) [(.aload_n 0, 0, 0, 0, 0), (.bipush (-5), 0, 0, (-5), 0)] (by decide +kernel) rfl ?_
        refine Ev.cV (av := [.int (-5)]) (st := []) (a := 15) (hr.2.2.2.2.1 (-5 : Int32) m6) rfl (by decide +kernel) mwX9_readPair iwX9_readPair vwX9_readPair lk_9_74 hdr (by decide) rfl (by decide) rfl rfl (Nat.le_of_ble_eq_true rfl) (fun r23 m24 => ?_)
        refine Ev.gto (t := 152) (by decide +kernel) ?_
        exact Ev.retv rfl rfl (by decide +kernel)
    · refine Ev.run (pc' := 41) (ls' := [some (.ref 15)]) (st' := [.ref 15]) (m' := m4) [(.aload_n 0, 0, 0, 0, 0)] (by decide +kernel) rfl ?_
      refine Ev.cV (av := []) (st := []) (a := 15) (hr.2.2.2.1 m4) rfl (by decide +kernel) mwX9_readOpened iwX9_readOpened vwX9_readOpened lk_9_68 hdr (by decide) rfl (by decide) rfl rfl (Nat.le_of_ble_eq_true rfl) (fun r25 m26 => ?_)
      refine Ev.gto (t := 152) (by decide +kernel) ?_
      exact Ev.retv rfl rfl (by decide +kernel)
  · refine Ev.run (pc' := 19) (ls' := [some (.ref 15)]) (st' := [.int 9999, .int 0, .ref 13, .ref 15]) (m' := m2) [(.aload_n 0, 0, 0, 0, 0), (.aload_n 0, 0, 0, 0, 0), (.getfield 25, 9, 0, 0, 0), (.iconst 0, 0, 0, 0, 0), (.sipush 9999, 0, 0, 9999, 0)] (by decide +kernel) rfl ?_
    refine Ev.cV (av := [.int 0, .int 9999]) (st := [.ref 15]) (a := 13) (EX10_takeNumber (l := l) (Ln := Ln) (xs := xs) (d := 6) f (0 : Int32) (9999 : Int32) m2 (by decide)) rfl (by decide +kernel) mwX10_takeNumber iwX10_takeNumber vwX10_takeNumber lk_9_64 (by omega) (by decide) rfl (by decide) rfl rfl (Nat.le_of_ble_eq_true rfl) (fun r27 m28 => ?_)
    refine Ev.cV (av := [.int r27]) (st := []) (a := 15) (EX9_put (l := l) (Ln := Ln) (xs := xs) (d := 1) f r27 m28 (by decide)) rfl (by decide +kernel) mwX9_put iwX9_put vwX9_put lk_9_54 (by omega) (by decide) rfl (by decide) rfl rfl (Nat.le_of_ble_eq_true rfl) (fun r29 m30 => ?_)
    refine Ev.gto (t := 152) (by decide +kernel) ?_
    exact Ev.retv rfl rfl (by decide +kernel)
def FX9_readOpenedB (f : Nat) (rc : Nat → Int32 → ev_M → Option (Unit × ev_M))  (m : ev_M) : Option (Unit × ev_M) :=
  (ev_bd (FX9_opens f m) (fun r1 m2 => (if r1 = 0 then some ((), m2) else (ev_bd (rc 0 (0 : Int32) m2) (fun _ m4 => (ev_bd (FX10_takeSign f (41 : Int32) m4) (fun _ m6 => (ev_bd (FX9_closes f m6) (fun _ m8 => some ((), m8))))))))))
set_option maxRecDepth 100000 in
set_option maxHeartbeats 4000000 in
theorem EX9_readOpenedB {l : Launch} {Ln : Nat} {xs : Nat → Int32} {d : Nat} (f : Nat) (rc : Nat → Int32 → ev_M → Option (Unit × ev_M)) {dr : Nat} (hr : HRA l Ln xs dr rc) (hdr : dr + 1 ≤ d)  (m : ev_M)  (hd : 7 ≤ d) : Mv ev_eV l Ln xs YX9_readOpened d Sx [.ref 15] m (FX9_readOpenedB f rc  m) := by
  refine Mv.of (by decide +kernel) rfl (Nat.le_of_ble_eq_true rfl) (Ev.le (ls' := [some (.ref 15)]) ⟨rfl, trivial⟩ ?_)
  unfold FX9_readOpenedB
  refine Ev.run (pc' := 1) (ls' := [some (.ref 15)]) (st' := [.ref 15]) (m' := m) [(.aload_n 0, 0, 0, 0, 0)] (by decide +kernel) rfl ?_
  refine Ev.cV (av := []) (st := []) (a := 15) (EX9_opens (l := l) (Ln := Ln) (xs := xs) (d := 6) f m (by decide)) rfl (by decide +kernel) mwX9_opens iwX9_opens vwX9_opens lk_9_90 (by omega) (by decide) rfl (by decide) rfl rfl (Nat.le_of_ble_eq_true rfl) (fun r1 m2 => ?_)
  refine Ev.if_eq (t := 24) (by decide +kernel) ?_ ?_
  · exact Ev.retv rfl rfl (by decide +kernel)
  · refine Ev.run (pc' := 8) (ls' := [some (.ref 15)]) (st' := [.ref 15]) (m' := m2) [(.aload_n 0, 0, 0, 0, 0)] (by decide +kernel) rfl ?_
    refine Ev.cV (av := []) (st := []) (a := 15) (hr.1 m2) rfl (by decide +kernel) mwX9_readSum iwX9_readSum vwX9_readSum lk_9_93 hdr (by decide) rfl (by decide) rfl rfl (Nat.le_of_ble_eq_true rfl) (fun r3 m4 => ?_)
    refine Ev.run (pc' := 17) (ls' := [some (.ref 15)]) (st' := [.int 41, .ref 13]) (m' := m4) [(.aload_n 0, 0, 0, 0, 0), (.getfield 25, 9, 0, 0, 0), (.bipush 41, 0, 0, 41, 0)] (by decide +kernel) rfl ?_
    refine Ev.cV (av := [.int 41]) (st := []) (a := 13) (EX10_takeSign (l := l) (Ln := Ln) (xs := xs) (d := 6) f (41 : Int32) m4 (by decide)) rfl (by decide +kernel) mwX10_takeSign iwX10_takeSign vwX10_takeSign lk_9_96 (by omega) (by decide) rfl (by decide) rfl rfl (Nat.le_of_ble_eq_true rfl) (fun r5 m6 => ?_)
    refine Ev.run (pc' := 21) (ls' := [some (.ref 15)]) (st' := [.ref 15]) (m' := m6) [(.aload_n 0, 0, 0, 0, 0)] (by decide +kernel) rfl ?_
    refine Ev.cV (av := []) (st := []) (a := 15) (EX9_closes (l := l) (Ln := Ln) (xs := xs) (d := 0) f m6 (by decide)) rfl (by decide +kernel) mwX9_closes iwX9_closes vwX9_closes lk_9_99 (by omega) (by decide) rfl (by decide) rfl rfl (Nat.le_of_ble_eq_true rfl) (fun r7 m8 => ?_)
    exact Ev.retv rfl rfl (by decide +kernel)
def FX9_readPairB (f : Nat) (rc : Nat → Int32 → ev_M → Option (Unit × ev_M)) (a1 : Int32) (m : ev_M) : Option (Unit × ev_M) :=
  (ev_bd (FX10_advance f m) (fun _ m2 => (ev_bd (FX10_isSign f (40 : Int32) m2) (fun r3 m4 => (if r3 = 0 then (ev_bd (FX10_fail f (1 : Int32) (m4.1 13 2) m4) (fun _ m20 => some ((), m20))) else (ev_bd (FX9_opens f m4) (fun r5 m6 => (if r5 = 0 then some ((), m6) else (ev_bd (rc 0 (0 : Int32) m6) (fun _ m8 => (ev_bd (FX10_takeSign f (44 : Int32) m8) (fun _ m10 => (ev_bd (rc 0 (0 : Int32) m10) (fun _ m12 => (ev_bd (FX10_takeSign f (41 : Int32) m12) (fun _ m14 => (ev_bd (FX9_closes f m14) (fun _ m16 => (ev_bd (FX9_put f a1 m16) (fun _ m18 => some ((), m18)))))))))))))))))))))
set_option maxRecDepth 100000 in
set_option maxHeartbeats 4000000 in
theorem EX9_readPairB {l : Launch} {Ln : Nat} {xs : Nat → Int32} {d : Nat} (f : Nat) (rc : Nat → Int32 → ev_M → Option (Unit × ev_M)) {dr : Nat} (hr : HRA l Ln xs dr rc) (hdr : dr + 1 ≤ d) (a1 : Int32) (m : ev_M)  (hd : 7 ≤ d) : Mv ev_eV l Ln xs YX9_readPair d Sx [.ref 15, .int a1] m (FX9_readPairB f rc a1 m) := by
  refine Mv.of (by decide +kernel) rfl (Nat.le_of_ble_eq_true rfl) (Ev.le (ls' := [some (.ref 15), some (.int a1)]) ⟨rfl, ⟨rfl, trivial⟩⟩ ?_)
  unfold FX9_readPairB
  refine Ev.run (pc' := 4) (ls' := [some (.ref 15), some (.int a1)]) (st' := [.ref 13]) (m' := m) [(.aload_n 0, 0, 0, 0, 0), (.getfield 25, 9, 0, 0, 0)] (by decide +kernel) rfl ?_
  refine Ev.cV (av := []) (st := []) (a := 13) (EX10_advance (l := l) (Ln := Ln) (xs := xs) (d := 5) f m (by decide)) rfl (by decide +kernel) mwX10_advance iwX10_advance vwX10_advance lk_9_38 (by omega) (by decide) rfl (by decide) rfl rfl (Nat.le_of_ble_eq_true rfl) (fun r1 m2 => ?_)
  refine Ev.run (pc' := 13) (ls' := [some (.ref 15), some (.int a1)]) (st' := [.int 40, .ref 13]) (m' := m2) [(.aload_n 0, 0, 0, 0, 0), (.getfield 25, 9, 0, 0, 0), (.bipush 40, 0, 0, 40, 0)] (by decide +kernel) rfl ?_
  refine Ev.cV (av := [.int 40]) (st := []) (a := 13) (EX10_isSign (l := l) (Ln := Ln) (xs := xs) (d := 0) f (40 : Int32) m2 (by decide)) rfl (by decide +kernel) mwX10_isSign iwX10_isSign vwX10_isSign lk_9_50 (by omega) (by decide) rfl (by decide) rfl rfl (Nat.le_of_ble_eq_true rfl) (fun r3 m4 => ?_)
  refine Ev.if_ne (t := 37) (by decide +kernel) ?_ ?_
  · refine Ev.run (pc' := 38) (ls' := [some (.ref 15), some (.int a1)]) (st' := [.ref 15]) (m' := m4) [(.aload_n 0, 0, 0, 0, 0)] (by decide +kernel) rfl ?_
    refine Ev.cV (av := []) (st := []) (a := 15) (EX9_opens (l := l) (Ln := Ln) (xs := xs) (d := 6) f m4 (by decide)) rfl (by decide +kernel) mwX9_opens iwX9_opens vwX9_opens lk_9_90 (by omega) (by decide) rfl (by decide) rfl rfl (Nat.le_of_ble_eq_true rfl) (fun r5 m6 => ?_)
    refine Ev.if_eq (t := 79) (by decide +kernel) ?_ ?_
    · exact Ev.retv rfl rfl (by decide +kernel)
    · refine Ev.run (pc' := 45) (ls' := [some (.ref 15), some (.int a1)]) (st' := [.ref 15]) (m' := m6) [(.aload_n 0, 0, 0, 0, 0)] (by decide +kernel) rfl ?_
      refine Ev.cV (av := []) (st := []) (a := 15) (hr.1 m6) rfl (by decide +kernel) mwX9_readSum iwX9_readSum vwX9_readSum lk_9_93 hdr (by decide) rfl (by decide) rfl rfl (Nat.le_of_ble_eq_true rfl) (fun r7 m8 => ?_)
      refine Ev.run (pc' := 54) (ls' := [some (.ref 15), some (.int a1)]) (st' := [.int 44, .ref 13]) (m' := m8) [(.aload_n 0, 0, 0, 0, 0), (.getfield 25, 9, 0, 0, 0), (.bipush 44, 0, 0, 44, 0)] (by decide +kernel) rfl ?_
      refine Ev.cV (av := [.int 44]) (st := []) (a := 13) (EX10_takeSign (l := l) (Ln := Ln) (xs := xs) (d := 6) f (44 : Int32) m8 (by decide)) rfl (by decide +kernel) mwX10_takeSign iwX10_takeSign vwX10_takeSign lk_9_96 (by omega) (by decide) rfl (by decide) rfl rfl (Nat.le_of_ble_eq_true rfl) (fun r9 m10 => ?_)
      refine Ev.run (pc' := 58) (ls' := [some (.ref 15), some (.int a1)]) (st' := [.ref 15]) (m' := m10) [(.aload_n 0, 0, 0, 0, 0)] (by decide +kernel) rfl ?_
      refine Ev.cV (av := []) (st := []) (a := 15) (hr.1 m10) rfl (by decide +kernel) mwX9_readSum iwX9_readSum vwX9_readSum lk_9_93 hdr (by decide) rfl (by decide) rfl rfl (Nat.le_of_ble_eq_true rfl) (fun r11 m12 => ?_)
      refine Ev.run (pc' := 67) (ls' := [some (.ref 15), some (.int a1)]) (st' := [.int 41, .ref 13]) (m' := m12) [(.aload_n 0, 0, 0, 0, 0), (.getfield 25, 9, 0, 0, 0), (.bipush 41, 0, 0, 41, 0)] (by decide +kernel) rfl ?_
      refine Ev.cV (av := [.int 41]) (st := []) (a := 13) (EX10_takeSign (l := l) (Ln := Ln) (xs := xs) (d := 6) f (41 : Int32) m12 (by decide)) rfl (by decide +kernel) mwX10_takeSign iwX10_takeSign vwX10_takeSign lk_9_96 (by omega) (by decide) rfl (by decide) rfl rfl (Nat.le_of_ble_eq_true rfl) (fun r13 m14 => ?_)
      refine Ev.run (pc' := 71) (ls' := [some (.ref 15), some (.int a1)]) (st' := [.ref 15]) (m' := m14) [(.aload_n 0, 0, 0, 0, 0)] (by decide +kernel) rfl ?_
      refine Ev.cV (av := []) (st := []) (a := 15) (EX9_closes (l := l) (Ln := Ln) (xs := xs) (d := 0) f m14 (by decide)) rfl (by decide +kernel) mwX9_closes iwX9_closes vwX9_closes lk_9_99 (by omega) (by decide) rfl (by decide) rfl rfl (Nat.le_of_ble_eq_true rfl) (fun r15 m16 => ?_)
      refine Ev.run (pc' := 76) (ls' := [some (.ref 15), some (.int a1)]) (st' := [.int a1, .ref 15]) (m' := m16) [(.aload_n 0, 0, 0, 0, 0), (.iload_n 1, 0, 0, 0, 0)] (by decide +kernel) rfl ?_
      refine Ev.cV (av := [.int a1]) (st := []) (a := 15) (EX9_put (l := l) (Ln := Ln) (xs := xs) (d := 1) f a1 m16 (by decide)) rfl (by decide +kernel) mwX9_put iwX9_put vwX9_put lk_9_54 (by omega) (by decide) rfl (by decide) rfl rfl (Nat.le_of_ble_eq_true rfl) (fun r17 m18 => ?_)
      exact Ev.retv rfl rfl (by decide +kernel)
  · refine Ev.run (pc' := 31) (ls' := [some (.ref 15), some (.int a1)]) (st' := [.int (m4.1 13 2), .int 1, .ref 13]) (m' := m4) [(.aload_n 0, 0, 0, 0, 0), (.getfield 25, 9, 0, 0, 0), (.iconst 1, 0, 0, 1, 0), (.aload_n 0, 0, 0, 0, 0), (.getfield 25, 9, 0, 0, 0), (.getfield 29, 10, 2, 0, 0)] (by decide +kernel) rfl ?_
    refine Ev.cV (av := [.int 1, .int (m4.1 13 2)]) (st := []) (a := 13) (EX10_fail (l := l) (Ln := Ln) (xs := xs) (d := 0) f (1 : Int32) (m4.1 13 2) m4 (by decide)) rfl (by decide +kernel) mwX10_fail iwX10_fail vwX10_fail lk_9_34 (by omega) (by decide) rfl (by decide) rfl rfl (Nat.le_of_ble_eq_true rfl) (fun r19 m20 => ?_)
    refine Ev.gto (t := 79) (by decide +kernel) ?_
    exact Ev.retv rfl rfl (by decide +kernel)
def FX9_readSaidAheadB (f : Nat) (rc : Nat → Int32 → ev_M → Option (Unit × ev_M))  (m : ev_M) : Option (Unit × ev_M) :=
  (ev_bd (FX9_opens f m) (fun r1 m2 => (if r1 = 0 then some ((), m2) else (ev_bd (rc 2 (0 : Int32) m2) (fun _ m4 => (ev_bd (FX9_closes f m4) (fun _ m6 => (ev_bd (FX9_put f (-13 : Int32) m6) (fun _ m8 => some ((), ((ev_up m8.1 15 4 31), m8.2)))))))))))
set_option maxRecDepth 100000 in
set_option maxHeartbeats 4000000 in
theorem EX9_readSaidAheadB {l : Launch} {Ln : Nat} {xs : Nat → Int32} {d : Nat} (f : Nat) (rc : Nat → Int32 → ev_M → Option (Unit × ev_M)) {dr : Nat} (hr : HRA l Ln xs dr rc) (hdr : dr + 1 ≤ d)  (m : ev_M)  (hd : 7 ≤ d) : Mv ev_eV l Ln xs YX9_readSaidAhead d Sx [.ref 15] m (FX9_readSaidAheadB f rc  m) := by
  refine Mv.of (by decide +kernel) rfl (Nat.le_of_ble_eq_true rfl) (Ev.le (ls' := [some (.ref 15)]) ⟨rfl, trivial⟩ ?_)
  unfold FX9_readSaidAheadB
  refine Ev.run (pc' := 1) (ls' := [some (.ref 15)]) (st' := [.ref 15]) (m' := m) [(.aload_n 0, 0, 0, 0, 0)] (by decide +kernel) rfl ?_
  refine Ev.cV (av := []) (st := []) (a := 15) (EX9_opens (l := l) (Ln := Ln) (xs := xs) (d := 6) f m (by decide)) rfl (by decide +kernel) mwX9_opens iwX9_opens vwX9_opens lk_9_90 (by omega) (by decide) rfl (by decide) rfl rfl (Nat.le_of_ble_eq_true rfl) (fun r1 m2 => ?_)
  refine Ev.if_eq (t := 27) (by decide +kernel) ?_ ?_
  · exact Ev.retv rfl rfl (by decide +kernel)
  · refine Ev.run (pc' := 8) (ls' := [some (.ref 15)]) (st' := [.ref 15]) (m' := m2) [(.aload_n 0, 0, 0, 0, 0)] (by decide +kernel) rfl ?_
    refine Ev.cV (av := []) (st := []) (a := 15) (hr.2.2.1 m2) rfl (by decide +kernel) mwX9_readPart iwX9_readPart vwX9_readPart lk_9_57 hdr (by decide) rfl (by decide) rfl rfl (Nat.le_of_ble_eq_true rfl) (fun r3 m4 => ?_)
    refine Ev.run (pc' := 12) (ls' := [some (.ref 15)]) (st' := [.ref 15]) (m' := m4) [(.aload_n 0, 0, 0, 0, 0)] (by decide +kernel) rfl ?_
    refine Ev.cV (av := []) (st := []) (a := 15) (EX9_closes (l := l) (Ln := Ln) (xs := xs) (d := 0) f m4 (by decide)) rfl (by decide +kernel) mwX9_closes iwX9_closes vwX9_closes lk_9_99 (by omega) (by decide) rfl (by decide) rfl rfl (Nat.le_of_ble_eq_true rfl) (fun r5 m6 => ?_)
    refine Ev.run (pc' := 18) (ls' := [some (.ref 15)]) (st' := [.int (-13), .ref 15]) (m' := m6) [(.aload_n 0, 0, 0, 0, 0), (.bipush (-13), 0, 0, (-13), 0)] (by decide +kernel) rfl ?_
    refine Ev.cV (av := [.int (-13)]) (st := []) (a := 15) (EX9_put (l := l) (Ln := Ln) (xs := xs) (d := 1) f (-13 : Int32) m6 (by decide)) rfl (by decide +kernel) mwX9_put iwX9_put vwX9_put lk_9_54 (by omega) (by decide) rfl (by decide) rfl rfl (Nat.le_of_ble_eq_true rfl) (fun r7 m8 => ?_)
    refine Ev.run (pc' := 27) (ls' := [some (.ref 15)]) (st' := []) (m' := ((ev_up m8.1 15 4 31), m8.2)) [(.aload_n 0, 0, 0, 0, 0), (.bipush 31, 0, 0, 31, 0), (.putfield 22, 9, 4, 0, 0)] (by decide +kernel) rfl ?_
    exact Ev.retv rfl rfl (by decide +kernel)
def FGA (f : Nat) : Nat → Nat → Int32 → ev_M → Option (Unit × ev_M)
  | 0, _, _, _ => none
  | n + 1, 0, _, m => FX9_readSumB f (FGA f n) m
  | n + 1, 1, _, m => FX9_readProductB f (FGA f n) m
  | n + 1, 2, _, m => FX9_readPartB f (FGA f n) m
  | n + 1, 3, _, m => FX9_readOpenedB f (FGA f n) m
  | n + 1, 4, a, m => FX9_readPairB f (FGA f n) a m
  | n + 1, _, _, m => FX9_readSaidAheadB f (FGA f n) m
set_option maxRecDepth 100000 in
theorem EGA {l : Launch} {Ln : Nat} {xs : Nat → Int32} (f : Nat) : ∀ (n d : Nat), 7 + n ≤ d → HRA l Ln xs d (FGA f n) := by
  intro n
  induction n with
  | zero => intro d _; exact ⟨(fun _ _ _ h => by cases h), (fun _ _ _ h => by cases h), (fun _ _ _ h => by cases h), (fun _ _ _ h => by cases h), (fun _ _ _ _ h => by cases h), (fun _ _ _ h => by cases h)⟩
  | succ n ih =>
    intro d
    cases d with
    | zero => intro h; exact absurd h (by omega)
    | succ d => intro h; exact ⟨(fun m => EX9_readSumB f (FGA f n) (ih d (by omega)) (by omega) m (by omega)), (fun m => EX9_readProductB f (FGA f n) (ih d (by omega)) (by omega) m (by omega)), (fun m => EX9_readPartB f (FGA f n) (ih d (by omega)) (by omega) m (by omega)), (fun m => EX9_readOpenedB f (FGA f n) (ih d (by omega)) (by omega) m (by omega)), (fun a m => EX9_readPairB f (FGA f n) (ih d (by omega)) (by omega) a m (by omega)), (fun m => EX9_readSaidAheadB f (FGA f n) (ih d (by omega)) (by omega) m (by omega))⟩
def FX9_readSum (f : Nat) (m : ev_M) : Option (Unit × ev_M) := FGA f 64 0 0 m
theorem EX9_readSum {l : Launch} {Ln : Nat} {xs : Nat → Int32} {d : Nat} (f : Nat) (m : ev_M) (hd : 71 ≤ d) : Mv ev_eV l Ln xs YX9_readSum d Sx [.ref 15] m (FX9_readSum f m) := (EGA f 64 d (by omega)).1 m
def FX9_readProduct (f : Nat) (m : ev_M) : Option (Unit × ev_M) := FGA f 64 1 0 m
theorem EX9_readProduct {l : Launch} {Ln : Nat} {xs : Nat → Int32} {d : Nat} (f : Nat) (m : ev_M) (hd : 71 ≤ d) : Mv ev_eV l Ln xs YX9_readProduct d Sx [.ref 15] m (FX9_readProduct f m) := (EGA f 64 d (by omega)).2.1 m
def FX9_readPart (f : Nat) (m : ev_M) : Option (Unit × ev_M) := FGA f 64 2 0 m
theorem EX9_readPart {l : Launch} {Ln : Nat} {xs : Nat → Int32} {d : Nat} (f : Nat) (m : ev_M) (hd : 71 ≤ d) : Mv ev_eV l Ln xs YX9_readPart d Sx [.ref 15] m (FX9_readPart f m) := (EGA f 64 d (by omega)).2.2.1 m
def FX9_readOpened (f : Nat) (m : ev_M) : Option (Unit × ev_M) := FGA f 64 3 0 m
theorem EX9_readOpened {l : Launch} {Ln : Nat} {xs : Nat → Int32} {d : Nat} (f : Nat) (m : ev_M) (hd : 71 ≤ d) : Mv ev_eV l Ln xs YX9_readOpened d Sx [.ref 15] m (FX9_readOpened f m) := (EGA f 64 d (by omega)).2.2.2.1 m
def FX9_readPair (f : Nat) (a1 : Int32) (m : ev_M) : Option (Unit × ev_M) := FGA f 64 4 a1 m
theorem EX9_readPair {l : Launch} {Ln : Nat} {xs : Nat → Int32} {d : Nat} (f : Nat) (a1 : Int32) (m : ev_M) (hd : 71 ≤ d) : Mv ev_eV l Ln xs YX9_readPair d Sx [.ref 15, .int a1] m (FX9_readPair f a1 m) := (EGA f 64 d (by omega)).2.2.2.2.1 a1 m
def FX9_readSaidAhead (f : Nat) (m : ev_M) : Option (Unit × ev_M) := FGA f 64 5 0 m
theorem EX9_readSaidAhead {l : Launch} {Ln : Nat} {xs : Nat → Int32} {d : Nat} (f : Nat) (m : ev_M) (hd : 71 ≤ d) : Mv ev_eV l Ln xs YX9_readSaidAhead d Sx [.ref 15] m (FX9_readSaidAhead f m) := (EGA f 64 d (by omega)).2.2.2.2.2 m
def FX1_readSays (f : Nat) (o0 : Nat) (m : ev_M) : Option (Unit × ev_M) :=
  (ev_bd (FX9_begin f (o0 + 4) (0 : Int32) ((ev_up m.1 o0 11 (m.1 (o0 + 4) 1)), m.2)) (fun _ m2 => (ev_bd (FX9_readSum f m2) (fun _ m4 => some ((), ((ev_up m4.1 o0 12 (m4.1 (o0 + 4) 1)), m4.2))))))
set_option maxRecDepth 100000 in
set_option maxHeartbeats 4000000 in
theorem EX1_readSays {l : Launch} {Ln : Nat} {xs : Nat → Int32} {d : Nat} (f : Nat) (o0 : Nat) (m : ev_M) (h_o0 : isK 1 o0) (hd : 72 ≤ d) : Mv ev_eV l Ln xs YX1_readSays d Sx [.ref o0, .ref 15] m (FX1_readSays f o0 m) := by
  refine Mv.of (by decide +kernel) rfl (Nat.le_of_ble_eq_true rfl) (Ev.le (ls' := [some (.ref o0), some (.ref 15)]) ⟨rfl, ⟨rfl, trivial⟩⟩ ?_)
  unfold FX1_readSays
  refine Ev.run (pc' := 2) (ls' := [some (.ref o0), some (.ref 15)]) (st' := [.ref o0, .ref o0]) (m' := m) [(.aload_n 0, 0, 0, 0, 0), (.aload_n 0, 0, 0, 0, 0)] (by decide +kernel) rfl ?_
  refine Ev.getS (v := .ref (o0 + 4)) (ci := 1) (k := 3) (idx := 24) (by decide +kernel) (by decide +kernel) (k1_l0 h_o0) (by rw [(k1_s0 h_o0)]) (by rw [(k1_s0 h_o0)]; decide) (by unfold ev_gv; rw [if_neg (by decide)]; show va_rf (Sx.2.2 o0 3) = _; rw [k1_r3 h_o0]; rfl) ?_
  refine Ev.getS (v := .int (m.1 (o0 + 4) 1)) (ci := 2) (k := 1) (idx := 102) (by decide +kernel) (by decide +kernel) (k2_l0 (k1_k2 h_o0)) (by rw [(k2_s0 (k1_k2 h_o0))]) (by rw [(k2_s0 (k1_k2 h_o0))]; decide) rfl ?_
  refine Ev.putI (ci := 1) (k := 11) (idx := 50) (by decide +kernel) (by decide +kernel) (by decide +kernel) (k1_l0 h_o0) (by rw [(k1_s0 h_o0)]) (by rw [(k1_s0 h_o0)]; decide) rfl rfl ?_
  refine Ev.run (pc' := 13) (ls' := [some (.ref o0), some (.ref 15)]) (st' := [.ref o0, .ref 15]) (m' := ((ev_up m.1 o0 11 (m.1 (o0 + 4) 1)), m.2)) [(.aload_n 1, 0, 0, 0, 0), (.aload_n 0, 0, 0, 0, 0)] (by decide +kernel) rfl ?_
  refine Ev.getS (v := .ref (o0 + 4)) (ci := 1) (k := 3) (idx := 24) (by decide +kernel) (by decide +kernel) (k1_l0 h_o0) (by rw [(k1_s0 h_o0)]) (by rw [(k1_s0 h_o0)]; decide) (by unfold ev_gv; rw [if_neg (by decide)]; show va_rf (Sx.2.2 o0 3) = _; rw [k1_r3 h_o0]; rfl) ?_
  refine Ev.run (pc' := 17) (ls' := [some (.ref o0), some (.ref 15)]) (st' := [.int 0, .ref (o0 + 4), .ref 15]) (m' := ((ev_up m.1 o0 11 (m.1 (o0 + 4) 1)), m.2)) [(.iconst 0, 0, 0, 0, 0)] (by decide +kernel) rfl ?_
  refine Ev.cV (av := [.ref (o0 + 4), .int 0]) (st := []) (a := 15) (EX9_begin (l := l) (Ln := Ln) (xs := xs) (d := 0) f (o0 + 4) (0 : Int32) ((ev_up m.1 o0 11 (m.1 (o0 + 4) 1)), m.2) (k1_k2 h_o0) (by decide)) rfl (by decide +kernel) mwX9_begin iwX9_begin vwX9_begin lk_1_150 (by omega) (by decide) rfl (by decide) rfl rfl (Nat.le_of_ble_eq_true rfl) (fun r1 m2 => ?_)
  refine Ev.run (pc' := 21) (ls' := [some (.ref o0), some (.ref 15)]) (st' := [.ref 15]) (m' := m2) [(.aload_n 1, 0, 0, 0, 0)] (by decide +kernel) rfl ?_
  refine Ev.cVN (av := []) (st := []) (a := 15) (EX9_readSum (l := l) (Ln := Ln) (xs := xs) (d := 71) f m2 (by decide)) rfl (by decide +kernel) mwX9_readSum iwX9_readSum vwX9_readSum lk_1_155 (by omega) (by decide) rfl (by decide) rfl rfl (Nat.le_of_ble_eq_true rfl) (fun r3 m4 => ?_)
  refine Ev.run (pc' := 26) (ls' := [some (.ref o0), some (.ref 15)]) (st' := [.ref o0, .ref o0]) (m' := m4) [(.aload_n 0, 0, 0, 0, 0), (.aload_n 0, 0, 0, 0, 0)] (by decide +kernel) rfl ?_
  refine Ev.getS (v := .ref (o0 + 4)) (ci := 1) (k := 3) (idx := 24) (by decide +kernel) (by decide +kernel) (k1_l0 h_o0) (by rw [(k1_s0 h_o0)]) (by rw [(k1_s0 h_o0)]; decide) (by unfold ev_gv; rw [if_neg (by decide)]; show va_rf (Sx.2.2 o0 3) = _; rw [k1_r3 h_o0]; rfl) ?_
  refine Ev.getS (v := .int (m4.1 (o0 + 4) 1)) (ci := 2) (k := 1) (idx := 102) (by decide +kernel) (by decide +kernel) (k2_l0 (k1_k2 h_o0)) (by rw [(k2_s0 (k1_k2 h_o0))]) (by rw [(k2_s0 (k1_k2 h_o0))]; decide) rfl ?_
  refine Ev.putI (ci := 1) (k := 12) (idx := 53) (by decide +kernel) (by decide +kernel) (by decide +kernel) (k1_l0 h_o0) (by rw [(k1_s0 h_o0)]) (by rw [(k1_s0 h_o0)]; decide) rfl rfl ?_
  exact Ev.retv rfl rfl (by decide +kernel)
def FX1_readFeels (f : Nat) (o0 : Nat) (m : ev_M) : Option (Unit × ev_M) :=
  (ev_bd (FX9_begin f (o0 + 4) (1 : Int32) ((ev_up m.1 o0 13 (m.1 (o0 + 4) 1)), m.2)) (fun _ m2 => (ev_bd (FX9_readSum f m2) (fun _ m4 => some ((), ((ev_up m4.1 o0 14 (m4.1 (o0 + 4) 1)), m4.2))))))
set_option maxRecDepth 100000 in
set_option maxHeartbeats 4000000 in
theorem EX1_readFeels {l : Launch} {Ln : Nat} {xs : Nat → Int32} {d : Nat} (f : Nat) (o0 : Nat) (m : ev_M) (h_o0 : isK 1 o0) (hd : 72 ≤ d) : Mv ev_eV l Ln xs YX1_readFeels d Sx [.ref o0, .ref 15] m (FX1_readFeels f o0 m) := by
  refine Mv.of (by decide +kernel) rfl (Nat.le_of_ble_eq_true rfl) (Ev.le (ls' := [some (.ref o0), some (.ref 15)]) ⟨rfl, ⟨rfl, trivial⟩⟩ ?_)
  unfold FX1_readFeels
  refine Ev.run (pc' := 2) (ls' := [some (.ref o0), some (.ref 15)]) (st' := [.ref o0, .ref o0]) (m' := m) [(.aload_n 0, 0, 0, 0, 0), (.aload_n 0, 0, 0, 0, 0)] (by decide +kernel) rfl ?_
  refine Ev.getS (v := .ref (o0 + 4)) (ci := 1) (k := 3) (idx := 24) (by decide +kernel) (by decide +kernel) (k1_l0 h_o0) (by rw [(k1_s0 h_o0)]) (by rw [(k1_s0 h_o0)]; decide) (by unfold ev_gv; rw [if_neg (by decide)]; show va_rf (Sx.2.2 o0 3) = _; rw [k1_r3 h_o0]; rfl) ?_
  refine Ev.getS (v := .int (m.1 (o0 + 4) 1)) (ci := 2) (k := 1) (idx := 102) (by decide +kernel) (by decide +kernel) (k2_l0 (k1_k2 h_o0)) (by rw [(k2_s0 (k1_k2 h_o0))]) (by rw [(k2_s0 (k1_k2 h_o0))]; decide) rfl ?_
  refine Ev.putI (ci := 1) (k := 13) (idx := 56) (by decide +kernel) (by decide +kernel) (by decide +kernel) (k1_l0 h_o0) (by rw [(k1_s0 h_o0)]) (by rw [(k1_s0 h_o0)]; decide) rfl rfl ?_
  refine Ev.run (pc' := 13) (ls' := [some (.ref o0), some (.ref 15)]) (st' := [.ref o0, .ref 15]) (m' := ((ev_up m.1 o0 13 (m.1 (o0 + 4) 1)), m.2)) [(.aload_n 1, 0, 0, 0, 0), (.aload_n 0, 0, 0, 0, 0)] (by decide +kernel) rfl ?_
  refine Ev.getS (v := .ref (o0 + 4)) (ci := 1) (k := 3) (idx := 24) (by decide +kernel) (by decide +kernel) (k1_l0 h_o0) (by rw [(k1_s0 h_o0)]) (by rw [(k1_s0 h_o0)]; decide) (by unfold ev_gv; rw [if_neg (by decide)]; show va_rf (Sx.2.2 o0 3) = _; rw [k1_r3 h_o0]; rfl) ?_
  refine Ev.run (pc' := 17) (ls' := [some (.ref o0), some (.ref 15)]) (st' := [.int 1, .ref (o0 + 4), .ref 15]) (m' := ((ev_up m.1 o0 13 (m.1 (o0 + 4) 1)), m.2)) [(.iconst 1, 0, 0, 1, 0)] (by decide +kernel) rfl ?_
  refine Ev.cV (av := [.ref (o0 + 4), .int 1]) (st := []) (a := 15) (EX9_begin (l := l) (Ln := Ln) (xs := xs) (d := 0) f (o0 + 4) (1 : Int32) ((ev_up m.1 o0 13 (m.1 (o0 + 4) 1)), m.2) (k1_k2 h_o0) (by decide)) rfl (by decide +kernel) mwX9_begin iwX9_begin vwX9_begin lk_1_150 (by omega) (by decide) rfl (by decide) rfl rfl (Nat.le_of_ble_eq_true rfl) (fun r1 m2 => ?_)
  refine Ev.run (pc' := 21) (ls' := [some (.ref o0), some (.ref 15)]) (st' := [.ref 15]) (m' := m2) [(.aload_n 1, 0, 0, 0, 0)] (by decide +kernel) rfl ?_
  refine Ev.cVN (av := []) (st := []) (a := 15) (EX9_readSum (l := l) (Ln := Ln) (xs := xs) (d := 71) f m2 (by decide)) rfl (by decide +kernel) mwX9_readSum iwX9_readSum vwX9_readSum lk_1_155 (by omega) (by decide) rfl (by decide) rfl rfl (Nat.le_of_ble_eq_true rfl) (fun r3 m4 => ?_)
  refine Ev.run (pc' := 26) (ls' := [some (.ref o0), some (.ref 15)]) (st' := [.ref o0, .ref o0]) (m' := m4) [(.aload_n 0, 0, 0, 0, 0), (.aload_n 0, 0, 0, 0, 0)] (by decide +kernel) rfl ?_
  refine Ev.getS (v := .ref (o0 + 4)) (ci := 1) (k := 3) (idx := 24) (by decide +kernel) (by decide +kernel) (k1_l0 h_o0) (by rw [(k1_s0 h_o0)]) (by rw [(k1_s0 h_o0)]; decide) (by unfold ev_gv; rw [if_neg (by decide)]; show va_rf (Sx.2.2 o0 3) = _; rw [k1_r3 h_o0]; rfl) ?_
  refine Ev.getS (v := .int (m4.1 (o0 + 4) 1)) (ci := 2) (k := 1) (idx := 102) (by decide +kernel) (by decide +kernel) (k2_l0 (k1_k2 h_o0)) (by rw [(k2_s0 (k1_k2 h_o0))]) (by rw [(k2_s0 (k1_k2 h_o0))]; decide) rfl ?_
  refine Ev.putI (ci := 1) (k := 14) (idx := 59) (by decide +kernel) (by decide +kernel) (by decide +kernel) (k1_l0 h_o0) (by rw [(k1_s0 h_o0)]) (by rw [(k1_s0 h_o0)]; decide) rfl rfl ?_
  exact Ev.retv rfl rfl (by decide +kernel)
def FX7_readComparison_J73 (f : Nat)   (a1 : Int32)  (m : ev_M) : Option (Unit × ev_M) :=
  (ev_bd (FX10_advance f m) (fun _ m10 => (ev_bd (FX9_readSum f m10) (fun _ m12 => (ev_bd (FX2_add f 23 a1 m12) (fun _ m14 => some ((), m14)))))))
def FX7_readComparison (f : Nat)  (m : ev_M) : Option (Unit × ev_M) :=
  (ev_bd (FX9_readSum f m) (fun _ m2 => (ev_bd (FX10_isSign f (60 : Int32) m2) (fun r3 m4 => (if r3 = 0 then (ev_bd (FX10_isSign f (62 : Int32) m4) (fun r5 m6 => (if r5 = 0 then (ev_bd (FX10_isSign f (61 : Int32) m6) (fun r7 m8 => (if r7 = 0 then (ev_bd (FX10_fail f (1 : Int32) (m8.1 13 2) m8) (fun _ m16 => (FX7_readComparison_J73 f (-9 : Int32) m16))) else (FX7_readComparison_J73 f (-9 : Int32) m8)))) else (FX7_readComparison_J73 f (-8 : Int32) m6)))) else (FX7_readComparison_J73 f (-7 : Int32) m4))))))
set_option maxRecDepth 100000 in
set_option maxHeartbeats 4000000 in
theorem EX7_readComparison_J73 {l : Launch} {Ln : Nat} {xs : Nat → Int32} {d : Nat} (f : Nat)   (a1 : Int32)  (m : ev_M)   (hd : 72 ≤ d) : Ev ev_eV l Ln xs YX7_readComparison d Sx 73 [some (.ref 22), some (.int a1)] [] m (FX7_readComparison_J73 f a1 m) := by
  unfold FX7_readComparison_J73
  refine Ev.run (pc' := 77) (ls' := [some (.ref 22), some (.int a1)]) (st' := [.ref 13]) (m' := m) [(.aload_n 0, 0, 0, 0, 0), (.getfield 33, 7, 0, 0, 0)] (by decide +kernel) rfl ?_
  refine Ev.cV (av := []) (st := []) (a := 13) (EX10_advance (l := l) (Ln := Ln) (xs := xs) (d := 5) f m (by decide)) rfl (by decide +kernel) mwX10_advance iwX10_advance vwX10_advance lk_7_62 (by omega) (by decide) rfl (by decide) rfl rfl (Nat.le_of_ble_eq_true rfl) (fun r9 m10 => ?_)
  refine Ev.run (pc' := 84) (ls' := [some (.ref 22), some (.int a1)]) (st' := [.ref 15]) (m' := m10) [(.aload_n 0, 0, 0, 0, 0), (.getfield 37, 7, 1, 0, 0)] (by decide +kernel) rfl ?_
  refine Ev.cVN (av := []) (st := []) (a := 15) (EX9_readSum (l := l) (Ln := Ln) (xs := xs) (d := 71) f m10 (by decide)) rfl (by decide +kernel) mwX9_readSum iwX9_readSum vwX9_readSum lk_7_68 (by omega) (by decide) rfl (by decide) rfl rfl (Nat.le_of_ble_eq_true rfl) (fun r11 m12 => ?_)
  refine Ev.run (pc' := 92) (ls' := [some (.ref 22), some (.int a1)]) (st' := [.int a1, .ref 23]) (m' := m12) [(.aload_n 0, 0, 0, 0, 0), (.getfield 12, 7, 3, 0, 0), (.iload_n 1, 0, 0, 0, 0)] (by decide +kernel) rfl ?_
  refine Ev.cV (av := [.int a1]) (st := []) (a := 23) (EX2_add (l := l) (Ln := Ln) (xs := xs) (d := 0) f 23 a1 m12 (by decide) (by decide)) rfl (by decide +kernel) mwX2_add iwX2_add vwX2_add lk_7_92 (by omega) (by decide) rfl (by decide) rfl rfl (Nat.le_of_ble_eq_true rfl) (fun r13 m14 => ?_)
  exact Ev.retv rfl rfl (by decide +kernel)
set_option maxRecDepth 100000 in
set_option maxHeartbeats 4000000 in
theorem EX7_readComparison {l : Launch} {Ln : Nat} {xs : Nat → Int32} {d : Nat} (f : Nat)  (m : ev_M)  (hd : 72 ≤ d) : Mv ev_eV l Ln xs YX7_readComparison d Sx [.ref 22] m (FX7_readComparison f  m) := by
  refine Mv.of (by decide +kernel) rfl (Nat.le_of_ble_eq_true rfl) (Ev.le (ls' := [some (.ref 22), none]) ⟨rfl, trivial⟩ ?_)
  unfold FX7_readComparison
  refine Ev.run (pc' := 4) (ls' := [some (.ref 22), none]) (st' := [.ref 15]) (m' := m) [(.aload_n 0, 0, 0, 0, 0), (.getfield 37, 7, 1, 0, 0)] (by decide +kernel) rfl ?_
  refine Ev.cVN (av := []) (st := []) (a := 15) (EX9_readSum (l := l) (Ln := Ln) (xs := xs) (d := 71) f m (by decide)) rfl (by decide +kernel) mwX9_readSum iwX9_readSum vwX9_readSum lk_7_68 (by omega) (by decide) rfl (by decide) rfl rfl (Nat.le_of_ble_eq_true rfl) (fun r1 m2 => ?_)
  refine Ev.run (pc' := 16) (ls' := [some (.ref 22), some (.int (-9))]) (st' := [.int 60, .ref 13]) (m' := m2) [(.bipush (-9), 0, 0, (-9), 0), (.istore_n 1, 0, 0, 0, 0), (.aload_n 0, 0, 0, 0, 0), (.getfield 33, 7, 0, 0, 0), (.bipush 60, 0, 0, 60, 0)] (by decide +kernel) rfl ?_
  refine Ev.cV (av := [.int 60]) (st := []) (a := 13) (EX10_isSign (l := l) (Ln := Ln) (xs := xs) (d := 0) f (60 : Int32) m2 (by decide)) rfl (by decide +kernel) mwX10_isSign iwX10_isSign vwX10_isSign lk_7_105 (by omega) (by decide) rfl (by decide) rfl rfl (Nat.le_of_ble_eq_true rfl) (fun r3 m4 => ?_)
  refine Ev.if_eq (t := 28) (by decide +kernel) ?_ ?_
  · refine Ev.run (pc' := 34) (ls' := [some (.ref 22), some (.int (-9))]) (st' := [.int 62, .ref 13]) (m' := m4) [(.aload_n 0, 0, 0, 0, 0), (.getfield 33, 7, 0, 0, 0), (.bipush 62, 0, 0, 62, 0)] (by decide +kernel) rfl ?_
    refine Ev.cV (av := [.int 62]) (st := []) (a := 13) (EX10_isSign (l := l) (Ln := Ln) (xs := xs) (d := 0) f (62 : Int32) m4 (by decide)) rfl (by decide +kernel) mwX10_isSign iwX10_isSign vwX10_isSign lk_7_105 (by omega) (by decide) rfl (by decide) rfl rfl (Nat.le_of_ble_eq_true rfl) (fun r5 m6 => ?_)
    refine Ev.if_eq (t := 46) (by decide +kernel) ?_ ?_
    · refine Ev.run (pc' := 52) (ls' := [some (.ref 22), some (.int (-9))]) (st' := [.int 61, .ref 13]) (m' := m6) [(.aload_n 0, 0, 0, 0, 0), (.getfield 33, 7, 0, 0, 0), (.bipush 61, 0, 0, 61, 0)] (by decide +kernel) rfl ?_
      refine Ev.cV (av := [.int 61]) (st := []) (a := 13) (EX10_isSign (l := l) (Ln := Ln) (xs := xs) (d := 0) f (61 : Int32) m6 (by decide)) rfl (by decide +kernel) mwX10_isSign iwX10_isSign vwX10_isSign lk_7_105 (by omega) (by decide) rfl (by decide) rfl rfl (Nat.le_of_ble_eq_true rfl) (fun r7 m8 => ?_)
      refine Ev.if_ne (t := 73) (by decide +kernel) ?_ ?_
      · exact EX7_readComparison_J73 f (-9 : Int32) m8 (by omega)
      · refine Ev.run (pc' := 70) (ls' := [some (.ref 22), some (.int (-9))]) (st' := [.int (m8.1 13 2), .int 1, .ref 13]) (m' := m8) [(.aload_n 0, 0, 0, 0, 0), (.getfield 33, 7, 0, 0, 0), (.iconst 1, 0, 0, 1, 0), (.aload_n 0, 0, 0, 0, 0), (.getfield 33, 7, 0, 0, 0), (.getfield 71, 10, 2, 0, 0)] (by decide +kernel) rfl ?_
        refine Ev.cV (av := [.int 1, .int (m8.1 13 2)]) (st := []) (a := 13) (EX10_fail (l := l) (Ln := Ln) (xs := xs) (d := 0) f (1 : Int32) (m8.1 13 2) m8 (by decide)) rfl (by decide +kernel) mwX10_fail iwX10_fail vwX10_fail lk_7_74 (by omega) (by decide) rfl (by decide) rfl rfl (Nat.le_of_ble_eq_true rfl) (fun r15 m16 => ?_)
        exact EX7_readComparison_J73 f (-9 : Int32) m16 (by omega)
    · refine Ev.run (pc' := 43) (ls' := [some (.ref 22), some (.int (-8))]) (st' := []) (m' := m6) [(.bipush (-8), 0, 0, (-8), 0), (.istore_n 1, 0, 0, 0, 0)] (by decide +kernel) rfl ?_
      refine Ev.gto (t := 73) (by decide +kernel) ?_
      exact EX7_readComparison_J73 f (-8 : Int32) m6 (by omega)
  · refine Ev.run (pc' := 25) (ls' := [some (.ref 22), some (.int (-7))]) (st' := []) (m' := m4) [(.bipush (-7), 0, 0, (-7), 0), (.istore_n 1, 0, 0, 0, 0)] (by decide +kernel) rfl ?_
    refine Ev.gto (t := 73) (by decide +kernel) ?_
    exact EX7_readComparison_J73 f (-7 : Int32) m4 (by omega)
def FX1_readStatement_J164 (f : Nat)     (m : ev_M) : Option (Unit × ev_M) :=
  (ev_bd (FX10_takeSign f (59 : Int32) m) (fun _ m10 => some ((), m10)))
def FX1_readStatement (f : Nat) (o0 : Nat) (m : ev_M) : Option (Unit × ev_M) :=
  (ev_bd (FX10_word f m) (fun r1 m2 => (ev_bd (FX1_isTooMany f o0 r1 m2) (fun r3 m4 => (if r3 = 0 then (ev_bd (FX10_advance f m4) (fun _ m6 => (if r1 = 1 then (ev_bd (FX1_readTower f o0 m6) (fun _ m8 => (FX1_readStatement_J164 f m8))) else (if r1 = 4 then (ev_bd (FX1_readYes f o0 m6) (fun _ m13 => (FX1_readStatement_J164 f m13))) else (if r1 = 5 then (ev_bd (FX1_readSays f o0 m6) (fun _ m16 => (FX1_readStatement_J164 f m16))) else (if r1 = 6 then (ev_bd (FX1_readFeels f o0 m6) (fun _ m19 => (FX1_readStatement_J164 f m19))) else (if r1 = 7 then (ev_bd (FX10_takeNumber f (1 : Int32) (9 : Int32) m6) (fun r21 m22 => (FX1_readStatement_J164 f ((ev_up m22.1 o0 8 r21), m22.2)))) else (if r1 = 8 then (ev_bd (FX10_takeNumber f (1 : Int32) (8 : Int32) m6) (fun r24 m25 => (FX1_readStatement_J164 f ((ev_up m25.1 o0 9 r24), m25.2)))) else (if r1 = 9 then (ev_bd (FX10_takeNumber f (0 : Int32) (100 : Int32) m6) (fun r27 m28 => (FX1_readStatement_J164 f ((ev_up m28.1 o0 10 r27), m28.2)))) else (ev_bd (FX10_fail f (1 : Int32) (m.1 13 2) m6) (fun _ m31 => (FX1_readStatement_J164 f m31)))))))))))) else (ev_bd (FX10_fail f (5 : Int32) (m.1 13 2) m4) (fun _ m33 => some ((), m33))))))))
set_option maxRecDepth 100000 in
set_option maxHeartbeats 4000000 in
theorem EX1_readStatement_J164 {l : Launch} {Ln : Nat} {xs : Nat → Int32} {d : Nat} (f : Nat)     (m : ev_M)   (hd : 73 ≤ d) : Ev ev_eV l Ln xs YX1_readStatement d Sx 164 [none, some (.ref 13), none, none, none] [] m (FX1_readStatement_J164 f m) := by
  unfold FX1_readStatement_J164
  refine Ev.run (pc' := 167) (ls' := [none, some (.ref 13), none, none, none]) (st' := [.int 59, .ref 13]) (m' := m) [(.aload_n 1, 0, 0, 0, 0), (.bipush 59, 0, 0, 59, 0)] (by decide +kernel) rfl ?_
  refine Ev.cV (av := [.int 59]) (st := []) (a := 13) (EX10_takeSign (l := l) (Ln := Ln) (xs := xs) (d := 6) f (59 : Int32) m (by decide)) rfl (by decide +kernel) mwX10_takeSign iwX10_takeSign vwX10_takeSign lk_1_78 (by omega) (by decide) rfl (by decide) rfl rfl (Nat.le_of_ble_eq_true rfl) (fun r9 m10 => ?_)
  exact Ev.retv rfl rfl (by decide +kernel)
set_option maxRecDepth 100000 in
set_option maxHeartbeats 4000000 in
theorem EX1_readStatement {l : Launch} {Ln : Nat} {xs : Nat → Int32} {d : Nat} (f : Nat) (o0 : Nat) (m : ev_M) (h_o0 : isK 1 o0) (hd : 73 ≤ d) : Mv ev_eV l Ln xs YX1_readStatement d Sx [.ref o0, .ref 13, .ref 15] m (FX1_readStatement f o0 m) := by
  refine Mv.of (by decide +kernel) rfl (Nat.le_of_ble_eq_true rfl) (Ev.le (ls' := [some (.ref o0), some (.ref 13), some (.ref 15), none, none]) ⟨rfl, ⟨rfl, ⟨rfl, trivial⟩⟩⟩ ?_)
  unfold FX1_readStatement
  refine Ev.run (pc' := 6) (ls' := [some (.ref o0), some (.ref 13), some (.ref 15), some (.int (m.1 13 2)), none]) (st' := [.ref 13]) (m' := m) [(.aload_n 1, 0, 0, 0, 0), (.getfield 92, 10, 2, 0, 0), (.istore_n 3, 0, 0, 0, 0), (.aload_n 1, 0, 0, 0, 0)] (by decide +kernel) rfl ?_
  refine Ev.cV (av := []) (st := []) (a := 13) (EX10_word (l := l) (Ln := Ln) (xs := xs) (d := 0) f m (by decide)) rfl (by decide +kernel) mwX10_word iwX10_word vwX10_word lk_1_114 (by omega) (by decide) rfl (by decide) rfl rfl (Nat.le_of_ble_eq_true rfl) (fun r1 m2 => ?_)
  refine Ev.run (pc' := 14) (ls' := [some (.ref o0), some (.ref 13), some (.ref 15), some (.int (m.1 13 2)), some (.int r1)]) (st' := [.int r1, .ref o0]) (m' := m2) [(.istore 4, 0, 0, 0, 0), (.aload_n 0, 0, 0, 0, 0), (.iload 4, 0, 0, 0, 0)] (by decide +kernel) rfl ?_
  refine Ev.cV (av := [.int r1]) (st := []) (a := o0) (EX1_isTooMany (l := l) (Ln := Ln) (xs := xs) (d := 1) f o0 r1 m2 h_o0 (by decide)) rfl (by decide +kernel) mwX1_isTooMany iwX1_isTooMany vwX1_isTooMany lk_1_118 (by omega) (k1_l0 h_o0) (by rw [(k1_s0 h_o0)]) (by decide) rfl rfl (Nat.le_of_ble_eq_true rfl) (fun r3 m4 => ?_)
  refine Ev.if_eq (t := 27) (by decide +kernel) ?_ ?_
  · refine Ev.run (pc' := 28) (ls' := [some (.ref o0), some (.ref 13), some (.ref 15), some (.int (m.1 13 2)), some (.int r1)]) (st' := [.ref 13]) (m' := m4) [(.aload_n 1, 0, 0, 0, 0)] (by decide +kernel) rfl ?_
    refine Ev.cV (av := []) (st := []) (a := 13) (EX10_advance (l := l) (Ln := Ln) (xs := xs) (d := 5) f m4 (by decide)) rfl (by decide +kernel) mwX10_advance iwX10_advance vwX10_advance lk_1_122 (by omega) (by decide) rfl (by decide) rfl rfl (Nat.le_of_ble_eq_true rfl) (fun r5 m6 => ?_)
    refine Ev.run (pc' := 33) (ls' := [some (.ref o0), some (.ref 13), some (.ref 15), some (.int (m.1 13 2)), some (.int r1)]) (st' := [.int r1]) (m' := m6) [(.iload 4, 0, 0, 0, 0)] (by decide +kernel) rfl ?_
    refine Ev.sw1 1 (t := 84) (by decide +kernel) (by decide) ?_ (fun z11 => ?_)
    · refine Ev.run (pc' := 86) (ls' := [some (.ref o0), some (.ref 13), some (.ref 15), some (.int (m.1 13 2)), some (.int r1)]) (st' := [.ref 13, .ref o0]) (m' := m6) [(.aload_n 0, 0, 0, 0, 0), (.aload_n 1, 0, 0, 0, 0)] (by decide +kernel) rfl ?_
      refine Ev.cV (av := [.ref 13]) (st := []) (a := o0) (EX1_readTower (l := l) (Ln := Ln) (xs := xs) (d := 7) f o0 m6 h_o0 (by decide)) rfl (by decide +kernel) mwX1_readTower iwX1_readTower vwX1_readTower lk_1_125 (by omega) (k1_l0 h_o0) (by rw [(k1_s0 h_o0)]) (by decide) rfl rfl (Nat.le_of_ble_eq_true rfl) (fun r7 m8 => ?_)
      refine Ev.gto (t := 164) (by decide +kernel) ?_
      refine Ev.le (ls' := [none, some (.ref 13), none, none, none]) ⟨rfl, trivial⟩ ?_
      exact EX1_readStatement_J164 f m8 (by omega)
    refine Ev.sw1 4 (t := 92) (by decide +kernel) (by decide) ?_ (fun z14 => ?_)
    · refine Ev.run (pc' := 94) (ls' := [some (.ref o0), some (.ref 13), some (.ref 15), some (.int (m.1 13 2)), some (.int r1)]) (st' := [.ref 13, .ref o0]) (m' := m6) [(.aload_n 0, 0, 0, 0, 0), (.aload_n 1, 0, 0, 0, 0)] (by decide +kernel) rfl ?_
      refine Ev.cV (av := [.ref 13]) (st := []) (a := o0) (EX1_readYes (l := l) (Ln := Ln) (xs := xs) (d := 6) f o0 m6 h_o0 (by decide)) rfl (by decide +kernel) mwX1_readYes iwX1_readYes vwX1_readYes lk_1_129 (by omega) (k1_l0 h_o0) (by rw [(k1_s0 h_o0)]) (by decide) rfl rfl (Nat.le_of_ble_eq_true rfl) (fun r12 m13 => ?_)
      refine Ev.gto (t := 164) (by decide +kernel) ?_
      refine Ev.le (ls' := [none, some (.ref 13), none, none, none]) ⟨rfl, trivial⟩ ?_
      exact EX1_readStatement_J164 f m13 (by omega)
    refine Ev.sw1 5 (t := 100) (by decide +kernel) (by decide) ?_ (fun z17 => ?_)
    · refine Ev.run (pc' := 102) (ls' := [some (.ref o0), some (.ref 13), some (.ref 15), some (.int (m.1 13 2)), some (.int r1)]) (st' := [.ref 15, .ref o0]) (m' := m6) [(.aload_n 0, 0, 0, 0, 0), (.aload_n 2, 0, 0, 0, 0)] (by decide +kernel) rfl ?_
      refine Ev.cV (av := [.ref 15]) (st := []) (a := o0) (EX1_readSays (l := l) (Ln := Ln) (xs := xs) (d := 72) f o0 m6 h_o0 (by decide)) rfl (by decide +kernel) mwX1_readSays iwX1_readSays vwX1_readSays lk_1_132 (by omega) (k1_l0 h_o0) (by rw [(k1_s0 h_o0)]) (by decide) rfl rfl (Nat.le_of_ble_eq_true rfl) (fun r15 m16 => ?_)
      refine Ev.gto (t := 164) (by decide +kernel) ?_
      refine Ev.le (ls' := [none, some (.ref 13), none, none, none]) ⟨rfl, trivial⟩ ?_
      exact EX1_readStatement_J164 f m16 (by omega)
    refine Ev.sw1 6 (t := 108) (by decide +kernel) (by decide) ?_ (fun z20 => ?_)
    · refine Ev.run (pc' := 110) (ls' := [some (.ref o0), some (.ref 13), some (.ref 15), some (.int (m.1 13 2)), some (.int r1)]) (st' := [.ref 15, .ref o0]) (m' := m6) [(.aload_n 0, 0, 0, 0, 0), (.aload_n 2, 0, 0, 0, 0)] (by decide +kernel) rfl ?_
      refine Ev.cV (av := [.ref 15]) (st := []) (a := o0) (EX1_readFeels (l := l) (Ln := Ln) (xs := xs) (d := 72) f o0 m6 h_o0 (by decide)) rfl (by decide +kernel) mwX1_readFeels iwX1_readFeels vwX1_readFeels lk_1_136 (by omega) (k1_l0 h_o0) (by rw [(k1_s0 h_o0)]) (by decide) rfl rfl (Nat.le_of_ble_eq_true rfl) (fun r18 m19 => ?_)
      refine Ev.gto (t := 164) (by decide +kernel) ?_
      refine Ev.le (ls' := [none, some (.ref 13), none, none, none]) ⟨rfl, trivial⟩ ?_
      exact EX1_readStatement_J164 f m19 (by omega)
    refine Ev.sw1 7 (t := 116) (by decide +kernel) (by decide) ?_ (fun z23 => ?_)
    · refine Ev.run (pc' := 121) (ls' := [some (.ref o0), some (.ref 13), some (.ref 15), some (.int (m.1 13 2)), some (.int r1)]) (st' := [.int 9, .int 1, .ref 13, .ref o0]) (m' := m6) [(.aload_n 0, 0, 0, 0, 0), (.aload_n 1, 0, 0, 0, 0), (.iconst 1, 0, 0, 1, 0), (.bipush 9, 0, 0, 9, 0)] (by decide +kernel) rfl ?_
      refine Ev.cV (av := [.int 1, .int 9]) (st := [.ref o0]) (a := 13) (EX10_takeNumber (l := l) (Ln := Ln) (xs := xs) (d := 6) f (1 : Int32) (9 : Int32) m6 (by decide)) rfl (by decide +kernel) mwX10_takeNumber iwX10_takeNumber vwX10_takeNumber lk_1_74 (by omega) (by decide) rfl (by decide) rfl rfl (Nat.le_of_ble_eq_true rfl) (fun r21 m22 => ?_)
      refine Ev.putI (ci := 1) (k := 8) (idx := 41) (by decide +kernel) (by decide +kernel) (by decide +kernel) (k1_l0 h_o0) (by rw [(k1_s0 h_o0)]) (by rw [(k1_s0 h_o0)]; decide) rfl rfl ?_
      refine Ev.gto (t := 164) (by decide +kernel) ?_
      refine Ev.le (ls' := [none, some (.ref 13), none, none, none]) ⟨rfl, trivial⟩ ?_
      exact EX1_readStatement_J164 f ((ev_up m22.1 o0 8 r21), m22.2) (by omega)
    refine Ev.sw1 8 (t := 130) (by decide +kernel) (by decide) ?_ (fun z26 => ?_)
    · refine Ev.run (pc' := 135) (ls' := [some (.ref o0), some (.ref 13), some (.ref 15), some (.int (m.1 13 2)), some (.int r1)]) (st' := [.int 8, .int 1, .ref 13, .ref o0]) (m' := m6) [(.aload_n 0, 0, 0, 0, 0), (.aload_n 1, 0, 0, 0, 0), (.iconst 1, 0, 0, 1, 0), (.bipush 8, 0, 0, 8, 0)] (by decide +kernel) rfl ?_
      refine Ev.cV (av := [.int 1, .int 8]) (st := [.ref o0]) (a := 13) (EX10_takeNumber (l := l) (Ln := Ln) (xs := xs) (d := 6) f (1 : Int32) (8 : Int32) m6 (by decide)) rfl (by decide +kernel) mwX10_takeNumber iwX10_takeNumber vwX10_takeNumber lk_1_74 (by omega) (by decide) rfl (by decide) rfl rfl (Nat.le_of_ble_eq_true rfl) (fun r24 m25 => ?_)
      refine Ev.putI (ci := 1) (k := 9) (idx := 44) (by decide +kernel) (by decide +kernel) (by decide +kernel) (k1_l0 h_o0) (by rw [(k1_s0 h_o0)]) (by rw [(k1_s0 h_o0)]; decide) rfl rfl ?_
      refine Ev.gto (t := 164) (by decide +kernel) ?_
      refine Ev.le (ls' := [none, some (.ref 13), none, none, none]) ⟨rfl, trivial⟩ ?_
      exact EX1_readStatement_J164 f ((ev_up m25.1 o0 9 r24), m25.2) (by omega)
    refine Ev.sw1 9 (t := 144) (by decide +kernel) (by decide) ?_ (fun z29 => ?_)
    · refine Ev.run (pc' := 149) (ls' := [some (.ref o0), some (.ref 13), some (.ref 15), some (.int (m.1 13 2)), some (.int r1)]) (st' := [.int 100, .int 0, .ref 13, .ref o0]) (m' := m6) [(.aload_n 0, 0, 0, 0, 0), (.aload_n 1, 0, 0, 0, 0), (.iconst 0, 0, 0, 0, 0), (.bipush 100, 0, 0, 100, 0)] (by decide +kernel) rfl ?_
      refine Ev.cV (av := [.int 0, .int 100]) (st := [.ref o0]) (a := 13) (EX10_takeNumber (l := l) (Ln := Ln) (xs := xs) (d := 6) f (0 : Int32) (100 : Int32) m6 (by decide)) rfl (by decide +kernel) mwX10_takeNumber iwX10_takeNumber vwX10_takeNumber lk_1_74 (by omega) (by decide) rfl (by decide) rfl rfl (Nat.le_of_ble_eq_true rfl) (fun r27 m28 => ?_)
      refine Ev.putI (ci := 1) (k := 10) (idx := 47) (by decide +kernel) (by decide +kernel) (by decide +kernel) (k1_l0 h_o0) (by rw [(k1_s0 h_o0)]) (by rw [(k1_s0 h_o0)]; decide) rfl rfl ?_
      refine Ev.gto (t := 164) (by decide +kernel) ?_
      refine Ev.le (ls' := [none, some (.ref 13), none, none, none]) ⟨rfl, trivial⟩ ?_
      exact EX1_readStatement_J164 f ((ev_up m28.1 o0 10 r27), m28.2) (by omega)
    refine Ev.sw0 (vals := [1, 4, 5, 6, 7, 8, 9]) (dt := 158) (by decide +kernel) (by simp only [List.mem_cons, List.not_mem_nil, or_false, not_or]; exact ⟨(lv_neT (k := 1) (a := 1) z11 (by decide)), (lv_neT (k := 4) (a := 4) z14 (by decide)), (lv_neT (k := 5) (a := 5) z17 (by decide)), (lv_neT (k := 6) (a := 6) z20 (by decide)), (lv_neT (k := 7) (a := 7) z23 (by decide)), (lv_neT (k := 8) (a := 8) z26 (by decide)), (lv_neT (k := 9) (a := 9) z29 (by decide))⟩) ?_
    refine Ev.run (pc' := 161) (ls' := [some (.ref o0), some (.ref 13), some (.ref 15), some (.int (m.1 13 2)), some (.int r1)]) (st' := [.int (m.1 13 2), .int 1, .ref 13]) (m' := m6) [(.aload_n 1, 0, 0, 0, 0), (.iconst 1, 0, 0, 1, 0), (.iload_n 3, 0, 0, 0, 0)] (by decide +kernel) rfl ?_
    refine Ev.cV (av := [.int 1, .int (m.1 13 2)]) (st := []) (a := 13) (EX10_fail (l := l) (Ln := Ln) (xs := xs) (d := 0) f (1 : Int32) (m.1 13 2) m6 (by decide)) rfl (by decide +kernel) mwX10_fail iwX10_fail vwX10_fail lk_1_95 (by omega) (by decide) rfl (by decide) rfl rfl (Nat.le_of_ble_eq_true rfl) (fun r30 m31 => ?_)
    refine Ev.le (ls' := [none, some (.ref 13), none, none, none]) ⟨rfl, trivial⟩ ?_
    exact EX1_readStatement_J164 f m31 (by omega)
  · refine Ev.run (pc' := 23) (ls' := [some (.ref o0), some (.ref 13), some (.ref 15), some (.int (m.1 13 2)), some (.int r1)]) (st' := [.int (m.1 13 2), .int 5, .ref 13]) (m' := m4) [(.aload_n 1, 0, 0, 0, 0), (.iconst 5, 0, 0, 5, 0), (.iload_n 3, 0, 0, 0, 0)] (by decide +kernel) rfl ?_
    refine Ev.cV (av := [.int 5, .int (m.1 13 2)]) (st := []) (a := 13) (EX10_fail (l := l) (Ln := Ln) (xs := xs) (d := 0) f (5 : Int32) (m.1 13 2) m4 (by decide)) rfl (by decide +kernel) mwX10_fail iwX10_fail vwX10_fail lk_1_95 (by omega) (by decide) rfl (by decide) rfl rfl (Nat.le_of_ble_eq_true rfl) (fun r32 m33 => ?_)
    exact Ev.retv rfl rfl (by decide +kernel)
def FX1_readFrom_L32 (f : Nat) (k : Int32 → ev_M → Option (Int32 × ev_M)) (o0 : Nat)  : Nat → Int32 → ev_M → Option (Int32 × ev_M)
  | 0, _, _ => none
  | n + 1, a3, m => (if 60 ≤ a3 then (k a3 m) else (ev_bd (FX10_isGood f m) (fun r11 m12 => (if r11 = 0 then (k a3 m12) else (ev_bd (FX10_isEnd f m12) (fun r13 m14 => (if r13 = 0 then (ev_bd (FX1_readStatement f o0 m14) (fun _ m16 => (FX1_readFrom_L32 f k o0 n (a3 + 1) m16))) else (k a3 m14))))))))
def FX1_readFrom_J80 (f : Nat)  (o0 : Nat) (a3 : Int32)  (m : ev_M) : Option (Int32 × ev_M) :=
  (ev_bd (FX1_addUntoldSums f o0 m) (fun _ m22 => (ev_bd (FX10_isGood f ((ev_up m22.1 o0 4 a3), m22.2)) (fun r23 m24 => (if r23 = 0 ∨ r23 = 1 then some (r23, m24) else none)))))
def FX1_readFrom_J64 (f : Nat)  (o0 : Nat) (a3 : Int32)  (m : ev_M) : Option (Int32 × ev_M) :=
  (ev_bd (FX10_isEnd f m) (fun r19 m20 => (if r19 = 0 then (ev_bd (FX10_fail f (5 : Int32) (m20.1 13 2) m20) (fun _ m26 => (FX1_readFrom_J80 f o0 a3 m26))) else (FX1_readFrom_J80 f o0 a3 m20))))
def FX1_readFrom (f : Nat) (o0 : Nat) (m : ev_M) : Option (Int32 × ev_M) :=
  (ev_bd (FX1_clear f o0 m) (fun _ m2 => (ev_bd (FX10_begin f m2) (fun _ m4 => (ev_bd (FX10_takeWord f (0 : Int32) m4) (fun _ m6 => (ev_bd (FX10_takeNumber f (0 : Int32) (9 : Int32) m6) (fun r7 m8 => (ev_bd (FX10_takeSign f (59 : Int32) ((ev_up m8.1 o0 7 r7), m8.2)) (fun _ m10 => (FX1_readFrom_L32 f (fun e17 m18 => (FX1_readFrom_J64 f o0 e17 m18)) o0 f (1 : Int32) m10)))))))))))
set_option maxRecDepth 100000 in
set_option maxHeartbeats 4000000 in
theorem EX1_readFrom_L32 {l : Launch} {Ln : Nat} {xs : Nat → Int32} {d : Nat} (f : Nat) (k : Int32 → ev_M → Option (Int32 × ev_M)) (o0 : Nat)  (h_o0 : isK 1 o0)  (hk : ∀ (e3 : Int32) (em : ev_M), Ev ev_eI l Ln xs YX1_readFrom d Sx 64 [some (.ref o0), some (.ref 13), none, some (.int e3)] [] em (k e3 em)) (hd : 74 ≤ d) : ∀ (n : Nat) (a3 : Int32) (m : ev_M), Ev ev_eI l Ln xs YX1_readFrom d Sx 32 [some (.ref o0), some (.ref 13), some (.ref 15), some (.int a3)] [] m (FX1_readFrom_L32 f k o0 n a3 m) := by
  intro n
  induction n with
  | zero => intros; exact Ev.nn
  | succ n ih =>
    intro a3 m
    rw [FX1_readFrom_L32]
    refine Ev.run (pc' := 35) (ls' := [some (.ref o0), some (.ref 13), some (.ref 15), some (.int a3)]) (st' := [.int 60, .int a3]) (m' := m) [(.iload_n 3, 0, 0, 0, 0), (.bipush 60, 0, 0, 60, 0)] (by decide +kernel) rfl ?_
    refine Ev.ic_ge (t := 64) (by decide +kernel) ?_ ?_
    · refine Ev.le (ls' := [some (.ref o0), some (.ref 13), none, some (.int a3)]) ⟨rfl, ⟨rfl, ⟨rfl, trivial⟩⟩⟩ ?_
      exact hk _ _
    · refine Ev.run (pc' := 39) (ls' := [some (.ref o0), some (.ref 13), some (.ref 15), some (.int a3)]) (st' := [.ref 13]) (m' := m) [(.aload_n 1, 0, 0, 0, 0)] (by decide +kernel) rfl ?_
      refine Ev.cV (av := []) (st := []) (a := 13) (EX10_isGood (l := l) (Ln := Ln) (xs := xs) (d := 0) f m (by decide)) rfl (by decide +kernel) mwX10_isGood iwX10_isGood vwX10_isGood lk_1_81 (by omega) (by decide) rfl (by decide) rfl rfl (Nat.le_of_ble_eq_true rfl) (fun r11 m12 => ?_)
      refine Ev.if_eq (t := 64) (by decide +kernel) ?_ ?_
      · refine Ev.le (ls' := [some (.ref o0), some (.ref 13), none, some (.int a3)]) ⟨rfl, ⟨rfl, ⟨rfl, trivial⟩⟩⟩ ?_
        exact hk _ _
      · refine Ev.run (pc' := 46) (ls' := [some (.ref o0), some (.ref 13), some (.ref 15), some (.int a3)]) (st' := [.ref 13]) (m' := m12) [(.aload_n 1, 0, 0, 0, 0)] (by decide +kernel) rfl ?_
        refine Ev.cV (av := []) (st := []) (a := 13) (EX10_isEnd (l := l) (Ln := Ln) (xs := xs) (d := 0) f m12 (by decide)) rfl (by decide +kernel) mwX10_isEnd iwX10_isEnd vwX10_isEnd lk_1_85 (by omega) (by decide) rfl (by decide) rfl rfl (Nat.le_of_ble_eq_true rfl) (fun r13 m14 => ?_)
        refine Ev.if_ne (t := 64) (by decide +kernel) ?_ ?_
        · refine Ev.le (ls' := [some (.ref o0), some (.ref 13), none, some (.int a3)]) ⟨rfl, ⟨rfl, ⟨rfl, trivial⟩⟩⟩ ?_
          exact hk _ _
        · refine Ev.run (pc' := 55) (ls' := [some (.ref o0), some (.ref 13), some (.ref 15), some (.int a3)]) (st' := [.ref 15, .ref 13, .ref o0]) (m' := m14) [(.aload_n 0, 0, 0, 0, 0), (.aload_n 1, 0, 0, 0, 0), (.aload_n 2, 0, 0, 0, 0)] (by decide +kernel) rfl ?_
          refine Ev.cV (av := [.ref 13, .ref 15]) (st := []) (a := o0) (EX1_readStatement (l := l) (Ln := Ln) (xs := xs) (d := 73) f o0 m14 h_o0 (by decide)) rfl (by decide +kernel) mwX1_readStatement iwX1_readStatement vwX1_readStatement lk_1_88 (by omega) (k1_l0 h_o0) (by rw [(k1_s0 h_o0)]) (by decide) rfl rfl (Nat.le_of_ble_eq_true rfl) (fun r15 m16 => ?_)
          refine Ev.run (pc' := 61) (ls' := [some (.ref o0), some (.ref 13), some (.ref 15), some (.int (a3 + 1))]) (st' := []) (m' := m16) [(.iinc 3 1, 0, 0, 1, 0)] (by decide +kernel) rfl ?_
          refine Ev.gto (t := 32) (by decide +kernel) ?_
          exact ih _ _
set_option maxRecDepth 100000 in
set_option maxHeartbeats 4000000 in
theorem EX1_readFrom_J80 {l : Launch} {Ln : Nat} {xs : Nat → Int32} {d : Nat} (f : Nat)  (o0 : Nat) (a3 : Int32)  (m : ev_M) (h_o0 : isK 1 o0)  (hd : 74 ≤ d) : Ev ev_eI l Ln xs YX1_readFrom d Sx 80 [some (.ref o0), some (.ref 13), none, some (.int a3)] [] m (FX1_readFrom_J80 f o0 a3 m) := by
  unfold FX1_readFrom_J80
  refine Ev.run (pc' := 81) (ls' := [some (.ref o0), some (.ref 13), none, some (.int a3)]) (st' := [.ref o0]) (m' := m) [(.aload_n 0, 0, 0, 0, 0)] (by decide +kernel) rfl ?_
  refine Ev.cV (av := []) (st := []) (a := o0) (EX1_addUntoldSums (l := l) (Ln := Ln) (xs := xs) (d := 1) f o0 m h_o0 (by decide)) rfl (by decide +kernel) mwX1_addUntoldSums iwX1_addUntoldSums vwX1_addUntoldSums lk_1_99 (by omega) (k1_l0 h_o0) (by rw [(k1_s0 h_o0)]) (by decide) rfl rfl (Nat.le_of_ble_eq_true rfl) (fun r21 m22 => ?_)
  refine Ev.run (pc' := 86) (ls' := [some (.ref o0), some (.ref 13), none, some (.int a3)]) (st' := [.int a3, .ref o0]) (m' := m22) [(.aload_n 0, 0, 0, 0, 0), (.iload_n 3, 0, 0, 0, 0)] (by decide +kernel) rfl ?_
  refine Ev.putI (ci := 1) (k := 4) (idx := 28) (by decide +kernel) (by decide +kernel) (by decide +kernel) (k1_l0 h_o0) (by rw [(k1_s0 h_o0)]) (by rw [(k1_s0 h_o0)]; decide) rfl rfl ?_
  refine Ev.run (pc' := 90) (ls' := [some (.ref o0), some (.ref 13), none, some (.int a3)]) (st' := [.ref 13]) (m' := ((ev_up m22.1 o0 4 a3), m22.2)) [(.aload_n 1, 0, 0, 0, 0)] (by decide +kernel) rfl ?_
  refine Ev.cV (av := []) (st := []) (a := 13) (EX10_isGood (l := l) (Ln := Ln) (xs := xs) (d := 0) f ((ev_up m22.1 o0 4 a3), m22.2) (by decide)) rfl (by decide +kernel) mwX10_isGood iwX10_isGood vwX10_isGood lk_1_81 (by omega) (by decide) rfl (by decide) rfl rfl (Nat.le_of_ble_eq_true rfl) (fun r23 m24 => ?_)
  exact Ev.iretb rfl rfl (by decide +kernel)
set_option maxRecDepth 100000 in
set_option maxHeartbeats 4000000 in
theorem EX1_readFrom_J64 {l : Launch} {Ln : Nat} {xs : Nat → Int32} {d : Nat} (f : Nat)  (o0 : Nat) (a3 : Int32)  (m : ev_M) (h_o0 : isK 1 o0)  (hd : 74 ≤ d) : Ev ev_eI l Ln xs YX1_readFrom d Sx 64 [some (.ref o0), some (.ref 13), none, some (.int a3)] [] m (FX1_readFrom_J64 f o0 a3 m) := by
  unfold FX1_readFrom_J64
  refine Ev.run (pc' := 65) (ls' := [some (.ref o0), some (.ref 13), none, some (.int a3)]) (st' := [.ref 13]) (m' := m) [(.aload_n 1, 0, 0, 0, 0)] (by decide +kernel) rfl ?_
  refine Ev.cV (av := []) (st := []) (a := 13) (EX10_isEnd (l := l) (Ln := Ln) (xs := xs) (d := 0) f m (by decide)) rfl (by decide +kernel) mwX10_isEnd iwX10_isEnd vwX10_isEnd lk_1_85 (by omega) (by decide) rfl (by decide) rfl rfl (Nat.le_of_ble_eq_true rfl) (fun r19 m20 => ?_)
  refine Ev.if_ne (t := 80) (by decide +kernel) ?_ ?_
  · exact EX1_readFrom_J80 f o0 a3 m20 h_o0 (by omega)
  · refine Ev.run (pc' := 77) (ls' := [some (.ref o0), some (.ref 13), none, some (.int a3)]) (st' := [.int (m20.1 13 2), .int 5, .ref 13]) (m' := m20) [(.aload_n 1, 0, 0, 0, 0), (.iconst 5, 0, 0, 5, 0), (.aload_n 1, 0, 0, 0, 0), (.getfield 92, 10, 2, 0, 0)] (by decide +kernel) rfl ?_
    refine Ev.cV (av := [.int 5, .int (m20.1 13 2)]) (st := []) (a := 13) (EX10_fail (l := l) (Ln := Ln) (xs := xs) (d := 0) f (5 : Int32) (m20.1 13 2) m20 (by decide)) rfl (by decide +kernel) mwX10_fail iwX10_fail vwX10_fail lk_1_95 (by omega) (by decide) rfl (by decide) rfl rfl (Nat.le_of_ble_eq_true rfl) (fun r25 m26 => ?_)
    exact EX1_readFrom_J80 f o0 a3 m26 h_o0 (by omega)
set_option maxRecDepth 100000 in
set_option maxHeartbeats 4000000 in
theorem EX1_readFrom {l : Launch} {Ln : Nat} {xs : Nat → Int32} {d : Nat} (f : Nat) (o0 : Nat) (m : ev_M) (h_o0 : isK 1 o0) (hd : 74 ≤ d) : Mv ev_eI l Ln xs YX1_readFrom d Sx [.ref o0, .ref 13, .ref 15] m (FX1_readFrom f o0 m) := by
  refine Mv.of (by decide +kernel) rfl (Nat.le_of_ble_eq_true rfl) (Ev.le (ls' := [some (.ref o0), some (.ref 13), some (.ref 15), none]) ⟨rfl, ⟨rfl, ⟨rfl, trivial⟩⟩⟩ ?_)
  unfold FX1_readFrom
  refine Ev.run (pc' := 1) (ls' := [some (.ref o0), some (.ref 13), some (.ref 15), none]) (st' := [.ref o0]) (m' := m) [(.aload_n 0, 0, 0, 0, 0)] (by decide +kernel) rfl ?_
  refine Ev.cV (av := []) (st := []) (a := o0) (EX1_clear (l := l) (Ln := Ln) (xs := xs) (d := 0) f o0 m h_o0 (by decide)) rfl (by decide +kernel) mwX1_clear iwX1_clear vwX1_clear lk_1_62 (by omega) (k1_l0 h_o0) (by rw [(k1_s0 h_o0)]) (by decide) rfl rfl (Nat.le_of_ble_eq_true rfl) (fun r1 m2 => ?_)
  refine Ev.run (pc' := 5) (ls' := [some (.ref o0), some (.ref 13), some (.ref 15), none]) (st' := [.ref 13]) (m' := m2) [(.aload_n 1, 0, 0, 0, 0)] (by decide +kernel) rfl ?_
  refine Ev.cV (av := []) (st := []) (a := 13) (EX10_begin (l := l) (Ln := Ln) (xs := xs) (d := 6) f m2 (by decide)) rfl (by decide +kernel) mwX10_begin iwX10_begin vwX10_begin lk_1_65 (by omega) (by decide) rfl (by decide) rfl rfl (Nat.le_of_ble_eq_true rfl) (fun r3 m4 => ?_)
  refine Ev.run (pc' := 10) (ls' := [some (.ref o0), some (.ref 13), some (.ref 15), none]) (st' := [.int 0, .ref 13]) (m' := m4) [(.aload_n 1, 0, 0, 0, 0), (.iconst 0, 0, 0, 0, 0)] (by decide +kernel) rfl ?_
  refine Ev.cV (av := [.int 0]) (st := []) (a := 13) (EX10_takeWord (l := l) (Ln := Ln) (xs := xs) (d := 6) f (0 : Int32) m4 (by decide)) rfl (by decide +kernel) mwX10_takeWord iwX10_takeWord vwX10_takeWord lk_1_70 (by omega) (by decide) rfl (by decide) rfl rfl (Nat.le_of_ble_eq_true rfl) (fun r5 m6 => ?_)
  refine Ev.run (pc' := 18) (ls' := [some (.ref o0), some (.ref 13), some (.ref 15), none]) (st' := [.int 9, .int 0, .ref 13, .ref o0]) (m' := m6) [(.aload_n 0, 0, 0, 0, 0), (.aload_n 1, 0, 0, 0, 0), (.iconst 0, 0, 0, 0, 0), (.bipush 9, 0, 0, 9, 0)] (by decide +kernel) rfl ?_
  refine Ev.cV (av := [.int 0, .int 9]) (st := [.ref o0]) (a := 13) (EX10_takeNumber (l := l) (Ln := Ln) (xs := xs) (d := 6) f (0 : Int32) (9 : Int32) m6 (by decide)) rfl (by decide +kernel) mwX10_takeNumber iwX10_takeNumber vwX10_takeNumber lk_1_74 (by omega) (by decide) rfl (by decide) rfl rfl (Nat.le_of_ble_eq_true rfl) (fun r7 m8 => ?_)
  refine Ev.putI (ci := 1) (k := 7) (idx := 38) (by decide +kernel) (by decide +kernel) (by decide +kernel) (k1_l0 h_o0) (by rw [(k1_s0 h_o0)]) (by rw [(k1_s0 h_o0)]; decide) rfl rfl ?_
  refine Ev.run (pc' := 27) (ls' := [some (.ref o0), some (.ref 13), some (.ref 15), none]) (st' := [.int 59, .ref 13]) (m' := ((ev_up m8.1 o0 7 r7), m8.2)) [(.aload_n 1, 0, 0, 0, 0), (.bipush 59, 0, 0, 59, 0)] (by decide +kernel) rfl ?_
  refine Ev.cV (av := [.int 59]) (st := []) (a := 13) (EX10_takeSign (l := l) (Ln := Ln) (xs := xs) (d := 6) f (59 : Int32) ((ev_up m8.1 o0 7 r7), m8.2) (by decide)) rfl (by decide +kernel) mwX10_takeSign iwX10_takeSign vwX10_takeSign lk_1_78 (by omega) (by decide) rfl (by decide) rfl rfl (Nat.le_of_ble_eq_true rfl) (fun r9 m10 => ?_)
  refine Ev.run (pc' := 32) (ls' := [some (.ref o0), some (.ref 13), some (.ref 15), some (.int 1)]) (st' := []) (m' := m10) [(.iconst 1, 0, 0, 1, 0), (.istore_n 3, 0, 0, 0, 0)] (by decide +kernel) rfl ?_
  refine EX1_readFrom_L32 f _ o0 h_o0 ?_ (by omega) _ _ _
  intro e17 m18
  exact EX1_readFrom_J64 f o0 e17 m18 h_o0 (by omega)
def FX11_castle (f : Nat)  (m : ev_M) : Option (Int32 × ev_M) :=
  (if isK 1 ((m.1 0 1)).toNatClampNeg then (ev_bd (FX1_readFrom f ((m.1 0 1)).toNatClampNeg m) (fun r2 m3 => (ev_bd (FX11_noteFault f m3) (fun _ m5 => (if r2 = 0 then (ev_bd (FX11_refuse f (1 : Int32) ((ev_up m5.1 13 1 0), m5.2)) (fun r12 m13 => some ((-1), m13))) else (if isK 1 ((m5.1 0 0)).toNatClampNeg then (if isK 1 ((m5.1 0 1)).toNatClampNeg then (if isK 1 ((Int32.ofNat ((m5.1 0 1)).toNatClampNeg)).toNatClampNeg then (ev_bd (FX8_begin f 103 ((Int32.ofNat ((m5.1 0 1)).toNatClampNeg)).toNatClampNeg ((ev_up (ev_up (ev_up (ev_up m5.1 13 1 0) 0 0 (Int32.ofNat ((m5.1 0 1)).toNatClampNeg)) 0 1 (Int32.ofNat ((m5.1 0 0)).toNatClampNeg)) 16 2 (Int32.ofNat ((Int32.ofNat ((m5.1 0 1)).toNatClampNeg)).toNatClampNeg)), m5.2)) (fun _ m10 => (if isK 1 ((m10.1 0 0)).toNatClampNeg then some (((ev_up (ev_up m10.1 40 3 0) 33 6 0) ((m10.1 0 0)).toNatClampNeg 4), ((ev_up (ev_up m10.1 40 3 0) 33 6 0), m10.2)) else none))) else none) else none) else none)))))) else none)
set_option maxRecDepth 100000 in
set_option maxHeartbeats 4000000 in
theorem EX11_castle {l : Launch} {Ln : Nat} {xs : Nat → Int32} {d : Nat} (f : Nat)  (m : ev_M)  (hd : 75 ≤ d) : Mv ev_eI l Ln xs YX11_castle d Sx [.ref 0] m (FX11_castle f  m) := by
  refine Mv.of (by decide +kernel) rfl (Nat.le_of_ble_eq_true rfl) (Ev.le (ls' := [some (.ref 0), none, none]) ⟨rfl, trivial⟩ ?_)
  unfold FX11_castle
  refine Ev.run (pc' := 1) (ls' := [some (.ref 0), none, none]) (st' := [.ref 0]) (m' := m) [(.aload_n 0, 0, 0, 0, 0)] (by decide +kernel) rfl ?_
  refine Ev.ite (fun h1 => ?_) (fun _ => Ev.nn)
  refine Ev.getS (v := .ref ((m.1 0 1)).toNatClampNeg) (ci := 11) (k := 1) (idx := 16) (by decide +kernel) (by decide +kernel) (by decide) (by rw [show Sx.2.1 0 = (11, 18) from rfl]) (by rw [show Sx.2.1 0 = (11, 18) from rfl]; decide) (ev_gv_dyn1 rfl (Nat.pos_iff_ne_zero.mp (k1_z0 h1))) ?_
  refine Ev.run (pc' := 12) (ls' := [some (.ref 0), none, none]) (st' := [.ref 15, .ref 13, .ref ((m.1 0 1)).toNatClampNeg]) (m' := m) [(.aload_n 0, 0, 0, 0, 0), (.getfield 22, 11, 2, 0, 0), (.aload_n 0, 0, 0, 0, 0), (.getfield 31, 11, 3, 0, 0)] (by decide +kernel) rfl ?_
  refine Ev.cV (av := [.ref 13, .ref 15]) (st := []) (a := ((m.1 0 1)).toNatClampNeg) (EX1_readFrom (l := l) (Ln := Ln) (xs := xs) (d := 74) f ((m.1 0 1)).toNatClampNeg m h1 (by decide)) rfl (by decide +kernel) mwX1_readFrom iwX1_readFrom vwX1_readFrom lk_11_125 (by omega) (k1_l0 h1) (by rw [(k1_s0 h1)]) (by decide) rfl rfl (Nat.le_of_ble_eq_true rfl) (fun r2 m3 => ?_)
  refine Ev.run (pc' := 17) (ls' := [some (.ref 0), some (.int r2), none]) (st' := [.ref 0]) (m' := m3) [(.istore_n 1, 0, 0, 0, 0), (.aload_n 0, 0, 0, 0, 0)] (by decide +kernel) rfl ?_
  refine Ev.cV (av := []) (st := []) (a := 0) (EX11_noteFault (l := l) (Ln := Ln) (xs := xs) (d := 0) f m3 (by decide)) rfl (by decide +kernel) mwX11_noteFault iwX11_noteFault vwX11_noteFault lk_11_129 (by omega) (by decide) rfl (by decide) rfl rfl (Nat.le_of_ble_eq_true rfl) (fun r4 m5 => ?_)
  refine Ev.run (pc' := 29) (ls' := [some (.ref 0), some (.int r2), none]) (st' := [.int r2]) (m' := ((ev_up m5.1 13 1 0), m5.2)) [(.aload_n 0, 0, 0, 0, 0), (.getfield 22, 11, 2, 0, 0), (.iconst 0, 0, 0, 0, 0), (.putfield 122, 10, 1, 0, 0), (.iload_n 1, 0, 0, 0, 0)] (by decide +kernel) rfl ?_
  refine Ev.if_ne (t := 40) (by decide +kernel) ?_ ?_
  · refine Ev.run (pc' := 41) (ls' := [some (.ref 0), some (.int r2), none]) (st' := [.ref 0]) (m' := ((ev_up m5.1 13 1 0), m5.2)) [(.aload_n 0, 0, 0, 0, 0)] (by decide +kernel) rfl ?_
    refine Ev.ite (fun h6 => ?_) (fun _ => Ev.nn)
    refine Ev.getS (v := .ref ((m5.1 0 0)).toNatClampNeg) (ci := 11) (k := 0) (idx := 10) (by decide +kernel) (by decide +kernel) (by decide) (by rw [show Sx.2.1 0 = (11, 18) from rfl]) (by rw [show Sx.2.1 0 = (11, 18) from rfl]; decide) (ev_gv_dyn1 rfl (Nat.pos_iff_ne_zero.mp (k1_z0 h6))) ?_
    refine Ev.run (pc' := 47) (ls' := [some (.ref 0), some (.int r2), some (.ref ((m5.1 0 0)).toNatClampNeg)]) (st' := [.ref 0, .ref 0]) (m' := ((ev_up m5.1 13 1 0), m5.2)) [(.astore_n 2, 0, 0, 0, 0), (.aload_n 0, 0, 0, 0, 0), (.aload_n 0, 0, 0, 0, 0)] (by decide +kernel) rfl ?_
    refine Ev.ite (fun h7 => ?_) (fun _ => Ev.nn)
    refine Ev.getS (v := .ref ((m5.1 0 1)).toNatClampNeg) (ci := 11) (k := 1) (idx := 16) (by decide +kernel) (by decide +kernel) (by decide) (by rw [show Sx.2.1 0 = (11, 18) from rfl]) (by rw [show Sx.2.1 0 = (11, 18) from rfl]; decide) (ev_gv_dyn1 rfl (Nat.pos_iff_ne_zero.mp (k1_z0 h7))) ?_
    refine Ev.putD (ci := 11) (k := 0) (idx := 10) (by decide +kernel) (by decide +kernel) (by decide +kernel) (by decide) (by rw [show Sx.2.1 0 = (11, 18) from rfl]) (by rw [show Sx.2.1 0 = (11, 18) from rfl]; decide) rfl (k1_z0 h7) (k1_z1 h7) ?_
    refine Ev.run (pc' := 55) (ls' := [some (.ref 0), some (.int r2), some (.ref ((m5.1 0 0)).toNatClampNeg)]) (st' := [.ref ((m5.1 0 0)).toNatClampNeg, .ref 0]) (m' := ((ev_up (ev_up m5.1 13 1 0) 0 0 (Int32.ofNat ((m5.1 0 1)).toNatClampNeg)), m5.2)) [(.aload_n 0, 0, 0, 0, 0), (.aload_n 2, 0, 0, 0, 0)] (by decide +kernel) rfl ?_
    refine Ev.putD (ci := 11) (k := 1) (idx := 16) (by decide +kernel) (by decide +kernel) (by decide +kernel) (by decide) (by rw [show Sx.2.1 0 = (11, 18) from rfl]) (by rw [show Sx.2.1 0 = (11, 18) from rfl]; decide) rfl (k1_z0 h6) (k1_z1 h6) ?_
    refine Ev.run (pc' := 63) (ls' := [some (.ref 0), some (.int r2), some (.ref ((m5.1 0 0)).toNatClampNeg)]) (st' := [.ref 0, .ref 16]) (m' := ((ev_up (ev_up (ev_up m5.1 13 1 0) 0 0 (Int32.ofNat ((m5.1 0 1)).toNatClampNeg)) 0 1 (Int32.ofNat ((m5.1 0 0)).toNatClampNeg)), m5.2)) [(.aload_n 0, 0, 0, 0, 0), (.getfield 40, 11, 4, 0, 0), (.aload_n 0, 0, 0, 0, 0)] (by decide +kernel) rfl ?_
    refine Ev.ite (fun h8 => ?_) (fun _ => Ev.nn)
    refine Ev.getS (v := .ref ((Int32.ofNat ((m5.1 0 1)).toNatClampNeg)).toNatClampNeg) (ci := 11) (k := 0) (idx := 10) (by decide +kernel) (by decide +kernel) (by decide) (by rw [show Sx.2.1 0 = (11, 18) from rfl]) (by rw [show Sx.2.1 0 = (11, 18) from rfl]; decide) (ev_gv_dyn1 rfl (Nat.pos_iff_ne_zero.mp (k1_z0 h8))) ?_
    refine Ev.putD (ci := 3) (k := 2) (idx := 132) (by decide +kernel) (by decide +kernel) (by decide +kernel) (by decide) (by rw [show Sx.2.1 16 = (3, 4) from rfl]) (by rw [show Sx.2.1 16 = (3, 4) from rfl]; decide) rfl (k1_z0 h8) (k1_z1 h8) ?_
    refine Ev.run (pc' := 74) (ls' := [some (.ref 0), some (.int r2), some (.ref ((m5.1 0 0)).toNatClampNeg)]) (st' := [.ref 0, .ref 103]) (m' := ((ev_up (ev_up (ev_up (ev_up m5.1 13 1 0) 0 0 (Int32.ofNat ((m5.1 0 1)).toNatClampNeg)) 0 1 (Int32.ofNat ((m5.1 0 0)).toNatClampNeg)) 16 2 (Int32.ofNat ((Int32.ofNat ((m5.1 0 1)).toNatClampNeg)).toNatClampNeg)), m5.2)) [(.aload_n 0, 0, 0, 0, 0), (.getfield 79, 11, 9, 0, 0), (.aload_n 0, 0, 0, 0, 0)] (by decide +kernel) rfl ?_
    refine Ev.getS (v := .ref ((Int32.ofNat ((m5.1 0 1)).toNatClampNeg)).toNatClampNeg) (ci := 11) (k := 0) (idx := 10) (by decide +kernel) (by decide +kernel) (by decide) (by rw [show Sx.2.1 0 = (11, 18) from rfl]) (by rw [show Sx.2.1 0 = (11, 18) from rfl]; decide) (ev_gv_dyn1 rfl (Nat.pos_iff_ne_zero.mp (k1_z0 h8))) ?_
    refine Ev.cV (av := [.ref ((Int32.ofNat ((m5.1 0 1)).toNatClampNeg)).toNatClampNeg]) (st := []) (a := 103) (EX8_begin (l := l) (Ln := Ln) (xs := xs) (d := 0) f 103 ((Int32.ofNat ((m5.1 0 1)).toNatClampNeg)).toNatClampNeg ((ev_up (ev_up (ev_up (ev_up m5.1 13 1 0) 0 0 (Int32.ofNat ((m5.1 0 1)).toNatClampNeg)) 0 1 (Int32.ofNat ((m5.1 0 0)).toNatClampNeg)) 16 2 (Int32.ofNat ((Int32.ofNat ((m5.1 0 1)).toNatClampNeg)).toNatClampNeg)), m5.2) (by decide) h8 (by decide)) rfl (by decide +kernel) mwX8_begin iwX8_begin vwX8_begin lk_11_135 (by omega) (by decide) rfl (by decide) rfl rfl (Nat.le_of_ble_eq_true rfl) (fun r9 m10 => ?_)
    refine Ev.run (pc' := 97) (ls' := [some (.ref 0), some (.int r2), some (.ref ((m5.1 0 0)).toNatClampNeg)]) (st' := [.ref 0]) (m' := ((ev_up (ev_up m10.1 40 3 0) 33 6 0), m10.2)) [(.aload_n 0, 0, 0, 0, 0), (.getfield 72, 11, 8, 0, 0), (.iconst 0, 0, 0, 0, 0), (.putfield 138, 6, 3, 0, 0), (.aload_n 0, 0, 0, 0, 0), (.getfield 65, 11, 7, 0, 0), (.iconst 0, 0, 0, 0, 0), (.putfield 141, 4, 6, 0, 0), (.aload_n 0, 0, 0, 0, 0)] (by decide +kernel) rfl ?_
    refine Ev.ite (fun h11 => ?_) (fun _ => Ev.nn)
    refine Ev.getS (v := .ref ((m10.1 0 0)).toNatClampNeg) (ci := 11) (k := 0) (idx := 10) (by decide +kernel) (by decide +kernel) (by decide) (by rw [show Sx.2.1 0 = (11, 18) from rfl]) (by rw [show Sx.2.1 0 = (11, 18) from rfl]; decide) (ev_gv_dyn1 rfl (Nat.pos_iff_ne_zero.mp (k1_z0 h11))) ?_
    refine Ev.getS (v := .int ((ev_up (ev_up m10.1 40 3 0) 33 6 0) ((m10.1 0 0)).toNatClampNeg 4)) (ci := 1) (k := 4) (idx := 144) (by decide +kernel) (by decide +kernel) (k1_l0 h11) (by rw [(k1_s0 h11)]) (by rw [(k1_s0 h11)]; decide) rfl ?_
    exact Ev.ireti rfl rfl (by decide +kernel)
  · refine Ev.run (pc' := 34) (ls' := [some (.ref 0), some (.int r2), none]) (st' := [.int 1, .ref 0]) (m' := ((ev_up m5.1 13 1 0), m5.2)) [(.aload_n 0, 0, 0, 0, 0), (.iconst 1, 0, 0, 1, 0)] (by decide +kernel) rfl ?_
    refine Ev.cV (av := [.int 1]) (st := []) (a := 0) (EX11_refuse (l := l) (Ln := Ln) (xs := xs) (d := 0) f (1 : Int32) ((ev_up m5.1 13 1 0), m5.2) (by decide)) rfl (by decide +kernel) mwX11_refuse iwX11_refuse vwX11_refuse lk_11_115 (by omega) (by decide) rfl (by decide) rfl rfl (Nat.le_of_ble_eq_true rfl) (fun r12 m13 => ?_)
    refine Ev.run (pc' := 39) (ls' := [some (.ref 0), some (.int r2), none]) (st' := [.int (-1)]) (m' := m13) [(.pop, 0, 0, 0, 0), (.iconst (-1), 0, 0, (-1), 0)] (by decide +kernel) rfl ?_
    exact Ev.ireti rfl rfl (by decide +kernel)
def HRB (l : Launch) (Ln : Nat) (xs : Nat → Int32) (dr : Nat) (rc : Nat → Int32 → ev_M → Option (Unit × ev_M)) : Prop := (∀ m : ev_M, Mv ev_eV l Ln xs YX7_readTest dr Sx [.ref 22] m (rc 0 0 m)) ∧ (∀ m : ev_M, Mv ev_eV l Ln xs YX7_readBoth dr Sx [.ref 22] m (rc 1 0 m)) ∧ (∀ m : ev_M, Mv ev_eV l Ln xs YX7_readFact dr Sx [.ref 22] m (rc 2 0 m))
def FX7_readTest_L6 (f : Nat) (rc : Nat → Int32 → ev_M → Option (Unit × ev_M)) (k : ev_M → Option (Unit × ev_M))   : Nat → Int32 → ev_M → Option (Unit × ev_M)
  | 0, _, _ => none
  | n + 1, a1, m => (if 1600 ≤ a1 then (k m) else (ev_bd (FX10_isWord f (17 : Int32) m) (fun r3 m4 => (if r3 = 0 then (k m4) else (ev_bd (FX10_advance f m4) (fun _ m6 => (ev_bd (rc 1 (0 : Int32) m6) (fun _ m8 => (ev_bd (FX2_add f 23 (-11 : Int32) m8) (fun _ m10 => (FX7_readTest_L6 f rc k n (a1 + 1) m10)))))))))))
def FX7_readTestB (f : Nat) (rc : Nat → Int32 → ev_M → Option (Unit × ev_M))  (m : ev_M) : Option (Unit × ev_M) :=
  (ev_bd (rc 1 (0 : Int32) m) (fun _ m2 => (FX7_readTest_L6 f rc (fun m11 => some ((), m11)) f (0 : Int32) m2)))
set_option maxRecDepth 100000 in
set_option maxHeartbeats 4000000 in
theorem EX7_readTest_L6 {l : Launch} {Ln : Nat} {xs : Nat → Int32} {d : Nat} (f : Nat) (rc : Nat → Int32 → ev_M → Option (Unit × ev_M)) {dr : Nat} (hr : HRB l Ln xs dr rc) (hdr : dr + 1 ≤ d) (k : ev_M → Option (Unit × ev_M))     (hk : ∀  (em : ev_M), Ev ev_eV l Ln xs YX7_readTest d Sx 51 [none, none] [] em (k em)) (hd : 6 ≤ d) : ∀ (n : Nat) (a1 : Int32) (m : ev_M), Ev ev_eV l Ln xs YX7_readTest d Sx 6 [some (.ref 22), some (.int a1)] [] m (FX7_readTest_L6 f rc k n a1 m) := by
  intro n
  induction n with
  | zero => intros; exact Ev.nn
  | succ n ih =>
    intro a1 m
    rw [FX7_readTest_L6]
    refine Ev.run (pc' := 10) (ls' := [some (.ref 22), some (.int a1)]) (st' := [.int 1600, .int a1]) (m' := m) [(.iload_n 1, 0, 0, 0, 0), (.sipush 1600, 0, 0, 1600, 0)] (by decide +kernel) rfl ?_
    refine Ev.ic_ge (t := 51) (by decide +kernel) ?_ ?_
    · refine Ev.le (ls' := [none, none]) trivial ?_
      exact hk _
    · refine Ev.run (pc' := 19) (ls' := [some (.ref 22), some (.int a1)]) (st' := [.int 17, .ref 13]) (m' := m) [(.aload_n 0, 0, 0, 0, 0), (.getfield 33, 7, 0, 0, 0), (.bipush 17, 0, 0, 17, 0)] (by decide +kernel) rfl ?_
      refine Ev.cV (av := [.int 17]) (st := []) (a := 13) (EX10_isWord (l := l) (Ln := Ln) (xs := xs) (d := 0) f (17 : Int32) m (by decide)) rfl (by decide +kernel) mwX10_isWord iwX10_isWord vwX10_isWord lk_7_88 (by omega) (by decide) rfl (by decide) rfl rfl (Nat.le_of_ble_eq_true rfl) (fun r3 m4 => ?_)
      refine Ev.if_eq (t := 51) (by decide +kernel) ?_ ?_
      · refine Ev.le (ls' := [none, none]) trivial ?_
        exact hk _
      · refine Ev.run (pc' := 29) (ls' := [some (.ref 22), some (.int a1)]) (st' := [.ref 13]) (m' := m4) [(.aload_n 0, 0, 0, 0, 0), (.getfield 33, 7, 0, 0, 0)] (by decide +kernel) rfl ?_
        refine Ev.cV (av := []) (st := []) (a := 13) (EX10_advance (l := l) (Ln := Ln) (xs := xs) (d := 5) f m4 (by decide)) rfl (by decide +kernel) mwX10_advance iwX10_advance vwX10_advance lk_7_62 (by omega) (by decide) rfl (by decide) rfl rfl (Nat.le_of_ble_eq_true rfl) (fun r5 m6 => ?_)
        refine Ev.run (pc' := 33) (ls' := [some (.ref 22), some (.int a1)]) (st' := [.ref 22]) (m' := m6) [(.aload_n 0, 0, 0, 0, 0)] (by decide +kernel) rfl ?_
        refine Ev.cV (av := []) (st := []) (a := 22) (hr.2.1 m6) rfl (by decide +kernel) mwX7_readBoth iwX7_readBoth vwX7_readBoth lk_7_85 hdr (by decide) rfl (by decide) rfl rfl (Nat.le_of_ble_eq_true rfl) (fun r7 m8 => ?_)
        refine Ev.run (pc' := 42) (ls' := [some (.ref 22), some (.int a1)]) (st' := [.int (-11), .ref 23]) (m' := m8) [(.aload_n 0, 0, 0, 0, 0), (.getfield 12, 7, 3, 0, 0), (.bipush (-11), 0, 0, (-11), 0)] (by decide +kernel) rfl ?_
        refine Ev.cV (av := [.int (-11)]) (st := []) (a := 23) (EX2_add (l := l) (Ln := Ln) (xs := xs) (d := 0) f 23 (-11 : Int32) m8 (by decide) (by decide)) rfl (by decide +kernel) mwX2_add iwX2_add vwX2_add lk_7_92 (by omega) (by decide) rfl (by decide) rfl rfl (Nat.le_of_ble_eq_true rfl) (fun r9 m10 => ?_)
        refine Ev.run (pc' := 48) (ls' := [some (.ref 22), some (.int (a1 + 1))]) (st' := []) (m' := m10) [(.iinc 1 1, 0, 0, 1, 0)] (by decide +kernel) rfl ?_
        refine Ev.gto (t := 6) (by decide +kernel) ?_
        exact ih _ _
set_option maxRecDepth 100000 in
set_option maxHeartbeats 4000000 in
theorem EX7_readTestB {l : Launch} {Ln : Nat} {xs : Nat → Int32} {d : Nat} (f : Nat) (rc : Nat → Int32 → ev_M → Option (Unit × ev_M)) {dr : Nat} (hr : HRB l Ln xs dr rc) (hdr : dr + 1 ≤ d)  (m : ev_M)  (hd : 6 ≤ d) : Mv ev_eV l Ln xs YX7_readTest d Sx [.ref 22] m (FX7_readTestB f rc  m) := by
  refine Mv.of (by decide +kernel) rfl (Nat.le_of_ble_eq_true rfl) (Ev.le (ls' := [some (.ref 22), none]) ⟨rfl, trivial⟩ ?_)
  unfold FX7_readTestB
  refine Ev.run (pc' := 1) (ls' := [some (.ref 22), none]) (st' := [.ref 22]) (m' := m) [(.aload_n 0, 0, 0, 0, 0)] (by decide +kernel) rfl ?_
  refine Ev.cV (av := []) (st := []) (a := 22) (hr.2.1 m) rfl (by decide +kernel) mwX7_readBoth iwX7_readBoth vwX7_readBoth lk_7_85 hdr (by decide) rfl (by decide) rfl rfl (Nat.le_of_ble_eq_true rfl) (fun r1 m2 => ?_)
  refine Ev.run (pc' := 6) (ls' := [some (.ref 22), some (.int 0)]) (st' := []) (m' := m2) [(.iconst 0, 0, 0, 0, 0), (.istore_n 1, 0, 0, 0, 0)] (by decide +kernel) rfl ?_
  refine EX7_readTest_L6 f rc hr hdr _ ?_ (by omega) _ _ _
  intro m11
  exact Ev.retv rfl rfl (by decide +kernel)
def FX7_readBoth_L6 (f : Nat) (rc : Nat → Int32 → ev_M → Option (Unit × ev_M)) (k : ev_M → Option (Unit × ev_M))   : Nat → Int32 → ev_M → Option (Unit × ev_M)
  | 0, _, _ => none
  | n + 1, a1, m => (if 1600 ≤ a1 then (k m) else (ev_bd (FX10_isWord f (18 : Int32) m) (fun r3 m4 => (if r3 = 0 then (k m4) else (ev_bd (FX10_advance f m4) (fun _ m6 => (ev_bd (rc 2 (0 : Int32) m6) (fun _ m8 => (ev_bd (FX2_add f 23 (-10 : Int32) m8) (fun _ m10 => (FX7_readBoth_L6 f rc k n (a1 + 1) m10)))))))))))
def FX7_readBothB (f : Nat) (rc : Nat → Int32 → ev_M → Option (Unit × ev_M))  (m : ev_M) : Option (Unit × ev_M) :=
  (ev_bd (rc 2 (0 : Int32) m) (fun _ m2 => (FX7_readBoth_L6 f rc (fun m11 => some ((), m11)) f (0 : Int32) m2)))
set_option maxRecDepth 100000 in
set_option maxHeartbeats 4000000 in
theorem EX7_readBoth_L6 {l : Launch} {Ln : Nat} {xs : Nat → Int32} {d : Nat} (f : Nat) (rc : Nat → Int32 → ev_M → Option (Unit × ev_M)) {dr : Nat} (hr : HRB l Ln xs dr rc) (hdr : dr + 1 ≤ d) (k : ev_M → Option (Unit × ev_M))     (hk : ∀  (em : ev_M), Ev ev_eV l Ln xs YX7_readBoth d Sx 51 [none, none] [] em (k em)) (hd : 6 ≤ d) : ∀ (n : Nat) (a1 : Int32) (m : ev_M), Ev ev_eV l Ln xs YX7_readBoth d Sx 6 [some (.ref 22), some (.int a1)] [] m (FX7_readBoth_L6 f rc k n a1 m) := by
  intro n
  induction n with
  | zero => intros; exact Ev.nn
  | succ n ih =>
    intro a1 m
    rw [FX7_readBoth_L6]
    refine Ev.run (pc' := 10) (ls' := [some (.ref 22), some (.int a1)]) (st' := [.int 1600, .int a1]) (m' := m) [(.iload_n 1, 0, 0, 0, 0), (.sipush 1600, 0, 0, 1600, 0)] (by decide +kernel) rfl ?_
    refine Ev.ic_ge (t := 51) (by decide +kernel) ?_ ?_
    · refine Ev.le (ls' := [none, none]) trivial ?_
      exact hk _
    · refine Ev.run (pc' := 19) (ls' := [some (.ref 22), some (.int a1)]) (st' := [.int 18, .ref 13]) (m' := m) [(.aload_n 0, 0, 0, 0, 0), (.getfield 33, 7, 0, 0, 0), (.bipush 18, 0, 0, 18, 0)] (by decide +kernel) rfl ?_
      refine Ev.cV (av := [.int 18]) (st := []) (a := 13) (EX10_isWord (l := l) (Ln := Ln) (xs := xs) (d := 0) f (18 : Int32) m (by decide)) rfl (by decide +kernel) mwX10_isWord iwX10_isWord vwX10_isWord lk_7_88 (by omega) (by decide) rfl (by decide) rfl rfl (Nat.le_of_ble_eq_true rfl) (fun r3 m4 => ?_)
      refine Ev.if_eq (t := 51) (by decide +kernel) ?_ ?_
      · refine Ev.le (ls' := [none, none]) trivial ?_
        exact hk _
      · refine Ev.run (pc' := 29) (ls' := [some (.ref 22), some (.int a1)]) (st' := [.ref 13]) (m' := m4) [(.aload_n 0, 0, 0, 0, 0), (.getfield 33, 7, 0, 0, 0)] (by decide +kernel) rfl ?_
        refine Ev.cV (av := []) (st := []) (a := 13) (EX10_advance (l := l) (Ln := Ln) (xs := xs) (d := 5) f m4 (by decide)) rfl (by decide +kernel) mwX10_advance iwX10_advance vwX10_advance lk_7_62 (by omega) (by decide) rfl (by decide) rfl rfl (Nat.le_of_ble_eq_true rfl) (fun r5 m6 => ?_)
        refine Ev.run (pc' := 33) (ls' := [some (.ref 22), some (.int a1)]) (st' := [.ref 22]) (m' := m6) [(.aload_n 0, 0, 0, 0, 0)] (by decide +kernel) rfl ?_
        refine Ev.cV (av := []) (st := []) (a := 22) (hr.2.2 m6) rfl (by decide +kernel) mwX7_readFact iwX7_readFact vwX7_readFact lk_7_96 hdr (by decide) rfl (by decide) rfl rfl (Nat.le_of_ble_eq_true rfl) (fun r7 m8 => ?_)
        refine Ev.run (pc' := 42) (ls' := [some (.ref 22), some (.int a1)]) (st' := [.int (-10), .ref 23]) (m' := m8) [(.aload_n 0, 0, 0, 0, 0), (.getfield 12, 7, 3, 0, 0), (.bipush (-10), 0, 0, (-10), 0)] (by decide +kernel) rfl ?_
        refine Ev.cV (av := [.int (-10)]) (st := []) (a := 23) (EX2_add (l := l) (Ln := Ln) (xs := xs) (d := 0) f 23 (-10 : Int32) m8 (by decide) (by decide)) rfl (by decide +kernel) mwX2_add iwX2_add vwX2_add lk_7_92 (by omega) (by decide) rfl (by decide) rfl rfl (Nat.le_of_ble_eq_true rfl) (fun r9 m10 => ?_)
        refine Ev.run (pc' := 48) (ls' := [some (.ref 22), some (.int (a1 + 1))]) (st' := []) (m' := m10) [(.iinc 1 1, 0, 0, 1, 0)] (by decide +kernel) rfl ?_
        refine Ev.gto (t := 6) (by decide +kernel) ?_
        exact ih _ _
set_option maxRecDepth 100000 in
set_option maxHeartbeats 4000000 in
theorem EX7_readBothB {l : Launch} {Ln : Nat} {xs : Nat → Int32} {d : Nat} (f : Nat) (rc : Nat → Int32 → ev_M → Option (Unit × ev_M)) {dr : Nat} (hr : HRB l Ln xs dr rc) (hdr : dr + 1 ≤ d)  (m : ev_M)  (hd : 6 ≤ d) : Mv ev_eV l Ln xs YX7_readBoth d Sx [.ref 22] m (FX7_readBothB f rc  m) := by
  refine Mv.of (by decide +kernel) rfl (Nat.le_of_ble_eq_true rfl) (Ev.le (ls' := [some (.ref 22), none]) ⟨rfl, trivial⟩ ?_)
  unfold FX7_readBothB
  refine Ev.run (pc' := 1) (ls' := [some (.ref 22), none]) (st' := [.ref 22]) (m' := m) [(.aload_n 0, 0, 0, 0, 0)] (by decide +kernel) rfl ?_
  refine Ev.cV (av := []) (st := []) (a := 22) (hr.2.2 m) rfl (by decide +kernel) mwX7_readFact iwX7_readFact vwX7_readFact lk_7_96 hdr (by decide) rfl (by decide) rfl rfl (Nat.le_of_ble_eq_true rfl) (fun r1 m2 => ?_)
  refine Ev.run (pc' := 6) (ls' := [some (.ref 22), some (.int 0)]) (st' := []) (m' := m2) [(.iconst 0, 0, 0, 0, 0), (.istore_n 1, 0, 0, 0, 0)] (by decide +kernel) rfl ?_
  refine EX7_readBoth_L6 f rc hr hdr _ ?_ (by omega) _ _ _
  intro m11
  exact Ev.retv rfl rfl (by decide +kernel)
def FX7_readFactB (f : Nat) (rc : Nat → Int32 → ev_M → Option (Unit × ev_M))  (m : ev_M) : Option (Unit × ev_M) :=
  (ev_bd (FX10_isWord f (19 : Int32) m) (fun r1 m2 => (if r1 = 0 then (ev_bd (FX10_isSign f (91 : Int32) m2) (fun r3 m4 => (if r3 = 0 then (ev_bd (FX10_isWord f (20 : Int32) m4) (fun r5 m6 => (if r5 = 0 then (ev_bd (FX7_readComparison f m6) (fun _ m8 => some ((), m8))) else (ev_bd (FX10_advance f m6) (fun _ m10 => (ev_bd (FX2_add f 23 (1 : Int32) m10) (fun _ m12 => some ((), m12)))))))) else (ev_bd (FX9_opens f m4) (fun r13 m14 => (if r13 = 0 then some ((), m14) else (ev_bd (rc 0 (0 : Int32) m14) (fun _ m16 => (ev_bd (FX10_takeSign f (93 : Int32) m16) (fun _ m18 => (ev_bd (FX9_closes f m18) (fun _ m20 => some ((), m20))))))))))))) else (ev_bd (FX9_opens f m2) (fun r21 m22 => (if r21 = 0 then some ((), m22) else (ev_bd (rc 2 (0 : Int32) m22) (fun _ m24 => (ev_bd (FX9_closes f m24) (fun _ m26 => (ev_bd (FX2_add f 23 (-12 : Int32) m26) (fun _ m28 => some ((), m28)))))))))))))
set_option maxRecDepth 100000 in
set_option maxHeartbeats 4000000 in
theorem EX7_readFactB {l : Launch} {Ln : Nat} {xs : Nat → Int32} {d : Nat} (f : Nat) (rc : Nat → Int32 → ev_M → Option (Unit × ev_M)) {dr : Nat} (hr : HRB l Ln xs dr rc) (hdr : dr + 1 ≤ d)  (m : ev_M)  (hd : 73 ≤ d) : Mv ev_eV l Ln xs YX7_readFact d Sx [.ref 22] m (FX7_readFactB f rc  m) := by
  refine Mv.of (by decide +kernel) rfl (Nat.le_of_ble_eq_true rfl) (Ev.le (ls' := [some (.ref 22)]) ⟨rfl, trivial⟩ ?_)
  unfold FX7_readFactB
  refine Ev.run (pc' := 6) (ls' := [some (.ref 22)]) (st' := [.int 19, .ref 13]) (m' := m) [(.aload_n 0, 0, 0, 0, 0), (.getfield 33, 7, 0, 0, 0), (.bipush 19, 0, 0, 19, 0)] (by decide +kernel) rfl ?_
  refine Ev.cV (av := [.int 19]) (st := []) (a := 13) (EX10_isWord (l := l) (Ln := Ln) (xs := xs) (d := 0) f (19 : Int32) m (by decide)) rfl (by decide +kernel) mwX10_isWord iwX10_isWord vwX10_isWord lk_7_88 (by omega) (by decide) rfl (by decide) rfl rfl (Nat.le_of_ble_eq_true rfl) (fun r1 m2 => ?_)
  refine Ev.if_eq (t := 45) (by decide +kernel) ?_ ?_
  · refine Ev.run (pc' := 51) (ls' := [some (.ref 22)]) (st' := [.int 91, .ref 13]) (m' := m2) [(.aload_n 0, 0, 0, 0, 0), (.getfield 33, 7, 0, 0, 0), (.bipush 91, 0, 0, 91, 0)] (by decide +kernel) rfl ?_
    refine Ev.cV (av := [.int 91]) (st := []) (a := 13) (EX10_isSign (l := l) (Ln := Ln) (xs := xs) (d := 0) f (91 : Int32) m2 (by decide)) rfl (by decide +kernel) mwX10_isSign iwX10_isSign vwX10_isSign lk_7_105 (by omega) (by decide) rfl (by decide) rfl rfl (Nat.le_of_ble_eq_true rfl) (fun r3 m4 => ?_)
    refine Ev.if_eq (t := 90) (by decide +kernel) ?_ ?_
    · refine Ev.run (pc' := 96) (ls' := [some (.ref 22)]) (st' := [.int 20, .ref 13]) (m' := m4) [(.aload_n 0, 0, 0, 0, 0), (.getfield 33, 7, 0, 0, 0), (.bipush 20, 0, 0, 20, 0)] (by decide +kernel) rfl ?_
      refine Ev.cV (av := [.int 20]) (st := []) (a := 13) (EX10_isWord (l := l) (Ln := Ln) (xs := xs) (d := 0) f (20 : Int32) m4 (by decide)) rfl (by decide +kernel) mwX10_isWord iwX10_isWord vwX10_isWord lk_7_88 (by omega) (by decide) rfl (by decide) rfl rfl (Nat.le_of_ble_eq_true rfl) (fun r5 m6 => ?_)
      refine Ev.if_eq (t := 120) (by decide +kernel) ?_ ?_
      · refine Ev.run (pc' := 121) (ls' := [some (.ref 22)]) (st' := [.ref 22]) (m' := m6) [(.aload_n 0, 0, 0, 0, 0)] (by decide +kernel) rfl ?_
        refine Ev.cV (av := []) (st := []) (a := 22) (EX7_readComparison (l := l) (Ln := Ln) (xs := xs) (d := 72) f m6 (by decide)) rfl (by decide +kernel) mwX7_readComparison iwX7_readComparison vwX7_readComparison lk_7_111 (by omega) (by decide) rfl (by decide) rfl rfl (Nat.le_of_ble_eq_true rfl) (fun r7 m8 => ?_)
        exact Ev.retv rfl rfl (by decide +kernel)
      · refine Ev.run (pc' := 106) (ls' := [some (.ref 22)]) (st' := [.ref 13]) (m' := m6) [(.aload_n 0, 0, 0, 0, 0), (.getfield 33, 7, 0, 0, 0)] (by decide +kernel) rfl ?_
        refine Ev.cV (av := []) (st := []) (a := 13) (EX10_advance (l := l) (Ln := Ln) (xs := xs) (d := 5) f m6 (by decide)) rfl (by decide +kernel) mwX10_advance iwX10_advance vwX10_advance lk_7_62 (by omega) (by decide) rfl (by decide) rfl rfl (Nat.le_of_ble_eq_true rfl) (fun r9 m10 => ?_)
        refine Ev.run (pc' := 114) (ls' := [some (.ref 22)]) (st' := [.int 1, .ref 23]) (m' := m10) [(.aload_n 0, 0, 0, 0, 0), (.getfield 12, 7, 3, 0, 0), (.iconst 1, 0, 0, 1, 0)] (by decide +kernel) rfl ?_
        refine Ev.cV (av := [.int 1]) (st := []) (a := 23) (EX2_add (l := l) (Ln := Ln) (xs := xs) (d := 0) f 23 (1 : Int32) m10 (by decide) (by decide)) rfl (by decide +kernel) mwX2_add iwX2_add vwX2_add lk_7_92 (by omega) (by decide) rfl (by decide) rfl rfl (Nat.le_of_ble_eq_true rfl) (fun r11 m12 => ?_)
        refine Ev.gto (t := 124) (by decide +kernel) ?_
        exact Ev.retv rfl rfl (by decide +kernel)
    · refine Ev.run (pc' := 61) (ls' := [some (.ref 22)]) (st' := [.ref 15]) (m' := m4) [(.aload_n 0, 0, 0, 0, 0), (.getfield 37, 7, 1, 0, 0)] (by decide +kernel) rfl ?_
      refine Ev.cV (av := []) (st := []) (a := 15) (EX9_opens (l := l) (Ln := Ln) (xs := xs) (d := 6) f m4 (by decide)) rfl (by decide +kernel) mwX9_opens iwX9_opens vwX9_opens lk_7_99 (by omega) (by decide) rfl (by decide) rfl rfl (Nat.le_of_ble_eq_true rfl) (fun r13 m14 => ?_)
      refine Ev.if_eq (t := 124) (by decide +kernel) ?_ ?_
      · exact Ev.retv rfl rfl (by decide +kernel)
      · refine Ev.run (pc' := 68) (ls' := [some (.ref 22)]) (st' := [.ref 22]) (m' := m14) [(.aload_n 0, 0, 0, 0, 0)] (by decide +kernel) rfl ?_
        refine Ev.cV (av := []) (st := []) (a := 22) (hr.1 m14) rfl (by decide +kernel) mwX7_readTest iwX7_readTest vwX7_readTest lk_7_65 hdr (by decide) rfl (by decide) rfl rfl (Nat.le_of_ble_eq_true rfl) (fun r15 m16 => ?_)
        refine Ev.run (pc' := 77) (ls' := [some (.ref 22)]) (st' := [.int 93, .ref 13]) (m' := m16) [(.aload_n 0, 0, 0, 0, 0), (.getfield 33, 7, 0, 0, 0), (.bipush 93, 0, 0, 93, 0)] (by decide +kernel) rfl ?_
        refine Ev.cV (av := [.int 93]) (st := []) (a := 13) (EX10_takeSign (l := l) (Ln := Ln) (xs := xs) (d := 6) f (93 : Int32) m16 (by decide)) rfl (by decide +kernel) mwX10_takeSign iwX10_takeSign vwX10_takeSign lk_7_108 (by omega) (by decide) rfl (by decide) rfl rfl (Nat.le_of_ble_eq_true rfl) (fun r17 m18 => ?_)
        refine Ev.run (pc' := 84) (ls' := [some (.ref 22)]) (st' := [.ref 15]) (m' := m18) [(.aload_n 0, 0, 0, 0, 0), (.getfield 37, 7, 1, 0, 0)] (by decide +kernel) rfl ?_
        refine Ev.cV (av := []) (st := []) (a := 15) (EX9_closes (l := l) (Ln := Ln) (xs := xs) (d := 0) f m18 (by decide)) rfl (by decide +kernel) mwX9_closes iwX9_closes vwX9_closes lk_7_102 (by omega) (by decide) rfl (by decide) rfl rfl (Nat.le_of_ble_eq_true rfl) (fun r19 m20 => ?_)
        refine Ev.gto (t := 124) (by decide +kernel) ?_
        exact Ev.retv rfl rfl (by decide +kernel)
  · refine Ev.run (pc' := 16) (ls' := [some (.ref 22)]) (st' := [.ref 15]) (m' := m2) [(.aload_n 0, 0, 0, 0, 0), (.getfield 37, 7, 1, 0, 0)] (by decide +kernel) rfl ?_
    refine Ev.cV (av := []) (st := []) (a := 15) (EX9_opens (l := l) (Ln := Ln) (xs := xs) (d := 6) f m2 (by decide)) rfl (by decide +kernel) mwX9_opens iwX9_opens vwX9_opens lk_7_99 (by omega) (by decide) rfl (by decide) rfl rfl (Nat.le_of_ble_eq_true rfl) (fun r21 m22 => ?_)
    refine Ev.if_eq (t := 124) (by decide +kernel) ?_ ?_
    · exact Ev.retv rfl rfl (by decide +kernel)
    · refine Ev.run (pc' := 23) (ls' := [some (.ref 22)]) (st' := [.ref 22]) (m' := m22) [(.aload_n 0, 0, 0, 0, 0)] (by decide +kernel) rfl ?_
      refine Ev.cV (av := []) (st := []) (a := 22) (hr.2.2 m22) rfl (by decide +kernel) mwX7_readFact iwX7_readFact vwX7_readFact lk_7_96 hdr (by decide) rfl (by decide) rfl rfl (Nat.le_of_ble_eq_true rfl) (fun r23 m24 => ?_)
      refine Ev.run (pc' := 30) (ls' := [some (.ref 22)]) (st' := [.ref 15]) (m' := m24) [(.aload_n 0, 0, 0, 0, 0), (.getfield 37, 7, 1, 0, 0)] (by decide +kernel) rfl ?_
      refine Ev.cV (av := []) (st := []) (a := 15) (EX9_closes (l := l) (Ln := Ln) (xs := xs) (d := 0) f m24 (by decide)) rfl (by decide +kernel) mwX9_closes iwX9_closes vwX9_closes lk_7_102 (by omega) (by decide) rfl (by decide) rfl rfl (Nat.le_of_ble_eq_true rfl) (fun r25 m26 => ?_)
      refine Ev.run (pc' := 39) (ls' := [some (.ref 22)]) (st' := [.int (-12), .ref 23]) (m' := m26) [(.aload_n 0, 0, 0, 0, 0), (.getfield 12, 7, 3, 0, 0), (.bipush (-12), 0, 0, (-12), 0)] (by decide +kernel) rfl ?_
      refine Ev.cV (av := [.int (-12)]) (st := []) (a := 23) (EX2_add (l := l) (Ln := Ln) (xs := xs) (d := 0) f 23 (-12 : Int32) m26 (by decide) (by decide)) rfl (by decide +kernel) mwX2_add iwX2_add vwX2_add lk_7_92 (by omega) (by decide) rfl (by decide) rfl rfl (Nat.le_of_ble_eq_true rfl) (fun r27 m28 => ?_)
      refine Ev.gto (t := 124) (by decide +kernel) ?_
      exact Ev.retv rfl rfl (by decide +kernel)
def FGB (f : Nat) : Nat → Nat → Int32 → ev_M → Option (Unit × ev_M)
  | 0, _, _, _ => none
  | n + 1, 0, _, m => FX7_readTestB f (FGB f n) m
  | n + 1, 1, _, m => FX7_readBothB f (FGB f n) m
  | n + 1, _, _, m => FX7_readFactB f (FGB f n) m
set_option maxRecDepth 100000 in
theorem EGB {l : Launch} {Ln : Nat} {xs : Nat → Int32} (f : Nat) : ∀ (n d : Nat), 73 + n ≤ d → HRB l Ln xs d (FGB f n) := by
  intro n
  induction n with
  | zero => intro d _; exact ⟨(fun _ _ _ h => by cases h), (fun _ _ _ h => by cases h), (fun _ _ _ h => by cases h)⟩
  | succ n ih =>
    intro d
    cases d with
    | zero => intro h; exact absurd h (by omega)
    | succ d => intro h; exact ⟨(fun m => EX7_readTestB f (FGB f n) (ih d (by omega)) (by omega) m (by omega)), (fun m => EX7_readBothB f (FGB f n) (ih d (by omega)) (by omega) m (by omega)), (fun m => EX7_readFactB f (FGB f n) (ih d (by omega)) (by omega) m (by omega))⟩
def FX7_readTest (f : Nat) (m : ev_M) : Option (Unit × ev_M) := FGB f 64 0 0 m
theorem EX7_readTest {l : Launch} {Ln : Nat} {xs : Nat → Int32} {d : Nat} (f : Nat) (m : ev_M) (hd : 137 ≤ d) : Mv ev_eV l Ln xs YX7_readTest d Sx [.ref 22] m (FX7_readTest f m) := (EGB f 64 d (by omega)).1 m
def FX7_readBoth (f : Nat) (m : ev_M) : Option (Unit × ev_M) := FGB f 64 1 0 m
theorem EX7_readBoth {l : Launch} {Ln : Nat} {xs : Nat → Int32} {d : Nat} (f : Nat) (m : ev_M) (hd : 137 ≤ d) : Mv ev_eV l Ln xs YX7_readBoth d Sx [.ref 22] m (FX7_readBoth f m) := (EGB f 64 d (by omega)).2.1 m
def FX7_readFact (f : Nat) (m : ev_M) : Option (Unit × ev_M) := FGB f 64 2 0 m
theorem EX7_readFact {l : Launch} {Ln : Nat} {xs : Nat → Int32} {d : Nat} (f : Nat) (m : ev_M) (hd : 137 ≤ d) : Mv ev_eV l Ln xs YX7_readFact d Sx [.ref 22] m (FX7_readFact f m) := (EGB f 64 d (by omega)).2.2 m
def FX7_read_J151 (f : Nat)     (m : ev_M) : Option (Int32 × ev_M) :=
  (ev_bd (FX10_isGood f m) (fun r13 m14 => (if r13 = 0 ∨ r13 = 1 then some (r13, m14) else none)))
def FX7_read_J126 (f : Nat)     (m : ev_M) : Option (Int32 × ev_M) :=
  (ev_bd (FX10_isEnd f m) (fun r11 m12 => (if r11 = 0 then (ev_bd (FX10_fail f (1 : Int32) (m12.1 13 2) m12) (fun _ m16 => (FX7_read_J151 f m16))) else (FX7_read_J151 f m12))))
def FX7_read (f : Nat)  (m : ev_M) : Option (Int32 × ev_M) :=
  (ev_bd (FX10_begin f ((ev_up m.1 23 1 0), m.2)) (fun _ m2 => (ev_bd (FX9_begin f 23 (2 : Int32) m2) (fun _ m4 => (ev_bd (FX10_word f m4) (fun r5 m6 => (if r5 = 23 then (ev_bd (FX10_advance f ((ev_up m6.1 22 6 r5), m6.2)) (fun _ m8 => (ev_bd (FX7_readTest f m8) (fun _ m10 => (FX7_read_J126 f m10))))) else (if r5 = 24 then (ev_bd (FX10_advance f ((ev_up m6.1 22 6 r5), m6.2)) (fun _ m19 => (ev_bd (FX7_readTest f m19) (fun _ m21 => (FX7_read_J126 f m21))))) else (if r5 = 25 then (ev_bd (FX10_advance f ((ev_up m6.1 22 6 r5), m6.2)) (fun _ m24 => (ev_bd (FX7_readTest f m24) (fun _ m26 => (FX7_read_J126 f m26))))) else (if r5 = 26 then (ev_bd (FX10_advance f ((ev_up m6.1 22 6 r5), m6.2)) (fun _ m29 => (ev_bd (FX9_readSum f m29) (fun _ m31 => (FX7_read_J126 f m31))))) else (if r5 = 27 then (ev_bd (FX10_advance f ((ev_up m6.1 22 6 r5), m6.2)) (fun _ m34 => (ev_bd (FX9_readSum f m34) (fun _ m36 => (FX7_read_J126 f m36))))) else (if r5 = 28 then (ev_bd (FX10_advance f ((ev_up m6.1 22 6 r5), m6.2)) (fun _ m39 => (ev_bd (FX9_readSum f m39) (fun _ m41 => (FX7_read_J126 f m41))))) else (ev_bd (FX10_fail f (1 : Int32) (m6.1 13 2) ((ev_up m6.1 22 6 r5), m6.2)) (fun _ m44 => (FX7_read_J126 f m44)))))))))))))))
set_option maxRecDepth 100000 in
set_option maxHeartbeats 4000000 in
theorem EX7_read_J151 {l : Launch} {Ln : Nat} {xs : Nat → Int32} {d : Nat} (f : Nat)     (m : ev_M)   (hd : 138 ≤ d) : Ev ev_eI l Ln xs YX7_read d Sx 151 [some (.ref 22)] [] m (FX7_read_J151 f m) := by
  unfold FX7_read_J151
  refine Ev.run (pc' := 155) (ls' := [some (.ref 22)]) (st' := [.ref 13]) (m' := m) [(.aload_n 0, 0, 0, 0, 0), (.getfield 33, 7, 0, 0, 0)] (by decide +kernel) rfl ?_
  refine Ev.cV (av := []) (st := []) (a := 13) (EX10_isGood (l := l) (Ln := Ln) (xs := xs) (d := 0) f m (by decide)) rfl (by decide +kernel) mwX10_isGood iwX10_isGood vwX10_isGood lk_7_82 (by omega) (by decide) rfl (by decide) rfl rfl (Nat.le_of_ble_eq_true rfl) (fun r13 m14 => ?_)
  exact Ev.iretb rfl rfl (by decide +kernel)
set_option maxRecDepth 100000 in
set_option maxHeartbeats 4000000 in
theorem EX7_read_J126 {l : Launch} {Ln : Nat} {xs : Nat → Int32} {d : Nat} (f : Nat)     (m : ev_M)   (hd : 138 ≤ d) : Ev ev_eI l Ln xs YX7_read d Sx 126 [some (.ref 22)] [] m (FX7_read_J126 f m) := by
  unfold FX7_read_J126
  refine Ev.run (pc' := 130) (ls' := [some (.ref 22)]) (st' := [.ref 13]) (m' := m) [(.aload_n 0, 0, 0, 0, 0), (.getfield 33, 7, 0, 0, 0)] (by decide +kernel) rfl ?_
  refine Ev.cV (av := []) (st := []) (a := 13) (EX10_isEnd (l := l) (Ln := Ln) (xs := xs) (d := 0) f m (by decide)) rfl (by decide +kernel) mwX10_isEnd iwX10_isEnd vwX10_isEnd lk_7_78 (by omega) (by decide) rfl (by decide) rfl rfl (Nat.le_of_ble_eq_true rfl) (fun r11 m12 => ?_)
  refine Ev.if_ne (t := 151) (by decide +kernel) ?_ ?_
  · exact EX7_read_J151 f m12 (by omega)
  · refine Ev.run (pc' := 148) (ls' := [some (.ref 22)]) (st' := [.int (m12.1 13 2), .int 1, .ref 13]) (m' := m12) [(.aload_n 0, 0, 0, 0, 0), (.getfield 33, 7, 0, 0, 0), (.iconst 1, 0, 0, 1, 0), (.aload_n 0, 0, 0, 0, 0), (.getfield 33, 7, 0, 0, 0), (.getfield 71, 10, 2, 0, 0)] (by decide +kernel) rfl ?_
    refine Ev.cV (av := [.int 1, .int (m12.1 13 2)]) (st := []) (a := 13) (EX10_fail (l := l) (Ln := Ln) (xs := xs) (d := 0) f (1 : Int32) (m12.1 13 2) m12 (by decide)) rfl (by decide +kernel) mwX10_fail iwX10_fail vwX10_fail lk_7_74 (by omega) (by decide) rfl (by decide) rfl rfl (Nat.le_of_ble_eq_true rfl) (fun r15 m16 => ?_)
    exact EX7_read_J151 f m16 (by omega)
set_option maxRecDepth 100000 in
set_option maxHeartbeats 4000000 in
theorem EX7_read {l : Launch} {Ln : Nat} {xs : Nat → Int32} {d : Nat} (f : Nat)  (m : ev_M)  (hd : 138 ≤ d) : Mv ev_eI l Ln xs YX7_read d Sx [.ref 22] m (FX7_read f  m) := by
  refine Mv.of (by decide +kernel) rfl (Nat.le_of_ble_eq_true rfl) (Ev.le (ls' := [some (.ref 22)]) ⟨rfl, trivial⟩ ?_)
  unfold FX7_read
  refine Ev.run (pc' := 12) (ls' := [some (.ref 22)]) (st' := [.ref 13]) (m' := ((ev_up m.1 23 1 0), m.2)) [(.aload_n 0, 0, 0, 0, 0), (.getfield 12, 7, 3, 0, 0), (.iconst 0, 0, 0, 0, 0), (.putfield 45, 2, 1, 0, 0), (.aload_n 0, 0, 0, 0, 0), (.getfield 33, 7, 0, 0, 0)] (by decide +kernel) rfl ?_
  refine Ev.cV (av := []) (st := []) (a := 13) (EX10_begin (l := l) (Ln := Ln) (xs := xs) (d := 6) f ((ev_up m.1 23 1 0), m.2) (by decide)) rfl (by decide +kernel) mwX10_begin iwX10_begin vwX10_begin lk_7_48 (by omega) (by decide) rfl (by decide) rfl rfl (Nat.le_of_ble_eq_true rfl) (fun r1 m2 => ?_)
  refine Ev.run (pc' := 24) (ls' := [some (.ref 22)]) (st' := [.int 2, .ref 23, .ref 15]) (m' := m2) [(.aload_n 0, 0, 0, 0, 0), (.getfield 37, 7, 1, 0, 0), (.aload_n 0, 0, 0, 0, 0), (.getfield 12, 7, 3, 0, 0), (.iconst 2, 0, 0, 2, 0)] (by decide +kernel) rfl ?_
  refine Ev.cV (av := [.ref 23, .int 2]) (st := []) (a := 15) (EX9_begin (l := l) (Ln := Ln) (xs := xs) (d := 0) f 23 (2 : Int32) m2 (by decide) (by decide)) rfl (by decide +kernel) mwX9_begin iwX9_begin vwX9_begin lk_7_53 (by omega) (by decide) rfl (by decide) rfl rfl (Nat.le_of_ble_eq_true rfl) (fun r3 m4 => ?_)
  refine Ev.run (pc' := 32) (ls' := [some (.ref 22)]) (st' := [.ref 13, .ref 22]) (m' := m4) [(.aload_n 0, 0, 0, 0, 0), (.aload_n 0, 0, 0, 0, 0), (.getfield 33, 7, 0, 0, 0)] (by decide +kernel) rfl ?_
  refine Ev.cV (av := []) (st := [.ref 22]) (a := 13) (EX10_word (l := l) (Ln := Ln) (xs := xs) (d := 0) f m4 (by decide)) rfl (by decide +kernel) mwX10_word iwX10_word vwX10_word lk_7_58 (by omega) (by decide) rfl (by decide) rfl rfl (Nat.le_of_ble_eq_true rfl) (fun r5 m6 => ?_)
  refine Ev.run (pc' := 42) (ls' := [some (.ref 22)]) (st' := [.int r5]) (m' := ((ev_up m6.1 22 6 r5), m6.2)) [(.putfield 29, 7, 6, 0, 0), (.aload_n 0, 0, 0, 0, 0), (.getfield 29, 7, 6, 0, 0)] (by decide +kernel) rfl ?_
  refine Ev.sw1 23 (t := 80) (by decide +kernel) (by decide) ?_ (fun z17 => ?_)
  · refine Ev.run (pc' := 84) (ls' := [some (.ref 22)]) (st' := [.ref 13]) (m' := ((ev_up m6.1 22 6 r5), m6.2)) [(.aload_n 0, 0, 0, 0, 0), (.getfield 33, 7, 0, 0, 0)] (by decide +kernel) rfl ?_
    refine Ev.cV (av := []) (st := []) (a := 13) (EX10_advance (l := l) (Ln := Ln) (xs := xs) (d := 5) f ((ev_up m6.1 22 6 r5), m6.2) (by decide)) rfl (by decide +kernel) mwX10_advance iwX10_advance vwX10_advance lk_7_62 (by omega) (by decide) rfl (by decide) rfl rfl (Nat.le_of_ble_eq_true rfl) (fun r7 m8 => ?_)
    refine Ev.run (pc' := 88) (ls' := [some (.ref 22)]) (st' := [.ref 22]) (m' := m8) [(.aload_n 0, 0, 0, 0, 0)] (by decide +kernel) rfl ?_
    refine Ev.cV (av := []) (st := []) (a := 22) (EX7_readTest (l := l) (Ln := Ln) (xs := xs) (d := 137) f m8 (by decide)) rfl (by decide +kernel) mwX7_readTest iwX7_readTest vwX7_readTest lk_7_65 (by omega) (by decide) rfl (by decide) rfl rfl (Nat.le_of_ble_eq_true rfl) (fun r9 m10 => ?_)
    refine Ev.gto (t := 126) (by decide +kernel) ?_
    exact EX7_read_J126 f m10 (by omega)
  refine Ev.sw1 24 (t := 80) (by decide +kernel) (by decide) ?_ (fun z22 => ?_)
  · refine Ev.run (pc' := 84) (ls' := [some (.ref 22)]) (st' := [.ref 13]) (m' := ((ev_up m6.1 22 6 r5), m6.2)) [(.aload_n 0, 0, 0, 0, 0), (.getfield 33, 7, 0, 0, 0)] (by decide +kernel) rfl ?_
    refine Ev.cV (av := []) (st := []) (a := 13) (EX10_advance (l := l) (Ln := Ln) (xs := xs) (d := 5) f ((ev_up m6.1 22 6 r5), m6.2) (by decide)) rfl (by decide +kernel) mwX10_advance iwX10_advance vwX10_advance lk_7_62 (by omega) (by decide) rfl (by decide) rfl rfl (Nat.le_of_ble_eq_true rfl) (fun r18 m19 => ?_)
    refine Ev.run (pc' := 88) (ls' := [some (.ref 22)]) (st' := [.ref 22]) (m' := m19) [(.aload_n 0, 0, 0, 0, 0)] (by decide +kernel) rfl ?_
    refine Ev.cV (av := []) (st := []) (a := 22) (EX7_readTest (l := l) (Ln := Ln) (xs := xs) (d := 137) f m19 (by decide)) rfl (by decide +kernel) mwX7_readTest iwX7_readTest vwX7_readTest lk_7_65 (by omega) (by decide) rfl (by decide) rfl rfl (Nat.le_of_ble_eq_true rfl) (fun r20 m21 => ?_)
    refine Ev.gto (t := 126) (by decide +kernel) ?_
    exact EX7_read_J126 f m21 (by omega)
  refine Ev.sw1 25 (t := 80) (by decide +kernel) (by decide) ?_ (fun z27 => ?_)
  · refine Ev.run (pc' := 84) (ls' := [some (.ref 22)]) (st' := [.ref 13]) (m' := ((ev_up m6.1 22 6 r5), m6.2)) [(.aload_n 0, 0, 0, 0, 0), (.getfield 33, 7, 0, 0, 0)] (by decide +kernel) rfl ?_
    refine Ev.cV (av := []) (st := []) (a := 13) (EX10_advance (l := l) (Ln := Ln) (xs := xs) (d := 5) f ((ev_up m6.1 22 6 r5), m6.2) (by decide)) rfl (by decide +kernel) mwX10_advance iwX10_advance vwX10_advance lk_7_62 (by omega) (by decide) rfl (by decide) rfl rfl (Nat.le_of_ble_eq_true rfl) (fun r23 m24 => ?_)
    refine Ev.run (pc' := 88) (ls' := [some (.ref 22)]) (st' := [.ref 22]) (m' := m24) [(.aload_n 0, 0, 0, 0, 0)] (by decide +kernel) rfl ?_
    refine Ev.cV (av := []) (st := []) (a := 22) (EX7_readTest (l := l) (Ln := Ln) (xs := xs) (d := 137) f m24 (by decide)) rfl (by decide +kernel) mwX7_readTest iwX7_readTest vwX7_readTest lk_7_65 (by omega) (by decide) rfl (by decide) rfl rfl (Nat.le_of_ble_eq_true rfl) (fun r25 m26 => ?_)
    refine Ev.gto (t := 126) (by decide +kernel) ?_
    exact EX7_read_J126 f m26 (by omega)
  refine Ev.sw1 26 (t := 94) (by decide +kernel) (by decide) ?_ (fun z32 => ?_)
  · refine Ev.run (pc' := 98) (ls' := [some (.ref 22)]) (st' := [.ref 13]) (m' := ((ev_up m6.1 22 6 r5), m6.2)) [(.aload_n 0, 0, 0, 0, 0), (.getfield 33, 7, 0, 0, 0)] (by decide +kernel) rfl ?_
    refine Ev.cV (av := []) (st := []) (a := 13) (EX10_advance (l := l) (Ln := Ln) (xs := xs) (d := 5) f ((ev_up m6.1 22 6 r5), m6.2) (by decide)) rfl (by decide +kernel) mwX10_advance iwX10_advance vwX10_advance lk_7_62 (by omega) (by decide) rfl (by decide) rfl rfl (Nat.le_of_ble_eq_true rfl) (fun r28 m29 => ?_)
    refine Ev.run (pc' := 105) (ls' := [some (.ref 22)]) (st' := [.ref 15]) (m' := m29) [(.aload_n 0, 0, 0, 0, 0), (.getfield 37, 7, 1, 0, 0)] (by decide +kernel) rfl ?_
    refine Ev.cVN (av := []) (st := []) (a := 15) (EX9_readSum (l := l) (Ln := Ln) (xs := xs) (d := 71) f m29 (by decide)) rfl (by decide +kernel) mwX9_readSum iwX9_readSum vwX9_readSum lk_7_68 (by omega) (by decide) rfl (by decide) rfl rfl (Nat.le_of_ble_eq_true rfl) (fun r30 m31 => ?_)
    refine Ev.gto (t := 126) (by decide +kernel) ?_
    exact EX7_read_J126 f m31 (by omega)
  refine Ev.sw1 27 (t := 94) (by decide +kernel) (by decide) ?_ (fun z37 => ?_)
  · refine Ev.run (pc' := 98) (ls' := [some (.ref 22)]) (st' := [.ref 13]) (m' := ((ev_up m6.1 22 6 r5), m6.2)) [(.aload_n 0, 0, 0, 0, 0), (.getfield 33, 7, 0, 0, 0)] (by decide +kernel) rfl ?_
    refine Ev.cV (av := []) (st := []) (a := 13) (EX10_advance (l := l) (Ln := Ln) (xs := xs) (d := 5) f ((ev_up m6.1 22 6 r5), m6.2) (by decide)) rfl (by decide +kernel) mwX10_advance iwX10_advance vwX10_advance lk_7_62 (by omega) (by decide) rfl (by decide) rfl rfl (Nat.le_of_ble_eq_true rfl) (fun r33 m34 => ?_)
    refine Ev.run (pc' := 105) (ls' := [some (.ref 22)]) (st' := [.ref 15]) (m' := m34) [(.aload_n 0, 0, 0, 0, 0), (.getfield 37, 7, 1, 0, 0)] (by decide +kernel) rfl ?_
    refine Ev.cVN (av := []) (st := []) (a := 15) (EX9_readSum (l := l) (Ln := Ln) (xs := xs) (d := 71) f m34 (by decide)) rfl (by decide +kernel) mwX9_readSum iwX9_readSum vwX9_readSum lk_7_68 (by omega) (by decide) rfl (by decide) rfl rfl (Nat.le_of_ble_eq_true rfl) (fun r35 m36 => ?_)
    refine Ev.gto (t := 126) (by decide +kernel) ?_
    exact EX7_read_J126 f m36 (by omega)
  refine Ev.sw1 28 (t := 94) (by decide +kernel) (by decide) ?_ (fun z42 => ?_)
  · refine Ev.run (pc' := 98) (ls' := [some (.ref 22)]) (st' := [.ref 13]) (m' := ((ev_up m6.1 22 6 r5), m6.2)) [(.aload_n 0, 0, 0, 0, 0), (.getfield 33, 7, 0, 0, 0)] (by decide +kernel) rfl ?_
    refine Ev.cV (av := []) (st := []) (a := 13) (EX10_advance (l := l) (Ln := Ln) (xs := xs) (d := 5) f ((ev_up m6.1 22 6 r5), m6.2) (by decide)) rfl (by decide +kernel) mwX10_advance iwX10_advance vwX10_advance lk_7_62 (by omega) (by decide) rfl (by decide) rfl rfl (Nat.le_of_ble_eq_true rfl) (fun r38 m39 => ?_)
    refine Ev.run (pc' := 105) (ls' := [some (.ref 22)]) (st' := [.ref 15]) (m' := m39) [(.aload_n 0, 0, 0, 0, 0), (.getfield 37, 7, 1, 0, 0)] (by decide +kernel) rfl ?_
    refine Ev.cVN (av := []) (st := []) (a := 15) (EX9_readSum (l := l) (Ln := Ln) (xs := xs) (d := 71) f m39 (by decide)) rfl (by decide +kernel) mwX9_readSum iwX9_readSum vwX9_readSum lk_7_68 (by omega) (by decide) rfl (by decide) rfl rfl (Nat.le_of_ble_eq_true rfl) (fun r40 m41 => ?_)
    refine Ev.gto (t := 126) (by decide +kernel) ?_
    exact EX7_read_J126 f m41 (by omega)
  refine Ev.sw0 (vals := [23, 24, 25, 26, 27, 28]) (dt := 111) (by decide +kernel) (by simp only [List.mem_cons, List.not_mem_nil, or_false, not_or]; exact ⟨(lv_neT (k := 23) (a := 23) z17 (by decide)), (lv_neT (k := 24) (a := 24) z22 (by decide)), (lv_neT (k := 25) (a := 25) z27 (by decide)), (lv_neT (k := 26) (a := 26) z32 (by decide)), (lv_neT (k := 27) (a := 27) z37 (by decide)), (lv_neT (k := 28) (a := 28) z42 (by decide))⟩) ?_
  refine Ev.run (pc' := 123) (ls' := [some (.ref 22)]) (st' := [.int (m6.1 13 2), .int 1, .ref 13]) (m' := ((ev_up m6.1 22 6 r5), m6.2)) [(.aload_n 0, 0, 0, 0, 0), (.getfield 33, 7, 0, 0, 0), (.iconst 1, 0, 0, 1, 0), (.aload_n 0, 0, 0, 0, 0), (.getfield 33, 7, 0, 0, 0), (.getfield 71, 10, 2, 0, 0)] (by decide +kernel) rfl ?_
  refine Ev.cV (av := [.int 1, .int (m6.1 13 2)]) (st := []) (a := 13) (EX10_fail (l := l) (Ln := Ln) (xs := xs) (d := 0) f (1 : Int32) (m6.1 13 2) ((ev_up m6.1 22 6 r5), m6.2) (by decide)) rfl (by decide +kernel) mwX10_fail iwX10_fail vwX10_fail lk_7_74 (by omega) (by decide) rfl (by decide) rfl rfl (Nat.le_of_ble_eq_true rfl) (fun r43 m44 => ?_)
  exact EX7_read_J126 f m44 (by omega)
def FX11_ask (f : Nat)  (m : ev_M) : Option (Int64 × ev_M) :=
  (ev_bd (FX11_isTold f m) (fun r1 m2 => (if r1 = 0 then some ((-1000000000000000), ((ev_up m2.1 13 1 0), m2.2)) else (ev_bd (FX7_read f m2) (fun r3 m4 => (ev_bd (FX11_noteFault f m4) (fun _ m6 => (if r3 = 0 then some ((-1000000000000000), ((ev_up m6.1 13 1 0), m6.2)) else (ev_bd (FX7_answer f 103 ((ev_up m6.1 13 1 0), m6.2)) (fun r7 m8 => some (r7, m8)))))))))))
set_option maxRecDepth 100000 in
set_option maxHeartbeats 4000000 in
theorem EX11_ask {l : Launch} {Ln : Nat} {xs : Nat → Int32} {d : Nat} (f : Nat)  (m : ev_M)  (hd : 139 ≤ d) : Mv ev_eL l Ln xs YX11_ask d Sx [.ref 0] m (FX11_ask f  m) := by
  refine Mv.of (by decide +kernel) rfl (Nat.le_of_ble_eq_true rfl) (Ev.le (ls' := [some (.ref 0), none]) ⟨rfl, trivial⟩ ?_)
  unfold FX11_ask
  refine Ev.run (pc' := 1) (ls' := [some (.ref 0), none]) (st' := [.ref 0]) (m' := m) [(.aload_n 0, 0, 0, 0, 0)] (by decide +kernel) rfl ?_
  refine Ev.cV (av := []) (st := []) (a := 0) (EX11_isTold (l := l) (Ln := Ln) (xs := xs) (d := 0) f m (by decide)) rfl (by decide +kernel) mwX11_isTold iwX11_isTold vwX11_isTold lk_11_153 (by omega) (by decide) rfl (by decide) rfl rfl (Nat.le_of_ble_eq_true rfl) (fun r1 m2 => ?_)
  refine Ev.if_ne (t := 19) (by decide +kernel) ?_ ?_
  · refine Ev.run (pc' := 23) (ls' := [some (.ref 0), none]) (st' := [.ref 22]) (m' := m2) [(.aload_n 0, 0, 0, 0, 0), (.getfield 49, 11, 5, 0, 0)] (by decide +kernel) rfl ?_
    refine Ev.cV (av := []) (st := []) (a := 22) (EX7_read (l := l) (Ln := Ln) (xs := xs) (d := 138) f m2 (by decide)) rfl (by decide +kernel) mwX7_read iwX7_read vwX7_read lk_11_304 (by omega) (by decide) rfl (by decide) rfl rfl (Nat.le_of_ble_eq_true rfl) (fun r3 m4 => ?_)
    refine Ev.run (pc' := 28) (ls' := [some (.ref 0), some (.int r3)]) (st' := [.ref 0]) (m' := m4) [(.istore_n 1, 0, 0, 0, 0), (.aload_n 0, 0, 0, 0, 0)] (by decide +kernel) rfl ?_
    refine Ev.cV (av := []) (st := []) (a := 0) (EX11_noteFault (l := l) (Ln := Ln) (xs := xs) (d := 0) f m4 (by decide)) rfl (by decide +kernel) mwX11_noteFault iwX11_noteFault vwX11_noteFault lk_11_129 (by omega) (by decide) rfl (by decide) rfl rfl (Nat.le_of_ble_eq_true rfl) (fun r5 m6 => ?_)
    refine Ev.run (pc' := 40) (ls' := [some (.ref 0), some (.int r3)]) (st' := [.int r3]) (m' := ((ev_up m6.1 13 1 0), m6.2)) [(.aload_n 0, 0, 0, 0, 0), (.getfield 22, 11, 2, 0, 0), (.iconst 0, 0, 0, 0, 0), (.putfield 122, 10, 1, 0, 0), (.iload_n 1, 0, 0, 0, 0)] (by decide +kernel) rfl ?_
    refine Ev.if_eq (t := 57) (by decide +kernel) ?_ ?_
    · refine Ev.run (pc' := 60) (ls' := [some (.ref 0), some (.int r3)]) (st' := [.long (-1000000000000000)]) (m' := ((ev_up m6.1 13 1 0), m6.2)) [(.ldc2_w 302, 0, 0, 0, (-1000000000000000))] (by decide +kernel) rfl ?_
      exact Ev.retl rfl rfl (by decide +kernel)
    · refine Ev.run (pc' := 51) (ls' := [some (.ref 0), some (.int r3)]) (st' := [.ref 103, .ref 22]) (m' := ((ev_up m6.1 13 1 0), m6.2)) [(.aload_n 0, 0, 0, 0, 0), (.getfield 49, 11, 5, 0, 0), (.aload_n 0, 0, 0, 0, 0), (.getfield 79, 11, 9, 0, 0)] (by decide +kernel) rfl ?_
      refine Ev.cV (av := [.ref 103]) (st := []) (a := 22) (EX7_answer (l := l) (Ln := Ln) (xs := xs) (d := 6) f 103 ((ev_up m6.1 13 1 0), m6.2) (by decide) (by decide)) rfl (by decide +kernel) mwX7_answer iwX7_answer vwX7_answer lk_11_307 (by omega) (by decide) rfl (by decide) rfl rfl (Nat.le_of_ble_eq_true rfl) (fun r7 m8 => ?_)
      refine Ev.gto (t := 60) (by decide +kernel) ?_
      exact Ev.retl rfl rfl (by decide +kernel)
  · refine Ev.run (pc' := 18) (ls' := [some (.ref 0), none]) (st' := [.long (-1000000000000000)]) (m' := ((ev_up m2.1 13 1 0), m2.2)) [(.aload_n 0, 0, 0, 0, 0), (.getfield 22, 11, 2, 0, 0), (.iconst 0, 0, 0, 0, 0), (.putfield 122, 10, 1, 0, 0), (.ldc2_w 302, 0, 0, 0, (-1000000000000000))] (by decide +kernel) rfl ?_
    exact Ev.retl rfl rfl (by decide +kernel)
