def FX0_seekPlaces_L35 (f : Nat) (k : ev_M → Option (Unit × ev_M)) (o1 : Nat) (a2 : Int32) (a3 : Int32) : Nat → Int32 → ev_M → Option (Unit × ev_M)
  | 0, _, _ => none
  | n + 1, a4, m => (ev_bd (FX3_towers f m) (fun r9 m10 => (if r9 ≤ a4 then (k m10) else (ev_bd (FX8_copy f 30 o1 m10) (fun _ m12 => (ev_bd (FX8_swap f 30 a3 a4 m12) (fun _ m14 => (ev_bd (FX0_tryRounds f a2 m14) (fun r15 m16 => (ev_bd (FX0_weigh f r15 a3 a4 m16) (fun _ m18 => (FX0_seekPlaces_L35 f k o1 a2 a3 n (a4 + 1) m18))))))))))))
def FX0_seekPlaces_L19 (f : Nat) (k : ev_M → Option (Unit × ev_M)) (o1 : Nat) (a2 : Int32) : Nat → Int32 → ev_M → Option (Unit × ev_M)
  | 0, _, _ => none
  | n + 1, a3, m => (ev_bd (FX3_towers f m) (fun r7 m8 => (if r7 ≤ a3 then (k m8) else (FX0_seekPlaces_L35 f (fun m19 => (FX0_seekPlaces_L19 f k o1 a2 n (a3 + 1) m19)) o1 a2 a3 f (a3 + 1) m8))))
def FX0_seekPlaces (f : Nat) (o1 : Nat) (a2 : Int32) (m : ev_M) : Option (Unit × ev_M) :=
  (ev_bd (FX8_copy f 30 o1 m) (fun _ m2 => (ev_bd (FX0_tryRounds f a2 m2) (fun r3 m4 => (ev_bd (FX0_startWith f r3 m4) (fun _ m6 => (FX0_seekPlaces_L19 f (fun m20 => some ((), m20)) o1 a2 f (0 : Int32) m6)))))))
set_option maxRecDepth 100000 in
set_option maxHeartbeats 4000000 in
theorem EX0_seekPlaces_L35 {l : Launch} {Ln : Nat} {xs : Nat → Int32} {d : Nat} (f : Nat) (k : ev_M → Option (Unit × ev_M)) (o1 : Nat) (a2 : Int32) (a3 : Int32) (h_o1 : isK 8 o1)  (hk : ∀  (em : ev_M), Ev ev_eV l Ln xs YX0_seekPlaces d Sx 83 [some (.ref 29), some (.ref o1), some (.int a2), some (.int a3), none] [] em (k em)) (hd : 6 ≤ d) : ∀ (n : Nat) (a4 : Int32) (m : ev_M), Ev ev_eV l Ln xs YX0_seekPlaces d Sx 35 [some (.ref 29), some (.ref o1), some (.int a2), some (.int a3), some (.int a4)] [] m (FX0_seekPlaces_L35 f k o1 a2 a3 n a4 m) := by
  intro n
  induction n with
  | zero => intros; exact Ev.nn
  | succ n ih =>
    intro a4 m
    rw [FX0_seekPlaces_L35]
    refine Ev.run (pc' := 41) (ls' := [some (.ref 29), some (.ref o1), some (.int a2), some (.int a3), some (.int a4)]) (st' := [.ref 16, .int a4]) (m' := m) [(.iload 4, 0, 0, 0, 0), (.aload_n 0, 0, 0, 0, 0), (.getfield 28, 0, 0, 0, 0)] (by decide +kernel) rfl ?_
    refine Ev.cV (av := []) (st := [.int a4]) (a := 16) (EX3_towers (l := l) (Ln := Ln) (xs := xs) (d := 0) f m (by decide)) rfl (by decide +kernel) mwX3_towers iwX3_towers vwX3_towers lk_0_32 (by omega) (by decide) rfl (by decide) rfl rfl (Nat.le_of_ble_eq_true rfl) (fun r9 m10 => ?_)
    refine Ev.ic_ge (t := 83) (by decide +kernel) ?_ ?_
    · refine Ev.le (ls' := [some (.ref 29), some (.ref o1), some (.int a2), some (.int a3), none]) ⟨rfl, ⟨rfl, ⟨rfl, ⟨rfl, trivial⟩⟩⟩⟩ ?_
      exact hk _
    · refine Ev.run (pc' := 52) (ls' := [some (.ref 29), some (.ref o1), some (.int a2), some (.int a3), some (.int a4)]) (st' := [.ref o1, .ref 30]) (m' := m10) [(.aload_n 0, 0, 0, 0, 0), (.getfield 12, 0, 1, 0, 0), (.aload_n 1, 0, 0, 0, 0)] (by decide +kernel) rfl ?_
      refine Ev.cV (av := [.ref o1]) (st := []) (a := 30) (EX8_copy (l := l) (Ln := Ln) (xs := xs) (d := 0) f 30 o1 m10 (by decide) h_o1 (by decide)) rfl (by decide +kernel) mwX8_copy iwX8_copy vwX8_copy lk_0_48 (by omega) (by decide) rfl (by decide) rfl rfl (Nat.le_of_ble_eq_true rfl) (fun r11 m12 => ?_)
      refine Ev.run (pc' := 62) (ls' := [some (.ref 29), some (.ref o1), some (.int a2), some (.int a3), some (.int a4)]) (st' := [.int a4, .int a3, .ref 30]) (m' := m12) [(.aload_n 0, 0, 0, 0, 0), (.getfield 12, 0, 1, 0, 0), (.iload_n 3, 0, 0, 0, 0), (.iload 4, 0, 0, 0, 0)] (by decide +kernel) rfl ?_
      refine Ev.cV (av := [.int a3, .int a4]) (st := []) (a := 30) (EX8_swap (l := l) (Ln := Ln) (xs := xs) (d := 0) f 30 a3 a4 m12 (by decide) (by decide)) rfl (by decide +kernel) mwX8_swap iwX8_swap vwX8_swap lk_0_78 (by omega) (by decide) rfl (by decide) rfl rfl (Nat.le_of_ble_eq_true rfl) (fun r13 m14 => ?_)
      refine Ev.run (pc' := 68) (ls' := [some (.ref 29), some (.ref o1), some (.int a2), some (.int a3), some (.int a4)]) (st' := [.int a2, .ref 29, .ref 29]) (m' := m14) [(.aload_n 0, 0, 0, 0, 0), (.aload_n 0, 0, 0, 0, 0), (.iload_n 2, 0, 0, 0, 0)] (by decide +kernel) rfl ?_
      refine Ev.cV (av := [.int a2]) (st := [.ref 29]) (a := 29) (EX0_tryRounds (l := l) (Ln := Ln) (xs := xs) (d := 5) f a2 m14 (by decide)) rfl (by decide +kernel) mwX0_tryRounds iwX0_tryRounds vwX0_tryRounds lk_0_64 (by omega) (by decide) rfl (by decide) rfl rfl (Nat.le_of_ble_eq_true rfl) (fun r15 m16 => ?_)
      refine Ev.run (pc' := 74) (ls' := [some (.ref 29), some (.ref o1), some (.int a2), some (.int a3), some (.int a4)]) (st' := [.int a4, .int a3, .int r15, .ref 29]) (m' := m16) [(.iload_n 3, 0, 0, 0, 0), (.iload 4, 0, 0, 0, 0)] (by decide +kernel) rfl ?_
      refine Ev.cV (av := [.int r15, .int a3, .int a4]) (st := []) (a := 29) (EX0_weigh (l := l) (Ln := Ln) (xs := xs) (d := 0) f r15 a3 a4 m16 (by decide)) rfl (by decide +kernel) mwX0_weigh iwX0_weigh vwX0_weigh lk_0_74 (by omega) (by decide) rfl (by decide) rfl rfl (Nat.le_of_ble_eq_true rfl) (fun r17 m18 => ?_)
      refine Ev.run (pc' := 80) (ls' := [some (.ref 29), some (.ref o1), some (.int a2), some (.int a3), some (.int (a4 + 1))]) (st' := []) (m' := m18) [(.iinc 4 1, 0, 0, 1, 0)] (by decide +kernel) rfl ?_
      refine Ev.gto (t := 35) (by decide +kernel) ?_
      exact ih _ _
set_option maxRecDepth 100000 in
set_option maxHeartbeats 4000000 in
theorem EX0_seekPlaces_L19 {l : Launch} {Ln : Nat} {xs : Nat → Int32} {d : Nat} (f : Nat) (k : ev_M → Option (Unit × ev_M)) (o1 : Nat) (a2 : Int32) (h_o1 : isK 8 o1)  (hk : ∀  (em : ev_M), Ev ev_eV l Ln xs YX0_seekPlaces d Sx 89 [none, none, none, none, none] [] em (k em)) (hd : 6 ≤ d) : ∀ (n : Nat) (a3 : Int32) (m : ev_M), Ev ev_eV l Ln xs YX0_seekPlaces d Sx 19 [some (.ref 29), some (.ref o1), some (.int a2), some (.int a3), none] [] m (FX0_seekPlaces_L19 f k o1 a2 n a3 m) := by
  intro n
  induction n with
  | zero => intros; exact Ev.nn
  | succ n ih =>
    intro a3 m
    rw [FX0_seekPlaces_L19]
    refine Ev.run (pc' := 24) (ls' := [some (.ref 29), some (.ref o1), some (.int a2), some (.int a3), none]) (st' := [.ref 16, .int a3]) (m' := m) [(.iload_n 3, 0, 0, 0, 0), (.aload_n 0, 0, 0, 0, 0), (.getfield 28, 0, 0, 0, 0)] (by decide +kernel) rfl ?_
    refine Ev.cV (av := []) (st := [.int a3]) (a := 16) (EX3_towers (l := l) (Ln := Ln) (xs := xs) (d := 0) f m (by decide)) rfl (by decide +kernel) mwX3_towers iwX3_towers vwX3_towers lk_0_32 (by omega) (by decide) rfl (by decide) rfl rfl (Nat.le_of_ble_eq_true rfl) (fun r7 m8 => ?_)
    refine Ev.ic_ge (t := 89) (by decide +kernel) ?_ ?_
    · refine Ev.le (ls' := [none, none, none, none, none]) trivial ?_
      exact hk _
    · refine Ev.run (pc' := 35) (ls' := [some (.ref 29), some (.ref o1), some (.int a2), some (.int a3), some (.int (a3 + 1))]) (st' := []) (m' := m8) [(.iload_n 3, 0, 0, 0, 0), (.iconst 1, 0, 0, 1, 0), (.iadd, 0, 0, 0, 0), (.istore 4, 0, 0, 0, 0)] (by decide +kernel) rfl ?_
      refine EX0_seekPlaces_L35 f _ o1 a2 a3 h_o1 ?_ (by omega) _ _ _
      intro m19
      refine Ev.run (pc' := 86) (ls' := [some (.ref 29), some (.ref o1), some (.int a2), some (.int (a3 + 1)), none]) (st' := []) (m' := m19) [(.iinc 3 1, 0, 0, 1, 0)] (by decide +kernel) rfl ?_
      refine Ev.gto (t := 19) (by decide +kernel) ?_
      exact ih _ _
set_option maxRecDepth 100000 in
set_option maxHeartbeats 4000000 in
theorem EX0_seekPlaces {l : Launch} {Ln : Nat} {xs : Nat → Int32} {d : Nat} (f : Nat) (o1 : Nat) (a2 : Int32) (m : ev_M) (h_o1 : isK 8 o1) (hd : 6 ≤ d) : Mv ev_eV l Ln xs YX0_seekPlaces d Sx [.ref 29, .ref o1, .int a2] m (FX0_seekPlaces f o1 a2 m) := by
  refine Mv.of (by decide +kernel) rfl (Nat.le_of_ble_eq_true rfl) (Ev.le (ls' := [some (.ref 29), some (.ref o1), some (.int a2), none, none]) ⟨rfl, ⟨rfl, ⟨rfl, trivial⟩⟩⟩ ?_)
  unfold FX0_seekPlaces
  refine Ev.run (pc' := 5) (ls' := [some (.ref 29), some (.ref o1), some (.int a2), none, none]) (st' := [.ref o1, .ref 30]) (m' := m) [(.aload_n 0, 0, 0, 0, 0), (.getfield 12, 0, 1, 0, 0), (.aload_n 1, 0, 0, 0, 0)] (by decide +kernel) rfl ?_
  refine Ev.cV (av := [.ref o1]) (st := []) (a := 30) (EX8_copy (l := l) (Ln := Ln) (xs := xs) (d := 0) f 30 o1 m (by decide) h_o1 (by decide)) rfl (by decide +kernel) mwX8_copy iwX8_copy vwX8_copy lk_0_48 (by omega) (by decide) rfl (by decide) rfl rfl (Nat.le_of_ble_eq_true rfl) (fun r1 m2 => ?_)
  refine Ev.run (pc' := 11) (ls' := [some (.ref 29), some (.ref o1), some (.int a2), none, none]) (st' := [.int a2, .ref 29, .ref 29]) (m' := m2) [(.aload_n 0, 0, 0, 0, 0), (.aload_n 0, 0, 0, 0, 0), (.iload_n 2, 0, 0, 0, 0)] (by decide +kernel) rfl ?_
  refine Ev.cV (av := [.int a2]) (st := [.ref 29]) (a := 29) (EX0_tryRounds (l := l) (Ln := Ln) (xs := xs) (d := 5) f a2 m2 (by decide)) rfl (by decide +kernel) mwX0_tryRounds iwX0_tryRounds vwX0_tryRounds lk_0_64 (by omega) (by decide) rfl (by decide) rfl rfl (Nat.le_of_ble_eq_true rfl) (fun r3 m4 => ?_)
  refine Ev.cV (av := [.int r3]) (st := []) (a := 29) (EX0_startWith (l := l) (Ln := Ln) (xs := xs) (d := 0) f r3 m4 (by decide)) rfl (by decide +kernel) mwX0_startWith iwX0_startWith vwX0_startWith lk_0_67 (by omega) (by decide) rfl (by decide) rfl rfl (Nat.le_of_ble_eq_true rfl) (fun r5 m6 => ?_)
  refine Ev.run (pc' := 19) (ls' := [some (.ref 29), some (.ref o1), some (.int a2), some (.int 0), none]) (st' := []) (m' := m6) [(.iconst 0, 0, 0, 0, 0), (.istore_n 3, 0, 0, 0, 0)] (by decide +kernel) rfl ?_
  refine EX0_seekPlaces_L19 f _ o1 a2 h_o1 ?_ (by omega) _ _ _
  intro m20
  exact Ev.retv rfl rfl (by decide +kernel)
def FX0_play_L12 (f : Nat) (k : ev_M → Option (Unit × ev_M)) (o1 : Nat)  : Nat → Int32 → ev_M → Option (Unit × ev_M)
  | 0, _, _ => none
  | n + 1, a2, m => (ev_bd (FX3_towers f m) (fun r5 m6 => (if r5 ≤ a2 then (k m6) else (ev_bd (FX0_worstBySigh f o1 a2 m6) (fun r7 m8 => (ev_bd (FX0_weigh f r7 a2 (-1 : Int32) m8) (fun _ m10 => (FX0_play_L12 f k o1 n (a2 + 1) m10))))))))
def FX0_play (f : Nat) (o1 : Nat) (m : ev_M) : Option (Unit × ev_M) :=
  (ev_bd (FX0_worstBySigh f o1 (-1 : Int32) m) (fun r1 m2 => (ev_bd (FX0_startWith f r1 m2) (fun _ m4 => (FX0_play_L12 f (fun m11 => some ((), m11)) o1 f (0 : Int32) m4)))))
set_option maxRecDepth 100000 in
set_option maxHeartbeats 4000000 in
theorem EX0_play_L12 {l : Launch} {Ln : Nat} {xs : Nat → Int32} {d : Nat} (f : Nat) (k : ev_M → Option (Unit × ev_M)) (o1 : Nat)  (h_o1 : isK 8 o1)  (hk : ∀  (em : ev_M), Ev ev_eV l Ln xs YX0_play d Sx 41 [none, none, none] [] em (k em)) (hd : 6 ≤ d) : ∀ (n : Nat) (a2 : Int32) (m : ev_M), Ev ev_eV l Ln xs YX0_play d Sx 12 [some (.ref 29), some (.ref o1), some (.int a2)] [] m (FX0_play_L12 f k o1 n a2 m) := by
  intro n
  induction n with
  | zero => intros; exact Ev.nn
  | succ n ih =>
    intro a2 m
    rw [FX0_play_L12]
    refine Ev.run (pc' := 17) (ls' := [some (.ref 29), some (.ref o1), some (.int a2)]) (st' := [.ref 16, .int a2]) (m' := m) [(.iload_n 2, 0, 0, 0, 0), (.aload_n 0, 0, 0, 0, 0), (.getfield 28, 0, 0, 0, 0)] (by decide +kernel) rfl ?_
    refine Ev.cV (av := []) (st := [.int a2]) (a := 16) (EX3_towers (l := l) (Ln := Ln) (xs := xs) (d := 0) f m (by decide)) rfl (by decide +kernel) mwX3_towers iwX3_towers vwX3_towers lk_0_32 (by omega) (by decide) rfl (by decide) rfl rfl (Nat.le_of_ble_eq_true rfl) (fun r5 m6 => ?_)
    refine Ev.ic_ge (t := 41) (by decide +kernel) ?_ ?_
    · refine Ev.le (ls' := [none, none, none]) trivial ?_
      exact hk _
    · refine Ev.run (pc' := 27) (ls' := [some (.ref 29), some (.ref o1), some (.int a2)]) (st' := [.int a2, .ref o1, .ref 29, .ref 29]) (m' := m6) [(.aload_n 0, 0, 0, 0, 0), (.aload_n 0, 0, 0, 0, 0), (.aload_n 1, 0, 0, 0, 0), (.iload_n 2, 0, 0, 0, 0)] (by decide +kernel) rfl ?_
      refine Ev.cV (av := [.ref o1, .int a2]) (st := [.ref 29]) (a := 29) (EX0_worstBySigh (l := l) (Ln := Ln) (xs := xs) (d := 5) f o1 a2 m6 h_o1 (by decide)) rfl (by decide +kernel) mwX0_worstBySigh iwX0_worstBySigh vwX0_worstBySigh lk_0_85 (by omega) (by decide) rfl (by decide) rfl rfl (Nat.le_of_ble_eq_true rfl) (fun r7 m8 => ?_)
      refine Ev.run (pc' := 32) (ls' := [some (.ref 29), some (.ref o1), some (.int a2)]) (st' := [.int (-1), .int a2, .int r7, .ref 29]) (m' := m8) [(.iload_n 2, 0, 0, 0, 0), (.iconst (-1), 0, 0, (-1), 0)] (by decide +kernel) rfl ?_
      refine Ev.cV (av := [.int r7, .int a2, .int (-1)]) (st := []) (a := 29) (EX0_weigh (l := l) (Ln := Ln) (xs := xs) (d := 0) f r7 a2 (-1 : Int32) m8 (by decide)) rfl (by decide +kernel) mwX0_weigh iwX0_weigh vwX0_weigh lk_0_74 (by omega) (by decide) rfl (by decide) rfl rfl (Nat.le_of_ble_eq_true rfl) (fun r9 m10 => ?_)
      refine Ev.run (pc' := 38) (ls' := [some (.ref 29), some (.ref o1), some (.int (a2 + 1))]) (st' := []) (m' := m10) [(.iinc 2 1, 0, 0, 1, 0)] (by decide +kernel) rfl ?_
      refine Ev.gto (t := 12) (by decide +kernel) ?_
      exact ih _ _
set_option maxRecDepth 100000 in
set_option maxHeartbeats 4000000 in
theorem EX0_play {l : Launch} {Ln : Nat} {xs : Nat → Int32} {d : Nat} (f : Nat) (o1 : Nat) (m : ev_M) (h_o1 : isK 8 o1) (hd : 6 ≤ d) : Mv ev_eV l Ln xs YX0_play d Sx [.ref 29, .ref o1] m (FX0_play f o1 m) := by
  refine Mv.of (by decide +kernel) rfl (Nat.le_of_ble_eq_true rfl) (Ev.le (ls' := [some (.ref 29), some (.ref o1), none]) ⟨rfl, ⟨rfl, trivial⟩⟩ ?_)
  unfold FX0_play
  refine Ev.run (pc' := 4) (ls' := [some (.ref 29), some (.ref o1), none]) (st' := [.int (-1), .ref o1, .ref 29, .ref 29]) (m' := m) [(.aload_n 0, 0, 0, 0, 0), (.aload_n 0, 0, 0, 0, 0), (.aload_n 1, 0, 0, 0, 0), (.iconst (-1), 0, 0, (-1), 0)] (by decide +kernel) rfl ?_
  refine Ev.cV (av := [.ref o1, .int (-1)]) (st := [.ref 29]) (a := 29) (EX0_worstBySigh (l := l) (Ln := Ln) (xs := xs) (d := 5) f o1 (-1 : Int32) m h_o1 (by decide)) rfl (by decide +kernel) mwX0_worstBySigh iwX0_worstBySigh vwX0_worstBySigh lk_0_85 (by omega) (by decide) rfl (by decide) rfl rfl (Nat.le_of_ble_eq_true rfl) (fun r1 m2 => ?_)
  refine Ev.cV (av := [.int r1]) (st := []) (a := 29) (EX0_startWith (l := l) (Ln := Ln) (xs := xs) (d := 0) f r1 m2 (by decide)) rfl (by decide +kernel) mwX0_startWith iwX0_startWith vwX0_startWith lk_0_67 (by omega) (by decide) rfl (by decide) rfl rfl (Nat.le_of_ble_eq_true rfl) (fun r3 m4 => ?_)
  refine Ev.run (pc' := 12) (ls' := [some (.ref 29), some (.ref o1), some (.int 0)]) (st' := []) (m' := m4) [(.iconst 0, 0, 0, 0, 0), (.istore_n 2, 0, 0, 0, 0)] (by decide +kernel) rfl ?_
  refine EX0_play_L12 f _ o1 h_o1 ?_ (by omega) _ _ _
  intro m11
  exact Ev.retv rfl rfl (by decide +kernel)
def FX11_cheered (f : Nat) (a1 : Int32) (m : ev_M) : Option (Int32 × ev_M) :=
  (ev_bd (FX11_isTold f m) (fun r1 m2 => (if r1 = 0 then some ((-1), m2) else (ev_bd (FX11_canBeAhead f a1 (1 : Int32) (30 : Int32) m2) (fun r3 m4 => (if r3 = 0 then some ((-1), m4) else (ev_bd (FX0_fewestToCheer f 103 a1 m4) (fun r5 m6 => some (r5, m6)))))))))
set_option maxRecDepth 100000 in
set_option maxHeartbeats 4000000 in
theorem EX11_cheered {l : Launch} {Ln : Nat} {xs : Nat → Int32} {d : Nat} (f : Nat) (a1 : Int32) (m : ev_M)  (hd : 7 ≤ d) : Mv ev_eI l Ln xs YX11_cheered d Sx [.ref 0, .int a1] m (FX11_cheered f a1 m) := by
  refine Mv.of (by decide +kernel) rfl (Nat.le_of_ble_eq_true rfl) (Ev.le (ls' := [some (.ref 0), some (.int a1)]) ⟨rfl, ⟨rfl, trivial⟩⟩ ?_)
  unfold FX11_cheered
  refine Ev.run (pc' := 1) (ls' := [some (.ref 0), some (.int a1)]) (st' := [.ref 0]) (m' := m) [(.aload_n 0, 0, 0, 0, 0)] (by decide +kernel) rfl ?_
  refine Ev.cV (av := []) (st := []) (a := 0) (EX11_isTold (l := l) (Ln := Ln) (xs := xs) (d := 0) f m (by decide)) rfl (by decide +kernel) mwX11_isTold iwX11_isTold vwX11_isTold lk_11_153 (by omega) (by decide) rfl (by decide) rfl rfl (Nat.le_of_ble_eq_true rfl) (fun r1 m2 => ?_)
  refine Ev.if_eq (t := 33) (by decide +kernel) ?_ ?_
  · refine Ev.run (pc' := 34) (ls' := [some (.ref 0), some (.int a1)]) (st' := [.int (-1)]) (m' := m2) [(.iconst (-1), 0, 0, (-1), 0)] (by decide +kernel) rfl ?_
    exact Ev.ireti rfl rfl (by decide +kernel)
  · refine Ev.run (pc' := 12) (ls' := [some (.ref 0), some (.int a1)]) (st' := [.int 30, .int 1, .int a1, .ref 0]) (m' := m2) [(.aload_n 0, 0, 0, 0, 0), (.iload_n 1, 0, 0, 0, 0), (.iconst 1, 0, 0, 1, 0), (.bipush 30, 0, 0, 30, 0)] (by decide +kernel) rfl ?_
    refine Ev.cV (av := [.int a1, .int 1, .int 30]) (st := []) (a := 0) (EX11_canBeAhead (l := l) (Ln := Ln) (xs := xs) (d := 0) f a1 (1 : Int32) (30 : Int32) m2 (by decide)) rfl (by decide +kernel) mwX11_canBeAhead iwX11_canBeAhead vwX11_canBeAhead lk_11_206 (by omega) (by decide) rfl (by decide) rfl rfl (Nat.le_of_ble_eq_true rfl) (fun r3 m4 => ?_)
    refine Ev.if_eq (t := 33) (by decide +kernel) ?_ ?_
    · refine Ev.run (pc' := 34) (ls' := [some (.ref 0), some (.int a1)]) (st' := [.int (-1)]) (m' := m4) [(.iconst (-1), 0, 0, (-1), 0)] (by decide +kernel) rfl ?_
      exact Ev.ireti rfl rfl (by decide +kernel)
    · refine Ev.run (pc' := 27) (ls' := [some (.ref 0), some (.int a1)]) (st' := [.int a1, .ref 103, .ref 29]) (m' := m4) [(.aload_n 0, 0, 0, 0, 0), (.getfield 58, 11, 6, 0, 0), (.aload_n 0, 0, 0, 0, 0), (.getfield 79, 11, 9, 0, 0), (.iload_n 1, 0, 0, 0, 0)] (by decide +kernel) rfl ?_
      refine Ev.cV (av := [.ref 103, .int a1]) (st := []) (a := 29) (EX0_fewestToCheer (l := l) (Ln := Ln) (xs := xs) (d := 6) f 103 a1 m4 (by decide) (by decide)) rfl (by decide +kernel) mwX0_fewestToCheer iwX0_fewestToCheer vwX0_fewestToCheer lk_11_234 (by omega) (by decide) rfl (by decide) rfl rfl (Nat.le_of_ble_eq_true rfl) (fun r5 m6 => ?_)
      refine Ev.gto (t := 34) (by decide +kernel) ?_
      exact Ev.ireti rfl rfl (by decide +kernel)
def FX11_sighs (f : Nat) (a1 : Int32) (m : ev_M) : Option (Int32 × ev_M) :=
  (ev_bd (FX11_isTold f m) (fun r1 m2 => (if r1 = 0 then some ((-1), m2) else (ev_bd (FX11_canBeAhead f a1 (1 : Int32) (30 : Int32) m2) (fun r3 m4 => (if r3 = 0 then some ((-1), m4) else (ev_bd (FX0_fewestToSigh f 103 a1 m4) (fun r5 m6 => some (r5, m6)))))))))
set_option maxRecDepth 100000 in
set_option maxHeartbeats 4000000 in
theorem EX11_sighs {l : Launch} {Ln : Nat} {xs : Nat → Int32} {d : Nat} (f : Nat) (a1 : Int32) (m : ev_M)  (hd : 7 ≤ d) : Mv ev_eI l Ln xs YX11_sighs d Sx [.ref 0, .int a1] m (FX11_sighs f a1 m) := by
  refine Mv.of (by decide +kernel) rfl (Nat.le_of_ble_eq_true rfl) (Ev.le (ls' := [some (.ref 0), some (.int a1)]) ⟨rfl, ⟨rfl, trivial⟩⟩ ?_)
  unfold FX11_sighs
  refine Ev.run (pc' := 1) (ls' := [some (.ref 0), some (.int a1)]) (st' := [.ref 0]) (m' := m) [(.aload_n 0, 0, 0, 0, 0)] (by decide +kernel) rfl ?_
  refine Ev.cV (av := []) (st := []) (a := 0) (EX11_isTold (l := l) (Ln := Ln) (xs := xs) (d := 0) f m (by decide)) rfl (by decide +kernel) mwX11_isTold iwX11_isTold vwX11_isTold lk_11_153 (by omega) (by decide) rfl (by decide) rfl rfl (Nat.le_of_ble_eq_true rfl) (fun r1 m2 => ?_)
  refine Ev.if_eq (t := 33) (by decide +kernel) ?_ ?_
  · refine Ev.run (pc' := 34) (ls' := [some (.ref 0), some (.int a1)]) (st' := [.int (-1)]) (m' := m2) [(.iconst (-1), 0, 0, (-1), 0)] (by decide +kernel) rfl ?_
    exact Ev.ireti rfl rfl (by decide +kernel)
  · refine Ev.run (pc' := 12) (ls' := [some (.ref 0), some (.int a1)]) (st' := [.int 30, .int 1, .int a1, .ref 0]) (m' := m2) [(.aload_n 0, 0, 0, 0, 0), (.iload_n 1, 0, 0, 0, 0), (.iconst 1, 0, 0, 1, 0), (.bipush 30, 0, 0, 30, 0)] (by decide +kernel) rfl ?_
    refine Ev.cV (av := [.int a1, .int 1, .int 30]) (st := []) (a := 0) (EX11_canBeAhead (l := l) (Ln := Ln) (xs := xs) (d := 0) f a1 (1 : Int32) (30 : Int32) m2 (by decide)) rfl (by decide +kernel) mwX11_canBeAhead iwX11_canBeAhead vwX11_canBeAhead lk_11_206 (by omega) (by decide) rfl (by decide) rfl rfl (Nat.le_of_ble_eq_true rfl) (fun r3 m4 => ?_)
    refine Ev.if_eq (t := 33) (by decide +kernel) ?_ ?_
    · refine Ev.run (pc' := 34) (ls' := [some (.ref 0), some (.int a1)]) (st' := [.int (-1)]) (m' := m4) [(.iconst (-1), 0, 0, (-1), 0)] (by decide +kernel) rfl ?_
      exact Ev.ireti rfl rfl (by decide +kernel)
    · refine Ev.run (pc' := 27) (ls' := [some (.ref 0), some (.int a1)]) (st' := [.int a1, .ref 103, .ref 29]) (m' := m4) [(.aload_n 0, 0, 0, 0, 0), (.getfield 58, 11, 6, 0, 0), (.aload_n 0, 0, 0, 0, 0), (.getfield 79, 11, 9, 0, 0), (.iload_n 1, 0, 0, 0, 0)] (by decide +kernel) rfl ?_
      refine Ev.cV (av := [.ref 103, .int a1]) (st := []) (a := 29) (EX0_fewestToSigh (l := l) (Ln := Ln) (xs := xs) (d := 6) f 103 a1 m4 (by decide) (by decide)) rfl (by decide +kernel) mwX0_fewestToSigh iwX0_fewestToSigh vwX0_fewestToSigh lk_11_238 (by omega) (by decide) rfl (by decide) rfl rfl (Nat.le_of_ble_eq_true rfl) (fun r5 m6 => ?_)
      refine Ev.gto (t := 34) (by decide +kernel) ?_
      exact Ev.ireti rfl rfl (by decide +kernel)
def FX11_better (f : Nat) (a1 : Int32) (a2 : Int32) (m : ev_M) : Option (Int32 × ev_M) :=
  (ev_bd (FX11_isTold f m) (fun r1 m2 => (if r1 = 0 then some ((-1), m2) else (ev_bd (FX11_canBeAhead f a1 (1 : Int32) (30 : Int32) m2) (fun r3 m4 => (if r3 = 0 then some ((-1), m4) else (if a2 < 0 then some ((-1), m4) else (if a2 ≤ 1 then (ev_bd (FX0_seekYes f 103 a1 m4) (fun _ m6 => (if (m6.1 29 2) = (-1) then some ((-1), m6) else (if a2 = 0 then some ((m6.1 29 2), m6) else some ((m6.1 29 4), m6))))) else some ((-1), m4)))))))))
set_option maxRecDepth 100000 in
set_option maxHeartbeats 4000000 in
theorem EX11_better {l : Launch} {Ln : Nat} {xs : Nat → Int32} {d : Nat} (f : Nat) (a1 : Int32) (a2 : Int32) (m : ev_M)  (hd : 7 ≤ d) : Mv ev_eI l Ln xs YX11_better d Sx [.ref 0, .int a1, .int a2] m (FX11_better f a1 a2 m) := by
  refine Mv.of (by decide +kernel) rfl (Nat.le_of_ble_eq_true rfl) (Ev.le (ls' := [some (.ref 0), some (.int a1), some (.int a2)]) ⟨rfl, ⟨rfl, ⟨rfl, trivial⟩⟩⟩ ?_)
  unfold FX11_better
  refine Ev.run (pc' := 1) (ls' := [some (.ref 0), some (.int a1), some (.int a2)]) (st' := [.ref 0]) (m' := m) [(.aload_n 0, 0, 0, 0, 0)] (by decide +kernel) rfl ?_
  refine Ev.cV (av := []) (st := []) (a := 0) (EX11_isTold (l := l) (Ln := Ln) (xs := xs) (d := 0) f m (by decide)) rfl (by decide +kernel) mwX11_isTold iwX11_isTold vwX11_isTold lk_11_153 (by omega) (by decide) rfl (by decide) rfl rfl (Nat.le_of_ble_eq_true rfl) (fun r1 m2 => ?_)
  refine Ev.if_eq (t := 27) (by decide +kernel) ?_ ?_
  · refine Ev.run (pc' := 28) (ls' := [some (.ref 0), some (.int a1), some (.int a2)]) (st' := [.int (-1)]) (m' := m2) [(.iconst (-1), 0, 0, (-1), 0)] (by decide +kernel) rfl ?_
    exact Ev.ireti rfl rfl (by decide +kernel)
  · refine Ev.run (pc' := 12) (ls' := [some (.ref 0), some (.int a1), some (.int a2)]) (st' := [.int 30, .int 1, .int a1, .ref 0]) (m' := m2) [(.aload_n 0, 0, 0, 0, 0), (.iload_n 1, 0, 0, 0, 0), (.iconst 1, 0, 0, 1, 0), (.bipush 30, 0, 0, 30, 0)] (by decide +kernel) rfl ?_
    refine Ev.cV (av := [.int a1, .int 1, .int 30]) (st := []) (a := 0) (EX11_canBeAhead (l := l) (Ln := Ln) (xs := xs) (d := 0) f a1 (1 : Int32) (30 : Int32) m2 (by decide)) rfl (by decide +kernel) mwX11_canBeAhead iwX11_canBeAhead vwX11_canBeAhead lk_11_206 (by omega) (by decide) rfl (by decide) rfl rfl (Nat.le_of_ble_eq_true rfl) (fun r3 m4 => ?_)
    refine Ev.if_eq (t := 27) (by decide +kernel) ?_ ?_
    · refine Ev.run (pc' := 28) (ls' := [some (.ref 0), some (.int a1), some (.int a2)]) (st' := [.int (-1)]) (m' := m4) [(.iconst (-1), 0, 0, (-1), 0)] (by decide +kernel) rfl ?_
      exact Ev.ireti rfl rfl (by decide +kernel)
    · refine Ev.run (pc' := 19) (ls' := [some (.ref 0), some (.int a1), some (.int a2)]) (st' := [.int a2]) (m' := m4) [(.iload_n 2, 0, 0, 0, 0)] (by decide +kernel) rfl ?_
      refine Ev.if_lt (t := 27) (by decide +kernel) ?_ ?_
      · refine Ev.run (pc' := 28) (ls' := [some (.ref 0), some (.int a1), some (.int a2)]) (st' := [.int (-1)]) (m' := m4) [(.iconst (-1), 0, 0, (-1), 0)] (by decide +kernel) rfl ?_
        exact Ev.ireti rfl rfl (by decide +kernel)
      · refine Ev.run (pc' := 24) (ls' := [some (.ref 0), some (.int a1), some (.int a2)]) (st' := [.int 1, .int a2]) (m' := m4) [(.iload_n 2, 0, 0, 0, 0), (.iconst 1, 0, 0, 1, 0)] (by decide +kernel) rfl ?_
        refine Ev.ic_le (t := 29) (by decide +kernel) ?_ ?_
        · refine Ev.run (pc' := 38) (ls' := [some (.ref 0), some (.int a1), some (.int a2)]) (st' := [.int a1, .ref 103, .ref 29]) (m' := m4) [(.aload_n 0, 0, 0, 0, 0), (.getfield 58, 11, 6, 0, 0), (.aload_n 0, 0, 0, 0, 0), (.getfield 79, 11, 9, 0, 0), (.iload_n 1, 0, 0, 0, 0)] (by decide +kernel) rfl ?_
          refine Ev.cV (av := [.ref 103, .int a1]) (st := []) (a := 29) (EX0_seekYes (l := l) (Ln := Ln) (xs := xs) (d := 6) f 103 a1 m4 (by decide) (by decide)) rfl (by decide +kernel) mwX0_seekYes iwX0_seekYes vwX0_seekYes lk_11_241 (by omega) (by decide) rfl (by decide) rfl rfl (Nat.le_of_ble_eq_true rfl) (fun r5 m6 => ?_)
          refine Ev.run (pc' := 49) (ls' := [some (.ref 0), some (.int a1), some (.int a2)]) (st' := [.int (-1), .int (m6.1 29 2)]) (m' := m6) [(.aload_n 0, 0, 0, 0, 0), (.getfield 58, 11, 6, 0, 0), (.getfield 244, 0, 2, 0, 0), (.iconst (-1), 0, 0, (-1), 0)] (by decide +kernel) rfl ?_
          refine Ev.ic_ne (t := 54) (by decide +kernel) ?_ ?_
          · refine Ev.run (pc' := 55) (ls' := [some (.ref 0), some (.int a1), some (.int a2)]) (st' := [.int a2]) (m' := m6) [(.iload_n 2, 0, 0, 0, 0)] (by decide +kernel) rfl ?_
            refine Ev.if_ne (t := 68) (by decide +kernel) ?_ ?_
            · refine Ev.run (pc' := 75) (ls' := [some (.ref 0), some (.int a1), some (.int a2)]) (st' := [.int (m6.1 29 4)]) (m' := m6) [(.aload_n 0, 0, 0, 0, 0), (.getfield 58, 11, 6, 0, 0), (.getfield 247, 0, 4, 0, 0)] (by decide +kernel) rfl ?_
              exact Ev.ireti rfl rfl (by decide +kernel)
            · refine Ev.run (pc' := 65) (ls' := [some (.ref 0), some (.int a1), some (.int a2)]) (st' := [.int (m6.1 29 2)]) (m' := m6) [(.aload_n 0, 0, 0, 0, 0), (.getfield 58, 11, 6, 0, 0), (.getfield 244, 0, 2, 0, 0)] (by decide +kernel) rfl ?_
              refine Ev.gto (t := 75) (by decide +kernel) ?_
              exact Ev.ireti rfl rfl (by decide +kernel)
          · refine Ev.run (pc' := 53) (ls' := [some (.ref 0), some (.int a1), some (.int a2)]) (st' := [.int (-1)]) (m' := m6) [(.iconst (-1), 0, 0, (-1), 0)] (by decide +kernel) rfl ?_
            exact Ev.ireti rfl rfl (by decide +kernel)
        · refine Ev.run (pc' := 28) (ls' := [some (.ref 0), some (.int a1), some (.int a2)]) (st' := [.int (-1)]) (m' := m4) [(.iconst (-1), 0, 0, (-1), 0)] (by decide +kernel) rfl ?_
          exact Ev.ireti rfl rfl (by decide +kernel)
def FX11_placed (f : Nat) (a1 : Int32) (a2 : Int32) (m : ev_M) : Option (Int32 × ev_M) :=
  (ev_bd (FX11_isTold f m) (fun r1 m2 => (if r1 = 0 then some ((-1), m2) else (ev_bd (FX11_canBeAhead f a1 (1 : Int32) (30 : Int32) m2) (fun r3 m4 => (if r3 = 0 then some ((-1), m4) else (if a2 < 0 then some ((-1), m4) else (if a2 ≤ 2 then (ev_bd (FX0_seekPlaces f 103 a1 m4) (fun _ m6 => (if (m6.1 29 2) = (-1) then some ((-1), m6) else (if a2 = 2 then some ((m6.1 29 4), m6) else (if a2 = 0 then some ((m6.1 29 2), m6) else some ((m6.1 29 3), m6)))))) else some ((-1), m4)))))))))
set_option maxRecDepth 100000 in
set_option maxHeartbeats 4000000 in
theorem EX11_placed {l : Launch} {Ln : Nat} {xs : Nat → Int32} {d : Nat} (f : Nat) (a1 : Int32) (a2 : Int32) (m : ev_M)  (hd : 7 ≤ d) : Mv ev_eI l Ln xs YX11_placed d Sx [.ref 0, .int a1, .int a2] m (FX11_placed f a1 a2 m) := by
  refine Mv.of (by decide +kernel) rfl (Nat.le_of_ble_eq_true rfl) (Ev.le (ls' := [some (.ref 0), some (.int a1), some (.int a2)]) ⟨rfl, ⟨rfl, ⟨rfl, trivial⟩⟩⟩ ?_)
  unfold FX11_placed
  refine Ev.run (pc' := 1) (ls' := [some (.ref 0), some (.int a1), some (.int a2)]) (st' := [.ref 0]) (m' := m) [(.aload_n 0, 0, 0, 0, 0)] (by decide +kernel) rfl ?_
  refine Ev.cV (av := []) (st := []) (a := 0) (EX11_isTold (l := l) (Ln := Ln) (xs := xs) (d := 0) f m (by decide)) rfl (by decide +kernel) mwX11_isTold iwX11_isTold vwX11_isTold lk_11_153 (by omega) (by decide) rfl (by decide) rfl rfl (Nat.le_of_ble_eq_true rfl) (fun r1 m2 => ?_)
  refine Ev.if_eq (t := 27) (by decide +kernel) ?_ ?_
  · refine Ev.run (pc' := 28) (ls' := [some (.ref 0), some (.int a1), some (.int a2)]) (st' := [.int (-1)]) (m' := m2) [(.iconst (-1), 0, 0, (-1), 0)] (by decide +kernel) rfl ?_
    exact Ev.ireti rfl rfl (by decide +kernel)
  · refine Ev.run (pc' := 12) (ls' := [some (.ref 0), some (.int a1), some (.int a2)]) (st' := [.int 30, .int 1, .int a1, .ref 0]) (m' := m2) [(.aload_n 0, 0, 0, 0, 0), (.iload_n 1, 0, 0, 0, 0), (.iconst 1, 0, 0, 1, 0), (.bipush 30, 0, 0, 30, 0)] (by decide +kernel) rfl ?_
    refine Ev.cV (av := [.int a1, .int 1, .int 30]) (st := []) (a := 0) (EX11_canBeAhead (l := l) (Ln := Ln) (xs := xs) (d := 0) f a1 (1 : Int32) (30 : Int32) m2 (by decide)) rfl (by decide +kernel) mwX11_canBeAhead iwX11_canBeAhead vwX11_canBeAhead lk_11_206 (by omega) (by decide) rfl (by decide) rfl rfl (Nat.le_of_ble_eq_true rfl) (fun r3 m4 => ?_)
    refine Ev.if_eq (t := 27) (by decide +kernel) ?_ ?_
    · refine Ev.run (pc' := 28) (ls' := [some (.ref 0), some (.int a1), some (.int a2)]) (st' := [.int (-1)]) (m' := m4) [(.iconst (-1), 0, 0, (-1), 0)] (by decide +kernel) rfl ?_
      exact Ev.ireti rfl rfl (by decide +kernel)
    · refine Ev.run (pc' := 19) (ls' := [some (.ref 0), some (.int a1), some (.int a2)]) (st' := [.int a2]) (m' := m4) [(.iload_n 2, 0, 0, 0, 0)] (by decide +kernel) rfl ?_
      refine Ev.if_lt (t := 27) (by decide +kernel) ?_ ?_
      · refine Ev.run (pc' := 28) (ls' := [some (.ref 0), some (.int a1), some (.int a2)]) (st' := [.int (-1)]) (m' := m4) [(.iconst (-1), 0, 0, (-1), 0)] (by decide +kernel) rfl ?_
        exact Ev.ireti rfl rfl (by decide +kernel)
      · refine Ev.run (pc' := 24) (ls' := [some (.ref 0), some (.int a1), some (.int a2)]) (st' := [.int 2, .int a2]) (m' := m4) [(.iload_n 2, 0, 0, 0, 0), (.iconst 2, 0, 0, 2, 0)] (by decide +kernel) rfl ?_
        refine Ev.ic_le (t := 29) (by decide +kernel) ?_ ?_
        · refine Ev.run (pc' := 38) (ls' := [some (.ref 0), some (.int a1), some (.int a2)]) (st' := [.int a1, .ref 103, .ref 29]) (m' := m4) [(.aload_n 0, 0, 0, 0, 0), (.getfield 58, 11, 6, 0, 0), (.aload_n 0, 0, 0, 0, 0), (.getfield 79, 11, 9, 0, 0), (.iload_n 1, 0, 0, 0, 0)] (by decide +kernel) rfl ?_
          refine Ev.cV (av := [.ref 103, .int a1]) (st := []) (a := 29) (EX0_seekPlaces (l := l) (Ln := Ln) (xs := xs) (d := 6) f 103 a1 m4 (by decide) (by decide)) rfl (by decide +kernel) mwX0_seekPlaces iwX0_seekPlaces vwX0_seekPlaces lk_11_250 (by omega) (by decide) rfl (by decide) rfl rfl (Nat.le_of_ble_eq_true rfl) (fun r5 m6 => ?_)
          refine Ev.run (pc' := 49) (ls' := [some (.ref 0), some (.int a1), some (.int a2)]) (st' := [.int (-1), .int (m6.1 29 2)]) (m' := m6) [(.aload_n 0, 0, 0, 0, 0), (.getfield 58, 11, 6, 0, 0), (.getfield 244, 0, 2, 0, 0), (.iconst (-1), 0, 0, (-1), 0)] (by decide +kernel) rfl ?_
          refine Ev.ic_ne (t := 54) (by decide +kernel) ?_ ?_
          · refine Ev.run (pc' := 56) (ls' := [some (.ref 0), some (.int a1), some (.int a2)]) (st' := [.int 2, .int a2]) (m' := m6) [(.iload_n 2, 0, 0, 0, 0), (.iconst 2, 0, 0, 2, 0)] (by decide +kernel) rfl ?_
            refine Ev.ic_ne (t := 67) (by decide +kernel) ?_ ?_
            · refine Ev.run (pc' := 68) (ls' := [some (.ref 0), some (.int a1), some (.int a2)]) (st' := [.int a2]) (m' := m6) [(.iload_n 2, 0, 0, 0, 0)] (by decide +kernel) rfl ?_
              refine Ev.if_ne (t := 81) (by decide +kernel) ?_ ?_
              · refine Ev.run (pc' := 88) (ls' := [some (.ref 0), some (.int a1), some (.int a2)]) (st' := [.int (m6.1 29 3)]) (m' := m6) [(.aload_n 0, 0, 0, 0, 0), (.getfield 58, 11, 6, 0, 0), (.getfield 253, 0, 3, 0, 0)] (by decide +kernel) rfl ?_
                exact Ev.ireti rfl rfl (by decide +kernel)
              · refine Ev.run (pc' := 78) (ls' := [some (.ref 0), some (.int a1), some (.int a2)]) (st' := [.int (m6.1 29 2)]) (m' := m6) [(.aload_n 0, 0, 0, 0, 0), (.getfield 58, 11, 6, 0, 0), (.getfield 244, 0, 2, 0, 0)] (by decide +kernel) rfl ?_
                refine Ev.gto (t := 88) (by decide +kernel) ?_
                exact Ev.ireti rfl rfl (by decide +kernel)
            · refine Ev.run (pc' := 66) (ls' := [some (.ref 0), some (.int a1), some (.int a2)]) (st' := [.int (m6.1 29 4)]) (m' := m6) [(.aload_n 0, 0, 0, 0, 0), (.getfield 58, 11, 6, 0, 0), (.getfield 247, 0, 4, 0, 0)] (by decide +kernel) rfl ?_
              exact Ev.ireti rfl rfl (by decide +kernel)
          · refine Ev.run (pc' := 53) (ls' := [some (.ref 0), some (.int a1), some (.int a2)]) (st' := [.int (-1)]) (m' := m6) [(.iconst (-1), 0, 0, (-1), 0)] (by decide +kernel) rfl ?_
            exact Ev.ireti rfl rfl (by decide +kernel)
        · refine Ev.run (pc' := 28) (ls' := [some (.ref 0), some (.int a1), some (.int a2)]) (st' := [.int (-1)]) (m' := m4) [(.iconst (-1), 0, 0, (-1), 0)] (by decide +kernel) rfl ?_
          exact Ev.ireti rfl rfl (by decide +kernel)
def FX11_game (f : Nat) (a1 : Int32) (m : ev_M) : Option (Int32 × ev_M) :=
  (ev_bd (FX11_isTold f m) (fun r1 m2 => (if r1 = 0 then some ((-1), m2) else (ev_bd (FX8_hasNext f 103 m2) (fun r3 m4 => (if r3 = 0 then some ((-1), m4) else (if a1 < 0 then some ((-1), m4) else (if a1 ≤ 1 then (ev_bd (FX0_play f 103 m4) (fun _ m6 => (if a1 = 0 then some ((m6.1 29 4), m6) else some ((m6.1 29 2), m6)))) else some ((-1), m4)))))))))
set_option maxRecDepth 100000 in
set_option maxHeartbeats 4000000 in
theorem EX11_game {l : Launch} {Ln : Nat} {xs : Nat → Int32} {d : Nat} (f : Nat) (a1 : Int32) (m : ev_M)  (hd : 7 ≤ d) : Mv ev_eI l Ln xs YX11_game d Sx [.ref 0, .int a1] m (FX11_game f a1 m) := by
  refine Mv.of (by decide +kernel) rfl (Nat.le_of_ble_eq_true rfl) (Ev.le (ls' := [some (.ref 0), some (.int a1)]) ⟨rfl, ⟨rfl, trivial⟩⟩ ?_)
  unfold FX11_game
  refine Ev.run (pc' := 1) (ls' := [some (.ref 0), some (.int a1)]) (st' := [.ref 0]) (m' := m) [(.aload_n 0, 0, 0, 0, 0)] (by decide +kernel) rfl ?_
  refine Ev.cV (av := []) (st := []) (a := 0) (EX11_isTold (l := l) (Ln := Ln) (xs := xs) (d := 0) f m (by decide)) rfl (by decide +kernel) mwX11_isTold iwX11_isTold vwX11_isTold lk_11_153 (by omega) (by decide) rfl (by decide) rfl rfl (Nat.le_of_ble_eq_true rfl) (fun r1 m2 => ?_)
  refine Ev.if_eq (t := 26) (by decide +kernel) ?_ ?_
  · refine Ev.run (pc' := 27) (ls' := [some (.ref 0), some (.int a1)]) (st' := [.int (-1)]) (m' := m2) [(.iconst (-1), 0, 0, (-1), 0)] (by decide +kernel) rfl ?_
    exact Ev.ireti rfl rfl (by decide +kernel)
  · refine Ev.run (pc' := 11) (ls' := [some (.ref 0), some (.int a1)]) (st' := [.ref 103]) (m' := m2) [(.aload_n 0, 0, 0, 0, 0), (.getfield 79, 11, 9, 0, 0)] (by decide +kernel) rfl ?_
    refine Ev.cV (av := []) (st := []) (a := 103) (EX8_hasNext (l := l) (Ln := Ln) (xs := xs) (d := 0) f 103 m2 (by decide) (by decide)) rfl (by decide +kernel) mwX8_hasNext iwX8_hasNext vwX8_hasNext lk_11_217 (by omega) (by decide) rfl (by decide) rfl rfl (Nat.le_of_ble_eq_true rfl) (fun r3 m4 => ?_)
    refine Ev.if_eq (t := 26) (by decide +kernel) ?_ ?_
    · refine Ev.run (pc' := 27) (ls' := [some (.ref 0), some (.int a1)]) (st' := [.int (-1)]) (m' := m4) [(.iconst (-1), 0, 0, (-1), 0)] (by decide +kernel) rfl ?_
      exact Ev.ireti rfl rfl (by decide +kernel)
    · refine Ev.run (pc' := 18) (ls' := [some (.ref 0), some (.int a1)]) (st' := [.int a1]) (m' := m4) [(.iload_n 1, 0, 0, 0, 0)] (by decide +kernel) rfl ?_
      refine Ev.if_lt (t := 26) (by decide +kernel) ?_ ?_
      · refine Ev.run (pc' := 27) (ls' := [some (.ref 0), some (.int a1)]) (st' := [.int (-1)]) (m' := m4) [(.iconst (-1), 0, 0, (-1), 0)] (by decide +kernel) rfl ?_
        exact Ev.ireti rfl rfl (by decide +kernel)
      · refine Ev.run (pc' := 23) (ls' := [some (.ref 0), some (.int a1)]) (st' := [.int 1, .int a1]) (m' := m4) [(.iload_n 1, 0, 0, 0, 0), (.iconst 1, 0, 0, 1, 0)] (by decide +kernel) rfl ?_
        refine Ev.ic_le (t := 28) (by decide +kernel) ?_ ?_
        · refine Ev.run (pc' := 36) (ls' := [some (.ref 0), some (.int a1)]) (st' := [.ref 103, .ref 29]) (m' := m4) [(.aload_n 0, 0, 0, 0, 0), (.getfield 58, 11, 6, 0, 0), (.aload_n 0, 0, 0, 0, 0), (.getfield 79, 11, 9, 0, 0)] (by decide +kernel) rfl ?_
          refine Ev.cV (av := [.ref 103]) (st := []) (a := 29) (EX0_play (l := l) (Ln := Ln) (xs := xs) (d := 6) f 103 m4 (by decide) (by decide)) rfl (by decide +kernel) mwX0_play iwX0_play vwX0_play lk_11_256 (by omega) (by decide) rfl (by decide) rfl rfl (Nat.le_of_ble_eq_true rfl) (fun r5 m6 => ?_)
          refine Ev.run (pc' := 40) (ls' := [some (.ref 0), some (.int a1)]) (st' := [.int a1]) (m' := m6) [(.iload_n 1, 0, 0, 0, 0)] (by decide +kernel) rfl ?_
          refine Ev.if_ne (t := 53) (by decide +kernel) ?_ ?_
          · refine Ev.run (pc' := 60) (ls' := [some (.ref 0), some (.int a1)]) (st' := [.int (m6.1 29 2)]) (m' := m6) [(.aload_n 0, 0, 0, 0, 0), (.getfield 58, 11, 6, 0, 0), (.getfield 244, 0, 2, 0, 0)] (by decide +kernel) rfl ?_
            exact Ev.ireti rfl rfl (by decide +kernel)
          · refine Ev.run (pc' := 50) (ls' := [some (.ref 0), some (.int a1)]) (st' := [.int (m6.1 29 4)]) (m' := m6) [(.aload_n 0, 0, 0, 0, 0), (.getfield 58, 11, 6, 0, 0), (.getfield 247, 0, 4, 0, 0)] (by decide +kernel) rfl ?_
            refine Ev.gto (t := 60) (by decide +kernel) ?_
            exact Ev.ireti rfl rfl (by decide +kernel)
        · refine Ev.run (pc' := 27) (ls' := [some (.ref 0), some (.int a1)]) (st' := [.int (-1)]) (m' := m4) [(.iconst (-1), 0, 0, (-1), 0)] (by decide +kernel) rfl ?_
          exact Ev.ireti rfl rfl (by decide +kernel)
