def FX4_moodBits_J51 (f : Nat) (kt28 : Int32 → Int32 → ev_M → Option (Int32 × ev_M))  (a3 : Int32) (a4 : Int32)  (m : ev_M) : Option (Int32 × ev_M) :=
  (kt28 a3 (a4 + 1) m)
def FX4_moodBits_L28 (f : Nat) (k : Int32 → ev_M → Option (Int32 × ev_M))   : Nat → Int32 → Int32 → ev_M → Option (Int32 × ev_M)
  | 0, _, _, _ => none
  | n + 1, a3, a4, m => (if 10 ≤ a4 then (k a3 m) else (ev_bd (FX4_isAllSo f a4 m) (fun r5 m6 => (if r5 = 0 then (FX4_moodBits_J51 f (FX4_moodBits_L28 f k n) a3 a4 m6) else (FX4_moodBits_J51 f (FX4_moodBits_L28 f k n) (a3 ||| (1 <<< (a4 &&& 31))) a4 m6)))))
def FX4_moodBits (f : Nat) (o1 : Nat) (a2 : Int32) (m : ev_M) : Option (Int32 × ev_M) :=
  (if (m.1 33 6) = 0 then some (1023, m) else (ev_bd (FX4_farthestSeen f m) (fun r1 m2 => (ev_bd (FX4_listen f o1 a2 (r1 + 1) m2) (fun _ m4 => (FX4_moodBits_L28 f (fun e7 m8 => some (e7, m8)) f (0 : Int32) (0 : Int32) m4))))))
set_option maxRecDepth 100000 in
set_option maxHeartbeats 4000000 in
theorem EX4_moodBits_J51 {l : Launch} {Ln : Nat} {xs : Nat → Int32} {d : Nat} (f : Nat) (kt28 : Int32 → Int32 → ev_M → Option (Int32 × ev_M))  (a3 : Int32) (a4 : Int32)  (m : ev_M)  (hkt28 : ∀ (e3 : Int32) (e4 : Int32) (em : ev_M), Ev ev_eI l Ln xs YX4_moodBits d Sx 28 [some (.ref 33), none, none, some (.int e3), some (.int e4)] [] em (kt28 e3 e4 em)) (hd : 6 ≤ d) : Ev ev_eI l Ln xs YX4_moodBits d Sx 51 [some (.ref 33), none, none, some (.int a3), some (.int a4)] [] m (FX4_moodBits_J51 f kt28 a3 a4 m) := by
  unfold FX4_moodBits_J51
  refine Ev.run (pc' := 54) (ls' := [some (.ref 33), none, none, some (.int a3), some (.int (a4 + 1))]) (st' := []) (m' := m) [(.iinc 4 1, 0, 0, 1, 0)] (by decide +kernel) rfl ?_
  refine Ev.gto (t := 28) (by decide +kernel) ?_
  exact hkt28 _ _ _
set_option maxRecDepth 100000 in
set_option maxHeartbeats 4000000 in
theorem EX4_moodBits_L28 {l : Launch} {Ln : Nat} {xs : Nat → Int32} {d : Nat} (f : Nat) (k : Int32 → ev_M → Option (Int32 × ev_M))     (hk : ∀ (e3 : Int32) (em : ev_M), Ev ev_eI l Ln xs YX4_moodBits d Sx 57 [none, none, none, some (.int e3), none] [] em (k e3 em)) (hd : 6 ≤ d) : ∀ (n : Nat) (a3 : Int32) (a4 : Int32) (m : ev_M), Ev ev_eI l Ln xs YX4_moodBits d Sx 28 [some (.ref 33), none, none, some (.int a3), some (.int a4)] [] m (FX4_moodBits_L28 f k n a3 a4 m) := by
  intro n
  induction n with
  | zero => intros; exact Ev.nn
  | succ n ih =>
    intro a3 a4 m
    rw [FX4_moodBits_L28]
    refine Ev.run (pc' := 32) (ls' := [some (.ref 33), none, none, some (.int a3), some (.int a4)]) (st' := [.int 10, .int a4]) (m' := m) [(.iload 4, 0, 0, 0, 0), (.bipush 10, 0, 0, 10, 0)] (by decide +kernel) rfl ?_
    refine Ev.ic_ge (t := 57) (by decide +kernel) ?_ ?_
    · refine Ev.le (ls' := [none, none, none, some (.int a3), none]) ⟨rfl, trivial⟩ ?_
      exact hk _ _
    · refine Ev.run (pc' := 38) (ls' := [some (.ref 33), none, none, some (.int a3), some (.int a4)]) (st' := [.int a4, .ref 33]) (m' := m) [(.aload_n 0, 0, 0, 0, 0), (.iload 4, 0, 0, 0, 0)] (by decide +kernel) rfl ?_
      refine Ev.cV (av := [.int a4]) (st := []) (a := 33) (EX4_isAllSo (l := l) (Ln := Ln) (xs := xs) (d := 1) f a4 m (by decide)) rfl (by decide +kernel) mwX4_isAllSo iwX4_isAllSo vwX4_isAllSo lk_4_64 (by omega) (by decide) rfl (by decide) rfl rfl (Nat.le_of_ble_eq_true rfl) (fun r5 m6 => ?_)
      refine Ev.if_eq (t := 51) (by decide +kernel) ?_ ?_
      · exact EX4_moodBits_J51 f (FX4_moodBits_L28 f k n) a3 a4 m6 ih (by omega)
      · refine Ev.run (pc' := 51) (ls' := [some (.ref 33), none, none, some (.int (a3 ||| (1 <<< (a4 &&& 31)))), some (.int a4)]) (st' := []) (m' := m6) [(.iload_n 3, 0, 0, 0, 0), (.iconst 1, 0, 0, 1, 0), (.iload 4, 0, 0, 0, 0), (.ishl, 0, 0, 0, 0), (.ior, 0, 0, 0, 0), (.istore_n 3, 0, 0, 0, 0)] (by decide +kernel) rfl ?_
        exact EX4_moodBits_J51 f (FX4_moodBits_L28 f k n) (a3 ||| (1 <<< (a4 &&& 31))) a4 m6 ih (by omega)
set_option maxRecDepth 100000 in
set_option maxHeartbeats 4000000 in
theorem EX4_moodBits {l : Launch} {Ln : Nat} {xs : Nat → Int32} {d : Nat} (f : Nat) (o1 : Nat) (a2 : Int32) (m : ev_M) (h_o1 : isK 8 o1) (hd : 6 ≤ d) : Mv ev_eI l Ln xs YX4_moodBits d Sx [.ref 33, .ref o1, .int a2] m (FX4_moodBits f o1 a2 m) := by
  refine Mv.of (by decide +kernel) rfl (Nat.le_of_ble_eq_true rfl) (Ev.le (ls' := [some (.ref 33), some (.ref o1), some (.int a2), none, none]) ⟨rfl, ⟨rfl, ⟨rfl, trivial⟩⟩⟩ ?_)
  unfold FX4_moodBits
  refine Ev.run (pc' := 4) (ls' := [some (.ref 33), some (.ref o1), some (.int a2), none, none]) (st' := [.int (m.1 33 6)]) (m' := m) [(.aload_n 0, 0, 0, 0, 0), (.getfield 32, 4, 6, 0, 0)] (by decide +kernel) rfl ?_
  refine Ev.if_ne (t := 11) (by decide +kernel) ?_ ?_
  · refine Ev.run (pc' := 15) (ls' := [some (.ref 33), some (.ref o1), some (.int a2), none, none]) (st' := [.ref 33, .int a2, .ref o1, .ref 33]) (m' := m) [(.aload_n 0, 0, 0, 0, 0), (.aload_n 1, 0, 0, 0, 0), (.iload_n 2, 0, 0, 0, 0), (.aload_n 0, 0, 0, 0, 0)] (by decide +kernel) rfl ?_
    refine Ev.cV (av := []) (st := [.int a2, .ref o1, .ref 33]) (a := 33) (EX4_farthestSeen (l := l) (Ln := Ln) (xs := xs) (d := 1) f m (by decide)) rfl (by decide +kernel) mwX4_farthestSeen iwX4_farthestSeen vwX4_farthestSeen lk_4_56 (by omega) (by decide) rfl (by decide) rfl rfl (Nat.le_of_ble_eq_true rfl) (fun r1 m2 => ?_)
    refine Ev.run (pc' := 20) (ls' := [some (.ref 33), some (.ref o1), some (.int a2), none, none]) (st' := [.int (r1 + 1), .int a2, .ref o1, .ref 33]) (m' := m2) [(.iconst 1, 0, 0, 1, 0), (.iadd, 0, 0, 0, 0)] (by decide +kernel) rfl ?_
    refine Ev.cV (av := [.ref o1, .int a2, .int (r1 + 1)]) (st := []) (a := 33) (EX4_listen (l := l) (Ln := Ln) (xs := xs) (d := 5) f o1 a2 (r1 + 1) m2 h_o1 (by decide)) rfl (by decide +kernel) mwX4_listen iwX4_listen vwX4_listen lk_4_60 (by omega) (by decide) rfl (by decide) rfl rfl (Nat.le_of_ble_eq_true rfl) (fun r3 m4 => ?_)
    refine Ev.run (pc' := 28) (ls' := [some (.ref 33), some (.ref o1), some (.int a2), some (.int 0), some (.int 0)]) (st' := []) (m' := m4) [(.iconst 0, 0, 0, 0, 0), (.istore_n 3, 0, 0, 0, 0), (.iconst 0, 0, 0, 0, 0), (.istore 4, 0, 0, 0, 0)] (by decide +kernel) rfl ?_
    refine Ev.le (ls' := [some (.ref 33), none, none, some (.int 0), some (.int 0)]) ⟨rfl, ⟨rfl, ⟨rfl, trivial⟩⟩⟩ ?_
    refine EX4_moodBits_L28 f _ ?_ (by omega) _ _ _ _
    intro e7 m8
    refine Ev.run (pc' := 58) (ls' := [none, none, none, some (.int e7), none]) (st' := [.int e7]) (m' := m8) [(.iload_n 3, 0, 0, 0, 0)] (by decide +kernel) rfl ?_
    exact Ev.ireti rfl rfl (by decide +kernel)
  · refine Ev.run (pc' := 10) (ls' := [some (.ref 33), some (.ref o1), some (.int a2), none, none]) (st' := [.int 1023]) (m' := m) [(.sipush 1023, 0, 0, 1023, 0)] (by decide +kernel) rfl ?_
    exact Ev.ireti rfl rfl (by decide +kernel)
def FX7_answer_L34 (f : Nat) (k : Int64 → ev_M → Option (Int64 × ev_M)) (o1 : Nat)  : Nat → Int64 → Int32 → ev_M → Option (Int64 × ev_M)
  | 0, _, _, _ => none
  | n + 1, a2, a4, m => (ev_bd (FX3_towers f m) (fun r3 m4 => (if r3 ≤ a4 then (k a2 m4) else (ev_bd (FX7_setValues f o1 a4 m4) (fun _ m6 => (ev_bd (FX5_work f 23 (0 : Int32) (m6.1 23 1) m6) (fun r7 m8 => (ev_bd (FX7_joined f a2 a4 r7 m8) (fun r9 m10 => (FX7_answer_L34 f k o1 n r9 (a4 + 1) m10))))))))))
def FX7_answer_J30 (f : Nat)  (o1 : Nat)  (s0 : Int64) (m : ev_M) : Option (Int64 × ev_M) :=
  (FX7_answer_L34 f (fun e11 m12 => some (e11, m12)) o1 f s0 (0 : Int32) m)
def FX7_answer_J23 (f : Nat)  (o1 : Nat)   (m : ev_M) : Option (Int64 × ev_M) :=
  (FX7_answer_J30 f o1 (-1 : Int64) m)
def FX7_answer (f : Nat) (o1 : Nat) (m : ev_M) : Option (Int64 × ev_M) :=
  (ev_bd (FX7_lookAhead f o1 m) (fun _ m2 => (if (m2.1 22 6) = 23 then (FX7_answer_J23 f o1 m2) else (if (m2.1 22 6) = 24 then (FX7_answer_J23 f o1 m2) else (FX7_answer_J30 f o1 (0 : Int64) m2)))))
set_option maxRecDepth 100000 in
set_option maxHeartbeats 4000000 in
theorem EX7_answer_L34 {l : Launch} {Ln : Nat} {xs : Nat → Int32} {d : Nat} (f : Nat) (k : Int64 → ev_M → Option (Int64 × ev_M)) (o1 : Nat)  (h_o1 : isK 8 o1)  (hk : ∀ (e2 : Int64) (em : ev_M), Ev ev_eL l Ln xs YX7_answer d Sx 89 [none, none, some (.long e2), none, none] [] em (k e2 em)) (hd : 6 ≤ d) : ∀ (n : Nat) (a2 : Int64) (a4 : Int32) (m : ev_M), Ev ev_eL l Ln xs YX7_answer d Sx 34 [some (.ref 22), some (.ref o1), some (.long a2), none, some (.int a4)] [] m (FX7_answer_L34 f k o1 n a2 a4 m) := by
  intro n
  induction n with
  | zero => intros; exact Ev.nn
  | succ n ih =>
    intro a2 a4 m
    rw [FX7_answer_L34]
    refine Ev.run (pc' := 40) (ls' := [some (.ref 22), some (.ref o1), some (.long a2), none, some (.int a4)]) (st' := [.ref 16, .int a4]) (m' := m) [(.iload 4, 0, 0, 0, 0), (.aload_n 0, 0, 0, 0, 0), (.getfield 41, 7, 2, 0, 0)] (by decide +kernel) rfl ?_
    refine Ev.cV (av := []) (st := [.int a4]) (a := 16) (EX3_towers (l := l) (Ln := Ln) (xs := xs) (d := 0) f m (by decide)) rfl (by decide +kernel) mwX3_towers iwX3_towers vwX3_towers lk_7_120 (by omega) (by decide) rfl (by decide) rfl rfl (Nat.le_of_ble_eq_true rfl) (fun r3 m4 => ?_)
    refine Ev.ic_ge (t := 89) (by decide +kernel) ?_ ?_
    · refine Ev.le (ls' := [none, none, some (.long a2), none, none]) ⟨rfl, trivial⟩ ?_
      exact hk _ _
    · refine Ev.run (pc' := 50) (ls' := [some (.ref 22), some (.ref o1), some (.long a2), none, some (.int a4)]) (st' := [.int a4, .ref o1, .ref 22]) (m' := m4) [(.aload_n 0, 0, 0, 0, 0), (.aload_n 1, 0, 0, 0, 0), (.iload 4, 0, 0, 0, 0)] (by decide +kernel) rfl ?_
      refine Ev.cV (av := [.ref o1, .int a4]) (st := []) (a := 22) (EX7_setValues (l := l) (Ln := Ln) (xs := xs) (d := 0) f o1 a4 m4 h_o1 (by decide)) rfl (by decide +kernel) mwX7_setValues iwX7_setValues vwX7_setValues lk_7_125 (by omega) (by decide) rfl (by decide) rfl rfl (Nat.le_of_ble_eq_true rfl) (fun r5 m6 => ?_)
      refine Ev.run (pc' := 76) (ls' := [some (.ref 22), some (.ref o1), some (.long a2), none, some (.int a4)]) (st' := [.int (m6.1 23 1), .int 0, .ref 23, .ref 17, .int a4, .long a2, .ref 22]) (m' := m6) [(.aload_n 0, 0, 0, 0, 0), (.lload_n 2, 0, 0, 0, 0), (.iload 4, 0, 0, 0, 0), (.aload_n 0, 0, 0, 0, 0), (.getfield 41, 7, 2, 0, 0), (.getfield 129, 3, 0, 0, 0), (.aload_n 0, 0, 0, 0, 0), (.getfield 12, 7, 3, 0, 0), (.iconst 0, 0, 0, 0, 0), (.aload_n 0, 0, 0, 0, 0), (.getfield 12, 7, 3, 0, 0), (.getfield 45, 2, 1, 0, 0)] (by decide +kernel) rfl ?_
      refine Ev.cV (av := [.ref 23, .int 0, .int (m6.1 23 1)]) (st := [.int a4, .long a2, .ref 22]) (a := 17) (EX5_work (l := l) (Ln := Ln) (xs := xs) (d := 2) f 23 (0 : Int32) (m6.1 23 1) m6 (by decide) (by decide)) rfl (by decide +kernel) mwX5_work iwX5_work vwX5_work lk_7_133 (by omega) (by decide) rfl (by decide) rfl rfl (Nat.le_of_ble_eq_true rfl) (fun r7 m8 => ?_)
      refine Ev.cV (av := [.long a2, .int a4, .int r7]) (st := []) (a := 22) (EX7_joined (l := l) (Ln := Ln) (xs := xs) (d := 1) f a2 a4 r7 m8 (by decide)) rfl (by decide +kernel) mwX7_joined iwX7_joined vwX7_joined lk_7_139 (by omega) (by decide) rfl (by decide) rfl rfl (Nat.le_of_ble_eq_true rfl) (fun r9 m10 => ?_)
      refine Ev.run (pc' := 86) (ls' := [some (.ref 22), some (.ref o1), some (.long r9), none, some (.int (a4 + 1))]) (st' := []) (m' := m10) [(.lstore_n 2, 0, 0, 0, 0), (.iinc 4 1, 0, 0, 1, 0)] (by decide +kernel) rfl ?_
      refine Ev.gto (t := 34) (by decide +kernel) ?_
      exact ih _ _ _
set_option maxRecDepth 100000 in
set_option maxHeartbeats 4000000 in
theorem EX7_answer_J30 {l : Launch} {Ln : Nat} {xs : Nat → Int32} {d : Nat} (f : Nat)  (o1 : Nat)  (s0 : Int64) (m : ev_M) (h_o1 : isK 8 o1)  (hd : 6 ≤ d) : Ev ev_eL l Ln xs YX7_answer d Sx 30 [some (.ref 22), some (.ref o1), none, none, none] [.long s0] m (FX7_answer_J30 f o1 s0 m) := by
  unfold FX7_answer_J30
  refine Ev.run (pc' := 34) (ls' := [some (.ref 22), some (.ref o1), some (.long s0), none, some (.int 0)]) (st' := []) (m' := m) [(.lstore_n 2, 0, 0, 0, 0), (.iconst 0, 0, 0, 0, 0), (.istore 4, 0, 0, 0, 0)] (by decide +kernel) rfl ?_
  refine EX7_answer_L34 f _ o1 h_o1 ?_ (by omega) _ _ _ _
  intro e11 m12
  refine Ev.run (pc' := 90) (ls' := [none, none, some (.long e11), none, none]) (st' := [.long e11]) (m' := m12) [(.lload_n 2, 0, 0, 0, 0)] (by decide +kernel) rfl ?_
  exact Ev.retl rfl rfl (by decide +kernel)
set_option maxRecDepth 100000 in
set_option maxHeartbeats 4000000 in
theorem EX7_answer_J23 {l : Launch} {Ln : Nat} {xs : Nat → Int32} {d : Nat} (f : Nat)  (o1 : Nat)   (m : ev_M) (h_o1 : isK 8 o1)  (hd : 6 ≤ d) : Ev ev_eL l Ln xs YX7_answer d Sx 23 [some (.ref 22), some (.ref o1), none, none, none] [] m (FX7_answer_J23 f o1 m) := by
  unfold FX7_answer_J23
  refine Ev.run (pc' := 26) (ls' := [some (.ref 22), some (.ref o1), none, none, none]) (st' := [.long (-1)]) (m' := m) [(.ldc2_w 118, 0, 0, 0, (-1))] (by decide +kernel) rfl ?_
  refine Ev.gto (t := 30) (by decide +kernel) ?_
  exact EX7_answer_J30 f o1 (-1 : Int64) m h_o1 (by omega)
set_option maxRecDepth 100000 in
set_option maxHeartbeats 4000000 in
theorem EX7_answer {l : Launch} {Ln : Nat} {xs : Nat → Int32} {d : Nat} (f : Nat) (o1 : Nat) (m : ev_M) (h_o1 : isK 8 o1) (hd : 6 ≤ d) : Mv ev_eL l Ln xs YX7_answer d Sx [.ref 22, .ref o1] m (FX7_answer f o1 m) := by
  refine Mv.of (by decide +kernel) rfl (Nat.le_of_ble_eq_true rfl) (Ev.le (ls' := [some (.ref 22), some (.ref o1), none, none, none]) ⟨rfl, ⟨rfl, trivial⟩⟩ ?_)
  unfold FX7_answer
  refine Ev.run (pc' := 2) (ls' := [some (.ref 22), some (.ref o1), none, none, none]) (st' := [.ref o1, .ref 22]) (m' := m) [(.aload_n 0, 0, 0, 0, 0), (.aload_n 1, 0, 0, 0, 0)] (by decide +kernel) rfl ?_
  refine Ev.cV (av := [.ref o1]) (st := []) (a := 22) (EX7_lookAhead (l := l) (Ln := Ln) (xs := xs) (d := 5) f o1 m h_o1 (by decide)) rfl (by decide +kernel) mwX7_lookAhead iwX7_lookAhead vwX7_lookAhead lk_7_114 (by omega) (by decide) rfl (by decide) rfl rfl (Nat.le_of_ble_eq_true rfl) (fun r1 m2 => ?_)
  refine Ev.run (pc' := 11) (ls' := [some (.ref 22), some (.ref o1), none, none, none]) (st' := [.int 23, .int (m2.1 22 6)]) (m' := m2) [(.aload_n 0, 0, 0, 0, 0), (.getfield 29, 7, 6, 0, 0), (.bipush 23, 0, 0, 23, 0)] (by decide +kernel) rfl ?_
  refine Ev.ic_eq (t := 23) (by decide +kernel) ?_ ?_
  · exact EX7_answer_J23 f o1 m2 h_o1 (by omega)
  · refine Ev.run (pc' := 20) (ls' := [some (.ref 22), some (.ref o1), none, none, none]) (st' := [.int 24, .int (m2.1 22 6)]) (m' := m2) [(.aload_n 0, 0, 0, 0, 0), (.getfield 29, 7, 6, 0, 0), (.bipush 24, 0, 0, 24, 0)] (by decide +kernel) rfl ?_
    refine Ev.ic_ne (t := 29) (by decide +kernel) ?_ ?_
    · refine Ev.run (pc' := 30) (ls' := [some (.ref 22), some (.ref o1), none, none, none]) (st' := [.long 0]) (m' := m2) [(.lconst 0, 0, 0, 0, 0)] (by decide +kernel) rfl ?_
      exact EX7_answer_J30 f o1 (0 : Int64) m2 h_o1 (by omega)
    · exact EX7_answer_J23 f o1 m2 h_o1 (by omega)
def FX11_tone (f : Nat) (a1 : Int32) (a2 : Int32) (m : ev_M) : Option (Int32 × ev_M) :=
  (ev_bd (FX11_isTower f a1 m) (fun r1 m2 => (if r1 = 0 then some ((-1), m2) else (ev_bd (FX11_comes f a2 m2) (fun r3 m4 => (if r3 = 0 then some ((-1), m4) else (ev_bd (FX11_goAhead f (a2 + 1) m4) (fun _ m6 => (if ev_in a1 8 then some ((m6.1 21 a1.toNatClampNeg), m6) else none)))))))))
set_option maxRecDepth 100000 in
set_option maxHeartbeats 4000000 in
theorem EX11_tone {l : Launch} {Ln : Nat} {xs : Nat → Int32} {d : Nat} (f : Nat) (a1 : Int32) (a2 : Int32) (m : ev_M)  (hd : 6 ≤ d) : Mv ev_eI l Ln xs YX11_tone d Sx [.ref 0, .int a1, .int a2] m (FX11_tone f a1 a2 m) := by
  refine Mv.of (by decide +kernel) rfl (Nat.le_of_ble_eq_true rfl) (Ev.le (ls' := [some (.ref 0), some (.int a1), some (.int a2)]) ⟨rfl, ⟨rfl, ⟨rfl, trivial⟩⟩⟩ ?_)
  unfold FX11_tone
  refine Ev.run (pc' := 2) (ls' := [some (.ref 0), some (.int a1), some (.int a2)]) (st' := [.int a1, .ref 0]) (m' := m) [(.aload_n 0, 0, 0, 0, 0), (.iload_n 1, 0, 0, 0, 0)] (by decide +kernel) rfl ?_
  refine Ev.cV (av := [.int a1]) (st := []) (a := 0) (EX11_isTower (l := l) (Ln := Ln) (xs := xs) (d := 0) f a1 m (by decide)) rfl (by decide +kernel) mwX11_isTower iwX11_isTower vwX11_isTower lk_11_182 (by omega) (by decide) rfl (by decide) rfl rfl (Nat.le_of_ble_eq_true rfl) (fun r1 m2 => ?_)
  refine Ev.if_eq (t := 16) (by decide +kernel) ?_ ?_
  · refine Ev.run (pc' := 17) (ls' := [some (.ref 0), some (.int a1), some (.int a2)]) (st' := [.int (-1)]) (m' := m2) [(.iconst (-1), 0, 0, (-1), 0)] (by decide +kernel) rfl ?_
    exact Ev.ireti rfl rfl (by decide +kernel)
  · refine Ev.run (pc' := 10) (ls' := [some (.ref 0), some (.int a1), some (.int a2)]) (st' := [.int a2, .ref 0]) (m' := m2) [(.aload_n 0, 0, 0, 0, 0), (.iload_n 2, 0, 0, 0, 0)] (by decide +kernel) rfl ?_
    refine Ev.cV (av := [.int a2]) (st := []) (a := 0) (EX11_comes (l := l) (Ln := Ln) (xs := xs) (d := 0) f a2 m2 (by decide)) rfl (by decide +kernel) mwX11_comes iwX11_comes vwX11_comes lk_11_197 (by omega) (by decide) rfl (by decide) rfl rfl (Nat.le_of_ble_eq_true rfl) (fun r3 m4 => ?_)
    refine Ev.if_ne (t := 18) (by decide +kernel) ?_ ?_
    · refine Ev.run (pc' := 22) (ls' := [some (.ref 0), some (.int a1), some (.int a2)]) (st' := [.int (a2 + 1), .ref 0]) (m' := m4) [(.aload_n 0, 0, 0, 0, 0), (.iload_n 2, 0, 0, 0, 0), (.iconst 1, 0, 0, 1, 0), (.iadd, 0, 0, 0, 0)] (by decide +kernel) rfl ?_
      refine Ev.cV (av := [.int (a2 + 1)]) (st := []) (a := 0) (EX11_goAhead (l := l) (Ln := Ln) (xs := xs) (d := 5) f (a2 + 1) m4 (by decide)) rfl (by decide +kernel) mwX11_goAhead iwX11_goAhead vwX11_goAhead lk_11_200 (by omega) (by decide) rfl (by decide) rfl rfl (Nat.le_of_ble_eq_true rfl) (fun r5 m6 => ?_)
      refine Ev.run (pc' := 33) (ls' := [some (.ref 0), some (.int a1), some (.int a2)]) (st' := [.int a1, .ref 21]) (m' := m6) [(.aload_n 0, 0, 0, 0, 0), (.getfield 40, 11, 4, 0, 0), (.getfield 203, 3, 1, 0, 0), (.iload_n 1, 0, 0, 0, 0)] (by decide +kernel) rfl ?_
      refine Ev.iald (n := 8) (by decide +kernel) (by decide) rfl ?_
      exact Ev.ireti rfl rfl (by decide +kernel)
    · refine Ev.run (pc' := 17) (ls' := [some (.ref 0), some (.int a1), some (.int a2)]) (st' := [.int (-1)]) (m' := m4) [(.iconst (-1), 0, 0, (-1), 0)] (by decide +kernel) rfl ?_
      exact Ev.ireti rfl rfl (by decide +kernel)
def FX11_mood (f : Nat) (a1 : Int32) (a2 : Int32) (m : ev_M) : Option (Int32 × ev_M) :=
  (ev_bd (FX11_isTower f a1 m) (fun r1 m2 => (if r1 = 0 then some ((-1), m2) else (ev_bd (FX11_canBeAhead f a2 (0 : Int32) (60 : Int32) m2) (fun r3 m4 => (if r3 = 0 then some ((-1), m4) else (ev_bd (FX11_goAhead f a2 m4) (fun _ m6 => (if ev_in a1 8 then some ((m6.1 107 a1.toNatClampNeg), m6) else none)))))))))
set_option maxRecDepth 100000 in
set_option maxHeartbeats 4000000 in
theorem EX11_mood {l : Launch} {Ln : Nat} {xs : Nat → Int32} {d : Nat} (f : Nat) (a1 : Int32) (a2 : Int32) (m : ev_M)  (hd : 6 ≤ d) : Mv ev_eI l Ln xs YX11_mood d Sx [.ref 0, .int a1, .int a2] m (FX11_mood f a1 a2 m) := by
  refine Mv.of (by decide +kernel) rfl (Nat.le_of_ble_eq_true rfl) (Ev.le (ls' := [some (.ref 0), some (.int a1), some (.int a2)]) ⟨rfl, ⟨rfl, ⟨rfl, trivial⟩⟩⟩ ?_)
  unfold FX11_mood
  refine Ev.run (pc' := 2) (ls' := [some (.ref 0), some (.int a1), some (.int a2)]) (st' := [.int a1, .ref 0]) (m' := m) [(.aload_n 0, 0, 0, 0, 0), (.iload_n 1, 0, 0, 0, 0)] (by decide +kernel) rfl ?_
  refine Ev.cV (av := [.int a1]) (st := []) (a := 0) (EX11_isTower (l := l) (Ln := Ln) (xs := xs) (d := 0) f a1 m (by decide)) rfl (by decide +kernel) mwX11_isTower iwX11_isTower vwX11_isTower lk_11_182 (by omega) (by decide) rfl (by decide) rfl rfl (Nat.le_of_ble_eq_true rfl) (fun r1 m2 => ?_)
  refine Ev.if_eq (t := 19) (by decide +kernel) ?_ ?_
  · refine Ev.run (pc' := 20) (ls' := [some (.ref 0), some (.int a1), some (.int a2)]) (st' := [.int (-1)]) (m' := m2) [(.iconst (-1), 0, 0, (-1), 0)] (by decide +kernel) rfl ?_
    exact Ev.ireti rfl rfl (by decide +kernel)
  · refine Ev.run (pc' := 13) (ls' := [some (.ref 0), some (.int a1), some (.int a2)]) (st' := [.int 60, .int 0, .int a2, .ref 0]) (m' := m2) [(.aload_n 0, 0, 0, 0, 0), (.iload_n 2, 0, 0, 0, 0), (.iconst 0, 0, 0, 0, 0), (.bipush 60, 0, 0, 60, 0)] (by decide +kernel) rfl ?_
    refine Ev.cV (av := [.int a2, .int 0, .int 60]) (st := []) (a := 0) (EX11_canBeAhead (l := l) (Ln := Ln) (xs := xs) (d := 0) f a2 (0 : Int32) (60 : Int32) m2 (by decide)) rfl (by decide +kernel) mwX11_canBeAhead iwX11_canBeAhead vwX11_canBeAhead lk_11_206 (by omega) (by decide) rfl (by decide) rfl rfl (Nat.le_of_ble_eq_true rfl) (fun r3 m4 => ?_)
    refine Ev.if_ne (t := 21) (by decide +kernel) ?_ ?_
    · refine Ev.run (pc' := 23) (ls' := [some (.ref 0), some (.int a1), some (.int a2)]) (st' := [.int a2, .ref 0]) (m' := m4) [(.aload_n 0, 0, 0, 0, 0), (.iload_n 2, 0, 0, 0, 0)] (by decide +kernel) rfl ?_
      refine Ev.cV (av := [.int a2]) (st := []) (a := 0) (EX11_goAhead (l := l) (Ln := Ln) (xs := xs) (d := 5) f a2 m4 (by decide)) rfl (by decide +kernel) mwX11_goAhead iwX11_goAhead vwX11_goAhead lk_11_200 (by omega) (by decide) rfl (by decide) rfl rfl (Nat.le_of_ble_eq_true rfl) (fun r5 m6 => ?_)
      refine Ev.run (pc' := 34) (ls' := [some (.ref 0), some (.int a1), some (.int a2)]) (st' := [.int a1, .ref 107]) (m' := m6) [(.aload_n 0, 0, 0, 0, 0), (.getfield 83, 11, 10, 0, 0), (.getfield 188, 8, 0, 0, 0), (.iload_n 1, 0, 0, 0, 0)] (by decide +kernel) rfl ?_
      refine Ev.iald (n := 8) (by decide +kernel) (by decide) rfl ?_
      exact Ev.ireti rfl rfl (by decide +kernel)
    · refine Ev.run (pc' := 20) (ls' := [some (.ref 0), some (.int a1), some (.int a2)]) (st' := [.int (-1)]) (m' := m4) [(.iconst (-1), 0, 0, (-1), 0)] (by decide +kernel) rfl ?_
      exact Ev.ireti rfl rfl (by decide +kernel)
def FX11_doubts (f : Nat) (a1 : Int32) (m : ev_M) : Option (Int32 × ev_M) :=
  (ev_bd (FX11_isTold f m) (fun r1 m2 => (if r1 = 0 then some ((-1), m2) else (ev_bd (FX11_comes f a1 m2) (fun r3 m4 => (if r3 = 0 then some ((-1), m4) else (ev_bd (FX11_goAhead f (a1 + 1) m4) (fun _ m6 => (ev_bd (FX3_doubtfulOnes f m6) (fun r7 m8 => some (r7, m8)))))))))))
set_option maxRecDepth 100000 in
set_option maxHeartbeats 4000000 in
theorem EX11_doubts {l : Launch} {Ln : Nat} {xs : Nat → Int32} {d : Nat} (f : Nat) (a1 : Int32) (m : ev_M)  (hd : 6 ≤ d) : Mv ev_eI l Ln xs YX11_doubts d Sx [.ref 0, .int a1] m (FX11_doubts f a1 m) := by
  refine Mv.of (by decide +kernel) rfl (Nat.le_of_ble_eq_true rfl) (Ev.le (ls' := [some (.ref 0), some (.int a1)]) ⟨rfl, ⟨rfl, trivial⟩⟩ ?_)
  unfold FX11_doubts
  refine Ev.run (pc' := 1) (ls' := [some (.ref 0), some (.int a1)]) (st' := [.ref 0]) (m' := m) [(.aload_n 0, 0, 0, 0, 0)] (by decide +kernel) rfl ?_
  refine Ev.cV (av := []) (st := []) (a := 0) (EX11_isTold (l := l) (Ln := Ln) (xs := xs) (d := 0) f m (by decide)) rfl (by decide +kernel) mwX11_isTold iwX11_isTold vwX11_isTold lk_11_153 (by omega) (by decide) rfl (by decide) rfl rfl (Nat.le_of_ble_eq_true rfl) (fun r1 m2 => ?_)
  refine Ev.if_eq (t := 15) (by decide +kernel) ?_ ?_
  · refine Ev.run (pc' := 16) (ls' := [some (.ref 0), some (.int a1)]) (st' := [.int (-1)]) (m' := m2) [(.iconst (-1), 0, 0, (-1), 0)] (by decide +kernel) rfl ?_
    exact Ev.ireti rfl rfl (by decide +kernel)
  · refine Ev.run (pc' := 9) (ls' := [some (.ref 0), some (.int a1)]) (st' := [.int a1, .ref 0]) (m' := m2) [(.aload_n 0, 0, 0, 0, 0), (.iload_n 1, 0, 0, 0, 0)] (by decide +kernel) rfl ?_
    refine Ev.cV (av := [.int a1]) (st := []) (a := 0) (EX11_comes (l := l) (Ln := Ln) (xs := xs) (d := 0) f a1 m2 (by decide)) rfl (by decide +kernel) mwX11_comes iwX11_comes vwX11_comes lk_11_197 (by omega) (by decide) rfl (by decide) rfl rfl (Nat.le_of_ble_eq_true rfl) (fun r3 m4 => ?_)
    refine Ev.if_ne (t := 17) (by decide +kernel) ?_ ?_
    · refine Ev.run (pc' := 21) (ls' := [some (.ref 0), some (.int a1)]) (st' := [.int (a1 + 1), .ref 0]) (m' := m4) [(.aload_n 0, 0, 0, 0, 0), (.iload_n 1, 0, 0, 0, 0), (.iconst 1, 0, 0, 1, 0), (.iadd, 0, 0, 0, 0)] (by decide +kernel) rfl ?_
      refine Ev.cV (av := [.int (a1 + 1)]) (st := []) (a := 0) (EX11_goAhead (l := l) (Ln := Ln) (xs := xs) (d := 5) f (a1 + 1) m4 (by decide)) rfl (by decide +kernel) mwX11_goAhead iwX11_goAhead vwX11_goAhead lk_11_200 (by omega) (by decide) rfl (by decide) rfl rfl (Nat.le_of_ble_eq_true rfl) (fun r5 m6 => ?_)
      refine Ev.run (pc' := 28) (ls' := [some (.ref 0), some (.int a1)]) (st' := [.ref 16]) (m' := m6) [(.aload_n 0, 0, 0, 0, 0), (.getfield 40, 11, 4, 0, 0)] (by decide +kernel) rfl ?_
      refine Ev.cV (av := []) (st := []) (a := 16) (EX3_doubtfulOnes (l := l) (Ln := Ln) (xs := xs) (d := 1) f m6 (by decide)) rfl (by decide +kernel) mwX3_doubtfulOnes iwX3_doubtfulOnes vwX3_doubtfulOnes lk_11_210 (by omega) (by decide) rfl (by decide) rfl rfl (Nat.le_of_ble_eq_true rfl) (fun r7 m8 => ?_)
      exact Ev.ireti rfl rfl (by decide +kernel)
    · refine Ev.run (pc' := 16) (ls' := [some (.ref 0), some (.int a1)]) (st' := [.int (-1)]) (m' := m4) [(.iconst (-1), 0, 0, (-1), 0)] (by decide +kernel) rfl ?_
      exact Ev.ireti rfl rfl (by decide +kernel)
def FX11_moods (f : Nat) (a1 : Int32) (m : ev_M) : Option (Int32 × ev_M) :=
  (ev_bd (FX11_isTower f a1 m) (fun r1 m2 => (if r1 = 0 then some ((-1), m2) else (ev_bd (FX4_moodBits f 103 a1 m2) (fun r3 m4 => some (r3, m4))))))
set_option maxRecDepth 100000 in
set_option maxHeartbeats 4000000 in
theorem EX11_moods {l : Launch} {Ln : Nat} {xs : Nat → Int32} {d : Nat} (f : Nat) (a1 : Int32) (m : ev_M)  (hd : 7 ≤ d) : Mv ev_eI l Ln xs YX11_moods d Sx [.ref 0, .int a1] m (FX11_moods f a1 m) := by
  refine Mv.of (by decide +kernel) rfl (Nat.le_of_ble_eq_true rfl) (Ev.le (ls' := [some (.ref 0), some (.int a1)]) ⟨rfl, ⟨rfl, trivial⟩⟩ ?_)
  unfold FX11_moods
  refine Ev.run (pc' := 2) (ls' := [some (.ref 0), some (.int a1)]) (st' := [.int a1, .ref 0]) (m' := m) [(.aload_n 0, 0, 0, 0, 0), (.iload_n 1, 0, 0, 0, 0)] (by decide +kernel) rfl ?_
  refine Ev.cV (av := [.int a1]) (st := []) (a := 0) (EX11_isTower (l := l) (Ln := Ln) (xs := xs) (d := 0) f a1 m (by decide)) rfl (by decide +kernel) mwX11_isTower iwX11_isTower vwX11_isTower lk_11_182 (by omega) (by decide) rfl (by decide) rfl rfl (Nat.le_of_ble_eq_true rfl) (fun r1 m2 => ?_)
  refine Ev.if_eq (t := 23) (by decide +kernel) ?_ ?_
  · refine Ev.run (pc' := 24) (ls' := [some (.ref 0), some (.int a1)]) (st' := [.int (-1)]) (m' := m2) [(.iconst (-1), 0, 0, (-1), 0)] (by decide +kernel) rfl ?_
    exact Ev.ireti rfl rfl (by decide +kernel)
  · refine Ev.run (pc' := 17) (ls' := [some (.ref 0), some (.int a1)]) (st' := [.int a1, .ref 103, .ref 33]) (m' := m2) [(.aload_n 0, 0, 0, 0, 0), (.getfield 65, 11, 7, 0, 0), (.aload_n 0, 0, 0, 0, 0), (.getfield 79, 11, 9, 0, 0), (.iload_n 1, 0, 0, 0, 0)] (by decide +kernel) rfl ?_
    refine Ev.cV (av := [.ref 103, .int a1]) (st := []) (a := 33) (EX4_moodBits (l := l) (Ln := Ln) (xs := xs) (d := 6) f 103 a1 m2 (by decide) (by decide)) rfl (by decide +kernel) mwX4_moodBits iwX4_moodBits vwX4_moodBits lk_11_266 (by omega) (by decide) rfl (by decide) rfl rfl (Nat.le_of_ble_eq_true rfl) (fun r3 m4 => ?_)
    refine Ev.gto (t := 24) (by decide +kernel) ?_
    exact Ev.ireti rfl rfl (by decide +kernel)
def FX11_tells (f : Nat) (a1 : Int32) (a2 : Int32) (m : ev_M) : Option (Int32 × ev_M) :=
  (ev_bd (FX11_isTower f a1 m) (fun r1 m2 => (if r1 = 0 then some ((-1), m2) else (if a2 < 0 then some ((-1), m2) else (if a2 ≤ 2 then (ev_bd (FX4_moodBits f 103 a1 m2) (fun r3 m4 => (if r3 = 0 then some ((-1), m4) else (ev_bd (FX8_hasNext f 103 m4) (fun r5 m6 => (if r5 = 0 then some ((-1), m6) else (ev_bd (FX4_seekTelling f 103 a1 r3 m6) (fun _ m8 => (if a2 = 2 then some ((m8.1 33 9), m8) else (if a2 = 0 then some ((m8.1 33 7), m8) else some ((m8.1 33 8), m8))))))))))) else some ((-1), m2))))))
set_option maxRecDepth 100000 in
set_option maxHeartbeats 4000000 in
theorem EX11_tells {l : Launch} {Ln : Nat} {xs : Nat → Int32} {d : Nat} (f : Nat) (a1 : Int32) (a2 : Int32) (m : ev_M)  (hd : 7 ≤ d) : Mv ev_eI l Ln xs YX11_tells d Sx [.ref 0, .int a1, .int a2] m (FX11_tells f a1 a2 m) := by
  refine Mv.of (by decide +kernel) rfl (Nat.le_of_ble_eq_true rfl) (Ev.le (ls' := [some (.ref 0), some (.int a1), some (.int a2), none]) ⟨rfl, ⟨rfl, ⟨rfl, trivial⟩⟩⟩ ?_)
  unfold FX11_tells
  refine Ev.run (pc' := 2) (ls' := [some (.ref 0), some (.int a1), some (.int a2), none]) (st' := [.int a1, .ref 0]) (m' := m) [(.aload_n 0, 0, 0, 0, 0), (.iload_n 1, 0, 0, 0, 0)] (by decide +kernel) rfl ?_
  refine Ev.cV (av := [.int a1]) (st := []) (a := 0) (EX11_isTower (l := l) (Ln := Ln) (xs := xs) (d := 0) f a1 m (by decide)) rfl (by decide +kernel) mwX11_isTower iwX11_isTower vwX11_isTower lk_11_182 (by omega) (by decide) rfl (by decide) rfl rfl (Nat.le_of_ble_eq_true rfl) (fun r1 m2 => ?_)
  refine Ev.if_eq (t := 17) (by decide +kernel) ?_ ?_
  · refine Ev.run (pc' := 18) (ls' := [some (.ref 0), some (.int a1), some (.int a2), none]) (st' := [.int (-1)]) (m' := m2) [(.iconst (-1), 0, 0, (-1), 0)] (by decide +kernel) rfl ?_
    exact Ev.ireti rfl rfl (by decide +kernel)
  · refine Ev.run (pc' := 9) (ls' := [some (.ref 0), some (.int a1), some (.int a2), none]) (st' := [.int a2]) (m' := m2) [(.iload_n 2, 0, 0, 0, 0)] (by decide +kernel) rfl ?_
    refine Ev.if_lt (t := 17) (by decide +kernel) ?_ ?_
    · refine Ev.run (pc' := 18) (ls' := [some (.ref 0), some (.int a1), some (.int a2), none]) (st' := [.int (-1)]) (m' := m2) [(.iconst (-1), 0, 0, (-1), 0)] (by decide +kernel) rfl ?_
      exact Ev.ireti rfl rfl (by decide +kernel)
    · refine Ev.run (pc' := 14) (ls' := [some (.ref 0), some (.int a1), some (.int a2), none]) (st' := [.int 2, .int a2]) (m' := m2) [(.iload_n 2, 0, 0, 0, 0), (.iconst 2, 0, 0, 2, 0)] (by decide +kernel) rfl ?_
      refine Ev.ic_le (t := 19) (by decide +kernel) ?_ ?_
      · refine Ev.run (pc' := 28) (ls' := [some (.ref 0), some (.int a1), some (.int a2), none]) (st' := [.int a1, .ref 103, .ref 33]) (m' := m2) [(.aload_n 0, 0, 0, 0, 0), (.getfield 65, 11, 7, 0, 0), (.aload_n 0, 0, 0, 0, 0), (.getfield 79, 11, 9, 0, 0), (.iload_n 1, 0, 0, 0, 0)] (by decide +kernel) rfl ?_
        refine Ev.cV (av := [.ref 103, .int a1]) (st := []) (a := 33) (EX4_moodBits (l := l) (Ln := Ln) (xs := xs) (d := 6) f 103 a1 m2 (by decide) (by decide)) rfl (by decide +kernel) mwX4_moodBits iwX4_moodBits vwX4_moodBits lk_11_266 (by omega) (by decide) rfl (by decide) rfl rfl (Nat.le_of_ble_eq_true rfl) (fun r3 m4 => ?_)
        refine Ev.run (pc' := 33) (ls' := [some (.ref 0), some (.int a1), some (.int a2), some (.int r3)]) (st' := [.int r3]) (m' := m4) [(.istore_n 3, 0, 0, 0, 0), (.iload_n 3, 0, 0, 0, 0)] (by decide +kernel) rfl ?_
        refine Ev.if_eq (t := 46) (by decide +kernel) ?_ ?_
        · refine Ev.run (pc' := 47) (ls' := [some (.ref 0), some (.int a1), some (.int a2), some (.int r3)]) (st' := [.int (-1)]) (m' := m4) [(.iconst (-1), 0, 0, (-1), 0)] (by decide +kernel) rfl ?_
          exact Ev.ireti rfl rfl (by decide +kernel)
        · refine Ev.run (pc' := 40) (ls' := [some (.ref 0), some (.int a1), some (.int a2), some (.int r3)]) (st' := [.ref 103]) (m' := m4) [(.aload_n 0, 0, 0, 0, 0), (.getfield 79, 11, 9, 0, 0)] (by decide +kernel) rfl ?_
          refine Ev.cV (av := []) (st := []) (a := 103) (EX8_hasNext (l := l) (Ln := Ln) (xs := xs) (d := 0) f 103 m4 (by decide) (by decide)) rfl (by decide +kernel) mwX8_hasNext iwX8_hasNext vwX8_hasNext lk_11_217 (by omega) (by decide) rfl (by decide) rfl rfl (Nat.le_of_ble_eq_true rfl) (fun r5 m6 => ?_)
          refine Ev.if_ne (t := 48) (by decide +kernel) ?_ ?_
          · refine Ev.run (pc' := 58) (ls' := [some (.ref 0), some (.int a1), some (.int a2), some (.int r3)]) (st' := [.int r3, .int a1, .ref 103, .ref 33]) (m' := m6) [(.aload_n 0, 0, 0, 0, 0), (.getfield 65, 11, 7, 0, 0), (.aload_n 0, 0, 0, 0, 0), (.getfield 79, 11, 9, 0, 0), (.iload_n 1, 0, 0, 0, 0), (.iload_n 3, 0, 0, 0, 0)] (by decide +kernel) rfl ?_
            refine Ev.cV (av := [.ref 103, .int a1, .int r3]) (st := []) (a := 33) (EX4_seekTelling (l := l) (Ln := Ln) (xs := xs) (d := 6) f 103 a1 r3 m6 (by decide) (by decide)) rfl (by decide +kernel) mwX4_seekTelling iwX4_seekTelling vwX4_seekTelling lk_11_269 (by omega) (by decide) rfl (by decide) rfl rfl (Nat.le_of_ble_eq_true rfl) (fun r7 m8 => ?_)
            refine Ev.run (pc' := 63) (ls' := [some (.ref 0), some (.int a1), some (.int a2), some (.int r3)]) (st' := [.int 2, .int a2]) (m' := m8) [(.iload_n 2, 0, 0, 0, 0), (.iconst 2, 0, 0, 2, 0)] (by decide +kernel) rfl ?_
            refine Ev.ic_ne (t := 74) (by decide +kernel) ?_ ?_
            · refine Ev.run (pc' := 75) (ls' := [some (.ref 0), some (.int a1), some (.int a2), some (.int r3)]) (st' := [.int a2]) (m' := m8) [(.iload_n 2, 0, 0, 0, 0)] (by decide +kernel) rfl ?_
              refine Ev.if_ne (t := 88) (by decide +kernel) ?_ ?_
              · refine Ev.run (pc' := 95) (ls' := [some (.ref 0), some (.int a1), some (.int a2), some (.int r3)]) (st' := [.int (m8.1 33 8)]) (m' := m8) [(.aload_n 0, 0, 0, 0, 0), (.getfield 65, 11, 7, 0, 0), (.getfield 279, 4, 8, 0, 0)] (by decide +kernel) rfl ?_
                exact Ev.ireti rfl rfl (by decide +kernel)
              · refine Ev.run (pc' := 85) (ls' := [some (.ref 0), some (.int a1), some (.int a2), some (.int r3)]) (st' := [.int (m8.1 33 7)]) (m' := m8) [(.aload_n 0, 0, 0, 0, 0), (.getfield 65, 11, 7, 0, 0), (.getfield 276, 4, 7, 0, 0)] (by decide +kernel) rfl ?_
                refine Ev.gto (t := 95) (by decide +kernel) ?_
                exact Ev.ireti rfl rfl (by decide +kernel)
            · refine Ev.run (pc' := 73) (ls' := [some (.ref 0), some (.int a1), some (.int a2), some (.int r3)]) (st' := [.int (m8.1 33 9)]) (m' := m8) [(.aload_n 0, 0, 0, 0, 0), (.getfield 65, 11, 7, 0, 0), (.getfield 273, 4, 9, 0, 0)] (by decide +kernel) rfl ?_
              exact Ev.ireti rfl rfl (by decide +kernel)
          · refine Ev.run (pc' := 47) (ls' := [some (.ref 0), some (.int a1), some (.int a2), some (.int r3)]) (st' := [.int (-1)]) (m' := m6) [(.iconst (-1), 0, 0, (-1), 0)] (by decide +kernel) rfl ?_
            exact Ev.ireti rfl rfl (by decide +kernel)
      · refine Ev.run (pc' := 18) (ls' := [some (.ref 0), some (.int a1), some (.int a2), none]) (st' := [.int (-1)]) (m' := m2) [(.iconst (-1), 0, 0, (-1), 0)] (by decide +kernel) rfl ?_
        exact Ev.ireti rfl rfl (by decide +kernel)
def FX11_rounds_L31 (f : Nat) (k : Int32 → ev_M → Option (Int32 × ev_M))  (a1 : Int32) : Nat → Int32 → Int32 → ev_M → Option (Int32 × ev_M)
  | 0, _, _, _ => none
  | n + 1, a2, a3, m => (if a1 ≤ a3 then (k a2 m) else (ev_bd (FX11_goOn f m) (fun r5 m6 => (FX11_rounds_L31 f k a1 n (a2 + r5) (a3 + 1) m6))))
def FX11_rounds (f : Nat) (a1 : Int32) (m : ev_M) : Option (Int32 × ev_M) :=
  (ev_bd (FX11_canGo f a1 m) (fun r1 m2 => (if r1 = 0 then (ev_bd (FX11_refuse f (3 : Int32) m2) (fun r9 m10 => some ((-1), m10))) else (ev_bd (FX6_keep f 103 m2) (fun _ m4 => (FX11_rounds_L31 f (fun e7 m8 => some (e7, m8)) a1 f (0 : Int32) (0 : Int32) m4))))))
set_option maxRecDepth 100000 in
set_option maxHeartbeats 4000000 in
theorem EX11_rounds_L31 {l : Launch} {Ln : Nat} {xs : Nat → Int32} {d : Nat} (f : Nat) (k : Int32 → ev_M → Option (Int32 × ev_M))  (a1 : Int32)   (hk : ∀ (e2 : Int32) (em : ev_M), Ev ev_eI l Ln xs YX11_rounds d Sx 49 [none, none, some (.int e2), none] [] em (k e2 em)) (hd : 6 ≤ d) : ∀ (n : Nat) (a2 : Int32) (a3 : Int32) (m : ev_M), Ev ev_eI l Ln xs YX11_rounds d Sx 31 [some (.ref 0), some (.int a1), some (.int a2), some (.int a3)] [] m (FX11_rounds_L31 f k a1 n a2 a3 m) := by
  intro n
  induction n with
  | zero => intros; exact Ev.nn
  | succ n ih =>
    intro a2 a3 m
    rw [FX11_rounds_L31]
    refine Ev.run (pc' := 33) (ls' := [some (.ref 0), some (.int a1), some (.int a2), some (.int a3)]) (st' := [.int a1, .int a3]) (m' := m) [(.iload_n 3, 0, 0, 0, 0), (.iload_n 1, 0, 0, 0, 0)] (by decide +kernel) rfl ?_
    refine Ev.ic_ge (t := 49) (by decide +kernel) ?_ ?_
    · refine Ev.le (ls' := [none, none, some (.int a2), none]) ⟨rfl, trivial⟩ ?_
      exact hk _ _
    · refine Ev.run (pc' := 38) (ls' := [some (.ref 0), some (.int a1), some (.int a2), some (.int a3)]) (st' := [.ref 0, .int a2]) (m' := m) [(.iload_n 2, 0, 0, 0, 0), (.aload_n 0, 0, 0, 0, 0)] (by decide +kernel) rfl ?_
      refine Ev.cV (av := []) (st := [.int a2]) (a := 0) (EX11_goOn (l := l) (Ln := Ln) (xs := xs) (d := 5) f m (by decide)) rfl (by decide +kernel) mwX11_goOn iwX11_goOn vwX11_goOn lk_11_292 (by omega) (by decide) rfl (by decide) rfl rfl (Nat.le_of_ble_eq_true rfl) (fun r5 m6 => ?_)
      refine Ev.run (pc' := 46) (ls' := [some (.ref 0), some (.int a1), some (.int (a2 + r5)), some (.int (a3 + 1))]) (st' := []) (m' := m6) [(.iadd, 0, 0, 0, 0), (.istore_n 2, 0, 0, 0, 0), (.iinc 3 1, 0, 0, 1, 0)] (by decide +kernel) rfl ?_
      refine Ev.gto (t := 31) (by decide +kernel) ?_
      exact ih _ _ _
set_option maxRecDepth 100000 in
set_option maxHeartbeats 4000000 in
theorem EX11_rounds {l : Launch} {Ln : Nat} {xs : Nat → Int32} {d : Nat} (f : Nat) (a1 : Int32) (m : ev_M)  (hd : 6 ≤ d) : Mv ev_eI l Ln xs YX11_rounds d Sx [.ref 0, .int a1] m (FX11_rounds f a1 m) := by
  refine Mv.of (by decide +kernel) rfl (Nat.le_of_ble_eq_true rfl) (Ev.le (ls' := [some (.ref 0), some (.int a1), none, none]) ⟨rfl, ⟨rfl, trivial⟩⟩ ?_)
  unfold FX11_rounds
  refine Ev.run (pc' := 2) (ls' := [some (.ref 0), some (.int a1), none, none]) (st' := [.int a1, .ref 0]) (m' := m) [(.aload_n 0, 0, 0, 0, 0), (.iload_n 1, 0, 0, 0, 0)] (by decide +kernel) rfl ?_
  refine Ev.cV (av := [.int a1]) (st := []) (a := 0) (EX11_canGo (l := l) (Ln := Ln) (xs := xs) (d := 1) f a1 m (by decide)) rfl (by decide +kernel) mwX11_canGo iwX11_canGo vwX11_canGo lk_11_289 (by omega) (by decide) rfl (by decide) rfl rfl (Nat.le_of_ble_eq_true rfl) (fun r1 m2 => ?_)
  refine Ev.if_ne (t := 16) (by decide +kernel) ?_ ?_
  · refine Ev.run (pc' := 24) (ls' := [some (.ref 0), some (.int a1), none, none]) (st' := [.ref 103, .ref 40]) (m' := m2) [(.aload_n 0, 0, 0, 0, 0), (.getfield 72, 11, 8, 0, 0), (.aload_n 0, 0, 0, 0, 0), (.getfield 79, 11, 9, 0, 0)] (by decide +kernel) rfl ?_
    refine Ev.cV (av := [.ref 103]) (st := []) (a := 40) (EX6_keep (l := l) (Ln := Ln) (xs := xs) (d := 1) f 103 m2 (by decide) (by decide)) rfl (by decide +kernel) mwX6_keep iwX6_keep vwX6_keep lk_11_282 (by omega) (by decide) rfl (by decide) rfl rfl (Nat.le_of_ble_eq_true rfl) (fun r3 m4 => ?_)
    refine Ev.run (pc' := 31) (ls' := [some (.ref 0), some (.int a1), some (.int 0), some (.int 0)]) (st' := []) (m' := m4) [(.iconst 0, 0, 0, 0, 0), (.istore_n 2, 0, 0, 0, 0), (.iconst 0, 0, 0, 0, 0), (.istore_n 3, 0, 0, 0, 0)] (by decide +kernel) rfl ?_
    refine EX11_rounds_L31 f _ a1 ?_ (by omega) _ _ _ _
    intro e7 m8
    refine Ev.run (pc' := 50) (ls' := [none, none, some (.int e7), none]) (st' := [.int e7]) (m' := m8) [(.iload_n 2, 0, 0, 0, 0)] (by decide +kernel) rfl ?_
    exact Ev.ireti rfl rfl (by decide +kernel)
  · refine Ev.run (pc' := 10) (ls' := [some (.ref 0), some (.int a1), none, none]) (st' := [.int 3, .ref 0]) (m' := m2) [(.aload_n 0, 0, 0, 0, 0), (.iconst 3, 0, 0, 3, 0)] (by decide +kernel) rfl ?_
    refine Ev.cV (av := [.int 3]) (st := []) (a := 0) (EX11_refuse (l := l) (Ln := Ln) (xs := xs) (d := 0) f (3 : Int32) m2 (by decide)) rfl (by decide +kernel) mwX11_refuse iwX11_refuse vwX11_refuse lk_11_115 (by omega) (by decide) rfl (by decide) rfl rfl (Nat.le_of_ble_eq_true rfl) (fun r9 m10 => ?_)
    refine Ev.run (pc' := 15) (ls' := [some (.ref 0), some (.int a1), none, none]) (st' := [.int (-1)]) (m' := m10) [(.pop, 0, 0, 0, 0), (.iconst (-1), 0, 0, (-1), 0)] (by decide +kernel) rfl ?_
    exact Ev.ireti rfl rfl (by decide +kernel)
def FX11_chance_L31 (f : Nat) (k : Int32 → ev_M → Option (Int32 × ev_M))  (a1 : Int32) : Nat → Int32 → Int32 → ev_M → Option (Int32 × ev_M)
  | 0, _, _, _ => none
  | n + 1, a2, a3, m => (if a1 ≤ a3 then (k a2 m) else (ev_bd (FX11_catchCold f m) (fun r5 m6 => (ev_bd (FX11_goOn f m6) (fun r7 m8 => (FX11_chance_L31 f k a1 n (a2 + r5) (a3 + 1) m8))))))
def FX11_chance (f : Nat) (a1 : Int32) (m : ev_M) : Option (Int32 × ev_M) :=
  (ev_bd (FX11_canGo f a1 m) (fun r1 m2 => (if r1 = 0 then (ev_bd (FX11_refuse f (3 : Int32) m2) (fun r11 m12 => some ((-1), m12))) else (ev_bd (FX6_keep f 103 m2) (fun _ m4 => (FX11_chance_L31 f (fun e9 m10 => some (e9, m10)) a1 f (0 : Int32) (0 : Int32) m4))))))
set_option maxRecDepth 100000 in
set_option maxHeartbeats 4000000 in
theorem EX11_chance_L31 {l : Launch} {Ln : Nat} {xs : Nat → Int32} {d : Nat} (f : Nat) (k : Int32 → ev_M → Option (Int32 × ev_M))  (a1 : Int32)   (hk : ∀ (e2 : Int32) (em : ev_M), Ev ev_eI l Ln xs YX11_chance d Sx 54 [none, none, some (.int e2), none] [] em (k e2 em)) (hd : 6 ≤ d) : ∀ (n : Nat) (a2 : Int32) (a3 : Int32) (m : ev_M), Ev ev_eI l Ln xs YX11_chance d Sx 31 [some (.ref 0), some (.int a1), some (.int a2), some (.int a3)] [] m (FX11_chance_L31 f k a1 n a2 a3 m) := by
  intro n
  induction n with
  | zero => intros; exact Ev.nn
  | succ n ih =>
    intro a2 a3 m
    rw [FX11_chance_L31]
    refine Ev.run (pc' := 33) (ls' := [some (.ref 0), some (.int a1), some (.int a2), some (.int a3)]) (st' := [.int a1, .int a3]) (m' := m) [(.iload_n 3, 0, 0, 0, 0), (.iload_n 1, 0, 0, 0, 0)] (by decide +kernel) rfl ?_
    refine Ev.ic_ge (t := 54) (by decide +kernel) ?_ ?_
    · refine Ev.le (ls' := [none, none, some (.int a2), none]) ⟨rfl, trivial⟩ ?_
      exact hk _ _
    · refine Ev.run (pc' := 38) (ls' := [some (.ref 0), some (.int a1), some (.int a2), some (.int a3)]) (st' := [.ref 0, .int a2]) (m' := m) [(.iload_n 2, 0, 0, 0, 0), (.aload_n 0, 0, 0, 0, 0)] (by decide +kernel) rfl ?_
      refine Ev.cV (av := []) (st := [.int a2]) (a := 0) (EX11_catchCold (l := l) (Ln := Ln) (xs := xs) (d := 1) f m (by decide)) rfl (by decide +kernel) mwX11_catchCold iwX11_catchCold vwX11_catchCold lk_11_295 (by omega) (by decide) rfl (by decide) rfl rfl (Nat.le_of_ble_eq_true rfl) (fun r5 m6 => ?_)
      refine Ev.run (pc' := 44) (ls' := [some (.ref 0), some (.int a1), some (.int (a2 + r5)), some (.int a3)]) (st' := [.ref 0]) (m' := m6) [(.iadd, 0, 0, 0, 0), (.istore_n 2, 0, 0, 0, 0), (.aload_n 0, 0, 0, 0, 0)] (by decide +kernel) rfl ?_
      refine Ev.cV (av := []) (st := []) (a := 0) (EX11_goOn (l := l) (Ln := Ln) (xs := xs) (d := 5) f m6 (by decide)) rfl (by decide +kernel) mwX11_goOn iwX11_goOn vwX11_goOn lk_11_292 (by omega) (by decide) rfl (by decide) rfl rfl (Nat.le_of_ble_eq_true rfl) (fun r7 m8 => ?_)
      refine Ev.run (pc' := 51) (ls' := [some (.ref 0), some (.int a1), some (.int (a2 + r5)), some (.int (a3 + 1))]) (st' := []) (m' := m8) [(.pop, 0, 0, 0, 0), (.iinc 3 1, 0, 0, 1, 0)] (by decide +kernel) rfl ?_
      refine Ev.gto (t := 31) (by decide +kernel) ?_
      exact ih _ _ _
set_option maxRecDepth 100000 in
set_option maxHeartbeats 4000000 in
theorem EX11_chance {l : Launch} {Ln : Nat} {xs : Nat → Int32} {d : Nat} (f : Nat) (a1 : Int32) (m : ev_M)  (hd : 6 ≤ d) : Mv ev_eI l Ln xs YX11_chance d Sx [.ref 0, .int a1] m (FX11_chance f a1 m) := by
  refine Mv.of (by decide +kernel) rfl (Nat.le_of_ble_eq_true rfl) (Ev.le (ls' := [some (.ref 0), some (.int a1), none, none]) ⟨rfl, ⟨rfl, trivial⟩⟩ ?_)
  unfold FX11_chance
  refine Ev.run (pc' := 2) (ls' := [some (.ref 0), some (.int a1), none, none]) (st' := [.int a1, .ref 0]) (m' := m) [(.aload_n 0, 0, 0, 0, 0), (.iload_n 1, 0, 0, 0, 0)] (by decide +kernel) rfl ?_
  refine Ev.cV (av := [.int a1]) (st := []) (a := 0) (EX11_canGo (l := l) (Ln := Ln) (xs := xs) (d := 1) f a1 m (by decide)) rfl (by decide +kernel) mwX11_canGo iwX11_canGo vwX11_canGo lk_11_289 (by omega) (by decide) rfl (by decide) rfl rfl (Nat.le_of_ble_eq_true rfl) (fun r1 m2 => ?_)
  refine Ev.if_ne (t := 16) (by decide +kernel) ?_ ?_
  · refine Ev.run (pc' := 24) (ls' := [some (.ref 0), some (.int a1), none, none]) (st' := [.ref 103, .ref 40]) (m' := m2) [(.aload_n 0, 0, 0, 0, 0), (.getfield 72, 11, 8, 0, 0), (.aload_n 0, 0, 0, 0, 0), (.getfield 79, 11, 9, 0, 0)] (by decide +kernel) rfl ?_
    refine Ev.cV (av := [.ref 103]) (st := []) (a := 40) (EX6_keep (l := l) (Ln := Ln) (xs := xs) (d := 1) f 103 m2 (by decide) (by decide)) rfl (by decide +kernel) mwX6_keep iwX6_keep vwX6_keep lk_11_282 (by omega) (by decide) rfl (by decide) rfl rfl (Nat.le_of_ble_eq_true rfl) (fun r3 m4 => ?_)
    refine Ev.run (pc' := 31) (ls' := [some (.ref 0), some (.int a1), some (.int 0), some (.int 0)]) (st' := []) (m' := m4) [(.iconst 0, 0, 0, 0, 0), (.istore_n 2, 0, 0, 0, 0), (.iconst 0, 0, 0, 0, 0), (.istore_n 3, 0, 0, 0, 0)] (by decide +kernel) rfl ?_
    refine EX11_chance_L31 f _ a1 ?_ (by omega) _ _ _ _
    intro e9 m10
    refine Ev.run (pc' := 55) (ls' := [none, none, some (.int e9), none]) (st' := [.int e9]) (m' := m10) [(.iload_n 2, 0, 0, 0, 0)] (by decide +kernel) rfl ?_
    exact Ev.ireti rfl rfl (by decide +kernel)
  · refine Ev.run (pc' := 10) (ls' := [some (.ref 0), some (.int a1), none, none]) (st' := [.int 3, .ref 0]) (m' := m2) [(.aload_n 0, 0, 0, 0, 0), (.iconst 3, 0, 0, 3, 0)] (by decide +kernel) rfl ?_
    refine Ev.cV (av := [.int 3]) (st := []) (a := 0) (EX11_refuse (l := l) (Ln := Ln) (xs := xs) (d := 0) f (3 : Int32) m2 (by decide)) rfl (by decide +kernel) mwX11_refuse iwX11_refuse vwX11_refuse lk_11_115 (by omega) (by decide) rfl (by decide) rfl rfl (Nat.le_of_ble_eq_true rfl) (fun r11 m12 => ?_)
    refine Ev.run (pc' := 15) (ls' := [some (.ref 0), some (.int a1), none, none]) (st' := [.int (-1)]) (m' := m12) [(.pop, 0, 0, 0, 0), (.iconst (-1), 0, 0, (-1), 0)] (by decide +kernel) rfl ?_
    exact Ev.ireti rfl rfl (by decide +kernel)
def FX0_fewestToCheer_J48 (f : Nat) (kt10 : Int32 → ev_M → Option (Int32 × ev_M))  (a4 : Int32)  (m : ev_M) : Option (Int32 × ev_M) :=
  (kt10 (a4 + 1) m)
def FX0_fewestToCheer_L10 (f : Nat) (k : ev_M → Option (Int32 × ev_M)) (o1 : Nat) (a2 : Int32) (a3 : Int32) : Nat → Int32 → ev_M → Option (Int32 × ev_M)
  | 0, _, _ => none
  | n + 1, a4, m => (ev_bd (FX3_towers f m) (fun r1 m2 => (if (1 <<< (r1 &&& 31)) ≤ a4 then (k m2) else (ev_bd (FJ6_bitCount_0f7a4 f a4 m2) (fun r3 m4 => (if r3 = a3 then (ev_bd (FX0_fires f o1 a2 a4 (0 : Int32) m4) (fun r5 m6 => (if r5 = 0 then some (a4, m6) else (FX0_fewestToCheer_J48 f (FX0_fewestToCheer_L10 f k o1 a2 a3 n) a4 m6)))) else (FX0_fewestToCheer_J48 f (FX0_fewestToCheer_L10 f k o1 a2 a3 n) a4 m4)))))))
def FX0_fewestToCheer_L2 (f : Nat) (k : ev_M → Option (Int32 × ev_M)) (o1 : Nat) (a2 : Int32) : Nat → Int32 → ev_M → Option (Int32 × ev_M)
  | 0, _, _ => none
  | n + 1, a3, m => (if 3 < a3 then (k m) else (FX0_fewestToCheer_L10 f (fun m7 => (FX0_fewestToCheer_L2 f k o1 a2 n (a3 + 1) m7)) o1 a2 a3 f (0 : Int32) m))
def FX0_fewestToCheer (f : Nat) (o1 : Nat) (a2 : Int32) (m : ev_M) : Option (Int32 × ev_M) :=
  (FX0_fewestToCheer_L2 f (fun m8 => some ((-1), m8)) o1 a2 f (0 : Int32) m)
set_option maxRecDepth 100000 in
set_option maxHeartbeats 4000000 in
theorem EX0_fewestToCheer_J48 {l : Launch} {Ln : Nat} {xs : Nat → Int32} {d : Nat} (f : Nat) (kt10 : Int32 → ev_M → Option (Int32 × ev_M)) (o1 : Nat) (a2 : Int32) (a3 : Int32) (a4 : Int32)  (m : ev_M) (h_o1 : isK 8 o1) (hkt10 : ∀ (e4 : Int32) (em : ev_M), Ev ev_eI l Ln xs YX0_fewestToCheer d Sx 10 [some (.ref 29), some (.ref o1), some (.int a2), some (.int a3), some (.int e4)] [] em (kt10 e4 em)) (hd : 6 ≤ d) : Ev ev_eI l Ln xs YX0_fewestToCheer d Sx 48 [some (.ref 29), some (.ref o1), some (.int a2), some (.int a3), some (.int a4)] [] m (FX0_fewestToCheer_J48 f kt10 a4 m) := by
  unfold FX0_fewestToCheer_J48
  refine Ev.run (pc' := 51) (ls' := [some (.ref 29), some (.ref o1), some (.int a2), some (.int a3), some (.int (a4 + 1))]) (st' := []) (m' := m) [(.iinc 4 1, 0, 0, 1, 0)] (by decide +kernel) rfl ?_
  refine Ev.gto (t := 10) (by decide +kernel) ?_
  exact hkt10 _ _
set_option maxRecDepth 100000 in
set_option maxHeartbeats 4000000 in
theorem EX0_fewestToCheer_L10 {l : Launch} {Ln : Nat} {xs : Nat → Int32} {d : Nat} (f : Nat) (k : ev_M → Option (Int32 × ev_M)) (o1 : Nat) (a2 : Int32) (a3 : Int32) (h_o1 : isK 8 o1)  (hk : ∀  (em : ev_M), Ev ev_eI l Ln xs YX0_fewestToCheer d Sx 54 [some (.ref 29), some (.ref o1), some (.int a2), some (.int a3), none] [] em (k em)) (hd : 6 ≤ d) : ∀ (n : Nat) (a4 : Int32) (m : ev_M), Ev ev_eI l Ln xs YX0_fewestToCheer d Sx 10 [some (.ref 29), some (.ref o1), some (.int a2), some (.int a3), some (.int a4)] [] m (FX0_fewestToCheer_L10 f k o1 a2 a3 n a4 m) := by
  intro n
  induction n with
  | zero => intros; exact Ev.nn
  | succ n ih =>
    intro a4 m
    rw [FX0_fewestToCheer_L10]
    refine Ev.run (pc' := 17) (ls' := [some (.ref 29), some (.ref o1), some (.int a2), some (.int a3), some (.int a4)]) (st' := [.ref 16, .int 1, .int a4]) (m' := m) [(.iload 4, 0, 0, 0, 0), (.iconst 1, 0, 0, 1, 0), (.aload_n 0, 0, 0, 0, 0), (.getfield 28, 0, 0, 0, 0)] (by decide +kernel) rfl ?_
    refine Ev.cV (av := []) (st := [.int 1, .int a4]) (a := 16) (EX3_towers (l := l) (Ln := Ln) (xs := xs) (d := 0) f m (by decide)) rfl (by decide +kernel) mwX3_towers iwX3_towers vwX3_towers lk_0_32 (by omega) (by decide) rfl (by decide) rfl rfl (Nat.le_of_ble_eq_true rfl) (fun r1 m2 => ?_)
    refine Ev.run (pc' := 21) (ls' := [some (.ref 29), some (.ref o1), some (.int a2), some (.int a3), some (.int a4)]) (st' := [.int (1 <<< (r1 &&& 31)), .int a4]) (m' := m2) [(.ishl, 0, 0, 0, 0)] (by decide +kernel) rfl ?_
    refine Ev.ic_ge (t := 54) (by decide +kernel) ?_ ?_
    · refine Ev.le (ls' := [some (.ref 29), some (.ref o1), some (.int a2), some (.int a3), none]) ⟨rfl, ⟨rfl, ⟨rfl, ⟨rfl, trivial⟩⟩⟩⟩ ?_
      exact hk _
    · refine Ev.run (pc' := 26) (ls' := [some (.ref 29), some (.ref o1), some (.int a2), some (.int a3), some (.int a4)]) (st' := [.int a4]) (m' := m2) [(.iload 4, 0, 0, 0, 0)] (by decide +kernel) rfl ?_
      refine Ev.cS (av := [.int a4]) (st := []) (EJ6_bitCount_0f7a4 (l := l) (Ln := Ln) (xs := xs) (d := 0) f a4 m2 (by decide)) rfl (by decide +kernel) mwJ6_bitCount_0f7a4 swJ6_bitCount_0f7a4 lk_0_38 (by omega) rfl (Nat.le_of_ble_eq_true rfl) (fun r3 m4 => ?_)
      refine Ev.run (pc' := 30) (ls' := [some (.ref 29), some (.ref o1), some (.int a2), some (.int a3), some (.int a4)]) (st' := [.int a3, .int r3]) (m' := m4) [(.iload_n 3, 0, 0, 0, 0)] (by decide +kernel) rfl ?_
      refine Ev.ic_ne (t := 48) (by decide +kernel) ?_ ?_
      · exact EX0_fewestToCheer_J48 f (FX0_fewestToCheer_L10 f k o1 a2 a3 n) o1 a2 a3 a4 m4 h_o1 ih (by omega)
      · refine Ev.run (pc' := 39) (ls' := [some (.ref 29), some (.ref o1), some (.int a2), some (.int a3), some (.int a4)]) (st' := [.int 0, .int a4, .int a2, .ref o1, .ref 29]) (m' := m4) [(.aload_n 0, 0, 0, 0, 0), (.aload_n 1, 0, 0, 0, 0), (.iload_n 2, 0, 0, 0, 0), (.iload 4, 0, 0, 0, 0), (.iconst 0, 0, 0, 0, 0)] (by decide +kernel) rfl ?_
        refine Ev.cV (av := [.ref o1, .int a2, .int a4, .int 0]) (st := []) (a := 29) (EX0_fires (l := l) (Ln := Ln) (xs := xs) (d := 5) f o1 a2 a4 (0 : Int32) m4 h_o1 (by decide)) rfl (by decide +kernel) mwX0_fires iwX0_fires vwX0_fires lk_0_44 (by omega) (by decide) rfl (by decide) rfl rfl (Nat.le_of_ble_eq_true rfl) (fun r5 m6 => ?_)
        refine Ev.if_ne (t := 48) (by decide +kernel) ?_ ?_
        · exact EX0_fewestToCheer_J48 f (FX0_fewestToCheer_L10 f k o1 a2 a3 n) o1 a2 a3 a4 m6 h_o1 ih (by omega)
        · refine Ev.run (pc' := 47) (ls' := [some (.ref 29), some (.ref o1), some (.int a2), some (.int a3), some (.int a4)]) (st' := [.int a4]) (m' := m6) [(.iload 4, 0, 0, 0, 0)] (by decide +kernel) rfl ?_
          exact Ev.ireti rfl rfl (by decide +kernel)
set_option maxRecDepth 100000 in
set_option maxHeartbeats 4000000 in
theorem EX0_fewestToCheer_L2 {l : Launch} {Ln : Nat} {xs : Nat → Int32} {d : Nat} (f : Nat) (k : ev_M → Option (Int32 × ev_M)) (o1 : Nat) (a2 : Int32) (h_o1 : isK 8 o1)  (hk : ∀  (em : ev_M), Ev ev_eI l Ln xs YX0_fewestToCheer d Sx 60 [none, none, none, none, none] [] em (k em)) (hd : 6 ≤ d) : ∀ (n : Nat) (a3 : Int32) (m : ev_M), Ev ev_eI l Ln xs YX0_fewestToCheer d Sx 2 [some (.ref 29), some (.ref o1), some (.int a2), some (.int a3), none] [] m (FX0_fewestToCheer_L2 f k o1 a2 n a3 m) := by
  intro n
  induction n with
  | zero => intros; exact Ev.nn
  | succ n ih =>
    intro a3 m
    rw [FX0_fewestToCheer_L2]
    refine Ev.run (pc' := 4) (ls' := [some (.ref 29), some (.ref o1), some (.int a2), some (.int a3), none]) (st' := [.int 3, .int a3]) (m' := m) [(.iload_n 3, 0, 0, 0, 0), (.iconst 3, 0, 0, 3, 0)] (by decide +kernel) rfl ?_
    refine Ev.ic_gt (t := 60) (by decide +kernel) ?_ ?_
    · refine Ev.le (ls' := [none, none, none, none, none]) trivial ?_
      exact hk _
    · refine Ev.run (pc' := 10) (ls' := [some (.ref 29), some (.ref o1), some (.int a2), some (.int a3), some (.int 0)]) (st' := []) (m' := m) [(.iconst 0, 0, 0, 0, 0), (.istore 4, 0, 0, 0, 0)] (by decide +kernel) rfl ?_
      refine EX0_fewestToCheer_L10 f _ o1 a2 a3 h_o1 ?_ (by omega) _ _ _
      intro m7
      refine Ev.run (pc' := 57) (ls' := [some (.ref 29), some (.ref o1), some (.int a2), some (.int (a3 + 1)), none]) (st' := []) (m' := m7) [(.iinc 3 1, 0, 0, 1, 0)] (by decide +kernel) rfl ?_
      refine Ev.gto (t := 2) (by decide +kernel) ?_
      exact ih _ _
set_option maxRecDepth 100000 in
set_option maxHeartbeats 4000000 in
theorem EX0_fewestToCheer {l : Launch} {Ln : Nat} {xs : Nat → Int32} {d : Nat} (f : Nat) (o1 : Nat) (a2 : Int32) (m : ev_M) (h_o1 : isK 8 o1) (hd : 6 ≤ d) : Mv ev_eI l Ln xs YX0_fewestToCheer d Sx [.ref 29, .ref o1, .int a2] m (FX0_fewestToCheer f o1 a2 m) := by
  refine Mv.of (by decide +kernel) rfl (Nat.le_of_ble_eq_true rfl) (Ev.le (ls' := [some (.ref 29), some (.ref o1), some (.int a2), none, none]) ⟨rfl, ⟨rfl, ⟨rfl, trivial⟩⟩⟩ ?_)
  unfold FX0_fewestToCheer
  refine Ev.run (pc' := 2) (ls' := [some (.ref 29), some (.ref o1), some (.int a2), some (.int 0), none]) (st' := []) (m' := m) [(.iconst 0, 0, 0, 0, 0), (.istore_n 3, 0, 0, 0, 0)] (by decide +kernel) rfl ?_
  refine EX0_fewestToCheer_L2 f _ o1 a2 h_o1 ?_ (by omega) _ _ _
  intro m8
  refine Ev.run (pc' := 61) (ls' := [none, none, none, none, none]) (st' := [.int (-1)]) (m' := m8) [(.iconst (-1), 0, 0, (-1), 0)] (by decide +kernel) rfl ?_
  exact Ev.ireti rfl rfl (by decide +kernel)
def FX0_fewestToSigh_J48 (f : Nat) (kt10 : Int32 → ev_M → Option (Int32 × ev_M))  (a4 : Int32)  (m : ev_M) : Option (Int32 × ev_M) :=
  (kt10 (a4 + 1) m)
def FX0_fewestToSigh_L10 (f : Nat) (k : ev_M → Option (Int32 × ev_M)) (o1 : Nat) (a2 : Int32) (a3 : Int32) : Nat → Int32 → ev_M → Option (Int32 × ev_M)
  | 0, _, _ => none
  | n + 1, a4, m => (ev_bd (FX3_towers f m) (fun r1 m2 => (if (1 <<< (r1 &&& 31)) ≤ a4 then (k m2) else (ev_bd (FJ6_bitCount_0f7a4 f a4 m2) (fun r3 m4 => (if r3 = a3 then (ev_bd (FX0_fires f o1 a2 (0 : Int32) a4 m4) (fun r5 m6 => (if r5 = 0 then (FX0_fewestToSigh_J48 f (FX0_fewestToSigh_L10 f k o1 a2 a3 n) a4 m6) else some (a4, m6)))) else (FX0_fewestToSigh_J48 f (FX0_fewestToSigh_L10 f k o1 a2 a3 n) a4 m4)))))))
def FX0_fewestToSigh_L2 (f : Nat) (k : ev_M → Option (Int32 × ev_M)) (o1 : Nat) (a2 : Int32) : Nat → Int32 → ev_M → Option (Int32 × ev_M)
  | 0, _, _ => none
  | n + 1, a3, m => (if 3 < a3 then (k m) else (FX0_fewestToSigh_L10 f (fun m7 => (FX0_fewestToSigh_L2 f k o1 a2 n (a3 + 1) m7)) o1 a2 a3 f (0 : Int32) m))
def FX0_fewestToSigh (f : Nat) (o1 : Nat) (a2 : Int32) (m : ev_M) : Option (Int32 × ev_M) :=
  (FX0_fewestToSigh_L2 f (fun m8 => some ((-1), m8)) o1 a2 f (0 : Int32) m)
set_option maxRecDepth 100000 in
set_option maxHeartbeats 4000000 in
theorem EX0_fewestToSigh_J48 {l : Launch} {Ln : Nat} {xs : Nat → Int32} {d : Nat} (f : Nat) (kt10 : Int32 → ev_M → Option (Int32 × ev_M)) (o1 : Nat) (a2 : Int32) (a3 : Int32) (a4 : Int32)  (m : ev_M) (h_o1 : isK 8 o1) (hkt10 : ∀ (e4 : Int32) (em : ev_M), Ev ev_eI l Ln xs YX0_fewestToSigh d Sx 10 [some (.ref 29), some (.ref o1), some (.int a2), some (.int a3), some (.int e4)] [] em (kt10 e4 em)) (hd : 6 ≤ d) : Ev ev_eI l Ln xs YX0_fewestToSigh d Sx 48 [some (.ref 29), some (.ref o1), some (.int a2), some (.int a3), some (.int a4)] [] m (FX0_fewestToSigh_J48 f kt10 a4 m) := by
  unfold FX0_fewestToSigh_J48
  refine Ev.run (pc' := 51) (ls' := [some (.ref 29), some (.ref o1), some (.int a2), some (.int a3), some (.int (a4 + 1))]) (st' := []) (m' := m) [(.iinc 4 1, 0, 0, 1, 0)] (by decide +kernel) rfl ?_
  refine Ev.gto (t := 10) (by decide +kernel) ?_
  exact hkt10 _ _
set_option maxRecDepth 100000 in
set_option maxHeartbeats 4000000 in
theorem EX0_fewestToSigh_L10 {l : Launch} {Ln : Nat} {xs : Nat → Int32} {d : Nat} (f : Nat) (k : ev_M → Option (Int32 × ev_M)) (o1 : Nat) (a2 : Int32) (a3 : Int32) (h_o1 : isK 8 o1)  (hk : ∀  (em : ev_M), Ev ev_eI l Ln xs YX0_fewestToSigh d Sx 54 [some (.ref 29), some (.ref o1), some (.int a2), some (.int a3), none] [] em (k em)) (hd : 6 ≤ d) : ∀ (n : Nat) (a4 : Int32) (m : ev_M), Ev ev_eI l Ln xs YX0_fewestToSigh d Sx 10 [some (.ref 29), some (.ref o1), some (.int a2), some (.int a3), some (.int a4)] [] m (FX0_fewestToSigh_L10 f k o1 a2 a3 n a4 m) := by
  intro n
  induction n with
  | zero => intros; exact Ev.nn
  | succ n ih =>
    intro a4 m
    rw [FX0_fewestToSigh_L10]
    refine Ev.run (pc' := 17) (ls' := [some (.ref 29), some (.ref o1), some (.int a2), some (.int a3), some (.int a4)]) (st' := [.ref 16, .int 1, .int a4]) (m' := m) [(.iload 4, 0, 0, 0, 0), (.iconst 1, 0, 0, 1, 0), (.aload_n 0, 0, 0, 0, 0), (.getfield 28, 0, 0, 0, 0)] (by decide +kernel) rfl ?_
    refine Ev.cV (av := []) (st := [.int 1, .int a4]) (a := 16) (EX3_towers (l := l) (Ln := Ln) (xs := xs) (d := 0) f m (by decide)) rfl (by decide +kernel) mwX3_towers iwX3_towers vwX3_towers lk_0_32 (by omega) (by decide) rfl (by decide) rfl rfl (Nat.le_of_ble_eq_true rfl) (fun r1 m2 => ?_)
    refine Ev.run (pc' := 21) (ls' := [some (.ref 29), some (.ref o1), some (.int a2), some (.int a3), some (.int a4)]) (st' := [.int (1 <<< (r1 &&& 31)), .int a4]) (m' := m2) [(.ishl, 0, 0, 0, 0)] (by decide +kernel) rfl ?_
    refine Ev.ic_ge (t := 54) (by decide +kernel) ?_ ?_
    · refine Ev.le (ls' := [some (.ref 29), some (.ref o1), some (.int a2), some (.int a3), none]) ⟨rfl, ⟨rfl, ⟨rfl, ⟨rfl, trivial⟩⟩⟩⟩ ?_
      exact hk _
    · refine Ev.run (pc' := 26) (ls' := [some (.ref 29), some (.ref o1), some (.int a2), some (.int a3), some (.int a4)]) (st' := [.int a4]) (m' := m2) [(.iload 4, 0, 0, 0, 0)] (by decide +kernel) rfl ?_
      refine Ev.cS (av := [.int a4]) (st := []) (EJ6_bitCount_0f7a4 (l := l) (Ln := Ln) (xs := xs) (d := 0) f a4 m2 (by decide)) rfl (by decide +kernel) mwJ6_bitCount_0f7a4 swJ6_bitCount_0f7a4 lk_0_38 (by omega) rfl (Nat.le_of_ble_eq_true rfl) (fun r3 m4 => ?_)
      refine Ev.run (pc' := 30) (ls' := [some (.ref 29), some (.ref o1), some (.int a2), some (.int a3), some (.int a4)]) (st' := [.int a3, .int r3]) (m' := m4) [(.iload_n 3, 0, 0, 0, 0)] (by decide +kernel) rfl ?_
      refine Ev.ic_ne (t := 48) (by decide +kernel) ?_ ?_
      · exact EX0_fewestToSigh_J48 f (FX0_fewestToSigh_L10 f k o1 a2 a3 n) o1 a2 a3 a4 m4 h_o1 ih (by omega)
      · refine Ev.run (pc' := 39) (ls' := [some (.ref 29), some (.ref o1), some (.int a2), some (.int a3), some (.int a4)]) (st' := [.int a4, .int 0, .int a2, .ref o1, .ref 29]) (m' := m4) [(.aload_n 0, 0, 0, 0, 0), (.aload_n 1, 0, 0, 0, 0), (.iload_n 2, 0, 0, 0, 0), (.iconst 0, 0, 0, 0, 0), (.iload 4, 0, 0, 0, 0)] (by decide +kernel) rfl ?_
        refine Ev.cV (av := [.ref o1, .int a2, .int 0, .int a4]) (st := []) (a := 29) (EX0_fires (l := l) (Ln := Ln) (xs := xs) (d := 5) f o1 a2 (0 : Int32) a4 m4 h_o1 (by decide)) rfl (by decide +kernel) mwX0_fires iwX0_fires vwX0_fires lk_0_44 (by omega) (by decide) rfl (by decide) rfl rfl (Nat.le_of_ble_eq_true rfl) (fun r5 m6 => ?_)
        refine Ev.if_eq (t := 48) (by decide +kernel) ?_ ?_
        · exact EX0_fewestToSigh_J48 f (FX0_fewestToSigh_L10 f k o1 a2 a3 n) o1 a2 a3 a4 m6 h_o1 ih (by omega)
        · refine Ev.run (pc' := 47) (ls' := [some (.ref 29), some (.ref o1), some (.int a2), some (.int a3), some (.int a4)]) (st' := [.int a4]) (m' := m6) [(.iload 4, 0, 0, 0, 0)] (by decide +kernel) rfl ?_
          exact Ev.ireti rfl rfl (by decide +kernel)
set_option maxRecDepth 100000 in
set_option maxHeartbeats 4000000 in
theorem EX0_fewestToSigh_L2 {l : Launch} {Ln : Nat} {xs : Nat → Int32} {d : Nat} (f : Nat) (k : ev_M → Option (Int32 × ev_M)) (o1 : Nat) (a2 : Int32) (h_o1 : isK 8 o1)  (hk : ∀  (em : ev_M), Ev ev_eI l Ln xs YX0_fewestToSigh d Sx 60 [none, none, none, none, none] [] em (k em)) (hd : 6 ≤ d) : ∀ (n : Nat) (a3 : Int32) (m : ev_M), Ev ev_eI l Ln xs YX0_fewestToSigh d Sx 2 [some (.ref 29), some (.ref o1), some (.int a2), some (.int a3), none] [] m (FX0_fewestToSigh_L2 f k o1 a2 n a3 m) := by
  intro n
  induction n with
  | zero => intros; exact Ev.nn
  | succ n ih =>
    intro a3 m
    rw [FX0_fewestToSigh_L2]
    refine Ev.run (pc' := 4) (ls' := [some (.ref 29), some (.ref o1), some (.int a2), some (.int a3), none]) (st' := [.int 3, .int a3]) (m' := m) [(.iload_n 3, 0, 0, 0, 0), (.iconst 3, 0, 0, 3, 0)] (by decide +kernel) rfl ?_
    refine Ev.ic_gt (t := 60) (by decide +kernel) ?_ ?_
    · refine Ev.le (ls' := [none, none, none, none, none]) trivial ?_
      exact hk _
    · refine Ev.run (pc' := 10) (ls' := [some (.ref 29), some (.ref o1), some (.int a2), some (.int a3), some (.int 0)]) (st' := []) (m' := m) [(.iconst 0, 0, 0, 0, 0), (.istore 4, 0, 0, 0, 0)] (by decide +kernel) rfl ?_
      refine EX0_fewestToSigh_L10 f _ o1 a2 a3 h_o1 ?_ (by omega) _ _ _
      intro m7
      refine Ev.run (pc' := 57) (ls' := [some (.ref 29), some (.ref o1), some (.int a2), some (.int (a3 + 1)), none]) (st' := []) (m' := m7) [(.iinc 3 1, 0, 0, 1, 0)] (by decide +kernel) rfl ?_
      refine Ev.gto (t := 2) (by decide +kernel) ?_
      exact ih _ _
set_option maxRecDepth 100000 in
set_option maxHeartbeats 4000000 in
theorem EX0_fewestToSigh {l : Launch} {Ln : Nat} {xs : Nat → Int32} {d : Nat} (f : Nat) (o1 : Nat) (a2 : Int32) (m : ev_M) (h_o1 : isK 8 o1) (hd : 6 ≤ d) : Mv ev_eI l Ln xs YX0_fewestToSigh d Sx [.ref 29, .ref o1, .int a2] m (FX0_fewestToSigh f o1 a2 m) := by
  refine Mv.of (by decide +kernel) rfl (Nat.le_of_ble_eq_true rfl) (Ev.le (ls' := [some (.ref 29), some (.ref o1), some (.int a2), none, none]) ⟨rfl, ⟨rfl, ⟨rfl, trivial⟩⟩⟩ ?_)
  unfold FX0_fewestToSigh
  refine Ev.run (pc' := 2) (ls' := [some (.ref 29), some (.ref o1), some (.int a2), some (.int 0), none]) (st' := []) (m' := m) [(.iconst 0, 0, 0, 0, 0), (.istore_n 3, 0, 0, 0, 0)] (by decide +kernel) rfl ?_
  refine EX0_fewestToSigh_L2 f _ o1 a2 h_o1 ?_ (by omega) _ _ _
  intro m8
  refine Ev.run (pc' := 61) (ls' := [none, none, none, none, none]) (st' := [.int (-1)]) (m' := m8) [(.iconst (-1), 0, 0, (-1), 0)] (by decide +kernel) rfl ?_
  exact Ev.ireti rfl rfl (by decide +kernel)
def FX0_seekYes_J75 (f : Nat) (kt19 : Int32 → ev_M → Option (Unit × ev_M))  (a3 : Int32)  (m : ev_M) : Option (Unit × ev_M) :=
  (kt19 (a3 + 1) m)
def FX0_seekYes_L19 (f : Nat) (k : ev_M → Option (Unit × ev_M)) (o1 : Nat) (a2 : Int32) : Nat → Int32 → ev_M → Option (Unit × ev_M)
  | 0, _, _ => none
  | n + 1, a3, m => (ev_bd (FX3_towers f m) (fun r7 m8 => (if r7 ≤ a3 then (k m8) else (if (((m8.1 o1 4) >>> (a3 &&& 31)) &&& 1) = 0 then (ev_bd (FX8_copy f 30 o1 m8) (fun _ m10 => (ev_bd (FX0_tryRounds f a2 ((ev_up m10.1 30 4 ((m10.1 30 4) ||| (1 <<< (a3 &&& 31)))), m10.2)) (fun r11 m12 => (ev_bd (FX0_weigh f r11 a3 (-1 : Int32) m12) (fun _ m14 => (FX0_seekYes_J75 f (FX0_seekYes_L19 f k o1 a2 n) a3 m14))))))) else (FX0_seekYes_J75 f (FX0_seekYes_L19 f k o1 a2 n) a3 m8)))))
def FX0_seekYes (f : Nat) (o1 : Nat) (a2 : Int32) (m : ev_M) : Option (Unit × ev_M) :=
  (ev_bd (FX8_copy f 30 o1 m) (fun _ m2 => (ev_bd (FX0_tryRounds f a2 m2) (fun r3 m4 => (ev_bd (FX0_startWith f r3 m4) (fun _ m6 => (FX0_seekYes_L19 f (fun m15 => some ((), m15)) o1 a2 f (0 : Int32) m6)))))))
set_option maxRecDepth 100000 in
set_option maxHeartbeats 4000000 in
theorem EX0_seekYes_J75 {l : Launch} {Ln : Nat} {xs : Nat → Int32} {d : Nat} (f : Nat) (kt19 : Int32 → ev_M → Option (Unit × ev_M)) (o1 : Nat) (a2 : Int32) (a3 : Int32)  (m : ev_M) (h_o1 : isK 8 o1) (hkt19 : ∀ (e3 : Int32) (em : ev_M), Ev ev_eV l Ln xs YX0_seekYes d Sx 19 [some (.ref 29), some (.ref o1), some (.int a2), some (.int e3)] [] em (kt19 e3 em)) (hd : 6 ≤ d) : Ev ev_eV l Ln xs YX0_seekYes d Sx 75 [some (.ref 29), some (.ref o1), some (.int a2), some (.int a3)] [] m (FX0_seekYes_J75 f kt19 a3 m) := by
  unfold FX0_seekYes_J75
  refine Ev.run (pc' := 78) (ls' := [some (.ref 29), some (.ref o1), some (.int a2), some (.int (a3 + 1))]) (st' := []) (m' := m) [(.iinc 3 1, 0, 0, 1, 0)] (by decide +kernel) rfl ?_
  refine Ev.gto (t := 19) (by decide +kernel) ?_
  exact hkt19 _ _
set_option maxRecDepth 100000 in
set_option maxHeartbeats 4000000 in
theorem EX0_seekYes_L19 {l : Launch} {Ln : Nat} {xs : Nat → Int32} {d : Nat} (f : Nat) (k : ev_M → Option (Unit × ev_M)) (o1 : Nat) (a2 : Int32) (h_o1 : isK 8 o1)  (hk : ∀  (em : ev_M), Ev ev_eV l Ln xs YX0_seekYes d Sx 81 [none, none, none, none] [] em (k em)) (hd : 6 ≤ d) : ∀ (n : Nat) (a3 : Int32) (m : ev_M), Ev ev_eV l Ln xs YX0_seekYes d Sx 19 [some (.ref 29), some (.ref o1), some (.int a2), some (.int a3)] [] m (FX0_seekYes_L19 f k o1 a2 n a3 m) := by
  intro n
  induction n with
  | zero => intros; exact Ev.nn
  | succ n ih =>
    intro a3 m
    rw [FX0_seekYes_L19]
    refine Ev.run (pc' := 24) (ls' := [some (.ref 29), some (.ref o1), some (.int a2), some (.int a3)]) (st' := [.ref 16, .int a3]) (m' := m) [(.iload_n 3, 0, 0, 0, 0), (.aload_n 0, 0, 0, 0, 0), (.getfield 28, 0, 0, 0, 0)] (by decide +kernel) rfl ?_
    refine Ev.cV (av := []) (st := [.int a3]) (a := 16) (EX3_towers (l := l) (Ln := Ln) (xs := xs) (d := 0) f m (by decide)) rfl (by decide +kernel) mwX3_towers iwX3_towers vwX3_towers lk_0_32 (by omega) (by decide) rfl (by decide) rfl rfl (Nat.le_of_ble_eq_true rfl) (fun r7 m8 => ?_)
    refine Ev.ic_ge (t := 81) (by decide +kernel) ?_ ?_
    · refine Ev.le (ls' := [none, none, none, none]) trivial ?_
      exact hk _
    · refine Ev.run (pc' := 31) (ls' := [some (.ref 29), some (.ref o1), some (.int a2), some (.int a3)]) (st' := [.ref o1]) (m' := m8) [(.aload_n 1, 0, 0, 0, 0)] (by decide +kernel) rfl ?_
      refine Ev.getS (v := .int (m8.1 o1 4)) (ci := 8) (k := 4) (idx := 71) (by decide +kernel) (by decide +kernel) (k8_l0 h_o1) (by rw [(k8_s0 h_o1)]) (by rw [(k8_s0 h_o1)]; decide) rfl ?_
      refine Ev.run (pc' := 38) (ls' := [some (.ref 29), some (.ref o1), some (.int a2), some (.int a3)]) (st' := [.int (((m8.1 o1 4) >>> (a3 &&& 31)) &&& 1)]) (m' := m8) [(.iload_n 3, 0, 0, 0, 0), (.ishr, 0, 0, 0, 0), (.iconst 1, 0, 0, 1, 0), (.iand, 0, 0, 0, 0)] (by decide +kernel) rfl ?_
      refine Ev.if_ne (t := 75) (by decide +kernel) ?_ ?_
      · exact EX0_seekYes_J75 f (FX0_seekYes_L19 f k o1 a2 n) o1 a2 a3 m8 h_o1 ih (by omega)
      · refine Ev.run (pc' := 46) (ls' := [some (.ref 29), some (.ref o1), some (.int a2), some (.int a3)]) (st' := [.ref o1, .ref 30]) (m' := m8) [(.aload_n 0, 0, 0, 0, 0), (.getfield 12, 0, 1, 0, 0), (.aload_n 1, 0, 0, 0, 0)] (by decide +kernel) rfl ?_
        refine Ev.cV (av := [.ref o1]) (st := []) (a := 30) (EX8_copy (l := l) (Ln := Ln) (xs := xs) (d := 0) f 30 o1 m8 (by decide) h_o1 (by decide)) rfl (by decide +kernel) mwX8_copy iwX8_copy vwX8_copy lk_0_48 (by omega) (by decide) rfl (by decide) rfl rfl (Nat.le_of_ble_eq_true rfl) (fun r9 m10 => ?_)
        refine Ev.run (pc' := 67) (ls' := [some (.ref 29), some (.ref o1), some (.int a2), some (.int a3)]) (st' := [.int a2, .ref 29, .ref 29]) (m' := ((ev_up m10.1 30 4 ((m10.1 30 4) ||| (1 <<< (a3 &&& 31)))), m10.2)) [(.aload_n 0, 0, 0, 0, 0), (.getfield 12, 0, 1, 0, 0), (.dup, 0, 0, 0, 0), (.getfield 71, 8, 4, 0, 0), (.iconst 1, 0, 0, 1, 0), (.iload_n 3, 0, 0, 0, 0), (.ishl, 0, 0, 0, 0), (.ior, 0, 0, 0, 0), (.putfield 71, 8, 4, 0, 0), (.aload_n 0, 0, 0, 0, 0), (.aload_n 0, 0, 0, 0, 0), (.iload_n 2, 0, 0, 0, 0)] (by decide +kernel) rfl ?_
        refine Ev.cV (av := [.int a2]) (st := [.ref 29]) (a := 29) (EX0_tryRounds (l := l) (Ln := Ln) (xs := xs) (d := 5) f a2 ((ev_up m10.1 30 4 ((m10.1 30 4) ||| (1 <<< (a3 &&& 31)))), m10.2) (by decide)) rfl (by decide +kernel) mwX0_tryRounds iwX0_tryRounds vwX0_tryRounds lk_0_64 (by omega) (by decide) rfl (by decide) rfl rfl (Nat.le_of_ble_eq_true rfl) (fun r11 m12 => ?_)
        refine Ev.run (pc' := 72) (ls' := [some (.ref 29), some (.ref o1), some (.int a2), some (.int a3)]) (st' := [.int (-1), .int a3, .int r11, .ref 29]) (m' := m12) [(.iload_n 3, 0, 0, 0, 0), (.iconst (-1), 0, 0, (-1), 0)] (by decide +kernel) rfl ?_
        refine Ev.cV (av := [.int r11, .int a3, .int (-1)]) (st := []) (a := 29) (EX0_weigh (l := l) (Ln := Ln) (xs := xs) (d := 0) f r11 a3 (-1 : Int32) m12 (by decide)) rfl (by decide +kernel) mwX0_weigh iwX0_weigh vwX0_weigh lk_0_74 (by omega) (by decide) rfl (by decide) rfl rfl (Nat.le_of_ble_eq_true rfl) (fun r13 m14 => ?_)
        exact EX0_seekYes_J75 f (FX0_seekYes_L19 f k o1 a2 n) o1 a2 a3 m14 h_o1 ih (by omega)
set_option maxRecDepth 100000 in
set_option maxHeartbeats 4000000 in
theorem EX0_seekYes {l : Launch} {Ln : Nat} {xs : Nat → Int32} {d : Nat} (f : Nat) (o1 : Nat) (a2 : Int32) (m : ev_M) (h_o1 : isK 8 o1) (hd : 6 ≤ d) : Mv ev_eV l Ln xs YX0_seekYes d Sx [.ref 29, .ref o1, .int a2] m (FX0_seekYes f o1 a2 m) := by
  refine Mv.of (by decide +kernel) rfl (Nat.le_of_ble_eq_true rfl) (Ev.le (ls' := [some (.ref 29), some (.ref o1), some (.int a2), none]) ⟨rfl, ⟨rfl, ⟨rfl, trivial⟩⟩⟩ ?_)
  unfold FX0_seekYes
  refine Ev.run (pc' := 5) (ls' := [some (.ref 29), some (.ref o1), some (.int a2), none]) (st' := [.ref o1, .ref 30]) (m' := m) [(.aload_n 0, 0, 0, 0, 0), (.getfield 12, 0, 1, 0, 0), (.aload_n 1, 0, 0, 0, 0)] (by decide +kernel) rfl ?_
  refine Ev.cV (av := [.ref o1]) (st := []) (a := 30) (EX8_copy (l := l) (Ln := Ln) (xs := xs) (d := 0) f 30 o1 m (by decide) h_o1 (by decide)) rfl (by decide +kernel) mwX8_copy iwX8_copy vwX8_copy lk_0_48 (by omega) (by decide) rfl (by decide) rfl rfl (Nat.le_of_ble_eq_true rfl) (fun r1 m2 => ?_)
  refine Ev.run (pc' := 11) (ls' := [some (.ref 29), some (.ref o1), some (.int a2), none]) (st' := [.int a2, .ref 29, .ref 29]) (m' := m2) [(.aload_n 0, 0, 0, 0, 0), (.aload_n 0, 0, 0, 0, 0), (.iload_n 2, 0, 0, 0, 0)] (by decide +kernel) rfl ?_
  refine Ev.cV (av := [.int a2]) (st := [.ref 29]) (a := 29) (EX0_tryRounds (l := l) (Ln := Ln) (xs := xs) (d := 5) f a2 m2 (by decide)) rfl (by decide +kernel) mwX0_tryRounds iwX0_tryRounds vwX0_tryRounds lk_0_64 (by omega) (by decide) rfl (by decide) rfl rfl (Nat.le_of_ble_eq_true rfl) (fun r3 m4 => ?_)
  refine Ev.cV (av := [.int r3]) (st := []) (a := 29) (EX0_startWith (l := l) (Ln := Ln) (xs := xs) (d := 0) f r3 m4 (by decide)) rfl (by decide +kernel) mwX0_startWith iwX0_startWith vwX0_startWith lk_0_67 (by omega) (by decide) rfl (by decide) rfl rfl (Nat.le_of_ble_eq_true rfl) (fun r5 m6 => ?_)
  refine Ev.run (pc' := 19) (ls' := [some (.ref 29), some (.ref o1), some (.int a2), some (.int 0)]) (st' := []) (m' := m6) [(.iconst 0, 0, 0, 0, 0), (.istore_n 3, 0, 0, 0, 0)] (by decide +kernel) rfl ?_
  refine EX0_seekYes_L19 f _ o1 a2 h_o1 ?_ (by omega) _ _ _
  intro m15
  exact Ev.retv rfl rfl (by decide +kernel)
def FX0_seekPlaces_L35 (f : Nat) (k : ev_M → Option (Unit × ev_M)) (o1 : Nat) (a2 : Int32) (a3 : Int32) : Nat → Int32 → ev_M → Option (Unit × ev_M)
  | 0, _, _ => none
  | n + 1, a4, m => (ev_bd (FX3_towers f m) (fun r9 m10 => (if r9 ≤ a4 then (k m10) else (ev_bd (FX8_copy f 30 o1 m10) (fun _ m12 => (ev_bd (FX8_swap f 30 a3 a4 m12) (fun _ m14 => (ev_bd (FX0_tryRounds f a2 m14) (fun r15 m16 => (ev_bd (FX0_weigh f r15 a3 a4 m16) (fun _ m18 => (FX0_seekPlaces_L35 f k o1 a2 a3 n (a4 + 1) m18))))))))))))
def FX0_seekPlaces_L19 (f : Nat) (k : ev_M → Option (Unit × ev_M)) (o1 : Nat) (a2 : Int32) : Nat → Int32 → ev_M → Option (Unit × ev_M)
  | 0, _, _ => none
  | n + 1, a3, m => (ev_bd (FX3_towers f m) (fun r7 m8 => (if r7 ≤ a3 then (k m8) else (FX0_seekPlaces_L35 f (fun m19 => (FX0_seekPlaces_L19 f k o1 a2 n (a3 + 1) m19)) o1 a2 a3 f (a3 + 1) m8))))
def FX0_seekPlaces (f : Nat) (o1 : Nat) (a2 : Int32) (m : ev_M) : Option (Unit × ev_M) :=
  (ev_bd (FX8_copy f 30 o1 m) (fun _ m2 => (ev_bd (FX0_tryRounds f a2 m2) (fun r3 m4 => (ev_bd (FX0_startWith f r3 m4) (fun _ m6 => (FX0_seekPlaces_L19 f (fun m20 => some ((), m20)) o1 a2 f (0 : Int32) m6)))))))
set_option maxRecDepth 100000 in
set_option maxHeartbeats 4000000 in
theorem EX0_seekPlaces_L35 {l : Launch} {Ln : Nat} {xs : Nat → Int32} {d : Nat} (f : Nat) (k : ev_M → Option (Unit × ev_M)) (o1 : Nat) (a2 : Int32) (a3 : Int32) (h_o1 : isK 8 o1)  (hk : ∀  (em : ev_M), Ev ev_eV l Ln xs YX0_seekPlaces d Sx 83 [some (.ref 29), some (.ref o1), some (.int a2), some (.int a3), none] [] em (k em)) (hd : 6 ≤ d) : ∀ (n : Nat) (a4 : Int32) (m : ev_M), Ev ev_eV l Ln xs YX0_seekPlaces d Sx 35 [some (.ref 29), some (.ref o1), some (.int a2), some (.int a3), some (.int a4)] [] m (FX0_seekPlaces_L35 f k o1 a2 a3 n a4 m) := by
  intro n
  induction n with
  | zero => intros; exact Ev.nn
  | succ n ih =>
    intro a4 m
    rw [FX0_seekPlaces_L35]
    refine Ev.run (pc' := 41) (ls' := [some (.ref 29), some (.ref o1), some (.int a2), some (.int a3), some (.int a4)]) (st' := [.ref 16, .int a4]) (m' := m) [(.iload 4, 0, 0, 0, 0), (.aload_n 0, 0, 0, 0, 0), (.getfield 28, 0, 0, 0, 0)] (by decide +kernel) rfl ?_
    refine Ev.cV (av := []) (st := [.int a4]) (a := 16) (EX3_towers (l := l) (Ln := Ln) (xs := xs) (d := 0) f m (by decide)) rfl (by decide +kernel) mwX3_towers iwX3_towers vwX3_towers lk_0_32 (by omega) (by decide) rfl (by decide) rfl rfl (Nat.le_of_ble_eq_true rfl) (fun r9 m10 => ?_)
    refine Ev.ic_ge (t := 83) (by decide +kernel) ?_ ?_
    · refine Ev.le (ls' := [some (.ref 29), some (.ref o1), some (.int a2), some (.int a3), none]) ⟨rfl, ⟨rfl, ⟨rfl, ⟨rfl, trivial⟩⟩⟩⟩ ?_
      exact hk _
    · refine Ev.run (pc' := 52) (ls' := [some (.ref 29), some (.ref o1), some (.int a2), some (.int a3), some (.int a4)]) (st' := [.ref o1, .ref 30]) (m' := m10) [(.aload_n 0, 0, 0, 0, 0), (.getfield 12, 0, 1, 0, 0), (.aload_n 1, 0, 0, 0, 0)] (by decide +kernel) rfl ?_
      refine Ev.cV (av := [.ref o1]) (st := []) (a := 30) (EX8_copy (l := l) (Ln := Ln) (xs := xs) (d := 0) f 30 o1 m10 (by decide) h_o1 (by decide)) rfl (by decide +kernel) mwX8_copy iwX8_copy vwX8_copy lk_0_48 (by omega) (by decide) rfl (by decide) rfl rfl (Nat.le_of_ble_eq_true rfl) (fun r11 m12 => ?_)
      refine Ev.run (pc' := 62) (ls' := [some (.ref 29), some (.ref o1), some (.int a2), some (.int a3), some (.int a4)]) (st' := [.int a4, .int a3, .ref 30]) (m' := m12) [(.aload_n 0, 0, 0, 0, 0), (.getfield 12, 0, 1, 0, 0), (.iload_n 3, 0, 0, 0, 0), (.iload 4, 0, 0, 0, 0)] (by decide +kernel) rfl ?_
      refine Ev.cV (av := [.int a3, .int a4]) (st := []) (a := 30) (EX8_swap (l := l) (Ln := Ln) (xs := xs) (d := 0) f 30 a3 a4 m12 (by decide) (by decide)) rfl (by decide +kernel) mwX8_swap iwX8_swap vwX8_swap lk_0_78 (by omega) (by decide) rfl (by decide) rfl rfl (Nat.le_of_ble_eq_true rfl) (fun r13 m14 => ?_)
      refine Ev.run (pc' := 68) (ls' := [some (.ref 29), some (.ref o1), some (.int a2), some (.int a3), some (.int a4)]) (st' := [.int a2, .ref 29, .ref 29]) (m' := m14) [(.aload_n 0, 0, 0, 0, 0), (.aload_n 0, 0, 0, 0, 0), (.iload_n 2, 0, 0, 0, 0)] (by decide +kernel) rfl ?_
      refine Ev.cV (av := [.int a2]) (st := [.ref 29]) (a := 29) (EX0_tryRounds (l := l) (Ln := Ln) (xs := xs) (d := 5) f a2 m14 (by decide)) rfl (by decide +kernel) mwX0_tryRounds iwX0_tryRounds vwX0_tryRounds lk_0_64 (by omega) (by decide) rfl (by decide) rfl rfl (Nat.le_of_ble_eq_true rfl) (fun r15 m16 => ?_)
      refine Ev.run (pc' := 74) (ls' := [some (.ref 29), some (.ref o1), some (.int a2), some (.int a3), some (.int a4)]) (st' := [.int a4, .int a3, .int r15, .ref 29]) (m' := m16) [(.iload_n 3, 0, 0, 0, 0), (.iload 4, 0, 0, 0, 0)] (by decide +kernel) rfl ?_
      refine Ev.cV (av := [.int r15, .int a3, .int a4]) (st := []) (a := 29) (EX0_weigh (l := l) (Ln := Ln) (xs := xs) (d := 0) f r15 a3 a4 m16 (by decide)) rfl (by decide +kernel) mwX0_weigh iwX0_weigh vwX0_weigh lk_0_74 (by omega) (by decide) rfl (by decide) rfl rfl (Nat.le_of_ble_eq_true rfl) (fun r17 m18 => ?_)
      refine Ev.run (pc' := 80) (ls' := [some (.ref 29), some (.ref o1), some (.int a2), some (.int a3), some (.int (a4 + 1))]) (st' := []) (m' := m18) [(.iinc 4 1, 0, 0, 1, 0)] (by decide +kernel) rfl ?_
      refine Ev.gto (t := 35) (by decide +kernel) ?_
      exact ih _ _
set_option maxRecDepth 100000 in
set_option maxHeartbeats 4000000 in
theorem EX0_seekPlaces_L19 {l : Launch} {Ln : Nat} {xs : Nat → Int32} {d : Nat} (f : Nat) (k : ev_M → Option (Unit × ev_M)) (o1 : Nat) (a2 : Int32) (h_o1 : isK 8 o1)  (hk : ∀  (em : ev_M), Ev ev_eV l Ln xs YX0_seekPlaces d Sx 89 [none, none, none, none, none] [] em (k em)) (hd : 6 ≤ d) : ∀ (n : Nat) (a3 : Int32) (m : ev_M), Ev ev_eV l Ln xs YX0_seekPlaces d Sx 19 [some (.ref 29), some (.ref o1), some (.int a2), some (.int a3), none] [] m (FX0_seekPlaces_L19 f k o1 a2 n a3 m) := by
  intro n
  induction n with
  | zero => intros; exact Ev.nn
  | succ n ih =>
    intro a3 m
    rw [FX0_seekPlaces_L19]
    refine Ev.run (pc' := 24) (ls' := [some (.ref 29), some (.ref o1), some (.int a2), some (.int a3), none]) (st' := [.ref 16, .int a3]) (m' := m) [(.iload_n 3, 0, 0, 0, 0), (.aload_n 0, 0, 0, 0, 0), (.getfield 28, 0, 0, 0, 0)] (by decide +kernel) rfl ?_
    refine Ev.cV (av := []) (st := [.int a3]) (a := 16) (EX3_towers (l := l) (Ln := Ln) (xs := xs) (d := 0) f m (by decide)) rfl (by decide +kernel) mwX3_towers iwX3_towers vwX3_towers lk_0_32 (by omega) (by decide) rfl (by decide) rfl rfl (Nat.le_of_ble_eq_true rfl) (fun r7 m8 => ?_)
    refine Ev.ic_ge (t := 89) (by decide +kernel) ?_ ?_
    · refine Ev.le (ls' := [none, none, none, none, none]) trivial ?_
      exact hk _
    · refine Ev.run (pc' := 35) (ls' := [some (.ref 29), some (.ref o1), some (.int a2), some (.int a3), some (.int (a3 + 1))]) (st' := []) (m' := m8) [(.iload_n 3, 0, 0, 0, 0), (.iconst 1, 0, 0, 1, 0), (.iadd, 0, 0, 0, 0), (.istore 4, 0, 0, 0, 0)] (by decide +kernel) rfl ?_
      refine EX0_seekPlaces_L35 f _ o1 a2 a3 h_o1 ?_ (by omega) _ _ _
      intro m19
      refine Ev.run (pc' := 86) (ls' := [some (.ref 29), some (.ref o1), some (.int a2), some (.int (a3 + 1)), none]) (st' := []) (m' := m19) [(.iinc 3 1, 0, 0, 1, 0)] (by decide +kernel) rfl ?_
      refine Ev.gto (t := 19) (by decide +kernel) ?_
      exact ih _ _
set_option maxRecDepth 100000 in
set_option maxHeartbeats 4000000 in
theorem EX0_seekPlaces {l : Launch} {Ln : Nat} {xs : Nat → Int32} {d : Nat} (f : Nat) (o1 : Nat) (a2 : Int32) (m : ev_M) (h_o1 : isK 8 o1) (hd : 6 ≤ d) : Mv ev_eV l Ln xs YX0_seekPlaces d Sx [.ref 29, .ref o1, .int a2] m (FX0_seekPlaces f o1 a2 m) := by
  refine Mv.of (by decide +kernel) rfl (Nat.le_of_ble_eq_true rfl) (Ev.le (ls' := [some (.ref 29), some (.ref o1), some (.int a2), none, none]) ⟨rfl, ⟨rfl, ⟨rfl, trivial⟩⟩⟩ ?_)
  unfold FX0_seekPlaces
  refine Ev.run (pc' := 5) (ls' := [some (.ref 29), some (.ref o1), some (.int a2), none, none]) (st' := [.ref o1, .ref 30]) (m' := m) [(.aload_n 0, 0, 0, 0, 0), (.getfield 12, 0, 1, 0, 0), (.aload_n 1, 0, 0, 0, 0)] (by decide +kernel) rfl ?_
  refine Ev.cV (av := [.ref o1]) (st := []) (a := 30) (EX8_copy (l := l) (Ln := Ln) (xs := xs) (d := 0) f 30 o1 m (by decide) h_o1 (by decide)) rfl (by decide +kernel) mwX8_copy iwX8_copy vwX8_copy lk_0_48 (by omega) (by decide) rfl (by decide) rfl rfl (Nat.le_of_ble_eq_true rfl) (fun r1 m2 => ?_)
  refine Ev.run (pc' := 11) (ls' := [some (.ref 29), some (.ref o1), some (.int a2), none, none]) (st' := [.int a2, .ref 29, .ref 29]) (m' := m2) [(.aload_n 0, 0, 0, 0, 0), (.aload_n 0, 0, 0, 0, 0), (.iload_n 2, 0, 0, 0, 0)] (by decide +kernel) rfl ?_
  refine Ev.cV (av := [.int a2]) (st := [.ref 29]) (a := 29) (EX0_tryRounds (l := l) (Ln := Ln) (xs := xs) (d := 5) f a2 m2 (by decide)) rfl (by decide +kernel) mwX0_tryRounds iwX0_tryRounds vwX0_tryRounds lk_0_64 (by omega) (by decide) rfl (by decide) rfl rfl (Nat.le_of_ble_eq_true rfl) (fun r3 m4 => ?_)
  refine Ev.cV (av := [.int r3]) (st := []) (a := 29) (EX0_startWith (l := l) (Ln := Ln) (xs := xs) (d := 0) f r3 m4 (by decide)) rfl (by decide +kernel) mwX0_startWith iwX0_startWith vwX0_startWith lk_0_67 (by omega) (by decide) rfl (by decide) rfl rfl (Nat.le_of_ble_eq_true rfl) (fun r5 m6 => ?_)
  refine Ev.run (pc' := 19) (ls' := [some (.ref 29), some (.ref o1), some (.int a2), some (.int 0), none]) (st' := []) (m' := m6) [(.iconst 0, 0, 0, 0, 0), (.istore_n 3, 0, 0, 0, 0)] (by decide +kernel) rfl ?_
  refine EX0_seekPlaces_L19 f _ o1 a2 h_o1 ?_ (by omega) _ _ _
  intro m20
  exact Ev.retv rfl rfl (by decide +kernel)
def FX0_play_L12 (f : Nat) (k : ev_M → Option (Unit × ev_M)) (o1 : Nat)  : Nat → Int32 → ev_M → Option (Unit × ev_M)
  | 0, _, _ => none
  | n + 1, a2, m => (ev_bd (FX3_towers f m) (fun r5 m6 => (if r5 ≤ a2 then (k m6) else (ev_bd (FX0_worstBySigh f o1 a2 m6) (fun r7 m8 => (ev_bd (FX0_weigh f r7 a2 (-1 : Int32) m8) (fun _ m10 => (FX0_play_L12 f k o1 n (a2 + 1) m10))))))))
def FX0_play (f : Nat) (o1 : Nat) (m : ev_M) : Option (Unit × ev_M) :=
  (ev_bd (FX0_worstBySigh f o1 (-1 : Int32) m) (fun r1 m2 => (ev_bd (FX0_startWith f r1 m2) (fun _ m4 => (FX0_play_L12 f (fun m11 => some ((), m11)) o1 f (0 : Int32) m4)))))
set_option maxRecDepth 100000 in
set_option maxHeartbeats 4000000 in
theorem EX0_play_L12 {l : Launch} {Ln : Nat} {xs : Nat → Int32} {d : Nat} (f : Nat) (k : ev_M → Option (Unit × ev_M)) (o1 : Nat)  (h_o1 : isK 8 o1)  (hk : ∀  (em : ev_M), Ev ev_eV l Ln xs YX0_play d Sx 41 [none, none, none] [] em (k em)) (hd : 6 ≤ d) : ∀ (n : Nat) (a2 : Int32) (m : ev_M), Ev ev_eV l Ln xs YX0_play d Sx 12 [some (.ref 29), some (.ref o1), some (.int a2)] [] m (FX0_play_L12 f k o1 n a2 m) := by
  intro n
  induction n with
  | zero => intros; exact Ev.nn
  | succ n ih =>
    intro a2 m
    rw [FX0_play_L12]
    refine Ev.run (pc' := 17) (ls' := [some (.ref 29), some (.ref o1), some (.int a2)]) (st' := [.ref 16, .int a2]) (m' := m) [(.iload_n 2, 0, 0, 0, 0), (.aload_n 0, 0, 0, 0, 0), (.getfield 28, 0, 0, 0, 0)] (by decide +kernel) rfl ?_
    refine Ev.cV (av := []) (st := [.int a2]) (a := 16) (EX3_towers (l := l) (Ln := Ln) (xs := xs) (d := 0) f m (by decide)) rfl (by decide +kernel) mwX3_towers iwX3_towers vwX3_towers lk_0_32 (by omega) (by decide) rfl (by decide) rfl rfl (Nat.le_of_ble_eq_true rfl) (fun r5 m6 => ?_)
    refine Ev.ic_ge (t := 41) (by decide +kernel) ?_ ?_
    · refine Ev.le (ls' := [none, none, none]) trivial ?_
      exact hk _
    · refine Ev.run (pc' := 27) (ls' := [some (.ref 29), some (.ref o1), some (.int a2)]) (st' := [.int a2, .ref o1, .ref 29, .ref 29]) (m' := m6) [(.aload_n 0, 0, 0, 0, 0), (.aload_n 0, 0, 0, 0, 0), (.aload_n 1, 0, 0, 0, 0), (.iload_n 2, 0, 0, 0, 0)] (by decide +kernel) rfl ?_
      refine Ev.cV (av := [.ref o1, .int a2]) (st := [.ref 29]) (a := 29) (EX0_worstBySigh (l := l) (Ln := Ln) (xs := xs) (d := 5) f o1 a2 m6 h_o1 (by decide)) rfl (by decide +kernel) mwX0_worstBySigh iwX0_worstBySigh vwX0_worstBySigh lk_0_85 (by omega) (by decide) rfl (by decide) rfl rfl (Nat.le_of_ble_eq_true rfl) (fun r7 m8 => ?_)
      refine Ev.run (pc' := 32) (ls' := [some (.ref 29), some (.ref o1), some (.int a2)]) (st' := [.int (-1), .int a2, .int r7, .ref 29]) (m' := m8) [(.iload_n 2, 0, 0, 0, 0), (.iconst (-1), 0, 0, (-1), 0)] (by decide +kernel) rfl ?_
      refine Ev.cV (av := [.int r7, .int a2, .int (-1)]) (st := []) (a := 29) (EX0_weigh (l := l) (Ln := Ln) (xs := xs) (d := 0) f r7 a2 (-1 : Int32) m8 (by decide)) rfl (by decide +kernel) mwX0_weigh iwX0_weigh vwX0_weigh lk_0_74 (by omega) (by decide) rfl (by decide) rfl rfl (Nat.le_of_ble_eq_true rfl) (fun r9 m10 => ?_)
      refine Ev.run (pc' := 38) (ls' := [some (.ref 29), some (.ref o1), some (.int (a2 + 1))]) (st' := []) (m' := m10) [(.iinc 2 1, 0, 0, 1, 0)] (by decide +kernel) rfl ?_
      refine Ev.gto (t := 12) (by decide +kernel) ?_
      exact ih _ _
set_option maxRecDepth 100000 in
set_option maxHeartbeats 4000000 in
theorem EX0_play {l : Launch} {Ln : Nat} {xs : Nat → Int32} {d : Nat} (f : Nat) (o1 : Nat) (m : ev_M) (h_o1 : isK 8 o1) (hd : 6 ≤ d) : Mv ev_eV l Ln xs YX0_play d Sx [.ref 29, .ref o1] m (FX0_play f o1 m) := by
  refine Mv.of (by decide +kernel) rfl (Nat.le_of_ble_eq_true rfl) (Ev.le (ls' := [some (.ref 29), some (.ref o1), none]) ⟨rfl, ⟨rfl, trivial⟩⟩ ?_)
  unfold FX0_play
  refine Ev.run (pc' := 4) (ls' := [some (.ref 29), some (.ref o1), none]) (st' := [.int (-1), .ref o1, .ref 29, .ref 29]) (m' := m) [(.aload_n 0, 0, 0, 0, 0), (.aload_n 0, 0, 0, 0, 0), (.aload_n 1, 0, 0, 0, 0), (.iconst (-1), 0, 0, (-1), 0)] (by decide +kernel) rfl ?_
  refine Ev.cV (av := [.ref o1, .int (-1)]) (st := [.ref 29]) (a := 29) (EX0_worstBySigh (l := l) (Ln := Ln) (xs := xs) (d := 5) f o1 (-1 : Int32) m h_o1 (by decide)) rfl (by decide +kernel) mwX0_worstBySigh iwX0_worstBySigh vwX0_worstBySigh lk_0_85 (by omega) (by decide) rfl (by decide) rfl rfl (Nat.le_of_ble_eq_true rfl) (fun r1 m2 => ?_)
  refine Ev.cV (av := [.int r1]) (st := []) (a := 29) (EX0_startWith (l := l) (Ln := Ln) (xs := xs) (d := 0) f r1 m2 (by decide)) rfl (by decide +kernel) mwX0_startWith iwX0_startWith vwX0_startWith lk_0_67 (by omega) (by decide) rfl (by decide) rfl rfl (Nat.le_of_ble_eq_true rfl) (fun r3 m4 => ?_)
  refine Ev.run (pc' := 12) (ls' := [some (.ref 29), some (.ref o1), some (.int 0)]) (st' := []) (m' := m4) [(.iconst 0, 0, 0, 0, 0), (.istore_n 2, 0, 0, 0, 0)] (by decide +kernel) rfl ?_
  refine EX0_play_L12 f _ o1 h_o1 ?_ (by omega) _ _ _
  intro m11
  exact Ev.retv rfl rfl (by decide +kernel)
def FX11_cheered (f : Nat) (a1 : Int32) (m : ev_M) : Option (Int32 × ev_M) :=
  (ev_bd (FX11_isTold f m) (fun r1 m2 => (if r1 = 0 then some ((-1), m2) else (ev_bd (FX11_canBeAhead f a1 (1 : Int32) (30 : Int32) m2) (fun r3 m4 => (if r3 = 0 then some ((-1), m4) else (ev_bd (FX0_fewestToCheer f 103 a1 m4) (fun r5 m6 => some (r5, m6)))))))))
set_option maxRecDepth 100000 in
set_option maxHeartbeats 4000000 in
theorem EX11_cheered {l : Launch} {Ln : Nat} {xs : Nat → Int32} {d : Nat} (f : Nat) (a1 : Int32) (m : ev_M)  (hd : 7 ≤ d) : Mv ev_eI l Ln xs YX11_cheered d Sx [.ref 0, .int a1] m (FX11_cheered f a1 m) := by
  refine Mv.of (by decide +kernel) rfl (Nat.le_of_ble_eq_true rfl) (Ev.le (ls' := [some (.ref 0), some (.int a1)]) ⟨rfl, ⟨rfl, trivial⟩⟩ ?_)
  unfold FX11_cheered
  refine Ev.run (pc' := 1) (ls' := [some (.ref 0), some (.int a1)]) (st' := [.ref 0]) (m' := m) [(.aload_n 0, 0, 0, 0, 0)] (by decide +kernel) rfl ?_
  refine Ev.cV (av := []) (st := []) (a := 0) (EX11_isTold (l := l) (Ln := Ln) (xs := xs) (d := 0) f m (by decide)) rfl (by decide +kernel) mwX11_isTold iwX11_isTold vwX11_isTold lk_11_153 (by omega) (by decide) rfl (by decide) rfl rfl (Nat.le_of_ble_eq_true rfl) (fun r1 m2 => ?_)
  refine Ev.if_eq (t := 33) (by decide +kernel) ?_ ?_
  · refine Ev.run (pc' := 34) (ls' := [some (.ref 0), some (.int a1)]) (st' := [.int (-1)]) (m' := m2) [(.iconst (-1), 0, 0, (-1), 0)] (by decide +kernel) rfl ?_
    exact Ev.ireti rfl rfl (by decide +kernel)
  · refine Ev.run (pc' := 12) (ls' := [some (.ref 0), some (.int a1)]) (st' := [.int 30, .int 1, .int a1, .ref 0]) (m' := m2) [(.aload_n 0, 0, 0, 0, 0), (.iload_n 1, 0, 0, 0, 0), (.iconst 1, 0, 0, 1, 0), (.bipush 30, 0, 0, 30, 0)] (by decide +kernel) rfl ?_
    refine Ev.cV (av := [.int a1, .int 1, .int 30]) (st := []) (a := 0) (EX11_canBeAhead (l := l) (Ln := Ln) (xs := xs) (d := 0) f a1 (1 : Int32) (30 : Int32) m2 (by decide)) rfl (by decide +kernel) mwX11_canBeAhead iwX11_canBeAhead vwX11_canBeAhead lk_11_206 (by omega) (by decide) rfl (by decide) rfl rfl (Nat.le_of_ble_eq_true rfl) (fun r3 m4 => ?_)
    refine Ev.if_eq (t := 33) (by decide +kernel) ?_ ?_
    · refine Ev.run (pc' := 34) (ls' := [some (.ref 0), some (.int a1)]) (st' := [.int (-1)]) (m' := m4) [(.iconst (-1), 0, 0, (-1), 0)] (by decide +kernel) rfl ?_
      exact Ev.ireti rfl rfl (by decide +kernel)
    · refine Ev.run (pc' := 27) (ls' := [some (.ref 0), some (.int a1)]) (st' := [.int a1, .ref 103, .ref 29]) (m' := m4) [(.aload_n 0, 0, 0, 0, 0), (.getfield 58, 11, 6, 0, 0), (.aload_n 0, 0, 0, 0, 0), (.getfield 79, 11, 9, 0, 0), (.iload_n 1, 0, 0, 0, 0)] (by decide +kernel) rfl ?_
      refine Ev.cV (av := [.ref 103, .int a1]) (st := []) (a := 29) (EX0_fewestToCheer (l := l) (Ln := Ln) (xs := xs) (d := 6) f 103 a1 m4 (by decide) (by decide)) rfl (by decide +kernel) mwX0_fewestToCheer iwX0_fewestToCheer vwX0_fewestToCheer lk_11_234 (by omega) (by decide) rfl (by decide) rfl rfl (Nat.le_of_ble_eq_true rfl) (fun r5 m6 => ?_)
      refine Ev.gto (t := 34) (by decide +kernel) ?_
      exact Ev.ireti rfl rfl (by decide +kernel)
def FX11_sighs (f : Nat) (a1 : Int32) (m : ev_M) : Option (Int32 × ev_M) :=
  (ev_bd (FX11_isTold f m) (fun r1 m2 => (if r1 = 0 then some ((-1), m2) else (ev_bd (FX11_canBeAhead f a1 (1 : Int32) (30 : Int32) m2) (fun r3 m4 => (if r3 = 0 then some ((-1), m4) else (ev_bd (FX0_fewestToSigh f 103 a1 m4) (fun r5 m6 => some (r5, m6)))))))))
set_option maxRecDepth 100000 in
set_option maxHeartbeats 4000000 in
theorem EX11_sighs {l : Launch} {Ln : Nat} {xs : Nat → Int32} {d : Nat} (f : Nat) (a1 : Int32) (m : ev_M)  (hd : 7 ≤ d) : Mv ev_eI l Ln xs YX11_sighs d Sx [.ref 0, .int a1] m (FX11_sighs f a1 m) := by
  refine Mv.of (by decide +kernel) rfl (Nat.le_of_ble_eq_true rfl) (Ev.le (ls' := [some (.ref 0), some (.int a1)]) ⟨rfl, ⟨rfl, trivial⟩⟩ ?_)
  unfold FX11_sighs
  refine Ev.run (pc' := 1) (ls' := [some (.ref 0), some (.int a1)]) (st' := [.ref 0]) (m' := m) [(.aload_n 0, 0, 0, 0, 0)] (by decide +kernel) rfl ?_
  refine Ev.cV (av := []) (st := []) (a := 0) (EX11_isTold (l := l) (Ln := Ln) (xs := xs) (d := 0) f m (by decide)) rfl (by decide +kernel) mwX11_isTold iwX11_isTold vwX11_isTold lk_11_153 (by omega) (by decide) rfl (by decide) rfl rfl (Nat.le_of_ble_eq_true rfl) (fun r1 m2 => ?_)
  refine Ev.if_eq (t := 33) (by decide +kernel) ?_ ?_
  · refine Ev.run (pc' := 34) (ls' := [some (.ref 0), some (.int a1)]) (st' := [.int (-1)]) (m' := m2) [(.iconst (-1), 0, 0, (-1), 0)] (by decide +kernel) rfl ?_
    exact Ev.ireti rfl rfl (by decide +kernel)
  · refine Ev.run (pc' := 12) (ls' := [some (.ref 0), some (.int a1)]) (st' := [.int 30, .int 1, .int a1, .ref 0]) (m' := m2) [(.aload_n 0, 0, 0, 0, 0), (.iload_n 1, 0, 0, 0, 0), (.iconst 1, 0, 0, 1, 0), (.bipush 30, 0, 0, 30, 0)] (by decide +kernel) rfl ?_
    refine Ev.cV (av := [.int a1, .int 1, .int 30]) (st := []) (a := 0) (EX11_canBeAhead (l := l) (Ln := Ln) (xs := xs) (d := 0) f a1 (1 : Int32) (30 : Int32) m2 (by decide)) rfl (by decide +kernel) mwX11_canBeAhead iwX11_canBeAhead vwX11_canBeAhead lk_11_206 (by omega) (by decide) rfl (by decide) rfl rfl (Nat.le_of_ble_eq_true rfl) (fun r3 m4 => ?_)
    refine Ev.if_eq (t := 33) (by decide +kernel) ?_ ?_
    · refine Ev.run (pc' := 34) (ls' := [some (.ref 0), some (.int a1)]) (st' := [.int (-1)]) (m' := m4) [(.iconst (-1), 0, 0, (-1), 0)] (by decide +kernel) rfl ?_
      exact Ev.ireti rfl rfl (by decide +kernel)
    · refine Ev.run (pc' := 27) (ls' := [some (.ref 0), some (.int a1)]) (st' := [.int a1, .ref 103, .ref 29]) (m' := m4) [(.aload_n 0, 0, 0, 0, 0), (.getfield 58, 11, 6, 0, 0), (.aload_n 0, 0, 0, 0, 0), (.getfield 79, 11, 9, 0, 0), (.iload_n 1, 0, 0, 0, 0)] (by decide +kernel) rfl ?_
      refine Ev.cV (av := [.ref 103, .int a1]) (st := []) (a := 29) (EX0_fewestToSigh (l := l) (Ln := Ln) (xs := xs) (d := 6) f 103 a1 m4 (by decide) (by decide)) rfl (by decide +kernel) mwX0_fewestToSigh iwX0_fewestToSigh vwX0_fewestToSigh lk_11_238 (by omega) (by decide) rfl (by decide) rfl rfl (Nat.le_of_ble_eq_true rfl) (fun r5 m6 => ?_)
      refine Ev.gto (t := 34) (by decide +kernel) ?_
      exact Ev.ireti rfl rfl (by decide +kernel)
def FX11_better (f : Nat) (a1 : Int32) (a2 : Int32) (m : ev_M) : Option (Int32 × ev_M) :=
  (ev_bd (FX11_isTold f m) (fun r1 m2 => (if r1 = 0 then some ((-1), m2) else (ev_bd (FX11_canBeAhead f a1 (1 : Int32) (30 : Int32) m2) (fun r3 m4 => (if r3 = 0 then some ((-1), m4) else (if a2 < 0 then some ((-1), m4) else (if a2 ≤ 1 then (ev_bd (FX0_seekYes f 103 a1 m4) (fun _ m6 => (if (m6.1 29 2) = (-1) then some ((-1), m6) else (if a2 = 0 then some ((m6.1 29 2), m6) else some ((m6.1 29 4), m6))))) else some ((-1), m4)))))))))
set_option maxRecDepth 100000 in
set_option maxHeartbeats 4000000 in
theorem EX11_better {l : Launch} {Ln : Nat} {xs : Nat → Int32} {d : Nat} (f : Nat) (a1 : Int32) (a2 : Int32) (m : ev_M)  (hd : 7 ≤ d) : Mv ev_eI l Ln xs YX11_better d Sx [.ref 0, .int a1, .int a2] m (FX11_better f a1 a2 m) := by
  refine Mv.of (by decide +kernel) rfl (Nat.le_of_ble_eq_true rfl) (Ev.le (ls' := [some (.ref 0), some (.int a1), some (.int a2)]) ⟨rfl, ⟨rfl, ⟨rfl, trivial⟩⟩⟩ ?_)
  unfold FX11_better
  refine Ev.run (pc' := 1) (ls' := [some (.ref 0), some (.int a1), some (.int a2)]) (st' := [.ref 0]) (m' := m) [(.aload_n 0, 0, 0, 0, 0)] (by decide +kernel) rfl ?_
  refine Ev.cV (av := []) (st := []) (a := 0) (EX11_isTold (l := l) (Ln := Ln) (xs := xs) (d := 0) f m (by decide)) rfl (by decide +kernel) mwX11_isTold iwX11_isTold vwX11_isTold lk_11_153 (by omega) (by decide) rfl (by decide) rfl rfl (Nat.le_of_ble_eq_true rfl) (fun r1 m2 => ?_)
  refine Ev.if_eq (t := 27) (by decide +kernel) ?_ ?_
  · refine Ev.run (pc' := 28) (ls' := [some (.ref 0), some (.int a1), some (.int a2)]) (st' := [.int (-1)]) (m' := m2) [(.iconst (-1), 0, 0, (-1), 0)] (by decide +kernel) rfl ?_
    exact Ev.ireti rfl rfl (by decide +kernel)
  · refine Ev.run (pc' := 12) (ls' := [some (.ref 0), some (.int a1), some (.int a2)]) (st' := [.int 30, .int 1, .int a1, .ref 0]) (m' := m2) [(.aload_n 0, 0, 0, 0, 0), (.iload_n 1, 0, 0, 0, 0), (.iconst 1, 0, 0, 1, 0), (.bipush 30, 0, 0, 30, 0)] (by decide +kernel) rfl ?_
    refine Ev.cV (av := [.int a1, .int 1, .int 30]) (st := []) (a := 0) (EX11_canBeAhead (l := l) (Ln := Ln) (xs := xs) (d := 0) f a1 (1 : Int32) (30 : Int32) m2 (by decide)) rfl (by decide +kernel) mwX11_canBeAhead iwX11_canBeAhead vwX11_canBeAhead lk_11_206 (by omega) (by decide) rfl (by decide) rfl rfl (Nat.le_of_ble_eq_true rfl) (fun r3 m4 => ?_)
    refine Ev.if_eq (t := 27) (by decide +kernel) ?_ ?_
    · refine Ev.run (pc' := 28) (ls' := [some (.ref 0), some (.int a1), some (.int a2)]) (st' := [.int (-1)]) (m' := m4) [(.iconst (-1), 0, 0, (-1), 0)] (by decide +kernel) rfl ?_
      exact Ev.ireti rfl rfl (by decide +kernel)
    · refine Ev.run (pc' := 19) (ls' := [some (.ref 0), some (.int a1), some (.int a2)]) (st' := [.int a2]) (m' := m4) [(.iload_n 2, 0, 0, 0, 0)] (by decide +kernel) rfl ?_
      refine Ev.if_lt (t := 27) (by decide +kernel) ?_ ?_
      · refine Ev.run (pc' := 28) (ls' := [some (.ref 0), some (.int a1), some (.int a2)]) (st' := [.int (-1)]) (m' := m4) [(.iconst (-1), 0, 0, (-1), 0)] (by decide +kernel) rfl ?_
        exact Ev.ireti rfl rfl (by decide +kernel)
      · refine Ev.run (pc' := 24) (ls' := [some (.ref 0), some (.int a1), some (.int a2)]) (st' := [.int 1, .int a2]) (m' := m4) [(.iload_n 2, 0, 0, 0, 0), (.iconst 1, 0, 0, 1, 0)] (by decide +kernel) rfl ?_
        refine Ev.ic_le (t := 29) (by decide +kernel) ?_ ?_
        · refine Ev.run (pc' := 38) (ls' := [some (.ref 0), some (.int a1), some (.int a2)]) (st' := [.int a1, .ref 103, .ref 29]) (m' := m4) [(.aload_n 0, 0, 0, 0, 0), (.getfield 58, 11, 6, 0, 0), (.aload_n 0, 0, 0, 0, 0), (.getfield 79, 11, 9, 0, 0), (.iload_n 1, 0, 0, 0, 0)] (by decide +kernel) rfl ?_
          refine Ev.cV (av := [.ref 103, .int a1]) (st := []) (a := 29) (EX0_seekYes (l := l) (Ln := Ln) (xs := xs) (d := 6) f 103 a1 m4 (by decide) (by decide)) rfl (by decide +kernel) mwX0_seekYes iwX0_seekYes vwX0_seekYes lk_11_241 (by omega) (by decide) rfl (by decide) rfl rfl (Nat.le_of_ble_eq_true rfl) (fun r5 m6 => ?_)
          refine Ev.run (pc' := 49) (ls' := [some (.ref 0), some (.int a1), some (.int a2)]) (st' := [.int (-1), .int (m6.1 29 2)]) (m' := m6) [(.aload_n 0, 0, 0, 0, 0), (.getfield 58, 11, 6, 0, 0), (.getfield 244, 0, 2, 0, 0), (.iconst (-1), 0, 0, (-1), 0)] (by decide +kernel) rfl ?_
          refine Ev.ic_ne (t := 54) (by decide +kernel) ?_ ?_
          · refine Ev.run (pc' := 55) (ls' := [some (.ref 0), some (.int a1), some (.int a2)]) (st' := [.int a2]) (m' := m6) [(.iload_n 2, 0, 0, 0, 0)] (by decide +kernel) rfl ?_
            refine Ev.if_ne (t := 68) (by decide +kernel) ?_ ?_
            · refine Ev.run (pc' := 75) (ls' := [some (.ref 0), some (.int a1), some (.int a2)]) (st' := [.int (m6.1 29 4)]) (m' := m6) [(.aload_n 0, 0, 0, 0, 0), (.getfield 58, 11, 6, 0, 0), (.getfield 247, 0, 4, 0, 0)] (by decide +kernel) rfl ?_
              exact Ev.ireti rfl rfl (by decide +kernel)
            · refine Ev.run (pc' := 65) (ls' := [some (.ref 0), some (.int a1), some (.int a2)]) (st' := [.int (m6.1 29 2)]) (m' := m6) [(.aload_n 0, 0, 0, 0, 0), (.getfield 58, 11, 6, 0, 0), (.getfield 244, 0, 2, 0, 0)] (by decide +kernel) rfl ?_
              refine Ev.gto (t := 75) (by decide +kernel) ?_
              exact Ev.ireti rfl rfl (by decide +kernel)
          · refine Ev.run (pc' := 53) (ls' := [some (.ref 0), some (.int a1), some (.int a2)]) (st' := [.int (-1)]) (m' := m6) [(.iconst (-1), 0, 0, (-1), 0)] (by decide +kernel) rfl ?_
            exact Ev.ireti rfl rfl (by decide +kernel)
        · refine Ev.run (pc' := 28) (ls' := [some (.ref 0), some (.int a1), some (.int a2)]) (st' := [.int (-1)]) (m' := m4) [(.iconst (-1), 0, 0, (-1), 0)] (by decide +kernel) rfl ?_
          exact Ev.ireti rfl rfl (by decide +kernel)
def FX11_placed (f : Nat) (a1 : Int32) (a2 : Int32) (m : ev_M) : Option (Int32 × ev_M) :=
  (ev_bd (FX11_isTold f m) (fun r1 m2 => (if r1 = 0 then some ((-1), m2) else (ev_bd (FX11_canBeAhead f a1 (1 : Int32) (30 : Int32) m2) (fun r3 m4 => (if r3 = 0 then some ((-1), m4) else (if a2 < 0 then some ((-1), m4) else (if a2 ≤ 2 then (ev_bd (FX0_seekPlaces f 103 a1 m4) (fun _ m6 => (if (m6.1 29 2) = (-1) then some ((-1), m6) else (if a2 = 2 then some ((m6.1 29 4), m6) else (if a2 = 0 then some ((m6.1 29 2), m6) else some ((m6.1 29 3), m6)))))) else some ((-1), m4)))))))))
set_option maxRecDepth 100000 in
set_option maxHeartbeats 4000000 in
theorem EX11_placed {l : Launch} {Ln : Nat} {xs : Nat → Int32} {d : Nat} (f : Nat) (a1 : Int32) (a2 : Int32) (m : ev_M)  (hd : 7 ≤ d) : Mv ev_eI l Ln xs YX11_placed d Sx [.ref 0, .int a1, .int a2] m (FX11_placed f a1 a2 m) := by
  refine Mv.of (by decide +kernel) rfl (Nat.le_of_ble_eq_true rfl) (Ev.le (ls' := [some (.ref 0), some (.int a1), some (.int a2)]) ⟨rfl, ⟨rfl, ⟨rfl, trivial⟩⟩⟩ ?_)
  unfold FX11_placed
  refine Ev.run (pc' := 1) (ls' := [some (.ref 0), some (.int a1), some (.int a2)]) (st' := [.ref 0]) (m' := m) [(.aload_n 0, 0, 0, 0, 0)] (by decide +kernel) rfl ?_
  refine Ev.cV (av := []) (st := []) (a := 0) (EX11_isTold (l := l) (Ln := Ln) (xs := xs) (d := 0) f m (by decide)) rfl (by decide +kernel) mwX11_isTold iwX11_isTold vwX11_isTold lk_11_153 (by omega) (by decide) rfl (by decide) rfl rfl (Nat.le_of_ble_eq_true rfl) (fun r1 m2 => ?_)
  refine Ev.if_eq (t := 27) (by decide +kernel) ?_ ?_
  · refine Ev.run (pc' := 28) (ls' := [some (.ref 0), some (.int a1), some (.int a2)]) (st' := [.int (-1)]) (m' := m2) [(.iconst (-1), 0, 0, (-1), 0)] (by decide +kernel) rfl ?_
    exact Ev.ireti rfl rfl (by decide +kernel)
  · refine Ev.run (pc' := 12) (ls' := [some (.ref 0), some (.int a1), some (.int a2)]) (st' := [.int 30, .int 1, .int a1, .ref 0]) (m' := m2) [(.aload_n 0, 0, 0, 0, 0), (.iload_n 1, 0, 0, 0, 0), (.iconst 1, 0, 0, 1, 0), (.bipush 30, 0, 0, 30, 0)] (by decide +kernel) rfl ?_
    refine Ev.cV (av := [.int a1, .int 1, .int 30]) (st := []) (a := 0) (EX11_canBeAhead (l := l) (Ln := Ln) (xs := xs) (d := 0) f a1 (1 : Int32) (30 : Int32) m2 (by decide)) rfl (by decide +kernel) mwX11_canBeAhead iwX11_canBeAhead vwX11_canBeAhead lk_11_206 (by omega) (by decide) rfl (by decide) rfl rfl (Nat.le_of_ble_eq_true rfl) (fun r3 m4 => ?_)
    refine Ev.if_eq (t := 27) (by decide +kernel) ?_ ?_
    · refine Ev.run (pc' := 28) (ls' := [some (.ref 0), some (.int a1), some (.int a2)]) (st' := [.int (-1)]) (m' := m4) [(.iconst (-1), 0, 0, (-1), 0)] (by decide +kernel) rfl ?_
      exact Ev.ireti rfl rfl (by decide +kernel)
    · refine Ev.run (pc' := 19) (ls' := [some (.ref 0), some (.int a1), some (.int a2)]) (st' := [.int a2]) (m' := m4) [(.iload_n 2, 0, 0, 0, 0)] (by decide +kernel) rfl ?_
      refine Ev.if_lt (t := 27) (by decide +kernel) ?_ ?_
      · refine Ev.run (pc' := 28) (ls' := [some (.ref 0), some (.int a1), some (.int a2)]) (st' := [.int (-1)]) (m' := m4) [(.iconst (-1), 0, 0, (-1), 0)] (by decide +kernel) rfl ?_
        exact Ev.ireti rfl rfl (by decide +kernel)
      · refine Ev.run (pc' := 24) (ls' := [some (.ref 0), some (.int a1), some (.int a2)]) (st' := [.int 2, .int a2]) (m' := m4) [(.iload_n 2, 0, 0, 0, 0), (.iconst 2, 0, 0, 2, 0)] (by decide +kernel) rfl ?_
        refine Ev.ic_le (t := 29) (by decide +kernel) ?_ ?_
        · refine Ev.run (pc' := 38) (ls' := [some (.ref 0), some (.int a1), some (.int a2)]) (st' := [.int a1, .ref 103, .ref 29]) (m' := m4) [(.aload_n 0, 0, 0, 0, 0), (.getfield 58, 11, 6, 0, 0), (.aload_n 0, 0, 0, 0, 0), (.getfield 79, 11, 9, 0, 0), (.iload_n 1, 0, 0, 0, 0)] (by decide +kernel) rfl ?_
          refine Ev.cV (av := [.ref 103, .int a1]) (st := []) (a := 29) (EX0_seekPlaces (l := l) (Ln := Ln) (xs := xs) (d := 6) f 103 a1 m4 (by decide) (by decide)) rfl (by decide +kernel) mwX0_seekPlaces iwX0_seekPlaces vwX0_seekPlaces lk_11_250 (by omega) (by decide) rfl (by decide) rfl rfl (Nat.le_of_ble_eq_true rfl) (fun r5 m6 => ?_)
          refine Ev.run (pc' := 49) (ls' := [some (.ref 0), some (.int a1), some (.int a2)]) (st' := [.int (-1), .int (m6.1 29 2)]) (m' := m6) [(.aload_n 0, 0, 0, 0, 0), (.getfield 58, 11, 6, 0, 0), (.getfield 244, 0, 2, 0, 0), (.iconst (-1), 0, 0, (-1), 0)] (by decide +kernel) rfl ?_
          refine Ev.ic_ne (t := 54) (by decide +kernel) ?_ ?_
          · refine Ev.run (pc' := 56) (ls' := [some (.ref 0), some (.int a1), some (.int a2)]) (st' := [.int 2, .int a2]) (m' := m6) [(.iload_n 2, 0, 0, 0, 0), (.iconst 2, 0, 0, 2, 0)] (by decide +kernel) rfl ?_
            refine Ev.ic_ne (t := 67) (by decide +kernel) ?_ ?_
            · refine Ev.run (pc' := 68) (ls' := [some (.ref 0), some (.int a1), some (.int a2)]) (st' := [.int a2]) (m' := m6) [(.iload_n 2, 0, 0, 0, 0)] (by decide +kernel) rfl ?_
              refine Ev.if_ne (t := 81) (by decide +kernel) ?_ ?_
              · refine Ev.run (pc' := 88) (ls' := [some (.ref 0), some (.int a1), some (.int a2)]) (st' := [.int (m6.1 29 3)]) (m' := m6) [(.aload_n 0, 0, 0, 0, 0), (.getfield 58, 11, 6, 0, 0), (.getfield 253, 0, 3, 0, 0)] (by decide +kernel) rfl ?_
                exact Ev.ireti rfl rfl (by decide +kernel)
              · refine Ev.run (pc' := 78) (ls' := [some (.ref 0), some (.int a1), some (.int a2)]) (st' := [.int (m6.1 29 2)]) (m' := m6) [(.aload_n 0, 0, 0, 0, 0), (.getfield 58, 11, 6, 0, 0), (.getfield 244, 0, 2, 0, 0)] (by decide +kernel) rfl ?_
                refine Ev.gto (t := 88) (by decide +kernel) ?_
                exact Ev.ireti rfl rfl (by decide +kernel)
            · refine Ev.run (pc' := 66) (ls' := [some (.ref 0), some (.int a1), some (.int a2)]) (st' := [.int (m6.1 29 4)]) (m' := m6) [(.aload_n 0, 0, 0, 0, 0), (.getfield 58, 11, 6, 0, 0), (.getfield 247, 0, 4, 0, 0)] (by decide +kernel) rfl ?_
              exact Ev.ireti rfl rfl (by decide +kernel)
          · refine Ev.run (pc' := 53) (ls' := [some (.ref 0), some (.int a1), some (.int a2)]) (st' := [.int (-1)]) (m' := m6) [(.iconst (-1), 0, 0, (-1), 0)] (by decide +kernel) rfl ?_
            exact Ev.ireti rfl rfl (by decide +kernel)
        · refine Ev.run (pc' := 28) (ls' := [some (.ref 0), some (.int a1), some (.int a2)]) (st' := [.int (-1)]) (m' := m4) [(.iconst (-1), 0, 0, (-1), 0)] (by decide +kernel) rfl ?_
          exact Ev.ireti rfl rfl (by decide +kernel)
def FX11_game (f : Nat) (a1 : Int32) (m : ev_M) : Option (Int32 × ev_M) :=
  (ev_bd (FX11_isTold f m) (fun r1 m2 => (if r1 = 0 then some ((-1), m2) else (ev_bd (FX8_hasNext f 103 m2) (fun r3 m4 => (if r3 = 0 then some ((-1), m4) else (if a1 < 0 then some ((-1), m4) else (if a1 ≤ 1 then (ev_bd (FX0_play f 103 m4) (fun _ m6 => (if a1 = 0 then some ((m6.1 29 4), m6) else some ((m6.1 29 2), m6)))) else some ((-1), m4)))))))))
set_option maxRecDepth 100000 in
set_option maxHeartbeats 4000000 in
theorem EX11_game {l : Launch} {Ln : Nat} {xs : Nat → Int32} {d : Nat} (f : Nat) (a1 : Int32) (m : ev_M)  (hd : 7 ≤ d) : Mv ev_eI l Ln xs YX11_game d Sx [.ref 0, .int a1] m (FX11_game f a1 m) := by
  refine Mv.of (by decide +kernel) rfl (Nat.le_of_ble_eq_true rfl) (Ev.le (ls' := [some (.ref 0), some (.int a1)]) ⟨rfl, ⟨rfl, trivial⟩⟩ ?_)
  unfold FX11_game
  refine Ev.run (pc' := 1) (ls' := [some (.ref 0), some (.int a1)]) (st' := [.ref 0]) (m' := m) [(.aload_n 0, 0, 0, 0, 0)] (by decide +kernel) rfl ?_
  refine Ev.cV (av := []) (st := []) (a := 0) (EX11_isTold (l := l) (Ln := Ln) (xs := xs) (d := 0) f m (by decide)) rfl (by decide +kernel) mwX11_isTold iwX11_isTold vwX11_isTold lk_11_153 (by omega) (by decide) rfl (by decide) rfl rfl (Nat.le_of_ble_eq_true rfl) (fun r1 m2 => ?_)
  refine Ev.if_eq (t := 26) (by decide +kernel) ?_ ?_
  · refine Ev.run (pc' := 27) (ls' := [some (.ref 0), some (.int a1)]) (st' := [.int (-1)]) (m' := m2) [(.iconst (-1), 0, 0, (-1), 0)] (by decide +kernel) rfl ?_
    exact Ev.ireti rfl rfl (by decide +kernel)
  · refine Ev.run (pc' := 11) (ls' := [some (.ref 0), some (.int a1)]) (st' := [.ref 103]) (m' := m2) [(.aload_n 0, 0, 0, 0, 0), (.getfield 79, 11, 9, 0, 0)] (by decide +kernel) rfl ?_
    refine Ev.cV (av := []) (st := []) (a := 103) (EX8_hasNext (l := l) (Ln := Ln) (xs := xs) (d := 0) f 103 m2 (by decide) (by decide)) rfl (by decide +kernel) mwX8_hasNext iwX8_hasNext vwX8_hasNext lk_11_217 (by omega) (by decide) rfl (by decide) rfl rfl (Nat.le_of_ble_eq_true rfl) (fun r3 m4 => ?_)
    refine Ev.if_eq (t := 26) (by decide +kernel) ?_ ?_
    · refine Ev.run (pc' := 27) (ls' := [some (.ref 0), some (.int a1)]) (st' := [.int (-1)]) (m' := m4) [(.iconst (-1), 0, 0, (-1), 0)] (by decide +kernel) rfl ?_
      exact Ev.ireti rfl rfl (by decide +kernel)
    · refine Ev.run (pc' := 18) (ls' := [some (.ref 0), some (.int a1)]) (st' := [.int a1]) (m' := m4) [(.iload_n 1, 0, 0, 0, 0)] (by decide +kernel) rfl ?_
      refine Ev.if_lt (t := 26) (by decide +kernel) ?_ ?_
      · refine Ev.run (pc' := 27) (ls' := [some (.ref 0), some (.int a1)]) (st' := [.int (-1)]) (m' := m4) [(.iconst (-1), 0, 0, (-1), 0)] (by decide +kernel) rfl ?_
        exact Ev.ireti rfl rfl (by decide +kernel)
      · refine Ev.run (pc' := 23) (ls' := [some (.ref 0), some (.int a1)]) (st' := [.int 1, .int a1]) (m' := m4) [(.iload_n 1, 0, 0, 0, 0), (.iconst 1, 0, 0, 1, 0)] (by decide +kernel) rfl ?_
        refine Ev.ic_le (t := 28) (by decide +kernel) ?_ ?_
        · refine Ev.run (pc' := 36) (ls' := [some (.ref 0), some (.int a1)]) (st' := [.ref 103, .ref 29]) (m' := m4) [(.aload_n 0, 0, 0, 0, 0), (.getfield 58, 11, 6, 0, 0), (.aload_n 0, 0, 0, 0, 0), (.getfield 79, 11, 9, 0, 0)] (by decide +kernel) rfl ?_
          refine Ev.cV (av := [.ref 103]) (st := []) (a := 29) (EX0_play (l := l) (Ln := Ln) (xs := xs) (d := 6) f 103 m4 (by decide) (by decide)) rfl (by decide +kernel) mwX0_play iwX0_play vwX0_play lk_11_256 (by omega) (by decide) rfl (by decide) rfl rfl (Nat.le_of_ble_eq_true rfl) (fun r5 m6 => ?_)
          refine Ev.run (pc' := 40) (ls' := [some (.ref 0), some (.int a1)]) (st' := [.int a1]) (m' := m6) [(.iload_n 1, 0, 0, 0, 0)] (by decide +kernel) rfl ?_
          refine Ev.if_ne (t := 53) (by decide +kernel) ?_ ?_
          · refine Ev.run (pc' := 60) (ls' := [some (.ref 0), some (.int a1)]) (st' := [.int (m6.1 29 2)]) (m' := m6) [(.aload_n 0, 0, 0, 0, 0), (.getfield 58, 11, 6, 0, 0), (.getfield 244, 0, 2, 0, 0)] (by decide +kernel) rfl ?_
            exact Ev.ireti rfl rfl (by decide +kernel)
          · refine Ev.run (pc' := 50) (ls' := [some (.ref 0), some (.int a1)]) (st' := [.int (m6.1 29 4)]) (m' := m6) [(.aload_n 0, 0, 0, 0, 0), (.getfield 58, 11, 6, 0, 0), (.getfield 247, 0, 4, 0, 0)] (by decide +kernel) rfl ?_
            refine Ev.gto (t := 60) (by decide +kernel) ?_
            exact Ev.ireti rfl rfl (by decide +kernel)
        · refine Ev.run (pc' := 27) (ls' := [some (.ref 0), some (.int a1)]) (st' := [.int (-1)]) (m' := m4) [(.iconst (-1), 0, 0, (-1), 0)] (by decide +kernel) rfl ?_
          exact Ev.ireti rfl rfl (by decide +kernel)
