def FX12_letter_L38 (f : Nat) (k : Int32 → ev_M → Option (Int32 × ev_M))   : Nat → Int32 → Int64 → ev_M → Option (Int32 × ev_M)
  | 0, _, _, _ => none
  | n + 1, a5, a6, m => (if (lg_cmp a6 0) ≤ 0 then (k a5 m) else (FX12_letter_L38 f k n (a5 + 1) (a6 / 27) m))
def FX12_letter_L73 (f : Nat) (k : Int64 → ev_M → Option (Int32 × ev_M))  (a2 : Int32) : Nat → Int64 → Int32 → ev_M → Option (Int32 × ev_M)
  | 0, _, _, _ => none
  | n + 1, a3, a6, m => (if a6 ≤ a2 then (k a3 m) else (FX12_letter_L73 f k a2 n (a3 / 27) (a6 + (-1)) m))
def FX12_letter (f : Nat) (a1 : Int32) (a2 : Int32) (m : ev_M) : Option (Int32 × ev_M) :=
  (ev_bd (FX12_isTower f a1 m) (fun r1 m2 => (if r1 = 0 then some ((-1), m2) else (ev_bd (FX12_isIn f (a2 : Int32).toInt64 (0 : Int64) (5 : Int64) m2) (fun r3 m4 => (if r3 = 0 then some ((-1), m4) else (if ev_in (8 + a1) 16 then (FX12_letter_L38 f (fun e5 m6 => (if a2 < e5 then (FX12_letter_L73 f (fun e7 m8 => some (((e7 - e7 / 27 * 27) : Int64).toInt32, m8)) a2 f (m4.2 138 (8 + a1).toNatClampNeg) (e5 - 1) m6) else some (0, m6))) f (0 : Int32) (m4.2 138 (8 + a1).toNatClampNeg) m4) else none)))))))
set_option maxRecDepth 100000 in
set_option maxHeartbeats 4000000 in
theorem EX12_letter_L38 {l : Launch} {Ln : Nat} {xs : Nat → Int32} {d : Nat} (f : Nat) (k : Int32 → ev_M → Option (Int32 × ev_M))  (a2 : Int32) (a3 : Int64)   (hk : ∀ (e5 : Int32) (em : ev_M), Ev ev_eI l Ln xs YX12_letter d Sx 59 [none, none, some (.int a2), some (.long a3), none, some (.int e5), none, none] [] em (k e5 em)) (hd : 2 ≤ d) : ∀ (n : Nat) (a5 : Int32) (a6 : Int64) (m : ev_M), Ev ev_eI l Ln xs YX12_letter d Sx 38 [none, none, some (.int a2), some (.long a3), none, some (.int a5), some (.long a6), none] [] m (FX12_letter_L38 f k n a5 a6 m) := by
  intro n
  induction n with
  | zero => intros; exact Ev.nn
  | succ n ih =>
    intro a5 a6 m
    rw [FX12_letter_L38]
    refine Ev.run (pc' := 42) (ls' := [none, none, some (.int a2), some (.long a3), none, some (.int a5), some (.long a6), none]) (st' := [.int (lg_cmp a6 0)]) (m' := m) [(.lload 6, 0, 0, 0, 0), (.lconst 0, 0, 0, 0, 0), (.lcmp, 0, 0, 0, 0)] (by decide +kernel) rfl ?_
    refine Ev.if_le (t := 59) (by decide +kernel) ?_ ?_
    · refine Ev.le (ls' := [none, none, some (.int a2), some (.long a3), none, some (.int a5), none, none]) ⟨rfl, ⟨rfl, ⟨rfl, trivial⟩⟩⟩ ?_
      exact hk _ _
    · refine Ev.run (pc' := 53) (ls' := [none, none, some (.int a2), some (.long a3), none, some (.int (a5 + 1)), some (.long a6), none]) (st' := [.long 27, .long a6]) (m' := m) [(.iinc 5 1, 0, 0, 1, 0), (.lload 6, 0, 0, 0, 0), (.ldc2_w 279, 0, 0, 0, 27)] (by decide +kernel) rfl ?_
      refine Ev.ldiv' (by decide +kernel) (by decide) ?_
      refine Ev.run (pc' := 56) (ls' := [none, none, some (.int a2), some (.long a3), none, some (.int (a5 + 1)), some (.long (a6 / 27)), none]) (st' := []) (m' := m) [(.lstore 6, 0, 0, 0, 0)] (by decide +kernel) rfl ?_
      refine Ev.gto (t := 38) (by decide +kernel) ?_
      exact ih _ _ _
set_option maxRecDepth 100000 in
set_option maxHeartbeats 4000000 in
theorem EX12_letter_L73 {l : Launch} {Ln : Nat} {xs : Nat → Int32} {d : Nat} (f : Nat) (k : Int64 → ev_M → Option (Int32 × ev_M))  (a2 : Int32)   (hk : ∀ (e3 : Int64) (em : ev_M), Ev ev_eI l Ln xs YX12_letter d Sx 91 [none, none, none, some (.long e3), none, none, none, none] [] em (k e3 em)) (hd : 2 ≤ d) : ∀ (n : Nat) (a3 : Int64) (a6 : Int32) (m : ev_M), Ev ev_eI l Ln xs YX12_letter d Sx 73 [none, none, some (.int a2), some (.long a3), none, none, some (.int a6), none] [] m (FX12_letter_L73 f k a2 n a3 a6 m) := by
  intro n
  induction n with
  | zero => intros; exact Ev.nn
  | succ n ih =>
    intro a3 a6 m
    rw [FX12_letter_L73]
    refine Ev.run (pc' := 76) (ls' := [none, none, some (.int a2), some (.long a3), none, none, some (.int a6), none]) (st' := [.int a2, .int a6]) (m' := m) [(.iload 6, 0, 0, 0, 0), (.iload_n 2, 0, 0, 0, 0)] (by decide +kernel) rfl ?_
    refine Ev.ic_le (t := 91) (by decide +kernel) ?_ ?_
    · refine Ev.le (ls' := [none, none, none, some (.long a3), none, none, none, none]) ⟨rfl, trivial⟩ ?_
      exact hk _ _
    · refine Ev.run (pc' := 83) (ls' := [none, none, some (.int a2), some (.long a3), none, none, some (.int a6), none]) (st' := [.long 27, .long a3]) (m' := m) [(.lload_n 3, 0, 0, 0, 0), (.ldc2_w 279, 0, 0, 0, 27)] (by decide +kernel) rfl ?_
      refine Ev.ldiv' (by decide +kernel) (by decide) ?_
      refine Ev.run (pc' := 88) (ls' := [none, none, some (.int a2), some (.long (a3 / 27)), none, none, some (.int (a6 + (-1))), none]) (st' := []) (m' := m) [(.lstore_n 3, 0, 0, 0, 0), (.iinc 6 (-1), 0, 0, (-1), 0)] (by decide +kernel) rfl ?_
      refine Ev.gto (t := 73) (by decide +kernel) ?_
      exact ih _ _ _
set_option maxRecDepth 100000 in
set_option maxHeartbeats 4000000 in
theorem EX12_letter {l : Launch} {Ln : Nat} {xs : Nat → Int32} {d : Nat} (f : Nat) (a1 : Int32) (a2 : Int32) (m : ev_M)  (hd : 2 ≤ d) : Mv ev_eI l Ln xs YX12_letter d Sx [.ref 112, .int a1, .int a2] m (FX12_letter f a1 a2 m) := by
  refine Mv.of (by decide +kernel) rfl (Nat.le_of_ble_eq_true rfl) (Ev.le (ls' := [some (.ref 112), some (.int a1), some (.int a2), none, none, none, none, none]) ⟨rfl, ⟨rfl, ⟨rfl, trivial⟩⟩⟩ ?_)
  unfold FX12_letter
  refine Ev.run (pc' := 2) (ls' := [some (.ref 112), some (.int a1), some (.int a2), none, none, none, none, none]) (st' := [.int a1, .ref 112]) (m' := m) [(.aload_n 0, 0, 0, 0, 0), (.iload_n 1, 0, 0, 0, 0)] (by decide +kernel) rfl ?_
  refine Ev.cV (av := [.int a1]) (st := []) (a := 112) (EX12_isTower (l := l) (Ln := Ln) (xs := xs) (d := 1) f a1 m (by decide)) rfl (by decide +kernel) mwX12_isTower iwX12_isTower vwX12_isTower lk_12_455 (by omega) (by decide) rfl (by decide) rfl rfl (Nat.le_of_ble_eq_true rfl) (fun r1 m2 => ?_)
  refine Ev.if_eq (t := 20) (by decide +kernel) ?_ ?_
  · refine Ev.run (pc' := 21) (ls' := [some (.ref 112), some (.int a1), some (.int a2), none, none, none, none, none]) (st' := [.int (-1)]) (m' := m2) [(.iconst (-1), 0, 0, (-1), 0)] (by decide +kernel) rfl ?_
    exact Ev.ireti rfl rfl (by decide +kernel)
  · refine Ev.run (pc' := 14) (ls' := [some (.ref 112), some (.int a1), some (.int a2), none, none, none, none, none]) (st' := [.long 5, .long 0, .long (a2 : Int32).toInt64]) (m' := m2) [(.iload_n 2, 0, 0, 0, 0), (.i2l, 0, 0, 0, 0), (.lconst 0, 0, 0, 0, 0), (.ldc2_w 458, 0, 0, 0, 5)] (by decide +kernel) rfl ?_
    refine Ev.cS (av := [.long (a2 : Int32).toInt64, .long 0, .long 5]) (st := []) (EX12_isIn (l := l) (Ln := Ln) (xs := xs) (d := 0) f (a2 : Int32).toInt64 (0 : Int64) (5 : Int64) m2 (by decide)) rfl (by decide +kernel) mwX12_isIn swX12_isIn lk_12_268 (by omega) rfl (Nat.le_of_ble_eq_true rfl) (fun r3 m4 => ?_)
    refine Ev.if_ne (t := 22) (by decide +kernel) ?_ ?_
    · refine Ev.run (pc' := 30) (ls' := [some (.ref 112), some (.int a1), some (.int a2), none, none, none, none, none]) (st' := [.int (8 + a1), .ref 138]) (m' := m4) [(.aload_n 0, 0, 0, 0, 0), (.getfield 90, 12, 37, 0, 0), (.bipush 8, 0, 0, 8, 0), (.iload_n 1, 0, 0, 0, 0), (.iadd, 0, 0, 0, 0)] (by decide +kernel) rfl ?_
      refine Ev.lald (n := 16) (by decide +kernel) (by decide) rfl ?_
      refine Ev.run (pc' := 38) (ls' := [some (.ref 112), some (.int a1), some (.int a2), some (.long (m4.2 138 (8 + a1).toNatClampNeg)), none, some (.int 0), some (.long (m4.2 138 (8 + a1).toNatClampNeg)), none]) (st' := []) (m' := m4) [(.lstore_n 3, 0, 0, 0, 0), (.iconst 0, 0, 0, 0, 0), (.istore 5, 0, 0, 0, 0), (.lload_n 3, 0, 0, 0, 0), (.lstore 6, 0, 0, 0, 0)] (by decide +kernel) rfl ?_
      refine Ev.le (ls' := [none, none, some (.int a2), some (.long (m4.2 138 (8 + a1).toNatClampNeg)), none, some (.int 0), some (.long (m4.2 138 (8 + a1).toNatClampNeg)), none]) ⟨rfl, ⟨rfl, ⟨rfl, ⟨rfl, trivial⟩⟩⟩⟩ ?_
      refine EX12_letter_L38 f _ a2 (m4.2 138 (8 + a1).toNatClampNeg) ?_ (by omega) _ _ _ _
      intro e5 m6
      refine Ev.run (pc' := 62) (ls' := [none, none, some (.int a2), some (.long (m4.2 138 (8 + a1).toNatClampNeg)), none, some (.int e5), none, none]) (st' := [.int e5, .int a2]) (m' := m6) [(.iload_n 2, 0, 0, 0, 0), (.iload 5, 0, 0, 0, 0)] (by decide +kernel) rfl ?_
      refine Ev.ic_lt (t := 67) (by decide +kernel) ?_ ?_
      · refine Ev.run (pc' := 73) (ls' := [none, none, some (.int a2), some (.long (m4.2 138 (8 + a1).toNatClampNeg)), none, some (.int e5), some (.int (e5 - 1)), none]) (st' := []) (m' := m6) [(.iload 5, 0, 0, 0, 0), (.iconst 1, 0, 0, 1, 0), (.isub, 0, 0, 0, 0), (.istore 6, 0, 0, 0, 0)] (by decide +kernel) rfl ?_
        refine Ev.le (ls' := [none, none, some (.int a2), some (.long (m4.2 138 (8 + a1).toNatClampNeg)), none, none, some (.int (e5 - 1)), none]) ⟨rfl, ⟨rfl, ⟨rfl, trivial⟩⟩⟩ ?_
        refine EX12_letter_L73 f _ a2 ?_ (by omega) _ _ _ _
        intro e7 m8
        refine Ev.run (pc' := 95) (ls' := [none, none, none, some (.long e7), none, none, none, none]) (st' := [.long 27, .long e7]) (m' := m8) [(.lload_n 3, 0, 0, 0, 0), (.ldc2_w 279, 0, 0, 0, 27)] (by decide +kernel) rfl ?_
        refine Ev.lrem' (by decide +kernel) (by decide) ?_
        refine Ev.run (pc' := 97) (ls' := [none, none, none, some (.long e7), none, none, none, none]) (st' := [.int ((e7 - e7 / 27 * 27) : Int64).toInt32]) (m' := m8) [(.l2i, 0, 0, 0, 0)] (by decide +kernel) rfl ?_
        exact Ev.ireti rfl rfl (by decide +kernel)
      · refine Ev.run (pc' := 66) (ls' := [none, none, some (.int a2), some (.long (m4.2 138 (8 + a1).toNatClampNeg)), none, some (.int e5), none, none]) (st' := [.int 0]) (m' := m6) [(.iconst 0, 0, 0, 0, 0)] (by decide +kernel) rfl ?_
        exact Ev.ireti rfl rfl (by decide +kernel)
    · refine Ev.run (pc' := 21) (ls' := [some (.ref 112), some (.int a1), some (.int a2), none, none, none, none, none]) (st' := [.int (-1)]) (m' := m4) [(.iconst (-1), 0, 0, (-1), 0)] (by decide +kernel) rfl ?_
      exact Ev.ireti rfl rfl (by decide +kernel)
def FX12_tower (f : Nat) (a1 : Int32) (a2 : Int32) (m : ev_M) : Option (Int32 × ev_M) :=
  (ev_bd (FX12_isTower f a1 m) (fun r1 m2 => (if r1 = 0 then some ((-1), m2) else (ev_bd (FX12_isIn f (a2 : Int32).toInt64 (0 : Int64) (2 : Int64) m2) (fun r3 m4 => (if r3 = 0 then some ((-1), m4) else (if ev_in ((2 + (3 * a1)) + a2) 147 then some ((m4.1 144 ((2 + (3 * a1)) + a2).toNatClampNeg), m4) else none)))))))
set_option maxRecDepth 100000 in
set_option maxHeartbeats 4000000 in
theorem EX12_tower {l : Launch} {Ln : Nat} {xs : Nat → Int32} {d : Nat} (f : Nat) (a1 : Int32) (a2 : Int32) (m : ev_M)  (hd : 2 ≤ d) : Mv ev_eI l Ln xs YX12_tower d Sx [.ref 112, .int a1, .int a2] m (FX12_tower f a1 a2 m) := by
  refine Mv.of (by decide +kernel) rfl (Nat.le_of_ble_eq_true rfl) (Ev.le (ls' := [some (.ref 112), some (.int a1), some (.int a2)]) ⟨rfl, ⟨rfl, ⟨rfl, trivial⟩⟩⟩ ?_)
  unfold FX12_tower
  refine Ev.run (pc' := 2) (ls' := [some (.ref 112), some (.int a1), some (.int a2)]) (st' := [.int a1, .ref 112]) (m' := m) [(.aload_n 0, 0, 0, 0, 0), (.iload_n 1, 0, 0, 0, 0)] (by decide +kernel) rfl ?_
  refine Ev.cV (av := [.int a1]) (st := []) (a := 112) (EX12_isTower (l := l) (Ln := Ln) (xs := xs) (d := 1) f a1 m (by decide)) rfl (by decide +kernel) mwX12_isTower iwX12_isTower vwX12_isTower lk_12_455 (by omega) (by decide) rfl (by decide) rfl rfl (Nat.le_of_ble_eq_true rfl) (fun r1 m2 => ?_)
  refine Ev.if_eq (t := 35) (by decide +kernel) ?_ ?_
  · refine Ev.run (pc' := 36) (ls' := [some (.ref 112), some (.int a1), some (.int a2)]) (st' := [.int (-1)]) (m' := m2) [(.iconst (-1), 0, 0, (-1), 0)] (by decide +kernel) rfl ?_
    exact Ev.ireti rfl rfl (by decide +kernel)
  · refine Ev.run (pc' := 14) (ls' := [some (.ref 112), some (.int a1), some (.int a2)]) (st' := [.long 2, .long 0, .long (a2 : Int32).toInt64]) (m' := m2) [(.iload_n 2, 0, 0, 0, 0), (.i2l, 0, 0, 0, 0), (.lconst 0, 0, 0, 0, 0), (.ldc2_w 460, 0, 0, 0, 2)] (by decide +kernel) rfl ?_
    refine Ev.cS (av := [.long (a2 : Int32).toInt64, .long 0, .long 2]) (st := []) (EX12_isIn (l := l) (Ln := Ln) (xs := xs) (d := 0) f (a2 : Int32).toInt64 (0 : Int64) (2 : Int64) m2 (by decide)) rfl (by decide +kernel) mwX12_isIn swX12_isIn lk_12_268 (by omega) rfl (Nat.le_of_ble_eq_true rfl) (fun r3 m4 => ?_)
    refine Ev.if_eq (t := 35) (by decide +kernel) ?_ ?_
    · refine Ev.run (pc' := 36) (ls' := [some (.ref 112), some (.int a1), some (.int a2)]) (st' := [.int (-1)]) (m' := m4) [(.iconst (-1), 0, 0, (-1), 0)] (by decide +kernel) rfl ?_
      exact Ev.ireti rfl rfl (by decide +kernel)
    · refine Ev.run (pc' := 31) (ls' := [some (.ref 112), some (.int a1), some (.int a2)]) (st' := [.int ((2 + (3 * a1)) + a2), .ref 144]) (m' := m4) [(.aload_n 0, 0, 0, 0, 0), (.getfield 109, 12, 47, 0, 0), (.iconst 2, 0, 0, 2, 0), (.iconst 3, 0, 0, 3, 0), (.iload_n 1, 0, 0, 0, 0), (.imul, 0, 0, 0, 0), (.iadd, 0, 0, 0, 0), (.iload_n 2, 0, 0, 0, 0), (.iadd, 0, 0, 0, 0)] (by decide +kernel) rfl ?_
      refine Ev.iald (n := 147) (by decide +kernel) (by decide) rfl ?_
      refine Ev.gto (t := 36) (by decide +kernel) ?_
      exact Ev.ireti rfl rfl (by decide +kernel)
def FX12_kept (f : Nat) (a1 : Int32) (a2 : Int32) (m : ev_M) : Option (Int32 × ev_M) :=
  (ev_bd (FX12_isIn f (a1 : Int32).toInt64 (0 : Int64) (((m.1 144 26) - 1) : Int32).toInt64 m) (fun r1 m2 => (if r1 = 0 then some ((-1), m2) else (ev_bd (FX12_isIn f (a2 : Int32).toInt64 (0 : Int64) (2 : Int64) m2) (fun r3 m4 => (if r3 = 0 then some ((-1), m4) else (if ev_in ((27 + (3 * a1)) + a2) 147 then some ((m4.1 144 ((27 + (3 * a1)) + a2).toNatClampNeg), m4) else none)))))))
set_option maxRecDepth 100000 in
set_option maxHeartbeats 4000000 in
theorem EX12_kept {l : Launch} {Ln : Nat} {xs : Nat → Int32} {d : Nat} (f : Nat) (a1 : Int32) (a2 : Int32) (m : ev_M)  (hd : 1 ≤ d) : Mv ev_eI l Ln xs YX12_kept d Sx [.ref 112, .int a1, .int a2] m (FX12_kept f a1 a2 m) := by
  refine Mv.of (by decide +kernel) rfl (Nat.le_of_ble_eq_true rfl) (Ev.le (ls' := [some (.ref 112), some (.int a1), some (.int a2)]) ⟨rfl, ⟨rfl, ⟨rfl, trivial⟩⟩⟩ ?_)
  unfold FX12_kept
  refine Ev.run (pc' := 9) (ls' := [some (.ref 112), some (.int a1), some (.int a2)]) (st' := [.int 26, .ref 144, .long 0, .long (a1 : Int32).toInt64]) (m' := m) [(.iload_n 1, 0, 0, 0, 0), (.i2l, 0, 0, 0, 0), (.lconst 0, 0, 0, 0, 0), (.aload_n 0, 0, 0, 0, 0), (.getfield 109, 12, 47, 0, 0), (.bipush 26, 0, 0, 26, 0)] (by decide +kernel) rfl ?_
  refine Ev.ialdK (n := 147) (j := 26) (by decide +kernel) (by decide) rfl rfl (by decide) ?_
  refine Ev.run (pc' := 13) (ls' := [some (.ref 112), some (.int a1), some (.int a2)]) (st' := [.long (((m.1 144 26) - 1) : Int32).toInt64, .long 0, .long (a1 : Int32).toInt64]) (m' := m) [(.iconst 1, 0, 0, 1, 0), (.isub, 0, 0, 0, 0), (.i2l, 0, 0, 0, 0)] (by decide +kernel) rfl ?_
  refine Ev.cS (av := [.long (a1 : Int32).toInt64, .long 0, .long (((m.1 144 26) - 1) : Int32).toInt64]) (st := []) (EX12_isIn (l := l) (Ln := Ln) (xs := xs) (d := 0) f (a1 : Int32).toInt64 (0 : Int64) (((m.1 144 26) - 1) : Int32).toInt64 m (by decide)) rfl (by decide +kernel) mwX12_isIn swX12_isIn lk_12_268 (by omega) rfl (Nat.le_of_ble_eq_true rfl) (fun r1 m2 => ?_)
  refine Ev.if_eq (t := 47) (by decide +kernel) ?_ ?_
  · refine Ev.run (pc' := 48) (ls' := [some (.ref 112), some (.int a1), some (.int a2)]) (st' := [.int (-1)]) (m' := m2) [(.iconst (-1), 0, 0, (-1), 0)] (by decide +kernel) rfl ?_
    exact Ev.ireti rfl rfl (by decide +kernel)
  · refine Ev.run (pc' := 25) (ls' := [some (.ref 112), some (.int a1), some (.int a2)]) (st' := [.long 2, .long 0, .long (a2 : Int32).toInt64]) (m' := m2) [(.iload_n 2, 0, 0, 0, 0), (.i2l, 0, 0, 0, 0), (.lconst 0, 0, 0, 0, 0), (.ldc2_w 460, 0, 0, 0, 2)] (by decide +kernel) rfl ?_
    refine Ev.cS (av := [.long (a2 : Int32).toInt64, .long 0, .long 2]) (st := []) (EX12_isIn (l := l) (Ln := Ln) (xs := xs) (d := 0) f (a2 : Int32).toInt64 (0 : Int64) (2 : Int64) m2 (by decide)) rfl (by decide +kernel) mwX12_isIn swX12_isIn lk_12_268 (by omega) rfl (Nat.le_of_ble_eq_true rfl) (fun r3 m4 => ?_)
    refine Ev.if_eq (t := 47) (by decide +kernel) ?_ ?_
    · refine Ev.run (pc' := 48) (ls' := [some (.ref 112), some (.int a1), some (.int a2)]) (st' := [.int (-1)]) (m' := m4) [(.iconst (-1), 0, 0, (-1), 0)] (by decide +kernel) rfl ?_
      exact Ev.ireti rfl rfl (by decide +kernel)
    · refine Ev.run (pc' := 43) (ls' := [some (.ref 112), some (.int a1), some (.int a2)]) (st' := [.int ((27 + (3 * a1)) + a2), .ref 144]) (m' := m4) [(.aload_n 0, 0, 0, 0, 0), (.getfield 109, 12, 47, 0, 0), (.bipush 27, 0, 0, 27, 0), (.iconst 3, 0, 0, 3, 0), (.iload_n 1, 0, 0, 0, 0), (.imul, 0, 0, 0, 0), (.iadd, 0, 0, 0, 0), (.iload_n 2, 0, 0, 0, 0), (.iadd, 0, 0, 0, 0)] (by decide +kernel) rfl ?_
      refine Ev.iald (n := 147) (by decide +kernel) (by decide) rfl ?_
      refine Ev.gto (t := 48) (by decide +kernel) ?_
      exact Ev.ireti rfl rfl (by decide +kernel)
def FX12_isWritten_L17 (f : Nat) (k : ev_M → Option (Unit × ev_M))  (a1 : Int32) : Nat → Int32 → ev_M → Option (Unit × ev_M)
  | 0, _, _ => none
  | n + 1, a2, m => (ev_bd (FX12_towerMany f m) (fun r1 m2 => (if r1 ≤ a2 then (k m2) else (ev_bd (FX12_moodOf f a2 m2) (fun r3 m4 => (if ev_in (((9 * a1) + 1) + a2) 549 then (FX12_isWritten_L17 f k a1 n (a2 + 1) ((ev_up m4.1 147 (((9 * a1) + 1) + a2).toNatClampNeg r3), m4.2)) else none))))))
def FX12_isWritten (f : Nat) (a1 : Int32) (m : ev_M) : Option (Unit × ev_M) :=
  (if ev_in (9 * a1) 549 then (FX12_isWritten_L17 f (fun m5 => some ((), m5)) a1 f (0 : Int32) ((ev_up m.1 147 (9 * a1).toNatClampNeg (m.1 144 1)), m.2)) else none)
set_option maxRecDepth 100000 in
set_option maxHeartbeats 4000000 in
theorem EX12_isWritten_L17 {l : Launch} {Ln : Nat} {xs : Nat → Int32} {d : Nat} (f : Nat) (k : ev_M → Option (Unit × ev_M))  (a1 : Int32)   (hk : ∀  (em : ev_M), Ev ev_eV l Ln xs YX12_isWritten d Sx 49 [none, none, none] [] em (k em)) (hd : 1 ≤ d) : ∀ (n : Nat) (a2 : Int32) (m : ev_M), Ev ev_eV l Ln xs YX12_isWritten d Sx 17 [some (.ref 112), some (.int a1), some (.int a2)] [] m (FX12_isWritten_L17 f k a1 n a2 m) := by
  intro n
  induction n with
  | zero => intros; exact Ev.nn
  | succ n ih =>
    intro a2 m
    rw [FX12_isWritten_L17]
    refine Ev.run (pc' := 19) (ls' := [some (.ref 112), some (.int a1), some (.int a2)]) (st' := [.ref 112, .int a2]) (m' := m) [(.iload_n 2, 0, 0, 0, 0), (.aload_n 0, 0, 0, 0, 0)] (by decide +kernel) rfl ?_
    refine Ev.cV (av := []) (st := [.int a2]) (a := 112) (EX12_towerMany (l := l) (Ln := Ln) (xs := xs) (d := 0) f m (by decide)) rfl (by decide +kernel) mwX12_towerMany iwX12_towerMany vwX12_towerMany lk_12_369 (by omega) (by decide) rfl (by decide) rfl rfl (Nat.le_of_ble_eq_true rfl) (fun r1 m2 => ?_)
    refine Ev.ic_ge (t := 49) (by decide +kernel) ?_ ?_
    · refine Ev.le (ls' := [none, none, none]) trivial ?_
      exact hk _
    · refine Ev.run (pc' := 39) (ls' := [some (.ref 112), some (.int a1), some (.int a2)]) (st' := [.int a2, .ref 112, .int (((9 * a1) + 1) + a2), .ref 147]) (m' := m2) [(.aload_n 0, 0, 0, 0, 0), (.getfield 118, 12, 57, 0, 0), (.bipush 9, 0, 0, 9, 0), (.iload_n 1, 0, 0, 0, 0), (.imul, 0, 0, 0, 0), (.iconst 1, 0, 0, 1, 0), (.iadd, 0, 0, 0, 0), (.iload_n 2, 0, 0, 0, 0), (.iadd, 0, 0, 0, 0), (.aload_n 0, 0, 0, 0, 0), (.iload_n 2, 0, 0, 0, 0)] (by decide +kernel) rfl ?_
      refine Ev.cV (av := [.int a2]) (st := [.int (((9 * a1) + 1) + a2), .ref 147]) (a := 112) (EX12_moodOf (l := l) (Ln := Ln) (xs := xs) (d := 0) f a2 m2 (by decide)) rfl (by decide +kernel) mwX12_moodOf iwX12_moodOf vwX12_moodOf lk_12_397 (by omega) (by decide) rfl (by decide) rfl rfl (Nat.le_of_ble_eq_true rfl) (fun r3 m4 => ?_)
      refine Ev.iast (n := 549) (by decide +kernel) (by decide) rfl ?_
      refine Ev.run (pc' := 46) (ls' := [some (.ref 112), some (.int a1), some (.int (a2 + 1))]) (st' := []) (m' := ((ev_up m4.1 147 (((9 * a1) + 1) + a2).toNatClampNeg r3), m4.2)) [(.iinc 2 1, 0, 0, 1, 0)] (by decide +kernel) rfl ?_
      refine Ev.gto (t := 17) (by decide +kernel) ?_
      exact ih _ _
set_option maxRecDepth 100000 in
set_option maxHeartbeats 4000000 in
theorem EX12_isWritten {l : Launch} {Ln : Nat} {xs : Nat → Int32} {d : Nat} (f : Nat) (a1 : Int32) (m : ev_M)  (hd : 1 ≤ d) : Mv ev_eV l Ln xs YX12_isWritten d Sx [.ref 112, .int a1] m (FX12_isWritten f a1 m) := by
  refine Mv.of (by decide +kernel) rfl (Nat.le_of_ble_eq_true rfl) (Ev.le (ls' := [some (.ref 112), some (.int a1), none]) ⟨rfl, ⟨rfl, trivial⟩⟩ ?_)
  unfold FX12_isWritten
  refine Ev.run (pc' := 13) (ls' := [some (.ref 112), some (.int a1), none]) (st' := [.int 1, .ref 144, .int (9 * a1), .ref 147]) (m' := m) [(.aload_n 0, 0, 0, 0, 0), (.getfield 118, 12, 57, 0, 0), (.bipush 9, 0, 0, 9, 0), (.iload_n 1, 0, 0, 0, 0), (.imul, 0, 0, 0, 0), (.aload_n 0, 0, 0, 0, 0), (.getfield 109, 12, 47, 0, 0), (.iconst 1, 0, 0, 1, 0)] (by decide +kernel) rfl ?_
  refine Ev.ialdK (n := 147) (j := 1) (by decide +kernel) (by decide) rfl rfl (by decide) ?_
  refine Ev.iast (n := 549) (by decide +kernel) (by decide) rfl ?_
  refine Ev.run (pc' := 17) (ls' := [some (.ref 112), some (.int a1), some (.int 0)]) (st' := []) (m' := ((ev_up m.1 147 (9 * a1).toNatClampNeg (m.1 144 1)), m.2)) [(.iconst 0, 0, 0, 0, 0), (.istore_n 2, 0, 0, 0, 0)] (by decide +kernel) rfl ?_
  refine EX12_isWritten_L17 f _ a1 ?_ (by omega) _ _ _
  intro m5
  exact Ev.retv rfl rfl (by decide +kernel)
def FX12_isAs_L2 (f : Nat) (k : ev_M → Option (Int32 × ev_M))  (a1 : Int32) (a2 : Int32) : Nat → Int32 → ev_M → Option (Int32 × ev_M)
  | 0, _, _ => none
  | n + 1, a3, m => (ev_bd (FX12_towerMany f m) (fun r1 m2 => (if r1 < a3 then (k m2) else (if ev_in ((9 * a1) + a3) 549 then (if ev_in ((9 * a2) + a3) 549 then (if (m2.1 147 ((9 * a1) + a3).toNatClampNeg) = (m2.1 147 ((9 * a2) + a3).toNatClampNeg) then (FX12_isAs_L2 f k a1 a2 n (a3 + 1) m2) else some (0, m2)) else none) else none))))
def FX12_isAs (f : Nat) (a1 : Int32) (a2 : Int32) (m : ev_M) : Option (Int32 × ev_M) :=
  (FX12_isAs_L2 f (fun m3 => some (1, m3)) a1 a2 f (0 : Int32) m)
set_option maxRecDepth 100000 in
set_option maxHeartbeats 4000000 in
theorem EX12_isAs_L2 {l : Launch} {Ln : Nat} {xs : Nat → Int32} {d : Nat} (f : Nat) (k : ev_M → Option (Int32 × ev_M))  (a1 : Int32) (a2 : Int32)   (hk : ∀  (em : ev_M), Ev ev_eI l Ln xs YX12_isAs d Sx 43 [none, none, none, none] [] em (k em)) (hd : 1 ≤ d) : ∀ (n : Nat) (a3 : Int32) (m : ev_M), Ev ev_eI l Ln xs YX12_isAs d Sx 2 [some (.ref 112), some (.int a1), some (.int a2), some (.int a3)] [] m (FX12_isAs_L2 f k a1 a2 n a3 m) := by
  intro n
  induction n with
  | zero => intros; exact Ev.nn
  | succ n ih =>
    intro a3 m
    rw [FX12_isAs_L2]
    refine Ev.run (pc' := 4) (ls' := [some (.ref 112), some (.int a1), some (.int a2), some (.int a3)]) (st' := [.ref 112, .int a3]) (m' := m) [(.iload_n 3, 0, 0, 0, 0), (.aload_n 0, 0, 0, 0, 0)] (by decide +kernel) rfl ?_
    refine Ev.cV (av := []) (st := [.int a3]) (a := 112) (EX12_towerMany (l := l) (Ln := Ln) (xs := xs) (d := 0) f m (by decide)) rfl (by decide +kernel) mwX12_towerMany iwX12_towerMany vwX12_towerMany lk_12_369 (by omega) (by decide) rfl (by decide) rfl rfl (Nat.le_of_ble_eq_true rfl) (fun r1 m2 => ?_)
    refine Ev.ic_gt (t := 43) (by decide +kernel) ?_ ?_
    · refine Ev.le (ls' := [none, none, none, none]) trivial ?_
      exact hk _
    · refine Ev.run (pc' := 20) (ls' := [some (.ref 112), some (.int a1), some (.int a2), some (.int a3)]) (st' := [.int ((9 * a1) + a3), .ref 147]) (m' := m2) [(.aload_n 0, 0, 0, 0, 0), (.getfield 118, 12, 57, 0, 0), (.bipush 9, 0, 0, 9, 0), (.iload_n 1, 0, 0, 0, 0), (.imul, 0, 0, 0, 0), (.iload_n 3, 0, 0, 0, 0), (.iadd, 0, 0, 0, 0)] (by decide +kernel) rfl ?_
      refine Ev.iald (n := 549) (by decide +kernel) (by decide) rfl ?_
      refine Ev.run (pc' := 31) (ls' := [some (.ref 112), some (.int a1), some (.int a2), some (.int a3)]) (st' := [.int ((9 * a2) + a3), .ref 147, .int (m2.1 147 ((9 * a1) + a3).toNatClampNeg)]) (m' := m2) [(.aload_n 0, 0, 0, 0, 0), (.getfield 118, 12, 57, 0, 0), (.bipush 9, 0, 0, 9, 0), (.iload_n 2, 0, 0, 0, 0), (.imul, 0, 0, 0, 0), (.iload_n 3, 0, 0, 0, 0), (.iadd, 0, 0, 0, 0)] (by decide +kernel) rfl ?_
      refine Ev.iald (n := 549) (by decide +kernel) (by decide) rfl ?_
      refine Ev.ic_eq (t := 37) (by decide +kernel) ?_ ?_
      · refine Ev.run (pc' := 40) (ls' := [some (.ref 112), some (.int a1), some (.int a2), some (.int (a3 + 1))]) (st' := []) (m' := m2) [(.iinc 3 1, 0, 0, 1, 0)] (by decide +kernel) rfl ?_
        refine Ev.gto (t := 2) (by decide +kernel) ?_
        exact ih _ _
      · refine Ev.run (pc' := 36) (ls' := [some (.ref 112), some (.int a1), some (.int a2), some (.int a3)]) (st' := [.int 0]) (m' := m2) [(.iconst 0, 0, 0, 0, 0)] (by decide +kernel) rfl ?_
        exact Ev.iretz rfl rfl (by decide +kernel) (by decide)
set_option maxRecDepth 100000 in
set_option maxHeartbeats 4000000 in
theorem EX12_isAs {l : Launch} {Ln : Nat} {xs : Nat → Int32} {d : Nat} (f : Nat) (a1 : Int32) (a2 : Int32) (m : ev_M)  (hd : 1 ≤ d) : Mv ev_eI l Ln xs YX12_isAs d Sx [.ref 112, .int a1, .int a2] m (FX12_isAs f a1 a2 m) := by
  refine Mv.of (by decide +kernel) rfl (Nat.le_of_ble_eq_true rfl) (Ev.le (ls' := [some (.ref 112), some (.int a1), some (.int a2), none]) ⟨rfl, ⟨rfl, ⟨rfl, trivial⟩⟩⟩ ?_)
  unfold FX12_isAs
  refine Ev.run (pc' := 2) (ls' := [some (.ref 112), some (.int a1), some (.int a2), some (.int 0)]) (st' := []) (m' := m) [(.iconst 0, 0, 0, 0, 0), (.istore_n 3, 0, 0, 0, 0)] (by decide +kernel) rfl ?_
  refine EX12_isAs_L2 f _ a1 a2 ?_ (by omega) _ _ _
  intro m3
  refine Ev.run (pc' := 44) (ls' := [none, none, none, none]) (st' := [.int 1]) (m' := m3) [(.iconst 1, 0, 0, 1, 0)] (by decide +kernel) rfl ?_
  exact Ev.iretz rfl rfl (by decide +kernel) (by decide)
def FX12_changes_L2 (f : Nat) (k : ev_M → Option (Unit × ev_M))  (a1 : Int32) (a2 : Int32) : Nat → Int32 → ev_M → Option (Unit × ev_M)
  | 0, _, _ => none
  | n + 1, a3, m => (if 2 ≤ a3 then (k m) else (if ev_in ((2 + (3 * a1)) + a3) 147 then (if ev_in ((2 + (3 * a2)) + a3) 147 then (if ev_in ((2 + (3 * a1)) + a3) 147 then (if ev_in ((2 + (3 * a2)) + a3) 147 then (FX12_changes_L2 f k a1 a2 n (a3 + 1) ((ev_up (ev_up m.1 144 ((2 + (3 * a1)) + a3).toNatClampNeg (m.1 144 ((2 + (3 * a2)) + a3).toNatClampNeg)) 144 ((2 + (3 * a2)) + a3).toNatClampNeg (m.1 144 ((2 + (3 * a1)) + a3).toNatClampNeg)), m.2)) else none) else none) else none) else none))
def FX12_changes (f : Nat) (a1 : Int32) (a2 : Int32) (m : ev_M) : Option (Unit × ev_M) :=
  (FX12_changes_L2 f (fun m1 => some ((), m1)) a1 a2 f (0 : Int32) m)
set_option maxRecDepth 100000 in
set_option maxHeartbeats 4000000 in
theorem EX12_changes_L2 {l : Launch} {Ln : Nat} {xs : Nat → Int32} {d : Nat} (f : Nat) (k : ev_M → Option (Unit × ev_M))  (a1 : Int32) (a2 : Int32)   (hk : ∀  (em : ev_M), Ev ev_eV l Ln xs YX12_changes d Sx 65 [none, none, none, none, none] [] em (k em)) (hd : 0 ≤ d) : ∀ (n : Nat) (a3 : Int32) (m : ev_M), Ev ev_eV l Ln xs YX12_changes d Sx 2 [some (.ref 112), some (.int a1), some (.int a2), some (.int a3), none] [] m (FX12_changes_L2 f k a1 a2 n a3 m) := by
  intro n
  induction n with
  | zero => intros; exact Ev.nn
  | succ n ih =>
    intro a3 m
    rw [FX12_changes_L2]
    refine Ev.run (pc' := 4) (ls' := [some (.ref 112), some (.int a1), some (.int a2), some (.int a3), none]) (st' := [.int 2, .int a3]) (m' := m) [(.iload_n 3, 0, 0, 0, 0), (.iconst 2, 0, 0, 2, 0)] (by decide +kernel) rfl ?_
    refine Ev.ic_ge (t := 65) (by decide +kernel) ?_ ?_
    · refine Ev.le (ls' := [none, none, none, none, none]) trivial ?_
      exact hk _
    · refine Ev.run (pc' := 18) (ls' := [some (.ref 112), some (.int a1), some (.int a2), some (.int a3), none]) (st' := [.int ((2 + (3 * a1)) + a3), .ref 144]) (m' := m) [(.aload_n 0, 0, 0, 0, 0), (.getfield 109, 12, 47, 0, 0), (.iconst 2, 0, 0, 2, 0), (.iconst 3, 0, 0, 3, 0), (.iload_n 1, 0, 0, 0, 0), (.imul, 0, 0, 0, 0), (.iadd, 0, 0, 0, 0), (.iload_n 3, 0, 0, 0, 0), (.iadd, 0, 0, 0, 0)] (by decide +kernel) rfl ?_
      refine Ev.iald (n := 147) (by decide +kernel) (by decide) rfl ?_
      refine Ev.run (pc' := 43) (ls' := [some (.ref 112), some (.int a1), some (.int a2), some (.int a3), some (.int (m.1 144 ((2 + (3 * a1)) + a3).toNatClampNeg))]) (st' := [.int ((2 + (3 * a2)) + a3), .ref 144, .int ((2 + (3 * a1)) + a3), .ref 144]) (m' := m) [(.istore 4, 0, 0, 0, 0), (.aload_n 0, 0, 0, 0, 0), (.getfield 109, 12, 47, 0, 0), (.iconst 2, 0, 0, 2, 0), (.iconst 3, 0, 0, 3, 0), (.iload_n 1, 0, 0, 0, 0), (.imul, 0, 0, 0, 0), (.iadd, 0, 0, 0, 0), (.iload_n 3, 0, 0, 0, 0), (.iadd, 0, 0, 0, 0), (.aload_n 0, 0, 0, 0, 0), (.getfield 109, 12, 47, 0, 0), (.iconst 2, 0, 0, 2, 0), (.iconst 3, 0, 0, 3, 0), (.iload_n 2, 0, 0, 0, 0), (.imul, 0, 0, 0, 0), (.iadd, 0, 0, 0, 0), (.iload_n 3, 0, 0, 0, 0), (.iadd, 0, 0, 0, 0)] (by decide +kernel) rfl ?_
      refine Ev.iald (n := 147) (by decide +kernel) (by decide) rfl ?_
      refine Ev.iast (n := 147) (by decide +kernel) (by decide) rfl ?_
      refine Ev.run (pc' := 58) (ls' := [some (.ref 112), some (.int a1), some (.int a2), some (.int a3), some (.int (m.1 144 ((2 + (3 * a1)) + a3).toNatClampNeg))]) (st' := [.int (m.1 144 ((2 + (3 * a1)) + a3).toNatClampNeg), .int ((2 + (3 * a2)) + a3), .ref 144]) (m' := ((ev_up m.1 144 ((2 + (3 * a1)) + a3).toNatClampNeg (m.1 144 ((2 + (3 * a2)) + a3).toNatClampNeg)), m.2)) [(.aload_n 0, 0, 0, 0, 0), (.getfield 109, 12, 47, 0, 0), (.iconst 2, 0, 0, 2, 0), (.iconst 3, 0, 0, 3, 0), (.iload_n 2, 0, 0, 0, 0), (.imul, 0, 0, 0, 0), (.iadd, 0, 0, 0, 0), (.iload_n 3, 0, 0, 0, 0), (.iadd, 0, 0, 0, 0), (.iload 4, 0, 0, 0, 0)] (by decide +kernel) rfl ?_
      refine Ev.iast (n := 147) (by decide +kernel) (by decide) rfl ?_
      refine Ev.run (pc' := 62) (ls' := [some (.ref 112), some (.int a1), some (.int a2), some (.int (a3 + 1)), some (.int (m.1 144 ((2 + (3 * a1)) + a3).toNatClampNeg))]) (st' := []) (m' := ((ev_up (ev_up m.1 144 ((2 + (3 * a1)) + a3).toNatClampNeg (m.1 144 ((2 + (3 * a2)) + a3).toNatClampNeg)) 144 ((2 + (3 * a2)) + a3).toNatClampNeg (m.1 144 ((2 + (3 * a1)) + a3).toNatClampNeg)), m.2)) [(.iinc 3 1, 0, 0, 1, 0)] (by decide +kernel) rfl ?_
      refine Ev.gto (t := 2) (by decide +kernel) ?_
      refine Ev.le (ls' := [some (.ref 112), some (.int a1), some (.int a2), some (.int (a3 + 1)), none]) ⟨rfl, ⟨rfl, ⟨rfl, ⟨rfl, trivial⟩⟩⟩⟩ ?_
      exact ih _ _
set_option maxRecDepth 100000 in
set_option maxHeartbeats 4000000 in
theorem EX12_changes {l : Launch} {Ln : Nat} {xs : Nat → Int32} {d : Nat} (f : Nat) (a1 : Int32) (a2 : Int32) (m : ev_M)  (hd : 0 ≤ d) : Mv ev_eV l Ln xs YX12_changes d Sx [.ref 112, .int a1, .int a2] m (FX12_changes f a1 a2 m) := by
  refine Mv.of (by decide +kernel) rfl (Nat.le_of_ble_eq_true rfl) (Ev.le (ls' := [some (.ref 112), some (.int a1), some (.int a2), none, none]) ⟨rfl, ⟨rfl, ⟨rfl, trivial⟩⟩⟩ ?_)
  unfold FX12_changes
  refine Ev.run (pc' := 2) (ls' := [some (.ref 112), some (.int a1), some (.int a2), some (.int 0), none]) (st' := []) (m' := m) [(.iconst 0, 0, 0, 0, 0), (.istore_n 3, 0, 0, 0, 0)] (by decide +kernel) rfl ?_
  refine EX12_changes_L2 f _ a1 a2 ?_ (by omega) _ _ _
  intro m1
  exact Ev.retv rfl rfl (by decide +kernel)
def FX12_refuses (f : Nat) (a1 : Int32) (m : ev_M) : Option (Int32 × ev_M) :=
  (if ev_in a1 6 then (if ev_in a1 6 then some ((-1), ((ev_up m.1 114 a1.toNatClampNeg ((m.1 114 a1.toNatClampNeg) + 1)), m.2)) else none) else none)
set_option maxRecDepth 100000 in
set_option maxHeartbeats 4000000 in
theorem EX12_refuses {l : Launch} {Ln : Nat} {xs : Nat → Int32} {d : Nat} (f : Nat) (a1 : Int32) (m : ev_M)  (hd : 0 ≤ d) : Mv ev_eI l Ln xs YX12_refuses d Sx [.ref 112, .int a1] m (FX12_refuses f a1 m) := by
  refine Mv.of (by decide +kernel) rfl (Nat.le_of_ble_eq_true rfl) (Ev.le (ls' := [some (.ref 112), some (.int a1)]) ⟨rfl, ⟨rfl, trivial⟩⟩ ?_)
  unfold FX12_refuses
  refine Ev.run (pc' := 6) (ls' := [some (.ref 112), some (.int a1)]) (st' := [.int a1, .ref 114, .int a1, .ref 114]) (m' := m) [(.aload_n 0, 0, 0, 0, 0), (.getfield 17, 12, 9, 0, 0), (.iload_n 1, 0, 0, 0, 0), (.dup2, 0, 0, 0, 0)] (by decide +kernel) rfl ?_
  refine Ev.iald (n := 6) (by decide +kernel) (by decide) rfl ?_
  refine Ev.run (pc' := 9) (ls' := [some (.ref 112), some (.int a1)]) (st' := [.int ((m.1 114 a1.toNatClampNeg) + 1), .int a1, .ref 114]) (m' := m) [(.iconst 1, 0, 0, 1, 0), (.iadd, 0, 0, 0, 0)] (by decide +kernel) rfl ?_
  refine Ev.iast (n := 6) (by decide +kernel) (by decide) rfl ?_
  refine Ev.run (pc' := 11) (ls' := [some (.ref 112), some (.int a1)]) (st' := [.int (-1)]) (m' := ((ev_up m.1 114 a1.toNatClampNeg ((m.1 114 a1.toNatClampNeg) + 1)), m.2)) [(.iconst (-1), 0, 0, (-1), 0)] (by decide +kernel) rfl ?_
  exact Ev.ireti rfl rfl (by decide +kernel)
def FX12_see_J96 (f : Nat) (kt43 : Int32 → Int32 → ev_M → Option (Int32 × ev_M))  (a3 : Int32) (s0 : Int32) (m : ev_M) : Option (Int32 × ev_M) :=
  (kt43 s0 (a3 + 3) m)
def FX12_see_J95 (f : Nat) (kt43 : Int32 → Int32 → ev_M → Option (Int32 × ev_M))  (a3 : Int32)  (m : ev_M) : Option (Int32 × ev_M) :=
  (FX12_see_J96 f kt43 a3 (0 : Int32) m)
def FX12_see_L43 (f : Nat) (k : Int32 → ev_M → Option (Int32 × ev_M))  (a1 : Int32) : Nat → Int32 → Int32 → ev_M → Option (Int32 × ev_M)
  | 0, _, _, _ => none
  | n + 1, a2, a3, m => (if a1 ≤ a3 then (k a2 m) else (if a2 = 0 then (k a2 m) else (if ev_in a3 1600 then (if 30 < (m.1 113 a3.toNatClampNeg) then (FX12_see_J95 f (FX12_see_L43 f k a1 n) a3 m) else (if ev_in (a3 + 1) 1600 then (ev_bd (FX12_isTower f (m.1 113 (a3 + 1).toNatClampNeg) m) (fun r1 m2 => (if r1 = 0 then (FX12_see_J95 f (FX12_see_L43 f k a1 n) a3 m2) else (if ev_in (a3 + 2) 1600 then (if 9 < (m2.1 113 (a3 + 2).toNatClampNeg) then (FX12_see_J95 f (FX12_see_L43 f k a1 n) a3 m2) else (FX12_see_J96 f (FX12_see_L43 f k a1 n) a3 (1 : Int32) m2)) else none)))) else none)) else none)))
def FX12_see_L115 (f : Nat) (k : ev_M → Option (Int32 × ev_M))  (a1 : Int32) : Nat → Int32 → ev_M → Option (Int32 × ev_M)
  | 0, _, _ => none
  | n + 1, a3, m => (if a1 ≤ a3 then (k m) else (if ev_in a3 1600 then (if ev_in a3 48 then (FX12_see_L115 f k a1 n (a3 + 1) ((ev_up m.1 148 a3.toNatClampNeg (m.1 113 a3.toNatClampNeg)), m.2)) else none) else none))
def FX12_see_J103 (f : Nat)   (a1 : Int32) (a2 : Int32)  (m : ev_M) : Option (Int32 × ev_M) :=
  (if a2 = 0 then (ev_bd (FX12_refuses f (1 : Int32) m) (fun r6 m7 => some (r6, m7))) else (FX12_see_L115 f (fun m5 => some ((a1 / 3), ((ev_up m5.1 112 58 (a1 / 3)), m5.2))) a1 f (0 : Int32) m))
def FX12_see_J40 (f : Nat)   (a1 : Int32) (s0 : Int32) (m : ev_M) : Option (Int32 × ev_M) :=
  (FX12_see_L43 f (fun e3 m4 => (FX12_see_J103 f a1 e3 m4)) a1 f s0 (0 : Int32) m)
def FX12_see_J39 (f : Nat)   (a1 : Int32)  (m : ev_M) : Option (Int32 × ev_M) :=
  (FX12_see_J40 f a1 (0 : Int32) m)
def FX12_see (f : Nat)  (m : ev_M) : Option (Int32 × ev_M) :=
  (if (m.1 112 45) = 0 then (FX12_see_J39 f (m.1 112 1) ((ev_up m.1 112 1 0), m.2)) else (if (m.1 112 1) ≤ 0 then (FX12_see_J39 f (m.1 112 1) ((ev_up m.1 112 1 0), m.2)) else (if ((m.1 112 1) - (m.1 112 1) / 3 * 3) = 0 then (if 16 < ((m.1 112 1) / 3) then (FX12_see_J39 f (m.1 112 1) ((ev_up m.1 112 1 0), m.2)) else (FX12_see_J40 f (m.1 112 1) (1 : Int32) ((ev_up m.1 112 1 0), m.2))) else (FX12_see_J39 f (m.1 112 1) ((ev_up m.1 112 1 0), m.2)))))
set_option maxRecDepth 100000 in
set_option maxHeartbeats 4000000 in
theorem EX12_see_J96 {l : Launch} {Ln : Nat} {xs : Nat → Int32} {d : Nat} (f : Nat) (kt43 : Int32 → Int32 → ev_M → Option (Int32 × ev_M))  (a1 : Int32) (a3 : Int32) (s0 : Int32) (m : ev_M)  (hkt43 : ∀ (e2 : Int32) (e3 : Int32) (em : ev_M), Ev ev_eI l Ln xs YX12_see d Sx 43 [some (.ref 112), some (.int a1), some (.int e2), some (.int e3)] [] em (kt43 e2 e3 em)) (hd : 2 ≤ d) : Ev ev_eI l Ln xs YX12_see d Sx 96 [some (.ref 112), some (.int a1), none, some (.int a3)] [.int s0] m (FX12_see_J96 f kt43 a3 s0 m) := by
  unfold FX12_see_J96
  refine Ev.run (pc' := 100) (ls' := [some (.ref 112), some (.int a1), some (.int s0), some (.int (a3 + 3))]) (st' := []) (m' := m) [(.istore_n 2, 0, 0, 0, 0), (.iinc 3 3, 0, 0, 3, 0)] (by decide +kernel) rfl ?_
  refine Ev.gto (t := 43) (by decide +kernel) ?_
  exact hkt43 _ _ _
set_option maxRecDepth 100000 in
set_option maxHeartbeats 4000000 in
theorem EX12_see_J95 {l : Launch} {Ln : Nat} {xs : Nat → Int32} {d : Nat} (f : Nat) (kt43 : Int32 → Int32 → ev_M → Option (Int32 × ev_M))  (a1 : Int32) (a3 : Int32)  (m : ev_M)  (hkt43 : ∀ (e2 : Int32) (e3 : Int32) (em : ev_M), Ev ev_eI l Ln xs YX12_see d Sx 43 [some (.ref 112), some (.int a1), some (.int e2), some (.int e3)] [] em (kt43 e2 e3 em)) (hd : 2 ≤ d) : Ev ev_eI l Ln xs YX12_see d Sx 95 [some (.ref 112), some (.int a1), none, some (.int a3)] [] m (FX12_see_J95 f kt43 a3 m) := by
  unfold FX12_see_J95
  refine Ev.run (pc' := 96) (ls' := [some (.ref 112), some (.int a1), none, some (.int a3)]) (st' := [.int 0]) (m' := m) [(.iconst 0, 0, 0, 0, 0)] (by decide +kernel) rfl ?_
  exact EX12_see_J96 f kt43 a1 a3 (0 : Int32) m hkt43 (by omega)
set_option maxRecDepth 100000 in
set_option maxHeartbeats 4000000 in
theorem EX12_see_L43 {l : Launch} {Ln : Nat} {xs : Nat → Int32} {d : Nat} (f : Nat) (k : Int32 → ev_M → Option (Int32 × ev_M))  (a1 : Int32)   (hk : ∀ (e2 : Int32) (em : ev_M), Ev ev_eI l Ln xs YX12_see d Sx 103 [some (.ref 112), some (.int a1), some (.int e2), none] [] em (k e2 em)) (hd : 2 ≤ d) : ∀ (n : Nat) (a2 : Int32) (a3 : Int32) (m : ev_M), Ev ev_eI l Ln xs YX12_see d Sx 43 [some (.ref 112), some (.int a1), some (.int a2), some (.int a3)] [] m (FX12_see_L43 f k a1 n a2 a3 m) := by
  intro n
  induction n with
  | zero => intros; exact Ev.nn
  | succ n ih =>
    intro a2 a3 m
    rw [FX12_see_L43]
    refine Ev.run (pc' := 45) (ls' := [some (.ref 112), some (.int a1), some (.int a2), some (.int a3)]) (st' := [.int a1, .int a3]) (m' := m) [(.iload_n 3, 0, 0, 0, 0), (.iload_n 1, 0, 0, 0, 0)] (by decide +kernel) rfl ?_
    refine Ev.ic_ge (t := 103) (by decide +kernel) ?_ ?_
    · refine Ev.le (ls' := [some (.ref 112), some (.int a1), some (.int a2), none]) ⟨rfl, ⟨rfl, ⟨rfl, trivial⟩⟩⟩ ?_
      exact hk _ _
    · refine Ev.run (pc' := 49) (ls' := [some (.ref 112), some (.int a1), some (.int a2), some (.int a3)]) (st' := [.int a2]) (m' := m) [(.iload_n 2, 0, 0, 0, 0)] (by decide +kernel) rfl ?_
      refine Ev.if_eq (t := 103) (by decide +kernel) ?_ ?_
      · refine Ev.le (ls' := [some (.ref 112), some (.int a1), some (.int a2), none]) ⟨rfl, ⟨rfl, ⟨rfl, trivial⟩⟩⟩ ?_
        exact hk _ _
      · refine Ev.run (pc' := 57) (ls' := [some (.ref 112), some (.int a1), some (.int a2), some (.int a3)]) (st' := [.int a3, .ref 113]) (m' := m) [(.aload_n 0, 0, 0, 0, 0), (.getfield 7, 12, 0, 0, 0), (.iload_n 3, 0, 0, 0, 0)] (by decide +kernel) rfl ?_
        refine Ev.iald (n := 1600) (by decide +kernel) (by decide) rfl ?_
        refine Ev.run (pc' := 60) (ls' := [some (.ref 112), some (.int a1), some (.int a2), some (.int a3)]) (st' := [.int 30, .int (m.1 113 a3.toNatClampNeg)]) (m' := m) [(.bipush 30, 0, 0, 30, 0)] (by decide +kernel) rfl ?_
        refine Ev.ic_gt (t := 95) (by decide +kernel) ?_ ?_
        · refine Ev.le (ls' := [some (.ref 112), some (.int a1), none, some (.int a3)]) ⟨rfl, ⟨rfl, ⟨rfl, trivial⟩⟩⟩ ?_
          exact EX12_see_J95 f (FX12_see_L43 f k a1 n) a1 a3 m ih (by omega)
        · refine Ev.run (pc' := 71) (ls' := [some (.ref 112), some (.int a1), some (.int a2), some (.int a3)]) (st' := [.int (a3 + 1), .ref 113, .ref 112]) (m' := m) [(.aload_n 0, 0, 0, 0, 0), (.aload_n 0, 0, 0, 0, 0), (.getfield 7, 12, 0, 0, 0), (.iload_n 3, 0, 0, 0, 0), (.iconst 1, 0, 0, 1, 0), (.iadd, 0, 0, 0, 0)] (by decide +kernel) rfl ?_
          refine Ev.iald (n := 1600) (by decide +kernel) (by decide) rfl ?_
          refine Ev.cV (av := [.int (m.1 113 (a3 + 1).toNatClampNeg)]) (st := []) (a := 112) (EX12_isTower (l := l) (Ln := Ln) (xs := xs) (d := 1) f (m.1 113 (a3 + 1).toNatClampNeg) m (by decide)) rfl (by decide +kernel) mwX12_isTower iwX12_isTower vwX12_isTower lk_12_455 (by omega) (by decide) rfl (by decide) rfl rfl (Nat.le_of_ble_eq_true rfl) (fun r1 m2 => ?_)
          refine Ev.if_eq (t := 95) (by decide +kernel) ?_ ?_
          · refine Ev.le (ls' := [some (.ref 112), some (.int a1), none, some (.int a3)]) ⟨rfl, ⟨rfl, ⟨rfl, trivial⟩⟩⟩ ?_
            exact EX12_see_J95 f (FX12_see_L43 f k a1 n) a1 a3 m2 ih (by omega)
          · refine Ev.run (pc' := 85) (ls' := [some (.ref 112), some (.int a1), some (.int a2), some (.int a3)]) (st' := [.int (a3 + 2), .ref 113]) (m' := m2) [(.aload_n 0, 0, 0, 0, 0), (.getfield 7, 12, 0, 0, 0), (.iload_n 3, 0, 0, 0, 0), (.iconst 2, 0, 0, 2, 0), (.iadd, 0, 0, 0, 0)] (by decide +kernel) rfl ?_
            refine Ev.iald (n := 1600) (by decide +kernel) (by decide) rfl ?_
            refine Ev.run (pc' := 88) (ls' := [some (.ref 112), some (.int a1), some (.int a2), some (.int a3)]) (st' := [.int 9, .int (m2.1 113 (a3 + 2).toNatClampNeg)]) (m' := m2) [(.bipush 9, 0, 0, 9, 0)] (by decide +kernel) rfl ?_
            refine Ev.ic_gt (t := 95) (by decide +kernel) ?_ ?_
            · refine Ev.le (ls' := [some (.ref 112), some (.int a1), none, some (.int a3)]) ⟨rfl, ⟨rfl, ⟨rfl, trivial⟩⟩⟩ ?_
              exact EX12_see_J95 f (FX12_see_L43 f k a1 n) a1 a3 m2 ih (by omega)
            · refine Ev.run (pc' := 92) (ls' := [some (.ref 112), some (.int a1), some (.int a2), some (.int a3)]) (st' := [.int 1]) (m' := m2) [(.iconst 1, 0, 0, 1, 0)] (by decide +kernel) rfl ?_
              refine Ev.gto (t := 96) (by decide +kernel) ?_
              refine Ev.le (ls' := [some (.ref 112), some (.int a1), none, some (.int a3)]) ⟨rfl, ⟨rfl, ⟨rfl, trivial⟩⟩⟩ ?_
              exact EX12_see_J96 f (FX12_see_L43 f k a1 n) a1 a3 (1 : Int32) m2 ih (by omega)
set_option maxRecDepth 100000 in
set_option maxHeartbeats 4000000 in
theorem EX12_see_L115 {l : Launch} {Ln : Nat} {xs : Nat → Int32} {d : Nat} (f : Nat) (k : ev_M → Option (Int32 × ev_M))  (a1 : Int32)   (hk : ∀  (em : ev_M), Ev ev_eI l Ln xs YX12_see d Sx 138 [some (.ref 112), some (.int a1), none, none] [] em (k em)) (hd : 2 ≤ d) : ∀ (n : Nat) (a3 : Int32) (m : ev_M), Ev ev_eI l Ln xs YX12_see d Sx 115 [some (.ref 112), some (.int a1), none, some (.int a3)] [] m (FX12_see_L115 f k a1 n a3 m) := by
  intro n
  induction n with
  | zero => intros; exact Ev.nn
  | succ n ih =>
    intro a3 m
    rw [FX12_see_L115]
    refine Ev.run (pc' := 117) (ls' := [some (.ref 112), some (.int a1), none, some (.int a3)]) (st' := [.int a1, .int a3]) (m' := m) [(.iload_n 3, 0, 0, 0, 0), (.iload_n 1, 0, 0, 0, 0)] (by decide +kernel) rfl ?_
    refine Ev.ic_ge (t := 138) (by decide +kernel) ?_ ?_
    · refine Ev.le (ls' := [some (.ref 112), some (.int a1), none, none]) ⟨rfl, ⟨rfl, trivial⟩⟩ ?_
      exact hk _
    · refine Ev.run (pc' := 130) (ls' := [some (.ref 112), some (.int a1), none, some (.int a3)]) (st' := [.int a3, .ref 113, .int a3, .ref 148]) (m' := m) [(.aload_n 0, 0, 0, 0, 0), (.getfield 121, 12, 59, 0, 0), (.iload_n 3, 0, 0, 0, 0), (.aload_n 0, 0, 0, 0, 0), (.getfield 7, 12, 0, 0, 0), (.iload_n 3, 0, 0, 0, 0)] (by decide +kernel) rfl ?_
      refine Ev.iald (n := 1600) (by decide +kernel) (by decide) rfl ?_
      refine Ev.iast (n := 48) (by decide +kernel) (by decide) rfl ?_
      refine Ev.run (pc' := 135) (ls' := [some (.ref 112), some (.int a1), none, some (.int (a3 + 1))]) (st' := []) (m' := ((ev_up m.1 148 a3.toNatClampNeg (m.1 113 a3.toNatClampNeg)), m.2)) [(.iinc 3 1, 0, 0, 1, 0)] (by decide +kernel) rfl ?_
      refine Ev.gto (t := 115) (by decide +kernel) ?_
      exact ih _ _
set_option maxRecDepth 100000 in
set_option maxHeartbeats 4000000 in
theorem EX12_see_J103 {l : Launch} {Ln : Nat} {xs : Nat → Int32} {d : Nat} (f : Nat)   (a1 : Int32) (a2 : Int32)  (m : ev_M)   (hd : 2 ≤ d) : Ev ev_eI l Ln xs YX12_see d Sx 103 [some (.ref 112), some (.int a1), some (.int a2), none] [] m (FX12_see_J103 f a1 a2 m) := by
  unfold FX12_see_J103
  refine Ev.run (pc' := 104) (ls' := [some (.ref 112), some (.int a1), some (.int a2), none]) (st' := [.int a2]) (m' := m) [(.iload_n 2, 0, 0, 0, 0)] (by decide +kernel) rfl ?_
  refine Ev.if_ne (t := 113) (by decide +kernel) ?_ ?_
  · refine Ev.run (pc' := 115) (ls' := [some (.ref 112), some (.int a1), some (.int a2), some (.int 0)]) (st' := []) (m' := m) [(.iconst 0, 0, 0, 0, 0), (.istore_n 3, 0, 0, 0, 0)] (by decide +kernel) rfl ?_
    refine Ev.le (ls' := [some (.ref 112), some (.int a1), none, some (.int 0)]) ⟨rfl, ⟨rfl, ⟨rfl, trivial⟩⟩⟩ ?_
    refine EX12_see_L115 f _ a1 ?_ (by omega) _ _ _
    intro m5
    refine Ev.run (pc' := 141) (ls' := [some (.ref 112), some (.int a1), none, none]) (st' := [.int 3, .int a1, .ref 112]) (m' := m5) [(.aload_n 0, 0, 0, 0, 0), (.iload_n 1, 0, 0, 0, 0), (.iconst 3, 0, 0, 3, 0)] (by decide +kernel) rfl ?_
    refine Ev.idiv' (by decide +kernel) (by decide) ?_
    refine Ev.run (pc' := 149) (ls' := [some (.ref 112), some (.int a1), none, none]) (st' := [.int (a1 / 3)]) (m' := ((ev_up m5.1 112 58 (a1 / 3)), m5.2)) [(.putfield 366, 12, 58, 0, 0), (.aload_n 0, 0, 0, 0, 0), (.getfield 366, 12, 58, 0, 0)] (by decide +kernel) rfl ?_
    exact Ev.ireti rfl rfl (by decide +kernel)
  · refine Ev.run (pc' := 109) (ls' := [some (.ref 112), some (.int a1), some (.int a2), none]) (st' := [.int 1, .ref 112]) (m' := m) [(.aload_n 0, 0, 0, 0, 0), (.iconst 1, 0, 0, 1, 0)] (by decide +kernel) rfl ?_
    refine Ev.cV (av := [.int 1]) (st := []) (a := 112) (EX12_refuses (l := l) (Ln := Ln) (xs := xs) (d := 0) f (1 : Int32) m (by decide)) rfl (by decide +kernel) mwX12_refuses iwX12_refuses vwX12_refuses lk_12_511 (by omega) (by decide) rfl (by decide) rfl rfl (Nat.le_of_ble_eq_true rfl) (fun r6 m7 => ?_)
    exact Ev.ireti rfl rfl (by decide +kernel)
set_option maxRecDepth 100000 in
set_option maxHeartbeats 4000000 in
theorem EX12_see_J40 {l : Launch} {Ln : Nat} {xs : Nat → Int32} {d : Nat} (f : Nat)   (a1 : Int32) (s0 : Int32) (m : ev_M)   (hd : 2 ≤ d) : Ev ev_eI l Ln xs YX12_see d Sx 40 [some (.ref 112), some (.int a1), none, none] [.int s0] m (FX12_see_J40 f a1 s0 m) := by
  unfold FX12_see_J40
  refine Ev.run (pc' := 43) (ls' := [some (.ref 112), some (.int a1), some (.int s0), some (.int 0)]) (st' := []) (m' := m) [(.istore_n 2, 0, 0, 0, 0), (.iconst 0, 0, 0, 0, 0), (.istore_n 3, 0, 0, 0, 0)] (by decide +kernel) rfl ?_
  refine EX12_see_L43 f _ a1 ?_ (by omega) _ _ _ _
  intro e3 m4
  exact EX12_see_J103 f a1 e3 m4 (by omega)
set_option maxRecDepth 100000 in
set_option maxHeartbeats 4000000 in
theorem EX12_see_J39 {l : Launch} {Ln : Nat} {xs : Nat → Int32} {d : Nat} (f : Nat)   (a1 : Int32)  (m : ev_M)   (hd : 2 ≤ d) : Ev ev_eI l Ln xs YX12_see d Sx 39 [some (.ref 112), some (.int a1), none, none] [] m (FX12_see_J39 f a1 m) := by
  unfold FX12_see_J39
  refine Ev.run (pc' := 40) (ls' := [some (.ref 112), some (.int a1), none, none]) (st' := [.int 0]) (m' := m) [(.iconst 0, 0, 0, 0, 0)] (by decide +kernel) rfl ?_
  exact EX12_see_J40 f a1 (0 : Int32) m (by omega)
set_option maxRecDepth 100000 in
set_option maxHeartbeats 4000000 in
theorem EX12_see {l : Launch} {Ln : Nat} {xs : Nat → Int32} {d : Nat} (f : Nat)  (m : ev_M)  (hd : 2 ≤ d) : Mv ev_eI l Ln xs YX12_see d Sx [.ref 112] m (FX12_see f  m) := by
  refine Mv.of (by decide +kernel) rfl (Nat.le_of_ble_eq_true rfl) (Ev.le (ls' := [some (.ref 112), none, none, none]) ⟨rfl, trivial⟩ ?_)
  unfold FX12_see
  refine Ev.run (pc' := 14) (ls' := [some (.ref 112), some (.int (m.1 112 1)), none, none]) (st' := [.int (m.1 112 45)]) (m' := ((ev_up m.1 112 1 0), m.2)) [(.aload_n 0, 0, 0, 0, 0), (.getfield 225, 12, 1, 0, 0), (.istore_n 1, 0, 0, 0, 0), (.aload_n 0, 0, 0, 0, 0), (.iconst 0, 0, 0, 0, 0), (.putfield 225, 12, 1, 0, 0), (.aload_n 0, 0, 0, 0, 0), (.getfield 356, 12, 45, 0, 0)] (by decide +kernel) rfl ?_
  refine Ev.if_eq (t := 39) (by decide +kernel) ?_ ?_
  · exact EX12_see_J39 f (m.1 112 1) ((ev_up m.1 112 1 0), m.2) (by omega)
  · refine Ev.run (pc' := 18) (ls' := [some (.ref 112), some (.int (m.1 112 1)), none, none]) (st' := [.int (m.1 112 1)]) (m' := ((ev_up m.1 112 1 0), m.2)) [(.iload_n 1, 0, 0, 0, 0)] (by decide +kernel) rfl ?_
    refine Ev.if_le (t := 39) (by decide +kernel) ?_ ?_
    · exact EX12_see_J39 f (m.1 112 1) ((ev_up m.1 112 1 0), m.2) (by omega)
    · refine Ev.run (pc' := 23) (ls' := [some (.ref 112), some (.int (m.1 112 1)), none, none]) (st' := [.int 3, .int (m.1 112 1)]) (m' := ((ev_up m.1 112 1 0), m.2)) [(.iload_n 1, 0, 0, 0, 0), (.iconst 3, 0, 0, 3, 0)] (by decide +kernel) rfl ?_
      refine Ev.irem' (by decide +kernel) (by decide) ?_
      refine Ev.if_ne (t := 39) (by decide +kernel) ?_ ?_
      · exact EX12_see_J39 f (m.1 112 1) ((ev_up m.1 112 1 0), m.2) (by omega)
      · refine Ev.run (pc' := 29) (ls' := [some (.ref 112), some (.int (m.1 112 1)), none, none]) (st' := [.int 3, .int (m.1 112 1)]) (m' := ((ev_up m.1 112 1 0), m.2)) [(.iload_n 1, 0, 0, 0, 0), (.iconst 3, 0, 0, 3, 0)] (by decide +kernel) rfl ?_
        refine Ev.idiv' (by decide +kernel) (by decide) ?_
        refine Ev.run (pc' := 32) (ls' := [some (.ref 112), some (.int (m.1 112 1)), none, none]) (st' := [.int 16, .int ((m.1 112 1) / 3)]) (m' := ((ev_up m.1 112 1 0), m.2)) [(.bipush 16, 0, 0, 16, 0)] (by decide +kernel) rfl ?_
        refine Ev.ic_gt (t := 39) (by decide +kernel) ?_ ?_
        · exact EX12_see_J39 f (m.1 112 1) ((ev_up m.1 112 1 0), m.2) (by omega)
        · refine Ev.run (pc' := 36) (ls' := [some (.ref 112), some (.int (m.1 112 1)), none, none]) (st' := [.int 1]) (m' := ((ev_up m.1 112 1 0), m.2)) [(.iconst 1, 0, 0, 1, 0)] (by decide +kernel) rfl ?_
          refine Ev.gto (t := 40) (by decide +kernel) ?_
          exact EX12_see_J40 f (m.1 112 1) (1 : Int32) ((ev_up m.1 112 1 0), m.2) (by omega)
def FX12_isAsSeen_J64 (f : Nat) (kt2 : Int32 → ev_M → Option (Int32 × ev_M))  (a2 : Int32)  (m : ev_M) : Option (Int32 × ev_M) :=
  (kt2 (a2 + 1) m)
def FX12_isAsSeen_L2 (f : Nat) (k : ev_M → Option (Int32 × ev_M))  (a1 : Int32) : Nat → Int32 → ev_M → Option (Int32 × ev_M)
  | 0, _, _ => none
  | n + 1, a2, m => (if (m.1 112 58) ≤ a2 then (k m) else (if ev_in (3 * a2) 48 then (if (m.1 148 (3 * a2).toNatClampNeg) = a1 then (if 999 < (m.1 144 0) then some (0, m) else (if ev_in ((3 * a2) + 1) 48 then (if ev_in (m.1 148 ((3 * a2) + 1).toNatClampNeg) 8 then (if ev_in ((3 * a2) + 2) 48 then (if (m.1 146 (m.1 148 ((3 * a2) + 1).toNatClampNeg).toNatClampNeg) = (m.1 148 ((3 * a2) + 2).toNatClampNeg) then (FX12_isAsSeen_J64 f (FX12_isAsSeen_L2 f k a1 n) a2 m) else some (0, m)) else none) else none) else none)) else (FX12_isAsSeen_J64 f (FX12_isAsSeen_L2 f k a1 n) a2 m)) else none))
def FX12_isAsSeen (f : Nat) (a1 : Int32) (m : ev_M) : Option (Int32 × ev_M) :=
  (FX12_isAsSeen_L2 f (fun m1 => some (1, m1)) a1 f (0 : Int32) m)
set_option maxRecDepth 100000 in
set_option maxHeartbeats 4000000 in
theorem EX12_isAsSeen_J64 {l : Launch} {Ln : Nat} {xs : Nat → Int32} {d : Nat} (f : Nat) (kt2 : Int32 → ev_M → Option (Int32 × ev_M))  (a1 : Int32) (a2 : Int32)  (m : ev_M)  (hkt2 : ∀ (e2 : Int32) (em : ev_M), Ev ev_eI l Ln xs YX12_isAsSeen d Sx 2 [some (.ref 112), some (.int a1), some (.int e2)] [] em (kt2 e2 em)) (hd : 0 ≤ d) : Ev ev_eI l Ln xs YX12_isAsSeen d Sx 64 [some (.ref 112), some (.int a1), some (.int a2)] [] m (FX12_isAsSeen_J64 f kt2 a2 m) := by
  unfold FX12_isAsSeen_J64
  refine Ev.run (pc' := 67) (ls' := [some (.ref 112), some (.int a1), some (.int (a2 + 1))]) (st' := []) (m' := m) [(.iinc 2 1, 0, 0, 1, 0)] (by decide +kernel) rfl ?_
  refine Ev.gto (t := 2) (by decide +kernel) ?_
  exact hkt2 _ _
set_option maxRecDepth 100000 in
set_option maxHeartbeats 4000000 in
theorem EX12_isAsSeen_L2 {l : Launch} {Ln : Nat} {xs : Nat → Int32} {d : Nat} (f : Nat) (k : ev_M → Option (Int32 × ev_M))  (a1 : Int32)   (hk : ∀  (em : ev_M), Ev ev_eI l Ln xs YX12_isAsSeen d Sx 70 [none, none, none] [] em (k em)) (hd : 0 ≤ d) : ∀ (n : Nat) (a2 : Int32) (m : ev_M), Ev ev_eI l Ln xs YX12_isAsSeen d Sx 2 [some (.ref 112), some (.int a1), some (.int a2)] [] m (FX12_isAsSeen_L2 f k a1 n a2 m) := by
  intro n
  induction n with
  | zero => intros; exact Ev.nn
  | succ n ih =>
    intro a2 m
    rw [FX12_isAsSeen_L2]
    refine Ev.run (pc' := 7) (ls' := [some (.ref 112), some (.int a1), some (.int a2)]) (st' := [.int (m.1 112 58), .int a2]) (m' := m) [(.iload_n 2, 0, 0, 0, 0), (.aload_n 0, 0, 0, 0, 0), (.getfield 366, 12, 58, 0, 0)] (by decide +kernel) rfl ?_
    refine Ev.ic_ge (t := 70) (by decide +kernel) ?_ ?_
    · refine Ev.le (ls' := [none, none, none]) trivial ?_
      exact hk _
    · refine Ev.run (pc' := 17) (ls' := [some (.ref 112), some (.int a1), some (.int a2)]) (st' := [.int (3 * a2), .ref 148]) (m' := m) [(.aload_n 0, 0, 0, 0, 0), (.getfield 121, 12, 59, 0, 0), (.iconst 3, 0, 0, 3, 0), (.iload_n 2, 0, 0, 0, 0), (.imul, 0, 0, 0, 0)] (by decide +kernel) rfl ?_
      refine Ev.iald (n := 48) (by decide +kernel) (by decide) rfl ?_
      refine Ev.run (pc' := 19) (ls' := [some (.ref 112), some (.int a1), some (.int a2)]) (st' := [.int a1, .int (m.1 148 (3 * a2).toNatClampNeg)]) (m' := m) [(.iload_n 1, 0, 0, 0, 0)] (by decide +kernel) rfl ?_
      refine Ev.ic_ne (t := 64) (by decide +kernel) ?_ ?_
      · exact EX12_isAsSeen_J64 f (FX12_isAsSeen_L2 f k a1 n) a1 a2 m ih (by omega)
      · refine Ev.run (pc' := 27) (ls' := [some (.ref 112), some (.int a1), some (.int a2)]) (st' := [.int 0, .ref 144]) (m' := m) [(.aload_n 0, 0, 0, 0, 0), (.getfield 109, 12, 47, 0, 0), (.iconst 0, 0, 0, 0, 0)] (by decide +kernel) rfl ?_
        refine Ev.ialdK (n := 147) (j := 0) (by decide +kernel) (by decide) rfl rfl (by decide) ?_
        refine Ev.run (pc' := 31) (ls' := [some (.ref 112), some (.int a1), some (.int a2)]) (st' := [.int 999, .int (m.1 144 0)]) (m' := m) [(.sipush 999, 0, 0, 999, 0)] (by decide +kernel) rfl ?_
        refine Ev.ic_gt (t := 62) (by decide +kernel) ?_ ?_
        · refine Ev.run (pc' := 63) (ls' := [some (.ref 112), some (.int a1), some (.int a2)]) (st' := [.int 0]) (m' := m) [(.iconst 0, 0, 0, 0, 0)] (by decide +kernel) rfl ?_
          exact Ev.iretz rfl rfl (by decide +kernel) (by decide)
        · refine Ev.run (pc' := 47) (ls' := [some (.ref 112), some (.int a1), some (.int a2)]) (st' := [.int ((3 * a2) + 1), .ref 148, .ref 146]) (m' := m) [(.aload_n 0, 0, 0, 0, 0), (.getfield 115, 12, 52, 0, 0), (.aload_n 0, 0, 0, 0, 0), (.getfield 121, 12, 59, 0, 0), (.iconst 3, 0, 0, 3, 0), (.iload_n 2, 0, 0, 0, 0), (.imul, 0, 0, 0, 0), (.iconst 1, 0, 0, 1, 0), (.iadd, 0, 0, 0, 0)] (by decide +kernel) rfl ?_
          refine Ev.iald (n := 48) (by decide +kernel) (by decide) rfl ?_
          refine Ev.iald (n := 8) (by decide +kernel) (by decide) rfl ?_
          refine Ev.run (pc' := 58) (ls' := [some (.ref 112), some (.int a1), some (.int a2)]) (st' := [.int ((3 * a2) + 2), .ref 148, .int (m.1 146 (m.1 148 ((3 * a2) + 1).toNatClampNeg).toNatClampNeg)]) (m' := m) [(.aload_n 0, 0, 0, 0, 0), (.getfield 121, 12, 59, 0, 0), (.iconst 3, 0, 0, 3, 0), (.iload_n 2, 0, 0, 0, 0), (.imul, 0, 0, 0, 0), (.iconst 2, 0, 0, 2, 0), (.iadd, 0, 0, 0, 0)] (by decide +kernel) rfl ?_
          refine Ev.iald (n := 48) (by decide +kernel) (by decide) rfl ?_
          refine Ev.ic_eq (t := 64) (by decide +kernel) ?_ ?_
          · exact EX12_isAsSeen_J64 f (FX12_isAsSeen_L2 f k a1 n) a1 a2 m ih (by omega)
          · refine Ev.run (pc' := 63) (ls' := [some (.ref 112), some (.int a1), some (.int a2)]) (st' := [.int 0]) (m' := m) [(.iconst 0, 0, 0, 0, 0)] (by decide +kernel) rfl ?_
            exact Ev.iretz rfl rfl (by decide +kernel) (by decide)
set_option maxRecDepth 100000 in
set_option maxHeartbeats 4000000 in
theorem EX12_isAsSeen {l : Launch} {Ln : Nat} {xs : Nat → Int32} {d : Nat} (f : Nat) (a1 : Int32) (m : ev_M)  (hd : 0 ≤ d) : Mv ev_eI l Ln xs YX12_isAsSeen d Sx [.ref 112, .int a1] m (FX12_isAsSeen f a1 m) := by
  refine Mv.of (by decide +kernel) rfl (Nat.le_of_ble_eq_true rfl) (Ev.le (ls' := [some (.ref 112), some (.int a1), none]) ⟨rfl, ⟨rfl, trivial⟩⟩ ?_)
  unfold FX12_isAsSeen
  refine Ev.run (pc' := 2) (ls' := [some (.ref 112), some (.int a1), some (.int 0)]) (st' := []) (m' := m) [(.iconst 0, 0, 0, 0, 0), (.istore_n 2, 0, 0, 0, 0)] (by decide +kernel) rfl ?_
  refine EX12_isAsSeen_L2 f _ a1 ?_ (by omega) _ _ _
  intro m1
  refine Ev.run (pc' := 71) (ls' := [none, none, none]) (st' := [.int 1]) (m' := m1) [(.iconst 1, 0, 0, 1, 0)] (by decide +kernel) rfl ?_
  exact Ev.iretz rfl rfl (by decide +kernel) (by decide)
def FX12_mostAlike_J88 (f : Nat) (kt39 : Int32 → Int32 → ev_M → Option (Int32 × ev_M))  (a6 : Int32) (a7 : Int32)  (m : ev_M) : Option (Int32 × ev_M) :=
  (kt39 a6 (a7 + 1) m)
def FX12_mostAlike_L39 (f : Nat) (k : Int32 → ev_M → Option (Int32 × ev_M))  (a3 : Int32) (a5 : Int32) : Nat → Int32 → Int32 → ev_M → Option (Int32 × ev_M)
  | 0, _, _, _ => none
  | n + 1, a6, a7, m => (if 10 ≤ a7 then (k a6 m) else (if ev_in a7 10 then (if (m.1 150 a7.toNatClampNeg) = 0 then (FX12_mostAlike_J88 f (FX12_mostAlike_L39 f k a3 a5 n) a6 a7 m) else (if ev_in ((248 * a5) + a3) 2480 then (if ev_in ((248 * a7) + a3) 2480 then (if (m.1 149 ((248 * a5) + a3).toNatClampNeg) = (m.1 149 ((248 * a7) + a3).toNatClampNeg) then (FX12_mostAlike_J88 f (FX12_mostAlike_L39 f k a3 a5 n) (a6 + 1) a7 m) else (FX12_mostAlike_J88 f (FX12_mostAlike_L39 f k a3 a5 n) a6 a7 m)) else none) else none)) else none))
def FX12_mostAlike_J105 (f : Nat) (kt13 : Int32 → Int32 → ev_M → Option (Int32 × ev_M))  (a4 : Int32) (a5 : Int32)  (m : ev_M) : Option (Int32 × ev_M) :=
  (kt13 a4 (a5 + 1) m)
def FX12_mostAlike_L13 (f : Nat) (k : Int32 → ev_M → Option (Int32 × ev_M))  (a3 : Int32) : Nat → Int32 → Int32 → ev_M → Option (Int32 × ev_M)
  | 0, _, _, _ => none
  | n + 1, a4, a5, m => (if 10 ≤ a5 then (k a4 m) else (if ev_in a5 10 then (if (m.1 150 a5.toNatClampNeg) = 0 then (FX12_mostAlike_J105 f (FX12_mostAlike_L13 f k a3 n) a4 a5 m) else (FX12_mostAlike_L39 f (fun e1 m2 => (if e1 ≤ a4 then (FX12_mostAlike_J105 f (FX12_mostAlike_L13 f k a3 n) a4 a5 m2) else (FX12_mostAlike_J105 f (FX12_mostAlike_L13 f k a3 n) e1 a5 m2))) a3 a5 f (0 : Int32) (0 : Int32) m)) else none))
def FX12_mostAlike (f : Nat) (a1 : Int32) (a2 : Int32) (m : ev_M) : Option (Int32 × ev_M) :=
  (FX12_mostAlike_L13 f (fun e3 m4 => some (e3, m4)) ((8 * a1) + a2) f (0 : Int32) (0 : Int32) m)
set_option maxRecDepth 100000 in
set_option maxHeartbeats 4000000 in
theorem EX12_mostAlike_J88 {l : Launch} {Ln : Nat} {xs : Nat → Int32} {d : Nat} (f : Nat) (kt39 : Int32 → Int32 → ev_M → Option (Int32 × ev_M))  (a3 : Int32) (a4 : Int32) (a5 : Int32) (a6 : Int32) (a7 : Int32)  (m : ev_M)  (hkt39 : ∀ (e6 : Int32) (e7 : Int32) (em : ev_M), Ev ev_eI l Ln xs YX12_mostAlike d Sx 39 [some (.ref 112), none, none, some (.int a3), some (.int a4), some (.int a5), some (.int e6), some (.int e7)] [] em (kt39 e6 e7 em)) (hd : 0 ≤ d) : Ev ev_eI l Ln xs YX12_mostAlike d Sx 88 [some (.ref 112), none, none, some (.int a3), some (.int a4), some (.int a5), some (.int a6), some (.int a7)] [] m (FX12_mostAlike_J88 f kt39 a6 a7 m) := by
  unfold FX12_mostAlike_J88
  refine Ev.run (pc' := 91) (ls' := [some (.ref 112), none, none, some (.int a3), some (.int a4), some (.int a5), some (.int a6), some (.int (a7 + 1))]) (st' := []) (m' := m) [(.iinc 7 1, 0, 0, 1, 0)] (by decide +kernel) rfl ?_
  refine Ev.gto (t := 39) (by decide +kernel) ?_
  exact hkt39 _ _ _
set_option maxRecDepth 100000 in
set_option maxHeartbeats 4000000 in
theorem EX12_mostAlike_L39 {l : Launch} {Ln : Nat} {xs : Nat → Int32} {d : Nat} (f : Nat) (k : Int32 → ev_M → Option (Int32 × ev_M))  (a3 : Int32) (a4 : Int32) (a5 : Int32)   (hk : ∀ (e6 : Int32) (em : ev_M), Ev ev_eI l Ln xs YX12_mostAlike d Sx 94 [some (.ref 112), none, none, some (.int a3), some (.int a4), some (.int a5), some (.int e6), none] [] em (k e6 em)) (hd : 0 ≤ d) : ∀ (n : Nat) (a6 : Int32) (a7 : Int32) (m : ev_M), Ev ev_eI l Ln xs YX12_mostAlike d Sx 39 [some (.ref 112), none, none, some (.int a3), some (.int a4), some (.int a5), some (.int a6), some (.int a7)] [] m (FX12_mostAlike_L39 f k a3 a5 n a6 a7 m) := by
  intro n
  induction n with
  | zero => intros; exact Ev.nn
  | succ n ih =>
    intro a6 a7 m
    rw [FX12_mostAlike_L39]
    refine Ev.run (pc' := 43) (ls' := [some (.ref 112), none, none, some (.int a3), some (.int a4), some (.int a5), some (.int a6), some (.int a7)]) (st' := [.int 10, .int a7]) (m' := m) [(.iload 7, 0, 0, 0, 0), (.bipush 10, 0, 0, 10, 0)] (by decide +kernel) rfl ?_
    refine Ev.ic_ge (t := 94) (by decide +kernel) ?_ ?_
    · refine Ev.le (ls' := [some (.ref 112), none, none, some (.int a3), some (.int a4), some (.int a5), some (.int a6), none]) ⟨rfl, ⟨rfl, ⟨rfl, ⟨rfl, ⟨rfl, trivial⟩⟩⟩⟩⟩ ?_
      exact hk _ _
    · refine Ev.run (pc' := 52) (ls' := [some (.ref 112), none, none, some (.int a3), some (.int a4), some (.int a5), some (.int a6), some (.int a7)]) (st' := [.int a7, .ref 150]) (m' := m) [(.aload_n 0, 0, 0, 0, 0), (.getfield 127, 12, 61, 0, 0), (.iload 7, 0, 0, 0, 0)] (by decide +kernel) rfl ?_
      refine Ev.zald (n := 10) (by decide +kernel) (by decide) rfl ?_
      refine Ev.if_eq (t := 88) (by decide +kernel) ?_ ?_
      · exact EX12_mostAlike_J88 f (FX12_mostAlike_L39 f k a3 a5 n) a3 a4 a5 a6 a7 m ih (by omega)
      · refine Ev.run (pc' := 68) (ls' := [some (.ref 112), none, none, some (.int a3), some (.int a4), some (.int a5), some (.int a6), some (.int a7)]) (st' := [.int ((248 * a5) + a3), .ref 149]) (m' := m) [(.aload_n 0, 0, 0, 0, 0), (.getfield 124, 12, 60, 0, 0), (.sipush 248, 0, 0, 248, 0), (.iload 5, 0, 0, 0, 0), (.imul, 0, 0, 0, 0), (.iload_n 3, 0, 0, 0, 0), (.iadd, 0, 0, 0, 0)] (by decide +kernel) rfl ?_
        refine Ev.iald (n := 2480) (by decide +kernel) (by decide) rfl ?_
        refine Ev.run (pc' := 81) (ls' := [some (.ref 112), none, none, some (.int a3), some (.int a4), some (.int a5), some (.int a6), some (.int a7)]) (st' := [.int ((248 * a7) + a3), .ref 149, .int (m.1 149 ((248 * a5) + a3).toNatClampNeg)]) (m' := m) [(.aload_n 0, 0, 0, 0, 0), (.getfield 124, 12, 60, 0, 0), (.sipush 248, 0, 0, 248, 0), (.iload 7, 0, 0, 0, 0), (.imul, 0, 0, 0, 0), (.iload_n 3, 0, 0, 0, 0), (.iadd, 0, 0, 0, 0)] (by decide +kernel) rfl ?_
        refine Ev.iald (n := 2480) (by decide +kernel) (by decide) rfl ?_
        refine Ev.ic_ne (t := 88) (by decide +kernel) ?_ ?_
        · exact EX12_mostAlike_J88 f (FX12_mostAlike_L39 f k a3 a5 n) a3 a4 a5 a6 a7 m ih (by omega)
        · refine Ev.run (pc' := 88) (ls' := [some (.ref 112), none, none, some (.int a3), some (.int a4), some (.int a5), some (.int (a6 + 1)), some (.int a7)]) (st' := []) (m' := m) [(.iinc 6 1, 0, 0, 1, 0)] (by decide +kernel) rfl ?_
          exact EX12_mostAlike_J88 f (FX12_mostAlike_L39 f k a3 a5 n) a3 a4 a5 (a6 + 1) a7 m ih (by omega)
set_option maxRecDepth 100000 in
set_option maxHeartbeats 4000000 in
theorem EX12_mostAlike_J105 {l : Launch} {Ln : Nat} {xs : Nat → Int32} {d : Nat} (f : Nat) (kt13 : Int32 → Int32 → ev_M → Option (Int32 × ev_M))  (a3 : Int32) (a4 : Int32) (a5 : Int32)  (m : ev_M)  (hkt13 : ∀ (e4 : Int32) (e5 : Int32) (em : ev_M), Ev ev_eI l Ln xs YX12_mostAlike d Sx 13 [some (.ref 112), none, none, some (.int a3), some (.int e4), some (.int e5), none, none] [] em (kt13 e4 e5 em)) (hd : 0 ≤ d) : Ev ev_eI l Ln xs YX12_mostAlike d Sx 105 [some (.ref 112), none, none, some (.int a3), some (.int a4), some (.int a5), none, none] [] m (FX12_mostAlike_J105 f kt13 a4 a5 m) := by
  unfold FX12_mostAlike_J105
  refine Ev.run (pc' := 108) (ls' := [some (.ref 112), none, none, some (.int a3), some (.int a4), some (.int (a5 + 1)), none, none]) (st' := []) (m' := m) [(.iinc 5 1, 0, 0, 1, 0)] (by decide +kernel) rfl ?_
  refine Ev.gto (t := 13) (by decide +kernel) ?_
  exact hkt13 _ _ _
set_option maxRecDepth 100000 in
set_option maxHeartbeats 4000000 in
theorem EX12_mostAlike_L13 {l : Launch} {Ln : Nat} {xs : Nat → Int32} {d : Nat} (f : Nat) (k : Int32 → ev_M → Option (Int32 × ev_M))  (a3 : Int32)   (hk : ∀ (e4 : Int32) (em : ev_M), Ev ev_eI l Ln xs YX12_mostAlike d Sx 111 [none, none, none, none, some (.int e4), none, none, none] [] em (k e4 em)) (hd : 0 ≤ d) : ∀ (n : Nat) (a4 : Int32) (a5 : Int32) (m : ev_M), Ev ev_eI l Ln xs YX12_mostAlike d Sx 13 [some (.ref 112), none, none, some (.int a3), some (.int a4), some (.int a5), none, none] [] m (FX12_mostAlike_L13 f k a3 n a4 a5 m) := by
  intro n
  induction n with
  | zero => intros; exact Ev.nn
  | succ n ih =>
    intro a4 a5 m
    rw [FX12_mostAlike_L13]
    refine Ev.run (pc' := 17) (ls' := [some (.ref 112), none, none, some (.int a3), some (.int a4), some (.int a5), none, none]) (st' := [.int 10, .int a5]) (m' := m) [(.iload 5, 0, 0, 0, 0), (.bipush 10, 0, 0, 10, 0)] (by decide +kernel) rfl ?_
    refine Ev.ic_ge (t := 111) (by decide +kernel) ?_ ?_
    · refine Ev.le (ls' := [none, none, none, none, some (.int a4), none, none, none]) ⟨rfl, trivial⟩ ?_
      exact hk _ _
    · refine Ev.run (pc' := 26) (ls' := [some (.ref 112), none, none, some (.int a3), some (.int a4), some (.int a5), none, none]) (st' := [.int a5, .ref 150]) (m' := m) [(.aload_n 0, 0, 0, 0, 0), (.getfield 127, 12, 61, 0, 0), (.iload 5, 0, 0, 0, 0)] (by decide +kernel) rfl ?_
      refine Ev.zald (n := 10) (by decide +kernel) (by decide) rfl ?_
      refine Ev.if_ne (t := 33) (by decide +kernel) ?_ ?_
      · refine Ev.run (pc' := 39) (ls' := [some (.ref 112), none, none, some (.int a3), some (.int a4), some (.int a5), some (.int 0), some (.int 0)]) (st' := []) (m' := m) [(.iconst 0, 0, 0, 0, 0), (.istore 6, 0, 0, 0, 0), (.iconst 0, 0, 0, 0, 0), (.istore 7, 0, 0, 0, 0)] (by decide +kernel) rfl ?_
        refine EX12_mostAlike_L39 f _ a3 a4 a5 ?_ (by omega) _ _ _ _
        intro e1 m2
        refine Ev.run (pc' := 98) (ls' := [some (.ref 112), none, none, some (.int a3), some (.int a4), some (.int a5), some (.int e1), none]) (st' := [.int a4, .int e1]) (m' := m2) [(.iload 6, 0, 0, 0, 0), (.iload 4, 0, 0, 0, 0)] (by decide +kernel) rfl ?_
        refine Ev.ic_le (t := 105) (by decide +kernel) ?_ ?_
        · refine Ev.le (ls' := [some (.ref 112), none, none, some (.int a3), some (.int a4), some (.int a5), none, none]) ⟨rfl, ⟨rfl, ⟨rfl, ⟨rfl, trivial⟩⟩⟩⟩ ?_
          exact EX12_mostAlike_J105 f (FX12_mostAlike_L13 f k a3 n) a3 a4 a5 m2 ih (by omega)
        · refine Ev.run (pc' := 105) (ls' := [some (.ref 112), none, none, some (.int a3), some (.int e1), some (.int a5), some (.int e1), none]) (st' := []) (m' := m2) [(.iload 6, 0, 0, 0, 0), (.istore 4, 0, 0, 0, 0)] (by decide +kernel) rfl ?_
          refine Ev.le (ls' := [some (.ref 112), none, none, some (.int a3), some (.int e1), some (.int a5), none, none]) ⟨rfl, ⟨rfl, ⟨rfl, ⟨rfl, trivial⟩⟩⟩⟩ ?_
          exact EX12_mostAlike_J105 f (FX12_mostAlike_L13 f k a3 n) a3 e1 a5 m2 ih (by omega)
      · refine Ev.gto (t := 105) (by decide +kernel) ?_
        exact EX12_mostAlike_J105 f (FX12_mostAlike_L13 f k a3 n) a3 a4 a5 m ih (by omega)
set_option maxRecDepth 100000 in
set_option maxHeartbeats 4000000 in
theorem EX12_mostAlike {l : Launch} {Ln : Nat} {xs : Nat → Int32} {d : Nat} (f : Nat) (a1 : Int32) (a2 : Int32) (m : ev_M)  (hd : 0 ≤ d) : Mv ev_eI l Ln xs YX12_mostAlike d Sx [.ref 112, .int a1, .int a2] m (FX12_mostAlike f a1 a2 m) := by
  refine Mv.of (by decide +kernel) rfl (Nat.le_of_ble_eq_true rfl) (Ev.le (ls' := [some (.ref 112), some (.int a1), some (.int a2), none, none, none, none, none]) ⟨rfl, ⟨rfl, ⟨rfl, trivial⟩⟩⟩ ?_)
  unfold FX12_mostAlike
  refine Ev.run (pc' := 13) (ls' := [some (.ref 112), some (.int a1), some (.int a2), some (.int ((8 * a1) + a2)), some (.int 0), some (.int 0), none, none]) (st' := []) (m' := m) [(.bipush 8, 0, 0, 8, 0), (.iload_n 1, 0, 0, 0, 0), (.imul, 0, 0, 0, 0), (.iload_n 2, 0, 0, 0, 0), (.iadd, 0, 0, 0, 0), (.istore_n 3, 0, 0, 0, 0), (.iconst 0, 0, 0, 0, 0), (.istore 4, 0, 0, 0, 0), (.iconst 0, 0, 0, 0, 0), (.istore 5, 0, 0, 0, 0)] (by decide +kernel) rfl ?_
  refine Ev.le (ls' := [some (.ref 112), none, none, some (.int ((8 * a1) + a2)), some (.int 0), some (.int 0), none, none]) ⟨rfl, ⟨rfl, ⟨rfl, ⟨rfl, trivial⟩⟩⟩⟩ ?_
  refine EX12_mostAlike_L13 f _ ((8 * a1) + a2) ?_ (by omega) _ _ _ _
  intro e3 m4
  refine Ev.run (pc' := 113) (ls' := [none, none, none, none, some (.int e3), none, none, none]) (st' := [.int e3]) (m' := m4) [(.iload 4, 0, 0, 0, 0)] (by decide +kernel) rfl ?_
  exact Ev.ireti rfl rfl (by decide +kernel)
def FX12_keeps_L15 (f : Nat) (k : ev_M → Option (Unit × ev_M))   : Nat → Int32 → ev_M → Option (Unit × ev_M)
  | 0, _, _ => none
  | n + 1, a1, m => (if 147 ≤ a1 then (k m) else (if ev_in a1 147 then (if ev_in ((147 * (m.1 112 65)) + a1) 2940 then (FX12_keeps_L15 f k n (a1 + 1) ((ev_up m.1 151 ((147 * (m.1 112 65)) + a1).toNatClampNeg (m.1 144 a1.toNatClampNeg)), m.2)) else none) else none))
def FX12_keeps (f : Nat)  (m : ev_M) : Option (Unit × ev_M) :=
  (FX12_keeps_L15 f (fun m1 => (if 20 ≤ (m1.1 112 64) then some ((), m1) else some ((), ((ev_up m1.1 112 64 ((m1.1 112 64) + 1)), m1.2)))) f (0 : Int32) ((ev_up m.1 112 65 (((m.1 112 65) + 1) - ((m.1 112 65) + 1) / 20 * 20)), m.2))
set_option maxRecDepth 100000 in
set_option maxHeartbeats 4000000 in
theorem EX12_keeps_L15 {l : Launch} {Ln : Nat} {xs : Nat → Int32} {d : Nat} (f : Nat) (k : ev_M → Option (Unit × ev_M))     (hk : ∀  (em : ev_M), Ev ev_eV l Ln xs YX12_keeps d Sx 49 [some (.ref 112), none] [] em (k em)) (hd : 0 ≤ d) : ∀ (n : Nat) (a1 : Int32) (m : ev_M), Ev ev_eV l Ln xs YX12_keeps d Sx 15 [some (.ref 112), some (.int a1)] [] m (FX12_keeps_L15 f k n a1 m) := by
  intro n
  induction n with
  | zero => intros; exact Ev.nn
  | succ n ih =>
    intro a1 m
    rw [FX12_keeps_L15]
    refine Ev.run (pc' := 19) (ls' := [some (.ref 112), some (.int a1)]) (st' := [.int 147, .int a1]) (m' := m) [(.iload_n 1, 0, 0, 0, 0), (.sipush 147, 0, 0, 147, 0)] (by decide +kernel) rfl ?_
    refine Ev.ic_ge (t := 49) (by decide +kernel) ?_ ?_
    · refine Ev.le (ls' := [some (.ref 112), none]) ⟨rfl, trivial⟩ ?_
      exact hk _
    · refine Ev.run (pc' := 41) (ls' := [some (.ref 112), some (.int a1)]) (st' := [.int a1, .ref 144, .int ((147 * (m.1 112 65)) + a1), .ref 151]) (m' := m) [(.aload_n 0, 0, 0, 0, 0), (.getfield 131, 12, 63, 0, 0), (.sipush 147, 0, 0, 147, 0), (.aload_n 0, 0, 0, 0, 0), (.getfield 526, 12, 65, 0, 0), (.imul, 0, 0, 0, 0), (.iload_n 1, 0, 0, 0, 0), (.iadd, 0, 0, 0, 0), (.aload_n 0, 0, 0, 0, 0), (.getfield 109, 12, 47, 0, 0), (.iload_n 1, 0, 0, 0, 0)] (by decide +kernel) rfl ?_
      refine Ev.iald (n := 147) (by decide +kernel) (by decide) rfl ?_
      refine Ev.iast (n := 2940) (by decide +kernel) (by decide) rfl ?_
      refine Ev.run (pc' := 46) (ls' := [some (.ref 112), some (.int (a1 + 1))]) (st' := []) (m' := ((ev_up m.1 151 ((147 * (m.1 112 65)) + a1).toNatClampNeg (m.1 144 a1.toNatClampNeg)), m.2)) [(.iinc 1 1, 0, 0, 1, 0)] (by decide +kernel) rfl ?_
      refine Ev.gto (t := 15) (by decide +kernel) ?_
      exact ih _ _
set_option maxRecDepth 100000 in
set_option maxHeartbeats 4000000 in
theorem EX12_keeps {l : Launch} {Ln : Nat} {xs : Nat → Int32} {d : Nat} (f : Nat)  (m : ev_M)  (hd : 0 ≤ d) : Mv ev_eV l Ln xs YX12_keeps d Sx [.ref 112] m (FX12_keeps f  m) := by
  refine Mv.of (by decide +kernel) rfl (Nat.le_of_ble_eq_true rfl) (Ev.le (ls' := [some (.ref 112), none]) ⟨rfl, trivial⟩ ?_)
  unfold FX12_keeps
  refine Ev.run (pc' := 9) (ls' := [some (.ref 112), none]) (st' := [.int 20, .int ((m.1 112 65) + 1), .ref 112]) (m' := m) [(.aload_n 0, 0, 0, 0, 0), (.aload_n 0, 0, 0, 0, 0), (.getfield 526, 12, 65, 0, 0), (.iconst 1, 0, 0, 1, 0), (.iadd, 0, 0, 0, 0), (.bipush 20, 0, 0, 20, 0)] (by decide +kernel) rfl ?_
  refine Ev.irem' (by decide +kernel) (by decide) ?_
  refine Ev.run (pc' := 15) (ls' := [some (.ref 112), some (.int 0)]) (st' := []) (m' := ((ev_up m.1 112 65 (((m.1 112 65) + 1) - ((m.1 112 65) + 1) / 20 * 20)), m.2)) [(.putfield 526, 12, 65, 0, 0), (.iconst 0, 0, 0, 0, 0), (.istore_n 1, 0, 0, 0, 0)] (by decide +kernel) rfl ?_
  refine EX12_keeps_L15 f _ ?_ (by omega) _ _ _
  intro m1
  refine Ev.run (pc' := 55) (ls' := [some (.ref 112), none]) (st' := [.int 20, .int (m1.1 112 64)]) (m' := m1) [(.aload_n 0, 0, 0, 0, 0), (.getfield 363, 12, 64, 0, 0), (.bipush 20, 0, 0, 20, 0)] (by decide +kernel) rfl ?_
  refine Ev.ic_ge (t := 68) (by decide +kernel) ?_ ?_
  · exact Ev.retv rfl rfl (by decide +kernel)
  · refine Ev.run (pc' := 68) (ls' := [some (.ref 112), none]) (st' := []) (m' := ((ev_up m1.1 112 64 ((m1.1 112 64) + 1)), m1.2)) [(.aload_n 0, 0, 0, 0, 0), (.dup, 0, 0, 0, 0), (.getfield 363, 12, 64, 0, 0), (.iconst 1, 0, 0, 1, 0), (.iadd, 0, 0, 0, 0), (.putfield 363, 12, 64, 0, 0)] (by decide +kernel) rfl ?_
    exact Ev.retv rfl rfl (by decide +kernel)
def FX12_undo_L21 (f : Nat) (k : ev_M → Option (Int32 × ev_M))   : Nat → Int32 → ev_M → Option (Int32 × ev_M)
  | 0, _, _ => none
  | n + 1, a1, m => (if 147 ≤ a1 then (k m) else (if ev_in ((147 * (m.1 112 65)) + a1) 2940 then (if ev_in a1 147 then (FX12_undo_L21 f k n (a1 + 1) ((ev_up m.1 144 a1.toNatClampNeg (m.1 151 ((147 * (m.1 112 65)) + a1).toNatClampNeg)), m.2)) else none) else none))
def FX12_undo (f : Nat)  (m : ev_M) : Option (Int32 × ev_M) :=
  (if (m.1 112 64) = 0 then some (0, ((ev_up m.1 114 4 ((m.1 114 4) + 1)), m.2)) else (FX12_undo_L21 f (fun m1 => some (1, ((ev_up (ev_up m1.1 112 65 ((((m1.1 112 65) + 20) - 1) - (((m1.1 112 65) + 20) - 1) / 20 * 20)) 112 64 ((m1.1 112 64) - 1)), m1.2))) f (0 : Int32) m))
set_option maxRecDepth 100000 in
set_option maxHeartbeats 4000000 in
theorem EX12_undo_L21 {l : Launch} {Ln : Nat} {xs : Nat → Int32} {d : Nat} (f : Nat) (k : ev_M → Option (Int32 × ev_M))     (hk : ∀  (em : ev_M), Ev ev_eI l Ln xs YX12_undo d Sx 55 [some (.ref 112), none] [] em (k em)) (hd : 0 ≤ d) : ∀ (n : Nat) (a1 : Int32) (m : ev_M), Ev ev_eI l Ln xs YX12_undo d Sx 21 [some (.ref 112), some (.int a1)] [] m (FX12_undo_L21 f k n a1 m) := by
  intro n
  induction n with
  | zero => intros; exact Ev.nn
  | succ n ih =>
    intro a1 m
    rw [FX12_undo_L21]
    refine Ev.run (pc' := 25) (ls' := [some (.ref 112), some (.int a1)]) (st' := [.int 147, .int a1]) (m' := m) [(.iload_n 1, 0, 0, 0, 0), (.sipush 147, 0, 0, 147, 0)] (by decide +kernel) rfl ?_
    refine Ev.ic_ge (t := 55) (by decide +kernel) ?_ ?_
    · refine Ev.le (ls' := [some (.ref 112), none]) ⟨rfl, trivial⟩ ?_
      exact hk _
    · refine Ev.run (pc' := 47) (ls' := [some (.ref 112), some (.int a1)]) (st' := [.int ((147 * (m.1 112 65)) + a1), .ref 151, .int a1, .ref 144]) (m' := m) [(.aload_n 0, 0, 0, 0, 0), (.getfield 109, 12, 47, 0, 0), (.iload_n 1, 0, 0, 0, 0), (.aload_n 0, 0, 0, 0, 0), (.getfield 131, 12, 63, 0, 0), (.sipush 147, 0, 0, 147, 0), (.aload_n 0, 0, 0, 0, 0), (.getfield 526, 12, 65, 0, 0), (.imul, 0, 0, 0, 0), (.iload_n 1, 0, 0, 0, 0), (.iadd, 0, 0, 0, 0)] (by decide +kernel) rfl ?_
      refine Ev.iald (n := 2940) (by decide +kernel) (by decide) rfl ?_
      refine Ev.iast (n := 147) (by decide +kernel) (by decide) rfl ?_
      refine Ev.run (pc' := 52) (ls' := [some (.ref 112), some (.int (a1 + 1))]) (st' := []) (m' := ((ev_up m.1 144 a1.toNatClampNeg (m.1 151 ((147 * (m.1 112 65)) + a1).toNatClampNeg)), m.2)) [(.iinc 1 1, 0, 0, 1, 0)] (by decide +kernel) rfl ?_
      refine Ev.gto (t := 21) (by decide +kernel) ?_
      exact ih _ _
set_option maxRecDepth 100000 in
set_option maxHeartbeats 4000000 in
theorem EX12_undo {l : Launch} {Ln : Nat} {xs : Nat → Int32} {d : Nat} (f : Nat)  (m : ev_M)  (hd : 0 ≤ d) : Mv ev_eI l Ln xs YX12_undo d Sx [.ref 112] m (FX12_undo f  m) := by
  refine Mv.of (by decide +kernel) rfl (Nat.le_of_ble_eq_true rfl) (Ev.le (ls' := [some (.ref 112), none]) ⟨rfl, trivial⟩ ?_)
  unfold FX12_undo
  refine Ev.run (pc' := 4) (ls' := [some (.ref 112), none]) (st' := [.int (m.1 112 64)]) (m' := m) [(.aload_n 0, 0, 0, 0, 0), (.getfield 363, 12, 64, 0, 0)] (by decide +kernel) rfl ?_
  refine Ev.if_ne (t := 19) (by decide +kernel) ?_ ?_
  · refine Ev.run (pc' := 21) (ls' := [some (.ref 112), some (.int 0)]) (st' := []) (m' := m) [(.iconst 0, 0, 0, 0, 0), (.istore_n 1, 0, 0, 0, 0)] (by decide +kernel) rfl ?_
    refine EX12_undo_L21 f _ ?_ (by omega) _ _ _
    intro m1
    refine Ev.run (pc' := 67) (ls' := [some (.ref 112), none]) (st' := [.int 20, .int (((m1.1 112 65) + 20) - 1), .ref 112]) (m' := m1) [(.aload_n 0, 0, 0, 0, 0), (.aload_n 0, 0, 0, 0, 0), (.getfield 526, 12, 65, 0, 0), (.bipush 20, 0, 0, 20, 0), (.iadd, 0, 0, 0, 0), (.iconst 1, 0, 0, 1, 0), (.isub, 0, 0, 0, 0), (.bipush 20, 0, 0, 20, 0)] (by decide +kernel) rfl ?_
    refine Ev.irem' (by decide +kernel) (by decide) ?_
    refine Ev.run (pc' := 82) (ls' := [some (.ref 112), none]) (st' := [.int 1]) (m' := ((ev_up (ev_up m1.1 112 65 ((((m1.1 112 65) + 20) - 1) - (((m1.1 112 65) + 20) - 1) / 20 * 20)) 112 64 ((m1.1 112 64) - 1)), m1.2)) [(.putfield 526, 12, 65, 0, 0), (.aload_n 0, 0, 0, 0, 0), (.dup, 0, 0, 0, 0), (.getfield 363, 12, 64, 0, 0), (.iconst 1, 0, 0, 1, 0), (.isub, 0, 0, 0, 0), (.putfield 363, 12, 64, 0, 0), (.iconst 1, 0, 0, 1, 0)] (by decide +kernel) rfl ?_
    exact Ev.iretz rfl rfl (by decide +kernel) (by decide)
  · refine Ev.run (pc' := 13) (ls' := [some (.ref 112), none]) (st' := [.int 4, .ref 114, .int 4, .ref 114]) (m' := m) [(.aload_n 0, 0, 0, 0, 0), (.getfield 17, 12, 9, 0, 0), (.iconst 4, 0, 0, 4, 0), (.dup2, 0, 0, 0, 0)] (by decide +kernel) rfl ?_
    refine Ev.ialdK (n := 6) (j := 4) (by decide +kernel) (by decide) rfl rfl (by decide) ?_
    refine Ev.run (pc' := 16) (ls' := [some (.ref 112), none]) (st' := [.int ((m.1 114 4) + 1), .int 4, .ref 114]) (m' := m) [(.iconst 1, 0, 0, 1, 0), (.iadd, 0, 0, 0, 0)] (by decide +kernel) rfl ?_
    refine Ev.iastK (n := 6) (j := 4) (by decide +kernel) (by decide) rfl rfl (by decide) ?_
    refine Ev.run (pc' := 18) (ls' := [some (.ref 112), none]) (st' := [.int 0]) (m' := ((ev_up m.1 114 4 ((m.1 114 4) + 1)), m.2)) [(.iconst 0, 0, 0, 0, 0)] (by decide +kernel) rfl ?_
    exact Ev.iretz rfl rfl (by decide +kernel) (by decide)
def FX12_isRefused (f : Nat)  (m : ev_M) : Option (Int32 × ev_M) :=
  some (0, ((ev_up m.1 114 2 ((m.1 114 2) + 1)), m.2))
set_option maxRecDepth 100000 in
set_option maxHeartbeats 4000000 in
theorem EX12_isRefused {l : Launch} {Ln : Nat} {xs : Nat → Int32} {d : Nat} (f : Nat)  (m : ev_M)  (hd : 0 ≤ d) : Mv ev_eI l Ln xs YX12_isRefused d Sx [.ref 112] m (FX12_isRefused f  m) := by
  refine Mv.of (by decide +kernel) rfl (Nat.le_of_ble_eq_true rfl) (Ev.le (ls' := [some (.ref 112)]) ⟨rfl, trivial⟩ ?_)
  unfold FX12_isRefused
  refine Ev.run (pc' := 6) (ls' := [some (.ref 112)]) (st' := [.int 2, .ref 114, .int 2, .ref 114]) (m' := m) [(.aload_n 0, 0, 0, 0, 0), (.getfield 17, 12, 9, 0, 0), (.iconst 2, 0, 0, 2, 0), (.dup2, 0, 0, 0, 0)] (by decide +kernel) rfl ?_
  refine Ev.ialdK (n := 6) (j := 2) (by decide +kernel) (by decide) rfl rfl (by decide) ?_
  refine Ev.run (pc' := 9) (ls' := [some (.ref 112)]) (st' := [.int ((m.1 114 2) + 1), .int 2, .ref 114]) (m' := m) [(.iconst 1, 0, 0, 1, 0), (.iadd, 0, 0, 0, 0)] (by decide +kernel) rfl ?_
  refine Ev.iastK (n := 6) (j := 2) (by decide +kernel) (by decide) rfl rfl (by decide) ?_
  refine Ev.run (pc' := 11) (ls' := [some (.ref 112)]) (st' := [.int 0]) (m' := ((ev_up m.1 114 2 ((m.1 114 2) + 1)), m.2)) [(.iconst 0, 0, 0, 0, 0)] (by decide +kernel) rfl ?_
  exact Ev.iretz rfl rfl (by decide +kernel) (by decide)
def FX12_cheer_J29 (f : Nat)     (m : ev_M) : Option (Int32 × ev_M) :=
  (ev_bd (FX12_isRefused f m) (fun r3 m4 => (if r3 = 0 ∨ r3 = 1 then some (r3, m4) else none)))
def FX12_cheer (f : Nat) (a1 : Int32) (a2 : Int32) (m : ev_M) : Option (Int32 × ev_M) :=
  (ev_bd (FX12_isTower f a1 m) (fun r1 m2 => (if r1 = 0 then (FX12_cheer_J29 f m2) else (ev_bd (FX12_isIn f (a2 : Int32).toInt64 (0 : Int64) (9 : Int64) m2) (fun r5 m6 => (if r5 = 0 then (FX12_cheer_J29 f m6) else (ev_bd (FX12_cheerOf f a1 m6) (fun r7 m8 => (if r7 = a2 then (FX12_cheer_J29 f m8) else (ev_bd (FX12_keeps f m8) (fun _ m10 => (if ev_in ((2 + (3 * a1)) + 1) 147 then some (1, ((ev_up m10.1 144 ((2 + (3 * a1)) + 1).toNatClampNeg a2), m10.2)) else none))))))))))))
set_option maxRecDepth 100000 in
set_option maxHeartbeats 4000000 in
theorem EX12_cheer_J29 {l : Launch} {Ln : Nat} {xs : Nat → Int32} {d : Nat} (f : Nat)     (m : ev_M)   (hd : 2 ≤ d) : Ev ev_eI l Ln xs YX12_cheer d Sx 29 [some (.ref 112), none, none] [] m (FX12_cheer_J29 f m) := by
  unfold FX12_cheer_J29
  refine Ev.run (pc' := 30) (ls' := [some (.ref 112), none, none]) (st' := [.ref 112]) (m' := m) [(.aload_n 0, 0, 0, 0, 0)] (by decide +kernel) rfl ?_
  refine Ev.cV (av := []) (st := []) (a := 112) (EX12_isRefused (l := l) (Ln := Ln) (xs := xs) (d := 0) f m (by decide)) rfl (by decide +kernel) mwX12_isRefused iwX12_isRefused vwX12_isRefused lk_12_529 (by omega) (by decide) rfl (by decide) rfl rfl (Nat.le_of_ble_eq_true rfl) (fun r3 m4 => ?_)
  exact Ev.iretb rfl rfl (by decide +kernel)
set_option maxRecDepth 100000 in
set_option maxHeartbeats 4000000 in
theorem EX12_cheer {l : Launch} {Ln : Nat} {xs : Nat → Int32} {d : Nat} (f : Nat) (a1 : Int32) (a2 : Int32) (m : ev_M)  (hd : 2 ≤ d) : Mv ev_eI l Ln xs YX12_cheer d Sx [.ref 112, .int a1, .int a2] m (FX12_cheer f a1 a2 m) := by
  refine Mv.of (by decide +kernel) rfl (Nat.le_of_ble_eq_true rfl) (Ev.le (ls' := [some (.ref 112), some (.int a1), some (.int a2)]) ⟨rfl, ⟨rfl, ⟨rfl, trivial⟩⟩⟩ ?_)
  unfold FX12_cheer
  refine Ev.run (pc' := 2) (ls' := [some (.ref 112), some (.int a1), some (.int a2)]) (st' := [.int a1, .ref 112]) (m' := m) [(.aload_n 0, 0, 0, 0, 0), (.iload_n 1, 0, 0, 0, 0)] (by decide +kernel) rfl ?_
  refine Ev.cV (av := [.int a1]) (st := []) (a := 112) (EX12_isTower (l := l) (Ln := Ln) (xs := xs) (d := 1) f a1 m (by decide)) rfl (by decide +kernel) mwX12_isTower iwX12_isTower vwX12_isTower lk_12_455 (by omega) (by decide) rfl (by decide) rfl rfl (Nat.le_of_ble_eq_true rfl) (fun r1 m2 => ?_)
  refine Ev.if_eq (t := 29) (by decide +kernel) ?_ ?_
  · refine Ev.le (ls' := [some (.ref 112), none, none]) ⟨rfl, trivial⟩ ?_
    exact EX12_cheer_J29 f m2 (by omega)
  · refine Ev.run (pc' := 14) (ls' := [some (.ref 112), some (.int a1), some (.int a2)]) (st' := [.long 9, .long 0, .long (a2 : Int32).toInt64]) (m' := m2) [(.iload_n 2, 0, 0, 0, 0), (.i2l, 0, 0, 0, 0), (.lconst 0, 0, 0, 0, 0), (.ldc2_w 386, 0, 0, 0, 9)] (by decide +kernel) rfl ?_
    refine Ev.cS (av := [.long (a2 : Int32).toInt64, .long 0, .long 9]) (st := []) (EX12_isIn (l := l) (Ln := Ln) (xs := xs) (d := 0) f (a2 : Int32).toInt64 (0 : Int64) (9 : Int64) m2 (by decide)) rfl (by decide +kernel) mwX12_isIn swX12_isIn lk_12_268 (by omega) rfl (Nat.le_of_ble_eq_true rfl) (fun r5 m6 => ?_)
    refine Ev.if_eq (t := 29) (by decide +kernel) ?_ ?_
    · refine Ev.le (ls' := [some (.ref 112), none, none]) ⟨rfl, trivial⟩ ?_
      exact EX12_cheer_J29 f m6 (by omega)
    · refine Ev.run (pc' := 22) (ls' := [some (.ref 112), some (.int a1), some (.int a2)]) (st' := [.int a1, .ref 112]) (m' := m6) [(.aload_n 0, 0, 0, 0, 0), (.iload_n 1, 0, 0, 0, 0)] (by decide +kernel) rfl ?_
      refine Ev.cV (av := [.int a1]) (st := []) (a := 112) (EX12_cheerOf (l := l) (Ln := Ln) (xs := xs) (d := 0) f a1 m6 (by decide)) rfl (by decide +kernel) mwX12_cheerOf iwX12_cheerOf vwX12_cheerOf lk_12_401 (by omega) (by decide) rfl (by decide) rfl rfl (Nat.le_of_ble_eq_true rfl) (fun r7 m8 => ?_)
      refine Ev.run (pc' := 26) (ls' := [some (.ref 112), some (.int a1), some (.int a2)]) (st' := [.int a2, .int r7]) (m' := m8) [(.iload_n 2, 0, 0, 0, 0)] (by decide +kernel) rfl ?_
      refine Ev.ic_ne (t := 34) (by decide +kernel) ?_ ?_
      · refine Ev.run (pc' := 35) (ls' := [some (.ref 112), some (.int a1), some (.int a2)]) (st' := [.ref 112]) (m' := m8) [(.aload_n 0, 0, 0, 0, 0)] (by decide +kernel) rfl ?_
        refine Ev.cV (av := []) (st := []) (a := 112) (EX12_keeps (l := l) (Ln := Ln) (xs := xs) (d := 0) f m8 (by decide)) rfl (by decide +kernel) mwX12_keeps iwX12_keeps vwX12_keeps lk_12_532 (by omega) (by decide) rfl (by decide) rfl rfl (Nat.le_of_ble_eq_true rfl) (fun r9 m10 => ?_)
        refine Ev.run (pc' := 50) (ls' := [some (.ref 112), some (.int a1), some (.int a2)]) (st' := [.int a2, .int ((2 + (3 * a1)) + 1), .ref 144]) (m' := m10) [(.aload_n 0, 0, 0, 0, 0), (.getfield 109, 12, 47, 0, 0), (.iconst 2, 0, 0, 2, 0), (.iconst 3, 0, 0, 3, 0), (.iload_n 1, 0, 0, 0, 0), (.imul, 0, 0, 0, 0), (.iadd, 0, 0, 0, 0), (.iconst 1, 0, 0, 1, 0), (.iadd, 0, 0, 0, 0), (.iload_n 2, 0, 0, 0, 0)] (by decide +kernel) rfl ?_
        refine Ev.iast (n := 147) (by decide +kernel) (by decide) rfl ?_
        refine Ev.run (pc' := 52) (ls' := [some (.ref 112), some (.int a1), some (.int a2)]) (st' := [.int 1]) (m' := ((ev_up m10.1 144 ((2 + (3 * a1)) + 1).toNatClampNeg a2), m10.2)) [(.iconst 1, 0, 0, 1, 0)] (by decide +kernel) rfl ?_
        exact Ev.iretz rfl rfl (by decide +kernel) (by decide)
      · refine Ev.le (ls' := [some (.ref 112), none, none]) ⟨rfl, trivial⟩ ?_
        exact EX12_cheer_J29 f m8 (by omega)
def FX12_yes_J34 (f : Nat)     (m : ev_M) : Option (Int32 × ev_M) :=
  (ev_bd (FX12_isRefused f m) (fun r3 m4 => (if r3 = 0 ∨ r3 = 1 then some (r3, m4) else none)))
def FX12_yes (f : Nat) (a1 : Int32) (a2 : Int32) (m : ev_M) : Option (Int32 × ev_M) :=
  (ev_bd (FX12_isTower f a1 m) (fun r1 m2 => (if r1 = 0 then (FX12_yes_J34 f m2) else (ev_bd (FX12_isIn f (a2 : Int32).toInt64 (0 : Int64) (1 : Int64) m2) (fun r5 m6 => (if r5 = 0 then (FX12_yes_J34 f m6) else (if ev_in ((2 + (3 * a1)) + 2) 147 then (if (m6.1 144 ((2 + (3 * a1)) + 2).toNatClampNeg) = a2 then (FX12_yes_J34 f m6) else (ev_bd (FX12_keeps f m6) (fun _ m8 => (if ev_in ((2 + (3 * a1)) + 2) 147 then some (1, ((ev_up m8.1 144 ((2 + (3 * a1)) + 2).toNatClampNeg a2), m8.2)) else none)))) else none)))))))
set_option maxRecDepth 100000 in
set_option maxHeartbeats 4000000 in
theorem EX12_yes_J34 {l : Launch} {Ln : Nat} {xs : Nat → Int32} {d : Nat} (f : Nat)     (m : ev_M)   (hd : 2 ≤ d) : Ev ev_eI l Ln xs YX12_yes d Sx 34 [some (.ref 112), none, none] [] m (FX12_yes_J34 f m) := by
  unfold FX12_yes_J34
  refine Ev.run (pc' := 35) (ls' := [some (.ref 112), none, none]) (st' := [.ref 112]) (m' := m) [(.aload_n 0, 0, 0, 0, 0)] (by decide +kernel) rfl ?_
  refine Ev.cV (av := []) (st := []) (a := 112) (EX12_isRefused (l := l) (Ln := Ln) (xs := xs) (d := 0) f m (by decide)) rfl (by decide +kernel) mwX12_isRefused iwX12_isRefused vwX12_isRefused lk_12_529 (by omega) (by decide) rfl (by decide) rfl rfl (Nat.le_of_ble_eq_true rfl) (fun r3 m4 => ?_)
  exact Ev.iretb rfl rfl (by decide +kernel)
set_option maxRecDepth 100000 in
set_option maxHeartbeats 4000000 in
theorem EX12_yes {l : Launch} {Ln : Nat} {xs : Nat → Int32} {d : Nat} (f : Nat) (a1 : Int32) (a2 : Int32) (m : ev_M)  (hd : 2 ≤ d) : Mv ev_eI l Ln xs YX12_yes d Sx [.ref 112, .int a1, .int a2] m (FX12_yes f a1 a2 m) := by
  refine Mv.of (by decide +kernel) rfl (Nat.le_of_ble_eq_true rfl) (Ev.le (ls' := [some (.ref 112), some (.int a1), some (.int a2)]) ⟨rfl, ⟨rfl, ⟨rfl, trivial⟩⟩⟩ ?_)
  unfold FX12_yes
  refine Ev.run (pc' := 2) (ls' := [some (.ref 112), some (.int a1), some (.int a2)]) (st' := [.int a1, .ref 112]) (m' := m) [(.aload_n 0, 0, 0, 0, 0), (.iload_n 1, 0, 0, 0, 0)] (by decide +kernel) rfl ?_
  refine Ev.cV (av := [.int a1]) (st := []) (a := 112) (EX12_isTower (l := l) (Ln := Ln) (xs := xs) (d := 1) f a1 m (by decide)) rfl (by decide +kernel) mwX12_isTower iwX12_isTower vwX12_isTower lk_12_455 (by omega) (by decide) rfl (by decide) rfl rfl (Nat.le_of_ble_eq_true rfl) (fun r1 m2 => ?_)
  refine Ev.if_eq (t := 34) (by decide +kernel) ?_ ?_
  · refine Ev.le (ls' := [some (.ref 112), none, none]) ⟨rfl, trivial⟩ ?_
    exact EX12_yes_J34 f m2 (by omega)
  · refine Ev.run (pc' := 12) (ls' := [some (.ref 112), some (.int a1), some (.int a2)]) (st' := [.long 1, .long 0, .long (a2 : Int32).toInt64]) (m' := m2) [(.iload_n 2, 0, 0, 0, 0), (.i2l, 0, 0, 0, 0), (.lconst 0, 0, 0, 0, 0), (.lconst 1, 0, 0, 0, 1)] (by decide +kernel) rfl ?_
    refine Ev.cS (av := [.long (a2 : Int32).toInt64, .long 0, .long 1]) (st := []) (EX12_isIn (l := l) (Ln := Ln) (xs := xs) (d := 0) f (a2 : Int32).toInt64 (0 : Int64) (1 : Int64) m2 (by decide)) rfl (by decide +kernel) mwX12_isIn swX12_isIn lk_12_268 (by omega) rfl (Nat.le_of_ble_eq_true rfl) (fun r5 m6 => ?_)
    refine Ev.if_eq (t := 34) (by decide +kernel) ?_ ?_
    · refine Ev.le (ls' := [some (.ref 112), none, none]) ⟨rfl, trivial⟩ ?_
      exact EX12_yes_J34 f m6 (by omega)
    · refine Ev.run (pc' := 29) (ls' := [some (.ref 112), some (.int a1), some (.int a2)]) (st' := [.int ((2 + (3 * a1)) + 2), .ref 144]) (m' := m6) [(.aload_n 0, 0, 0, 0, 0), (.getfield 109, 12, 47, 0, 0), (.iconst 2, 0, 0, 2, 0), (.iconst 3, 0, 0, 3, 0), (.iload_n 1, 0, 0, 0, 0), (.imul, 0, 0, 0, 0), (.iadd, 0, 0, 0, 0), (.iconst 2, 0, 0, 2, 0), (.iadd, 0, 0, 0, 0)] (by decide +kernel) rfl ?_
      refine Ev.iald (n := 147) (by decide +kernel) (by decide) rfl ?_
      refine Ev.run (pc' := 31) (ls' := [some (.ref 112), some (.int a1), some (.int a2)]) (st' := [.int a2, .int (m6.1 144 ((2 + (3 * a1)) + 2).toNatClampNeg)]) (m' := m6) [(.iload_n 2, 0, 0, 0, 0)] (by decide +kernel) rfl ?_
      refine Ev.ic_ne (t := 39) (by decide +kernel) ?_ ?_
      · refine Ev.run (pc' := 40) (ls' := [some (.ref 112), some (.int a1), some (.int a2)]) (st' := [.ref 112]) (m' := m6) [(.aload_n 0, 0, 0, 0, 0)] (by decide +kernel) rfl ?_
        refine Ev.cV (av := []) (st := []) (a := 112) (EX12_keeps (l := l) (Ln := Ln) (xs := xs) (d := 0) f m6 (by decide)) rfl (by decide +kernel) mwX12_keeps iwX12_keeps vwX12_keeps lk_12_532 (by omega) (by decide) rfl (by decide) rfl rfl (Nat.le_of_ble_eq_true rfl) (fun r7 m8 => ?_)
        refine Ev.run (pc' := 55) (ls' := [some (.ref 112), some (.int a1), some (.int a2)]) (st' := [.int a2, .int ((2 + (3 * a1)) + 2), .ref 144]) (m' := m8) [(.aload_n 0, 0, 0, 0, 0), (.getfield 109, 12, 47, 0, 0), (.iconst 2, 0, 0, 2, 0), (.iconst 3, 0, 0, 3, 0), (.iload_n 1, 0, 0, 0, 0), (.imul, 0, 0, 0, 0), (.iadd, 0, 0, 0, 0), (.iconst 2, 0, 0, 2, 0), (.iadd, 0, 0, 0, 0), (.iload_n 2, 0, 0, 0, 0)] (by decide +kernel) rfl ?_
        refine Ev.iast (n := 147) (by decide +kernel) (by decide) rfl ?_
        refine Ev.run (pc' := 57) (ls' := [some (.ref 112), some (.int a1), some (.int a2)]) (st' := [.int 1]) (m' := ((ev_up m8.1 144 ((2 + (3 * a1)) + 2).toNatClampNeg a2), m8.2)) [(.iconst 1, 0, 0, 1, 0)] (by decide +kernel) rfl ?_
        exact Ev.iretz rfl rfl (by decide +kernel) (by decide)
      · refine Ev.le (ls' := [some (.ref 112), none, none]) ⟨rfl, trivial⟩ ?_
        exact EX12_yes_J34 f m6 (by omega)
def FX12_change_J21 (f : Nat)     (m : ev_M) : Option (Int32 × ev_M) :=
  (ev_bd (FX12_isRefused f m) (fun r3 m4 => (if r3 = 0 ∨ r3 = 1 then some (r3, m4) else none)))
def FX12_change (f : Nat) (a1 : Int32) (a2 : Int32) (m : ev_M) : Option (Int32 × ev_M) :=
  (ev_bd (FX12_isTower f a1 m) (fun r1 m2 => (if r1 = 0 then (FX12_change_J21 f m2) else (ev_bd (FX12_isTower f a2 m2) (fun r5 m6 => (if r5 = 0 then (FX12_change_J21 f m6) else (if a1 = a2 then (FX12_change_J21 f m6) else (ev_bd (FX12_keeps f m6) (fun _ m8 => (ev_bd (FX12_changes f a1 a2 m8) (fun _ m10 => some (1, m10))))))))))))
set_option maxRecDepth 100000 in
set_option maxHeartbeats 4000000 in
theorem EX12_change_J21 {l : Launch} {Ln : Nat} {xs : Nat → Int32} {d : Nat} (f : Nat)     (m : ev_M)   (hd : 2 ≤ d) : Ev ev_eI l Ln xs YX12_change d Sx 21 [some (.ref 112), none, none] [] m (FX12_change_J21 f m) := by
  unfold FX12_change_J21
  refine Ev.run (pc' := 22) (ls' := [some (.ref 112), none, none]) (st' := [.ref 112]) (m' := m) [(.aload_n 0, 0, 0, 0, 0)] (by decide +kernel) rfl ?_
  refine Ev.cV (av := []) (st := []) (a := 112) (EX12_isRefused (l := l) (Ln := Ln) (xs := xs) (d := 0) f m (by decide)) rfl (by decide +kernel) mwX12_isRefused iwX12_isRefused vwX12_isRefused lk_12_529 (by omega) (by decide) rfl (by decide) rfl rfl (Nat.le_of_ble_eq_true rfl) (fun r3 m4 => ?_)
  exact Ev.iretb rfl rfl (by decide +kernel)
set_option maxRecDepth 100000 in
set_option maxHeartbeats 4000000 in
theorem EX12_change {l : Launch} {Ln : Nat} {xs : Nat → Int32} {d : Nat} (f : Nat) (a1 : Int32) (a2 : Int32) (m : ev_M)  (hd : 2 ≤ d) : Mv ev_eI l Ln xs YX12_change d Sx [.ref 112, .int a1, .int a2] m (FX12_change f a1 a2 m) := by
  refine Mv.of (by decide +kernel) rfl (Nat.le_of_ble_eq_true rfl) (Ev.le (ls' := [some (.ref 112), some (.int a1), some (.int a2)]) ⟨rfl, ⟨rfl, ⟨rfl, trivial⟩⟩⟩ ?_)
  unfold FX12_change
  refine Ev.run (pc' := 2) (ls' := [some (.ref 112), some (.int a1), some (.int a2)]) (st' := [.int a1, .ref 112]) (m' := m) [(.aload_n 0, 0, 0, 0, 0), (.iload_n 1, 0, 0, 0, 0)] (by decide +kernel) rfl ?_
  refine Ev.cV (av := [.int a1]) (st := []) (a := 112) (EX12_isTower (l := l) (Ln := Ln) (xs := xs) (d := 1) f a1 m (by decide)) rfl (by decide +kernel) mwX12_isTower iwX12_isTower vwX12_isTower lk_12_455 (by omega) (by decide) rfl (by decide) rfl rfl (Nat.le_of_ble_eq_true rfl) (fun r1 m2 => ?_)
  refine Ev.if_eq (t := 21) (by decide +kernel) ?_ ?_
  · refine Ev.le (ls' := [some (.ref 112), none, none]) ⟨rfl, trivial⟩ ?_
    exact EX12_change_J21 f m2 (by omega)
  · refine Ev.run (pc' := 10) (ls' := [some (.ref 112), some (.int a1), some (.int a2)]) (st' := [.int a2, .ref 112]) (m' := m2) [(.aload_n 0, 0, 0, 0, 0), (.iload_n 2, 0, 0, 0, 0)] (by decide +kernel) rfl ?_
    refine Ev.cV (av := [.int a2]) (st := []) (a := 112) (EX12_isTower (l := l) (Ln := Ln) (xs := xs) (d := 1) f a2 m2 (by decide)) rfl (by decide +kernel) mwX12_isTower iwX12_isTower vwX12_isTower lk_12_455 (by omega) (by decide) rfl (by decide) rfl rfl (Nat.le_of_ble_eq_true rfl) (fun r5 m6 => ?_)
    refine Ev.if_eq (t := 21) (by decide +kernel) ?_ ?_
    · refine Ev.le (ls' := [some (.ref 112), none, none]) ⟨rfl, trivial⟩ ?_
      exact EX12_change_J21 f m6 (by omega)
    · refine Ev.run (pc' := 18) (ls' := [some (.ref 112), some (.int a1), some (.int a2)]) (st' := [.int a2, .int a1]) (m' := m6) [(.iload_n 1, 0, 0, 0, 0), (.iload_n 2, 0, 0, 0, 0)] (by decide +kernel) rfl ?_
      refine Ev.ic_ne (t := 26) (by decide +kernel) ?_ ?_
      · refine Ev.run (pc' := 27) (ls' := [some (.ref 112), some (.int a1), some (.int a2)]) (st' := [.ref 112]) (m' := m6) [(.aload_n 0, 0, 0, 0, 0)] (by decide +kernel) rfl ?_
        refine Ev.cV (av := []) (st := []) (a := 112) (EX12_keeps (l := l) (Ln := Ln) (xs := xs) (d := 0) f m6 (by decide)) rfl (by decide +kernel) mwX12_keeps iwX12_keeps vwX12_keeps lk_12_532 (by omega) (by decide) rfl (by decide) rfl rfl (Nat.le_of_ble_eq_true rfl) (fun r7 m8 => ?_)
        refine Ev.run (pc' := 33) (ls' := [some (.ref 112), some (.int a1), some (.int a2)]) (st' := [.int a2, .int a1, .ref 112]) (m' := m8) [(.aload_n 0, 0, 0, 0, 0), (.iload_n 1, 0, 0, 0, 0), (.iload_n 2, 0, 0, 0, 0)] (by decide +kernel) rfl ?_
        refine Ev.cV (av := [.int a1, .int a2]) (st := []) (a := 112) (EX12_changes (l := l) (Ln := Ln) (xs := xs) (d := 0) f a1 a2 m8 (by decide)) rfl (by decide +kernel) mwX12_changes iwX12_changes vwX12_changes lk_12_503 (by omega) (by decide) rfl (by decide) rfl rfl (Nat.le_of_ble_eq_true rfl) (fun r9 m10 => ?_)
        refine Ev.run (pc' := 37) (ls' := [some (.ref 112), some (.int a1), some (.int a2)]) (st' := [.int 1]) (m' := m10) [(.iconst 1, 0, 0, 1, 0)] (by decide +kernel) rfl ?_
        exact Ev.iretz rfl rfl (by decide +kernel) (by decide)
      · refine Ev.le (ls' := [some (.ref 112), none, none]) ⟨rfl, trivial⟩ ?_
        exact EX12_change_J21 f m6 (by omega)
def FX12_seed (f : Nat) (a1 : Int32) (m : ev_M) : Option (Int32 × ev_M) :=
  (if 0 ≤ a1 then some (1, (m.1, (ev_up m.2 112 66 (a1 : Int32).toInt64))) else some (0, ((ev_up m.1 114 5 ((m.1 114 5) + 1)), m.2)))
set_option maxRecDepth 100000 in
set_option maxHeartbeats 4000000 in
theorem EX12_seed {l : Launch} {Ln : Nat} {xs : Nat → Int32} {d : Nat} (f : Nat) (a1 : Int32) (m : ev_M)  (hd : 0 ≤ d) : Mv ev_eI l Ln xs YX12_seed d Sx [.ref 112, .int a1] m (FX12_seed f a1 m) := by
  refine Mv.of (by decide +kernel) rfl (Nat.le_of_ble_eq_true rfl) (Ev.le (ls' := [some (.ref 112), some (.int a1)]) ⟨rfl, ⟨rfl, trivial⟩⟩ ?_)
  unfold FX12_seed
  refine Ev.run (pc' := 1) (ls' := [some (.ref 112), some (.int a1)]) (st' := [.int a1]) (m' := m) [(.iload_n 1, 0, 0, 0, 0)] (by decide +kernel) rfl ?_
  refine Ev.if_ge (t := 16) (by decide +kernel) ?_ ?_
  · refine Ev.run (pc' := 23) (ls' := [some (.ref 112), some (.int a1)]) (st' := [.int 1]) (m' := (m.1, (ev_up m.2 112 66 (a1 : Int32).toInt64))) [(.aload_n 0, 0, 0, 0, 0), (.iload_n 1, 0, 0, 0, 0), (.i2l, 0, 0, 0, 0), (.putfield 134, 12, 66, 0, 0), (.iconst 1, 0, 0, 1, 0)] (by decide +kernel) rfl ?_
    exact Ev.iretz rfl rfl (by decide +kernel) (by decide)
  · refine Ev.run (pc' := 10) (ls' := [some (.ref 112), some (.int a1)]) (st' := [.int 5, .ref 114, .int 5, .ref 114]) (m' := m) [(.aload_n 0, 0, 0, 0, 0), (.getfield 17, 12, 9, 0, 0), (.iconst 5, 0, 0, 5, 0), (.dup2, 0, 0, 0, 0)] (by decide +kernel) rfl ?_
    refine Ev.ialdK (n := 6) (j := 5) (by decide +kernel) (by decide) rfl rfl (by decide) ?_
    refine Ev.run (pc' := 13) (ls' := [some (.ref 112), some (.int a1)]) (st' := [.int ((m.1 114 5) + 1), .int 5, .ref 114]) (m' := m) [(.iconst 1, 0, 0, 1, 0), (.iadd, 0, 0, 0, 0)] (by decide +kernel) rfl ?_
    refine Ev.iastK (n := 6) (j := 5) (by decide +kernel) (by decide) rfl rfl (by decide) ?_
    refine Ev.run (pc' := 15) (ls' := [some (.ref 112), some (.int a1)]) (st' := [.int 0]) (m' := ((ev_up m.1 114 5 ((m.1 114 5) + 1)), m.2)) [(.iconst 0, 0, 0, 0, 0)] (by decide +kernel) rfl ?_
    exact Ev.iretz rfl rfl (by decide +kernel) (by decide)
def FX12_drawOf (f : Nat) (a1 : Int32) (m : ev_M) : Option (Int32 × ev_M) :=
  (if (a1 : Int32).toInt64 = 0 then none else some (((((((1103515245 * (m.2 112 66)) + 12345) - ((1103515245 * (m.2 112 66)) + 12345) / 2147483648 * 2147483648) / 64) - ((((1103515245 * (m.2 112 66)) + 12345) - ((1103515245 * (m.2 112 66)) + 12345) / 2147483648 * 2147483648) / 64) / (a1 : Int32).toInt64 * (a1 : Int32).toInt64) : Int64).toInt32, (m.1, (ev_up m.2 112 66 (((1103515245 * (m.2 112 66)) + 12345) - ((1103515245 * (m.2 112 66)) + 12345) / 2147483648 * 2147483648)))))
set_option maxRecDepth 100000 in
set_option maxHeartbeats 4000000 in
theorem EX12_drawOf {l : Launch} {Ln : Nat} {xs : Nat → Int32} {d : Nat} (f : Nat) (a1 : Int32) (m : ev_M)  (hd : 0 ≤ d) : Mv ev_eI l Ln xs YX12_drawOf d Sx [.ref 112, .int a1] m (FX12_drawOf f a1 m) := by
  refine Mv.of (by decide +kernel) rfl (Nat.le_of_ble_eq_true rfl) (Ev.le (ls' := [some (.ref 112), some (.int a1)]) ⟨rfl, ⟨rfl, trivial⟩⟩ ?_)
  unfold FX12_drawOf
  refine Ev.run (pc' := 16) (ls' := [some (.ref 112), some (.int a1)]) (st' := [.long 2147483648, .long ((1103515245 * (m.2 112 66)) + 12345), .ref 112]) (m' := m) [(.aload_n 0, 0, 0, 0, 0), (.ldc2_w 535, 0, 0, 0, 1103515245), (.aload_n 0, 0, 0, 0, 0), (.getfield 134, 12, 66, 0, 0), (.lmul, 0, 0, 0, 0), (.ldc2_w 537, 0, 0, 0, 12345), (.ladd, 0, 0, 0, 0), (.ldc2_w 539, 0, 0, 0, 2147483648)] (by decide +kernel) rfl ?_
  refine Ev.lrem' (by decide +kernel) (by decide) ?_
  refine Ev.run (pc' := 27) (ls' := [some (.ref 112), some (.int a1)]) (st' := [.long 64, .long (((1103515245 * (m.2 112 66)) + 12345) - ((1103515245 * (m.2 112 66)) + 12345) / 2147483648 * 2147483648)]) (m' := (m.1, (ev_up m.2 112 66 (((1103515245 * (m.2 112 66)) + 12345) - ((1103515245 * (m.2 112 66)) + 12345) / 2147483648 * 2147483648)))) [(.putfield 134, 12, 66, 0, 0), (.aload_n 0, 0, 0, 0, 0), (.getfield 134, 12, 66, 0, 0), (.ldc2_w 541, 0, 0, 0, 64)] (by decide +kernel) rfl ?_
  refine Ev.ldiv' (by decide +kernel) (by decide) ?_
  refine Ev.run (pc' := 30) (ls' := [some (.ref 112), some (.int a1)]) (st' := [.long (a1 : Int32).toInt64, .long ((((1103515245 * (m.2 112 66)) + 12345) - ((1103515245 * (m.2 112 66)) + 12345) / 2147483648 * 2147483648) / 64)]) (m' := (m.1, (ev_up m.2 112 66 (((1103515245 * (m.2 112 66)) + 12345) - ((1103515245 * (m.2 112 66)) + 12345) / 2147483648 * 2147483648)))) [(.iload_n 1, 0, 0, 0, 0), (.i2l, 0, 0, 0, 0)] (by decide +kernel) rfl ?_
  refine Ev.lrem (by decide +kernel) ?_
  refine Ev.run (pc' := 32) (ls' := [some (.ref 112), some (.int a1)]) (st' := [.int ((((((1103515245 * (m.2 112 66)) + 12345) - ((1103515245 * (m.2 112 66)) + 12345) / 2147483648 * 2147483648) / 64) - ((((1103515245 * (m.2 112 66)) + 12345) - ((1103515245 * (m.2 112 66)) + 12345) / 2147483648 * 2147483648) / 64) / (a1 : Int32).toInt64 * (a1 : Int32).toInt64) : Int64).toInt32]) (m' := (m.1, (ev_up m.2 112 66 (((1103515245 * (m.2 112 66)) + 12345) - ((1103515245 * (m.2 112 66)) + 12345) / 2147483648 * 2147483648)))) [(.l2i, 0, 0, 0, 0)] (by decide +kernel) rfl ?_
  exact Ev.ireti rfl rfl (by decide +kernel)
def FX12_toneIn (f : Nat) (a1 : Int32) (a2 : Int32) (m : ev_M) : Option (Int32 × ev_M) :=
  (if ev_in ((8 * a2) + a1) 248 then some ((m.1 152 ((8 * a2) + a1).toNatClampNeg), m) else none)
set_option maxRecDepth 100000 in
set_option maxHeartbeats 4000000 in
theorem EX12_toneIn {l : Launch} {Ln : Nat} {xs : Nat → Int32} {d : Nat} (f : Nat) (a1 : Int32) (a2 : Int32) (m : ev_M)  (hd : 0 ≤ d) : Mv ev_eI l Ln xs YX12_toneIn d Sx [.ref 112, .int a1, .int a2] m (FX12_toneIn f a1 a2 m) := by
  refine Mv.of (by decide +kernel) rfl (Nat.le_of_ble_eq_true rfl) (Ev.le (ls' := [some (.ref 112), some (.int a1), some (.int a2)]) ⟨rfl, ⟨rfl, ⟨rfl, trivial⟩⟩⟩ ?_)
  unfold FX12_toneIn
  refine Ev.run (pc' := 10) (ls' := [some (.ref 112), some (.int a1), some (.int a2)]) (st' := [.int ((8 * a2) + a1), .ref 152]) (m' := m) [(.aload_n 0, 0, 0, 0, 0), (.getfield 138, 12, 67, 0, 0), (.bipush 8, 0, 0, 8, 0), (.iload_n 2, 0, 0, 0, 0), (.imul, 0, 0, 0, 0), (.iload_n 1, 0, 0, 0, 0), (.iadd, 0, 0, 0, 0)] (by decide +kernel) rfl ?_
  refine Ev.iald (n := 248) (by decide +kernel) (by decide) rfl ?_
  exact Ev.ireti rfl rfl (by decide +kernel)
def FX12_qCode (f : Nat) (a1 : Int32) (m : ev_M) : Option (Unit × ev_M) :=
  (if ev_in (m.1 112 93) 1700 then some ((), ((ev_up (ev_up m.1 177 (m.1 112 93).toNatClampNeg a1) 112 93 ((m.1 112 93) + 1)), m.2)) else none)
set_option maxRecDepth 100000 in
set_option maxHeartbeats 4000000 in
theorem EX12_qCode {l : Launch} {Ln : Nat} {xs : Nat → Int32} {d : Nat} (f : Nat) (a1 : Int32) (m : ev_M)  (hd : 0 ≤ d) : Mv ev_eV l Ln xs YX12_qCode d Sx [.ref 112, .int a1] m (FX12_qCode f a1 m) := by
  refine Mv.of (by decide +kernel) rfl (Nat.le_of_ble_eq_true rfl) (Ev.le (ls' := [some (.ref 112), some (.int a1)]) ⟨rfl, ⟨rfl, trivial⟩⟩ ?_)
  unfold FX12_qCode
  refine Ev.run (pc' := 9) (ls' := [some (.ref 112), some (.int a1)]) (st' := [.int a1, .int (m.1 112 93), .ref 177]) (m' := m) [(.aload_n 0, 0, 0, 0, 0), (.getfield 213, 12, 92, 0, 0), (.aload_n 0, 0, 0, 0, 0), (.getfield 314, 12, 93, 0, 0), (.iload_n 1, 0, 0, 0, 0)] (by decide +kernel) rfl ?_
  refine Ev.iast (n := 1700) (by decide +kernel) (by decide) rfl ?_
  refine Ev.run (pc' := 20) (ls' := [some (.ref 112), some (.int a1)]) (st' := []) (m' := ((ev_up (ev_up m.1 177 (m.1 112 93).toNatClampNeg a1) 112 93 ((m.1 112 93) + 1)), m.2)) [(.aload_n 0, 0, 0, 0, 0), (.dup, 0, 0, 0, 0), (.getfield 314, 12, 93, 0, 0), (.iconst 1, 0, 0, 1, 0), (.iadd, 0, 0, 0, 0), (.putfield 314, 12, 93, 0, 0)] (by decide +kernel) rfl ?_
  exact Ev.retv rfl rfl (by decide +kernel)
