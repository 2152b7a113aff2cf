def FX12_isIn (f : Nat) (a0 : Int64) (a2 : Int64) (a4 : Int64) (m : ev_M) : Option (Int32 × ev_M) :=
  (if (lg_cmp a0 a2) < 0 then some (0, m) else (if 0 < (lg_cmp a0 a4) then some (0, m) else some (1, m)))
set_option maxRecDepth 100000 in
set_option maxHeartbeats 4000000 in
theorem EX12_isIn {l : Launch} {Ln : Nat} {xs : Nat → Int32} {d : Nat} (f : Nat) (a0 : Int64) (a2 : Int64) (a4 : Int64) (m : ev_M)  (hd : 0 ≤ d) : Mv ev_eI l Ln xs YX12_isIn d Sx [.long a0, .long a2, .long a4] m (FX12_isIn f a0 a2 a4 m) := by
  refine Mv.of (by decide +kernel) rfl (Nat.le_of_ble_eq_true rfl) (Ev.le (ls' := [some (.long a0), none, some (.long a2), none, some (.long a4), none]) ⟨rfl, ⟨rfl, ⟨rfl, trivial⟩⟩⟩ ?_)
  unfold FX12_isIn
  refine Ev.run (pc' := 3) (ls' := [some (.long a0), none, some (.long a2), none, some (.long a4), none]) (st' := [.int (lg_cmp a0 a2)]) (m' := m) [(.lload_n 0, 0, 0, 0, 0), (.lload_n 2, 0, 0, 0, 0), (.lcmp, 0, 0, 0, 0)] (by decide +kernel) rfl ?_
  refine Ev.if_lt (t := 17) (by decide +kernel) ?_ ?_
  · refine Ev.run (pc' := 18) (ls' := [some (.long a0), none, some (.long a2), none, some (.long a4), none]) (st' := [.int 0]) (m' := m) [(.iconst 0, 0, 0, 0, 0)] (by decide +kernel) rfl ?_
    exact Ev.iretz rfl rfl (by decide +kernel) (by decide)
  · refine Ev.run (pc' := 10) (ls' := [some (.long a0), none, some (.long a2), none, some (.long a4), none]) (st' := [.int (lg_cmp a0 a4)]) (m' := m) [(.lload_n 0, 0, 0, 0, 0), (.lload 4, 0, 0, 0, 0), (.lcmp, 0, 0, 0, 0)] (by decide +kernel) rfl ?_
    refine Ev.if_gt (t := 17) (by decide +kernel) ?_ ?_
    · refine Ev.run (pc' := 18) (ls' := [some (.long a0), none, some (.long a2), none, some (.long a4), none]) (st' := [.int 0]) (m' := m) [(.iconst 0, 0, 0, 0, 0)] (by decide +kernel) rfl ?_
      exact Ev.iretz rfl rfl (by decide +kernel) (by decide)
    · refine Ev.run (pc' := 14) (ls' := [some (.long a0), none, some (.long a2), none, some (.long a4), none]) (st' := [.int 1]) (m' := m) [(.iconst 1, 0, 0, 1, 0)] (by decide +kernel) rfl ?_
      refine Ev.gto (t := 18) (by decide +kernel) ?_
      exact Ev.iretz rfl rfl (by decide +kernel) (by decide)
def FX12_feed_J81 (f : Nat) (kt28 : Int32 → ev_M → Option (Int32 × ev_M))  (a6 : Int32) (s0 : Int32) (m : ev_M) : Option (Int32 × ev_M) :=
  (if ev_in (m.1 112 1) 1600 then (kt28 (a6 + 1) ((ev_up (ev_up m.1 113 (m.1 112 1).toNatClampNeg ((s0 >>> ((8 * (3 - (a6 - a6 / 4 * 4))) &&& 31)) &&& 255)) 112 1 ((m.1 112 1) + 1)), m.2)) else none)
def FX12_feed_L28 (f : Nat) (k : ev_M → Option (Int32 × ev_M))  (a1 : Int32) (a2 : Int32) (a3 : Int32) (a4 : Int32) (a5 : Int32) : Nat → Int32 → ev_M → Option (Int32 × ev_M)
  | 0, _, _ => none
  | n + 1, a6, m => (if 20 ≤ a6 then (k m) else (if 4 ≤ a6 then (if 8 ≤ a6 then (if 12 ≤ a6 then (if 16 ≤ a6 then (FX12_feed_J81 f (FX12_feed_L28 f k a1 a2 a3 a4 a5 n) a6 a5 m) else (FX12_feed_J81 f (FX12_feed_L28 f k a1 a2 a3 a4 a5 n) a6 a4 m)) else (FX12_feed_J81 f (FX12_feed_L28 f k a1 a2 a3 a4 a5 n) a6 a3 m)) else (FX12_feed_J81 f (FX12_feed_L28 f k a1 a2 a3 a4 a5 n) a6 a2 m)) else (FX12_feed_J81 f (FX12_feed_L28 f k a1 a2 a3 a4 a5 n) a6 a1 m)))
def FX12_feed (f : Nat) (a1 : Int32) (a2 : Int32) (a3 : Int32) (a4 : Int32) (a5 : Int32) (m : ev_M) : Option (Int32 × ev_M) :=
  (if ((m.1 112 1) + 20) ≤ 1600 then (FX12_feed_L28 f (fun m1 => some ((m1.1 112 1), m1)) a1 a2 a3 a4 a5 f (0 : Int32) m) else some ((-1), ((ev_up m.1 114 0 ((m.1 114 0) + 1)), m.2)))
set_option maxRecDepth 100000 in
set_option maxHeartbeats 4000000 in
theorem EX12_feed_J81 {l : Launch} {Ln : Nat} {xs : Nat → Int32} {d : Nat} (f : Nat) (kt28 : Int32 → ev_M → Option (Int32 × ev_M))  (a1 : Int32) (a2 : Int32) (a3 : Int32) (a4 : Int32) (a5 : Int32) (a6 : Int32) (s0 : Int32) (m : ev_M)  (hkt28 : ∀ (e6 : Int32) (em : ev_M), Ev ev_eI l Ln xs YX12_feed d Sx 28 [some (.ref 112), some (.int a1), some (.int a2), some (.int a3), some (.int a4), some (.int a5), some (.int e6), none] [] em (kt28 e6 em)) (hd : 0 ≤ d) : Ev ev_eI l Ln xs YX12_feed d Sx 81 [some (.ref 112), some (.int a1), some (.int a2), some (.int a3), some (.int a4), some (.int a5), some (.int a6), none] [.int s0] m (FX12_feed_J81 f kt28 a6 s0 m) := by
  unfold FX12_feed_J81
  refine Ev.run (pc' := 99) (ls' := [some (.ref 112), some (.int a1), some (.int a2), some (.int a3), some (.int a4), some (.int a5), some (.int a6), some (.int s0)]) (st' := [.int 4, .int a6, .int 3, .int 8, .int s0, .int (m.1 112 1), .ref 113]) (m' := m) [(.istore 7, 0, 0, 0, 0), (.aload_n 0, 0, 0, 0, 0), (.getfield 7, 12, 0, 0, 0), (.aload_n 0, 0, 0, 0, 0), (.getfield 225, 12, 1, 0, 0), (.iload 7, 0, 0, 0, 0), (.bipush 8, 0, 0, 8, 0), (.iconst 3, 0, 0, 3, 0), (.iload 6, 0, 0, 0, 0), (.iconst 4, 0, 0, 4, 0)] (by decide +kernel) rfl ?_
  refine Ev.irem' (by decide +kernel) (by decide) ?_
  refine Ev.run (pc' := 107) (ls' := [some (.ref 112), some (.int a1), some (.int a2), some (.int a3), some (.int a4), some (.int a5), some (.int a6), some (.int s0)]) (st' := [.int ((s0 >>> ((8 * (3 - (a6 - a6 / 4 * 4))) &&& 31)) &&& 255), .int (m.1 112 1), .ref 113]) (m' := m) [(.isub, 0, 0, 0, 0), (.imul, 0, 0, 0, 0), (.ishr, 0, 0, 0, 0), (.sipush 255, 0, 0, 255, 0), (.iand, 0, 0, 0, 0)] (by decide +kernel) rfl ?_
  refine Ev.iast (n := 1600) (by decide +kernel) (by decide) rfl ?_
  refine Ev.run (pc' := 121) (ls' := [some (.ref 112), some (.int a1), some (.int a2), some (.int a3), some (.int a4), some (.int a5), some (.int (a6 + 1)), some (.int s0)]) (st' := []) (m' := ((ev_up (ev_up m.1 113 (m.1 112 1).toNatClampNeg ((s0 >>> ((8 * (3 - (a6 - a6 / 4 * 4))) &&& 31)) &&& 255)) 112 1 ((m.1 112 1) + 1)), m.2)) [(.aload_n 0, 0, 0, 0, 0), (.dup, 0, 0, 0, 0), (.getfield 225, 12, 1, 0, 0), (.iconst 1, 0, 0, 1, 0), (.iadd, 0, 0, 0, 0), (.putfield 225, 12, 1, 0, 0), (.iinc 6 1, 0, 0, 1, 0)] (by decide +kernel) rfl ?_
  refine Ev.gto (t := 28) (by decide +kernel) ?_
  refine Ev.le (ls' := [some (.ref 112), some (.int a1), some (.int a2), some (.int a3), some (.int a4), some (.int a5), some (.int (a6 + 1)), none]) ⟨rfl, ⟨rfl, ⟨rfl, ⟨rfl, ⟨rfl, ⟨rfl, ⟨rfl, trivial⟩⟩⟩⟩⟩⟩⟩ ?_
  exact hkt28 _ _
set_option maxRecDepth 100000 in
set_option maxHeartbeats 4000000 in
theorem EX12_feed_L28 {l : Launch} {Ln : Nat} {xs : Nat → Int32} {d : Nat} (f : Nat) (k : ev_M → Option (Int32 × ev_M))  (a1 : Int32) (a2 : Int32) (a3 : Int32) (a4 : Int32) (a5 : Int32)   (hk : ∀  (em : ev_M), Ev ev_eI l Ln xs YX12_feed d Sx 124 [some (.ref 112), none, none, none, none, none, none, none] [] em (k em)) (hd : 0 ≤ d) : ∀ (n : Nat) (a6 : Int32) (m : ev_M), Ev ev_eI l Ln xs YX12_feed d Sx 28 [some (.ref 112), some (.int a1), some (.int a2), some (.int a3), some (.int a4), some (.int a5), some (.int a6), none] [] m (FX12_feed_L28 f k a1 a2 a3 a4 a5 n a6 m) := by
  intro n
  induction n with
  | zero => intros; exact Ev.nn
  | succ n ih =>
    intro a6 m
    rw [FX12_feed_L28]
    refine Ev.run (pc' := 32) (ls' := [some (.ref 112), some (.int a1), some (.int a2), some (.int a3), some (.int a4), some (.int a5), some (.int a6), none]) (st' := [.int 20, .int a6]) (m' := m) [(.iload 6, 0, 0, 0, 0), (.bipush 20, 0, 0, 20, 0)] (by decide +kernel) rfl ?_
    refine Ev.ic_ge (t := 124) (by decide +kernel) ?_ ?_
    · refine Ev.le (ls' := [some (.ref 112), none, none, none, none, none, none, none]) ⟨rfl, trivial⟩ ?_
      exact hk _
    · refine Ev.run (pc' := 38) (ls' := [some (.ref 112), some (.int a1), some (.int a2), some (.int a3), some (.int a4), some (.int a5), some (.int a6), none]) (st' := [.int 4, .int a6]) (m' := m) [(.iload 6, 0, 0, 0, 0), (.iconst 4, 0, 0, 4, 0)] (by decide +kernel) rfl ?_
      refine Ev.ic_ge (t := 45) (by decide +kernel) ?_ ?_
      · refine Ev.run (pc' := 49) (ls' := [some (.ref 112), some (.int a1), some (.int a2), some (.int a3), some (.int a4), some (.int a5), some (.int a6), none]) (st' := [.int 8, .int a6]) (m' := m) [(.iload 6, 0, 0, 0, 0), (.bipush 8, 0, 0, 8, 0)] (by decide +kernel) rfl ?_
        refine Ev.ic_ge (t := 56) (by decide +kernel) ?_ ?_
        · refine Ev.run (pc' := 60) (ls' := [some (.ref 112), some (.int a1), some (.int a2), some (.int a3), some (.int a4), some (.int a5), some (.int a6), none]) (st' := [.int 12, .int a6]) (m' := m) [(.iload 6, 0, 0, 0, 0), (.bipush 12, 0, 0, 12, 0)] (by decide +kernel) rfl ?_
          refine Ev.ic_ge (t := 67) (by decide +kernel) ?_ ?_
          · refine Ev.run (pc' := 71) (ls' := [some (.ref 112), some (.int a1), some (.int a2), some (.int a3), some (.int a4), some (.int a5), some (.int a6), none]) (st' := [.int 16, .int a6]) (m' := m) [(.iload 6, 0, 0, 0, 0), (.bipush 16, 0, 0, 16, 0)] (by decide +kernel) rfl ?_
            refine Ev.ic_ge (t := 79) (by decide +kernel) ?_ ?_
            · refine Ev.run (pc' := 81) (ls' := [some (.ref 112), some (.int a1), some (.int a2), some (.int a3), some (.int a4), some (.int a5), some (.int a6), none]) (st' := [.int a5]) (m' := m) [(.iload 5, 0, 0, 0, 0)] (by decide +kernel) rfl ?_
              exact EX12_feed_J81 f (FX12_feed_L28 f k a1 a2 a3 a4 a5 n) a1 a2 a3 a4 a5 a6 a5 m ih (by omega)
            · refine Ev.run (pc' := 76) (ls' := [some (.ref 112), some (.int a1), some (.int a2), some (.int a3), some (.int a4), some (.int a5), some (.int a6), none]) (st' := [.int a4]) (m' := m) [(.iload 4, 0, 0, 0, 0)] (by decide +kernel) rfl ?_
              refine Ev.gto (t := 81) (by decide +kernel) ?_
              exact EX12_feed_J81 f (FX12_feed_L28 f k a1 a2 a3 a4 a5 n) a1 a2 a3 a4 a5 a6 a4 m ih (by omega)
          · refine Ev.run (pc' := 64) (ls' := [some (.ref 112), some (.int a1), some (.int a2), some (.int a3), some (.int a4), some (.int a5), some (.int a6), none]) (st' := [.int a3]) (m' := m) [(.iload_n 3, 0, 0, 0, 0)] (by decide +kernel) rfl ?_
            refine Ev.gto (t := 81) (by decide +kernel) ?_
            exact EX12_feed_J81 f (FX12_feed_L28 f k a1 a2 a3 a4 a5 n) a1 a2 a3 a4 a5 a6 a3 m ih (by omega)
        · refine Ev.run (pc' := 53) (ls' := [some (.ref 112), some (.int a1), some (.int a2), some (.int a3), some (.int a4), some (.int a5), some (.int a6), none]) (st' := [.int a2]) (m' := m) [(.iload_n 2, 0, 0, 0, 0)] (by decide +kernel) rfl ?_
          refine Ev.gto (t := 81) (by decide +kernel) ?_
          exact EX12_feed_J81 f (FX12_feed_L28 f k a1 a2 a3 a4 a5 n) a1 a2 a3 a4 a5 a6 a2 m ih (by omega)
      · refine Ev.run (pc' := 42) (ls' := [some (.ref 112), some (.int a1), some (.int a2), some (.int a3), some (.int a4), some (.int a5), some (.int a6), none]) (st' := [.int a1]) (m' := m) [(.iload_n 1, 0, 0, 0, 0)] (by decide +kernel) rfl ?_
        refine Ev.gto (t := 81) (by decide +kernel) ?_
        exact EX12_feed_J81 f (FX12_feed_L28 f k a1 a2 a3 a4 a5 n) a1 a2 a3 a4 a5 a6 a1 m ih (by omega)
set_option maxRecDepth 100000 in
set_option maxHeartbeats 4000000 in
theorem EX12_feed {l : Launch} {Ln : Nat} {xs : Nat → Int32} {d : Nat} (f : Nat) (a1 : Int32) (a2 : Int32) (a3 : Int32) (a4 : Int32) (a5 : Int32) (m : ev_M)  (hd : 0 ≤ d) : Mv ev_eI l Ln xs YX12_feed d Sx [.ref 112, .int a1, .int a2, .int a3, .int a4, .int a5] m (FX12_feed f a1 a2 a3 a4 a5 m) := by
  refine Mv.of (by decide +kernel) rfl (Nat.le_of_ble_eq_true rfl) (Ev.le (ls' := [some (.ref 112), some (.int a1), some (.int a2), some (.int a3), some (.int a4), some (.int a5), none, none]) ⟨rfl, ⟨rfl, ⟨rfl, ⟨rfl, ⟨rfl, ⟨rfl, trivial⟩⟩⟩⟩⟩⟩ ?_)
  unfold FX12_feed
  refine Ev.run (pc' := 10) (ls' := [some (.ref 112), some (.int a1), some (.int a2), some (.int a3), some (.int a4), some (.int a5), none, none]) (st' := [.int 1600, .int ((m.1 112 1) + 20)]) (m' := m) [(.aload_n 0, 0, 0, 0, 0), (.getfield 225, 12, 1, 0, 0), (.bipush 20, 0, 0, 20, 0), (.iadd, 0, 0, 0, 0), (.sipush 1600, 0, 0, 1600, 0)] (by decide +kernel) rfl ?_
  refine Ev.ic_le (t := 25) (by decide +kernel) ?_ ?_
  · refine Ev.run (pc' := 28) (ls' := [some (.ref 112), some (.int a1), some (.int a2), some (.int a3), some (.int a4), some (.int a5), some (.int 0), none]) (st' := []) (m' := m) [(.iconst 0, 0, 0, 0, 0), (.istore 6, 0, 0, 0, 0)] (by decide +kernel) rfl ?_
    refine EX12_feed_L28 f _ a1 a2 a3 a4 a5 ?_ (by omega) _ _ _
    intro m1
    refine Ev.run (pc' := 128) (ls' := [some (.ref 112), none, none, none, none, none, none, none]) (st' := [.int (m1.1 112 1)]) (m' := m1) [(.aload_n 0, 0, 0, 0, 0), (.getfield 225, 12, 1, 0, 0)] (by decide +kernel) rfl ?_
    exact Ev.ireti rfl rfl (by decide +kernel)
  · refine Ev.run (pc' := 19) (ls' := [some (.ref 112), some (.int a1), some (.int a2), some (.int a3), some (.int a4), some (.int a5), none, none]) (st' := [.int 0, .ref 114, .int 0, .ref 114]) (m' := m) [(.aload_n 0, 0, 0, 0, 0), (.getfield 17, 12, 9, 0, 0), (.iconst 0, 0, 0, 0, 0), (.dup2, 0, 0, 0, 0)] (by decide +kernel) rfl ?_
    refine Ev.ialdK (n := 6) (j := 0) (by decide +kernel) (by decide) rfl rfl (by decide) ?_
    refine Ev.run (pc' := 22) (ls' := [some (.ref 112), some (.int a1), some (.int a2), some (.int a3), some (.int a4), some (.int a5), none, none]) (st' := [.int ((m.1 114 0) + 1), .int 0, .ref 114]) (m' := m) [(.iconst 1, 0, 0, 1, 0), (.iadd, 0, 0, 0, 0)] (by decide +kernel) rfl ?_
    refine Ev.iastK (n := 6) (j := 0) (by decide +kernel) (by decide) rfl rfl (by decide) ?_
    refine Ev.run (pc' := 24) (ls' := [some (.ref 112), some (.int a1), some (.int a2), some (.int a3), some (.int a4), some (.int a5), none, none]) (st' := [.int (-1)]) (m' := ((ev_up m.1 114 0 ((m.1 114 0) + 1)), m.2)) [(.iconst (-1), 0, 0, (-1), 0)] (by decide +kernel) rfl ?_
    exact Ev.ireti rfl rfl (by decide +kernel)
def FX12_end (f : Nat) (a1 : Int32) (m : ev_M) : Option (Int32 × ev_M) :=
  (if a1 < 0 then some (0, ((ev_up m.1 114 0 ((m.1 114 0) + 1)), m.2)) else (if a1 ≤ (m.1 112 1) then some (1, ((ev_up m.1 112 1 a1), m.2)) else some (0, ((ev_up m.1 114 0 ((m.1 114 0) + 1)), m.2))))
set_option maxRecDepth 100000 in
set_option maxHeartbeats 4000000 in
theorem EX12_end {l : Launch} {Ln : Nat} {xs : Nat → Int32} {d : Nat} (f : Nat) (a1 : Int32) (m : ev_M)  (hd : 0 ≤ d) : Mv ev_eI l Ln xs YX12_end d Sx [.ref 112, .int a1] m (FX12_end f a1 m) := by
  refine Mv.of (by decide +kernel) rfl (Nat.le_of_ble_eq_true rfl) (Ev.le (ls' := [some (.ref 112), some (.int a1)]) ⟨rfl, ⟨rfl, trivial⟩⟩ ?_)
  unfold FX12_end
  refine Ev.run (pc' := 1) (ls' := [some (.ref 112), some (.int a1)]) (st' := [.int a1]) (m' := m) [(.iload_n 1, 0, 0, 0, 0)] (by decide +kernel) rfl ?_
  refine Ev.if_lt (t := 12) (by decide +kernel) ?_ ?_
  · refine Ev.run (pc' := 18) (ls' := [some (.ref 112), some (.int a1)]) (st' := [.int 0, .ref 114, .int 0, .ref 114]) (m' := m) [(.aload_n 0, 0, 0, 0, 0), (.getfield 17, 12, 9, 0, 0), (.iconst 0, 0, 0, 0, 0), (.dup2, 0, 0, 0, 0)] (by decide +kernel) rfl ?_
    refine Ev.ialdK (n := 6) (j := 0) (by decide +kernel) (by decide) rfl rfl (by decide) ?_
    refine Ev.run (pc' := 21) (ls' := [some (.ref 112), some (.int a1)]) (st' := [.int ((m.1 114 0) + 1), .int 0, .ref 114]) (m' := m) [(.iconst 1, 0, 0, 1, 0), (.iadd, 0, 0, 0, 0)] (by decide +kernel) rfl ?_
    refine Ev.iastK (n := 6) (j := 0) (by decide +kernel) (by decide) rfl rfl (by decide) ?_
    refine Ev.run (pc' := 23) (ls' := [some (.ref 112), some (.int a1)]) (st' := [.int 0]) (m' := ((ev_up m.1 114 0 ((m.1 114 0) + 1)), m.2)) [(.iconst 0, 0, 0, 0, 0)] (by decide +kernel) rfl ?_
    exact Ev.iretz rfl rfl (by decide +kernel) (by decide)
  · refine Ev.run (pc' := 9) (ls' := [some (.ref 112), some (.int a1)]) (st' := [.int (m.1 112 1), .int a1]) (m' := m) [(.iload_n 1, 0, 0, 0, 0), (.aload_n 0, 0, 0, 0, 0), (.getfield 225, 12, 1, 0, 0)] (by decide +kernel) rfl ?_
    refine Ev.ic_le (t := 24) (by decide +kernel) ?_ ?_
    · refine Ev.run (pc' := 30) (ls' := [some (.ref 112), some (.int a1)]) (st' := [.int 1]) (m' := ((ev_up m.1 112 1 a1), m.2)) [(.aload_n 0, 0, 0, 0, 0), (.iload_n 1, 0, 0, 0, 0), (.putfield 225, 12, 1, 0, 0), (.iconst 1, 0, 0, 1, 0)] (by decide +kernel) rfl ?_
      exact Ev.iretz rfl rfl (by decide +kernel) (by decide)
    · refine Ev.run (pc' := 18) (ls' := [some (.ref 112), some (.int a1)]) (st' := [.int 0, .ref 114, .int 0, .ref 114]) (m' := m) [(.aload_n 0, 0, 0, 0, 0), (.getfield 17, 12, 9, 0, 0), (.iconst 0, 0, 0, 0, 0), (.dup2, 0, 0, 0, 0)] (by decide +kernel) rfl ?_
      refine Ev.ialdK (n := 6) (j := 0) (by decide +kernel) (by decide) rfl rfl (by decide) ?_
      refine Ev.run (pc' := 21) (ls' := [some (.ref 112), some (.int a1)]) (st' := [.int ((m.1 114 0) + 1), .int 0, .ref 114]) (m' := m) [(.iconst 1, 0, 0, 1, 0), (.iadd, 0, 0, 0, 0)] (by decide +kernel) rfl ?_
      refine Ev.iastK (n := 6) (j := 0) (by decide +kernel) (by decide) rfl rfl (by decide) ?_
      refine Ev.run (pc' := 23) (ls' := [some (.ref 112), some (.int a1)]) (st' := [.int 0]) (m' := ((ev_up m.1 114 0 ((m.1 114 0) + 1)), m.2)) [(.iconst 0, 0, 0, 0, 0)] (by decide +kernel) rfl ?_
      exact Ev.iretz rfl rfl (by decide +kernel) (by decide)
def FX12_fail (f : Nat) (a1 : Int32) (a2 : Int32) (m : ev_M) : Option (Unit × ev_M) :=
  (if (m.1 112 5) = 0 then some ((), ((ev_up (ev_up m.1 112 5 a1) 112 6 a2), m.2)) else some ((), m))
set_option maxRecDepth 100000 in
set_option maxHeartbeats 4000000 in
theorem EX12_fail {l : Launch} {Ln : Nat} {xs : Nat → Int32} {d : Nat} (f : Nat) (a1 : Int32) (a2 : Int32) (m : ev_M)  (hd : 0 ≤ d) : Mv ev_eV l Ln xs YX12_fail d Sx [.ref 112, .int a1, .int a2] m (FX12_fail f a1 a2 m) := by
  refine Mv.of (by decide +kernel) rfl (Nat.le_of_ble_eq_true rfl) (Ev.le (ls' := [some (.ref 112), some (.int a1), some (.int a2)]) ⟨rfl, ⟨rfl, ⟨rfl, trivial⟩⟩⟩ ?_)
  unfold FX12_fail
  refine Ev.run (pc' := 4) (ls' := [some (.ref 112), some (.int a1), some (.int a2)]) (st' := [.int (m.1 112 5)]) (m' := m) [(.aload_n 0, 0, 0, 0, 0), (.getfield 228, 12, 5, 0, 0)] (by decide +kernel) rfl ?_
  refine Ev.if_eq (t := 8) (by decide +kernel) ?_ ?_
  · refine Ev.run (pc' := 18) (ls' := [some (.ref 112), some (.int a1), some (.int a2)]) (st' := []) (m' := ((ev_up (ev_up m.1 112 5 a1) 112 6 a2), m.2)) [(.aload_n 0, 0, 0, 0, 0), (.iload_n 1, 0, 0, 0, 0), (.putfield 228, 12, 5, 0, 0), (.aload_n 0, 0, 0, 0, 0), (.iload_n 2, 0, 0, 0, 0), (.putfield 231, 12, 6, 0, 0)] (by decide +kernel) rfl ?_
    exact Ev.retv rfl rfl (by decide +kernel)
  · exact Ev.retv rfl rfl (by decide +kernel)
def FX12_isLetter (f : Nat) (a0 : Int32) (m : ev_M) : Option (Int32 × ev_M) :=
  (if a0 < 97 then some (0, m) else (if 122 < a0 then some (0, m) else some (1, m)))
set_option maxRecDepth 100000 in
set_option maxHeartbeats 4000000 in
theorem EX12_isLetter {l : Launch} {Ln : Nat} {xs : Nat → Int32} {d : Nat} (f : Nat) (a0 : Int32) (m : ev_M)  (hd : 0 ≤ d) : Mv ev_eI l Ln xs YX12_isLetter d Sx [.int a0] m (FX12_isLetter f a0 m) := by
  refine Mv.of (by decide +kernel) rfl (Nat.le_of_ble_eq_true rfl) (Ev.le (ls' := [some (.int a0)]) ⟨rfl, trivial⟩ ?_)
  unfold FX12_isLetter
  refine Ev.run (pc' := 3) (ls' := [some (.int a0)]) (st' := [.int 97, .int a0]) (m' := m) [(.iload_n 0, 0, 0, 0, 0), (.bipush 97, 0, 0, 97, 0)] (by decide +kernel) rfl ?_
  refine Ev.ic_lt (t := 16) (by decide +kernel) ?_ ?_
  · refine Ev.run (pc' := 17) (ls' := [some (.int a0)]) (st' := [.int 0]) (m' := m) [(.iconst 0, 0, 0, 0, 0)] (by decide +kernel) rfl ?_
    exact Ev.iretz rfl rfl (by decide +kernel) (by decide)
  · refine Ev.run (pc' := 9) (ls' := [some (.int a0)]) (st' := [.int 122, .int a0]) (m' := m) [(.iload_n 0, 0, 0, 0, 0), (.bipush 122, 0, 0, 122, 0)] (by decide +kernel) rfl ?_
    refine Ev.ic_gt (t := 16) (by decide +kernel) ?_ ?_
    · refine Ev.run (pc' := 17) (ls' := [some (.int a0)]) (st' := [.int 0]) (m' := m) [(.iconst 0, 0, 0, 0, 0)] (by decide +kernel) rfl ?_
      exact Ev.iretz rfl rfl (by decide +kernel) (by decide)
    · refine Ev.run (pc' := 13) (ls' := [some (.int a0)]) (st' := [.int 1]) (m' := m) [(.iconst 1, 0, 0, 1, 0)] (by decide +kernel) rfl ?_
      refine Ev.gto (t := 17) (by decide +kernel) ?_
      exact Ev.iretz rfl rfl (by decide +kernel) (by decide)
def FX12_isDigit (f : Nat) (a0 : Int32) (m : ev_M) : Option (Int32 × ev_M) :=
  (if a0 < 48 then some (0, m) else (if 57 < a0 then some (0, m) else some (1, m)))
set_option maxRecDepth 100000 in
set_option maxHeartbeats 4000000 in
theorem EX12_isDigit {l : Launch} {Ln : Nat} {xs : Nat → Int32} {d : Nat} (f : Nat) (a0 : Int32) (m : ev_M)  (hd : 0 ≤ d) : Mv ev_eI l Ln xs YX12_isDigit d Sx [.int a0] m (FX12_isDigit f a0 m) := by
  refine Mv.of (by decide +kernel) rfl (Nat.le_of_ble_eq_true rfl) (Ev.le (ls' := [some (.int a0)]) ⟨rfl, trivial⟩ ?_)
  unfold FX12_isDigit
  refine Ev.run (pc' := 3) (ls' := [some (.int a0)]) (st' := [.int 48, .int a0]) (m' := m) [(.iload_n 0, 0, 0, 0, 0), (.bipush 48, 0, 0, 48, 0)] (by decide +kernel) rfl ?_
  refine Ev.ic_lt (t := 16) (by decide +kernel) ?_ ?_
  · refine Ev.run (pc' := 17) (ls' := [some (.int a0)]) (st' := [.int 0]) (m' := m) [(.iconst 0, 0, 0, 0, 0)] (by decide +kernel) rfl ?_
    exact Ev.iretz rfl rfl (by decide +kernel) (by decide)
  · refine Ev.run (pc' := 9) (ls' := [some (.int a0)]) (st' := [.int 57, .int a0]) (m' := m) [(.iload_n 0, 0, 0, 0, 0), (.bipush 57, 0, 0, 57, 0)] (by decide +kernel) rfl ?_
    refine Ev.ic_gt (t := 16) (by decide +kernel) ?_ ?_
    · refine Ev.run (pc' := 17) (ls' := [some (.int a0)]) (st' := [.int 0]) (m' := m) [(.iconst 0, 0, 0, 0, 0)] (by decide +kernel) rfl ?_
      exact Ev.iretz rfl rfl (by decide +kernel) (by decide)
    · refine Ev.run (pc' := 13) (ls' := [some (.int a0)]) (st' := [.int 1]) (m' := m) [(.iconst 1, 0, 0, 1, 0)] (by decide +kernel) rfl ?_
      refine Ev.gto (t := 17) (by decide +kernel) ?_
      exact Ev.iretz rfl rfl (by decide +kernel) (by decide)
def FX12_look_J39 (f : Nat) (kt0 : ev_M → Option (Int32 × ev_M))    (m : ev_M) : Option (Int32 × ev_M) :=
  (kt0 ((ev_up m.1 112 2 ((m.1 112 2) + 1)), m.2))
def FX12_look_L0 (f : Nat) (k : ev_M → Option (Int32 × ev_M))   : Nat → ev_M → Option (Int32 × ev_M)
  | 0, _ => none
  | n + 1, m => (if (m.1 112 3) ≤ (m.1 112 2) then (k m) else (if ev_in (m.1 112 2) 1600 then (if (m.1 113 (m.1 112 2).toNatClampNeg) = 10 then (FX12_look_J39 f (FX12_look_L0 f k n) m) else (if ev_in (m.1 112 2) 1600 then (if (m.1 113 (m.1 112 2).toNatClampNeg) = 32 then (FX12_look_J39 f (FX12_look_L0 f k n) m) else (k m)) else none)) else none))
def FX12_look (f : Nat)  (m : ev_M) : Option (Int32 × ev_M) :=
  (FX12_look_L0 f (fun m1 => (if (m1.1 112 3) ≤ (m1.1 112 2) then some ((-1), m1) else (if ev_in (m1.1 112 2) 1600 then some ((m1.1 113 (m1.1 112 2).toNatClampNeg), m1) else none))) f m)
set_option maxRecDepth 100000 in
set_option maxHeartbeats 4000000 in
theorem EX12_look_J39 {l : Launch} {Ln : Nat} {xs : Nat → Int32} {d : Nat} (f : Nat) (kt0 : ev_M → Option (Int32 × ev_M))    (m : ev_M)  (hkt0 : ∀  (em : ev_M), Ev ev_eI l Ln xs YX12_look d Sx 0 [some (.ref 112)] [] em (kt0 em)) (hd : 0 ≤ d) : Ev ev_eI l Ln xs YX12_look d Sx 39 [some (.ref 112)] [] m (FX12_look_J39 f kt0 m) := by
  unfold FX12_look_J39
  refine Ev.run (pc' := 49) (ls' := [some (.ref 112)]) (st' := []) (m' := ((ev_up m.1 112 2 ((m.1 112 2) + 1)), m.2)) [(.aload_n 0, 0, 0, 0, 0), (.dup, 0, 0, 0, 0), (.getfield 234, 12, 2, 0, 0), (.iconst 1, 0, 0, 1, 0), (.iadd, 0, 0, 0, 0), (.putfield 234, 12, 2, 0, 0)] (by decide +kernel) rfl ?_
  refine Ev.gto (t := 0) (by decide +kernel) ?_
  exact hkt0 _
set_option maxRecDepth 100000 in
set_option maxHeartbeats 4000000 in
theorem EX12_look_L0 {l : Launch} {Ln : Nat} {xs : Nat → Int32} {d : Nat} (f : Nat) (k : ev_M → Option (Int32 × ev_M))     (hk : ∀  (em : ev_M), Ev ev_eI l Ln xs YX12_look d Sx 52 [some (.ref 112)] [] em (k em)) (hd : 0 ≤ d) : ∀ (n : Nat)  (m : ev_M), Ev ev_eI l Ln xs YX12_look d Sx 0 [some (.ref 112)] [] m (FX12_look_L0 f k n m) := by
  intro n
  induction n with
  | zero => intros; exact Ev.nn
  | succ n ih =>
    intro  m
    rw [FX12_look_L0]
    refine Ev.run (pc' := 8) (ls' := [some (.ref 112)]) (st' := [.int (m.1 112 3), .int (m.1 112 2)]) (m' := m) [(.aload_n 0, 0, 0, 0, 0), (.getfield 234, 12, 2, 0, 0), (.aload_n 0, 0, 0, 0, 0), (.getfield 237, 12, 3, 0, 0)] (by decide +kernel) rfl ?_
    refine Ev.ic_ge (t := 52) (by decide +kernel) ?_ ?_
    · exact hk _
    · refine Ev.run (pc' := 19) (ls' := [some (.ref 112)]) (st' := [.int (m.1 112 2), .ref 113]) (m' := m) [(.aload_n 0, 0, 0, 0, 0), (.getfield 7, 12, 0, 0, 0), (.aload_n 0, 0, 0, 0, 0), (.getfield 234, 12, 2, 0, 0)] (by decide +kernel) rfl ?_
      refine Ev.iald (n := 1600) (by decide +kernel) (by decide) rfl ?_
      refine Ev.run (pc' := 22) (ls' := [some (.ref 112)]) (st' := [.int 10, .int (m.1 113 (m.1 112 2).toNatClampNeg)]) (m' := m) [(.bipush 10, 0, 0, 10, 0)] (by decide +kernel) rfl ?_
      refine Ev.ic_eq (t := 39) (by decide +kernel) ?_ ?_
      · exact EX12_look_J39 f (FX12_look_L0 f k n) m ih (by omega)
      · refine Ev.run (pc' := 33) (ls' := [some (.ref 112)]) (st' := [.int (m.1 112 2), .ref 113]) (m' := m) [(.aload_n 0, 0, 0, 0, 0), (.getfield 7, 12, 0, 0, 0), (.aload_n 0, 0, 0, 0, 0), (.getfield 234, 12, 2, 0, 0)] (by decide +kernel) rfl ?_
        refine Ev.iald (n := 1600) (by decide +kernel) (by decide) rfl ?_
        refine Ev.run (pc' := 36) (ls' := [some (.ref 112)]) (st' := [.int 32, .int (m.1 113 (m.1 112 2).toNatClampNeg)]) (m' := m) [(.bipush 32, 0, 0, 32, 0)] (by decide +kernel) rfl ?_
        refine Ev.ic_ne (t := 52) (by decide +kernel) ?_ ?_
        · exact hk _
        · exact EX12_look_J39 f (FX12_look_L0 f k n) m ih (by omega)
set_option maxRecDepth 100000 in
set_option maxHeartbeats 4000000 in
theorem EX12_look {l : Launch} {Ln : Nat} {xs : Nat → Int32} {d : Nat} (f : Nat)  (m : ev_M)  (hd : 0 ≤ d) : Mv ev_eI l Ln xs YX12_look d Sx [.ref 112] m (FX12_look f  m) := by
  refine Mv.of (by decide +kernel) rfl (Nat.le_of_ble_eq_true rfl) (Ev.le (ls' := [some (.ref 112)]) ⟨rfl, trivial⟩ ?_)
  unfold FX12_look
  refine EX12_look_L0 f _ ?_ (by omega) _ _
  intro m1
  refine Ev.run (pc' := 60) (ls' := [some (.ref 112)]) (st' := [.int (m1.1 112 3), .int (m1.1 112 2)]) (m' := m1) [(.aload_n 0, 0, 0, 0, 0), (.getfield 234, 12, 2, 0, 0), (.aload_n 0, 0, 0, 0, 0), (.getfield 237, 12, 3, 0, 0)] (by decide +kernel) rfl ?_
  refine Ev.ic_ge (t := 75) (by decide +kernel) ?_ ?_
  · refine Ev.run (pc' := 76) (ls' := [some (.ref 112)]) (st' := [.int (-1)]) (m' := m1) [(.iconst (-1), 0, 0, (-1), 0)] (by decide +kernel) rfl ?_
    exact Ev.ireti rfl rfl (by decide +kernel)
  · refine Ev.run (pc' := 71) (ls' := [some (.ref 112)]) (st' := [.int (m1.1 112 2), .ref 113]) (m' := m1) [(.aload_n 0, 0, 0, 0, 0), (.getfield 7, 12, 0, 0, 0), (.aload_n 0, 0, 0, 0, 0), (.getfield 234, 12, 2, 0, 0)] (by decide +kernel) rfl ?_
    refine Ev.iald (n := 1600) (by decide +kernel) (by decide) rfl ?_
    refine Ev.gto (t := 76) (by decide +kernel) ?_
    exact Ev.ireti rfl rfl (by decide +kernel)
def FX12_isHere_L35 (f : Nat) (k : Int32 → ev_M → Option (Int32 × ev_M))   : Nat → Int32 → ev_M → Option (Int32 × ev_M)
  | 0, _, _ => none
  | n + 1, a2, m => (if (m.1 112 3) ≤ a2 then (k a2 m) else (if ev_in a2 1600 then (ev_bd (FX12_isLetter f (m.1 113 a2.toNatClampNeg) m) (fun r5 m6 => (if r5 = 0 then (k a2 m6) else (FX12_isHere_L35 f k n (a2 + 1) m6)))) else none))
def FX12_isHere_L76 (f : Nat) (k : ev_M → Option (Int32 × ev_M)) (o1 : Nat)  : Nat → Int32 → ev_M → Option (Int32 × ev_M)
  | 0, _, _ => none
  | n + 1, a3, m => (if (Int32.ofNat (Sx.2.1 o1).2) ≤ a3 then (k m) else (if ev_in ((m.1 112 2) + a3) 1600 then (if ev_in a3 (Sx.2.1 o1).2 then (if (m.1 113 ((m.1 112 2) + a3).toNatClampNeg) = (m.1 o1 a3.toNatClampNeg) then (FX12_isHere_L76 f k o1 n (a3 + 1) m) else some (0, m)) else none) else none))
def FX12_isHere_J61 (f : Nat)  (o1 : Nat) (a2 : Int32)  (m : ev_M) : Option (Int32 × ev_M) :=
  (if (a2 - (m.1 112 2)) = (Int32.ofNat (Sx.2.1 o1).2) then (FX12_isHere_L76 f (fun m9 => some (1, m9)) o1 f (0 : Int32) m) else some (0, m))
def FX12_isHere (f : Nat) (o1 : Nat) (m : ev_M) : Option (Int32 × ev_M) :=
  (if (m.1 112 5) = 0 then (ev_bd (FX12_look f m) (fun r1 m2 => (ev_bd (FX12_isLetter f r1 m2) (fun r3 m4 => (if r3 = 0 then some (0, m4) else (if (m4.1 112 2) = (m4.1 112 4) then some (0, m4) else (FX12_isHere_L35 f (fun e7 m8 => (FX12_isHere_J61 f o1 e7 m8)) f (m4.1 112 2) m4))))))) else some (0, m))
set_option maxRecDepth 100000 in
set_option maxHeartbeats 4000000 in
theorem EX12_isHere_L35 {l : Launch} {Ln : Nat} {xs : Nat → Int32} {d : Nat} (f : Nat) (k : Int32 → ev_M → Option (Int32 × ev_M)) (o1 : Nat)  (h_o1 : isK 101 o1)  (hk : ∀ (e2 : Int32) (em : ev_M), Ev ev_eI l Ln xs YX12_isHere d Sx 61 [some (.ref 112), some (.ref o1), some (.int e2), none] [] em (k e2 em)) (hd : 1 ≤ d) : ∀ (n : Nat) (a2 : Int32) (m : ev_M), Ev ev_eI l Ln xs YX12_isHere d Sx 35 [some (.ref 112), some (.ref o1), some (.int a2), none] [] m (FX12_isHere_L35 f k n a2 m) := by
  intro n
  induction n with
  | zero => intros; exact Ev.nn
  | succ n ih =>
    intro a2 m
    rw [FX12_isHere_L35]
    refine Ev.run (pc' := 40) (ls' := [some (.ref 112), some (.ref o1), some (.int a2), none]) (st' := [.int (m.1 112 3), .int a2]) (m' := m) [(.iload_n 2, 0, 0, 0, 0), (.aload_n 0, 0, 0, 0, 0), (.getfield 237, 12, 3, 0, 0)] (by decide +kernel) rfl ?_
    refine Ev.ic_ge (t := 61) (by decide +kernel) ?_ ?_
    · exact hk _ _
    · refine Ev.run (pc' := 48) (ls' := [some (.ref 112), some (.ref o1), some (.int a2), none]) (st' := [.int a2, .ref 113]) (m' := m) [(.aload_n 0, 0, 0, 0, 0), (.getfield 7, 12, 0, 0, 0), (.iload_n 2, 0, 0, 0, 0)] (by decide +kernel) rfl ?_
      refine Ev.iald (n := 1600) (by decide +kernel) (by decide) rfl ?_
      refine Ev.cS (av := [.int (m.1 113 a2.toNatClampNeg)]) (st := []) (EX12_isLetter (l := l) (Ln := Ln) (xs := xs) (d := 0) f (m.1 113 a2.toNatClampNeg) m (by decide)) rfl (by decide +kernel) mwX12_isLetter swX12_isLetter lk_12_244 (by omega) rfl (Nat.le_of_ble_eq_true rfl) (fun r5 m6 => ?_)
      refine Ev.if_eq (t := 61) (by decide +kernel) ?_ ?_
      · exact hk _ _
      · refine Ev.run (pc' := 58) (ls' := [some (.ref 112), some (.ref o1), some (.int (a2 + 1)), none]) (st' := []) (m' := m6) [(.iinc 2 1, 0, 0, 1, 0)] (by decide +kernel) rfl ?_
        refine Ev.gto (t := 35) (by decide +kernel) ?_
        exact ih _ _
set_option maxRecDepth 100000 in
set_option maxHeartbeats 4000000 in
theorem EX12_isHere_L76 {l : Launch} {Ln : Nat} {xs : Nat → Int32} {d : Nat} (f : Nat) (k : ev_M → Option (Int32 × ev_M)) (o1 : Nat)  (h_o1 : isK 101 o1)  (hk : ∀  (em : ev_M), Ev ev_eI l Ln xs YX12_isHere d Sx 107 [none, none, none, none] [] em (k em)) (hd : 1 ≤ d) : ∀ (n : Nat) (a3 : Int32) (m : ev_M), Ev ev_eI l Ln xs YX12_isHere d Sx 76 [some (.ref 112), some (.ref o1), none, some (.int a3)] [] m (FX12_isHere_L76 f k o1 n a3 m) := by
  intro n
  induction n with
  | zero => intros; exact Ev.nn
  | succ n ih =>
    intro a3 m
    rw [FX12_isHere_L76]
    refine Ev.run (pc' := 78) (ls' := [some (.ref 112), some (.ref o1), none, some (.int a3)]) (st' := [.ref o1, .int a3]) (m' := m) [(.iload_n 3, 0, 0, 0, 0), (.aload_n 1, 0, 0, 0, 0)] (by decide +kernel) rfl ?_
    refine Ev.alen (by decide +kernel) (k101_l0 h_o1) (k101_s0 h_o1) (by decide) ?_
    refine Ev.ic_ge (t := 107) (by decide +kernel) ?_ ?_
    · refine Ev.le (ls' := [none, none, none, none]) trivial ?_
      exact hk _
    · refine Ev.run (pc' := 92) (ls' := [some (.ref 112), some (.ref o1), none, some (.int a3)]) (st' := [.int ((m.1 112 2) + a3), .ref 113]) (m' := m) [(.aload_n 0, 0, 0, 0, 0), (.getfield 7, 12, 0, 0, 0), (.aload_n 0, 0, 0, 0, 0), (.getfield 234, 12, 2, 0, 0), (.iload_n 3, 0, 0, 0, 0), (.iadd, 0, 0, 0, 0)] (by decide +kernel) rfl ?_
      refine Ev.iald (n := 1600) (by decide +kernel) (by decide) rfl ?_
      refine Ev.run (pc' := 95) (ls' := [some (.ref 112), some (.ref o1), none, some (.int a3)]) (st' := [.int a3, .ref o1, .int (m.1 113 ((m.1 112 2) + a3).toNatClampNeg)]) (m' := m) [(.aload_n 1, 0, 0, 0, 0), (.iload_n 3, 0, 0, 0, 0)] (by decide +kernel) rfl ?_
      refine Ev.cald (n := (Sx.2.1 o1).2) (by decide +kernel) (k101_l0 h_o1) (k101_s0 h_o1) ?_
      refine Ev.ic_eq (t := 101) (by decide +kernel) ?_ ?_
      · refine Ev.run (pc' := 104) (ls' := [some (.ref 112), some (.ref o1), none, some (.int (a3 + 1))]) (st' := []) (m' := m) [(.iinc 3 1, 0, 0, 1, 0)] (by decide +kernel) rfl ?_
        refine Ev.gto (t := 76) (by decide +kernel) ?_
        exact ih _ _
      · refine Ev.run (pc' := 100) (ls' := [some (.ref 112), some (.ref o1), none, some (.int a3)]) (st' := [.int 0]) (m' := m) [(.iconst 0, 0, 0, 0, 0)] (by decide +kernel) rfl ?_
        exact Ev.iretz rfl rfl (by decide +kernel) (by decide)
set_option maxRecDepth 100000 in
set_option maxHeartbeats 4000000 in
theorem EX12_isHere_J61 {l : Launch} {Ln : Nat} {xs : Nat → Int32} {d : Nat} (f : Nat)  (o1 : Nat) (a2 : Int32)  (m : ev_M) (h_o1 : isK 101 o1)  (hd : 1 ≤ d) : Ev ev_eI l Ln xs YX12_isHere d Sx 61 [some (.ref 112), some (.ref o1), some (.int a2), none] [] m (FX12_isHere_J61 f o1 a2 m) := by
  unfold FX12_isHere_J61
  refine Ev.run (pc' := 68) (ls' := [some (.ref 112), some (.ref o1), some (.int a2), none]) (st' := [.ref o1, .int (a2 - (m.1 112 2))]) (m' := m) [(.iload_n 2, 0, 0, 0, 0), (.aload_n 0, 0, 0, 0, 0), (.getfield 234, 12, 2, 0, 0), (.isub, 0, 0, 0, 0), (.aload_n 1, 0, 0, 0, 0)] (by decide +kernel) rfl ?_
  refine Ev.alen (by decide +kernel) (k101_l0 h_o1) (k101_s0 h_o1) (by decide) ?_
  refine Ev.ic_eq (t := 74) (by decide +kernel) ?_ ?_
  · refine Ev.run (pc' := 76) (ls' := [some (.ref 112), some (.ref o1), some (.int a2), some (.int 0)]) (st' := []) (m' := m) [(.iconst 0, 0, 0, 0, 0), (.istore_n 3, 0, 0, 0, 0)] (by decide +kernel) rfl ?_
    refine Ev.le (ls' := [some (.ref 112), some (.ref o1), none, some (.int 0)]) ⟨rfl, ⟨rfl, ⟨rfl, trivial⟩⟩⟩ ?_
    refine EX12_isHere_L76 f _ o1 h_o1 ?_ (by omega) _ _ _
    intro m9
    refine Ev.run (pc' := 108) (ls' := [none, none, none, none]) (st' := [.int 1]) (m' := m9) [(.iconst 1, 0, 0, 1, 0)] (by decide +kernel) rfl ?_
    exact Ev.iretz rfl rfl (by decide +kernel) (by decide)
  · refine Ev.run (pc' := 73) (ls' := [some (.ref 112), some (.ref o1), some (.int a2), none]) (st' := [.int 0]) (m' := m) [(.iconst 0, 0, 0, 0, 0)] (by decide +kernel) rfl ?_
    exact Ev.iretz rfl rfl (by decide +kernel) (by decide)
set_option maxRecDepth 100000 in
set_option maxHeartbeats 4000000 in
theorem EX12_isHere {l : Launch} {Ln : Nat} {xs : Nat → Int32} {d : Nat} (f : Nat) (o1 : Nat) (m : ev_M) (h_o1 : isK 101 o1) (hd : 1 ≤ d) : Mv ev_eI l Ln xs YX12_isHere d Sx [.ref 112, .ref o1] m (FX12_isHere f o1 m) := by
  refine Mv.of (by decide +kernel) rfl (Nat.le_of_ble_eq_true rfl) (Ev.le (ls' := [some (.ref 112), some (.ref o1), none, none]) ⟨rfl, ⟨rfl, trivial⟩⟩ ?_)
  unfold FX12_isHere
  refine Ev.run (pc' := 4) (ls' := [some (.ref 112), some (.ref o1), none, none]) (st' := [.int (m.1 112 5)]) (m' := m) [(.aload_n 0, 0, 0, 0, 0), (.getfield 228, 12, 5, 0, 0)] (by decide +kernel) rfl ?_
  refine Ev.if_ne (t := 28) (by decide +kernel) ?_ ?_
  · refine Ev.run (pc' := 29) (ls' := [some (.ref 112), some (.ref o1), none, none]) (st' := [.int 0]) (m' := m) [(.iconst 0, 0, 0, 0, 0)] (by decide +kernel) rfl ?_
    exact Ev.iretz rfl rfl (by decide +kernel) (by decide)
  · refine Ev.run (pc' := 8) (ls' := [some (.ref 112), some (.ref o1), none, none]) (st' := [.ref 112]) (m' := m) [(.aload_n 0, 0, 0, 0, 0)] (by decide +kernel) rfl ?_
    refine Ev.cV (av := []) (st := []) (a := 112) (EX12_look (l := l) (Ln := Ln) (xs := xs) (d := 0) f m (by decide)) rfl (by decide +kernel) mwX12_look iwX12_look vwX12_look lk_12_240 (by omega) (by decide) rfl (by decide) rfl rfl (Nat.le_of_ble_eq_true rfl) (fun r1 m2 => ?_)
    refine Ev.cS (av := [.int r1]) (st := []) (EX12_isLetter (l := l) (Ln := Ln) (xs := xs) (d := 0) f r1 m2 (by decide)) rfl (by decide +kernel) mwX12_isLetter swX12_isLetter lk_12_244 (by omega) rfl (Nat.le_of_ble_eq_true rfl) (fun r3 m4 => ?_)
    refine Ev.if_eq (t := 28) (by decide +kernel) ?_ ?_
    · refine Ev.run (pc' := 29) (ls' := [some (.ref 112), some (.ref o1), none, none]) (st' := [.int 0]) (m' := m4) [(.iconst 0, 0, 0, 0, 0)] (by decide +kernel) rfl ?_
      exact Ev.iretz rfl rfl (by decide +kernel) (by decide)
    · refine Ev.run (pc' := 25) (ls' := [some (.ref 112), some (.ref o1), none, none]) (st' := [.int (m4.1 112 4), .int (m4.1 112 2)]) (m' := m4) [(.aload_n 0, 0, 0, 0, 0), (.getfield 234, 12, 2, 0, 0), (.aload_n 0, 0, 0, 0, 0), (.getfield 248, 12, 4, 0, 0)] (by decide +kernel) rfl ?_
      refine Ev.ic_ne (t := 30) (by decide +kernel) ?_ ?_
      · refine Ev.run (pc' := 35) (ls' := [some (.ref 112), some (.ref o1), some (.int (m4.1 112 2)), none]) (st' := []) (m' := m4) [(.aload_n 0, 0, 0, 0, 0), (.getfield 234, 12, 2, 0, 0), (.istore_n 2, 0, 0, 0, 0)] (by decide +kernel) rfl ?_
        refine EX12_isHere_L35 f _ o1 h_o1 ?_ (by omega) _ _ _
        intro e7 m8
        exact EX12_isHere_J61 f o1 e7 m8 h_o1 (by omega)
      · refine Ev.run (pc' := 29) (ls' := [some (.ref 112), some (.ref o1), none, none]) (st' := [.int 0]) (m' := m4) [(.iconst 0, 0, 0, 0, 0)] (by decide +kernel) rfl ?_
        exact Ev.iretz rfl rfl (by decide +kernel) (by decide)
def FX12_takes (f : Nat) (o1 : Nat) (m : ev_M) : Option (Int32 × ev_M) :=
  (ev_bd (FX12_isHere f o1 m) (fun r1 m2 => (if r1 = 0 then some (0, m2) else some (1, ((ev_up (ev_up m2.1 112 2 ((m2.1 112 2) + (Int32.ofNat (Sx.2.1 o1).2))) 112 4 ((m2.1 112 2) + (Int32.ofNat (Sx.2.1 o1).2))), m2.2)))))
set_option maxRecDepth 100000 in
set_option maxHeartbeats 4000000 in
theorem EX12_takes {l : Launch} {Ln : Nat} {xs : Nat → Int32} {d : Nat} (f : Nat) (o1 : Nat) (m : ev_M) (h_o1 : isK 101 o1) (hd : 2 ≤ d) : Mv ev_eI l Ln xs YX12_takes d Sx [.ref 112, .ref o1] m (FX12_takes f o1 m) := by
  refine Mv.of (by decide +kernel) rfl (Nat.le_of_ble_eq_true rfl) (Ev.le (ls' := [some (.ref 112), some (.ref o1)]) ⟨rfl, ⟨rfl, trivial⟩⟩ ?_)
  unfold FX12_takes
  refine Ev.run (pc' := 2) (ls' := [some (.ref 112), some (.ref o1)]) (st' := [.ref o1, .ref 112]) (m' := m) [(.aload_n 0, 0, 0, 0, 0), (.aload_n 1, 0, 0, 0, 0)] (by decide +kernel) rfl ?_
  refine Ev.cV (av := [.ref o1]) (st := []) (a := 112) (EX12_isHere (l := l) (Ln := Ln) (xs := xs) (d := 1) f o1 m h_o1 (by decide)) rfl (by decide +kernel) mwX12_isHere iwX12_isHere vwX12_isHere lk_12_251 (by omega) (by decide) rfl (by decide) rfl rfl (Nat.le_of_ble_eq_true rfl) (fun r1 m2 => ?_)
  refine Ev.if_ne (t := 10) (by decide +kernel) ?_ ?_
  · refine Ev.run (pc' := 16) (ls' := [some (.ref 112), some (.ref o1)]) (st' := [.ref o1, .int (m2.1 112 2), .ref 112]) (m' := m2) [(.aload_n 0, 0, 0, 0, 0), (.dup, 0, 0, 0, 0), (.getfield 234, 12, 2, 0, 0), (.aload_n 1, 0, 0, 0, 0)] (by decide +kernel) rfl ?_
    refine Ev.alen (by decide +kernel) (k101_l0 h_o1) (k101_s0 h_o1) (by decide) ?_
    refine Ev.run (pc' := 30) (ls' := [some (.ref 112), some (.ref o1)]) (st' := [.int 1]) (m' := ((ev_up (ev_up m2.1 112 2 ((m2.1 112 2) + (Int32.ofNat (Sx.2.1 o1).2))) 112 4 ((m2.1 112 2) + (Int32.ofNat (Sx.2.1 o1).2))), m2.2)) [(.iadd, 0, 0, 0, 0), (.putfield 234, 12, 2, 0, 0), (.aload_n 0, 0, 0, 0, 0), (.aload_n 0, 0, 0, 0, 0), (.getfield 234, 12, 2, 0, 0), (.putfield 248, 12, 4, 0, 0), (.iconst 1, 0, 0, 1, 0)] (by decide +kernel) rfl ?_
    exact Ev.iretz rfl rfl (by decide +kernel) (by decide)
  · refine Ev.run (pc' := 9) (ls' := [some (.ref 112), some (.ref o1)]) (st' := [.int 0]) (m' := m2) [(.iconst 0, 0, 0, 0, 0)] (by decide +kernel) rfl ?_
    exact Ev.iretz rfl rfl (by decide +kernel) (by decide)
def FX12_asks (f : Nat) (o1 : Nat) (m : ev_M) : Option (Unit × ev_M) :=
  (if (m.1 112 5) = 0 then (ev_bd (FX12_takes f o1 m) (fun r1 m2 => (if r1 = 0 then (ev_bd (FX12_fail f (1 : Int32) (m2.1 112 2) m2) (fun _ m4 => some ((), m4))) else some ((), m2)))) else some ((), m))
set_option maxRecDepth 100000 in
set_option maxHeartbeats 4000000 in
theorem EX12_asks {l : Launch} {Ln : Nat} {xs : Nat → Int32} {d : Nat} (f : Nat) (o1 : Nat) (m : ev_M) (h_o1 : isK 101 o1) (hd : 3 ≤ d) : Mv ev_eV l Ln xs YX12_asks d Sx [.ref 112, .ref o1] m (FX12_asks f o1 m) := by
  refine Mv.of (by decide +kernel) rfl (Nat.le_of_ble_eq_true rfl) (Ev.le (ls' := [some (.ref 112), some (.ref o1)]) ⟨rfl, ⟨rfl, trivial⟩⟩ ?_)
  unfold FX12_asks
  refine Ev.run (pc' := 4) (ls' := [some (.ref 112), some (.ref o1)]) (st' := [.int (m.1 112 5)]) (m' := m) [(.aload_n 0, 0, 0, 0, 0), (.getfield 228, 12, 5, 0, 0)] (by decide +kernel) rfl ?_
  refine Ev.if_ne (t := 24) (by decide +kernel) ?_ ?_
  · exact Ev.retv rfl rfl (by decide +kernel)
  · refine Ev.run (pc' := 9) (ls' := [some (.ref 112), some (.ref o1)]) (st' := [.ref o1, .ref 112]) (m' := m) [(.aload_n 0, 0, 0, 0, 0), (.aload_n 1, 0, 0, 0, 0)] (by decide +kernel) rfl ?_
    refine Ev.cV (av := [.ref o1]) (st := []) (a := 112) (EX12_takes (l := l) (Ln := Ln) (xs := xs) (d := 2) f o1 m h_o1 (by decide)) rfl (by decide +kernel) mwX12_takes iwX12_takes vwX12_takes lk_12_255 (by omega) (by decide) rfl (by decide) rfl rfl (Nat.le_of_ble_eq_true rfl) (fun r1 m2 => ?_)
    refine Ev.if_ne (t := 24) (by decide +kernel) ?_ ?_
    · exact Ev.retv rfl rfl (by decide +kernel)
    · refine Ev.run (pc' := 21) (ls' := [some (.ref 112), some (.ref o1)]) (st' := [.int (m2.1 112 2), .int 1, .ref 112]) (m' := m2) [(.aload_n 0, 0, 0, 0, 0), (.iconst 1, 0, 0, 1, 0), (.aload_n 0, 0, 0, 0, 0), (.getfield 234, 12, 2, 0, 0)] (by decide +kernel) rfl ?_
      refine Ev.cV (av := [.int 1, .int (m2.1 112 2)]) (st := []) (a := 112) (EX12_fail (l := l) (Ln := Ln) (xs := xs) (d := 0) f (1 : Int32) (m2.1 112 2) m2 (by decide)) rfl (by decide +kernel) mwX12_fail iwX12_fail vwX12_fail lk_12_258 (by omega) (by decide) rfl (by decide) rfl rfl (Nat.le_of_ble_eq_true rfl) (fun r3 m4 => ?_)
      exact Ev.retv rfl rfl (by decide +kernel)
def FX12_takesSign (f : Nat) (a1 : Int32) (m : ev_M) : Option (Int32 × ev_M) :=
  (if (m.1 112 5) = 0 then (ev_bd (FX12_look f m) (fun r1 m2 => (if r1 = a1 then some (1, ((ev_up m2.1 112 2 ((m2.1 112 2) + 1)), m2.2)) else some (0, m2)))) else some (0, m))
set_option maxRecDepth 100000 in
set_option maxHeartbeats 4000000 in
theorem EX12_takesSign {l : Launch} {Ln : Nat} {xs : Nat → Int32} {d : Nat} (f : Nat) (a1 : Int32) (m : ev_M)  (hd : 1 ≤ d) : Mv ev_eI l Ln xs YX12_takesSign d Sx [.ref 112, .int a1] m (FX12_takesSign f a1 m) := by
  refine Mv.of (by decide +kernel) rfl (Nat.le_of_ble_eq_true rfl) (Ev.le (ls' := [some (.ref 112), some (.int a1)]) ⟨rfl, ⟨rfl, trivial⟩⟩ ?_)
  unfold FX12_takesSign
  refine Ev.run (pc' := 4) (ls' := [some (.ref 112), some (.int a1)]) (st' := [.int (m.1 112 5)]) (m' := m) [(.aload_n 0, 0, 0, 0, 0), (.getfield 228, 12, 5, 0, 0)] (by decide +kernel) rfl ?_
  refine Ev.if_ne (t := 15) (by decide +kernel) ?_ ?_
  · refine Ev.run (pc' := 16) (ls' := [some (.ref 112), some (.int a1)]) (st' := [.int 0]) (m' := m) [(.iconst 0, 0, 0, 0, 0)] (by decide +kernel) rfl ?_
    exact Ev.iretz rfl rfl (by decide +kernel) (by decide)
  · refine Ev.run (pc' := 8) (ls' := [some (.ref 112), some (.int a1)]) (st' := [.ref 112]) (m' := m) [(.aload_n 0, 0, 0, 0, 0)] (by decide +kernel) rfl ?_
    refine Ev.cV (av := []) (st := []) (a := 112) (EX12_look (l := l) (Ln := Ln) (xs := xs) (d := 0) f m (by decide)) rfl (by decide +kernel) mwX12_look iwX12_look vwX12_look lk_12_240 (by omega) (by decide) rfl (by decide) rfl rfl (Nat.le_of_ble_eq_true rfl) (fun r1 m2 => ?_)
    refine Ev.run (pc' := 12) (ls' := [some (.ref 112), some (.int a1)]) (st' := [.int a1, .int r1]) (m' := m2) [(.iload_n 1, 0, 0, 0, 0)] (by decide +kernel) rfl ?_
    refine Ev.ic_eq (t := 17) (by decide +kernel) ?_ ?_
    · refine Ev.run (pc' := 28) (ls' := [some (.ref 112), some (.int a1)]) (st' := [.int 1]) (m' := ((ev_up m2.1 112 2 ((m2.1 112 2) + 1)), m2.2)) [(.aload_n 0, 0, 0, 0, 0), (.dup, 0, 0, 0, 0), (.getfield 234, 12, 2, 0, 0), (.iconst 1, 0, 0, 1, 0), (.iadd, 0, 0, 0, 0), (.putfield 234, 12, 2, 0, 0), (.iconst 1, 0, 0, 1, 0)] (by decide +kernel) rfl ?_
      exact Ev.iretz rfl rfl (by decide +kernel) (by decide)
    · refine Ev.run (pc' := 16) (ls' := [some (.ref 112), some (.int a1)]) (st' := [.int 0]) (m' := m2) [(.iconst 0, 0, 0, 0, 0)] (by decide +kernel) rfl ?_
      exact Ev.iretz rfl rfl (by decide +kernel) (by decide)
def FX12_asksSign (f : Nat) (a1 : Int32) (m : ev_M) : Option (Unit × ev_M) :=
  (if (m.1 112 5) = 0 then (ev_bd (FX12_takesSign f a1 m) (fun r1 m2 => (if r1 = 0 then (ev_bd (FX12_fail f (1 : Int32) (m2.1 112 2) m2) (fun _ m4 => some ((), m4))) else some ((), m2)))) else some ((), m))
set_option maxRecDepth 100000 in
set_option maxHeartbeats 4000000 in
theorem EX12_asksSign {l : Launch} {Ln : Nat} {xs : Nat → Int32} {d : Nat} (f : Nat) (a1 : Int32) (m : ev_M)  (hd : 2 ≤ d) : Mv ev_eV l Ln xs YX12_asksSign d Sx [.ref 112, .int a1] m (FX12_asksSign f a1 m) := by
  refine Mv.of (by decide +kernel) rfl (Nat.le_of_ble_eq_true rfl) (Ev.le (ls' := [some (.ref 112), some (.int a1)]) ⟨rfl, ⟨rfl, trivial⟩⟩ ?_)
  unfold FX12_asksSign
  refine Ev.run (pc' := 4) (ls' := [some (.ref 112), some (.int a1)]) (st' := [.int (m.1 112 5)]) (m' := m) [(.aload_n 0, 0, 0, 0, 0), (.getfield 228, 12, 5, 0, 0)] (by decide +kernel) rfl ?_
  refine Ev.if_ne (t := 24) (by decide +kernel) ?_ ?_
  · exact Ev.retv rfl rfl (by decide +kernel)
  · refine Ev.run (pc' := 9) (ls' := [some (.ref 112), some (.int a1)]) (st' := [.int a1, .ref 112]) (m' := m) [(.aload_n 0, 0, 0, 0, 0), (.iload_n 1, 0, 0, 0, 0)] (by decide +kernel) rfl ?_
    refine Ev.cV (av := [.int a1]) (st := []) (a := 112) (EX12_takesSign (l := l) (Ln := Ln) (xs := xs) (d := 1) f a1 m (by decide)) rfl (by decide +kernel) mwX12_takesSign iwX12_takesSign vwX12_takesSign lk_12_262 (by omega) (by decide) rfl (by decide) rfl rfl (Nat.le_of_ble_eq_true rfl) (fun r1 m2 => ?_)
    refine Ev.if_ne (t := 24) (by decide +kernel) ?_ ?_
    · exact Ev.retv rfl rfl (by decide +kernel)
    · refine Ev.run (pc' := 21) (ls' := [some (.ref 112), some (.int a1)]) (st' := [.int (m2.1 112 2), .int 1, .ref 112]) (m' := m2) [(.aload_n 0, 0, 0, 0, 0), (.iconst 1, 0, 0, 1, 0), (.aload_n 0, 0, 0, 0, 0), (.getfield 234, 12, 2, 0, 0)] (by decide +kernel) rfl ?_
      refine Ev.cV (av := [.int 1, .int (m2.1 112 2)]) (st := []) (a := 112) (EX12_fail (l := l) (Ln := Ln) (xs := xs) (d := 0) f (1 : Int32) (m2.1 112 2) m2 (by decide)) rfl (by decide +kernel) mwX12_fail iwX12_fail vwX12_fail lk_12_258 (by omega) (by decide) rfl (by decide) rfl rfl (Nat.le_of_ble_eq_true rfl) (fun r3 m4 => ?_)
      exact Ev.retv rfl rfl (by decide +kernel)
def FX12_number_J30 (f : Nat)     (m : ev_M) : Option (Int32 × ev_M) :=
  (ev_bd (FX12_fail f (1 : Int32) (m.1 112 2) m) (fun _ m6 => some (0, m6)))
def FX12_number_L49 (f : Nat) (k : Int32 → ev_M → Option (Int32 × ev_M))  (a3 : Int32) : Nat → Int32 → ev_M → Option (Int32 × ev_M)
  | 0, _, _ => none
  | n + 1, a4, m => (if (m.1 112 3) ≤ (m.1 112 2) then (k a4 m) else (if ev_in (m.1 112 2) 1600 then (ev_bd (FX12_isDigit f (m.1 113 (m.1 112 2).toNatClampNeg) m) (fun r7 m8 => (if r7 = 0 then (k a4 m8) else (if ((m8.1 112 2) - a3) = 4 then (ev_bd (FX12_fail f (1 : Int32) (m8.1 112 2) m8) (fun _ m10 => some (0, m10))) else (if ev_in (m8.1 112 2) 1600 then (FX12_number_L49 f k a3 n (((10 * a4) + (m8.1 113 (m8.1 112 2).toNatClampNeg)) - 48) ((ev_up m8.1 112 2 ((m8.1 112 2) + 1)), m8.2)) else none))))) else none))
def FX12_number_J129 (f : Nat)   (a1 : Int32) (a2 : Int32) (a3 : Int32) (a4 : Int32)  (m : ev_M) : Option (Int32 × ev_M) :=
  (ev_bd (FX12_isIn f (a4 : Int32).toInt64 (a1 : Int32).toInt64 (a2 : Int32).toInt64 ((ev_up m.1 112 4 (m.1 112 2)), m.2)) (fun r13 m14 => (if r13 = 0 then (ev_bd (FX12_fail f (2 : Int32) a3 m14) (fun _ m16 => some (a4, m16))) else some (a4, m14))))
def FX12_number (f : Nat) (a1 : Int32) (a2 : Int32) (m : ev_M) : Option (Int32 × ev_M) :=
  (if (m.1 112 5) = 0 then (ev_bd (FX12_look f m) (fun r1 m2 => (ev_bd (FX12_isDigit f r1 m2) (fun r3 m4 => (if r3 = 0 then (FX12_number_J30 f m4) else (if (m4.1 112 2) = (m4.1 112 4) then (FX12_number_J30 f m4) else (FX12_number_L49 f (fun e11 m12 => (FX12_number_J129 f a1 a2 (m4.1 112 2) e11 m12)) (m4.1 112 2) f (0 : Int32) m4))))))) else some (0, m))
set_option maxRecDepth 100000 in
set_option maxHeartbeats 4000000 in
theorem EX12_number_J30 {l : Launch} {Ln : Nat} {xs : Nat → Int32} {d : Nat} (f : Nat)     (m : ev_M)   (hd : 1 ≤ d) : Ev ev_eI l Ln xs YX12_number d Sx 30 [some (.ref 112), none, none, none, none] [] m (FX12_number_J30 f m) := by
  unfold FX12_number_J30
  refine Ev.run (pc' := 36) (ls' := [some (.ref 112), none, none, none, none]) (st' := [.int (m.1 112 2), .int 1, .ref 112]) (m' := m) [(.aload_n 0, 0, 0, 0, 0), (.iconst 1, 0, 0, 1, 0), (.aload_n 0, 0, 0, 0, 0), (.getfield 234, 12, 2, 0, 0)] (by decide +kernel) rfl ?_
  refine Ev.cV (av := [.int 1, .int (m.1 112 2)]) (st := []) (a := 112) (EX12_fail (l := l) (Ln := Ln) (xs := xs) (d := 0) f (1 : Int32) (m.1 112 2) m (by decide)) rfl (by decide +kernel) mwX12_fail iwX12_fail vwX12_fail lk_12_258 (by omega) (by decide) rfl (by decide) rfl rfl (Nat.le_of_ble_eq_true rfl) (fun r5 m6 => ?_)
  refine Ev.run (pc' := 40) (ls' := [some (.ref 112), none, none, none, none]) (st' := [.int 0]) (m' := m6) [(.iconst 0, 0, 0, 0, 0)] (by decide +kernel) rfl ?_
  exact Ev.ireti rfl rfl (by decide +kernel)
set_option maxRecDepth 100000 in
set_option maxHeartbeats 4000000 in
theorem EX12_number_L49 {l : Launch} {Ln : Nat} {xs : Nat → Int32} {d : Nat} (f : Nat) (k : Int32 → ev_M → Option (Int32 × ev_M))  (a1 : Int32) (a2 : Int32) (a3 : Int32)   (hk : ∀ (e4 : Int32) (em : ev_M), Ev ev_eI l Ln xs YX12_number d Sx 129 [some (.ref 112), some (.int a1), some (.int a2), some (.int a3), some (.int e4)] [] em (k e4 em)) (hd : 1 ≤ d) : ∀ (n : Nat) (a4 : Int32) (m : ev_M), Ev ev_eI l Ln xs YX12_number d Sx 49 [some (.ref 112), some (.int a1), some (.int a2), some (.int a3), some (.int a4)] [] m (FX12_number_L49 f k a3 n a4 m) := by
  intro n
  induction n with
  | zero => intros; exact Ev.nn
  | succ n ih =>
    intro a4 m
    rw [FX12_number_L49]
    refine Ev.run (pc' := 57) (ls' := [some (.ref 112), some (.int a1), some (.int a2), some (.int a3), some (.int a4)]) (st' := [.int (m.1 112 3), .int (m.1 112 2)]) (m' := m) [(.aload_n 0, 0, 0, 0, 0), (.getfield 234, 12, 2, 0, 0), (.aload_n 0, 0, 0, 0, 0), (.getfield 237, 12, 3, 0, 0)] (by decide +kernel) rfl ?_
    refine Ev.ic_ge (t := 129) (by decide +kernel) ?_ ?_
    · exact hk _ _
    · refine Ev.run (pc' := 68) (ls' := [some (.ref 112), some (.int a1), some (.int a2), some (.int a3), some (.int a4)]) (st' := [.int (m.1 112 2), .ref 113]) (m' := m) [(.aload_n 0, 0, 0, 0, 0), (.getfield 7, 12, 0, 0, 0), (.aload_n 0, 0, 0, 0, 0), (.getfield 234, 12, 2, 0, 0)] (by decide +kernel) rfl ?_
      refine Ev.iald (n := 1600) (by decide +kernel) (by decide) rfl ?_
      refine Ev.cS (av := [.int (m.1 113 (m.1 112 2).toNatClampNeg)]) (st := []) (EX12_isDigit (l := l) (Ln := Ln) (xs := xs) (d := 0) f (m.1 113 (m.1 112 2).toNatClampNeg) m (by decide)) rfl (by decide +kernel) mwX12_isDigit swX12_isDigit lk_12_265 (by omega) rfl (Nat.le_of_ble_eq_true rfl) (fun r7 m8 => ?_)
      refine Ev.if_eq (t := 129) (by decide +kernel) ?_ ?_
      · exact hk _ _
      · refine Ev.run (pc' := 82) (ls' := [some (.ref 112), some (.int a1), some (.int a2), some (.int a3), some (.int a4)]) (st' := [.int 4, .int ((m8.1 112 2) - a3)]) (m' := m8) [(.aload_n 0, 0, 0, 0, 0), (.getfield 234, 12, 2, 0, 0), (.iload_n 3, 0, 0, 0, 0), (.isub, 0, 0, 0, 0), (.iconst 4, 0, 0, 4, 0)] (by decide +kernel) rfl ?_
        refine Ev.ic_ne (t := 96) (by decide +kernel) ?_ ?_
        · refine Ev.run (pc' := 109) (ls' := [some (.ref 112), some (.int a1), some (.int a2), some (.int a3), some (.int a4)]) (st' := [.int (m8.1 112 2), .ref 113, .int (10 * a4)]) (m' := m8) [(.bipush 10, 0, 0, 10, 0), (.iload 4, 0, 0, 0, 0), (.imul, 0, 0, 0, 0), (.aload_n 0, 0, 0, 0, 0), (.getfield 7, 12, 0, 0, 0), (.aload_n 0, 0, 0, 0, 0), (.getfield 234, 12, 2, 0, 0)] (by decide +kernel) rfl ?_
          refine Ev.iald (n := 1600) (by decide +kernel) (by decide) rfl ?_
          refine Ev.run (pc' := 126) (ls' := [some (.ref 112), some (.int a1), some (.int a2), some (.int a3), some (.int (((10 * a4) + (m8.1 113 (m8.1 112 2).toNatClampNeg)) - 48))]) (st' := []) (m' := ((ev_up m8.1 112 2 ((m8.1 112 2) + 1)), m8.2)) [(.iadd, 0, 0, 0, 0), (.bipush 48, 0, 0, 48, 0), (.isub, 0, 0, 0, 0), (.istore 4, 0, 0, 0, 0), (.aload_n 0, 0, 0, 0, 0), (.dup, 0, 0, 0, 0), (.getfield 234, 12, 2, 0, 0), (.iconst 1, 0, 0, 1, 0), (.iadd, 0, 0, 0, 0), (.putfield 234, 12, 2, 0, 0)] (by decide +kernel) rfl ?_
          refine Ev.gto (t := 49) (by decide +kernel) ?_
          exact ih _ _
        · refine Ev.run (pc' := 91) (ls' := [some (.ref 112), some (.int a1), some (.int a2), some (.int a3), some (.int a4)]) (st' := [.int (m8.1 112 2), .int 1, .ref 112]) (m' := m8) [(.aload_n 0, 0, 0, 0, 0), (.iconst 1, 0, 0, 1, 0), (.aload_n 0, 0, 0, 0, 0), (.getfield 234, 12, 2, 0, 0)] (by decide +kernel) rfl ?_
          refine Ev.cV (av := [.int 1, .int (m8.1 112 2)]) (st := []) (a := 112) (EX12_fail (l := l) (Ln := Ln) (xs := xs) (d := 0) f (1 : Int32) (m8.1 112 2) m8 (by decide)) rfl (by decide +kernel) mwX12_fail iwX12_fail vwX12_fail lk_12_258 (by omega) (by decide) rfl (by decide) rfl rfl (Nat.le_of_ble_eq_true rfl) (fun r9 m10 => ?_)
          refine Ev.run (pc' := 95) (ls' := [some (.ref 112), some (.int a1), some (.int a2), some (.int a3), some (.int a4)]) (st' := [.int 0]) (m' := m10) [(.iconst 0, 0, 0, 0, 0)] (by decide +kernel) rfl ?_
          exact Ev.ireti rfl rfl (by decide +kernel)
set_option maxRecDepth 100000 in
set_option maxHeartbeats 4000000 in
theorem EX12_number_J129 {l : Launch} {Ln : Nat} {xs : Nat → Int32} {d : Nat} (f : Nat)   (a1 : Int32) (a2 : Int32) (a3 : Int32) (a4 : Int32)  (m : ev_M)   (hd : 1 ≤ d) : Ev ev_eI l Ln xs YX12_number d Sx 129 [some (.ref 112), some (.int a1), some (.int a2), some (.int a3), some (.int a4)] [] m (FX12_number_J129 f a1 a2 a3 a4 m) := by
  unfold FX12_number_J129
  refine Ev.run (pc' := 144) (ls' := [some (.ref 112), some (.int a1), some (.int a2), some (.int a3), some (.int a4)]) (st' := [.long (a2 : Int32).toInt64, .long (a1 : Int32).toInt64, .long (a4 : Int32).toInt64]) (m' := ((ev_up m.1 112 4 (m.1 112 2)), m.2)) [(.aload_n 0, 0, 0, 0, 0), (.aload_n 0, 0, 0, 0, 0), (.getfield 234, 12, 2, 0, 0), (.putfield 248, 12, 4, 0, 0), (.iload 4, 0, 0, 0, 0), (.i2l, 0, 0, 0, 0), (.iload_n 1, 0, 0, 0, 0), (.i2l, 0, 0, 0, 0), (.iload_n 2, 0, 0, 0, 0), (.i2l, 0, 0, 0, 0)] (by decide +kernel) rfl ?_
  refine Ev.cS (av := [.long (a4 : Int32).toInt64, .long (a1 : Int32).toInt64, .long (a2 : Int32).toInt64]) (st := []) (EX12_isIn (l := l) (Ln := Ln) (xs := xs) (d := 0) f (a4 : Int32).toInt64 (a1 : Int32).toInt64 (a2 : Int32).toInt64 ((ev_up m.1 112 4 (m.1 112 2)), m.2) (by decide)) rfl (by decide +kernel) mwX12_isIn swX12_isIn lk_12_268 (by omega) rfl (Nat.le_of_ble_eq_true rfl) (fun r13 m14 => ?_)
  refine Ev.if_ne (t := 156) (by decide +kernel) ?_ ?_
  · refine Ev.run (pc' := 158) (ls' := [some (.ref 112), some (.int a1), some (.int a2), some (.int a3), some (.int a4)]) (st' := [.int a4]) (m' := m14) [(.iload 4, 0, 0, 0, 0)] (by decide +kernel) rfl ?_
    exact Ev.ireti rfl rfl (by decide +kernel)
  · refine Ev.run (pc' := 153) (ls' := [some (.ref 112), some (.int a1), some (.int a2), some (.int a3), some (.int a4)]) (st' := [.int a3, .int 2, .ref 112]) (m' := m14) [(.aload_n 0, 0, 0, 0, 0), (.iconst 2, 0, 0, 2, 0), (.iload_n 3, 0, 0, 0, 0)] (by decide +kernel) rfl ?_
    refine Ev.cV (av := [.int 2, .int a3]) (st := []) (a := 112) (EX12_fail (l := l) (Ln := Ln) (xs := xs) (d := 0) f (2 : Int32) a3 m14 (by decide)) rfl (by decide +kernel) mwX12_fail iwX12_fail vwX12_fail lk_12_258 (by omega) (by decide) rfl (by decide) rfl rfl (Nat.le_of_ble_eq_true rfl) (fun r15 m16 => ?_)
    refine Ev.run (pc' := 158) (ls' := [some (.ref 112), some (.int a1), some (.int a2), some (.int a3), some (.int a4)]) (st' := [.int a4]) (m' := m16) [(.iload 4, 0, 0, 0, 0)] (by decide +kernel) rfl ?_
    exact Ev.ireti rfl rfl (by decide +kernel)
set_option maxRecDepth 100000 in
set_option maxHeartbeats 4000000 in
theorem EX12_number {l : Launch} {Ln : Nat} {xs : Nat → Int32} {d : Nat} (f : Nat) (a1 : Int32) (a2 : Int32) (m : ev_M)  (hd : 1 ≤ d) : Mv ev_eI l Ln xs YX12_number d Sx [.ref 112, .int a1, .int a2] m (FX12_number f a1 a2 m) := by
  refine Mv.of (by decide +kernel) rfl (Nat.le_of_ble_eq_true rfl) (Ev.le (ls' := [some (.ref 112), some (.int a1), some (.int a2), none, none]) ⟨rfl, ⟨rfl, ⟨rfl, trivial⟩⟩⟩ ?_)
  unfold FX12_number
  refine Ev.run (pc' := 4) (ls' := [some (.ref 112), some (.int a1), some (.int a2), none, none]) (st' := [.int (m.1 112 5)]) (m' := m) [(.aload_n 0, 0, 0, 0, 0), (.getfield 228, 12, 5, 0, 0)] (by decide +kernel) rfl ?_
  refine Ev.if_eq (t := 9) (by decide +kernel) ?_ ?_
  · refine Ev.run (pc' := 10) (ls' := [some (.ref 112), some (.int a1), some (.int a2), none, none]) (st' := [.ref 112]) (m' := m) [(.aload_n 0, 0, 0, 0, 0)] (by decide +kernel) rfl ?_
    refine Ev.cV (av := []) (st := []) (a := 112) (EX12_look (l := l) (Ln := Ln) (xs := xs) (d := 0) f m (by decide)) rfl (by decide +kernel) mwX12_look iwX12_look vwX12_look lk_12_240 (by omega) (by decide) rfl (by decide) rfl rfl (Nat.le_of_ble_eq_true rfl) (fun r1 m2 => ?_)
    refine Ev.cS (av := [.int r1]) (st := []) (EX12_isDigit (l := l) (Ln := Ln) (xs := xs) (d := 0) f r1 m2 (by decide)) rfl (by decide +kernel) mwX12_isDigit swX12_isDigit lk_12_265 (by omega) rfl (Nat.le_of_ble_eq_true rfl) (fun r3 m4 => ?_)
    refine Ev.if_eq (t := 30) (by decide +kernel) ?_ ?_
    · refine Ev.le (ls' := [some (.ref 112), none, none, none, none]) ⟨rfl, trivial⟩ ?_
      exact EX12_number_J30 f m4 (by omega)
    · refine Ev.run (pc' := 27) (ls' := [some (.ref 112), some (.int a1), some (.int a2), none, none]) (st' := [.int (m4.1 112 4), .int (m4.1 112 2)]) (m' := m4) [(.aload_n 0, 0, 0, 0, 0), (.getfield 234, 12, 2, 0, 0), (.aload_n 0, 0, 0, 0, 0), (.getfield 248, 12, 4, 0, 0)] (by decide +kernel) rfl ?_
      refine Ev.ic_ne (t := 41) (by decide +kernel) ?_ ?_
      · refine Ev.run (pc' := 49) (ls' := [some (.ref 112), some (.int a1), some (.int a2), some (.int (m4.1 112 2)), some (.int 0)]) (st' := []) (m' := m4) [(.aload_n 0, 0, 0, 0, 0), (.getfield 234, 12, 2, 0, 0), (.istore_n 3, 0, 0, 0, 0), (.iconst 0, 0, 0, 0, 0), (.istore 4, 0, 0, 0, 0)] (by decide +kernel) rfl ?_
        refine EX12_number_L49 f _ a1 a2 (m4.1 112 2) ?_ (by omega) _ _ _
        intro e11 m12
        exact EX12_number_J129 f a1 a2 (m4.1 112 2) e11 m12 (by omega)
      · refine Ev.le (ls' := [some (.ref 112), none, none, none, none]) ⟨rfl, trivial⟩ ?_
        exact EX12_number_J30 f m4 (by omega)
  · refine Ev.run (pc' := 8) (ls' := [some (.ref 112), some (.int a1), some (.int a2), none, none]) (st' := [.int 0]) (m' := m) [(.iconst 0, 0, 0, 0, 0)] (by decide +kernel) rfl ?_
    exact Ev.ireti rfl rfl (by decide +kernel)
def FX12_isOwnHere_J223 (f : Nat)    (s0 : Int32) (m : ev_M) : Option (Int32 × ev_M) :=
  (if s0 = 0 then (ev_bd (FX12_isHere f 133 m) (fun r3 m4 => (if r3 = 0 then (ev_bd (FX12_isHere f 134 m4) (fun r5 m6 => (if r5 = 0 then (ev_bd (FX12_isHere f 135 m6) (fun r7 m8 => (if r7 = 0 then (ev_bd (FX12_isHere f 136 m8) (fun r9 m10 => (if r9 = 0 then (ev_bd (FX12_isHere f 137 m10) (fun r11 m12 => (if r11 = 0 then some (0, m12) else some (1, m12)))) else some (1, m10)))) else some (1, m8)))) else some (1, m6)))) else some (1, m4)))) else some (1, m))
def FX12_isOwnHere_J218 (f : Nat)     (m : ev_M) : Option (Int32 × ev_M) :=
  (FX12_isOwnHere_J223 f (1 : Int32) m)
def FX12_isOwnHere_J147 (f : Nat)    (s0 : Int32) (m : ev_M) : Option (Int32 × ev_M) :=
  (if s0 = 0 then (ev_bd (FX12_isHere f 127 m) (fun r13 m14 => (if r13 = 0 then (ev_bd (FX12_isHere f 128 m14) (fun r15 m16 => (if r15 = 0 then (ev_bd (FX12_isHere f 129 m16) (fun r17 m18 => (if r17 = 0 then (ev_bd (FX12_isHere f 130 m18) (fun r19 m20 => (if r19 = 0 then (ev_bd (FX12_isHere f 131 m20) (fun r21 m22 => (if r21 = 0 then (ev_bd (FX12_isHere f 132 m22) (fun r23 m24 => (if r23 = 0 then (FX12_isOwnHere_J223 f (0 : Int32) m24) else (FX12_isOwnHere_J218 f m24)))) else (FX12_isOwnHere_J218 f m22)))) else (FX12_isOwnHere_J218 f m20)))) else (FX12_isOwnHere_J218 f m18)))) else (FX12_isOwnHere_J218 f m16)))) else (FX12_isOwnHere_J218 f m14)))) else (FX12_isOwnHere_J218 f m))
def FX12_isOwnHere_J142 (f : Nat)     (m : ev_M) : Option (Int32 × ev_M) :=
  (FX12_isOwnHere_J147 f (1 : Int32) m)
def FX12_isOwnHere_J71 (f : Nat)    (s0 : Int32) (m : ev_M) : Option (Int32 × ev_M) :=
  (if s0 = 0 then (ev_bd (FX12_isHere f 121 m) (fun r25 m26 => (if r25 = 0 then (ev_bd (FX12_isHere f 122 m26) (fun r27 m28 => (if r27 = 0 then (ev_bd (FX12_isHere f 123 m28) (fun r29 m30 => (if r29 = 0 then (ev_bd (FX12_isHere f 124 m30) (fun r31 m32 => (if r31 = 0 then (ev_bd (FX12_isHere f 125 m32) (fun r33 m34 => (if r33 = 0 then (ev_bd (FX12_isHere f 126 m34) (fun r35 m36 => (if r35 = 0 then (FX12_isOwnHere_J147 f (0 : Int32) m36) else (FX12_isOwnHere_J142 f m36)))) else (FX12_isOwnHere_J142 f m34)))) else (FX12_isOwnHere_J142 f m32)))) else (FX12_isOwnHere_J142 f m30)))) else (FX12_isOwnHere_J142 f m28)))) else (FX12_isOwnHere_J142 f m26)))) else (FX12_isOwnHere_J142 f m))
def FX12_isOwnHere_J66 (f : Nat)     (m : ev_M) : Option (Int32 × ev_M) :=
  (FX12_isOwnHere_J71 f (1 : Int32) m)
def FX12_isOwnHere (f : Nat)  (m : ev_M) : Option (Int32 × ev_M) :=
  (ev_bd (FX12_isHere f 115 m) (fun r1 m2 => (if r1 = 0 then (ev_bd (FX12_isHere f 116 m2) (fun r37 m38 => (if r37 = 0 then (ev_bd (FX12_isHere f 117 m38) (fun r39 m40 => (if r39 = 0 then (ev_bd (FX12_isHere f 118 m40) (fun r41 m42 => (if r41 = 0 then (ev_bd (FX12_isHere f 119 m42) (fun r43 m44 => (if r43 = 0 then (ev_bd (FX12_isHere f 120 m44) (fun r45 m46 => (if r45 = 0 then (FX12_isOwnHere_J71 f (0 : Int32) m46) else (FX12_isOwnHere_J66 f m46)))) else (FX12_isOwnHere_J66 f m44)))) else (FX12_isOwnHere_J66 f m42)))) else (FX12_isOwnHere_J66 f m40)))) else (FX12_isOwnHere_J66 f m38)))) else (FX12_isOwnHere_J66 f m2))))
set_option maxRecDepth 100000 in
set_option maxHeartbeats 4000000 in
theorem EX12_isOwnHere_J223 {l : Launch} {Ln : Nat} {xs : Nat → Int32} {d : Nat} (f : Nat)    (s0 : Int32) (m : ev_M)   (hd : 2 ≤ d) : Ev ev_eI l Ln xs YX12_isOwnHere d Sx 223 [some (.ref 112), none] [.int s0] m (FX12_isOwnHere_J223 f s0 m) := by
  unfold FX12_isOwnHere_J223
  refine Ev.run (pc' := 225) (ls' := [some (.ref 112), some (.int s0)]) (st' := [.int s0]) (m' := m) [(.istore_n 1, 0, 0, 0, 0), (.iload_n 1, 0, 0, 0, 0)] (by decide +kernel) rfl ?_
  refine Ev.if_ne (t := 283) (by decide +kernel) ?_ ?_
  · refine Ev.run (pc' := 284) (ls' := [some (.ref 112), some (.int s0)]) (st' := [.int 1]) (m' := m) [(.iconst 1, 0, 0, 1, 0)] (by decide +kernel) rfl ?_
    refine Ev.gto (t := 288) (by decide +kernel) ?_
    refine Ev.run (pc' := 290) (ls' := [some (.ref 112), some (.int 1)]) (st' := [.int 1]) (m' := m) [(.istore_n 1, 0, 0, 0, 0), (.iload_n 1, 0, 0, 0, 0)] (by decide +kernel) rfl ?_
    exact Ev.iretz rfl rfl (by decide +kernel) (by decide)
  · refine Ev.run (pc' := 233) (ls' := [some (.ref 112), some (.int s0)]) (st' := [.ref 133, .ref 112]) (m' := m) [(.aload_n 0, 0, 0, 0, 0), (.aload_n 0, 0, 0, 0, 0), (.getfield 75, 12, 28, 0, 0)] (by decide +kernel) rfl ?_
    refine Ev.cV (av := [.ref 133]) (st := []) (a := 112) (EX12_isHere (l := l) (Ln := Ln) (xs := xs) (d := 1) f 133 m (by decide) (by decide)) rfl (by decide +kernel) mwX12_isHere iwX12_isHere vwX12_isHere lk_12_251 (by omega) (by decide) rfl (by decide) rfl rfl (Nat.le_of_ble_eq_true rfl) (fun r3 m4 => ?_)
    refine Ev.if_ne (t := 283) (by decide +kernel) ?_ ?_
    · refine Ev.run (pc' := 284) (ls' := [some (.ref 112), some (.int s0)]) (st' := [.int 1]) (m' := m4) [(.iconst 1, 0, 0, 1, 0)] (by decide +kernel) rfl ?_
      refine Ev.gto (t := 288) (by decide +kernel) ?_
      refine Ev.run (pc' := 290) (ls' := [some (.ref 112), some (.int 1)]) (st' := [.int 1]) (m' := m4) [(.istore_n 1, 0, 0, 0, 0), (.iload_n 1, 0, 0, 0, 0)] (by decide +kernel) rfl ?_
      exact Ev.iretz rfl rfl (by decide +kernel) (by decide)
    · refine Ev.run (pc' := 244) (ls' := [some (.ref 112), some (.int s0)]) (st' := [.ref 134, .ref 112]) (m' := m4) [(.aload_n 0, 0, 0, 0, 0), (.aload_n 0, 0, 0, 0, 0), (.getfield 78, 12, 29, 0, 0)] (by decide +kernel) rfl ?_
      refine Ev.cV (av := [.ref 134]) (st := []) (a := 112) (EX12_isHere (l := l) (Ln := Ln) (xs := xs) (d := 1) f 134 m4 (by decide) (by decide)) rfl (by decide +kernel) mwX12_isHere iwX12_isHere vwX12_isHere lk_12_251 (by omega) (by decide) rfl (by decide) rfl rfl (Nat.le_of_ble_eq_true rfl) (fun r5 m6 => ?_)
      refine Ev.if_ne (t := 283) (by decide +kernel) ?_ ?_
      · refine Ev.run (pc' := 284) (ls' := [some (.ref 112), some (.int s0)]) (st' := [.int 1]) (m' := m6) [(.iconst 1, 0, 0, 1, 0)] (by decide +kernel) rfl ?_
        refine Ev.gto (t := 288) (by decide +kernel) ?_
        refine Ev.run (pc' := 290) (ls' := [some (.ref 112), some (.int 1)]) (st' := [.int 1]) (m' := m6) [(.istore_n 1, 0, 0, 0, 0), (.iload_n 1, 0, 0, 0, 0)] (by decide +kernel) rfl ?_
        exact Ev.iretz rfl rfl (by decide +kernel) (by decide)
      · refine Ev.run (pc' := 255) (ls' := [some (.ref 112), some (.int s0)]) (st' := [.ref 135, .ref 112]) (m' := m6) [(.aload_n 0, 0, 0, 0, 0), (.aload_n 0, 0, 0, 0, 0), (.getfield 81, 12, 30, 0, 0)] (by decide +kernel) rfl ?_
        refine Ev.cV (av := [.ref 135]) (st := []) (a := 112) (EX12_isHere (l := l) (Ln := Ln) (xs := xs) (d := 1) f 135 m6 (by decide) (by decide)) rfl (by decide +kernel) mwX12_isHere iwX12_isHere vwX12_isHere lk_12_251 (by omega) (by decide) rfl (by decide) rfl rfl (Nat.le_of_ble_eq_true rfl) (fun r7 m8 => ?_)
        refine Ev.if_ne (t := 283) (by decide +kernel) ?_ ?_
        · refine Ev.run (pc' := 284) (ls' := [some (.ref 112), some (.int s0)]) (st' := [.int 1]) (m' := m8) [(.iconst 1, 0, 0, 1, 0)] (by decide +kernel) rfl ?_
          refine Ev.gto (t := 288) (by decide +kernel) ?_
          refine Ev.run (pc' := 290) (ls' := [some (.ref 112), some (.int 1)]) (st' := [.int 1]) (m' := m8) [(.istore_n 1, 0, 0, 0, 0), (.iload_n 1, 0, 0, 0, 0)] (by decide +kernel) rfl ?_
          exact Ev.iretz rfl rfl (by decide +kernel) (by decide)
        · refine Ev.run (pc' := 266) (ls' := [some (.ref 112), some (.int s0)]) (st' := [.ref 136, .ref 112]) (m' := m8) [(.aload_n 0, 0, 0, 0, 0), (.aload_n 0, 0, 0, 0, 0), (.getfield 84, 12, 31, 0, 0)] (by decide +kernel) rfl ?_
          refine Ev.cV (av := [.ref 136]) (st := []) (a := 112) (EX12_isHere (l := l) (Ln := Ln) (xs := xs) (d := 1) f 136 m8 (by decide) (by decide)) rfl (by decide +kernel) mwX12_isHere iwX12_isHere vwX12_isHere lk_12_251 (by omega) (by decide) rfl (by decide) rfl rfl (Nat.le_of_ble_eq_true rfl) (fun r9 m10 => ?_)
          refine Ev.if_ne (t := 283) (by decide +kernel) ?_ ?_
          · refine Ev.run (pc' := 284) (ls' := [some (.ref 112), some (.int s0)]) (st' := [.int 1]) (m' := m10) [(.iconst 1, 0, 0, 1, 0)] (by decide +kernel) rfl ?_
            refine Ev.gto (t := 288) (by decide +kernel) ?_
            refine Ev.run (pc' := 290) (ls' := [some (.ref 112), some (.int 1)]) (st' := [.int 1]) (m' := m10) [(.istore_n 1, 0, 0, 0, 0), (.iload_n 1, 0, 0, 0, 0)] (by decide +kernel) rfl ?_
            exact Ev.iretz rfl rfl (by decide +kernel) (by decide)
          · refine Ev.run (pc' := 277) (ls' := [some (.ref 112), some (.int s0)]) (st' := [.ref 137, .ref 112]) (m' := m10) [(.aload_n 0, 0, 0, 0, 0), (.aload_n 0, 0, 0, 0, 0), (.getfield 87, 12, 32, 0, 0)] (by decide +kernel) rfl ?_
            refine Ev.cV (av := [.ref 137]) (st := []) (a := 112) (EX12_isHere (l := l) (Ln := Ln) (xs := xs) (d := 1) f 137 m10 (by decide) (by decide)) rfl (by decide +kernel) mwX12_isHere iwX12_isHere vwX12_isHere lk_12_251 (by omega) (by decide) rfl (by decide) rfl rfl (Nat.le_of_ble_eq_true rfl) (fun r11 m12 => ?_)
            refine Ev.if_eq (t := 287) (by decide +kernel) ?_ ?_
            · refine Ev.run (pc' := 290) (ls' := [some (.ref 112), some (.int 0)]) (st' := [.int 0]) (m' := m12) [(.iconst 0, 0, 0, 0, 0), (.istore_n 1, 0, 0, 0, 0), (.iload_n 1, 0, 0, 0, 0)] (by decide +kernel) rfl ?_
              exact Ev.iretz rfl rfl (by decide +kernel) (by decide)
            · refine Ev.run (pc' := 284) (ls' := [some (.ref 112), some (.int s0)]) (st' := [.int 1]) (m' := m12) [(.iconst 1, 0, 0, 1, 0)] (by decide +kernel) rfl ?_
              refine Ev.gto (t := 288) (by decide +kernel) ?_
              refine Ev.run (pc' := 290) (ls' := [some (.ref 112), some (.int 1)]) (st' := [.int 1]) (m' := m12) [(.istore_n 1, 0, 0, 0, 0), (.iload_n 1, 0, 0, 0, 0)] (by decide +kernel) rfl ?_
              exact Ev.iretz rfl rfl (by decide +kernel) (by decide)
set_option maxRecDepth 100000 in
set_option maxHeartbeats 4000000 in
theorem EX12_isOwnHere_J218 {l : Launch} {Ln : Nat} {xs : Nat → Int32} {d : Nat} (f : Nat)     (m : ev_M)   (hd : 2 ≤ d) : Ev ev_eI l Ln xs YX12_isOwnHere d Sx 218 [some (.ref 112), none] [] m (FX12_isOwnHere_J218 f m) := by
  unfold FX12_isOwnHere_J218
  refine Ev.run (pc' := 219) (ls' := [some (.ref 112), none]) (st' := [.int 1]) (m' := m) [(.iconst 1, 0, 0, 1, 0)] (by decide +kernel) rfl ?_
  refine Ev.gto (t := 223) (by decide +kernel) ?_
  exact EX12_isOwnHere_J223 f (1 : Int32) m (by omega)
set_option maxRecDepth 100000 in
set_option maxHeartbeats 4000000 in
theorem EX12_isOwnHere_J147 {l : Launch} {Ln : Nat} {xs : Nat → Int32} {d : Nat} (f : Nat)    (s0 : Int32) (m : ev_M)   (hd : 2 ≤ d) : Ev ev_eI l Ln xs YX12_isOwnHere d Sx 147 [some (.ref 112), none] [.int s0] m (FX12_isOwnHere_J147 f s0 m) := by
  unfold FX12_isOwnHere_J147
  refine Ev.run (pc' := 149) (ls' := [some (.ref 112), some (.int s0)]) (st' := [.int s0]) (m' := m) [(.istore_n 1, 0, 0, 0, 0), (.iload_n 1, 0, 0, 0, 0)] (by decide +kernel) rfl ?_
  refine Ev.if_ne (t := 218) (by decide +kernel) ?_ ?_
  · refine Ev.le (ls' := [some (.ref 112), none]) ⟨rfl, trivial⟩ ?_
    exact EX12_isOwnHere_J218 f m (by omega)
  · refine Ev.run (pc' := 157) (ls' := [some (.ref 112), some (.int s0)]) (st' := [.ref 127, .ref 112]) (m' := m) [(.aload_n 0, 0, 0, 0, 0), (.aload_n 0, 0, 0, 0, 0), (.getfield 57, 12, 22, 0, 0)] (by decide +kernel) rfl ?_
    refine Ev.cV (av := [.ref 127]) (st := []) (a := 112) (EX12_isHere (l := l) (Ln := Ln) (xs := xs) (d := 1) f 127 m (by decide) (by decide)) rfl (by decide +kernel) mwX12_isHere iwX12_isHere vwX12_isHere lk_12_251 (by omega) (by decide) rfl (by decide) rfl rfl (Nat.le_of_ble_eq_true rfl) (fun r13 m14 => ?_)
    refine Ev.if_ne (t := 218) (by decide +kernel) ?_ ?_
    · refine Ev.le (ls' := [some (.ref 112), none]) ⟨rfl, trivial⟩ ?_
      exact EX12_isOwnHere_J218 f m14 (by omega)
    · refine Ev.run (pc' := 168) (ls' := [some (.ref 112), some (.int s0)]) (st' := [.ref 128, .ref 112]) (m' := m14) [(.aload_n 0, 0, 0, 0, 0), (.aload_n 0, 0, 0, 0, 0), (.getfield 60, 12, 23, 0, 0)] (by decide +kernel) rfl ?_
      refine Ev.cV (av := [.ref 128]) (st := []) (a := 112) (EX12_isHere (l := l) (Ln := Ln) (xs := xs) (d := 1) f 128 m14 (by decide) (by decide)) rfl (by decide +kernel) mwX12_isHere iwX12_isHere vwX12_isHere lk_12_251 (by omega) (by decide) rfl (by decide) rfl rfl (Nat.le_of_ble_eq_true rfl) (fun r15 m16 => ?_)
      refine Ev.if_ne (t := 218) (by decide +kernel) ?_ ?_
      · refine Ev.le (ls' := [some (.ref 112), none]) ⟨rfl, trivial⟩ ?_
        exact EX12_isOwnHere_J218 f m16 (by omega)
      · refine Ev.run (pc' := 179) (ls' := [some (.ref 112), some (.int s0)]) (st' := [.ref 129, .ref 112]) (m' := m16) [(.aload_n 0, 0, 0, 0, 0), (.aload_n 0, 0, 0, 0, 0), (.getfield 63, 12, 24, 0, 0)] (by decide +kernel) rfl ?_
        refine Ev.cV (av := [.ref 129]) (st := []) (a := 112) (EX12_isHere (l := l) (Ln := Ln) (xs := xs) (d := 1) f 129 m16 (by decide) (by decide)) rfl (by decide +kernel) mwX12_isHere iwX12_isHere vwX12_isHere lk_12_251 (by omega) (by decide) rfl (by decide) rfl rfl (Nat.le_of_ble_eq_true rfl) (fun r17 m18 => ?_)
        refine Ev.if_ne (t := 218) (by decide +kernel) ?_ ?_
        · refine Ev.le (ls' := [some (.ref 112), none]) ⟨rfl, trivial⟩ ?_
          exact EX12_isOwnHere_J218 f m18 (by omega)
        · refine Ev.run (pc' := 190) (ls' := [some (.ref 112), some (.int s0)]) (st' := [.ref 130, .ref 112]) (m' := m18) [(.aload_n 0, 0, 0, 0, 0), (.aload_n 0, 0, 0, 0, 0), (.getfield 66, 12, 25, 0, 0)] (by decide +kernel) rfl ?_
          refine Ev.cV (av := [.ref 130]) (st := []) (a := 112) (EX12_isHere (l := l) (Ln := Ln) (xs := xs) (d := 1) f 130 m18 (by decide) (by decide)) rfl (by decide +kernel) mwX12_isHere iwX12_isHere vwX12_isHere lk_12_251 (by omega) (by decide) rfl (by decide) rfl rfl (Nat.le_of_ble_eq_true rfl) (fun r19 m20 => ?_)
          refine Ev.if_ne (t := 218) (by decide +kernel) ?_ ?_
          · refine Ev.le (ls' := [some (.ref 112), none]) ⟨rfl, trivial⟩ ?_
            exact EX12_isOwnHere_J218 f m20 (by omega)
          · refine Ev.run (pc' := 201) (ls' := [some (.ref 112), some (.int s0)]) (st' := [.ref 131, .ref 112]) (m' := m20) [(.aload_n 0, 0, 0, 0, 0), (.aload_n 0, 0, 0, 0, 0), (.getfield 69, 12, 26, 0, 0)] (by decide +kernel) rfl ?_
            refine Ev.cV (av := [.ref 131]) (st := []) (a := 112) (EX12_isHere (l := l) (Ln := Ln) (xs := xs) (d := 1) f 131 m20 (by decide) (by decide)) rfl (by decide +kernel) mwX12_isHere iwX12_isHere vwX12_isHere lk_12_251 (by omega) (by decide) rfl (by decide) rfl rfl (Nat.le_of_ble_eq_true rfl) (fun r21 m22 => ?_)
            refine Ev.if_ne (t := 218) (by decide +kernel) ?_ ?_
            · refine Ev.le (ls' := [some (.ref 112), none]) ⟨rfl, trivial⟩ ?_
              exact EX12_isOwnHere_J218 f m22 (by omega)
            · refine Ev.run (pc' := 212) (ls' := [some (.ref 112), some (.int s0)]) (st' := [.ref 132, .ref 112]) (m' := m22) [(.aload_n 0, 0, 0, 0, 0), (.aload_n 0, 0, 0, 0, 0), (.getfield 72, 12, 27, 0, 0)] (by decide +kernel) rfl ?_
              refine Ev.cV (av := [.ref 132]) (st := []) (a := 112) (EX12_isHere (l := l) (Ln := Ln) (xs := xs) (d := 1) f 132 m22 (by decide) (by decide)) rfl (by decide +kernel) mwX12_isHere iwX12_isHere vwX12_isHere lk_12_251 (by omega) (by decide) rfl (by decide) rfl rfl (Nat.le_of_ble_eq_true rfl) (fun r23 m24 => ?_)
              refine Ev.if_eq (t := 222) (by decide +kernel) ?_ ?_
              · refine Ev.run (pc' := 223) (ls' := [some (.ref 112), some (.int s0)]) (st' := [.int 0]) (m' := m24) [(.iconst 0, 0, 0, 0, 0)] (by decide +kernel) rfl ?_
                refine Ev.le (ls' := [some (.ref 112), none]) ⟨rfl, trivial⟩ ?_
                exact EX12_isOwnHere_J223 f (0 : Int32) m24 (by omega)
              · refine Ev.le (ls' := [some (.ref 112), none]) ⟨rfl, trivial⟩ ?_
                exact EX12_isOwnHere_J218 f m24 (by omega)
set_option maxRecDepth 100000 in
set_option maxHeartbeats 4000000 in
theorem EX12_isOwnHere_J142 {l : Launch} {Ln : Nat} {xs : Nat → Int32} {d : Nat} (f : Nat)     (m : ev_M)   (hd : 2 ≤ d) : Ev ev_eI l Ln xs YX12_isOwnHere d Sx 142 [some (.ref 112), none] [] m (FX12_isOwnHere_J142 f m) := by
  unfold FX12_isOwnHere_J142
  refine Ev.run (pc' := 143) (ls' := [some (.ref 112), none]) (st' := [.int 1]) (m' := m) [(.iconst 1, 0, 0, 1, 0)] (by decide +kernel) rfl ?_
  refine Ev.gto (t := 147) (by decide +kernel) ?_
  exact EX12_isOwnHere_J147 f (1 : Int32) m (by omega)
set_option maxRecDepth 100000 in
set_option maxHeartbeats 4000000 in
theorem EX12_isOwnHere_J71 {l : Launch} {Ln : Nat} {xs : Nat → Int32} {d : Nat} (f : Nat)    (s0 : Int32) (m : ev_M)   (hd : 2 ≤ d) : Ev ev_eI l Ln xs YX12_isOwnHere d Sx 71 [some (.ref 112), none] [.int s0] m (FX12_isOwnHere_J71 f s0 m) := by
  unfold FX12_isOwnHere_J71
  refine Ev.run (pc' := 73) (ls' := [some (.ref 112), some (.int s0)]) (st' := [.int s0]) (m' := m) [(.istore_n 1, 0, 0, 0, 0), (.iload_n 1, 0, 0, 0, 0)] (by decide +kernel) rfl ?_
  refine Ev.if_ne (t := 142) (by decide +kernel) ?_ ?_
  · refine Ev.le (ls' := [some (.ref 112), none]) ⟨rfl, trivial⟩ ?_
    exact EX12_isOwnHere_J142 f m (by omega)
  · refine Ev.run (pc' := 81) (ls' := [some (.ref 112), some (.int s0)]) (st' := [.ref 121, .ref 112]) (m' := m) [(.aload_n 0, 0, 0, 0, 0), (.aload_n 0, 0, 0, 0, 0), (.getfield 39, 12, 16, 0, 0)] (by decide +kernel) rfl ?_
    refine Ev.cV (av := [.ref 121]) (st := []) (a := 112) (EX12_isHere (l := l) (Ln := Ln) (xs := xs) (d := 1) f 121 m (by decide) (by decide)) rfl (by decide +kernel) mwX12_isHere iwX12_isHere vwX12_isHere lk_12_251 (by omega) (by decide) rfl (by decide) rfl rfl (Nat.le_of_ble_eq_true rfl) (fun r25 m26 => ?_)
    refine Ev.if_ne (t := 142) (by decide +kernel) ?_ ?_
    · refine Ev.le (ls' := [some (.ref 112), none]) ⟨rfl, trivial⟩ ?_
      exact EX12_isOwnHere_J142 f m26 (by omega)
    · refine Ev.run (pc' := 92) (ls' := [some (.ref 112), some (.int s0)]) (st' := [.ref 122, .ref 112]) (m' := m26) [(.aload_n 0, 0, 0, 0, 0), (.aload_n 0, 0, 0, 0, 0), (.getfield 42, 12, 17, 0, 0)] (by decide +kernel) rfl ?_
      refine Ev.cV (av := [.ref 122]) (st := []) (a := 112) (EX12_isHere (l := l) (Ln := Ln) (xs := xs) (d := 1) f 122 m26 (by decide) (by decide)) rfl (by decide +kernel) mwX12_isHere iwX12_isHere vwX12_isHere lk_12_251 (by omega) (by decide) rfl (by decide) rfl rfl (Nat.le_of_ble_eq_true rfl) (fun r27 m28 => ?_)
      refine Ev.if_ne (t := 142) (by decide +kernel) ?_ ?_
      · refine Ev.le (ls' := [some (.ref 112), none]) ⟨rfl, trivial⟩ ?_
        exact EX12_isOwnHere_J142 f m28 (by omega)
      · refine Ev.run (pc' := 103) (ls' := [some (.ref 112), some (.int s0)]) (st' := [.ref 123, .ref 112]) (m' := m28) [(.aload_n 0, 0, 0, 0, 0), (.aload_n 0, 0, 0, 0, 0), (.getfield 45, 12, 18, 0, 0)] (by decide +kernel) rfl ?_
        refine Ev.cV (av := [.ref 123]) (st := []) (a := 112) (EX12_isHere (l := l) (Ln := Ln) (xs := xs) (d := 1) f 123 m28 (by decide) (by decide)) rfl (by decide +kernel) mwX12_isHere iwX12_isHere vwX12_isHere lk_12_251 (by omega) (by decide) rfl (by decide) rfl rfl (Nat.le_of_ble_eq_true rfl) (fun r29 m30 => ?_)
        refine Ev.if_ne (t := 142) (by decide +kernel) ?_ ?_
        · refine Ev.le (ls' := [some (.ref 112), none]) ⟨rfl, trivial⟩ ?_
          exact EX12_isOwnHere_J142 f m30 (by omega)
        · refine Ev.run (pc' := 114) (ls' := [some (.ref 112), some (.int s0)]) (st' := [.ref 124, .ref 112]) (m' := m30) [(.aload_n 0, 0, 0, 0, 0), (.aload_n 0, 0, 0, 0, 0), (.getfield 48, 12, 19, 0, 0)] (by decide +kernel) rfl ?_
          refine Ev.cV (av := [.ref 124]) (st := []) (a := 112) (EX12_isHere (l := l) (Ln := Ln) (xs := xs) (d := 1) f 124 m30 (by decide) (by decide)) rfl (by decide +kernel) mwX12_isHere iwX12_isHere vwX12_isHere lk_12_251 (by omega) (by decide) rfl (by decide) rfl rfl (Nat.le_of_ble_eq_true rfl) (fun r31 m32 => ?_)
          refine Ev.if_ne (t := 142) (by decide +kernel) ?_ ?_
          · refine Ev.le (ls' := [some (.ref 112), none]) ⟨rfl, trivial⟩ ?_
            exact EX12_isOwnHere_J142 f m32 (by omega)
          · refine Ev.run (pc' := 125) (ls' := [some (.ref 112), some (.int s0)]) (st' := [.ref 125, .ref 112]) (m' := m32) [(.aload_n 0, 0, 0, 0, 0), (.aload_n 0, 0, 0, 0, 0), (.getfield 51, 12, 20, 0, 0)] (by decide +kernel) rfl ?_
            refine Ev.cV (av := [.ref 125]) (st := []) (a := 112) (EX12_isHere (l := l) (Ln := Ln) (xs := xs) (d := 1) f 125 m32 (by decide) (by decide)) rfl (by decide +kernel) mwX12_isHere iwX12_isHere vwX12_isHere lk_12_251 (by omega) (by decide) rfl (by decide) rfl rfl (Nat.le_of_ble_eq_true rfl) (fun r33 m34 => ?_)
            refine Ev.if_ne (t := 142) (by decide +kernel) ?_ ?_
            · refine Ev.le (ls' := [some (.ref 112), none]) ⟨rfl, trivial⟩ ?_
              exact EX12_isOwnHere_J142 f m34 (by omega)
            · refine Ev.run (pc' := 136) (ls' := [some (.ref 112), some (.int s0)]) (st' := [.ref 126, .ref 112]) (m' := m34) [(.aload_n 0, 0, 0, 0, 0), (.aload_n 0, 0, 0, 0, 0), (.getfield 54, 12, 21, 0, 0)] (by decide +kernel) rfl ?_
              refine Ev.cV (av := [.ref 126]) (st := []) (a := 112) (EX12_isHere (l := l) (Ln := Ln) (xs := xs) (d := 1) f 126 m34 (by decide) (by decide)) rfl (by decide +kernel) mwX12_isHere iwX12_isHere vwX12_isHere lk_12_251 (by omega) (by decide) rfl (by decide) rfl rfl (Nat.le_of_ble_eq_true rfl) (fun r35 m36 => ?_)
              refine Ev.if_eq (t := 146) (by decide +kernel) ?_ ?_
              · refine Ev.run (pc' := 147) (ls' := [some (.ref 112), some (.int s0)]) (st' := [.int 0]) (m' := m36) [(.iconst 0, 0, 0, 0, 0)] (by decide +kernel) rfl ?_
                refine Ev.le (ls' := [some (.ref 112), none]) ⟨rfl, trivial⟩ ?_
                exact EX12_isOwnHere_J147 f (0 : Int32) m36 (by omega)
              · refine Ev.le (ls' := [some (.ref 112), none]) ⟨rfl, trivial⟩ ?_
                exact EX12_isOwnHere_J142 f m36 (by omega)
set_option maxRecDepth 100000 in
set_option maxHeartbeats 4000000 in
theorem EX12_isOwnHere_J66 {l : Launch} {Ln : Nat} {xs : Nat → Int32} {d : Nat} (f : Nat)     (m : ev_M)   (hd : 2 ≤ d) : Ev ev_eI l Ln xs YX12_isOwnHere d Sx 66 [some (.ref 112), none] [] m (FX12_isOwnHere_J66 f m) := by
  unfold FX12_isOwnHere_J66
  refine Ev.run (pc' := 67) (ls' := [some (.ref 112), none]) (st' := [.int 1]) (m' := m) [(.iconst 1, 0, 0, 1, 0)] (by decide +kernel) rfl ?_
  refine Ev.gto (t := 71) (by decide +kernel) ?_
  exact EX12_isOwnHere_J71 f (1 : Int32) m (by omega)
set_option maxRecDepth 100000 in
set_option maxHeartbeats 4000000 in
theorem EX12_isOwnHere {l : Launch} {Ln : Nat} {xs : Nat → Int32} {d : Nat} (f : Nat)  (m : ev_M)  (hd : 2 ≤ d) : Mv ev_eI l Ln xs YX12_isOwnHere d Sx [.ref 112] m (FX12_isOwnHere f  m) := by
  refine Mv.of (by decide +kernel) rfl (Nat.le_of_ble_eq_true rfl) (Ev.le (ls' := [some (.ref 112), none]) ⟨rfl, trivial⟩ ?_)
  unfold FX12_isOwnHere
  refine Ev.run (pc' := 5) (ls' := [some (.ref 112), none]) (st' := [.ref 115, .ref 112]) (m' := m) [(.aload_n 0, 0, 0, 0, 0), (.aload_n 0, 0, 0, 0, 0), (.getfield 20, 12, 10, 0, 0)] (by decide +kernel) rfl ?_
  refine Ev.cV (av := [.ref 115]) (st := []) (a := 112) (EX12_isHere (l := l) (Ln := Ln) (xs := xs) (d := 1) f 115 m (by decide) (by decide)) rfl (by decide +kernel) mwX12_isHere iwX12_isHere vwX12_isHere lk_12_251 (by omega) (by decide) rfl (by decide) rfl rfl (Nat.le_of_ble_eq_true rfl) (fun r1 m2 => ?_)
  refine Ev.if_ne (t := 66) (by decide +kernel) ?_ ?_
  · exact EX12_isOwnHere_J66 f m2 (by omega)
  · refine Ev.run (pc' := 16) (ls' := [some (.ref 112), none]) (st' := [.ref 116, .ref 112]) (m' := m2) [(.aload_n 0, 0, 0, 0, 0), (.aload_n 0, 0, 0, 0, 0), (.getfield 24, 12, 11, 0, 0)] (by decide +kernel) rfl ?_
    refine Ev.cV (av := [.ref 116]) (st := []) (a := 112) (EX12_isHere (l := l) (Ln := Ln) (xs := xs) (d := 1) f 116 m2 (by decide) (by decide)) rfl (by decide +kernel) mwX12_isHere iwX12_isHere vwX12_isHere lk_12_251 (by omega) (by decide) rfl (by decide) rfl rfl (Nat.le_of_ble_eq_true rfl) (fun r37 m38 => ?_)
    refine Ev.if_ne (t := 66) (by decide +kernel) ?_ ?_
    · exact EX12_isOwnHere_J66 f m38 (by omega)
    · refine Ev.run (pc' := 27) (ls' := [some (.ref 112), none]) (st' := [.ref 117, .ref 112]) (m' := m38) [(.aload_n 0, 0, 0, 0, 0), (.aload_n 0, 0, 0, 0, 0), (.getfield 27, 12, 12, 0, 0)] (by decide +kernel) rfl ?_
      refine Ev.cV (av := [.ref 117]) (st := []) (a := 112) (EX12_isHere (l := l) (Ln := Ln) (xs := xs) (d := 1) f 117 m38 (by decide) (by decide)) rfl (by decide +kernel) mwX12_isHere iwX12_isHere vwX12_isHere lk_12_251 (by omega) (by decide) rfl (by decide) rfl rfl (Nat.le_of_ble_eq_true rfl) (fun r39 m40 => ?_)
      refine Ev.if_ne (t := 66) (by decide +kernel) ?_ ?_
      · exact EX12_isOwnHere_J66 f m40 (by omega)
      · refine Ev.run (pc' := 38) (ls' := [some (.ref 112), none]) (st' := [.ref 118, .ref 112]) (m' := m40) [(.aload_n 0, 0, 0, 0, 0), (.aload_n 0, 0, 0, 0, 0), (.getfield 30, 12, 13, 0, 0)] (by decide +kernel) rfl ?_
        refine Ev.cV (av := [.ref 118]) (st := []) (a := 112) (EX12_isHere (l := l) (Ln := Ln) (xs := xs) (d := 1) f 118 m40 (by decide) (by decide)) rfl (by decide +kernel) mwX12_isHere iwX12_isHere vwX12_isHere lk_12_251 (by omega) (by decide) rfl (by decide) rfl rfl (Nat.le_of_ble_eq_true rfl) (fun r41 m42 => ?_)
        refine Ev.if_ne (t := 66) (by decide +kernel) ?_ ?_
        · exact EX12_isOwnHere_J66 f m42 (by omega)
        · refine Ev.run (pc' := 49) (ls' := [some (.ref 112), none]) (st' := [.ref 119, .ref 112]) (m' := m42) [(.aload_n 0, 0, 0, 0, 0), (.aload_n 0, 0, 0, 0, 0), (.getfield 33, 12, 14, 0, 0)] (by decide +kernel) rfl ?_
          refine Ev.cV (av := [.ref 119]) (st := []) (a := 112) (EX12_isHere (l := l) (Ln := Ln) (xs := xs) (d := 1) f 119 m42 (by decide) (by decide)) rfl (by decide +kernel) mwX12_isHere iwX12_isHere vwX12_isHere lk_12_251 (by omega) (by decide) rfl (by decide) rfl rfl (Nat.le_of_ble_eq_true rfl) (fun r43 m44 => ?_)
          refine Ev.if_ne (t := 66) (by decide +kernel) ?_ ?_
          · exact EX12_isOwnHere_J66 f m44 (by omega)
          · refine Ev.run (pc' := 60) (ls' := [some (.ref 112), none]) (st' := [.ref 120, .ref 112]) (m' := m44) [(.aload_n 0, 0, 0, 0, 0), (.aload_n 0, 0, 0, 0, 0), (.getfield 36, 12, 15, 0, 0)] (by decide +kernel) rfl ?_
            refine Ev.cV (av := [.ref 120]) (st := []) (a := 112) (EX12_isHere (l := l) (Ln := Ln) (xs := xs) (d := 1) f 120 m44 (by decide) (by decide)) rfl (by decide +kernel) mwX12_isHere iwX12_isHere vwX12_isHere lk_12_251 (by omega) (by decide) rfl (by decide) rfl rfl (Nat.le_of_ble_eq_true rfl) (fun r45 m46 => ?_)
            refine Ev.if_eq (t := 70) (by decide +kernel) ?_ ?_
            · refine Ev.run (pc' := 71) (ls' := [some (.ref 112), none]) (st' := [.int 0]) (m' := m46) [(.iconst 0, 0, 0, 0, 0)] (by decide +kernel) rfl ?_
              exact EX12_isOwnHere_J71 f (0 : Int32) m46 (by omega)
            · exact EX12_isOwnHere_J66 f m46 (by omega)
def FX12_name_J37 (f : Nat)     (m : ev_M) : Option (Int64 × ev_M) :=
  (ev_bd (FX12_fail f (1 : Int32) (m.1 112 2) m) (fun _ m6 => some (0, m6)))
def FX12_name_L58 (f : Nat) (k : Int64 → ev_M → Option (Int64 × ev_M))   : Nat → Int64 → ev_M → Option (Int64 × ev_M)
  | 0, _, _ => none
  | n + 1, a1, m => (if (m.1 112 3) ≤ (m.1 112 2) then (k a1 m) else (if ev_in (m.1 112 2) 1600 then (ev_bd (FX12_isLetter f (m.1 113 (m.1 112 2).toNatClampNeg) m) (fun r9 m10 => (if r9 = 0 then (k a1 m10) else (if ((m10.1 112 2) - (m10.1 112 33)) = 6 then (ev_bd (FX12_fail f (1 : Int32) (m10.1 112 2) m10) (fun _ m12 => some (0, m12))) else (if ev_in (m10.1 112 2) 1600 then (FX12_name_L58 f k n ((((27 * a1) + ((m10.1 113 (m10.1 112 2).toNatClampNeg) : Int32).toInt64) - 97) + 1) ((ev_up m10.1 112 2 ((m10.1 112 2) + 1)), m10.2)) else none))))) else none))
def FX12_name (f : Nat)  (m : ev_M) : Option (Int64 × ev_M) :=
  (if (m.1 112 5) = 0 then (ev_bd (FX12_look f m) (fun r1 m2 => (ev_bd (FX12_isLetter f r1 m2) (fun r3 m4 => (if r3 = 0 then (FX12_name_J37 f m4) else (if (m4.1 112 2) = (m4.1 112 4) then (FX12_name_J37 f m4) else (ev_bd (FX12_isOwnHere f m4) (fun r7 m8 => (if r7 = 0 then (FX12_name_L58 f (fun e13 m14 => some (e13, ((ev_up m14.1 112 4 (m14.1 112 2)), m14.2))) f (0 : Int64) ((ev_up m8.1 112 33 (m8.1 112 2)), m8.2)) else (FX12_name_J37 f m8)))))))))) else some (0, m))
set_option maxRecDepth 100000 in
set_option maxHeartbeats 4000000 in
theorem EX12_name_J37 {l : Launch} {Ln : Nat} {xs : Nat → Int32} {d : Nat} (f : Nat)     (m : ev_M)   (hd : 3 ≤ d) : Ev ev_eL l Ln xs YX12_name d Sx 37 [some (.ref 112), none, none] [] m (FX12_name_J37 f m) := by
  unfold FX12_name_J37
  refine Ev.run (pc' := 43) (ls' := [some (.ref 112), none, none]) (st' := [.int (m.1 112 2), .int 1, .ref 112]) (m' := m) [(.aload_n 0, 0, 0, 0, 0), (.iconst 1, 0, 0, 1, 0), (.aload_n 0, 0, 0, 0, 0), (.getfield 234, 12, 2, 0, 0)] (by decide +kernel) rfl ?_
  refine Ev.cV (av := [.int 1, .int (m.1 112 2)]) (st := []) (a := 112) (EX12_fail (l := l) (Ln := Ln) (xs := xs) (d := 0) f (1 : Int32) (m.1 112 2) m (by decide)) rfl (by decide +kernel) mwX12_fail iwX12_fail vwX12_fail lk_12_258 (by omega) (by decide) rfl (by decide) rfl rfl (Nat.le_of_ble_eq_true rfl) (fun r5 m6 => ?_)
  refine Ev.run (pc' := 47) (ls' := [some (.ref 112), none, none]) (st' := [.long 0]) (m' := m6) [(.lconst 0, 0, 0, 0, 0)] (by decide +kernel) rfl ?_
  exact Ev.retl rfl rfl (by decide +kernel)
set_option maxRecDepth 100000 in
set_option maxHeartbeats 4000000 in
theorem EX12_name_L58 {l : Launch} {Ln : Nat} {xs : Nat → Int32} {d : Nat} (f : Nat) (k : Int64 → ev_M → Option (Int64 × ev_M))     (hk : ∀ (e1 : Int64) (em : ev_M), Ev ev_eL l Ln xs YX12_name d Sx 145 [some (.ref 112), some (.long e1), none] [] em (k e1 em)) (hd : 3 ≤ d) : ∀ (n : Nat) (a1 : Int64) (m : ev_M), Ev ev_eL l Ln xs YX12_name d Sx 58 [some (.ref 112), some (.long a1), none] [] m (FX12_name_L58 f k n a1 m) := by
  intro n
  induction n with
  | zero => intros; exact Ev.nn
  | succ n ih =>
    intro a1 m
    rw [FX12_name_L58]
    refine Ev.run (pc' := 66) (ls' := [some (.ref 112), some (.long a1), none]) (st' := [.int (m.1 112 3), .int (m.1 112 2)]) (m' := m) [(.aload_n 0, 0, 0, 0, 0), (.getfield 234, 12, 2, 0, 0), (.aload_n 0, 0, 0, 0, 0), (.getfield 237, 12, 3, 0, 0)] (by decide +kernel) rfl ?_
    refine Ev.ic_ge (t := 145) (by decide +kernel) ?_ ?_
    · exact hk _ _
    · refine Ev.run (pc' := 77) (ls' := [some (.ref 112), some (.long a1), none]) (st' := [.int (m.1 112 2), .ref 113]) (m' := m) [(.aload_n 0, 0, 0, 0, 0), (.getfield 7, 12, 0, 0, 0), (.aload_n 0, 0, 0, 0, 0), (.getfield 234, 12, 2, 0, 0)] (by decide +kernel) rfl ?_
      refine Ev.iald (n := 1600) (by decide +kernel) (by decide) rfl ?_
      refine Ev.cS (av := [.int (m.1 113 (m.1 112 2).toNatClampNeg)]) (st := []) (EX12_isLetter (l := l) (Ln := Ln) (xs := xs) (d := 0) f (m.1 113 (m.1 112 2).toNatClampNeg) m (by decide)) rfl (by decide +kernel) mwX12_isLetter swX12_isLetter lk_12_244 (by omega) rfl (Nat.le_of_ble_eq_true rfl) (fun r9 m10 => ?_)
      refine Ev.if_eq (t := 145) (by decide +kernel) ?_ ?_
      · exact hk _ _
      · refine Ev.run (pc' := 95) (ls' := [some (.ref 112), some (.long a1), none]) (st' := [.int 6, .int ((m10.1 112 2) - (m10.1 112 33))]) (m' := m10) [(.aload_n 0, 0, 0, 0, 0), (.getfield 234, 12, 2, 0, 0), (.aload_n 0, 0, 0, 0, 0), (.getfield 276, 12, 33, 0, 0), (.isub, 0, 0, 0, 0), (.bipush 6, 0, 0, 6, 0)] (by decide +kernel) rfl ?_
        refine Ev.ic_ne (t := 109) (by decide +kernel) ?_ ?_
        · refine Ev.run (pc' := 122) (ls' := [some (.ref 112), some (.long a1), none]) (st' := [.int (m10.1 112 2), .ref 113, .long (27 * a1)]) (m' := m10) [(.ldc2_w 279, 0, 0, 0, 27), (.lload_n 1, 0, 0, 0, 0), (.lmul, 0, 0, 0, 0), (.aload_n 0, 0, 0, 0, 0), (.getfield 7, 12, 0, 0, 0), (.aload_n 0, 0, 0, 0, 0), (.getfield 234, 12, 2, 0, 0)] (by decide +kernel) rfl ?_
          refine Ev.iald (n := 1600) (by decide +kernel) (by decide) rfl ?_
          refine Ev.run (pc' := 142) (ls' := [some (.ref 112), some (.long ((((27 * a1) + ((m10.1 113 (m10.1 112 2).toNatClampNeg) : Int32).toInt64) - 97) + 1)), none]) (st' := []) (m' := ((ev_up m10.1 112 2 ((m10.1 112 2) + 1)), m10.2)) [(.i2l, 0, 0, 0, 0), (.ladd, 0, 0, 0, 0), (.ldc2_w 281, 0, 0, 0, 97), (.lsub, 0, 0, 0, 0), (.lconst 1, 0, 0, 0, 1), (.ladd, 0, 0, 0, 0), (.lstore_n 1, 0, 0, 0, 0), (.aload_n 0, 0, 0, 0, 0), (.dup, 0, 0, 0, 0), (.getfield 234, 12, 2, 0, 0), (.iconst 1, 0, 0, 1, 0), (.iadd, 0, 0, 0, 0), (.putfield 234, 12, 2, 0, 0)] (by decide +kernel) rfl ?_
          refine Ev.gto (t := 58) (by decide +kernel) ?_
          exact ih _ _
        · refine Ev.run (pc' := 104) (ls' := [some (.ref 112), some (.long a1), none]) (st' := [.int (m10.1 112 2), .int 1, .ref 112]) (m' := m10) [(.aload_n 0, 0, 0, 0, 0), (.iconst 1, 0, 0, 1, 0), (.aload_n 0, 0, 0, 0, 0), (.getfield 234, 12, 2, 0, 0)] (by decide +kernel) rfl ?_
          refine Ev.cV (av := [.int 1, .int (m10.1 112 2)]) (st := []) (a := 112) (EX12_fail (l := l) (Ln := Ln) (xs := xs) (d := 0) f (1 : Int32) (m10.1 112 2) m10 (by decide)) rfl (by decide +kernel) mwX12_fail iwX12_fail vwX12_fail lk_12_258 (by omega) (by decide) rfl (by decide) rfl rfl (Nat.le_of_ble_eq_true rfl) (fun r11 m12 => ?_)
          refine Ev.run (pc' := 108) (ls' := [some (.ref 112), some (.long a1), none]) (st' := [.long 0]) (m' := m12) [(.lconst 0, 0, 0, 0, 0)] (by decide +kernel) rfl ?_
          exact Ev.retl rfl rfl (by decide +kernel)
set_option maxRecDepth 100000 in
set_option maxHeartbeats 4000000 in
theorem EX12_name {l : Launch} {Ln : Nat} {xs : Nat → Int32} {d : Nat} (f : Nat)  (m : ev_M)  (hd : 3 ≤ d) : Mv ev_eL l Ln xs YX12_name d Sx [.ref 112] m (FX12_name f  m) := by
  refine Mv.of (by decide +kernel) rfl (Nat.le_of_ble_eq_true rfl) (Ev.le (ls' := [some (.ref 112), none, none]) ⟨rfl, trivial⟩ ?_)
  unfold FX12_name
  refine Ev.run (pc' := 4) (ls' := [some (.ref 112), none, none]) (st' := [.int (m.1 112 5)]) (m' := m) [(.aload_n 0, 0, 0, 0, 0), (.getfield 228, 12, 5, 0, 0)] (by decide +kernel) rfl ?_
  refine Ev.if_eq (t := 9) (by decide +kernel) ?_ ?_
  · refine Ev.run (pc' := 10) (ls' := [some (.ref 112), none, none]) (st' := [.ref 112]) (m' := m) [(.aload_n 0, 0, 0, 0, 0)] (by decide +kernel) rfl ?_
    refine Ev.cV (av := []) (st := []) (a := 112) (EX12_look (l := l) (Ln := Ln) (xs := xs) (d := 0) f m (by decide)) rfl (by decide +kernel) mwX12_look iwX12_look vwX12_look lk_12_240 (by omega) (by decide) rfl (by decide) rfl rfl (Nat.le_of_ble_eq_true rfl) (fun r1 m2 => ?_)
    refine Ev.cS (av := [.int r1]) (st := []) (EX12_isLetter (l := l) (Ln := Ln) (xs := xs) (d := 0) f r1 m2 (by decide)) rfl (by decide +kernel) mwX12_isLetter swX12_isLetter lk_12_244 (by omega) rfl (Nat.le_of_ble_eq_true rfl) (fun r3 m4 => ?_)
    refine Ev.if_eq (t := 37) (by decide +kernel) ?_ ?_
    · exact EX12_name_J37 f m4 (by omega)
    · refine Ev.run (pc' := 27) (ls' := [some (.ref 112), none, none]) (st' := [.int (m4.1 112 4), .int (m4.1 112 2)]) (m' := m4) [(.aload_n 0, 0, 0, 0, 0), (.getfield 234, 12, 2, 0, 0), (.aload_n 0, 0, 0, 0, 0), (.getfield 248, 12, 4, 0, 0)] (by decide +kernel) rfl ?_
      refine Ev.ic_eq (t := 37) (by decide +kernel) ?_ ?_
      · exact EX12_name_J37 f m4 (by omega)
      · refine Ev.run (pc' := 31) (ls' := [some (.ref 112), none, none]) (st' := [.ref 112]) (m' := m4) [(.aload_n 0, 0, 0, 0, 0)] (by decide +kernel) rfl ?_
        refine Ev.cV (av := []) (st := []) (a := 112) (EX12_isOwnHere (l := l) (Ln := Ln) (xs := xs) (d := 2) f m4 (by decide)) rfl (by decide +kernel) mwX12_isOwnHere iwX12_isOwnHere vwX12_isOwnHere lk_12_272 (by omega) (by decide) rfl (by decide) rfl rfl (Nat.le_of_ble_eq_true rfl) (fun r7 m8 => ?_)
        refine Ev.if_eq (t := 48) (by decide +kernel) ?_ ?_
        · refine Ev.run (pc' := 58) (ls' := [some (.ref 112), some (.long 0), none]) (st' := []) (m' := ((ev_up m8.1 112 33 (m8.1 112 2)), m8.2)) [(.aload_n 0, 0, 0, 0, 0), (.aload_n 0, 0, 0, 0, 0), (.getfield 234, 12, 2, 0, 0), (.putfield 276, 12, 33, 0, 0), (.lconst 0, 0, 0, 0, 0), (.lstore_n 1, 0, 0, 0, 0)] (by decide +kernel) rfl ?_
          refine EX12_name_L58 f _ ?_ (by omega) _ _ _
          intro e13 m14
          refine Ev.run (pc' := 154) (ls' := [some (.ref 112), some (.long e13), none]) (st' := [.long e13]) (m' := ((ev_up m14.1 112 4 (m14.1 112 2)), m14.2)) [(.aload_n 0, 0, 0, 0, 0), (.aload_n 0, 0, 0, 0, 0), (.getfield 234, 12, 2, 0, 0), (.putfield 248, 12, 4, 0, 0), (.lload_n 1, 0, 0, 0, 0)] (by decide +kernel) rfl ?_
          exact Ev.retl rfl rfl (by decide +kernel)
        · exact EX12_name_J37 f m8 (by omega)
  · refine Ev.run (pc' := 8) (ls' := [some (.ref 112), none, none]) (st' := [.long 0]) (m' := m) [(.lconst 0, 0, 0, 0, 0)] (by decide +kernel) rfl ?_
    exact Ev.retl rfl rfl (by decide +kernel)
def FX12_isAllowed (f : Nat) (a1 : Int32) (m : ev_M) : Option (Int32 × ev_M) :=
  (if (m.1 112 46) = 0 then (if 6 ≤ a1 then some (0, m) else some (1, m)) else (if (m.1 112 46) = 1 then (if a1 < 5 then some (1, m) else (if a1 = 6 then some (1, m) else some (0, m))) else (ev_bd (FX12_isIn f (a1 : Int32).toInt64 (1 : Int64) (3 : Int64) m) (fun r1 m2 => (if r1 = 0 then (if a1 ≤ 5 then some (0, m2) else some (1, m2)) else some (1, m2))))))
set_option maxRecDepth 100000 in
set_option maxHeartbeats 4000000 in
theorem EX12_isAllowed {l : Launch} {Ln : Nat} {xs : Nat → Int32} {d : Nat} (f : Nat) (a1 : Int32) (m : ev_M)  (hd : 1 ≤ d) : Mv ev_eI l Ln xs YX12_isAllowed d Sx [.ref 112, .int a1] m (FX12_isAllowed f a1 m) := by
  refine Mv.of (by decide +kernel) rfl (Nat.le_of_ble_eq_true rfl) (Ev.le (ls' := [some (.ref 112), some (.int a1)]) ⟨rfl, ⟨rfl, trivial⟩⟩ ?_)
  unfold FX12_isAllowed
  refine Ev.run (pc' := 4) (ls' := [some (.ref 112), some (.int a1)]) (st' := [.int (m.1 112 46)]) (m' := m) [(.aload_n 0, 0, 0, 0, 0), (.getfield 283, 12, 46, 0, 0)] (by decide +kernel) rfl ?_
  refine Ev.if_ne (t := 21) (by decide +kernel) ?_ ?_
  · refine Ev.run (pc' := 26) (ls' := [some (.ref 112), some (.int a1)]) (st' := [.int 1, .int (m.1 112 46)]) (m' := m) [(.aload_n 0, 0, 0, 0, 0), (.getfield 283, 12, 46, 0, 0), (.iconst 1, 0, 0, 1, 0)] (by decide +kernel) rfl ?_
    refine Ev.ic_ne (t := 48) (by decide +kernel) ?_ ?_
    · refine Ev.run (pc' := 54) (ls' := [some (.ref 112), some (.int a1)]) (st' := [.long 3, .long 1, .long (a1 : Int32).toInt64]) (m' := m) [(.iload_n 1, 0, 0, 0, 0), (.i2l, 0, 0, 0, 0), (.lconst 1, 0, 0, 0, 1), (.ldc2_w 286, 0, 0, 0, 3)] (by decide +kernel) rfl ?_
      refine Ev.cS (av := [.long (a1 : Int32).toInt64, .long 1, .long 3]) (st := []) (EX12_isIn (l := l) (Ln := Ln) (xs := xs) (d := 0) f (a1 : Int32).toInt64 (1 : Int64) (3 : Int64) m (by decide)) rfl (by decide +kernel) mwX12_isIn swX12_isIn lk_12_268 (by omega) rfl (Nat.le_of_ble_eq_true rfl) (fun r1 m2 => ?_)
      refine Ev.if_ne (t := 65) (by decide +kernel) ?_ ?_
      · refine Ev.run (pc' := 66) (ls' := [some (.ref 112), some (.int a1)]) (st' := [.int 1]) (m' := m2) [(.iconst 1, 0, 0, 1, 0)] (by decide +kernel) rfl ?_
        refine Ev.gto (t := 70) (by decide +kernel) ?_
        exact Ev.iretz rfl rfl (by decide +kernel) (by decide)
      · refine Ev.run (pc' := 62) (ls' := [some (.ref 112), some (.int a1)]) (st' := [.int 5, .int a1]) (m' := m2) [(.iload_n 1, 0, 0, 0, 0), (.iconst 5, 0, 0, 5, 0)] (by decide +kernel) rfl ?_
        refine Ev.ic_le (t := 69) (by decide +kernel) ?_ ?_
        · refine Ev.run (pc' := 70) (ls' := [some (.ref 112), some (.int a1)]) (st' := [.int 0]) (m' := m2) [(.iconst 0, 0, 0, 0, 0)] (by decide +kernel) rfl ?_
          exact Ev.iretz rfl rfl (by decide +kernel) (by decide)
        · refine Ev.run (pc' := 66) (ls' := [some (.ref 112), some (.int a1)]) (st' := [.int 1]) (m' := m2) [(.iconst 1, 0, 0, 1, 0)] (by decide +kernel) rfl ?_
          refine Ev.gto (t := 70) (by decide +kernel) ?_
          exact Ev.iretz rfl rfl (by decide +kernel) (by decide)
    · refine Ev.run (pc' := 31) (ls' := [some (.ref 112), some (.int a1)]) (st' := [.int 5, .int a1]) (m' := m) [(.iload_n 1, 0, 0, 0, 0), (.iconst 5, 0, 0, 5, 0)] (by decide +kernel) rfl ?_
      refine Ev.ic_lt (t := 40) (by decide +kernel) ?_ ?_
      · refine Ev.run (pc' := 41) (ls' := [some (.ref 112), some (.int a1)]) (st' := [.int 1]) (m' := m) [(.iconst 1, 0, 0, 1, 0)] (by decide +kernel) rfl ?_
        refine Ev.gto (t := 70) (by decide +kernel) ?_
        exact Ev.iretz rfl rfl (by decide +kernel) (by decide)
      · refine Ev.run (pc' := 37) (ls' := [some (.ref 112), some (.int a1)]) (st' := [.int 6, .int a1]) (m' := m) [(.iload_n 1, 0, 0, 0, 0), (.bipush 6, 0, 0, 6, 0)] (by decide +kernel) rfl ?_
        refine Ev.ic_ne (t := 44) (by decide +kernel) ?_ ?_
        · refine Ev.run (pc' := 45) (ls' := [some (.ref 112), some (.int a1)]) (st' := [.int 0]) (m' := m) [(.iconst 0, 0, 0, 0, 0)] (by decide +kernel) rfl ?_
          refine Ev.gto (t := 70) (by decide +kernel) ?_
          exact Ev.iretz rfl rfl (by decide +kernel) (by decide)
        · refine Ev.run (pc' := 41) (ls' := [some (.ref 112), some (.int a1)]) (st' := [.int 1]) (m' := m) [(.iconst 1, 0, 0, 1, 0)] (by decide +kernel) rfl ?_
          refine Ev.gto (t := 70) (by decide +kernel) ?_
          exact Ev.iretz rfl rfl (by decide +kernel) (by decide)
  · refine Ev.run (pc' := 10) (ls' := [some (.ref 112), some (.int a1)]) (st' := [.int 6, .int a1]) (m' := m) [(.iload_n 1, 0, 0, 0, 0), (.bipush 6, 0, 0, 6, 0)] (by decide +kernel) rfl ?_
    refine Ev.ic_ge (t := 17) (by decide +kernel) ?_ ?_
    · refine Ev.run (pc' := 18) (ls' := [some (.ref 112), some (.int a1)]) (st' := [.int 0]) (m' := m) [(.iconst 0, 0, 0, 0, 0)] (by decide +kernel) rfl ?_
      refine Ev.gto (t := 70) (by decide +kernel) ?_
      exact Ev.iretz rfl rfl (by decide +kernel) (by decide)
    · refine Ev.run (pc' := 14) (ls' := [some (.ref 112), some (.int a1)]) (st' := [.int 1]) (m' := m) [(.iconst 1, 0, 0, 1, 0)] (by decide +kernel) rfl ?_
      refine Ev.gto (t := 70) (by decide +kernel) ?_
      exact Ev.iretz rfl rfl (by decide +kernel) (by decide)
def FX12_nameOf_L2 (f : Nat) (k : ev_M → Option (Int32 × ev_M))  (a1 : Int64) : Nat → Int32 → ev_M → Option (Int32 × ev_M)
  | 0, _, _ => none
  | n + 1, a3, m => (if (m.1 112 35) ≤ a3 then (k m) else (if ev_in a3 16 then (if (lg_cmp (m.2 138 a3.toNatClampNeg) a1) = 0 then some (a3, m) else (FX12_nameOf_L2 f k a1 n (a3 + 1) m)) else none))
def FX12_nameOf (f : Nat) (a1 : Int64) (m : ev_M) : Option (Int32 × ev_M) :=
  (FX12_nameOf_L2 f (fun m1 => some ((-1), m1)) a1 f (0 : Int32) m)
set_option maxRecDepth 100000 in
set_option maxHeartbeats 4000000 in
theorem EX12_nameOf_L2 {l : Launch} {Ln : Nat} {xs : Nat → Int32} {d : Nat} (f : Nat) (k : ev_M → Option (Int32 × ev_M))  (a1 : Int64)   (hk : ∀  (em : ev_M), Ev ev_eI l Ln xs YX12_nameOf d Sx 29 [none, none, none, none] [] em (k em)) (hd : 0 ≤ d) : ∀ (n : Nat) (a3 : Int32) (m : ev_M), Ev ev_eI l Ln xs YX12_nameOf d Sx 2 [some (.ref 112), some (.long a1), none, some (.int a3)] [] m (FX12_nameOf_L2 f k a1 n a3 m) := by
  intro n
  induction n with
  | zero => intros; exact Ev.nn
  | succ n ih =>
    intro a3 m
    rw [FX12_nameOf_L2]
    refine Ev.run (pc' := 7) (ls' := [some (.ref 112), some (.long a1), none, some (.int a3)]) (st' := [.int (m.1 112 35), .int a3]) (m' := m) [(.iload_n 3, 0, 0, 0, 0), (.aload_n 0, 0, 0, 0, 0), (.getfield 288, 12, 35, 0, 0)] (by decide +kernel) rfl ?_
    refine Ev.ic_ge (t := 29) (by decide +kernel) ?_ ?_
    · refine Ev.le (ls' := [none, none, none, none]) trivial ?_
      exact hk _
    · refine Ev.run (pc' := 15) (ls' := [some (.ref 112), some (.long a1), none, some (.int a3)]) (st' := [.int a3, .ref 138]) (m' := m) [(.aload_n 0, 0, 0, 0, 0), (.getfield 90, 12, 37, 0, 0), (.iload_n 3, 0, 0, 0, 0)] (by decide +kernel) rfl ?_
      refine Ev.lald (n := 16) (by decide +kernel) (by decide) rfl ?_
      refine Ev.run (pc' := 18) (ls' := [some (.ref 112), some (.long a1), none, some (.int a3)]) (st' := [.int (lg_cmp (m.2 138 a3.toNatClampNeg) a1)]) (m' := m) [(.lload_n 1, 0, 0, 0, 0), (.lcmp, 0, 0, 0, 0)] (by decide +kernel) rfl ?_
      refine Ev.if_ne (t := 23) (by decide +kernel) ?_ ?_
      · refine Ev.run (pc' := 26) (ls' := [some (.ref 112), some (.long a1), none, some (.int (a3 + 1))]) (st' := []) (m' := m) [(.iinc 3 1, 0, 0, 1, 0)] (by decide +kernel) rfl ?_
        refine Ev.gto (t := 2) (by decide +kernel) ?_
        exact ih _ _
      · refine Ev.run (pc' := 22) (ls' := [some (.ref 112), some (.long a1), none, some (.int a3)]) (st' := [.int a3]) (m' := m) [(.iload_n 3, 0, 0, 0, 0)] (by decide +kernel) rfl ?_
        exact Ev.ireti rfl rfl (by decide +kernel)
set_option maxRecDepth 100000 in
set_option maxHeartbeats 4000000 in
theorem EX12_nameOf {l : Launch} {Ln : Nat} {xs : Nat → Int32} {d : Nat} (f : Nat) (a1 : Int64) (m : ev_M)  (hd : 0 ≤ d) : Mv ev_eI l Ln xs YX12_nameOf d Sx [.ref 112, .long a1] m (FX12_nameOf f a1 m) := by
  refine Mv.of (by decide +kernel) rfl (Nat.le_of_ble_eq_true rfl) (Ev.le (ls' := [some (.ref 112), some (.long a1), none, none]) ⟨rfl, ⟨rfl, trivial⟩⟩ ?_)
  unfold FX12_nameOf
  refine Ev.run (pc' := 2) (ls' := [some (.ref 112), some (.long a1), none, some (.int 0)]) (st' := []) (m' := m) [(.iconst 0, 0, 0, 0, 0), (.istore_n 3, 0, 0, 0, 0)] (by decide +kernel) rfl ?_
  refine EX12_nameOf_L2 f _ a1 ?_ (by omega) _ _ _
  intro m1
  refine Ev.run (pc' := 30) (ls' := [none, none, none, none]) (st' := [.int (-1)]) (m' := m1) [(.iconst (-1), 0, 0, (-1), 0)] (by decide +kernel) rfl ?_
  exact Ev.ireti rfl rfl (by decide +kernel)
def FX12_callTold0 (f : Nat)  (m : ev_M) : Option (Unit × ev_M) :=
  (ev_bd (FX12_asks f 115 m) (fun _ m2 => (ev_bd (FX12_number f (0 : Int32) (9 : Int32) m2) (fun r3 m4 => (ev_bd (FX12_asksSign f (59 : Int32) ((ev_up m4.1 112 34 r3), m4.2)) (fun _ m6 => some ((), m6)))))))
set_option maxRecDepth 100000 in
set_option maxHeartbeats 4000000 in
theorem EX12_callTold0 {l : Launch} {Ln : Nat} {xs : Nat → Int32} {d : Nat} (f : Nat)  (m : ev_M)  (hd : 4 ≤ d) : Mv ev_eV l Ln xs YX12_callTold0 d Sx [.ref 112] m (FX12_callTold0 f  m) := by
  refine Mv.of (by decide +kernel) rfl (Nat.le_of_ble_eq_true rfl) (Ev.le (ls' := [some (.ref 112)]) ⟨rfl, trivial⟩ ?_)
  unfold FX12_callTold0
  refine Ev.run (pc' := 5) (ls' := [some (.ref 112)]) (st' := [.ref 115, .ref 112]) (m' := m) [(.aload_n 0, 0, 0, 0, 0), (.aload_n 0, 0, 0, 0, 0), (.getfield 20, 12, 10, 0, 0)] (by decide +kernel) rfl ?_
  refine Ev.cV (av := [.ref 115]) (st := []) (a := 112) (EX12_asks (l := l) (Ln := Ln) (xs := xs) (d := 3) f 115 m (by decide) (by decide)) rfl (by decide +kernel) mwX12_asks iwX12_asks vwX12_asks lk_12_291 (by omega) (by decide) rfl (by decide) rfl rfl (Nat.le_of_ble_eq_true rfl) (fun r1 m2 => ?_)
  refine Ev.run (pc' := 13) (ls' := [some (.ref 112)]) (st' := [.int 9, .int 0, .ref 112, .ref 112]) (m' := m2) [(.aload_n 0, 0, 0, 0, 0), (.aload_n 0, 0, 0, 0, 0), (.iconst 0, 0, 0, 0, 0), (.bipush 9, 0, 0, 9, 0)] (by decide +kernel) rfl ?_
  refine Ev.cV (av := [.int 0, .int 9]) (st := [.ref 112]) (a := 112) (EX12_number (l := l) (Ln := Ln) (xs := xs) (d := 1) f (0 : Int32) (9 : Int32) m2 (by decide)) rfl (by decide +kernel) mwX12_number iwX12_number vwX12_number lk_12_295 (by omega) (by decide) rfl (by decide) rfl rfl (Nat.le_of_ble_eq_true rfl) (fun r3 m4 => ?_)
  refine Ev.run (pc' := 22) (ls' := [some (.ref 112)]) (st' := [.int 59, .ref 112]) (m' := ((ev_up m4.1 112 34 r3), m4.2)) [(.putfield 299, 12, 34, 0, 0), (.aload_n 0, 0, 0, 0, 0), (.bipush 59, 0, 0, 59, 0)] (by decide +kernel) rfl ?_
  refine Ev.cV (av := [.int 59]) (st := []) (a := 112) (EX12_asksSign (l := l) (Ln := Ln) (xs := xs) (d := 2) f (59 : Int32) ((ev_up m4.1 112 34 r3), m4.2) (by decide)) rfl (by decide +kernel) mwX12_asksSign iwX12_asksSign vwX12_asksSign lk_12_302 (by omega) (by decide) rfl (by decide) rfl rfl (Nat.le_of_ble_eq_true rfl) (fun r5 m6 => ?_)
  exact Ev.retv rfl rfl (by decide +kernel)
