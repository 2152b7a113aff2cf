section EvLits
variable {τ : Type} {en : τ → Option Value} {l : Launch} {Ln : Nat} {xs : Nat → Int32} {Y : ev_Y} {d pc : Nat} {ls : List (Option Value)} {st : List Value} {S : ev_S} {m : ev_M} {o : Option (τ × ev_M)}
theorem Ev.ialdK {a n j : Nat} {i : Int32} (h : ev_is Y pc .iaload 1 = true) (ha : a < S.1) (hs : S.2.1 a = (100, n)) (hj : i.toNatClampNeg = j) (hi : ev_in i n) (k : Ev en l Ln xs Y d S (pc + 1) ls (.int (m.1 a j) :: st) m o) : Ev en l Ln xs Y d S pc ls (.int i :: .ref a :: st) m o := by
  subst hj
  exact fun r m' q => Wk.iald (ev_is_ok h) ha hs hi (k r m' q)
theorem Ev.caldK {a n j : Nat} {i : Int32} (h : ev_is Y pc .caload 1 = true) (ha : a < S.1) (hs : S.2.1 a = (101, n)) (hj : i.toNatClampNeg = j) (hi : ev_in i n) (k : Ev en l Ln xs Y d S (pc + 1) ls (.int (m.1 a j) :: st) m o) : Ev en l Ln xs Y d S pc ls (.int i :: .ref a :: st) m o := by
  subst hj
  exact fun r m' q => Wk.cald (ev_is_ok h) ha hs hi (k r m' q)
theorem Ev.zaldK {a n j : Nat} {i : Int32} (h : ev_is Y pc .baload 1 = true) (ha : a < S.1) (hs : S.2.1 a = (103, n)) (hj : i.toNatClampNeg = j) (hi : ev_in i n) (k : Ev en l Ln xs Y d S (pc + 1) ls (.int (m.1 a j) :: st) m o) : Ev en l Ln xs Y d S pc ls (.int i :: .ref a :: st) m o := by
  subst hj
  exact fun r m' q => Wk.zald (ev_is_ok h) ha hs hi (k r m' q)
theorem Ev.laldK {a n j : Nat} {i : Int32} (h : ev_is Y pc .laload 1 = true) (ha : a < S.1) (hs : S.2.1 a = (102, n)) (hj : i.toNatClampNeg = j) (hi : ev_in i n) (k : Ev en l Ln xs Y d S (pc + 1) ls (.long (m.2 a j) :: st) m o) : Ev en l Ln xs Y d S pc ls (.int i :: .ref a :: st) m o := by
  subst hj
  exact fun r m' q => Wk.lald (ev_is_ok h) ha hs hi (k r m' q)
theorem Ev.iastK {a n j : Nat} {i : Int32} {v : Int32} (h : ev_is Y pc .iastore 1 = true) (ha : a < S.1) (hs : S.2.1 a = (100, n)) (hj : i.toNatClampNeg = j) (hi : ev_in i n) (k : Ev en l Ln xs Y d S (pc + 1) ls st (ev_up m.1 a j v, m.2) o) : Ev en l Ln xs Y d S pc ls (.int v :: .int i :: .ref a :: st) m o := by
  subst hj
  exact fun r m' q => Wk.iast (ev_is_ok h) ha hs hi (k r m' q)
theorem Ev.castK {a n j : Nat} {i : Int32} {v : Int32} (h : ev_is Y pc .castore 1 = true) (ha : a < S.1) (hs : S.2.1 a = (101, n)) (hj : i.toNatClampNeg = j) (hi : ev_in i n) (k : Ev en l Ln xs Y d S (pc + 1) ls st (ev_up m.1 a j v.toUInt32.toUInt16.toUInt32.toInt32, m.2) o) : Ev en l Ln xs Y d S pc ls (.int v :: .int i :: .ref a :: st) m o := by
  subst hj
  exact fun r m' q => Wk.cast (ev_is_ok h) ha hs hi (k r m' q)
theorem Ev.zastK {a n j : Nat} {i : Int32} {v : Int32} (h : ev_is Y pc .bastore 1 = true) (ha : a < S.1) (hs : S.2.1 a = (103, n)) (hj : i.toNatClampNeg = j) (hi : ev_in i n) (k : Ev en l Ln xs Y d S (pc + 1) ls st (ev_up m.1 a j (v &&& 1), m.2) o) : Ev en l Ln xs Y d S pc ls (.int v :: .int i :: .ref a :: st) m o := by
  subst hj
  exact fun r m' q => Wk.zast (ev_is_ok h) ha hs hi (k r m' q)
theorem Ev.lastK {a n j : Nat} {i : Int32} {v : Int64} (h : ev_is Y pc .lastore 1 = true) (ha : a < S.1) (hs : S.2.1 a = (102, n)) (hj : i.toNatClampNeg = j) (hi : ev_in i n) (k : Ev en l Ln xs Y d S (pc + 1) ls st (m.1, ev_up m.2 a j v) o) : Ev en l Ln xs Y d S pc ls (.long v :: .int i :: .ref a :: st) m o := by
  subst hj
  exact fun r m' q => Wk.last (ev_is_ok h) ha hs hi (k r m' q)
end EvLits
