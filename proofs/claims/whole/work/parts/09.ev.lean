/-! the judgement by a function: where the function answers, the machine answers so -/
abbrev ev_eI : Int32 → Option Value := fun v => some (.int v)
abbrev ev_eL : Int64 → Option Value := fun v => some (.long v)
abbrev ev_eV : Unit → Option Value := fun _ => none
def Ev {τ : Type} (en : τ → Option Value) (l : Launch) (Ln : Nat) (xs : Nat → Int32) (Y : ev_Y) (d : Nat) (S : ev_S) (pc : Nat) (ls : List (Option Value)) (st : List Value) (m : ev_M) (o : Option (τ × ev_M)) : Prop :=
  ∀ (r : τ) (m' : ev_M), o = some (r, m') → Wk l Ln xs Y d 0 0 pc ls st S m (fun v S' m2 => v = en r ∧ S' = S ∧ m2 = m')
def Mv {τ : Type} (en : τ → Option Value) (l : Launch) (Ln : Nat) (xs : Nat → Int32) (Y : ev_Y) (d : Nat) (S : ev_S) (av : List Value) (m : ev_M) (o : Option (τ × ev_M)) : Prop :=
  ∀ (r : τ) (m' : ev_M), o = some (r, m') → Mk l Ln xs Y d 0 0 av S m (fun v S' m2 => v = en r ∧ S' = S ∧ m2 = m')
section EvEv
variable {τ : Type} {en : τ → Option Value} {l : Launch} {Ln : Nat} {xs : Nat → Int32} {Y : ev_Y} {d pc : Nat} {ls : List (Option Value)} {st : List Value} {S : ev_S} {m : ev_M} {o o1 o2 : Option (τ × ev_M)}
theorem Mv.of {av : List Value} (hy : plainName Y.1.cls = true) (hcn : Y.1.cls = ev_cn Y.2.2.2.2) (hn : (ev_en av).length ≤ Y.2.2.1) (hk : Ev en l Ln xs Y d S 0 (ev_en av) [] m o) : Mv en l Ln xs Y d S av m o := fun r m' h => Mk.of hy hcn hn (hk r m' h)
theorem Ev.nn : Ev en l Ln xs Y d S pc ls st m none := fun _ _ h => by cases h
theorem Ev.le {ls' : List (Option Value)} (h : ev_le ls' ls) (k : Ev en l Ln xs Y d S pc ls' st m o) : Ev en l Ln xs Y d S pc ls st m o := fun r m' q => Wk.le h (k r m' q)
theorem Ev.run {pc' : Nat} (is : List ev_I) {ls' : List (Option Value)} {st' : List Value} {m' : ev_M} (hc : ev_has Y pc is pc' = true) (hr : ev_run Y.2.2.1 S is ls st m = some (ls', st', m')) (kk : Ev en l Ln xs Y d S pc' ls' st' m' o) : Ev en l Ln xs Y d S pc ls st m o := fun r m2 h => Wk.run is hc hr (kk r m2 h)
/-- which instruction stands here -/
def ev_is (Y : ev_Y) (pc : Nat) (i : Instr) (n : Nat) : Bool := match decode Y.2.1 pc with
  | .ok q => decide (q = (i, n))
  | _ => false
theorem ev_is_ok {Y : ev_Y} {pc n : Nat} {i : Instr} (h : ev_is Y pc i n = true) : decode Y.2.1 pc = .ok (i, n) := by
  unfold ev_is at h
  split at h
  · rename_i q hq; rw [hq, of_decide_eq_true h]
  · cases h
def ev_br (Y : ev_Y) (pc : Nat) (c : ClassFile.Cond) (t : Nat) : Bool := match decode Y.2.1 pc with
  | .ok (.ifCond c' off, n) => decide (c' = c) && (n == 3) && decide ((pc : Int) + off = (t : Int))
  | _ => false
def ev_bc (Y : ev_Y) (pc : Nat) (c : ClassFile.Cond) (t : Nat) : Bool := match decode Y.2.1 pc with
  | .ok (.if_icmp c' off, n) => decide (c' = c) && (n == 3) && decide ((pc : Int) + off = (t : Int))
  | _ => false
def ev_gt (Y : ev_Y) (pc : Nat) (t : Nat) : Bool := match decode Y.2.1 pc with
  | .ok (.goto off, n) => (n == 3) && decide ((pc : Int) + off = (t : Int))
  | _ => false
theorem ev_br_ok {Y : ev_Y} {pc t : Nat} {c : ClassFile.Cond} (h : ev_br Y pc c t = true) : ∃ off, decode Y.2.1 pc = .ok (.ifCond c off, 3) ∧ (pc : Int) + off = (t : Int) := by
  unfold ev_br at h
  split at h
  · rename_i c' off n hq
    simp only [Bool.and_eq_true, decide_eq_true_eq, beq_iff_eq] at h
    obtain ⟨⟨rfl, rfl⟩, h3⟩ := h
    exact ⟨off, hq, h3⟩
  · cases h
theorem ev_bc_ok {Y : ev_Y} {pc t : Nat} {c : ClassFile.Cond} (h : ev_bc Y pc c t = true) : ∃ off, decode Y.2.1 pc = .ok (.if_icmp c off, 3) ∧ (pc : Int) + off = (t : Int) := by
  unfold ev_bc at h
  split at h
  · rename_i c' off n hq
    simp only [Bool.and_eq_true, decide_eq_true_eq, beq_iff_eq] at h
    obtain ⟨⟨rfl, rfl⟩, h3⟩ := h
    exact ⟨off, hq, h3⟩
  · cases h
theorem Ev.gto {t : Nat} (h : ev_gt Y pc t = true) (k : Ev en l Ln xs Y d S t ls st m o) : Ev en l Ln xs Y d S pc ls st m o := by
  intro r m' q
  unfold ev_gt at h
  split at h
  · rename_i off n hq
    simp only [Bool.and_eq_true, decide_eq_true_eq, beq_iff_eq] at h
    obtain ⟨rfl, h3⟩ := h
    exact Wk.gto hq h3 (k r m' q)
  · cases h
theorem Ev.if_eq {x : Int32} {t : Nat} (h : ev_br Y pc .eq t = true) (k1 : Ev en l Ln xs Y d S t ls st m o1) (k2 : Ev en l Ln xs Y d S (pc + 3) ls st m o2) : Ev en l Ln xs Y d S pc ls (.int x :: st) m (if x = 0 then o1 else o2) := by
  intro r m' q
  obtain ⟨off, h1, h2⟩ := ev_br_ok h
  exact Wk.if_eq h1 h2 (fun z => k1 r m' (by rw [if_pos z] at q; exact q)) (fun z => k2 r m' (by rw [if_neg z] at q; exact q))
theorem Ev.ic_eq {x y : Int32} {t : Nat} (h : ev_bc Y pc .eq t = true) (k1 : Ev en l Ln xs Y d S t ls st m o1) (k2 : Ev en l Ln xs Y d S (pc + 3) ls st m o2) : Ev en l Ln xs Y d S pc ls (.int y :: .int x :: st) m (if x = y then o1 else o2) := by
  intro r m' q
  obtain ⟨off, h1, h2⟩ := ev_bc_ok h
  exact Wk.ic_eq h1 h2 (fun z => k1 r m' (by rw [if_pos z] at q; exact q)) (fun z => k2 r m' (by rw [if_neg z] at q; exact q))
theorem Ev.if_ne {x : Int32} {t : Nat} (h : ev_br Y pc .ne t = true) (k1 : Ev en l Ln xs Y d S t ls st m o1) (k2 : Ev en l Ln xs Y d S (pc + 3) ls st m o2) : Ev en l Ln xs Y d S pc ls (.int x :: st) m (if x = 0 then o2 else o1) := by
  intro r m' q
  obtain ⟨off, h1, h2⟩ := ev_br_ok h
  exact Wk.if_ne h1 h2 (fun z => k1 r m' (by rw [if_neg z] at q; exact q)) (fun z => k2 r m' (by rw [if_pos z] at q; exact q))
theorem Ev.ic_ne {x y : Int32} {t : Nat} (h : ev_bc Y pc .ne t = true) (k1 : Ev en l Ln xs Y d S t ls st m o1) (k2 : Ev en l Ln xs Y d S (pc + 3) ls st m o2) : Ev en l Ln xs Y d S pc ls (.int y :: .int x :: st) m (if x = y then o2 else o1) := by
  intro r m' q
  obtain ⟨off, h1, h2⟩ := ev_bc_ok h
  exact Wk.ic_ne h1 h2 (fun z => k1 r m' (by rw [if_neg z] at q; exact q)) (fun z => k2 r m' (by rw [if_pos z] at q; exact q))
theorem Ev.if_lt {x : Int32} {t : Nat} (h : ev_br Y pc .lt t = true) (k1 : Ev en l Ln xs Y d S t ls st m o1) (k2 : Ev en l Ln xs Y d S (pc + 3) ls st m o2) : Ev en l Ln xs Y d S pc ls (.int x :: st) m (if x < 0 then o1 else o2) := by
  intro r m' q
  obtain ⟨off, h1, h2⟩ := ev_br_ok h
  exact Wk.if_lt h1 h2 (fun z => k1 r m' (by rw [if_pos z] at q; exact q)) (fun z => k2 r m' (by rw [if_neg z] at q; exact q))
theorem Ev.ic_lt {x y : Int32} {t : Nat} (h : ev_bc Y pc .lt t = true) (k1 : Ev en l Ln xs Y d S t ls st m o1) (k2 : Ev en l Ln xs Y d S (pc + 3) ls st m o2) : Ev en l Ln xs Y d S pc ls (.int y :: .int x :: st) m (if x < y then o1 else o2) := by
  intro r m' q
  obtain ⟨off, h1, h2⟩ := ev_bc_ok h
  exact Wk.ic_lt h1 h2 (fun z => k1 r m' (by rw [if_pos z] at q; exact q)) (fun z => k2 r m' (by rw [if_neg z] at q; exact q))
theorem Ev.if_ge {x : Int32} {t : Nat} (h : ev_br Y pc .ge t = true) (k1 : Ev en l Ln xs Y d S t ls st m o1) (k2 : Ev en l Ln xs Y d S (pc + 3) ls st m o2) : Ev en l Ln xs Y d S pc ls (.int x :: st) m (if 0 ≤ x then o1 else o2) := by
  intro r m' q
  obtain ⟨off, h1, h2⟩ := ev_br_ok h
  exact Wk.if_ge h1 h2 (fun z => k1 r m' (by rw [if_pos z] at q; exact q)) (fun z => k2 r m' (by rw [if_neg z] at q; exact q))
theorem Ev.ic_ge {x y : Int32} {t : Nat} (h : ev_bc Y pc .ge t = true) (k1 : Ev en l Ln xs Y d S t ls st m o1) (k2 : Ev en l Ln xs Y d S (pc + 3) ls st m o2) : Ev en l Ln xs Y d S pc ls (.int y :: .int x :: st) m (if y ≤ x then o1 else o2) := by
  intro r m' q
  obtain ⟨off, h1, h2⟩ := ev_bc_ok h
  exact Wk.ic_ge h1 h2 (fun z => k1 r m' (by rw [if_pos z] at q; exact q)) (fun z => k2 r m' (by rw [if_neg z] at q; exact q))
theorem Ev.if_gt {x : Int32} {t : Nat} (h : ev_br Y pc .gt t = true) (k1 : Ev en l Ln xs Y d S t ls st m o1) (k2 : Ev en l Ln xs Y d S (pc + 3) ls st m o2) : Ev en l Ln xs Y d S pc ls (.int x :: st) m (if 0 < x then o1 else o2) := by
  intro r m' q
  obtain ⟨off, h1, h2⟩ := ev_br_ok h
  exact Wk.if_gt h1 h2 (fun z => k1 r m' (by rw [if_pos z] at q; exact q)) (fun z => k2 r m' (by rw [if_neg z] at q; exact q))
theorem Ev.ic_gt {x y : Int32} {t : Nat} (h : ev_bc Y pc .gt t = true) (k1 : Ev en l Ln xs Y d S t ls st m o1) (k2 : Ev en l Ln xs Y d S (pc + 3) ls st m o2) : Ev en l Ln xs Y d S pc ls (.int y :: .int x :: st) m (if y < x then o1 else o2) := by
  intro r m' q
  obtain ⟨off, h1, h2⟩ := ev_bc_ok h
  exact Wk.ic_gt h1 h2 (fun z => k1 r m' (by rw [if_pos z] at q; exact q)) (fun z => k2 r m' (by rw [if_neg z] at q; exact q))
theorem Ev.if_le {x : Int32} {t : Nat} (h : ev_br Y pc .le t = true) (k1 : Ev en l Ln xs Y d S t ls st m o1) (k2 : Ev en l Ln xs Y d S (pc + 3) ls st m o2) : Ev en l Ln xs Y d S pc ls (.int x :: st) m (if x ≤ 0 then o1 else o2) := by
  intro r m' q
  obtain ⟨off, h1, h2⟩ := ev_br_ok h
  exact Wk.if_le h1 h2 (fun z => k1 r m' (by rw [if_pos z] at q; exact q)) (fun z => k2 r m' (by rw [if_neg z] at q; exact q))
theorem Ev.ic_le {x y : Int32} {t : Nat} (h : ev_bc Y pc .le t = true) (k1 : Ev en l Ln xs Y d S t ls st m o1) (k2 : Ev en l Ln xs Y d S (pc + 3) ls st m o2) : Ev en l Ln xs Y d S pc ls (.int y :: .int x :: st) m (if x ≤ y then o1 else o2) := by
  intro r m' q
  obtain ⟨off, h1, h2⟩ := ev_bc_ok h
  exact Wk.ic_le h1 h2 (fun z => k1 r m' (by rw [if_pos z] at q; exact q)) (fun z => k2 r m' (by rw [if_neg z] at q; exact q))
theorem Ev.idiv {x y : Int32} (h : ev_is Y pc .idiv 1 = true) (k : Ev en l Ln xs Y d S (pc + 1) ls (.int (x / y) :: st) m o) : Ev en l Ln xs Y d S pc ls (.int y :: .int x :: st) m (if y = 0 then .none else o) := by
  intro r m' q
  by_cases z : y = 0
  · rw [if_pos z] at q; cases q
  · rw [if_neg z] at q; exact Wk.idiv (ev_is_ok h) z (k r m' q)
theorem Ev.idiv' {x y : Int32} (h : ev_is Y pc .idiv 1 = true) (z : ¬ y = 0) (k : Ev en l Ln xs Y d S (pc + 1) ls (.int (x / y) :: st) m o) : Ev en l Ln xs Y d S pc ls (.int y :: .int x :: st) m o := fun r m' q => Wk.idiv (ev_is_ok h) z (k r m' q)
theorem Ev.irem {x y : Int32} (h : ev_is Y pc .irem 1 = true) (k : Ev en l Ln xs Y d S (pc + 1) ls (.int (x - x / y * y) :: st) m o) : Ev en l Ln xs Y d S pc ls (.int y :: .int x :: st) m (if y = 0 then .none else o) := by
  intro r m' q
  by_cases z : y = 0
  · rw [if_pos z] at q; cases q
  · rw [if_neg z] at q; exact Wk.irem (ev_is_ok h) z (k r m' q)
theorem Ev.irem' {x y : Int32} (h : ev_is Y pc .irem 1 = true) (z : ¬ y = 0) (k : Ev en l Ln xs Y d S (pc + 1) ls (.int (x - x / y * y) :: st) m o) : Ev en l Ln xs Y d S pc ls (.int y :: .int x :: st) m o := fun r m' q => Wk.irem (ev_is_ok h) z (k r m' q)
theorem Ev.ldiv {x y : Int64} (h : ev_is Y pc .ldiv 1 = true) (k : Ev en l Ln xs Y d S (pc + 1) ls (.long (x / y) :: st) m o) : Ev en l Ln xs Y d S pc ls (.long y :: .long x :: st) m (if y = 0 then .none else o) := by
  intro r m' q
  by_cases z : y = 0
  · rw [if_pos z] at q; cases q
  · rw [if_neg z] at q; exact Wk.ldiv (ev_is_ok h) z (k r m' q)
theorem Ev.ldiv' {x y : Int64} (h : ev_is Y pc .ldiv 1 = true) (z : ¬ y = 0) (k : Ev en l Ln xs Y d S (pc + 1) ls (.long (x / y) :: st) m o) : Ev en l Ln xs Y d S pc ls (.long y :: .long x :: st) m o := fun r m' q => Wk.ldiv (ev_is_ok h) z (k r m' q)
theorem Ev.lrem {x y : Int64} (h : ev_is Y pc .lrem 1 = true) (k : Ev en l Ln xs Y d S (pc + 1) ls (.long (x - x / y * y) :: st) m o) : Ev en l Ln xs Y d S pc ls (.long y :: .long x :: st) m (if y = 0 then .none else o) := by
  intro r m' q
  by_cases z : y = 0
  · rw [if_pos z] at q; cases q
  · rw [if_neg z] at q; exact Wk.lrem (ev_is_ok h) z (k r m' q)
theorem Ev.lrem' {x y : Int64} (h : ev_is Y pc .lrem 1 = true) (z : ¬ y = 0) (k : Ev en l Ln xs Y d S (pc + 1) ls (.long (x - x / y * y) :: st) m o) : Ev en l Ln xs Y d S pc ls (.long y :: .long x :: st) m o := fun r m' q => Wk.lrem (ev_is_ok h) z (k r m' q)
theorem Ev.iald {a n : Nat} {i : Int32} (h : ev_is Y pc .iaload 1 = true) (ha : a < S.1) (hs : S.2.1 a = (100, n)) (k : Ev en l Ln xs Y d S (pc + 1) ls (.int (m.1 a i.toNatClampNeg) :: st) m o) : Ev en l Ln xs Y d S pc ls (.int i :: .ref a :: st) m (if ev_in i n then o else .none) := by
  intro r m' q
  by_cases z : ev_in i n
  · rw [if_pos z] at q; exact Wk.iald (ev_is_ok h) ha hs z (k r m' q)
  · rw [if_neg z] at q; cases q
theorem Ev.cald {a n : Nat} {i : Int32} (h : ev_is Y pc .caload 1 = true) (ha : a < S.1) (hs : S.2.1 a = (101, n)) (k : Ev en l Ln xs Y d S (pc + 1) ls (.int (m.1 a i.toNatClampNeg) :: st) m o) : Ev en l Ln xs Y d S pc ls (.int i :: .ref a :: st) m (if ev_in i n then o else .none) := by
  intro r m' q
  by_cases z : ev_in i n
  · rw [if_pos z] at q; exact Wk.cald (ev_is_ok h) ha hs z (k r m' q)
  · rw [if_neg z] at q; cases q
theorem Ev.zald {a n : Nat} {i : Int32} (h : ev_is Y pc .baload 1 = true) (ha : a < S.1) (hs : S.2.1 a = (103, n)) (k : Ev en l Ln xs Y d S (pc + 1) ls (.int (m.1 a i.toNatClampNeg) :: st) m o) : Ev en l Ln xs Y d S pc ls (.int i :: .ref a :: st) m (if ev_in i n then o else .none) := by
  intro r m' q
  by_cases z : ev_in i n
  · rw [if_pos z] at q; exact Wk.zald (ev_is_ok h) ha hs z (k r m' q)
  · rw [if_neg z] at q; cases q
theorem Ev.lald {a n : Nat} {i : Int32} (h : ev_is Y pc .laload 1 = true) (ha : a < S.1) (hs : S.2.1 a = (102, n)) (k : Ev en l Ln xs Y d S (pc + 1) ls (.long (m.2 a i.toNatClampNeg) :: st) m o) : Ev en l Ln xs Y d S pc ls (.int i :: .ref a :: st) m (if ev_in i n then o else .none) := by
  intro r m' q
  by_cases z : ev_in i n
  · rw [if_pos z] at q; exact Wk.lald (ev_is_ok h) ha hs z (k r m' q)
  · rw [if_neg z] at q; cases q
theorem Ev.sald {i : Int32} (h : ev_is Y pc .iaload 1 = true) (k : Ev en l Ln xs Y d S (pc + 1) ls (.int (xs i.toNatClampNeg) :: st) m o) : Ev en l Ln xs Y d S pc ls (.int i :: .ref 5000 :: st) m (if ev_in i Ln then o else .none) := by
  intro r m' q
  by_cases z : ev_in i Ln
  · rw [if_pos z] at q; exact Wk.sald (ev_is_ok h) z (k r m' q)
  · rw [if_neg z] at q; cases q
theorem Ev.slen (h : ev_is Y pc .arraylength 1 = true) (k : Ev en l Ln xs Y d S (pc + 1) ls (.int (Int32.ofNat Ln) :: st) m o) : Ev en l Ln xs Y d S pc ls (.ref 5000 :: st) m o := fun r m' q => Wk.slen (ev_is_ok h) (k r m' q)
theorem Ev.alen {a n c : Nat} (h : ev_is Y pc .arraylength 1 = true) (ha : a < S.1) (hs : S.2.1 a = (c, n)) (hc : 100 ≤ c) (k : Ev en l Ln xs Y d S (pc + 1) ls (.int (Int32.ofNat n) :: st) m o) : Ev en l Ln xs Y d S pc ls (.ref a :: st) m o := fun r m' q => Wk.alen (ev_is_ok h) ha (by rw [hs]; exact hc) (by rw [hs]; exact k r m' q)
theorem Ev.aald {a n b : Nat} {i : Int32} (h : ev_is Y pc .aaload 1 = true) (ha : a < S.1) (hs : S.2.1 a = (104, n)) (hb : ev_in i n → S.2.2 a i.toNatClampNeg = some b) (k : ev_in i n → Ev en l Ln xs Y d S (pc + 1) ls (.ref b :: st) m o) : Ev en l Ln xs Y d S pc ls (.int i :: .ref a :: st) m (if ev_in i n then o else .none) := by
  intro r m' q
  by_cases z : ev_in i n
  · rw [if_pos z] at q; exact Wk.aald (ev_is_ok h) ha hs z (hb z) (k z r m' q)
  · rw [if_neg z] at q; cases q
theorem Ev.iast {a n : Nat} {i : Int32} {v : Int32} (h : ev_is Y pc .iastore 1 = true) (ha : a < S.1) (hs : S.2.1 a = (100, n)) (k : Ev en l Ln xs Y d S (pc + 1) ls st (ev_up m.1 a i.toNatClampNeg v, m.2) o) : Ev en l Ln xs Y d S pc ls (.int v :: .int i :: .ref a :: st) m (if ev_in i n then o else .none) := by
  intro r m' q
  by_cases z : ev_in i n
  · rw [if_pos z] at q; exact Wk.iast (ev_is_ok h) ha hs z (k r m' q)
  · rw [if_neg z] at q; cases q
theorem Ev.cast {a n : Nat} {i : Int32} {v : Int32} (h : ev_is Y pc .castore 1 = true) (ha : a < S.1) (hs : S.2.1 a = (101, n)) (k : Ev en l Ln xs Y d S (pc + 1) ls st (ev_up m.1 a i.toNatClampNeg v.toUInt32.toUInt16.toUInt32.toInt32, m.2) o) : Ev en l Ln xs Y d S pc ls (.int v :: .int i :: .ref a :: st) m (if ev_in i n then o else .none) := by
  intro r m' q
  by_cases z : ev_in i n
  · rw [if_pos z] at q; exact Wk.cast (ev_is_ok h) ha hs z (k r m' q)
  · rw [if_neg z] at q; cases q
theorem Ev.zast {a n : Nat} {i : Int32} {v : Int32} (h : ev_is Y pc .bastore 1 = true) (ha : a < S.1) (hs : S.2.1 a = (103, n)) (k : Ev en l Ln xs Y d S (pc + 1) ls st (ev_up m.1 a i.toNatClampNeg (v &&& 1), m.2) o) : Ev en l Ln xs Y d S pc ls (.int v :: .int i :: .ref a :: st) m (if ev_in i n then o else .none) := by
  intro r m' q
  by_cases z : ev_in i n
  · rw [if_pos z] at q; exact Wk.zast (ev_is_ok h) ha hs z (k r m' q)
  · rw [if_neg z] at q; cases q
theorem Ev.last {a n : Nat} {i : Int32} {v : Int64} (h : ev_is Y pc .lastore 1 = true) (ha : a < S.1) (hs : S.2.1 a = (102, n)) (k : Ev en l Ln xs Y d S (pc + 1) ls st (m.1, ev_up m.2 a i.toNatClampNeg v) o) : Ev en l Ln xs Y d S pc ls (.long v :: .int i :: .ref a :: st) m (if ev_in i n then o else .none) := by
  intro r m' q
  by_cases z : ev_in i n
  · rw [if_pos z] at q; exact Wk.last (ev_is_ok h) ha hs z (k r m' q)
  · rw [if_neg z] at q; cases q
theorem Ev.ireti {en : Int32 → Option Value} {v : Int32} (he : en v = some (.int v)) (hr : Y.2.2.2.1 = some .int) (h : ev_is Y pc .ireturn 1 = true) : Ev en l Ln xs Y d S pc ls [.int v] m (some (v, m)) := by
  intro r m' q
  cases q
  exact Wk.iret hr (ev_is_ok h) ⟨he.symm, rfl, rfl⟩
theorem Ev.iretz {en : Int32 → Option Value} {v : Int32} (he : en v = some (.int v)) (hr : Y.2.2.2.1 = some .boolean) (h : ev_is Y pc .ireturn 1 = true) (hv : v = 0 ∨ v = 1) : Ev en l Ln xs Y d S pc ls [.int v] m (some (v, m)) := by
  intro r m' q
  cases q
  exact Wk.zret hr hv (ev_is_ok h) ⟨he.symm, rfl, rfl⟩
theorem Ev.iretb {en : Int32 → Option Value} {v : Int32} (he : en v = some (.int v)) (hr : Y.2.2.2.1 = some .boolean) (h : ev_is Y pc .ireturn 1 = true) : Ev en l Ln xs Y d S pc ls [.int v] m (if v = 0 ∨ v = 1 then some (v, m) else .none) := by
  intro r m' q
  by_cases z : v = 0 ∨ v = 1
  · rw [if_pos z] at q; cases q
    exact Wk.zret hr z (ev_is_ok h) ⟨he.symm, rfl, rfl⟩
  · rw [if_neg z] at q; cases q
theorem Ev.retl {en : Int64 → Option Value} {v : Int64} (he : en v = some (.long v)) (hr : Y.2.2.2.1 = some .long) (h : ev_is Y pc .lreturn 1 = true) : Ev en l Ln xs Y d S pc ls [.long v] m (some (v, m)) := by
  intro r m' q
  cases q
  exact Wk.lret hr (ev_is_ok h) ⟨he.symm, rfl, rfl⟩
theorem Ev.retv {en : Unit → Option Value} (he : en () = none) (hr : Y.2.2.2.1 = none) (h : ev_is Y pc .return_ 1 = true) : Ev en l Ln xs Y d S pc ls [] m (some ((), m)) := by
  intro r m' q
  cases q
  exact Wk.vret hr (ev_is_ok h) ⟨he.symm, rfl, rfl⟩
/-- a switch, case by case -/
def ev_sw {α : Type} (x : Int32) : List (Int32 × α) → α → α
  | [], e => e
  | (c, a) :: t, e => if x = c then a else ev_sw x t e
def ev_swd (Y : ev_Y) (pc : Nat) (vals : List Int) (dt : Nat) : Bool := decide (0 < dt) && (match decode Y.2.1 pc with
  | .ok (.tableswitch dd lo hi offs, _) => decide ((pc : Int) + dd = (dt : Int)) && (List.range (hi + 1 - lo).toNat).all (fun j => vals.contains (lo + j) || decide (ev_tg Y pc (lo + j) = some dt))
  | .ok (.lookupswitch dd ps, _) => decide ((pc : Int) + dd = (dt : Int)) && ps.toList.all (fun q => vals.contains q.1) && (ps.toList.zip (ps.toList.drop 1)).all (fun (a, next) => a.1 < next.1)
  | _ => false)
theorem ev_off_none : ∀ (ps : List (Int × Int)) (dd v : Int), (∀ q ∈ ps, q.1 ≠ v) → Op.lookupswitch.offset ps dd v = dd
  | [], _, _, _ => rfl
  | (a, o) :: t, dd, v, h => by
    rw [Op.lookupswitch.offset_cons, if_neg (h (a, o) List.mem_cons_self)]
    exact ev_off_none t dd v (fun q hq => h q (List.mem_cons_of_mem _ hq))
theorem ev_swd_ok {Y : ev_Y} {pc dt : Nat} {vals : List Int} (h : ev_swd Y pc vals dt = true) {v : Int} (hv : v ∉ vals) : ev_tg Y pc v = some dt ∧ 0 < dt := by
  unfold ev_swd at h
  rw [Bool.and_eq_true] at h
  obtain ⟨h0, h⟩ := h
  refine ⟨?_, of_decide_eq_true h0⟩
  split at h
  · rename_i dd lo hi offs n hq
    rw [Bool.and_eq_true] at h
    have h1 := of_decide_eq_true h.1
    by_cases hb : v < lo ∨ hi < v
    · unfold ev_tg
      rw [hq]
      dsimp only
      rw [if_pos hb, h1]
      rfl
    · have h2 := List.all_eq_true.mp h.2 (v - lo).toNat (List.mem_range.mpr (by omega))
      have e : lo + ((v - lo).toNat : Int) = v := by omega
      rw [e, Bool.or_eq_true] at h2
      rcases h2 with h2 | h2
      · exact absurd (List.contains_iff_mem.mp h2) hv
      · exact of_decide_eq_true h2
  · rename_i dd ps n hq
    rw [Bool.and_eq_true, Bool.and_eq_true] at h
    obtain ⟨⟨h1, h2⟩, h3⟩ := h
    unfold ev_tg
    rw [hq]
    dsimp only
    rw [if_pos h3, ev_off_none ps.toList dd v (fun q hq' e => hv (by have := List.all_eq_true.mp h2 q hq'; rw [e] at this; exact List.contains_iff_mem.mp this)), of_decide_eq_true h1]
    rfl
  · cases h
theorem Ev.sw0 {x : Int32} {vals : List Int} {dt : Nat} (h : ev_swd Y pc vals dt = true) (hx : x.toInt ∉ vals) (k : Ev en l Ln xs Y d S dt ls st m o) : Ev en l Ln xs Y d S pc ls (.int x :: st) m o := fun r m' q => Wk.sw (ev_swd_ok h hx).1 (ev_swd_ok h hx).2 (k r m' q)
theorem Ev.sw1 {x : Int32} (c : Int32) {t : Nat} (ht : ev_tg Y pc c.toInt = some t) (h0 : 0 < t) (k1 : Ev en l Ln xs Y d S t ls st m o1) (k2 : ¬ x = c → Ev en l Ln xs Y d S pc ls (.int x :: st) m o2) : Ev en l Ln xs Y d S pc ls (.int x :: st) m (if x = c then o1 else o2) := by
  intro r m' q
  by_cases z : x = c
  · rw [if_pos z] at q; subst z; exact Wk.sw ht h0 (k1 r m' q)
  · rw [if_neg z] at q; exact k2 z r m' q
theorem Ev.ite {p : Prop} [Decidable p] (k1 : p → Ev en l Ln xs Y d S pc ls st m o1) (k2 : ¬ p → Ev en l Ln xs Y d S pc ls st m o2) : Ev en l Ln xs Y d S pc ls st m (if p then o1 else o2) := by
  by_cases z : p
  · rw [if_pos z]; exact k1 z
  · rw [if_neg z]; exact k2 z
theorem Ev.getS {a ci k idx : Nat} {v : Value} (hlk : ev_lk Y.2.2.2.2 idx = some (ci, k)) (h : ev_is Y pc (.getfield idx) 3 = true) (ha : a < S.1) (hs : (S.2.1 a).1 = ci) (hk : k < (S.2.1 a).2) (hv : ev_gv S m ci a k = v) (kk : Ev en l Ln xs Y d S (pc + 3) ls (v :: st) m o) : Ev en l Ln xs Y d S pc ls (.ref a :: st) m o := fun r m' q => Wk.getf hlk (ev_is_ok h) ha hs hk (by rw [hv]; exact kk r m' q)
theorem Ev.putI {a ci k idx : Nat} {v : Int32} (hlk : ev_lk Y.2.2.2.2 idx = some (ci, k)) (hfin : ev_fin ci k = false) (h : ev_is Y pc (.putfield idx) 3 = true) (ha : a < S.1) (hs : (S.2.1 a).1 = ci) (hk : k < (S.2.1 a).2) (hdy : ev_dyn ci k = false) (ht : ev_tys ci k = .int) (kk : Ev en l Ln xs Y d S (pc + 3) ls st (ev_up m.1 a k v, m.2) o) : Ev en l Ln xs Y d S pc ls (.int v :: .ref a :: st) m o := fun r m' q => Wk.putf (m' := (ev_up m.1 a k v, m.2)) hlk hfin (ev_is_ok h) ha hs hk (fun i hi => ⟨ev_up_ne _ _ _ hi, rfl⟩) (fun j _ => ev_gv_up S m _ _ _ _ hdy (Or.inl ht) j) (fun al => by rw [ht]; rfl) (fun al => by rw [ht]; rfl) (kk r m' q)
theorem ev_gv_dyn (S : ev_S) (m : ev_M) (c a k b : Nat) (hd : ev_dyn c k = true) (h0 : 0 < b) (h1 : b < 4000) (j : Nat) : ev_gv S (ev_up m.1 a k (Int32.ofNat b), m.2) c a j = if j = k then .ref b else ev_gv S m c a j := by
  unfold ev_gv
  simp only [ev_up_at]
  by_cases hj : j = k
  · subst hj
    have e1 : ¬ Int32.ofNat b = 0 := by
      intro q
      have h2 := congrArg Int32.toInt q
      rw [Int32.toInt_ofNat_of_lt (by omega)] at h2
      simp at h2
      omega
    have e2 : (Int32.ofNat b).toNatClampNeg = b := by
      rw [Int32.toNatClampNeg, Int32.toInt_ofNat_of_lt (by omega)]
      simp
    simp [hd, e1, e2]
  · simp [hj]
theorem Ev.putD {a ci k idx b : Nat} (hlk : ev_lk Y.2.2.2.2 idx = some (ci, k)) (hfin : ev_fin ci k = false) (h : ev_is Y pc (.putfield idx) 3 = true) (ha : a < S.1) (hs : (S.2.1 a).1 = ci) (hk : k < (S.2.1 a).2) (hdy : ev_dyn ci k = true) (h0 : 0 < b) (h1 : b < 4000) (kk : Ev en l Ln xs Y d S (pc + 3) ls st (ev_up m.1 a k (Int32.ofNat b), m.2) o) : Ev en l Ln xs Y d S pc ls (.ref b :: .ref a :: st) m o := by
  obtain ⟨n, ht⟩ := ev_dyn_ty hdy
  exact fun r m' q => Wk.putf (m' := (ev_up m.1 a k (Int32.ofNat b), m.2)) hlk hfin (ev_is_ok h) ha hs hk (fun i hi => ⟨ev_up_ne _ _ _ hi, rfl⟩) (fun j _ => ev_gv_dyn S m _ _ _ _ hdy h0 h1 j) (fun al => by rw [ht]; rfl) (fun al => by rw [ht]; rfl) (kk r m' q)
theorem ev_gv_dyn1 {S : ev_S} {m : ev_M} {c a k : Nat} (hd : ev_dyn c k = true) (h : (m.1 a k).toNatClampNeg ≠ 0) : ev_gv S m c a k = .ref (m.1 a k).toNatClampNeg := by
  unfold ev_gv
  rw [if_pos hd, if_neg]
  intro q
  rw [q] at h
  exact h rfl
theorem Ev.callV {τ' : Type} {en' : τ' → Option Value} {Y' : ev_Y} {n d' idx a : Nat} {av : List Value} {stk : List Value} {oc : Option (τ' × ev_M)} {kf : τ' × ev_M → Option (τ × ev_M)} (hM : Mv en' l Ln xs Y' d' S (.ref a :: av) m oc) (hstk : stk = av.reverse ++ .ref a :: st) (h : ev_is Y pc (.invokevirtual idx) 3 = true) (hw : ev_mw Y' n) (hi : Cond.instanceMethod Y'.1 ∈ lw_tbl) (hse : Cond.selects Y'.1.cls Y'.1 Y'.1 ∈ lw_tbl) (hl : Cond.methodLink (ev_cn Y.2.2.2.2) idx Y'.1 ∈ lw_tbl) (hdd : d' + 1 ≤ d) (ha : a < S.1) (hs : (S.2.1 a).1 = Y'.2.2.2.2) (h13 : Y'.2.2.2.2 < 13) (hcn : Y'.1.cls = ev_cn Y'.2.2.2.2) (hn : av.length = n) (hrm : (st.map fun v => v.category).sum ≤ 8)
    (kk : ∀ (r : τ') (m1 : ev_M), Ev en l Ln xs Y d S (pc + 3) ls ((en' r).toList ++ st) m1 (kf (r, m1))) : Ev en l Ln xs Y d S pc ls stk m (oc.bind kf) := by
  intro r m' q
  obtain ⟨⟨r1, m1⟩, h1, h2⟩ := Option.bind_eq_some_iff.mp q
  exact Wk.callV hstk (ev_is_ok h) hw hi hse hl (hM r1 m1 h1) hdd (Nat.le_refl _) (Nat.le_refl _) ha hs h13 hcn hn hrm (fun v S' m2 hq => by
    obtain ⟨rfl, rfl, rfl⟩ := hq
    exact kk r1 m2 r m' h2)
theorem Ev.callVN {τ' : Type} {en' : τ' → Option Value} {Y' : ev_Y} {n d' idx a : Nat} {host : String} {av : List Value} {stk : List Value} {oc : Option (τ' × ev_M)} {kf : τ' × ev_M → Option (τ × ev_M)} (hM : Mv en' l Ln xs Y' d' S (.ref a :: av) m oc) (hstk : stk = av.reverse ++ .ref a :: st) (h : ev_is Y pc (.invokevirtual idx) 3 = true) (hw : ev_mw Y' n) (hi : Cond.instanceMethod Y'.1 ∈ lw_tbl) (hse : Cond.selects Y'.1.cls Y'.1 Y'.1 ∈ lw_tbl) (hl : Cond.methodLinkNest (ev_cn Y.2.2.2.2) idx Y'.1 host ∈ lw_tbl) (hdd : d' + 1 ≤ d) (ha : a < S.1) (hs : (S.2.1 a).1 = Y'.2.2.2.2) (h13 : Y'.2.2.2.2 < 13) (hcn : Y'.1.cls = ev_cn Y'.2.2.2.2) (hn : av.length = n) (hrm : (st.map fun v => v.category).sum ≤ 8)
    (kk : ∀ (r : τ') (m1 : ev_M), Ev en l Ln xs Y d S (pc + 3) ls ((en' r).toList ++ st) m1 (kf (r, m1))) : Ev en l Ln xs Y d S pc ls stk m (oc.bind kf) := by
  intro r m' q
  obtain ⟨⟨r1, m1⟩, h1, h2⟩ := Option.bind_eq_some_iff.mp q
  exact Wk.callVN hstk (ev_is_ok h) hw hi hse hl (hM r1 m1 h1) hdd (Nat.le_refl _) (Nat.le_refl _) ha hs h13 hcn hn hrm (fun v S' m2 hq => by
    obtain ⟨rfl, rfl, rfl⟩ := hq
    exact kk r1 m2 r m' h2)
theorem Ev.callS {τ' : Type} {en' : τ' → Option Value} {Y' : ev_Y} {n d' idx : Nat} {av : List Value} {stk : List Value} {oc : Option (τ' × ev_M)} {kf : τ' × ev_M → Option (τ × ev_M)} (hM : Mv en' l Ln xs Y' d' S av m oc) (hstk : stk = av.reverse ++ st) (h : ev_is Y pc (.invokestatic idx) 3 = true) (hw : ev_mw Y' n) (hst : Cond.static Y'.1 ∈ lw_tbl) (hl : Cond.methodLink (ev_cn Y.2.2.2.2) idx Y'.1 ∈ lw_tbl) (hdd : d' + 1 ≤ d) (hn : av.length = n) (hrm : (st.map fun v => v.category).sum ≤ 8)
    (kk : ∀ (r : τ') (m1 : ev_M), Ev en l Ln xs Y d S (pc + 3) ls ((en' r).toList ++ st) m1 (kf (r, m1))) : Ev en l Ln xs Y d S pc ls stk m (oc.bind kf) := by
  intro r m' q
  obtain ⟨⟨r1, m1⟩, h1, h2⟩ := Option.bind_eq_some_iff.mp q
  exact Wk.callS hstk (ev_is_ok h) hw hst hl (hM r1 m1 h1) hdd (Nat.le_refl _) (Nat.le_refl _) hn hrm (fun v S' m2 hq => by
    obtain ⟨rfl, rfl, rfl⟩ := hq
    exact kk r1 m2 r m' h2)
end EvEv
