def ev_cn : Nat → String
  | 0 => RX0
  | 1 => RX1
  | 2 => RX2
  | 3 => RX3
  | 4 => RX4
  | 5 => RX5
  | 6 => RX6
  | 7 => RX7
  | 8 => RX8
  | 9 => RX9
  | 10 => RX10
  | 11 => RX11
  | 12 => RX12
  | 13 => RL
  | 14 => RJ6
  | 15 => RJ9
  | 16 => RJ0
  | 17 => RJ1
  | _ => RJ3
/-! A judgement over the machine: small states (numbers of objects, not addresses), every word that a method needs hidden in it. -/
def ev_ok : Cond → Bool
  | .fieldLinkNest .. => true
  | .methodLinkNest .. => true
  | .arrayOver (.object _) => true
  | w => goodWord w
def ev_TB (U : State) : Prop := ∀ w ∈ lw_tbl, ev_ok w = true → w.before #[] U = true
theorem ev_word {s U : State} (hW : s.WarmedH U.vm) {w : Cond} (hk : ev_ok w = true) {a a' : Array Value} (h : w.before a s = true) : w.before a' U = true := by
  by_cases hg : goodWord w = true
  · exact word_at hW (good_of_word hg) h
  · cases w <;> first
      | exact absurd hk hg
      | exact va_Nw.use rfl (va_Nw.warmF hW (va_Nw.of rfl h))
      | exact va_Nw.use rfl (va_Nw.warmM hW (va_Nw.of rfl h))
      | (rename_i t; cases t <;> first | exact absurd hk hg | exact va_AO.use (va_AO.moved hW.alike (va_AO.of h)))
theorem ev_TB.warm {s U : State} (h : ev_TB s) (hW : s.WarmedH U.vm) : ev_TB U := fun w hw hk => ev_word hW hk (h w hw hk)
theorem ev_TB.at {U : State} (h : ev_TB U) {w : Cond} (hw : w ∈ lw_tbl) (hk : ev_ok w = true) (a : Array Value) : w.before a U = true := ev_word (State.WarmedH.refl U) hk (h w hw hk)
theorem ev_TB.of {U : State} {a : Array Value} (h : ∀ w ∈ lw_tbl, w.before a U = true) : ev_TB U := fun w hw hk => ev_word (State.WarmedH.refl U) hk (h w hw)
abbrev ev_M : Type := (Nat → Nat → Int32) × (Nat → Nat → Int64)
abbrev ev_S : Type := Nat × (Nat → Nat × Nat) × (Nat → Nat → Option Nat)
abbrev ev_Y : Type := MethodName × ByteArray × Nat × Option FieldType × Nat
def ev_al (base : Nat) (ext : Nat → Nat) (i : Nat) : Nat := if 5000 ≤ i then ext (i - 5000) else base + i
def ev_v (al : Nat → Nat) : Value → Value
  | .ref a => .ref (al a)
  | v => v
def ev_tys : Nat → Nat → FieldType
  | 0 => tyX0
  | 1 => tyX1
  | 2 => tyX2
  | 3 => tyX3
  | 4 => tyX4
  | 5 => tyX5
  | 6 => tyX6
  | 7 => tyX7
  | 8 => tyX8
  | 9 => tyX9
  | 10 => tyX10
  | 11 => tyX11
  | 12 => tyX12
  | _ => fun _ => .int
def ev_dyn (c k : Nat) : Bool := match c, k with
  | 3, 2 => true
  | 9, 1 => true
  | 11, 0 => true
  | 11, 1 => true
  | _, _ => false
/-- what a field holds, in numbers of objects -/
def ev_gv (S : ev_S) (m : ev_M) (c i k : Nat) : Value :=
  if ev_dyn c k = true then (if m.1 i k = 0 then .null else .ref (m.1 i k).toNatClampNeg) else
  match ev_tys c k with
  | .long => .long (m.2 i k)
  | .object _ => va_rf (S.2.2 i k)
  | .array _ => va_rf (S.2.2 i k)
  | _ => .int (m.1 i k)
def ev_ent (cA : Nat → ClassId) (al : Nat → Nat) (S : ev_S) (m : ev_M) (i : Nat) : va_E :=
  if (S.2.1 i).1 < 100 then .inr ((S.2.1 i).1, (List.range (S.2.1 i).2).map (fun k => ev_v al (ev_gv S m (S.2.1 i).1 i k)))
  else if (S.2.1 i).1 = 100 then .inl (cA 0, (S.2.1 i).2, .inl (m.1 i))
  else if (S.2.1 i).1 = 101 then .inl (cA 1, (S.2.1 i).2, .inl (m.1 i))
  else if (S.2.1 i).1 = 102 then .inl (cA 2, (S.2.1 i).2, .inr (.inl (m.2 i)))
  else if (S.2.1 i).1 = 103 then .inl (cA 3, (S.2.1 i).2, .inl (m.1 i))
  else .inl (cA 4, (S.2.1 i).2, .inr (.inr (.inr (.inr (fun k => (S.2.2 i k).map al)))))
def ev_R (D : va_G) (cA : Nat → ClassId) (base : Nat) (ext : Nat → Nat) (S : ev_S) (m : ev_M) (H : Heap) : Prop :=
  H.size = base + S.1 ∧ S.1 ≤ 4000 ∧ ∀ i, i < S.1 → va_at D vwCl (base + i, ev_ent cA (ev_al base ext) S m i) H
abbrev ev_ty (cA : Nat → ClassId) : List (ClassId × FieldType) := [(cA 0, .int), (cA 1, .char), (cA 2, .long), (cA 3, .boolean), (cA 4, .object "AllIsWell$State")]
def ev_text : String := "call  tower mood  cheer yes   says  feels well  fires cold  heard round place sigh  tone  numberglad  or    and   not   all   min   max   first last  often total most  least "
def ev_bytes : List Int32 := [99, 97, 108, 108, 32, 32, 116, 111, 119, 101, 114, 32, 109, 111, 111, 100, 32, 32, 99, 104, 101, 101, 114, 32, 121, 101, 115, 32, 32, 32, 115, 97, 121, 115, 32, 32, 102, 101, 101, 108, 115, 32, 119, 101, 108, 108, 32, 32, 102, 105, 114, 101, 115, 32, 99, 111, 108, 100, 32, 32, 104, 101, 97, 114, 100, 32, 114, 111, 117, 110, 100, 32, 112, 108, 97, 99, 101, 32, 115, 105, 103, 104, 32, 32, 116, 111, 110, 101, 32, 32, 110, 117, 109, 98, 101, 114, 103, 108, 97, 100, 32, 32, 111, 114, 32, 32, 32, 32, 97, 110, 100, 32, 32, 32, 110, 111, 116, 32, 32, 32, 97, 108, 108, 32, 32, 32, 109, 105, 110, 32, 32, 32, 109, 97, 120, 32, 32, 32, 102, 105, 114, 115, 116, 32, 108, 97, 115, 116, 32, 32, 111, 102, 116, 101, 110, 32, 116, 111, 116, 97, 108, 32, 109, 111, 115, 116, 32, 32, 108, 101, 97, 115, 116, 32]
/-- what lies outside: the script, the one String constant, the statics that String.charAt reads -/
def ev_O (Ln : Nat) (xs : Nat → Int32) (base : Nat) (ext : Nat → Nat) (U : State) (H : Heap) : Prop :=
  va_X (ext 0) Ln xs U H ∧ ext 0 < base ∧ base ≤ H.size ∧ vk_R "AllIsWell$Tape" 63 ev_text (ext 1) U ∧ vk_S 1 [174] [ev_bytes] (fun _ => ext 1) (fun _ => ext 2) (fun q => base ≤ q) U H ∧
  va_Z "java/lang/String" "COMPACT_STRINGS" "Z" (.int 1) (fun q => base ≤ q) U H ∧ (va_Z "jdk/internal/util/Preconditions" "SIOOBE_FORMATTER" "Ljava/util/function/BiFunction;" .null (fun q => base ≤ q) U H ∨ va_Z "jdk/internal/util/Preconditions" "SIOOBE_FORMATTER" "Ljava/util/function/BiFunction;" (.ref (ext 3)) (fun q => base ≤ q) U H)
theorem ev_O.to {Ln : Nat} {xs : Nat → Int32} {base : Nat} {ext : Nat → Nat} {s U : State} {H H1 : Heap} (h : ev_O Ln xs base ext s H) (hW : s.WarmedH U.vm) (hz : base ≤ H1.size) (hq : ∀ q : Nat, q < base → H1[q]? = H[q]?) : ev_O Ln xs base ext U H1 := by
  obtain ⟨h1, h2, h3, h4, h5, h6, h7⟩ := h
  have hk : ∀ a : Nat, a < H.size → ¬ base ≤ a → H1[a]? = H[a]? := fun a _ h => hq a (Nat.not_le.mp h)
  exact ⟨(h1.kept (hq _ h2)).moved hW.alike, h2, hz, h4.warm hW, (h5.kept hk).moved hW.alike, (h6.kept hk).moved hW.alike, h7.imp (fun h => (h.kept hk).moved hW.alike) (fun h => (h.kept hk).moved hW.alike)⟩
def ev_C (D : va_G) (cA : Nat → ClassId) (base : Nat) (ext : Nat → Nat) (Ln : Nat) (xs : Nat → Int32) (Y : ev_Y) (p : Program) (s : State) (mi : MethodId) (meth : Method) (c : Code) : Prop :=
  p.tables.exec = Jvm.exec ∧ c.code = Y.2.1 ∧ c.maxLocals = Y.2.2.1 ∧ meth.sig.returnType = Y.2.2.2.1 ∧ meth.locks = false ∧ s.vm.findClass (ev_cn Y.2.2.2.2) = some mi.cls ∧ meth.name = Y.1.name ∧ ev_TB s ∧ va_K D vwCl (ev_ty cA) s ∧ ev_O Ln xs base ext s s.heap
def ev_L (al : Nat → Nat) (als : Array Slot) (nL : Nat) (ls : List (Option Value)) : Prop := als.size = nL ∧ lv_wf als ∧ ∀ (i : Nat) (v : Value), ls[i]? = some (some v) → als[i]? = some (.val (ev_v al v))
def ev_F (base : Nat) (s : State) (H : Heap) (locs : List Loc) : Prop := (∀ q : Nat, q < base → H[q]? = s.heap[q]?) ∧ ∀ q ∈ locs, base ≤ q.base
def ev_Q (D : va_G) (cA : Nat → ClassId) (base : Nat) (ext : Nat → Nat) (P : Option Value → ev_S → ev_M → Prop) : Array Value → State → Outcome → State → Prop := fun _ st o t =>
  ∃ (v : Option Value) (S : ev_S) (m : ev_M), o = .returned (v.map (ev_v (ev_al base ext))) ∧ P v S m ∧ ev_R D cA base ext S m t.heap ∧ ∀ q : Nat, q < base → t.heap[q]? = st.heap[q]?
def Wk (l : Launch) (Ln : Nat) (xs : Nat → Int32) (Y : ev_Y) (d kc ks pc : Nat) (ls : List (Option Value)) (st : List Value) (S : ev_S) (m : ev_M) (P : Option Value → ev_S → ev_M → Prop) : Prop :=
  ∀ (D : va_G) (cA : Nat → ClassId) (base : Nat) (ext : Nat → Nat) (p : Program) (e : Env) (R : Room) (s : State) (mi : MethodId) (args : Array Value) (below : List Frame) (meth : Method) (c : Code) (H : Heap) (locs : List Loc) (cells slots : Nat) (als : Array Slot),
    ev_C D cA base ext Ln xs Y p s mi meth c → d ≤ R.frames → 41 * d ≤ R.locals → cells + kc ≤ R.cells → slots + ks ≤ R.slots → ev_R D cA base ext S m H → ev_F base s H locs → ev_L (ev_al base ext) als Y.2.2.1 ls →
    W p l e R s mi args below meth c H locs cells slots (MQ below (ev_Q D cA base ext P) args s (cells + kc) (slots + ks) (fun q => base ≤ q)) (F0 mi pc als (st.map (ev_v (ev_al base ext))))
def Mk (l : Launch) (Ln : Nat) (xs : Nat → Int32) (Y : ev_Y) (d kc ks : Nat) (av : List Value) (S : ev_S) (m : ev_M) (P : Option Value → ev_S → ev_M → Prop) : Prop :=
  ∀ (D : va_G) (cA : Nat → ClassId) (base : Nat) (ext : Nat → Nat), Met l Y.1 [.code Y.1 Y.2.1 Y.2.2.1 Y.2.2.2.1] { frames := d, cells := kc, slots := ks, locals := 41 * d }
    (fun a U => a = (av.map (ev_v (ev_al base ext))).toArray ∧ ev_TB U ∧ va_K D vwCl (ev_ty cA) U ∧ ev_O Ln xs base ext U U.heap ∧ ev_R D cA base ext S m U.heap)
    (ev_Q D cA base ext P) kc ks (fun q => base ≤ q)
/-! locals -/
def ev_lv (al : Nat → Nat) : Nat → List (Option Value) → List (Nat × Value)
  | _, [] => []
  | n, none :: t => ev_lv al (n + 1) t
  | n, some v :: t => (n, ev_v al v) :: ev_lv al (n + 1) t
theorem ev_lv_mem (al : Nat → Nat) : ∀ (ls : List (Option Value)) (n : Nat) (q : Nat × Value), q ∈ ev_lv al n ls ↔ ∃ (i : Nat) (v : Value), ls[i]? = some (some v) ∧ q = (n + i, ev_v al v)
  | [], n, q => by simp [ev_lv]
  | none :: t, n, q => by
    rw [ev_lv, ev_lv_mem al t (n + 1) q]
    constructor
    · rintro ⟨i, v, h, rfl⟩
      exact ⟨i + 1, v, by simpa using h, by rw [Nat.add_right_comm, Nat.add_assoc]⟩
    · rintro ⟨i, v, h, rfl⟩
      cases i with
      | zero => simp at h
      | succ i => exact ⟨i, v, by simpa using h, by rw [Nat.add_right_comm, Nat.add_assoc]⟩
  | some w :: t, n, q => by
    rw [ev_lv, List.mem_cons, ev_lv_mem al t (n + 1) q]
    constructor
    · rintro (rfl | ⟨i, v, h, rfl⟩)
      · exact ⟨0, w, by simp, by simp⟩
      · exact ⟨i + 1, v, by simpa using h, by rw [Nat.add_right_comm, Nat.add_assoc]⟩
    · rintro ⟨i, v, h, rfl⟩
      cases i with
      | zero =>
        simp at h
        subst h
        exact Or.inl (by simp)
      | succ i => exact Or.inr ⟨i, v, by simpa using h, by rw [Nat.add_right_comm, Nat.add_assoc]⟩
theorem ev_L.has {al : Nat → Nat} {als : Array Slot} {nL : Nat} {ls : List (Option Value)} (h : ev_L al als nL ls) : lv_has als nL (ev_lv al 0 ls) := by
  refine ⟨h.1, h.2.1, fun q hq => ?_⟩
  obtain ⟨i, v, h1, rfl⟩ := (ev_lv_mem al ls 0 q).mp hq
  rw [Nat.zero_add]
  exact h.2.2 i v h1
theorem ev_v_cat (al : Nat → Nat) (v : Value) : (ev_v al v).category = v.category := by cases v <;> rfl
def ev_two : Option (Option Value) → Bool
  | some (some v) => v.category == 2
  | _ => false
def ev_kill (ls : List (Option Value)) (i : Nat) : List (Option Value) := match i with
  | 0 => ls
  | j + 1 => if ev_two ls[j]? = true then ls.set j none else ls
def ev_st1 (ls : List (Option Value)) (i : Nat) (v : Value) : List (Option Value) := (ev_kill ls i).set i (some v)
def ev_st2 (ls : List (Option Value)) (i : Nat) (v : Value) : List (Option Value) := (ev_st1 ls i v).set (i + 1) none
theorem ev_st1_at {ls : List (Option Value)} {i j : Nat} {v w : Value} (h : (ev_st1 ls i v)[j]? = some (some w)) : (j = i ∧ w = v) ∨ (j ≠ i ∧ ls[j]? = some (some w) ∧ ¬ (j + 1 = i ∧ w.category = 2)) := by
  unfold ev_st1 at h
  rw [List.getElem?_set] at h
  by_cases hj : i = j
  · subst hj
    rw [if_pos rfl] at h
    split at h
    · cases h; exact Or.inl ⟨rfl, rfl⟩
    · exact absurd h (by simp)
  · rw [if_neg hj] at h
    refine Or.inr ⟨Ne.symm hj, ?_⟩
    unfold ev_kill at h
    cases i with
    | zero => exact ⟨h, fun q => by omega⟩
    | succ i =>
      dsimp only at h
      by_cases h2 : ev_two ls[i]? = true
      · rw [if_pos h2, List.getElem?_set] at h
        by_cases hij : i = j
        · rw [if_pos hij] at h
          split at h
          · cases h
          · cases h
        · rw [if_neg hij] at h
          exact ⟨h, fun q => hij (by omega)⟩
      · rw [if_neg h2] at h
        refine ⟨h, fun q => h2 ?_⟩
        obtain ⟨q1, q2⟩ := q
        have : j = i := by omega
        subst this
        rw [h]
        simp [ev_two, q2]
theorem ev_L.st1 {al : Nat → Nat} {als' : Array Slot} {nL i : Nat} {ls : List (Option Value)} {v : Value} (h : lv_has als' nL ((i, ev_v al v) :: (ev_lv al 0 ls).filter (fun q => !(q.1 == i) && !(q.1 + 1 == i && q.2.category == 2)))) : ev_L al als' nL (ev_st1 ls i v) := by
  refine ⟨h.1, h.2.1, fun j w hw => ?_⟩
  rcases ev_st1_at hw with ⟨rfl, rfl⟩ | ⟨h1, h2, h3⟩
  · exact h.2.2 _ List.mem_cons_self
  · refine h.2.2 (j, ev_v al w) (List.mem_cons_of_mem _ (List.mem_filter.mpr ⟨(ev_lv_mem al ls 0 _).mpr ⟨j, w, h2, by rw [Nat.zero_add]⟩, ?_⟩))
    simp only [ev_v_cat, Bool.and_eq_true, Bool.not_eq_true', beq_eq_false_iff_ne, ne_eq, Bool.and_eq_false_iff]
    refine ⟨h1, ?_⟩
    by_cases hq : j + 1 = i
    · exact Or.inr (fun q => h3 ⟨hq, q⟩)
    · exact Or.inl hq
theorem ev_L.st2 {al : Nat → Nat} {als' : Array Slot} {nL i : Nat} {ls : List (Option Value)} {v : Value} (h : lv_has als' nL ((i, ev_v al v) :: (ev_lv al 0 ls).filter (fun q => !(q.1 == i) && (!(q.1 == i + 1) && !(q.1 + 1 == i && q.2.category == 2))))) : ev_L al als' nL (ev_st2 ls i v) := by
  refine ⟨h.1, h.2.1, fun j w hw => ?_⟩
  unfold ev_st2 at hw
  rw [List.getElem?_set] at hw
  by_cases hj : i + 1 = j
  · rw [if_pos hj] at hw
    split at hw
    · cases hw
    · cases hw
  · rw [if_neg hj] at hw
    rcases ev_st1_at hw with ⟨rfl, rfl⟩ | ⟨h1, h2, h3⟩
    · exact h.2.2 _ List.mem_cons_self
    · refine h.2.2 (j, ev_v al w) (List.mem_cons_of_mem _ (List.mem_filter.mpr ⟨(ev_lv_mem al ls 0 _).mpr ⟨j, w, h2, by rw [Nat.zero_add]⟩, ?_⟩))
      simp only [ev_v_cat, Bool.and_eq_true, Bool.not_eq_true', beq_eq_false_iff_ne, ne_eq, Bool.and_eq_false_iff]
      refine ⟨h1, fun q => hj q.symm, ?_⟩
      by_cases hq : j + 1 = i
      · exact Or.inr (fun q => h3 ⟨hq, q⟩)
      · exact Or.inl hq
/-- a list of locals that knows less -/
def ev_le : List (Option Value) → List (Option Value) → Prop
  | [], _ => True
  | none :: a, _ :: b => ev_le a b
  | none :: a, [] => ev_le a []
  | some v :: a, some w :: b => v = w ∧ ev_le a b
  | some _ :: _, _ => False
theorem ev_le_at : ∀ (a b : List (Option Value)), ev_le a b → ∀ (i : Nat) (v : Value), a[i]? = some (some v) → b[i]? = some (some v)
  | [], _, _, i, v, h => by simp at h
  | none :: a, x :: b, hl, i, v, h => by
    cases i with
    | zero => simp at h
    | succ i => simpa using ev_le_at a b hl i v (by simpa using h)
  | none :: a, [], hl, i, v, h => by
    cases i with
    | zero => simp at h
    | succ i => exact absurd (ev_le_at a [] hl i v (by simpa using h)) (by simp)
  | some x :: a, some y :: b, hl, i, v, h => by
    cases i with
    | zero => simpa [hl.1] using h
    | succ i => simpa using ev_le_at a b hl.2 i v (by simpa using h)
  | some x :: a, none :: b, hl, _, _, _ => hl.elim
  | some x :: a, [], hl, _, _, _ => hl.elim
theorem ev_L.le {al : Nat → Nat} {als : Array Slot} {nL : Nat} {a b : List (Option Value)} (hl : ev_le a b) (h : ev_L al als nL b) : ev_L al als nL a := ⟨h.1, h.2.1, fun i v hv => h.2.2 i v (ev_le_at a b hl i v hv)⟩
def ev_entry (av : List Value) (n : Nat) : List (Option Value) := ((av.flatMap fun (v : Value) => if v.category = 2 then [some v, none] else [some v]) ++ List.replicate n none).take n
