/-! frames -/
def frC (m0 m : ev_M) : Prop := ∀ i, 112 ≤ i → m.1 i = m0.1 i ∧ m.2 i = m0.2 i
def frM (m0 m : ev_M) : Prop := ∀ i, i < 112 → m.1 i = m0.1 i ∧ m.2 i = m0.2 i
def Fr {α : Type} (Q : ev_M → Prop) (o : Option (α × ev_M)) : Prop := ∀ r m', o = some (r, m') → Q m'
theorem Fr.none {α : Type} {Q : ev_M → Prop} : Fr Q (Option.none : Option (α × ev_M)) := fun _ _ h => by cases h
theorem Fr.ok {α : Type} {Q : ev_M → Prop} {r : α} {m : ev_M} (h : Q m) : Fr Q (some (r, m)) := fun _ _ q => by cases q; exact h
theorem Fr.ite {α : Type} {Q : ev_M → Prop} {p : Prop} [Decidable p] {a b : Option (α × ev_M)} (ha : p → Fr Q a) (hb : ¬ p → Fr Q b) : Fr Q (if p then a else b) := by
  by_cases h : p
  · rw [if_pos h]; exact ha h
  · rw [if_neg h]; exact hb h
theorem Fr.bd {α β : Type} {Q : ev_M → Prop} {o : Option (α × ev_M)} {k : α → ev_M → Option (β × ev_M)} (ho : Fr Q o) (hk : ∀ r m, Q m → Fr Q (k r m)) : Fr Q (ev_bd o k) := by
  intro r m' h
  cases o with
  | none => cases h
  | some q => exact hk q.1 q.2 (ho q.1 q.2 rfl) r m' h
theorem frC_I {m0 : ev_M} {I : Nat → Nat → Int32} {L : Nat → Nat → Int64} {a k : Nat} {v : Int32} (ha : a < 112) (h : frC m0 (I, L)) : frC m0 (ev_up I a k v, L) := fun i hi => ⟨(ev_up_ne I k v (by omega)).trans (h i hi).1, (h i hi).2⟩
theorem frC_L {m0 : ev_M} {I : Nat → Nat → Int32} {L : Nat → Nat → Int64} {a k : Nat} {v : Int64} (ha : a < 112) (h : frC m0 (I, L)) : frC m0 (I, ev_up L a k v) := fun i hi => ⟨(h i hi).1, (ev_up_ne L k v (by omega)).trans (h i hi).2⟩
theorem frM_I {m0 : ev_M} {I : Nat → Nat → Int32} {L : Nat → Nat → Int64} {a k : Nat} {v : Int32} (ha : 112 ≤ a) (h : frM m0 (I, L)) : frM m0 (ev_up I a k v, L) := fun i hi => ⟨(ev_up_ne I k v (by omega)).trans (h i hi).1, (h i hi).2⟩
theorem frM_L {m0 : ev_M} {I : Nat → Nat → Int32} {L : Nat → Nat → Int64} {a k : Nat} {v : Int64} (ha : 112 ≤ a) (h : frM m0 (I, L)) : frM m0 (I, ev_up L a k v) := fun i hi => ⟨(h i hi).1, (ev_up_ne L k v (by omega)).trans (h i hi).2⟩
set_option maxRecDepth 100000 in
theorem kf8_all : ∀ o, o < 181 → (lay_sh.getD o (0, 0)).1 = 8 → o + 2 < 112 := by decide +kernel
set_option maxRecDepth 100000 in
theorem kf1_all : ∀ o, o < 181 → (lay_sh.getD o (0, 0)).1 = 1 → o + 5 < 112 := by decide +kernel
set_option maxRecDepth 100000 in
theorem kf2_all : ∀ o, o < 181 → (lay_sh.getD o (0, 0)).1 = 2 → o + 1 < 112 := by decide +kernel
theorem kf8 {o : Nat} (h : isK 8 o) : o + 2 < 112 := kf8_all o h.1 h.2
theorem kf1 {o : Nat} (h : isK 1 o) : o + 5 < 112 := kf1_all o h.1 h.2
theorem kf2 {o : Nat} (h : isK 2 o) : o + 1 < 112 := kf2_all o h.1 h.2
set_option maxRecDepth 100000 in
set_option maxHeartbeats 4000000 in
theorem frC11_fault {m0 : ev_M} (f : Nat) (a1 : Int32) {m : ev_M}  (hm_m : frC m0 m) : Fr (frC m0) (FX11_fault f a1 m) := by
  unfold FX11_fault
  refine Fr.ite (fun _ => ?_) (fun _ => ?_)
  · exact Fr.ok hm_m
  · refine Fr.ite (fun _ => ?_) (fun _ => ?_)
    · exact Fr.ok hm_m
    · exact Fr.ok hm_m
set_option maxRecDepth 100000 in
set_option maxHeartbeats 4000000 in
theorem frC11_octet {m0 : ev_M} (f : Nat) (a1 : Int32) {m : ev_M}  (hm_m : frC m0 m) : Fr (frC m0) (FX11_octet f a1 m) := by
  unfold FX11_octet
  refine Fr.ite (fun _ => ?_) (fun _ => ?_)
  · exact Fr.ok hm_m
  · refine Fr.ite (fun _ => ?_) (fun _ => ?_)
    · exact Fr.ok hm_m
    · refine Fr.ite (fun _ => ?_) (fun _ => ?_)
      · exact Fr.ok hm_m
      · exact Fr.none
set_option maxRecDepth 100000 in
set_option maxHeartbeats 4000000 in
theorem frC11_status {m0 : ev_M} (f : Nat) (a1 : Int32) {m : ev_M}  (hm_m : frC m0 m) : Fr (frC m0) (FX11_status f a1 m) := by
  unfold FX11_status
  refine Fr.ite (fun _ => ?_) (fun _ => ?_)
  · exact Fr.ok hm_m
  · refine Fr.ite (fun _ => ?_) (fun _ => ?_)
    · exact Fr.ok hm_m
    · refine Fr.ite (fun _ => ?_) (fun _ => ?_)
      · exact Fr.ok hm_m
      · exact Fr.none
set_option maxRecDepth 100000 in
set_option maxHeartbeats 4000000 in
theorem frC11_refuse {m0 : ev_M} (f : Nat) (a1 : Int32) {m : ev_M}  (hm_m : frC m0 m) : Fr (frC m0) (FX11_refuse f a1 m) := by
  unfold FX11_refuse
  refine Fr.ite (fun _ => ?_) (fun _ => ?_)
  · refine Fr.ite (fun _ => ?_) (fun _ => ?_)
    · exact Fr.ok (frC_I (by decide) hm_m)
    · exact Fr.none
  · exact Fr.none
set_option maxRecDepth 100000 in
set_option maxHeartbeats 4000000 in
theorem frC11_noteFault {m0 : ev_M} (f : Nat) {m : ev_M}  (hm_m : frC m0 m) : Fr (frC m0) (FX11_noteFault f m) := by
  unfold FX11_noteFault
  exact Fr.ok (frC_I (by decide) (frC_I (by decide) hm_m))
set_option maxRecDepth 100000 in
set_option maxHeartbeats 4000000 in
theorem frC11_isTold {m0 : ev_M} (f : Nat) {m : ev_M}  (hm_m : frC m0 m) : Fr (frC m0) (FX11_isTold f m) := by
  unfold FX11_isTold
  refine Fr.ite (fun hk1 => ?_) (fun _ => ?_)
  · refine Fr.ite (fun _ => ?_) (fun _ => ?_)
    · exact Fr.ok hm_m
    · exact Fr.ok hm_m
  · exact Fr.none
set_option maxRecDepth 100000 in
set_option maxHeartbeats 4000000 in
theorem frC11_isTower {m0 : ev_M} (f : Nat) (a1 : Int32) {m : ev_M}  (hm_m : frC m0 m) : Fr (frC m0) (FX11_isTower f a1 m) := by
  unfold FX11_isTower
  refine Fr.ite (fun _ => ?_) (fun _ => ?_)
  · exact Fr.ok hm_m
  · refine Fr.ite (fun hk1 => ?_) (fun _ => ?_)
    · refine Fr.ite (fun _ => ?_) (fun _ => ?_)
      · exact Fr.ok hm_m
      · exact Fr.ok hm_m
    · exact Fr.none
set_option maxRecDepth 100000 in
set_option maxHeartbeats 4000000 in
theorem frC11_canBeAhead {m0 : ev_M} (f : Nat) (a1 : Int32) (a2 : Int32) (a3 : Int32) {m : ev_M}  (hm_m : frC m0 m) : Fr (frC m0) (FX11_canBeAhead f a1 a2 a3 m) := by
  unfold FX11_canBeAhead
  refine Fr.ite (fun _ => ?_) (fun _ => ?_)
  · exact Fr.ok hm_m
  · refine Fr.ite (fun _ => ?_) (fun _ => ?_)
    · exact Fr.ok hm_m
    · refine Fr.ite (fun _ => ?_) (fun _ => ?_)
      · exact Fr.ok hm_m
      · exact Fr.ok hm_m
set_option maxRecDepth 100000 in
set_option maxHeartbeats 4000000 in
theorem frC11_comes {m0 : ev_M} (f : Nat) (a1 : Int32) {m : ev_M}  (hm_m : frC m0 m) : Fr (frC m0) (FX11_comes f a1 m) := by
  unfold FX11_comes
  refine Fr.ite (fun _ => ?_) (fun _ => ?_)
  · exact Fr.ok hm_m
  · refine Fr.ite (fun _ => ?_) (fun _ => ?_)
    · exact Fr.ok hm_m
    · refine Fr.ite (fun _ => ?_) (fun _ => ?_)
      · exact Fr.ok hm_m
      · exact Fr.ok hm_m
set_option maxRecDepth 100000 in
set_option maxHeartbeats 4000000 in
theorem frC11_canGo {m0 : ev_M} (f : Nat) (a1 : Int32) {m : ev_M}  (hm_m : frC m0 m) : Fr (frC m0) (FX11_canGo f a1 m) := by
  unfold FX11_canGo
  refine Fr.bd (frC11_isTold _ hm_m) (fun r1 m2 hm_m2 => ?_)
  refine Fr.ite (fun _ => ?_) (fun _ => ?_)
  · exact Fr.ok hm_m2
  · refine Fr.bd (frC11_canBeAhead _ _ _ _ hm_m2) (fun r3 m4 hm_m4 => ?_)
    refine Fr.ite (fun _ => ?_) (fun _ => ?_)
    · exact Fr.ok hm_m4
    · exact Fr.ok hm_m4
set_option maxRecDepth 100000 in
set_option maxHeartbeats 4000000 in
theorem frC11_moodsTogether_L4 {m0 : ev_M} (f : Nat) (k : Int32 → ev_M → Option (Int32 × ev_M)) (hk : ∀ (x0 : Int32) (xm : ev_M), frC m0 xm → Fr (frC m0) (k x0 xm)) : ∀ (n : Nat) (a1 : Int32) (a2 : Int32) (m : ev_M), frC m0 m → Fr (frC m0) (FX11_moodsTogether_L4 f k n a1 a2 m) := by
  intro n
  induction n with
  | zero => intros; exact Fr.none
  | succ n ih =>
    intro a1 a2 m hm_m
    rw [FX11_moodsTogether_L4]
    refine Fr.ite (fun hk1 => ?_) (fun _ => ?_)
    · refine Fr.ite (fun _ => ?_) (fun _ => ?_)
      · exact hk _ _ hm_m
      · refine Fr.ite (fun _ => ?_) (fun _ => ?_)
        · exact ih _ _ hm_m
        · exact Fr.none
    · exact Fr.none
set_option maxRecDepth 100000 in
set_option maxHeartbeats 4000000 in
theorem frC11_moodsTogether {m0 : ev_M} (f : Nat) {m : ev_M}  (hm_m : frC m0 m) : Fr (frC m0) (FX11_moodsTogether f m) := by
  unfold FX11_moodsTogether
  exact frC11_moodsTogether_L4 _ _ ((by
  intro e2 m3 hm_m3
  exact Fr.ok hm_m3)) _ _ _ _ hm_m
set_option maxRecDepth 100000 in
set_option maxHeartbeats 4000000 in
theorem frC11_indexBelow_L2 {m0 : ev_M} (f : Nat) (k : ev_M → Option (Int32 × ev_M)) (a1 : Int32) (hk : ∀  (xm : ev_M), frC m0 xm → Fr (frC m0) (k xm)) : ∀ (n : Nat) (a2 : Int32) (m : ev_M), frC m0 m → Fr (frC m0) (FX11_indexBelow_L2 f k a1 n a2 m) := by
  intro n
  induction n with
  | zero => intros; exact Fr.none
  | succ n ih =>
    intro a2 m hm_m
    rw [FX11_indexBelow_L2]
    refine Fr.ite (fun _ => ?_) (fun _ => ?_)
    · exact hk _ hm_m
    · refine Fr.ite (fun _ => ?_) (fun _ => ?_)
      · refine Fr.ite (fun _ => ?_) (fun _ => ?_)
        · refine Fr.ite (fun _ => ?_) (fun _ => ?_)
          · exact Fr.ok hm_m
          · exact ih _ hm_m
        · exact Fr.none
      · exact Fr.none
set_option maxRecDepth 100000 in
set_option maxHeartbeats 4000000 in
theorem frC11_indexBelow {m0 : ev_M} (f : Nat) (a1 : Int32) {m : ev_M}  (hm_m : frC m0 m) : Fr (frC m0) (FX11_indexBelow f a1 m) := by
  unfold FX11_indexBelow
  exact frC11_indexBelow_L2 _ _ _ ((by
  intro m1 hm_m1
  exact Fr.ok hm_m1)) _ _ _ hm_m
set_option maxRecDepth 100000 in
set_option maxHeartbeats 4000000 in
theorem frC11_draw {m0 : ev_M} (f : Nat) (a1 : Int32) {m : ev_M}  (hm_m : frC m0 m) : Fr (frC m0) (FX11_draw f a1 m) := by
  unfold FX11_draw
  refine Fr.ite (fun _ => ?_) (fun _ => ?_)
  · exact Fr.ok (frC_L (by decide) hm_m)
  · refine Fr.ite (fun _ => ?_) (fun _ => ?_)
    · exact Fr.none
    · exact Fr.ok (frC_L (by decide) hm_m)
set_option maxRecDepth 100000 in
set_option maxHeartbeats 4000000 in
theorem frC11_checkOf_L6 {m0 : ev_M} (f : Nat) (k : Int32 → ev_M → Option (Int32 × ev_M)) (o0 : Nat) (a1 : Int32) (h_o0 : isK 100 o0) (hk : ∀ (x0 : Int32) (xm : ev_M), frC m0 xm → Fr (frC m0) (k x0 xm)) : ∀ (n : Nat) (a2 : Int32) (a3 : Int32) (m : ev_M), frC m0 m → Fr (frC m0) (FX11_checkOf_L6 f k o0 a1 n a2 a3 m) := by
  intro n
  induction n with
  | zero => intros; exact Fr.none
  | succ n ih =>
    intro a2 a3 m hm_m
    rw [FX11_checkOf_L6]
    refine Fr.ite (fun _ => ?_) (fun _ => ?_)
    · exact hk _ _ hm_m
    · refine Fr.ite (fun _ => ?_) (fun _ => ?_)
      · exact hk _ _ hm_m
      · refine Fr.ite (fun _ => ?_) (fun _ => ?_)
        · exact ih _ _ hm_m
        · exact Fr.none
set_option maxRecDepth 100000 in
set_option maxHeartbeats 4000000 in
theorem frC11_checkOf {m0 : ev_M} (f : Nat) (o0 : Nat) (a1 : Int32) {m : ev_M} (h_o0 : isK 100 o0) (hm_m : frC m0 m) : Fr (frC m0) (FX11_checkOf f o0 a1 m) := by
  unfold FX11_checkOf
  exact frC11_checkOf_L6 _ _ o0 _ h_o0 ((by
  intro e1 m2 hm_m2
  exact Fr.ok hm_m2)) _ _ _ _ hm_m
set_option maxRecDepth 100000 in
set_option maxHeartbeats 4000000 in
theorem frC11_isPicture_J160 {m0 : ev_M} (f : Nat) (kt101 : Int32 → Int32 → ev_M → Option (Int32 × ev_M)) (a3 : Int32) (s0 : Int32) {m : ev_M} (hkt101 : ∀ (x0 : Int32) (x1 : Int32) (xm : ev_M), frC m0 xm → Fr (frC m0) (kt101 x0 x1 xm)) (hm_m : frC m0 m) : Fr (frC m0) (FX11_isPicture_J160 f kt101 a3 s0 m) := by
  unfold FX11_isPicture_J160
  exact hkt101 _ _ _ hm_m
set_option maxRecDepth 100000 in
set_option maxHeartbeats 4000000 in
theorem frC11_isPicture_J159 {m0 : ev_M} (f : Nat) (kt101 : Int32 → Int32 → ev_M → Option (Int32 × ev_M)) (a3 : Int32) {m : ev_M} (hkt101 : ∀ (x0 : Int32) (x1 : Int32) (xm : ev_M), frC m0 xm → Fr (frC m0) (kt101 x0 x1 xm)) (hm_m : frC m0 m) : Fr (frC m0) (FX11_isPicture_J159 f kt101 a3 m) := by
  unfold FX11_isPicture_J159
  exact frC11_isPicture_J160 _ _ _ _ hkt101 hm_m
set_option maxRecDepth 100000 in
set_option maxHeartbeats 4000000 in
theorem frC11_isPicture_L101 {m0 : ev_M} (f : Nat) (k : Int32 → ev_M → Option (Int32 × ev_M)) (a1 : Int32) (hk : ∀ (x0 : Int32) (xm : ev_M), frC m0 xm → Fr (frC m0) (k x0 xm)) : ∀ (n : Nat) (a2 : Int32) (a3 : Int32) (m : ev_M), frC m0 m → Fr (frC m0) (FX11_isPicture_L101 f k a1 n a2 a3 m) := by
  intro n
  induction n with
  | zero => intros; exact Fr.none
  | succ n ih =>
    intro a2 a3 m hm_m
    rw [FX11_isPicture_L101]
    refine Fr.ite (fun _ => ?_) (fun _ => ?_)
    · exact hk _ _ hm_m
    · refine Fr.ite (fun _ => ?_) (fun _ => ?_)
      · exact frC11_isPicture_J159 _ _ _ ih hm_m
      · refine Fr.ite (fun _ => ?_) (fun _ => ?_)
        · refine Fr.ite (fun _ => ?_) (fun _ => ?_)
          · exact frC11_isPicture_J159 _ _ _ ih hm_m
          · refine Fr.ite (fun _ => ?_) (fun _ => ?_)
            · refine Fr.ite (fun _ => ?_) (fun _ => ?_)
              · exact frC11_isPicture_J159 _ _ _ ih hm_m
              · refine Fr.ite (fun _ => ?_) (fun _ => ?_)
                · refine Fr.ite (fun _ => ?_) (fun _ => ?_)
                  · exact frC11_isPicture_J159 _ _ _ ih hm_m
                  · exact frC11_isPicture_J160 _ _ _ _ ih hm_m
                · exact Fr.none
            · exact Fr.none
        · exact Fr.none
set_option maxRecDepth 100000 in
set_option maxHeartbeats 4000000 in
theorem frC11_isPicture_J98 {m0 : ev_M} (f : Nat) (a1 : Int32) (s0 : Int32) {m : ev_M}  (hm_m : frC m0 m) : Fr (frC m0) (FX11_isPicture_J98 f a1 s0 m) := by
  unfold FX11_isPicture_J98
  exact frC11_isPicture_L101 _ _ _ ((by
  intro e4 m5 hm_m5
  refine Fr.ite (fun _ => ?_) (fun _ => ?_)
  · exact Fr.ok hm_m5
  · exact Fr.none)) _ _ _ _ hm_m
set_option maxRecDepth 100000 in
set_option maxHeartbeats 4000000 in
theorem frC11_isPicture_J97 {m0 : ev_M} (f : Nat) (a1 : Int32) {m : ev_M}  (hm_m : frC m0 m) : Fr (frC m0) (FX11_isPicture_J97 f a1 m) := by
  unfold FX11_isPicture_J97
  exact frC11_isPicture_J98 _ _ _ hm_m
set_option maxRecDepth 100000 in
set_option maxHeartbeats 4000000 in
theorem frC11_isPicture {m0 : ev_M} (f : Nat) {m : ev_M}  (hm_m : frC m0 m) : Fr (frC m0) (FX11_isPicture f m) := by
  unfold FX11_isPicture
  refine Fr.ite (fun hk1 => ?_) (fun _ => ?_)
  · refine Fr.ite (fun _ => ?_) (fun _ => ?_)
    · refine Fr.bd (frC11_checkOf _ 14 _ (by decide) hm_m) (fun r2 m3 hm_m3 => ?_)
      refine Fr.ite (fun _ => ?_) (fun _ => ?_)
      · refine Fr.ite (fun _ => ?_) (fun _ => ?_)
        · refine Fr.ite (fun _ => ?_) (fun _ => ?_)
          · exact frC11_isPicture_J97 _ _ hm_m3
          · refine Fr.ite (fun _ => ?_) (fun _ => ?_)
            · exact frC11_isPicture_J97 _ _ hm_m3
            · exact frC11_isPicture_J98 _ _ _ hm_m3
        · exact Fr.ok hm_m3
      · exact Fr.none
    · exact Fr.ok hm_m
  · exact Fr.none
set_option maxRecDepth 100000 in
set_option maxHeartbeats 4000000 in
theorem frC11_takePicture_L56 {m0 : ev_M} (f : Nat) (k : ev_M → Option (Unit × ev_M)) (hk : ∀  (xm : ev_M), frC m0 xm → Fr (frC m0) (k xm)) : ∀ (n : Nat) (a1 : Int32) (m : ev_M), frC m0 m → Fr (frC m0) (FX11_takePicture_L56 f k n a1 m) := by
  intro n
  induction n with
  | zero => intros; exact Fr.none
  | succ n ih =>
    intro a1 m hm_m
    rw [FX11_takePicture_L56]
    refine Fr.ite (fun hk1 => ?_) (fun _ => ?_)
    · refine Fr.ite (fun _ => ?_) (fun _ => ?_)
      · exact hk _ hm_m
      · refine Fr.ite (fun _ => ?_) (fun _ => ?_)
        · refine Fr.ite (fun _ => ?_) (fun _ => ?_)
          · refine Fr.ite (fun _ => ?_) (fun _ => ?_)
            · refine Fr.ite (fun _ => ?_) (fun _ => ?_)
              · refine Fr.ite (fun _ => ?_) (fun _ => ?_)
                · exact ih _ (frC_I (by decide) (frC_I (by decide) (frC_I (by decide) hm_m)))
                · exact Fr.none
              · exact Fr.none
            · exact Fr.none
          · exact Fr.none
        · exact Fr.none
    · exact Fr.none
set_option maxRecDepth 100000 in
set_option maxHeartbeats 4000000 in
theorem frC11_takePicture {m0 : ev_M} (f : Nat) {m : ev_M}  (hm_m : frC m0 m) : Fr (frC m0) (FX11_takePicture f m) := by
  unfold FX11_takePicture
  exact frC11_takePicture_L56 _ _ ((by
  intro m2 hm_m2
  exact Fr.ok (frC_I (by decide) (frC_I (by decide) hm_m2)))) _ _ _ (frC_I (by decide) (frC_I (by decide) (frC_I (by decide) hm_m)))
set_option maxRecDepth 100000 in
set_option maxHeartbeats 4000000 in
theorem frC0_startWith {m0 : ev_M} (f : Nat) (a1 : Int32) {m : ev_M}  (hm_m : frC m0 m) : Fr (frC m0) (FX0_startWith f a1 m) := by
  unfold FX0_startWith
  exact Fr.ok (frC_I (by decide) (frC_I (by decide) (frC_I (by decide) hm_m)))
set_option maxRecDepth 100000 in
set_option maxHeartbeats 4000000 in
theorem frC0_weigh {m0 : ev_M} (f : Nat) (a1 : Int32) (a2 : Int32) (a3 : Int32) {m : ev_M}  (hm_m : frC m0 m) : Fr (frC m0) (FX0_weigh f a1 a2 a3 m) := by
  unfold FX0_weigh
  refine Fr.ite (fun _ => ?_) (fun _ => ?_)
  · exact Fr.ok hm_m
  · exact Fr.ok (frC_I (by decide) (frC_I (by decide) (frC_I (by decide) hm_m)))
set_option maxRecDepth 100000 in
set_option maxHeartbeats 4000000 in
theorem frC1_clear {m0 : ev_M} (f : Nat) (o0 : Nat) {m : ev_M} (h_o0 : isK 1 o0) (hm_m : frC m0 m) : Fr (frC m0) (FX1_clear f o0 m) := by
  unfold FX1_clear
  exact Fr.ok (frC_I (by have := kf1 h_o0; omega) (frC_I (by have := kf1 h_o0; omega) (frC_I (by have := kf1 h_o0; omega) (frC_I (by have := kf1 h_o0; omega) (frC_I (by have := kf1 h_o0; omega) (frC_I (by have := kf1 h_o0; omega) (frC_I (by have := kf1 h_o0; omega) (frC_I (by have := kf1 h_o0; omega) (frC_I (by have := kf1 h_o0; omega) (frC_I (by have := kf1 h_o0; omega) (frC_I (by have := kf1 h_o0; omega) hm_m)))))))))))
set_option maxRecDepth 100000 in
set_option maxHeartbeats 4000000 in
theorem frC1_hasSays {m0 : ev_M} (f : Nat) (o0 : Nat) {m : ev_M} (h_o0 : isK 1 o0) (hm_m : frC m0 m) : Fr (frC m0) (FX1_hasSays f o0 m) := by
  unfold FX1_hasSays
  refine Fr.ite (fun _ => ?_) (fun _ => ?_)
  · exact Fr.ok hm_m
  · exact Fr.ok hm_m
set_option maxRecDepth 100000 in
set_option maxHeartbeats 4000000 in
theorem frC1_hasFeels {m0 : ev_M} (f : Nat) (o0 : Nat) {m : ev_M} (h_o0 : isK 1 o0) (hm_m : frC m0 m) : Fr (frC m0) (FX1_hasFeels f o0 m) := by
  unfold FX1_hasFeels
  refine Fr.ite (fun _ => ?_) (fun _ => ?_)
  · exact Fr.ok hm_m
  · exact Fr.ok hm_m
set_option maxRecDepth 100000 in
set_option maxHeartbeats 4000000 in
theorem frC1_isTooMany {m0 : ev_M} (f : Nat) (o0 : Nat) (a1 : Int32) {m : ev_M} (h_o0 : isK 1 o0) (hm_m : frC m0 m) : Fr (frC m0) (FX1_isTooMany f o0 a1 m) := by
  unfold FX1_isTooMany
  refine Fr.ite (fun _ => ?_) (fun _ => ?_)
  · refine Fr.ite (fun _ => ?_) (fun _ => ?_)
    · exact Fr.ok hm_m
    · exact Fr.ok hm_m
  · refine Fr.ite (fun _ => ?_) (fun _ => ?_)
    · refine Fr.bd (frC1_hasSays _ o0 h_o0 hm_m) (fun r2 m3 hm_m3 => ?_)
      refine Fr.ite (fun _ => ?_) (fun _ => ?_)
      · exact Fr.ok hm_m3
      · exact Fr.none
    · refine Fr.ite (fun _ => ?_) (fun _ => ?_)
      · refine Fr.bd (frC1_hasFeels _ o0 h_o0 hm_m) (fun r5 m6 hm_m6 => ?_)
        refine Fr.ite (fun _ => ?_) (fun _ => ?_)
        · exact Fr.ok hm_m6
        · exact Fr.none
      · exact Fr.ok hm_m
set_option maxRecDepth 100000 in
set_option maxHeartbeats 4000000 in
theorem frC2_add {m0 : ev_M} (f : Nat) (o0 : Nat) (a1 : Int32) {m : ev_M} (h_o0 : isK 2 o0) (hm_m : frC m0 m) : Fr (frC m0) (FX2_add f o0 a1 m) := by
  unfold FX2_add
  refine Fr.ite (fun _ => ?_) (fun _ => ?_)
  · exact Fr.ok hm_m
  · refine Fr.ite (fun _ => ?_) (fun _ => ?_)
    · exact Fr.ok (frC_I (by have := kf2 h_o0; omega) (frC_I (by have := kf2 h_o0; omega) hm_m))
    · exact Fr.none
set_option maxRecDepth 100000 in
set_option maxHeartbeats 4000000 in
theorem frC3_towers {m0 : ev_M} (f : Nat) {m : ev_M}  (hm_m : frC m0 m) : Fr (frC m0) (FX3_towers f m) := by
  unfold FX3_towers
  refine Fr.ite (fun hk1 => ?_) (fun _ => ?_)
  · exact Fr.ok hm_m
  · exact Fr.none
set_option maxRecDepth 100000 in
set_option maxHeartbeats 4000000 in
theorem frC3_rowOf_J45 {m0 : ev_M} (f : Nat) (kt4 : Int32 → Int32 → ev_M → Option (Int32 × ev_M)) (a2 : Int32) (a3 : Int32) {m : ev_M} (hkt4 : ∀ (x0 : Int32) (x1 : Int32) (xm : ev_M), frC m0 xm → Fr (frC m0) (kt4 x0 x1 xm)) (hm_m : frC m0 m) : Fr (frC m0) (FX3_rowOf_J45 f kt4 a2 a3 m) := by
  unfold FX3_rowOf_J45
  exact hkt4 _ _ _ hm_m
set_option maxRecDepth 100000 in
set_option maxHeartbeats 4000000 in
theorem frC3_rowOf_J29 {m0 : ev_M} (f : Nat) (kt4 : Int32 → Int32 → ev_M → Option (Int32 × ev_M)) (kt39 : Int32 → Int32 → ev_M → Option (Int32 × ev_M)) (a1 : Int32) (a3 : Int32) (s0 : Int32) {m : ev_M} (hkt4 : ∀ (x0 : Int32) (x1 : Int32) (xm : ev_M), frC m0 xm → Fr (frC m0) (kt4 x0 x1 xm)) (hkt39 : ∀ (x0 : Int32) (x1 : Int32) (xm : ev_M), frC m0 xm → Fr (frC m0) (kt39 x0 x1 xm)) (hm_m : frC m0 m) : Fr (frC m0) (FX3_rowOf_J29 f kt4 kt39 a1 a3 s0 m) := by
  unfold FX3_rowOf_J29
  refine Fr.ite (fun _ => ?_) (fun _ => ?_)
  · exact frC3_rowOf_J45 _ _ _ _ hkt4 hm_m
  · refine Fr.ite (fun _ => ?_) (fun _ => ?_)
    · exact frC3_rowOf_J45 _ _ _ _ hkt4 hm_m
    · exact hkt39 _ _ _ hm_m
set_option maxRecDepth 100000 in
set_option maxHeartbeats 4000000 in
theorem frC3_rowOf_L4 {m0 : ev_M} (f : Nat) (k : Int32 → Int32 → ev_M → Option (Int32 × ev_M)) (a1 : Int32) (hk : ∀ (x0 : Int32) (x1 : Int32) (xm : ev_M), frC m0 xm → Fr (frC m0) (k x0 x1 xm)) : ∀ (n : Nat) (a2 : Int32) (a3 : Int32) (m : ev_M), frC m0 m → Fr (frC m0) (FX3_rowOf_L4 f k a1 n a2 a3 m) := by
  intro n
  induction n with
  | zero => intros; exact Fr.none
  | succ n ih =>
    intro a2 a3 m hm_m
    rw [FX3_rowOf_L4]
    refine Fr.ite (fun _ => ?_) (fun _ => ?_)
    · exact Fr.ok hm_m
    · refine Fr.ite (fun _ => ?_) (fun _ => ?_)
      · exact frC3_rowOf_J29 _ _ _ _ _ _ ih hk hm_m
      · exact frC3_rowOf_J29 _ _ _ _ _ _ ih hk hm_m
set_option maxRecDepth 100000 in
set_option maxHeartbeats 4000000 in
theorem frC3_rowOf {m0 : ev_M} (f : Nat) (a1 : Int32) {m : ev_M}  (hm_m : frC m0 m) : Fr (frC m0) (FX3_rowOf f a1 m) := by
  unfold FX3_rowOf
  exact frC3_rowOf_L4 _ _ _ ((by
  intro e1 e2 m3 hm_m3
  exact Fr.ok hm_m3)) _ _ _ _ hm_m
set_option maxRecDepth 100000 in
set_option maxHeartbeats 4000000 in
theorem frC4_look_L27 {m0 : ev_M} (f : Nat) (k : ev_M → Option (Int32 × ev_M)) (a2 : Int32) (a3 : Int32) (hk : ∀  (xm : ev_M), frC m0 xm → Fr (frC m0) (k xm)) : ∀ (n : Nat) (a4 : Int32) (m : ev_M), frC m0 m → Fr (frC m0) (FX4_look_L27 f k a2 a3 n a4 m) := by
  intro n
  induction n with
  | zero => intros; exact Fr.none
  | succ n ih =>
    intro a4 m hm_m
    rw [FX4_look_L27]
    refine Fr.ite (fun _ => ?_) (fun _ => ?_)
    · exact hk _ hm_m
    · refine Fr.ite (fun _ => ?_) (fun _ => ?_)
      · refine Fr.ite (fun _ => ?_) (fun _ => ?_)
        · exact Fr.ok hm_m
        · refine Fr.ite (fun _ => ?_) (fun _ => ?_)
          · refine Fr.ite (fun _ => ?_) (fun _ => ?_)
            · exact Fr.ok hm_m
            · refine Fr.ite (fun _ => ?_) (fun _ => ?_)
              · refine Fr.ite (fun _ => ?_) (fun _ => ?_)
                · exact ih _ hm_m
                · exact Fr.ok hm_m
              · exact Fr.none
          · exact Fr.none
      · exact Fr.none
set_option maxRecDepth 100000 in
set_option maxHeartbeats 4000000 in
theorem frC4_look_L83 {m0 : ev_M} (f : Nat) (k : ev_M → Option (Int32 × ev_M)) (a3 : Int32) (hk : ∀  (xm : ev_M), frC m0 xm → Fr (frC m0) (k xm)) : ∀ (n : Nat) (a4 : Int32) (m : ev_M), frC m0 m → Fr (frC m0) (FX4_look_L83 f k a3 n a4 m) := by
  intro n
  induction n with
  | zero => intros; exact Fr.none
  | succ n ih =>
    intro a4 m hm_m
    rw [FX4_look_L83]
    refine Fr.ite (fun _ => ?_) (fun _ => ?_)
    · exact hk _ hm_m
    · refine Fr.ite (fun _ => ?_) (fun _ => ?_)
      · refine Fr.ite (fun _ => ?_) (fun _ => ?_)
        · exact ih _ (frC_I (by decide) hm_m)
        · exact Fr.none
      · exact Fr.none
set_option maxRecDepth 100000 in
set_option maxHeartbeats 4000000 in
theorem frC4_look {m0 : ev_M} (f : Nat) (a2 : Int32) {m : ev_M}  (hm_m : frC m0 m) : Fr (frC m0) (FX4_look f a2 m) := by
  unfold FX4_look
  refine Fr.ite (fun _ => ?_) (fun _ => ?_)
  · exact Fr.ok hm_m
  · refine Fr.ite (fun _ => ?_) (fun _ => ?_)
    · exact Fr.ok hm_m
    · refine Fr.ite (fun _ => ?_) (fun _ => ?_)
      · exact frC4_look_L27 _ _ _ _ ((by
  intro m1 hm_m1
  exact frC4_look_L83 _ _ _ ((by
  intro m2 hm_m2
  exact Fr.ok (frC_I (by decide) hm_m2))) _ _ _ hm_m1)) _ _ _ hm_m
      · exact Fr.ok hm_m
set_option maxRecDepth 100000 in
set_option maxHeartbeats 4000000 in
theorem frC4_indexOf {m0 : ev_M} (f : Nat) (a0 : Int32) (a1 : Int32) (a2 : Int32) {m : ev_M}  (hm_m : frC m0 m) : Fr (frC m0) (FX4_indexOf f a0 a1 a2 m) := by
  unfold FX4_indexOf
  exact Fr.ok hm_m
set_option maxRecDepth 100000 in
set_option maxHeartbeats 4000000 in
theorem frC4_isAllSo_L2 {m0 : ev_M} (f : Nat) (k : ev_M → Option (Int32 × ev_M)) (a1 : Int32) (hk : ∀  (xm : ev_M), frC m0 xm → Fr (frC m0) (k xm)) : ∀ (n : Nat) (a2 : Int32) (m : ev_M), frC m0 m → Fr (frC m0) (FX4_isAllSo_L2 f k a1 n a2 m) := by
  intro n
  induction n with
  | zero => intros; exact Fr.none
  | succ n ih =>
    intro a2 m hm_m
    rw [FX4_isAllSo_L2]
    refine Fr.ite (fun _ => ?_) (fun _ => ?_)
    · exact hk _ hm_m
    · refine Fr.ite (fun _ => ?_) (fun _ => ?_)
      · exact hk _ hm_m
      · refine Fr.ite (fun _ => ?_) (fun _ => ?_)
        · refine Fr.ite (fun _ => ?_) (fun _ => ?_)
          · exact Fr.ok hm_m
          · refine Fr.ite (fun _ => ?_) (fun _ => ?_)
            · refine Fr.bd (frC4_indexOf _ _ _ _ hm_m) (fun r1 m2 hm_m2 => ?_)
              refine Fr.ite (fun _ => ?_) (fun _ => ?_)
              · refine Fr.ite (fun _ => ?_) (fun _ => ?_)
                · refine Fr.ite (fun _ => ?_) (fun _ => ?_)
                  · exact ih _ hm_m2
                  · exact Fr.ok hm_m2
                · exact Fr.none
              · exact Fr.none
            · exact Fr.none
        · exact Fr.none
set_option maxRecDepth 100000 in
set_option maxHeartbeats 4000000 in
theorem frC4_isAllSo {m0 : ev_M} (f : Nat) (a1 : Int32) {m : ev_M}  (hm_m : frC m0 m) : Fr (frC m0) (FX4_isAllSo f a1 m) := by
  unfold FX4_isAllSo
  exact frC4_isAllSo_L2 _ _ _ ((by
  intro m3 hm_m3
  exact Fr.ok hm_m3)) _ _ _ hm_m
set_option maxRecDepth 100000 in
set_option maxHeartbeats 4000000 in
theorem frC5_valueOf {m0 : ev_M} (f : Nat) (a1 : Int32) {m : ev_M}  (hm_m : frC m0 m) : Fr (frC m0) (FX5_valueOf f a1 m) := by
  unfold FX5_valueOf
  refine Fr.ite (fun _ => ?_) (fun _ => ?_)
  · refine Fr.ite (fun _ => ?_) (fun _ => ?_)
    · exact Fr.ok hm_m
    · refine Fr.ite (fun _ => ?_) (fun _ => ?_)
      · exact Fr.ok hm_m
      · refine Fr.ite (fun _ => ?_) (fun _ => ?_)
        · exact Fr.ok hm_m
        · exact Fr.none
  · exact Fr.ok hm_m
set_option maxRecDepth 100000 in
set_option maxHeartbeats 4000000 in
theorem frC5_saidAhead {m0 : ev_M} (f : Nat) (a1 : Int32) {m : ev_M}  (hm_m : frC m0 m) : Fr (frC m0) (FX5_saidAhead f a1 m) := by
  unfold FX5_saidAhead
  refine Fr.ite (fun _ => ?_) (fun _ => ?_)
  · exact Fr.ok hm_m
  · refine Fr.ite (fun _ => ?_) (fun _ => ?_)
    · exact Fr.ok hm_m
    · refine Fr.ite (fun _ => ?_) (fun _ => ?_)
      · exact Fr.ok hm_m
      · refine Fr.ite (fun _ => ?_) (fun _ => ?_)
        · exact Fr.ok hm_m
        · refine Fr.ite (fun _ => ?_) (fun _ => ?_)
          · refine Fr.ite (fun _ => ?_) (fun _ => ?_)
            · exact Fr.ok hm_m
            · exact Fr.none
          · exact Fr.ok hm_m
set_option maxRecDepth 100000 in
set_option maxHeartbeats 4000000 in
theorem frC6_addFire {m0 : ev_M} (f : Nat) (a1 : Int32) (a2 : Int32) (a3 : Int32) (a4 : Int32) {m : ev_M}  (hm_m : frC m0 m) : Fr (frC m0) (FX6_addFire f a1 a2 a3 a4 m) := by
  unfold FX6_addFire
  refine Fr.ite (fun _ => ?_) (fun _ => ?_)
  · exact Fr.ok hm_m
  · refine Fr.ite (fun _ => ?_) (fun _ => ?_)
    · refine Fr.ite (fun _ => ?_) (fun _ => ?_)
      · refine Fr.ite (fun _ => ?_) (fun _ => ?_)
        · refine Fr.ite (fun _ => ?_) (fun _ => ?_)
          · exact Fr.ok (frC_I (by decide) (frC_I (by decide) (frC_I (by decide) hm_m)))
          · exact Fr.none
        · exact Fr.none
      · exact Fr.none
    · exact Fr.ok hm_m
set_option maxRecDepth 100000 in
set_option maxHeartbeats 4000000 in
theorem frC6_fireOf {m0 : ev_M} (f : Nat) (a1 : Int32) (a2 : Int32) {m : ev_M}  (hm_m : frC m0 m) : Fr (frC m0) (FX6_fireOf f a1 a2 m) := by
  unfold FX6_fireOf
  refine Fr.ite (fun _ => ?_) (fun _ => ?_)
  · exact Fr.ok hm_m
  · refine Fr.ite (fun _ => ?_) (fun _ => ?_)
    · exact Fr.ok hm_m
    · refine Fr.ite (fun _ => ?_) (fun _ => ?_)
      · exact Fr.ok hm_m
      · refine Fr.ite (fun _ => ?_) (fun _ => ?_)
        · exact Fr.ok hm_m
        · refine Fr.ite (fun _ => ?_) (fun _ => ?_)
          · exact Fr.ok hm_m
          · exact Fr.none
set_option maxRecDepth 100000 in
set_option maxHeartbeats 4000000 in
theorem frC7_setValues_J86 {m0 : ev_M} (f : Nat) (o1 : Nat) (a2 : Int32) (a4 : Int32) (s1 : Int32) (s2 : Int32) {m : ev_M} (h_o1 : isK 8 o1) (hm_m : frC m0 m) : Fr (frC m0) (FX7_setValues_J86 f o1 a2 a4 s1 s2 m) := by
  unfold FX7_setValues_J86
  refine Fr.ite (fun _ => ?_) (fun _ => ?_)
  · refine Fr.ite (fun _ => ?_) (fun _ => ?_)
    · exact Fr.ok (frC_I (by decide) (frC_I (by decide) (frC_I (by decide) hm_m)))
    · refine Fr.ite (fun _ => ?_) (fun _ => ?_)
      · exact Fr.ok (frC_I (by decide) (frC_I (by decide) (frC_I (by decide) hm_m)))
      · exact Fr.none
  · exact Fr.none
set_option maxRecDepth 100000 in
set_option maxHeartbeats 4000000 in
theorem frC7_setValues_J20 {m0 : ev_M} (f : Nat) (o1 : Nat) (a2 : Int32) (s0 : Int32) {m : ev_M} (h_o1 : isK 8 o1) (hm_m : frC m0 m) : Fr (frC m0) (FX7_setValues_J20 f o1 a2 s0 m) := by
  unfold FX7_setValues_J20
  refine Fr.ite (fun _ => ?_) (fun _ => ?_)
  · refine Fr.ite (fun _ => ?_) (fun _ => ?_)
    · refine Fr.ite (fun _ => ?_) (fun _ => ?_)
      · exact frC7_setValues_J86 _ o1 _ _ _ _ h_o1 (frC_I (by decide) (frC_I (by decide) (frC_I (by decide) (frC_I (by decide) hm_m))))
      · refine Fr.ite (fun _ => ?_) (fun _ => ?_)
        · exact frC7_setValues_J86 _ o1 _ _ _ _ h_o1 (frC_I (by decide) (frC_I (by decide) (frC_I (by decide) (frC_I (by decide) hm_m))))
        · exact Fr.none
    · exact Fr.none
  · exact Fr.none
set_option maxRecDepth 100000 in
set_option maxHeartbeats 4000000 in
theorem frC7_setValues {m0 : ev_M} (f : Nat) (o1 : Nat) (a2 : Int32) {m : ev_M} (h_o1 : isK 8 o1) (hm_m : frC m0 m) : Fr (frC m0) (FX7_setValues f o1 a2 m) := by
  unfold FX7_setValues
  refine Fr.ite (fun _ => ?_) (fun _ => ?_)
  · exact frC7_setValues_J20 _ o1 _ _ h_o1 hm_m
  · exact frC7_setValues_J20 _ o1 _ _ h_o1 hm_m
set_option maxRecDepth 100000 in
set_option maxHeartbeats 4000000 in
theorem frC8_begin_L28 {m0 : ev_M} (f : Nat) (k : ev_M → Option (Unit × ev_M)) (o0 : Nat) (o1 : Nat) (h_o0 : isK 8 o0) (h_o1 : isK 1 o1) (hk : ∀  (xm : ev_M), frC m0 xm → Fr (frC m0) (k xm)) : ∀ (n : Nat) (a2 : Int32) (m : ev_M), frC m0 m → Fr (frC m0) (FX8_begin_L28 f k o0 o1 n a2 m) := by
  intro n
  induction n with
  | zero => intros; exact Fr.none
  | succ n ih =>
    intro a2 m hm_m
    rw [FX8_begin_L28]
    refine Fr.ite (fun _ => ?_) (fun _ => ?_)
    · exact hk _ hm_m
    · refine Fr.ite (fun _ => ?_) (fun _ => ?_)
      · refine Fr.ite (fun _ => ?_) (fun _ => ?_)
        · refine Fr.ite (fun _ => ?_) (fun _ => ?_)
          · refine Fr.ite (fun _ => ?_) (fun _ => ?_)
            · exact ih _ (frC_I (by have := kf8 h_o0; omega) (frC_I (by have := kf8 h_o0; omega) hm_m))
            · exact Fr.none
          · exact Fr.none
        · exact Fr.none
      · exact Fr.none
set_option maxRecDepth 100000 in
set_option maxHeartbeats 4000000 in
theorem frC8_begin {m0 : ev_M} (f : Nat) (o0 : Nat) (o1 : Nat) {m : ev_M} (h_o0 : isK 8 o0) (h_o1 : isK 1 o1) (hm_m : frC m0 m) : Fr (frC m0) (FX8_begin f o0 o1 m) := by
  unfold FX8_begin
  exact frC8_begin_L28 _ _ o0 o1 h_o0 h_o1 ((by
  intro m1 hm_m1
  exact Fr.ok hm_m1)) _ _ _ (frC_I (by have := kf8 h_o0; omega) (frC_I (by have := kf8 h_o0; omega) (frC_I (by have := kf8 h_o0; omega) (frC_I (by have := kf8 h_o0; omega) hm_m))))
set_option maxRecDepth 100000 in
set_option maxHeartbeats 4000000 in
theorem frC8_copy_L34 {m0 : ev_M} (f : Nat) (k : ev_M → Option (Unit × ev_M)) (o0 : Nat) (o1 : Nat) (h_o0 : isK 8 o0) (h_o1 : isK 8 o1) (hk : ∀  (xm : ev_M), frC m0 xm → Fr (frC m0) (k xm)) : ∀ (n : Nat) (a2 : Int32) (m : ev_M), frC m0 m → Fr (frC m0) (FX8_copy_L34 f k o0 o1 n a2 m) := by
  intro n
  induction n with
  | zero => intros; exact Fr.none
  | succ n ih =>
    intro a2 m hm_m
    rw [FX8_copy_L34]
    refine Fr.ite (fun _ => ?_) (fun _ => ?_)
    · exact hk _ hm_m
    · refine Fr.ite (fun _ => ?_) (fun _ => ?_)
      · refine Fr.ite (fun _ => ?_) (fun _ => ?_)
        · refine Fr.ite (fun _ => ?_) (fun _ => ?_)
          · refine Fr.ite (fun _ => ?_) (fun _ => ?_)
            · exact ih _ (frC_I (by have := kf8 h_o0; omega) (frC_I (by have := kf8 h_o0; omega) hm_m))
            · exact Fr.none
          · exact Fr.none
        · exact Fr.none
      · exact Fr.none
set_option maxRecDepth 100000 in
set_option maxHeartbeats 4000000 in
theorem frC8_copy {m0 : ev_M} (f : Nat) (o0 : Nat) (o1 : Nat) {m : ev_M} (h_o0 : isK 8 o0) (h_o1 : isK 8 o1) (hm_m : frC m0 m) : Fr (frC m0) (FX8_copy f o0 o1 m) := by
  unfold FX8_copy
  exact frC8_copy_L34 _ _ o0 o1 h_o0 h_o1 ((by
  intro m1 hm_m1
  exact Fr.ok hm_m1)) _ _ _ (frC_I (by have := kf8 h_o0; omega) (frC_I (by have := kf8 h_o0; omega) (frC_I (by have := kf8 h_o0; omega) (frC_I (by have := kf8 h_o0; omega) hm_m))))
set_option maxRecDepth 100000 in
set_option maxHeartbeats 4000000 in
theorem frC8_hasNext {m0 : ev_M} (f : Nat) (o0 : Nat) {m : ev_M} (h_o0 : isK 8 o0) (hm_m : frC m0 m) : Fr (frC m0) (FX8_hasNext f o0 m) := by
  unfold FX8_hasNext
  refine Fr.ite (fun _ => ?_) (fun _ => ?_)
  · exact Fr.ok hm_m
  · exact Fr.ok hm_m
set_option maxRecDepth 100000 in
set_option maxHeartbeats 4000000 in
theorem frC8_swap {m0 : ev_M} (f : Nat) (o0 : Nat) (a1 : Int32) (a2 : Int32) {m : ev_M} (h_o0 : isK 8 o0) (hm_m : frC m0 m) : Fr (frC m0) (FX8_swap f o0 a1 a2 m) := by
  unfold FX8_swap
  refine Fr.ite (fun _ => ?_) (fun _ => ?_)
  · refine Fr.ite (fun _ => ?_) (fun _ => ?_)
    · refine Fr.ite (fun _ => ?_) (fun _ => ?_)
      · refine Fr.ite (fun _ => ?_) (fun _ => ?_)
        · refine Fr.ite (fun _ => ?_) (fun _ => ?_)
          · refine Fr.ite (fun _ => ?_) (fun _ => ?_)
            · refine Fr.ite (fun _ => ?_) (fun _ => ?_)
              · refine Fr.ite (fun _ => ?_) (fun _ => ?_)
                · exact Fr.ok (frC_I (by have := kf8 h_o0; omega) (frC_I (by have := kf8 h_o0; omega) (frC_I (by have := kf8 h_o0; omega) (frC_I (by have := kf8 h_o0; omega) hm_m))))
                · exact Fr.none
              · exact Fr.none
            · exact Fr.none
          · exact Fr.none
        · exact Fr.none
      · exact Fr.none
    · exact Fr.none
  · exact Fr.none
set_option maxRecDepth 100000 in
set_option maxHeartbeats 4000000 in
theorem frC8_feature_L9 {m0 : ev_M} (f : Nat) (k : Int64 → ev_M → Option (Int64 × ev_M)) (o0 : Nat) (a1 : Int32) (h_o0 : isK 8 o0) (hk : ∀ (x0 : Int64) (xm : ev_M), frC m0 xm → Fr (frC m0) (k x0 xm)) : ∀ (n : Nat) (a2 : Int64) (a4 : Int32) (m : ev_M), frC m0 m → Fr (frC m0) (FX8_feature_L9 f k o0 a1 n a2 a4 m) := by
  intro n
  induction n with
  | zero => intros; exact Fr.none
  | succ n ih =>
    intro a2 a4 m hm_m
    rw [FX8_feature_L9]
    refine Fr.ite (fun _ => ?_) (fun _ => ?_)
    · exact hk _ _ hm_m
    · refine Fr.ite (fun _ => ?_) (fun _ => ?_)
      · exact hk _ _ hm_m
      · refine Fr.ite (fun _ => ?_) (fun _ => ?_)
        · exact ih _ _ hm_m
        · exact Fr.none
set_option maxRecDepth 100000 in
set_option maxHeartbeats 4000000 in
theorem frC8_feature {m0 : ev_M} (f : Nat) (o0 : Nat) (a1 : Int32) {m : ev_M} (h_o0 : isK 8 o0) (hm_m : frC m0 m) : Fr (frC m0) (FX8_feature f o0 a1 m) := by
  unfold FX8_feature
  exact frC8_feature_L9 _ _ o0 _ h_o0 ((by
  intro e1 m2 hm_m2
  exact Fr.ok hm_m2)) _ _ _ _ hm_m
set_option maxRecDepth 100000 in
set_option maxHeartbeats 4000000 in
theorem frC9_begin {m0 : ev_M} (f : Nat) (o1 : Nat) (a2 : Int32) {m : ev_M} (h_o1 : isK 2 o1) (hm_m : frC m0 m) : Fr (frC m0) (FX9_begin f o1 a2 m) := by
  unfold FX9_begin
  exact Fr.ok (frC_I (by decide) (frC_I (by decide) (frC_I (by decide) (frC_I (by decide) hm_m))))
set_option maxRecDepth 100000 in
set_option maxHeartbeats 4000000 in
theorem frC9_closes {m0 : ev_M} (f : Nat) {m : ev_M}  (hm_m : frC m0 m) : Fr (frC m0) (FX9_closes f m) := by
  unfold FX9_closes
  exact Fr.ok (frC_I (by decide) hm_m)
set_option maxRecDepth 100000 in
set_option maxHeartbeats 4000000 in
theorem frC9_put {m0 : ev_M} (f : Nat) (a1 : Int32) {m : ev_M}  (hm_m : frC m0 m) : Fr (frC m0) (FX9_put f a1 m) := by
  unfold FX9_put
  refine Fr.ite (fun _ => ?_) (fun _ => ?_)
  · exact Fr.ok hm_m
  · refine Fr.ite (fun hk1 => ?_) (fun _ => ?_)
    · refine Fr.bd (frC2_add _ ((m.1 15 1)).toNatClampNeg _ hk1 hm_m) (fun _ m3 hm_m3 => ?_)
      exact Fr.ok hm_m3
    · exact Fr.none
set_option maxRecDepth 100000 in
set_option maxHeartbeats 4000000 in
theorem frC9_isValue {m0 : ev_M} (f : Nat) (a1 : Int32) {m : ev_M}  (hm_m : frC m0 m) : Fr (frC m0) (FX9_isValue f a1 m) := by
  unfold FX9_isValue
  refine Fr.ite (fun _ => ?_) (fun _ => ?_)
  · exact Fr.ok hm_m
  · refine Fr.ite (fun _ => ?_) (fun _ => ?_)
    · exact Fr.ok hm_m
    · refine Fr.ite (fun _ => ?_) (fun _ => ?_)
      · refine Fr.ite (fun _ => ?_) (fun _ => ?_)
        · exact Fr.ok hm_m
        · exact Fr.ok hm_m
      · refine Fr.ite (fun _ => ?_) (fun _ => ?_)
        · refine Fr.ite (fun _ => ?_) (fun _ => ?_)
          · exact Fr.ok hm_m
          · exact Fr.ok hm_m
        · refine Fr.ite (fun _ => ?_) (fun _ => ?_)
          · exact Fr.ok hm_m
          · refine Fr.ite (fun _ => ?_) (fun _ => ?_)
            · refine Fr.ite (fun _ => ?_) (fun _ => ?_)
              · exact Fr.ok hm_m
              · exact Fr.ok hm_m
            · refine Fr.ite (fun _ => ?_) (fun _ => ?_)
              · refine Fr.ite (fun _ => ?_) (fun _ => ?_)
                · exact Fr.ok hm_m
                · exact Fr.ok hm_m
              · refine Fr.ite (fun _ => ?_) (fun _ => ?_)
                · refine Fr.ite (fun _ => ?_) (fun _ => ?_)
                  · exact Fr.ok hm_m
                  · exact Fr.ok hm_m
                · refine Fr.ite (fun _ => ?_) (fun _ => ?_)
                  · refine Fr.ite (fun _ => ?_) (fun _ => ?_)
                    · exact Fr.ok hm_m
                    · exact Fr.ok hm_m
                  · refine Fr.ite (fun _ => ?_) (fun _ => ?_)
                    · refine Fr.ite (fun _ => ?_) (fun _ => ?_)
                      · exact Fr.ok hm_m
                      · exact Fr.ok hm_m
                    · exact Fr.ok hm_m
set_option maxRecDepth 100000 in
set_option maxHeartbeats 4000000 in
theorem frC10_hasRoom {m0 : ev_M} (f : Nat) (a1 : Int32) {m : ev_M}  (hm_m : frC m0 m) : Fr (frC m0) (FX10_hasRoom f a1 m) := by
  unfold FX10_hasRoom
  refine Fr.ite (fun _ => ?_) (fun _ => ?_)
  · exact Fr.ok hm_m
  · exact Fr.ok hm_m
set_option maxRecDepth 100000 in
set_option maxHeartbeats 4000000 in
theorem frC10_write {m0 : ev_M} (f : Nat) (a1 : Int32) {m : ev_M}  (hm_m : frC m0 m) : Fr (frC m0) (FX10_write f a1 m) := by
  unfold FX10_write
  refine Fr.bd (frC10_hasRoom _ _ hm_m) (fun r1 m2 hm_m2 => ?_)
  refine Fr.ite (fun _ => ?_) (fun _ => ?_)
  · exact Fr.ok hm_m2
  · refine Fr.ite (fun _ => ?_) (fun _ => ?_)
    · refine Fr.ite (fun _ => ?_) (fun _ => ?_)
      · refine Fr.ite (fun _ => ?_) (fun _ => ?_)
        · refine Fr.ite (fun _ => ?_) (fun _ => ?_)
          · exact Fr.ok (frC_I (by decide) (frC_I (by decide) (frC_I (by decide) (frC_I (by decide) (frC_I (by decide) hm_m2)))))
          · exact Fr.none
        · exact Fr.none
      · exact Fr.none
    · exact Fr.none
set_option maxRecDepth 100000 in
set_option maxHeartbeats 4000000 in
theorem frC10_isGood {m0 : ev_M} (f : Nat) {m : ev_M}  (hm_m : frC m0 m) : Fr (frC m0) (FX10_isGood f m) := by
  unfold FX10_isGood
  refine Fr.ite (fun _ => ?_) (fun _ => ?_)
  · exact Fr.ok hm_m
  · exact Fr.ok hm_m
set_option maxRecDepth 100000 in
set_option maxHeartbeats 4000000 in
theorem frC10_fail {m0 : ev_M} (f : Nat) (a1 : Int32) (a2 : Int32) {m : ev_M}  (hm_m : frC m0 m) : Fr (frC m0) (FX10_fail f a1 a2 m) := by
  unfold FX10_fail
  refine Fr.ite (fun _ => ?_) (fun _ => ?_)
  · exact Fr.ok (frC_I (by decide) (frC_I (by decide) (frC_I (by decide) hm_m)))
  · exact Fr.ok (frC_I (by decide) hm_m)
set_option maxRecDepth 100000 in
set_option maxHeartbeats 4000000 in
theorem frC10_skipBlanks_J44 {m0 : ev_M} (f : Nat) (kt5 : ev_M → Option (Unit × ev_M)) {m : ev_M} (hkt5 : ∀  (xm : ev_M), frC m0 xm → Fr (frC m0) (kt5 xm)) (hm_m : frC m0 m) : Fr (frC m0) (FX10_skipBlanks_J44 f kt5 m) := by
  unfold FX10_skipBlanks_J44
  exact hkt5 _ (frC_I (by decide) hm_m)
set_option maxRecDepth 100000 in
set_option maxHeartbeats 4000000 in
theorem frC10_skipBlanks_L5 {m0 : ev_M} (f : Nat) (k : ev_M → Option (Unit × ev_M)) (hk : ∀  (xm : ev_M), frC m0 xm → Fr (frC m0) (k xm)) : ∀ (n : Nat)  (m : ev_M), frC m0 m → Fr (frC m0) (FX10_skipBlanks_L5 f k n m) := by
  intro n
  induction n with
  | zero => intros; exact Fr.none
  | succ n ih =>
    intro m hm_m
    rw [FX10_skipBlanks_L5]
    refine Fr.ite (fun _ => ?_) (fun _ => ?_)
    · exact hk _ hm_m
    · refine Fr.ite (fun _ => ?_) (fun _ => ?_)
      · refine Fr.ite (fun _ => ?_) (fun _ => ?_)
        · exact frC10_skipBlanks_J44 _ _ ih hm_m
        · refine Fr.ite (fun _ => ?_) (fun _ => ?_)
          · refine Fr.ite (fun _ => ?_) (fun _ => ?_)
            · exact frC10_skipBlanks_J44 _ _ ih hm_m
            · exact hk _ hm_m
          · exact Fr.none
      · exact Fr.none
set_option maxRecDepth 100000 in
set_option maxHeartbeats 4000000 in
theorem frC10_skipBlanks {m0 : ev_M} (f : Nat) (a1 : Int32) {m : ev_M}  (hm_m : frC m0 m) : Fr (frC m0) (FX10_skipBlanks f a1 m) := by
  unfold FX10_skipBlanks
  exact frC10_skipBlanks_L5 _ _ ((by
  intro m1 hm_m1
  exact Fr.ok hm_m1)) _ _ (frC_I (by decide) hm_m)
set_option maxRecDepth 100000 in
set_option maxHeartbeats 4000000 in
theorem frC10_isLetter {m0 : ev_M} (f : Nat) (a0 : Int32) {m : ev_M}  (hm_m : frC m0 m) : Fr (frC m0) (FX10_isLetter f a0 m) := by
  unfold FX10_isLetter
  refine Fr.ite (fun _ => ?_) (fun _ => ?_)
  · exact Fr.ok hm_m
  · refine Fr.ite (fun _ => ?_) (fun _ => ?_)
    · exact Fr.ok hm_m
    · exact Fr.ok hm_m
set_option maxRecDepth 100000 in
set_option maxHeartbeats 4000000 in
theorem frC10_isDigit {m0 : ev_M} (f : Nat) (a0 : Int32) {m : ev_M}  (hm_m : frC m0 m) : Fr (frC m0) (FX10_isDigit f a0 m) := by
  unfold FX10_isDigit
  refine Fr.ite (fun _ => ?_) (fun _ => ?_)
  · exact Fr.ok hm_m
  · refine Fr.ite (fun _ => ?_) (fun _ => ?_)
    · exact Fr.ok hm_m
    · exact Fr.ok hm_m
set_option maxRecDepth 100000 in
set_option maxHeartbeats 4000000 in
theorem frC10_isEnd {m0 : ev_M} (f : Nat) {m : ev_M}  (hm_m : frC m0 m) : Fr (frC m0) (FX10_isEnd f m) := by
  unfold FX10_isEnd
  refine Fr.ite (fun _ => ?_) (fun _ => ?_)
  · exact Fr.ok hm_m
  · exact Fr.ok hm_m
set_option maxRecDepth 100000 in
set_option maxHeartbeats 4000000 in
theorem frC10_isNumber {m0 : ev_M} (f : Nat) {m : ev_M}  (hm_m : frC m0 m) : Fr (frC m0) (FX10_isNumber f m) := by
  unfold FX10_isNumber
  refine Fr.ite (fun _ => ?_) (fun _ => ?_)
  · exact Fr.ok hm_m
  · exact Fr.ok hm_m
set_option maxRecDepth 100000 in
set_option maxHeartbeats 4000000 in
theorem frC10_isSign {m0 : ev_M} (f : Nat) (a1 : Int32) {m : ev_M}  (hm_m : frC m0 m) : Fr (frC m0) (FX10_isSign f a1 m) := by
  unfold FX10_isSign
  refine Fr.ite (fun _ => ?_) (fun _ => ?_)
  · refine Fr.ite (fun _ => ?_) (fun _ => ?_)
    · exact Fr.ok hm_m
    · exact Fr.ok hm_m
  · exact Fr.ok hm_m
set_option maxRecDepth 100000 in
set_option maxHeartbeats 4000000 in
theorem frC10_isWord {m0 : ev_M} (f : Nat) (a1 : Int32) {m : ev_M}  (hm_m : frC m0 m) : Fr (frC m0) (FX10_isWord f a1 m) := by
  unfold FX10_isWord
  refine Fr.ite (fun _ => ?_) (fun _ => ?_)
  · refine Fr.ite (fun _ => ?_) (fun _ => ?_)
    · exact Fr.ok hm_m
    · exact Fr.ok hm_m
  · exact Fr.ok hm_m
set_option maxRecDepth 100000 in
set_option maxHeartbeats 4000000 in
theorem frC10_word {m0 : ev_M} (f : Nat) {m : ev_M}  (hm_m : frC m0 m) : Fr (frC m0) (FX10_word f m) := by
  unfold FX10_word
  refine Fr.ite (fun _ => ?_) (fun _ => ?_)
  · exact Fr.ok hm_m
  · exact Fr.ok hm_m
set_option maxRecDepth 100000 in
set_option maxHeartbeats 4000000 in
theorem frC10_checkName_J57 {m0 : ev_M} (f : Nat) {m : ev_M}  (hm_m : frC m0 m) : Fr (frC m0) (FX10_checkName_J57 f m) := by
  unfold FX10_checkName_J57
  refine Fr.bd (frC10_isGood _ hm_m) (fun r3 m4 hm_m4 => ?_)
  refine Fr.ite (fun _ => ?_) (fun _ => ?_)
  · exact Fr.ok hm_m4
  · exact Fr.none
set_option maxRecDepth 100000 in
set_option maxHeartbeats 4000000 in
theorem frC10_checkName_J24 {m0 : ev_M} (f : Nat) {m : ev_M}  (hm_m : frC m0 m) : Fr (frC m0) (FX10_checkName_J24 f m) := by
  unfold FX10_checkName_J24
  refine Fr.bd (frC10_fail _ _ _ hm_m) (fun _ m2 hm_m2 => ?_)
  exact frC10_checkName_J57 _ hm_m2
set_option maxRecDepth 100000 in
set_option maxHeartbeats 4000000 in
theorem frC10_checkName_J36 {m0 : ev_M} (f : Nat) {m : ev_M}  (hm_m : frC m0 m) : Fr (frC m0) (FX10_checkName_J36 f m) := by
  unfold FX10_checkName_J36
  refine Fr.ite (fun _ => ?_) (fun _ => ?_)
  · exact frC10_checkName_J57 _ hm_m
  · refine Fr.bd (frC10_fail _ _ _ hm_m) (fun _ m6 hm_m6 => ?_)
    exact frC10_checkName_J57 _ hm_m6
set_option maxRecDepth 100000 in
set_option maxHeartbeats 4000000 in
theorem frC10_checkName {m0 : ev_M} (f : Nat) {m : ev_M}  (hm_m : frC m0 m) : Fr (frC m0) (FX10_checkName f m) := by
  unfold FX10_checkName
  refine Fr.ite (fun _ => ?_) (fun _ => ?_)
  · refine Fr.ite (fun _ => ?_) (fun _ => ?_)
    · exact frC10_checkName_J36 _ hm_m
    · refine Fr.ite (fun _ => ?_) (fun _ => ?_)
      · exact frC10_checkName_J36 _ hm_m
      · exact frC10_checkName_J24 _ hm_m
  · exact frC10_checkName_J24 _ hm_m
set_option maxRecDepth 100000 in
set_option maxHeartbeats 4000000 in
theorem frC10_nameLetter {m0 : ev_M} (f : Nat) (a1 : Int32) {m : ev_M}  (hm_m : frC m0 m) : Fr (frC m0) (FX10_nameLetter f a1 m) := by
  unfold FX10_nameLetter
  refine Fr.ite (fun _ => ?_) (fun _ => ?_)
  · exact Fr.ok hm_m
  · refine Fr.ite (fun _ => ?_) (fun _ => ?_)
    · exact Fr.ok hm_m
    · refine Fr.ite (fun _ => ?_) (fun _ => ?_)
      · exact Fr.ok hm_m
      · refine Fr.ite (fun _ => ?_) (fun _ => ?_)
        · exact Fr.ok hm_m
        · exact Fr.none
set_option maxRecDepth 100000 in
set_option maxHeartbeats 4000000 in
theorem FRJ6_bitCount_0f7a4C {m0 : ev_M} (f : Nat) (a0 : Int32) {m : ev_M}  (hm_m : frC m0 m) : Fr (frC m0) (FJ6_bitCount_0f7a4 f a0 m) := by
  unfold FJ6_bitCount_0f7a4
  exact Fr.ok hm_m
set_option maxRecDepth 100000 in
set_option maxHeartbeats 4000000 in
theorem FRJ6_bitCount_0f7a4M {m0 : ev_M} (f : Nat) (a0 : Int32) {m : ev_M}  (hm_m : frM m0 m) : Fr (frM m0) (FJ6_bitCount_0f7a4 f a0 m) := by
  unfold FJ6_bitCount_0f7a4
  exact Fr.ok hm_m
set_option maxRecDepth 100000 in
set_option maxHeartbeats 4000000 in
theorem FRJ9_floorDiv_7cf53C {m0 : ev_M} (f : Nat) (a0 : Int32) (a1 : Int32) {m : ev_M}  (hm_m : frC m0 m) : Fr (frC m0) (FJ9_floorDiv_7cf53 f a0 a1 m) := by
  unfold FJ9_floorDiv_7cf53
  refine Fr.ite (fun _ => ?_) (fun _ => ?_)
  · exact Fr.none
  · refine Fr.ite (fun _ => ?_) (fun _ => ?_)
    · exact Fr.ok hm_m
    · refine Fr.ite (fun _ => ?_) (fun _ => ?_)
      · exact Fr.ok hm_m
      · exact Fr.ok hm_m
set_option maxRecDepth 100000 in
set_option maxHeartbeats 4000000 in
theorem FRJ9_floorDiv_7cf53M {m0 : ev_M} (f : Nat) (a0 : Int32) (a1 : Int32) {m : ev_M}  (hm_m : frM m0 m) : Fr (frM m0) (FJ9_floorDiv_7cf53 f a0 a1 m) := by
  unfold FJ9_floorDiv_7cf53
  refine Fr.ite (fun _ => ?_) (fun _ => ?_)
  · exact Fr.none
  · refine Fr.ite (fun _ => ?_) (fun _ => ?_)
    · exact Fr.ok hm_m
    · refine Fr.ite (fun _ => ?_) (fun _ => ?_)
      · exact Fr.ok hm_m
      · exact Fr.ok hm_m
set_option maxRecDepth 100000 in
set_option maxHeartbeats 4000000 in
theorem FRJ9_max_7cf53C {m0 : ev_M} (f : Nat) (a0 : Int32) (a1 : Int32) {m : ev_M}  (hm_m : frC m0 m) : Fr (frC m0) (FJ9_max_7cf53 f a0 a1 m) := by
  unfold FJ9_max_7cf53
  refine Fr.ite (fun _ => ?_) (fun _ => ?_)
  · exact Fr.ok hm_m
  · exact Fr.ok hm_m
set_option maxRecDepth 100000 in
set_option maxHeartbeats 4000000 in
theorem FRJ9_max_7cf53M {m0 : ev_M} (f : Nat) (a0 : Int32) (a1 : Int32) {m : ev_M}  (hm_m : frM m0 m) : Fr (frM m0) (FJ9_max_7cf53 f a0 a1 m) := by
  unfold FJ9_max_7cf53
  refine Fr.ite (fun _ => ?_) (fun _ => ?_)
  · exact Fr.ok hm_m
  · exact Fr.ok hm_m
set_option maxRecDepth 100000 in
set_option maxHeartbeats 4000000 in
theorem FRJ9_max_f86c9C {m0 : ev_M} (f : Nat) (a0 : Int64) (a2 : Int64) {m : ev_M}  (hm_m : frC m0 m) : Fr (frC m0) (FJ9_max_f86c9 f a0 a2 m) := by
  unfold FJ9_max_f86c9
  refine Fr.ite (fun _ => ?_) (fun _ => ?_)
  · exact Fr.ok hm_m
  · exact Fr.ok hm_m
set_option maxRecDepth 100000 in
set_option maxHeartbeats 4000000 in
theorem FRJ9_max_f86c9M {m0 : ev_M} (f : Nat) (a0 : Int64) (a2 : Int64) {m : ev_M}  (hm_m : frM m0 m) : Fr (frM m0) (FJ9_max_f86c9 f a0 a2 m) := by
  unfold FJ9_max_f86c9
  refine Fr.ite (fun _ => ?_) (fun _ => ?_)
  · exact Fr.ok hm_m
  · exact Fr.ok hm_m
set_option maxRecDepth 100000 in
set_option maxHeartbeats 4000000 in
theorem FRJ9_min_7cf53C {m0 : ev_M} (f : Nat) (a0 : Int32) (a1 : Int32) {m : ev_M}  (hm_m : frC m0 m) : Fr (frC m0) (FJ9_min_7cf53 f a0 a1 m) := by
  unfold FJ9_min_7cf53
  refine Fr.ite (fun _ => ?_) (fun _ => ?_)
  · exact Fr.ok hm_m
  · exact Fr.ok hm_m
set_option maxRecDepth 100000 in
set_option maxHeartbeats 4000000 in
theorem FRJ9_min_7cf53M {m0 : ev_M} (f : Nat) (a0 : Int32) (a1 : Int32) {m : ev_M}  (hm_m : frM m0 m) : Fr (frM m0) (FJ9_min_7cf53 f a0 a1 m) := by
  unfold FJ9_min_7cf53
  refine Fr.ite (fun _ => ?_) (fun _ => ?_)
  · exact Fr.ok hm_m
  · exact Fr.ok hm_m
set_option maxRecDepth 100000 in
set_option maxHeartbeats 4000000 in
theorem FRJ9_min_f86c9C {m0 : ev_M} (f : Nat) (a0 : Int64) (a2 : Int64) {m : ev_M}  (hm_m : frC m0 m) : Fr (frC m0) (FJ9_min_f86c9 f a0 a2 m) := by
  unfold FJ9_min_f86c9
  refine Fr.ite (fun _ => ?_) (fun _ => ?_)
  · exact Fr.ok hm_m
  · exact Fr.ok hm_m
set_option maxRecDepth 100000 in
set_option maxHeartbeats 4000000 in
theorem FRJ9_min_f86c9M {m0 : ev_M} (f : Nat) (a0 : Int64) (a2 : Int64) {m : ev_M}  (hm_m : frM m0 m) : Fr (frM m0) (FJ9_min_f86c9 f a0 a2 m) := by
  unfold FJ9_min_f86c9
  refine Fr.ite (fun _ => ?_) (fun _ => ?_)
  · exact Fr.ok hm_m
  · exact Fr.ok hm_m
set_option maxRecDepth 100000 in
set_option maxHeartbeats 4000000 in
theorem frC11_feed {m0 : ev_M} (f : Nat) (a1 : Int32) (a2 : Int32) (a3 : Int32) (a4 : Int32) (a5 : Int32) {m : ev_M}  (hm_m : frC m0 m) : Fr (frC m0) (FX11_feed f a1 a2 a3 a4 a5 m) := by
  unfold FX11_feed
  refine Fr.bd (frC10_hasRoom _ _ hm_m) (fun r1 m2 hm_m2 => ?_)
  refine Fr.ite (fun _ => ?_) (fun _ => ?_)
  · refine Fr.bd (frC11_refuse _ _ hm_m2) (fun r13 m14 hm_m14 => ?_)
    exact Fr.ok hm_m14
  · refine Fr.bd (frC10_write _ _ hm_m2) (fun _ m4 hm_m4 => ?_)
    refine Fr.bd (frC10_write _ _ hm_m4) (fun _ m6 hm_m6 => ?_)
    refine Fr.bd (frC10_write _ _ hm_m6) (fun _ m8 hm_m8 => ?_)
    refine Fr.bd (frC10_write _ _ hm_m8) (fun _ m10 hm_m10 => ?_)
    refine Fr.bd (frC10_write _ _ hm_m10) (fun _ m12 hm_m12 => ?_)
    exact Fr.ok hm_m12
set_option maxRecDepth 100000 in
set_option maxHeartbeats 4000000 in
theorem frC11_end_J15 {m0 : ev_M} (f : Nat) {m : ev_M}  (hm_m : frC m0 m) : Fr (frC m0) (FX11_end_J15 f m) := by
  unfold FX11_end_J15
  refine Fr.bd (frC11_refuse _ _ hm_m) (fun r1 m2 hm_m2 => ?_)
  refine Fr.ite (fun _ => ?_) (fun _ => ?_)
  · exact Fr.ok hm_m2
  · exact Fr.none
set_option maxRecDepth 100000 in
set_option maxHeartbeats 4000000 in
theorem frC11_end {m0 : ev_M} (f : Nat) (a1 : Int32) {m : ev_M}  (hm_m : frC m0 m) : Fr (frC m0) (FX11_end f a1 m) := by
  unfold FX11_end
  refine Fr.ite (fun _ => ?_) (fun _ => ?_)
  · exact frC11_end_J15 _ hm_m
  · refine Fr.ite (fun _ => ?_) (fun _ => ?_)
    · exact Fr.ok (frC_I (by decide) hm_m)
    · exact frC11_end_J15 _ hm_m
set_option maxRecDepth 100000 in
set_option maxHeartbeats 4000000 in
theorem frC11_has {m0 : ev_M} (f : Nat) (a1 : Int32) {m : ev_M}  (hm_m : frC m0 m) : Fr (frC m0) (FX11_has f a1 m) := by
  unfold FX11_has
  refine Fr.ite (fun _ => ?_) (fun _ => ?_)
  · refine Fr.ite (fun hk1 => ?_) (fun _ => ?_)
    · exact Fr.ok hm_m
    · exact Fr.none
  · refine Fr.ite (fun _ => ?_) (fun _ => ?_)
    · exact Fr.ok hm_m
    · refine Fr.ite (fun _ => ?_) (fun _ => ?_)
      · refine Fr.bd (frC11_isTold _ hm_m) (fun r4 m5 hm_m5 => ?_)
        refine Fr.ite (fun _ => ?_) (fun _ => ?_)
        · exact Fr.ok hm_m5
        · exact Fr.ok hm_m5
      · refine Fr.ite (fun _ => ?_) (fun _ => ?_)
        · refine Fr.bd (FRJ6_bitCount_0f7a4C _ _ hm_m) (fun r7 m8 hm_m8 => ?_)
          exact Fr.ok hm_m8
        · refine Fr.ite (fun _ => ?_) (fun _ => ?_)
          · refine Fr.bd (frC11_moodsTogether _ hm_m) (fun r10 m11 hm_m11 => ?_)
            exact Fr.ok hm_m11
          · refine Fr.ite (fun _ => ?_) (fun _ => ?_)
            · refine Fr.bd (FRJ9_min_7cf53C _ _ _ hm_m) (fun r13 m14 hm_m14 => ?_)
              exact Fr.ok hm_m14
            · refine Fr.ite (fun _ => ?_) (fun _ => ?_)
              · exact Fr.ok hm_m
              · refine Fr.ite (fun _ => ?_) (fun _ => ?_)
                · exact Fr.ok hm_m
                · exact Fr.ok hm_m
set_option maxRecDepth 100000 in
set_option maxHeartbeats 4000000 in
theorem frC11_letter {m0 : ev_M} (f : Nat) (a1 : Int32) (a2 : Int32) {m : ev_M}  (hm_m : frC m0 m) : Fr (frC m0) (FX11_letter f a1 a2 m) := by
  unfold FX11_letter
  refine Fr.bd (frC11_isTower _ _ hm_m) (fun r1 m2 hm_m2 => ?_)
  refine Fr.ite (fun _ => ?_) (fun _ => ?_)
  · exact Fr.ok hm_m2
  · refine Fr.ite (fun _ => ?_) (fun _ => ?_)
    · exact Fr.ok hm_m2
    · refine Fr.ite (fun _ => ?_) (fun _ => ?_)
      · refine Fr.ite (fun hk1 => ?_) (fun _ => ?_)
        · refine Fr.ite (fun _ => ?_) (fun _ => ?_)
          · exact Fr.ok hm_m2
          · exact Fr.none
        · exact Fr.none
      · exact Fr.ok hm_m2
set_option maxRecDepth 100000 in
set_option maxHeartbeats 4000000 in
theorem frC11_tower {m0 : ev_M} (f : Nat) (a1 : Int32) (a2 : Int32) {m : ev_M}  (hm_m : frC m0 m) : Fr (frC m0) (FX11_tower f a1 a2 m) := by
  unfold FX11_tower
  refine Fr.bd (frC11_isTower _ _ hm_m) (fun r1 m2 hm_m2 => ?_)
  refine Fr.ite (fun _ => ?_) (fun _ => ?_)
  · exact Fr.ok hm_m2
  · refine Fr.ite (fun _ => ?_) (fun _ => ?_)
    · refine Fr.ite (fun _ => ?_) (fun _ => ?_)
      · exact Fr.ok hm_m2
      · exact Fr.none
    · refine Fr.ite (fun _ => ?_) (fun _ => ?_)
      · refine Fr.ite (fun _ => ?_) (fun _ => ?_)
        · exact Fr.ok hm_m2
        · exact Fr.none
      · refine Fr.ite (fun _ => ?_) (fun _ => ?_)
        · exact Fr.ok hm_m2
        · exact Fr.ok hm_m2
set_option maxRecDepth 100000 in
set_option maxHeartbeats 4000000 in
theorem frC11_kept {m0 : ev_M} (f : Nat) (a1 : Int32) (a2 : Int32) {m : ev_M}  (hm_m : frC m0 m) : Fr (frC m0) (FX11_kept f a1 a2 m) := by
  unfold FX11_kept
  refine Fr.bd (FRJ9_min_7cf53C _ _ _ hm_m) (fun r1 m2 hm_m2 => ?_)
  refine Fr.ite (fun _ => ?_) (fun _ => ?_)
  · exact Fr.ok hm_m2
  · refine Fr.ite (fun _ => ?_) (fun _ => ?_)
    · exact Fr.ok hm_m2
    · refine Fr.ite (fun _ => ?_) (fun _ => ?_)
      · exact Fr.ok hm_m2
      · refine Fr.ite (fun _ => ?_) (fun _ => ?_)
        · refine Fr.bd (frC6_fireOf _ _ _ hm_m2) (fun r3 m4 hm_m4 => ?_)
          exact Fr.ok hm_m4
        · exact Fr.ok hm_m2
set_option maxRecDepth 100000 in
set_option maxHeartbeats 4000000 in
theorem frC11_see {m0 : ev_M} (f : Nat) {m : ev_M}  (hm_m : frC m0 m) : Fr (frC m0) (FX11_see f m) := by
  unfold FX11_see
  refine Fr.ite (fun hk1 => ?_) (fun _ => ?_)
  · refine Fr.bd (frC4_look _ _ hm_m) (fun r2 m3 hm_m3 => ?_)
    refine Fr.ite (fun _ => ?_) (fun _ => ?_)
    · refine Fr.bd (frC11_refuse _ _ (frC_I (by decide) hm_m3)) (fun r4 m5 hm_m5 => ?_)
      exact Fr.ok hm_m5
    · exact Fr.ok (frC_I (by decide) hm_m3)
  · exact Fr.none
set_option maxRecDepth 100000 in
set_option maxHeartbeats 4000000 in
theorem frC11_seed {m0 : ev_M} (f : Nat) (a1 : Int32) {m : ev_M}  (hm_m : frC m0 m) : Fr (frC m0) (FX11_seed f a1 m) := by
  unfold FX11_seed
  refine Fr.ite (fun _ => ?_) (fun _ => ?_)
  · exact Fr.ok (frC_L (by decide) hm_m)
  · refine Fr.bd (frC11_refuse _ _ hm_m) (fun r1 m2 hm_m2 => ?_)
    refine Fr.ite (fun _ => ?_) (fun _ => ?_)
    · exact Fr.ok hm_m2
    · exact Fr.none
set_option maxRecDepth 100000 in
set_option maxHeartbeats 4000000 in
theorem frC11_image_L50 {m0 : ev_M} (f : Nat) (k : Int32 → ev_M → Option (Int32 × ev_M)) (hk : ∀ (x0 : Int32) (xm : ev_M), frC m0 xm → Fr (frC m0) (k x0 xm)) : ∀ (n : Nat) (a1 : Int32) (a2 : Int32) (m : ev_M), frC m0 m → Fr (frC m0) (FX11_image_L50 f k n a1 a2 m) := by
  intro n
  induction n with
  | zero => intros; exact Fr.none
  | succ n ih =>
    intro a1 a2 m hm_m
    rw [FX11_image_L50]
    refine Fr.ite (fun hk1 => ?_) (fun _ => ?_)
    · refine Fr.ite (fun _ => ?_) (fun _ => ?_)
      · exact hk _ _ hm_m
      · refine Fr.ite (fun _ => ?_) (fun _ => ?_)
        · refine Fr.ite (fun _ => ?_) (fun _ => ?_)
          · refine Fr.ite (fun _ => ?_) (fun _ => ?_)
            · refine Fr.ite (fun _ => ?_) (fun _ => ?_)
              · refine Fr.ite (fun _ => ?_) (fun _ => ?_)
                · exact ih _ _ (frC_I (by decide) (frC_I (by decide) (frC_I (by decide) hm_m)))
                · exact Fr.none
              · exact Fr.none
            · exact Fr.none
          · exact Fr.none
        · exact Fr.none
    · exact Fr.none
set_option maxRecDepth 100000 in
set_option maxHeartbeats 4000000 in
theorem frC11_image {m0 : ev_M} (f : Nat) {m : ev_M}  (hm_m : frC m0 m) : Fr (frC m0) (FX11_image f m) := by
  unfold FX11_image
  exact frC11_image_L50 _ _ ((by
  intro e2 m3 hm_m3
  refine Fr.bd (frC11_checkOf _ 110 _ (by decide) hm_m3) (fun r4 m5 hm_m5 => ?_)
  refine Fr.ite (fun _ => ?_) (fun _ => ?_)
  · exact Fr.ok (frC_I (by decide) (frC_I (by decide) hm_m5))
  · exact Fr.none)) _ _ _ _ (frC_I (by decide) (frC_I (by decide) (frC_I (by decide) hm_m)))
set_option maxRecDepth 100000 in
set_option maxHeartbeats 4000000 in
theorem frC11_on_J28 {m0 : ev_M} (f : Nat) (a1 : Int32) {m : ev_M}  (hm_m : frC m0 m) : Fr (frC m0) (FX11_on_J28 f a1 m) := by
  unfold FX11_on_J28
  refine Fr.ite (fun _ => ?_) (fun _ => ?_)
  · refine Fr.bd (frC11_refuse _ _ (frC_I (by decide) hm_m)) (fun r3 m4 hm_m4 => ?_)
    refine Fr.ite (fun _ => ?_) (fun _ => ?_)
    · exact Fr.ok hm_m4
    · exact Fr.ok hm_m4
  · exact Fr.ok (frC_I (by decide) hm_m)
set_option maxRecDepth 100000 in
set_option maxHeartbeats 4000000 in
theorem frC11_on_J19 {m0 : ev_M} (f : Nat) (s0 : Int32) {m : ev_M}  (hm_m : frC m0 m) : Fr (frC m0) (FX11_on_J19 f s0 m) := by
  unfold FX11_on_J19
  refine Fr.ite (fun _ => ?_) (fun _ => ?_)
  · exact frC11_on_J28 _ _ hm_m
  · refine Fr.bd (frC11_takePicture _ hm_m) (fun _ m6 hm_m6 => ?_)
    exact frC11_on_J28 _ _ hm_m6
set_option maxRecDepth 100000 in
set_option maxHeartbeats 4000000 in
theorem frC11_on_J18 {m0 : ev_M} (f : Nat) {m : ev_M}  (hm_m : frC m0 m) : Fr (frC m0) (FX11_on_J18 f m) := by
  unfold FX11_on_J18
  exact frC11_on_J19 _ _ hm_m
set_option maxRecDepth 100000 in
set_option maxHeartbeats 4000000 in
theorem frC11_on {m0 : ev_M} (f : Nat) {m : ev_M}  (hm_m : frC m0 m) : Fr (frC m0) (FX11_on f m) := by
  unfold FX11_on
  refine Fr.bd (frC11_isTold _ hm_m) (fun r1 m2 hm_m2 => ?_)
  refine Fr.ite (fun _ => ?_) (fun _ => ?_)
  · exact frC11_on_J18 _ hm_m2
  · refine Fr.bd (frC11_isPicture _ hm_m2) (fun r7 m8 hm_m8 => ?_)
    refine Fr.ite (fun _ => ?_) (fun _ => ?_)
    · exact frC11_on_J18 _ hm_m8
    · exact frC11_on_J19 _ _ hm_m8
set_option maxRecDepth 100000 in
set_option maxHeartbeats 4000000 in
theorem frC11_catchCold {m0 : ev_M} (f : Nat) {m : ev_M}  (hm_m : frC m0 m) : Fr (frC m0) (FX11_catchCold f m) := by
  unfold FX11_catchCold
  refine Fr.bd (frC11_draw _ _ hm_m) (fun r1 m2 hm_m2 => ?_)
  refine Fr.ite (fun hk1 => ?_) (fun _ => ?_)
  · refine Fr.ite (fun _ => ?_) (fun _ => ?_)
    · exact Fr.ok hm_m2
    · refine Fr.ite (fun _ => ?_) (fun _ => ?_)
      · exact Fr.ok hm_m2
      · refine Fr.bd (frC11_draw _ _ hm_m2) (fun r4 m5 hm_m5 => ?_)
        refine Fr.ite (fun _ => ?_) (fun _ => ?_)
        · refine Fr.bd (FRJ9_max_7cf53C _ _ _ hm_m5) (fun r6 m7 hm_m7 => ?_)
          refine Fr.ite (fun _ => ?_) (fun _ => ?_)
          · exact Fr.ok (frC_I (by decide) hm_m7)
          · exact Fr.none
        · exact Fr.none
  · exact Fr.none
set_option maxRecDepth 100000 in
set_option maxHeartbeats 4000000 in
theorem frC1_addUntoldSums_J91 {m0 : ev_M} (f : Nat) (o0 : Nat) {m : ev_M} (h_o0 : isK 1 o0) (hm_m : frC m0 m) : Fr (frC m0) (FX1_addUntoldSums_J91 f o0 m) := by
  unfold FX1_addUntoldSums_J91
  refine Fr.bd (frC1_hasFeels _ o0 h_o0 hm_m) (fun r3 m4 hm_m4 => ?_)
  refine Fr.ite (fun _ => ?_) (fun _ => ?_)
  · refine Fr.bd (frC2_add _ (o0 + 4) _ (k1_k2 h_o0) (frC_I (by have := kf1 h_o0; omega) hm_m4)) (fun _ m6 hm_m6 => ?_)
    exact Fr.ok (frC_I (by have := kf1 h_o0; omega) hm_m6)
  · exact Fr.ok hm_m4
set_option maxRecDepth 100000 in
set_option maxHeartbeats 4000000 in
theorem frC1_addUntoldSums {m0 : ev_M} (f : Nat) (o0 : Nat) {m : ev_M} (h_o0 : isK 1 o0) (hm_m : frC m0 m) : Fr (frC m0) (FX1_addUntoldSums f o0 m) := by
  unfold FX1_addUntoldSums
  refine Fr.bd (frC1_hasSays _ o0 h_o0 hm_m) (fun r1 m2 hm_m2 => ?_)
  refine Fr.ite (fun _ => ?_) (fun _ => ?_)
  · refine Fr.bd (frC2_add _ (o0 + 4) _ (k1_k2 h_o0) (frC_I (by have := kf1 h_o0; omega) hm_m2)) (fun _ m8 hm_m8 => ?_)
    refine Fr.bd (frC2_add _ (o0 + 4) _ (k1_k2 h_o0) hm_m8) (fun _ m10 hm_m10 => ?_)
    refine Fr.bd (frC2_add _ (o0 + 4) _ (k1_k2 h_o0) hm_m10) (fun _ m12 hm_m12 => ?_)
    refine Fr.bd (frC2_add _ (o0 + 4) _ (k1_k2 h_o0) hm_m12) (fun _ m14 hm_m14 => ?_)
    refine Fr.bd (frC2_add _ (o0 + 4) _ (k1_k2 h_o0) hm_m14) (fun _ m16 hm_m16 => ?_)
    refine Fr.bd (frC2_add _ (o0 + 4) _ (k1_k2 h_o0) hm_m16) (fun _ m18 hm_m18 => ?_)
    refine Fr.bd (frC2_add _ (o0 + 4) _ (k1_k2 h_o0) hm_m18) (fun _ m20 hm_m20 => ?_)
    exact frC1_addUntoldSums_J91 _ o0 h_o0 (frC_I (by have := kf1 h_o0; omega) hm_m20)
  · exact frC1_addUntoldSums_J91 _ o0 h_o0 hm_m2
set_option maxRecDepth 100000 in
set_option maxHeartbeats 4000000 in
theorem frC1_find_J52 {m0 : ev_M} (f : Nat) (kt15 : Int32 → Int32 → ev_M → Option (Int32 × ev_M)) (a4 : Int32) (s0 : Int32) {m : ev_M} (hkt15 : ∀ (x0 : Int32) (x1 : Int32) (xm : ev_M), frC m0 xm → Fr (frC m0) (kt15 x0 x1 xm)) (hm_m : frC m0 m) : Fr (frC m0) (FX1_find_J52 f kt15 a4 s0 m) := by
  unfold FX1_find_J52
  exact hkt15 _ _ _ hm_m
set_option maxRecDepth 100000 in
set_option maxHeartbeats 4000000 in
theorem frC1_find_J51 {m0 : ev_M} (f : Nat) (kt15 : Int32 → Int32 → ev_M → Option (Int32 × ev_M)) (a4 : Int32) {m : ev_M} (hkt15 : ∀ (x0 : Int32) (x1 : Int32) (xm : ev_M), frC m0 xm → Fr (frC m0) (kt15 x0 x1 xm)) (hm_m : frC m0 m) : Fr (frC m0) (FX1_find_J51 f kt15 a4 m) := by
  unfold FX1_find_J51
  exact frC1_find_J52 _ _ _ _ hkt15 hm_m
set_option maxRecDepth 100000 in
set_option maxHeartbeats 4000000 in
theorem frC1_find_L15 {m0 : ev_M} (f : Nat) (k : Int32 → ev_M → Option (Int32 × ev_M)) (o0 : Nat) (a2 : Int32) (h_o0 : isK 1 o0) (hk : ∀ (x0 : Int32) (xm : ev_M), frC m0 xm → Fr (frC m0) (k x0 xm)) : ∀ (n : Nat) (a3 : Int32) (a4 : Int32) (m : ev_M), frC m0 m → Fr (frC m0) (FX1_find_L15 f k o0 a2 n a3 a4 m) := by
  intro n
  induction n with
  | zero => intros; exact Fr.none
  | succ n ih =>
    intro a3 a4 m hm_m
    rw [FX1_find_L15]
    refine Fr.ite (fun _ => ?_) (fun _ => ?_)
    · exact hk _ _ hm_m
    · refine Fr.ite (fun _ => ?_) (fun _ => ?_)
      · exact frC1_find_J51 _ _ _ ih hm_m
      · refine Fr.ite (fun _ => ?_) (fun _ => ?_)
        · refine Fr.bd (frC10_nameLetter _ _ hm_m) (fun r1 m2 hm_m2 => ?_)
          refine Fr.ite (fun _ => ?_) (fun _ => ?_)
          · exact frC1_find_J52 _ _ _ _ ih hm_m2
          · exact frC1_find_J51 _ _ _ ih hm_m2
        · exact Fr.none
set_option maxRecDepth 100000 in
set_option maxHeartbeats 4000000 in
theorem frC1_find_L2 {m0 : ev_M} (f : Nat) (k : ev_M → Option (Int32 × ev_M)) (o0 : Nat) (h_o0 : isK 1 o0) (hk : ∀  (xm : ev_M), frC m0 xm → Fr (frC m0) (k xm)) : ∀ (n : Nat) (a2 : Int32) (m : ev_M), frC m0 m → Fr (frC m0) (FX1_find_L2 f k o0 n a2 m) := by
  intro n
  induction n with
  | zero => intros; exact Fr.none
  | succ n ih =>
    intro a2 m hm_m
    rw [FX1_find_L2]
    refine Fr.ite (fun _ => ?_) (fun _ => ?_)
    · exact hk _ hm_m
    · exact frC1_find_L15 _ _ o0 _ h_o0 ((by
  intro e3 m4 hm_m4
  refine Fr.ite (fun _ => ?_) (fun _ => ?_)
  · exact ih _ hm_m4
  · exact Fr.ok hm_m4)) _ _ _ _ hm_m
set_option maxRecDepth 100000 in
set_option maxHeartbeats 4000000 in
theorem frC1_find {m0 : ev_M} (f : Nat) (o0 : Nat) {m : ev_M} (h_o0 : isK 1 o0) (hm_m : frC m0 m) : Fr (frC m0) (FX1_find f o0 m) := by
  unfold FX1_find
  exact frC1_find_L2 _ _ o0 h_o0 ((by
  intro m5 hm_m5
  exact Fr.ok hm_m5)) _ _ _ hm_m
set_option maxRecDepth 100000 in
set_option maxHeartbeats 4000000 in
theorem frC3_graded {m0 : ev_M} (f : Nat) (a0 : Int32) {m : ev_M}  (hm_m : frC m0 m) : Fr (frC m0) (FX3_graded f a0 m) := by
  unfold FX3_graded
  refine Fr.bd (FRJ9_min_7cf53C _ _ _ hm_m) (fun r1 m2 hm_m2 => ?_)
  refine Fr.bd (FRJ9_max_7cf53C _ _ _ hm_m2) (fun r3 m4 hm_m4 => ?_)
  exact Fr.ok hm_m4
set_option maxRecDepth 100000 in
set_option maxHeartbeats 4000000 in
theorem frC3_doubtfulOnes {m0 : ev_M} (f : Nat) {m : ev_M}  (hm_m : frC m0 m) : Fr (frC m0) (FX3_doubtfulOnes f m) := by
  unfold FX3_doubtfulOnes
  refine Fr.bd (FRJ6_bitCount_0f7a4C _ _ hm_m) (fun r1 m2 hm_m2 => ?_)
  exact Fr.ok hm_m2
set_option maxRecDepth 100000 in
set_option maxHeartbeats 4000000 in
theorem frC3_isFire {m0 : ev_M} (f : Nat) {m : ev_M}  (hm_m : frC m0 m) : Fr (frC m0) (FX3_isFire f m) := by
  unfold FX3_isFire
  refine Fr.ite (fun hk1 => ?_) (fun _ => ?_)
  · refine Fr.bd (frC3_rowOf _ _ hm_m) (fun r2 m3 hm_m3 => ?_)
    refine Fr.ite (fun _ => ?_) (fun _ => ?_)
    · exact Fr.ok hm_m3
    · exact Fr.ok hm_m3
  · exact Fr.none
set_option maxRecDepth 100000 in
set_option maxHeartbeats 4000000 in
theorem frC4_farthestSeen_L4 {m0 : ev_M} (f : Nat) (k : Int32 → ev_M → Option (Int32 × ev_M)) (hk : ∀ (x0 : Int32) (xm : ev_M), frC m0 xm → Fr (frC m0) (k x0 xm)) : ∀ (n : Nat) (a1 : Int32) (a2 : Int32) (m : ev_M), frC m0 m → Fr (frC m0) (FX4_farthestSeen_L4 f k n a1 a2 m) := by
  intro n
  induction n with
  | zero => intros; exact Fr.none
  | succ n ih =>
    intro a1 a2 m hm_m
    rw [FX4_farthestSeen_L4]
    refine Fr.ite (fun _ => ?_) (fun _ => ?_)
    · exact hk _ _ hm_m
    · refine Fr.ite (fun _ => ?_) (fun _ => ?_)
      · exact hk _ _ hm_m
      · refine Fr.ite (fun _ => ?_) (fun _ => ?_)
        · refine Fr.bd (FRJ9_max_7cf53C _ _ _ hm_m) (fun r1 m2 hm_m2 => ?_)
          exact ih _ _ hm_m2
        · exact Fr.none
set_option maxRecDepth 100000 in
set_option maxHeartbeats 4000000 in
theorem frC4_farthestSeen {m0 : ev_M} (f : Nat) {m : ev_M}  (hm_m : frC m0 m) : Fr (frC m0) (FX4_farthestSeen f m) := by
  unfold FX4_farthestSeen
  exact frC4_farthestSeen_L4 _ _ ((by
  intro e3 m4 hm_m4
  exact Fr.ok hm_m4)) _ _ _ _ hm_m
set_option maxRecDepth 100000 in
set_option maxHeartbeats 4000000 in
theorem frC4_mostAlike_L6 {m0 : ev_M} (f : Nat) (k : ev_M → Option (Int32 × ev_M)) (hk : ∀  (xm : ev_M), frC m0 xm → Fr (frC m0) (k xm)) : ∀ (n : Nat) (a5 : Int32) (m : ev_M), frC m0 m → Fr (frC m0) (FX4_mostAlike_L6 f k n a5 m) := by
  intro n
  induction n with
  | zero => intros; exact Fr.none
  | succ n ih =>
    intro a5 m hm_m
    rw [FX4_mostAlike_L6]
    refine Fr.ite (fun _ => ?_) (fun _ => ?_)
    · exact hk _ hm_m
    · refine Fr.ite (fun _ => ?_) (fun _ => ?_)
      · exact ih _ (frC_I (by decide) hm_m)
      · exact Fr.none
set_option maxRecDepth 100000 in
set_option maxHeartbeats 4000000 in
theorem frC4_mostAlike_J86 {m0 : ev_M} (f : Nat) (kt30 : Int32 → Int32 → ev_M → Option (Int32 × ev_M)) (a4 : Int32) (a5 : Int32) {m : ev_M} (hkt30 : ∀ (x0 : Int32) (x1 : Int32) (xm : ev_M), frC m0 xm → Fr (frC m0) (kt30 x0 x1 xm)) (hm_m : frC m0 m) : Fr (frC m0) (FX4_mostAlike_J86 f kt30 a4 a5 m) := by
  unfold FX4_mostAlike_J86
  exact hkt30 _ _ _ hm_m
set_option maxRecDepth 100000 in
set_option maxHeartbeats 4000000 in
theorem frC4_mostAlike_L30 {m0 : ev_M} (f : Nat) (k : Int32 → ev_M → Option (Int32 × ev_M)) (a1 : Int32) (a2 : Int32) (a3 : Int32) (hk : ∀ (x0 : Int32) (xm : ev_M), frC m0 xm → Fr (frC m0) (k x0 xm)) : ∀ (n : Nat) (a4 : Int32) (a5 : Int32) (m : ev_M), frC m0 m → Fr (frC m0) (FX4_mostAlike_L30 f k a1 a2 a3 n a4 a5 m) := by
  intro n
  induction n with
  | zero => intros; exact Fr.none
  | succ n ih =>
    intro a4 a5 m hm_m
    rw [FX4_mostAlike_L30]
    refine Fr.ite (fun _ => ?_) (fun _ => ?_)
    · exact hk _ _ hm_m
    · refine Fr.ite (fun _ => ?_) (fun _ => ?_)
      · refine Fr.bd (frC4_indexOf _ _ _ _ hm_m) (fun r2 m3 hm_m3 => ?_)
        refine Fr.ite (fun _ => ?_) (fun _ => ?_)
        · refine Fr.ite (fun _ => ?_) (fun _ => ?_)
          · refine Fr.ite (fun _ => ?_) (fun _ => ?_)
            · refine Fr.ite (fun _ => ?_) (fun _ => ?_)
              · refine Fr.bd (FRJ9_max_7cf53C _ _ _ (frC_I (by decide) hm_m3)) (fun r4 m5 hm_m5 => ?_)
                exact frC4_mostAlike_J86 _ _ _ _ ih hm_m5
              · exact Fr.none
            · exact Fr.none
          · exact Fr.none
        · exact Fr.none
      · exact frC4_mostAlike_J86 _ _ _ _ ih hm_m
set_option maxRecDepth 100000 in
set_option maxHeartbeats 4000000 in
theorem frC4_mostAlike {m0 : ev_M} (f : Nat) (a1 : Int32) (a2 : Int32) (a3 : Int32) {m : ev_M}  (hm_m : frC m0 m) : Fr (frC m0) (FX4_mostAlike f a1 a2 a3 m) := by
  unfold FX4_mostAlike
  exact frC4_mostAlike_L6 _ _ ((by
  intro m1 hm_m1
  exact frC4_mostAlike_L30 _ _ _ _ _ ((by
  intro e6 m7 hm_m7
  exact Fr.ok hm_m7)) _ _ _ _ hm_m1)) _ _ _ hm_m
set_option maxRecDepth 100000 in
set_option maxHeartbeats 4000000 in
theorem frC5_join {m0 : ev_M} (f : Nat) (a0 : Int32) (a1 : Int32) (a2 : Int32) {m : ev_M}  (hm_m : frC m0 m) : Fr (frC m0) (FX5_join f a0 a1 a2 m) := by
  unfold FX5_join
  refine Fr.ite (fun _ => ?_) (fun _ => ?_)
  · exact Fr.ok hm_m
  · refine Fr.ite (fun _ => ?_) (fun _ => ?_)
    · exact Fr.ok hm_m
    · refine Fr.ite (fun _ => ?_) (fun _ => ?_)
      · refine Fr.ite (fun _ => ?_) (fun _ => ?_)
        · exact Fr.ok hm_m
        · exact Fr.ok hm_m
      · refine Fr.ite (fun _ => ?_) (fun _ => ?_)
        · refine Fr.ite (fun _ => ?_) (fun _ => ?_)
          · exact Fr.ok hm_m
          · exact Fr.ok hm_m
        · refine Fr.ite (fun _ => ?_) (fun _ => ?_)
          · refine Fr.ite (fun _ => ?_) (fun _ => ?_)
            · exact Fr.ok hm_m
            · exact Fr.ok hm_m
          · refine Fr.ite (fun _ => ?_) (fun _ => ?_)
            · refine Fr.bd (FRJ9_max_7cf53C _ _ _ hm_m) (fun r6 m7 hm_m7 => ?_)
              exact Fr.ok hm_m7
            · refine Fr.ite (fun _ => ?_) (fun _ => ?_)
              · refine Fr.bd (FRJ9_min_7cf53C _ _ _ hm_m) (fun r9 m10 hm_m10 => ?_)
                exact Fr.ok hm_m10
              · refine Fr.ite (fun _ => ?_) (fun _ => ?_)
                · refine Fr.ite (fun _ => ?_) (fun _ => ?_)
                  · exact Fr.ok hm_m
                  · refine Fr.bd (FRJ9_floorDiv_7cf53C _ _ _ hm_m) (fun r12 m13 hm_m13 => ?_)
                    exact Fr.ok hm_m13
                · refine Fr.ite (fun _ => ?_) (fun _ => ?_)
                  · refine Fr.bd (FRJ9_min_f86c9C _ _ _ hm_m) (fun r15 m16 hm_m16 => ?_)
                    refine Fr.bd (FRJ9_max_f86c9C _ _ _ hm_m16) (fun r17 m18 hm_m18 => ?_)
                    exact Fr.ok hm_m18
                  · refine Fr.ite (fun _ => ?_) (fun _ => ?_)
                    · refine Fr.bd (FRJ9_min_f86c9C _ _ _ hm_m) (fun r20 m21 hm_m21 => ?_)
                      refine Fr.bd (FRJ9_max_f86c9C _ _ _ hm_m21) (fun r22 m23 hm_m23 => ?_)
                      exact Fr.ok hm_m23
                    · refine Fr.ite (fun _ => ?_) (fun _ => ?_)
                      · refine Fr.bd (FRJ9_min_f86c9C _ _ _ hm_m) (fun r25 m26 hm_m26 => ?_)
                        refine Fr.bd (FRJ9_max_f86c9C _ _ _ hm_m26) (fun r27 m28 hm_m28 => ?_)
                        exact Fr.ok hm_m28
                      · exact Fr.ok hm_m
set_option maxRecDepth 100000 in
set_option maxHeartbeats 4000000 in
theorem frC6_keep {m0 : ev_M} (f : Nat) (o1 : Nat) {m : ev_M} (h_o1 : isK 8 o1) (hm_m : frC m0 m) : Fr (frC m0) (FX6_keep f o1 m) := by
  unfold FX6_keep
  refine Fr.ite (fun hi1 => ?_) (fun _ => ?_)
  · refine Fr.bd (frC8_copy _ (43 + 3 * (m.1 40 2).toNatClampNeg) o1 (k6_at _ hi1.2).2 h_o1 hm_m) (fun _ m3 hm_m3 => ?_)
    refine Fr.bd (FRJ9_min_7cf53C _ _ _ (frC_I (by decide) hm_m3)) (fun r4 m5 hm_m5 => ?_)
    exact Fr.ok (frC_I (by decide) hm_m5)
  · exact Fr.none
set_option maxRecDepth 100000 in
set_option maxHeartbeats 4000000 in
theorem frC6_bringBack {m0 : ev_M} (f : Nat) (o1 : Nat) {m : ev_M} (h_o1 : isK 8 o1) (hm_m : frC m0 m) : Fr (frC m0) (FX6_bringBack f o1 m) := by
  unfold FX6_bringBack
  refine Fr.ite (fun _ => ?_) (fun _ => ?_)
  · exact Fr.ok hm_m
  · refine Fr.ite (fun hi1 => ?_) (fun _ => ?_)
    · refine Fr.bd (frC8_copy _ o1 (43 + 3 * ((((m.1 40 2) + 20) - 1) - (((m.1 40 2) + 20) - 1) / 20 * 20).toNatClampNeg) h_o1 (k6_at _ hi1.2).2 (frC_I (by decide) (frC_I (by decide) hm_m))) (fun _ m3 hm_m3 => ?_)
      exact Fr.ok hm_m3
    · exact Fr.none
set_option maxRecDepth 100000 in
set_option maxHeartbeats 4000000 in
theorem frC7_joined {m0 : ev_M} (f : Nat) (a1 : Int64) (a3 : Int32) (a4 : Int32) {m : ev_M}  (hm_m : frC m0 m) : Fr (frC m0) (FX7_joined f a1 a3 a4 m) := by
  unfold FX7_joined
  refine Fr.ite (fun _ => ?_) (fun _ => ?_)
  · refine Fr.ite (fun _ => ?_) (fun _ => ?_)
    · refine Fr.ite (fun _ => ?_) (fun _ => ?_)
      · exact Fr.ok hm_m
      · exact Fr.ok hm_m
    · exact Fr.ok hm_m
  · refine Fr.ite (fun _ => ?_) (fun _ => ?_)
    · refine Fr.ite (fun _ => ?_) (fun _ => ?_)
      · exact Fr.ok hm_m
      · exact Fr.ok hm_m
    · refine Fr.ite (fun _ => ?_) (fun _ => ?_)
      · refine Fr.ite (fun _ => ?_) (fun _ => ?_)
        · exact Fr.ok hm_m
        · refine Fr.bd (FRJ9_max_f86c9C _ _ _ hm_m) (fun r3 m4 hm_m4 => ?_)
          exact Fr.ok hm_m4
      · refine Fr.ite (fun _ => ?_) (fun _ => ?_)
        · refine Fr.ite (fun _ => ?_) (fun _ => ?_)
          · exact Fr.ok hm_m
          · refine Fr.bd (FRJ9_min_f86c9C _ _ _ hm_m) (fun r6 m7 hm_m7 => ?_)
            exact Fr.ok hm_m7
        · exact Fr.ok hm_m
set_option maxRecDepth 100000 in
set_option maxHeartbeats 4000000 in
theorem frC10_readWord_L10 {m0 : ev_M} (f : Nat) (k : ev_M → Option (Unit × ev_M)) (hk : ∀  (xm : ev_M), frC m0 xm → Fr (frC m0) (k xm)) : ∀ (n : Nat)  (m : ev_M), frC m0 m → Fr (frC m0) (FX10_readWord_L10 f k n m) := by
  intro n
  induction n with
  | zero => intros; exact Fr.none
  | succ n ih =>
    intro m hm_m
    rw [FX10_readWord_L10]
    refine Fr.ite (fun _ => ?_) (fun _ => ?_)
    · exact hk _ hm_m
    · refine Fr.ite (fun _ => ?_) (fun _ => ?_)
      · refine Fr.bd (frC10_isLetter _ _ hm_m) (fun r1 m2 hm_m2 => ?_)
        refine Fr.ite (fun _ => ?_) (fun _ => ?_)
        · exact hk _ hm_m2
        · exact ih  (frC_I (by decide) hm_m2)
      · exact Fr.none
set_option maxRecDepth 100000 in
set_option maxHeartbeats 4000000 in
theorem frC10_readWord_J132 {m0 : ev_M} (f : Nat) (kt91 : Int32 → ev_M → Option (Unit × ev_M)) (kt141 : Int32 → ev_M → Option (Unit × ev_M)) (a2 : Int32) (s0 : Int32) (s1 : Int32) {m : ev_M} (hkt91 : ∀ (x0 : Int32) (xm : ev_M), frC m0 xm → Fr (frC m0) (kt91 x0 xm)) (hkt141 : ∀ (x0 : Int32) (xm : ev_M), frC m0 xm → Fr (frC m0) (kt141 x0 xm)) (hm_m : frC m0 m) : Fr (frC m0) (FX10_readWord_J132 f kt91 kt141 a2 s0 s1 m) := by
  unfold FX10_readWord_J132
  refine Fr.ite (fun _ => ?_) (fun _ => ?_)
  · exact hkt91 _ _ hm_m
  · exact hkt141 _ _ hm_m
set_option maxRecDepth 100000 in
set_option maxHeartbeats 4000000 in
theorem frC10_readWord_L91 {m0 : ev_M} (f : Nat) (k : Int32 → ev_M → Option (Unit × ev_M)) (a1 : Int32) (hk : ∀ (x0 : Int32) (xm : ev_M), frC m0 xm → Fr (frC m0) (k x0 xm)) : ∀ (n : Nat) (a2 : Int32) (m : ev_M), frC m0 m → Fr (frC m0) (FX10_readWord_L91 f k a1 n a2 m) := by
  intro n
  induction n with
  | zero => intros; exact Fr.none
  | succ n ih =>
    intro a2 m hm_m
    rw [FX10_readWord_L91]
    refine Fr.ite (fun _ => ?_) (fun _ => ?_)
    · exact hk _ _ hm_m
    · refine Fr.ite (fun _ => ?_) (fun _ => ?_)
      · refine Fr.ite (fun _ => ?_) (fun _ => ?_)
        · exact frC10_readWord_J132 _ _ _ _ _ _ ih hk hm_m
        · refine Fr.ite (fun _ => ?_) (fun _ => ?_)
          · exact frC10_readWord_J132 _ _ _ _ _ _ ih hk hm_m
          · exact Fr.none
      · exact Fr.none
set_option maxRecDepth 100000 in
set_option maxHeartbeats 4000000 in
theorem frC10_readWord_J153 {m0 : ev_M} (f : Nat) (kt66 : Int32 → ev_M → Option (Unit × ev_M)) (a1 : Int32) (s1 : Int32) {m : ev_M} (hkt66 : ∀ (x0 : Int32) (xm : ev_M), frC m0 xm → Fr (frC m0) (kt66 x0 xm)) (hm_m : frC m0 m) : Fr (frC m0) (FX10_readWord_J153 f kt66 a1 s1 m) := by
  unfold FX10_readWord_J153
  exact hkt66 _ _ (frC_I (by decide) hm_m)
set_option maxRecDepth 100000 in
set_option maxHeartbeats 4000000 in
theorem frC10_readWord_J141 {m0 : ev_M} (f : Nat) (kt66 : Int32 → ev_M → Option (Unit × ev_M)) (a1 : Int32) (a2 : Int32) {m : ev_M} (hkt66 : ∀ (x0 : Int32) (xm : ev_M), frC m0 xm → Fr (frC m0) (kt66 x0 xm)) (hm_m : frC m0 m) : Fr (frC m0) (FX10_readWord_J141 f kt66 a1 a2 m) := by
  unfold FX10_readWord_J141
  refine Fr.ite (fun _ => ?_) (fun _ => ?_)
  · exact frC10_readWord_J153 _ _ _ _ hkt66 hm_m
  · exact frC10_readWord_J153 _ _ _ _ hkt66 hm_m
set_option maxRecDepth 100000 in
set_option maxHeartbeats 4000000 in
theorem frC10_readWord_L66 {m0 : ev_M} (f : Nat) (k : ev_M → Option (Unit × ev_M)) (hk : ∀  (xm : ev_M), frC m0 xm → Fr (frC m0) (k xm)) : ∀ (n : Nat) (a1 : Int32) (m : ev_M), frC m0 m → Fr (frC m0) (FX10_readWord_L66 f k n a1 m) := by
  intro n
  induction n with
  | zero => intros; exact Fr.none
  | succ n ih =>
    intro a1 m hm_m
    rw [FX10_readWord_L66]
    refine Fr.ite (fun _ => ?_) (fun _ => ?_)
    · exact hk _ hm_m
    · refine Fr.ite (fun _ => ?_) (fun _ => ?_)
      · exact hk _ hm_m
      · refine Fr.ite (fun _ => ?_) (fun _ => ?_)
        · exact frC10_readWord_L91 _ _ _ ((by
  intro e4 m5 hm_m5
  exact frC10_readWord_J141 _ _ _ _ ih hm_m5)) _ _ _ hm_m
        · exact hk _ hm_m
set_option maxRecDepth 100000 in
set_option maxHeartbeats 4000000 in
theorem frC10_readWord_J59 {m0 : ev_M} (f : Nat) {m : ev_M}  (hm_m : frC m0 m) : Fr (frC m0) (FX10_readWord_J59 f m) := by
  unfold FX10_readWord_J59
  exact frC10_readWord_L66 _ _ ((by
  intro m6 hm_m6
  exact Fr.ok hm_m6)) _ _ _ (frC_I (by decide) hm_m)
set_option maxRecDepth 100000 in
set_option maxHeartbeats 4000000 in
theorem frC10_readWord {m0 : ev_M} (f : Nat) {m : ev_M}  (hm_m : frC m0 m) : Fr (frC m0) (FX10_readWord f m) := by
  unfold FX10_readWord
  exact frC10_readWord_L10 _ _ ((by
  intro m3 hm_m3
  exact frC10_readWord_J59 _ hm_m3)) _ _ (frC_I (by decide) (frC_I (by decide) hm_m))
set_option maxRecDepth 100000 in
set_option maxHeartbeats 4000000 in
theorem frC10_readNumber_J88 {m0 : ev_M} (f : Nat) (kt15 : ev_M → Option (Unit × ev_M)) {m : ev_M} (hkt15 : ∀  (xm : ev_M), frC m0 xm → Fr (frC m0) (kt15 xm)) (hm_m : frC m0 m) : Fr (frC m0) (FX10_readNumber_J88 f kt15 m) := by
  unfold FX10_readNumber_J88
  exact hkt15 _ (frC_I (by decide) hm_m)
set_option maxRecDepth 100000 in
set_option maxHeartbeats 4000000 in
theorem frC10_readNumber_L15 {m0 : ev_M} (f : Nat) (k : ev_M → Option (Unit × ev_M)) (hk : ∀  (xm : ev_M), frC m0 xm → Fr (frC m0) (k xm)) : ∀ (n : Nat)  (m : ev_M), frC m0 m → Fr (frC m0) (FX10_readNumber_L15 f k n m) := by
  intro n
  induction n with
  | zero => intros; exact Fr.none
  | succ n ih =>
    intro m hm_m
    rw [FX10_readNumber_L15]
    refine Fr.ite (fun _ => ?_) (fun _ => ?_)
    · exact hk _ hm_m
    · refine Fr.ite (fun _ => ?_) (fun _ => ?_)
      · refine Fr.bd (frC10_isDigit _ _ hm_m) (fun r1 m2 hm_m2 => ?_)
        refine Fr.ite (fun _ => ?_) (fun _ => ?_)
        · exact hk _ hm_m2
        · refine Fr.ite (fun _ => ?_) (fun _ => ?_)
          · exact frC10_readNumber_J88 _ _ ih hm_m2
          · refine Fr.ite (fun _ => ?_) (fun _ => ?_)
            · exact frC10_readNumber_J88 _ _ ih (frC_I (by decide) hm_m2)
            · exact Fr.none
      · exact Fr.none
set_option maxRecDepth 100000 in
set_option maxHeartbeats 4000000 in
theorem frC10_readNumber {m0 : ev_M} (f : Nat) {m : ev_M}  (hm_m : frC m0 m) : Fr (frC m0) (FX10_readNumber f m) := by
  unfold FX10_readNumber
  exact frC10_readNumber_L15 _ _ ((by
  intro m3 hm_m3
  exact Fr.ok hm_m3)) _ _ (frC_I (by decide) (frC_I (by decide) (frC_I (by decide) hm_m)))
set_option maxRecDepth 100000 in
set_option maxHeartbeats 4000000 in
theorem frC11_cheer_J31 {m0 : ev_M} (f : Nat) {m : ev_M}  (hm_m : frC m0 m) : Fr (frC m0) (FX11_cheer_J31 f m) := by
  unfold FX11_cheer_J31
  refine Fr.bd (frC11_refuse _ _ hm_m) (fun r3 m4 hm_m4 => ?_)
  refine Fr.ite (fun _ => ?_) (fun _ => ?_)
  · exact Fr.ok hm_m4
  · exact Fr.none
set_option maxRecDepth 100000 in
set_option maxHeartbeats 4000000 in
theorem frC11_cheer {m0 : ev_M} (f : Nat) (a1 : Int32) (a2 : Int32) {m : ev_M}  (hm_m : frC m0 m) : Fr (frC m0) (FX11_cheer f a1 a2 m) := by
  unfold FX11_cheer
  refine Fr.bd (frC11_isTower _ _ hm_m) (fun r1 m2 hm_m2 => ?_)
  refine Fr.ite (fun _ => ?_) (fun _ => ?_)
  · exact frC11_cheer_J31 _ hm_m2
  · refine Fr.ite (fun _ => ?_) (fun _ => ?_)
    · exact frC11_cheer_J31 _ hm_m2
    · refine Fr.ite (fun _ => ?_) (fun _ => ?_)
      · exact frC11_cheer_J31 _ hm_m2
      · refine Fr.ite (fun _ => ?_) (fun _ => ?_)
        · refine Fr.ite (fun _ => ?_) (fun _ => ?_)
          · exact frC11_cheer_J31 _ hm_m2
          · refine Fr.bd (frC6_keep _ 103 (by decide) hm_m2) (fun _ m6 hm_m6 => ?_)
            refine Fr.ite (fun _ => ?_) (fun _ => ?_)
            · exact Fr.ok (frC_I (by decide) hm_m6)
            · exact Fr.none
        · exact Fr.none
set_option maxRecDepth 100000 in
set_option maxHeartbeats 4000000 in
theorem frC11_yes_J32 {m0 : ev_M} (f : Nat) {m : ev_M}  (hm_m : frC m0 m) : Fr (frC m0) (FX11_yes_J32 f m) := by
  unfold FX11_yes_J32
  refine Fr.bd (frC11_refuse _ _ hm_m) (fun r3 m4 hm_m4 => ?_)
  refine Fr.ite (fun _ => ?_) (fun _ => ?_)
  · exact Fr.ok hm_m4
  · exact Fr.none
set_option maxRecDepth 100000 in
set_option maxHeartbeats 4000000 in
theorem frC11_yes {m0 : ev_M} (f : Nat) (a1 : Int32) (a2 : Int32) {m : ev_M}  (hm_m : frC m0 m) : Fr (frC m0) (FX11_yes f a1 a2 m) := by
  unfold FX11_yes
  refine Fr.bd (frC11_isTower _ _ hm_m) (fun r1 m2 hm_m2 => ?_)
  refine Fr.ite (fun _ => ?_) (fun _ => ?_)
  · exact frC11_yes_J32 _ hm_m2
  · refine Fr.ite (fun _ => ?_) (fun _ => ?_)
    · exact frC11_yes_J32 _ hm_m2
    · refine Fr.ite (fun _ => ?_) (fun _ => ?_)
      · exact frC11_yes_J32 _ hm_m2
      · refine Fr.ite (fun _ => ?_) (fun _ => ?_)
        · exact frC11_yes_J32 _ hm_m2
        · refine Fr.bd (frC6_keep _ 103 (by decide) hm_m2) (fun _ m6 hm_m6 => ?_)
          exact Fr.ok (frC_I (by decide) hm_m6)
set_option maxRecDepth 100000 in
set_option maxHeartbeats 4000000 in
theorem frC11_change_J21 {m0 : ev_M} (f : Nat) {m : ev_M}  (hm_m : frC m0 m) : Fr (frC m0) (FX11_change_J21 f m) := by
  unfold FX11_change_J21
  refine Fr.bd (frC11_refuse _ _ hm_m) (fun r3 m4 hm_m4 => ?_)
  refine Fr.ite (fun _ => ?_) (fun _ => ?_)
  · exact Fr.ok hm_m4
  · exact Fr.none
set_option maxRecDepth 100000 in
set_option maxHeartbeats 4000000 in
theorem frC11_change {m0 : ev_M} (f : Nat) (a1 : Int32) (a2 : Int32) {m : ev_M}  (hm_m : frC m0 m) : Fr (frC m0) (FX11_change f a1 a2 m) := by
  unfold FX11_change
  refine Fr.bd (frC11_isTower _ _ hm_m) (fun r1 m2 hm_m2 => ?_)
  refine Fr.ite (fun _ => ?_) (fun _ => ?_)
  · exact frC11_change_J21 _ hm_m2
  · refine Fr.bd (frC11_isTower _ _ hm_m2) (fun r5 m6 hm_m6 => ?_)
    refine Fr.ite (fun _ => ?_) (fun _ => ?_)
    · exact frC11_change_J21 _ hm_m6
    · refine Fr.ite (fun _ => ?_) (fun _ => ?_)
      · exact frC11_change_J21 _ hm_m6
      · refine Fr.bd (frC6_keep _ 103 (by decide) hm_m6) (fun _ m8 hm_m8 => ?_)
        refine Fr.bd (frC8_swap _ 103 _ _ (by decide) hm_m8) (fun _ m10 hm_m10 => ?_)
        exact Fr.ok hm_m10
set_option maxRecDepth 100000 in
set_option maxHeartbeats 4000000 in
theorem frC11_undo {m0 : ev_M} (f : Nat) {m : ev_M}  (hm_m : frC m0 m) : Fr (frC m0) (FX11_undo f m) := by
  unfold FX11_undo
  refine Fr.bd (frC6_bringBack _ 103 (by decide) hm_m) (fun r1 m2 hm_m2 => ?_)
  refine Fr.ite (fun _ => ?_) (fun _ => ?_)
  · refine Fr.bd (frC11_refuse _ _ hm_m2) (fun r3 m4 hm_m4 => ?_)
    refine Fr.ite (fun _ => ?_) (fun _ => ?_)
    · exact Fr.ok hm_m4
    · exact Fr.ok hm_m4
  · exact Fr.ok hm_m2
set_option maxRecDepth 100000 in
set_option maxHeartbeats 4000000 in
theorem frC5_work_J177 {m0 : ev_M} (f : Nat) (kt10 : Int32 → Int32 → ev_M → Option (Int32 × ev_M)) (a4 : Int32) (a5 : Int32) {m : ev_M} (hkt10 : ∀ (x0 : Int32) (x1 : Int32) (xm : ev_M), frC m0 xm → Fr (frC m0) (kt10 x0 x1 xm)) (hm_m : frC m0 m) : Fr (frC m0) (FX5_work_J177 f kt10 a4 a5 m) := by
  unfold FX5_work_J177
  exact hkt10 _ _ _ hm_m
set_option maxRecDepth 100000 in
set_option maxHeartbeats 4000000 in
theorem frC5_work_J47 {m0 : ev_M} (f : Nat) (kt10 : Int32 → Int32 → ev_M → Option (Int32 × ev_M)) (a4 : Int32) (a5 : Int32) (a6 : Int32) {m : ev_M} (hkt10 : ∀ (x0 : Int32) (x1 : Int32) (xm : ev_M), frC m0 xm → Fr (frC m0) (kt10 x0 x1 xm)) (hm_m : frC m0 m) : Fr (frC m0) (FX5_work_J47 f kt10 a4 a5 a6 m) := by
  unfold FX5_work_J47
  refine Fr.ite (fun _ => ?_) (fun _ => ?_)
  · exact frC5_work_J177 _ _ _ _ hkt10 hm_m
  · refine Fr.bd (frC5_valueOf _ _ hm_m) (fun r3 m4 hm_m4 => ?_)
    refine Fr.ite (fun _ => ?_) (fun _ => ?_)
    · exact frC5_work_J177 _ _ _ _ hkt10 (frC_I (by decide) hm_m4)
    · exact Fr.none
set_option maxRecDepth 100000 in
set_option maxHeartbeats 4000000 in
theorem frC5_work_J134 {m0 : ev_M} (f : Nat) (kt10 : Int32 → Int32 → ev_M → Option (Int32 × ev_M)) (a4 : Int32) (a5 : Int32) (s1 : Int32) (s2 : Int32) {m : ev_M} (hkt10 : ∀ (x0 : Int32) (x1 : Int32) (xm : ev_M), frC m0 xm → Fr (frC m0) (kt10 x0 x1 xm)) (hm_m : frC m0 m) : Fr (frC m0) (FX5_work_J134 f kt10 a4 a5 s1 s2 m) := by
  unfold FX5_work_J134
  refine Fr.ite (fun _ => ?_) (fun _ => ?_)
  · exact frC5_work_J177 _ _ _ _ hkt10 (frC_I (by decide) hm_m)
  · exact Fr.none
set_option maxRecDepth 100000 in
set_option maxHeartbeats 4000000 in
theorem frC5_work_J87 {m0 : ev_M} (f : Nat) (kt10 : Int32 → Int32 → ev_M → Option (Int32 × ev_M)) (a4 : Int32) (a5 : Int32) (a6 : Int32) {m : ev_M} (hkt10 : ∀ (x0 : Int32) (x1 : Int32) (xm : ev_M), frC m0 xm → Fr (frC m0) (kt10 x0 x1 xm)) (hm_m : frC m0 m) : Fr (frC m0) (FX5_work_J87 f kt10 a4 a5 a6 m) := by
  unfold FX5_work_J87
  refine Fr.ite (fun _ => ?_) (fun _ => ?_)
  · exact frC5_work_J177 _ _ _ _ hkt10 hm_m
  · refine Fr.ite (fun _ => ?_) (fun _ => ?_)
    · refine Fr.ite (fun _ => ?_) (fun _ => ?_)
      · exact frC5_work_J134 _ _ _ _ _ _ hkt10 hm_m
      · exact Fr.none
    · refine Fr.ite (fun _ => ?_) (fun _ => ?_)
      · refine Fr.bd (frC5_saidAhead _ _ hm_m) (fun r5 m6 hm_m6 => ?_)
        exact frC5_work_J134 _ _ _ _ _ _ hkt10 hm_m6
      · exact Fr.none
set_option maxRecDepth 100000 in
set_option maxHeartbeats 4000000 in
theorem frC5_work_L10 {m0 : ev_M} (f : Nat) (k : ev_M → Option (Int32 × ev_M)) (o1 : Nat) (a3 : Int32) (h_o1 : isK 2 o1) (hk : ∀  (xm : ev_M), frC m0 xm → Fr (frC m0) (k xm)) : ∀ (n : Nat) (a4 : Int32) (a5 : Int32) (m : ev_M), frC m0 m → Fr (frC m0) (FX5_work_L10 f k o1 a3 n a4 a5 m) := by
  intro n
  induction n with
  | zero => intros; exact Fr.none
  | succ n ih =>
    intro a4 a5 m hm_m
    rw [FX5_work_L10]
    refine Fr.ite (fun _ => ?_) (fun _ => ?_)
    · exact hk _ hm_m
    · refine Fr.ite (fun _ => ?_) (fun _ => ?_)
      · exact hk _ hm_m
      · refine Fr.ite (fun _ => ?_) (fun _ => ?_)
        · refine Fr.ite (fun _ => ?_) (fun _ => ?_)
          · exact frC5_work_J47 _ _ _ _ _ ih hm_m
          · refine Fr.ite (fun _ => ?_) (fun _ => ?_)
            · refine Fr.ite (fun _ => ?_) (fun _ => ?_)
              · exact frC5_work_J87 _ _ _ _ _ ih hm_m
              · refine Fr.ite (fun _ => ?_) (fun _ => ?_)
                · exact frC5_work_J87 _ _ _ _ _ ih hm_m
                · refine Fr.ite (fun _ => ?_) (fun _ => ?_)
                  · exact frC5_work_J177 _ _ _ _ ih hm_m
                  · refine Fr.ite (fun _ => ?_) (fun _ => ?_)
                    · refine Fr.ite (fun _ => ?_) (fun _ => ?_)
                      · refine Fr.bd (frC5_join _ _ _ _ hm_m) (fun r7 m8 hm_m8 => ?_)
                        refine Fr.ite (fun _ => ?_) (fun _ => ?_)
                        · exact frC5_work_J177 _ _ _ _ ih (frC_I (by decide) hm_m8)
                        · exact Fr.none
                      · exact Fr.none
                    · exact Fr.none
            · exact frC5_work_J47 _ _ _ _ _ ih hm_m
        · exact Fr.none
set_option maxRecDepth 100000 in
set_option maxHeartbeats 4000000 in
theorem frC5_work {m0 : ev_M} (f : Nat) (o1 : Nat) (a2 : Int32) (a3 : Int32) {m : ev_M} (h_o1 : isK 2 o1) (hm_m : frC m0 m) : Fr (frC m0) (FX5_work f o1 a2 a3 m) := by
  unfold FX5_work
  refine Fr.bd (FRJ9_max_7cf53C _ _ _ hm_m) (fun r1 m2 hm_m2 => ?_)
  exact frC5_work_L10 _ _ o1 _ h_o1 ((by
  intro m9 hm_m9
  exact Fr.ok hm_m9)) _ _ _ _ hm_m2
set_option maxRecDepth 100000 in
set_option maxHeartbeats 4000000 in
theorem frC10_advance_J136 {m0 : ev_M} (f : Nat) (a1 : Int32) (a2 : Int32) {m : ev_M}  (hm_m : frC m0 m) : Fr (frC m0) (FX10_advance_J136 f a1 a2 m) := by
  unfold FX10_advance_J136
  refine Fr.ite (fun _ => ?_) (fun _ => ?_)
  · exact Fr.ok hm_m
  · refine Fr.ite (fun _ => ?_) (fun _ => ?_)
    · refine Fr.ite (fun _ => ?_) (fun _ => ?_)
      · exact Fr.ok (frC_I (by decide) hm_m)
      · refine Fr.ite (fun _ => ?_) (fun _ => ?_)
        · exact Fr.ok (frC_I (by decide) hm_m)
        · exact Fr.ok hm_m
    · exact Fr.ok hm_m
set_option maxRecDepth 100000 in
set_option maxHeartbeats 4000000 in
theorem frC10_advance_J29 {m0 : ev_M} (f : Nat) (s0 : Int32) {m : ev_M}  (hm_m : frC m0 m) : Fr (frC m0) (FX10_advance_J29 f s0 m) := by
  unfold FX10_advance_J29
  refine Fr.bd (frC10_skipBlanks _ _ hm_m) (fun _ m2 hm_m2 => ?_)
  refine Fr.ite (fun _ => ?_) (fun _ => ?_)
  · refine Fr.ite (fun _ => ?_) (fun _ => ?_)
    · refine Fr.bd (frC10_isLetter _ _ hm_m2) (fun r3 m4 hm_m4 => ?_)
      refine Fr.ite (fun _ => ?_) (fun _ => ?_)
      · refine Fr.ite (fun _ => ?_) (fun _ => ?_)
        · refine Fr.bd (frC10_isDigit _ _ hm_m4) (fun r5 m6 hm_m6 => ?_)
          refine Fr.ite (fun _ => ?_) (fun _ => ?_)
          · refine Fr.ite (fun _ => ?_) (fun _ => ?_)
            · exact frC10_advance_J136 _ _ _ (frC_I (by decide) (frC_I (by decide) (frC_I (by decide) hm_m6)))
            · exact Fr.none
          · refine Fr.bd (frC10_readNumber _ hm_m6) (fun _ m8 hm_m8 => ?_)
            exact frC10_advance_J136 _ _ _ hm_m8
        · exact Fr.none
      · refine Fr.bd (frC10_readWord _ hm_m4) (fun _ m10 hm_m10 => ?_)
        exact frC10_advance_J136 _ _ _ hm_m10
    · exact Fr.none
  · exact frC10_advance_J136 _ _ _ (frC_I (by decide) (frC_I (by decide) hm_m2))
set_option maxRecDepth 100000 in
set_option maxHeartbeats 4000000 in
theorem frC10_advance_J24 {m0 : ev_M} (f : Nat) {m : ev_M}  (hm_m : frC m0 m) : Fr (frC m0) (FX10_advance_J24 f m) := by
  unfold FX10_advance_J24
  exact frC10_advance_J29 _ _ hm_m
set_option maxRecDepth 100000 in
set_option maxHeartbeats 4000000 in
theorem frC10_advance {m0 : ev_M} (f : Nat) {m : ev_M}  (hm_m : frC m0 m) : Fr (frC m0) (FX10_advance f m) := by
  unfold FX10_advance
  refine Fr.ite (fun _ => ?_) (fun _ => ?_)
  · refine Fr.ite (fun _ => ?_) (fun _ => ?_)
    · exact frC10_advance_J24 _ hm_m
    · refine Fr.ite (fun _ => ?_) (fun _ => ?_)
      · exact frC10_advance_J24 _ hm_m
      · exact frC10_advance_J29 _ _ hm_m
  · exact Fr.ok hm_m
set_option maxRecDepth 100000 in
set_option maxHeartbeats 4000000 in
theorem frC10_takeSign {m0 : ev_M} (f : Nat) (a1 : Int32) {m : ev_M}  (hm_m : frC m0 m) : Fr (frC m0) (FX10_takeSign f a1 m) := by
  unfold FX10_takeSign
  refine Fr.bd (frC10_isSign _ _ hm_m) (fun r1 m2 hm_m2 => ?_)
  refine Fr.ite (fun _ => ?_) (fun _ => ?_)
  · refine Fr.bd (frC10_fail _ _ _ hm_m2) (fun _ m4 hm_m4 => ?_)
    exact Fr.ok hm_m4
  · refine Fr.bd (frC10_advance _ hm_m2) (fun _ m6 hm_m6 => ?_)
    exact Fr.ok hm_m6
set_option maxRecDepth 100000 in
set_option maxHeartbeats 4000000 in
theorem frC10_takeWord {m0 : ev_M} (f : Nat) (a1 : Int32) {m : ev_M}  (hm_m : frC m0 m) : Fr (frC m0) (FX10_takeWord f a1 m) := by
  unfold FX10_takeWord
  refine Fr.bd (frC10_isWord _ _ hm_m) (fun r1 m2 hm_m2 => ?_)
  refine Fr.ite (fun _ => ?_) (fun _ => ?_)
  · refine Fr.bd (frC10_fail _ _ _ hm_m2) (fun _ m4 hm_m4 => ?_)
    exact Fr.ok hm_m4
  · refine Fr.bd (frC10_advance _ hm_m2) (fun _ m6 hm_m6 => ?_)
    exact Fr.ok hm_m6
set_option maxRecDepth 100000 in
set_option maxHeartbeats 4000000 in
theorem frC10_takeNumber_J66 {m0 : ev_M} (f : Nat) (a1 : Int32) (a3 : Int32) {m : ev_M}  (hm_m : frC m0 m) : Fr (frC m0) (FX10_takeNumber_J66 f a1 a3 m) := by
  unfold FX10_takeNumber_J66
  refine Fr.bd (frC10_advance _ hm_m) (fun _ m4 hm_m4 => ?_)
  refine Fr.bd (frC10_isGood _ hm_m4) (fun r5 m6 hm_m6 => ?_)
  refine Fr.ite (fun _ => ?_) (fun _ => ?_)
  · exact Fr.ok hm_m6
  · exact Fr.ok hm_m6
set_option maxRecDepth 100000 in
set_option maxHeartbeats 4000000 in
theorem frC10_takeNumber_J57 {m0 : ev_M} (f : Nat) (a1 : Int32) (a3 : Int32) {m : ev_M}  (hm_m : frC m0 m) : Fr (frC m0) (FX10_takeNumber_J57 f a1 a3 m) := by
  unfold FX10_takeNumber_J57
  refine Fr.bd (frC10_fail _ _ _ hm_m) (fun _ m2 hm_m2 => ?_)
  exact frC10_takeNumber_J66 _ _ _ hm_m2
set_option maxRecDepth 100000 in
set_option maxHeartbeats 4000000 in
theorem frC10_takeNumber {m0 : ev_M} (f : Nat) (a1 : Int32) (a2 : Int32) {m : ev_M}  (hm_m : frC m0 m) : Fr (frC m0) (FX10_takeNumber f a1 a2 m) := by
  unfold FX10_takeNumber
  refine Fr.ite (fun _ => ?_) (fun _ => ?_)
  · refine Fr.ite (fun _ => ?_) (fun _ => ?_)
    · refine Fr.ite (fun _ => ?_) (fun _ => ?_)
      · exact frC10_takeNumber_J57 _ _ _ hm_m
      · refine Fr.ite (fun _ => ?_) (fun _ => ?_)
        · exact frC10_takeNumber_J66 _ _ _ hm_m
        · exact frC10_takeNumber_J57 _ _ _ hm_m
    · refine Fr.bd (frC10_fail _ _ _ hm_m) (fun _ m8 hm_m8 => ?_)
      exact frC10_takeNumber_J66 _ _ _ hm_m8
  · refine Fr.bd (frC10_fail _ _ _ hm_m) (fun _ m10 hm_m10 => ?_)
    exact frC10_takeNumber_J66 _ _ _ hm_m10
set_option maxRecDepth 100000 in
set_option maxHeartbeats 4000000 in
theorem frC1_readTower_L38 {m0 : ev_M} (f : Nat) (k : ev_M → Option (Unit × ev_M)) (o0 : Nat) (h_o0 : isK 1 o0) (hk : ∀  (xm : ev_M), frC m0 xm → Fr (frC m0) (k xm)) : ∀ (n : Nat) (a2 : Int32) (m : ev_M), frC m0 m → Fr (frC m0) (FX1_readTower_L38 f k o0 n a2 m) := by
  intro n
  induction n with
  | zero => intros; exact Fr.none
  | succ n ih =>
    intro a2 m hm_m
    rw [FX1_readTower_L38]
    refine Fr.ite (fun _ => ?_) (fun _ => ?_)
    · exact hk _ hm_m
    · refine Fr.bd (frC10_nameLetter _ _ hm_m) (fun r5 m6 hm_m6 => ?_)
      refine Fr.ite (fun _ => ?_) (fun _ => ?_)
      · exact ih _ (frC_I (by have := kf1 h_o0; omega) hm_m6)
      · exact Fr.none
set_option maxRecDepth 100000 in
set_option maxHeartbeats 4000000 in
theorem frC1_readTower {m0 : ev_M} (f : Nat) (o0 : Nat) {m : ev_M} (h_o0 : isK 1 o0) (hm_m : frC m0 m) : Fr (frC m0) (FX1_readTower f o0 m) := by
  unfold FX1_readTower
  refine Fr.bd (frC10_checkName _ hm_m) (fun r1 m2 hm_m2 => ?_)
  refine Fr.ite (fun _ => ?_) (fun _ => ?_)
  · exact Fr.ok hm_m2
  · refine Fr.ite (fun _ => ?_) (fun _ => ?_)
    · refine Fr.bd (frC1_find _ o0 h_o0 hm_m2) (fun r3 m4 hm_m4 => ?_)
      refine Fr.ite (fun _ => ?_) (fun _ => ?_)
      · exact frC1_readTower_L38 _ _ o0 h_o0 ((by
  intro m7 hm_m7
  refine Fr.bd (frC10_advance _ hm_m7) (fun _ m9 hm_m9 => ?_)
  refine Fr.bd (frC10_takeWord _ _ hm_m9) (fun _ m11 hm_m11 => ?_)
  refine Fr.bd (frC10_takeNumber _ _ _ hm_m11) (fun r12 m13 hm_m13 => ?_)
  refine Fr.ite (fun _ => ?_) (fun _ => ?_)
  · refine Fr.bd (frC10_takeWord _ _ (frC_I (by have := kf1 h_o0; omega) hm_m13)) (fun _ m15 hm_m15 => ?_)
    refine Fr.bd (frC10_takeNumber _ _ _ hm_m15) (fun r16 m17 hm_m17 => ?_)
    refine Fr.ite (fun _ => ?_) (fun _ => ?_)
    · exact Fr.ok (frC_I (by have := kf1 h_o0; omega) (frC_I (by have := kf1 h_o0; omega) hm_m17))
    · exact Fr.none
  · exact Fr.none)) _ _ _ hm_m4
      · refine Fr.bd (frC10_fail _ _ _ hm_m4) (fun _ m19 hm_m19 => ?_)
        exact Fr.ok hm_m19
    · exact Fr.ok hm_m2
set_option maxRecDepth 100000 in
set_option maxHeartbeats 4000000 in
theorem frC1_readYes_J31 {m0 : ev_M} (f : Nat) {m : ev_M}  (hm_m : frC m0 m) : Fr (frC m0) (FX1_readYes_J31 f m) := by
  unfold FX1_readYes_J31
  refine Fr.bd (frC10_fail _ _ _ hm_m) (fun _ m6 hm_m6 => ?_)
  exact Fr.ok hm_m6
set_option maxRecDepth 100000 in
set_option maxHeartbeats 4000000 in
theorem frC1_readYes {m0 : ev_M} (f : Nat) (o0 : Nat) {m : ev_M} (h_o0 : isK 1 o0) (hm_m : frC m0 m) : Fr (frC m0) (FX1_readYes f o0 m) := by
  unfold FX1_readYes
  refine Fr.bd (frC10_checkName _ hm_m) (fun r1 m2 hm_m2 => ?_)
  refine Fr.ite (fun _ => ?_) (fun _ => ?_)
  · exact Fr.ok hm_m2
  · refine Fr.bd (frC1_find _ o0 h_o0 hm_m2) (fun r3 m4 hm_m4 => ?_)
    refine Fr.ite (fun _ => ?_) (fun _ => ?_)
    · exact frC1_readYes_J31 _ hm_m4
    · refine Fr.ite (fun _ => ?_) (fun _ => ?_)
      · exact frC1_readYes_J31 _ hm_m4
      · refine Fr.bd (frC10_advance _ (frC_I (by have := kf1 h_o0; omega) hm_m4)) (fun _ m8 hm_m8 => ?_)
        exact Fr.ok hm_m8
set_option maxRecDepth 100000 in
set_option maxHeartbeats 4000000 in
theorem frC3_goThrough_J107 {m0 : ev_M} (f : Nat) (o1 : Nat) (a2 : Int32) (a5 : Int32) {m : ev_M} (h_o1 : isK 8 o1) (hm_m : frC m0 m) : Fr (frC m0) (FX3_goThrough_J107 f o1 a2 a5 m) := by
  unfold FX3_goThrough_J107
  refine Fr.ite (fun hk1 => ?_) (fun _ => ?_)
  · refine Fr.bd (frC5_work _ (((m.1 16 2)).toNatClampNeg + 4) _ _ (k1_k2 hk1) (frC_I (by decide) hm_m)) (fun r2 m3 hm_m3 => ?_)
    refine Fr.bd (frC3_graded _ _ hm_m3) (fun r4 m5 hm_m5 => ?_)
    refine Fr.ite (fun _ => ?_) (fun _ => ?_)
    · refine Fr.ite (fun _ => ?_) (fun _ => ?_)
      · exact Fr.ok (frC_I (by decide) (frC_I (by have := kf8 h_o1; omega) (frC_I (by have := kf8 h_o1; omega) hm_m5)))
      · exact Fr.none
    · exact Fr.none
  · exact Fr.none
set_option maxRecDepth 100000 in
set_option maxHeartbeats 4000000 in
theorem frC3_goThrough {m0 : ev_M} (f : Nat) (o1 : Nat) (a2 : Int32) (a3 : Int32) {m : ev_M} (h_o1 : isK 8 o1) (hm_m : frC m0 m) : Fr (frC m0) (FX3_goThrough f o1 a2 a3 m) := by
  unfold FX3_goThrough
  refine Fr.ite (fun _ => ?_) (fun _ => ?_)
  · refine Fr.ite (fun _ => ?_) (fun _ => ?_)
    · refine Fr.ite (fun _ => ?_) (fun _ => ?_)
      · refine Fr.ite (fun hk1 => ?_) (fun _ => ?_)
        · refine Fr.bd (frC5_work _ (((m.1 16 2)).toNatClampNeg + 4) _ _ (k1_k2 hk1) (frC_I (by decide) (frC_I (by decide) (frC_I (by decide) (frC_I (by decide) (frC_I (by decide) (frC_I (by decide) hm_m))))))) (fun r7 m8 hm_m8 => ?_)
          refine Fr.bd (frC3_graded _ _ hm_m8) (fun r9 m10 hm_m10 => ?_)
          exact frC3_goThrough_J107 _ o1 _ _ h_o1 hm_m10
        · exact Fr.none
      · exact frC3_goThrough_J107 _ o1 _ _ h_o1 (frC_I (by decide) (frC_I (by decide) (frC_I (by decide) (frC_I (by decide) (frC_I (by decide) (frC_I (by decide) hm_m))))))
    · exact Fr.none
  · exact Fr.none
set_option maxRecDepth 100000 in
set_option maxHeartbeats 4000000 in
theorem frC9_opens {m0 : ev_M} (f : Nat) {m : ev_M}  (hm_m : frC m0 m) : Fr (frC m0) (FX9_opens f m) := by
  unfold FX9_opens
  refine Fr.ite (fun _ => ?_) (fun _ => ?_)
  · refine Fr.bd (frC10_advance _ (frC_I (by decide) hm_m)) (fun _ m2 hm_m2 => ?_)
    exact Fr.ok hm_m2
  · refine Fr.bd (frC10_fail _ _ _ hm_m) (fun _ m4 hm_m4 => ?_)
    exact Fr.ok hm_m4
set_option maxRecDepth 100000 in
set_option maxHeartbeats 4000000 in
theorem frC9_readValue_J36 {m0 : ev_M} (f : Nat) {m : ev_M}  (hm_m : frC m0 m) : Fr (frC m0) (FX9_readValue_J36 f m) := by
  unfold FX9_readValue_J36
  refine Fr.bd (frC10_word _ hm_m) (fun r5 m6 hm_m6 => ?_)
  refine Fr.bd (frC9_put _ _ hm_m6) (fun _ m8 hm_m8 => ?_)
  refine Fr.bd (frC10_advance _ hm_m8) (fun _ m10 hm_m10 => ?_)
  exact Fr.ok hm_m10
set_option maxRecDepth 100000 in
set_option maxHeartbeats 4000000 in
theorem frC9_readValue_J24 {m0 : ev_M} (f : Nat) {m : ev_M}  (hm_m : frC m0 m) : Fr (frC m0) (FX9_readValue_J24 f m) := by
  unfold FX9_readValue_J24
  refine Fr.bd (FRJ9_max_7cf53C _ _ _ hm_m) (fun r3 m4 hm_m4 => ?_)
  exact frC9_readValue_J36 _ (frC_I (by decide) hm_m4)
set_option maxRecDepth 100000 in
set_option maxHeartbeats 4000000 in
theorem frC9_readValue {m0 : ev_M} (f : Nat) {m : ev_M}  (hm_m : frC m0 m) : Fr (frC m0) (FX9_readValue f m) := by
  unfold FX9_readValue
  refine Fr.bd (frC10_isWord _ _ hm_m) (fun r1 m2 hm_m2 => ?_)
  refine Fr.ite (fun _ => ?_) (fun _ => ?_)
  · refine Fr.bd (frC10_isWord _ _ hm_m2) (fun r11 m12 hm_m12 => ?_)
    refine Fr.ite (fun _ => ?_) (fun _ => ?_)
    · exact frC9_readValue_J36 _ hm_m12
    · exact frC9_readValue_J24 _ hm_m12
  · exact frC9_readValue_J24 _ hm_m2
set_option maxRecDepth 100000 in
set_option maxHeartbeats 4000000 in
theorem frC10_begin {m0 : ev_M} (f : Nat) {m : ev_M}  (hm_m : frC m0 m) : Fr (frC m0) (FX10_begin f m) := by
  unfold FX10_begin
  refine Fr.bd (frC10_advance _ (frC_I (by decide) (frC_I (by decide) (frC_I (by decide) (frC_I (by decide) (frC_I (by decide) hm_m)))))) (fun _ m2 hm_m2 => ?_)
  exact Fr.ok hm_m2
set_option maxRecDepth 100000 in
set_option maxHeartbeats 4000000 in
theorem frC3_go_J57 {m0 : ev_M} (f : Nat) (kt7 : Int32 → ev_M → Option (Unit × ev_M)) (a3 : Int32) {m : ev_M} (hkt7 : ∀ (x0 : Int32) (xm : ev_M), frC m0 xm → Fr (frC m0) (kt7 x0 xm)) (hm_m : frC m0 m) : Fr (frC m0) (FX3_go_J57 f kt7 a3 m) := by
  unfold FX3_go_J57
  exact hkt7 _ _ hm_m
set_option maxRecDepth 100000 in
set_option maxHeartbeats 4000000 in
theorem frC3_go_L7 {m0 : ev_M} (f : Nat) (k : ev_M → Option (Unit × ev_M)) (o1 : Nat) (a2 : Int32) (h_o1 : isK 8 o1) (hk : ∀  (xm : ev_M), frC m0 xm → Fr (frC m0) (k xm)) : ∀ (n : Nat) (a3 : Int32) (m : ev_M), frC m0 m → Fr (frC m0) (FX3_go_L7 f k o1 a2 n a3 m) := by
  intro n
  induction n with
  | zero => intros; exact Fr.none
  | succ n ih =>
    intro a3 m hm_m
    rw [FX3_go_L7]
    refine Fr.ite (fun hk1 => ?_) (fun _ => ?_)
    · refine Fr.ite (fun _ => ?_) (fun _ => ?_)
      · exact hk _ hm_m
      · refine Fr.bd (frC3_goThrough _ o1 _ _ h_o1 hm_m) (fun _ m3 hm_m3 => ?_)
        refine Fr.ite (fun _ => ?_) (fun _ => ?_)
        · refine Fr.ite (fun hk2 => ?_) (fun _ => ?_)
          · refine Fr.ite (fun _ => ?_) (fun _ => ?_)
            · exact frC3_go_J57 _ _ _ ih hm_m3
            · exact frC3_go_J57 _ _ _ ih (frC_I (by decide) hm_m3)
          · exact Fr.none
        · exact Fr.none
    · exact Fr.none
set_option maxRecDepth 100000 in
set_option maxHeartbeats 4000000 in
theorem frC3_go {m0 : ev_M} (f : Nat) (o1 : Nat) (a2 : Int32) {m : ev_M} (h_o1 : isK 8 o1) (hm_m : frC m0 m) : Fr (frC m0) (FX3_go f o1 a2 m) := by
  unfold FX3_go
  exact frC3_go_L7 _ _ o1 _ h_o1 ((by
  intro m5 hm_m5
  refine Fr.bd (frC8_hasNext _ o1 h_o1 hm_m5) (fun r6 m7 hm_m7 => ?_)
  refine Fr.ite (fun _ => ?_) (fun _ => ?_)
  · exact Fr.ok hm_m7
  · exact Fr.ok (frC_I (by have := kf8 h_o1; omega) hm_m7))) _ _ _ (frC_I (by decide) hm_m)
set_option maxRecDepth 100000 in
set_option maxHeartbeats 4000000 in
theorem frC4_listen_L77 {m0 : ev_M} (f : Nat) (k : ev_M → Option (Unit × ev_M)) (a4 : Int32) (a5 : Int32) (hk : ∀  (xm : ev_M), frC m0 xm → Fr (frC m0) (k xm)) : ∀ (n : Nat) (a6 : Int32) (m : ev_M), frC m0 m → Fr (frC m0) (FX4_listen_L77 f k a4 a5 n a6 m) := by
  intro n
  induction n with
  | zero => intros; exact Fr.none
  | succ n ih =>
    intro a6 m hm_m
    rw [FX4_listen_L77]
    refine Fr.bd (frC3_towers _ hm_m) (fun r9 m10 hm_m10 => ?_)
    refine Fr.ite (fun _ => ?_) (fun _ => ?_)
    · exact hk _ hm_m10
    · refine Fr.bd (frC4_indexOf _ _ _ _ hm_m10) (fun r11 m12 hm_m12 => ?_)
      refine Fr.ite (fun _ => ?_) (fun _ => ?_)
      · refine Fr.ite (fun _ => ?_) (fun _ => ?_)
        · exact ih _ (frC_I (by decide) hm_m12)
        · exact Fr.none
      · exact Fr.none
set_option maxRecDepth 100000 in
set_option maxHeartbeats 4000000 in
theorem frC4_listen_L53 {m0 : ev_M} (f : Nat) (k : ev_M → Option (Unit × ev_M)) (a4 : Int32) (hk : ∀  (xm : ev_M), frC m0 xm → Fr (frC m0) (k xm)) : ∀ (n : Nat) (a5 : Int32) (m : ev_M), frC m0 m → Fr (frC m0) (FX4_listen_L53 f k a4 n a5 m) := by
  intro n
  induction n with
  | zero => intros; exact Fr.none
  | succ n ih =>
    intro a5 m hm_m
    rw [FX4_listen_L53]
    refine Fr.ite (fun _ => ?_) (fun _ => ?_)
    · exact hk _ hm_m
    · refine Fr.bd (frC3_go _ 34 _ (by decide) hm_m) (fun _ m8 hm_m8 => ?_)
      exact frC4_listen_L77 _ _ _ _ ((by
  intro m13 hm_m13
  exact ih _ hm_m13)) _ _ _ hm_m8
set_option maxRecDepth 100000 in
set_option maxHeartbeats 4000000 in
theorem frC4_listen_L24 {m0 : ev_M} (f : Nat) (k : ev_M → Option (Unit × ev_M)) (o1 : Nat) (a2 : Int32) (h_o1 : isK 8 o1) (hk : ∀  (xm : ev_M), frC m0 xm → Fr (frC m0) (k xm)) : ∀ (n : Nat) (a4 : Int32) (m : ev_M), frC m0 m → Fr (frC m0) (FX4_listen_L24 f k o1 a2 n a4 m) := by
  intro n
  induction n with
  | zero => intros; exact Fr.none
  | succ n ih =>
    intro a4 m hm_m
    rw [FX4_listen_L24]
    refine Fr.ite (fun _ => ?_) (fun _ => ?_)
    · exact hk _ hm_m
    · refine Fr.bd (frC8_copy _ 34 o1 (by decide) h_o1 hm_m) (fun _ m6 hm_m6 => ?_)
      refine Fr.ite (fun _ => ?_) (fun _ => ?_)
      · exact frC4_listen_L53 _ _ _ ((by
  intro m14 hm_m14
  exact ih _ hm_m14)) _ _ _ (frC_I (by decide) hm_m6)
      · exact Fr.none
set_option maxRecDepth 100000 in
set_option maxHeartbeats 4000000 in
theorem frC4_listen {m0 : ev_M} (f : Nat) (o1 : Nat) (a2 : Int32) (a3 : Int32) {m : ev_M} (h_o1 : isK 8 o1) (hm_m : frC m0 m) : Fr (frC m0) (FX4_listen f o1 a2 a3 m) := by
  unfold FX4_listen
  refine Fr.bd (FRJ9_min_7cf53C _ _ _ hm_m) (fun r1 m2 hm_m2 => ?_)
  refine Fr.bd (FRJ9_min_7cf53C _ _ _ hm_m2) (fun r3 m4 hm_m4 => ?_)
  exact frC4_listen_L24 _ _ o1 _ h_o1 ((by
  intro m15 hm_m15
  exact Fr.ok hm_m15)) _ _ _ (frC_I (by decide) hm_m4)
set_option maxRecDepth 100000 in
set_option maxHeartbeats 4000000 in
theorem frC4_seekTelling_J79 {m0 : ev_M} (f : Nat) (kt29 : Int32 → ev_M → Option (Unit × ev_M)) (a5 : Int32) {m : ev_M} (hkt29 : ∀ (x0 : Int32) (xm : ev_M), frC m0 xm → Fr (frC m0) (kt29 x0 xm)) (hm_m : frC m0 m) : Fr (frC m0) (FX4_seekTelling_J79 f kt29 a5 m) := by
  unfold FX4_seekTelling_J79
  exact hkt29 _ _ hm_m
set_option maxRecDepth 100000 in
set_option maxHeartbeats 4000000 in
theorem frC4_seekTelling_L29 {m0 : ev_M} (f : Nat) (k : ev_M → Option (Unit × ev_M)) (a3 : Int32) (a4 : Int32) (hk : ∀  (xm : ev_M), frC m0 xm → Fr (frC m0) (k xm)) : ∀ (n : Nat) (a5 : Int32) (m : ev_M), frC m0 m → Fr (frC m0) (FX4_seekTelling_L29 f k a3 a4 n a5 m) := by
  intro n
  induction n with
  | zero => intros; exact Fr.none
  | succ n ih =>
    intro a5 m hm_m
    rw [FX4_seekTelling_L29]
    refine Fr.bd (frC3_towers _ hm_m) (fun r3 m4 hm_m4 => ?_)
    refine Fr.ite (fun _ => ?_) (fun _ => ?_)
    · exact hk _ hm_m4
    · refine Fr.bd (frC4_mostAlike _ _ _ _ hm_m4) (fun r5 m6 hm_m6 => ?_)
      refine Fr.ite (fun _ => ?_) (fun _ => ?_)
      · exact frC4_seekTelling_J79 _ _ _ ih hm_m6
      · exact frC4_seekTelling_J79 _ _ _ ih (frC_I (by decide) (frC_I (by decide) (frC_I (by decide) hm_m6)))
set_option maxRecDepth 100000 in
set_option maxHeartbeats 4000000 in
theorem frC4_seekTelling_L17 {m0 : ev_M} (f : Nat) (k : ev_M → Option (Unit × ev_M)) (a3 : Int32) (hk : ∀  (xm : ev_M), frC m0 xm → Fr (frC m0) (k xm)) : ∀ (n : Nat) (a4 : Int32) (m : ev_M), frC m0 m → Fr (frC m0) (FX4_seekTelling_L17 f k a3 n a4 m) := by
  intro n
  induction n with
  | zero => intros; exact Fr.none
  | succ n ih =>
    intro a4 m hm_m
    rw [FX4_seekTelling_L17]
    refine Fr.ite (fun _ => ?_) (fun _ => ?_)
    · exact hk _ hm_m
    · exact frC4_seekTelling_L29 _ _ _ _ ((by
  intro m7 hm_m7
  exact ih _ hm_m7)) _ _ _ hm_m
set_option maxRecDepth 100000 in
set_option maxHeartbeats 4000000 in
theorem frC4_seekTelling {m0 : ev_M} (f : Nat) (o1 : Nat) (a2 : Int32) (a3 : Int32) {m : ev_M} (h_o1 : isK 8 o1) (hm_m : frC m0 m) : Fr (frC m0) (FX4_seekTelling f o1 a2 a3 m) := by
  unfold FX4_seekTelling
  refine Fr.bd (frC4_listen _ o1 _ _ h_o1 hm_m) (fun _ m2 hm_m2 => ?_)
  exact frC4_seekTelling_L17 _ _ _ ((by
  intro m8 hm_m8
  exact Fr.ok hm_m8)) _ _ _ (frC_I (by decide) hm_m2)
set_option maxRecDepth 100000 in
set_option maxHeartbeats 4000000 in
theorem frC7_lookAhead_J132 {m0 : ev_M} (f : Nat) (kt68 : Int32 → ev_M → Option (Unit × ev_M)) (a4 : Int32) (s1 : Int32) (s2 : Int32) {m : ev_M} (hkt68 : ∀ (x0 : Int32) (xm : ev_M), frC m0 xm → Fr (frC m0) (kt68 x0 xm)) (hm_m : frC m0 m) : Fr (frC m0) (FX7_lookAhead_J132 f kt68 a4 s1 s2 m) := by
  unfold FX7_lookAhead_J132
  refine Fr.ite (fun _ => ?_) (fun _ => ?_)
  · exact hkt68 _ _ (frC_I (by decide) hm_m)
  · exact Fr.none
set_option maxRecDepth 100000 in
set_option maxHeartbeats 4000000 in
theorem frC7_lookAhead_L68 {m0 : ev_M} (f : Nat) (k : ev_M → Option (Unit × ev_M)) (a3 : Int32) (hk : ∀  (xm : ev_M), frC m0 xm → Fr (frC m0) (k xm)) : ∀ (n : Nat) (a4 : Int32) (m : ev_M), frC m0 m → Fr (frC m0) (FX7_lookAhead_L68 f k a3 n a4 m) := by
  intro n
  induction n with
  | zero => intros; exact Fr.none
  | succ n ih =>
    intro a4 m hm_m
    rw [FX7_lookAhead_L68]
    refine Fr.bd (frC3_towers _ hm_m) (fun r9 m10 hm_m10 => ?_)
    refine Fr.ite (fun _ => ?_) (fun _ => ?_)
    · exact hk _ hm_m10
    · refine Fr.ite (fun _ => ?_) (fun _ => ?_)
      · refine Fr.ite (fun _ => ?_) (fun _ => ?_)
        · refine Fr.ite (fun _ => ?_) (fun _ => ?_)
          · refine Fr.ite (fun _ => ?_) (fun _ => ?_)
            · exact frC7_lookAhead_J132 _ _ _ _ _ ih (frC_I (by decide) hm_m10)
            · exact Fr.none
          · refine Fr.ite (fun _ => ?_) (fun _ => ?_)
            · exact frC7_lookAhead_J132 _ _ _ _ _ ih (frC_I (by decide) hm_m10)
            · exact Fr.none
        · exact Fr.none
      · exact Fr.none
set_option maxRecDepth 100000 in
set_option maxHeartbeats 4000000 in
theorem frC7_lookAhead_L45 {m0 : ev_M} (f : Nat) (k : ev_M → Option (Unit × ev_M)) (hk : ∀  (xm : ev_M), frC m0 xm → Fr (frC m0) (k xm)) : ∀ (n : Nat) (a3 : Int32) (m : ev_M), frC m0 m → Fr (frC m0) (FX7_lookAhead_L45 f k n a3 m) := by
  intro n
  induction n with
  | zero => intros; exact Fr.none
  | succ n ih =>
    intro a3 m hm_m
    rw [FX7_lookAhead_L45]
    refine Fr.ite (fun _ => ?_) (fun _ => ?_)
    · exact hk _ hm_m
    · refine Fr.bd (frC3_go _ 25 _ (by decide) hm_m) (fun _ m8 hm_m8 => ?_)
      exact frC7_lookAhead_L68 _ _ _ ((by
  intro m11 hm_m11
  exact ih _ hm_m11)) _ _ _ hm_m8
set_option maxRecDepth 100000 in
set_option maxHeartbeats 4000000 in
theorem frC7_lookAhead {m0 : ev_M} (f : Nat) (o1 : Nat) {m : ev_M} (h_o1 : isK 8 o1) (hm_m : frC m0 m) : Fr (frC m0) (FX7_lookAhead f o1 m) := by
  unfold FX7_lookAhead
  refine Fr.bd (FRJ9_min_7cf53C _ _ _ hm_m) (fun r1 m2 hm_m2 => ?_)
  refine Fr.bd (FRJ9_min_7cf53C _ _ _ hm_m2) (fun r3 m4 hm_m4 => ?_)
  refine Fr.bd (frC8_copy _ 25 o1 (by decide) h_o1 (frC_I (by decide) hm_m4)) (fun _ m6 hm_m6 => ?_)
  exact frC7_lookAhead_L45 _ _ ((by
  intro m12 hm_m12
  exact Fr.ok hm_m12)) _ _ _ hm_m6
set_option maxRecDepth 100000 in
set_option maxHeartbeats 4000000 in
theorem frC11_fire_L22 {m0 : ev_M} (f : Nat) (k : ev_M → Option (Int32 × ev_M)) (hk : ∀  (xm : ev_M), frC m0 xm → Fr (frC m0) (k xm)) : ∀ (n : Nat) (a1 : Int32) (m : ev_M), frC m0 m → Fr (frC m0) (FX11_fire_L22 f k n a1 m) := by
  intro n
  induction n with
  | zero => intros; exact Fr.none
  | succ n ih =>
    intro a1 m hm_m
    rw [FX11_fire_L22]
    refine Fr.ite (fun _ => ?_) (fun _ => ?_)
    · exact hk _ hm_m
    · refine Fr.bd (frC8_hasNext _ 106 (by decide) hm_m) (fun r5 m6 hm_m6 => ?_)
      refine Fr.ite (fun _ => ?_) (fun _ => ?_)
      · exact hk _ hm_m6
      · refine Fr.bd (frC3_go _ 106 _ (by decide) hm_m6) (fun _ m8 hm_m8 => ?_)
        refine Fr.bd (frC3_isFire _ hm_m8) (fun r9 m10 hm_m10 => ?_)
        refine Fr.ite (fun _ => ?_) (fun _ => ?_)
        · exact ih _ hm_m10
        · exact Fr.ok hm_m10
set_option maxRecDepth 100000 in
set_option maxHeartbeats 4000000 in
theorem frC11_fire {m0 : ev_M} (f : Nat) {m : ev_M}  (hm_m : frC m0 m) : Fr (frC m0) (FX11_fire f m) := by
  unfold FX11_fire
  refine Fr.bd (frC11_isTold _ hm_m) (fun r1 m2 hm_m2 => ?_)
  refine Fr.ite (fun _ => ?_) (fun _ => ?_)
  · exact Fr.ok hm_m2
  · refine Fr.bd (frC8_copy _ 106 103 (by decide) (by decide) hm_m2) (fun _ m4 hm_m4 => ?_)
    exact frC11_fire_L22 _ _ ((by
  intro m11 hm_m11
  exact Fr.ok hm_m11)) _ _ _ hm_m4
set_option maxRecDepth 100000 in
set_option maxHeartbeats 4000000 in
theorem frC11_settles_L51 {m0 : ev_M} (f : Nat) (k : Int32 → Int32 → ev_M → Option (Int32 × ev_M)) (hk : ∀ (x0 : Int32) (x1 : Int32) (xm : ev_M), frC m0 xm → Fr (frC m0) (k x0 x1 xm)) : ∀ (n : Nat) (a2 : Int32) (m : ev_M), frC m0 m → Fr (frC m0) (FX11_settles_L51 f k n a2 m) := by
  intro n
  induction n with
  | zero => intros; exact Fr.none
  | succ n ih =>
    intro a2 m hm_m
    rw [FX11_settles_L51]
    refine Fr.ite (fun _ => ?_) (fun _ => ?_)
    · exact Fr.ok hm_m
    · refine Fr.bd (frC8_hasNext _ 106 (by decide) hm_m) (fun r8 m9 hm_m9 => ?_)
      refine Fr.ite (fun _ => ?_) (fun _ => ?_)
      · exact Fr.ok hm_m9
      · refine Fr.bd (frC3_go _ 106 _ (by decide) hm_m9) (fun _ m11 hm_m11 => ?_)
        refine Fr.ite (fun hk1 => ?_) (fun _ => ?_)
        · refine Fr.bd (frC8_feature _ 106 _ (by decide) hm_m11) (fun r13 m14 hm_m14 => ?_)
          refine Fr.ite (fun _ => ?_) (fun _ => ?_)
          · refine Fr.bd (frC11_indexBelow _ _ (frC_L (by decide) hm_m14)) (fun r15 m16 hm_m16 => ?_)
            refine Fr.ite (fun _ => ?_) (fun _ => ?_)
            · exact ih _ hm_m16
            · exact hk _ _ _ hm_m16
          · exact Fr.none
        · exact Fr.none
set_option maxRecDepth 100000 in
set_option maxHeartbeats 4000000 in
theorem frC11_settles {m0 : ev_M} (f : Nat) (a1 : Int32) {m : ev_M}  (hm_m : frC m0 m) : Fr (frC m0) (FX11_settles f a1 m) := by
  unfold FX11_settles
  refine Fr.bd (frC11_isTold _ hm_m) (fun r1 m2 hm_m2 => ?_)
  refine Fr.ite (fun _ => ?_) (fun _ => ?_)
  · exact Fr.ok hm_m2
  · refine Fr.ite (fun _ => ?_) (fun _ => ?_)
    · exact Fr.ok hm_m2
    · refine Fr.ite (fun _ => ?_) (fun _ => ?_)
      · refine Fr.bd (frC8_copy _ 106 103 (by decide) (by decide) hm_m2) (fun _ m4 hm_m4 => ?_)
        refine Fr.ite (fun hk1 => ?_) (fun _ => ?_)
        · refine Fr.bd (frC8_feature _ 106 _ (by decide) hm_m4) (fun r6 m7 hm_m7 => ?_)
          exact frC11_settles_L51 _ _ ((by
  intro e17 e18 m19 hm_m19
  refine Fr.ite (fun _ => ?_) (fun _ => ?_)
  · exact Fr.ok hm_m19
  · exact Fr.ok hm_m19)) _ _ _ (frC_L (by decide) hm_m7)
        · exact Fr.none
      · exact Fr.ok hm_m2
set_option maxRecDepth 100000 in
set_option maxHeartbeats 4000000 in
theorem frC11_rule_J80 {m0 : ev_M} (f : Nat) (kt47 : Int32 → Int32 → ev_M → Option (Int32 × ev_M)) (a3 : Int32) (a4 : Int32) {m : ev_M} (hkt47 : ∀ (x0 : Int32) (x1 : Int32) (xm : ev_M), frC m0 xm → Fr (frC m0) (kt47 x0 x1 xm)) (hm_m : frC m0 m) : Fr (frC m0) (FX11_rule_J80 f kt47 a3 a4 m) := by
  unfold FX11_rule_J80
  exact hkt47 _ _ _ hm_m
set_option maxRecDepth 100000 in
set_option maxHeartbeats 4000000 in
theorem frC11_rule_L47 {m0 : ev_M} (f : Nat) (k : Int32 → ev_M → Option (Int32 × ev_M)) (a1 : Int32) (a2 : Int32) (hk : ∀ (x0 : Int32) (xm : ev_M), frC m0 xm → Fr (frC m0) (k x0 xm)) : ∀ (n : Nat) (a3 : Int32) (a4 : Int32) (m : ev_M), frC m0 m → Fr (frC m0) (FX11_rule_L47 f k a1 a2 n a3 a4 m) := by
  intro n
  induction n with
  | zero => intros; exact Fr.none
  | succ n ih =>
    intro a3 a4 m hm_m
    rw [FX11_rule_L47]
    refine Fr.ite (fun _ => ?_) (fun _ => ?_)
    · exact hk _ _ hm_m
    · refine Fr.bd (frC3_go _ 106 _ (by decide) hm_m) (fun _ m8 hm_m8 => ?_)
      refine Fr.bd (frC3_rowOf _ _ hm_m8) (fun r9 m10 hm_m10 => ?_)
      refine Fr.ite (fun _ => ?_) (fun _ => ?_)
      · exact frC11_rule_J80 _ _ _ _ ih hm_m10
      · exact frC11_rule_J80 _ _ _ _ ih hm_m10
set_option maxRecDepth 100000 in
set_option maxHeartbeats 4000000 in
theorem frC11_rule {m0 : ev_M} (f : Nat) (a1 : Int32) (a2 : Int32) {m : ev_M}  (hm_m : frC m0 m) : Fr (frC m0) (FX11_rule f a1 a2 m) := by
  unfold FX11_rule
  refine Fr.bd (frC11_isTold _ hm_m) (fun r1 m2 hm_m2 => ?_)
  refine Fr.ite (fun _ => ?_) (fun _ => ?_)
  · exact Fr.ok hm_m2
  · refine Fr.ite (fun _ => ?_) (fun _ => ?_)
    · exact Fr.ok hm_m2
    · refine Fr.ite (fun _ => ?_) (fun _ => ?_)
      · exact Fr.ok hm_m2
      · refine Fr.bd (frC11_canBeAhead _ _ _ _ hm_m2) (fun r3 m4 hm_m4 => ?_)
        refine Fr.ite (fun _ => ?_) (fun _ => ?_)
        · exact Fr.ok hm_m4
        · refine Fr.bd (frC8_copy _ 106 103 (by decide) (by decide) hm_m4) (fun _ m6 hm_m6 => ?_)
          exact frC11_rule_L47 _ _ _ _ ((by
  intro e11 m12 hm_m12
  exact Fr.ok hm_m12)) _ _ _ _ hm_m6
set_option maxRecDepth 100000 in
set_option maxHeartbeats 4000000 in
theorem frC11_goAhead_L13 {m0 : ev_M} (f : Nat) (k : ev_M → Option (Unit × ev_M)) (a1 : Int32) (hk : ∀  (xm : ev_M), frC m0 xm → Fr (frC m0) (k xm)) : ∀ (n : Nat) (a2 : Int32) (m : ev_M), frC m0 m → Fr (frC m0) (FX11_goAhead_L13 f k a1 n a2 m) := by
  intro n
  induction n with
  | zero => intros; exact Fr.none
  | succ n ih =>
    intro a2 m hm_m
    rw [FX11_goAhead_L13]
    refine Fr.ite (fun _ => ?_) (fun _ => ?_)
    · exact hk _ hm_m
    · refine Fr.bd (frC3_go _ 106 _ (by decide) hm_m) (fun _ m4 hm_m4 => ?_)
      exact ih _ hm_m4
set_option maxRecDepth 100000 in
set_option maxHeartbeats 4000000 in
theorem frC11_goAhead {m0 : ev_M} (f : Nat) (a1 : Int32) {m : ev_M}  (hm_m : frC m0 m) : Fr (frC m0) (FX11_goAhead f a1 m) := by
  unfold FX11_goAhead
  refine Fr.bd (frC8_copy _ 106 103 (by decide) (by decide) hm_m) (fun _ m2 hm_m2 => ?_)
  exact frC11_goAhead_L13 _ _ _ ((by
  intro m5 hm_m5
  exact Fr.ok hm_m5)) _ _ _ hm_m2
set_option maxRecDepth 100000 in
set_option maxHeartbeats 4000000 in
theorem frC11_goOn {m0 : ev_M} (f : Nat) {m : ev_M}  (hm_m : frC m0 m) : Fr (frC m0) (FX11_goOn f m) := by
  unfold FX11_goOn
  refine Fr.bd (frC3_go _ 103 _ (by decide) hm_m) (fun _ m2 hm_m2 => ?_)
  refine Fr.ite (fun hk1 => ?_) (fun _ => ?_)
  · refine Fr.bd (frC3_rowOf _ _ hm_m2) (fun r4 m5 hm_m5 => ?_)
    refine Fr.ite (fun _ => ?_) (fun _ => ?_)
    · exact Fr.ok hm_m5
    · refine Fr.bd (frC3_doubtfulOnes _ hm_m5) (fun r6 m7 hm_m7 => ?_)
      refine Fr.bd (frC6_addFire _ _ _ _ _ hm_m7) (fun r8 m9 hm_m9 => ?_)
      exact Fr.ok (frC_I (by decide) hm_m9)
  · exact Fr.none
set_option maxRecDepth 100000 in
set_option maxHeartbeats 4000000 in
theorem frC0_fires_J45 {m0 : ev_M} (f : Nat) (kt11 : Int32 → ev_M → Option (Int32 × ev_M)) (a5 : Int32) {m : ev_M} (hkt11 : ∀ (x0 : Int32) (xm : ev_M), frC m0 xm → Fr (frC m0) (kt11 x0 xm)) (hm_m : frC m0 m) : Fr (frC m0) (FX0_fires_J45 f kt11 a5 m) := by
  unfold FX0_fires_J45
  exact hkt11 _ _ hm_m
set_option maxRecDepth 100000 in
set_option maxHeartbeats 4000000 in
theorem frC0_fires_L11 {m0 : ev_M} (f : Nat) (k : ev_M → Option (Int32 × ev_M)) (a3 : Int32) (hk : ∀  (xm : ev_M), frC m0 xm → Fr (frC m0) (k xm)) : ∀ (n : Nat) (a5 : Int32) (m : ev_M), frC m0 m → Fr (frC m0) (FX0_fires_L11 f k a3 n a5 m) := by
  intro n
  induction n with
  | zero => intros; exact Fr.none
  | succ n ih =>
    intro a5 m hm_m
    rw [FX0_fires_L11]
    refine Fr.bd (frC3_towers _ hm_m) (fun r3 m4 hm_m4 => ?_)
    refine Fr.ite (fun _ => ?_) (fun _ => ?_)
    · exact hk _ hm_m4
    · refine Fr.ite (fun _ => ?_) (fun _ => ?_)
      · refine Fr.ite (fun _ => ?_) (fun _ => ?_)
        · exact frC0_fires_J45 _ _ _ ih (frC_I (by decide) hm_m4)
        · exact Fr.none
      · exact frC0_fires_J45 _ _ _ ih hm_m4
set_option maxRecDepth 100000 in
set_option maxHeartbeats 4000000 in
theorem frC0_fires_J79 {m0 : ev_M} (f : Nat) (kt54 : Int32 → ev_M → Option (Int32 × ev_M)) (a5 : Int32) (s2 : Int32) {m : ev_M} (hkt54 : ∀ (x0 : Int32) (xm : ev_M), frC m0 xm → Fr (frC m0) (kt54 x0 xm)) (hm_m : frC m0 m) : Fr (frC m0) (FX0_fires_J79 f kt54 a5 s2 m) := by
  unfold FX0_fires_J79
  refine Fr.bd (frC3_go _ 30 _ (by decide) hm_m) (fun _ m7 hm_m7 => ?_)
  refine Fr.bd (frC3_isFire _ hm_m7) (fun r8 m9 hm_m9 => ?_)
  refine Fr.ite (fun _ => ?_) (fun _ => ?_)
  · exact hkt54 _ _ hm_m9
  · exact Fr.ok hm_m9
set_option maxRecDepth 100000 in
set_option maxHeartbeats 4000000 in
theorem frC0_fires_L54 {m0 : ev_M} (f : Nat) (k : ev_M → Option (Int32 × ev_M)) (a2 : Int32) (a4 : Int32) (hk : ∀  (xm : ev_M), frC m0 xm → Fr (frC m0) (k xm)) : ∀ (n : Nat) (a5 : Int32) (m : ev_M), frC m0 m → Fr (frC m0) (FX0_fires_L54 f k a2 a4 n a5 m) := by
  intro n
  induction n with
  | zero => intros; exact Fr.none
  | succ n ih =>
    intro a5 m hm_m
    rw [FX0_fires_L54]
    refine Fr.ite (fun _ => ?_) (fun _ => ?_)
    · exact hk _ hm_m
    · refine Fr.ite (fun _ => ?_) (fun _ => ?_)
      · exact frC0_fires_J79 _ _ _ _ ih hm_m
      · exact frC0_fires_J79 _ _ _ _ ih hm_m
set_option maxRecDepth 100000 in
set_option maxHeartbeats 4000000 in
theorem frC0_fires {m0 : ev_M} (f : Nat) (o1 : Nat) (a2 : Int32) (a3 : Int32) (a4 : Int32) {m : ev_M} (h_o1 : isK 8 o1) (hm_m : frC m0 m) : Fr (frC m0) (FX0_fires f o1 a2 a3 a4 m) := by
  unfold FX0_fires
  refine Fr.bd (frC8_copy _ 30 o1 (by decide) h_o1 hm_m) (fun _ m2 hm_m2 => ?_)
  exact frC0_fires_L11 _ _ _ ((by
  intro m5 hm_m5
  exact frC0_fires_L54 _ _ _ _ ((by
  intro m10 hm_m10
  exact Fr.ok hm_m10)) _ _ _ hm_m5)) _ _ _ hm_m2
set_option maxRecDepth 100000 in
set_option maxHeartbeats 4000000 in
theorem frC0_tryRounds_L4 {m0 : ev_M} (f : Nat) (k : Int32 → ev_M → Option (Int32 × ev_M)) (a1 : Int32) (hk : ∀ (x0 : Int32) (xm : ev_M), frC m0 xm → Fr (frC m0) (k x0 xm)) : ∀ (n : Nat) (a2 : Int32) (a3 : Int32) (m : ev_M), frC m0 m → Fr (frC m0) (FX0_tryRounds_L4 f k a1 n a2 a3 m) := by
  intro n
  induction n with
  | zero => intros; exact Fr.none
  | succ n ih =>
    intro a2 a3 m hm_m
    rw [FX0_tryRounds_L4]
    refine Fr.ite (fun _ => ?_) (fun _ => ?_)
    · exact hk _ _ hm_m
    · refine Fr.bd (frC3_go _ 30 _ (by decide) hm_m) (fun _ m2 hm_m2 => ?_)
      refine Fr.bd (frC3_doubtfulOnes _ hm_m2) (fun r3 m4 hm_m4 => ?_)
      exact ih _ _ hm_m4
set_option maxRecDepth 100000 in
set_option maxHeartbeats 4000000 in
theorem frC0_tryRounds {m0 : ev_M} (f : Nat) (a1 : Int32) {m : ev_M}  (hm_m : frC m0 m) : Fr (frC m0) (FX0_tryRounds f a1 m) := by
  unfold FX0_tryRounds
  exact frC0_tryRounds_L4 _ _ _ ((by
  intro e5 m6 hm_m6
  exact Fr.ok hm_m6)) _ _ _ _ hm_m
set_option maxRecDepth 100000 in
set_option maxHeartbeats 4000000 in
theorem frC0_worstBySigh_J69 {m0 : ev_M} (f : Nat) (kt5 : Int32 → Int32 → ev_M → Option (Int32 × ev_M)) (a3 : Int32) (a4 : Int32) (s2 : Int32) {m : ev_M} (hkt5 : ∀ (x0 : Int32) (x1 : Int32) (xm : ev_M), frC m0 xm → Fr (frC m0) (kt5 x0 x1 xm)) (hm_m : frC m0 m) : Fr (frC m0) (FX0_worstBySigh_J69 f kt5 a3 a4 s2 m) := by
  unfold FX0_worstBySigh_J69
  refine Fr.bd (frC3_go _ 30 _ (by decide) hm_m) (fun _ m6 hm_m6 => ?_)
  refine Fr.bd (frC3_doubtfulOnes _ hm_m6) (fun r7 m8 hm_m8 => ?_)
  refine Fr.bd (FRJ9_max_7cf53C _ _ _ hm_m8) (fun r9 m10 hm_m10 => ?_)
  exact hkt5 _ _ _ hm_m10
set_option maxRecDepth 100000 in
set_option maxHeartbeats 4000000 in
theorem frC0_worstBySigh_J46 {m0 : ev_M} (f : Nat) (kt5 : Int32 → Int32 → ev_M → Option (Int32 × ev_M)) (a3 : Int32) (a4 : Int32) {m : ev_M} (hkt5 : ∀ (x0 : Int32) (x1 : Int32) (xm : ev_M), frC m0 xm → Fr (frC m0) (kt5 x0 x1 xm)) (hm_m : frC m0 m) : Fr (frC m0) (FX0_worstBySigh_J46 f kt5 a3 a4 m) := by
  unfold FX0_worstBySigh_J46
  refine Fr.ite (fun _ => ?_) (fun _ => ?_)
  · exact frC0_worstBySigh_J69 _ _ _ _ _ hkt5 hm_m
  · exact frC0_worstBySigh_J69 _ _ _ _ _ hkt5 hm_m
set_option maxRecDepth 100000 in
set_option maxHeartbeats 4000000 in
theorem frC0_worstBySigh_L5 {m0 : ev_M} (f : Nat) (k : Int32 → ev_M → Option (Int32 × ev_M)) (o1 : Nat) (a2 : Int32) (h_o1 : isK 8 o1) (hk : ∀ (x0 : Int32) (xm : ev_M), frC m0 xm → Fr (frC m0) (k x0 xm)) : ∀ (n : Nat) (a3 : Int32) (a4 : Int32) (m : ev_M), frC m0 m → Fr (frC m0) (FX0_worstBySigh_L5 f k o1 a2 n a3 a4 m) := by
  intro n
  induction n with
  | zero => intros; exact Fr.none
  | succ n ih =>
    intro a3 a4 m hm_m
    rw [FX0_worstBySigh_L5]
    refine Fr.bd (frC3_towers _ hm_m) (fun r1 m2 hm_m2 => ?_)
    refine Fr.ite (fun _ => ?_) (fun _ => ?_)
    · exact hk _ _ hm_m2
    · refine Fr.bd (frC8_copy _ 30 o1 (by decide) h_o1 hm_m2) (fun _ m4 hm_m4 => ?_)
      refine Fr.ite (fun _ => ?_) (fun _ => ?_)
      · exact frC0_worstBySigh_J46 _ _ _ _ ih hm_m4
      · refine Fr.ite (fun _ => ?_) (fun _ => ?_)
        · exact frC0_worstBySigh_J46 _ _ _ _ ih hm_m4
        · refine Fr.ite (fun _ => ?_) (fun _ => ?_)
          · exact frC0_worstBySigh_J46 _ _ _ _ ih (frC_I (by decide) hm_m4)
          · exact Fr.none
set_option maxRecDepth 100000 in
set_option maxHeartbeats 4000000 in
theorem frC0_worstBySigh {m0 : ev_M} (f : Nat) (o1 : Nat) (a2 : Int32) {m : ev_M} (h_o1 : isK 8 o1) (hm_m : frC m0 m) : Fr (frC m0) (FX0_worstBySigh f o1 a2 m) := by
  unfold FX0_worstBySigh
  exact frC0_worstBySigh_L5 _ _ o1 _ h_o1 ((by
  intro e11 m12 hm_m12
  exact Fr.ok hm_m12)) _ _ _ _ hm_m
set_option maxRecDepth 100000 in
set_option maxHeartbeats 4000000 in
theorem frC4_moodBits_J51 {m0 : ev_M} (f : Nat) (kt28 : Int32 → Int32 → ev_M → Option (Int32 × ev_M)) (a3 : Int32) (a4 : Int32) {m : ev_M} (hkt28 : ∀ (x0 : Int32) (x1 : Int32) (xm : ev_M), frC m0 xm → Fr (frC m0) (kt28 x0 x1 xm)) (hm_m : frC m0 m) : Fr (frC m0) (FX4_moodBits_J51 f kt28 a3 a4 m) := by
  unfold FX4_moodBits_J51
  exact hkt28 _ _ _ hm_m
set_option maxRecDepth 100000 in
set_option maxHeartbeats 4000000 in
theorem frC4_moodBits_L28 {m0 : ev_M} (f : Nat) (k : Int32 → ev_M → Option (Int32 × ev_M)) (hk : ∀ (x0 : Int32) (xm : ev_M), frC m0 xm → Fr (frC m0) (k x0 xm)) : ∀ (n : Nat) (a3 : Int32) (a4 : Int32) (m : ev_M), frC m0 m → Fr (frC m0) (FX4_moodBits_L28 f k n a3 a4 m) := by
  intro n
  induction n with
  | zero => intros; exact Fr.none
  | succ n ih =>
    intro a3 a4 m hm_m
    rw [FX4_moodBits_L28]
    refine Fr.ite (fun _ => ?_) (fun _ => ?_)
    · exact hk _ _ hm_m
    · refine Fr.bd (frC4_isAllSo _ _ hm_m) (fun r5 m6 hm_m6 => ?_)
      refine Fr.ite (fun _ => ?_) (fun _ => ?_)
      · exact frC4_moodBits_J51 _ _ _ _ ih hm_m6
      · exact frC4_moodBits_J51 _ _ _ _ ih hm_m6
set_option maxRecDepth 100000 in
set_option maxHeartbeats 4000000 in
theorem frC4_moodBits {m0 : ev_M} (f : Nat) (o1 : Nat) (a2 : Int32) {m : ev_M} (h_o1 : isK 8 o1) (hm_m : frC m0 m) : Fr (frC m0) (FX4_moodBits f o1 a2 m) := by
  unfold FX4_moodBits
  refine Fr.ite (fun _ => ?_) (fun _ => ?_)
  · exact Fr.ok hm_m
  · refine Fr.bd (frC4_farthestSeen _ hm_m) (fun r1 m2 hm_m2 => ?_)
    refine Fr.bd (frC4_listen _ o1 _ _ h_o1 hm_m2) (fun _ m4 hm_m4 => ?_)
    exact frC4_moodBits_L28 _ _ ((by
  intro e7 m8 hm_m8
  exact Fr.ok hm_m8)) _ _ _ _ hm_m4
set_option maxRecDepth 100000 in
set_option maxHeartbeats 4000000 in
theorem frC7_answer_L34 {m0 : ev_M} (f : Nat) (k : Int64 → ev_M → Option (Int64 × ev_M)) (o1 : Nat) (h_o1 : isK 8 o1) (hk : ∀ (x0 : Int64) (xm : ev_M), frC m0 xm → Fr (frC m0) (k x0 xm)) : ∀ (n : Nat) (a2 : Int64) (a4 : Int32) (m : ev_M), frC m0 m → Fr (frC m0) (FX7_answer_L34 f k o1 n a2 a4 m) := by
  intro n
  induction n with
  | zero => intros; exact Fr.none
  | succ n ih =>
    intro a2 a4 m hm_m
    rw [FX7_answer_L34]
    refine Fr.bd (frC3_towers _ hm_m) (fun r3 m4 hm_m4 => ?_)
    refine Fr.ite (fun _ => ?_) (fun _ => ?_)
    · exact hk _ _ hm_m4
    · refine Fr.bd (frC7_setValues _ o1 _ h_o1 hm_m4) (fun _ m6 hm_m6 => ?_)
      refine Fr.bd (frC5_work _ 23 _ _ (by decide) hm_m6) (fun r7 m8 hm_m8 => ?_)
      refine Fr.bd (frC7_joined _ _ _ _ hm_m8) (fun r9 m10 hm_m10 => ?_)
      exact ih _ _ hm_m10
set_option maxRecDepth 100000 in
set_option maxHeartbeats 4000000 in
theorem frC7_answer_J30 {m0 : ev_M} (f : Nat) (o1 : Nat) (s0 : Int64) {m : ev_M} (h_o1 : isK 8 o1) (hm_m : frC m0 m) : Fr (frC m0) (FX7_answer_J30 f o1 s0 m) := by
  unfold FX7_answer_J30
  exact frC7_answer_L34 _ _ o1 h_o1 ((by
  intro e11 m12 hm_m12
  exact Fr.ok hm_m12)) _ _ _ _ hm_m
set_option maxRecDepth 100000 in
set_option maxHeartbeats 4000000 in
theorem frC7_answer_J23 {m0 : ev_M} (f : Nat) (o1 : Nat) {m : ev_M} (h_o1 : isK 8 o1) (hm_m : frC m0 m) : Fr (frC m0) (FX7_answer_J23 f o1 m) := by
  unfold FX7_answer_J23
  exact frC7_answer_J30 _ o1 _ h_o1 hm_m
set_option maxRecDepth 100000 in
set_option maxHeartbeats 4000000 in
theorem frC7_answer {m0 : ev_M} (f : Nat) (o1 : Nat) {m : ev_M} (h_o1 : isK 8 o1) (hm_m : frC m0 m) : Fr (frC m0) (FX7_answer f o1 m) := by
  unfold FX7_answer
  refine Fr.bd (frC7_lookAhead _ o1 h_o1 hm_m) (fun _ m2 hm_m2 => ?_)
  refine Fr.ite (fun _ => ?_) (fun _ => ?_)
  · exact frC7_answer_J23 _ o1 h_o1 hm_m2
  · refine Fr.ite (fun _ => ?_) (fun _ => ?_)
    · exact frC7_answer_J23 _ o1 h_o1 hm_m2
    · exact frC7_answer_J30 _ o1 _ h_o1 hm_m2
set_option maxRecDepth 100000 in
set_option maxHeartbeats 4000000 in
theorem frC11_tone {m0 : ev_M} (f : Nat) (a1 : Int32) (a2 : Int32) {m : ev_M}  (hm_m : frC m0 m) : Fr (frC m0) (FX11_tone f a1 a2 m) := by
  unfold FX11_tone
  refine Fr.bd (frC11_isTower _ _ hm_m) (fun r1 m2 hm_m2 => ?_)
  refine Fr.ite (fun _ => ?_) (fun _ => ?_)
  · exact Fr.ok hm_m2
  · refine Fr.bd (frC11_comes _ _ hm_m2) (fun r3 m4 hm_m4 => ?_)
    refine Fr.ite (fun _ => ?_) (fun _ => ?_)
    · exact Fr.ok hm_m4
    · refine Fr.bd (frC11_goAhead _ _ hm_m4) (fun _ m6 hm_m6 => ?_)
      refine Fr.ite (fun _ => ?_) (fun _ => ?_)
      · exact Fr.ok hm_m6
      · exact Fr.none
set_option maxRecDepth 100000 in
set_option maxHeartbeats 4000000 in
theorem frC11_mood {m0 : ev_M} (f : Nat) (a1 : Int32) (a2 : Int32) {m : ev_M}  (hm_m : frC m0 m) : Fr (frC m0) (FX11_mood f a1 a2 m) := by
  unfold FX11_mood
  refine Fr.bd (frC11_isTower _ _ hm_m) (fun r1 m2 hm_m2 => ?_)
  refine Fr.ite (fun _ => ?_) (fun _ => ?_)
  · exact Fr.ok hm_m2
  · refine Fr.bd (frC11_canBeAhead _ _ _ _ hm_m2) (fun r3 m4 hm_m4 => ?_)
    refine Fr.ite (fun _ => ?_) (fun _ => ?_)
    · exact Fr.ok hm_m4
    · refine Fr.bd (frC11_goAhead _ _ hm_m4) (fun _ m6 hm_m6 => ?_)
      refine Fr.ite (fun _ => ?_) (fun _ => ?_)
      · exact Fr.ok hm_m6
      · exact Fr.none
set_option maxRecDepth 100000 in
set_option maxHeartbeats 4000000 in
theorem frC11_doubts {m0 : ev_M} (f : Nat) (a1 : Int32) {m : ev_M}  (hm_m : frC m0 m) : Fr (frC m0) (FX11_doubts f a1 m) := by
  unfold FX11_doubts
  refine Fr.bd (frC11_isTold _ hm_m) (fun r1 m2 hm_m2 => ?_)
  refine Fr.ite (fun _ => ?_) (fun _ => ?_)
  · exact Fr.ok hm_m2
  · refine Fr.bd (frC11_comes _ _ hm_m2) (fun r3 m4 hm_m4 => ?_)
    refine Fr.ite (fun _ => ?_) (fun _ => ?_)
    · exact Fr.ok hm_m4
    · refine Fr.bd (frC11_goAhead _ _ hm_m4) (fun _ m6 hm_m6 => ?_)
      refine Fr.bd (frC3_doubtfulOnes _ hm_m6) (fun r7 m8 hm_m8 => ?_)
      exact Fr.ok hm_m8
set_option maxRecDepth 100000 in
set_option maxHeartbeats 4000000 in
theorem frC11_moods {m0 : ev_M} (f : Nat) (a1 : Int32) {m : ev_M}  (hm_m : frC m0 m) : Fr (frC m0) (FX11_moods f a1 m) := by
  unfold FX11_moods
  refine Fr.bd (frC11_isTower _ _ hm_m) (fun r1 m2 hm_m2 => ?_)
  refine Fr.ite (fun _ => ?_) (fun _ => ?_)
  · exact Fr.ok hm_m2
  · refine Fr.bd (frC4_moodBits _ 103 _ (by decide) hm_m2) (fun r3 m4 hm_m4 => ?_)
    exact Fr.ok hm_m4
set_option maxRecDepth 100000 in
set_option maxHeartbeats 4000000 in
theorem frC11_tells {m0 : ev_M} (f : Nat) (a1 : Int32) (a2 : Int32) {m : ev_M}  (hm_m : frC m0 m) : Fr (frC m0) (FX11_tells f a1 a2 m) := by
  unfold FX11_tells
  refine Fr.bd (frC11_isTower _ _ hm_m) (fun r1 m2 hm_m2 => ?_)
  refine Fr.ite (fun _ => ?_) (fun _ => ?_)
  · exact Fr.ok hm_m2
  · refine Fr.ite (fun _ => ?_) (fun _ => ?_)
    · exact Fr.ok hm_m2
    · refine Fr.ite (fun _ => ?_) (fun _ => ?_)
      · refine Fr.bd (frC4_moodBits _ 103 _ (by decide) hm_m2) (fun r3 m4 hm_m4 => ?_)
        refine Fr.ite (fun _ => ?_) (fun _ => ?_)
        · exact Fr.ok hm_m4
        · refine Fr.bd (frC8_hasNext _ 103 (by decide) hm_m4) (fun r5 m6 hm_m6 => ?_)
          refine Fr.ite (fun _ => ?_) (fun _ => ?_)
          · exact Fr.ok hm_m6
          · refine Fr.bd (frC4_seekTelling _ 103 _ _ (by decide) hm_m6) (fun _ m8 hm_m8 => ?_)
            refine Fr.ite (fun _ => ?_) (fun _ => ?_)
            · exact Fr.ok hm_m8
            · refine Fr.ite (fun _ => ?_) (fun _ => ?_)
              · exact Fr.ok hm_m8
              · exact Fr.ok hm_m8
      · exact Fr.ok hm_m2
set_option maxRecDepth 100000 in
set_option maxHeartbeats 4000000 in
theorem frC11_rounds_L31 {m0 : ev_M} (f : Nat) (k : Int32 → ev_M → Option (Int32 × ev_M)) (a1 : Int32) (hk : ∀ (x0 : Int32) (xm : ev_M), frC m0 xm → Fr (frC m0) (k x0 xm)) : ∀ (n : Nat) (a2 : Int32) (a3 : Int32) (m : ev_M), frC m0 m → Fr (frC m0) (FX11_rounds_L31 f k a1 n a2 a3 m) := by
  intro n
  induction n with
  | zero => intros; exact Fr.none
  | succ n ih =>
    intro a2 a3 m hm_m
    rw [FX11_rounds_L31]
    refine Fr.ite (fun _ => ?_) (fun _ => ?_)
    · exact hk _ _ hm_m
    · refine Fr.bd (frC11_goOn _ hm_m) (fun r5 m6 hm_m6 => ?_)
      exact ih _ _ hm_m6
set_option maxRecDepth 100000 in
set_option maxHeartbeats 4000000 in
theorem frC11_rounds {m0 : ev_M} (f : Nat) (a1 : Int32) {m : ev_M}  (hm_m : frC m0 m) : Fr (frC m0) (FX11_rounds f a1 m) := by
  unfold FX11_rounds
  refine Fr.bd (frC11_canGo _ _ hm_m) (fun r1 m2 hm_m2 => ?_)
  refine Fr.ite (fun _ => ?_) (fun _ => ?_)
  · refine Fr.bd (frC11_refuse _ _ hm_m2) (fun r9 m10 hm_m10 => ?_)
    exact Fr.ok hm_m10
  · refine Fr.bd (frC6_keep _ 103 (by decide) hm_m2) (fun _ m4 hm_m4 => ?_)
    exact frC11_rounds_L31 _ _ _ ((by
  intro e7 m8 hm_m8
  exact Fr.ok hm_m8)) _ _ _ _ hm_m4
set_option maxRecDepth 100000 in
set_option maxHeartbeats 4000000 in
theorem frC11_chance_L31 {m0 : ev_M} (f : Nat) (k : Int32 → ev_M → Option (Int32 × ev_M)) (a1 : Int32) (hk : ∀ (x0 : Int32) (xm : ev_M), frC m0 xm → Fr (frC m0) (k x0 xm)) : ∀ (n : Nat) (a2 : Int32) (a3 : Int32) (m : ev_M), frC m0 m → Fr (frC m0) (FX11_chance_L31 f k a1 n a2 a3 m) := by
  intro n
  induction n with
  | zero => intros; exact Fr.none
  | succ n ih =>
    intro a2 a3 m hm_m
    rw [FX11_chance_L31]
    refine Fr.ite (fun _ => ?_) (fun _ => ?_)
    · exact hk _ _ hm_m
    · refine Fr.bd (frC11_catchCold _ hm_m) (fun r5 m6 hm_m6 => ?_)
      refine Fr.bd (frC11_goOn _ hm_m6) (fun r7 m8 hm_m8 => ?_)
      exact ih _ _ hm_m8
set_option maxRecDepth 100000 in
set_option maxHeartbeats 4000000 in
theorem frC11_chance {m0 : ev_M} (f : Nat) (a1 : Int32) {m : ev_M}  (hm_m : frC m0 m) : Fr (frC m0) (FX11_chance f a1 m) := by
  unfold FX11_chance
  refine Fr.bd (frC11_canGo _ _ hm_m) (fun r1 m2 hm_m2 => ?_)
  refine Fr.ite (fun _ => ?_) (fun _ => ?_)
  · refine Fr.bd (frC11_refuse _ _ hm_m2) (fun r11 m12 hm_m12 => ?_)
    exact Fr.ok hm_m12
  · refine Fr.bd (frC6_keep _ 103 (by decide) hm_m2) (fun _ m4 hm_m4 => ?_)
    exact frC11_chance_L31 _ _ _ ((by
  intro e9 m10 hm_m10
  exact Fr.ok hm_m10)) _ _ _ _ hm_m4
set_option maxRecDepth 100000 in
set_option maxHeartbeats 4000000 in
theorem frC0_fewestToCheer_J48 {m0 : ev_M} (f : Nat) (kt10 : Int32 → ev_M → Option (Int32 × ev_M)) (a4 : Int32) {m : ev_M} (hkt10 : ∀ (x0 : Int32) (xm : ev_M), frC m0 xm → Fr (frC m0) (kt10 x0 xm)) (hm_m : frC m0 m) : Fr (frC m0) (FX0_fewestToCheer_J48 f kt10 a4 m) := by
  unfold FX0_fewestToCheer_J48
  exact hkt10 _ _ hm_m
set_option maxRecDepth 100000 in
set_option maxHeartbeats 4000000 in
theorem frC0_fewestToCheer_L10 {m0 : ev_M} (f : Nat) (k : ev_M → Option (Int32 × ev_M)) (o1 : Nat) (a2 : Int32) (a3 : Int32) (h_o1 : isK 8 o1) (hk : ∀  (xm : ev_M), frC m0 xm → Fr (frC m0) (k xm)) : ∀ (n : Nat) (a4 : Int32) (m : ev_M), frC m0 m → Fr (frC m0) (FX0_fewestToCheer_L10 f k o1 a2 a3 n a4 m) := by
  intro n
  induction n with
  | zero => intros; exact Fr.none
  | succ n ih =>
    intro a4 m hm_m
    rw [FX0_fewestToCheer_L10]
    refine Fr.bd (frC3_towers _ hm_m) (fun r1 m2 hm_m2 => ?_)
    refine Fr.ite (fun _ => ?_) (fun _ => ?_)
    · exact hk _ hm_m2
    · refine Fr.bd (FRJ6_bitCount_0f7a4C _ _ hm_m2) (fun r3 m4 hm_m4 => ?_)
      refine Fr.ite (fun _ => ?_) (fun _ => ?_)
      · refine Fr.bd (frC0_fires _ o1 _ _ _ h_o1 hm_m4) (fun r5 m6 hm_m6 => ?_)
        refine Fr.ite (fun _ => ?_) (fun _ => ?_)
        · exact Fr.ok hm_m6
        · exact frC0_fewestToCheer_J48 _ _ _ ih hm_m6
      · exact frC0_fewestToCheer_J48 _ _ _ ih hm_m4
set_option maxRecDepth 100000 in
set_option maxHeartbeats 4000000 in
theorem frC0_fewestToCheer_L2 {m0 : ev_M} (f : Nat) (k : ev_M → Option (Int32 × ev_M)) (o1 : Nat) (a2 : Int32) (h_o1 : isK 8 o1) (hk : ∀  (xm : ev_M), frC m0 xm → Fr (frC m0) (k xm)) : ∀ (n : Nat) (a3 : Int32) (m : ev_M), frC m0 m → Fr (frC m0) (FX0_fewestToCheer_L2 f k o1 a2 n a3 m) := by
  intro n
  induction n with
  | zero => intros; exact Fr.none
  | succ n ih =>
    intro a3 m hm_m
    rw [FX0_fewestToCheer_L2]
    refine Fr.ite (fun _ => ?_) (fun _ => ?_)
    · exact hk _ hm_m
    · exact frC0_fewestToCheer_L10 _ _ o1 _ _ h_o1 ((by
  intro m7 hm_m7
  exact ih _ hm_m7)) _ _ _ hm_m
set_option maxRecDepth 100000 in
set_option maxHeartbeats 4000000 in
theorem frC0_fewestToCheer {m0 : ev_M} (f : Nat) (o1 : Nat) (a2 : Int32) {m : ev_M} (h_o1 : isK 8 o1) (hm_m : frC m0 m) : Fr (frC m0) (FX0_fewestToCheer f o1 a2 m) := by
  unfold FX0_fewestToCheer
  exact frC0_fewestToCheer_L2 _ _ o1 _ h_o1 ((by
  intro m8 hm_m8
  exact Fr.ok hm_m8)) _ _ _ hm_m
set_option maxRecDepth 100000 in
set_option maxHeartbeats 4000000 in
theorem frC0_fewestToSigh_J48 {m0 : ev_M} (f : Nat) (kt10 : Int32 → ev_M → Option (Int32 × ev_M)) (a4 : Int32) {m : ev_M} (hkt10 : ∀ (x0 : Int32) (xm : ev_M), frC m0 xm → Fr (frC m0) (kt10 x0 xm)) (hm_m : frC m0 m) : Fr (frC m0) (FX0_fewestToSigh_J48 f kt10 a4 m) := by
  unfold FX0_fewestToSigh_J48
  exact hkt10 _ _ hm_m
set_option maxRecDepth 100000 in
set_option maxHeartbeats 4000000 in
theorem frC0_fewestToSigh_L10 {m0 : ev_M} (f : Nat) (k : ev_M → Option (Int32 × ev_M)) (o1 : Nat) (a2 : Int32) (a3 : Int32) (h_o1 : isK 8 o1) (hk : ∀  (xm : ev_M), frC m0 xm → Fr (frC m0) (k xm)) : ∀ (n : Nat) (a4 : Int32) (m : ev_M), frC m0 m → Fr (frC m0) (FX0_fewestToSigh_L10 f k o1 a2 a3 n a4 m) := by
  intro n
  induction n with
  | zero => intros; exact Fr.none
  | succ n ih =>
    intro a4 m hm_m
    rw [FX0_fewestToSigh_L10]
    refine Fr.bd (frC3_towers _ hm_m) (fun r1 m2 hm_m2 => ?_)
    refine Fr.ite (fun _ => ?_) (fun _ => ?_)
    · exact hk _ hm_m2
    · refine Fr.bd (FRJ6_bitCount_0f7a4C _ _ hm_m2) (fun r3 m4 hm_m4 => ?_)
      refine Fr.ite (fun _ => ?_) (fun _ => ?_)
      · refine Fr.bd (frC0_fires _ o1 _ _ _ h_o1 hm_m4) (fun r5 m6 hm_m6 => ?_)
        refine Fr.ite (fun _ => ?_) (fun _ => ?_)
        · exact frC0_fewestToSigh_J48 _ _ _ ih hm_m6
        · exact Fr.ok hm_m6
      · exact frC0_fewestToSigh_J48 _ _ _ ih hm_m4
set_option maxRecDepth 100000 in
set_option maxHeartbeats 4000000 in
theorem frC0_fewestToSigh_L2 {m0 : ev_M} (f : Nat) (k : ev_M → Option (Int32 × ev_M)) (o1 : Nat) (a2 : Int32) (h_o1 : isK 8 o1) (hk : ∀  (xm : ev_M), frC m0 xm → Fr (frC m0) (k xm)) : ∀ (n : Nat) (a3 : Int32) (m : ev_M), frC m0 m → Fr (frC m0) (FX0_fewestToSigh_L2 f k o1 a2 n a3 m) := by
  intro n
  induction n with
  | zero => intros; exact Fr.none
  | succ n ih =>
    intro a3 m hm_m
    rw [FX0_fewestToSigh_L2]
    refine Fr.ite (fun _ => ?_) (fun _ => ?_)
    · exact hk _ hm_m
    · exact frC0_fewestToSigh_L10 _ _ o1 _ _ h_o1 ((by
  intro m7 hm_m7
  exact ih _ hm_m7)) _ _ _ hm_m
set_option maxRecDepth 100000 in
set_option maxHeartbeats 4000000 in
theorem frC0_fewestToSigh {m0 : ev_M} (f : Nat) (o1 : Nat) (a2 : Int32) {m : ev_M} (h_o1 : isK 8 o1) (hm_m : frC m0 m) : Fr (frC m0) (FX0_fewestToSigh f o1 a2 m) := by
  unfold FX0_fewestToSigh
  exact frC0_fewestToSigh_L2 _ _ o1 _ h_o1 ((by
  intro m8 hm_m8
  exact Fr.ok hm_m8)) _ _ _ hm_m
set_option maxRecDepth 100000 in
set_option maxHeartbeats 4000000 in
theorem frC0_seekYes_J75 {m0 : ev_M} (f : Nat) (kt19 : Int32 → ev_M → Option (Unit × ev_M)) (a3 : Int32) {m : ev_M} (hkt19 : ∀ (x0 : Int32) (xm : ev_M), frC m0 xm → Fr (frC m0) (kt19 x0 xm)) (hm_m : frC m0 m) : Fr (frC m0) (FX0_seekYes_J75 f kt19 a3 m) := by
  unfold FX0_seekYes_J75
  exact hkt19 _ _ hm_m
set_option maxRecDepth 100000 in
set_option maxHeartbeats 4000000 in
theorem frC0_seekYes_L19 {m0 : ev_M} (f : Nat) (k : ev_M → Option (Unit × ev_M)) (o1 : Nat) (a2 : Int32) (h_o1 : isK 8 o1) (hk : ∀  (xm : ev_M), frC m0 xm → Fr (frC m0) (k xm)) : ∀ (n : Nat) (a3 : Int32) (m : ev_M), frC m0 m → Fr (frC m0) (FX0_seekYes_L19 f k o1 a2 n a3 m) := by
  intro n
  induction n with
  | zero => intros; exact Fr.none
  | succ n ih =>
    intro a3 m hm_m
    rw [FX0_seekYes_L19]
    refine Fr.bd (frC3_towers _ hm_m) (fun r7 m8 hm_m8 => ?_)
    refine Fr.ite (fun _ => ?_) (fun _ => ?_)
    · exact hk _ hm_m8
    · refine Fr.ite (fun _ => ?_) (fun _ => ?_)
      · refine Fr.bd (frC8_copy _ 30 o1 (by decide) h_o1 hm_m8) (fun _ m10 hm_m10 => ?_)
        refine Fr.bd (frC0_tryRounds _ _ (frC_I (by decide) hm_m10)) (fun r11 m12 hm_m12 => ?_)
        refine Fr.bd (frC0_weigh _ _ _ _ hm_m12) (fun _ m14 hm_m14 => ?_)
        exact frC0_seekYes_J75 _ _ _ ih hm_m14
      · exact frC0_seekYes_J75 _ _ _ ih hm_m8
set_option maxRecDepth 100000 in
set_option maxHeartbeats 4000000 in
theorem frC0_seekYes {m0 : ev_M} (f : Nat) (o1 : Nat) (a2 : Int32) {m : ev_M} (h_o1 : isK 8 o1) (hm_m : frC m0 m) : Fr (frC m0) (FX0_seekYes f o1 a2 m) := by
  unfold FX0_seekYes
  refine Fr.bd (frC8_copy _ 30 o1 (by decide) h_o1 hm_m) (fun _ m2 hm_m2 => ?_)
  refine Fr.bd (frC0_tryRounds _ _ hm_m2) (fun r3 m4 hm_m4 => ?_)
  refine Fr.bd (frC0_startWith _ _ hm_m4) (fun _ m6 hm_m6 => ?_)
  exact frC0_seekYes_L19 _ _ o1 _ h_o1 ((by
  intro m15 hm_m15
  exact Fr.ok hm_m15)) _ _ _ hm_m6
set_option maxRecDepth 100000 in
set_option maxHeartbeats 4000000 in
theorem frC0_seekPlaces_L35 {m0 : ev_M} (f : Nat) (k : ev_M → Option (Unit × ev_M)) (o1 : Nat) (a2 : Int32) (a3 : Int32) (h_o1 : isK 8 o1) (hk : ∀  (xm : ev_M), frC m0 xm → Fr (frC m0) (k xm)) : ∀ (n : Nat) (a4 : Int32) (m : ev_M), frC m0 m → Fr (frC m0) (FX0_seekPlaces_L35 f k o1 a2 a3 n a4 m) := by
  intro n
  induction n with
  | zero => intros; exact Fr.none
  | succ n ih =>
    intro a4 m hm_m
    rw [FX0_seekPlaces_L35]
    refine Fr.bd (frC3_towers _ hm_m) (fun r9 m10 hm_m10 => ?_)
    refine Fr.ite (fun _ => ?_) (fun _ => ?_)
    · exact hk _ hm_m10
    · refine Fr.bd (frC8_copy _ 30 o1 (by decide) h_o1 hm_m10) (fun _ m12 hm_m12 => ?_)
      refine Fr.bd (frC8_swap _ 30 _ _ (by decide) hm_m12) (fun _ m14 hm_m14 => ?_)
      refine Fr.bd (frC0_tryRounds _ _ hm_m14) (fun r15 m16 hm_m16 => ?_)
      refine Fr.bd (frC0_weigh _ _ _ _ hm_m16) (fun _ m18 hm_m18 => ?_)
      exact ih _ hm_m18
set_option maxRecDepth 100000 in
set_option maxHeartbeats 4000000 in
theorem frC0_seekPlaces_L19 {m0 : ev_M} (f : Nat) (k : ev_M → Option (Unit × ev_M)) (o1 : Nat) (a2 : Int32) (h_o1 : isK 8 o1) (hk : ∀  (xm : ev_M), frC m0 xm → Fr (frC m0) (k xm)) : ∀ (n : Nat) (a3 : Int32) (m : ev_M), frC m0 m → Fr (frC m0) (FX0_seekPlaces_L19 f k o1 a2 n a3 m) := by
  intro n
  induction n with
  | zero => intros; exact Fr.none
  | succ n ih =>
    intro a3 m hm_m
    rw [FX0_seekPlaces_L19]
    refine Fr.bd (frC3_towers _ hm_m) (fun r7 m8 hm_m8 => ?_)
    refine Fr.ite (fun _ => ?_) (fun _ => ?_)
    · exact hk _ hm_m8
    · exact frC0_seekPlaces_L35 _ _ o1 _ _ h_o1 ((by
  intro m19 hm_m19
  exact ih _ hm_m19)) _ _ _ hm_m8
set_option maxRecDepth 100000 in
set_option maxHeartbeats 4000000 in
theorem frC0_seekPlaces {m0 : ev_M} (f : Nat) (o1 : Nat) (a2 : Int32) {m : ev_M} (h_o1 : isK 8 o1) (hm_m : frC m0 m) : Fr (frC m0) (FX0_seekPlaces f o1 a2 m) := by
  unfold FX0_seekPlaces
  refine Fr.bd (frC8_copy _ 30 o1 (by decide) h_o1 hm_m) (fun _ m2 hm_m2 => ?_)
  refine Fr.bd (frC0_tryRounds _ _ hm_m2) (fun r3 m4 hm_m4 => ?_)
  refine Fr.bd (frC0_startWith _ _ hm_m4) (fun _ m6 hm_m6 => ?_)
  exact frC0_seekPlaces_L19 _ _ o1 _ h_o1 ((by
  intro m20 hm_m20
  exact Fr.ok hm_m20)) _ _ _ hm_m6
set_option maxRecDepth 100000 in
set_option maxHeartbeats 4000000 in
theorem frC0_play_L12 {m0 : ev_M} (f : Nat) (k : ev_M → Option (Unit × ev_M)) (o1 : Nat) (h_o1 : isK 8 o1) (hk : ∀  (xm : ev_M), frC m0 xm → Fr (frC m0) (k xm)) : ∀ (n : Nat) (a2 : Int32) (m : ev_M), frC m0 m → Fr (frC m0) (FX0_play_L12 f k o1 n a2 m) := by
  intro n
  induction n with
  | zero => intros; exact Fr.none
  | succ n ih =>
    intro a2 m hm_m
    rw [FX0_play_L12]
    refine Fr.bd (frC3_towers _ hm_m) (fun r5 m6 hm_m6 => ?_)
    refine Fr.ite (fun _ => ?_) (fun _ => ?_)
    · exact hk _ hm_m6
    · refine Fr.bd (frC0_worstBySigh _ o1 _ h_o1 hm_m6) (fun r7 m8 hm_m8 => ?_)
      refine Fr.bd (frC0_weigh _ _ _ _ hm_m8) (fun _ m10 hm_m10 => ?_)
      exact ih _ hm_m10
set_option maxRecDepth 100000 in
set_option maxHeartbeats 4000000 in
theorem frC0_play {m0 : ev_M} (f : Nat) (o1 : Nat) {m : ev_M} (h_o1 : isK 8 o1) (hm_m : frC m0 m) : Fr (frC m0) (FX0_play f o1 m) := by
  unfold FX0_play
  refine Fr.bd (frC0_worstBySigh _ o1 _ h_o1 hm_m) (fun r1 m2 hm_m2 => ?_)
  refine Fr.bd (frC0_startWith _ _ hm_m2) (fun _ m4 hm_m4 => ?_)
  exact frC0_play_L12 _ _ o1 h_o1 ((by
  intro m11 hm_m11
  exact Fr.ok hm_m11)) _ _ _ hm_m4
set_option maxRecDepth 100000 in
set_option maxHeartbeats 4000000 in
theorem frC11_cheered {m0 : ev_M} (f : Nat) (a1 : Int32) {m : ev_M}  (hm_m : frC m0 m) : Fr (frC m0) (FX11_cheered f a1 m) := by
  unfold FX11_cheered
  refine Fr.bd (frC11_isTold _ hm_m) (fun r1 m2 hm_m2 => ?_)
  refine Fr.ite (fun _ => ?_) (fun _ => ?_)
  · exact Fr.ok hm_m2
  · refine Fr.bd (frC11_canBeAhead _ _ _ _ hm_m2) (fun r3 m4 hm_m4 => ?_)
    refine Fr.ite (fun _ => ?_) (fun _ => ?_)
    · exact Fr.ok hm_m4
    · refine Fr.bd (frC0_fewestToCheer _ 103 _ (by decide) hm_m4) (fun r5 m6 hm_m6 => ?_)
      exact Fr.ok hm_m6
set_option maxRecDepth 100000 in
set_option maxHeartbeats 4000000 in
theorem frC11_sighs {m0 : ev_M} (f : Nat) (a1 : Int32) {m : ev_M}  (hm_m : frC m0 m) : Fr (frC m0) (FX11_sighs f a1 m) := by
  unfold FX11_sighs
  refine Fr.bd (frC11_isTold _ hm_m) (fun r1 m2 hm_m2 => ?_)
  refine Fr.ite (fun _ => ?_) (fun _ => ?_)
  · exact Fr.ok hm_m2
  · refine Fr.bd (frC11_canBeAhead _ _ _ _ hm_m2) (fun r3 m4 hm_m4 => ?_)
    refine Fr.ite (fun _ => ?_) (fun _ => ?_)
    · exact Fr.ok hm_m4
    · refine Fr.bd (frC0_fewestToSigh _ 103 _ (by decide) hm_m4) (fun r5 m6 hm_m6 => ?_)
      exact Fr.ok hm_m6
set_option maxRecDepth 100000 in
set_option maxHeartbeats 4000000 in
theorem frC11_better {m0 : ev_M} (f : Nat) (a1 : Int32) (a2 : Int32) {m : ev_M}  (hm_m : frC m0 m) : Fr (frC m0) (FX11_better f a1 a2 m) := by
  unfold FX11_better
  refine Fr.bd (frC11_isTold _ hm_m) (fun r1 m2 hm_m2 => ?_)
  refine Fr.ite (fun _ => ?_) (fun _ => ?_)
  · exact Fr.ok hm_m2
  · refine Fr.bd (frC11_canBeAhead _ _ _ _ hm_m2) (fun r3 m4 hm_m4 => ?_)
    refine Fr.ite (fun _ => ?_) (fun _ => ?_)
    · exact Fr.ok hm_m4
    · refine Fr.ite (fun _ => ?_) (fun _ => ?_)
      · exact Fr.ok hm_m4
      · refine Fr.ite (fun _ => ?_) (fun _ => ?_)
        · refine Fr.bd (frC0_seekYes _ 103 _ (by decide) hm_m4) (fun _ m6 hm_m6 => ?_)
          refine Fr.ite (fun _ => ?_) (fun _ => ?_)
          · exact Fr.ok hm_m6
          · refine Fr.ite (fun _ => ?_) (fun _ => ?_)
            · exact Fr.ok hm_m6
            · exact Fr.ok hm_m6
        · exact Fr.ok hm_m4
set_option maxRecDepth 100000 in
set_option maxHeartbeats 4000000 in
theorem frC11_placed {m0 : ev_M} (f : Nat) (a1 : Int32) (a2 : Int32) {m : ev_M}  (hm_m : frC m0 m) : Fr (frC m0) (FX11_placed f a1 a2 m) := by
  unfold FX11_placed
  refine Fr.bd (frC11_isTold _ hm_m) (fun r1 m2 hm_m2 => ?_)
  refine Fr.ite (fun _ => ?_) (fun _ => ?_)
  · exact Fr.ok hm_m2
  · refine Fr.bd (frC11_canBeAhead _ _ _ _ hm_m2) (fun r3 m4 hm_m4 => ?_)
    refine Fr.ite (fun _ => ?_) (fun _ => ?_)
    · exact Fr.ok hm_m4
    · refine Fr.ite (fun _ => ?_) (fun _ => ?_)
      · exact Fr.ok hm_m4
      · refine Fr.ite (fun _ => ?_) (fun _ => ?_)
        · refine Fr.bd (frC0_seekPlaces _ 103 _ (by decide) hm_m4) (fun _ m6 hm_m6 => ?_)
          refine Fr.ite (fun _ => ?_) (fun _ => ?_)
          · exact Fr.ok hm_m6
          · refine Fr.ite (fun _ => ?_) (fun _ => ?_)
            · exact Fr.ok hm_m6
            · refine Fr.ite (fun _ => ?_) (fun _ => ?_)
              · exact Fr.ok hm_m6
              · exact Fr.ok hm_m6
        · exact Fr.ok hm_m4
set_option maxRecDepth 100000 in
set_option maxHeartbeats 4000000 in
theorem frC11_game {m0 : ev_M} (f : Nat) (a1 : Int32) {m : ev_M}  (hm_m : frC m0 m) : Fr (frC m0) (FX11_game f a1 m) := by
  unfold FX11_game
  refine Fr.bd (frC11_isTold _ hm_m) (fun r1 m2 hm_m2 => ?_)
  refine Fr.ite (fun _ => ?_) (fun _ => ?_)
  · exact Fr.ok hm_m2
  · refine Fr.bd (frC8_hasNext _ 103 (by decide) hm_m2) (fun r3 m4 hm_m4 => ?_)
    refine Fr.ite (fun _ => ?_) (fun _ => ?_)
    · exact Fr.ok hm_m4
    · refine Fr.ite (fun _ => ?_) (fun _ => ?_)
      · exact Fr.ok hm_m4
      · refine Fr.ite (fun _ => ?_) (fun _ => ?_)
        · refine Fr.bd (frC0_play _ 103 (by decide) hm_m4) (fun _ m6 hm_m6 => ?_)
          refine Fr.ite (fun _ => ?_) (fun _ => ?_)
          · exact Fr.ok hm_m6
          · exact Fr.ok hm_m6
        · exact Fr.ok hm_m4
set_option maxRecDepth 100000 in
set_option maxHeartbeats 4000000 in
theorem frM12_isIn {m0 : ev_M} (f : Nat) (a0 : Int64) (a2 : Int64) (a4 : Int64) {m : ev_M}  (hm_m : frM m0 m) : Fr (frM m0) (FX12_isIn f a0 a2 a4 m) := by
  unfold FX12_isIn
  refine Fr.ite (fun _ => ?_) (fun _ => ?_)
  · exact Fr.ok hm_m
  · refine Fr.ite (fun _ => ?_) (fun _ => ?_)
    · exact Fr.ok hm_m
    · exact Fr.ok hm_m
set_option maxRecDepth 100000 in
set_option maxHeartbeats 4000000 in
theorem frM12_feed_J81 {m0 : ev_M} (f : Nat) (kt28 : Int32 → ev_M → Option (Int32 × ev_M)) (a6 : Int32) (s0 : Int32) {m : ev_M} (hkt28 : ∀ (x0 : Int32) (xm : ev_M), frM m0 xm → Fr (frM m0) (kt28 x0 xm)) (hm_m : frM m0 m) : Fr (frM m0) (FX12_feed_J81 f kt28 a6 s0 m) := by
  unfold FX12_feed_J81
  refine Fr.ite (fun _ => ?_) (fun _ => ?_)
  · exact hkt28 _ _ (frM_I (by decide) (frM_I (by decide) hm_m))
  · exact Fr.none
set_option maxRecDepth 100000 in
set_option maxHeartbeats 4000000 in
theorem frM12_feed_L28 {m0 : ev_M} (f : Nat) (k : ev_M → Option (Int32 × ev_M)) (a1 : Int32) (a2 : Int32) (a3 : Int32) (a4 : Int32) (a5 : Int32) (hk : ∀  (xm : ev_M), frM m0 xm → Fr (frM m0) (k xm)) : ∀ (n : Nat) (a6 : Int32) (m : ev_M), frM m0 m → Fr (frM m0) (FX12_feed_L28 f k a1 a2 a3 a4 a5 n a6 m) := by
  intro n
  induction n with
  | zero => intros; exact Fr.none
  | succ n ih =>
    intro a6 m hm_m
    rw [FX12_feed_L28]
    refine Fr.ite (fun _ => ?_) (fun _ => ?_)
    · exact hk _ hm_m
    · refine Fr.ite (fun _ => ?_) (fun _ => ?_)
      · refine Fr.ite (fun _ => ?_) (fun _ => ?_)
        · refine Fr.ite (fun _ => ?_) (fun _ => ?_)
          · refine Fr.ite (fun _ => ?_) (fun _ => ?_)
            · exact frM12_feed_J81 _ _ _ _ ih hm_m
            · exact frM12_feed_J81 _ _ _ _ ih hm_m
          · exact frM12_feed_J81 _ _ _ _ ih hm_m
        · exact frM12_feed_J81 _ _ _ _ ih hm_m
      · exact frM12_feed_J81 _ _ _ _ ih hm_m
set_option maxRecDepth 100000 in
set_option maxHeartbeats 4000000 in
theorem frM12_feed {m0 : ev_M} (f : Nat) (a1 : Int32) (a2 : Int32) (a3 : Int32) (a4 : Int32) (a5 : Int32) {m : ev_M}  (hm_m : frM m0 m) : Fr (frM m0) (FX12_feed f a1 a2 a3 a4 a5 m) := by
  unfold FX12_feed
  refine Fr.ite (fun _ => ?_) (fun _ => ?_)
  · exact frM12_feed_L28 _ _ _ _ _ _ _ ((by
  intro m1 hm_m1
  exact Fr.ok hm_m1)) _ _ _ hm_m
  · exact Fr.ok (frM_I (by decide) hm_m)
set_option maxRecDepth 100000 in
set_option maxHeartbeats 4000000 in
theorem frM12_end {m0 : ev_M} (f : Nat) (a1 : Int32) {m : ev_M}  (hm_m : frM m0 m) : Fr (frM m0) (FX12_end f a1 m) := by
  unfold FX12_end
  refine Fr.ite (fun _ => ?_) (fun _ => ?_)
  · exact Fr.ok (frM_I (by decide) hm_m)
  · refine Fr.ite (fun _ => ?_) (fun _ => ?_)
    · exact Fr.ok (frM_I (by decide) hm_m)
    · exact Fr.ok (frM_I (by decide) hm_m)
set_option maxRecDepth 100000 in
set_option maxHeartbeats 4000000 in
theorem frM12_fail {m0 : ev_M} (f : Nat) (a1 : Int32) (a2 : Int32) {m : ev_M}  (hm_m : frM m0 m) : Fr (frM m0) (FX12_fail f a1 a2 m) := by
  unfold FX12_fail
  refine Fr.ite (fun _ => ?_) (fun _ => ?_)
  · exact Fr.ok (frM_I (by decide) (frM_I (by decide) hm_m))
  · exact Fr.ok hm_m
set_option maxRecDepth 100000 in
set_option maxHeartbeats 4000000 in
theorem frM12_isLetter {m0 : ev_M} (f : Nat) (a0 : Int32) {m : ev_M}  (hm_m : frM m0 m) : Fr (frM m0) (FX12_isLetter f a0 m) := by
  unfold FX12_isLetter
  refine Fr.ite (fun _ => ?_) (fun _ => ?_)
  · exact Fr.ok hm_m
  · refine Fr.ite (fun _ => ?_) (fun _ => ?_)
    · exact Fr.ok hm_m
    · exact Fr.ok hm_m
set_option maxRecDepth 100000 in
set_option maxHeartbeats 4000000 in
theorem frM12_isDigit {m0 : ev_M} (f : Nat) (a0 : Int32) {m : ev_M}  (hm_m : frM m0 m) : Fr (frM m0) (FX12_isDigit f a0 m) := by
  unfold FX12_isDigit
  refine Fr.ite (fun _ => ?_) (fun _ => ?_)
  · exact Fr.ok hm_m
  · refine Fr.ite (fun _ => ?_) (fun _ => ?_)
    · exact Fr.ok hm_m
    · exact Fr.ok hm_m
set_option maxRecDepth 100000 in
set_option maxHeartbeats 4000000 in
theorem frM12_look_J39 {m0 : ev_M} (f : Nat) (kt0 : ev_M → Option (Int32 × ev_M)) {m : ev_M} (hkt0 : ∀  (xm : ev_M), frM m0 xm → Fr (frM m0) (kt0 xm)) (hm_m : frM m0 m) : Fr (frM m0) (FX12_look_J39 f kt0 m) := by
  unfold FX12_look_J39
  exact hkt0 _ (frM_I (by decide) hm_m)
set_option maxRecDepth 100000 in
set_option maxHeartbeats 4000000 in
theorem frM12_look_L0 {m0 : ev_M} (f : Nat) (k : ev_M → Option (Int32 × ev_M)) (hk : ∀  (xm : ev_M), frM m0 xm → Fr (frM m0) (k xm)) : ∀ (n : Nat)  (m : ev_M), frM m0 m → Fr (frM m0) (FX12_look_L0 f k n m) := by
  intro n
  induction n with
  | zero => intros; exact Fr.none
  | succ n ih =>
    intro m hm_m
    rw [FX12_look_L0]
    refine Fr.ite (fun _ => ?_) (fun _ => ?_)
    · exact hk _ hm_m
    · refine Fr.ite (fun _ => ?_) (fun _ => ?_)
      · refine Fr.ite (fun _ => ?_) (fun _ => ?_)
        · exact frM12_look_J39 _ _ ih hm_m
        · refine Fr.ite (fun _ => ?_) (fun _ => ?_)
          · refine Fr.ite (fun _ => ?_) (fun _ => ?_)
            · exact frM12_look_J39 _ _ ih hm_m
            · exact hk _ hm_m
          · exact Fr.none
      · exact Fr.none
set_option maxRecDepth 100000 in
set_option maxHeartbeats 4000000 in
theorem frM12_look {m0 : ev_M} (f : Nat) {m : ev_M}  (hm_m : frM m0 m) : Fr (frM m0) (FX12_look f m) := by
  unfold FX12_look
  exact frM12_look_L0 _ _ ((by
  intro m1 hm_m1
  refine Fr.ite (fun _ => ?_) (fun _ => ?_)
  · exact Fr.ok hm_m1
  · refine Fr.ite (fun _ => ?_) (fun _ => ?_)
    · exact Fr.ok hm_m1
    · exact Fr.none)) _ _ hm_m
set_option maxRecDepth 100000 in
set_option maxHeartbeats 4000000 in
theorem frM12_isHere_L35 {m0 : ev_M} (f : Nat) (k : Int32 → ev_M → Option (Int32 × ev_M)) (hk : ∀ (x0 : Int32) (xm : ev_M), frM m0 xm → Fr (frM m0) (k x0 xm)) : ∀ (n : Nat) (a2 : Int32) (m : ev_M), frM m0 m → Fr (frM m0) (FX12_isHere_L35 f k n a2 m) := by
  intro n
  induction n with
  | zero => intros; exact Fr.none
  | succ n ih =>
    intro a2 m hm_m
    rw [FX12_isHere_L35]
    refine Fr.ite (fun _ => ?_) (fun _ => ?_)
    · exact hk _ _ hm_m
    · refine Fr.ite (fun _ => ?_) (fun _ => ?_)
      · refine Fr.bd (frM12_isLetter _ _ hm_m) (fun r5 m6 hm_m6 => ?_)
        refine Fr.ite (fun _ => ?_) (fun _ => ?_)
        · exact hk _ _ hm_m6
        · exact ih _ hm_m6
      · exact Fr.none
set_option maxRecDepth 100000 in
set_option maxHeartbeats 4000000 in
theorem frM12_isHere_L76 {m0 : ev_M} (f : Nat) (k : ev_M → Option (Int32 × ev_M)) (o1 : Nat) (h_o1 : isK 101 o1) (hk : ∀  (xm : ev_M), frM m0 xm → Fr (frM m0) (k xm)) : ∀ (n : Nat) (a3 : Int32) (m : ev_M), frM m0 m → Fr (frM m0) (FX12_isHere_L76 f k o1 n a3 m) := by
  intro n
  induction n with
  | zero => intros; exact Fr.none
  | succ n ih =>
    intro a3 m hm_m
    rw [FX12_isHere_L76]
    refine Fr.ite (fun _ => ?_) (fun _ => ?_)
    · exact hk _ hm_m
    · refine Fr.ite (fun _ => ?_) (fun _ => ?_)
      · refine Fr.ite (fun _ => ?_) (fun _ => ?_)
        · refine Fr.ite (fun _ => ?_) (fun _ => ?_)
          · exact ih _ hm_m
          · exact Fr.ok hm_m
        · exact Fr.none
      · exact Fr.none
set_option maxRecDepth 100000 in
set_option maxHeartbeats 4000000 in
theorem frM12_isHere_J61 {m0 : ev_M} (f : Nat) (o1 : Nat) (a2 : Int32) {m : ev_M} (h_o1 : isK 101 o1) (hm_m : frM m0 m) : Fr (frM m0) (FX12_isHere_J61 f o1 a2 m) := by
  unfold FX12_isHere_J61
  refine Fr.ite (fun _ => ?_) (fun _ => ?_)
  · exact frM12_isHere_L76 _ _ o1 h_o1 ((by
  intro m9 hm_m9
  exact Fr.ok hm_m9)) _ _ _ hm_m
  · exact Fr.ok hm_m
set_option maxRecDepth 100000 in
set_option maxHeartbeats 4000000 in
theorem frM12_isHere {m0 : ev_M} (f : Nat) (o1 : Nat) {m : ev_M} (h_o1 : isK 101 o1) (hm_m : frM m0 m) : Fr (frM m0) (FX12_isHere f o1 m) := by
  unfold FX12_isHere
  refine Fr.ite (fun _ => ?_) (fun _ => ?_)
  · refine Fr.bd (frM12_look _ hm_m) (fun r1 m2 hm_m2 => ?_)
    refine Fr.bd (frM12_isLetter _ _ hm_m2) (fun r3 m4 hm_m4 => ?_)
    refine Fr.ite (fun _ => ?_) (fun _ => ?_)
    · exact Fr.ok hm_m4
    · refine Fr.ite (fun _ => ?_) (fun _ => ?_)
      · exact Fr.ok hm_m4
      · exact frM12_isHere_L35 _ _ ((by
  intro e7 m8 hm_m8
  exact frM12_isHere_J61 _ o1 _ h_o1 hm_m8)) _ _ _ hm_m4
  · exact Fr.ok hm_m
set_option maxRecDepth 100000 in
set_option maxHeartbeats 4000000 in
theorem frM12_takes {m0 : ev_M} (f : Nat) (o1 : Nat) {m : ev_M} (h_o1 : isK 101 o1) (hm_m : frM m0 m) : Fr (frM m0) (FX12_takes f o1 m) := by
  unfold FX12_takes
  refine Fr.bd (frM12_isHere _ o1 h_o1 hm_m) (fun r1 m2 hm_m2 => ?_)
  refine Fr.ite (fun _ => ?_) (fun _ => ?_)
  · exact Fr.ok hm_m2
  · exact Fr.ok (frM_I (by decide) (frM_I (by decide) hm_m2))
set_option maxRecDepth 100000 in
set_option maxHeartbeats 4000000 in
theorem frM12_asks {m0 : ev_M} (f : Nat) (o1 : Nat) {m : ev_M} (h_o1 : isK 101 o1) (hm_m : frM m0 m) : Fr (frM m0) (FX12_asks f o1 m) := by
  unfold FX12_asks
  refine Fr.ite (fun _ => ?_) (fun _ => ?_)
  · refine Fr.bd (frM12_takes _ o1 h_o1 hm_m) (fun r1 m2 hm_m2 => ?_)
    refine Fr.ite (fun _ => ?_) (fun _ => ?_)
    · refine Fr.bd (frM12_fail _ _ _ hm_m2) (fun _ m4 hm_m4 => ?_)
      exact Fr.ok hm_m4
    · exact Fr.ok hm_m2
  · exact Fr.ok hm_m
set_option maxRecDepth 100000 in
set_option maxHeartbeats 4000000 in
theorem frM12_takesSign {m0 : ev_M} (f : Nat) (a1 : Int32) {m : ev_M}  (hm_m : frM m0 m) : Fr (frM m0) (FX12_takesSign f a1 m) := by
  unfold FX12_takesSign
  refine Fr.ite (fun _ => ?_) (fun _ => ?_)
  · refine Fr.bd (frM12_look _ hm_m) (fun r1 m2 hm_m2 => ?_)
    refine Fr.ite (fun _ => ?_) (fun _ => ?_)
    · exact Fr.ok (frM_I (by decide) hm_m2)
    · exact Fr.ok hm_m2
  · exact Fr.ok hm_m
set_option maxRecDepth 100000 in
set_option maxHeartbeats 4000000 in
theorem frM12_asksSign {m0 : ev_M} (f : Nat) (a1 : Int32) {m : ev_M}  (hm_m : frM m0 m) : Fr (frM m0) (FX12_asksSign f a1 m) := by
  unfold FX12_asksSign
  refine Fr.ite (fun _ => ?_) (fun _ => ?_)
  · refine Fr.bd (frM12_takesSign _ _ hm_m) (fun r1 m2 hm_m2 => ?_)
    refine Fr.ite (fun _ => ?_) (fun _ => ?_)
    · refine Fr.bd (frM12_fail _ _ _ hm_m2) (fun _ m4 hm_m4 => ?_)
      exact Fr.ok hm_m4
    · exact Fr.ok hm_m2
  · exact Fr.ok hm_m
set_option maxRecDepth 100000 in
set_option maxHeartbeats 4000000 in
theorem frM12_number_J30 {m0 : ev_M} (f : Nat) {m : ev_M}  (hm_m : frM m0 m) : Fr (frM m0) (FX12_number_J30 f m) := by
  unfold FX12_number_J30
  refine Fr.bd (frM12_fail _ _ _ hm_m) (fun _ m6 hm_m6 => ?_)
  exact Fr.ok hm_m6
set_option maxRecDepth 100000 in
set_option maxHeartbeats 4000000 in
theorem frM12_number_L49 {m0 : ev_M} (f : Nat) (k : Int32 → ev_M → Option (Int32 × ev_M)) (a3 : Int32) (hk : ∀ (x0 : Int32) (xm : ev_M), frM m0 xm → Fr (frM m0) (k x0 xm)) : ∀ (n : Nat) (a4 : Int32) (m : ev_M), frM m0 m → Fr (frM m0) (FX12_number_L49 f k a3 n a4 m) := by
  intro n
  induction n with
  | zero => intros; exact Fr.none
  | succ n ih =>
    intro a4 m hm_m
    rw [FX12_number_L49]
    refine Fr.ite (fun _ => ?_) (fun _ => ?_)
    · exact hk _ _ hm_m
    · refine Fr.ite (fun _ => ?_) (fun _ => ?_)
      · refine Fr.bd (frM12_isDigit _ _ hm_m) (fun r7 m8 hm_m8 => ?_)
        refine Fr.ite (fun _ => ?_) (fun _ => ?_)
        · exact hk _ _ hm_m8
        · refine Fr.ite (fun _ => ?_) (fun _ => ?_)
          · refine Fr.bd (frM12_fail _ _ _ hm_m8) (fun _ m10 hm_m10 => ?_)
            exact Fr.ok hm_m10
          · refine Fr.ite (fun _ => ?_) (fun _ => ?_)
            · exact ih _ (frM_I (by decide) hm_m8)
            · exact Fr.none
      · exact Fr.none
set_option maxRecDepth 100000 in
set_option maxHeartbeats 4000000 in
theorem frM12_number_J129 {m0 : ev_M} (f : Nat) (a1 : Int32) (a2 : Int32) (a3 : Int32) (a4 : Int32) {m : ev_M}  (hm_m : frM m0 m) : Fr (frM m0) (FX12_number_J129 f a1 a2 a3 a4 m) := by
  unfold FX12_number_J129
  refine Fr.bd (frM12_isIn _ _ _ _ (frM_I (by decide) hm_m)) (fun r13 m14 hm_m14 => ?_)
  refine Fr.ite (fun _ => ?_) (fun _ => ?_)
  · refine Fr.bd (frM12_fail _ _ _ hm_m14) (fun _ m16 hm_m16 => ?_)
    exact Fr.ok hm_m16
  · exact Fr.ok hm_m14
set_option maxRecDepth 100000 in
set_option maxHeartbeats 4000000 in
theorem frM12_number {m0 : ev_M} (f : Nat) (a1 : Int32) (a2 : Int32) {m : ev_M}  (hm_m : frM m0 m) : Fr (frM m0) (FX12_number f a1 a2 m) := by
  unfold FX12_number
  refine Fr.ite (fun _ => ?_) (fun _ => ?_)
  · refine Fr.bd (frM12_look _ hm_m) (fun r1 m2 hm_m2 => ?_)
    refine Fr.bd (frM12_isDigit _ _ hm_m2) (fun r3 m4 hm_m4 => ?_)
    refine Fr.ite (fun _ => ?_) (fun _ => ?_)
    · exact frM12_number_J30 _ hm_m4
    · refine Fr.ite (fun _ => ?_) (fun _ => ?_)
      · exact frM12_number_J30 _ hm_m4
      · exact frM12_number_L49 _ _ _ ((by
  intro e11 m12 hm_m12
  exact frM12_number_J129 _ _ _ _ _ hm_m12)) _ _ _ hm_m4
  · exact Fr.ok hm_m
set_option maxRecDepth 100000 in
set_option maxHeartbeats 4000000 in
theorem frM12_isOwnHere_J223 {m0 : ev_M} (f : Nat) (s0 : Int32) {m : ev_M}  (hm_m : frM m0 m) : Fr (frM m0) (FX12_isOwnHere_J223 f s0 m) := by
  unfold FX12_isOwnHere_J223
  refine Fr.ite (fun _ => ?_) (fun _ => ?_)
  · refine Fr.bd (frM12_isHere _ 133 (by decide) hm_m) (fun r3 m4 hm_m4 => ?_)
    refine Fr.ite (fun _ => ?_) (fun _ => ?_)
    · refine Fr.bd (frM12_isHere _ 134 (by decide) hm_m4) (fun r5 m6 hm_m6 => ?_)
      refine Fr.ite (fun _ => ?_) (fun _ => ?_)
      · refine Fr.bd (frM12_isHere _ 135 (by decide) hm_m6) (fun r7 m8 hm_m8 => ?_)
        refine Fr.ite (fun _ => ?_) (fun _ => ?_)
        · refine Fr.bd (frM12_isHere _ 136 (by decide) hm_m8) (fun r9 m10 hm_m10 => ?_)
          refine Fr.ite (fun _ => ?_) (fun _ => ?_)
          · refine Fr.bd (frM12_isHere _ 137 (by decide) hm_m10) (fun r11 m12 hm_m12 => ?_)
            refine Fr.ite (fun _ => ?_) (fun _ => ?_)
            · exact Fr.ok hm_m12
            · exact Fr.ok hm_m12
          · exact Fr.ok hm_m10
        · exact Fr.ok hm_m8
      · exact Fr.ok hm_m6
    · exact Fr.ok hm_m4
  · exact Fr.ok hm_m
set_option maxRecDepth 100000 in
set_option maxHeartbeats 4000000 in
theorem frM12_isOwnHere_J218 {m0 : ev_M} (f : Nat) {m : ev_M}  (hm_m : frM m0 m) : Fr (frM m0) (FX12_isOwnHere_J218 f m) := by
  unfold FX12_isOwnHere_J218
  exact frM12_isOwnHere_J223 _ _ hm_m
set_option maxRecDepth 100000 in
set_option maxHeartbeats 4000000 in
theorem frM12_isOwnHere_J147 {m0 : ev_M} (f : Nat) (s0 : Int32) {m : ev_M}  (hm_m : frM m0 m) : Fr (frM m0) (FX12_isOwnHere_J147 f s0 m) := by
  unfold FX12_isOwnHere_J147
  refine Fr.ite (fun _ => ?_) (fun _ => ?_)
  · refine Fr.bd (frM12_isHere _ 127 (by decide) hm_m) (fun r13 m14 hm_m14 => ?_)
    refine Fr.ite (fun _ => ?_) (fun _ => ?_)
    · refine Fr.bd (frM12_isHere _ 128 (by decide) hm_m14) (fun r15 m16 hm_m16 => ?_)
      refine Fr.ite (fun _ => ?_) (fun _ => ?_)
      · refine Fr.bd (frM12_isHere _ 129 (by decide) hm_m16) (fun r17 m18 hm_m18 => ?_)
        refine Fr.ite (fun _ => ?_) (fun _ => ?_)
        · refine Fr.bd (frM12_isHere _ 130 (by decide) hm_m18) (fun r19 m20 hm_m20 => ?_)
          refine Fr.ite (fun _ => ?_) (fun _ => ?_)
          · refine Fr.bd (frM12_isHere _ 131 (by decide) hm_m20) (fun r21 m22 hm_m22 => ?_)
            refine Fr.ite (fun _ => ?_) (fun _ => ?_)
            · refine Fr.bd (frM12_isHere _ 132 (by decide) hm_m22) (fun r23 m24 hm_m24 => ?_)
              refine Fr.ite (fun _ => ?_) (fun _ => ?_)
              · exact frM12_isOwnHere_J223 _ _ hm_m24
              · exact frM12_isOwnHere_J218 _ hm_m24
            · exact frM12_isOwnHere_J218 _ hm_m22
          · exact frM12_isOwnHere_J218 _ hm_m20
        · exact frM12_isOwnHere_J218 _ hm_m18
      · exact frM12_isOwnHere_J218 _ hm_m16
    · exact frM12_isOwnHere_J218 _ hm_m14
  · exact frM12_isOwnHere_J218 _ hm_m
set_option maxRecDepth 100000 in
set_option maxHeartbeats 4000000 in
theorem frM12_isOwnHere_J142 {m0 : ev_M} (f : Nat) {m : ev_M}  (hm_m : frM m0 m) : Fr (frM m0) (FX12_isOwnHere_J142 f m) := by
  unfold FX12_isOwnHere_J142
  exact frM12_isOwnHere_J147 _ _ hm_m
set_option maxRecDepth 100000 in
set_option maxHeartbeats 4000000 in
theorem frM12_isOwnHere_J71 {m0 : ev_M} (f : Nat) (s0 : Int32) {m : ev_M}  (hm_m : frM m0 m) : Fr (frM m0) (FX12_isOwnHere_J71 f s0 m) := by
  unfold FX12_isOwnHere_J71
  refine Fr.ite (fun _ => ?_) (fun _ => ?_)
  · refine Fr.bd (frM12_isHere _ 121 (by decide) hm_m) (fun r25 m26 hm_m26 => ?_)
    refine Fr.ite (fun _ => ?_) (fun _ => ?_)
    · refine Fr.bd (frM12_isHere _ 122 (by decide) hm_m26) (fun r27 m28 hm_m28 => ?_)
      refine Fr.ite (fun _ => ?_) (fun _ => ?_)
      · refine Fr.bd (frM12_isHere _ 123 (by decide) hm_m28) (fun r29 m30 hm_m30 => ?_)
        refine Fr.ite (fun _ => ?_) (fun _ => ?_)
        · refine Fr.bd (frM12_isHere _ 124 (by decide) hm_m30) (fun r31 m32 hm_m32 => ?_)
          refine Fr.ite (fun _ => ?_) (fun _ => ?_)
          · refine Fr.bd (frM12_isHere _ 125 (by decide) hm_m32) (fun r33 m34 hm_m34 => ?_)
            refine Fr.ite (fun _ => ?_) (fun _ => ?_)
            · refine Fr.bd (frM12_isHere _ 126 (by decide) hm_m34) (fun r35 m36 hm_m36 => ?_)
              refine Fr.ite (fun _ => ?_) (fun _ => ?_)
              · exact frM12_isOwnHere_J147 _ _ hm_m36
              · exact frM12_isOwnHere_J142 _ hm_m36
            · exact frM12_isOwnHere_J142 _ hm_m34
          · exact frM12_isOwnHere_J142 _ hm_m32
        · exact frM12_isOwnHere_J142 _ hm_m30
      · exact frM12_isOwnHere_J142 _ hm_m28
    · exact frM12_isOwnHere_J142 _ hm_m26
  · exact frM12_isOwnHere_J142 _ hm_m
set_option maxRecDepth 100000 in
set_option maxHeartbeats 4000000 in
theorem frM12_isOwnHere_J66 {m0 : ev_M} (f : Nat) {m : ev_M}  (hm_m : frM m0 m) : Fr (frM m0) (FX12_isOwnHere_J66 f m) := by
  unfold FX12_isOwnHere_J66
  exact frM12_isOwnHere_J71 _ _ hm_m
set_option maxRecDepth 100000 in
set_option maxHeartbeats 4000000 in
theorem frM12_isOwnHere {m0 : ev_M} (f : Nat) {m : ev_M}  (hm_m : frM m0 m) : Fr (frM m0) (FX12_isOwnHere f m) := by
  unfold FX12_isOwnHere
  refine Fr.bd (frM12_isHere _ 115 (by decide) hm_m) (fun r1 m2 hm_m2 => ?_)
  refine Fr.ite (fun _ => ?_) (fun _ => ?_)
  · refine Fr.bd (frM12_isHere _ 116 (by decide) hm_m2) (fun r37 m38 hm_m38 => ?_)
    refine Fr.ite (fun _ => ?_) (fun _ => ?_)
    · refine Fr.bd (frM12_isHere _ 117 (by decide) hm_m38) (fun r39 m40 hm_m40 => ?_)
      refine Fr.ite (fun _ => ?_) (fun _ => ?_)
      · refine Fr.bd (frM12_isHere _ 118 (by decide) hm_m40) (fun r41 m42 hm_m42 => ?_)
        refine Fr.ite (fun _ => ?_) (fun _ => ?_)
        · refine Fr.bd (frM12_isHere _ 119 (by decide) hm_m42) (fun r43 m44 hm_m44 => ?_)
          refine Fr.ite (fun _ => ?_) (fun _ => ?_)
          · refine Fr.bd (frM12_isHere _ 120 (by decide) hm_m44) (fun r45 m46 hm_m46 => ?_)
            refine Fr.ite (fun _ => ?_) (fun _ => ?_)
            · exact frM12_isOwnHere_J71 _ _ hm_m46
            · exact frM12_isOwnHere_J66 _ hm_m46
          · exact frM12_isOwnHere_J66 _ hm_m44
        · exact frM12_isOwnHere_J66 _ hm_m42
      · exact frM12_isOwnHere_J66 _ hm_m40
    · exact frM12_isOwnHere_J66 _ hm_m38
  · exact frM12_isOwnHere_J66 _ hm_m2
set_option maxRecDepth 100000 in
set_option maxHeartbeats 4000000 in
theorem frM12_name_J37 {m0 : ev_M} (f : Nat) {m : ev_M}  (hm_m : frM m0 m) : Fr (frM m0) (FX12_name_J37 f m) := by
  unfold FX12_name_J37
  refine Fr.bd (frM12_fail _ _ _ hm_m) (fun _ m6 hm_m6 => ?_)
  exact Fr.ok hm_m6
set_option maxRecDepth 100000 in
set_option maxHeartbeats 4000000 in
theorem frM12_name_L58 {m0 : ev_M} (f : Nat) (k : Int64 → ev_M → Option (Int64 × ev_M)) (hk : ∀ (x0 : Int64) (xm : ev_M), frM m0 xm → Fr (frM m0) (k x0 xm)) : ∀ (n : Nat) (a1 : Int64) (m : ev_M), frM m0 m → Fr (frM m0) (FX12_name_L58 f k n a1 m) := by
  intro n
  induction n with
  | zero => intros; exact Fr.none
  | succ n ih =>
    intro a1 m hm_m
    rw [FX12_name_L58]
    refine Fr.ite (fun _ => ?_) (fun _ => ?_)
    · exact hk _ _ hm_m
    · refine Fr.ite (fun _ => ?_) (fun _ => ?_)
      · refine Fr.bd (frM12_isLetter _ _ hm_m) (fun r9 m10 hm_m10 => ?_)
        refine Fr.ite (fun _ => ?_) (fun _ => ?_)
        · exact hk _ _ hm_m10
        · refine Fr.ite (fun _ => ?_) (fun _ => ?_)
          · refine Fr.bd (frM12_fail _ _ _ hm_m10) (fun _ m12 hm_m12 => ?_)
            exact Fr.ok hm_m12
          · refine Fr.ite (fun _ => ?_) (fun _ => ?_)
            · exact ih _ (frM_I (by decide) hm_m10)
            · exact Fr.none
      · exact Fr.none
set_option maxRecDepth 100000 in
set_option maxHeartbeats 4000000 in
theorem frM12_name {m0 : ev_M} (f : Nat) {m : ev_M}  (hm_m : frM m0 m) : Fr (frM m0) (FX12_name f m) := by
  unfold FX12_name
  refine Fr.ite (fun _ => ?_) (fun _ => ?_)
  · refine Fr.bd (frM12_look _ hm_m) (fun r1 m2 hm_m2 => ?_)
    refine Fr.bd (frM12_isLetter _ _ hm_m2) (fun r3 m4 hm_m4 => ?_)
    refine Fr.ite (fun _ => ?_) (fun _ => ?_)
    · exact frM12_name_J37 _ hm_m4
    · refine Fr.ite (fun _ => ?_) (fun _ => ?_)
      · exact frM12_name_J37 _ hm_m4
      · refine Fr.bd (frM12_isOwnHere _ hm_m4) (fun r7 m8 hm_m8 => ?_)
        refine Fr.ite (fun _ => ?_) (fun _ => ?_)
        · exact frM12_name_L58 _ _ ((by
  intro e13 m14 hm_m14
  exact Fr.ok (frM_I (by decide) hm_m14))) _ _ _ (frM_I (by decide) hm_m8)
        · exact frM12_name_J37 _ hm_m8
  · exact Fr.ok hm_m
set_option maxRecDepth 100000 in
set_option maxHeartbeats 4000000 in
theorem frM12_isAllowed {m0 : ev_M} (f : Nat) (a1 : Int32) {m : ev_M}  (hm_m : frM m0 m) : Fr (frM m0) (FX12_isAllowed f a1 m) := by
  unfold FX12_isAllowed
  refine Fr.ite (fun _ => ?_) (fun _ => ?_)
  · refine Fr.ite (fun _ => ?_) (fun _ => ?_)
    · exact Fr.ok hm_m
    · exact Fr.ok hm_m
  · refine Fr.ite (fun _ => ?_) (fun _ => ?_)
    · refine Fr.ite (fun _ => ?_) (fun _ => ?_)
      · exact Fr.ok hm_m
      · refine Fr.ite (fun _ => ?_) (fun _ => ?_)
        · exact Fr.ok hm_m
        · exact Fr.ok hm_m
    · refine Fr.bd (frM12_isIn _ _ _ _ hm_m) (fun r1 m2 hm_m2 => ?_)
      refine Fr.ite (fun _ => ?_) (fun _ => ?_)
      · refine Fr.ite (fun _ => ?_) (fun _ => ?_)
        · exact Fr.ok hm_m2
        · exact Fr.ok hm_m2
      · exact Fr.ok hm_m2
set_option maxRecDepth 100000 in
set_option maxHeartbeats 4000000 in
theorem frM12_nameOf_L2 {m0 : ev_M} (f : Nat) (k : ev_M → Option (Int32 × ev_M)) (a1 : Int64) (hk : ∀  (xm : ev_M), frM m0 xm → Fr (frM m0) (k xm)) : ∀ (n : Nat) (a3 : Int32) (m : ev_M), frM m0 m → Fr (frM m0) (FX12_nameOf_L2 f k a1 n a3 m) := by
  intro n
  induction n with
  | zero => intros; exact Fr.none
  | succ n ih =>
    intro a3 m hm_m
    rw [FX12_nameOf_L2]
    refine Fr.ite (fun _ => ?_) (fun _ => ?_)
    · exact hk _ hm_m
    · refine Fr.ite (fun _ => ?_) (fun _ => ?_)
      · refine Fr.ite (fun _ => ?_) (fun _ => ?_)
        · exact Fr.ok hm_m
        · exact ih _ hm_m
      · exact Fr.none
set_option maxRecDepth 100000 in
set_option maxHeartbeats 4000000 in
theorem frM12_nameOf {m0 : ev_M} (f : Nat) (a1 : Int64) {m : ev_M}  (hm_m : frM m0 m) : Fr (frM m0) (FX12_nameOf f a1 m) := by
  unfold FX12_nameOf
  exact frM12_nameOf_L2 _ _ _ ((by
  intro m1 hm_m1
  exact Fr.ok hm_m1)) _ _ _ hm_m
set_option maxRecDepth 100000 in
set_option maxHeartbeats 4000000 in
theorem frM12_callTold0 {m0 : ev_M} (f : Nat) {m : ev_M}  (hm_m : frM m0 m) : Fr (frM m0) (FX12_callTold0 f m) := by
  unfold FX12_callTold0
  refine Fr.bd (frM12_asks _ 115 (by decide) hm_m) (fun _ m2 hm_m2 => ?_)
  refine Fr.bd (frM12_number _ _ _ hm_m2) (fun r3 m4 hm_m4 => ?_)
  refine Fr.bd (frM12_asksSign _ _ (frM_I (by decide) hm_m4)) (fun _ m6 hm_m6 => ?_)
  exact Fr.ok hm_m6
set_option maxRecDepth 100000 in
set_option maxHeartbeats 4000000 in
theorem frM12_towerTold_J60 {m0 : ev_M} (f : Nat) (a2 : Int64) {m : ev_M}  (hm_m : frM m0 m) : Fr (frM m0) (FX12_towerTold_J60 f a2 m) := by
  unfold FX12_towerTold_J60
  refine Fr.bd (frM12_asks _ 117 (by decide) hm_m) (fun _ m4 hm_m4 => ?_)
  refine Fr.bd (frM12_number _ _ _ hm_m4) (fun r5 m6 hm_m6 => ?_)
  refine Fr.bd (frM12_asks _ 118 (by decide) hm_m6) (fun _ m8 hm_m8 => ?_)
  refine Fr.bd (frM12_number _ _ _ hm_m8) (fun r9 m10 hm_m10 => ?_)
  refine Fr.ite (fun _ => ?_) (fun _ => ?_)
  · refine Fr.ite (fun _ => ?_) (fun _ => ?_)
    · refine Fr.ite (fun _ => ?_) (fun _ => ?_)
      · refine Fr.ite (fun _ => ?_) (fun _ => ?_)
        · refine Fr.ite (fun _ => ?_) (fun _ => ?_)
          · exact Fr.ok (frM_L (by decide) (frM_I (by decide) (frM_I (by decide) (frM_I (by decide) (frM_I (by decide) hm_m10)))))
          · exact Fr.none
        · exact Fr.none
      · exact Fr.none
    · exact Fr.none
  · exact Fr.ok hm_m10
set_option maxRecDepth 100000 in
set_option maxHeartbeats 4000000 in
theorem frM12_towerTold_J22 {m0 : ev_M} (f : Nat) {m : ev_M}  (hm_m : frM m0 m) : Fr (frM m0) (FX12_towerTold_J22 f m) := by
  unfold FX12_towerTold_J22
  refine Fr.ite (fun _ => ?_) (fun _ => ?_)
  · refine Fr.bd (frM12_name _ hm_m) (fun r1 m2 hm_m2 => ?_)
    refine Fr.ite (fun _ => ?_) (fun _ => ?_)
    · refine Fr.bd (frM12_nameOf _ _ hm_m2) (fun r11 m12 hm_m12 => ?_)
      refine Fr.ite (fun _ => ?_) (fun _ => ?_)
      · exact frM12_towerTold_J60 _ _ hm_m12
      · refine Fr.bd (frM12_fail _ _ _ hm_m12) (fun _ m14 hm_m14 => ?_)
        exact frM12_towerTold_J60 _ _ hm_m14
    · exact frM12_towerTold_J60 _ _ hm_m2
  · exact Fr.ok hm_m
set_option maxRecDepth 100000 in
set_option maxHeartbeats 4000000 in
theorem frM12_towerTold {m0 : ev_M} (f : Nat) (a1 : Int32) {m : ev_M}  (hm_m : frM m0 m) : Fr (frM m0) (FX12_towerTold f a1 m) := by
  unfold FX12_towerTold
  refine Fr.ite (fun _ => ?_) (fun _ => ?_)
  · refine Fr.ite (fun _ => ?_) (fun _ => ?_)
    · refine Fr.bd (frM12_fail _ _ _ hm_m) (fun _ m16 hm_m16 => ?_)
      exact frM12_towerTold_J22 _ hm_m16
    · exact frM12_towerTold_J22 _ hm_m
  · exact frM12_towerTold_J22 _ hm_m
set_option maxRecDepth 100000 in
set_option maxHeartbeats 4000000 in
theorem frM12_yesTold_J37 {m0 : ev_M} (f : Nat) (a3 : Int32) {m : ev_M}  (hm_m : frM m0 m) : Fr (frM m0) (FX12_yesTold_J37 f a3 m) := by
  unfold FX12_yesTold_J37
  refine Fr.bd (frM12_fail _ _ _ hm_m) (fun _ m6 hm_m6 => ?_)
  refine Fr.ite (fun _ => ?_) (fun _ => ?_)
  · refine Fr.ite (fun _ => ?_) (fun _ => ?_)
    · exact Fr.ok (frM_I (by decide) hm_m6)
    · exact Fr.none
  · exact Fr.ok hm_m6
set_option maxRecDepth 100000 in
set_option maxHeartbeats 4000000 in
theorem frM12_yesTold {m0 : ev_M} (f : Nat) {m : ev_M}  (hm_m : frM m0 m) : Fr (frM m0) (FX12_yesTold f m) := by
  unfold FX12_yesTold
  refine Fr.bd (frM12_name _ hm_m) (fun r1 m2 hm_m2 => ?_)
  refine Fr.bd (frM12_nameOf _ _ hm_m2) (fun r3 m4 hm_m4 => ?_)
  refine Fr.ite (fun _ => ?_) (fun _ => ?_)
  · refine Fr.ite (fun _ => ?_) (fun _ => ?_)
    · exact frM12_yesTold_J37 _ _ hm_m4
    · refine Fr.ite (fun _ => ?_) (fun _ => ?_)
      · refine Fr.ite (fun _ => ?_) (fun _ => ?_)
        · exact frM12_yesTold_J37 _ _ hm_m4
        · refine Fr.ite (fun _ => ?_) (fun _ => ?_)
          · refine Fr.ite (fun _ => ?_) (fun _ => ?_)
            · exact Fr.ok (frM_I (by decide) hm_m4)
            · exact Fr.none
          · exact Fr.ok hm_m4
      · exact Fr.none
  · refine Fr.ite (fun _ => ?_) (fun _ => ?_)
    · refine Fr.ite (fun _ => ?_) (fun _ => ?_)
      · exact Fr.ok (frM_I (by decide) hm_m4)
      · exact Fr.none
    · exact Fr.ok hm_m4
set_option maxRecDepth 100000 in
set_option maxHeartbeats 4000000 in
theorem frM12_stands_L15 {m0 : ev_M} (f : Nat) (k : ev_M → Option (Unit × ev_M)) (hk : ∀  (xm : ev_M), frM m0 xm → Fr (frM m0) (k xm)) : ∀ (n : Nat) (a1 : Int32) (m : ev_M), frM m0 m → Fr (frM m0) (FX12_stands_L15 f k n a1 m) := by
  intro n
  induction n with
  | zero => intros; exact Fr.none
  | succ n ih =>
    intro a1 m hm_m
    rw [FX12_stands_L15]
    refine Fr.ite (fun _ => ?_) (fun _ => ?_)
    · exact hk _ hm_m
    · refine Fr.ite (fun _ => ?_) (fun _ => ?_)
      · refine Fr.ite (fun _ => ?_) (fun _ => ?_)
        · exact ih _ (frM_L (by decide) hm_m)
        · exact Fr.none
      · exact Fr.none
set_option maxRecDepth 100000 in
set_option maxHeartbeats 4000000 in
theorem frM12_stands_L44 {m0 : ev_M} (f : Nat) (k : ev_M → Option (Unit × ev_M)) (hk : ∀  (xm : ev_M), frM m0 xm → Fr (frM m0) (k xm)) : ∀ (n : Nat) (a1 : Int32) (m : ev_M), frM m0 m → Fr (frM m0) (FX12_stands_L44 f k n a1 m) := by
  intro n
  induction n with
  | zero => intros; exact Fr.none
  | succ n ih =>
    intro a1 m hm_m
    rw [FX12_stands_L44]
    refine Fr.ite (fun _ => ?_) (fun _ => ?_)
    · exact hk _ hm_m
    · refine Fr.ite (fun _ => ?_) (fun _ => ?_)
      · refine Fr.ite (fun _ => ?_) (fun _ => ?_)
        · exact ih _ (frM_I (by decide) hm_m)
        · exact Fr.none
      · exact Fr.none
set_option maxRecDepth 100000 in
set_option maxHeartbeats 4000000 in
theorem frM12_stands_L71 {m0 : ev_M} (f : Nat) (k : ev_M → Option (Unit × ev_M)) (hk : ∀  (xm : ev_M), frM m0 xm → Fr (frM m0) (k xm)) : ∀ (n : Nat) (a1 : Int32) (m : ev_M), frM m0 m → Fr (frM m0) (FX12_stands_L71 f k n a1 m) := by
  intro n
  induction n with
  | zero => intros; exact Fr.none
  | succ n ih =>
    intro a1 m hm_m
    rw [FX12_stands_L71]
    refine Fr.ite (fun _ => ?_) (fun _ => ?_)
    · exact hk _ hm_m
    · refine Fr.ite (fun _ => ?_) (fun _ => ?_)
      · refine Fr.ite (fun _ => ?_) (fun _ => ?_)
        · refine Fr.ite (fun _ => ?_) (fun _ => ?_)
          · refine Fr.ite (fun _ => ?_) (fun _ => ?_)
            · exact ih _ (frM_I (by decide) (frM_I (by decide) hm_m))
            · exact Fr.none
          · exact Fr.none
        · exact Fr.none
      · exact Fr.none
set_option maxRecDepth 100000 in
set_option maxHeartbeats 4000000 in
theorem frM12_stands_L112 {m0 : ev_M} (f : Nat) (k : ev_M → Option (Unit × ev_M)) (hk : ∀  (xm : ev_M), frM m0 xm → Fr (frM m0) (k xm)) : ∀ (n : Nat) (a1 : Int32) (m : ev_M), frM m0 m → Fr (frM m0) (FX12_stands_L112 f k n a1 m) := by
  intro n
  induction n with
  | zero => intros; exact Fr.none
  | succ n ih =>
    intro a1 m hm_m
    rw [FX12_stands_L112]
    refine Fr.ite (fun _ => ?_) (fun _ => ?_)
    · exact hk _ hm_m
    · refine Fr.ite (fun _ => ?_) (fun _ => ?_)
      · refine Fr.ite (fun _ => ?_) (fun _ => ?_)
        · exact ih _ (frM_I (by decide) hm_m)
        · exact Fr.none
      · exact Fr.none
set_option maxRecDepth 100000 in
set_option maxHeartbeats 4000000 in
theorem frM12_stands_L144 {m0 : ev_M} (f : Nat) (k : ev_M → Option (Unit × ev_M)) (hk : ∀  (xm : ev_M), frM m0 xm → Fr (frM m0) (k xm)) : ∀ (n : Nat) (a1 : Int32) (m : ev_M), frM m0 m → Fr (frM m0) (FX12_stands_L144 f k n a1 m) := by
  intro n
  induction n with
  | zero => intros; exact Fr.none
  | succ n ih =>
    intro a1 m hm_m
    rw [FX12_stands_L144]
    refine Fr.ite (fun _ => ?_) (fun _ => ?_)
    · exact hk _ hm_m
    · refine Fr.ite (fun _ => ?_) (fun _ => ?_)
      · exact ih _ (frM_I (by decide) hm_m)
      · exact Fr.none
set_option maxRecDepth 100000 in
set_option maxHeartbeats 4000000 in
theorem frM12_stands_L176 {m0 : ev_M} (f : Nat) (k : ev_M → Option (Unit × ev_M)) (hk : ∀  (xm : ev_M), frM m0 xm → Fr (frM m0) (k xm)) : ∀ (n : Nat) (a1 : Int32) (m : ev_M), frM m0 m → Fr (frM m0) (FX12_stands_L176 f k n a1 m) := by
  intro n
  induction n with
  | zero => intros; exact Fr.none
  | succ n ih =>
    intro a1 m hm_m
    rw [FX12_stands_L176]
    refine Fr.ite (fun _ => ?_) (fun _ => ?_)
    · exact hk _ hm_m
    · refine Fr.ite (fun _ => ?_) (fun _ => ?_)
      · refine Fr.ite (fun _ => ?_) (fun _ => ?_)
        · exact ih _ (frM_I (by decide) hm_m)
        · exact Fr.none
      · exact Fr.none
set_option maxRecDepth 100000 in
set_option maxHeartbeats 4000000 in
theorem frM12_stands {m0 : ev_M} (f : Nat) {m : ev_M}  (hm_m : frM m0 m) : Fr (frM m0) (FX12_stands f m) := by
  unfold FX12_stands
  exact frM12_stands_L15 _ _ ((by
  intro m1 hm_m1
  exact frM12_stands_L44 _ _ ((by
  intro m2 hm_m2
  exact frM12_stands_L71 _ _ ((by
  intro m3 hm_m3
  exact frM12_stands_L112 _ _ ((by
  intro m4 hm_m4
  exact frM12_stands_L144 _ _ ((by
  intro m5 hm_m5
  exact frM12_stands_L176 _ _ ((by
  intro m6 hm_m6
  exact Fr.ok (frM_I (by decide) (frM_I (by decide) hm_m6)))) _ _ _ (frM_I (by decide) hm_m5))) _ _ _ hm_m4)) _ _ _ hm_m3)) _ _ _ hm_m2)) _ _ _ hm_m1)) _ _ _ (frM_I (by decide) (frM_I (by decide) hm_m))
set_option maxRecDepth 100000 in
set_option maxHeartbeats 4000000 in
theorem frM12_fault {m0 : ev_M} (f : Nat) (a1 : Int32) {m : ev_M}  (hm_m : frM m0 m) : Fr (frM m0) (FX12_fault f a1 m) := by
  unfold FX12_fault
  refine Fr.ite (fun _ => ?_) (fun _ => ?_)
  · exact Fr.ok hm_m
  · refine Fr.ite (fun _ => ?_) (fun _ => ?_)
    · exact Fr.ok hm_m
    · exact Fr.ok hm_m
set_option maxRecDepth 100000 in
set_option maxHeartbeats 4000000 in
theorem frM12_towerMany {m0 : ev_M} (f : Nat) {m : ev_M}  (hm_m : frM m0 m) : Fr (frM m0) (FX12_towerMany f m) := by
  unfold FX12_towerMany
  exact Fr.ok hm_m
set_option maxRecDepth 100000 in
set_option maxHeartbeats 4000000 in
theorem frM12_isTower {m0 : ev_M} (f : Nat) (a1 : Int32) {m : ev_M}  (hm_m : frM m0 m) : Fr (frM m0) (FX12_isTower f a1 m) := by
  unfold FX12_isTower
  refine Fr.bd (frM12_towerMany _ hm_m) (fun r1 m2 hm_m2 => ?_)
  refine Fr.bd (frM12_isIn _ _ _ _ hm_m2) (fun r3 m4 hm_m4 => ?_)
  refine Fr.ite (fun _ => ?_) (fun _ => ?_)
  · exact Fr.ok hm_m4
  · exact Fr.none
set_option maxRecDepth 100000 in
set_option maxHeartbeats 4000000 in
theorem frM12_moodOf {m0 : ev_M} (f : Nat) (a1 : Int32) {m : ev_M}  (hm_m : frM m0 m) : Fr (frM m0) (FX12_moodOf f a1 m) := by
  unfold FX12_moodOf
  refine Fr.ite (fun _ => ?_) (fun _ => ?_)
  · exact Fr.ok hm_m
  · exact Fr.none
set_option maxRecDepth 100000 in
set_option maxHeartbeats 4000000 in
theorem frM12_cheerOf {m0 : ev_M} (f : Nat) (a1 : Int32) {m : ev_M}  (hm_m : frM m0 m) : Fr (frM m0) (FX12_cheerOf f a1 m) := by
  unfold FX12_cheerOf
  refine Fr.ite (fun _ => ?_) (fun _ => ?_)
  · exact Fr.ok hm_m
  · exact Fr.none
set_option maxRecDepth 100000 in
set_option maxHeartbeats 4000000 in
theorem frM12_isYes {m0 : ev_M} (f : Nat) (a1 : Int32) {m : ev_M}  (hm_m : frM m0 m) : Fr (frM m0) (FX12_isYes f a1 m) := by
  unfold FX12_isYes
  refine Fr.ite (fun _ => ?_) (fun _ => ?_)
  · refine Fr.ite (fun _ => ?_) (fun _ => ?_)
    · exact Fr.ok hm_m
    · exact Fr.ok hm_m
  · exact Fr.none
set_option maxRecDepth 100000 in
set_option maxHeartbeats 4000000 in
theorem frM12_cut {m0 : ev_M} (f : Nat) (a0 : Int64) {m : ev_M}  (hm_m : frM m0 m) : Fr (frM m0) (FX12_cut f a0 m) := by
  unfold FX12_cut
  refine Fr.ite (fun _ => ?_) (fun _ => ?_)
  · refine Fr.ite (fun _ => ?_) (fun _ => ?_)
    · exact Fr.ok hm_m
    · exact Fr.ok hm_m
  · exact Fr.ok hm_m
set_option maxRecDepth 100000 in
set_option maxHeartbeats 4000000 in
theorem frM12_isDoubt {m0 : ev_M} (f : Nat) (a1 : Int32) {m : ev_M}  (hm_m : frM m0 m) : Fr (frM m0) (FX12_isDoubt f a1 m) := by
  unfold FX12_isDoubt
  refine Fr.ite (fun _ => ?_) (fun _ => ?_)
  · refine Fr.ite (fun _ => ?_) (fun _ => ?_)
    · exact Fr.ok hm_m
    · exact Fr.ok hm_m
  · exact Fr.none
set_option maxRecDepth 100000 in
set_option maxHeartbeats 4000000 in
theorem frM12_rowAt_L26 {m0 : ev_M} (f : Nat) (k : Int32 → ev_M → Option (Int32 × ev_M)) (a1 : Int32) (hk : ∀ (x0 : Int32) (xm : ev_M), frM m0 xm → Fr (frM m0) (k x0 xm)) : ∀ (n : Nat) (a2 : Int32) (m : ev_M), frM m0 m → Fr (frM m0) (FX12_rowAt_L26 f k a1 n a2 m) := by
  intro n
  induction n with
  | zero => intros; exact Fr.none
  | succ n ih =>
    intro a2 m hm_m
    rw [FX12_rowAt_L26]
    refine Fr.bd (frM12_towerMany _ hm_m) (fun r3 m4 hm_m4 => ?_)
    refine Fr.ite (fun _ => ?_) (fun _ => ?_)
    · exact hk _ _ hm_m4
    · refine Fr.bd (frM12_isDoubt _ _ hm_m4) (fun r5 m6 hm_m6 => ?_)
      refine Fr.ite (fun _ => ?_) (fun _ => ?_)
      · exact hk _ _ hm_m6
      · exact ih _ hm_m6
set_option maxRecDepth 100000 in
set_option maxHeartbeats 4000000 in
theorem frM12_rowAt_J24 {m0 : ev_M} (f : Nat) (a1 : Int32) {m : ev_M}  (hm_m : frM m0 m) : Fr (frM m0) (FX12_rowAt_J24 f a1 m) := by
  unfold FX12_rowAt_J24
  exact frM12_rowAt_L26 _ _ _ ((by
  intro e7 m8 hm_m8
  exact Fr.ok hm_m8)) _ _ _ hm_m
set_option maxRecDepth 100000 in
set_option maxHeartbeats 4000000 in
theorem frM12_rowAt {m0 : ev_M} (f : Nat) (a1 : Int32) {m : ev_M}  (hm_m : frM m0 m) : Fr (frM m0) (FX12_rowAt f a1 m) := by
  unfold FX12_rowAt
  refine Fr.bd (frM12_isDoubt _ _ hm_m) (fun r1 m2 hm_m2 => ?_)
  refine Fr.ite (fun _ => ?_) (fun _ => ?_)
  · exact Fr.ok hm_m2
  · refine Fr.ite (fun _ => ?_) (fun _ => ?_)
    · exact frM12_rowAt_J24 _ _ hm_m2
    · refine Fr.bd (frM12_isDoubt _ _ hm_m2) (fun r9 m10 hm_m10 => ?_)
      refine Fr.ite (fun _ => ?_) (fun _ => ?_)
      · exact frM12_rowAt_J24 _ _ hm_m10
      · exact Fr.ok hm_m10
set_option maxRecDepth 100000 in
set_option maxHeartbeats 4000000 in
theorem frM12_rowOf_L2 {m0 : ev_M} (f : Nat) (k : ev_M → Option (Int32 × ev_M)) (a1 : Int32) (hk : ∀  (xm : ev_M), frM m0 xm → Fr (frM m0) (k xm)) : ∀ (n : Nat) (a2 : Int32) (m : ev_M), frM m0 m → Fr (frM m0) (FX12_rowOf_L2 f k a1 n a2 m) := by
  intro n
  induction n with
  | zero => intros; exact Fr.none
  | succ n ih =>
    intro a2 m hm_m
    rw [FX12_rowOf_L2]
    refine Fr.bd (frM12_towerMany _ hm_m) (fun r1 m2 hm_m2 => ?_)
    refine Fr.ite (fun _ => ?_) (fun _ => ?_)
    · exact hk _ hm_m2
    · refine Fr.bd (frM12_rowAt _ _ hm_m2) (fun r3 m4 hm_m4 => ?_)
      refine Fr.ite (fun _ => ?_) (fun _ => ?_)
      · exact ih _ hm_m4
      · exact Fr.ok hm_m4
set_option maxRecDepth 100000 in
set_option maxHeartbeats 4000000 in
theorem frM12_rowOf {m0 : ev_M} (f : Nat) (a1 : Int32) {m : ev_M}  (hm_m : frM m0 m) : Fr (frM m0) (FX12_rowOf f a1 m) := by
  unfold FX12_rowOf
  exact frM12_rowOf_L2 _ _ _ ((by
  intro m5 hm_m5
  exact Fr.ok hm_m5)) _ _ _ hm_m
set_option maxRecDepth 100000 in
set_option maxHeartbeats 4000000 in
theorem frM12_doubtsNow_J23 {m0 : ev_M} (f : Nat) (kt4 : Int32 → Int32 → ev_M → Option (Int32 × ev_M)) (a1 : Int32) (a2 : Int32) {m : ev_M} (hkt4 : ∀ (x0 : Int32) (x1 : Int32) (xm : ev_M), frM m0 xm → Fr (frM m0) (kt4 x0 x1 xm)) (hm_m : frM m0 m) : Fr (frM m0) (FX12_doubtsNow_J23 f kt4 a1 a2 m) := by
  unfold FX12_doubtsNow_J23
  exact hkt4 _ _ _ hm_m
set_option maxRecDepth 100000 in
set_option maxHeartbeats 4000000 in
theorem frM12_doubtsNow_L4 {m0 : ev_M} (f : Nat) (k : Int32 → ev_M → Option (Int32 × ev_M)) (hk : ∀ (x0 : Int32) (xm : ev_M), frM m0 xm → Fr (frM m0) (k x0 xm)) : ∀ (n : Nat) (a1 : Int32) (a2 : Int32) (m : ev_M), frM m0 m → Fr (frM m0) (FX12_doubtsNow_L4 f k n a1 a2 m) := by
  intro n
  induction n with
  | zero => intros; exact Fr.none
  | succ n ih =>
    intro a1 a2 m hm_m
    rw [FX12_doubtsNow_L4]
    refine Fr.bd (frM12_towerMany _ hm_m) (fun r1 m2 hm_m2 => ?_)
    refine Fr.ite (fun _ => ?_) (fun _ => ?_)
    · exact hk _ _ hm_m2
    · refine Fr.bd (frM12_isDoubt _ _ hm_m2) (fun r3 m4 hm_m4 => ?_)
      refine Fr.ite (fun _ => ?_) (fun _ => ?_)
      · exact frM12_doubtsNow_J23 _ _ _ _ ih hm_m4
      · exact frM12_doubtsNow_J23 _ _ _ _ ih hm_m4
set_option maxRecDepth 100000 in
set_option maxHeartbeats 4000000 in
theorem frM12_doubtsNow {m0 : ev_M} (f : Nat) {m : ev_M}  (hm_m : frM m0 m) : Fr (frM m0) (FX12_doubtsNow f m) := by
  unfold FX12_doubtsNow
  exact frM12_doubtsNow_L4 _ _ ((by
  intro e5 m6 hm_m6
  exact Fr.ok hm_m6)) _ _ _ _ hm_m
set_option maxRecDepth 100000 in
set_option maxHeartbeats 4000000 in
theorem frM12_isKept_J64 {m0 : ev_M} (f : Nat) (a1 : Int32) (a2 : Int32) {m : ev_M}  (hm_m : frM m0 m) : Fr (frM m0) (FX12_isKept_J64 f a1 a2 m) := by
  unfold FX12_isKept_J64
  refine Fr.ite (fun _ => ?_) (fun _ => ?_)
  · refine Fr.ite (fun _ => ?_) (fun _ => ?_)
    · refine Fr.ite (fun _ => ?_) (fun _ => ?_)
      · exact Fr.ok (frM_I (by decide) (frM_I (by decide) (frM_I (by decide) hm_m)))
      · exact Fr.none
    · exact Fr.none
  · exact Fr.none
set_option maxRecDepth 100000 in
set_option maxHeartbeats 4000000 in
theorem frM12_isKept_L23 {m0 : ev_M} (f : Nat) (k : ev_M → Option (Unit × ev_M)) (hk : ∀  (xm : ev_M), frM m0 xm → Fr (frM m0) (k xm)) : ∀ (n : Nat) (a3 : Int32) (m : ev_M), frM m0 m → Fr (frM m0) (FX12_isKept_L23 f k n a3 m) := by
  intro n
  induction n with
  | zero => intros; exact Fr.none
  | succ n ih =>
    intro a3 m hm_m
    rw [FX12_isKept_L23]
    refine Fr.ite (fun _ => ?_) (fun _ => ?_)
    · exact hk _ hm_m
    · refine Fr.ite (fun _ => ?_) (fun _ => ?_)
      · refine Fr.ite (fun _ => ?_) (fun _ => ?_)
        · exact ih _ (frM_I (by decide) hm_m)
        · exact Fr.none
      · exact Fr.none
set_option maxRecDepth 100000 in
set_option maxHeartbeats 4000000 in
theorem frM12_isKept {m0 : ev_M} (f : Nat) (a1 : Int32) (a2 : Int32) {m : ev_M}  (hm_m : frM m0 m) : Fr (frM m0) (FX12_isKept f a1 a2 m) := by
  unfold FX12_isKept
  refine Fr.ite (fun _ => ?_) (fun _ => ?_)
  · refine Fr.ite (fun _ => ?_) (fun _ => ?_)
    · exact frM12_isKept_L23 _ _ ((by
  intro m1 hm_m1
  exact frM12_isKept_J64 _ _ _ hm_m1)) _ _ _ hm_m
    · exact frM12_isKept_J64 _ _ _ (frM_I (by decide) hm_m)
  · exact Fr.ok hm_m
set_option maxRecDepth 100000 in
set_option maxHeartbeats 4000000 in
theorem frM12_putsAside_L7 {m0 : ev_M} (f : Nat) (k : ev_M → Option (Unit × ev_M)) (hk : ∀  (xm : ev_M), frM m0 xm → Fr (frM m0) (k xm)) : ∀ (n : Nat) (a1 : Int32) (m : ev_M), frM m0 m → Fr (frM m0) (FX12_putsAside_L7 f k n a1 m) := by
  intro n
  induction n with
  | zero => intros; exact Fr.none
  | succ n ih =>
    intro a1 m hm_m
    rw [FX12_putsAside_L7]
    refine Fr.ite (fun _ => ?_) (fun _ => ?_)
    · exact hk _ hm_m
    · refine Fr.ite (fun _ => ?_) (fun _ => ?_)
      · refine Fr.ite (fun _ => ?_) (fun _ => ?_)
        · exact ih _ (frM_I (by decide) hm_m)
        · exact Fr.none
      · exact Fr.none
set_option maxRecDepth 100000 in
set_option maxHeartbeats 4000000 in
theorem frM12_putsAside {m0 : ev_M} (f : Nat) {m : ev_M}  (hm_m : frM m0 m) : Fr (frM m0) (FX12_putsAside f m) := by
  unfold FX12_putsAside
  exact frM12_putsAside_L7 _ _ ((by
  intro m1 hm_m1
  exact Fr.ok (frM_I (by decide) (frM_I (by decide) hm_m1)))) _ _ _ (frM_I (by decide) hm_m)
set_option maxRecDepth 100000 in
set_option maxHeartbeats 4000000 in
theorem frM12_triesAnew_L2 {m0 : ev_M} (f : Nat) (k : ev_M → Option (Unit × ev_M)) (hk : ∀  (xm : ev_M), frM m0 xm → Fr (frM m0) (k xm)) : ∀ (n : Nat) (a1 : Int32) (m : ev_M), frM m0 m → Fr (frM m0) (FX12_triesAnew_L2 f k n a1 m) := by
  intro n
  induction n with
  | zero => intros; exact Fr.none
  | succ n ih =>
    intro a1 m hm_m
    rw [FX12_triesAnew_L2]
    refine Fr.ite (fun _ => ?_) (fun _ => ?_)
    · exact hk _ hm_m
    · refine Fr.ite (fun _ => ?_) (fun _ => ?_)
      · refine Fr.ite (fun _ => ?_) (fun _ => ?_)
        · exact ih _ (frM_I (by decide) hm_m)
        · exact Fr.none
      · exact Fr.none
set_option maxRecDepth 100000 in
set_option maxHeartbeats 4000000 in
theorem frM12_triesAnew {m0 : ev_M} (f : Nat) {m : ev_M}  (hm_m : frM m0 m) : Fr (frM m0) (FX12_triesAnew f m) := by
  unfold FX12_triesAnew
  exact frM12_triesAnew_L2 _ _ ((by
  intro m1 hm_m1
  exact Fr.ok (frM_I (by decide) (frM_I (by decide) hm_m1)))) _ _ _ hm_m
set_option maxRecDepth 100000 in
set_option maxHeartbeats 4000000 in
theorem frM12_takesBack {m0 : ev_M} (f : Nat) {m : ev_M}  (hm_m : frM m0 m) : Fr (frM m0) (FX12_takesBack f m) := by
  unfold FX12_takesBack
  refine Fr.bd (frM12_triesAnew _ hm_m) (fun _ m2 hm_m2 => ?_)
  exact Fr.ok (frM_I (by decide) hm_m2)
set_option maxRecDepth 100000 in
set_option maxHeartbeats 4000000 in
theorem frM12_isAhead {m0 : ev_M} (f : Nat) (a1 : Int32) (a2 : Int32) (a3 : Int32) {m : ev_M}  (hm_m : frM m0 m) : Fr (frM m0) (FX12_isAhead f a1 a2 a3 m) := by
  unfold FX12_isAhead
  refine Fr.ite (fun _ => ?_) (fun _ => ?_)
  · exact Fr.ok hm_m
  · refine Fr.bd (frM12_isIn _ _ _ _ hm_m) (fun r1 m2 hm_m2 => ?_)
    refine Fr.ite (fun _ => ?_) (fun _ => ?_)
    · exact Fr.ok hm_m2
    · refine Fr.ite (fun _ => ?_) (fun _ => ?_)
      · exact Fr.ok hm_m2
      · exact Fr.ok hm_m2
set_option maxRecDepth 100000 in
set_option maxHeartbeats 4000000 in
theorem frM12_bits_L4 {m0 : ev_M} (f : Nat) (k : Int32 → ev_M → Option (Int32 × ev_M)) (hk : ∀ (x0 : Int32) (xm : ev_M), frM m0 xm → Fr (frM m0) (k x0 xm)) : ∀ (n : Nat) (a1 : Int32) (a2 : Int32) (m : ev_M), frM m0 m → Fr (frM m0) (FX12_bits_L4 f k n a1 a2 m) := by
  intro n
  induction n with
  | zero => intros; exact Fr.none
  | succ n ih =>
    intro a1 a2 m hm_m
    rw [FX12_bits_L4]
    refine Fr.ite (fun _ => ?_) (fun _ => ?_)
    · exact hk _ _ hm_m
    · exact ih _ _ hm_m
set_option maxRecDepth 100000 in
set_option maxHeartbeats 4000000 in
theorem frM12_bits {m0 : ev_M} (f : Nat) (a0 : Int32) {m : ev_M}  (hm_m : frM m0 m) : Fr (frM m0) (FX12_bits f a0 m) := by
  unfold FX12_bits
  exact frM12_bits_L4 _ _ ((by
  intro e1 m2 hm_m2
  exact Fr.ok hm_m2)) _ _ _ _ hm_m
set_option maxRecDepth 100000 in
set_option maxHeartbeats 4000000 in
theorem frM12_summed_L4 {m0 : ev_M} (f : Nat) (k : Int32 → ev_M → Option (Int32 × ev_M)) (a1 : Int32) (hk : ∀ (x0 : Int32) (xm : ev_M), frM m0 xm → Fr (frM m0) (k x0 xm)) : ∀ (n : Nat) (a2 : Int32) (a3 : Int32) (m : ev_M), frM m0 m → Fr (frM m0) (FX12_summed_L4 f k a1 n a2 a3 m) := by
  intro n
  induction n with
  | zero => intros; exact Fr.none
  | succ n ih =>
    intro a2 a3 m hm_m
    rw [FX12_summed_L4]
    refine Fr.bd (frM12_towerMany _ hm_m) (fun r1 m2 hm_m2 => ?_)
    refine Fr.ite (fun _ => ?_) (fun _ => ?_)
    · exact hk _ _ hm_m2
    · refine Fr.ite (fun _ => ?_) (fun _ => ?_)
      · exact ih _ _ hm_m2
      · exact Fr.none
set_option maxRecDepth 100000 in
set_option maxHeartbeats 4000000 in
theorem frM12_summed {m0 : ev_M} (f : Nat) (a1 : Int32) {m : ev_M}  (hm_m : frM m0 m) : Fr (frM m0) (FX12_summed f a1 m) := by
  unfold FX12_summed
  exact frM12_summed_L4 _ _ _ ((by
  intro e3 m4 hm_m4
  exact Fr.ok hm_m4)) _ _ _ _ hm_m
set_option maxRecDepth 100000 in
set_option maxHeartbeats 4000000 in
theorem frM12_has {m0 : ev_M} (f : Nat) (a1 : Int32) {m : ev_M}  (hm_m : frM m0 m) : Fr (frM m0) (FX12_has f a1 m) := by
  unfold FX12_has
  refine Fr.ite (fun _ => ?_) (fun _ => ?_)
  · refine Fr.bd (frM12_towerMany _ hm_m) (fun r1 m2 hm_m2 => ?_)
    exact Fr.ok hm_m2
  · refine Fr.ite (fun _ => ?_) (fun _ => ?_)
    · exact Fr.ok hm_m
    · refine Fr.ite (fun _ => ?_) (fun _ => ?_)
      · refine Fr.ite (fun _ => ?_) (fun _ => ?_)
        · exact Fr.ok hm_m
        · exact Fr.ok hm_m
      · refine Fr.ite (fun _ => ?_) (fun _ => ?_)
        · refine Fr.bd (frM12_summed _ _ hm_m) (fun r6 m7 hm_m7 => ?_)
          exact Fr.ok hm_m7
        · refine Fr.ite (fun _ => ?_) (fun _ => ?_)
          · refine Fr.bd (frM12_summed _ _ hm_m) (fun r9 m10 hm_m10 => ?_)
            exact Fr.ok hm_m10
          · refine Fr.ite (fun _ => ?_) (fun _ => ?_)
            · exact Fr.ok hm_m
            · refine Fr.ite (fun _ => ?_) (fun _ => ?_)
              · exact Fr.ok hm_m
              · refine Fr.ite (fun _ => ?_) (fun _ => ?_)
                · exact Fr.ok hm_m
                · exact Fr.ok hm_m
set_option maxRecDepth 100000 in
set_option maxHeartbeats 4000000 in
theorem frM12_letter_L38 {m0 : ev_M} (f : Nat) (k : Int32 → ev_M → Option (Int32 × ev_M)) (hk : ∀ (x0 : Int32) (xm : ev_M), frM m0 xm → Fr (frM m0) (k x0 xm)) : ∀ (n : Nat) (a5 : Int32) (a6 : Int64) (m : ev_M), frM m0 m → Fr (frM m0) (FX12_letter_L38 f k n a5 a6 m) := by
  intro n
  induction n with
  | zero => intros; exact Fr.none
  | succ n ih =>
    intro a5 a6 m hm_m
    rw [FX12_letter_L38]
    refine Fr.ite (fun _ => ?_) (fun _ => ?_)
    · exact hk _ _ hm_m
    · exact ih _ _ hm_m
set_option maxRecDepth 100000 in
set_option maxHeartbeats 4000000 in
theorem frM12_letter_L73 {m0 : ev_M} (f : Nat) (k : Int64 → ev_M → Option (Int32 × ev_M)) (a2 : Int32) (hk : ∀ (x0 : Int64) (xm : ev_M), frM m0 xm → Fr (frM m0) (k x0 xm)) : ∀ (n : Nat) (a3 : Int64) (a6 : Int32) (m : ev_M), frM m0 m → Fr (frM m0) (FX12_letter_L73 f k a2 n a3 a6 m) := by
  intro n
  induction n with
  | zero => intros; exact Fr.none
  | succ n ih =>
    intro a3 a6 m hm_m
    rw [FX12_letter_L73]
    refine Fr.ite (fun _ => ?_) (fun _ => ?_)
    · exact hk _ _ hm_m
    · exact ih _ _ hm_m
set_option maxRecDepth 100000 in
set_option maxHeartbeats 4000000 in
theorem frM12_letter {m0 : ev_M} (f : Nat) (a1 : Int32) (a2 : Int32) {m : ev_M}  (hm_m : frM m0 m) : Fr (frM m0) (FX12_letter f a1 a2 m) := by
  unfold FX12_letter
  refine Fr.bd (frM12_isTower _ _ hm_m) (fun r1 m2 hm_m2 => ?_)
  refine Fr.ite (fun _ => ?_) (fun _ => ?_)
  · exact Fr.ok hm_m2
  · refine Fr.bd (frM12_isIn _ _ _ _ hm_m2) (fun r3 m4 hm_m4 => ?_)
    refine Fr.ite (fun _ => ?_) (fun _ => ?_)
    · exact Fr.ok hm_m4
    · refine Fr.ite (fun _ => ?_) (fun _ => ?_)
      · exact frM12_letter_L38 _ _ ((by
  intro e5 m6 hm_m6
  refine Fr.ite (fun _ => ?_) (fun _ => ?_)
  · exact frM12_letter_L73 _ _ _ ((by
  intro e7 m8 hm_m8
  exact Fr.ok hm_m8)) _ _ _ _ hm_m6
  · exact Fr.ok hm_m6)) _ _ _ _ hm_m4
      · exact Fr.none
set_option maxRecDepth 100000 in
set_option maxHeartbeats 4000000 in
theorem frM12_tower {m0 : ev_M} (f : Nat) (a1 : Int32) (a2 : Int32) {m : ev_M}  (hm_m : frM m0 m) : Fr (frM m0) (FX12_tower f a1 a2 m) := by
  unfold FX12_tower
  refine Fr.bd (frM12_isTower _ _ hm_m) (fun r1 m2 hm_m2 => ?_)
  refine Fr.ite (fun _ => ?_) (fun _ => ?_)
  · exact Fr.ok hm_m2
  · refine Fr.bd (frM12_isIn _ _ _ _ hm_m2) (fun r3 m4 hm_m4 => ?_)
    refine Fr.ite (fun _ => ?_) (fun _ => ?_)
    · exact Fr.ok hm_m4
    · refine Fr.ite (fun _ => ?_) (fun _ => ?_)
      · exact Fr.ok hm_m4
      · exact Fr.none
set_option maxRecDepth 100000 in
set_option maxHeartbeats 4000000 in
theorem frM12_kept {m0 : ev_M} (f : Nat) (a1 : Int32) (a2 : Int32) {m : ev_M}  (hm_m : frM m0 m) : Fr (frM m0) (FX12_kept f a1 a2 m) := by
  unfold FX12_kept
  refine Fr.bd (frM12_isIn _ _ _ _ hm_m) (fun r1 m2 hm_m2 => ?_)
  refine Fr.ite (fun _ => ?_) (fun _ => ?_)
  · exact Fr.ok hm_m2
  · refine Fr.bd (frM12_isIn _ _ _ _ hm_m2) (fun r3 m4 hm_m4 => ?_)
    refine Fr.ite (fun _ => ?_) (fun _ => ?_)
    · exact Fr.ok hm_m4
    · refine Fr.ite (fun _ => ?_) (fun _ => ?_)
      · exact Fr.ok hm_m4
      · exact Fr.none
set_option maxRecDepth 100000 in
set_option maxHeartbeats 4000000 in
theorem frM12_isWritten_L17 {m0 : ev_M} (f : Nat) (k : ev_M → Option (Unit × ev_M)) (a1 : Int32) (hk : ∀  (xm : ev_M), frM m0 xm → Fr (frM m0) (k xm)) : ∀ (n : Nat) (a2 : Int32) (m : ev_M), frM m0 m → Fr (frM m0) (FX12_isWritten_L17 f k a1 n a2 m) := by
  intro n
  induction n with
  | zero => intros; exact Fr.none
  | succ n ih =>
    intro a2 m hm_m
    rw [FX12_isWritten_L17]
    refine Fr.bd (frM12_towerMany _ hm_m) (fun r1 m2 hm_m2 => ?_)
    refine Fr.ite (fun _ => ?_) (fun _ => ?_)
    · exact hk _ hm_m2
    · refine Fr.bd (frM12_moodOf _ _ hm_m2) (fun r3 m4 hm_m4 => ?_)
      refine Fr.ite (fun _ => ?_) (fun _ => ?_)
      · exact ih _ (frM_I (by decide) hm_m4)
      · exact Fr.none
set_option maxRecDepth 100000 in
set_option maxHeartbeats 4000000 in
theorem frM12_isWritten {m0 : ev_M} (f : Nat) (a1 : Int32) {m : ev_M}  (hm_m : frM m0 m) : Fr (frM m0) (FX12_isWritten f a1 m) := by
  unfold FX12_isWritten
  refine Fr.ite (fun _ => ?_) (fun _ => ?_)
  · exact frM12_isWritten_L17 _ _ _ ((by
  intro m5 hm_m5
  exact Fr.ok hm_m5)) _ _ _ (frM_I (by decide) hm_m)
  · exact Fr.none
set_option maxRecDepth 100000 in
set_option maxHeartbeats 4000000 in
theorem frM12_isAs_L2 {m0 : ev_M} (f : Nat) (k : ev_M → Option (Int32 × ev_M)) (a1 : Int32) (a2 : Int32) (hk : ∀  (xm : ev_M), frM m0 xm → Fr (frM m0) (k xm)) : ∀ (n : Nat) (a3 : Int32) (m : ev_M), frM m0 m → Fr (frM m0) (FX12_isAs_L2 f k a1 a2 n a3 m) := by
  intro n
  induction n with
  | zero => intros; exact Fr.none
  | succ n ih =>
    intro a3 m hm_m
    rw [FX12_isAs_L2]
    refine Fr.bd (frM12_towerMany _ hm_m) (fun r1 m2 hm_m2 => ?_)
    refine Fr.ite (fun _ => ?_) (fun _ => ?_)
    · exact hk _ hm_m2
    · refine Fr.ite (fun _ => ?_) (fun _ => ?_)
      · refine Fr.ite (fun _ => ?_) (fun _ => ?_)
        · refine Fr.ite (fun _ => ?_) (fun _ => ?_)
          · exact ih _ hm_m2
          · exact Fr.ok hm_m2
        · exact Fr.none
      · exact Fr.none
set_option maxRecDepth 100000 in
set_option maxHeartbeats 4000000 in
theorem frM12_isAs {m0 : ev_M} (f : Nat) (a1 : Int32) (a2 : Int32) {m : ev_M}  (hm_m : frM m0 m) : Fr (frM m0) (FX12_isAs f a1 a2 m) := by
  unfold FX12_isAs
  exact frM12_isAs_L2 _ _ _ _ ((by
  intro m3 hm_m3
  exact Fr.ok hm_m3)) _ _ _ hm_m
set_option maxRecDepth 100000 in
set_option maxHeartbeats 4000000 in
theorem frM12_changes_L2 {m0 : ev_M} (f : Nat) (k : ev_M → Option (Unit × ev_M)) (a1 : Int32) (a2 : Int32) (hk : ∀  (xm : ev_M), frM m0 xm → Fr (frM m0) (k xm)) : ∀ (n : Nat) (a3 : Int32) (m : ev_M), frM m0 m → Fr (frM m0) (FX12_changes_L2 f k a1 a2 n a3 m) := by
  intro n
  induction n with
  | zero => intros; exact Fr.none
  | succ n ih =>
    intro a3 m hm_m
    rw [FX12_changes_L2]
    refine Fr.ite (fun _ => ?_) (fun _ => ?_)
    · exact hk _ hm_m
    · refine Fr.ite (fun _ => ?_) (fun _ => ?_)
      · refine Fr.ite (fun _ => ?_) (fun _ => ?_)
        · refine Fr.ite (fun _ => ?_) (fun _ => ?_)
          · refine Fr.ite (fun _ => ?_) (fun _ => ?_)
            · exact ih _ (frM_I (by decide) (frM_I (by decide) hm_m))
            · exact Fr.none
          · exact Fr.none
        · exact Fr.none
      · exact Fr.none
set_option maxRecDepth 100000 in
set_option maxHeartbeats 4000000 in
theorem frM12_changes {m0 : ev_M} (f : Nat) (a1 : Int32) (a2 : Int32) {m : ev_M}  (hm_m : frM m0 m) : Fr (frM m0) (FX12_changes f a1 a2 m) := by
  unfold FX12_changes
  exact frM12_changes_L2 _ _ _ _ ((by
  intro m1 hm_m1
  exact Fr.ok hm_m1)) _ _ _ hm_m
set_option maxRecDepth 100000 in
set_option maxHeartbeats 4000000 in
theorem frM12_refuses {m0 : ev_M} (f : Nat) (a1 : Int32) {m : ev_M}  (hm_m : frM m0 m) : Fr (frM m0) (FX12_refuses f a1 m) := by
  unfold FX12_refuses
  refine Fr.ite (fun _ => ?_) (fun _ => ?_)
  · refine Fr.ite (fun _ => ?_) (fun _ => ?_)
    · exact Fr.ok (frM_I (by decide) hm_m)
    · exact Fr.none
  · exact Fr.none
set_option maxRecDepth 100000 in
set_option maxHeartbeats 4000000 in
theorem frM12_see_J96 {m0 : ev_M} (f : Nat) (kt43 : Int32 → Int32 → ev_M → Option (Int32 × ev_M)) (a3 : Int32) (s0 : Int32) {m : ev_M} (hkt43 : ∀ (x0 : Int32) (x1 : Int32) (xm : ev_M), frM m0 xm → Fr (frM m0) (kt43 x0 x1 xm)) (hm_m : frM m0 m) : Fr (frM m0) (FX12_see_J96 f kt43 a3 s0 m) := by
  unfold FX12_see_J96
  exact hkt43 _ _ _ hm_m
set_option maxRecDepth 100000 in
set_option maxHeartbeats 4000000 in
theorem frM12_see_J95 {m0 : ev_M} (f : Nat) (kt43 : Int32 → Int32 → ev_M → Option (Int32 × ev_M)) (a3 : Int32) {m : ev_M} (hkt43 : ∀ (x0 : Int32) (x1 : Int32) (xm : ev_M), frM m0 xm → Fr (frM m0) (kt43 x0 x1 xm)) (hm_m : frM m0 m) : Fr (frM m0) (FX12_see_J95 f kt43 a3 m) := by
  unfold FX12_see_J95
  exact frM12_see_J96 _ _ _ _ hkt43 hm_m
set_option maxRecDepth 100000 in
set_option maxHeartbeats 4000000 in
theorem frM12_see_L43 {m0 : ev_M} (f : Nat) (k : Int32 → ev_M → Option (Int32 × ev_M)) (a1 : Int32) (hk : ∀ (x0 : Int32) (xm : ev_M), frM m0 xm → Fr (frM m0) (k x0 xm)) : ∀ (n : Nat) (a2 : Int32) (a3 : Int32) (m : ev_M), frM m0 m → Fr (frM m0) (FX12_see_L43 f k a1 n a2 a3 m) := by
  intro n
  induction n with
  | zero => intros; exact Fr.none
  | succ n ih =>
    intro a2 a3 m hm_m
    rw [FX12_see_L43]
    refine Fr.ite (fun _ => ?_) (fun _ => ?_)
    · exact hk _ _ hm_m
    · refine Fr.ite (fun _ => ?_) (fun _ => ?_)
      · exact hk _ _ hm_m
      · refine Fr.ite (fun _ => ?_) (fun _ => ?_)
        · refine Fr.ite (fun _ => ?_) (fun _ => ?_)
          · exact frM12_see_J95 _ _ _ ih hm_m
          · refine Fr.ite (fun _ => ?_) (fun _ => ?_)
            · refine Fr.bd (frM12_isTower _ _ hm_m) (fun r1 m2 hm_m2 => ?_)
              refine Fr.ite (fun _ => ?_) (fun _ => ?_)
              · exact frM12_see_J95 _ _ _ ih hm_m2
              · refine Fr.ite (fun _ => ?_) (fun _ => ?_)
                · refine Fr.ite (fun _ => ?_) (fun _ => ?_)
                  · exact frM12_see_J95 _ _ _ ih hm_m2
                  · exact frM12_see_J96 _ _ _ _ ih hm_m2
                · exact Fr.none
            · exact Fr.none
        · exact Fr.none
set_option maxRecDepth 100000 in
set_option maxHeartbeats 4000000 in
theorem frM12_see_L115 {m0 : ev_M} (f : Nat) (k : ev_M → Option (Int32 × ev_M)) (a1 : Int32) (hk : ∀  (xm : ev_M), frM m0 xm → Fr (frM m0) (k xm)) : ∀ (n : Nat) (a3 : Int32) (m : ev_M), frM m0 m → Fr (frM m0) (FX12_see_L115 f k a1 n a3 m) := by
  intro n
  induction n with
  | zero => intros; exact Fr.none
  | succ n ih =>
    intro a3 m hm_m
    rw [FX12_see_L115]
    refine Fr.ite (fun _ => ?_) (fun _ => ?_)
    · exact hk _ hm_m
    · refine Fr.ite (fun _ => ?_) (fun _ => ?_)
      · refine Fr.ite (fun _ => ?_) (fun _ => ?_)
        · exact ih _ (frM_I (by decide) hm_m)
        · exact Fr.none
      · exact Fr.none
set_option maxRecDepth 100000 in
set_option maxHeartbeats 4000000 in
theorem frM12_see_J103 {m0 : ev_M} (f : Nat) (a1 : Int32) (a2 : Int32) {m : ev_M}  (hm_m : frM m0 m) : Fr (frM m0) (FX12_see_J103 f a1 a2 m) := by
  unfold FX12_see_J103
  refine Fr.ite (fun _ => ?_) (fun _ => ?_)
  · refine Fr.bd (frM12_refuses _ _ hm_m) (fun r6 m7 hm_m7 => ?_)
    exact Fr.ok hm_m7
  · exact frM12_see_L115 _ _ _ ((by
  intro m5 hm_m5
  exact Fr.ok (frM_I (by decide) hm_m5))) _ _ _ hm_m
set_option maxRecDepth 100000 in
set_option maxHeartbeats 4000000 in
theorem frM12_see_J40 {m0 : ev_M} (f : Nat) (a1 : Int32) (s0 : Int32) {m : ev_M}  (hm_m : frM m0 m) : Fr (frM m0) (FX12_see_J40 f a1 s0 m) := by
  unfold FX12_see_J40
  exact frM12_see_L43 _ _ _ ((by
  intro e3 m4 hm_m4
  exact frM12_see_J103 _ _ _ hm_m4)) _ _ _ _ hm_m
set_option maxRecDepth 100000 in
set_option maxHeartbeats 4000000 in
theorem frM12_see_J39 {m0 : ev_M} (f : Nat) (a1 : Int32) {m : ev_M}  (hm_m : frM m0 m) : Fr (frM m0) (FX12_see_J39 f a1 m) := by
  unfold FX12_see_J39
  exact frM12_see_J40 _ _ _ hm_m
set_option maxRecDepth 100000 in
set_option maxHeartbeats 4000000 in
theorem frM12_see {m0 : ev_M} (f : Nat) {m : ev_M}  (hm_m : frM m0 m) : Fr (frM m0) (FX12_see f m) := by
  unfold FX12_see
  refine Fr.ite (fun _ => ?_) (fun _ => ?_)
  · exact frM12_see_J39 _ _ (frM_I (by decide) hm_m)
  · refine Fr.ite (fun _ => ?_) (fun _ => ?_)
    · exact frM12_see_J39 _ _ (frM_I (by decide) hm_m)
    · refine Fr.ite (fun _ => ?_) (fun _ => ?_)
      · refine Fr.ite (fun _ => ?_) (fun _ => ?_)
        · exact frM12_see_J39 _ _ (frM_I (by decide) hm_m)
        · exact frM12_see_J40 _ _ _ (frM_I (by decide) hm_m)
      · exact frM12_see_J39 _ _ (frM_I (by decide) hm_m)
set_option maxRecDepth 100000 in
set_option maxHeartbeats 4000000 in
theorem frM12_isAsSeen_J64 {m0 : ev_M} (f : Nat) (kt2 : Int32 → ev_M → Option (Int32 × ev_M)) (a2 : Int32) {m : ev_M} (hkt2 : ∀ (x0 : Int32) (xm : ev_M), frM m0 xm → Fr (frM m0) (kt2 x0 xm)) (hm_m : frM m0 m) : Fr (frM m0) (FX12_isAsSeen_J64 f kt2 a2 m) := by
  unfold FX12_isAsSeen_J64
  exact hkt2 _ _ hm_m
set_option maxRecDepth 100000 in
set_option maxHeartbeats 4000000 in
theorem frM12_isAsSeen_L2 {m0 : ev_M} (f : Nat) (k : ev_M → Option (Int32 × ev_M)) (a1 : Int32) (hk : ∀  (xm : ev_M), frM m0 xm → Fr (frM m0) (k xm)) : ∀ (n : Nat) (a2 : Int32) (m : ev_M), frM m0 m → Fr (frM m0) (FX12_isAsSeen_L2 f k a1 n a2 m) := by
  intro n
  induction n with
  | zero => intros; exact Fr.none
  | succ n ih =>
    intro a2 m hm_m
    rw [FX12_isAsSeen_L2]
    refine Fr.ite (fun _ => ?_) (fun _ => ?_)
    · exact hk _ hm_m
    · refine Fr.ite (fun _ => ?_) (fun _ => ?_)
      · refine Fr.ite (fun _ => ?_) (fun _ => ?_)
        · refine Fr.ite (fun _ => ?_) (fun _ => ?_)
          · exact Fr.ok hm_m
          · refine Fr.ite (fun _ => ?_) (fun _ => ?_)
            · refine Fr.ite (fun _ => ?_) (fun _ => ?_)
              · refine Fr.ite (fun _ => ?_) (fun _ => ?_)
                · refine Fr.ite (fun _ => ?_) (fun _ => ?_)
                  · exact frM12_isAsSeen_J64 _ _ _ ih hm_m
                  · exact Fr.ok hm_m
                · exact Fr.none
              · exact Fr.none
            · exact Fr.none
        · exact frM12_isAsSeen_J64 _ _ _ ih hm_m
      · exact Fr.none
set_option maxRecDepth 100000 in
set_option maxHeartbeats 4000000 in
theorem frM12_isAsSeen {m0 : ev_M} (f : Nat) (a1 : Int32) {m : ev_M}  (hm_m : frM m0 m) : Fr (frM m0) (FX12_isAsSeen f a1 m) := by
  unfold FX12_isAsSeen
  exact frM12_isAsSeen_L2 _ _ _ ((by
  intro m1 hm_m1
  exact Fr.ok hm_m1)) _ _ _ hm_m
set_option maxRecDepth 100000 in
set_option maxHeartbeats 4000000 in
theorem frM12_mostAlike_J88 {m0 : ev_M} (f : Nat) (kt39 : Int32 → Int32 → ev_M → Option (Int32 × ev_M)) (a6 : Int32) (a7 : Int32) {m : ev_M} (hkt39 : ∀ (x0 : Int32) (x1 : Int32) (xm : ev_M), frM m0 xm → Fr (frM m0) (kt39 x0 x1 xm)) (hm_m : frM m0 m) : Fr (frM m0) (FX12_mostAlike_J88 f kt39 a6 a7 m) := by
  unfold FX12_mostAlike_J88
  exact hkt39 _ _ _ hm_m
set_option maxRecDepth 100000 in
set_option maxHeartbeats 4000000 in
theorem frM12_mostAlike_L39 {m0 : ev_M} (f : Nat) (k : Int32 → ev_M → Option (Int32 × ev_M)) (a3 : Int32) (a5 : Int32) (hk : ∀ (x0 : Int32) (xm : ev_M), frM m0 xm → Fr (frM m0) (k x0 xm)) : ∀ (n : Nat) (a6 : Int32) (a7 : Int32) (m : ev_M), frM m0 m → Fr (frM m0) (FX12_mostAlike_L39 f k a3 a5 n a6 a7 m) := by
  intro n
  induction n with
  | zero => intros; exact Fr.none
  | succ n ih =>
    intro a6 a7 m hm_m
    rw [FX12_mostAlike_L39]
    refine Fr.ite (fun _ => ?_) (fun _ => ?_)
    · exact hk _ _ hm_m
    · refine Fr.ite (fun _ => ?_) (fun _ => ?_)
      · refine Fr.ite (fun _ => ?_) (fun _ => ?_)
        · exact frM12_mostAlike_J88 _ _ _ _ ih hm_m
        · refine Fr.ite (fun _ => ?_) (fun _ => ?_)
          · refine Fr.ite (fun _ => ?_) (fun _ => ?_)
            · refine Fr.ite (fun _ => ?_) (fun _ => ?_)
              · exact frM12_mostAlike_J88 _ _ _ _ ih hm_m
              · exact frM12_mostAlike_J88 _ _ _ _ ih hm_m
            · exact Fr.none
          · exact Fr.none
      · exact Fr.none
set_option maxRecDepth 100000 in
set_option maxHeartbeats 4000000 in
theorem frM12_mostAlike_J105 {m0 : ev_M} (f : Nat) (kt13 : Int32 → Int32 → ev_M → Option (Int32 × ev_M)) (a4 : Int32) (a5 : Int32) {m : ev_M} (hkt13 : ∀ (x0 : Int32) (x1 : Int32) (xm : ev_M), frM m0 xm → Fr (frM m0) (kt13 x0 x1 xm)) (hm_m : frM m0 m) : Fr (frM m0) (FX12_mostAlike_J105 f kt13 a4 a5 m) := by
  unfold FX12_mostAlike_J105
  exact hkt13 _ _ _ hm_m
set_option maxRecDepth 100000 in
set_option maxHeartbeats 4000000 in
theorem frM12_mostAlike_L13 {m0 : ev_M} (f : Nat) (k : Int32 → ev_M → Option (Int32 × ev_M)) (a3 : Int32) (hk : ∀ (x0 : Int32) (xm : ev_M), frM m0 xm → Fr (frM m0) (k x0 xm)) : ∀ (n : Nat) (a4 : Int32) (a5 : Int32) (m : ev_M), frM m0 m → Fr (frM m0) (FX12_mostAlike_L13 f k a3 n a4 a5 m) := by
  intro n
  induction n with
  | zero => intros; exact Fr.none
  | succ n ih =>
    intro a4 a5 m hm_m
    rw [FX12_mostAlike_L13]
    refine Fr.ite (fun _ => ?_) (fun _ => ?_)
    · exact hk _ _ hm_m
    · refine Fr.ite (fun _ => ?_) (fun _ => ?_)
      · refine Fr.ite (fun _ => ?_) (fun _ => ?_)
        · exact frM12_mostAlike_J105 _ _ _ _ ih hm_m
        · exact frM12_mostAlike_L39 _ _ _ _ ((by
  intro e1 m2 hm_m2
  refine Fr.ite (fun _ => ?_) (fun _ => ?_)
  · exact frM12_mostAlike_J105 _ _ _ _ ih hm_m2
  · exact frM12_mostAlike_J105 _ _ _ _ ih hm_m2)) _ _ _ _ hm_m
      · exact Fr.none
set_option maxRecDepth 100000 in
set_option maxHeartbeats 4000000 in
theorem frM12_mostAlike {m0 : ev_M} (f : Nat) (a1 : Int32) (a2 : Int32) {m : ev_M}  (hm_m : frM m0 m) : Fr (frM m0) (FX12_mostAlike f a1 a2 m) := by
  unfold FX12_mostAlike
  exact frM12_mostAlike_L13 _ _ _ ((by
  intro e3 m4 hm_m4
  exact Fr.ok hm_m4)) _ _ _ _ hm_m
set_option maxRecDepth 100000 in
set_option maxHeartbeats 4000000 in
theorem frM12_keeps_L15 {m0 : ev_M} (f : Nat) (k : ev_M → Option (Unit × ev_M)) (hk : ∀  (xm : ev_M), frM m0 xm → Fr (frM m0) (k xm)) : ∀ (n : Nat) (a1 : Int32) (m : ev_M), frM m0 m → Fr (frM m0) (FX12_keeps_L15 f k n a1 m) := by
  intro n
  induction n with
  | zero => intros; exact Fr.none
  | succ n ih =>
    intro a1 m hm_m
    rw [FX12_keeps_L15]
    refine Fr.ite (fun _ => ?_) (fun _ => ?_)
    · exact hk _ hm_m
    · refine Fr.ite (fun _ => ?_) (fun _ => ?_)
      · refine Fr.ite (fun _ => ?_) (fun _ => ?_)
        · exact ih _ (frM_I (by decide) hm_m)
        · exact Fr.none
      · exact Fr.none
set_option maxRecDepth 100000 in
set_option maxHeartbeats 4000000 in
theorem frM12_keeps {m0 : ev_M} (f : Nat) {m : ev_M}  (hm_m : frM m0 m) : Fr (frM m0) (FX12_keeps f m) := by
  unfold FX12_keeps
  exact frM12_keeps_L15 _ _ ((by
  intro m1 hm_m1
  refine Fr.ite (fun _ => ?_) (fun _ => ?_)
  · exact Fr.ok hm_m1
  · exact Fr.ok (frM_I (by decide) hm_m1))) _ _ _ (frM_I (by decide) hm_m)
set_option maxRecDepth 100000 in
set_option maxHeartbeats 4000000 in
theorem frM12_undo_L21 {m0 : ev_M} (f : Nat) (k : ev_M → Option (Int32 × ev_M)) (hk : ∀  (xm : ev_M), frM m0 xm → Fr (frM m0) (k xm)) : ∀ (n : Nat) (a1 : Int32) (m : ev_M), frM m0 m → Fr (frM m0) (FX12_undo_L21 f k n a1 m) := by
  intro n
  induction n with
  | zero => intros; exact Fr.none
  | succ n ih =>
    intro a1 m hm_m
    rw [FX12_undo_L21]
    refine Fr.ite (fun _ => ?_) (fun _ => ?_)
    · exact hk _ hm_m
    · refine Fr.ite (fun _ => ?_) (fun _ => ?_)
      · refine Fr.ite (fun _ => ?_) (fun _ => ?_)
        · exact ih _ (frM_I (by decide) hm_m)
        · exact Fr.none
      · exact Fr.none
set_option maxRecDepth 100000 in
set_option maxHeartbeats 4000000 in
theorem frM12_undo {m0 : ev_M} (f : Nat) {m : ev_M}  (hm_m : frM m0 m) : Fr (frM m0) (FX12_undo f m) := by
  unfold FX12_undo
  refine Fr.ite (fun _ => ?_) (fun _ => ?_)
  · exact Fr.ok (frM_I (by decide) hm_m)
  · exact frM12_undo_L21 _ _ ((by
  intro m1 hm_m1
  exact Fr.ok (frM_I (by decide) (frM_I (by decide) hm_m1)))) _ _ _ hm_m
set_option maxRecDepth 100000 in
set_option maxHeartbeats 4000000 in
theorem frM12_isRefused {m0 : ev_M} (f : Nat) {m : ev_M}  (hm_m : frM m0 m) : Fr (frM m0) (FX12_isRefused f m) := by
  unfold FX12_isRefused
  exact Fr.ok (frM_I (by decide) hm_m)
set_option maxRecDepth 100000 in
set_option maxHeartbeats 4000000 in
theorem frM12_cheer_J29 {m0 : ev_M} (f : Nat) {m : ev_M}  (hm_m : frM m0 m) : Fr (frM m0) (FX12_cheer_J29 f m) := by
  unfold FX12_cheer_J29
  refine Fr.bd (frM12_isRefused _ hm_m) (fun r3 m4 hm_m4 => ?_)
  refine Fr.ite (fun _ => ?_) (fun _ => ?_)
  · exact Fr.ok hm_m4
  · exact Fr.none
set_option maxRecDepth 100000 in
set_option maxHeartbeats 4000000 in
theorem frM12_cheer {m0 : ev_M} (f : Nat) (a1 : Int32) (a2 : Int32) {m : ev_M}  (hm_m : frM m0 m) : Fr (frM m0) (FX12_cheer f a1 a2 m) := by
  unfold FX12_cheer
  refine Fr.bd (frM12_isTower _ _ hm_m) (fun r1 m2 hm_m2 => ?_)
  refine Fr.ite (fun _ => ?_) (fun _ => ?_)
  · exact frM12_cheer_J29 _ hm_m2
  · refine Fr.bd (frM12_isIn _ _ _ _ hm_m2) (fun r5 m6 hm_m6 => ?_)
    refine Fr.ite (fun _ => ?_) (fun _ => ?_)
    · exact frM12_cheer_J29 _ hm_m6
    · refine Fr.bd (frM12_cheerOf _ _ hm_m6) (fun r7 m8 hm_m8 => ?_)
      refine Fr.ite (fun _ => ?_) (fun _ => ?_)
      · exact frM12_cheer_J29 _ hm_m8
      · refine Fr.bd (frM12_keeps _ hm_m8) (fun _ m10 hm_m10 => ?_)
        refine Fr.ite (fun _ => ?_) (fun _ => ?_)
        · exact Fr.ok (frM_I (by decide) hm_m10)
        · exact Fr.none
set_option maxRecDepth 100000 in
set_option maxHeartbeats 4000000 in
theorem frM12_yes_J34 {m0 : ev_M} (f : Nat) {m : ev_M}  (hm_m : frM m0 m) : Fr (frM m0) (FX12_yes_J34 f m) := by
  unfold FX12_yes_J34
  refine Fr.bd (frM12_isRefused _ hm_m) (fun r3 m4 hm_m4 => ?_)
  refine Fr.ite (fun _ => ?_) (fun _ => ?_)
  · exact Fr.ok hm_m4
  · exact Fr.none
set_option maxRecDepth 100000 in
set_option maxHeartbeats 4000000 in
theorem frM12_yes {m0 : ev_M} (f : Nat) (a1 : Int32) (a2 : Int32) {m : ev_M}  (hm_m : frM m0 m) : Fr (frM m0) (FX12_yes f a1 a2 m) := by
  unfold FX12_yes
  refine Fr.bd (frM12_isTower _ _ hm_m) (fun r1 m2 hm_m2 => ?_)
  refine Fr.ite (fun _ => ?_) (fun _ => ?_)
  · exact frM12_yes_J34 _ hm_m2
  · refine Fr.bd (frM12_isIn _ _ _ _ hm_m2) (fun r5 m6 hm_m6 => ?_)
    refine Fr.ite (fun _ => ?_) (fun _ => ?_)
    · exact frM12_yes_J34 _ hm_m6
    · refine Fr.ite (fun _ => ?_) (fun _ => ?_)
      · refine Fr.ite (fun _ => ?_) (fun _ => ?_)
        · exact frM12_yes_J34 _ hm_m6
        · refine Fr.bd (frM12_keeps _ hm_m6) (fun _ m8 hm_m8 => ?_)
          refine Fr.ite (fun _ => ?_) (fun _ => ?_)
          · exact Fr.ok (frM_I (by decide) hm_m8)
          · exact Fr.none
      · exact Fr.none
set_option maxRecDepth 100000 in
set_option maxHeartbeats 4000000 in
theorem frM12_change_J21 {m0 : ev_M} (f : Nat) {m : ev_M}  (hm_m : frM m0 m) : Fr (frM m0) (FX12_change_J21 f m) := by
  unfold FX12_change_J21
  refine Fr.bd (frM12_isRefused _ hm_m) (fun r3 m4 hm_m4 => ?_)
  refine Fr.ite (fun _ => ?_) (fun _ => ?_)
  · exact Fr.ok hm_m4
  · exact Fr.none
set_option maxRecDepth 100000 in
set_option maxHeartbeats 4000000 in
theorem frM12_change {m0 : ev_M} (f : Nat) (a1 : Int32) (a2 : Int32) {m : ev_M}  (hm_m : frM m0 m) : Fr (frM m0) (FX12_change f a1 a2 m) := by
  unfold FX12_change
  refine Fr.bd (frM12_isTower _ _ hm_m) (fun r1 m2 hm_m2 => ?_)
  refine Fr.ite (fun _ => ?_) (fun _ => ?_)
  · exact frM12_change_J21 _ hm_m2
  · refine Fr.bd (frM12_isTower _ _ hm_m2) (fun r5 m6 hm_m6 => ?_)
    refine Fr.ite (fun _ => ?_) (fun _ => ?_)
    · exact frM12_change_J21 _ hm_m6
    · refine Fr.ite (fun _ => ?_) (fun _ => ?_)
      · exact frM12_change_J21 _ hm_m6
      · refine Fr.bd (frM12_keeps _ hm_m6) (fun _ m8 hm_m8 => ?_)
        refine Fr.bd (frM12_changes _ _ _ hm_m8) (fun _ m10 hm_m10 => ?_)
        exact Fr.ok hm_m10
set_option maxRecDepth 100000 in
set_option maxHeartbeats 4000000 in
theorem frM12_seed {m0 : ev_M} (f : Nat) (a1 : Int32) {m : ev_M}  (hm_m : frM m0 m) : Fr (frM m0) (FX12_seed f a1 m) := by
  unfold FX12_seed
  refine Fr.ite (fun _ => ?_) (fun _ => ?_)
  · exact Fr.ok (frM_L (by decide) hm_m)
  · exact Fr.ok (frM_I (by decide) hm_m)
set_option maxRecDepth 100000 in
set_option maxHeartbeats 4000000 in
theorem frM12_drawOf {m0 : ev_M} (f : Nat) (a1 : Int32) {m : ev_M}  (hm_m : frM m0 m) : Fr (frM m0) (FX12_drawOf f a1 m) := by
  unfold FX12_drawOf
  refine Fr.ite (fun _ => ?_) (fun _ => ?_)
  · exact Fr.none
  · exact Fr.ok (frM_L (by decide) hm_m)
set_option maxRecDepth 100000 in
set_option maxHeartbeats 4000000 in
theorem frM12_toneIn {m0 : ev_M} (f : Nat) (a1 : Int32) (a2 : Int32) {m : ev_M}  (hm_m : frM m0 m) : Fr (frM m0) (FX12_toneIn f a1 a2 m) := by
  unfold FX12_toneIn
  refine Fr.ite (fun _ => ?_) (fun _ => ?_)
  · exact Fr.ok hm_m
  · exact Fr.none
set_option maxRecDepth 100000 in
set_option maxHeartbeats 4000000 in
theorem frM12_qCode {m0 : ev_M} (f : Nat) (a1 : Int32) {m : ev_M}  (hm_m : frM m0 m) : Fr (frM m0) (FX12_qCode f a1 m) := by
  unfold FX12_qCode
  refine Fr.ite (fun _ => ?_) (fun _ => ?_)
  · exact Fr.ok (frM_I (by decide) (frM_I (by decide) hm_m))
  · exact Fr.none
set_option maxRecDepth 100000 in
set_option maxHeartbeats 4000000 in
theorem frM12_qOpens {m0 : ev_M} (f : Nat) (a1 : Int32) (a2 : Int32) {m : ev_M}  (hm_m : frM m0 m) : Fr (frM m0) (FX12_qOpens f a1 a2 m) := by
  unfold FX12_qOpens
  refine Fr.ite (fun _ => ?_) (fun _ => ?_)
  · refine Fr.ite (fun _ => ?_) (fun _ => ?_)
    · refine Fr.bd (frM12_fail _ _ _ hm_m) (fun _ m2 hm_m2 => ?_)
      exact Fr.ok hm_m2
    · refine Fr.ite (fun _ => ?_) (fun _ => ?_)
      · exact Fr.ok (frM_I (by decide) (frM_I (by decide) (frM_I (by decide) hm_m)))
      · exact Fr.none
  · exact Fr.ok hm_m
set_option maxRecDepth 100000 in
set_option maxHeartbeats 4000000 in
theorem frM12_qIsOn {m0 : ev_M} (f : Nat) (a1 : Int32) {m : ev_M}  (hm_m : frM m0 m) : Fr (frM m0) (FX12_qIsOn f a1 m) := by
  unfold FX12_qIsOn
  refine Fr.ite (fun _ => ?_) (fun _ => ?_)
  · exact Fr.ok hm_m
  · refine Fr.ite (fun _ => ?_) (fun _ => ?_)
    · refine Fr.ite (fun _ => ?_) (fun _ => ?_)
      · exact Fr.ok hm_m
      · exact Fr.ok hm_m
    · exact Fr.none
set_option maxRecDepth 100000 in
set_option maxHeartbeats 4000000 in
theorem frM12_qDrops {m0 : ev_M} (f : Nat) {m : ev_M}  (hm_m : frM m0 m) : Fr (frM m0) (FX12_qDrops f m) := by
  unfold FX12_qDrops
  refine Fr.ite (fun _ => ?_) (fun _ => ?_)
  · refine Fr.bd (frM12_qCode _ _ (frM_I (by decide) hm_m)) (fun _ m2 hm_m2 => ?_)
    exact Fr.ok hm_m2
  · exact Fr.none
set_option maxRecDepth 100000 in
set_option maxHeartbeats 4000000 in
theorem frM12_qIsBracket {m0 : ev_M} (f : Nat) (a0 : Int32) {m : ev_M}  (hm_m : frM m0 m) : Fr (frM m0) (FX12_qIsBracket f a0 m) := by
  unfold FX12_qIsBracket
  refine Fr.ite (fun _ => ?_) (fun _ => ?_)
  · exact Fr.ok hm_m
  · refine Fr.ite (fun _ => ?_) (fun _ => ?_)
    · exact Fr.ok hm_m
    · exact Fr.ok hm_m
set_option maxRecDepth 100000 in
set_option maxHeartbeats 4000000 in
theorem frM12_qBracket_L7 {m0 : ev_M} (f : Nat) (k : Int32 → ev_M → Option (Int32 × ev_M)) (hk : ∀ (x0 : Int32) (xm : ev_M), frM m0 xm → Fr (frM m0) (k x0 xm)) : ∀ (n : Nat) (a1 : Int32) (m : ev_M), frM m0 m → Fr (frM m0) (FX12_qBracket_L7 f k n a1 m) := by
  intro n
  induction n with
  | zero => intros; exact Fr.none
  | succ n ih =>
    intro a1 m hm_m
    rw [FX12_qBracket_L7]
    refine Fr.ite (fun _ => ?_) (fun _ => ?_)
    · exact hk _ _ hm_m
    · refine Fr.ite (fun _ => ?_) (fun _ => ?_)
      · refine Fr.bd (frM12_qIsBracket _ _ hm_m) (fun r1 m2 hm_m2 => ?_)
        refine Fr.ite (fun _ => ?_) (fun _ => ?_)
        · exact ih _ hm_m2
        · exact hk _ _ hm_m2
      · exact Fr.none
set_option maxRecDepth 100000 in
set_option maxHeartbeats 4000000 in
theorem frM12_qBracket {m0 : ev_M} (f : Nat) {m : ev_M}  (hm_m : frM m0 m) : Fr (frM m0) (FX12_qBracket f m) := by
  unfold FX12_qBracket
  exact frM12_qBracket_L7 _ _ ((by
  intro e3 m4 hm_m4
  refine Fr.ite (fun _ => ?_) (fun _ => ?_)
  · exact Fr.ok hm_m4
  · refine Fr.ite (fun _ => ?_) (fun _ => ?_)
    · exact Fr.ok hm_m4
    · exact Fr.none)) _ _ _ hm_m
set_option maxRecDepth 100000 in
set_option maxHeartbeats 4000000 in
theorem frM12_qDropsToBracket_L0 {m0 : ev_M} (f : Nat) (k : ev_M → Option (Unit × ev_M)) (hk : ∀  (xm : ev_M), frM m0 xm → Fr (frM m0) (k xm)) : ∀ (n : Nat)  (m : ev_M), frM m0 m → Fr (frM m0) (FX12_qDropsToBracket_L0 f k n m) := by
  intro n
  induction n with
  | zero => intros; exact Fr.none
  | succ n ih =>
    intro m hm_m
    rw [FX12_qDropsToBracket_L0]
    refine Fr.ite (fun _ => ?_) (fun _ => ?_)
    · exact hk _ hm_m
    · refine Fr.ite (fun _ => ?_) (fun _ => ?_)
      · refine Fr.bd (frM12_qIsBracket _ _ hm_m) (fun r1 m2 hm_m2 => ?_)
        refine Fr.ite (fun _ => ?_) (fun _ => ?_)
        · refine Fr.bd (frM12_qDrops _ hm_m2) (fun _ m4 hm_m4 => ?_)
          exact ih  hm_m4
        · exact hk _ hm_m2
      · exact Fr.none
set_option maxRecDepth 100000 in
set_option maxHeartbeats 4000000 in
theorem frM12_qDropsToBracket {m0 : ev_M} (f : Nat) {m : ev_M}  (hm_m : frM m0 m) : Fr (frM m0) (FX12_qDropsToBracket f m) := by
  unfold FX12_qDropsToBracket
  exact frM12_qDropsToBracket_L0 _ _ ((by
  intro m5 hm_m5
  exact Fr.ok hm_m5)) _ _ hm_m
set_option maxRecDepth 100000 in
set_option maxHeartbeats 4000000 in
theorem frM12_qWordHere_J21 {m0 : ev_M} (f : Nat) {m : ev_M}  (hm_m : frM m0 m) : Fr (frM m0) (FX12_qWordHere_J21 f m) := by
  unfold FX12_qWordHere_J21
  refine Fr.bd (frM12_isHere _ 167 (by decide) hm_m) (fun r1 m2 hm_m2 => ?_)
  refine Fr.ite (fun _ => ?_) (fun _ => ?_)
  · refine Fr.bd (frM12_isHere _ 168 (by decide) hm_m2) (fun r3 m4 hm_m4 => ?_)
    refine Fr.ite (fun _ => ?_) (fun _ => ?_)
    · refine Fr.bd (frM12_isHere _ 169 (by decide) hm_m4) (fun r5 m6 hm_m6 => ?_)
      refine Fr.ite (fun _ => ?_) (fun _ => ?_)
      · refine Fr.bd (frM12_isHere _ 170 (by decide) hm_m6) (fun r7 m8 hm_m8 => ?_)
        refine Fr.ite (fun _ => ?_) (fun _ => ?_)
        · refine Fr.bd (frM12_isHere _ 171 (by decide) hm_m8) (fun r9 m10 hm_m10 => ?_)
          refine Fr.ite (fun _ => ?_) (fun _ => ?_)
          · refine Fr.bd (frM12_isHere _ 172 (by decide) hm_m10) (fun r11 m12 hm_m12 => ?_)
            refine Fr.ite (fun _ => ?_) (fun _ => ?_)
            · refine Fr.bd (frM12_isHere _ 173 (by decide) hm_m12) (fun r13 m14 hm_m14 => ?_)
              refine Fr.ite (fun _ => ?_) (fun _ => ?_)
              · refine Fr.bd (frM12_isHere _ 174 (by decide) hm_m14) (fun r15 m16 hm_m16 => ?_)
                refine Fr.ite (fun _ => ?_) (fun _ => ?_)
                · refine Fr.bd (frM12_isHere _ 175 (by decide) hm_m16) (fun r17 m18 hm_m18 => ?_)
                  refine Fr.ite (fun _ => ?_) (fun _ => ?_)
                  · refine Fr.bd (frM12_isHere _ 176 (by decide) hm_m18) (fun r19 m20 hm_m20 => ?_)
                    refine Fr.ite (fun _ => ?_) (fun _ => ?_)
                    · exact Fr.ok hm_m20
                    · exact Fr.ok hm_m20
                  · exact Fr.ok hm_m18
                · exact Fr.ok hm_m16
              · exact Fr.ok hm_m14
            · exact Fr.ok hm_m12
          · exact Fr.ok hm_m10
        · exact Fr.ok hm_m8
      · exact Fr.ok hm_m6
    · exact Fr.ok hm_m4
  · exact Fr.ok hm_m2
set_option maxRecDepth 100000 in
set_option maxHeartbeats 4000000 in
theorem frM12_qWordHere {m0 : ev_M} (f : Nat) {m : ev_M}  (hm_m : frM m0 m) : Fr (frM m0) (FX12_qWordHere f m) := by
  unfold FX12_qWordHere
  refine Fr.ite (fun _ => ?_) (fun _ => ?_)
  · exact frM12_qWordHere_J21 _ hm_m
  · refine Fr.bd (frM12_isHere _ 166 (by decide) hm_m) (fun r21 m22 hm_m22 => ?_)
    refine Fr.ite (fun _ => ?_) (fun _ => ?_)
    · exact frM12_qWordHere_J21 _ hm_m22
    · exact Fr.ok hm_m22
set_option maxRecDepth 100000 in
set_option maxHeartbeats 4000000 in
theorem frM12_qWordOf {m0 : ev_M} (f : Nat) (a1 : Int32) (a2 : Int32) {m : ev_M}  (hm_m : frM m0 m) : Fr (frM m0) (FX12_qWordOf f a1 a2 m) := by
  unfold FX12_qWordOf
  refine Fr.bd (frM12_qWordHere _ hm_m) (fun r1 m2 hm_m2 => ?_)
  refine Fr.ite (fun _ => ?_) (fun _ => ?_)
  · exact Fr.ok hm_m2
  · refine Fr.ite (fun _ => ?_) (fun _ => ?_)
    · exact Fr.ok hm_m2
    · refine Fr.bd (frM12_isAllowed _ _ hm_m2) (fun r3 m4 hm_m4 => ?_)
      refine Fr.ite (fun _ => ?_) (fun _ => ?_)
      · exact Fr.ok hm_m4
      · exact Fr.ok hm_m4
set_option maxRecDepth 100000 in
set_option maxHeartbeats 4000000 in
theorem frM12_qAsksWord {m0 : ev_M} (f : Nat) (a1 : Int32) {m : ev_M}  (hm_m : frM m0 m) : Fr (frM m0) (FX12_qAsksWord f a1 m) := by
  unfold FX12_qAsksWord
  refine Fr.ite (fun _ => ?_) (fun _ => ?_)
  · refine Fr.bd (frM12_asks _ 166 (by decide) hm_m) (fun _ m2 hm_m2 => ?_)
    exact Fr.ok hm_m2
  · refine Fr.ite (fun _ => ?_) (fun _ => ?_)
    · refine Fr.bd (frM12_asks _ 167 (by decide) hm_m) (fun _ m5 hm_m5 => ?_)
      exact Fr.ok hm_m5
    · refine Fr.ite (fun _ => ?_) (fun _ => ?_)
      · refine Fr.bd (frM12_asks _ 168 (by decide) hm_m) (fun _ m8 hm_m8 => ?_)
        exact Fr.ok hm_m8
      · refine Fr.ite (fun _ => ?_) (fun _ => ?_)
        · refine Fr.bd (frM12_asks _ 169 (by decide) hm_m) (fun _ m11 hm_m11 => ?_)
          exact Fr.ok hm_m11
        · refine Fr.ite (fun _ => ?_) (fun _ => ?_)
          · refine Fr.bd (frM12_asks _ 170 (by decide) hm_m) (fun _ m14 hm_m14 => ?_)
            exact Fr.ok hm_m14
          · refine Fr.ite (fun _ => ?_) (fun _ => ?_)
            · refine Fr.bd (frM12_asks _ 171 (by decide) hm_m) (fun _ m17 hm_m17 => ?_)
              exact Fr.ok hm_m17
            · refine Fr.ite (fun _ => ?_) (fun _ => ?_)
              · refine Fr.bd (frM12_asks _ 172 (by decide) hm_m) (fun _ m20 hm_m20 => ?_)
                exact Fr.ok hm_m20
              · refine Fr.ite (fun _ => ?_) (fun _ => ?_)
                · refine Fr.bd (frM12_asks _ 173 (by decide) hm_m) (fun _ m23 hm_m23 => ?_)
                  exact Fr.ok hm_m23
                · refine Fr.ite (fun _ => ?_) (fun _ => ?_)
                  · refine Fr.bd (frM12_asks _ 174 (by decide) hm_m) (fun _ m26 hm_m26 => ?_)
                    exact Fr.ok hm_m26
                  · refine Fr.ite (fun _ => ?_) (fun _ => ?_)
                    · refine Fr.bd (frM12_asks _ 175 (by decide) hm_m) (fun _ m29 hm_m29 => ?_)
                      exact Fr.ok hm_m29
                    · refine Fr.bd (frM12_asks _ 176 (by decide) hm_m) (fun _ m32 hm_m32 => ?_)
                      exact Fr.ok hm_m32
set_option maxRecDepth 100000 in
set_option maxHeartbeats 4000000 in
theorem frM12_qEndsPart_L0 {m0 : ev_M} (f : Nat) (k : ev_M → Option (Unit × ev_M)) (hk : ∀  (xm : ev_M), frM m0 xm → Fr (frM m0) (k xm)) : ∀ (n : Nat)  (m : ev_M), frM m0 m → Fr (frM m0) (FX12_qEndsPart_L0 f k n m) := by
  intro n
  induction n with
  | zero => intros; exact Fr.none
  | succ n ih =>
    intro m hm_m
    rw [FX12_qEndsPart_L0]
    refine Fr.ite (fun _ => ?_) (fun _ => ?_)
    · refine Fr.ite (fun _ => ?_) (fun _ => ?_)
      · exact hk _ hm_m
      · refine Fr.ite (fun _ => ?_) (fun _ => ?_)
        · refine Fr.ite (fun _ => ?_) (fun _ => ?_)
          · exact hk _ hm_m
          · refine Fr.bd (frM12_qDrops _ (frM_I (by decide) hm_m)) (fun _ m2 hm_m2 => ?_)
            exact ih  hm_m2
        · exact Fr.none
    · exact hk _ hm_m
set_option maxRecDepth 100000 in
set_option maxHeartbeats 4000000 in
theorem frM12_qEndsPart {m0 : ev_M} (f : Nat) {m : ev_M}  (hm_m : frM m0 m) : Fr (frM m0) (FX12_qEndsPart f m) := by
  unfold FX12_qEndsPart
  exact frM12_qEndsPart_L0 _ _ ((by
  intro m3 hm_m3
  exact Fr.ok hm_m3)) _ _ hm_m
set_option maxRecDepth 100000 in
set_option maxHeartbeats 4000000 in
theorem frM12_qPartTold_J183 {m0 : ev_M} (f : Nat) (kt2 : Int32 → ev_M → Option (Unit × ev_M)) (a1 : Int32) {m : ev_M} (hkt2 : ∀ (x0 : Int32) (xm : ev_M), frM m0 xm → Fr (frM m0) (kt2 x0 xm)) (hm_m : frM m0 m) : Fr (frM m0) (FX12_qPartTold_J183 f kt2 a1 m) := by
  unfold FX12_qPartTold_J183
  exact hkt2 _ _ hm_m
set_option maxRecDepth 100000 in
set_option maxHeartbeats 4000000 in
theorem frM12_qPartTold_J144 {m0 : ev_M} (f : Nat) (kt2 : Int32 → ev_M → Option (Unit × ev_M)) (a1 : Int32) {m : ev_M} (hkt2 : ∀ (x0 : Int32) (xm : ev_M), frM m0 xm → Fr (frM m0) (kt2 x0 xm)) (hm_m : frM m0 m) : Fr (frM m0) (FX12_qPartTold_J144 f kt2 a1 m) := by
  unfold FX12_qPartTold_J144
  refine Fr.bd (frM12_asksSign _ _ hm_m) (fun _ m12 hm_m12 => ?_)
  exact frM12_qPartTold_J183 _ _ _ hkt2 hm_m12
set_option maxRecDepth 100000 in
set_option maxHeartbeats 4000000 in
theorem frM12_qPartTold_J139 {m0 : ev_M} (f : Nat) (kt2 : Int32 → ev_M → Option (Unit × ev_M)) (a1 : Int32) (a5 : Int32) (s1 : Int32) {m : ev_M} (hkt2 : ∀ (x0 : Int32) (xm : ev_M), frM m0 xm → Fr (frM m0) (kt2 x0 xm)) (hm_m : frM m0 m) : Fr (frM m0) (FX12_qPartTold_J139 f kt2 a1 a5 s1 m) := by
  unfold FX12_qPartTold_J139
  refine Fr.bd (frM12_qOpens _ _ _ hm_m) (fun _ m14 hm_m14 => ?_)
  exact frM12_qPartTold_J144 _ _ _ hkt2 hm_m14
set_option maxRecDepth 100000 in
set_option maxHeartbeats 4000000 in
theorem frM12_qPartTold_J118 {m0 : ev_M} (f : Nat) (kt2 : Int32 → ev_M → Option (Unit × ev_M)) (a1 : Int32) (a4 : Int32) (s0 : Int32) {m : ev_M} (hkt2 : ∀ (x0 : Int32) (xm : ev_M), frM m0 xm → Fr (frM m0) (kt2 x0 xm)) (hm_m : frM m0 m) : Fr (frM m0) (FX12_qPartTold_J118 f kt2 a1 a4 s0 m) := by
  unfold FX12_qPartTold_J118
  refine Fr.ite (fun _ => ?_) (fun _ => ?_)
  · exact frM12_qPartTold_J144 _ _ _ hkt2 hm_m
  · refine Fr.ite (fun _ => ?_) (fun _ => ?_)
    · exact frM12_qPartTold_J139 _ _ _ _ _ hkt2 hm_m
    · exact frM12_qPartTold_J139 _ _ _ _ _ hkt2 hm_m
set_option maxRecDepth 100000 in
set_option maxHeartbeats 4000000 in
theorem frM12_qPartTold_J101 {m0 : ev_M} (f : Nat) (kt2 : Int32 → ev_M → Option (Unit × ev_M)) (a1 : Int32) (a4 : Int32) {m : ev_M} (hkt2 : ∀ (x0 : Int32) (xm : ev_M), frM m0 xm → Fr (frM m0) (kt2 x0 xm)) (hm_m : frM m0 m) : Fr (frM m0) (FX12_qPartTold_J101 f kt2 a1 a4 m) := by
  unfold FX12_qPartTold_J101
  refine Fr.bd (frM12_look _ hm_m) (fun r9 m10 hm_m10 => ?_)
  refine Fr.ite (fun _ => ?_) (fun _ => ?_)
  · exact frM12_qPartTold_J118 _ _ _ _ _ hkt2 hm_m10
  · exact frM12_qPartTold_J118 _ _ _ _ _ hkt2 hm_m10
set_option maxRecDepth 100000 in
set_option maxHeartbeats 4000000 in
theorem frM12_qPartTold_J78 {m0 : ev_M} (f : Nat) (kt2 : Int32 → ev_M → Option (Unit × ev_M)) (a1 : Int32) {m : ev_M} (hkt2 : ∀ (x0 : Int32) (xm : ev_M), frM m0 xm → Fr (frM m0) (kt2 x0 xm)) (hm_m : frM m0 m) : Fr (frM m0) (FX12_qPartTold_J78 f kt2 a1 m) := by
  unfold FX12_qPartTold_J78
  refine Fr.bd (frM12_takes _ 164 (by decide) hm_m) (fun r7 m8 hm_m8 => ?_)
  refine Fr.ite (fun _ => ?_) (fun _ => ?_)
  · refine Fr.bd (frM12_asks _ 165 (by decide) hm_m8) (fun _ m16 hm_m16 => ?_)
    exact frM12_qPartTold_J101 _ _ _ _ hkt2 hm_m16
  · exact frM12_qPartTold_J101 _ _ _ _ hkt2 hm_m8
set_option maxRecDepth 100000 in
set_option maxHeartbeats 4000000 in
theorem frM12_qPartTold_L2 {m0 : ev_M} (f : Nat) (k : ev_M → Option (Unit × ev_M)) (hk : ∀  (xm : ev_M), frM m0 xm → Fr (frM m0) (k xm)) : ∀ (n : Nat) (a1 : Int32) (m : ev_M), frM m0 m → Fr (frM m0) (FX12_qPartTold_L2 f k n a1 m) := by
  intro n
  induction n with
  | zero => intros; exact Fr.none
  | succ n ih =>
    intro a1 m hm_m
    rw [FX12_qPartTold_L2]
    refine Fr.ite (fun _ => ?_) (fun _ => ?_)
    · exact hk _ hm_m
    · refine Fr.ite (fun _ => ?_) (fun _ => ?_)
      · refine Fr.bd (frM12_look _ hm_m) (fun r1 m2 hm_m2 => ?_)
        refine Fr.bd (frM12_qWordOf _ _ _ hm_m2) (fun r3 m4 hm_m4 => ?_)
        refine Fr.ite (fun _ => ?_) (fun _ => ?_)
        · refine Fr.bd (frM12_qOpens _ _ _ hm_m4) (fun _ m24 hm_m24 => ?_)
          exact frM12_qPartTold_J183 _ _ _ ih (frM_I (by decide) hm_m24)
        · refine Fr.bd (frM12_isHere _ 164 (by decide) hm_m4) (fun r5 m6 hm_m6 => ?_)
          refine Fr.ite (fun _ => ?_) (fun _ => ?_)
          · refine Fr.bd (frM12_isHere _ 165 (by decide) hm_m6) (fun r17 m18 hm_m18 => ?_)
            refine Fr.ite (fun _ => ?_) (fun _ => ?_)
            · refine Fr.ite (fun _ => ?_) (fun _ => ?_)
              · exact frM12_qPartTold_J183 _ _ _ ih hm_m18
              · refine Fr.bd (frM12_qOpens _ _ _ hm_m18) (fun _ m20 hm_m20 => ?_)
                refine Fr.bd (frM12_qAsksWord _ _ hm_m20) (fun _ m22 hm_m22 => ?_)
                exact frM12_qPartTold_J183 _ _ _ ih hm_m22
            · exact frM12_qPartTold_J78 _ _ _ ih hm_m18
          · exact frM12_qPartTold_J78 _ _ _ ih hm_m6
      · exact hk _ hm_m
set_option maxRecDepth 100000 in
set_option maxHeartbeats 4000000 in
theorem frM12_qPartTold_J237 {m0 : ev_M} (f : Nat) (s1 : Int32) {m : ev_M}  (hm_m : frM m0 m) : Fr (frM m0) (FX12_qPartTold_J237 f s1 m) := by
  unfold FX12_qPartTold_J237
  refine Fr.bd (frM12_qCode _ _ hm_m) (fun _ m31 hm_m31 => ?_)
  refine Fr.bd (frM12_qEndsPart _ hm_m31) (fun _ m33 hm_m33 => ?_)
  exact Fr.ok hm_m33
set_option maxRecDepth 100000 in
set_option maxHeartbeats 4000000 in
theorem frM12_qPartTold_J212 {m0 : ev_M} (f : Nat) (a2 : Int32) {m : ev_M}  (hm_m : frM m0 m) : Fr (frM m0) (FX12_qPartTold_J212 f a2 m) := by
  unfold FX12_qPartTold_J212
  refine Fr.ite (fun _ => ?_) (fun _ => ?_)
  · refine Fr.bd (frM12_number _ _ _ hm_m) (fun r28 m29 hm_m29 => ?_)
    exact frM12_qPartTold_J237 _ _ hm_m29
  · exact frM12_qPartTold_J237 _ _ hm_m
set_option maxRecDepth 100000 in
set_option maxHeartbeats 4000000 in
theorem frM12_qPartTold_J186 {m0 : ev_M} (f : Nat) {m : ev_M}  (hm_m : frM m0 m) : Fr (frM m0) (FX12_qPartTold_J186 f m) := by
  unfold FX12_qPartTold_J186
  refine Fr.ite (fun _ => ?_) (fun _ => ?_)
  · refine Fr.bd (frM12_qWordOf _ _ _ hm_m) (fun r26 m27 hm_m27 => ?_)
    refine Fr.ite (fun _ => ?_) (fun _ => ?_)
    · exact frM12_qPartTold_J212 _ _ hm_m27
    · refine Fr.bd (frM12_qAsksWord _ _ hm_m27) (fun _ m35 hm_m35 => ?_)
      exact frM12_qPartTold_J212 _ _ hm_m35
  · exact Fr.ok hm_m
set_option maxRecDepth 100000 in
set_option maxHeartbeats 4000000 in
theorem frM12_qPartTold {m0 : ev_M} (f : Nat) {m : ev_M}  (hm_m : frM m0 m) : Fr (frM m0) (FX12_qPartTold f m) := by
  unfold FX12_qPartTold
  exact frM12_qPartTold_L2 _ _ ((by
  intro m25 hm_m25
  exact frM12_qPartTold_J186 _ hm_m25)) _ _ _ hm_m
set_option maxRecDepth 100000 in
set_option maxHeartbeats 4000000 in
theorem frM12_qGoesOn_J115 {m0 : ev_M} (f : Nat) (kt0 : ev_M → Option (Int32 × ev_M)) {m : ev_M} (hkt0 : ∀  (xm : ev_M), frM m0 xm → Fr (frM m0) (kt0 xm)) (hm_m : frM m0 m) : Fr (frM m0) (FX12_qGoesOn_J115 f kt0 m) := by
  unfold FX12_qGoesOn_J115
  refine Fr.bd (frM12_qEndsPart _ hm_m) (fun _ m8 hm_m8 => ?_)
  exact hkt0 _ hm_m8
set_option maxRecDepth 100000 in
set_option maxHeartbeats 4000000 in
theorem frM12_qGoesOn_J112 {m0 : ev_M} (f : Nat) (kt0 : ev_M → Option (Int32 × ev_M)) (s1 : Int32) {m : ev_M} (hkt0 : ∀  (xm : ev_M), frM m0 xm → Fr (frM m0) (kt0 xm)) (hm_m : frM m0 m) : Fr (frM m0) (FX12_qGoesOn_J112 f kt0 s1 m) := by
  unfold FX12_qGoesOn_J112
  refine Fr.bd (frM12_qCode _ _ hm_m) (fun _ m10 hm_m10 => ?_)
  exact frM12_qGoesOn_J115 _ _ hkt0 hm_m10
set_option maxRecDepth 100000 in
set_option maxHeartbeats 4000000 in
theorem frM12_qGoesOn_J43 {m0 : ev_M} (f : Nat) (kt0 : ev_M → Option (Int32 × ev_M)) {m : ev_M} (hkt0 : ∀  (xm : ev_M), frM m0 xm → Fr (frM m0) (kt0 xm)) (hm_m : frM m0 m) : Fr (frM m0) (FX12_qGoesOn_J43 f kt0 m) := by
  unfold FX12_qGoesOn_J43
  refine Fr.bd (frM12_qDropsToBracket _ (frM_I (by decide) hm_m)) (fun _ m6 hm_m6 => ?_)
  refine Fr.ite (fun _ => ?_) (fun _ => ?_)
  · refine Fr.ite (fun _ => ?_) (fun _ => ?_)
    · exact frM12_qGoesOn_J115 _ _ hkt0 (frM_I (by decide) (frM_I (by decide) hm_m6))
    · refine Fr.ite (fun _ => ?_) (fun _ => ?_)
      · refine Fr.ite (fun _ => ?_) (fun _ => ?_)
        · exact frM12_qGoesOn_J112 _ _ _ hkt0 (frM_I (by decide) (frM_I (by decide) hm_m6))
        · exact frM12_qGoesOn_J112 _ _ _ hkt0 (frM_I (by decide) (frM_I (by decide) hm_m6))
      · exact Fr.none
  · exact Fr.none
set_option maxRecDepth 100000 in
set_option maxHeartbeats 4000000 in
theorem frM12_qGoesOn_L0 {m0 : ev_M} (f : Nat) (k : ev_M → Option (Int32 × ev_M)) (hk : ∀  (xm : ev_M), frM m0 xm → Fr (frM m0) (k xm)) : ∀ (n : Nat)  (m : ev_M), frM m0 m → Fr (frM m0) (FX12_qGoesOn_L0 f k n m) := by
  intro n
  induction n with
  | zero => intros; exact Fr.none
  | succ n ih =>
    intro m hm_m
    rw [FX12_qGoesOn_L0]
    refine Fr.ite (fun _ => ?_) (fun _ => ?_)
    · refine Fr.bd (frM12_look _ hm_m) (fun r1 m2 hm_m2 => ?_)
      refine Fr.ite (fun _ => ?_) (fun _ => ?_)
      · refine Fr.bd (frM12_qBracket _ hm_m2) (fun r3 m4 hm_m4 => ?_)
        refine Fr.ite (fun _ => ?_) (fun _ => ?_)
        · exact frM12_qGoesOn_J43 _ _ ih hm_m4
        · refine Fr.bd (frM12_qBracket _ hm_m4) (fun r11 m12 hm_m12 => ?_)
          refine Fr.ite (fun _ => ?_) (fun _ => ?_)
          · exact frM12_qGoesOn_J43 _ _ ih hm_m12
          · refine Fr.bd (frM12_qBracket _ hm_m12) (fun r13 m14 hm_m14 => ?_)
            refine Fr.ite (fun _ => ?_) (fun _ => ?_)
            · exact frM12_qGoesOn_J43 _ _ ih hm_m14
            · exact hk _ hm_m14
      · exact hk _ hm_m2
    · exact hk _ hm_m
set_option maxRecDepth 100000 in
set_option maxHeartbeats 4000000 in
theorem frM12_qGoesOn_J178 {m0 : ev_M} (f : Nat) (kt162 : ev_M → Option (Int32 × ev_M)) {m : ev_M} (hkt162 : ∀  (xm : ev_M), frM m0 xm → Fr (frM m0) (kt162 xm)) (hm_m : frM m0 m) : Fr (frM m0) (FX12_qGoesOn_J178 f kt162 m) := by
  unfold FX12_qGoesOn_J178
  refine Fr.bd (frM12_qDrops _ hm_m) (fun _ m21 hm_m21 => ?_)
  exact hkt162 _ hm_m21
set_option maxRecDepth 100000 in
set_option maxHeartbeats 4000000 in
theorem frM12_qGoesOn_L162 {m0 : ev_M} (f : Nat) (k : ev_M → Option (Int32 × ev_M)) (hk : ∀  (xm : ev_M), frM m0 xm → Fr (frM m0) (k xm)) : ∀ (n : Nat)  (m : ev_M), frM m0 m → Fr (frM m0) (FX12_qGoesOn_L162 f k n m) := by
  intro n
  induction n with
  | zero => intros; exact Fr.none
  | succ n ih =>
    intro m hm_m
    rw [FX12_qGoesOn_L162]
    refine Fr.bd (frM12_qIsOn _ _ hm_m) (fun r18 m19 hm_m19 => ?_)
    refine Fr.ite (fun _ => ?_) (fun _ => ?_)
    · refine Fr.bd (frM12_qIsOn _ _ hm_m19) (fun r22 m23 hm_m23 => ?_)
      refine Fr.ite (fun _ => ?_) (fun _ => ?_)
      · exact hk _ hm_m23
      · exact frM12_qGoesOn_J178 _ _ ih hm_m23
    · exact frM12_qGoesOn_J178 _ _ ih hm_m19
set_option maxRecDepth 100000 in
set_option maxHeartbeats 4000000 in
theorem frM12_qGoesOn_J161 {m0 : ev_M} (f : Nat) (s0 : Int32) {m : ev_M}  (hm_m : frM m0 m) : Fr (frM m0) (FX12_qGoesOn_J161 f s0 m) := by
  unfold FX12_qGoesOn_J161
  exact frM12_qGoesOn_L162 _ _ ((by
  intro m24 hm_m24
  refine Fr.ite (fun _ => ?_) (fun _ => ?_)
  · exact Fr.ok (frM_I (by decide) (frM_I (by decide) hm_m24))
  · exact Fr.none)) _ _ hm_m
set_option maxRecDepth 100000 in
set_option maxHeartbeats 4000000 in
theorem frM12_qGoesOn_J140 {m0 : ev_M} (f : Nat) {m : ev_M}  (hm_m : frM m0 m) : Fr (frM m0) (FX12_qGoesOn_J140 f m) := by
  unfold FX12_qGoesOn_J140
  refine Fr.ite (fun _ => ?_) (fun _ => ?_)
  · refine Fr.ite (fun _ => ?_) (fun _ => ?_)
    · exact frM12_qGoesOn_J161 _ _ hm_m
    · exact frM12_qGoesOn_J161 _ _ hm_m
  · exact Fr.none
set_option maxRecDepth 100000 in
set_option maxHeartbeats 4000000 in
theorem frM12_qGoesOn_J279 {m0 : ev_M} (f : Nat) (kt247 : ev_M → Option (Int32 × ev_M)) {m : ev_M} (hkt247 : ∀  (xm : ev_M), frM m0 xm → Fr (frM m0) (kt247 xm)) (hm_m : frM m0 m) : Fr (frM m0) (FX12_qGoesOn_J279 f kt247 m) := by
  unfold FX12_qGoesOn_J279
  refine Fr.bd (frM12_qDrops _ hm_m) (fun _ m32 hm_m32 => ?_)
  exact hkt247 _ hm_m32
set_option maxRecDepth 100000 in
set_option maxHeartbeats 4000000 in
theorem frM12_qGoesOn_L247 {m0 : ev_M} (f : Nat) (k : ev_M → Option (Int32 × ev_M)) (hk : ∀  (xm : ev_M), frM m0 xm → Fr (frM m0) (k xm)) : ∀ (n : Nat)  (m : ev_M), frM m0 m → Fr (frM m0) (FX12_qGoesOn_L247 f k n m) := by
  intro n
  induction n with
  | zero => intros; exact Fr.none
  | succ n ih =>
    intro m hm_m
    rw [FX12_qGoesOn_L247]
    refine Fr.bd (frM12_qIsOn _ _ hm_m) (fun r29 m30 hm_m30 => ?_)
    refine Fr.ite (fun _ => ?_) (fun _ => ?_)
    · refine Fr.bd (frM12_qIsOn _ _ hm_m30) (fun r33 m34 hm_m34 => ?_)
      refine Fr.ite (fun _ => ?_) (fun _ => ?_)
      · refine Fr.bd (frM12_qIsOn _ _ hm_m34) (fun r35 m36 hm_m36 => ?_)
        refine Fr.ite (fun _ => ?_) (fun _ => ?_)
        · refine Fr.bd (frM12_qIsOn _ _ hm_m36) (fun r37 m38 hm_m38 => ?_)
          refine Fr.ite (fun _ => ?_) (fun _ => ?_)
          · exact hk _ hm_m38
          · exact frM12_qGoesOn_J279 _ _ ih hm_m38
        · exact frM12_qGoesOn_J279 _ _ ih hm_m36
      · exact frM12_qGoesOn_J279 _ _ ih hm_m34
    · exact frM12_qGoesOn_J279 _ _ ih hm_m30
set_option maxRecDepth 100000 in
set_option maxHeartbeats 4000000 in
theorem frM12_qGoesOn_J246 {m0 : ev_M} (f : Nat) (s0 : Int32) {m : ev_M}  (hm_m : frM m0 m) : Fr (frM m0) (FX12_qGoesOn_J246 f s0 m) := by
  unfold FX12_qGoesOn_J246
  exact frM12_qGoesOn_L247 _ _ ((by
  intro m39 hm_m39
  refine Fr.ite (fun _ => ?_) (fun _ => ?_)
  · exact Fr.ok (frM_I (by decide) (frM_I (by decide) hm_m39))
  · exact Fr.none)) _ _ hm_m
set_option maxRecDepth 100000 in
set_option maxHeartbeats 4000000 in
theorem frM12_qGoesOn_J225 {m0 : ev_M} (f : Nat) {m : ev_M}  (hm_m : frM m0 m) : Fr (frM m0) (FX12_qGoesOn_J225 f m) := by
  unfold FX12_qGoesOn_J225
  refine Fr.ite (fun _ => ?_) (fun _ => ?_)
  · refine Fr.ite (fun _ => ?_) (fun _ => ?_)
    · exact frM12_qGoesOn_J246 _ _ hm_m
    · exact frM12_qGoesOn_J246 _ _ hm_m
  · exact Fr.none
set_option maxRecDepth 100000 in
set_option maxHeartbeats 4000000 in
theorem frM12_qGoesOn_J326 {m0 : ev_M} (f : Nat) {m : ev_M}  (hm_m : frM m0 m) : Fr (frM m0) (FX12_qGoesOn_J326 f m) := by
  unfold FX12_qGoesOn_J326
  refine Fr.bd (frM12_asksSign _ _ hm_m) (fun _ m45 hm_m45 => ?_)
  refine Fr.ite (fun _ => ?_) (fun _ => ?_)
  · refine Fr.bd (frM12_qDropsToBracket _ hm_m45) (fun _ m47 hm_m47 => ?_)
    refine Fr.ite (fun _ => ?_) (fun _ => ?_)
    · refine Fr.ite (fun _ => ?_) (fun _ => ?_)
      · exact Fr.ok (frM_I (by decide) hm_m47)
      · exact Fr.none
    · exact Fr.none
  · exact Fr.ok hm_m45
set_option maxRecDepth 100000 in
set_option maxHeartbeats 4000000 in
theorem frM12_qGoesOn_J122 {m0 : ev_M} (f : Nat) {m : ev_M}  (hm_m : frM m0 m) : Fr (frM m0) (FX12_qGoesOn_J122 f m) := by
  unfold FX12_qGoesOn_J122
  refine Fr.bd (frM12_takesSign _ _ hm_m) (fun r16 m17 hm_m17 => ?_)
  refine Fr.ite (fun _ => ?_) (fun _ => ?_)
  · refine Fr.bd (frM12_takesSign _ _ hm_m17) (fun r25 m26 hm_m26 => ?_)
    refine Fr.ite (fun _ => ?_) (fun _ => ?_)
    · refine Fr.bd (frM12_takesSign _ _ hm_m26) (fun r27 m28 hm_m28 => ?_)
      refine Fr.ite (fun _ => ?_) (fun _ => ?_)
      · refine Fr.bd (frM12_takesSign _ _ hm_m28) (fun r40 m41 hm_m41 => ?_)
        refine Fr.ite (fun _ => ?_) (fun _ => ?_)
        · refine Fr.bd (frM12_qBracket _ hm_m41) (fun r42 m43 hm_m43 => ?_)
          refine Fr.ite (fun _ => ?_) (fun _ => ?_)
          · exact frM12_qGoesOn_J326 _ hm_m43
          · refine Fr.bd (frM12_qBracket _ hm_m43) (fun r48 m49 hm_m49 => ?_)
            refine Fr.ite (fun _ => ?_) (fun _ => ?_)
            · exact frM12_qGoesOn_J326 _ hm_m49
            · refine Fr.bd (frM12_qBracket _ hm_m49) (fun r50 m51 hm_m51 => ?_)
              refine Fr.ite (fun _ => ?_) (fun _ => ?_)
              · exact Fr.ok hm_m51
              · refine Fr.ite (fun _ => ?_) (fun _ => ?_)
                · refine Fr.bd (frM12_fail _ _ _ hm_m51) (fun _ m53 hm_m53 => ?_)
                  exact Fr.ok hm_m53
                · exact Fr.ok hm_m51
        · exact frM12_qGoesOn_J225 _ hm_m41
      · exact frM12_qGoesOn_J225 _ hm_m28
    · exact frM12_qGoesOn_J140 _ hm_m26
  · exact frM12_qGoesOn_J140 _ hm_m17
set_option maxRecDepth 100000 in
set_option maxHeartbeats 4000000 in
theorem frM12_qGoesOn {m0 : ev_M} (f : Nat) {m : ev_M}  (hm_m : frM m0 m) : Fr (frM m0) (FX12_qGoesOn f m) := by
  unfold FX12_qGoesOn
  exact frM12_qGoesOn_L0 _ _ ((by
  intro m15 hm_m15
  exact frM12_qGoesOn_J122 _ hm_m15)) _ _ hm_m
set_option maxRecDepth 100000 in
set_option maxHeartbeats 4000000 in
theorem frM12_qSums_J49 {m0 : ev_M} (f : Nat) (kt15 : Int32 → ev_M → Option (Unit × ev_M)) (s0 : Int32) {m : ev_M} (hkt15 : ∀ (x0 : Int32) (xm : ev_M), frM m0 xm → Fr (frM m0) (kt15 x0 xm)) (hm_m : frM m0 m) : Fr (frM m0) (FX12_qSums_J49 f kt15 s0 m) := by
  unfold FX12_qSums_J49
  exact hkt15 _ _ hm_m
set_option maxRecDepth 100000 in
set_option maxHeartbeats 4000000 in
theorem frM12_qSums_J48 {m0 : ev_M} (f : Nat) (kt15 : Int32 → ev_M → Option (Unit × ev_M)) {m : ev_M} (hkt15 : ∀ (x0 : Int32) (xm : ev_M), frM m0 xm → Fr (frM m0) (kt15 x0 xm)) (hm_m : frM m0 m) : Fr (frM m0) (FX12_qSums_J48 f kt15 m) := by
  unfold FX12_qSums_J48
  exact frM12_qSums_J49 _ _ _ hkt15 hm_m
set_option maxRecDepth 100000 in
set_option maxHeartbeats 4000000 in
theorem frM12_qSums_L15 {m0 : ev_M} (f : Nat) (k : ev_M → Option (Unit × ev_M)) (hk : ∀  (xm : ev_M), frM m0 xm → Fr (frM m0) (k xm)) : ∀ (n : Nat) (a2 : Int32) (m : ev_M), frM m0 m → Fr (frM m0) (FX12_qSums_L15 f k n a2 m) := by
  intro n
  induction n with
  | zero => intros; exact Fr.none
  | succ n ih =>
    intro a2 m hm_m
    rw [FX12_qSums_L15]
    refine Fr.ite (fun _ => ?_) (fun _ => ?_)
    · exact hk _ hm_m
    · refine Fr.ite (fun _ => ?_) (fun _ => ?_)
      · refine Fr.bd (frM12_qPartTold _ hm_m) (fun _ m2 hm_m2 => ?_)
        refine Fr.ite (fun _ => ?_) (fun _ => ?_)
        · refine Fr.bd (frM12_qGoesOn _ hm_m2) (fun r3 m4 hm_m4 => ?_)
          refine Fr.ite (fun _ => ?_) (fun _ => ?_)
          · exact frM12_qSums_J48 _ _ ih hm_m4
          · exact frM12_qSums_J49 _ _ _ ih hm_m4
        · exact frM12_qSums_J48 _ _ ih hm_m2
      · exact hk _ hm_m
set_option maxRecDepth 100000 in
set_option maxHeartbeats 4000000 in
theorem frM12_qSums_L53 {m0 : ev_M} (f : Nat) (k : ev_M → Option (Unit × ev_M)) (hk : ∀  (xm : ev_M), frM m0 xm → Fr (frM m0) (k xm)) : ∀ (n : Nat)  (m : ev_M), frM m0 m → Fr (frM m0) (FX12_qSums_L53 f k n m) := by
  intro n
  induction n with
  | zero => intros; exact Fr.none
  | succ n ih =>
    intro m hm_m
    rw [FX12_qSums_L53]
    refine Fr.ite (fun _ => ?_) (fun _ => ?_)
    · refine Fr.ite (fun _ => ?_) (fun _ => ?_)
      · exact hk _ hm_m
      · refine Fr.bd (frM12_qDrops _ hm_m) (fun _ m7 hm_m7 => ?_)
        exact ih  hm_m7
    · exact hk _ hm_m
set_option maxRecDepth 100000 in
set_option maxHeartbeats 4000000 in
theorem frM12_qSums {m0 : ev_M} (f : Nat) {m : ev_M}  (hm_m : frM m0 m) : Fr (frM m0) (FX12_qSums f m) := by
  unfold FX12_qSums
  exact frM12_qSums_L15 _ _ ((by
  intro m5 hm_m5
  exact frM12_qSums_L53 _ _ ((by
  intro m8 hm_m8
  exact Fr.ok (frM_I (by decide) hm_m8))) _ _ hm_m5)) _ _ _ (frM_I (by decide) hm_m)
set_option maxRecDepth 100000 in
set_option maxHeartbeats 4000000 in
theorem frM12_qFact_J102 {m0 : ev_M} (f : Nat) (s1 : Int32) {m : ev_M}  (hm_m : frM m0 m) : Fr (frM m0) (FX12_qFact_J102 f s1 m) := by
  unfold FX12_qFact_J102
  refine Fr.bd (frM12_qCode _ _ hm_m) (fun _ m10 hm_m10 => ?_)
  exact Fr.ok hm_m10
set_option maxRecDepth 100000 in
set_option maxHeartbeats 4000000 in
theorem frM12_qFact_J63 {m0 : ev_M} (f : Nat) (a1 : Int32) {m : ev_M}  (hm_m : frM m0 m) : Fr (frM m0) (FX12_qFact_J63 f a1 m) := by
  unfold FX12_qFact_J63
  refine Fr.bd (frM12_qSums _ (frM_I (by decide) hm_m)) (fun _ m8 hm_m8 => ?_)
  refine Fr.ite (fun _ => ?_) (fun _ => ?_)
  · exact frM12_qFact_J102 _ _ hm_m8
  · refine Fr.ite (fun _ => ?_) (fun _ => ?_)
    · exact frM12_qFact_J102 _ _ hm_m8
    · exact frM12_qFact_J102 _ _ hm_m8
set_option maxRecDepth 100000 in
set_option maxHeartbeats 4000000 in
theorem frM12_qFact {m0 : ev_M} (f : Nat) {m : ev_M}  (hm_m : frM m0 m) : Fr (frM m0) (FX12_qFact f m) := by
  unfold FX12_qFact
  refine Fr.bd (frM12_takes _ 163 (by decide) hm_m) (fun r1 m2 hm_m2 => ?_)
  refine Fr.ite (fun _ => ?_) (fun _ => ?_)
  · refine Fr.bd (frM12_qSums _ hm_m2) (fun _ m4 hm_m4 => ?_)
    refine Fr.ite (fun _ => ?_) (fun _ => ?_)
    · refine Fr.bd (frM12_look _ hm_m4) (fun r5 m6 hm_m6 => ?_)
      refine Fr.ite (fun _ => ?_) (fun _ => ?_)
      · exact frM12_qFact_J63 _ _ hm_m6
      · refine Fr.ite (fun _ => ?_) (fun _ => ?_)
        · exact frM12_qFact_J63 _ _ hm_m6
        · refine Fr.ite (fun _ => ?_) (fun _ => ?_)
          · exact frM12_qFact_J63 _ _ hm_m6
          · refine Fr.bd (frM12_fail _ _ _ hm_m6) (fun _ m12 hm_m12 => ?_)
            exact Fr.ok hm_m12
    · exact Fr.ok hm_m4
  · refine Fr.bd (frM12_qCode _ _ hm_m2) (fun _ m14 hm_m14 => ?_)
    exact Fr.ok hm_m14
set_option maxRecDepth 100000 in
set_option maxHeartbeats 4000000 in
theorem frM12_qHasSquare_L2 {m0 : ev_M} (f : Nat) (k : ev_M → Option (Int32 × ev_M)) (hk : ∀  (xm : ev_M), frM m0 xm → Fr (frM m0) (k xm)) : ∀ (n : Nat) (a1 : Int32) (m : ev_M), frM m0 m → Fr (frM m0) (FX12_qHasSquare_L2 f k n a1 m) := by
  intro n
  induction n with
  | zero => intros; exact Fr.none
  | succ n ih =>
    intro a1 m hm_m
    rw [FX12_qHasSquare_L2]
    refine Fr.ite (fun _ => ?_) (fun _ => ?_)
    · exact hk _ hm_m
    · refine Fr.ite (fun _ => ?_) (fun _ => ?_)
      · refine Fr.ite (fun _ => ?_) (fun _ => ?_)
        · exact Fr.ok hm_m
        · exact ih _ hm_m
      · exact Fr.none
set_option maxRecDepth 100000 in
set_option maxHeartbeats 4000000 in
theorem frM12_qHasSquare {m0 : ev_M} (f : Nat) {m : ev_M}  (hm_m : frM m0 m) : Fr (frM m0) (FX12_qHasSquare f m) := by
  unfold FX12_qHasSquare
  exact frM12_qHasSquare_L2 _ _ ((by
  intro m1 hm_m1
  exact Fr.ok hm_m1)) _ _ _ hm_m
set_option maxRecDepth 100000 in
set_option maxHeartbeats 4000000 in
theorem frM12_qDropsNots_L0 {m0 : ev_M} (f : Nat) (k : ev_M → Option (Unit × ev_M)) (hk : ∀  (xm : ev_M), frM m0 xm → Fr (frM m0) (k xm)) : ∀ (n : Nat)  (m : ev_M), frM m0 m → Fr (frM m0) (FX12_qDropsNots_L0 f k n m) := by
  intro n
  induction n with
  | zero => intros; exact Fr.none
  | succ n ih =>
    intro m hm_m
    rw [FX12_qDropsNots_L0]
    refine Fr.ite (fun _ => ?_) (fun _ => ?_)
    · refine Fr.bd (frM12_qIsOn _ _ hm_m) (fun r1 m2 hm_m2 => ?_)
      refine Fr.ite (fun _ => ?_) (fun _ => ?_)
      · exact hk _ hm_m2
      · refine Fr.bd (frM12_qDrops _ (frM_I (by decide) hm_m2)) (fun _ m4 hm_m4 => ?_)
        exact ih  hm_m4
    · exact hk _ hm_m
set_option maxRecDepth 100000 in
set_option maxHeartbeats 4000000 in
theorem frM12_qDropsNots {m0 : ev_M} (f : Nat) {m : ev_M}  (hm_m : frM m0 m) : Fr (frM m0) (FX12_qDropsNots f m) := by
  unfold FX12_qDropsNots
  exact frM12_qDropsNots_L0 _ _ ((by
  intro m5 hm_m5
  exact Fr.ok hm_m5)) _ _ hm_m
set_option maxRecDepth 100000 in
set_option maxHeartbeats 4000000 in
theorem frM12_qGoesOnTest_L33 {m0 : ev_M} (f : Nat) (k : ev_M → Option (Int32 × ev_M)) (hk : ∀  (xm : ev_M), frM m0 xm → Fr (frM m0) (k xm)) : ∀ (n : Nat)  (m : ev_M), frM m0 m → Fr (frM m0) (FX12_qGoesOnTest_L33 f k n m) := by
  intro n
  induction n with
  | zero => intros; exact Fr.none
  | succ n ih =>
    intro m hm_m
    rw [FX12_qGoesOnTest_L33]
    refine Fr.bd (frM12_qIsOn _ _ hm_m) (fun r5 m6 hm_m6 => ?_)
    refine Fr.ite (fun _ => ?_) (fun _ => ?_)
    · refine Fr.bd (frM12_qDrops _ hm_m6) (fun _ m8 hm_m8 => ?_)
      exact ih  hm_m8
    · exact hk _ hm_m6
set_option maxRecDepth 100000 in
set_option maxHeartbeats 4000000 in
theorem frM12_qGoesOnTest_L0 {m0 : ev_M} (f : Nat) (k : ev_M → Option (Int32 × ev_M)) (hk : ∀  (xm : ev_M), frM m0 xm → Fr (frM m0) (k xm)) : ∀ (n : Nat)  (m : ev_M), frM m0 m → Fr (frM m0) (FX12_qGoesOnTest_L0 f k n m) := by
  intro n
  induction n with
  | zero => intros; exact Fr.none
  | succ n ih =>
    intro m hm_m
    rw [FX12_qGoesOnTest_L0]
    refine Fr.ite (fun _ => ?_) (fun _ => ?_)
    · refine Fr.bd (frM12_look _ hm_m) (fun r1 m2 hm_m2 => ?_)
      refine Fr.ite (fun _ => ?_) (fun _ => ?_)
      · refine Fr.bd (frM12_qHasSquare _ hm_m2) (fun r3 m4 hm_m4 => ?_)
        refine Fr.ite (fun _ => ?_) (fun _ => ?_)
        · exact hk _ hm_m4
        · exact frM12_qGoesOnTest_L33 _ _ ((by
  intro m9 hm_m9
  refine Fr.bd (frM12_qDropsNots _ (frM_I (by decide) (frM_I (by decide) hm_m9))) (fun _ m11 hm_m11 => ?_)
  exact ih  hm_m11)) _ _ (frM_I (by decide) hm_m4)
      · exact hk _ hm_m2
    · exact hk _ hm_m
set_option maxRecDepth 100000 in
set_option maxHeartbeats 4000000 in
theorem frM12_qGoesOnTest_J155 {m0 : ev_M} (f : Nat) (kt137 : ev_M → Option (Int32 × ev_M)) {m : ev_M} (hkt137 : ∀  (xm : ev_M), frM m0 xm → Fr (frM m0) (kt137 xm)) (hm_m : frM m0 m) : Fr (frM m0) (FX12_qGoesOnTest_J155 f kt137 m) := by
  unfold FX12_qGoesOnTest_J155
  refine Fr.bd (frM12_qDrops _ hm_m) (fun _ m24 hm_m24 => ?_)
  exact hkt137 _ hm_m24
set_option maxRecDepth 100000 in
set_option maxHeartbeats 4000000 in
theorem frM12_qGoesOnTest_L137 {m0 : ev_M} (f : Nat) (k : ev_M → Option (Int32 × ev_M)) (hk : ∀  (xm : ev_M), frM m0 xm → Fr (frM m0) (k xm)) : ∀ (n : Nat)  (m : ev_M), frM m0 m → Fr (frM m0) (FX12_qGoesOnTest_L137 f k n m) := by
  intro n
  induction n with
  | zero => intros; exact Fr.none
  | succ n ih =>
    intro m hm_m
    rw [FX12_qGoesOnTest_L137]
    refine Fr.bd (frM12_qIsOn _ _ hm_m) (fun r21 m22 hm_m22 => ?_)
    refine Fr.ite (fun _ => ?_) (fun _ => ?_)
    · refine Fr.bd (frM12_qIsOn _ _ hm_m22) (fun r25 m26 hm_m26 => ?_)
      refine Fr.ite (fun _ => ?_) (fun _ => ?_)
      · exact hk _ hm_m26
      · exact frM12_qGoesOnTest_J155 _ _ ih hm_m26
    · exact frM12_qGoesOnTest_J155 _ _ ih hm_m22
set_option maxRecDepth 100000 in
set_option maxHeartbeats 4000000 in
theorem frM12_qGoesOnTest_L87 {m0 : ev_M} (f : Nat) (k : ev_M → Option (Int32 × ev_M)) (hk : ∀  (xm : ev_M), frM m0 xm → Fr (frM m0) (k xm)) : ∀ (n : Nat)  (m : ev_M), frM m0 m → Fr (frM m0) (FX12_qGoesOnTest_L87 f k n m) := by
  intro n
  induction n with
  | zero => intros; exact Fr.none
  | succ n ih =>
    intro m hm_m
    rw [FX12_qGoesOnTest_L87]
    refine Fr.bd (frM12_qIsOn _ _ hm_m) (fun r28 m29 hm_m29 => ?_)
    refine Fr.ite (fun _ => ?_) (fun _ => ?_)
    · exact hk _ hm_m29
    · refine Fr.bd (frM12_qDrops _ hm_m29) (fun _ m31 hm_m31 => ?_)
      exact ih  hm_m31
set_option maxRecDepth 100000 in
set_option maxHeartbeats 4000000 in
theorem frM12_qGoesOnTest_J76 {m0 : ev_M} (f : Nat) {m : ev_M}  (hm_m : frM m0 m) : Fr (frM m0) (FX12_qGoesOnTest_J76 f m) := by
  unfold FX12_qGoesOnTest_J76
  refine Fr.bd (frM12_takes _ 161 (by decide) hm_m) (fun r13 m14 hm_m14 => ?_)
  refine Fr.ite (fun _ => ?_) (fun _ => ?_)
  · refine Fr.bd (frM12_takes _ 162 (by decide) hm_m14) (fun r15 m16 hm_m16 => ?_)
    refine Fr.ite (fun _ => ?_) (fun _ => ?_)
    · refine Fr.ite (fun _ => ?_) (fun _ => ?_)
      · refine Fr.bd (frM12_qHasSquare _ hm_m16) (fun r17 m18 hm_m18 => ?_)
        refine Fr.ite (fun _ => ?_) (fun _ => ?_)
        · exact Fr.ok hm_m18
        · refine Fr.bd (frM12_fail _ _ _ hm_m18) (fun _ m20 hm_m20 => ?_)
          exact Fr.ok hm_m20
      · exact Fr.ok hm_m16
    · exact frM12_qGoesOnTest_L137 _ _ ((by
  intro m27 hm_m27
  refine Fr.ite (fun _ => ?_) (fun _ => ?_)
  · exact Fr.ok (frM_I (by decide) (frM_I (by decide) hm_m27))
  · exact Fr.none)) _ _ hm_m16
  · exact frM12_qGoesOnTest_L87 _ _ ((by
  intro m32 hm_m32
  refine Fr.ite (fun _ => ?_) (fun _ => ?_)
  · exact Fr.ok (frM_I (by decide) (frM_I (by decide) hm_m32))
  · exact Fr.none)) _ _ hm_m14
set_option maxRecDepth 100000 in
set_option maxHeartbeats 4000000 in
theorem frM12_qGoesOnTest {m0 : ev_M} (f : Nat) {m : ev_M}  (hm_m : frM m0 m) : Fr (frM m0) (FX12_qGoesOnTest f m) := by
  unfold FX12_qGoesOnTest
  exact frM12_qGoesOnTest_L0 _ _ ((by
  intro m12 hm_m12
  exact frM12_qGoesOnTest_J76 _ hm_m12)) _ _ hm_m
set_option maxRecDepth 100000 in
set_option maxHeartbeats 4000000 in
theorem frM12_qClip {m0 : ev_M} (f : Nat) (a0 : Int64) {m : ev_M}  (hm_m : frM m0 m) : Fr (frM m0) (FX12_qClip f a0 m) := by
  unfold FX12_qClip
  refine Fr.ite (fun _ => ?_) (fun _ => ?_)
  · refine Fr.ite (fun _ => ?_) (fun _ => ?_)
    · exact Fr.ok hm_m
    · exact Fr.ok hm_m
  · exact Fr.ok hm_m
set_option maxRecDepth 100000 in
set_option maxHeartbeats 4000000 in
theorem frM12_qFloor_J32 {m0 : ev_M} (f : Nat) (a2 : Int64) (a4 : Int64) (s0 : Int32) {m : ev_M}  (hm_m : frM m0 m) : Fr (frM m0) (FX12_qFloor_J32 f a2 a4 s0 m) := by
  unfold FX12_qFloor_J32
  refine Fr.ite (fun _ => ?_) (fun _ => ?_)
  · refine Fr.ite (fun _ => ?_) (fun _ => ?_)
    · exact Fr.ok hm_m
    · exact Fr.ok hm_m
  · refine Fr.ite (fun _ => ?_) (fun _ => ?_)
    · exact Fr.ok hm_m
    · exact Fr.ok hm_m
set_option maxRecDepth 100000 in
set_option maxHeartbeats 4000000 in
theorem frM12_qFloor {m0 : ev_M} (f : Nat) (a0 : Int64) (a2 : Int64) {m : ev_M}  (hm_m : frM m0 m) : Fr (frM m0) (FX12_qFloor f a0 a2 m) := by
  unfold FX12_qFloor
  refine Fr.ite (fun _ => ?_) (fun _ => ?_)
  · exact Fr.ok hm_m
  · refine Fr.ite (fun _ => ?_) (fun _ => ?_)
    · exact Fr.none
    · refine Fr.ite (fun _ => ?_) (fun _ => ?_)
      · exact Fr.none
      · refine Fr.ite (fun _ => ?_) (fun _ => ?_)
        · exact Fr.ok hm_m
        · refine Fr.ite (fun _ => ?_) (fun _ => ?_)
          · exact frM12_qFloor_J32 _ _ _ _ hm_m
          · exact frM12_qFloor_J32 _ _ _ _ hm_m
set_option maxRecDepth 100000 in
set_option maxHeartbeats 4000000 in
theorem frM12_qPuts {m0 : ev_M} (f : Nat) (a1 : Int64) {m : ev_M}  (hm_m : frM m0 m) : Fr (frM m0) (FX12_qPuts f a1 m) := by
  unfold FX12_qPuts
  refine Fr.ite (fun _ => ?_) (fun _ => ?_)
  · exact Fr.ok (frM_L (by decide) (frM_I (by decide) hm_m))
  · exact Fr.none
set_option maxRecDepth 100000 in
set_option maxHeartbeats 4000000 in
theorem frM12_qJoins_J161 {m0 : ev_M} (f : Nat) (s1 : Int64) {m : ev_M}  (hm_m : frM m0 m) : Fr (frM m0) (FX12_qJoins_J161 f s1 m) := by
  unfold FX12_qJoins_J161
  refine Fr.bd (frM12_qPuts _ _ hm_m) (fun _ m22 hm_m22 => ?_)
  exact Fr.ok hm_m22
set_option maxRecDepth 100000 in
set_option maxHeartbeats 4000000 in
theorem frM12_qJoins_J181 {m0 : ev_M} (f : Nat) (s1 : Int64) {m : ev_M}  (hm_m : frM m0 m) : Fr (frM m0) (FX12_qJoins_J181 f s1 m) := by
  unfold FX12_qJoins_J181
  refine Fr.bd (frM12_qPuts _ _ hm_m) (fun _ m25 hm_m25 => ?_)
  exact Fr.ok hm_m25
set_option maxRecDepth 100000 in
set_option maxHeartbeats 4000000 in
theorem frM12_qJoins_J200 {m0 : ev_M} (f : Nat) (s1 : Int64) {m : ev_M}  (hm_m : frM m0 m) : Fr (frM m0) (FX12_qJoins_J200 f s1 m) := by
  unfold FX12_qJoins_J200
  refine Fr.bd (frM12_qPuts _ _ hm_m) (fun _ m28 hm_m28 => ?_)
  exact Fr.ok hm_m28
set_option maxRecDepth 100000 in
set_option maxHeartbeats 4000000 in
theorem frM12_qJoins_J219 {m0 : ev_M} (f : Nat) (s1 : Int64) {m : ev_M}  (hm_m : frM m0 m) : Fr (frM m0) (FX12_qJoins_J219 f s1 m) := by
  unfold FX12_qJoins_J219
  refine Fr.bd (frM12_qPuts _ _ hm_m) (fun _ m31 hm_m31 => ?_)
  exact Fr.ok hm_m31
set_option maxRecDepth 100000 in
set_option maxHeartbeats 4000000 in
theorem frM12_qJoins_J238 {m0 : ev_M} (f : Nat) (s1 : Int64) {m : ev_M}  (hm_m : frM m0 m) : Fr (frM m0) (FX12_qJoins_J238 f s1 m) := by
  unfold FX12_qJoins_J238
  refine Fr.bd (frM12_qPuts _ _ hm_m) (fun _ m34 hm_m34 => ?_)
  exact Fr.ok hm_m34
set_option maxRecDepth 100000 in
set_option maxHeartbeats 4000000 in
theorem frM12_qJoins_J270 {m0 : ev_M} (f : Nat) (s1 : Int64) {m : ev_M}  (hm_m : frM m0 m) : Fr (frM m0) (FX12_qJoins_J270 f s1 m) := by
  unfold FX12_qJoins_J270
  refine Fr.bd (frM12_qPuts _ _ hm_m) (fun _ m40 hm_m40 => ?_)
  exact Fr.ok hm_m40
set_option maxRecDepth 100000 in
set_option maxHeartbeats 4000000 in
theorem frM12_qJoins {m0 : ev_M} (f : Nat) (a1 : Int32) {m : ev_M}  (hm_m : frM m0 m) : Fr (frM m0) (FX12_qJoins f a1 m) := by
  unfold FX12_qJoins
  refine Fr.ite (fun _ => ?_) (fun _ => ?_)
  · refine Fr.ite (fun _ => ?_) (fun _ => ?_)
    · refine Fr.ite (fun _ => ?_) (fun _ => ?_)
      · refine Fr.bd (frM12_qClip _ _ (frM_I (by decide) hm_m)) (fun r1 m2 hm_m2 => ?_)
        refine Fr.bd (frM12_qPuts _ _ hm_m2) (fun _ m4 hm_m4 => ?_)
        exact Fr.ok hm_m4
      · refine Fr.ite (fun _ => ?_) (fun _ => ?_)
        · refine Fr.bd (frM12_qClip _ _ (frM_I (by decide) hm_m)) (fun r6 m7 hm_m7 => ?_)
          refine Fr.bd (frM12_qPuts _ _ hm_m7) (fun _ m9 hm_m9 => ?_)
          exact Fr.ok hm_m9
        · refine Fr.ite (fun _ => ?_) (fun _ => ?_)
          · refine Fr.bd (frM12_qClip _ _ (frM_I (by decide) hm_m)) (fun r11 m12 hm_m12 => ?_)
            refine Fr.bd (frM12_qPuts _ _ hm_m12) (fun _ m14 hm_m14 => ?_)
            exact Fr.ok hm_m14
          · refine Fr.ite (fun _ => ?_) (fun _ => ?_)
            · refine Fr.bd (frM12_qFloor _ _ _ (frM_I (by decide) hm_m)) (fun r16 m17 hm_m17 => ?_)
              refine Fr.bd (frM12_qPuts _ _ hm_m17) (fun _ m19 hm_m19 => ?_)
              exact Fr.ok hm_m19
            · refine Fr.ite (fun _ => ?_) (fun _ => ?_)
              · refine Fr.ite (fun _ => ?_) (fun _ => ?_)
                · exact frM12_qJoins_J161 _ _ (frM_I (by decide) hm_m)
                · exact frM12_qJoins_J161 _ _ (frM_I (by decide) hm_m)
              · refine Fr.ite (fun _ => ?_) (fun _ => ?_)
                · refine Fr.ite (fun _ => ?_) (fun _ => ?_)
                  · exact frM12_qJoins_J181 _ _ (frM_I (by decide) hm_m)
                  · exact frM12_qJoins_J181 _ _ (frM_I (by decide) hm_m)
                · refine Fr.ite (fun _ => ?_) (fun _ => ?_)
                  · refine Fr.ite (fun _ => ?_) (fun _ => ?_)
                    · exact frM12_qJoins_J200 _ _ (frM_I (by decide) hm_m)
                    · exact frM12_qJoins_J200 _ _ (frM_I (by decide) hm_m)
                  · refine Fr.ite (fun _ => ?_) (fun _ => ?_)
                    · refine Fr.ite (fun _ => ?_) (fun _ => ?_)
                      · exact frM12_qJoins_J219 _ _ (frM_I (by decide) hm_m)
                      · exact frM12_qJoins_J219 _ _ (frM_I (by decide) hm_m)
                    · refine Fr.ite (fun _ => ?_) (fun _ => ?_)
                      · refine Fr.ite (fun _ => ?_) (fun _ => ?_)
                        · exact frM12_qJoins_J238 _ _ (frM_I (by decide) hm_m)
                        · exact frM12_qJoins_J238 _ _ (frM_I (by decide) hm_m)
                      · refine Fr.ite (fun _ => ?_) (fun _ => ?_)
                        · refine Fr.bd (frM12_qPuts _ _ (frM_I (by decide) hm_m)) (fun _ m37 hm_m37 => ?_)
                          exact Fr.ok hm_m37
                        · refine Fr.ite (fun _ => ?_) (fun _ => ?_)
                          · exact frM12_qJoins_J270 _ _ (frM_I (by decide) hm_m)
                          · exact frM12_qJoins_J270 _ _ (frM_I (by decide) hm_m)
    · exact Fr.none
  · exact Fr.none
set_option maxRecDepth 100000 in
set_option maxHeartbeats 4000000 in
theorem frM12_qPartOf {m0 : ev_M} (f : Nat) (a1 : Int32) (a2 : Int32) {m : ev_M}  (hm_m : frM m0 m) : Fr (frM m0) (FX12_qPartOf f a1 a2 m) := by
  unfold FX12_qPartOf
  refine Fr.ite (fun _ => ?_) (fun _ => ?_)
  · exact Fr.ok hm_m
  · refine Fr.ite (fun _ => ?_) (fun _ => ?_)
    · refine Fr.bd (frM12_moodOf _ _ hm_m) (fun r2 m3 hm_m3 => ?_)
      exact Fr.ok hm_m3
    · refine Fr.ite (fun _ => ?_) (fun _ => ?_)
      · refine Fr.bd (frM12_cheerOf _ _ hm_m) (fun r5 m6 hm_m6 => ?_)
        exact Fr.ok hm_m6
      · refine Fr.ite (fun _ => ?_) (fun _ => ?_)
        · exact Fr.ok hm_m
        · refine Fr.ite (fun _ => ?_) (fun _ => ?_)
          · exact Fr.ok hm_m
          · refine Fr.ite (fun _ => ?_) (fun _ => ?_)
            · exact Fr.ok hm_m
            · refine Fr.ite (fun _ => ?_) (fun _ => ?_)
              · refine Fr.ite (fun _ => ?_) (fun _ => ?_)
                · refine Fr.bd (frM12_toneIn _ _ _ hm_m) (fun r11 m12 hm_m12 => ?_)
                  exact Fr.ok hm_m12
                · exact Fr.ok hm_m
              · refine Fr.ite (fun _ => ?_) (fun _ => ?_)
                · exact Fr.ok hm_m
                · refine Fr.ite (fun _ => ?_) (fun _ => ?_)
                  · refine Fr.ite (fun _ => ?_) (fun _ => ?_)
                    · exact Fr.ok hm_m
                    · refine Fr.ite (fun _ => ?_) (fun _ => ?_)
                      · exact Fr.ok hm_m
                      · exact Fr.none
                  · refine Fr.bd (frM12_isYes _ _ hm_m) (fun r16 m17 hm_m17 => ?_)
                    refine Fr.ite (fun _ => ?_) (fun _ => ?_)
                    · exact Fr.ok hm_m17
                    · exact Fr.ok hm_m17
set_option maxRecDepth 100000 in
set_option maxHeartbeats 4000000 in
theorem frM12_qOf {m0 : ev_M} (f : Nat) (a1 : Int32) (a2 : Int64) (a4 : Int32) {m : ev_M}  (hm_m : frM m0 m) : Fr (frM m0) (FX12_qOf f a1 a2 a4 m) := by
  unfold FX12_qOf
  refine Fr.bd (frM12_isIn _ _ _ _ hm_m) (fun r1 m2 hm_m2 => ?_)
  refine Fr.ite (fun _ => ?_) (fun _ => ?_)
  · exact Fr.ok hm_m2
  · refine Fr.bd (frM12_toneIn _ _ _ hm_m2) (fun r3 m4 hm_m4 => ?_)
    exact Fr.ok hm_m4
set_option maxRecDepth 100000 in
set_option maxHeartbeats 4000000 in
theorem frM12_qTold_J162 {m0 : ev_M} (f : Nat) (kt7 : Int32 → ev_M → Option (Int64 × ev_M)) (a2 : Int32) {m : ev_M} (hkt7 : ∀ (x0 : Int32) (xm : ev_M), frM m0 xm → Fr (frM m0) (kt7 x0 xm)) (hm_m : frM m0 m) : Fr (frM m0) (FX12_qTold_J162 f kt7 a2 m) := by
  unfold FX12_qTold_J162
  exact hkt7 _ _ hm_m
set_option maxRecDepth 100000 in
set_option maxHeartbeats 4000000 in
theorem frM12_qTold_L7 {m0 : ev_M} (f : Nat) (k : ev_M → Option (Int64 × ev_M)) (a1 : Int32) (hk : ∀  (xm : ev_M), frM m0 xm → Fr (frM m0) (k xm)) : ∀ (n : Nat) (a2 : Int32) (m : ev_M), frM m0 m → Fr (frM m0) (FX12_qTold_L7 f k a1 n a2 m) := by
  intro n
  induction n with
  | zero => intros; exact Fr.none
  | succ n ih =>
    intro a2 m hm_m
    rw [FX12_qTold_L7]
    refine Fr.ite (fun _ => ?_) (fun _ => ?_)
    · exact hk _ hm_m
    · refine Fr.ite (fun _ => ?_) (fun _ => ?_)
      · refine Fr.ite (fun _ => ?_) (fun _ => ?_)
        · refine Fr.ite (fun _ => ?_) (fun _ => ?_)
          · refine Fr.ite (fun _ => ?_) (fun _ => ?_)
            · refine Fr.ite (fun _ => ?_) (fun _ => ?_)
              · refine Fr.bd (frM12_qPuts _ _ hm_m) (fun _ m4 hm_m4 => ?_)
                exact frM12_qTold_J162 _ _ _ ih hm_m4
              · refine Fr.ite (fun _ => ?_) (fun _ => ?_)
                · refine Fr.ite (fun _ => ?_) (fun _ => ?_)
                  · refine Fr.ite (fun _ => ?_) (fun _ => ?_)
                    · exact frM12_qTold_J162 _ _ _ ih (frM_L (by decide) hm_m)
                    · exact Fr.none
                  · exact Fr.none
                · refine Fr.bd (frM12_qJoins _ _ hm_m) (fun _ m2 hm_m2 => ?_)
                  exact frM12_qTold_J162 _ _ _ ih hm_m2
            · refine Fr.bd (frM12_qPartOf _ _ _ hm_m) (fun r5 m6 hm_m6 => ?_)
              refine Fr.bd (frM12_qClip _ _ hm_m6) (fun r7 m8 hm_m8 => ?_)
              refine Fr.bd (frM12_qPuts _ _ hm_m8) (fun _ m10 hm_m10 => ?_)
              exact frM12_qTold_J162 _ _ _ ih hm_m10
          · refine Fr.ite (fun _ => ?_) (fun _ => ?_)
            · refine Fr.bd (frM12_qOf _ _ _ _ hm_m) (fun r11 m12 hm_m12 => ?_)
              refine Fr.bd (frM12_qClip _ _ hm_m12) (fun r13 m14 hm_m14 => ?_)
              refine Fr.ite (fun _ => ?_) (fun _ => ?_)
              · exact frM12_qTold_J162 _ _ _ ih (frM_L (by decide) hm_m14)
              · exact Fr.none
            · exact Fr.none
        · refine Fr.bd (frM12_qPuts _ _ hm_m) (fun _ m16 hm_m16 => ?_)
          exact frM12_qTold_J162 _ _ _ ih hm_m16
      · exact Fr.none
set_option maxRecDepth 100000 in
set_option maxHeartbeats 4000000 in
theorem frM12_qTold {m0 : ev_M} (f : Nat) (a1 : Int32) {m : ev_M}  (hm_m : frM m0 m) : Fr (frM m0) (FX12_qTold f a1 m) := by
  unfold FX12_qTold
  exact frM12_qTold_L7 _ _ _ ((by
  intro m17 hm_m17
  exact Fr.ok hm_m17)) _ _ _ (frM_I (by decide) hm_m)
set_option maxRecDepth 100000 in
set_option maxHeartbeats 4000000 in
theorem frM12_qKind_J76 {m0 : ev_M} (f : Nat) (s0 : Int32) {m : ev_M}  (hm_m : frM m0 m) : Fr (frM m0) (FX12_qKind_J76 f s0 m) := by
  unfold FX12_qKind_J76
  refine Fr.ite (fun _ => ?_) (fun _ => ?_)
  · refine Fr.bd (frM12_asks _ 159 (by decide) hm_m) (fun _ m12 hm_m12 => ?_)
    exact Fr.ok hm_m12
  · exact Fr.ok hm_m
set_option maxRecDepth 100000 in
set_option maxHeartbeats 4000000 in
theorem frM12_qKind {m0 : ev_M} (f : Nat) {m : ev_M}  (hm_m : frM m0 m) : Fr (frM m0) (FX12_qKind f m) := by
  unfold FX12_qKind
  refine Fr.bd (frM12_takes _ 154 (by decide) hm_m) (fun r1 m2 hm_m2 => ?_)
  refine Fr.ite (fun _ => ?_) (fun _ => ?_)
  · refine Fr.bd (frM12_takes _ 155 (by decide) hm_m2) (fun r3 m4 hm_m4 => ?_)
    refine Fr.ite (fun _ => ?_) (fun _ => ?_)
    · refine Fr.bd (frM12_takes _ 156 (by decide) hm_m4) (fun r5 m6 hm_m6 => ?_)
      refine Fr.ite (fun _ => ?_) (fun _ => ?_)
      · refine Fr.bd (frM12_takes _ 157 (by decide) hm_m6) (fun r7 m8 hm_m8 => ?_)
        refine Fr.ite (fun _ => ?_) (fun _ => ?_)
        · refine Fr.bd (frM12_takes _ 158 (by decide) hm_m8) (fun r9 m10 hm_m10 => ?_)
          refine Fr.ite (fun _ => ?_) (fun _ => ?_)
          · exact frM12_qKind_J76 _ _ hm_m10
          · exact frM12_qKind_J76 _ _ hm_m10
        · exact frM12_qKind_J76 _ _ hm_m8
      · exact frM12_qKind_J76 _ _ hm_m6
    · exact frM12_qKind_J76 _ _ hm_m4
  · exact frM12_qKind_J76 _ _ hm_m2
set_option maxRecDepth 100000 in
set_option maxHeartbeats 4000000 in
theorem frM12_qTakes_J90 {m0 : ev_M} (f : Nat) (a1 : Int32) (a2 : Int64) {m : ev_M}  (hm_m : frM m0 m) : Fr (frM m0) (FX12_qTakes_J90 f a1 a2 m) := by
  unfold FX12_qTakes_J90
  refine Fr.ite (fun _ => ?_) (fun _ => ?_)
  · exact Fr.ok (frM_I (by decide) hm_m)
  · refine Fr.ite (fun _ => ?_) (fun _ => ?_)
    · refine Fr.ite (fun _ => ?_) (fun _ => ?_)
      · refine Fr.ite (fun _ => ?_) (fun _ => ?_)
        · exact Fr.ok (frM_I (by decide) hm_m)
        · exact Fr.ok (frM_L (by decide) (frM_I (by decide) hm_m))
      · refine Fr.ite (fun _ => ?_) (fun _ => ?_)
        · exact Fr.ok (frM_I (by decide) hm_m)
        · exact Fr.ok (frM_L (by decide) (frM_I (by decide) hm_m))
    · exact Fr.ok (frM_L (by decide) (frM_I (by decide) hm_m))
set_option maxRecDepth 100000 in
set_option maxHeartbeats 4000000 in
theorem frM12_qTakes_J75 {m0 : ev_M} (f : Nat) (a1 : Int32) (a2 : Int64) {m : ev_M}  (hm_m : frM m0 m) : Fr (frM m0) (FX12_qTakes_J75 f a1 a2 m) := by
  unfold FX12_qTakes_J75
  refine Fr.ite (fun _ => ?_) (fun _ => ?_)
  · exact frM12_qTakes_J90 _ _ _ (frM_L (by decide) hm_m)
  · exact frM12_qTakes_J90 _ _ _ hm_m
set_option maxRecDepth 100000 in
set_option maxHeartbeats 4000000 in
theorem frM12_qTakes_J55 {m0 : ev_M} (f : Nat) (a1 : Int32) (a2 : Int64) (a5 : Int32) {m : ev_M}  (hm_m : frM m0 m) : Fr (frM m0) (FX12_qTakes_J55 f a1 a2 a5 m) := by
  unfold FX12_qTakes_J55
  refine Fr.ite (fun _ => ?_) (fun _ => ?_)
  · refine Fr.ite (fun _ => ?_) (fun _ => ?_)
    · exact frM12_qTakes_J75 _ _ _ hm_m
    · exact frM12_qTakes_J75 _ _ _ (frM_L (by decide) hm_m)
  · exact frM12_qTakes_J75 _ _ _ hm_m
set_option maxRecDepth 100000 in
set_option maxHeartbeats 4000000 in
theorem frM12_qTakes_J48 {m0 : ev_M} (f : Nat) (a1 : Int32) (a2 : Int64) (a4 : Int32) (a5 : Int32) {m : ev_M}  (hm_m : frM m0 m) : Fr (frM m0) (FX12_qTakes_J48 f a1 a2 a4 a5 m) := by
  unfold FX12_qTakes_J48
  exact frM12_qTakes_J55 _ _ _ _ (frM_L (by decide) hm_m)
set_option maxRecDepth 100000 in
set_option maxHeartbeats 4000000 in
theorem frM12_qTakes_J38 {m0 : ev_M} (f : Nat) (a1 : Int32) (a2 : Int64) (a4 : Int32) (a5 : Int32) {m : ev_M}  (hm_m : frM m0 m) : Fr (frM m0) (FX12_qTakes_J38 f a1 a2 a4 a5 m) := by
  unfold FX12_qTakes_J38
  refine Fr.ite (fun _ => ?_) (fun _ => ?_)
  · refine Fr.ite (fun _ => ?_) (fun _ => ?_)
    · exact frM12_qTakes_J55 _ _ _ _ hm_m
    · exact frM12_qTakes_J48 _ _ _ _ _ hm_m
  · exact frM12_qTakes_J55 _ _ _ _ hm_m
set_option maxRecDepth 100000 in
set_option maxHeartbeats 4000000 in
theorem frM12_qTakes_J16 {m0 : ev_M} (f : Nat) (a1 : Int32) (a2 : Int64) (a4 : Int32) (s0 : Int32) {m : ev_M}  (hm_m : frM m0 m) : Fr (frM m0) (FX12_qTakes_J16 f a1 a2 a4 s0 m) := by
  unfold FX12_qTakes_J16
  refine Fr.ite (fun _ => ?_) (fun _ => ?_)
  · refine Fr.ite (fun _ => ?_) (fun _ => ?_)
    · exact frM12_qTakes_J38 _ _ _ _ _ hm_m
    · refine Fr.ite (fun _ => ?_) (fun _ => ?_)
      · exact frM12_qTakes_J48 _ _ _ _ _ hm_m
      · exact frM12_qTakes_J38 _ _ _ _ _ hm_m
  · exact frM12_qTakes_J38 _ _ _ _ _ hm_m
set_option maxRecDepth 100000 in
set_option maxHeartbeats 4000000 in
theorem frM12_qTakes_J15 {m0 : ev_M} (f : Nat) (a1 : Int32) (a2 : Int64) (a4 : Int32) {m : ev_M}  (hm_m : frM m0 m) : Fr (frM m0) (FX12_qTakes_J15 f a1 a2 a4 m) := by
  unfold FX12_qTakes_J15
  exact frM12_qTakes_J16 _ _ _ _ _ hm_m
set_option maxRecDepth 100000 in
set_option maxHeartbeats 4000000 in
theorem frM12_qTakes {m0 : ev_M} (f : Nat) (a1 : Int32) (a2 : Int64) (a4 : Int32) {m : ev_M}  (hm_m : frM m0 m) : Fr (frM m0) (FX12_qTakes f a1 a2 a4 m) := by
  unfold FX12_qTakes
  refine Fr.ite (fun _ => ?_) (fun _ => ?_)
  · exact frM12_qTakes_J15 _ _ _ _ hm_m
  · refine Fr.ite (fun _ => ?_) (fun _ => ?_)
    · exact frM12_qTakes_J16 _ _ _ _ _ hm_m
    · exact frM12_qTakes_J15 _ _ _ _ hm_m
set_option maxRecDepth 100000 in
set_option maxHeartbeats 4000000 in
theorem frM12_checked_L6 {m0 : ev_M} (f : Nat) (k : Int32 → ev_M → Option (Int32 × ev_M)) (o0 : Nat) (a1 : Int32) (h_o0 : isK 100 o0) (hk : ∀ (x0 : Int32) (xm : ev_M), frM m0 xm → Fr (frM m0) (k x0 xm)) : ∀ (n : Nat) (a2 : Int32) (a3 : Int32) (m : ev_M), frM m0 m → Fr (frM m0) (FX12_checked_L6 f k o0 a1 n a2 a3 m) := by
  intro n
  induction n with
  | zero => intros; exact Fr.none
  | succ n ih =>
    intro a2 a3 m hm_m
    rw [FX12_checked_L6]
    refine Fr.ite (fun _ => ?_) (fun _ => ?_)
    · exact hk _ _ hm_m
    · refine Fr.ite (fun _ => ?_) (fun _ => ?_)
      · exact ih _ _ hm_m
      · exact Fr.none
set_option maxRecDepth 100000 in
set_option maxHeartbeats 4000000 in
theorem frM12_checked {m0 : ev_M} (f : Nat) (o0 : Nat) (a1 : Int32) {m : ev_M} (h_o0 : isK 100 o0) (hm_m : frM m0 m) : Fr (frM m0) (FX12_checked f o0 a1 m) := by
  unfold FX12_checked
  exact frM12_checked_L6 _ _ o0 _ h_o0 ((by
  intro e1 m2 hm_m2
  exact Fr.ok hm_m2)) _ _ _ _ hm_m
set_option maxRecDepth 100000 in
set_option maxHeartbeats 4000000 in
theorem frM12_writes {m0 : ev_M} (f : Nat) (a1 : Int32) {m : ev_M}  (hm_m : frM m0 m) : Fr (frM m0) (FX12_writes f a1 m) := by
  unfold FX12_writes
  refine Fr.ite (fun _ => ?_) (fun _ => ?_)
  · exact Fr.ok (frM_I (by decide) (frM_I (by decide) hm_m))
  · exact Fr.none
set_option maxRecDepth 100000 in
set_option maxHeartbeats 4000000 in
theorem frM12_image_L45 {m0 : ev_M} (f : Nat) (k : ev_M → Option (Int32 × ev_M)) (hk : ∀  (xm : ev_M), frM m0 xm → Fr (frM m0) (k xm)) : ∀ (n : Nat) (a1 : Int32) (m : ev_M), frM m0 m → Fr (frM m0) (FX12_image_L45 f k n a1 m) := by
  intro n
  induction n with
  | zero => intros; exact Fr.none
  | succ n ih =>
    intro a1 m hm_m
    rw [FX12_image_L45]
    refine Fr.bd (frM12_towerMany _ hm_m) (fun r7 m8 hm_m8 => ?_)
    refine Fr.ite (fun _ => ?_) (fun _ => ?_)
    · exact hk _ hm_m8
    · refine Fr.ite (fun _ => ?_) (fun _ => ?_)
      · refine Fr.bd (frM12_writes _ _ hm_m8) (fun _ m10 hm_m10 => ?_)
        exact ih _ hm_m10
      · exact Fr.none
set_option maxRecDepth 100000 in
set_option maxHeartbeats 4000000 in
theorem frM12_image {m0 : ev_M} (f : Nat) {m : ev_M}  (hm_m : frM m0 m) : Fr (frM m0) (FX12_image f m) := by
  unfold FX12_image
  refine Fr.bd (frM12_writes _ _ (frM_I (by decide) hm_m)) (fun _ m2 hm_m2 => ?_)
  refine Fr.bd (frM12_writes _ _ hm_m2) (fun _ m4 hm_m4 => ?_)
  refine Fr.bd (frM12_writes _ _ hm_m4) (fun _ m6 hm_m6 => ?_)
  exact frM12_image_L45 _ _ ((by
  intro m11 hm_m11
  refine Fr.bd (frM12_checked _ 180 _ (by decide) hm_m11) (fun r12 m13 hm_m13 => ?_)
  refine Fr.bd (frM12_writes _ _ hm_m13) (fun _ m15 hm_m15 => ?_)
  exact Fr.ok hm_m15)) _ _ _ hm_m6
set_option maxRecDepth 100000 in
set_option maxHeartbeats 4000000 in
theorem frM12_octet {m0 : ev_M} (f : Nat) (a1 : Int32) {m : ev_M}  (hm_m : frM m0 m) : Fr (frM m0) (FX12_octet f a1 m) := by
  unfold FX12_octet
  refine Fr.ite (fun _ => ?_) (fun _ => ?_)
  · exact Fr.ok hm_m
  · refine Fr.ite (fun _ => ?_) (fun _ => ?_)
    · exact Fr.ok hm_m
    · refine Fr.ite (fun _ => ?_) (fun _ => ?_)
      · exact Fr.ok hm_m
      · exact Fr.none
set_option maxRecDepth 100000 in
set_option maxHeartbeats 4000000 in
theorem frM12_isImage_J98 {m0 : ev_M} (f : Nat) (kt67 : Int32 → ev_M → Option (Int32 × ev_M)) (a2 : Int32) (s0 : Int32) (s1 : Int32) {m : ev_M} (hkt67 : ∀ (x0 : Int32) (xm : ev_M), frM m0 xm → Fr (frM m0) (kt67 x0 xm)) (hm_m : frM m0 m) : Fr (frM m0) (FX12_isImage_J98 f kt67 a2 s0 s1 m) := by
  unfold FX12_isImage_J98
  refine Fr.ite (fun _ => ?_) (fun _ => ?_)
  · exact hkt67 _ _ hm_m
  · exact Fr.ok hm_m
set_option maxRecDepth 100000 in
set_option maxHeartbeats 4000000 in
theorem frM12_isImage_J96 {m0 : ev_M} (f : Nat) (kt67 : Int32 → ev_M → Option (Int32 × ev_M)) (a2 : Int32) (s0 : Int32) {m : ev_M} (hkt67 : ∀ (x0 : Int32) (xm : ev_M), frM m0 xm → Fr (frM m0) (kt67 x0 xm)) (hm_m : frM m0 m) : Fr (frM m0) (FX12_isImage_J96 f kt67 a2 s0 m) := by
  unfold FX12_isImage_J96
  exact frM12_isImage_J98 _ _ _ _ _ hkt67 hm_m
set_option maxRecDepth 100000 in
set_option maxHeartbeats 4000000 in
theorem frM12_isImage_L67 {m0 : ev_M} (f : Nat) (k : ev_M → Option (Int32 × ev_M)) (a1 : Int32) (hk : ∀  (xm : ev_M), frM m0 xm → Fr (frM m0) (k xm)) : ∀ (n : Nat) (a2 : Int32) (m : ev_M), frM m0 m → Fr (frM m0) (FX12_isImage_L67 f k a1 n a2 m) := by
  intro n
  induction n with
  | zero => intros; exact Fr.none
  | succ n ih =>
    intro a2 m hm_m
    rw [FX12_isImage_L67]
    refine Fr.ite (fun _ => ?_) (fun _ => ?_)
    · exact hk _ hm_m
    · refine Fr.ite (fun _ => ?_) (fun _ => ?_)
      · refine Fr.ite (fun _ => ?_) (fun _ => ?_)
        · exact frM12_isImage_J96 _ _ _ _ ih hm_m
        · refine Fr.ite (fun _ => ?_) (fun _ => ?_)
          · exact frM12_isImage_J98 _ _ _ _ _ ih hm_m
          · exact frM12_isImage_J96 _ _ _ _ ih hm_m
      · exact Fr.none
set_option maxRecDepth 100000 in
set_option maxHeartbeats 4000000 in
theorem frM12_isImage {m0 : ev_M} (f : Nat) (a1 : Int32) {m : ev_M}  (hm_m : frM m0 m) : Fr (frM m0) (FX12_isImage f a1 m) := by
  unfold FX12_isImage
  refine Fr.ite (fun _ => ?_) (fun _ => ?_)
  · exact Fr.ok hm_m
  · refine Fr.bd (frM12_towerMany _ hm_m) (fun r1 m2 hm_m2 => ?_)
    refine Fr.ite (fun _ => ?_) (fun _ => ?_)
    · refine Fr.ite (fun _ => ?_) (fun _ => ?_)
      · refine Fr.bd (frM12_checked _ 113 _ (by decide) hm_m2) (fun r3 m4 hm_m4 => ?_)
        refine Fr.ite (fun _ => ?_) (fun _ => ?_)
        · refine Fr.ite (fun _ => ?_) (fun _ => ?_)
          · exact frM12_isImage_L67 _ _ _ ((by
  intro m5 hm_m5
  exact Fr.ok hm_m5)) _ _ _ hm_m4
          · exact Fr.ok hm_m4
        · exact Fr.ok hm_m4
      · exact Fr.none
    · exact Fr.ok hm_m2
set_option maxRecDepth 100000 in
set_option maxHeartbeats 4000000 in
theorem frM12_on_L67 {m0 : ev_M} (f : Nat) (k : ev_M → Option (Int32 × ev_M)) (hk : ∀  (xm : ev_M), frM m0 xm → Fr (frM m0) (k xm)) : ∀ (n : Nat) (a2 : Int32) (m : ev_M), frM m0 m → Fr (frM m0) (FX12_on_L67 f k n a2 m) := by
  intro n
  induction n with
  | zero => intros; exact Fr.none
  | succ n ih =>
    intro a2 m hm_m
    rw [FX12_on_L67]
    refine Fr.bd (frM12_towerMany _ hm_m) (fun r3 m4 hm_m4 => ?_)
    refine Fr.ite (fun _ => ?_) (fun _ => ?_)
    · exact hk _ hm_m4
    · refine Fr.ite (fun _ => ?_) (fun _ => ?_)
      · refine Fr.ite (fun _ => ?_) (fun _ => ?_)
        · exact ih _ (frM_I (by decide) hm_m4)
        · exact Fr.none
      · exact Fr.none
set_option maxRecDepth 100000 in
set_option maxHeartbeats 4000000 in
theorem frM12_on {m0 : ev_M} (f : Nat) {m : ev_M}  (hm_m : frM m0 m) : Fr (frM m0) (FX12_on f m) := by
  unfold FX12_on
  refine Fr.bd (frM12_isImage _ _ (frM_I (by decide) hm_m)) (fun r1 m2 hm_m2 => ?_)
  refine Fr.ite (fun _ => ?_) (fun _ => ?_)
  · exact Fr.ok (frM_I (by decide) hm_m2)
  · exact frM12_on_L67 _ _ ((by
  intro m5 hm_m5
  exact Fr.ok (frM_I (by decide) (frM_I (by decide) hm_m5)))) _ _ _ (frM_I (by decide) (frM_I (by decide) hm_m2))
set_option maxRecDepth 100000 in
set_option maxHeartbeats 4000000 in
theorem frM12_status {m0 : ev_M} (f : Nat) (a1 : Int32) {m : ev_M}  (hm_m : frM m0 m) : Fr (frM m0) (FX12_status f a1 m) := by
  unfold FX12_status
  refine Fr.bd (frM12_isIn _ _ _ _ hm_m) (fun r1 m2 hm_m2 => ?_)
  refine Fr.ite (fun _ => ?_) (fun _ => ?_)
  · exact Fr.ok hm_m2
  · refine Fr.ite (fun _ => ?_) (fun _ => ?_)
    · exact Fr.ok hm_m2
    · exact Fr.none
set_option maxRecDepth 100000 in
set_option maxHeartbeats 4000000 in
theorem frM12_codesTold_L80 {m0 : ev_M} (f : Nat) (k : ev_M → Option (Unit × ev_M)) (hk : ∀  (xm : ev_M), frM m0 xm → Fr (frM m0) (k xm)) : ∀ (n : Nat) (a3 : Int32) (m : ev_M), frM m0 m → Fr (frM m0) (FX12_codesTold_L80 f k n a3 m) := by
  intro n
  induction n with
  | zero => intros; exact Fr.none
  | succ n ih =>
    intro a3 m hm_m
    rw [FX12_codesTold_L80]
    refine Fr.ite (fun _ => ?_) (fun _ => ?_)
    · exact hk _ hm_m
    · refine Fr.ite (fun _ => ?_) (fun _ => ?_)
      · refine Fr.ite (fun _ => ?_) (fun _ => ?_)
        · exact ih _ (frM_I (by decide) (frM_I (by decide) hm_m))
        · exact Fr.none
      · exact Fr.none
set_option maxRecDepth 100000 in
set_option maxHeartbeats 4000000 in
theorem frM12_codesTold_J23 {m0 : ev_M} (f : Nat) (a1 : Int32) {m : ev_M}  (hm_m : frM m0 m) : Fr (frM m0) (FX12_codesTold_J23 f a1 m) := by
  unfold FX12_codesTold_J23
  refine Fr.ite (fun _ => ?_) (fun _ => ?_)
  · refine Fr.bd (frM12_qSums _ (frM_I (by decide) (frM_I (by decide) (frM_I (by decide) (frM_I (by decide) (frM_I (by decide) hm_m)))))) (fun _ m2 hm_m2 => ?_)
    refine Fr.ite (fun _ => ?_) (fun _ => ?_)
    · refine Fr.ite (fun _ => ?_) (fun _ => ?_)
      · exact frM12_codesTold_L80 _ _ ((by
  intro m3 hm_m3
  refine Fr.ite (fun _ => ?_) (fun _ => ?_)
  · exact Fr.ok (frM_I (by decide) hm_m3)
  · exact Fr.none)) _ _ _ (frM_I (by decide) hm_m2)
      · exact Fr.none
    · exact Fr.ok hm_m2
  · exact Fr.ok hm_m
set_option maxRecDepth 100000 in
set_option maxHeartbeats 4000000 in
theorem frM12_codesTold {m0 : ev_M} (f : Nat) (a1 : Int32) (a2 : Int32) {m : ev_M}  (hm_m : frM m0 m) : Fr (frM m0) (FX12_codesTold f a1 a2 m) := by
  unfold FX12_codesTold
  refine Fr.ite (fun _ => ?_) (fun _ => ?_)
  · refine Fr.ite (fun _ => ?_) (fun _ => ?_)
    · refine Fr.ite (fun _ => ?_) (fun _ => ?_)
      · exact frM12_codesTold_J23 _ _ hm_m
      · refine Fr.bd (frM12_fail _ _ _ hm_m) (fun _ m5 hm_m5 => ?_)
        exact frM12_codesTold_J23 _ _ hm_m5
    · exact Fr.none
  · exact frM12_codesTold_J23 _ _ hm_m
set_option maxRecDepth 100000 in
set_option maxHeartbeats 4000000 in
theorem frM12_statementTold_J173 {m0 : ev_M} (f : Nat) {m : ev_M}  (hm_m : frM m0 m) : Fr (frM m0) (FX12_statementTold_J173 f m) := by
  unfold FX12_statementTold_J173
  refine Fr.bd (frM12_asksSign _ _ hm_m) (fun _ m18 hm_m18 => ?_)
  exact Fr.ok (frM_I (by decide) hm_m18)
set_option maxRecDepth 100000 in
set_option maxHeartbeats 4000000 in
theorem frM12_statementTold {m0 : ev_M} (f : Nat) {m : ev_M}  (hm_m : frM m0 m) : Fr (frM m0) (FX12_statementTold f m) := by
  unfold FX12_statementTold
  refine Fr.ite (fun _ => ?_) (fun _ => ?_)
  · refine Fr.bd (frM12_fail _ _ _ hm_m) (fun _ m32 hm_m32 => ?_)
    exact Fr.ok hm_m32
  · refine Fr.bd (frM12_takes _ 116 (by decide) hm_m) (fun r1 m2 hm_m2 => ?_)
    refine Fr.ite (fun _ => ?_) (fun _ => ?_)
    · refine Fr.bd (frM12_takes _ 119 (by decide) hm_m2) (fun r3 m4 hm_m4 => ?_)
      refine Fr.ite (fun _ => ?_) (fun _ => ?_)
      · refine Fr.bd (frM12_takes _ 120 (by decide) hm_m4) (fun r5 m6 hm_m6 => ?_)
        refine Fr.ite (fun _ => ?_) (fun _ => ?_)
        · refine Fr.bd (frM12_takes _ 121 (by decide) hm_m6) (fun r7 m8 hm_m8 => ?_)
          refine Fr.ite (fun _ => ?_) (fun _ => ?_)
          · refine Fr.bd (frM12_takes _ 122 (by decide) hm_m8) (fun r9 m10 hm_m10 => ?_)
            refine Fr.ite (fun _ => ?_) (fun _ => ?_)
            · refine Fr.bd (frM12_takes _ 123 (by decide) hm_m10) (fun r11 m12 hm_m12 => ?_)
              refine Fr.ite (fun _ => ?_) (fun _ => ?_)
              · refine Fr.bd (frM12_asks _ 124 (by decide) hm_m12) (fun _ m14 hm_m14 => ?_)
                refine Fr.bd (frM12_number _ _ _ hm_m14) (fun r15 m16 hm_m16 => ?_)
                exact frM12_statementTold_J173 _ (frM_I (by decide) hm_m16)
              · refine Fr.bd (frM12_number _ _ _ hm_m12) (fun r19 m20 hm_m20 => ?_)
                exact frM12_statementTold_J173 _ (frM_I (by decide) hm_m20)
            · refine Fr.bd (frM12_number _ _ _ hm_m10) (fun r21 m22 hm_m22 => ?_)
              exact frM12_statementTold_J173 _ (frM_I (by decide) hm_m22)
          · refine Fr.bd (frM12_codesTold _ _ _ hm_m8) (fun _ m24 hm_m24 => ?_)
            exact frM12_statementTold_J173 _ hm_m24
        · refine Fr.bd (frM12_codesTold _ _ _ hm_m6) (fun _ m26 hm_m26 => ?_)
          exact frM12_statementTold_J173 _ hm_m26
      · refine Fr.bd (frM12_yesTold _ hm_m4) (fun _ m28 hm_m28 => ?_)
        exact frM12_statementTold_J173 _ hm_m28
    · refine Fr.bd (frM12_towerTold _ _ hm_m2) (fun _ m30 hm_m30 => ?_)
      exact frM12_statementTold_J173 _ hm_m30
set_option maxRecDepth 100000 in
set_option maxHeartbeats 4000000 in
theorem frM12_castle_L87 {m0 : ev_M} (f : Nat) (k : ev_M → Option (Int32 × ev_M)) (hk : ∀  (xm : ev_M), frM m0 xm → Fr (frM m0) (k xm)) : ∀ (n : Nat)  (m : ev_M), frM m0 m → Fr (frM m0) (FX12_castle_L87 f k n m) := by
  intro n
  induction n with
  | zero => intros; exact Fr.none
  | succ n ih =>
    intro m hm_m
    rw [FX12_castle_L87]
    refine Fr.ite (fun _ => ?_) (fun _ => ?_)
    · refine Fr.bd (frM12_look _ hm_m) (fun r3 m4 hm_m4 => ?_)
      refine Fr.ite (fun _ => ?_) (fun _ => ?_)
      · exact hk _ hm_m4
      · refine Fr.bd (frM12_statementTold _ hm_m4) (fun _ m6 hm_m6 => ?_)
        exact ih  hm_m6
    · exact hk _ hm_m
set_option maxRecDepth 100000 in
set_option maxHeartbeats 4000000 in
theorem frM12_castle_J109 {m0 : ev_M} (f : Nat) {m : ev_M}  (hm_m : frM m0 m) : Fr (frM m0) (FX12_castle_J109 f m) := by
  unfold FX12_castle_J109
  refine Fr.ite (fun _ => ?_) (fun _ => ?_)
  · refine Fr.bd (frM12_stands _ (frM_I (by decide) (frM_I (by decide) hm_m))) (fun _ m9 hm_m9 => ?_)
    exact Fr.ok hm_m9
  · exact Fr.ok (frM_I (by decide) (frM_I (by decide) (frM_I (by decide) hm_m)))
set_option maxRecDepth 100000 in
set_option maxHeartbeats 4000000 in
theorem frM12_castle {m0 : ev_M} (f : Nat) {m : ev_M}  (hm_m : frM m0 m) : Fr (frM m0) (FX12_castle f m) := by
  unfold FX12_castle
  refine Fr.bd (frM12_callTold0 _ (frM_I (by decide) (frM_I (by decide) (frM_I (by decide) (frM_I (by decide) (frM_I (by decide) (frM_I (by decide) (frM_I (by decide) (frM_I (by decide) (frM_I (by decide) (frM_I (by decide) (frM_I (by decide) (frM_I (by decide) (frM_I (by decide) hm_m)))))))))))))) (fun _ m2 hm_m2 => ?_)
  exact frM12_castle_L87 _ _ ((by
  intro m7 hm_m7
  exact frM12_castle_J109 _ hm_m7)) _ _ (frM_I (by decide) hm_m2)
set_option maxRecDepth 100000 in
set_option maxHeartbeats 4000000 in
theorem frM12_codesTell_J95 {m0 : ev_M} (f : Nat) (kt19 : Int32 → ev_M → Option (Int64 × ev_M)) (a3 : Int32) {m : ev_M} (hkt19 : ∀ (x0 : Int32) (xm : ev_M), frM m0 xm → Fr (frM m0) (kt19 x0 xm)) (hm_m : frM m0 m) : Fr (frM m0) (FX12_codesTell_J95 f kt19 a3 m) := by
  unfold FX12_codesTell_J95
  exact hkt19 _ _ hm_m
set_option maxRecDepth 100000 in
set_option maxHeartbeats 4000000 in
theorem frM12_codesTell_L19 {m0 : ev_M} (f : Nat) (k : ev_M → Option (Int64 × ev_M)) (a1 : Int32) (a2 : Int32) (hk : ∀  (xm : ev_M), frM m0 xm → Fr (frM m0) (k xm)) : ∀ (n : Nat) (a3 : Int32) (m : ev_M), frM m0 m → Fr (frM m0) (FX12_codesTell_L19 f k a1 a2 n a3 m) := by
  intro n
  induction n with
  | zero => intros; exact Fr.none
  | succ n ih =>
    intro a3 m hm_m
    rw [FX12_codesTell_L19]
    refine Fr.ite (fun _ => ?_) (fun _ => ?_)
    · refine Fr.ite (fun _ => ?_) (fun _ => ?_)
      · exact hk _ hm_m
      · refine Fr.ite (fun _ => ?_) (fun _ => ?_)
        · refine Fr.ite (fun _ => ?_) (fun _ => ?_)
          · refine Fr.ite (fun _ => ?_) (fun _ => ?_)
            · refine Fr.bd (frM12_qJoins _ _ hm_m) (fun _ m2 hm_m2 => ?_)
              exact frM12_codesTell_J95 _ _ _ ih hm_m2
            · refine Fr.bd (frM12_qPartOf _ _ _ hm_m) (fun r3 m4 hm_m4 => ?_)
              refine Fr.bd (frM12_qPuts _ _ hm_m4) (fun _ m6 hm_m6 => ?_)
              exact frM12_codesTell_J95 _ _ _ ih hm_m6
          · refine Fr.bd (frM12_qPuts _ _ hm_m) (fun _ m8 hm_m8 => ?_)
            exact frM12_codesTell_J95 _ _ _ ih hm_m8
        · exact Fr.none
    · exact Fr.none
set_option maxRecDepth 100000 in
set_option maxHeartbeats 4000000 in
theorem frM12_codesTell {m0 : ev_M} (f : Nat) (a1 : Int32) (a2 : Int32) {m : ev_M}  (hm_m : frM m0 m) : Fr (frM m0) (FX12_codesTell f a1 a2 m) := by
  unfold FX12_codesTell
  refine Fr.ite (fun _ => ?_) (fun _ => ?_)
  · exact frM12_codesTell_L19 _ _ _ _ ((by
  intro m9 hm_m9
  exact Fr.ok hm_m9)) _ _ _ (frM_I (by decide) (frM_I (by decide) hm_m))
  · exact Fr.none
set_option maxRecDepth 100000 in
set_option maxHeartbeats 4000000 in
theorem frM12_saidBy_J59 {m0 : ev_M} (f : Nat) (s0 : Int32) {m : ev_M}  (hm_m : frM m0 m) : Fr (frM m0) (FX12_saidBy_J59 f s0 m) := by
  unfold FX12_saidBy_J59
  refine Fr.bd (frM12_cut _ _ hm_m) (fun r7 m8 hm_m8 => ?_)
  exact Fr.ok hm_m8
set_option maxRecDepth 100000 in
set_option maxHeartbeats 4000000 in
theorem frM12_saidBy {m0 : ev_M} (f : Nat) (a1 : Int32) {m : ev_M}  (hm_m : frM m0 m) : Fr (frM m0) (FX12_saidBy f a1 m) := by
  unfold FX12_saidBy
  refine Fr.bd (frM12_isYes _ _ hm_m) (fun r1 m2 hm_m2 => ?_)
  refine Fr.ite (fun _ => ?_) (fun _ => ?_)
  · refine Fr.ite (fun _ => ?_) (fun _ => ?_)
    · refine Fr.bd (frM12_moodOf _ _ hm_m2) (fun r3 m4 hm_m4 => ?_)
      refine Fr.bd (frM12_cheerOf _ _ hm_m4) (fun r5 m6 hm_m6 => ?_)
      refine Fr.ite (fun _ => ?_) (fun _ => ?_)
      · exact frM12_saidBy_J59 _ _ hm_m6
      · exact frM12_saidBy_J59 _ _ hm_m6
    · refine Fr.bd (frM12_codesTell _ _ _ hm_m2) (fun r9 m10 hm_m10 => ?_)
      refine Fr.bd (frM12_cut _ _ hm_m10) (fun r11 m12 hm_m12 => ?_)
      exact Fr.ok hm_m12
  · exact Fr.ok hm_m2
set_option maxRecDepth 100000 in
set_option maxHeartbeats 4000000 in
theorem frM12_feltBy {m0 : ev_M} (f : Nat) (a1 : Int32) {m : ev_M}  (hm_m : frM m0 m) : Fr (frM m0) (FX12_feltBy f a1 m) := by
  unfold FX12_feltBy
  refine Fr.ite (fun _ => ?_) (fun _ => ?_)
  · refine Fr.bd (frM12_moodOf _ _ hm_m) (fun r5 m6 hm_m6 => ?_)
    exact Fr.ok hm_m6
  · refine Fr.bd (frM12_codesTell _ _ _ hm_m) (fun r1 m2 hm_m2 => ?_)
    refine Fr.bd (frM12_cut _ _ hm_m2) (fun r3 m4 hm_m4 => ?_)
    exact Fr.ok hm_m4
set_option maxRecDepth 100000 in
set_option maxHeartbeats 4000000 in
theorem frM12_roundGoes_L2 {m0 : ev_M} (f : Nat) (k : ev_M → Option (Unit × ev_M)) (hk : ∀  (xm : ev_M), frM m0 xm → Fr (frM m0) (k xm)) : ∀ (n : Nat) (a1 : Int32) (m : ev_M), frM m0 m → Fr (frM m0) (FX12_roundGoes_L2 f k n a1 m) := by
  intro n
  induction n with
  | zero => intros; exact Fr.none
  | succ n ih =>
    intro a1 m hm_m
    rw [FX12_roundGoes_L2]
    refine Fr.bd (frM12_towerMany _ hm_m) (fun r1 m2 hm_m2 => ?_)
    refine Fr.ite (fun _ => ?_) (fun _ => ?_)
    · exact hk _ hm_m2
    · refine Fr.bd (frM12_saidBy _ _ (frM_I (by decide) (frM_I (by decide) hm_m2))) (fun r3 m4 hm_m4 => ?_)
      refine Fr.ite (fun _ => ?_) (fun _ => ?_)
      · refine Fr.ite (fun _ => ?_) (fun _ => ?_)
        · refine Fr.ite (fun _ => ?_) (fun _ => ?_)
          · refine Fr.bd (frM12_feltBy _ _ (frM_I (by decide) (frM_I (by decide) (frM_I (by decide) hm_m4)))) (fun r5 m6 hm_m6 => ?_)
            refine Fr.ite (fun _ => ?_) (fun _ => ?_)
            · exact ih _ (frM_I (by decide) hm_m6)
            · exact Fr.none
          · exact Fr.none
        · exact Fr.none
      · exact Fr.none
set_option maxRecDepth 100000 in
set_option maxHeartbeats 4000000 in
theorem frM12_roundGoes {m0 : ev_M} (f : Nat) {m : ev_M}  (hm_m : frM m0 m) : Fr (frM m0) (FX12_roundGoes f m) := by
  unfold FX12_roundGoes
  exact frM12_roundGoes_L2 _ _ ((by
  intro m7 hm_m7
  refine Fr.bd (frM12_doubtsNow _ (frM_I (by decide) hm_m7)) (fun r8 m9 hm_m9 => ?_)
  refine Fr.bd (frM12_rowOf _ _ (frM_I (by decide) hm_m9)) (fun r10 m11 hm_m11 => ?_)
  refine Fr.ite (fun _ => ?_) (fun _ => ?_)
  · exact Fr.ok (frM_I (by decide) hm_m11)
  · refine Fr.bd (frM12_doubtsNow _ (frM_I (by decide) hm_m11)) (fun r12 m13 hm_m13 => ?_)
    refine Fr.bd (frM12_isKept _ _ _ hm_m13) (fun _ m15 hm_m15 => ?_)
    exact Fr.ok (frM_I (by decide) hm_m15))) _ _ _ hm_m
set_option maxRecDepth 100000 in
set_option maxHeartbeats 4000000 in
theorem frM12_roundsGo_L2 {m0 : ev_M} (f : Nat) (k : ev_M → Option (Unit × ev_M)) (a1 : Int32) (hk : ∀  (xm : ev_M), frM m0 xm → Fr (frM m0) (k xm)) : ∀ (n : Nat) (a2 : Int32) (m : ev_M), frM m0 m → Fr (frM m0) (FX12_roundsGo_L2 f k a1 n a2 m) := by
  intro n
  induction n with
  | zero => intros; exact Fr.none
  | succ n ih =>
    intro a2 m hm_m
    rw [FX12_roundsGo_L2]
    refine Fr.ite (fun _ => ?_) (fun _ => ?_)
    · exact hk _ hm_m
    · refine Fr.bd (frM12_roundGoes _ hm_m) (fun _ m2 hm_m2 => ?_)
      exact ih _ hm_m2
set_option maxRecDepth 100000 in
set_option maxHeartbeats 4000000 in
theorem frM12_roundsGo {m0 : ev_M} (f : Nat) (a1 : Int32) {m : ev_M}  (hm_m : frM m0 m) : Fr (frM m0) (FX12_roundsGo f a1 m) := by
  unfold FX12_roundsGo
  exact frM12_roundsGo_L2 _ _ _ ((by
  intro m3 hm_m3
  exact Fr.ok hm_m3)) _ _ _ hm_m
set_option maxRecDepth 100000 in
set_option maxHeartbeats 4000000 in
theorem frM12_doGoTo {m0 : ev_M} (f : Nat) (a1 : Int32) {m : ev_M}  (hm_m : frM m0 m) : Fr (frM m0) (FX12_doGoTo f a1 m) := by
  unfold FX12_doGoTo
  refine Fr.bd (frM12_isIn _ _ _ _ hm_m) (fun r1 m2 hm_m2 => ?_)
  refine Fr.ite (fun _ => ?_) (fun _ => ?_)
  · exact Fr.ok hm_m2
  · refine Fr.bd (frM12_isAhead _ _ _ _ hm_m2) (fun r3 m4 hm_m4 => ?_)
    refine Fr.ite (fun _ => ?_) (fun _ => ?_)
    · exact Fr.ok hm_m4
    · refine Fr.bd (frM12_putsAside _ hm_m4) (fun _ m6 hm_m6 => ?_)
      refine Fr.bd (frM12_roundsGo _ _ hm_m6) (fun _ m8 hm_m8 => ?_)
      refine Fr.bd (frM12_takesBack _ hm_m8) (fun _ m10 hm_m10 => ?_)
      exact Fr.ok hm_m10
set_option maxRecDepth 100000 in
set_option maxHeartbeats 4000000 in
theorem frM12_tone {m0 : ev_M} (f : Nat) (a1 : Int32) (a2 : Int32) {m : ev_M}  (hm_m : frM m0 m) : Fr (frM m0) (FX12_tone f a1 a2 m) := by
  unfold FX12_tone
  refine Fr.bd (frM12_isTower _ _ hm_m) (fun r1 m2 hm_m2 => ?_)
  refine Fr.ite (fun _ => ?_) (fun _ => ?_)
  · exact Fr.ok hm_m2
  · refine Fr.bd (frM12_doGoTo _ _ hm_m2) (fun r3 m4 hm_m4 => ?_)
    refine Fr.ite (fun _ => ?_) (fun _ => ?_)
    · exact Fr.ok hm_m4
    · refine Fr.ite (fun _ => ?_) (fun _ => ?_)
      · exact Fr.ok hm_m4
      · exact Fr.none
set_option maxRecDepth 100000 in
set_option maxHeartbeats 4000000 in
theorem frM12_mood {m0 : ev_M} (f : Nat) (a1 : Int32) (a2 : Int32) {m : ev_M}  (hm_m : frM m0 m) : Fr (frM m0) (FX12_mood f a1 a2 m) := by
  unfold FX12_mood
  refine Fr.bd (frM12_isTower _ _ hm_m) (fun r1 m2 hm_m2 => ?_)
  refine Fr.ite (fun _ => ?_) (fun _ => ?_)
  · exact Fr.ok hm_m2
  · refine Fr.bd (frM12_isAhead _ _ _ _ hm_m2) (fun r3 m4 hm_m4 => ?_)
    refine Fr.ite (fun _ => ?_) (fun _ => ?_)
    · exact Fr.ok hm_m4
    · refine Fr.bd (frM12_putsAside _ hm_m4) (fun _ m6 hm_m6 => ?_)
      refine Fr.bd (frM12_roundsGo _ _ hm_m6) (fun _ m8 hm_m8 => ?_)
      refine Fr.bd (frM12_moodOf _ _ hm_m8) (fun r9 m10 hm_m10 => ?_)
      refine Fr.bd (frM12_takesBack _ hm_m10) (fun _ m12 hm_m12 => ?_)
      exact Fr.ok hm_m12
set_option maxRecDepth 100000 in
set_option maxHeartbeats 4000000 in
theorem frM12_doubts {m0 : ev_M} (f : Nat) (a1 : Int32) {m : ev_M}  (hm_m : frM m0 m) : Fr (frM m0) (FX12_doubts f a1 m) := by
  unfold FX12_doubts
  refine Fr.bd (frM12_doGoTo _ _ hm_m) (fun r1 m2 hm_m2 => ?_)
  refine Fr.ite (fun _ => ?_) (fun _ => ?_)
  · exact Fr.ok hm_m2
  · refine Fr.bd (frM12_doubtsNow _ hm_m2) (fun r3 m4 hm_m4 => ?_)
    exact Fr.ok hm_m4
set_option maxRecDepth 100000 in
set_option maxHeartbeats 4000000 in
theorem frM12_fire_J53 {m0 : ev_M} (f : Nat) (kt17 : Int32 → Int32 → ev_M → Option (Int32 × ev_M)) (a1 : Int32) (a2 : Int32) {m : ev_M} (hkt17 : ∀ (x0 : Int32) (x1 : Int32) (xm : ev_M), frM m0 xm → Fr (frM m0) (kt17 x0 x1 xm)) (hm_m : frM m0 m) : Fr (frM m0) (FX12_fire_J53 f kt17 a1 a2 m) := by
  unfold FX12_fire_J53
  exact hkt17 _ _ _ hm_m
set_option maxRecDepth 100000 in
set_option maxHeartbeats 4000000 in
theorem frM12_fire_L17 {m0 : ev_M} (f : Nat) (k : Int32 → ev_M → Option (Int32 × ev_M)) (hk : ∀ (x0 : Int32) (xm : ev_M), frM m0 xm → Fr (frM m0) (k x0 xm)) : ∀ (n : Nat) (a1 : Int32) (a2 : Int32) (m : ev_M), frM m0 m → Fr (frM m0) (FX12_fire_L17 f k n a1 a2 m) := by
  intro n
  induction n with
  | zero => intros; exact Fr.none
  | succ n ih =>
    intro a1 a2 m hm_m
    rw [FX12_fire_L17]
    refine Fr.ite (fun _ => ?_) (fun _ => ?_)
    · exact hk _ _ hm_m
    · refine Fr.ite (fun _ => ?_) (fun _ => ?_)
      · refine Fr.ite (fun _ => ?_) (fun _ => ?_)
        · exact hk _ _ hm_m
        · refine Fr.bd (frM12_roundGoes _ hm_m) (fun _ m4 hm_m4 => ?_)
          refine Fr.ite (fun _ => ?_) (fun _ => ?_)
          · exact frM12_fire_J53 _ _ _ _ ih hm_m4
          · exact frM12_fire_J53 _ _ _ _ ih hm_m4
      · exact hk _ _ hm_m
set_option maxRecDepth 100000 in
set_option maxHeartbeats 4000000 in
theorem frM12_fire_J59 {m0 : ev_M} (f : Nat) (a1 : Int32) {m : ev_M}  (hm_m : frM m0 m) : Fr (frM m0) (FX12_fire_J59 f a1 m) := by
  unfold FX12_fire_J59
  refine Fr.bd (frM12_takesBack _ hm_m) (fun _ m8 hm_m8 => ?_)
  exact Fr.ok hm_m8
set_option maxRecDepth 100000 in
set_option maxHeartbeats 4000000 in
theorem frM12_fire {m0 : ev_M} (f : Nat) {m : ev_M}  (hm_m : frM m0 m) : Fr (frM m0) (FX12_fire f m) := by
  unfold FX12_fire
  refine Fr.ite (fun _ => ?_) (fun _ => ?_)
  · exact Fr.ok hm_m
  · refine Fr.bd (frM12_putsAside _ hm_m) (fun _ m2 hm_m2 => ?_)
    exact frM12_fire_L17 _ _ ((by
  intro e5 m6 hm_m6
  exact frM12_fire_J59 _ _ hm_m6)) _ _ _ _ hm_m2
set_option maxRecDepth 100000 in
set_option maxHeartbeats 4000000 in
theorem frM12_settles_J101 {m0 : ev_M} (f : Nat) (kt72 : Int32 → Int32 → Int32 → ev_M → Option (Int32 × ev_M)) (a2 : Int32) (a3 : Int32) (a5 : Int32) {m : ev_M} (hkt72 : ∀ (x0 : Int32) (x1 : Int32) (x2 : Int32) (xm : ev_M), frM m0 xm → Fr (frM m0) (kt72 x0 x1 x2 xm)) (hm_m : frM m0 m) : Fr (frM m0) (FX12_settles_J101 f kt72 a2 a3 a5 m) := by
  unfold FX12_settles_J101
  exact hkt72 _ _ _ _ hm_m
set_option maxRecDepth 100000 in
set_option maxHeartbeats 4000000 in
theorem frM12_settles_L72 {m0 : ev_M} (f : Nat) (k : Int32 → Int32 → ev_M → Option (Int32 × ev_M)) (a4 : Int32) (hk : ∀ (x0 : Int32) (x1 : Int32) (xm : ev_M), frM m0 xm → Fr (frM m0) (k x0 x1 xm)) : ∀ (n : Nat) (a2 : Int32) (a3 : Int32) (a5 : Int32) (m : ev_M), frM m0 m → Fr (frM m0) (FX12_settles_L72 f k a4 n a2 a3 a5 m) := by
  intro n
  induction n with
  | zero => intros; exact Fr.none
  | succ n ih =>
    intro a2 a3 a5 m hm_m
    rw [FX12_settles_L72]
    refine Fr.ite (fun _ => ?_) (fun _ => ?_)
    · exact hk _ _ _ hm_m
    · refine Fr.ite (fun _ => ?_) (fun _ => ?_)
      · refine Fr.bd (frM12_isAs _ _ _ hm_m) (fun r11 m12 hm_m12 => ?_)
        refine Fr.ite (fun _ => ?_) (fun _ => ?_)
        · exact frM12_settles_J101 _ _ _ _ _ ih hm_m12
        · exact frM12_settles_J101 _ _ _ _ _ ih hm_m12
      · exact hk _ _ _ hm_m
set_option maxRecDepth 100000 in
set_option maxHeartbeats 4000000 in
theorem frM12_settles_J107 {m0 : ev_M} (f : Nat) (kt35 : Int32 → Int32 → Int32 → ev_M → Option (Int32 × ev_M)) (a2 : Int32) (a3 : Int32) (a4 : Int32) {m : ev_M} (hkt35 : ∀ (x0 : Int32) (x1 : Int32) (x2 : Int32) (xm : ev_M), frM m0 xm → Fr (frM m0) (kt35 x0 x1 x2 xm)) (hm_m : frM m0 m) : Fr (frM m0) (FX12_settles_J107 f kt35 a2 a3 a4 m) := by
  unfold FX12_settles_J107
  exact hkt35 _ _ _ _ hm_m
set_option maxRecDepth 100000 in
set_option maxHeartbeats 4000000 in
theorem frM12_settles_L35 {m0 : ev_M} (f : Nat) (k : Int32 → Int32 → ev_M → Option (Int32 × ev_M)) (hk : ∀ (x0 : Int32) (x1 : Int32) (xm : ev_M), frM m0 xm → Fr (frM m0) (k x0 x1 xm)) : ∀ (n : Nat) (a2 : Int32) (a3 : Int32) (a4 : Int32) (m : ev_M), frM m0 m → Fr (frM m0) (FX12_settles_L35 f k n a2 a3 a4 m) := by
  intro n
  induction n with
  | zero => intros; exact Fr.none
  | succ n ih =>
    intro a2 a3 a4 m hm_m
    rw [FX12_settles_L35]
    refine Fr.ite (fun _ => ?_) (fun _ => ?_)
    · exact hk _ _ _ hm_m
    · refine Fr.ite (fun _ => ?_) (fun _ => ?_)
      · refine Fr.ite (fun _ => ?_) (fun _ => ?_)
        · exact hk _ _ _ hm_m
        · refine Fr.bd (frM12_roundGoes _ hm_m) (fun _ m8 hm_m8 => ?_)
          refine Fr.bd (frM12_isWritten _ _ hm_m8) (fun _ m10 hm_m10 => ?_)
          exact frM12_settles_L72 _ _ _ ((by
  intro e13 e14 m15 hm_m15
  exact frM12_settles_J107 _ _ _ _ _ ih hm_m15)) _ _ _ _ _ hm_m10
      · exact hk _ _ _ hm_m
set_option maxRecDepth 100000 in
set_option maxHeartbeats 4000000 in
theorem frM12_settles_J113 {m0 : ev_M} (f : Nat) (a1 : Int32) (a2 : Int32) (a3 : Int32) {m : ev_M}  (hm_m : frM m0 m) : Fr (frM m0) (FX12_settles_J113 f a1 a2 a3 m) := by
  unfold FX12_settles_J113
  refine Fr.bd (frM12_takesBack _ hm_m) (fun _ m20 hm_m20 => ?_)
  refine Fr.ite (fun _ => ?_) (fun _ => ?_)
  · exact Fr.ok hm_m20
  · refine Fr.ite (fun _ => ?_) (fun _ => ?_)
    · exact Fr.ok hm_m20
    · exact Fr.ok hm_m20
set_option maxRecDepth 100000 in
set_option maxHeartbeats 4000000 in
theorem frM12_settles {m0 : ev_M} (f : Nat) (a1 : Int32) {m : ev_M}  (hm_m : frM m0 m) : Fr (frM m0) (FX12_settles f a1 m) := by
  unfold FX12_settles
  refine Fr.ite (fun _ => ?_) (fun _ => ?_)
  · exact Fr.ok hm_m
  · refine Fr.bd (frM12_isIn _ _ _ _ hm_m) (fun r1 m2 hm_m2 => ?_)
    refine Fr.ite (fun _ => ?_) (fun _ => ?_)
    · exact Fr.ok hm_m2
    · refine Fr.bd (frM12_putsAside _ hm_m2) (fun _ m4 hm_m4 => ?_)
      refine Fr.bd (frM12_isWritten _ _ hm_m4) (fun _ m6 hm_m6 => ?_)
      exact frM12_settles_L35 _ _ ((by
  intro e16 e17 m18 hm_m18
  exact frM12_settles_J113 _ _ _ _ hm_m18)) _ _ _ _ _ hm_m6
set_option maxRecDepth 100000 in
set_option maxHeartbeats 4000000 in
theorem frM12_isCheered_J33 {m0 : ev_M} (f : Nat) (kt2 : Int32 → ev_M → Option (Int32 × ev_M)) (a3 : Int32) {m : ev_M} (hkt2 : ∀ (x0 : Int32) (xm : ev_M), frM m0 xm → Fr (frM m0) (kt2 x0 xm)) (hm_m : frM m0 m) : Fr (frM m0) (FX12_isCheered_J33 f kt2 a3 m) := by
  unfold FX12_isCheered_J33
  exact hkt2 _ _ hm_m
set_option maxRecDepth 100000 in
set_option maxHeartbeats 4000000 in
theorem frM12_isCheered_L2 {m0 : ev_M} (f : Nat) (k : ev_M → Option (Int32 × ev_M)) (a1 : Int32) (hk : ∀  (xm : ev_M), frM m0 xm → Fr (frM m0) (k xm)) : ∀ (n : Nat) (a3 : Int32) (m : ev_M), frM m0 m → Fr (frM m0) (FX12_isCheered_L2 f k a1 n a3 m) := by
  intro n
  induction n with
  | zero => intros; exact Fr.none
  | succ n ih =>
    intro a3 m hm_m
    rw [FX12_isCheered_L2]
    refine Fr.bd (frM12_towerMany _ hm_m) (fun r1 m2 hm_m2 => ?_)
    refine Fr.ite (fun _ => ?_) (fun _ => ?_)
    · exact hk _ hm_m2
    · refine Fr.ite (fun _ => ?_) (fun _ => ?_)
      · refine Fr.ite (fun _ => ?_) (fun _ => ?_)
        · exact frM12_isCheered_J33 _ _ _ ih (frM_I (by decide) hm_m2)
        · exact Fr.none
      · exact frM12_isCheered_J33 _ _ _ ih hm_m2
set_option maxRecDepth 100000 in
set_option maxHeartbeats 4000000 in
theorem frM12_isCheered_J56 {m0 : ev_M} (f : Nat) (s0 : Int32) {m : ev_M}  (hm_m : frM m0 m) : Fr (frM m0) (FX12_isCheered_J56 f s0 m) := by
  unfold FX12_isCheered_J56
  refine Fr.bd (frM12_triesAnew _ hm_m) (fun _ m7 hm_m7 => ?_)
  refine Fr.ite (fun _ => ?_) (fun _ => ?_)
  · exact Fr.ok hm_m7
  · exact Fr.none
set_option maxRecDepth 100000 in
set_option maxHeartbeats 4000000 in
theorem frM12_isCheered {m0 : ev_M} (f : Nat) (a1 : Int32) (a2 : Int32) {m : ev_M}  (hm_m : frM m0 m) : Fr (frM m0) (FX12_isCheered f a1 a2 m) := by
  unfold FX12_isCheered
  exact frM12_isCheered_L2 _ _ _ ((by
  intro m3 hm_m3
  refine Fr.bd (frM12_roundsGo _ _ hm_m3) (fun _ m5 hm_m5 => ?_)
  refine Fr.ite (fun _ => ?_) (fun _ => ?_)
  · exact frM12_isCheered_J56 _ _ hm_m5
  · exact frM12_isCheered_J56 _ _ hm_m5)) _ _ _ hm_m
set_option maxRecDepth 100000 in
set_option maxHeartbeats 4000000 in
theorem frM12_isSighed_J22 {m0 : ev_M} (f : Nat) (s0 : Int32) {m : ev_M}  (hm_m : frM m0 m) : Fr (frM m0) (FX12_isSighed_J22 f s0 m) := by
  unfold FX12_isSighed_J22
  refine Fr.bd (frM12_triesAnew _ hm_m) (fun _ m4 hm_m4 => ?_)
  refine Fr.ite (fun _ => ?_) (fun _ => ?_)
  · exact Fr.ok hm_m4
  · exact Fr.none
set_option maxRecDepth 100000 in
set_option maxHeartbeats 4000000 in
theorem frM12_isSighed {m0 : ev_M} (f : Nat) (a1 : Int32) (a2 : Int32) {m : ev_M}  (hm_m : frM m0 m) : Fr (frM m0) (FX12_isSighed f a1 a2 m) := by
  unfold FX12_isSighed
  refine Fr.bd (frM12_roundsGo _ _ (frM_I (by decide) hm_m)) (fun _ m2 hm_m2 => ?_)
  refine Fr.ite (fun _ => ?_) (fun _ => ?_)
  · exact frM12_isSighed_J22 _ _ hm_m2
  · exact frM12_isSighed_J22 _ _ hm_m2
set_option maxRecDepth 100000 in
set_option maxHeartbeats 4000000 in
theorem frM12_fewest_J79 {m0 : ev_M} (f : Nat) (kt9 : Int32 → Int32 → ev_M → Option (Int32 × ev_M)) (a3 : Int32) (a4 : Int32) {m : ev_M} (hkt9 : ∀ (x0 : Int32) (x1 : Int32) (xm : ev_M), frM m0 xm → Fr (frM m0) (kt9 x0 x1 xm)) (hm_m : frM m0 m) : Fr (frM m0) (FX12_fewest_J79 f kt9 a3 a4 m) := by
  unfold FX12_fewest_J79
  exact hkt9 _ _ _ hm_m
set_option maxRecDepth 100000 in
set_option maxHeartbeats 4000000 in
theorem frM12_fewest_J76 {m0 : ev_M} (f : Nat) (kt9 : Int32 → Int32 → ev_M → Option (Int32 × ev_M)) (a4 : Int32) {m : ev_M} (hkt9 : ∀ (x0 : Int32) (x1 : Int32) (xm : ev_M), frM m0 xm → Fr (frM m0) (kt9 x0 x1 xm)) (hm_m : frM m0 m) : Fr (frM m0) (FX12_fewest_J76 f kt9 a4 m) := by
  unfold FX12_fewest_J76
  exact frM12_fewest_J79 _ _ _ _ hkt9 hm_m
set_option maxRecDepth 100000 in
set_option maxHeartbeats 4000000 in
theorem frM12_fewest_J49 {m0 : ev_M} (f : Nat) (kt9 : Int32 → Int32 → ev_M → Option (Int32 × ev_M)) (a1 : Int32) (a2 : Int32) (a3 : Int32) (a4 : Int32) {m : ev_M} (hkt9 : ∀ (x0 : Int32) (x1 : Int32) (xm : ev_M), frM m0 xm → Fr (frM m0) (kt9 x0 x1 xm)) (hm_m : frM m0 m) : Fr (frM m0) (FX12_fewest_J49 f kt9 a1 a2 a3 a4 m) := by
  unfold FX12_fewest_J49
  refine Fr.ite (fun _ => ?_) (fun _ => ?_)
  · refine Fr.bd (frM12_isSighed _ _ _ hm_m) (fun r7 m8 hm_m8 => ?_)
    refine Fr.ite (fun _ => ?_) (fun _ => ?_)
    · exact frM12_fewest_J79 _ _ _ _ hkt9 hm_m8
    · exact frM12_fewest_J76 _ _ _ hkt9 hm_m8
  · refine Fr.bd (frM12_isCheered _ _ _ hm_m) (fun r9 m10 hm_m10 => ?_)
    refine Fr.ite (fun _ => ?_) (fun _ => ?_)
    · exact frM12_fewest_J79 _ _ _ _ hkt9 hm_m10
    · exact frM12_fewest_J76 _ _ _ hkt9 hm_m10
set_option maxRecDepth 100000 in
set_option maxHeartbeats 4000000 in
theorem frM12_fewest_L9 {m0 : ev_M} (f : Nat) (k : Int32 → ev_M → Option (Int32 × ev_M)) (a1 : Int32) (a2 : Int32) (hk : ∀ (x0 : Int32) (xm : ev_M), frM m0 xm → Fr (frM m0) (k x0 xm)) : ∀ (n : Nat) (a3 : Int32) (a4 : Int32) (m : ev_M), frM m0 m → Fr (frM m0) (FX12_fewest_L9 f k a1 a2 n a3 a4 m) := by
  intro n
  induction n with
  | zero => intros; exact Fr.none
  | succ n ih =>
    intro a3 a4 m hm_m
    rw [FX12_fewest_L9]
    refine Fr.bd (frM12_towerMany _ hm_m) (fun r3 m4 hm_m4 => ?_)
    refine Fr.ite (fun _ => ?_) (fun _ => ?_)
    · exact hk _ _ hm_m4
    · refine Fr.bd (frM12_bits _ _ hm_m4) (fun r5 m6 hm_m6 => ?_)
      refine Fr.ite (fun _ => ?_) (fun _ => ?_)
      · exact frM12_fewest_J79 _ _ _ _ ih hm_m6
      · refine Fr.ite (fun _ => ?_) (fun _ => ?_)
        · exact frM12_fewest_J49 _ _ _ _ _ _ ih hm_m6
        · refine Fr.bd (frM12_bits _ _ hm_m6) (fun r11 m12 hm_m12 => ?_)
          refine Fr.bd (frM12_bits _ _ hm_m12) (fun r13 m14 hm_m14 => ?_)
          refine Fr.ite (fun _ => ?_) (fun _ => ?_)
          · exact frM12_fewest_J49 _ _ _ _ _ _ ih hm_m14
          · exact frM12_fewest_J79 _ _ _ _ ih hm_m14
set_option maxRecDepth 100000 in
set_option maxHeartbeats 4000000 in
theorem frM12_fewest {m0 : ev_M} (f : Nat) (a1 : Int32) (a2 : Int32) {m : ev_M}  (hm_m : frM m0 m) : Fr (frM m0) (FX12_fewest f a1 a2 m) := by
  unfold FX12_fewest
  refine Fr.bd (frM12_putsAside _ hm_m) (fun _ m2 hm_m2 => ?_)
  exact frM12_fewest_L9 _ _ _ _ ((by
  intro e15 m16 hm_m16
  refine Fr.bd (frM12_takesBack _ hm_m16) (fun _ m18 hm_m18 => ?_)
  exact Fr.ok hm_m18)) _ _ _ _ hm_m2
set_option maxRecDepth 100000 in
set_option maxHeartbeats 4000000 in
theorem frM12_cheered {m0 : ev_M} (f : Nat) (a1 : Int32) {m : ev_M}  (hm_m : frM m0 m) : Fr (frM m0) (FX12_cheered f a1 m) := by
  unfold FX12_cheered
  refine Fr.bd (frM12_isAhead _ _ _ _ hm_m) (fun r1 m2 hm_m2 => ?_)
  refine Fr.ite (fun _ => ?_) (fun _ => ?_)
  · exact Fr.ok hm_m2
  · refine Fr.bd (frM12_fewest _ _ _ hm_m2) (fun r3 m4 hm_m4 => ?_)
    exact Fr.ok hm_m4
set_option maxRecDepth 100000 in
set_option maxHeartbeats 4000000 in
theorem frM12_sighs {m0 : ev_M} (f : Nat) (a1 : Int32) {m : ev_M}  (hm_m : frM m0 m) : Fr (frM m0) (FX12_sighs f a1 m) := by
  unfold FX12_sighs
  refine Fr.bd (frM12_isAhead _ _ _ _ hm_m) (fun r1 m2 hm_m2 => ?_)
  refine Fr.ite (fun _ => ?_) (fun _ => ?_)
  · exact Fr.ok hm_m2
  · refine Fr.bd (frM12_fewest _ _ _ hm_m2) (fun r3 m4 hm_m4 => ?_)
    exact Fr.ok hm_m4
set_option maxRecDepth 100000 in
set_option maxHeartbeats 4000000 in
theorem frM12_doubtsIn {m0 : ev_M} (f : Nat) (a1 : Int32) {m : ev_M}  (hm_m : frM m0 m) : Fr (frM m0) (FX12_doubtsIn f a1 m) := by
  unfold FX12_doubtsIn
  refine Fr.bd (frM12_roundsGo _ _ hm_m) (fun _ m2 hm_m2 => ?_)
  refine Fr.bd (frM12_triesAnew _ hm_m2) (fun _ m4 hm_m4 => ?_)
  exact Fr.ok hm_m4
set_option maxRecDepth 100000 in
set_option maxHeartbeats 4000000 in
theorem frM12_better_J97 {m0 : ev_M} (f : Nat) (kt39 : Int32 → Int32 → Int32 → ev_M → Option (Int32 × ev_M)) (a3 : Int32) (a4 : Int32) (a5 : Int32) {m : ev_M} (hkt39 : ∀ (x0 : Int32) (x1 : Int32) (x2 : Int32) (xm : ev_M), frM m0 xm → Fr (frM m0) (kt39 x0 x1 x2 xm)) (hm_m : frM m0 m) : Fr (frM m0) (FX12_better_J97 f kt39 a3 a4 a5 m) := by
  unfold FX12_better_J97
  exact hkt39 _ _ _ _ hm_m
set_option maxRecDepth 100000 in
set_option maxHeartbeats 4000000 in
theorem frM12_better_L39 {m0 : ev_M} (f : Nat) (k : Int32 → Int32 → ev_M → Option (Int32 × ev_M)) (a1 : Int32) (hk : ∀ (x0 : Int32) (x1 : Int32) (xm : ev_M), frM m0 xm → Fr (frM m0) (k x0 x1 xm)) : ∀ (n : Nat) (a3 : Int32) (a4 : Int32) (a5 : Int32) (m : ev_M), frM m0 m → Fr (frM m0) (FX12_better_L39 f k a1 n a3 a4 a5 m) := by
  intro n
  induction n with
  | zero => intros; exact Fr.none
  | succ n ih =>
    intro a3 a4 a5 m hm_m
    rw [FX12_better_L39]
    refine Fr.bd (frM12_towerMany _ hm_m) (fun r9 m10 hm_m10 => ?_)
    refine Fr.ite (fun _ => ?_) (fun _ => ?_)
    · exact hk _ _ _ hm_m10
    · refine Fr.bd (frM12_isYes _ _ hm_m10) (fun r11 m12 hm_m12 => ?_)
      refine Fr.ite (fun _ => ?_) (fun _ => ?_)
      · refine Fr.ite (fun _ => ?_) (fun _ => ?_)
        · refine Fr.bd (frM12_doubtsIn _ _ (frM_I (by decide) hm_m12)) (fun r13 m14 hm_m14 => ?_)
          refine Fr.ite (fun _ => ?_) (fun _ => ?_)
          · exact frM12_better_J97 _ _ _ _ _ ih hm_m14
          · exact frM12_better_J97 _ _ _ _ _ ih hm_m14
        · exact Fr.none
      · exact frM12_better_J97 _ _ _ _ _ ih hm_m12
set_option maxRecDepth 100000 in
set_option maxHeartbeats 4000000 in
theorem frM12_better {m0 : ev_M} (f : Nat) (a1 : Int32) (a2 : Int32) {m : ev_M}  (hm_m : frM m0 m) : Fr (frM m0) (FX12_better f a1 a2 m) := by
  unfold FX12_better
  refine Fr.bd (frM12_isAhead _ _ _ _ hm_m) (fun r1 m2 hm_m2 => ?_)
  refine Fr.ite (fun _ => ?_) (fun _ => ?_)
  · exact Fr.ok hm_m2
  · refine Fr.bd (frM12_isIn _ _ _ _ hm_m2) (fun r3 m4 hm_m4 => ?_)
    refine Fr.ite (fun _ => ?_) (fun _ => ?_)
    · exact Fr.ok hm_m4
    · refine Fr.bd (frM12_putsAside _ hm_m4) (fun _ m6 hm_m6 => ?_)
      refine Fr.bd (frM12_doubtsIn _ _ hm_m6) (fun r7 m8 hm_m8 => ?_)
      exact frM12_better_L39 _ _ _ ((by
  intro e15 e16 m17 hm_m17
  refine Fr.bd (frM12_takesBack _ hm_m17) (fun _ m19 hm_m19 => ?_)
  refine Fr.ite (fun _ => ?_) (fun _ => ?_)
  · exact Fr.ok hm_m19
  · refine Fr.ite (fun _ => ?_) (fun _ => ?_)
    · exact Fr.ok hm_m19
    · exact Fr.ok hm_m19)) _ _ _ _ _ hm_m8
set_option maxRecDepth 100000 in
set_option maxHeartbeats 4000000 in
theorem frM12_placed_J103 {m0 : ev_M} (f : Nat) (kt59 : Int32 → Int32 → Int32 → Int32 → ev_M → Option (Int32 × ev_M)) (a3 : Int32) (a4 : Int32) (a5 : Int32) (a7 : Int32) {m : ev_M} (hkt59 : ∀ (x0 : Int32) (x1 : Int32) (x2 : Int32) (x3 : Int32) (xm : ev_M), frM m0 xm → Fr (frM m0) (kt59 x0 x1 x2 x3 xm)) (hm_m : frM m0 m) : Fr (frM m0) (FX12_placed_J103 f kt59 a3 a4 a5 a7 m) := by
  unfold FX12_placed_J103
  exact hkt59 _ _ _ _ _ hm_m
set_option maxRecDepth 100000 in
set_option maxHeartbeats 4000000 in
theorem frM12_placed_L59 {m0 : ev_M} (f : Nat) (k : Int32 → Int32 → Int32 → ev_M → Option (Int32 × ev_M)) (a1 : Int32) (a6 : Int32) (hk : ∀ (x0 : Int32) (x1 : Int32) (x2 : Int32) (xm : ev_M), frM m0 xm → Fr (frM m0) (k x0 x1 x2 xm)) : ∀ (n : Nat) (a3 : Int32) (a4 : Int32) (a5 : Int32) (a7 : Int32) (m : ev_M), frM m0 m → Fr (frM m0) (FX12_placed_L59 f k a1 a6 n a3 a4 a5 a7 m) := by
  intro n
  induction n with
  | zero => intros; exact Fr.none
  | succ n ih =>
    intro a3 a4 a5 a7 m hm_m
    rw [FX12_placed_L59]
    refine Fr.bd (frM12_towerMany _ hm_m) (fun r11 m12 hm_m12 => ?_)
    refine Fr.ite (fun _ => ?_) (fun _ => ?_)
    · exact hk _ _ _ _ hm_m12
    · refine Fr.bd (frM12_changes _ _ _ hm_m12) (fun _ m14 hm_m14 => ?_)
      refine Fr.bd (frM12_doubtsIn _ _ hm_m14) (fun r15 m16 hm_m16 => ?_)
      refine Fr.ite (fun _ => ?_) (fun _ => ?_)
      · exact frM12_placed_J103 _ _ _ _ _ _ ih hm_m16
      · exact frM12_placed_J103 _ _ _ _ _ _ ih hm_m16
set_option maxRecDepth 100000 in
set_option maxHeartbeats 4000000 in
theorem frM12_placed_L44 {m0 : ev_M} (f : Nat) (k : Int32 → Int32 → Int32 → ev_M → Option (Int32 × ev_M)) (a1 : Int32) (hk : ∀ (x0 : Int32) (x1 : Int32) (x2 : Int32) (xm : ev_M), frM m0 xm → Fr (frM m0) (k x0 x1 x2 xm)) : ∀ (n : Nat) (a3 : Int32) (a4 : Int32) (a5 : Int32) (a6 : Int32) (m : ev_M), frM m0 m → Fr (frM m0) (FX12_placed_L44 f k a1 n a3 a4 a5 a6 m) := by
  intro n
  induction n with
  | zero => intros; exact Fr.none
  | succ n ih =>
    intro a3 a4 a5 a6 m hm_m
    rw [FX12_placed_L44]
    refine Fr.bd (frM12_towerMany _ hm_m) (fun r9 m10 hm_m10 => ?_)
    refine Fr.ite (fun _ => ?_) (fun _ => ?_)
    · exact hk _ _ _ _ hm_m10
    · exact frM12_placed_L59 _ _ _ _ ((by
  intro e17 e18 e19 m20 hm_m20
  exact ih _ _ _ _ hm_m20)) _ _ _ _ _ _ hm_m10
set_option maxRecDepth 100000 in
set_option maxHeartbeats 4000000 in
theorem frM12_placed {m0 : ev_M} (f : Nat) (a1 : Int32) (a2 : Int32) {m : ev_M}  (hm_m : frM m0 m) : Fr (frM m0) (FX12_placed f a1 a2 m) := by
  unfold FX12_placed
  refine Fr.bd (frM12_isAhead _ _ _ _ hm_m) (fun r1 m2 hm_m2 => ?_)
  refine Fr.ite (fun _ => ?_) (fun _ => ?_)
  · exact Fr.ok hm_m2
  · refine Fr.bd (frM12_isIn _ _ _ _ hm_m2) (fun r3 m4 hm_m4 => ?_)
    refine Fr.ite (fun _ => ?_) (fun _ => ?_)
    · exact Fr.ok hm_m4
    · refine Fr.bd (frM12_putsAside _ hm_m4) (fun _ m6 hm_m6 => ?_)
      refine Fr.bd (frM12_doubtsIn _ _ hm_m6) (fun r7 m8 hm_m8 => ?_)
      exact frM12_placed_L44 _ _ _ ((by
  intro e21 e22 e23 m24 hm_m24
  refine Fr.bd (frM12_takesBack _ hm_m24) (fun _ m26 hm_m26 => ?_)
  refine Fr.ite (fun _ => ?_) (fun _ => ?_)
  · exact Fr.ok hm_m26
  · refine Fr.ite (fun _ => ?_) (fun _ => ?_)
    · exact Fr.ok hm_m26
    · refine Fr.ite (fun _ => ?_) (fun _ => ?_)
      · exact Fr.ok hm_m26
      · exact Fr.ok hm_m26)) _ _ _ _ _ _ hm_m8
set_option maxRecDepth 100000 in
set_option maxHeartbeats 4000000 in
theorem frM12_ditched_J63 {m0 : ev_M} (f : Nat) (kt4 : Int32 → Int32 → ev_M → Option (Int32 × ev_M)) (a2 : Int32) (a3 : Int32) {m : ev_M} (hkt4 : ∀ (x0 : Int32) (x1 : Int32) (xm : ev_M), frM m0 xm → Fr (frM m0) (kt4 x0 x1 xm)) (hm_m : frM m0 m) : Fr (frM m0) (FX12_ditched_J63 f kt4 a2 a3 m) := by
  unfold FX12_ditched_J63
  exact hkt4 _ _ _ hm_m
set_option maxRecDepth 100000 in
set_option maxHeartbeats 4000000 in
theorem frM12_ditched_J44 {m0 : ev_M} (f : Nat) (kt4 : Int32 → Int32 → ev_M → Option (Int32 × ev_M)) (a2 : Int32) (a3 : Int32) (s1 : Int32) {m : ev_M} (hkt4 : ∀ (x0 : Int32) (x1 : Int32) (xm : ev_M), frM m0 xm → Fr (frM m0) (kt4 x0 x1 xm)) (hm_m : frM m0 m) : Fr (frM m0) (FX12_ditched_J44 f kt4 a2 a3 s1 m) := by
  unfold FX12_ditched_J44
  refine Fr.bd (frM12_doubtsIn _ _ (frM_I (by decide) hm_m)) (fun r3 m4 hm_m4 => ?_)
  refine Fr.ite (fun _ => ?_) (fun _ => ?_)
  · exact frM12_ditched_J63 _ _ _ _ hkt4 hm_m4
  · exact frM12_ditched_J63 _ _ _ _ hkt4 hm_m4
set_option maxRecDepth 100000 in
set_option maxHeartbeats 4000000 in
theorem frM12_ditched_J31 {m0 : ev_M} (f : Nat) (kt4 : Int32 → Int32 → ev_M → Option (Int32 × ev_M)) (a2 : Int32) (a3 : Int32) {m : ev_M} (hkt4 : ∀ (x0 : Int32) (x1 : Int32) (xm : ev_M), frM m0 xm → Fr (frM m0) (kt4 x0 x1 xm)) (hm_m : frM m0 m) : Fr (frM m0) (FX12_ditched_J31 f kt4 a2 a3 m) := by
  unfold FX12_ditched_J31
  refine Fr.ite (fun _ => ?_) (fun _ => ?_)
  · exact frM12_ditched_J44 _ _ _ _ _ hkt4 hm_m
  · exact frM12_ditched_J44 _ _ _ _ _ hkt4 hm_m
set_option maxRecDepth 100000 in
set_option maxHeartbeats 4000000 in
theorem frM12_ditched_L4 {m0 : ev_M} (f : Nat) (k : Int32 → ev_M → Option (Int32 × ev_M)) (a1 : Int32) (hk : ∀ (x0 : Int32) (xm : ev_M), frM m0 xm → Fr (frM m0) (k x0 xm)) : ∀ (n : Nat) (a2 : Int32) (a3 : Int32) (m : ev_M), frM m0 m → Fr (frM m0) (FX12_ditched_L4 f k a1 n a2 a3 m) := by
  intro n
  induction n with
  | zero => intros; exact Fr.none
  | succ n ih =>
    intro a2 a3 m hm_m
    rw [FX12_ditched_L4]
    refine Fr.bd (frM12_towerMany _ hm_m) (fun r1 m2 hm_m2 => ?_)
    refine Fr.ite (fun _ => ?_) (fun _ => ?_)
    · exact hk _ _ hm_m2
    · refine Fr.ite (fun _ => ?_) (fun _ => ?_)
      · exact frM12_ditched_J31 _ _ _ _ ih hm_m2
      · refine Fr.ite (fun _ => ?_) (fun _ => ?_)
        · exact frM12_ditched_J31 _ _ _ _ ih (frM_I (by decide) hm_m2)
        · exact Fr.none
set_option maxRecDepth 100000 in
set_option maxHeartbeats 4000000 in
theorem frM12_ditched {m0 : ev_M} (f : Nat) (a1 : Int32) {m : ev_M}  (hm_m : frM m0 m) : Fr (frM m0) (FX12_ditched f a1 m) := by
  unfold FX12_ditched
  exact frM12_ditched_L4 _ _ _ ((by
  intro e5 m6 hm_m6
  exact Fr.ok hm_m6)) _ _ _ _ hm_m
set_option maxRecDepth 100000 in
set_option maxHeartbeats 4000000 in
theorem frM12_game_J69 {m0 : ev_M} (f : Nat) (kt37 : Int32 → Int32 → Int32 → ev_M → Option (Int32 × ev_M)) (a2 : Int32) (a3 : Int32) (a4 : Int32) {m : ev_M} (hkt37 : ∀ (x0 : Int32) (x1 : Int32) (x2 : Int32) (xm : ev_M), frM m0 xm → Fr (frM m0) (kt37 x0 x1 x2 xm)) (hm_m : frM m0 m) : Fr (frM m0) (FX12_game_J69 f kt37 a2 a3 a4 m) := by
  unfold FX12_game_J69
  exact hkt37 _ _ _ _ hm_m
set_option maxRecDepth 100000 in
set_option maxHeartbeats 4000000 in
theorem frM12_game_L37 {m0 : ev_M} (f : Nat) (k : Int32 → Int32 → ev_M → Option (Int32 × ev_M)) (hk : ∀ (x0 : Int32) (x1 : Int32) (xm : ev_M), frM m0 xm → Fr (frM m0) (k x0 x1 xm)) : ∀ (n : Nat) (a2 : Int32) (a3 : Int32) (a4 : Int32) (m : ev_M), frM m0 m → Fr (frM m0) (FX12_game_L37 f k n a2 a3 a4 m) := by
  intro n
  induction n with
  | zero => intros; exact Fr.none
  | succ n ih =>
    intro a2 a3 a4 m hm_m
    rw [FX12_game_L37]
    refine Fr.bd (frM12_towerMany _ hm_m) (fun r9 m10 hm_m10 => ?_)
    refine Fr.ite (fun _ => ?_) (fun _ => ?_)
    · exact hk _ _ _ hm_m10
    · refine Fr.bd (frM12_ditched _ _ hm_m10) (fun r11 m12 hm_m12 => ?_)
      refine Fr.ite (fun _ => ?_) (fun _ => ?_)
      · exact frM12_game_J69 _ _ _ _ _ ih hm_m12
      · exact frM12_game_J69 _ _ _ _ _ ih hm_m12
set_option maxRecDepth 100000 in
set_option maxHeartbeats 4000000 in
theorem frM12_game {m0 : ev_M} (f : Nat) (a1 : Int32) {m : ev_M}  (hm_m : frM m0 m) : Fr (frM m0) (FX12_game f a1 m) := by
  unfold FX12_game
  refine Fr.bd (frM12_isAhead _ _ _ _ hm_m) (fun r1 m2 hm_m2 => ?_)
  refine Fr.ite (fun _ => ?_) (fun _ => ?_)
  · exact Fr.ok hm_m2
  · refine Fr.bd (frM12_isIn _ _ _ _ hm_m2) (fun r3 m4 hm_m4 => ?_)
    refine Fr.ite (fun _ => ?_) (fun _ => ?_)
    · exact Fr.ok hm_m4
    · refine Fr.bd (frM12_putsAside _ hm_m4) (fun _ m6 hm_m6 => ?_)
      refine Fr.bd (frM12_ditched _ _ hm_m6) (fun r7 m8 hm_m8 => ?_)
      exact frM12_game_L37 _ _ ((by
  intro e13 e14 m15 hm_m15
  refine Fr.bd (frM12_takesBack _ hm_m15) (fun _ m17 hm_m17 => ?_)
  refine Fr.ite (fun _ => ?_) (fun _ => ?_)
  · exact Fr.ok hm_m17
  · exact Fr.ok hm_m17)) _ _ _ _ _ hm_m8
set_option maxRecDepth 100000 in
set_option maxHeartbeats 4000000 in
theorem frM12_rule_J56 {m0 : ev_M} (f : Nat) (kt34 : Int32 → Int32 → ev_M → Option (Int32 × ev_M)) (a3 : Int32) (a4 : Int32) {m : ev_M} (hkt34 : ∀ (x0 : Int32) (x1 : Int32) (xm : ev_M), frM m0 xm → Fr (frM m0) (kt34 x0 x1 xm)) (hm_m : frM m0 m) : Fr (frM m0) (FX12_rule_J56 f kt34 a3 a4 m) := by
  unfold FX12_rule_J56
  exact hkt34 _ _ _ hm_m
set_option maxRecDepth 100000 in
set_option maxHeartbeats 4000000 in
theorem frM12_rule_L34 {m0 : ev_M} (f : Nat) (k : Int32 → ev_M → Option (Int32 × ev_M)) (a1 : Int32) (a2 : Int32) (hk : ∀ (x0 : Int32) (xm : ev_M), frM m0 xm → Fr (frM m0) (k x0 xm)) : ∀ (n : Nat) (a3 : Int32) (a4 : Int32) (m : ev_M), frM m0 m → Fr (frM m0) (FX12_rule_L34 f k a1 a2 n a3 a4 m) := by
  intro n
  induction n with
  | zero => intros; exact Fr.none
  | succ n ih =>
    intro a3 a4 m hm_m
    rw [FX12_rule_L34]
    refine Fr.ite (fun _ => ?_) (fun _ => ?_)
    · exact hk _ _ hm_m
    · refine Fr.bd (frM12_roundGoes _ hm_m) (fun _ m8 hm_m8 => ?_)
      refine Fr.bd (frM12_rowOf _ _ hm_m8) (fun r9 m10 hm_m10 => ?_)
      refine Fr.ite (fun _ => ?_) (fun _ => ?_)
      · exact frM12_rule_J56 _ _ _ _ ih hm_m10
      · exact frM12_rule_J56 _ _ _ _ ih hm_m10
set_option maxRecDepth 100000 in
set_option maxHeartbeats 4000000 in
theorem frM12_rule {m0 : ev_M} (f : Nat) (a1 : Int32) (a2 : Int32) {m : ev_M}  (hm_m : frM m0 m) : Fr (frM m0) (FX12_rule f a1 a2 m) := by
  unfold FX12_rule
  refine Fr.bd (frM12_isIn _ _ _ _ hm_m) (fun r1 m2 hm_m2 => ?_)
  refine Fr.ite (fun _ => ?_) (fun _ => ?_)
  · exact Fr.ok hm_m2
  · refine Fr.bd (frM12_isAhead _ _ _ _ hm_m2) (fun r3 m4 hm_m4 => ?_)
    refine Fr.ite (fun _ => ?_) (fun _ => ?_)
    · exact Fr.ok hm_m4
    · refine Fr.bd (frM12_putsAside _ hm_m4) (fun _ m6 hm_m6 => ?_)
      exact frM12_rule_L34 _ _ _ _ ((by
  intro e11 m12 hm_m12
  refine Fr.bd (frM12_takesBack _ hm_m12) (fun _ m14 hm_m14 => ?_)
  exact Fr.ok hm_m14)) _ _ _ _ hm_m6
set_option maxRecDepth 100000 in
set_option maxHeartbeats 4000000 in
theorem frM12_laysMoods_L66 {m0 : ev_M} (f : Nat) (k : ev_M → Option (Unit × ev_M)) (a2 : Int32) (a4 : Int32) (hk : ∀  (xm : ev_M), frM m0 xm → Fr (frM m0) (k xm)) : ∀ (n : Nat) (a5 : Int32) (m : ev_M), frM m0 m → Fr (frM m0) (FX12_laysMoods_L66 f k a2 a4 n a5 m) := by
  intro n
  induction n with
  | zero => intros; exact Fr.none
  | succ n ih =>
    intro a5 m hm_m
    rw [FX12_laysMoods_L66]
    refine Fr.bd (frM12_towerMany _ hm_m) (fun r5 m6 hm_m6 => ?_)
    refine Fr.ite (fun _ => ?_) (fun _ => ?_)
    · exact hk _ hm_m6
    · refine Fr.ite (fun _ => ?_) (fun _ => ?_)
      · refine Fr.ite (fun _ => ?_) (fun _ => ?_)
        · exact ih _ (frM_I (by decide) hm_m6)
        · exact Fr.none
      · exact Fr.none
set_option maxRecDepth 100000 in
set_option maxHeartbeats 4000000 in
theorem frM12_laysMoods_J62 {m0 : ev_M} (f : Nat) (kt33 : Int32 → Int32 → ev_M → Option (Unit × ev_M)) (a2 : Int32) (a4 : Int32) (s0 : Int32) {m : ev_M} (hkt33 : ∀ (x0 : Int32) (x1 : Int32) (xm : ev_M), frM m0 xm → Fr (frM m0) (kt33 x0 x1 xm)) (hm_m : frM m0 m) : Fr (frM m0) (FX12_laysMoods_J62 f kt33 a2 a4 s0 m) := by
  unfold FX12_laysMoods_J62
  exact frM12_laysMoods_L66 _ _ _ _ ((by
  intro m7 hm_m7
  exact hkt33 _ _ _ hm_m7)) _ _ _ hm_m
set_option maxRecDepth 100000 in
set_option maxHeartbeats 4000000 in
theorem frM12_laysMoods_J61 {m0 : ev_M} (f : Nat) (kt33 : Int32 → Int32 → ev_M → Option (Unit × ev_M)) (a2 : Int32) (a4 : Int32) {m : ev_M} (hkt33 : ∀ (x0 : Int32) (x1 : Int32) (xm : ev_M), frM m0 xm → Fr (frM m0) (kt33 x0 x1 xm)) (hm_m : frM m0 m) : Fr (frM m0) (FX12_laysMoods_J61 f kt33 a2 a4 m) := by
  unfold FX12_laysMoods_J61
  exact frM12_laysMoods_J62 _ _ _ _ _ hkt33 hm_m
set_option maxRecDepth 100000 in
set_option maxHeartbeats 4000000 in
theorem frM12_laysMoods_L33 {m0 : ev_M} (f : Nat) (k : Int32 → ev_M → Option (Unit × ev_M)) (a2 : Int32) (hk : ∀ (x0 : Int32) (xm : ev_M), frM m0 xm → Fr (frM m0) (k x0 xm)) : ∀ (n : Nat) (a3 : Int32) (a4 : Int32) (m : ev_M), frM m0 m → Fr (frM m0) (FX12_laysMoods_L33 f k a2 n a3 a4 m) := by
  intro n
  induction n with
  | zero => intros; exact Fr.none
  | succ n ih =>
    intro a3 a4 m hm_m
    rw [FX12_laysMoods_L33]
    refine Fr.ite (fun _ => ?_) (fun _ => ?_)
    · exact hk _ _ hm_m
    · refine Fr.bd (frM12_roundGoes _ hm_m) (fun _ m4 hm_m4 => ?_)
      refine Fr.ite (fun _ => ?_) (fun _ => ?_)
      · exact frM12_laysMoods_J61 _ _ _ _ ih hm_m4
      · refine Fr.bd (frM12_isAsSeen _ _ hm_m4) (fun r8 m9 hm_m9 => ?_)
        refine Fr.ite (fun _ => ?_) (fun _ => ?_)
        · exact frM12_laysMoods_J61 _ _ _ _ ih hm_m9
        · exact frM12_laysMoods_J62 _ _ _ _ _ ih hm_m9
set_option maxRecDepth 100000 in
set_option maxHeartbeats 4000000 in
theorem frM12_laysMoods_J138 {m0 : ev_M} (f : Nat) (kt11 : Int32 → ev_M → Option (Unit × ev_M)) (a2 : Int32) {m : ev_M} (hkt11 : ∀ (x0 : Int32) (xm : ev_M), frM m0 xm → Fr (frM m0) (kt11 x0 xm)) (hm_m : frM m0 m) : Fr (frM m0) (FX12_laysMoods_J138 f kt11 a2 m) := by
  unfold FX12_laysMoods_J138
  exact hkt11 _ _ hm_m
set_option maxRecDepth 100000 in
set_option maxHeartbeats 4000000 in
theorem frM12_laysMoods_L11 {m0 : ev_M} (f : Nat) (k : ev_M → Option (Unit × ev_M)) (a1 : Int32) (hk : ∀  (xm : ev_M), frM m0 xm → Fr (frM m0) (k xm)) : ∀ (n : Nat) (a2 : Int32) (m : ev_M), frM m0 m → Fr (frM m0) (FX12_laysMoods_L11 f k a1 n a2 m) := by
  intro n
  induction n with
  | zero => intros; exact Fr.none
  | succ n ih =>
    intro a2 m hm_m
    rw [FX12_laysMoods_L11]
    refine Fr.ite (fun _ => ?_) (fun _ => ?_)
    · exact hk _ hm_m
    · refine Fr.ite (fun _ => ?_) (fun _ => ?_)
      · exact frM12_laysMoods_L33 _ _ _ ((by
  intro e10 m11 hm_m11
  refine Fr.bd (frM12_triesAnew _ hm_m11) (fun _ m13 hm_m13 => ?_)
  refine Fr.ite (fun _ => ?_) (fun _ => ?_)
  · refine Fr.ite (fun _ => ?_) (fun _ => ?_)
    · exact frM12_laysMoods_J138 _ _ _ ih (frM_I (by decide) hm_m13)
    · exact frM12_laysMoods_J138 _ _ _ ih (frM_I (by decide) (frM_I (by decide) hm_m13))
  · exact Fr.none)) _ _ _ _ (frM_I (by decide) hm_m)
      · exact Fr.none
set_option maxRecDepth 100000 in
set_option maxHeartbeats 4000000 in
theorem frM12_laysMoods {m0 : ev_M} (f : Nat) (a1 : Int32) {m : ev_M}  (hm_m : frM m0 m) : Fr (frM m0) (FX12_laysMoods f a1 m) := by
  unfold FX12_laysMoods
  refine Fr.bd (frM12_putsAside _ (frM_I (by decide) hm_m)) (fun _ m2 hm_m2 => ?_)
  exact frM12_laysMoods_L11 _ _ _ ((by
  intro m14 hm_m14
  refine Fr.bd (frM12_takesBack _ hm_m14) (fun _ m16 hm_m16 => ?_)
  exact Fr.ok hm_m16)) _ _ _ hm_m2
set_option maxRecDepth 100000 in
set_option maxHeartbeats 4000000 in
theorem frM12_moods_J40 {m0 : ev_M} (f : Nat) (kt19 : Int32 → Int32 → ev_M → Option (Int32 × ev_M)) (a2 : Int32) (a3 : Int32) {m : ev_M} (hkt19 : ∀ (x0 : Int32) (x1 : Int32) (xm : ev_M), frM m0 xm → Fr (frM m0) (kt19 x0 x1 xm)) (hm_m : frM m0 m) : Fr (frM m0) (FX12_moods_J40 f kt19 a2 a3 m) := by
  unfold FX12_moods_J40
  exact hkt19 _ _ _ hm_m
set_option maxRecDepth 100000 in
set_option maxHeartbeats 4000000 in
theorem frM12_moods_L19 {m0 : ev_M} (f : Nat) (k : Int32 → ev_M → Option (Int32 × ev_M)) (hk : ∀ (x0 : Int32) (xm : ev_M), frM m0 xm → Fr (frM m0) (k x0 xm)) : ∀ (n : Nat) (a2 : Int32) (a3 : Int32) (m : ev_M), frM m0 m → Fr (frM m0) (FX12_moods_L19 f k n a2 a3 m) := by
  intro n
  induction n with
  | zero => intros; exact Fr.none
  | succ n ih =>
    intro a2 a3 m hm_m
    rw [FX12_moods_L19]
    refine Fr.ite (fun _ => ?_) (fun _ => ?_)
    · exact hk _ _ hm_m
    · refine Fr.ite (fun _ => ?_) (fun _ => ?_)
      · refine Fr.ite (fun _ => ?_) (fun _ => ?_)
        · exact frM12_moods_J40 _ _ _ _ ih hm_m
        · exact frM12_moods_J40 _ _ _ _ ih hm_m
      · exact Fr.none
set_option maxRecDepth 100000 in
set_option maxHeartbeats 4000000 in
theorem frM12_moods {m0 : ev_M} (f : Nat) (a1 : Int32) {m : ev_M}  (hm_m : frM m0 m) : Fr (frM m0) (FX12_moods f a1 m) := by
  unfold FX12_moods
  refine Fr.bd (frM12_isTower _ _ hm_m) (fun r1 m2 hm_m2 => ?_)
  refine Fr.ite (fun _ => ?_) (fun _ => ?_)
  · exact Fr.ok hm_m2
  · refine Fr.bd (frM12_laysMoods _ _ hm_m2) (fun _ m4 hm_m4 => ?_)
    exact frM12_moods_L19 _ _ ((by
  intro e5 m6 hm_m6
  exact Fr.ok hm_m6)) _ _ _ _ hm_m4
set_option maxRecDepth 100000 in
set_option maxHeartbeats 4000000 in
theorem frM12_tells_J115 {m0 : ev_M} (f : Nat) (kt70 : Int32 → Int32 → Int32 → Int32 → ev_M → Option (Int32 × ev_M)) (a3 : Int32) (a4 : Int32) (a5 : Int32) (a7 : Int32) {m : ev_M} (hkt70 : ∀ (x0 : Int32) (x1 : Int32) (x2 : Int32) (x3 : Int32) (xm : ev_M), frM m0 xm → Fr (frM m0) (kt70 x0 x1 x2 x3 xm)) (hm_m : frM m0 m) : Fr (frM m0) (FX12_tells_J115 f kt70 a3 a4 a5 a7 m) := by
  unfold FX12_tells_J115
  exact hkt70 _ _ _ _ _ hm_m
set_option maxRecDepth 100000 in
set_option maxHeartbeats 4000000 in
theorem frM12_tells_J104 {m0 : ev_M} (f : Nat) (kt70 : Int32 → Int32 → Int32 → Int32 → ev_M → Option (Int32 × ev_M)) (a6 : Int32) (a7 : Int32) (a8 : Int32) {m : ev_M} (hkt70 : ∀ (x0 : Int32) (x1 : Int32) (x2 : Int32) (x3 : Int32) (xm : ev_M), frM m0 xm → Fr (frM m0) (kt70 x0 x1 x2 x3 xm)) (hm_m : frM m0 m) : Fr (frM m0) (FX12_tells_J104 f kt70 a6 a7 a8 m) := by
  unfold FX12_tells_J104
  exact frM12_tells_J115 _ _ _ _ _ _ hkt70 hm_m
set_option maxRecDepth 100000 in
set_option maxHeartbeats 4000000 in
theorem frM12_tells_L70 {m0 : ev_M} (f : Nat) (k : Int32 → Int32 → Int32 → ev_M → Option (Int32 × ev_M)) (a6 : Int32) (hk : ∀ (x0 : Int32) (x1 : Int32) (x2 : Int32) (xm : ev_M), frM m0 xm → Fr (frM m0) (k x0 x1 x2 xm)) : ∀ (n : Nat) (a3 : Int32) (a4 : Int32) (a5 : Int32) (a7 : Int32) (m : ev_M), frM m0 m → Fr (frM m0) (FX12_tells_L70 f k a6 n a3 a4 a5 a7 m) := by
  intro n
  induction n with
  | zero => intros; exact Fr.none
  | succ n ih =>
    intro a3 a4 a5 a7 m hm_m
    rw [FX12_tells_L70]
    refine Fr.bd (frM12_towerMany _ hm_m) (fun r7 m8 hm_m8 => ?_)
    refine Fr.ite (fun _ => ?_) (fun _ => ?_)
    · exact hk _ _ _ _ hm_m8
    · refine Fr.bd (frM12_mostAlike _ _ _ hm_m8) (fun r9 m10 hm_m10 => ?_)
      refine Fr.ite (fun _ => ?_) (fun _ => ?_)
      · exact frM12_tells_J104 _ _ _ _ _ ih hm_m10
      · refine Fr.ite (fun _ => ?_) (fun _ => ?_)
        · exact frM12_tells_J104 _ _ _ _ _ ih hm_m10
        · exact frM12_tells_J115 _ _ _ _ _ _ ih hm_m10
set_option maxRecDepth 100000 in
set_option maxHeartbeats 4000000 in
theorem frM12_tells_L38 {m0 : ev_M} (f : Nat) (k : Int32 → Int32 → Int32 → ev_M → Option (Int32 × ev_M)) (hk : ∀ (x0 : Int32) (x1 : Int32) (x2 : Int32) (xm : ev_M), frM m0 xm → Fr (frM m0) (k x0 x1 x2 xm)) : ∀ (n : Nat) (a3 : Int32) (a4 : Int32) (a5 : Int32) (a6 : Int32) (m : ev_M), frM m0 m → Fr (frM m0) (FX12_tells_L38 f k n a3 a4 a5 a6 m) := by
  intro n
  induction n with
  | zero => intros; exact Fr.none
  | succ n ih =>
    intro a3 a4 a5 a6 m hm_m
    rw [FX12_tells_L38]
    refine Fr.ite (fun _ => ?_) (fun _ => ?_)
    · exact hk _ _ _ _ hm_m
    · refine Fr.ite (fun _ => ?_) (fun _ => ?_)
      · exact hk _ _ _ _ hm_m
      · refine Fr.ite (fun _ => ?_) (fun _ => ?_)
        · exact hk _ _ _ _ hm_m
        · exact frM12_tells_L70 _ _ _ ((by
  intro e11 e12 e13 m14 hm_m14
  exact ih _ _ _ _ hm_m14)) _ _ _ _ _ _ hm_m
set_option maxRecDepth 100000 in
set_option maxHeartbeats 4000000 in
theorem frM12_tells_J127 {m0 : ev_M} (f : Nat) (a2 : Int32) (a3 : Int32) (a4 : Int32) (a5 : Int32) {m : ev_M}  (hm_m : frM m0 m) : Fr (frM m0) (FX12_tells_J127 f a2 a3 a4 a5 m) := by
  unfold FX12_tells_J127
  refine Fr.ite (fun _ => ?_) (fun _ => ?_)
  · exact Fr.ok hm_m
  · refine Fr.ite (fun _ => ?_) (fun _ => ?_)
    · exact Fr.ok hm_m
    · refine Fr.ite (fun _ => ?_) (fun _ => ?_)
      · exact Fr.ok hm_m
      · exact Fr.ok hm_m
set_option maxRecDepth 100000 in
set_option maxHeartbeats 4000000 in
theorem frM12_tells {m0 : ev_M} (f : Nat) (a1 : Int32) (a2 : Int32) {m : ev_M}  (hm_m : frM m0 m) : Fr (frM m0) (FX12_tells f a1 a2 m) := by
  unfold FX12_tells
  refine Fr.bd (frM12_isTower _ _ hm_m) (fun r1 m2 hm_m2 => ?_)
  refine Fr.ite (fun _ => ?_) (fun _ => ?_)
  · exact Fr.ok hm_m2
  · refine Fr.bd (frM12_isIn _ _ _ _ hm_m2) (fun r3 m4 hm_m4 => ?_)
    refine Fr.ite (fun _ => ?_) (fun _ => ?_)
    · exact Fr.ok hm_m4
    · refine Fr.bd (frM12_laysMoods _ _ hm_m4) (fun _ m6 hm_m6 => ?_)
      exact frM12_tells_L38 _ _ ((by
  intro e15 e16 e17 m18 hm_m18
  exact frM12_tells_J127 _ _ _ _ _ hm_m18)) _ _ _ _ _ _ hm_m6
set_option maxRecDepth 100000 in
set_option maxHeartbeats 4000000 in
theorem frM12_rounds {m0 : ev_M} (f : Nat) (a1 : Int32) {m : ev_M}  (hm_m : frM m0 m) : Fr (frM m0) (FX12_rounds f a1 m) := by
  unfold FX12_rounds
  refine Fr.bd (frM12_isAhead _ _ _ _ hm_m) (fun r1 m2 hm_m2 => ?_)
  refine Fr.ite (fun _ => ?_) (fun _ => ?_)
  · refine Fr.bd (frM12_refuses _ _ hm_m2) (fun r7 m8 hm_m8 => ?_)
    exact Fr.ok hm_m8
  · refine Fr.bd (frM12_keeps _ hm_m2) (fun _ m4 hm_m4 => ?_)
    refine Fr.bd (frM12_roundsGo _ _ (frM_I (by decide) hm_m4)) (fun _ m6 hm_m6 => ?_)
    exact Fr.ok hm_m6
set_option maxRecDepth 100000 in
set_option maxHeartbeats 4000000 in
theorem frM12_chance_J100 {m0 : ev_M} (f : Nat) (kt25 : Int32 → Int32 → ev_M → Option (Int32 × ev_M)) (a2 : Int32) (a3 : Int32) {m : ev_M} (hkt25 : ∀ (x0 : Int32) (x1 : Int32) (xm : ev_M), frM m0 xm → Fr (frM m0) (kt25 x0 x1 xm)) (hm_m : frM m0 m) : Fr (frM m0) (FX12_chance_J100 f kt25 a2 a3 m) := by
  unfold FX12_chance_J100
  refine Fr.bd (frM12_roundGoes _ hm_m) (fun _ m8 hm_m8 => ?_)
  exact hkt25 _ _ _ hm_m8
set_option maxRecDepth 100000 in
set_option maxHeartbeats 4000000 in
theorem frM12_chance_J96 {m0 : ev_M} (f : Nat) (kt25 : Int32 → Int32 → ev_M → Option (Int32 × ev_M)) (a2 : Int32) (a3 : Int32) (s1 : Int32) (s2 : Int32) {m : ev_M} (hkt25 : ∀ (x0 : Int32) (x1 : Int32) (xm : ev_M), frM m0 xm → Fr (frM m0) (kt25 x0 x1 xm)) (hm_m : frM m0 m) : Fr (frM m0) (FX12_chance_J96 f kt25 a2 a3 s1 s2 m) := by
  unfold FX12_chance_J96
  refine Fr.ite (fun _ => ?_) (fun _ => ?_)
  · exact frM12_chance_J100 _ _ _ _ hkt25 (frM_I (by decide) hm_m)
  · exact Fr.none
set_option maxRecDepth 100000 in
set_option maxHeartbeats 4000000 in
theorem frM12_chance_L25 {m0 : ev_M} (f : Nat) (k : Int32 → ev_M → Option (Int32 × ev_M)) (a1 : Int32) (hk : ∀ (x0 : Int32) (xm : ev_M), frM m0 xm → Fr (frM m0) (k x0 xm)) : ∀ (n : Nat) (a2 : Int32) (a3 : Int32) (m : ev_M), frM m0 m → Fr (frM m0) (FX12_chance_L25 f k a1 n a2 a3 m) := by
  intro n
  induction n with
  | zero => intros; exact Fr.none
  | succ n ih =>
    intro a2 a3 m hm_m
    rw [FX12_chance_L25]
    refine Fr.ite (fun _ => ?_) (fun _ => ?_)
    · exact hk _ _ hm_m
    · refine Fr.bd (frM12_drawOf _ _ hm_m) (fun r5 m6 hm_m6 => ?_)
      refine Fr.ite (fun _ => ?_) (fun _ => ?_)
      · exact frM12_chance_J100 _ _ _ _ ih hm_m6
      · refine Fr.bd (frM12_towerMany _ hm_m6) (fun r9 m10 hm_m10 => ?_)
        refine Fr.ite (fun _ => ?_) (fun _ => ?_)
        · exact frM12_chance_J100 _ _ _ _ ih hm_m10
        · refine Fr.bd (frM12_towerMany _ hm_m10) (fun r11 m12 hm_m12 => ?_)
          refine Fr.bd (frM12_drawOf _ _ hm_m12) (fun r13 m14 hm_m14 => ?_)
          refine Fr.ite (fun _ => ?_) (fun _ => ?_)
          · refine Fr.ite (fun _ => ?_) (fun _ => ?_)
            · refine Fr.ite (fun _ => ?_) (fun _ => ?_)
              · exact frM12_chance_J96 _ _ _ _ _ _ ih hm_m14
              · exact Fr.none
            · exact frM12_chance_J96 _ _ _ _ _ _ ih hm_m14
          · exact Fr.none
set_option maxRecDepth 100000 in
set_option maxHeartbeats 4000000 in
theorem frM12_chance {m0 : ev_M} (f : Nat) (a1 : Int32) {m : ev_M}  (hm_m : frM m0 m) : Fr (frM m0) (FX12_chance f a1 m) := by
  unfold FX12_chance
  refine Fr.bd (frM12_isAhead _ _ _ _ hm_m) (fun r1 m2 hm_m2 => ?_)
  refine Fr.ite (fun _ => ?_) (fun _ => ?_)
  · refine Fr.bd (frM12_refuses _ _ hm_m2) (fun r17 m18 hm_m18 => ?_)
    exact Fr.ok hm_m18
  · refine Fr.bd (frM12_keeps _ hm_m2) (fun _ m4 hm_m4 => ?_)
    exact frM12_chance_L25 _ _ _ ((by
  intro e15 m16 hm_m16
  exact Fr.ok hm_m16)) _ _ _ _ hm_m4
set_option maxRecDepth 100000 in
set_option maxHeartbeats 4000000 in
theorem frM12_laysTones_J74 {m0 : ev_M} (f : Nat) (kt18 : Int32 → ev_M → Option (Unit × ev_M)) (a2 : Int32) {m : ev_M} (hkt18 : ∀ (x0 : Int32) (xm : ev_M), frM m0 xm → Fr (frM m0) (kt18 x0 xm)) (hm_m : frM m0 m) : Fr (frM m0) (FX12_laysTones_J74 f kt18 a2 m) := by
  unfold FX12_laysTones_J74
  exact hkt18 _ _ hm_m
set_option maxRecDepth 100000 in
set_option maxHeartbeats 4000000 in
theorem frM12_laysTones_J58 {m0 : ev_M} (f : Nat) (kt18 : Int32 → ev_M → Option (Unit × ev_M)) (a1 : Int32) (a2 : Int32) (s1 : Int32) (s2 : Int32) {m : ev_M} (hkt18 : ∀ (x0 : Int32) (xm : ev_M), frM m0 xm → Fr (frM m0) (kt18 x0 xm)) (hm_m : frM m0 m) : Fr (frM m0) (FX12_laysTones_J58 f kt18 a1 a2 s1 s2 m) := by
  unfold FX12_laysTones_J58
  refine Fr.ite (fun _ => ?_) (fun _ => ?_)
  · refine Fr.ite (fun _ => ?_) (fun _ => ?_)
    · refine Fr.bd (frM12_moodOf _ _ (frM_I (by decide) hm_m)) (fun r7 m8 hm_m8 => ?_)
      refine Fr.ite (fun _ => ?_) (fun _ => ?_)
      · exact frM12_laysTones_J74 _ _ _ hkt18 (frM_I (by decide) hm_m8)
      · exact Fr.none
    · exact frM12_laysTones_J74 _ _ _ hkt18 (frM_I (by decide) hm_m)
  · exact Fr.none
set_option maxRecDepth 100000 in
set_option maxHeartbeats 4000000 in
theorem frM12_laysTones_L18 {m0 : ev_M} (f : Nat) (k : ev_M → Option (Unit × ev_M)) (a1 : Int32) (hk : ∀  (xm : ev_M), frM m0 xm → Fr (frM m0) (k xm)) : ∀ (n : Nat) (a2 : Int32) (m : ev_M), frM m0 m → Fr (frM m0) (FX12_laysTones_L18 f k a1 n a2 m) := by
  intro n
  induction n with
  | zero => intros; exact Fr.none
  | succ n ih =>
    intro a2 m hm_m
    rw [FX12_laysTones_L18]
    refine Fr.bd (frM12_towerMany _ hm_m) (fun r5 m6 hm_m6 => ?_)
    refine Fr.ite (fun _ => ?_) (fun _ => ?_)
    · exact hk _ hm_m6
    · refine Fr.ite (fun _ => ?_) (fun _ => ?_)
      · refine Fr.ite (fun _ => ?_) (fun _ => ?_)
        · exact frM12_laysTones_J58 _ _ _ _ _ _ ih hm_m6
        · exact Fr.none
      · exact frM12_laysTones_J58 _ _ _ _ _ _ ih hm_m6
set_option maxRecDepth 100000 in
set_option maxHeartbeats 4000000 in
theorem frM12_laysTones_L6 {m0 : ev_M} (f : Nat) (k : ev_M → Option (Unit × ev_M)) (hk : ∀  (xm : ev_M), frM m0 xm → Fr (frM m0) (k xm)) : ∀ (n : Nat) (a1 : Int32) (m : ev_M), frM m0 m → Fr (frM m0) (FX12_laysTones_L6 f k n a1 m) := by
  intro n
  induction n with
  | zero => intros; exact Fr.none
  | succ n ih =>
    intro a1 m hm_m
    rw [FX12_laysTones_L6]
    refine Fr.ite (fun _ => ?_) (fun _ => ?_)
    · exact hk _ hm_m
    · refine Fr.bd (frM12_roundGoes _ hm_m) (fun _ m4 hm_m4 => ?_)
      exact frM12_laysTones_L18 _ _ _ ((by
  intro m9 hm_m9
  exact ih _ hm_m9)) _ _ _ hm_m4
set_option maxRecDepth 100000 in
set_option maxHeartbeats 4000000 in
theorem frM12_laysTones {m0 : ev_M} (f : Nat) {m : ev_M}  (hm_m : frM m0 m) : Fr (frM m0) (FX12_laysTones f m) := by
  unfold FX12_laysTones
  refine Fr.bd (frM12_putsAside _ hm_m) (fun _ m2 hm_m2 => ?_)
  exact frM12_laysTones_L6 _ _ ((by
  intro m10 hm_m10
  refine Fr.bd (frM12_takesBack _ hm_m10) (fun _ m12 hm_m12 => ?_)
  exact Fr.ok hm_m12)) _ _ _ hm_m2
set_option maxRecDepth 100000 in
set_option maxHeartbeats 4000000 in
theorem frM12_qTest_J106 {m0 : ev_M} (f : Nat) (kt2 : Int32 → ev_M → Option (Unit × ev_M)) (s0 : Int32) {m : ev_M} (hkt2 : ∀ (x0 : Int32) (xm : ev_M), frM m0 xm → Fr (frM m0) (kt2 x0 xm)) (hm_m : frM m0 m) : Fr (frM m0) (FX12_qTest_J106 f kt2 s0 m) := by
  unfold FX12_qTest_J106
  exact hkt2 _ _ hm_m
set_option maxRecDepth 100000 in
set_option maxHeartbeats 4000000 in
theorem frM12_qTest_J105 {m0 : ev_M} (f : Nat) (kt2 : Int32 → ev_M → Option (Unit × ev_M)) {m : ev_M} (hkt2 : ∀ (x0 : Int32) (xm : ev_M), frM m0 xm → Fr (frM m0) (kt2 x0 xm)) (hm_m : frM m0 m) : Fr (frM m0) (FX12_qTest_J105 f kt2 m) := by
  unfold FX12_qTest_J105
  exact frM12_qTest_J106 _ _ _ hkt2 hm_m
set_option maxRecDepth 100000 in
set_option maxHeartbeats 4000000 in
theorem frM12_qTest_L2 {m0 : ev_M} (f : Nat) (k : ev_M → Option (Unit × ev_M)) (hk : ∀  (xm : ev_M), frM m0 xm → Fr (frM m0) (k xm)) : ∀ (n : Nat) (a1 : Int32) (m : ev_M), frM m0 m → Fr (frM m0) (FX12_qTest_L2 f k n a1 m) := by
  intro n
  induction n with
  | zero => intros; exact Fr.none
  | succ n ih =>
    intro a1 m hm_m
    rw [FX12_qTest_L2]
    refine Fr.ite (fun _ => ?_) (fun _ => ?_)
    · exact hk _ hm_m
    · refine Fr.ite (fun _ => ?_) (fun _ => ?_)
      · refine Fr.bd (frM12_look _ hm_m) (fun r1 m2 hm_m2 => ?_)
        refine Fr.ite (fun _ => ?_) (fun _ => ?_)
        · refine Fr.bd (frM12_qOpens _ _ _ hm_m2) (fun _ m16 hm_m16 => ?_)
          exact ih _ (frM_I (by decide) hm_m16)
        · refine Fr.bd (frM12_isHere _ 160 (by decide) hm_m2) (fun r3 m4 hm_m4 => ?_)
          refine Fr.ite (fun _ => ?_) (fun _ => ?_)
          · refine Fr.bd (frM12_qFact _ hm_m4) (fun _ m6 hm_m6 => ?_)
            refine Fr.bd (frM12_qDropsNots _ hm_m6) (fun _ m8 hm_m8 => ?_)
            refine Fr.ite (fun _ => ?_) (fun _ => ?_)
            · refine Fr.bd (frM12_qGoesOnTest _ hm_m8) (fun r9 m10 hm_m10 => ?_)
              refine Fr.ite (fun _ => ?_) (fun _ => ?_)
              · exact frM12_qTest_J105 _ _ ih hm_m10
              · exact frM12_qTest_J106 _ _ _ ih hm_m10
            · exact frM12_qTest_J105 _ _ ih hm_m8
          · refine Fr.bd (frM12_qOpens _ _ _ hm_m4) (fun _ m12 hm_m12 => ?_)
            refine Fr.bd (frM12_asks _ 160 (by decide) hm_m12) (fun _ m14 hm_m14 => ?_)
            exact ih _ hm_m14
      · exact hk _ hm_m
set_option maxRecDepth 100000 in
set_option maxHeartbeats 4000000 in
theorem frM12_qTest_L110 {m0 : ev_M} (f : Nat) (k : ev_M → Option (Unit × ev_M)) (hk : ∀  (xm : ev_M), frM m0 xm → Fr (frM m0) (k xm)) : ∀ (n : Nat)  (m : ev_M), frM m0 m → Fr (frM m0) (FX12_qTest_L110 f k n m) := by
  intro n
  induction n with
  | zero => intros; exact Fr.none
  | succ n ih =>
    intro m hm_m
    rw [FX12_qTest_L110]
    refine Fr.ite (fun _ => ?_) (fun _ => ?_)
    · refine Fr.ite (fun _ => ?_) (fun _ => ?_)
      · exact hk _ hm_m
      · refine Fr.bd (frM12_qDrops _ hm_m) (fun _ m19 hm_m19 => ?_)
        exact ih  hm_m19
    · exact hk _ hm_m
set_option maxRecDepth 100000 in
set_option maxHeartbeats 4000000 in
theorem frM12_qTest {m0 : ev_M} (f : Nat) {m : ev_M}  (hm_m : frM m0 m) : Fr (frM m0) (FX12_qTest f m) := by
  unfold FX12_qTest
  exact frM12_qTest_L2 _ _ ((by
  intro m17 hm_m17
  exact frM12_qTest_L110 _ _ ((by
  intro m20 hm_m20
  exact Fr.ok hm_m20)) _ _ hm_m17)) _ _ _ hm_m
set_option maxRecDepth 100000 in
set_option maxHeartbeats 4000000 in
theorem frM12_ask_L192 {m0 : ev_M} (f : Nat) (k : ev_M → Option (Int64 × ev_M)) (a1 : Int32) (hk : ∀  (xm : ev_M), frM m0 xm → Fr (frM m0) (k xm)) : ∀ (n : Nat) (a2 : Int32) (m : ev_M), frM m0 m → Fr (frM m0) (FX12_ask_L192 f k a1 n a2 m) := by
  intro n
  induction n with
  | zero => intros; exact Fr.none
  | succ n ih =>
    intro a2 m hm_m
    rw [FX12_ask_L192]
    refine Fr.bd (frM12_towerMany _ hm_m) (fun r5 m6 hm_m6 => ?_)
    refine Fr.ite (fun _ => ?_) (fun _ => ?_)
    · exact hk _ hm_m6
    · refine Fr.bd (frM12_qTold _ _ hm_m6) (fun r7 m8 hm_m8 => ?_)
      refine Fr.bd (frM12_qTakes _ _ _ _ hm_m8) (fun _ m10 hm_m10 => ?_)
      exact ih _ hm_m10
set_option maxRecDepth 100000 in
set_option maxHeartbeats 4000000 in
theorem frM12_ask_J173 {m0 : ev_M} (f : Nat) (a1 : Int32) (s1 : Int64) {m : ev_M}  (hm_m : frM m0 m) : Fr (frM m0) (FX12_ask_J173 f a1 s1 m) := by
  unfold FX12_ask_J173
  refine Fr.bd (frM12_laysTones _ (frM_L (by decide) (frM_I (by decide) hm_m))) (fun _ m4 hm_m4 => ?_)
  exact frM12_ask_L192 _ _ _ ((by
  intro m11 hm_m11
  exact Fr.ok hm_m11)) _ _ _ (frM_I (by decide) hm_m4)
set_option maxRecDepth 100000 in
set_option maxHeartbeats 4000000 in
theorem frM12_ask_J133 {m0 : ev_M} (f : Nat) (a1 : Int32) {m : ev_M}  (hm_m : frM m0 m) : Fr (frM m0) (FX12_ask_J133 f a1 m) := by
  unfold FX12_ask_J133
  refine Fr.ite (fun _ => ?_) (fun _ => ?_)
  · refine Fr.ite (fun _ => ?_) (fun _ => ?_)
    · exact frM12_ask_J173 _ _ _ (frM_I (by decide) (frM_I (by decide) hm_m))
    · exact frM12_ask_J173 _ _ _ (frM_I (by decide) (frM_I (by decide) hm_m))
  · exact Fr.ok (frM_I (by decide) (frM_I (by decide) hm_m))
set_option maxRecDepth 100000 in
set_option maxHeartbeats 4000000 in
theorem frM12_ask_J109 {m0 : ev_M} (f : Nat) (a1 : Int32) {m : ev_M}  (hm_m : frM m0 m) : Fr (frM m0) (FX12_ask_J109 f a1 m) := by
  unfold FX12_ask_J109
  refine Fr.ite (fun _ => ?_) (fun _ => ?_)
  · refine Fr.bd (frM12_look _ hm_m) (fun r12 m13 hm_m13 => ?_)
    refine Fr.ite (fun _ => ?_) (fun _ => ?_)
    · exact frM12_ask_J133 _ _ hm_m13
    · refine Fr.bd (frM12_fail _ _ _ hm_m13) (fun _ m15 hm_m15 => ?_)
      exact frM12_ask_J133 _ _ hm_m15
  · exact frM12_ask_J133 _ _ hm_m
set_option maxRecDepth 100000 in
set_option maxHeartbeats 4000000 in
theorem frM12_ask_J98 {m0 : ev_M} (f : Nat) (a1 : Int32) {m : ev_M}  (hm_m : frM m0 m) : Fr (frM m0) (FX12_ask_J98 f a1 m) := by
  unfold FX12_ask_J98
  refine Fr.ite (fun _ => ?_) (fun _ => ?_)
  · refine Fr.bd (frM12_qSums _ hm_m) (fun _ m17 hm_m17 => ?_)
    exact frM12_ask_J109 _ _ hm_m17
  · exact frM12_ask_J109 _ _ hm_m
set_option maxRecDepth 100000 in
set_option maxHeartbeats 4000000 in
theorem frM12_ask {m0 : ev_M} (f : Nat) {m : ev_M}  (hm_m : frM m0 m) : Fr (frM m0) (FX12_ask f m) := by
  unfold FX12_ask
  refine Fr.ite (fun _ => ?_) (fun _ => ?_)
  · exact Fr.ok (frM_I (by decide) hm_m)
  · refine Fr.bd (frM12_qKind _ (frM_I (by decide) (frM_I (by decide) (frM_I (by decide) (frM_I (by decide) (frM_I (by decide) (frM_I (by decide) (frM_I (by decide) (frM_I (by decide) (frM_I (by decide) (frM_I (by decide) (frM_I (by decide) hm_m)))))))))))) (fun r1 m2 hm_m2 => ?_)
    refine Fr.ite (fun _ => ?_) (fun _ => ?_)
    · refine Fr.ite (fun _ => ?_) (fun _ => ?_)
      · exact frM12_ask_J98 _ _ hm_m2
      · refine Fr.bd (frM12_qTest _ hm_m2) (fun _ m19 hm_m19 => ?_)
        exact frM12_ask_J109 _ _ hm_m19
    · exact frM12_ask_J98 _ _ hm_m2
set_option maxRecDepth 100000 in
set_option maxHeartbeats 4000000 in
theorem frC9_readSum_J55 {m0 : ev_M} (f : Nat) (rc : Nat → Int32 → ev_M → Option (Unit × ev_M)) (kt6 : Int32 → ev_M → Option (Unit × ev_M)) (a1 : Int32) (s0 : Int32) {m : ev_M} (hrc : ∀ (x0 : Nat) (x1 : Int32) (xm : ev_M), frC m0 xm → Fr (frC m0) (rc x0 x1 xm)) (hkt6 : ∀ (x0 : Int32) (xm : ev_M), frC m0 xm → Fr (frC m0) (kt6 x0 xm)) (hm_m : frC m0 m) : Fr (frC m0) (FX9_readSum_J55 f rc kt6 a1 s0 m) := by
  unfold FX9_readSum_J55
  refine Fr.bd (frC10_advance _ hm_m) (fun _ m8 hm_m8 => ?_)
  refine Fr.bd (hrc _ _ _ hm_m8) (fun _ m10 hm_m10 => ?_)
  refine Fr.bd (frC9_put _ _ hm_m10) (fun _ m12 hm_m12 => ?_)
  exact hkt6 _ _ hm_m12
set_option maxRecDepth 100000 in
set_option maxHeartbeats 4000000 in
theorem frC9_readSum_J37 {m0 : ev_M} (f : Nat) (rc : Nat → Int32 → ev_M → Option (Unit × ev_M)) (kt6 : Int32 → ev_M → Option (Unit × ev_M)) (a1 : Int32) {m : ev_M} (hrc : ∀ (x0 : Nat) (x1 : Int32) (xm : ev_M), frC m0 xm → Fr (frC m0) (rc x0 x1 xm)) (hkt6 : ∀ (x0 : Int32) (xm : ev_M), frC m0 xm → Fr (frC m0) (kt6 x0 xm)) (hm_m : frC m0 m) : Fr (frC m0) (FX9_readSum_J37 f rc kt6 a1 m) := by
  unfold FX9_readSum_J37
  refine Fr.bd (frC10_isSign _ _ hm_m) (fun r5 m6 hm_m6 => ?_)
  refine Fr.ite (fun _ => ?_) (fun _ => ?_)
  · exact frC9_readSum_J55 _ _ _ _ _ hrc hkt6 hm_m6
  · exact frC9_readSum_J55 _ _ _ _ _ hrc hkt6 hm_m6
set_option maxRecDepth 100000 in
set_option maxHeartbeats 4000000 in
theorem frC9_readSum_L6 {m0 : ev_M} (f : Nat) (rc : Nat → Int32 → ev_M → Option (Unit × ev_M)) (k : ev_M → Option (Unit × ev_M)) (hrc : ∀ (x0 : Nat) (x1 : Int32) (xm : ev_M), frC m0 xm → Fr (frC m0) (rc x0 x1 xm)) (hk : ∀  (xm : ev_M), frC m0 xm → Fr (frC m0) (k xm)) : ∀ (n : Nat) (a1 : Int32) (m : ev_M), frC m0 m → Fr (frC m0) (FX9_readSum_L6 f rc k n a1 m) := by
  intro n
  induction n with
  | zero => intros; exact Fr.none
  | succ n ih =>
    intro a1 m hm_m
    rw [FX9_readSum_L6]
    refine Fr.ite (fun _ => ?_) (fun _ => ?_)
    · exact hk _ hm_m
    · refine Fr.bd (frC10_isSign _ _ hm_m) (fun r3 m4 hm_m4 => ?_)
      refine Fr.ite (fun _ => ?_) (fun _ => ?_)
      · refine Fr.bd (frC10_isSign _ _ hm_m4) (fun r13 m14 hm_m14 => ?_)
        refine Fr.ite (fun _ => ?_) (fun _ => ?_)
        · exact hk _ hm_m14
        · exact frC9_readSum_J37 _ _ _ _ hrc ih hm_m14
      · exact frC9_readSum_J37 _ _ _ _ hrc ih hm_m4
set_option maxRecDepth 100000 in
set_option maxHeartbeats 4000000 in
theorem frC9_readSumB {m0 : ev_M} (f : Nat) (rc : Nat → Int32 → ev_M → Option (Unit × ev_M)) {m : ev_M} (hrc : ∀ (x0 : Nat) (x1 : Int32) (xm : ev_M), frC m0 xm → Fr (frC m0) (rc x0 x1 xm)) (hm_m : frC m0 m) : Fr (frC m0) (FX9_readSumB f rc m) := by
  unfold FX9_readSumB
  refine Fr.bd (hrc _ _ _ hm_m) (fun _ m2 hm_m2 => ?_)
  exact frC9_readSum_L6 _ _ _ hrc ((by
  intro m15 hm_m15
  exact Fr.ok hm_m15)) _ _ _ hm_m2
set_option maxRecDepth 100000 in
set_option maxHeartbeats 4000000 in
theorem frC9_readProduct_J56 {m0 : ev_M} (f : Nat) (rc : Nat → Int32 → ev_M → Option (Unit × ev_M)) (kt6 : Int32 → ev_M → Option (Unit × ev_M)) (a1 : Int32) (s0 : Int32) {m : ev_M} (hrc : ∀ (x0 : Nat) (x1 : Int32) (xm : ev_M), frC m0 xm → Fr (frC m0) (rc x0 x1 xm)) (hkt6 : ∀ (x0 : Int32) (xm : ev_M), frC m0 xm → Fr (frC m0) (kt6 x0 xm)) (hm_m : frC m0 m) : Fr (frC m0) (FX9_readProduct_J56 f rc kt6 a1 s0 m) := by
  unfold FX9_readProduct_J56
  refine Fr.bd (frC10_advance _ hm_m) (fun _ m8 hm_m8 => ?_)
  refine Fr.bd (hrc _ _ _ hm_m8) (fun _ m10 hm_m10 => ?_)
  refine Fr.bd (frC9_put _ _ hm_m10) (fun _ m12 hm_m12 => ?_)
  exact hkt6 _ _ hm_m12
set_option maxRecDepth 100000 in
set_option maxHeartbeats 4000000 in
theorem frC9_readProduct_J37 {m0 : ev_M} (f : Nat) (rc : Nat → Int32 → ev_M → Option (Unit × ev_M)) (kt6 : Int32 → ev_M → Option (Unit × ev_M)) (a1 : Int32) {m : ev_M} (hrc : ∀ (x0 : Nat) (x1 : Int32) (xm : ev_M), frC m0 xm → Fr (frC m0) (rc x0 x1 xm)) (hkt6 : ∀ (x0 : Int32) (xm : ev_M), frC m0 xm → Fr (frC m0) (kt6 x0 xm)) (hm_m : frC m0 m) : Fr (frC m0) (FX9_readProduct_J37 f rc kt6 a1 m) := by
  unfold FX9_readProduct_J37
  refine Fr.bd (frC10_isSign _ _ hm_m) (fun r5 m6 hm_m6 => ?_)
  refine Fr.ite (fun _ => ?_) (fun _ => ?_)
  · exact frC9_readProduct_J56 _ _ _ _ _ hrc hkt6 hm_m6
  · exact frC9_readProduct_J56 _ _ _ _ _ hrc hkt6 hm_m6
set_option maxRecDepth 100000 in
set_option maxHeartbeats 4000000 in
theorem frC9_readProduct_L6 {m0 : ev_M} (f : Nat) (rc : Nat → Int32 → ev_M → Option (Unit × ev_M)) (k : ev_M → Option (Unit × ev_M)) (hrc : ∀ (x0 : Nat) (x1 : Int32) (xm : ev_M), frC m0 xm → Fr (frC m0) (rc x0 x1 xm)) (hk : ∀  (xm : ev_M), frC m0 xm → Fr (frC m0) (k xm)) : ∀ (n : Nat) (a1 : Int32) (m : ev_M), frC m0 m → Fr (frC m0) (FX9_readProduct_L6 f rc k n a1 m) := by
  intro n
  induction n with
  | zero => intros; exact Fr.none
  | succ n ih =>
    intro a1 m hm_m
    rw [FX9_readProduct_L6]
    refine Fr.ite (fun _ => ?_) (fun _ => ?_)
    · exact hk _ hm_m
    · refine Fr.bd (frC10_isSign _ _ hm_m) (fun r3 m4 hm_m4 => ?_)
      refine Fr.ite (fun _ => ?_) (fun _ => ?_)
      · refine Fr.bd (frC10_isSign _ _ hm_m4) (fun r13 m14 hm_m14 => ?_)
        refine Fr.ite (fun _ => ?_) (fun _ => ?_)
        · exact hk _ hm_m14
        · exact frC9_readProduct_J37 _ _ _ _ hrc ih hm_m14
      · exact frC9_readProduct_J37 _ _ _ _ hrc ih hm_m4
set_option maxRecDepth 100000 in
set_option maxHeartbeats 4000000 in
theorem frC9_readProductB {m0 : ev_M} (f : Nat) (rc : Nat → Int32 → ev_M → Option (Unit × ev_M)) {m : ev_M} (hrc : ∀ (x0 : Nat) (x1 : Int32) (xm : ev_M), frC m0 xm → Fr (frC m0) (rc x0 x1 xm)) (hm_m : frC m0 m) : Fr (frC m0) (FX9_readProductB f rc m) := by
  unfold FX9_readProductB
  refine Fr.bd (hrc _ _ _ hm_m) (fun _ m2 hm_m2 => ?_)
  exact frC9_readProduct_L6 _ _ _ hrc ((by
  intro m15 hm_m15
  exact Fr.ok hm_m15)) _ _ _ hm_m2
set_option maxRecDepth 100000 in
set_option maxHeartbeats 4000000 in
theorem frC9_readPart_J116 {m0 : ev_M} (f : Nat) (rc : Nat → Int32 → ev_M → Option (Unit × ev_M)) {m : ev_M} (hrc : ∀ (x0 : Nat) (x1 : Int32) (xm : ev_M), frC m0 xm → Fr (frC m0) (rc x0 x1 xm)) (hm_m : frC m0 m) : Fr (frC m0) (FX9_readPart_J116 f rc m) := by
  unfold FX9_readPart_J116
  refine Fr.bd (frC10_word _ hm_m) (fun r9 m10 hm_m10 => ?_)
  refine Fr.bd (frC9_isValue _ _ hm_m10) (fun r11 m12 hm_m12 => ?_)
  refine Fr.ite (fun _ => ?_) (fun _ => ?_)
  · refine Fr.bd (frC10_fail _ _ _ hm_m12) (fun _ m14 hm_m14 => ?_)
    exact Fr.ok hm_m14
  · refine Fr.bd (frC9_readValue _ hm_m12) (fun _ m16 hm_m16 => ?_)
    exact Fr.ok hm_m16
set_option maxRecDepth 100000 in
set_option maxHeartbeats 4000000 in
theorem frC9_readPartB {m0 : ev_M} (f : Nat) (rc : Nat → Int32 → ev_M → Option (Unit × ev_M)) {m : ev_M} (hrc : ∀ (x0 : Nat) (x1 : Int32) (xm : ev_M), frC m0 xm → Fr (frC m0) (rc x0 x1 xm)) (hm_m : frC m0 m) : Fr (frC m0) (FX9_readPartB f rc m) := by
  unfold FX9_readPartB
  refine Fr.bd (frC10_isNumber _ hm_m) (fun r1 m2 hm_m2 => ?_)
  refine Fr.ite (fun _ => ?_) (fun _ => ?_)
  · refine Fr.bd (frC10_isSign _ _ hm_m2) (fun r3 m4 hm_m4 => ?_)
    refine Fr.ite (fun _ => ?_) (fun _ => ?_)
    · refine Fr.bd (frC10_isWord _ _ hm_m4) (fun r5 m6 hm_m6 => ?_)
      refine Fr.ite (fun _ => ?_) (fun _ => ?_)
      · refine Fr.bd (frC10_isWord _ _ hm_m6) (fun r7 m8 hm_m8 => ?_)
        refine Fr.ite (fun _ => ?_) (fun _ => ?_)
        · refine Fr.ite (fun _ => ?_) (fun _ => ?_)
          · refine Fr.bd (frC10_isWord _ _ hm_m8) (fun r17 m18 hm_m18 => ?_)
            refine Fr.ite (fun _ => ?_) (fun _ => ?_)
            · exact frC9_readPart_J116 _ _ hrc hm_m18
            · refine Fr.bd (hrc _ _ _ hm_m18) (fun _ m20 hm_m20 => ?_)
              exact Fr.ok hm_m20
          · exact frC9_readPart_J116 _ _ hrc hm_m8
        · refine Fr.bd (hrc _ _ _ hm_m8) (fun _ m22 hm_m22 => ?_)
          exact Fr.ok hm_m22
      · refine Fr.bd (hrc _ _ _ hm_m6) (fun _ m24 hm_m24 => ?_)
        exact Fr.ok hm_m24
    · refine Fr.bd (hrc _ _ _ hm_m4) (fun _ m26 hm_m26 => ?_)
      exact Fr.ok hm_m26
  · refine Fr.bd (frC10_takeNumber _ _ _ hm_m2) (fun r27 m28 hm_m28 => ?_)
    refine Fr.bd (frC9_put _ _ hm_m28) (fun _ m30 hm_m30 => ?_)
    exact Fr.ok hm_m30
set_option maxRecDepth 100000 in
set_option maxHeartbeats 4000000 in
theorem frC9_readOpenedB {m0 : ev_M} (f : Nat) (rc : Nat → Int32 → ev_M → Option (Unit × ev_M)) {m : ev_M} (hrc : ∀ (x0 : Nat) (x1 : Int32) (xm : ev_M), frC m0 xm → Fr (frC m0) (rc x0 x1 xm)) (hm_m : frC m0 m) : Fr (frC m0) (FX9_readOpenedB f rc m) := by
  unfold FX9_readOpenedB
  refine Fr.bd (frC9_opens _ hm_m) (fun r1 m2 hm_m2 => ?_)
  refine Fr.ite (fun _ => ?_) (fun _ => ?_)
  · exact Fr.ok hm_m2
  · refine Fr.bd (hrc _ _ _ hm_m2) (fun _ m4 hm_m4 => ?_)
    refine Fr.bd (frC10_takeSign _ _ hm_m4) (fun _ m6 hm_m6 => ?_)
    refine Fr.bd (frC9_closes _ hm_m6) (fun _ m8 hm_m8 => ?_)
    exact Fr.ok hm_m8
set_option maxRecDepth 100000 in
set_option maxHeartbeats 4000000 in
theorem frC9_readPairB {m0 : ev_M} (f : Nat) (rc : Nat → Int32 → ev_M → Option (Unit × ev_M)) (a1 : Int32) {m : ev_M} (hrc : ∀ (x0 : Nat) (x1 : Int32) (xm : ev_M), frC m0 xm → Fr (frC m0) (rc x0 x1 xm)) (hm_m : frC m0 m) : Fr (frC m0) (FX9_readPairB f rc a1 m) := by
  unfold FX9_readPairB
  refine Fr.bd (frC10_advance _ hm_m) (fun _ m2 hm_m2 => ?_)
  refine Fr.bd (frC10_isSign _ _ hm_m2) (fun r3 m4 hm_m4 => ?_)
  refine Fr.ite (fun _ => ?_) (fun _ => ?_)
  · refine Fr.bd (frC10_fail _ _ _ hm_m4) (fun _ m20 hm_m20 => ?_)
    exact Fr.ok hm_m20
  · refine Fr.bd (frC9_opens _ hm_m4) (fun r5 m6 hm_m6 => ?_)
    refine Fr.ite (fun _ => ?_) (fun _ => ?_)
    · exact Fr.ok hm_m6
    · refine Fr.bd (hrc _ _ _ hm_m6) (fun _ m8 hm_m8 => ?_)
      refine Fr.bd (frC10_takeSign _ _ hm_m8) (fun _ m10 hm_m10 => ?_)
      refine Fr.bd (hrc _ _ _ hm_m10) (fun _ m12 hm_m12 => ?_)
      refine Fr.bd (frC10_takeSign _ _ hm_m12) (fun _ m14 hm_m14 => ?_)
      refine Fr.bd (frC9_closes _ hm_m14) (fun _ m16 hm_m16 => ?_)
      refine Fr.bd (frC9_put _ _ hm_m16) (fun _ m18 hm_m18 => ?_)
      exact Fr.ok hm_m18
set_option maxRecDepth 100000 in
set_option maxHeartbeats 4000000 in
theorem frC9_readSaidAheadB {m0 : ev_M} (f : Nat) (rc : Nat → Int32 → ev_M → Option (Unit × ev_M)) {m : ev_M} (hrc : ∀ (x0 : Nat) (x1 : Int32) (xm : ev_M), frC m0 xm → Fr (frC m0) (rc x0 x1 xm)) (hm_m : frC m0 m) : Fr (frC m0) (FX9_readSaidAheadB f rc m) := by
  unfold FX9_readSaidAheadB
  refine Fr.bd (frC9_opens _ hm_m) (fun r1 m2 hm_m2 => ?_)
  refine Fr.ite (fun _ => ?_) (fun _ => ?_)
  · exact Fr.ok hm_m2
  · refine Fr.bd (hrc _ _ _ hm_m2) (fun _ m4 hm_m4 => ?_)
    refine Fr.bd (frC9_closes _ hm_m4) (fun _ m6 hm_m6 => ?_)
    refine Fr.bd (frC9_put _ _ hm_m6) (fun _ m8 hm_m8 => ?_)
    exact Fr.ok (frC_I (by decide) hm_m8)
set_option maxRecDepth 100000 in
set_option maxHeartbeats 4000000 in
theorem FRGA {m0 : ev_M} (f : Nat) : ∀ (n j : Nat) (a : Int32) (m : ev_M), frC m0 m → Fr (frC m0) (FGA f n j a m) := by
  intro n
  induction n with
  | zero => intros; exact Fr.none
  | succ n ih =>
    intro j a m hm_m
    match j with
    | 0 => exact FRX9_readSumB _ _ (fun j a m h => ih j a m h) hm_m
    | 1 => exact FRX9_readProductB _ _ (fun j a m h => ih j a m h) hm_m
    | 2 => exact FRX9_readPartB _ _ (fun j a m h => ih j a m h) hm_m
    | 3 => exact FRX9_readOpenedB _ _ (fun j a m h => ih j a m h) hm_m
    | 4 => exact FRX9_readPairB _ _ _ (fun j a m h => ih j a m h) hm_m
    | j + 5 => exact FRX9_readSaidAheadB _ _ (fun j a m h => ih j a m h) hm_m
set_option maxRecDepth 100000 in
set_option maxHeartbeats 4000000 in
theorem frC9_readSum {m0 : ev_M} (f : Nat) {m : ev_M}  (hm_m : frC m0 m) : Fr (frC m0) (FX9_readSum f m) := by
  unfold FX9_readSum
  exact FRGA _ _ _ _ _ hm_m
set_option maxRecDepth 100000 in
set_option maxHeartbeats 4000000 in
theorem frC9_readProduct {m0 : ev_M} (f : Nat) {m : ev_M}  (hm_m : frC m0 m) : Fr (frC m0) (FX9_readProduct f m) := by
  unfold FX9_readProduct
  exact FRGA _ _ _ _ _ hm_m
set_option maxRecDepth 100000 in
set_option maxHeartbeats 4000000 in
theorem frC9_readPart {m0 : ev_M} (f : Nat) {m : ev_M}  (hm_m : frC m0 m) : Fr (frC m0) (FX9_readPart f m) := by
  unfold FX9_readPart
  exact FRGA _ _ _ _ _ hm_m
set_option maxRecDepth 100000 in
set_option maxHeartbeats 4000000 in
theorem frC9_readOpened {m0 : ev_M} (f : Nat) {m : ev_M}  (hm_m : frC m0 m) : Fr (frC m0) (FX9_readOpened f m) := by
  unfold FX9_readOpened
  exact FRGA _ _ _ _ _ hm_m
set_option maxRecDepth 100000 in
set_option maxHeartbeats 4000000 in
theorem frC9_readPair {m0 : ev_M} (f : Nat) (a1 : Int32) {m : ev_M}  (hm_m : frC m0 m) : Fr (frC m0) (FX9_readPair f a1 m) := by
  unfold FX9_readPair
  exact FRGA _ _ _ _ _ hm_m
set_option maxRecDepth 100000 in
set_option maxHeartbeats 4000000 in
theorem frC9_readSaidAhead {m0 : ev_M} (f : Nat) {m : ev_M}  (hm_m : frC m0 m) : Fr (frC m0) (FX9_readSaidAhead f m) := by
  unfold FX9_readSaidAhead
  exact FRGA _ _ _ _ _ hm_m
set_option maxRecDepth 100000 in
set_option maxHeartbeats 4000000 in
theorem frC1_readSays {m0 : ev_M} (f : Nat) (o0 : Nat) {m : ev_M} (h_o0 : isK 1 o0) (hm_m : frC m0 m) : Fr (frC m0) (FX1_readSays f o0 m) := by
  unfold FX1_readSays
  refine Fr.bd (frC9_begin _ (o0 + 4) _ (k1_k2 h_o0) (frC_I (by have := kf1 h_o0; omega) hm_m)) (fun _ m2 hm_m2 => ?_)
  refine Fr.bd (frC9_readSum _ hm_m2) (fun _ m4 hm_m4 => ?_)
  exact Fr.ok (frC_I (by have := kf1 h_o0; omega) hm_m4)
set_option maxRecDepth 100000 in
set_option maxHeartbeats 4000000 in
theorem frC1_readFeels {m0 : ev_M} (f : Nat) (o0 : Nat) {m : ev_M} (h_o0 : isK 1 o0) (hm_m : frC m0 m) : Fr (frC m0) (FX1_readFeels f o0 m) := by
  unfold FX1_readFeels
  refine Fr.bd (frC9_begin _ (o0 + 4) _ (k1_k2 h_o0) (frC_I (by have := kf1 h_o0; omega) hm_m)) (fun _ m2 hm_m2 => ?_)
  refine Fr.bd (frC9_readSum _ hm_m2) (fun _ m4 hm_m4 => ?_)
  exact Fr.ok (frC_I (by have := kf1 h_o0; omega) hm_m4)
set_option maxRecDepth 100000 in
set_option maxHeartbeats 4000000 in
theorem frC7_readComparison_J73 {m0 : ev_M} (f : Nat) (a1 : Int32) {m : ev_M}  (hm_m : frC m0 m) : Fr (frC m0) (FX7_readComparison_J73 f a1 m) := by
  unfold FX7_readComparison_J73
  refine Fr.bd (frC10_advance _ hm_m) (fun _ m10 hm_m10 => ?_)
  refine Fr.bd (frC9_readSum _ hm_m10) (fun _ m12 hm_m12 => ?_)
  refine Fr.bd (frC2_add _ 23 _ (by decide) hm_m12) (fun _ m14 hm_m14 => ?_)
  exact Fr.ok hm_m14
set_option maxRecDepth 100000 in
set_option maxHeartbeats 4000000 in
theorem frC7_readComparison {m0 : ev_M} (f : Nat) {m : ev_M}  (hm_m : frC m0 m) : Fr (frC m0) (FX7_readComparison f m) := by
  unfold FX7_readComparison
  refine Fr.bd (frC9_readSum _ hm_m) (fun _ m2 hm_m2 => ?_)
  refine Fr.bd (frC10_isSign _ _ hm_m2) (fun r3 m4 hm_m4 => ?_)
  refine Fr.ite (fun _ => ?_) (fun _ => ?_)
  · refine Fr.bd (frC10_isSign _ _ hm_m4) (fun r5 m6 hm_m6 => ?_)
    refine Fr.ite (fun _ => ?_) (fun _ => ?_)
    · refine Fr.bd (frC10_isSign _ _ hm_m6) (fun r7 m8 hm_m8 => ?_)
      refine Fr.ite (fun _ => ?_) (fun _ => ?_)
      · refine Fr.bd (frC10_fail _ _ _ hm_m8) (fun _ m16 hm_m16 => ?_)
        exact frC7_readComparison_J73 _ _ hm_m16
      · exact frC7_readComparison_J73 _ _ hm_m8
    · exact frC7_readComparison_J73 _ _ hm_m6
  · exact frC7_readComparison_J73 _ _ hm_m4
set_option maxRecDepth 100000 in
set_option maxHeartbeats 4000000 in
theorem frC1_readStatement_J164 {m0 : ev_M} (f : Nat) {m : ev_M}  (hm_m : frC m0 m) : Fr (frC m0) (FX1_readStatement_J164 f m) := by
  unfold FX1_readStatement_J164
  refine Fr.bd (frC10_takeSign _ _ hm_m) (fun _ m10 hm_m10 => ?_)
  exact Fr.ok hm_m10
set_option maxRecDepth 100000 in
set_option maxHeartbeats 4000000 in
theorem frC1_readStatement {m0 : ev_M} (f : Nat) (o0 : Nat) {m : ev_M} (h_o0 : isK 1 o0) (hm_m : frC m0 m) : Fr (frC m0) (FX1_readStatement f o0 m) := by
  unfold FX1_readStatement
  refine Fr.bd (frC10_word _ hm_m) (fun r1 m2 hm_m2 => ?_)
  refine Fr.bd (frC1_isTooMany _ o0 _ h_o0 hm_m2) (fun r3 m4 hm_m4 => ?_)
  refine Fr.ite (fun _ => ?_) (fun _ => ?_)
  · refine Fr.bd (frC10_advance _ hm_m4) (fun _ m6 hm_m6 => ?_)
    refine Fr.ite (fun _ => ?_) (fun _ => ?_)
    · refine Fr.bd (frC1_readTower _ o0 h_o0 hm_m6) (fun _ m8 hm_m8 => ?_)
      exact frC1_readStatement_J164 _ hm_m8
    · refine Fr.ite (fun _ => ?_) (fun _ => ?_)
      · refine Fr.bd (frC1_readYes _ o0 h_o0 hm_m6) (fun _ m13 hm_m13 => ?_)
        exact frC1_readStatement_J164 _ hm_m13
      · refine Fr.ite (fun _ => ?_) (fun _ => ?_)
        · refine Fr.bd (frC1_readSays _ o0 h_o0 hm_m6) (fun _ m16 hm_m16 => ?_)
          exact frC1_readStatement_J164 _ hm_m16
        · refine Fr.ite (fun _ => ?_) (fun _ => ?_)
          · refine Fr.bd (frC1_readFeels _ o0 h_o0 hm_m6) (fun _ m19 hm_m19 => ?_)
            exact frC1_readStatement_J164 _ hm_m19
          · refine Fr.ite (fun _ => ?_) (fun _ => ?_)
            · refine Fr.bd (frC10_takeNumber _ _ _ hm_m6) (fun r21 m22 hm_m22 => ?_)
              exact frC1_readStatement_J164 _ (frC_I (by have := kf1 h_o0; omega) hm_m22)
            · refine Fr.ite (fun _ => ?_) (fun _ => ?_)
              · refine Fr.bd (frC10_takeNumber _ _ _ hm_m6) (fun r24 m25 hm_m25 => ?_)
                exact frC1_readStatement_J164 _ (frC_I (by have := kf1 h_o0; omega) hm_m25)
              · refine Fr.ite (fun _ => ?_) (fun _ => ?_)
                · refine Fr.bd (frC10_takeNumber _ _ _ hm_m6) (fun r27 m28 hm_m28 => ?_)
                  exact frC1_readStatement_J164 _ (frC_I (by have := kf1 h_o0; omega) hm_m28)
                · refine Fr.bd (frC10_fail _ _ _ hm_m6) (fun _ m31 hm_m31 => ?_)
                  exact frC1_readStatement_J164 _ hm_m31
  · refine Fr.bd (frC10_fail _ _ _ hm_m4) (fun _ m33 hm_m33 => ?_)
    exact Fr.ok hm_m33
set_option maxRecDepth 100000 in
set_option maxHeartbeats 4000000 in
theorem frC1_readFrom_L32 {m0 : ev_M} (f : Nat) (k : Int32 → ev_M → Option (Int32 × ev_M)) (o0 : Nat) (h_o0 : isK 1 o0) (hk : ∀ (x0 : Int32) (xm : ev_M), frC m0 xm → Fr (frC m0) (k x0 xm)) : ∀ (n : Nat) (a3 : Int32) (m : ev_M), frC m0 m → Fr (frC m0) (FX1_readFrom_L32 f k o0 n a3 m) := by
  intro n
  induction n with
  | zero => intros; exact Fr.none
  | succ n ih =>
    intro a3 m hm_m
    rw [FX1_readFrom_L32]
    refine Fr.ite (fun _ => ?_) (fun _ => ?_)
    · exact hk _ _ hm_m
    · refine Fr.bd (frC10_isGood _ hm_m) (fun r11 m12 hm_m12 => ?_)
      refine Fr.ite (fun _ => ?_) (fun _ => ?_)
      · exact hk _ _ hm_m12
      · refine Fr.bd (frC10_isEnd _ hm_m12) (fun r13 m14 hm_m14 => ?_)
        refine Fr.ite (fun _ => ?_) (fun _ => ?_)
        · refine Fr.bd (frC1_readStatement _ o0 h_o0 hm_m14) (fun _ m16 hm_m16 => ?_)
          exact ih _ hm_m16
        · exact hk _ _ hm_m14
set_option maxRecDepth 100000 in
set_option maxHeartbeats 4000000 in
theorem frC1_readFrom_J80 {m0 : ev_M} (f : Nat) (o0 : Nat) (a3 : Int32) {m : ev_M} (h_o0 : isK 1 o0) (hm_m : frC m0 m) : Fr (frC m0) (FX1_readFrom_J80 f o0 a3 m) := by
  unfold FX1_readFrom_J80
  refine Fr.bd (frC1_addUntoldSums _ o0 h_o0 hm_m) (fun _ m22 hm_m22 => ?_)
  refine Fr.bd (frC10_isGood _ (frC_I (by have := kf1 h_o0; omega) hm_m22)) (fun r23 m24 hm_m24 => ?_)
  refine Fr.ite (fun _ => ?_) (fun _ => ?_)
  · exact Fr.ok hm_m24
  · exact Fr.none
set_option maxRecDepth 100000 in
set_option maxHeartbeats 4000000 in
theorem frC1_readFrom_J64 {m0 : ev_M} (f : Nat) (o0 : Nat) (a3 : Int32) {m : ev_M} (h_o0 : isK 1 o0) (hm_m : frC m0 m) : Fr (frC m0) (FX1_readFrom_J64 f o0 a3 m) := by
  unfold FX1_readFrom_J64
  refine Fr.bd (frC10_isEnd _ hm_m) (fun r19 m20 hm_m20 => ?_)
  refine Fr.ite (fun _ => ?_) (fun _ => ?_)
  · refine Fr.bd (frC10_fail _ _ _ hm_m20) (fun _ m26 hm_m26 => ?_)
    exact frC1_readFrom_J80 _ o0 _ h_o0 hm_m26
  · exact frC1_readFrom_J80 _ o0 _ h_o0 hm_m20
set_option maxRecDepth 100000 in
set_option maxHeartbeats 4000000 in
theorem frC1_readFrom {m0 : ev_M} (f : Nat) (o0 : Nat) {m : ev_M} (h_o0 : isK 1 o0) (hm_m : frC m0 m) : Fr (frC m0) (FX1_readFrom f o0 m) := by
  unfold FX1_readFrom
  refine Fr.bd (frC1_clear _ o0 h_o0 hm_m) (fun _ m2 hm_m2 => ?_)
  refine Fr.bd (frC10_begin _ hm_m2) (fun _ m4 hm_m4 => ?_)
  refine Fr.bd (frC10_takeWord _ _ hm_m4) (fun _ m6 hm_m6 => ?_)
  refine Fr.bd (frC10_takeNumber _ _ _ hm_m6) (fun r7 m8 hm_m8 => ?_)
  refine Fr.bd (frC10_takeSign _ _ (frC_I (by have := kf1 h_o0; omega) hm_m8)) (fun _ m10 hm_m10 => ?_)
  exact frC1_readFrom_L32 _ _ o0 h_o0 ((by
  intro e17 m18 hm_m18
  exact frC1_readFrom_J64 _ o0 _ h_o0 hm_m18)) _ _ _ hm_m10
set_option maxRecDepth 100000 in
set_option maxHeartbeats 4000000 in
theorem frC11_castle {m0 : ev_M} (f : Nat) {m : ev_M}  (hm_m : frC m0 m) : Fr (frC m0) (FX11_castle f m) := by
  unfold FX11_castle
  refine Fr.ite (fun hk1 => ?_) (fun _ => ?_)
  · refine Fr.bd (frC1_readFrom _ ((m.1 0 1)).toNatClampNeg hk1 hm_m) (fun r2 m3 hm_m3 => ?_)
    refine Fr.bd (frC11_noteFault _ hm_m3) (fun _ m5 hm_m5 => ?_)
    refine Fr.ite (fun _ => ?_) (fun _ => ?_)
    · refine Fr.bd (frC11_refuse _ _ (frC_I (by decide) hm_m5)) (fun r12 m13 hm_m13 => ?_)
      exact Fr.ok hm_m13
    · refine Fr.ite (fun hk2 => ?_) (fun _ => ?_)
      · refine Fr.ite (fun hk3 => ?_) (fun _ => ?_)
        · refine Fr.ite (fun hk4 => ?_) (fun _ => ?_)
          · refine Fr.bd (frC8_begin _ 103 ((Int32.ofNat ((m5.1 0 1)).toNatClampNeg)).toNatClampNeg (by decide) hk4 (frC_I (by decide) (frC_I (by decide) (frC_I (by decide) (frC_I (by decide) hm_m5))))) (fun _ m10 hm_m10 => ?_)
            refine Fr.ite (fun hk5 => ?_) (fun _ => ?_)
            · exact Fr.ok (frC_I (by decide) (frC_I (by decide) hm_m10))
            · exact Fr.none
          · exact Fr.none
        · exact Fr.none
      · exact Fr.none
  · exact Fr.none
set_option maxRecDepth 100000 in
set_option maxHeartbeats 4000000 in
theorem frC7_readTest_L6 {m0 : ev_M} (f : Nat) (rc : Nat → Int32 → ev_M → Option (Unit × ev_M)) (k : ev_M → Option (Unit × ev_M)) (hrc : ∀ (x0 : Nat) (x1 : Int32) (xm : ev_M), frC m0 xm → Fr (frC m0) (rc x0 x1 xm)) (hk : ∀  (xm : ev_M), frC m0 xm → Fr (frC m0) (k xm)) : ∀ (n : Nat) (a1 : Int32) (m : ev_M), frC m0 m → Fr (frC m0) (FX7_readTest_L6 f rc k n a1 m) := by
  intro n
  induction n with
  | zero => intros; exact Fr.none
  | succ n ih =>
    intro a1 m hm_m
    rw [FX7_readTest_L6]
    refine Fr.ite (fun _ => ?_) (fun _ => ?_)
    · exact hk _ hm_m
    · refine Fr.bd (frC10_isWord _ _ hm_m) (fun r3 m4 hm_m4 => ?_)
      refine Fr.ite (fun _ => ?_) (fun _ => ?_)
      · exact hk _ hm_m4
      · refine Fr.bd (frC10_advance _ hm_m4) (fun _ m6 hm_m6 => ?_)
        refine Fr.bd (hrc _ _ _ hm_m6) (fun _ m8 hm_m8 => ?_)
        refine Fr.bd (frC2_add _ 23 _ (by decide) hm_m8) (fun _ m10 hm_m10 => ?_)
        exact ih _ hm_m10
set_option maxRecDepth 100000 in
set_option maxHeartbeats 4000000 in
theorem frC7_readTestB {m0 : ev_M} (f : Nat) (rc : Nat → Int32 → ev_M → Option (Unit × ev_M)) {m : ev_M} (hrc : ∀ (x0 : Nat) (x1 : Int32) (xm : ev_M), frC m0 xm → Fr (frC m0) (rc x0 x1 xm)) (hm_m : frC m0 m) : Fr (frC m0) (FX7_readTestB f rc m) := by
  unfold FX7_readTestB
  refine Fr.bd (hrc _ _ _ hm_m) (fun _ m2 hm_m2 => ?_)
  exact frC7_readTest_L6 _ _ _ hrc ((by
  intro m11 hm_m11
  exact Fr.ok hm_m11)) _ _ _ hm_m2
set_option maxRecDepth 100000 in
set_option maxHeartbeats 4000000 in
theorem frC7_readBoth_L6 {m0 : ev_M} (f : Nat) (rc : Nat → Int32 → ev_M → Option (Unit × ev_M)) (k : ev_M → Option (Unit × ev_M)) (hrc : ∀ (x0 : Nat) (x1 : Int32) (xm : ev_M), frC m0 xm → Fr (frC m0) (rc x0 x1 xm)) (hk : ∀  (xm : ev_M), frC m0 xm → Fr (frC m0) (k xm)) : ∀ (n : Nat) (a1 : Int32) (m : ev_M), frC m0 m → Fr (frC m0) (FX7_readBoth_L6 f rc k n a1 m) := by
  intro n
  induction n with
  | zero => intros; exact Fr.none
  | succ n ih =>
    intro a1 m hm_m
    rw [FX7_readBoth_L6]
    refine Fr.ite (fun _ => ?_) (fun _ => ?_)
    · exact hk _ hm_m
    · refine Fr.bd (frC10_isWord _ _ hm_m) (fun r3 m4 hm_m4 => ?_)
      refine Fr.ite (fun _ => ?_) (fun _ => ?_)
      · exact hk _ hm_m4
      · refine Fr.bd (frC10_advance _ hm_m4) (fun _ m6 hm_m6 => ?_)
        refine Fr.bd (hrc _ _ _ hm_m6) (fun _ m8 hm_m8 => ?_)
        refine Fr.bd (frC2_add _ 23 _ (by decide) hm_m8) (fun _ m10 hm_m10 => ?_)
        exact ih _ hm_m10
set_option maxRecDepth 100000 in
set_option maxHeartbeats 4000000 in
theorem frC7_readBothB {m0 : ev_M} (f : Nat) (rc : Nat → Int32 → ev_M → Option (Unit × ev_M)) {m : ev_M} (hrc : ∀ (x0 : Nat) (x1 : Int32) (xm : ev_M), frC m0 xm → Fr (frC m0) (rc x0 x1 xm)) (hm_m : frC m0 m) : Fr (frC m0) (FX7_readBothB f rc m) := by
  unfold FX7_readBothB
  refine Fr.bd (hrc _ _ _ hm_m) (fun _ m2 hm_m2 => ?_)
  exact frC7_readBoth_L6 _ _ _ hrc ((by
  intro m11 hm_m11
  exact Fr.ok hm_m11)) _ _ _ hm_m2
set_option maxRecDepth 100000 in
set_option maxHeartbeats 4000000 in
theorem frC7_readFactB {m0 : ev_M} (f : Nat) (rc : Nat → Int32 → ev_M → Option (Unit × ev_M)) {m : ev_M} (hrc : ∀ (x0 : Nat) (x1 : Int32) (xm : ev_M), frC m0 xm → Fr (frC m0) (rc x0 x1 xm)) (hm_m : frC m0 m) : Fr (frC m0) (FX7_readFactB f rc m) := by
  unfold FX7_readFactB
  refine Fr.bd (frC10_isWord _ _ hm_m) (fun r1 m2 hm_m2 => ?_)
  refine Fr.ite (fun _ => ?_) (fun _ => ?_)
  · refine Fr.bd (frC10_isSign _ _ hm_m2) (fun r3 m4 hm_m4 => ?_)
    refine Fr.ite (fun _ => ?_) (fun _ => ?_)
    · refine Fr.bd (frC10_isWord _ _ hm_m4) (fun r5 m6 hm_m6 => ?_)
      refine Fr.ite (fun _ => ?_) (fun _ => ?_)
      · refine Fr.bd (frC7_readComparison _ hm_m6) (fun _ m8 hm_m8 => ?_)
        exact Fr.ok hm_m8
      · refine Fr.bd (frC10_advance _ hm_m6) (fun _ m10 hm_m10 => ?_)
        refine Fr.bd (frC2_add _ 23 _ (by decide) hm_m10) (fun _ m12 hm_m12 => ?_)
        exact Fr.ok hm_m12
    · refine Fr.bd (frC9_opens _ hm_m4) (fun r13 m14 hm_m14 => ?_)
      refine Fr.ite (fun _ => ?_) (fun _ => ?_)
      · exact Fr.ok hm_m14
      · refine Fr.bd (hrc _ _ _ hm_m14) (fun _ m16 hm_m16 => ?_)
        refine Fr.bd (frC10_takeSign _ _ hm_m16) (fun _ m18 hm_m18 => ?_)
        refine Fr.bd (frC9_closes _ hm_m18) (fun _ m20 hm_m20 => ?_)
        exact Fr.ok hm_m20
  · refine Fr.bd (frC9_opens _ hm_m2) (fun r21 m22 hm_m22 => ?_)
    refine Fr.ite (fun _ => ?_) (fun _ => ?_)
    · exact Fr.ok hm_m22
    · refine Fr.bd (hrc _ _ _ hm_m22) (fun _ m24 hm_m24 => ?_)
      refine Fr.bd (frC9_closes _ hm_m24) (fun _ m26 hm_m26 => ?_)
      refine Fr.bd (frC2_add _ 23 _ (by decide) hm_m26) (fun _ m28 hm_m28 => ?_)
      exact Fr.ok hm_m28
set_option maxRecDepth 100000 in
set_option maxHeartbeats 4000000 in
theorem FRGB {m0 : ev_M} (f : Nat) : ∀ (n j : Nat) (a : Int32) (m : ev_M), frC m0 m → Fr (frC m0) (FGB f n j a m) := by
  intro n
  induction n with
  | zero => intros; exact Fr.none
  | succ n ih =>
    intro j a m hm_m
    match j with
    | 0 => exact FRX7_readTestB _ _ (fun j a m h => ih j a m h) hm_m
    | 1 => exact FRX7_readBothB _ _ (fun j a m h => ih j a m h) hm_m
    | j + 2 => exact FRX7_readFactB _ _ (fun j a m h => ih j a m h) hm_m
set_option maxRecDepth 100000 in
set_option maxHeartbeats 4000000 in
theorem frC7_readTest {m0 : ev_M} (f : Nat) {m : ev_M}  (hm_m : frC m0 m) : Fr (frC m0) (FX7_readTest f m) := by
  unfold FX7_readTest
  exact FRGB _ _ _ _ _ hm_m
set_option maxRecDepth 100000 in
set_option maxHeartbeats 4000000 in
theorem frC7_readBoth {m0 : ev_M} (f : Nat) {m : ev_M}  (hm_m : frC m0 m) : Fr (frC m0) (FX7_readBoth f m) := by
  unfold FX7_readBoth
  exact FRGB _ _ _ _ _ hm_m
set_option maxRecDepth 100000 in
set_option maxHeartbeats 4000000 in
theorem frC7_readFact {m0 : ev_M} (f : Nat) {m : ev_M}  (hm_m : frC m0 m) : Fr (frC m0) (FX7_readFact f m) := by
  unfold FX7_readFact
  exact FRGB _ _ _ _ _ hm_m
set_option maxRecDepth 100000 in
set_option maxHeartbeats 4000000 in
theorem frC7_read_J151 {m0 : ev_M} (f : Nat) {m : ev_M}  (hm_m : frC m0 m) : Fr (frC m0) (FX7_read_J151 f m) := by
  unfold FX7_read_J151
  refine Fr.bd (frC10_isGood _ hm_m) (fun r13 m14 hm_m14 => ?_)
  refine Fr.ite (fun _ => ?_) (fun _ => ?_)
  · exact Fr.ok hm_m14
  · exact Fr.none
set_option maxRecDepth 100000 in
set_option maxHeartbeats 4000000 in
theorem frC7_read_J126 {m0 : ev_M} (f : Nat) {m : ev_M}  (hm_m : frC m0 m) : Fr (frC m0) (FX7_read_J126 f m) := by
  unfold FX7_read_J126
  refine Fr.bd (frC10_isEnd _ hm_m) (fun r11 m12 hm_m12 => ?_)
  refine Fr.ite (fun _ => ?_) (fun _ => ?_)
  · refine Fr.bd (frC10_fail _ _ _ hm_m12) (fun _ m16 hm_m16 => ?_)
    exact frC7_read_J151 _ hm_m16
  · exact frC7_read_J151 _ hm_m12
set_option maxRecDepth 100000 in
set_option maxHeartbeats 4000000 in
theorem frC7_read {m0 : ev_M} (f : Nat) {m : ev_M}  (hm_m : frC m0 m) : Fr (frC m0) (FX7_read f m) := by
  unfold FX7_read
  refine Fr.bd (frC10_begin _ (frC_I (by decide) hm_m)) (fun _ m2 hm_m2 => ?_)
  refine Fr.bd (frC9_begin _ 23 _ (by decide) hm_m2) (fun _ m4 hm_m4 => ?_)
  refine Fr.bd (frC10_word _ hm_m4) (fun r5 m6 hm_m6 => ?_)
  refine Fr.ite (fun _ => ?_) (fun _ => ?_)
  · refine Fr.bd (frC10_advance _ (frC_I (by decide) hm_m6)) (fun _ m8 hm_m8 => ?_)
    refine Fr.bd (frC7_readTest _ hm_m8) (fun _ m10 hm_m10 => ?_)
    exact frC7_read_J126 _ hm_m10
  · refine Fr.ite (fun _ => ?_) (fun _ => ?_)
    · refine Fr.bd (frC10_advance _ (frC_I (by decide) hm_m6)) (fun _ m19 hm_m19 => ?_)
      refine Fr.bd (frC7_readTest _ hm_m19) (fun _ m21 hm_m21 => ?_)
      exact frC7_read_J126 _ hm_m21
    · refine Fr.ite (fun _ => ?_) (fun _ => ?_)
      · refine Fr.bd (frC10_advance _ (frC_I (by decide) hm_m6)) (fun _ m24 hm_m24 => ?_)
        refine Fr.bd (frC7_readTest _ hm_m24) (fun _ m26 hm_m26 => ?_)
        exact frC7_read_J126 _ hm_m26
      · refine Fr.ite (fun _ => ?_) (fun _ => ?_)
        · refine Fr.bd (frC10_advance _ (frC_I (by decide) hm_m6)) (fun _ m29 hm_m29 => ?_)
          refine Fr.bd (frC9_readSum _ hm_m29) (fun _ m31 hm_m31 => ?_)
          exact frC7_read_J126 _ hm_m31
        · refine Fr.ite (fun _ => ?_) (fun _ => ?_)
          · refine Fr.bd (frC10_advance _ (frC_I (by decide) hm_m6)) (fun _ m34 hm_m34 => ?_)
            refine Fr.bd (frC9_readSum _ hm_m34) (fun _ m36 hm_m36 => ?_)
            exact frC7_read_J126 _ hm_m36
          · refine Fr.ite (fun _ => ?_) (fun _ => ?_)
            · refine Fr.bd (frC10_advance _ (frC_I (by decide) hm_m6)) (fun _ m39 hm_m39 => ?_)
              refine Fr.bd (frC9_readSum _ hm_m39) (fun _ m41 hm_m41 => ?_)
              exact frC7_read_J126 _ hm_m41
            · refine Fr.bd (frC10_fail _ _ _ (frC_I (by decide) hm_m6)) (fun _ m44 hm_m44 => ?_)
              exact frC7_read_J126 _ hm_m44
set_option maxRecDepth 100000 in
set_option maxHeartbeats 4000000 in
theorem frC11_ask {m0 : ev_M} (f : Nat) {m : ev_M}  (hm_m : frC m0 m) : Fr (frC m0) (FX11_ask f m) := by
  unfold FX11_ask
  refine Fr.bd (frC11_isTold _ hm_m) (fun r1 m2 hm_m2 => ?_)
  refine Fr.ite (fun _ => ?_) (fun _ => ?_)
  · exact Fr.ok (frC_I (by decide) hm_m2)
  · refine Fr.bd (frC7_read _ hm_m2) (fun r3 m4 hm_m4 => ?_)
    refine Fr.bd (frC11_noteFault _ hm_m4) (fun _ m6 hm_m6 => ?_)
    refine Fr.ite (fun _ => ?_) (fun _ => ?_)
    · exact Fr.ok (frC_I (by decide) hm_m6)
    · refine Fr.bd (frC7_answer _ 103 (by decide) (frC_I (by decide) hm_m6)) (fun r7 m8 hm_m8 => ?_)
      exact Fr.ok hm_m8
