/-! frames: what a function may write -/
def frP (P : Nat → Nat → Prop) (m0 m : ev_M) : Prop := ∀ a k, P a k → m.1 a k = m0.1 a k ∧ m.2 a k = m0.2 a k
def Fr {α : Type} (Q : ev_M → Prop) (o : Option (α × ev_M)) : Prop := ∀ r m', o = some (r, m') → Q m'
theorem Fr.none {α : Type} {Q : ev_M → Prop} : Fr Q (Option.none : Option (α × ev_M)) := fun _ _ h => by cases h
theorem Fr.ok {α : Type} {Q : ev_M → Prop} {r : α} {m : ev_M} (h : Q m) : Fr Q (some (r, m)) := fun _ _ q => by cases q; exact h
theorem Fr.ite {α : Type} {Q : ev_M → Prop} {p : Prop} [Decidable p] {a b : Option (α × ev_M)} (ha : p → Fr Q a) (hb : ¬ p → Fr Q b) : Fr Q (if p then a else b) := by
  by_cases h : p
  · rw [if_pos h]; exact ha h
  · rw [if_neg h]; exact hb h
theorem Fr.bd {α β : Type} {Q : ev_M → Prop} {o : Option (α × ev_M)} {k : α → ev_M → Option (β × ev_M)} (ho : Fr Q o) (hk : ∀ r m, Q m → Fr Q (k r m)) : Fr Q (ev_bd o k) := by
  intro r m' h
  cases o with
  | none => cases h
  | some q => exact hk q.1 q.2 (ho q.1 q.2 rfl) r m' h
theorem frP_refl (P : Nat → Nat → Prop) (m : ev_M) : frP P m m := fun _ _ _ => ⟨rfl, rfl⟩
theorem frP.trans {P : Nat → Nat → Prop} {m0 m1 m2 : ev_M} (h1 : frP P m0 m1) (h2 : frP P m1 m2) : frP P m0 m2 := fun a k h => ⟨(h2 a k h).1.trans (h1 a k h).1, (h2 a k h).2.trans (h1 a k h).2⟩
theorem frP.mono {P Q : Nat → Nat → Prop} {m0 m1 : ev_M} (h : frP P m0 m1) (hi : ∀ a k, Q a k → P a k) : frP Q m0 m1 := fun a k q => h a k (hi a k q)
theorem frP_up {α : Type} {P : Nat → Nat → Prop} (g : Nat → Nat → α) {a k i j : Nat} (v : α) (h : ¬ P a k) (hp : P i j) : ev_up g a k v i j = g i j := by
  unfold ev_up
  by_cases e : i = a
  · subst e
    rw [if_pos rfl]
    by_cases e2 : j = k
    · subst e2; exact absurd hp h
    · show (if j = k then v else g i j) = g i j
      rw [if_neg e2]
  · rw [if_neg e]
theorem frP_I {P : Nat → Nat → Prop} {m0 : ev_M} {I : Nat → Nat → Int32} {L : Nat → Nat → Int64} {a k : Nat} {v : Int32} (ha : ¬ P a k) (h : frP P m0 (I, L)) : frP P m0 (ev_up I a k v, L) := fun i j hp => ⟨(frP_up I v ha hp).trans (h i j hp).1, (h i j hp).2⟩
theorem frP_L {P : Nat → Nat → Prop} {m0 : ev_M} {I : Nat → Nat → Int32} {L : Nat → Nat → Int64} {a k : Nat} {v : Int64} (ha : ¬ P a k) (h : frP P m0 (I, L)) : frP P m0 (I, ev_up L a k v) := fun i j hp => ⟨(h i j hp).1, (frP_up L v ha hp).trans (h i j hp).2⟩
set_option maxRecDepth 100000 in
theorem kb1_all : ∀ o, o < 181 → (lay_sh.getD o (0, 0)).1 = 1 → o = 1 ∨ o = 7 := by decide +kernel
set_option maxRecDepth 100000 in
theorem kb2_all : ∀ o, o < 181 → (lay_sh.getD o (0, 0)).1 = 2 → o = 5 ∨ o = 11 ∨ o = 23 := by decide +kernel
theorem kb1 {o : Nat} (h : isK 1 o) : o = 1 ∨ o = 7 := kb1_all o h.1 h.2
theorem kb2 {o : Nat} (h : isK 2 o) : o = 5 ∨ o = 11 ∨ o = 23 := kb2_all o h.1 h.2
theorem hi20 {i : Int32} (h : ev_in i 20) : i.toNatClampNeg < 20 := h.2
set_option maxRecDepth 100000 in
set_option maxHeartbeats 4000000 in
theorem FRX11_fault {P : Nat → Nat → Prop} {m0 : ev_M} (f : Nat) (a1 : Int32) {m : ev_M}   (hm_m : frP P m0 m) : Fr (frP P m0) (FX11_fault f a1 m) := by
  unfold FX11_fault
  refine Fr.ite (fun _ => ?_) (fun _ => ?_)
  · exact Fr.ok hm_m
  · refine Fr.ite (fun _ => ?_) (fun _ => ?_)
    · exact Fr.ok hm_m
    · exact Fr.ok hm_m
set_option maxRecDepth 100000 in
set_option maxHeartbeats 4000000 in
theorem FRX11_octet {P : Nat → Nat → Prop} {m0 : ev_M} (f : Nat) (a1 : Int32) {m : ev_M}   (hm_m : frP P m0 m) : Fr (frP P m0) (FX11_octet f a1 m) := by
  unfold FX11_octet
  refine Fr.ite (fun _ => ?_) (fun _ => ?_)
  · exact Fr.ok hm_m
  · refine Fr.ite (fun _ => ?_) (fun _ => ?_)
    · exact Fr.ok hm_m
    · refine Fr.ite (fun _ => ?_) (fun _ => ?_)
      · exact Fr.ok hm_m
      · exact Fr.none
set_option maxRecDepth 100000 in
set_option maxHeartbeats 4000000 in
theorem FRX11_status {P : Nat → Nat → Prop} {m0 : ev_M} (f : Nat) (a1 : Int32) {m : ev_M}   (hm_m : frP P m0 m) : Fr (frP P m0) (FX11_status f a1 m) := by
  unfold FX11_status
  refine Fr.ite (fun _ => ?_) (fun _ => ?_)
  · exact Fr.ok hm_m
  · refine Fr.ite (fun _ => ?_) (fun _ => ?_)
    · exact Fr.ok hm_m
    · refine Fr.ite (fun _ => ?_) (fun _ => ?_)
      · exact Fr.ok hm_m
      · exact Fr.none
set_option maxRecDepth 100000 in
set_option maxHeartbeats 4000000 in
theorem FRX11_refuse {P : Nat → Nat → Prop} {m0 : ev_M} (f : Nat) (a1 : Int32) {m : ev_M} (p109 : ∀ k, ¬ P 109 k)  (hm_m : frP P m0 m) : Fr (frP P m0) (FX11_refuse f a1 m) := by
  unfold FX11_refuse
  refine Fr.ite (fun _ => ?_) (fun _ => ?_)
  · refine Fr.ite (fun _ => ?_) (fun _ => ?_)
    · exact Fr.ok (frP_I (p109 _) hm_m)
    · exact Fr.none
  · exact Fr.none
set_option maxRecDepth 100000 in
set_option maxHeartbeats 4000000 in
theorem FRX11_noteFault {P : Nat → Nat → Prop} {m0 : ev_M} (f : Nat) {m : ev_M} (p0_15 : ¬ P 0 15) (p0_16 : ¬ P 0 16)  (hm_m : frP P m0 m) : Fr (frP P m0) (FX11_noteFault f m) := by
  unfold FX11_noteFault
  exact Fr.ok (frP_I p0_16 (frP_I p0_15 hm_m))
set_option maxRecDepth 100000 in
set_option maxHeartbeats 4000000 in
theorem FRX11_isTold {P : Nat → Nat → Prop} {m0 : ev_M} (f : Nat) {m : ev_M}   (hm_m : frP P m0 m) : Fr (frP P m0) (FX11_isTold f m) := by
  unfold FX11_isTold
  refine Fr.ite (fun hk1 => ?_) (fun _ => ?_)
  · refine Fr.ite (fun _ => ?_) (fun _ => ?_)
    · exact Fr.ok hm_m
    · exact Fr.ok hm_m
  · exact Fr.none
set_option maxRecDepth 100000 in
set_option maxHeartbeats 4000000 in
theorem FRX11_isTower {P : Nat → Nat → Prop} {m0 : ev_M} (f : Nat) (a1 : Int32) {m : ev_M}   (hm_m : frP P m0 m) : Fr (frP P m0) (FX11_isTower f a1 m) := by
  unfold FX11_isTower
  refine Fr.ite (fun _ => ?_) (fun _ => ?_)
  · exact Fr.ok hm_m
  · refine Fr.ite (fun hk1 => ?_) (fun _ => ?_)
    · refine Fr.ite (fun _ => ?_) (fun _ => ?_)
      · exact Fr.ok hm_m
      · exact Fr.ok hm_m
    · exact Fr.none
set_option maxRecDepth 100000 in
set_option maxHeartbeats 4000000 in
theorem FRX11_canBeAhead {P : Nat → Nat → Prop} {m0 : ev_M} (f : Nat) (a1 : Int32) (a2 : Int32) (a3 : Int32) {m : ev_M}   (hm_m : frP P m0 m) : Fr (frP P m0) (FX11_canBeAhead f a1 a2 a3 m) := by
  unfold FX11_canBeAhead
  refine Fr.ite (fun _ => ?_) (fun _ => ?_)
  · exact Fr.ok hm_m
  · refine Fr.ite (fun _ => ?_) (fun _ => ?_)
    · exact Fr.ok hm_m
    · refine Fr.ite (fun _ => ?_) (fun _ => ?_)
      · exact Fr.ok hm_m
      · exact Fr.ok hm_m
set_option maxRecDepth 100000 in
set_option maxHeartbeats 4000000 in
theorem FRX11_comes {P : Nat → Nat → Prop} {m0 : ev_M} (f : Nat) (a1 : Int32) {m : ev_M}   (hm_m : frP P m0 m) : Fr (frP P m0) (FX11_comes f a1 m) := by
  unfold FX11_comes
  refine Fr.ite (fun _ => ?_) (fun _ => ?_)
  · exact Fr.ok hm_m
  · refine Fr.ite (fun _ => ?_) (fun _ => ?_)
    · exact Fr.ok hm_m
    · refine Fr.ite (fun _ => ?_) (fun _ => ?_)
      · exact Fr.ok hm_m
      · exact Fr.ok hm_m
set_option maxRecDepth 100000 in
set_option maxHeartbeats 4000000 in
theorem FRX11_canGo {P : Nat → Nat → Prop} {m0 : ev_M} (f : Nat) (a1 : Int32) {m : ev_M}   (hm_m : frP P m0 m) : Fr (frP P m0) (FX11_canGo f a1 m) := by
  unfold FX11_canGo
  refine Fr.bd (FRX11_isTold _ hm_m) (fun r1 m2 hm_m2 => ?_)
  refine Fr.ite (fun _ => ?_) (fun _ => ?_)
  · exact Fr.ok hm_m2
  · refine Fr.bd (FRX11_canBeAhead _ _ _ _ hm_m2) (fun r3 m4 hm_m4 => ?_)
    refine Fr.ite (fun _ => ?_) (fun _ => ?_)
    · exact Fr.ok hm_m4
    · exact Fr.ok hm_m4
set_option maxRecDepth 100000 in
set_option maxHeartbeats 4000000 in
theorem FRX11_moodsTogether_L4 {P : Nat → Nat → Prop} {m0 : ev_M} (f : Nat) (k : Int32 → ev_M → Option (Int32 × ev_M))  (hk : ∀ (x0 : Int32) (xm : ev_M), frP P m0 xm → Fr (frP P m0) (k x0 xm)) : ∀ (n : Nat) (a1 : Int32) (a2 : Int32) (m : ev_M), frP P m0 m → Fr (frP P m0) (FX11_moodsTogether_L4 f k n a1 a2 m) := by
  intro n
  induction n with
  | zero => intros; exact Fr.none
  | succ n ih =>
    intro a1 a2 m hm_m
    rw [FX11_moodsTogether_L4]
    refine Fr.ite (fun hk1 => ?_) (fun _ => ?_)
    · refine Fr.ite (fun _ => ?_) (fun _ => ?_)
      · exact hk _ _ hm_m
      · refine Fr.ite (fun _ => ?_) (fun _ => ?_)
        · exact ih _ _ _ hm_m
        · exact Fr.none
    · exact Fr.none
set_option maxRecDepth 100000 in
set_option maxHeartbeats 4000000 in
theorem FRX11_moodsTogether {P : Nat → Nat → Prop} {m0 : ev_M} (f : Nat) {m : ev_M}   (hm_m : frP P m0 m) : Fr (frP P m0) (FX11_moodsTogether f m) := by
  unfold FX11_moodsTogether
  exact FRX11_moodsTogether_L4 _ _ ((by
  intro e2 m3 hm_m3
  exact Fr.ok hm_m3)) _ _ _ _ hm_m
set_option maxRecDepth 100000 in
set_option maxHeartbeats 4000000 in
theorem FRX11_indexBelow_L2 {P : Nat → Nat → Prop} {m0 : ev_M} (f : Nat) (k : ev_M → Option (Int32 × ev_M)) (a1 : Int32)  (hk : ∀  (xm : ev_M), frP P m0 xm → Fr (frP P m0) (k xm)) : ∀ (n : Nat) (a2 : Int32) (m : ev_M), frP P m0 m → Fr (frP P m0) (FX11_indexBelow_L2 f k a1 n a2 m) := by
  intro n
  induction n with
  | zero => intros; exact Fr.none
  | succ n ih =>
    intro a2 m hm_m
    rw [FX11_indexBelow_L2]
    refine Fr.ite (fun _ => ?_) (fun _ => ?_)
    · exact hk _ hm_m
    · refine Fr.ite (fun _ => ?_) (fun _ => ?_)
      · refine Fr.ite (fun _ => ?_) (fun _ => ?_)
        · refine Fr.ite (fun _ => ?_) (fun _ => ?_)
          · exact Fr.ok hm_m
          · exact ih _ _ hm_m
        · exact Fr.none
      · exact Fr.none
set_option maxRecDepth 100000 in
set_option maxHeartbeats 4000000 in
theorem FRX11_indexBelow {P : Nat → Nat → Prop} {m0 : ev_M} (f : Nat) (a1 : Int32) {m : ev_M}   (hm_m : frP P m0 m) : Fr (frP P m0) (FX11_indexBelow f a1 m) := by
  unfold FX11_indexBelow
  exact FRX11_indexBelow_L2 _ _ _ ((by
  intro m1 hm_m1
  exact Fr.ok hm_m1)) _ _ _ hm_m
set_option maxRecDepth 100000 in
set_option maxHeartbeats 4000000 in
theorem FRX11_draw {P : Nat → Nat → Prop} {m0 : ev_M} (f : Nat) (a1 : Int32) {m : ev_M} (p0_17 : ¬ P 0 17)  (hm_m : frP P m0 m) : Fr (frP P m0) (FX11_draw f a1 m) := by
  unfold FX11_draw
  refine Fr.ite (fun _ => ?_) (fun _ => ?_)
  · exact Fr.ok (frP_L p0_17 hm_m)
  · refine Fr.ite (fun _ => ?_) (fun _ => ?_)
    · exact Fr.none
    · exact Fr.ok (frP_L p0_17 hm_m)
set_option maxRecDepth 100000 in
set_option maxHeartbeats 4000000 in
theorem FRX11_checkOf_L6 {P : Nat → Nat → Prop} {m0 : ev_M} (f : Nat) (k : Int32 → ev_M → Option (Int32 × ev_M)) (o0 : Nat) (a1 : Int32)  (hk : ∀ (x0 : Int32) (xm : ev_M), frP P m0 xm → Fr (frP P m0) (k x0 xm)) : ∀ (n : Nat) (a2 : Int32) (a3 : Int32) (m : ev_M), frP P m0 m → Fr (frP P m0) (FX11_checkOf_L6 f k o0 a1 n a2 a3 m) := by
  intro n
  induction n with
  | zero => intros; exact Fr.none
  | succ n ih =>
    intro a2 a3 m hm_m
    rw [FX11_checkOf_L6]
    refine Fr.ite (fun _ => ?_) (fun _ => ?_)
    · exact hk _ _ hm_m
    · refine Fr.ite (fun _ => ?_) (fun _ => ?_)
      · exact hk _ _ hm_m
      · refine Fr.ite (fun _ => ?_) (fun _ => ?_)
        · exact ih _ _ _ hm_m
        · exact Fr.none
set_option maxRecDepth 100000 in
set_option maxHeartbeats 4000000 in
theorem FRX11_checkOf {P : Nat → Nat → Prop} {m0 : ev_M} (f : Nat) (o0 : Nat) (a1 : Int32) {m : ev_M}   (hm_m : frP P m0 m) : Fr (frP P m0) (FX11_checkOf f o0 a1 m) := by
  unfold FX11_checkOf
  exact FRX11_checkOf_L6 _ _ o0 _ ((by
  intro e1 m2 hm_m2
  exact Fr.ok hm_m2)) _ _ _ _ hm_m
set_option maxRecDepth 100000 in
set_option maxHeartbeats 4000000 in
theorem FRX11_isPicture_J160 {P : Nat → Nat → Prop} {m0 : ev_M} (f : Nat) (kt101 : Int32 → Int32 → ev_M → Option (Int32 × ev_M)) (a3 : Int32) (s0 : Int32) {m : ev_M}  (hkt101 : ∀ (x0 : Int32) (x1 : Int32) (xm : ev_M), frP P m0 xm → Fr (frP P m0) (kt101 x0 x1 xm)) (hm_m : frP P m0 m) : Fr (frP P m0) (FX11_isPicture_J160 f kt101 a3 s0 m) := by
  unfold FX11_isPicture_J160
  exact hkt101 _ _ _ hm_m
set_option maxRecDepth 100000 in
set_option maxHeartbeats 4000000 in
theorem FRX11_isPicture_J159 {P : Nat → Nat → Prop} {m0 : ev_M} (f : Nat) (kt101 : Int32 → Int32 → ev_M → Option (Int32 × ev_M)) (a3 : Int32) {m : ev_M}  (hkt101 : ∀ (x0 : Int32) (x1 : Int32) (xm : ev_M), frP P m0 xm → Fr (frP P m0) (kt101 x0 x1 xm)) (hm_m : frP P m0 m) : Fr (frP P m0) (FX11_isPicture_J159 f kt101 a3 m) := by
  unfold FX11_isPicture_J159
  exact FRX11_isPicture_J160 _ _ _ _ hkt101 hm_m
set_option maxRecDepth 100000 in
set_option maxHeartbeats 4000000 in
theorem FRX11_isPicture_L101 {P : Nat → Nat → Prop} {m0 : ev_M} (f : Nat) (k : Int32 → ev_M → Option (Int32 × ev_M)) (a1 : Int32)  (hk : ∀ (x0 : Int32) (xm : ev_M), frP P m0 xm → Fr (frP P m0) (k x0 xm)) : ∀ (n : Nat) (a2 : Int32) (a3 : Int32) (m : ev_M), frP P m0 m → Fr (frP P m0) (FX11_isPicture_L101 f k a1 n a2 a3 m) := by
  intro n
  induction n with
  | zero => intros; exact Fr.none
  | succ n ih =>
    intro a2 a3 m hm_m
    rw [FX11_isPicture_L101]
    refine Fr.ite (fun _ => ?_) (fun _ => ?_)
    · exact hk _ _ hm_m
    · refine Fr.ite (fun _ => ?_) (fun _ => ?_)
      · exact FRX11_isPicture_J159 _ _ _ ih hm_m
      · refine Fr.ite (fun _ => ?_) (fun _ => ?_)
        · refine Fr.ite (fun _ => ?_) (fun _ => ?_)
          · exact FRX11_isPicture_J159 _ _ _ ih hm_m
          · refine Fr.ite (fun _ => ?_) (fun _ => ?_)
            · refine Fr.ite (fun _ => ?_) (fun _ => ?_)
              · exact FRX11_isPicture_J159 _ _ _ ih hm_m
              · refine Fr.ite (fun _ => ?_) (fun _ => ?_)
                · refine Fr.ite (fun _ => ?_) (fun _ => ?_)
                  · exact FRX11_isPicture_J159 _ _ _ ih hm_m
                  · exact FRX11_isPicture_J160 _ _ _ _ ih hm_m
                · exact Fr.none
            · exact Fr.none
        · exact Fr.none
set_option maxRecDepth 100000 in
set_option maxHeartbeats 4000000 in
theorem FRX11_isPicture_J98 {P : Nat → Nat → Prop} {m0 : ev_M} (f : Nat) (a1 : Int32) (s0 : Int32) {m : ev_M}   (hm_m : frP P m0 m) : Fr (frP P m0) (FX11_isPicture_J98 f a1 s0 m) := by
  unfold FX11_isPicture_J98
  exact FRX11_isPicture_L101 _ _ _ ((by
  intro e4 m5 hm_m5
  refine Fr.ite (fun _ => ?_) (fun _ => ?_)
  · exact Fr.ok hm_m5
  · exact Fr.none)) _ _ _ _ hm_m
set_option maxRecDepth 100000 in
set_option maxHeartbeats 4000000 in
theorem FRX11_isPicture_J97 {P : Nat → Nat → Prop} {m0 : ev_M} (f : Nat) (a1 : Int32) {m : ev_M}   (hm_m : frP P m0 m) : Fr (frP P m0) (FX11_isPicture_J97 f a1 m) := by
  unfold FX11_isPicture_J97
  exact FRX11_isPicture_J98 _ _ _ hm_m
set_option maxRecDepth 100000 in
set_option maxHeartbeats 4000000 in
theorem FRX11_isPicture {P : Nat → Nat → Prop} {m0 : ev_M} (f : Nat) {m : ev_M}   (hm_m : frP P m0 m) : Fr (frP P m0) (FX11_isPicture f m) := by
  unfold FX11_isPicture
  refine Fr.ite (fun hk1 => ?_) (fun _ => ?_)
  · refine Fr.ite (fun _ => ?_) (fun _ => ?_)
    · refine Fr.bd (FRX11_checkOf _ 14 _ hm_m) (fun r2 m3 hm_m3 => ?_)
      refine Fr.ite (fun _ => ?_) (fun _ => ?_)
      · refine Fr.ite (fun _ => ?_) (fun _ => ?_)
        · refine Fr.ite (fun _ => ?_) (fun _ => ?_)
          · exact FRX11_isPicture_J97 _ _ hm_m3
          · refine Fr.ite (fun _ => ?_) (fun _ => ?_)
            · exact FRX11_isPicture_J97 _ _ hm_m3
            · exact FRX11_isPicture_J98 _ _ _ hm_m3
        · exact Fr.ok hm_m3
      · exact Fr.none
    · exact Fr.ok hm_m
  · exact Fr.none
set_option maxRecDepth 100000 in
set_option maxHeartbeats 4000000 in
theorem FRX11_takePicture_L56 {P : Nat → Nat → Prop} {m0 : ev_M} (f : Nat) (k : ev_M → Option (Unit × ev_M)) (p103_4 : ¬ P 103 4) (p104 : ∀ k, ¬ P 104 k) (p105 : ∀ k, ¬ P 105 k) (hk : ∀  (xm : ev_M), frP P m0 xm → Fr (frP P m0) (k xm)) : ∀ (n : Nat) (a1 : Int32) (m : ev_M), frP P m0 m → Fr (frP P m0) (FX11_takePicture_L56 f k n a1 m) := by
  intro n
  induction n with
  | zero => intros; exact Fr.none
  | succ n ih =>
    intro a1 m hm_m
    rw [FX11_takePicture_L56]
    refine Fr.ite (fun hk1 => ?_) (fun _ => ?_)
    · refine Fr.ite (fun _ => ?_) (fun _ => ?_)
      · exact hk _ hm_m
      · refine Fr.ite (fun _ => ?_) (fun _ => ?_)
        · refine Fr.ite (fun _ => ?_) (fun _ => ?_)
          · refine Fr.ite (fun _ => ?_) (fun _ => ?_)
            · refine Fr.ite (fun _ => ?_) (fun _ => ?_)
              · refine Fr.ite (fun _ => ?_) (fun _ => ?_)
                · exact ih _ _ (frP_I p103_4 (frP_I (p105 _) (frP_I (p104 _) hm_m)))
                · exact Fr.none
              · exact Fr.none
            · exact Fr.none
          · exact Fr.none
        · exact Fr.none
    · exact Fr.none
set_option maxRecDepth 100000 in
set_option maxHeartbeats 4000000 in
theorem FRX11_takePicture {P : Nat → Nat → Prop} {m0 : ev_M} (f : Nat) {m : ev_M} (p40_3 : ¬ P 40 3) (p103_2 : ¬ P 103 2) (p103_3 : ¬ P 103 3) (p103_4 : ¬ P 103 4) (p103_5 : ¬ P 103 5) (p104 : ∀ k, ¬ P 104 k) (p105 : ∀ k, ¬ P 105 k)  (hm_m : frP P m0 m) : Fr (frP P m0) (FX11_takePicture f m) := by
  unfold FX11_takePicture
  exact FRX11_takePicture_L56 _ _ p103_4 p104 p105 ((by
  intro m2 hm_m2
  exact Fr.ok (frP_I p40_3 (frP_I p103_5 hm_m2)))) _ _ _ (frP_I p103_4 (frP_I p103_3 (frP_I p103_2 hm_m)))
set_option maxRecDepth 100000 in
set_option maxHeartbeats 4000000 in
theorem FRX0_startWith {P : Nat → Nat → Prop} {m0 : ev_M} (f : Nat) (a1 : Int32) {m : ev_M} (p29_2 : ¬ P 29 2) (p29_3 : ¬ P 29 3) (p29_4 : ¬ P 29 4)  (hm_m : frP P m0 m) : Fr (frP P m0) (FX0_startWith f a1 m) := by
  unfold FX0_startWith
  exact Fr.ok (frP_I p29_4 (frP_I p29_3 (frP_I p29_2 hm_m)))
set_option maxRecDepth 100000 in
set_option maxHeartbeats 4000000 in
theorem FRX0_weigh {P : Nat → Nat → Prop} {m0 : ev_M} (f : Nat) (a1 : Int32) (a2 : Int32) (a3 : Int32) {m : ev_M} (p29_2 : ¬ P 29 2) (p29_3 : ¬ P 29 3) (p29_4 : ¬ P 29 4)  (hm_m : frP P m0 m) : Fr (frP P m0) (FX0_weigh f a1 a2 a3 m) := by
  unfold FX0_weigh
  refine Fr.ite (fun _ => ?_) (fun _ => ?_)
  · exact Fr.ok hm_m
  · exact Fr.ok (frP_I p29_3 (frP_I p29_2 (frP_I p29_4 hm_m)))
set_option maxRecDepth 100000 in
set_option maxHeartbeats 4000000 in
theorem FRX1_clear {P : Nat → Nat → Prop} {m0 : ev_M} (f : Nat) (o0 : Nat) {m : ev_M} (q_o0_0_4 : ¬ P o0 4) (q_o0_0_5 : ¬ P o0 5) (q_o0_0_6 : ¬ P o0 6) (q_o0_0_8 : ¬ P o0 8) (q_o0_0_9 : ¬ P o0 9) (q_o0_0_10 : ¬ P o0 10) (q_o0_0_11 : ¬ P o0 11) (q_o0_0_12 : ¬ P o0 12) (q_o0_0_13 : ¬ P o0 13) (q_o0_0_14 : ¬ P o0 14) (q_o0_4_1 : ¬ P (o0 + 4) 1)  (hm_m : frP P m0 m) : Fr (frP P m0) (FX1_clear f o0 m) := by
  unfold FX1_clear
  exact Fr.ok (frP_I q_o0_0_14 (frP_I q_o0_0_13 (frP_I q_o0_0_12 (frP_I q_o0_0_11 (frP_I q_o0_0_10 (frP_I q_o0_0_9 (frP_I q_o0_0_8 (frP_I q_o0_0_6 (frP_I q_o0_0_5 (frP_I q_o0_0_4 (frP_I q_o0_4_1 hm_m)))))))))))
set_option maxRecDepth 100000 in
set_option maxHeartbeats 4000000 in
theorem FRX1_hasSays {P : Nat → Nat → Prop} {m0 : ev_M} (f : Nat) (o0 : Nat) {m : ev_M}   (hm_m : frP P m0 m) : Fr (frP P m0) (FX1_hasSays f o0 m) := by
  unfold FX1_hasSays
  refine Fr.ite (fun _ => ?_) (fun _ => ?_)
  · exact Fr.ok hm_m
  · exact Fr.ok hm_m
set_option maxRecDepth 100000 in
set_option maxHeartbeats 4000000 in
theorem FRX1_hasFeels {P : Nat → Nat → Prop} {m0 : ev_M} (f : Nat) (o0 : Nat) {m : ev_M}   (hm_m : frP P m0 m) : Fr (frP P m0) (FX1_hasFeels f o0 m) := by
  unfold FX1_hasFeels
  refine Fr.ite (fun _ => ?_) (fun _ => ?_)
  · exact Fr.ok hm_m
  · exact Fr.ok hm_m
set_option maxRecDepth 100000 in
set_option maxHeartbeats 4000000 in
theorem FRX1_isTooMany {P : Nat → Nat → Prop} {m0 : ev_M} (f : Nat) (o0 : Nat) (a1 : Int32) {m : ev_M}   (hm_m : frP P m0 m) : Fr (frP P m0) (FX1_isTooMany f o0 a1 m) := by
  unfold FX1_isTooMany
  refine Fr.ite (fun _ => ?_) (fun _ => ?_)
  · refine Fr.ite (fun _ => ?_) (fun _ => ?_)
    · exact Fr.ok hm_m
    · exact Fr.ok hm_m
  · refine Fr.ite (fun _ => ?_) (fun _ => ?_)
    · refine Fr.bd (FRX1_hasSays _ o0 hm_m) (fun r2 m3 hm_m3 => ?_)
      refine Fr.ite (fun _ => ?_) (fun _ => ?_)
      · exact Fr.ok hm_m3
      · exact Fr.none
    · refine Fr.ite (fun _ => ?_) (fun _ => ?_)
      · refine Fr.bd (FRX1_hasFeels _ o0 hm_m) (fun r5 m6 hm_m6 => ?_)
        refine Fr.ite (fun _ => ?_) (fun _ => ?_)
        · exact Fr.ok hm_m6
        · exact Fr.none
      · exact Fr.ok hm_m
set_option maxRecDepth 100000 in
set_option maxHeartbeats 4000000 in
theorem FRX2_add {P : Nat → Nat → Prop} {m0 : ev_M} (f : Nat) (o0 : Nat) (a1 : Int32) {m : ev_M} (q_o0_0_1 : ¬ P o0 1) (q_o0_1 : ∀ k, ¬ P (o0 + 1) k)  (hm_m : frP P m0 m) : Fr (frP P m0) (FX2_add f o0 a1 m) := by
  unfold FX2_add
  refine Fr.ite (fun _ => ?_) (fun _ => ?_)
  · exact Fr.ok hm_m
  · refine Fr.ite (fun _ => ?_) (fun _ => ?_)
    · exact Fr.ok (frP_I q_o0_0_1 (frP_I (q_o0_1 _) hm_m))
    · exact Fr.none
set_option maxRecDepth 100000 in
set_option maxHeartbeats 4000000 in
theorem FRX3_towers {P : Nat → Nat → Prop} {m0 : ev_M} (f : Nat) {m : ev_M}   (hm_m : frP P m0 m) : Fr (frP P m0) (FX3_towers f m) := by
  unfold FX3_towers
  refine Fr.ite (fun hk1 => ?_) (fun _ => ?_)
  · exact Fr.ok hm_m
  · exact Fr.none
set_option maxRecDepth 100000 in
set_option maxHeartbeats 4000000 in
theorem FRX3_rowOf_J45 {P : Nat → Nat → Prop} {m0 : ev_M} (f : Nat) (kt4 : Int32 → Int32 → ev_M → Option (Int32 × ev_M)) (a2 : Int32) (a3 : Int32) {m : ev_M}  (hkt4 : ∀ (x0 : Int32) (x1 : Int32) (xm : ev_M), frP P m0 xm → Fr (frP P m0) (kt4 x0 x1 xm)) (hm_m : frP P m0 m) : Fr (frP P m0) (FX3_rowOf_J45 f kt4 a2 a3 m) := by
  unfold FX3_rowOf_J45
  exact hkt4 _ _ _ hm_m
set_option maxRecDepth 100000 in
set_option maxHeartbeats 4000000 in
theorem FRX3_rowOf_J29 {P : Nat → Nat → Prop} {m0 : ev_M} (f : Nat) (kt4 : Int32 → Int32 → ev_M → Option (Int32 × ev_M)) (kt39 : Int32 → Int32 → ev_M → Option (Int32 × ev_M)) (a1 : Int32) (a3 : Int32) (s0 : Int32) {m : ev_M}  (hkt4 : ∀ (x0 : Int32) (x1 : Int32) (xm : ev_M), frP P m0 xm → Fr (frP P m0) (kt4 x0 x1 xm)) (hkt39 : ∀ (x0 : Int32) (x1 : Int32) (xm : ev_M), frP P m0 xm → Fr (frP P m0) (kt39 x0 x1 xm)) (hm_m : frP P m0 m) : Fr (frP P m0) (FX3_rowOf_J29 f kt4 kt39 a1 a3 s0 m) := by
  unfold FX3_rowOf_J29
  refine Fr.ite (fun _ => ?_) (fun _ => ?_)
  · exact FRX3_rowOf_J45 _ _ _ _ hkt4 hm_m
  · refine Fr.ite (fun _ => ?_) (fun _ => ?_)
    · exact FRX3_rowOf_J45 _ _ _ _ hkt4 hm_m
    · exact hkt39 _ _ _ hm_m
set_option maxRecDepth 100000 in
set_option maxHeartbeats 4000000 in
theorem FRX3_rowOf_L4 {P : Nat → Nat → Prop} {m0 : ev_M} (f : Nat) (k : Int32 → Int32 → ev_M → Option (Int32 × ev_M)) (a1 : Int32)  (hk : ∀ (x0 : Int32) (x1 : Int32) (xm : ev_M), frP P m0 xm → Fr (frP P m0) (k x0 x1 xm)) : ∀ (n : Nat) (a2 : Int32) (a3 : Int32) (m : ev_M), frP P m0 m → Fr (frP P m0) (FX3_rowOf_L4 f k a1 n a2 a3 m) := by
  intro n
  induction n with
  | zero => intros; exact Fr.none
  | succ n ih =>
    intro a2 a3 m hm_m
    rw [FX3_rowOf_L4]
    refine Fr.ite (fun _ => ?_) (fun _ => ?_)
    · exact Fr.ok hm_m
    · refine Fr.ite (fun _ => ?_) (fun _ => ?_)
      · exact FRX3_rowOf_J29 _ _ _ _ _ _ ih hk hm_m
      · exact FRX3_rowOf_J29 _ _ _ _ _ _ ih hk hm_m
set_option maxRecDepth 100000 in
set_option maxHeartbeats 4000000 in
theorem FRX3_rowOf {P : Nat → Nat → Prop} {m0 : ev_M} (f : Nat) (a1 : Int32) {m : ev_M}   (hm_m : frP P m0 m) : Fr (frP P m0) (FX3_rowOf f a1 m) := by
  unfold FX3_rowOf
  exact FRX3_rowOf_L4 _ _ _ ((by
  intro e1 e2 m3 hm_m3
  exact Fr.ok hm_m3)) _ _ _ _ hm_m
set_option maxRecDepth 100000 in
set_option maxHeartbeats 4000000 in
theorem FRX4_look_L27 {P : Nat → Nat → Prop} {m0 : ev_M} (f : Nat) (k : ev_M → Option (Int32 × ev_M)) (a2 : Int32) (a3 : Int32)  (hk : ∀  (xm : ev_M), frP P m0 xm → Fr (frP P m0) (k xm)) : ∀ (n : Nat) (a4 : Int32) (m : ev_M), frP P m0 m → Fr (frP P m0) (FX4_look_L27 f k a2 a3 n a4 m) := by
  intro n
  induction n with
  | zero => intros; exact Fr.none
  | succ n ih =>
    intro a4 m hm_m
    rw [FX4_look_L27]
    refine Fr.ite (fun _ => ?_) (fun _ => ?_)
    · exact hk _ hm_m
    · refine Fr.ite (fun _ => ?_) (fun _ => ?_)
      · refine Fr.ite (fun _ => ?_) (fun _ => ?_)
        · exact Fr.ok hm_m
        · refine Fr.ite (fun _ => ?_) (fun _ => ?_)
          · refine Fr.ite (fun _ => ?_) (fun _ => ?_)
            · exact Fr.ok hm_m
            · refine Fr.ite (fun _ => ?_) (fun _ => ?_)
              · refine Fr.ite (fun _ => ?_) (fun _ => ?_)
                · exact ih _ _ hm_m
                · exact Fr.ok hm_m
              · exact Fr.none
          · exact Fr.none
      · exact Fr.none
set_option maxRecDepth 100000 in
set_option maxHeartbeats 4000000 in
theorem FRX4_look_L83 {P : Nat → Nat → Prop} {m0 : ev_M} (f : Nat) (k : ev_M → Option (Int32 × ev_M)) (a3 : Int32) (p37 : ∀ k, ¬ P 37 k) (hk : ∀  (xm : ev_M), frP P m0 xm → Fr (frP P m0) (k xm)) : ∀ (n : Nat) (a4 : Int32) (m : ev_M), frP P m0 m → Fr (frP P m0) (FX4_look_L83 f k a3 n a4 m) := by
  intro n
  induction n with
  | zero => intros; exact Fr.none
  | succ n ih =>
    intro a4 m hm_m
    rw [FX4_look_L83]
    refine Fr.ite (fun _ => ?_) (fun _ => ?_)
    · exact hk _ hm_m
    · refine Fr.ite (fun _ => ?_) (fun _ => ?_)
      · refine Fr.ite (fun _ => ?_) (fun _ => ?_)
        · exact ih _ _ (frP_I (p37 _) hm_m)
        · exact Fr.none
      · exact Fr.none
set_option maxRecDepth 100000 in
set_option maxHeartbeats 4000000 in
theorem FRX4_look {P : Nat → Nat → Prop} {m0 : ev_M} (f : Nat) (a2 : Int32) {m : ev_M} (p33_6 : ¬ P 33 6) (p37 : ∀ k, ¬ P 37 k)  (hm_m : frP P m0 m) : Fr (frP P m0) (FX4_look f a2 m) := by
  unfold FX4_look
  refine Fr.ite (fun _ => ?_) (fun _ => ?_)
  · exact Fr.ok hm_m
  · refine Fr.ite (fun _ => ?_) (fun _ => ?_)
    · exact Fr.ok hm_m
    · refine Fr.ite (fun _ => ?_) (fun _ => ?_)
      · exact FRX4_look_L27 _ _ _ _ ((by
  intro m1 hm_m1
  exact FRX4_look_L83 _ _ _ p37 ((by
  intro m2 hm_m2
  exact Fr.ok (frP_I p33_6 hm_m2))) _ _ _ hm_m1)) _ _ _ hm_m
      · exact Fr.ok hm_m
set_option maxRecDepth 100000 in
set_option maxHeartbeats 4000000 in
theorem FRX4_indexOf {P : Nat → Nat → Prop} {m0 : ev_M} (f : Nat) (a0 : Int32) (a1 : Int32) (a2 : Int32) {m : ev_M}   (hm_m : frP P m0 m) : Fr (frP P m0) (FX4_indexOf f a0 a1 a2 m) := by
  unfold FX4_indexOf
  exact Fr.ok hm_m
set_option maxRecDepth 100000 in
set_option maxHeartbeats 4000000 in
theorem FRX4_isAllSo_L2 {P : Nat → Nat → Prop} {m0 : ev_M} (f : Nat) (k : ev_M → Option (Int32 × ev_M)) (a1 : Int32)  (hk : ∀  (xm : ev_M), frP P m0 xm → Fr (frP P m0) (k xm)) : ∀ (n : Nat) (a2 : Int32) (m : ev_M), frP P m0 m → Fr (frP P m0) (FX4_isAllSo_L2 f k a1 n a2 m) := by
  intro n
  induction n with
  | zero => intros; exact Fr.none
  | succ n ih =>
    intro a2 m hm_m
    rw [FX4_isAllSo_L2]
    refine Fr.ite (fun _ => ?_) (fun _ => ?_)
    · exact hk _ hm_m
    · refine Fr.ite (fun _ => ?_) (fun _ => ?_)
      · exact hk _ hm_m
      · refine Fr.ite (fun _ => ?_) (fun _ => ?_)
        · refine Fr.ite (fun _ => ?_) (fun _ => ?_)
          · exact Fr.ok hm_m
          · refine Fr.ite (fun _ => ?_) (fun _ => ?_)
            · refine Fr.bd (FRX4_indexOf _ _ _ _ hm_m) (fun r1 m2 hm_m2 => ?_)
              refine Fr.ite (fun _ => ?_) (fun _ => ?_)
              · refine Fr.ite (fun _ => ?_) (fun _ => ?_)
                · refine Fr.ite (fun _ => ?_) (fun _ => ?_)
                  · exact ih _ _ hm_m2
                  · exact Fr.ok hm_m2
                · exact Fr.none
              · exact Fr.none
            · exact Fr.none
        · exact Fr.none
set_option maxRecDepth 100000 in
set_option maxHeartbeats 4000000 in
theorem FRX4_isAllSo {P : Nat → Nat → Prop} {m0 : ev_M} (f : Nat) (a1 : Int32) {m : ev_M}   (hm_m : frP P m0 m) : Fr (frP P m0) (FX4_isAllSo f a1 m) := by
  unfold FX4_isAllSo
  exact FRX4_isAllSo_L2 _ _ _ ((by
  intro m3 hm_m3
  exact Fr.ok hm_m3)) _ _ _ hm_m
set_option maxRecDepth 100000 in
set_option maxHeartbeats 4000000 in
theorem FRX5_valueOf {P : Nat → Nat → Prop} {m0 : ev_M} (f : Nat) (a1 : Int32) {m : ev_M}   (hm_m : frP P m0 m) : Fr (frP P m0) (FX5_valueOf f a1 m) := by
  unfold FX5_valueOf
  refine Fr.ite (fun _ => ?_) (fun _ => ?_)
  · refine Fr.ite (fun _ => ?_) (fun _ => ?_)
    · exact Fr.ok hm_m
    · refine Fr.ite (fun _ => ?_) (fun _ => ?_)
      · exact Fr.ok hm_m
      · refine Fr.ite (fun _ => ?_) (fun _ => ?_)
        · exact Fr.ok hm_m
        · exact Fr.none
  · exact Fr.ok hm_m
set_option maxRecDepth 100000 in
set_option maxHeartbeats 4000000 in
theorem FRX5_saidAhead {P : Nat → Nat → Prop} {m0 : ev_M} (f : Nat) (a1 : Int32) {m : ev_M}   (hm_m : frP P m0 m) : Fr (frP P m0) (FX5_saidAhead f a1 m) := by
  unfold FX5_saidAhead
  refine Fr.ite (fun _ => ?_) (fun _ => ?_)
  · exact Fr.ok hm_m
  · refine Fr.ite (fun _ => ?_) (fun _ => ?_)
    · exact Fr.ok hm_m
    · refine Fr.ite (fun _ => ?_) (fun _ => ?_)
      · exact Fr.ok hm_m
      · refine Fr.ite (fun _ => ?_) (fun _ => ?_)
        · exact Fr.ok hm_m
        · refine Fr.ite (fun _ => ?_) (fun _ => ?_)
          · refine Fr.ite (fun _ => ?_) (fun _ => ?_)
            · exact Fr.ok hm_m
            · exact Fr.none
          · exact Fr.ok hm_m
set_option maxRecDepth 100000 in
set_option maxHeartbeats 4000000 in
theorem FRX6_addFire {P : Nat → Nat → Prop} {m0 : ev_M} (f : Nat) (a1 : Int32) (a2 : Int32) (a3 : Int32) (a4 : Int32) {m : ev_M} (p42 : ∀ k, ¬ P 42 k)  (hm_m : frP P m0 m) : Fr (frP P m0) (FX6_addFire f a1 a2 a3 a4 m) := by
  unfold FX6_addFire
  refine Fr.ite (fun _ => ?_) (fun _ => ?_)
  · exact Fr.ok hm_m
  · refine Fr.ite (fun _ => ?_) (fun _ => ?_)
    · refine Fr.ite (fun _ => ?_) (fun _ => ?_)
      · refine Fr.ite (fun _ => ?_) (fun _ => ?_)
        · refine Fr.ite (fun _ => ?_) (fun _ => ?_)
          · exact Fr.ok (frP_I (p42 _) (frP_I (p42 _) (frP_I (p42 _) hm_m)))
          · exact Fr.none
        · exact Fr.none
      · exact Fr.none
    · exact Fr.ok hm_m
set_option maxRecDepth 100000 in
set_option maxHeartbeats 4000000 in
theorem FRX6_fireOf {P : Nat → Nat → Prop} {m0 : ev_M} (f : Nat) (a1 : Int32) (a2 : Int32) {m : ev_M}   (hm_m : frP P m0 m) : Fr (frP P m0) (FX6_fireOf f a1 a2 m) := by
  unfold FX6_fireOf
  refine Fr.ite (fun _ => ?_) (fun _ => ?_)
  · exact Fr.ok hm_m
  · refine Fr.ite (fun _ => ?_) (fun _ => ?_)
    · exact Fr.ok hm_m
    · refine Fr.ite (fun _ => ?_) (fun _ => ?_)
      · exact Fr.ok hm_m
      · refine Fr.ite (fun _ => ?_) (fun _ => ?_)
        · exact Fr.ok hm_m
        · refine Fr.ite (fun _ => ?_) (fun _ => ?_)
          · exact Fr.ok hm_m
          · exact Fr.none
set_option maxRecDepth 100000 in
set_option maxHeartbeats 4000000 in
theorem FRX7_setValues_J86 {P : Nat → Nat → Prop} {m0 : ev_M} (f : Nat) (o1 : Nat) (a2 : Int32) (a4 : Int32) (s1 : Int32) (s2 : Int32) {m : ev_M} (p18 : ∀ k, ¬ P 18 k)  (hm_m : frP P m0 m) : Fr (frP P m0) (FX7_setValues_J86 f o1 a2 a4 s1 s2 m) := by
  unfold FX7_setValues_J86
  refine Fr.ite (fun _ => ?_) (fun _ => ?_)
  · refine Fr.ite (fun _ => ?_) (fun _ => ?_)
    · exact Fr.ok (frP_I (p18 4) (frP_I (p18 16) (frP_I (p18 _) hm_m)))
    · refine Fr.ite (fun _ => ?_) (fun _ => ?_)
      · exact Fr.ok (frP_I (p18 4) (frP_I (p18 16) (frP_I (p18 _) hm_m)))
      · exact Fr.none
  · exact Fr.none
set_option maxRecDepth 100000 in
set_option maxHeartbeats 4000000 in
theorem FRX7_setValues_J20 {P : Nat → Nat → Prop} {m0 : ev_M} (f : Nat) (o1 : Nat) (a2 : Int32) (s0 : Int32) {m : ev_M} (p18 : ∀ k, ¬ P 18 k)  (hm_m : frP P m0 m) : Fr (frP P m0) (FX7_setValues_J20 f o1 a2 s0 m) := by
  unfold FX7_setValues_J20
  refine Fr.ite (fun _ => ?_) (fun _ => ?_)
  · refine Fr.ite (fun _ => ?_) (fun _ => ?_)
    · refine Fr.ite (fun _ => ?_) (fun _ => ?_)
      · exact FRX7_setValues_J86 _ o1 _ _ _ _ p18 (frP_I (p18 11) (frP_I (p18 3) (frP_I (p18 2) (frP_I (p18 15) hm_m))))
      · refine Fr.ite (fun _ => ?_) (fun _ => ?_)
        · exact FRX7_setValues_J86 _ o1 _ _ _ _ p18 (frP_I (p18 11) (frP_I (p18 3) (frP_I (p18 2) (frP_I (p18 15) hm_m))))
        · exact Fr.none
    · exact Fr.none
  · exact Fr.none
set_option maxRecDepth 100000 in
set_option maxHeartbeats 4000000 in
theorem FRX7_setValues {P : Nat → Nat → Prop} {m0 : ev_M} (f : Nat) (o1 : Nat) (a2 : Int32) {m : ev_M} (p18 : ∀ k, ¬ P 18 k)  (hm_m : frP P m0 m) : Fr (frP P m0) (FX7_setValues f o1 a2 m) := by
  unfold FX7_setValues
  refine Fr.ite (fun _ => ?_) (fun _ => ?_)
  · exact FRX7_setValues_J20 _ o1 _ _ p18 hm_m
  · exact FRX7_setValues_J20 _ o1 _ _ p18 hm_m
set_option maxRecDepth 100000 in
set_option maxHeartbeats 4000000 in
theorem FRX8_begin_L28 {P : Nat → Nat → Prop} {m0 : ev_M} (f : Nat) (k : ev_M → Option (Unit × ev_M)) (o0 : Nat) (o1 : Nat) (q_o0_1 : ∀ k, ¬ P (o0 + 1) k) (q_o0_2 : ∀ k, ¬ P (o0 + 2) k) (hk : ∀  (xm : ev_M), frP P m0 xm → Fr (frP P m0) (k xm)) : ∀ (n : Nat) (a2 : Int32) (m : ev_M), frP P m0 m → Fr (frP P m0) (FX8_begin_L28 f k o0 o1 n a2 m) := by
  intro n
  induction n with
  | zero => intros; exact Fr.none
  | succ n ih =>
    intro a2 m hm_m
    rw [FX8_begin_L28]
    refine Fr.ite (fun _ => ?_) (fun _ => ?_)
    · exact hk _ hm_m
    · refine Fr.ite (fun _ => ?_) (fun _ => ?_)
      · refine Fr.ite (fun _ => ?_) (fun _ => ?_)
        · refine Fr.ite (fun _ => ?_) (fun _ => ?_)
          · refine Fr.ite (fun _ => ?_) (fun _ => ?_)
            · exact ih _ _ (frP_I (q_o0_2 _) (frP_I (q_o0_1 _) hm_m))
            · exact Fr.none
          · exact Fr.none
        · exact Fr.none
      · exact Fr.none
set_option maxRecDepth 100000 in
set_option maxHeartbeats 4000000 in
theorem FRX8_begin {P : Nat → Nat → Prop} {m0 : ev_M} (f : Nat) (o0 : Nat) (o1 : Nat) {m : ev_M} (q_o0_0_2 : ¬ P o0 2) (q_o0_0_3 : ¬ P o0 3) (q_o0_0_4 : ¬ P o0 4) (q_o0_0_5 : ¬ P o0 5) (q_o0_1 : ∀ k, ¬ P (o0 + 1) k) (q_o0_2 : ∀ k, ¬ P (o0 + 2) k)  (hm_m : frP P m0 m) : Fr (frP P m0) (FX8_begin f o0 o1 m) := by
  unfold FX8_begin
  exact FRX8_begin_L28 _ _ o0 o1 q_o0_1 q_o0_2 ((by
  intro m1 hm_m1
  exact Fr.ok hm_m1)) _ _ _ (frP_I q_o0_0_5 (frP_I q_o0_0_4 (frP_I q_o0_0_3 (frP_I q_o0_0_2 hm_m))))
set_option maxRecDepth 100000 in
set_option maxHeartbeats 4000000 in
theorem FRX8_copy_L34 {P : Nat → Nat → Prop} {m0 : ev_M} (f : Nat) (k : ev_M → Option (Unit × ev_M)) (o0 : Nat) (o1 : Nat) (q_o0_1 : ∀ k, ¬ P (o0 + 1) k) (q_o0_2 : ∀ k, ¬ P (o0 + 2) k) (hk : ∀  (xm : ev_M), frP P m0 xm → Fr (frP P m0) (k xm)) : ∀ (n : Nat) (a2 : Int32) (m : ev_M), frP P m0 m → Fr (frP P m0) (FX8_copy_L34 f k o0 o1 n a2 m) := by
  intro n
  induction n with
  | zero => intros; exact Fr.none
  | succ n ih =>
    intro a2 m hm_m
    rw [FX8_copy_L34]
    refine Fr.ite (fun _ => ?_) (fun _ => ?_)
    · exact hk _ hm_m
    · refine Fr.ite (fun _ => ?_) (fun _ => ?_)
      · refine Fr.ite (fun _ => ?_) (fun _ => ?_)
        · refine Fr.ite (fun _ => ?_) (fun _ => ?_)
          · refine Fr.ite (fun _ => ?_) (fun _ => ?_)
            · exact ih _ _ (frP_I (q_o0_2 _) (frP_I (q_o0_1 _) hm_m))
            · exact Fr.none
          · exact Fr.none
        · exact Fr.none
      · exact Fr.none
set_option maxRecDepth 100000 in
set_option maxHeartbeats 4000000 in
theorem FRX8_copy {P : Nat → Nat → Prop} {m0 : ev_M} (f : Nat) (o0 : Nat) (o1 : Nat) {m : ev_M} (q_o0_0_2 : ¬ P o0 2) (q_o0_0_3 : ¬ P o0 3) (q_o0_0_4 : ¬ P o0 4) (q_o0_0_5 : ¬ P o0 5) (q_o0_1 : ∀ k, ¬ P (o0 + 1) k) (q_o0_2 : ∀ k, ¬ P (o0 + 2) k)  (hm_m : frP P m0 m) : Fr (frP P m0) (FX8_copy f o0 o1 m) := by
  unfold FX8_copy
  exact FRX8_copy_L34 _ _ o0 o1 q_o0_1 q_o0_2 ((by
  intro m1 hm_m1
  exact Fr.ok hm_m1)) _ _ _ (frP_I q_o0_0_5 (frP_I q_o0_0_4 (frP_I q_o0_0_3 (frP_I q_o0_0_2 hm_m))))
set_option maxRecDepth 100000 in
set_option maxHeartbeats 4000000 in
theorem FRX8_hasNext {P : Nat → Nat → Prop} {m0 : ev_M} (f : Nat) (o0 : Nat) {m : ev_M}   (hm_m : frP P m0 m) : Fr (frP P m0) (FX8_hasNext f o0 m) := by
  unfold FX8_hasNext
  refine Fr.ite (fun _ => ?_) (fun _ => ?_)
  · exact Fr.ok hm_m
  · exact Fr.ok hm_m
set_option maxRecDepth 100000 in
set_option maxHeartbeats 4000000 in
theorem FRX8_swap {P : Nat → Nat → Prop} {m0 : ev_M} (f : Nat) (o0 : Nat) (a1 : Int32) (a2 : Int32) {m : ev_M} (q_o0_1 : ∀ k, ¬ P (o0 + 1) k) (q_o0_2 : ∀ k, ¬ P (o0 + 2) k)  (hm_m : frP P m0 m) : Fr (frP P m0) (FX8_swap f o0 a1 a2 m) := by
  unfold FX8_swap
  refine Fr.ite (fun _ => ?_) (fun _ => ?_)
  · refine Fr.ite (fun _ => ?_) (fun _ => ?_)
    · refine Fr.ite (fun _ => ?_) (fun _ => ?_)
      · refine Fr.ite (fun _ => ?_) (fun _ => ?_)
        · refine Fr.ite (fun _ => ?_) (fun _ => ?_)
          · refine Fr.ite (fun _ => ?_) (fun _ => ?_)
            · refine Fr.ite (fun _ => ?_) (fun _ => ?_)
              · refine Fr.ite (fun _ => ?_) (fun _ => ?_)
                · exact Fr.ok (frP_I (q_o0_2 _) (frP_I (q_o0_1 _) (frP_I (q_o0_2 _) (frP_I (q_o0_1 _) hm_m))))
                · exact Fr.none
              · exact Fr.none
            · exact Fr.none
          · exact Fr.none
        · exact Fr.none
      · exact Fr.none
    · exact Fr.none
  · exact Fr.none
set_option maxRecDepth 100000 in
set_option maxHeartbeats 4000000 in
theorem FRX8_feature_L9 {P : Nat → Nat → Prop} {m0 : ev_M} (f : Nat) (k : Int64 → ev_M → Option (Int64 × ev_M)) (o0 : Nat) (a1 : Int32)  (hk : ∀ (x0 : Int64) (xm : ev_M), frP P m0 xm → Fr (frP P m0) (k x0 xm)) : ∀ (n : Nat) (a2 : Int64) (a4 : Int32) (m : ev_M), frP P m0 m → Fr (frP P m0) (FX8_feature_L9 f k o0 a1 n a2 a4 m) := by
  intro n
  induction n with
  | zero => intros; exact Fr.none
  | succ n ih =>
    intro a2 a4 m hm_m
    rw [FX8_feature_L9]
    refine Fr.ite (fun _ => ?_) (fun _ => ?_)
    · exact hk _ _ hm_m
    · refine Fr.ite (fun _ => ?_) (fun _ => ?_)
      · exact hk _ _ hm_m
      · refine Fr.ite (fun _ => ?_) (fun _ => ?_)
        · exact ih _ _ _ hm_m
        · exact Fr.none
set_option maxRecDepth 100000 in
set_option maxHeartbeats 4000000 in
theorem FRX8_feature {P : Nat → Nat → Prop} {m0 : ev_M} (f : Nat) (o0 : Nat) (a1 : Int32) {m : ev_M}   (hm_m : frP P m0 m) : Fr (frP P m0) (FX8_feature f o0 a1 m) := by
  unfold FX8_feature
  exact FRX8_feature_L9 _ _ o0 _ ((by
  intro e1 m2 hm_m2
  exact Fr.ok hm_m2)) _ _ _ _ hm_m
set_option maxRecDepth 100000 in
set_option maxHeartbeats 4000000 in
theorem FRX9_begin {P : Nat → Nat → Prop} {m0 : ev_M} (f : Nat) (o1 : Nat) (a2 : Int32) {m : ev_M} (p15_1 : ¬ P 15 1) (p15_2 : ¬ P 15 2) (p15_3 : ¬ P 15 3) (p15_4 : ¬ P 15 4)  (hm_m : frP P m0 m) : Fr (frP P m0) (FX9_begin f o1 a2 m) := by
  unfold FX9_begin
  exact Fr.ok (frP_I p15_4 (frP_I p15_3 (frP_I p15_2 (frP_I p15_1 hm_m))))
set_option maxRecDepth 100000 in
set_option maxHeartbeats 4000000 in
theorem FRX9_closes {P : Nat → Nat → Prop} {m0 : ev_M} (f : Nat) {m : ev_M} (p15_3 : ¬ P 15 3)  (hm_m : frP P m0 m) : Fr (frP P m0) (FX9_closes f m) := by
  unfold FX9_closes
  exact Fr.ok (frP_I p15_3 hm_m)
set_option maxRecDepth 100000 in
set_option maxHeartbeats 4000000 in
theorem FRX9_put {P : Nat → Nat → Prop} {m0 : ev_M} (f : Nat) (a1 : Int32) {m : ev_M} (pD : ∀ o, (o = 5 ∨ o = 6 ∨ o = 11 ∨ o = 12 ∨ o = 23 ∨ o = 24) → ∀ k, ¬ P o k)  (hm_m : frP P m0 m) : Fr (frP P m0) (FX9_put f a1 m) := by
  unfold FX9_put
  refine Fr.ite (fun _ => ?_) (fun _ => ?_)
  · exact Fr.ok hm_m
  · refine Fr.ite (fun hk1 => ?_) (fun _ => ?_)
    · refine Fr.bd (FRX2_add _ ((m.1 15 1)).toNatClampNeg _ (pD _ (by have := kb2 hk1; omega) 1) (pD _ (by have := kb2 hk1; omega)) hm_m) (fun _ m3 hm_m3 => ?_)
      exact Fr.ok hm_m3
    · exact Fr.none
set_option maxRecDepth 100000 in
set_option maxHeartbeats 4000000 in
theorem FRX9_isValue {P : Nat → Nat → Prop} {m0 : ev_M} (f : Nat) (a1 : Int32) {m : ev_M}   (hm_m : frP P m0 m) : Fr (frP P m0) (FX9_isValue f a1 m) := by
  unfold FX9_isValue
  refine Fr.ite (fun _ => ?_) (fun _ => ?_)
  · exact Fr.ok hm_m
  · refine Fr.ite (fun _ => ?_) (fun _ => ?_)
    · exact Fr.ok hm_m
    · refine Fr.ite (fun _ => ?_) (fun _ => ?_)
      · refine Fr.ite (fun _ => ?_) (fun _ => ?_)
        · exact Fr.ok hm_m
        · exact Fr.ok hm_m
      · refine Fr.ite (fun _ => ?_) (fun _ => ?_)
        · refine Fr.ite (fun _ => ?_) (fun _ => ?_)
          · exact Fr.ok hm_m
          · exact Fr.ok hm_m
        · refine Fr.ite (fun _ => ?_) (fun _ => ?_)
          · exact Fr.ok hm_m
          · refine Fr.ite (fun _ => ?_) (fun _ => ?_)
            · refine Fr.ite (fun _ => ?_) (fun _ => ?_)
              · exact Fr.ok hm_m
              · exact Fr.ok hm_m
            · refine Fr.ite (fun _ => ?_) (fun _ => ?_)
              · refine Fr.ite (fun _ => ?_) (fun _ => ?_)
                · exact Fr.ok hm_m
                · exact Fr.ok hm_m
              · refine Fr.ite (fun _ => ?_) (fun _ => ?_)
                · refine Fr.ite (fun _ => ?_) (fun _ => ?_)
                  · exact Fr.ok hm_m
                  · exact Fr.ok hm_m
                · refine Fr.ite (fun _ => ?_) (fun _ => ?_)
                  · refine Fr.ite (fun _ => ?_) (fun _ => ?_)
                    · exact Fr.ok hm_m
                    · exact Fr.ok hm_m
                  · refine Fr.ite (fun _ => ?_) (fun _ => ?_)
                    · refine Fr.ite (fun _ => ?_) (fun _ => ?_)
                      · exact Fr.ok hm_m
                      · exact Fr.ok hm_m
                    · exact Fr.ok hm_m
set_option maxRecDepth 100000 in
set_option maxHeartbeats 4000000 in
theorem FRX10_hasRoom {P : Nat → Nat → Prop} {m0 : ev_M} (f : Nat) (a1 : Int32) {m : ev_M}   (hm_m : frP P m0 m) : Fr (frP P m0) (FX10_hasRoom f a1 m) := by
  unfold FX10_hasRoom
  refine Fr.ite (fun _ => ?_) (fun _ => ?_)
  · exact Fr.ok hm_m
  · exact Fr.ok hm_m
set_option maxRecDepth 100000 in
set_option maxHeartbeats 4000000 in
theorem FRX10_write {P : Nat → Nat → Prop} {m0 : ev_M} (f : Nat) (a1 : Int32) {m : ev_M} (p13_1 : ¬ P 13 1) (p14 : ∀ k, ¬ P 14 k)  (hm_m : frP P m0 m) : Fr (frP P m0) (FX10_write f a1 m) := by
  unfold FX10_write
  refine Fr.bd (FRX10_hasRoom _ _ hm_m) (fun r1 m2 hm_m2 => ?_)
  refine Fr.ite (fun _ => ?_) (fun _ => ?_)
  · exact Fr.ok hm_m2
  · refine Fr.ite (fun _ => ?_) (fun _ => ?_)
    · refine Fr.ite (fun _ => ?_) (fun _ => ?_)
      · refine Fr.ite (fun _ => ?_) (fun _ => ?_)
        · refine Fr.ite (fun _ => ?_) (fun _ => ?_)
          · exact Fr.ok (frP_I p13_1 (frP_I (p14 _) (frP_I (p14 _) (frP_I (p14 _) (frP_I (p14 _) hm_m2)))))
          · exact Fr.none
        · exact Fr.none
      · exact Fr.none
    · exact Fr.none
set_option maxRecDepth 100000 in
set_option maxHeartbeats 4000000 in
theorem FRX10_isGood {P : Nat → Nat → Prop} {m0 : ev_M} (f : Nat) {m : ev_M}   (hm_m : frP P m0 m) : Fr (frP P m0) (FX10_isGood f m) := by
  unfold FX10_isGood
  refine Fr.ite (fun _ => ?_) (fun _ => ?_)
  · exact Fr.ok hm_m
  · exact Fr.ok hm_m
set_option maxRecDepth 100000 in
set_option maxHeartbeats 4000000 in
theorem FRX10_fail {P : Nat → Nat → Prop} {m0 : ev_M} (f : Nat) (a1 : Int32) (a2 : Int32) {m : ev_M} (p13_3 : ¬ P 13 3) (p13_4 : ¬ P 13 4) (p13_5 : ¬ P 13 5)  (hm_m : frP P m0 m) : Fr (frP P m0) (FX10_fail f a1 a2 m) := by
  unfold FX10_fail
  refine Fr.ite (fun _ => ?_) (fun _ => ?_)
  · exact Fr.ok (frP_I p13_5 (frP_I p13_4 (frP_I p13_3 hm_m)))
  · exact Fr.ok (frP_I p13_5 hm_m)
set_option maxRecDepth 100000 in
set_option maxHeartbeats 4000000 in
theorem FRX10_skipBlanks_J44 {P : Nat → Nat → Prop} {m0 : ev_M} (f : Nat) (kt5 : ev_M → Option (Unit × ev_M)) {m : ev_M} (p13_2 : ¬ P 13 2) (hkt5 : ∀  (xm : ev_M), frP P m0 xm → Fr (frP P m0) (kt5 xm)) (hm_m : frP P m0 m) : Fr (frP P m0) (FX10_skipBlanks_J44 f kt5 m) := by
  unfold FX10_skipBlanks_J44
  exact hkt5 _ (frP_I p13_2 hm_m)
set_option maxRecDepth 100000 in
set_option maxHeartbeats 4000000 in
theorem FRX10_skipBlanks_L5 {P : Nat → Nat → Prop} {m0 : ev_M} (f : Nat) (k : ev_M → Option (Unit × ev_M)) (p13_2 : ¬ P 13 2) (hk : ∀  (xm : ev_M), frP P m0 xm → Fr (frP P m0) (k xm)) : ∀ (n : Nat)  (m : ev_M), frP P m0 m → Fr (frP P m0) (FX10_skipBlanks_L5 f k n m) := by
  intro n
  induction n with
  | zero => intros; exact Fr.none
  | succ n ih =>
    intro m hm_m
    rw [FX10_skipBlanks_L5]
    refine Fr.ite (fun _ => ?_) (fun _ => ?_)
    · exact hk _ hm_m
    · refine Fr.ite (fun _ => ?_) (fun _ => ?_)
      · refine Fr.ite (fun _ => ?_) (fun _ => ?_)
        · exact FRX10_skipBlanks_J44 _ _ p13_2 ih hm_m
        · refine Fr.ite (fun _ => ?_) (fun _ => ?_)
          · refine Fr.ite (fun _ => ?_) (fun _ => ?_)
            · exact FRX10_skipBlanks_J44 _ _ p13_2 ih hm_m
            · exact hk _ hm_m
          · exact Fr.none
      · exact Fr.none
set_option maxRecDepth 100000 in
set_option maxHeartbeats 4000000 in
theorem FRX10_skipBlanks {P : Nat → Nat → Prop} {m0 : ev_M} (f : Nat) (a1 : Int32) {m : ev_M} (p13_2 : ¬ P 13 2)  (hm_m : frP P m0 m) : Fr (frP P m0) (FX10_skipBlanks f a1 m) := by
  unfold FX10_skipBlanks
  exact FRX10_skipBlanks_L5 _ _ p13_2 ((by
  intro m1 hm_m1
  exact Fr.ok hm_m1)) _ _ (frP_I p13_2 hm_m)
set_option maxRecDepth 100000 in
set_option maxHeartbeats 4000000 in
theorem FRX10_kindAt {P : Nat → Nat → Prop} {m0 : ev_M} (f : Nat) (a1 : Int32) {m : ev_M}   (hm_m : frP P m0 m) : Fr (frP P m0) (FX10_kindAt f a1 m) := by
  unfold FX10_kindAt
  refine Fr.ite (fun _ => ?_) (fun _ => ?_)
  · exact Fr.ok hm_m
  · refine Fr.ite (fun _ => ?_) (fun _ => ?_)
    · refine Fr.ite (fun _ => ?_) (fun _ => ?_)
      · refine Fr.ite (fun _ => ?_) (fun _ => ?_)
        · refine Fr.ite (fun _ => ?_) (fun _ => ?_)
          · exact Fr.ok hm_m
          · refine Fr.ite (fun _ => ?_) (fun _ => ?_)
            · exact Fr.ok hm_m
            · exact Fr.ok hm_m
        · refine Fr.ite (fun _ => ?_) (fun _ => ?_)
          · refine Fr.ite (fun _ => ?_) (fun _ => ?_)
            · exact Fr.ok hm_m
            · refine Fr.ite (fun _ => ?_) (fun _ => ?_)
              · exact Fr.ok hm_m
              · exact Fr.ok hm_m
          · exact Fr.ok hm_m
      · exact Fr.none
    · exact Fr.ok hm_m
set_option maxRecDepth 100000 in
set_option maxHeartbeats 4000000 in
theorem FRX10_isLong {P : Nat → Nat → Prop} {m0 : ev_M} (f : Nat) {m : ev_M}   (hm_m : frP P m0 m) : Fr (frP P m0) (FX10_isLong f m) := by
  unfold FX10_isLong
  refine Fr.ite (fun _ => ?_) (fun _ => ?_)
  · exact Fr.ok hm_m
  · refine Fr.ite (fun _ => ?_) (fun _ => ?_)
    · exact Fr.ok hm_m
    · exact Fr.ok hm_m
set_option maxRecDepth 100000 in
set_option maxHeartbeats 4000000 in
theorem FRX10_wordHere_J60 {P : Nat → Nat → Prop} {m0 : ev_M} (f : Nat) (kt19 : Int32 → ev_M → Option (Int32 × ev_M)) (kt69 : Int32 → ev_M → Option (Int32 × ev_M)) (a2 : Int32) (s0 : Int32) (s1 : Int32) {m : ev_M}  (hkt19 : ∀ (x0 : Int32) (xm : ev_M), frP P m0 xm → Fr (frP P m0) (kt19 x0 xm)) (hkt69 : ∀ (x0 : Int32) (xm : ev_M), frP P m0 xm → Fr (frP P m0) (kt69 x0 xm)) (hm_m : frP P m0 m) : Fr (frP P m0) (FX10_wordHere_J60 f kt19 kt69 a2 s0 s1 m) := by
  unfold FX10_wordHere_J60
  refine Fr.ite (fun _ => ?_) (fun _ => ?_)
  · exact hkt19 _ _ hm_m
  · exact hkt69 _ _ hm_m
set_option maxRecDepth 100000 in
set_option maxHeartbeats 4000000 in
theorem FRX10_wordHere_L19 {P : Nat → Nat → Prop} {m0 : ev_M} (f : Nat) (k : Int32 → ev_M → Option (Int32 × ev_M)) (a1 : Int32)  (hk : ∀ (x0 : Int32) (xm : ev_M), frP P m0 xm → Fr (frP P m0) (k x0 xm)) : ∀ (n : Nat) (a2 : Int32) (m : ev_M), frP P m0 m → Fr (frP P m0) (FX10_wordHere_L19 f k a1 n a2 m) := by
  intro n
  induction n with
  | zero => intros; exact Fr.none
  | succ n ih =>
    intro a2 m hm_m
    rw [FX10_wordHere_L19]
    refine Fr.ite (fun _ => ?_) (fun _ => ?_)
    · exact hk _ _ hm_m
    · refine Fr.ite (fun _ => ?_) (fun _ => ?_)
      · refine Fr.ite (fun _ => ?_) (fun _ => ?_)
        · exact FRX10_wordHere_J60 _ _ _ _ _ _ ih hk hm_m
        · refine Fr.ite (fun _ => ?_) (fun _ => ?_)
          · exact FRX10_wordHere_J60 _ _ _ _ _ _ ih hk hm_m
          · exact Fr.none
      · exact Fr.none
set_option maxRecDepth 100000 in
set_option maxHeartbeats 4000000 in
theorem FRX10_wordHere_J69 {P : Nat → Nat → Prop} {m0 : ev_M} (f : Nat) (kt2 : Int32 → ev_M → Option (Int32 × ev_M)) (a1 : Int32) (a2 : Int32) {m : ev_M}  (hkt2 : ∀ (x0 : Int32) (xm : ev_M), frP P m0 xm → Fr (frP P m0) (kt2 x0 xm)) (hm_m : frP P m0 m) : Fr (frP P m0) (FX10_wordHere_J69 f kt2 a1 a2 m) := by
  unfold FX10_wordHere_J69
  refine Fr.ite (fun _ => ?_) (fun _ => ?_)
  · exact Fr.ok hm_m
  · exact hkt2 _ _ hm_m
set_option maxRecDepth 100000 in
set_option maxHeartbeats 4000000 in
theorem FRX10_wordHere_L2 {P : Nat → Nat → Prop} {m0 : ev_M} (f : Nat) (k : ev_M → Option (Int32 × ev_M))  (hk : ∀  (xm : ev_M), frP P m0 xm → Fr (frP P m0) (k xm)) : ∀ (n : Nat) (a1 : Int32) (m : ev_M), frP P m0 m → Fr (frP P m0) (FX10_wordHere_L2 f k n a1 m) := by
  intro n
  induction n with
  | zero => intros; exact Fr.none
  | succ n ih =>
    intro a1 m hm_m
    rw [FX10_wordHere_L2]
    refine Fr.ite (fun _ => ?_) (fun _ => ?_)
    · exact hk _ hm_m
    · refine Fr.ite (fun _ => ?_) (fun _ => ?_)
      · exact hk _ hm_m
      · exact FRX10_wordHere_L19 _ _ _ ((by
  intro e1 m2 hm_m2
  exact FRX10_wordHere_J69 _ _ _ _ ih hm_m2)) _ _ _ hm_m
set_option maxRecDepth 100000 in
set_option maxHeartbeats 4000000 in
theorem FRX10_wordHere {P : Nat → Nat → Prop} {m0 : ev_M} (f : Nat) {m : ev_M}   (hm_m : frP P m0 m) : Fr (frP P m0) (FX10_wordHere f m) := by
  unfold FX10_wordHere
  exact FRX10_wordHere_L2 _ _ ((by
  intro m3 hm_m3
  exact Fr.ok hm_m3)) _ _ _ hm_m
set_option maxRecDepth 100000 in
set_option maxHeartbeats 4000000 in
theorem FRX10_numberHere_L4 {P : Nat → Nat → Prop} {m0 : ev_M} (f : Nat) (k : Int32 → ev_M → Option (Int32 × ev_M))  (hk : ∀ (x0 : Int32) (xm : ev_M), frP P m0 xm → Fr (frP P m0) (k x0 xm)) : ∀ (n : Nat) (a1 : Int32) (a2 : Int32) (m : ev_M), frP P m0 m → Fr (frP P m0) (FX10_numberHere_L4 f k n a1 a2 m) := by
  intro n
  induction n with
  | zero => intros; exact Fr.none
  | succ n ih =>
    intro a1 a2 m hm_m
    rw [FX10_numberHere_L4]
    refine Fr.ite (fun _ => ?_) (fun _ => ?_)
    · exact hk _ _ hm_m
    · refine Fr.ite (fun _ => ?_) (fun _ => ?_)
      · exact hk _ _ hm_m
      · refine Fr.ite (fun _ => ?_) (fun _ => ?_)
        · exact ih _ _ _ hm_m
        · exact Fr.none
set_option maxRecDepth 100000 in
set_option maxHeartbeats 4000000 in
theorem FRX10_numberHere {P : Nat → Nat → Prop} {m0 : ev_M} (f : Nat) {m : ev_M}   (hm_m : frP P m0 m) : Fr (frP P m0) (FX10_numberHere f m) := by
  unfold FX10_numberHere
  exact FRX10_numberHere_L4 _ _ ((by
  intro e1 m2 hm_m2
  exact Fr.ok hm_m2)) _ _ _ _ hm_m
set_option maxRecDepth 100000 in
set_option maxHeartbeats 4000000 in
theorem FRX10_isEnd {P : Nat → Nat → Prop} {m0 : ev_M} (f : Nat) {m : ev_M}   (hm_m : frP P m0 m) : Fr (frP P m0) (FX10_isEnd f m) := by
  unfold FX10_isEnd
  refine Fr.ite (fun _ => ?_) (fun _ => ?_)
  · exact Fr.ok hm_m
  · exact Fr.ok hm_m
set_option maxRecDepth 100000 in
set_option maxHeartbeats 4000000 in
theorem FRX10_isNumber {P : Nat → Nat → Prop} {m0 : ev_M} (f : Nat) {m : ev_M}   (hm_m : frP P m0 m) : Fr (frP P m0) (FX10_isNumber f m) := by
  unfold FX10_isNumber
  refine Fr.ite (fun _ => ?_) (fun _ => ?_)
  · exact Fr.ok hm_m
  · exact Fr.ok hm_m
set_option maxRecDepth 100000 in
set_option maxHeartbeats 4000000 in
theorem FRX10_isSign {P : Nat → Nat → Prop} {m0 : ev_M} (f : Nat) (a1 : Int32) {m : ev_M}   (hm_m : frP P m0 m) : Fr (frP P m0) (FX10_isSign f a1 m) := by
  unfold FX10_isSign
  refine Fr.ite (fun _ => ?_) (fun _ => ?_)
  · refine Fr.ite (fun _ => ?_) (fun _ => ?_)
    · exact Fr.ok hm_m
    · exact Fr.ok hm_m
  · exact Fr.ok hm_m
set_option maxRecDepth 100000 in
set_option maxHeartbeats 4000000 in
theorem FRX10_isWord {P : Nat → Nat → Prop} {m0 : ev_M} (f : Nat) (a1 : Int32) {m : ev_M}   (hm_m : frP P m0 m) : Fr (frP P m0) (FX10_isWord f a1 m) := by
  unfold FX10_isWord
  refine Fr.ite (fun _ => ?_) (fun _ => ?_)
  · refine Fr.ite (fun _ => ?_) (fun _ => ?_)
    · exact Fr.ok hm_m
    · exact Fr.ok hm_m
  · exact Fr.ok hm_m
set_option maxRecDepth 100000 in
set_option maxHeartbeats 4000000 in
theorem FRX10_word {P : Nat → Nat → Prop} {m0 : ev_M} (f : Nat) {m : ev_M}   (hm_m : frP P m0 m) : Fr (frP P m0) (FX10_word f m) := by
  unfold FX10_word
  refine Fr.ite (fun _ => ?_) (fun _ => ?_)
  · exact Fr.ok hm_m
  · exact Fr.ok hm_m
set_option maxRecDepth 100000 in
set_option maxHeartbeats 4000000 in
theorem FRX10_checkName_J57 {P : Nat → Nat → Prop} {m0 : ev_M} (f : Nat) {m : ev_M}   (hm_m : frP P m0 m) : Fr (frP P m0) (FX10_checkName_J57 f m) := by
  unfold FX10_checkName_J57
  refine Fr.bd (FRX10_isGood _ hm_m) (fun r3 m4 hm_m4 => ?_)
  refine Fr.ite (fun _ => ?_) (fun _ => ?_)
  · exact Fr.ok hm_m4
  · exact Fr.none
set_option maxRecDepth 100000 in
set_option maxHeartbeats 4000000 in
theorem FRX10_checkName_J24 {P : Nat → Nat → Prop} {m0 : ev_M} (f : Nat) {m : ev_M} (p13_3 : ¬ P 13 3) (p13_4 : ¬ P 13 4) (p13_5 : ¬ P 13 5)  (hm_m : frP P m0 m) : Fr (frP P m0) (FX10_checkName_J24 f m) := by
  unfold FX10_checkName_J24
  refine Fr.bd (FRX10_fail _ _ _ p13_3 p13_4 p13_5 hm_m) (fun _ m2 hm_m2 => ?_)
  exact FRX10_checkName_J57 _ hm_m2
set_option maxRecDepth 100000 in
set_option maxHeartbeats 4000000 in
theorem FRX10_checkName_J36 {P : Nat → Nat → Prop} {m0 : ev_M} (f : Nat) {m : ev_M} (p13_3 : ¬ P 13 3) (p13_4 : ¬ P 13 4) (p13_5 : ¬ P 13 5)  (hm_m : frP P m0 m) : Fr (frP P m0) (FX10_checkName_J36 f m) := by
  unfold FX10_checkName_J36
  refine Fr.ite (fun _ => ?_) (fun _ => ?_)
  · exact FRX10_checkName_J57 _ hm_m
  · refine Fr.bd (FRX10_fail _ _ _ p13_3 p13_4 p13_5 hm_m) (fun _ m6 hm_m6 => ?_)
    exact FRX10_checkName_J57 _ hm_m6
set_option maxRecDepth 100000 in
set_option maxHeartbeats 4000000 in
theorem FRX10_checkName {P : Nat → Nat → Prop} {m0 : ev_M} (f : Nat) {m : ev_M} (p13_3 : ¬ P 13 3) (p13_4 : ¬ P 13 4) (p13_5 : ¬ P 13 5)  (hm_m : frP P m0 m) : Fr (frP P m0) (FX10_checkName f m) := by
  unfold FX10_checkName
  refine Fr.ite (fun _ => ?_) (fun _ => ?_)
  · refine Fr.ite (fun _ => ?_) (fun _ => ?_)
    · exact FRX10_checkName_J36 _ p13_3 p13_4 p13_5 hm_m
    · refine Fr.ite (fun _ => ?_) (fun _ => ?_)
      · exact FRX10_checkName_J36 _ p13_3 p13_4 p13_5 hm_m
      · exact FRX10_checkName_J24 _ p13_3 p13_4 p13_5 hm_m
  · exact FRX10_checkName_J24 _ p13_3 p13_4 p13_5 hm_m
set_option maxRecDepth 100000 in
set_option maxHeartbeats 4000000 in
theorem FRX10_nameLetter {P : Nat → Nat → Prop} {m0 : ev_M} (f : Nat) (a1 : Int32) {m : ev_M}   (hm_m : frP P m0 m) : Fr (frP P m0) (FX10_nameLetter f a1 m) := by
  unfold FX10_nameLetter
  refine Fr.ite (fun _ => ?_) (fun _ => ?_)
  · exact Fr.ok hm_m
  · refine Fr.ite (fun _ => ?_) (fun _ => ?_)
    · exact Fr.ok hm_m
    · refine Fr.ite (fun _ => ?_) (fun _ => ?_)
      · exact Fr.ok hm_m
      · refine Fr.ite (fun _ => ?_) (fun _ => ?_)
        · exact Fr.ok hm_m
        · exact Fr.none
set_option maxRecDepth 100000 in
set_option maxHeartbeats 4000000 in
theorem FRJ6_bitCount_0f7a4 {P : Nat → Nat → Prop} {m0 : ev_M} (f : Nat) (a0 : Int32) {m : ev_M}   (hm_m : frP P m0 m) : Fr (frP P m0) (FJ6_bitCount_0f7a4 f a0 m) := by
  unfold FJ6_bitCount_0f7a4
  exact Fr.ok hm_m
set_option maxRecDepth 100000 in
set_option maxHeartbeats 4000000 in
theorem FRJ9_floorDiv_7cf53 {P : Nat → Nat → Prop} {m0 : ev_M} (f : Nat) (a0 : Int32) (a1 : Int32) {m : ev_M}   (hm_m : frP P m0 m) : Fr (frP P m0) (FJ9_floorDiv_7cf53 f a0 a1 m) := by
  unfold FJ9_floorDiv_7cf53
  refine Fr.ite (fun _ => ?_) (fun _ => ?_)
  · exact Fr.none
  · refine Fr.ite (fun _ => ?_) (fun _ => ?_)
    · exact Fr.ok hm_m
    · refine Fr.ite (fun _ => ?_) (fun _ => ?_)
      · exact Fr.ok hm_m
      · exact Fr.ok hm_m
set_option maxRecDepth 100000 in
set_option maxHeartbeats 4000000 in
theorem FRJ9_max_7cf53 {P : Nat → Nat → Prop} {m0 : ev_M} (f : Nat) (a0 : Int32) (a1 : Int32) {m : ev_M}   (hm_m : frP P m0 m) : Fr (frP P m0) (FJ9_max_7cf53 f a0 a1 m) := by
  unfold FJ9_max_7cf53
  refine Fr.ite (fun _ => ?_) (fun _ => ?_)
  · exact Fr.ok hm_m
  · exact Fr.ok hm_m
set_option maxRecDepth 100000 in
set_option maxHeartbeats 4000000 in
theorem FRJ9_max_f86c9 {P : Nat → Nat → Prop} {m0 : ev_M} (f : Nat) (a0 : Int64) (a2 : Int64) {m : ev_M}   (hm_m : frP P m0 m) : Fr (frP P m0) (FJ9_max_f86c9 f a0 a2 m) := by
  unfold FJ9_max_f86c9
  refine Fr.ite (fun _ => ?_) (fun _ => ?_)
  · exact Fr.ok hm_m
  · exact Fr.ok hm_m
set_option maxRecDepth 100000 in
set_option maxHeartbeats 4000000 in
theorem FRJ9_min_7cf53 {P : Nat → Nat → Prop} {m0 : ev_M} (f : Nat) (a0 : Int32) (a1 : Int32) {m : ev_M}   (hm_m : frP P m0 m) : Fr (frP P m0) (FJ9_min_7cf53 f a0 a1 m) := by
  unfold FJ9_min_7cf53
  refine Fr.ite (fun _ => ?_) (fun _ => ?_)
  · exact Fr.ok hm_m
  · exact Fr.ok hm_m
set_option maxRecDepth 100000 in
set_option maxHeartbeats 4000000 in
theorem FRJ9_min_f86c9 {P : Nat → Nat → Prop} {m0 : ev_M} (f : Nat) (a0 : Int64) (a2 : Int64) {m : ev_M}   (hm_m : frP P m0 m) : Fr (frP P m0) (FJ9_min_f86c9 f a0 a2 m) := by
  unfold FJ9_min_f86c9
  refine Fr.ite (fun _ => ?_) (fun _ => ?_)
  · exact Fr.ok hm_m
  · exact Fr.ok hm_m
set_option maxRecDepth 100000 in
set_option maxHeartbeats 4000000 in
theorem FRX11_feed {P : Nat → Nat → Prop} {m0 : ev_M} (f : Nat) (a1 : Int32) (a2 : Int32) (a3 : Int32) (a4 : Int32) (a5 : Int32) {m : ev_M} (p13_1 : ¬ P 13 1) (p14 : ∀ k, ¬ P 14 k) (p109 : ∀ k, ¬ P 109 k)  (hm_m : frP P m0 m) : Fr (frP P m0) (FX11_feed f a1 a2 a3 a4 a5 m) := by
  unfold FX11_feed
  refine Fr.bd (FRX10_hasRoom _ _ hm_m) (fun r1 m2 hm_m2 => ?_)
  refine Fr.ite (fun _ => ?_) (fun _ => ?_)
  · refine Fr.bd (FRX11_refuse _ _ p109 hm_m2) (fun r13 m14 hm_m14 => ?_)
    exact Fr.ok hm_m14
  · refine Fr.bd (FRX10_write _ _ p13_1 p14 hm_m2) (fun _ m4 hm_m4 => ?_)
    refine Fr.bd (FRX10_write _ _ p13_1 p14 hm_m4) (fun _ m6 hm_m6 => ?_)
    refine Fr.bd (FRX10_write _ _ p13_1 p14 hm_m6) (fun _ m8 hm_m8 => ?_)
    refine Fr.bd (FRX10_write _ _ p13_1 p14 hm_m8) (fun _ m10 hm_m10 => ?_)
    refine Fr.bd (FRX10_write _ _ p13_1 p14 hm_m10) (fun _ m12 hm_m12 => ?_)
    exact Fr.ok hm_m12
set_option maxRecDepth 100000 in
set_option maxHeartbeats 4000000 in
theorem FRX11_end_J15 {P : Nat → Nat → Prop} {m0 : ev_M} (f : Nat) {m : ev_M} (p109 : ∀ k, ¬ P 109 k)  (hm_m : frP P m0 m) : Fr (frP P m0) (FX11_end_J15 f m) := by
  unfold FX11_end_J15
  refine Fr.bd (FRX11_refuse _ _ p109 hm_m) (fun r1 m2 hm_m2 => ?_)
  refine Fr.ite (fun _ => ?_) (fun _ => ?_)
  · exact Fr.ok hm_m2
  · exact Fr.none
set_option maxRecDepth 100000 in
set_option maxHeartbeats 4000000 in
theorem FRX11_end {P : Nat → Nat → Prop} {m0 : ev_M} (f : Nat) (a1 : Int32) {m : ev_M} (p13_1 : ¬ P 13 1) (p109 : ∀ k, ¬ P 109 k)  (hm_m : frP P m0 m) : Fr (frP P m0) (FX11_end f a1 m) := by
  unfold FX11_end
  refine Fr.ite (fun _ => ?_) (fun _ => ?_)
  · exact FRX11_end_J15 _ p109 hm_m
  · refine Fr.ite (fun _ => ?_) (fun _ => ?_)
    · exact Fr.ok (frP_I p13_1 hm_m)
    · exact FRX11_end_J15 _ p109 hm_m
set_option maxRecDepth 100000 in
set_option maxHeartbeats 4000000 in
theorem FRX11_has {P : Nat → Nat → Prop} {m0 : ev_M} (f : Nat) (a1 : Int32) {m : ev_M}   (hm_m : frP P m0 m) : Fr (frP P m0) (FX11_has f a1 m) := by
  unfold FX11_has
  refine Fr.ite (fun _ => ?_) (fun _ => ?_)
  · refine Fr.ite (fun hk1 => ?_) (fun _ => ?_)
    · exact Fr.ok hm_m
    · exact Fr.none
  · refine Fr.ite (fun _ => ?_) (fun _ => ?_)
    · exact Fr.ok hm_m
    · refine Fr.ite (fun _ => ?_) (fun _ => ?_)
      · refine Fr.bd (FRX11_isTold _ hm_m) (fun r4 m5 hm_m5 => ?_)
        refine Fr.ite (fun _ => ?_) (fun _ => ?_)
        · exact Fr.ok hm_m5
        · exact Fr.ok hm_m5
      · refine Fr.ite (fun _ => ?_) (fun _ => ?_)
        · refine Fr.bd (FRJ6_bitCount_0f7a4 _ _ hm_m) (fun r7 m8 hm_m8 => ?_)
          exact Fr.ok hm_m8
        · refine Fr.ite (fun _ => ?_) (fun _ => ?_)
          · refine Fr.bd (FRX11_moodsTogether _ hm_m) (fun r10 m11 hm_m11 => ?_)
            exact Fr.ok hm_m11
          · refine Fr.ite (fun _ => ?_) (fun _ => ?_)
            · refine Fr.bd (FRJ9_min_7cf53 _ _ _ hm_m) (fun r13 m14 hm_m14 => ?_)
              exact Fr.ok hm_m14
            · refine Fr.ite (fun _ => ?_) (fun _ => ?_)
              · exact Fr.ok hm_m
              · refine Fr.ite (fun _ => ?_) (fun _ => ?_)
                · exact Fr.ok hm_m
                · exact Fr.ok hm_m
set_option maxRecDepth 100000 in
set_option maxHeartbeats 4000000 in
theorem FRX11_letter {P : Nat → Nat → Prop} {m0 : ev_M} (f : Nat) (a1 : Int32) (a2 : Int32) {m : ev_M}   (hm_m : frP P m0 m) : Fr (frP P m0) (FX11_letter f a1 a2 m) := by
  unfold FX11_letter
  refine Fr.bd (FRX11_isTower _ _ hm_m) (fun r1 m2 hm_m2 => ?_)
  refine Fr.ite (fun _ => ?_) (fun _ => ?_)
  · exact Fr.ok hm_m2
  · refine Fr.ite (fun _ => ?_) (fun _ => ?_)
    · exact Fr.ok hm_m2
    · refine Fr.ite (fun _ => ?_) (fun _ => ?_)
      · refine Fr.ite (fun hk1 => ?_) (fun _ => ?_)
        · refine Fr.ite (fun _ => ?_) (fun _ => ?_)
          · exact Fr.ok hm_m2
          · exact Fr.none
        · exact Fr.none
      · exact Fr.ok hm_m2
set_option maxRecDepth 100000 in
set_option maxHeartbeats 4000000 in
theorem FRX11_tower {P : Nat → Nat → Prop} {m0 : ev_M} (f : Nat) (a1 : Int32) (a2 : Int32) {m : ev_M}   (hm_m : frP P m0 m) : Fr (frP P m0) (FX11_tower f a1 a2 m) := by
  unfold FX11_tower
  refine Fr.bd (FRX11_isTower _ _ hm_m) (fun r1 m2 hm_m2 => ?_)
  refine Fr.ite (fun _ => ?_) (fun _ => ?_)
  · exact Fr.ok hm_m2
  · refine Fr.ite (fun _ => ?_) (fun _ => ?_)
    · refine Fr.ite (fun _ => ?_) (fun _ => ?_)
      · exact Fr.ok hm_m2
      · exact Fr.none
    · refine Fr.ite (fun _ => ?_) (fun _ => ?_)
      · refine Fr.ite (fun _ => ?_) (fun _ => ?_)
        · exact Fr.ok hm_m2
        · exact Fr.none
      · refine Fr.ite (fun _ => ?_) (fun _ => ?_)
        · exact Fr.ok hm_m2
        · exact Fr.ok hm_m2
set_option maxRecDepth 100000 in
set_option maxHeartbeats 4000000 in
theorem FRX11_kept {P : Nat → Nat → Prop} {m0 : ev_M} (f : Nat) (a1 : Int32) (a2 : Int32) {m : ev_M}   (hm_m : frP P m0 m) : Fr (frP P m0) (FX11_kept f a1 a2 m) := by
  unfold FX11_kept
  refine Fr.bd (FRJ9_min_7cf53 _ _ _ hm_m) (fun r1 m2 hm_m2 => ?_)
  refine Fr.ite (fun _ => ?_) (fun _ => ?_)
  · exact Fr.ok hm_m2
  · refine Fr.ite (fun _ => ?_) (fun _ => ?_)
    · exact Fr.ok hm_m2
    · refine Fr.ite (fun _ => ?_) (fun _ => ?_)
      · exact Fr.ok hm_m2
      · refine Fr.ite (fun _ => ?_) (fun _ => ?_)
        · refine Fr.bd (FRX6_fireOf _ _ _ hm_m2) (fun r3 m4 hm_m4 => ?_)
          exact Fr.ok hm_m4
        · exact Fr.ok hm_m2
set_option maxRecDepth 100000 in
set_option maxHeartbeats 4000000 in
theorem FRX11_see {P : Nat → Nat → Prop} {m0 : ev_M} (f : Nat) {m : ev_M} (p13_1 : ¬ P 13 1) (p33_6 : ¬ P 33 6) (p37 : ∀ k, ¬ P 37 k) (p109 : ∀ k, ¬ P 109 k)  (hm_m : frP P m0 m) : Fr (frP P m0) (FX11_see f m) := by
  unfold FX11_see
  refine Fr.ite (fun hk1 => ?_) (fun _ => ?_)
  · refine Fr.bd (FRX4_look _ _ p33_6 p37 hm_m) (fun r2 m3 hm_m3 => ?_)
    refine Fr.ite (fun _ => ?_) (fun _ => ?_)
    · refine Fr.bd (FRX11_refuse _ _ p109 (frP_I p13_1 hm_m3)) (fun r4 m5 hm_m5 => ?_)
      exact Fr.ok hm_m5
    · exact Fr.ok (frP_I p13_1 hm_m3)
  · exact Fr.none
set_option maxRecDepth 100000 in
set_option maxHeartbeats 4000000 in
theorem FRX11_seed {P : Nat → Nat → Prop} {m0 : ev_M} (f : Nat) (a1 : Int32) {m : ev_M} (p0_17 : ¬ P 0 17) (p109 : ∀ k, ¬ P 109 k)  (hm_m : frP P m0 m) : Fr (frP P m0) (FX11_seed f a1 m) := by
  unfold FX11_seed
  refine Fr.ite (fun _ => ?_) (fun _ => ?_)
  · exact Fr.ok (frP_L p0_17 hm_m)
  · refine Fr.bd (FRX11_refuse _ _ p109 hm_m) (fun r1 m2 hm_m2 => ?_)
    refine Fr.ite (fun _ => ?_) (fun _ => ?_)
    · exact Fr.ok hm_m2
    · exact Fr.none
set_option maxRecDepth 100000 in
set_option maxHeartbeats 4000000 in
theorem FRX11_image_L50 {P : Nat → Nat → Prop} {m0 : ev_M} (f : Nat) (k : Int32 → ev_M → Option (Int32 × ev_M)) (p110 : ∀ k, ¬ P 110 k) (hk : ∀ (x0 : Int32) (xm : ev_M), frP P m0 xm → Fr (frP P m0) (k x0 xm)) : ∀ (n : Nat) (a1 : Int32) (a2 : Int32) (m : ev_M), frP P m0 m → Fr (frP P m0) (FX11_image_L50 f k n a1 a2 m) := by
  intro n
  induction n with
  | zero => intros; exact Fr.none
  | succ n ih =>
    intro a1 a2 m hm_m
    rw [FX11_image_L50]
    refine Fr.ite (fun hk1 => ?_) (fun _ => ?_)
    · refine Fr.ite (fun _ => ?_) (fun _ => ?_)
      · exact hk _ _ hm_m
      · refine Fr.ite (fun _ => ?_) (fun _ => ?_)
        · refine Fr.ite (fun _ => ?_) (fun _ => ?_)
          · refine Fr.ite (fun _ => ?_) (fun _ => ?_)
            · refine Fr.ite (fun _ => ?_) (fun _ => ?_)
              · refine Fr.ite (fun _ => ?_) (fun _ => ?_)
                · exact ih _ _ _ (frP_I (p110 _) (frP_I (p110 _) (frP_I (p110 _) hm_m)))
                · exact Fr.none
              · exact Fr.none
            · exact Fr.none
          · exact Fr.none
        · exact Fr.none
    · exact Fr.none
set_option maxRecDepth 100000 in
set_option maxHeartbeats 4000000 in
theorem FRX11_image {P : Nat → Nat → Prop} {m0 : ev_M} (f : Nat) {m : ev_M} (p0_14 : ¬ P 0 14) (p110 : ∀ k, ¬ P 110 k)  (hm_m : frP P m0 m) : Fr (frP P m0) (FX11_image f m) := by
  unfold FX11_image
  exact FRX11_image_L50 _ _ p110 ((by
  intro e2 m3 hm_m3
  refine Fr.bd (FRX11_checkOf _ 110 _ hm_m3) (fun r4 m5 hm_m5 => ?_)
  refine Fr.ite (fun _ => ?_) (fun _ => ?_)
  · exact Fr.ok (frP_I p0_14 (frP_I (p110 _) hm_m5))
  · exact Fr.none)) _ _ _ _ (frP_I (p110 2) (frP_I (p110 1) (frP_I (p110 0) hm_m)))
set_option maxRecDepth 100000 in
set_option maxHeartbeats 4000000 in
theorem FRX11_on_J28 {P : Nat → Nat → Prop} {m0 : ev_M} (f : Nat) (a1 : Int32) {m : ev_M} (p13_1 : ¬ P 13 1) (p109 : ∀ k, ¬ P 109 k)  (hm_m : frP P m0 m) : Fr (frP P m0) (FX11_on_J28 f a1 m) := by
  unfold FX11_on_J28
  refine Fr.ite (fun _ => ?_) (fun _ => ?_)
  · refine Fr.bd (FRX11_refuse _ _ p109 (frP_I p13_1 hm_m)) (fun r3 m4 hm_m4 => ?_)
    refine Fr.ite (fun _ => ?_) (fun _ => ?_)
    · exact Fr.ok hm_m4
    · exact Fr.ok hm_m4
  · exact Fr.ok (frP_I p13_1 hm_m)
set_option maxRecDepth 100000 in
set_option maxHeartbeats 4000000 in
theorem FRX11_on_J19 {P : Nat → Nat → Prop} {m0 : ev_M} (f : Nat) (s0 : Int32) {m : ev_M} (p13_1 : ¬ P 13 1) (p40_3 : ¬ P 40 3) (p103_2 : ¬ P 103 2) (p103_3 : ¬ P 103 3) (p103_4 : ¬ P 103 4) (p103_5 : ¬ P 103 5) (p104 : ∀ k, ¬ P 104 k) (p105 : ∀ k, ¬ P 105 k) (p109 : ∀ k, ¬ P 109 k)  (hm_m : frP P m0 m) : Fr (frP P m0) (FX11_on_J19 f s0 m) := by
  unfold FX11_on_J19
  refine Fr.ite (fun _ => ?_) (fun _ => ?_)
  · exact FRX11_on_J28 _ _ p13_1 p109 hm_m
  · refine Fr.bd (FRX11_takePicture _ p40_3 p103_2 p103_3 p103_4 p103_5 p104 p105 hm_m) (fun _ m6 hm_m6 => ?_)
    exact FRX11_on_J28 _ _ p13_1 p109 hm_m6
set_option maxRecDepth 100000 in
set_option maxHeartbeats 4000000 in
theorem FRX11_on_J18 {P : Nat → Nat → Prop} {m0 : ev_M} (f : Nat) {m : ev_M} (p13_1 : ¬ P 13 1) (p40_3 : ¬ P 40 3) (p103_2 : ¬ P 103 2) (p103_3 : ¬ P 103 3) (p103_4 : ¬ P 103 4) (p103_5 : ¬ P 103 5) (p104 : ∀ k, ¬ P 104 k) (p105 : ∀ k, ¬ P 105 k) (p109 : ∀ k, ¬ P 109 k)  (hm_m : frP P m0 m) : Fr (frP P m0) (FX11_on_J18 f m) := by
  unfold FX11_on_J18
  exact FRX11_on_J19 _ _ p13_1 p40_3 p103_2 p103_3 p103_4 p103_5 p104 p105 p109 hm_m
set_option maxRecDepth 100000 in
set_option maxHeartbeats 4000000 in
theorem FRX11_on {P : Nat → Nat → Prop} {m0 : ev_M} (f : Nat) {m : ev_M} (p13_1 : ¬ P 13 1) (p40_3 : ¬ P 40 3) (p103_2 : ¬ P 103 2) (p103_3 : ¬ P 103 3) (p103_4 : ¬ P 103 4) (p103_5 : ¬ P 103 5) (p104 : ∀ k, ¬ P 104 k) (p105 : ∀ k, ¬ P 105 k) (p109 : ∀ k, ¬ P 109 k)  (hm_m : frP P m0 m) : Fr (frP P m0) (FX11_on f m) := by
  unfold FX11_on
  refine Fr.bd (FRX11_isTold _ hm_m) (fun r1 m2 hm_m2 => ?_)
  refine Fr.ite (fun _ => ?_) (fun _ => ?_)
  · exact FRX11_on_J18 _ p13_1 p40_3 p103_2 p103_3 p103_4 p103_5 p104 p105 p109 hm_m2
  · refine Fr.bd (FRX11_isPicture _ hm_m2) (fun r7 m8 hm_m8 => ?_)
    refine Fr.ite (fun _ => ?_) (fun _ => ?_)
    · exact FRX11_on_J18 _ p13_1 p40_3 p103_2 p103_3 p103_4 p103_5 p104 p105 p109 hm_m8
    · exact FRX11_on_J19 _ _ p13_1 p40_3 p103_2 p103_3 p103_4 p103_5 p104 p105 p109 hm_m8
set_option maxRecDepth 100000 in
set_option maxHeartbeats 4000000 in
theorem FRX11_catchCold {P : Nat → Nat → Prop} {m0 : ev_M} (f : Nat) {m : ev_M} (p0_17 : ¬ P 0 17) (p104 : ∀ k, ¬ P 104 k)  (hm_m : frP P m0 m) : Fr (frP P m0) (FX11_catchCold f m) := by
  unfold FX11_catchCold
  refine Fr.bd (FRX11_draw _ _ p0_17 hm_m) (fun r1 m2 hm_m2 => ?_)
  refine Fr.ite (fun hk1 => ?_) (fun _ => ?_)
  · refine Fr.ite (fun _ => ?_) (fun _ => ?_)
    · exact Fr.ok hm_m2
    · refine Fr.ite (fun _ => ?_) (fun _ => ?_)
      · exact Fr.ok hm_m2
      · refine Fr.bd (FRX11_draw _ _ p0_17 hm_m2) (fun r4 m5 hm_m5 => ?_)
        refine Fr.ite (fun _ => ?_) (fun _ => ?_)
        · refine Fr.bd (FRJ9_max_7cf53 _ _ _ hm_m5) (fun r6 m7 hm_m7 => ?_)
          refine Fr.ite (fun _ => ?_) (fun _ => ?_)
          · exact Fr.ok (frP_I (p104 _) hm_m7)
          · exact Fr.none
        · exact Fr.none
  · exact Fr.none
set_option maxRecDepth 100000 in
set_option maxHeartbeats 4000000 in
theorem FRX1_addUntoldSums_J91 {P : Nat → Nat → Prop} {m0 : ev_M} (f : Nat) (o0 : Nat) {m : ev_M} (q_o0_0_13 : ¬ P o0 13) (q_o0_0_14 : ¬ P o0 14) (q_o0_4_1 : ¬ P (o0 + 4) 1) (q_o0_5 : ∀ k, ¬ P (o0 + 5) k)  (hm_m : frP P m0 m) : Fr (frP P m0) (FX1_addUntoldSums_J91 f o0 m) := by
  unfold FX1_addUntoldSums_J91
  refine Fr.bd (FRX1_hasFeels _ o0 hm_m) (fun r3 m4 hm_m4 => ?_)
  refine Fr.ite (fun _ => ?_) (fun _ => ?_)
  · refine Fr.bd (FRX2_add _ (o0 + 4) _ q_o0_4_1 q_o0_5 (frP_I q_o0_0_13 hm_m4)) (fun _ m6 hm_m6 => ?_)
    exact Fr.ok (frP_I q_o0_0_14 hm_m6)
  · exact Fr.ok hm_m4
set_option maxRecDepth 100000 in
set_option maxHeartbeats 4000000 in
theorem FRX1_addUntoldSums {P : Nat → Nat → Prop} {m0 : ev_M} (f : Nat) (o0 : Nat) {m : ev_M} (q_o0_0_11 : ¬ P o0 11) (q_o0_0_12 : ¬ P o0 12) (q_o0_0_13 : ¬ P o0 13) (q_o0_0_14 : ¬ P o0 14) (q_o0_4_1 : ¬ P (o0 + 4) 1) (q_o0_5 : ∀ k, ¬ P (o0 + 5) k)  (hm_m : frP P m0 m) : Fr (frP P m0) (FX1_addUntoldSums f o0 m) := by
  unfold FX1_addUntoldSums
  refine Fr.bd (FRX1_hasSays _ o0 hm_m) (fun r1 m2 hm_m2 => ?_)
  refine Fr.ite (fun _ => ?_) (fun _ => ?_)
  · refine Fr.bd (FRX2_add _ (o0 + 4) _ q_o0_4_1 q_o0_5 (frP_I q_o0_0_11 hm_m2)) (fun _ m8 hm_m8 => ?_)
    refine Fr.bd (FRX2_add _ (o0 + 4) _ q_o0_4_1 q_o0_5 hm_m8) (fun _ m10 hm_m10 => ?_)
    refine Fr.bd (FRX2_add _ (o0 + 4) _ q_o0_4_1 q_o0_5 hm_m10) (fun _ m12 hm_m12 => ?_)
    refine Fr.bd (FRX2_add _ (o0 + 4) _ q_o0_4_1 q_o0_5 hm_m12) (fun _ m14 hm_m14 => ?_)
    refine Fr.bd (FRX2_add _ (o0 + 4) _ q_o0_4_1 q_o0_5 hm_m14) (fun _ m16 hm_m16 => ?_)
    refine Fr.bd (FRX2_add _ (o0 + 4) _ q_o0_4_1 q_o0_5 hm_m16) (fun _ m18 hm_m18 => ?_)
    refine Fr.bd (FRX2_add _ (o0 + 4) _ q_o0_4_1 q_o0_5 hm_m18) (fun _ m20 hm_m20 => ?_)
    exact FRX1_addUntoldSums_J91 _ o0 q_o0_0_13 q_o0_0_14 q_o0_4_1 q_o0_5 (frP_I q_o0_0_12 hm_m20)
  · exact FRX1_addUntoldSums_J91 _ o0 q_o0_0_13 q_o0_0_14 q_o0_4_1 q_o0_5 hm_m2
set_option maxRecDepth 100000 in
set_option maxHeartbeats 4000000 in
theorem FRX1_find_J52 {P : Nat → Nat → Prop} {m0 : ev_M} (f : Nat) (kt15 : Int32 → Int32 → ev_M → Option (Int32 × ev_M)) (a4 : Int32) (s0 : Int32) {m : ev_M}  (hkt15 : ∀ (x0 : Int32) (x1 : Int32) (xm : ev_M), frP P m0 xm → Fr (frP P m0) (kt15 x0 x1 xm)) (hm_m : frP P m0 m) : Fr (frP P m0) (FX1_find_J52 f kt15 a4 s0 m) := by
  unfold FX1_find_J52
  exact hkt15 _ _ _ hm_m
set_option maxRecDepth 100000 in
set_option maxHeartbeats 4000000 in
theorem FRX1_find_J51 {P : Nat → Nat → Prop} {m0 : ev_M} (f : Nat) (kt15 : Int32 → Int32 → ev_M → Option (Int32 × ev_M)) (a4 : Int32) {m : ev_M}  (hkt15 : ∀ (x0 : Int32) (x1 : Int32) (xm : ev_M), frP P m0 xm → Fr (frP P m0) (kt15 x0 x1 xm)) (hm_m : frP P m0 m) : Fr (frP P m0) (FX1_find_J51 f kt15 a4 m) := by
  unfold FX1_find_J51
  exact FRX1_find_J52 _ _ _ _ hkt15 hm_m
set_option maxRecDepth 100000 in
set_option maxHeartbeats 4000000 in
theorem FRX1_find_L15 {P : Nat → Nat → Prop} {m0 : ev_M} (f : Nat) (k : Int32 → ev_M → Option (Int32 × ev_M)) (o0 : Nat) (a2 : Int32)  (hk : ∀ (x0 : Int32) (xm : ev_M), frP P m0 xm → Fr (frP P m0) (k x0 xm)) : ∀ (n : Nat) (a3 : Int32) (a4 : Int32) (m : ev_M), frP P m0 m → Fr (frP P m0) (FX1_find_L15 f k o0 a2 n a3 a4 m) := by
  intro n
  induction n with
  | zero => intros; exact Fr.none
  | succ n ih =>
    intro a3 a4 m hm_m
    rw [FX1_find_L15]
    refine Fr.ite (fun _ => ?_) (fun _ => ?_)
    · exact hk _ _ hm_m
    · refine Fr.ite (fun _ => ?_) (fun _ => ?_)
      · exact FRX1_find_J51 _ _ _ ih hm_m
      · refine Fr.ite (fun _ => ?_) (fun _ => ?_)
        · refine Fr.bd (FRX10_nameLetter _ _ hm_m) (fun r1 m2 hm_m2 => ?_)
          refine Fr.ite (fun _ => ?_) (fun _ => ?_)
          · exact FRX1_find_J52 _ _ _ _ ih hm_m2
          · exact FRX1_find_J51 _ _ _ ih hm_m2
        · exact Fr.none
set_option maxRecDepth 100000 in
set_option maxHeartbeats 4000000 in
theorem FRX1_find_L2 {P : Nat → Nat → Prop} {m0 : ev_M} (f : Nat) (k : ev_M → Option (Int32 × ev_M)) (o0 : Nat)  (hk : ∀  (xm : ev_M), frP P m0 xm → Fr (frP P m0) (k xm)) : ∀ (n : Nat) (a2 : Int32) (m : ev_M), frP P m0 m → Fr (frP P m0) (FX1_find_L2 f k o0 n a2 m) := by
  intro n
  induction n with
  | zero => intros; exact Fr.none
  | succ n ih =>
    intro a2 m hm_m
    rw [FX1_find_L2]
    refine Fr.ite (fun _ => ?_) (fun _ => ?_)
    · exact hk _ hm_m
    · exact FRX1_find_L15 _ _ o0 _ ((by
  intro e3 m4 hm_m4
  refine Fr.ite (fun _ => ?_) (fun _ => ?_)
  · exact ih _ _ hm_m4
  · exact Fr.ok hm_m4)) _ _ _ _ hm_m
set_option maxRecDepth 100000 in
set_option maxHeartbeats 4000000 in
theorem FRX1_find {P : Nat → Nat → Prop} {m0 : ev_M} (f : Nat) (o0 : Nat) {m : ev_M}   (hm_m : frP P m0 m) : Fr (frP P m0) (FX1_find f o0 m) := by
  unfold FX1_find
  exact FRX1_find_L2 _ _ o0 ((by
  intro m5 hm_m5
  exact Fr.ok hm_m5)) _ _ _ hm_m
set_option maxRecDepth 100000 in
set_option maxHeartbeats 4000000 in
theorem FRX3_graded {P : Nat → Nat → Prop} {m0 : ev_M} (f : Nat) (a0 : Int32) {m : ev_M}   (hm_m : frP P m0 m) : Fr (frP P m0) (FX3_graded f a0 m) := by
  unfold FX3_graded
  refine Fr.bd (FRJ9_min_7cf53 _ _ _ hm_m) (fun r1 m2 hm_m2 => ?_)
  refine Fr.bd (FRJ9_max_7cf53 _ _ _ hm_m2) (fun r3 m4 hm_m4 => ?_)
  exact Fr.ok hm_m4
set_option maxRecDepth 100000 in
set_option maxHeartbeats 4000000 in
theorem FRX3_doubtfulOnes {P : Nat → Nat → Prop} {m0 : ev_M} (f : Nat) {m : ev_M}   (hm_m : frP P m0 m) : Fr (frP P m0) (FX3_doubtfulOnes f m) := by
  unfold FX3_doubtfulOnes
  refine Fr.bd (FRJ6_bitCount_0f7a4 _ _ hm_m) (fun r1 m2 hm_m2 => ?_)
  exact Fr.ok hm_m2
set_option maxRecDepth 100000 in
set_option maxHeartbeats 4000000 in
theorem FRX3_isFire {P : Nat → Nat → Prop} {m0 : ev_M} (f : Nat) {m : ev_M}   (hm_m : frP P m0 m) : Fr (frP P m0) (FX3_isFire f m) := by
  unfold FX3_isFire
  refine Fr.ite (fun hk1 => ?_) (fun _ => ?_)
  · refine Fr.bd (FRX3_rowOf _ _ hm_m) (fun r2 m3 hm_m3 => ?_)
    refine Fr.ite (fun _ => ?_) (fun _ => ?_)
    · exact Fr.ok hm_m3
    · exact Fr.ok hm_m3
  · exact Fr.none
set_option maxRecDepth 100000 in
set_option maxHeartbeats 4000000 in
theorem FRX4_farthestSeen_L4 {P : Nat → Nat → Prop} {m0 : ev_M} (f : Nat) (k : Int32 → ev_M → Option (Int32 × ev_M))  (hk : ∀ (x0 : Int32) (xm : ev_M), frP P m0 xm → Fr (frP P m0) (k x0 xm)) : ∀ (n : Nat) (a1 : Int32) (a2 : Int32) (m : ev_M), frP P m0 m → Fr (frP P m0) (FX4_farthestSeen_L4 f k n a1 a2 m) := by
  intro n
  induction n with
  | zero => intros; exact Fr.none
  | succ n ih =>
    intro a1 a2 m hm_m
    rw [FX4_farthestSeen_L4]
    refine Fr.ite (fun _ => ?_) (fun _ => ?_)
    · exact hk _ _ hm_m
    · refine Fr.ite (fun _ => ?_) (fun _ => ?_)
      · exact hk _ _ hm_m
      · refine Fr.ite (fun _ => ?_) (fun _ => ?_)
        · refine Fr.bd (FRJ9_max_7cf53 _ _ _ hm_m) (fun r1 m2 hm_m2 => ?_)
          exact ih _ _ _ hm_m2
        · exact Fr.none
set_option maxRecDepth 100000 in
set_option maxHeartbeats 4000000 in
theorem FRX4_farthestSeen {P : Nat → Nat → Prop} {m0 : ev_M} (f : Nat) {m : ev_M}   (hm_m : frP P m0 m) : Fr (frP P m0) (FX4_farthestSeen f m) := by
  unfold FX4_farthestSeen
  exact FRX4_farthestSeen_L4 _ _ ((by
  intro e3 m4 hm_m4
  exact Fr.ok hm_m4)) _ _ _ _ hm_m
set_option maxRecDepth 100000 in
set_option maxHeartbeats 4000000 in
theorem FRX4_mostAlike_L6 {P : Nat → Nat → Prop} {m0 : ev_M} (f : Nat) (k : ev_M → Option (Int32 × ev_M)) (p39 : ∀ k, ¬ P 39 k) (hk : ∀  (xm : ev_M), frP P m0 xm → Fr (frP P m0) (k xm)) : ∀ (n : Nat) (a5 : Int32) (m : ev_M), frP P m0 m → Fr (frP P m0) (FX4_mostAlike_L6 f k n a5 m) := by
  intro n
  induction n with
  | zero => intros; exact Fr.none
  | succ n ih =>
    intro a5 m hm_m
    rw [FX4_mostAlike_L6]
    refine Fr.ite (fun _ => ?_) (fun _ => ?_)
    · exact hk _ hm_m
    · refine Fr.ite (fun _ => ?_) (fun _ => ?_)
      · exact ih _ _ (frP_I (p39 _) hm_m)
      · exact Fr.none
set_option maxRecDepth 100000 in
set_option maxHeartbeats 4000000 in
theorem FRX4_mostAlike_J86 {P : Nat → Nat → Prop} {m0 : ev_M} (f : Nat) (kt30 : Int32 → Int32 → ev_M → Option (Int32 × ev_M)) (a4 : Int32) (a5 : Int32) {m : ev_M}  (hkt30 : ∀ (x0 : Int32) (x1 : Int32) (xm : ev_M), frP P m0 xm → Fr (frP P m0) (kt30 x0 x1 xm)) (hm_m : frP P m0 m) : Fr (frP P m0) (FX4_mostAlike_J86 f kt30 a4 a5 m) := by
  unfold FX4_mostAlike_J86
  exact hkt30 _ _ _ hm_m
set_option maxRecDepth 100000 in
set_option maxHeartbeats 4000000 in
theorem FRX4_mostAlike_L30 {P : Nat → Nat → Prop} {m0 : ev_M} (f : Nat) (k : Int32 → ev_M → Option (Int32 × ev_M)) (a1 : Int32) (a2 : Int32) (a3 : Int32) (p39 : ∀ k, ¬ P 39 k) (hk : ∀ (x0 : Int32) (xm : ev_M), frP P m0 xm → Fr (frP P m0) (k x0 xm)) : ∀ (n : Nat) (a4 : Int32) (a5 : Int32) (m : ev_M), frP P m0 m → Fr (frP P m0) (FX4_mostAlike_L30 f k a1 a2 a3 n a4 a5 m) := by
  intro n
  induction n with
  | zero => intros; exact Fr.none
  | succ n ih =>
    intro a4 a5 m hm_m
    rw [FX4_mostAlike_L30]
    refine Fr.ite (fun _ => ?_) (fun _ => ?_)
    · exact hk _ _ hm_m
    · refine Fr.ite (fun _ => ?_) (fun _ => ?_)
      · refine Fr.bd (FRX4_indexOf _ _ _ _ hm_m) (fun r2 m3 hm_m3 => ?_)
        refine Fr.ite (fun _ => ?_) (fun _ => ?_)
        · refine Fr.ite (fun _ => ?_) (fun _ => ?_)
          · refine Fr.ite (fun _ => ?_) (fun _ => ?_)
            · refine Fr.ite (fun _ => ?_) (fun _ => ?_)
              · refine Fr.bd (FRJ9_max_7cf53 _ _ _ (frP_I (p39 _) hm_m3)) (fun r4 m5 hm_m5 => ?_)
                exact FRX4_mostAlike_J86 _ _ _ _ ih hm_m5
              · exact Fr.none
            · exact Fr.none
          · exact Fr.none
        · exact Fr.none
      · exact FRX4_mostAlike_J86 _ _ _ _ ih hm_m
set_option maxRecDepth 100000 in
set_option maxHeartbeats 4000000 in
theorem FRX4_mostAlike {P : Nat → Nat → Prop} {m0 : ev_M} (f : Nat) (a1 : Int32) (a2 : Int32) (a3 : Int32) {m : ev_M} (p39 : ∀ k, ¬ P 39 k)  (hm_m : frP P m0 m) : Fr (frP P m0) (FX4_mostAlike f a1 a2 a3 m) := by
  unfold FX4_mostAlike
  exact FRX4_mostAlike_L6 _ _ p39 ((by
  intro m1 hm_m1
  exact FRX4_mostAlike_L30 _ _ _ _ _ p39 ((by
  intro e6 m7 hm_m7
  exact Fr.ok hm_m7)) _ _ _ _ hm_m1)) _ _ _ hm_m
set_option maxRecDepth 100000 in
set_option maxHeartbeats 4000000 in
theorem FRX5_join {P : Nat → Nat → Prop} {m0 : ev_M} (f : Nat) (a0 : Int32) (a1 : Int32) (a2 : Int32) {m : ev_M}   (hm_m : frP P m0 m) : Fr (frP P m0) (FX5_join f a0 a1 a2 m) := by
  unfold FX5_join
  refine Fr.ite (fun _ => ?_) (fun _ => ?_)
  · exact Fr.ok hm_m
  · refine Fr.ite (fun _ => ?_) (fun _ => ?_)
    · exact Fr.ok hm_m
    · refine Fr.ite (fun _ => ?_) (fun _ => ?_)
      · refine Fr.ite (fun _ => ?_) (fun _ => ?_)
        · exact Fr.ok hm_m
        · exact Fr.ok hm_m
      · refine Fr.ite (fun _ => ?_) (fun _ => ?_)
        · refine Fr.ite (fun _ => ?_) (fun _ => ?_)
          · exact Fr.ok hm_m
          · exact Fr.ok hm_m
        · refine Fr.ite (fun _ => ?_) (fun _ => ?_)
          · refine Fr.ite (fun _ => ?_) (fun _ => ?_)
            · exact Fr.ok hm_m
            · exact Fr.ok hm_m
          · refine Fr.ite (fun _ => ?_) (fun _ => ?_)
            · refine Fr.bd (FRJ9_max_7cf53 _ _ _ hm_m) (fun r6 m7 hm_m7 => ?_)
              exact Fr.ok hm_m7
            · refine Fr.ite (fun _ => ?_) (fun _ => ?_)
              · refine Fr.bd (FRJ9_min_7cf53 _ _ _ hm_m) (fun r9 m10 hm_m10 => ?_)
                exact Fr.ok hm_m10
              · refine Fr.ite (fun _ => ?_) (fun _ => ?_)
                · refine Fr.ite (fun _ => ?_) (fun _ => ?_)
                  · exact Fr.ok hm_m
                  · refine Fr.bd (FRJ9_floorDiv_7cf53 _ _ _ hm_m) (fun r12 m13 hm_m13 => ?_)
                    exact Fr.ok hm_m13
                · refine Fr.ite (fun _ => ?_) (fun _ => ?_)
                  · refine Fr.bd (FRJ9_min_f86c9 _ _ _ hm_m) (fun r15 m16 hm_m16 => ?_)
                    refine Fr.bd (FRJ9_max_f86c9 _ _ _ hm_m16) (fun r17 m18 hm_m18 => ?_)
                    exact Fr.ok hm_m18
                  · refine Fr.ite (fun _ => ?_) (fun _ => ?_)
                    · refine Fr.bd (FRJ9_min_f86c9 _ _ _ hm_m) (fun r20 m21 hm_m21 => ?_)
                      refine Fr.bd (FRJ9_max_f86c9 _ _ _ hm_m21) (fun r22 m23 hm_m23 => ?_)
                      exact Fr.ok hm_m23
                    · refine Fr.ite (fun _ => ?_) (fun _ => ?_)
                      · refine Fr.bd (FRJ9_min_f86c9 _ _ _ hm_m) (fun r25 m26 hm_m26 => ?_)
                        refine Fr.bd (FRJ9_max_f86c9 _ _ _ hm_m26) (fun r27 m28 hm_m28 => ?_)
                        exact Fr.ok hm_m28
                      · exact Fr.ok hm_m
set_option maxRecDepth 100000 in
set_option maxHeartbeats 4000000 in
theorem FRX6_keep {P : Nat → Nat → Prop} {m0 : ev_M} (f : Nat) (o1 : Nat) {m : ev_M} (pR : ∀ o, (43 ≤ o ∧ o < 103) → ∀ k, ¬ P o k) (p40_2 : ¬ P 40 2) (p40_3 : ¬ P 40 3)  (hm_m : frP P m0 m) : Fr (frP P m0) (FX6_keep f o1 m) := by
  unfold FX6_keep
  refine Fr.ite (fun hi1 => ?_) (fun _ => ?_)
  · refine Fr.bd (FRX8_copy _ (43 + 3 * (m.1 40 2).toNatClampNeg) o1 (pR _ (by have := hi20 hi1; omega) 2) (pR _ (by have := hi20 hi1; omega) 3) (pR _ (by have := hi20 hi1; omega) 4) (pR _ (by have := hi20 hi1; omega) 5) (pR _ (by have := hi20 hi1; omega)) (pR _ (by have := hi20 hi1; omega)) hm_m) (fun _ m3 hm_m3 => ?_)
    refine Fr.bd (FRJ9_min_7cf53 _ _ _ (frP_I p40_2 hm_m3)) (fun r4 m5 hm_m5 => ?_)
    exact Fr.ok (frP_I p40_3 hm_m5)
  · exact Fr.none
set_option maxRecDepth 100000 in
set_option maxHeartbeats 4000000 in
theorem FRX6_bringBack {P : Nat → Nat → Prop} {m0 : ev_M} (f : Nat) (o1 : Nat) {m : ev_M} (p40_2 : ¬ P 40 2) (p40_3 : ¬ P 40 3) (q_o1_0_2 : ¬ P o1 2) (q_o1_0_3 : ¬ P o1 3) (q_o1_0_4 : ¬ P o1 4) (q_o1_0_5 : ¬ P o1 5) (q_o1_1 : ∀ k, ¬ P (o1 + 1) k) (q_o1_2 : ∀ k, ¬ P (o1 + 2) k)  (hm_m : frP P m0 m) : Fr (frP P m0) (FX6_bringBack f o1 m) := by
  unfold FX6_bringBack
  refine Fr.ite (fun _ => ?_) (fun _ => ?_)
  · exact Fr.ok hm_m
  · refine Fr.ite (fun hi1 => ?_) (fun _ => ?_)
    · refine Fr.bd (FRX8_copy _ o1 (43 + 3 * ((((m.1 40 2) + 20) - 1) - (((m.1 40 2) + 20) - 1) / 20 * 20).toNatClampNeg) q_o1_0_2 q_o1_0_3 q_o1_0_4 q_o1_0_5 q_o1_1 q_o1_2 (frP_I p40_2 (frP_I p40_3 hm_m))) (fun _ m3 hm_m3 => ?_)
      exact Fr.ok hm_m3
    · exact Fr.none
set_option maxRecDepth 100000 in
set_option maxHeartbeats 4000000 in
theorem FRX7_joined {P : Nat → Nat → Prop} {m0 : ev_M} (f : Nat) (a1 : Int64) (a3 : Int32) (a4 : Int32) {m : ev_M}   (hm_m : frP P m0 m) : Fr (frP P m0) (FX7_joined f a1 a3 a4 m) := by
  unfold FX7_joined
  refine Fr.ite (fun _ => ?_) (fun _ => ?_)
  · refine Fr.ite (fun _ => ?_) (fun _ => ?_)
    · refine Fr.ite (fun _ => ?_) (fun _ => ?_)
      · exact Fr.ok hm_m
      · exact Fr.ok hm_m
    · exact Fr.ok hm_m
  · refine Fr.ite (fun _ => ?_) (fun _ => ?_)
    · refine Fr.ite (fun _ => ?_) (fun _ => ?_)
      · exact Fr.ok hm_m
      · exact Fr.ok hm_m
    · refine Fr.ite (fun _ => ?_) (fun _ => ?_)
      · refine Fr.ite (fun _ => ?_) (fun _ => ?_)
        · exact Fr.ok hm_m
        · refine Fr.bd (FRJ9_max_f86c9 _ _ _ hm_m) (fun r3 m4 hm_m4 => ?_)
          exact Fr.ok hm_m4
      · refine Fr.ite (fun _ => ?_) (fun _ => ?_)
        · refine Fr.ite (fun _ => ?_) (fun _ => ?_)
          · exact Fr.ok hm_m
          · refine Fr.bd (FRJ9_min_f86c9 _ _ _ hm_m) (fun r6 m7 hm_m7 => ?_)
            exact Fr.ok hm_m7
        · exact Fr.ok hm_m
set_option maxRecDepth 100000 in
set_option maxHeartbeats 4000000 in
theorem FRX10_advance_L56 {P : Nat → Nat → Prop} {m0 : ev_M} (f : Nat) (k : ev_M → Option (Unit × ev_M)) (p13_6 : ¬ P 13 6) (hk : ∀  (xm : ev_M), frP P m0 xm → Fr (frP P m0) (k xm)) : ∀ (n : Nat)  (m : ev_M), frP P m0 m → Fr (frP P m0) (FX10_advance_L56 f k n m) := by
  intro n
  induction n with
  | zero => intros; exact Fr.none
  | succ n ih =>
    intro m hm_m
    rw [FX10_advance_L56]
    refine Fr.ite (fun _ => ?_) (fun _ => ?_)
    · exact hk _ hm_m
    · refine Fr.bd (FRX10_isLong _ hm_m) (fun r7 m8 hm_m8 => ?_)
      refine Fr.ite (fun _ => ?_) (fun _ => ?_)
      · exact hk _ hm_m8
      · refine Fr.bd (FRX10_kindAt _ _ hm_m8) (fun r9 m10 hm_m10 => ?_)
        refine Fr.ite (fun _ => ?_) (fun _ => ?_)
        · exact ih  _ (frP_I p13_6 hm_m10)
        · exact hk _ hm_m10
set_option maxRecDepth 100000 in
set_option maxHeartbeats 4000000 in
theorem FRX10_advance_J191 {P : Nat → Nat → Prop} {m0 : ev_M} (f : Nat) (a1 : Int32) (a2 : Int32) {m : ev_M} (p13_5 : ¬ P 13 5)  (hm_m : frP P m0 m) : Fr (frP P m0) (FX10_advance_J191 f a1 a2 m) := by
  unfold FX10_advance_J191
  refine Fr.ite (fun _ => ?_) (fun _ => ?_)
  · exact Fr.ok hm_m
  · refine Fr.ite (fun _ => ?_) (fun _ => ?_)
    · refine Fr.bd (FRX10_isLong _ hm_m) (fun r14 m15 hm_m15 => ?_)
      refine Fr.ite (fun _ => ?_) (fun _ => ?_)
      · exact Fr.ok hm_m15
      · exact Fr.ok (frP_I p13_5 hm_m15)
    · exact Fr.ok hm_m
set_option maxRecDepth 100000 in
set_option maxHeartbeats 4000000 in
theorem FRX10_advance_J188 {P : Nat → Nat → Prop} {m0 : ev_M} (f : Nat) (a1 : Int32) (a2 : Int32) (s1 : Int32) {m : ev_M} (p13_5 : ¬ P 13 5) (p13_7 : ¬ P 13 7)  (hm_m : frP P m0 m) : Fr (frP P m0) (FX10_advance_J188 f a1 a2 s1 m) := by
  unfold FX10_advance_J188
  exact FRX10_advance_J191 _ _ _ p13_5 (frP_I p13_7 hm_m)
set_option maxRecDepth 100000 in
set_option maxHeartbeats 4000000 in
theorem FRX10_advance_J112 {P : Nat → Nat → Prop} {m0 : ev_M} (f : Nat) (a1 : Int32) (a2 : Int32) {m : ev_M} (p13_5 : ¬ P 13 5) (p13_7 : ¬ P 13 7)  (hm_m : frP P m0 m) : Fr (frP P m0) (FX10_advance_J112 f a1 a2 m) := by
  unfold FX10_advance_J112
  refine Fr.ite (fun _ => ?_) (fun _ => ?_)
  · refine Fr.bd (FRX10_wordHere _ hm_m) (fun r12 m13 hm_m13 => ?_)
    exact FRX10_advance_J191 _ _ _ p13_5 (frP_I p13_7 hm_m13)
  · refine Fr.ite (fun _ => ?_) (fun _ => ?_)
    · refine Fr.bd (FRX10_numberHere _ hm_m) (fun r17 m18 hm_m18 => ?_)
      exact FRX10_advance_J191 _ _ _ p13_5 (frP_I p13_7 hm_m18)
    · refine Fr.ite (fun _ => ?_) (fun _ => ?_)
      · refine Fr.ite (fun _ => ?_) (fun _ => ?_)
        · exact FRX10_advance_J188 _ _ _ _ p13_5 p13_7 hm_m
        · exact Fr.none
      · exact FRX10_advance_J188 _ _ _ _ p13_5 p13_7 hm_m
set_option maxRecDepth 100000 in
set_option maxHeartbeats 4000000 in
theorem FRX10_advance_J53 {P : Nat → Nat → Prop} {m0 : ev_M} (f : Nat) (a1 : Int32) (a2 : Int32) (s1 : Int32) {m : ev_M} (p13_5 : ¬ P 13 5) (p13_6 : ¬ P 13 6) (p13_7 : ¬ P 13 7)  (hm_m : frP P m0 m) : Fr (frP P m0) (FX10_advance_J53 f a1 a2 s1 m) := by
  unfold FX10_advance_J53
  exact FRX10_advance_L56 _ _ p13_6 ((by
  intro m11 hm_m11
  exact FRX10_advance_J112 _ _ _ p13_5 p13_7 hm_m11)) _ _ (frP_I p13_6 hm_m)
set_option maxRecDepth 100000 in
set_option maxHeartbeats 4000000 in
theorem FRX10_advance {P : Nat → Nat → Prop} {m0 : ev_M} (f : Nat) {m : ev_M} (p13_2 : ¬ P 13 2) (p13_5 : ¬ P 13 5) (p13_6 : ¬ P 13 6) (p13_7 : ¬ P 13 7)  (hm_m : frP P m0 m) : Fr (frP P m0) (FX10_advance f m) := by
  unfold FX10_advance
  refine Fr.ite (fun _ => ?_) (fun _ => ?_)
  · refine Fr.bd (FRX10_isLong _ hm_m) (fun r1 m2 hm_m2 => ?_)
    refine Fr.bd (FRX10_skipBlanks _ _ p13_2 hm_m2) (fun _ m4 hm_m4 => ?_)
    refine Fr.bd (FRX10_kindAt _ _ hm_m4) (fun r5 m6 hm_m6 => ?_)
    refine Fr.ite (fun _ => ?_) (fun _ => ?_)
    · exact FRX10_advance_J53 _ _ _ _ p13_5 p13_6 p13_7 (frP_I p13_5 hm_m6)
    · exact FRX10_advance_J53 _ _ _ _ p13_5 p13_6 p13_7 (frP_I p13_5 hm_m6)
  · exact Fr.ok hm_m
set_option maxRecDepth 100000 in
set_option maxHeartbeats 4000000 in
theorem FRX10_takeSign {P : Nat → Nat → Prop} {m0 : ev_M} (f : Nat) (a1 : Int32) {m : ev_M} (p13_2 : ¬ P 13 2) (p13_3 : ¬ P 13 3) (p13_4 : ¬ P 13 4) (p13_5 : ¬ P 13 5) (p13_6 : ¬ P 13 6) (p13_7 : ¬ P 13 7)  (hm_m : frP P m0 m) : Fr (frP P m0) (FX10_takeSign f a1 m) := by
  unfold FX10_takeSign
  refine Fr.bd (FRX10_isSign _ _ hm_m) (fun r1 m2 hm_m2 => ?_)
  refine Fr.ite (fun _ => ?_) (fun _ => ?_)
  · refine Fr.bd (FRX10_fail _ _ _ p13_3 p13_4 p13_5 hm_m2) (fun _ m4 hm_m4 => ?_)
    exact Fr.ok hm_m4
  · refine Fr.bd (FRX10_advance _ p13_2 p13_5 p13_6 p13_7 hm_m2) (fun _ m6 hm_m6 => ?_)
    exact Fr.ok hm_m6
set_option maxRecDepth 100000 in
set_option maxHeartbeats 4000000 in
theorem FRX10_takeWord {P : Nat → Nat → Prop} {m0 : ev_M} (f : Nat) (a1 : Int32) {m : ev_M} (p13_2 : ¬ P 13 2) (p13_3 : ¬ P 13 3) (p13_4 : ¬ P 13 4) (p13_5 : ¬ P 13 5) (p13_6 : ¬ P 13 6) (p13_7 : ¬ P 13 7)  (hm_m : frP P m0 m) : Fr (frP P m0) (FX10_takeWord f a1 m) := by
  unfold FX10_takeWord
  refine Fr.bd (FRX10_isWord _ _ hm_m) (fun r1 m2 hm_m2 => ?_)
  refine Fr.ite (fun _ => ?_) (fun _ => ?_)
  · refine Fr.bd (FRX10_fail _ _ _ p13_3 p13_4 p13_5 hm_m2) (fun _ m4 hm_m4 => ?_)
    exact Fr.ok hm_m4
  · refine Fr.bd (FRX10_advance _ p13_2 p13_5 p13_6 p13_7 hm_m2) (fun _ m6 hm_m6 => ?_)
    exact Fr.ok hm_m6
set_option maxRecDepth 100000 in
set_option maxHeartbeats 4000000 in
theorem FRX10_takeNumber_J66 {P : Nat → Nat → Prop} {m0 : ev_M} (f : Nat) (a1 : Int32) (a3 : Int32) {m : ev_M} (p13_2 : ¬ P 13 2) (p13_5 : ¬ P 13 5) (p13_6 : ¬ P 13 6) (p13_7 : ¬ P 13 7)  (hm_m : frP P m0 m) : Fr (frP P m0) (FX10_takeNumber_J66 f a1 a3 m) := by
  unfold FX10_takeNumber_J66
  refine Fr.bd (FRX10_advance _ p13_2 p13_5 p13_6 p13_7 hm_m) (fun _ m4 hm_m4 => ?_)
  refine Fr.bd (FRX10_isGood _ hm_m4) (fun r5 m6 hm_m6 => ?_)
  refine Fr.ite (fun _ => ?_) (fun _ => ?_)
  · exact Fr.ok hm_m6
  · exact Fr.ok hm_m6
set_option maxRecDepth 100000 in
set_option maxHeartbeats 4000000 in
theorem FRX10_takeNumber_J57 {P : Nat → Nat → Prop} {m0 : ev_M} (f : Nat) (a1 : Int32) (a3 : Int32) {m : ev_M} (p13_2 : ¬ P 13 2) (p13_3 : ¬ P 13 3) (p13_4 : ¬ P 13 4) (p13_5 : ¬ P 13 5) (p13_6 : ¬ P 13 6) (p13_7 : ¬ P 13 7)  (hm_m : frP P m0 m) : Fr (frP P m0) (FX10_takeNumber_J57 f a1 a3 m) := by
  unfold FX10_takeNumber_J57
  refine Fr.bd (FRX10_fail _ _ _ p13_3 p13_4 p13_5 hm_m) (fun _ m2 hm_m2 => ?_)
  exact FRX10_takeNumber_J66 _ _ _ p13_2 p13_5 p13_6 p13_7 hm_m2
set_option maxRecDepth 100000 in
set_option maxHeartbeats 4000000 in
theorem FRX10_takeNumber {P : Nat → Nat → Prop} {m0 : ev_M} (f : Nat) (a1 : Int32) (a2 : Int32) {m : ev_M} (p13_2 : ¬ P 13 2) (p13_3 : ¬ P 13 3) (p13_4 : ¬ P 13 4) (p13_5 : ¬ P 13 5) (p13_6 : ¬ P 13 6) (p13_7 : ¬ P 13 7)  (hm_m : frP P m0 m) : Fr (frP P m0) (FX10_takeNumber f a1 a2 m) := by
  unfold FX10_takeNumber
  refine Fr.ite (fun _ => ?_) (fun _ => ?_)
  · refine Fr.ite (fun _ => ?_) (fun _ => ?_)
    · refine Fr.ite (fun _ => ?_) (fun _ => ?_)
      · exact FRX10_takeNumber_J57 _ _ _ p13_2 p13_3 p13_4 p13_5 p13_6 p13_7 hm_m
      · refine Fr.ite (fun _ => ?_) (fun _ => ?_)
        · exact FRX10_takeNumber_J66 _ _ _ p13_2 p13_5 p13_6 p13_7 hm_m
        · exact FRX10_takeNumber_J57 _ _ _ p13_2 p13_3 p13_4 p13_5 p13_6 p13_7 hm_m
    · refine Fr.bd (FRX10_fail _ _ _ p13_3 p13_4 p13_5 hm_m) (fun _ m8 hm_m8 => ?_)
      exact FRX10_takeNumber_J66 _ _ _ p13_2 p13_5 p13_6 p13_7 hm_m8
  · refine Fr.bd (FRX10_fail _ _ _ p13_3 p13_4 p13_5 hm_m) (fun _ m10 hm_m10 => ?_)
    exact FRX10_takeNumber_J66 _ _ _ p13_2 p13_5 p13_6 p13_7 hm_m10
set_option maxRecDepth 100000 in
set_option maxHeartbeats 4000000 in
theorem FRX11_cheer_J31 {P : Nat → Nat → Prop} {m0 : ev_M} (f : Nat) {m : ev_M} (p109 : ∀ k, ¬ P 109 k)  (hm_m : frP P m0 m) : Fr (frP P m0) (FX11_cheer_J31 f m) := by
  unfold FX11_cheer_J31
  refine Fr.bd (FRX11_refuse _ _ p109 hm_m) (fun r3 m4 hm_m4 => ?_)
  refine Fr.ite (fun _ => ?_) (fun _ => ?_)
  · exact Fr.ok hm_m4
  · exact Fr.none
set_option maxRecDepth 100000 in
set_option maxHeartbeats 4000000 in
theorem FRX11_cheer {P : Nat → Nat → Prop} {m0 : ev_M} (f : Nat) (a1 : Int32) (a2 : Int32) {m : ev_M} (pR : ∀ o, (43 ≤ o ∧ o < 103) → ∀ k, ¬ P o k) (p40_2 : ¬ P 40 2) (p40_3 : ¬ P 40 3) (p105 : ∀ k, ¬ P 105 k) (p109 : ∀ k, ¬ P 109 k)  (hm_m : frP P m0 m) : Fr (frP P m0) (FX11_cheer f a1 a2 m) := by
  unfold FX11_cheer
  refine Fr.bd (FRX11_isTower _ _ hm_m) (fun r1 m2 hm_m2 => ?_)
  refine Fr.ite (fun _ => ?_) (fun _ => ?_)
  · exact FRX11_cheer_J31 _ p109 hm_m2
  · refine Fr.ite (fun _ => ?_) (fun _ => ?_)
    · exact FRX11_cheer_J31 _ p109 hm_m2
    · refine Fr.ite (fun _ => ?_) (fun _ => ?_)
      · exact FRX11_cheer_J31 _ p109 hm_m2
      · refine Fr.ite (fun _ => ?_) (fun _ => ?_)
        · refine Fr.ite (fun _ => ?_) (fun _ => ?_)
          · exact FRX11_cheer_J31 _ p109 hm_m2
          · refine Fr.bd (FRX6_keep _ 103 pR p40_2 p40_3 hm_m2) (fun _ m6 hm_m6 => ?_)
            refine Fr.ite (fun _ => ?_) (fun _ => ?_)
            · exact Fr.ok (frP_I (p105 _) hm_m6)
            · exact Fr.none
        · exact Fr.none
set_option maxRecDepth 100000 in
set_option maxHeartbeats 4000000 in
theorem FRX11_yes_J32 {P : Nat → Nat → Prop} {m0 : ev_M} (f : Nat) {m : ev_M} (p109 : ∀ k, ¬ P 109 k)  (hm_m : frP P m0 m) : Fr (frP P m0) (FX11_yes_J32 f m) := by
  unfold FX11_yes_J32
  refine Fr.bd (FRX11_refuse _ _ p109 hm_m) (fun r3 m4 hm_m4 => ?_)
  refine Fr.ite (fun _ => ?_) (fun _ => ?_)
  · exact Fr.ok hm_m4
  · exact Fr.none
set_option maxRecDepth 100000 in
set_option maxHeartbeats 4000000 in
theorem FRX11_yes {P : Nat → Nat → Prop} {m0 : ev_M} (f : Nat) (a1 : Int32) (a2 : Int32) {m : ev_M} (pR : ∀ o, (43 ≤ o ∧ o < 103) → ∀ k, ¬ P o k) (p40_2 : ¬ P 40 2) (p40_3 : ¬ P 40 3) (p103_4 : ¬ P 103 4) (p109 : ∀ k, ¬ P 109 k)  (hm_m : frP P m0 m) : Fr (frP P m0) (FX11_yes f a1 a2 m) := by
  unfold FX11_yes
  refine Fr.bd (FRX11_isTower _ _ hm_m) (fun r1 m2 hm_m2 => ?_)
  refine Fr.ite (fun _ => ?_) (fun _ => ?_)
  · exact FRX11_yes_J32 _ p109 hm_m2
  · refine Fr.ite (fun _ => ?_) (fun _ => ?_)
    · exact FRX11_yes_J32 _ p109 hm_m2
    · refine Fr.ite (fun _ => ?_) (fun _ => ?_)
      · exact FRX11_yes_J32 _ p109 hm_m2
      · refine Fr.ite (fun _ => ?_) (fun _ => ?_)
        · exact FRX11_yes_J32 _ p109 hm_m2
        · refine Fr.bd (FRX6_keep _ 103 pR p40_2 p40_3 hm_m2) (fun _ m6 hm_m6 => ?_)
          exact Fr.ok (frP_I p103_4 hm_m6)
set_option maxRecDepth 100000 in
set_option maxHeartbeats 4000000 in
theorem FRX11_change_J21 {P : Nat → Nat → Prop} {m0 : ev_M} (f : Nat) {m : ev_M} (p109 : ∀ k, ¬ P 109 k)  (hm_m : frP P m0 m) : Fr (frP P m0) (FX11_change_J21 f m) := by
  unfold FX11_change_J21
  refine Fr.bd (FRX11_refuse _ _ p109 hm_m) (fun r3 m4 hm_m4 => ?_)
  refine Fr.ite (fun _ => ?_) (fun _ => ?_)
  · exact Fr.ok hm_m4
  · exact Fr.none
set_option maxRecDepth 100000 in
set_option maxHeartbeats 4000000 in
theorem FRX11_change {P : Nat → Nat → Prop} {m0 : ev_M} (f : Nat) (a1 : Int32) (a2 : Int32) {m : ev_M} (pR : ∀ o, (43 ≤ o ∧ o < 103) → ∀ k, ¬ P o k) (p40_2 : ¬ P 40 2) (p40_3 : ¬ P 40 3) (p104 : ∀ k, ¬ P 104 k) (p105 : ∀ k, ¬ P 105 k) (p109 : ∀ k, ¬ P 109 k)  (hm_m : frP P m0 m) : Fr (frP P m0) (FX11_change f a1 a2 m) := by
  unfold FX11_change
  refine Fr.bd (FRX11_isTower _ _ hm_m) (fun r1 m2 hm_m2 => ?_)
  refine Fr.ite (fun _ => ?_) (fun _ => ?_)
  · exact FRX11_change_J21 _ p109 hm_m2
  · refine Fr.bd (FRX11_isTower _ _ hm_m2) (fun r5 m6 hm_m6 => ?_)
    refine Fr.ite (fun _ => ?_) (fun _ => ?_)
    · exact FRX11_change_J21 _ p109 hm_m6
    · refine Fr.ite (fun _ => ?_) (fun _ => ?_)
      · exact FRX11_change_J21 _ p109 hm_m6
      · refine Fr.bd (FRX6_keep _ 103 pR p40_2 p40_3 hm_m6) (fun _ m8 hm_m8 => ?_)
        refine Fr.bd (FRX8_swap _ 103 _ _ p104 p105 hm_m8) (fun _ m10 hm_m10 => ?_)
        exact Fr.ok hm_m10
set_option maxRecDepth 100000 in
set_option maxHeartbeats 4000000 in
theorem FRX11_undo {P : Nat → Nat → Prop} {m0 : ev_M} (f : Nat) {m : ev_M} (p40_2 : ¬ P 40 2) (p40_3 : ¬ P 40 3) (p103_2 : ¬ P 103 2) (p103_3 : ¬ P 103 3) (p103_4 : ¬ P 103 4) (p103_5 : ¬ P 103 5) (p104 : ∀ k, ¬ P 104 k) (p105 : ∀ k, ¬ P 105 k) (p109 : ∀ k, ¬ P 109 k)  (hm_m : frP P m0 m) : Fr (frP P m0) (FX11_undo f m) := by
  unfold FX11_undo
  refine Fr.bd (FRX6_bringBack _ 103 p40_2 p40_3 p103_2 p103_3 p103_4 p103_5 p104 p105 hm_m) (fun r1 m2 hm_m2 => ?_)
  refine Fr.ite (fun _ => ?_) (fun _ => ?_)
  · refine Fr.bd (FRX11_refuse _ _ p109 hm_m2) (fun r3 m4 hm_m4 => ?_)
    refine Fr.ite (fun _ => ?_) (fun _ => ?_)
    · exact Fr.ok hm_m4
    · exact Fr.ok hm_m4
  · exact Fr.ok hm_m2
set_option maxRecDepth 100000 in
set_option maxHeartbeats 4000000 in
theorem FRX1_readTower_L38 {P : Nat → Nat → Prop} {m0 : ev_M} (f : Nat) (k : ev_M → Option (Unit × ev_M)) (o0 : Nat) (q_o0_1 : ∀ k, ¬ P (o0 + 1) k) (hk : ∀  (xm : ev_M), frP P m0 xm → Fr (frP P m0) (k xm)) : ∀ (n : Nat) (a2 : Int32) (m : ev_M), frP P m0 m → Fr (frP P m0) (FX1_readTower_L38 f k o0 n a2 m) := by
  intro n
  induction n with
  | zero => intros; exact Fr.none
  | succ n ih =>
    intro a2 m hm_m
    rw [FX1_readTower_L38]
    refine Fr.ite (fun _ => ?_) (fun _ => ?_)
    · exact hk _ hm_m
    · refine Fr.bd (FRX10_nameLetter _ _ hm_m) (fun r5 m6 hm_m6 => ?_)
      refine Fr.ite (fun _ => ?_) (fun _ => ?_)
      · exact ih _ _ (frP_I (q_o0_1 _) hm_m6)
      · exact Fr.none
set_option maxRecDepth 100000 in
set_option maxHeartbeats 4000000 in
theorem FRX1_readTower {P : Nat → Nat → Prop} {m0 : ev_M} (f : Nat) (o0 : Nat) {m : ev_M} (p13_2 : ¬ P 13 2) (p13_3 : ¬ P 13 3) (p13_4 : ¬ P 13 4) (p13_5 : ¬ P 13 5) (p13_6 : ¬ P 13 6) (p13_7 : ¬ P 13 7) (q_o0_0_5 : ¬ P o0 5) (q_o0_1 : ∀ k, ¬ P (o0 + 1) k) (q_o0_2 : ∀ k, ¬ P (o0 + 2) k) (q_o0_3 : ∀ k, ¬ P (o0 + 3) k)  (hm_m : frP P m0 m) : Fr (frP P m0) (FX1_readTower f o0 m) := by
  unfold FX1_readTower
  refine Fr.bd (FRX10_checkName _ p13_3 p13_4 p13_5 hm_m) (fun r1 m2 hm_m2 => ?_)
  refine Fr.ite (fun _ => ?_) (fun _ => ?_)
  · exact Fr.ok hm_m2
  · refine Fr.ite (fun _ => ?_) (fun _ => ?_)
    · refine Fr.bd (FRX1_find _ o0 hm_m2) (fun r3 m4 hm_m4 => ?_)
      refine Fr.ite (fun _ => ?_) (fun _ => ?_)
      · exact FRX1_readTower_L38 _ _ o0 q_o0_1 ((by
  intro m7 hm_m7
  refine Fr.bd (FRX10_advance _ p13_2 p13_5 p13_6 p13_7 hm_m7) (fun _ m9 hm_m9 => ?_)
  refine Fr.bd (FRX10_takeWord _ _ p13_2 p13_3 p13_4 p13_5 p13_6 p13_7 hm_m9) (fun _ m11 hm_m11 => ?_)
  refine Fr.bd (FRX10_takeNumber _ _ _ p13_2 p13_3 p13_4 p13_5 p13_6 p13_7 hm_m11) (fun r12 m13 hm_m13 => ?_)
  refine Fr.ite (fun _ => ?_) (fun _ => ?_)
  · refine Fr.bd (FRX10_takeWord _ _ p13_2 p13_3 p13_4 p13_5 p13_6 p13_7 (frP_I (q_o0_2 _) hm_m13)) (fun _ m15 hm_m15 => ?_)
    refine Fr.bd (FRX10_takeNumber _ _ _ p13_2 p13_3 p13_4 p13_5 p13_6 p13_7 hm_m15) (fun r16 m17 hm_m17 => ?_)
    refine Fr.ite (fun _ => ?_) (fun _ => ?_)
    · exact Fr.ok (frP_I q_o0_0_5 (frP_I (q_o0_3 _) hm_m17))
    · exact Fr.none
  · exact Fr.none)) _ _ _ hm_m4
      · refine Fr.bd (FRX10_fail _ _ _ p13_3 p13_4 p13_5 hm_m4) (fun _ m19 hm_m19 => ?_)
        exact Fr.ok hm_m19
    · exact Fr.ok hm_m2
set_option maxRecDepth 100000 in
set_option maxHeartbeats 4000000 in
theorem FRX1_readYes_J31 {P : Nat → Nat → Prop} {m0 : ev_M} (f : Nat) {m : ev_M} (p13_3 : ¬ P 13 3) (p13_4 : ¬ P 13 4) (p13_5 : ¬ P 13 5)  (hm_m : frP P m0 m) : Fr (frP P m0) (FX1_readYes_J31 f m) := by
  unfold FX1_readYes_J31
  refine Fr.bd (FRX10_fail _ _ _ p13_3 p13_4 p13_5 hm_m) (fun _ m6 hm_m6 => ?_)
  exact Fr.ok hm_m6
set_option maxRecDepth 100000 in
set_option maxHeartbeats 4000000 in
theorem FRX1_readYes {P : Nat → Nat → Prop} {m0 : ev_M} (f : Nat) (o0 : Nat) {m : ev_M} (p13_2 : ¬ P 13 2) (p13_3 : ¬ P 13 3) (p13_4 : ¬ P 13 4) (p13_5 : ¬ P 13 5) (p13_6 : ¬ P 13 6) (p13_7 : ¬ P 13 7) (q_o0_0_6 : ¬ P o0 6)  (hm_m : frP P m0 m) : Fr (frP P m0) (FX1_readYes f o0 m) := by
  unfold FX1_readYes
  refine Fr.bd (FRX10_checkName _ p13_3 p13_4 p13_5 hm_m) (fun r1 m2 hm_m2 => ?_)
  refine Fr.ite (fun _ => ?_) (fun _ => ?_)
  · exact Fr.ok hm_m2
  · refine Fr.bd (FRX1_find _ o0 hm_m2) (fun r3 m4 hm_m4 => ?_)
    refine Fr.ite (fun _ => ?_) (fun _ => ?_)
    · exact FRX1_readYes_J31 _ p13_3 p13_4 p13_5 hm_m4
    · refine Fr.ite (fun _ => ?_) (fun _ => ?_)
      · exact FRX1_readYes_J31 _ p13_3 p13_4 p13_5 hm_m4
      · refine Fr.bd (FRX10_advance _ p13_2 p13_5 p13_6 p13_7 (frP_I q_o0_0_6 hm_m4)) (fun _ m8 hm_m8 => ?_)
        exact Fr.ok hm_m8
set_option maxRecDepth 100000 in
set_option maxHeartbeats 4000000 in
theorem FRX5_work_J177 {P : Nat → Nat → Prop} {m0 : ev_M} (f : Nat) (kt10 : Int32 → Int32 → ev_M → Option (Int32 × ev_M)) (a4 : Int32) (a5 : Int32) {m : ev_M}  (hkt10 : ∀ (x0 : Int32) (x1 : Int32) (xm : ev_M), frP P m0 xm → Fr (frP P m0) (kt10 x0 x1 xm)) (hm_m : frP P m0 m) : Fr (frP P m0) (FX5_work_J177 f kt10 a4 a5 m) := by
  unfold FX5_work_J177
  exact hkt10 _ _ _ hm_m
set_option maxRecDepth 100000 in
set_option maxHeartbeats 4000000 in
theorem FRX5_work_J47 {P : Nat → Nat → Prop} {m0 : ev_M} (f : Nat) (kt10 : Int32 → Int32 → ev_M → Option (Int32 × ev_M)) (a4 : Int32) (a5 : Int32) (a6 : Int32) {m : ev_M} (p20 : ∀ k, ¬ P 20 k) (hkt10 : ∀ (x0 : Int32) (x1 : Int32) (xm : ev_M), frP P m0 xm → Fr (frP P m0) (kt10 x0 x1 xm)) (hm_m : frP P m0 m) : Fr (frP P m0) (FX5_work_J47 f kt10 a4 a5 a6 m) := by
  unfold FX5_work_J47
  refine Fr.ite (fun _ => ?_) (fun _ => ?_)
  · exact FRX5_work_J177 _ _ _ _ hkt10 hm_m
  · refine Fr.bd (FRX5_valueOf _ _ hm_m) (fun r3 m4 hm_m4 => ?_)
    refine Fr.ite (fun _ => ?_) (fun _ => ?_)
    · exact FRX5_work_J177 _ _ _ _ hkt10 (frP_I (p20 _) hm_m4)
    · exact Fr.none
set_option maxRecDepth 100000 in
set_option maxHeartbeats 4000000 in
theorem FRX5_work_J134 {P : Nat → Nat → Prop} {m0 : ev_M} (f : Nat) (kt10 : Int32 → Int32 → ev_M → Option (Int32 × ev_M)) (a4 : Int32) (a5 : Int32) (s1 : Int32) (s2 : Int32) {m : ev_M} (p20 : ∀ k, ¬ P 20 k) (hkt10 : ∀ (x0 : Int32) (x1 : Int32) (xm : ev_M), frP P m0 xm → Fr (frP P m0) (kt10 x0 x1 xm)) (hm_m : frP P m0 m) : Fr (frP P m0) (FX5_work_J134 f kt10 a4 a5 s1 s2 m) := by
  unfold FX5_work_J134
  refine Fr.ite (fun _ => ?_) (fun _ => ?_)
  · exact FRX5_work_J177 _ _ _ _ hkt10 (frP_I (p20 _) hm_m)
  · exact Fr.none
set_option maxRecDepth 100000 in
set_option maxHeartbeats 4000000 in
theorem FRX5_work_J87 {P : Nat → Nat → Prop} {m0 : ev_M} (f : Nat) (kt10 : Int32 → Int32 → ev_M → Option (Int32 × ev_M)) (a4 : Int32) (a5 : Int32) (a6 : Int32) {m : ev_M} (p20 : ∀ k, ¬ P 20 k) (hkt10 : ∀ (x0 : Int32) (x1 : Int32) (xm : ev_M), frP P m0 xm → Fr (frP P m0) (kt10 x0 x1 xm)) (hm_m : frP P m0 m) : Fr (frP P m0) (FX5_work_J87 f kt10 a4 a5 a6 m) := by
  unfold FX5_work_J87
  refine Fr.ite (fun _ => ?_) (fun _ => ?_)
  · exact FRX5_work_J177 _ _ _ _ hkt10 hm_m
  · refine Fr.ite (fun _ => ?_) (fun _ => ?_)
    · refine Fr.ite (fun _ => ?_) (fun _ => ?_)
      · exact FRX5_work_J134 _ _ _ _ _ _ p20 hkt10 hm_m
      · exact Fr.none
    · refine Fr.ite (fun _ => ?_) (fun _ => ?_)
      · refine Fr.bd (FRX5_saidAhead _ _ hm_m) (fun r5 m6 hm_m6 => ?_)
        exact FRX5_work_J134 _ _ _ _ _ _ p20 hkt10 hm_m6
      · exact Fr.none
set_option maxRecDepth 100000 in
set_option maxHeartbeats 4000000 in
theorem FRX5_work_L10 {P : Nat → Nat → Prop} {m0 : ev_M} (f : Nat) (k : ev_M → Option (Int32 × ev_M)) (o1 : Nat) (a3 : Int32) (p20 : ∀ k, ¬ P 20 k) (hk : ∀  (xm : ev_M), frP P m0 xm → Fr (frP P m0) (k xm)) : ∀ (n : Nat) (a4 : Int32) (a5 : Int32) (m : ev_M), frP P m0 m → Fr (frP P m0) (FX5_work_L10 f k o1 a3 n a4 a5 m) := by
  intro n
  induction n with
  | zero => intros; exact Fr.none
  | succ n ih =>
    intro a4 a5 m hm_m
    rw [FX5_work_L10]
    refine Fr.ite (fun _ => ?_) (fun _ => ?_)
    · exact hk _ hm_m
    · refine Fr.ite (fun _ => ?_) (fun _ => ?_)
      · exact hk _ hm_m
      · refine Fr.ite (fun _ => ?_) (fun _ => ?_)
        · refine Fr.ite (fun _ => ?_) (fun _ => ?_)
          · exact FRX5_work_J47 _ _ _ _ _ p20 ih hm_m
          · refine Fr.ite (fun _ => ?_) (fun _ => ?_)
            · refine Fr.ite (fun _ => ?_) (fun _ => ?_)
              · exact FRX5_work_J87 _ _ _ _ _ p20 ih hm_m
              · refine Fr.ite (fun _ => ?_) (fun _ => ?_)
                · exact FRX5_work_J87 _ _ _ _ _ p20 ih hm_m
                · refine Fr.ite (fun _ => ?_) (fun _ => ?_)
                  · exact FRX5_work_J177 _ _ _ _ ih hm_m
                  · refine Fr.ite (fun _ => ?_) (fun _ => ?_)
                    · refine Fr.ite (fun _ => ?_) (fun _ => ?_)
                      · refine Fr.bd (FRX5_join _ _ _ _ hm_m) (fun r7 m8 hm_m8 => ?_)
                        refine Fr.ite (fun _ => ?_) (fun _ => ?_)
                        · exact FRX5_work_J177 _ _ _ _ ih (frP_I (p20 _) hm_m8)
                        · exact Fr.none
                      · exact Fr.none
                    · exact Fr.none
            · exact FRX5_work_J47 _ _ _ _ _ p20 ih hm_m
        · exact Fr.none
set_option maxRecDepth 100000 in
set_option maxHeartbeats 4000000 in
theorem FRX5_work {P : Nat → Nat → Prop} {m0 : ev_M} (f : Nat) (o1 : Nat) (a2 : Int32) (a3 : Int32) {m : ev_M} (p20 : ∀ k, ¬ P 20 k)  (hm_m : frP P m0 m) : Fr (frP P m0) (FX5_work f o1 a2 a3 m) := by
  unfold FX5_work
  refine Fr.bd (FRJ9_max_7cf53 _ _ _ hm_m) (fun r1 m2 hm_m2 => ?_)
  exact FRX5_work_L10 _ _ o1 _ p20 ((by
  intro m9 hm_m9
  exact Fr.ok hm_m9)) _ _ _ _ hm_m2
set_option maxRecDepth 100000 in
set_option maxHeartbeats 4000000 in
theorem FRX9_opens {P : Nat → Nat → Prop} {m0 : ev_M} (f : Nat) {m : ev_M} (p13_2 : ¬ P 13 2) (p13_3 : ¬ P 13 3) (p13_4 : ¬ P 13 4) (p13_5 : ¬ P 13 5) (p13_6 : ¬ P 13 6) (p13_7 : ¬ P 13 7) (p15_3 : ¬ P 15 3)  (hm_m : frP P m0 m) : Fr (frP P m0) (FX9_opens f m) := by
  unfold FX9_opens
  refine Fr.ite (fun _ => ?_) (fun _ => ?_)
  · refine Fr.bd (FRX10_advance _ p13_2 p13_5 p13_6 p13_7 (frP_I p15_3 hm_m)) (fun _ m2 hm_m2 => ?_)
    exact Fr.ok hm_m2
  · refine Fr.bd (FRX10_fail _ _ _ p13_3 p13_4 p13_5 hm_m) (fun _ m4 hm_m4 => ?_)
    exact Fr.ok hm_m4
set_option maxRecDepth 100000 in
set_option maxHeartbeats 4000000 in
theorem FRX9_readValue_J36 {P : Nat → Nat → Prop} {m0 : ev_M} (f : Nat) {m : ev_M} (pD : ∀ o, (o = 5 ∨ o = 6 ∨ o = 11 ∨ o = 12 ∨ o = 23 ∨ o = 24) → ∀ k, ¬ P o k) (p13_2 : ¬ P 13 2) (p13_5 : ¬ P 13 5) (p13_6 : ¬ P 13 6) (p13_7 : ¬ P 13 7)  (hm_m : frP P m0 m) : Fr (frP P m0) (FX9_readValue_J36 f m) := by
  unfold FX9_readValue_J36
  refine Fr.bd (FRX10_word _ hm_m) (fun r5 m6 hm_m6 => ?_)
  refine Fr.bd (FRX9_put _ _ pD hm_m6) (fun _ m8 hm_m8 => ?_)
  refine Fr.bd (FRX10_advance _ p13_2 p13_5 p13_6 p13_7 hm_m8) (fun _ m10 hm_m10 => ?_)
  exact Fr.ok hm_m10
set_option maxRecDepth 100000 in
set_option maxHeartbeats 4000000 in
theorem FRX9_readValue_J24 {P : Nat → Nat → Prop} {m0 : ev_M} (f : Nat) {m : ev_M} (pD : ∀ o, (o = 5 ∨ o = 6 ∨ o = 11 ∨ o = 12 ∨ o = 23 ∨ o = 24) → ∀ k, ¬ P o k) (p13_2 : ¬ P 13 2) (p13_5 : ¬ P 13 5) (p13_6 : ¬ P 13 6) (p13_7 : ¬ P 13 7) (p15_4 : ¬ P 15 4)  (hm_m : frP P m0 m) : Fr (frP P m0) (FX9_readValue_J24 f m) := by
  unfold FX9_readValue_J24
  refine Fr.bd (FRJ9_max_7cf53 _ _ _ hm_m) (fun r3 m4 hm_m4 => ?_)
  exact FRX9_readValue_J36 _ pD p13_2 p13_5 p13_6 p13_7 (frP_I p15_4 hm_m4)
set_option maxRecDepth 100000 in
set_option maxHeartbeats 4000000 in
theorem FRX9_readValue {P : Nat → Nat → Prop} {m0 : ev_M} (f : Nat) {m : ev_M} (pD : ∀ o, (o = 5 ∨ o = 6 ∨ o = 11 ∨ o = 12 ∨ o = 23 ∨ o = 24) → ∀ k, ¬ P o k) (p13_2 : ¬ P 13 2) (p13_5 : ¬ P 13 5) (p13_6 : ¬ P 13 6) (p13_7 : ¬ P 13 7) (p15_4 : ¬ P 15 4)  (hm_m : frP P m0 m) : Fr (frP P m0) (FX9_readValue f m) := by
  unfold FX9_readValue
  refine Fr.bd (FRX10_isWord _ _ hm_m) (fun r1 m2 hm_m2 => ?_)
  refine Fr.ite (fun _ => ?_) (fun _ => ?_)
  · refine Fr.bd (FRX10_isWord _ _ hm_m2) (fun r11 m12 hm_m12 => ?_)
    refine Fr.ite (fun _ => ?_) (fun _ => ?_)
    · exact FRX9_readValue_J36 _ pD p13_2 p13_5 p13_6 p13_7 hm_m12
    · exact FRX9_readValue_J24 _ pD p13_2 p13_5 p13_6 p13_7 p15_4 hm_m12
  · exact FRX9_readValue_J24 _ pD p13_2 p13_5 p13_6 p13_7 p15_4 hm_m2
set_option maxRecDepth 100000 in
set_option maxHeartbeats 4000000 in
theorem FRX10_begin {P : Nat → Nat → Prop} {m0 : ev_M} (f : Nat) {m : ev_M} (p13_2 : ¬ P 13 2) (p13_3 : ¬ P 13 3) (p13_4 : ¬ P 13 4) (p13_5 : ¬ P 13 5) (p13_6 : ¬ P 13 6) (p13_7 : ¬ P 13 7)  (hm_m : frP P m0 m) : Fr (frP P m0) (FX10_begin f m) := by
  unfold FX10_begin
  refine Fr.bd (FRX10_advance _ p13_2 p13_5 p13_6 p13_7 (frP_I p13_4 (frP_I p13_3 (frP_I p13_6 (frP_I p13_2 (frP_I p13_5 hm_m)))))) (fun _ m2 hm_m2 => ?_)
  exact Fr.ok hm_m2
set_option maxRecDepth 100000 in
set_option maxHeartbeats 4000000 in
theorem FRX3_goThrough_J107 {P : Nat → Nat → Prop} {m0 : ev_M} (f : Nat) (o1 : Nat) (a2 : Int32) (a5 : Int32) {m : ev_M} (p18_14 : ¬ P 18 14) (p20 : ∀ k, ¬ P 20 k) (p21 : ∀ k, ¬ P 21 k) (q_o1_0_3 : ¬ P o1 3) (q_o1_1 : ∀ k, ¬ P (o1 + 1) k)  (hm_m : frP P m0 m) : Fr (frP P m0) (FX3_goThrough_J107 f o1 a2 a5 m) := by
  unfold FX3_goThrough_J107
  refine Fr.ite (fun hk1 => ?_) (fun _ => ?_)
  · refine Fr.bd (FRX5_work _ (((m.1 16 2)).toNatClampNeg + 4) _ _ p20 (frP_I p18_14 hm_m)) (fun r2 m3 hm_m3 => ?_)
    refine Fr.bd (FRX3_graded _ _ hm_m3) (fun r4 m5 hm_m5 => ?_)
    refine Fr.ite (fun _ => ?_) (fun _ => ?_)
    · refine Fr.ite (fun _ => ?_) (fun _ => ?_)
      · exact Fr.ok (frP_I (p21 _) (frP_I q_o1_0_3 (frP_I (q_o1_1 _) hm_m5)))
      · exact Fr.none
    · exact Fr.none
  · exact Fr.none
set_option maxRecDepth 100000 in
set_option maxHeartbeats 4000000 in
theorem FRX3_goThrough {P : Nat → Nat → Prop} {m0 : ev_M} (f : Nat) (o1 : Nat) (a2 : Int32) (a3 : Int32) {m : ev_M} (p18_2 : ¬ P 18 2) (p18_3 : ¬ P 18 3) (p18_10 : ¬ P 18 10) (p18_11 : ¬ P 18 11) (p18_12 : ¬ P 18 12) (p18_13 : ¬ P 18 13) (p18_14 : ¬ P 18 14) (p20 : ∀ k, ¬ P 20 k) (p21 : ∀ k, ¬ P 21 k) (q_o1_0_3 : ¬ P o1 3) (q_o1_1 : ∀ k, ¬ P (o1 + 1) k)  (hm_m : frP P m0 m) : Fr (frP P m0) (FX3_goThrough f o1 a2 a3 m) := by
  unfold FX3_goThrough
  refine Fr.ite (fun _ => ?_) (fun _ => ?_)
  · refine Fr.ite (fun _ => ?_) (fun _ => ?_)
    · refine Fr.ite (fun _ => ?_) (fun _ => ?_)
      · refine Fr.ite (fun hk1 => ?_) (fun _ => ?_)
        · refine Fr.bd (FRX5_work _ (((m.1 16 2)).toNatClampNeg + 4) _ _ p20 (frP_I p18_13 (frP_I p18_12 (frP_I p18_11 (frP_I p18_3 (frP_I p18_2 (frP_I p18_10 hm_m))))))) (fun r7 m8 hm_m8 => ?_)
          refine Fr.bd (FRX3_graded _ _ hm_m8) (fun r9 m10 hm_m10 => ?_)
          exact FRX3_goThrough_J107 _ o1 _ _ p18_14 p20 p21 q_o1_0_3 q_o1_1 hm_m10
        · exact Fr.none
      · exact FRX3_goThrough_J107 _ o1 _ _ p18_14 p20 p21 q_o1_0_3 q_o1_1 (frP_I p18_13 (frP_I p18_12 (frP_I p18_11 (frP_I p18_3 (frP_I p18_2 (frP_I p18_10 hm_m))))))
    · exact Fr.none
  · exact Fr.none
set_option maxRecDepth 100000 in
set_option maxHeartbeats 4000000 in
theorem FRX3_go_J57 {P : Nat → Nat → Prop} {m0 : ev_M} (f : Nat) (kt7 : Int32 → ev_M → Option (Unit × ev_M)) (a3 : Int32) {m : ev_M}  (hkt7 : ∀ (x0 : Int32) (xm : ev_M), frP P m0 xm → Fr (frP P m0) (kt7 x0 xm)) (hm_m : frP P m0 m) : Fr (frP P m0) (FX3_go_J57 f kt7 a3 m) := by
  unfold FX3_go_J57
  exact hkt7 _ _ hm_m
set_option maxRecDepth 100000 in
set_option maxHeartbeats 4000000 in
theorem FRX3_go_L7 {P : Nat → Nat → Prop} {m0 : ev_M} (f : Nat) (k : ev_M → Option (Unit × ev_M)) (o1 : Nat) (a2 : Int32) (p16_3 : ¬ P 16 3) (p18_2 : ¬ P 18 2) (p18_3 : ¬ P 18 3) (p18_10 : ¬ P 18 10) (p18_11 : ¬ P 18 11) (p18_12 : ¬ P 18 12) (p18_13 : ¬ P 18 13) (p18_14 : ¬ P 18 14) (p20 : ∀ k, ¬ P 20 k) (p21 : ∀ k, ¬ P 21 k) (q_o1_0_3 : ¬ P o1 3) (q_o1_1 : ∀ k, ¬ P (o1 + 1) k) (hk : ∀  (xm : ev_M), frP P m0 xm → Fr (frP P m0) (k xm)) : ∀ (n : Nat) (a3 : Int32) (m : ev_M), frP P m0 m → Fr (frP P m0) (FX3_go_L7 f k o1 a2 n a3 m) := by
  intro n
  induction n with
  | zero => intros; exact Fr.none
  | succ n ih =>
    intro a3 m hm_m
    rw [FX3_go_L7]
    refine Fr.ite (fun hk1 => ?_) (fun _ => ?_)
    · refine Fr.ite (fun _ => ?_) (fun _ => ?_)
      · exact hk _ hm_m
      · refine Fr.bd (FRX3_goThrough _ o1 _ _ p18_2 p18_3 p18_10 p18_11 p18_12 p18_13 p18_14 p20 p21 q_o1_0_3 q_o1_1 hm_m) (fun _ m3 hm_m3 => ?_)
        refine Fr.ite (fun _ => ?_) (fun _ => ?_)
        · refine Fr.ite (fun hk2 => ?_) (fun _ => ?_)
          · refine Fr.ite (fun _ => ?_) (fun _ => ?_)
            · exact FRX3_go_J57 _ _ _ ih hm_m3
            · exact FRX3_go_J57 _ _ _ ih (frP_I p16_3 hm_m3)
          · exact Fr.none
        · exact Fr.none
    · exact Fr.none
set_option maxRecDepth 100000 in
set_option maxHeartbeats 4000000 in
theorem FRX3_go {P : Nat → Nat → Prop} {m0 : ev_M} (f : Nat) (o1 : Nat) (a2 : Int32) {m : ev_M} (p16_3 : ¬ P 16 3) (p18_2 : ¬ P 18 2) (p18_3 : ¬ P 18 3) (p18_10 : ¬ P 18 10) (p18_11 : ¬ P 18 11) (p18_12 : ¬ P 18 12) (p18_13 : ¬ P 18 13) (p18_14 : ¬ P 18 14) (p20 : ∀ k, ¬ P 20 k) (p21 : ∀ k, ¬ P 21 k) (q_o1_0_2 : ¬ P o1 2) (q_o1_0_3 : ¬ P o1 3) (q_o1_1 : ∀ k, ¬ P (o1 + 1) k)  (hm_m : frP P m0 m) : Fr (frP P m0) (FX3_go f o1 a2 m) := by
  unfold FX3_go
  exact FRX3_go_L7 _ _ o1 _ p16_3 p18_2 p18_3 p18_10 p18_11 p18_12 p18_13 p18_14 p20 p21 q_o1_0_3 q_o1_1 ((by
  intro m5 hm_m5
  refine Fr.bd (FRX8_hasNext _ o1 hm_m5) (fun r6 m7 hm_m7 => ?_)
  refine Fr.ite (fun _ => ?_) (fun _ => ?_)
  · exact Fr.ok hm_m7
  · exact Fr.ok (frP_I q_o1_0_2 hm_m7))) _ _ _ (frP_I p16_3 hm_m)
set_option maxRecDepth 100000 in
set_option maxHeartbeats 4000000 in
theorem FRX4_listen_L77 {P : Nat → Nat → Prop} {m0 : ev_M} (f : Nat) (k : ev_M → Option (Unit × ev_M)) (a4 : Int32) (a5 : Int32) (p38 : ∀ k, ¬ P 38 k) (hk : ∀  (xm : ev_M), frP P m0 xm → Fr (frP P m0) (k xm)) : ∀ (n : Nat) (a6 : Int32) (m : ev_M), frP P m0 m → Fr (frP P m0) (FX4_listen_L77 f k a4 a5 n a6 m) := by
  intro n
  induction n with
  | zero => intros; exact Fr.none
  | succ n ih =>
    intro a6 m hm_m
    rw [FX4_listen_L77]
    refine Fr.bd (FRX3_towers _ hm_m) (fun r9 m10 hm_m10 => ?_)
    refine Fr.ite (fun _ => ?_) (fun _ => ?_)
    · exact hk _ hm_m10
    · refine Fr.bd (FRX4_indexOf _ _ _ _ hm_m10) (fun r11 m12 hm_m12 => ?_)
      refine Fr.ite (fun _ => ?_) (fun _ => ?_)
      · refine Fr.ite (fun _ => ?_) (fun _ => ?_)
        · exact ih _ _ (frP_I (p38 _) hm_m12)
        · exact Fr.none
      · exact Fr.none
set_option maxRecDepth 100000 in
set_option maxHeartbeats 4000000 in
theorem FRX4_listen_L53 {P : Nat → Nat → Prop} {m0 : ev_M} (f : Nat) (k : ev_M → Option (Unit × ev_M)) (a4 : Int32) (p16_3 : ¬ P 16 3) (p18_2 : ¬ P 18 2) (p18_3 : ¬ P 18 3) (p18_10 : ¬ P 18 10) (p18_11 : ¬ P 18 11) (p18_12 : ¬ P 18 12) (p18_13 : ¬ P 18 13) (p18_14 : ¬ P 18 14) (p20 : ∀ k, ¬ P 20 k) (p21 : ∀ k, ¬ P 21 k) (p34_2 : ¬ P 34 2) (p34_3 : ¬ P 34 3) (p35 : ∀ k, ¬ P 35 k) (p38 : ∀ k, ¬ P 38 k) (hk : ∀  (xm : ev_M), frP P m0 xm → Fr (frP P m0) (k xm)) : ∀ (n : Nat) (a5 : Int32) (m : ev_M), frP P m0 m → Fr (frP P m0) (FX4_listen_L53 f k a4 n a5 m) := by
  intro n
  induction n with
  | zero => intros; exact Fr.none
  | succ n ih =>
    intro a5 m hm_m
    rw [FX4_listen_L53]
    refine Fr.ite (fun _ => ?_) (fun _ => ?_)
    · exact hk _ hm_m
    · refine Fr.bd (FRX3_go _ 34 _ p16_3 p18_2 p18_3 p18_10 p18_11 p18_12 p18_13 p18_14 p20 p21 p34_2 p34_3 p35 hm_m) (fun _ m8 hm_m8 => ?_)
      exact FRX4_listen_L77 _ _ _ _ p38 ((by
  intro m13 hm_m13
  exact ih _ _ hm_m13)) _ _ _ hm_m8
set_option maxRecDepth 100000 in
set_option maxHeartbeats 4000000 in
theorem FRX4_listen_L24 {P : Nat → Nat → Prop} {m0 : ev_M} (f : Nat) (k : ev_M → Option (Unit × ev_M)) (o1 : Nat) (a2 : Int32) (p16_3 : ¬ P 16 3) (p18_2 : ¬ P 18 2) (p18_3 : ¬ P 18 3) (p18_10 : ¬ P 18 10) (p18_11 : ¬ P 18 11) (p18_12 : ¬ P 18 12) (p18_13 : ¬ P 18 13) (p18_14 : ¬ P 18 14) (p20 : ∀ k, ¬ P 20 k) (p21 : ∀ k, ¬ P 21 k) (p34_2 : ¬ P 34 2) (p34_3 : ¬ P 34 3) (p34_4 : ¬ P 34 4) (p34_5 : ¬ P 34 5) (p35 : ∀ k, ¬ P 35 k) (p36 : ∀ k, ¬ P 36 k) (p38 : ∀ k, ¬ P 38 k) (hk : ∀  (xm : ev_M), frP P m0 xm → Fr (frP P m0) (k xm)) : ∀ (n : Nat) (a4 : Int32) (m : ev_M), frP P m0 m → Fr (frP P m0) (FX4_listen_L24 f k o1 a2 n a4 m) := by
  intro n
  induction n with
  | zero => intros; exact Fr.none
  | succ n ih =>
    intro a4 m hm_m
    rw [FX4_listen_L24]
    refine Fr.ite (fun _ => ?_) (fun _ => ?_)
    · exact hk _ hm_m
    · refine Fr.bd (FRX8_copy _ 34 o1 p34_2 p34_3 p34_4 p34_5 p35 p36 hm_m) (fun _ m6 hm_m6 => ?_)
      refine Fr.ite (fun _ => ?_) (fun _ => ?_)
      · exact FRX4_listen_L53 _ _ _ p16_3 p18_2 p18_3 p18_10 p18_11 p18_12 p18_13 p18_14 p20 p21 p34_2 p34_3 p35 p38 ((by
  intro m14 hm_m14
  exact ih _ _ hm_m14)) _ _ _ (frP_I (p35 _) hm_m6)
      · exact Fr.none
set_option maxRecDepth 100000 in
set_option maxHeartbeats 4000000 in
theorem FRX4_listen {P : Nat → Nat → Prop} {m0 : ev_M} (f : Nat) (o1 : Nat) (a2 : Int32) (a3 : Int32) {m : ev_M} (p16_3 : ¬ P 16 3) (p18_2 : ¬ P 18 2) (p18_3 : ¬ P 18 3) (p18_10 : ¬ P 18 10) (p18_11 : ¬ P 18 11) (p18_12 : ¬ P 18 12) (p18_13 : ¬ P 18 13) (p18_14 : ¬ P 18 14) (p20 : ∀ k, ¬ P 20 k) (p21 : ∀ k, ¬ P 21 k) (p33_5 : ¬ P 33 5) (p34_2 : ¬ P 34 2) (p34_3 : ¬ P 34 3) (p34_4 : ¬ P 34 4) (p34_5 : ¬ P 34 5) (p35 : ∀ k, ¬ P 35 k) (p36 : ∀ k, ¬ P 36 k) (p38 : ∀ k, ¬ P 38 k)  (hm_m : frP P m0 m) : Fr (frP P m0) (FX4_listen f o1 a2 a3 m) := by
  unfold FX4_listen
  refine Fr.bd (FRJ9_min_7cf53 _ _ _ hm_m) (fun r1 m2 hm_m2 => ?_)
  refine Fr.bd (FRJ9_min_7cf53 _ _ _ hm_m2) (fun r3 m4 hm_m4 => ?_)
  exact FRX4_listen_L24 _ _ o1 _ p16_3 p18_2 p18_3 p18_10 p18_11 p18_12 p18_13 p18_14 p20 p21 p34_2 p34_3 p34_4 p34_5 p35 p36 p38 ((by
  intro m15 hm_m15
  exact Fr.ok hm_m15)) _ _ _ (frP_I p33_5 hm_m4)
set_option maxRecDepth 100000 in
set_option maxHeartbeats 4000000 in
theorem FRX4_seekTelling_J79 {P : Nat → Nat → Prop} {m0 : ev_M} (f : Nat) (kt29 : Int32 → ev_M → Option (Unit × ev_M)) (a5 : Int32) {m : ev_M}  (hkt29 : ∀ (x0 : Int32) (xm : ev_M), frP P m0 xm → Fr (frP P m0) (kt29 x0 xm)) (hm_m : frP P m0 m) : Fr (frP P m0) (FX4_seekTelling_J79 f kt29 a5 m) := by
  unfold FX4_seekTelling_J79
  exact hkt29 _ _ hm_m
set_option maxRecDepth 100000 in
set_option maxHeartbeats 4000000 in
theorem FRX4_seekTelling_L29 {P : Nat → Nat → Prop} {m0 : ev_M} (f : Nat) (k : ev_M → Option (Unit × ev_M)) (a3 : Int32) (a4 : Int32) (p33_7 : ¬ P 33 7) (p33_8 : ¬ P 33 8) (p33_9 : ¬ P 33 9) (p39 : ∀ k, ¬ P 39 k) (hk : ∀  (xm : ev_M), frP P m0 xm → Fr (frP P m0) (k xm)) : ∀ (n : Nat) (a5 : Int32) (m : ev_M), frP P m0 m → Fr (frP P m0) (FX4_seekTelling_L29 f k a3 a4 n a5 m) := by
  intro n
  induction n with
  | zero => intros; exact Fr.none
  | succ n ih =>
    intro a5 m hm_m
    rw [FX4_seekTelling_L29]
    refine Fr.bd (FRX3_towers _ hm_m) (fun r3 m4 hm_m4 => ?_)
    refine Fr.ite (fun _ => ?_) (fun _ => ?_)
    · exact hk _ hm_m4
    · refine Fr.bd (FRX4_mostAlike _ _ _ _ p39 hm_m4) (fun r5 m6 hm_m6 => ?_)
      refine Fr.ite (fun _ => ?_) (fun _ => ?_)
      · exact FRX4_seekTelling_J79 _ _ _ ih hm_m6
      · exact FRX4_seekTelling_J79 _ _ _ ih (frP_I p33_8 (frP_I p33_7 (frP_I p33_9 hm_m6)))
set_option maxRecDepth 100000 in
set_option maxHeartbeats 4000000 in
theorem FRX4_seekTelling_L17 {P : Nat → Nat → Prop} {m0 : ev_M} (f : Nat) (k : ev_M → Option (Unit × ev_M)) (a3 : Int32) (p33_7 : ¬ P 33 7) (p33_8 : ¬ P 33 8) (p33_9 : ¬ P 33 9) (p39 : ∀ k, ¬ P 39 k) (hk : ∀  (xm : ev_M), frP P m0 xm → Fr (frP P m0) (k xm)) : ∀ (n : Nat) (a4 : Int32) (m : ev_M), frP P m0 m → Fr (frP P m0) (FX4_seekTelling_L17 f k a3 n a4 m) := by
  intro n
  induction n with
  | zero => intros; exact Fr.none
  | succ n ih =>
    intro a4 m hm_m
    rw [FX4_seekTelling_L17]
    refine Fr.ite (fun _ => ?_) (fun _ => ?_)
    · exact hk _ hm_m
    · exact FRX4_seekTelling_L29 _ _ _ _ p33_7 p33_8 p33_9 p39 ((by
  intro m7 hm_m7
  exact ih _ _ hm_m7)) _ _ _ hm_m
set_option maxRecDepth 100000 in
set_option maxHeartbeats 4000000 in
theorem FRX4_seekTelling {P : Nat → Nat → Prop} {m0 : ev_M} (f : Nat) (o1 : Nat) (a2 : Int32) (a3 : Int32) {m : ev_M} (p16_3 : ¬ P 16 3) (p18_2 : ¬ P 18 2) (p18_3 : ¬ P 18 3) (p18_10 : ¬ P 18 10) (p18_11 : ¬ P 18 11) (p18_12 : ¬ P 18 12) (p18_13 : ¬ P 18 13) (p18_14 : ¬ P 18 14) (p20 : ∀ k, ¬ P 20 k) (p21 : ∀ k, ¬ P 21 k) (p33_5 : ¬ P 33 5) (p33_7 : ¬ P 33 7) (p33_8 : ¬ P 33 8) (p33_9 : ¬ P 33 9) (p34_2 : ¬ P 34 2) (p34_3 : ¬ P 34 3) (p34_4 : ¬ P 34 4) (p34_5 : ¬ P 34 5) (p35 : ∀ k, ¬ P 35 k) (p36 : ∀ k, ¬ P 36 k) (p38 : ∀ k, ¬ P 38 k) (p39 : ∀ k, ¬ P 39 k)  (hm_m : frP P m0 m) : Fr (frP P m0) (FX4_seekTelling f o1 a2 a3 m) := by
  unfold FX4_seekTelling
  refine Fr.bd (FRX4_listen _ o1 _ _ p16_3 p18_2 p18_3 p18_10 p18_11 p18_12 p18_13 p18_14 p20 p21 p33_5 p34_2 p34_3 p34_4 p34_5 p35 p36 p38 hm_m) (fun _ m2 hm_m2 => ?_)
  exact FRX4_seekTelling_L17 _ _ _ p33_7 p33_8 p33_9 p39 ((by
  intro m8 hm_m8
  exact Fr.ok hm_m8)) _ _ _ (frP_I p33_9 hm_m2)
set_option maxRecDepth 100000 in
set_option maxHeartbeats 4000000 in
theorem FRX7_lookAhead_J132 {P : Nat → Nat → Prop} {m0 : ev_M} (f : Nat) (kt68 : Int32 → ev_M → Option (Unit × ev_M)) (a4 : Int32) (s1 : Int32) (s2 : Int32) {m : ev_M} (p28 : ∀ k, ¬ P 28 k) (hkt68 : ∀ (x0 : Int32) (xm : ev_M), frP P m0 xm → Fr (frP P m0) (kt68 x0 xm)) (hm_m : frP P m0 m) : Fr (frP P m0) (FX7_lookAhead_J132 f kt68 a4 s1 s2 m) := by
  unfold FX7_lookAhead_J132
  refine Fr.ite (fun _ => ?_) (fun _ => ?_)
  · exact hkt68 _ _ (frP_I (p28 _) hm_m)
  · exact Fr.none
set_option maxRecDepth 100000 in
set_option maxHeartbeats 4000000 in
theorem FRX7_lookAhead_L68 {P : Nat → Nat → Prop} {m0 : ev_M} (f : Nat) (k : ev_M → Option (Unit × ev_M)) (a3 : Int32) (p19 : ∀ k, ¬ P 19 k) (p28 : ∀ k, ¬ P 28 k) (hk : ∀  (xm : ev_M), frP P m0 xm → Fr (frP P m0) (k xm)) : ∀ (n : Nat) (a4 : Int32) (m : ev_M), frP P m0 m → Fr (frP P m0) (FX7_lookAhead_L68 f k a3 n a4 m) := by
  intro n
  induction n with
  | zero => intros; exact Fr.none
  | succ n ih =>
    intro a4 m hm_m
    rw [FX7_lookAhead_L68]
    refine Fr.bd (FRX3_towers _ hm_m) (fun r9 m10 hm_m10 => ?_)
    refine Fr.ite (fun _ => ?_) (fun _ => ?_)
    · exact hk _ hm_m10
    · refine Fr.ite (fun _ => ?_) (fun _ => ?_)
      · refine Fr.ite (fun _ => ?_) (fun _ => ?_)
        · refine Fr.ite (fun _ => ?_) (fun _ => ?_)
          · refine Fr.ite (fun _ => ?_) (fun _ => ?_)
            · exact FRX7_lookAhead_J132 _ _ _ _ _ p28 ih (frP_I (p19 _) hm_m10)
            · exact Fr.none
          · refine Fr.ite (fun _ => ?_) (fun _ => ?_)
            · exact FRX7_lookAhead_J132 _ _ _ _ _ p28 ih (frP_I (p19 _) hm_m10)
            · exact Fr.none
        · exact Fr.none
      · exact Fr.none
set_option maxRecDepth 100000 in
set_option maxHeartbeats 4000000 in
theorem FRX7_lookAhead_L45 {P : Nat → Nat → Prop} {m0 : ev_M} (f : Nat) (k : ev_M → Option (Unit × ev_M)) (p16_3 : ¬ P 16 3) (p18_2 : ¬ P 18 2) (p18_3 : ¬ P 18 3) (p18_10 : ¬ P 18 10) (p18_11 : ¬ P 18 11) (p18_12 : ¬ P 18 12) (p18_13 : ¬ P 18 13) (p18_14 : ¬ P 18 14) (p19 : ∀ k, ¬ P 19 k) (p20 : ∀ k, ¬ P 20 k) (p21 : ∀ k, ¬ P 21 k) (p25_2 : ¬ P 25 2) (p25_3 : ¬ P 25 3) (p26 : ∀ k, ¬ P 26 k) (p28 : ∀ k, ¬ P 28 k) (hk : ∀  (xm : ev_M), frP P m0 xm → Fr (frP P m0) (k xm)) : ∀ (n : Nat) (a3 : Int32) (m : ev_M), frP P m0 m → Fr (frP P m0) (FX7_lookAhead_L45 f k n a3 m) := by
  intro n
  induction n with
  | zero => intros; exact Fr.none
  | succ n ih =>
    intro a3 m hm_m
    rw [FX7_lookAhead_L45]
    refine Fr.ite (fun _ => ?_) (fun _ => ?_)
    · exact hk _ hm_m
    · refine Fr.bd (FRX3_go _ 25 _ p16_3 p18_2 p18_3 p18_10 p18_11 p18_12 p18_13 p18_14 p20 p21 p25_2 p25_3 p26 hm_m) (fun _ m8 hm_m8 => ?_)
      exact FRX7_lookAhead_L68 _ _ _ p19 p28 ((by
  intro m11 hm_m11
  exact ih _ _ hm_m11)) _ _ _ hm_m8
set_option maxRecDepth 100000 in
set_option maxHeartbeats 4000000 in
theorem FRX7_lookAhead {P : Nat → Nat → Prop} {m0 : ev_M} (f : Nat) (o1 : Nat) {m : ev_M} (p16_3 : ¬ P 16 3) (p17_2 : ¬ P 17 2) (p18_2 : ¬ P 18 2) (p18_3 : ¬ P 18 3) (p18_10 : ¬ P 18 10) (p18_11 : ¬ P 18 11) (p18_12 : ¬ P 18 12) (p18_13 : ¬ P 18 13) (p18_14 : ¬ P 18 14) (p19 : ∀ k, ¬ P 19 k) (p20 : ∀ k, ¬ P 20 k) (p21 : ∀ k, ¬ P 21 k) (p25_2 : ¬ P 25 2) (p25_3 : ¬ P 25 3) (p25_4 : ¬ P 25 4) (p25_5 : ¬ P 25 5) (p26 : ∀ k, ¬ P 26 k) (p27 : ∀ k, ¬ P 27 k) (p28 : ∀ k, ¬ P 28 k)  (hm_m : frP P m0 m) : Fr (frP P m0) (FX7_lookAhead f o1 m) := by
  unfold FX7_lookAhead
  refine Fr.bd (FRJ9_min_7cf53 _ _ _ hm_m) (fun r1 m2 hm_m2 => ?_)
  refine Fr.bd (FRJ9_min_7cf53 _ _ _ hm_m2) (fun r3 m4 hm_m4 => ?_)
  refine Fr.bd (FRX8_copy _ 25 o1 p25_2 p25_3 p25_4 p25_5 p26 p27 (frP_I p17_2 hm_m4)) (fun _ m6 hm_m6 => ?_)
  exact FRX7_lookAhead_L45 _ _ p16_3 p18_2 p18_3 p18_10 p18_11 p18_12 p18_13 p18_14 p19 p20 p21 p25_2 p25_3 p26 p28 ((by
  intro m12 hm_m12
  exact Fr.ok hm_m12)) _ _ _ hm_m6
set_option maxRecDepth 100000 in
set_option maxHeartbeats 4000000 in
theorem FRX11_fire_L22 {P : Nat → Nat → Prop} {m0 : ev_M} (f : Nat) (k : ev_M → Option (Int32 × ev_M)) (p16_3 : ¬ P 16 3) (p18_2 : ¬ P 18 2) (p18_3 : ¬ P 18 3) (p18_10 : ¬ P 18 10) (p18_11 : ¬ P 18 11) (p18_12 : ¬ P 18 12) (p18_13 : ¬ P 18 13) (p18_14 : ¬ P 18 14) (p20 : ∀ k, ¬ P 20 k) (p21 : ∀ k, ¬ P 21 k) (p106_2 : ¬ P 106 2) (p106_3 : ¬ P 106 3) (p107 : ∀ k, ¬ P 107 k) (hk : ∀  (xm : ev_M), frP P m0 xm → Fr (frP P m0) (k xm)) : ∀ (n : Nat) (a1 : Int32) (m : ev_M), frP P m0 m → Fr (frP P m0) (FX11_fire_L22 f k n a1 m) := by
  intro n
  induction n with
  | zero => intros; exact Fr.none
  | succ n ih =>
    intro a1 m hm_m
    rw [FX11_fire_L22]
    refine Fr.ite (fun _ => ?_) (fun _ => ?_)
    · exact hk _ hm_m
    · refine Fr.bd (FRX8_hasNext _ 106 hm_m) (fun r5 m6 hm_m6 => ?_)
      refine Fr.ite (fun _ => ?_) (fun _ => ?_)
      · exact hk _ hm_m6
      · refine Fr.bd (FRX3_go _ 106 _ p16_3 p18_2 p18_3 p18_10 p18_11 p18_12 p18_13 p18_14 p20 p21 p106_2 p106_3 p107 hm_m6) (fun _ m8 hm_m8 => ?_)
        refine Fr.bd (FRX3_isFire _ hm_m8) (fun r9 m10 hm_m10 => ?_)
        refine Fr.ite (fun _ => ?_) (fun _ => ?_)
        · exact ih _ _ hm_m10
        · exact Fr.ok hm_m10
set_option maxRecDepth 100000 in
set_option maxHeartbeats 4000000 in
theorem FRX11_fire {P : Nat → Nat → Prop} {m0 : ev_M} (f : Nat) {m : ev_M} (p16_3 : ¬ P 16 3) (p18_2 : ¬ P 18 2) (p18_3 : ¬ P 18 3) (p18_10 : ¬ P 18 10) (p18_11 : ¬ P 18 11) (p18_12 : ¬ P 18 12) (p18_13 : ¬ P 18 13) (p18_14 : ¬ P 18 14) (p20 : ∀ k, ¬ P 20 k) (p21 : ∀ k, ¬ P 21 k) (p106_2 : ¬ P 106 2) (p106_3 : ¬ P 106 3) (p106_4 : ¬ P 106 4) (p106_5 : ¬ P 106 5) (p107 : ∀ k, ¬ P 107 k) (p108 : ∀ k, ¬ P 108 k)  (hm_m : frP P m0 m) : Fr (frP P m0) (FX11_fire f m) := by
  unfold FX11_fire
  refine Fr.bd (FRX11_isTold _ hm_m) (fun r1 m2 hm_m2 => ?_)
  refine Fr.ite (fun _ => ?_) (fun _ => ?_)
  · exact Fr.ok hm_m2
  · refine Fr.bd (FRX8_copy _ 106 103 p106_2 p106_3 p106_4 p106_5 p107 p108 hm_m2) (fun _ m4 hm_m4 => ?_)
    exact FRX11_fire_L22 _ _ p16_3 p18_2 p18_3 p18_10 p18_11 p18_12 p18_13 p18_14 p20 p21 p106_2 p106_3 p107 ((by
  intro m11 hm_m11
  exact Fr.ok hm_m11)) _ _ _ hm_m4
set_option maxRecDepth 100000 in
set_option maxHeartbeats 4000000 in
theorem FRX11_settles_L51 {P : Nat → Nat → Prop} {m0 : ev_M} (f : Nat) (k : Int32 → Int32 → ev_M → Option (Int32 × ev_M)) (p16_3 : ¬ P 16 3) (p18_2 : ¬ P 18 2) (p18_3 : ¬ P 18 3) (p18_10 : ¬ P 18 10) (p18_11 : ¬ P 18 11) (p18_12 : ¬ P 18 12) (p18_13 : ¬ P 18 13) (p18_14 : ¬ P 18 14) (p20 : ∀ k, ¬ P 20 k) (p21 : ∀ k, ¬ P 21 k) (p106_2 : ¬ P 106 2) (p106_3 : ¬ P 106 3) (p107 : ∀ k, ¬ P 107 k) (p111 : ∀ k, ¬ P 111 k) (hk : ∀ (x0 : Int32) (x1 : Int32) (xm : ev_M), frP P m0 xm → Fr (frP P m0) (k x0 x1 xm)) : ∀ (n : Nat) (a2 : Int32) (m : ev_M), frP P m0 m → Fr (frP P m0) (FX11_settles_L51 f k n a2 m) := by
  intro n
  induction n with
  | zero => intros; exact Fr.none
  | succ n ih =>
    intro a2 m hm_m
    rw [FX11_settles_L51]
    refine Fr.ite (fun _ => ?_) (fun _ => ?_)
    · exact Fr.ok hm_m
    · refine Fr.bd (FRX8_hasNext _ 106 hm_m) (fun r8 m9 hm_m9 => ?_)
      refine Fr.ite (fun _ => ?_) (fun _ => ?_)
      · exact Fr.ok hm_m9
      · refine Fr.bd (FRX3_go _ 106 _ p16_3 p18_2 p18_3 p18_10 p18_11 p18_12 p18_13 p18_14 p20 p21 p106_2 p106_3 p107 hm_m9) (fun _ m11 hm_m11 => ?_)
        refine Fr.ite (fun hk1 => ?_) (fun _ => ?_)
        · refine Fr.bd (FRX8_feature _ 106 _ hm_m11) (fun r13 m14 hm_m14 => ?_)
          refine Fr.ite (fun _ => ?_) (fun _ => ?_)
          · refine Fr.bd (FRX11_indexBelow _ _ (frP_L (p111 _) hm_m14)) (fun r15 m16 hm_m16 => ?_)
            refine Fr.ite (fun _ => ?_) (fun _ => ?_)
            · exact ih _ _ hm_m16
            · exact hk _ _ _ hm_m16
          · exact Fr.none
        · exact Fr.none
set_option maxRecDepth 100000 in
set_option maxHeartbeats 4000000 in
theorem FRX11_settles {P : Nat → Nat → Prop} {m0 : ev_M} (f : Nat) (a1 : Int32) {m : ev_M} (p16_3 : ¬ P 16 3) (p18_2 : ¬ P 18 2) (p18_3 : ¬ P 18 3) (p18_10 : ¬ P 18 10) (p18_11 : ¬ P 18 11) (p18_12 : ¬ P 18 12) (p18_13 : ¬ P 18 13) (p18_14 : ¬ P 18 14) (p20 : ∀ k, ¬ P 20 k) (p21 : ∀ k, ¬ P 21 k) (p106_2 : ¬ P 106 2) (p106_3 : ¬ P 106 3) (p106_4 : ¬ P 106 4) (p106_5 : ¬ P 106 5) (p107 : ∀ k, ¬ P 107 k) (p108 : ∀ k, ¬ P 108 k) (p111 : ∀ k, ¬ P 111 k)  (hm_m : frP P m0 m) : Fr (frP P m0) (FX11_settles f a1 m) := by
  unfold FX11_settles
  refine Fr.bd (FRX11_isTold _ hm_m) (fun r1 m2 hm_m2 => ?_)
  refine Fr.ite (fun _ => ?_) (fun _ => ?_)
  · exact Fr.ok hm_m2
  · refine Fr.ite (fun _ => ?_) (fun _ => ?_)
    · exact Fr.ok hm_m2
    · refine Fr.ite (fun _ => ?_) (fun _ => ?_)
      · refine Fr.bd (FRX8_copy _ 106 103 p106_2 p106_3 p106_4 p106_5 p107 p108 hm_m2) (fun _ m4 hm_m4 => ?_)
        refine Fr.ite (fun hk1 => ?_) (fun _ => ?_)
        · refine Fr.bd (FRX8_feature _ 106 _ hm_m4) (fun r6 m7 hm_m7 => ?_)
          exact FRX11_settles_L51 _ _ p16_3 p18_2 p18_3 p18_10 p18_11 p18_12 p18_13 p18_14 p20 p21 p106_2 p106_3 p107 p111 ((by
  intro e17 e18 m19 hm_m19
  refine Fr.ite (fun _ => ?_) (fun _ => ?_)
  · exact Fr.ok hm_m19
  · exact Fr.ok hm_m19)) _ _ _ (frP_L (p111 0) hm_m7)
        · exact Fr.none
      · exact Fr.ok hm_m2
set_option maxRecDepth 100000 in
set_option maxHeartbeats 4000000 in
theorem FRX11_rule_J80 {P : Nat → Nat → Prop} {m0 : ev_M} (f : Nat) (kt47 : Int32 → Int32 → ev_M → Option (Int32 × ev_M)) (a3 : Int32) (a4 : Int32) {m : ev_M}  (hkt47 : ∀ (x0 : Int32) (x1 : Int32) (xm : ev_M), frP P m0 xm → Fr (frP P m0) (kt47 x0 x1 xm)) (hm_m : frP P m0 m) : Fr (frP P m0) (FX11_rule_J80 f kt47 a3 a4 m) := by
  unfold FX11_rule_J80
  exact hkt47 _ _ _ hm_m
set_option maxRecDepth 100000 in
set_option maxHeartbeats 4000000 in
theorem FRX11_rule_L47 {P : Nat → Nat → Prop} {m0 : ev_M} (f : Nat) (k : Int32 → ev_M → Option (Int32 × ev_M)) (a1 : Int32) (a2 : Int32) (p16_3 : ¬ P 16 3) (p18_2 : ¬ P 18 2) (p18_3 : ¬ P 18 3) (p18_10 : ¬ P 18 10) (p18_11 : ¬ P 18 11) (p18_12 : ¬ P 18 12) (p18_13 : ¬ P 18 13) (p18_14 : ¬ P 18 14) (p20 : ∀ k, ¬ P 20 k) (p21 : ∀ k, ¬ P 21 k) (p106_2 : ¬ P 106 2) (p106_3 : ¬ P 106 3) (p107 : ∀ k, ¬ P 107 k) (hk : ∀ (x0 : Int32) (xm : ev_M), frP P m0 xm → Fr (frP P m0) (k x0 xm)) : ∀ (n : Nat) (a3 : Int32) (a4 : Int32) (m : ev_M), frP P m0 m → Fr (frP P m0) (FX11_rule_L47 f k a1 a2 n a3 a4 m) := by
  intro n
  induction n with
  | zero => intros; exact Fr.none
  | succ n ih =>
    intro a3 a4 m hm_m
    rw [FX11_rule_L47]
    refine Fr.ite (fun _ => ?_) (fun _ => ?_)
    · exact hk _ _ hm_m
    · refine Fr.bd (FRX3_go _ 106 _ p16_3 p18_2 p18_3 p18_10 p18_11 p18_12 p18_13 p18_14 p20 p21 p106_2 p106_3 p107 hm_m) (fun _ m8 hm_m8 => ?_)
      refine Fr.bd (FRX3_rowOf _ _ hm_m8) (fun r9 m10 hm_m10 => ?_)
      refine Fr.ite (fun _ => ?_) (fun _ => ?_)
      · exact FRX11_rule_J80 _ _ _ _ ih hm_m10
      · exact FRX11_rule_J80 _ _ _ _ ih hm_m10
set_option maxRecDepth 100000 in
set_option maxHeartbeats 4000000 in
theorem FRX11_rule {P : Nat → Nat → Prop} {m0 : ev_M} (f : Nat) (a1 : Int32) (a2 : Int32) {m : ev_M} (p16_3 : ¬ P 16 3) (p18_2 : ¬ P 18 2) (p18_3 : ¬ P 18 3) (p18_10 : ¬ P 18 10) (p18_11 : ¬ P 18 11) (p18_12 : ¬ P 18 12) (p18_13 : ¬ P 18 13) (p18_14 : ¬ P 18 14) (p20 : ∀ k, ¬ P 20 k) (p21 : ∀ k, ¬ P 21 k) (p106_2 : ¬ P 106 2) (p106_3 : ¬ P 106 3) (p106_4 : ¬ P 106 4) (p106_5 : ¬ P 106 5) (p107 : ∀ k, ¬ P 107 k) (p108 : ∀ k, ¬ P 108 k)  (hm_m : frP P m0 m) : Fr (frP P m0) (FX11_rule f a1 a2 m) := by
  unfold FX11_rule
  refine Fr.bd (FRX11_isTold _ hm_m) (fun r1 m2 hm_m2 => ?_)
  refine Fr.ite (fun _ => ?_) (fun _ => ?_)
  · exact Fr.ok hm_m2
  · refine Fr.ite (fun _ => ?_) (fun _ => ?_)
    · exact Fr.ok hm_m2
    · refine Fr.ite (fun _ => ?_) (fun _ => ?_)
      · exact Fr.ok hm_m2
      · refine Fr.bd (FRX11_canBeAhead _ _ _ _ hm_m2) (fun r3 m4 hm_m4 => ?_)
        refine Fr.ite (fun _ => ?_) (fun _ => ?_)
        · exact Fr.ok hm_m4
        · refine Fr.bd (FRX8_copy _ 106 103 p106_2 p106_3 p106_4 p106_5 p107 p108 hm_m4) (fun _ m6 hm_m6 => ?_)
          exact FRX11_rule_L47 _ _ _ _ p16_3 p18_2 p18_3 p18_10 p18_11 p18_12 p18_13 p18_14 p20 p21 p106_2 p106_3 p107 ((by
  intro e11 m12 hm_m12
  exact Fr.ok hm_m12)) _ _ _ _ hm_m6
set_option maxRecDepth 100000 in
set_option maxHeartbeats 4000000 in
theorem FRX11_goAhead_L13 {P : Nat → Nat → Prop} {m0 : ev_M} (f : Nat) (k : ev_M → Option (Unit × ev_M)) (a1 : Int32) (p16_3 : ¬ P 16 3) (p18_2 : ¬ P 18 2) (p18_3 : ¬ P 18 3) (p18_10 : ¬ P 18 10) (p18_11 : ¬ P 18 11) (p18_12 : ¬ P 18 12) (p18_13 : ¬ P 18 13) (p18_14 : ¬ P 18 14) (p20 : ∀ k, ¬ P 20 k) (p21 : ∀ k, ¬ P 21 k) (p106_2 : ¬ P 106 2) (p106_3 : ¬ P 106 3) (p107 : ∀ k, ¬ P 107 k) (hk : ∀  (xm : ev_M), frP P m0 xm → Fr (frP P m0) (k xm)) : ∀ (n : Nat) (a2 : Int32) (m : ev_M), frP P m0 m → Fr (frP P m0) (FX11_goAhead_L13 f k a1 n a2 m) := by
  intro n
  induction n with
  | zero => intros; exact Fr.none
  | succ n ih =>
    intro a2 m hm_m
    rw [FX11_goAhead_L13]
    refine Fr.ite (fun _ => ?_) (fun _ => ?_)
    · exact hk _ hm_m
    · refine Fr.bd (FRX3_go _ 106 _ p16_3 p18_2 p18_3 p18_10 p18_11 p18_12 p18_13 p18_14 p20 p21 p106_2 p106_3 p107 hm_m) (fun _ m4 hm_m4 => ?_)
      exact ih _ _ hm_m4
set_option maxRecDepth 100000 in
set_option maxHeartbeats 4000000 in
theorem FRX11_goAhead {P : Nat → Nat → Prop} {m0 : ev_M} (f : Nat) (a1 : Int32) {m : ev_M} (p16_3 : ¬ P 16 3) (p18_2 : ¬ P 18 2) (p18_3 : ¬ P 18 3) (p18_10 : ¬ P 18 10) (p18_11 : ¬ P 18 11) (p18_12 : ¬ P 18 12) (p18_13 : ¬ P 18 13) (p18_14 : ¬ P 18 14) (p20 : ∀ k, ¬ P 20 k) (p21 : ∀ k, ¬ P 21 k) (p106_2 : ¬ P 106 2) (p106_3 : ¬ P 106 3) (p106_4 : ¬ P 106 4) (p106_5 : ¬ P 106 5) (p107 : ∀ k, ¬ P 107 k) (p108 : ∀ k, ¬ P 108 k)  (hm_m : frP P m0 m) : Fr (frP P m0) (FX11_goAhead f a1 m) := by
  unfold FX11_goAhead
  refine Fr.bd (FRX8_copy _ 106 103 p106_2 p106_3 p106_4 p106_5 p107 p108 hm_m) (fun _ m2 hm_m2 => ?_)
  exact FRX11_goAhead_L13 _ _ _ p16_3 p18_2 p18_3 p18_10 p18_11 p18_12 p18_13 p18_14 p20 p21 p106_2 p106_3 p107 ((by
  intro m5 hm_m5
  exact Fr.ok hm_m5)) _ _ _ hm_m2
set_option maxRecDepth 100000 in
set_option maxHeartbeats 4000000 in
theorem FRX11_goOn {P : Nat → Nat → Prop} {m0 : ev_M} (f : Nat) {m : ev_M} (p16_3 : ¬ P 16 3) (p18_2 : ¬ P 18 2) (p18_3 : ¬ P 18 3) (p18_10 : ¬ P 18 10) (p18_11 : ¬ P 18 11) (p18_12 : ¬ P 18 12) (p18_13 : ¬ P 18 13) (p18_14 : ¬ P 18 14) (p20 : ∀ k, ¬ P 20 k) (p21 : ∀ k, ¬ P 21 k) (p42 : ∀ k, ¬ P 42 k) (p103_2 : ¬ P 103 2) (p103_3 : ¬ P 103 3) (p103_5 : ¬ P 103 5) (p104 : ∀ k, ¬ P 104 k)  (hm_m : frP P m0 m) : Fr (frP P m0) (FX11_goOn f m) := by
  unfold FX11_goOn
  refine Fr.bd (FRX3_go _ 103 _ p16_3 p18_2 p18_3 p18_10 p18_11 p18_12 p18_13 p18_14 p20 p21 p103_2 p103_3 p104 hm_m) (fun _ m2 hm_m2 => ?_)
  refine Fr.ite (fun hk1 => ?_) (fun _ => ?_)
  · refine Fr.bd (FRX3_rowOf _ _ hm_m2) (fun r4 m5 hm_m5 => ?_)
    refine Fr.ite (fun _ => ?_) (fun _ => ?_)
    · exact Fr.ok hm_m5
    · refine Fr.bd (FRX3_doubtfulOnes _ hm_m5) (fun r6 m7 hm_m7 => ?_)
      refine Fr.bd (FRX6_addFire _ _ _ _ _ p42 hm_m7) (fun r8 m9 hm_m9 => ?_)
      exact Fr.ok (frP_I p103_5 hm_m9)
  · exact Fr.none
set_option maxRecDepth 100000 in
set_option maxHeartbeats 4000000 in
theorem FRX0_fires_J45 {P : Nat → Nat → Prop} {m0 : ev_M} (f : Nat) (kt11 : Int32 → ev_M → Option (Int32 × ev_M)) (a5 : Int32) {m : ev_M}  (hkt11 : ∀ (x0 : Int32) (xm : ev_M), frP P m0 xm → Fr (frP P m0) (kt11 x0 xm)) (hm_m : frP P m0 m) : Fr (frP P m0) (FX0_fires_J45 f kt11 a5 m) := by
  unfold FX0_fires_J45
  exact hkt11 _ _ hm_m
set_option maxRecDepth 100000 in
set_option maxHeartbeats 4000000 in
theorem FRX0_fires_L11 {P : Nat → Nat → Prop} {m0 : ev_M} (f : Nat) (k : ev_M → Option (Int32 × ev_M)) (a3 : Int32) (p32 : ∀ k, ¬ P 32 k) (hk : ∀  (xm : ev_M), frP P m0 xm → Fr (frP P m0) (k xm)) : ∀ (n : Nat) (a5 : Int32) (m : ev_M), frP P m0 m → Fr (frP P m0) (FX0_fires_L11 f k a3 n a5 m) := by
  intro n
  induction n with
  | zero => intros; exact Fr.none
  | succ n ih =>
    intro a5 m hm_m
    rw [FX0_fires_L11]
    refine Fr.bd (FRX3_towers _ hm_m) (fun r3 m4 hm_m4 => ?_)
    refine Fr.ite (fun _ => ?_) (fun _ => ?_)
    · exact hk _ hm_m4
    · refine Fr.ite (fun _ => ?_) (fun _ => ?_)
      · refine Fr.ite (fun _ => ?_) (fun _ => ?_)
        · exact FRX0_fires_J45 _ _ _ ih (frP_I (p32 _) hm_m4)
        · exact Fr.none
      · exact FRX0_fires_J45 _ _ _ ih hm_m4
set_option maxRecDepth 100000 in
set_option maxHeartbeats 4000000 in
theorem FRX0_fires_J79 {P : Nat → Nat → Prop} {m0 : ev_M} (f : Nat) (kt54 : Int32 → ev_M → Option (Int32 × ev_M)) (a5 : Int32) (s2 : Int32) {m : ev_M} (p16_3 : ¬ P 16 3) (p18_2 : ¬ P 18 2) (p18_3 : ¬ P 18 3) (p18_10 : ¬ P 18 10) (p18_11 : ¬ P 18 11) (p18_12 : ¬ P 18 12) (p18_13 : ¬ P 18 13) (p18_14 : ¬ P 18 14) (p20 : ∀ k, ¬ P 20 k) (p21 : ∀ k, ¬ P 21 k) (p30_2 : ¬ P 30 2) (p30_3 : ¬ P 30 3) (p31 : ∀ k, ¬ P 31 k) (hkt54 : ∀ (x0 : Int32) (xm : ev_M), frP P m0 xm → Fr (frP P m0) (kt54 x0 xm)) (hm_m : frP P m0 m) : Fr (frP P m0) (FX0_fires_J79 f kt54 a5 s2 m) := by
  unfold FX0_fires_J79
  refine Fr.bd (FRX3_go _ 30 _ p16_3 p18_2 p18_3 p18_10 p18_11 p18_12 p18_13 p18_14 p20 p21 p30_2 p30_3 p31 hm_m) (fun _ m7 hm_m7 => ?_)
  refine Fr.bd (FRX3_isFire _ hm_m7) (fun r8 m9 hm_m9 => ?_)
  refine Fr.ite (fun _ => ?_) (fun _ => ?_)
  · exact hkt54 _ _ hm_m9
  · exact Fr.ok hm_m9
set_option maxRecDepth 100000 in
set_option maxHeartbeats 4000000 in
theorem FRX0_fires_L54 {P : Nat → Nat → Prop} {m0 : ev_M} (f : Nat) (k : ev_M → Option (Int32 × ev_M)) (a2 : Int32) (a4 : Int32) (p16_3 : ¬ P 16 3) (p18_2 : ¬ P 18 2) (p18_3 : ¬ P 18 3) (p18_10 : ¬ P 18 10) (p18_11 : ¬ P 18 11) (p18_12 : ¬ P 18 12) (p18_13 : ¬ P 18 13) (p18_14 : ¬ P 18 14) (p20 : ∀ k, ¬ P 20 k) (p21 : ∀ k, ¬ P 21 k) (p30_2 : ¬ P 30 2) (p30_3 : ¬ P 30 3) (p31 : ∀ k, ¬ P 31 k) (hk : ∀  (xm : ev_M), frP P m0 xm → Fr (frP P m0) (k xm)) : ∀ (n : Nat) (a5 : Int32) (m : ev_M), frP P m0 m → Fr (frP P m0) (FX0_fires_L54 f k a2 a4 n a5 m) := by
  intro n
  induction n with
  | zero => intros; exact Fr.none
  | succ n ih =>
    intro a5 m hm_m
    rw [FX0_fires_L54]
    refine Fr.ite (fun _ => ?_) (fun _ => ?_)
    · exact hk _ hm_m
    · refine Fr.ite (fun _ => ?_) (fun _ => ?_)
      · exact FRX0_fires_J79 _ _ _ _ p16_3 p18_2 p18_3 p18_10 p18_11 p18_12 p18_13 p18_14 p20 p21 p30_2 p30_3 p31 ih hm_m
      · exact FRX0_fires_J79 _ _ _ _ p16_3 p18_2 p18_3 p18_10 p18_11 p18_12 p18_13 p18_14 p20 p21 p30_2 p30_3 p31 ih hm_m
set_option maxRecDepth 100000 in
set_option maxHeartbeats 4000000 in
theorem FRX0_fires {P : Nat → Nat → Prop} {m0 : ev_M} (f : Nat) (o1 : Nat) (a2 : Int32) (a3 : Int32) (a4 : Int32) {m : ev_M} (p16_3 : ¬ P 16 3) (p18_2 : ¬ P 18 2) (p18_3 : ¬ P 18 3) (p18_10 : ¬ P 18 10) (p18_11 : ¬ P 18 11) (p18_12 : ¬ P 18 12) (p18_13 : ¬ P 18 13) (p18_14 : ¬ P 18 14) (p20 : ∀ k, ¬ P 20 k) (p21 : ∀ k, ¬ P 21 k) (p30_2 : ¬ P 30 2) (p30_3 : ¬ P 30 3) (p30_4 : ¬ P 30 4) (p30_5 : ¬ P 30 5) (p31 : ∀ k, ¬ P 31 k) (p32 : ∀ k, ¬ P 32 k)  (hm_m : frP P m0 m) : Fr (frP P m0) (FX0_fires f o1 a2 a3 a4 m) := by
  unfold FX0_fires
  refine Fr.bd (FRX8_copy _ 30 o1 p30_2 p30_3 p30_4 p30_5 p31 p32 hm_m) (fun _ m2 hm_m2 => ?_)
  exact FRX0_fires_L11 _ _ _ p32 ((by
  intro m5 hm_m5
  exact FRX0_fires_L54 _ _ _ _ p16_3 p18_2 p18_3 p18_10 p18_11 p18_12 p18_13 p18_14 p20 p21 p30_2 p30_3 p31 ((by
  intro m10 hm_m10
  exact Fr.ok hm_m10)) _ _ _ hm_m5)) _ _ _ hm_m2
set_option maxRecDepth 100000 in
set_option maxHeartbeats 4000000 in
theorem FRX0_tryRounds_L4 {P : Nat → Nat → Prop} {m0 : ev_M} (f : Nat) (k : Int32 → ev_M → Option (Int32 × ev_M)) (a1 : Int32) (p16_3 : ¬ P 16 3) (p18_2 : ¬ P 18 2) (p18_3 : ¬ P 18 3) (p18_10 : ¬ P 18 10) (p18_11 : ¬ P 18 11) (p18_12 : ¬ P 18 12) (p18_13 : ¬ P 18 13) (p18_14 : ¬ P 18 14) (p20 : ∀ k, ¬ P 20 k) (p21 : ∀ k, ¬ P 21 k) (p30_2 : ¬ P 30 2) (p30_3 : ¬ P 30 3) (p31 : ∀ k, ¬ P 31 k) (hk : ∀ (x0 : Int32) (xm : ev_M), frP P m0 xm → Fr (frP P m0) (k x0 xm)) : ∀ (n : Nat) (a2 : Int32) (a3 : Int32) (m : ev_M), frP P m0 m → Fr (frP P m0) (FX0_tryRounds_L4 f k a1 n a2 a3 m) := by
  intro n
  induction n with
  | zero => intros; exact Fr.none
  | succ n ih =>
    intro a2 a3 m hm_m
    rw [FX0_tryRounds_L4]
    refine Fr.ite (fun _ => ?_) (fun _ => ?_)
    · exact hk _ _ hm_m
    · refine Fr.bd (FRX3_go _ 30 _ p16_3 p18_2 p18_3 p18_10 p18_11 p18_12 p18_13 p18_14 p20 p21 p30_2 p30_3 p31 hm_m) (fun _ m2 hm_m2 => ?_)
      refine Fr.bd (FRX3_doubtfulOnes _ hm_m2) (fun r3 m4 hm_m4 => ?_)
      exact ih _ _ _ hm_m4
set_option maxRecDepth 100000 in
set_option maxHeartbeats 4000000 in
theorem FRX0_tryRounds {P : Nat → Nat → Prop} {m0 : ev_M} (f : Nat) (a1 : Int32) {m : ev_M} (p16_3 : ¬ P 16 3) (p18_2 : ¬ P 18 2) (p18_3 : ¬ P 18 3) (p18_10 : ¬ P 18 10) (p18_11 : ¬ P 18 11) (p18_12 : ¬ P 18 12) (p18_13 : ¬ P 18 13) (p18_14 : ¬ P 18 14) (p20 : ∀ k, ¬ P 20 k) (p21 : ∀ k, ¬ P 21 k) (p30_2 : ¬ P 30 2) (p30_3 : ¬ P 30 3) (p31 : ∀ k, ¬ P 31 k)  (hm_m : frP P m0 m) : Fr (frP P m0) (FX0_tryRounds f a1 m) := by
  unfold FX0_tryRounds
  exact FRX0_tryRounds_L4 _ _ _ p16_3 p18_2 p18_3 p18_10 p18_11 p18_12 p18_13 p18_14 p20 p21 p30_2 p30_3 p31 ((by
  intro e5 m6 hm_m6
  exact Fr.ok hm_m6)) _ _ _ _ hm_m
set_option maxRecDepth 100000 in
set_option maxHeartbeats 4000000 in
theorem FRX0_worstBySigh_J69 {P : Nat → Nat → Prop} {m0 : ev_M} (f : Nat) (kt5 : Int32 → Int32 → ev_M → Option (Int32 × ev_M)) (a3 : Int32) (a4 : Int32) (s2 : Int32) {m : ev_M} (p16_3 : ¬ P 16 3) (p18_2 : ¬ P 18 2) (p18_3 : ¬ P 18 3) (p18_10 : ¬ P 18 10) (p18_11 : ¬ P 18 11) (p18_12 : ¬ P 18 12) (p18_13 : ¬ P 18 13) (p18_14 : ¬ P 18 14) (p20 : ∀ k, ¬ P 20 k) (p21 : ∀ k, ¬ P 21 k) (p30_2 : ¬ P 30 2) (p30_3 : ¬ P 30 3) (p31 : ∀ k, ¬ P 31 k) (hkt5 : ∀ (x0 : Int32) (x1 : Int32) (xm : ev_M), frP P m0 xm → Fr (frP P m0) (kt5 x0 x1 xm)) (hm_m : frP P m0 m) : Fr (frP P m0) (FX0_worstBySigh_J69 f kt5 a3 a4 s2 m) := by
  unfold FX0_worstBySigh_J69
  refine Fr.bd (FRX3_go _ 30 _ p16_3 p18_2 p18_3 p18_10 p18_11 p18_12 p18_13 p18_14 p20 p21 p30_2 p30_3 p31 hm_m) (fun _ m6 hm_m6 => ?_)
  refine Fr.bd (FRX3_doubtfulOnes _ hm_m6) (fun r7 m8 hm_m8 => ?_)
  refine Fr.bd (FRJ9_max_7cf53 _ _ _ hm_m8) (fun r9 m10 hm_m10 => ?_)
  exact hkt5 _ _ _ hm_m10
set_option maxRecDepth 100000 in
set_option maxHeartbeats 4000000 in
theorem FRX0_worstBySigh_J46 {P : Nat → Nat → Prop} {m0 : ev_M} (f : Nat) (kt5 : Int32 → Int32 → ev_M → Option (Int32 × ev_M)) (a3 : Int32) (a4 : Int32) {m : ev_M} (p16_3 : ¬ P 16 3) (p18_2 : ¬ P 18 2) (p18_3 : ¬ P 18 3) (p18_10 : ¬ P 18 10) (p18_11 : ¬ P 18 11) (p18_12 : ¬ P 18 12) (p18_13 : ¬ P 18 13) (p18_14 : ¬ P 18 14) (p20 : ∀ k, ¬ P 20 k) (p21 : ∀ k, ¬ P 21 k) (p30_2 : ¬ P 30 2) (p30_3 : ¬ P 30 3) (p31 : ∀ k, ¬ P 31 k) (hkt5 : ∀ (x0 : Int32) (x1 : Int32) (xm : ev_M), frP P m0 xm → Fr (frP P m0) (kt5 x0 x1 xm)) (hm_m : frP P m0 m) : Fr (frP P m0) (FX0_worstBySigh_J46 f kt5 a3 a4 m) := by
  unfold FX0_worstBySigh_J46
  refine Fr.ite (fun _ => ?_) (fun _ => ?_)
  · exact FRX0_worstBySigh_J69 _ _ _ _ _ p16_3 p18_2 p18_3 p18_10 p18_11 p18_12 p18_13 p18_14 p20 p21 p30_2 p30_3 p31 hkt5 hm_m
  · exact FRX0_worstBySigh_J69 _ _ _ _ _ p16_3 p18_2 p18_3 p18_10 p18_11 p18_12 p18_13 p18_14 p20 p21 p30_2 p30_3 p31 hkt5 hm_m
set_option maxRecDepth 100000 in
set_option maxHeartbeats 4000000 in
theorem FRX0_worstBySigh_L5 {P : Nat → Nat → Prop} {m0 : ev_M} (f : Nat) (k : Int32 → ev_M → Option (Int32 × ev_M)) (o1 : Nat) (a2 : Int32) (p16_3 : ¬ P 16 3) (p18_2 : ¬ P 18 2) (p18_3 : ¬ P 18 3) (p18_10 : ¬ P 18 10) (p18_11 : ¬ P 18 11) (p18_12 : ¬ P 18 12) (p18_13 : ¬ P 18 13) (p18_14 : ¬ P 18 14) (p20 : ∀ k, ¬ P 20 k) (p21 : ∀ k, ¬ P 21 k) (p30_2 : ¬ P 30 2) (p30_3 : ¬ P 30 3) (p30_4 : ¬ P 30 4) (p30_5 : ¬ P 30 5) (p31 : ∀ k, ¬ P 31 k) (p32 : ∀ k, ¬ P 32 k) (hk : ∀ (x0 : Int32) (xm : ev_M), frP P m0 xm → Fr (frP P m0) (k x0 xm)) : ∀ (n : Nat) (a3 : Int32) (a4 : Int32) (m : ev_M), frP P m0 m → Fr (frP P m0) (FX0_worstBySigh_L5 f k o1 a2 n a3 a4 m) := by
  intro n
  induction n with
  | zero => intros; exact Fr.none
  | succ n ih =>
    intro a3 a4 m hm_m
    rw [FX0_worstBySigh_L5]
    refine Fr.bd (FRX3_towers _ hm_m) (fun r1 m2 hm_m2 => ?_)
    refine Fr.ite (fun _ => ?_) (fun _ => ?_)
    · exact hk _ _ hm_m2
    · refine Fr.bd (FRX8_copy _ 30 o1 p30_2 p30_3 p30_4 p30_5 p31 p32 hm_m2) (fun _ m4 hm_m4 => ?_)
      refine Fr.ite (fun _ => ?_) (fun _ => ?_)
      · exact FRX0_worstBySigh_J46 _ _ _ _ p16_3 p18_2 p18_3 p18_10 p18_11 p18_12 p18_13 p18_14 p20 p21 p30_2 p30_3 p31 ih hm_m4
      · refine Fr.ite (fun _ => ?_) (fun _ => ?_)
        · exact FRX0_worstBySigh_J46 _ _ _ _ p16_3 p18_2 p18_3 p18_10 p18_11 p18_12 p18_13 p18_14 p20 p21 p30_2 p30_3 p31 ih hm_m4
        · refine Fr.ite (fun _ => ?_) (fun _ => ?_)
          · exact FRX0_worstBySigh_J46 _ _ _ _ p16_3 p18_2 p18_3 p18_10 p18_11 p18_12 p18_13 p18_14 p20 p21 p30_2 p30_3 p31 ih (frP_I (p32 _) hm_m4)
          · exact Fr.none
set_option maxRecDepth 100000 in
set_option maxHeartbeats 4000000 in
theorem FRX0_worstBySigh {P : Nat → Nat → Prop} {m0 : ev_M} (f : Nat) (o1 : Nat) (a2 : Int32) {m : ev_M} (p16_3 : ¬ P 16 3) (p18_2 : ¬ P 18 2) (p18_3 : ¬ P 18 3) (p18_10 : ¬ P 18 10) (p18_11 : ¬ P 18 11) (p18_12 : ¬ P 18 12) (p18_13 : ¬ P 18 13) (p18_14 : ¬ P 18 14) (p20 : ∀ k, ¬ P 20 k) (p21 : ∀ k, ¬ P 21 k) (p30_2 : ¬ P 30 2) (p30_3 : ¬ P 30 3) (p30_4 : ¬ P 30 4) (p30_5 : ¬ P 30 5) (p31 : ∀ k, ¬ P 31 k) (p32 : ∀ k, ¬ P 32 k)  (hm_m : frP P m0 m) : Fr (frP P m0) (FX0_worstBySigh f o1 a2 m) := by
  unfold FX0_worstBySigh
  exact FRX0_worstBySigh_L5 _ _ o1 _ p16_3 p18_2 p18_3 p18_10 p18_11 p18_12 p18_13 p18_14 p20 p21 p30_2 p30_3 p30_4 p30_5 p31 p32 ((by
  intro e11 m12 hm_m12
  exact Fr.ok hm_m12)) _ _ _ _ hm_m
set_option maxRecDepth 100000 in
set_option maxHeartbeats 4000000 in
theorem FRX4_moodBits_J51 {P : Nat → Nat → Prop} {m0 : ev_M} (f : Nat) (kt28 : Int32 → Int32 → ev_M → Option (Int32 × ev_M)) (a3 : Int32) (a4 : Int32) {m : ev_M}  (hkt28 : ∀ (x0 : Int32) (x1 : Int32) (xm : ev_M), frP P m0 xm → Fr (frP P m0) (kt28 x0 x1 xm)) (hm_m : frP P m0 m) : Fr (frP P m0) (FX4_moodBits_J51 f kt28 a3 a4 m) := by
  unfold FX4_moodBits_J51
  exact hkt28 _ _ _ hm_m
set_option maxRecDepth 100000 in
set_option maxHeartbeats 4000000 in
theorem FRX4_moodBits_L28 {P : Nat → Nat → Prop} {m0 : ev_M} (f : Nat) (k : Int32 → ev_M → Option (Int32 × ev_M))  (hk : ∀ (x0 : Int32) (xm : ev_M), frP P m0 xm → Fr (frP P m0) (k x0 xm)) : ∀ (n : Nat) (a3 : Int32) (a4 : Int32) (m : ev_M), frP P m0 m → Fr (frP P m0) (FX4_moodBits_L28 f k n a3 a4 m) := by
  intro n
  induction n with
  | zero => intros; exact Fr.none
  | succ n ih =>
    intro a3 a4 m hm_m
    rw [FX4_moodBits_L28]
    refine Fr.ite (fun _ => ?_) (fun _ => ?_)
    · exact hk _ _ hm_m
    · refine Fr.bd (FRX4_isAllSo _ _ hm_m) (fun r5 m6 hm_m6 => ?_)
      refine Fr.ite (fun _ => ?_) (fun _ => ?_)
      · exact FRX4_moodBits_J51 _ _ _ _ ih hm_m6
      · exact FRX4_moodBits_J51 _ _ _ _ ih hm_m6
set_option maxRecDepth 100000 in
set_option maxHeartbeats 4000000 in
theorem FRX4_moodBits {P : Nat → Nat → Prop} {m0 : ev_M} (f : Nat) (o1 : Nat) (a2 : Int32) {m : ev_M} (p16_3 : ¬ P 16 3) (p18_2 : ¬ P 18 2) (p18_3 : ¬ P 18 3) (p18_10 : ¬ P 18 10) (p18_11 : ¬ P 18 11) (p18_12 : ¬ P 18 12) (p18_13 : ¬ P 18 13) (p18_14 : ¬ P 18 14) (p20 : ∀ k, ¬ P 20 k) (p21 : ∀ k, ¬ P 21 k) (p33_5 : ¬ P 33 5) (p34_2 : ¬ P 34 2) (p34_3 : ¬ P 34 3) (p34_4 : ¬ P 34 4) (p34_5 : ¬ P 34 5) (p35 : ∀ k, ¬ P 35 k) (p36 : ∀ k, ¬ P 36 k) (p38 : ∀ k, ¬ P 38 k)  (hm_m : frP P m0 m) : Fr (frP P m0) (FX4_moodBits f o1 a2 m) := by
  unfold FX4_moodBits
  refine Fr.ite (fun _ => ?_) (fun _ => ?_)
  · exact Fr.ok hm_m
  · refine Fr.bd (FRX4_farthestSeen _ hm_m) (fun r1 m2 hm_m2 => ?_)
    refine Fr.bd (FRX4_listen _ o1 _ _ p16_3 p18_2 p18_3 p18_10 p18_11 p18_12 p18_13 p18_14 p20 p21 p33_5 p34_2 p34_3 p34_4 p34_5 p35 p36 p38 hm_m2) (fun _ m4 hm_m4 => ?_)
    exact FRX4_moodBits_L28 _ _ ((by
  intro e7 m8 hm_m8
  exact Fr.ok hm_m8)) _ _ _ _ hm_m4
set_option maxRecDepth 100000 in
set_option maxHeartbeats 4000000 in
theorem FRX7_answer_L34 {P : Nat → Nat → Prop} {m0 : ev_M} (f : Nat) (k : Int64 → ev_M → Option (Int64 × ev_M)) (o1 : Nat) (p18 : ∀ k, ¬ P 18 k) (p20 : ∀ k, ¬ P 20 k) (hk : ∀ (x0 : Int64) (xm : ev_M), frP P m0 xm → Fr (frP P m0) (k x0 xm)) : ∀ (n : Nat) (a2 : Int64) (a4 : Int32) (m : ev_M), frP P m0 m → Fr (frP P m0) (FX7_answer_L34 f k o1 n a2 a4 m) := by
  intro n
  induction n with
  | zero => intros; exact Fr.none
  | succ n ih =>
    intro a2 a4 m hm_m
    rw [FX7_answer_L34]
    refine Fr.bd (FRX3_towers _ hm_m) (fun r3 m4 hm_m4 => ?_)
    refine Fr.ite (fun _ => ?_) (fun _ => ?_)
    · exact hk _ _ hm_m4
    · refine Fr.bd (FRX7_setValues _ o1 _ p18 hm_m4) (fun _ m6 hm_m6 => ?_)
      refine Fr.bd (FRX5_work _ 23 _ _ p20 hm_m6) (fun r7 m8 hm_m8 => ?_)
      refine Fr.bd (FRX7_joined _ _ _ _ hm_m8) (fun r9 m10 hm_m10 => ?_)
      exact ih _ _ _ hm_m10
set_option maxRecDepth 100000 in
set_option maxHeartbeats 4000000 in
theorem FRX7_answer_J30 {P : Nat → Nat → Prop} {m0 : ev_M} (f : Nat) (o1 : Nat) (s0 : Int64) {m : ev_M} (p18 : ∀ k, ¬ P 18 k) (p20 : ∀ k, ¬ P 20 k)  (hm_m : frP P m0 m) : Fr (frP P m0) (FX7_answer_J30 f o1 s0 m) := by
  unfold FX7_answer_J30
  exact FRX7_answer_L34 _ _ o1 p18 p20 ((by
  intro e11 m12 hm_m12
  exact Fr.ok hm_m12)) _ _ _ _ hm_m
set_option maxRecDepth 100000 in
set_option maxHeartbeats 4000000 in
theorem FRX7_answer_J23 {P : Nat → Nat → Prop} {m0 : ev_M} (f : Nat) (o1 : Nat) {m : ev_M} (p18 : ∀ k, ¬ P 18 k) (p20 : ∀ k, ¬ P 20 k)  (hm_m : frP P m0 m) : Fr (frP P m0) (FX7_answer_J23 f o1 m) := by
  unfold FX7_answer_J23
  exact FRX7_answer_J30 _ o1 _ p18 p20 hm_m
set_option maxRecDepth 100000 in
set_option maxHeartbeats 4000000 in
theorem FRX7_answer {P : Nat → Nat → Prop} {m0 : ev_M} (f : Nat) (o1 : Nat) {m : ev_M} (p16_3 : ¬ P 16 3) (p17_2 : ¬ P 17 2) (p18 : ∀ k, ¬ P 18 k) (p19 : ∀ k, ¬ P 19 k) (p20 : ∀ k, ¬ P 20 k) (p21 : ∀ k, ¬ P 21 k) (p25_2 : ¬ P 25 2) (p25_3 : ¬ P 25 3) (p25_4 : ¬ P 25 4) (p25_5 : ¬ P 25 5) (p26 : ∀ k, ¬ P 26 k) (p27 : ∀ k, ¬ P 27 k) (p28 : ∀ k, ¬ P 28 k)  (hm_m : frP P m0 m) : Fr (frP P m0) (FX7_answer f o1 m) := by
  unfold FX7_answer
  refine Fr.bd (FRX7_lookAhead _ o1 p16_3 p17_2 (p18 2) (p18 3) (p18 10) (p18 11) (p18 12) (p18 13) (p18 14) p19 p20 p21 p25_2 p25_3 p25_4 p25_5 p26 p27 p28 hm_m) (fun _ m2 hm_m2 => ?_)
  refine Fr.ite (fun _ => ?_) (fun _ => ?_)
  · exact FRX7_answer_J23 _ o1 p18 p20 hm_m2
  · refine Fr.ite (fun _ => ?_) (fun _ => ?_)
    · exact FRX7_answer_J23 _ o1 p18 p20 hm_m2
    · exact FRX7_answer_J30 _ o1 _ p18 p20 hm_m2
set_option maxRecDepth 100000 in
set_option maxHeartbeats 4000000 in
theorem FRX11_tone {P : Nat → Nat → Prop} {m0 : ev_M} (f : Nat) (a1 : Int32) (a2 : Int32) {m : ev_M} (p16_3 : ¬ P 16 3) (p18_2 : ¬ P 18 2) (p18_3 : ¬ P 18 3) (p18_10 : ¬ P 18 10) (p18_11 : ¬ P 18 11) (p18_12 : ¬ P 18 12) (p18_13 : ¬ P 18 13) (p18_14 : ¬ P 18 14) (p20 : ∀ k, ¬ P 20 k) (p21 : ∀ k, ¬ P 21 k) (p106_2 : ¬ P 106 2) (p106_3 : ¬ P 106 3) (p106_4 : ¬ P 106 4) (p106_5 : ¬ P 106 5) (p107 : ∀ k, ¬ P 107 k) (p108 : ∀ k, ¬ P 108 k)  (hm_m : frP P m0 m) : Fr (frP P m0) (FX11_tone f a1 a2 m) := by
  unfold FX11_tone
  refine Fr.bd (FRX11_isTower _ _ hm_m) (fun r1 m2 hm_m2 => ?_)
  refine Fr.ite (fun _ => ?_) (fun _ => ?_)
  · exact Fr.ok hm_m2
  · refine Fr.bd (FRX11_comes _ _ hm_m2) (fun r3 m4 hm_m4 => ?_)
    refine Fr.ite (fun _ => ?_) (fun _ => ?_)
    · exact Fr.ok hm_m4
    · refine Fr.bd (FRX11_goAhead _ _ p16_3 p18_2 p18_3 p18_10 p18_11 p18_12 p18_13 p18_14 p20 p21 p106_2 p106_3 p106_4 p106_5 p107 p108 hm_m4) (fun _ m6 hm_m6 => ?_)
      refine Fr.ite (fun _ => ?_) (fun _ => ?_)
      · exact Fr.ok hm_m6
      · exact Fr.none
set_option maxRecDepth 100000 in
set_option maxHeartbeats 4000000 in
theorem FRX11_mood {P : Nat → Nat → Prop} {m0 : ev_M} (f : Nat) (a1 : Int32) (a2 : Int32) {m : ev_M} (p16_3 : ¬ P 16 3) (p18_2 : ¬ P 18 2) (p18_3 : ¬ P 18 3) (p18_10 : ¬ P 18 10) (p18_11 : ¬ P 18 11) (p18_12 : ¬ P 18 12) (p18_13 : ¬ P 18 13) (p18_14 : ¬ P 18 14) (p20 : ∀ k, ¬ P 20 k) (p21 : ∀ k, ¬ P 21 k) (p106_2 : ¬ P 106 2) (p106_3 : ¬ P 106 3) (p106_4 : ¬ P 106 4) (p106_5 : ¬ P 106 5) (p107 : ∀ k, ¬ P 107 k) (p108 : ∀ k, ¬ P 108 k)  (hm_m : frP P m0 m) : Fr (frP P m0) (FX11_mood f a1 a2 m) := by
  unfold FX11_mood
  refine Fr.bd (FRX11_isTower _ _ hm_m) (fun r1 m2 hm_m2 => ?_)
  refine Fr.ite (fun _ => ?_) (fun _ => ?_)
  · exact Fr.ok hm_m2
  · refine Fr.bd (FRX11_canBeAhead _ _ _ _ hm_m2) (fun r3 m4 hm_m4 => ?_)
    refine Fr.ite (fun _ => ?_) (fun _ => ?_)
    · exact Fr.ok hm_m4
    · refine Fr.bd (FRX11_goAhead _ _ p16_3 p18_2 p18_3 p18_10 p18_11 p18_12 p18_13 p18_14 p20 p21 p106_2 p106_3 p106_4 p106_5 p107 p108 hm_m4) (fun _ m6 hm_m6 => ?_)
      refine Fr.ite (fun _ => ?_) (fun _ => ?_)
      · exact Fr.ok hm_m6
      · exact Fr.none
set_option maxRecDepth 100000 in
set_option maxHeartbeats 4000000 in
theorem FRX11_doubts {P : Nat → Nat → Prop} {m0 : ev_M} (f : Nat) (a1 : Int32) {m : ev_M} (p16_3 : ¬ P 16 3) (p18_2 : ¬ P 18 2) (p18_3 : ¬ P 18 3) (p18_10 : ¬ P 18 10) (p18_11 : ¬ P 18 11) (p18_12 : ¬ P 18 12) (p18_13 : ¬ P 18 13) (p18_14 : ¬ P 18 14) (p20 : ∀ k, ¬ P 20 k) (p21 : ∀ k, ¬ P 21 k) (p106_2 : ¬ P 106 2) (p106_3 : ¬ P 106 3) (p106_4 : ¬ P 106 4) (p106_5 : ¬ P 106 5) (p107 : ∀ k, ¬ P 107 k) (p108 : ∀ k, ¬ P 108 k)  (hm_m : frP P m0 m) : Fr (frP P m0) (FX11_doubts f a1 m) := by
  unfold FX11_doubts
  refine Fr.bd (FRX11_isTold _ hm_m) (fun r1 m2 hm_m2 => ?_)
  refine Fr.ite (fun _ => ?_) (fun _ => ?_)
  · exact Fr.ok hm_m2
  · refine Fr.bd (FRX11_comes _ _ hm_m2) (fun r3 m4 hm_m4 => ?_)
    refine Fr.ite (fun _ => ?_) (fun _ => ?_)
    · exact Fr.ok hm_m4
    · refine Fr.bd (FRX11_goAhead _ _ p16_3 p18_2 p18_3 p18_10 p18_11 p18_12 p18_13 p18_14 p20 p21 p106_2 p106_3 p106_4 p106_5 p107 p108 hm_m4) (fun _ m6 hm_m6 => ?_)
      refine Fr.bd (FRX3_doubtfulOnes _ hm_m6) (fun r7 m8 hm_m8 => ?_)
      exact Fr.ok hm_m8
set_option maxRecDepth 100000 in
set_option maxHeartbeats 4000000 in
theorem FRX11_moods {P : Nat → Nat → Prop} {m0 : ev_M} (f : Nat) (a1 : Int32) {m : ev_M} (p16_3 : ¬ P 16 3) (p18_2 : ¬ P 18 2) (p18_3 : ¬ P 18 3) (p18_10 : ¬ P 18 10) (p18_11 : ¬ P 18 11) (p18_12 : ¬ P 18 12) (p18_13 : ¬ P 18 13) (p18_14 : ¬ P 18 14) (p20 : ∀ k, ¬ P 20 k) (p21 : ∀ k, ¬ P 21 k) (p33_5 : ¬ P 33 5) (p34_2 : ¬ P 34 2) (p34_3 : ¬ P 34 3) (p34_4 : ¬ P 34 4) (p34_5 : ¬ P 34 5) (p35 : ∀ k, ¬ P 35 k) (p36 : ∀ k, ¬ P 36 k) (p38 : ∀ k, ¬ P 38 k)  (hm_m : frP P m0 m) : Fr (frP P m0) (FX11_moods f a1 m) := by
  unfold FX11_moods
  refine Fr.bd (FRX11_isTower _ _ hm_m) (fun r1 m2 hm_m2 => ?_)
  refine Fr.ite (fun _ => ?_) (fun _ => ?_)
  · exact Fr.ok hm_m2
  · refine Fr.bd (FRX4_moodBits _ 103 _ p16_3 p18_2 p18_3 p18_10 p18_11 p18_12 p18_13 p18_14 p20 p21 p33_5 p34_2 p34_3 p34_4 p34_5 p35 p36 p38 hm_m2) (fun r3 m4 hm_m4 => ?_)
    exact Fr.ok hm_m4
set_option maxRecDepth 100000 in
set_option maxHeartbeats 4000000 in
theorem FRX11_tells {P : Nat → Nat → Prop} {m0 : ev_M} (f : Nat) (a1 : Int32) (a2 : Int32) {m : ev_M} (p16_3 : ¬ P 16 3) (p18_2 : ¬ P 18 2) (p18_3 : ¬ P 18 3) (p18_10 : ¬ P 18 10) (p18_11 : ¬ P 18 11) (p18_12 : ¬ P 18 12) (p18_13 : ¬ P 18 13) (p18_14 : ¬ P 18 14) (p20 : ∀ k, ¬ P 20 k) (p21 : ∀ k, ¬ P 21 k) (p33_5 : ¬ P 33 5) (p33_7 : ¬ P 33 7) (p33_8 : ¬ P 33 8) (p33_9 : ¬ P 33 9) (p34_2 : ¬ P 34 2) (p34_3 : ¬ P 34 3) (p34_4 : ¬ P 34 4) (p34_5 : ¬ P 34 5) (p35 : ∀ k, ¬ P 35 k) (p36 : ∀ k, ¬ P 36 k) (p38 : ∀ k, ¬ P 38 k) (p39 : ∀ k, ¬ P 39 k)  (hm_m : frP P m0 m) : Fr (frP P m0) (FX11_tells f a1 a2 m) := by
  unfold FX11_tells
  refine Fr.bd (FRX11_isTower _ _ hm_m) (fun r1 m2 hm_m2 => ?_)
  refine Fr.ite (fun _ => ?_) (fun _ => ?_)
  · exact Fr.ok hm_m2
  · refine Fr.ite (fun _ => ?_) (fun _ => ?_)
    · exact Fr.ok hm_m2
    · refine Fr.ite (fun _ => ?_) (fun _ => ?_)
      · refine Fr.bd (FRX4_moodBits _ 103 _ p16_3 p18_2 p18_3 p18_10 p18_11 p18_12 p18_13 p18_14 p20 p21 p33_5 p34_2 p34_3 p34_4 p34_5 p35 p36 p38 hm_m2) (fun r3 m4 hm_m4 => ?_)
        refine Fr.ite (fun _ => ?_) (fun _ => ?_)
        · exact Fr.ok hm_m4
        · refine Fr.bd (FRX8_hasNext _ 103 hm_m4) (fun r5 m6 hm_m6 => ?_)
          refine Fr.ite (fun _ => ?_) (fun _ => ?_)
          · exact Fr.ok hm_m6
          · refine Fr.bd (FRX4_seekTelling _ 103 _ _ p16_3 p18_2 p18_3 p18_10 p18_11 p18_12 p18_13 p18_14 p20 p21 p33_5 p33_7 p33_8 p33_9 p34_2 p34_3 p34_4 p34_5 p35 p36 p38 p39 hm_m6) (fun _ m8 hm_m8 => ?_)
            refine Fr.ite (fun _ => ?_) (fun _ => ?_)
            · exact Fr.ok hm_m8
            · refine Fr.ite (fun _ => ?_) (fun _ => ?_)
              · exact Fr.ok hm_m8
              · exact Fr.ok hm_m8
      · exact Fr.ok hm_m2
set_option maxRecDepth 100000 in
set_option maxHeartbeats 4000000 in
theorem FRX11_rounds_L31 {P : Nat → Nat → Prop} {m0 : ev_M} (f : Nat) (k : Int32 → ev_M → Option (Int32 × ev_M)) (a1 : Int32) (p16_3 : ¬ P 16 3) (p18_2 : ¬ P 18 2) (p18_3 : ¬ P 18 3) (p18_10 : ¬ P 18 10) (p18_11 : ¬ P 18 11) (p18_12 : ¬ P 18 12) (p18_13 : ¬ P 18 13) (p18_14 : ¬ P 18 14) (p20 : ∀ k, ¬ P 20 k) (p21 : ∀ k, ¬ P 21 k) (p42 : ∀ k, ¬ P 42 k) (p103_2 : ¬ P 103 2) (p103_3 : ¬ P 103 3) (p103_5 : ¬ P 103 5) (p104 : ∀ k, ¬ P 104 k) (hk : ∀ (x0 : Int32) (xm : ev_M), frP P m0 xm → Fr (frP P m0) (k x0 xm)) : ∀ (n : Nat) (a2 : Int32) (a3 : Int32) (m : ev_M), frP P m0 m → Fr (frP P m0) (FX11_rounds_L31 f k a1 n a2 a3 m) := by
  intro n
  induction n with
  | zero => intros; exact Fr.none
  | succ n ih =>
    intro a2 a3 m hm_m
    rw [FX11_rounds_L31]
    refine Fr.ite (fun _ => ?_) (fun _ => ?_)
    · exact hk _ _ hm_m
    · refine Fr.bd (FRX11_goOn _ p16_3 p18_2 p18_3 p18_10 p18_11 p18_12 p18_13 p18_14 p20 p21 p42 p103_2 p103_3 p103_5 p104 hm_m) (fun r5 m6 hm_m6 => ?_)
      exact ih _ _ _ hm_m6
set_option maxRecDepth 100000 in
set_option maxHeartbeats 4000000 in
theorem FRX11_rounds {P : Nat → Nat → Prop} {m0 : ev_M} (f : Nat) (a1 : Int32) {m : ev_M} (pR : ∀ o, (43 ≤ o ∧ o < 103) → ∀ k, ¬ P o k) (p16_3 : ¬ P 16 3) (p18_2 : ¬ P 18 2) (p18_3 : ¬ P 18 3) (p18_10 : ¬ P 18 10) (p18_11 : ¬ P 18 11) (p18_12 : ¬ P 18 12) (p18_13 : ¬ P 18 13) (p18_14 : ¬ P 18 14) (p20 : ∀ k, ¬ P 20 k) (p21 : ∀ k, ¬ P 21 k) (p40_2 : ¬ P 40 2) (p40_3 : ¬ P 40 3) (p42 : ∀ k, ¬ P 42 k) (p103_2 : ¬ P 103 2) (p103_3 : ¬ P 103 3) (p103_5 : ¬ P 103 5) (p104 : ∀ k, ¬ P 104 k) (p109 : ∀ k, ¬ P 109 k)  (hm_m : frP P m0 m) : Fr (frP P m0) (FX11_rounds f a1 m) := by
  unfold FX11_rounds
  refine Fr.bd (FRX11_canGo _ _ hm_m) (fun r1 m2 hm_m2 => ?_)
  refine Fr.ite (fun _ => ?_) (fun _ => ?_)
  · refine Fr.bd (FRX11_refuse _ _ p109 hm_m2) (fun r9 m10 hm_m10 => ?_)
    exact Fr.ok hm_m10
  · refine Fr.bd (FRX6_keep _ 103 pR p40_2 p40_3 hm_m2) (fun _ m4 hm_m4 => ?_)
    exact FRX11_rounds_L31 _ _ _ p16_3 p18_2 p18_3 p18_10 p18_11 p18_12 p18_13 p18_14 p20 p21 p42 p103_2 p103_3 p103_5 p104 ((by
  intro e7 m8 hm_m8
  exact Fr.ok hm_m8)) _ _ _ _ hm_m4
set_option maxRecDepth 100000 in
set_option maxHeartbeats 4000000 in
theorem FRX11_chance_L31 {P : Nat → Nat → Prop} {m0 : ev_M} (f : Nat) (k : Int32 → ev_M → Option (Int32 × ev_M)) (a1 : Int32) (p0_17 : ¬ P 0 17) (p16_3 : ¬ P 16 3) (p18_2 : ¬ P 18 2) (p18_3 : ¬ P 18 3) (p18_10 : ¬ P 18 10) (p18_11 : ¬ P 18 11) (p18_12 : ¬ P 18 12) (p18_13 : ¬ P 18 13) (p18_14 : ¬ P 18 14) (p20 : ∀ k, ¬ P 20 k) (p21 : ∀ k, ¬ P 21 k) (p42 : ∀ k, ¬ P 42 k) (p103_2 : ¬ P 103 2) (p103_3 : ¬ P 103 3) (p103_5 : ¬ P 103 5) (p104 : ∀ k, ¬ P 104 k) (hk : ∀ (x0 : Int32) (xm : ev_M), frP P m0 xm → Fr (frP P m0) (k x0 xm)) : ∀ (n : Nat) (a2 : Int32) (a3 : Int32) (m : ev_M), frP P m0 m → Fr (frP P m0) (FX11_chance_L31 f k a1 n a2 a3 m) := by
  intro n
  induction n with
  | zero => intros; exact Fr.none
  | succ n ih =>
    intro a2 a3 m hm_m
    rw [FX11_chance_L31]
    refine Fr.ite (fun _ => ?_) (fun _ => ?_)
    · exact hk _ _ hm_m
    · refine Fr.bd (FRX11_catchCold _ p0_17 p104 hm_m) (fun r5 m6 hm_m6 => ?_)
      refine Fr.bd (FRX11_goOn _ p16_3 p18_2 p18_3 p18_10 p18_11 p18_12 p18_13 p18_14 p20 p21 p42 p103_2 p103_3 p103_5 p104 hm_m6) (fun r7 m8 hm_m8 => ?_)
      exact ih _ _ _ hm_m8
set_option maxRecDepth 100000 in
set_option maxHeartbeats 4000000 in
theorem FRX11_chance {P : Nat → Nat → Prop} {m0 : ev_M} (f : Nat) (a1 : Int32) {m : ev_M} (pR : ∀ o, (43 ≤ o ∧ o < 103) → ∀ k, ¬ P o k) (p0_17 : ¬ P 0 17) (p16_3 : ¬ P 16 3) (p18_2 : ¬ P 18 2) (p18_3 : ¬ P 18 3) (p18_10 : ¬ P 18 10) (p18_11 : ¬ P 18 11) (p18_12 : ¬ P 18 12) (p18_13 : ¬ P 18 13) (p18_14 : ¬ P 18 14) (p20 : ∀ k, ¬ P 20 k) (p21 : ∀ k, ¬ P 21 k) (p40_2 : ¬ P 40 2) (p40_3 : ¬ P 40 3) (p42 : ∀ k, ¬ P 42 k) (p103_2 : ¬ P 103 2) (p103_3 : ¬ P 103 3) (p103_5 : ¬ P 103 5) (p104 : ∀ k, ¬ P 104 k) (p109 : ∀ k, ¬ P 109 k)  (hm_m : frP P m0 m) : Fr (frP P m0) (FX11_chance f a1 m) := by
  unfold FX11_chance
  refine Fr.bd (FRX11_canGo _ _ hm_m) (fun r1 m2 hm_m2 => ?_)
  refine Fr.ite (fun _ => ?_) (fun _ => ?_)
  · refine Fr.bd (FRX11_refuse _ _ p109 hm_m2) (fun r11 m12 hm_m12 => ?_)
    exact Fr.ok hm_m12
  · refine Fr.bd (FRX6_keep _ 103 pR p40_2 p40_3 hm_m2) (fun _ m4 hm_m4 => ?_)
    exact FRX11_chance_L31 _ _ _ p0_17 p16_3 p18_2 p18_3 p18_10 p18_11 p18_12 p18_13 p18_14 p20 p21 p42 p103_2 p103_3 p103_5 p104 ((by
  intro e9 m10 hm_m10
  exact Fr.ok hm_m10)) _ _ _ _ hm_m4
set_option maxRecDepth 100000 in
set_option maxHeartbeats 4000000 in
theorem FRX0_fewestToCheer_J48 {P : Nat → Nat → Prop} {m0 : ev_M} (f : Nat) (kt10 : Int32 → ev_M → Option (Int32 × ev_M)) (a4 : Int32) {m : ev_M}  (hkt10 : ∀ (x0 : Int32) (xm : ev_M), frP P m0 xm → Fr (frP P m0) (kt10 x0 xm)) (hm_m : frP P m0 m) : Fr (frP P m0) (FX0_fewestToCheer_J48 f kt10 a4 m) := by
  unfold FX0_fewestToCheer_J48
  exact hkt10 _ _ hm_m
set_option maxRecDepth 100000 in
set_option maxHeartbeats 4000000 in
theorem FRX0_fewestToCheer_L10 {P : Nat → Nat → Prop} {m0 : ev_M} (f : Nat) (k : ev_M → Option (Int32 × ev_M)) (o1 : Nat) (a2 : Int32) (a3 : Int32) (p16_3 : ¬ P 16 3) (p18_2 : ¬ P 18 2) (p18_3 : ¬ P 18 3) (p18_10 : ¬ P 18 10) (p18_11 : ¬ P 18 11) (p18_12 : ¬ P 18 12) (p18_13 : ¬ P 18 13) (p18_14 : ¬ P 18 14) (p20 : ∀ k, ¬ P 20 k) (p21 : ∀ k, ¬ P 21 k) (p30_2 : ¬ P 30 2) (p30_3 : ¬ P 30 3) (p30_4 : ¬ P 30 4) (p30_5 : ¬ P 30 5) (p31 : ∀ k, ¬ P 31 k) (p32 : ∀ k, ¬ P 32 k) (hk : ∀  (xm : ev_M), frP P m0 xm → Fr (frP P m0) (k xm)) : ∀ (n : Nat) (a4 : Int32) (m : ev_M), frP P m0 m → Fr (frP P m0) (FX0_fewestToCheer_L10 f k o1 a2 a3 n a4 m) := by
  intro n
  induction n with
  | zero => intros; exact Fr.none
  | succ n ih =>
    intro a4 m hm_m
    rw [FX0_fewestToCheer_L10]
    refine Fr.bd (FRX3_towers _ hm_m) (fun r1 m2 hm_m2 => ?_)
    refine Fr.ite (fun _ => ?_) (fun _ => ?_)
    · exact hk _ hm_m2
    · refine Fr.bd (FRJ6_bitCount_0f7a4 _ _ hm_m2) (fun r3 m4 hm_m4 => ?_)
      refine Fr.ite (fun _ => ?_) (fun _ => ?_)
      · refine Fr.bd (FRX0_fires _ o1 _ _ _ p16_3 p18_2 p18_3 p18_10 p18_11 p18_12 p18_13 p18_14 p20 p21 p30_2 p30_3 p30_4 p30_5 p31 p32 hm_m4) (fun r5 m6 hm_m6 => ?_)
        refine Fr.ite (fun _ => ?_) (fun _ => ?_)
        · exact Fr.ok hm_m6
        · exact FRX0_fewestToCheer_J48 _ _ _ ih hm_m6
      · exact FRX0_fewestToCheer_J48 _ _ _ ih hm_m4
set_option maxRecDepth 100000 in
set_option maxHeartbeats 4000000 in
theorem FRX0_fewestToCheer_L2 {P : Nat → Nat → Prop} {m0 : ev_M} (f : Nat) (k : ev_M → Option (Int32 × ev_M)) (o1 : Nat) (a2 : Int32) (p16_3 : ¬ P 16 3) (p18_2 : ¬ P 18 2) (p18_3 : ¬ P 18 3) (p18_10 : ¬ P 18 10) (p18_11 : ¬ P 18 11) (p18_12 : ¬ P 18 12) (p18_13 : ¬ P 18 13) (p18_14 : ¬ P 18 14) (p20 : ∀ k, ¬ P 20 k) (p21 : ∀ k, ¬ P 21 k) (p30_2 : ¬ P 30 2) (p30_3 : ¬ P 30 3) (p30_4 : ¬ P 30 4) (p30_5 : ¬ P 30 5) (p31 : ∀ k, ¬ P 31 k) (p32 : ∀ k, ¬ P 32 k) (hk : ∀  (xm : ev_M), frP P m0 xm → Fr (frP P m0) (k xm)) : ∀ (n : Nat) (a3 : Int32) (m : ev_M), frP P m0 m → Fr (frP P m0) (FX0_fewestToCheer_L2 f k o1 a2 n a3 m) := by
  intro n
  induction n with
  | zero => intros; exact Fr.none
  | succ n ih =>
    intro a3 m hm_m
    rw [FX0_fewestToCheer_L2]
    refine Fr.ite (fun _ => ?_) (fun _ => ?_)
    · exact hk _ hm_m
    · exact FRX0_fewestToCheer_L10 _ _ o1 _ _ p16_3 p18_2 p18_3 p18_10 p18_11 p18_12 p18_13 p18_14 p20 p21 p30_2 p30_3 p30_4 p30_5 p31 p32 ((by
  intro m7 hm_m7
  exact ih _ _ hm_m7)) _ _ _ hm_m
set_option maxRecDepth 100000 in
set_option maxHeartbeats 4000000 in
theorem FRX0_fewestToCheer {P : Nat → Nat → Prop} {m0 : ev_M} (f : Nat) (o1 : Nat) (a2 : Int32) {m : ev_M} (p16_3 : ¬ P 16 3) (p18_2 : ¬ P 18 2) (p18_3 : ¬ P 18 3) (p18_10 : ¬ P 18 10) (p18_11 : ¬ P 18 11) (p18_12 : ¬ P 18 12) (p18_13 : ¬ P 18 13) (p18_14 : ¬ P 18 14) (p20 : ∀ k, ¬ P 20 k) (p21 : ∀ k, ¬ P 21 k) (p30_2 : ¬ P 30 2) (p30_3 : ¬ P 30 3) (p30_4 : ¬ P 30 4) (p30_5 : ¬ P 30 5) (p31 : ∀ k, ¬ P 31 k) (p32 : ∀ k, ¬ P 32 k)  (hm_m : frP P m0 m) : Fr (frP P m0) (FX0_fewestToCheer f o1 a2 m) := by
  unfold FX0_fewestToCheer
  exact FRX0_fewestToCheer_L2 _ _ o1 _ p16_3 p18_2 p18_3 p18_10 p18_11 p18_12 p18_13 p18_14 p20 p21 p30_2 p30_3 p30_4 p30_5 p31 p32 ((by
  intro m8 hm_m8
  exact Fr.ok hm_m8)) _ _ _ hm_m
set_option maxRecDepth 100000 in
set_option maxHeartbeats 4000000 in
theorem FRX0_fewestToSigh_J48 {P : Nat → Nat → Prop} {m0 : ev_M} (f : Nat) (kt10 : Int32 → ev_M → Option (Int32 × ev_M)) (a4 : Int32) {m : ev_M}  (hkt10 : ∀ (x0 : Int32) (xm : ev_M), frP P m0 xm → Fr (frP P m0) (kt10 x0 xm)) (hm_m : frP P m0 m) : Fr (frP P m0) (FX0_fewestToSigh_J48 f kt10 a4 m) := by
  unfold FX0_fewestToSigh_J48
  exact hkt10 _ _ hm_m
set_option maxRecDepth 100000 in
set_option maxHeartbeats 4000000 in
theorem FRX0_fewestToSigh_L10 {P : Nat → Nat → Prop} {m0 : ev_M} (f : Nat) (k : ev_M → Option (Int32 × ev_M)) (o1 : Nat) (a2 : Int32) (a3 : Int32) (p16_3 : ¬ P 16 3) (p18_2 : ¬ P 18 2) (p18_3 : ¬ P 18 3) (p18_10 : ¬ P 18 10) (p18_11 : ¬ P 18 11) (p18_12 : ¬ P 18 12) (p18_13 : ¬ P 18 13) (p18_14 : ¬ P 18 14) (p20 : ∀ k, ¬ P 20 k) (p21 : ∀ k, ¬ P 21 k) (p30_2 : ¬ P 30 2) (p30_3 : ¬ P 30 3) (p30_4 : ¬ P 30 4) (p30_5 : ¬ P 30 5) (p31 : ∀ k, ¬ P 31 k) (p32 : ∀ k, ¬ P 32 k) (hk : ∀  (xm : ev_M), frP P m0 xm → Fr (frP P m0) (k xm)) : ∀ (n : Nat) (a4 : Int32) (m : ev_M), frP P m0 m → Fr (frP P m0) (FX0_fewestToSigh_L10 f k o1 a2 a3 n a4 m) := by
  intro n
  induction n with
  | zero => intros; exact Fr.none
  | succ n ih =>
    intro a4 m hm_m
    rw [FX0_fewestToSigh_L10]
    refine Fr.bd (FRX3_towers _ hm_m) (fun r1 m2 hm_m2 => ?_)
    refine Fr.ite (fun _ => ?_) (fun _ => ?_)
    · exact hk _ hm_m2
    · refine Fr.bd (FRJ6_bitCount_0f7a4 _ _ hm_m2) (fun r3 m4 hm_m4 => ?_)
      refine Fr.ite (fun _ => ?_) (fun _ => ?_)
      · refine Fr.bd (FRX0_fires _ o1 _ _ _ p16_3 p18_2 p18_3 p18_10 p18_11 p18_12 p18_13 p18_14 p20 p21 p30_2 p30_3 p30_4 p30_5 p31 p32 hm_m4) (fun r5 m6 hm_m6 => ?_)
        refine Fr.ite (fun _ => ?_) (fun _ => ?_)
        · exact FRX0_fewestToSigh_J48 _ _ _ ih hm_m6
        · exact Fr.ok hm_m6
      · exact FRX0_fewestToSigh_J48 _ _ _ ih hm_m4
set_option maxRecDepth 100000 in
set_option maxHeartbeats 4000000 in
theorem FRX0_fewestToSigh_L2 {P : Nat → Nat → Prop} {m0 : ev_M} (f : Nat) (k : ev_M → Option (Int32 × ev_M)) (o1 : Nat) (a2 : Int32) (p16_3 : ¬ P 16 3) (p18_2 : ¬ P 18 2) (p18_3 : ¬ P 18 3) (p18_10 : ¬ P 18 10) (p18_11 : ¬ P 18 11) (p18_12 : ¬ P 18 12) (p18_13 : ¬ P 18 13) (p18_14 : ¬ P 18 14) (p20 : ∀ k, ¬ P 20 k) (p21 : ∀ k, ¬ P 21 k) (p30_2 : ¬ P 30 2) (p30_3 : ¬ P 30 3) (p30_4 : ¬ P 30 4) (p30_5 : ¬ P 30 5) (p31 : ∀ k, ¬ P 31 k) (p32 : ∀ k, ¬ P 32 k) (hk : ∀  (xm : ev_M), frP P m0 xm → Fr (frP P m0) (k xm)) : ∀ (n : Nat) (a3 : Int32) (m : ev_M), frP P m0 m → Fr (frP P m0) (FX0_fewestToSigh_L2 f k o1 a2 n a3 m) := by
  intro n
  induction n with
  | zero => intros; exact Fr.none
  | succ n ih =>
    intro a3 m hm_m
    rw [FX0_fewestToSigh_L2]
    refine Fr.ite (fun _ => ?_) (fun _ => ?_)
    · exact hk _ hm_m
    · exact FRX0_fewestToSigh_L10 _ _ o1 _ _ p16_3 p18_2 p18_3 p18_10 p18_11 p18_12 p18_13 p18_14 p20 p21 p30_2 p30_3 p30_4 p30_5 p31 p32 ((by
  intro m7 hm_m7
  exact ih _ _ hm_m7)) _ _ _ hm_m
set_option maxRecDepth 100000 in
set_option maxHeartbeats 4000000 in
theorem FRX0_fewestToSigh {P : Nat → Nat → Prop} {m0 : ev_M} (f : Nat) (o1 : Nat) (a2 : Int32) {m : ev_M} (p16_3 : ¬ P 16 3) (p18_2 : ¬ P 18 2) (p18_3 : ¬ P 18 3) (p18_10 : ¬ P 18 10) (p18_11 : ¬ P 18 11) (p18_12 : ¬ P 18 12) (p18_13 : ¬ P 18 13) (p18_14 : ¬ P 18 14) (p20 : ∀ k, ¬ P 20 k) (p21 : ∀ k, ¬ P 21 k) (p30_2 : ¬ P 30 2) (p30_3 : ¬ P 30 3) (p30_4 : ¬ P 30 4) (p30_5 : ¬ P 30 5) (p31 : ∀ k, ¬ P 31 k) (p32 : ∀ k, ¬ P 32 k)  (hm_m : frP P m0 m) : Fr (frP P m0) (FX0_fewestToSigh f o1 a2 m) := by
  unfold FX0_fewestToSigh
  exact FRX0_fewestToSigh_L2 _ _ o1 _ p16_3 p18_2 p18_3 p18_10 p18_11 p18_12 p18_13 p18_14 p20 p21 p30_2 p30_3 p30_4 p30_5 p31 p32 ((by
  intro m8 hm_m8
  exact Fr.ok hm_m8)) _ _ _ hm_m
set_option maxRecDepth 100000 in
set_option maxHeartbeats 4000000 in
theorem FRX0_seekYes_J75 {P : Nat → Nat → Prop} {m0 : ev_M} (f : Nat) (kt19 : Int32 → ev_M → Option (Unit × ev_M)) (a3 : Int32) {m : ev_M}  (hkt19 : ∀ (x0 : Int32) (xm : ev_M), frP P m0 xm → Fr (frP P m0) (kt19 x0 xm)) (hm_m : frP P m0 m) : Fr (frP P m0) (FX0_seekYes_J75 f kt19 a3 m) := by
  unfold FX0_seekYes_J75
  exact hkt19 _ _ hm_m
set_option maxRecDepth 100000 in
set_option maxHeartbeats 4000000 in
theorem FRX0_seekYes_L19 {P : Nat → Nat → Prop} {m0 : ev_M} (f : Nat) (k : ev_M → Option (Unit × ev_M)) (o1 : Nat) (a2 : Int32) (p16_3 : ¬ P 16 3) (p18_2 : ¬ P 18 2) (p18_3 : ¬ P 18 3) (p18_10 : ¬ P 18 10) (p18_11 : ¬ P 18 11) (p18_12 : ¬ P 18 12) (p18_13 : ¬ P 18 13) (p18_14 : ¬ P 18 14) (p20 : ∀ k, ¬ P 20 k) (p21 : ∀ k, ¬ P 21 k) (p29_2 : ¬ P 29 2) (p29_3 : ¬ P 29 3) (p29_4 : ¬ P 29 4) (p30_2 : ¬ P 30 2) (p30_3 : ¬ P 30 3) (p30_4 : ¬ P 30 4) (p30_5 : ¬ P 30 5) (p31 : ∀ k, ¬ P 31 k) (p32 : ∀ k, ¬ P 32 k) (hk : ∀  (xm : ev_M), frP P m0 xm → Fr (frP P m0) (k xm)) : ∀ (n : Nat) (a3 : Int32) (m : ev_M), frP P m0 m → Fr (frP P m0) (FX0_seekYes_L19 f k o1 a2 n a3 m) := by
  intro n
  induction n with
  | zero => intros; exact Fr.none
  | succ n ih =>
    intro a3 m hm_m
    rw [FX0_seekYes_L19]
    refine Fr.bd (FRX3_towers _ hm_m) (fun r7 m8 hm_m8 => ?_)
    refine Fr.ite (fun _ => ?_) (fun _ => ?_)
    · exact hk _ hm_m8
    · refine Fr.ite (fun _ => ?_) (fun _ => ?_)
      · refine Fr.bd (FRX8_copy _ 30 o1 p30_2 p30_3 p30_4 p30_5 p31 p32 hm_m8) (fun _ m10 hm_m10 => ?_)
        refine Fr.bd (FRX0_tryRounds _ _ p16_3 p18_2 p18_3 p18_10 p18_11 p18_12 p18_13 p18_14 p20 p21 p30_2 p30_3 p31 (frP_I p30_4 hm_m10)) (fun r11 m12 hm_m12 => ?_)
        refine Fr.bd (FRX0_weigh _ _ _ _ p29_2 p29_3 p29_4 hm_m12) (fun _ m14 hm_m14 => ?_)
        exact FRX0_seekYes_J75 _ _ _ ih hm_m14
      · exact FRX0_seekYes_J75 _ _ _ ih hm_m8
set_option maxRecDepth 100000 in
set_option maxHeartbeats 4000000 in
theorem FRX0_seekYes {P : Nat → Nat → Prop} {m0 : ev_M} (f : Nat) (o1 : Nat) (a2 : Int32) {m : ev_M} (p16_3 : ¬ P 16 3) (p18_2 : ¬ P 18 2) (p18_3 : ¬ P 18 3) (p18_10 : ¬ P 18 10) (p18_11 : ¬ P 18 11) (p18_12 : ¬ P 18 12) (p18_13 : ¬ P 18 13) (p18_14 : ¬ P 18 14) (p20 : ∀ k, ¬ P 20 k) (p21 : ∀ k, ¬ P 21 k) (p29_2 : ¬ P 29 2) (p29_3 : ¬ P 29 3) (p29_4 : ¬ P 29 4) (p30_2 : ¬ P 30 2) (p30_3 : ¬ P 30 3) (p30_4 : ¬ P 30 4) (p30_5 : ¬ P 30 5) (p31 : ∀ k, ¬ P 31 k) (p32 : ∀ k, ¬ P 32 k)  (hm_m : frP P m0 m) : Fr (frP P m0) (FX0_seekYes f o1 a2 m) := by
  unfold FX0_seekYes
  refine Fr.bd (FRX8_copy _ 30 o1 p30_2 p30_3 p30_4 p30_5 p31 p32 hm_m) (fun _ m2 hm_m2 => ?_)
  refine Fr.bd (FRX0_tryRounds _ _ p16_3 p18_2 p18_3 p18_10 p18_11 p18_12 p18_13 p18_14 p20 p21 p30_2 p30_3 p31 hm_m2) (fun r3 m4 hm_m4 => ?_)
  refine Fr.bd (FRX0_startWith _ _ p29_2 p29_3 p29_4 hm_m4) (fun _ m6 hm_m6 => ?_)
  exact FRX0_seekYes_L19 _ _ o1 _ p16_3 p18_2 p18_3 p18_10 p18_11 p18_12 p18_13 p18_14 p20 p21 p29_2 p29_3 p29_4 p30_2 p30_3 p30_4 p30_5 p31 p32 ((by
  intro m15 hm_m15
  exact Fr.ok hm_m15)) _ _ _ hm_m6
set_option maxRecDepth 100000 in
set_option maxHeartbeats 4000000 in
theorem FRX0_seekPlaces_L35 {P : Nat → Nat → Prop} {m0 : ev_M} (f : Nat) (k : ev_M → Option (Unit × ev_M)) (o1 : Nat) (a2 : Int32) (a3 : Int32) (p16_3 : ¬ P 16 3) (p18_2 : ¬ P 18 2) (p18_3 : ¬ P 18 3) (p18_10 : ¬ P 18 10) (p18_11 : ¬ P 18 11) (p18_12 : ¬ P 18 12) (p18_13 : ¬ P 18 13) (p18_14 : ¬ P 18 14) (p20 : ∀ k, ¬ P 20 k) (p21 : ∀ k, ¬ P 21 k) (p29_2 : ¬ P 29 2) (p29_3 : ¬ P 29 3) (p29_4 : ¬ P 29 4) (p30_2 : ¬ P 30 2) (p30_3 : ¬ P 30 3) (p30_4 : ¬ P 30 4) (p30_5 : ¬ P 30 5) (p31 : ∀ k, ¬ P 31 k) (p32 : ∀ k, ¬ P 32 k) (hk : ∀  (xm : ev_M), frP P m0 xm → Fr (frP P m0) (k xm)) : ∀ (n : Nat) (a4 : Int32) (m : ev_M), frP P m0 m → Fr (frP P m0) (FX0_seekPlaces_L35 f k o1 a2 a3 n a4 m) := by
  intro n
  induction n with
  | zero => intros; exact Fr.none
  | succ n ih =>
    intro a4 m hm_m
    rw [FX0_seekPlaces_L35]
    refine Fr.bd (FRX3_towers _ hm_m) (fun r9 m10 hm_m10 => ?_)
    refine Fr.ite (fun _ => ?_) (fun _ => ?_)
    · exact hk _ hm_m10
    · refine Fr.bd (FRX8_copy _ 30 o1 p30_2 p30_3 p30_4 p30_5 p31 p32 hm_m10) (fun _ m12 hm_m12 => ?_)
      refine Fr.bd (FRX8_swap _ 30 _ _ p31 p32 hm_m12) (fun _ m14 hm_m14 => ?_)
      refine Fr.bd (FRX0_tryRounds _ _ p16_3 p18_2 p18_3 p18_10 p18_11 p18_12 p18_13 p18_14 p20 p21 p30_2 p30_3 p31 hm_m14) (fun r15 m16 hm_m16 => ?_)
      refine Fr.bd (FRX0_weigh _ _ _ _ p29_2 p29_3 p29_4 hm_m16) (fun _ m18 hm_m18 => ?_)
      exact ih _ _ hm_m18
set_option maxRecDepth 100000 in
set_option maxHeartbeats 4000000 in
theorem FRX0_seekPlaces_L19 {P : Nat → Nat → Prop} {m0 : ev_M} (f : Nat) (k : ev_M → Option (Unit × ev_M)) (o1 : Nat) (a2 : Int32) (p16_3 : ¬ P 16 3) (p18_2 : ¬ P 18 2) (p18_3 : ¬ P 18 3) (p18_10 : ¬ P 18 10) (p18_11 : ¬ P 18 11) (p18_12 : ¬ P 18 12) (p18_13 : ¬ P 18 13) (p18_14 : ¬ P 18 14) (p20 : ∀ k, ¬ P 20 k) (p21 : ∀ k, ¬ P 21 k) (p29_2 : ¬ P 29 2) (p29_3 : ¬ P 29 3) (p29_4 : ¬ P 29 4) (p30_2 : ¬ P 30 2) (p30_3 : ¬ P 30 3) (p30_4 : ¬ P 30 4) (p30_5 : ¬ P 30 5) (p31 : ∀ k, ¬ P 31 k) (p32 : ∀ k, ¬ P 32 k) (hk : ∀  (xm : ev_M), frP P m0 xm → Fr (frP P m0) (k xm)) : ∀ (n : Nat) (a3 : Int32) (m : ev_M), frP P m0 m → Fr (frP P m0) (FX0_seekPlaces_L19 f k o1 a2 n a3 m) := by
  intro n
  induction n with
  | zero => intros; exact Fr.none
  | succ n ih =>
    intro a3 m hm_m
    rw [FX0_seekPlaces_L19]
    refine Fr.bd (FRX3_towers _ hm_m) (fun r7 m8 hm_m8 => ?_)
    refine Fr.ite (fun _ => ?_) (fun _ => ?_)
    · exact hk _ hm_m8
    · exact FRX0_seekPlaces_L35 _ _ o1 _ _ p16_3 p18_2 p18_3 p18_10 p18_11 p18_12 p18_13 p18_14 p20 p21 p29_2 p29_3 p29_4 p30_2 p30_3 p30_4 p30_5 p31 p32 ((by
  intro m19 hm_m19
  exact ih _ _ hm_m19)) _ _ _ hm_m8
set_option maxRecDepth 100000 in
set_option maxHeartbeats 4000000 in
theorem FRX0_seekPlaces {P : Nat → Nat → Prop} {m0 : ev_M} (f : Nat) (o1 : Nat) (a2 : Int32) {m : ev_M} (p16_3 : ¬ P 16 3) (p18_2 : ¬ P 18 2) (p18_3 : ¬ P 18 3) (p18_10 : ¬ P 18 10) (p18_11 : ¬ P 18 11) (p18_12 : ¬ P 18 12) (p18_13 : ¬ P 18 13) (p18_14 : ¬ P 18 14) (p20 : ∀ k, ¬ P 20 k) (p21 : ∀ k, ¬ P 21 k) (p29_2 : ¬ P 29 2) (p29_3 : ¬ P 29 3) (p29_4 : ¬ P 29 4) (p30_2 : ¬ P 30 2) (p30_3 : ¬ P 30 3) (p30_4 : ¬ P 30 4) (p30_5 : ¬ P 30 5) (p31 : ∀ k, ¬ P 31 k) (p32 : ∀ k, ¬ P 32 k)  (hm_m : frP P m0 m) : Fr (frP P m0) (FX0_seekPlaces f o1 a2 m) := by
  unfold FX0_seekPlaces
  refine Fr.bd (FRX8_copy _ 30 o1 p30_2 p30_3 p30_4 p30_5 p31 p32 hm_m) (fun _ m2 hm_m2 => ?_)
  refine Fr.bd (FRX0_tryRounds _ _ p16_3 p18_2 p18_3 p18_10 p18_11 p18_12 p18_13 p18_14 p20 p21 p30_2 p30_3 p31 hm_m2) (fun r3 m4 hm_m4 => ?_)
  refine Fr.bd (FRX0_startWith _ _ p29_2 p29_3 p29_4 hm_m4) (fun _ m6 hm_m6 => ?_)
  exact FRX0_seekPlaces_L19 _ _ o1 _ p16_3 p18_2 p18_3 p18_10 p18_11 p18_12 p18_13 p18_14 p20 p21 p29_2 p29_3 p29_4 p30_2 p30_3 p30_4 p30_5 p31 p32 ((by
  intro m20 hm_m20
  exact Fr.ok hm_m20)) _ _ _ hm_m6
set_option maxRecDepth 100000 in
set_option maxHeartbeats 4000000 in
theorem FRX0_play_L12 {P : Nat → Nat → Prop} {m0 : ev_M} (f : Nat) (k : ev_M → Option (Unit × ev_M)) (o1 : Nat) (p16_3 : ¬ P 16 3) (p18_2 : ¬ P 18 2) (p18_3 : ¬ P 18 3) (p18_10 : ¬ P 18 10) (p18_11 : ¬ P 18 11) (p18_12 : ¬ P 18 12) (p18_13 : ¬ P 18 13) (p18_14 : ¬ P 18 14) (p20 : ∀ k, ¬ P 20 k) (p21 : ∀ k, ¬ P 21 k) (p29_2 : ¬ P 29 2) (p29_3 : ¬ P 29 3) (p29_4 : ¬ P 29 4) (p30_2 : ¬ P 30 2) (p30_3 : ¬ P 30 3) (p30_4 : ¬ P 30 4) (p30_5 : ¬ P 30 5) (p31 : ∀ k, ¬ P 31 k) (p32 : ∀ k, ¬ P 32 k) (hk : ∀  (xm : ev_M), frP P m0 xm → Fr (frP P m0) (k xm)) : ∀ (n : Nat) (a2 : Int32) (m : ev_M), frP P m0 m → Fr (frP P m0) (FX0_play_L12 f k o1 n a2 m) := by
  intro n
  induction n with
  | zero => intros; exact Fr.none
  | succ n ih =>
    intro a2 m hm_m
    rw [FX0_play_L12]
    refine Fr.bd (FRX3_towers _ hm_m) (fun r5 m6 hm_m6 => ?_)
    refine Fr.ite (fun _ => ?_) (fun _ => ?_)
    · exact hk _ hm_m6
    · refine Fr.bd (FRX0_worstBySigh _ o1 _ p16_3 p18_2 p18_3 p18_10 p18_11 p18_12 p18_13 p18_14 p20 p21 p30_2 p30_3 p30_4 p30_5 p31 p32 hm_m6) (fun r7 m8 hm_m8 => ?_)
      refine Fr.bd (FRX0_weigh _ _ _ _ p29_2 p29_3 p29_4 hm_m8) (fun _ m10 hm_m10 => ?_)
      exact ih _ _ hm_m10
set_option maxRecDepth 100000 in
set_option maxHeartbeats 4000000 in
theorem FRX0_play {P : Nat → Nat → Prop} {m0 : ev_M} (f : Nat) (o1 : Nat) {m : ev_M} (p16_3 : ¬ P 16 3) (p18_2 : ¬ P 18 2) (p18_3 : ¬ P 18 3) (p18_10 : ¬ P 18 10) (p18_11 : ¬ P 18 11) (p18_12 : ¬ P 18 12) (p18_13 : ¬ P 18 13) (p18_14 : ¬ P 18 14) (p20 : ∀ k, ¬ P 20 k) (p21 : ∀ k, ¬ P 21 k) (p29_2 : ¬ P 29 2) (p29_3 : ¬ P 29 3) (p29_4 : ¬ P 29 4) (p30_2 : ¬ P 30 2) (p30_3 : ¬ P 30 3) (p30_4 : ¬ P 30 4) (p30_5 : ¬ P 30 5) (p31 : ∀ k, ¬ P 31 k) (p32 : ∀ k, ¬ P 32 k)  (hm_m : frP P m0 m) : Fr (frP P m0) (FX0_play f o1 m) := by
  unfold FX0_play
  refine Fr.bd (FRX0_worstBySigh _ o1 _ p16_3 p18_2 p18_3 p18_10 p18_11 p18_12 p18_13 p18_14 p20 p21 p30_2 p30_3 p30_4 p30_5 p31 p32 hm_m) (fun r1 m2 hm_m2 => ?_)
  refine Fr.bd (FRX0_startWith _ _ p29_2 p29_3 p29_4 hm_m2) (fun _ m4 hm_m4 => ?_)
  exact FRX0_play_L12 _ _ o1 p16_3 p18_2 p18_3 p18_10 p18_11 p18_12 p18_13 p18_14 p20 p21 p29_2 p29_3 p29_4 p30_2 p30_3 p30_4 p30_5 p31 p32 ((by
  intro m11 hm_m11
  exact Fr.ok hm_m11)) _ _ _ hm_m4
set_option maxRecDepth 100000 in
set_option maxHeartbeats 4000000 in
theorem FRX11_cheered {P : Nat → Nat → Prop} {m0 : ev_M} (f : Nat) (a1 : Int32) {m : ev_M} (p16_3 : ¬ P 16 3) (p18_2 : ¬ P 18 2) (p18_3 : ¬ P 18 3) (p18_10 : ¬ P 18 10) (p18_11 : ¬ P 18 11) (p18_12 : ¬ P 18 12) (p18_13 : ¬ P 18 13) (p18_14 : ¬ P 18 14) (p20 : ∀ k, ¬ P 20 k) (p21 : ∀ k, ¬ P 21 k) (p30_2 : ¬ P 30 2) (p30_3 : ¬ P 30 3) (p30_4 : ¬ P 30 4) (p30_5 : ¬ P 30 5) (p31 : ∀ k, ¬ P 31 k) (p32 : ∀ k, ¬ P 32 k)  (hm_m : frP P m0 m) : Fr (frP P m0) (FX11_cheered f a1 m) := by
  unfold FX11_cheered
  refine Fr.bd (FRX11_isTold _ hm_m) (fun r1 m2 hm_m2 => ?_)
  refine Fr.ite (fun _ => ?_) (fun _ => ?_)
  · exact Fr.ok hm_m2
  · refine Fr.bd (FRX11_canBeAhead _ _ _ _ hm_m2) (fun r3 m4 hm_m4 => ?_)
    refine Fr.ite (fun _ => ?_) (fun _ => ?_)
    · exact Fr.ok hm_m4
    · refine Fr.bd (FRX0_fewestToCheer _ 103 _ p16_3 p18_2 p18_3 p18_10 p18_11 p18_12 p18_13 p18_14 p20 p21 p30_2 p30_3 p30_4 p30_5 p31 p32 hm_m4) (fun r5 m6 hm_m6 => ?_)
      exact Fr.ok hm_m6
set_option maxRecDepth 100000 in
set_option maxHeartbeats 4000000 in
theorem FRX11_sighs {P : Nat → Nat → Prop} {m0 : ev_M} (f : Nat) (a1 : Int32) {m : ev_M} (p16_3 : ¬ P 16 3) (p18_2 : ¬ P 18 2) (p18_3 : ¬ P 18 3) (p18_10 : ¬ P 18 10) (p18_11 : ¬ P 18 11) (p18_12 : ¬ P 18 12) (p18_13 : ¬ P 18 13) (p18_14 : ¬ P 18 14) (p20 : ∀ k, ¬ P 20 k) (p21 : ∀ k, ¬ P 21 k) (p30_2 : ¬ P 30 2) (p30_3 : ¬ P 30 3) (p30_4 : ¬ P 30 4) (p30_5 : ¬ P 30 5) (p31 : ∀ k, ¬ P 31 k) (p32 : ∀ k, ¬ P 32 k)  (hm_m : frP P m0 m) : Fr (frP P m0) (FX11_sighs f a1 m) := by
  unfold FX11_sighs
  refine Fr.bd (FRX11_isTold _ hm_m) (fun r1 m2 hm_m2 => ?_)
  refine Fr.ite (fun _ => ?_) (fun _ => ?_)
  · exact Fr.ok hm_m2
  · refine Fr.bd (FRX11_canBeAhead _ _ _ _ hm_m2) (fun r3 m4 hm_m4 => ?_)
    refine Fr.ite (fun _ => ?_) (fun _ => ?_)
    · exact Fr.ok hm_m4
    · refine Fr.bd (FRX0_fewestToSigh _ 103 _ p16_3 p18_2 p18_3 p18_10 p18_11 p18_12 p18_13 p18_14 p20 p21 p30_2 p30_3 p30_4 p30_5 p31 p32 hm_m4) (fun r5 m6 hm_m6 => ?_)
      exact Fr.ok hm_m6
set_option maxRecDepth 100000 in
set_option maxHeartbeats 4000000 in
theorem FRX11_better {P : Nat → Nat → Prop} {m0 : ev_M} (f : Nat) (a1 : Int32) (a2 : Int32) {m : ev_M} (p16_3 : ¬ P 16 3) (p18_2 : ¬ P 18 2) (p18_3 : ¬ P 18 3) (p18_10 : ¬ P 18 10) (p18_11 : ¬ P 18 11) (p18_12 : ¬ P 18 12) (p18_13 : ¬ P 18 13) (p18_14 : ¬ P 18 14) (p20 : ∀ k, ¬ P 20 k) (p21 : ∀ k, ¬ P 21 k) (p29_2 : ¬ P 29 2) (p29_3 : ¬ P 29 3) (p29_4 : ¬ P 29 4) (p30_2 : ¬ P 30 2) (p30_3 : ¬ P 30 3) (p30_4 : ¬ P 30 4) (p30_5 : ¬ P 30 5) (p31 : ∀ k, ¬ P 31 k) (p32 : ∀ k, ¬ P 32 k)  (hm_m : frP P m0 m) : Fr (frP P m0) (FX11_better f a1 a2 m) := by
  unfold FX11_better
  refine Fr.bd (FRX11_isTold _ hm_m) (fun r1 m2 hm_m2 => ?_)
  refine Fr.ite (fun _ => ?_) (fun _ => ?_)
  · exact Fr.ok hm_m2
  · refine Fr.bd (FRX11_canBeAhead _ _ _ _ hm_m2) (fun r3 m4 hm_m4 => ?_)
    refine Fr.ite (fun _ => ?_) (fun _ => ?_)
    · exact Fr.ok hm_m4
    · refine Fr.ite (fun _ => ?_) (fun _ => ?_)
      · exact Fr.ok hm_m4
      · refine Fr.ite (fun _ => ?_) (fun _ => ?_)
        · refine Fr.bd (FRX0_seekYes _ 103 _ p16_3 p18_2 p18_3 p18_10 p18_11 p18_12 p18_13 p18_14 p20 p21 p29_2 p29_3 p29_4 p30_2 p30_3 p30_4 p30_5 p31 p32 hm_m4) (fun _ m6 hm_m6 => ?_)
          refine Fr.ite (fun _ => ?_) (fun _ => ?_)
          · exact Fr.ok hm_m6
          · refine Fr.ite (fun _ => ?_) (fun _ => ?_)
            · exact Fr.ok hm_m6
            · exact Fr.ok hm_m6
        · exact Fr.ok hm_m4
set_option maxRecDepth 100000 in
set_option maxHeartbeats 4000000 in
theorem FRX11_placed {P : Nat → Nat → Prop} {m0 : ev_M} (f : Nat) (a1 : Int32) (a2 : Int32) {m : ev_M} (p16_3 : ¬ P 16 3) (p18_2 : ¬ P 18 2) (p18_3 : ¬ P 18 3) (p18_10 : ¬ P 18 10) (p18_11 : ¬ P 18 11) (p18_12 : ¬ P 18 12) (p18_13 : ¬ P 18 13) (p18_14 : ¬ P 18 14) (p20 : ∀ k, ¬ P 20 k) (p21 : ∀ k, ¬ P 21 k) (p29_2 : ¬ P 29 2) (p29_3 : ¬ P 29 3) (p29_4 : ¬ P 29 4) (p30_2 : ¬ P 30 2) (p30_3 : ¬ P 30 3) (p30_4 : ¬ P 30 4) (p30_5 : ¬ P 30 5) (p31 : ∀ k, ¬ P 31 k) (p32 : ∀ k, ¬ P 32 k)  (hm_m : frP P m0 m) : Fr (frP P m0) (FX11_placed f a1 a2 m) := by
  unfold FX11_placed
  refine Fr.bd (FRX11_isTold _ hm_m) (fun r1 m2 hm_m2 => ?_)
  refine Fr.ite (fun _ => ?_) (fun _ => ?_)
  · exact Fr.ok hm_m2
  · refine Fr.bd (FRX11_canBeAhead _ _ _ _ hm_m2) (fun r3 m4 hm_m4 => ?_)
    refine Fr.ite (fun _ => ?_) (fun _ => ?_)
    · exact Fr.ok hm_m4
    · refine Fr.ite (fun _ => ?_) (fun _ => ?_)
      · exact Fr.ok hm_m4
      · refine Fr.ite (fun _ => ?_) (fun _ => ?_)
        · refine Fr.bd (FRX0_seekPlaces _ 103 _ p16_3 p18_2 p18_3 p18_10 p18_11 p18_12 p18_13 p18_14 p20 p21 p29_2 p29_3 p29_4 p30_2 p30_3 p30_4 p30_5 p31 p32 hm_m4) (fun _ m6 hm_m6 => ?_)
          refine Fr.ite (fun _ => ?_) (fun _ => ?_)
          · exact Fr.ok hm_m6
          · refine Fr.ite (fun _ => ?_) (fun _ => ?_)
            · exact Fr.ok hm_m6
            · refine Fr.ite (fun _ => ?_) (fun _ => ?_)
              · exact Fr.ok hm_m6
              · exact Fr.ok hm_m6
        · exact Fr.ok hm_m4
set_option maxRecDepth 100000 in
set_option maxHeartbeats 4000000 in
theorem FRX11_game {P : Nat → Nat → Prop} {m0 : ev_M} (f : Nat) (a1 : Int32) {m : ev_M} (p16_3 : ¬ P 16 3) (p18_2 : ¬ P 18 2) (p18_3 : ¬ P 18 3) (p18_10 : ¬ P 18 10) (p18_11 : ¬ P 18 11) (p18_12 : ¬ P 18 12) (p18_13 : ¬ P 18 13) (p18_14 : ¬ P 18 14) (p20 : ∀ k, ¬ P 20 k) (p21 : ∀ k, ¬ P 21 k) (p29_2 : ¬ P 29 2) (p29_3 : ¬ P 29 3) (p29_4 : ¬ P 29 4) (p30_2 : ¬ P 30 2) (p30_3 : ¬ P 30 3) (p30_4 : ¬ P 30 4) (p30_5 : ¬ P 30 5) (p31 : ∀ k, ¬ P 31 k) (p32 : ∀ k, ¬ P 32 k)  (hm_m : frP P m0 m) : Fr (frP P m0) (FX11_game f a1 m) := by
  unfold FX11_game
  refine Fr.bd (FRX11_isTold _ hm_m) (fun r1 m2 hm_m2 => ?_)
  refine Fr.ite (fun _ => ?_) (fun _ => ?_)
  · exact Fr.ok hm_m2
  · refine Fr.bd (FRX8_hasNext _ 103 hm_m2) (fun r3 m4 hm_m4 => ?_)
    refine Fr.ite (fun _ => ?_) (fun _ => ?_)
    · exact Fr.ok hm_m4
    · refine Fr.ite (fun _ => ?_) (fun _ => ?_)
      · exact Fr.ok hm_m4
      · refine Fr.ite (fun _ => ?_) (fun _ => ?_)
        · refine Fr.bd (FRX0_play _ 103 p16_3 p18_2 p18_3 p18_10 p18_11 p18_12 p18_13 p18_14 p20 p21 p29_2 p29_3 p29_4 p30_2 p30_3 p30_4 p30_5 p31 p32 hm_m4) (fun _ m6 hm_m6 => ?_)
          refine Fr.ite (fun _ => ?_) (fun _ => ?_)
          · exact Fr.ok hm_m6
          · exact Fr.ok hm_m6
        · exact Fr.ok hm_m4
set_option maxRecDepth 100000 in
set_option maxHeartbeats 4000000 in
theorem FRX12_isIn {P : Nat → Nat → Prop} {m0 : ev_M} (f : Nat) (a0 : Int64) (a2 : Int64) (a4 : Int64) {m : ev_M}   (hm_m : frP P m0 m) : Fr (frP P m0) (FX12_isIn f a0 a2 a4 m) := by
  unfold FX12_isIn
  refine Fr.ite (fun _ => ?_) (fun _ => ?_)
  · exact Fr.ok hm_m
  · refine Fr.ite (fun _ => ?_) (fun _ => ?_)
    · exact Fr.ok hm_m
    · exact Fr.ok hm_m
set_option maxRecDepth 100000 in
set_option maxHeartbeats 4000000 in
theorem FRX12_feed_J81 {P : Nat → Nat → Prop} {m0 : ev_M} (f : Nat) (kt28 : Int32 → ev_M → Option (Int32 × ev_M)) (a6 : Int32) (s0 : Int32) {m : ev_M} (p112_1 : ¬ P 112 1) (p113 : ∀ k, ¬ P 113 k) (hkt28 : ∀ (x0 : Int32) (xm : ev_M), frP P m0 xm → Fr (frP P m0) (kt28 x0 xm)) (hm_m : frP P m0 m) : Fr (frP P m0) (FX12_feed_J81 f kt28 a6 s0 m) := by
  unfold FX12_feed_J81
  refine Fr.ite (fun _ => ?_) (fun _ => ?_)
  · exact hkt28 _ _ (frP_I p112_1 (frP_I (p113 _) hm_m))
  · exact Fr.none
set_option maxRecDepth 100000 in
set_option maxHeartbeats 4000000 in
theorem FRX12_feed_L28 {P : Nat → Nat → Prop} {m0 : ev_M} (f : Nat) (k : ev_M → Option (Int32 × ev_M)) (a1 : Int32) (a2 : Int32) (a3 : Int32) (a4 : Int32) (a5 : Int32) (p112_1 : ¬ P 112 1) (p113 : ∀ k, ¬ P 113 k) (hk : ∀  (xm : ev_M), frP P m0 xm → Fr (frP P m0) (k xm)) : ∀ (n : Nat) (a6 : Int32) (m : ev_M), frP P m0 m → Fr (frP P m0) (FX12_feed_L28 f k a1 a2 a3 a4 a5 n a6 m) := by
  intro n
  induction n with
  | zero => intros; exact Fr.none
  | succ n ih =>
    intro a6 m hm_m
    rw [FX12_feed_L28]
    refine Fr.ite (fun _ => ?_) (fun _ => ?_)
    · exact hk _ hm_m
    · refine Fr.ite (fun _ => ?_) (fun _ => ?_)
      · refine Fr.ite (fun _ => ?_) (fun _ => ?_)
        · refine Fr.ite (fun _ => ?_) (fun _ => ?_)
          · refine Fr.ite (fun _ => ?_) (fun _ => ?_)
            · exact FRX12_feed_J81 _ _ _ _ p112_1 p113 ih hm_m
            · exact FRX12_feed_J81 _ _ _ _ p112_1 p113 ih hm_m
          · exact FRX12_feed_J81 _ _ _ _ p112_1 p113 ih hm_m
        · exact FRX12_feed_J81 _ _ _ _ p112_1 p113 ih hm_m
      · exact FRX12_feed_J81 _ _ _ _ p112_1 p113 ih hm_m
set_option maxRecDepth 100000 in
set_option maxHeartbeats 4000000 in
theorem FRX12_feed {P : Nat → Nat → Prop} {m0 : ev_M} (f : Nat) (a1 : Int32) (a2 : Int32) (a3 : Int32) (a4 : Int32) (a5 : Int32) {m : ev_M} (p112_1 : ¬ P 112 1) (p113 : ∀ k, ¬ P 113 k) (p114_0 : ¬ P 114 0)  (hm_m : frP P m0 m) : Fr (frP P m0) (FX12_feed f a1 a2 a3 a4 a5 m) := by
  unfold FX12_feed
  refine Fr.ite (fun _ => ?_) (fun _ => ?_)
  · exact FRX12_feed_L28 _ _ _ _ _ _ _ p112_1 p113 ((by
  intro m1 hm_m1
  exact Fr.ok hm_m1)) _ _ _ hm_m
  · exact Fr.ok (frP_I p114_0 hm_m)
set_option maxRecDepth 100000 in
set_option maxHeartbeats 4000000 in
theorem FRX12_end {P : Nat → Nat → Prop} {m0 : ev_M} (f : Nat) (a1 : Int32) {m : ev_M} (p112_1 : ¬ P 112 1) (p114_0 : ¬ P 114 0)  (hm_m : frP P m0 m) : Fr (frP P m0) (FX12_end f a1 m) := by
  unfold FX12_end
  refine Fr.ite (fun _ => ?_) (fun _ => ?_)
  · exact Fr.ok (frP_I p114_0 hm_m)
  · refine Fr.ite (fun _ => ?_) (fun _ => ?_)
    · exact Fr.ok (frP_I p112_1 hm_m)
    · exact Fr.ok (frP_I p114_0 hm_m)
set_option maxRecDepth 100000 in
set_option maxHeartbeats 4000000 in
theorem FRX12_fail {P : Nat → Nat → Prop} {m0 : ev_M} (f : Nat) (a1 : Int32) (a2 : Int32) {m : ev_M} (p112_5 : ¬ P 112 5) (p112_6 : ¬ P 112 6)  (hm_m : frP P m0 m) : Fr (frP P m0) (FX12_fail f a1 a2 m) := by
  unfold FX12_fail
  refine Fr.ite (fun _ => ?_) (fun _ => ?_)
  · exact Fr.ok (frP_I p112_6 (frP_I p112_5 hm_m))
  · exact Fr.ok hm_m
set_option maxRecDepth 100000 in
set_option maxHeartbeats 4000000 in
theorem FRX12_isLetter {P : Nat → Nat → Prop} {m0 : ev_M} (f : Nat) (a0 : Int32) {m : ev_M}   (hm_m : frP P m0 m) : Fr (frP P m0) (FX12_isLetter f a0 m) := by
  unfold FX12_isLetter
  refine Fr.ite (fun _ => ?_) (fun _ => ?_)
  · exact Fr.ok hm_m
  · refine Fr.ite (fun _ => ?_) (fun _ => ?_)
    · exact Fr.ok hm_m
    · exact Fr.ok hm_m
set_option maxRecDepth 100000 in
set_option maxHeartbeats 4000000 in
theorem FRX12_isDigit {P : Nat → Nat → Prop} {m0 : ev_M} (f : Nat) (a0 : Int32) {m : ev_M}   (hm_m : frP P m0 m) : Fr (frP P m0) (FX12_isDigit f a0 m) := by
  unfold FX12_isDigit
  refine Fr.ite (fun _ => ?_) (fun _ => ?_)
  · exact Fr.ok hm_m
  · refine Fr.ite (fun _ => ?_) (fun _ => ?_)
    · exact Fr.ok hm_m
    · exact Fr.ok hm_m
set_option maxRecDepth 100000 in
set_option maxHeartbeats 4000000 in
theorem FRX12_look_J39 {P : Nat → Nat → Prop} {m0 : ev_M} (f : Nat) (kt0 : ev_M → Option (Int32 × ev_M)) {m : ev_M} (p112_2 : ¬ P 112 2) (hkt0 : ∀  (xm : ev_M), frP P m0 xm → Fr (frP P m0) (kt0 xm)) (hm_m : frP P m0 m) : Fr (frP P m0) (FX12_look_J39 f kt0 m) := by
  unfold FX12_look_J39
  exact hkt0 _ (frP_I p112_2 hm_m)
set_option maxRecDepth 100000 in
set_option maxHeartbeats 4000000 in
theorem FRX12_look_L0 {P : Nat → Nat → Prop} {m0 : ev_M} (f : Nat) (k : ev_M → Option (Int32 × ev_M)) (p112_2 : ¬ P 112 2) (hk : ∀  (xm : ev_M), frP P m0 xm → Fr (frP P m0) (k xm)) : ∀ (n : Nat)  (m : ev_M), frP P m0 m → Fr (frP P m0) (FX12_look_L0 f k n m) := by
  intro n
  induction n with
  | zero => intros; exact Fr.none
  | succ n ih =>
    intro m hm_m
    rw [FX12_look_L0]
    refine Fr.ite (fun _ => ?_) (fun _ => ?_)
    · exact hk _ hm_m
    · refine Fr.ite (fun _ => ?_) (fun _ => ?_)
      · refine Fr.ite (fun _ => ?_) (fun _ => ?_)
        · exact FRX12_look_J39 _ _ p112_2 ih hm_m
        · refine Fr.ite (fun _ => ?_) (fun _ => ?_)
          · refine Fr.ite (fun _ => ?_) (fun _ => ?_)
            · exact FRX12_look_J39 _ _ p112_2 ih hm_m
            · exact hk _ hm_m
          · exact Fr.none
      · exact Fr.none
set_option maxRecDepth 100000 in
set_option maxHeartbeats 4000000 in
theorem FRX12_look {P : Nat → Nat → Prop} {m0 : ev_M} (f : Nat) {m : ev_M} (p112_2 : ¬ P 112 2)  (hm_m : frP P m0 m) : Fr (frP P m0) (FX12_look f m) := by
  unfold FX12_look
  exact FRX12_look_L0 _ _ p112_2 ((by
  intro m1 hm_m1
  refine Fr.ite (fun _ => ?_) (fun _ => ?_)
  · exact Fr.ok hm_m1
  · refine Fr.ite (fun _ => ?_) (fun _ => ?_)
    · exact Fr.ok hm_m1
    · exact Fr.none)) _ _ hm_m
set_option maxRecDepth 100000 in
set_option maxHeartbeats 4000000 in
theorem FRX12_isHere_L35 {P : Nat → Nat → Prop} {m0 : ev_M} (f : Nat) (k : Int32 → ev_M → Option (Int32 × ev_M))  (hk : ∀ (x0 : Int32) (xm : ev_M), frP P m0 xm → Fr (frP P m0) (k x0 xm)) : ∀ (n : Nat) (a2 : Int32) (m : ev_M), frP P m0 m → Fr (frP P m0) (FX12_isHere_L35 f k n a2 m) := by
  intro n
  induction n with
  | zero => intros; exact Fr.none
  | succ n ih =>
    intro a2 m hm_m
    rw [FX12_isHere_L35]
    refine Fr.ite (fun _ => ?_) (fun _ => ?_)
    · exact hk _ _ hm_m
    · refine Fr.ite (fun _ => ?_) (fun _ => ?_)
      · refine Fr.bd (FRX12_isLetter _ _ hm_m) (fun r5 m6 hm_m6 => ?_)
        refine Fr.ite (fun _ => ?_) (fun _ => ?_)
        · exact hk _ _ hm_m6
        · exact ih _ _ hm_m6
      · exact Fr.none
set_option maxRecDepth 100000 in
set_option maxHeartbeats 4000000 in
theorem FRX12_isHere_L76 {P : Nat → Nat → Prop} {m0 : ev_M} (f : Nat) (k : ev_M → Option (Int32 × ev_M)) (o1 : Nat)  (hk : ∀  (xm : ev_M), frP P m0 xm → Fr (frP P m0) (k xm)) : ∀ (n : Nat) (a3 : Int32) (m : ev_M), frP P m0 m → Fr (frP P m0) (FX12_isHere_L76 f k o1 n a3 m) := by
  intro n
  induction n with
  | zero => intros; exact Fr.none
  | succ n ih =>
    intro a3 m hm_m
    rw [FX12_isHere_L76]
    refine Fr.ite (fun _ => ?_) (fun _ => ?_)
    · exact hk _ hm_m
    · refine Fr.ite (fun _ => ?_) (fun _ => ?_)
      · refine Fr.ite (fun _ => ?_) (fun _ => ?_)
        · refine Fr.ite (fun _ => ?_) (fun _ => ?_)
          · exact ih _ _ hm_m
          · exact Fr.ok hm_m
        · exact Fr.none
      · exact Fr.none
set_option maxRecDepth 100000 in
set_option maxHeartbeats 4000000 in
theorem FRX12_isHere_J61 {P : Nat → Nat → Prop} {m0 : ev_M} (f : Nat) (o1 : Nat) (a2 : Int32) {m : ev_M}   (hm_m : frP P m0 m) : Fr (frP P m0) (FX12_isHere_J61 f o1 a2 m) := by
  unfold FX12_isHere_J61
  refine Fr.ite (fun _ => ?_) (fun _ => ?_)
  · exact FRX12_isHere_L76 _ _ o1 ((by
  intro m9 hm_m9
  exact Fr.ok hm_m9)) _ _ _ hm_m
  · exact Fr.ok hm_m
set_option maxRecDepth 100000 in
set_option maxHeartbeats 4000000 in
theorem FRX12_isHere {P : Nat → Nat → Prop} {m0 : ev_M} (f : Nat) (o1 : Nat) {m : ev_M} (p112_2 : ¬ P 112 2)  (hm_m : frP P m0 m) : Fr (frP P m0) (FX12_isHere f o1 m) := by
  unfold FX12_isHere
  refine Fr.ite (fun _ => ?_) (fun _ => ?_)
  · refine Fr.bd (FRX12_look _ p112_2 hm_m) (fun r1 m2 hm_m2 => ?_)
    refine Fr.bd (FRX12_isLetter _ _ hm_m2) (fun r3 m4 hm_m4 => ?_)
    refine Fr.ite (fun _ => ?_) (fun _ => ?_)
    · exact Fr.ok hm_m4
    · refine Fr.ite (fun _ => ?_) (fun _ => ?_)
      · exact Fr.ok hm_m4
      · exact FRX12_isHere_L35 _ _ ((by
  intro e7 m8 hm_m8
  exact FRX12_isHere_J61 _ o1 _ hm_m8)) _ _ _ hm_m4
  · exact Fr.ok hm_m
set_option maxRecDepth 100000 in
set_option maxHeartbeats 4000000 in
theorem FRX12_takes {P : Nat → Nat → Prop} {m0 : ev_M} (f : Nat) (o1 : Nat) {m : ev_M} (p112_2 : ¬ P 112 2) (p112_4 : ¬ P 112 4)  (hm_m : frP P m0 m) : Fr (frP P m0) (FX12_takes f o1 m) := by
  unfold FX12_takes
  refine Fr.bd (FRX12_isHere _ o1 p112_2 hm_m) (fun r1 m2 hm_m2 => ?_)
  refine Fr.ite (fun _ => ?_) (fun _ => ?_)
  · exact Fr.ok hm_m2
  · exact Fr.ok (frP_I p112_4 (frP_I p112_2 hm_m2))
set_option maxRecDepth 100000 in
set_option maxHeartbeats 4000000 in
theorem FRX12_asks {P : Nat → Nat → Prop} {m0 : ev_M} (f : Nat) (o1 : Nat) {m : ev_M} (p112_2 : ¬ P 112 2) (p112_4 : ¬ P 112 4) (p112_5 : ¬ P 112 5) (p112_6 : ¬ P 112 6)  (hm_m : frP P m0 m) : Fr (frP P m0) (FX12_asks f o1 m) := by
  unfold FX12_asks
  refine Fr.ite (fun _ => ?_) (fun _ => ?_)
  · refine Fr.bd (FRX12_takes _ o1 p112_2 p112_4 hm_m) (fun r1 m2 hm_m2 => ?_)
    refine Fr.ite (fun _ => ?_) (fun _ => ?_)
    · refine Fr.bd (FRX12_fail _ _ _ p112_5 p112_6 hm_m2) (fun _ m4 hm_m4 => ?_)
      exact Fr.ok hm_m4
    · exact Fr.ok hm_m2
  · exact Fr.ok hm_m
set_option maxRecDepth 100000 in
set_option maxHeartbeats 4000000 in
theorem FRX12_takesSign {P : Nat → Nat → Prop} {m0 : ev_M} (f : Nat) (a1 : Int32) {m : ev_M} (p112_2 : ¬ P 112 2)  (hm_m : frP P m0 m) : Fr (frP P m0) (FX12_takesSign f a1 m) := by
  unfold FX12_takesSign
  refine Fr.ite (fun _ => ?_) (fun _ => ?_)
  · refine Fr.bd (FRX12_look _ p112_2 hm_m) (fun r1 m2 hm_m2 => ?_)
    refine Fr.ite (fun _ => ?_) (fun _ => ?_)
    · exact Fr.ok (frP_I p112_2 hm_m2)
    · exact Fr.ok hm_m2
  · exact Fr.ok hm_m
set_option maxRecDepth 100000 in
set_option maxHeartbeats 4000000 in
theorem FRX12_asksSign {P : Nat → Nat → Prop} {m0 : ev_M} (f : Nat) (a1 : Int32) {m : ev_M} (p112_2 : ¬ P 112 2) (p112_5 : ¬ P 112 5) (p112_6 : ¬ P 112 6)  (hm_m : frP P m0 m) : Fr (frP P m0) (FX12_asksSign f a1 m) := by
  unfold FX12_asksSign
  refine Fr.ite (fun _ => ?_) (fun _ => ?_)
  · refine Fr.bd (FRX12_takesSign _ _ p112_2 hm_m) (fun r1 m2 hm_m2 => ?_)
    refine Fr.ite (fun _ => ?_) (fun _ => ?_)
    · refine Fr.bd (FRX12_fail _ _ _ p112_5 p112_6 hm_m2) (fun _ m4 hm_m4 => ?_)
      exact Fr.ok hm_m4
    · exact Fr.ok hm_m2
  · exact Fr.ok hm_m
set_option maxRecDepth 100000 in
set_option maxHeartbeats 4000000 in
theorem FRX12_number_J30 {P : Nat → Nat → Prop} {m0 : ev_M} (f : Nat) {m : ev_M} (p112_5 : ¬ P 112 5) (p112_6 : ¬ P 112 6)  (hm_m : frP P m0 m) : Fr (frP P m0) (FX12_number_J30 f m) := by
  unfold FX12_number_J30
  refine Fr.bd (FRX12_fail _ _ _ p112_5 p112_6 hm_m) (fun _ m6 hm_m6 => ?_)
  exact Fr.ok hm_m6
set_option maxRecDepth 100000 in
set_option maxHeartbeats 4000000 in
theorem FRX12_number_L49 {P : Nat → Nat → Prop} {m0 : ev_M} (f : Nat) (k : Int32 → ev_M → Option (Int32 × ev_M)) (a3 : Int32) (p112_2 : ¬ P 112 2) (p112_5 : ¬ P 112 5) (p112_6 : ¬ P 112 6) (hk : ∀ (x0 : Int32) (xm : ev_M), frP P m0 xm → Fr (frP P m0) (k x0 xm)) : ∀ (n : Nat) (a4 : Int32) (m : ev_M), frP P m0 m → Fr (frP P m0) (FX12_number_L49 f k a3 n a4 m) := by
  intro n
  induction n with
  | zero => intros; exact Fr.none
  | succ n ih =>
    intro a4 m hm_m
    rw [FX12_number_L49]
    refine Fr.ite (fun _ => ?_) (fun _ => ?_)
    · exact hk _ _ hm_m
    · refine Fr.ite (fun _ => ?_) (fun _ => ?_)
      · refine Fr.bd (FRX12_isDigit _ _ hm_m) (fun r7 m8 hm_m8 => ?_)
        refine Fr.ite (fun _ => ?_) (fun _ => ?_)
        · exact hk _ _ hm_m8
        · refine Fr.ite (fun _ => ?_) (fun _ => ?_)
          · refine Fr.bd (FRX12_fail _ _ _ p112_5 p112_6 hm_m8) (fun _ m10 hm_m10 => ?_)
            exact Fr.ok hm_m10
          · refine Fr.ite (fun _ => ?_) (fun _ => ?_)
            · exact ih _ _ (frP_I p112_2 hm_m8)
            · exact Fr.none
      · exact Fr.none
set_option maxRecDepth 100000 in
set_option maxHeartbeats 4000000 in
theorem FRX12_number_J129 {P : Nat → Nat → Prop} {m0 : ev_M} (f : Nat) (a1 : Int32) (a2 : Int32) (a3 : Int32) (a4 : Int32) {m : ev_M} (p112_4 : ¬ P 112 4) (p112_5 : ¬ P 112 5) (p112_6 : ¬ P 112 6)  (hm_m : frP P m0 m) : Fr (frP P m0) (FX12_number_J129 f a1 a2 a3 a4 m) := by
  unfold FX12_number_J129
  refine Fr.bd (FRX12_isIn _ _ _ _ (frP_I p112_4 hm_m)) (fun r13 m14 hm_m14 => ?_)
  refine Fr.ite (fun _ => ?_) (fun _ => ?_)
  · refine Fr.bd (FRX12_fail _ _ _ p112_5 p112_6 hm_m14) (fun _ m16 hm_m16 => ?_)
    exact Fr.ok hm_m16
  · exact Fr.ok hm_m14
set_option maxRecDepth 100000 in
set_option maxHeartbeats 4000000 in
theorem FRX12_number {P : Nat → Nat → Prop} {m0 : ev_M} (f : Nat) (a1 : Int32) (a2 : Int32) {m : ev_M} (p112_2 : ¬ P 112 2) (p112_4 : ¬ P 112 4) (p112_5 : ¬ P 112 5) (p112_6 : ¬ P 112 6)  (hm_m : frP P m0 m) : Fr (frP P m0) (FX12_number f a1 a2 m) := by
  unfold FX12_number
  refine Fr.ite (fun _ => ?_) (fun _ => ?_)
  · refine Fr.bd (FRX12_look _ p112_2 hm_m) (fun r1 m2 hm_m2 => ?_)
    refine Fr.bd (FRX12_isDigit _ _ hm_m2) (fun r3 m4 hm_m4 => ?_)
    refine Fr.ite (fun _ => ?_) (fun _ => ?_)
    · exact FRX12_number_J30 _ p112_5 p112_6 hm_m4
    · refine Fr.ite (fun _ => ?_) (fun _ => ?_)
      · exact FRX12_number_J30 _ p112_5 p112_6 hm_m4
      · exact FRX12_number_L49 _ _ _ p112_2 p112_5 p112_6 ((by
  intro e11 m12 hm_m12
  exact FRX12_number_J129 _ _ _ _ _ p112_4 p112_5 p112_6 hm_m12)) _ _ _ hm_m4
  · exact Fr.ok hm_m
set_option maxRecDepth 100000 in
set_option maxHeartbeats 4000000 in
theorem FRX12_isOwnHere_J223 {P : Nat → Nat → Prop} {m0 : ev_M} (f : Nat) (s0 : Int32) {m : ev_M} (p112_2 : ¬ P 112 2)  (hm_m : frP P m0 m) : Fr (frP P m0) (FX12_isOwnHere_J223 f s0 m) := by
  unfold FX12_isOwnHere_J223
  refine Fr.ite (fun _ => ?_) (fun _ => ?_)
  · refine Fr.bd (FRX12_isHere _ 133 p112_2 hm_m) (fun r3 m4 hm_m4 => ?_)
    refine Fr.ite (fun _ => ?_) (fun _ => ?_)
    · refine Fr.bd (FRX12_isHere _ 134 p112_2 hm_m4) (fun r5 m6 hm_m6 => ?_)
      refine Fr.ite (fun _ => ?_) (fun _ => ?_)
      · refine Fr.bd (FRX12_isHere _ 135 p112_2 hm_m6) (fun r7 m8 hm_m8 => ?_)
        refine Fr.ite (fun _ => ?_) (fun _ => ?_)
        · refine Fr.bd (FRX12_isHere _ 136 p112_2 hm_m8) (fun r9 m10 hm_m10 => ?_)
          refine Fr.ite (fun _ => ?_) (fun _ => ?_)
          · refine Fr.bd (FRX12_isHere _ 137 p112_2 hm_m10) (fun r11 m12 hm_m12 => ?_)
            refine Fr.ite (fun _ => ?_) (fun _ => ?_)
            · exact Fr.ok hm_m12
            · exact Fr.ok hm_m12
          · exact Fr.ok hm_m10
        · exact Fr.ok hm_m8
      · exact Fr.ok hm_m6
    · exact Fr.ok hm_m4
  · exact Fr.ok hm_m
set_option maxRecDepth 100000 in
set_option maxHeartbeats 4000000 in
theorem FRX12_isOwnHere_J218 {P : Nat → Nat → Prop} {m0 : ev_M} (f : Nat) {m : ev_M} (p112_2 : ¬ P 112 2)  (hm_m : frP P m0 m) : Fr (frP P m0) (FX12_isOwnHere_J218 f m) := by
  unfold FX12_isOwnHere_J218
  exact FRX12_isOwnHere_J223 _ _ p112_2 hm_m
set_option maxRecDepth 100000 in
set_option maxHeartbeats 4000000 in
theorem FRX12_isOwnHere_J147 {P : Nat → Nat → Prop} {m0 : ev_M} (f : Nat) (s0 : Int32) {m : ev_M} (p112_2 : ¬ P 112 2)  (hm_m : frP P m0 m) : Fr (frP P m0) (FX12_isOwnHere_J147 f s0 m) := by
  unfold FX12_isOwnHere_J147
  refine Fr.ite (fun _ => ?_) (fun _ => ?_)
  · refine Fr.bd (FRX12_isHere _ 127 p112_2 hm_m) (fun r13 m14 hm_m14 => ?_)
    refine Fr.ite (fun _ => ?_) (fun _ => ?_)
    · refine Fr.bd (FRX12_isHere _ 128 p112_2 hm_m14) (fun r15 m16 hm_m16 => ?_)
      refine Fr.ite (fun _ => ?_) (fun _ => ?_)
      · refine Fr.bd (FRX12_isHere _ 129 p112_2 hm_m16) (fun r17 m18 hm_m18 => ?_)
        refine Fr.ite (fun _ => ?_) (fun _ => ?_)
        · refine Fr.bd (FRX12_isHere _ 130 p112_2 hm_m18) (fun r19 m20 hm_m20 => ?_)
          refine Fr.ite (fun _ => ?_) (fun _ => ?_)
          · refine Fr.bd (FRX12_isHere _ 131 p112_2 hm_m20) (fun r21 m22 hm_m22 => ?_)
            refine Fr.ite (fun _ => ?_) (fun _ => ?_)
            · refine Fr.bd (FRX12_isHere _ 132 p112_2 hm_m22) (fun r23 m24 hm_m24 => ?_)
              refine Fr.ite (fun _ => ?_) (fun _ => ?_)
              · exact FRX12_isOwnHere_J223 _ _ p112_2 hm_m24
              · exact FRX12_isOwnHere_J218 _ p112_2 hm_m24
            · exact FRX12_isOwnHere_J218 _ p112_2 hm_m22
          · exact FRX12_isOwnHere_J218 _ p112_2 hm_m20
        · exact FRX12_isOwnHere_J218 _ p112_2 hm_m18
      · exact FRX12_isOwnHere_J218 _ p112_2 hm_m16
    · exact FRX12_isOwnHere_J218 _ p112_2 hm_m14
  · exact FRX12_isOwnHere_J218 _ p112_2 hm_m
set_option maxRecDepth 100000 in
set_option maxHeartbeats 4000000 in
theorem FRX12_isOwnHere_J142 {P : Nat → Nat → Prop} {m0 : ev_M} (f : Nat) {m : ev_M} (p112_2 : ¬ P 112 2)  (hm_m : frP P m0 m) : Fr (frP P m0) (FX12_isOwnHere_J142 f m) := by
  unfold FX12_isOwnHere_J142
  exact FRX12_isOwnHere_J147 _ _ p112_2 hm_m
set_option maxRecDepth 100000 in
set_option maxHeartbeats 4000000 in
theorem FRX12_isOwnHere_J71 {P : Nat → Nat → Prop} {m0 : ev_M} (f : Nat) (s0 : Int32) {m : ev_M} (p112_2 : ¬ P 112 2)  (hm_m : frP P m0 m) : Fr (frP P m0) (FX12_isOwnHere_J71 f s0 m) := by
  unfold FX12_isOwnHere_J71
  refine Fr.ite (fun _ => ?_) (fun _ => ?_)
  · refine Fr.bd (FRX12_isHere _ 121 p112_2 hm_m) (fun r25 m26 hm_m26 => ?_)
    refine Fr.ite (fun _ => ?_) (fun _ => ?_)
    · refine Fr.bd (FRX12_isHere _ 122 p112_2 hm_m26) (fun r27 m28 hm_m28 => ?_)
      refine Fr.ite (fun _ => ?_) (fun _ => ?_)
      · refine Fr.bd (FRX12_isHere _ 123 p112_2 hm_m28) (fun r29 m30 hm_m30 => ?_)
        refine Fr.ite (fun _ => ?_) (fun _ => ?_)
        · refine Fr.bd (FRX12_isHere _ 124 p112_2 hm_m30) (fun r31 m32 hm_m32 => ?_)
          refine Fr.ite (fun _ => ?_) (fun _ => ?_)
          · refine Fr.bd (FRX12_isHere _ 125 p112_2 hm_m32) (fun r33 m34 hm_m34 => ?_)
            refine Fr.ite (fun _ => ?_) (fun _ => ?_)
            · refine Fr.bd (FRX12_isHere _ 126 p112_2 hm_m34) (fun r35 m36 hm_m36 => ?_)
              refine Fr.ite (fun _ => ?_) (fun _ => ?_)
              · exact FRX12_isOwnHere_J147 _ _ p112_2 hm_m36
              · exact FRX12_isOwnHere_J142 _ p112_2 hm_m36
            · exact FRX12_isOwnHere_J142 _ p112_2 hm_m34
          · exact FRX12_isOwnHere_J142 _ p112_2 hm_m32
        · exact FRX12_isOwnHere_J142 _ p112_2 hm_m30
      · exact FRX12_isOwnHere_J142 _ p112_2 hm_m28
    · exact FRX12_isOwnHere_J142 _ p112_2 hm_m26
  · exact FRX12_isOwnHere_J142 _ p112_2 hm_m
set_option maxRecDepth 100000 in
set_option maxHeartbeats 4000000 in
theorem FRX12_isOwnHere_J66 {P : Nat → Nat → Prop} {m0 : ev_M} (f : Nat) {m : ev_M} (p112_2 : ¬ P 112 2)  (hm_m : frP P m0 m) : Fr (frP P m0) (FX12_isOwnHere_J66 f m) := by
  unfold FX12_isOwnHere_J66
  exact FRX12_isOwnHere_J71 _ _ p112_2 hm_m
set_option maxRecDepth 100000 in
set_option maxHeartbeats 4000000 in
theorem FRX12_isOwnHere {P : Nat → Nat → Prop} {m0 : ev_M} (f : Nat) {m : ev_M} (p112_2 : ¬ P 112 2)  (hm_m : frP P m0 m) : Fr (frP P m0) (FX12_isOwnHere f m) := by
  unfold FX12_isOwnHere
  refine Fr.bd (FRX12_isHere _ 115 p112_2 hm_m) (fun r1 m2 hm_m2 => ?_)
  refine Fr.ite (fun _ => ?_) (fun _ => ?_)
  · refine Fr.bd (FRX12_isHere _ 116 p112_2 hm_m2) (fun r37 m38 hm_m38 => ?_)
    refine Fr.ite (fun _ => ?_) (fun _ => ?_)
    · refine Fr.bd (FRX12_isHere _ 117 p112_2 hm_m38) (fun r39 m40 hm_m40 => ?_)
      refine Fr.ite (fun _ => ?_) (fun _ => ?_)
      · refine Fr.bd (FRX12_isHere _ 118 p112_2 hm_m40) (fun r41 m42 hm_m42 => ?_)
        refine Fr.ite (fun _ => ?_) (fun _ => ?_)
        · refine Fr.bd (FRX12_isHere _ 119 p112_2 hm_m42) (fun r43 m44 hm_m44 => ?_)
          refine Fr.ite (fun _ => ?_) (fun _ => ?_)
          · refine Fr.bd (FRX12_isHere _ 120 p112_2 hm_m44) (fun r45 m46 hm_m46 => ?_)
            refine Fr.ite (fun _ => ?_) (fun _ => ?_)
            · exact FRX12_isOwnHere_J71 _ _ p112_2 hm_m46
            · exact FRX12_isOwnHere_J66 _ p112_2 hm_m46
          · exact FRX12_isOwnHere_J66 _ p112_2 hm_m44
        · exact FRX12_isOwnHere_J66 _ p112_2 hm_m42
      · exact FRX12_isOwnHere_J66 _ p112_2 hm_m40
    · exact FRX12_isOwnHere_J66 _ p112_2 hm_m38
  · exact FRX12_isOwnHere_J66 _ p112_2 hm_m2
set_option maxRecDepth 100000 in
set_option maxHeartbeats 4000000 in
theorem FRX12_name_J37 {P : Nat → Nat → Prop} {m0 : ev_M} (f : Nat) {m : ev_M} (p112_5 : ¬ P 112 5) (p112_6 : ¬ P 112 6)  (hm_m : frP P m0 m) : Fr (frP P m0) (FX12_name_J37 f m) := by
  unfold FX12_name_J37
  refine Fr.bd (FRX12_fail _ _ _ p112_5 p112_6 hm_m) (fun _ m6 hm_m6 => ?_)
  exact Fr.ok hm_m6
set_option maxRecDepth 100000 in
set_option maxHeartbeats 4000000 in
theorem FRX12_name_L58 {P : Nat → Nat → Prop} {m0 : ev_M} (f : Nat) (k : Int64 → ev_M → Option (Int64 × ev_M)) (p112_2 : ¬ P 112 2) (p112_5 : ¬ P 112 5) (p112_6 : ¬ P 112 6) (hk : ∀ (x0 : Int64) (xm : ev_M), frP P m0 xm → Fr (frP P m0) (k x0 xm)) : ∀ (n : Nat) (a1 : Int64) (m : ev_M), frP P m0 m → Fr (frP P m0) (FX12_name_L58 f k n a1 m) := by
  intro n
  induction n with
  | zero => intros; exact Fr.none
  | succ n ih =>
    intro a1 m hm_m
    rw [FX12_name_L58]
    refine Fr.ite (fun _ => ?_) (fun _ => ?_)
    · exact hk _ _ hm_m
    · refine Fr.ite (fun _ => ?_) (fun _ => ?_)
      · refine Fr.bd (FRX12_isLetter _ _ hm_m) (fun r9 m10 hm_m10 => ?_)
        refine Fr.ite (fun _ => ?_) (fun _ => ?_)
        · exact hk _ _ hm_m10
        · refine Fr.ite (fun _ => ?_) (fun _ => ?_)
          · refine Fr.bd (FRX12_fail _ _ _ p112_5 p112_6 hm_m10) (fun _ m12 hm_m12 => ?_)
            exact Fr.ok hm_m12
          · refine Fr.ite (fun _ => ?_) (fun _ => ?_)
            · exact ih _ _ (frP_I p112_2 hm_m10)
            · exact Fr.none
      · exact Fr.none
set_option maxRecDepth 100000 in
set_option maxHeartbeats 4000000 in
theorem FRX12_name {P : Nat → Nat → Prop} {m0 : ev_M} (f : Nat) {m : ev_M} (p112_2 : ¬ P 112 2) (p112_4 : ¬ P 112 4) (p112_5 : ¬ P 112 5) (p112_6 : ¬ P 112 6) (p112_33 : ¬ P 112 33)  (hm_m : frP P m0 m) : Fr (frP P m0) (FX12_name f m) := by
  unfold FX12_name
  refine Fr.ite (fun _ => ?_) (fun _ => ?_)
  · refine Fr.bd (FRX12_look _ p112_2 hm_m) (fun r1 m2 hm_m2 => ?_)
    refine Fr.bd (FRX12_isLetter _ _ hm_m2) (fun r3 m4 hm_m4 => ?_)
    refine Fr.ite (fun _ => ?_) (fun _ => ?_)
    · exact FRX12_name_J37 _ p112_5 p112_6 hm_m4
    · refine Fr.ite (fun _ => ?_) (fun _ => ?_)
      · exact FRX12_name_J37 _ p112_5 p112_6 hm_m4
      · refine Fr.bd (FRX12_isOwnHere _ p112_2 hm_m4) (fun r7 m8 hm_m8 => ?_)
        refine Fr.ite (fun _ => ?_) (fun _ => ?_)
        · exact FRX12_name_L58 _ _ p112_2 p112_5 p112_6 ((by
  intro e13 m14 hm_m14
  exact Fr.ok (frP_I p112_4 hm_m14))) _ _ _ (frP_I p112_33 hm_m8)
        · exact FRX12_name_J37 _ p112_5 p112_6 hm_m8
  · exact Fr.ok hm_m
set_option maxRecDepth 100000 in
set_option maxHeartbeats 4000000 in
theorem FRX12_isAllowed {P : Nat → Nat → Prop} {m0 : ev_M} (f : Nat) (a1 : Int32) {m : ev_M}   (hm_m : frP P m0 m) : Fr (frP P m0) (FX12_isAllowed f a1 m) := by
  unfold FX12_isAllowed
  refine Fr.ite (fun _ => ?_) (fun _ => ?_)
  · refine Fr.ite (fun _ => ?_) (fun _ => ?_)
    · exact Fr.ok hm_m
    · exact Fr.ok hm_m
  · refine Fr.ite (fun _ => ?_) (fun _ => ?_)
    · refine Fr.ite (fun _ => ?_) (fun _ => ?_)
      · exact Fr.ok hm_m
      · refine Fr.ite (fun _ => ?_) (fun _ => ?_)
        · exact Fr.ok hm_m
        · exact Fr.ok hm_m
    · refine Fr.bd (FRX12_isIn _ _ _ _ hm_m) (fun r1 m2 hm_m2 => ?_)
      refine Fr.ite (fun _ => ?_) (fun _ => ?_)
      · refine Fr.ite (fun _ => ?_) (fun _ => ?_)
        · exact Fr.ok hm_m2
        · exact Fr.ok hm_m2
      · exact Fr.ok hm_m2
set_option maxRecDepth 100000 in
set_option maxHeartbeats 4000000 in
theorem FRX12_nameOf_L2 {P : Nat → Nat → Prop} {m0 : ev_M} (f : Nat) (k : ev_M → Option (Int32 × ev_M)) (a1 : Int64)  (hk : ∀  (xm : ev_M), frP P m0 xm → Fr (frP P m0) (k xm)) : ∀ (n : Nat) (a3 : Int32) (m : ev_M), frP P m0 m → Fr (frP P m0) (FX12_nameOf_L2 f k a1 n a3 m) := by
  intro n
  induction n with
  | zero => intros; exact Fr.none
  | succ n ih =>
    intro a3 m hm_m
    rw [FX12_nameOf_L2]
    refine Fr.ite (fun _ => ?_) (fun _ => ?_)
    · exact hk _ hm_m
    · refine Fr.ite (fun _ => ?_) (fun _ => ?_)
      · refine Fr.ite (fun _ => ?_) (fun _ => ?_)
        · exact Fr.ok hm_m
        · exact ih _ _ hm_m
      · exact Fr.none
set_option maxRecDepth 100000 in
set_option maxHeartbeats 4000000 in
theorem FRX12_nameOf {P : Nat → Nat → Prop} {m0 : ev_M} (f : Nat) (a1 : Int64) {m : ev_M}   (hm_m : frP P m0 m) : Fr (frP P m0) (FX12_nameOf f a1 m) := by
  unfold FX12_nameOf
  exact FRX12_nameOf_L2 _ _ _ ((by
  intro m1 hm_m1
  exact Fr.ok hm_m1)) _ _ _ hm_m
set_option maxRecDepth 100000 in
set_option maxHeartbeats 4000000 in
theorem FRX12_callTold0 {P : Nat → Nat → Prop} {m0 : ev_M} (f : Nat) {m : ev_M} (p112_2 : ¬ P 112 2) (p112_4 : ¬ P 112 4) (p112_5 : ¬ P 112 5) (p112_6 : ¬ P 112 6) (p112_34 : ¬ P 112 34)  (hm_m : frP P m0 m) : Fr (frP P m0) (FX12_callTold0 f m) := by
  unfold FX12_callTold0
  refine Fr.bd (FRX12_asks _ 115 p112_2 p112_4 p112_5 p112_6 hm_m) (fun _ m2 hm_m2 => ?_)
  refine Fr.bd (FRX12_number _ _ _ p112_2 p112_4 p112_5 p112_6 hm_m2) (fun r3 m4 hm_m4 => ?_)
  refine Fr.bd (FRX12_asksSign _ _ p112_2 p112_5 p112_6 (frP_I p112_34 hm_m4)) (fun _ m6 hm_m6 => ?_)
  exact Fr.ok hm_m6
set_option maxRecDepth 100000 in
set_option maxHeartbeats 4000000 in
theorem FRX12_towerTold_J60 {P : Nat → Nat → Prop} {m0 : ev_M} (f : Nat) (a2 : Int64) {m : ev_M} (p112_2 : ¬ P 112 2) (p112_4 : ¬ P 112 4) (p112_5 : ¬ P 112 5) (p112_6 : ¬ P 112 6) (p112_35 : ¬ P 112 35) (p138 : ∀ k, ¬ P 138 k) (p139 : ∀ k, ¬ P 139 k)  (hm_m : frP P m0 m) : Fr (frP P m0) (FX12_towerTold_J60 f a2 m) := by
  unfold FX12_towerTold_J60
  refine Fr.bd (FRX12_asks _ 117 p112_2 p112_4 p112_5 p112_6 hm_m) (fun _ m4 hm_m4 => ?_)
  refine Fr.bd (FRX12_number _ _ _ p112_2 p112_4 p112_5 p112_6 hm_m4) (fun r5 m6 hm_m6 => ?_)
  refine Fr.bd (FRX12_asks _ 118 p112_2 p112_4 p112_5 p112_6 hm_m6) (fun _ m8 hm_m8 => ?_)
  refine Fr.bd (FRX12_number _ _ _ p112_2 p112_4 p112_5 p112_6 hm_m8) (fun r9 m10 hm_m10 => ?_)
  refine Fr.ite (fun _ => ?_) (fun _ => ?_)
  · refine Fr.ite (fun _ => ?_) (fun _ => ?_)
    · refine Fr.ite (fun _ => ?_) (fun _ => ?_)
      · refine Fr.ite (fun _ => ?_) (fun _ => ?_)
        · refine Fr.ite (fun _ => ?_) (fun _ => ?_)
          · exact Fr.ok (frP_L (p138 _) (frP_I p112_35 (frP_I (p139 _) (frP_I (p139 _) (frP_I (p139 _) hm_m10)))))
          · exact Fr.none
        · exact Fr.none
      · exact Fr.none
    · exact Fr.none
  · exact Fr.ok hm_m10
set_option maxRecDepth 100000 in
set_option maxHeartbeats 4000000 in
theorem FRX12_towerTold_J22 {P : Nat → Nat → Prop} {m0 : ev_M} (f : Nat) {m : ev_M} (p112_2 : ¬ P 112 2) (p112_4 : ¬ P 112 4) (p112_5 : ¬ P 112 5) (p112_6 : ¬ P 112 6) (p112_33 : ¬ P 112 33) (p112_35 : ¬ P 112 35) (p138 : ∀ k, ¬ P 138 k) (p139 : ∀ k, ¬ P 139 k)  (hm_m : frP P m0 m) : Fr (frP P m0) (FX12_towerTold_J22 f m) := by
  unfold FX12_towerTold_J22
  refine Fr.ite (fun _ => ?_) (fun _ => ?_)
  · refine Fr.bd (FRX12_name _ p112_2 p112_4 p112_5 p112_6 p112_33 hm_m) (fun r1 m2 hm_m2 => ?_)
    refine Fr.ite (fun _ => ?_) (fun _ => ?_)
    · refine Fr.bd (FRX12_nameOf _ _ hm_m2) (fun r11 m12 hm_m12 => ?_)
      refine Fr.ite (fun _ => ?_) (fun _ => ?_)
      · exact FRX12_towerTold_J60 _ _ p112_2 p112_4 p112_5 p112_6 p112_35 p138 p139 hm_m12
      · refine Fr.bd (FRX12_fail _ _ _ p112_5 p112_6 hm_m12) (fun _ m14 hm_m14 => ?_)
        exact FRX12_towerTold_J60 _ _ p112_2 p112_4 p112_5 p112_6 p112_35 p138 p139 hm_m14
    · exact FRX12_towerTold_J60 _ _ p112_2 p112_4 p112_5 p112_6 p112_35 p138 p139 hm_m2
  · exact Fr.ok hm_m
set_option maxRecDepth 100000 in
set_option maxHeartbeats 4000000 in
theorem FRX12_towerTold {P : Nat → Nat → Prop} {m0 : ev_M} (f : Nat) (a1 : Int32) {m : ev_M} (p112_2 : ¬ P 112 2) (p112_4 : ¬ P 112 4) (p112_5 : ¬ P 112 5) (p112_6 : ¬ P 112 6) (p112_33 : ¬ P 112 33) (p112_35 : ¬ P 112 35) (p138 : ∀ k, ¬ P 138 k) (p139 : ∀ k, ¬ P 139 k)  (hm_m : frP P m0 m) : Fr (frP P m0) (FX12_towerTold f a1 m) := by
  unfold FX12_towerTold
  refine Fr.ite (fun _ => ?_) (fun _ => ?_)
  · refine Fr.ite (fun _ => ?_) (fun _ => ?_)
    · refine Fr.bd (FRX12_fail _ _ _ p112_5 p112_6 hm_m) (fun _ m16 hm_m16 => ?_)
      exact FRX12_towerTold_J22 _ p112_2 p112_4 p112_5 p112_6 p112_33 p112_35 p138 p139 hm_m16
    · exact FRX12_towerTold_J22 _ p112_2 p112_4 p112_5 p112_6 p112_33 p112_35 p138 p139 hm_m
  · exact FRX12_towerTold_J22 _ p112_2 p112_4 p112_5 p112_6 p112_33 p112_35 p138 p139 hm_m
set_option maxRecDepth 100000 in
set_option maxHeartbeats 4000000 in
theorem FRX12_yesTold_J37 {P : Nat → Nat → Prop} {m0 : ev_M} (f : Nat) (a3 : Int32) {m : ev_M} (p112_5 : ¬ P 112 5) (p112_6 : ¬ P 112 6) (p139 : ∀ k, ¬ P 139 k)  (hm_m : frP P m0 m) : Fr (frP P m0) (FX12_yesTold_J37 f a3 m) := by
  unfold FX12_yesTold_J37
  refine Fr.bd (FRX12_fail _ _ _ p112_5 p112_6 hm_m) (fun _ m6 hm_m6 => ?_)
  refine Fr.ite (fun _ => ?_) (fun _ => ?_)
  · refine Fr.ite (fun _ => ?_) (fun _ => ?_)
    · exact Fr.ok (frP_I (p139 _) hm_m6)
    · exact Fr.none
  · exact Fr.ok hm_m6
set_option maxRecDepth 100000 in
set_option maxHeartbeats 4000000 in
theorem FRX12_yesTold {P : Nat → Nat → Prop} {m0 : ev_M} (f : Nat) {m : ev_M} (p112_2 : ¬ P 112 2) (p112_4 : ¬ P 112 4) (p112_5 : ¬ P 112 5) (p112_6 : ¬ P 112 6) (p112_33 : ¬ P 112 33) (p139 : ∀ k, ¬ P 139 k)  (hm_m : frP P m0 m) : Fr (frP P m0) (FX12_yesTold f m) := by
  unfold FX12_yesTold
  refine Fr.bd (FRX12_name _ p112_2 p112_4 p112_5 p112_6 p112_33 hm_m) (fun r1 m2 hm_m2 => ?_)
  refine Fr.bd (FRX12_nameOf _ _ hm_m2) (fun r3 m4 hm_m4 => ?_)
  refine Fr.ite (fun _ => ?_) (fun _ => ?_)
  · refine Fr.ite (fun _ => ?_) (fun _ => ?_)
    · exact FRX12_yesTold_J37 _ _ p112_5 p112_6 p139 hm_m4
    · refine Fr.ite (fun _ => ?_) (fun _ => ?_)
      · refine Fr.ite (fun _ => ?_) (fun _ => ?_)
        · exact FRX12_yesTold_J37 _ _ p112_5 p112_6 p139 hm_m4
        · refine Fr.ite (fun _ => ?_) (fun _ => ?_)
          · refine Fr.ite (fun _ => ?_) (fun _ => ?_)
            · exact Fr.ok (frP_I (p139 _) hm_m4)
            · exact Fr.none
          · exact Fr.ok hm_m4
      · exact Fr.none
  · refine Fr.ite (fun _ => ?_) (fun _ => ?_)
    · refine Fr.ite (fun _ => ?_) (fun _ => ?_)
      · exact Fr.ok (frP_I (p139 _) hm_m4)
      · exact Fr.none
    · exact Fr.ok hm_m4
set_option maxRecDepth 100000 in
set_option maxHeartbeats 4000000 in
theorem FRX12_stands_L15 {P : Nat → Nat → Prop} {m0 : ev_M} (f : Nat) (k : ev_M → Option (Unit × ev_M)) (p138 : ∀ k, ¬ P 138 k) (hk : ∀  (xm : ev_M), frP P m0 xm → Fr (frP P m0) (k xm)) : ∀ (n : Nat) (a1 : Int32) (m : ev_M), frP P m0 m → Fr (frP P m0) (FX12_stands_L15 f k n a1 m) := by
  intro n
  induction n with
  | zero => intros; exact Fr.none
  | succ n ih =>
    intro a1 m hm_m
    rw [FX12_stands_L15]
    refine Fr.ite (fun _ => ?_) (fun _ => ?_)
    · exact hk _ hm_m
    · refine Fr.ite (fun _ => ?_) (fun _ => ?_)
      · refine Fr.ite (fun _ => ?_) (fun _ => ?_)
        · exact ih _ _ (frP_L (p138 _) hm_m)
        · exact Fr.none
      · exact Fr.none
set_option maxRecDepth 100000 in
set_option maxHeartbeats 4000000 in
theorem FRX12_stands_L44 {P : Nat → Nat → Prop} {m0 : ev_M} (f : Nat) (k : ev_M → Option (Unit × ev_M)) (p140 : ∀ k, ¬ P 140 k) (hk : ∀  (xm : ev_M), frP P m0 xm → Fr (frP P m0) (k xm)) : ∀ (n : Nat) (a1 : Int32) (m : ev_M), frP P m0 m → Fr (frP P m0) (FX12_stands_L44 f k n a1 m) := by
  intro n
  induction n with
  | zero => intros; exact Fr.none
  | succ n ih =>
    intro a1 m hm_m
    rw [FX12_stands_L44]
    refine Fr.ite (fun _ => ?_) (fun _ => ?_)
    · exact hk _ hm_m
    · refine Fr.ite (fun _ => ?_) (fun _ => ?_)
      · refine Fr.ite (fun _ => ?_) (fun _ => ?_)
        · exact ih _ _ (frP_I (p140 _) hm_m)
        · exact Fr.none
      · exact Fr.none
set_option maxRecDepth 100000 in
set_option maxHeartbeats 4000000 in
theorem FRX12_stands_L71 {P : Nat → Nat → Prop} {m0 : ev_M} (f : Nat) (k : ev_M → Option (Unit × ev_M)) (p141 : ∀ k, ¬ P 141 k) (p142 : ∀ k, ¬ P 142 k) (hk : ∀  (xm : ev_M), frP P m0 xm → Fr (frP P m0) (k xm)) : ∀ (n : Nat) (a1 : Int32) (m : ev_M), frP P m0 m → Fr (frP P m0) (FX12_stands_L71 f k n a1 m) := by
  intro n
  induction n with
  | zero => intros; exact Fr.none
  | succ n ih =>
    intro a1 m hm_m
    rw [FX12_stands_L71]
    refine Fr.ite (fun _ => ?_) (fun _ => ?_)
    · exact hk _ hm_m
    · refine Fr.ite (fun _ => ?_) (fun _ => ?_)
      · refine Fr.ite (fun _ => ?_) (fun _ => ?_)
        · refine Fr.ite (fun _ => ?_) (fun _ => ?_)
          · refine Fr.ite (fun _ => ?_) (fun _ => ?_)
            · exact ih _ _ (frP_I (p142 _) (frP_I (p141 _) hm_m))
            · exact Fr.none
          · exact Fr.none
        · exact Fr.none
      · exact Fr.none
set_option maxRecDepth 100000 in
set_option maxHeartbeats 4000000 in
theorem FRX12_stands_L112 {P : Nat → Nat → Prop} {m0 : ev_M} (f : Nat) (k : ev_M → Option (Unit × ev_M)) (p143 : ∀ k, ¬ P 143 k) (hk : ∀  (xm : ev_M), frP P m0 xm → Fr (frP P m0) (k xm)) : ∀ (n : Nat) (a1 : Int32) (m : ev_M), frP P m0 m → Fr (frP P m0) (FX12_stands_L112 f k n a1 m) := by
  intro n
  induction n with
  | zero => intros; exact Fr.none
  | succ n ih =>
    intro a1 m hm_m
    rw [FX12_stands_L112]
    refine Fr.ite (fun _ => ?_) (fun _ => ?_)
    · exact hk _ hm_m
    · refine Fr.ite (fun _ => ?_) (fun _ => ?_)
      · refine Fr.ite (fun _ => ?_) (fun _ => ?_)
        · exact ih _ _ (frP_I (p143 _) hm_m)
        · exact Fr.none
      · exact Fr.none
set_option maxRecDepth 100000 in
set_option maxHeartbeats 4000000 in
theorem FRX12_stands_L144 {P : Nat → Nat → Prop} {m0 : ev_M} (f : Nat) (k : ev_M → Option (Unit × ev_M)) (p144 : ∀ k, ¬ P 144 k) (hk : ∀  (xm : ev_M), frP P m0 xm → Fr (frP P m0) (k xm)) : ∀ (n : Nat) (a1 : Int32) (m : ev_M), frP P m0 m → Fr (frP P m0) (FX12_stands_L144 f k n a1 m) := by
  intro n
  induction n with
  | zero => intros; exact Fr.none
  | succ n ih =>
    intro a1 m hm_m
    rw [FX12_stands_L144]
    refine Fr.ite (fun _ => ?_) (fun _ => ?_)
    · exact hk _ hm_m
    · refine Fr.ite (fun _ => ?_) (fun _ => ?_)
      · exact ih _ _ (frP_I (p144 _) hm_m)
      · exact Fr.none
set_option maxRecDepth 100000 in
set_option maxHeartbeats 4000000 in
theorem FRX12_stands_L176 {P : Nat → Nat → Prop} {m0 : ev_M} (f : Nat) (k : ev_M → Option (Unit × ev_M)) (p144 : ∀ k, ¬ P 144 k) (hk : ∀  (xm : ev_M), frP P m0 xm → Fr (frP P m0) (k xm)) : ∀ (n : Nat) (a1 : Int32) (m : ev_M), frP P m0 m → Fr (frP P m0) (FX12_stands_L176 f k n a1 m) := by
  intro n
  induction n with
  | zero => intros; exact Fr.none
  | succ n ih =>
    intro a1 m hm_m
    rw [FX12_stands_L176]
    refine Fr.ite (fun _ => ?_) (fun _ => ?_)
    · exact hk _ hm_m
    · refine Fr.ite (fun _ => ?_) (fun _ => ?_)
      · refine Fr.ite (fun _ => ?_) (fun _ => ?_)
        · exact ih _ _ (frP_I (p144 _) hm_m)
        · exact Fr.none
      · exact Fr.none
set_option maxRecDepth 100000 in
set_option maxHeartbeats 4000000 in
theorem FRX12_stands {P : Nat → Nat → Prop} {m0 : ev_M} (f : Nat) {m : ev_M} (p112_36 : ¬ P 112 36) (p112_45 : ¬ P 112 45) (p112_58 : ¬ P 112 58) (p112_64 : ¬ P 112 64) (p138 : ∀ k, ¬ P 138 k) (p140 : ∀ k, ¬ P 140 k) (p141 : ∀ k, ¬ P 141 k) (p142 : ∀ k, ¬ P 142 k) (p143 : ∀ k, ¬ P 143 k) (p144 : ∀ k, ¬ P 144 k)  (hm_m : frP P m0 m) : Fr (frP P m0) (FX12_stands f m) := by
  unfold FX12_stands
  exact FRX12_stands_L15 _ _ p138 ((by
  intro m1 hm_m1
  exact FRX12_stands_L44 _ _ p140 ((by
  intro m2 hm_m2
  exact FRX12_stands_L71 _ _ p141 p142 ((by
  intro m3 hm_m3
  exact FRX12_stands_L112 _ _ p143 ((by
  intro m4 hm_m4
  exact FRX12_stands_L144 _ _ p144 ((by
  intro m5 hm_m5
  exact FRX12_stands_L176 _ _ p144 ((by
  intro m6 hm_m6
  exact Fr.ok (frP_I p112_58 (frP_I p112_64 hm_m6)))) _ _ _ (frP_I (p144 1) hm_m5))) _ _ _ hm_m4)) _ _ _ hm_m3)) _ _ _ hm_m2)) _ _ _ hm_m1)) _ _ _ (frP_I p112_36 (frP_I p112_45 hm_m))
set_option maxRecDepth 100000 in
set_option maxHeartbeats 4000000 in
theorem FRX12_fault {P : Nat → Nat → Prop} {m0 : ev_M} (f : Nat) (a1 : Int32) {m : ev_M}   (hm_m : frP P m0 m) : Fr (frP P m0) (FX12_fault f a1 m) := by
  unfold FX12_fault
  refine Fr.ite (fun _ => ?_) (fun _ => ?_)
  · exact Fr.ok hm_m
  · refine Fr.ite (fun _ => ?_) (fun _ => ?_)
    · exact Fr.ok hm_m
    · exact Fr.ok hm_m
set_option maxRecDepth 100000 in
set_option maxHeartbeats 4000000 in
theorem FRX12_towerMany {P : Nat → Nat → Prop} {m0 : ev_M} (f : Nat) {m : ev_M}   (hm_m : frP P m0 m) : Fr (frP P m0) (FX12_towerMany f m) := by
  unfold FX12_towerMany
  exact Fr.ok hm_m
set_option maxRecDepth 100000 in
set_option maxHeartbeats 4000000 in
theorem FRX12_isTower {P : Nat → Nat → Prop} {m0 : ev_M} (f : Nat) (a1 : Int32) {m : ev_M}   (hm_m : frP P m0 m) : Fr (frP P m0) (FX12_isTower f a1 m) := by
  unfold FX12_isTower
  refine Fr.bd (FRX12_towerMany _ hm_m) (fun r1 m2 hm_m2 => ?_)
  refine Fr.bd (FRX12_isIn _ _ _ _ hm_m2) (fun r3 m4 hm_m4 => ?_)
  refine Fr.ite (fun _ => ?_) (fun _ => ?_)
  · exact Fr.ok hm_m4
  · exact Fr.none
set_option maxRecDepth 100000 in
set_option maxHeartbeats 4000000 in
theorem FRX12_moodOf {P : Nat → Nat → Prop} {m0 : ev_M} (f : Nat) (a1 : Int32) {m : ev_M}   (hm_m : frP P m0 m) : Fr (frP P m0) (FX12_moodOf f a1 m) := by
  unfold FX12_moodOf
  refine Fr.ite (fun _ => ?_) (fun _ => ?_)
  · exact Fr.ok hm_m
  · exact Fr.none
set_option maxRecDepth 100000 in
set_option maxHeartbeats 4000000 in
theorem FRX12_cheerOf {P : Nat → Nat → Prop} {m0 : ev_M} (f : Nat) (a1 : Int32) {m : ev_M}   (hm_m : frP P m0 m) : Fr (frP P m0) (FX12_cheerOf f a1 m) := by
  unfold FX12_cheerOf
  refine Fr.ite (fun _ => ?_) (fun _ => ?_)
  · exact Fr.ok hm_m
  · exact Fr.none
set_option maxRecDepth 100000 in
set_option maxHeartbeats 4000000 in
theorem FRX12_isYes {P : Nat → Nat → Prop} {m0 : ev_M} (f : Nat) (a1 : Int32) {m : ev_M}   (hm_m : frP P m0 m) : Fr (frP P m0) (FX12_isYes f a1 m) := by
  unfold FX12_isYes
  refine Fr.ite (fun _ => ?_) (fun _ => ?_)
  · refine Fr.ite (fun _ => ?_) (fun _ => ?_)
    · exact Fr.ok hm_m
    · exact Fr.ok hm_m
  · exact Fr.none
set_option maxRecDepth 100000 in
set_option maxHeartbeats 4000000 in
theorem FRX12_cut {P : Nat → Nat → Prop} {m0 : ev_M} (f : Nat) (a0 : Int64) {m : ev_M}   (hm_m : frP P m0 m) : Fr (frP P m0) (FX12_cut f a0 m) := by
  unfold FX12_cut
  refine Fr.ite (fun _ => ?_) (fun _ => ?_)
  · refine Fr.ite (fun _ => ?_) (fun _ => ?_)
    · exact Fr.ok hm_m
    · exact Fr.ok hm_m
  · exact Fr.ok hm_m
set_option maxRecDepth 100000 in
set_option maxHeartbeats 4000000 in
theorem FRX12_isDoubt {P : Nat → Nat → Prop} {m0 : ev_M} (f : Nat) (a1 : Int32) {m : ev_M}   (hm_m : frP P m0 m) : Fr (frP P m0) (FX12_isDoubt f a1 m) := by
  unfold FX12_isDoubt
  refine Fr.ite (fun _ => ?_) (fun _ => ?_)
  · refine Fr.ite (fun _ => ?_) (fun _ => ?_)
    · exact Fr.ok hm_m
    · exact Fr.ok hm_m
  · exact Fr.none
set_option maxRecDepth 100000 in
set_option maxHeartbeats 4000000 in
theorem FRX12_rowAt_L26 {P : Nat → Nat → Prop} {m0 : ev_M} (f : Nat) (k : Int32 → ev_M → Option (Int32 × ev_M)) (a1 : Int32)  (hk : ∀ (x0 : Int32) (xm : ev_M), frP P m0 xm → Fr (frP P m0) (k x0 xm)) : ∀ (n : Nat) (a2 : Int32) (m : ev_M), frP P m0 m → Fr (frP P m0) (FX12_rowAt_L26 f k a1 n a2 m) := by
  intro n
  induction n with
  | zero => intros; exact Fr.none
  | succ n ih =>
    intro a2 m hm_m
    rw [FX12_rowAt_L26]
    refine Fr.bd (FRX12_towerMany _ hm_m) (fun r3 m4 hm_m4 => ?_)
    refine Fr.ite (fun _ => ?_) (fun _ => ?_)
    · exact hk _ _ hm_m4
    · refine Fr.bd (FRX12_isDoubt _ _ hm_m4) (fun r5 m6 hm_m6 => ?_)
      refine Fr.ite (fun _ => ?_) (fun _ => ?_)
      · exact hk _ _ hm_m6
      · exact ih _ _ hm_m6
set_option maxRecDepth 100000 in
set_option maxHeartbeats 4000000 in
theorem FRX12_rowAt_J24 {P : Nat → Nat → Prop} {m0 : ev_M} (f : Nat) (a1 : Int32) {m : ev_M}   (hm_m : frP P m0 m) : Fr (frP P m0) (FX12_rowAt_J24 f a1 m) := by
  unfold FX12_rowAt_J24
  exact FRX12_rowAt_L26 _ _ _ ((by
  intro e7 m8 hm_m8
  exact Fr.ok hm_m8)) _ _ _ hm_m
set_option maxRecDepth 100000 in
set_option maxHeartbeats 4000000 in
theorem FRX12_rowAt {P : Nat → Nat → Prop} {m0 : ev_M} (f : Nat) (a1 : Int32) {m : ev_M}   (hm_m : frP P m0 m) : Fr (frP P m0) (FX12_rowAt f a1 m) := by
  unfold FX12_rowAt
  refine Fr.bd (FRX12_isDoubt _ _ hm_m) (fun r1 m2 hm_m2 => ?_)
  refine Fr.ite (fun _ => ?_) (fun _ => ?_)
  · exact Fr.ok hm_m2
  · refine Fr.ite (fun _ => ?_) (fun _ => ?_)
    · exact FRX12_rowAt_J24 _ _ hm_m2
    · refine Fr.bd (FRX12_isDoubt _ _ hm_m2) (fun r9 m10 hm_m10 => ?_)
      refine Fr.ite (fun _ => ?_) (fun _ => ?_)
      · exact FRX12_rowAt_J24 _ _ hm_m10
      · exact Fr.ok hm_m10
set_option maxRecDepth 100000 in
set_option maxHeartbeats 4000000 in
theorem FRX12_rowOf_L2 {P : Nat → Nat → Prop} {m0 : ev_M} (f : Nat) (k : ev_M → Option (Int32 × ev_M)) (a1 : Int32)  (hk : ∀  (xm : ev_M), frP P m0 xm → Fr (frP P m0) (k xm)) : ∀ (n : Nat) (a2 : Int32) (m : ev_M), frP P m0 m → Fr (frP P m0) (FX12_rowOf_L2 f k a1 n a2 m) := by
  intro n
  induction n with
  | zero => intros; exact Fr.none
  | succ n ih =>
    intro a2 m hm_m
    rw [FX12_rowOf_L2]
    refine Fr.bd (FRX12_towerMany _ hm_m) (fun r1 m2 hm_m2 => ?_)
    refine Fr.ite (fun _ => ?_) (fun _ => ?_)
    · exact hk _ hm_m2
    · refine Fr.bd (FRX12_rowAt _ _ hm_m2) (fun r3 m4 hm_m4 => ?_)
      refine Fr.ite (fun _ => ?_) (fun _ => ?_)
      · exact ih _ _ hm_m4
      · exact Fr.ok hm_m4
set_option maxRecDepth 100000 in
set_option maxHeartbeats 4000000 in
theorem FRX12_rowOf {P : Nat → Nat → Prop} {m0 : ev_M} (f : Nat) (a1 : Int32) {m : ev_M}   (hm_m : frP P m0 m) : Fr (frP P m0) (FX12_rowOf f a1 m) := by
  unfold FX12_rowOf
  exact FRX12_rowOf_L2 _ _ _ ((by
  intro m5 hm_m5
  exact Fr.ok hm_m5)) _ _ _ hm_m
set_option maxRecDepth 100000 in
set_option maxHeartbeats 4000000 in
theorem FRX12_doubtsNow_J23 {P : Nat → Nat → Prop} {m0 : ev_M} (f : Nat) (kt4 : Int32 → Int32 → ev_M → Option (Int32 × ev_M)) (a1 : Int32) (a2 : Int32) {m : ev_M}  (hkt4 : ∀ (x0 : Int32) (x1 : Int32) (xm : ev_M), frP P m0 xm → Fr (frP P m0) (kt4 x0 x1 xm)) (hm_m : frP P m0 m) : Fr (frP P m0) (FX12_doubtsNow_J23 f kt4 a1 a2 m) := by
  unfold FX12_doubtsNow_J23
  exact hkt4 _ _ _ hm_m
set_option maxRecDepth 100000 in
set_option maxHeartbeats 4000000 in
theorem FRX12_doubtsNow_L4 {P : Nat → Nat → Prop} {m0 : ev_M} (f : Nat) (k : Int32 → ev_M → Option (Int32 × ev_M))  (hk : ∀ (x0 : Int32) (xm : ev_M), frP P m0 xm → Fr (frP P m0) (k x0 xm)) : ∀ (n : Nat) (a1 : Int32) (a2 : Int32) (m : ev_M), frP P m0 m → Fr (frP P m0) (FX12_doubtsNow_L4 f k n a1 a2 m) := by
  intro n
  induction n with
  | zero => intros; exact Fr.none
  | succ n ih =>
    intro a1 a2 m hm_m
    rw [FX12_doubtsNow_L4]
    refine Fr.bd (FRX12_towerMany _ hm_m) (fun r1 m2 hm_m2 => ?_)
    refine Fr.ite (fun _ => ?_) (fun _ => ?_)
    · exact hk _ _ hm_m2
    · refine Fr.bd (FRX12_isDoubt _ _ hm_m2) (fun r3 m4 hm_m4 => ?_)
      refine Fr.ite (fun _ => ?_) (fun _ => ?_)
      · exact FRX12_doubtsNow_J23 _ _ _ _ ih hm_m4
      · exact FRX12_doubtsNow_J23 _ _ _ _ ih hm_m4
set_option maxRecDepth 100000 in
set_option maxHeartbeats 4000000 in
theorem FRX12_doubtsNow {P : Nat → Nat → Prop} {m0 : ev_M} (f : Nat) {m : ev_M}   (hm_m : frP P m0 m) : Fr (frP P m0) (FX12_doubtsNow f m) := by
  unfold FX12_doubtsNow
  exact FRX12_doubtsNow_L4 _ _ ((by
  intro e5 m6 hm_m6
  exact Fr.ok hm_m6)) _ _ _ _ hm_m
set_option maxRecDepth 100000 in
set_option maxHeartbeats 4000000 in
theorem FRX12_isKept_J64 {P : Nat → Nat → Prop} {m0 : ev_M} (f : Nat) (a1 : Int32) (a2 : Int32) {m : ev_M} (p144 : ∀ k, ¬ P 144 k)  (hm_m : frP P m0 m) : Fr (frP P m0) (FX12_isKept_J64 f a1 a2 m) := by
  unfold FX12_isKept_J64
  refine Fr.ite (fun _ => ?_) (fun _ => ?_)
  · refine Fr.ite (fun _ => ?_) (fun _ => ?_)
    · refine Fr.ite (fun _ => ?_) (fun _ => ?_)
      · exact Fr.ok (frP_I (p144 _) (frP_I (p144 _) (frP_I (p144 _) hm_m)))
      · exact Fr.none
    · exact Fr.none
  · exact Fr.none
set_option maxRecDepth 100000 in
set_option maxHeartbeats 4000000 in
theorem FRX12_isKept_L23 {P : Nat → Nat → Prop} {m0 : ev_M} (f : Nat) (k : ev_M → Option (Unit × ev_M)) (p144 : ∀ k, ¬ P 144 k) (hk : ∀  (xm : ev_M), frP P m0 xm → Fr (frP P m0) (k xm)) : ∀ (n : Nat) (a3 : Int32) (m : ev_M), frP P m0 m → Fr (frP P m0) (FX12_isKept_L23 f k n a3 m) := by
  intro n
  induction n with
  | zero => intros; exact Fr.none
  | succ n ih =>
    intro a3 m hm_m
    rw [FX12_isKept_L23]
    refine Fr.ite (fun _ => ?_) (fun _ => ?_)
    · exact hk _ hm_m
    · refine Fr.ite (fun _ => ?_) (fun _ => ?_)
      · refine Fr.ite (fun _ => ?_) (fun _ => ?_)
        · exact ih _ _ (frP_I (p144 _) hm_m)
        · exact Fr.none
      · exact Fr.none
set_option maxRecDepth 100000 in
set_option maxHeartbeats 4000000 in
theorem FRX12_isKept {P : Nat → Nat → Prop} {m0 : ev_M} (f : Nat) (a1 : Int32) (a2 : Int32) {m : ev_M} (p144 : ∀ k, ¬ P 144 k)  (hm_m : frP P m0 m) : Fr (frP P m0) (FX12_isKept f a1 a2 m) := by
  unfold FX12_isKept
  refine Fr.ite (fun _ => ?_) (fun _ => ?_)
  · refine Fr.ite (fun _ => ?_) (fun _ => ?_)
    · exact FRX12_isKept_L23 _ _ p144 ((by
  intro m1 hm_m1
  exact FRX12_isKept_J64 _ _ _ p144 hm_m1)) _ _ _ hm_m
    · exact FRX12_isKept_J64 _ _ _ p144 (frP_I (p144 26) hm_m)
  · exact Fr.ok hm_m
set_option maxRecDepth 100000 in
set_option maxHeartbeats 4000000 in
theorem FRX12_putsAside_L7 {P : Nat → Nat → Prop} {m0 : ev_M} (f : Nat) (k : ev_M → Option (Unit × ev_M)) (p145 : ∀ k, ¬ P 145 k) (hk : ∀  (xm : ev_M), frP P m0 xm → Fr (frP P m0) (k xm)) : ∀ (n : Nat) (a1 : Int32) (m : ev_M), frP P m0 m → Fr (frP P m0) (FX12_putsAside_L7 f k n a1 m) := by
  intro n
  induction n with
  | zero => intros; exact Fr.none
  | succ n ih =>
    intro a1 m hm_m
    rw [FX12_putsAside_L7]
    refine Fr.ite (fun _ => ?_) (fun _ => ?_)
    · exact hk _ hm_m
    · refine Fr.ite (fun _ => ?_) (fun _ => ?_)
      · refine Fr.ite (fun _ => ?_) (fun _ => ?_)
        · exact ih _ _ (frP_I (p145 _) hm_m)
        · exact Fr.none
      · exact Fr.none
set_option maxRecDepth 100000 in
set_option maxHeartbeats 4000000 in
theorem FRX12_putsAside {P : Nat → Nat → Prop} {m0 : ev_M} (f : Nat) {m : ev_M} (p112_54 : ¬ P 112 54) (p112_55 : ¬ P 112 55) (p112_56 : ¬ P 112 56) (p145 : ∀ k, ¬ P 145 k)  (hm_m : frP P m0 m) : Fr (frP P m0) (FX12_putsAside f m) := by
  unfold FX12_putsAside
  exact FRX12_putsAside_L7 _ _ p145 ((by
  intro m1 hm_m1
  exact Fr.ok (frP_I p112_56 (frP_I p112_55 hm_m1)))) _ _ _ (frP_I p112_54 hm_m)
set_option maxRecDepth 100000 in
set_option maxHeartbeats 4000000 in
theorem FRX12_triesAnew_L2 {P : Nat → Nat → Prop} {m0 : ev_M} (f : Nat) (k : ev_M → Option (Unit × ev_M)) (p144 : ∀ k, ¬ P 144 k) (hk : ∀  (xm : ev_M), frP P m0 xm → Fr (frP P m0) (k xm)) : ∀ (n : Nat) (a1 : Int32) (m : ev_M), frP P m0 m → Fr (frP P m0) (FX12_triesAnew_L2 f k n a1 m) := by
  intro n
  induction n with
  | zero => intros; exact Fr.none
  | succ n ih =>
    intro a1 m hm_m
    rw [FX12_triesAnew_L2]
    refine Fr.ite (fun _ => ?_) (fun _ => ?_)
    · exact hk _ hm_m
    · refine Fr.ite (fun _ => ?_) (fun _ => ?_)
      · refine Fr.ite (fun _ => ?_) (fun _ => ?_)
        · exact ih _ _ (frP_I (p144 _) hm_m)
        · exact Fr.none
      · exact Fr.none
set_option maxRecDepth 100000 in
set_option maxHeartbeats 4000000 in
theorem FRX12_triesAnew {P : Nat → Nat → Prop} {m0 : ev_M} (f : Nat) {m : ev_M} (p112_55 : ¬ P 112 55) (p112_56 : ¬ P 112 56) (p144 : ∀ k, ¬ P 144 k)  (hm_m : frP P m0 m) : Fr (frP P m0) (FX12_triesAnew f m) := by
  unfold FX12_triesAnew
  exact FRX12_triesAnew_L2 _ _ p144 ((by
  intro m1 hm_m1
  exact Fr.ok (frP_I p112_56 (frP_I p112_55 hm_m1)))) _ _ _ hm_m
set_option maxRecDepth 100000 in
set_option maxHeartbeats 4000000 in
theorem FRX12_takesBack {P : Nat → Nat → Prop} {m0 : ev_M} (f : Nat) {m : ev_M} (p112_54 : ¬ P 112 54) (p112_55 : ¬ P 112 55) (p112_56 : ¬ P 112 56) (p144 : ∀ k, ¬ P 144 k)  (hm_m : frP P m0 m) : Fr (frP P m0) (FX12_takesBack f m) := by
  unfold FX12_takesBack
  refine Fr.bd (FRX12_triesAnew _ p112_55 p112_56 p144 hm_m) (fun _ m2 hm_m2 => ?_)
  exact Fr.ok (frP_I p112_54 hm_m2)
set_option maxRecDepth 100000 in
set_option maxHeartbeats 4000000 in
theorem FRX12_isAhead {P : Nat → Nat → Prop} {m0 : ev_M} (f : Nat) (a1 : Int32) (a2 : Int32) (a3 : Int32) {m : ev_M}   (hm_m : frP P m0 m) : Fr (frP P m0) (FX12_isAhead f a1 a2 a3 m) := by
  unfold FX12_isAhead
  refine Fr.ite (fun _ => ?_) (fun _ => ?_)
  · exact Fr.ok hm_m
  · refine Fr.bd (FRX12_isIn _ _ _ _ hm_m) (fun r1 m2 hm_m2 => ?_)
    refine Fr.ite (fun _ => ?_) (fun _ => ?_)
    · exact Fr.ok hm_m2
    · refine Fr.ite (fun _ => ?_) (fun _ => ?_)
      · exact Fr.ok hm_m2
      · exact Fr.ok hm_m2
set_option maxRecDepth 100000 in
set_option maxHeartbeats 4000000 in
theorem FRX12_bits_L4 {P : Nat → Nat → Prop} {m0 : ev_M} (f : Nat) (k : Int32 → ev_M → Option (Int32 × ev_M))  (hk : ∀ (x0 : Int32) (xm : ev_M), frP P m0 xm → Fr (frP P m0) (k x0 xm)) : ∀ (n : Nat) (a1 : Int32) (a2 : Int32) (m : ev_M), frP P m0 m → Fr (frP P m0) (FX12_bits_L4 f k n a1 a2 m) := by
  intro n
  induction n with
  | zero => intros; exact Fr.none
  | succ n ih =>
    intro a1 a2 m hm_m
    rw [FX12_bits_L4]
    refine Fr.ite (fun _ => ?_) (fun _ => ?_)
    · exact hk _ _ hm_m
    · exact ih _ _ _ hm_m
set_option maxRecDepth 100000 in
set_option maxHeartbeats 4000000 in
theorem FRX12_bits {P : Nat → Nat → Prop} {m0 : ev_M} (f : Nat) (a0 : Int32) {m : ev_M}   (hm_m : frP P m0 m) : Fr (frP P m0) (FX12_bits f a0 m) := by
  unfold FX12_bits
  exact FRX12_bits_L4 _ _ ((by
  intro e1 m2 hm_m2
  exact Fr.ok hm_m2)) _ _ _ _ hm_m
set_option maxRecDepth 100000 in
set_option maxHeartbeats 4000000 in
theorem FRX12_summed_L4 {P : Nat → Nat → Prop} {m0 : ev_M} (f : Nat) (k : Int32 → ev_M → Option (Int32 × ev_M)) (a1 : Int32)  (hk : ∀ (x0 : Int32) (xm : ev_M), frP P m0 xm → Fr (frP P m0) (k x0 xm)) : ∀ (n : Nat) (a2 : Int32) (a3 : Int32) (m : ev_M), frP P m0 m → Fr (frP P m0) (FX12_summed_L4 f k a1 n a2 a3 m) := by
  intro n
  induction n with
  | zero => intros; exact Fr.none
  | succ n ih =>
    intro a2 a3 m hm_m
    rw [FX12_summed_L4]
    refine Fr.bd (FRX12_towerMany _ hm_m) (fun r1 m2 hm_m2 => ?_)
    refine Fr.ite (fun _ => ?_) (fun _ => ?_)
    · exact hk _ _ hm_m2
    · refine Fr.ite (fun _ => ?_) (fun _ => ?_)
      · exact ih _ _ _ hm_m2
      · exact Fr.none
set_option maxRecDepth 100000 in
set_option maxHeartbeats 4000000 in
theorem FRX12_summed {P : Nat → Nat → Prop} {m0 : ev_M} (f : Nat) (a1 : Int32) {m : ev_M}   (hm_m : frP P m0 m) : Fr (frP P m0) (FX12_summed f a1 m) := by
  unfold FX12_summed
  exact FRX12_summed_L4 _ _ _ ((by
  intro e3 m4 hm_m4
  exact Fr.ok hm_m4)) _ _ _ _ hm_m
set_option maxRecDepth 100000 in
set_option maxHeartbeats 4000000 in
theorem FRX12_has {P : Nat → Nat → Prop} {m0 : ev_M} (f : Nat) (a1 : Int32) {m : ev_M}   (hm_m : frP P m0 m) : Fr (frP P m0) (FX12_has f a1 m) := by
  unfold FX12_has
  refine Fr.ite (fun _ => ?_) (fun _ => ?_)
  · refine Fr.bd (FRX12_towerMany _ hm_m) (fun r1 m2 hm_m2 => ?_)
    exact Fr.ok hm_m2
  · refine Fr.ite (fun _ => ?_) (fun _ => ?_)
    · exact Fr.ok hm_m
    · refine Fr.ite (fun _ => ?_) (fun _ => ?_)
      · refine Fr.ite (fun _ => ?_) (fun _ => ?_)
        · exact Fr.ok hm_m
        · exact Fr.ok hm_m
      · refine Fr.ite (fun _ => ?_) (fun _ => ?_)
        · refine Fr.bd (FRX12_summed _ _ hm_m) (fun r6 m7 hm_m7 => ?_)
          exact Fr.ok hm_m7
        · refine Fr.ite (fun _ => ?_) (fun _ => ?_)
          · refine Fr.bd (FRX12_summed _ _ hm_m) (fun r9 m10 hm_m10 => ?_)
            exact Fr.ok hm_m10
          · refine Fr.ite (fun _ => ?_) (fun _ => ?_)
            · exact Fr.ok hm_m
            · refine Fr.ite (fun _ => ?_) (fun _ => ?_)
              · exact Fr.ok hm_m
              · refine Fr.ite (fun _ => ?_) (fun _ => ?_)
                · exact Fr.ok hm_m
                · exact Fr.ok hm_m
set_option maxRecDepth 100000 in
set_option maxHeartbeats 4000000 in
theorem FRX12_letter_L38 {P : Nat → Nat → Prop} {m0 : ev_M} (f : Nat) (k : Int32 → ev_M → Option (Int32 × ev_M))  (hk : ∀ (x0 : Int32) (xm : ev_M), frP P m0 xm → Fr (frP P m0) (k x0 xm)) : ∀ (n : Nat) (a5 : Int32) (a6 : Int64) (m : ev_M), frP P m0 m → Fr (frP P m0) (FX12_letter_L38 f k n a5 a6 m) := by
  intro n
  induction n with
  | zero => intros; exact Fr.none
  | succ n ih =>
    intro a5 a6 m hm_m
    rw [FX12_letter_L38]
    refine Fr.ite (fun _ => ?_) (fun _ => ?_)
    · exact hk _ _ hm_m
    · exact ih _ _ _ hm_m
set_option maxRecDepth 100000 in
set_option maxHeartbeats 4000000 in
theorem FRX12_letter_L73 {P : Nat → Nat → Prop} {m0 : ev_M} (f : Nat) (k : Int64 → ev_M → Option (Int32 × ev_M)) (a2 : Int32)  (hk : ∀ (x0 : Int64) (xm : ev_M), frP P m0 xm → Fr (frP P m0) (k x0 xm)) : ∀ (n : Nat) (a3 : Int64) (a6 : Int32) (m : ev_M), frP P m0 m → Fr (frP P m0) (FX12_letter_L73 f k a2 n a3 a6 m) := by
  intro n
  induction n with
  | zero => intros; exact Fr.none
  | succ n ih =>
    intro a3 a6 m hm_m
    rw [FX12_letter_L73]
    refine Fr.ite (fun _ => ?_) (fun _ => ?_)
    · exact hk _ _ hm_m
    · exact ih _ _ _ hm_m
set_option maxRecDepth 100000 in
set_option maxHeartbeats 4000000 in
theorem FRX12_letter {P : Nat → Nat → Prop} {m0 : ev_M} (f : Nat) (a1 : Int32) (a2 : Int32) {m : ev_M}   (hm_m : frP P m0 m) : Fr (frP P m0) (FX12_letter f a1 a2 m) := by
  unfold FX12_letter
  refine Fr.bd (FRX12_isTower _ _ hm_m) (fun r1 m2 hm_m2 => ?_)
  refine Fr.ite (fun _ => ?_) (fun _ => ?_)
  · exact Fr.ok hm_m2
  · refine Fr.bd (FRX12_isIn _ _ _ _ hm_m2) (fun r3 m4 hm_m4 => ?_)
    refine Fr.ite (fun _ => ?_) (fun _ => ?_)
    · exact Fr.ok hm_m4
    · refine Fr.ite (fun _ => ?_) (fun _ => ?_)
      · exact FRX12_letter_L38 _ _ ((by
  intro e5 m6 hm_m6
  refine Fr.ite (fun _ => ?_) (fun _ => ?_)
  · exact FRX12_letter_L73 _ _ _ ((by
  intro e7 m8 hm_m8
  exact Fr.ok hm_m8)) _ _ _ _ hm_m6
  · exact Fr.ok hm_m6)) _ _ _ _ hm_m4
      · exact Fr.none
set_option maxRecDepth 100000 in
set_option maxHeartbeats 4000000 in
theorem FRX12_tower {P : Nat → Nat → Prop} {m0 : ev_M} (f : Nat) (a1 : Int32) (a2 : Int32) {m : ev_M}   (hm_m : frP P m0 m) : Fr (frP P m0) (FX12_tower f a1 a2 m) := by
  unfold FX12_tower
  refine Fr.bd (FRX12_isTower _ _ hm_m) (fun r1 m2 hm_m2 => ?_)
  refine Fr.ite (fun _ => ?_) (fun _ => ?_)
  · exact Fr.ok hm_m2
  · refine Fr.bd (FRX12_isIn _ _ _ _ hm_m2) (fun r3 m4 hm_m4 => ?_)
    refine Fr.ite (fun _ => ?_) (fun _ => ?_)
    · exact Fr.ok hm_m4
    · refine Fr.ite (fun _ => ?_) (fun _ => ?_)
      · exact Fr.ok hm_m4
      · exact Fr.none
set_option maxRecDepth 100000 in
set_option maxHeartbeats 4000000 in
theorem FRX12_kept {P : Nat → Nat → Prop} {m0 : ev_M} (f : Nat) (a1 : Int32) (a2 : Int32) {m : ev_M}   (hm_m : frP P m0 m) : Fr (frP P m0) (FX12_kept f a1 a2 m) := by
  unfold FX12_kept
  refine Fr.bd (FRX12_isIn _ _ _ _ hm_m) (fun r1 m2 hm_m2 => ?_)
  refine Fr.ite (fun _ => ?_) (fun _ => ?_)
  · exact Fr.ok hm_m2
  · refine Fr.bd (FRX12_isIn _ _ _ _ hm_m2) (fun r3 m4 hm_m4 => ?_)
    refine Fr.ite (fun _ => ?_) (fun _ => ?_)
    · exact Fr.ok hm_m4
    · refine Fr.ite (fun _ => ?_) (fun _ => ?_)
      · exact Fr.ok hm_m4
      · exact Fr.none
set_option maxRecDepth 100000 in
set_option maxHeartbeats 4000000 in
theorem FRX12_isWritten_L17 {P : Nat → Nat → Prop} {m0 : ev_M} (f : Nat) (k : ev_M → Option (Unit × ev_M)) (a1 : Int32) (p147 : ∀ k, ¬ P 147 k) (hk : ∀  (xm : ev_M), frP P m0 xm → Fr (frP P m0) (k xm)) : ∀ (n : Nat) (a2 : Int32) (m : ev_M), frP P m0 m → Fr (frP P m0) (FX12_isWritten_L17 f k a1 n a2 m) := by
  intro n
  induction n with
  | zero => intros; exact Fr.none
  | succ n ih =>
    intro a2 m hm_m
    rw [FX12_isWritten_L17]
    refine Fr.bd (FRX12_towerMany _ hm_m) (fun r1 m2 hm_m2 => ?_)
    refine Fr.ite (fun _ => ?_) (fun _ => ?_)
    · exact hk _ hm_m2
    · refine Fr.bd (FRX12_moodOf _ _ hm_m2) (fun r3 m4 hm_m4 => ?_)
      refine Fr.ite (fun _ => ?_) (fun _ => ?_)
      · exact ih _ _ (frP_I (p147 _) hm_m4)
      · exact Fr.none
set_option maxRecDepth 100000 in
set_option maxHeartbeats 4000000 in
theorem FRX12_isWritten {P : Nat → Nat → Prop} {m0 : ev_M} (f : Nat) (a1 : Int32) {m : ev_M} (p147 : ∀ k, ¬ P 147 k)  (hm_m : frP P m0 m) : Fr (frP P m0) (FX12_isWritten f a1 m) := by
  unfold FX12_isWritten
  refine Fr.ite (fun _ => ?_) (fun _ => ?_)
  · exact FRX12_isWritten_L17 _ _ _ p147 ((by
  intro m5 hm_m5
  exact Fr.ok hm_m5)) _ _ _ (frP_I (p147 _) hm_m)
  · exact Fr.none
set_option maxRecDepth 100000 in
set_option maxHeartbeats 4000000 in
theorem FRX12_isAs_L2 {P : Nat → Nat → Prop} {m0 : ev_M} (f : Nat) (k : ev_M → Option (Int32 × ev_M)) (a1 : Int32) (a2 : Int32)  (hk : ∀  (xm : ev_M), frP P m0 xm → Fr (frP P m0) (k xm)) : ∀ (n : Nat) (a3 : Int32) (m : ev_M), frP P m0 m → Fr (frP P m0) (FX12_isAs_L2 f k a1 a2 n a3 m) := by
  intro n
  induction n with
  | zero => intros; exact Fr.none
  | succ n ih =>
    intro a3 m hm_m
    rw [FX12_isAs_L2]
    refine Fr.bd (FRX12_towerMany _ hm_m) (fun r1 m2 hm_m2 => ?_)
    refine Fr.ite (fun _ => ?_) (fun _ => ?_)
    · exact hk _ hm_m2
    · refine Fr.ite (fun _ => ?_) (fun _ => ?_)
      · refine Fr.ite (fun _ => ?_) (fun _ => ?_)
        · refine Fr.ite (fun _ => ?_) (fun _ => ?_)
          · exact ih _ _ hm_m2
          · exact Fr.ok hm_m2
        · exact Fr.none
      · exact Fr.none
set_option maxRecDepth 100000 in
set_option maxHeartbeats 4000000 in
theorem FRX12_isAs {P : Nat → Nat → Prop} {m0 : ev_M} (f : Nat) (a1 : Int32) (a2 : Int32) {m : ev_M}   (hm_m : frP P m0 m) : Fr (frP P m0) (FX12_isAs f a1 a2 m) := by
  unfold FX12_isAs
  exact FRX12_isAs_L2 _ _ _ _ ((by
  intro m3 hm_m3
  exact Fr.ok hm_m3)) _ _ _ hm_m
set_option maxRecDepth 100000 in
set_option maxHeartbeats 4000000 in
theorem FRX12_changes_L2 {P : Nat → Nat → Prop} {m0 : ev_M} (f : Nat) (k : ev_M → Option (Unit × ev_M)) (a1 : Int32) (a2 : Int32) (p144 : ∀ k, ¬ P 144 k) (hk : ∀  (xm : ev_M), frP P m0 xm → Fr (frP P m0) (k xm)) : ∀ (n : Nat) (a3 : Int32) (m : ev_M), frP P m0 m → Fr (frP P m0) (FX12_changes_L2 f k a1 a2 n a3 m) := by
  intro n
  induction n with
  | zero => intros; exact Fr.none
  | succ n ih =>
    intro a3 m hm_m
    rw [FX12_changes_L2]
    refine Fr.ite (fun _ => ?_) (fun _ => ?_)
    · exact hk _ hm_m
    · refine Fr.ite (fun _ => ?_) (fun _ => ?_)
      · refine Fr.ite (fun _ => ?_) (fun _ => ?_)
        · refine Fr.ite (fun _ => ?_) (fun _ => ?_)
          · refine Fr.ite (fun _ => ?_) (fun _ => ?_)
            · exact ih _ _ (frP_I (p144 _) (frP_I (p144 _) hm_m))
            · exact Fr.none
          · exact Fr.none
        · exact Fr.none
      · exact Fr.none
set_option maxRecDepth 100000 in
set_option maxHeartbeats 4000000 in
theorem FRX12_changes {P : Nat → Nat → Prop} {m0 : ev_M} (f : Nat) (a1 : Int32) (a2 : Int32) {m : ev_M} (p144 : ∀ k, ¬ P 144 k)  (hm_m : frP P m0 m) : Fr (frP P m0) (FX12_changes f a1 a2 m) := by
  unfold FX12_changes
  exact FRX12_changes_L2 _ _ _ _ p144 ((by
  intro m1 hm_m1
  exact Fr.ok hm_m1)) _ _ _ hm_m
set_option maxRecDepth 100000 in
set_option maxHeartbeats 4000000 in
theorem FRX12_refuses {P : Nat → Nat → Prop} {m0 : ev_M} (f : Nat) (a1 : Int32) {m : ev_M} (p114 : ∀ k, ¬ P 114 k)  (hm_m : frP P m0 m) : Fr (frP P m0) (FX12_refuses f a1 m) := by
  unfold FX12_refuses
  refine Fr.ite (fun _ => ?_) (fun _ => ?_)
  · refine Fr.ite (fun _ => ?_) (fun _ => ?_)
    · exact Fr.ok (frP_I (p114 _) hm_m)
    · exact Fr.none
  · exact Fr.none
set_option maxRecDepth 100000 in
set_option maxHeartbeats 4000000 in
theorem FRX12_see_J96 {P : Nat → Nat → Prop} {m0 : ev_M} (f : Nat) (kt43 : Int32 → Int32 → ev_M → Option (Int32 × ev_M)) (a3 : Int32) (s0 : Int32) {m : ev_M}  (hkt43 : ∀ (x0 : Int32) (x1 : Int32) (xm : ev_M), frP P m0 xm → Fr (frP P m0) (kt43 x0 x1 xm)) (hm_m : frP P m0 m) : Fr (frP P m0) (FX12_see_J96 f kt43 a3 s0 m) := by
  unfold FX12_see_J96
  exact hkt43 _ _ _ hm_m
set_option maxRecDepth 100000 in
set_option maxHeartbeats 4000000 in
theorem FRX12_see_J95 {P : Nat → Nat → Prop} {m0 : ev_M} (f : Nat) (kt43 : Int32 → Int32 → ev_M → Option (Int32 × ev_M)) (a3 : Int32) {m : ev_M}  (hkt43 : ∀ (x0 : Int32) (x1 : Int32) (xm : ev_M), frP P m0 xm → Fr (frP P m0) (kt43 x0 x1 xm)) (hm_m : frP P m0 m) : Fr (frP P m0) (FX12_see_J95 f kt43 a3 m) := by
  unfold FX12_see_J95
  exact FRX12_see_J96 _ _ _ _ hkt43 hm_m
set_option maxRecDepth 100000 in
set_option maxHeartbeats 4000000 in
theorem FRX12_see_L43 {P : Nat → Nat → Prop} {m0 : ev_M} (f : Nat) (k : Int32 → ev_M → Option (Int32 × ev_M)) (a1 : Int32)  (hk : ∀ (x0 : Int32) (xm : ev_M), frP P m0 xm → Fr (frP P m0) (k x0 xm)) : ∀ (n : Nat) (a2 : Int32) (a3 : Int32) (m : ev_M), frP P m0 m → Fr (frP P m0) (FX12_see_L43 f k a1 n a2 a3 m) := by
  intro n
  induction n with
  | zero => intros; exact Fr.none
  | succ n ih =>
    intro a2 a3 m hm_m
    rw [FX12_see_L43]
    refine Fr.ite (fun _ => ?_) (fun _ => ?_)
    · exact hk _ _ hm_m
    · refine Fr.ite (fun _ => ?_) (fun _ => ?_)
      · exact hk _ _ hm_m
      · refine Fr.ite (fun _ => ?_) (fun _ => ?_)
        · refine Fr.ite (fun _ => ?_) (fun _ => ?_)
          · exact FRX12_see_J95 _ _ _ ih hm_m
          · refine Fr.ite (fun _ => ?_) (fun _ => ?_)
            · refine Fr.bd (FRX12_isTower _ _ hm_m) (fun r1 m2 hm_m2 => ?_)
              refine Fr.ite (fun _ => ?_) (fun _ => ?_)
              · exact FRX12_see_J95 _ _ _ ih hm_m2
              · refine Fr.ite (fun _ => ?_) (fun _ => ?_)
                · refine Fr.ite (fun _ => ?_) (fun _ => ?_)
                  · exact FRX12_see_J95 _ _ _ ih hm_m2
                  · exact FRX12_see_J96 _ _ _ _ ih hm_m2
                · exact Fr.none
            · exact Fr.none
        · exact Fr.none
set_option maxRecDepth 100000 in
set_option maxHeartbeats 4000000 in
theorem FRX12_see_L115 {P : Nat → Nat → Prop} {m0 : ev_M} (f : Nat) (k : ev_M → Option (Int32 × ev_M)) (a1 : Int32) (p148 : ∀ k, ¬ P 148 k) (hk : ∀  (xm : ev_M), frP P m0 xm → Fr (frP P m0) (k xm)) : ∀ (n : Nat) (a3 : Int32) (m : ev_M), frP P m0 m → Fr (frP P m0) (FX12_see_L115 f k a1 n a3 m) := by
  intro n
  induction n with
  | zero => intros; exact Fr.none
  | succ n ih =>
    intro a3 m hm_m
    rw [FX12_see_L115]
    refine Fr.ite (fun _ => ?_) (fun _ => ?_)
    · exact hk _ hm_m
    · refine Fr.ite (fun _ => ?_) (fun _ => ?_)
      · refine Fr.ite (fun _ => ?_) (fun _ => ?_)
        · exact ih _ _ (frP_I (p148 _) hm_m)
        · exact Fr.none
      · exact Fr.none
set_option maxRecDepth 100000 in
set_option maxHeartbeats 4000000 in
theorem FRX12_see_J103 {P : Nat → Nat → Prop} {m0 : ev_M} (f : Nat) (a1 : Int32) (a2 : Int32) {m : ev_M} (p112_58 : ¬ P 112 58) (p114 : ∀ k, ¬ P 114 k) (p148 : ∀ k, ¬ P 148 k)  (hm_m : frP P m0 m) : Fr (frP P m0) (FX12_see_J103 f a1 a2 m) := by
  unfold FX12_see_J103
  refine Fr.ite (fun _ => ?_) (fun _ => ?_)
  · refine Fr.bd (FRX12_refuses _ _ p114 hm_m) (fun r6 m7 hm_m7 => ?_)
    exact Fr.ok hm_m7
  · exact FRX12_see_L115 _ _ _ p148 ((by
  intro m5 hm_m5
  exact Fr.ok (frP_I p112_58 hm_m5))) _ _ _ hm_m
set_option maxRecDepth 100000 in
set_option maxHeartbeats 4000000 in
theorem FRX12_see_J40 {P : Nat → Nat → Prop} {m0 : ev_M} (f : Nat) (a1 : Int32) (s0 : Int32) {m : ev_M} (p112_58 : ¬ P 112 58) (p114 : ∀ k, ¬ P 114 k) (p148 : ∀ k, ¬ P 148 k)  (hm_m : frP P m0 m) : Fr (frP P m0) (FX12_see_J40 f a1 s0 m) := by
  unfold FX12_see_J40
  exact FRX12_see_L43 _ _ _ ((by
  intro e3 m4 hm_m4
  exact FRX12_see_J103 _ _ _ p112_58 p114 p148 hm_m4)) _ _ _ _ hm_m
set_option maxRecDepth 100000 in
set_option maxHeartbeats 4000000 in
theorem FRX12_see_J39 {P : Nat → Nat → Prop} {m0 : ev_M} (f : Nat) (a1 : Int32) {m : ev_M} (p112_58 : ¬ P 112 58) (p114 : ∀ k, ¬ P 114 k) (p148 : ∀ k, ¬ P 148 k)  (hm_m : frP P m0 m) : Fr (frP P m0) (FX12_see_J39 f a1 m) := by
  unfold FX12_see_J39
  exact FRX12_see_J40 _ _ _ p112_58 p114 p148 hm_m
set_option maxRecDepth 100000 in
set_option maxHeartbeats 4000000 in
theorem FRX12_see {P : Nat → Nat → Prop} {m0 : ev_M} (f : Nat) {m : ev_M} (p112_1 : ¬ P 112 1) (p112_58 : ¬ P 112 58) (p114 : ∀ k, ¬ P 114 k) (p148 : ∀ k, ¬ P 148 k)  (hm_m : frP P m0 m) : Fr (frP P m0) (FX12_see f m) := by
  unfold FX12_see
  refine Fr.ite (fun _ => ?_) (fun _ => ?_)
  · exact FRX12_see_J39 _ _ p112_58 p114 p148 (frP_I p112_1 hm_m)
  · refine Fr.ite (fun _ => ?_) (fun _ => ?_)
    · exact FRX12_see_J39 _ _ p112_58 p114 p148 (frP_I p112_1 hm_m)
    · refine Fr.ite (fun _ => ?_) (fun _ => ?_)
      · refine Fr.ite (fun _ => ?_) (fun _ => ?_)
        · exact FRX12_see_J39 _ _ p112_58 p114 p148 (frP_I p112_1 hm_m)
        · exact FRX12_see_J40 _ _ _ p112_58 p114 p148 (frP_I p112_1 hm_m)
      · exact FRX12_see_J39 _ _ p112_58 p114 p148 (frP_I p112_1 hm_m)
set_option maxRecDepth 100000 in
set_option maxHeartbeats 4000000 in
theorem FRX12_isAsSeen_J64 {P : Nat → Nat → Prop} {m0 : ev_M} (f : Nat) (kt2 : Int32 → ev_M → Option (Int32 × ev_M)) (a2 : Int32) {m : ev_M}  (hkt2 : ∀ (x0 : Int32) (xm : ev_M), frP P m0 xm → Fr (frP P m0) (kt2 x0 xm)) (hm_m : frP P m0 m) : Fr (frP P m0) (FX12_isAsSeen_J64 f kt2 a2 m) := by
  unfold FX12_isAsSeen_J64
  exact hkt2 _ _ hm_m
set_option maxRecDepth 100000 in
set_option maxHeartbeats 4000000 in
theorem FRX12_isAsSeen_L2 {P : Nat → Nat → Prop} {m0 : ev_M} (f : Nat) (k : ev_M → Option (Int32 × ev_M)) (a1 : Int32)  (hk : ∀  (xm : ev_M), frP P m0 xm → Fr (frP P m0) (k xm)) : ∀ (n : Nat) (a2 : Int32) (m : ev_M), frP P m0 m → Fr (frP P m0) (FX12_isAsSeen_L2 f k a1 n a2 m) := by
  intro n
  induction n with
  | zero => intros; exact Fr.none
  | succ n ih =>
    intro a2 m hm_m
    rw [FX12_isAsSeen_L2]
    refine Fr.ite (fun _ => ?_) (fun _ => ?_)
    · exact hk _ hm_m
    · refine Fr.ite (fun _ => ?_) (fun _ => ?_)
      · refine Fr.ite (fun _ => ?_) (fun _ => ?_)
        · refine Fr.ite (fun _ => ?_) (fun _ => ?_)
          · exact Fr.ok hm_m
          · refine Fr.ite (fun _ => ?_) (fun _ => ?_)
            · refine Fr.ite (fun _ => ?_) (fun _ => ?_)
              · refine Fr.ite (fun _ => ?_) (fun _ => ?_)
                · refine Fr.ite (fun _ => ?_) (fun _ => ?_)
                  · exact FRX12_isAsSeen_J64 _ _ _ ih hm_m
                  · exact Fr.ok hm_m
                · exact Fr.none
              · exact Fr.none
            · exact Fr.none
        · exact FRX12_isAsSeen_J64 _ _ _ ih hm_m
      · exact Fr.none
set_option maxRecDepth 100000 in
set_option maxHeartbeats 4000000 in
theorem FRX12_isAsSeen {P : Nat → Nat → Prop} {m0 : ev_M} (f : Nat) (a1 : Int32) {m : ev_M}   (hm_m : frP P m0 m) : Fr (frP P m0) (FX12_isAsSeen f a1 m) := by
  unfold FX12_isAsSeen
  exact FRX12_isAsSeen_L2 _ _ _ ((by
  intro m1 hm_m1
  exact Fr.ok hm_m1)) _ _ _ hm_m
set_option maxRecDepth 100000 in
set_option maxHeartbeats 4000000 in
theorem FRX12_mostAlike_J88 {P : Nat → Nat → Prop} {m0 : ev_M} (f : Nat) (kt39 : Int32 → Int32 → ev_M → Option (Int32 × ev_M)) (a6 : Int32) (a7 : Int32) {m : ev_M}  (hkt39 : ∀ (x0 : Int32) (x1 : Int32) (xm : ev_M), frP P m0 xm → Fr (frP P m0) (kt39 x0 x1 xm)) (hm_m : frP P m0 m) : Fr (frP P m0) (FX12_mostAlike_J88 f kt39 a6 a7 m) := by
  unfold FX12_mostAlike_J88
  exact hkt39 _ _ _ hm_m
set_option maxRecDepth 100000 in
set_option maxHeartbeats 4000000 in
theorem FRX12_mostAlike_L39 {P : Nat → Nat → Prop} {m0 : ev_M} (f : Nat) (k : Int32 → ev_M → Option (Int32 × ev_M)) (a3 : Int32) (a5 : Int32)  (hk : ∀ (x0 : Int32) (xm : ev_M), frP P m0 xm → Fr (frP P m0) (k x0 xm)) : ∀ (n : Nat) (a6 : Int32) (a7 : Int32) (m : ev_M), frP P m0 m → Fr (frP P m0) (FX12_mostAlike_L39 f k a3 a5 n a6 a7 m) := by
  intro n
  induction n with
  | zero => intros; exact Fr.none
  | succ n ih =>
    intro a6 a7 m hm_m
    rw [FX12_mostAlike_L39]
    refine Fr.ite (fun _ => ?_) (fun _ => ?_)
    · exact hk _ _ hm_m
    · refine Fr.ite (fun _ => ?_) (fun _ => ?_)
      · refine Fr.ite (fun _ => ?_) (fun _ => ?_)
        · exact FRX12_mostAlike_J88 _ _ _ _ ih hm_m
        · refine Fr.ite (fun _ => ?_) (fun _ => ?_)
          · refine Fr.ite (fun _ => ?_) (fun _ => ?_)
            · refine Fr.ite (fun _ => ?_) (fun _ => ?_)
              · exact FRX12_mostAlike_J88 _ _ _ _ ih hm_m
              · exact FRX12_mostAlike_J88 _ _ _ _ ih hm_m
            · exact Fr.none
          · exact Fr.none
      · exact Fr.none
set_option maxRecDepth 100000 in
set_option maxHeartbeats 4000000 in
theorem FRX12_mostAlike_J105 {P : Nat → Nat → Prop} {m0 : ev_M} (f : Nat) (kt13 : Int32 → Int32 → ev_M → Option (Int32 × ev_M)) (a4 : Int32) (a5 : Int32) {m : ev_M}  (hkt13 : ∀ (x0 : Int32) (x1 : Int32) (xm : ev_M), frP P m0 xm → Fr (frP P m0) (kt13 x0 x1 xm)) (hm_m : frP P m0 m) : Fr (frP P m0) (FX12_mostAlike_J105 f kt13 a4 a5 m) := by
  unfold FX12_mostAlike_J105
  exact hkt13 _ _ _ hm_m
set_option maxRecDepth 100000 in
set_option maxHeartbeats 4000000 in
theorem FRX12_mostAlike_L13 {P : Nat → Nat → Prop} {m0 : ev_M} (f : Nat) (k : Int32 → ev_M → Option (Int32 × ev_M)) (a3 : Int32)  (hk : ∀ (x0 : Int32) (xm : ev_M), frP P m0 xm → Fr (frP P m0) (k x0 xm)) : ∀ (n : Nat) (a4 : Int32) (a5 : Int32) (m : ev_M), frP P m0 m → Fr (frP P m0) (FX12_mostAlike_L13 f k a3 n a4 a5 m) := by
  intro n
  induction n with
  | zero => intros; exact Fr.none
  | succ n ih =>
    intro a4 a5 m hm_m
    rw [FX12_mostAlike_L13]
    refine Fr.ite (fun _ => ?_) (fun _ => ?_)
    · exact hk _ _ hm_m
    · refine Fr.ite (fun _ => ?_) (fun _ => ?_)
      · refine Fr.ite (fun _ => ?_) (fun _ => ?_)
        · exact FRX12_mostAlike_J105 _ _ _ _ ih hm_m
        · exact FRX12_mostAlike_L39 _ _ _ _ ((by
  intro e1 m2 hm_m2
  refine Fr.ite (fun _ => ?_) (fun _ => ?_)
  · exact FRX12_mostAlike_J105 _ _ _ _ ih hm_m2
  · exact FRX12_mostAlike_J105 _ _ _ _ ih hm_m2)) _ _ _ _ hm_m
      · exact Fr.none
set_option maxRecDepth 100000 in
set_option maxHeartbeats 4000000 in
theorem FRX12_mostAlike {P : Nat → Nat → Prop} {m0 : ev_M} (f : Nat) (a1 : Int32) (a2 : Int32) {m : ev_M}   (hm_m : frP P m0 m) : Fr (frP P m0) (FX12_mostAlike f a1 a2 m) := by
  unfold FX12_mostAlike
  exact FRX12_mostAlike_L13 _ _ _ ((by
  intro e3 m4 hm_m4
  exact Fr.ok hm_m4)) _ _ _ _ hm_m
set_option maxRecDepth 100000 in
set_option maxHeartbeats 4000000 in
theorem FRX12_keeps_L15 {P : Nat → Nat → Prop} {m0 : ev_M} (f : Nat) (k : ev_M → Option (Unit × ev_M)) (p151 : ∀ k, ¬ P 151 k) (hk : ∀  (xm : ev_M), frP P m0 xm → Fr (frP P m0) (k xm)) : ∀ (n : Nat) (a1 : Int32) (m : ev_M), frP P m0 m → Fr (frP P m0) (FX12_keeps_L15 f k n a1 m) := by
  intro n
  induction n with
  | zero => intros; exact Fr.none
  | succ n ih =>
    intro a1 m hm_m
    rw [FX12_keeps_L15]
    refine Fr.ite (fun _ => ?_) (fun _ => ?_)
    · exact hk _ hm_m
    · refine Fr.ite (fun _ => ?_) (fun _ => ?_)
      · refine Fr.ite (fun _ => ?_) (fun _ => ?_)
        · exact ih _ _ (frP_I (p151 _) hm_m)
        · exact Fr.none
      · exact Fr.none
set_option maxRecDepth 100000 in
set_option maxHeartbeats 4000000 in
theorem FRX12_keeps {P : Nat → Nat → Prop} {m0 : ev_M} (f : Nat) {m : ev_M} (p112_64 : ¬ P 112 64) (p112_65 : ¬ P 112 65) (p151 : ∀ k, ¬ P 151 k)  (hm_m : frP P m0 m) : Fr (frP P m0) (FX12_keeps f m) := by
  unfold FX12_keeps
  exact FRX12_keeps_L15 _ _ p151 ((by
  intro m1 hm_m1
  refine Fr.ite (fun _ => ?_) (fun _ => ?_)
  · exact Fr.ok hm_m1
  · exact Fr.ok (frP_I p112_64 hm_m1))) _ _ _ (frP_I p112_65 hm_m)
set_option maxRecDepth 100000 in
set_option maxHeartbeats 4000000 in
theorem FRX12_undo_L21 {P : Nat → Nat → Prop} {m0 : ev_M} (f : Nat) (k : ev_M → Option (Int32 × ev_M)) (p144 : ∀ k, ¬ P 144 k) (hk : ∀  (xm : ev_M), frP P m0 xm → Fr (frP P m0) (k xm)) : ∀ (n : Nat) (a1 : Int32) (m : ev_M), frP P m0 m → Fr (frP P m0) (FX12_undo_L21 f k n a1 m) := by
  intro n
  induction n with
  | zero => intros; exact Fr.none
  | succ n ih =>
    intro a1 m hm_m
    rw [FX12_undo_L21]
    refine Fr.ite (fun _ => ?_) (fun _ => ?_)
    · exact hk _ hm_m
    · refine Fr.ite (fun _ => ?_) (fun _ => ?_)
      · refine Fr.ite (fun _ => ?_) (fun _ => ?_)
        · exact ih _ _ (frP_I (p144 _) hm_m)
        · exact Fr.none
      · exact Fr.none
set_option maxRecDepth 100000 in
set_option maxHeartbeats 4000000 in
theorem FRX12_undo {P : Nat → Nat → Prop} {m0 : ev_M} (f : Nat) {m : ev_M} (p112_64 : ¬ P 112 64) (p112_65 : ¬ P 112 65) (p114_4 : ¬ P 114 4) (p144 : ∀ k, ¬ P 144 k)  (hm_m : frP P m0 m) : Fr (frP P m0) (FX12_undo f m) := by
  unfold FX12_undo
  refine Fr.ite (fun _ => ?_) (fun _ => ?_)
  · exact Fr.ok (frP_I p114_4 hm_m)
  · exact FRX12_undo_L21 _ _ p144 ((by
  intro m1 hm_m1
  exact Fr.ok (frP_I p112_64 (frP_I p112_65 hm_m1)))) _ _ _ hm_m
set_option maxRecDepth 100000 in
set_option maxHeartbeats 4000000 in
theorem FRX12_isRefused {P : Nat → Nat → Prop} {m0 : ev_M} (f : Nat) {m : ev_M} (p114_2 : ¬ P 114 2)  (hm_m : frP P m0 m) : Fr (frP P m0) (FX12_isRefused f m) := by
  unfold FX12_isRefused
  exact Fr.ok (frP_I p114_2 hm_m)
set_option maxRecDepth 100000 in
set_option maxHeartbeats 4000000 in
theorem FRX12_cheer_J29 {P : Nat → Nat → Prop} {m0 : ev_M} (f : Nat) {m : ev_M} (p114_2 : ¬ P 114 2)  (hm_m : frP P m0 m) : Fr (frP P m0) (FX12_cheer_J29 f m) := by
  unfold FX12_cheer_J29
  refine Fr.bd (FRX12_isRefused _ p114_2 hm_m) (fun r3 m4 hm_m4 => ?_)
  refine Fr.ite (fun _ => ?_) (fun _ => ?_)
  · exact Fr.ok hm_m4
  · exact Fr.none
set_option maxRecDepth 100000 in
set_option maxHeartbeats 4000000 in
theorem FRX12_cheer {P : Nat → Nat → Prop} {m0 : ev_M} (f : Nat) (a1 : Int32) (a2 : Int32) {m : ev_M} (p112_64 : ¬ P 112 64) (p112_65 : ¬ P 112 65) (p114_2 : ¬ P 114 2) (p144 : ∀ k, ¬ P 144 k) (p151 : ∀ k, ¬ P 151 k)  (hm_m : frP P m0 m) : Fr (frP P m0) (FX12_cheer f a1 a2 m) := by
  unfold FX12_cheer
  refine Fr.bd (FRX12_isTower _ _ hm_m) (fun r1 m2 hm_m2 => ?_)
  refine Fr.ite (fun _ => ?_) (fun _ => ?_)
  · exact FRX12_cheer_J29 _ p114_2 hm_m2
  · refine Fr.bd (FRX12_isIn _ _ _ _ hm_m2) (fun r5 m6 hm_m6 => ?_)
    refine Fr.ite (fun _ => ?_) (fun _ => ?_)
    · exact FRX12_cheer_J29 _ p114_2 hm_m6
    · refine Fr.bd (FRX12_cheerOf _ _ hm_m6) (fun r7 m8 hm_m8 => ?_)
      refine Fr.ite (fun _ => ?_) (fun _ => ?_)
      · exact FRX12_cheer_J29 _ p114_2 hm_m8
      · refine Fr.bd (FRX12_keeps _ p112_64 p112_65 p151 hm_m8) (fun _ m10 hm_m10 => ?_)
        refine Fr.ite (fun _ => ?_) (fun _ => ?_)
        · exact Fr.ok (frP_I (p144 _) hm_m10)
        · exact Fr.none
set_option maxRecDepth 100000 in
set_option maxHeartbeats 4000000 in
theorem FRX12_yes_J34 {P : Nat → Nat → Prop} {m0 : ev_M} (f : Nat) {m : ev_M} (p114_2 : ¬ P 114 2)  (hm_m : frP P m0 m) : Fr (frP P m0) (FX12_yes_J34 f m) := by
  unfold FX12_yes_J34
  refine Fr.bd (FRX12_isRefused _ p114_2 hm_m) (fun r3 m4 hm_m4 => ?_)
  refine Fr.ite (fun _ => ?_) (fun _ => ?_)
  · exact Fr.ok hm_m4
  · exact Fr.none
set_option maxRecDepth 100000 in
set_option maxHeartbeats 4000000 in
theorem FRX12_yes {P : Nat → Nat → Prop} {m0 : ev_M} (f : Nat) (a1 : Int32) (a2 : Int32) {m : ev_M} (p112_64 : ¬ P 112 64) (p112_65 : ¬ P 112 65) (p114_2 : ¬ P 114 2) (p144 : ∀ k, ¬ P 144 k) (p151 : ∀ k, ¬ P 151 k)  (hm_m : frP P m0 m) : Fr (frP P m0) (FX12_yes f a1 a2 m) := by
  unfold FX12_yes
  refine Fr.bd (FRX12_isTower _ _ hm_m) (fun r1 m2 hm_m2 => ?_)
  refine Fr.ite (fun _ => ?_) (fun _ => ?_)
  · exact FRX12_yes_J34 _ p114_2 hm_m2
  · refine Fr.bd (FRX12_isIn _ _ _ _ hm_m2) (fun r5 m6 hm_m6 => ?_)
    refine Fr.ite (fun _ => ?_) (fun _ => ?_)
    · exact FRX12_yes_J34 _ p114_2 hm_m6
    · refine Fr.ite (fun _ => ?_) (fun _ => ?_)
      · refine Fr.ite (fun _ => ?_) (fun _ => ?_)
        · exact FRX12_yes_J34 _ p114_2 hm_m6
        · refine Fr.bd (FRX12_keeps _ p112_64 p112_65 p151 hm_m6) (fun _ m8 hm_m8 => ?_)
          refine Fr.ite (fun _ => ?_) (fun _ => ?_)
          · exact Fr.ok (frP_I (p144 _) hm_m8)
          · exact Fr.none
      · exact Fr.none
set_option maxRecDepth 100000 in
set_option maxHeartbeats 4000000 in
theorem FRX12_change_J21 {P : Nat → Nat → Prop} {m0 : ev_M} (f : Nat) {m : ev_M} (p114_2 : ¬ P 114 2)  (hm_m : frP P m0 m) : Fr (frP P m0) (FX12_change_J21 f m) := by
  unfold FX12_change_J21
  refine Fr.bd (FRX12_isRefused _ p114_2 hm_m) (fun r3 m4 hm_m4 => ?_)
  refine Fr.ite (fun _ => ?_) (fun _ => ?_)
  · exact Fr.ok hm_m4
  · exact Fr.none
set_option maxRecDepth 100000 in
set_option maxHeartbeats 4000000 in
theorem FRX12_change {P : Nat → Nat → Prop} {m0 : ev_M} (f : Nat) (a1 : Int32) (a2 : Int32) {m : ev_M} (p112_64 : ¬ P 112 64) (p112_65 : ¬ P 112 65) (p114_2 : ¬ P 114 2) (p144 : ∀ k, ¬ P 144 k) (p151 : ∀ k, ¬ P 151 k)  (hm_m : frP P m0 m) : Fr (frP P m0) (FX12_change f a1 a2 m) := by
  unfold FX12_change
  refine Fr.bd (FRX12_isTower _ _ hm_m) (fun r1 m2 hm_m2 => ?_)
  refine Fr.ite (fun _ => ?_) (fun _ => ?_)
  · exact FRX12_change_J21 _ p114_2 hm_m2
  · refine Fr.bd (FRX12_isTower _ _ hm_m2) (fun r5 m6 hm_m6 => ?_)
    refine Fr.ite (fun _ => ?_) (fun _ => ?_)
    · exact FRX12_change_J21 _ p114_2 hm_m6
    · refine Fr.ite (fun _ => ?_) (fun _ => ?_)
      · exact FRX12_change_J21 _ p114_2 hm_m6
      · refine Fr.bd (FRX12_keeps _ p112_64 p112_65 p151 hm_m6) (fun _ m8 hm_m8 => ?_)
        refine Fr.bd (FRX12_changes _ _ _ p144 hm_m8) (fun _ m10 hm_m10 => ?_)
        exact Fr.ok hm_m10
set_option maxRecDepth 100000 in
set_option maxHeartbeats 4000000 in
theorem FRX12_seed {P : Nat → Nat → Prop} {m0 : ev_M} (f : Nat) (a1 : Int32) {m : ev_M} (p112_66 : ¬ P 112 66) (p114_5 : ¬ P 114 5)  (hm_m : frP P m0 m) : Fr (frP P m0) (FX12_seed f a1 m) := by
  unfold FX12_seed
  refine Fr.ite (fun _ => ?_) (fun _ => ?_)
  · exact Fr.ok (frP_L p112_66 hm_m)
  · exact Fr.ok (frP_I p114_5 hm_m)
set_option maxRecDepth 100000 in
set_option maxHeartbeats 4000000 in
theorem FRX12_drawOf {P : Nat → Nat → Prop} {m0 : ev_M} (f : Nat) (a1 : Int32) {m : ev_M} (p112_66 : ¬ P 112 66)  (hm_m : frP P m0 m) : Fr (frP P m0) (FX12_drawOf f a1 m) := by
  unfold FX12_drawOf
  refine Fr.ite (fun _ => ?_) (fun _ => ?_)
  · exact Fr.none
  · exact Fr.ok (frP_L p112_66 hm_m)
set_option maxRecDepth 100000 in
set_option maxHeartbeats 4000000 in
theorem FRX12_toneIn {P : Nat → Nat → Prop} {m0 : ev_M} (f : Nat) (a1 : Int32) (a2 : Int32) {m : ev_M}   (hm_m : frP P m0 m) : Fr (frP P m0) (FX12_toneIn f a1 a2 m) := by
  unfold FX12_toneIn
  refine Fr.ite (fun _ => ?_) (fun _ => ?_)
  · exact Fr.ok hm_m
  · exact Fr.none
set_option maxRecDepth 100000 in
set_option maxHeartbeats 4000000 in
theorem FRX12_qCode {P : Nat → Nat → Prop} {m0 : ev_M} (f : Nat) (a1 : Int32) {m : ev_M} (p112_93 : ¬ P 112 93) (p177 : ∀ k, ¬ P 177 k)  (hm_m : frP P m0 m) : Fr (frP P m0) (FX12_qCode f a1 m) := by
  unfold FX12_qCode
  refine Fr.ite (fun _ => ?_) (fun _ => ?_)
  · exact Fr.ok (frP_I p112_93 (frP_I (p177 _) hm_m))
  · exact Fr.none
set_option maxRecDepth 100000 in
set_option maxHeartbeats 4000000 in
theorem FRX12_qOpens {P : Nat → Nat → Prop} {m0 : ev_M} (f : Nat) (a1 : Int32) (a2 : Int32) {m : ev_M} (p112_5 : ¬ P 112 5) (p112_6 : ¬ P 112 6) (p112_95 : ¬ P 112 95) (p112_96 : ¬ P 112 96) (p178 : ∀ k, ¬ P 178 k)  (hm_m : frP P m0 m) : Fr (frP P m0) (FX12_qOpens f a1 a2 m) := by
  unfold FX12_qOpens
  refine Fr.ite (fun _ => ?_) (fun _ => ?_)
  · refine Fr.ite (fun _ => ?_) (fun _ => ?_)
    · refine Fr.bd (FRX12_fail _ _ _ p112_5 p112_6 hm_m) (fun _ m2 hm_m2 => ?_)
      exact Fr.ok hm_m2
    · refine Fr.ite (fun _ => ?_) (fun _ => ?_)
      · exact Fr.ok (frP_I p112_95 (frP_I (p178 _) (frP_I p112_96 hm_m)))
      · exact Fr.none
  · exact Fr.ok hm_m
set_option maxRecDepth 100000 in
set_option maxHeartbeats 4000000 in
theorem FRX12_qIsOn {P : Nat → Nat → Prop} {m0 : ev_M} (f : Nat) (a1 : Int32) {m : ev_M}   (hm_m : frP P m0 m) : Fr (frP P m0) (FX12_qIsOn f a1 m) := by
  unfold FX12_qIsOn
  refine Fr.ite (fun _ => ?_) (fun _ => ?_)
  · exact Fr.ok hm_m
  · refine Fr.ite (fun _ => ?_) (fun _ => ?_)
    · refine Fr.ite (fun _ => ?_) (fun _ => ?_)
      · exact Fr.ok hm_m
      · exact Fr.ok hm_m
    · exact Fr.none
set_option maxRecDepth 100000 in
set_option maxHeartbeats 4000000 in
theorem FRX12_qDrops {P : Nat → Nat → Prop} {m0 : ev_M} (f : Nat) {m : ev_M} (p112_93 : ¬ P 112 93) (p112_95 : ¬ P 112 95) (p177 : ∀ k, ¬ P 177 k)  (hm_m : frP P m0 m) : Fr (frP P m0) (FX12_qDrops f m) := by
  unfold FX12_qDrops
  refine Fr.ite (fun _ => ?_) (fun _ => ?_)
  · refine Fr.bd (FRX12_qCode _ _ p112_93 p177 (frP_I p112_95 hm_m)) (fun _ m2 hm_m2 => ?_)
    exact Fr.ok hm_m2
  · exact Fr.none
set_option maxRecDepth 100000 in
set_option maxHeartbeats 4000000 in
theorem FRX12_qIsBracket {P : Nat → Nat → Prop} {m0 : ev_M} (f : Nat) (a0 : Int32) {m : ev_M}   (hm_m : frP P m0 m) : Fr (frP P m0) (FX12_qIsBracket f a0 m) := by
  unfold FX12_qIsBracket
  refine Fr.ite (fun _ => ?_) (fun _ => ?_)
  · exact Fr.ok hm_m
  · refine Fr.ite (fun _ => ?_) (fun _ => ?_)
    · exact Fr.ok hm_m
    · exact Fr.ok hm_m
set_option maxRecDepth 100000 in
set_option maxHeartbeats 4000000 in
theorem FRX12_qBracket_L7 {P : Nat → Nat → Prop} {m0 : ev_M} (f : Nat) (k : Int32 → ev_M → Option (Int32 × ev_M))  (hk : ∀ (x0 : Int32) (xm : ev_M), frP P m0 xm → Fr (frP P m0) (k x0 xm)) : ∀ (n : Nat) (a1 : Int32) (m : ev_M), frP P m0 m → Fr (frP P m0) (FX12_qBracket_L7 f k n a1 m) := by
  intro n
  induction n with
  | zero => intros; exact Fr.none
  | succ n ih =>
    intro a1 m hm_m
    rw [FX12_qBracket_L7]
    refine Fr.ite (fun _ => ?_) (fun _ => ?_)
    · exact hk _ _ hm_m
    · refine Fr.ite (fun _ => ?_) (fun _ => ?_)
      · refine Fr.bd (FRX12_qIsBracket _ _ hm_m) (fun r1 m2 hm_m2 => ?_)
        refine Fr.ite (fun _ => ?_) (fun _ => ?_)
        · exact ih _ _ hm_m2
        · exact hk _ _ hm_m2
      · exact Fr.none
set_option maxRecDepth 100000 in
set_option maxHeartbeats 4000000 in
theorem FRX12_qBracket {P : Nat → Nat → Prop} {m0 : ev_M} (f : Nat) {m : ev_M}   (hm_m : frP P m0 m) : Fr (frP P m0) (FX12_qBracket f m) := by
  unfold FX12_qBracket
  exact FRX12_qBracket_L7 _ _ ((by
  intro e3 m4 hm_m4
  refine Fr.ite (fun _ => ?_) (fun _ => ?_)
  · exact Fr.ok hm_m4
  · refine Fr.ite (fun _ => ?_) (fun _ => ?_)
    · exact Fr.ok hm_m4
    · exact Fr.none)) _ _ _ hm_m
set_option maxRecDepth 100000 in
set_option maxHeartbeats 4000000 in
theorem FRX12_qDropsToBracket_L0 {P : Nat → Nat → Prop} {m0 : ev_M} (f : Nat) (k : ev_M → Option (Unit × ev_M)) (p112_93 : ¬ P 112 93) (p112_95 : ¬ P 112 95) (p177 : ∀ k, ¬ P 177 k) (hk : ∀  (xm : ev_M), frP P m0 xm → Fr (frP P m0) (k xm)) : ∀ (n : Nat)  (m : ev_M), frP P m0 m → Fr (frP P m0) (FX12_qDropsToBracket_L0 f k n m) := by
  intro n
  induction n with
  | zero => intros; exact Fr.none
  | succ n ih =>
    intro m hm_m
    rw [FX12_qDropsToBracket_L0]
    refine Fr.ite (fun _ => ?_) (fun _ => ?_)
    · exact hk _ hm_m
    · refine Fr.ite (fun _ => ?_) (fun _ => ?_)
      · refine Fr.bd (FRX12_qIsBracket _ _ hm_m) (fun r1 m2 hm_m2 => ?_)
        refine Fr.ite (fun _ => ?_) (fun _ => ?_)
        · refine Fr.bd (FRX12_qDrops _ p112_93 p112_95 p177 hm_m2) (fun _ m4 hm_m4 => ?_)
          exact ih  _ hm_m4
        · exact hk _ hm_m2
      · exact Fr.none
set_option maxRecDepth 100000 in
set_option maxHeartbeats 4000000 in
theorem FRX12_qDropsToBracket {P : Nat → Nat → Prop} {m0 : ev_M} (f : Nat) {m : ev_M} (p112_93 : ¬ P 112 93) (p112_95 : ¬ P 112 95) (p177 : ∀ k, ¬ P 177 k)  (hm_m : frP P m0 m) : Fr (frP P m0) (FX12_qDropsToBracket f m) := by
  unfold FX12_qDropsToBracket
  exact FRX12_qDropsToBracket_L0 _ _ p112_93 p112_95 p177 ((by
  intro m5 hm_m5
  exact Fr.ok hm_m5)) _ _ hm_m
set_option maxRecDepth 100000 in
set_option maxHeartbeats 4000000 in
theorem FRX12_qWordHere_J21 {P : Nat → Nat → Prop} {m0 : ev_M} (f : Nat) {m : ev_M} (p112_2 : ¬ P 112 2)  (hm_m : frP P m0 m) : Fr (frP P m0) (FX12_qWordHere_J21 f m) := by
  unfold FX12_qWordHere_J21
  refine Fr.bd (FRX12_isHere _ 167 p112_2 hm_m) (fun r1 m2 hm_m2 => ?_)
  refine Fr.ite (fun _ => ?_) (fun _ => ?_)
  · refine Fr.bd (FRX12_isHere _ 168 p112_2 hm_m2) (fun r3 m4 hm_m4 => ?_)
    refine Fr.ite (fun _ => ?_) (fun _ => ?_)
    · refine Fr.bd (FRX12_isHere _ 169 p112_2 hm_m4) (fun r5 m6 hm_m6 => ?_)
      refine Fr.ite (fun _ => ?_) (fun _ => ?_)
      · refine Fr.bd (FRX12_isHere _ 170 p112_2 hm_m6) (fun r7 m8 hm_m8 => ?_)
        refine Fr.ite (fun _ => ?_) (fun _ => ?_)
        · refine Fr.bd (FRX12_isHere _ 171 p112_2 hm_m8) (fun r9 m10 hm_m10 => ?_)
          refine Fr.ite (fun _ => ?_) (fun _ => ?_)
          · refine Fr.bd (FRX12_isHere _ 172 p112_2 hm_m10) (fun r11 m12 hm_m12 => ?_)
            refine Fr.ite (fun _ => ?_) (fun _ => ?_)
            · refine Fr.bd (FRX12_isHere _ 173 p112_2 hm_m12) (fun r13 m14 hm_m14 => ?_)
              refine Fr.ite (fun _ => ?_) (fun _ => ?_)
              · refine Fr.bd (FRX12_isHere _ 174 p112_2 hm_m14) (fun r15 m16 hm_m16 => ?_)
                refine Fr.ite (fun _ => ?_) (fun _ => ?_)
                · refine Fr.bd (FRX12_isHere _ 175 p112_2 hm_m16) (fun r17 m18 hm_m18 => ?_)
                  refine Fr.ite (fun _ => ?_) (fun _ => ?_)
                  · refine Fr.bd (FRX12_isHere _ 176 p112_2 hm_m18) (fun r19 m20 hm_m20 => ?_)
                    refine Fr.ite (fun _ => ?_) (fun _ => ?_)
                    · exact Fr.ok hm_m20
                    · exact Fr.ok hm_m20
                  · exact Fr.ok hm_m18
                · exact Fr.ok hm_m16
              · exact Fr.ok hm_m14
            · exact Fr.ok hm_m12
          · exact Fr.ok hm_m10
        · exact Fr.ok hm_m8
      · exact Fr.ok hm_m6
    · exact Fr.ok hm_m4
  · exact Fr.ok hm_m2
set_option maxRecDepth 100000 in
set_option maxHeartbeats 4000000 in
theorem FRX12_qWordHere {P : Nat → Nat → Prop} {m0 : ev_M} (f : Nat) {m : ev_M} (p112_2 : ¬ P 112 2)  (hm_m : frP P m0 m) : Fr (frP P m0) (FX12_qWordHere f m) := by
  unfold FX12_qWordHere
  refine Fr.ite (fun _ => ?_) (fun _ => ?_)
  · exact FRX12_qWordHere_J21 _ p112_2 hm_m
  · refine Fr.bd (FRX12_isHere _ 166 p112_2 hm_m) (fun r21 m22 hm_m22 => ?_)
    refine Fr.ite (fun _ => ?_) (fun _ => ?_)
    · exact FRX12_qWordHere_J21 _ p112_2 hm_m22
    · exact Fr.ok hm_m22
set_option maxRecDepth 100000 in
set_option maxHeartbeats 4000000 in
theorem FRX12_qWordOf {P : Nat → Nat → Prop} {m0 : ev_M} (f : Nat) (a1 : Int32) (a2 : Int32) {m : ev_M} (p112_2 : ¬ P 112 2)  (hm_m : frP P m0 m) : Fr (frP P m0) (FX12_qWordOf f a1 a2 m) := by
  unfold FX12_qWordOf
  refine Fr.bd (FRX12_qWordHere _ p112_2 hm_m) (fun r1 m2 hm_m2 => ?_)
  refine Fr.ite (fun _ => ?_) (fun _ => ?_)
  · exact Fr.ok hm_m2
  · refine Fr.ite (fun _ => ?_) (fun _ => ?_)
    · exact Fr.ok hm_m2
    · refine Fr.bd (FRX12_isAllowed _ _ hm_m2) (fun r3 m4 hm_m4 => ?_)
      refine Fr.ite (fun _ => ?_) (fun _ => ?_)
      · exact Fr.ok hm_m4
      · exact Fr.ok hm_m4
set_option maxRecDepth 100000 in
set_option maxHeartbeats 4000000 in
theorem FRX12_qAsksWord {P : Nat → Nat → Prop} {m0 : ev_M} (f : Nat) (a1 : Int32) {m : ev_M} (p112_2 : ¬ P 112 2) (p112_4 : ¬ P 112 4) (p112_5 : ¬ P 112 5) (p112_6 : ¬ P 112 6)  (hm_m : frP P m0 m) : Fr (frP P m0) (FX12_qAsksWord f a1 m) := by
  unfold FX12_qAsksWord
  refine Fr.ite (fun _ => ?_) (fun _ => ?_)
  · refine Fr.bd (FRX12_asks _ 166 p112_2 p112_4 p112_5 p112_6 hm_m) (fun _ m2 hm_m2 => ?_)
    exact Fr.ok hm_m2
  · refine Fr.ite (fun _ => ?_) (fun _ => ?_)
    · refine Fr.bd (FRX12_asks _ 167 p112_2 p112_4 p112_5 p112_6 hm_m) (fun _ m5 hm_m5 => ?_)
      exact Fr.ok hm_m5
    · refine Fr.ite (fun _ => ?_) (fun _ => ?_)
      · refine Fr.bd (FRX12_asks _ 168 p112_2 p112_4 p112_5 p112_6 hm_m) (fun _ m8 hm_m8 => ?_)
        exact Fr.ok hm_m8
      · refine Fr.ite (fun _ => ?_) (fun _ => ?_)
        · refine Fr.bd (FRX12_asks _ 169 p112_2 p112_4 p112_5 p112_6 hm_m) (fun _ m11 hm_m11 => ?_)
          exact Fr.ok hm_m11
        · refine Fr.ite (fun _ => ?_) (fun _ => ?_)
          · refine Fr.bd (FRX12_asks _ 170 p112_2 p112_4 p112_5 p112_6 hm_m) (fun _ m14 hm_m14 => ?_)
            exact Fr.ok hm_m14
          · refine Fr.ite (fun _ => ?_) (fun _ => ?_)
            · refine Fr.bd (FRX12_asks _ 171 p112_2 p112_4 p112_5 p112_6 hm_m) (fun _ m17 hm_m17 => ?_)
              exact Fr.ok hm_m17
            · refine Fr.ite (fun _ => ?_) (fun _ => ?_)
              · refine Fr.bd (FRX12_asks _ 172 p112_2 p112_4 p112_5 p112_6 hm_m) (fun _ m20 hm_m20 => ?_)
                exact Fr.ok hm_m20
              · refine Fr.ite (fun _ => ?_) (fun _ => ?_)
                · refine Fr.bd (FRX12_asks _ 173 p112_2 p112_4 p112_5 p112_6 hm_m) (fun _ m23 hm_m23 => ?_)
                  exact Fr.ok hm_m23
                · refine Fr.ite (fun _ => ?_) (fun _ => ?_)
                  · refine Fr.bd (FRX12_asks _ 174 p112_2 p112_4 p112_5 p112_6 hm_m) (fun _ m26 hm_m26 => ?_)
                    exact Fr.ok hm_m26
                  · refine Fr.ite (fun _ => ?_) (fun _ => ?_)
                    · refine Fr.bd (FRX12_asks _ 175 p112_2 p112_4 p112_5 p112_6 hm_m) (fun _ m29 hm_m29 => ?_)
                      exact Fr.ok hm_m29
                    · refine Fr.bd (FRX12_asks _ 176 p112_2 p112_4 p112_5 p112_6 hm_m) (fun _ m32 hm_m32 => ?_)
                      exact Fr.ok hm_m32
set_option maxRecDepth 100000 in
set_option maxHeartbeats 4000000 in
theorem FRX12_qEndsPart_L0 {P : Nat → Nat → Prop} {m0 : ev_M} (f : Nat) (k : ev_M → Option (Unit × ev_M)) (p112_93 : ¬ P 112 93) (p112_95 : ¬ P 112 95) (p112_96 : ¬ P 112 96) (p177 : ∀ k, ¬ P 177 k) (hk : ∀  (xm : ev_M), frP P m0 xm → Fr (frP P m0) (k xm)) : ∀ (n : Nat)  (m : ev_M), frP P m0 m → Fr (frP P m0) (FX12_qEndsPart_L0 f k n m) := by
  intro n
  induction n with
  | zero => intros; exact Fr.none
  | succ n ih =>
    intro m hm_m
    rw [FX12_qEndsPart_L0]
    refine Fr.ite (fun _ => ?_) (fun _ => ?_)
    · refine Fr.ite (fun _ => ?_) (fun _ => ?_)
      · exact hk _ hm_m
      · refine Fr.ite (fun _ => ?_) (fun _ => ?_)
        · refine Fr.ite (fun _ => ?_) (fun _ => ?_)
          · exact hk _ hm_m
          · refine Fr.bd (FRX12_qDrops _ p112_93 p112_95 p177 (frP_I p112_96 hm_m)) (fun _ m2 hm_m2 => ?_)
            exact ih  _ hm_m2
        · exact Fr.none
    · exact hk _ hm_m
set_option maxRecDepth 100000 in
set_option maxHeartbeats 4000000 in
theorem FRX12_qEndsPart {P : Nat → Nat → Prop} {m0 : ev_M} (f : Nat) {m : ev_M} (p112_93 : ¬ P 112 93) (p112_95 : ¬ P 112 95) (p112_96 : ¬ P 112 96) (p177 : ∀ k, ¬ P 177 k)  (hm_m : frP P m0 m) : Fr (frP P m0) (FX12_qEndsPart f m) := by
  unfold FX12_qEndsPart
  exact FRX12_qEndsPart_L0 _ _ p112_93 p112_95 p112_96 p177 ((by
  intro m3 hm_m3
  exact Fr.ok hm_m3)) _ _ hm_m
set_option maxRecDepth 100000 in
set_option maxHeartbeats 4000000 in
theorem FRX12_qPartTold_J183 {P : Nat → Nat → Prop} {m0 : ev_M} (f : Nat) (kt2 : Int32 → ev_M → Option (Unit × ev_M)) (a1 : Int32) {m : ev_M}  (hkt2 : ∀ (x0 : Int32) (xm : ev_M), frP P m0 xm → Fr (frP P m0) (kt2 x0 xm)) (hm_m : frP P m0 m) : Fr (frP P m0) (FX12_qPartTold_J183 f kt2 a1 m) := by
  unfold FX12_qPartTold_J183
  exact hkt2 _ _ hm_m
set_option maxRecDepth 100000 in
set_option maxHeartbeats 4000000 in
theorem FRX12_qPartTold_J144 {P : Nat → Nat → Prop} {m0 : ev_M} (f : Nat) (kt2 : Int32 → ev_M → Option (Unit × ev_M)) (a1 : Int32) {m : ev_M} (p112_2 : ¬ P 112 2) (p112_5 : ¬ P 112 5) (p112_6 : ¬ P 112 6) (hkt2 : ∀ (x0 : Int32) (xm : ev_M), frP P m0 xm → Fr (frP P m0) (kt2 x0 xm)) (hm_m : frP P m0 m) : Fr (frP P m0) (FX12_qPartTold_J144 f kt2 a1 m) := by
  unfold FX12_qPartTold_J144
  refine Fr.bd (FRX12_asksSign _ _ p112_2 p112_5 p112_6 hm_m) (fun _ m12 hm_m12 => ?_)
  exact FRX12_qPartTold_J183 _ _ _ hkt2 hm_m12
set_option maxRecDepth 100000 in
set_option maxHeartbeats 4000000 in
theorem FRX12_qPartTold_J139 {P : Nat → Nat → Prop} {m0 : ev_M} (f : Nat) (kt2 : Int32 → ev_M → Option (Unit × ev_M)) (a1 : Int32) (a5 : Int32) (s1 : Int32) {m : ev_M} (p112_2 : ¬ P 112 2) (p112_5 : ¬ P 112 5) (p112_6 : ¬ P 112 6) (p112_95 : ¬ P 112 95) (p112_96 : ¬ P 112 96) (p178 : ∀ k, ¬ P 178 k) (hkt2 : ∀ (x0 : Int32) (xm : ev_M), frP P m0 xm → Fr (frP P m0) (kt2 x0 xm)) (hm_m : frP P m0 m) : Fr (frP P m0) (FX12_qPartTold_J139 f kt2 a1 a5 s1 m) := by
  unfold FX12_qPartTold_J139
  refine Fr.bd (FRX12_qOpens _ _ _ p112_5 p112_6 p112_95 p112_96 p178 hm_m) (fun _ m14 hm_m14 => ?_)
  exact FRX12_qPartTold_J144 _ _ _ p112_2 p112_5 p112_6 hkt2 hm_m14
set_option maxRecDepth 100000 in
set_option maxHeartbeats 4000000 in
theorem FRX12_qPartTold_J118 {P : Nat → Nat → Prop} {m0 : ev_M} (f : Nat) (kt2 : Int32 → ev_M → Option (Unit × ev_M)) (a1 : Int32) (a4 : Int32) (s0 : Int32) {m : ev_M} (p112_2 : ¬ P 112 2) (p112_5 : ¬ P 112 5) (p112_6 : ¬ P 112 6) (p112_95 : ¬ P 112 95) (p112_96 : ¬ P 112 96) (p178 : ∀ k, ¬ P 178 k) (hkt2 : ∀ (x0 : Int32) (xm : ev_M), frP P m0 xm → Fr (frP P m0) (kt2 x0 xm)) (hm_m : frP P m0 m) : Fr (frP P m0) (FX12_qPartTold_J118 f kt2 a1 a4 s0 m) := by
  unfold FX12_qPartTold_J118
  refine Fr.ite (fun _ => ?_) (fun _ => ?_)
  · exact FRX12_qPartTold_J144 _ _ _ p112_2 p112_5 p112_6 hkt2 hm_m
  · refine Fr.ite (fun _ => ?_) (fun _ => ?_)
    · exact FRX12_qPartTold_J139 _ _ _ _ _ p112_2 p112_5 p112_6 p112_95 p112_96 p178 hkt2 hm_m
    · exact FRX12_qPartTold_J139 _ _ _ _ _ p112_2 p112_5 p112_6 p112_95 p112_96 p178 hkt2 hm_m
set_option maxRecDepth 100000 in
set_option maxHeartbeats 4000000 in
theorem FRX12_qPartTold_J101 {P : Nat → Nat → Prop} {m0 : ev_M} (f : Nat) (kt2 : Int32 → ev_M → Option (Unit × ev_M)) (a1 : Int32) (a4 : Int32) {m : ev_M} (p112_2 : ¬ P 112 2) (p112_5 : ¬ P 112 5) (p112_6 : ¬ P 112 6) (p112_95 : ¬ P 112 95) (p112_96 : ¬ P 112 96) (p178 : ∀ k, ¬ P 178 k) (hkt2 : ∀ (x0 : Int32) (xm : ev_M), frP P m0 xm → Fr (frP P m0) (kt2 x0 xm)) (hm_m : frP P m0 m) : Fr (frP P m0) (FX12_qPartTold_J101 f kt2 a1 a4 m) := by
  unfold FX12_qPartTold_J101
  refine Fr.bd (FRX12_look _ p112_2 hm_m) (fun r9 m10 hm_m10 => ?_)
  refine Fr.ite (fun _ => ?_) (fun _ => ?_)
  · exact FRX12_qPartTold_J118 _ _ _ _ _ p112_2 p112_5 p112_6 p112_95 p112_96 p178 hkt2 hm_m10
  · exact FRX12_qPartTold_J118 _ _ _ _ _ p112_2 p112_5 p112_6 p112_95 p112_96 p178 hkt2 hm_m10
set_option maxRecDepth 100000 in
set_option maxHeartbeats 4000000 in
theorem FRX12_qPartTold_J78 {P : Nat → Nat → Prop} {m0 : ev_M} (f : Nat) (kt2 : Int32 → ev_M → Option (Unit × ev_M)) (a1 : Int32) {m : ev_M} (p112_2 : ¬ P 112 2) (p112_4 : ¬ P 112 4) (p112_5 : ¬ P 112 5) (p112_6 : ¬ P 112 6) (p112_95 : ¬ P 112 95) (p112_96 : ¬ P 112 96) (p178 : ∀ k, ¬ P 178 k) (hkt2 : ∀ (x0 : Int32) (xm : ev_M), frP P m0 xm → Fr (frP P m0) (kt2 x0 xm)) (hm_m : frP P m0 m) : Fr (frP P m0) (FX12_qPartTold_J78 f kt2 a1 m) := by
  unfold FX12_qPartTold_J78
  refine Fr.bd (FRX12_takes _ 164 p112_2 p112_4 hm_m) (fun r7 m8 hm_m8 => ?_)
  refine Fr.ite (fun _ => ?_) (fun _ => ?_)
  · refine Fr.bd (FRX12_asks _ 165 p112_2 p112_4 p112_5 p112_6 hm_m8) (fun _ m16 hm_m16 => ?_)
    exact FRX12_qPartTold_J101 _ _ _ _ p112_2 p112_5 p112_6 p112_95 p112_96 p178 hkt2 hm_m16
  · exact FRX12_qPartTold_J101 _ _ _ _ p112_2 p112_5 p112_6 p112_95 p112_96 p178 hkt2 hm_m8
set_option maxRecDepth 100000 in
set_option maxHeartbeats 4000000 in
theorem FRX12_qPartTold_L2 {P : Nat → Nat → Prop} {m0 : ev_M} (f : Nat) (k : ev_M → Option (Unit × ev_M)) (p112_2 : ¬ P 112 2) (p112_4 : ¬ P 112 4) (p112_5 : ¬ P 112 5) (p112_6 : ¬ P 112 6) (p112_95 : ¬ P 112 95) (p112_96 : ¬ P 112 96) (p178 : ∀ k, ¬ P 178 k) (hk : ∀  (xm : ev_M), frP P m0 xm → Fr (frP P m0) (k xm)) : ∀ (n : Nat) (a1 : Int32) (m : ev_M), frP P m0 m → Fr (frP P m0) (FX12_qPartTold_L2 f k n a1 m) := by
  intro n
  induction n with
  | zero => intros; exact Fr.none
  | succ n ih =>
    intro a1 m hm_m
    rw [FX12_qPartTold_L2]
    refine Fr.ite (fun _ => ?_) (fun _ => ?_)
    · exact hk _ hm_m
    · refine Fr.ite (fun _ => ?_) (fun _ => ?_)
      · refine Fr.bd (FRX12_look _ p112_2 hm_m) (fun r1 m2 hm_m2 => ?_)
        refine Fr.bd (FRX12_qWordOf _ _ _ p112_2 hm_m2) (fun r3 m4 hm_m4 => ?_)
        refine Fr.ite (fun _ => ?_) (fun _ => ?_)
        · refine Fr.bd (FRX12_qOpens _ _ _ p112_5 p112_6 p112_95 p112_96 p178 hm_m4) (fun _ m24 hm_m24 => ?_)
          exact FRX12_qPartTold_J183 _ _ _ ih (frP_I p112_2 hm_m24)
        · refine Fr.bd (FRX12_isHere _ 164 p112_2 hm_m4) (fun r5 m6 hm_m6 => ?_)
          refine Fr.ite (fun _ => ?_) (fun _ => ?_)
          · refine Fr.bd (FRX12_isHere _ 165 p112_2 hm_m6) (fun r17 m18 hm_m18 => ?_)
            refine Fr.ite (fun _ => ?_) (fun _ => ?_)
            · refine Fr.ite (fun _ => ?_) (fun _ => ?_)
              · exact FRX12_qPartTold_J183 _ _ _ ih hm_m18
              · refine Fr.bd (FRX12_qOpens _ _ _ p112_5 p112_6 p112_95 p112_96 p178 hm_m18) (fun _ m20 hm_m20 => ?_)
                refine Fr.bd (FRX12_qAsksWord _ _ p112_2 p112_4 p112_5 p112_6 hm_m20) (fun _ m22 hm_m22 => ?_)
                exact FRX12_qPartTold_J183 _ _ _ ih hm_m22
            · exact FRX12_qPartTold_J78 _ _ _ p112_2 p112_4 p112_5 p112_6 p112_95 p112_96 p178 ih hm_m18
          · exact FRX12_qPartTold_J78 _ _ _ p112_2 p112_4 p112_5 p112_6 p112_95 p112_96 p178 ih hm_m6
      · exact hk _ hm_m
set_option maxRecDepth 100000 in
set_option maxHeartbeats 4000000 in
theorem FRX12_qPartTold_J237 {P : Nat → Nat → Prop} {m0 : ev_M} (f : Nat) (s1 : Int32) {m : ev_M} (p112_93 : ¬ P 112 93) (p112_95 : ¬ P 112 95) (p112_96 : ¬ P 112 96) (p177 : ∀ k, ¬ P 177 k)  (hm_m : frP P m0 m) : Fr (frP P m0) (FX12_qPartTold_J237 f s1 m) := by
  unfold FX12_qPartTold_J237
  refine Fr.bd (FRX12_qCode _ _ p112_93 p177 hm_m) (fun _ m31 hm_m31 => ?_)
  refine Fr.bd (FRX12_qEndsPart _ p112_93 p112_95 p112_96 p177 hm_m31) (fun _ m33 hm_m33 => ?_)
  exact Fr.ok hm_m33
set_option maxRecDepth 100000 in
set_option maxHeartbeats 4000000 in
theorem FRX12_qPartTold_J212 {P : Nat → Nat → Prop} {m0 : ev_M} (f : Nat) (a2 : Int32) {m : ev_M} (p112_2 : ¬ P 112 2) (p112_4 : ¬ P 112 4) (p112_5 : ¬ P 112 5) (p112_6 : ¬ P 112 6) (p112_93 : ¬ P 112 93) (p112_95 : ¬ P 112 95) (p112_96 : ¬ P 112 96) (p177 : ∀ k, ¬ P 177 k)  (hm_m : frP P m0 m) : Fr (frP P m0) (FX12_qPartTold_J212 f a2 m) := by
  unfold FX12_qPartTold_J212
  refine Fr.ite (fun _ => ?_) (fun _ => ?_)
  · refine Fr.bd (FRX12_number _ _ _ p112_2 p112_4 p112_5 p112_6 hm_m) (fun r28 m29 hm_m29 => ?_)
    exact FRX12_qPartTold_J237 _ _ p112_93 p112_95 p112_96 p177 hm_m29
  · exact FRX12_qPartTold_J237 _ _ p112_93 p112_95 p112_96 p177 hm_m
set_option maxRecDepth 100000 in
set_option maxHeartbeats 4000000 in
theorem FRX12_qPartTold_J186 {P : Nat → Nat → Prop} {m0 : ev_M} (f : Nat) {m : ev_M} (p112_2 : ¬ P 112 2) (p112_4 : ¬ P 112 4) (p112_5 : ¬ P 112 5) (p112_6 : ¬ P 112 6) (p112_93 : ¬ P 112 93) (p112_95 : ¬ P 112 95) (p112_96 : ¬ P 112 96) (p177 : ∀ k, ¬ P 177 k)  (hm_m : frP P m0 m) : Fr (frP P m0) (FX12_qPartTold_J186 f m) := by
  unfold FX12_qPartTold_J186
  refine Fr.ite (fun _ => ?_) (fun _ => ?_)
  · refine Fr.bd (FRX12_qWordOf _ _ _ p112_2 hm_m) (fun r26 m27 hm_m27 => ?_)
    refine Fr.ite (fun _ => ?_) (fun _ => ?_)
    · exact FRX12_qPartTold_J212 _ _ p112_2 p112_4 p112_5 p112_6 p112_93 p112_95 p112_96 p177 hm_m27
    · refine Fr.bd (FRX12_qAsksWord _ _ p112_2 p112_4 p112_5 p112_6 hm_m27) (fun _ m35 hm_m35 => ?_)
      exact FRX12_qPartTold_J212 _ _ p112_2 p112_4 p112_5 p112_6 p112_93 p112_95 p112_96 p177 hm_m35
  · exact Fr.ok hm_m
set_option maxRecDepth 100000 in
set_option maxHeartbeats 4000000 in
theorem FRX12_qPartTold {P : Nat → Nat → Prop} {m0 : ev_M} (f : Nat) {m : ev_M} (p112_2 : ¬ P 112 2) (p112_4 : ¬ P 112 4) (p112_5 : ¬ P 112 5) (p112_6 : ¬ P 112 6) (p112_93 : ¬ P 112 93) (p112_95 : ¬ P 112 95) (p112_96 : ¬ P 112 96) (p177 : ∀ k, ¬ P 177 k) (p178 : ∀ k, ¬ P 178 k)  (hm_m : frP P m0 m) : Fr (frP P m0) (FX12_qPartTold f m) := by
  unfold FX12_qPartTold
  exact FRX12_qPartTold_L2 _ _ p112_2 p112_4 p112_5 p112_6 p112_95 p112_96 p178 ((by
  intro m25 hm_m25
  exact FRX12_qPartTold_J186 _ p112_2 p112_4 p112_5 p112_6 p112_93 p112_95 p112_96 p177 hm_m25)) _ _ _ hm_m
set_option maxRecDepth 100000 in
set_option maxHeartbeats 4000000 in
theorem FRX12_qGoesOn_J115 {P : Nat → Nat → Prop} {m0 : ev_M} (f : Nat) (kt0 : ev_M → Option (Int32 × ev_M)) {m : ev_M} (p112_93 : ¬ P 112 93) (p112_95 : ¬ P 112 95) (p112_96 : ¬ P 112 96) (p177 : ∀ k, ¬ P 177 k) (hkt0 : ∀  (xm : ev_M), frP P m0 xm → Fr (frP P m0) (kt0 xm)) (hm_m : frP P m0 m) : Fr (frP P m0) (FX12_qGoesOn_J115 f kt0 m) := by
  unfold FX12_qGoesOn_J115
  refine Fr.bd (FRX12_qEndsPart _ p112_93 p112_95 p112_96 p177 hm_m) (fun _ m8 hm_m8 => ?_)
  exact hkt0 _ hm_m8
set_option maxRecDepth 100000 in
set_option maxHeartbeats 4000000 in
theorem FRX12_qGoesOn_J112 {P : Nat → Nat → Prop} {m0 : ev_M} (f : Nat) (kt0 : ev_M → Option (Int32 × ev_M)) (s1 : Int32) {m : ev_M} (p112_93 : ¬ P 112 93) (p112_95 : ¬ P 112 95) (p112_96 : ¬ P 112 96) (p177 : ∀ k, ¬ P 177 k) (hkt0 : ∀  (xm : ev_M), frP P m0 xm → Fr (frP P m0) (kt0 xm)) (hm_m : frP P m0 m) : Fr (frP P m0) (FX12_qGoesOn_J112 f kt0 s1 m) := by
  unfold FX12_qGoesOn_J112
  refine Fr.bd (FRX12_qCode _ _ p112_93 p177 hm_m) (fun _ m10 hm_m10 => ?_)
  exact FRX12_qGoesOn_J115 _ _ p112_93 p112_95 p112_96 p177 hkt0 hm_m10
set_option maxRecDepth 100000 in
set_option maxHeartbeats 4000000 in
theorem FRX12_qGoesOn_J43 {P : Nat → Nat → Prop} {m0 : ev_M} (f : Nat) (kt0 : ev_M → Option (Int32 × ev_M)) {m : ev_M} (p112_2 : ¬ P 112 2) (p112_93 : ¬ P 112 93) (p112_95 : ¬ P 112 95) (p112_96 : ¬ P 112 96) (p177 : ∀ k, ¬ P 177 k) (hkt0 : ∀  (xm : ev_M), frP P m0 xm → Fr (frP P m0) (kt0 xm)) (hm_m : frP P m0 m) : Fr (frP P m0) (FX12_qGoesOn_J43 f kt0 m) := by
  unfold FX12_qGoesOn_J43
  refine Fr.bd (FRX12_qDropsToBracket _ p112_93 p112_95 p177 (frP_I p112_2 hm_m)) (fun _ m6 hm_m6 => ?_)
  refine Fr.ite (fun _ => ?_) (fun _ => ?_)
  · refine Fr.ite (fun _ => ?_) (fun _ => ?_)
    · exact FRX12_qGoesOn_J115 _ _ p112_93 p112_95 p112_96 p177 hkt0 (frP_I p112_96 (frP_I p112_95 hm_m6))
    · refine Fr.ite (fun _ => ?_) (fun _ => ?_)
      · refine Fr.ite (fun _ => ?_) (fun _ => ?_)
        · exact FRX12_qGoesOn_J112 _ _ _ p112_93 p112_95 p112_96 p177 hkt0 (frP_I p112_96 (frP_I p112_95 hm_m6))
        · exact FRX12_qGoesOn_J112 _ _ _ p112_93 p112_95 p112_96 p177 hkt0 (frP_I p112_96 (frP_I p112_95 hm_m6))
      · exact Fr.none
  · exact Fr.none
set_option maxRecDepth 100000 in
set_option maxHeartbeats 4000000 in
theorem FRX12_qGoesOn_L0 {P : Nat → Nat → Prop} {m0 : ev_M} (f : Nat) (k : ev_M → Option (Int32 × ev_M)) (p112_2 : ¬ P 112 2) (p112_93 : ¬ P 112 93) (p112_95 : ¬ P 112 95) (p112_96 : ¬ P 112 96) (p177 : ∀ k, ¬ P 177 k) (hk : ∀  (xm : ev_M), frP P m0 xm → Fr (frP P m0) (k xm)) : ∀ (n : Nat)  (m : ev_M), frP P m0 m → Fr (frP P m0) (FX12_qGoesOn_L0 f k n m) := by
  intro n
  induction n with
  | zero => intros; exact Fr.none
  | succ n ih =>
    intro m hm_m
    rw [FX12_qGoesOn_L0]
    refine Fr.ite (fun _ => ?_) (fun _ => ?_)
    · refine Fr.bd (FRX12_look _ p112_2 hm_m) (fun r1 m2 hm_m2 => ?_)
      refine Fr.ite (fun _ => ?_) (fun _ => ?_)
      · refine Fr.bd (FRX12_qBracket _ hm_m2) (fun r3 m4 hm_m4 => ?_)
        refine Fr.ite (fun _ => ?_) (fun _ => ?_)
        · exact FRX12_qGoesOn_J43 _ _ p112_2 p112_93 p112_95 p112_96 p177 ih hm_m4
        · refine Fr.bd (FRX12_qBracket _ hm_m4) (fun r11 m12 hm_m12 => ?_)
          refine Fr.ite (fun _ => ?_) (fun _ => ?_)
          · exact FRX12_qGoesOn_J43 _ _ p112_2 p112_93 p112_95 p112_96 p177 ih hm_m12
          · refine Fr.bd (FRX12_qBracket _ hm_m12) (fun r13 m14 hm_m14 => ?_)
            refine Fr.ite (fun _ => ?_) (fun _ => ?_)
            · exact FRX12_qGoesOn_J43 _ _ p112_2 p112_93 p112_95 p112_96 p177 ih hm_m14
            · exact hk _ hm_m14
      · exact hk _ hm_m2
    · exact hk _ hm_m
set_option maxRecDepth 100000 in
set_option maxHeartbeats 4000000 in
theorem FRX12_qGoesOn_J178 {P : Nat → Nat → Prop} {m0 : ev_M} (f : Nat) (kt162 : ev_M → Option (Int32 × ev_M)) {m : ev_M} (p112_93 : ¬ P 112 93) (p112_95 : ¬ P 112 95) (p177 : ∀ k, ¬ P 177 k) (hkt162 : ∀  (xm : ev_M), frP P m0 xm → Fr (frP P m0) (kt162 xm)) (hm_m : frP P m0 m) : Fr (frP P m0) (FX12_qGoesOn_J178 f kt162 m) := by
  unfold FX12_qGoesOn_J178
  refine Fr.bd (FRX12_qDrops _ p112_93 p112_95 p177 hm_m) (fun _ m21 hm_m21 => ?_)
  exact hkt162 _ hm_m21
set_option maxRecDepth 100000 in
set_option maxHeartbeats 4000000 in
theorem FRX12_qGoesOn_L162 {P : Nat → Nat → Prop} {m0 : ev_M} (f : Nat) (k : ev_M → Option (Int32 × ev_M)) (p112_93 : ¬ P 112 93) (p112_95 : ¬ P 112 95) (p177 : ∀ k, ¬ P 177 k) (hk : ∀  (xm : ev_M), frP P m0 xm → Fr (frP P m0) (k xm)) : ∀ (n : Nat)  (m : ev_M), frP P m0 m → Fr (frP P m0) (FX12_qGoesOn_L162 f k n m) := by
  intro n
  induction n with
  | zero => intros; exact Fr.none
  | succ n ih =>
    intro m hm_m
    rw [FX12_qGoesOn_L162]
    refine Fr.bd (FRX12_qIsOn _ _ hm_m) (fun r18 m19 hm_m19 => ?_)
    refine Fr.ite (fun _ => ?_) (fun _ => ?_)
    · refine Fr.bd (FRX12_qIsOn _ _ hm_m19) (fun r22 m23 hm_m23 => ?_)
      refine Fr.ite (fun _ => ?_) (fun _ => ?_)
      · exact hk _ hm_m23
      · exact FRX12_qGoesOn_J178 _ _ p112_93 p112_95 p177 ih hm_m23
    · exact FRX12_qGoesOn_J178 _ _ p112_93 p112_95 p177 ih hm_m19
set_option maxRecDepth 100000 in
set_option maxHeartbeats 4000000 in
theorem FRX12_qGoesOn_J161 {P : Nat → Nat → Prop} {m0 : ev_M} (f : Nat) (s0 : Int32) {m : ev_M} (p112_93 : ¬ P 112 93) (p112_95 : ¬ P 112 95) (p177 : ∀ k, ¬ P 177 k) (p178 : ∀ k, ¬ P 178 k)  (hm_m : frP P m0 m) : Fr (frP P m0) (FX12_qGoesOn_J161 f s0 m) := by
  unfold FX12_qGoesOn_J161
  exact FRX12_qGoesOn_L162 _ _ p112_93 p112_95 p177 ((by
  intro m24 hm_m24
  refine Fr.ite (fun _ => ?_) (fun _ => ?_)
  · exact Fr.ok (frP_I p112_95 (frP_I (p178 _) hm_m24))
  · exact Fr.none)) _ _ hm_m
set_option maxRecDepth 100000 in
set_option maxHeartbeats 4000000 in
theorem FRX12_qGoesOn_J140 {P : Nat → Nat → Prop} {m0 : ev_M} (f : Nat) {m : ev_M} (p112_93 : ¬ P 112 93) (p112_95 : ¬ P 112 95) (p177 : ∀ k, ¬ P 177 k) (p178 : ∀ k, ¬ P 178 k)  (hm_m : frP P m0 m) : Fr (frP P m0) (FX12_qGoesOn_J140 f m) := by
  unfold FX12_qGoesOn_J140
  refine Fr.ite (fun _ => ?_) (fun _ => ?_)
  · refine Fr.ite (fun _ => ?_) (fun _ => ?_)
    · exact FRX12_qGoesOn_J161 _ _ p112_93 p112_95 p177 p178 hm_m
    · exact FRX12_qGoesOn_J161 _ _ p112_93 p112_95 p177 p178 hm_m
  · exact Fr.none
set_option maxRecDepth 100000 in
set_option maxHeartbeats 4000000 in
theorem FRX12_qGoesOn_J279 {P : Nat → Nat → Prop} {m0 : ev_M} (f : Nat) (kt247 : ev_M → Option (Int32 × ev_M)) {m : ev_M} (p112_93 : ¬ P 112 93) (p112_95 : ¬ P 112 95) (p177 : ∀ k, ¬ P 177 k) (hkt247 : ∀  (xm : ev_M), frP P m0 xm → Fr (frP P m0) (kt247 xm)) (hm_m : frP P m0 m) : Fr (frP P m0) (FX12_qGoesOn_J279 f kt247 m) := by
  unfold FX12_qGoesOn_J279
  refine Fr.bd (FRX12_qDrops _ p112_93 p112_95 p177 hm_m) (fun _ m32 hm_m32 => ?_)
  exact hkt247 _ hm_m32
set_option maxRecDepth 100000 in
set_option maxHeartbeats 4000000 in
theorem FRX12_qGoesOn_L247 {P : Nat → Nat → Prop} {m0 : ev_M} (f : Nat) (k : ev_M → Option (Int32 × ev_M)) (p112_93 : ¬ P 112 93) (p112_95 : ¬ P 112 95) (p177 : ∀ k, ¬ P 177 k) (hk : ∀  (xm : ev_M), frP P m0 xm → Fr (frP P m0) (k xm)) : ∀ (n : Nat)  (m : ev_M), frP P m0 m → Fr (frP P m0) (FX12_qGoesOn_L247 f k n m) := by
  intro n
  induction n with
  | zero => intros; exact Fr.none
  | succ n ih =>
    intro m hm_m
    rw [FX12_qGoesOn_L247]
    refine Fr.bd (FRX12_qIsOn _ _ hm_m) (fun r29 m30 hm_m30 => ?_)
    refine Fr.ite (fun _ => ?_) (fun _ => ?_)
    · refine Fr.bd (FRX12_qIsOn _ _ hm_m30) (fun r33 m34 hm_m34 => ?_)
      refine Fr.ite (fun _ => ?_) (fun _ => ?_)
      · refine Fr.bd (FRX12_qIsOn _ _ hm_m34) (fun r35 m36 hm_m36 => ?_)
        refine Fr.ite (fun _ => ?_) (fun _ => ?_)
        · refine Fr.bd (FRX12_qIsOn _ _ hm_m36) (fun r37 m38 hm_m38 => ?_)
          refine Fr.ite (fun _ => ?_) (fun _ => ?_)
          · exact hk _ hm_m38
          · exact FRX12_qGoesOn_J279 _ _ p112_93 p112_95 p177 ih hm_m38
        · exact FRX12_qGoesOn_J279 _ _ p112_93 p112_95 p177 ih hm_m36
      · exact FRX12_qGoesOn_J279 _ _ p112_93 p112_95 p177 ih hm_m34
    · exact FRX12_qGoesOn_J279 _ _ p112_93 p112_95 p177 ih hm_m30
set_option maxRecDepth 100000 in
set_option maxHeartbeats 4000000 in
theorem FRX12_qGoesOn_J246 {P : Nat → Nat → Prop} {m0 : ev_M} (f : Nat) (s0 : Int32) {m : ev_M} (p112_93 : ¬ P 112 93) (p112_95 : ¬ P 112 95) (p177 : ∀ k, ¬ P 177 k) (p178 : ∀ k, ¬ P 178 k)  (hm_m : frP P m0 m) : Fr (frP P m0) (FX12_qGoesOn_J246 f s0 m) := by
  unfold FX12_qGoesOn_J246
  exact FRX12_qGoesOn_L247 _ _ p112_93 p112_95 p177 ((by
  intro m39 hm_m39
  refine Fr.ite (fun _ => ?_) (fun _ => ?_)
  · exact Fr.ok (frP_I p112_95 (frP_I (p178 _) hm_m39))
  · exact Fr.none)) _ _ hm_m
set_option maxRecDepth 100000 in
set_option maxHeartbeats 4000000 in
theorem FRX12_qGoesOn_J225 {P : Nat → Nat → Prop} {m0 : ev_M} (f : Nat) {m : ev_M} (p112_93 : ¬ P 112 93) (p112_95 : ¬ P 112 95) (p177 : ∀ k, ¬ P 177 k) (p178 : ∀ k, ¬ P 178 k)  (hm_m : frP P m0 m) : Fr (frP P m0) (FX12_qGoesOn_J225 f m) := by
  unfold FX12_qGoesOn_J225
  refine Fr.ite (fun _ => ?_) (fun _ => ?_)
  · refine Fr.ite (fun _ => ?_) (fun _ => ?_)
    · exact FRX12_qGoesOn_J246 _ _ p112_93 p112_95 p177 p178 hm_m
    · exact FRX12_qGoesOn_J246 _ _ p112_93 p112_95 p177 p178 hm_m
  · exact Fr.none
set_option maxRecDepth 100000 in
set_option maxHeartbeats 4000000 in
theorem FRX12_qGoesOn_J326 {P : Nat → Nat → Prop} {m0 : ev_M} (f : Nat) {m : ev_M} (p112_2 : ¬ P 112 2) (p112_5 : ¬ P 112 5) (p112_6 : ¬ P 112 6) (p112_93 : ¬ P 112 93) (p112_95 : ¬ P 112 95) (p177 : ∀ k, ¬ P 177 k) (p178 : ∀ k, ¬ P 178 k)  (hm_m : frP P m0 m) : Fr (frP P m0) (FX12_qGoesOn_J326 f m) := by
  unfold FX12_qGoesOn_J326
  refine Fr.bd (FRX12_asksSign _ _ p112_2 p112_5 p112_6 hm_m) (fun _ m45 hm_m45 => ?_)
  refine Fr.ite (fun _ => ?_) (fun _ => ?_)
  · refine Fr.bd (FRX12_qDropsToBracket _ p112_93 p112_95 p177 hm_m45) (fun _ m47 hm_m47 => ?_)
    refine Fr.ite (fun _ => ?_) (fun _ => ?_)
    · refine Fr.ite (fun _ => ?_) (fun _ => ?_)
      · exact Fr.ok (frP_I (p178 _) hm_m47)
      · exact Fr.none
    · exact Fr.none
  · exact Fr.ok hm_m45
set_option maxRecDepth 100000 in
set_option maxHeartbeats 4000000 in
theorem FRX12_qGoesOn_J122 {P : Nat → Nat → Prop} {m0 : ev_M} (f : Nat) {m : ev_M} (p112_2 : ¬ P 112 2) (p112_5 : ¬ P 112 5) (p112_6 : ¬ P 112 6) (p112_93 : ¬ P 112 93) (p112_95 : ¬ P 112 95) (p177 : ∀ k, ¬ P 177 k) (p178 : ∀ k, ¬ P 178 k)  (hm_m : frP P m0 m) : Fr (frP P m0) (FX12_qGoesOn_J122 f m) := by
  unfold FX12_qGoesOn_J122
  refine Fr.bd (FRX12_takesSign _ _ p112_2 hm_m) (fun r16 m17 hm_m17 => ?_)
  refine Fr.ite (fun _ => ?_) (fun _ => ?_)
  · refine Fr.bd (FRX12_takesSign _ _ p112_2 hm_m17) (fun r25 m26 hm_m26 => ?_)
    refine Fr.ite (fun _ => ?_) (fun _ => ?_)
    · refine Fr.bd (FRX12_takesSign _ _ p112_2 hm_m26) (fun r27 m28 hm_m28 => ?_)
      refine Fr.ite (fun _ => ?_) (fun _ => ?_)
      · refine Fr.bd (FRX12_takesSign _ _ p112_2 hm_m28) (fun r40 m41 hm_m41 => ?_)
        refine Fr.ite (fun _ => ?_) (fun _ => ?_)
        · refine Fr.bd (FRX12_qBracket _ hm_m41) (fun r42 m43 hm_m43 => ?_)
          refine Fr.ite (fun _ => ?_) (fun _ => ?_)
          · exact FRX12_qGoesOn_J326 _ p112_2 p112_5 p112_6 p112_93 p112_95 p177 p178 hm_m43
          · refine Fr.bd (FRX12_qBracket _ hm_m43) (fun r48 m49 hm_m49 => ?_)
            refine Fr.ite (fun _ => ?_) (fun _ => ?_)
            · exact FRX12_qGoesOn_J326 _ p112_2 p112_5 p112_6 p112_93 p112_95 p177 p178 hm_m49
            · refine Fr.bd (FRX12_qBracket _ hm_m49) (fun r50 m51 hm_m51 => ?_)
              refine Fr.ite (fun _ => ?_) (fun _ => ?_)
              · exact Fr.ok hm_m51
              · refine Fr.ite (fun _ => ?_) (fun _ => ?_)
                · refine Fr.bd (FRX12_fail _ _ _ p112_5 p112_6 hm_m51) (fun _ m53 hm_m53 => ?_)
                  exact Fr.ok hm_m53
                · exact Fr.ok hm_m51
        · exact FRX12_qGoesOn_J225 _ p112_93 p112_95 p177 p178 hm_m41
      · exact FRX12_qGoesOn_J225 _ p112_93 p112_95 p177 p178 hm_m28
    · exact FRX12_qGoesOn_J140 _ p112_93 p112_95 p177 p178 hm_m26
  · exact FRX12_qGoesOn_J140 _ p112_93 p112_95 p177 p178 hm_m17
set_option maxRecDepth 100000 in
set_option maxHeartbeats 4000000 in
theorem FRX12_qGoesOn {P : Nat → Nat → Prop} {m0 : ev_M} (f : Nat) {m : ev_M} (p112_2 : ¬ P 112 2) (p112_5 : ¬ P 112 5) (p112_6 : ¬ P 112 6) (p112_93 : ¬ P 112 93) (p112_95 : ¬ P 112 95) (p112_96 : ¬ P 112 96) (p177 : ∀ k, ¬ P 177 k) (p178 : ∀ k, ¬ P 178 k)  (hm_m : frP P m0 m) : Fr (frP P m0) (FX12_qGoesOn f m) := by
  unfold FX12_qGoesOn
  exact FRX12_qGoesOn_L0 _ _ p112_2 p112_93 p112_95 p112_96 p177 ((by
  intro m15 hm_m15
  exact FRX12_qGoesOn_J122 _ p112_2 p112_5 p112_6 p112_93 p112_95 p177 p178 hm_m15)) _ _ hm_m
set_option maxRecDepth 100000 in
set_option maxHeartbeats 4000000 in
theorem FRX12_qSums_J49 {P : Nat → Nat → Prop} {m0 : ev_M} (f : Nat) (kt15 : Int32 → ev_M → Option (Unit × ev_M)) (s0 : Int32) {m : ev_M}  (hkt15 : ∀ (x0 : Int32) (xm : ev_M), frP P m0 xm → Fr (frP P m0) (kt15 x0 xm)) (hm_m : frP P m0 m) : Fr (frP P m0) (FX12_qSums_J49 f kt15 s0 m) := by
  unfold FX12_qSums_J49
  exact hkt15 _ _ hm_m
set_option maxRecDepth 100000 in
set_option maxHeartbeats 4000000 in
theorem FRX12_qSums_J48 {P : Nat → Nat → Prop} {m0 : ev_M} (f : Nat) (kt15 : Int32 → ev_M → Option (Unit × ev_M)) {m : ev_M}  (hkt15 : ∀ (x0 : Int32) (xm : ev_M), frP P m0 xm → Fr (frP P m0) (kt15 x0 xm)) (hm_m : frP P m0 m) : Fr (frP P m0) (FX12_qSums_J48 f kt15 m) := by
  unfold FX12_qSums_J48
  exact FRX12_qSums_J49 _ _ _ hkt15 hm_m
set_option maxRecDepth 100000 in
set_option maxHeartbeats 4000000 in
theorem FRX12_qSums_L15 {P : Nat → Nat → Prop} {m0 : ev_M} (f : Nat) (k : ev_M → Option (Unit × ev_M)) (p112_2 : ¬ P 112 2) (p112_4 : ¬ P 112 4) (p112_5 : ¬ P 112 5) (p112_6 : ¬ P 112 6) (p112_93 : ¬ P 112 93) (p112_95 : ¬ P 112 95) (p112_96 : ¬ P 112 96) (p177 : ∀ k, ¬ P 177 k) (p178 : ∀ k, ¬ P 178 k) (hk : ∀  (xm : ev_M), frP P m0 xm → Fr (frP P m0) (k xm)) : ∀ (n : Nat) (a2 : Int32) (m : ev_M), frP P m0 m → Fr (frP P m0) (FX12_qSums_L15 f k n a2 m) := by
  intro n
  induction n with
  | zero => intros; exact Fr.none
  | succ n ih =>
    intro a2 m hm_m
    rw [FX12_qSums_L15]
    refine Fr.ite (fun _ => ?_) (fun _ => ?_)
    · exact hk _ hm_m
    · refine Fr.ite (fun _ => ?_) (fun _ => ?_)
      · refine Fr.bd (FRX12_qPartTold _ p112_2 p112_4 p112_5 p112_6 p112_93 p112_95 p112_96 p177 p178 hm_m) (fun _ m2 hm_m2 => ?_)
        refine Fr.ite (fun _ => ?_) (fun _ => ?_)
        · refine Fr.bd (FRX12_qGoesOn _ p112_2 p112_5 p112_6 p112_93 p112_95 p112_96 p177 p178 hm_m2) (fun r3 m4 hm_m4 => ?_)
          refine Fr.ite (fun _ => ?_) (fun _ => ?_)
          · exact FRX12_qSums_J48 _ _ ih hm_m4
          · exact FRX12_qSums_J49 _ _ _ ih hm_m4
        · exact FRX12_qSums_J48 _ _ ih hm_m2
      · exact hk _ hm_m
set_option maxRecDepth 100000 in
set_option maxHeartbeats 4000000 in
theorem FRX12_qSums_L53 {P : Nat → Nat → Prop} {m0 : ev_M} (f : Nat) (k : ev_M → Option (Unit × ev_M)) (p112_93 : ¬ P 112 93) (p112_95 : ¬ P 112 95) (p177 : ∀ k, ¬ P 177 k) (hk : ∀  (xm : ev_M), frP P m0 xm → Fr (frP P m0) (k xm)) : ∀ (n : Nat)  (m : ev_M), frP P m0 m → Fr (frP P m0) (FX12_qSums_L53 f k n m) := by
  intro n
  induction n with
  | zero => intros; exact Fr.none
  | succ n ih =>
    intro m hm_m
    rw [FX12_qSums_L53]
    refine Fr.ite (fun _ => ?_) (fun _ => ?_)
    · refine Fr.ite (fun _ => ?_) (fun _ => ?_)
      · exact hk _ hm_m
      · refine Fr.bd (FRX12_qDrops _ p112_93 p112_95 p177 hm_m) (fun _ m7 hm_m7 => ?_)
        exact ih  _ hm_m7
    · exact hk _ hm_m
set_option maxRecDepth 100000 in
set_option maxHeartbeats 4000000 in
theorem FRX12_qSums {P : Nat → Nat → Prop} {m0 : ev_M} (f : Nat) {m : ev_M} (p112_2 : ¬ P 112 2) (p112_4 : ¬ P 112 4) (p112_5 : ¬ P 112 5) (p112_6 : ¬ P 112 6) (p112_93 : ¬ P 112 93) (p112_95 : ¬ P 112 95) (p112_96 : ¬ P 112 96) (p112_97 : ¬ P 112 97) (p177 : ∀ k, ¬ P 177 k) (p178 : ∀ k, ¬ P 178 k)  (hm_m : frP P m0 m) : Fr (frP P m0) (FX12_qSums f m) := by
  unfold FX12_qSums
  exact FRX12_qSums_L15 _ _ p112_2 p112_4 p112_5 p112_6 p112_93 p112_95 p112_96 p177 p178 ((by
  intro m5 hm_m5
  exact FRX12_qSums_L53 _ _ p112_93 p112_95 p177 ((by
  intro m8 hm_m8
  exact Fr.ok (frP_I p112_97 hm_m8))) _ _ hm_m5)) _ _ _ (frP_I p112_97 hm_m)
set_option maxRecDepth 100000 in
set_option maxHeartbeats 4000000 in
theorem FRX12_qFact_J102 {P : Nat → Nat → Prop} {m0 : ev_M} (f : Nat) (s1 : Int32) {m : ev_M} (p112_93 : ¬ P 112 93) (p177 : ∀ k, ¬ P 177 k)  (hm_m : frP P m0 m) : Fr (frP P m0) (FX12_qFact_J102 f s1 m) := by
  unfold FX12_qFact_J102
  refine Fr.bd (FRX12_qCode _ _ p112_93 p177 hm_m) (fun _ m10 hm_m10 => ?_)
  exact Fr.ok hm_m10
set_option maxRecDepth 100000 in
set_option maxHeartbeats 4000000 in
theorem FRX12_qFact_J63 {P : Nat → Nat → Prop} {m0 : ev_M} (f : Nat) (a1 : Int32) {m : ev_M} (p112_2 : ¬ P 112 2) (p112_4 : ¬ P 112 4) (p112_5 : ¬ P 112 5) (p112_6 : ¬ P 112 6) (p112_93 : ¬ P 112 93) (p112_95 : ¬ P 112 95) (p112_96 : ¬ P 112 96) (p112_97 : ¬ P 112 97) (p177 : ∀ k, ¬ P 177 k) (p178 : ∀ k, ¬ P 178 k)  (hm_m : frP P m0 m) : Fr (frP P m0) (FX12_qFact_J63 f a1 m) := by
  unfold FX12_qFact_J63
  refine Fr.bd (FRX12_qSums _ p112_2 p112_4 p112_5 p112_6 p112_93 p112_95 p112_96 p112_97 p177 p178 (frP_I p112_2 hm_m)) (fun _ m8 hm_m8 => ?_)
  refine Fr.ite (fun _ => ?_) (fun _ => ?_)
  · exact FRX12_qFact_J102 _ _ p112_93 p177 hm_m8
  · refine Fr.ite (fun _ => ?_) (fun _ => ?_)
    · exact FRX12_qFact_J102 _ _ p112_93 p177 hm_m8
    · exact FRX12_qFact_J102 _ _ p112_93 p177 hm_m8
set_option maxRecDepth 100000 in
set_option maxHeartbeats 4000000 in
theorem FRX12_qFact {P : Nat → Nat → Prop} {m0 : ev_M} (f : Nat) {m : ev_M} (p112_2 : ¬ P 112 2) (p112_4 : ¬ P 112 4) (p112_5 : ¬ P 112 5) (p112_6 : ¬ P 112 6) (p112_93 : ¬ P 112 93) (p112_95 : ¬ P 112 95) (p112_96 : ¬ P 112 96) (p112_97 : ¬ P 112 97) (p177 : ∀ k, ¬ P 177 k) (p178 : ∀ k, ¬ P 178 k)  (hm_m : frP P m0 m) : Fr (frP P m0) (FX12_qFact f m) := by
  unfold FX12_qFact
  refine Fr.bd (FRX12_takes _ 163 p112_2 p112_4 hm_m) (fun r1 m2 hm_m2 => ?_)
  refine Fr.ite (fun _ => ?_) (fun _ => ?_)
  · refine Fr.bd (FRX12_qSums _ p112_2 p112_4 p112_5 p112_6 p112_93 p112_95 p112_96 p112_97 p177 p178 hm_m2) (fun _ m4 hm_m4 => ?_)
    refine Fr.ite (fun _ => ?_) (fun _ => ?_)
    · refine Fr.bd (FRX12_look _ p112_2 hm_m4) (fun r5 m6 hm_m6 => ?_)
      refine Fr.ite (fun _ => ?_) (fun _ => ?_)
      · exact FRX12_qFact_J63 _ _ p112_2 p112_4 p112_5 p112_6 p112_93 p112_95 p112_96 p112_97 p177 p178 hm_m6
      · refine Fr.ite (fun _ => ?_) (fun _ => ?_)
        · exact FRX12_qFact_J63 _ _ p112_2 p112_4 p112_5 p112_6 p112_93 p112_95 p112_96 p112_97 p177 p178 hm_m6
        · refine Fr.ite (fun _ => ?_) (fun _ => ?_)
          · exact FRX12_qFact_J63 _ _ p112_2 p112_4 p112_5 p112_6 p112_93 p112_95 p112_96 p112_97 p177 p178 hm_m6
          · refine Fr.bd (FRX12_fail _ _ _ p112_5 p112_6 hm_m6) (fun _ m12 hm_m12 => ?_)
            exact Fr.ok hm_m12
    · exact Fr.ok hm_m4
  · refine Fr.bd (FRX12_qCode _ _ p112_93 p177 hm_m2) (fun _ m14 hm_m14 => ?_)
    exact Fr.ok hm_m14
set_option maxRecDepth 100000 in
set_option maxHeartbeats 4000000 in
theorem FRX12_qHasSquare_L2 {P : Nat → Nat → Prop} {m0 : ev_M} (f : Nat) (k : ev_M → Option (Int32 × ev_M))  (hk : ∀  (xm : ev_M), frP P m0 xm → Fr (frP P m0) (k xm)) : ∀ (n : Nat) (a1 : Int32) (m : ev_M), frP P m0 m → Fr (frP P m0) (FX12_qHasSquare_L2 f k n a1 m) := by
  intro n
  induction n with
  | zero => intros; exact Fr.none
  | succ n ih =>
    intro a1 m hm_m
    rw [FX12_qHasSquare_L2]
    refine Fr.ite (fun _ => ?_) (fun _ => ?_)
    · exact hk _ hm_m
    · refine Fr.ite (fun _ => ?_) (fun _ => ?_)
      · refine Fr.ite (fun _ => ?_) (fun _ => ?_)
        · exact Fr.ok hm_m
        · exact ih _ _ hm_m
      · exact Fr.none
set_option maxRecDepth 100000 in
set_option maxHeartbeats 4000000 in
theorem FRX12_qHasSquare {P : Nat → Nat → Prop} {m0 : ev_M} (f : Nat) {m : ev_M}   (hm_m : frP P m0 m) : Fr (frP P m0) (FX12_qHasSquare f m) := by
  unfold FX12_qHasSquare
  exact FRX12_qHasSquare_L2 _ _ ((by
  intro m1 hm_m1
  exact Fr.ok hm_m1)) _ _ _ hm_m
set_option maxRecDepth 100000 in
set_option maxHeartbeats 4000000 in
theorem FRX12_qDropsNots_L0 {P : Nat → Nat → Prop} {m0 : ev_M} (f : Nat) (k : ev_M → Option (Unit × ev_M)) (p112_93 : ¬ P 112 93) (p112_95 : ¬ P 112 95) (p112_96 : ¬ P 112 96) (p177 : ∀ k, ¬ P 177 k) (hk : ∀  (xm : ev_M), frP P m0 xm → Fr (frP P m0) (k xm)) : ∀ (n : Nat)  (m : ev_M), frP P m0 m → Fr (frP P m0) (FX12_qDropsNots_L0 f k n m) := by
  intro n
  induction n with
  | zero => intros; exact Fr.none
  | succ n ih =>
    intro m hm_m
    rw [FX12_qDropsNots_L0]
    refine Fr.ite (fun _ => ?_) (fun _ => ?_)
    · refine Fr.bd (FRX12_qIsOn _ _ hm_m) (fun r1 m2 hm_m2 => ?_)
      refine Fr.ite (fun _ => ?_) (fun _ => ?_)
      · exact hk _ hm_m2
      · refine Fr.bd (FRX12_qDrops _ p112_93 p112_95 p177 (frP_I p112_96 hm_m2)) (fun _ m4 hm_m4 => ?_)
        exact ih  _ hm_m4
    · exact hk _ hm_m
set_option maxRecDepth 100000 in
set_option maxHeartbeats 4000000 in
theorem FRX12_qDropsNots {P : Nat → Nat → Prop} {m0 : ev_M} (f : Nat) {m : ev_M} (p112_93 : ¬ P 112 93) (p112_95 : ¬ P 112 95) (p112_96 : ¬ P 112 96) (p177 : ∀ k, ¬ P 177 k)  (hm_m : frP P m0 m) : Fr (frP P m0) (FX12_qDropsNots f m) := by
  unfold FX12_qDropsNots
  exact FRX12_qDropsNots_L0 _ _ p112_93 p112_95 p112_96 p177 ((by
  intro m5 hm_m5
  exact Fr.ok hm_m5)) _ _ hm_m
set_option maxRecDepth 100000 in
set_option maxHeartbeats 4000000 in
theorem FRX12_qGoesOnTest_L33 {P : Nat → Nat → Prop} {m0 : ev_M} (f : Nat) (k : ev_M → Option (Int32 × ev_M)) (p112_93 : ¬ P 112 93) (p112_95 : ¬ P 112 95) (p177 : ∀ k, ¬ P 177 k) (hk : ∀  (xm : ev_M), frP P m0 xm → Fr (frP P m0) (k xm)) : ∀ (n : Nat)  (m : ev_M), frP P m0 m → Fr (frP P m0) (FX12_qGoesOnTest_L33 f k n m) := by
  intro n
  induction n with
  | zero => intros; exact Fr.none
  | succ n ih =>
    intro m hm_m
    rw [FX12_qGoesOnTest_L33]
    refine Fr.bd (FRX12_qIsOn _ _ hm_m) (fun r5 m6 hm_m6 => ?_)
    refine Fr.ite (fun _ => ?_) (fun _ => ?_)
    · refine Fr.bd (FRX12_qDrops _ p112_93 p112_95 p177 hm_m6) (fun _ m8 hm_m8 => ?_)
      exact ih  _ hm_m8
    · exact hk _ hm_m6
set_option maxRecDepth 100000 in
set_option maxHeartbeats 4000000 in
theorem FRX12_qGoesOnTest_L0 {P : Nat → Nat → Prop} {m0 : ev_M} (f : Nat) (k : ev_M → Option (Int32 × ev_M)) (p112_2 : ¬ P 112 2) (p112_93 : ¬ P 112 93) (p112_95 : ¬ P 112 95) (p112_96 : ¬ P 112 96) (p177 : ∀ k, ¬ P 177 k) (hk : ∀  (xm : ev_M), frP P m0 xm → Fr (frP P m0) (k xm)) : ∀ (n : Nat)  (m : ev_M), frP P m0 m → Fr (frP P m0) (FX12_qGoesOnTest_L0 f k n m) := by
  intro n
  induction n with
  | zero => intros; exact Fr.none
  | succ n ih =>
    intro m hm_m
    rw [FX12_qGoesOnTest_L0]
    refine Fr.ite (fun _ => ?_) (fun _ => ?_)
    · refine Fr.bd (FRX12_look _ p112_2 hm_m) (fun r1 m2 hm_m2 => ?_)
      refine Fr.ite (fun _ => ?_) (fun _ => ?_)
      · refine Fr.bd (FRX12_qHasSquare _ hm_m2) (fun r3 m4 hm_m4 => ?_)
        refine Fr.ite (fun _ => ?_) (fun _ => ?_)
        · exact hk _ hm_m4
        · exact FRX12_qGoesOnTest_L33 _ _ p112_93 p112_95 p177 ((by
  intro m9 hm_m9
  refine Fr.bd (FRX12_qDropsNots _ p112_93 p112_95 p112_96 p177 (frP_I p112_96 (frP_I p112_95 hm_m9))) (fun _ m11 hm_m11 => ?_)
  exact ih  _ hm_m11)) _ _ (frP_I p112_2 hm_m4)
      · exact hk _ hm_m2
    · exact hk _ hm_m
set_option maxRecDepth 100000 in
set_option maxHeartbeats 4000000 in
theorem FRX12_qGoesOnTest_J155 {P : Nat → Nat → Prop} {m0 : ev_M} (f : Nat) (kt137 : ev_M → Option (Int32 × ev_M)) {m : ev_M} (p112_93 : ¬ P 112 93) (p112_95 : ¬ P 112 95) (p177 : ∀ k, ¬ P 177 k) (hkt137 : ∀  (xm : ev_M), frP P m0 xm → Fr (frP P m0) (kt137 xm)) (hm_m : frP P m0 m) : Fr (frP P m0) (FX12_qGoesOnTest_J155 f kt137 m) := by
  unfold FX12_qGoesOnTest_J155
  refine Fr.bd (FRX12_qDrops _ p112_93 p112_95 p177 hm_m) (fun _ m24 hm_m24 => ?_)
  exact hkt137 _ hm_m24
set_option maxRecDepth 100000 in
set_option maxHeartbeats 4000000 in
theorem FRX12_qGoesOnTest_L137 {P : Nat → Nat → Prop} {m0 : ev_M} (f : Nat) (k : ev_M → Option (Int32 × ev_M)) (p112_93 : ¬ P 112 93) (p112_95 : ¬ P 112 95) (p177 : ∀ k, ¬ P 177 k) (hk : ∀  (xm : ev_M), frP P m0 xm → Fr (frP P m0) (k xm)) : ∀ (n : Nat)  (m : ev_M), frP P m0 m → Fr (frP P m0) (FX12_qGoesOnTest_L137 f k n m) := by
  intro n
  induction n with
  | zero => intros; exact Fr.none
  | succ n ih =>
    intro m hm_m
    rw [FX12_qGoesOnTest_L137]
    refine Fr.bd (FRX12_qIsOn _ _ hm_m) (fun r21 m22 hm_m22 => ?_)
    refine Fr.ite (fun _ => ?_) (fun _ => ?_)
    · refine Fr.bd (FRX12_qIsOn _ _ hm_m22) (fun r25 m26 hm_m26 => ?_)
      refine Fr.ite (fun _ => ?_) (fun _ => ?_)
      · exact hk _ hm_m26
      · exact FRX12_qGoesOnTest_J155 _ _ p112_93 p112_95 p177 ih hm_m26
    · exact FRX12_qGoesOnTest_J155 _ _ p112_93 p112_95 p177 ih hm_m22
set_option maxRecDepth 100000 in
set_option maxHeartbeats 4000000 in
theorem FRX12_qGoesOnTest_L87 {P : Nat → Nat → Prop} {m0 : ev_M} (f : Nat) (k : ev_M → Option (Int32 × ev_M)) (p112_93 : ¬ P 112 93) (p112_95 : ¬ P 112 95) (p177 : ∀ k, ¬ P 177 k) (hk : ∀  (xm : ev_M), frP P m0 xm → Fr (frP P m0) (k xm)) : ∀ (n : Nat)  (m : ev_M), frP P m0 m → Fr (frP P m0) (FX12_qGoesOnTest_L87 f k n m) := by
  intro n
  induction n with
  | zero => intros; exact Fr.none
  | succ n ih =>
    intro m hm_m
    rw [FX12_qGoesOnTest_L87]
    refine Fr.bd (FRX12_qIsOn _ _ hm_m) (fun r28 m29 hm_m29 => ?_)
    refine Fr.ite (fun _ => ?_) (fun _ => ?_)
    · exact hk _ hm_m29
    · refine Fr.bd (FRX12_qDrops _ p112_93 p112_95 p177 hm_m29) (fun _ m31 hm_m31 => ?_)
      exact ih  _ hm_m31
set_option maxRecDepth 100000 in
set_option maxHeartbeats 4000000 in
theorem FRX12_qGoesOnTest_J76 {P : Nat → Nat → Prop} {m0 : ev_M} (f : Nat) {m : ev_M} (p112_2 : ¬ P 112 2) (p112_4 : ¬ P 112 4) (p112_5 : ¬ P 112 5) (p112_6 : ¬ P 112 6) (p112_93 : ¬ P 112 93) (p112_95 : ¬ P 112 95) (p177 : ∀ k, ¬ P 177 k) (p178 : ∀ k, ¬ P 178 k)  (hm_m : frP P m0 m) : Fr (frP P m0) (FX12_qGoesOnTest_J76 f m) := by
  unfold FX12_qGoesOnTest_J76
  refine Fr.bd (FRX12_takes _ 161 p112_2 p112_4 hm_m) (fun r13 m14 hm_m14 => ?_)
  refine Fr.ite (fun _ => ?_) (fun _ => ?_)
  · refine Fr.bd (FRX12_takes _ 162 p112_2 p112_4 hm_m14) (fun r15 m16 hm_m16 => ?_)
    refine Fr.ite (fun _ => ?_) (fun _ => ?_)
    · refine Fr.ite (fun _ => ?_) (fun _ => ?_)
      · refine Fr.bd (FRX12_qHasSquare _ hm_m16) (fun r17 m18 hm_m18 => ?_)
        refine Fr.ite (fun _ => ?_) (fun _ => ?_)
        · exact Fr.ok hm_m18
        · refine Fr.bd (FRX12_fail _ _ _ p112_5 p112_6 hm_m18) (fun _ m20 hm_m20 => ?_)
          exact Fr.ok hm_m20
      · exact Fr.ok hm_m16
    · exact FRX12_qGoesOnTest_L137 _ _ p112_93 p112_95 p177 ((by
  intro m27 hm_m27
  refine Fr.ite (fun _ => ?_) (fun _ => ?_)
  · exact Fr.ok (frP_I p112_95 (frP_I (p178 _) hm_m27))
  · exact Fr.none)) _ _ hm_m16
  · exact FRX12_qGoesOnTest_L87 _ _ p112_93 p112_95 p177 ((by
  intro m32 hm_m32
  refine Fr.ite (fun _ => ?_) (fun _ => ?_)
  · exact Fr.ok (frP_I p112_95 (frP_I (p178 _) hm_m32))
  · exact Fr.none)) _ _ hm_m14
set_option maxRecDepth 100000 in
set_option maxHeartbeats 4000000 in
theorem FRX12_qGoesOnTest {P : Nat → Nat → Prop} {m0 : ev_M} (f : Nat) {m : ev_M} (p112_2 : ¬ P 112 2) (p112_4 : ¬ P 112 4) (p112_5 : ¬ P 112 5) (p112_6 : ¬ P 112 6) (p112_93 : ¬ P 112 93) (p112_95 : ¬ P 112 95) (p112_96 : ¬ P 112 96) (p177 : ∀ k, ¬ P 177 k) (p178 : ∀ k, ¬ P 178 k)  (hm_m : frP P m0 m) : Fr (frP P m0) (FX12_qGoesOnTest f m) := by
  unfold FX12_qGoesOnTest
  exact FRX12_qGoesOnTest_L0 _ _ p112_2 p112_93 p112_95 p112_96 p177 ((by
  intro m12 hm_m12
  exact FRX12_qGoesOnTest_J76 _ p112_2 p112_4 p112_5 p112_6 p112_93 p112_95 p177 p178 hm_m12)) _ _ hm_m
set_option maxRecDepth 100000 in
set_option maxHeartbeats 4000000 in
theorem FRX12_qClip {P : Nat → Nat → Prop} {m0 : ev_M} (f : Nat) (a0 : Int64) {m : ev_M}   (hm_m : frP P m0 m) : Fr (frP P m0) (FX12_qClip f a0 m) := by
  unfold FX12_qClip
  refine Fr.ite (fun _ => ?_) (fun _ => ?_)
  · refine Fr.ite (fun _ => ?_) (fun _ => ?_)
    · exact Fr.ok hm_m
    · exact Fr.ok hm_m
  · exact Fr.ok hm_m
set_option maxRecDepth 100000 in
set_option maxHeartbeats 4000000 in
theorem FRX12_qFloor_J32 {P : Nat → Nat → Prop} {m0 : ev_M} (f : Nat) (a2 : Int64) (a4 : Int64) (s0 : Int32) {m : ev_M}   (hm_m : frP P m0 m) : Fr (frP P m0) (FX12_qFloor_J32 f a2 a4 s0 m) := by
  unfold FX12_qFloor_J32
  refine Fr.ite (fun _ => ?_) (fun _ => ?_)
  · refine Fr.ite (fun _ => ?_) (fun _ => ?_)
    · exact Fr.ok hm_m
    · exact Fr.ok hm_m
  · refine Fr.ite (fun _ => ?_) (fun _ => ?_)
    · exact Fr.ok hm_m
    · exact Fr.ok hm_m
set_option maxRecDepth 100000 in
set_option maxHeartbeats 4000000 in
theorem FRX12_qFloor {P : Nat → Nat → Prop} {m0 : ev_M} (f : Nat) (a0 : Int64) (a2 : Int64) {m : ev_M}   (hm_m : frP P m0 m) : Fr (frP P m0) (FX12_qFloor f a0 a2 m) := by
  unfold FX12_qFloor
  refine Fr.ite (fun _ => ?_) (fun _ => ?_)
  · exact Fr.ok hm_m
  · refine Fr.ite (fun _ => ?_) (fun _ => ?_)
    · exact Fr.none
    · refine Fr.ite (fun _ => ?_) (fun _ => ?_)
      · exact Fr.none
      · refine Fr.ite (fun _ => ?_) (fun _ => ?_)
        · exact Fr.ok hm_m
        · refine Fr.ite (fun _ => ?_) (fun _ => ?_)
          · exact FRX12_qFloor_J32 _ _ _ _ hm_m
          · exact FRX12_qFloor_J32 _ _ _ _ hm_m
set_option maxRecDepth 100000 in
set_option maxHeartbeats 4000000 in
theorem FRX12_qPuts {P : Nat → Nat → Prop} {m0 : ev_M} (f : Nat) (a1 : Int64) {m : ev_M} (p112_99 : ¬ P 112 99) (p179 : ∀ k, ¬ P 179 k)  (hm_m : frP P m0 m) : Fr (frP P m0) (FX12_qPuts f a1 m) := by
  unfold FX12_qPuts
  refine Fr.ite (fun _ => ?_) (fun _ => ?_)
  · exact Fr.ok (frP_L (p179 _) (frP_I p112_99 hm_m))
  · exact Fr.none
set_option maxRecDepth 100000 in
set_option maxHeartbeats 4000000 in
theorem FRX12_qJoins_J161 {P : Nat → Nat → Prop} {m0 : ev_M} (f : Nat) (s1 : Int64) {m : ev_M} (p112_99 : ¬ P 112 99) (p179 : ∀ k, ¬ P 179 k)  (hm_m : frP P m0 m) : Fr (frP P m0) (FX12_qJoins_J161 f s1 m) := by
  unfold FX12_qJoins_J161
  refine Fr.bd (FRX12_qPuts _ _ p112_99 p179 hm_m) (fun _ m22 hm_m22 => ?_)
  exact Fr.ok hm_m22
set_option maxRecDepth 100000 in
set_option maxHeartbeats 4000000 in
theorem FRX12_qJoins_J181 {P : Nat → Nat → Prop} {m0 : ev_M} (f : Nat) (s1 : Int64) {m : ev_M} (p112_99 : ¬ P 112 99) (p179 : ∀ k, ¬ P 179 k)  (hm_m : frP P m0 m) : Fr (frP P m0) (FX12_qJoins_J181 f s1 m) := by
  unfold FX12_qJoins_J181
  refine Fr.bd (FRX12_qPuts _ _ p112_99 p179 hm_m) (fun _ m25 hm_m25 => ?_)
  exact Fr.ok hm_m25
set_option maxRecDepth 100000 in
set_option maxHeartbeats 4000000 in
theorem FRX12_qJoins_J200 {P : Nat → Nat → Prop} {m0 : ev_M} (f : Nat) (s1 : Int64) {m : ev_M} (p112_99 : ¬ P 112 99) (p179 : ∀ k, ¬ P 179 k)  (hm_m : frP P m0 m) : Fr (frP P m0) (FX12_qJoins_J200 f s1 m) := by
  unfold FX12_qJoins_J200
  refine Fr.bd (FRX12_qPuts _ _ p112_99 p179 hm_m) (fun _ m28 hm_m28 => ?_)
  exact Fr.ok hm_m28
set_option maxRecDepth 100000 in
set_option maxHeartbeats 4000000 in
theorem FRX12_qJoins_J219 {P : Nat → Nat → Prop} {m0 : ev_M} (f : Nat) (s1 : Int64) {m : ev_M} (p112_99 : ¬ P 112 99) (p179 : ∀ k, ¬ P 179 k)  (hm_m : frP P m0 m) : Fr (frP P m0) (FX12_qJoins_J219 f s1 m) := by
  unfold FX12_qJoins_J219
  refine Fr.bd (FRX12_qPuts _ _ p112_99 p179 hm_m) (fun _ m31 hm_m31 => ?_)
  exact Fr.ok hm_m31
set_option maxRecDepth 100000 in
set_option maxHeartbeats 4000000 in
theorem FRX12_qJoins_J238 {P : Nat → Nat → Prop} {m0 : ev_M} (f : Nat) (s1 : Int64) {m : ev_M} (p112_99 : ¬ P 112 99) (p179 : ∀ k, ¬ P 179 k)  (hm_m : frP P m0 m) : Fr (frP P m0) (FX12_qJoins_J238 f s1 m) := by
  unfold FX12_qJoins_J238
  refine Fr.bd (FRX12_qPuts _ _ p112_99 p179 hm_m) (fun _ m34 hm_m34 => ?_)
  exact Fr.ok hm_m34
set_option maxRecDepth 100000 in
set_option maxHeartbeats 4000000 in
theorem FRX12_qJoins_J270 {P : Nat → Nat → Prop} {m0 : ev_M} (f : Nat) (s1 : Int64) {m : ev_M} (p112_99 : ¬ P 112 99) (p179 : ∀ k, ¬ P 179 k)  (hm_m : frP P m0 m) : Fr (frP P m0) (FX12_qJoins_J270 f s1 m) := by
  unfold FX12_qJoins_J270
  refine Fr.bd (FRX12_qPuts _ _ p112_99 p179 hm_m) (fun _ m40 hm_m40 => ?_)
  exact Fr.ok hm_m40
set_option maxRecDepth 100000 in
set_option maxHeartbeats 4000000 in
theorem FRX12_qJoins {P : Nat → Nat → Prop} {m0 : ev_M} (f : Nat) (a1 : Int32) {m : ev_M} (p112_99 : ¬ P 112 99) (p179 : ∀ k, ¬ P 179 k)  (hm_m : frP P m0 m) : Fr (frP P m0) (FX12_qJoins f a1 m) := by
  unfold FX12_qJoins
  refine Fr.ite (fun _ => ?_) (fun _ => ?_)
  · refine Fr.ite (fun _ => ?_) (fun _ => ?_)
    · refine Fr.ite (fun _ => ?_) (fun _ => ?_)
      · refine Fr.bd (FRX12_qClip _ _ (frP_I p112_99 hm_m)) (fun r1 m2 hm_m2 => ?_)
        refine Fr.bd (FRX12_qPuts _ _ p112_99 p179 hm_m2) (fun _ m4 hm_m4 => ?_)
        exact Fr.ok hm_m4
      · refine Fr.ite (fun _ => ?_) (fun _ => ?_)
        · refine Fr.bd (FRX12_qClip _ _ (frP_I p112_99 hm_m)) (fun r6 m7 hm_m7 => ?_)
          refine Fr.bd (FRX12_qPuts _ _ p112_99 p179 hm_m7) (fun _ m9 hm_m9 => ?_)
          exact Fr.ok hm_m9
        · refine Fr.ite (fun _ => ?_) (fun _ => ?_)
          · refine Fr.bd (FRX12_qClip _ _ (frP_I p112_99 hm_m)) (fun r11 m12 hm_m12 => ?_)
            refine Fr.bd (FRX12_qPuts _ _ p112_99 p179 hm_m12) (fun _ m14 hm_m14 => ?_)
            exact Fr.ok hm_m14
          · refine Fr.ite (fun _ => ?_) (fun _ => ?_)
            · refine Fr.bd (FRX12_qFloor _ _ _ (frP_I p112_99 hm_m)) (fun r16 m17 hm_m17 => ?_)
              refine Fr.bd (FRX12_qPuts _ _ p112_99 p179 hm_m17) (fun _ m19 hm_m19 => ?_)
              exact Fr.ok hm_m19
            · refine Fr.ite (fun _ => ?_) (fun _ => ?_)
              · refine Fr.ite (fun _ => ?_) (fun _ => ?_)
                · exact FRX12_qJoins_J161 _ _ p112_99 p179 (frP_I p112_99 hm_m)
                · exact FRX12_qJoins_J161 _ _ p112_99 p179 (frP_I p112_99 hm_m)
              · refine Fr.ite (fun _ => ?_) (fun _ => ?_)
                · refine Fr.ite (fun _ => ?_) (fun _ => ?_)
                  · exact FRX12_qJoins_J181 _ _ p112_99 p179 (frP_I p112_99 hm_m)
                  · exact FRX12_qJoins_J181 _ _ p112_99 p179 (frP_I p112_99 hm_m)
                · refine Fr.ite (fun _ => ?_) (fun _ => ?_)
                  · refine Fr.ite (fun _ => ?_) (fun _ => ?_)
                    · exact FRX12_qJoins_J200 _ _ p112_99 p179 (frP_I p112_99 hm_m)
                    · exact FRX12_qJoins_J200 _ _ p112_99 p179 (frP_I p112_99 hm_m)
                  · refine Fr.ite (fun _ => ?_) (fun _ => ?_)
                    · refine Fr.ite (fun _ => ?_) (fun _ => ?_)
                      · exact FRX12_qJoins_J219 _ _ p112_99 p179 (frP_I p112_99 hm_m)
                      · exact FRX12_qJoins_J219 _ _ p112_99 p179 (frP_I p112_99 hm_m)
                    · refine Fr.ite (fun _ => ?_) (fun _ => ?_)
                      · refine Fr.ite (fun _ => ?_) (fun _ => ?_)
                        · exact FRX12_qJoins_J238 _ _ p112_99 p179 (frP_I p112_99 hm_m)
                        · exact FRX12_qJoins_J238 _ _ p112_99 p179 (frP_I p112_99 hm_m)
                      · refine Fr.ite (fun _ => ?_) (fun _ => ?_)
                        · refine Fr.bd (FRX12_qPuts _ _ p112_99 p179 (frP_I p112_99 hm_m)) (fun _ m37 hm_m37 => ?_)
                          exact Fr.ok hm_m37
                        · refine Fr.ite (fun _ => ?_) (fun _ => ?_)
                          · exact FRX12_qJoins_J270 _ _ p112_99 p179 (frP_I p112_99 hm_m)
                          · exact FRX12_qJoins_J270 _ _ p112_99 p179 (frP_I p112_99 hm_m)
    · exact Fr.none
  · exact Fr.none
set_option maxRecDepth 100000 in
set_option maxHeartbeats 4000000 in
theorem FRX12_qPartOf {P : Nat → Nat → Prop} {m0 : ev_M} (f : Nat) (a1 : Int32) (a2 : Int32) {m : ev_M}   (hm_m : frP P m0 m) : Fr (frP P m0) (FX12_qPartOf f a1 a2 m) := by
  unfold FX12_qPartOf
  refine Fr.ite (fun _ => ?_) (fun _ => ?_)
  · exact Fr.ok hm_m
  · refine Fr.ite (fun _ => ?_) (fun _ => ?_)
    · refine Fr.bd (FRX12_moodOf _ _ hm_m) (fun r2 m3 hm_m3 => ?_)
      exact Fr.ok hm_m3
    · refine Fr.ite (fun _ => ?_) (fun _ => ?_)
      · refine Fr.bd (FRX12_cheerOf _ _ hm_m) (fun r5 m6 hm_m6 => ?_)
        exact Fr.ok hm_m6
      · refine Fr.ite (fun _ => ?_) (fun _ => ?_)
        · exact Fr.ok hm_m
        · refine Fr.ite (fun _ => ?_) (fun _ => ?_)
          · exact Fr.ok hm_m
          · refine Fr.ite (fun _ => ?_) (fun _ => ?_)
            · exact Fr.ok hm_m
            · refine Fr.ite (fun _ => ?_) (fun _ => ?_)
              · refine Fr.ite (fun _ => ?_) (fun _ => ?_)
                · refine Fr.bd (FRX12_toneIn _ _ _ hm_m) (fun r11 m12 hm_m12 => ?_)
                  exact Fr.ok hm_m12
                · exact Fr.ok hm_m
              · refine Fr.ite (fun _ => ?_) (fun _ => ?_)
                · exact Fr.ok hm_m
                · refine Fr.ite (fun _ => ?_) (fun _ => ?_)
                  · refine Fr.ite (fun _ => ?_) (fun _ => ?_)
                    · exact Fr.ok hm_m
                    · refine Fr.ite (fun _ => ?_) (fun _ => ?_)
                      · exact Fr.ok hm_m
                      · exact Fr.none
                  · refine Fr.bd (FRX12_isYes _ _ hm_m) (fun r16 m17 hm_m17 => ?_)
                    refine Fr.ite (fun _ => ?_) (fun _ => ?_)
                    · exact Fr.ok hm_m17
                    · exact Fr.ok hm_m17
set_option maxRecDepth 100000 in
set_option maxHeartbeats 4000000 in
theorem FRX12_qOf {P : Nat → Nat → Prop} {m0 : ev_M} (f : Nat) (a1 : Int32) (a2 : Int64) (a4 : Int32) {m : ev_M}   (hm_m : frP P m0 m) : Fr (frP P m0) (FX12_qOf f a1 a2 a4 m) := by
  unfold FX12_qOf
  refine Fr.bd (FRX12_isIn _ _ _ _ hm_m) (fun r1 m2 hm_m2 => ?_)
  refine Fr.ite (fun _ => ?_) (fun _ => ?_)
  · exact Fr.ok hm_m2
  · refine Fr.bd (FRX12_toneIn _ _ _ hm_m2) (fun r3 m4 hm_m4 => ?_)
    exact Fr.ok hm_m4
set_option maxRecDepth 100000 in
set_option maxHeartbeats 4000000 in
theorem FRX12_qTold_J162 {P : Nat → Nat → Prop} {m0 : ev_M} (f : Nat) (kt7 : Int32 → ev_M → Option (Int64 × ev_M)) (a2 : Int32) {m : ev_M}  (hkt7 : ∀ (x0 : Int32) (xm : ev_M), frP P m0 xm → Fr (frP P m0) (kt7 x0 xm)) (hm_m : frP P m0 m) : Fr (frP P m0) (FX12_qTold_J162 f kt7 a2 m) := by
  unfold FX12_qTold_J162
  exact hkt7 _ _ hm_m
set_option maxRecDepth 100000 in
set_option maxHeartbeats 4000000 in
theorem FRX12_qTold_L7 {P : Nat → Nat → Prop} {m0 : ev_M} (f : Nat) (k : ev_M → Option (Int64 × ev_M)) (a1 : Int32) (p112_99 : ¬ P 112 99) (p179 : ∀ k, ¬ P 179 k) (hk : ∀  (xm : ev_M), frP P m0 xm → Fr (frP P m0) (k xm)) : ∀ (n : Nat) (a2 : Int32) (m : ev_M), frP P m0 m → Fr (frP P m0) (FX12_qTold_L7 f k a1 n a2 m) := by
  intro n
  induction n with
  | zero => intros; exact Fr.none
  | succ n ih =>
    intro a2 m hm_m
    rw [FX12_qTold_L7]
    refine Fr.ite (fun _ => ?_) (fun _ => ?_)
    · exact hk _ hm_m
    · refine Fr.ite (fun _ => ?_) (fun _ => ?_)
      · refine Fr.ite (fun _ => ?_) (fun _ => ?_)
        · refine Fr.ite (fun _ => ?_) (fun _ => ?_)
          · refine Fr.ite (fun _ => ?_) (fun _ => ?_)
            · refine Fr.ite (fun _ => ?_) (fun _ => ?_)
              · refine Fr.bd (FRX12_qPuts _ _ p112_99 p179 hm_m) (fun _ m4 hm_m4 => ?_)
                exact FRX12_qTold_J162 _ _ _ ih hm_m4
              · refine Fr.ite (fun _ => ?_) (fun _ => ?_)
                · refine Fr.ite (fun _ => ?_) (fun _ => ?_)
                  · refine Fr.ite (fun _ => ?_) (fun _ => ?_)
                    · exact FRX12_qTold_J162 _ _ _ ih (frP_L (p179 _) hm_m)
                    · exact Fr.none
                  · exact Fr.none
                · refine Fr.bd (FRX12_qJoins _ _ p112_99 p179 hm_m) (fun _ m2 hm_m2 => ?_)
                  exact FRX12_qTold_J162 _ _ _ ih hm_m2
            · refine Fr.bd (FRX12_qPartOf _ _ _ hm_m) (fun r5 m6 hm_m6 => ?_)
              refine Fr.bd (FRX12_qClip _ _ hm_m6) (fun r7 m8 hm_m8 => ?_)
              refine Fr.bd (FRX12_qPuts _ _ p112_99 p179 hm_m8) (fun _ m10 hm_m10 => ?_)
              exact FRX12_qTold_J162 _ _ _ ih hm_m10
          · refine Fr.ite (fun _ => ?_) (fun _ => ?_)
            · refine Fr.bd (FRX12_qOf _ _ _ _ hm_m) (fun r11 m12 hm_m12 => ?_)
              refine Fr.bd (FRX12_qClip _ _ hm_m12) (fun r13 m14 hm_m14 => ?_)
              refine Fr.ite (fun _ => ?_) (fun _ => ?_)
              · exact FRX12_qTold_J162 _ _ _ ih (frP_L (p179 _) hm_m14)
              · exact Fr.none
            · exact Fr.none
        · refine Fr.bd (FRX12_qPuts _ _ p112_99 p179 hm_m) (fun _ m16 hm_m16 => ?_)
          exact FRX12_qTold_J162 _ _ _ ih hm_m16
      · exact Fr.none
set_option maxRecDepth 100000 in
set_option maxHeartbeats 4000000 in
theorem FRX12_qTold {P : Nat → Nat → Prop} {m0 : ev_M} (f : Nat) (a1 : Int32) {m : ev_M} (p112_99 : ¬ P 112 99) (p179 : ∀ k, ¬ P 179 k)  (hm_m : frP P m0 m) : Fr (frP P m0) (FX12_qTold f a1 m) := by
  unfold FX12_qTold
  exact FRX12_qTold_L7 _ _ _ p112_99 p179 ((by
  intro m17 hm_m17
  exact Fr.ok hm_m17)) _ _ _ (frP_I p112_99 hm_m)
set_option maxRecDepth 100000 in
set_option maxHeartbeats 4000000 in
theorem FRX12_qKind_J76 {P : Nat → Nat → Prop} {m0 : ev_M} (f : Nat) (s0 : Int32) {m : ev_M} (p112_2 : ¬ P 112 2) (p112_4 : ¬ P 112 4) (p112_5 : ¬ P 112 5) (p112_6 : ¬ P 112 6)  (hm_m : frP P m0 m) : Fr (frP P m0) (FX12_qKind_J76 f s0 m) := by
  unfold FX12_qKind_J76
  refine Fr.ite (fun _ => ?_) (fun _ => ?_)
  · refine Fr.bd (FRX12_asks _ 159 p112_2 p112_4 p112_5 p112_6 hm_m) (fun _ m12 hm_m12 => ?_)
    exact Fr.ok hm_m12
  · exact Fr.ok hm_m
set_option maxRecDepth 100000 in
set_option maxHeartbeats 4000000 in
theorem FRX12_qKind {P : Nat → Nat → Prop} {m0 : ev_M} (f : Nat) {m : ev_M} (p112_2 : ¬ P 112 2) (p112_4 : ¬ P 112 4) (p112_5 : ¬ P 112 5) (p112_6 : ¬ P 112 6)  (hm_m : frP P m0 m) : Fr (frP P m0) (FX12_qKind f m) := by
  unfold FX12_qKind
  refine Fr.bd (FRX12_takes _ 154 p112_2 p112_4 hm_m) (fun r1 m2 hm_m2 => ?_)
  refine Fr.ite (fun _ => ?_) (fun _ => ?_)
  · refine Fr.bd (FRX12_takes _ 155 p112_2 p112_4 hm_m2) (fun r3 m4 hm_m4 => ?_)
    refine Fr.ite (fun _ => ?_) (fun _ => ?_)
    · refine Fr.bd (FRX12_takes _ 156 p112_2 p112_4 hm_m4) (fun r5 m6 hm_m6 => ?_)
      refine Fr.ite (fun _ => ?_) (fun _ => ?_)
      · refine Fr.bd (FRX12_takes _ 157 p112_2 p112_4 hm_m6) (fun r7 m8 hm_m8 => ?_)
        refine Fr.ite (fun _ => ?_) (fun _ => ?_)
        · refine Fr.bd (FRX12_takes _ 158 p112_2 p112_4 hm_m8) (fun r9 m10 hm_m10 => ?_)
          refine Fr.ite (fun _ => ?_) (fun _ => ?_)
          · exact FRX12_qKind_J76 _ _ p112_2 p112_4 p112_5 p112_6 hm_m10
          · exact FRX12_qKind_J76 _ _ p112_2 p112_4 p112_5 p112_6 hm_m10
        · exact FRX12_qKind_J76 _ _ p112_2 p112_4 p112_5 p112_6 hm_m8
      · exact FRX12_qKind_J76 _ _ p112_2 p112_4 p112_5 p112_6 hm_m6
    · exact FRX12_qKind_J76 _ _ p112_2 p112_4 p112_5 p112_6 hm_m4
  · exact FRX12_qKind_J76 _ _ p112_2 p112_4 p112_5 p112_6 hm_m2
set_option maxRecDepth 100000 in
set_option maxHeartbeats 4000000 in
theorem FRX12_qTakes_J90 {P : Nat → Nat → Prop} {m0 : ev_M} (f : Nat) (a1 : Int32) (a2 : Int64) {m : ev_M} (p112_100 : ¬ P 112 100) (p112_101 : ¬ P 112 101)  (hm_m : frP P m0 m) : Fr (frP P m0) (FX12_qTakes_J90 f a1 a2 m) := by
  unfold FX12_qTakes_J90
  refine Fr.ite (fun _ => ?_) (fun _ => ?_)
  · exact Fr.ok (frP_I p112_101 hm_m)
  · refine Fr.ite (fun _ => ?_) (fun _ => ?_)
    · refine Fr.ite (fun _ => ?_) (fun _ => ?_)
      · refine Fr.ite (fun _ => ?_) (fun _ => ?_)
        · exact Fr.ok (frP_I p112_101 hm_m)
        · exact Fr.ok (frP_L p112_100 (frP_I p112_101 hm_m))
      · refine Fr.ite (fun _ => ?_) (fun _ => ?_)
        · exact Fr.ok (frP_I p112_101 hm_m)
        · exact Fr.ok (frP_L p112_100 (frP_I p112_101 hm_m))
    · exact Fr.ok (frP_L p112_100 (frP_I p112_101 hm_m))
set_option maxRecDepth 100000 in
set_option maxHeartbeats 4000000 in
theorem FRX12_qTakes_J75 {P : Nat → Nat → Prop} {m0 : ev_M} (f : Nat) (a1 : Int32) (a2 : Int64) {m : ev_M} (p112_100 : ¬ P 112 100) (p112_101 : ¬ P 112 101)  (hm_m : frP P m0 m) : Fr (frP P m0) (FX12_qTakes_J75 f a1 a2 m) := by
  unfold FX12_qTakes_J75
  refine Fr.ite (fun _ => ?_) (fun _ => ?_)
  · exact FRX12_qTakes_J90 _ _ _ p112_100 p112_101 (frP_L p112_100 hm_m)
  · exact FRX12_qTakes_J90 _ _ _ p112_100 p112_101 hm_m
set_option maxRecDepth 100000 in
set_option maxHeartbeats 4000000 in
theorem FRX12_qTakes_J55 {P : Nat → Nat → Prop} {m0 : ev_M} (f : Nat) (a1 : Int32) (a2 : Int64) (a5 : Int32) {m : ev_M} (p112_100 : ¬ P 112 100) (p112_101 : ¬ P 112 101)  (hm_m : frP P m0 m) : Fr (frP P m0) (FX12_qTakes_J55 f a1 a2 a5 m) := by
  unfold FX12_qTakes_J55
  refine Fr.ite (fun _ => ?_) (fun _ => ?_)
  · refine Fr.ite (fun _ => ?_) (fun _ => ?_)
    · exact FRX12_qTakes_J75 _ _ _ p112_100 p112_101 hm_m
    · exact FRX12_qTakes_J75 _ _ _ p112_100 p112_101 (frP_L p112_100 hm_m)
  · exact FRX12_qTakes_J75 _ _ _ p112_100 p112_101 hm_m
set_option maxRecDepth 100000 in
set_option maxHeartbeats 4000000 in
theorem FRX12_qTakes_J48 {P : Nat → Nat → Prop} {m0 : ev_M} (f : Nat) (a1 : Int32) (a2 : Int64) (a4 : Int32) (a5 : Int32) {m : ev_M} (p112_100 : ¬ P 112 100) (p112_101 : ¬ P 112 101)  (hm_m : frP P m0 m) : Fr (frP P m0) (FX12_qTakes_J48 f a1 a2 a4 a5 m) := by
  unfold FX12_qTakes_J48
  exact FRX12_qTakes_J55 _ _ _ _ p112_100 p112_101 (frP_L p112_100 hm_m)
set_option maxRecDepth 100000 in
set_option maxHeartbeats 4000000 in
theorem FRX12_qTakes_J38 {P : Nat → Nat → Prop} {m0 : ev_M} (f : Nat) (a1 : Int32) (a2 : Int64) (a4 : Int32) (a5 : Int32) {m : ev_M} (p112_100 : ¬ P 112 100) (p112_101 : ¬ P 112 101)  (hm_m : frP P m0 m) : Fr (frP P m0) (FX12_qTakes_J38 f a1 a2 a4 a5 m) := by
  unfold FX12_qTakes_J38
  refine Fr.ite (fun _ => ?_) (fun _ => ?_)
  · refine Fr.ite (fun _ => ?_) (fun _ => ?_)
    · exact FRX12_qTakes_J55 _ _ _ _ p112_100 p112_101 hm_m
    · exact FRX12_qTakes_J48 _ _ _ _ _ p112_100 p112_101 hm_m
  · exact FRX12_qTakes_J55 _ _ _ _ p112_100 p112_101 hm_m
set_option maxRecDepth 100000 in
set_option maxHeartbeats 4000000 in
theorem FRX12_qTakes_J16 {P : Nat → Nat → Prop} {m0 : ev_M} (f : Nat) (a1 : Int32) (a2 : Int64) (a4 : Int32) (s0 : Int32) {m : ev_M} (p112_100 : ¬ P 112 100) (p112_101 : ¬ P 112 101)  (hm_m : frP P m0 m) : Fr (frP P m0) (FX12_qTakes_J16 f a1 a2 a4 s0 m) := by
  unfold FX12_qTakes_J16
  refine Fr.ite (fun _ => ?_) (fun _ => ?_)
  · refine Fr.ite (fun _ => ?_) (fun _ => ?_)
    · exact FRX12_qTakes_J38 _ _ _ _ _ p112_100 p112_101 hm_m
    · refine Fr.ite (fun _ => ?_) (fun _ => ?_)
      · exact FRX12_qTakes_J48 _ _ _ _ _ p112_100 p112_101 hm_m
      · exact FRX12_qTakes_J38 _ _ _ _ _ p112_100 p112_101 hm_m
  · exact FRX12_qTakes_J38 _ _ _ _ _ p112_100 p112_101 hm_m
set_option maxRecDepth 100000 in
set_option maxHeartbeats 4000000 in
theorem FRX12_qTakes_J15 {P : Nat → Nat → Prop} {m0 : ev_M} (f : Nat) (a1 : Int32) (a2 : Int64) (a4 : Int32) {m : ev_M} (p112_100 : ¬ P 112 100) (p112_101 : ¬ P 112 101)  (hm_m : frP P m0 m) : Fr (frP P m0) (FX12_qTakes_J15 f a1 a2 a4 m) := by
  unfold FX12_qTakes_J15
  exact FRX12_qTakes_J16 _ _ _ _ _ p112_100 p112_101 hm_m
set_option maxRecDepth 100000 in
set_option maxHeartbeats 4000000 in
theorem FRX12_qTakes {P : Nat → Nat → Prop} {m0 : ev_M} (f : Nat) (a1 : Int32) (a2 : Int64) (a4 : Int32) {m : ev_M} (p112_100 : ¬ P 112 100) (p112_101 : ¬ P 112 101)  (hm_m : frP P m0 m) : Fr (frP P m0) (FX12_qTakes f a1 a2 a4 m) := by
  unfold FX12_qTakes
  refine Fr.ite (fun _ => ?_) (fun _ => ?_)
  · exact FRX12_qTakes_J15 _ _ _ _ p112_100 p112_101 hm_m
  · refine Fr.ite (fun _ => ?_) (fun _ => ?_)
    · exact FRX12_qTakes_J16 _ _ _ _ _ p112_100 p112_101 hm_m
    · exact FRX12_qTakes_J15 _ _ _ _ p112_100 p112_101 hm_m
set_option maxRecDepth 100000 in
set_option maxHeartbeats 4000000 in
theorem FRX12_checked_L6 {P : Nat → Nat → Prop} {m0 : ev_M} (f : Nat) (k : Int32 → ev_M → Option (Int32 × ev_M)) (o0 : Nat) (a1 : Int32)  (hk : ∀ (x0 : Int32) (xm : ev_M), frP P m0 xm → Fr (frP P m0) (k x0 xm)) : ∀ (n : Nat) (a2 : Int32) (a3 : Int32) (m : ev_M), frP P m0 m → Fr (frP P m0) (FX12_checked_L6 f k o0 a1 n a2 a3 m) := by
  intro n
  induction n with
  | zero => intros; exact Fr.none
  | succ n ih =>
    intro a2 a3 m hm_m
    rw [FX12_checked_L6]
    refine Fr.ite (fun _ => ?_) (fun _ => ?_)
    · exact hk _ _ hm_m
    · refine Fr.ite (fun _ => ?_) (fun _ => ?_)
      · exact ih _ _ _ hm_m
      · exact Fr.none
set_option maxRecDepth 100000 in
set_option maxHeartbeats 4000000 in
theorem FRX12_checked {P : Nat → Nat → Prop} {m0 : ev_M} (f : Nat) (o0 : Nat) (a1 : Int32) {m : ev_M}   (hm_m : frP P m0 m) : Fr (frP P m0) (FX12_checked f o0 a1 m) := by
  unfold FX12_checked
  exact FRX12_checked_L6 _ _ o0 _ ((by
  intro e1 m2 hm_m2
  exact Fr.ok hm_m2)) _ _ _ _ hm_m
set_option maxRecDepth 100000 in
set_option maxHeartbeats 4000000 in
theorem FRX12_writes {P : Nat → Nat → Prop} {m0 : ev_M} (f : Nat) (a1 : Int32) {m : ev_M} (p112_103 : ¬ P 112 103) (p180 : ∀ k, ¬ P 180 k)  (hm_m : frP P m0 m) : Fr (frP P m0) (FX12_writes f a1 m) := by
  unfold FX12_writes
  refine Fr.ite (fun _ => ?_) (fun _ => ?_)
  · exact Fr.ok (frP_I p112_103 (frP_I (p180 _) hm_m))
  · exact Fr.none
set_option maxRecDepth 100000 in
set_option maxHeartbeats 4000000 in
theorem FRX12_image_L45 {P : Nat → Nat → Prop} {m0 : ev_M} (f : Nat) (k : ev_M → Option (Int32 × ev_M)) (p112_103 : ¬ P 112 103) (p180 : ∀ k, ¬ P 180 k) (hk : ∀  (xm : ev_M), frP P m0 xm → Fr (frP P m0) (k xm)) : ∀ (n : Nat) (a1 : Int32) (m : ev_M), frP P m0 m → Fr (frP P m0) (FX12_image_L45 f k n a1 m) := by
  intro n
  induction n with
  | zero => intros; exact Fr.none
  | succ n ih =>
    intro a1 m hm_m
    rw [FX12_image_L45]
    refine Fr.bd (FRX12_towerMany _ hm_m) (fun r7 m8 hm_m8 => ?_)
    refine Fr.ite (fun _ => ?_) (fun _ => ?_)
    · exact hk _ hm_m8
    · refine Fr.ite (fun _ => ?_) (fun _ => ?_)
      · refine Fr.bd (FRX12_writes _ _ p112_103 p180 hm_m8) (fun _ m10 hm_m10 => ?_)
        exact ih _ _ hm_m10
      · exact Fr.none
set_option maxRecDepth 100000 in
set_option maxHeartbeats 4000000 in
theorem FRX12_image {P : Nat → Nat → Prop} {m0 : ev_M} (f : Nat) {m : ev_M} (p112_103 : ¬ P 112 103) (p180 : ∀ k, ¬ P 180 k)  (hm_m : frP P m0 m) : Fr (frP P m0) (FX12_image f m) := by
  unfold FX12_image
  refine Fr.bd (FRX12_writes _ _ p112_103 p180 (frP_I p112_103 hm_m)) (fun _ m2 hm_m2 => ?_)
  refine Fr.bd (FRX12_writes _ _ p112_103 p180 hm_m2) (fun _ m4 hm_m4 => ?_)
  refine Fr.bd (FRX12_writes _ _ p112_103 p180 hm_m4) (fun _ m6 hm_m6 => ?_)
  exact FRX12_image_L45 _ _ p112_103 p180 ((by
  intro m11 hm_m11
  refine Fr.bd (FRX12_checked _ 180 _ hm_m11) (fun r12 m13 hm_m13 => ?_)
  refine Fr.bd (FRX12_writes _ _ p112_103 p180 hm_m13) (fun _ m15 hm_m15 => ?_)
  exact Fr.ok hm_m15)) _ _ _ hm_m6
set_option maxRecDepth 100000 in
set_option maxHeartbeats 4000000 in
theorem FRX12_octet {P : Nat → Nat → Prop} {m0 : ev_M} (f : Nat) (a1 : Int32) {m : ev_M}   (hm_m : frP P m0 m) : Fr (frP P m0) (FX12_octet f a1 m) := by
  unfold FX12_octet
  refine Fr.ite (fun _ => ?_) (fun _ => ?_)
  · exact Fr.ok hm_m
  · refine Fr.ite (fun _ => ?_) (fun _ => ?_)
    · exact Fr.ok hm_m
    · refine Fr.ite (fun _ => ?_) (fun _ => ?_)
      · exact Fr.ok hm_m
      · exact Fr.none
set_option maxRecDepth 100000 in
set_option maxHeartbeats 4000000 in
theorem FRX12_isImage_J98 {P : Nat → Nat → Prop} {m0 : ev_M} (f : Nat) (kt67 : Int32 → ev_M → Option (Int32 × ev_M)) (a2 : Int32) (s0 : Int32) (s1 : Int32) {m : ev_M}  (hkt67 : ∀ (x0 : Int32) (xm : ev_M), frP P m0 xm → Fr (frP P m0) (kt67 x0 xm)) (hm_m : frP P m0 m) : Fr (frP P m0) (FX12_isImage_J98 f kt67 a2 s0 s1 m) := by
  unfold FX12_isImage_J98
  refine Fr.ite (fun _ => ?_) (fun _ => ?_)
  · exact hkt67 _ _ hm_m
  · exact Fr.ok hm_m
set_option maxRecDepth 100000 in
set_option maxHeartbeats 4000000 in
theorem FRX12_isImage_J96 {P : Nat → Nat → Prop} {m0 : ev_M} (f : Nat) (kt67 : Int32 → ev_M → Option (Int32 × ev_M)) (a2 : Int32) (s0 : Int32) {m : ev_M}  (hkt67 : ∀ (x0 : Int32) (xm : ev_M), frP P m0 xm → Fr (frP P m0) (kt67 x0 xm)) (hm_m : frP P m0 m) : Fr (frP P m0) (FX12_isImage_J96 f kt67 a2 s0 m) := by
  unfold FX12_isImage_J96
  exact FRX12_isImage_J98 _ _ _ _ _ hkt67 hm_m
set_option maxRecDepth 100000 in
set_option maxHeartbeats 4000000 in
theorem FRX12_isImage_L67 {P : Nat → Nat → Prop} {m0 : ev_M} (f : Nat) (k : ev_M → Option (Int32 × ev_M)) (a1 : Int32)  (hk : ∀  (xm : ev_M), frP P m0 xm → Fr (frP P m0) (k xm)) : ∀ (n : Nat) (a2 : Int32) (m : ev_M), frP P m0 m → Fr (frP P m0) (FX12_isImage_L67 f k a1 n a2 m) := by
  intro n
  induction n with
  | zero => intros; exact Fr.none
  | succ n ih =>
    intro a2 m hm_m
    rw [FX12_isImage_L67]
    refine Fr.ite (fun _ => ?_) (fun _ => ?_)
    · exact hk _ hm_m
    · refine Fr.ite (fun _ => ?_) (fun _ => ?_)
      · refine Fr.ite (fun _ => ?_) (fun _ => ?_)
        · exact FRX12_isImage_J96 _ _ _ _ ih hm_m
        · refine Fr.ite (fun _ => ?_) (fun _ => ?_)
          · exact FRX12_isImage_J98 _ _ _ _ _ ih hm_m
          · exact FRX12_isImage_J96 _ _ _ _ ih hm_m
      · exact Fr.none
set_option maxRecDepth 100000 in
set_option maxHeartbeats 4000000 in
theorem FRX12_isImage {P : Nat → Nat → Prop} {m0 : ev_M} (f : Nat) (a1 : Int32) {m : ev_M}   (hm_m : frP P m0 m) : Fr (frP P m0) (FX12_isImage f a1 m) := by
  unfold FX12_isImage
  refine Fr.ite (fun _ => ?_) (fun _ => ?_)
  · exact Fr.ok hm_m
  · refine Fr.bd (FRX12_towerMany _ hm_m) (fun r1 m2 hm_m2 => ?_)
    refine Fr.ite (fun _ => ?_) (fun _ => ?_)
    · refine Fr.ite (fun _ => ?_) (fun _ => ?_)
      · refine Fr.bd (FRX12_checked _ 113 _ hm_m2) (fun r3 m4 hm_m4 => ?_)
        refine Fr.ite (fun _ => ?_) (fun _ => ?_)
        · refine Fr.ite (fun _ => ?_) (fun _ => ?_)
          · exact FRX12_isImage_L67 _ _ _ ((by
  intro m5 hm_m5
  exact Fr.ok hm_m5)) _ _ _ hm_m4
          · exact Fr.ok hm_m4
        · exact Fr.ok hm_m4
      · exact Fr.none
    · exact Fr.ok hm_m2
set_option maxRecDepth 100000 in
set_option maxHeartbeats 4000000 in
theorem FRX12_on_L67 {P : Nat → Nat → Prop} {m0 : ev_M} (f : Nat) (k : ev_M → Option (Int32 × ev_M)) (p144 : ∀ k, ¬ P 144 k) (hk : ∀  (xm : ev_M), frP P m0 xm → Fr (frP P m0) (k xm)) : ∀ (n : Nat) (a2 : Int32) (m : ev_M), frP P m0 m → Fr (frP P m0) (FX12_on_L67 f k n a2 m) := by
  intro n
  induction n with
  | zero => intros; exact Fr.none
  | succ n ih =>
    intro a2 m hm_m
    rw [FX12_on_L67]
    refine Fr.bd (FRX12_towerMany _ hm_m) (fun r3 m4 hm_m4 => ?_)
    refine Fr.ite (fun _ => ?_) (fun _ => ?_)
    · exact hk _ hm_m4
    · refine Fr.ite (fun _ => ?_) (fun _ => ?_)
      · refine Fr.ite (fun _ => ?_) (fun _ => ?_)
        · exact ih _ _ (frP_I (p144 _) hm_m4)
        · exact Fr.none
      · exact Fr.none
set_option maxRecDepth 100000 in
set_option maxHeartbeats 4000000 in
theorem FRX12_on {P : Nat → Nat → Prop} {m0 : ev_M} (f : Nat) {m : ev_M} (p112_1 : ¬ P 112 1) (p112_64 : ¬ P 112 64) (p114_5 : ¬ P 114 5) (p144 : ∀ k, ¬ P 144 k)  (hm_m : frP P m0 m) : Fr (frP P m0) (FX12_on f m) := by
  unfold FX12_on
  refine Fr.bd (FRX12_isImage _ _ (frP_I p112_1 hm_m)) (fun r1 m2 hm_m2 => ?_)
  refine Fr.ite (fun _ => ?_) (fun _ => ?_)
  · exact Fr.ok (frP_I p114_5 hm_m2)
  · exact FRX12_on_L67 _ _ p144 ((by
  intro m5 hm_m5
  exact Fr.ok (frP_I p112_64 (frP_I (p144 26) hm_m5)))) _ _ _ (frP_I (p144 1) (frP_I (p144 0) hm_m2))
set_option maxRecDepth 100000 in
set_option maxHeartbeats 4000000 in
theorem FRX12_status {P : Nat → Nat → Prop} {m0 : ev_M} (f : Nat) (a1 : Int32) {m : ev_M}   (hm_m : frP P m0 m) : Fr (frP P m0) (FX12_status f a1 m) := by
  unfold FX12_status
  refine Fr.bd (FRX12_isIn _ _ _ _ hm_m) (fun r1 m2 hm_m2 => ?_)
  refine Fr.ite (fun _ => ?_) (fun _ => ?_)
  · exact Fr.ok hm_m2
  · refine Fr.ite (fun _ => ?_) (fun _ => ?_)
    · exact Fr.ok hm_m2
    · exact Fr.none
set_option maxRecDepth 100000 in
set_option maxHeartbeats 4000000 in
theorem FRX12_codesTold_L80 {P : Nat → Nat → Prop} {m0 : ev_M} (f : Nat) (k : ev_M → Option (Unit × ev_M)) (p112_43 : ¬ P 112 43) (p143 : ∀ k, ¬ P 143 k) (hk : ∀  (xm : ev_M), frP P m0 xm → Fr (frP P m0) (k xm)) : ∀ (n : Nat) (a3 : Int32) (m : ev_M), frP P m0 m → Fr (frP P m0) (FX12_codesTold_L80 f k n a3 m) := by
  intro n
  induction n with
  | zero => intros; exact Fr.none
  | succ n ih =>
    intro a3 m hm_m
    rw [FX12_codesTold_L80]
    refine Fr.ite (fun _ => ?_) (fun _ => ?_)
    · exact hk _ hm_m
    · refine Fr.ite (fun _ => ?_) (fun _ => ?_)
      · refine Fr.ite (fun _ => ?_) (fun _ => ?_)
        · exact ih _ _ (frP_I p112_43 (frP_I (p143 _) hm_m))
        · exact Fr.none
      · exact Fr.none
set_option maxRecDepth 100000 in
set_option maxHeartbeats 4000000 in
theorem FRX12_codesTold_J23 {P : Nat → Nat → Prop} {m0 : ev_M} (f : Nat) (a1 : Int32) {m : ev_M} (p112_2 : ¬ P 112 2) (p112_4 : ¬ P 112 4) (p112_5 : ¬ P 112 5) (p112_6 : ¬ P 112 6) (p112_43 : ¬ P 112 43) (p112_46 : ¬ P 112 46) (p112_93 : ¬ P 112 93) (p112_95 : ¬ P 112 95) (p112_96 : ¬ P 112 96) (p112_97 : ¬ P 112 97) (p141 : ∀ k, ¬ P 141 k) (p142 : ∀ k, ¬ P 142 k) (p143 : ∀ k, ¬ P 143 k) (p177 : ∀ k, ¬ P 177 k) (p178 : ∀ k, ¬ P 178 k)  (hm_m : frP P m0 m) : Fr (frP P m0) (FX12_codesTold_J23 f a1 m) := by
  unfold FX12_codesTold_J23
  refine Fr.ite (fun _ => ?_) (fun _ => ?_)
  · refine Fr.bd (FRX12_qSums _ p112_2 p112_4 p112_5 p112_6 p112_93 p112_95 p112_96 p112_97 p177 p178 (frP_I p112_97 (frP_I p112_96 (frP_I p112_95 (frP_I p112_93 (frP_I p112_46 hm_m)))))) (fun _ m2 hm_m2 => ?_)
    refine Fr.ite (fun _ => ?_) (fun _ => ?_)
    · refine Fr.ite (fun _ => ?_) (fun _ => ?_)
      · exact FRX12_codesTold_L80 _ _ p112_43 p143 ((by
  intro m3 hm_m3
  refine Fr.ite (fun _ => ?_) (fun _ => ?_)
  · exact Fr.ok (frP_I (p142 _) hm_m3)
  · exact Fr.none)) _ _ _ (frP_I (p141 _) hm_m2)
      · exact Fr.none
    · exact Fr.ok hm_m2
  · exact Fr.ok hm_m
set_option maxRecDepth 100000 in
set_option maxHeartbeats 4000000 in
theorem FRX12_codesTold {P : Nat → Nat → Prop} {m0 : ev_M} (f : Nat) (a1 : Int32) (a2 : Int32) {m : ev_M} (p112_2 : ¬ P 112 2) (p112_4 : ¬ P 112 4) (p112_5 : ¬ P 112 5) (p112_6 : ¬ P 112 6) (p112_43 : ¬ P 112 43) (p112_46 : ¬ P 112 46) (p112_93 : ¬ P 112 93) (p112_95 : ¬ P 112 95) (p112_96 : ¬ P 112 96) (p112_97 : ¬ P 112 97) (p141 : ∀ k, ¬ P 141 k) (p142 : ∀ k, ¬ P 142 k) (p143 : ∀ k, ¬ P 143 k) (p177 : ∀ k, ¬ P 177 k) (p178 : ∀ k, ¬ P 178 k)  (hm_m : frP P m0 m) : Fr (frP P m0) (FX12_codesTold f a1 a2 m) := by
  unfold FX12_codesTold
  refine Fr.ite (fun _ => ?_) (fun _ => ?_)
  · refine Fr.ite (fun _ => ?_) (fun _ => ?_)
    · refine Fr.ite (fun _ => ?_) (fun _ => ?_)
      · exact FRX12_codesTold_J23 _ _ p112_2 p112_4 p112_5 p112_6 p112_43 p112_46 p112_93 p112_95 p112_96 p112_97 p141 p142 p143 p177 p178 hm_m
      · refine Fr.bd (FRX12_fail _ _ _ p112_5 p112_6 hm_m) (fun _ m5 hm_m5 => ?_)
        exact FRX12_codesTold_J23 _ _ p112_2 p112_4 p112_5 p112_6 p112_43 p112_46 p112_93 p112_95 p112_96 p112_97 p141 p142 p143 p177 p178 hm_m5
    · exact Fr.none
  · exact FRX12_codesTold_J23 _ _ p112_2 p112_4 p112_5 p112_6 p112_43 p112_46 p112_93 p112_95 p112_96 p112_97 p141 p142 p143 p177 p178 hm_m
set_option maxRecDepth 100000 in
set_option maxHeartbeats 4000000 in
theorem FRX12_statementTold_J173 {P : Nat → Nat → Prop} {m0 : ev_M} (f : Nat) {m : ev_M} (p112_2 : ¬ P 112 2) (p112_5 : ¬ P 112 5) (p112_6 : ¬ P 112 6) (p112_44 : ¬ P 112 44)  (hm_m : frP P m0 m) : Fr (frP P m0) (FX12_statementTold_J173 f m) := by
  unfold FX12_statementTold_J173
  refine Fr.bd (FRX12_asksSign _ _ p112_2 p112_5 p112_6 hm_m) (fun _ m18 hm_m18 => ?_)
  exact Fr.ok (frP_I p112_44 hm_m18)
set_option maxRecDepth 100000 in
set_option maxHeartbeats 4000000 in
theorem FRX12_statementTold {P : Nat → Nat → Prop} {m0 : ev_M} (f : Nat) {m : ev_M} (p112_2 : ¬ P 112 2) (p112_4 : ¬ P 112 4) (p112_5 : ¬ P 112 5) (p112_6 : ¬ P 112 6) (p112_33 : ¬ P 112 33) (p112_35 : ¬ P 112 35) (p112_43 : ¬ P 112 43) (p112_44 : ¬ P 112 44) (p112_46 : ¬ P 112 46) (p112_93 : ¬ P 112 93) (p112_95 : ¬ P 112 95) (p112_96 : ¬ P 112 96) (p112_97 : ¬ P 112 97) (p138 : ∀ k, ¬ P 138 k) (p139 : ∀ k, ¬ P 139 k) (p140_0 : ¬ P 140 0) (p140_1 : ¬ P 140 1) (p140_2 : ¬ P 140 2) (p141 : ∀ k, ¬ P 141 k) (p142 : ∀ k, ¬ P 142 k) (p143 : ∀ k, ¬ P 143 k) (p177 : ∀ k, ¬ P 177 k) (p178 : ∀ k, ¬ P 178 k)  (hm_m : frP P m0 m) : Fr (frP P m0) (FX12_statementTold f m) := by
  unfold FX12_statementTold
  refine Fr.ite (fun _ => ?_) (fun _ => ?_)
  · refine Fr.bd (FRX12_fail _ _ _ p112_5 p112_6 hm_m) (fun _ m32 hm_m32 => ?_)
    exact Fr.ok hm_m32
  · refine Fr.bd (FRX12_takes _ 116 p112_2 p112_4 hm_m) (fun r1 m2 hm_m2 => ?_)
    refine Fr.ite (fun _ => ?_) (fun _ => ?_)
    · refine Fr.bd (FRX12_takes _ 119 p112_2 p112_4 hm_m2) (fun r3 m4 hm_m4 => ?_)
      refine Fr.ite (fun _ => ?_) (fun _ => ?_)
      · refine Fr.bd (FRX12_takes _ 120 p112_2 p112_4 hm_m4) (fun r5 m6 hm_m6 => ?_)
        refine Fr.ite (fun _ => ?_) (fun _ => ?_)
        · refine Fr.bd (FRX12_takes _ 121 p112_2 p112_4 hm_m6) (fun r7 m8 hm_m8 => ?_)
          refine Fr.ite (fun _ => ?_) (fun _ => ?_)
          · refine Fr.bd (FRX12_takes _ 122 p112_2 p112_4 hm_m8) (fun r9 m10 hm_m10 => ?_)
            refine Fr.ite (fun _ => ?_) (fun _ => ?_)
            · refine Fr.bd (FRX12_takes _ 123 p112_2 p112_4 hm_m10) (fun r11 m12 hm_m12 => ?_)
              refine Fr.ite (fun _ => ?_) (fun _ => ?_)
              · refine Fr.bd (FRX12_asks _ 124 p112_2 p112_4 p112_5 p112_6 hm_m12) (fun _ m14 hm_m14 => ?_)
                refine Fr.bd (FRX12_number _ _ _ p112_2 p112_4 p112_5 p112_6 hm_m14) (fun r15 m16 hm_m16 => ?_)
                exact FRX12_statementTold_J173 _ p112_2 p112_5 p112_6 p112_44 (frP_I p140_2 hm_m16)
              · refine Fr.bd (FRX12_number _ _ _ p112_2 p112_4 p112_5 p112_6 hm_m12) (fun r19 m20 hm_m20 => ?_)
                exact FRX12_statementTold_J173 _ p112_2 p112_5 p112_6 p112_44 (frP_I p140_1 hm_m20)
            · refine Fr.bd (FRX12_number _ _ _ p112_2 p112_4 p112_5 p112_6 hm_m10) (fun r21 m22 hm_m22 => ?_)
              exact FRX12_statementTold_J173 _ p112_2 p112_5 p112_6 p112_44 (frP_I p140_0 hm_m22)
          · refine Fr.bd (FRX12_codesTold _ _ _ p112_2 p112_4 p112_5 p112_6 p112_43 p112_46 p112_93 p112_95 p112_96 p112_97 p141 p142 p143 p177 p178 hm_m8) (fun _ m24 hm_m24 => ?_)
            exact FRX12_statementTold_J173 _ p112_2 p112_5 p112_6 p112_44 hm_m24
        · refine Fr.bd (FRX12_codesTold _ _ _ p112_2 p112_4 p112_5 p112_6 p112_43 p112_46 p112_93 p112_95 p112_96 p112_97 p141 p142 p143 p177 p178 hm_m6) (fun _ m26 hm_m26 => ?_)
          exact FRX12_statementTold_J173 _ p112_2 p112_5 p112_6 p112_44 hm_m26
      · refine Fr.bd (FRX12_yesTold _ p112_2 p112_4 p112_5 p112_6 p112_33 p139 hm_m4) (fun _ m28 hm_m28 => ?_)
        exact FRX12_statementTold_J173 _ p112_2 p112_5 p112_6 p112_44 hm_m28
    · refine Fr.bd (FRX12_towerTold _ _ p112_2 p112_4 p112_5 p112_6 p112_33 p112_35 p138 p139 hm_m2) (fun _ m30 hm_m30 => ?_)
      exact FRX12_statementTold_J173 _ p112_2 p112_5 p112_6 p112_44 hm_m30
set_option maxRecDepth 100000 in
set_option maxHeartbeats 4000000 in
theorem FRX12_castle_L87 {P : Nat → Nat → Prop} {m0 : ev_M} (f : Nat) (k : ev_M → Option (Int32 × ev_M)) (p112_2 : ¬ P 112 2) (p112_4 : ¬ P 112 4) (p112_5 : ¬ P 112 5) (p112_6 : ¬ P 112 6) (p112_33 : ¬ P 112 33) (p112_35 : ¬ P 112 35) (p112_43 : ¬ P 112 43) (p112_44 : ¬ P 112 44) (p112_46 : ¬ P 112 46) (p112_93 : ¬ P 112 93) (p112_95 : ¬ P 112 95) (p112_96 : ¬ P 112 96) (p112_97 : ¬ P 112 97) (p138 : ∀ k, ¬ P 138 k) (p139 : ∀ k, ¬ P 139 k) (p140_0 : ¬ P 140 0) (p140_1 : ¬ P 140 1) (p140_2 : ¬ P 140 2) (p141 : ∀ k, ¬ P 141 k) (p142 : ∀ k, ¬ P 142 k) (p143 : ∀ k, ¬ P 143 k) (p177 : ∀ k, ¬ P 177 k) (p178 : ∀ k, ¬ P 178 k) (hk : ∀  (xm : ev_M), frP P m0 xm → Fr (frP P m0) (k xm)) : ∀ (n : Nat)  (m : ev_M), frP P m0 m → Fr (frP P m0) (FX12_castle_L87 f k n m) := by
  intro n
  induction n with
  | zero => intros; exact Fr.none
  | succ n ih =>
    intro m hm_m
    rw [FX12_castle_L87]
    refine Fr.ite (fun _ => ?_) (fun _ => ?_)
    · refine Fr.bd (FRX12_look _ p112_2 hm_m) (fun r3 m4 hm_m4 => ?_)
      refine Fr.ite (fun _ => ?_) (fun _ => ?_)
      · exact hk _ hm_m4
      · refine Fr.bd (FRX12_statementTold _ p112_2 p112_4 p112_5 p112_6 p112_33 p112_35 p112_43 p112_44 p112_46 p112_93 p112_95 p112_96 p112_97 p138 p139 p140_0 p140_1 p140_2 p141 p142 p143 p177 p178 hm_m4) (fun _ m6 hm_m6 => ?_)
        exact ih  _ hm_m6
    · exact hk _ hm_m
set_option maxRecDepth 100000 in
set_option maxHeartbeats 4000000 in
theorem FRX12_castle_J109 {P : Nat → Nat → Prop} {m0 : ev_M} (f : Nat) {m : ev_M} (p112_7 : ¬ P 112 7) (p112_8 : ¬ P 112 8) (p112_36 : ¬ P 112 36) (p112_45 : ¬ P 112 45) (p112_58 : ¬ P 112 58) (p112_64 : ¬ P 112 64) (p114_1 : ¬ P 114 1) (p138 : ∀ k, ¬ P 138 k) (p140 : ∀ k, ¬ P 140 k) (p141 : ∀ k, ¬ P 141 k) (p142 : ∀ k, ¬ P 142 k) (p143 : ∀ k, ¬ P 143 k) (p144 : ∀ k, ¬ P 144 k)  (hm_m : frP P m0 m) : Fr (frP P m0) (FX12_castle_J109 f m) := by
  unfold FX12_castle_J109
  refine Fr.ite (fun _ => ?_) (fun _ => ?_)
  · refine Fr.bd (FRX12_stands _ p112_36 p112_45 p112_58 p112_64 p138 p140 p141 p142 p143 p144 (frP_I p112_8 (frP_I p112_7 hm_m))) (fun _ m9 hm_m9 => ?_)
    exact Fr.ok hm_m9
  · exact Fr.ok (frP_I p114_1 (frP_I p112_8 (frP_I p112_7 hm_m)))
set_option maxRecDepth 100000 in
set_option maxHeartbeats 4000000 in
theorem FRX12_castle {P : Nat → Nat → Prop} {m0 : ev_M} (f : Nat) {m : ev_M} (p112_1 : ¬ P 112 1) (p112_2 : ¬ P 112 2) (p112_3 : ¬ P 112 3) (p112_4 : ¬ P 112 4) (p112_5 : ¬ P 112 5) (p112_6 : ¬ P 112 6) (p112_7 : ¬ P 112 7) (p112_8 : ¬ P 112 8) (p112_33 : ¬ P 112 33) (p112_34 : ¬ P 112 34) (p112_35 : ¬ P 112 35) (p112_36 : ¬ P 112 36) (p112_43 : ¬ P 112 43) (p112_44 : ¬ P 112 44) (p112_45 : ¬ P 112 45) (p112_46 : ¬ P 112 46) (p112_58 : ¬ P 112 58) (p112_64 : ¬ P 112 64) (p112_93 : ¬ P 112 93) (p112_95 : ¬ P 112 95) (p112_96 : ¬ P 112 96) (p112_97 : ¬ P 112 97) (p114_1 : ¬ P 114 1) (p138 : ∀ k, ¬ P 138 k) (p139 : ∀ k, ¬ P 139 k) (p140 : ∀ k, ¬ P 140 k) (p141 : ∀ k, ¬ P 141 k) (p142 : ∀ k, ¬ P 142 k) (p143 : ∀ k, ¬ P 143 k) (p144 : ∀ k, ¬ P 144 k) (p177 : ∀ k, ¬ P 177 k) (p178 : ∀ k, ¬ P 178 k)  (hm_m : frP P m0 m) : Fr (frP P m0) (FX12_castle f m) := by
  unfold FX12_castle
  refine Fr.bd (FRX12_callTold0 _ p112_2 p112_4 p112_5 p112_6 p112_34 (frP_I (p140 2) (frP_I (p140 1) (frP_I (p140 0) (frP_I (p141 1) (frP_I (p141 0) (frP_I p112_35 (frP_I p112_43 (frP_I p112_6 (frP_I p112_5 (frP_I p112_4 (frP_I p112_2 (frP_I p112_1 (frP_I p112_3 hm_m)))))))))))))) (fun _ m2 hm_m2 => ?_)
  exact FRX12_castle_L87 _ _ p112_2 p112_4 p112_5 p112_6 p112_33 p112_35 p112_43 p112_44 p112_46 p112_93 p112_95 p112_96 p112_97 p138 p139 (p140 0) (p140 1) (p140 2) p141 p142 p143 p177 p178 ((by
  intro m7 hm_m7
  exact FRX12_castle_J109 _ p112_7 p112_8 p112_36 p112_45 p112_58 p112_64 p114_1 p138 p140 p141 p142 p143 p144 hm_m7)) _ _ (frP_I p112_44 hm_m2)
set_option maxRecDepth 100000 in
set_option maxHeartbeats 4000000 in
theorem FRX12_codesTell_J95 {P : Nat → Nat → Prop} {m0 : ev_M} (f : Nat) (kt19 : Int32 → ev_M → Option (Int64 × ev_M)) (a3 : Int32) {m : ev_M}  (hkt19 : ∀ (x0 : Int32) (xm : ev_M), frP P m0 xm → Fr (frP P m0) (kt19 x0 xm)) (hm_m : frP P m0 m) : Fr (frP P m0) (FX12_codesTell_J95 f kt19 a3 m) := by
  unfold FX12_codesTell_J95
  exact hkt19 _ _ hm_m
set_option maxRecDepth 100000 in
set_option maxHeartbeats 4000000 in
theorem FRX12_codesTell_L19 {P : Nat → Nat → Prop} {m0 : ev_M} (f : Nat) (k : ev_M → Option (Int64 × ev_M)) (a1 : Int32) (a2 : Int32) (p112_99 : ¬ P 112 99) (p179 : ∀ k, ¬ P 179 k) (hk : ∀  (xm : ev_M), frP P m0 xm → Fr (frP P m0) (k xm)) : ∀ (n : Nat) (a3 : Int32) (m : ev_M), frP P m0 m → Fr (frP P m0) (FX12_codesTell_L19 f k a1 a2 n a3 m) := by
  intro n
  induction n with
  | zero => intros; exact Fr.none
  | succ n ih =>
    intro a3 m hm_m
    rw [FX12_codesTell_L19]
    refine Fr.ite (fun _ => ?_) (fun _ => ?_)
    · refine Fr.ite (fun _ => ?_) (fun _ => ?_)
      · exact hk _ hm_m
      · refine Fr.ite (fun _ => ?_) (fun _ => ?_)
        · refine Fr.ite (fun _ => ?_) (fun _ => ?_)
          · refine Fr.ite (fun _ => ?_) (fun _ => ?_)
            · refine Fr.bd (FRX12_qJoins _ _ p112_99 p179 hm_m) (fun _ m2 hm_m2 => ?_)
              exact FRX12_codesTell_J95 _ _ _ ih hm_m2
            · refine Fr.bd (FRX12_qPartOf _ _ _ hm_m) (fun r3 m4 hm_m4 => ?_)
              refine Fr.bd (FRX12_qPuts _ _ p112_99 p179 hm_m4) (fun _ m6 hm_m6 => ?_)
              exact FRX12_codesTell_J95 _ _ _ ih hm_m6
          · refine Fr.bd (FRX12_qPuts _ _ p112_99 p179 hm_m) (fun _ m8 hm_m8 => ?_)
            exact FRX12_codesTell_J95 _ _ _ ih hm_m8
        · exact Fr.none
    · exact Fr.none
set_option maxRecDepth 100000 in
set_option maxHeartbeats 4000000 in
theorem FRX12_codesTell {P : Nat → Nat → Prop} {m0 : ev_M} (f : Nat) (a1 : Int32) (a2 : Int32) {m : ev_M} (p112_46 : ¬ P 112 46) (p112_99 : ¬ P 112 99) (p179 : ∀ k, ¬ P 179 k)  (hm_m : frP P m0 m) : Fr (frP P m0) (FX12_codesTell f a1 a2 m) := by
  unfold FX12_codesTell
  refine Fr.ite (fun _ => ?_) (fun _ => ?_)
  · exact FRX12_codesTell_L19 _ _ _ _ p112_99 p179 ((by
  intro m9 hm_m9
  exact Fr.ok hm_m9)) _ _ _ (frP_I p112_99 (frP_I p112_46 hm_m))
  · exact Fr.none
set_option maxRecDepth 100000 in
set_option maxHeartbeats 4000000 in
theorem FRX12_saidBy_J59 {P : Nat → Nat → Prop} {m0 : ev_M} (f : Nat) (s0 : Int32) {m : ev_M}   (hm_m : frP P m0 m) : Fr (frP P m0) (FX12_saidBy_J59 f s0 m) := by
  unfold FX12_saidBy_J59
  refine Fr.bd (FRX12_cut _ _ hm_m) (fun r7 m8 hm_m8 => ?_)
  exact Fr.ok hm_m8
set_option maxRecDepth 100000 in
set_option maxHeartbeats 4000000 in
theorem FRX12_saidBy {P : Nat → Nat → Prop} {m0 : ev_M} (f : Nat) (a1 : Int32) {m : ev_M} (p112_46 : ¬ P 112 46) (p112_99 : ¬ P 112 99) (p179 : ∀ k, ¬ P 179 k)  (hm_m : frP P m0 m) : Fr (frP P m0) (FX12_saidBy f a1 m) := by
  unfold FX12_saidBy
  refine Fr.bd (FRX12_isYes _ _ hm_m) (fun r1 m2 hm_m2 => ?_)
  refine Fr.ite (fun _ => ?_) (fun _ => ?_)
  · refine Fr.ite (fun _ => ?_) (fun _ => ?_)
    · refine Fr.bd (FRX12_moodOf _ _ hm_m2) (fun r3 m4 hm_m4 => ?_)
      refine Fr.bd (FRX12_cheerOf _ _ hm_m4) (fun r5 m6 hm_m6 => ?_)
      refine Fr.ite (fun _ => ?_) (fun _ => ?_)
      · exact FRX12_saidBy_J59 _ _ hm_m6
      · exact FRX12_saidBy_J59 _ _ hm_m6
    · refine Fr.bd (FRX12_codesTell _ _ _ p112_46 p112_99 p179 hm_m2) (fun r9 m10 hm_m10 => ?_)
      refine Fr.bd (FRX12_cut _ _ hm_m10) (fun r11 m12 hm_m12 => ?_)
      exact Fr.ok hm_m12
  · exact Fr.ok hm_m2
set_option maxRecDepth 100000 in
set_option maxHeartbeats 4000000 in
theorem FRX12_feltBy {P : Nat → Nat → Prop} {m0 : ev_M} (f : Nat) (a1 : Int32) {m : ev_M} (p112_46 : ¬ P 112 46) (p112_99 : ¬ P 112 99) (p179 : ∀ k, ¬ P 179 k)  (hm_m : frP P m0 m) : Fr (frP P m0) (FX12_feltBy f a1 m) := by
  unfold FX12_feltBy
  refine Fr.ite (fun _ => ?_) (fun _ => ?_)
  · refine Fr.bd (FRX12_moodOf _ _ hm_m) (fun r5 m6 hm_m6 => ?_)
    exact Fr.ok hm_m6
  · refine Fr.bd (FRX12_codesTell _ _ _ p112_46 p112_99 p179 hm_m) (fun r1 m2 hm_m2 => ?_)
    refine Fr.bd (FRX12_cut _ _ hm_m2) (fun r3 m4 hm_m4 => ?_)
    exact Fr.ok hm_m4
set_option maxRecDepth 100000 in
set_option maxHeartbeats 4000000 in
theorem FRX12_roundGoes_L2 {P : Nat → Nat → Prop} {m0 : ev_M} (f : Nat) (k : ev_M → Option (Unit × ev_M)) (p112_46 : ¬ P 112 46) (p112_49 : ¬ P 112 49) (p112_50 : ¬ P 112 50) (p112_51 : ¬ P 112 51) (p112_99 : ¬ P 112 99) (p144 : ∀ k, ¬ P 144 k) (p146 : ∀ k, ¬ P 146 k) (p179 : ∀ k, ¬ P 179 k) (hk : ∀  (xm : ev_M), frP P m0 xm → Fr (frP P m0) (k xm)) : ∀ (n : Nat) (a1 : Int32) (m : ev_M), frP P m0 m → Fr (frP P m0) (FX12_roundGoes_L2 f k n a1 m) := by
  intro n
  induction n with
  | zero => intros; exact Fr.none
  | succ n ih =>
    intro a1 m hm_m
    rw [FX12_roundGoes_L2]
    refine Fr.bd (FRX12_towerMany _ hm_m) (fun r1 m2 hm_m2 => ?_)
    refine Fr.ite (fun _ => ?_) (fun _ => ?_)
    · exact hk _ hm_m2
    · refine Fr.bd (FRX12_saidBy _ _ p112_46 p112_99 p179 (frP_I p112_50 (frP_I p112_49 hm_m2))) (fun r3 m4 hm_m4 => ?_)
      refine Fr.ite (fun _ => ?_) (fun _ => ?_)
      · refine Fr.ite (fun _ => ?_) (fun _ => ?_)
        · refine Fr.ite (fun _ => ?_) (fun _ => ?_)
          · refine Fr.bd (FRX12_feltBy _ _ p112_46 p112_99 p179 (frP_I (p144 1) (frP_I p112_51 (frP_I (p146 _) hm_m4)))) (fun r5 m6 hm_m6 => ?_)
            refine Fr.ite (fun _ => ?_) (fun _ => ?_)
            · exact ih _ _ (frP_I (p144 _) hm_m6)
            · exact Fr.none
          · exact Fr.none
        · exact Fr.none
      · exact Fr.none
set_option maxRecDepth 100000 in
set_option maxHeartbeats 4000000 in
theorem FRX12_roundGoes {P : Nat → Nat → Prop} {m0 : ev_M} (f : Nat) {m : ev_M} (p112_46 : ¬ P 112 46) (p112_49 : ¬ P 112 49) (p112_50 : ¬ P 112 50) (p112_51 : ¬ P 112 51) (p112_53 : ¬ P 112 53) (p112_55 : ¬ P 112 55) (p112_56 : ¬ P 112 56) (p112_99 : ¬ P 112 99) (p144 : ∀ k, ¬ P 144 k) (p146 : ∀ k, ¬ P 146 k) (p179 : ∀ k, ¬ P 179 k)  (hm_m : frP P m0 m) : Fr (frP P m0) (FX12_roundGoes f m) := by
  unfold FX12_roundGoes
  exact FRX12_roundGoes_L2 _ _ p112_46 p112_49 p112_50 p112_51 p112_99 p144 p146 p179 ((by
  intro m7 hm_m7
  refine Fr.bd (FRX12_doubtsNow _ (frP_I p112_53 hm_m7)) (fun r8 m9 hm_m9 => ?_)
  refine Fr.bd (FRX12_rowOf _ _ (frP_I p112_56 hm_m9)) (fun r10 m11 hm_m11 => ?_)
  refine Fr.ite (fun _ => ?_) (fun _ => ?_)
  · exact Fr.ok (frP_I (p144 0) hm_m11)
  · refine Fr.bd (FRX12_doubtsNow _ (frP_I p112_55 hm_m11)) (fun r12 m13 hm_m13 => ?_)
    refine Fr.bd (FRX12_isKept _ _ _ p144 hm_m13) (fun _ m15 hm_m15 => ?_)
    exact Fr.ok (frP_I (p144 0) hm_m15))) _ _ _ hm_m
set_option maxRecDepth 100000 in
set_option maxHeartbeats 4000000 in
theorem FRX12_roundsGo_L2 {P : Nat → Nat → Prop} {m0 : ev_M} (f : Nat) (k : ev_M → Option (Unit × ev_M)) (a1 : Int32) (p112_46 : ¬ P 112 46) (p112_49 : ¬ P 112 49) (p112_50 : ¬ P 112 50) (p112_51 : ¬ P 112 51) (p112_53 : ¬ P 112 53) (p112_55 : ¬ P 112 55) (p112_56 : ¬ P 112 56) (p112_99 : ¬ P 112 99) (p144 : ∀ k, ¬ P 144 k) (p146 : ∀ k, ¬ P 146 k) (p179 : ∀ k, ¬ P 179 k) (hk : ∀  (xm : ev_M), frP P m0 xm → Fr (frP P m0) (k xm)) : ∀ (n : Nat) (a2 : Int32) (m : ev_M), frP P m0 m → Fr (frP P m0) (FX12_roundsGo_L2 f k a1 n a2 m) := by
  intro n
  induction n with
  | zero => intros; exact Fr.none
  | succ n ih =>
    intro a2 m hm_m
    rw [FX12_roundsGo_L2]
    refine Fr.ite (fun _ => ?_) (fun _ => ?_)
    · exact hk _ hm_m
    · refine Fr.bd (FRX12_roundGoes _ p112_46 p112_49 p112_50 p112_51 p112_53 p112_55 p112_56 p112_99 p144 p146 p179 hm_m) (fun _ m2 hm_m2 => ?_)
      exact ih _ _ hm_m2
set_option maxRecDepth 100000 in
set_option maxHeartbeats 4000000 in
theorem FRX12_roundsGo {P : Nat → Nat → Prop} {m0 : ev_M} (f : Nat) (a1 : Int32) {m : ev_M} (p112_46 : ¬ P 112 46) (p112_49 : ¬ P 112 49) (p112_50 : ¬ P 112 50) (p112_51 : ¬ P 112 51) (p112_53 : ¬ P 112 53) (p112_55 : ¬ P 112 55) (p112_56 : ¬ P 112 56) (p112_99 : ¬ P 112 99) (p144 : ∀ k, ¬ P 144 k) (p146 : ∀ k, ¬ P 146 k) (p179 : ∀ k, ¬ P 179 k)  (hm_m : frP P m0 m) : Fr (frP P m0) (FX12_roundsGo f a1 m) := by
  unfold FX12_roundsGo
  exact FRX12_roundsGo_L2 _ _ _ p112_46 p112_49 p112_50 p112_51 p112_53 p112_55 p112_56 p112_99 p144 p146 p179 ((by
  intro m3 hm_m3
  exact Fr.ok hm_m3)) _ _ _ hm_m
set_option maxRecDepth 100000 in
set_option maxHeartbeats 4000000 in
theorem FRX12_doGoTo {P : Nat → Nat → Prop} {m0 : ev_M} (f : Nat) (a1 : Int32) {m : ev_M} (p112_46 : ¬ P 112 46) (p112_49 : ¬ P 112 49) (p112_50 : ¬ P 112 50) (p112_51 : ¬ P 112 51) (p112_53 : ¬ P 112 53) (p112_54 : ¬ P 112 54) (p112_55 : ¬ P 112 55) (p112_56 : ¬ P 112 56) (p112_99 : ¬ P 112 99) (p144 : ∀ k, ¬ P 144 k) (p145 : ∀ k, ¬ P 145 k) (p146 : ∀ k, ¬ P 146 k) (p179 : ∀ k, ¬ P 179 k)  (hm_m : frP P m0 m) : Fr (frP P m0) (FX12_doGoTo f a1 m) := by
  unfold FX12_doGoTo
  refine Fr.bd (FRX12_isIn _ _ _ _ hm_m) (fun r1 m2 hm_m2 => ?_)
  refine Fr.ite (fun _ => ?_) (fun _ => ?_)
  · exact Fr.ok hm_m2
  · refine Fr.bd (FRX12_isAhead _ _ _ _ hm_m2) (fun r3 m4 hm_m4 => ?_)
    refine Fr.ite (fun _ => ?_) (fun _ => ?_)
    · exact Fr.ok hm_m4
    · refine Fr.bd (FRX12_putsAside _ p112_54 p112_55 p112_56 p145 hm_m4) (fun _ m6 hm_m6 => ?_)
      refine Fr.bd (FRX12_roundsGo _ _ p112_46 p112_49 p112_50 p112_51 p112_53 p112_55 p112_56 p112_99 p144 p146 p179 hm_m6) (fun _ m8 hm_m8 => ?_)
      refine Fr.bd (FRX12_takesBack _ p112_54 p112_55 p112_56 p144 hm_m8) (fun _ m10 hm_m10 => ?_)
      exact Fr.ok hm_m10
set_option maxRecDepth 100000 in
set_option maxHeartbeats 4000000 in
theorem FRX12_tone {P : Nat → Nat → Prop} {m0 : ev_M} (f : Nat) (a1 : Int32) (a2 : Int32) {m : ev_M} (p112_46 : ¬ P 112 46) (p112_49 : ¬ P 112 49) (p112_50 : ¬ P 112 50) (p112_51 : ¬ P 112 51) (p112_53 : ¬ P 112 53) (p112_54 : ¬ P 112 54) (p112_55 : ¬ P 112 55) (p112_56 : ¬ P 112 56) (p112_99 : ¬ P 112 99) (p144 : ∀ k, ¬ P 144 k) (p145 : ∀ k, ¬ P 145 k) (p146 : ∀ k, ¬ P 146 k) (p179 : ∀ k, ¬ P 179 k)  (hm_m : frP P m0 m) : Fr (frP P m0) (FX12_tone f a1 a2 m) := by
  unfold FX12_tone
  refine Fr.bd (FRX12_isTower _ _ hm_m) (fun r1 m2 hm_m2 => ?_)
  refine Fr.ite (fun _ => ?_) (fun _ => ?_)
  · exact Fr.ok hm_m2
  · refine Fr.bd (FRX12_doGoTo _ _ p112_46 p112_49 p112_50 p112_51 p112_53 p112_54 p112_55 p112_56 p112_99 p144 p145 p146 p179 hm_m2) (fun r3 m4 hm_m4 => ?_)
    refine Fr.ite (fun _ => ?_) (fun _ => ?_)
    · exact Fr.ok hm_m4
    · refine Fr.ite (fun _ => ?_) (fun _ => ?_)
      · exact Fr.ok hm_m4
      · exact Fr.none
set_option maxRecDepth 100000 in
set_option maxHeartbeats 4000000 in
theorem FRX12_mood {P : Nat → Nat → Prop} {m0 : ev_M} (f : Nat) (a1 : Int32) (a2 : Int32) {m : ev_M} (p112_46 : ¬ P 112 46) (p112_49 : ¬ P 112 49) (p112_50 : ¬ P 112 50) (p112_51 : ¬ P 112 51) (p112_53 : ¬ P 112 53) (p112_54 : ¬ P 112 54) (p112_55 : ¬ P 112 55) (p112_56 : ¬ P 112 56) (p112_99 : ¬ P 112 99) (p144 : ∀ k, ¬ P 144 k) (p145 : ∀ k, ¬ P 145 k) (p146 : ∀ k, ¬ P 146 k) (p179 : ∀ k, ¬ P 179 k)  (hm_m : frP P m0 m) : Fr (frP P m0) (FX12_mood f a1 a2 m) := by
  unfold FX12_mood
  refine Fr.bd (FRX12_isTower _ _ hm_m) (fun r1 m2 hm_m2 => ?_)
  refine Fr.ite (fun _ => ?_) (fun _ => ?_)
  · exact Fr.ok hm_m2
  · refine Fr.bd (FRX12_isAhead _ _ _ _ hm_m2) (fun r3 m4 hm_m4 => ?_)
    refine Fr.ite (fun _ => ?_) (fun _ => ?_)
    · exact Fr.ok hm_m4
    · refine Fr.bd (FRX12_putsAside _ p112_54 p112_55 p112_56 p145 hm_m4) (fun _ m6 hm_m6 => ?_)
      refine Fr.bd (FRX12_roundsGo _ _ p112_46 p112_49 p112_50 p112_51 p112_53 p112_55 p112_56 p112_99 p144 p146 p179 hm_m6) (fun _ m8 hm_m8 => ?_)
      refine Fr.bd (FRX12_moodOf _ _ hm_m8) (fun r9 m10 hm_m10 => ?_)
      refine Fr.bd (FRX12_takesBack _ p112_54 p112_55 p112_56 p144 hm_m10) (fun _ m12 hm_m12 => ?_)
      exact Fr.ok hm_m12
set_option maxRecDepth 100000 in
set_option maxHeartbeats 4000000 in
theorem FRX12_doubts {P : Nat → Nat → Prop} {m0 : ev_M} (f : Nat) (a1 : Int32) {m : ev_M} (p112_46 : ¬ P 112 46) (p112_49 : ¬ P 112 49) (p112_50 : ¬ P 112 50) (p112_51 : ¬ P 112 51) (p112_53 : ¬ P 112 53) (p112_54 : ¬ P 112 54) (p112_55 : ¬ P 112 55) (p112_56 : ¬ P 112 56) (p112_99 : ¬ P 112 99) (p144 : ∀ k, ¬ P 144 k) (p145 : ∀ k, ¬ P 145 k) (p146 : ∀ k, ¬ P 146 k) (p179 : ∀ k, ¬ P 179 k)  (hm_m : frP P m0 m) : Fr (frP P m0) (FX12_doubts f a1 m) := by
  unfold FX12_doubts
  refine Fr.bd (FRX12_doGoTo _ _ p112_46 p112_49 p112_50 p112_51 p112_53 p112_54 p112_55 p112_56 p112_99 p144 p145 p146 p179 hm_m) (fun r1 m2 hm_m2 => ?_)
  refine Fr.ite (fun _ => ?_) (fun _ => ?_)
  · exact Fr.ok hm_m2
  · refine Fr.bd (FRX12_doubtsNow _ hm_m2) (fun r3 m4 hm_m4 => ?_)
    exact Fr.ok hm_m4
set_option maxRecDepth 100000 in
set_option maxHeartbeats 4000000 in
theorem FRX12_fire_J53 {P : Nat → Nat → Prop} {m0 : ev_M} (f : Nat) (kt17 : Int32 → Int32 → ev_M → Option (Int32 × ev_M)) (a1 : Int32) (a2 : Int32) {m : ev_M}  (hkt17 : ∀ (x0 : Int32) (x1 : Int32) (xm : ev_M), frP P m0 xm → Fr (frP P m0) (kt17 x0 x1 xm)) (hm_m : frP P m0 m) : Fr (frP P m0) (FX12_fire_J53 f kt17 a1 a2 m) := by
  unfold FX12_fire_J53
  exact hkt17 _ _ _ hm_m
set_option maxRecDepth 100000 in
set_option maxHeartbeats 4000000 in
theorem FRX12_fire_L17 {P : Nat → Nat → Prop} {m0 : ev_M} (f : Nat) (k : Int32 → ev_M → Option (Int32 × ev_M)) (p112_46 : ¬ P 112 46) (p112_49 : ¬ P 112 49) (p112_50 : ¬ P 112 50) (p112_51 : ¬ P 112 51) (p112_53 : ¬ P 112 53) (p112_55 : ¬ P 112 55) (p112_56 : ¬ P 112 56) (p112_99 : ¬ P 112 99) (p144 : ∀ k, ¬ P 144 k) (p146 : ∀ k, ¬ P 146 k) (p179 : ∀ k, ¬ P 179 k) (hk : ∀ (x0 : Int32) (xm : ev_M), frP P m0 xm → Fr (frP P m0) (k x0 xm)) : ∀ (n : Nat) (a1 : Int32) (a2 : Int32) (m : ev_M), frP P m0 m → Fr (frP P m0) (FX12_fire_L17 f k n a1 a2 m) := by
  intro n
  induction n with
  | zero => intros; exact Fr.none
  | succ n ih =>
    intro a1 a2 m hm_m
    rw [FX12_fire_L17]
    refine Fr.ite (fun _ => ?_) (fun _ => ?_)
    · exact hk _ _ hm_m
    · refine Fr.ite (fun _ => ?_) (fun _ => ?_)
      · refine Fr.ite (fun _ => ?_) (fun _ => ?_)
        · exact hk _ _ hm_m
        · refine Fr.bd (FRX12_roundGoes _ p112_46 p112_49 p112_50 p112_51 p112_53 p112_55 p112_56 p112_99 p144 p146 p179 hm_m) (fun _ m4 hm_m4 => ?_)
          refine Fr.ite (fun _ => ?_) (fun _ => ?_)
          · exact FRX12_fire_J53 _ _ _ _ ih hm_m4
          · exact FRX12_fire_J53 _ _ _ _ ih hm_m4
      · exact hk _ _ hm_m
set_option maxRecDepth 100000 in
set_option maxHeartbeats 4000000 in
theorem FRX12_fire_J59 {P : Nat → Nat → Prop} {m0 : ev_M} (f : Nat) (a1 : Int32) {m : ev_M} (p112_54 : ¬ P 112 54) (p112_55 : ¬ P 112 55) (p112_56 : ¬ P 112 56) (p144 : ∀ k, ¬ P 144 k)  (hm_m : frP P m0 m) : Fr (frP P m0) (FX12_fire_J59 f a1 m) := by
  unfold FX12_fire_J59
  refine Fr.bd (FRX12_takesBack _ p112_54 p112_55 p112_56 p144 hm_m) (fun _ m8 hm_m8 => ?_)
  exact Fr.ok hm_m8
set_option maxRecDepth 100000 in
set_option maxHeartbeats 4000000 in
theorem FRX12_fire {P : Nat → Nat → Prop} {m0 : ev_M} (f : Nat) {m : ev_M} (p112_46 : ¬ P 112 46) (p112_49 : ¬ P 112 49) (p112_50 : ¬ P 112 50) (p112_51 : ¬ P 112 51) (p112_53 : ¬ P 112 53) (p112_54 : ¬ P 112 54) (p112_55 : ¬ P 112 55) (p112_56 : ¬ P 112 56) (p112_99 : ¬ P 112 99) (p144 : ∀ k, ¬ P 144 k) (p145 : ∀ k, ¬ P 145 k) (p146 : ∀ k, ¬ P 146 k) (p179 : ∀ k, ¬ P 179 k)  (hm_m : frP P m0 m) : Fr (frP P m0) (FX12_fire f m) := by
  unfold FX12_fire
  refine Fr.ite (fun _ => ?_) (fun _ => ?_)
  · exact Fr.ok hm_m
  · refine Fr.bd (FRX12_putsAside _ p112_54 p112_55 p112_56 p145 hm_m) (fun _ m2 hm_m2 => ?_)
    exact FRX12_fire_L17 _ _ p112_46 p112_49 p112_50 p112_51 p112_53 p112_55 p112_56 p112_99 p144 p146 p179 ((by
  intro e5 m6 hm_m6
  exact FRX12_fire_J59 _ _ p112_54 p112_55 p112_56 p144 hm_m6)) _ _ _ _ hm_m2
set_option maxRecDepth 100000 in
set_option maxHeartbeats 4000000 in
theorem FRX12_settles_J101 {P : Nat → Nat → Prop} {m0 : ev_M} (f : Nat) (kt72 : Int32 → Int32 → Int32 → ev_M → Option (Int32 × ev_M)) (a2 : Int32) (a3 : Int32) (a5 : Int32) {m : ev_M}  (hkt72 : ∀ (x0 : Int32) (x1 : Int32) (x2 : Int32) (xm : ev_M), frP P m0 xm → Fr (frP P m0) (kt72 x0 x1 x2 xm)) (hm_m : frP P m0 m) : Fr (frP P m0) (FX12_settles_J101 f kt72 a2 a3 a5 m) := by
  unfold FX12_settles_J101
  exact hkt72 _ _ _ _ hm_m
set_option maxRecDepth 100000 in
set_option maxHeartbeats 4000000 in
theorem FRX12_settles_L72 {P : Nat → Nat → Prop} {m0 : ev_M} (f : Nat) (k : Int32 → Int32 → ev_M → Option (Int32 × ev_M)) (a4 : Int32)  (hk : ∀ (x0 : Int32) (x1 : Int32) (xm : ev_M), frP P m0 xm → Fr (frP P m0) (k x0 x1 xm)) : ∀ (n : Nat) (a2 : Int32) (a3 : Int32) (a5 : Int32) (m : ev_M), frP P m0 m → Fr (frP P m0) (FX12_settles_L72 f k a4 n a2 a3 a5 m) := by
  intro n
  induction n with
  | zero => intros; exact Fr.none
  | succ n ih =>
    intro a2 a3 a5 m hm_m
    rw [FX12_settles_L72]
    refine Fr.ite (fun _ => ?_) (fun _ => ?_)
    · exact hk _ _ _ hm_m
    · refine Fr.ite (fun _ => ?_) (fun _ => ?_)
      · refine Fr.bd (FRX12_isAs _ _ _ hm_m) (fun r11 m12 hm_m12 => ?_)
        refine Fr.ite (fun _ => ?_) (fun _ => ?_)
        · exact FRX12_settles_J101 _ _ _ _ _ ih hm_m12
        · exact FRX12_settles_J101 _ _ _ _ _ ih hm_m12
      · exact hk _ _ _ hm_m
set_option maxRecDepth 100000 in
set_option maxHeartbeats 4000000 in
theorem FRX12_settles_J107 {P : Nat → Nat → Prop} {m0 : ev_M} (f : Nat) (kt35 : Int32 → Int32 → Int32 → ev_M → Option (Int32 × ev_M)) (a2 : Int32) (a3 : Int32) (a4 : Int32) {m : ev_M}  (hkt35 : ∀ (x0 : Int32) (x1 : Int32) (x2 : Int32) (xm : ev_M), frP P m0 xm → Fr (frP P m0) (kt35 x0 x1 x2 xm)) (hm_m : frP P m0 m) : Fr (frP P m0) (FX12_settles_J107 f kt35 a2 a3 a4 m) := by
  unfold FX12_settles_J107
  exact hkt35 _ _ _ _ hm_m
set_option maxRecDepth 100000 in
set_option maxHeartbeats 4000000 in
theorem FRX12_settles_L35 {P : Nat → Nat → Prop} {m0 : ev_M} (f : Nat) (k : Int32 → Int32 → ev_M → Option (Int32 × ev_M)) (p112_46 : ¬ P 112 46) (p112_49 : ¬ P 112 49) (p112_50 : ¬ P 112 50) (p112_51 : ¬ P 112 51) (p112_53 : ¬ P 112 53) (p112_55 : ¬ P 112 55) (p112_56 : ¬ P 112 56) (p112_99 : ¬ P 112 99) (p144 : ∀ k, ¬ P 144 k) (p146 : ∀ k, ¬ P 146 k) (p147 : ∀ k, ¬ P 147 k) (p179 : ∀ k, ¬ P 179 k) (hk : ∀ (x0 : Int32) (x1 : Int32) (xm : ev_M), frP P m0 xm → Fr (frP P m0) (k x0 x1 xm)) : ∀ (n : Nat) (a2 : Int32) (a3 : Int32) (a4 : Int32) (m : ev_M), frP P m0 m → Fr (frP P m0) (FX12_settles_L35 f k n a2 a3 a4 m) := by
  intro n
  induction n with
  | zero => intros; exact Fr.none
  | succ n ih =>
    intro a2 a3 a4 m hm_m
    rw [FX12_settles_L35]
    refine Fr.ite (fun _ => ?_) (fun _ => ?_)
    · exact hk _ _ _ hm_m
    · refine Fr.ite (fun _ => ?_) (fun _ => ?_)
      · refine Fr.ite (fun _ => ?_) (fun _ => ?_)
        · exact hk _ _ _ hm_m
        · refine Fr.bd (FRX12_roundGoes _ p112_46 p112_49 p112_50 p112_51 p112_53 p112_55 p112_56 p112_99 p144 p146 p179 hm_m) (fun _ m8 hm_m8 => ?_)
          refine Fr.bd (FRX12_isWritten _ _ p147 hm_m8) (fun _ m10 hm_m10 => ?_)
          exact FRX12_settles_L72 _ _ _ ((by
  intro e13 e14 m15 hm_m15
  exact FRX12_settles_J107 _ _ _ _ _ ih hm_m15)) _ _ _ _ _ hm_m10
      · exact hk _ _ _ hm_m
set_option maxRecDepth 100000 in
set_option maxHeartbeats 4000000 in
theorem FRX12_settles_J113 {P : Nat → Nat → Prop} {m0 : ev_M} (f : Nat) (a1 : Int32) (a2 : Int32) (a3 : Int32) {m : ev_M} (p112_54 : ¬ P 112 54) (p112_55 : ¬ P 112 55) (p112_56 : ¬ P 112 56) (p144 : ∀ k, ¬ P 144 k)  (hm_m : frP P m0 m) : Fr (frP P m0) (FX12_settles_J113 f a1 a2 a3 m) := by
  unfold FX12_settles_J113
  refine Fr.bd (FRX12_takesBack _ p112_54 p112_55 p112_56 p144 hm_m) (fun _ m20 hm_m20 => ?_)
  refine Fr.ite (fun _ => ?_) (fun _ => ?_)
  · exact Fr.ok hm_m20
  · refine Fr.ite (fun _ => ?_) (fun _ => ?_)
    · exact Fr.ok hm_m20
    · exact Fr.ok hm_m20
set_option maxRecDepth 100000 in
set_option maxHeartbeats 4000000 in
theorem FRX12_settles {P : Nat → Nat → Prop} {m0 : ev_M} (f : Nat) (a1 : Int32) {m : ev_M} (p112_46 : ¬ P 112 46) (p112_49 : ¬ P 112 49) (p112_50 : ¬ P 112 50) (p112_51 : ¬ P 112 51) (p112_53 : ¬ P 112 53) (p112_54 : ¬ P 112 54) (p112_55 : ¬ P 112 55) (p112_56 : ¬ P 112 56) (p112_99 : ¬ P 112 99) (p144 : ∀ k, ¬ P 144 k) (p145 : ∀ k, ¬ P 145 k) (p146 : ∀ k, ¬ P 146 k) (p147 : ∀ k, ¬ P 147 k) (p179 : ∀ k, ¬ P 179 k)  (hm_m : frP P m0 m) : Fr (frP P m0) (FX12_settles f a1 m) := by
  unfold FX12_settles
  refine Fr.ite (fun _ => ?_) (fun _ => ?_)
  · exact Fr.ok hm_m
  · refine Fr.bd (FRX12_isIn _ _ _ _ hm_m) (fun r1 m2 hm_m2 => ?_)
    refine Fr.ite (fun _ => ?_) (fun _ => ?_)
    · exact Fr.ok hm_m2
    · refine Fr.bd (FRX12_putsAside _ p112_54 p112_55 p112_56 p145 hm_m2) (fun _ m4 hm_m4 => ?_)
      refine Fr.bd (FRX12_isWritten _ _ p147 hm_m4) (fun _ m6 hm_m6 => ?_)
      exact FRX12_settles_L35 _ _ p112_46 p112_49 p112_50 p112_51 p112_53 p112_55 p112_56 p112_99 p144 p146 p147 p179 ((by
  intro e16 e17 m18 hm_m18
  exact FRX12_settles_J113 _ _ _ _ p112_54 p112_55 p112_56 p144 hm_m18)) _ _ _ _ _ hm_m6
set_option maxRecDepth 100000 in
set_option maxHeartbeats 4000000 in
theorem FRX12_isCheered_J33 {P : Nat → Nat → Prop} {m0 : ev_M} (f : Nat) (kt2 : Int32 → ev_M → Option (Int32 × ev_M)) (a3 : Int32) {m : ev_M}  (hkt2 : ∀ (x0 : Int32) (xm : ev_M), frP P m0 xm → Fr (frP P m0) (kt2 x0 xm)) (hm_m : frP P m0 m) : Fr (frP P m0) (FX12_isCheered_J33 f kt2 a3 m) := by
  unfold FX12_isCheered_J33
  exact hkt2 _ _ hm_m
set_option maxRecDepth 100000 in
set_option maxHeartbeats 4000000 in
theorem FRX12_isCheered_L2 {P : Nat → Nat → Prop} {m0 : ev_M} (f : Nat) (k : ev_M → Option (Int32 × ev_M)) (a1 : Int32) (p144 : ∀ k, ¬ P 144 k) (hk : ∀  (xm : ev_M), frP P m0 xm → Fr (frP P m0) (k xm)) : ∀ (n : Nat) (a3 : Int32) (m : ev_M), frP P m0 m → Fr (frP P m0) (FX12_isCheered_L2 f k a1 n a3 m) := by
  intro n
  induction n with
  | zero => intros; exact Fr.none
  | succ n ih =>
    intro a3 m hm_m
    rw [FX12_isCheered_L2]
    refine Fr.bd (FRX12_towerMany _ hm_m) (fun r1 m2 hm_m2 => ?_)
    refine Fr.ite (fun _ => ?_) (fun _ => ?_)
    · exact hk _ hm_m2
    · refine Fr.ite (fun _ => ?_) (fun _ => ?_)
      · refine Fr.ite (fun _ => ?_) (fun _ => ?_)
        · exact FRX12_isCheered_J33 _ _ _ ih (frP_I (p144 _) hm_m2)
        · exact Fr.none
      · exact FRX12_isCheered_J33 _ _ _ ih hm_m2
set_option maxRecDepth 100000 in
set_option maxHeartbeats 4000000 in
theorem FRX12_isCheered_J56 {P : Nat → Nat → Prop} {m0 : ev_M} (f : Nat) (s0 : Int32) {m : ev_M} (p112_55 : ¬ P 112 55) (p112_56 : ¬ P 112 56) (p144 : ∀ k, ¬ P 144 k)  (hm_m : frP P m0 m) : Fr (frP P m0) (FX12_isCheered_J56 f s0 m) := by
  unfold FX12_isCheered_J56
  refine Fr.bd (FRX12_triesAnew _ p112_55 p112_56 p144 hm_m) (fun _ m7 hm_m7 => ?_)
  refine Fr.ite (fun _ => ?_) (fun _ => ?_)
  · exact Fr.ok hm_m7
  · exact Fr.none
set_option maxRecDepth 100000 in
set_option maxHeartbeats 4000000 in
theorem FRX12_isCheered {P : Nat → Nat → Prop} {m0 : ev_M} (f : Nat) (a1 : Int32) (a2 : Int32) {m : ev_M} (p112_46 : ¬ P 112 46) (p112_49 : ¬ P 112 49) (p112_50 : ¬ P 112 50) (p112_51 : ¬ P 112 51) (p112_53 : ¬ P 112 53) (p112_55 : ¬ P 112 55) (p112_56 : ¬ P 112 56) (p112_99 : ¬ P 112 99) (p144 : ∀ k, ¬ P 144 k) (p146 : ∀ k, ¬ P 146 k) (p179 : ∀ k, ¬ P 179 k)  (hm_m : frP P m0 m) : Fr (frP P m0) (FX12_isCheered f a1 a2 m) := by
  unfold FX12_isCheered
  exact FRX12_isCheered_L2 _ _ _ p144 ((by
  intro m3 hm_m3
  refine Fr.bd (FRX12_roundsGo _ _ p112_46 p112_49 p112_50 p112_51 p112_53 p112_55 p112_56 p112_99 p144 p146 p179 hm_m3) (fun _ m5 hm_m5 => ?_)
  refine Fr.ite (fun _ => ?_) (fun _ => ?_)
  · exact FRX12_isCheered_J56 _ _ p112_55 p112_56 p144 hm_m5
  · exact FRX12_isCheered_J56 _ _ p112_55 p112_56 p144 hm_m5)) _ _ _ hm_m
set_option maxRecDepth 100000 in
set_option maxHeartbeats 4000000 in
theorem FRX12_isSighed_J22 {P : Nat → Nat → Prop} {m0 : ev_M} (f : Nat) (s0 : Int32) {m : ev_M} (p112_55 : ¬ P 112 55) (p112_56 : ¬ P 112 56) (p144 : ∀ k, ¬ P 144 k)  (hm_m : frP P m0 m) : Fr (frP P m0) (FX12_isSighed_J22 f s0 m) := by
  unfold FX12_isSighed_J22
  refine Fr.bd (FRX12_triesAnew _ p112_55 p112_56 p144 hm_m) (fun _ m4 hm_m4 => ?_)
  refine Fr.ite (fun _ => ?_) (fun _ => ?_)
  · exact Fr.ok hm_m4
  · exact Fr.none
set_option maxRecDepth 100000 in
set_option maxHeartbeats 4000000 in
theorem FRX12_isSighed {P : Nat → Nat → Prop} {m0 : ev_M} (f : Nat) (a1 : Int32) (a2 : Int32) {m : ev_M} (p112_46 : ¬ P 112 46) (p112_49 : ¬ P 112 49) (p112_50 : ¬ P 112 50) (p112_51 : ¬ P 112 51) (p112_53 : ¬ P 112 53) (p112_55 : ¬ P 112 55) (p112_56 : ¬ P 112 56) (p112_99 : ¬ P 112 99) (p144 : ∀ k, ¬ P 144 k) (p146 : ∀ k, ¬ P 146 k) (p179 : ∀ k, ¬ P 179 k)  (hm_m : frP P m0 m) : Fr (frP P m0) (FX12_isSighed f a1 a2 m) := by
  unfold FX12_isSighed
  refine Fr.bd (FRX12_roundsGo _ _ p112_46 p112_49 p112_50 p112_51 p112_53 p112_55 p112_56 p112_99 p144 p146 p179 (frP_I p112_53 hm_m)) (fun _ m2 hm_m2 => ?_)
  refine Fr.ite (fun _ => ?_) (fun _ => ?_)
  · exact FRX12_isSighed_J22 _ _ p112_55 p112_56 p144 hm_m2
  · exact FRX12_isSighed_J22 _ _ p112_55 p112_56 p144 hm_m2
set_option maxRecDepth 100000 in
set_option maxHeartbeats 4000000 in
theorem FRX12_fewest_J79 {P : Nat → Nat → Prop} {m0 : ev_M} (f : Nat) (kt9 : Int32 → Int32 → ev_M → Option (Int32 × ev_M)) (a3 : Int32) (a4 : Int32) {m : ev_M}  (hkt9 : ∀ (x0 : Int32) (x1 : Int32) (xm : ev_M), frP P m0 xm → Fr (frP P m0) (kt9 x0 x1 xm)) (hm_m : frP P m0 m) : Fr (frP P m0) (FX12_fewest_J79 f kt9 a3 a4 m) := by
  unfold FX12_fewest_J79
  exact hkt9 _ _ _ hm_m
set_option maxRecDepth 100000 in
set_option maxHeartbeats 4000000 in
theorem FRX12_fewest_J76 {P : Nat → Nat → Prop} {m0 : ev_M} (f : Nat) (kt9 : Int32 → Int32 → ev_M → Option (Int32 × ev_M)) (a4 : Int32) {m : ev_M}  (hkt9 : ∀ (x0 : Int32) (x1 : Int32) (xm : ev_M), frP P m0 xm → Fr (frP P m0) (kt9 x0 x1 xm)) (hm_m : frP P m0 m) : Fr (frP P m0) (FX12_fewest_J76 f kt9 a4 m) := by
  unfold FX12_fewest_J76
  exact FRX12_fewest_J79 _ _ _ _ hkt9 hm_m
set_option maxRecDepth 100000 in
set_option maxHeartbeats 4000000 in
theorem FRX12_fewest_J49 {P : Nat → Nat → Prop} {m0 : ev_M} (f : Nat) (kt9 : Int32 → Int32 → ev_M → Option (Int32 × ev_M)) (a1 : Int32) (a2 : Int32) (a3 : Int32) (a4 : Int32) {m : ev_M} (p112_46 : ¬ P 112 46) (p112_49 : ¬ P 112 49) (p112_50 : ¬ P 112 50) (p112_51 : ¬ P 112 51) (p112_53 : ¬ P 112 53) (p112_55 : ¬ P 112 55) (p112_56 : ¬ P 112 56) (p112_99 : ¬ P 112 99) (p144 : ∀ k, ¬ P 144 k) (p146 : ∀ k, ¬ P 146 k) (p179 : ∀ k, ¬ P 179 k) (hkt9 : ∀ (x0 : Int32) (x1 : Int32) (xm : ev_M), frP P m0 xm → Fr (frP P m0) (kt9 x0 x1 xm)) (hm_m : frP P m0 m) : Fr (frP P m0) (FX12_fewest_J49 f kt9 a1 a2 a3 a4 m) := by
  unfold FX12_fewest_J49
  refine Fr.ite (fun _ => ?_) (fun _ => ?_)
  · refine Fr.bd (FRX12_isSighed _ _ _ p112_46 p112_49 p112_50 p112_51 p112_53 p112_55 p112_56 p112_99 p144 p146 p179 hm_m) (fun r7 m8 hm_m8 => ?_)
    refine Fr.ite (fun _ => ?_) (fun _ => ?_)
    · exact FRX12_fewest_J79 _ _ _ _ hkt9 hm_m8
    · exact FRX12_fewest_J76 _ _ _ hkt9 hm_m8
  · refine Fr.bd (FRX12_isCheered _ _ _ p112_46 p112_49 p112_50 p112_51 p112_53 p112_55 p112_56 p112_99 p144 p146 p179 hm_m) (fun r9 m10 hm_m10 => ?_)
    refine Fr.ite (fun _ => ?_) (fun _ => ?_)
    · exact FRX12_fewest_J79 _ _ _ _ hkt9 hm_m10
    · exact FRX12_fewest_J76 _ _ _ hkt9 hm_m10
set_option maxRecDepth 100000 in
set_option maxHeartbeats 4000000 in
theorem FRX12_fewest_L9 {P : Nat → Nat → Prop} {m0 : ev_M} (f : Nat) (k : Int32 → ev_M → Option (Int32 × ev_M)) (a1 : Int32) (a2 : Int32) (p112_46 : ¬ P 112 46) (p112_49 : ¬ P 112 49) (p112_50 : ¬ P 112 50) (p112_51 : ¬ P 112 51) (p112_53 : ¬ P 112 53) (p112_55 : ¬ P 112 55) (p112_56 : ¬ P 112 56) (p112_99 : ¬ P 112 99) (p144 : ∀ k, ¬ P 144 k) (p146 : ∀ k, ¬ P 146 k) (p179 : ∀ k, ¬ P 179 k) (hk : ∀ (x0 : Int32) (xm : ev_M), frP P m0 xm → Fr (frP P m0) (k x0 xm)) : ∀ (n : Nat) (a3 : Int32) (a4 : Int32) (m : ev_M), frP P m0 m → Fr (frP P m0) (FX12_fewest_L9 f k a1 a2 n a3 a4 m) := by
  intro n
  induction n with
  | zero => intros; exact Fr.none
  | succ n ih =>
    intro a3 a4 m hm_m
    rw [FX12_fewest_L9]
    refine Fr.bd (FRX12_towerMany _ hm_m) (fun r3 m4 hm_m4 => ?_)
    refine Fr.ite (fun _ => ?_) (fun _ => ?_)
    · exact hk _ _ hm_m4
    · refine Fr.bd (FRX12_bits _ _ hm_m4) (fun r5 m6 hm_m6 => ?_)
      refine Fr.ite (fun _ => ?_) (fun _ => ?_)
      · exact FRX12_fewest_J79 _ _ _ _ ih hm_m6
      · refine Fr.ite (fun _ => ?_) (fun _ => ?_)
        · exact FRX12_fewest_J49 _ _ _ _ _ _ p112_46 p112_49 p112_50 p112_51 p112_53 p112_55 p112_56 p112_99 p144 p146 p179 ih hm_m6
        · refine Fr.bd (FRX12_bits _ _ hm_m6) (fun r11 m12 hm_m12 => ?_)
          refine Fr.bd (FRX12_bits _ _ hm_m12) (fun r13 m14 hm_m14 => ?_)
          refine Fr.ite (fun _ => ?_) (fun _ => ?_)
          · exact FRX12_fewest_J49 _ _ _ _ _ _ p112_46 p112_49 p112_50 p112_51 p112_53 p112_55 p112_56 p112_99 p144 p146 p179 ih hm_m14
          · exact FRX12_fewest_J79 _ _ _ _ ih hm_m14
set_option maxRecDepth 100000 in
set_option maxHeartbeats 4000000 in
theorem FRX12_fewest {P : Nat → Nat → Prop} {m0 : ev_M} (f : Nat) (a1 : Int32) (a2 : Int32) {m : ev_M} (p112_46 : ¬ P 112 46) (p112_49 : ¬ P 112 49) (p112_50 : ¬ P 112 50) (p112_51 : ¬ P 112 51) (p112_53 : ¬ P 112 53) (p112_54 : ¬ P 112 54) (p112_55 : ¬ P 112 55) (p112_56 : ¬ P 112 56) (p112_99 : ¬ P 112 99) (p144 : ∀ k, ¬ P 144 k) (p145 : ∀ k, ¬ P 145 k) (p146 : ∀ k, ¬ P 146 k) (p179 : ∀ k, ¬ P 179 k)  (hm_m : frP P m0 m) : Fr (frP P m0) (FX12_fewest f a1 a2 m) := by
  unfold FX12_fewest
  refine Fr.bd (FRX12_putsAside _ p112_54 p112_55 p112_56 p145 hm_m) (fun _ m2 hm_m2 => ?_)
  exact FRX12_fewest_L9 _ _ _ _ p112_46 p112_49 p112_50 p112_51 p112_53 p112_55 p112_56 p112_99 p144 p146 p179 ((by
  intro e15 m16 hm_m16
  refine Fr.bd (FRX12_takesBack _ p112_54 p112_55 p112_56 p144 hm_m16) (fun _ m18 hm_m18 => ?_)
  exact Fr.ok hm_m18)) _ _ _ _ hm_m2
set_option maxRecDepth 100000 in
set_option maxHeartbeats 4000000 in
theorem FRX12_cheered {P : Nat → Nat → Prop} {m0 : ev_M} (f : Nat) (a1 : Int32) {m : ev_M} (p112_46 : ¬ P 112 46) (p112_49 : ¬ P 112 49) (p112_50 : ¬ P 112 50) (p112_51 : ¬ P 112 51) (p112_53 : ¬ P 112 53) (p112_54 : ¬ P 112 54) (p112_55 : ¬ P 112 55) (p112_56 : ¬ P 112 56) (p112_99 : ¬ P 112 99) (p144 : ∀ k, ¬ P 144 k) (p145 : ∀ k, ¬ P 145 k) (p146 : ∀ k, ¬ P 146 k) (p179 : ∀ k, ¬ P 179 k)  (hm_m : frP P m0 m) : Fr (frP P m0) (FX12_cheered f a1 m) := by
  unfold FX12_cheered
  refine Fr.bd (FRX12_isAhead _ _ _ _ hm_m) (fun r1 m2 hm_m2 => ?_)
  refine Fr.ite (fun _ => ?_) (fun _ => ?_)
  · exact Fr.ok hm_m2
  · refine Fr.bd (FRX12_fewest _ _ _ p112_46 p112_49 p112_50 p112_51 p112_53 p112_54 p112_55 p112_56 p112_99 p144 p145 p146 p179 hm_m2) (fun r3 m4 hm_m4 => ?_)
    exact Fr.ok hm_m4
set_option maxRecDepth 100000 in
set_option maxHeartbeats 4000000 in
theorem FRX12_sighs {P : Nat → Nat → Prop} {m0 : ev_M} (f : Nat) (a1 : Int32) {m : ev_M} (p112_46 : ¬ P 112 46) (p112_49 : ¬ P 112 49) (p112_50 : ¬ P 112 50) (p112_51 : ¬ P 112 51) (p112_53 : ¬ P 112 53) (p112_54 : ¬ P 112 54) (p112_55 : ¬ P 112 55) (p112_56 : ¬ P 112 56) (p112_99 : ¬ P 112 99) (p144 : ∀ k, ¬ P 144 k) (p145 : ∀ k, ¬ P 145 k) (p146 : ∀ k, ¬ P 146 k) (p179 : ∀ k, ¬ P 179 k)  (hm_m : frP P m0 m) : Fr (frP P m0) (FX12_sighs f a1 m) := by
  unfold FX12_sighs
  refine Fr.bd (FRX12_isAhead _ _ _ _ hm_m) (fun r1 m2 hm_m2 => ?_)
  refine Fr.ite (fun _ => ?_) (fun _ => ?_)
  · exact Fr.ok hm_m2
  · refine Fr.bd (FRX12_fewest _ _ _ p112_46 p112_49 p112_50 p112_51 p112_53 p112_54 p112_55 p112_56 p112_99 p144 p145 p146 p179 hm_m2) (fun r3 m4 hm_m4 => ?_)
    exact Fr.ok hm_m4
set_option maxRecDepth 100000 in
set_option maxHeartbeats 4000000 in
theorem FRX12_doubtsIn {P : Nat → Nat → Prop} {m0 : ev_M} (f : Nat) (a1 : Int32) {m : ev_M} (p112_46 : ¬ P 112 46) (p112_49 : ¬ P 112 49) (p112_50 : ¬ P 112 50) (p112_51 : ¬ P 112 51) (p112_53 : ¬ P 112 53) (p112_55 : ¬ P 112 55) (p112_56 : ¬ P 112 56) (p112_99 : ¬ P 112 99) (p144 : ∀ k, ¬ P 144 k) (p146 : ∀ k, ¬ P 146 k) (p179 : ∀ k, ¬ P 179 k)  (hm_m : frP P m0 m) : Fr (frP P m0) (FX12_doubtsIn f a1 m) := by
  unfold FX12_doubtsIn
  refine Fr.bd (FRX12_roundsGo _ _ p112_46 p112_49 p112_50 p112_51 p112_53 p112_55 p112_56 p112_99 p144 p146 p179 hm_m) (fun _ m2 hm_m2 => ?_)
  refine Fr.bd (FRX12_triesAnew _ p112_55 p112_56 p144 hm_m2) (fun _ m4 hm_m4 => ?_)
  exact Fr.ok hm_m4
set_option maxRecDepth 100000 in
set_option maxHeartbeats 4000000 in
theorem FRX12_better_J97 {P : Nat → Nat → Prop} {m0 : ev_M} (f : Nat) (kt39 : Int32 → Int32 → Int32 → ev_M → Option (Int32 × ev_M)) (a3 : Int32) (a4 : Int32) (a5 : Int32) {m : ev_M}  (hkt39 : ∀ (x0 : Int32) (x1 : Int32) (x2 : Int32) (xm : ev_M), frP P m0 xm → Fr (frP P m0) (kt39 x0 x1 x2 xm)) (hm_m : frP P m0 m) : Fr (frP P m0) (FX12_better_J97 f kt39 a3 a4 a5 m) := by
  unfold FX12_better_J97
  exact hkt39 _ _ _ _ hm_m
set_option maxRecDepth 100000 in
set_option maxHeartbeats 4000000 in
theorem FRX12_better_L39 {P : Nat → Nat → Prop} {m0 : ev_M} (f : Nat) (k : Int32 → Int32 → ev_M → Option (Int32 × ev_M)) (a1 : Int32) (p112_46 : ¬ P 112 46) (p112_49 : ¬ P 112 49) (p112_50 : ¬ P 112 50) (p112_51 : ¬ P 112 51) (p112_53 : ¬ P 112 53) (p112_55 : ¬ P 112 55) (p112_56 : ¬ P 112 56) (p112_99 : ¬ P 112 99) (p144 : ∀ k, ¬ P 144 k) (p146 : ∀ k, ¬ P 146 k) (p179 : ∀ k, ¬ P 179 k) (hk : ∀ (x0 : Int32) (x1 : Int32) (xm : ev_M), frP P m0 xm → Fr (frP P m0) (k x0 x1 xm)) : ∀ (n : Nat) (a3 : Int32) (a4 : Int32) (a5 : Int32) (m : ev_M), frP P m0 m → Fr (frP P m0) (FX12_better_L39 f k a1 n a3 a4 a5 m) := by
  intro n
  induction n with
  | zero => intros; exact Fr.none
  | succ n ih =>
    intro a3 a4 a5 m hm_m
    rw [FX12_better_L39]
    refine Fr.bd (FRX12_towerMany _ hm_m) (fun r9 m10 hm_m10 => ?_)
    refine Fr.ite (fun _ => ?_) (fun _ => ?_)
    · exact hk _ _ _ hm_m10
    · refine Fr.bd (FRX12_isYes _ _ hm_m10) (fun r11 m12 hm_m12 => ?_)
      refine Fr.ite (fun _ => ?_) (fun _ => ?_)
      · refine Fr.ite (fun _ => ?_) (fun _ => ?_)
        · refine Fr.bd (FRX12_doubtsIn _ _ p112_46 p112_49 p112_50 p112_51 p112_53 p112_55 p112_56 p112_99 p144 p146 p179 (frP_I (p144 _) hm_m12)) (fun r13 m14 hm_m14 => ?_)
          refine Fr.ite (fun _ => ?_) (fun _ => ?_)
          · exact FRX12_better_J97 _ _ _ _ _ ih hm_m14
          · exact FRX12_better_J97 _ _ _ _ _ ih hm_m14
        · exact Fr.none
      · exact FRX12_better_J97 _ _ _ _ _ ih hm_m12
set_option maxRecDepth 100000 in
set_option maxHeartbeats 4000000 in
theorem FRX12_better {P : Nat → Nat → Prop} {m0 : ev_M} (f : Nat) (a1 : Int32) (a2 : Int32) {m : ev_M} (p112_46 : ¬ P 112 46) (p112_49 : ¬ P 112 49) (p112_50 : ¬ P 112 50) (p112_51 : ¬ P 112 51) (p112_53 : ¬ P 112 53) (p112_54 : ¬ P 112 54) (p112_55 : ¬ P 112 55) (p112_56 : ¬ P 112 56) (p112_99 : ¬ P 112 99) (p144 : ∀ k, ¬ P 144 k) (p145 : ∀ k, ¬ P 145 k) (p146 : ∀ k, ¬ P 146 k) (p179 : ∀ k, ¬ P 179 k)  (hm_m : frP P m0 m) : Fr (frP P m0) (FX12_better f a1 a2 m) := by
  unfold FX12_better
  refine Fr.bd (FRX12_isAhead _ _ _ _ hm_m) (fun r1 m2 hm_m2 => ?_)
  refine Fr.ite (fun _ => ?_) (fun _ => ?_)
  · exact Fr.ok hm_m2
  · refine Fr.bd (FRX12_isIn _ _ _ _ hm_m2) (fun r3 m4 hm_m4 => ?_)
    refine Fr.ite (fun _ => ?_) (fun _ => ?_)
    · exact Fr.ok hm_m4
    · refine Fr.bd (FRX12_putsAside _ p112_54 p112_55 p112_56 p145 hm_m4) (fun _ m6 hm_m6 => ?_)
      refine Fr.bd (FRX12_doubtsIn _ _ p112_46 p112_49 p112_50 p112_51 p112_53 p112_55 p112_56 p112_99 p144 p146 p179 hm_m6) (fun r7 m8 hm_m8 => ?_)
      exact FRX12_better_L39 _ _ _ p112_46 p112_49 p112_50 p112_51 p112_53 p112_55 p112_56 p112_99 p144 p146 p179 ((by
  intro e15 e16 m17 hm_m17
  refine Fr.bd (FRX12_takesBack _ p112_54 p112_55 p112_56 p144 hm_m17) (fun _ m19 hm_m19 => ?_)
  refine Fr.ite (fun _ => ?_) (fun _ => ?_)
  · exact Fr.ok hm_m19
  · refine Fr.ite (fun _ => ?_) (fun _ => ?_)
    · exact Fr.ok hm_m19
    · exact Fr.ok hm_m19)) _ _ _ _ _ hm_m8
set_option maxRecDepth 100000 in
set_option maxHeartbeats 4000000 in
theorem FRX12_placed_J103 {P : Nat → Nat → Prop} {m0 : ev_M} (f : Nat) (kt59 : Int32 → Int32 → Int32 → Int32 → ev_M → Option (Int32 × ev_M)) (a3 : Int32) (a4 : Int32) (a5 : Int32) (a7 : Int32) {m : ev_M}  (hkt59 : ∀ (x0 : Int32) (x1 : Int32) (x2 : Int32) (x3 : Int32) (xm : ev_M), frP P m0 xm → Fr (frP P m0) (kt59 x0 x1 x2 x3 xm)) (hm_m : frP P m0 m) : Fr (frP P m0) (FX12_placed_J103 f kt59 a3 a4 a5 a7 m) := by
  unfold FX12_placed_J103
  exact hkt59 _ _ _ _ _ hm_m
set_option maxRecDepth 100000 in
set_option maxHeartbeats 4000000 in
theorem FRX12_placed_L59 {P : Nat → Nat → Prop} {m0 : ev_M} (f : Nat) (k : Int32 → Int32 → Int32 → ev_M → Option (Int32 × ev_M)) (a1 : Int32) (a6 : Int32) (p112_46 : ¬ P 112 46) (p112_49 : ¬ P 112 49) (p112_50 : ¬ P 112 50) (p112_51 : ¬ P 112 51) (p112_53 : ¬ P 112 53) (p112_55 : ¬ P 112 55) (p112_56 : ¬ P 112 56) (p112_99 : ¬ P 112 99) (p144 : ∀ k, ¬ P 144 k) (p146 : ∀ k, ¬ P 146 k) (p179 : ∀ k, ¬ P 179 k) (hk : ∀ (x0 : Int32) (x1 : Int32) (x2 : Int32) (xm : ev_M), frP P m0 xm → Fr (frP P m0) (k x0 x1 x2 xm)) : ∀ (n : Nat) (a3 : Int32) (a4 : Int32) (a5 : Int32) (a7 : Int32) (m : ev_M), frP P m0 m → Fr (frP P m0) (FX12_placed_L59 f k a1 a6 n a3 a4 a5 a7 m) := by
  intro n
  induction n with
  | zero => intros; exact Fr.none
  | succ n ih =>
    intro a3 a4 a5 a7 m hm_m
    rw [FX12_placed_L59]
    refine Fr.bd (FRX12_towerMany _ hm_m) (fun r11 m12 hm_m12 => ?_)
    refine Fr.ite (fun _ => ?_) (fun _ => ?_)
    · exact hk _ _ _ _ hm_m12
    · refine Fr.bd (FRX12_changes _ _ _ p144 hm_m12) (fun _ m14 hm_m14 => ?_)
      refine Fr.bd (FRX12_doubtsIn _ _ p112_46 p112_49 p112_50 p112_51 p112_53 p112_55 p112_56 p112_99 p144 p146 p179 hm_m14) (fun r15 m16 hm_m16 => ?_)
      refine Fr.ite (fun _ => ?_) (fun _ => ?_)
      · exact FRX12_placed_J103 _ _ _ _ _ _ ih hm_m16
      · exact FRX12_placed_J103 _ _ _ _ _ _ ih hm_m16
set_option maxRecDepth 100000 in
set_option maxHeartbeats 4000000 in
theorem FRX12_placed_L44 {P : Nat → Nat → Prop} {m0 : ev_M} (f : Nat) (k : Int32 → Int32 → Int32 → ev_M → Option (Int32 × ev_M)) (a1 : Int32) (p112_46 : ¬ P 112 46) (p112_49 : ¬ P 112 49) (p112_50 : ¬ P 112 50) (p112_51 : ¬ P 112 51) (p112_53 : ¬ P 112 53) (p112_55 : ¬ P 112 55) (p112_56 : ¬ P 112 56) (p112_99 : ¬ P 112 99) (p144 : ∀ k, ¬ P 144 k) (p146 : ∀ k, ¬ P 146 k) (p179 : ∀ k, ¬ P 179 k) (hk : ∀ (x0 : Int32) (x1 : Int32) (x2 : Int32) (xm : ev_M), frP P m0 xm → Fr (frP P m0) (k x0 x1 x2 xm)) : ∀ (n : Nat) (a3 : Int32) (a4 : Int32) (a5 : Int32) (a6 : Int32) (m : ev_M), frP P m0 m → Fr (frP P m0) (FX12_placed_L44 f k a1 n a3 a4 a5 a6 m) := by
  intro n
  induction n with
  | zero => intros; exact Fr.none
  | succ n ih =>
    intro a3 a4 a5 a6 m hm_m
    rw [FX12_placed_L44]
    refine Fr.bd (FRX12_towerMany _ hm_m) (fun r9 m10 hm_m10 => ?_)
    refine Fr.ite (fun _ => ?_) (fun _ => ?_)
    · exact hk _ _ _ _ hm_m10
    · exact FRX12_placed_L59 _ _ _ _ p112_46 p112_49 p112_50 p112_51 p112_53 p112_55 p112_56 p112_99 p144 p146 p179 ((by
  intro e17 e18 e19 m20 hm_m20
  exact ih _ _ _ _ _ hm_m20)) _ _ _ _ _ _ hm_m10
set_option maxRecDepth 100000 in
set_option maxHeartbeats 4000000 in
theorem FRX12_placed {P : Nat → Nat → Prop} {m0 : ev_M} (f : Nat) (a1 : Int32) (a2 : Int32) {m : ev_M} (p112_46 : ¬ P 112 46) (p112_49 : ¬ P 112 49) (p112_50 : ¬ P 112 50) (p112_51 : ¬ P 112 51) (p112_53 : ¬ P 112 53) (p112_54 : ¬ P 112 54) (p112_55 : ¬ P 112 55) (p112_56 : ¬ P 112 56) (p112_99 : ¬ P 112 99) (p144 : ∀ k, ¬ P 144 k) (p145 : ∀ k, ¬ P 145 k) (p146 : ∀ k, ¬ P 146 k) (p179 : ∀ k, ¬ P 179 k)  (hm_m : frP P m0 m) : Fr (frP P m0) (FX12_placed f a1 a2 m) := by
  unfold FX12_placed
  refine Fr.bd (FRX12_isAhead _ _ _ _ hm_m) (fun r1 m2 hm_m2 => ?_)
  refine Fr.ite (fun _ => ?_) (fun _ => ?_)
  · exact Fr.ok hm_m2
  · refine Fr.bd (FRX12_isIn _ _ _ _ hm_m2) (fun r3 m4 hm_m4 => ?_)
    refine Fr.ite (fun _ => ?_) (fun _ => ?_)
    · exact Fr.ok hm_m4
    · refine Fr.bd (FRX12_putsAside _ p112_54 p112_55 p112_56 p145 hm_m4) (fun _ m6 hm_m6 => ?_)
      refine Fr.bd (FRX12_doubtsIn _ _ p112_46 p112_49 p112_50 p112_51 p112_53 p112_55 p112_56 p112_99 p144 p146 p179 hm_m6) (fun r7 m8 hm_m8 => ?_)
      exact FRX12_placed_L44 _ _ _ p112_46 p112_49 p112_50 p112_51 p112_53 p112_55 p112_56 p112_99 p144 p146 p179 ((by
  intro e21 e22 e23 m24 hm_m24
  refine Fr.bd (FRX12_takesBack _ p112_54 p112_55 p112_56 p144 hm_m24) (fun _ m26 hm_m26 => ?_)
  refine Fr.ite (fun _ => ?_) (fun _ => ?_)
  · exact Fr.ok hm_m26
  · refine Fr.ite (fun _ => ?_) (fun _ => ?_)
    · exact Fr.ok hm_m26
    · refine Fr.ite (fun _ => ?_) (fun _ => ?_)
      · exact Fr.ok hm_m26
      · exact Fr.ok hm_m26)) _ _ _ _ _ _ hm_m8
set_option maxRecDepth 100000 in
set_option maxHeartbeats 4000000 in
theorem FRX12_ditched_J63 {P : Nat → Nat → Prop} {m0 : ev_M} (f : Nat) (kt4 : Int32 → Int32 → ev_M → Option (Int32 × ev_M)) (a2 : Int32) (a3 : Int32) {m : ev_M}  (hkt4 : ∀ (x0 : Int32) (x1 : Int32) (xm : ev_M), frP P m0 xm → Fr (frP P m0) (kt4 x0 x1 xm)) (hm_m : frP P m0 m) : Fr (frP P m0) (FX12_ditched_J63 f kt4 a2 a3 m) := by
  unfold FX12_ditched_J63
  exact hkt4 _ _ _ hm_m
set_option maxRecDepth 100000 in
set_option maxHeartbeats 4000000 in
theorem FRX12_ditched_J44 {P : Nat → Nat → Prop} {m0 : ev_M} (f : Nat) (kt4 : Int32 → Int32 → ev_M → Option (Int32 × ev_M)) (a2 : Int32) (a3 : Int32) (s1 : Int32) {m : ev_M} (p112_46 : ¬ P 112 46) (p112_49 : ¬ P 112 49) (p112_50 : ¬ P 112 50) (p112_51 : ¬ P 112 51) (p112_53 : ¬ P 112 53) (p112_55 : ¬ P 112 55) (p112_56 : ¬ P 112 56) (p112_99 : ¬ P 112 99) (p144 : ∀ k, ¬ P 144 k) (p146 : ∀ k, ¬ P 146 k) (p179 : ∀ k, ¬ P 179 k) (hkt4 : ∀ (x0 : Int32) (x1 : Int32) (xm : ev_M), frP P m0 xm → Fr (frP P m0) (kt4 x0 x1 xm)) (hm_m : frP P m0 m) : Fr (frP P m0) (FX12_ditched_J44 f kt4 a2 a3 s1 m) := by
  unfold FX12_ditched_J44
  refine Fr.bd (FRX12_doubtsIn _ _ p112_46 p112_49 p112_50 p112_51 p112_53 p112_55 p112_56 p112_99 p144 p146 p179 (frP_I p112_53 hm_m)) (fun r3 m4 hm_m4 => ?_)
  refine Fr.ite (fun _ => ?_) (fun _ => ?_)
  · exact FRX12_ditched_J63 _ _ _ _ hkt4 hm_m4
  · exact FRX12_ditched_J63 _ _ _ _ hkt4 hm_m4
set_option maxRecDepth 100000 in
set_option maxHeartbeats 4000000 in
theorem FRX12_ditched_J31 {P : Nat → Nat → Prop} {m0 : ev_M} (f : Nat) (kt4 : Int32 → Int32 → ev_M → Option (Int32 × ev_M)) (a2 : Int32) (a3 : Int32) {m : ev_M} (p112_46 : ¬ P 112 46) (p112_49 : ¬ P 112 49) (p112_50 : ¬ P 112 50) (p112_51 : ¬ P 112 51) (p112_53 : ¬ P 112 53) (p112_55 : ¬ P 112 55) (p112_56 : ¬ P 112 56) (p112_99 : ¬ P 112 99) (p144 : ∀ k, ¬ P 144 k) (p146 : ∀ k, ¬ P 146 k) (p179 : ∀ k, ¬ P 179 k) (hkt4 : ∀ (x0 : Int32) (x1 : Int32) (xm : ev_M), frP P m0 xm → Fr (frP P m0) (kt4 x0 x1 xm)) (hm_m : frP P m0 m) : Fr (frP P m0) (FX12_ditched_J31 f kt4 a2 a3 m) := by
  unfold FX12_ditched_J31
  refine Fr.ite (fun _ => ?_) (fun _ => ?_)
  · exact FRX12_ditched_J44 _ _ _ _ _ p112_46 p112_49 p112_50 p112_51 p112_53 p112_55 p112_56 p112_99 p144 p146 p179 hkt4 hm_m
  · exact FRX12_ditched_J44 _ _ _ _ _ p112_46 p112_49 p112_50 p112_51 p112_53 p112_55 p112_56 p112_99 p144 p146 p179 hkt4 hm_m
set_option maxRecDepth 100000 in
set_option maxHeartbeats 4000000 in
theorem FRX12_ditched_L4 {P : Nat → Nat → Prop} {m0 : ev_M} (f : Nat) (k : Int32 → ev_M → Option (Int32 × ev_M)) (a1 : Int32) (p112_46 : ¬ P 112 46) (p112_49 : ¬ P 112 49) (p112_50 : ¬ P 112 50) (p112_51 : ¬ P 112 51) (p112_53 : ¬ P 112 53) (p112_55 : ¬ P 112 55) (p112_56 : ¬ P 112 56) (p112_99 : ¬ P 112 99) (p144 : ∀ k, ¬ P 144 k) (p146 : ∀ k, ¬ P 146 k) (p179 : ∀ k, ¬ P 179 k) (hk : ∀ (x0 : Int32) (xm : ev_M), frP P m0 xm → Fr (frP P m0) (k x0 xm)) : ∀ (n : Nat) (a2 : Int32) (a3 : Int32) (m : ev_M), frP P m0 m → Fr (frP P m0) (FX12_ditched_L4 f k a1 n a2 a3 m) := by
  intro n
  induction n with
  | zero => intros; exact Fr.none
  | succ n ih =>
    intro a2 a3 m hm_m
    rw [FX12_ditched_L4]
    refine Fr.bd (FRX12_towerMany _ hm_m) (fun r1 m2 hm_m2 => ?_)
    refine Fr.ite (fun _ => ?_) (fun _ => ?_)
    · exact hk _ _ hm_m2
    · refine Fr.ite (fun _ => ?_) (fun _ => ?_)
      · exact FRX12_ditched_J31 _ _ _ _ p112_46 p112_49 p112_50 p112_51 p112_53 p112_55 p112_56 p112_99 p144 p146 p179 ih hm_m2
      · refine Fr.ite (fun _ => ?_) (fun _ => ?_)
        · exact FRX12_ditched_J31 _ _ _ _ p112_46 p112_49 p112_50 p112_51 p112_53 p112_55 p112_56 p112_99 p144 p146 p179 ih (frP_I (p144 _) hm_m2)
        · exact Fr.none
set_option maxRecDepth 100000 in
set_option maxHeartbeats 4000000 in
theorem FRX12_ditched {P : Nat → Nat → Prop} {m0 : ev_M} (f : Nat) (a1 : Int32) {m : ev_M} (p112_46 : ¬ P 112 46) (p112_49 : ¬ P 112 49) (p112_50 : ¬ P 112 50) (p112_51 : ¬ P 112 51) (p112_53 : ¬ P 112 53) (p112_55 : ¬ P 112 55) (p112_56 : ¬ P 112 56) (p112_99 : ¬ P 112 99) (p144 : ∀ k, ¬ P 144 k) (p146 : ∀ k, ¬ P 146 k) (p179 : ∀ k, ¬ P 179 k)  (hm_m : frP P m0 m) : Fr (frP P m0) (FX12_ditched f a1 m) := by
  unfold FX12_ditched
  exact FRX12_ditched_L4 _ _ _ p112_46 p112_49 p112_50 p112_51 p112_53 p112_55 p112_56 p112_99 p144 p146 p179 ((by
  intro e5 m6 hm_m6
  exact Fr.ok hm_m6)) _ _ _ _ hm_m
set_option maxRecDepth 100000 in
set_option maxHeartbeats 4000000 in
theorem FRX12_game_J69 {P : Nat → Nat → Prop} {m0 : ev_M} (f : Nat) (kt37 : Int32 → Int32 → Int32 → ev_M → Option (Int32 × ev_M)) (a2 : Int32) (a3 : Int32) (a4 : Int32) {m : ev_M}  (hkt37 : ∀ (x0 : Int32) (x1 : Int32) (x2 : Int32) (xm : ev_M), frP P m0 xm → Fr (frP P m0) (kt37 x0 x1 x2 xm)) (hm_m : frP P m0 m) : Fr (frP P m0) (FX12_game_J69 f kt37 a2 a3 a4 m) := by
  unfold FX12_game_J69
  exact hkt37 _ _ _ _ hm_m
set_option maxRecDepth 100000 in
set_option maxHeartbeats 4000000 in
theorem FRX12_game_L37 {P : Nat → Nat → Prop} {m0 : ev_M} (f : Nat) (k : Int32 → Int32 → ev_M → Option (Int32 × ev_M)) (p112_46 : ¬ P 112 46) (p112_49 : ¬ P 112 49) (p112_50 : ¬ P 112 50) (p112_51 : ¬ P 112 51) (p112_53 : ¬ P 112 53) (p112_55 : ¬ P 112 55) (p112_56 : ¬ P 112 56) (p112_99 : ¬ P 112 99) (p144 : ∀ k, ¬ P 144 k) (p146 : ∀ k, ¬ P 146 k) (p179 : ∀ k, ¬ P 179 k) (hk : ∀ (x0 : Int32) (x1 : Int32) (xm : ev_M), frP P m0 xm → Fr (frP P m0) (k x0 x1 xm)) : ∀ (n : Nat) (a2 : Int32) (a3 : Int32) (a4 : Int32) (m : ev_M), frP P m0 m → Fr (frP P m0) (FX12_game_L37 f k n a2 a3 a4 m) := by
  intro n
  induction n with
  | zero => intros; exact Fr.none
  | succ n ih =>
    intro a2 a3 a4 m hm_m
    rw [FX12_game_L37]
    refine Fr.bd (FRX12_towerMany _ hm_m) (fun r9 m10 hm_m10 => ?_)
    refine Fr.ite (fun _ => ?_) (fun _ => ?_)
    · exact hk _ _ _ hm_m10
    · refine Fr.bd (FRX12_ditched _ _ p112_46 p112_49 p112_50 p112_51 p112_53 p112_55 p112_56 p112_99 p144 p146 p179 hm_m10) (fun r11 m12 hm_m12 => ?_)
      refine Fr.ite (fun _ => ?_) (fun _ => ?_)
      · exact FRX12_game_J69 _ _ _ _ _ ih hm_m12
      · exact FRX12_game_J69 _ _ _ _ _ ih hm_m12
set_option maxRecDepth 100000 in
set_option maxHeartbeats 4000000 in
theorem FRX12_game {P : Nat → Nat → Prop} {m0 : ev_M} (f : Nat) (a1 : Int32) {m : ev_M} (p112_46 : ¬ P 112 46) (p112_49 : ¬ P 112 49) (p112_50 : ¬ P 112 50) (p112_51 : ¬ P 112 51) (p112_53 : ¬ P 112 53) (p112_54 : ¬ P 112 54) (p112_55 : ¬ P 112 55) (p112_56 : ¬ P 112 56) (p112_99 : ¬ P 112 99) (p144 : ∀ k, ¬ P 144 k) (p145 : ∀ k, ¬ P 145 k) (p146 : ∀ k, ¬ P 146 k) (p179 : ∀ k, ¬ P 179 k)  (hm_m : frP P m0 m) : Fr (frP P m0) (FX12_game f a1 m) := by
  unfold FX12_game
  refine Fr.bd (FRX12_isAhead _ _ _ _ hm_m) (fun r1 m2 hm_m2 => ?_)
  refine Fr.ite (fun _ => ?_) (fun _ => ?_)
  · exact Fr.ok hm_m2
  · refine Fr.bd (FRX12_isIn _ _ _ _ hm_m2) (fun r3 m4 hm_m4 => ?_)
    refine Fr.ite (fun _ => ?_) (fun _ => ?_)
    · exact Fr.ok hm_m4
    · refine Fr.bd (FRX12_putsAside _ p112_54 p112_55 p112_56 p145 hm_m4) (fun _ m6 hm_m6 => ?_)
      refine Fr.bd (FRX12_ditched _ _ p112_46 p112_49 p112_50 p112_51 p112_53 p112_55 p112_56 p112_99 p144 p146 p179 hm_m6) (fun r7 m8 hm_m8 => ?_)
      exact FRX12_game_L37 _ _ p112_46 p112_49 p112_50 p112_51 p112_53 p112_55 p112_56 p112_99 p144 p146 p179 ((by
  intro e13 e14 m15 hm_m15
  refine Fr.bd (FRX12_takesBack _ p112_54 p112_55 p112_56 p144 hm_m15) (fun _ m17 hm_m17 => ?_)
  refine Fr.ite (fun _ => ?_) (fun _ => ?_)
  · exact Fr.ok hm_m17
  · exact Fr.ok hm_m17)) _ _ _ _ _ hm_m8
set_option maxRecDepth 100000 in
set_option maxHeartbeats 4000000 in
theorem FRX12_rule_J56 {P : Nat → Nat → Prop} {m0 : ev_M} (f : Nat) (kt34 : Int32 → Int32 → ev_M → Option (Int32 × ev_M)) (a3 : Int32) (a4 : Int32) {m : ev_M}  (hkt34 : ∀ (x0 : Int32) (x1 : Int32) (xm : ev_M), frP P m0 xm → Fr (frP P m0) (kt34 x0 x1 xm)) (hm_m : frP P m0 m) : Fr (frP P m0) (FX12_rule_J56 f kt34 a3 a4 m) := by
  unfold FX12_rule_J56
  exact hkt34 _ _ _ hm_m
set_option maxRecDepth 100000 in
set_option maxHeartbeats 4000000 in
theorem FRX12_rule_L34 {P : Nat → Nat → Prop} {m0 : ev_M} (f : Nat) (k : Int32 → ev_M → Option (Int32 × ev_M)) (a1 : Int32) (a2 : Int32) (p112_46 : ¬ P 112 46) (p112_49 : ¬ P 112 49) (p112_50 : ¬ P 112 50) (p112_51 : ¬ P 112 51) (p112_53 : ¬ P 112 53) (p112_55 : ¬ P 112 55) (p112_56 : ¬ P 112 56) (p112_99 : ¬ P 112 99) (p144 : ∀ k, ¬ P 144 k) (p146 : ∀ k, ¬ P 146 k) (p179 : ∀ k, ¬ P 179 k) (hk : ∀ (x0 : Int32) (xm : ev_M), frP P m0 xm → Fr (frP P m0) (k x0 xm)) : ∀ (n : Nat) (a3 : Int32) (a4 : Int32) (m : ev_M), frP P m0 m → Fr (frP P m0) (FX12_rule_L34 f k a1 a2 n a3 a4 m) := by
  intro n
  induction n with
  | zero => intros; exact Fr.none
  | succ n ih =>
    intro a3 a4 m hm_m
    rw [FX12_rule_L34]
    refine Fr.ite (fun _ => ?_) (fun _ => ?_)
    · exact hk _ _ hm_m
    · refine Fr.bd (FRX12_roundGoes _ p112_46 p112_49 p112_50 p112_51 p112_53 p112_55 p112_56 p112_99 p144 p146 p179 hm_m) (fun _ m8 hm_m8 => ?_)
      refine Fr.bd (FRX12_rowOf _ _ hm_m8) (fun r9 m10 hm_m10 => ?_)
      refine Fr.ite (fun _ => ?_) (fun _ => ?_)
      · exact FRX12_rule_J56 _ _ _ _ ih hm_m10
      · exact FRX12_rule_J56 _ _ _ _ ih hm_m10
set_option maxRecDepth 100000 in
set_option maxHeartbeats 4000000 in
theorem FRX12_rule {P : Nat → Nat → Prop} {m0 : ev_M} (f : Nat) (a1 : Int32) (a2 : Int32) {m : ev_M} (p112_46 : ¬ P 112 46) (p112_49 : ¬ P 112 49) (p112_50 : ¬ P 112 50) (p112_51 : ¬ P 112 51) (p112_53 : ¬ P 112 53) (p112_54 : ¬ P 112 54) (p112_55 : ¬ P 112 55) (p112_56 : ¬ P 112 56) (p112_99 : ¬ P 112 99) (p144 : ∀ k, ¬ P 144 k) (p145 : ∀ k, ¬ P 145 k) (p146 : ∀ k, ¬ P 146 k) (p179 : ∀ k, ¬ P 179 k)  (hm_m : frP P m0 m) : Fr (frP P m0) (FX12_rule f a1 a2 m) := by
  unfold FX12_rule
  refine Fr.bd (FRX12_isIn _ _ _ _ hm_m) (fun r1 m2 hm_m2 => ?_)
  refine Fr.ite (fun _ => ?_) (fun _ => ?_)
  · exact Fr.ok hm_m2
  · refine Fr.bd (FRX12_isAhead _ _ _ _ hm_m2) (fun r3 m4 hm_m4 => ?_)
    refine Fr.ite (fun _ => ?_) (fun _ => ?_)
    · exact Fr.ok hm_m4
    · refine Fr.bd (FRX12_putsAside _ p112_54 p112_55 p112_56 p145 hm_m4) (fun _ m6 hm_m6 => ?_)
      exact FRX12_rule_L34 _ _ _ _ p112_46 p112_49 p112_50 p112_51 p112_53 p112_55 p112_56 p112_99 p144 p146 p179 ((by
  intro e11 m12 hm_m12
  refine Fr.bd (FRX12_takesBack _ p112_54 p112_55 p112_56 p144 hm_m12) (fun _ m14 hm_m14 => ?_)
  exact Fr.ok hm_m14)) _ _ _ _ hm_m6
set_option maxRecDepth 100000 in
set_option maxHeartbeats 4000000 in
theorem FRX12_laysMoods_L66 {P : Nat → Nat → Prop} {m0 : ev_M} (f : Nat) (k : ev_M → Option (Unit × ev_M)) (a2 : Int32) (a4 : Int32) (p149 : ∀ k, ¬ P 149 k) (hk : ∀  (xm : ev_M), frP P m0 xm → Fr (frP P m0) (k xm)) : ∀ (n : Nat) (a5 : Int32) (m : ev_M), frP P m0 m → Fr (frP P m0) (FX12_laysMoods_L66 f k a2 a4 n a5 m) := by
  intro n
  induction n with
  | zero => intros; exact Fr.none
  | succ n ih =>
    intro a5 m hm_m
    rw [FX12_laysMoods_L66]
    refine Fr.bd (FRX12_towerMany _ hm_m) (fun r5 m6 hm_m6 => ?_)
    refine Fr.ite (fun _ => ?_) (fun _ => ?_)
    · exact hk _ hm_m6
    · refine Fr.ite (fun _ => ?_) (fun _ => ?_)
      · refine Fr.ite (fun _ => ?_) (fun _ => ?_)
        · exact ih _ _ (frP_I (p149 _) hm_m6)
        · exact Fr.none
      · exact Fr.none
set_option maxRecDepth 100000 in
set_option maxHeartbeats 4000000 in
theorem FRX12_laysMoods_J62 {P : Nat → Nat → Prop} {m0 : ev_M} (f : Nat) (kt33 : Int32 → Int32 → ev_M → Option (Unit × ev_M)) (a2 : Int32) (a4 : Int32) (s0 : Int32) {m : ev_M} (p149 : ∀ k, ¬ P 149 k) (hkt33 : ∀ (x0 : Int32) (x1 : Int32) (xm : ev_M), frP P m0 xm → Fr (frP P m0) (kt33 x0 x1 xm)) (hm_m : frP P m0 m) : Fr (frP P m0) (FX12_laysMoods_J62 f kt33 a2 a4 s0 m) := by
  unfold FX12_laysMoods_J62
  exact FRX12_laysMoods_L66 _ _ _ _ p149 ((by
  intro m7 hm_m7
  exact hkt33 _ _ _ hm_m7)) _ _ _ hm_m
set_option maxRecDepth 100000 in
set_option maxHeartbeats 4000000 in
theorem FRX12_laysMoods_J61 {P : Nat → Nat → Prop} {m0 : ev_M} (f : Nat) (kt33 : Int32 → Int32 → ev_M → Option (Unit × ev_M)) (a2 : Int32) (a4 : Int32) {m : ev_M} (p149 : ∀ k, ¬ P 149 k) (hkt33 : ∀ (x0 : Int32) (x1 : Int32) (xm : ev_M), frP P m0 xm → Fr (frP P m0) (kt33 x0 x1 xm)) (hm_m : frP P m0 m) : Fr (frP P m0) (FX12_laysMoods_J61 f kt33 a2 a4 m) := by
  unfold FX12_laysMoods_J61
  exact FRX12_laysMoods_J62 _ _ _ _ _ p149 hkt33 hm_m
set_option maxRecDepth 100000 in
set_option maxHeartbeats 4000000 in
theorem FRX12_laysMoods_L33 {P : Nat → Nat → Prop} {m0 : ev_M} (f : Nat) (k : Int32 → ev_M → Option (Unit × ev_M)) (a2 : Int32) (p112_46 : ¬ P 112 46) (p112_49 : ¬ P 112 49) (p112_50 : ¬ P 112 50) (p112_51 : ¬ P 112 51) (p112_53 : ¬ P 112 53) (p112_55 : ¬ P 112 55) (p112_56 : ¬ P 112 56) (p112_99 : ¬ P 112 99) (p144 : ∀ k, ¬ P 144 k) (p146 : ∀ k, ¬ P 146 k) (p149 : ∀ k, ¬ P 149 k) (p179 : ∀ k, ¬ P 179 k) (hk : ∀ (x0 : Int32) (xm : ev_M), frP P m0 xm → Fr (frP P m0) (k x0 xm)) : ∀ (n : Nat) (a3 : Int32) (a4 : Int32) (m : ev_M), frP P m0 m → Fr (frP P m0) (FX12_laysMoods_L33 f k a2 n a3 a4 m) := by
  intro n
  induction n with
  | zero => intros; exact Fr.none
  | succ n ih =>
    intro a3 a4 m hm_m
    rw [FX12_laysMoods_L33]
    refine Fr.ite (fun _ => ?_) (fun _ => ?_)
    · exact hk _ _ hm_m
    · refine Fr.bd (FRX12_roundGoes _ p112_46 p112_49 p112_50 p112_51 p112_53 p112_55 p112_56 p112_99 p144 p146 p179 hm_m) (fun _ m4 hm_m4 => ?_)
      refine Fr.ite (fun _ => ?_) (fun _ => ?_)
      · exact FRX12_laysMoods_J61 _ _ _ _ p149 ih hm_m4
      · refine Fr.bd (FRX12_isAsSeen _ _ hm_m4) (fun r8 m9 hm_m9 => ?_)
        refine Fr.ite (fun _ => ?_) (fun _ => ?_)
        · exact FRX12_laysMoods_J61 _ _ _ _ p149 ih hm_m9
        · exact FRX12_laysMoods_J62 _ _ _ _ _ p149 ih hm_m9
set_option maxRecDepth 100000 in
set_option maxHeartbeats 4000000 in
theorem FRX12_laysMoods_J138 {P : Nat → Nat → Prop} {m0 : ev_M} (f : Nat) (kt11 : Int32 → ev_M → Option (Unit × ev_M)) (a2 : Int32) {m : ev_M}  (hkt11 : ∀ (x0 : Int32) (xm : ev_M), frP P m0 xm → Fr (frP P m0) (kt11 x0 xm)) (hm_m : frP P m0 m) : Fr (frP P m0) (FX12_laysMoods_J138 f kt11 a2 m) := by
  unfold FX12_laysMoods_J138
  exact hkt11 _ _ hm_m
set_option maxRecDepth 100000 in
set_option maxHeartbeats 4000000 in
theorem FRX12_laysMoods_L11 {P : Nat → Nat → Prop} {m0 : ev_M} (f : Nat) (k : ev_M → Option (Unit × ev_M)) (a1 : Int32) (p112_46 : ¬ P 112 46) (p112_49 : ¬ P 112 49) (p112_50 : ¬ P 112 50) (p112_51 : ¬ P 112 51) (p112_53 : ¬ P 112 53) (p112_55 : ¬ P 112 55) (p112_56 : ¬ P 112 56) (p112_62 : ¬ P 112 62) (p112_99 : ¬ P 112 99) (p144 : ∀ k, ¬ P 144 k) (p146 : ∀ k, ¬ P 146 k) (p149 : ∀ k, ¬ P 149 k) (p150 : ∀ k, ¬ P 150 k) (p179 : ∀ k, ¬ P 179 k) (hk : ∀  (xm : ev_M), frP P m0 xm → Fr (frP P m0) (k xm)) : ∀ (n : Nat) (a2 : Int32) (m : ev_M), frP P m0 m → Fr (frP P m0) (FX12_laysMoods_L11 f k a1 n a2 m) := by
  intro n
  induction n with
  | zero => intros; exact Fr.none
  | succ n ih =>
    intro a2 m hm_m
    rw [FX12_laysMoods_L11]
    refine Fr.ite (fun _ => ?_) (fun _ => ?_)
    · exact hk _ hm_m
    · refine Fr.ite (fun _ => ?_) (fun _ => ?_)
      · exact FRX12_laysMoods_L33 _ _ _ p112_46 p112_49 p112_50 p112_51 p112_53 p112_55 p112_56 p112_99 p144 p146 p149 p179 ((by
  intro e10 m11 hm_m11
  refine Fr.bd (FRX12_triesAnew _ p112_55 p112_56 p144 hm_m11) (fun _ m13 hm_m13 => ?_)
  refine Fr.ite (fun _ => ?_) (fun _ => ?_)
  · refine Fr.ite (fun _ => ?_) (fun _ => ?_)
    · exact FRX12_laysMoods_J138 _ _ _ ih (frP_I (p150 _) hm_m13)
    · exact FRX12_laysMoods_J138 _ _ _ ih (frP_I p112_62 (frP_I (p150 _) hm_m13))
  · exact Fr.none)) _ _ _ _ (frP_I (p144 _) hm_m)
      · exact Fr.none
set_option maxRecDepth 100000 in
set_option maxHeartbeats 4000000 in
theorem FRX12_laysMoods {P : Nat → Nat → Prop} {m0 : ev_M} (f : Nat) (a1 : Int32) {m : ev_M} (p112_46 : ¬ P 112 46) (p112_49 : ¬ P 112 49) (p112_50 : ¬ P 112 50) (p112_51 : ¬ P 112 51) (p112_53 : ¬ P 112 53) (p112_54 : ¬ P 112 54) (p112_55 : ¬ P 112 55) (p112_56 : ¬ P 112 56) (p112_62 : ¬ P 112 62) (p112_99 : ¬ P 112 99) (p144 : ∀ k, ¬ P 144 k) (p145 : ∀ k, ¬ P 145 k) (p146 : ∀ k, ¬ P 146 k) (p149 : ∀ k, ¬ P 149 k) (p150 : ∀ k, ¬ P 150 k) (p179 : ∀ k, ¬ P 179 k)  (hm_m : frP P m0 m) : Fr (frP P m0) (FX12_laysMoods f a1 m) := by
  unfold FX12_laysMoods
  refine Fr.bd (FRX12_putsAside _ p112_54 p112_55 p112_56 p145 (frP_I p112_62 hm_m)) (fun _ m2 hm_m2 => ?_)
  exact FRX12_laysMoods_L11 _ _ _ p112_46 p112_49 p112_50 p112_51 p112_53 p112_55 p112_56 p112_62 p112_99 p144 p146 p149 p150 p179 ((by
  intro m14 hm_m14
  refine Fr.bd (FRX12_takesBack _ p112_54 p112_55 p112_56 p144 hm_m14) (fun _ m16 hm_m16 => ?_)
  exact Fr.ok hm_m16)) _ _ _ hm_m2
set_option maxRecDepth 100000 in
set_option maxHeartbeats 4000000 in
theorem FRX12_moods_J40 {P : Nat → Nat → Prop} {m0 : ev_M} (f : Nat) (kt19 : Int32 → Int32 → ev_M → Option (Int32 × ev_M)) (a2 : Int32) (a3 : Int32) {m : ev_M}  (hkt19 : ∀ (x0 : Int32) (x1 : Int32) (xm : ev_M), frP P m0 xm → Fr (frP P m0) (kt19 x0 x1 xm)) (hm_m : frP P m0 m) : Fr (frP P m0) (FX12_moods_J40 f kt19 a2 a3 m) := by
  unfold FX12_moods_J40
  exact hkt19 _ _ _ hm_m
set_option maxRecDepth 100000 in
set_option maxHeartbeats 4000000 in
theorem FRX12_moods_L19 {P : Nat → Nat → Prop} {m0 : ev_M} (f : Nat) (k : Int32 → ev_M → Option (Int32 × ev_M))  (hk : ∀ (x0 : Int32) (xm : ev_M), frP P m0 xm → Fr (frP P m0) (k x0 xm)) : ∀ (n : Nat) (a2 : Int32) (a3 : Int32) (m : ev_M), frP P m0 m → Fr (frP P m0) (FX12_moods_L19 f k n a2 a3 m) := by
  intro n
  induction n with
  | zero => intros; exact Fr.none
  | succ n ih =>
    intro a2 a3 m hm_m
    rw [FX12_moods_L19]
    refine Fr.ite (fun _ => ?_) (fun _ => ?_)
    · exact hk _ _ hm_m
    · refine Fr.ite (fun _ => ?_) (fun _ => ?_)
      · refine Fr.ite (fun _ => ?_) (fun _ => ?_)
        · exact FRX12_moods_J40 _ _ _ _ ih hm_m
        · exact FRX12_moods_J40 _ _ _ _ ih hm_m
      · exact Fr.none
set_option maxRecDepth 100000 in
set_option maxHeartbeats 4000000 in
theorem FRX12_moods {P : Nat → Nat → Prop} {m0 : ev_M} (f : Nat) (a1 : Int32) {m : ev_M} (p112_46 : ¬ P 112 46) (p112_49 : ¬ P 112 49) (p112_50 : ¬ P 112 50) (p112_51 : ¬ P 112 51) (p112_53 : ¬ P 112 53) (p112_54 : ¬ P 112 54) (p112_55 : ¬ P 112 55) (p112_56 : ¬ P 112 56) (p112_62 : ¬ P 112 62) (p112_99 : ¬ P 112 99) (p144 : ∀ k, ¬ P 144 k) (p145 : ∀ k, ¬ P 145 k) (p146 : ∀ k, ¬ P 146 k) (p149 : ∀ k, ¬ P 149 k) (p150 : ∀ k, ¬ P 150 k) (p179 : ∀ k, ¬ P 179 k)  (hm_m : frP P m0 m) : Fr (frP P m0) (FX12_moods f a1 m) := by
  unfold FX12_moods
  refine Fr.bd (FRX12_isTower _ _ hm_m) (fun r1 m2 hm_m2 => ?_)
  refine Fr.ite (fun _ => ?_) (fun _ => ?_)
  · exact Fr.ok hm_m2
  · refine Fr.bd (FRX12_laysMoods _ _ p112_46 p112_49 p112_50 p112_51 p112_53 p112_54 p112_55 p112_56 p112_62 p112_99 p144 p145 p146 p149 p150 p179 hm_m2) (fun _ m4 hm_m4 => ?_)
    exact FRX12_moods_L19 _ _ ((by
  intro e5 m6 hm_m6
  exact Fr.ok hm_m6)) _ _ _ _ hm_m4
set_option maxRecDepth 100000 in
set_option maxHeartbeats 4000000 in
theorem FRX12_tells_J115 {P : Nat → Nat → Prop} {m0 : ev_M} (f : Nat) (kt70 : Int32 → Int32 → Int32 → Int32 → ev_M → Option (Int32 × ev_M)) (a3 : Int32) (a4 : Int32) (a5 : Int32) (a7 : Int32) {m : ev_M}  (hkt70 : ∀ (x0 : Int32) (x1 : Int32) (x2 : Int32) (x3 : Int32) (xm : ev_M), frP P m0 xm → Fr (frP P m0) (kt70 x0 x1 x2 x3 xm)) (hm_m : frP P m0 m) : Fr (frP P m0) (FX12_tells_J115 f kt70 a3 a4 a5 a7 m) := by
  unfold FX12_tells_J115
  exact hkt70 _ _ _ _ _ hm_m
set_option maxRecDepth 100000 in
set_option maxHeartbeats 4000000 in
theorem FRX12_tells_J104 {P : Nat → Nat → Prop} {m0 : ev_M} (f : Nat) (kt70 : Int32 → Int32 → Int32 → Int32 → ev_M → Option (Int32 × ev_M)) (a6 : Int32) (a7 : Int32) (a8 : Int32) {m : ev_M}  (hkt70 : ∀ (x0 : Int32) (x1 : Int32) (x2 : Int32) (x3 : Int32) (xm : ev_M), frP P m0 xm → Fr (frP P m0) (kt70 x0 x1 x2 x3 xm)) (hm_m : frP P m0 m) : Fr (frP P m0) (FX12_tells_J104 f kt70 a6 a7 a8 m) := by
  unfold FX12_tells_J104
  exact FRX12_tells_J115 _ _ _ _ _ _ hkt70 hm_m
set_option maxRecDepth 100000 in
set_option maxHeartbeats 4000000 in
theorem FRX12_tells_L70 {P : Nat → Nat → Prop} {m0 : ev_M} (f : Nat) (k : Int32 → Int32 → Int32 → ev_M → Option (Int32 × ev_M)) (a6 : Int32)  (hk : ∀ (x0 : Int32) (x1 : Int32) (x2 : Int32) (xm : ev_M), frP P m0 xm → Fr (frP P m0) (k x0 x1 x2 xm)) : ∀ (n : Nat) (a3 : Int32) (a4 : Int32) (a5 : Int32) (a7 : Int32) (m : ev_M), frP P m0 m → Fr (frP P m0) (FX12_tells_L70 f k a6 n a3 a4 a5 a7 m) := by
  intro n
  induction n with
  | zero => intros; exact Fr.none
  | succ n ih =>
    intro a3 a4 a5 a7 m hm_m
    rw [FX12_tells_L70]
    refine Fr.bd (FRX12_towerMany _ hm_m) (fun r7 m8 hm_m8 => ?_)
    refine Fr.ite (fun _ => ?_) (fun _ => ?_)
    · exact hk _ _ _ _ hm_m8
    · refine Fr.bd (FRX12_mostAlike _ _ _ hm_m8) (fun r9 m10 hm_m10 => ?_)
      refine Fr.ite (fun _ => ?_) (fun _ => ?_)
      · exact FRX12_tells_J104 _ _ _ _ _ ih hm_m10
      · refine Fr.ite (fun _ => ?_) (fun _ => ?_)
        · exact FRX12_tells_J104 _ _ _ _ _ ih hm_m10
        · exact FRX12_tells_J115 _ _ _ _ _ _ ih hm_m10
set_option maxRecDepth 100000 in
set_option maxHeartbeats 4000000 in
theorem FRX12_tells_L38 {P : Nat → Nat → Prop} {m0 : ev_M} (f : Nat) (k : Int32 → Int32 → Int32 → ev_M → Option (Int32 × ev_M))  (hk : ∀ (x0 : Int32) (x1 : Int32) (x2 : Int32) (xm : ev_M), frP P m0 xm → Fr (frP P m0) (k x0 x1 x2 xm)) : ∀ (n : Nat) (a3 : Int32) (a4 : Int32) (a5 : Int32) (a6 : Int32) (m : ev_M), frP P m0 m → Fr (frP P m0) (FX12_tells_L38 f k n a3 a4 a5 a6 m) := by
  intro n
  induction n with
  | zero => intros; exact Fr.none
  | succ n ih =>
    intro a3 a4 a5 a6 m hm_m
    rw [FX12_tells_L38]
    refine Fr.ite (fun _ => ?_) (fun _ => ?_)
    · exact hk _ _ _ _ hm_m
    · refine Fr.ite (fun _ => ?_) (fun _ => ?_)
      · exact hk _ _ _ _ hm_m
      · refine Fr.ite (fun _ => ?_) (fun _ => ?_)
        · exact hk _ _ _ _ hm_m
        · exact FRX12_tells_L70 _ _ _ ((by
  intro e11 e12 e13 m14 hm_m14
  exact ih _ _ _ _ _ hm_m14)) _ _ _ _ _ _ hm_m
set_option maxRecDepth 100000 in
set_option maxHeartbeats 4000000 in
theorem FRX12_tells_J127 {P : Nat → Nat → Prop} {m0 : ev_M} (f : Nat) (a2 : Int32) (a3 : Int32) (a4 : Int32) (a5 : Int32) {m : ev_M}   (hm_m : frP P m0 m) : Fr (frP P m0) (FX12_tells_J127 f a2 a3 a4 a5 m) := by
  unfold FX12_tells_J127
  refine Fr.ite (fun _ => ?_) (fun _ => ?_)
  · exact Fr.ok hm_m
  · refine Fr.ite (fun _ => ?_) (fun _ => ?_)
    · exact Fr.ok hm_m
    · refine Fr.ite (fun _ => ?_) (fun _ => ?_)
      · exact Fr.ok hm_m
      · exact Fr.ok hm_m
set_option maxRecDepth 100000 in
set_option maxHeartbeats 4000000 in
theorem FRX12_tells {P : Nat → Nat → Prop} {m0 : ev_M} (f : Nat) (a1 : Int32) (a2 : Int32) {m : ev_M} (p112_46 : ¬ P 112 46) (p112_49 : ¬ P 112 49) (p112_50 : ¬ P 112 50) (p112_51 : ¬ P 112 51) (p112_53 : ¬ P 112 53) (p112_54 : ¬ P 112 54) (p112_55 : ¬ P 112 55) (p112_56 : ¬ P 112 56) (p112_62 : ¬ P 112 62) (p112_99 : ¬ P 112 99) (p144 : ∀ k, ¬ P 144 k) (p145 : ∀ k, ¬ P 145 k) (p146 : ∀ k, ¬ P 146 k) (p149 : ∀ k, ¬ P 149 k) (p150 : ∀ k, ¬ P 150 k) (p179 : ∀ k, ¬ P 179 k)  (hm_m : frP P m0 m) : Fr (frP P m0) (FX12_tells f a1 a2 m) := by
  unfold FX12_tells
  refine Fr.bd (FRX12_isTower _ _ hm_m) (fun r1 m2 hm_m2 => ?_)
  refine Fr.ite (fun _ => ?_) (fun _ => ?_)
  · exact Fr.ok hm_m2
  · refine Fr.bd (FRX12_isIn _ _ _ _ hm_m2) (fun r3 m4 hm_m4 => ?_)
    refine Fr.ite (fun _ => ?_) (fun _ => ?_)
    · exact Fr.ok hm_m4
    · refine Fr.bd (FRX12_laysMoods _ _ p112_46 p112_49 p112_50 p112_51 p112_53 p112_54 p112_55 p112_56 p112_62 p112_99 p144 p145 p146 p149 p150 p179 hm_m4) (fun _ m6 hm_m6 => ?_)
      exact FRX12_tells_L38 _ _ ((by
  intro e15 e16 e17 m18 hm_m18
  exact FRX12_tells_J127 _ _ _ _ _ hm_m18)) _ _ _ _ _ _ hm_m6
set_option maxRecDepth 100000 in
set_option maxHeartbeats 4000000 in
theorem FRX12_rounds {P : Nat → Nat → Prop} {m0 : ev_M} (f : Nat) (a1 : Int32) {m : ev_M} (p112_46 : ¬ P 112 46) (p112_49 : ¬ P 112 49) (p112_50 : ¬ P 112 50) (p112_51 : ¬ P 112 51) (p112_53 : ¬ P 112 53) (p112_55 : ¬ P 112 55) (p112_56 : ¬ P 112 56) (p112_64 : ¬ P 112 64) (p112_65 : ¬ P 112 65) (p112_99 : ¬ P 112 99) (p114 : ∀ k, ¬ P 114 k) (p144 : ∀ k, ¬ P 144 k) (p146 : ∀ k, ¬ P 146 k) (p151 : ∀ k, ¬ P 151 k) (p179 : ∀ k, ¬ P 179 k)  (hm_m : frP P m0 m) : Fr (frP P m0) (FX12_rounds f a1 m) := by
  unfold FX12_rounds
  refine Fr.bd (FRX12_isAhead _ _ _ _ hm_m) (fun r1 m2 hm_m2 => ?_)
  refine Fr.ite (fun _ => ?_) (fun _ => ?_)
  · refine Fr.bd (FRX12_refuses _ _ p114 hm_m2) (fun r7 m8 hm_m8 => ?_)
    exact Fr.ok hm_m8
  · refine Fr.bd (FRX12_keeps _ p112_64 p112_65 p151 hm_m2) (fun _ m4 hm_m4 => ?_)
    refine Fr.bd (FRX12_roundsGo _ _ p112_46 p112_49 p112_50 p112_51 p112_53 p112_55 p112_56 p112_99 p144 p146 p179 (frP_I p112_55 hm_m4)) (fun _ m6 hm_m6 => ?_)
    exact Fr.ok hm_m6
set_option maxRecDepth 100000 in
set_option maxHeartbeats 4000000 in
theorem FRX12_chance_J100 {P : Nat → Nat → Prop} {m0 : ev_M} (f : Nat) (kt25 : Int32 → Int32 → ev_M → Option (Int32 × ev_M)) (a2 : Int32) (a3 : Int32) {m : ev_M} (p112_46 : ¬ P 112 46) (p112_49 : ¬ P 112 49) (p112_50 : ¬ P 112 50) (p112_51 : ¬ P 112 51) (p112_53 : ¬ P 112 53) (p112_55 : ¬ P 112 55) (p112_56 : ¬ P 112 56) (p112_99 : ¬ P 112 99) (p144 : ∀ k, ¬ P 144 k) (p146 : ∀ k, ¬ P 146 k) (p179 : ∀ k, ¬ P 179 k) (hkt25 : ∀ (x0 : Int32) (x1 : Int32) (xm : ev_M), frP P m0 xm → Fr (frP P m0) (kt25 x0 x1 xm)) (hm_m : frP P m0 m) : Fr (frP P m0) (FX12_chance_J100 f kt25 a2 a3 m) := by
  unfold FX12_chance_J100
  refine Fr.bd (FRX12_roundGoes _ p112_46 p112_49 p112_50 p112_51 p112_53 p112_55 p112_56 p112_99 p144 p146 p179 hm_m) (fun _ m8 hm_m8 => ?_)
  exact hkt25 _ _ _ hm_m8
set_option maxRecDepth 100000 in
set_option maxHeartbeats 4000000 in
theorem FRX12_chance_J96 {P : Nat → Nat → Prop} {m0 : ev_M} (f : Nat) (kt25 : Int32 → Int32 → ev_M → Option (Int32 × ev_M)) (a2 : Int32) (a3 : Int32) (s1 : Int32) (s2 : Int32) {m : ev_M} (p112_46 : ¬ P 112 46) (p112_49 : ¬ P 112 49) (p112_50 : ¬ P 112 50) (p112_51 : ¬ P 112 51) (p112_53 : ¬ P 112 53) (p112_55 : ¬ P 112 55) (p112_56 : ¬ P 112 56) (p112_99 : ¬ P 112 99) (p144 : ∀ k, ¬ P 144 k) (p146 : ∀ k, ¬ P 146 k) (p179 : ∀ k, ¬ P 179 k) (hkt25 : ∀ (x0 : Int32) (x1 : Int32) (xm : ev_M), frP P m0 xm → Fr (frP P m0) (kt25 x0 x1 xm)) (hm_m : frP P m0 m) : Fr (frP P m0) (FX12_chance_J96 f kt25 a2 a3 s1 s2 m) := by
  unfold FX12_chance_J96
  refine Fr.ite (fun _ => ?_) (fun _ => ?_)
  · exact FRX12_chance_J100 _ _ _ _ p112_46 p112_49 p112_50 p112_51 p112_53 p112_55 p112_56 p112_99 p144 p146 p179 hkt25 (frP_I (p144 _) hm_m)
  · exact Fr.none
set_option maxRecDepth 100000 in
set_option maxHeartbeats 4000000 in
theorem FRX12_chance_L25 {P : Nat → Nat → Prop} {m0 : ev_M} (f : Nat) (k : Int32 → ev_M → Option (Int32 × ev_M)) (a1 : Int32) (p112_46 : ¬ P 112 46) (p112_49 : ¬ P 112 49) (p112_50 : ¬ P 112 50) (p112_51 : ¬ P 112 51) (p112_53 : ¬ P 112 53) (p112_55 : ¬ P 112 55) (p112_56 : ¬ P 112 56) (p112_66 : ¬ P 112 66) (p112_99 : ¬ P 112 99) (p144 : ∀ k, ¬ P 144 k) (p146 : ∀ k, ¬ P 146 k) (p179 : ∀ k, ¬ P 179 k) (hk : ∀ (x0 : Int32) (xm : ev_M), frP P m0 xm → Fr (frP P m0) (k x0 xm)) : ∀ (n : Nat) (a2 : Int32) (a3 : Int32) (m : ev_M), frP P m0 m → Fr (frP P m0) (FX12_chance_L25 f k a1 n a2 a3 m) := by
  intro n
  induction n with
  | zero => intros; exact Fr.none
  | succ n ih =>
    intro a2 a3 m hm_m
    rw [FX12_chance_L25]
    refine Fr.ite (fun _ => ?_) (fun _ => ?_)
    · exact hk _ _ hm_m
    · refine Fr.bd (FRX12_drawOf _ _ p112_66 hm_m) (fun r5 m6 hm_m6 => ?_)
      refine Fr.ite (fun _ => ?_) (fun _ => ?_)
      · exact FRX12_chance_J100 _ _ _ _ p112_46 p112_49 p112_50 p112_51 p112_53 p112_55 p112_56 p112_99 p144 p146 p179 ih hm_m6
      · refine Fr.bd (FRX12_towerMany _ hm_m6) (fun r9 m10 hm_m10 => ?_)
        refine Fr.ite (fun _ => ?_) (fun _ => ?_)
        · exact FRX12_chance_J100 _ _ _ _ p112_46 p112_49 p112_50 p112_51 p112_53 p112_55 p112_56 p112_99 p144 p146 p179 ih hm_m10
        · refine Fr.bd (FRX12_towerMany _ hm_m10) (fun r11 m12 hm_m12 => ?_)
          refine Fr.bd (FRX12_drawOf _ _ p112_66 hm_m12) (fun r13 m14 hm_m14 => ?_)
          refine Fr.ite (fun _ => ?_) (fun _ => ?_)
          · refine Fr.ite (fun _ => ?_) (fun _ => ?_)
            · refine Fr.ite (fun _ => ?_) (fun _ => ?_)
              · exact FRX12_chance_J96 _ _ _ _ _ _ p112_46 p112_49 p112_50 p112_51 p112_53 p112_55 p112_56 p112_99 p144 p146 p179 ih hm_m14
              · exact Fr.none
            · exact FRX12_chance_J96 _ _ _ _ _ _ p112_46 p112_49 p112_50 p112_51 p112_53 p112_55 p112_56 p112_99 p144 p146 p179 ih hm_m14
          · exact Fr.none
set_option maxRecDepth 100000 in
set_option maxHeartbeats 4000000 in
theorem FRX12_chance {P : Nat → Nat → Prop} {m0 : ev_M} (f : Nat) (a1 : Int32) {m : ev_M} (p112_46 : ¬ P 112 46) (p112_49 : ¬ P 112 49) (p112_50 : ¬ P 112 50) (p112_51 : ¬ P 112 51) (p112_53 : ¬ P 112 53) (p112_55 : ¬ P 112 55) (p112_56 : ¬ P 112 56) (p112_64 : ¬ P 112 64) (p112_65 : ¬ P 112 65) (p112_66 : ¬ P 112 66) (p112_99 : ¬ P 112 99) (p114 : ∀ k, ¬ P 114 k) (p144 : ∀ k, ¬ P 144 k) (p146 : ∀ k, ¬ P 146 k) (p151 : ∀ k, ¬ P 151 k) (p179 : ∀ k, ¬ P 179 k)  (hm_m : frP P m0 m) : Fr (frP P m0) (FX12_chance f a1 m) := by
  unfold FX12_chance
  refine Fr.bd (FRX12_isAhead _ _ _ _ hm_m) (fun r1 m2 hm_m2 => ?_)
  refine Fr.ite (fun _ => ?_) (fun _ => ?_)
  · refine Fr.bd (FRX12_refuses _ _ p114 hm_m2) (fun r17 m18 hm_m18 => ?_)
    exact Fr.ok hm_m18
  · refine Fr.bd (FRX12_keeps _ p112_64 p112_65 p151 hm_m2) (fun _ m4 hm_m4 => ?_)
    exact FRX12_chance_L25 _ _ _ p112_46 p112_49 p112_50 p112_51 p112_53 p112_55 p112_56 p112_66 p112_99 p144 p146 p179 ((by
  intro e15 m16 hm_m16
  exact Fr.ok hm_m16)) _ _ _ _ hm_m4
set_option maxRecDepth 100000 in
set_option maxHeartbeats 4000000 in
theorem FRX12_laysTones_J74 {P : Nat → Nat → Prop} {m0 : ev_M} (f : Nat) (kt18 : Int32 → ev_M → Option (Unit × ev_M)) (a2 : Int32) {m : ev_M}  (hkt18 : ∀ (x0 : Int32) (xm : ev_M), frP P m0 xm → Fr (frP P m0) (kt18 x0 xm)) (hm_m : frP P m0 m) : Fr (frP P m0) (FX12_laysTones_J74 f kt18 a2 m) := by
  unfold FX12_laysTones_J74
  exact hkt18 _ _ hm_m
set_option maxRecDepth 100000 in
set_option maxHeartbeats 4000000 in
theorem FRX12_laysTones_J58 {P : Nat → Nat → Prop} {m0 : ev_M} (f : Nat) (kt18 : Int32 → ev_M → Option (Unit × ev_M)) (a1 : Int32) (a2 : Int32) (s1 : Int32) (s2 : Int32) {m : ev_M} (p152 : ∀ k, ¬ P 152 k) (p153 : ∀ k, ¬ P 153 k) (hkt18 : ∀ (x0 : Int32) (xm : ev_M), frP P m0 xm → Fr (frP P m0) (kt18 x0 xm)) (hm_m : frP P m0 m) : Fr (frP P m0) (FX12_laysTones_J58 f kt18 a1 a2 s1 s2 m) := by
  unfold FX12_laysTones_J58
  refine Fr.ite (fun _ => ?_) (fun _ => ?_)
  · refine Fr.ite (fun _ => ?_) (fun _ => ?_)
    · refine Fr.bd (FRX12_moodOf _ _ (frP_I (p152 _) hm_m)) (fun r7 m8 hm_m8 => ?_)
      refine Fr.ite (fun _ => ?_) (fun _ => ?_)
      · exact FRX12_laysTones_J74 _ _ _ hkt18 (frP_I (p153 _) hm_m8)
      · exact Fr.none
    · exact FRX12_laysTones_J74 _ _ _ hkt18 (frP_I (p152 _) hm_m)
  · exact Fr.none
set_option maxRecDepth 100000 in
set_option maxHeartbeats 4000000 in
theorem FRX12_laysTones_L18 {P : Nat → Nat → Prop} {m0 : ev_M} (f : Nat) (k : ev_M → Option (Unit × ev_M)) (a1 : Int32) (p152 : ∀ k, ¬ P 152 k) (p153 : ∀ k, ¬ P 153 k) (hk : ∀  (xm : ev_M), frP P m0 xm → Fr (frP P m0) (k xm)) : ∀ (n : Nat) (a2 : Int32) (m : ev_M), frP P m0 m → Fr (frP P m0) (FX12_laysTones_L18 f k a1 n a2 m) := by
  intro n
  induction n with
  | zero => intros; exact Fr.none
  | succ n ih =>
    intro a2 m hm_m
    rw [FX12_laysTones_L18]
    refine Fr.bd (FRX12_towerMany _ hm_m) (fun r5 m6 hm_m6 => ?_)
    refine Fr.ite (fun _ => ?_) (fun _ => ?_)
    · exact hk _ hm_m6
    · refine Fr.ite (fun _ => ?_) (fun _ => ?_)
      · refine Fr.ite (fun _ => ?_) (fun _ => ?_)
        · exact FRX12_laysTones_J58 _ _ _ _ _ _ p152 p153 ih hm_m6
        · exact Fr.none
      · exact FRX12_laysTones_J58 _ _ _ _ _ _ p152 p153 ih hm_m6
set_option maxRecDepth 100000 in
set_option maxHeartbeats 4000000 in
theorem FRX12_laysTones_L6 {P : Nat → Nat → Prop} {m0 : ev_M} (f : Nat) (k : ev_M → Option (Unit × ev_M)) (p112_46 : ¬ P 112 46) (p112_49 : ¬ P 112 49) (p112_50 : ¬ P 112 50) (p112_51 : ¬ P 112 51) (p112_53 : ¬ P 112 53) (p112_55 : ¬ P 112 55) (p112_56 : ¬ P 112 56) (p112_99 : ¬ P 112 99) (p144 : ∀ k, ¬ P 144 k) (p146 : ∀ k, ¬ P 146 k) (p152 : ∀ k, ¬ P 152 k) (p153 : ∀ k, ¬ P 153 k) (p179 : ∀ k, ¬ P 179 k) (hk : ∀  (xm : ev_M), frP P m0 xm → Fr (frP P m0) (k xm)) : ∀ (n : Nat) (a1 : Int32) (m : ev_M), frP P m0 m → Fr (frP P m0) (FX12_laysTones_L6 f k n a1 m) := by
  intro n
  induction n with
  | zero => intros; exact Fr.none
  | succ n ih =>
    intro a1 m hm_m
    rw [FX12_laysTones_L6]
    refine Fr.ite (fun _ => ?_) (fun _ => ?_)
    · exact hk _ hm_m
    · refine Fr.bd (FRX12_roundGoes _ p112_46 p112_49 p112_50 p112_51 p112_53 p112_55 p112_56 p112_99 p144 p146 p179 hm_m) (fun _ m4 hm_m4 => ?_)
      exact FRX12_laysTones_L18 _ _ _ p152 p153 ((by
  intro m9 hm_m9
  exact ih _ _ hm_m9)) _ _ _ hm_m4
set_option maxRecDepth 100000 in
set_option maxHeartbeats 4000000 in
theorem FRX12_laysTones {P : Nat → Nat → Prop} {m0 : ev_M} (f : Nat) {m : ev_M} (p112_46 : ¬ P 112 46) (p112_49 : ¬ P 112 49) (p112_50 : ¬ P 112 50) (p112_51 : ¬ P 112 51) (p112_53 : ¬ P 112 53) (p112_54 : ¬ P 112 54) (p112_55 : ¬ P 112 55) (p112_56 : ¬ P 112 56) (p112_99 : ¬ P 112 99) (p144 : ∀ k, ¬ P 144 k) (p145 : ∀ k, ¬ P 145 k) (p146 : ∀ k, ¬ P 146 k) (p152 : ∀ k, ¬ P 152 k) (p153 : ∀ k, ¬ P 153 k) (p179 : ∀ k, ¬ P 179 k)  (hm_m : frP P m0 m) : Fr (frP P m0) (FX12_laysTones f m) := by
  unfold FX12_laysTones
  refine Fr.bd (FRX12_putsAside _ p112_54 p112_55 p112_56 p145 hm_m) (fun _ m2 hm_m2 => ?_)
  exact FRX12_laysTones_L6 _ _ p112_46 p112_49 p112_50 p112_51 p112_53 p112_55 p112_56 p112_99 p144 p146 p152 p153 p179 ((by
  intro m10 hm_m10
  refine Fr.bd (FRX12_takesBack _ p112_54 p112_55 p112_56 p144 hm_m10) (fun _ m12 hm_m12 => ?_)
  exact Fr.ok hm_m12)) _ _ _ hm_m2
set_option maxRecDepth 100000 in
set_option maxHeartbeats 4000000 in
theorem FRX12_qTest_J106 {P : Nat → Nat → Prop} {m0 : ev_M} (f : Nat) (kt2 : Int32 → ev_M → Option (Unit × ev_M)) (s0 : Int32) {m : ev_M}  (hkt2 : ∀ (x0 : Int32) (xm : ev_M), frP P m0 xm → Fr (frP P m0) (kt2 x0 xm)) (hm_m : frP P m0 m) : Fr (frP P m0) (FX12_qTest_J106 f kt2 s0 m) := by
  unfold FX12_qTest_J106
  exact hkt2 _ _ hm_m
set_option maxRecDepth 100000 in
set_option maxHeartbeats 4000000 in
theorem FRX12_qTest_J105 {P : Nat → Nat → Prop} {m0 : ev_M} (f : Nat) (kt2 : Int32 → ev_M → Option (Unit × ev_M)) {m : ev_M}  (hkt2 : ∀ (x0 : Int32) (xm : ev_M), frP P m0 xm → Fr (frP P m0) (kt2 x0 xm)) (hm_m : frP P m0 m) : Fr (frP P m0) (FX12_qTest_J105 f kt2 m) := by
  unfold FX12_qTest_J105
  exact FRX12_qTest_J106 _ _ _ hkt2 hm_m
set_option maxRecDepth 100000 in
set_option maxHeartbeats 4000000 in
theorem FRX12_qTest_L2 {P : Nat → Nat → Prop} {m0 : ev_M} (f : Nat) (k : ev_M → Option (Unit × ev_M)) (p112_2 : ¬ P 112 2) (p112_4 : ¬ P 112 4) (p112_5 : ¬ P 112 5) (p112_6 : ¬ P 112 6) (p112_93 : ¬ P 112 93) (p112_95 : ¬ P 112 95) (p112_96 : ¬ P 112 96) (p112_97 : ¬ P 112 97) (p177 : ∀ k, ¬ P 177 k) (p178 : ∀ k, ¬ P 178 k) (hk : ∀  (xm : ev_M), frP P m0 xm → Fr (frP P m0) (k xm)) : ∀ (n : Nat) (a1 : Int32) (m : ev_M), frP P m0 m → Fr (frP P m0) (FX12_qTest_L2 f k n a1 m) := by
  intro n
  induction n with
  | zero => intros; exact Fr.none
  | succ n ih =>
    intro a1 m hm_m
    rw [FX12_qTest_L2]
    refine Fr.ite (fun _ => ?_) (fun _ => ?_)
    · exact hk _ hm_m
    · refine Fr.ite (fun _ => ?_) (fun _ => ?_)
      · refine Fr.bd (FRX12_look _ p112_2 hm_m) (fun r1 m2 hm_m2 => ?_)
        refine Fr.ite (fun _ => ?_) (fun _ => ?_)
        · refine Fr.bd (FRX12_qOpens _ _ _ p112_5 p112_6 p112_95 p112_96 p178 hm_m2) (fun _ m16 hm_m16 => ?_)
          exact ih _ _ (frP_I p112_2 hm_m16)
        · refine Fr.bd (FRX12_isHere _ 160 p112_2 hm_m2) (fun r3 m4 hm_m4 => ?_)
          refine Fr.ite (fun _ => ?_) (fun _ => ?_)
          · refine Fr.bd (FRX12_qFact _ p112_2 p112_4 p112_5 p112_6 p112_93 p112_95 p112_96 p112_97 p177 p178 hm_m4) (fun _ m6 hm_m6 => ?_)
            refine Fr.bd (FRX12_qDropsNots _ p112_93 p112_95 p112_96 p177 hm_m6) (fun _ m8 hm_m8 => ?_)
            refine Fr.ite (fun _ => ?_) (fun _ => ?_)
            · refine Fr.bd (FRX12_qGoesOnTest _ p112_2 p112_4 p112_5 p112_6 p112_93 p112_95 p112_96 p177 p178 hm_m8) (fun r9 m10 hm_m10 => ?_)
              refine Fr.ite (fun _ => ?_) (fun _ => ?_)
              · exact FRX12_qTest_J105 _ _ ih hm_m10
              · exact FRX12_qTest_J106 _ _ _ ih hm_m10
            · exact FRX12_qTest_J105 _ _ ih hm_m8
          · refine Fr.bd (FRX12_qOpens _ _ _ p112_5 p112_6 p112_95 p112_96 p178 hm_m4) (fun _ m12 hm_m12 => ?_)
            refine Fr.bd (FRX12_asks _ 160 p112_2 p112_4 p112_5 p112_6 hm_m12) (fun _ m14 hm_m14 => ?_)
            exact ih _ _ hm_m14
      · exact hk _ hm_m
set_option maxRecDepth 100000 in
set_option maxHeartbeats 4000000 in
theorem FRX12_qTest_L110 {P : Nat → Nat → Prop} {m0 : ev_M} (f : Nat) (k : ev_M → Option (Unit × ev_M)) (p112_93 : ¬ P 112 93) (p112_95 : ¬ P 112 95) (p177 : ∀ k, ¬ P 177 k) (hk : ∀  (xm : ev_M), frP P m0 xm → Fr (frP P m0) (k xm)) : ∀ (n : Nat)  (m : ev_M), frP P m0 m → Fr (frP P m0) (FX12_qTest_L110 f k n m) := by
  intro n
  induction n with
  | zero => intros; exact Fr.none
  | succ n ih =>
    intro m hm_m
    rw [FX12_qTest_L110]
    refine Fr.ite (fun _ => ?_) (fun _ => ?_)
    · refine Fr.ite (fun _ => ?_) (fun _ => ?_)
      · exact hk _ hm_m
      · refine Fr.bd (FRX12_qDrops _ p112_93 p112_95 p177 hm_m) (fun _ m19 hm_m19 => ?_)
        exact ih  _ hm_m19
    · exact hk _ hm_m
set_option maxRecDepth 100000 in
set_option maxHeartbeats 4000000 in
theorem FRX12_qTest {P : Nat → Nat → Prop} {m0 : ev_M} (f : Nat) {m : ev_M} (p112_2 : ¬ P 112 2) (p112_4 : ¬ P 112 4) (p112_5 : ¬ P 112 5) (p112_6 : ¬ P 112 6) (p112_93 : ¬ P 112 93) (p112_95 : ¬ P 112 95) (p112_96 : ¬ P 112 96) (p112_97 : ¬ P 112 97) (p177 : ∀ k, ¬ P 177 k) (p178 : ∀ k, ¬ P 178 k)  (hm_m : frP P m0 m) : Fr (frP P m0) (FX12_qTest f m) := by
  unfold FX12_qTest
  exact FRX12_qTest_L2 _ _ p112_2 p112_4 p112_5 p112_6 p112_93 p112_95 p112_96 p112_97 p177 p178 ((by
  intro m17 hm_m17
  exact FRX12_qTest_L110 _ _ p112_93 p112_95 p177 ((by
  intro m20 hm_m20
  exact Fr.ok hm_m20)) _ _ hm_m17)) _ _ _ hm_m
set_option maxRecDepth 100000 in
set_option maxHeartbeats 4000000 in
theorem FRX12_ask_L192 {P : Nat → Nat → Prop} {m0 : ev_M} (f : Nat) (k : ev_M → Option (Int64 × ev_M)) (a1 : Int32) (p112_99 : ¬ P 112 99) (p112_100 : ¬ P 112 100) (p112_101 : ¬ P 112 101) (p179 : ∀ k, ¬ P 179 k) (hk : ∀  (xm : ev_M), frP P m0 xm → Fr (frP P m0) (k xm)) : ∀ (n : Nat) (a2 : Int32) (m : ev_M), frP P m0 m → Fr (frP P m0) (FX12_ask_L192 f k a1 n a2 m) := by
  intro n
  induction n with
  | zero => intros; exact Fr.none
  | succ n ih =>
    intro a2 m hm_m
    rw [FX12_ask_L192]
    refine Fr.bd (FRX12_towerMany _ hm_m) (fun r5 m6 hm_m6 => ?_)
    refine Fr.ite (fun _ => ?_) (fun _ => ?_)
    · exact hk _ hm_m6
    · refine Fr.bd (FRX12_qTold _ _ p112_99 p179 hm_m6) (fun r7 m8 hm_m8 => ?_)
      refine Fr.bd (FRX12_qTakes _ _ _ _ p112_100 p112_101 hm_m8) (fun _ m10 hm_m10 => ?_)
      exact ih _ _ hm_m10
set_option maxRecDepth 100000 in
set_option maxHeartbeats 4000000 in
theorem FRX12_ask_J173 {P : Nat → Nat → Prop} {m0 : ev_M} (f : Nat) (a1 : Int32) (s1 : Int64) {m : ev_M} (p112_46 : ¬ P 112 46) (p112_49 : ¬ P 112 49) (p112_50 : ¬ P 112 50) (p112_51 : ¬ P 112 51) (p112_53 : ¬ P 112 53) (p112_54 : ¬ P 112 54) (p112_55 : ¬ P 112 55) (p112_56 : ¬ P 112 56) (p112_99 : ¬ P 112 99) (p112_100 : ¬ P 112 100) (p112_101 : ¬ P 112 101) (p144 : ∀ k, ¬ P 144 k) (p145 : ∀ k, ¬ P 145 k) (p146 : ∀ k, ¬ P 146 k) (p152 : ∀ k, ¬ P 152 k) (p153 : ∀ k, ¬ P 153 k) (p179 : ∀ k, ¬ P 179 k)  (hm_m : frP P m0 m) : Fr (frP P m0) (FX12_ask_J173 f a1 s1 m) := by
  unfold FX12_ask_J173
  refine Fr.bd (FRX12_laysTones _ p112_46 p112_49 p112_50 p112_51 p112_53 p112_54 p112_55 p112_56 p112_99 p144 p145 p146 p152 p153 p179 (frP_L p112_100 (frP_I p112_101 hm_m))) (fun _ m4 hm_m4 => ?_)
  exact FRX12_ask_L192 _ _ _ p112_99 p112_100 p112_101 p179 ((by
  intro m11 hm_m11
  exact Fr.ok hm_m11)) _ _ _ (frP_I p112_46 hm_m4)
set_option maxRecDepth 100000 in
set_option maxHeartbeats 4000000 in
theorem FRX12_ask_J133 {P : Nat → Nat → Prop} {m0 : ev_M} (f : Nat) (a1 : Int32) {m : ev_M} (p112_7 : ¬ P 112 7) (p112_8 : ¬ P 112 8) (p112_46 : ¬ P 112 46) (p112_49 : ¬ P 112 49) (p112_50 : ¬ P 112 50) (p112_51 : ¬ P 112 51) (p112_53 : ¬ P 112 53) (p112_54 : ¬ P 112 54) (p112_55 : ¬ P 112 55) (p112_56 : ¬ P 112 56) (p112_99 : ¬ P 112 99) (p112_100 : ¬ P 112 100) (p112_101 : ¬ P 112 101) (p144 : ∀ k, ¬ P 144 k) (p145 : ∀ k, ¬ P 145 k) (p146 : ∀ k, ¬ P 146 k) (p152 : ∀ k, ¬ P 152 k) (p153 : ∀ k, ¬ P 153 k) (p179 : ∀ k, ¬ P 179 k)  (hm_m : frP P m0 m) : Fr (frP P m0) (FX12_ask_J133 f a1 m) := by
  unfold FX12_ask_J133
  refine Fr.ite (fun _ => ?_) (fun _ => ?_)
  · refine Fr.ite (fun _ => ?_) (fun _ => ?_)
    · exact FRX12_ask_J173 _ _ _ p112_46 p112_49 p112_50 p112_51 p112_53 p112_54 p112_55 p112_56 p112_99 p112_100 p112_101 p144 p145 p146 p152 p153 p179 (frP_I p112_8 (frP_I p112_7 hm_m))
    · exact FRX12_ask_J173 _ _ _ p112_46 p112_49 p112_50 p112_51 p112_53 p112_54 p112_55 p112_56 p112_99 p112_100 p112_101 p144 p145 p146 p152 p153 p179 (frP_I p112_8 (frP_I p112_7 hm_m))
  · exact Fr.ok (frP_I p112_8 (frP_I p112_7 hm_m))
set_option maxRecDepth 100000 in
set_option maxHeartbeats 4000000 in
theorem FRX12_ask_J109 {P : Nat → Nat → Prop} {m0 : ev_M} (f : Nat) (a1 : Int32) {m : ev_M} (p112_2 : ¬ P 112 2) (p112_5 : ¬ P 112 5) (p112_6 : ¬ P 112 6) (p112_7 : ¬ P 112 7) (p112_8 : ¬ P 112 8) (p112_46 : ¬ P 112 46) (p112_49 : ¬ P 112 49) (p112_50 : ¬ P 112 50) (p112_51 : ¬ P 112 51) (p112_53 : ¬ P 112 53) (p112_54 : ¬ P 112 54) (p112_55 : ¬ P 112 55) (p112_56 : ¬ P 112 56) (p112_99 : ¬ P 112 99) (p112_100 : ¬ P 112 100) (p112_101 : ¬ P 112 101) (p144 : ∀ k, ¬ P 144 k) (p145 : ∀ k, ¬ P 145 k) (p146 : ∀ k, ¬ P 146 k) (p152 : ∀ k, ¬ P 152 k) (p153 : ∀ k, ¬ P 153 k) (p179 : ∀ k, ¬ P 179 k)  (hm_m : frP P m0 m) : Fr (frP P m0) (FX12_ask_J109 f a1 m) := by
  unfold FX12_ask_J109
  refine Fr.ite (fun _ => ?_) (fun _ => ?_)
  · refine Fr.bd (FRX12_look _ p112_2 hm_m) (fun r12 m13 hm_m13 => ?_)
    refine Fr.ite (fun _ => ?_) (fun _ => ?_)
    · exact FRX12_ask_J133 _ _ p112_7 p112_8 p112_46 p112_49 p112_50 p112_51 p112_53 p112_54 p112_55 p112_56 p112_99 p112_100 p112_101 p144 p145 p146 p152 p153 p179 hm_m13
    · refine Fr.bd (FRX12_fail _ _ _ p112_5 p112_6 hm_m13) (fun _ m15 hm_m15 => ?_)
      exact FRX12_ask_J133 _ _ p112_7 p112_8 p112_46 p112_49 p112_50 p112_51 p112_53 p112_54 p112_55 p112_56 p112_99 p112_100 p112_101 p144 p145 p146 p152 p153 p179 hm_m15
  · exact FRX12_ask_J133 _ _ p112_7 p112_8 p112_46 p112_49 p112_50 p112_51 p112_53 p112_54 p112_55 p112_56 p112_99 p112_100 p112_101 p144 p145 p146 p152 p153 p179 hm_m
set_option maxRecDepth 100000 in
set_option maxHeartbeats 4000000 in
theorem FRX12_ask_J98 {P : Nat → Nat → Prop} {m0 : ev_M} (f : Nat) (a1 : Int32) {m : ev_M} (p112_2 : ¬ P 112 2) (p112_4 : ¬ P 112 4) (p112_5 : ¬ P 112 5) (p112_6 : ¬ P 112 6) (p112_7 : ¬ P 112 7) (p112_8 : ¬ P 112 8) (p112_46 : ¬ P 112 46) (p112_49 : ¬ P 112 49) (p112_50 : ¬ P 112 50) (p112_51 : ¬ P 112 51) (p112_53 : ¬ P 112 53) (p112_54 : ¬ P 112 54) (p112_55 : ¬ P 112 55) (p112_56 : ¬ P 112 56) (p112_93 : ¬ P 112 93) (p112_95 : ¬ P 112 95) (p112_96 : ¬ P 112 96) (p112_97 : ¬ P 112 97) (p112_99 : ¬ P 112 99) (p112_100 : ¬ P 112 100) (p112_101 : ¬ P 112 101) (p144 : ∀ k, ¬ P 144 k) (p145 : ∀ k, ¬ P 145 k) (p146 : ∀ k, ¬ P 146 k) (p152 : ∀ k, ¬ P 152 k) (p153 : ∀ k, ¬ P 153 k) (p177 : ∀ k, ¬ P 177 k) (p178 : ∀ k, ¬ P 178 k) (p179 : ∀ k, ¬ P 179 k)  (hm_m : frP P m0 m) : Fr (frP P m0) (FX12_ask_J98 f a1 m) := by
  unfold FX12_ask_J98
  refine Fr.ite (fun _ => ?_) (fun _ => ?_)
  · refine Fr.bd (FRX12_qSums _ p112_2 p112_4 p112_5 p112_6 p112_93 p112_95 p112_96 p112_97 p177 p178 hm_m) (fun _ m17 hm_m17 => ?_)
    exact FRX12_ask_J109 _ _ p112_2 p112_5 p112_6 p112_7 p112_8 p112_46 p112_49 p112_50 p112_51 p112_53 p112_54 p112_55 p112_56 p112_99 p112_100 p112_101 p144 p145 p146 p152 p153 p179 hm_m17
  · exact FRX12_ask_J109 _ _ p112_2 p112_5 p112_6 p112_7 p112_8 p112_46 p112_49 p112_50 p112_51 p112_53 p112_54 p112_55 p112_56 p112_99 p112_100 p112_101 p144 p145 p146 p152 p153 p179 hm_m
set_option maxRecDepth 100000 in
set_option maxHeartbeats 4000000 in
theorem FRX12_ask {P : Nat → Nat → Prop} {m0 : ev_M} (f : Nat) {m : ev_M} (p112_1 : ¬ P 112 1) (p112_2 : ¬ P 112 2) (p112_3 : ¬ P 112 3) (p112_4 : ¬ P 112 4) (p112_5 : ¬ P 112 5) (p112_6 : ¬ P 112 6) (p112_7 : ¬ P 112 7) (p112_8 : ¬ P 112 8) (p112_46 : ¬ P 112 46) (p112_49 : ¬ P 112 49) (p112_50 : ¬ P 112 50) (p112_51 : ¬ P 112 51) (p112_53 : ¬ P 112 53) (p112_54 : ¬ P 112 54) (p112_55 : ¬ P 112 55) (p112_56 : ¬ P 112 56) (p112_93 : ¬ P 112 93) (p112_95 : ¬ P 112 95) (p112_96 : ¬ P 112 96) (p112_97 : ¬ P 112 97) (p112_99 : ¬ P 112 99) (p112_100 : ¬ P 112 100) (p112_101 : ¬ P 112 101) (p144 : ∀ k, ¬ P 144 k) (p145 : ∀ k, ¬ P 145 k) (p146 : ∀ k, ¬ P 146 k) (p152 : ∀ k, ¬ P 152 k) (p153 : ∀ k, ¬ P 153 k) (p177 : ∀ k, ¬ P 177 k) (p178 : ∀ k, ¬ P 178 k) (p179 : ∀ k, ¬ P 179 k)  (hm_m : frP P m0 m) : Fr (frP P m0) (FX12_ask f m) := by
  unfold FX12_ask
  refine Fr.ite (fun _ => ?_) (fun _ => ?_)
  · exact Fr.ok (frP_I p112_1 hm_m)
  · refine Fr.bd (FRX12_qKind _ p112_2 p112_4 p112_5 p112_6 (frP_I p112_97 (frP_I p112_96 (frP_I p112_95 (frP_I p112_93 (frP_I p112_46 (frP_I p112_6 (frP_I p112_5 (frP_I p112_4 (frP_I p112_2 (frP_I p112_1 (frP_I p112_3 hm_m)))))))))))) (fun r1 m2 hm_m2 => ?_)
    refine Fr.ite (fun _ => ?_) (fun _ => ?_)
    · refine Fr.ite (fun _ => ?_) (fun _ => ?_)
      · exact FRX12_ask_J98 _ _ p112_2 p112_4 p112_5 p112_6 p112_7 p112_8 p112_46 p112_49 p112_50 p112_51 p112_53 p112_54 p112_55 p112_56 p112_93 p112_95 p112_96 p112_97 p112_99 p112_100 p112_101 p144 p145 p146 p152 p153 p177 p178 p179 hm_m2
      · refine Fr.bd (FRX12_qTest _ p112_2 p112_4 p112_5 p112_6 p112_93 p112_95 p112_96 p112_97 p177 p178 hm_m2) (fun _ m19 hm_m19 => ?_)
        exact FRX12_ask_J109 _ _ p112_2 p112_5 p112_6 p112_7 p112_8 p112_46 p112_49 p112_50 p112_51 p112_53 p112_54 p112_55 p112_56 p112_99 p112_100 p112_101 p144 p145 p146 p152 p153 p179 hm_m19
    · exact FRX12_ask_J98 _ _ p112_2 p112_4 p112_5 p112_6 p112_7 p112_8 p112_46 p112_49 p112_50 p112_51 p112_53 p112_54 p112_55 p112_56 p112_93 p112_95 p112_96 p112_97 p112_99 p112_100 p112_101 p144 p145 p146 p152 p153 p177 p178 p179 hm_m2
set_option maxRecDepth 100000 in
set_option maxHeartbeats 4000000 in
theorem FRX9_readSum_J55 {P : Nat → Nat → Prop} {m0 : ev_M} (f : Nat) (rc : Nat → Int32 → ev_M → Option (Unit × ev_M)) (kt6 : Int32 → ev_M → Option (Unit × ev_M)) (a1 : Int32) (s0 : Int32) {m : ev_M} (pD : ∀ o, (o = 5 ∨ o = 6 ∨ o = 11 ∨ o = 12 ∨ o = 23 ∨ o = 24) → ∀ k, ¬ P o k) (p13_2 : ¬ P 13 2) (p13_5 : ¬ P 13 5) (p13_6 : ¬ P 13 6) (p13_7 : ¬ P 13 7) (hrc : ∀ (x0 : Nat) (x1 : Int32) (xm : ev_M), frP P m0 xm → Fr (frP P m0) (rc x0 x1 xm)) (hkt6 : ∀ (x0 : Int32) (xm : ev_M), frP P m0 xm → Fr (frP P m0) (kt6 x0 xm)) (hm_m : frP P m0 m) : Fr (frP P m0) (FX9_readSum_J55 f rc kt6 a1 s0 m) := by
  unfold FX9_readSum_J55
  refine Fr.bd (FRX10_advance _ p13_2 p13_5 p13_6 p13_7 hm_m) (fun _ m8 hm_m8 => ?_)
  refine Fr.bd (hrc _ _ _ hm_m8) (fun _ m10 hm_m10 => ?_)
  refine Fr.bd (FRX9_put _ _ pD hm_m10) (fun _ m12 hm_m12 => ?_)
  exact hkt6 _ _ hm_m12
set_option maxRecDepth 100000 in
set_option maxHeartbeats 4000000 in
theorem FRX9_readSum_J37 {P : Nat → Nat → Prop} {m0 : ev_M} (f : Nat) (rc : Nat → Int32 → ev_M → Option (Unit × ev_M)) (kt6 : Int32 → ev_M → Option (Unit × ev_M)) (a1 : Int32) {m : ev_M} (pD : ∀ o, (o = 5 ∨ o = 6 ∨ o = 11 ∨ o = 12 ∨ o = 23 ∨ o = 24) → ∀ k, ¬ P o k) (p13_2 : ¬ P 13 2) (p13_5 : ¬ P 13 5) (p13_6 : ¬ P 13 6) (p13_7 : ¬ P 13 7) (hrc : ∀ (x0 : Nat) (x1 : Int32) (xm : ev_M), frP P m0 xm → Fr (frP P m0) (rc x0 x1 xm)) (hkt6 : ∀ (x0 : Int32) (xm : ev_M), frP P m0 xm → Fr (frP P m0) (kt6 x0 xm)) (hm_m : frP P m0 m) : Fr (frP P m0) (FX9_readSum_J37 f rc kt6 a1 m) := by
  unfold FX9_readSum_J37
  refine Fr.bd (FRX10_isSign _ _ hm_m) (fun r5 m6 hm_m6 => ?_)
  refine Fr.ite (fun _ => ?_) (fun _ => ?_)
  · exact FRX9_readSum_J55 _ _ _ _ _ pD p13_2 p13_5 p13_6 p13_7 hrc hkt6 hm_m6
  · exact FRX9_readSum_J55 _ _ _ _ _ pD p13_2 p13_5 p13_6 p13_7 hrc hkt6 hm_m6
set_option maxRecDepth 100000 in
set_option maxHeartbeats 4000000 in
theorem FRX9_readSum_L6 {P : Nat → Nat → Prop} {m0 : ev_M} (f : Nat) (rc : Nat → Int32 → ev_M → Option (Unit × ev_M)) (k : ev_M → Option (Unit × ev_M)) (pD : ∀ o, (o = 5 ∨ o = 6 ∨ o = 11 ∨ o = 12 ∨ o = 23 ∨ o = 24) → ∀ k, ¬ P o k) (p13_2 : ¬ P 13 2) (p13_5 : ¬ P 13 5) (p13_6 : ¬ P 13 6) (p13_7 : ¬ P 13 7) (hrc : ∀ (x0 : Nat) (x1 : Int32) (xm : ev_M), frP P m0 xm → Fr (frP P m0) (rc x0 x1 xm)) (hk : ∀  (xm : ev_M), frP P m0 xm → Fr (frP P m0) (k xm)) : ∀ (n : Nat) (a1 : Int32) (m : ev_M), frP P m0 m → Fr (frP P m0) (FX9_readSum_L6 f rc k n a1 m) := by
  intro n
  induction n with
  | zero => intros; exact Fr.none
  | succ n ih =>
    intro a1 m hm_m
    rw [FX9_readSum_L6]
    refine Fr.ite (fun _ => ?_) (fun _ => ?_)
    · exact hk _ hm_m
    · refine Fr.bd (FRX10_isSign _ _ hm_m) (fun r3 m4 hm_m4 => ?_)
      refine Fr.ite (fun _ => ?_) (fun _ => ?_)
      · refine Fr.bd (FRX10_isSign _ _ hm_m4) (fun r13 m14 hm_m14 => ?_)
        refine Fr.ite (fun _ => ?_) (fun _ => ?_)
        · exact hk _ hm_m14
        · exact FRX9_readSum_J37 _ _ _ _ pD p13_2 p13_5 p13_6 p13_7 hrc ih hm_m14
      · exact FRX9_readSum_J37 _ _ _ _ pD p13_2 p13_5 p13_6 p13_7 hrc ih hm_m4
set_option maxRecDepth 100000 in
set_option maxHeartbeats 4000000 in
theorem FRX9_readSumB {P : Nat → Nat → Prop} {m0 : ev_M} (f : Nat) (rc : Nat → Int32 → ev_M → Option (Unit × ev_M)) {m : ev_M} (pD : ∀ o, (o = 5 ∨ o = 6 ∨ o = 11 ∨ o = 12 ∨ o = 23 ∨ o = 24) → ∀ k, ¬ P o k) (p13_2 : ¬ P 13 2) (p13_5 : ¬ P 13 5) (p13_6 : ¬ P 13 6) (p13_7 : ¬ P 13 7) (hrc : ∀ (x0 : Nat) (x1 : Int32) (xm : ev_M), frP P m0 xm → Fr (frP P m0) (rc x0 x1 xm)) (hm_m : frP P m0 m) : Fr (frP P m0) (FX9_readSumB f rc m) := by
  unfold FX9_readSumB
  refine Fr.bd (hrc _ _ _ hm_m) (fun _ m2 hm_m2 => ?_)
  exact FRX9_readSum_L6 _ _ _ pD p13_2 p13_5 p13_6 p13_7 hrc ((by
  intro m15 hm_m15
  exact Fr.ok hm_m15)) _ _ _ hm_m2
set_option maxRecDepth 100000 in
set_option maxHeartbeats 4000000 in
theorem FRX9_readProduct_J56 {P : Nat → Nat → Prop} {m0 : ev_M} (f : Nat) (rc : Nat → Int32 → ev_M → Option (Unit × ev_M)) (kt6 : Int32 → ev_M → Option (Unit × ev_M)) (a1 : Int32) (s0 : Int32) {m : ev_M} (pD : ∀ o, (o = 5 ∨ o = 6 ∨ o = 11 ∨ o = 12 ∨ o = 23 ∨ o = 24) → ∀ k, ¬ P o k) (p13_2 : ¬ P 13 2) (p13_5 : ¬ P 13 5) (p13_6 : ¬ P 13 6) (p13_7 : ¬ P 13 7) (hrc : ∀ (x0 : Nat) (x1 : Int32) (xm : ev_M), frP P m0 xm → Fr (frP P m0) (rc x0 x1 xm)) (hkt6 : ∀ (x0 : Int32) (xm : ev_M), frP P m0 xm → Fr (frP P m0) (kt6 x0 xm)) (hm_m : frP P m0 m) : Fr (frP P m0) (FX9_readProduct_J56 f rc kt6 a1 s0 m) := by
  unfold FX9_readProduct_J56
  refine Fr.bd (FRX10_advance _ p13_2 p13_5 p13_6 p13_7 hm_m) (fun _ m8 hm_m8 => ?_)
  refine Fr.bd (hrc _ _ _ hm_m8) (fun _ m10 hm_m10 => ?_)
  refine Fr.bd (FRX9_put _ _ pD hm_m10) (fun _ m12 hm_m12 => ?_)
  exact hkt6 _ _ hm_m12
set_option maxRecDepth 100000 in
set_option maxHeartbeats 4000000 in
theorem FRX9_readProduct_J37 {P : Nat → Nat → Prop} {m0 : ev_M} (f : Nat) (rc : Nat → Int32 → ev_M → Option (Unit × ev_M)) (kt6 : Int32 → ev_M → Option (Unit × ev_M)) (a1 : Int32) {m : ev_M} (pD : ∀ o, (o = 5 ∨ o = 6 ∨ o = 11 ∨ o = 12 ∨ o = 23 ∨ o = 24) → ∀ k, ¬ P o k) (p13_2 : ¬ P 13 2) (p13_5 : ¬ P 13 5) (p13_6 : ¬ P 13 6) (p13_7 : ¬ P 13 7) (hrc : ∀ (x0 : Nat) (x1 : Int32) (xm : ev_M), frP P m0 xm → Fr (frP P m0) (rc x0 x1 xm)) (hkt6 : ∀ (x0 : Int32) (xm : ev_M), frP P m0 xm → Fr (frP P m0) (kt6 x0 xm)) (hm_m : frP P m0 m) : Fr (frP P m0) (FX9_readProduct_J37 f rc kt6 a1 m) := by
  unfold FX9_readProduct_J37
  refine Fr.bd (FRX10_isSign _ _ hm_m) (fun r5 m6 hm_m6 => ?_)
  refine Fr.ite (fun _ => ?_) (fun _ => ?_)
  · exact FRX9_readProduct_J56 _ _ _ _ _ pD p13_2 p13_5 p13_6 p13_7 hrc hkt6 hm_m6
  · exact FRX9_readProduct_J56 _ _ _ _ _ pD p13_2 p13_5 p13_6 p13_7 hrc hkt6 hm_m6
set_option maxRecDepth 100000 in
set_option maxHeartbeats 4000000 in
theorem FRX9_readProduct_L6 {P : Nat → Nat → Prop} {m0 : ev_M} (f : Nat) (rc : Nat → Int32 → ev_M → Option (Unit × ev_M)) (k : ev_M → Option (Unit × ev_M)) (pD : ∀ o, (o = 5 ∨ o = 6 ∨ o = 11 ∨ o = 12 ∨ o = 23 ∨ o = 24) → ∀ k, ¬ P o k) (p13_2 : ¬ P 13 2) (p13_5 : ¬ P 13 5) (p13_6 : ¬ P 13 6) (p13_7 : ¬ P 13 7) (hrc : ∀ (x0 : Nat) (x1 : Int32) (xm : ev_M), frP P m0 xm → Fr (frP P m0) (rc x0 x1 xm)) (hk : ∀  (xm : ev_M), frP P m0 xm → Fr (frP P m0) (k xm)) : ∀ (n : Nat) (a1 : Int32) (m : ev_M), frP P m0 m → Fr (frP P m0) (FX9_readProduct_L6 f rc k n a1 m) := by
  intro n
  induction n with
  | zero => intros; exact Fr.none
  | succ n ih =>
    intro a1 m hm_m
    rw [FX9_readProduct_L6]
    refine Fr.ite (fun _ => ?_) (fun _ => ?_)
    · exact hk _ hm_m
    · refine Fr.bd (FRX10_isSign _ _ hm_m) (fun r3 m4 hm_m4 => ?_)
      refine Fr.ite (fun _ => ?_) (fun _ => ?_)
      · refine Fr.bd (FRX10_isSign _ _ hm_m4) (fun r13 m14 hm_m14 => ?_)
        refine Fr.ite (fun _ => ?_) (fun _ => ?_)
        · exact hk _ hm_m14
        · exact FRX9_readProduct_J37 _ _ _ _ pD p13_2 p13_5 p13_6 p13_7 hrc ih hm_m14
      · exact FRX9_readProduct_J37 _ _ _ _ pD p13_2 p13_5 p13_6 p13_7 hrc ih hm_m4
set_option maxRecDepth 100000 in
set_option maxHeartbeats 4000000 in
theorem FRX9_readProductB {P : Nat → Nat → Prop} {m0 : ev_M} (f : Nat) (rc : Nat → Int32 → ev_M → Option (Unit × ev_M)) {m : ev_M} (pD : ∀ o, (o = 5 ∨ o = 6 ∨ o = 11 ∨ o = 12 ∨ o = 23 ∨ o = 24) → ∀ k, ¬ P o k) (p13_2 : ¬ P 13 2) (p13_5 : ¬ P 13 5) (p13_6 : ¬ P 13 6) (p13_7 : ¬ P 13 7) (hrc : ∀ (x0 : Nat) (x1 : Int32) (xm : ev_M), frP P m0 xm → Fr (frP P m0) (rc x0 x1 xm)) (hm_m : frP P m0 m) : Fr (frP P m0) (FX9_readProductB f rc m) := by
  unfold FX9_readProductB
  refine Fr.bd (hrc _ _ _ hm_m) (fun _ m2 hm_m2 => ?_)
  exact FRX9_readProduct_L6 _ _ _ pD p13_2 p13_5 p13_6 p13_7 hrc ((by
  intro m15 hm_m15
  exact Fr.ok hm_m15)) _ _ _ hm_m2
set_option maxRecDepth 100000 in
set_option maxHeartbeats 4000000 in
theorem FRX9_readPart_J116 {P : Nat → Nat → Prop} {m0 : ev_M} (f : Nat) (rc : Nat → Int32 → ev_M → Option (Unit × ev_M)) {m : ev_M} (pD : ∀ o, (o = 5 ∨ o = 6 ∨ o = 11 ∨ o = 12 ∨ o = 23 ∨ o = 24) → ∀ k, ¬ P o k) (p13_2 : ¬ P 13 2) (p13_3 : ¬ P 13 3) (p13_4 : ¬ P 13 4) (p13_5 : ¬ P 13 5) (p13_6 : ¬ P 13 6) (p13_7 : ¬ P 13 7) (p15_4 : ¬ P 15 4) (hrc : ∀ (x0 : Nat) (x1 : Int32) (xm : ev_M), frP P m0 xm → Fr (frP P m0) (rc x0 x1 xm)) (hm_m : frP P m0 m) : Fr (frP P m0) (FX9_readPart_J116 f rc m) := by
  unfold FX9_readPart_J116
  refine Fr.bd (FRX10_word _ hm_m) (fun r9 m10 hm_m10 => ?_)
  refine Fr.bd (FRX9_isValue _ _ hm_m10) (fun r11 m12 hm_m12 => ?_)
  refine Fr.ite (fun _ => ?_) (fun _ => ?_)
  · refine Fr.bd (FRX10_fail _ _ _ p13_3 p13_4 p13_5 hm_m12) (fun _ m14 hm_m14 => ?_)
    exact Fr.ok hm_m14
  · refine Fr.bd (FRX9_readValue _ pD p13_2 p13_5 p13_6 p13_7 p15_4 hm_m12) (fun _ m16 hm_m16 => ?_)
    exact Fr.ok hm_m16
set_option maxRecDepth 100000 in
set_option maxHeartbeats 4000000 in
theorem FRX9_readPartB {P : Nat → Nat → Prop} {m0 : ev_M} (f : Nat) (rc : Nat → Int32 → ev_M → Option (Unit × ev_M)) {m : ev_M} (pD : ∀ o, (o = 5 ∨ o = 6 ∨ o = 11 ∨ o = 12 ∨ o = 23 ∨ o = 24) → ∀ k, ¬ P o k) (p13_2 : ¬ P 13 2) (p13_3 : ¬ P 13 3) (p13_4 : ¬ P 13 4) (p13_5 : ¬ P 13 5) (p13_6 : ¬ P 13 6) (p13_7 : ¬ P 13 7) (p15_4 : ¬ P 15 4) (hrc : ∀ (x0 : Nat) (x1 : Int32) (xm : ev_M), frP P m0 xm → Fr (frP P m0) (rc x0 x1 xm)) (hm_m : frP P m0 m) : Fr (frP P m0) (FX9_readPartB f rc m) := by
  unfold FX9_readPartB
  refine Fr.bd (FRX10_isNumber _ hm_m) (fun r1 m2 hm_m2 => ?_)
  refine Fr.ite (fun _ => ?_) (fun _ => ?_)
  · refine Fr.bd (FRX10_isSign _ _ hm_m2) (fun r3 m4 hm_m4 => ?_)
    refine Fr.ite (fun _ => ?_) (fun _ => ?_)
    · refine Fr.bd (FRX10_isWord _ _ hm_m4) (fun r5 m6 hm_m6 => ?_)
      refine Fr.ite (fun _ => ?_) (fun _ => ?_)
      · refine Fr.bd (FRX10_isWord _ _ hm_m6) (fun r7 m8 hm_m8 => ?_)
        refine Fr.ite (fun _ => ?_) (fun _ => ?_)
        · refine Fr.ite (fun _ => ?_) (fun _ => ?_)
          · refine Fr.bd (FRX10_isWord _ _ hm_m8) (fun r17 m18 hm_m18 => ?_)
            refine Fr.ite (fun _ => ?_) (fun _ => ?_)
            · exact FRX9_readPart_J116 _ _ pD p13_2 p13_3 p13_4 p13_5 p13_6 p13_7 p15_4 hrc hm_m18
            · refine Fr.bd (hrc _ _ _ hm_m18) (fun _ m20 hm_m20 => ?_)
              exact Fr.ok hm_m20
          · exact FRX9_readPart_J116 _ _ pD p13_2 p13_3 p13_4 p13_5 p13_6 p13_7 p15_4 hrc hm_m8
        · refine Fr.bd (hrc _ _ _ hm_m8) (fun _ m22 hm_m22 => ?_)
          exact Fr.ok hm_m22
      · refine Fr.bd (hrc _ _ _ hm_m6) (fun _ m24 hm_m24 => ?_)
        exact Fr.ok hm_m24
    · refine Fr.bd (hrc _ _ _ hm_m4) (fun _ m26 hm_m26 => ?_)
      exact Fr.ok hm_m26
  · refine Fr.bd (FRX10_takeNumber _ _ _ p13_2 p13_3 p13_4 p13_5 p13_6 p13_7 hm_m2) (fun r27 m28 hm_m28 => ?_)
    refine Fr.bd (FRX9_put _ _ pD hm_m28) (fun _ m30 hm_m30 => ?_)
    exact Fr.ok hm_m30
set_option maxRecDepth 100000 in
set_option maxHeartbeats 4000000 in
theorem FRX9_readOpenedB {P : Nat → Nat → Prop} {m0 : ev_M} (f : Nat) (rc : Nat → Int32 → ev_M → Option (Unit × ev_M)) {m : ev_M} (p13_2 : ¬ P 13 2) (p13_3 : ¬ P 13 3) (p13_4 : ¬ P 13 4) (p13_5 : ¬ P 13 5) (p13_6 : ¬ P 13 6) (p13_7 : ¬ P 13 7) (p15_3 : ¬ P 15 3) (hrc : ∀ (x0 : Nat) (x1 : Int32) (xm : ev_M), frP P m0 xm → Fr (frP P m0) (rc x0 x1 xm)) (hm_m : frP P m0 m) : Fr (frP P m0) (FX9_readOpenedB f rc m) := by
  unfold FX9_readOpenedB
  refine Fr.bd (FRX9_opens _ p13_2 p13_3 p13_4 p13_5 p13_6 p13_7 p15_3 hm_m) (fun r1 m2 hm_m2 => ?_)
  refine Fr.ite (fun _ => ?_) (fun _ => ?_)
  · exact Fr.ok hm_m2
  · refine Fr.bd (hrc _ _ _ hm_m2) (fun _ m4 hm_m4 => ?_)
    refine Fr.bd (FRX10_takeSign _ _ p13_2 p13_3 p13_4 p13_5 p13_6 p13_7 hm_m4) (fun _ m6 hm_m6 => ?_)
    refine Fr.bd (FRX9_closes _ p15_3 hm_m6) (fun _ m8 hm_m8 => ?_)
    exact Fr.ok hm_m8
set_option maxRecDepth 100000 in
set_option maxHeartbeats 4000000 in
theorem FRX9_readPairB {P : Nat → Nat → Prop} {m0 : ev_M} (f : Nat) (rc : Nat → Int32 → ev_M → Option (Unit × ev_M)) (a1 : Int32) {m : ev_M} (pD : ∀ o, (o = 5 ∨ o = 6 ∨ o = 11 ∨ o = 12 ∨ o = 23 ∨ o = 24) → ∀ k, ¬ P o k) (p13_2 : ¬ P 13 2) (p13_3 : ¬ P 13 3) (p13_4 : ¬ P 13 4) (p13_5 : ¬ P 13 5) (p13_6 : ¬ P 13 6) (p13_7 : ¬ P 13 7) (p15_3 : ¬ P 15 3) (hrc : ∀ (x0 : Nat) (x1 : Int32) (xm : ev_M), frP P m0 xm → Fr (frP P m0) (rc x0 x1 xm)) (hm_m : frP P m0 m) : Fr (frP P m0) (FX9_readPairB f rc a1 m) := by
  unfold FX9_readPairB
  refine Fr.bd (FRX10_advance _ p13_2 p13_5 p13_6 p13_7 hm_m) (fun _ m2 hm_m2 => ?_)
  refine Fr.bd (FRX10_isSign _ _ hm_m2) (fun r3 m4 hm_m4 => ?_)
  refine Fr.ite (fun _ => ?_) (fun _ => ?_)
  · refine Fr.bd (FRX10_fail _ _ _ p13_3 p13_4 p13_5 hm_m4) (fun _ m20 hm_m20 => ?_)
    exact Fr.ok hm_m20
  · refine Fr.bd (FRX9_opens _ p13_2 p13_3 p13_4 p13_5 p13_6 p13_7 p15_3 hm_m4) (fun r5 m6 hm_m6 => ?_)
    refine Fr.ite (fun _ => ?_) (fun _ => ?_)
    · exact Fr.ok hm_m6
    · refine Fr.bd (hrc _ _ _ hm_m6) (fun _ m8 hm_m8 => ?_)
      refine Fr.bd (FRX10_takeSign _ _ p13_2 p13_3 p13_4 p13_5 p13_6 p13_7 hm_m8) (fun _ m10 hm_m10 => ?_)
      refine Fr.bd (hrc _ _ _ hm_m10) (fun _ m12 hm_m12 => ?_)
      refine Fr.bd (FRX10_takeSign _ _ p13_2 p13_3 p13_4 p13_5 p13_6 p13_7 hm_m12) (fun _ m14 hm_m14 => ?_)
      refine Fr.bd (FRX9_closes _ p15_3 hm_m14) (fun _ m16 hm_m16 => ?_)
      refine Fr.bd (FRX9_put _ _ pD hm_m16) (fun _ m18 hm_m18 => ?_)
      exact Fr.ok hm_m18
set_option maxRecDepth 100000 in
set_option maxHeartbeats 4000000 in
theorem FRX9_readSaidAheadB {P : Nat → Nat → Prop} {m0 : ev_M} (f : Nat) (rc : Nat → Int32 → ev_M → Option (Unit × ev_M)) {m : ev_M} (pD : ∀ o, (o = 5 ∨ o = 6 ∨ o = 11 ∨ o = 12 ∨ o = 23 ∨ o = 24) → ∀ k, ¬ P o k) (p13_2 : ¬ P 13 2) (p13_3 : ¬ P 13 3) (p13_4 : ¬ P 13 4) (p13_5 : ¬ P 13 5) (p13_6 : ¬ P 13 6) (p13_7 : ¬ P 13 7) (p15_3 : ¬ P 15 3) (p15_4 : ¬ P 15 4) (hrc : ∀ (x0 : Nat) (x1 : Int32) (xm : ev_M), frP P m0 xm → Fr (frP P m0) (rc x0 x1 xm)) (hm_m : frP P m0 m) : Fr (frP P m0) (FX9_readSaidAheadB f rc m) := by
  unfold FX9_readSaidAheadB
  refine Fr.bd (FRX9_opens _ p13_2 p13_3 p13_4 p13_5 p13_6 p13_7 p15_3 hm_m) (fun r1 m2 hm_m2 => ?_)
  refine Fr.ite (fun _ => ?_) (fun _ => ?_)
  · exact Fr.ok hm_m2
  · refine Fr.bd (hrc _ _ _ hm_m2) (fun _ m4 hm_m4 => ?_)
    refine Fr.bd (FRX9_closes _ p15_3 hm_m4) (fun _ m6 hm_m6 => ?_)
    refine Fr.bd (FRX9_put _ _ pD hm_m6) (fun _ m8 hm_m8 => ?_)
    exact Fr.ok (frP_I p15_4 hm_m8)
set_option maxRecDepth 100000 in
set_option maxHeartbeats 4000000 in
theorem FRGA {P : Nat → Nat → Prop} {m0 : ev_M} (f : Nat) (pD : ∀ o, (o = 5 ∨ o = 6 ∨ o = 11 ∨ o = 12 ∨ o = 23 ∨ o = 24) → ∀ k, ¬ P o k) (p13_2 : ¬ P 13 2) (p13_3 : ¬ P 13 3) (p13_4 : ¬ P 13 4) (p13_5 : ¬ P 13 5) (p13_6 : ¬ P 13 6) (p13_7 : ¬ P 13 7) (p15_3 : ¬ P 15 3) (p15_4 : ¬ P 15 4) : ∀ (n j : Nat) (a : Int32) (m : ev_M), frP P m0 m → Fr (frP P m0) (FGA f n j a m) := by
  intro n
  induction n with
  | zero => intros; exact Fr.none
  | succ n ih =>
    intro j a m hm_m
    match j with
    | 0 => exact FRX9_readSumB _ _ pD p13_2 p13_5 p13_6 p13_7 (fun j a m h => ih j a m h) hm_m
    | 1 => exact FRX9_readProductB _ _ pD p13_2 p13_5 p13_6 p13_7 (fun j a m h => ih j a m h) hm_m
    | 2 => exact FRX9_readPartB _ _ pD p13_2 p13_3 p13_4 p13_5 p13_6 p13_7 p15_4 (fun j a m h => ih j a m h) hm_m
    | 3 => exact FRX9_readOpenedB _ _ p13_2 p13_3 p13_4 p13_5 p13_6 p13_7 p15_3 (fun j a m h => ih j a m h) hm_m
    | 4 => exact FRX9_readPairB _ _ _ pD p13_2 p13_3 p13_4 p13_5 p13_6 p13_7 p15_3 (fun j a m h => ih j a m h) hm_m
    | j + 5 => exact FRX9_readSaidAheadB _ _ pD p13_2 p13_3 p13_4 p13_5 p13_6 p13_7 p15_3 p15_4 (fun j a m h => ih j a m h) hm_m
set_option maxRecDepth 100000 in
set_option maxHeartbeats 4000000 in
theorem FRX9_readSum {P : Nat → Nat → Prop} {m0 : ev_M} (f : Nat) {m : ev_M} (pD : ∀ o, (o = 5 ∨ o = 6 ∨ o = 11 ∨ o = 12 ∨ o = 23 ∨ o = 24) → ∀ k, ¬ P o k) (p13_2 : ¬ P 13 2) (p13_3 : ¬ P 13 3) (p13_4 : ¬ P 13 4) (p13_5 : ¬ P 13 5) (p13_6 : ¬ P 13 6) (p13_7 : ¬ P 13 7) (p15_3 : ¬ P 15 3) (p15_4 : ¬ P 15 4)  (hm_m : frP P m0 m) : Fr (frP P m0) (FX9_readSum f m) := by
  unfold FX9_readSum
  exact FRGA _ pD p13_2 p13_3 p13_4 p13_5 p13_6 p13_7 p15_3 p15_4 _ _ _ _ hm_m
set_option maxRecDepth 100000 in
set_option maxHeartbeats 4000000 in
theorem FRX9_readProduct {P : Nat → Nat → Prop} {m0 : ev_M} (f : Nat) {m : ev_M} (pD : ∀ o, (o = 5 ∨ o = 6 ∨ o = 11 ∨ o = 12 ∨ o = 23 ∨ o = 24) → ∀ k, ¬ P o k) (p13_2 : ¬ P 13 2) (p13_3 : ¬ P 13 3) (p13_4 : ¬ P 13 4) (p13_5 : ¬ P 13 5) (p13_6 : ¬ P 13 6) (p13_7 : ¬ P 13 7) (p15_3 : ¬ P 15 3) (p15_4 : ¬ P 15 4)  (hm_m : frP P m0 m) : Fr (frP P m0) (FX9_readProduct f m) := by
  unfold FX9_readProduct
  exact FRGA _ pD p13_2 p13_3 p13_4 p13_5 p13_6 p13_7 p15_3 p15_4 _ _ _ _ hm_m
set_option maxRecDepth 100000 in
set_option maxHeartbeats 4000000 in
theorem FRX9_readPart {P : Nat → Nat → Prop} {m0 : ev_M} (f : Nat) {m : ev_M} (pD : ∀ o, (o = 5 ∨ o = 6 ∨ o = 11 ∨ o = 12 ∨ o = 23 ∨ o = 24) → ∀ k, ¬ P o k) (p13_2 : ¬ P 13 2) (p13_3 : ¬ P 13 3) (p13_4 : ¬ P 13 4) (p13_5 : ¬ P 13 5) (p13_6 : ¬ P 13 6) (p13_7 : ¬ P 13 7) (p15_3 : ¬ P 15 3) (p15_4 : ¬ P 15 4)  (hm_m : frP P m0 m) : Fr (frP P m0) (FX9_readPart f m) := by
  unfold FX9_readPart
  exact FRGA _ pD p13_2 p13_3 p13_4 p13_5 p13_6 p13_7 p15_3 p15_4 _ _ _ _ hm_m
set_option maxRecDepth 100000 in
set_option maxHeartbeats 4000000 in
theorem FRX9_readOpened {P : Nat → Nat → Prop} {m0 : ev_M} (f : Nat) {m : ev_M} (pD : ∀ o, (o = 5 ∨ o = 6 ∨ o = 11 ∨ o = 12 ∨ o = 23 ∨ o = 24) → ∀ k, ¬ P o k) (p13_2 : ¬ P 13 2) (p13_3 : ¬ P 13 3) (p13_4 : ¬ P 13 4) (p13_5 : ¬ P 13 5) (p13_6 : ¬ P 13 6) (p13_7 : ¬ P 13 7) (p15_3 : ¬ P 15 3) (p15_4 : ¬ P 15 4)  (hm_m : frP P m0 m) : Fr (frP P m0) (FX9_readOpened f m) := by
  unfold FX9_readOpened
  exact FRGA _ pD p13_2 p13_3 p13_4 p13_5 p13_6 p13_7 p15_3 p15_4 _ _ _ _ hm_m
set_option maxRecDepth 100000 in
set_option maxHeartbeats 4000000 in
theorem FRX9_readPair {P : Nat → Nat → Prop} {m0 : ev_M} (f : Nat) (a1 : Int32) {m : ev_M} (pD : ∀ o, (o = 5 ∨ o = 6 ∨ o = 11 ∨ o = 12 ∨ o = 23 ∨ o = 24) → ∀ k, ¬ P o k) (p13_2 : ¬ P 13 2) (p13_3 : ¬ P 13 3) (p13_4 : ¬ P 13 4) (p13_5 : ¬ P 13 5) (p13_6 : ¬ P 13 6) (p13_7 : ¬ P 13 7) (p15_3 : ¬ P 15 3) (p15_4 : ¬ P 15 4)  (hm_m : frP P m0 m) : Fr (frP P m0) (FX9_readPair f a1 m) := by
  unfold FX9_readPair
  exact FRGA _ pD p13_2 p13_3 p13_4 p13_5 p13_6 p13_7 p15_3 p15_4 _ _ _ _ hm_m
set_option maxRecDepth 100000 in
set_option maxHeartbeats 4000000 in
theorem FRX9_readSaidAhead {P : Nat → Nat → Prop} {m0 : ev_M} (f : Nat) {m : ev_M} (pD : ∀ o, (o = 5 ∨ o = 6 ∨ o = 11 ∨ o = 12 ∨ o = 23 ∨ o = 24) → ∀ k, ¬ P o k) (p13_2 : ¬ P 13 2) (p13_3 : ¬ P 13 3) (p13_4 : ¬ P 13 4) (p13_5 : ¬ P 13 5) (p13_6 : ¬ P 13 6) (p13_7 : ¬ P 13 7) (p15_3 : ¬ P 15 3) (p15_4 : ¬ P 15 4)  (hm_m : frP P m0 m) : Fr (frP P m0) (FX9_readSaidAhead f m) := by
  unfold FX9_readSaidAhead
  exact FRGA _ pD p13_2 p13_3 p13_4 p13_5 p13_6 p13_7 p15_3 p15_4 _ _ _ _ hm_m
set_option maxRecDepth 100000 in
set_option maxHeartbeats 4000000 in
theorem FRX1_readSays {P : Nat → Nat → Prop} {m0 : ev_M} (f : Nat) (o0 : Nat) {m : ev_M} (pD : ∀ o, (o = 5 ∨ o = 6 ∨ o = 11 ∨ o = 12 ∨ o = 23 ∨ o = 24) → ∀ k, ¬ P o k) (p13_2 : ¬ P 13 2) (p13_3 : ¬ P 13 3) (p13_4 : ¬ P 13 4) (p13_5 : ¬ P 13 5) (p13_6 : ¬ P 13 6) (p13_7 : ¬ P 13 7) (p15_1 : ¬ P 15 1) (p15_2 : ¬ P 15 2) (p15_3 : ¬ P 15 3) (p15_4 : ¬ P 15 4) (q_o0_0_11 : ¬ P o0 11) (q_o0_0_12 : ¬ P o0 12)  (hm_m : frP P m0 m) : Fr (frP P m0) (FX1_readSays f o0 m) := by
  unfold FX1_readSays
  refine Fr.bd (FRX9_begin _ (o0 + 4) _ p15_1 p15_2 p15_3 p15_4 (frP_I q_o0_0_11 hm_m)) (fun _ m2 hm_m2 => ?_)
  refine Fr.bd (FRX9_readSum _ pD p13_2 p13_3 p13_4 p13_5 p13_6 p13_7 p15_3 p15_4 hm_m2) (fun _ m4 hm_m4 => ?_)
  exact Fr.ok (frP_I q_o0_0_12 hm_m4)
set_option maxRecDepth 100000 in
set_option maxHeartbeats 4000000 in
theorem FRX1_readFeels {P : Nat → Nat → Prop} {m0 : ev_M} (f : Nat) (o0 : Nat) {m : ev_M} (pD : ∀ o, (o = 5 ∨ o = 6 ∨ o = 11 ∨ o = 12 ∨ o = 23 ∨ o = 24) → ∀ k, ¬ P o k) (p13_2 : ¬ P 13 2) (p13_3 : ¬ P 13 3) (p13_4 : ¬ P 13 4) (p13_5 : ¬ P 13 5) (p13_6 : ¬ P 13 6) (p13_7 : ¬ P 13 7) (p15_1 : ¬ P 15 1) (p15_2 : ¬ P 15 2) (p15_3 : ¬ P 15 3) (p15_4 : ¬ P 15 4) (q_o0_0_13 : ¬ P o0 13) (q_o0_0_14 : ¬ P o0 14)  (hm_m : frP P m0 m) : Fr (frP P m0) (FX1_readFeels f o0 m) := by
  unfold FX1_readFeels
  refine Fr.bd (FRX9_begin _ (o0 + 4) _ p15_1 p15_2 p15_3 p15_4 (frP_I q_o0_0_13 hm_m)) (fun _ m2 hm_m2 => ?_)
  refine Fr.bd (FRX9_readSum _ pD p13_2 p13_3 p13_4 p13_5 p13_6 p13_7 p15_3 p15_4 hm_m2) (fun _ m4 hm_m4 => ?_)
  exact Fr.ok (frP_I q_o0_0_14 hm_m4)
set_option maxRecDepth 100000 in
set_option maxHeartbeats 4000000 in
theorem FRX7_readComparison_J73 {P : Nat → Nat → Prop} {m0 : ev_M} (f : Nat) (a1 : Int32) {m : ev_M} (pD : ∀ o, (o = 5 ∨ o = 6 ∨ o = 11 ∨ o = 12 ∨ o = 23 ∨ o = 24) → ∀ k, ¬ P o k) (p13_2 : ¬ P 13 2) (p13_3 : ¬ P 13 3) (p13_4 : ¬ P 13 4) (p13_5 : ¬ P 13 5) (p13_6 : ¬ P 13 6) (p13_7 : ¬ P 13 7) (p15_3 : ¬ P 15 3) (p15_4 : ¬ P 15 4) (p23_1 : ¬ P 23 1) (p24 : ∀ k, ¬ P 24 k)  (hm_m : frP P m0 m) : Fr (frP P m0) (FX7_readComparison_J73 f a1 m) := by
  unfold FX7_readComparison_J73
  refine Fr.bd (FRX10_advance _ p13_2 p13_5 p13_6 p13_7 hm_m) (fun _ m10 hm_m10 => ?_)
  refine Fr.bd (FRX9_readSum _ pD p13_2 p13_3 p13_4 p13_5 p13_6 p13_7 p15_3 p15_4 hm_m10) (fun _ m12 hm_m12 => ?_)
  refine Fr.bd (FRX2_add _ 23 _ p23_1 p24 hm_m12) (fun _ m14 hm_m14 => ?_)
  exact Fr.ok hm_m14
set_option maxRecDepth 100000 in
set_option maxHeartbeats 4000000 in
theorem FRX7_readComparison {P : Nat → Nat → Prop} {m0 : ev_M} (f : Nat) {m : ev_M} (pD : ∀ o, (o = 5 ∨ o = 6 ∨ o = 11 ∨ o = 12 ∨ o = 23 ∨ o = 24) → ∀ k, ¬ P o k) (p13_2 : ¬ P 13 2) (p13_3 : ¬ P 13 3) (p13_4 : ¬ P 13 4) (p13_5 : ¬ P 13 5) (p13_6 : ¬ P 13 6) (p13_7 : ¬ P 13 7) (p15_3 : ¬ P 15 3) (p15_4 : ¬ P 15 4) (p23_1 : ¬ P 23 1) (p24 : ∀ k, ¬ P 24 k)  (hm_m : frP P m0 m) : Fr (frP P m0) (FX7_readComparison f m) := by
  unfold FX7_readComparison
  refine Fr.bd (FRX9_readSum _ pD p13_2 p13_3 p13_4 p13_5 p13_6 p13_7 p15_3 p15_4 hm_m) (fun _ m2 hm_m2 => ?_)
  refine Fr.bd (FRX10_isSign _ _ hm_m2) (fun r3 m4 hm_m4 => ?_)
  refine Fr.ite (fun _ => ?_) (fun _ => ?_)
  · refine Fr.bd (FRX10_isSign _ _ hm_m4) (fun r5 m6 hm_m6 => ?_)
    refine Fr.ite (fun _ => ?_) (fun _ => ?_)
    · refine Fr.bd (FRX10_isSign _ _ hm_m6) (fun r7 m8 hm_m8 => ?_)
      refine Fr.ite (fun _ => ?_) (fun _ => ?_)
      · refine Fr.bd (FRX10_fail _ _ _ p13_3 p13_4 p13_5 hm_m8) (fun _ m16 hm_m16 => ?_)
        exact FRX7_readComparison_J73 _ _ pD p13_2 p13_3 p13_4 p13_5 p13_6 p13_7 p15_3 p15_4 p23_1 p24 hm_m16
      · exact FRX7_readComparison_J73 _ _ pD p13_2 p13_3 p13_4 p13_5 p13_6 p13_7 p15_3 p15_4 p23_1 p24 hm_m8
    · exact FRX7_readComparison_J73 _ _ pD p13_2 p13_3 p13_4 p13_5 p13_6 p13_7 p15_3 p15_4 p23_1 p24 hm_m6
  · exact FRX7_readComparison_J73 _ _ pD p13_2 p13_3 p13_4 p13_5 p13_6 p13_7 p15_3 p15_4 p23_1 p24 hm_m4
set_option maxRecDepth 100000 in
set_option maxHeartbeats 4000000 in
theorem FRX1_readStatement_J164 {P : Nat → Nat → Prop} {m0 : ev_M} (f : Nat) {m : ev_M} (p13_2 : ¬ P 13 2) (p13_3 : ¬ P 13 3) (p13_4 : ¬ P 13 4) (p13_5 : ¬ P 13 5) (p13_6 : ¬ P 13 6) (p13_7 : ¬ P 13 7)  (hm_m : frP P m0 m) : Fr (frP P m0) (FX1_readStatement_J164 f m) := by
  unfold FX1_readStatement_J164
  refine Fr.bd (FRX10_takeSign _ _ p13_2 p13_3 p13_4 p13_5 p13_6 p13_7 hm_m) (fun _ m10 hm_m10 => ?_)
  exact Fr.ok hm_m10
set_option maxRecDepth 100000 in
set_option maxHeartbeats 4000000 in
theorem FRX1_readStatement {P : Nat → Nat → Prop} {m0 : ev_M} (f : Nat) (o0 : Nat) {m : ev_M} (pD : ∀ o, (o = 5 ∨ o = 6 ∨ o = 11 ∨ o = 12 ∨ o = 23 ∨ o = 24) → ∀ k, ¬ P o k) (p13_2 : ¬ P 13 2) (p13_3 : ¬ P 13 3) (p13_4 : ¬ P 13 4) (p13_5 : ¬ P 13 5) (p13_6 : ¬ P 13 6) (p13_7 : ¬ P 13 7) (p15_1 : ¬ P 15 1) (p15_2 : ¬ P 15 2) (p15_3 : ¬ P 15 3) (p15_4 : ¬ P 15 4) (q_o0_0_5 : ¬ P o0 5) (q_o0_0_6 : ¬ P o0 6) (q_o0_0_8 : ¬ P o0 8) (q_o0_0_9 : ¬ P o0 9) (q_o0_0_10 : ¬ P o0 10) (q_o0_0_11 : ¬ P o0 11) (q_o0_0_12 : ¬ P o0 12) (q_o0_0_13 : ¬ P o0 13) (q_o0_0_14 : ¬ P o0 14) (q_o0_1 : ∀ k, ¬ P (o0 + 1) k) (q_o0_2 : ∀ k, ¬ P (o0 + 2) k) (q_o0_3 : ∀ k, ¬ P (o0 + 3) k)  (hm_m : frP P m0 m) : Fr (frP P m0) (FX1_readStatement f o0 m) := by
  unfold FX1_readStatement
  refine Fr.bd (FRX10_word _ hm_m) (fun r1 m2 hm_m2 => ?_)
  refine Fr.bd (FRX1_isTooMany _ o0 _ hm_m2) (fun r3 m4 hm_m4 => ?_)
  refine Fr.ite (fun _ => ?_) (fun _ => ?_)
  · refine Fr.bd (FRX10_advance _ p13_2 p13_5 p13_6 p13_7 hm_m4) (fun _ m6 hm_m6 => ?_)
    refine Fr.ite (fun _ => ?_) (fun _ => ?_)
    · refine Fr.bd (FRX1_readTower _ o0 p13_2 p13_3 p13_4 p13_5 p13_6 p13_7 q_o0_0_5 q_o0_1 q_o0_2 q_o0_3 hm_m6) (fun _ m8 hm_m8 => ?_)
      exact FRX1_readStatement_J164 _ p13_2 p13_3 p13_4 p13_5 p13_6 p13_7 hm_m8
    · refine Fr.ite (fun _ => ?_) (fun _ => ?_)
      · refine Fr.bd (FRX1_readYes _ o0 p13_2 p13_3 p13_4 p13_5 p13_6 p13_7 q_o0_0_6 hm_m6) (fun _ m13 hm_m13 => ?_)
        exact FRX1_readStatement_J164 _ p13_2 p13_3 p13_4 p13_5 p13_6 p13_7 hm_m13
      · refine Fr.ite (fun _ => ?_) (fun _ => ?_)
        · refine Fr.bd (FRX1_readSays _ o0 pD p13_2 p13_3 p13_4 p13_5 p13_6 p13_7 p15_1 p15_2 p15_3 p15_4 q_o0_0_11 q_o0_0_12 hm_m6) (fun _ m16 hm_m16 => ?_)
          exact FRX1_readStatement_J164 _ p13_2 p13_3 p13_4 p13_5 p13_6 p13_7 hm_m16
        · refine Fr.ite (fun _ => ?_) (fun _ => ?_)
          · refine Fr.bd (FRX1_readFeels _ o0 pD p13_2 p13_3 p13_4 p13_5 p13_6 p13_7 p15_1 p15_2 p15_3 p15_4 q_o0_0_13 q_o0_0_14 hm_m6) (fun _ m19 hm_m19 => ?_)
            exact FRX1_readStatement_J164 _ p13_2 p13_3 p13_4 p13_5 p13_6 p13_7 hm_m19
          · refine Fr.ite (fun _ => ?_) (fun _ => ?_)
            · refine Fr.bd (FRX10_takeNumber _ _ _ p13_2 p13_3 p13_4 p13_5 p13_6 p13_7 hm_m6) (fun r21 m22 hm_m22 => ?_)
              exact FRX1_readStatement_J164 _ p13_2 p13_3 p13_4 p13_5 p13_6 p13_7 (frP_I q_o0_0_8 hm_m22)
            · refine Fr.ite (fun _ => ?_) (fun _ => ?_)
              · refine Fr.bd (FRX10_takeNumber _ _ _ p13_2 p13_3 p13_4 p13_5 p13_6 p13_7 hm_m6) (fun r24 m25 hm_m25 => ?_)
                exact FRX1_readStatement_J164 _ p13_2 p13_3 p13_4 p13_5 p13_6 p13_7 (frP_I q_o0_0_9 hm_m25)
              · refine Fr.ite (fun _ => ?_) (fun _ => ?_)
                · refine Fr.bd (FRX10_takeNumber _ _ _ p13_2 p13_3 p13_4 p13_5 p13_6 p13_7 hm_m6) (fun r27 m28 hm_m28 => ?_)
                  exact FRX1_readStatement_J164 _ p13_2 p13_3 p13_4 p13_5 p13_6 p13_7 (frP_I q_o0_0_10 hm_m28)
                · refine Fr.bd (FRX10_fail _ _ _ p13_3 p13_4 p13_5 hm_m6) (fun _ m31 hm_m31 => ?_)
                  exact FRX1_readStatement_J164 _ p13_2 p13_3 p13_4 p13_5 p13_6 p13_7 hm_m31
  · refine Fr.bd (FRX10_fail _ _ _ p13_3 p13_4 p13_5 hm_m4) (fun _ m33 hm_m33 => ?_)
    exact Fr.ok hm_m33
set_option maxRecDepth 100000 in
set_option maxHeartbeats 4000000 in
theorem FRX1_readFrom_L32 {P : Nat → Nat → Prop} {m0 : ev_M} (f : Nat) (k : Int32 → ev_M → Option (Int32 × ev_M)) (o0 : Nat) (pD : ∀ o, (o = 5 ∨ o = 6 ∨ o = 11 ∨ o = 12 ∨ o = 23 ∨ o = 24) → ∀ k, ¬ P o k) (p13_2 : ¬ P 13 2) (p13_3 : ¬ P 13 3) (p13_4 : ¬ P 13 4) (p13_5 : ¬ P 13 5) (p13_6 : ¬ P 13 6) (p13_7 : ¬ P 13 7) (p15_1 : ¬ P 15 1) (p15_2 : ¬ P 15 2) (p15_3 : ¬ P 15 3) (p15_4 : ¬ P 15 4) (q_o0_0_5 : ¬ P o0 5) (q_o0_0_6 : ¬ P o0 6) (q_o0_0_8 : ¬ P o0 8) (q_o0_0_9 : ¬ P o0 9) (q_o0_0_10 : ¬ P o0 10) (q_o0_0_11 : ¬ P o0 11) (q_o0_0_12 : ¬ P o0 12) (q_o0_0_13 : ¬ P o0 13) (q_o0_0_14 : ¬ P o0 14) (q_o0_1 : ∀ k, ¬ P (o0 + 1) k) (q_o0_2 : ∀ k, ¬ P (o0 + 2) k) (q_o0_3 : ∀ k, ¬ P (o0 + 3) k) (hk : ∀ (x0 : Int32) (xm : ev_M), frP P m0 xm → Fr (frP P m0) (k x0 xm)) : ∀ (n : Nat) (a3 : Int32) (m : ev_M), frP P m0 m → Fr (frP P m0) (FX1_readFrom_L32 f k o0 n a3 m) := by
  intro n
  induction n with
  | zero => intros; exact Fr.none
  | succ n ih =>
    intro a3 m hm_m
    rw [FX1_readFrom_L32]
    refine Fr.ite (fun _ => ?_) (fun _ => ?_)
    · exact hk _ _ hm_m
    · refine Fr.bd (FRX10_isGood _ hm_m) (fun r11 m12 hm_m12 => ?_)
      refine Fr.ite (fun _ => ?_) (fun _ => ?_)
      · exact hk _ _ hm_m12
      · refine Fr.bd (FRX10_isEnd _ hm_m12) (fun r13 m14 hm_m14 => ?_)
        refine Fr.ite (fun _ => ?_) (fun _ => ?_)
        · refine Fr.bd (FRX1_readStatement _ o0 pD p13_2 p13_3 p13_4 p13_5 p13_6 p13_7 p15_1 p15_2 p15_3 p15_4 q_o0_0_5 q_o0_0_6 q_o0_0_8 q_o0_0_9 q_o0_0_10 q_o0_0_11 q_o0_0_12 q_o0_0_13 q_o0_0_14 q_o0_1 q_o0_2 q_o0_3 hm_m14) (fun _ m16 hm_m16 => ?_)
          exact ih _ _ hm_m16
        · exact hk _ _ hm_m14
set_option maxRecDepth 100000 in
set_option maxHeartbeats 4000000 in
theorem FRX1_readFrom_J80 {P : Nat → Nat → Prop} {m0 : ev_M} (f : Nat) (o0 : Nat) (a3 : Int32) {m : ev_M} (q_o0_0_4 : ¬ P o0 4) (q_o0_0_11 : ¬ P o0 11) (q_o0_0_12 : ¬ P o0 12) (q_o0_0_13 : ¬ P o0 13) (q_o0_0_14 : ¬ P o0 14) (q_o0_4_1 : ¬ P (o0 + 4) 1) (q_o0_5 : ∀ k, ¬ P (o0 + 5) k)  (hm_m : frP P m0 m) : Fr (frP P m0) (FX1_readFrom_J80 f o0 a3 m) := by
  unfold FX1_readFrom_J80
  refine Fr.bd (FRX1_addUntoldSums _ o0 q_o0_0_11 q_o0_0_12 q_o0_0_13 q_o0_0_14 q_o0_4_1 q_o0_5 hm_m) (fun _ m22 hm_m22 => ?_)
  refine Fr.bd (FRX10_isGood _ (frP_I q_o0_0_4 hm_m22)) (fun r23 m24 hm_m24 => ?_)
  refine Fr.ite (fun _ => ?_) (fun _ => ?_)
  · exact Fr.ok hm_m24
  · exact Fr.none
set_option maxRecDepth 100000 in
set_option maxHeartbeats 4000000 in
theorem FRX1_readFrom_J64 {P : Nat → Nat → Prop} {m0 : ev_M} (f : Nat) (o0 : Nat) (a3 : Int32) {m : ev_M} (p13_3 : ¬ P 13 3) (p13_4 : ¬ P 13 4) (p13_5 : ¬ P 13 5) (q_o0_0_4 : ¬ P o0 4) (q_o0_0_11 : ¬ P o0 11) (q_o0_0_12 : ¬ P o0 12) (q_o0_0_13 : ¬ P o0 13) (q_o0_0_14 : ¬ P o0 14) (q_o0_4_1 : ¬ P (o0 + 4) 1) (q_o0_5 : ∀ k, ¬ P (o0 + 5) k)  (hm_m : frP P m0 m) : Fr (frP P m0) (FX1_readFrom_J64 f o0 a3 m) := by
  unfold FX1_readFrom_J64
  refine Fr.bd (FRX10_isEnd _ hm_m) (fun r19 m20 hm_m20 => ?_)
  refine Fr.ite (fun _ => ?_) (fun _ => ?_)
  · refine Fr.bd (FRX10_fail _ _ _ p13_3 p13_4 p13_5 hm_m20) (fun _ m26 hm_m26 => ?_)
    exact FRX1_readFrom_J80 _ o0 _ q_o0_0_4 q_o0_0_11 q_o0_0_12 q_o0_0_13 q_o0_0_14 q_o0_4_1 q_o0_5 hm_m26
  · exact FRX1_readFrom_J80 _ o0 _ q_o0_0_4 q_o0_0_11 q_o0_0_12 q_o0_0_13 q_o0_0_14 q_o0_4_1 q_o0_5 hm_m20
set_option maxRecDepth 100000 in
set_option maxHeartbeats 4000000 in
theorem FRX1_readFrom {P : Nat → Nat → Prop} {m0 : ev_M} (f : Nat) (o0 : Nat) {m : ev_M} (pD : ∀ o, (o = 5 ∨ o = 6 ∨ o = 11 ∨ o = 12 ∨ o = 23 ∨ o = 24) → ∀ k, ¬ P o k) (p13_2 : ¬ P 13 2) (p13_3 : ¬ P 13 3) (p13_4 : ¬ P 13 4) (p13_5 : ¬ P 13 5) (p13_6 : ¬ P 13 6) (p13_7 : ¬ P 13 7) (p15_1 : ¬ P 15 1) (p15_2 : ¬ P 15 2) (p15_3 : ¬ P 15 3) (p15_4 : ¬ P 15 4) (q_o0_0_4 : ¬ P o0 4) (q_o0_0_5 : ¬ P o0 5) (q_o0_0_6 : ¬ P o0 6) (q_o0_0_7 : ¬ P o0 7) (q_o0_0_8 : ¬ P o0 8) (q_o0_0_9 : ¬ P o0 9) (q_o0_0_10 : ¬ P o0 10) (q_o0_0_11 : ¬ P o0 11) (q_o0_0_12 : ¬ P o0 12) (q_o0_0_13 : ¬ P o0 13) (q_o0_0_14 : ¬ P o0 14) (q_o0_1 : ∀ k, ¬ P (o0 + 1) k) (q_o0_2 : ∀ k, ¬ P (o0 + 2) k) (q_o0_3 : ∀ k, ¬ P (o0 + 3) k) (q_o0_4_1 : ¬ P (o0 + 4) 1) (q_o0_5 : ∀ k, ¬ P (o0 + 5) k)  (hm_m : frP P m0 m) : Fr (frP P m0) (FX1_readFrom f o0 m) := by
  unfold FX1_readFrom
  refine Fr.bd (FRX1_clear _ o0 q_o0_0_4 q_o0_0_5 q_o0_0_6 q_o0_0_8 q_o0_0_9 q_o0_0_10 q_o0_0_11 q_o0_0_12 q_o0_0_13 q_o0_0_14 q_o0_4_1 hm_m) (fun _ m2 hm_m2 => ?_)
  refine Fr.bd (FRX10_begin _ p13_2 p13_3 p13_4 p13_5 p13_6 p13_7 hm_m2) (fun _ m4 hm_m4 => ?_)
  refine Fr.bd (FRX10_takeWord _ _ p13_2 p13_3 p13_4 p13_5 p13_6 p13_7 hm_m4) (fun _ m6 hm_m6 => ?_)
  refine Fr.bd (FRX10_takeNumber _ _ _ p13_2 p13_3 p13_4 p13_5 p13_6 p13_7 hm_m6) (fun r7 m8 hm_m8 => ?_)
  refine Fr.bd (FRX10_takeSign _ _ p13_2 p13_3 p13_4 p13_5 p13_6 p13_7 (frP_I q_o0_0_7 hm_m8)) (fun _ m10 hm_m10 => ?_)
  exact FRX1_readFrom_L32 _ _ o0 pD p13_2 p13_3 p13_4 p13_5 p13_6 p13_7 p15_1 p15_2 p15_3 p15_4 q_o0_0_5 q_o0_0_6 q_o0_0_8 q_o0_0_9 q_o0_0_10 q_o0_0_11 q_o0_0_12 q_o0_0_13 q_o0_0_14 q_o0_1 q_o0_2 q_o0_3 ((by
  intro e17 m18 hm_m18
  exact FRX1_readFrom_J64 _ o0 _ p13_3 p13_4 p13_5 q_o0_0_4 q_o0_0_11 q_o0_0_12 q_o0_0_13 q_o0_0_14 q_o0_4_1 q_o0_5 hm_m18)) _ _ _ hm_m10
set_option maxRecDepth 100000 in
set_option maxHeartbeats 4000000 in
theorem FRX11_castle {P : Nat → Nat → Prop} {m0 : ev_M} (f : Nat) {m : ev_M} (pD : ∀ o, (o = 5 ∨ o = 6 ∨ o = 11 ∨ o = 12 ∨ o = 23 ∨ o = 24) → ∀ k, ¬ P o k) (pK : ∀ o, (1 ≤ o ∧ o < 13) → ∀ k, ¬ P o k) (p0_0 : ¬ P 0 0) (p0_1 : ¬ P 0 1) (p0_15 : ¬ P 0 15) (p0_16 : ¬ P 0 16) (p13_1 : ¬ P 13 1) (p13_2 : ¬ P 13 2) (p13_3 : ¬ P 13 3) (p13_4 : ¬ P 13 4) (p13_5 : ¬ P 13 5) (p13_6 : ¬ P 13 6) (p13_7 : ¬ P 13 7) (p15_1 : ¬ P 15 1) (p15_2 : ¬ P 15 2) (p15_3 : ¬ P 15 3) (p15_4 : ¬ P 15 4) (p16_2 : ¬ P 16 2) (p33_6 : ¬ P 33 6) (p40_3 : ¬ P 40 3) (p103_2 : ¬ P 103 2) (p103_3 : ¬ P 103 3) (p103_4 : ¬ P 103 4) (p103_5 : ¬ P 103 5) (p104 : ∀ k, ¬ P 104 k) (p105 : ∀ k, ¬ P 105 k) (p109 : ∀ k, ¬ P 109 k)  (hm_m : frP P m0 m) : Fr (frP P m0) (FX11_castle f m) := by
  unfold FX11_castle
  refine Fr.ite (fun hk1 => ?_) (fun _ => ?_)
  · refine Fr.bd (FRX1_readFrom _ ((m.1 0 1)).toNatClampNeg pD p13_2 p13_3 p13_4 p13_5 p13_6 p13_7 p15_1 p15_2 p15_3 p15_4 (pK _ (by have := kb1 hk1; omega) 4) (pK _ (by have := kb1 hk1; omega) 5) (pK _ (by have := kb1 hk1; omega) 6) (pK _ (by have := kb1 hk1; omega) 7) (pK _ (by have := kb1 hk1; omega) 8) (pK _ (by have := kb1 hk1; omega) 9) (pK _ (by have := kb1 hk1; omega) 10) (pK _ (by have := kb1 hk1; omega) 11) (pK _ (by have := kb1 hk1; omega) 12) (pK _ (by have := kb1 hk1; omega) 13) (pK _ (by have := kb1 hk1; omega) 14) (pK _ (by have := kb1 hk1; omega)) (pK _ (by have := kb1 hk1; omega)) (pK _ (by have := kb1 hk1; omega)) (pK _ (by have := kb1 hk1; omega) 1) (pK _ (by have := kb1 hk1; omega)) hm_m) (fun r2 m3 hm_m3 => ?_)
    refine Fr.bd (FRX11_noteFault _ p0_15 p0_16 hm_m3) (fun _ m5 hm_m5 => ?_)
    refine Fr.ite (fun _ => ?_) (fun _ => ?_)
    · refine Fr.bd (FRX11_refuse _ _ p109 (frP_I p13_1 hm_m5)) (fun r12 m13 hm_m13 => ?_)
      exact Fr.ok hm_m13
    · refine Fr.ite (fun hk2 => ?_) (fun _ => ?_)
      · refine Fr.ite (fun hk3 => ?_) (fun _ => ?_)
        · refine Fr.ite (fun hk4 => ?_) (fun _ => ?_)
          · refine Fr.bd (FRX8_begin _ 103 ((Int32.ofNat ((m5.1 0 1)).toNatClampNeg)).toNatClampNeg p103_2 p103_3 p103_4 p103_5 p104 p105 (frP_I p16_2 (frP_I p0_1 (frP_I p0_0 (frP_I p13_1 hm_m5))))) (fun _ m10 hm_m10 => ?_)
            refine Fr.ite (fun hk5 => ?_) (fun _ => ?_)
            · exact Fr.ok (frP_I p33_6 (frP_I p40_3 hm_m10))
            · exact Fr.none
          · exact Fr.none
        · exact Fr.none
      · exact Fr.none
  · exact Fr.none
set_option maxRecDepth 100000 in
set_option maxHeartbeats 4000000 in
theorem FRX7_readTest_L6 {P : Nat → Nat → Prop} {m0 : ev_M} (f : Nat) (rc : Nat → Int32 → ev_M → Option (Unit × ev_M)) (k : ev_M → Option (Unit × ev_M)) (p13_2 : ¬ P 13 2) (p13_5 : ¬ P 13 5) (p13_6 : ¬ P 13 6) (p13_7 : ¬ P 13 7) (p23_1 : ¬ P 23 1) (p24 : ∀ k, ¬ P 24 k) (hrc : ∀ (x0 : Nat) (x1 : Int32) (xm : ev_M), frP P m0 xm → Fr (frP P m0) (rc x0 x1 xm)) (hk : ∀  (xm : ev_M), frP P m0 xm → Fr (frP P m0) (k xm)) : ∀ (n : Nat) (a1 : Int32) (m : ev_M), frP P m0 m → Fr (frP P m0) (FX7_readTest_L6 f rc k n a1 m) := by
  intro n
  induction n with
  | zero => intros; exact Fr.none
  | succ n ih =>
    intro a1 m hm_m
    rw [FX7_readTest_L6]
    refine Fr.ite (fun _ => ?_) (fun _ => ?_)
    · exact hk _ hm_m
    · refine Fr.bd (FRX10_isWord _ _ hm_m) (fun r3 m4 hm_m4 => ?_)
      refine Fr.ite (fun _ => ?_) (fun _ => ?_)
      · exact hk _ hm_m4
      · refine Fr.bd (FRX10_advance _ p13_2 p13_5 p13_6 p13_7 hm_m4) (fun _ m6 hm_m6 => ?_)
        refine Fr.bd (hrc _ _ _ hm_m6) (fun _ m8 hm_m8 => ?_)
        refine Fr.bd (FRX2_add _ 23 _ p23_1 p24 hm_m8) (fun _ m10 hm_m10 => ?_)
        exact ih _ _ hm_m10
set_option maxRecDepth 100000 in
set_option maxHeartbeats 4000000 in
theorem FRX7_readTestB {P : Nat → Nat → Prop} {m0 : ev_M} (f : Nat) (rc : Nat → Int32 → ev_M → Option (Unit × ev_M)) {m : ev_M} (p13_2 : ¬ P 13 2) (p13_5 : ¬ P 13 5) (p13_6 : ¬ P 13 6) (p13_7 : ¬ P 13 7) (p23_1 : ¬ P 23 1) (p24 : ∀ k, ¬ P 24 k) (hrc : ∀ (x0 : Nat) (x1 : Int32) (xm : ev_M), frP P m0 xm → Fr (frP P m0) (rc x0 x1 xm)) (hm_m : frP P m0 m) : Fr (frP P m0) (FX7_readTestB f rc m) := by
  unfold FX7_readTestB
  refine Fr.bd (hrc _ _ _ hm_m) (fun _ m2 hm_m2 => ?_)
  exact FRX7_readTest_L6 _ _ _ p13_2 p13_5 p13_6 p13_7 p23_1 p24 hrc ((by
  intro m11 hm_m11
  exact Fr.ok hm_m11)) _ _ _ hm_m2
set_option maxRecDepth 100000 in
set_option maxHeartbeats 4000000 in
theorem FRX7_readBoth_L6 {P : Nat → Nat → Prop} {m0 : ev_M} (f : Nat) (rc : Nat → Int32 → ev_M → Option (Unit × ev_M)) (k : ev_M → Option (Unit × ev_M)) (p13_2 : ¬ P 13 2) (p13_5 : ¬ P 13 5) (p13_6 : ¬ P 13 6) (p13_7 : ¬ P 13 7) (p23_1 : ¬ P 23 1) (p24 : ∀ k, ¬ P 24 k) (hrc : ∀ (x0 : Nat) (x1 : Int32) (xm : ev_M), frP P m0 xm → Fr (frP P m0) (rc x0 x1 xm)) (hk : ∀  (xm : ev_M), frP P m0 xm → Fr (frP P m0) (k xm)) : ∀ (n : Nat) (a1 : Int32) (m : ev_M), frP P m0 m → Fr (frP P m0) (FX7_readBoth_L6 f rc k n a1 m) := by
  intro n
  induction n with
  | zero => intros; exact Fr.none
  | succ n ih =>
    intro a1 m hm_m
    rw [FX7_readBoth_L6]
    refine Fr.ite (fun _ => ?_) (fun _ => ?_)
    · exact hk _ hm_m
    · refine Fr.bd (FRX10_isWord _ _ hm_m) (fun r3 m4 hm_m4 => ?_)
      refine Fr.ite (fun _ => ?_) (fun _ => ?_)
      · exact hk _ hm_m4
      · refine Fr.bd (FRX10_advance _ p13_2 p13_5 p13_6 p13_7 hm_m4) (fun _ m6 hm_m6 => ?_)
        refine Fr.bd (hrc _ _ _ hm_m6) (fun _ m8 hm_m8 => ?_)
        refine Fr.bd (FRX2_add _ 23 _ p23_1 p24 hm_m8) (fun _ m10 hm_m10 => ?_)
        exact ih _ _ hm_m10
set_option maxRecDepth 100000 in
set_option maxHeartbeats 4000000 in
theorem FRX7_readBothB {P : Nat → Nat → Prop} {m0 : ev_M} (f : Nat) (rc : Nat → Int32 → ev_M → Option (Unit × ev_M)) {m : ev_M} (p13_2 : ¬ P 13 2) (p13_5 : ¬ P 13 5) (p13_6 : ¬ P 13 6) (p13_7 : ¬ P 13 7) (p23_1 : ¬ P 23 1) (p24 : ∀ k, ¬ P 24 k) (hrc : ∀ (x0 : Nat) (x1 : Int32) (xm : ev_M), frP P m0 xm → Fr (frP P m0) (rc x0 x1 xm)) (hm_m : frP P m0 m) : Fr (frP P m0) (FX7_readBothB f rc m) := by
  unfold FX7_readBothB
  refine Fr.bd (hrc _ _ _ hm_m) (fun _ m2 hm_m2 => ?_)
  exact FRX7_readBoth_L6 _ _ _ p13_2 p13_5 p13_6 p13_7 p23_1 p24 hrc ((by
  intro m11 hm_m11
  exact Fr.ok hm_m11)) _ _ _ hm_m2
set_option maxRecDepth 100000 in
set_option maxHeartbeats 4000000 in
theorem FRX7_readFactB {P : Nat → Nat → Prop} {m0 : ev_M} (f : Nat) (rc : Nat → Int32 → ev_M → Option (Unit × ev_M)) {m : ev_M} (pD : ∀ o, (o = 5 ∨ o = 6 ∨ o = 11 ∨ o = 12 ∨ o = 23 ∨ o = 24) → ∀ k, ¬ P o k) (p13_2 : ¬ P 13 2) (p13_3 : ¬ P 13 3) (p13_4 : ¬ P 13 4) (p13_5 : ¬ P 13 5) (p13_6 : ¬ P 13 6) (p13_7 : ¬ P 13 7) (p15_3 : ¬ P 15 3) (p15_4 : ¬ P 15 4) (p23_1 : ¬ P 23 1) (p24 : ∀ k, ¬ P 24 k) (hrc : ∀ (x0 : Nat) (x1 : Int32) (xm : ev_M), frP P m0 xm → Fr (frP P m0) (rc x0 x1 xm)) (hm_m : frP P m0 m) : Fr (frP P m0) (FX7_readFactB f rc m) := by
  unfold FX7_readFactB
  refine Fr.bd (FRX10_isWord _ _ hm_m) (fun r1 m2 hm_m2 => ?_)
  refine Fr.ite (fun _ => ?_) (fun _ => ?_)
  · refine Fr.bd (FRX10_isSign _ _ hm_m2) (fun r3 m4 hm_m4 => ?_)
    refine Fr.ite (fun _ => ?_) (fun _ => ?_)
    · refine Fr.bd (FRX10_isWord _ _ hm_m4) (fun r5 m6 hm_m6 => ?_)
      refine Fr.ite (fun _ => ?_) (fun _ => ?_)
      · refine Fr.bd (FRX7_readComparison _ pD p13_2 p13_3 p13_4 p13_5 p13_6 p13_7 p15_3 p15_4 p23_1 p24 hm_m6) (fun _ m8 hm_m8 => ?_)
        exact Fr.ok hm_m8
      · refine Fr.bd (FRX10_advance _ p13_2 p13_5 p13_6 p13_7 hm_m6) (fun _ m10 hm_m10 => ?_)
        refine Fr.bd (FRX2_add _ 23 _ p23_1 p24 hm_m10) (fun _ m12 hm_m12 => ?_)
        exact Fr.ok hm_m12
    · refine Fr.bd (FRX9_opens _ p13_2 p13_3 p13_4 p13_5 p13_6 p13_7 p15_3 hm_m4) (fun r13 m14 hm_m14 => ?_)
      refine Fr.ite (fun _ => ?_) (fun _ => ?_)
      · exact Fr.ok hm_m14
      · refine Fr.bd (hrc _ _ _ hm_m14) (fun _ m16 hm_m16 => ?_)
        refine Fr.bd (FRX10_takeSign _ _ p13_2 p13_3 p13_4 p13_5 p13_6 p13_7 hm_m16) (fun _ m18 hm_m18 => ?_)
        refine Fr.bd (FRX9_closes _ p15_3 hm_m18) (fun _ m20 hm_m20 => ?_)
        exact Fr.ok hm_m20
  · refine Fr.bd (FRX9_opens _ p13_2 p13_3 p13_4 p13_5 p13_6 p13_7 p15_3 hm_m2) (fun r21 m22 hm_m22 => ?_)
    refine Fr.ite (fun _ => ?_) (fun _ => ?_)
    · exact Fr.ok hm_m22
    · refine Fr.bd (hrc _ _ _ hm_m22) (fun _ m24 hm_m24 => ?_)
      refine Fr.bd (FRX9_closes _ p15_3 hm_m24) (fun _ m26 hm_m26 => ?_)
      refine Fr.bd (FRX2_add _ 23 _ p23_1 p24 hm_m26) (fun _ m28 hm_m28 => ?_)
      exact Fr.ok hm_m28
set_option maxRecDepth 100000 in
set_option maxHeartbeats 4000000 in
theorem FRGB {P : Nat → Nat → Prop} {m0 : ev_M} (f : Nat) (pD : ∀ o, (o = 5 ∨ o = 6 ∨ o = 11 ∨ o = 12 ∨ o = 23 ∨ o = 24) → ∀ k, ¬ P o k) (p13_2 : ¬ P 13 2) (p13_3 : ¬ P 13 3) (p13_4 : ¬ P 13 4) (p13_5 : ¬ P 13 5) (p13_6 : ¬ P 13 6) (p13_7 : ¬ P 13 7) (p15_3 : ¬ P 15 3) (p15_4 : ¬ P 15 4) (p23_1 : ¬ P 23 1) (p24 : ∀ k, ¬ P 24 k) : ∀ (n j : Nat) (a : Int32) (m : ev_M), frP P m0 m → Fr (frP P m0) (FGB f n j a m) := by
  intro n
  induction n with
  | zero => intros; exact Fr.none
  | succ n ih =>
    intro j a m hm_m
    match j with
    | 0 => exact FRX7_readTestB _ _ p13_2 p13_5 p13_6 p13_7 p23_1 p24 (fun j a m h => ih j a m h) hm_m
    | 1 => exact FRX7_readBothB _ _ p13_2 p13_5 p13_6 p13_7 p23_1 p24 (fun j a m h => ih j a m h) hm_m
    | j + 2 => exact FRX7_readFactB _ _ pD p13_2 p13_3 p13_4 p13_5 p13_6 p13_7 p15_3 p15_4 p23_1 p24 (fun j a m h => ih j a m h) hm_m
set_option maxRecDepth 100000 in
set_option maxHeartbeats 4000000 in
theorem FRX7_readTest {P : Nat → Nat → Prop} {m0 : ev_M} (f : Nat) {m : ev_M} (pD : ∀ o, (o = 5 ∨ o = 6 ∨ o = 11 ∨ o = 12 ∨ o = 23 ∨ o = 24) → ∀ k, ¬ P o k) (p13_2 : ¬ P 13 2) (p13_3 : ¬ P 13 3) (p13_4 : ¬ P 13 4) (p13_5 : ¬ P 13 5) (p13_6 : ¬ P 13 6) (p13_7 : ¬ P 13 7) (p15_3 : ¬ P 15 3) (p15_4 : ¬ P 15 4) (p23_1 : ¬ P 23 1) (p24 : ∀ k, ¬ P 24 k)  (hm_m : frP P m0 m) : Fr (frP P m0) (FX7_readTest f m) := by
  unfold FX7_readTest
  exact FRGB _ pD p13_2 p13_3 p13_4 p13_5 p13_6 p13_7 p15_3 p15_4 p23_1 p24 _ _ _ _ hm_m
set_option maxRecDepth 100000 in
set_option maxHeartbeats 4000000 in
theorem FRX7_readBoth {P : Nat → Nat → Prop} {m0 : ev_M} (f : Nat) {m : ev_M} (pD : ∀ o, (o = 5 ∨ o = 6 ∨ o = 11 ∨ o = 12 ∨ o = 23 ∨ o = 24) → ∀ k, ¬ P o k) (p13_2 : ¬ P 13 2) (p13_3 : ¬ P 13 3) (p13_4 : ¬ P 13 4) (p13_5 : ¬ P 13 5) (p13_6 : ¬ P 13 6) (p13_7 : ¬ P 13 7) (p15_3 : ¬ P 15 3) (p15_4 : ¬ P 15 4) (p23_1 : ¬ P 23 1) (p24 : ∀ k, ¬ P 24 k)  (hm_m : frP P m0 m) : Fr (frP P m0) (FX7_readBoth f m) := by
  unfold FX7_readBoth
  exact FRGB _ pD p13_2 p13_3 p13_4 p13_5 p13_6 p13_7 p15_3 p15_4 p23_1 p24 _ _ _ _ hm_m
set_option maxRecDepth 100000 in
set_option maxHeartbeats 4000000 in
theorem FRX7_readFact {P : Nat → Nat → Prop} {m0 : ev_M} (f : Nat) {m : ev_M} (pD : ∀ o, (o = 5 ∨ o = 6 ∨ o = 11 ∨ o = 12 ∨ o = 23 ∨ o = 24) → ∀ k, ¬ P o k) (p13_2 : ¬ P 13 2) (p13_3 : ¬ P 13 3) (p13_4 : ¬ P 13 4) (p13_5 : ¬ P 13 5) (p13_6 : ¬ P 13 6) (p13_7 : ¬ P 13 7) (p15_3 : ¬ P 15 3) (p15_4 : ¬ P 15 4) (p23_1 : ¬ P 23 1) (p24 : ∀ k, ¬ P 24 k)  (hm_m : frP P m0 m) : Fr (frP P m0) (FX7_readFact f m) := by
  unfold FX7_readFact
  exact FRGB _ pD p13_2 p13_3 p13_4 p13_5 p13_6 p13_7 p15_3 p15_4 p23_1 p24 _ _ _ _ hm_m
set_option maxRecDepth 100000 in
set_option maxHeartbeats 4000000 in
theorem FRX7_read_J151 {P : Nat → Nat → Prop} {m0 : ev_M} (f : Nat) {m : ev_M}   (hm_m : frP P m0 m) : Fr (frP P m0) (FX7_read_J151 f m) := by
  unfold FX7_read_J151
  refine Fr.bd (FRX10_isGood _ hm_m) (fun r13 m14 hm_m14 => ?_)
  refine Fr.ite (fun _ => ?_) (fun _ => ?_)
  · exact Fr.ok hm_m14
  · exact Fr.none
set_option maxRecDepth 100000 in
set_option maxHeartbeats 4000000 in
theorem FRX7_read_J126 {P : Nat → Nat → Prop} {m0 : ev_M} (f : Nat) {m : ev_M} (p13_3 : ¬ P 13 3) (p13_4 : ¬ P 13 4) (p13_5 : ¬ P 13 5)  (hm_m : frP P m0 m) : Fr (frP P m0) (FX7_read_J126 f m) := by
  unfold FX7_read_J126
  refine Fr.bd (FRX10_isEnd _ hm_m) (fun r11 m12 hm_m12 => ?_)
  refine Fr.ite (fun _ => ?_) (fun _ => ?_)
  · refine Fr.bd (FRX10_fail _ _ _ p13_3 p13_4 p13_5 hm_m12) (fun _ m16 hm_m16 => ?_)
    exact FRX7_read_J151 _ hm_m16
  · exact FRX7_read_J151 _ hm_m12
set_option maxRecDepth 100000 in
set_option maxHeartbeats 4000000 in
theorem FRX7_read {P : Nat → Nat → Prop} {m0 : ev_M} (f : Nat) {m : ev_M} (pD : ∀ o, (o = 5 ∨ o = 6 ∨ o = 11 ∨ o = 12 ∨ o = 23 ∨ o = 24) → ∀ k, ¬ P o k) (p13_2 : ¬ P 13 2) (p13_3 : ¬ P 13 3) (p13_4 : ¬ P 13 4) (p13_5 : ¬ P 13 5) (p13_6 : ¬ P 13 6) (p13_7 : ¬ P 13 7) (p15_1 : ¬ P 15 1) (p15_2 : ¬ P 15 2) (p15_3 : ¬ P 15 3) (p15_4 : ¬ P 15 4) (p22_6 : ¬ P 22 6) (p23_1 : ¬ P 23 1) (p24 : ∀ k, ¬ P 24 k)  (hm_m : frP P m0 m) : Fr (frP P m0) (FX7_read f m) := by
  unfold FX7_read
  refine Fr.bd (FRX10_begin _ p13_2 p13_3 p13_4 p13_5 p13_6 p13_7 (frP_I p23_1 hm_m)) (fun _ m2 hm_m2 => ?_)
  refine Fr.bd (FRX9_begin _ 23 _ p15_1 p15_2 p15_3 p15_4 hm_m2) (fun _ m4 hm_m4 => ?_)
  refine Fr.bd (FRX10_word _ hm_m4) (fun r5 m6 hm_m6 => ?_)
  refine Fr.ite (fun _ => ?_) (fun _ => ?_)
  · refine Fr.bd (FRX10_advance _ p13_2 p13_5 p13_6 p13_7 (frP_I p22_6 hm_m6)) (fun _ m8 hm_m8 => ?_)
    refine Fr.bd (FRX7_readTest _ pD p13_2 p13_3 p13_4 p13_5 p13_6 p13_7 p15_3 p15_4 p23_1 p24 hm_m8) (fun _ m10 hm_m10 => ?_)
    exact FRX7_read_J126 _ p13_3 p13_4 p13_5 hm_m10
  · refine Fr.ite (fun _ => ?_) (fun _ => ?_)
    · refine Fr.bd (FRX10_advance _ p13_2 p13_5 p13_6 p13_7 (frP_I p22_6 hm_m6)) (fun _ m19 hm_m19 => ?_)
      refine Fr.bd (FRX7_readTest _ pD p13_2 p13_3 p13_4 p13_5 p13_6 p13_7 p15_3 p15_4 p23_1 p24 hm_m19) (fun _ m21 hm_m21 => ?_)
      exact FRX7_read_J126 _ p13_3 p13_4 p13_5 hm_m21
    · refine Fr.ite (fun _ => ?_) (fun _ => ?_)
      · refine Fr.bd (FRX10_advance _ p13_2 p13_5 p13_6 p13_7 (frP_I p22_6 hm_m6)) (fun _ m24 hm_m24 => ?_)
        refine Fr.bd (FRX7_readTest _ pD p13_2 p13_3 p13_4 p13_5 p13_6 p13_7 p15_3 p15_4 p23_1 p24 hm_m24) (fun _ m26 hm_m26 => ?_)
        exact FRX7_read_J126 _ p13_3 p13_4 p13_5 hm_m26
      · refine Fr.ite (fun _ => ?_) (fun _ => ?_)
        · refine Fr.bd (FRX10_advance _ p13_2 p13_5 p13_6 p13_7 (frP_I p22_6 hm_m6)) (fun _ m29 hm_m29 => ?_)
          refine Fr.bd (FRX9_readSum _ pD p13_2 p13_3 p13_4 p13_5 p13_6 p13_7 p15_3 p15_4 hm_m29) (fun _ m31 hm_m31 => ?_)
          exact FRX7_read_J126 _ p13_3 p13_4 p13_5 hm_m31
        · refine Fr.ite (fun _ => ?_) (fun _ => ?_)
          · refine Fr.bd (FRX10_advance _ p13_2 p13_5 p13_6 p13_7 (frP_I p22_6 hm_m6)) (fun _ m34 hm_m34 => ?_)
            refine Fr.bd (FRX9_readSum _ pD p13_2 p13_3 p13_4 p13_5 p13_6 p13_7 p15_3 p15_4 hm_m34) (fun _ m36 hm_m36 => ?_)
            exact FRX7_read_J126 _ p13_3 p13_4 p13_5 hm_m36
          · refine Fr.ite (fun _ => ?_) (fun _ => ?_)
            · refine Fr.bd (FRX10_advance _ p13_2 p13_5 p13_6 p13_7 (frP_I p22_6 hm_m6)) (fun _ m39 hm_m39 => ?_)
              refine Fr.bd (FRX9_readSum _ pD p13_2 p13_3 p13_4 p13_5 p13_6 p13_7 p15_3 p15_4 hm_m39) (fun _ m41 hm_m41 => ?_)
              exact FRX7_read_J126 _ p13_3 p13_4 p13_5 hm_m41
            · refine Fr.bd (FRX10_fail _ _ _ p13_3 p13_4 p13_5 (frP_I p22_6 hm_m6)) (fun _ m44 hm_m44 => ?_)
              exact FRX7_read_J126 _ p13_3 p13_4 p13_5 hm_m44
set_option maxRecDepth 100000 in
set_option maxHeartbeats 4000000 in
theorem FRX11_ask {P : Nat → Nat → Prop} {m0 : ev_M} (f : Nat) {m : ev_M} (pD : ∀ o, (o = 5 ∨ o = 6 ∨ o = 11 ∨ o = 12 ∨ o = 23 ∨ o = 24) → ∀ k, ¬ P o k) (p0_15 : ¬ P 0 15) (p0_16 : ¬ P 0 16) (p13_1 : ¬ P 13 1) (p13_2 : ¬ P 13 2) (p13_3 : ¬ P 13 3) (p13_4 : ¬ P 13 4) (p13_5 : ¬ P 13 5) (p13_6 : ¬ P 13 6) (p13_7 : ¬ P 13 7) (p15_1 : ¬ P 15 1) (p15_2 : ¬ P 15 2) (p15_3 : ¬ P 15 3) (p15_4 : ¬ P 15 4) (p16_3 : ¬ P 16 3) (p17_2 : ¬ P 17 2) (p18 : ∀ k, ¬ P 18 k) (p19 : ∀ k, ¬ P 19 k) (p20 : ∀ k, ¬ P 20 k) (p21 : ∀ k, ¬ P 21 k) (p22_6 : ¬ P 22 6) (p23_1 : ¬ P 23 1) (p24 : ∀ k, ¬ P 24 k) (p25_2 : ¬ P 25 2) (p25_3 : ¬ P 25 3) (p25_4 : ¬ P 25 4) (p25_5 : ¬ P 25 5) (p26 : ∀ k, ¬ P 26 k) (p27 : ∀ k, ¬ P 27 k) (p28 : ∀ k, ¬ P 28 k)  (hm_m : frP P m0 m) : Fr (frP P m0) (FX11_ask f m) := by
  unfold FX11_ask
  refine Fr.bd (FRX11_isTold _ hm_m) (fun r1 m2 hm_m2 => ?_)
  refine Fr.ite (fun _ => ?_) (fun _ => ?_)
  · exact Fr.ok (frP_I p13_1 hm_m2)
  · refine Fr.bd (FRX7_read _ pD p13_2 p13_3 p13_4 p13_5 p13_6 p13_7 p15_1 p15_2 p15_3 p15_4 p22_6 p23_1 p24 hm_m2) (fun r3 m4 hm_m4 => ?_)
    refine Fr.bd (FRX11_noteFault _ p0_15 p0_16 hm_m4) (fun _ m6 hm_m6 => ?_)
    refine Fr.ite (fun _ => ?_) (fun _ => ?_)
    · exact Fr.ok (frP_I p13_1 hm_m6)
    · refine Fr.bd (FRX7_answer _ 103 p16_3 p17_2 p18 p19 p20 p21 p25_2 p25_3 p25_4 p25_5 p26 p27 p28 (frP_I p13_1 hm_m6)) (fun r7 m8 hm_m8 => ?_)
      exact Fr.ok hm_m8
