/-! the reference's stack and codes -/
def stk (g : Nat → Int32) (b : Nat) : List Nat → Prop
  | [] => True
  | c :: V => c < 1000 ∧ g (b + V.length) = Int32.ofNat c ∧ stk g b V
def opn : List Nat → Nat
  | [] => 0
  | c :: V => opn V + (if 20 ≤ c then 1 else 0)
theorem stk_fr {g g' : Nat → Int32} {b : Nat} : ∀ (W : List Nat), (∀ i, i < b + W.length → g' i = g i) → stk g b W → stk g' b W := by
  intro W
  induction W with
  | nil => intro _ _; trivial
  | cons c V ih =>
    intro h q
    exact ⟨q.1, by rw [h _ (by simp)]; exact q.2.1, ih (fun i hi => h i (by simp; omega)) q.2.2⟩
theorem WA_fr {m m' : ev_M} (h : WA m) (h1 : ∀ a k, isWo a = true → m'.1 a k = m.1 a k) : WA m' := fun o ho k hk => by rw [h1 o k ho]; exact h o ho k hk
theorem wo_ne {a : Nat} (h : isWo a = true) : a ≠ 112 ∧ a ≠ 113 ∧ a ≠ 177 ∧ a ≠ 178 := by
  unfold isWo at h
  rw [decide_eq_true_iff] at h
  omega
def QG (β : Nat → Int32) (E kd b fr : Nat) (G : Nat → Int32) (m : ev_M) (x : Nat × Bool × List Nat) (W : List Nat) (o : Nat) : Prop :=
  RT β E m x.1 x.2.1 ∧ WA m ∧ m.1 112 46 = Int32.ofNat kd ∧ m.1 112 97 = Int32.ofNat b ∧ m.1 112 96 = Int32.ofNat o ∧ m.1 112 95 = Int32.ofNat (b + W.length) ∧ stk (m.1 178) b W ∧ m.1 112 93 = Int32.ofNat (fr + x.2.2.length) ∧ cells Int32.ofNat (m.1 177) fr x.2.2 ∧ fr + x.2.2.length + (b + W.length) ≤ x.1 ∧ (∀ i, i < b → m.1 178 i = G i) ∧ opn W ≤ o ∧ o ≤ 6
/-- the codes are counted within bounds -/
def CZ (m : ev_M) : Prop := ∃ z, z ≤ 1601 ∧ m.1 112 93 = Int32.ofNat z
def QR (β : Nat → Int32) (E kd b fr : Nat) (G : Nat → Int32) (m : ev_M) (s : Sy) : Prop := match s.2.1 with
  | .inl e => RB m e ∧ CZ m
  | .inr x => QG β E kd b fr G m x s.2.2.1 s.2.2.2
section
variable {f E kd b fr : Nat} {β : Nat → Int32} {G : Nat → Int32}
theorem qg_mv {m m' : ev_M} {x x' : Nat × Bool × List Nat} {W : List Nat} {o : Nat} (h : QG β E kd b fr G m x W o) (hr : RT β E m' x'.1 x'.2.1) (hfr : ∀ a k, ¬ (a = 112 ∧ 2 ≤ k ∧ k ≤ 6) → m'.1 a k = m.1 a k) (h1 : x'.2.2 = x.2.2) (h2 : x.1 ≤ x'.1) : QG β E kd b fr G m' x' W o := by
  obtain ⟨g1, g2, g3, g4, g5, g6, g7, g8, g9, g10, g11, g12, g13⟩ := h
  refine ⟨hr, WA_fr g2 (fun a k q => hfr a k (by have := wo_ne q; omega)), by rw [hfr _ _ (by omega)]; exact g3, by rw [hfr _ _ (by omega)]; exact g4, by rw [hfr _ _ (by omega)]; exact g5, by rw [hfr _ _ (by omega)]; exact g6, stk_fr W (fun i _ => hfr _ _ (by omega)) g7, by rw [hfr _ _ (by omega), h1]; exact g8, by rw [h1]; exact cells_fr _ _ (fun i _ _ => hfr _ _ (by omega)) g9, by rw [h1]; omega, fun q => ?_, g12, g13⟩
  intro q2
  rw [hfr _ _ (by omega)]; exact g11 q q2
theorem qg_cz {m m' : ev_M} {x : Nat × Bool × List Nat} {W : List Nat} {o : Nat} (h : QG β E kd b fr G m x W o) (h1 : m'.1 112 93 = m.1 112 93) : CZ m' := by
  have hE := h.1.1.1
  have hpE := h.1.2.1
  have g10 := h.2.2.2.2.2.2.2.2.2.1
  exact ⟨fr + x.2.2.length, by omega, by rw [h1]; exact h.2.2.2.2.2.2.2.1⟩
theorem qg_on2 {m m' : ev_M} {x : Nat × Bool × List Nat} {W : List Nat} {o : Nat} (h : QG β E kd b fr G m x W o) (hr : RT β E m' x.1 x.2.1) (h2 : on2 m m') : QG β E kd b fr G m' x W o := qg_mv h hr (fun a k q => h2.2 a k (by omega)) rfl (Nat.le_refl _)
theorem q_code {m : ev_M} {x : Nat × Bool × List Nat} {W : List Nat} {o c : Nat} (h : QG β E kd b fr G m x W o) (hb : fr + x.2.2.length + (b + W.length) < x.1) : ∃ m', FX12_qCode f (Int32.ofNat c) m = some ((), m') ∧ QG β E kd b fr G m' (x.1, x.2.1, x.2.2 ++ [c]) W o := by
  obtain ⟨g1, g2, g3, g4, g5, g6, g7, g8, g9, g10, g11, g12, g13⟩ := h
  have hE := g1.1.1
  have hp := g1.2.1
  unfold FX12_qCode
  rw [g8, if_pos ((n_in (by omega)).mpr (by omega)), n_nat (by omega), s_1]
  have hl : (x.2.2 ++ [c]).length = x.2.2.length + 1 := by rw [List.length_append]; rfl
  have g : ∀ a k, a ≠ 177 → ¬ (a = 112 ∧ k = 93) → ((ev_up (ev_up m.1 177 (fr + x.2.2.length) (Int32.ofNat c)) 112 93 (Int32.ofNat (fr + x.2.2.length + 1)), m.2) : ev_M).1 a k = m.1 a k := fun a k y1 y2 => by
    by_cases e : a = 112
    · subst e; rw [upI_nk _ _ _ _ (by omega), up_na _ _ _ _ (by omega)]
    · rw [upI_na _ _ _ _ e, up_na _ _ _ _ y1]
  refine ⟨_, rfl, RT_fr g1 (fun a k q => g a k (by omega) (by omega)), WA_fr g2 (fun a k q => by have := wo_ne q; exact g a k (by omega) (by omega)), by rw [g _ _ (by omega) (by omega)]; exact g3, by rw [g _ _ (by omega) (by omega)]; exact g4, by rw [g _ _ (by omega) (by omega)]; exact g5, by rw [g _ _ (by omega) (by omega)]; exact g6, stk_fr W (fun i _ => g _ _ (by omega) (by omega)) g7, ?_, ?_, ?_, fun q => ?_, g12, g13⟩
  · rw [upI_at]
    show Int32.ofNat (fr + x.2.2.length + 1) = Int32.ofNat (fr + (x.2.2 ++ [c]).length)
    rw [hl]; rfl
  · show cells Int32.ofNat _ fr (x.2.2 ++ [c])
    rw [cells_app, upI_na _ _ _ _ (by omega)]
    exact ⟨cells_fr _ _ (fun i i1 i2 => by rw [up_nk _ _ _ (by omega)]) g9, up_at _ _ _ _⟩
  · show fr + (x.2.2 ++ [c]).length + (b + W.length) ≤ x.1
    rw [hl]; omega
  · intro q2
    rw [g _ _ (by omega) (by omega)]; exact g11 q q2
theorem qg_pop {m : ev_M} {x : Nat × Bool × List Nat} {W : List Nat} {o c : Nat} (h : QG β E kd b fr G m x (c :: W) o) : QG β E kd b fr G (ev_up m.1 112 95 (Int32.ofNat (b + W.length)), m.2) x W o := by
  obtain ⟨g1, g2, g3, g4, g5, g6, g7, g8, g9, g10, g11, g12, g13⟩ := h
  have g : ∀ a k, ¬ (a = 112 ∧ k = 95) → ((ev_up m.1 112 95 (Int32.ofNat (b + W.length)), m.2) : ev_M).1 a k = m.1 a k := fun a k y2 => by
    by_cases e : a = 112
    · subst e; rw [upI_nk _ _ _ _ (by omega)]
    · rw [upI_na _ _ _ _ e]
  have hl : (c :: W).length = W.length + 1 := rfl
  refine ⟨RT_fr g1 (fun a k q => g a k (by omega)), WA_fr g2 (fun a k q => by have := wo_ne q; exact g a k (by omega)), by rw [g _ _ (by omega)]; exact g3, by rw [g _ _ (by omega)]; exact g4, by rw [g _ _ (by omega)]; exact g5, upI_at _ _ _ _ _, stk_fr W (fun i _ => g _ _ (by omega)) g7.2.2, by rw [g _ _ (by omega)]; exact g8, cells_fr _ _ (fun i _ _ => g _ _ (by omega)) g9, by omega, fun q => ?_, ?_, g13⟩
  · intro q2
    rw [g _ _ (by omega)]; exact g11 q q2
  · have : opn W ≤ opn (c :: W) := Nat.le_add_right _ _
    omega
theorem q_drops {m : ev_M} {x : Nat × Bool × List Nat} {W : List Nat} {o c : Nat} (h : QG β E kd b fr G m x (c :: W) o) : ∃ m', FX12_qDrops f m = some ((), m') ∧ QG β E kd b fr G m' (x.1, x.2.1, x.2.2 ++ [c]) W o := by
  have hp := qg_pop h
  obtain ⟨g1, g2, g3, g4, g5, g6, g7, g8, g9, g10, g11, g12, g13⟩ := h
  have hE := g1.1.1
  have hpE := g1.2.1
  have hl : (c :: W).length = W.length + 1 := rfl
  have e1 : m.1 112 95 - 1 = Int32.ofNat (b + W.length) := by
    rw [g6, show (1 : Int32) = Int32.ofNat 1 from rfl, n_sub (by omega), hl]
    rfl
  unfold FX12_qDrops
  rw [e1, if_pos ((n_in (by omega)).mpr (by omega)), n_nat (by omega), g7.2.1]
  obtain ⟨m', r1, r2⟩ := @q_code f E kd b fr β G _ x W o c hp (by omega)
  rw [r1, bd_some]
  exact ⟨m', rfl, r2⟩
theorem qg_push {m : ev_M} {x : Nat × Bool × List Nat} {W : List Nat} {o c : Nat} (h : QG β E kd b fr G m x W o) (hc : c < 1000) (hb : fr + x.2.2.length + (b + W.length) < x.1) (ho : opn (c :: W) ≤ o) : QG β E kd b fr G (ev_up (ev_up m.1 178 (b + W.length) (Int32.ofNat c)) 112 95 (Int32.ofNat (b + W.length + 1)), m.2) x (c :: W) o := by
  obtain ⟨g1, g2, g3, g4, g5, g6, g7, g8, g9, g10, g11, g12, g13⟩ := h
  have g : ∀ a k, a ≠ 178 → ¬ (a = 112 ∧ k = 95) → ((ev_up (ev_up m.1 178 (b + W.length) (Int32.ofNat c)) 112 95 (Int32.ofNat (b + W.length + 1)), m.2) : ev_M).1 a k = m.1 a k := fun a k y1 y2 => by
    by_cases e : a = 112
    · subst e; rw [upI_nk _ _ _ _ (by omega), up_na _ _ _ _ (by omega)]
    · rw [upI_na _ _ _ _ e, up_na _ _ _ _ y1]
  have hl : (c :: W).length = W.length + 1 := rfl
  refine ⟨RT_fr g1 (fun a k q => g a k (by omega) (by omega)), WA_fr g2 (fun a k q => by have := wo_ne q; exact g a k (by omega) (by omega)), by rw [g _ _ (by omega) (by omega)]; exact g3, by rw [g _ _ (by omega) (by omega)]; exact g4, by rw [g _ _ (by omega) (by omega)]; exact g5, by rw [upI_at, hl]; rfl, ⟨hc, ?_, ?_⟩, by rw [g _ _ (by omega) (by omega)]; exact g8, cells_fr _ _ (fun i _ _ => g _ _ (by omega) (by omega)) g9, by omega, fun q => ?_, ho, g13⟩
  · rw [upI_na _ _ _ _ (by omega), up_at]
  · refine stk_fr W (fun i hi => ?_) g7
    rw [upI_na _ _ _ _ (by omega), up_nk _ _ _ (by omega)]
  · intro q2
    rw [upI_na _ _ _ _ (by omega), up_nk _ _ _ (by omega)]; exact g11 q q2
theorem qg_open {m : ev_M} {x : Nat × Bool × List Nat} {W : List Nat} {o o' : Nat} (h : QG β E kd b fr G m x W o) (h1 : opn W ≤ o') (h2 : o' ≤ 6) : QG β E kd b fr G (ev_up m.1 112 96 (Int32.ofNat o'), m.2) x W o' := by
  obtain ⟨g1, g2, g3, g4, g5, g6, g7, g8, g9, g10, g11, g12, g13⟩ := h
  have g : ∀ a k, ¬ (a = 112 ∧ k = 96) → ((ev_up m.1 112 96 (Int32.ofNat o'), m.2) : ev_M).1 a k = m.1 a k := fun a k y2 => by
    by_cases e : a = 112
    · subst e; rw [upI_nk _ _ _ _ (by omega)]
    · rw [upI_na _ _ _ _ e]
  refine ⟨RT_fr g1 (fun a k q => g a k (by omega)), WA_fr g2 (fun a k q => by have := wo_ne q; exact g a k (by omega)), by rw [g _ _ (by omega)]; exact g3, by rw [g _ _ (by omega)]; exact g4, upI_at _ _ _ _ _, by rw [g _ _ (by omega)]; exact g6, stk_fr W (fun i _ => g _ _ (by omega)) g7, by rw [g _ _ (by omega)]; exact g8, cells_fr _ _ (fun i _ _ => g _ _ (by omega)) g9, g10, fun q => ?_, h1, h2⟩
  intro q2
  rw [g _ _ (by omega)]; exact g11 q q2
theorem qg_top {m : ev_M} {x : Nat × Bool × List Nat} {W : List Nat} {o c : Nat} (h : QG β E kd b fr G m x (c :: W) o) : c < 1000 ∧ m.1 112 95 - 1 = Int32.ofNat (b + W.length) ∧ m.1 178 (b + W.length) = Int32.ofNat c ∧ b + W.length < 1600 ∧ m.1 112 95 = Int32.ofNat (b + W.length + 1) := by
  obtain ⟨g1, g2, g3, g4, g5, g6, g7, g8, g9, g10, g11, g12, g13⟩ := h
  have hE := g1.1.1
  have hpE := g1.2.1
  have hl : (c :: W).length = W.length + 1 := rfl
  refine ⟨g7.1, ?_, g7.2.1, by omega, by rw [g6, hl]; rfl⟩
  rw [g6, show (1 : Int32) = Int32.ofNat 1 from rfl, n_sub (by omega), hl]
  rfl
theorem q_isOn {m : ev_M} {x : Nat × Bool × List Nat} {W : List Nat} {o c : Nat} (hG : 0 < b → ∃ c, c < 1000 ∧ isA c = false ∧ G (b - 1) = Int32.ofNat c) (h : QG β E kd b fr G m x W o) (hc : isA c = true) : FX12_qIsOn f (Int32.ofNat c) m = some (if W.headD 0 = c then 1 else 0, m) := by
  have hc' : 1 ≤ c ∧ c ≤ 4 := of_decide_eq_true hc
  unfold FX12_qIsOn
  cases W with
  | cons d V =>
    obtain ⟨t1, t2, t3, t4, t5⟩ := qg_top h
    rw [t2, t5, if_neg (fun q => by
      have q' : Int32.ofNat (b + V.length + 1) ≤ Int32.ofNat 0 := q
      rw [n_le (by omega) (by omega)] at q'
      omega), if_pos ((n_in (by omega)).mpr (by omega)), n_nat (by omega), t3]
    by_cases z : d = c
    · rw [if_pos (by rw [z]), if_pos (show (d :: V).headD 0 = c from z)]
    · rw [if_neg (fun q => z ((n_eq (by omega) (by omega)).mp q)), if_neg (show ¬ (d :: V).headD 0 = c from z)]
  | nil =>
    obtain ⟨g1, g2, g3, g4, g5, g6, g7, g8, g9, g10, g11, g12, g13⟩ := h
    have hE := g1.1.1
    have hpE := g1.2.1
    have hl : ([] : List Nat).length = 0 := rfl
    rw [if_neg (show ¬ ([] : List Nat).headD 0 = c by show ¬ 0 = c; omega)]
    by_cases z : b = 0
    · rw [if_pos (by rw [g6, z]; decide)]
    · obtain ⟨d, d1, d2, d3'⟩ := hG (by omega)
      have d3 := (g11 (b - 1) (by omega)).trans d3'
      have e1 : m.1 112 95 - 1 = Int32.ofNat (b - 1) := by
        rw [g6, hl, Nat.add_zero, show (1 : Int32) = Int32.ofNat 1 from rfl, n_sub (by omega)]
      rw [e1, g6, if_neg (fun q => by
        have q' : Int32.ofNat (b + 0) ≤ Int32.ofNat 0 := q
        rw [n_le (by omega) (by omega)] at q'
        omega), if_pos ((n_in (by omega)).mpr (by omega)), n_nat (by omega), d3, if_neg (fun q => by
        rw [n_eq (by omega) (by omega)] at q
        subst q
        rw [hc] at d2; cases d2)]
theorem q_dropsM (hG : 0 < b → ∃ c, c < 1000 ∧ isA c = false ∧ G (b - 1) = Int32.ofNat c) (k : ev_M → Option (Int32 × ev_M)) : ∀ (W : List Nat) (n o : Nat) (m : ev_M) (x : Nat × Bool × List Nat), W.length < n → QG β E kd b fr G m x W o → ∃ m', FX12_qGoesOn_L162 f k n m = k m' ∧ QG β E kd b fr G m' (x.1, x.2.1, x.2.2 ++ W.takeWhile isM) (W.dropWhile isM) o := by
  intro W
  induction W with
  | nil =>
    intro n o m x hn h
    obtain ⟨n, rfl⟩ : ∃ i, n = i + 1 := ⟨n - 1, by omega⟩
    unfold FX12_qGoesOn_L162
    rw [show FX12_qIsOn f 3 m = some (if ([] : List Nat).headD 0 = 3 then 1 else 0, m) from q_isOn (c := 3) hG h (by decide), bd_some, if_neg (show ¬ ([] : List Nat).headD 0 = 3 by decide), if_pos rfl, show FX12_qIsOn f 4 m = some (if ([] : List Nat).headD 0 = 4 then 1 else 0, m) from q_isOn (c := 4) hG h (by decide), bd_some, if_neg (show ¬ ([] : List Nat).headD 0 = 4 by decide), if_pos rfl]
    exact ⟨m, rfl, by rw [show x.2.2 ++ List.takeWhile isM [] = x.2.2 from List.append_nil _]; exact h⟩
  | cons c V ih =>
    intro n o m x hn h
    have hl : (c :: V).length = V.length + 1 := rfl
    obtain ⟨n, rfl⟩ : ∃ i, n = i + 1 := ⟨n - 1, by omega⟩
    have go : isM c = true → ∃ m', FX12_qGoesOn_J178 f (FX12_qGoesOn_L162 f k n) m = k m' ∧ QG β E kd b fr G m' (x.1, x.2.1, x.2.2 ++ (c :: V).takeWhile isM) ((c :: V).dropWhile isM) o := by
      intro hc
      unfold FX12_qGoesOn_J178
      obtain ⟨m1, r1, r2⟩ := @q_drops f E kd b fr β G m x V o c h
      rw [r1, bd_some]
      obtain ⟨m2, q1, q2⟩ := ih n o m1 _ (by omega) r2
      refine ⟨m2, q1, ?_⟩
      rw [List.takeWhile_cons, if_pos hc, List.dropWhile_cons, if_pos hc]
      have q2' : QG β E kd b fr G m2 (x.1, x.2.1, (x.2.2 ++ [c]) ++ List.takeWhile isM V) (List.dropWhile isM V) o := q2
      rw [List.append_assoc] at q2'
      exact q2'
    unfold FX12_qGoesOn_L162
    rw [show (3 : Int32) = Int32.ofNat 3 from rfl, q_isOn hG h (by decide), bd_some]
    by_cases z1 : c = 3
    · rw [if_pos (show (c :: V).headD 0 = 3 from z1), if_neg n10]
      exact go (by rw [z1]; decide)
    rw [if_neg (show ¬ (c :: V).headD 0 = 3 from z1), if_pos rfl, show (4 : Int32) = Int32.ofNat 4 from rfl, q_isOn hG h (by decide), bd_some]
    by_cases z2 : c = 4
    · rw [if_pos (show (c :: V).headD 0 = 4 from z2), if_neg n10]
      exact go (by rw [z2]; decide)
    rw [if_neg (show ¬ (c :: V).headD 0 = 4 from z2), if_pos rfl]
    have hc : ¬ isM c = true := fun q => by
      have := of_decide_eq_true q
      omega
    refine ⟨m, rfl, ?_⟩
    rw [List.takeWhile_cons, if_neg hc, List.dropWhile_cons, if_neg hc, List.append_nil]
    exact h
theorem q_dropsA (hG : 0 < b → ∃ c, c < 1000 ∧ isA c = false ∧ G (b - 1) = Int32.ofNat c) (k : ev_M → Option (Int32 × ev_M)) : ∀ (W : List Nat) (n o : Nat) (m : ev_M) (x : Nat × Bool × List Nat), W.length < n → QG β E kd b fr G m x W o → ∃ m', FX12_qGoesOn_L247 f k n m = k m' ∧ QG β E kd b fr G m' (x.1, x.2.1, x.2.2 ++ W.takeWhile isA) (W.dropWhile isA) o := by
  intro W
  induction W with
  | nil =>
    intro n o m x hn h
    obtain ⟨n, rfl⟩ : ∃ i, n = i + 1 := ⟨n - 1, by omega⟩
    unfold FX12_qGoesOn_L247
    rw [show FX12_qIsOn f 3 m = some (if ([] : List Nat).headD 0 = 3 then 1 else 0, m) from q_isOn (c := 3) hG h (by decide), bd_some, if_neg (show ¬ ([] : List Nat).headD 0 = 3 by decide), if_pos rfl, show FX12_qIsOn f 4 m = some (if ([] : List Nat).headD 0 = 4 then 1 else 0, m) from q_isOn (c := 4) hG h (by decide), bd_some, if_neg (show ¬ ([] : List Nat).headD 0 = 4 by decide), if_pos rfl, show FX12_qIsOn f 1 m = some (if ([] : List Nat).headD 0 = 1 then 1 else 0, m) from q_isOn (c := 1) hG h (by decide), bd_some, if_neg (show ¬ ([] : List Nat).headD 0 = 1 by decide), if_pos rfl, show FX12_qIsOn f 2 m = some (if ([] : List Nat).headD 0 = 2 then 1 else 0, m) from q_isOn (c := 2) hG h (by decide), bd_some, if_neg (show ¬ ([] : List Nat).headD 0 = 2 by decide), if_pos rfl]
    exact ⟨m, rfl, by rw [show x.2.2 ++ List.takeWhile isA [] = x.2.2 from List.append_nil _]; exact h⟩
  | cons c V ih =>
    intro n o m x hn h
    have hl : (c :: V).length = V.length + 1 := rfl
    obtain ⟨n, rfl⟩ : ∃ i, n = i + 1 := ⟨n - 1, by omega⟩
    have go : isA c = true → ∃ m', FX12_qGoesOn_J279 f (FX12_qGoesOn_L247 f k n) m = k m' ∧ QG β E kd b fr G m' (x.1, x.2.1, x.2.2 ++ (c :: V).takeWhile isA) ((c :: V).dropWhile isA) o := by
      intro hc
      unfold FX12_qGoesOn_J279
      obtain ⟨m1, r1, r2⟩ := @q_drops f E kd b fr β G m x V o c h
      rw [r1, bd_some]
      obtain ⟨m2, q1, q2⟩ := ih n o m1 _ (by omega) r2
      refine ⟨m2, q1, ?_⟩
      rw [List.takeWhile_cons, if_pos hc, List.dropWhile_cons, if_pos hc]
      have q2' : QG β E kd b fr G m2 (x.1, x.2.1, (x.2.2 ++ [c]) ++ List.takeWhile isA V) (List.dropWhile isA V) o := q2
      rw [List.append_assoc] at q2'
      exact q2'
    have step : ∀ d, isA d = true → FX12_qIsOn f (Int32.ofNat d) m = some (if c = d then 1 else 0, m) := fun d hd => q_isOn hG h hd
    unfold FX12_qGoesOn_L247
    rw [show (3 : Int32) = Int32.ofNat 3 from rfl, step 3 (by decide), bd_some]
    by_cases z1 : c = 3
    · rw [if_pos z1, if_neg n10]
      exact go (by rw [z1]; decide)
    rw [if_neg z1, if_pos rfl, show (4 : Int32) = Int32.ofNat 4 from rfl, step 4 (by decide), bd_some]
    by_cases z2 : c = 4
    · rw [if_pos z2, if_neg n10]
      exact go (by rw [z2]; decide)
    rw [if_neg z2, if_pos rfl, show FX12_qIsOn f 1 m = some (if c = 1 then 1 else 0, m) from step 1 (by decide), bd_some]
    by_cases z3 : c = 1
    · rw [if_pos z3, if_neg n10]
      exact go (by rw [z3]; decide)
    rw [if_neg z3, if_pos rfl, show FX12_qIsOn f 2 m = some (if c = 2 then 1 else 0, m) from step 2 (by decide), bd_some]
    by_cases z4 : c = 2
    · rw [if_pos z4, if_neg n10]
      exact go (by rw [z4]; decide)
    rw [if_neg z4, if_pos rfl]
    have hc : ¬ isA c = true := fun q => by
      have := of_decide_eq_true q
      omega
    refine ⟨m, rfl, ?_⟩
    rw [List.takeWhile_cons, if_neg hc, List.dropWhile_cons, if_neg hc, List.append_nil]
    exact h
end
