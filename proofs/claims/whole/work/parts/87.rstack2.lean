/-! brackets and the end of a part -/
section
variable {f E kd b fr : Nat} {β : Nat → Int32} {G : Nat → Int32}
theorem r_isBr {c : Nat} {m : ev_M} (hc : c < 1000) : FX12_qIsBracket f (Int32.ofNat c) m = some (if nb c = true then 0 else 1, m) := by
  unfold FX12_qIsBracket nb
  by_cases z1 : c < 20
  · rw [if_pos (by rw [show (20 : Int32) = Int32.ofNat 20 from rfl, n_lt (by omega) (by omega)]; exact z1), if_pos (decide_eq_true (Or.inl z1))]
  rw [if_neg (by rw [show (20 : Int32) = Int32.ofNat 20 from rfl, n_lt (by omega) (by omega)]; exact z1)]
  by_cases z2 : 24 < c
  · rw [if_pos (by rw [show (24 : Int32) = Int32.ofNat 24 from rfl, n_lt (by omega) (by omega)]; exact z2), if_pos (decide_eq_true (Or.inr z2))]
  rw [if_neg (by rw [show (24 : Int32) = Int32.ofNat 24 from rfl, n_lt (by omega) (by omega)]; exact z2), if_neg (fun q => by have := of_decide_eq_true q; omega)]
theorem bkt_cons {c : Nat} {V : List Nat} : bkt (c :: V) = if nb c = true then bkt V else c := by
  unfold bkt
  rw [List.dropWhile_cons]
  by_cases z : nb c = true
  · rw [if_pos z, if_pos z]
  · rw [if_neg z, if_neg z]; rfl
theorem bkt_cases (W : List Nat) : bkt W = 0 ∨ (20 ≤ bkt W ∧ bkt W ≤ 24) := by
  induction W with
  | nil => exact Or.inl rfl
  | cons c V ih =>
    rw [bkt_cons]
    by_cases z : nb c = true
    · rw [if_pos z]; exact ih
    · rw [if_neg z]
      right
      have : ¬ (c < 20 ∨ 24 < c) := fun q => z (decide_eq_true q)
      omega
theorem r_brL {m : ev_M} (h97 : m.1 112 97 = Int32.ofNat b) : ∀ (V : List Nat) (n : Nat), V.length < n → b + V.length ≤ 1600 → stk (m.1 178) b V → FX12_qBracket_L7 f (fun e3 m4 => (if e3 < (m4.1 112 97) then some ((-1), m4) else (if ev_in e3 1700 then some ((m4.1 178 e3.toNatClampNeg), m4) else none))) n (Int32.ofNat (b + V.length) - 1) m = some (if bkt V = 0 then -1 else Int32.ofNat (bkt V), m) := by
  intro V
  induction V with
  | nil =>
    intro n hn hb hs
    obtain ⟨n, rfl⟩ : ∃ i, n = i + 1 := ⟨n - 1, by omega⟩
    have hl : ([] : List Nat).length = 0 := rfl
    have lt : Int32.ofNat (b + ([] : List Nat).length) - 1 < m.1 112 97 := by
      rw [h97, i_lt, i_sub (by rw [n_int (by omega)]; have : (1 : Int32).toInt = 1 := rfl
                               omega) (by rw [n_int (by omega)]; have : (1 : Int32).toInt = 1 := rfl
                                          omega), n_int (by omega), n_int (by omega)]
      have : (1 : Int32).toInt = 1 := rfl
      omega
    unfold FX12_qBracket_L7
    rw [if_pos lt, if_pos lt, if_pos (show bkt [] = 0 from rfl)]
  | cons c V ih =>
    intro n hn hb hs
    have hl : (c :: V).length = V.length + 1 := rfl
    obtain ⟨n, rfl⟩ : ∃ i, n = i + 1 := ⟨n - 1, by omega⟩
    have e1 : Int32.ofNat (b + (c :: V).length) - 1 = Int32.ofNat (b + V.length) := by
      rw [show (1 : Int32) = Int32.ofNat 1 from rfl, n_sub (by omega), hl]; rfl
    rw [e1]
    have nlt : ¬ Int32.ofNat (b + V.length) < m.1 112 97 := fun q => by
      rw [h97, n_lt (by omega) (by omega)] at q
      omega
    have hin : ev_in (Int32.ofNat (b + V.length)) 1700 := (n_in (by omega)).mpr (by omega)
    have hv : m.1 178 (Int32.ofNat (b + V.length)).toNatClampNeg = Int32.ofNat c := by rw [n_nat (by omega)]; exact hs.2.1
    have hbr : FX12_qIsBracket f (m.1 178 (Int32.ofNat (b + V.length)).toNatClampNeg) m = some (if nb c = true then 0 else 1, m) := by rw [hv]; exact r_isBr hs.1
    unfold FX12_qBracket_L7
    rw [if_neg nlt, if_pos hin, hbr, bd_some, bkt_cons]
    by_cases z : nb c = true
    · rw [if_pos z, if_pos rfl, if_pos z, show Int32.ofNat (b + V.length) + -1 = Int32.ofNat (b + V.length) - 1 from (Int32.sub_eq_add_neg _ _).symm]
      exact ih n (by omega) (by omega) hs.2.2
    · have hz : ¬ (c < 20 ∨ 24 < c) := fun q => z (decide_eq_true q)
      rw [if_neg z, if_neg n10, if_neg nlt, if_pos hin, hv, if_neg z, if_neg (by omega)]
theorem q_bracket {m : ev_M} {x : Nat × Bool × List Nat} {W : List Nat} {o : Nat} (hf : 4000 ≤ f) (h : QG β E kd b fr G m x W o) : FX12_qBracket f m = some (if bkt W = 0 then -1 else Int32.ofNat (bkt W), m) := by
  obtain ⟨g1, g2, g3, g4, g5, g6, g7, g8, g9, g10, g11, g12, g13⟩ := h
  have hE := g1.1.1
  have hpE := g1.2.1
  unfold FX12_qBracket
  rw [g6]
  exact r_brL g4 W f (by omega) (by omega) g7
theorem q_dropsTo (k : ev_M → Option (Unit × ev_M)) : ∀ (W : List Nat) (n o : Nat) (m : ev_M) (x : Nat × Bool × List Nat), W.length < n → QG β E kd b fr G m x W o → ∃ m', FX12_qDropsToBracket_L0 f k n m = k m' ∧ QG β E kd b fr G m' (x.1, x.2.1, x.2.2 ++ W.takeWhile nb) (W.dropWhile nb) o := by
  intro W
  induction W with
  | nil =>
    intro n o m x hn h
    obtain ⟨n, rfl⟩ : ∃ i, n = i + 1 := ⟨n - 1, by omega⟩
    have hE := h.1.1.1
    have hpE := h.1.2.1
    have g10 := h.2.2.2.2.2.2.2.2.2.1
    have hl : ([] : List Nat).length = 0 := rfl
    unfold FX12_qDropsToBracket_L0
    rw [h.2.2.2.1, h.2.2.2.2.2.1, if_pos ((n_le (by omega) (by omega)).mpr (by omega))]
    exact ⟨m, rfl, by rw [show x.2.2 ++ List.takeWhile nb [] = x.2.2 from List.append_nil _]; exact h⟩
  | cons c V ih =>
    intro n o m x hn h
    have hl : (c :: V).length = V.length + 1 := rfl
    obtain ⟨n, rfl⟩ : ∃ i, n = i + 1 := ⟨n - 1, by omega⟩
    obtain ⟨t1, t2, t3, t4, t5⟩ := qg_top h
    unfold FX12_qDropsToBracket_L0
    rw [t2, t5, h.2.2.2.1, if_neg (fun q => by rw [n_le (by omega) (by omega)] at q; omega), if_pos ((n_in (by omega)).mpr (by omega)), n_nat (by omega), t3, r_isBr t1, bd_some]
    by_cases z : nb c = true
    · rw [if_pos z, if_pos rfl]
      obtain ⟨m1, r1, r2⟩ := @q_drops f E kd b fr β G m x V o c h
      rw [r1, bd_some]
      obtain ⟨m2, q1, q2⟩ := ih n o m1 _ (by omega) r2
      refine ⟨m2, q1, ?_⟩
      rw [List.takeWhile_cons, if_pos z, List.dropWhile_cons, if_pos z]
      have q2' : QG β E kd b fr G m2 (x.1, x.2.1, (x.2.2 ++ [c]) ++ List.takeWhile nb V) (List.dropWhile nb V) o := q2
      rw [List.append_assoc] at q2'
      exact q2'
    · rw [if_neg z, if_neg n10]
      refine ⟨m, rfl, ?_⟩
      rw [List.takeWhile_cons, if_neg z, List.dropWhile_cons, if_neg z, List.append_nil]
      exact h
theorem q_endsL (k : ev_M → Option (Unit × ev_M)) : ∀ (W : List Nat) (n o : Nat) (m : ev_M) (x : Nat × Bool × List Nat), W.length < n → QG β E kd b fr G m x W o → ∃ m' x' W' o', FX12_qEndsPart_L0 f k n m = k m' ∧ QG β E kd b fr G m' x' W' o' ∧ Rn β E kd (1, .inr x, W, o) (2, .inr x', W', o') ∧ x'.1 = x.1 ∧ x'.2.1 = x.2.1 := by
  intro W
  induction W with
  | nil =>
    intro n o m x hn h
    obtain ⟨n, rfl⟩ : ∃ i, n = i + 1 := ⟨n - 1, by omega⟩
    have hE := h.1.1.1
    have hpE := h.1.2.1
    have g10 := h.2.2.2.2.2.2.2.2.2.1
    have hl : ([] : List Nat).length = 0 := rfl
    unfold FX12_qEndsPart_L0
    rw [if_pos h.1.2.2.1, h.2.2.2.1, h.2.2.2.2.2.1, if_pos ((n_le (by omega) (by omega)).mpr (by omega))]
    exact ⟨m, x, [], o, rfl, h, Rn_1 rfl, rfl, rfl⟩
  | cons c V ih =>
    intro n o m x hn h
    have hl : (c :: V).length = V.length + 1 := rfl
    obtain ⟨n, rfl⟩ : ∃ i, n = i + 1 := ⟨n - 1, by omega⟩
    obtain ⟨t1, t2, t3, t4, t5⟩ := qg_top h
    unfold FX12_qEndsPart_L0
    rw [if_pos h.1.2.2.1, t2, t5, h.2.2.2.1, if_neg (fun q => by rw [n_le (by omega) (by omega)] at q; omega), if_pos ((n_in (by omega)).mpr (by omega)), n_nat (by omega), t3]
    have s1 : stp β E kd (1, .inr x, c :: V, o) = if 60 ≤ c then (1, yput c (.inr x), V, o - 1) else (2, .inr x, c :: V, o) := rfl
    by_cases z : c < 60
    · rw [if_pos (by rw [show (60 : Int32) = Int32.ofNat 60 from rfl, n_lt (by omega) (by omega)]; exact z)]
      rw [if_neg (by omega)] at s1
      exact ⟨m, x, c :: V, o, rfl, h, Rn_1 s1, rfl, rfl⟩
    · rw [if_neg (by rw [show (60 : Int32) = Int32.ofNat 60 from rfl, n_lt (by omega) (by omega)]; exact z)]
      rw [if_pos (by omega)] at s1
      have g12 := h.2.2.2.2.2.2.2.2.2.2.2.1
      have g13 := h.2.2.2.2.2.2.2.2.2.2.2.2
      have ho : opn (c :: V) = opn V + 1 := by show opn V + (if 20 ≤ c then 1 else 0) = _; rw [if_pos (by omega)]
      have e1 : m.1 112 96 - 1 = Int32.ofNat (o - 1) := by
        rw [h.2.2.2.2.1, show (1 : Int32) = Int32.ofNat 1 from rfl, n_sub (by omega)]
      rw [e1]
      -- the count is lowered first, then the top is dropped
      have e2 : ∃ m1, FX12_qDrops f (ev_up m.1 112 96 (Int32.ofNat (o - 1)), m.2) = some ((), m1) ∧ QG β E kd b fr G m1 (x.1, x.2.1, x.2.2 ++ [c]) V (o - 1) := by
        obtain ⟨g1, g2, g3, g4, g5, g6, g7, g8, g9, g10, g11, _, _⟩ := h
        have hE := g1.1.1
        have hpE := g1.2.1
        have g : ∀ a k, ¬ (a = 112 ∧ k = 96) → ((ev_up m.1 112 96 (Int32.ofNat (o - 1)), m.2) : ev_M).1 a k = m.1 a k := fun a k y2 => by
          by_cases e : a = 112
          · subst e; rw [upI_nk _ _ _ _ (by omega)]
          · rw [upI_na _ _ _ _ e]
        unfold FX12_qDrops
        have e3 : ((ev_up m.1 112 96 (Int32.ofNat (o - 1)), m.2) : ev_M).1 112 95 - 1 = Int32.ofNat (b + V.length) := by rw [g _ _ (by omega)]; exact t2
        have e4 : ((ev_up m.1 112 96 (Int32.ofNat (o - 1)), m.2) : ev_M).1 178 (b + V.length) = Int32.ofNat c := by rw [g _ _ (by omega)]; exact t3
        rw [e3, if_pos ((n_in (by omega)).mpr (by omega)), n_nat (by omega), e4]
        have hQ : QG β E kd b fr G (ev_up (ev_up m.1 112 96 (Int32.ofNat (o - 1))) 112 95 (Int32.ofNat (b + V.length)), m.2) x V (o - 1) := by
          have g' : ∀ a k, ¬ (a = 112 ∧ (k = 96 ∨ k = 95)) → ((ev_up (ev_up m.1 112 96 (Int32.ofNat (o - 1))) 112 95 (Int32.ofNat (b + V.length)), m.2) : ev_M).1 a k = m.1 a k := fun a k y2 => by
            by_cases e : a = 112
            · subst e; rw [upI_nk _ _ _ _ (by omega), up_nk _ _ _ (by omega)]
            · rw [upI_na _ _ _ _ e, up_na _ _ _ _ e]
          refine ⟨RT_fr g1 (fun a k q => g' a k (by omega)), WA_fr g2 (fun a k q => by have := wo_ne q; exact g' a k (by omega)), by rw [g' _ _ (by omega)]; exact g3, by rw [g' _ _ (by omega)]; exact g4, by rw [upI_nk _ _ _ _ (by decide), up_at], upI_at _ _ _ _ _, stk_fr V (fun i _ => g' _ _ (by omega)) g7.2.2, by rw [g' _ _ (by omega)]; exact g8, cells_fr _ _ (fun i _ _ => g' _ _ (by omega)) g9, by omega, fun q => ?_, by omega, by omega⟩
          intro q2
          rw [g' _ _ (by omega)]; exact g11 q q2
        obtain ⟨m', r1, r2⟩ := @q_code f E kd b fr β G _ x V (o - 1) c hQ (by omega)
        rw [r1, bd_some]
        exact ⟨m', rfl, r2⟩
      obtain ⟨m1, r1, r2⟩ := e2
      rw [r1, bd_some]
      obtain ⟨m', x', W', o', q1, q2, q3, q4, q5⟩ := ih n (o - 1) m1 _ (by omega) r2
      exact ⟨m', x', W', o', q1, q2, Rn_st s1 q3, q4, q5⟩
theorem q_ends {m : ev_M} {x : Nat × Bool × List Nat} {W : List Nat} {o : Nat} (hf : 4000 ≤ f) (h : QG β E kd b fr G m x W o) : ∃ m' x' W' o', FX12_qEndsPart f m = some ((), m') ∧ QG β E kd b fr G m' x' W' o' ∧ Rn β E kd (1, .inr x, W, o) (2, .inr x', W', o') ∧ x'.1 = x.1 ∧ x'.2.1 = x.2.1 := by
  have hE := h.1.1.1
  have hpE := h.1.2.1
  have g10 := h.2.2.2.2.2.2.2.2.2.1
  unfold FX12_qEndsPart
  exact q_endsL _ W f o m x (by omega) h
theorem q_opens {m : ev_M} {x : Nat × Bool × List Nat} {W : List Nat} {o c : Nat} (hc : c < 1000) (h : QG β E kd b fr G m x W o) (hb : fr + x.2.2.length + (b + W.length) < E) {a2 : Int32} (ha : a2 = Int32.ofNat (sk β E x.1)) : if o < 6 then FX12_qOpens f (Int32.ofNat c) a2 m = some ((), (ev_up (ev_up (ev_up m.1 112 96 (Int32.ofNat (o + 1))) 178 (b + W.length) (Int32.ofNat c)) 112 95 (Int32.ofNat (b + W.length + 1)), m.2)) else ∃ m', FX12_qOpens f (Int32.ofNat c) a2 m = some ((), m') ∧ RB m' (4, sk β E x.1) := by
  obtain ⟨g1, g2, g3, g4, g5, g6, g7, g8, g9, g10, g11, g12, g13⟩ := h
  have hE := g1.1.1
  have hpE := g1.2.1
  have hsk := sk_le (β := β) hpE
  unfold FX12_qOpens
  by_cases z : o < 6
  · rw [if_pos z, if_pos g1.2.2.1, if_neg (by rw [g5]; exact fun q => by rw [n_is 6 6 rfl (by omega) (by omega)] at q; omega), g6, if_pos ((n_in (by omega)).mpr (by omega)), n_nat (by omega), g5, s_1, s_1]
  · rw [if_neg z, if_pos g1.2.2.1, if_pos (by rw [g5, show o = 6 by omega]; rfl)]
    unfold FX12_fail
    rw [if_pos g1.2.2.1, bd_some]
    refine ⟨_, rfl, (show 1 ≤ 4 by decide), (show 4 ≤ 5 by decide), (show sk β E x.1 ≤ 2000 by omega), ?_, by rw [upI_at]; exact ha⟩
    rw [upI_nk _ _ _ _ (by decide), up_at]; rfl
end
