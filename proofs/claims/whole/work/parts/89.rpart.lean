/-! the reference reads a part -/
def OutP (β : Nat → Int32) (E kd b fr : Nat) (G : Nat → Int32) (m' : ev_M) (s : Sy) (p : Nat) : Prop :=
  (∃ x' W' o', Rn β E kd s (2, .inr x', W', o') ∧ QG β E kd b fr G m' x' W' o' ∧ p < x'.1) ∨ (∃ e W' o', Rn β E kd s (3, .inl e, W', o') ∧ RB m' e ∧ CZ m')
section
variable {f E kd b fr : Nat} {β : Nat → Int32} {G : Nat → Int32}
theorem OutP_pre {m' : ev_M} {s s' : Sy} {p p' : Nat} (h : Rn β E kd s s') (hp : p ≤ p') (q : OutP β E kd b fr G m' s' p') : OutP β E kd b fr G m' s p := by
  rcases q with ⟨x', W', o', a1, a2, a3⟩ | ⟨e, W', o', a1, a2⟩
  · exact Or.inl ⟨x', W', o', Rn_tr h a1, a2, by omega⟩
  · exact Or.inr ⟨e, W', o', Rn_tr h a1, a2⟩
theorem RB_fr {m m' : ev_M} {e : Nat × Nat} (h : RB m e) (h5 : m'.1 112 5 = m.1 112 5) (h6 : m'.1 112 6 = m.1 112 6) : RB m' e := ⟨h.1, h.2.1, h.2.2.1, by rw [h5]; exact h.2.2.2.1, by rw [h6]; exact h.2.2.2.2⟩
theorem q_J237 {m : ev_M} {x : Nat × Bool × List Nat} {W : List Nat} {o c : Nat} {s : Sy} {p : Nat} (hf : 4000 ≤ f) (h : QG β E kd b fr G m x W o) (hb : fr + x.2.2.length + (b + W.length) < x.1) (hs : Rn β E kd s (1, .inr (x.1, x.2.1, x.2.2 ++ [c]), W, o)) (hp : p < x.1) : ∃ m', FX12_qPartTold_J237 f (Int32.ofNat c) m = some ((), m') ∧ OutP β E kd b fr G m' s p := by
  unfold FX12_qPartTold_J237
  obtain ⟨m1, r1, r2⟩ := @q_code f E kd b fr β G m x W o c h hb
  rw [r1, bd_some]
  obtain ⟨m2, x', W', o', q1, q2, q3, q4, q5⟩ := q_ends hf r2
  rw [q1, bd_some]
  refine ⟨m2, rfl, Or.inl ⟨x', W', o', Rn_tr hs q3, q2, ?_⟩⟩
  have q4' : x'.1 = x.1 := q4
  omega
theorem q_val {m : ev_M} {x : Nat × Bool × List Nat} {W : List Nat} {o : Nat} (hf : 4000 ≤ f) (hk : kd < 3) (h : QG β E kd b fr G m x W o) (n0 : ¬ yS β E 40 (.inr x) = true) (n1 : ¬ (yI β E (.inr x) = some 21 ∨ yI β E (.inr x) = some 22)) (n2 : ¬ (kd = 2 ∧ yI β E (.inr x) = some 10)) : ∃ m', FX12_qPartTold_J186 f m = some ((), m') ∧ OutP β E kd b fr G m' (0, .inr x, W, o) x.1 := by
  have hE := h.1.1.1
  have hpE := h.1.2.1
  have hbd := h.2.2.2.2.2.2.2.2.2.1
  have e0 : stp β E kd (0, .inr x, W, o) = match vq kd (yI β E (.inr x)) with
    | some q => (1, yput (40 + q) (yad β E (.inr x)), W, o)
    | none => if (ytN β E 0 9999 (.inr x)).isRight = true then (1, yput (1000 + yval β E (.inr x)) (ytN β E 0 9999 (.inr x)), W, o) else (3, ytN β E 0 9999 (.inr x), W, o) := by
    show sP β E kd (.inr x) W o = _
    unfold sP; rw [if_neg n0, if_neg n1, if_neg n2]
    rfl
  unfold FX12_qPartTold_J186
  obtain ⟨m1, r1, r2⟩ := @r_wordOf f E kd β m x 0 10 hf hk (by omega) (by omega) h.1 h.2.1 h.2.2.1
  rw [wo_v hk] at r1
  have r1' : FX12_qWordOf f 0 10 m = some (oi (vq kd (yI β E (.inr x))), m1) := r1
  have h1 : QG β E kd b fr G m1 x W o := qg_on2 h r2.1 r2.2.2.2
  rw [if_pos h.1.2.2.1, r1', bd_some]
  cases hv : vq kd (yI β E (.inr x)) with
  | none =>
    rw [hv] at e0
    have e0' : stp β E kd (0, .inr x, W, o) = if (ytN β E 0 9999 (.inr x)).isRight = true then (1, yput (1000 + yval β E (.inr x)) (ytN β E 0 9999 (.inr x)), W, o) else (3, ytN β E 0 9999 (.inr x), W, o) := e0
    rw [show oi none = -1 from rfl, if_pos rfl]
    unfold FX12_qPartTold_J212
    rw [if_pos rfl]
    obtain ⟨v, m2, q1, q2, q3⟩ := @rt_num f E β m1 (.inr x) 0 9999 hf (by omega) (by omega) h1.1
    have q1' : FX12_number f 0 9999 m1 = some (v, m2) := q1
    rw [q1', bd_some]
    have fr2 : ∀ a k, ¬ (a = 112 ∧ 2 ≤ k ∧ k ≤ 6) → m2.1 a k = m1.1 a k := fun a k z => (MDX12_number q1 a k (by unfold mdX12_number; omega)).1
    cases hc : ytN β E 0 9999 (.inr x) with
    | inr x1 =>
      rw [hc] at q2 q3 e0'
      obtain ⟨x0, ex, pg⟩ := prg_tN (β := β) (E := E) (lo := 0) (hi := 9999) (y := .inr x) x1 hc
      cases ex
      have hC : x1.2.2 = x.2.2 := by
        have e' : ytN β E 0 9999 (.inr x) = .inr x1 := hc
        unfold ytN at e'
        simp only [] at e'
        split at e'
        · split at e'
          · split at e'
            · cases e'
            · have : x1 = (tkB β E x.1, tkW β E x.1 x.2.1, x.2.2) := (Sum.inr.inj e').symm
              rw [this]
          · cases e'
        · cases e'
      have h2 : QG β E kd b fr G m2 x1 W o := qg_mv h1 q2 fr2 hC (by omega)
      rw [q3 rfl, show (1000 : Int32) + Int32.ofNat (yval β E (.inr x)) = Int32.ofNat (1000 + yval β E (.inr x)) from n_add 1000 _]
      exact q_J237 hf h2 (by rw [hC]; omega) (Rn_1 e0') pg
    | inl e =>
      rw [hc] at q2 e0'
      unfold FX12_qPartTold_J237 FX12_qCode
      have e93 : m2.1 112 93 = Int32.ofNat (fr + x.2.2.length) := by rw [fr2 _ _ (by omega)]; exact h1.2.2.2.2.2.2.2.1
      rw [e93, if_pos ((n_in (by omega)).mpr (by omega)), bd_some]
      generalize hm3 : ((ev_up (ev_up m2.1 177 (Int32.ofNat (fr + x.2.2.length)).toNatClampNeg (1000 + v)) 112 93 (Int32.ofNat (fr + x.2.2.length) + 1), m2.2) : ev_M) = m3
      have hb3 : RB m3 e := RB_fr q2 (by rw [← hm3, upI_nk _ _ _ _ (by decide), up_na _ _ _ _ (by decide)]) (by rw [← hm3, upI_nk _ _ _ _ (by decide), up_na _ _ _ _ (by decide)])
      have : FX12_qEndsPart f m3 = some ((), m3) := by
        unfold FX12_qEndsPart
        obtain ⟨n, hn⟩ : ∃ i, f = i + 1 := ⟨f - 1, by omega⟩
        rw [hn]
        unfold FX12_qEndsPart_L0
        rw [if_neg (yr_bad hb3)]
      rw [this, bd_some]
      exact ⟨m3, rfl, Or.inr ⟨e, W, o, Rn_1 e0', hb3, fr + x.2.2.length + 1, by omega, by rw [← hm3, upI_at, s_1]⟩⟩
  | some q =>
    rw [hv] at e0
    obtain ⟨w, hw⟩ : ∃ w, yI β E (.inr x) = some w := by
      cases hi : yI β E (.inr x) with
      | none => rw [hi] at hv; cases hv
      | some w => exact ⟨w, rfl⟩
    have hwq : wq w = some q := vq_wq (kd := kd) (by rw [← hw]; exact hv)
    obtain ⟨hq10, hwd⟩ := wq_wd hwq
    obtain ⟨w1, w2⟩ := wix_q q hq10
    rw [show oi (some q) = Int32.ofNat q from rfl, if_neg (n_m1 (by omega)), r_asksQ (by omega)]
    obtain ⟨m2, q1, q2⟩ := rt_asksW (y := .inr x) hf h1.2.1 w2 h1.1
    rw [q1, bd_some, bd_some]
    have fr2 : ∀ a k, ¬ (a = 112 ∧ 2 ≤ k ∧ k ≤ 6) → m2.1 a k = m1.1 a k := fun a k z => (MDX12_asks q1 a k (by unfold mdX12_asks; omega)).1
    have ey : ytW β E (wix (166 + q)) (.inr x) = yad β E (.inr x) := by
      unfold ytW
      rw [if_pos (by rw [w1, hwd]; exact hw)]
    rw [ey] at q2
    have hk1 : tkK β E x.1 x.2.1 = 1 := yI_k hw
    have hlt := tkB_lt (w := x.2.1) (show tkK β E x.1 x.2.1 ≠ 0 by rw [hk1]; decide)
    have h2 : QG β E kd b fr G m2 (tkB β E x.1, tkW β E x.1 x.2.1, x.2.2) W o := qg_mv h1 q2 fr2 rfl (by show x.1 ≤ tkB β E x.1; omega)
    unfold FX12_qPartTold_J212
    rw [if_neg (n_m1 (by omega)), show (40 : Int32) + Int32.ofNat q = Int32.ofNat (40 + q) from n_add 40 q]
    exact q_J237 hf h2 (by show fr + x.2.2.length + (b + W.length) < tkB β E x.1; omega) (Rn_1 e0) hlt
/-- a push in a memory whose place has moved on -/
theorem qg_pushm {m m' : ev_M} {x x' : Nat × Bool × List Nat} {W : List Nat} {o o' c : Nat} (h : QG β E kd b fr G m x W o) (hc : c < 1000) (hr : RT β E m' x'.1 x'.2.1) (h1 : x'.2.2 = x.2.2) (h2 : x.1 < x'.1) (h96 : m'.1 112 96 = Int32.ofNat o') (h95 : m'.1 112 95 = Int32.ofNat (b + W.length + 1)) (ht : m'.1 178 (b + W.length) = Int32.ofNat c) (hs : ∀ i, i ≠ b + W.length → m'.1 178 i = m.1 178 i) (hfr : ∀ a k, ¬ (a = 112 ∧ ((2 ≤ k ∧ k ≤ 6) ∨ k = 95 ∨ k = 96)) → a ≠ 178 → m'.1 a k = m.1 a k) (ho : opn (c :: W) ≤ o') (ho6 : o' ≤ 6) : QG β E kd b fr G m' x' (c :: W) o' := by
  obtain ⟨g1, g2, g3, g4, g5, g6, g7, g8, g9, g10, g11, g12, g13⟩ := h
  have hl : (c :: W).length = W.length + 1 := rfl
  refine ⟨hr, WA_fr g2 (fun a k q => by have := wo_ne q; exact hfr a k (by omega) (by omega)), by rw [hfr _ _ (by omega) (by omega)]; exact g3, by rw [hfr _ _ (by omega) (by omega)]; exact g4, h96, by rw [h95, hl]; rfl, ⟨hc, ht, stk_fr W (fun i hi => hs i (by omega)) g7⟩, by rw [hfr _ _ (by omega) (by omega), h1]; exact g8, by rw [h1]; exact cells_fr _ _ (fun i _ _ => hfr _ _ (by omega) (by omega)) g9, by rw [h1]; omega, fun q => ?_, ho, ho6⟩
  intro q2
  rw [hs _ (by omega)]; exact g11 q q2
/-- the memory behind an opening -/
def pmm (m : ev_M) (o t c : Nat) : ev_M := (ev_up (ev_up (ev_up m.1 112 96 (Int32.ofNat (o + 1))) 178 t (Int32.ofNat c)) 112 95 (Int32.ofNat (t + 1)), m.2)
theorem pmm_fr {m : ev_M} {o t c a k : Nat} (h1 : ¬ (a = 112 ∧ (k = 95 ∨ k = 96))) (h2 : ¬ (a = 178 ∧ k = t)) : (pmm m o t c).1 a k = m.1 a k := by
  unfold pmm
  by_cases e : a = 112
  · subst e; rw [upI_nk _ _ _ _ (by omega), up_na _ _ _ _ (by omega), up_nk _ _ _ (by omega)]
  · rw [upI_na _ _ _ _ e]
    by_cases e2 : a = 178
    · subst e2; rw [up_nk _ _ _ (by omega), up_na _ _ _ _ e]
    · rw [up_na _ _ _ _ e2, up_na _ _ _ _ e]
theorem pmm_96 {m : ev_M} {o t c : Nat} : (pmm m o t c).1 112 96 = Int32.ofNat (o + 1) := by
  unfold pmm; rw [upI_nk _ _ _ _ (by decide), up_na _ _ _ _ (by decide), up_at]
theorem pmm_95 {m : ev_M} {o t c : Nat} : (pmm m o t c).1 112 95 = Int32.ofNat (t + 1) := upI_at _ _ _ _ _
theorem pmm_t {m : ev_M} {o t c : Nat} : (pmm m o t c).1 178 t = Int32.ofNat c := by
  unfold pmm; rw [upI_na _ _ _ _ (by decide), up_at]
theorem opn_c {c : Nat} {W : List Nat} (hc : 20 ≤ c) : opn (c :: W) = opn W + 1 := by show opn W + (if 20 ≤ c then 1 else 0) = _; rw [if_pos hc]
/-- opening, then what moves the place on by one thing read -/
theorem q_opened {m m' : ev_M} {x x' : Nat × Bool × List Nat} {W : List Nat} {o c : Nat} (h : QG β E kd b fr G m x W o) (h6 : o < 6) (hc : c < 1000) (hc2 : 20 ≤ c) (hr : RT β E m' x'.1 x'.2.1) (h1 : x'.2.2 = x.2.2) (h2 : x.1 < x'.1) (hfr : ∀ a k, ¬ (a = 112 ∧ 2 ≤ k ∧ k ≤ 6) → m'.1 a k = (pmm m o (b + W.length) c).1 a k) : QG β E kd b fr G m' x' (c :: W) (o + 1) := by
  have g12 := h.2.2.2.2.2.2.2.2.2.2.2.1
  refine qg_pushm h hc hr h1 h2 (by rw [hfr _ _ (by omega)]; exact pmm_96) (by rw [hfr _ _ (by omega)]; exact pmm_95) (by rw [hfr _ _ (by omega)]; exact pmm_t) (fun i hi => ?_) (fun a k z1 z2 => ?_) (by rw [opn_c hc2]; omega) (by omega)
  · rw [hfr _ _ (by omega)]; exact pmm_fr (by omega) (by omega)
  · rw [hfr _ _ (by omega)]; exact pmm_fr (by omega) (by omega)
theorem pmm_RT {m : ev_M} {o t c p : Nat} {w : Bool} (h : RT β E m p w) : RT β E (pmm m o t c) p w := RT_fr h (fun a k q => pmm_fr (by omega) (by omega))
theorem pmm_WA {m : ev_M} {o t c : Nat} (h : WA m) : WA (pmm m o t c) := WA_fr h (fun a k q => by have := wo_ne q; exact pmm_fr (by omega) (by omega))
/-- in a faulty state the loop ends -/
theorem q_badL {m : ev_M} {e : Nat × Nat} {n : Nat} {a : Int32} (h : RB m e) (hn : 0 < n) (ha : ¬ a = 0) : FX12_qPartTold_L2 f (fun m25 => (FX12_qPartTold_J186 f m25)) n a m = some ((), m) := by
  obtain ⟨n, rfl⟩ : ∃ i, n = i + 1 := ⟨n - 1, by omega⟩
  unfold FX12_qPartTold_L2
  rw [if_neg ha, if_neg (yr_bad h)]
  unfold FX12_qPartTold_J186
  rw [if_neg (yr_bad h)]
end
