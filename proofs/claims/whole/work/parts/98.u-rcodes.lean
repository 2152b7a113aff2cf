/-! SUMS of a castle, in the reference -/
def dR (w z : Nat) (m : ev_M) (d : Option (List Nat)) : Prop := match d with
  | none => m.1 141 w = -1
  | some l => ∃ fr, fr + l.length ≤ z ∧ m.1 141 w = Int32.ofNat fr ∧ m.1 142 w = Int32.ofNat (fr + l.length) ∧ cells Int32.ofNat (m.1 143) fr l
def RQD (p : Nat) (m : ev_M) (D : sp_D) : Prop := ∃ z, z ≤ p ∧ p ≤ 1600 ∧ m.1 112 43 = Int32.ofNat z ∧ dR 0 z m D.1 ∧ dR 1 z m D.2
theorem dR_fr {w z z' : Nat} {m m' : ev_M} {d : Option (List Nat)} (h : dR w z m d) (hz : z ≤ z') (h1 : m'.1 141 w = m.1 141 w) (h2 : m'.1 142 w = m.1 142 w) (h3 : ∀ i, i < z → m'.1 143 i = m.1 143 i) : dR w z' m' d := by
  cases d with
  | none => exact h1.trans h
  | some l =>
    obtain ⟨fr, a1, a2, a3, a4⟩ := h
    exact ⟨fr, by omega, h1.trans a2, h2.trans a3, cells_fr _ _ (fun i _ hi => h3 i (by omega)) a4⟩
theorem RQD_fr {p p' : Nat} {m m' : ev_M} {D : sp_D} (h : RQD p m D) (hp : p ≤ p') (hp2 : p' ≤ 1600) (h43 : m'.1 112 43 = m.1 112 43) (h1 : ∀ a k, 141 ≤ a → a ≤ 143 → m'.1 a k = m.1 a k) : RQD p' m' D := by
  obtain ⟨z, a1, a2, a3, a4, a5⟩ := h
  exact ⟨z, by omega, hp2, h43.trans a3, dR_fr a4 (Nat.le_refl _) (h1 _ _ (by omega) (by omega)) (h1 _ _ (by omega) (by omega)) (fun i _ => h1 _ _ (by omega) (by omega)), dR_fr a5 (Nat.le_refl _) (h1 _ _ (by omega) (by omega)) (h1 _ _ (by omega) (by omega)) (fun i _ => h1 _ _ (by omega) (by omega))⟩
/-- what a castle's reading leaves as it was -/
def KC (m m' : ev_M) : Prop := (∀ k, 2 ≤ k → m'.1 141 k = m.1 141 k ∧ m'.1 142 k = m.1 142 k) ∧ ∀ k, 1600 ≤ k → m'.1 143 k = m.1 143 k
theorem KC_of {m m' : ev_M} (h : ∀ a k, 141 ≤ a → a ≤ 143 → m'.1 a k = m.1 a k) : KC m m' := ⟨fun k _ => ⟨h _ _ (by omega) (by omega), h _ _ (by omega) (by omega)⟩, fun k _ => h _ _ (by omega) (by omega)⟩
section
variable {f E : Nat} {β : Nat → Int32}
theorem r_L80 {len z : Nat} {m0 : ev_M} {kf : ev_M → Option (Unit × ev_M)} (hz : z + len ≤ 1600) (h93 : m0.1 112 93 = Int32.ofNat len) : ∀ (j i n : Nat) (m : ev_M), i + j = len → j < n → (∀ a k, a ≠ 143 → ¬ (a = 112 ∧ k = 43) → m.1 a k = m0.1 a k) → m.1 112 43 = Int32.ofNat (z + i) → (∀ q, q < i → m.1 143 (z + q) = m0.1 177 q) → (∀ q, ¬ (z ≤ q ∧ q < z + len) → m.1 143 q = m0.1 143 q) →
    ∃ m', FX12_codesTold_L80 f kf n (Int32.ofNat i) m = kf m' ∧ (∀ a k, a ≠ 143 → ¬ (a = 112 ∧ k = 43) → m'.1 a k = m0.1 a k) ∧ m'.1 112 43 = Int32.ofNat (z + len) ∧ (∀ q, q < len → m'.1 143 (z + q) = m0.1 177 q) ∧ (∀ q, ¬ (z ≤ q ∧ q < z + len) → m'.1 143 q = m0.1 143 q) := by
  intro j
  induction j with
  | zero =>
    intro i n m h1 h2 q1 q2 q3 q4
    obtain ⟨n, rfl⟩ : ∃ w, n = w + 1 := ⟨n - 1, by omega⟩
    have : i = len := by omega
    subst this
    rw [FX12_codesTold_L80, q1 112 93 (by omega) (by omega), h93, if_pos ((n_le (by omega) (by omega)).mpr (Nat.le_refl _))]
    exact ⟨m, rfl, q1, q2, q3, q4⟩
  | succ j ih =>
    intro i n m h1 h2 q1 q2 q3 q4
    obtain ⟨n, rfl⟩ : ∃ w, n = w + 1 := ⟨n - 1, by omega⟩
    rw [FX12_codesTold_L80, q1 112 93 (by omega) (by omega), h93, if_neg (fun q => by rw [n_le (by omega) (by omega)] at q; omega), if_pos ((n_in (by omega)).mpr (by omega)), q2, if_pos ((n_in (by omega)).mpr (by omega)), n_nat (by omega), n_nat (by omega), s_1, s_1]
    refine ih (i + 1) n _ (by omega) (by omega) (fun a k z1 z2 => ?_) (upI_at _ _ _ _ _) (fun q hq => ?_) (fun q hq => ?_)
    · by_cases e : a = 112
      · subst e; rw [upI_nk _ _ _ _ (by omega), up_na _ _ _ _ z1]; exact q1 _ _ z1 z2
      · rw [upI_na _ _ _ _ e, up_na _ _ _ _ z1]; exact q1 _ _ z1 z2
    · rw [upI_na _ _ _ _ (by decide)]
      by_cases e : q = i
      · subst e; rw [up_at, q1 177 _ (by omega) (by omega)]
      · rw [up_nk _ _ _ (by omega)]; exact q3 q (by omega)
    · rw [upI_na _ _ _ _ (by decide), up_nk _ _ _ (by omega)]; exact q4 q hq
def cdM0 (w : Nat) (m : ev_M) : ev_M := ((ev_up (ev_up (ev_up (ev_up (ev_up m.1 112 46 (Int32.ofNat w)) 112 93 0) 112 95 0) 112 96 0) 112 97 0), m.2)
theorem cdM_fr {w : Nat} {m : ev_M} {a k : Nat} (h : ¬ (a = 112 ∧ (k = 46 ∨ k = 93 ∨ k = 95 ∨ k = 96 ∨ k = 97))) : (cdM0 w m).1 a k = m.1 a k := by
  unfold cdM0
  by_cases e : a = 112
  · subst e; rw [upI_nk _ _ _ _ (by omega), up_nk _ _ _ (by omega), up_nk _ _ _ (by omega), up_nk _ _ _ (by omega), up_nk _ _ _ (by omega)]
  · rw [upI_na _ _ _ _ e, up_na _ _ _ _ e, up_na _ _ _ _ e, up_na _ _ _ _ e, up_na _ _ _ _ e]
theorem cdM_QG {w : Nat} {m : ev_M} {x : Nat × Bool × List Nat} (hw : WA m) (h : RT β E m x.1 x.2.1) : QG β E w 0 0 (fun _ => 0) (ev_up (cdM0 w m).1 112 97 ((cdM0 w m).1 112 95), (cdM0 w m).2) (x.1, x.2.1, []) [] 0 := by
  have c97 : (cdM0 w m).1 112 97 = 0 := upI_at _ _ _ _ _
  have c96 : (cdM0 w m).1 112 96 = 0 := by unfold cdM0; rw [upI_nk _ _ _ _ (by decide), up_at]
  have c95 : (cdM0 w m).1 112 95 = 0 := by unfold cdM0; rw [upI_nk _ _ _ _ (by decide), up_nk _ _ _ (by decide), up_at]
  have c93 : (cdM0 w m).1 112 93 = 0 := by unfold cdM0; rw [upI_nk _ _ _ _ (by decide), up_nk _ _ _ (by decide), up_nk _ _ _ (by decide), up_at]
  have c46 : (cdM0 w m).1 112 46 = Int32.ofNat w := by unfold cdM0; rw [upI_nk _ _ _ _ (by decide), up_nk _ _ _ (by decide), up_nk _ _ _ (by decide), up_nk _ _ _ (by decide), up_at]
  rw [c95]
  have g : ∀ a k, ¬ (a = 112 ∧ k = 97) → ((ev_up (cdM0 w m).1 112 97 0, (cdM0 w m).2) : ev_M).1 a k = (cdM0 w m).1 a k := fun a k z => by
    by_cases e : a = 112
    · subst e; rw [upI_nk _ _ _ _ (by omega)]
    · rw [upI_na _ _ _ _ e]
  refine ⟨RT_fr h (fun a k z => by rw [g _ _ (by omega), cdM_fr (by omega)]), WA_fr hw (fun a k q => by have := (wo_ne q).1; rw [g _ _ (by omega), cdM_fr (by omega)]), by rw [g _ _ (by omega)]; exact c46, upI_at _ _ _ _ _, by rw [g _ _ (by omega), c96]; rfl, by rw [g _ _ (by omega), c95]; rfl, trivial, by rw [g _ _ (by omega), c93]; rfl, trivial, Nat.zero_le _, (fun i q => absurd q (Nat.not_lt_zero i)), Nat.le_refl _, by omega⟩
def updD (w : Nat) (D : sp_D) (d : Option (List Nat)) : sp_D := if w = 0 then (d, D.2) else (D.1, d)
theorem r_codes {w p : Nat} {b : Int32} {m : ev_M} {x : Nat × Bool × List Nat} {D : sp_D} (hf : 4000 ≤ f) (hw2 : w < 2) (hw : WA m) (h : YT β E m (.inr x)) (hD : RQD p m D) (hp : p ≤ x.1) (hn : m.1 141 w = -1) : ∃ m', FX12_codesTold f (Int32.ofNat w) b m = some ((), m') ∧ YT β E m' (yCo β E w x) ∧ KC m m' ∧ (∀ x', yCo β E w x = .inr x' → RQD x'.1 m' (updD w D (some x'.2.2))) := by
  have h0 : RT β E m x.1 x.2.1 := h
  have h5 := h0.2.2.1
  obtain ⟨z, z1, z2, z3, z4, z5⟩ := hD
  have iw : ev_in (Int32.ofNat w) 4 := (n_in (by omega)).mpr (by omega)
  have nwn : (Int32.ofNat w).toNatClampNeg = w := n_nat (by omega)
  have hn' : m.1 141 (Int32.ofNat w).toNatClampNeg = -1 := by rw [nwn]; exact hn
  unfold FX12_codesTold FX12_codesTold_J23
  rw [if_pos h5, if_pos iw, if_pos hn', if_pos h5]
  show ∃ m', ev_bd (FX12_qSums f (cdM0 w m)) _ = _ ∧ _
  obtain ⟨sr, sl⟩ := q_sums (G := fun _ => 0) (b := 0) (fr := 0) (kd := w) (m := cdM0 w m) (x := (x.1, x.2.1, [])) (o := 0) hf (by omega) (fun q => absurd q (Nat.lt_irrefl 0)) (cdM_QG hw h0)
  cases hy : yCo β E w x with
  | inl e =>
    obtain ⟨m2, r1, r2, _⟩ := sl e hy
    have md := MDX12_qSums r1
    rw [r1, bd_some, if_neg (yr_bad r2)]
    refine ⟨m2, rfl, r2, KC_of (fun a k q1 q2 => ?_), fun x' q => by cases q⟩
    rw [(md a k (by unfold mdX12_qSums; omega)).1, cdM_fr (by omega)]
  | inr x' =>
    obtain ⟨m2, r1, r2⟩ := sr x' hy
    have md := MDX12_qSums r1
    have hq : RT β E m2 x'.1 x'.2.1 := r2.1
    have hE := hq.1.1
    have hx' := hq.2.1
    have hpl := yCo_place hy
    have g97 : ∀ a k, ¬ (a = 112 ∧ k = 97) → ((ev_up m2.1 112 97 ((cdM0 w m).1 112 97), m2.2) : ev_M).1 a k = m2.1 a k := fun a k q => by
      by_cases e : a = 112
      · subst e; rw [upI_nk _ _ _ _ (by omega)]
      · rw [upI_na _ _ _ _ e]
    have gm : ∀ a k, ¬ (a = 112 ∧ (k = 2 ∨ k = 4 ∨ k = 5 ∨ k = 6 ∨ k = 46 ∨ k = 93 ∨ k = 95 ∨ k = 96 ∨ k = 97)) → a ≠ 177 → a ≠ 178 → ((ev_up m2.1 112 97 ((cdM0 w m).1 112 97), m2.2) : ev_M).1 a k = m.1 a k := fun a k q1 q2 q3 => by
      rw [(md a k (by unfold mdX12_qSums; omega)).1, cdM_fr (by omega)]
    rw [r1, bd_some]
    generalize hM : ((ev_up m2.1 112 97 ((cdM0 w m).1 112 97), m2.2) : ev_M) = M at g97 gm
    have e93 : M.1 112 93 = Int32.ofNat x'.2.2.length := by rw [g97 _ _ (by omega), r2.2.2.2.2.2.2.2.1, Nat.zero_add]
    have e177 : cells Int32.ofNat (M.1 177) 0 x'.2.2 := cells_fr _ _ (fun i _ _ => g97 _ _ (by omega)) r2.2.2.2.2.2.2.2.2.1
    have eRT : RT β E M x'.1 x'.2.1 := RT_fr hq (fun a k q => g97 _ _ (by omega))
    have e43 : M.1 112 43 = Int32.ofNat z := by rw [gm _ _ (by omega) (by omega) (by omega)]; exact z3
    rw [if_pos eRT.2.2.1, if_pos iw, e43]
    have gU : ∀ a k, ¬ (a = 141 ∧ k = w) → ((ev_up M.1 141 w (Int32.ofNat z), M.2) : ev_M).1 a k = M.1 a k := fun a k q => by
      by_cases e : a = 141
      · subst e; rw [upI_nk _ _ _ _ (by omega)]
      · rw [upI_na _ _ _ _ e]
    obtain ⟨m3, s1, s2, s3, s4, s5⟩ := @r_L80 f x'.2.2.length z (ev_up M.1 141 (Int32.ofNat w).toNatClampNeg (Int32.ofNat z), M.2) (fun m3 => (if ev_in (Int32.ofNat w) 4 then some ((), ((ev_up m3.1 142 (Int32.ofNat w).toNatClampNeg (m3.1 112 43)), m3.2)) else none)) (by omega) (by rw [nwn, gU _ _ (by omega)]; exact e93) x'.2.2.length 0 f (ev_up M.1 141 (Int32.ofNat w).toNatClampNeg (Int32.ofNat z), M.2) (by omega) (by omega) (fun _ _ _ _ => rfl) (by rw [nwn, gU _ _ (by omega), Nat.add_zero]; exact e43) (fun q hq => by omega) (fun _ _ => rfl)
    rw [z0] at s1
    rw [s1, if_pos iw, nwn]
    rw [nwn] at s2 s4 s5
    have gF : ∀ a k, a ≠ 143 → ¬ (a = 112 ∧ k = 43) → ¬ (a = 141 ∧ k = w) → ¬ (a = 142 ∧ k = w) → ((ev_up m3.1 142 w (m3.1 112 43), m3.2) : ev_M).1 a k = M.1 a k := fun a k q1 q2 q3 q4 => by
      by_cases e : a = 142
      · subst e; rw [upI_nk _ _ _ _ (by omega), s2 _ _ q1 q2, gU _ _ q3]
      · rw [upI_na _ _ _ _ e, s2 _ _ q1 q2, gU _ _ q3]
    have e143 : ∀ q, ¬ (z ≤ q ∧ q < z + x'.2.2.length) → ((ev_up m3.1 142 w (m3.1 112 43), m3.2) : ev_M).1 143 q = m.1 143 q := fun q hq => by
      rw [upI_na _ _ _ _ (by decide), s5 q hq, gU _ _ (by omega), gm _ _ (by omega) (by omega) (by omega)]
    refine ⟨_, rfl, RT_fr eRT (fun a k q => gF _ _ (by omega) (by omega) (by omega) (by omega)), ⟨fun k hk => ⟨?_, ?_⟩, fun k hk => e143 k (by omega)⟩, fun x2 e => ?_⟩
    · rw [gF _ _ (by omega) (by omega) (by omega) (by omega), gm _ _ (by omega) (by omega) (by omega)]
    · rw [gF _ _ (by omega) (by omega) (by omega) (by omega), gm _ _ (by omega) (by omega) (by omega)]
    · cases e
      have new : dR w (z + x'.2.2.length) (ev_up m3.1 142 w (m3.1 112 43), m3.2) (some x'.2.2) := by
        refine ⟨z, Nat.le_refl _, ?_, ?_, ?_⟩
        · rw [upI_na _ _ _ _ (by decide), s2 _ _ (by omega) (by omega), upI_at]
        · rw [upI_at]; exact s3
        · have : ∀ (l : List Nat) (i : Nat), i + l.length = x'.2.2.length → cells Int32.ofNat (M.1 177) i l → cells Int32.ofNat (((ev_up m3.1 142 w (m3.1 112 43), m3.2) : ev_M).1 143) (z + i) l := by
            intro l
            induction l with
            | nil => intro i _ _; trivial
            | cons c l ih =>
              intro i hi hc
              simp only [List.length_cons] at hi
              refine ⟨?_, ?_⟩
              · rw [upI_na _ _ _ _ (by decide), s4 i (by omega), gU _ _ (by omega)]; exact hc.1
              · have := ih (i + 1) (by omega) hc.2
                rw [show z + (i + 1) = z + i + 1 by omega] at this
                exact this
          exact this x'.2.2 0 (by omega) e177
      have old : ∀ w' d, w' < 2 → w' ≠ w → dR w' z m d → dR w' (z + x'.2.2.length) (ev_up m3.1 142 w (m3.1 112 43), m3.2) d := fun w' d q1 q2 hd => dR_fr hd (by omega) (by rw [gF _ _ (by omega) (by omega) (by omega) (by omega), gm _ _ (by omega) (by omega) (by omega)]) (by rw [gF _ _ (by omega) (by omega) (by omega) (by omega), gm _ _ (by omega) (by omega) (by omega)]) (fun i hi => e143 i (by omega))
      refine ⟨z + x'.2.2.length, by omega, by omega, by rw [upI_na _ _ _ _ (by decide)]; exact s3, ?_⟩
      unfold updD
      by_cases ew : w = 0
      · rw [if_pos ew]
        exact ⟨by rw [ew] at new ⊢; exact new, old 1 _ (by omega) (by omega) z5⟩
      · rw [if_neg ew]
        have ew1 : w = 1 := by omega
        exact ⟨old 0 _ (by omega) (by omega) z4, by rw [ew1] at new ⊢; exact new⟩
theorem r_codesM {w s : Nat} {m : ev_M} {x : Nat × Bool × List Nat} (hw2 : w < 2) (h : YT β E m (.inr x)) (hs : s ≤ 2000) (hn : ¬ m.1 141 w = -1) : ∃ m', FX12_codesTold f (Int32.ofNat w) (Int32.ofNat s) m = some ((), m') ∧ RB m' (5, s) ∧ rdo m m' := by
  have h0 : RT β E m x.1 x.2.1 := h
  have h5 := h0.2.2.1
  have iw : ev_in (Int32.ofNat w) 4 := (n_in (by omega)).mpr (by omega)
  unfold FX12_codesTold FX12_codesTold_J23
  obtain ⟨m2, r1, r2⟩ := @r_failG f m 5 s h5 (by omega) hs
  have r1' : FX12_fail f 5 (Int32.ofNat s) m = some ((), m2) := r1
  have hn' : ¬ m.1 141 (Int32.ofNat w).toNatClampNeg = -1 := by rw [n_nat (by omega)]; exact hn
  rw [if_pos h5, if_pos iw, if_neg hn', r1', bd_some, if_neg (yr_bad r2)]
  exact ⟨m2, rfl, r2, rdo_fail r1⟩
end
