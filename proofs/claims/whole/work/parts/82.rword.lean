/-! the reference's words -/
def isWo (o : Nat) : Bool := decide ((115 ≤ o ∧ o ≤ 137) ∨ (154 ≤ o ∧ o ≤ 176))
def wix (o : Nat) : Nat := if o < 138 then o - 115 else if o < 160 then o - 131 else ([19, 18, 17, 20, 21, 22, 10, 2, 3, 11, 12, 13, 14, 15, 16, 4, 10] : List Nat).getD (o - 160) 0
def wsz (o : Nat) : Nat := (Sx.2.1 o).2
def WA (m : ev_M) : Prop := ∀ o, isWo o = true → ∀ k, k < wsz o → m.1 o k = wch (wix o) k
theorem wo_all : ∀ o, o < 177 → isWo o = true → wix o < 29 ∧ 0 < wsz o ∧ wsz o ≤ 6 ∧ ∀ k, k < 6 → if k < wsz o then isL (wch (wix o) k) = true else wch (wix o) k = 32 := by decide +kernel
theorem w_inj : ∀ i, i < 29 → ∀ j, j < 29 → (∀ k, k < 6 → wch i k = wch j k) → i = j := by decide +kernel
theorem wo_lt {o : Nat} (h : isWo o = true) : o < 177 := by
  unfold isWo at h
  rw [decide_eq_true_iff] at h
  omega
theorem wv_iff {β : Nat → Int32} {s n o : Nat} (ho : isWo o = true) (hl : ∀ k, k < n → isL (β (s + k)) = true) : wv β s n = some (wix o) ↔ n = wsz o ∧ ∀ k, k < n → β (s + k) = wch (wix o) k := by
  obtain ⟨a1, a2, a3, a4⟩ := wo_all o (wo_lt ho) ho
  have h32 : isL 32 = false := by decide
  have hwm : ∀ i, wm β s n i = true ↔ ∀ k, k < 6 → wch i k = if k < n then β (s + k) else 32 := by
    intro i
    unfold wm
    rw [allB_iff]
    constructor
    · intro h k hk
      have := h k hk
      unfold wc1 at this
      exact of_decide_eq_true this
    · intro h k hk
      unfold wc1
      exact decide_eq_true (h k hk)
  have key : n ≤ 6 → (wm β s n (wix o) = true ↔ n = wsz o ∧ ∀ k, k < n → β (s + k) = wch (wix o) k) := by
    intro hn
    rw [hwm]
    constructor
    · intro h
      have e : n = wsz o := by
        rcases Nat.lt_trichotomy n (wsz o) with z | z | z
        · have q := a4 n (by omega)
          rw [if_pos z] at q
          have q2 := h n (by omega)
          rw [if_neg (by omega)] at q2
          rw [q2, h32] at q; cases q
        · exact z
        · have q := a4 (wsz o) (by omega)
          rw [if_neg (by omega)] at q
          have q2 := h (wsz o) (by omega)
          rw [if_pos z] at q2
          have q3 := hl (wsz o) z
          rw [← q2, q, h32] at q3; cases q3
      refine ⟨e, fun k hk => ?_⟩
      have := h k (by omega)
      rw [if_pos hk] at this
      exact this.symm
    · rintro ⟨e, h⟩ k hk
      by_cases z : k < n
      · rw [if_pos z]; exact (h k z).symm
      · rw [if_neg z]
        have q := a4 k hk
        rw [if_neg (by omega)] at q
        exact q
  unfold wv
  by_cases hn : n ≤ 6
  · rw [if_pos hn, ← key hn]
    constructor
    · intro h
      exact (idx_some _ _ _ h).2.2.1
    · intro h
      cases hi : idx (wm β s n) 29 0 with
      | none => exact absurd h (idx_none _ _ hi (wix o) (by omega) (by omega))
      | some i =>
        obtain ⟨q1, q2, q3, q4⟩ := idx_some _ _ _ hi
        have h' := (hwm _).mp h
        have q3' := (hwm _).mp q3
        rw [w_inj i (by omega) (wix o) a1 (fun k hk => by rw [q3' k hk, h' k hk])]
  · rw [if_neg hn]
    constructor
    · intro h; cases h
    · rintro ⟨e, _⟩; omega
section
variable {f E : Nat} {β : Nat → Int32}
theorem r_hereL (k : Int32 → ev_M → Option (Int32 × ev_M)) {m : ev_M} (h3 : TR0 β E m) : ∀ (j n q : Nat), E - q = j → j < n → q ≤ E → FX12_isHere_L35 f k n (Int32.ofNat q) m = k (Int32.ofNat (q + rl isL β E q)) m := by
  have hE := h3.1
  intro j
  induction j with
  | zero =>
    intro n q h1 h2 h4
    obtain ⟨n, rfl⟩ : ∃ i, n = i + 1 := ⟨n - 1, by omega⟩
    unfold FX12_isHere_L35
    rw [h3.2.1, if_pos ((n_le (by omega) (by omega)).mpr (by omega)), rl_0 (by omega)]
    rfl
  | succ j ih =>
    intro n q h1 h2 h4
    obtain ⟨n, rfl⟩ : ∃ i, n = i + 1 := ⟨n - 1, by omega⟩
    unfold FX12_isHere_L35
    rw [h3.2.1, if_neg (fun x => by rw [n_le (by omega) (by omega)] at x; omega), if_pos ((n_in (by omega)).mpr (by omega)), n_nat (by omega), h3.2.2 q (by omega), r_isL, bd_some]
    by_cases z : isL (β q) = true
    · rw [if_pos z, if_neg n10, s_1, ih n (q + 1) (by omega) (by omega) (by omega), rl_s (by omega) z, show q + 1 + rl isL β E (q + 1) = q + (rl isL β E (q + 1) + 1) by omega]
    · rw [if_neg z, if_pos rfl, rl_0 (fun x => z x.2)]
      rfl
theorem r_hereM {o s : Nat} {m : ev_M} (h3 : TR0 β E m) (hw : WA m) (ho : isWo o = true) (h2 : m.1 112 2 = Int32.ofNat s) (hs : s + wsz o ≤ E) : ∀ (j n i : Nat), wsz o - i = j → j < n → i ≤ wsz o → ∃ v, FX12_isHere_L76 f (fun m9 => some (1, m9)) o n (Int32.ofNat i) m = some (v, m) ∧ ((∀ k, i ≤ k → k < wsz o → β (s + k) = wch (wix o) k) ∧ v = 1 ∨ ¬ (∀ k, i ≤ k → k < wsz o → β (s + k) = wch (wix o) k) ∧ v = 0) := by
  have hE := h3.1
  obtain ⟨a1, a2, a3, a4⟩ := wo_all o (wo_lt ho) ho
  have a3' : (Sx.2.1 o).2 ≤ 6 := a3
  intro j
  induction j with
  | zero =>
    intro n i h1 hn hi
    obtain ⟨n, rfl⟩ : ∃ i, n = i + 1 := ⟨n - 1, by omega⟩
    unfold FX12_isHere_L76
    rw [if_pos ((n_le (a := (Sx.2.1 o).2) (by omega) (by omega)).mpr (by show wsz o ≤ i; omega))]
    exact ⟨1, rfl, Or.inl ⟨fun k k1 k2 => by omega, rfl⟩⟩
  | succ j ih =>
    intro n i h1 hn hi
    obtain ⟨n, rfl⟩ : ∃ i, n = i + 1 := ⟨n - 1, by omega⟩
    unfold FX12_isHere_L76
    have c1 : ¬ (Int32.ofNat (Sx.2.1 o).2 ≤ Int32.ofNat i) := fun x => by
      rw [n_le (by omega) (by omega)] at x
      have : wsz o ≤ i := x
      omega
    rw [if_neg c1, h2, n_add, if_pos ((n_in (by omega)).mpr (by omega)), if_pos ((n_in (n := (Sx.2.1 o).2) (by omega)).mpr (show i < wsz o by omega))]
    have e1 : m.1 113 (Int32.ofNat (s + i)).toNatClampNeg = β (s + i) := by rw [n_nat (by omega), h3.2.2 _ (by omega)]
    have e2 : m.1 o (Int32.ofNat i).toNatClampNeg = wch (wix o) i := by rw [n_nat (by omega), hw o ho i (by omega)]
    by_cases z : β (s + i) = wch (wix o) i
    · rw [if_pos (by rw [e1, e2]; exact z), s_1]
      obtain ⟨v, v1, v2⟩ := ih n (i + 1) (by omega) (by omega) (by omega)
      refine ⟨v, v1, ?_⟩
      rcases v2 with ⟨q, e⟩ | ⟨q, e⟩
      · refine Or.inl ⟨fun k k1 k2 => ?_, e⟩
        by_cases e : k = i
        · subst e; exact z
        · exact q k (by omega) k2
      · exact Or.inr ⟨fun x => q (fun k k1 k2 => x k (by omega) k2), e⟩
    · rw [if_neg (fun x => z (e1.symm.trans (x.trans e2)))]
      exact ⟨0, rfl, Or.inr ⟨fun x => z (x i (by omega) (by omega)), rfl⟩⟩
theorem rt_here {m : ev_M} {y : Yr} {o : Nat} (hf : 4000 ≤ f) (hw : WA m) (ho : isWo o = true) (h : YT β E m y) : ∃ m', FX12_isHere f o m = some (if yI β E y = some (wix o) then 1 else 0, m') ∧ YT β E m' y ∧ AT β E m' y ∧ on2 m m' := by
  unfold FX12_isHere
  cases y with
  | inl e =>
    rw [if_neg (yr_bad h)]
    exact ⟨m, rfl, h, (fun x e => by cases e), on2_refl m⟩
  | inr x =>
    obtain ⟨m1, r1, r2, r3, r4⟩ := r_look hf h
    have hw1 : WA m1 := fun o ho k hk => by
      rw [r4.2 _ _ (fun q => by rw [q.1] at ho; revert ho; decide)]; exact hw o ho k hk
    obtain ⟨a1, a2, a3, a4⟩ := wo_all o (wo_lt ho) ho
    have hE := r3.1.1
    have hp : x.1 ≤ E := r3.2.1
    have hsk := sk_le (β := β) hp
    have hge := sk_ge β E x.1
    have fin : ∀ v : Int32, v = (if yI β E (.inr x) = some (wix o) then 1 else 0) → ∃ m', some (v, m1) = some (if yI β E (.inr x) = some (wix o) then 1 else 0, m') ∧ YT β E m' (.inr x) ∧ AT β E m' (.inr x) ∧ on2 m m' := by
      intro v hv
      rw [hv]
      exact ⟨m1, rfl, r3, (fun x' e => by cases e; exact r2), r4⟩
    rw [if_pos h.2.2.1, r1, bd_some, r_isL, bd_some]
    by_cases z1 : isL (lk β E x.1) = true
    rotate_left
    · rw [if_neg z1, if_pos rfl]
      refine fin 0 ?_
      rw [if_neg]
      intro q
      have hk := yI_k q
      have := tkK_1 (show tkK β E x.1 x.2.1 = 1 from hk)
      unfold lk at z1
      rw [if_pos this.1] at z1
      exact z1 this.2
    rw [if_pos z1, if_neg n10]
    have hlt : sk β E x.1 < E := by
      unfold lk at z1
      by_cases q : sk β E x.1 < E
      · exact q
      · rw [if_neg q] at z1; exact absurd z1 (by decide)
    have hL : isL (β (sk β E x.1)) = true := by
      unfold lk at z1
      rw [if_pos hlt] at z1
      exact z1
    have hcond : m1.1 112 2 = m1.1 112 4 ↔ (x.2.1 = true ∧ sk β E x.1 = x.1) := by
      have h8 := r3.2.2.2.2.2
      rw [r2]
      by_cases q : x.2.1 = true
      · rw [if_pos q] at h8
        rw [h8, n_eq (by omega) (by omega)]
        exact ⟨fun e => ⟨q, e⟩, fun e => e.2⟩
      · rw [if_neg q] at h8
        constructor
        · intro e
          rw [← e, n_int (by omega)] at h8
          omega
        · intro e; exact absurd e.1 q
    by_cases z2 : x.2.1 = true ∧ sk β E x.1 = x.1
    · rw [if_pos (hcond.mpr z2)]
      refine fin 0 ?_
      rw [if_neg]
      intro q
      have hk : tkK β E x.1 x.2.1 = 1 := yI_k q
      unfold tkK at hk
      rw [if_neg (by omega), if_pos hL, if_pos z2] at hk
      omega
    have hk : tkK β E x.1 x.2.1 = 1 := by unfold tkK; rw [if_neg (by omega), if_pos hL, if_neg z2]
    have hI : yI β E (.inr x) = wv β (sk β E x.1) (rl isL β E (sk β E x.1)) := by unfold yI; simp only []; rw [if_pos hk]
    have hrl := rl_le (P := isL) (β := β) (E := E) (p := sk β E x.1) hsk
    have a3' : (Sx.2.1 o).2 ≤ 6 := a3
    have iff := @wv_iff β (sk β E x.1) (rl isL β E (sk β E x.1)) o ho (fun k hk => rl_all hk)
    rw [if_neg (fun q => z2 (hcond.mp q)), r2, r_hereL _ r3.1 (E - sk β E x.1) f (sk β E x.1) rfl (by omega) hsk]
    unfold FX12_isHere_J61
    rw [r2, n_sub (by omega), show sk β E x.1 + rl isL β E (sk β E x.1) - sk β E x.1 = rl isL β E (sk β E x.1) by omega]
    by_cases z3 : rl isL β E (sk β E x.1) = wsz o
    · have e0 : Int32.ofNat (rl isL β E (sk β E x.1)) = Int32.ofNat (Sx.2.1 o).2 := by rw [z3]; rfl
      obtain ⟨v, v1, v2⟩ := @r_hereM f E β o (sk β E x.1) m1 r3.1 hw1 ho r2 (by omega) (wsz o - 0) f 0 rfl (by omega) (by omega)
      have v1' : FX12_isHere_L76 f (fun m9 => some (1, m9)) o f 0 m1 = some (v, m1) := v1
      rw [if_pos e0, v1']
      refine fin _ ?_
      rw [hI]
      rcases v2 with ⟨z4, e⟩ | ⟨z4, e⟩
      · rw [e, if_pos (iff.mpr ⟨z3, fun k hk => z4 k (by omega) (by omega)⟩)]
      · rw [e, if_neg (fun q => z4 (fun k k1 k2 => (iff.mp q).2 k (by omega)))]
    · have e0 : ¬ Int32.ofNat (rl isL β E (sk β E x.1)) = Int32.ofNat (Sx.2.1 o).2 := fun q => by
        rw [n_eq (by omega) (by omega)] at q
        exact z3 q
      rw [if_neg e0]
      refine fin 0 ?_
      rw [hI, if_neg (fun q => z3 (iff.mp q).1)]
theorem rt_takesW {m : ev_M} {y : Yr} {o : Nat} (hf : 4000 ≤ f) (hw : WA m) (ho : isWo o = true) (h : YT β E m y) : ∃ m', FX12_takes f o m = some (if yI β E y = some (wix o) then 1 else 0, m') ∧ YT β E m' (if yI β E y = some (wix o) then yad β E y else y) ∧ (¬ yI β E y = some (wix o) → AT β E m' y) ∧ (∀ a k, ¬ (a = 112 ∧ (k = 2 ∨ k = 4)) → m'.1 a k = m.1 a k) := by
  unfold FX12_takes
  obtain ⟨m1, r1, r2, r3, r4⟩ := rt_here hf hw ho h
  rw [r1, bd_some]
  by_cases z : yI β E y = some (wix o)
  rotate_left
  · rw [if_neg z, if_pos rfl, if_neg z]
    exact ⟨m1, rfl, r2, (fun _ => r3), fun a k q => r4.2 a k (by omega)⟩
  rw [if_pos z, if_neg n10, if_pos z]
  cases y with
  | inl e => cases z
  | inr x =>
    have hk : tkK β E x.1 x.2.1 = 1 := yI_k z
    obtain ⟨c1, c2, c3, c4, c5, c6⟩ := r2
    have hE := c1.1
    have hsk := sk_le (β := β) c2
    have hrl := rl_le (P := isL) (β := β) (E := E) (p := sk β E x.1) hsk
    have hI : yI β E (.inr x) = wv β (sk β E x.1) (rl isL β E (sk β E x.1)) := by unfold yI; simp only []; rw [if_pos hk]
    rw [hI] at z
    have iff := (@wv_iff β (sk β E x.1) (rl isL β E (sk β E x.1)) o ho (fun k hk => rl_all hk)).mp z
    have hb : tkB β E x.1 = sk β E x.1 + wsz o := by unfold tkB; rw [(tkV_1 hk).2, iff.1]
    have hb2 := tkB_le (β := β) c2
    have e2 : m1.1 112 2 + Int32.ofNat (Sx.2.1 o).2 = Int32.ofNat (tkB β E x.1) := by rw [r3 x rfl, hb]; exact n_add _ _
    rw [e2]
    refine ⟨_, rfl, ?_, (fun q => absurd (hI.trans z) q), fun a k q => ?_⟩
    · show RT β E _ (tkB β E x.1) (tkW β E x.1 x.2.1)
      refine ⟨TR0_fr c1 (fun a k z => ?_), hb2, by rw [upI_nk _ _ _ _ (by decide), up_nk _ _ _ (by decide)]; exact c3, by rw [upI_nk _ _ _ _ (by decide), up_nk _ _ _ (by decide)]; exact c4, ⟨tkB β E x.1, Nat.le_refl _, sk_ge _ _ _, by rw [upI_nk _ _ _ _ (by decide), up_at]⟩, ?_⟩
      · rcases z with ⟨za, zk⟩ | za
        · subst za; rw [upI_nk _ _ _ _ (by omega), up_nk _ _ _ (by omega)]
        · rw [upI_na _ _ _ _ (by omega), up_na _ _ _ _ (by omega)]
      · rw [tkW_k hk, if_pos (by decide), upI_at]
    · rw [← r4.2 a k (by omega)]
      by_cases e : a = 112
      · subst e; rw [upI_nk _ _ _ _ (by omega), up_nk _ _ _ (by omega)]
      · rw [upI_na _ _ _ _ e, up_na _ _ _ _ e]
theorem rt_asksW {m : ev_M} {y : Yr} {o : Nat} (hf : 4000 ≤ f) (hw : WA m) (ho : isWo o = true) (h : YT β E m y) : ∃ m', FX12_asks f o m = some ((), m') ∧ YT β E m' (ytW β E (wix o) y) := by
  unfold FX12_asks
  cases y with
  | inl e =>
    rw [if_neg (yr_bad h)]
    exact ⟨m, rfl, h⟩
  | inr x =>
    obtain ⟨m1, r1, r2, r3, r4⟩ := rt_takesW hf hw ho h
    have h5 : m.1 112 5 = 0 := h.2.2.1
    rw [if_pos h5, r1, bd_some]
    unfold ytW
    by_cases z : yI β E (.inr x) = some (wix o)
    · rw [if_pos z] at r2
      rw [if_pos z, if_neg n10, if_pos z]
      exact ⟨m1, rfl, r2⟩
    · rw [if_neg z] at r2
      rw [if_neg z, if_pos rfl, if_neg z]
      obtain ⟨m2, q1, q2⟩ := @yt_fail f E β m1 _ 1 r2 (r3 z) (by omega) (by omega)
      have q1' : FX12_fail f 1 (m1.1 112 2) m1 = some ((), m2) := q1
      rw [q1', bd_some]
      exact ⟨m2, rfl, q2⟩
end
