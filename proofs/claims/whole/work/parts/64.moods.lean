/-! moods -/
theorem TR_a {m0 m m' : ev_M} (h : TR m0 m) (h2 : m'.2 = m.2) (h1 : ∀ a k, (a ≠ 149 ∧ a ≠ 150 ∧ ¬ (a = 112 ∧ k = 62)) → m'.1 a k = m.1 a k) : TR m0 m' := by
  obtain ⟨a1, a2, a3, a4, a5⟩ := h
  refine ⟨fun a k z => ?_, fun k => by rw [h2]; exact a2 k, by rw [h2]; exact a3, fun i hi => by rw [h1 145 i (by omega)]; exact a4 i hi, by rw [h1 112 54 (by omega)]; exact a5⟩
  rw [h1 a k (by have := z.1; unfold relM at this; omega)]
  exact a1 a k z
theorem RS_a {T : Nat} {S : sp_S} {m m' : ev_M} (h : RS m T S) (h1 : ∀ k, m'.1 144 k = m.1 144 k) : RS m' T S :=
  ⟨(h1 _).trans h.1, (h1 _).trans h.2.1, fun t ht => ⟨(h1 _).trans (h.2.2 t ht).1, (h1 _).trans (h.2.2 t ht).2.1, (h1 _).trans (h.2.2 t ht).2.2⟩⟩
theorem RS_md {T t v : Nat} {S : sp_S} {m : ev_M} (ht : t < T) (h : RS m T S) : RS (ev_up m.1 144 (2 + 3 * t) (Int32.ofNat v), m.2) T (mdS t v S) := by
  refine ⟨?_, ?_, fun i hi => ⟨?_, ?_, ?_⟩⟩
  · rw [upI_nk _ _ _ _ (by omega)]; exact h.1
  · rw [upI_nk _ _ _ _ (by omega)]; exact h.2.1
  · show ev_up m.1 144 (2 + 3 * t) (Int32.ofNat v) 144 (2 + 3 * i) = sp_up S.2.2.1 t (Int32.ofNat v) i
    rw [ev_up_at]
    unfold sp_up
    by_cases e : i = t
    · rw [if_pos (by omega), if_pos e]
    · rw [if_neg (by omega), if_neg e]; exact (h.2.2 i hi).1
  · rw [upI_nk _ _ _ _ (by omega)]; exact (h.2.2 i hi).2.1
  · rw [upI_nk _ _ _ _ (by omega)]; exact (h.2.2 i hi).2.2
section
variable {f k0 q R t : Nat} {K : sp_K} {w : Int32} {m0 : ev_M} {S : sp_S} {ρ τ : Nat → Nat} {ω : Nat → Int32}
set_option maxHeartbeats 4000000 in
theorem r_layR {v : Nat} {kf : Int32 → ev_M → Option (Unit × ev_M)} (hf : 1700 ≤ f) (hX : RX K w k0 q m0) (hr : sp_rg S) (h9 : S.1.toInt ≤ 999) (hv : v < 10) (hR : R ≤ 16) (h58 : m0.1 112 58 = Int32.ofNat R) (hW : SW R ρ τ ω (m0.1 148)) (hb : ∀ i, i < R → ρ i ≤ 30 ∧ τ i < K.1) : ∀ (j r n : Nat) (m : ev_M), r + j = 31 → j < n → TR m0 m → RS m K.1 (gos K (mdS t v S) r) → m.1 112 53 = 0 → HD 149 K S t 31 v r m →
    ∃ m', FX12_laysMoods_L33 f kf (Int32.ofNat v) n (if allB (seenM K S t R ρ τ ω v) r = true then 1 else 0) (Int32.ofNat r) m = kf (if fitM K S t R ρ τ ω v = true then 1 else 0) m' ∧ TR m0 m' ∧ m'.1 112 53 = 0 ∧ HD 149 K S t 31 v 31 m' ∧ (∀ k, m'.1 150 k = m.1 150 k) ∧ m'.1 112 62 = m.1 112 62 := by
  have hT := hX.1.1
  have e30 : (30 : Int32) = Int32.ofNat 30 := rfl
  intro j
  induction j with
  | zero =>
    intro r n m h1 h2 q1 q2 q3 q4
    obtain ⟨n, rfl⟩ : ∃ z, n = z + 1 := ⟨n - 1, by omega⟩
    have : r = 31 := by omega
    subst this
    rw [FX12_laysMoods_L33, if_pos (by decide), seen_fit (fun i hi => (hb i hi).1)]
    exact ⟨m, rfl, q1, q3, q4, fun _ => rfl, rfl⟩
  | succ j ih =>
    intro r n m h1 h2 q1 q2 q3 q4
    obtain ⟨n, rfl⟩ : ∃ z, n = z + 1 := ⟨n - 1, by omega⟩
    have hg := gos_rd (K := K) (mdS_rg (t := t) hv hr) (show (mdS t v S).1.toInt ≤ 999 from h9) hT r (by omega)
    have hg1 := gos_rd (K := K) (mdS_rg (t := t) hv hr) (show (mdS t v S).1.toInt ≤ 999 from h9) hT (r + 1) (by omega)
    obtain ⟨m1, r1, r2, r3, r4, r5, r6, r7⟩ := @r_goT f k0 q K m0 m 0 w (gos K (mdS t v S) r) hf hX q1 q2 hg.1 q3
    have hx1 := RX_TR r2 hX
    obtain ⟨m2, s1, s2, s3, s4⟩ := @r_layK f k0 q v r K w m0 (fun m7 => (FX12_laysMoods_L33 f kf (Int32.ofNat v) n (if allB (seenM K S t R ρ τ ω v) (r + 1) = true then 1 else 0) (Int32.ofNat r + 1) m7)) hX hv (by omega) K.1 0 f m1 m1 (by omega) (by omega) hx1.1.2.1 rfl (fun _ _ => rfl) (fun i hi => by omega) (fun _ _ => rfl)
    obtain ⟨s4, s5⟩ := s4
    have md := MDX12_roundGoes r1
    have fin : ∃ m', FX12_laysMoods_J62 f (FX12_laysMoods_L33 f kf (Int32.ofNat v) n) (Int32.ofNat v) (Int32.ofNat r) (if allB (seenM K S t R ρ τ ω v) (r + 1) = true then 1 else 0) m1 = kf (if fitM K S t R ρ τ ω v = true then 1 else 0) m' ∧ TR m0 m' ∧ m'.1 112 53 = 0 ∧ HD 149 K S t 31 v 31 m' ∧ (∀ k, m'.1 150 k = m.1 150 k) ∧ m'.1 112 62 = m.1 112 62 := by
      unfold FX12_laysMoods_J62
      rw [z0] at s1
      rw [s1, s_1]
      obtain ⟨m', t1, t2, t3, t4, t5, t6⟩ := ih (r + 1) n m2 (by omega) (by omega) (TR_a r2 s2 (fun a k z => by rw [s3 a z.1])) (RS_a r3 (fun k => by rw [s3 144 (by decide)])) (by rw [s3 112 (by decide)]; exact r5) (fun v' r' k hk hr' hvr => by
        by_cases e : v' = v ∧ r' = r
        · rw [e.1, e.2, s4 k hk]; exact r4 k hk
        · rw [s5 _ (fun i hi => by unfold ixM; omega), (md 149 _ (by unfold mdX12_roundGoes; omega)).1]
          exact q4 v' r' k hk hr' (by omega))
      refine ⟨m', t1, t2, t3, t4, fun k => ?_, ?_⟩
      · rw [t5 k, s3 150 (by decide), (md 150 k (by unfold mdX12_roundGoes; omega)).1]
      · rw [t6, s3 112 (by decide), (md 112 62 (by unfold mdX12_roundGoes; omega)).1]
    rw [FX12_laysMoods_L33, if_neg (fun z => by rw [e30, n_lt (by omega) (by omega)] at z; omega), r1, bd_some]
    unfold FX12_laysMoods_J61
    by_cases z : allB (seenM K S t R ρ τ ω v) r = true
    · have M : ∀ a k, relM a k ∧ ¬ (a = 144 ∧ k < 26) ∧ ¬ (a = 112 ∧ (k = 53 ∨ k = 54)) → m1.1 a k = m0.1 a k := r2.1
      have hW1 : SW R ρ τ ω (m1.1 148) := by
        intro i hi
        rw [M 148 _ (by unfold relM; omega), M 148 _ (by unfold relM; omega), M 148 _ (by unfold relM; omega)]
        exact hW i hi
      have h0 : (m1.1 144 0).toInt = S.1.toInt + r + 1 := by
        have e : m1.1 144 0 = (gos K (mdS t v S) (r + 1)).1 := r3.1
        rw [e, hg1.2]
        show S.1.toInt + ((r + 1 : Nat) : Int) = _
        omega
      rw [if_pos z, if_neg n10, @r_seen f R v t r K S ρ τ ω m1 (by omega) hT hR (by rw [M 112 58 (by unfold relM; omega)]; exact h58) hW1 hb (by omega) h0 r4, bd_some]
      by_cases y : seenM K S t R ρ τ ω v r = true
      · rw [if_pos y, if_neg n10]
        have e1 : (if allB (seenM K S t R ρ τ ω v) (r + 1) = true then (1 : Int32) else 0) = 1 := if_pos (by unfold allB; rw [z, y]; rfl)
        rw [e1] at fin
        exact fin
      · rw [if_neg y, if_pos rfl]
        have e1 : (if allB (seenM K S t R ρ τ ω v) (r + 1) = true then (1 : Int32) else 0) = 0 := if_neg (by unfold allB; simp [y])
        rw [e1] at fin
        exact fin
    · rw [if_neg z, if_pos rfl]
      have e1 : (if allB (seenM K S t R ρ τ ω v) (r + 1) = true then (1 : Int32) else 0) = 0 := if_neg (by unfold allB; simp [z])
      rw [e1] at fin
      exact fin
theorem r_layV (hf : 1700 ≤ f) (hX : RX K w k0 q m0) (h0 : RS m0 K.1 S) (hr : sp_rg S) (h9 : S.1.toInt ≤ 999) (ht : t < K.1) (hR : R ≤ 16) (h58 : m0.1 112 58 = Int32.ofNat R) (hW : SW R ρ τ ω (m0.1 148)) (hb : ∀ i, i < R → ρ i ≤ 30 ∧ τ i < K.1) {kf : ev_M → Option (Unit × ev_M)} : ∀ (j v n : Nat) (m : ev_M), v + j = 10 → j < n → TR m0 m → RS m K.1 S → m.1 112 53 = 0 → HD 149 K S t 31 v 0 m → (∀ u, u < v → m.1 150 u = if fitM K S t R ρ τ ω u = true then 1 else 0) → m.1 112 62 = Int32.ofNat (cnt (fitM K S t R ρ τ ω) v) →
    ∃ m', FX12_laysMoods_L11 f kf (Int32.ofNat t) n (Int32.ofNat v) m = kf m' ∧ TR m0 m' ∧ m'.1 112 53 = 0 ∧ HD 149 K S t 31 10 0 m' ∧ (∀ u, u < 10 → m'.1 150 u = if fitM K S t R ρ τ ω u = true then 1 else 0) ∧ m'.1 112 62 = Int32.ofNat (cnt (fitM K S t R ρ τ ω) 10) := by
  have hT := hX.1.1
  have e10 : (10 : Int32) = Int32.ofNat 10 := rfl
  intro j
  induction j with
  | zero =>
    intro v n m h1 h2 q1 q2 q3 q4 q5 q6
    obtain ⟨n, rfl⟩ : ∃ z, n = z + 1 := ⟨n - 1, by omega⟩
    have : v = 10 := by omega
    subst this
    rw [FX12_laysMoods_L11, if_pos (by decide)]
    exact ⟨m, rfl, q1, q3, q4, q5, q6⟩
  | succ j ih =>
    intro v n m h1 h2 q1 q2 q3 q4 q5 q6
    obtain ⟨n, rfl⟩ : ∃ z, n = z + 1 := ⟨n - 1, by omega⟩
    obtain ⟨m1, r1, r2, r3, r4, r5, r6⟩ := @r_layR f k0 q R t K w m0 S ρ τ ω v (fun e10 m11 => (ev_bd (FX12_triesAnew f m11) (fun _ m13 => (if ev_in (Int32.ofNat v) 10 then (if e10 = 0 then (FX12_laysMoods_J138 f (FX12_laysMoods_L11 f kf (Int32.ofNat t) n) (Int32.ofNat v) ((ev_up m13.1 150 (Int32.ofNat v).toNatClampNeg (e10 &&& 1)), m13.2)) else (FX12_laysMoods_J138 f (FX12_laysMoods_L11 f kf (Int32.ofNat t) n) (Int32.ofNat v) ((ev_up (ev_up m13.1 150 (Int32.ofNat v).toNatClampNeg (e10 &&& 1)) 112 62 ((m13.1 112 62) + 1)), m13.2))) else none)))) hf hX hr h9 (by omega) hR h58 hW hb 31 0 f (ev_up m.1 144 (2 + 3 * t) (Int32.ofNat v), m.2) (by omega) (by omega) (TR_up144 q1 (by omega)) (RS_md ht q2) (by rw [upI_na _ _ _ _ (by decide)]; exact q3) (fun v' r' k hk hr' hvr => by rw [upI_na _ _ _ _ (by decide)]; exact q4 v' r' k hk hr' hvr)
    obtain ⟨m2, s1, s2, s3, s4, s5, s6, s7, s8⟩ := @r_anew f K.1 m0 m1 S (by omega) hT r2 h0
    have md := MDX12_triesAnew s1
    have r1' : FX12_laysMoods_L33 f (fun e10 m11 => (ev_bd (FX12_triesAnew f m11) (fun _ m13 => (if ev_in (Int32.ofNat v) 10 then (if e10 = 0 then (FX12_laysMoods_J138 f (FX12_laysMoods_L11 f kf (Int32.ofNat t) n) (Int32.ofNat v) ((ev_up m13.1 150 (Int32.ofNat v).toNatClampNeg (e10 &&& 1)), m13.2)) else (FX12_laysMoods_J138 f (FX12_laysMoods_L11 f kf (Int32.ofNat t) n) (Int32.ofNat v) ((ev_up (ev_up m13.1 150 (Int32.ofNat v).toNatClampNeg (e10 &&& 1)) 112 62 ((m13.1 112 62) + 1)), m13.2))) else none)))) (Int32.ofNat v) f 1 0 (ev_up m.1 144 (2 + 3 * t) (Int32.ofNat v), m.2) = _ := r1
    rw [FX12_laysMoods_L11, if_neg (fun z => by rw [e10, n_le (by omega) (by omega)] at z; omega), ix0, if_pos ((n_in (by omega)).mpr (by omega)), n_nat (show 2 + 3 * t < 2147483648 by omega), r1', s1, bd_some, if_pos ((n_in (by omega)).mpr (by omega))]
    unfold FX12_laysMoods_J138
    rw [s_1, n_nat (by omega)]
    have e53 : m2.1 112 53 = 0 := by rw [s4]; exact r3
    have e62 : m2.1 112 62 = Int32.ofNat (cnt (fitM K S t R ρ τ ω) v) := by
      rw [(md 112 62 (by unfold mdX12_triesAnew; omega)).1, r6, upI_na _ _ _ _ (by decide)]; exact q6
    have e150 : ∀ u, u < v → m2.1 150 u = if fitM K S t R ρ τ ω u = true then 1 else 0 := fun u hu => by
      rw [(md 150 u (by unfold mdX12_triesAnew; omega)).1, r5 u, upI_na _ _ _ _ (by decide)]; exact q5 u hu
    have e149 : HD 149 K S t 31 (v + 1) 0 m2 := fun v' r' k hk hr' hvr => by
      rw [(md 149 _ (by unfold mdX12_triesAnew; omega)).1]; exact r4 v' r' k hk hr' (by omega)
    by_cases z : fitM K S t R ρ τ ω v = true
    · rw [if_pos z, if_neg n10, show (1 : Int32) &&& 1 = 1 by decide]
      refine ih (v + 1) n _ (by omega) (by omega) (TR_a s2 rfl (fun a k y => ?_)) (RS_a s3 (fun k => ?_)) ?_ ?_ ?_ ?_
      · show ev_up (ev_up m2.1 150 v 1) 112 62 _ a k = _
        by_cases e : a = 112
        · subst e; rw [up_nk _ _ _ (by omega), up_na _ _ _ _ (by decide)]
        · rw [up_na _ _ _ _ e, up_na _ _ _ _ y.2.1]
      · rw [upI_na _ _ _ _ (by decide), ev_up_ne _ _ _ (by decide)]
      · rw [upI_nk _ _ _ _ (by decide), up_na _ _ _ _ (by decide)]; exact e53
      · intro v' r' k hk hr' hvr
        rw [upI_na _ _ _ _ (by decide), ev_up_ne _ _ _ (by decide)]; exact e149 v' r' k hk hr' hvr
      · intro u hu
        rw [upI_na _ _ _ _ (by decide)]
        by_cases e : u = v
        · rw [e, up_at, if_pos z]
        · rw [up_nk _ _ _ e]; exact e150 u (by omega)
      · rw [upI_at, e62, s_1]
        show _ = Int32.ofNat (cnt (fitM K S t R ρ τ ω) v + (if fitM K S t R ρ τ ω v = true then 1 else 0))
        rw [if_pos z]
    · rw [if_neg z, if_pos rfl, show (0 : Int32) &&& 1 = 0 by decide]
      refine ih (v + 1) n _ (by omega) (by omega) (TR_a s2 rfl (fun a k y => upI_na _ _ _ _ y.2.1 ▸ rfl)) (RS_a s3 (fun k => by rw [upI_na _ _ _ _ (by decide)])) ?_ ?_ ?_ ?_
      · rw [upI_na _ _ _ _ (by decide)]; exact e53
      · intro v' r' k hk hr' hvr
        rw [upI_na _ _ _ _ (by decide)]; exact e149 v' r' k hk hr' hvr
      · intro u hu
        by_cases e : u = v
        · rw [e, upI_at, if_neg z]
        · rw [upI_nk _ _ _ _ e]; exact e150 u (by omega)
      · rw [upI_na _ _ _ _ (by decide), e62]
        show _ = Int32.ofNat (cnt (fitM K S t R ρ τ ω) v + (if fitM K S t R ρ τ ω v = true then 1 else 0))
        rw [if_neg z, Nat.add_zero]
theorem r_lays (hf : 1700 ≤ f) (hX : RX K w k0 q m0) (h0 : RS m0 K.1 S) (h53 : m0.1 112 53 = 0) (h54 : m0.1 112 54 = 0) (hr : sp_rg S) (h9 : S.1.toInt ≤ 999) (ht : t < K.1) (hR : R ≤ 16) (h58 : m0.1 112 58 = Int32.ofNat R) (hW : SW R ρ τ ω (m0.1 148)) (hb : ∀ i, i < R → ρ i ≤ 30 ∧ τ i < K.1) :
    ∃ m', FX12_laysMoods f (Int32.ofNat t) m0 = some ((), m') ∧ fM m0 m' ∧ HD 149 K S t 31 10 0 m' ∧ (∀ u, u < 10 → m'.1 150 u = if fitM K S t R ρ τ ω u = true then 1 else 0) ∧ m'.1 112 62 = Int32.ofNat (cnt (fitM K S t R ρ τ ω) 10) := by
  have hT := hX.1.1
  generalize hM : ((ev_up m0.1 112 62 0, m0.2) : ev_M) = M
  have g : ∀ a k, ¬ (a = 112 ∧ k = 62) → M.1 a k = m0.1 a k := by
    intro a k z
    rw [← hM]
    show ev_up m0.1 112 62 0 a k = _
    by_cases e : a = 112
    · subst e; rw [up_nk _ _ _ (by omega)]
    · rw [up_na _ _ _ _ e]
  have g2 : M.2 = m0.2 := by rw [← hM]
  have fm : fM m0 M := ⟨fun a k z => g a k (by unfold relM at z; omega), fun k => by rw [g2], by rw [g2]⟩
  have hXM : RX K w k0 q M := by
    obtain ⟨a1, a2, a3, a4, a5, a6, a7⟩ := hX
    exact ⟨RK_of a1 (g _ _ (by omega)) (fun k => g _ _ (by omega)) (fun k => g _ _ (by omega)) (funext fun k => g _ _ (by omega)), (g _ _ (by omega)).trans a2, (g _ _ (by omega)).trans a3, a4, a5, (g _ _ (by omega)).trans a6, a7⟩
  have h0M : RS M K.1 S := RS_a h0 (fun k => g _ _ (by omega))
  obtain ⟨m1, r1, r2, r3, r4, r5, r6⟩ := @r_aside f K.1 M S (by omega) h0M
  have md := MDX12_putsAside r1
  have hWM : SW R ρ τ ω (M.1 148) := fun i hi => by rw [g _ _ (by omega), g _ _ (by omega), g _ _ (by omega)]; exact hW i hi
  obtain ⟨m2, s1, s2, s3, s4, s5, s6⟩ := @r_layV f k0 q R t K w M S ρ τ ω hf hXM h0M hr h9 ht hR (by rw [g _ _ (by omega)]; exact h58) hWM hb (fun m14 => (ev_bd (FX12_takesBack f m14) (fun _ m16 => some ((), m16)))) 10 0 f m1 (by omega) (by omega) r2 r3 (by rw [r4, g _ _ (by omega)]; exact h53) (fun v' r' k hk hr' hvr => by omega) (fun u hu => by omega) (by rw [(md 112 62 (by unfold mdX12_putsAside; omega)).1, ← hM, upI_at]; rfl)
  obtain ⟨m3, t1, t2, t3⟩ := @r_back f K.1 M m2 S (by omega) hT s2 h0M (by rw [s3, g _ _ (by omega), h53]) (by rw [g _ _ (by omega)]; exact h54)
  have mdb := MDX12_takesBack t1
  unfold FX12_laysMoods
  rw [hM, r1, bd_some]
  rw [z0] at s1
  rw [s1, t1, bd_some]
  refine ⟨m3, rfl, fm.trans t2, fun v' r' k hk hr' hvr => ?_, fun u hu => ?_, ?_⟩
  · rw [(mdb 149 _ (by unfold mdX12_takesBack; omega)).1]; exact s4 v' r' k hk hr' hvr
  · rw [(mdb 150 u (by unfold mdX12_takesBack; omega)).1]; exact s5 u hu
  · rw [(mdb 112 62 (by unfold mdX12_takesBack; omega)).1]; exact s6
end
