/-! the law's loop, out of one step for each call -/
def St1 {α : Type} (Sim : ev_M → Prop) (oc om : ev_M → Option (α × ev_M)) : Prop := ∀ m, Sim m → ∃ (r : α) (m1 m2 : ev_M), oc m = some (r, m1) ∧ om m1 = some (r, m2) ∧ Sim m2
def Steps34 (f : Nat) (Sim : ev_M → Prop) : Prop := (∀ a b c d e : Int32, St1 Sim (FX11_feed f a b c d e) (FX12_feed f a b c d e)) ∧
  (∀ a : Int32, St1 Sim (FX11_end f a) (FX12_end f a)) ∧
  (St1 Sim (FX11_castle f) (FX12_castle f)) ∧
  (∀ a : Int32, St1 Sim (FX11_fault f a) (FX12_fault f a)) ∧
  (∀ a : Int32, St1 Sim (FX11_has f a) (FX12_has f a)) ∧
  (∀ a b : Int32, St1 Sim (FX11_letter f a b) (FX12_letter f a b)) ∧
  (∀ a b : Int32, St1 Sim (FX11_tower f a b) (FX12_tower f a b)) ∧
  (∀ a b : Int32, St1 Sim (FX11_kept f a b) (FX12_kept f a b)) ∧
  (∀ a b : Int32, St1 Sim (FX11_tone f a b) (FX12_tone f a b)) ∧
  (∀ a b : Int32, St1 Sim (FX11_mood f a b) (FX12_mood f a b)) ∧
  (∀ a : Int32, St1 Sim (FX11_doubts f a) (FX12_doubts f a)) ∧
  (St1 Sim (FX11_fire f) (FX12_fire f)) ∧
  (∀ a : Int32, St1 Sim (FX11_settles f a) (FX12_settles f a)) ∧
  (∀ a : Int32, St1 Sim (FX11_cheered f a) (FX12_cheered f a)) ∧
  (∀ a : Int32, St1 Sim (FX11_sighs f a) (FX12_sighs f a)) ∧
  (∀ a b : Int32, St1 Sim (FX11_better f a b) (FX12_better f a b)) ∧
  (∀ a b : Int32, St1 Sim (FX11_placed f a b) (FX12_placed f a b)) ∧
  (∀ a : Int32, St1 Sim (FX11_game f a) (FX12_game f a)) ∧
  (∀ a b : Int32, St1 Sim (FX11_rule f a b) (FX12_rule f a b)) ∧
  (St1 Sim (FX11_see f) (FX12_see f)) ∧
  (∀ a : Int32, St1 Sim (FX11_moods f a) (FX12_moods f a)) ∧
  (∀ a b : Int32, St1 Sim (FX11_tells f a b) (FX12_tells f a b)) ∧
  (∀ a b : Int32, St1 Sim (FX11_cheer f a b) (FX12_cheer f a b)) ∧
  (∀ a b : Int32, St1 Sim (FX11_yes f a b) (FX12_yes f a b)) ∧
  (∀ a b : Int32, St1 Sim (FX11_change f a b) (FX12_change f a b)) ∧
  (∀ a : Int32, St1 Sim (FX11_rounds f a) (FX12_rounds f a)) ∧
  (∀ a : Int32, St1 Sim (FX11_chance f a) (FX12_chance f a)) ∧
  (St1 Sim (FX11_undo f) (FX12_undo f)) ∧
  (∀ a : Int32, St1 Sim (FX11_seed f a) (FX12_seed f a)) ∧
  (St1 Sim (FX11_ask f) (FX12_ask f)) ∧
  (St1 Sim (FX11_image f) (FX12_image f)) ∧
  (∀ a : Int32, St1 Sim (FX11_octet f a) (FX12_octet f a)) ∧
  (St1 Sim (FX11_on f) (FX12_on f)) ∧
  (∀ a : Int32, St1 Sim (FX11_status f a) (FX12_status f a))
theorem lg_self (x : Int64) : lg_cmp x x = 0 := by
  unfold lg_cmp
  rw [if_neg (by simp), if_pos rfl]
theorem law_in {Ln i : Nat} (hL : Ln ≤ 3072) (h : i + 6 ≤ Ln) (j : Nat) (hj : j < 6) (c : Int32) (hc : c.toInt = j) : ev_in (Int32.ofNat i + c) Ln := by
  have e1 : (Int32.ofNat i).toInt = i := Int32.toInt_ofNat_of_lt (by omega)
  rw [i_in, i_add (by omega) (by omega), e1, hc]
  omega
set_option maxRecDepth 100000 in
set_option maxHeartbeats 8000000 in
theorem law_pure {f Ln : Nat} {xs : Nat → Int32} {Sim : ev_M → Prop} (hL : Ln ≤ 3072) (hs : Steps34 f Sim) : ∀ (n i : Nat) (m : ev_M), Sim m → i ≤ Ln + 6 → Ln + 7 ≤ n + i → ∃ m', FL_law_L18 f Ln xs (fun m => some (1, m)) n (Int32.ofNat i) m = some (1, m') := by
  intro n
  induction n with
  | zero => intro i m _ h1 h2; omega
  | succ n ih =>
    intro i m hm h1 h2
    have e1 : (Int32.ofNat i).toInt = i := Int32.toInt_ofNat_of_lt (by omega)
    have e2 : (Int32.ofNat Ln).toInt = Ln := Int32.toInt_ofNat_of_lt (by omega)
    have e3 : (Int32.ofNat Ln - 6).toInt = Ln - 6 := by rw [i_sub (by rw [e2]; simp; omega) (by rw [e2]; simp; omega), e2]; rfl
    rw [FL_law_L18]
    by_cases hend : Int32.ofNat Ln - 6 < Int32.ofNat i
    · rw [if_pos hend]; exact ⟨m, rfl⟩
    · rw [if_neg hend]
      rw [i_lt, e1, e3] at hend
      have hi : i + 6 ≤ Ln := by omega
      have h0 : ev_in (Int32.ofNat i) Ln := by rw [i_in, e1]; omega
      have g1 := law_in hL hi 1 (by omega) 1 rfl
      have g2 := law_in hL hi 2 (by omega) 2 rfl
      have g3 := law_in hL hi 3 (by omega) 3 rfl
      have g4 := law_in hL hi 4 (by omega) 4 rfl
      have g5 := law_in hL hi 5 (by omega) 5 rfl
      have e6 : Int32.ofNat i + 6 = Int32.ofNat (i + 6) := by
        rw [i_eq, i_add (by rw [e1]; simp; omega) (by rw [e1]; simp; omega), e1, Int32.toInt_ofNat_of_lt (by omega)]
        rfl
      have go : ∀ m2, Sim m2 → ∃ m', FL_law_J1057 f Ln xs (FL_law_L18 f Ln xs (fun m => some (1, m)) n) (Int32.ofNat i) m2 = some (1, m') := by
        intro m2 h
        unfold FL_law_J1057
        rw [e6]
        exact ih (i + 6) m2 h (by omega) (by omega)
      rw [if_pos h0]
      obtain ⟨s0, s1, s2, s3, s4, s5, s6, s7, s8, s9, s10, s11, s12, s13, s14, s15, s16, s17, s18, s19, s20, s21, s22, s23, s24, s25, s26, s27, s28, s29, s30, s31, s32, s33⟩ := hs
      generalize hX : xs (Int32.ofNat i).toNatClampNeg &&& 63 = X
      by_cases c0 : X = 0
      · rw [if_pos c0]
        rw [if_pos g1, if_pos g2, if_pos g3, if_pos g4, if_pos g5]
        obtain ⟨r, m1, m2, u1, u2, u3⟩ := s0 _ _ _ _ _ m hm
        rw [u1, bd_some]
        rw [if_pos g1, if_pos g2, if_pos g3, if_pos g4, if_pos g5]
        rw [u2, bd_some]
        rw [if_pos rfl]
        exact go m2 u3
      rw [if_neg c0]
      by_cases c1 : X = 1
      · rw [if_pos c1]
        rw [if_pos g1]
        obtain ⟨r, m1, m2, u1, u2, u3⟩ := s1 _ m hm
        rw [u1, bd_some]
        rw [if_pos g1]
        rw [u2, bd_some]
        rw [if_pos rfl]
        exact go m2 u3
      rw [if_neg c1]
      by_cases c2 : X = 2
      · rw [if_pos c2]
        obtain ⟨r, m1, m2, u1, u2, u3⟩ := s2 m hm
        rw [u1, bd_some]
        rw [u2, bd_some]
        rw [if_pos rfl]
        exact go m2 u3
      rw [if_neg c2]
      by_cases c3 : X = 3
      · rw [if_pos c3]
        rw [if_pos g1]
        obtain ⟨r, m1, m2, u1, u2, u3⟩ := s3 _ m hm
        rw [u1, bd_some]
        rw [if_pos g1]
        rw [u2, bd_some]
        rw [if_pos rfl]
        exact go m2 u3
      rw [if_neg c3]
      by_cases c4 : X = 4
      · rw [if_pos c4]
        rw [if_pos g1]
        obtain ⟨r, m1, m2, u1, u2, u3⟩ := s4 _ m hm
        rw [u1, bd_some]
        rw [if_pos g1]
        rw [u2, bd_some]
        rw [if_pos rfl]
        exact go m2 u3
      rw [if_neg c4]
      by_cases c5 : X = 5
      · rw [if_pos c5]
        rw [if_pos g1, if_pos g2]
        obtain ⟨r, m1, m2, u1, u2, u3⟩ := s5 _ _ m hm
        rw [u1, bd_some]
        rw [if_pos g1, if_pos g2]
        rw [u2, bd_some]
        rw [if_pos rfl]
        exact go m2 u3
      rw [if_neg c5]
      by_cases c6 : X = 6
      · rw [if_pos c6]
        rw [if_pos g1, if_pos g2]
        obtain ⟨r, m1, m2, u1, u2, u3⟩ := s6 _ _ m hm
        rw [u1, bd_some]
        rw [if_pos g1, if_pos g2]
        rw [u2, bd_some]
        rw [if_pos rfl]
        exact go m2 u3
      rw [if_neg c6]
      by_cases c7 : X = 7
      · rw [if_pos c7]
        rw [if_pos g1, if_pos g2]
        obtain ⟨r, m1, m2, u1, u2, u3⟩ := s7 _ _ m hm
        rw [u1, bd_some]
        rw [if_pos g1, if_pos g2]
        rw [u2, bd_some]
        rw [if_pos rfl]
        exact go m2 u3
      rw [if_neg c7]
      by_cases c8 : X = 8
      · rw [if_pos c8]
        rw [if_pos g1, if_pos g2]
        obtain ⟨r, m1, m2, u1, u2, u3⟩ := s8 _ _ m hm
        rw [u1, bd_some]
        rw [if_pos g1, if_pos g2]
        rw [u2, bd_some]
        rw [if_pos rfl]
        exact go m2 u3
      rw [if_neg c8]
      by_cases c9 : X = 9
      · rw [if_pos c9]
        rw [if_pos g1, if_pos g2]
        obtain ⟨r, m1, m2, u1, u2, u3⟩ := s9 _ _ m hm
        rw [u1, bd_some]
        rw [if_pos g1, if_pos g2]
        rw [u2, bd_some]
        rw [if_pos rfl]
        exact go m2 u3
      rw [if_neg c9]
      by_cases c10 : X = 10
      · rw [if_pos c10]
        rw [if_pos g1]
        obtain ⟨r, m1, m2, u1, u2, u3⟩ := s10 _ m hm
        rw [u1, bd_some]
        rw [if_pos g1]
        rw [u2, bd_some]
        rw [if_pos rfl]
        exact go m2 u3
      rw [if_neg c10]
      by_cases c11 : X = 11
      · rw [if_pos c11]
        obtain ⟨r, m1, m2, u1, u2, u3⟩ := s11 m hm
        rw [u1, bd_some]
        rw [u2, bd_some]
        rw [if_pos rfl]
        exact go m2 u3
      rw [if_neg c11]
      by_cases c12 : X = 12
      · rw [if_pos c12]
        rw [if_pos g1]
        obtain ⟨r, m1, m2, u1, u2, u3⟩ := s12 _ m hm
        rw [u1, bd_some]
        rw [if_pos g1]
        rw [u2, bd_some]
        rw [if_pos rfl]
        exact go m2 u3
      rw [if_neg c12]
      by_cases c13 : X = 13
      · rw [if_pos c13]
        rw [if_pos g1]
        obtain ⟨r, m1, m2, u1, u2, u3⟩ := s13 _ m hm
        rw [u1, bd_some]
        rw [if_pos g1]
        rw [u2, bd_some]
        rw [if_pos rfl]
        exact go m2 u3
      rw [if_neg c13]
      by_cases c14 : X = 14
      · rw [if_pos c14]
        rw [if_pos g1]
        obtain ⟨r, m1, m2, u1, u2, u3⟩ := s14 _ m hm
        rw [u1, bd_some]
        rw [if_pos g1]
        rw [u2, bd_some]
        rw [if_pos rfl]
        exact go m2 u3
      rw [if_neg c14]
      by_cases c15 : X = 15
      · rw [if_pos c15]
        rw [if_pos g1, if_pos g2]
        obtain ⟨r, m1, m2, u1, u2, u3⟩ := s15 _ _ m hm
        rw [u1, bd_some]
        rw [if_pos g1, if_pos g2]
        rw [u2, bd_some]
        rw [if_pos rfl]
        exact go m2 u3
      rw [if_neg c15]
      by_cases c16 : X = 16
      · rw [if_pos c16]
        rw [if_pos g1, if_pos g2]
        obtain ⟨r, m1, m2, u1, u2, u3⟩ := s16 _ _ m hm
        rw [u1, bd_some]
        rw [if_pos g1, if_pos g2]
        rw [u2, bd_some]
        rw [if_pos rfl]
        exact go m2 u3
      rw [if_neg c16]
      by_cases c17 : X = 17
      · rw [if_pos c17]
        rw [if_pos g1]
        obtain ⟨r, m1, m2, u1, u2, u3⟩ := s17 _ m hm
        rw [u1, bd_some]
        rw [if_pos g1]
        rw [u2, bd_some]
        rw [if_pos rfl]
        exact go m2 u3
      rw [if_neg c17]
      by_cases c18 : X = 18
      · rw [if_pos c18]
        rw [if_pos g1, if_pos g2]
        obtain ⟨r, m1, m2, u1, u2, u3⟩ := s18 _ _ m hm
        rw [u1, bd_some]
        rw [if_pos g1, if_pos g2]
        rw [u2, bd_some]
        rw [if_pos rfl]
        exact go m2 u3
      rw [if_neg c18]
      by_cases c19 : X = 19
      · rw [if_pos c19]
        obtain ⟨r, m1, m2, u1, u2, u3⟩ := s19 m hm
        rw [u1, bd_some]
        rw [u2, bd_some]
        rw [if_pos rfl]
        exact go m2 u3
      rw [if_neg c19]
      by_cases c20 : X = 20
      · rw [if_pos c20]
        rw [if_pos g1]
        obtain ⟨r, m1, m2, u1, u2, u3⟩ := s20 _ m hm
        rw [u1, bd_some]
        rw [if_pos g1]
        rw [u2, bd_some]
        rw [if_pos rfl]
        exact go m2 u3
      rw [if_neg c20]
      by_cases c21 : X = 21
      · rw [if_pos c21]
        rw [if_pos g1, if_pos g2]
        obtain ⟨r, m1, m2, u1, u2, u3⟩ := s21 _ _ m hm
        rw [u1, bd_some]
        rw [if_pos g1, if_pos g2]
        rw [u2, bd_some]
        rw [if_pos rfl]
        exact go m2 u3
      rw [if_neg c21]
      by_cases c22 : X = 22
      · rw [if_pos c22]
        rw [if_pos g1, if_pos g2]
        obtain ⟨r, m1, m2, u1, u2, u3⟩ := s22 _ _ m hm
        rw [u1, bd_some]
        rw [if_pos g1, if_pos g2]
        rw [u2, bd_some]
        rw [if_pos rfl]
        exact go m2 u3
      rw [if_neg c22]
      by_cases c23 : X = 23
      · rw [if_pos c23]
        rw [if_pos g1, if_pos g2]
        obtain ⟨r, m1, m2, u1, u2, u3⟩ := s23 _ _ m hm
        rw [u1, bd_some]
        rw [if_pos g1, if_pos g2]
        rw [u2, bd_some]
        rw [if_pos rfl]
        exact go m2 u3
      rw [if_neg c23]
      by_cases c24 : X = 24
      · rw [if_pos c24]
        rw [if_pos g1, if_pos g2]
        obtain ⟨r, m1, m2, u1, u2, u3⟩ := s24 _ _ m hm
        rw [u1, bd_some]
        rw [if_pos g1, if_pos g2]
        rw [u2, bd_some]
        rw [if_pos rfl]
        exact go m2 u3
      rw [if_neg c24]
      by_cases c25 : X = 25
      · rw [if_pos c25]
        rw [if_pos g1]
        obtain ⟨r, m1, m2, u1, u2, u3⟩ := s25 _ m hm
        rw [u1, bd_some]
        rw [if_pos g1]
        rw [u2, bd_some]
        rw [if_pos rfl]
        exact go m2 u3
      rw [if_neg c25]
      by_cases c26 : X = 26
      · rw [if_pos c26]
        rw [if_pos g1]
        obtain ⟨r, m1, m2, u1, u2, u3⟩ := s26 _ m hm
        rw [u1, bd_some]
        rw [if_pos g1]
        rw [u2, bd_some]
        rw [if_pos rfl]
        exact go m2 u3
      rw [if_neg c26]
      by_cases c27 : X = 27
      · rw [if_pos c27]
        obtain ⟨r, m1, m2, u1, u2, u3⟩ := s27 m hm
        rw [u1, bd_some]
        rw [u2, bd_some]
        rw [if_pos rfl]
        exact go m2 u3
      rw [if_neg c27]
      by_cases c28 : X = 28
      · rw [if_pos c28]
        rw [if_pos g1]
        obtain ⟨r, m1, m2, u1, u2, u3⟩ := s28 _ m hm
        rw [u1, bd_some]
        rw [if_pos g1]
        rw [u2, bd_some]
        rw [if_pos rfl]
        exact go m2 u3
      rw [if_neg c28]
      by_cases c29 : X = 29
      · rw [if_pos c29]
        obtain ⟨r, m1, m2, u1, u2, u3⟩ := s29 m hm
        rw [u1, bd_some]
        rw [u2, bd_some]
        rw [lg_self, if_pos rfl]
        exact go m2 u3
      rw [if_neg c29]
      by_cases c30 : X = 30
      · rw [if_pos c30]
        obtain ⟨r, m1, m2, u1, u2, u3⟩ := s30 m hm
        rw [u1, bd_some]
        rw [u2, bd_some]
        rw [if_pos rfl]
        exact go m2 u3
      rw [if_neg c30]
      by_cases c31 : X = 31
      · rw [if_pos c31]
        rw [if_pos g1]
        obtain ⟨r, m1, m2, u1, u2, u3⟩ := s31 _ m hm
        rw [u1, bd_some]
        rw [if_pos g1]
        rw [u2, bd_some]
        rw [if_pos rfl]
        exact go m2 u3
      rw [if_neg c31]
      by_cases c32 : X = 32
      · rw [if_pos c32]
        obtain ⟨r, m1, m2, u1, u2, u3⟩ := s32 m hm
        rw [u1, bd_some]
        rw [u2, bd_some]
        rw [if_pos rfl]
        exact go m2 u3
      rw [if_neg c32]
      by_cases c33 : X = 33
      · rw [if_pos c33]
        rw [if_pos g1]
        obtain ⟨r, m1, m2, u1, u2, u3⟩ := s33 _ m hm
        rw [u1, bd_some]
        rw [if_pos g1]
        rw [u2, bd_some]
        rw [if_pos rfl]
        exact go m2 u3
      rw [if_neg c33]
      exact go m hm
theorem pure_of {f : Nat} {Sim : ev_M → Prop} (hf : 4000 ≤ f) (h0 : Sim cM355) (hs : Steps34 f Sim) {Ln : Nat} (hL : Ln ≤ 3072) (xs : Nat → Int32) : ∃ m', FL_law_L18 f Ln xs (fun m => some (1, m)) f 0 cM355 = some (1, m') := law_pure hL hs f 0 cM355 h0 (by omega) (by omega)
