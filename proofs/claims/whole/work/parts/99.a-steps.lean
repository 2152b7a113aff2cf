/-! the start -/
set_option maxRecDepth 100000 in
set_option maxHeartbeats 4000000 in
theorem s0_b : ∀ i, cM355.1 14 i = 0 ∧ cM355.1 113 i = 0 := fun _ => ⟨rfl, rfl⟩
theorem s0_1 : cM355.1 13 1 = 0 ∧ cM355.1 112 1 = 0 ∧ (∀ i, i < 6 → cM355.1 109 i = cM355.1 114 i) ∧ cM355.1 0 15 = cM355.1 112 7 ∧ cM355.1 0 16 = cM355.1 112 8 ∧ cM355.1 0 14 = 0 ∧ cM355.1 112 103 = 0 ∧ cM355.1 33 6 = 0 ∧ cM355.1 112 58 = 0 := by decide +kernel
theorem s0_2 : cM355.2 0 17 = cM355.2 112 66 ∧ 0 ≤ (cM355.2 0 17).toInt ∧ (cM355.2 0 17).toInt < 2147483648 := by decide +kernel
theorem s0_3 : cM355.1 0 0 = 1 ∧ cM355.1 0 1 = 7 ∧ cM355.1 16 2 = 1 ∧ cM355.1 1 5 = 0 ∧ cM355.1 112 36 = 0 ∧ cM355.1 1 8 = cM355.1 140 3 ∧ cM355.1 1 9 = 3 ∧ cM355.1 140 4 = 3 ∧ cM355.1 1 10 = cM355.1 140 5 ∧ cM355.1 112 45 = 0 ∧ cM355.1 1 4 = 0 := by decide +kernel
theorem s0_4 : cM355.1 103 2 = 0 ∧ cM355.1 103 3 = 0 ∧ cM355.1 103 4 = 0 ∧ cM355.1 103 5 = 0 ∧ (∀ t, t < 8 → cM355.1 104 t = 0 ∧ cM355.1 105 t = 0 ∧ bt (cM355.1 103 4) t = 0) ∧ cM355.1 144 0 = 0 ∧ cM355.1 144 1 = 0 ∧ cM355.1 144 26 = 0 := by decide +kernel
theorem s0_5 : cM355.1 40 2 = 0 ∧ cM355.1 40 3 = 0 ∧ cM355.1 112 65 = 0 ∧ cM355.1 112 64 = 0 ∧ cM355.1 112 53 = 0 ∧ cM355.1 112 54 = 0 := by decide +kernel
theorem s0_6 : ∀ t, t < 8 → cM355.1 3 t = 0 ∧ cM355.1 4 t = 0 ∧ cM355.1 9 t = 0 ∧ cM355.1 10 t = 0 := by decide +kernel
theorem g9_0 : g9 0 := by unfold g9; decide
theorem Sim_0 : Sim cM355 cM355 := by
  obtain ⟨a1, a2, a3, a4, a5, a6, a7, a8, a9⟩ := s0_1
  obtain ⟨b1, b2, b3, b4, b5, b6, b7, b8, b9, b10, b11⟩ := s0_3
  obtain ⟨c1, c2, c3, c4, c5, c6, c7, c8⟩ := s0_4
  obtain ⟨d1, d2, d3, d4, d5, d6⟩ := s0_5
  refine ⟨1, false, (0, [], []), (0, 0, fun _ => 0, fun _ => 0, fun _ => 0), 0, ⟨0, by omega, a1, a2, fun i _ => ?_⟩, a3, ⟨a4, a5⟩, s0_2, ⟨0, by omega, a6, a7, fun i hi => by omega⟩, ⟨0, by omega, a8, a9, fun i hi => by omega, fun i hi => by omega⟩, ⟨Or.inl rfl, b1, b2, b3, (show 0 ≤ 8 by omega), b4, b5, b6, ⟨3, by omega, by omega, b7, b8⟩, b9, Or.inr ⟨rfl, b10, b11, rfl⟩, fun t ht => absurd ht (Nat.not_lt_zero t)⟩, ⟨⟨c1, c2, c5⟩, ⟨c6, c7, fun t ht => absurd ht (Nat.not_lt_zero t)⟩, ⟨⟨(show 0 ≤ (0 : Int32).toInt by decide), (show (0 : Int32).toInt < 2000 by decide)⟩, g9_0, fun t _ => ⟨g9_0, g9_0, Or.inl rfl⟩⟩, (show (0 : Int32).toInt ≤ 999 by decide), 0, c3, (show 0 < 2 ^ 0 by decide)⟩, ⟨(show ((0 : Nat) : Int) ≤ (0 : Int32).toInt by decide), c4, c8, fun i j hi hj => by omega⟩, ⟨0, 0, by omega, by omega, d1, d2, d3, d4, fun _ => 0, fun i hi => by omega, fun i j h1 h2 => by omega, fun i hi => by omega⟩, d5, d6⟩
  rw [(s0_b i).1, (s0_b i).2]
  exact ⟨rfl, by decide, by decide⟩
theorem CGo_0 : CGo 1 cM355 ∧ CGo 7 cM355 := ⟨fun t ht => by
  obtain ⟨q1, q2, q3, q4⟩ := s0_6 t ht
  show g9 (cM355.1 3 t) ∧ g9 (cM355.1 4 t)
  rw [q1, q2]; exact ⟨g9_0, g9_0⟩, fun t ht => by
  obtain ⟨q1, q2, q3, q4⟩ := s0_6 t ht
  show g9 (cM355.1 9 t) ∧ g9 (cM355.1 10 t)
  rw [q3, q4]; exact ⟨g9_0, g9_0⟩⟩
/-! every call -/
def JJ (m : ev_M) : Prop := Sim m m ∧ CGo 1 m ∧ CGo 7 m ∧ WA m
def BothJ {α : Type} (oc om : ev_M → Option (α × ev_M)) : Prop := ∀ mc mm, Sim mc mm → WA mm → CGo 1 mc → CGo 7 mc → ∃ (r : α) (mc' mm' : ev_M), oc mc = some (r, mc') ∧ om mm = some (r, mm') ∧ Sim mc' mm' ∧ CGo 1 mc' ∧ CGo 7 mc'
theorem wo_om {a : Nat} (h : isWo a = true) : (115 ≤ a ∧ a ≤ 137) ∨ (154 ≤ a ∧ a ≤ 176) := by unfold isWo at h; exact of_decide_eq_true h
theorem St1_J {α : Type} {oc om : ev_M → Option (α × ev_M)} (h : BothJ oc om) (hc : ∀ m r m', oc m = some (r, m') → frP (fun a _ => 112 ≤ a) m m') (hm : ∀ m r m', om m = some (r, m') → frP (fun a _ => a < 112 ∨ (115 ≤ a ∧ a ≤ 137) ∨ (154 ≤ a ∧ a ≤ 176)) m m') : St1 JJ oc om := by
  intro m hJ
  obtain ⟨hS, g1, g7, hW⟩ := hJ
  obtain ⟨r, m1, mm1, e1, _, _, _, _⟩ := h m m hS hW g1 g7
  have f1 := hc m r m1 e1
  have S1 : Sim m m1 := Sim_fr (frP_refl _ _) (f1.mono (fun a k q => by unfold relM at q; omega)) hS
  have W1 : WA m1 := WA_fr hW (fun a k q => (f1 a k (by have := wo_om q; omega)).1)
  obtain ⟨r', m1', m2, e1', e2, S2, G1, G7⟩ := h m m1 S1 W1 g1 g7
  rw [e1] at e1'
  have er : r = r' := congrArg Prod.fst (Option.some.inj e1')
  have em : m1 = m1' := congrArg Prod.snd (Option.some.inj e1')
  subst er; subst em
  have f2 := hm m1 r m2 e2
  exact ⟨r, m1, m2, e1, e2, Sim_fr (f2.mono (fun a k q => by unfold relC at q; omega)) (frP_refl _ _) S2, CGo_fr G1 (fun a k q1 q2 => (f2 a k (by omega)).1), CGo_fr G7 (fun a k q1 q2 => (f2 a k (by omega)).1), WA_fr W1 (fun a k q => (f2 a k (Or.inr (wo_om q))).1)⟩
theorem BothJ_of {α : Type} {oc om : ev_M → Option (α × ev_M)} (h : Both oc om) (hg : ∀ m r m', oc m = some (r, m') → frP (fun a _ => a = 3 ∨ a = 4 ∨ a = 9 ∨ a = 10) m m') : BothJ oc om := by
  intro mc mm hS _ g1 g7
  obtain ⟨r, mc', mm', e1, e2, S'⟩ := h mc mm hS
  have f1 := hg mc r mc' e1
  exact ⟨r, mc', mm', e1, e2, S', CGo_fr g1 (fun a k q1 q2 => (f1 a k (by omega)).1), CGo_fr g7 (fun a k q1 q2 => (f1 a k (by omega)).1)⟩

set_option maxHeartbeats 4000000 in
theorem J_feed (f : Nat) (hf : 4000 ≤ f) (a b c d e : Int32) : St1 JJ (FX11_feed f a b c d e) (FX12_feed f a b c d e) := St1_J (BothJ_of (B_feed f hf a b c d e) (fun m r m' e => (MDX11_feed e).mono (fun a k q => by unfold mdX11_feed; first | omega | exact id))) (fun m r m' e => (MDX11_feed e).mono (fun a k q => by unfold mdX11_feed; first | omega | exact id)) (fun m r m' e => (MDX12_feed e).mono (fun a k q => by unfold mdX12_feed; first | omega | exact id))
set_option maxHeartbeats 4000000 in
theorem J_end (f : Nat) (hf : 4000 ≤ f) (a : Int32) : St1 JJ (FX11_end f a) (FX12_end f a) := St1_J (BothJ_of (B_end f  a) (fun m r m' e => (MDX11_end e).mono (fun a k q => by unfold mdX11_end; first | omega | exact id))) (fun m r m' e => (MDX11_end e).mono (fun a k q => by unfold mdX11_end; first | omega | exact id)) (fun m r m' e => (MDX12_end e).mono (fun a k q => by unfold mdX12_end; first | omega | exact id))
set_option maxHeartbeats 4000000 in
theorem J_castle (f : Nat) (hf : 4000 ≤ f) : St1 JJ (FX11_castle f) (FX12_castle f) := St1_J (fun mc mm hS hW g1 g7 => B_castle f hf mc mm hS hW g1 g7) (fun m r m' e => (MDX11_castle e).mono (fun a k q => by unfold mdX11_castle; first | omega | exact id)) (fun m r m' e => (MDX12_castle e).mono (fun a k q => by unfold mdX12_castle; first | omega | exact id))
set_option maxHeartbeats 4000000 in
theorem J_fault (f : Nat) (hf : 4000 ≤ f) (a : Int32) : St1 JJ (FX11_fault f a) (FX12_fault f a) := St1_J (BothJ_of (B_fault f  a) (fun m r m' e => (MDX11_fault e).mono (fun a k q => by unfold mdX11_fault; first | omega | exact id))) (fun m r m' e => (MDX11_fault e).mono (fun a k q => by unfold mdX11_fault; first | omega | exact id)) (fun m r m' e => (MDX12_fault e).mono (fun a k q => by unfold mdX12_fault; first | omega | exact id))
set_option maxHeartbeats 4000000 in
theorem J_has (f : Nat) (hf : 4000 ≤ f) (a : Int32) : St1 JJ (FX11_has f a) (FX12_has f a) := St1_J (BothJ_of (B_has f (by omega) a) (fun m r m' e => (MDX11_has e).mono (fun a k q => by unfold mdX11_has; first | omega | exact id))) (fun m r m' e => (MDX11_has e).mono (fun a k q => by unfold mdX11_has; first | omega | exact id)) (fun m r m' e => (MDX12_has e).mono (fun a k q => by unfold mdX12_has; first | omega | exact id))
set_option maxHeartbeats 4000000 in
theorem J_letter (f : Nat) (hf : 4000 ≤ f) (a b : Int32) : St1 JJ (FX11_letter f a b) (FX12_letter f a b) := St1_J (BothJ_of (B_letter f (by omega) a b) (fun m r m' e => (MDX11_letter e).mono (fun a k q => by unfold mdX11_letter; first | omega | exact id))) (fun m r m' e => (MDX11_letter e).mono (fun a k q => by unfold mdX11_letter; first | omega | exact id)) (fun m r m' e => (MDX12_letter e).mono (fun a k q => by unfold mdX12_letter; first | omega | exact id))
set_option maxHeartbeats 4000000 in
theorem J_tower (f : Nat) (hf : 4000 ≤ f) (a b : Int32) : St1 JJ (FX11_tower f a b) (FX12_tower f a b) := St1_J (BothJ_of (B_tower f  a b) (fun m r m' e => (MDX11_tower e).mono (fun a k q => by unfold mdX11_tower; first | omega | exact id))) (fun m r m' e => (MDX11_tower e).mono (fun a k q => by unfold mdX11_tower; first | omega | exact id)) (fun m r m' e => (MDX12_tower e).mono (fun a k q => by unfold mdX12_tower; first | omega | exact id))
set_option maxHeartbeats 4000000 in
theorem J_kept (f : Nat) (hf : 4000 ≤ f) (a b : Int32) : St1 JJ (FX11_kept f a b) (FX12_kept f a b) := St1_J (BothJ_of (B_kept f  a b) (fun m r m' e => (MDX11_kept e).mono (fun a k q => by unfold mdX11_kept; first | omega | exact id))) (fun m r m' e => (MDX11_kept e).mono (fun a k q => by unfold mdX11_kept; first | omega | exact id)) (fun m r m' e => (MDX12_kept e).mono (fun a k q => by unfold mdX12_kept; first | omega | exact id))
set_option maxHeartbeats 4000000 in
theorem J_tone (f : Nat) (hf : 4000 ≤ f) (a b : Int32) : St1 JJ (FX11_tone f a b) (FX12_tone f a b) := St1_J (BothJ_of (B_tone f hf a b) (fun m r m' e => (MDX11_tone e).mono (fun a k q => by unfold mdX11_tone; first | omega | exact id))) (fun m r m' e => (MDX11_tone e).mono (fun a k q => by unfold mdX11_tone; first | omega | exact id)) (fun m r m' e => (MDX12_tone e).mono (fun a k q => by unfold mdX12_tone; first | omega | exact id))
set_option maxHeartbeats 4000000 in
theorem J_mood (f : Nat) (hf : 4000 ≤ f) (a b : Int32) : St1 JJ (FX11_mood f a b) (FX12_mood f a b) := St1_J (BothJ_of (B_mood f hf a b) (fun m r m' e => (MDX11_mood e).mono (fun a k q => by unfold mdX11_mood; first | omega | exact id))) (fun m r m' e => (MDX11_mood e).mono (fun a k q => by unfold mdX11_mood; first | omega | exact id)) (fun m r m' e => (MDX12_mood e).mono (fun a k q => by unfold mdX12_mood; first | omega | exact id))
set_option maxHeartbeats 4000000 in
theorem J_doubts (f : Nat) (hf : 4000 ≤ f) (a : Int32) : St1 JJ (FX11_doubts f a) (FX12_doubts f a) := St1_J (BothJ_of (B_doubts f hf a) (fun m r m' e => (MDX11_doubts e).mono (fun a k q => by unfold mdX11_doubts; first | omega | exact id))) (fun m r m' e => (MDX11_doubts e).mono (fun a k q => by unfold mdX11_doubts; first | omega | exact id)) (fun m r m' e => (MDX12_doubts e).mono (fun a k q => by unfold mdX12_doubts; first | omega | exact id))
set_option maxHeartbeats 4000000 in
theorem J_fire (f : Nat) (hf : 4000 ≤ f) : St1 JJ (FX11_fire f) (FX12_fire f) := St1_J (BothJ_of (B_fire f hf ) (fun m r m' e => (MDX11_fire e).mono (fun a k q => by unfold mdX11_fire; first | omega | exact id))) (fun m r m' e => (MDX11_fire e).mono (fun a k q => by unfold mdX11_fire; first | omega | exact id)) (fun m r m' e => (MDX12_fire e).mono (fun a k q => by unfold mdX12_fire; first | omega | exact id))
set_option maxHeartbeats 4000000 in
theorem J_settles (f : Nat) (hf : 4000 ≤ f) (a : Int32) : St1 JJ (FX11_settles f a) (FX12_settles f a) := St1_J (BothJ_of (B_settles f hf a) (fun m r m' e => (MDX11_settles e).mono (fun a k q => by unfold mdX11_settles; first | omega | exact id))) (fun m r m' e => (MDX11_settles e).mono (fun a k q => by unfold mdX11_settles; first | omega | exact id)) (fun m r m' e => (MDX12_settles e).mono (fun a k q => by unfold mdX12_settles; first | omega | exact id))
set_option maxHeartbeats 4000000 in
theorem J_cheered (f : Nat) (hf : 4000 ≤ f) (a : Int32) : St1 JJ (FX11_cheered f a) (FX12_cheered f a) := St1_J (BothJ_of (B_cheered f hf a) (fun m r m' e => (MDX11_cheered e).mono (fun a k q => by unfold mdX11_cheered; first | omega | exact id))) (fun m r m' e => (MDX11_cheered e).mono (fun a k q => by unfold mdX11_cheered; first | omega | exact id)) (fun m r m' e => (MDX12_cheered e).mono (fun a k q => by unfold mdX12_cheered; first | omega | exact id))
set_option maxHeartbeats 4000000 in
theorem J_sighs (f : Nat) (hf : 4000 ≤ f) (a : Int32) : St1 JJ (FX11_sighs f a) (FX12_sighs f a) := St1_J (BothJ_of (B_sighs f hf a) (fun m r m' e => (MDX11_sighs e).mono (fun a k q => by unfold mdX11_sighs; first | omega | exact id))) (fun m r m' e => (MDX11_sighs e).mono (fun a k q => by unfold mdX11_sighs; first | omega | exact id)) (fun m r m' e => (MDX12_sighs e).mono (fun a k q => by unfold mdX12_sighs; first | omega | exact id))
set_option maxHeartbeats 4000000 in
theorem J_better (f : Nat) (hf : 4000 ≤ f) (a b : Int32) : St1 JJ (FX11_better f a b) (FX12_better f a b) := St1_J (BothJ_of (B_better f hf a b) (fun m r m' e => (MDX11_better e).mono (fun a k q => by unfold mdX11_better; first | omega | exact id))) (fun m r m' e => (MDX11_better e).mono (fun a k q => by unfold mdX11_better; first | omega | exact id)) (fun m r m' e => (MDX12_better e).mono (fun a k q => by unfold mdX12_better; first | omega | exact id))
set_option maxHeartbeats 4000000 in
theorem J_placed (f : Nat) (hf : 4000 ≤ f) (a b : Int32) : St1 JJ (FX11_placed f a b) (FX12_placed f a b) := St1_J (BothJ_of (B_placed f hf a b) (fun m r m' e => (MDX11_placed e).mono (fun a k q => by unfold mdX11_placed; first | omega | exact id))) (fun m r m' e => (MDX11_placed e).mono (fun a k q => by unfold mdX11_placed; first | omega | exact id)) (fun m r m' e => (MDX12_placed e).mono (fun a k q => by unfold mdX12_placed; first | omega | exact id))
set_option maxHeartbeats 4000000 in
theorem J_game (f : Nat) (hf : 4000 ≤ f) (a : Int32) : St1 JJ (FX11_game f a) (FX12_game f a) := St1_J (BothJ_of (B_game f hf a) (fun m r m' e => (MDX11_game e).mono (fun a k q => by unfold mdX11_game; first | omega | exact id))) (fun m r m' e => (MDX11_game e).mono (fun a k q => by unfold mdX11_game; first | omega | exact id)) (fun m r m' e => (MDX12_game e).mono (fun a k q => by unfold mdX12_game; first | omega | exact id))
set_option maxHeartbeats 4000000 in
theorem J_rule (f : Nat) (hf : 4000 ≤ f) (a b : Int32) : St1 JJ (FX11_rule f a b) (FX12_rule f a b) := St1_J (BothJ_of (B_rule f hf a b) (fun m r m' e => (MDX11_rule e).mono (fun a k q => by unfold mdX11_rule; first | omega | exact id))) (fun m r m' e => (MDX11_rule e).mono (fun a k q => by unfold mdX11_rule; first | omega | exact id)) (fun m r m' e => (MDX12_rule e).mono (fun a k q => by unfold mdX12_rule; first | omega | exact id))
set_option maxHeartbeats 4000000 in
theorem J_see (f : Nat) (hf : 4000 ≤ f) : St1 JJ (FX11_see f) (FX12_see f) := St1_J (BothJ_of (B_see f hf ) (fun m r m' e => (MDX11_see e).mono (fun a k q => by unfold mdX11_see; first | omega | exact id))) (fun m r m' e => (MDX11_see e).mono (fun a k q => by unfold mdX11_see; first | omega | exact id)) (fun m r m' e => (MDX12_see e).mono (fun a k q => by unfold mdX12_see; first | omega | exact id))
set_option maxHeartbeats 4000000 in
theorem J_moods (f : Nat) (hf : 4000 ≤ f) (a : Int32) : St1 JJ (FX11_moods f a) (FX12_moods f a) := St1_J (BothJ_of (B_moods f hf a) (fun m r m' e => (MDX11_moods e).mono (fun a k q => by unfold mdX11_moods; first | omega | exact id))) (fun m r m' e => (MDX11_moods e).mono (fun a k q => by unfold mdX11_moods; first | omega | exact id)) (fun m r m' e => (MDX12_moods e).mono (fun a k q => by unfold mdX12_moods; first | omega | exact id))
set_option maxHeartbeats 4000000 in
theorem J_tells (f : Nat) (hf : 4000 ≤ f) (a b : Int32) : St1 JJ (FX11_tells f a b) (FX12_tells f a b) := St1_J (BothJ_of (B_tells f hf a b) (fun m r m' e => (MDX11_tells e).mono (fun a k q => by unfold mdX11_tells; first | omega | exact id))) (fun m r m' e => (MDX11_tells e).mono (fun a k q => by unfold mdX11_tells; first | omega | exact id)) (fun m r m' e => (MDX12_tells e).mono (fun a k q => by unfold mdX12_tells; first | omega | exact id))
set_option maxHeartbeats 4000000 in
theorem J_cheer (f : Nat) (hf : 4000 ≤ f) (a b : Int32) : St1 JJ (FX11_cheer f a b) (FX12_cheer f a b) := St1_J (BothJ_of (B_cheer f hf a b) (fun m r m' e => (MDX11_cheer e).mono (fun a k q => by unfold mdX11_cheer; first | omega | exact id))) (fun m r m' e => (MDX11_cheer e).mono (fun a k q => by unfold mdX11_cheer; first | omega | exact id)) (fun m r m' e => (MDX12_cheer e).mono (fun a k q => by unfold mdX12_cheer; first | omega | exact id))
set_option maxHeartbeats 4000000 in
theorem J_yes (f : Nat) (hf : 4000 ≤ f) (a b : Int32) : St1 JJ (FX11_yes f a b) (FX12_yes f a b) := St1_J (BothJ_of (B_yes f hf a b) (fun m r m' e => (MDX11_yes e).mono (fun a k q => by unfold mdX11_yes; first | omega | exact id))) (fun m r m' e => (MDX11_yes e).mono (fun a k q => by unfold mdX11_yes; first | omega | exact id)) (fun m r m' e => (MDX12_yes e).mono (fun a k q => by unfold mdX12_yes; first | omega | exact id))
set_option maxHeartbeats 4000000 in
theorem J_change (f : Nat) (hf : 4000 ≤ f) (a b : Int32) : St1 JJ (FX11_change f a b) (FX12_change f a b) := St1_J (BothJ_of (B_change f hf a b) (fun m r m' e => (MDX11_change e).mono (fun a k q => by unfold mdX11_change; first | omega | exact id))) (fun m r m' e => (MDX11_change e).mono (fun a k q => by unfold mdX11_change; first | omega | exact id)) (fun m r m' e => (MDX12_change e).mono (fun a k q => by unfold mdX12_change; first | omega | exact id))
set_option maxHeartbeats 4000000 in
theorem J_rounds (f : Nat) (hf : 4000 ≤ f) (a : Int32) : St1 JJ (FX11_rounds f a) (FX12_rounds f a) := St1_J (BothJ_of (B_rounds f hf a) (fun m r m' e => (MDX11_rounds e).mono (fun a k q => by unfold mdX11_rounds; first | omega | exact id))) (fun m r m' e => (MDX11_rounds e).mono (fun a k q => by unfold mdX11_rounds; first | omega | exact id)) (fun m r m' e => (MDX12_rounds e).mono (fun a k q => by unfold mdX12_rounds; first | omega | exact id))
set_option maxHeartbeats 4000000 in
theorem J_chance (f : Nat) (hf : 4000 ≤ f) (a : Int32) : St1 JJ (FX11_chance f a) (FX12_chance f a) := St1_J (BothJ_of (B_chance f hf a) (fun m r m' e => (MDX11_chance e).mono (fun a k q => by unfold mdX11_chance; first | omega | exact id))) (fun m r m' e => (MDX11_chance e).mono (fun a k q => by unfold mdX11_chance; first | omega | exact id)) (fun m r m' e => (MDX12_chance e).mono (fun a k q => by unfold mdX12_chance; first | omega | exact id))
set_option maxHeartbeats 4000000 in
theorem J_undo (f : Nat) (hf : 4000 ≤ f) : St1 JJ (FX11_undo f) (FX12_undo f) := St1_J (BothJ_of (B_undo f hf ) (fun m r m' e => (MDX11_undo e).mono (fun a k q => by unfold mdX11_undo; first | omega | exact id))) (fun m r m' e => (MDX11_undo e).mono (fun a k q => by unfold mdX11_undo; first | omega | exact id)) (fun m r m' e => (MDX12_undo e).mono (fun a k q => by unfold mdX12_undo; first | omega | exact id))
set_option maxHeartbeats 4000000 in
theorem J_seed (f : Nat) (hf : 4000 ≤ f) (a : Int32) : St1 JJ (FX11_seed f a) (FX12_seed f a) := St1_J (BothJ_of (B_seed f  a) (fun m r m' e => (MDX11_seed e).mono (fun a k q => by unfold mdX11_seed; first | omega | exact id))) (fun m r m' e => (MDX11_seed e).mono (fun a k q => by unfold mdX11_seed; first | omega | exact id)) (fun m r m' e => (MDX12_seed e).mono (fun a k q => by unfold mdX12_seed; first | omega | exact id))
set_option maxHeartbeats 4000000 in
theorem J_ask (f : Nat) (hf : 4000 ≤ f) : St1 JJ (FX11_ask f) (FX12_ask f) := St1_J (fun mc mm hS hW g1 g7 => by
  obtain ⟨r, mc', mm', e1, e2, S'⟩ := B_ask f hf mc mm hS hW
  have f1 : frP (fun a _ => a = 3 ∨ a = 4 ∨ a = 9 ∨ a = 10) mc mc' := (MDX11_ask e1).mono (fun a k q => by unfold mdX11_ask; omega)
  exact ⟨r, mc', mm', e1, e2, S', CGo_fr g1 (fun a k q1 q2 => (f1 a k (by omega)).1), CGo_fr g7 (fun a k q1 q2 => (f1 a k (by omega)).1)⟩) (fun m r m' e => (MDX11_ask e).mono (fun a k q => by unfold mdX11_ask; first | omega | exact id)) (fun m r m' e => (MDX12_ask e).mono (fun a k q => by unfold mdX12_ask; first | omega | exact id))
set_option maxHeartbeats 4000000 in
theorem J_image (f : Nat) (hf : 4000 ≤ f) : St1 JJ (FX11_image f) (FX12_image f) := St1_J (BothJ_of (B_image f hf ) (fun m r m' e => (MDX11_image e).mono (fun a k q => by unfold mdX11_image; first | omega | exact id))) (fun m r m' e => (MDX11_image e).mono (fun a k q => by unfold mdX11_image; first | omega | exact id)) (fun m r m' e => (MDX12_image e).mono (fun a k q => by unfold mdX12_image; first | omega | exact id))
set_option maxHeartbeats 4000000 in
theorem J_octet (f : Nat) (hf : 4000 ≤ f) (a : Int32) : St1 JJ (FX11_octet f a) (FX12_octet f a) := St1_J (BothJ_of (B_octet f  a) (fun m r m' e => (MDX11_octet e).mono (fun a k q => by unfold mdX11_octet; first | omega | exact id))) (fun m r m' e => (MDX11_octet e).mono (fun a k q => by unfold mdX11_octet; first | omega | exact id)) (fun m r m' e => (MDX12_octet e).mono (fun a k q => by unfold mdX12_octet; first | omega | exact id))
set_option maxHeartbeats 4000000 in
theorem J_on (f : Nat) (hf : 4000 ≤ f) : St1 JJ (FX11_on f) (FX12_on f) := St1_J (BothJ_of (B_on f hf ) (fun m r m' e => (MDX11_on e).mono (fun a k q => by unfold mdX11_on; first | omega | exact id))) (fun m r m' e => (MDX11_on e).mono (fun a k q => by unfold mdX11_on; first | omega | exact id)) (fun m r m' e => (MDX12_on e).mono (fun a k q => by unfold mdX12_on; first | omega | exact id))
set_option maxHeartbeats 4000000 in
theorem J_status (f : Nat) (hf : 4000 ≤ f) (a : Int32) : St1 JJ (FX11_status f a) (FX12_status f a) := St1_J (BothJ_of (B_status f  a) (fun m r m' e => (MDX11_status e).mono (fun a k q => by unfold mdX11_status; first | omega | exact id))) (fun m r m' e => (MDX11_status e).mono (fun a k q => by unfold mdX11_status; first | omega | exact id)) (fun m r m' e => (MDX12_status e).mono (fun a k q => by unfold mdX12_status; first | omega | exact id))
theorem steps_all (f : Nat) (hf : 4000 ≤ f) : Steps34 f JJ := ⟨J_feed f hf, J_end f hf, J_castle f hf, J_fault f hf, J_has f hf, J_letter f hf, J_tower f hf, J_kept f hf, J_tone f hf, J_mood f hf, J_doubts f hf, J_fire f hf, J_settles f hf, J_cheered f hf, J_sighs f hf, J_better f hf, J_placed f hf, J_game f hf, J_rule f hf, J_see f hf, J_moods f hf, J_tells f hf, J_cheer f hf, J_yes f hf, J_change f hf, J_rounds f hf, J_chance f hf, J_undo f hf, J_seed f hf, J_ask f hf, J_image f hf, J_octet f hf, J_on f hf, J_status f hf⟩
