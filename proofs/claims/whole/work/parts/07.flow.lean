section EvFlow
variable {l : Launch} {Ln : Nat} {xs : Nat → Int32} {Y : ev_Y} {d kc ks pc : Nat} {ls : List (Option Value)} {st : List Value} {S : ev_S} {m : ev_M} {P : Option Value → ev_S → ev_M → Prop}
theorem Wk.if_eq {x : Int32} {off : Int} {tgt : Nat} (hd : decode Y.2.1 pc = .ok (.ifCond .eq off, 3)) (ht : (pc : Int) + off = (tgt : Int)) (kt : x = 0 → Wk l Ln xs Y d kc ks tgt ls st S m P) (kf : ¬ x = 0 → Wk l Ln xs Y d kc ks (pc + 3) ls st S m P) : Wk l Ln xs Y d kc ks pc ls (.int x :: st) S m P := by
  intro D cA base ext p e R s mi args below meth c H locs cells slots als hC h1 h2 h3 h4 hR hF hL
  exact lv_if_eq hC.1 hC.2.1 hd ht (fun q => (kt q D cA base ext p e R s mi args below meth c H locs cells slots als hC h1 h2 h3 h4 hR hF hL)) (fun q => (kf q D cA base ext p e R s mi args below meth c H locs cells slots als hC h1 h2 h3 h4 hR hF hL))
theorem Wk.ic_eq {x y : Int32} {off : Int} {tgt : Nat} (hd : decode Y.2.1 pc = .ok (.if_icmp .eq off, 3)) (ht : (pc : Int) + off = (tgt : Int)) (kt : x = y → Wk l Ln xs Y d kc ks tgt ls st S m P) (kf : ¬ x = y → Wk l Ln xs Y d kc ks (pc + 3) ls st S m P) : Wk l Ln xs Y d kc ks pc ls (.int y :: .int x :: st) S m P := by
  intro D cA base ext p e R s mi args below meth c H locs cells slots als hC h1 h2 h3 h4 hR hF hL
  exact lv_icmp_eq hC.1 hC.2.1 hd ht (fun q => (kt q D cA base ext p e R s mi args below meth c H locs cells slots als hC h1 h2 h3 h4 hR hF hL)) (fun q => (kf q D cA base ext p e R s mi args below meth c H locs cells slots als hC h1 h2 h3 h4 hR hF hL))
theorem Wk.if_ne {x : Int32} {off : Int} {tgt : Nat} (hd : decode Y.2.1 pc = .ok (.ifCond .ne off, 3)) (ht : (pc : Int) + off = (tgt : Int)) (kt : ¬ x = 0 → Wk l Ln xs Y d kc ks tgt ls st S m P) (kf : x = 0 → Wk l Ln xs Y d kc ks (pc + 3) ls st S m P) : Wk l Ln xs Y d kc ks pc ls (.int x :: st) S m P := by
  intro D cA base ext p e R s mi args below meth c H locs cells slots als hC h1 h2 h3 h4 hR hF hL
  exact lv_if_ne hC.1 hC.2.1 hd ht (fun q => (kt q D cA base ext p e R s mi args below meth c H locs cells slots als hC h1 h2 h3 h4 hR hF hL)) (fun q => (kf q D cA base ext p e R s mi args below meth c H locs cells slots als hC h1 h2 h3 h4 hR hF hL))
theorem Wk.ic_ne {x y : Int32} {off : Int} {tgt : Nat} (hd : decode Y.2.1 pc = .ok (.if_icmp .ne off, 3)) (ht : (pc : Int) + off = (tgt : Int)) (kt : ¬ x = y → Wk l Ln xs Y d kc ks tgt ls st S m P) (kf : x = y → Wk l Ln xs Y d kc ks (pc + 3) ls st S m P) : Wk l Ln xs Y d kc ks pc ls (.int y :: .int x :: st) S m P := by
  intro D cA base ext p e R s mi args below meth c H locs cells slots als hC h1 h2 h3 h4 hR hF hL
  exact lv_icmp_ne hC.1 hC.2.1 hd ht (fun q => (kt q D cA base ext p e R s mi args below meth c H locs cells slots als hC h1 h2 h3 h4 hR hF hL)) (fun q => (kf q D cA base ext p e R s mi args below meth c H locs cells slots als hC h1 h2 h3 h4 hR hF hL))
theorem Wk.if_lt {x : Int32} {off : Int} {tgt : Nat} (hd : decode Y.2.1 pc = .ok (.ifCond .lt off, 3)) (ht : (pc : Int) + off = (tgt : Int)) (kt : x < 0 → Wk l Ln xs Y d kc ks tgt ls st S m P) (kf : ¬ x < 0 → Wk l Ln xs Y d kc ks (pc + 3) ls st S m P) : Wk l Ln xs Y d kc ks pc ls (.int x :: st) S m P := by
  intro D cA base ext p e R s mi args below meth c H locs cells slots als hC h1 h2 h3 h4 hR hF hL
  exact lv_if_lt hC.1 hC.2.1 hd ht (fun q => (kt q D cA base ext p e R s mi args below meth c H locs cells slots als hC h1 h2 h3 h4 hR hF hL)) (fun q => (kf q D cA base ext p e R s mi args below meth c H locs cells slots als hC h1 h2 h3 h4 hR hF hL))
theorem Wk.ic_lt {x y : Int32} {off : Int} {tgt : Nat} (hd : decode Y.2.1 pc = .ok (.if_icmp .lt off, 3)) (ht : (pc : Int) + off = (tgt : Int)) (kt : x < y → Wk l Ln xs Y d kc ks tgt ls st S m P) (kf : ¬ x < y → Wk l Ln xs Y d kc ks (pc + 3) ls st S m P) : Wk l Ln xs Y d kc ks pc ls (.int y :: .int x :: st) S m P := by
  intro D cA base ext p e R s mi args below meth c H locs cells slots als hC h1 h2 h3 h4 hR hF hL
  exact lv_icmp_lt hC.1 hC.2.1 hd ht (fun q => (kt q D cA base ext p e R s mi args below meth c H locs cells slots als hC h1 h2 h3 h4 hR hF hL)) (fun q => (kf q D cA base ext p e R s mi args below meth c H locs cells slots als hC h1 h2 h3 h4 hR hF hL))
theorem Wk.if_ge {x : Int32} {off : Int} {tgt : Nat} (hd : decode Y.2.1 pc = .ok (.ifCond .ge off, 3)) (ht : (pc : Int) + off = (tgt : Int)) (kt : 0 ≤ x → Wk l Ln xs Y d kc ks tgt ls st S m P) (kf : ¬ 0 ≤ x → Wk l Ln xs Y d kc ks (pc + 3) ls st S m P) : Wk l Ln xs Y d kc ks pc ls (.int x :: st) S m P := by
  intro D cA base ext p e R s mi args below meth c H locs cells slots als hC h1 h2 h3 h4 hR hF hL
  exact lv_if_ge hC.1 hC.2.1 hd ht (fun q => (kt q D cA base ext p e R s mi args below meth c H locs cells slots als hC h1 h2 h3 h4 hR hF hL)) (fun q => (kf q D cA base ext p e R s mi args below meth c H locs cells slots als hC h1 h2 h3 h4 hR hF hL))
theorem Wk.ic_ge {x y : Int32} {off : Int} {tgt : Nat} (hd : decode Y.2.1 pc = .ok (.if_icmp .ge off, 3)) (ht : (pc : Int) + off = (tgt : Int)) (kt : y ≤ x → Wk l Ln xs Y d kc ks tgt ls st S m P) (kf : ¬ y ≤ x → Wk l Ln xs Y d kc ks (pc + 3) ls st S m P) : Wk l Ln xs Y d kc ks pc ls (.int y :: .int x :: st) S m P := by
  intro D cA base ext p e R s mi args below meth c H locs cells slots als hC h1 h2 h3 h4 hR hF hL
  exact lv_icmp_ge hC.1 hC.2.1 hd ht (fun q => (kt q D cA base ext p e R s mi args below meth c H locs cells slots als hC h1 h2 h3 h4 hR hF hL)) (fun q => (kf q D cA base ext p e R s mi args below meth c H locs cells slots als hC h1 h2 h3 h4 hR hF hL))
theorem Wk.if_gt {x : Int32} {off : Int} {tgt : Nat} (hd : decode Y.2.1 pc = .ok (.ifCond .gt off, 3)) (ht : (pc : Int) + off = (tgt : Int)) (kt : 0 < x → Wk l Ln xs Y d kc ks tgt ls st S m P) (kf : ¬ 0 < x → Wk l Ln xs Y d kc ks (pc + 3) ls st S m P) : Wk l Ln xs Y d kc ks pc ls (.int x :: st) S m P := by
  intro D cA base ext p e R s mi args below meth c H locs cells slots als hC h1 h2 h3 h4 hR hF hL
  exact lv_if_gt hC.1 hC.2.1 hd ht (fun q => (kt q D cA base ext p e R s mi args below meth c H locs cells slots als hC h1 h2 h3 h4 hR hF hL)) (fun q => (kf q D cA base ext p e R s mi args below meth c H locs cells slots als hC h1 h2 h3 h4 hR hF hL))
theorem Wk.ic_gt {x y : Int32} {off : Int} {tgt : Nat} (hd : decode Y.2.1 pc = .ok (.if_icmp .gt off, 3)) (ht : (pc : Int) + off = (tgt : Int)) (kt : y < x → Wk l Ln xs Y d kc ks tgt ls st S m P) (kf : ¬ y < x → Wk l Ln xs Y d kc ks (pc + 3) ls st S m P) : Wk l Ln xs Y d kc ks pc ls (.int y :: .int x :: st) S m P := by
  intro D cA base ext p e R s mi args below meth c H locs cells slots als hC h1 h2 h3 h4 hR hF hL
  exact lv_icmp_gt hC.1 hC.2.1 hd ht (fun q => (kt q D cA base ext p e R s mi args below meth c H locs cells slots als hC h1 h2 h3 h4 hR hF hL)) (fun q => (kf q D cA base ext p e R s mi args below meth c H locs cells slots als hC h1 h2 h3 h4 hR hF hL))
theorem Wk.if_le {x : Int32} {off : Int} {tgt : Nat} (hd : decode Y.2.1 pc = .ok (.ifCond .le off, 3)) (ht : (pc : Int) + off = (tgt : Int)) (kt : x ≤ 0 → Wk l Ln xs Y d kc ks tgt ls st S m P) (kf : ¬ x ≤ 0 → Wk l Ln xs Y d kc ks (pc + 3) ls st S m P) : Wk l Ln xs Y d kc ks pc ls (.int x :: st) S m P := by
  intro D cA base ext p e R s mi args below meth c H locs cells slots als hC h1 h2 h3 h4 hR hF hL
  exact lv_if_le hC.1 hC.2.1 hd ht (fun q => (kt q D cA base ext p e R s mi args below meth c H locs cells slots als hC h1 h2 h3 h4 hR hF hL)) (fun q => (kf q D cA base ext p e R s mi args below meth c H locs cells slots als hC h1 h2 h3 h4 hR hF hL))
theorem Wk.ic_le {x y : Int32} {off : Int} {tgt : Nat} (hd : decode Y.2.1 pc = .ok (.if_icmp .le off, 3)) (ht : (pc : Int) + off = (tgt : Int)) (kt : x ≤ y → Wk l Ln xs Y d kc ks tgt ls st S m P) (kf : ¬ x ≤ y → Wk l Ln xs Y d kc ks (pc + 3) ls st S m P) : Wk l Ln xs Y d kc ks pc ls (.int y :: .int x :: st) S m P := by
  intro D cA base ext p e R s mi args below meth c H locs cells slots als hC h1 h2 h3 h4 hR hF hL
  exact lv_icmp_le hC.1 hC.2.1 hd ht (fun q => (kt q D cA base ext p e R s mi args below meth c H locs cells slots als hC h1 h2 h3 h4 hR hF hL)) (fun q => (kf q D cA base ext p e R s mi args below meth c H locs cells slots als hC h1 h2 h3 h4 hR hF hL))
theorem Wk.gto {off : Int} {tgt : Nat} (hd : decode Y.2.1 pc = .ok (.goto off, 3)) (ht : (pc : Int) + off = (tgt : Int)) (kk : Wk l Ln xs Y d kc ks tgt ls st S m P) : Wk l Ln xs Y d kc ks pc ls st S m P := by
  intro D cA base ext p e R s mi args below meth c H locs cells slots als hC h1 h2 h3 h4 hR hF hL
  exact lv_goto hC.1 hC.2.1 hd ht (kk D cA base ext p e R s mi args below meth c H locs cells slots als hC h1 h2 h3 h4 hR hF hL)
theorem Wk.idiv {x y : Int32} (hd : decode Y.2.1 pc = .ok (.idiv, 1)) (hy : ¬ y = 0) (kk : Wk l Ln xs Y d kc ks (pc + 1) ls (.int (x / y) :: st) S m P) : Wk l Ln xs Y d kc ks pc ls (.int y :: .int x :: st) S m P := by
  intro D cA base ext p e R s mi args below meth c H locs cells slots als hC h1 h2 h3 h4 hR hF hL
  exact lv_idiv hC.1 hC.2.1 hd hy (kk D cA base ext p e R s mi args below meth c H locs cells slots als hC h1 h2 h3 h4 hR hF hL)
theorem Wk.irem {x y : Int32} (hd : decode Y.2.1 pc = .ok (.irem, 1)) (hy : ¬ y = 0) (kk : Wk l Ln xs Y d kc ks (pc + 1) ls (.int (x - x / y * y) :: st) S m P) : Wk l Ln xs Y d kc ks pc ls (.int y :: .int x :: st) S m P := by
  intro D cA base ext p e R s mi args below meth c H locs cells slots als hC h1 h2 h3 h4 hR hF hL
  exact lv_irem hC.1 hC.2.1 hd hy (kk D cA base ext p e R s mi args below meth c H locs cells slots als hC h1 h2 h3 h4 hR hF hL)
theorem Wk.ldiv {x y : Int64} (hd : decode Y.2.1 pc = .ok (.ldiv, 1)) (hy : ¬ y = 0) (kk : Wk l Ln xs Y d kc ks (pc + 1) ls (.long (x / y) :: st) S m P) : Wk l Ln xs Y d kc ks pc ls (.long y :: .long x :: st) S m P := by
  intro D cA base ext p e R s mi args below meth c H locs cells slots als hC h1 h2 h3 h4 hR hF hL
  exact lv_ldiv hC.1 hC.2.1 hd hy (kk D cA base ext p e R s mi args below meth c H locs cells slots als hC h1 h2 h3 h4 hR hF hL)
theorem Wk.lrem {x y : Int64} (hd : decode Y.2.1 pc = .ok (.lrem, 1)) (hy : ¬ y = 0) (kk : Wk l Ln xs Y d kc ks (pc + 1) ls (.long (x - x / y * y) :: st) S m P) : Wk l Ln xs Y d kc ks pc ls (.long y :: .long x :: st) S m P := by
  intro D cA base ext p e R s mi args below meth c H locs cells slots als hC h1 h2 h3 h4 hR hF hL
  exact lv_lrem hC.1 hC.2.1 hd hy (kk D cA base ext p e R s mi args below meth c H locs cells slots als hC h1 h2 h3 h4 hR hF hL)
abbrev ev_in (i : Int32) (n : Nat) : Prop := 0 ≤ i ∧ i.toNatClampNeg < n
theorem ev_in_vp {i : Int32} {n : Nat} (h : ev_in i n) : vp_in i n := by
  intro q
  rcases q with q | q
  · exact absurd h.1 (Int32.not_le.mpr q)
  · exact absurd h.2 (Nat.not_lt.mpr q)
theorem ev_ent_i {cA : Nat → ClassId} {al : Nat → Nat} {S : ev_S} {m : ev_M} {a n : Nat} (h : S.2.1 a = (100, n)) : ev_ent cA al S m a = .inl (cA 0, n, .inl (m.1 a)) := by
  unfold ev_ent; rw [h]; rfl
theorem ev_ent_c {cA : Nat → ClassId} {al : Nat → Nat} {S : ev_S} {m : ev_M} {a n : Nat} (h : S.2.1 a = (101, n)) : ev_ent cA al S m a = .inl (cA 1, n, .inl (m.1 a)) := by
  unfold ev_ent; rw [h]; rfl
theorem ev_ent_l {cA : Nat → ClassId} {al : Nat → Nat} {S : ev_S} {m : ev_M} {a n : Nat} (h : S.2.1 a = (102, n)) : ev_ent cA al S m a = .inl (cA 2, n, .inr (.inl (m.2 a))) := by
  unfold ev_ent; rw [h]; rfl
theorem ev_ent_z {cA : Nat → ClassId} {al : Nat → Nat} {S : ev_S} {m : ev_M} {a n : Nat} (h : S.2.1 a = (103, n)) : ev_ent cA al S m a = .inl (cA 3, n, .inl (m.1 a)) := by
  unfold ev_ent; rw [h]; rfl
theorem ev_ent_a {cA : Nat → ClassId} {al : Nat → Nat} {S : ev_S} {m : ev_M} {a n : Nat} (h : S.2.1 a = (104, n)) : ev_ent cA al S m a = .inl (cA 4, n, .inr (.inr (.inr (.inr (fun k => (S.2.2 a k).map al))))) := by
  unfold ev_ent; rw [h]; rfl
theorem ev_one {D : va_G} {x : Nat × va_E} {H : Heap} (h : va_at D vwCl x H) : va_P D vwCl [x] H := by
  intro j y hj
  cases j with
  | zero => cases hj; exact h
  | succ j => simp at hj
theorem ev_ref {base : Nat} {ext : Nat → Nat} {a : Nat} {t : List Value} : List.map (ev_v (ev_al base ext)) (.ref a :: t) = .ref (ev_al base ext a) :: t.map (ev_v (ev_al base ext)) := rfl
theorem Wk.iald {a n : Nat} {i : Int32} (hd : decode Y.2.1 pc = .ok (.iaload, 1)) (ha : a < S.1) (hs : S.2.1 a = (100, n)) (hi : ev_in i n) (kk : Wk l Ln xs Y d kc ks (pc + 1) ls (.int (m.1 a i.toNatClampNeg) :: st) S m P) : Wk l Ln xs Y d kc ks pc ls (.int i :: .ref a :: st) S m P := by
  intro D cA base ext p e R s mi args below meth c H locs cells slots als hC h1 h2 h3 h4 hR hF hL
  have hat := hR.2.2 a ha
  rw [ev_ent_i hs] at hat
  rw [List.map_cons, ev_ref, hR.lt ha]
  exact va_iald (ws := [(base + a, .inl (cA 0, n, .inl (m.1 a)))]) hC.1 hC.2.1 hC.2.2.2.2.2.2.2.2.1 (ev_one hat) 0 0 rfl rfl (ev_in_vp hi) hd (kk D cA base ext p e R s mi args below meth c H locs cells slots als hC h1 h2 h3 h4 hR hF hL)
theorem Wk.cald {a n : Nat} {i : Int32} (hd : decode Y.2.1 pc = .ok (.caload, 1)) (ha : a < S.1) (hs : S.2.1 a = (101, n)) (hi : ev_in i n) (kk : Wk l Ln xs Y d kc ks (pc + 1) ls (.int (m.1 a i.toNatClampNeg) :: st) S m P) : Wk l Ln xs Y d kc ks pc ls (.int i :: .ref a :: st) S m P := by
  intro D cA base ext p e R s mi args below meth c H locs cells slots als hC h1 h2 h3 h4 hR hF hL
  have hat := hR.2.2 a ha
  rw [ev_ent_c hs] at hat
  rw [List.map_cons, ev_ref, hR.lt ha]
  exact va_cald (ws := [(base + a, .inl (cA 1, n, .inl (m.1 a)))]) hC.1 hC.2.1 hC.2.2.2.2.2.2.2.2.1 (ev_one hat) 0 1 rfl rfl (ev_in_vp hi) hd (kk D cA base ext p e R s mi args below meth c H locs cells slots als hC h1 h2 h3 h4 hR hF hL)
theorem Wk.zald {a n : Nat} {i : Int32} (hd : decode Y.2.1 pc = .ok (.baload, 1)) (ha : a < S.1) (hs : S.2.1 a = (103, n)) (hi : ev_in i n) (kk : Wk l Ln xs Y d kc ks (pc + 1) ls (.int (m.1 a i.toNatClampNeg) :: st) S m P) : Wk l Ln xs Y d kc ks pc ls (.int i :: .ref a :: st) S m P := by
  intro D cA base ext p e R s mi args below meth c H locs cells slots als hC h1 h2 h3 h4 hR hF hL
  have hat := hR.2.2 a ha
  rw [ev_ent_z hs] at hat
  rw [List.map_cons, ev_ref, hR.lt ha]
  exact va_zald (ws := [(base + a, .inl (cA 3, n, .inl (m.1 a)))]) hC.1 hC.2.1 hC.2.2.2.2.2.2.2.2.1 (ev_one hat) 0 3 rfl rfl (ev_in_vp hi) hd (kk D cA base ext p e R s mi args below meth c H locs cells slots als hC h1 h2 h3 h4 hR hF hL)
theorem Wk.lald {a n : Nat} {i : Int32} (hd : decode Y.2.1 pc = .ok (.laload, 1)) (ha : a < S.1) (hs : S.2.1 a = (102, n)) (hi : ev_in i n) (kk : Wk l Ln xs Y d kc ks (pc + 1) ls (.long (m.2 a i.toNatClampNeg) :: st) S m P) : Wk l Ln xs Y d kc ks pc ls (.int i :: .ref a :: st) S m P := by
  intro D cA base ext p e R s mi args below meth c H locs cells slots als hC h1 h2 h3 h4 hR hF hL
  have hat := hR.2.2 a ha
  rw [ev_ent_l hs] at hat
  rw [List.map_cons, ev_ref, hR.lt ha]
  exact va_lald (ws := [(base + a, .inl (cA 2, n, .inr (.inl (m.2 a))))]) hC.1 hC.2.1 hC.2.2.2.2.2.2.2.2.1 (ev_one hat) 0 2 rfl rfl (ev_in_vp hi) hd (kk D cA base ext p e R s mi args below meth c H locs cells slots als hC h1 h2 h3 h4 hR hF hL)
theorem Wk.aald {a n b : Nat} {i : Int32} (hd : decode Y.2.1 pc = .ok (.aaload, 1)) (ha : a < S.1) (hs : S.2.1 a = (104, n)) (hi : ev_in i n) (hb : S.2.2 a i.toNatClampNeg = some b) (kk : Wk l Ln xs Y d kc ks (pc + 1) ls (.ref b :: st) S m P) : Wk l Ln xs Y d kc ks pc ls (.int i :: .ref a :: st) S m P := by
  intro D cA base ext p e R s mi args below meth c H locs cells slots als hC h1 h2 h3 h4 hR hF hL
  have hat := hR.2.2 a ha
  rw [ev_ent_a hs] at hat
  rw [List.map_cons, ev_ref, hR.lt ha]
  refine va_aldq (C := "AllIsWell$State") (ws := [(base + a, .inl (cA 4, n, .inr (.inr (.inr (.inr (fun k => (S.2.2 a k).map (ev_al base ext)))))))]) hC.1 hC.2.1 hC.2.2.2.2.2.2.2.2.1 (ev_one hat) 0 4 rfl rfl (ev_in_vp hi) hd ?_
  rw [hb]
  exact (kk D cA base ext p e R s mi args below meth c H locs cells slots als hC h1 h2 h3 h4 hR hF hL)
theorem Wk.sald {i : Int32} (hd : decode Y.2.1 pc = .ok (.iaload, 1)) (hi : ev_in i Ln) (kk : Wk l Ln xs Y d kc ks (pc + 1) ls (.int (xs i.toNatClampNeg) :: st) S m P) : Wk l Ln xs Y d kc ks pc ls (.int i :: .ref 5000 :: st) S m P := by
  intro D cA base ext p e R s mi args below meth c H locs cells slots als hC h1 h2 h3 h4 hR hF hL
  obtain ⟨⟨scr, g1, g2, g3, g4, g5⟩, hb, hsz, -⟩ := hC.2.2.2.2.2.2.2.2.2
  rw [List.map_cons, ev_ref]
  have hin := ev_in_vp hi
  exact W.iald (v := .int (xs i.toNatClampNeg)) hC.1 hC.2.1 (by rw [show ev_al base ext 5000 = ext 0 from rfl, hF.1 _ hb]; exact g1) g2 g3 (by rw [g4]; exact hin) (g5 _ hi.2) rfl rfl hd (kk D cA base ext p e R s mi args below meth c H locs cells slots als hC h1 h2 h3 h4 hR hF hL)
theorem Wk.slen (hd : decode Y.2.1 pc = .ok (.arraylength, 1)) (kk : Wk l Ln xs Y d kc ks (pc + 1) ls (.int (Int32.ofNat Ln) :: st) S m P) : Wk l Ln xs Y d kc ks pc ls (.ref 5000 :: st) S m P := by
  intro D cA base ext p e R s mi args below meth c H locs cells slots als hC h1 h2 h3 h4 hR hF hL
  obtain ⟨⟨scr, g1, g2, g3, g4, g5⟩, hb, hsz, -⟩ := hC.2.2.2.2.2.2.2.2.2
  rw [ev_ref]
  exact W.alen (n := Int32.ofNat Ln) hC.1 hC.2.1 (by rw [show ev_al base ext 5000 = ext 0 from rfl, hF.1 _ hb]; exact g1) g2 (by rw [g4] <;> rfl) rfl rfl hd (kk D cA base ext p e R s mi args below meth c H locs cells slots als hC h1 h2 h3 h4 hR hF hL)
theorem Wk.iast {a n : Nat} {i : Int32} {v : Int32} (hd : decode Y.2.1 pc = .ok (.iastore, 1)) (ha : a < S.1) (hs : S.2.1 a = (100, n)) (hi : ev_in i n) (kk : Wk l Ln xs Y d kc ks (pc + 1) ls st S (ev_up m.1 a i.toNatClampNeg v, m.2) P) : Wk l Ln xs Y d kc ks pc ls (.int v :: .int i :: .ref a :: st) S m P := by
  intro D cA base ext p e R s mi args below meth c H locs cells slots als hC h1 h2 h3 h4 hR hF hL
  have hat := hR.2.2 a ha
  rw [ev_ent_i hs] at hat
  rw [List.map_cons, List.map_cons, ev_ref, hR.lt ha]
  have hin := ev_in_vp hi
  refine W.iast hC.1 hC.2.1 hat ((hC.2.2.2.2.2.2.2.2.1.2 0 _ rfl).1 n _) (fun q => by cases q) (by show ¬ (i < 0 ∨ (arrV _ _ _).slots.size ≤ _); rw [arrV_size]; exact hin) rfl rfl hd fun H' e1 e2 e3 => ?_
  have e3 : ∀ q : Nat, q ≠ base + a → H'[q]? = H[q]? := e3
  refine kk D cA base ext p e R s mi args below meth c H' _ cells slots als hC h1 h2 h3 h4 ?_ ⟨fun x hx => by rw [e3 x (by omega)]; exact hF.1 x hx, fun x hx => by
    rcases List.mem_append.mp hx with h | h
    · exact hF.2 x h
    · rw [List.mem_singleton.mp h]; exact Nat.le_add_right _ _⟩ hL
  refine hR.upd (a := a) (fun j hj => ⟨ev_up_ne _ _ _ hj, rfl⟩) e2 e3 (fun _ => ?_)
  rw [ev_ent_i hs]
  show H'[base + a]? = some (vp_cell _ _)
  rw [e1]
  rw [vp_cell_i, vp_cell_i, arrV_store]
  congr 2
  funext q
  by_cases hq : q = i.toNatClampNeg
  · subst hq
    simp [updV, ev_up_at, narrow]
  · simp [updV, ev_up_at, hq]
theorem Wk.cast {a n : Nat} {i : Int32} {v : Int32} (hd : decode Y.2.1 pc = .ok (.castore, 1)) (ha : a < S.1) (hs : S.2.1 a = (101, n)) (hi : ev_in i n) (kk : Wk l Ln xs Y d kc ks (pc + 1) ls st S (ev_up m.1 a i.toNatClampNeg v.toUInt32.toUInt16.toUInt32.toInt32, m.2) P) : Wk l Ln xs Y d kc ks pc ls (.int v :: .int i :: .ref a :: st) S m P := by
  intro D cA base ext p e R s mi args below meth c H locs cells slots als hC h1 h2 h3 h4 hR hF hL
  have hat := hR.2.2 a ha
  rw [ev_ent_c hs] at hat
  rw [List.map_cons, List.map_cons, ev_ref, hR.lt ha]
  have hin := ev_in_vp hi
  refine W.cast hC.1 hC.2.1 hat ((hC.2.2.2.2.2.2.2.2.1.2 1 _ rfl).1 n _) (fun q => by cases q) (by show ¬ (i < 0 ∨ (arrV _ _ _).slots.size ≤ _); rw [arrV_size]; exact hin) rfl rfl hd fun H' e1 e2 e3 => ?_
  have e3 : ∀ q : Nat, q ≠ base + a → H'[q]? = H[q]? := e3
  refine kk D cA base ext p e R s mi args below meth c H' _ cells slots als hC h1 h2 h3 h4 ?_ ⟨fun x hx => by rw [e3 x (by omega)]; exact hF.1 x hx, fun x hx => by
    rcases List.mem_append.mp hx with h | h
    · exact hF.2 x h
    · rw [List.mem_singleton.mp h]; exact Nat.le_add_right _ _⟩ hL
  refine hR.upd (a := a) (fun j hj => ⟨ev_up_ne _ _ _ hj, rfl⟩) e2 e3 (fun _ => ?_)
  rw [ev_ent_c hs]
  show H'[base + a]? = some (vp_cell _ _)
  rw [e1]
  rw [vp_cell_i, vp_cell_i, arrV_store]
  congr 2
  funext q
  by_cases hq : q = i.toNatClampNeg
  · subst hq
    simp [updV, ev_up_at, narrow]
  · simp [updV, ev_up_at, hq]
theorem Wk.zast {a n : Nat} {i : Int32} {v : Int32} (hd : decode Y.2.1 pc = .ok (.bastore, 1)) (ha : a < S.1) (hs : S.2.1 a = (103, n)) (hi : ev_in i n) (kk : Wk l Ln xs Y d kc ks (pc + 1) ls st S (ev_up m.1 a i.toNatClampNeg (v &&& 1), m.2) P) : Wk l Ln xs Y d kc ks pc ls (.int v :: .int i :: .ref a :: st) S m P := by
  intro D cA base ext p e R s mi args below meth c H locs cells slots als hC h1 h2 h3 h4 hR hF hL
  have hat := hR.2.2 a ha
  rw [ev_ent_z hs] at hat
  rw [List.map_cons, List.map_cons, ev_ref, hR.lt ha]
  have hin := ev_in_vp hi
  refine W.zast hC.1 hC.2.1 hat ((hC.2.2.2.2.2.2.2.2.1.2 3 _ rfl).1 n _) (fun q => by cases q) (by show ¬ (i < 0 ∨ (arrV _ _ _).slots.size ≤ _); rw [arrV_size]; exact hin) rfl rfl hd fun H' e1 e2 e3 => ?_
  have e3 : ∀ q : Nat, q ≠ base + a → H'[q]? = H[q]? := e3
  refine kk D cA base ext p e R s mi args below meth c H' _ cells slots als hC h1 h2 h3 h4 ?_ ⟨fun x hx => by rw [e3 x (by omega)]; exact hF.1 x hx, fun x hx => by
    rcases List.mem_append.mp hx with h | h
    · exact hF.2 x h
    · rw [List.mem_singleton.mp h]; exact Nat.le_add_right _ _⟩ hL
  refine hR.upd (a := a) (fun j hj => ⟨ev_up_ne _ _ _ hj, rfl⟩) e2 e3 (fun _ => ?_)
  rw [ev_ent_z hs]
  show H'[base + a]? = some (vp_cell _ _)
  rw [e1]
  rw [vp_cell_i, vp_cell_i, arrV_store]
  congr 2
  funext q
  by_cases hq : q = i.toNatClampNeg
  · subst hq
    simp [updV, ev_up_at, narrow]
  · simp [updV, ev_up_at, hq]
theorem Wk.last {a n : Nat} {i : Int32} {v : Int64} (hd : decode Y.2.1 pc = .ok (.lastore, 1)) (ha : a < S.1) (hs : S.2.1 a = (102, n)) (hi : ev_in i n) (kk : Wk l Ln xs Y d kc ks (pc + 1) ls st S (m.1, ev_up m.2 a i.toNatClampNeg v) P) : Wk l Ln xs Y d kc ks pc ls (.long v :: .int i :: .ref a :: st) S m P := by
  intro D cA base ext p e R s mi args below meth c H locs cells slots als hC h1 h2 h3 h4 hR hF hL
  have hat := hR.2.2 a ha
  rw [ev_ent_l hs] at hat
  rw [List.map_cons, List.map_cons, ev_ref, hR.lt ha]
  have hin := ev_in_vp hi
  refine W.last hC.1 hC.2.1 hat ((hC.2.2.2.2.2.2.2.2.1.2 2 _ rfl).1 n _) (fun q => by cases q) (by show ¬ (i < 0 ∨ (arrV _ _ _).slots.size ≤ _); rw [arrV_size]; exact hin) rfl rfl hd fun H' e1 e2 e3 => ?_
  have e3 : ∀ q : Nat, q ≠ base + a → H'[q]? = H[q]? := e3
  refine kk D cA base ext p e R s mi args below meth c H' _ cells slots als hC h1 h2 h3 h4 ?_ ⟨fun x hx => by rw [e3 x (by omega)]; exact hF.1 x hx, fun x hx => by
    rcases List.mem_append.mp hx with h | h
    · exact hF.2 x h
    · rw [List.mem_singleton.mp h]; exact Nat.le_add_right _ _⟩ hL
  refine hR.upd (a := a) (fun j hj => ⟨rfl, ev_up_ne _ _ _ hj⟩) e2 e3 (fun _ => ?_)
  rw [ev_ent_l hs]
  show H'[base + a]? = some (vp_cell _ _)
  rw [e1]
  rw [vp_cell_l, vp_cell_l, arrV_store]
  congr 2
  funext q
  by_cases hq : q = i.toNatClampNeg
  · subst hq
    simp [updV, ev_up_at, narrow]
  · simp [updV, ev_up_at, hq]
/-- a switch: where it goes -/
def ev_tg (Y : ev_Y) (pc : Nat) (v : Int) : Option Nat := match decode Y.2.1 pc with
  | .ok (.tableswitch d lo hi offs, _) => if v < lo ∨ hi < v then some ((pc : Int) + d).toNat else (match offs[(v - lo).toNat]? with
    | some o => some ((pc : Int) + o).toNat
    | none => none)
  | .ok (.lookupswitch d ps, _) => if (ps.toList.zip (ps.toList.drop 1)).all (fun (a, next) => a.1 < next.1) = true then some ((pc : Int) + Op.lookupswitch.offset ps.toList d v).toNat else none
  | _ => none
theorem Wk.sw {x : Int32} {t : Nat} (ht : ev_tg Y pc x.toInt = some t) (h0 : 0 < t) (kk : Wk l Ln xs Y d kc ks t ls st S m P) : Wk l Ln xs Y d kc ks pc ls (.int x :: st) S m P := by
  intro D cA base ext p e R s mi args below meth c H locs cells slots als hC h1 h2 h3 h4 hR hF hL
  unfold ev_tg at ht
  split at ht
  · rename_i d lo hi offs len hd
    split at ht
    · rename_i hv
      have ez : (pc : Int) + d = (t : Int) := by have := Option.some.inj ht; omega
      exact lv_tableOut hC.1 hC.2.1 hd hv ez (kk D cA base ext p e R s mi args below meth c H locs cells slots als hC h1 h2 h3 h4 hR hF hL)
    · rename_i hv
      split at ht
      · rename_i o ho
        have ez : (pc : Int) + o = (t : Int) := by have := Option.some.inj ht; omega
        exact lv_tableIn hC.1 hC.2.1 hd (fun q => hv (Or.inl q)) (fun q => hv (Or.inr q)) ho ez (kk D cA base ext p e R s mi args below meth c H locs cells slots als hC h1 h2 h3 h4 hR hF hL)
      · cases ht
  · rename_i d ps len hd
    split at ht
    · rename_i hs
      have ez : (pc : Int) + Op.lookupswitch.offset ps.toList d x.toInt = (t : Int) := by have := Option.some.inj ht; omega
      exact lv_lookup hC.1 hC.2.1 hd hs rfl ez (kk D cA base ext p e R s mi args below meth c H locs cells slots als hC h1 h2 h3 h4 hR hF hL)
    · cases ht
  · cases ht
theorem Wk.iret {v : Int32} (hr : Y.2.2.2.1 = some .int) (hd : decode Y.2.1 pc = .ok (.ireturn, 1)) (hP : P (some (.int v)) S m) : Wk l Ln xs Y d kc ks pc ls [.int v] S m P := by
  intro D cA base ext p e R s mi args below meth c H locs cells slots als hC h1 h2 h3 h4 hR hF hL
  refine W.widen (k := cells + kc) (n := slots + ks) (Nat.le_add_right _ _) (Nat.le_add_right _ _) ?_
  exact W.iret hC.1 hC.2.1 (hC.2.2.2.1.trans hr) (fun t ht _ => ⟨some (.int v), S, m, rfl, hP, by rw [ht]; exact hR, fun q hq => by rw [ht]; exact hF.1 q hq⟩) hF.2 hd hC.2.2.2.2.1
theorem Wk.zret {v : Int32} (hr : Y.2.2.2.1 = some .boolean) (hv : v = 0 ∨ v = 1) (hd : decode Y.2.1 pc = .ok (.ireturn, 1)) (hP : P (some (.int v)) S m) : Wk l Ln xs Y d kc ks pc ls [.int v] S m P := by
  intro D cA base ext p e R s mi args below meth c H locs cells slots als hC h1 h2 h3 h4 hR hF hL
  refine W.widen (k := cells + kc) (n := slots + ks) (Nat.le_add_right _ _) (Nat.le_add_right _ _) ?_
  exact W.zret hC.1 hC.2.1 (hC.2.2.2.1.trans hr) (by rcases hv with rfl | rfl <;> rfl) (fun t ht _ => ⟨some (.int v), S, m, rfl, hP, by rw [ht]; exact hR, fun q hq => by rw [ht]; exact hF.1 q hq⟩) hF.2 hd hC.2.2.2.2.1
theorem Wk.lret {v : Int64} (hr : Y.2.2.2.1 = some .long) (hd : decode Y.2.1 pc = .ok (.lreturn, 1)) (hP : P (some (.long v)) S m) : Wk l Ln xs Y d kc ks pc ls [.long v] S m P := by
  intro D cA base ext p e R s mi args below meth c H locs cells slots als hC h1 h2 h3 h4 hR hF hL
  refine W.widen (k := cells + kc) (n := slots + ks) (Nat.le_add_right _ _) (Nat.le_add_right _ _) ?_
  exact W.lret hC.1 hC.2.1 (hC.2.2.2.1.trans hr) (fun t ht _ => ⟨some (.long v), S, m, rfl, hP, by rw [ht]; exact hR, fun q hq => by rw [ht]; exact hF.1 q hq⟩) hF.2 hd hC.2.2.2.2.1
theorem Wk.vret (hr : Y.2.2.2.1 = none) (hd : decode Y.2.1 pc = .ok (.return_, 1)) (hP : P none S m) : Wk l Ln xs Y d kc ks pc ls [] S m P := by
  intro D cA base ext p e R s mi args below meth c H locs cells slots als hC h1 h2 h3 h4 hR hF hL
  refine W.widen (k := cells + kc) (n := slots + ks) (Nat.le_add_right _ _) (Nat.le_add_right _ _) ?_
  exact W.vret hC.1 hC.2.1 (hC.2.2.2.1.trans hr) (fun t ht _ => ⟨none, S, m, rfl, hP, by rw [ht]; exact hR, fun q hq => by rw [ht]; exact hF.1 q hq⟩) hF.2 hd hC.2.2.2.2.1
def ev_en : List Value → List (Option Value)
  | [] => []
  | v :: t => if v.category = 2 then some v :: none :: ev_en t else some v :: ev_en t
theorem ev_en_at (al : Nat → Nat) : ∀ (av : List Value) (n : Nat) (i : Nat) (v : Value), (ev_en av)[i]? = some (some v) → (n + i, ev_v al v) ∈ lv_args n (av.map (ev_v al))
  | [], n, i, v, h => by simp [ev_en] at h
  | w :: t, n, i, v, h => by
    rw [ev_en] at h
    rw [List.map_cons, lv_args, ev_v_cat]
    by_cases hc : w.category = 2
    · rw [if_pos hc] at h
      rw [if_pos hc]
      match i, h with
      | 0, h => simp at h; subst h; exact List.mem_cons_self
      | 1, h => simp at h
      | i + 2, h => exact List.mem_cons_of_mem _ (by have := ev_en_at al t (n + 2) i v (by simpa using h); rwa [show n + 2 + i = n + (i + 2) by omega] at this)
    · rw [if_neg hc] at h
      rw [if_neg hc]
      match i, h with
      | 0, h => simp at h; subst h; exact List.mem_cons_self
      | i + 1, h => exact List.mem_cons_of_mem _ (by have := ev_en_at al t (n + 1) i v (by simpa using h); rwa [show n + 1 + i = n + (i + 1) by omega] at this)
theorem ev_sl_len (al : Nat → Nat) : ∀ av : List Value, (lg_sl (av.map (ev_v al))).length = (ev_en av).length
  | [] => rfl
  | v :: t => by
    have h := ev_sl_len al t
    unfold lg_sl at h ⊢
    rw [List.map_cons, List.flatMap_cons, List.length_append, h, ev_en, ev_v_cat]
    by_cases hc : v.category = 2
    · rw [if_pos hc, if_pos hc]; simp; omega
    · rw [if_neg hc, if_neg hc]; simp; omega
/-- a method's contract, by the walk of its body -/
theorem Mk.of {av : List Value} (hy : plainName Y.1.cls = true) (hcn : Y.1.cls = ev_cn Y.2.2.2.2) (hn : (ev_en av).length ≤ Y.2.2.1) (hk : Wk l Ln xs Y d kc ks 0 (ev_en av) [] S m P) : Mk l Ln xs Y d kc ks av S m P := by
  intro D cA base ext
  refine Met.ofW (cc := Y.2.1) (maxL := Y.2.2.1) (ret := Y.2.2.2.1) hy rfl ?_
  intro p e s mi args below meth c s₁ B hml hv
  obtain ⟨rfl, hTB, hK, hO, hR⟩ := hv
  rw [lg_entry_eq]
  have hl := lv_entry (av.map (ev_v (ev_al base ext))) (n := Y.2.2.1) (by rw [ev_sl_len]; exact hn)
  have h := hk D cA base ext p e ({ frames := d, cells := kc, slots := ks, locals := 41 * d } : Room) s mi (av.map (ev_v (ev_al base ext))).toArray below meth c s.heap [] 0 0 _ ⟨B.exec, B.bytes, hml, B.returns, B.notSynchronized, by rw [← hcn]; exact findClass_of_methodNamed B.named, (name_of_methodNamed B.named B.method).1, hTB, hK, hO⟩ (Nat.le_refl _) (Nat.le_refl _) (by show 0 + kc ≤ kc; omega) (by show 0 + ks ≤ ks; omega) hR ⟨fun _ _ => rfl, fun _ h => by cases h⟩ ⟨hl.1, hl.2.1, fun i v hv => hl.2.2 _ (by have := ev_en_at (ev_al base ext) av 0 i v hv; rwa [Nat.zero_add] at this)⟩
  rw [Nat.zero_add, Nat.zero_add] at h
  exact h
/-- what a callee's words are -/
def ev_mw (Y : ev_Y) (n : Nat) : Prop := Cond.code Y.1 Y.2.1 Y.2.2.1 Y.2.2.2.1 ∈ lw_tbl ∧ Cond.initialized Y.1.cls ∈ lw_tbl ∧ Y.2.2.1 ≤ 22 ∧ Y.1.cls ≠ "java/lang/invoke/MethodHandle" ∧ Y.1.cls ≠ "java/lang/invoke/VarHandle" ∧ (parseMethodDescriptor Y.1.desc).map (fun d => d.parameters.length) = some n
theorem ev_blind {Q : Array Value → State → Prop} (h : ∀ a U V, U.heap = V.heap → U.vm = V.vm → Q a U → Q a V) : FrameBlind Q := fun a U g mk q => h a U (U.calling g mk a) rfl rfl q
end EvFlow
