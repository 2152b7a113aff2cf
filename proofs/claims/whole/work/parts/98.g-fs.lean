/-! finer frames: the code that is written to is known -/
def PD (P : Nat → Nat → Prop) (m0 : ev_M) : Prop := P 15 1 ∧ ∃ oc, okc oc ∧ m0.1 15 1 = Int32.ofNat oc ∧ ¬ P oc 1 ∧ ∀ k, ¬ P (oc + 1) k
theorem FSX9_put {P : Nat → Nat → Prop} {m0 : ev_M} (f : Nat) (a1 : Int32) {m : ev_M} (pD : PD P m0)  (hm_m : frP P m0 m) : Fr (frP P m0) (FX9_put f a1 m) := by
  obtain ⟨p1, oc, hoc, h15, p2, p3⟩ := pD
  have e : ((m.1 15 1)).toNatClampNeg = oc := by rw [(hm_m 15 1 p1).1, h15, n_nat (by unfold okc at hoc; omega)]
  unfold FX9_put
  refine Fr.ite (fun _ => ?_) (fun _ => ?_)
  · exact Fr.ok hm_m
  · refine Fr.ite (fun hk1 => ?_) (fun _ => ?_)
    · refine Fr.bd (FRX2_add _ ((m.1 15 1)).toNatClampNeg _ (by rw [e]; exact p2) (by rw [e]; exact p3) hm_m) (fun _ m3 hm_m3 => ?_)
      exact Fr.ok hm_m3
    · exact Fr.none
set_option maxRecDepth 100000 in
set_option maxHeartbeats 4000000 in
theorem FSX9_readValue_J36 {P : Nat → Nat → Prop} {m0 : ev_M} (f : Nat) {m : ev_M} (pD : PD P m0) (p13_2 : ¬ P 13 2) (p13_5 : ¬ P 13 5) (p13_6 : ¬ P 13 6) (p13_7 : ¬ P 13 7)  (hm_m : frP P m0 m) : Fr (frP P m0) (FX9_readValue_J36 f m) := by
  unfold FX9_readValue_J36
  refine Fr.bd (FRX10_word _ hm_m) (fun r5 m6 hm_m6 => ?_)
  refine Fr.bd (FSX9_put _ _ pD hm_m6) (fun _ m8 hm_m8 => ?_)
  refine Fr.bd (FRX10_advance _ p13_2 p13_5 p13_6 p13_7 hm_m8) (fun _ m10 hm_m10 => ?_)
  exact Fr.ok hm_m10
set_option maxRecDepth 100000 in
set_option maxHeartbeats 4000000 in
theorem FSX9_readValue_J24 {P : Nat → Nat → Prop} {m0 : ev_M} (f : Nat) {m : ev_M} (pD : PD P m0) (p13_2 : ¬ P 13 2) (p13_5 : ¬ P 13 5) (p13_6 : ¬ P 13 6) (p13_7 : ¬ P 13 7) (p15_4 : ¬ P 15 4)  (hm_m : frP P m0 m) : Fr (frP P m0) (FX9_readValue_J24 f m) := by
  unfold FX9_readValue_J24
  refine Fr.bd (FRJ9_max_7cf53 _ _ _ hm_m) (fun r3 m4 hm_m4 => ?_)
  exact FSX9_readValue_J36 _ pD p13_2 p13_5 p13_6 p13_7 (frP_I p15_4 hm_m4)
set_option maxRecDepth 100000 in
set_option maxHeartbeats 4000000 in
theorem FSX9_readValue {P : Nat → Nat → Prop} {m0 : ev_M} (f : Nat) {m : ev_M} (pD : PD P m0) (p13_2 : ¬ P 13 2) (p13_5 : ¬ P 13 5) (p13_6 : ¬ P 13 6) (p13_7 : ¬ P 13 7) (p15_4 : ¬ P 15 4)  (hm_m : frP P m0 m) : Fr (frP P m0) (FX9_readValue f m) := by
  unfold FX9_readValue
  refine Fr.bd (FRX10_isWord _ _ hm_m) (fun r1 m2 hm_m2 => ?_)
  refine Fr.ite (fun _ => ?_) (fun _ => ?_)
  · refine Fr.bd (FRX10_isWord _ _ hm_m2) (fun r11 m12 hm_m12 => ?_)
    refine Fr.ite (fun _ => ?_) (fun _ => ?_)
    · exact FSX9_readValue_J36 _ pD p13_2 p13_5 p13_6 p13_7 hm_m12
    · exact FSX9_readValue_J24 _ pD p13_2 p13_5 p13_6 p13_7 p15_4 hm_m12
  · exact FSX9_readValue_J24 _ pD p13_2 p13_5 p13_6 p13_7 p15_4 hm_m2
set_option maxRecDepth 100000 in
set_option maxHeartbeats 4000000 in
theorem FSX9_readSum_J55 {P : Nat → Nat → Prop} {m0 : ev_M} (f : Nat) (rc : Nat → Int32 → ev_M → Option (Unit × ev_M)) (kt6 : Int32 → ev_M → Option (Unit × ev_M)) (a1 : Int32) (s0 : Int32) {m : ev_M} (pD : PD P m0) (p13_2 : ¬ P 13 2) (p13_5 : ¬ P 13 5) (p13_6 : ¬ P 13 6) (p13_7 : ¬ P 13 7) (hrc : ∀ (x0 : Nat) (x1 : Int32) (xm : ev_M), frP P m0 xm → Fr (frP P m0) (rc x0 x1 xm)) (hkt6 : ∀ (x0 : Int32) (xm : ev_M), frP P m0 xm → Fr (frP P m0) (kt6 x0 xm)) (hm_m : frP P m0 m) : Fr (frP P m0) (FX9_readSum_J55 f rc kt6 a1 s0 m) := by
  unfold FX9_readSum_J55
  refine Fr.bd (FRX10_advance _ p13_2 p13_5 p13_6 p13_7 hm_m) (fun _ m8 hm_m8 => ?_)
  refine Fr.bd (hrc _ _ _ hm_m8) (fun _ m10 hm_m10 => ?_)
  refine Fr.bd (FSX9_put _ _ pD hm_m10) (fun _ m12 hm_m12 => ?_)
  exact hkt6 _ _ hm_m12
set_option maxRecDepth 100000 in
set_option maxHeartbeats 4000000 in
theorem FSX9_readSum_J37 {P : Nat → Nat → Prop} {m0 : ev_M} (f : Nat) (rc : Nat → Int32 → ev_M → Option (Unit × ev_M)) (kt6 : Int32 → ev_M → Option (Unit × ev_M)) (a1 : Int32) {m : ev_M} (pD : PD P m0) (p13_2 : ¬ P 13 2) (p13_5 : ¬ P 13 5) (p13_6 : ¬ P 13 6) (p13_7 : ¬ P 13 7) (hrc : ∀ (x0 : Nat) (x1 : Int32) (xm : ev_M), frP P m0 xm → Fr (frP P m0) (rc x0 x1 xm)) (hkt6 : ∀ (x0 : Int32) (xm : ev_M), frP P m0 xm → Fr (frP P m0) (kt6 x0 xm)) (hm_m : frP P m0 m) : Fr (frP P m0) (FX9_readSum_J37 f rc kt6 a1 m) := by
  unfold FX9_readSum_J37
  refine Fr.bd (FRX10_isSign _ _ hm_m) (fun r5 m6 hm_m6 => ?_)
  refine Fr.ite (fun _ => ?_) (fun _ => ?_)
  · exact FSX9_readSum_J55 _ _ _ _ _ pD p13_2 p13_5 p13_6 p13_7 hrc hkt6 hm_m6
  · exact FSX9_readSum_J55 _ _ _ _ _ pD p13_2 p13_5 p13_6 p13_7 hrc hkt6 hm_m6
set_option maxRecDepth 100000 in
set_option maxHeartbeats 4000000 in
theorem FSX9_readSum_L6 {P : Nat → Nat → Prop} {m0 : ev_M} (f : Nat) (rc : Nat → Int32 → ev_M → Option (Unit × ev_M)) (k : ev_M → Option (Unit × ev_M)) (pD : PD P m0) (p13_2 : ¬ P 13 2) (p13_5 : ¬ P 13 5) (p13_6 : ¬ P 13 6) (p13_7 : ¬ P 13 7) (hrc : ∀ (x0 : Nat) (x1 : Int32) (xm : ev_M), frP P m0 xm → Fr (frP P m0) (rc x0 x1 xm)) (hk : ∀  (xm : ev_M), frP P m0 xm → Fr (frP P m0) (k xm)) : ∀ (n : Nat) (a1 : Int32) (m : ev_M), frP P m0 m → Fr (frP P m0) (FX9_readSum_L6 f rc k n a1 m) := by
  intro n
  induction n with
  | zero => intros; exact Fr.none
  | succ n ih =>
    intro a1 m hm_m
    rw [FX9_readSum_L6]
    refine Fr.ite (fun _ => ?_) (fun _ => ?_)
    · exact hk _ hm_m
    · refine Fr.bd (FRX10_isSign _ _ hm_m) (fun r3 m4 hm_m4 => ?_)
      refine Fr.ite (fun _ => ?_) (fun _ => ?_)
      · refine Fr.bd (FRX10_isSign _ _ hm_m4) (fun r13 m14 hm_m14 => ?_)
        refine Fr.ite (fun _ => ?_) (fun _ => ?_)
        · exact hk _ hm_m14
        · exact FSX9_readSum_J37 _ _ _ _ pD p13_2 p13_5 p13_6 p13_7 hrc ih hm_m14
      · exact FSX9_readSum_J37 _ _ _ _ pD p13_2 p13_5 p13_6 p13_7 hrc ih hm_m4
set_option maxRecDepth 100000 in
set_option maxHeartbeats 4000000 in
theorem FSX9_readSumB {P : Nat → Nat → Prop} {m0 : ev_M} (f : Nat) (rc : Nat → Int32 → ev_M → Option (Unit × ev_M)) {m : ev_M} (pD : PD P m0) (p13_2 : ¬ P 13 2) (p13_5 : ¬ P 13 5) (p13_6 : ¬ P 13 6) (p13_7 : ¬ P 13 7) (hrc : ∀ (x0 : Nat) (x1 : Int32) (xm : ev_M), frP P m0 xm → Fr (frP P m0) (rc x0 x1 xm)) (hm_m : frP P m0 m) : Fr (frP P m0) (FX9_readSumB f rc m) := by
  unfold FX9_readSumB
  refine Fr.bd (hrc _ _ _ hm_m) (fun _ m2 hm_m2 => ?_)
  exact FSX9_readSum_L6 _ _ _ pD p13_2 p13_5 p13_6 p13_7 hrc ((by
  intro m15 hm_m15
  exact Fr.ok hm_m15)) _ _ _ hm_m2
set_option maxRecDepth 100000 in
set_option maxHeartbeats 4000000 in
theorem FSX9_readProduct_J56 {P : Nat → Nat → Prop} {m0 : ev_M} (f : Nat) (rc : Nat → Int32 → ev_M → Option (Unit × ev_M)) (kt6 : Int32 → ev_M → Option (Unit × ev_M)) (a1 : Int32) (s0 : Int32) {m : ev_M} (pD : PD P m0) (p13_2 : ¬ P 13 2) (p13_5 : ¬ P 13 5) (p13_6 : ¬ P 13 6) (p13_7 : ¬ P 13 7) (hrc : ∀ (x0 : Nat) (x1 : Int32) (xm : ev_M), frP P m0 xm → Fr (frP P m0) (rc x0 x1 xm)) (hkt6 : ∀ (x0 : Int32) (xm : ev_M), frP P m0 xm → Fr (frP P m0) (kt6 x0 xm)) (hm_m : frP P m0 m) : Fr (frP P m0) (FX9_readProduct_J56 f rc kt6 a1 s0 m) := by
  unfold FX9_readProduct_J56
  refine Fr.bd (FRX10_advance _ p13_2 p13_5 p13_6 p13_7 hm_m) (fun _ m8 hm_m8 => ?_)
  refine Fr.bd (hrc _ _ _ hm_m8) (fun _ m10 hm_m10 => ?_)
  refine Fr.bd (FSX9_put _ _ pD hm_m10) (fun _ m12 hm_m12 => ?_)
  exact hkt6 _ _ hm_m12
set_option maxRecDepth 100000 in
set_option maxHeartbeats 4000000 in
theorem FSX9_readProduct_J37 {P : Nat → Nat → Prop} {m0 : ev_M} (f : Nat) (rc : Nat → Int32 → ev_M → Option (Unit × ev_M)) (kt6 : Int32 → ev_M → Option (Unit × ev_M)) (a1 : Int32) {m : ev_M} (pD : PD P m0) (p13_2 : ¬ P 13 2) (p13_5 : ¬ P 13 5) (p13_6 : ¬ P 13 6) (p13_7 : ¬ P 13 7) (hrc : ∀ (x0 : Nat) (x1 : Int32) (xm : ev_M), frP P m0 xm → Fr (frP P m0) (rc x0 x1 xm)) (hkt6 : ∀ (x0 : Int32) (xm : ev_M), frP P m0 xm → Fr (frP P m0) (kt6 x0 xm)) (hm_m : frP P m0 m) : Fr (frP P m0) (FX9_readProduct_J37 f rc kt6 a1 m) := by
  unfold FX9_readProduct_J37
  refine Fr.bd (FRX10_isSign _ _ hm_m) (fun r5 m6 hm_m6 => ?_)
  refine Fr.ite (fun _ => ?_) (fun _ => ?_)
  · exact FSX9_readProduct_J56 _ _ _ _ _ pD p13_2 p13_5 p13_6 p13_7 hrc hkt6 hm_m6
  · exact FSX9_readProduct_J56 _ _ _ _ _ pD p13_2 p13_5 p13_6 p13_7 hrc hkt6 hm_m6
set_option maxRecDepth 100000 in
set_option maxHeartbeats 4000000 in
theorem FSX9_readProduct_L6 {P : Nat → Nat → Prop} {m0 : ev_M} (f : Nat) (rc : Nat → Int32 → ev_M → Option (Unit × ev_M)) (k : ev_M → Option (Unit × ev_M)) (pD : PD P m0) (p13_2 : ¬ P 13 2) (p13_5 : ¬ P 13 5) (p13_6 : ¬ P 13 6) (p13_7 : ¬ P 13 7) (hrc : ∀ (x0 : Nat) (x1 : Int32) (xm : ev_M), frP P m0 xm → Fr (frP P m0) (rc x0 x1 xm)) (hk : ∀  (xm : ev_M), frP P m0 xm → Fr (frP P m0) (k xm)) : ∀ (n : Nat) (a1 : Int32) (m : ev_M), frP P m0 m → Fr (frP P m0) (FX9_readProduct_L6 f rc k n a1 m) := by
  intro n
  induction n with
  | zero => intros; exact Fr.none
  | succ n ih =>
    intro a1 m hm_m
    rw [FX9_readProduct_L6]
    refine Fr.ite (fun _ => ?_) (fun _ => ?_)
    · exact hk _ hm_m
    · refine Fr.bd (FRX10_isSign _ _ hm_m) (fun r3 m4 hm_m4 => ?_)
      refine Fr.ite (fun _ => ?_) (fun _ => ?_)
      · refine Fr.bd (FRX10_isSign _ _ hm_m4) (fun r13 m14 hm_m14 => ?_)
        refine Fr.ite (fun _ => ?_) (fun _ => ?_)
        · exact hk _ hm_m14
        · exact FSX9_readProduct_J37 _ _ _ _ pD p13_2 p13_5 p13_6 p13_7 hrc ih hm_m14
      · exact FSX9_readProduct_J37 _ _ _ _ pD p13_2 p13_5 p13_6 p13_7 hrc ih hm_m4
set_option maxRecDepth 100000 in
set_option maxHeartbeats 4000000 in
theorem FSX9_readProductB {P : Nat → Nat → Prop} {m0 : ev_M} (f : Nat) (rc : Nat → Int32 → ev_M → Option (Unit × ev_M)) {m : ev_M} (pD : PD P m0) (p13_2 : ¬ P 13 2) (p13_5 : ¬ P 13 5) (p13_6 : ¬ P 13 6) (p13_7 : ¬ P 13 7) (hrc : ∀ (x0 : Nat) (x1 : Int32) (xm : ev_M), frP P m0 xm → Fr (frP P m0) (rc x0 x1 xm)) (hm_m : frP P m0 m) : Fr (frP P m0) (FX9_readProductB f rc m) := by
  unfold FX9_readProductB
  refine Fr.bd (hrc _ _ _ hm_m) (fun _ m2 hm_m2 => ?_)
  exact FSX9_readProduct_L6 _ _ _ pD p13_2 p13_5 p13_6 p13_7 hrc ((by
  intro m15 hm_m15
  exact Fr.ok hm_m15)) _ _ _ hm_m2
set_option maxRecDepth 100000 in
set_option maxHeartbeats 4000000 in
theorem FSX9_readPart_J116 {P : Nat → Nat → Prop} {m0 : ev_M} (f : Nat) (rc : Nat → Int32 → ev_M → Option (Unit × ev_M)) {m : ev_M} (pD : PD P m0) (p13_2 : ¬ P 13 2) (p13_3 : ¬ P 13 3) (p13_4 : ¬ P 13 4) (p13_5 : ¬ P 13 5) (p13_6 : ¬ P 13 6) (p13_7 : ¬ P 13 7) (p15_4 : ¬ P 15 4) (hrc : ∀ (x0 : Nat) (x1 : Int32) (xm : ev_M), frP P m0 xm → Fr (frP P m0) (rc x0 x1 xm)) (hm_m : frP P m0 m) : Fr (frP P m0) (FX9_readPart_J116 f rc m) := by
  unfold FX9_readPart_J116
  refine Fr.bd (FRX10_word _ hm_m) (fun r9 m10 hm_m10 => ?_)
  refine Fr.bd (FRX9_isValue _ _ hm_m10) (fun r11 m12 hm_m12 => ?_)
  refine Fr.ite (fun _ => ?_) (fun _ => ?_)
  · refine Fr.bd (FRX10_fail _ _ _ p13_3 p13_4 p13_5 hm_m12) (fun _ m14 hm_m14 => ?_)
    exact Fr.ok hm_m14
  · refine Fr.bd (FSX9_readValue _ pD p13_2 p13_5 p13_6 p13_7 p15_4 hm_m12) (fun _ m16 hm_m16 => ?_)
    exact Fr.ok hm_m16
set_option maxRecDepth 100000 in
set_option maxHeartbeats 4000000 in
theorem FSX9_readPartB {P : Nat → Nat → Prop} {m0 : ev_M} (f : Nat) (rc : Nat → Int32 → ev_M → Option (Unit × ev_M)) {m : ev_M} (pD : PD P m0) (p13_2 : ¬ P 13 2) (p13_3 : ¬ P 13 3) (p13_4 : ¬ P 13 4) (p13_5 : ¬ P 13 5) (p13_6 : ¬ P 13 6) (p13_7 : ¬ P 13 7) (p15_4 : ¬ P 15 4) (hrc : ∀ (x0 : Nat) (x1 : Int32) (xm : ev_M), frP P m0 xm → Fr (frP P m0) (rc x0 x1 xm)) (hm_m : frP P m0 m) : Fr (frP P m0) (FX9_readPartB f rc m) := by
  unfold FX9_readPartB
  refine Fr.bd (FRX10_isNumber _ hm_m) (fun r1 m2 hm_m2 => ?_)
  refine Fr.ite (fun _ => ?_) (fun _ => ?_)
  · refine Fr.bd (FRX10_isSign _ _ hm_m2) (fun r3 m4 hm_m4 => ?_)
    refine Fr.ite (fun _ => ?_) (fun _ => ?_)
    · refine Fr.bd (FRX10_isWord _ _ hm_m4) (fun r5 m6 hm_m6 => ?_)
      refine Fr.ite (fun _ => ?_) (fun _ => ?_)
      · refine Fr.bd (FRX10_isWord _ _ hm_m6) (fun r7 m8 hm_m8 => ?_)
        refine Fr.ite (fun _ => ?_) (fun _ => ?_)
        · refine Fr.ite (fun _ => ?_) (fun _ => ?_)
          · refine Fr.bd (FRX10_isWord _ _ hm_m8) (fun r17 m18 hm_m18 => ?_)
            refine Fr.ite (fun _ => ?_) (fun _ => ?_)
            · exact FSX9_readPart_J116 _ _ pD p13_2 p13_3 p13_4 p13_5 p13_6 p13_7 p15_4 hrc hm_m18
            · refine Fr.bd (hrc _ _ _ hm_m18) (fun _ m20 hm_m20 => ?_)
              exact Fr.ok hm_m20
          · exact FSX9_readPart_J116 _ _ pD p13_2 p13_3 p13_4 p13_5 p13_6 p13_7 p15_4 hrc hm_m8
        · refine Fr.bd (hrc _ _ _ hm_m8) (fun _ m22 hm_m22 => ?_)
          exact Fr.ok hm_m22
      · refine Fr.bd (hrc _ _ _ hm_m6) (fun _ m24 hm_m24 => ?_)
        exact Fr.ok hm_m24
    · refine Fr.bd (hrc _ _ _ hm_m4) (fun _ m26 hm_m26 => ?_)
      exact Fr.ok hm_m26
  · refine Fr.bd (FRX10_takeNumber _ _ _ p13_2 p13_3 p13_4 p13_5 p13_6 p13_7 hm_m2) (fun r27 m28 hm_m28 => ?_)
    refine Fr.bd (FSX9_put _ _ pD hm_m28) (fun _ m30 hm_m30 => ?_)
    exact Fr.ok hm_m30
set_option maxRecDepth 100000 in
set_option maxHeartbeats 4000000 in
theorem FSX9_readPairB {P : Nat → Nat → Prop} {m0 : ev_M} (f : Nat) (rc : Nat → Int32 → ev_M → Option (Unit × ev_M)) (a1 : Int32) {m : ev_M} (pD : PD P m0) (p13_2 : ¬ P 13 2) (p13_3 : ¬ P 13 3) (p13_4 : ¬ P 13 4) (p13_5 : ¬ P 13 5) (p13_6 : ¬ P 13 6) (p13_7 : ¬ P 13 7) (p15_3 : ¬ P 15 3) (hrc : ∀ (x0 : Nat) (x1 : Int32) (xm : ev_M), frP P m0 xm → Fr (frP P m0) (rc x0 x1 xm)) (hm_m : frP P m0 m) : Fr (frP P m0) (FX9_readPairB f rc a1 m) := by
  unfold FX9_readPairB
  refine Fr.bd (FRX10_advance _ p13_2 p13_5 p13_6 p13_7 hm_m) (fun _ m2 hm_m2 => ?_)
  refine Fr.bd (FRX10_isSign _ _ hm_m2) (fun r3 m4 hm_m4 => ?_)
  refine Fr.ite (fun _ => ?_) (fun _ => ?_)
  · refine Fr.bd (FRX10_fail _ _ _ p13_3 p13_4 p13_5 hm_m4) (fun _ m20 hm_m20 => ?_)
    exact Fr.ok hm_m20
  · refine Fr.bd (FRX9_opens _ p13_2 p13_3 p13_4 p13_5 p13_6 p13_7 p15_3 hm_m4) (fun r5 m6 hm_m6 => ?_)
    refine Fr.ite (fun _ => ?_) (fun _ => ?_)
    · exact Fr.ok hm_m6
    · refine Fr.bd (hrc _ _ _ hm_m6) (fun _ m8 hm_m8 => ?_)
      refine Fr.bd (FRX10_takeSign _ _ p13_2 p13_3 p13_4 p13_5 p13_6 p13_7 hm_m8) (fun _ m10 hm_m10 => ?_)
      refine Fr.bd (hrc _ _ _ hm_m10) (fun _ m12 hm_m12 => ?_)
      refine Fr.bd (FRX10_takeSign _ _ p13_2 p13_3 p13_4 p13_5 p13_6 p13_7 hm_m12) (fun _ m14 hm_m14 => ?_)
      refine Fr.bd (FRX9_closes _ p15_3 hm_m14) (fun _ m16 hm_m16 => ?_)
      refine Fr.bd (FSX9_put _ _ pD hm_m16) (fun _ m18 hm_m18 => ?_)
      exact Fr.ok hm_m18
set_option maxRecDepth 100000 in
set_option maxHeartbeats 4000000 in
theorem FSX9_readSaidAheadB {P : Nat → Nat → Prop} {m0 : ev_M} (f : Nat) (rc : Nat → Int32 → ev_M → Option (Unit × ev_M)) {m : ev_M} (pD : PD P m0) (p13_2 : ¬ P 13 2) (p13_3 : ¬ P 13 3) (p13_4 : ¬ P 13 4) (p13_5 : ¬ P 13 5) (p13_6 : ¬ P 13 6) (p13_7 : ¬ P 13 7) (p15_3 : ¬ P 15 3) (p15_4 : ¬ P 15 4) (hrc : ∀ (x0 : Nat) (x1 : Int32) (xm : ev_M), frP P m0 xm → Fr (frP P m0) (rc x0 x1 xm)) (hm_m : frP P m0 m) : Fr (frP P m0) (FX9_readSaidAheadB f rc m) := by
  unfold FX9_readSaidAheadB
  refine Fr.bd (FRX9_opens _ p13_2 p13_3 p13_4 p13_5 p13_6 p13_7 p15_3 hm_m) (fun r1 m2 hm_m2 => ?_)
  refine Fr.ite (fun _ => ?_) (fun _ => ?_)
  · exact Fr.ok hm_m2
  · refine Fr.bd (hrc _ _ _ hm_m2) (fun _ m4 hm_m4 => ?_)
    refine Fr.bd (FRX9_closes _ p15_3 hm_m4) (fun _ m6 hm_m6 => ?_)
    refine Fr.bd (FSX9_put _ _ pD hm_m6) (fun _ m8 hm_m8 => ?_)
    exact Fr.ok (frP_I p15_4 hm_m8)
set_option maxRecDepth 100000 in
set_option maxHeartbeats 4000000 in
theorem FSGA {P : Nat → Nat → Prop} {m0 : ev_M} (f : Nat) (pD : PD P m0) (p13_2 : ¬ P 13 2) (p13_3 : ¬ P 13 3) (p13_4 : ¬ P 13 4) (p13_5 : ¬ P 13 5) (p13_6 : ¬ P 13 6) (p13_7 : ¬ P 13 7) (p15_3 : ¬ P 15 3) (p15_4 : ¬ P 15 4) : ∀ (n j : Nat) (a : Int32) (m : ev_M), frP P m0 m → Fr (frP P m0) (FGA f n j a m) := by
  intro n
  induction n with
  | zero => intros; exact Fr.none
  | succ n ih =>
    intro j a m hm_m
    match j with
    | 0 => exact FSX9_readSumB _ _ pD p13_2 p13_5 p13_6 p13_7 (fun j a m h => ih j a m h) hm_m
    | 1 => exact FSX9_readProductB _ _ pD p13_2 p13_5 p13_6 p13_7 (fun j a m h => ih j a m h) hm_m
    | 2 => exact FSX9_readPartB _ _ pD p13_2 p13_3 p13_4 p13_5 p13_6 p13_7 p15_4 (fun j a m h => ih j a m h) hm_m
    | 3 => exact FRX9_readOpenedB _ _ p13_2 p13_3 p13_4 p13_5 p13_6 p13_7 p15_3 (fun j a m h => ih j a m h) hm_m
    | 4 => exact FSX9_readPairB _ _ _ pD p13_2 p13_3 p13_4 p13_5 p13_6 p13_7 p15_3 (fun j a m h => ih j a m h) hm_m
    | j + 5 => exact FSX9_readSaidAheadB _ _ pD p13_2 p13_3 p13_4 p13_5 p13_6 p13_7 p15_3 p15_4 (fun j a m h => ih j a m h) hm_m
set_option maxRecDepth 100000 in
set_option maxHeartbeats 4000000 in
theorem FSX9_readSum {P : Nat → Nat → Prop} {m0 : ev_M} (f : Nat) {m : ev_M} (pD : PD P m0) (p13_2 : ¬ P 13 2) (p13_3 : ¬ P 13 3) (p13_4 : ¬ P 13 4) (p13_5 : ¬ P 13 5) (p13_6 : ¬ P 13 6) (p13_7 : ¬ P 13 7) (p15_3 : ¬ P 15 3) (p15_4 : ¬ P 15 4)  (hm_m : frP P m0 m) : Fr (frP P m0) (FX9_readSum f m) := by
  unfold FX9_readSum
  exact FSGA _ pD p13_2 p13_3 p13_4 p13_5 p13_6 p13_7 p15_3 p15_4 _ _ _ _ hm_m
set_option maxRecDepth 100000 in
set_option maxHeartbeats 4000000 in
theorem FSX9_readProduct {P : Nat → Nat → Prop} {m0 : ev_M} (f : Nat) {m : ev_M} (pD : PD P m0) (p13_2 : ¬ P 13 2) (p13_3 : ¬ P 13 3) (p13_4 : ¬ P 13 4) (p13_5 : ¬ P 13 5) (p13_6 : ¬ P 13 6) (p13_7 : ¬ P 13 7) (p15_3 : ¬ P 15 3) (p15_4 : ¬ P 15 4)  (hm_m : frP P m0 m) : Fr (frP P m0) (FX9_readProduct f m) := by
  unfold FX9_readProduct
  exact FSGA _ pD p13_2 p13_3 p13_4 p13_5 p13_6 p13_7 p15_3 p15_4 _ _ _ _ hm_m
set_option maxRecDepth 100000 in
set_option maxHeartbeats 4000000 in
theorem FSX9_readPart {P : Nat → Nat → Prop} {m0 : ev_M} (f : Nat) {m : ev_M} (pD : PD P m0) (p13_2 : ¬ P 13 2) (p13_3 : ¬ P 13 3) (p13_4 : ¬ P 13 4) (p13_5 : ¬ P 13 5) (p13_6 : ¬ P 13 6) (p13_7 : ¬ P 13 7) (p15_3 : ¬ P 15 3) (p15_4 : ¬ P 15 4)  (hm_m : frP P m0 m) : Fr (frP P m0) (FX9_readPart f m) := by
  unfold FX9_readPart
  exact FSGA _ pD p13_2 p13_3 p13_4 p13_5 p13_6 p13_7 p15_3 p15_4 _ _ _ _ hm_m
set_option maxRecDepth 100000 in
set_option maxHeartbeats 4000000 in
theorem FSX9_readOpened {P : Nat → Nat → Prop} {m0 : ev_M} (f : Nat) {m : ev_M} (pD : PD P m0) (p13_2 : ¬ P 13 2) (p13_3 : ¬ P 13 3) (p13_4 : ¬ P 13 4) (p13_5 : ¬ P 13 5) (p13_6 : ¬ P 13 6) (p13_7 : ¬ P 13 7) (p15_3 : ¬ P 15 3) (p15_4 : ¬ P 15 4)  (hm_m : frP P m0 m) : Fr (frP P m0) (FX9_readOpened f m) := by
  unfold FX9_readOpened
  exact FSGA _ pD p13_2 p13_3 p13_4 p13_5 p13_6 p13_7 p15_3 p15_4 _ _ _ _ hm_m
set_option maxRecDepth 100000 in
set_option maxHeartbeats 4000000 in
theorem FSX9_readPair {P : Nat → Nat → Prop} {m0 : ev_M} (f : Nat) (a1 : Int32) {m : ev_M} (pD : PD P m0) (p13_2 : ¬ P 13 2) (p13_3 : ¬ P 13 3) (p13_4 : ¬ P 13 4) (p13_5 : ¬ P 13 5) (p13_6 : ¬ P 13 6) (p13_7 : ¬ P 13 7) (p15_3 : ¬ P 15 3) (p15_4 : ¬ P 15 4)  (hm_m : frP P m0 m) : Fr (frP P m0) (FX9_readPair f a1 m) := by
  unfold FX9_readPair
  exact FSGA _ pD p13_2 p13_3 p13_4 p13_5 p13_6 p13_7 p15_3 p15_4 _ _ _ _ hm_m
set_option maxRecDepth 100000 in
set_option maxHeartbeats 4000000 in
theorem FSX9_readSaidAhead {P : Nat → Nat → Prop} {m0 : ev_M} (f : Nat) {m : ev_M} (pD : PD P m0) (p13_2 : ¬ P 13 2) (p13_3 : ¬ P 13 3) (p13_4 : ¬ P 13 4) (p13_5 : ¬ P 13 5) (p13_6 : ¬ P 13 6) (p13_7 : ¬ P 13 7) (p15_3 : ¬ P 15 3) (p15_4 : ¬ P 15 4)  (hm_m : frP P m0 m) : Fr (frP P m0) (FX9_readSaidAhead f m) := by
  unfold FX9_readSaidAhead
  exact FSGA _ pD p13_2 p13_3 p13_4 p13_5 p13_6 p13_7 p15_3 p15_4 _ _ _ _ hm_m
set_option maxRecDepth 100000 in
set_option maxHeartbeats 4000000 in
theorem FSX7_readComparison_J73 {P : Nat → Nat → Prop} {m0 : ev_M} (f : Nat) (a1 : Int32) {m : ev_M} (pD : PD P m0) (p13_2 : ¬ P 13 2) (p13_3 : ¬ P 13 3) (p13_4 : ¬ P 13 4) (p13_5 : ¬ P 13 5) (p13_6 : ¬ P 13 6) (p13_7 : ¬ P 13 7) (p15_3 : ¬ P 15 3) (p15_4 : ¬ P 15 4) (p23_1 : ¬ P 23 1) (p24 : ∀ k, ¬ P 24 k)  (hm_m : frP P m0 m) : Fr (frP P m0) (FX7_readComparison_J73 f a1 m) := by
  unfold FX7_readComparison_J73
  refine Fr.bd (FRX10_advance _ p13_2 p13_5 p13_6 p13_7 hm_m) (fun _ m10 hm_m10 => ?_)
  refine Fr.bd (FSX9_readSum _ pD p13_2 p13_3 p13_4 p13_5 p13_6 p13_7 p15_3 p15_4 hm_m10) (fun _ m12 hm_m12 => ?_)
  refine Fr.bd (FRX2_add _ 23 _ p23_1 p24 hm_m12) (fun _ m14 hm_m14 => ?_)
  exact Fr.ok hm_m14
set_option maxRecDepth 100000 in
set_option maxHeartbeats 4000000 in
theorem FSX7_readComparison {P : Nat → Nat → Prop} {m0 : ev_M} (f : Nat) {m : ev_M} (pD : PD P m0) (p13_2 : ¬ P 13 2) (p13_3 : ¬ P 13 3) (p13_4 : ¬ P 13 4) (p13_5 : ¬ P 13 5) (p13_6 : ¬ P 13 6) (p13_7 : ¬ P 13 7) (p15_3 : ¬ P 15 3) (p15_4 : ¬ P 15 4) (p23_1 : ¬ P 23 1) (p24 : ∀ k, ¬ P 24 k)  (hm_m : frP P m0 m) : Fr (frP P m0) (FX7_readComparison f m) := by
  unfold FX7_readComparison
  refine Fr.bd (FSX9_readSum _ pD p13_2 p13_3 p13_4 p13_5 p13_6 p13_7 p15_3 p15_4 hm_m) (fun _ m2 hm_m2 => ?_)
  refine Fr.bd (FRX10_isSign _ _ hm_m2) (fun r3 m4 hm_m4 => ?_)
  refine Fr.ite (fun _ => ?_) (fun _ => ?_)
  · refine Fr.bd (FRX10_isSign _ _ hm_m4) (fun r5 m6 hm_m6 => ?_)
    refine Fr.ite (fun _ => ?_) (fun _ => ?_)
    · refine Fr.bd (FRX10_isSign _ _ hm_m6) (fun r7 m8 hm_m8 => ?_)
      refine Fr.ite (fun _ => ?_) (fun _ => ?_)
      · refine Fr.bd (FRX10_fail _ _ _ p13_3 p13_4 p13_5 hm_m8) (fun _ m16 hm_m16 => ?_)
        exact FSX7_readComparison_J73 _ _ pD p13_2 p13_3 p13_4 p13_5 p13_6 p13_7 p15_3 p15_4 p23_1 p24 hm_m16
      · exact FSX7_readComparison_J73 _ _ pD p13_2 p13_3 p13_4 p13_5 p13_6 p13_7 p15_3 p15_4 p23_1 p24 hm_m8
    · exact FSX7_readComparison_J73 _ _ pD p13_2 p13_3 p13_4 p13_5 p13_6 p13_7 p15_3 p15_4 p23_1 p24 hm_m6
  · exact FSX7_readComparison_J73 _ _ pD p13_2 p13_3 p13_4 p13_5 p13_6 p13_7 p15_3 p15_4 p23_1 p24 hm_m4
set_option maxRecDepth 100000 in
set_option maxHeartbeats 4000000 in
theorem FSX7_readFactB {P : Nat → Nat → Prop} {m0 : ev_M} (f : Nat) (rc : Nat → Int32 → ev_M → Option (Unit × ev_M)) {m : ev_M} (pD : PD P m0) (p13_2 : ¬ P 13 2) (p13_3 : ¬ P 13 3) (p13_4 : ¬ P 13 4) (p13_5 : ¬ P 13 5) (p13_6 : ¬ P 13 6) (p13_7 : ¬ P 13 7) (p15_3 : ¬ P 15 3) (p15_4 : ¬ P 15 4) (p23_1 : ¬ P 23 1) (p24 : ∀ k, ¬ P 24 k) (hrc : ∀ (x0 : Nat) (x1 : Int32) (xm : ev_M), frP P m0 xm → Fr (frP P m0) (rc x0 x1 xm)) (hm_m : frP P m0 m) : Fr (frP P m0) (FX7_readFactB f rc m) := by
  unfold FX7_readFactB
  refine Fr.bd (FRX10_isWord _ _ hm_m) (fun r1 m2 hm_m2 => ?_)
  refine Fr.ite (fun _ => ?_) (fun _ => ?_)
  · refine Fr.bd (FRX10_isSign _ _ hm_m2) (fun r3 m4 hm_m4 => ?_)
    refine Fr.ite (fun _ => ?_) (fun _ => ?_)
    · refine Fr.bd (FRX10_isWord _ _ hm_m4) (fun r5 m6 hm_m6 => ?_)
      refine Fr.ite (fun _ => ?_) (fun _ => ?_)
      · refine Fr.bd (FSX7_readComparison _ pD p13_2 p13_3 p13_4 p13_5 p13_6 p13_7 p15_3 p15_4 p23_1 p24 hm_m6) (fun _ m8 hm_m8 => ?_)
        exact Fr.ok hm_m8
      · refine Fr.bd (FRX10_advance _ p13_2 p13_5 p13_6 p13_7 hm_m6) (fun _ m10 hm_m10 => ?_)
        refine Fr.bd (FRX2_add _ 23 _ p23_1 p24 hm_m10) (fun _ m12 hm_m12 => ?_)
        exact Fr.ok hm_m12
    · refine Fr.bd (FRX9_opens _ p13_2 p13_3 p13_4 p13_5 p13_6 p13_7 p15_3 hm_m4) (fun r13 m14 hm_m14 => ?_)
      refine Fr.ite (fun _ => ?_) (fun _ => ?_)
      · exact Fr.ok hm_m14
      · refine Fr.bd (hrc _ _ _ hm_m14) (fun _ m16 hm_m16 => ?_)
        refine Fr.bd (FRX10_takeSign _ _ p13_2 p13_3 p13_4 p13_5 p13_6 p13_7 hm_m16) (fun _ m18 hm_m18 => ?_)
        refine Fr.bd (FRX9_closes _ p15_3 hm_m18) (fun _ m20 hm_m20 => ?_)
        exact Fr.ok hm_m20
  · refine Fr.bd (FRX9_opens _ p13_2 p13_3 p13_4 p13_5 p13_6 p13_7 p15_3 hm_m2) (fun r21 m22 hm_m22 => ?_)
    refine Fr.ite (fun _ => ?_) (fun _ => ?_)
    · exact Fr.ok hm_m22
    · refine Fr.bd (hrc _ _ _ hm_m22) (fun _ m24 hm_m24 => ?_)
      refine Fr.bd (FRX9_closes _ p15_3 hm_m24) (fun _ m26 hm_m26 => ?_)
      refine Fr.bd (FRX2_add _ 23 _ p23_1 p24 hm_m26) (fun _ m28 hm_m28 => ?_)
      exact Fr.ok hm_m28
set_option maxRecDepth 100000 in
set_option maxHeartbeats 4000000 in
theorem FSGB {P : Nat → Nat → Prop} {m0 : ev_M} (f : Nat) (pD : PD P m0) (p13_2 : ¬ P 13 2) (p13_3 : ¬ P 13 3) (p13_4 : ¬ P 13 4) (p13_5 : ¬ P 13 5) (p13_6 : ¬ P 13 6) (p13_7 : ¬ P 13 7) (p15_3 : ¬ P 15 3) (p15_4 : ¬ P 15 4) (p23_1 : ¬ P 23 1) (p24 : ∀ k, ¬ P 24 k) : ∀ (n j : Nat) (a : Int32) (m : ev_M), frP P m0 m → Fr (frP P m0) (FGB f n j a m) := by
  intro n
  induction n with
  | zero => intros; exact Fr.none
  | succ n ih =>
    intro j a m hm_m
    match j with
    | 0 => exact FRX7_readTestB _ _ p13_2 p13_5 p13_6 p13_7 p23_1 p24 (fun j a m h => ih j a m h) hm_m
    | 1 => exact FRX7_readBothB _ _ p13_2 p13_5 p13_6 p13_7 p23_1 p24 (fun j a m h => ih j a m h) hm_m
    | j + 2 => exact FSX7_readFactB _ _ pD p13_2 p13_3 p13_4 p13_5 p13_6 p13_7 p15_3 p15_4 p23_1 p24 (fun j a m h => ih j a m h) hm_m
set_option maxRecDepth 100000 in
set_option maxHeartbeats 4000000 in
theorem FSX7_readTest {P : Nat → Nat → Prop} {m0 : ev_M} (f : Nat) {m : ev_M} (pD : PD P m0) (p13_2 : ¬ P 13 2) (p13_3 : ¬ P 13 3) (p13_4 : ¬ P 13 4) (p13_5 : ¬ P 13 5) (p13_6 : ¬ P 13 6) (p13_7 : ¬ P 13 7) (p15_3 : ¬ P 15 3) (p15_4 : ¬ P 15 4) (p23_1 : ¬ P 23 1) (p24 : ∀ k, ¬ P 24 k)  (hm_m : frP P m0 m) : Fr (frP P m0) (FX7_readTest f m) := by
  unfold FX7_readTest
  exact FSGB _ pD p13_2 p13_3 p13_4 p13_5 p13_6 p13_7 p15_3 p15_4 p23_1 p24 _ _ _ _ hm_m
theorem FTX9_readSum {P : Nat → Nat → Prop} {m0 : ev_M} (f oc : Nat) {m : ev_M} (h15 : m.1 15 1 = Int32.ofNat oc) (hoc : okc oc) (pO : ¬ P oc 1) (pO1 : ∀ k, ¬ P (oc + 1) k) (p13_2 : ¬ P 13 2) (p13_3 : ¬ P 13 3) (p13_4 : ¬ P 13 4) (p13_5 : ¬ P 13 5) (p13_6 : ¬ P 13 6) (p13_7 : ¬ P 13 7) (p15_3 : ¬ P 15 3) (p15_4 : ¬ P 15 4) (hm_m : frP P m0 m) : Fr (frP P m0) (FX9_readSum f m) := by
  intro r m' h
  have := FSX9_readSum (P := fun a k => P a k ∨ (a = 15 ∧ k = 1)) (m0 := m) f ⟨Or.inr ⟨rfl, rfl⟩, oc, hoc, h15, (fun q => q.elim pO (fun z => by unfold okc at hoc; omega)), (fun k q => q.elim (pO1 k) (fun z => by unfold okc at hoc; omega))⟩ (fun q => q.elim p13_2 (fun z => absurd z (by decide))) (fun q => q.elim p13_3 (fun z => absurd z (by decide))) (fun q => q.elim p13_4 (fun z => absurd z (by decide))) (fun q => q.elim p13_5 (fun z => absurd z (by decide))) (fun q => q.elim p13_6 (fun z => absurd z (by decide))) (fun q => q.elim p13_7 (fun z => absurd z (by decide))) (fun q => q.elim p15_3 (fun z => absurd z (by decide))) (fun q => q.elim p15_4 (fun z => absurd z (by decide))) (frP_refl _ m) r m' h
  exact hm_m.trans (this.mono (fun a k q => Or.inl q))
theorem FTX7_readTest {P : Nat → Nat → Prop} {m0 : ev_M} (f : Nat) {m : ev_M} (h15 : m.1 15 1 = Int32.ofNat 23) (p13_2 : ¬ P 13 2) (p13_3 : ¬ P 13 3) (p13_4 : ¬ P 13 4) (p13_5 : ¬ P 13 5) (p13_6 : ¬ P 13 6) (p13_7 : ¬ P 13 7) (p15_3 : ¬ P 15 3) (p15_4 : ¬ P 15 4) (p23_1 : ¬ P 23 1) (p24 : ∀ k, ¬ P 24 k) (hm_m : frP P m0 m) : Fr (frP P m0) (FX7_readTest f m) := by
  intro r m' h
  have := FSX7_readTest (P := fun a k => P a k ∨ (a = 15 ∧ k = 1)) (m0 := m) f ⟨Or.inr ⟨rfl, rfl⟩, 23, Or.inr (Or.inr rfl), h15, (fun q => q.elim p23_1 (fun z => absurd z (by decide))), (fun k q => q.elim (p24 k) (fun z => absurd z.1 (by decide)))⟩ (fun q => q.elim p13_2 (fun z => absurd z (by decide))) (fun q => q.elim p13_3 (fun z => absurd z (by decide))) (fun q => q.elim p13_4 (fun z => absurd z (by decide))) (fun q => q.elim p13_5 (fun z => absurd z (by decide))) (fun q => q.elim p13_6 (fun z => absurd z (by decide))) (fun q => q.elim p13_7 (fun z => absurd z (by decide))) (fun q => q.elim p15_3 (fun z => absurd z (by decide))) (fun q => q.elim p15_4 (fun z => absurd z (by decide))) (fun q => q.elim p23_1 (fun z => absurd z (by decide))) (fun k q => q.elim (p24 k) (fun z => absurd z.1 (by decide))) (frP_refl _ m) r m' h
  exact hm_m.trans (this.mono (fun a k q => Or.inl q))
set_option maxRecDepth 100000 in
set_option maxHeartbeats 4000000 in
theorem FTX1_readSays {P : Nat → Nat → Prop} {m0 : ev_M} (f : Nat) (o0 : Nat) {m : ev_M} (hoc : okc (o0 + 4)) (q_o0_4_1 : ¬ P (o0 + 4) 1) (q_o0_5 : ∀ k, ¬ P (o0 + 5) k) (p13_2 : ¬ P 13 2) (p13_3 : ¬ P 13 3) (p13_4 : ¬ P 13 4) (p13_5 : ¬ P 13 5) (p13_6 : ¬ P 13 6) (p13_7 : ¬ P 13 7) (p15_1 : ¬ P 15 1) (p15_2 : ¬ P 15 2) (p15_3 : ¬ P 15 3) (p15_4 : ¬ P 15 4) (q_o0_0_11 : ¬ P o0 11) (q_o0_0_12 : ¬ P o0 12)  (hm_m : frP P m0 m) : Fr (frP P m0) (FX1_readSays f o0 m) := by
  unfold FX1_readSays FX9_begin
  rw [bd_some]
  refine Fr.bd (FTX9_readSum _ (o0 + 4) (by rw [upI_nk _ _ _ _ (by decide), up_nk _ _ _ (by decide), up_nk _ _ _ (by decide), up_at]) hoc q_o0_4_1 q_o0_5 p13_2 p13_3 p13_4 p13_5 p13_6 p13_7 p15_3 p15_4 (frP_I p15_4 (frP_I p15_3 (frP_I p15_2 (frP_I p15_1 (frP_I q_o0_0_11 hm_m)))))) (fun _ m4 hm_m4 => ?_)
  exact Fr.ok (frP_I q_o0_0_12 hm_m4)
set_option maxRecDepth 100000 in
set_option maxHeartbeats 4000000 in
theorem FTX1_readFeels {P : Nat → Nat → Prop} {m0 : ev_M} (f : Nat) (o0 : Nat) {m : ev_M} (hoc : okc (o0 + 4)) (q_o0_4_1 : ¬ P (o0 + 4) 1) (q_o0_5 : ∀ k, ¬ P (o0 + 5) k) (p13_2 : ¬ P 13 2) (p13_3 : ¬ P 13 3) (p13_4 : ¬ P 13 4) (p13_5 : ¬ P 13 5) (p13_6 : ¬ P 13 6) (p13_7 : ¬ P 13 7) (p15_1 : ¬ P 15 1) (p15_2 : ¬ P 15 2) (p15_3 : ¬ P 15 3) (p15_4 : ¬ P 15 4) (q_o0_0_13 : ¬ P o0 13) (q_o0_0_14 : ¬ P o0 14)  (hm_m : frP P m0 m) : Fr (frP P m0) (FX1_readFeels f o0 m) := by
  unfold FX1_readFeels FX9_begin
  rw [bd_some]
  refine Fr.bd (FTX9_readSum _ (o0 + 4) (by rw [upI_nk _ _ _ _ (by decide), up_nk _ _ _ (by decide), up_nk _ _ _ (by decide), up_at]) hoc q_o0_4_1 q_o0_5 p13_2 p13_3 p13_4 p13_5 p13_6 p13_7 p15_3 p15_4 (frP_I p15_4 (frP_I p15_3 (frP_I p15_2 (frP_I p15_1 (frP_I q_o0_0_13 hm_m)))))) (fun _ m4 hm_m4 => ?_)
  exact Fr.ok (frP_I q_o0_0_14 hm_m4)
set_option maxRecDepth 100000 in
set_option maxHeartbeats 4000000 in
theorem FTX1_readStatement {P : Nat → Nat → Prop} {m0 : ev_M} (f : Nat) (o0 : Nat) {m : ev_M} (hoc : okc (o0 + 4)) (q_o0_4_1 : ¬ P (o0 + 4) 1) (q_o0_5 : ∀ k, ¬ P (o0 + 5) k) (p13_2 : ¬ P 13 2) (p13_3 : ¬ P 13 3) (p13_4 : ¬ P 13 4) (p13_5 : ¬ P 13 5) (p13_6 : ¬ P 13 6) (p13_7 : ¬ P 13 7) (p15_1 : ¬ P 15 1) (p15_2 : ¬ P 15 2) (p15_3 : ¬ P 15 3) (p15_4 : ¬ P 15 4) (q_o0_0_5 : ¬ P o0 5) (q_o0_0_6 : ¬ P o0 6) (q_o0_0_8 : ¬ P o0 8) (q_o0_0_9 : ¬ P o0 9) (q_o0_0_10 : ¬ P o0 10) (q_o0_0_11 : ¬ P o0 11) (q_o0_0_12 : ¬ P o0 12) (q_o0_0_13 : ¬ P o0 13) (q_o0_0_14 : ¬ P o0 14) (q_o0_1 : ∀ k, ¬ P (o0 + 1) k) (q_o0_2 : ∀ k, ¬ P (o0 + 2) k) (q_o0_3 : ∀ k, ¬ P (o0 + 3) k)  (hm_m : frP P m0 m) : Fr (frP P m0) (FX1_readStatement f o0 m) := by
  unfold FX1_readStatement
  refine Fr.bd (FRX10_word _ hm_m) (fun r1 m2 hm_m2 => ?_)
  refine Fr.bd (FRX1_isTooMany _ o0 _ hm_m2) (fun r3 m4 hm_m4 => ?_)
  refine Fr.ite (fun _ => ?_) (fun _ => ?_)
  · refine Fr.bd (FRX10_advance _ p13_2 p13_5 p13_6 p13_7 hm_m4) (fun _ m6 hm_m6 => ?_)
    refine Fr.ite (fun _ => ?_) (fun _ => ?_)
    · refine Fr.bd (FRX1_readTower _ o0 p13_2 p13_3 p13_4 p13_5 p13_6 p13_7 q_o0_0_5 q_o0_1 q_o0_2 q_o0_3 hm_m6) (fun _ m8 hm_m8 => ?_)
      exact FRX1_readStatement_J164 _ p13_2 p13_3 p13_4 p13_5 p13_6 p13_7 hm_m8
    · refine Fr.ite (fun _ => ?_) (fun _ => ?_)
      · refine Fr.bd (FRX1_readYes _ o0 p13_2 p13_3 p13_4 p13_5 p13_6 p13_7 q_o0_0_6 hm_m6) (fun _ m13 hm_m13 => ?_)
        exact FRX1_readStatement_J164 _ p13_2 p13_3 p13_4 p13_5 p13_6 p13_7 hm_m13
      · refine Fr.ite (fun _ => ?_) (fun _ => ?_)
        · refine Fr.bd (FTX1_readSays _ o0 hoc q_o0_4_1 q_o0_5 p13_2 p13_3 p13_4 p13_5 p13_6 p13_7 p15_1 p15_2 p15_3 p15_4 q_o0_0_11 q_o0_0_12 hm_m6) (fun _ m16 hm_m16 => ?_)
          exact FRX1_readStatement_J164 _ p13_2 p13_3 p13_4 p13_5 p13_6 p13_7 hm_m16
        · refine Fr.ite (fun _ => ?_) (fun _ => ?_)
          · refine Fr.bd (FTX1_readFeels _ o0 hoc q_o0_4_1 q_o0_5 p13_2 p13_3 p13_4 p13_5 p13_6 p13_7 p15_1 p15_2 p15_3 p15_4 q_o0_0_13 q_o0_0_14 hm_m6) (fun _ m19 hm_m19 => ?_)
            exact FRX1_readStatement_J164 _ p13_2 p13_3 p13_4 p13_5 p13_6 p13_7 hm_m19
          · refine Fr.ite (fun _ => ?_) (fun _ => ?_)
            · refine Fr.bd (FRX10_takeNumber _ _ _ p13_2 p13_3 p13_4 p13_5 p13_6 p13_7 hm_m6) (fun r21 m22 hm_m22 => ?_)
              exact FRX1_readStatement_J164 _ p13_2 p13_3 p13_4 p13_5 p13_6 p13_7 (frP_I q_o0_0_8 hm_m22)
            · refine Fr.ite (fun _ => ?_) (fun _ => ?_)
              · refine Fr.bd (FRX10_takeNumber _ _ _ p13_2 p13_3 p13_4 p13_5 p13_6 p13_7 hm_m6) (fun r24 m25 hm_m25 => ?_)
                exact FRX1_readStatement_J164 _ p13_2 p13_3 p13_4 p13_5 p13_6 p13_7 (frP_I q_o0_0_9 hm_m25)
              · refine Fr.ite (fun _ => ?_) (fun _ => ?_)
                · refine Fr.bd (FRX10_takeNumber _ _ _ p13_2 p13_3 p13_4 p13_5 p13_6 p13_7 hm_m6) (fun r27 m28 hm_m28 => ?_)
                  exact FRX1_readStatement_J164 _ p13_2 p13_3 p13_4 p13_5 p13_6 p13_7 (frP_I q_o0_0_10 hm_m28)
                · refine Fr.bd (FRX10_fail _ _ _ p13_3 p13_4 p13_5 hm_m6) (fun _ m31 hm_m31 => ?_)
                  exact FRX1_readStatement_J164 _ p13_2 p13_3 p13_4 p13_5 p13_6 p13_7 hm_m31
  · refine Fr.bd (FRX10_fail _ _ _ p13_3 p13_4 p13_5 hm_m4) (fun _ m33 hm_m33 => ?_)
    exact Fr.ok hm_m33
set_option maxRecDepth 100000 in
set_option maxHeartbeats 4000000 in
theorem FTX1_readFrom_L32 {P : Nat → Nat → Prop} {m0 : ev_M} (f : Nat) (k : Int32 → ev_M → Option (Int32 × ev_M)) (o0 : Nat) (hoc : okc (o0 + 4)) (q_o0_4_1 : ¬ P (o0 + 4) 1) (q_o0_5 : ∀ k, ¬ P (o0 + 5) k) (p13_2 : ¬ P 13 2) (p13_3 : ¬ P 13 3) (p13_4 : ¬ P 13 4) (p13_5 : ¬ P 13 5) (p13_6 : ¬ P 13 6) (p13_7 : ¬ P 13 7) (p15_1 : ¬ P 15 1) (p15_2 : ¬ P 15 2) (p15_3 : ¬ P 15 3) (p15_4 : ¬ P 15 4) (q_o0_0_5 : ¬ P o0 5) (q_o0_0_6 : ¬ P o0 6) (q_o0_0_8 : ¬ P o0 8) (q_o0_0_9 : ¬ P o0 9) (q_o0_0_10 : ¬ P o0 10) (q_o0_0_11 : ¬ P o0 11) (q_o0_0_12 : ¬ P o0 12) (q_o0_0_13 : ¬ P o0 13) (q_o0_0_14 : ¬ P o0 14) (q_o0_1 : ∀ k, ¬ P (o0 + 1) k) (q_o0_2 : ∀ k, ¬ P (o0 + 2) k) (q_o0_3 : ∀ k, ¬ P (o0 + 3) k) (hk : ∀ (x0 : Int32) (xm : ev_M), frP P m0 xm → Fr (frP P m0) (k x0 xm)) : ∀ (n : Nat) (a3 : Int32) (m : ev_M), frP P m0 m → Fr (frP P m0) (FX1_readFrom_L32 f k o0 n a3 m) := by
  intro n
  induction n with
  | zero => intros; exact Fr.none
  | succ n ih =>
    intro a3 m hm_m
    rw [FX1_readFrom_L32]
    refine Fr.ite (fun _ => ?_) (fun _ => ?_)
    · exact hk _ _ hm_m
    · refine Fr.bd (FRX10_isGood _ hm_m) (fun r11 m12 hm_m12 => ?_)
      refine Fr.ite (fun _ => ?_) (fun _ => ?_)
      · exact hk _ _ hm_m12
      · refine Fr.bd (FRX10_isEnd _ hm_m12) (fun r13 m14 hm_m14 => ?_)
        refine Fr.ite (fun _ => ?_) (fun _ => ?_)
        · refine Fr.bd (FTX1_readStatement _ o0 hoc q_o0_4_1 q_o0_5 p13_2 p13_3 p13_4 p13_5 p13_6 p13_7 p15_1 p15_2 p15_3 p15_4 q_o0_0_5 q_o0_0_6 q_o0_0_8 q_o0_0_9 q_o0_0_10 q_o0_0_11 q_o0_0_12 q_o0_0_13 q_o0_0_14 q_o0_1 q_o0_2 q_o0_3 hm_m14) (fun _ m16 hm_m16 => ?_)
          exact ih _ _ hm_m16
        · exact hk _ _ hm_m14
set_option maxRecDepth 100000 in
set_option maxHeartbeats 4000000 in
theorem FTX1_readFrom {P : Nat → Nat → Prop} {m0 : ev_M} (f : Nat) (o0 : Nat) {m : ev_M} (hoc : okc (o0 + 4)) (p13_2 : ¬ P 13 2) (p13_3 : ¬ P 13 3) (p13_4 : ¬ P 13 4) (p13_5 : ¬ P 13 5) (p13_6 : ¬ P 13 6) (p13_7 : ¬ P 13 7) (p15_1 : ¬ P 15 1) (p15_2 : ¬ P 15 2) (p15_3 : ¬ P 15 3) (p15_4 : ¬ P 15 4) (q_o0_0_4 : ¬ P o0 4) (q_o0_0_5 : ¬ P o0 5) (q_o0_0_6 : ¬ P o0 6) (q_o0_0_7 : ¬ P o0 7) (q_o0_0_8 : ¬ P o0 8) (q_o0_0_9 : ¬ P o0 9) (q_o0_0_10 : ¬ P o0 10) (q_o0_0_11 : ¬ P o0 11) (q_o0_0_12 : ¬ P o0 12) (q_o0_0_13 : ¬ P o0 13) (q_o0_0_14 : ¬ P o0 14) (q_o0_1 : ∀ k, ¬ P (o0 + 1) k) (q_o0_2 : ∀ k, ¬ P (o0 + 2) k) (q_o0_3 : ∀ k, ¬ P (o0 + 3) k) (q_o0_4_1 : ¬ P (o0 + 4) 1) (q_o0_5 : ∀ k, ¬ P (o0 + 5) k)  (hm_m : frP P m0 m) : Fr (frP P m0) (FX1_readFrom f o0 m) := by
  unfold FX1_readFrom
  refine Fr.bd (FRX1_clear _ o0 q_o0_0_4 q_o0_0_5 q_o0_0_6 q_o0_0_8 q_o0_0_9 q_o0_0_10 q_o0_0_11 q_o0_0_12 q_o0_0_13 q_o0_0_14 q_o0_4_1 hm_m) (fun _ m2 hm_m2 => ?_)
  refine Fr.bd (FRX10_begin _ p13_2 p13_3 p13_4 p13_5 p13_6 p13_7 hm_m2) (fun _ m4 hm_m4 => ?_)
  refine Fr.bd (FRX10_takeWord _ _ p13_2 p13_3 p13_4 p13_5 p13_6 p13_7 hm_m4) (fun _ m6 hm_m6 => ?_)
  refine Fr.bd (FRX10_takeNumber _ _ _ p13_2 p13_3 p13_4 p13_5 p13_6 p13_7 hm_m6) (fun r7 m8 hm_m8 => ?_)
  refine Fr.bd (FRX10_takeSign _ _ p13_2 p13_3 p13_4 p13_5 p13_6 p13_7 (frP_I q_o0_0_7 hm_m8)) (fun _ m10 hm_m10 => ?_)
  exact FTX1_readFrom_L32 _ _ o0 hoc q_o0_4_1 q_o0_5 p13_2 p13_3 p13_4 p13_5 p13_6 p13_7 p15_1 p15_2 p15_3 p15_4 q_o0_0_5 q_o0_0_6 q_o0_0_8 q_o0_0_9 q_o0_0_10 q_o0_0_11 q_o0_0_12 q_o0_0_13 q_o0_0_14 q_o0_1 q_o0_2 q_o0_3 ((by
  intro e17 m18 hm_m18
  exact FRX1_readFrom_J64 _ o0 _ p13_3 p13_4 p13_5 q_o0_0_4 q_o0_0_11 q_o0_0_12 q_o0_0_13 q_o0_0_14 q_o0_4_1 q_o0_5 hm_m18)) _ _ _ hm_m10
theorem Fr.bd2 {α β : Type} {Q : ev_M → Prop} {o : Option (α × ev_M)} {k : α → ev_M → Option (β × ev_M)} (ho : Fr Q o) (hk : ∀ r m, o = some (r, m) → Q m → Fr Q (k r m)) : Fr Q (ev_bd o k) := by
  intro r m' h
  cases o with
  | none => cases h
  | some q => exact hk q.1 q.2 rfl (ho q.1 q.2 rfl) r m' h
set_option maxRecDepth 100000 in
set_option maxHeartbeats 4000000 in
theorem FTX7_read {P : Nat → Nat → Prop} {m0 : ev_M} (f : Nat) {m : ev_M} (p13_2 : ¬ P 13 2) (p13_3 : ¬ P 13 3) (p13_4 : ¬ P 13 4) (p13_5 : ¬ P 13 5) (p13_6 : ¬ P 13 6) (p13_7 : ¬ P 13 7) (p15_1 : ¬ P 15 1) (p15_2 : ¬ P 15 2) (p15_3 : ¬ P 15 3) (p15_4 : ¬ P 15 4) (p22_6 : ¬ P 22 6) (p23_1 : ¬ P 23 1) (p24 : ∀ k, ¬ P 24 k)  (hm_m : frP P m0 m) : Fr (frP P m0) (FX7_read f m) := by
  unfold FX7_read
  refine Fr.bd (FRX10_begin _ p13_2 p13_3 p13_4 p13_5 p13_6 p13_7 (frP_I p23_1 hm_m)) (fun _ m2 hm_m2 => ?_)
  unfold FX9_begin
  rw [bd_some]
  have hm_m4 := frP_I (P := P) (v := (0 : Int32)) p15_4 (frP_I (v := (0 : Int32)) p15_3 (frP_I (v := (2 : Int32)) p15_2 (frP_I (v := (Int32.ofNat 23)) p15_1 hm_m2)))
  have g15 : ((ev_up (ev_up (ev_up (ev_up m2.1 15 1 (Int32.ofNat 23)) 15 2 2) 15 3 0) 15 4 0, m2.2) : ev_M).1 15 1 = Int32.ofNat 23 := by rw [upI_nk _ _ _ _ (by decide), up_nk _ _ _ (by decide), up_nk _ _ _ (by decide), up_at]
  generalize hM4 : ((ev_up (ev_up (ev_up (ev_up m2.1 15 1 (Int32.ofNat 23)) 15 2 2) 15 3 0) 15 4 0, m2.2) : ev_M) = m4 at hm_m4 g15
  have ad : ∀ (m6 m8 : ev_M), frP P m0 m6 → m6.1 15 1 = Int32.ofNat 23 → FX10_advance f m6 = some ((), m8) → m8.1 15 1 = Int32.ofNat 23 := fun m6 m8 _ q e => by rw [(MDX10_advance e 15 1 (by unfold mdX10_advance; omega)).1]; exact q
  rw [show FX10_word f m4 = some ((if m4.1 13 5 = 1 then m4.1 13 7 else (-1)), m4) from by unfold FX10_word; split <;> rfl, bd_some]
  have hm_m6 := hm_m4
  have g22 : ∀ v, ((ev_up m4.1 22 6 v, m4.2) : ev_M).1 15 1 = Int32.ofNat 23 := fun v => by rw [upI_na _ _ _ _ (by decide)]; exact g15
  refine Fr.ite (fun _ => ?_) (fun _ => ?_)
  · refine Fr.bd2 (FRX10_advance _ p13_2 p13_5 p13_6 p13_7 (frP_I p22_6 hm_m6)) (fun _ m8 e_m8 hm_m8 => ?_)
    refine Fr.bd (FTX7_readTest _ (ad _ m8 (frP_I p22_6 hm_m6) (g22 _) e_m8) p13_2 p13_3 p13_4 p13_5 p13_6 p13_7 p15_3 p15_4 p23_1 p24 hm_m8) (fun _ m10 hm_m10 => ?_)
    exact FRX7_read_J126 _ p13_3 p13_4 p13_5 hm_m10
  · refine Fr.ite (fun _ => ?_) (fun _ => ?_)
    · refine Fr.bd2 (FRX10_advance _ p13_2 p13_5 p13_6 p13_7 (frP_I p22_6 hm_m6)) (fun _ m19 e_m19 hm_m19 => ?_)
      refine Fr.bd (FTX7_readTest _ (ad _ m19 (frP_I p22_6 hm_m6) (g22 _) e_m19) p13_2 p13_3 p13_4 p13_5 p13_6 p13_7 p15_3 p15_4 p23_1 p24 hm_m19) (fun _ m21 hm_m21 => ?_)
      exact FRX7_read_J126 _ p13_3 p13_4 p13_5 hm_m21
    · refine Fr.ite (fun _ => ?_) (fun _ => ?_)
      · refine Fr.bd2 (FRX10_advance _ p13_2 p13_5 p13_6 p13_7 (frP_I p22_6 hm_m6)) (fun _ m24 e_m24 hm_m24 => ?_)
        refine Fr.bd (FTX7_readTest _ (ad _ m24 (frP_I p22_6 hm_m6) (g22 _) e_m24) p13_2 p13_3 p13_4 p13_5 p13_6 p13_7 p15_3 p15_4 p23_1 p24 hm_m24) (fun _ m26 hm_m26 => ?_)
        exact FRX7_read_J126 _ p13_3 p13_4 p13_5 hm_m26
      · refine Fr.ite (fun _ => ?_) (fun _ => ?_)
        · refine Fr.bd2 (FRX10_advance _ p13_2 p13_5 p13_6 p13_7 (frP_I p22_6 hm_m6)) (fun _ m29 e_m29 hm_m29 => ?_)
          refine Fr.bd (FTX9_readSum _ 23 (ad _ m29 (frP_I p22_6 hm_m6) (g22 _) e_m29) (Or.inr (Or.inr rfl)) p23_1 p24 p13_2 p13_3 p13_4 p13_5 p13_6 p13_7 p15_3 p15_4 hm_m29) (fun _ m31 hm_m31 => ?_)
          exact FRX7_read_J126 _ p13_3 p13_4 p13_5 hm_m31
        · refine Fr.ite (fun _ => ?_) (fun _ => ?_)
          · refine Fr.bd2 (FRX10_advance _ p13_2 p13_5 p13_6 p13_7 (frP_I p22_6 hm_m6)) (fun _ m34 e_m34 hm_m34 => ?_)
            refine Fr.bd (FTX9_readSum _ 23 (ad _ m34 (frP_I p22_6 hm_m6) (g22 _) e_m34) (Or.inr (Or.inr rfl)) p23_1 p24 p13_2 p13_3 p13_4 p13_5 p13_6 p13_7 p15_3 p15_4 hm_m34) (fun _ m36 hm_m36 => ?_)
            exact FRX7_read_J126 _ p13_3 p13_4 p13_5 hm_m36
          · refine Fr.ite (fun _ => ?_) (fun _ => ?_)
            · refine Fr.bd2 (FRX10_advance _ p13_2 p13_5 p13_6 p13_7 (frP_I p22_6 hm_m6)) (fun _ m39 e_m39 hm_m39 => ?_)
              refine Fr.bd (FTX9_readSum _ 23 (ad _ m39 (frP_I p22_6 hm_m6) (g22 _) e_m39) (Or.inr (Or.inr rfl)) p23_1 p24 p13_2 p13_3 p13_4 p13_5 p13_6 p13_7 p15_3 p15_4 hm_m39) (fun _ m41 hm_m41 => ?_)
              exact FRX7_read_J126 _ p13_3 p13_4 p13_5 hm_m41
            · refine Fr.bd (FRX10_fail _ _ _ p13_3 p13_4 p13_5 (frP_I p22_6 hm_m6)) (fun _ m44 hm_m44 => ?_)
              exact FRX7_read_J126 _ p13_3 p13_4 p13_5 hm_m44
