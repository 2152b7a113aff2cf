/-! the reference: OWN WORDS -/
section
variable {f E : Nat} {β : Nat → Int32}
theorem ow_218 {m : ev_M} : FX12_isOwnHere_J218 f m = some (1, m) := by
  unfold FX12_isOwnHere_J218 FX12_isOwnHere_J223
  rw [if_neg n10]
theorem ow_142 {m : ev_M} : FX12_isOwnHere_J142 f m = some (1, m) := by
  unfold FX12_isOwnHere_J142 FX12_isOwnHere_J147
  rw [if_neg n10, ow_218]
theorem ow_66 {m : ev_M} : FX12_isOwnHere_J66 f m = some (1, m) := by
  unfold FX12_isOwnHere_J66 FX12_isOwnHere_J71
  rw [if_neg n10, ow_142]
theorem WA_on2 {m m' : ev_M} (h : WA m) (h2 : on2 m m') : WA m' := WA_fr h (fun a k q => h2.2 a k (fun z => (wo_ne q).1 z.1))
set_option maxHeartbeats 4000000 in
theorem r_own {m : ev_M} {x : Nat × Bool × List Nat} (hf : 4000 ≤ f) (hw : WA m) (h : YT β E m (.inr x)) : ∃ m', FX12_isOwnHere f m = some (if own (yI β E (.inr x)) = true then 1 else 0, m') ∧ YT β E m' (.inr x) ∧ AT β E m' (.inr x) ∧ on2 m m' := by
  unfold FX12_isOwnHere
  obtain ⟨k0, a0, b0, c0, d0⟩ := @rt_here f E β m (.inr x) 115 hf hw (by decide) h
  rw [show wix 115 = 0 from by decide] at a0
  have f0 := on2_tr (on2_refl m) d0
  rw [a0, bd_some]
  by_cases u0 : yI β E (.inr x) = some 0
  · rw [if_pos u0, if_neg n10, ow_66, u0]
    exact ⟨k0, rfl, b0, c0, f0⟩
  rw [if_neg u0, if_pos rfl]
  have w0 := WA_on2 hw d0
  obtain ⟨k1, a1, b1, c1, d1⟩ := @rt_here f E β k0 (.inr x) 116 hf w0 (by decide) b0
  rw [show wix 116 = 1 from by decide] at a1
  have f1 := on2_tr f0 d1
  rw [a1, bd_some]
  by_cases u1 : yI β E (.inr x) = some 1
  · rw [if_pos u1, if_neg n10, ow_66, u1]
    exact ⟨k1, rfl, b1, c1, f1⟩
  rw [if_neg u1, if_pos rfl]
  have w1 := WA_on2 w0 d1
  obtain ⟨k2, a2, b2, c2, d2⟩ := @rt_here f E β k1 (.inr x) 117 hf w1 (by decide) b1
  rw [show wix 117 = 2 from by decide] at a2
  have f2 := on2_tr f1 d2
  rw [a2, bd_some]
  by_cases u2 : yI β E (.inr x) = some 2
  · rw [if_pos u2, if_neg n10, ow_66, u2]
    exact ⟨k2, rfl, b2, c2, f2⟩
  rw [if_neg u2, if_pos rfl]
  have w2 := WA_on2 w1 d2
  obtain ⟨k3, a3, b3, c3, d3⟩ := @rt_here f E β k2 (.inr x) 118 hf w2 (by decide) b2
  rw [show wix 118 = 3 from by decide] at a3
  have f3 := on2_tr f2 d3
  rw [a3, bd_some]
  by_cases u3 : yI β E (.inr x) = some 3
  · rw [if_pos u3, if_neg n10, ow_66, u3]
    exact ⟨k3, rfl, b3, c3, f3⟩
  rw [if_neg u3, if_pos rfl]
  have w3 := WA_on2 w2 d3
  obtain ⟨k4, a4, b4, c4, d4⟩ := @rt_here f E β k3 (.inr x) 119 hf w3 (by decide) b3
  rw [show wix 119 = 4 from by decide] at a4
  have f4 := on2_tr f3 d4
  rw [a4, bd_some]
  by_cases u4 : yI β E (.inr x) = some 4
  · rw [if_pos u4, if_neg n10, ow_66, u4]
    exact ⟨k4, rfl, b4, c4, f4⟩
  rw [if_neg u4, if_pos rfl]
  have w4 := WA_on2 w3 d4
  obtain ⟨k5, a5, b5, c5, d5⟩ := @rt_here f E β k4 (.inr x) 120 hf w4 (by decide) b4
  rw [show wix 120 = 5 from by decide] at a5
  have f5 := on2_tr f4 d5
  rw [a5, bd_some]
  by_cases u5 : yI β E (.inr x) = some 5
  · rw [if_pos u5, if_neg n10, ow_66, u5]
    exact ⟨k5, rfl, b5, c5, f5⟩
  rw [if_neg u5, if_pos rfl]
  have w5 := WA_on2 w4 d5
  unfold FX12_isOwnHere_J71
  rw [if_pos rfl]
  obtain ⟨k6, a6, b6, c6, d6⟩ := @rt_here f E β k5 (.inr x) 121 hf w5 (by decide) b5
  rw [show wix 121 = 6 from by decide] at a6
  have f6 := on2_tr f5 d6
  rw [a6, bd_some]
  by_cases u6 : yI β E (.inr x) = some 6
  · rw [if_pos u6, if_neg n10, ow_142, u6]
    exact ⟨k6, rfl, b6, c6, f6⟩
  rw [if_neg u6, if_pos rfl]
  have w6 := WA_on2 w5 d6
  obtain ⟨k7, a7, b7, c7, d7⟩ := @rt_here f E β k6 (.inr x) 122 hf w6 (by decide) b6
  rw [show wix 122 = 7 from by decide] at a7
  have f7 := on2_tr f6 d7
  rw [a7, bd_some]
  by_cases u7 : yI β E (.inr x) = some 7
  · rw [if_pos u7, if_neg n10, ow_142, u7]
    exact ⟨k7, rfl, b7, c7, f7⟩
  rw [if_neg u7, if_pos rfl]
  have w7 := WA_on2 w6 d7
  obtain ⟨k8, a8, b8, c8, d8⟩ := @rt_here f E β k7 (.inr x) 123 hf w7 (by decide) b7
  rw [show wix 123 = 8 from by decide] at a8
  have f8 := on2_tr f7 d8
  rw [a8, bd_some]
  by_cases u8 : yI β E (.inr x) = some 8
  · rw [if_pos u8, if_neg n10, ow_142, u8]
    exact ⟨k8, rfl, b8, c8, f8⟩
  rw [if_neg u8, if_pos rfl]
  have w8 := WA_on2 w7 d8
  obtain ⟨k9, a9, b9, c9, d9⟩ := @rt_here f E β k8 (.inr x) 124 hf w8 (by decide) b8
  rw [show wix 124 = 9 from by decide] at a9
  have f9 := on2_tr f8 d9
  rw [a9, bd_some]
  by_cases u9 : yI β E (.inr x) = some 9
  · rw [if_pos u9, if_neg n10, ow_142, u9]
    exact ⟨k9, rfl, b9, c9, f9⟩
  rw [if_neg u9, if_pos rfl]
  have w9 := WA_on2 w8 d9
  obtain ⟨k10, a10, b10, c10, d10⟩ := @rt_here f E β k9 (.inr x) 125 hf w9 (by decide) b9
  rw [show wix 125 = 10 from by decide] at a10
  have f10 := on2_tr f9 d10
  rw [a10, bd_some]
  by_cases u10 : yI β E (.inr x) = some 10
  · rw [if_pos u10, if_neg n10, ow_142, u10]
    exact ⟨k10, rfl, b10, c10, f10⟩
  rw [if_neg u10, if_pos rfl]
  have w10 := WA_on2 w9 d10
  obtain ⟨k11, a11, b11, c11, d11⟩ := @rt_here f E β k10 (.inr x) 126 hf w10 (by decide) b10
  rw [show wix 126 = 11 from by decide] at a11
  have f11 := on2_tr f10 d11
  rw [a11, bd_some]
  by_cases u11 : yI β E (.inr x) = some 11
  · rw [if_pos u11, if_neg n10, ow_142, u11]
    exact ⟨k11, rfl, b11, c11, f11⟩
  rw [if_neg u11, if_pos rfl]
  have w11 := WA_on2 w10 d11
  unfold FX12_isOwnHere_J147
  rw [if_pos rfl]
  obtain ⟨k12, a12, b12, c12, d12⟩ := @rt_here f E β k11 (.inr x) 127 hf w11 (by decide) b11
  rw [show wix 127 = 12 from by decide] at a12
  have f12 := on2_tr f11 d12
  rw [a12, bd_some]
  by_cases u12 : yI β E (.inr x) = some 12
  · rw [if_pos u12, if_neg n10, ow_218, u12]
    exact ⟨k12, rfl, b12, c12, f12⟩
  rw [if_neg u12, if_pos rfl]
  have w12 := WA_on2 w11 d12
  obtain ⟨k13, a13, b13, c13, d13⟩ := @rt_here f E β k12 (.inr x) 128 hf w12 (by decide) b12
  rw [show wix 128 = 13 from by decide] at a13
  have f13 := on2_tr f12 d13
  rw [a13, bd_some]
  by_cases u13 : yI β E (.inr x) = some 13
  · rw [if_pos u13, if_neg n10, ow_218, u13]
    exact ⟨k13, rfl, b13, c13, f13⟩
  rw [if_neg u13, if_pos rfl]
  have w13 := WA_on2 w12 d13
  obtain ⟨k14, a14, b14, c14, d14⟩ := @rt_here f E β k13 (.inr x) 129 hf w13 (by decide) b13
  rw [show wix 129 = 14 from by decide] at a14
  have f14 := on2_tr f13 d14
  rw [a14, bd_some]
  by_cases u14 : yI β E (.inr x) = some 14
  · rw [if_pos u14, if_neg n10, ow_218, u14]
    exact ⟨k14, rfl, b14, c14, f14⟩
  rw [if_neg u14, if_pos rfl]
  have w14 := WA_on2 w13 d14
  obtain ⟨k15, a15, b15, c15, d15⟩ := @rt_here f E β k14 (.inr x) 130 hf w14 (by decide) b14
  rw [show wix 130 = 15 from by decide] at a15
  have f15 := on2_tr f14 d15
  rw [a15, bd_some]
  by_cases u15 : yI β E (.inr x) = some 15
  · rw [if_pos u15, if_neg n10, ow_218, u15]
    exact ⟨k15, rfl, b15, c15, f15⟩
  rw [if_neg u15, if_pos rfl]
  have w15 := WA_on2 w14 d15
  obtain ⟨k16, a16, b16, c16, d16⟩ := @rt_here f E β k15 (.inr x) 131 hf w15 (by decide) b15
  rw [show wix 131 = 16 from by decide] at a16
  have f16 := on2_tr f15 d16
  rw [a16, bd_some]
  by_cases u16 : yI β E (.inr x) = some 16
  · rw [if_pos u16, if_neg n10, ow_218, u16]
    exact ⟨k16, rfl, b16, c16, f16⟩
  rw [if_neg u16, if_pos rfl]
  have w16 := WA_on2 w15 d16
  obtain ⟨k17, a17, b17, c17, d17⟩ := @rt_here f E β k16 (.inr x) 132 hf w16 (by decide) b16
  rw [show wix 132 = 17 from by decide] at a17
  have f17 := on2_tr f16 d17
  rw [a17, bd_some]
  by_cases u17 : yI β E (.inr x) = some 17
  · rw [if_pos u17, if_neg n10, ow_218, u17]
    exact ⟨k17, rfl, b17, c17, f17⟩
  rw [if_neg u17, if_pos rfl]
  have w17 := WA_on2 w16 d17
  unfold FX12_isOwnHere_J223
  rw [if_pos rfl]
  obtain ⟨k18, a18, b18, c18, d18⟩ := @rt_here f E β k17 (.inr x) 133 hf w17 (by decide) b17
  rw [show wix 133 = 18 from by decide] at a18
  have f18 := on2_tr f17 d18
  rw [a18, bd_some]
  by_cases u18 : yI β E (.inr x) = some 18
  · rw [if_pos u18, if_neg n10, u18]
    exact ⟨k18, rfl, b18, c18, f18⟩
  rw [if_neg u18, if_pos rfl]
  have w18 := WA_on2 w17 d18
  obtain ⟨k19, a19, b19, c19, d19⟩ := @rt_here f E β k18 (.inr x) 134 hf w18 (by decide) b18
  rw [show wix 134 = 19 from by decide] at a19
  have f19 := on2_tr f18 d19
  rw [a19, bd_some]
  by_cases u19 : yI β E (.inr x) = some 19
  · rw [if_pos u19, if_neg n10, u19]
    exact ⟨k19, rfl, b19, c19, f19⟩
  rw [if_neg u19, if_pos rfl]
  have w19 := WA_on2 w18 d19
  obtain ⟨k20, a20, b20, c20, d20⟩ := @rt_here f E β k19 (.inr x) 135 hf w19 (by decide) b19
  rw [show wix 135 = 20 from by decide] at a20
  have f20 := on2_tr f19 d20
  rw [a20, bd_some]
  by_cases u20 : yI β E (.inr x) = some 20
  · rw [if_pos u20, if_neg n10, u20]
    exact ⟨k20, rfl, b20, c20, f20⟩
  rw [if_neg u20, if_pos rfl]
  have w20 := WA_on2 w19 d20
  obtain ⟨k21, a21, b21, c21, d21⟩ := @rt_here f E β k20 (.inr x) 136 hf w20 (by decide) b20
  rw [show wix 136 = 21 from by decide] at a21
  have f21 := on2_tr f20 d21
  rw [a21, bd_some]
  by_cases u21 : yI β E (.inr x) = some 21
  · rw [if_pos u21, if_neg n10, u21]
    exact ⟨k21, rfl, b21, c21, f21⟩
  rw [if_neg u21, if_pos rfl]
  have w21 := WA_on2 w20 d21
  obtain ⟨k22, a22, b22, c22, d22⟩ := @rt_here f E β k21 (.inr x) 137 hf w21 (by decide) b21
  rw [show wix 137 = 22 from by decide] at a22
  have f22 := on2_tr f21 d22
  rw [a22, bd_some]
  by_cases u22 : yI β E (.inr x) = some 22
  · rw [if_pos u22, if_neg n10, u22]
    exact ⟨k22, rfl, b22, c22, f22⟩
  rw [if_neg u22, if_pos rfl]
  have w22 := WA_on2 w21 d22
  refine ⟨k22, ?_, b22, c22, f22⟩
  have hz : own (yI β E (.inr x)) = false := by
    cases hI : yI β E (.inr x) with
    | none => rfl
    | some w =>
      refine decide_eq_false (fun q => ?_)
      rw [hI] at u0 u1 u2 u3 u4 u5 u6 u7 u8 u9 u10 u11 u12 u13 u14 u15 u16 u17 u18 u19 u20 u21 u22
      match w, q with
      | 0, _ => exact u0 rfl
      | 1, _ => exact u1 rfl
      | 2, _ => exact u2 rfl
      | 3, _ => exact u3 rfl
      | 4, _ => exact u4 rfl
      | 5, _ => exact u5 rfl
      | 6, _ => exact u6 rfl
      | 7, _ => exact u7 rfl
      | 8, _ => exact u8 rfl
      | 9, _ => exact u9 rfl
      | 10, _ => exact u10 rfl
      | 11, _ => exact u11 rfl
      | 12, _ => exact u12 rfl
      | 13, _ => exact u13 rfl
      | 14, _ => exact u14 rfl
      | 15, _ => exact u15 rfl
      | 16, _ => exact u16 rfl
      | 17, _ => exact u17 rfl
      | 18, _ => exact u18 rfl
      | 19, _ => exact u19 rfl
      | 20, _ => exact u20 rfl
      | 21, _ => exact u21 rfl
      | 22, _ => exact u22 rfl
      | n + 23, q => omega
  rw [hz, if_neg (by decide)]
end
