/-! the reference's words at the start -/
theorem wa0_all : ∀ o, o < 177 → isWo o = true → ∀ k, k < 6 → k < wsz o → cM355.1 o k = wch (wix o) k := by decide +kernel
theorem WA_0 : WA cM355 := fun o ho k hk => wa0_all o (wo_lt ho) ho k (by
  have := (wo_all o (wo_lt ho) ho).2.2.1
  omega) hk
