/-! The same of the reference. -/
theorem jz_or01 : jz_or 0 0 = 0 ∧ jz_or 1 0 = 1 ∧ jz_or 0 1 = 1 ∧ jz_or 1 1 = 1 := by decide +kernel