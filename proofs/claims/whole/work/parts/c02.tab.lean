/-! the two tables -/
theorem plM_at : plM 0 = 0xAAAAAAAAAAAAAAAA ∧ plM 1 = 0xCCCCCCCCCCCCCCCC ∧ plM 2 = 0xF0F0F0F0F0F0F0F0 ∧ plM 3 = 0xFF00FF00FF00FF00 ∧ plM 4 = 0xFFFF0000FFFF0000 ∧ plM 5 = 0xFFFFFFFF00000000 := by decide +kernel
theorem ar_at : ar 0 = 1 ∧ ar 1 = 2 ∧ ar 2 = 2 ∧ ar 3 = 2 ∧ ar 4 = 2 ∧ ar 5 = 3 ∧ ar 6 = 3 := by decide
