/-! plain rows over tokens -/
theorem bin_ne : ∀ k ∈ [25, 26, 27, 28, 35, 36, 37, 38, 39, 40, 41, 42, 43], k ≠ 45 ∧ k ≠ 17 ∧ k ≠ 21 ∧ ¬ (18 ≤ k ∧ k ≤ 23) ∧ k ≠ 48 ∧ k ≠ 24 := by decide
