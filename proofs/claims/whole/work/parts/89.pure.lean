theorem pure_law : PURE := by
  sorry
