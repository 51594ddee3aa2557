theorem law_pure : LawPure := by
  intro xs L hL
  sorry
