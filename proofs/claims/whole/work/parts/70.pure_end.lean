theorem law_pure (xs : Nat → Int32) (L : Nat) (hL : L ≤ 2560) : ∃ g1 g2, fX7_init = some g1 ∧ (∀ j, 146 ≤ j → g1 j = fun _ => 0) ∧ fX8_init g1 = some g2 ∧ fL_law_18 xs L FU g2 0 = some 1 := sorry
