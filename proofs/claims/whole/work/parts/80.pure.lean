/-! the pure law -/
theorem law_pure (L : Nat) (xs : Nat → Int32) (hL : L ≤ 3072) : ∃ M' : Mem, f_L_law L xs M0 = some (1, M') ∧ (mS M').length ≤ 600000 ∧ us M' ≤ 7302250 := sorry
