/-! THE PURE LAW -/
theorem law_pure (L : Nat) (xs : Nat → Int32) (hL : L ≤ 3072) : ∃ M' : Mem, f_L_law L xs M0 = some (1, M') ∧ (mS M').length ≤ room_1.cells ∧ us M' ≤ room_1.slots := law_of (fun h => s_rule h) (fun h a b c => s_row h a b c) (fun h a b c d => s_game h a b c d) L xs hL
