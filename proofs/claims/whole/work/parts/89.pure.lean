theorem law_pure (L : Nat) (xs : Nat → Int32) (hL : L ≤ 384) : ∃ M1, F_L_law 1 (M0 L xs) = some (1, M1) := sorry
