theorem law_pure (L : Nat) (xs : Nat → Int32) (hL : L ≤ 3072) : ∃ r0 r1 : gS, f_X9_init_tail s00 = some r0 ∧ f_L_law_tail L xs gφ r0 0 = some (1, r1) := sorry
