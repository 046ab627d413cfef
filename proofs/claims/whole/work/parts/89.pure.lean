/-! the pure part: for every script the two answer alike -/
theorem law_pure (L : Nat) (xs : Nat → Int) (r1 r2 r3 r4 : Nat → Int) (hL : L ≤ 3072) (hxs : ∀ j, Rg (xs j)) (h1 : ∀ j : Nat, 0 ≤ j → j < 95 → r1 j = (if j = 0 then 3 else 5)) (h2 : ∀ j : Nat, 0 ≤ j → j < 120 → r2 j = (-1)) (h3 : ∀ j : Nat, 32 ≤ j → j < 127 → r3 j = (if j = 32 then 3 else 5)) (h4 : ∀ j : Nat, 0 ≤ j → j < 120 → r4 j = (-1)) : ∃ n : Nat, wp_L_law_18 L xs n 0 (M00 r1 r2 r3 r4) := by
  sorry
