theorem pure_law (L : Nat) (xs : Nat → Int32) (hL : L ≤ 2048) : wp_law L xs := sorry
