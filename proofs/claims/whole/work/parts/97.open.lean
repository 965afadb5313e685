theorem law_true (L : Nat) (xs : Nat → Int32) (hL : L ≤ 256) : ∃ n : Nat, wp_L_law_l18 L xs lawQ n 0 σ0 := sorry
