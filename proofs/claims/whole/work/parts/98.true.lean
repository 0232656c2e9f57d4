theorem law_true (L : Nat) (xs : Nat → Int32) (hL : L ≤ 3072) (lo : Nat) : ∃ fu h', f_L_law fu L xs (hp0 lo) = some (1, h') := by sorry
