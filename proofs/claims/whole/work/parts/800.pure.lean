theorem law_pure (L : Nat) (xs : Nat → Int32) (hL : L ≤ 3072) : F_L_law_18 L xs 6000 6000 M0 (0 : Int32) = some () := sorry
