theorem law_ok (xs : Nat → Int32) {L : Nat} (hL : L ≤ 2560) : gLoop xs L 513 0 (M0, N0, 0, 0) = some () := sorry
