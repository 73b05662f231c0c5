theorem pure_all : ∀ (L : Nat) (xs : Nat → Int32), L ≤ 2048 → lawP L xs = some () := by sorry
