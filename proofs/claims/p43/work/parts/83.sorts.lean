/-! UNSORTED ROWS, what tells: the reference; cases sorts, bears -/
theorem shl_n {n : Nat} (hn : n ≤ 6) : ishl 1 (nI n) = nI (2 ^ n) := by
  have := ishl_n (a := 1) (k := n) (by omega)
  rw [Nat.one_mul] at this; exact this
