/-! the sequences are the rows of all values -/
def ixN (l : List Nat) (x : Nat) : Nat := match l with
  | [] => 0
  | y :: l2 => bif Nat.beq y x then 0 else ixN l2 x + 1
def invN (n : Nat) (v : Nat → Nat) (y : Nat) : Nat := (List.range n).foldr (fun x s => bif Nat.beq (v x) y then x else s) 0
/-- from the least value on -/
def seqA (n r : Nat) : List Nat := (List.range n).map (invN n (rowT n r))
/-- from the greatest value on -/
def seqD (n r : Nat) : List Nat := (seqA n r).reverse
def numA (n : Nat) (l : List Nat) : Nat := num n (ixN l)
def numD (n : Nat) (l : List Nat) : Nat := num n (fun x => n - 1 - ixN l x)
def orL : List Nat → Nat
  | [] => 0
  | x :: l => orL l ||| 2 ^ x
def leqB : List Nat → List Nat → Bool
  | [], [] => true
  | x :: l, y :: l2 => Nat.beq x y && leqB l l2
  | _, _ => false
theorem leq_eq : ∀ {l l2 : List Nat}, leqB l l2 = true → l = l2
  | [], [], _ => rfl
  | x :: l, y :: l2, h => by
    have h2 : (Nat.beq x y && leqB l l2) = true := h
    rw [Bool.and_eq_true] at h2
    rw [Nat.eq_of_beq_eq_true h2.1, leq_eq h2.2]
  | [], _ :: _, h => by cases h
  | _ :: _, [], h => by cases h
def chkG (n : Nat) (nu : List Nat → Nat) (se : Nat → List Nat) : Bool := (gen n n (2 ^ n - 1)).all (fun l => leqB (se (nu l)) l && Nat.blt (nu l) (facN n)) && Nat.beq (gen n n (2 ^ n - 1)).length (facN n) && Nat.beq (orL ((gen n n (2 ^ n - 1)).map nu)) (2 ^ facN n - 1)
theorem chkA : ∀ n, n < 7 → chkG n (numA n) (seqA n) = true := by decide +kernel
theorem chkD : ∀ n, n < 7 → chkG n (numD n) (seqD n) = true := by decide +kernel
def chkSA (n r : Nat) : Bool := Nat.beq (seqA n r).length n && (List.range n).all (fun j => Nat.beq (mkS ((seqA n r).drop j)) (thQ n j (rowT n r)))
theorem seqA_ok : ∀ n, n < 7 → ∀ r, r < facN n → chkSA n r = true := by decide +kernel
def chkSD (n r : Nat) : Bool := Nat.beq (seqD n r).length n && (List.range n).all (fun x => Nat.beq ((seqD n r).getD (n - 1 - rowT n r x) 0) x && (List.range 6).all (fun lo => (mkS ((seqD n r).drop (n - 1 - rowT n r x + 1))).testBit lo == (Nat.blt lo n && Nat.blt (rowT n r lo) (rowT n r x))))
theorem seqD_ok : ∀ n, n < 7 → ∀ r, r < facN n → chkSD n r = true := by decide +kernel
