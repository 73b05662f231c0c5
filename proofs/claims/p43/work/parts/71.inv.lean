/-! THE INVARIANT between the class and the reference -/
def cmpN (a b : Nat) (v : Nat → Nat) : Nat → Nat := fun x => if x = a then min (v a) (v b) else if x = b then max (v a) (v b) else v x
def netN (f o : Nat → Nat) : Nat → (Nat → Nat) → Nat → Nat
  | 0, v => v
  | k + 1, v => cmpN (f k) (o k) (netN f o k v)
def bitsN (r : Nat) : Nat → Nat := fun x => if r.testBit x then 1 else 0
def facN : Nat → Nat
  | 0 => 1
  | n + 1 => (n + 1) * facN n
/-- the rows in the order of the reference's table -/
def lehm : Nat → List Nat → Nat → List Nat
  | 0, _, _ => []
  | n + 1, pool, r => pool.getD (r / facN n) 0 :: lehm n (pool.eraseIdx (r / facN n)) (r % facN n)
def rowT (n r : Nat) : Nat → Nat := fun x => (lehm n (List.range n) r).getD x 0
def Good (n k : Nat) (f o : Nat → Nat) : Prop := 2 ≤ n ∧ n ≤ 6 ∧ k ≤ 24 ∧ ∀ i, i < k → f i < n ∧ o i < n ∧ f i ≠ o i
def NetC (n k : Nat) (f o : Nat → Nat) (c : Hp) : Prop := c.1 1 0 = nI n ∧ c.1 1 1 = nI k ∧ ∀ i, i < k → c.1 2 i = nI (f i) ∧ c.1 3 i = nI (o i)
def NetM (n k : Nat) (f o : Nat → Nat) (m : Hp) : Prop := m.1 0 1 = nI n ∧ m.1 0 2 = nI k ∧ (∀ i, i < k → m.1 1 i = nI (f i) ∧ m.1 2 i = nI (o i)) ∧ m.1 0 7 = nI (facN n) ∧ ∀ r, r < facN n → ∀ x, x < n → m.1 4 (6 * r + x) = nI (rowT n r x)
def chOk (x : Nat) : Prop := (48 ≤ x ∧ x ≤ 53) ∨ x = 58 ∨ x = 47 ∨ x = 32
def TapeR (c m : Hp) : Prop := ∃ (t : Nat) (ch : Nat → Nat), t ≤ 40 ∧ c.1 11 1 = nI t ∧ m.1 0 11 = nI t ∧ ∀ i, i < t → chOk (ch i) ∧ c.1 12 i = nI (ch i) ∧ m.1 8 i = nI (ch i)
/-- tokens: what came on each wire, run through the comparators one by one: halves -/
def halfN (a b : Nat) (v : Nat → Nat) : Nat → Nat := fun x => if x = a then (v a + v b + 1) / 2 else if x = b then (v a + v b) / 2 else v x
def balN (f o : Nat → Nat) : Nat → (Nat → Nat) → Nat → Nat
  | 0, v => v
  | k + 1, v => halfN (f k) (o k) (balN f o k v)
def BalR (n k : Nat) (f o : Nat → Nat) (c m : Hp) : Prop := ∃ (t : Nat) (v : Nat → Nat), t ≤ 1000 ∧ (∀ x, v x ≤ t) ∧ (∀ x, n ≤ x → v x = 0) ∧ c.1 23 4 = nI t ∧ m.1 0 14 = nI t ∧ (∀ x, x < 6 → c.1 24 x = nI (v x) ∧ c.1 25 x = nI (balN f o k v x) ∧ m.1 10 x = nI (balN f o k v x)) ∧ ∀ i, i < 24 → c.1 27 i = (if i < k ∧ (balN f o i v (f i) + balN f o i v (o i)) % 2 = 1 then 1 else 0) ∧ m.1 9 i = c.1 27 i
def PermN (n : Nat) (v : Nat → Nat) : Prop := (∀ x, x < n → v x < n) ∧ ∀ x y, x < n → y < n → v x = v y → x = y
/-- which rows can stand behind so many comparators, the first one being the sorted one -/
def swapN (a b : Nat) (v : Nat → Nat) : Nat → Nat := fun x => if x = a then v b else if x = b then v a else v x
def reachB (n : Nat) (f o : Nat → Nat) : Nat → (Nat → Nat) → Bool
  | 0, v => (List.range n).all (fun x => v x == x)
  | k + 1, v => reachB n f o k v || reachB n f o k (swapN (f k) (o k) v)
def ctB (p : Nat → Bool) : Nat → Nat
  | 0 => 0
  | n + 1 => ctB p n + (if p n = true then 1 else 0)
/-- the number of a row of all values, as the class has it -/
def rankN (v : Nat → Nat) : Nat → Nat
  | 0 => 0
  | x + 1 => rankN v x + ctB (fun u => decide (v u < v x)) x * facN x
def SwR (n k : Nat) (f o : Nat → Nat) (c : Hp) : Prop := c.1 20 2 = 0 ∨ (c.1 20 2 = nI (ctB (fun r => reachB n f o k (rowT n r)) (facN n)) ∧ ∀ v, PermN n v → ∃ l, l ≤ k + 1 ∧ c.1 22 (rankN v n) = nI l ∧ ∀ i, i ≤ k → (reachB n f o i v = true ↔ 1 ≤ l ∧ l ≤ i + 1))
/-- steps on rows of n values -/
def flipN (a b : Nat) (v : Nat → Nat) : Nat → Nat := fun x => if a ≤ x ∧ x < b then v (a + b - 1 - x) else v x
/-- the steps as rows of sources -/
def blkS (a b e : Nat) : Nat → Nat := fun x => if a ≤ x ∧ x < e then (if x + b - a < e then x + b - a else x + b - a - (e - a)) else x
def chgL (w n : Nat) : List (Nat → Nat) := (List.range n).flatMap (fun a => (List.range (min w (n - 1 - a))).map (fun d => swapN a (a + 1 + d) (fun x => x)))
def flpL (n : Nat) : List (Nat → Nat) := (List.range (n - 1)).map (fun d => flipN 0 (2 + d) (fun x => x))
def blkL (n : Nat) : List (Nat → Nat) := (List.range n).flatMap (fun a => (List.range (n - 1 - a)).flatMap (fun i => (List.range (n - 1 - a - i)).map (fun j => blkS a (a + 1 + i) (a + 1 + i + 1 + j))))
def stepsN (st n : Nat) : List (Nat → Nat) := if st = 0 then chgL 1 n else if st = 1 then chgL (n - 1) n else if st = 2 then flpL n else blkL n
/-- one step from the row of a number to that of another; within so many from the first -/
def stE (st n p q : Nat) : Prop := ∃ s, s ∈ stepsN st n ∧ ∀ x, x < n → rowT n q x = rowT n p (s x)
def stF (st n : Nat) : Nat → Nat → Prop
  | 0, r => r = 0
  | d + 1, r => stF st n d r ∨ ∃ p, p < facN n ∧ stF st n d p ∧ stE st n p r
def begN (n : Nat) : Nat := if n = 2 then 0 else if n = 3 then 2 else if n = 4 then 8 else if n = 5 then 32 else 152
def StR (c : Hp) : Prop := ∀ st n, st < 4 → 2 ≤ n → n ≤ 6 → (∀ r, r < facN n → c.1 29 (st * 872 + begN n + r) = 0) ∨ ∀ r, r < facN n → ∃ d, d < 100 ∧ c.1 29 (st * 872 + begN n + rankN (rowT n r) n) = nI (d + 1) ∧ ∀ e, stF st n e r ↔ d ≤ e
def bt64 (z : Int64) (j : Nat) : Bool := z.toBitVec.getLsbD j
def consN (z : Int64) (n : Nat) (v : Nat → Nat) : Bool := (List.range n).all (fun hi => (List.range n).all (fun lo => !bt64 z (6 * hi + lo) || decide (v lo < v hi)))
def AdvR (n : Nat) (c m : Hp) : Prop := (∀ j, bt64 (c.2 32 0) j = true → j / 6 < n ∧ j % 6 < n) ∧ (∀ r, r < facN n → m.1 14 r = if consN (c.2 32 0) n (rowT n r) = true then 1 else 0) ∧ ∃ r, r < facN n ∧ consN (c.2 32 0) n (rowT n r) = true
