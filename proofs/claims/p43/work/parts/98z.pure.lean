/-! PURE: the law on every script -/
theorem if_ok {c : Prop} [Decidable c] {a b : Option Unit} (h1 : a = some ()) (h2 : b = some ()) : (if c then a else b) = some () := by split <;> assumption
theorem ck_ok {j n : Nat} {x : Int32} {k : Option Unit} (e : x = nI j) (hj : j < n) (hn : n < 2 ^ 31) : ck x n k = k := by
  subst e
  have : ∀ (X : Option Unit) (P : Unit → Prop), Ev X P → Ev (ck (nI j) n X) P := fun X P h => Ev_ck rfl hj hn h
  cases k with
  | some u => exact Ev_eq (this (some u) (fun r => r = u) (Ev_so rfl))
  | none => unfold ck; split <;> rfl
