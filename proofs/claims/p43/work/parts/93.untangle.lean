/-! CASES untangle, outputs, wrong -/
def renN (a b w : Nat) : Nat := if w = a then b else if w = b then a else w
theorem ren_lt {n a b w : Nat} (ha : a < n) (hb : b < n) (hw : w < n) : renN a b w < n := by
  unfold renN
  split
  · exact hb
  · split <;> assumption
theorem ren_ne {a b w y : Nat} (h : w ≠ y) : renN a b w ≠ renN a b y := by
  unfold renN
  split <;> split <;> (try split) <;> (try split) <;> omega
def untS (f o : Nat → Nat) : Nat → (Nat → Nat) × (Nat → Nat) × Nat
  | 0 => (f, o, 0)
  | i + 1 => if (untS f o i).2.1 i < (untS f o i).1 i then (fun x => if i ≤ x then renN ((untS f o i).1 i) ((untS f o i).2.1 i) ((untS f o i).1 x) else (untS f o i).1 x, fun x => if i ≤ x then renN ((untS f o i).1 i) ((untS f o i).2.1 i) ((untS f o i).2.1 x) else (untS f o i).2.1 x, (untS f o i).2.2 + 1) else untS f o i
theorem unt_good {n k : Nat} {f o : Nat → Nat} (hG : Good n k f o) : ∀ i, i ≤ k → Good n k (untS f o i).1 (untS f o i).2.1 ∧ (untS f o i).2.2 ≤ i
  | 0, _ => ⟨hG, Nat.le_refl _⟩
  | i + 1, hi => by
    obtain ⟨h1, h2⟩ := unt_good hG i (by omega)
    obtain ⟨g1, g2, g3⟩ := h1.2.2.2 i (by omega)
    unfold untS
    split
    · refine ⟨⟨hG.1, hG.2.1, hG.2.2.1, fun x hx => ?_⟩, by show _ + 1 ≤ _; omega⟩
      obtain ⟨u1, u2, u3⟩ := h1.2.2.2 x hx
      dsimp only
      by_cases e : i ≤ x
      · rw [if_pos e, if_pos e]
        exact ⟨ren_lt g1 g2 u1, ren_lt g1 g2 u2, ren_ne u3⟩
      · rw [if_neg e, if_neg e]
        exact ⟨u1, u2, u3⟩
    · exact ⟨h1, by omega⟩
