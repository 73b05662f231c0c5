/-! ROWS of bits through the reference -/
def SpI (SP : Int32) (sp : Nat) : Prop := ∀ i, i < 24 → (nI i = SP ↔ i = sp)
theorem SpI.n {sp : Nat} (h : sp < 2 ^ 31) : SpI (nI sp) sp := fun i hi => neqI (by omega) h
theorem SpI.m : SpI (-1) 99 := by
  intro i hi
  constructor
  · intro h
    have := congrArg Int32.toInt h
    rw [nI_toInt (by omega)] at this
    have e : (-1 : Int32).toInt = -1 := by decide
    omega
  · intro h; omega
theorem xor0 (x : Int32) : x ^^^ 0 = x := by
  apply Int32.toBitVec_inj.mp
  rw [Int32.toBitVec_xor]
  simp
theorem netB_s {f o : Nat → Nat} {sp md i : Nat} {v : Nat → Bool} : netB f o sp md (i + 1) v = if i = sp then badB md (f i) (o i) (netB f o sp md i v) else cmpB (f i) (o i) (netB f o sp md i v) := rfl
theorem cmp_same {a b : Nat} {V : Nat → Bool} (h : ¬ (V a = true ∧ V b = false)) : ∀ x, cmpB a b V x = V x := by
  intro x
  unfold cmpB
  by_cases e : x = a
  · subst e; rw [if_pos rfl]; revert h; cases V x <;> cases V b <;> decide
  · rw [if_neg e]
    by_cases e2 : x = b
    · subst e2; rw [if_pos rfl]; revert h; cases V a <;> cases V x <;> decide
    · rw [if_neg e2]
theorem cmp_swap {a b : Nat} {V : Nat → Bool} (hab : a ≠ b) (h1 : V a = true) (h2 : V b = false) : cmpB a b V a = V b ∧ cmpB a b V b = V a ∧ ∀ x, x ≠ a → x ≠ b → cmpB a b V x = V x := by
  refine ⟨?_, ?_, fun x e1 e2 => ?_⟩
  · unfold cmpB; rw [if_pos rfl, h1, h2]; rfl
  · unfold cmpB; rw [if_neg (Ne.symm hab), if_pos rfl, h1, h2]; rfl
  · unfold cmpB; rw [if_neg e1, if_neg e2]
theorem bad1_swap {a b : Nat} {V : Nat → Bool} (hab : a ≠ b) : badB 1 a b V a = V b ∧ badB 1 a b V b = V a ∧ ∀ x, x ≠ a → x ≠ b → badB 1 a b V x = V x := by
  refine ⟨?_, ?_, fun x e1 e2 => ?_⟩
  · unfold badB; rw [if_pos rfl, if_pos rfl]
  · unfold badB; rw [if_pos rfl, if_neg (Ne.symm hab), if_pos rfl]
  · unfold badB; rw [if_pos rfl, if_neg e1, if_neg e2]
theorem bad1_same {a b : Nat} {V : Nat → Bool} (h : V a = V b) : ∀ x, badB 1 a b V x = V x := by
  intro x
  unfold badB
  rw [if_pos rfl]
  by_cases e : x = a
  · subst e; rw [if_pos rfl, h]
  · rw [if_neg e]
    by_cases e2 : x = b
    · subst e2; rw [if_pos rfl, h]
    · rw [if_neg e2]
theorem bad2_same {a b : Nat} {V : Nat → Bool} (h : ¬ (V a = false ∧ V b = true)) : ∀ x, badB 2 a b V x = V x := by
  intro x
  unfold badB
  rw [if_neg (by decide), if_pos rfl]
  by_cases e : x = a
  · subst e; rw [if_pos rfl]; revert h; cases V x <;> cases V b <;> decide
  · rw [if_neg e]
    by_cases e2 : x = b
    · subst e2; rw [if_pos rfl]; revert h; cases V a <;> cases V x <;> decide
    · rw [if_neg e2]
theorem bad2_swap {a b : Nat} {V : Nat → Bool} (hab : a ≠ b) (h1 : V a = false) (h2 : V b = true) : badB 2 a b V a = V b ∧ badB 2 a b V b = V a ∧ ∀ x, x ≠ a → x ≠ b → badB 2 a b V x = V x := by
  refine ⟨?_, ?_, fun x e1 e2 => ?_⟩
  · unfold badB; rw [if_neg (by decide), if_pos rfl, if_pos rfl, h1, h2]; rfl
  · unfold badB; rw [if_neg (by decide), if_pos rfl, if_neg (Ne.symm hab), if_pos rfl, h1, h2]; rfl
  · unfold badB; rw [if_neg (by decide), if_pos rfl, if_neg e1, if_neg e2]
theorem bad0_same {md a b : Nat} {V : Nat → Bool} (h1 : ¬ md = 1) (h2 : ¬ md = 2) : ∀ x, badB md a b V x = V x := by
  intro x
  unfold badB
  rw [if_neg h1, if_neg h2]
