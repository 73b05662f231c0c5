/-! CASE tests: the reference -/
def orB (p : Nat → Bool) : Nat → Bool
  | 0 => false
  | i + 1 => orB p i || p i
theorem orB_iff {p : Nat → Bool} : ∀ {i}, orB p i = true ↔ ∃ r, r < i ∧ p r = true
  | 0 => ⟨fun h => (by cases h), fun ⟨r, hr, _⟩ => absurd hr (by omega)⟩
  | i + 1 => by
    show (orB p i || p i) = true ↔ _
    rw [Bool.or_eq_true, orB_iff]
    constructor
    · rintro (⟨r, h1, h2⟩ | h)
      · exact ⟨r, by omega, h2⟩
      · exact ⟨i, by omega, h⟩
    · rintro ⟨r, h1, h2⟩
      by_cases e : r = i
      · rw [e] at h2; exact Or.inr h2
      · exact Or.inl ⟨r, by omega, h2⟩
/-- the tests as bits of two longs -/
def Rp (q : Nat) (p : Nat → Bool) (u w : Int64) : Prop := ∀ j, j < 64 → bt64 u j = (decide (j < 60) && (decide (j < q) && p j)) ∧ bt64 w j = (decide (60 + j < q) && p (60 + j))
theorem Rp.or {q : Nat} {p p2 : Nat → Bool} {u w u2 w2 : Int64} (h1 : Rp q p u w) (h2 : Rp q p2 u2 w2) : Rp q (fun j => p j || p2 j) (u ||| u2) (w ||| w2) := fun j hj => by
  obtain ⟨a1, a2⟩ := h1 j hj
  obtain ⟨b1, b2⟩ := h2 j hj
  rw [bt_or, bt_or, a1, a2, b1, b2]
  constructor
  · cases decide (j < 60) <;> cases decide (j < q) <;> simp
  · cases decide (60 + j < q) <;> simp
theorem Rp.congr {q : Nat} {p p2 : Nat → Bool} {u w : Int64} (h : Rp q p u w) (e : ∀ j, p j = p2 j) : Rp q p2 u w := by
  have : p = p2 := funext e
  rw [← this]; exact h
theorem Rp.z {q : Nat} : Rp q (fun _ => false) 0 0 := fun j _ => by rw [bt_0]; simp
theorem Rp.eq {q : Nat} {p p2 : Nat → Bool} {u w u2 w2 : Int64} (hq : q ≤ 72) (h1 : Rp q p u w) (h2 : Rp q p2 u2 w2) : (u = u2 ∧ w = w2) ↔ ∀ j, j < q → p j = p2 j := by
  constructor
  · rintro ⟨rfl, rfl⟩ j hj
    by_cases h60 : j < 60
    · have a := (h1 j (by omega)).1
      rw [(h2 j (by omega)).1, decide_eq_true h60, decide_eq_true hj] at a
      exact a.symm
    · have a := (h1 (j - 60) (by omega)).2
      rw [(h2 (j - 60) (by omega)).2, show 60 + (j - 60) = j by omega, decide_eq_true hj] at a
      exact a.symm
  · intro h
    constructor
    · apply bt_ext
      intro j hj
      rw [(h1 j hj).1, (h2 j hj).1]
      by_cases e : j < q
      · rw [h j e]
      · rw [decide_eq_false e]; rfl
    · apply bt_ext
      intro j hj
      rw [(h1 j hj).2, (h2 j hj).2]
      by_cases e : 60 + j < q
      · rw [h _ e]
      · rw [decide_eq_false e]; rfl
def tR (n k : Nat) (f o : Nat → Nat) (r j : Nat) : Bool := tN n k f o j r
def TabM (n k : Nat) (f o : Nat → Nat) (g : Hp) (t i : Nat) (h : Hp) : Prop := Sm [15, 16] g h ∧ ∀ r, r < 2 ^ n → Rp (if r < i then t + 1 else t) (tR n k f o r) (h.2 15 r) (h.2 16 r)
theorem Rp.next {t : Nat} {p : Nat → Bool} {u w y a : Int64} {r : Nat} (ht : t < 72) (hr : r < 64) (ha : bt64 a r = p t) (hy : y = (lshr a (nI r)) &&& 1) (h : Rp t p u w) : (t < 60 → Rp (t + 1) p (u ||| lshl y (nI t)) (w ||| 0)) ∧ (60 ≤ t → Rp (t + 1) p (u ||| 0) (w ||| lshl y (nI (t - 60)))) := by
  have hb : ∀ j, j < 64 → bt64 y j = (decide (j = 0) && p t) := fun j hj => by
    rw [hy, bt_and, bt_1]
    by_cases e : j = 0
    · rw [e, bt_lshr hr (by omega), Nat.add_zero, ha]; simp
    · rw [decide_eq_false e, Bool.and_false, Bool.false_and]
  have hs : ∀ s, s < 64 → ∀ j, j < 64 → bt64 (lshl y (nI s)) j = (decide (j = s) && p t) := fun s hs j hj => by
    rw [bt_lshl hs hj, hb _ (by omega)]
    by_cases e : j = s
    · rw [e]; simp
    · rw [decide_eq_false e]
      by_cases e2 : s ≤ j
      · rw [decide_eq_false (show ¬ j - s = 0 by omega)]; simp
      · rw [decide_eq_false e2]; rfl
  have hd : ∀ j, decide (j < t + 1) = (decide (j < t) || decide (j = t)) := fun j => by
    by_cases y1 : j < t
    · simp [y1, show j < t + 1 by omega]
    · by_cases y2 : j = t
      · simp [y2]
      · simp [y1, y2, show ¬ j < t + 1 by omega]
  constructor
  · intro h60 j hj
    obtain ⟨a1, a2⟩ := h j hj
    rw [bt_or, bt_or, bt_0, a1, a2, hs t (by omega) j hj, hd j, decide_eq_false (show ¬ 60 + j < t by omega), decide_eq_false (show ¬ 60 + j < t + 1 by omega)]
    refine ⟨?_, rfl⟩
    by_cases e : j = t
    · rw [e, decide_eq_true h60]; simp
    · rw [decide_eq_false e]; simp
  · intro h60 j hj
    obtain ⟨a1, a2⟩ := h j hj
    rw [bt_or, bt_or, bt_0, a1, a2, hs (t - 60) (by omega) j hj, hd (60 + j)]
    constructor
    · by_cases e : j < 60
      · rw [decide_eq_true e, decide_eq_true (show j < t by omega), decide_eq_true (show j < t + 1 by omega)]; simp
      · rw [decide_eq_false e]; rfl
    · by_cases e : j = t - 60
      · rw [show 60 + j = t by omega, e]; simp
      · rw [decide_eq_false e, decide_eq_false (show ¬ 60 + j = t by omega)]; simp
theorem TabM.nM {n k t i : Nat} {f o : Nat → Nat} {g h : Hp} (hM : NetM n k f o g) (hT : TabM n k f o g t i h) : NetM n k f o h := Sm.nM hM hT.1 (by decide) (by decide) (by decide) (by decide)
