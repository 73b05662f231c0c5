/-! THE CASES: what each call needs; first those that change the network's end -/
def OKi (L : Nat) (i : Int32) : Prop := ∀ (X : Option Unit), ck (i + 1) L X = X ∧ ck (i + 2) L X = X ∧ ck (i + 3) L X = X
/-- the class keeps its tape, its steps, its adversary when cells apart from those of a list change -/
theorem TapeR.keep {c m c1 m1 : Hp} (h : TapeR c m) (e1 : c1.1 11 1 = c.1 11 1) (e2 : c1.1 12 = c.1 12) (e3 : m1.1 0 11 = m.1 0 11) (e4 : m1.1 8 = m.1 8) : TapeR c1 m1 := by
  obtain ⟨t, ch, h1, h2, h3, h4⟩ := h
  exact ⟨t, ch, h1, e1.trans h2, e3.trans h3, fun i hi => ⟨(h4 i hi).1, by rw [e2]; exact (h4 i hi).2.1, by rw [e4]; exact (h4 i hi).2.2⟩⟩
theorem StR.keep {c c1 : Hp} (h : StR c) (e : c1.1 29 = c.1 29) : StR c1 := by
  intro st n h1 h2 h3
  rcases h st n h1 h2 h3 with q | q
  · exact Or.inl (fun r hr => by rw [e]; exact q r hr)
  · exact Or.inr (fun v hv => by rw [e]; exact q v hv)
theorem AdvR.keep {n : Nat} {c m c1 m1 : Hp} (h : AdvR n c m) (e1 : c1.2 32 0 = c.2 32 0) (e2 : m1.1 14 = m.1 14) : AdvR n c1 m1 := by
  obtain ⟨h1, h2, h3⟩ := h
  exact ⟨by rw [e1]; exact h1, fun r hr => by rw [e1, e2]; exact h2 r hr, by rw [e1]; exact h3⟩
theorem NetC.keep {n k : Nat} {f o : Nat → Nat} {c c1 : Hp} (h : NetC n k f o c) (e1 : c1.1 1 0 = c.1 1 0) (e2 : c1.1 1 1 = c.1 1 1) (e3 : c1.1 2 = c.1 2) (e4 : c1.1 3 = c.1 3) : NetC n k f o c1 :=
  ⟨e1.trans h.1, e2.trans h.2.1, fun i hi => by rw [e3, e4]; exact h.2.2 i hi⟩
theorem NetM.keep {n k : Nat} {f o : Nat → Nat} {m m1 : Hp} (h : NetM n k f o m) (e1 : m1.1 0 1 = m.1 0 1) (e2 : m1.1 0 2 = m.1 0 2) (e3 : m1.1 0 7 = m.1 0 7) (e4 : m1.1 1 = m.1 1) (e5 : m1.1 2 = m.1 2) (e6 : m1.1 4 = m.1 4) : NetM n k f o m1 :=
  ⟨e1.trans h.1, e2.trans h.2.1, fun i hi => by rw [e4, e5]; exact h.2.2.1 i hi, e3.trans h.2.2.2.1, fun r hr x hx => by rw [e6]; exact h.2.2.2.2 r hr x hx⟩
/-- nothing came: any network -/
theorem balN_0 {f o : Nat → Nat} : ∀ k x, balN f o k (fun _ => 0) x = 0
  | 0, _ => rfl
  | k + 1, x => by
    simp only [balN, halfN]
    rw [balN_0 k, balN_0 k, balN_0 k]
    split
    · rfl
    · split <;> rfl
theorem BalR.new {n k : Nat} {f o : Nat → Nat} {c m : Hp} (h1 : c.1 23 4 = 0) (h2 : m.1 0 14 = 0) (h3 : ∀ x, x < 6 → c.1 24 x = 0 ∧ c.1 25 x = 0) (h4 : ∀ x, x < 6 → m.1 10 x = 0) (h5 : ∀ i, i < 24 → c.1 27 i = 0) (h6 : ∀ i, i < 25 → m.1 9 i = 0) : BalR n k f o c m := by
  refine ⟨0, fun _ => 0, by omega, fun x => Nat.le_refl _, fun x _ => rfl, h1, h2, fun x hx => ?_, fun i hi => ?_⟩
  · rw [balN_0]; exact ⟨(h3 x hx).1, (h3 x hx).2, h4 x hx⟩
  · rw [balN_0, balN_0, if_neg (by omega), h5 i hi]
    exact ⟨rfl, h6 i (by omega)⟩
