/-! CASES far, manyFar, step -/
theorem beg_mono : ∀ n, n < 7 → ∀ p, p < n → begN p + facN p ≤ begN n ∨ p < 2 := by decide
theorem pl_apart {st n st2 n2 i : Nat} (hn : n ≤ 6) (hn2 : n2 ≤ 6) (h1 : 2 ≤ n) (h2 : 2 ≤ n2) (hi : i < facN n2) (hne : ¬ (st2 = st ∧ n2 = n)) : st2 * 872 + begN n2 + i < st * 872 + begN n ∨ st * 872 + begN n + facN n ≤ st2 * 872 + begN n2 + i := by
  have b1 := beg_lt n (by omega)
  have b2 := beg_lt n2 (by omega)
  by_cases e1 : st2 < st
  · left
    have : (st2 + 1) * 872 ≤ st * 872 := Nat.mul_le_mul_right _ e1
    omega
  · by_cases e2 : st < st2
    · right
      have : (st + 1) * 872 ≤ st2 * 872 := Nat.mul_le_mul_right _ e2
      omega
    · have e3 : st2 = st := by omega
      subst e3
      by_cases e4 : n2 < n
      · have := (beg_mono n (by omega) n2 e4).resolve_right (by omega)
        left; omega
      · by_cases e5 : n < n2
        · have := (beg_mono n2 (by omega) n e5).resolve_right (by omega)
          right; omega
        · exact absurd ⟨rfl, by omega⟩ hne
theorem StR.learnt {st n : Nat} {c h : Hp} (hn : n ≤ 6) (hn2 : 2 ≤ n) (hS : StR c) (hk : KnC st n h) (ho : ∀ y, (y < st * 872 + begN n ∨ st * 872 + begN n + facN n ≤ y) → h.1 29 y = c.1 29 y) : StR h := by
  intro st2 n2 h1 h2 h3
  by_cases e : st2 = st ∧ n2 = n
  · obtain ⟨rfl, rfl⟩ := e
    exact Or.inr hk
  · rcases hS st2 n2 h1 h2 h3 with q | q
    · exact Or.inl (fun r hr => by rw [ho _ (pl_apart hn h3 hn2 h2 hr e)]; exact q r hr)
    · refine Or.inr (fun r hr => ?_)
      obtain ⟨d, p1, p2, p3⟩ := q r hr
      refine ⟨d, p1, ?_, p3⟩
      rw [ho _ (pl_apart hn h3 hn2 h2 (rank_lt h3 (row_perm h3 hr)) e)]
      exact p2
theorem d_uniq {st n r a b : Nat} (h1 : ∀ e, stF st n e r ↔ a ≤ e) (h2 : ∀ e, stF st n e r ↔ b ≤ e) : a = b := by
  have x := (h2 a).mp ((h1 a).mpr (Nat.le_refl _))
  have y := (h1 b).mp ((h2 b).mpr (Nat.le_refl _))
  omega
theorem st4 {x : Int32} : (x < 0 ∨ (3 : Int32) < x) ∨ ∃ st, st < 4 ∧ x = nI st := by
  rcases wire_or (n := 4) (by omega) x with h | h
  · exact Or.inl (cm_in4.mpr h)
  · exact Or.inr h
theorem C_stp_t {st : Nat} {c : Hp} (h : st < 4) : f_X10_checkSteps c (nI st) = some (.inr c) := by
  refine Ev_eq ?_
  unfold f_X10_checkSteps
  exact Ev_jn0 False (fun h => h.elim) (fun j hj => Ev_f (nI_pos (by omega)) (Ev_t (le_n (b := 3) (by omega) (by omega)) (Ev_so rfl)))
theorem C_stp_f {x : Int32} {c : Hp} (h : x < 0 ∨ (3 : Int32) < x) : f_X10_checkSteps c x = some (.inl ("java/lang/IllegalArgumentException", c)) := by
  refine Ev_eq ?_
  unfold f_X10_checkSteps
  refine Ev_jn0 True (fun _ => Ev_so rfl) (fun j hj => Ev_i (fun _ => hj trivial) (fun h0 => Ev_f ?_ (hj trivial)))
  exact Int32.not_le.mpr (h.resolve_left h0)
theorem nI_sub1 {a : Nat} : nI (a + 1) - 1 = nI a := by
  rw [n1]
  exact nsub (by omega)
/-- the reference refuses, or goes on from the row that it has laid -/
theorem M_pre {n k st : Nat} {f o : Nat → Nat} {m : Hp} {r : Int32 × Hp} (hM : NetM n k f o m) (b0 : Sm [5] m r.2) : NetM n k f o (wF r.2 0 0 0) := (Sm.nM hM b0 (by decide) (by decide) (by decide) (by decide)).t
