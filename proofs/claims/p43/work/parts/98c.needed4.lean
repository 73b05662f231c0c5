/-! CASE needed: the reference's numbers -/
theorem nd_uniq {P : Nat → Prop} {d e : Nat} (h1 : ndP P d) (h2 : ndP P e) : d = e := by
  have a := (h2 d).mp ((h1 d).mpr (Nat.le_refl _))
  have b := (h1 e).mp ((h2 e).mpr (Nat.le_refl _))
  omega
def vlM (n : Nat) (S : List Nat) (m : Hp) (sz i : Nat) : Prop := ∀ j, j < S.length → (pcM (S.getD j 0) < sz ∨ (pcM (S.getD j 0) = sz ∧ j < i)) → ∃ d, d ≤ 6 ∧ m.1 18 j = nI d ∧ ndP (fun q => SmP n q (S.getD j 0)) d
theorem mz_opp {n a b : Nat} {z : Int64} (hn : n ≤ 6) (ha : a < n) (hb : b < n) (hab : a ≠ b) : mzN n z ^^^ (mzN n z &&& liN n (mzN n z) a b) = liN n (mzN n z) b a := by
  apply Nat.eq_of_testBit_eq
  intro r
  rw [Nat.testBit_xor, Nat.testBit_and, li_bit, li_bit, mz_bit]
  by_cases hr : r < facN n
  · have hp := row_perm hn hr
    have hne : rowT n r a ≠ rowT n r b := fun e => hab (hp.2 a b ha hb e)
    by_cases h : rowT n r a < rowT n r b
    · rw [decide_eq_true hr, decide_eq_true h, decide_eq_false (show ¬ rowT n r b < rowT n r a by omega)]
      cases consN z n (rowT n r) <;> rfl
    · rw [decide_eq_true hr, decide_eq_false h, decide_eq_true (show rowT n r b < rowT n r a by omega)]
      cases consN z n (rowT n r) <;> rfl
  · rw [decide_eq_false hr]
    cases consN z n (rowT n r) <;> rfl
theorem pc_opp {n a b : Nat} {z : Int64} (hn : n ≤ 4) (ha : a < n) (hb : b < n) (hab : a ≠ b) (h1 : liN n (mzN n z) a b ≠ 0) (h2 : liN n (mzN n z) b a ≠ 0) : pcM (liN n (mzN n z) a b) < pcM (mzN n z) ∧ pcM (liN n (mzN n z) b a) < pcM (mzN n z) := by
  rw [mz_li (by omega) ha hb] at h1 ⊢
  rw [mz_li (by omega) hb ha] at h2 ⊢
  rw [pc_mz hn, pc_mz hn, pc_mz hn]
  have a1 := mz_ne.mp h1
  have a2 := mz_ne.mp h2
  have := ct_split2 (z := z) (show n ≤ 6 by omega) ha hb hab
  omega
def bqP (n s q a b : Nat) : Prop := liN n s a b ≠ 0 ∧ liN n s b a ≠ 0 ∧ SmP n q (liN n s a b) ∧ SmP n q (liN n s b a)
theorem StM.w18 {n k j : Nat} {y : Int32} {f o : Nat → Nat} {m0 m : Hp} {S : List Nat} (h : StM n k f o m0 S m) : StM n k f o m0 S (wI m 18 (nI j) y) := by
  obtain ⟨hM, hS, hf, hl, hv, hnd, hz⟩ := h
  refine ⟨hM.keep ?_ ?_ ?_ ?_ ?_ ?_, hS.sI (by decide), fun j j1 j2 => ?_, ?_, fun j hj => ?_, hnd, hz⟩
  all_goals rw [wI_n _ _ _ _ _ (by decide)]
  · exact hf j j1 j2
  · exact hl
  · exact hv j hj
theorem Sm_one {n s : Nat} (h : pcM s ≤ 1) : ndP (fun q => SmP n q s) 0 := fun q => ⟨fun _ => Nat.zero_le _, fun _ => by
  cases q with
  | zero => exact h
  | succ q => exact Or.inl h⟩
