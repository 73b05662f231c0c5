/-! P43: how many questions are needed, by numbers -/
theorem Sz_sub {n : Nat} (hn : n ≤ 6) : ∀ (q : Nat) (z w : Int64), (∀ r, r < facN n → consN z n (rowT n r) = true → consN w n (rowT n r) = true) → SzP n q w → SzP n q z
  | 0, _, _, h, hw => Nat.le_trans (ct_sub (fun r hr e => h r hr e)) hw
  | q + 1, z, w, h, hw => by
    by_cases h1 : ctC n z ≤ 1
    · exact Or.inl h1
    · rcases hw with hw | ⟨a, b, hab, hb, c1, c2, s1, s2⟩
      · exact Or.inl (Nat.le_trans (ct_sub (fun r hr e => h r hr e)) hw)
      · have ha : a < n := by omega
        have k1 : ∀ r, r < facN n → consN (lsB z a b) n (rowT n r) = true → consN (lsB w a b) n (rowT n r) = true := fun r hr e => by
          rw [ls_cons hn ha hb, Bool.and_eq_true] at e ⊢
          exact ⟨h r hr e.1, e.2⟩
        have k2 : ∀ r, r < facN n → consN (lsB z b a) n (rowT n r) = true → consN (lsB w b a) n (rowT n r) = true := fun r hr e => by
          rw [ls_cons hn hb ha, Bool.and_eq_true] at e ⊢
          exact ⟨h r hr e.1, e.2⟩
        have hsp := ct_split2 (z := z) hn ha hb (show a ≠ b by omega)
        by_cases z1 : 0 < ctC n (lsB z a b)
        · by_cases z2 : 0 < ctC n (lsB z b a)
          · exact Or.inr ⟨a, b, hab, hb, z1, z2, Sz_sub hn q _ _ k1 s1, Sz_sub hn q _ _ k2 s2⟩
          · refine Sz_mono _ _ (Sz_sub hn q z _ (fun r hr e => ?_) s1)
            have e2 := (ct_0 (p := fun r => consN (lsB z b a) n (rowT n r)) (n := facN n)).mp (show ctC n (lsB z b a) = 0 by omega) r hr
            rw [ls_cons hn hb ha, e, Bool.true_and, decide_eq_false_iff_not] at e2
            rw [ls_cons hn ha hb, h r hr e, Bool.true_and, decide_eq_true_eq]
            have e3 : rowT n r a ≠ rowT n r b := fun q => by have := (row_perm hn hr).2 a b ha hb q; omega
            omega
        · refine Sz_mono _ _ (Sz_sub hn q z _ (fun r hr e => ?_) s2)
          have e2 := (ct_0 (p := fun r => consN (lsB z a b) n (rowT n r)) (n := facN n)).mp (show ctC n (lsB z a b) = 0 by omega) r hr
          rw [ls_cons hn ha hb, e, Bool.true_and, decide_eq_false_iff_not] at e2
          rw [ls_cons hn hb ha, h r hr e, Bool.true_and, decide_eq_true_eq]
          have e3 : rowT n r a ≠ rowT n r b := fun q => by have := (row_perm hn hr).2 a b ha hb q; omega
          omega
theorem Sz_left {n : Nat} (hn : n ≤ 6) : ∀ (m : Nat) (z : Int64), ctC n z ≤ m + 1 → SzP n m z
  | 0, _, h => h
  | m + 1, z, h => by
    by_cases h1 : ctC n z ≤ 1
    · exact Or.inl h1
    · obtain ⟨a, b, hab, hb, c1, c2⟩ := und_ex (z := z) hn (by omega)
      have hsp := ct_split2 (z := z) hn (show a < n by omega) hb (show a ≠ b by omega)
      exact Or.inr ⟨a, b, hab, hb, c1, c2, Sz_left hn m _ (by omega), Sz_left hn m _ (by omega)⟩
def smB (n : Nat) : Nat → Nat → Bool
  | 0, s => Nat.ble (pcM s) 1
  | q + 1, s => Nat.ble (pcM s) 1 || (List.range n).any (fun a => (List.range n).any (fun b => Nat.blt a b && (!Nat.beq (liN n s a b) 0 && (!Nat.beq (liN n s b a) 0 && (Nat.ble (pcM (liN n s a b)) (2 ^ q) && (Nat.ble (pcM (liN n s b a)) (2 ^ q) && (smB n q (liN n s a b) && smB n q (liN n s b a))))))))
theorem smB_ok {n : Nat} : ∀ q s, smB n q s = true → SmP n q s
  | 0, _, h => Nat.le_of_ble_eq_true h
  | q + 1, s, h => by
    unfold smB at h
    rw [Bool.or_eq_true] at h
    rcases h with h | h
    · exact Or.inl (Nat.le_of_ble_eq_true h)
    · obtain ⟨a, _, h⟩ := List.any_eq_true.mp h
      obtain ⟨b, hb, h⟩ := List.any_eq_true.mp h
      simp only [Bool.and_eq_true, Bool.not_eq_true'] at h
      obtain ⟨h1, h2, h3, _, _, h6, h7⟩ := h
      refine Or.inr ⟨a, b, Nat.le_of_ble_eq_true h1, List.mem_range.mp hb, fun e => ?_, fun e => ?_, smB_ok q _ h6, smB_ok q _ h7⟩
      · rw [e] at h2; cases h2
      · rw [e] at h3; cases h3
theorem sm5 : smB 4 5 (2 ^ 24 - 1) = true := by decide +kernel
theorem mz_0 {n : Nat} : mzN n 0 = 2 ^ facN n - 1 := by
  apply Nat.eq_of_testBit_eq
  intro r
  rw [mz_bit, cons_0, Nat.testBit_two_pow_sub_one, Bool.and_true]
theorem Sz5 {z : Int64} : SzP 4 5 z := by
  refine Sz_sub (by omega) 5 z 0 (fun r hr _ => cons_0) ((Sz_Sm (by omega) 5 0).mpr ?_)
  rw [mz_0]
  exact smB_ok 5 _ sm5
theorem ps_4 : ((psL 2).all (fun s => !Nat.beq (pcM s) 4) && (psL 3).all (fun s => !Nat.beq (pcM s) 4)) = true := by decide +kernel
theorem ct_ne4 {n : Nat} {z : Int64} (hn2 : 2 ≤ n) (hn : n ≤ 3) : ctC n z ≠ 4 := by
  intro e
  have hm := mz_ps (z := z) hn2 (show n ≤ 4 by omega)
  have hp := ps_4
  rw [Bool.and_eq_true] at hp
  rw [← pc_mz (show n ≤ 4 by omega)] at e
  rcases (show n = 2 ∨ n = 3 by omega) with rfl | rfl
  · have := List.all_eq_true.mp hp.1 _ hm
    rw [e] at this; cases this
  · have := List.all_eq_true.mp hp.2 _ hm
    rw [e] at this; cases this
theorem need3 {n d : Nat} {z : Int64} (hn2 : 2 ≤ n) (hn : n ≤ 3) (h : ndP (fun q => SzP n q z) d) (hp : 0 < ctC n z) : d = if 3 < ctC n z then 3 else if ctC n z = 3 then 2 else ctC n z - 1 := by
  have h1 := Sz_pow (show n ≤ 6 by omega) d z ((h d).mpr (Nat.le_refl d))
  have h2 := (h (ctC n z - 1)).mp (Sz_left (by omega) _ z (by omega))
  have h3 : d ≤ 3 := by
    have := (h _).mp (Sz_all (n := n) (z := z) (by omega))
    rcases (show n = 2 ∨ n = 3 by omega) with rfl | rfl <;> omega
  have h4 := ct_ne4 (z := z) hn2 hn
  rcases (show d = 0 ∨ d = 1 ∨ d = 2 ∨ d = 3 by omega) with rfl | rfl | rfl | rfl
  · have h1 : ctC n z ≤ 1 := h1
    rw [if_neg (by omega), if_neg (by omega)]; omega
  · have h1 : ctC n z ≤ 2 := h1
    rw [if_neg (by omega), if_neg (by omega)]; omega
  · have h1 : ctC n z ≤ 4 := h1
    rw [if_neg (by omega), if_pos (by omega)]
  · rw [if_pos (by omega)]
theorem need4 {d : Nat} {z : Int64} (h : ndP (fun q => SzP 4 q z) d) (hp : 0 < ctC 4 z) : d < 6 ∧ ctC 4 z ≤ 2 ^ d ∧ d < ctC 4 z := by
  have h1 := Sz_pow (show 4 ≤ 6 by omega) d z ((h d).mpr (Nat.le_refl d))
  have h2 := (h (ctC 4 z - 1)).mp (Sz_left (by omega) _ z (by omega))
  have h3 := (h 5).mp Sz5
  exact ⟨by omega, h1, by omega⟩
