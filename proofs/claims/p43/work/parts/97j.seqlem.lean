theorem orL_bit {y : Nat} : ∀ {l : List Nat}, (orL l).testBit y = true ↔ y ∈ l
  | [] => by
    show (0 : Nat).testBit y = true ↔ _
    simp
  | x :: l => by
    show (orL l ||| 2 ^ x).testBit y = true ↔ _
    rw [Nat.testBit_or, Nat.testBit_two_pow, Bool.or_eq_true, orL_bit, List.mem_cons]
    constructor
    · rintro (h | h)
      · exact Or.inr h
      · exact Or.inl (of_decide_eq_true h).symm
    · rintro (h | h)
      · exact Or.inr (decide_eq_true h.symm)
      · exact Or.inl h
theorem ct_cons (q : Nat → Bool) (x : Nat) : ctB q (x + 1) = (if q 0 = true then 1 else 0) + ctB (fun j => q (j + 1)) x := by
  induction x with
  | zero => simp [ctB]
  | succ x ih =>
    rw [show ctB q (x + 1 + 1) = ctB q (x + 1) + (if q (x + 1) = true then 1 else 0) from rfl, ih, show ctB (fun j => q (j + 1)) (x + 1) = ctB (fun j => q (j + 1)) x + (if q (x + 1) = true then 1 else 0) from rfl, Nat.add_assoc]
theorem countP_ct {α : Type} (d : α) (p : α → Bool) : ∀ l : List α, l.countP p = ctB (fun i => p (l.getD i d)) l.length
  | [] => rfl
  | x :: l => by
    rw [List.countP_cons, List.length_cons, ct_cons, countP_ct d p l, Nat.add_comm]
    rfl
theorem ct_onto {g : Nat → Nat} {N : Nat} {p : Nat → Bool} (h : ∀ y, y < N → ∃ x, x < N ∧ g x = y) : ctB (fun x => p (g x)) N = ctB p N := by
  have hP := onto_perm h
  have ⟨w, hw⟩ : ∃ w : Nat → Nat, ∀ y, y < N → w y < N ∧ g (w y) = y := by
    refine ⟨fun y => if hy : y < N then Classical.choose (h y hy) else 0, fun y hy => ?_⟩
    dsimp only
    rw [dif_pos hy]
    exact Classical.choose_spec (h y hy)
  exact ct_bij (fun x hx => hP.1 x hx) (fun y hy => (hw y hy).1) (fun y hy => (hw y hy).2) (fun x hx => hP.2 _ _ (hw _ (hP.1 x hx)).1 hx (hw _ (hP.1 x hx)).2)
theorem gen_ct {n : Nat} {nu : List Nat → Nat} {se : Nat → List Nat} (h : chkG n nu se = true) (p : List Nat → Bool) : (gen n n (2 ^ n - 1)).countP p = ctB (fun r => p (se r)) (facN n) := by
  unfold chkG at h
  rw [Bool.and_eq_true, Bool.and_eq_true, List.all_eq_true] at h
  obtain ⟨⟨h1, h2⟩, h3⟩ := h
  have h2 := Nat.eq_of_beq_eq_true h2
  have h3 := Nat.eq_of_beq_eq_true h3
  generalize gen n n (2 ^ n - 1) = G at h1 h2 h3
  have h1a : ∀ l, l ∈ G → se (nu l) = l ∧ nu l < facN n := fun l hl => by
    have := h1 l hl
    rw [Bool.and_eq_true] at this
    refine ⟨leq_eq this.1, ?_⟩
    have h4 : Nat.ble (nu l + 1) (facN n) = true := this.2
    exact Nat.le_of_ble_eq_true h4
  rw [countP_ct [] p G, h2]
  have hmem : ∀ i, i < facN n → G.getD i [] ∈ G := fun i hi => by
    rw [List.getD_eq_getElem?_getD, List.getElem?_eq_getElem (by omega)]
    exact List.getElem_mem _
  have h4 : ctB (fun i => p (G.getD i [])) (facN n) = ctB (fun i => (fun r => p (se r)) (nu (G.getD i []))) (facN n) := ct_congr (fun i hi => by
    dsimp only
    rw [(h1a _ (hmem i hi)).1])
  rw [h4]
  refine ct_onto (g := fun i => nu (G.getD i [])) (p := fun r => p (se r)) (fun y hy => ?_)
  have h5 : (orL (G.map nu)).testBit y = true := by rw [h3, Nat.testBit_two_pow_sub_one]; exact decide_eq_true hy
  obtain ⟨l, hl, e⟩ := List.mem_map.mp (orL_bit.mp h5)
  obtain ⟨i, hi, e2⟩ := List.mem_iff_getElem.mp hl
  refine ⟨i, by omega, ?_⟩
  rw [List.getD_eq_getElem?_getD, List.getElem?_eq_getElem hi]
  show nu G[i] = y
  rw [e2, e]
theorem pc_full {n : Nat} : pcN n (2 ^ n - 1) = n := ct_all (fun r hr => by rw [Nat.testBit_two_pow_sub_one]; exact decide_eq_true hr)
theorem wy_A {n : Nat} {op z : Int64} (hn : n ≤ 6) : wyN n op z (2 ^ n - 1) = ctB (fun r => gdL op z (seqA n r)) (facN n) := by
  unfold wyN
  rw [pc_full]
  exact gen_ct (chkA n (by omega)) _
theorem wy_D {n : Nat} {op z : Int64} (hn : n ≤ 6) : wyN n op z (2 ^ n - 1) = ctB (fun r => gdL op z (seqD n r)) (facN n) := by
  unfold wyN
  rw [pc_full]
  exact gen_ct (chkD n (by omega)) _
theorem gdL_iff {op z : Int64} : ∀ {l : List Nat}, gdL op z l = true ↔ ∀ j, j < l.length → bt64 op (mkS (l.drop j)) = true ∧ okz z (l.getD j 0) (mkS (l.drop (j + 1))) = true
  | [] => ⟨fun _ j hj => absurd hj (by simp), fun _ => rfl⟩
  | x :: l => by
    show (bt64 op (mkS (x :: l)) && (okz z x (mkS l) && gdL op z l)) = true ↔ _
    rw [Bool.and_eq_true, Bool.and_eq_true, gdL_iff]
    constructor
    · rintro ⟨h1, h2, h3⟩ j hj
      cases j with
      | zero => exact ⟨h1, h2⟩
      | succ j => exact h3 j (by simpa using hj)
    · intro h
      exact ⟨(h 0 (by simp)).1, (h 0 (by simp)).2, fun j hj => h (j + 1) (by simpa using hj)⟩
