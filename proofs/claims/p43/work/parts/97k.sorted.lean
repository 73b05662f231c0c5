/-! CASES sorted, left, ask -/
theorem row_0 : ∀ n, n < 7 → ∀ x, x < n → rowT n 0 x = x := by decide +kernel
theorem id_perm {n : Nat} : PermN n (fun x => x) := ⟨fun _ h => h, fun _ _ _ _ e => e⟩
theorem num_id {n : Nat} (hn : n ≤ 6) : num n (fun x => x) = 0 := by
  rw [← num_congr (n := n) (u := rowT n 0) (v := fun x => x) (row_0 n (by omega)), row_num hn (fac_pos n)]
theorem num_0 {n : Nat} {v : Nat → Nat} (hn : n ≤ 6) (hv : PermN n v) : num n v = 0 ↔ ∀ x, x < n → v x = x := by
  constructor
  · intro h
    exact num_inj hn hv id_perm (by rw [h, num_id hn])
  · intro h
    rw [num_congr (n := n) (u := v) (v := fun x => x) h, num_id hn]
theorem perm_le_id {n : Nat} {v : Nat → Nat} (hv : PermN n v) (h : ∀ x, x < n → v x ≤ x) : ∀ x, x < n → v x = x := by
  intro x
  induction x using Nat.strongRecOn with
  | _ x ih =>
    intro hx
    have h1 := h x hx
    by_cases e : v x = x
    · exact e
    · have h2 := ih (v x) (by omega) (by omega)
      have h3 := hv.2 (v x) x (by omega) hx h2
      omega
theorem nd_0 {x : Nat} : ndN 0 x = 0 := by
  have : bN (0 : Int64) = 0 := by decide
  unfold ndN
  rw [this, Nat.zero_div]
theorem okz_0 {x b : Nat} : okz 0 x b = true := by
  unfold okz
  rw [nd_0, Nat.zero_and]; rfl
theorem seqA_len {n r : Nat} (hn : n ≤ 6) (hr : r < facN n) : (seqA n r).length = n ∧ ∀ j, j < n → mkS ((seqA n r).drop j) = thQ n j (rowT n r) := by
  have := seqA_ok n (by omega) r hr
  unfold chkSA at this
  rw [Bool.and_eq_true, List.all_eq_true] at this
  exact ⟨Nat.eq_of_beq_eq_true this.1, fun j hj => Nat.eq_of_beq_eq_true (this.2 j (List.mem_range.mpr hj))⟩
theorem sorted_row {n k r : Nat} {f o : Nat → Nat} {u : Int64} (hG : Good n k f o) (hr : r < facN n) (hu : ColN n u (fun r => unsB n (netB f o 99 0 k (bR r)))) : gdL (u ^^^ (-1)) 0 (seqA n r) = true ↔ num n (netN f o k (rowT n r)) = 0 := by
  have hn := hG.2.1
  have hle : 2 ^ n ≤ 2 ^ 6 := Nat.pow_le_pow_right (by omega) hn
  have hp := row_perm hn hr
  have hv := net_perm hG hp k (Nat.le_refl k)
  obtain ⟨h1, h2⟩ := seqA_len hn hr
  rw [num_0 hn hv, gdL_iff, h1]
  have hop : ∀ j, j < n → (bt64 (u ^^^ (-1)) (mkS ((seqA n r).drop j)) = true ↔ ∀ w, w < j → netN f o k (rowT n r) w < j) := fun j hj => by
    have hq := thQ_lt (n := n) (t := j) (v := rowT n r)
    have hbv : unsB n (netB f o 99 0 k (bR (thQ n j (rowT n r)))) = unsB n (thB j (netN f o k (rowT n r))) := uns_congr (fun x hx => thQ_net hG hx)
    rw [h2 j hj, bt_not _ (by omega), hu _ (by omega), decide_eq_true hq, Bool.true_and]
    show (!unsB n (netB f o 99 0 k (bR (thQ n j (rowT n r))))) = true ↔ _
    rw [hbv, ← th_sorted hn hv (by omega)]
    cases unsB n (thB j (netN f o k (rowT n r))) <;> simp
  constructor
  · intro h
    refine perm_le_id hv (fun x hx => ?_)
    by_cases e : x + 1 < n
    · have := (hop (x + 1) e).mp (h (x + 1) e).1 x (by omega)
      omega
    · have := hv.1 x hx
      omega
  · intro h j hj
    refine ⟨(hop j hj).mpr (fun w hw => by rw [h w (by omega)]; exact hw), okz_0⟩
theorem C_sorted {n k : Nat} {f o : Nat → Nat} {c : Hp} (hG : Good n k f o) (hC : NetC n k f o c) : Ev (f_X10_sorted c) (fun r => r.1 = nI (ctB (fun r => decide (num n (netN f o k (rowT n r)) = 0)) (facN n)) ∧ Sm [14, 17] c r.2) := by
  have hn := hG.2.1
  unfold f_X10_sorted
  refine Ev_bd (fun r => r.1 = nI (ctB (fun r => decide (num n (netN f o k (rowT n r)) = 0)) (facN n)) ∧ Sm [14, 17] c r.2) ?_ (fun r hr => Ev_so hr)
  unfold f_X4_sortedCount_13_1
  refine Ev_bd _ (s_unsortedFrom hG hC) (fun r ⟨p1, p2, p3⟩ => ?_)
  rw [p2, hC.1]
  refine Ev_bd _ (C_count_16 (op := r.1 ^^^ (-1)) (z := 0) (h := r.2) hn) (fun r3 ⟨q1, q2⟩ => Ev_so ⟨?_, (p1.mono (by decide)).tr (q2.mono (by decide))⟩)
  rw [q1, wy_A hn]
  congr 1
  refine ct_congr (fun r hr => ?_)
  have := sorted_row hG hr p3
  cases e : gdL _ 0 (seqA n r) with
  | true => exact (decide_eq_true (this.mp e)).symm
  | false => exact (decide_eq_false (fun z => by rw [this.mpr z] at e; cases e)).symm
/-- what was told, and the sequences -/
theorem seqD_len {n r : Nat} (hn : n ≤ 6) (hr : r < facN n) : (seqD n r).length = n ∧ ∀ x, x < n → (seqD n r).getD (n - 1 - rowT n r x) 0 = x ∧ ∀ lo, lo < 6 → ((mkS ((seqD n r).drop (n - 1 - rowT n r x + 1))).testBit lo = true ↔ lo < n ∧ rowT n r lo < rowT n r x) := by
  have := seqD_ok n (by omega) r hr
  unfold chkSD at this
  rw [Bool.and_eq_true, List.all_eq_true] at this
  refine ⟨Nat.eq_of_beq_eq_true this.1, fun x hx => ?_⟩
  have h := this.2 x (List.mem_range.mpr hx)
  rw [Bool.and_eq_true, List.all_eq_true] at h
  refine ⟨Nat.eq_of_beq_eq_true h.1, fun lo hlo => ?_⟩
  have h2 := eq_of_beq (h.2 lo (List.mem_range.mpr hlo))
  rw [h2, Bool.and_eq_true]
  constructor
  · rintro ⟨h3, h4⟩
    exact ⟨Nat.le_of_ble_eq_true h3, Nat.le_of_ble_eq_true h4⟩
  · rintro ⟨h3, h4⟩
    exact ⟨Nat.ble_eq_true_of_le h3, Nat.ble_eq_true_of_le h4⟩
theorem nd_bit {z : Int64} {x lo : Nat} (hlo : lo < 6) : (ndN z x).testBit lo = bt64 z (6 * x + lo) := by
  unfold ndN
  rw [show 64 = 2 ^ 6 from rfl, Nat.testBit_mod_two_pow, decide_eq_true hlo, Bool.true_and, Nat.testBit_div_two_pow, Nat.add_comm]
  rfl
theorem okz_iff {z : Int64} {x b : Nat} : okz z x b = true ↔ ∀ lo, lo < 6 → bt64 z (6 * x + lo) = true → b.testBit lo = true := by
  have hnd : ndN z x < 2 ^ 6 := Nat.mod_lt _ (by omega)
  unfold okz
  constructor
  · intro h lo hlo hb
    have h0 := Nat.eq_of_beq_eq_true h
    have h1 : (ndN z x ^^^ (ndN z x &&& b)).testBit lo = false := by rw [h0]; exact Nat.zero_testBit lo
    rw [Nat.testBit_xor, Nat.testBit_and, nd_bit hlo, hb] at h1
    cases e : b.testBit lo with
    | true => rfl
    | false => rw [e] at h1; simp at h1
  · intro h
    have : ndN z x ^^^ (ndN z x &&& b) = 0 := by
      apply Nat.eq_of_testBit_eq
      intro lo
      rw [Nat.zero_testBit, Nat.testBit_xor, Nat.testBit_and]
      by_cases hlo : lo < 6
      · rw [nd_bit hlo]
        cases e : bt64 z (6 * x + lo) with
        | false => rfl
        | true => rw [h lo hlo e]; rfl
      · rw [Nat.testBit_lt_two_pow (Nat.lt_of_lt_of_le hnd (Nat.pow_le_pow_right (by omega) (by omega)))]; rfl
    rw [this]; rfl
def okBits (n : Nat) (z : Int64) : Prop := ∀ j, bt64 z j = true → j / 6 < n ∧ j % 6 < n
theorem cons_iff {n : Nat} {z : Int64} {v : Nat → Nat} : consN z n v = true ↔ ∀ hi, hi < n → ∀ lo, lo < n → bt64 z (6 * hi + lo) = true → v lo < v hi := by
  unfold consN
  rw [List.all_eq_true]
  constructor
  · intro h a ha b hb e
    have h1 := h a (List.mem_range.mpr ha)
    rw [List.all_eq_true] at h1
    have h2 := h1 b (List.mem_range.mpr hb)
    rw [e] at h2
    simpa using h2
  · intro h a ha
    rw [List.all_eq_true]
    intro b hb
    cases e : bt64 z (6 * a + b) with
    | false => rfl
    | true =>
      have := h a (List.mem_range.mp ha) b (List.mem_range.mp hb) e
      simpa using this
theorem told_row {n r : Nat} {z : Int64} (hn : n ≤ 6) (hr : r < facN n) (hz : okBits n z) : gdL (-1) z (seqD n r) = consN z n (rowT n r) := by
  have hle : 2 ^ n ≤ 2 ^ 6 := Nat.pow_le_pow_right (by omega) hn
  have hp := row_perm hn hr
  obtain ⟨h1, h2⟩ := seqD_len hn hr
  have hlow : ∀ j, mkS ((seqD n r).drop j) < 64 := fun j => by
    have : ∀ l : List Nat, (∀ x, x ∈ l → x < 6) → mkS l < 2 ^ 6 := by
      intro l
      induction l with
      | nil => intro _; exact Nat.two_pow_pos 6
      | cons x l ih => intro h; exact Nat.or_lt_two_pow (ih (fun y hy => h y (List.mem_cons_of_mem _ hy))) (Nat.pow_lt_pow_right (by omega) (h x List.mem_cons_self))
    refine this _ (fun x hx => ?_)
    have hx2 := List.mem_of_mem_drop hx
    obtain ⟨i, hi, e⟩ := List.mem_iff_getElem.mp hx2
    rw [h1] at hi
    obtain ⟨y, hy, ey⟩ := perm_onto hn hp (show n - 1 - i < n by omega)
    have h3 := (h2 y hy).1
    rw [ey, show n - 1 - (n - 1 - i) = i by omega, List.getD_eq_getElem?_getD, List.getElem?_eq_getElem (by omega)] at h3
    have : x = y := by rw [← e]; exact h3
    omega
  have hiff : gdL (-1) z (seqD n r) = true ↔ consN z n (rowT n r) = true := by
    rw [gdL_iff, h1, cons_iff]
    constructor
    · intro h hi hhi lo hlo e
      have hv := hp.1 hi hhi
      have h3 := (h (n - 1 - rowT n r hi) (by omega)).2
      rw [(h2 hi hhi).1, okz_iff] at h3
      exact (((h2 hi hhi).2 lo (by omega)).mp (h3 lo (by omega) e)).2
    · intro h j hj
      obtain ⟨y, hy, ey⟩ := perm_onto hn hp (show n - 1 - j < n by omega)
      have h3 := h2 y hy
      rw [ey, show n - 1 - (n - 1 - j) = j by omega] at h3
      refine ⟨bt_m1 (hlow j), ?_⟩
      rw [h3.1, okz_iff]
      intro lo hlo e
      have hb := hz _ e
      rw [show (6 * y + lo) / 6 = y by omega, show (6 * y + lo) % 6 = lo by omega] at hb
      exact (h3.2 lo hlo).mpr ⟨hb.2, by have := h y hy lo hb.2 e; rwa [ey] at this⟩
  cases e1 : gdL (-1) z (seqD n r) with
  | true => exact (hiff.mp e1).symm
  | false =>
    cases e2 : consN z n (rowT n r) with
    | false => rfl
    | true => rw [hiff.mpr e2] at e1; cases e1
def ctC (n : Nat) (z : Int64) : Nat := ctB (fun r => consN z n (rowT n r)) (facN n)
theorem C_left {n : Nat} {z : Int64} {h : Hp} (hn : n ≤ 6) (hz : okBits n z) : Ev (f_X0_countOf_33 h z (nI n)) (fun r => r.1 = nI (ctC n z) ∧ Sm [34] h r.2) := by
  unfold f_X0_countOf_33
  refine Ev_bd _ (C_count_33 (op := -1) (z := z) (h := h) hn) (fun r ⟨q1, q2⟩ => Ev_so ⟨?_, q2⟩)
  rw [q1, wy_D hn]
  congr 1
  exact ct_congr (fun r hr => told_row hn hr hz)
