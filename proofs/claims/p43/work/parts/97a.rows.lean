/-! ROWS OF ALL VALUES: numbers, ranks -/
def lessN (n : Nat) (v : Nat → Nat) (w : Nat) : Nat := ctB (fun j => decide (v (w + 1 + j) < v w)) (n - 1 - w)
def numN (n : Nat) (v : Nat → Nat) : Nat → Nat
  | 0 => 0
  | w + 1 => numN n v w + lessN n v w * facN (n - 1 - w)
def num (n : Nat) (v : Nat → Nat) : Nat := numN n v n
theorem less_congr {n w : Nat} {u v : Nat → Nat} (hw : w < n) (h : ∀ x, x < n → u x = v x) : lessN n u w = lessN n v w :=
  ct_congr (fun r hr => by rw [h _ (by omega), h w hw])
theorem numN_congr {n : Nat} {u v : Nat → Nat} (h : ∀ x, x < n → u x = v x) : ∀ w, w ≤ n → numN n u w = numN n v w
  | 0, _ => rfl
  | w + 1, hw => by
    show numN n u w + _ = numN n v w + _
    rw [numN_congr h w (by omega), less_congr (by omega) h]
theorem num_congr {n : Nat} {u v : Nat → Nat} (h : ∀ x, x < n → u x = v x) : num n u = num n v := numN_congr h n (Nat.le_refl n)
theorem PermN.congr {n : Nat} {u v : Nat → Nat} (h : ∀ x, x < n → u x = v x) (hu : PermN n u) : PermN n v :=
  ⟨fun x hx => by rw [← h x hx]; exact hu.1 x hx, fun x y hx hy e => hu.2 x y hx hy (by rw [h x hx, h y hy]; exact e)⟩
def permB (n : Nat) (v : Nat → Nat) : Bool := (List.range n).all (fun x => decide (v x < n) && (List.range x).all (fun y => !decide (v y = v x)))
theorem permB_ok {n : Nat} {v : Nat → Nat} (h : permB n v = true) : PermN n v := by
  unfold permB at h
  rw [List.all_eq_true] at h
  have h1 : ∀ x, x < n → v x < n ∧ ∀ y, y < x → v y ≠ v x := fun x hx => by
    have := h x (List.mem_range.mpr hx)
    rw [Bool.and_eq_true, List.all_eq_true] at this
    refine ⟨of_decide_eq_true this.1, fun y hy e => ?_⟩
    have h2 := this.2 y (List.mem_range.mpr hy)
    rw [e] at h2
    simp at h2
  refine ⟨fun x hx => (h1 x hx).1, fun x y hx hy e => ?_⟩
  by_cases q : x < y
  · exact absurd e ((h1 y hy).2 x q)
  · by_cases q2 : y < x
    · exact absurd e.symm ((h1 x hx).2 y q2)
    · omega
def chkRow (n r : Nat) : Bool := permB n (rowT n r) && Nat.beq (num n (rowT n r)) r && (List.range n).all (fun y => (List.range n).any (fun x => Nat.beq (rowT n r x) y))
theorem rows_ok : ∀ n, n < 7 → ∀ r, r < facN n → chkRow n r = true := by decide +kernel
theorem row_perm {n r : Nat} (hn : n ≤ 6) (hr : r < facN n) : PermN n (rowT n r) := by
  have := rows_ok n (by omega) r hr
  unfold chkRow at this
  rw [Bool.and_eq_true, Bool.and_eq_true] at this
  exact permB_ok this.1.1
theorem row_num {n r : Nat} (hn : n ≤ 6) (hr : r < facN n) : num n (rowT n r) = r := by
  have := rows_ok n (by omega) r hr
  unfold chkRow at this
  rw [Bool.and_eq_true, Bool.and_eq_true] at this
  exact Nat.eq_of_beq_eq_true this.1.2
theorem row_onto {n r y : Nat} (hn : n ≤ 6) (hr : r < facN n) (hy : y < n) : ∃ x, x < n ∧ rowT n r x = y := by
  have := rows_ok n (by omega) r hr
  unfold chkRow at this
  rw [Bool.and_eq_true, List.all_eq_true] at this
  have h2 := this.2 y (List.mem_range.mpr hy)
  obtain ⟨x, hx, e⟩ := List.any_eq_true.mp h2
  exact ⟨x, List.mem_range.mp hx, Nat.eq_of_beq_eq_true e⟩
def enumB (n : Nat) : Nat → List Nat → Bool
  | 0, pre => Nat.ble (num n (fun x => pre.reverse.getD x 0) + 1) (facN n) && (List.range n).all (fun x => Nat.beq (rowT n (num n (fun x => pre.reverse.getD x 0)) x) (pre.reverse.getD x 0))
  | d + 1, pre => (List.range n).all (fun a => pre.contains a || enumB n d (a :: pre))
theorem enum_ok : ∀ n, n < 7 → enumB n n [] = true := by decide +kernel
theorem enum_use {n : Nat} {v : Nat → Nat} (hv : PermN n v) : ∀ d i, i + d = n → enumB n d ((List.range i).map v).reverse = true → num n v < facN n ∧ ∀ x, x < n → rowT n (num n v) x = v x
  | 0, i, hi, h => by
    have hi : i = n := by omega
    subst hi
    unfold enumB at h
    rw [List.reverse_reverse, Bool.and_eq_true, List.all_eq_true] at h
    have e : ∀ x, x < i → ((List.range i).map v).getD x 0 = v x := fun x hx => by
      rw [List.getD_eq_getElem?_getD, List.getElem?_map, List.getElem?_range hx]; rfl
    have e2 := num_congr (n := i) (u := fun x => ((List.range i).map v).getD x 0) (v := v) e
    rw [e2] at h
    refine ⟨Nat.le_of_ble_eq_true h.1, fun x hx => ?_⟩
    rw [Nat.eq_of_beq_eq_true (h.2 x (List.mem_range.mpr hx)), e x hx]
  | d + 1, i, hi, h => by
    unfold enumB at h
    rw [List.all_eq_true] at h
    have h1 := h (v i) (List.mem_range.mpr (hv.1 i (by omega)))
    rw [Bool.or_eq_true] at h1
    rcases h1 with h1 | h1
    · have h2 := List.contains_iff_mem.mp h1
      rw [List.mem_reverse, List.mem_map] at h2
      obtain ⟨y, hy, e⟩ := h2
      have hy := List.mem_range.mp hy
      have := hv.2 y i (by omega) (by omega) e
      omega
    · refine enum_use hv d (i + 1) (by omega) ?_
      rw [List.range_succ, List.map_append, List.reverse_append]
      exact h1
/-- each row of all values stands in the table, at its number -/
theorem num_lt' {n : Nat} {v : Nat → Nat} (hn : n ≤ 6) (hv : PermN n v) : num n v < facN n := (enum_use hv n 0 (by omega) (enum_ok n (by omega))).1
theorem num_row {n x : Nat} {v : Nat → Nat} (hn : n ≤ 6) (hv : PermN n v) (hx : x < n) : rowT n (num n v) x = v x := (enum_use hv n 0 (by omega) (enum_ok n (by omega))).2 x hx
theorem num_inj {n : Nat} {u v : Nat → Nat} (hn : n ≤ 6) (hu : PermN n u) (hv : PermN n v) (h : num n u = num n v) : ∀ x, x < n → u x = v x := fun x hx => by
  rw [← num_row hn hu hx, h, num_row hn hv hx]
theorem perm_onto {n y : Nat} {v : Nat → Nat} (hn : n ≤ 6) (hv : PermN n v) (hy : y < n) : ∃ x, x < n ∧ v x = y := by
  obtain ⟨x, hx, e⟩ := row_onto hn (num_lt' hn hv) hy
  exact ⟨x, hx, by rw [← num_row hn hv hx]; exact e⟩
/-- the class's rank is the number of the row read from behind -/
theorem ct_rev {p : Nat → Bool} : ∀ x, ctB p x = ctB (fun j => p (x - 1 - j)) x := by
  have h1 : ∀ (q : Nat → Bool) (x : Nat), ctB q (x + 1) = (if q 0 = true then 1 else 0) + ctB (fun j => q (j + 1)) x := by
    intro q x
    induction x with
    | zero => simp [ctB]
    | succ x ih =>
      rw [show ctB q (x + 1 + 1) = ctB q (x + 1) + (if q (x + 1) = true then 1 else 0) from rfl, ih, show ctB (fun j => q (j + 1)) (x + 1) = ctB (fun j => q (j + 1)) x + (if q (x + 1) = true then 1 else 0) from rfl, Nat.add_assoc]
  intro x
  induction x with
  | zero => rfl
  | succ x ih =>
    rw [h1 (fun j => p (x + 1 - 1 - j)) x]
    show ctB p x + _ = _
    rw [ih, Nat.add_comm]
    congr 1
    exact ct_congr (fun r hr => by rw [show x + 1 - 1 - (r + 1) = x - 1 - r by omega])
def revN (n : Nat) (v : Nat → Nat) : Nat → Nat := fun x => v (n - 1 - x)
theorem rev_less {n w : Nat} {v : Nat → Nat} (hw : w < n) : lessN n (revN n v) w = ctB (fun u => decide (v u < v (n - 1 - w))) (n - 1 - w) := by
  rw [ct_rev]
  unfold lessN revN
  exact ct_congr (fun r hr => by rw [show n - 1 - (w + 1 + r) = n - 1 - w - 1 - r by omega])
theorem rank_rev {n : Nat} {v : Nat → Nat} (hn : n ≤ 6) : rankN v n = num n (revN n v) := by
  have h : n = 0 ∨ n = 1 ∨ n = 2 ∨ n = 3 ∨ n = 4 ∨ n = 5 ∨ n = 6 := by omega
  rcases h with rfl | rfl | rfl | rfl | rfl | rfl | rfl
  · rfl
  · simp only [num, numN, rankN, rev_less (n := 1) (w := 0) (by omega), Nat.reduceSub, Nat.sub_zero, Nat.sub_self]
  · simp only [num, numN, rankN, rev_less (n := 2) (w := 0) (by omega), rev_less (n := 2) (w := 1) (by omega), Nat.reduceSub, Nat.sub_zero, Nat.sub_self]
    omega
  · simp only [num, numN, rankN, rev_less (n := 3) (w := 0) (by omega), rev_less (n := 3) (w := 1) (by omega), rev_less (n := 3) (w := 2) (by omega), Nat.reduceSub, Nat.sub_zero, Nat.sub_self]
    omega
  · simp only [num, numN, rankN, rev_less (n := 4) (w := 0) (by omega), rev_less (n := 4) (w := 1) (by omega), rev_less (n := 4) (w := 2) (by omega), rev_less (n := 4) (w := 3) (by omega), Nat.reduceSub, Nat.sub_zero, Nat.sub_self]
    omega
  · simp only [num, numN, rankN, rev_less (n := 5) (w := 0) (by omega), rev_less (n := 5) (w := 1) (by omega), rev_less (n := 5) (w := 2) (by omega), rev_less (n := 5) (w := 3) (by omega), rev_less (n := 5) (w := 4) (by omega), Nat.reduceSub, Nat.sub_zero, Nat.sub_self]
    omega
  · simp only [num, numN, rankN, rev_less (n := 6) (w := 0) (by omega), rev_less (n := 6) (w := 1) (by omega), rev_less (n := 6) (w := 2) (by omega), rev_less (n := 6) (w := 3) (by omega), rev_less (n := 6) (w := 4) (by omega), rev_less (n := 6) (w := 5) (by omega), Nat.reduceSub, Nat.sub_zero, Nat.sub_self]
    omega
theorem rev_perm {n : Nat} {v : Nat → Nat} (hv : PermN n v) : PermN n (revN n v) :=
  ⟨fun x hx => hv.1 _ (by omega), fun x y hx hy e => by have := hv.2 _ _ (show n - 1 - x < n by omega) (show n - 1 - y < n by omega) e; omega⟩
theorem rev_rev {n x : Nat} {v : Nat → Nat} (hx : x < n) : revN n (revN n v) x = v x := by
  unfold revN
  rw [show n - 1 - (n - 1 - x) = x by omega]
theorem rank_lt {n : Nat} {v : Nat → Nat} (hn : n ≤ 6) (hv : PermN n v) : rankN v n < facN n := by
  rw [rank_rev hn]; exact num_lt' hn (rev_perm hv)
theorem rank_inj {n : Nat} {u v : Nat → Nat} (hn : n ≤ 6) (hu : PermN n u) (hv : PermN n v) (h : rankN u n = rankN v n) : ∀ x, x < n → u x = v x := by
  rw [rank_rev hn, rank_rev hn] at h
  intro x hx
  have := num_inj hn (rev_perm hu) (rev_perm hv) h (n - 1 - x) (by omega)
  unfold revN at this
  rwa [show n - 1 - (n - 1 - x) = x by omega] at this
/-- the row of a rank -/
def unrk (n i : Nat) : Nat → Nat := revN n (rowT n i)
theorem unrk_perm {n i : Nat} (hn : n ≤ 6) (hi : i < facN n) : PermN n (unrk n i) := rev_perm (row_perm hn hi)
theorem unrk_rank {n i : Nat} (hn : n ≤ 6) (hi : i < facN n) : rankN (unrk n i) n = i := by
  rw [rank_rev hn]
  have := num_congr (n := n) (u := revN n (unrk n i)) (v := rowT n i) (fun x hx => rev_rev hx)
  rw [this, row_num hn hi]
theorem rankN_congr {u v : Nat → Nat} : ∀ {n : Nat}, (∀ x, x < n → u x = v x) → rankN u n = rankN v n
  | 0, _ => rfl
  | n + 1, h => by
    show rankN u n + _ = rankN v n + _
    rw [rankN_congr (n := n) (fun x hx => h x (by omega))]
    congr 2
    exact ct_congr (fun r hr => by rw [h r (by omega), h n (by omega)])
/-- counting along an injection -/
theorem ct_off {p : Nat → Bool} {s : Nat} : ∀ {M : Nat}, s < M → p s = true → ctB p M = ctB (fun x => p x && !decide (x = s)) M + 1
  | 0, h, _ => absurd h (by omega)
  | M + 1, h, hp => by
    by_cases e : s = M
    · subst e
      rw [ct_s1 hp, ct_s0 (p := fun x => p x && !decide (x = s)) (by simp)]
      congr 1
      exact ct_congr (fun r hr => by rw [decide_eq_false (by omega)]; simp)
    · have ih := ct_off (M := M) (by omega) hp
      cases e2 : p M with
      | true => rw [ct_s1 e2, ct_s1 (p := fun x => p x && !decide (x = s)) (by rw [e2, decide_eq_false (by omega)]; rfl), ih]
      | false => rw [ct_s0 (p := p) (by rw [e2]; decide), ct_s0 (p := fun x => p x && !decide (x = s)) (by rw [e2]; simp), ih]
theorem ct_inj {g : Nat → Nat} {M : Nat} : ∀ {N : Nat} {p : Nat → Bool}, (∀ x, x < N → g x < M) → (∀ x y, x < N → y < N → g x = g y → x = y) → ctB (fun x => p (g x)) N ≤ ctB p M
  | 0, _, _, _ => Nat.zero_le _
  | N + 1, p, h1, h2 => by
    cases e : p (g N) with
    | false =>
      rw [ct_s0 (p := fun x => p (g x)) (by rw [e]; decide)]
      exact ct_inj (fun x hx => h1 x (by omega)) (fun x y hx hy => h2 x y (by omega) (by omega))
    | true =>
      rw [ct_s1 (p := fun x => p (g x)) e, ct_off (h1 N (by omega)) e]
      have ih := ct_inj (g := g) (M := M) (N := N) (p := fun x => p x && !decide (x = g N)) (fun x hx => h1 x (by omega)) (fun x y hx hy => h2 x y (by omega) (by omega))
      have : ctB (fun x => p (g x)) N = ctB (fun x => (fun x => p x && !decide (x = g N)) (g x)) N := ct_congr (fun r hr => by
        dsimp only
        rw [decide_eq_false (fun z => by have := h2 r N (by omega) (by omega) z; omega)]
        simp)
      rw [this]
      exact Nat.add_le_add_right ih 1
theorem ct_bij {g h : Nat → Nat} {N : Nat} {p : Nat → Bool} (h1 : ∀ x, x < N → g x < N) (h2 : ∀ x, x < N → h x < N) (h3 : ∀ x, x < N → g (h x) = x) (h4 : ∀ x, x < N → h (g x) = x) : ctB (fun x => p (g x)) N = ctB p N := by
  apply Nat.le_antisymm
  · exact ct_inj h1 (fun x y hx hy e => by rw [← h4 x hx, e, h4 y hy])
  · have := ct_inj (g := h) (M := N) (N := N) (p := fun x => p (g x)) h2 (fun x y hx hy e => by rw [← h3 x hx, e, h3 y hy])
    have e : ctB (fun x => (fun x => p (g x)) (h x)) N = ctB p N := ct_congr (fun r hr => by dsimp only; rw [h3 r hr])
    rw [← e]
    exact this
