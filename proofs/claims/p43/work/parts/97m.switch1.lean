/-! SWITCHES; cases routes, setting -/
theorem BalR.keep {n k : Nat} {f o : Nat → Nat} {c m c1 m1 : Hp} (h : BalR n k f o c m) (e1 : c1.1 23 = c.1 23) (e2 : c1.1 24 = c.1 24) (e3 : c1.1 25 = c.1 25) (e4 : c1.1 27 = c.1 27) (e5 : m1.1 0 14 = m.1 0 14) (e6 : m1.1 9 = m.1 9) (e7 : m1.1 10 = m.1 10) : BalR n k f o c1 m1 := by
  obtain ⟨t, v, h1, h2, h3, h4, h5, h6, h7⟩ := h
  exact ⟨t, v, h1, h2, h3, by rw [e1]; exact h4, e5.trans h5, fun x hx => by rw [e2, e3, e7]; exact h6 x hx, fun i hi => by rw [e4, e6]; exact h7 i hi⟩
theorem swap_swap {a b x : Nat} {v : Nat → Nat} (hab : a ≠ b) : swapN a b (swapN a b v) x = v x := by
  unfold swapN
  by_cases e1 : x = a
  · rw [if_pos e1, if_neg (Ne.symm hab), if_pos rfl, e1]
  · rw [if_neg e1]
    by_cases e2 : x = b
    · rw [if_pos e2, if_pos rfl, e2]
    · rw [if_neg e2, if_neg e1, if_neg e2]
theorem swap_perm {n a b : Nat} {v : Nat → Nat} (ha : a < n) (hb : b < n) (hab : a ≠ b) (hv : PermN n v) : PermN n (swapN a b v) := by
  refine ⟨fun x hx => ?_, fun x y hx hy e => ?_⟩
  · unfold swapN
    split
    · exact hv.1 b hb
    · split
      · exact hv.1 a ha
      · exact hv.1 x hx
  · have key : ∀ x, x < n → ∃ x', x' < n ∧ swapN a b v x = v x' ∧ (x' = if x = a then b else if x = b then a else x) := fun x hx => by
      unfold swapN
      by_cases e1 : x = a
      · exact ⟨b, hb, by rw [if_pos e1], by rw [if_pos e1]⟩
      · by_cases e2 : x = b
        · exact ⟨a, ha, by rw [if_neg e1, if_pos e2], by rw [if_neg e1, if_pos e2]⟩
        · exact ⟨x, hx, by rw [if_neg e1, if_neg e2], by rw [if_neg e1, if_neg e2]⟩
    obtain ⟨x', hx', ex, ex2⟩ := key x hx
    obtain ⟨y', hy', ey, ey2⟩ := key y hy
    rw [ex, ey] at e
    have h := hv.2 x' y' hx' hy' e
    rw [ex2, ey2] at h
    revert h
    split <;> split <;> (try split) <;> (try split) <;> omega
theorem swap_congr {n a b : Nat} {u v : Nat → Nat} (ha : a < n) (hb : b < n) (h : ∀ x, x < n → u x = v x) : ∀ x, x < n → swapN a b u x = swapN a b v x := fun x hx => by
  unfold swapN
  rw [h a ha, h b hb, h x hx]
theorem reach_s {n j : Nat} {f o v : Nat → Nat} : reachB n f o (j + 1) v = (reachB n f o j v || reachB n f o j (swapN (f j) (o j) v)) := rfl
theorem reach_congr {n k : Nat} {f o : Nat → Nat} (hG : Good n k f o) : ∀ j, j ≤ k → ∀ u v : Nat → Nat, (∀ x, x < n → u x = v x) → reachB n f o j u = reachB n f o j v
  | 0, _, u, v, h => by
    have : ∀ w : Nat → Nat, reachB n f o 0 w = true ↔ ∀ x, x < n → w x = x := fun w => by
      show (List.range n).all (fun x => w x == x) = true ↔ _
      rw [List.all_eq_true]
      exact ⟨fun h x hx => eq_of_beq (h x (List.mem_range.mpr hx)), fun h x hx => by rw [h x (List.mem_range.mp hx)]; exact beq_self_eq_true x⟩
    cases e : reachB n f o 0 v with
    | true => exact (this u).mpr (fun x hx => by rw [h x hx]; exact (this v).mp e x hx)
    | false =>
      cases e2 : reachB n f o 0 u with
      | false => rfl
      | true => rw [(this v).mpr (fun x hx => by rw [← h x hx]; exact (this u).mp e2 x hx)] at e; cases e
  | j + 1, hj, u, v, h => by
    obtain ⟨g1, g2, g3⟩ := hG.2.2.2 j (by omega)
    rw [reach_s, reach_s, reach_congr hG j (by omega) u v h, reach_congr hG j (by omega) _ _ (swap_congr g1 g2 h)]
theorem reach_mono {n : Nat} {f o v : Nat → Nat} {i : Nat} (h : reachB n f o i v = true) : ∀ d, reachB n f o (i + d) v = true
  | 0 => h
  | d + 1 => by
    show (reachB n f o (i + d) v || _) = true
    rw [reach_mono h d, Bool.true_or]
theorem reach_0 {n : Nat} {f o v : Nat → Nat} : reachB n f o 0 v = true ↔ ∀ x, x < n → v x = x := by
  show (List.range n).all (fun x => v x == x) = true ↔ _
  rw [List.all_eq_true]
  exact ⟨fun h x hx => eq_of_beq (h x (List.mem_range.mpr hx)), fun h x hx => by rw [h x (List.mem_range.mp hx)]; exact beq_self_eq_true x⟩
/-- a comparator's change as a step between numbers -/
def nxN (n : Nat) (f o : Nat → Nat) (j r : Nat) : Nat := num n (swapN (f j) (o j) (rowT n r))
def rbN (n : Nat) (f o : Nat → Nat) (j r : Nat) : Bool := reachB n f o j (rowT n r)
theorem nx_lt {n k j r : Nat} {f o : Nat → Nat} (hG : Good n k f o) (hj : j < k) (hr : r < facN n) : nxN n f o j r < facN n ∧ ∀ x, x < n → rowT n (nxN n f o j r) x = swapN (f j) (o j) (rowT n r) x := by
  obtain ⟨g1, g2, g3⟩ := hG.2.2.2 j hj
  have hp := swap_perm g1 g2 g3 (row_perm hG.2.1 hr)
  exact ⟨num_lt' hG.2.1 hp, fun x hx => num_row hG.2.1 hp hx⟩
theorem nx_nx {n k j r : Nat} {f o : Nat → Nat} (hG : Good n k f o) (hj : j < k) (hr : r < facN n) : nxN n f o j (nxN n f o j r) = r := by
  obtain ⟨g1, g2, g3⟩ := hG.2.2.2 j hj
  obtain ⟨h1, h2⟩ := nx_lt hG hj hr
  have : num n (swapN (f j) (o j) (rowT n (nxN n f o j r))) = num n (rowT n r) := num_congr (fun x hx => by
    rw [swap_congr g1 g2 h2 x hx, swap_swap g3])
  rw [row_num hG.2.1 hr] at this
  exact this
theorem rb_s {n k j r : Nat} {f o : Nat → Nat} (hG : Good n k f o) (hj : j < k) (hr : r < facN n) : rbN n f o (j + 1) r = (rbN n f o j r || rbN n f o j (nxN n f o j r)) := by
  obtain ⟨h1, h2⟩ := nx_lt hG hj hr
  unfold rbN
  rw [reach_s, reach_congr hG j (by omega) _ _ (fun x hx => (h2 x hx).symm)]
theorem rb_0 {n k r : Nat} {f o : Nat → Nat} (hG : Good n k f o) (hr : r < facN n) : rbN n f o 0 r = true ↔ r = 0 := by
  unfold rbN
  rw [reach_0, ← num_0 hG.2.1 (row_perm hG.2.1 hr), row_num hG.2.1 hr]
/-- the reference's marks -/
def MarkI (n k : Nat) (f o : Nat → Nat) (j : Nat) (h : Hp) : Prop := ∀ j', j' ≤ j → ∀ r, r < facN n → h.1 11 (720 * j' + r) = if rbN n f o j' r = true then 1 else 0
