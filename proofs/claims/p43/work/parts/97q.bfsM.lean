/-! the reference's search -/
/-- a step of the reference by its number: the sources, if there is such a one -/
def kdN (st n : Nat) : Nat := if st = 0 then n - 1 else if st = 1 then n * n else if st = 2 then n - 1 else n * n * n
def mvN (st n e : Nat) : Option (Nat → Nat) := if st = 0 then some (swapN e (e + 1) (fun x => x)) else if st = 2 then some (flipN 0 (e + 2) (fun x => x)) else if st = 1 then (if e % n < e / n % n then some (swapN (e % n) (e / n % n) (fun x => x)) else none) else (if e % n < e / n % n ∧ e / n % n < e / n / n + 1 then some (blkS (e % n) (e / n % n) (e / n / n + 1)) else none)
theorem mv_in {st n e : Nat} {s : Nat → Nat} (hst : st < 4) (hn2 : 2 ≤ n) (he : e < kdN st n) (h : mvN st n e = some s) : s ∈ stepsN st n := by
  have h4 : st = 0 ∨ st = 1 ∨ st = 2 ∨ st = 3 := by omega
  have hm1 : e % n < n := Nat.mod_lt _ (by omega)
  have hm2 : e / n % n < n := Nat.mod_lt _ (by omega)
  rcases h4 with rfl | rfl | rfl | rfl
  · have he : e < n - 1 := he
    have h : some (swapN e (e + 1) (fun x => x)) = some s := h
    cases h
    exact chg_mem.mpr ⟨e, 0, by omega, by omega, rfl⟩
  · have h : (if e % n < e / n % n then some (swapN (e % n) (e / n % n) (fun x => x)) else none) = some s := h
    split at h
    · cases h
      exact chg_mem.mpr ⟨e % n, e / n % n - e % n - 1, hm1, by omega, by rw [show e % n + 1 + (e / n % n - e % n - 1) = e / n % n by omega]⟩
    · cases h
  · have he : e < n - 1 := he
    have h : some (flipN 0 (e + 2) (fun x => x)) = some s := h
    cases h
    exact flp_mem.mpr ⟨e, he, by rw [Nat.add_comm]⟩
  · have he : e < n * n * n := he
    have h : (if e % n < e / n % n ∧ e / n % n < e / n / n + 1 then some (blkS (e % n) (e / n % n) (e / n / n + 1)) else none) = some s := h
    split at h
    · rename_i hc
      cases h
      have hd : e / n / n < n := by
        rw [Nat.div_div_eq_div_mul]
        exact Nat.div_lt_of_lt_mul he
      exact blk_mem.mpr ⟨_, _, _, hc.1, hc.2, by omega, rfl⟩
    · cases h
theorem mv_all {st n : Nat} {s : Nat → Nat} (hst : st < 4) (hn2 : 2 ≤ n) (hn : n ≤ 6) (h : s ∈ stepsN st n) : ∃ e, e < kdN st n ∧ mvN st n e = some s := by
  have h4 : st = 0 ∨ st = 1 ∨ st = 2 ∨ st = 3 := by omega
  rcases h4 with rfl | rfl | rfl | rfl
  · obtain ⟨a, d, ha, hd, rfl⟩ := chg_mem.mp (show s ∈ chgL 1 n from h)
    have : d = 0 := by omega
    subst this
    exact ⟨a, by show a < n - 1; omega, rfl⟩
  · obtain ⟨a, d, ha, hd, rfl⟩ := chg_mem.mp (show s ∈ chgL (n - 1) n from h)
    have hb : a + 1 + d < n := by omega
    refine ⟨n * (a + 1 + d) + a, ?_, ?_⟩
    · show n * (a + 1 + d) + a < n * n
      have := Nat.mul_le_mul_left n (show a + 1 + d + 1 ≤ n by omega)
      rw [Nat.mul_add n (a + 1 + d) 1] at this
      omega
    · have e1 : (n * (a + 1 + d) + a) % n = a := by rw [Nat.mul_add_mod]; exact Nat.mod_eq_of_lt ha
      have e2 : (n * (a + 1 + d) + a) / n = a + 1 + d := by
        rw [Nat.mul_add_div (by omega), Nat.div_eq_of_lt ha, Nat.add_zero]
      have hmv : ∀ E, mvN 1 n E = if E % n < E / n % n then some (swapN (E % n) (E / n % n) (fun x => x)) else none := fun _ => rfl
      rw [hmv, e1, e2, Nat.mod_eq_of_lt hb, if_pos (by omega)]
  · obtain ⟨d, hd, rfl⟩ := flp_mem.mp (show s ∈ flpL n from h)
    exact ⟨d, hd, by show some (flipN 0 (d + 2) _) = _; rw [Nat.add_comm]⟩
  · obtain ⟨a, b, e, h1, h2, h3, rfl⟩ := blk_mem.mp (show s ∈ blkL n from h)
    have hin : n * (e - 1) + b < n * n := by
      have := Nat.mul_le_mul_left n (show e - 1 + 1 ≤ n by omega)
      rw [Nat.mul_add n (e - 1) 1] at this
      omega
    refine ⟨n * (n * (e - 1) + b) + a, ?_, ?_⟩
    · show n * (n * (e - 1) + b) + a < n * n * n
      have := Nat.mul_le_mul_left n (show n * (e - 1) + b + 1 ≤ n * n from hin)
      rw [Nat.mul_add n (n * (e - 1) + b) 1, ← Nat.mul_assoc n n n] at this
      omega
    · have e1 : (n * (n * (e - 1) + b) + a) % n = a := by rw [Nat.mul_add_mod]; exact Nat.mod_eq_of_lt (by omega)
      have e2 : (n * (n * (e - 1) + b) + a) / n = n * (e - 1) + b := by
        rw [Nat.mul_add_div (by omega), Nat.div_eq_of_lt (by omega), Nat.add_zero]
      have e3 : (n * (e - 1) + b) % n = b := by rw [Nat.mul_add_mod]; exact Nat.mod_eq_of_lt (by omega)
      have e4 : (n * (e - 1) + b) / n = e - 1 := by
        rw [Nat.mul_add_div (by omega), Nat.div_eq_of_lt (by omega), Nat.add_zero]
      have hmv : ∀ E, mvN 3 n E = if E % n < E / n % n ∧ E / n % n < E / n / n + 1 then some (blkS (E % n) (E / n % n) (E / n / n + 1)) else none := fun _ => rfl
      rw [hmv, e1, e2, e3, e4, show e - 1 + 1 = e by omega, if_pos ⟨h1, h2⟩]
def mvQ (st n p e : Nat) : Nat := match mvN st n e with
  | some s => num n (fun x => rowT n p (s x))
  | none => 0
def nbM (st n p : Nat) : List Nat := (List.range (kdN st n)).map (mvQ st n p)
theorem kd_le {st n : Nat} (hn : n ≤ 6) : kdN st n ≤ 216 := by
  have h : n * n ≤ 36 := Nat.mul_le_mul hn hn
  have h2 : n * n * n ≤ 216 := Nat.mul_le_mul h hn
  unfold kdN
  split
  · omega
  · split
    · omega
    · split <;> omega
theorem nbM_ok {st n : Nat} (hst : st < 4) (hn2 : 2 ≤ n) (hn : n ≤ 6) : NbOk st n (nbM st n) := by
  intro p hp
  have hpp := row_perm hn hp
  refine ⟨fun q hq => ?_, fun q hq hE => ?_⟩
  · obtain ⟨e, he, rfl⟩ := List.mem_map.mp hq
    have he := List.mem_range.mp he
    unfold mvQ
    cases hm : mvN st n e with
    | none => exact ⟨fac_pos n, Or.inr rfl⟩
    | some s =>
      have hs := mv_in hst hn2 he hm
      have hv := src_perm hs hpp
      exact ⟨num_lt' hn hv, Or.inl ⟨s, hs, fun x hx => num_row hn hv hx⟩⟩
  · obtain ⟨s, hs, hx⟩ := hE
    obtain ⟨e, he, hm⟩ := mv_all hst hn2 hn hs
    refine List.mem_map.mpr ⟨e, List.mem_range.mpr he, ?_⟩
    unfold mvQ
    rw [hm]
    have := num_congr (n := n) (u := rowT n q) (v := fun x => rowT n p (s x)) hx
    rw [row_num hn hq] at this
    exact this.symm
theorem nbM_len {st n p : Nat} : (nbM st n p).length = kdN st n := by unfold nbM; simp
theorem nbM_get {st n p e : Nat} (he : e < kdN st n) : (nbM st n p).getD e 0 = mvQ st n p e := by
  unfold nbM
  rw [List.getD_eq_getElem?_getD, List.getElem?_map, List.getElem?_range he]; rfl
