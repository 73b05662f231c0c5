/-! the reference's search -/
theorem M_flips {n : Nat} {h : Hp} (hn : n ≤ 6) : ∀ (v : Nat → Nat) (a b : Nat), RwM n v h → b ≤ n → a < 7 → Ev (f_X11_flips h (nI a) (nI b)) (fun h1 => RwM n (flipN a b v) h1 ∧ Sm [5] h h1) := by
  intro v a b hR hb ha7
  unfold f_X11_flips
  have hm : nI b - 1 = nI b + (-1) := Int32.sub_eq_add_neg _ _
  rw [hm]
  refine Ev_nm (Ev_jn1 (fun h1 => RwM n (flipN a b v) h1 ∧ Sm [5] h h1) (fun h1 hh => Ev_so hh) (fun kk hk => ?_))
  refine Ev_fx3 (fun j a1 a2 h1 => a1 = nI (a + j) ∧ a2 = nI (b - j) + (-1) ∧ RwM n (fun x => if (a ≤ x ∧ x < a + j) ∨ (b - j ≤ x ∧ x < b) then v (a + b - 1 - x) else v x) h1 ∧ Sm [5] h h1) ((b - a) / 2) ?_ ?_ (FU_lt (by omega)) ⟨rfl, by rw [Nat.sub_zero], RwM.congr (fun x hx => by rw [if_neg (by omega)]) hR, Sm.rf⟩
  · rintro self j a1 a2 h1 hj ⟨rfl, rfl, hR, hS⟩ hself
    obtain ⟨y, hy⟩ : ∃ y, b - j = y + 1 := ⟨b - j - 1, by omega⟩
    unfold L_X11_flips_7
    rw [hy, nI_m1]
    refine Ev_f (nle_n (by omega) (by omega)) (Ev_bd _ (M_exchanges hn (show a + j < n by omega) (show y < n by omega) (by omega) hR) (fun h2 ⟨q1, q2⟩ => hself _ _ _ ⟨nI_add _ 1, by rw [show b - (j + 1) = y by omega], RwM.congr (fun x hx => ?_) q1, hS.tr q2⟩))
    unfold swapN
    dsimp only
    by_cases e1 : x = a + j
    · rw [if_pos e1, if_neg (by omega), if_pos (by omega)]
      congr 1
      omega
    · rw [if_neg e1]
      by_cases e2 : x = y
      · rw [if_pos e2, if_neg (by omega), if_pos (by omega)]
        congr 1
        omega
      · rw [if_neg e2]
        by_cases e3 : (a ≤ x ∧ x < a + j) ∨ (b - j ≤ x ∧ x < b)
        · rw [if_pos e3, if_pos (by omega)]
        · rw [if_neg e3, if_neg (by omega)]
  · rintro self a1 a2 h1 ⟨rfl, rfl, hR, hS⟩
    unfold L_X11_flips_7
    refine Ev_t ?_ (hk _ ⟨RwM.congr (fun x hx => ?_) hR, hS⟩)
    · by_cases h0 : b - (b - a) / 2 = 0
      · rw [h0]
        exact Int32.le_trans (Int32.le_of_lt m1_lt) (Int32.not_lt.mp (nI_pos (by omega)))
      · obtain ⟨y, hy⟩ : ∃ y, b - (b - a) / 2 = y + 1 := ⟨b - (b - a) / 2 - 1, by omega⟩
        rw [hy, nI_m1]
        exact le_n (by omega) (by omega)
    · unfold flipN
      by_cases e3 : (a ≤ x ∧ x < a + (b - a) / 2) ∨ (b - (b - a) / 2 ≤ x ∧ x < b)
      · rw [if_pos e3, if_pos (by omega)]
      · rw [if_neg e3]
        by_cases e4 : a ≤ x ∧ x < b
        · rw [if_pos e4]
          congr 1
          omega
        · rw [if_neg e4]
/-- a step of the reference by its number: the sources, if there is such a one -/
def kdN (st n : Nat) : Nat := if st = 0 then n - 1 else if st = 1 then n * n else if st = 2 then n - 1 else n * n * n
def mvN (st n e : Nat) : Option (Nat → Nat) := if st = 0 then some (swapN e (e + 1) (fun x => x)) else if st = 2 then some (flipN 0 (e + 2) (fun x => x)) else if st = 1 then (if e % n < e / n % n then some (swapN (e % n) (e / n % n) (fun x => x)) else none) else (if e % n < e / n % n ∧ e / n % n < e / n / n + 1 then some (blkS (e % n) (e / n % n) (e / n / n + 1)) else none)
theorem mv_in {st n e : Nat} {s : Nat → Nat} (hst : st < 4) (hn2 : 2 ≤ n) (he : e < kdN st n) (h : mvN st n e = some s) : s ∈ stepsN st n := by
  have h4 : st = 0 ∨ st = 1 ∨ st = 2 ∨ st = 3 := by omega
  have hm1 : e % n < n := Nat.mod_lt _ (by omega)
  have hm2 : e / n % n < n := Nat.mod_lt _ (by omega)
  rcases h4 with rfl | rfl | rfl | rfl
  · have he : e < n - 1 := he
    have h : some (swapN e (e + 1) (fun x => x)) = some s := h
    cases h
    exact chg_mem.mpr ⟨e, 0, by omega, by omega, rfl⟩
  · have h : (if e % n < e / n % n then some (swapN (e % n) (e / n % n) (fun x => x)) else none) = some s := h
    split at h
    · cases h
      exact chg_mem.mpr ⟨e % n, e / n % n - e % n - 1, hm1, by omega, by rw [show e % n + 1 + (e / n % n - e % n - 1) = e / n % n by omega]⟩
    · cases h
  · have he : e < n - 1 := he
    have h : some (flipN 0 (e + 2) (fun x => x)) = some s := h
    cases h
    exact flp_mem.mpr ⟨e, he, by rw [Nat.add_comm]⟩
  · have he : e < n * n * n := he
    have h : (if e % n < e / n % n ∧ e / n % n < e / n / n + 1 then some (blkS (e % n) (e / n % n) (e / n / n + 1)) else none) = some s := h
    split at h
    · rename_i hc
      cases h
      have hd : e / n / n < n := by
        rw [Nat.div_div_eq_div_mul]
        exact Nat.div_lt_of_lt_mul he
      exact blk_mem.mpr ⟨_, _, _, hc.1, hc.2, by omega, rfl⟩
    · cases h
theorem mv_all {st n : Nat} {s : Nat → Nat} (hst : st < 4) (hn2 : 2 ≤ n) (hn : n ≤ 6) (h : s ∈ stepsN st n) : ∃ e, e < kdN st n ∧ mvN st n e = some s := by
  have h4 : st = 0 ∨ st = 1 ∨ st = 2 ∨ st = 3 := by omega
  rcases h4 with rfl | rfl | rfl | rfl
  · obtain ⟨a, d, ha, hd, rfl⟩ := chg_mem.mp (show s ∈ chgL 1 n from h)
    have : d = 0 := by omega
    subst this
    exact ⟨a, by show a < n - 1; omega, rfl⟩
  · obtain ⟨a, d, ha, hd, rfl⟩ := chg_mem.mp (show s ∈ chgL (n - 1) n from h)
    have hb : a + 1 + d < n := by omega
    refine ⟨n * (a + 1 + d) + a, ?_, ?_⟩
    · show n * (a + 1 + d) + a < n * n
      have := Nat.mul_le_mul_left n (show a + 1 + d + 1 ≤ n by omega)
      rw [Nat.mul_add n (a + 1 + d) 1] at this
      omega
    · have e1 : (n * (a + 1 + d) + a) % n = a := by rw [Nat.mul_add_mod]; exact Nat.mod_eq_of_lt ha
      have e2 : (n * (a + 1 + d) + a) / n = a + 1 + d := by
        rw [Nat.mul_add_div (by omega), Nat.div_eq_of_lt ha, Nat.add_zero]
      have hmv : ∀ E, mvN 1 n E = if E % n < E / n % n then some (swapN (E % n) (E / n % n) (fun x => x)) else none := fun _ => rfl
      rw [hmv, e1, e2, Nat.mod_eq_of_lt hb, if_pos (by omega)]
  · obtain ⟨d, hd, rfl⟩ := flp_mem.mp (show s ∈ flpL n from h)
    exact ⟨d, hd, by show some (flipN 0 (d + 2) _) = _; rw [Nat.add_comm]⟩
  · obtain ⟨a, b, e, h1, h2, h3, rfl⟩ := blk_mem.mp (show s ∈ blkL n from h)
    have hin : n * (e - 1) + b < n * n := by
      have := Nat.mul_le_mul_left n (show e - 1 + 1 ≤ n by omega)
      rw [Nat.mul_add n (e - 1) 1] at this
      omega
    refine ⟨n * (n * (e - 1) + b) + a, ?_, ?_⟩
    · show n * (n * (e - 1) + b) + a < n * n * n
      have := Nat.mul_le_mul_left n (show n * (e - 1) + b + 1 ≤ n * n from hin)
      rw [Nat.mul_add n (n * (e - 1) + b) 1, ← Nat.mul_assoc n n n] at this
      omega
    · have e1 : (n * (n * (e - 1) + b) + a) % n = a := by rw [Nat.mul_add_mod]; exact Nat.mod_eq_of_lt (by omega)
      have e2 : (n * (n * (e - 1) + b) + a) / n = n * (e - 1) + b := by
        rw [Nat.mul_add_div (by omega), Nat.div_eq_of_lt (by omega), Nat.add_zero]
      have e3 : (n * (e - 1) + b) % n = b := by rw [Nat.mul_add_mod]; exact Nat.mod_eq_of_lt (by omega)
      have e4 : (n * (e - 1) + b) / n = e - 1 := by
        rw [Nat.mul_add_div (by omega), Nat.div_eq_of_lt (by omega), Nat.add_zero]
      have hmv : ∀ E, mvN 3 n E = if E % n < E / n % n ∧ E / n % n < E / n / n + 1 then some (blkS (E % n) (E / n % n) (E / n / n + 1)) else none := fun _ => rfl
      rw [hmv, e1, e2, e3, e4, show e - 1 + 1 = e by omega, if_pos ⟨h1, h2⟩]
def mvQ (st n p e : Nat) : Nat := match mvN st n e with
  | some s => num n (fun x => rowT n p (s x))
  | none => 0
def nbM (st n p : Nat) : List Nat := (List.range (kdN st n)).map (mvQ st n p)
theorem kd_le {st n : Nat} (hn : n ≤ 6) : kdN st n ≤ 216 := by
  have h : n * n ≤ 36 := Nat.mul_le_mul hn hn
  have h2 : n * n * n ≤ 216 := Nat.mul_le_mul h hn
  unfold kdN
  split
  · omega
  · split
    · omega
    · split <;> omega
theorem nbM_ok {st n : Nat} (hst : st < 4) (hn2 : 2 ≤ n) (hn : n ≤ 6) : NbOk st n (nbM st n) := by
  intro p hp
  have hpp := row_perm hn hp
  refine ⟨fun q hq => ?_, fun q hq hE => ?_⟩
  · obtain ⟨e, he, rfl⟩ := List.mem_map.mp hq
    have he := List.mem_range.mp he
    unfold mvQ
    cases hm : mvN st n e with
    | none => exact ⟨fac_pos n, Or.inr rfl⟩
    | some s =>
      have hs := mv_in hst hn2 he hm
      have hv := src_perm hs hpp
      exact ⟨num_lt' hn hv, Or.inl ⟨s, hs, fun x hx => num_row hn hv hx⟩⟩
  · obtain ⟨s, hs, hx⟩ := hE
    obtain ⟨e, he, hm⟩ := mv_all hst hn2 hn hs
    refine List.mem_map.mpr ⟨e, List.mem_range.mpr he, ?_⟩
    unfold mvQ
    rw [hm]
    have := num_congr (n := n) (u := rowT n q) (v := fun x => rowT n p (s x)) hx
    rw [row_num hn hq] at this
    exact this.symm
theorem nbM_len {st n p : Nat} : (nbM st n p).length = kdN st n := by unfold nbM; simp
theorem nbM_get {st n p e : Nat} (he : e < kdN st n) : (nbM st n p).getD e 0 = mvQ st n p e := by
  unfold nbM
  rw [List.getD_eq_getElem?_getD, List.getElem?_map, List.getElem?_range he]; rfl
theorem M_kinds {n st : Nat} {h : Hp} (hn : n ≤ 6) (hn2 : 2 ≤ n) (hst : st < 4) (h1 : h.1 0 1 = nI n) : f_X11_kinds h (nI st) = some (nI (kdN st n)) := by
  refine Ev_eq ?_
  unfold f_X11_kinds
  have e0 : (nI st = 0) = (st = 0) := nI_iff (b := 0) (by omega) (by omega)
  have e1 : (nI st = 1) = (st = 1) := nI_iff (b := 1) (by omega) (by omega)
  have e2 : (nI st = 2) = (st = 2) := nI_iff (b := 2) (by omega) (by omega)
  simp only [e0, e1, e2]
  rw [h1, n1, nsub (by omega), nmul, nmul]
  unfold kdN
  refine Ev_i (fun q => Ev_so (by rw [if_pos q])) (fun q0 => Ev_i (fun q => Ev_so (by rw [if_neg q0, if_pos q])) (fun q1 => Ev_i (fun q => Ev_so (by rw [if_neg q0, if_neg q1, if_pos q])) (fun q2 => Ev_so (by rw [if_neg q0, if_neg q1, if_neg q2]))))
theorem M_does {n st e : Nat} {v : Nat → Nat} {h : Hp} (hn : n ≤ 6) (hn2 : 2 ≤ n) (hst : st < 4) (he : e < kdN st n) (h1 : h.1 0 1 = nI n) (hR : RwM n v h) : Ev (f_X11_does h (nI st) (nI e)) (fun r => Sm [5] h r.2 ∧ ((r.1 = 0 ∧ mvN st n e = none) ∨ (r.1 = 1 ∧ ∃ s, mvN st n e = some s ∧ RwM n (fun x => v (s x)) r.2))) := by
  have hkd := kd_le (st := st) hn
  have e0 : (nI st = 0) = (st = 0) := nI_iff (b := 0) (by omega) (by omega)
  have e1 : (nI st = 1) = (st = 1) := nI_iff (b := 1) (by omega) (by omega)
  have e2 : (nI st = 2) = (st = 2) := nI_iff (b := 2) (by omega) (by omega)
  have hnz : ¬ nI n = 0 := nI_ne0 (by omega) (by omega)
  have hm1 : e % n < n := Nat.mod_lt _ (by omega)
  have hm2 : e / n % n < n := Nat.mod_lt _ (by omega)
  have hd1 : e / n ≤ e := Nat.div_le_self _ _
  have hd2 : e / n / n ≤ e / n := Nat.div_le_self _ _
  unfold f_X11_does
  simp only [e0, e1, e2]
  rw [h1]
  refine Ev_i (fun q => ?_) (fun q0 => Ev_i (fun q => ?_) (fun q2 => Ev_nz hnz ?_))
  · subst q
    have he : e < n - 1 := he
    rw [n1, nI_add]
    exact Ev_bd _ (M_exchanges hn (show e < n by omega) (show e + 1 < n by omega) (by omega) hR) (fun h2 ⟨p1, p2⟩ => Ev_ckz (Or.inr rfl) (Ev_so ⟨p2, Or.inr ⟨rfl, _, rfl, RwM.congr (fun x _ => swap_src.symm) p1⟩⟩))
  · subst q
    have he : e < n - 1 := he
    rw [n2, nI_add, show (0 : Int32) = nI 0 from rfl]
    exact Ev_bd _ (M_flips hn v 0 (e + 2) hR (by omega) (by omega)) (fun h2 ⟨p1, p2⟩ => Ev_ckz (Or.inr rfl) (Ev_so ⟨p2, Or.inr ⟨rfl, _, rfl, RwM.congr (fun x _ => flip_src.symm) p1⟩⟩))
  · rw [irmN (by omega) (by omega) (by omega), ndiv (by omega) (by omega) (by omega), irmN (by omega) (by omega) (by omega), ndiv (by omega) (by omega) (by omega)]
    refine Ev_nm (Ev_nz hnz (Ev_nz hnz (Ev_nm (Ev_nz hnz (Ev_nz hnz (Ev_nm ?_))))))
    rw [n1, nI_add]
    refine Ev_i (fun q => ?_) (fun q1 => ?_)
    · have hmv : mvN st n e = if e % n < e / n % n then some (swapN (e % n) (e / n % n) (fun x => x)) else none := by unfold mvN; rw [if_neg q0, if_neg q2, if_pos q]
      refine Ev_jn1 (fun h2 => Sm [5] h h2 ∧ (e % n < e / n % n → RwM n (swapN (e % n) (e / n % n) v) h2)) (fun h2 ⟨p1, p2⟩ => ?_) (fun kk hk => ?_)
      · refine Ev_i (fun z => Ev_ckz (Or.inl rfl) (Ev_so ⟨p1, Or.inl ⟨rfl, ?_⟩⟩)) (fun z => Ev_ckz (Or.inr rfl) (Ev_so ⟨p1, Or.inr ⟨rfl, swapN (e % n) (e / n % n) (fun x => x), ?_, ?_⟩⟩))
        · rw [nI_leI (by omega) (by omega)] at z
          rw [hmv, if_neg (by omega)]
        · rw [nI_leI (by omega) (by omega)] at z
          rw [hmv, if_pos (by omega)]
        · rw [nI_leI (by omega) (by omega)] at z
          exact RwM.congr (fun x _ => swap_src.symm) (p2 (by omega))
      · refine Ev_i (fun z => hk _ ⟨Sm.rf, fun z2 => ?_⟩) (fun z => ?_)
        · rw [nI_leI (by omega) (by omega)] at z; omega
        · rw [nI_leI (by omega) (by omega)] at z
          exact Ev_bd _ (M_exchanges hn hm1 hm2 (by omega) hR) (fun h2 ⟨p1, p2⟩ => hk _ ⟨p2, fun _ => p1⟩)
    · have hmv : mvN st n e = if e % n < e / n % n ∧ e / n % n < e / n / n + 1 then some (blkS (e % n) (e / n % n) (e / n / n + 1)) else none := by unfold mvN; rw [if_neg q0, if_neg q2, if_neg q1]
      have h3 : st = 3 := by omega
      subst h3
      have he : e < n * n * n := he
      have hd : e / n / n < n := by
        rw [Nat.div_div_eq_div_mul]
        exact Nat.div_lt_of_lt_mul he
      refine Ev_i (fun z => Ev_ckz (Or.inl rfl) (Ev_so ⟨Sm.rf, Or.inl ⟨rfl, ?_⟩⟩)) (fun z => ?_)
      · rw [nI_leI (by omega) (by omega)] at z
        rw [hmv, if_neg (by omega)]
      · rw [nI_leI (by omega) (by omega)] at z
        refine Ev_i (fun z2 => ?_) (fun z2 => Ev_ckz (Or.inl rfl) (Ev_so ⟨Sm.rf, Or.inl ⟨rfl, ?_⟩⟩))
        · rw [nI_ltI (by omega) (by omega)] at z2
          refine Ev_bd _ (M_flips hn v _ _ hR (by omega) (by omega)) (fun h2 ⟨p1, p2⟩ => ?_)
          refine Ev_bd _ (M_flips hn _ _ _ p1 (by omega) (by omega)) (fun h3 ⟨p3, p4⟩ => ?_)
          refine Ev_bd _ (M_flips hn _ _ _ p3 (by omega) (by omega)) (fun h4 ⟨p5, p6⟩ => ?_)
          exact Ev_ckz (Or.inr rfl) (Ev_so ⟨(p2.tr p4).tr p6, Or.inr ⟨rfl, _, by rw [hmv, if_pos ⟨by omega, z2⟩], RwM.congr (fun x _ => (blk_flips (by omega) z2).symm) p5⟩⟩)
        · rw [nI_ltI (by omega) (by omega)] at z2
          rw [hmv, if_neg (by omega)]
