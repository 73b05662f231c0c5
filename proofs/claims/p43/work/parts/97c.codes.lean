/-! factorials, numbers, ranks, codes -/
theorem fac_le : ∀ n, n < 7 → facN n ≤ 720 := by decide
theorem C_inOrder {n : Nat} (hn : n ≤ 6) : Ev (f_X5_inOrder (nI n)) (fun y => ∃ q, y = nI q ∧ PK n (fun x => x) q) := by
  unfold f_X5_inOrder
  refine Ev_jn1 (fun y => ∃ q, y = nI q ∧ PK n (fun x => x) q) (fun y hy => Ev_so hy) (fun kk hk => ?_)
  refine Ev_fx2 (fun w a1 a2 => a2 = nI w ∧ ∃ q, a1 = nI q ∧ PK w (fun x => x) q) n ?_ ?_ (FU_lt (by omega)) ⟨rfl, 0, rfl, PK.z⟩
  · rintro self w a1 a2 hw ⟨rfl, q, rfl, hq⟩ hself
    unfold L_X5_inOrder_4
    rw [n4, nmul, ishl_n (by omega), nI_or]
    exact Ev_f (nle_n hw (by omega)) (Ev_nm (hself _ _ ⟨nI_add w 1, _, rfl, hq.put (by show w < 16; omega)⟩))
  · rintro self a1 a2 ⟨rfl, hq⟩
    unfold L_X5_inOrder_4
    exact Ev_t (Int32.le_refl _) (hk _ hq)
theorem C_rearr {n q s : Nat} {v g : Nat → Nat} (hn : n ≤ 6) (hq : PK n v q) (hs : PK n g s) (hv : ∀ x, x < n → v x < 16) (hg : ∀ x, x < n → g x < n) : Ev (f_X5_rearranged (nI q) (nI s) (nI n)) (fun y => ∃ p, y = nI p ∧ PK n (fun x => v (g x)) p) := by
  unfold f_X5_rearranged
  refine Ev_jn1 (fun y => ∃ q, y = nI q ∧ PK n (fun x => v (g x)) q) (fun y hy => Ev_so hy) (fun kk hk => ?_)
  refine Ev_fx2 (fun w a1 a2 => a2 = nI w ∧ ∃ q, a1 = nI q ∧ PK w (fun x => v (g x)) q) n ?_ ?_ (FU_lt (by omega)) ⟨rfl, 0, rfl, PK.z⟩
  · rintro self w a1 a2 hw ⟨rfl, p, rfl, hp⟩ hself
    have hgw := hg w hw
    have hvg := hv _ hgw
    unfold L_X5_rearranged_5
    refine Ev_f (nle_n hw (by omega)) (Ev_bde (C_valueOn hn hs hw (by omega)) (Ev_bde (C_valueOn hn hq hgw hvg) (Ev_nm (hself _ _ ⟨nI_add w 1, _, ?_, hp.put hvg⟩))))
    rw [n4, nmul, ishl_n (by omega), nI_or]
  · rintro self a1 a2 ⟨rfl, hq⟩
    unfold L_X5_rearranged_5
    exact Ev_t (Int32.le_refl _) (hk _ hq)
theorem bitCount6 : ∀ q, q < 64 → f_J6_bitCount (nI q) = some (nI (ctB (fun y => q.testBit y) 6)) := by decide +kernel
def seenN (v : Nat → Nat) : Nat → Nat
  | 0 => 0
  | x + 1 => seenN v x ||| 2 ^ v x
theorem seen_bit {v : Nat → Nat} {y : Nat} : ∀ x, (seenN v x).testBit y = true ↔ ∃ u, u < x ∧ v u = y
  | 0 => by
    show (0 : Nat).testBit y = true ↔ _
    simp
  | x + 1 => by
    show (seenN v x ||| 2 ^ v x).testBit y = true ↔ _
    rw [Nat.testBit_or, Nat.testBit_two_pow, Bool.or_eq_true, seen_bit x]
    constructor
    · rintro (⟨u, hu, e⟩ | h)
      · exact ⟨u, by omega, e⟩
      · exact ⟨x, by omega, of_decide_eq_true h⟩
    · rintro ⟨u, hu, e⟩
      by_cases q : u = x
      · subst q; exact Or.inr (decide_eq_true e)
      · exact Or.inl ⟨u, by omega, e⟩
theorem seen_lt {n : Nat} {v : Nat → Nat} : ∀ x, (∀ u, u < x → v u < n) → seenN v x < 2 ^ n
  | 0, _ => Nat.two_pow_pos _
  | x + 1, h => Nat.or_lt_two_pow (seen_lt x (fun u hu => h u (by omega))) (Nat.pow_lt_pow_right (by omega) (h x (by omega)))
theorem seen_ct {n t : Nat} {v : Nat → Nat} (hn : n ≤ 6) (hv : PermN n v) : ∀ x, x ≤ n → ctB (fun y => (seenN v x).testBit y && decide (y < t)) 6 = ctB (fun u => decide (v u < t)) x
  | 0, _ => ct_0.mpr (fun r hr => by show ((0 : Nat).testBit r && _) = false; simp)
  | x + 1, hx => by
    have ih := seen_ct (t := t) hn hv x (by omega)
    have hvx := hv.1 x (by omega)
    have hnew : (seenN v x).testBit (v x) = false := by
      cases e : (seenN v x).testBit (v x) with
      | false => rfl
      | true =>
        obtain ⟨u, hu, e2⟩ := (seen_bit x).mp e
        have := hv.2 u x (by omega) (by omega) e2
        omega
    have hb : ∀ y, (seenN v (x + 1)).testBit y = ((seenN v x).testBit y || decide (v x = y)) := fun y => by
      show (seenN v x ||| 2 ^ v x).testBit y = _
      rw [Nat.testBit_or, Nat.testBit_two_pow]
    by_cases h : v x < t
    · rw [ct_s1 (p := fun u => decide (v u < t)) (decide_eq_true h), ct_off (s := v x) (by omega) (by rw [hb]; simp [h]), ← ih]
      congr 1
      refine ct_congr (fun r hr => ?_)
      rw [hb]
      by_cases e : r = v x
      · subst e; rw [hnew]; simp
      · rw [decide_eq_false (show ¬ v x = r from fun z => e z.symm), decide_eq_false e]; simp
    · rw [ct_s0 (p := fun u => decide (v u < t)) (by simpa using h), ← ih]
      refine ct_congr (fun r hr => ?_)
      rw [hb]
      by_cases e : v x = r
      · subst e; rw [decide_eq_false h]; simp
      · rw [decide_eq_false e]; simp
theorem fFAC_n : ∀ k, k < 7 → fFAC k = nI (facN k) := by decide
theorem C_rank {n q : Nat} {v : Nat → Nat} (hn : n ≤ 6) (hq : PK n v q) (hv : PermN n v) : f_X5_rank (nI q) (nI n) = some (nI (rankN v n)) := by
  refine Ev_eq ?_
  unfold f_X5_rank
  refine Ev_jn1 (fun y => y = nI (rankN v n)) (fun y hy => Ev_so hy) (fun kk hk => ?_)
  refine Ev_fx3 (fun x a1 a2 a3 => a3 = nI x ∧ a1 = nI (rankN v x) ∧ a2 = nI (seenN v x)) n ?_ ?_ (FU_lt (by omega)) ⟨rfl, rfl, rfl⟩
  · rintro self x a1 a2 a3 hx ⟨rfl, rfl, rfl⟩ hself
    have hvx := hv.1 x hx
    have hsl := seen_lt (n := 6) (v := v) x (fun u hu => by have := hv.1 u (by omega); omega)
    unfold L_X5_rank_7
    have e1 : ishl (1 : Int32) (nI (v x)) = nI (2 ^ v x) := by
      have := ishl_n (a := 1) (k := v x) (by omega)
      rw [Nat.one_mul] at this; exact this
    have hp : 2 ^ v x ≤ 2 ^ 6 := Nat.pow_le_pow_right (by omega) (by omega)
    have hp0 := Nat.two_pow_pos (v x)
    refine Ev_f (nle_n hx (by omega)) (Ev_bde (C_valueOn hn hq hx (by omega)) (Ev_nm ?_))
    rw [e1, n1, nsub hp0, nI_and, nI_or]
    have hlt : seenN v x &&& (2 ^ v x - 1) < 64 := Nat.lt_of_le_of_lt Nat.and_le_left hsl
    refine Ev_bde (bitCount6 _ hlt) (Ev_ck rfl (by omega) (by omega) (Ev_nm (Ev_nm (hself _ _ _ ⟨nI_add x 1, ?_, rfl⟩))))
    rw [clN (by omega), fFAC_n x (by omega), nmul, nI_add]
    have : ctB (fun y => (seenN v x &&& (2 ^ v x - 1)).testBit y) 6 = ctB (fun u => decide (v u < v x)) x := by
      rw [← seen_ct (t := v x) hn hv x (by omega)]
      exact ct_congr (fun r hr => by rw [Nat.testBit_and, Nat.testBit_two_pow_sub_one])
    rw [this]
    rfl
  · rintro self a1 a2 a3 ⟨rfl, rfl, rfl⟩
    unfold L_X5_rank_7
    exact Ev_t (Int32.le_refl _) (hk _ rfl)
/-- a row in which each value stands -/
theorem onto_perm {n : Nat} {g : Nat → Nat} (h : ∀ y, y < n → ∃ x, x < n ∧ g x = y) : PermN n g := by
  have ⟨w, hw⟩ : ∃ w : Nat → Nat, ∀ y, y < n → w y < n ∧ g (w y) = y := by
    refine ⟨fun y => if hy : y < n then Classical.choose (h y hy) else 0, fun y hy => ?_⟩
    dsimp only
    rw [dif_pos hy]
    exact Classical.choose_spec (h y hy)
  have hwi : ∀ x y, x < n → y < n → w x = w y → x = y := fun x y hx hy e => by rw [← (hw x hx).2, e, (hw y hy).2]
  have hwo : ∀ x, x < n → ∃ y, y < n ∧ w y = x := fun x hx => by
    apply Classical.byContradiction
    intro hno
    have h1 := ct_inj (g := w) (M := n) (N := n) (p := fun z => !decide (z = x)) (fun y hy => (hw y hy).1) hwi
    have h2 : ctB (fun y => (fun z => !decide (z = x)) (w y)) n = n := ct_all (fun r hr => by
      dsimp only
      rw [decide_eq_false (fun z => hno ⟨r, hr, z⟩)]; rfl)
    have h3 := ct_lt (p := fun z => !decide (z = x)) (q := fun _ => true) (n := n) (fun _ _ _ => rfl) ⟨x, hx, rfl, by simp⟩
    have h4 : ctB (fun _ => true) n = n := ct_all (fun _ _ => rfl)
    have h5 := Nat.le_trans (Nat.le_of_eq h2.symm) h1
    omega
  refine ⟨fun x hx => ?_, fun x y hx hy e => ?_⟩
  · obtain ⟨y, hy, rfl⟩ := hwo x hx
    rw [(hw y hy).2]; exact hy
  · obtain ⟨a, ha, rfl⟩ := hwo x hx
    obtain ⟨b, hb, rfl⟩ := hwo y hy
    rw [(hw a ha).2, (hw b hb).2] at e
    rw [e]
def dgN (c w : Nat) : Nat := c / 10 ^ w % 10
theorem dg_lt {c w : Nat} : dgN c w < 10 := Nat.mod_lt _ (by omega)
theorem irm10 {c w : Nat} (hc : c < 2 ^ 31) : irm (nI (c / 10 ^ w)) (10 : Int32) = nI (dgN c w) := irmN (b := 10) (Nat.lt_of_le_of_lt (Nat.div_le_self _ _) hc) (by omega) (by omega)
theorem div10 {c w : Nat} (hc : c < 2 ^ 31) : nI (c / 10 ^ w) / (10 : Int32) = nI (c / 10 ^ (w + 1)) := by
  have := ndiv (a := c / 10 ^ w) (b := 10) (Nat.lt_of_le_of_lt (Nat.div_le_self _ _) hc) (by omega) (by omega)
  rw [Nat.div_div_eq_div_mul, ← Nat.pow_succ] at this
  exact this
def isCd (n c : Nat) : Prop := PermN n (dgN c) ∧ c < 10 ^ n
theorem div_0 {n c : Nat} : c / 10 ^ n = 0 ↔ c < 10 ^ n := Nat.div_eq_zero_iff_lt (Nat.pow_pos (by omega))
theorem C_ofCode {n c : Nat} (hn : n ≤ 6) (hc : c < 2 ^ 31) : Ev (f_X5_ofCode (nI c) (nI n)) (fun y => (isCd n c → ∃ q, y = nI q ∧ PK n (dgN c) q) ∧ (¬ isCd n c → y = -1)) := by
  have hq : c / 10 ^ n < 2 ^ 31 := Nat.lt_of_le_of_lt (Nat.div_le_self _ _) hc
  unfold f_X5_ofCode
  refine Ev_jn2 (fun a b => a = nI (c / 10 ^ n) ∧ PermN n (dgN c) ∧ ∃ q, b = nI q ∧ PK n (dgN c) q) (fun a b ⟨ea, hP, q, eb, hq2⟩ => ?_) (fun k74 h74 => Ev_jn0 (¬ PermN n (dgN c)) (fun hP => Ev_so ⟨fun z => absurd z.1 hP, fun _ => rfl⟩) (fun k47 h47 => ?_))
  · subst ea; subst eb
    rw [show (0 : Int32) = nI 0 from rfl]
    refine Ev_i (fun e => Ev_so ⟨fun _ => ⟨q, rfl, hq2⟩, fun z => absurd ⟨hP, ?_⟩ z⟩) (fun e => Ev_so ⟨fun z => absurd ?_ e, fun _ => rfl⟩)
    · rw [neqI hq (by omega)]; exact div_0.mpr z.2
    · rw [neqI hq (by omega)] at e; exact div_0.mp e
  · refine Ev_fx4 (fun w a1 a2 a3 a4 => a4 = nI w ∧ a1 = nI (c / 10 ^ w) ∧ a2 = nI (seenN (dgN c) w) ∧ (∃ q, a3 = nI q ∧ PK w (dgN c) q) ∧ (∀ x, x < w → dgN c x < n) ∧ ∀ x y, x < w → y < w → dgN c x = dgN c y → x = y) n ?_ ?_ (FU_lt (by omega)) ⟨rfl, by rw [Nat.pow_zero, Nat.div_one], rfl, ⟨0, rfl, PK.z⟩, fun x hx => absurd hx (by omega), fun x y hx => absurd hx (by omega)⟩
    · rintro self w a1 a2 a3 a4 hw ⟨rfl, rfl, rfl, ⟨q, rfl, hP⟩, hl, hi⟩ hself
      have hd := dg_lt (c := c) (w := w)
      have hs := seen_lt (n := 6) (v := dgN c) w (fun u hu => by have := hl u hu; omega)
      unfold L_X5_ofCode_10
      rw [irm10 hc, div10 hc]
      refine Ev_f (nle_n hw (by omega)) (Ev_nm (Ev_nm (Ev_f (nI_pos (by omega)) (Ev_i (fun e => h47 (fun z => ?_)) (fun e => Ev_i (fun e2 => Ev_nm (Ev_nm (hself _ _ _ _ ⟨nI_add w 1, rfl, ?_, ⟨_, ?_, hP.put (by omega)⟩, fun x hx => ?_, fun x y hx hy e3 => ?_⟩))) (fun e2 => h47 (fun z => e2 ?_)))))))
      · rw [nI_leI (by omega) (by omega)] at e
        have := z.1 w hw
        omega
      · have := ishl_n (a := 1) (k := dgN c w) (by omega)
        rw [Nat.one_mul] at this
        rw [n1, this, nI_or]; rfl
      · rw [n4, nmul, ishl_n (by omega), nI_or]
      · rw [nI_leI (by omega) (by omega)] at e
        by_cases q : x = w
        · rw [q]; omega
        · exact hl x (by omega)
      · have hno : ∀ u, u < w → dgN c u ≠ dgN c w := fun u hu e4 => by
          have h1 := (bit_0 (a := seenN (dgN c) w) (k := dgN c w) (by omega) (by omega)).mp e2
          rw [(seen_bit w).mpr ⟨u, hu, e4⟩] at h1; cases h1
        by_cases q1 : x = w
        · by_cases q2 : y = w
          · omega
          · rw [q1] at e3; exact absurd e3.symm (hno y (by omega))
        · by_cases q2 : y = w
          · rw [q2] at e3; exact absurd e3 (hno x (by omega))
          · exact hi x y (by omega) (by omega) e3
      · rw [bit_0 (by omega) (by omega)]
        cases e3 : (seenN (dgN c) w).testBit (dgN c w) with
        | false => rfl
        | true =>
          obtain ⟨u, hu, e4⟩ := (seen_bit w).mp e3
          have := z.2 u w (by omega) hw e4
          omega
    · rintro self a1 a2 a3 a4 ⟨rfl, rfl, rfl, hq2, hl, hi⟩
      unfold L_X5_ofCode_10
      exact Ev_t (Int32.le_refl _) (h74 _ _ ⟨rfl, ⟨hl, hi⟩, hq2⟩)
/-- the reference's marks of digits -/
def mskN (n c : Nat) : Nat → Nat
  | 0 => 0
  | w + 1 => mskN n c w ||| (if n ≤ dgN c w then 0 else 2 ^ dgN c w)
theorem msk_bit {n c y : Nat} : ∀ w, (mskN n c w).testBit y = true ↔ ∃ u, u < w ∧ dgN c u = y ∧ y < n
  | 0 => by
    show (0 : Nat).testBit y = true ↔ _
    simp
  | w + 1 => by
    show (mskN n c w ||| (if n ≤ dgN c w then 0 else 2 ^ dgN c w)).testBit y = true ↔ _
    rw [Nat.testBit_or, Bool.or_eq_true, msk_bit w]
    by_cases h : n ≤ dgN c w
    · rw [if_pos h]
      constructor
      · rintro (⟨u, hu, e⟩ | h2)
        · exact ⟨u, by omega, e⟩
        · simp at h2
      · rintro ⟨u, hu, e⟩
        by_cases q : u = w
        · subst q; omega
        · exact Or.inl ⟨u, by omega, e⟩
    · rw [if_neg h, Nat.testBit_two_pow]
      constructor
      · rintro (⟨u, hu, e⟩ | h2)
        · exact ⟨u, by omega, e⟩
        · have := of_decide_eq_true h2
          exact ⟨w, by omega, this, by omega⟩
      · rintro ⟨u, hu, e⟩
        by_cases q : u = w
        · subst q; exact Or.inr (decide_eq_true e.1)
        · exact Or.inl ⟨u, by omega, e⟩
theorem msk_lt {n c : Nat} : ∀ w, mskN n c w < 2 ^ n
  | 0 => Nat.two_pow_pos _
  | w + 1 => by
    refine Nat.or_lt_two_pow (msk_lt w) ?_
    split
    · exact Nat.two_pow_pos _
    · exact Nat.pow_lt_pow_right (by omega) (by omega)
theorem msk_full {n c : Nat} (hn : n ≤ 6) : mskN n c n = 2 ^ n - 1 ↔ PermN n (dgN c) := by
  constructor
  · intro h
    apply onto_perm
    intro y hy
    have : (mskN n c n).testBit y = true := by rw [h, Nat.testBit_two_pow_sub_one]; exact decide_eq_true hy
    obtain ⟨u, hu, e, _⟩ := (msk_bit n).mp this
    exact ⟨u, hu, e⟩
  · intro h
    apply Nat.eq_of_testBit_eq
    intro y
    rw [Nat.testBit_two_pow_sub_one]
    by_cases e : y < n
    · rw [decide_eq_true e]
      obtain ⟨u, hu, e2⟩ := perm_onto hn h e
      exact (msk_bit n).mpr ⟨u, hu, e2, e⟩
    · rw [decide_eq_false e]
      exact Nat.testBit_lt_two_pow (Nat.lt_of_lt_of_le (msk_lt n) (Nat.pow_le_pow_right (by omega) (by omega)))
