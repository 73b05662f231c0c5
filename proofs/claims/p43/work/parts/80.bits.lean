/-! BITS -/
theorem bt_and (x y : Int64) (j : Nat) : bt64 (x &&& y) j = (bt64 x j && bt64 y j) := by simp [bt64]
theorem bt_or (x y : Int64) (j : Nat) : bt64 (x ||| y) j = (bt64 x j || bt64 y j) := by simp [bt64]
theorem bt_xor (x y : Int64) (j : Nat) : bt64 (x ^^^ y) j = (bt64 x j ^^ bt64 y j) := by simp [bt64]
theorem bt_0 (j : Nat) : bt64 0 j = false := by simp [bt64]
theorem bt_m1 {j : Nat} (h : j < 64) : bt64 (-1) j = true := by
  have e : (-1 : Int64).toBitVec = BitVec.allOnes 64 := by decide
  unfold bt64
  rw [e, BitVec.getLsbD_allOnes]
  exact decide_eq_true h
theorem bt_big (x : Int64) {j : Nat} (h : 64 ≤ j) : bt64 x j = false := BitVec.getLsbD_of_ge _ _ h
theorem bt_ext {x y : Int64} (h : ∀ j, j < 64 → bt64 x j = bt64 y j) : x = y := by
  apply Int64.toBitVec_inj.mp
  exact BitVec.eq_of_getLsbD_eq (fun j hj => h j hj)
theorem bt_ne {x : Int64} (h : ¬ x = 0) : ∃ j, j < 64 ∧ bt64 x j = true := by
  apply Classical.byContradiction
  intro hn
  apply h
  apply bt_ext
  intro j hj
  rw [bt_0]
  cases e : bt64 x j with
  | false => rfl
  | true => exact absurd ⟨j, hj, e⟩ hn
theorem sh63 : ∀ k, k < 64 → (((nI k).toInt64 &&& 63).toBitVec.smod 64).toNat = k := by decide +kernel
theorem bt_lshl1 {k j : Nat} (hk : k < 64) (hj : j < 64) : bt64 (lshl 1 (nI k)) j = decide (j = k) := by
  unfold lshl bt64
  rw [Int64.toBitVec_shiftLeft, BitVec.shiftLeft_eq', sh63 k hk, BitVec.getLsbD_shiftLeft]
  simp only [hj, decide_true, Bool.true_and]
  by_cases h1 : j < k
  · simp [h1]; omega
  · have : (1 : Int64).toBitVec = 1#64 := rfl
    simp only [h1, decide_false, Bool.not_false, Bool.true_and, this]
    rw [BitVec.getLsbD_one]
    by_cases h2 : j = k
    · subst h2; simp
    · have : ¬ j - k = 0 := by omega
      simp [h2, this]
theorem bt_lshr {x : Int64} {k j : Nat} (hk : k < 64) (hj : k + j < 64) : bt64 (lshr x (nI k)) j = bt64 x (k + j) := by
  unfold lshr bt64
  rw [Int64.toBitVec_shiftRight, BitVec.sshiftRight_eq', sh63 k hk, BitVec.getLsbD_sshiftRight]
  have : ¬ 64 ≤ j := by omega
  simp [this, hj]
theorem bt_lshl {x : Int64} {k j : Nat} (hk : k < 64) (hj : j < 64) : bt64 (lshl x (nI k)) j = (decide (k ≤ j) && bt64 x (j - k)) := by
  unfold lshl bt64
  rw [Int64.toBitVec_shiftLeft, BitVec.shiftLeft_eq', sh63 k hk, BitVec.getLsbD_shiftLeft]
  by_cases h : j < k
  · have : ¬ k ≤ j := by omega
    simp [hj, h, this]
  · have : k ≤ j := by omega
    simp [hj, h, this]
theorem bv_nI (n : Nat) : (nI n).toBitVec = BitVec.ofNat 32 n := rfl
theorem nI_xor (a b : Nat) : nI a ^^^ nI b = nI (a ^^^ b) := by
  apply Int32.toBitVec_inj.mp
  rw [Int32.toBitVec_xor, bv_nI, bv_nI, bv_nI]
  apply BitVec.eq_of_getLsbD_eq
  intro i hi
  simp [hi]
theorem nI_or (a b : Nat) : nI a ||| nI b = nI (a ||| b) := by
  apply Int32.toBitVec_inj.mp
  rw [Int32.toBitVec_or, bv_nI, bv_nI, bv_nI]
  apply BitVec.eq_of_getLsbD_eq
  intro i hi
  simp [hi]
theorem nI_and (a b : Nat) : nI a &&& nI b = nI (a &&& b) := by
  apply Int32.toBitVec_inj.mp
  rw [Int32.toBitVec_and, bv_nI, bv_nI, bv_nI]
  apply BitVec.eq_of_getLsbD_eq
  intro i hi
  simp [hi]
theorem sh31 : ∀ k, k < 32 → ((nI k &&& 31).toBitVec.smod 32).toNat = k := by decide +kernel
theorem ishl_n {a k : Nat} (hk : k < 32) : ishl (nI a) (nI k) = nI (a * 2 ^ k) := by
  unfold ishl
  apply Int32.toBitVec_inj.mp
  rw [Int32.toBitVec_shiftLeft, BitVec.shiftLeft_eq', sh31 k hk, bv_nI, bv_nI]
  apply BitVec.eq_of_toNat_eq
  simp [Nat.shiftLeft_eq, Nat.mod_mul_mod]
theorem ishr_n {a k : Nat} (ha : a < 2 ^ 31) (hk : k < 32) : ishr (nI a) (nI k) = nI (a / 2 ^ k) := by
  unfold ishr
  apply Int32.toInt_inj.mp
  have hq : a / 2 ^ k < 2 ^ 31 := Nat.lt_of_le_of_lt (Nat.div_le_self _ _) ha
  rw [nI_toInt hq]
  have : (nI a >>> (nI k &&& 31)).toInt = (nI a).toInt / 2 ^ k := by
    show ((nI a >>> (nI k &&& 31)).toBitVec).toInt = _
    rw [Int32.toBitVec_shiftRight, BitVec.sshiftRight_eq', sh31 k hk, BitVec.toInt_sshiftRight, Int.shiftRight_eq_div_pow]
    rfl
  rw [this, nI_toInt ha]
  simp
theorem bit_n {a k : Nat} (ha : a < 2 ^ 31) (hk : k < 32) : (ishr (nI a) (nI k)) &&& 1 = nI (if a.testBit k = true then 1 else 0) := by
  rw [ishr_n ha hk]
  show nI (a / 2 ^ k) &&& nI 1 = _
  rw [nI_and, Nat.and_one_is_mod]
  congr 1
  rw [Nat.testBit_eq_decide_div_mod_eq]
  by_cases h : a / 2 ^ k % 2 = 1
  · simp [h]
  · have : a / 2 ^ k % 2 = 0 := by omega
    simp [this]
theorem bit_0 {a k : Nat} (ha : a < 2 ^ 31) (hk : k < 32) : ((ishr (nI a) (nI k)) &&& 1 = 0) ↔ a.testBit k = false := by
  rw [bit_n ha hk]
  cases a.testBit k
  · simp; rfl
  · simp; decide
theorem bit_1 {a k : Nat} (ha : a < 2 ^ 31) (hk : k < 32) : ((ishr (nI a) (nI k)) &&& 1 = 1) ↔ a.testBit k = true := by
  rw [bit_n ha hk]
  cases a.testBit k
  · simp; decide
  · simp; rfl
theorem lg_eq {x y : Int64} : lg_cmp x y = 0 ↔ x = y := by
  unfold lg_cmp
  constructor
  · intro h
    split at h
    · exact absurd h (by decide)
    · split at h
      · assumption
      · exact absurd h (by decide)
  · rintro rfl
    rw [if_neg (Int64.lt_irrefl), if_pos rfl]
theorem bt_not (x : Int64) {j : Nat} (h : j < 64) : bt64 (x ^^^ -1) j = !bt64 x j := by rw [bt_xor, bt_m1 h]; simp
/-- comparators over single bits; the one at sp goes wrong as md says -/
def cmpB (a b : Nat) (v : Nat → Bool) : Nat → Bool := fun x => if x = a then v a && v b else if x = b then v a || v b else v x
def badB (md a b : Nat) (v : Nat → Bool) : Nat → Bool := fun x => if md = 1 then (if x = a then v b else if x = b then v a else v x) else if md = 2 then (if x = a then v a || v b else if x = b then v a && v b else v x) else v x
def netB (f o : Nat → Nat) (sp md : Nat) : Nat → (Nat → Bool) → Nat → Bool
  | 0, v => v
  | k + 1, v => if k = sp then badB md (f k) (o k) (netB f o sp md k v) else cmpB (f k) (o k) (netB f o sp md k v)
def unsB (n : Nat) (v : Nat → Bool) : Bool := (List.range (n - 1)).any (fun x => v x && !v (x + 1))
theorem uns_iff {n : Nat} {v : Nat → Bool} : unsB n v = true ↔ ∃ x, x + 1 < n ∧ v x = true ∧ v (x + 1) = false := by
  unfold unsB
  rw [List.any_eq_true]
  constructor
  · rintro ⟨x, hx, h⟩
    rw [List.mem_range] at hx
    simp only [Bool.and_eq_true, Bool.not_eq_true'] at h
    exact ⟨x, by omega, h.1, h.2⟩
  · rintro ⟨x, hx, h1, h2⟩
    exact ⟨x, List.mem_range.mpr (by omega), by simp [h1, h2]⟩
theorem uns_f {n : Nat} {v : Nat → Bool} : unsB n v = false ↔ ∀ x, x + 1 < n → v x = true → v (x + 1) = true := by
  constructor
  · intro h x hx h1
    cases e : v (x + 1) with
    | true => rfl
    | false => rw [uns_iff.mpr ⟨x, hx, h1, e⟩] at h; cases h
  · intro h
    cases e : unsB n v with
    | false => rfl
    | true =>
      obtain ⟨x, hx, h1, h2⟩ := uns_iff.mp e
      rw [h x hx h1] at h2; cases h2
theorem uns_congr {n : Nat} {v w : Nat → Bool} (h : ∀ x, x < n → v x = w x) : unsB n v = unsB n w := by
  cases e : unsB n w with
  | true =>
    obtain ⟨x, hx, h1, h2⟩ := uns_iff.mp e
    exact uns_iff.mpr ⟨x, hx, by rw [h x (by omega)]; exact h1, by rw [h (x + 1) hx]; exact h2⟩
  | false => exact uns_f.mpr (fun x hx h1 => by rw [h (x + 1) hx]; exact uns_f.mp e x hx (by rw [← h x (by omega)]; exact h1))
/-- a row of bits as a number -/
def RQ (n : Nat) (V : Nat → Bool) (y : Int32) : Prop := ∃ q, y = nI q ∧ q < 2 ^ n ∧ ∀ x, x < n → q.testBit x = V x
theorem RQ.x {n a b q : Nat} (hq : q < 2 ^ n) (ha : a < n) (hb : b < n) : q ^^^ (2 ^ a ||| 2 ^ b) < 2 ^ n := Nat.xor_lt_two_pow hq (Nat.or_lt_two_pow (Nat.pow_lt_pow_right (by omega) ha) (Nat.pow_lt_pow_right (by omega) hb))
theorem RQ.flip {a b q x : Nat} : (q ^^^ (2 ^ a ||| 2 ^ b)).testBit x = (q.testBit x ^^ (decide (a = x) || decide (b = x))) := by
  rw [Nat.testBit_xor, Nat.testBit_or, Nat.testBit_two_pow, Nat.testBit_two_pow]
theorem RQ.eq {n : Nat} {V W : Nat → Bool} {y z : Int32} (hn : n ≤ 6) (h1 : RQ n V y) (h2 : RQ n W z) : y = z ↔ ∀ x, x < n → V x = W x := by
  obtain ⟨q, rfl, hq, hv⟩ := h1
  obtain ⟨p, rfl, hp, hw⟩ := h2
  have hle : 2 ^ n ≤ 2 ^ 6 := Nat.pow_le_pow_right (by omega) hn
  rw [neqI (by omega) (by omega)]
  constructor
  · rintro rfl x hx; rw [← hv x hx, hw x hx]
  · intro h
    apply Nat.eq_of_testBit_eq
    intro x
    by_cases hx : x < n
    · rw [hv x hx, hw x hx, h x hx]
    · rw [Nat.testBit_lt_two_pow (Nat.lt_of_lt_of_le hq (Nat.pow_le_pow_right (by omega) (by omega))), Nat.testBit_lt_two_pow (Nat.lt_of_lt_of_le hp (Nat.pow_le_pow_right (by omega) (by omega)))]
/-- a comparator's step on the number of a row of bits -/
theorem RQ.step {n a b q : Nat} {V : Nat → Bool} (hq : q < 2 ^ n) (hv : ∀ x, x < n → q.testBit x = V x) (ha : a < n) (hb : b < n) (hab : a ≠ b) (W : Nat → Bool) (hw : V a = V b → ∀ x, x < n → W x = V x) (hs : V a ≠ V b → (∀ x, x < n → W x = V x) ∨ (W a = V b ∧ W b = V a ∧ ∀ x, x ≠ a → x ≠ b → W x = V x)) : (V a ≠ V b ∧ W a = V b ∧ W b = V a ∧ (∀ x, x ≠ a → x ≠ b → W x = V x) → RQ n W (nI (q ^^^ (2 ^ a ||| 2 ^ b)))) ∧ ((∀ x, x < n → W x = V x) → RQ n W (nI q)) := by
  constructor
  · rintro ⟨h1, h2, h3, h4⟩
    refine ⟨_, rfl, RQ.x hq ha hb, fun x hx => ?_⟩
    rw [RQ.flip, hv x hx]
    have hne : ∀ p r : Bool, p ≠ r → (p ^^ true) = r := by decide
    by_cases e : x = a
    · subst e
      simp only [decide_true, Bool.true_or]
      rw [hne _ _ h1, h2]
    · by_cases e2 : x = b
      · subst e2
        simp only [decide_true, Bool.or_true]
        rw [hne _ _ (Ne.symm h1), h3]
      · have i1 : ¬ a = x := fun z => e z.symm
        have i2 : ¬ b = x := fun z => e2 z.symm
        simp [i1, i2, h4 x e e2]
  · intro h
    exact ⟨q, rfl, hq, fun x hx => by rw [hv x hx, h x hx]⟩
/-- the rows that stand in a column -/
theorem fINP_bit : ∀ x, x < 6 → ∀ r, r < 64 → bt64 (fINP x) r = r.testBit x := by decide +kernel
theorem allR_bit : ∀ n, n < 6 → ∀ r, r < 64 → bt64 (lshl 1 (ishl 1 (nI n)) - 1) r = decide (r < 2 ^ n) := by decide +kernel
def ColN (n : Nat) (z : Int64) (p : Nat → Bool) : Prop := ∀ r, r < 64 → bt64 z r = (decide (r < 2 ^ n) && p r)
theorem ColN.z {n : Nat} {z : Int64} {p : Nat → Bool} (hn : n ≤ 6) (h : ColN n z p) : z = 0 ↔ ∀ r, r < 2 ^ n → p r = false := by
  have hle : 2 ^ n ≤ 2 ^ 6 := Nat.pow_le_pow_right (by omega) hn
  constructor
  · rintro rfl r hr
    have := h r (by omega)
    rw [bt_0] at this
    simpa [hr] using this.symm
  · intro h2
    apply bt_ext
    intro j hj
    rw [h j hj, bt_0]
    by_cases e : j < 2 ^ n
    · rw [h2 j e]; simp
    · simp [e]
theorem ColN.nz {n : Nat} {z : Int64} {p : Nat → Bool} (hn : n ≤ 6) (h : ColN n z p) : ¬ z = 0 ↔ ∃ r, r < 2 ^ n ∧ p r = true := by
  rw [h.z hn]
  constructor
  · intro h2
    apply Classical.byContradiction
    intro h3
    apply h2
    intro r hr
    cases e : p r with
    | false => rfl
    | true => exact absurd ⟨r, hr, e⟩ h3
  · rintro ⟨r, hr, e⟩ h2
    rw [h2 r hr] at e; cases e
theorem ColN.eq {n : Nat} {z w : Int64} {p q : Nat → Bool} (h1 : ColN n z p) (h2 : ColN n w q) (h : ∀ r, r < 2 ^ n → p r = q r) : z = w := by
  apply bt_ext
  intro j hj
  rw [h1 j hj, h2 j hj]
  by_cases e : j < 2 ^ n
  · rw [h j e]
  · simp [e]
theorem ct_congr {p q : Nat → Bool} : ∀ {n : Nat}, (∀ r, r < n → p r = q r) → ctB p n = ctB q n
  | 0, _ => rfl
  | n + 1, h => by
    simp only [ctB]
    rw [ct_congr (n := n) (fun r hr => h r (by omega)), h n (by omega)]
theorem ct_le {p : Nat → Bool} : ∀ {n : Nat}, ctB p n ≤ n
  | 0 => Nat.le_refl _
  | n + 1 => by
    simp only [ctB]
    have := ct_le (p := p) (n := n)
    split <;> omega
theorem ct_0 {p : Nat → Bool} : ∀ {n : Nat}, ctB p n = 0 ↔ ∀ r, r < n → p r = false
  | 0 => ⟨fun _ r hr => absurd hr (by omega), fun _ => rfl⟩
  | n + 1 => by
    simp only [ctB]
    constructor
    · intro h r hr
      by_cases e : r = n
      · subst e
        cases e2 : p r with
        | false => rfl
        | true => rw [e2] at h; simp at h
      · exact (ct_0 (n := n)).mp (by omega) r (by omega)
    · intro h
      rw [h n (by omega), (ct_0 (n := n)).mpr (fun r hr => h r (by omega))]
      rfl
