/-! CASES outputs, wrong, merges -/
def numB (V : Nat → Bool) : Nat → Nat
  | 0 => 0
  | x + 1 => numB V x ||| (if V x = true then 2 ^ x else 0)
theorem num_s {V : Nat → Bool} {x : Nat} : numB V (x + 1) = numB V x ||| (if V x = true then 2 ^ x else 0) := rfl
theorem num_lt {V : Nat → Bool} : ∀ n, numB V n < 2 ^ n
  | 0 => by show 0 < _; omega
  | n + 1 => by
    rw [num_s]
    refine Nat.or_lt_two_pow (Nat.lt_of_lt_of_le (num_lt n) (Nat.pow_le_pow_right (by omega) (by omega))) ?_
    split
    · exact Nat.pow_lt_pow_right (by omega) (by omega)
    · exact Nat.two_pow_pos _
theorem num_bit {V : Nat → Bool} : ∀ n x, (numB V n).testBit x = (decide (x < n) && V x)
  | 0, x => by show (0 : Nat).testBit x = _; simp
  | n + 1, x => by
    rw [num_s, Nat.testBit_or, num_bit n x]
    by_cases e : x = n
    · subst e
      cases h : V x <;> simp [Nat.testBit_two_pow]
    · have e2 : ¬ n = x := fun z => e z.symm
      have h1 : (if V n = true then 2 ^ n else 0).testBit x = false := by
        split
        · rw [Nat.testBit_two_pow]; exact decide_eq_false e2
        · simp
      rw [h1, Bool.or_false]
      have : (x < n + 1) = (x < n) := propext (by omega)
      simp only [this]
theorem RQ.num {n : Nat} {V : Nat → Bool} {y : Int32} (hn : n ≤ 6) (h : RQ n V y) : y = nI (numB V n) :=
  (RQ.eq hn h ⟨_, rfl, num_lt n, fun x hx => by rw [num_bit, decide_eq_true hx, Bool.true_and]⟩).mpr (fun _ _ => rfl)
theorem bt_lushr {x : Int64} {k j : Nat} (hk : k < 64) : bt64 (lushr x (nI k)) j = bt64 x (k + j) := by
  have h := bN_shr hk x
  have e : ∀ z j, bt64 z j = (bN z).testBit j := fun _ _ => rfl
  rw [e, e, h, Nat.testBit_div_two_pow, Nat.add_comm]
theorem bt_1 (j : Nat) : bt64 1 j = decide (j = 0) := by
  have : (1 : Int64).toBitVec = 1#64 := rfl
  unfold bt64
  rw [this, BitVec.getLsbD_one]
  by_cases h2 : j = 0 <;> simp [h2]
theorem lu1 {z : Int64} {r : Nat} (hr : r < 64) : lushr z (nI r) &&& 1 = if bt64 z r = true then 1 else 0 := by
  apply bt_ext
  intro j hj
  rw [bt_and, bt_lushr hr, bt_1]
  by_cases e : j = 0
  · subst e
    rw [Nat.add_zero]
    cases bt64 z r
    · simp [bt_0]
    · simp [bt_1]
  · rw [decide_eq_false e, Bool.and_false]
    cases bt64 z r
    · simp [bt_0]
    · simp [bt_1, e]
theorem C_rowOut {n r : Nat} {h : Hp} {V : Nat → Nat → Bool} (hn : n ≤ 6) (hr : r < 2 ^ n) (hV : ColsN 14 n h V) : Ev (f_X4_rowOutOf_13 h (nI r) (nI n)) (fun y => y = nI (numB (V r) n)) := by
  have hle : 2 ^ n ≤ 2 ^ 6 := Nat.pow_le_pow_right (by omega) hn
  unfold f_X4_rowOutOf_13
  refine Ev_jn1 (fun y => y = nI (numB (V r) n)) (fun y hy => Ev_so hy) (fun kk hk => ?_)
  refine Ev_fx2 (fun j a1 a2 => a2 = nI j ∧ a1 = nI (numB (V r) j)) n ?_ ?_ (FU_lt (by omega)) ⟨rfl, rfl⟩
  · rintro self j a1 a2 hj ⟨rfl, rfl⟩ hself
    unfold L_X4_rowOutOf_13_5
    refine Ev_f (nle_n hj (by omega)) (Ev_ck rfl (by omega) (by omega) (Ev_nm (hself _ _ ⟨nI_add j 1, ?_⟩)))
    rw [clN (by omega), lu1 (by omega), hV j hj r (by omega), decide_eq_true hr, Bool.true_and, num_s, ← nI_or]
    congr 1
    dsimp only
    by_cases hv : V r j = true
    · rw [if_pos hv, if_pos hv]
      show ishl (nI 1) (nI j) = nI (2 ^ j)
      rw [ishl_n (by omega), Nat.one_mul]
    · rw [if_neg hv, if_neg hv]
      show ishl (nI 0) (nI j) = nI 0
      rw [ishl_n (by omega), Nat.zero_mul]
  · rintro self a1 a2 ⟨rfl, rfl⟩
    unfold L_X4_rowOutOf_13_5
    exact Ev_t (Int32.le_refl _) (hk _ rfl)
def accO (g : Nat → Nat) : Nat → Int64
  | 0 => 0
  | j + 1 => accO g j ||| lshl 1 (nI (g j))
def outQ (n k : Nat) (f o : Nat → Nat) (r : Nat) : Nat := numB (netB f o 99 0 k (bR r)) n
theorem C_outputs {n k : Nat} {f o : Nat → Nat} {c : Hp} (hG : Good n k f o) (hC : NetC n k f o c) : Ev (f_X10_outputs c) (fun r => r.1 = accO (outQ n k f o) (2 ^ n) ∧ Sm [14] c r.2) := by
  have hn := hG.2.1
  have hle : 2 ^ n ≤ 2 ^ 6 := Nat.pow_le_pow_right (by omega) hn
  unfold f_X10_outputs
  refine Ev_bd (fun r => r.1 = accO (outQ n k f o) (2 ^ n) ∧ Sm [14] c r.2) ?_ (fun r hr => Ev_so hr)
  unfold f_X4_rowsOut_13_1
  rw [hC.2.1]
  refine Ev_bd _ (s_send_14 (sp := 99) (md := 0) hG hC (Nat.le_refl k) (by have := hG.2.2.1; omega)) (fun h1 ⟨hS, he, hV⟩ => ?_)
  refine Ev_jn1 (fun y => y = accO (outQ n k f o) (2 ^ n)) (fun y hy => Ev_so ⟨hy, hS⟩) (fun kk hk => ?_)
  refine Ev_fx2 (fun j a1 a2 => a2 = nI j ∧ a1 = accO (outQ n k f o) j) (2 ^ n) ?_ ?_ (FU_lt (by omega)) ⟨rfl, rfl⟩
  · rintro self j a1 a2 hj ⟨rfl, rfl⟩ hself
    unfold L_X4_rowsOut_13_1_17
    rw [he, hC.1, shl_n hn]
    refine Ev_f (nle_n hj (by omega)) (Ev_bd _ (C_rowOut hn hj hV) (fun y hy => Ev_nm (hself _ _ ⟨nI_add j 1, ?_⟩)))
    rw [hy]; rfl
  · rintro self a1 a2 ⟨rfl, rfl⟩
    unfold L_X4_rowsOut_13_1_17
    rw [he, hC.1, shl_n hn]
    exact Ev_t (Int32.le_refl _) (hk _ rfl)
/-- the row with so many ahead of it -/
def wrR (p : Nat → Bool) (N a : Nat) (y : Int32) : Prop := (∃ r, r < N ∧ p r = true ∧ ctB p r = a ∧ y = nI r) ∨ (ctB p N ≤ a ∧ y = -1)
theorem ct_mono {p : Nat → Bool} : ∀ {a b : Nat}, a ≤ b → ctB p a ≤ ctB p b := by
  intro a b h
  induction b with
  | zero => have : a = 0 := by omega
            subst this; exact Nat.le_refl _
  | succ b ih =>
    by_cases e : a = b + 1
    · rw [e]; exact Nat.le_refl _
    · exact Nat.le_trans (ih (by omega)) (Nat.le_add_right _ _)
theorem ct_s1 {p : Nat → Bool} {n : Nat} (h : p n = true) : ctB p (n + 1) = ctB p n + 1 := by
  show ctB p n + _ = _
  rw [if_pos h]
theorem ct_s0 {p : Nat → Bool} {n : Nat} (h : ¬ p n = true) : ctB p (n + 1) = ctB p n := by
  show ctB p n + _ = _
  rw [if_neg h]; rfl
theorem wrR.uniq {p : Nat → Bool} {N a : Nat} {y z : Int32} (h1 : wrR p N a y) (h2 : wrR p N a z) : y = z := by
  rcases h1 with ⟨r, hr, p1, p2, rfl⟩ | ⟨p1, rfl⟩
  · rcases h2 with ⟨q, hq, q1, q2, rfl⟩ | ⟨q1, rfl⟩
    · have a1 := ct_s1 p1
      have b1 := ct_s1 q1
      have : r = q := by
        by_cases e : r < q
        · have := ct_mono (p := p) (show r + 1 ≤ q from e)
          omega
        · by_cases e2 : q < r
          · have := ct_mono (p := p) (show q + 1 ≤ r from e2)
            omega
          · omega
      rw [this]
    · have a1 := ct_s1 p1
      have := ct_mono (p := p) (show r + 1 ≤ N from hr)
      omega
  · rcases h2 with ⟨q, hq, q1, q2, rfl⟩ | ⟨q1, rfl⟩
    · have b1 := ct_s1 q1
      have := ct_mono (p := p) (show q + 1 ≤ N from hq)
      omega
    · rfl
theorem wrR.of {n a : Nat} {z : Int64} {p : Nat → Bool} {y : Int32} (hn : n ≤ 6) (hz : ColN n z p) (h : wrR (bt64 z) 64 a y) : wrR p (2 ^ n) a y := by
  have hle : 2 ^ n ≤ 2 ^ 6 := Nat.pow_le_pow_right (by omega) hn
  rcases h with ⟨r, hr, p1, p2, rfl⟩ | ⟨p1, rfl⟩
  · have := hz r hr
    rw [p1] at this
    have h3 := (Bool.and_eq_true _ _ ▸ this.symm : decide (r < 2 ^ n) = true ∧ p r = true)
    have h4 := of_decide_eq_true h3.1
    exact Or.inl ⟨r, h4, h3.2, by rw [← p2]; exact (ct_congr (fun q hq => by rw [hz q (by omega), decide_eq_true (show q < 2 ^ n by omega), Bool.true_and])).symm, rfl⟩
  · exact Or.inr ⟨by rw [← hz.ct hn]; exact p1, rfl⟩
theorem C_rowIn {z : Int64} {a : Nat} (ha : a < 2 ^ 31) : Ev (f_X4_rowIn z (nI a)) (fun y => wrR (bt64 z) 64 a y) := by
  unfold f_X4_rowIn
  refine Ev_jn0 (ctB (bt64 z) 64 ≤ a) (fun h => Ev_so (Or.inr ⟨h, rfl⟩)) (fun k40 h40 => Ev_jn1 (fun y => wrR (bt64 z) 64 a y) (fun y hy => Ev_so hy) (fun k28 h28 => ?_))
  refine Ev_fx2 (fun j a1 a2 => a2 = nI j ∧ a1 = nI (ctB (bt64 z) j) ∧ ctB (bt64 z) j ≤ a) 64 ?_ ?_ (FU_lt (by omega)) ⟨rfl, rfl, Nat.zero_le _⟩
  · rintro self j a1 a2 hj ⟨rfl, rfl, hle⟩ hself
    unfold L_X4_rowIn_5
    refine Ev_f (nle_n (a := 64) hj (by omega)) ?_
    rw [lu1 hj]
    cases hb : bt64 z j with
    | false =>
      have e := ct_s0 (p := bt64 z) (n := j) (by rw [hb]; decide)
      exact Ev_t (lgc 0) (hself _ _ ⟨nI_add j 1, by rw [e], by rw [e]; exact hle⟩)
    | true =>
      have e := ct_s1 (p := bt64 z) (n := j) hb
      have hl := ct_le (p := bt64 z) (n := j)
      refine Ev_f (by decide) (Ev_i (fun h => h28 _ (Or.inl ⟨j, hj, hb, ?_, rfl⟩)) (fun h => hself _ _ ⟨nI_add j 1, by rw [e]; exact nI_add _ 1, ?_⟩))
      · exact (neqI (by omega) (by omega)).mp h
      · rw [neqI (by omega) (by omega)] at h
        omega
  · rintro self a1 a2 ⟨rfl, rfl, hle⟩
    unfold L_X4_rowIn_5
    exact Ev_t (le_n (a := 64) (by omega) (by omega)) (h40 hle)
theorem nI_m1 (a : Nat) : nI (a + 1) + (-1) = nI a := by
  rw [nI_succ, Int32.add_assoc]
  exact Int32.add_zero _
