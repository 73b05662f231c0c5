/-! CASES outputs, wrong, merges -/
def numB (V : Nat → Bool) : Nat → Nat
  | 0 => 0
  | x + 1 => numB V x ||| (if V x = true then 2 ^ x else 0)
theorem num_s {V : Nat → Bool} {x : Nat} : numB V (x + 1) = numB V x ||| (if V x = true then 2 ^ x else 0) := rfl
theorem num_lt {V : Nat → Bool} : ∀ n, numB V n < 2 ^ n
  | 0 => by show 0 < _; omega
  | n + 1 => by
    rw [num_s]
    refine Nat.or_lt_two_pow (Nat.lt_of_lt_of_le (num_lt n) (Nat.pow_le_pow_right (by omega) (by omega))) ?_
    split
    · exact Nat.pow_lt_pow_right (by omega) (by omega)
    · exact Nat.two_pow_pos _
theorem num_bit {V : Nat → Bool} : ∀ n x, (numB V n).testBit x = (decide (x < n) && V x)
  | 0, x => by show (0 : Nat).testBit x = _; simp
  | n + 1, x => by
    rw [num_s, Nat.testBit_or, num_bit n x]
    by_cases e : x = n
    · subst e
      cases h : V x <;> simp [Nat.testBit_two_pow]
    · have e2 : ¬ n = x := fun z => e z.symm
      have h1 : (if V n = true then 2 ^ n else 0).testBit x = false := by
        split
        · rw [Nat.testBit_two_pow]; exact decide_eq_false e2
        · simp
      rw [h1, Bool.or_false]
      have : (x < n + 1) = (x < n) := propext (by omega)
      simp only [this]
theorem RQ.num {n : Nat} {V : Nat → Bool} {y : Int32} (hn : n ≤ 6) (h : RQ n V y) : y = nI (numB V n) :=
  (RQ.eq hn h ⟨_, rfl, num_lt n, fun x hx => by rw [num_bit, decide_eq_true hx, Bool.true_and]⟩).mpr (fun _ _ => rfl)
theorem bt_lushr {x : Int64} {k j : Nat} (hk : k < 64) : bt64 (lushr x (nI k)) j = bt64 x (k + j) := by
  have h := bN_shr hk x
  have e : ∀ z j, bt64 z j = (bN z).testBit j := fun _ _ => rfl
  rw [e, e, h, Nat.testBit_div_two_pow, Nat.add_comm]
theorem bt_1 (j : Nat) : bt64 1 j = decide (j = 0) := by
  have : (1 : Int64).toBitVec = 1#64 := rfl
  unfold bt64
  rw [this, BitVec.getLsbD_one]
  by_cases h2 : j = 0 <;> simp [h2]
theorem lu1 {z : Int64} {r : Nat} (hr : r < 64) : lushr z (nI r) &&& 1 = if bt64 z r = true then 1 else 0 := by
  apply bt_ext
  intro j hj
  rw [bt_and, bt_lushr hr, bt_1]
  by_cases e : j = 0
  · subst e
    rw [Nat.add_zero]
    cases bt64 z r
    · simp [bt_0]
    · simp [bt_1]
  · rw [decide_eq_false e, Bool.and_false]
    cases bt64 z r
    · simp [bt_0]
    · simp [bt_1, e]
theorem C_rowOut {n r : Nat} {h : Hp} {V : Nat → Nat → Bool} (hn : n ≤ 6) (hr : r < 2 ^ n) (hV : ColsN 14 n h V) : Ev (f_X4_rowOutOf_13 h (nI r) (nI n)) (fun y => y = nI (numB (V r) n)) := by
  have hle : 2 ^ n ≤ 2 ^ 6 := Nat.pow_le_pow_right (by omega) hn
  unfold f_X4_rowOutOf_13
  refine Ev_jn1 (fun y => y = nI (numB (V r) n)) (fun y hy => Ev_so hy) (fun kk hk => ?_)
  refine Ev_fx2 (fun j a1 a2 => a2 = nI j ∧ a1 = nI (numB (V r) j)) n ?_ ?_ (FU_lt (by omega)) ⟨rfl, rfl⟩
  · rintro self j a1 a2 hj ⟨rfl, rfl⟩ hself
    unfold L_X4_rowOutOf_13_5
    refine Ev_f (nle_n hj (by omega)) (Ev_ck rfl (by omega) (by omega) (Ev_nm (hself _ _ ⟨nI_add j 1, ?_⟩)))
    rw [clN (by omega), lu1 (by omega), hV j hj r (by omega), decide_eq_true hr, Bool.true_and, num_s, ← nI_or]
    congr 1
    dsimp only
    by_cases hv : V r j = true
    · rw [if_pos hv, if_pos hv]
      show ishl (nI 1) (nI j) = nI (2 ^ j)
      rw [ishl_n (by omega), Nat.one_mul]
    · rw [if_neg hv, if_neg hv]
      show ishl (nI 0) (nI j) = nI 0
      rw [ishl_n (by omega), Nat.zero_mul]
  · rintro self a1 a2 ⟨rfl, rfl⟩
    unfold L_X4_rowOutOf_13_5
    exact Ev_t (Int32.le_refl _) (hk _ rfl)
def accO (g : Nat → Nat) : Nat → Int64
  | 0 => 0
  | j + 1 => accO g j ||| lshl 1 (nI (g j))
def outQ (n k : Nat) (f o : Nat → Nat) (r : Nat) : Nat := numB (netB f o 99 0 k (bR r)) n
theorem C_outputs {n k : Nat} {f o : Nat → Nat} {c : Hp} (hG : Good n k f o) (hC : NetC n k f o c) : Ev (f_X10_outputs c) (fun r => r.1 = accO (outQ n k f o) (2 ^ n) ∧ Sm [14] c r.2) := by
  have hn := hG.2.1
  have hle : 2 ^ n ≤ 2 ^ 6 := Nat.pow_le_pow_right (by omega) hn
  unfold f_X10_outputs
  refine Ev_bd (fun r => r.1 = accO (outQ n k f o) (2 ^ n) ∧ Sm [14] c r.2) ?_ (fun r hr => Ev_so hr)
  unfold f_X4_rowsOut_13_1
  rw [hC.2.1]
  refine Ev_bd _ (s_send_14 (sp := 99) (md := 0) hG hC (Nat.le_refl k) (by have := hG.2.2.1; omega)) (fun h1 ⟨hS, he, hV⟩ => ?_)
  refine Ev_jn1 (fun y => y = accO (outQ n k f o) (2 ^ n)) (fun y hy => Ev_so ⟨hy, hS⟩) (fun kk hk => ?_)
  refine Ev_fx2 (fun j a1 a2 => a2 = nI j ∧ a1 = accO (outQ n k f o) j) (2 ^ n) ?_ ?_ (FU_lt (by omega)) ⟨rfl, rfl⟩
  · rintro self j a1 a2 hj ⟨rfl, rfl⟩ hself
    unfold L_X4_rowsOut_13_1_17
    rw [he, hC.1, shl_n hn]
    refine Ev_f (nle_n hj (by omega)) (Ev_bd _ (C_rowOut hn hj hV) (fun y hy => Ev_nm (hself _ _ ⟨nI_add j 1, ?_⟩)))
    rw [hy]; rfl
  · rintro self a1 a2 ⟨rfl, rfl⟩
    unfold L_X4_rowsOut_13_1_17
    rw [he, hC.1, shl_n hn]
    exact Ev_t (Int32.le_refl _) (hk _ rfl)
theorem r_out {n k q : Nat} {f o : Nat → Nat} {m : Hp} (hG : Good n k f o) (hM : NetM n k f o m) (hq : q < 2 ^ n) : Ev (f_X11_out m (nI q)) (fun y => RQ n (netB f o 99 0 k (bR q)) y) := by
  unfold f_X11_out
  rw [hM.2.1]
  exact Ev_bd _ (r_through (md := 0) hG hM (Nat.le_refl k) hq SpI.m (by omega)) (fun y hy => Ev_so hy)
theorem M_outputs {n k : Nat} {f o : Nat → Nat} {m : Hp} (hG : Good n k f o) (hM : NetM n k f o m) : Ev (f_X11_outputs m) (fun r => r = (accO (outQ n k f o) (2 ^ n), wF m 0 0 0)) := by
  have hn := hG.2.1
  have hle : 2 ^ n ≤ 2 ^ 6 := Nat.pow_le_pow_right (by omega) hn
  unfold f_X11_outputs
  refine Ev_nm ?_
  have hM1 := hM.t (x := 0)
  generalize wF m 0 0 0 = g at hM1
  refine Ev_jn1 (fun y => y = accO (outQ n k f o) (2 ^ n)) (fun y hy => Ev_so (by rw [hy])) (fun kk hk => ?_)
  refine Ev_fx2 (fun j a1 a2 => a2 = nI j ∧ a1 = accO (outQ n k f o) j) (2 ^ n) ?_ ?_ (FU_lt (by omega)) ⟨rfl, rfl⟩
  · rintro self j a1 a2 hj ⟨rfl, rfl⟩ hself
    unfold L_X11_outputs_9
    rw [hM1.1, shl_n hn]
    refine Ev_f (nle_n hj (by omega)) (Ev_bd _ (r_out hG hM1 hj) (fun y hy => Ev_nm (hself _ _ ⟨nI_add j 1, ?_⟩)))
    rw [hy.num hn]; rfl
  · rintro self a1 a2 ⟨rfl, rfl⟩
    unfold L_X11_outputs_9
    rw [hM1.1, shl_n hn]
    exact Ev_t (Int32.le_refl _) (hk _ rfl)
theorem pc_15 {L : Nat} {xs : Nat → Int32} {i : Int32} {s : LWS} {kont : LWS → Option Unit} (hI : Inv s) (hk : ∀ s1, Inv s1 → kont s1 = some ()) : lc_15 L xs i s kont = some () := by
  obtain ⟨c, m, out⟩ := s
  have hI0 := hI
  obtain ⟨n, k, f, o, hG, hC, hM, hT, hB, hS, hSt, hA⟩ := hI
  obtain ⟨r1, h1, a1, a2⟩ := C_outputs hG hC
  obtain ⟨r2, h2, rfl⟩ := M_outputs hG hM
  simp only [lc_15, h1, h2, bd, nm, setC, setM]
  rw [if_pos (by rw [a1]; exact lgc _)]
  exact hk _ (hI0.scr (a2.mono (by decide)))
/-- the row with so many ahead of it -/
def wrR (p : Nat → Bool) (N a : Nat) (y : Int32) : Prop := (∃ r, r < N ∧ p r = true ∧ ctB p r = a ∧ y = nI r) ∨ (ctB p N ≤ a ∧ y = -1)
theorem ct_mono {p : Nat → Bool} : ∀ {a b : Nat}, a ≤ b → ctB p a ≤ ctB p b := by
  intro a b h
  induction b with
  | zero => have : a = 0 := by omega
            subst this; exact Nat.le_refl _
  | succ b ih =>
    by_cases e : a = b + 1
    · rw [e]; exact Nat.le_refl _
    · exact Nat.le_trans (ih (by omega)) (Nat.le_add_right _ _)
theorem ct_s1 {p : Nat → Bool} {n : Nat} (h : p n = true) : ctB p (n + 1) = ctB p n + 1 := by
  show ctB p n + _ = _
  rw [if_pos h]
theorem ct_s0 {p : Nat → Bool} {n : Nat} (h : ¬ p n = true) : ctB p (n + 1) = ctB p n := by
  show ctB p n + _ = _
  rw [if_neg h]; rfl
theorem wrR.uniq {p : Nat → Bool} {N a : Nat} {y z : Int32} (h1 : wrR p N a y) (h2 : wrR p N a z) : y = z := by
  rcases h1 with ⟨r, hr, p1, p2, rfl⟩ | ⟨p1, rfl⟩
  · rcases h2 with ⟨q, hq, q1, q2, rfl⟩ | ⟨q1, rfl⟩
    · have a1 := ct_s1 p1
      have b1 := ct_s1 q1
      have : r = q := by
        by_cases e : r < q
        · have := ct_mono (p := p) (show r + 1 ≤ q from e)
          omega
        · by_cases e2 : q < r
          · have := ct_mono (p := p) (show q + 1 ≤ r from e2)
            omega
          · omega
      rw [this]
    · have a1 := ct_s1 p1
      have := ct_mono (p := p) (show r + 1 ≤ N from hr)
      omega
  · rcases h2 with ⟨q, hq, q1, q2, rfl⟩ | ⟨q1, rfl⟩
    · have b1 := ct_s1 q1
      have := ct_mono (p := p) (show q + 1 ≤ N from hq)
      omega
    · rfl
theorem wrR.of {n a : Nat} {z : Int64} {p : Nat → Bool} {y : Int32} (hn : n ≤ 6) (hz : ColN n z p) (h : wrR (bt64 z) 64 a y) : wrR p (2 ^ n) a y := by
  have hle : 2 ^ n ≤ 2 ^ 6 := Nat.pow_le_pow_right (by omega) hn
  rcases h with ⟨r, hr, p1, p2, rfl⟩ | ⟨p1, rfl⟩
  · have := hz r hr
    rw [p1] at this
    have h3 := (Bool.and_eq_true _ _ ▸ this.symm : decide (r < 2 ^ n) = true ∧ p r = true)
    have h4 := of_decide_eq_true h3.1
    exact Or.inl ⟨r, h4, h3.2, by rw [← p2]; exact (ct_congr (fun q hq => by rw [hz q (by omega), decide_eq_true (show q < 2 ^ n by omega), Bool.true_and])).symm, rfl⟩
  · exact Or.inr ⟨by rw [← hz.ct hn]; exact p1, rfl⟩
theorem C_rowIn {z : Int64} {a : Nat} (ha : a < 2 ^ 31) : Ev (f_X4_rowIn z (nI a)) (fun y => wrR (bt64 z) 64 a y) := by
  unfold f_X4_rowIn
  refine Ev_jn0 (ctB (bt64 z) 64 ≤ a) (fun h => Ev_so (Or.inr ⟨h, rfl⟩)) (fun k40 h40 => Ev_jn1 (fun y => wrR (bt64 z) 64 a y) (fun y hy => Ev_so hy) (fun k28 h28 => ?_))
  refine Ev_fx2 (fun j a1 a2 => a2 = nI j ∧ a1 = nI (ctB (bt64 z) j) ∧ ctB (bt64 z) j ≤ a) 64 ?_ ?_ (FU_lt (by omega)) ⟨rfl, rfl, Nat.zero_le _⟩
  · rintro self j a1 a2 hj ⟨rfl, rfl, hle⟩ hself
    unfold L_X4_rowIn_5
    refine Ev_f (nle_n (a := 64) hj (by omega)) ?_
    rw [lu1 hj]
    cases hb : bt64 z j with
    | false =>
      have e := ct_s0 (p := bt64 z) (n := j) (by rw [hb]; decide)
      exact Ev_t (lgc 0) (hself _ _ ⟨nI_add j 1, by rw [e], by rw [e]; exact hle⟩)
    | true =>
      have e := ct_s1 (p := bt64 z) (n := j) hb
      have hl := ct_le (p := bt64 z) (n := j)
      refine Ev_f (by decide) (Ev_i (fun h => h28 _ (Or.inl ⟨j, hj, hb, ?_, rfl⟩)) (fun h => hself _ _ ⟨nI_add j 1, by rw [e]; exact nI_add _ 1, ?_⟩))
      · exact (neqI (by omega) (by omega)).mp h
      · rw [neqI (by omega) (by omega)] at h
        omega
  · rintro self a1 a2 ⟨rfl, rfl, hle⟩
    unfold L_X4_rowIn_5
    exact Ev_t (le_n (a := 64) (by omega) (by omega)) (h40 hle)
theorem nI_m1 (a : Nat) : nI (a + 1) + (-1) = nI a := by
  rw [nI_succ, Int32.add_assoc]
  exact Int32.add_zero _
theorem M_wrong {n k a : Nat} {f o : Nat → Nat} {m : Hp} (hG : Good n k f o) (hM : NetM n k f o m) (ha : a < 2 ^ 31) : Ev (f_X11_wrong m (nI a)) (fun r => wrR (fun r => unsB n (netB f o 99 0 k (bR r))) (2 ^ n) a r.1 ∧ r.2 = wF m 0 0 0) := by
  have hn := hG.2.1
  have hle : 2 ^ n ≤ 2 ^ 6 := Nat.pow_le_pow_right (by omega) hn
  unfold f_X11_wrong
  refine Ev_jn1 (fun z => z = 0) (fun z hz => ?_) (fun j hj => Ev_t (Int32.not_lt.mp (nI_pos ha)) (hj 0 rfl))
  subst hz
  refine Ev_nm ?_
  have hM1 := hM.t (x := 0)
  have h0 : (wF m 0 0 0).1 0 0 = 0 := by rw [wF_1, upd_s]
  generalize wF m 0 0 0 = g at hM1 h0
  generalize hp : (fun r => unsB n (netB f o 99 0 k (bR r))) = p
  refine Ev_jn0 (ctB p (2 ^ n) ≤ a) (fun h => Ev_t (by rw [h0]; exact Int32.le_refl _) (Ev_so ⟨Or.inr ⟨h, rfl⟩, rfl⟩)) (fun k65 h65 => ?_)
  refine Ev_jn1 (fun y => wrR p (2 ^ n) a y) (fun y hy => Ev_so ⟨hy, rfl⟩) (fun k54 h54 => ?_)
  refine Ev_fx2 (fun j a1 a2 => a2 = nI j ∧ a1 = nI (a - ctB p j) ∧ ctB p j ≤ a) (2 ^ n) ?_ ?_ (FU_lt (by omega)) ⟨rfl, rfl, Nat.zero_le _⟩
  · rintro self j a1 a2 hj ⟨rfl, rfl, hl⟩ hself
    unfold L_X11_wrong_17
    rw [hM1.1, shl_n hn]
    refine Ev_f (nle_n hj (by omega)) (Ev_t h0 (Ev_bd _ (r_out hG hM1 hj) (fun y hy => Ev_bd _ (r_isSorted hn hG.1 hy) (fun z hz => ?_))))
    have hpj : unsB n (netB f o 99 0 k (bR j)) = p j := by rw [← hp]
    rw [hpj] at hz
    cases hb : p j with
    | false =>
      have e := ct_s0 (p := p) (n := j) (by rw [hb]; decide)
      rw [hb] at hz
      exact Ev_f (by rw [hz]; decide) (hself _ _ ⟨nI_add j 1, by rw [e], by rw [e]; exact hl⟩)
    | true =>
      have e := ct_s1 (p := p) (n := j) hb
      rw [hb] at hz
      refine Ev_t hz (Ev_i (fun h => h54 _ (Or.inl ⟨j, hj, hb, ?_, rfl⟩)) (fun h => hself _ _ ⟨nI_add j 1, ?_, ?_⟩))
      · rw [show (0 : Int32) = nI 0 from rfl, neqI (by omega) (by omega)] at h; omega
      · rw [show (0 : Int32) = nI 0 from rfl, neqI (by omega) (by omega)] at h
        have e3 : a - ctB p j = a - ctB p (j + 1) + 1 := by omega
        rw [e3]
        exact nI_m1 _
      · rw [show (0 : Int32) = nI 0 from rfl, neqI (by omega) (by omega)] at h
        omega
  · rintro self a1 a2 ⟨rfl, rfl, hl⟩
    unfold L_X11_wrong_17
    rw [hM1.1, shl_n hn]
    exact Ev_t (Int32.le_refl _) (h65 hl)
theorem pc_18 {L : Nat} {xs : Nat → Int32} {i : Int32} {s : LWS} {kont : LWS → Option Unit} (hI : Inv s) (hi : OKi L i) (hk : ∀ s1, Inv s1 → kont s1 = some ()) : lc_18 L xs i s kont = some () := by
  obtain ⟨c, m, out⟩ := s
  have hI0 := hI
  obtain ⟨n, k, f, o, hG, hC, hM, hT, hB, hS, hSt, hA⟩ := hI
  generalize hx : xs (i + 1).toNatClampNeg = x
  by_cases hb : x < 0
  · have hb2 : ¬ 0 ≤ x := Int32.not_le.mpr hb
    have h1 : f_X10_wrong c x = some (.inl ("java/lang/IndexOutOfBoundsException", c)) := by
      unfold f_X10_wrong f_X10_checkPlace
      exact bdx_l (if_neg hb2)
    have h2 : f_X11_wrong m x = some (0, wF m 0 0 1) := by
      refine Ev_eq ?_
      unfold f_X11_wrong
      refine Ev_jn1 (fun z => z = 1) (fun z hz => ?_) (fun j hj => Ev_f hb2 (hj 1 rfl))
      subst hz
      refine Ev_nm (Ev_jn0 True (fun _ => Ev_f (by rw [wF_1, upd_s]; decide) (Ev_so rfl)) (fun k65 h65 => Ev_jn1 (fun _ => False) (fun _ h => h.elim) (fun k54 _ => ?_)))
      have hN2 := FU_lt (n := 1) (by omega)
      generalize FU = N at hN2
      obtain ⟨M, rfl⟩ : ∃ M, N = M + 1 := ⟨N - 1, by omega⟩
      show Ev (L_X11_wrong_17 _ _ _ _ _ _) _
      unfold L_X11_wrong_17
      exact Ev_i (fun _ => h65 trivial) (fun _ => Ev_f (by rw [wF_1, upd_s]; decide) (h65 trivial))
    simp [lc_18, fh_wrong, hx, h1, h2, hcatch, bd, nm, setM, setC, setO, f_X11_thrown, jn0, wF_1, upd_s, (hi _).1]
    exact hk _ hI0.thrown
  · obtain ⟨a, ha, rfl⟩ := nI_of hb
    obtain ⟨r0, h0, p1, p2, p3⟩ := s_unsortedFrom hG hC
    obtain ⟨y, hy, q1⟩ := C_rowIn (z := r0.1) ha
    have h1 : f_X10_wrong c (nI a) = some (.inr (y, r0.2)) := by
      unfold f_X10_wrong f_X10_checkPlace
      rw [bdx_r (if_pos (Int32.not_lt.mp hb)), h0]
      simp only [bd, hy]
    obtain ⟨r2, h2, q2, e2⟩ := M_wrong hG hM ha
    have e : y = r2.1 := (q1.of hG.2.1 p3).uniq q2
    subst e
    simp [lc_18, fh_wrong, hx, h1, h2, e2, hcatch, bd, nm, setM, setC, setO, f_X11_thrown, jn0, wF_1, upd_s, (hi _).1, updL_s, lgc]
    exact hk _ (hI0.scr (p1.mono (by decide)))
