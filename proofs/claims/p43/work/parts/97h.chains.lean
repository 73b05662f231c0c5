/-! CHAINS: in how many orders wires can be taken -/
def ndN (z : Int64) (x : Nat) : Nat := bN z / 2 ^ (6 * x) % 64
def okz (z : Int64) (x b : Nat) : Bool := Nat.beq (ndN z x ^^^ (ndN z x &&& b)) 0
def mkS : List Nat → Nat
  | [] => 0
  | x :: l => mkS l ||| 2 ^ x
def gdL (op z : Int64) : List Nat → Bool
  | [] => true
  | x :: l => bt64 op (mkS l ||| 2 ^ x) && (okz z x (mkS l) && gdL op z l)
def gen (n : Nat) : Nat → Nat → List (List Nat)
  | 0, _ => [[]]
  | d + 1, s => (List.range n).flatMap (fun x => bif s.testBit x then (gen n d (s ^^^ 2 ^ x)).map (fun l => x :: l) else [])
def pcN (n s : Nat) : Nat := ctB (fun x => s.testBit x) n
def wyN (n : Nat) (op z : Int64) (s : Nat) : Nat := (gen n (pcN n s) s).countP (gdL op z)
def wyS (n : Nat) (op z : Int64) (s : Nat) : Nat → Nat
  | 0 => 0
  | x + 1 => wyS n op z s x + if s.testBit x = true ∧ okz z x (s ^^^ 2 ^ x) = true then wyN n op z (s ^^^ 2 ^ x) else 0
theorem xor_bit {s x y : Nat} : (s ^^^ 2 ^ x).testBit y = (s.testBit y ^^ decide (x = y)) := by rw [Nat.testBit_xor, Nat.testBit_two_pow]
theorem pc_off {n s x : Nat} (hx : x < n) (h : s.testBit x = true) : pcN n s = pcN n (s ^^^ 2 ^ x) + 1 := by
  unfold pcN
  rw [ct_off hx h]
  congr 1
  refine ct_congr (fun r hr => ?_)
  rw [xor_bit]
  by_cases e : r = x
  · subst e; rw [h]; simp
  · rw [decide_eq_false e, decide_eq_false (show ¬ x = r from fun z => e z.symm)]; simp
theorem off_lt {n s x : Nat} (hs : s < 2 ^ n) (hx : x < n) : s ^^^ 2 ^ x < 2 ^ n := Nat.xor_lt_two_pow hs (Nat.pow_lt_pow_right (by omega) hx)
theorem gen_mk {n : Nat} : ∀ d s, s < 2 ^ n → pcN n s = d → ∀ l, l ∈ gen n d s → mkS l = s ∧ l.length = d
  | 0, s, hs, hd, l, hl => by
    have e : l = [] := by simpa [gen] using hl
    subst e
    refine ⟨?_, rfl⟩
    apply Nat.eq_of_testBit_eq
    intro y
    show (0 : Nat).testBit y = _
    rw [Nat.zero_testBit]
    by_cases hy : y < n
    · exact (ct_0.mp hd y hy).symm
    · exact (Nat.testBit_lt_two_pow (Nat.lt_of_lt_of_le hs (Nat.pow_le_pow_right (by omega) (by omega)))).symm
  | d + 1, s, hs, hd, l, hl => by
    unfold gen at hl
    rw [List.mem_flatMap] at hl
    obtain ⟨x, hx, h2⟩ := hl
    have hx := List.mem_range.mp hx
    cases e : s.testBit x with
    | false => rw [e] at h2; simp at h2
    | true =>
      rw [e] at h2
      obtain ⟨l2, h3, rfl⟩ := List.mem_map.mp h2
      have hp := pc_off hx e
      obtain ⟨h4, h5⟩ := gen_mk d (s ^^^ 2 ^ x) (off_lt hs hx) (by omega) l2 h3
      refine ⟨?_, by show l2.length + 1 = _; rw [h5]⟩
      show mkS l2 ||| 2 ^ x = s
      rw [h4]
      apply Nat.eq_of_testBit_eq
      intro y
      rw [Nat.testBit_or, xor_bit, Nat.testBit_two_pow]
      by_cases e2 : x = y
      · subst e2; rw [e]; simp
      · rw [decide_eq_false e2]; simp
theorem mk_set {s x : Nat} (e : s.testBit x = true) : (s ^^^ 2 ^ x) ||| 2 ^ x = s := by
  apply Nat.eq_of_testBit_eq
  intro y
  rw [Nat.testBit_or, xor_bit, Nat.testBit_two_pow]
  by_cases e2 : x = y
  · subst e2; rw [e]; simp
  · rw [decide_eq_false e2]; simp
theorem wy_rec {n s : Nat} {op z : Int64} (hs : s < 2 ^ n) (hp : 0 < pcN n s) : wyN n op z s = if bt64 op s = true then wyS n op z s n else 0 := by
  obtain ⟨d, hd⟩ : ∃ d, pcN n s = d + 1 := ⟨pcN n s - 1, by omega⟩
  have key : ∀ j, j ≤ n → ((List.range j).flatMap (fun x => bif s.testBit x then (gen n d (s ^^^ 2 ^ x)).map (fun l => x :: l) else [])).countP (gdL op z) = if bt64 op s = true then wyS n op z s j else 0 := by
    intro j
    induction j with
    | zero => intro _; simp [wyS]
    | succ j ih =>
      intro hj
      rw [List.range_succ, List.flatMap_append, List.countP_append, ih (by omega)]
      have h1 : (List.flatMap (fun x => bif s.testBit x then (gen n d (s ^^^ 2 ^ x)).map (fun l => x :: l) else []) [j]).countP (gdL op z) = if bt64 op s = true then (if s.testBit j = true ∧ okz z j (s ^^^ 2 ^ j) = true then wyN n op z (s ^^^ 2 ^ j) else 0) else 0 := by
        simp only [List.flatMap_cons, List.flatMap_nil, List.append_nil]
        cases e : s.testBit j with
        | false => simp
        | true =>
          have hp2 := pc_off (show j < n by omega) e
          have hd2 : pcN n (s ^^^ 2 ^ j) = d := by omega
          simp only [cond_true, true_and]
          rw [List.countP_map]
          have hm := gen_mk d (s ^^^ 2 ^ j) (off_lt hs (by omega)) hd2
          have h2 : (gen n d (s ^^^ 2 ^ j)).countP (gdL op z ∘ fun l => j :: l) = (gen n d (s ^^^ 2 ^ j)).countP (fun l => bt64 op s && (okz z j (s ^^^ 2 ^ j) && gdL op z l)) := by
            refine List.countP_congr (fun l hl => ?_)
            show (bt64 op (mkS l ||| 2 ^ j) && (okz z j (mkS l) && gdL op z l)) = true ↔ _
            rw [(hm l hl).1, mk_set e]
          rw [h2]
          cases bt64 op s with
          | false => simp
          | true =>
            cases okz z j (s ^^^ 2 ^ j) with
            | false => simp
            | true =>
              simp only [Bool.true_and, if_true]
              unfold wyN
              rw [hd2]
      rw [h1]
      show _ = if bt64 op s = true then wyS n op z s j + (if s.testBit j = true ∧ okz z j (s ^^^ 2 ^ j) = true then wyN n op z (s ^^^ 2 ^ j) else 0) else 0
      split <;> rfl
  unfold wyN
  rw [hd]
  exact key n (Nat.le_refl n)
theorem wy_0 {n : Nat} {op z : Int64} : wyN n op z 0 = 1 := by
  have : pcN n 0 = 0 := ct_0.mpr (fun r hr => Nat.zero_testBit r)
  unfold wyN
  rw [this]
  rfl
theorem nI_andn (s t : Nat) : nI s &&& (nI t ^^^ (-1 : Int32)) = nI (s ^^^ (s &&& t)) := by
  apply Int32.toBitVec_inj.mp
  rw [Int32.toBitVec_and, Int32.toBitVec_xor, bv_nI, bv_nI, bv_nI]
  have e : (-1 : Int32).toBitVec = BitVec.allOnes 32 := by decide
  rw [e]
  apply BitVec.eq_of_getLsbD_eq
  intro i hi
  simp only [BitVec.getLsbD_and, BitVec.getLsbD_xor, BitVec.getLsbD_ofNat, BitVec.getLsbD_allOnes, hi, decide_true, Bool.true_and, Nat.testBit_xor, Nat.testBit_and]
  cases s.testBit i <;> cases t.testBit i <;> rfl
theorem andn_bit {s x : Nat} : s ^^^ (s &&& 2 ^ x) = if s.testBit x = true then s ^^^ 2 ^ x else s := by
  apply Nat.eq_of_testBit_eq
  intro y
  rw [Nat.testBit_xor, Nat.testBit_and, Nat.testBit_two_pow]
  by_cases h : s.testBit x = true
  · rw [if_pos h, xor_bit]
    by_cases e : x = y
    · subst e; rw [h]; rfl
    · rw [decide_eq_false e]; simp
  · rw [if_neg h]
    by_cases e : x = y
    · subst e
      have : s.testBit x = false := by cases q : s.testBit x with
        | true => exact absurd q h
        | false => rfl
      rw [this]; rfl
    · rw [decide_eq_false e]; simp
theorem nd_i {z : Int64} {x : Nat} (hx : x < 6) : l2i (lushr z ((6 : Int32) * nI x)) &&& (63 : Int32) = nI (ndN z x) := by
  rw [show (6 : Int32) = nI 6 from rfl, nmul, l2i_n, bN_shr (by omega), show (63 : Int32) = nI 63 from rfl, nI_and, show 63 = 2 ^ 6 - 1 from rfl, Nat.and_two_pow_sub_one_eq_mod]
  rfl
theorem pc_pos {n s : Nat} (hs : s < 2 ^ n) (h : 0 < s) : 0 < pcN n s := by
  apply Classical.byContradiction
  intro h2
  have h3 : pcN n s = 0 := by omega
  have h4 : s = 0 := by
    apply Nat.eq_of_testBit_eq
    intro y
    rw [Nat.zero_testBit]
    by_cases hy : y < n
    · exact ct_0.mp h3 y hy
    · exact Nat.testBit_lt_two_pow (Nat.lt_of_lt_of_le hs (Nat.pow_le_pow_right (by omega) (by omega)))
  omega
theorem off_less {s x : Nat} (h : s.testBit x = true) : s ^^^ 2 ^ x < s := by
  have h1 : s ^^^ (s &&& 2 ^ x) = s ^^^ 2 ^ x := by rw [andn_bit, if_pos h]
  have h2 := mk_set h
  have h3 : s ^^^ 2 ^ x ≤ s := by
    have : (s ^^^ 2 ^ x) ≤ (s ^^^ 2 ^ x) ||| 2 ^ x := Nat.left_le_or
    rwa [h2] at this
  rcases Nat.lt_or_eq_of_le h3 with h4 | h4
  · exact h4
  · exfalso
    have h5 := xor_bit (s := s) (x := x) (y := x)
    rw [h4, h] at h5
    simp at h5
theorem C_ways_16 {n s : Nat} {op z : Int64} {h : Hp} (hn : n ≤ 6) (hs : s < 2 ^ n) (hW : ∀ t, t < s → h.1 17 t = nI (wyN n op z t)) : f_X2_waysTo_16 h (nI s) z (nI n) = some (nI (wyS n op z s n)) := by
  have hle : 2 ^ n ≤ 2 ^ 6 := Nat.pow_le_pow_right (by omega) hn
  refine Ev_eq ?_
  unfold f_X2_waysTo_16
  refine Ev_jn1 (fun y => y = nI (wyS n op z s n)) (fun y hy => Ev_so hy) (fun kk hk => ?_)
  refine Ev_fx2 (fun x a1 a2 => a2 = nI x ∧ a1 = nI (wyS n op z s x)) n ?_ ?_ (FU_lt (by omega)) ⟨rfl, rfl⟩
  · rintro self x a1 a2 hx ⟨rfl, rfl⟩ hself
    unfold L_X2_waysTo_16_6
    have e1 : ishl (1 : Int32) (nI x) = nI (2 ^ x) := by
      have := ishl_n (a := 1) (k := x) (by omega)
      rw [Nat.one_mul] at this; exact this
    rw [e1, nI_andn, nd_i (by omega), andn_bit]
    have hnd : ndN z x < 64 := Nat.mod_lt _ (by omega)
    refine Ev_f (nle_n hx (by omega)) (Ev_nm (Ev_nm ?_))
    by_cases hb : s.testBit x = true
    · rw [if_pos hb]
      have hl := off_less hb
      rw [nI_andn]
      refine Ev_f (by rw [neqI (by omega) (by omega)]; omega) ?_
      have hxl : ndN z x ^^^ (ndN z x &&& (s ^^^ 2 ^ x)) < 2 ^ 6 := Nat.xor_lt_two_pow (n := 6) hnd (Nat.lt_of_le_of_lt Nat.and_le_left hnd)
      have hok : (nI (ndN z x ^^^ (ndN z x &&& (s ^^^ 2 ^ x))) = 0) ↔ okz z x (s ^^^ 2 ^ x) = true := by
        rw [show (0 : Int32) = nI 0 from rfl, neqI (by omega) (by omega)]
        unfold okz
        constructor
        · intro h; rw [h]; rfl
        · exact Nat.eq_of_beq_eq_true
      refine Ev_i (fun e => Ev_ck rfl (by omega) (by omega) (Ev_nm (hself _ _ ⟨nI_add x 1, ?_⟩))) (fun e => hself _ _ ⟨nI_add x 1, ?_⟩)
      · rw [clN (by omega), hW _ hl, nI_add]
        show _ = nI (wyS n op z s x + if s.testBit x = true ∧ okz z x (s ^^^ 2 ^ x) = true then wyN n op z (s ^^^ 2 ^ x) else 0)
        rw [if_pos ⟨hb, hok.mp e⟩]
      · show _ = nI (wyS n op z s x + if s.testBit x = true ∧ okz z x (s ^^^ 2 ^ x) = true then wyN n op z (s ^^^ 2 ^ x) else 0)
        rw [if_neg (fun q => e (hok.mpr q.2)), Nat.add_zero]
    · rw [if_neg hb]
      refine Ev_t rfl (hself _ _ ⟨nI_add x 1, ?_⟩)
      show _ = nI (wyS n op z s x + if s.testBit x = true ∧ okz z x (s ^^^ 2 ^ x) = true then wyN n op z (s ^^^ 2 ^ x) else 0)
      rw [if_neg (fun q => hb q.1), Nat.add_zero]
  · rintro self a1 a2 ⟨rfl, rfl⟩
    unfold L_X2_waysTo_16_6
    exact Ev_t (Int32.le_refl _) (hk _ rfl)
theorem C_count_16 {n : Nat} {op z : Int64} {h : Hp} (hn : n ≤ 6) : Ev (f_X2_countOf_16 h op z (nI n)) (fun r => r.1 = nI (wyN n op z (2 ^ n - 1)) ∧ Sm [17] h r.2) := by
  have hle : 2 ^ n ≤ 2 ^ 6 := Nat.pow_le_pow_right (by omega) hn
  have hp0 := Nat.two_pow_pos n
  unfold f_X2_countOf_16
  rw [shl_n hn, n1, nsub hp0]
  refine Ev_nm (Ev_ck (j := 0) rfl (by omega) (by omega) (Ev_nm (Ev_jn1 (fun h2 => Sm [17] h h2 ∧ ∀ t, t < 2 ^ n → h2.1 17 t = nI (wyN n op z t)) (fun h2 ⟨a1, a2⟩ => Ev_ck rfl (by omega) (by omega) (Ev_so ⟨by rw [clN (by omega)]; exact a2 _ (by omega), a1⟩)) (fun kk hk => ?_))))
  refine Ev_fx2 (fun j a1 a2 => a1 = nI (1 + j) ∧ Sm [17] h a2 ∧ ∀ t, t < 1 + j → a2.1 17 t = nI (wyN n op z t)) (2 ^ n - 1) ?_ ?_ (FU_lt (by omega)) ⟨rfl, Sm.rf.sI (by decide), fun t ht => ?_⟩
  · rintro self j a1 a2 hj ⟨rfl, hS, hW⟩ hself
    unfold L_X2_countOf_16_18
    have hrec := wy_rec (n := n) (s := 1 + j) (op := op) (z := z) (by omega) (pc_pos (by omega) (by omega))
    refine Ev_f (by rw [nI_ltI (by omega) (by omega)]; omega) ?_
    rw [lu1 (by omega)]
    cases hb : bt64 op (1 + j) with
    | false =>
      rw [hb] at hrec
      refine Ev_t (lgc 0) (Ev_ck rfl (by omega) (by omega) (Ev_nm (hself _ _ ⟨nI_add _ 1, hS.sI (by decide), fun t ht => ?_⟩)))
      rw [wI_1, clN (by omega)]
      by_cases e : t = 1 + j
      · rw [e, upd_s, hrec]; rfl
      · rw [upd_n _ _ e]; exact hW t (by omega)
    | true =>
      rw [hb] at hrec
      refine Ev_f (by decide) (Ev_bde (C_ways_16 hn (by omega) (fun t ht => hW t ht)) (Ev_ck rfl (by omega) (by omega) (Ev_nm (hself _ _ ⟨nI_add _ 1, hS.sI (by decide), fun t ht => ?_⟩))))
      rw [wI_1, clN (by omega)]
      by_cases e : t = 1 + j
      · rw [e, upd_s, hrec]; rfl
      · rw [upd_n _ _ e]; exact hW t (by omega)
  · rintro self a1 a2 ⟨rfl, hS, hW⟩
    unfold L_X2_countOf_16_18
    exact Ev_t (nI_lt (by omega) (by omega)) (hk _ ⟨hS, fun t ht => hW t (by omega)⟩)
  · have e : t = 0 := by omega
    subst e
    rw [wI_1, cl0, upd_s, wy_0]
theorem C_ways_33 {n s : Nat} {op z : Int64} {h : Hp} (hn : n ≤ 6) (hs : s < 2 ^ n) (hW : ∀ t, t < s → h.1 34 t = nI (wyN n op z t)) : f_X2_waysTo_33 h (nI s) z (nI n) = some (nI (wyS n op z s n)) := by
  have hle : 2 ^ n ≤ 2 ^ 6 := Nat.pow_le_pow_right (by omega) hn
  refine Ev_eq ?_
  unfold f_X2_waysTo_33
  refine Ev_jn1 (fun y => y = nI (wyS n op z s n)) (fun y hy => Ev_so hy) (fun kk hk => ?_)
  refine Ev_fx2 (fun x a1 a2 => a2 = nI x ∧ a1 = nI (wyS n op z s x)) n ?_ ?_ (FU_lt (by omega)) ⟨rfl, rfl⟩
  · rintro self x a1 a2 hx ⟨rfl, rfl⟩ hself
    unfold L_X2_waysTo_33_6
    have e1 : ishl (1 : Int32) (nI x) = nI (2 ^ x) := by
      have := ishl_n (a := 1) (k := x) (by omega)
      rw [Nat.one_mul] at this; exact this
    rw [e1, nI_andn, nd_i (by omega), andn_bit]
    have hnd : ndN z x < 64 := Nat.mod_lt _ (by omega)
    refine Ev_f (nle_n hx (by omega)) (Ev_nm (Ev_nm ?_))
    by_cases hb : s.testBit x = true
    · rw [if_pos hb]
      have hl := off_less hb
      rw [nI_andn]
      refine Ev_f (by rw [neqI (by omega) (by omega)]; omega) ?_
      have hxl : ndN z x ^^^ (ndN z x &&& (s ^^^ 2 ^ x)) < 2 ^ 6 := Nat.xor_lt_two_pow (n := 6) hnd (Nat.lt_of_le_of_lt Nat.and_le_left hnd)
      have hok : (nI (ndN z x ^^^ (ndN z x &&& (s ^^^ 2 ^ x))) = 0) ↔ okz z x (s ^^^ 2 ^ x) = true := by
        rw [show (0 : Int32) = nI 0 from rfl, neqI (by omega) (by omega)]
        unfold okz
        constructor
        · intro h; rw [h]; rfl
        · exact Nat.eq_of_beq_eq_true
      refine Ev_i (fun e => Ev_ck rfl (by omega) (by omega) (Ev_nm (hself _ _ ⟨nI_add x 1, ?_⟩))) (fun e => hself _ _ ⟨nI_add x 1, ?_⟩)
      · rw [clN (by omega), hW _ hl, nI_add]
        show _ = nI (wyS n op z s x + if s.testBit x = true ∧ okz z x (s ^^^ 2 ^ x) = true then wyN n op z (s ^^^ 2 ^ x) else 0)
        rw [if_pos ⟨hb, hok.mp e⟩]
      · show _ = nI (wyS n op z s x + if s.testBit x = true ∧ okz z x (s ^^^ 2 ^ x) = true then wyN n op z (s ^^^ 2 ^ x) else 0)
        rw [if_neg (fun q => e (hok.mpr q.2)), Nat.add_zero]
    · rw [if_neg hb]
      refine Ev_t rfl (hself _ _ ⟨nI_add x 1, ?_⟩)
      show _ = nI (wyS n op z s x + if s.testBit x = true ∧ okz z x (s ^^^ 2 ^ x) = true then wyN n op z (s ^^^ 2 ^ x) else 0)
      rw [if_neg (fun q => hb q.1), Nat.add_zero]
  · rintro self a1 a2 ⟨rfl, rfl⟩
    unfold L_X2_waysTo_33_6
    exact Ev_t (Int32.le_refl _) (hk _ rfl)
theorem C_count_33 {n : Nat} {op z : Int64} {h : Hp} (hn : n ≤ 6) : Ev (f_X2_countOf_33 h op z (nI n)) (fun r => r.1 = nI (wyN n op z (2 ^ n - 1)) ∧ Sm [34] h r.2) := by
  have hle : 2 ^ n ≤ 2 ^ 6 := Nat.pow_le_pow_right (by omega) hn
  have hp0 := Nat.two_pow_pos n
  unfold f_X2_countOf_33
  rw [shl_n hn, n1, nsub hp0]
  refine Ev_nm (Ev_ck (j := 0) rfl (by omega) (by omega) (Ev_nm (Ev_jn1 (fun h2 => Sm [34] h h2 ∧ ∀ t, t < 2 ^ n → h2.1 34 t = nI (wyN n op z t)) (fun h2 ⟨a1, a2⟩ => Ev_ck rfl (by omega) (by omega) (Ev_so ⟨by rw [clN (by omega)]; exact a2 _ (by omega), a1⟩)) (fun kk hk => ?_))))
  refine Ev_fx2 (fun j a1 a2 => a1 = nI (1 + j) ∧ Sm [34] h a2 ∧ ∀ t, t < 1 + j → a2.1 34 t = nI (wyN n op z t)) (2 ^ n - 1) ?_ ?_ (FU_lt (by omega)) ⟨rfl, Sm.rf.sI (by decide), fun t ht => ?_⟩
  · rintro self j a1 a2 hj ⟨rfl, hS, hW⟩ hself
    unfold L_X2_countOf_33_18
    have hrec := wy_rec (n := n) (s := 1 + j) (op := op) (z := z) (by omega) (pc_pos (by omega) (by omega))
    refine Ev_f (by rw [nI_ltI (by omega) (by omega)]; omega) ?_
    rw [lu1 (by omega)]
    cases hb : bt64 op (1 + j) with
    | false =>
      rw [hb] at hrec
      refine Ev_t (lgc 0) (Ev_ck rfl (by omega) (by omega) (Ev_nm (hself _ _ ⟨nI_add _ 1, hS.sI (by decide), fun t ht => ?_⟩)))
      rw [wI_1, clN (by omega)]
      by_cases e : t = 1 + j
      · rw [e, upd_s, hrec]; rfl
      · rw [upd_n _ _ e]; exact hW t (by omega)
    | true =>
      rw [hb] at hrec
      refine Ev_f (by decide) (Ev_bde (C_ways_33 hn (by omega) (fun t ht => hW t ht)) (Ev_ck rfl (by omega) (by omega) (Ev_nm (hself _ _ ⟨nI_add _ 1, hS.sI (by decide), fun t ht => ?_⟩))))
      rw [wI_1, clN (by omega)]
      by_cases e : t = 1 + j
      · rw [e, upd_s, hrec]; rfl
      · rw [upd_n _ _ e]; exact hW t (by omega)
  · rintro self a1 a2 ⟨rfl, hS, hW⟩
    unfold L_X2_countOf_33_18
    exact Ev_t (nI_lt (by omega) (by omega)) (hk _ ⟨hS, fun t ht => hW t (by omega)⟩)
  · have e : t = 0 := by omega
    subst e
    rw [wI_1, cl0, upd_s, wy_0]
