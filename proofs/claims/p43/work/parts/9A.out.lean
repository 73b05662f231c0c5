/-! P43: rows, low, out, upright -/
def RwN (m : Nat) (p : Row) (v : Nat → Nat) : Prop := ∀ x, x < m → p x = nI (v x)
def RcN (k : Nat) (f o : Nat → Nat) (p : Row) : Prop := ∀ i, i < k → p i = nI (f i + 8 * o i)
theorem cl1 : (1 : Int32).toNatClampNeg = 1 := rfl
theorem cl2 : (2 : Int32).toNatClampNeg = 2 := rfl
theorem Ev_c0 {β : Type} {k : Option β} {P : β → Prop} (h : Ev k P) : Ev (ck (0 : Int32) 4 k) P := Ev_ck (j := 0) rfl (by omega) (by omega) h
theorem Ev_c1 {β : Type} {k : Option β} {P : β → Prop} (h : Ev k P) : Ev (ck (1 : Int32) 4 k) P := Ev_ck (j := 1) rfl (by omega) (by omega) h
theorem Ev_c2 {β : Type} {k : Option β} {P : β → Prop} (h : Ev k P) : Ev (ck (2 : Int32) 4 k) P := Ev_ck (j := 2) rfl (by omega) (by omega) h
def b2n (b : Bool) : Nat := if b = true then 1 else 0
theorem b2n_le (b : Bool) : b2n b < 2 := by cases b <;> decide
theorem b2n_d (b : Bool) : decide (b2n b = 1) = b := by cases b <;> decide
theorem and31 (x : Int32) : ∃ k, k < 2 ^ 31 ∧ x &&& (2147483647 : Int32) = nI k := by
  refine ⟨(x &&& 2147483647).toBitVec.toNat, ?_, ?_⟩
  · rw [Int32.toBitVec_and, BitVec.toNat_and]
    exact Nat.lt_of_le_of_lt Nat.and_le_right (by decide)
  · apply Int32.toBitVec_inj.mp
    rw [bv_nI, BitVec.ofNat_toNat, BitVec.setWidth_eq]
theorem r_low {x : Int32} {n : Nat} (h1 : 0 < n) (hn : n < 2 ^ 31) : Ev (f_L_low x (nI n)) (fun y => ∃ m, m < n ∧ y = nI m) := by
  obtain ⟨k, hk, e⟩ := and31 x
  unfold f_L_low
  refine Ev_nz (nI_ne0 h1 hn) ?_
  rw [e, irmN hk h1 hn]
  exact Ev_so ⟨k % n, Nat.mod_lt _ h1, rfl⟩
theorem RcN.rd {k i : Nat} {f o : Nat → Nat} {rc : Row} (hc : RcN k f o rc) (hi : i < k) (hf : f i < 8) (ho : o i < 8) : irm (rc i) (8 : Int32) = nI (f i) ∧ rc i / (8 : Int32) = nI (o i) := by
  rw [hc i hi, n8, irmN (by omega) (by omega) (by omega), ndiv (by omega) (by omega) (by omega)]
  rw [show (f i + 8 * o i) % 8 = f i by omega, show (f i + 8 * o i) / 8 = o i by omega]
  exact ⟨rfl, rfl⟩
def outN (p a b z w : Nat) : Nat := ((p &&& (31 ^^^ (2 ^ a ||| 2 ^ b))) ||| z * 2 ^ a) ||| w * 2 ^ b
def outC (p a b z w : Nat) : Bool := a == b || (decide ((((nI p &&& (((ishl 1 (nI a)) ||| (ishl 1 (nI b))) ^^^ (-1 : Int32))) ||| (ishl (nI z) (nI a))) ||| (ishl (nI w) (nI b))) = nI (outN p a b z w)) && (decide (outN p a b z w < 32) && (List.range 5).all (fun x => (outN p a b z w).testBit x == if x = a then decide (z = 1) else if x = b then decide (w = 1) else p.testBit x)))
theorem outC_ok : ((List.range 32).all fun p => (List.range 5).all fun a => (List.range 5).all fun b => (List.range 2).all fun z => (List.range 2).all fun w => outC p a b z w) = true := by decide +kernel
theorem out_bits {p a b z w : Nat} (hp : p < 32) (ha : a < 5) (hb : b < 5) (hz : z < 2) (hw : w < 2) (hab : a ≠ b) : (((nI p &&& (((ishl 1 (nI a)) ||| (ishl 1 (nI b))) ^^^ (-1 : Int32))) ||| (ishl (nI z) (nI a))) ||| (ishl (nI w) (nI b))) = nI (outN p a b z w) ∧ outN p a b z w < 32 ∧ ∀ x, x < 5 → (outN p a b z w).testBit x = if x = a then decide (z = 1) else if x = b then decide (w = 1) else p.testBit x := by
  have h := List.all_eq_true.mp (List.all_eq_true.mp (List.all_eq_true.mp (List.all_eq_true.mp (List.all_eq_true.mp outC_ok p (List.mem_range.mpr hp)) a (List.mem_range.mpr ha)) b (List.mem_range.mpr hb)) z (List.mem_range.mpr hz)) w (List.mem_range.mpr hw)
  unfold outC at h
  rw [Bool.or_eq_true, Bool.and_eq_true, Bool.and_eq_true, decide_eq_true_eq, decide_eq_true_eq] at h
  rcases h with h | ⟨h1, h2, h3⟩
  · exact absurd (eq_of_beq h) hab
  · exact ⟨h1, h2, fun x hx => eq_of_beq (List.all_eq_true.mp h3 x (List.mem_range.mpr hx))⟩
theorem lt_bits {n p : Nat} (hn : n ≤ 5) (hp : p < 32) (h : ∀ x, n ≤ x → x < 5 → p.testBit x = false) : p < 2 ^ n := by
  apply Nat.lt_pow_two_of_testBit
  intro i hi
  by_cases e : i < 5
  · exact h i hi e
  · exact Nat.testBit_lt_two_pow (Nat.lt_of_lt_of_le hp (show 2 ^ 5 ≤ 2 ^ i from Nat.pow_le_pow_right (by omega) (by omega)))
theorem r_out {n k j q sp md : Nat} {f o : Nat → Nat} {rc : Row} {SP : Int32} (hG : Good n k f o) (h5 : n ≤ 5) (hc : RcN k f o rc) (hj : j ≤ k) (hq : q < 2 ^ n) (hsp : SpI SP sp) (hmd : md ≤ 2) : Ev (f_L_out (nI q) (nI j) SP (nI md) rc) (fun y => RQ n (netB f o sp md j (bR q)) y) := by
  have hk24 := hG.2.2.1
  have hle : 2 ^ n ≤ 2 ^ 5 := Nat.pow_le_pow_right (by omega) h5
  unfold f_L_out
  refine Ev_jn1 (fun y => RQ n (netB f o sp md j (bR q)) y) (fun y hy => Ev_so hy) (fun kk hk => ?_)
  refine Ev_fx2 (fun i a1 a2 => a2 = nI i ∧ RQ n (netB f o sp md i (bR q)) a1) j ?_ ?_ (FU_lt (by omega)) ⟨rfl, q, rfl, hq, fun x hx => rfl⟩
  · rintro self i a1 a2 hi ⟨rfl, p, rfl, hp, hv⟩ hself
    obtain ⟨g1, g2, g3⟩ := hG.2.2.2 i (by omega)
    obtain ⟨e1, e2⟩ := hc.rd (show i < k by omega) (by omega) (by omega)
    unfold L_L_out_6
    refine Ev_f (nle_n hi (by omega)) (Ev_ck rfl (by omega) (by omega) (Ev_nm (Ev_ck rfl (by omega) (by omega) (Ev_nm (Ev_nm (Ev_nm ?_))))))
    rw [clN (by omega), e1, e2, bit_n (by omega) (by omega), bit_n (by omega) (by omega), hv _ g1, hv _ g2]
    have hW := netB_s (f := f) (o := o) (sp := sp) (md := md) (i := i) (v := bR q)
    generalize hVe : netB f o sp md i (bR q) = V at hW hv
    generalize netB f o sp md (i + 1) (bR q) = W at hW hself
    have hWx : (∀ x, x ≠ f i → x ≠ o i → W x = V x) ∧ b2n (V (f i)) + b2n (V (o i)) = b2n (W (f i)) + b2n (W (o i)) := by
      by_cases hs : i = sp
      · rw [if_pos hs] at hW
        subst hW
        refine ⟨fun x x1 x2 => ?_, ?_⟩
        · unfold badB; simp [x1, x2]
        · unfold badB
          by_cases m1 : md = 1
          · simp [m1, Ne.symm g3]; omega
          · by_cases m2 : md = 2
            · simp [m2, Ne.symm g3]
              cases V (f i) <;> cases V (o i) <;> decide
            · simp [m1, m2]
      · rw [if_neg hs] at hW
        subst hW
        refine ⟨fun x x1 x2 => ?_, ?_⟩
        · unfold cmpB; simp [x1, x2]
        · unfold cmpB
          simp [Ne.symm g3]
          cases V (f i) <;> cases V (o i) <;> decide
    refine Ev_jn1 (fun z => z = nI (b2n (W (f i)))) (fun z hz => ?_) (fun k88 h88 => ?_)
    · subst hz
      have hb1 := b2n_le (W (f i))
      have hb2 := b2n_le (W (o i))
      have es : nI (if V (f i) = true then 1 else 0) + nI (if V (o i) = true then 1 else 0) - nI (b2n (W (f i))) = nI (b2n (W (o i))) := by
        show nI (b2n (V (f i))) + nI (b2n (V (o i))) - _ = _
        rw [nI_add, hWx.2, nsub (by omega)]
        congr 1
        omega
      refine Ev_nm ?_
      rw [es]
      obtain ⟨q1, q2, q3⟩ := out_bits (p := p) (a := f i) (b := o i) (by omega) (by omega) (by omega) hb1 hb2 g3
      refine Ev_nm ?_
      rw [q1]
      refine hself _ _ ⟨nI_add i 1, _, rfl, lt_bits h5 q2 (fun x x1 x2 => ?_), fun x hx => ?_⟩
      · rw [q3 x x2, if_neg (by omega), if_neg (by omega)]
        exact Nat.testBit_lt_two_pow (Nat.lt_of_lt_of_le hp (Nat.pow_le_pow_right (by omega) x1))
      · rw [q3 x (by omega), b2n_d, b2n_d]
        by_cases x1 : x = f i
        · rw [if_pos x1, x1]
        · by_cases x2 : x = o i
          · rw [if_neg x1, if_pos x2, x2]
          · rw [if_neg x1, if_neg x2, hv x hx, hWx.1 x x1 x2]
    · by_cases hs : i = sp
      · rw [if_pos hs] at hW
        subst hW
        refine Ev_t ((hsp i (by omega)).mpr hs) (Ev_i (fun m0 => h88 _ ?_) (fun m0 => Ev_i (fun m1 => h88 _ ?_) (fun m1 => h88 _ ?_)))
        · have m0 : md = 0 := (neqI (b := 0) (by omega) (by omega)).mp m0
          subst m0
          unfold badB
          simp [b2n]
        · have m1 : md = 1 := (neqI (b := 1) (by omega) (by omega)).mp m1
          subst m1
          unfold badB
          simp [b2n]
        · have m2 : md = 2 := by
            have a0 : ¬ md = 0 := fun e => m0 (by rw [e]; rfl)
            have a1 : ¬ md = 1 := fun e => m1 (by rw [e]; rfl)
            omega
          subst m2
          unfold badB
          rw [nI_or]
          simp
          cases V (f i) <;> cases V (o i) <;> decide
      · rw [if_neg hs] at hW
        subst hW
        refine Ev_f (fun z => hs ((hsp i (by omega)).mp z)) (h88 _ ?_)
        unfold cmpB
        rw [nI_and]
        simp
        cases V (f i) <;> cases V (o i) <;> decide
  · rintro self a1 a2 ⟨rfl, hZ⟩
    unfold L_L_out_6
    exact Ev_t (le_n (by omega) (by omega)) (hk _ hZ)
def upB (q a b : Nat) : Bool := (List.range 5).all (fun x => !(decide (a ≤ x) && decide (x + 1 < b) && q.testBit x && !q.testBit (x + 1)))
theorem up_ok : ∀ q, q < 32 → ∀ a, a < 5 → ∀ b, b < 6 → a < b → f_L_upright (nI q) (nI a) (nI b) = some (if upB q a b = true then 1 else 0) := by decide +kernel
theorem up_iff {q a b : Nat} (hb : b ≤ 5) : upB q a b = true ↔ ∀ x, a ≤ x → x + 1 < b → q.testBit x = true → q.testBit (x + 1) = true := by
  unfold upB
  rw [List.all_eq_true]
  constructor
  · intro h x h1 h2 h3
    have := h x (List.mem_range.mpr (by omega))
    simpa [h1, h2, h3] using this
  · intro h x _
    by_cases h1 : a ≤ x
    · by_cases h2 : x + 1 < b
      · cases h3 : q.testBit x with
        | false => simp
        | true => simp [h x h1 h2 h3]
      · simp [h2]
    · simp [h1]
theorem up_uns {q n : Nat} (hn : n ≤ 5) : upB q 0 n = !unsB n (bR q) := by
  cases e : unsB n (bR q) with
  | false => exact (up_iff hn).mpr (fun x _ h2 h3 => uns_f.mp e x h2 h3)
  | true =>
    obtain ⟨x, h1, h2, h3⟩ := uns_iff.mp e
    cases e2 : upB q 0 n with
    | false => rfl
    | true =>
      have := (up_iff hn).mp e2 x (by omega) h1 h2
      have h3 : q.testBit (x + 1) = false := h3
      rw [h3] at this; cases this
/-- whether what comes out of a row is sorted -/
theorem r_upr {n : Nat} {V : Nat → Bool} {y : Int32} (hn : n ≤ 5) (hn1 : 0 < n) (h : RQ n V y) : f_L_upright y 0 (nI n) = some (if unsB n V = true then 0 else 1) := by
  obtain ⟨q, rfl, hq, hv⟩ := h
  have hle : 2 ^ n ≤ 2 ^ 5 := Nat.pow_le_pow_right (by omega) hn
  have h1 := up_ok q (by omega) 0 (by omega) n (by omega) hn1
  rw [show (0 : Int32) = nI 0 from rfl, h1, up_uns hn, uns_congr (v := bR q) (w := V) (fun x hx => hv x hx)]
  cases unsB n V <;> rfl
