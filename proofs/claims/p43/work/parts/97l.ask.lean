/-! CASE ask -/
theorem ct_pos {p : Nat → Bool} {N : Nat} (h : 0 < ctB p N) : ∃ r, r < N ∧ p r = true := by
  apply Classical.byContradiction
  intro h2
  have : ctB p N = 0 := ct_0.mpr (fun r hr => by
    cases e : p r with
    | false => rfl
    | true => exact absurd ⟨r, hr, e⟩ h2)
  omega
theorem ct_some {p : Nat → Bool} {N : Nat} (h : ∃ r, r < N ∧ p r = true) : 0 < ctB p N := by
  apply Classical.byContradiction
  intro h2
  obtain ⟨r, hr, e⟩ := h
  have h3 : ctB p N = 0 := by omega
  rw [ct_0.mp h3 r hr] at e
  cases e
/-- the bit that tells lo to be the lesser -/
def lsB (z : Int64) (lo hi : Nat) : Int64 := z ||| lshl 1 (nI (6 * hi + lo))
theorem ls_bit {z : Int64} {lo hi j : Nat} (hlo : lo < 6) (hhi : hi < 6) (hj : j < 64) : bt64 (lsB z lo hi) j = (bt64 z j || decide (j = 6 * hi + lo)) := by
  unfold lsB
  rw [bt_or, bt_lshl1 (by omega) hj]
theorem ls_ok {n lo hi : Nat} {z : Int64} (hn : n ≤ 6) (hlo : lo < n) (hhi : hi < n) (hz : okBits n z) : okBits n (lsB z lo hi) := fun j hj => by
  by_cases h64 : j < 64
  · rw [ls_bit (by omega) (by omega) h64, Bool.or_eq_true] at hj
    rcases hj with h | h
    · exact hz j h
    · have := of_decide_eq_true h
      omega
  · rw [bt_big _ (by omega)] at hj; cases hj
theorem ls_cons {n lo hi : Nat} {z : Int64} {v : Nat → Nat} (hn : n ≤ 6) (hlo : lo < n) (hhi : hi < n) : consN (lsB z lo hi) n v = (consN z n v && decide (v lo < v hi)) := by
  have h : consN (lsB z lo hi) n v = true ↔ consN z n v = true ∧ v lo < v hi := by
    rw [cons_iff, cons_iff]
    constructor
    · intro h
      refine ⟨fun a ha b hb e => h a ha b hb (by rw [ls_bit (by omega) (by omega) (by omega), e, Bool.true_or]), h hi hhi lo hlo (by rw [ls_bit (by omega) (by omega) (by omega)]; simp)⟩
    · rintro ⟨h1, h2⟩ a ha b hb e
      rw [ls_bit (by omega) (by omega) (by omega), Bool.or_eq_true] at e
      rcases e with e | e
      · exact h1 a ha b hb e
      · have := of_decide_eq_true e
        have e1 : a = hi := by omega
        have e2 : b = lo := by omega
        rw [e1, e2]; exact h2
  cases e1 : consN (lsB z lo hi) n v with
  | true => have := h.mp e1; rw [this.1, decide_eq_true this.2]; rfl
  | false =>
    cases e2 : consN z n v with
    | false => rfl
    | true =>
      by_cases e3 : v lo < v hi
      · rw [h.mpr ⟨e2, e3⟩] at e1; cases e1
      · rw [decide_eq_false e3]; rfl
theorem ct_le720 {n : Nat} {z : Int64} (hn : n ≤ 6) : ctC n z ≤ 720 := Nat.le_trans ct_le (fac_le n (by omega))
theorem ct_split2 {n a b : Nat} {z : Int64} (hn : n ≤ 6) (ha : a < n) (hb : b < n) (hab : a ≠ b) : ctC n z = ctC n (lsB z a b) + ctC n (lsB z b a) := by
  have h : ∀ N, N ≤ facN n → ctB (fun r => consN z n (rowT n r)) N = ctB (fun r => consN (lsB z a b) n (rowT n r)) N + ctB (fun r => consN (lsB z b a) n (rowT n r)) N := by
    intro N
    induction N with
    | zero => intro _; rfl
    | succ N ih =>
      intro hN
      have ih := ih (by omega)
      have hp := row_perm hn (show N < facN n by omega)
      have hne : rowT n N a ≠ rowT n N b := fun e => hab (hp.2 a b ha hb e)
      have e1 := ls_cons (z := z) (v := rowT n N) hn ha hb
      have e2 := ls_cons (z := z) (v := rowT n N) hn hb ha
      cases e : consN z n (rowT n N) with
      | false =>
        rw [e, Bool.false_and] at e1 e2
        rw [ct_s0 (p := fun r => consN z n (rowT n r)) (by rw [e]; decide), ct_s0 (p := fun r => consN (lsB z a b) n (rowT n r)) (by rw [e1]; decide), ct_s0 (p := fun r => consN (lsB z b a) n (rowT n r)) (by rw [e2]; decide)]
        exact ih
      | true =>
        rw [e, Bool.true_and] at e1 e2
        by_cases h2 : rowT n N a < rowT n N b
        · rw [decide_eq_true h2] at e1
          rw [decide_eq_false (by omega)] at e2
          rw [ct_s1 (p := fun r => consN z n (rowT n r)) e, ct_s1 (p := fun r => consN (lsB z a b) n (rowT n r)) e1, ct_s0 (p := fun r => consN (lsB z b a) n (rowT n r)) (by rw [e2]; decide)]
          omega
        · rw [decide_eq_false h2] at e1
          rw [decide_eq_true (by omega)] at e2
          rw [ct_s1 (p := fun r => consN z n (rowT n r)) e, ct_s0 (p := fun r => consN (lsB z a b) n (rowT n r)) (by rw [e1]; decide), ct_s1 (p := fun r => consN (lsB z b a) n (rowT n r)) e2]
          omega
  exact h _ (Nat.le_refl _)
def askP (n : Nat) (z : Int64) (a b : Nat) : Prop := ctC n (lsB z b a) < ctC n (lsB z a b) ∨ (ctC n (lsB z a b) = ctC n (lsB z b a) ∧ a < b)
theorem isL {lo hi : Nat} : f_X0_isLesser (nI lo) (nI hi) = some (lshl 1 (nI (6 * hi + lo))) := by
  unfold f_X0_isLesser
  rw [show (6 : Int32) = nI 6 from rfl, nmul, nI_add]
theorem C_answer {n a b : Nat} {c : Hp} (hn : n ≤ 6) (ha : a < n) (hb : b < n) (hz : okBits n (c.2 32 0)) : Ev (f_X0_answer_32 c (nI a) (nI b) (nI n)) (fun r => r.1 = pI (askP n (c.2 32 0) a b) ∧ Sm [32, 34] c r.2 ∧ r.2.1 32 = c.1 32 ∧ (askP n (c.2 32 0) a b → r.2.2 32 0 = lsB (c.2 32 0) a b) ∧ (¬ askP n (c.2 32 0) a b → r.2.2 32 0 = lsB (c.2 32 0) b a)) := by
  unfold f_X0_answer_32
  refine Ev_bde isL (Ev_nm (Ev_bde isL (Ev_nm ?_)))
  show Ev (bd (f_X0_countOf_33 c (lsB (c.2 32 0) a b) (nI n)) _) _
  refine Ev_bd _ (C_left hn (ls_ok hn ha hb hz)) (fun r1 ⟨p1, p2⟩ => ?_)
  refine Ev_bd (fun r => r.1 = nI (ctC n (lsB (c.2 32 0) b a)) ∧ Sm [34] r1.2 r.2) (C_left hn (ls_ok hn hb ha hz)) (fun r2 ⟨q1, q2⟩ => ?_)
  have l1 := ct_le720 (n := n) (z := lsB (c.2 32 0) a b) hn
  have l2 := ct_le720 (n := n) (z := lsB (c.2 32 0) b a) hn
  have hS := p2.tr q2
  refine Ev_jn1 (fun z => z = pI (askP n (c.2 32 0) a b)) (fun z hz => ?_) (fun kk hk => ?_)
  · by_cases h : askP n (c.2 32 0) a b
    · rw [pI_t h] at hz ⊢
      subst hz
      refine Ev_f (by decide) (Ev_nm (Ev_ckz (Or.inr rfl) (Ev_so ⟨rfl, (hS.mono (by decide)).sFL (by decide), ?_, fun _ => ?_, fun z => absurd h z⟩)))
      · rw [wFL_2, (hS 32 (by decide)).1]
      · rw [wFL_1, updL_s]; rfl
    · rw [pI_f h] at hz ⊢
      subst hz
      refine Ev_t rfl (Ev_nm (Ev_ckz (Or.inl rfl) (Ev_so ⟨rfl, (hS.mono (by decide)).sFL (by decide), ?_, fun z => absurd z h, fun _ => ?_⟩)))
      · rw [wFL_2, (hS 32 (by decide)).1]
      · rw [wFL_1, updL_s]; rfl
  · rw [p1, q1]
    refine Ev_i (fun e => ?_) (fun e => ?_)
    · rw [neqI (by omega) (by omega)] at e
      refine Ev_i (fun e2 => hk _ (pI_f ?_).symm) (fun e2 => hk _ (pI_t ?_).symm)
      · rw [nI_leI (by omega) (by omega)] at e2
        unfold askP; omega
      · rw [nI_leI (by omega) (by omega)] at e2
        unfold askP; omega
    · rw [neqI (by omega) (by omega)] at e
      refine Ev_i (fun e2 => hk _ (pI_f ?_).symm) (fun e2 => hk _ (pI_t ?_).symm)
      · rw [nI_leI (by omega) (by omega)] at e2
        unfold askP; omega
      · rw [nI_leI (by omega) (by omega)] at e2
        unfold askP; omega
theorem sub_add1 {p q : Nat} : nI p - nI q + 1 = nI (p + 1) - nI q := by
  rw [nI_succ]
  apply Int32.toBitVec_inj.mp
  rw [Int32.toBitVec_add, Int32.toBitVec_sub, Int32.toBitVec_sub, Int32.toBitVec_add]
  rw [BitVec.sub_eq_add_neg, BitVec.sub_eq_add_neg, BitVec.add_assoc, BitVec.add_comm (-(nI q).toBitVec), ← BitVec.add_assoc]
theorem sub_sub1 {p q : Nat} : nI p - nI q + (-1) = nI p - nI (q + 1) := by
  rw [nI_succ]
  apply Int32.toBitVec_inj.mp
  rw [Int32.toBitVec_add, Int32.toBitVec_sub, Int32.toBitVec_sub, Int32.toBitVec_add]
  have e : (-1 : Int32).toBitVec = -(1 : Int32).toBitVec := by decide
  rw [e, BitVec.sub_eq_add_neg, BitVec.sub_eq_add_neg, BitVec.neg_add, BitVec.sub_eq_add_neg, BitVec.add_assoc]
theorem sub_pos {p q : Nat} (hp : p < 2 ^ 20) (hq : q < 2 ^ 20) : (0 < nI p - nI q ↔ q < p) ∧ (nI p - nI q = 0 ↔ p = q) := by
  have h0 : (0 : Int32).toInt = 0 := by decide
  constructor
  · rw [Int32.lt_iff_toInt_lt, pk_sub_toInt (by omega) (by omega), h0]
    omega
  · rw [← Int32.toInt_inj, pk_sub_toInt (by omega) (by omega), h0]
    omega
theorem AdvR.asked {n a b : Nat} {c m c1 m1 : Hp} (hn : n ≤ 6) (ha : a < n) (hb : b < n) (hab : a ≠ b) (hA : AdvR n c m) (h1 : askP n (c.2 32 0) a b → c1.2 32 0 = lsB (c.2 32 0) a b) (h2 : ¬ askP n (c.2 32 0) a b → c1.2 32 0 = lsB (c.2 32 0) b a) (h3 : ∀ r', r' < facN n → m1.1 14 r' = pI (consN (c.2 32 0) n (rowT n r') = true ∧ (rowT n r' a < rowT n r' b ↔ askP n (c.2 32 0) a b))) : AdvR n c1 m1 := by
  obtain ⟨a1, a2, a3⟩ := hA
  have hsum := ct_split2 (z := c.2 32 0) hn ha hb hab
  have hpos : 0 < ctC n (c.2 32 0) := ct_some a3
  by_cases h : askP n (c.2 32 0) a b
  · rw [AdvR, h1 h]
    refine ⟨ls_ok hn ha hb a1, fun r hr => ?_, ct_pos (p := fun r => consN (lsB (c.2 32 0) a b) n (rowT n r)) (N := facN n) ?_⟩
    · rw [h3 r hr, ls_cons hn ha hb]
      cases consN (c.2 32 0) n (rowT n r) with
      | false => rw [pI_f (by simp)]; simp
      | true =>
        by_cases e : rowT n r a < rowT n r b
        · rw [pI_t ⟨rfl, ⟨fun _ => h, fun _ => e⟩⟩, decide_eq_true e]; rfl
        · rw [pI_f (fun q => e (q.2.mpr h)), decide_eq_false e]; rfl
    · have : 0 < ctC n (lsB (c.2 32 0) a b) := by unfold askP at h; omega
      exact this
  · rw [AdvR, h2 h]
    refine ⟨ls_ok hn hb ha a1, fun r hr => ?_, ct_pos (p := fun r => consN (lsB (c.2 32 0) b a) n (rowT n r)) (N := facN n) ?_⟩
    · have hp := row_perm hn hr
      have hne : rowT n r a ≠ rowT n r b := fun e => hab (hp.2 a b ha hb e)
      rw [h3 r hr, ls_cons hn hb ha]
      cases consN (c.2 32 0) n (rowT n r) with
      | false => rw [pI_f (by simp)]; simp
      | true =>
        by_cases e : rowT n r a < rowT n r b
        · rw [pI_f (fun q => h (q.2.mp e)), decide_eq_false (by omega)]; rfl
        · rw [pI_t ⟨rfl, ⟨fun z => absurd z e, fun z => absurd z h⟩⟩, decide_eq_true (by omega)]; rfl
    · have : 0 < ctC n (lsB (c.2 32 0) b a) := by unfold askP at h; omega
      exact this
