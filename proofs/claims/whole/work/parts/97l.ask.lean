/-! CASE ask -/
theorem ct_pos {p : Nat → Bool} {N : Nat} (h : 0 < ctB p N) : ∃ r, r < N ∧ p r = true := by
  apply Classical.byContradiction
  intro h2
  have : ctB p N = 0 := ct_0.mpr (fun r hr => by
    cases e : p r with
    | false => rfl
    | true => exact absurd ⟨r, hr, e⟩ h2)
  omega
theorem ct_some {p : Nat → Bool} {N : Nat} (h : ∃ r, r < N ∧ p r = true) : 0 < ctB p N := by
  apply Classical.byContradiction
  intro h2
  obtain ⟨r, hr, e⟩ := h
  have h3 : ctB p N = 0 := by omega
  rw [ct_0.mp h3 r hr] at e
  cases e
/-- the bit that tells lo to be the lesser -/
def lsB (z : Int64) (lo hi : Nat) : Int64 := z ||| lshl 1 (nI (6 * hi + lo))
theorem ls_bit {z : Int64} {lo hi j : Nat} (hlo : lo < 6) (hhi : hi < 6) (hj : j < 64) : bt64 (lsB z lo hi) j = (bt64 z j || decide (j = 6 * hi + lo)) := by
  unfold lsB
  rw [bt_or, bt_lshl1 (by omega) hj]
theorem ls_ok {n lo hi : Nat} {z : Int64} (hn : n ≤ 6) (hlo : lo < n) (hhi : hi < n) (hz : okBits n z) : okBits n (lsB z lo hi) := fun j hj => by
  by_cases h64 : j < 64
  · rw [ls_bit (by omega) (by omega) h64, Bool.or_eq_true] at hj
    rcases hj with h | h
    · exact hz j h
    · have := of_decide_eq_true h
      omega
  · rw [bt_big _ (by omega)] at hj; cases hj
theorem ls_cons {n lo hi : Nat} {z : Int64} {v : Nat → Nat} (hn : n ≤ 6) (hlo : lo < n) (hhi : hi < n) : consN (lsB z lo hi) n v = (consN z n v && decide (v lo < v hi)) := by
  have h : consN (lsB z lo hi) n v = true ↔ consN z n v = true ∧ v lo < v hi := by
    rw [cons_iff, cons_iff]
    constructor
    · intro h
      refine ⟨fun a ha b hb e => h a ha b hb (by rw [ls_bit (by omega) (by omega) (by omega), e, Bool.true_or]), h hi hhi lo hlo (by rw [ls_bit (by omega) (by omega) (by omega)]; simp)⟩
    · rintro ⟨h1, h2⟩ a ha b hb e
      rw [ls_bit (by omega) (by omega) (by omega), Bool.or_eq_true] at e
      rcases e with e | e
      · exact h1 a ha b hb e
      · have := of_decide_eq_true e
        have e1 : a = hi := by omega
        have e2 : b = lo := by omega
        rw [e1, e2]; exact h2
  cases e1 : consN (lsB z lo hi) n v with
  | true => have := h.mp e1; rw [this.1, decide_eq_true this.2]; rfl
  | false =>
    cases e2 : consN z n v with
    | false => rfl
    | true =>
      by_cases e3 : v lo < v hi
      · rw [h.mpr ⟨e2, e3⟩] at e1; cases e1
      · rw [decide_eq_false e3]; rfl
theorem ct_le720 {n : Nat} {z : Int64} (hn : n ≤ 6) : ctC n z ≤ 720 := Nat.le_trans ct_le (fac_le n (by omega))
theorem ct_split2 {n a b : Nat} {z : Int64} (hn : n ≤ 6) (ha : a < n) (hb : b < n) (hab : a ≠ b) : ctC n z = ctC n (lsB z a b) + ctC n (lsB z b a) := by
  have h : ∀ N, N ≤ facN n → ctB (fun r => consN z n (rowT n r)) N = ctB (fun r => consN (lsB z a b) n (rowT n r)) N + ctB (fun r => consN (lsB z b a) n (rowT n r)) N := by
    intro N
    induction N with
    | zero => intro _; rfl
    | succ N ih =>
      intro hN
      have ih := ih (by omega)
      have hp := row_perm hn (show N < facN n by omega)
      have hne : rowT n N a ≠ rowT n N b := fun e => hab (hp.2 a b ha hb e)
      have e1 := ls_cons (z := z) (v := rowT n N) hn ha hb
      have e2 := ls_cons (z := z) (v := rowT n N) hn hb ha
      cases e : consN z n (rowT n N) with
      | false =>
        rw [e, Bool.false_and] at e1 e2
        rw [ct_s0 (p := fun r => consN z n (rowT n r)) (by rw [e]; decide), ct_s0 (p := fun r => consN (lsB z a b) n (rowT n r)) (by rw [e1]; decide), ct_s0 (p := fun r => consN (lsB z b a) n (rowT n r)) (by rw [e2]; decide)]
        exact ih
      | true =>
        rw [e, Bool.true_and] at e1 e2
        by_cases h2 : rowT n N a < rowT n N b
        · rw [decide_eq_true h2] at e1
          rw [decide_eq_false (by omega)] at e2
          rw [ct_s1 (p := fun r => consN z n (rowT n r)) e, ct_s1 (p := fun r => consN (lsB z a b) n (rowT n r)) e1, ct_s0 (p := fun r => consN (lsB z b a) n (rowT n r)) (by rw [e2]; decide)]
          omega
        · rw [decide_eq_false h2] at e1
          rw [decide_eq_true (by omega)] at e2
          rw [ct_s1 (p := fun r => consN z n (rowT n r)) e, ct_s0 (p := fun r => consN (lsB z a b) n (rowT n r)) (by rw [e1]; decide), ct_s1 (p := fun r => consN (lsB z b a) n (rowT n r)) e2]
          omega
  exact h _ (Nat.le_refl _)
def askP (n : Nat) (z : Int64) (a b : Nat) : Prop := ctC n (lsB z b a) < ctC n (lsB z a b) ∨ (ctC n (lsB z a b) = ctC n (lsB z b a) ∧ a < b)
theorem isL {lo hi : Nat} : f_X0_isLesser (nI lo) (nI hi) = some (lshl 1 (nI (6 * hi + lo))) := by
  unfold f_X0_isLesser
  rw [show (6 : Int32) = nI 6 from rfl, nmul, nI_add]
theorem C_answer {n a b : Nat} {c : Hp} (hn : n ≤ 6) (ha : a < n) (hb : b < n) (hz : okBits n (c.2 32 0)) : Ev (f_X0_answer_32 c (nI a) (nI b) (nI n)) (fun r => r.1 = pI (askP n (c.2 32 0) a b) ∧ Sm [32, 34] c r.2 ∧ r.2.1 32 = c.1 32 ∧ (askP n (c.2 32 0) a b → r.2.2 32 0 = lsB (c.2 32 0) a b) ∧ (¬ askP n (c.2 32 0) a b → r.2.2 32 0 = lsB (c.2 32 0) b a)) := by
  unfold f_X0_answer_32
  refine Ev_bde isL (Ev_nm (Ev_bde isL (Ev_nm ?_)))
  show Ev (bd (f_X0_countOf_33 c (lsB (c.2 32 0) a b) (nI n)) _) _
  refine Ev_bd _ (C_left hn (ls_ok hn ha hb hz)) (fun r1 ⟨p1, p2⟩ => ?_)
  refine Ev_bd (fun r => r.1 = nI (ctC n (lsB (c.2 32 0) b a)) ∧ Sm [34] r1.2 r.2) (C_left hn (ls_ok hn hb ha hz)) (fun r2 ⟨q1, q2⟩ => ?_)
  have l1 := ct_le720 (n := n) (z := lsB (c.2 32 0) a b) hn
  have l2 := ct_le720 (n := n) (z := lsB (c.2 32 0) b a) hn
  have hS := p2.tr q2
  refine Ev_jn1 (fun z => z = pI (askP n (c.2 32 0) a b)) (fun z hz => ?_) (fun kk hk => ?_)
  · by_cases h : askP n (c.2 32 0) a b
    · rw [pI_t h] at hz ⊢
      subst hz
      refine Ev_f (by decide) (Ev_nm (Ev_ckz (Or.inr rfl) (Ev_so ⟨rfl, (hS.mono (by decide)).sFL (by decide), ?_, fun _ => ?_, fun z => absurd h z⟩)))
      · rw [wFL_2, (hS 32 (by decide)).1]
      · rw [wFL_1, updL_s]; rfl
    · rw [pI_f h] at hz ⊢
      subst hz
      refine Ev_t rfl (Ev_nm (Ev_ckz (Or.inl rfl) (Ev_so ⟨rfl, (hS.mono (by decide)).sFL (by decide), ?_, fun z => absurd z h, fun _ => ?_⟩)))
      · rw [wFL_2, (hS 32 (by decide)).1]
      · rw [wFL_1, updL_s]; rfl
  · rw [p1, q1]
    refine Ev_i (fun e => ?_) (fun e => ?_)
    · rw [neqI (by omega) (by omega)] at e
      refine Ev_i (fun e2 => hk _ (pI_f ?_).symm) (fun e2 => hk _ (pI_t ?_).symm)
      · rw [nI_leI (by omega) (by omega)] at e2
        unfold askP; omega
      · rw [nI_leI (by omega) (by omega)] at e2
        unfold askP; omega
    · rw [neqI (by omega) (by omega)] at e
      refine Ev_i (fun e2 => hk _ (pI_f ?_).symm) (fun e2 => hk _ (pI_t ?_).symm)
      · rw [nI_leI (by omega) (by omega)] at e2
        unfold askP; omega
      · rw [nI_leI (by omega) (by omega)] at e2
        unfold askP; omega
theorem M_isLess {n k r a b : Nat} {f o : Nat → Nat} {m : Hp} (hn : n ≤ 6) (hM : NetM n k f o m) (hr : r < facN n) (ha : a < n) (hb : b < n) : f_X11_isLess m (nI r) (nI a) (nI b) = some (if rowT n r a < rowT n r b then 1 else 0) := by
  have hF := fac_le n (by omega)
  have hp := row_perm hn hr
  have h1 := hp.1 a ha
  have h2 := hp.1 b hb
  refine Ev_eq ?_
  unfold f_X11_isLess
  rw [show (6 : Int32) = nI 6 from rfl, nmul, nI_add, nI_add, clN (by omega), clN (by omega), hM.2.2.2.2 r hr a ha, hM.2.2.2.2 r hr b hb]
  refine Ev_ck rfl (by omega) (by omega) (Ev_ck rfl (by omega) (by omega) (Ev_i (fun e => Ev_ckz (Or.inl rfl) (Ev_so ?_)) (fun e => Ev_ckz (Or.inr rfl) (Ev_so ?_))))
  · rw [nI_leI (by omega) (by omega)] at e
    rw [if_neg (by omega)]
  · rw [nI_leI (by omega) (by omega)] at e
    rw [if_pos (by omega)]
theorem sub_add1 {p q : Nat} : nI p - nI q + 1 = nI (p + 1) - nI q := by
  rw [nI_succ]
  apply Int32.toBitVec_inj.mp
  rw [Int32.toBitVec_add, Int32.toBitVec_sub, Int32.toBitVec_sub, Int32.toBitVec_add]
  rw [BitVec.sub_eq_add_neg, BitVec.sub_eq_add_neg, BitVec.add_assoc, BitVec.add_comm (-(nI q).toBitVec), ← BitVec.add_assoc]
theorem sub_sub1 {p q : Nat} : nI p - nI q + (-1) = nI p - nI (q + 1) := by
  rw [nI_succ]
  apply Int32.toBitVec_inj.mp
  rw [Int32.toBitVec_add, Int32.toBitVec_sub, Int32.toBitVec_sub, Int32.toBitVec_add]
  have e : (-1 : Int32).toBitVec = -(1 : Int32).toBitVec := by decide
  rw [e, BitVec.sub_eq_add_neg, BitVec.sub_eq_add_neg, BitVec.neg_add, BitVec.sub_eq_add_neg, BitVec.add_assoc]
theorem sub_pos {p q : Nat} (hp : p < 2 ^ 20) (hq : q < 2 ^ 20) : (0 < nI p - nI q ↔ q < p) ∧ (nI p - nI q = 0 ↔ p = q) := by
  have h0 : (0 : Int32).toInt = 0 := by decide
  constructor
  · rw [Int32.lt_iff_toInt_lt, pk_sub_toInt (by omega) (by omega), h0]
    omega
  · rw [← Int32.toInt_inj, pk_sub_toInt (by omega) (by omega), h0]
    omega
theorem M_ask {n k a b : Nat} {f o : Nat → Nat} {c m : Hp} (hn : n ≤ 6) (hM : NetM n k f o m) (ha : a < n) (hb : b < n) (hab : a ≠ b) (hA : AdvR n c m) : Ev (f_X11_ask m (nI a) (nI b)) (fun r => r.1 = pI (askP n (c.2 32 0) a b) ∧ Sm [0, 14] m r.2 ∧ r.2.1 0 0 = 0 ∧ (∀ j, j ≠ 0 → r.2.1 0 j = m.1 0 j) ∧ ∀ r', r' < facN n → r.2.1 14 r' = pI (consN (c.2 32 0) n (rowT n r') = true ∧ (rowT n r' a < rowT n r' b ↔ askP n (c.2 32 0) a b))) := by
  have hF := fac_le n (by omega)
  generalize hz : c.2 32 0 = z at hA
  have hA2 : ∀ r, r < facN n → m.1 14 r = if consN z n (rowT n r) = true then 1 else 0 := by rw [← hz]; exact hA.2.1
  have l1 := ct_le720 (n := n) (z := lsB z a b) hn
  have l2 := ct_le720 (n := n) (z := lsB z b a) hn
  unfold f_X11_ask
  refine Ev_bde (M_isWire_t hM.1 hn ha) ?_
  refine Ev_jn1 (fun w => w = 0) (fun w hw => ?_) (fun j hj => Ev_jn0 False (fun h => h.elim) (fun j2 hj2 => Ev_f (by decide) (Ev_bde (M_isWire_t hM.1 hn hb) (Ev_f (by decide) (Ev_f (by rw [neqI (by omega) (by omega)]; exact hab) (hj 0 rfl))))))
  subst hw
  refine Ev_nm (Ev_t (by rw [wF_1, upd_s]; exact Int32.le_refl _) ?_)
  have hM1 := hM.t (x := 0)
  have g0 : (wF m 0 0 0).1 0 0 = 0 := by rw [wF_1, upd_s]
  have gj : ∀ j, j ≠ 0 → (wF m 0 0 0).1 0 j = m.1 0 j := fun j hj => by rw [wF_1, upd_n _ _ hj]
  have gS : Sm [0, 14] m (wF m 0 0 0) := Sm.rf.sF (by decide)
  have g14 : ∀ r, r < facN n → (wF m 0 0 0).1 14 r = if consN z n (rowT n r) = true then 1 else 0 := fun r hr => by rw [wF_n _ _ _ _ _ (by decide)]; exact hA2 r hr
  generalize wF m 0 0 0 = g at hM1 g0 gj gS g14
  have hmark : ∀ (q : Prop) (less : Int32) (k2 : Hp → Option (Int32 × Hp)) (P : Int32 × Hp → Prop), ((less = 1 ∧ q) ∨ (less = 0 ∧ ¬ q)) → (∀ h, Sm [14] g h → (∀ r, r < facN n → h.1 14 r = pI (consN z n (rowT n r) = true ∧ (rowT n r a < rowT n r b ↔ q))) → Ev (k2 h) P) → Ev (jn1 (fun k169 => fx2 (L_X11_ask_119 (nI a) (nI b) less k169) FU (0 : Int32) g) k2) P := by
    intro q less k2 P hq hk
    refine Ev_jn1 (fun h => Sm [14] g h ∧ ∀ r, r < facN n → h.1 14 r = pI (consN z n (rowT n r) = true ∧ (rowT n r a < rowT n r b ↔ q))) (fun h hh => hk h hh.1 hh.2) (fun kk hkk => ?_)
    refine Ev_fx2 (fun r a1 h => a1 = nI r ∧ Sm [14] g h ∧ (∀ r', r' < r → h.1 14 r' = pI (consN z n (rowT n r') = true ∧ (rowT n r' a < rowT n r' b ↔ q))) ∧ ∀ r', r ≤ r' → h.1 14 r' = g.1 14 r') (facN n) ?_ ?_ (FU_lt (by omega)) ⟨rfl, Sm.rf, fun r' hr' => absurd hr' (by omega), fun r' _ => rfl⟩
    · rintro self r a1 h hr ⟨rfl, hS, h1, h2⟩ hself
      have hN := Sm.nM hM1 hS (by decide) (by decide) (by decide) (by decide)
      unfold L_X11_ask_119
      rw [hN.2.2.2.1, clN (by omega), h2 r (Nat.le_refl r), g14 r hr]
      have hstep : ∀ x : Int32, (x = 0 ∨ x = 1) → x = (pI (consN z n (rowT n r) = true ∧ (rowT n r a < rowT n r b ↔ q))) → Ev (self (nI r + 1) (wZ h 14 (nI r) x)) P := fun x hx01 hx => hself _ _ ⟨nI_add r 1, hS.sZ (by decide), fun r' hr' => by
        have hnar : vp_nar .boolean x = x := by rcases hx01 with rfl | rfl <;> rfl
        rw [wZ_1, clN (by omega), hnar]
        by_cases e : r' = r
        · rw [e, upd_s, hx]
        · rw [upd_n _ _ e]; exact h1 r' (by omega), fun r' hr' => by
        rw [wZ_1, clN (by omega), upd_n _ _ (by omega)]; exact h2 r' (by omega)⟩
      refine Ev_f (nle_n hr (by omega)) (Ev_ck rfl (by omega) (by omega) ?_)
      cases e : consN z n (rowT n r) with
      | false =>
        refine Ev_t rfl (Ev_ck rfl (by omega) (by omega) (Ev_nm (hstep 0 (Or.inl rfl) ?_)))
        rw [pI_f (by rw [e]; simp)]
      | true =>
        refine Ev_f (by decide) (Ev_bde (M_isLess hn hN hr ha hb) ?_)
        have hcond : ((if rowT n r a < rowT n r b then (1 : Int32) else 0) = less) ↔ (rowT n r a < rowT n r b ↔ q) := by
          by_cases e2 : rowT n r a < rowT n r b
          · rw [if_pos e2]
            rcases hq with ⟨rfl, hq⟩ | ⟨rfl, hq⟩
            · exact ⟨fun _ => ⟨fun _ => hq, fun _ => e2⟩, fun _ => rfl⟩
            · exact ⟨fun z => absurd z (by decide), fun z => absurd (z.mp e2) hq⟩
          · rw [if_neg e2]
            rcases hq with ⟨rfl, hq⟩ | ⟨rfl, hq⟩
            · exact ⟨fun z => absurd z (by decide), fun z => absurd (z.mpr hq) e2⟩
            · exact ⟨fun _ => ⟨fun z => absurd z e2, fun z => absurd z hq⟩, fun _ => rfl⟩
        refine Ev_i (fun e3 => Ev_ck rfl (by omega) (by omega) (Ev_nm (hstep 1 (Or.inr rfl) ?_))) (fun e3 => Ev_ck rfl (by omega) (by omega) (Ev_nm (hstep 0 (Or.inl rfl) ?_)))
        · rw [pI_t ⟨e, hcond.mp e3⟩]
        · rw [pI_f (fun q => e3 (hcond.mpr q.2))]
    · rintro self a1 h ⟨rfl, hS, h1, h2⟩
      unfold L_X11_ask_119
      rw [(hS 0 (by decide)).1, hM1.2.2.2.1]
      exact Ev_t (Int32.le_refl _) (hkk _ ⟨hS, h1⟩)
  have hend : ∀ (less : Int32), ((less = 1 ∧ askP n z a b) ∨ (less = 0 ∧ ¬ askP n z a b)) → Ev (jn1 (fun k169 => fx2 (L_X11_ask_119 (nI a) (nI b) less k169) FU (0 : Int32) g) (fun h_6 => ckz less (some (less, h_6)))) (fun r => r.1 = pI (askP n z a b) ∧ Sm [0, 14] m r.2 ∧ r.2.1 0 0 = 0 ∧ (∀ j, j ≠ 0 → r.2.1 0 j = m.1 0 j) ∧ ∀ r', r' < facN n → r.2.1 14 r' = pI (consN z n (rowT n r') = true ∧ (rowT n r' a < rowT n r' b ↔ askP n z a b))) := by
    intro less hl
    refine hmark (askP n z a b) less _ _ hl (fun h h1 h2 => Ev_ckz ?_ (Ev_so ⟨?_, gS.tr (h1.mono (by decide)), by rw [(h1 0 (by decide)).1]; exact g0, fun j hj => by rw [(h1 0 (by decide)).1]; exact gj j hj, h2⟩))
    · rcases hl with ⟨rfl, _⟩ | ⟨rfl, _⟩
      · exact Or.inr rfl
      · exact Or.inl rfl
    · rcases hl with ⟨rfl, h⟩ | ⟨rfl, h⟩
      · exact (pI_t h).symm
      · exact (pI_f h).symm
  refine Ev_jn1 (fun y => y = nI (ctC n (lsB z a b)) - nI (ctC n (lsB z b a))) (fun y hy => ?_) (fun kk hk => ?_)
  · subst hy
    have hs := sub_pos (p := ctC n (lsB z a b)) (q := ctC n (lsB z b a)) (by omega) (by omega)
    refine Ev_jn0 (askP n z a b) (fun h => hend 1 (Or.inl ⟨rfl, h⟩)) (fun k109 h109 => Ev_i (fun e => h109 (Or.inl (hs.1.mp e))) (fun e => Ev_i (fun e2 => Ev_i (fun e3 => hend 0 (Or.inr ⟨rfl, ?_⟩)) (fun e3 => h109 (Or.inr ⟨hs.2.mp e2, ?_⟩))) (fun e2 => hend 0 (Or.inr ⟨rfl, ?_⟩))))
    · rw [nI_leI (by omega) (by omega)] at e3
      rw [hs.1] at e
      unfold askP; omega
    · rw [nI_leI (by omega) (by omega)] at e3
      omega
    · rw [hs.1] at e
      rw [hs.2] at e2
      unfold askP; omega
  · refine Ev_fx2 (fun r a1 a2 => a2 = nI r ∧ a1 = nI (ctB (fun r => consN (lsB z a b) n (rowT n r)) r) - nI (ctB (fun r => consN (lsB z b a) n (rowT n r)) r)) (facN n) ?_ ?_ (FU_lt (by omega)) ⟨rfl, by show (0 : Int32) = nI 0 - nI 0; decide⟩
    · rintro self r a1 a2 hr ⟨rfl, rfl⟩ hself
      have hp := row_perm hn hr
      have hne : rowT n r a ≠ rowT n r b := fun e => hab (hp.2 a b ha hb e)
      have e1 := ls_cons (z := z) (v := rowT n r) hn ha hb
      have e2 := ls_cons (z := z) (v := rowT n r) hn hb ha
      unfold L_X11_ask_48
      rw [hM1.2.2.2.1, clN (by omega), g14 r hr]
      refine Ev_f (nle_n hr (by omega)) (Ev_ck rfl (by omega) (by omega) ?_)
      cases e : consN z n (rowT n r) with
      | false =>
        rw [e, Bool.false_and] at e1 e2
        refine Ev_t rfl (Ev_nm (hself _ _ ⟨nI_add r 1, ?_⟩))
        rw [ct_s0 (p := fun r => consN (lsB z a b) n (rowT n r)) (by rw [e1]; decide), ct_s0 (p := fun r => consN (lsB z b a) n (rowT n r)) (by rw [e2]; decide)]
        exact Int32.add_zero _
      | true =>
        rw [e, Bool.true_and] at e1 e2
        refine Ev_f (by decide) (Ev_bde (M_isLess hn hM1 hr ha hb) ?_)
        by_cases h2 : rowT n r a < rowT n r b
        · rw [decide_eq_true h2] at e1
          rw [decide_eq_false (by omega)] at e2
          rw [if_pos h2]
          refine Ev_f (by decide) (Ev_nm (hself _ _ ⟨nI_add r 1, ?_⟩))
          rw [ct_s1 (p := fun r => consN (lsB z a b) n (rowT n r)) e1, ct_s0 (p := fun r => consN (lsB z b a) n (rowT n r)) (by rw [e2]; decide)]
          exact sub_add1
        · rw [decide_eq_false h2] at e1
          rw [decide_eq_true (by omega)] at e2
          rw [if_neg h2]
          refine Ev_t rfl (Ev_nm (hself _ _ ⟨nI_add r 1, ?_⟩))
          rw [ct_s0 (p := fun r => consN (lsB z a b) n (rowT n r)) (by rw [e1]; decide), ct_s1 (p := fun r => consN (lsB z b a) n (rowT n r)) e2]
          exact sub_sub1
    · rintro self a1 a2 ⟨rfl, rfl⟩
      unfold L_X11_ask_48
      rw [hM1.2.2.2.1]
      exact Ev_t (Int32.le_refl _) (hk _ rfl)
theorem AdvR.asked {n a b : Nat} {c m c1 m1 : Hp} (hn : n ≤ 6) (ha : a < n) (hb : b < n) (hab : a ≠ b) (hA : AdvR n c m) (h1 : askP n (c.2 32 0) a b → c1.2 32 0 = lsB (c.2 32 0) a b) (h2 : ¬ askP n (c.2 32 0) a b → c1.2 32 0 = lsB (c.2 32 0) b a) (h3 : ∀ r', r' < facN n → m1.1 14 r' = pI (consN (c.2 32 0) n (rowT n r') = true ∧ (rowT n r' a < rowT n r' b ↔ askP n (c.2 32 0) a b))) : AdvR n c1 m1 := by
  obtain ⟨a1, a2, a3⟩ := hA
  have hsum := ct_split2 (z := c.2 32 0) hn ha hb hab
  have hpos : 0 < ctC n (c.2 32 0) := ct_some a3
  by_cases h : askP n (c.2 32 0) a b
  · rw [AdvR, h1 h]
    refine ⟨ls_ok hn ha hb a1, fun r hr => ?_, ct_pos (p := fun r => consN (lsB (c.2 32 0) a b) n (rowT n r)) (N := facN n) ?_⟩
    · rw [h3 r hr, ls_cons hn ha hb]
      cases consN (c.2 32 0) n (rowT n r) with
      | false => rw [pI_f (by simp)]; simp
      | true =>
        by_cases e : rowT n r a < rowT n r b
        · rw [pI_t ⟨rfl, ⟨fun _ => h, fun _ => e⟩⟩, decide_eq_true e]; rfl
        · rw [pI_f (fun q => e (q.2.mpr h)), decide_eq_false e]; rfl
    · have : 0 < ctC n (lsB (c.2 32 0) a b) := by unfold askP at h; omega
      exact this
  · rw [AdvR, h2 h]
    refine ⟨ls_ok hn hb ha a1, fun r hr => ?_, ct_pos (p := fun r => consN (lsB (c.2 32 0) b a) n (rowT n r)) (N := facN n) ?_⟩
    · have hp := row_perm hn hr
      have hne : rowT n r a ≠ rowT n r b := fun e => hab (hp.2 a b ha hb e)
      rw [h3 r hr, ls_cons hn hb ha]
      cases consN (c.2 32 0) n (rowT n r) with
      | false => rw [pI_f (by simp)]; simp
      | true =>
        by_cases e : rowT n r a < rowT n r b
        · rw [pI_f (fun q => h (q.2.mp e)), decide_eq_false (by omega)]; rfl
        · rw [pI_t ⟨rfl, ⟨fun z => absurd z e, fun z => absurd z h⟩⟩, decide_eq_true (by omega)]; rfl
    · have : 0 < ctC n (lsB (c.2 32 0) b a) := by unfold askP at h; omega
      exact this
theorem M_askX {n k : Nat} {f o : Nat → Nat} {m : Hp} {x y : Int32} (hM : NetM n k f o m) (h0 : 0 < n) (hn : n ≤ 6) (h : badI n x ∨ badI n y ∨ x = y) : f_X11_ask m x y = some (0, wF m 0 0 (if badI n x ∨ badI n y then 1 else 2)) := by
  refine Ev_eq ?_
  unfold f_X11_ask
  generalize hw : (if badI n x ∨ badI n y then (1 : Int32) else 2) = w
  have hwp : ¬ w ≤ 0 := by
    subst hw
    split <;> decide
  by_cases h1 : badI n x
  · refine Ev_bde (M_isWire_f hM.1 h0 hn h1) ?_
    rw [if_pos (Or.inl h1)] at hw
    refine Ev_jn1 (fun z => z = 1) (fun z hz => ?_) (fun j hj => Ev_jn0 True (fun _ => hj 1 rfl) (fun j2 hj2 => Ev_t rfl (hj2 trivial)))
    subst hz; subst hw
    exact Ev_nm (Ev_f (by rw [wF_1, upd_s]; exact hwp) (Ev_ckz (Or.inl rfl) (Ev_so rfl)))
  · obtain ⟨a, ha, rfl⟩ := (wire_or (n := n) (by omega) x).resolve_left h1
    refine Ev_bde (M_isWire_t hM.1 hn ha) ?_
    refine Ev_jn1 (fun z => z = w) (fun z hz => ?_) (fun j hj => ?_)
    · subst hz
      exact Ev_nm (Ev_f (by rw [wF_1, upd_s]; exact hwp) (Ev_ckz (Or.inl rfl) (Ev_so rfl)))
    · by_cases h2 : badI n y
      · rw [if_pos (Or.inr h2)] at hw
        exact Ev_jn0 True (fun _ => hj 1 hw) (fun j2 hj2 => Ev_f (by decide) (Ev_bde (M_isWire_f hM.1 h0 hn h2) (Ev_t rfl (hj2 trivial))))
      · obtain ⟨b, hb, rfl⟩ := (wire_or (n := n) (by omega) y).resolve_left h2
        rw [if_neg (fun q => q.elim h1 h2)] at hw
        have e := (h.resolve_left h1).resolve_left h2
        refine Ev_jn0 False (fun h => h.elim) (fun j2 hj2 => Ev_f (by decide) (Ev_bde (M_isWire_t hM.1 hn hb) (Ev_f (by decide) (Ev_t e (hj 2 hw)))))
theorem pc_37 {L : Nat} {xs : Nat → Int32} {i : Int32} {s : LWS} {kont : LWS → Option Unit} (hI : Inv s) (hi : OKi L i) (hk : ∀ s1, Inv s1 → kont s1 = some ()) : lc_37 L xs i s kont = some () := by
  obtain ⟨c, m, out⟩ := s
  have hI0 := hI
  obtain ⟨n, k, f, o, hG, hC, hM, hT, hB, hS, hSt, hA⟩ := hI
  generalize hx : xs (i + 1).toNatClampNeg = x
  generalize hy : xs (i + 2).toNatClampNeg = y
  have hn := hG.2.1
  have hn2 := hG.1
  by_cases hb : badI n x ∨ badI n y ∨ x = y
  · have h2 := M_askX hM (by omega) hn hb
    have h3 : f_X10_ask c x y = some (.inl (if badI n x ∨ badI n y then "java/lang/IndexOutOfBoundsException" else "java/lang/IllegalArgumentException", c)) := by
      unfold f_X10_ask
      by_cases h1 : badI n x ∨ badI n y
      · rw [bdx_l ((C_two hC.1 hn).trans (by rw [if_pos h1])), if_pos h1]
      · have e : x = y := by
          rcases hb with h | h | h
          · exact absurd (Or.inl h) h1
          · exact absurd (Or.inr h) h1
          · exact h
        rw [bdx_l ((C_two hC.1 hn).trans (by rw [if_neg h1, if_pos e])), if_neg h1]
    by_cases h1 : badI n x ∨ badI n y
    · simp only [h1, if_true] at h2 h3
      simp [lc_37, fh_ask, hx, hy, h2, h3, hcatch, bd, nm, setM, setC, setO, f_X11_thrown, jn0, wF_1, upd_s, (hi _).1, (hi _).2.1]
      exact hk _ hI0.thrown
    · simp only [h1, if_false] at h2 h3
      simp [lc_37, fh_ask, hx, hy, h2, h3, hcatch, bd, nm, setM, setC, setO, f_X11_thrown, jn0, wF_1, upd_s, (hi _).1, (hi _).2.1]
      exact hk _ hI0.thrown
  · have hbx : ¬ badI n x := fun h => hb (Or.inl h)
    have hby : ¬ badI n y := fun h => hb (Or.inr (Or.inl h))
    obtain ⟨a, ha, rfl⟩ := (wire_or (n := n) (by omega) x).resolve_left hbx
    obtain ⟨b, hb2, rfl⟩ := (wire_or (n := n) (by omega) y).resolve_left hby
    have hab : a ≠ b := fun e => hb (Or.inr (Or.inr (by rw [e])))
    obtain ⟨r1, h1, a1, a2, a3, a4, a5⟩ := C_answer hn ha hb2 hA.1
    have h3 : f_X10_ask c (nI a) (nI b) = some (.inr (r1.1, r1.2)) := by
      refine Ev_eq ?_
      unfold f_X10_ask
      rw [bdx_r ((C_two hC.1 hn).trans (by rw [if_neg (fun q => q.elim hbx hby), if_neg (fun e => hb (Or.inr (Or.inr e)))]))]
      rw [hC.1]
      exact Ev_bde h1 (Ev_ckz (by rw [a1]; exact pI_01 _) (Ev_so rfl))
    obtain ⟨r2, h2, b1, b2, b3, b4, b5⟩ := M_ask hn hM ha hb2 hab hA
    have hInv : ∀ out1, Inv (r1.2, r2.2, out1) := fun out1 => by
      have ec : ∀ q, q ∉ [32, 34] → r1.2.1 q = c.1 q := fun q hq => (a2 q hq).1
      have em : ∀ q, q ∉ [0, 14] → r2.2.1 q = m.1 q := fun q hq => (b2 q hq).1
      refine ⟨n, k, f, o, hG, Sm.nC hC a2 (by decide) (by decide) (by decide), hM.keep (b4 1 (by decide)) (b4 2 (by decide)) (b4 7 (by decide)) (em 1 (by decide)) (em 2 (by decide)) (em 4 (by decide)), hT.keep (by rw [ec 11 (by decide)]) (ec 12 (by decide)) (b4 11 (by decide)) (em 8 (by decide)), ?_, ?_, hSt.keep (ec 29 (by decide)), AdvR.asked hn ha hb2 hab hA a4 a5 b5⟩
      · obtain ⟨t, v, h1, h2, h3, h4, h5, h6, h7⟩ := hB
        refine ⟨t, v, h1, h2, h3, ?_, (b4 14 (by decide)).trans h5, fun x hx => ?_, fun i hi => ?_⟩
        · show r1.2.1 23 4 = _
          rw [ec 23 (by decide)]; exact h4
        · show r1.2.1 24 x = _ ∧ r1.2.1 25 x = _ ∧ r2.2.1 10 x = _
          rw [ec 24 (by decide), ec 25 (by decide), em 10 (by decide)]; exact h6 x hx
        · show r1.2.1 27 i = _ ∧ r2.2.1 9 i = r1.2.1 27 i
          rw [ec 27 (by decide), em 9 (by decide)]; exact h7 i hi
      · rcases hS with q | ⟨q1, q2⟩
        · exact Or.inl (by show r1.2.1 20 2 = 0; rw [ec 20 (by decide)]; exact q)
        · refine Or.inr ⟨by show r1.2.1 20 2 = _; rw [ec 20 (by decide)]; exact q1, fun v hv => ?_⟩
          show ∃ l, l ≤ k + 1 ∧ r1.2.1 22 _ = _ ∧ _
          rw [ec 22 (by decide)]
          exact q2 v hv
    rcases pI_01 (askP n (c.2 32 0) a b) with e | e
    · rw [e] at a1 b1
      simp [lc_37, fh_ask, hx, hy, h3, h2, a1, b1, b3, hcatch, bd, nm, setM, setC, setO, f_X11_thrown, jn0, jn1, (hi _).1, (hi _).2.1, updL_s, lgc]
      exact hk _ (hInv _)
    · rw [e] at a1 b1
      simp [lc_37, fh_ask, hx, hy, h3, h2, a1, b1, b3, hcatch, bd, nm, setM, setC, setO, f_X11_thrown, jn0, jn1, (hi _).1, (hi _).2.1, updL_s, lgc]
      exact hk _ (hInv _)
