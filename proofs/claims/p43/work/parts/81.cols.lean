/-! COLUMNS of the class: rows of bits run through the comparators all at once -/
def bR (r : Nat) : Nat → Bool := fun x => r.testBit x
def ColsN (q n : Nat) (h : Hp) (V : Nat → Nat → Bool) : Prop := ∀ x, x < n → ColN n (h.2 q x) (fun r => V r x)
theorem s_allRows {n : Nat} (hn : n ≤ 6) : Ev (f_X4_allRows (nI n)) (fun z => ∀ r, r < 64 → bt64 z r = decide (r < 2 ^ n)) := by
  unfold f_X4_allRows
  by_cases h : n < 6
  · exact Ev_t (nI_lt (b := 6) h (by omega)) (Ev_so (allR_bit n h))
  · refine Ev_f (nI_nlt (b := 6) (by omega) (by omega)) (Ev_so (fun r hr => ?_))
    have e : n = 6 := by omega
    subst e
    rw [bt_m1 hr]
    exact (decide_eq_true hr).symm
theorem s_bringIn_14 {n : Nat} {h : Hp} (hn : n ≤ 6) : Ev (f_X4_bringIn_14 h (nI n)) (fun h1 => Sm [14] h h1 ∧ h1.1 = h.1 ∧ ColsN 14 n h1 bR) := by
  unfold f_X4_bringIn_14
  refine Ev_jn1 (fun h1 => Sm [14] h h1 ∧ h1.1 = h.1 ∧ ColsN 14 n h1 bR) (fun h1 hh => Ev_so hh) (fun kk hk => ?_)
  refine Ev_fx2 (fun j a1 a2 => a1 = nI j ∧ Sm [14] h a2 ∧ a2.1 = h.1 ∧ ∀ x, x < j → ColN n (a2.2 14 x) (fun r => bR r x)) n ?_ ?_ (FU_lt (by omega)) ⟨rfl, Sm.rf, rfl, fun x hx => absurd hx (by omega)⟩
  · rintro self j a1 a2 hj ⟨rfl, hS, h1, hZ⟩ hself
    unfold L_X4_bringIn_14_2
    refine Ev_f (nle_n hj (by omega)) (Ev_ck rfl (by omega) (by omega) (Ev_bd _ (s_allRows hn) (fun z hz => Ev_ck rfl (by omega) (by omega) (Ev_nm (hself _ _ ⟨nI_add j 1, hS.sL (by decide), h1, fun x hx r hr => ?_⟩)))))
    rw [wLg_1, clN (by omega)]
    by_cases e : x = j
    · subst e
      rw [updL_s, bt_and, fINP_bit x (by omega) r hr, hz r hr, Bool.and_comm]
      rfl
    · rw [updL_n _ _ e]; exact hZ x (by omega) r hr
  · rintro self a1 a2 ⟨rfl, hS, h1, hZ⟩
    unfold L_X4_bringIn_14_2
    exact Ev_t (le_n (by omega) (by omega)) (hk _ ⟨hS, h1, hZ⟩)
theorem s_compare_14 {n a b : Nat} {h : Hp} {V : Nat → Nat → Bool} (hn : n ≤ 6) (ha : a < n) (hb : b < n) (hab : a ≠ b) (hV : ColsN 14 n h V) : Ev (f_X4_compare_14 h (nI a) (nI b)) (fun h1 => Sm [14] h h1 ∧ h1.1 = h.1 ∧ ColsN 14 n h1 (fun r => cmpB a b (V r))) := by
  unfold f_X4_compare_14
  refine Ev_ck rfl (by omega) (by omega) (Ev_ck rfl (by omega) (by omega) (Ev_ck rfl (by omega) (by omega) (Ev_nm (Ev_ck rfl (by omega) (by omega) (Ev_nm (Ev_so ⟨(Sm.rf.sL (by decide)).sL (by decide), rfl, fun x hx r hr => ?_⟩))))))
  rw [wLg_1, wLg_1, clN (by omega), clN (by omega)]
  by_cases e : x = b
  · subst e
    rw [updL_s, bt_or, hV a ha r hr, hV x hb r hr]
    unfold cmpB
    dsimp only
    rw [if_neg (fun z => hab z.symm), if_pos rfl, Bool.and_or_distrib_left]
  · rw [updL_n _ _ e]
    by_cases e2 : x = a
    · subst e2
      rw [updL_s, bt_and, hV x ha r hr, hV b hb r hr]
      unfold cmpB
      dsimp only
      rw [if_pos rfl]
      cases decide (r < 2 ^ n) <;> simp
    · rw [updL_n _ _ e2, hV x hx r hr]
      unfold cmpB
      dsimp only
      rw [if_neg e2, if_neg e]
theorem s_send_14 {n k j sp md : Nat} {f o : Nat → Nat} {h : Hp} (hG : Good n k f o) (hC : NetC n k f o h) (hj : j ≤ k) (hsp : j ≤ sp) : Ev (f_X4_send_14_1 h (nI j)) (fun h1 => Sm [14] h h1 ∧ h1.1 = h.1 ∧ ColsN 14 n h1 (fun r => netB f o sp md j (bR r))) := by
  have hn := hG.2.1
  have hk24 := hG.2.2.1
  unfold f_X4_send_14_1
  rw [hC.1]
  refine Ev_bd _ (s_bringIn_14 hn) (fun h0 ⟨hS0, h10, hV0⟩ => ?_)
  refine Ev_jn1 (fun h1 => Sm [14] h h1 ∧ h1.1 = h.1 ∧ ColsN 14 n h1 (fun r => netB f o sp md j (bR r))) (fun h1 hh => Ev_so hh) (fun kk hk => ?_)
  refine Ev_fx2 (fun i a1 a2 => a1 = nI i ∧ Sm [14] h a2 ∧ a2.1 = h.1 ∧ ColsN 14 n a2 (fun r => netB f o sp md i (bR r))) j ?_ ?_ (FU_lt (by omega)) ⟨rfl, hS0, h10, hV0⟩
  · rintro self i a1 a2 hi ⟨rfl, hS, h1, hV⟩ hself
    unfold L_X4_send_14_1_10
    obtain ⟨g1, g2, g3⟩ := hG.2.2.2 i (by omega)
    refine Ev_f (nle_n hi (by omega)) (Ev_ck rfl (by omega) (by omega) (Ev_ck rfl (by omega) (by omega) ?_))
    rw [h1, clN (by omega), (hC.2.2 i (by omega)).1, (hC.2.2 i (by omega)).2]
    refine Ev_bd _ (s_compare_14 hn g1 g2 g3 hV) (fun h2 ⟨b1, b2, b3⟩ => hself _ _ ⟨nI_add i 1, hS.tr b1, b2.trans h1, fun x hx => ?_⟩)
    have e : ∀ r, netB f o sp md (i + 1) (bR r) = cmpB (f i) (o i) (netB f o sp md i (bR r)) := fun r => by
      show (if i = sp then _ else _) = _
      rw [if_neg (by omega)]
    intro r hr
    have := b3 x hx r hr
    simp only [e]
    exact this
  · rintro self a1 a2 ⟨rfl, hS, h1, hV⟩
    unfold L_X4_send_14_1_10
    exact Ev_t (le_n (by omega) (by omega)) (hk _ ⟨hS, h1, hV⟩)
theorem s_bringIn_15 {n : Nat} {h : Hp} (hn : n ≤ 6) : Ev (f_X4_bringIn_15 h (nI n)) (fun h1 => Sm [15] h h1 ∧ h1.1 = h.1 ∧ ColsN 15 n h1 bR) := by
  unfold f_X4_bringIn_15
  refine Ev_jn1 (fun h1 => Sm [15] h h1 ∧ h1.1 = h.1 ∧ ColsN 15 n h1 bR) (fun h1 hh => Ev_so hh) (fun kk hk => ?_)
  refine Ev_fx2 (fun j a1 a2 => a1 = nI j ∧ Sm [15] h a2 ∧ a2.1 = h.1 ∧ ∀ x, x < j → ColN n (a2.2 15 x) (fun r => bR r x)) n ?_ ?_ (FU_lt (by omega)) ⟨rfl, Sm.rf, rfl, fun x hx => absurd hx (by omega)⟩
  · rintro self j a1 a2 hj ⟨rfl, hS, h1, hZ⟩ hself
    unfold L_X4_bringIn_15_2
    refine Ev_f (nle_n hj (by omega)) (Ev_ck rfl (by omega) (by omega) (Ev_bd _ (s_allRows hn) (fun z hz => Ev_ck rfl (by omega) (by omega) (Ev_nm (hself _ _ ⟨nI_add j 1, hS.sL (by decide), h1, fun x hx r hr => ?_⟩)))))
    rw [wLg_1, clN (by omega)]
    by_cases e : x = j
    · subst e
      rw [updL_s, bt_and, fINP_bit x (by omega) r hr, hz r hr, Bool.and_comm]
      rfl
    · rw [updL_n _ _ e]; exact hZ x (by omega) r hr
  · rintro self a1 a2 ⟨rfl, hS, h1, hZ⟩
    unfold L_X4_bringIn_15_2
    exact Ev_t (le_n (by omega) (by omega)) (hk _ ⟨hS, h1, hZ⟩)
theorem s_compare_15 {n a b : Nat} {h : Hp} {V : Nat → Nat → Bool} (hn : n ≤ 6) (ha : a < n) (hb : b < n) (hab : a ≠ b) (hV : ColsN 15 n h V) : Ev (f_X4_compare_15 h (nI a) (nI b)) (fun h1 => Sm [15] h h1 ∧ h1.1 = h.1 ∧ ColsN 15 n h1 (fun r => cmpB a b (V r))) := by
  unfold f_X4_compare_15
  refine Ev_ck rfl (by omega) (by omega) (Ev_ck rfl (by omega) (by omega) (Ev_ck rfl (by omega) (by omega) (Ev_nm (Ev_ck rfl (by omega) (by omega) (Ev_nm (Ev_so ⟨(Sm.rf.sL (by decide)).sL (by decide), rfl, fun x hx r hr => ?_⟩))))))
  rw [wLg_1, wLg_1, clN (by omega), clN (by omega)]
  by_cases e : x = b
  · subst e
    rw [updL_s, bt_or, hV a ha r hr, hV x hb r hr]
    unfold cmpB
    dsimp only
    rw [if_neg (fun z => hab z.symm), if_pos rfl, Bool.and_or_distrib_left]
  · rw [updL_n _ _ e]
    by_cases e2 : x = a
    · subst e2
      rw [updL_s, bt_and, hV x ha r hr, hV b hb r hr]
      unfold cmpB
      dsimp only
      rw [if_pos rfl]
      cases decide (r < 2 ^ n) <;> simp
    · rw [updL_n _ _ e2, hV x hx r hr]
      unfold cmpB
      dsimp only
      rw [if_neg e2, if_neg e]
theorem s_send_15 {n k j sp md : Nat} {f o : Nat → Nat} {h : Hp} (hG : Good n k f o) (hC : NetC n k f o h) (hj : j ≤ k) (hsp : j ≤ sp) : Ev (f_X4_send_15_1 h (nI j)) (fun h1 => Sm [15] h h1 ∧ h1.1 = h.1 ∧ ColsN 15 n h1 (fun r => netB f o sp md j (bR r))) := by
  have hn := hG.2.1
  have hk24 := hG.2.2.1
  unfold f_X4_send_15_1
  rw [hC.1]
  refine Ev_bd _ (s_bringIn_15 hn) (fun h0 ⟨hS0, h10, hV0⟩ => ?_)
  refine Ev_jn1 (fun h1 => Sm [15] h h1 ∧ h1.1 = h.1 ∧ ColsN 15 n h1 (fun r => netB f o sp md j (bR r))) (fun h1 hh => Ev_so hh) (fun kk hk => ?_)
  refine Ev_fx2 (fun i a1 a2 => a1 = nI i ∧ Sm [15] h a2 ∧ a2.1 = h.1 ∧ ColsN 15 n a2 (fun r => netB f o sp md i (bR r))) j ?_ ?_ (FU_lt (by omega)) ⟨rfl, hS0, h10, hV0⟩
  · rintro self i a1 a2 hi ⟨rfl, hS, h1, hV⟩ hself
    unfold L_X4_send_15_1_10
    obtain ⟨g1, g2, g3⟩ := hG.2.2.2 i (by omega)
    refine Ev_f (nle_n hi (by omega)) (Ev_ck rfl (by omega) (by omega) (Ev_ck rfl (by omega) (by omega) ?_))
    rw [h1, clN (by omega), (hC.2.2 i (by omega)).1, (hC.2.2 i (by omega)).2]
    refine Ev_bd _ (s_compare_15 hn g1 g2 g3 hV) (fun h2 ⟨b1, b2, b3⟩ => hself _ _ ⟨nI_add i 1, hS.tr b1, b2.trans h1, fun x hx => ?_⟩)
    have e : ∀ r, netB f o sp md (i + 1) (bR r) = cmpB (f i) (o i) (netB f o sp md i (bR r)) := fun r => by
      show (if i = sp then _ else _) = _
      rw [if_neg (by omega)]
    intro r hr
    have := b3 x hx r hr
    simp only [e]
    exact this
  · rintro self a1 a2 ⟨rfl, hS, h1, hV⟩
    unfold L_X4_send_15_1_10
    exact Ev_t (le_n (by omega) (by omega)) (hk _ ⟨hS, h1, hV⟩)
theorem s_unsortedIn_14 {n : Nat} {h : Hp} {V : Nat → Nat → Bool} (hn : n ≤ 6) (hn2 : 2 ≤ n) (hV : ColsN 14 n h V) : Ev (f_X4_unsortedIn_14 h (nI n)) (fun z => ColN n z (fun r => unsB n (V r))) := by
  unfold f_X4_unsortedIn_14
  refine Ev_jn1 (fun z => ColN n z (fun r => unsB n (V r))) (fun z hz => Ev_so hz) (fun kk hk => ?_)
  refine Ev_fx2 (fun j a1 a2 => a2 = nI j ∧ ColN n a1 (fun r => (List.range j).any (fun x => V r x && !V r (x + 1)))) (n - 1) ?_ ?_ (FU_lt (by omega)) ⟨rfl, fun r hr => by rw [bt_0]; simp⟩
  · rintro self j a1 a2 hj ⟨rfl, hZ⟩ hself
    unfold L_X4_unsortedIn_14_5
    rw [n1, nI_add]
    refine Ev_f (nle_n (by omega) (by omega)) (Ev_ck rfl (by omega) (by omega) (Ev_ck rfl (by omega) (by omega) (Ev_nm (hself _ _ ⟨rfl, fun r hr => ?_⟩))))
    rw [clN (by omega), clN (by omega), bt_or, bt_and, bt_not _ hr, hZ r hr, hV j (by omega) r hr, hV (j + 1) (by omega) r hr]
    dsimp only
    rw [List.range_succ, List.any_append]
    cases decide (r < 2 ^ n) <;> simp
  · rintro self a1 a2 ⟨rfl, hZ⟩
    unfold L_X4_unsortedIn_14_5
    rw [n1, nI_add]
    exact Ev_t (le_n (by omega) (by omega)) (hk _ hZ)
theorem s_compareBadly {n a b md : Nat} {h : Hp} {V : Nat → Nat → Bool} (hn : n ≤ 6) (hmd : md ≤ 2) (ha : a < n) (hb : b < n) (hab : a ≠ b) (hV : ColsN 14 n h V) : Ev (f_X4_compareBadly_14 h (nI a) (nI b) (nI md)) (fun h1 => Sm [14] h h1 ∧ h1.1 = h.1 ∧ ColsN 14 n h1 (fun r => badB md a b (V r))) := by
  unfold f_X4_compareBadly_14
  refine Ev_ck rfl (by omega) (by omega) (Ev_ck rfl (by omega) (by omega) (Ev_i (fun h1 => ?_) (fun h1 => Ev_i (fun h2 => ?_) (fun h2 => ?_))))
  · have e1 : md = 1 := (neqI (b := 1) (by omega) (by omega)).mp h1
    refine Ev_ck rfl (by omega) (by omega) (Ev_nm (Ev_ck rfl (by omega) (by omega) (Ev_nm (Ev_so ⟨(Sm.rf.sL (by decide)).sL (by decide), rfl, fun x hx r hr => ?_⟩))))
    rw [wLg_1, wLg_1, clN (by omega), clN (by omega)]
    unfold badB
    dsimp only
    rw [if_pos e1]
    by_cases e : x = b
    · subst e
      rw [updL_s, hV a ha r hr, if_neg (fun z => hab z.symm), if_pos rfl]
    · rw [updL_n _ _ e]
      by_cases e2 : x = a
      · subst e2
        rw [updL_s, hV b hb r hr, if_pos rfl]
      · rw [updL_n _ _ e2, hV x hx r hr, if_neg e2, if_neg e]
  · have e1 : md = 2 := (neqI (b := 2) (by omega) (by omega)).mp h2
    refine Ev_ck rfl (by omega) (by omega) (Ev_nm (Ev_ck rfl (by omega) (by omega) (Ev_nm (Ev_so ⟨(Sm.rf.sL (by decide)).sL (by decide), rfl, fun x hx r hr => ?_⟩))))
    rw [wLg_1, wLg_1, clN (by omega), clN (by omega)]
    unfold badB
    dsimp only
    rw [if_neg (by omega), if_pos e1]
    by_cases e : x = b
    · subst e
      rw [updL_s, bt_and, hV a ha r hr, hV x hb r hr, if_neg (fun z => hab z.symm), if_pos rfl]
      cases decide (r < 2 ^ n) <;> simp
    · rw [updL_n _ _ e]
      by_cases e2 : x = a
      · subst e2
        rw [updL_s, bt_or, hV x ha r hr, hV b hb r hr, if_pos rfl, Bool.and_or_distrib_left]
      · rw [updL_n _ _ e2, hV x hx r hr, if_neg e2, if_neg e]
  · have e1 : ¬ md = 1 := fun e => h1 (by rw [e]; rfl)
    have e2 : ¬ md = 2 := fun e => h2 (by rw [e]; rfl)
    refine Ev_so ⟨Sm.rf, rfl, fun x hx r hr => ?_⟩
    unfold badB
    dsimp only
    rw [if_neg e1, if_neg e2]
    exact hV x hx r hr
theorem s_sendWith {n k sp md : Nat} {f o : Nat → Nat} {h : Hp} (hG : Good n k f o) (hC : NetC n k f o h) (hsp : sp < k) (hmd : md ≤ 2) : Ev (f_X4_sendWith_14_1 h (nI sp) (nI md)) (fun h1 => Sm [14] h h1 ∧ h1.1 = h.1 ∧ ColsN 14 n h1 (fun r => netB f o sp md k (bR r))) := by
  have hn := hG.2.1
  have hk24 := hG.2.2.1
  unfold f_X4_sendWith_14_1
  refine Ev_bd _ (s_send_14 (sp := sp) (md := md) hG hC (by omega) (Nat.le_refl sp)) (fun h0 ⟨hS0, h10, hV0⟩ => ?_)
  obtain ⟨g1, g2, g3⟩ := hG.2.2.2 sp hsp
  refine Ev_ck rfl (by omega) (by omega) (Ev_ck rfl (by omega) (by omega) ?_)
  rw [h10, clN (by omega), (hC.2.2 sp hsp).1, (hC.2.2 sp hsp).2]
  refine Ev_bd _ (s_compareBadly hn hmd g1 g2 g3 hV0) (fun h1 ⟨hS1, h11, hV1⟩ => Ev_nm ?_)
  refine Ev_jn1 (fun h1 => Sm [14] h h1 ∧ h1.1 = h.1 ∧ ColsN 14 n h1 (fun r => netB f o sp md k (bR r))) (fun h1 hh => Ev_so hh) (fun kk hk => ?_)
  rw [n1, nI_add]
  refine Ev_fx2 (fun i a1 a2 => a1 = nI (sp + 1 + i) ∧ Sm [14] h a2 ∧ a2.1 = h.1 ∧ ColsN 14 n a2 (fun r => netB f o sp md (sp + 1 + i) (bR r))) (k - (sp + 1)) ?_ ?_ (FU_lt (by omega)) ⟨rfl, hS0.tr hS1, h11.trans h10, ?_⟩
  · rintro self i a1 a2 hi ⟨rfl, hS, h1, hV⟩ hself
    unfold L_X4_sendWith_14_1_28
    obtain ⟨g1, g2, g3⟩ := hG.2.2.2 (sp + 1 + i) (by omega)
    rw [h1, hC.2.1]
    refine Ev_f (nle_n (by omega) (by omega)) (Ev_ck rfl (by omega) (by omega) (Ev_ck rfl (by omega) (by omega) ?_))
    rw [clN (by omega), (hC.2.2 _ (by omega)).1, (hC.2.2 _ (by omega)).2]
    refine Ev_bd _ (s_compare_14 hn g1 g2 g3 hV) (fun h2 ⟨b1, b2, b3⟩ => hself _ _ ⟨nI_add (sp + 1 + i) 1, hS.tr b1, b2.trans h1, fun x hx => ?_⟩)
    have e : ∀ r, netB f o sp md (sp + 1 + (i + 1)) (bR r) = cmpB (f (sp + 1 + i)) (o (sp + 1 + i)) (netB f o sp md (sp + 1 + i) (bR r)) := fun r => by
      show (if sp + 1 + i = sp then _ else _) = _
      rw [if_neg (by omega)]
      rfl
    intro r hr
    have := b3 x hx r hr
    simp only [e]
    exact this
  · rintro self a1 a2 ⟨rfl, hS, h1, hV⟩
    unfold L_X4_sendWith_14_1_28
    rw [h1, hC.2.1]
    have e : sp + 1 + (k - (sp + 1)) = k := by omega
    rw [e] at hV ⊢
    exact Ev_t (le_n (by omega) (by omega)) (hk _ ⟨hS, h1, hV⟩)
  · have e : ∀ r, netB f o sp md (sp + 1) (bR r) = badB md (f sp) (o sp) (netB f o sp md sp (bR r)) := fun r => by
      show (if sp = sp then _ else _) = _
      rw [if_pos rfl]
    intro x hx r hr
    have := hV1 x hx r hr
    simp only [Nat.add_zero, e]
    exact this
theorem NetC.of {n k : Nat} {f o : Nat → Nat} {h h1 : Hp} (hC : NetC n k f o h) (e : h1.1 = h.1) : NetC n k f o h1 := by
  unfold NetC; rw [e]; exact hC
theorem s_unsortedFrom {n k : Nat} {f o : Nat → Nat} {h : Hp} (hG : Good n k f o) (hC : NetC n k f o h) : Ev (f_X4_unsortedFrom_13_1 h) (fun r => Sm [14] h r.2 ∧ r.2.1 = h.1 ∧ ColN n r.1 (fun r => unsB n (netB f o 99 0 k (bR r)))) := by
  have hk24 := hG.2.2.1
  unfold f_X4_unsortedFrom_13_1
  rw [hC.2.1]
  refine Ev_bd _ (s_send_14 (sp := 99) (md := 0) hG hC (Nat.le_refl k) (by omega)) (fun h0 ⟨hS0, h10, hV0⟩ => ?_)
  rw [h10, hC.1]
  exact Ev_bd _ (s_unsortedIn_14 hG.2.1 hG.1 hV0) (fun z hz => Ev_so ⟨hS0, h10, hz⟩)
theorem s_unsortedWith {n k sp md : Nat} {f o : Nat → Nat} {h : Hp} (hG : Good n k f o) (hC : NetC n k f o h) (hsp : sp < k) (hmd : md ≤ 2) : Ev (f_X4_unsortedWith_13_1 h (nI sp) (nI md)) (fun r => Sm [14] h r.2 ∧ r.2.1 = h.1 ∧ ColN n r.1 (fun r => unsB n (netB f o sp md k (bR r)))) := by
  unfold f_X4_unsortedWith_13_1
  refine Ev_bd _ (s_sendWith hG hC hsp hmd) (fun h0 ⟨hS0, h10, hV0⟩ => ?_)
  rw [h10, hC.1]
  exact Ev_bd _ (s_unsortedIn_14 hG.2.1 hG.1 hV0) (fun z hz => Ev_so ⟨hS0, h10, hz⟩)
theorem s_telling {n k sp md : Nat} {f o : Nat → Nat} {h : Hp} (hG : Good n k f o) (hC : NetC n k f o h) (hsp : sp < k) (hmd : md ≤ 2) : Ev (f_X4_telling_13_1 h (nI sp) (nI md)) (fun r => Sm [14, 15] h r.2 ∧ r.2.1 = h.1 ∧ ColN n r.1 (fun r => (List.range n).any (fun x => netB f o sp md k (bR r) x ^^ netB f o 99 0 k (bR r) x))) := by
  have hn := hG.2.1
  have hn2 := hG.1
  have hk24 := hG.2.2.1
  unfold f_X4_telling_13_1
  rw [hC.2.1]
  refine Ev_bd _ (s_send_15 (sp := 99) (md := 0) hG hC (Nat.le_refl k) (by omega)) (fun h0 ⟨hS0, h10, hV0⟩ => ?_)
  refine Ev_bd _ (s_sendWith hG (hC.of h10) hsp hmd) (fun h1 ⟨hS1, h11, hV1⟩ => ?_)
  have hS : Sm [14, 15] h h1 := (hS0.mono (by decide)).tr (hS1.mono (by decide))
  have e15 : h1.2 15 = h0.2 15 := (hS1 15 (by decide)).2
  refine Ev_jn1 (fun z => ColN n z (fun r => (List.range n).any (fun x => netB f o sp md k (bR r) x ^^ netB f o 99 0 k (bR r) x))) (fun z hz => Ev_so ⟨hS, h11.trans h10, hz⟩) (fun kk hk => ?_)
  refine Ev_fx2 (fun j a1 a2 => a2 = nI j ∧ ColN n a1 (fun r => (List.range j).any (fun x => netB f o sp md k (bR r) x ^^ netB f o 99 0 k (bR r) x))) n ?_ ?_ (FU_lt (by omega)) ⟨rfl, fun r hr => by rw [bt_0]; simp⟩
  · rintro self j a1 a2 hj ⟨rfl, hZ⟩ hself
    unfold L_X4_telling_13_1_28
    rw [h11, h10, hC.1]
    refine Ev_f (nle_n (by omega) (by omega)) (Ev_ck rfl (by omega) (by omega) (Ev_ck rfl (by omega) (by omega) (Ev_nm (hself _ _ ⟨nI_add j 1, fun r hr => ?_⟩))))
    rw [clN (by omega), bt_or, bt_xor, hZ r hr, hV1 j hj r hr, e15, hV0 j hj r hr]
    dsimp only
    rw [List.range_succ, List.any_append]
    cases decide (r < 2 ^ n) <;> simp
  · rintro self a1 a2 ⟨rfl, hZ⟩
    unfold L_X4_telling_13_1_28
    rw [h11, h10, hC.1]
    exact Ev_t (le_n (by omega) (by omega)) (hk _ hZ)
