/-! CASES far, manyFar, step -/
theorem beg_mono : ∀ n, n < 7 → ∀ p, p < n → begN p + facN p ≤ begN n ∨ p < 2 := by decide
theorem pl_apart {st n st2 n2 i : Nat} (hn : n ≤ 6) (hn2 : n2 ≤ 6) (h1 : 2 ≤ n) (h2 : 2 ≤ n2) (hi : i < facN n2) (hne : ¬ (st2 = st ∧ n2 = n)) : st2 * 872 + begN n2 + i < st * 872 + begN n ∨ st * 872 + begN n + facN n ≤ st2 * 872 + begN n2 + i := by
  have b1 := beg_lt n (by omega)
  have b2 := beg_lt n2 (by omega)
  by_cases e1 : st2 < st
  · left
    have : (st2 + 1) * 872 ≤ st * 872 := Nat.mul_le_mul_right _ e1
    omega
  · by_cases e2 : st < st2
    · right
      have : (st + 1) * 872 ≤ st2 * 872 := Nat.mul_le_mul_right _ e2
      omega
    · have e3 : st2 = st := by omega
      subst e3
      by_cases e4 : n2 < n
      · have := (beg_mono n (by omega) n2 e4).resolve_right (by omega)
        left; omega
      · by_cases e5 : n < n2
        · have := (beg_mono n2 (by omega) n e5).resolve_right (by omega)
          right; omega
        · exact absurd ⟨rfl, by omega⟩ hne
theorem StR.learnt {st n : Nat} {c h : Hp} (hn : n ≤ 6) (hn2 : 2 ≤ n) (hS : StR c) (hk : KnC st n h) (ho : ∀ y, (y < st * 872 + begN n ∨ st * 872 + begN n + facN n ≤ y) → h.1 29 y = c.1 29 y) : StR h := by
  intro st2 n2 h1 h2 h3
  by_cases e : st2 = st ∧ n2 = n
  · obtain ⟨rfl, rfl⟩ := e
    exact Or.inr hk
  · rcases hS st2 n2 h1 h2 h3 with q | q
    · exact Or.inl (fun r hr => by rw [ho _ (pl_apart hn h3 hn2 h2 hr e)]; exact q r hr)
    · refine Or.inr (fun r hr => ?_)
      obtain ⟨d, p1, p2, p3⟩ := q r hr
      refine ⟨d, p1, ?_, p3⟩
      rw [ho _ (pl_apart hn h3 hn2 h2 (rank_lt h3 (row_perm h3 hr)) e)]
      exact p2
theorem Inv.st {n k : Nat} {f o : Nat → Nat} {c m c1 m1 : Hp} {out1 : Nat → Int64} (hG : Good n k f o) (hC : NetC n k f o c) (hM : NetM n k f o m) (hT : TapeR c m) (hB : BalR n k f o c m) (hS : SwR n k f o c) (hSt : StR c1) (hA : AdvR n c m) (hc : Sm [28, 29, 30, 31] c c1) (hm : Sm [0, 3, 5, 6, 7, 11, 12, 13, 15, 16, 17, 18] m m1) (e : ∀ j, j ∈ [1, 2, 7, 11, 14] → m1.1 0 j = m.1 0 j) : Inv (c1, m1, out1) := by
  have ec : ∀ q, q ∉ [28, 29, 30, 31] → c1.1 q = c.1 q := fun q hq => (hc q hq).1
  have em : ∀ q, q ∉ [0, 3, 5, 6, 7, 11, 12, 13, 15, 16, 17, 18] → m1.1 q = m.1 q := fun q hq => (hm q hq).1
  refine ⟨n, k, f, o, hG, Sm.nC hC hc (by decide) (by decide) (by decide), hM.keep (e 1 (by decide)) (e 2 (by decide)) (e 7 (by decide)) (em 1 (by decide)) (em 2 (by decide)) (em 4 (by decide)), hT.keep (by rw [ec 11 (by decide)]) (ec 12 (by decide)) (e 11 (by decide)) (em 8 (by decide)), hB.keep (ec 23 (by decide)) (ec 24 (by decide)) (ec 25 (by decide)) (ec 27 (by decide)) (e 14 (by decide)) (em 9 (by decide)) (em 10 (by decide)), ?_, hSt, hA.keep (by rw [(hc 32 (by decide)).2]) (em 14 (by decide))⟩
  rcases hS with q | ⟨q1, q2⟩
  · exact Or.inl (by rw [ec 20 (by decide)]; exact q)
  · refine Or.inr ⟨by rw [ec 20 (by decide)]; exact q1, fun v hv => ?_⟩
    rw [ec 22 (by decide)]
    exact q2 v hv
theorem d_uniq {st n r a b : Nat} (h1 : ∀ e, stF st n e r ↔ a ≤ e) (h2 : ∀ e, stF st n e r ↔ b ≤ e) : a = b := by
  have x := (h2 a).mp ((h1 a).mpr (Nat.le_refl _))
  have y := (h1 b).mp ((h2 b).mpr (Nat.le_refl _))
  omega
theorem st4 {x : Int32} : (x < 0 ∨ (3 : Int32) < x) ∨ ∃ st, st < 4 ∧ x = nI st := by
  rcases wire_or (n := 4) (by omega) x with h | h
  · exact Or.inl (cm_in4.mpr h)
  · exact Or.inr h
theorem C_stp_t {st : Nat} {c : Hp} (h : st < 4) : f_X10_checkSteps c (nI st) = some (.inr c) := by
  refine Ev_eq ?_
  unfold f_X10_checkSteps
  exact Ev_jn0 False (fun h => h.elim) (fun j hj => Ev_f (nI_pos (by omega)) (Ev_t (le_n (b := 3) (by omega) (by omega)) (Ev_so rfl)))
theorem C_stp_f {x : Int32} {c : Hp} (h : x < 0 ∨ (3 : Int32) < x) : f_X10_checkSteps c x = some (.inl ("java/lang/IllegalArgumentException", c)) := by
  refine Ev_eq ?_
  unfold f_X10_checkSteps
  refine Ev_jn0 True (fun _ => Ev_so rfl) (fun j hj => Ev_i (fun _ => hj trivial) (fun h0 => Ev_f ?_ (hj trivial)))
  exact Int32.not_le.mpr (h.resolve_left h0)
theorem nI_sub1 {a : Nat} : nI (a + 1) - 1 = nI a := by
  rw [n1]
  exact nsub (by omega)
/-- the reference refuses, or goes on from the row that it has laid -/
theorem M_pre {n k st : Nat} {f o : Nat → Nat} {m : Hp} {r : Int32 × Hp} (hM : NetM n k f o m) (b0 : Sm [5] m r.2) : NetM n k f o (wF r.2 0 0 0) := (Sm.nM hM b0 (by decide) (by decide) (by decide) (by decide)).t
theorem pc_34 {L : Nat} {xs : Nat → Int32} {i : Int32} {s : LWS} {kont : LWS → Option Unit} (hI : Inv s) (hi : OKi L i) (hk : ∀ s1, Inv s1 → kont s1 = some ()) : lc_34 L xs i s kont = some () := by
  obtain ⟨c, m, out⟩ := s
  have hI0 := hI
  obtain ⟨n, k, f, o, hG, hC, hM, hT, hB, hS, hSt, hA⟩ := hI
  have hn := hG.2.1
  have hn2 := hG.1
  have hF := fac_le n (by omega)
  generalize hx : xs (i + 1).toNatClampNeg = x
  generalize hy : xs (i + 2).toNatClampNeg = y
  have hbad : ∀ (r2 : Int32 × Hp), f_X11_rowOf m y = some r2 → (x < 0 ∨ (3 : Int32) < x) ∨ r2.1 = -1 → f_X11_far m x y = some (0, wF r2.2 0 0 1) := by
    intro r2 hr2 hc
    refine Ev_eq ?_
    unfold f_X11_far
    refine Ev_bde hr2 (Ev_bde M_in (Ev_jn1 (fun z => z = 1) (fun z hz => ?_) (fun j hj => Ev_jn0 True (fun _ => hj 1 rfl) (fun k2 hk2 => ?_))))
    · subst hz
      exact Ev_nm (Ev_f (by rw [wF_1, upd_s]; decide) (Ev_so rfl))
    · by_cases h : x < 0 ∨ (3 : Int32) < x
      · exact Ev_t (by rw [if_pos h]) (hk2 trivial)
      · exact Ev_f (by rw [if_neg h]; decide) (Ev_t (hc.resolve_left h) (hk2 trivial))
  rcases st4 (x := x) with hb | ⟨st, hst, rfl⟩
  · have h1 : f_X10_far c x y = some (.inl ("java/lang/IllegalArgumentException", c)) := by
      unfold f_X10_far
      exact bdx_l (C_stp_f hb)
    have hex : ∃ r2, f_X11_rowOf m y = some r2 ∧ Sm [5] m r2.2 := by
      rcases codes (m := m) y hn hn2 hM.1 with ⟨v, hv, _, r2, hr2, b0, _⟩ | ⟨_, r2, hr2, b0, _⟩
      · exact ⟨r2, hr2, b0⟩
      · exact ⟨r2, hr2, b0⟩
    obtain ⟨r2, hr2, b0⟩ := hex
    have h2 := hbad r2 hr2 (Or.inl hb)
    simp [lc_34, fh_far, hx, hy, h1, h2, hcatch, bd, nm, setM, setC, setO, f_X11_thrown, jn0, wF_1, upd_s, (hi _).1, (hi _).2.1]
    exact hk _ (hI0.rowed Sm.rf ⟨r2.2, b0.mono (by decide), Sm.rf⟩)
  · rcases codes (m := m) y hn hn2 hM.1 with ⟨v, hv, ⟨q, hq, hPK⟩, r2, hr2, b0, b1, b2⟩ | ⟨hq, r2, hr2, b0, b1⟩
    · have hnl := num_lt' hn hv
      obtain ⟨h, h0, a1, a2, a3⟩ := C_learnS hG hst hSt
      obtain ⟨d, hd, e29, hdd⟩ := a1 _ hnl
      have h1 : f_X10_far c (nI st) y = some (.inr (nI d, h)) := by
        refine Ev_eq ?_
        unfold f_X10_far
        rw [bdx_r (C_stp_t hst), bdx_r (C_rowOf_t hC.1 (hPK.lt hn) hq)]
        dsimp only
        rw [hC.1]
        refine Ev_bd (fun r => r = (nI d, h)) ?_ (fun r hr => Ev_so (by rw [hr]))
        unfold f_X6_farOf_28
        refine Ev_bde h0 (Ev_bde (C_place hst hn hn2 hPK hv) (Ev_ck rfl (pl_lt hst hn hnl) (by omega) (Ev_so ?_)))
        rw [clN (by have := pl_lt hst hn hnl; omega), e29, nI_sub1]
      have h2 : Ev (f_X11_far m (nI st) y) (fun r => r.1 = nI d ∧ r.2.1 0 0 = 0 ∧ Sm [0, 5, 12, 13] m r.2 ∧ ∀ j, j ∈ [1, 2, 7, 11, 14] → r.2.1 0 j = m.1 0 j) := by
        unfold f_X11_far
        refine Ev_bde hr2 (Ev_bde M_in ?_)
        rw [if_neg (fun z => not_bad (n := 4) (by omega) hst (cm_in4.mp z))]
        refine Ev_jn1 (fun z => z = 0) (fun z hz => ?_) (fun j hj => Ev_jn0 False (fun h => h.elim) (fun k2 hk2 => Ev_f (by decide) (Ev_f (by rw [b1]; exact ne_m1 (by omega)) (hj 0 rfl))))
        subst hz
        have hM2 : NetM n k f o (wF r2.2 0 0 0) := (Sm.nM hM b0 (by decide) (by decide) (by decide) (by decide)).t
        have e0 : (wF r2.2 0 0 0).1 0 0 = 0 := by rw [wF_1, upd_s]
        refine Ev_nm (Ev_t (by rw [e0]; exact Int32.le_refl _) (Ev_bd _ (M_spreads hG hM2 hst) (fun h3 ⟨p1, p2, p3⟩ => ?_)))
        obtain ⟨d2, hd2, e12, hdd2⟩ := p1 _ hnl
        rw [b1, clN (by omega)]
        refine Ev_ck rfl (by omega) (by omega) (Ev_so ⟨?_, ?_, ?_, fun j hj => ?_⟩)
        · rw [e12, d_uniq hdd hdd2]
        · rw [p3 0 (by decide), e0]
        · exact ((b0.mono (by decide)).sF (by decide)).tr p2
        · rw [p3 j (by rintro rfl; revert hj; decide), wF_j (by rintro rfl; revert hj; decide), (b0 0 (by decide)).1]
      obtain ⟨r3, h3, c1, c2, c3, c4⟩ := h2
      simp [lc_34, fh_far, hx, hy, h1, h3, c1, c2, hcatch, bd, nm, setM, setC, setO, f_X11_thrown, jn0, (hi _).1, (hi _).2.1, updL_s, lgc]
      exact hk _ (Inv.st hG hC hM hT hB hS (StR.learnt hn hn2 hSt a1 a3) hA a2 (c3.mono (by decide)) c4)
    · have h1 : f_X10_far c (nI st) y = some (.inl ("java/lang/IllegalArgumentException", c)) := by
        unfold f_X10_far
        rw [bdx_r (C_stp_t hst)]
        exact bdx_l (C_rowOf_f hC.1 hq)
      have h2 := hbad r2 hr2 (Or.inr b1)
      simp [lc_34, fh_far, hx, hy, h1, h2, hcatch, bd, nm, setM, setC, setO, f_X11_thrown, jn0, wF_1, upd_s, (hi _).1, (hi _).2.1]
      exact hk _ (hI0.rowed Sm.rf ⟨r2.2, b0.mono (by decide), Sm.rf⟩)
theorem pc_36 {L : Nat} {xs : Nat → Int32} {i : Int32} {s : LWS} {kont : LWS → Option Unit} (hI : Inv s) (hi : OKi L i) (hk : ∀ s1, Inv s1 → kont s1 = some ()) : lc_36 L xs i s kont = some () := by
  obtain ⟨c, m, out⟩ := s
  have hI0 := hI
  obtain ⟨n, k, f, o, hG, hC, hM, hT, hB, hS, hSt, hA⟩ := hI
  have hn := hG.2.1
  have hn2 := hG.1
  have hF := fac_le n (by omega)
  generalize hx : xs (i + 1).toNatClampNeg = x
  generalize hy : xs (i + 2).toNatClampNeg = y
  by_cases hb : (x < 0 ∨ (3 : Int32) < x) ∨ y < 0
  · have h1 : f_X10_manyFar c x y = some (.inl ("java/lang/IllegalArgumentException", c)) := by
      unfold f_X10_manyFar
      rcases st4 (x := x) with h | ⟨st, hst, rfl⟩
      · exact bdx_l (C_stp_f h)
      · have hy2 := hb.resolve_left (fun z => not_bad (n := 4) (by omega) hst (cm_in4.mp z))
        rw [bdx_r (C_stp_t hst)]
        exact if_neg (Int32.not_le.mpr hy2)
    have h2 : f_X11_manyFar m x y = some (0, wF m 0 0 1) := by
      refine Ev_eq ?_
      unfold f_X11_manyFar
      refine Ev_bde M_in (Ev_jn1 (fun z => z = 1) (fun z hz => ?_) (fun j hj => Ev_jn0 True (fun _ => hj 1 rfl) (fun k2 hk2 => ?_)))
      · subst hz
        exact Ev_nm (Ev_f (by rw [wF_1, upd_s]; decide) (Ev_so rfl))
      · by_cases h : x < 0 ∨ (3 : Int32) < x
        · exact Ev_t (by rw [if_pos h]) (hk2 trivial)
        · exact Ev_f (by rw [if_neg h]; decide) (Ev_t (hb.resolve_left h) (hk2 trivial))
    simp [lc_36, fh_manyFar, hx, hy, h1, h2, hcatch, bd, nm, setM, setC, setO, f_X11_thrown, jn0, wF_1, upd_s, (hi _).1, (hi _).2.1]
    exact hk _ hI0.thrown
  · obtain ⟨st, hst, rfl⟩ := (st4 (x := x)).resolve_left (fun z => hb (Or.inl z))
    have hy0 : ¬ y < 0 := fun z => hb (Or.inr z)
    obtain ⟨h, h0, a1, a2, a3⟩ := C_learnS hG hst hSt
    have ⟨D, hD⟩ : ∃ D : Nat → Nat, ∀ r, r < facN n → D r < 100 ∧ h.1 29 (plN st n r) = nI (D r + 1) ∧ ∀ e, stF st n e r ↔ D r ≤ e := by
      refine ⟨fun r => if hr : r < facN n then Classical.choose (a1 r hr) else 0, fun r hr => ?_⟩
      dsimp only
      rw [dif_pos hr]
      exact Classical.choose_spec (a1 r hr)
    have h1 : f_X10_manyFar c (nI st) y = some (.inr (nI (ctB (fun r => decide (nI (D r) = y)) (facN n)), h)) := by
      refine Ev_eq ?_
      unfold f_X10_manyFar
      rw [bdx_r (C_stp_t hst)]
      refine Ev_t (Int32.not_lt.mp hy0) ?_
      rw [hC.1]
      refine Ev_bd (fun r => r = (nI (ctB (fun r => decide (nI (D r) = y)) (facN n)), h)) ?_ (fun r hr => Ev_so (by rw [hr]))
      unfold f_X6_countFar_28
      have hb := (fBEG_n n (by omega)).resolve_right (by omega)
      rw [clN (by omega), hb, show (872 : Int32) = nI 872 from rfl, nmul, nI_add]
      refine Ev_bde h0 (Ev_ck rfl (by omega) (by omega) (Ev_nm ?_))
      have hct : ctB (fun r => decide (nI (D r) = y)) (facN n) = ctB (fun i => decide (h.1 29 (st * 872 + begN n + i) - 1 = y)) (facN n) := by
        rw [← ct_onto (g := fun r => rankN (rowT n r) n) (N := facN n) (p := fun i => decide (h.1 29 (st * 872 + begN n + i) - 1 = y)) (fun i hi => ?_)]
        · refine ct_congr (fun r hr => ?_)
          have e := (hD r hr).2.1
          unfold plN at e
          rw [e, nI_sub1]
        · have hu := unrk_perm hn hi
          refine ⟨num n (unrk n i), num_lt' hn hu, ?_⟩
          rw [rankN_congr (fun x hx => num_row hn hu hx), unrk_rank hn hi]
      rw [hct]
      have hbl := beg_lt n (by omega)
      have hst2 : st * 872 ≤ 3 * 872 := Nat.mul_le_mul_right _ (by omega)
      refine Ev_jn1 (fun z => z = nI (ctB (fun i => decide (h.1 29 (st * 872 + begN n + i) - 1 = y)) (facN n))) (fun z hz => Ev_so (by rw [hz])) (fun kk hk => ?_)
      refine Ev_fx2 (fun i a1 a2 => a2 = nI i ∧ a1 = nI (ctB (fun i => decide (h.1 29 (st * 872 + begN n + i) - 1 = y)) i)) (facN n) ?_ ?_ (FU_lt (by omega)) ⟨rfl, rfl⟩
      · rintro self i b1 b2 hi ⟨rfl, rfl⟩ hself
        unfold L_X6_countFar_28_25
        refine Ev_bd (fun y => y = nI (facN n)) ?_ (fun z hz => ?_)
        · unfold f_X5_howMany
          rw [clN (by omega), fFAC_n n (by omega)]
          exact Ev_ck rfl (by omega) (by omega) (Ev_so rfl)
        · subst hz
          rw [nI_add, clN (by omega)]
          refine Ev_f (nle_n hi (by omega)) (Ev_ck rfl (by omega) (by omega) (Ev_i (fun e => hself _ _ ⟨nI_add i 1, ?_⟩) (fun e => hself _ _ ⟨nI_add i 1, ?_⟩)))
          · exact (ct_t (p := fun i => decide (h.1 29 (st * 872 + begN n + i) - 1 = y)) (decide_eq_true e)).symm
          · exact (ct_f (p := fun i => decide (h.1 29 (st * 872 + begN n + i) - 1 = y)) (by simpa using e)).symm
      · rintro self b1 b2 ⟨rfl, rfl⟩
        unfold L_X6_countFar_28_25
        refine Ev_bd (fun y => y = nI (facN n)) ?_ (fun z hz => ?_)
        · unfold f_X5_howMany
          rw [clN (by omega), fFAC_n n (by omega)]
          exact Ev_ck rfl (by omega) (by omega) (Ev_so rfl)
        · subst hz
          exact Ev_t (Int32.le_refl _) (hk _ rfl)
    have h2 : Ev (f_X11_manyFar m (nI st) y) (fun r => r.1 = nI (ctB (fun r => decide (nI (D r) = y)) (facN n)) ∧ r.2.1 0 0 = 0 ∧ Sm [0, 5, 12, 13] m r.2 ∧ ∀ j, j ∈ [1, 2, 7, 11, 14] → r.2.1 0 j = m.1 0 j) := by
      unfold f_X11_manyFar
      refine Ev_bde M_in ?_
      rw [if_neg (fun z => not_bad (n := 4) (by omega) hst (cm_in4.mp z))]
      refine Ev_jn1 (fun z => z = 0) (fun z hz => ?_) (fun j hj => Ev_jn0 False (fun h => h.elim) (fun k2 hk2 => Ev_f (by decide) (Ev_f hy0 (hj 0 rfl))))
      subst hz
      have e0 : (wF m 0 0 0).1 0 0 = 0 := by rw [wF_1, upd_s]
      refine Ev_nm (Ev_t (by rw [e0]; exact Int32.le_refl _) (Ev_bd _ (M_spreads hG hM.t hst) (fun h3 ⟨p1, p2, p3⟩ => ?_)))
      have h37 : h3.1 0 7 = nI (facN n) := by rw [p3 7 (by decide), wF_j (by decide)]; exact hM.2.2.2.1
      refine Ev_jn1 (fun z => z = nI (ctB (fun r => decide (nI (D r) = y)) (facN n))) (fun z hz => Ev_so ⟨hz, by rw [p3 0 (by decide), e0], (Sm.rf.sF (by decide)).tr p2, fun j hj => by rw [p3 j (by rintro rfl; revert hj; decide), wF_j (by rintro rfl; revert hj; decide)]⟩) (fun kk hk => ?_)
      refine Ev_fx2 (fun r a1 a2 => a2 = nI r ∧ a1 = nI (ctB (fun r => decide (nI (D r) = y)) r)) (facN n) ?_ ?_ (FU_lt (by omega)) ⟨rfl, rfl⟩
      · rintro self r b1 b2 hr ⟨rfl, rfl⟩ hself
        obtain ⟨d2, hd2, e12, hdd2⟩ := p1 r hr
        have ed := d_uniq (hD r hr).2.2 hdd2
        unfold L_X11_manyFar_41
        rw [h37, clN (by omega), e12, ← ed]
        refine Ev_f (nle_n hr (by omega)) (Ev_ck rfl (by omega) (by omega) (Ev_i (fun e => Ev_nm (hself _ _ ⟨nI_add r 1, ?_⟩)) (fun e => Ev_nm (hself _ _ ⟨nI_add r 1, ?_⟩))))
        · exact (ct_t (p := fun r => decide (nI (D r) = y)) (decide_eq_true e)).symm
        · rw [ct_f (p := fun r => decide (nI (D r) = y)) (by simpa using e)]
          exact nI_add _ 0
      · rintro self b1 b2 ⟨rfl, rfl⟩
        unfold L_X11_manyFar_41
        rw [h37]
        exact Ev_t (Int32.le_refl _) (hk _ rfl)
    obtain ⟨r3, h3, c1, c2, c3, c4⟩ := h2
    simp [lc_36, fh_manyFar, hx, hy, h1, h3, c1, c2, hcatch, bd, nm, setM, setC, setO, f_X11_thrown, jn0, (hi _).1, (hi _).2.1, updL_s, lgc]
    exact hk _ (Inv.st hG hC hM hT hB hS (StR.learnt hn hn2 hSt a1 a3) hA a2 (c3.mono (by decide)) c4)
