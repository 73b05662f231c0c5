/-! P43: the text's fault -/
theorem fltL_eq {n t : Nat} {ch : Nat → Nat} {c : Hp} {rt rq : Row} {e : Option Int32} (hn : n ≤ 6) (ht : t ≤ 40) (hc : c.1 11 1 = nI t) (hq0 : rq 0 = nI n) (hq2 : rq 2 = nI t) (hch : ∀ i, i < t → chOk (ch i) ∧ c.1 12 i = nI (ch i) ∧ rt i = nI (ch i)) : ∀ (d j N U g : Nat) (last : Row), j + d = t → d < N → U < 64 → g ≤ j + 1 → (∀ x, x < 6 → ∃ y, last x = nI y ∧ y ≤ g ∧ (U.testBit x = true ↔ y = g)) → fx2 (L_X8_faultFor_11_4 c (nI n) (fun x => some x) (fun x => some x) (fun x => some x) e) N (nI U) (nI j) = fx3 (L_L_fault_10 rt rq (fun a _ => some a) (fun _ => e)) N (nI g) (nI j) last := by
  intro d
  induction d with
  | zero =>
    intro j N U g last hj hN hU hg hR
    obtain ⟨M, rfl⟩ : ∃ M, N = M + 1 := ⟨N - 1, by omega⟩
    have ej : j = t := by omega
    subst ej
    simp only [fx2, fx3]
    unfold L_X8_faultFor_11_4 L_L_fault_10
    rw [if_pos (by rw [hc]; exact Int32.le_refl _), n2, ck_nI (by omega) (by omega), clN (by omega), if_pos (by rw [hq2]; exact Int32.le_refl _)]
  | succ d ih =>
    intro j N U g last hj hN hU hg hR
    obtain ⟨M, rfl⟩ : ∃ M, N = M + 1 := ⟨N - 1, by omega⟩
    have hjt : j < t := by omega
    obtain ⟨k1, k2, k3⟩ := hch j hjt
    have IH := fun U g last => ih (j + 1) M U g last (by omega) (by omega)
    simp only [fx2, fx3]
    generalize fx2 (L_X8_faultFor_11_4 c (nI n) (fun x => some x) (fun x => some x) (fun x => some x) e) M = S1 at IH ⊢
    generalize fx3 (L_L_fault_10 rt rq (fun a _ => some a) (fun _ => e)) M = S2 at IH ⊢
    unfold L_X8_faultFor_11_4 L_L_fault_10
    have g1 : (c.1 11 1 ≤ nI j) = False := eq_false (by rw [hc]; exact nle_n hjt (by omega))
    have g2 : (rq 2 ≤ nI j) = False := eq_false (by rw [hq2]; exact nle_n hjt (by omega))
    have ck24 : ∀ (k : Option Int32), ck (nI 2) 4 k = k := fun k => ck_nI (by omega) (by omega)
    have ck04 : ∀ (k : Option Int32), ck (nI 0) 4 k = k := fun k => ck_nI (by omega) (by omega)
    have ckj : ∀ (k : Option Int32), ck (nI j) 40 k = k := fun k => ck_nI (by omega) (by omega)
    have hlt : ch j < 100 := by
      rcases k1 with h | h | h | h <;> omega
    simp only [n0, n1, n2, n4, ck24, ck04, ckj, clN (show 2 < 2 ^ 31 by omega), clN (show 0 < 2 ^ 31 by omega), clN (show j < 2 ^ 31 by omega), g1, g2, if_false, k2, k3, irmN (show j < 2 ^ 31 by omega) (show 0 < 4 by omega) (by omega), irmN (show j < 2 ^ 31 by omega) (show 0 < 2 by omega) (by omega), nI_add, jn1, jn0, nm, hq0]
    have q1 : (nI (j % 4) = nI 1) = (j % 4 = 1) := nI_iff (by omega) (by omega)
    have q3 : (nI (j % 4) = (3 : Int32)) = (j % 4 = 3) := nI_iff (b := 3) (by omega) (by omega)
    have q2 : (nI (j % 2) = nI 0) = (j % 2 = 0) := nI_iff (by omega) (by omega)
    have c58 : (nI (ch j) = (58 : Int32)) = (ch j = 58) := nI_iff (b := 58) (by omega) (by omega)
    have c47 : (nI (ch j) = (47 : Int32)) = (ch j = 47) := nI_iff (b := 47) (by omega) (by omega)
    have c32 : (nI (ch j) = (32 : Int32)) = (ch j = 32) := nI_iff (b := 32) (by omega) (by omega)
    have t10 : (nI 1 = nI 0) = False := eq_false (by decide)
    have t00 : (nI 0 = nI 0) = True := eq_true rfl
    simp only [q1, q2, q3, c58, c47, c32]
    by_cases h1 : j % 4 = 1
    · have hj2 : (j % 2 = 0) = False := eq_false (by omega)
      have h1 := eq_true h1
      by_cases e58 : ch j = 58
      · have e47 : (ch j = 47) = False := eq_false (by omega)
        have e58 := eq_true e58
        simp only [h1, e58, hj2, e47, t10, if_true, if_false, Nat.add_zero]
        exact IH U g last hU (by omega) hR
      · have e58 := eq_false e58
        simp only [h1, e58, t00, if_true, if_false]
    · by_cases h3 : j % 4 = 3
      · have hj2 : (j % 2 = 0) = False := eq_false (by omega)
        have h1 := eq_false h1
        have h3 := eq_true h3
        by_cases e32 : ch j = 32
        · have e47 : (ch j = 47) = False := eq_false (by omega)
          have e32 := eq_true e32
          simp only [h1, h3, e32, e47, hj2, t10, if_true, if_false, Nat.add_zero]
          exact IH U g last hU (by omega) hR
        · by_cases e47 : ch j = 47
          · have e32 := eq_false e32
            have e47 := eq_true e47
            simp only [h1, h3, e32, e47, hj2, t10, if_true, if_false]
            refine IH 0 (g + 1) last (by omega) (by omega) (fun x hx => ?_)
            obtain ⟨y, y1, y2, y3⟩ := hR x hx
            refine ⟨y, y1, by omega, ?_⟩
            rw [Nat.zero_testBit]
            exact ⟨fun z => (by cases z), fun z => (by omega)⟩
          · have e32 := eq_false e32
            have e47 := eq_false e47
            simp only [h1, h3, e32, e47, t00, if_true, if_false]
      · have h1 := eq_false h1
        have h3 := eq_false h3
        have hj2 : (j % 2 = 0) = True := eq_true (by omega)
        have hneg : ∀ x, x < 48 → nI x - (48 : Int32) < nI 0 := fun x hx => pk_sneg (b := 48) (by omega) hx
        simp only [h1, h3, hj2, if_true, if_false]
        rcases k1 with h | h | h | h
        · have e : nI (ch j) - (48 : Int32) = nI (ch j - 48) := nsub (b := 48) h.1
          have e47 : (ch j = 47) = False := eq_false (by omega)
          have p0 : (nI (ch j - 48) < nI 0) = False := eq_false (nI_pos (by omega))
          have ck6 : ∀ (k : Option Int32), ck (nI (ch j - 48)) 6 k = k := fun k => ck_nI (by omega) (by omega)
          simp only [e, p0, if_false, e47, ck6, clN (show ch j - 48 < 2 ^ 31 by omega)]
          by_cases hw : n ≤ ch j - 48
          · have p1 : (nI n ≤ nI (ch j - 48)) = True := eq_true (le_n hw (by omega))
            simp only [p1, if_true, t00]
          · have p1 : (nI n ≤ nI (ch j - 48)) = False := eq_false (nle_n (by omega) (by omega))
            obtain ⟨y, y1, y2, y3⟩ := hR (ch j - 48) (by omega)
            have b0 := bit_0 (a := U) (k := ch j - 48) (by omega) (by omega)
            rw [n1, n0] at b0
            have esh : ishl (nI 1) (nI (ch j - 48)) = nI (2 ^ (ch j - 48)) := by
              have := ishl_n (a := 1) (k := ch j - 48) (by omega)
              rw [Nat.one_mul] at this; exact this
            simp only [p1, if_false, y1, esh, nI_or]
            by_cases hb : U.testBit (ch j - 48) = true
            · have f1 : ((ishr (nI U) (nI (ch j - 48)) &&& nI 1) = nI 0) = False := eq_false (fun z => by rw [b0.mp z] at hb; cases hb)
              have f2 : (nI g ≤ nI y) = True := eq_true (le_n (by have := y3.mp hb; omega) (by omega))
              simp only [f1, f2, if_true, if_false, t00]
            · have hbf : U.testBit (ch j - 48) = false := by
                cases hh : U.testBit (ch j - 48) with
                | true => exact absurd hh hb
                | false => rfl
              have f1 : ((ishr (nI U) (nI (ch j - 48)) &&& nI 1) = nI 0) = True := eq_true (b0.mpr hbf)
              have f2 : (nI g ≤ nI y) = False := eq_false (nle_n (by have : ¬ y = g := fun z => hb (y3.mpr z); omega) (by omega))
              simp only [f1, f2, if_true, if_false, t10, Nat.add_zero]
              refine IH _ g _ (Nat.or_lt_two_pow (n := 6) hU (Nat.pow_lt_pow_right (by omega) (by omega))) (by omega) (fun x hx => ?_)
              rw [Nat.testBit_or, Nat.testBit_two_pow]
              by_cases x1 : x = ch j - 48
              · refine ⟨g, by rw [x1, upd_s], Nat.le_refl _, ?_⟩
                rw [x1, decide_eq_true rfl, Bool.or_true]
                exact ⟨fun _ => rfl, fun _ => rfl⟩
              · obtain ⟨y', z1, z2, z3⟩ := hR x hx
                refine ⟨y', by rw [upd_n _ _ x1]; exact z1, z2, ?_⟩
                rw [decide_eq_false (Ne.symm x1), Bool.or_false]
                exact z3
        · have e : nI (ch j) - (48 : Int32) = nI 10 := by rw [h]; rfl
          have p0 : (nI 10 < nI 0) = False := eq_false (by decide)
          have p1 : (nI n ≤ nI 10) = True := eq_true (le_n (by omega) (by omega))
          simp only [e, p0, p1, if_true, if_false, t00]
        · have p0 : (nI (ch j) - (48 : Int32) < nI 0) = True := eq_true (hneg (ch j) (by omega))
          simp only [p0, if_true, t00]
        · have p0 : (nI (ch j) - (48 : Int32) < nI 0) = True := eq_true (hneg (ch j) (by omega))
          simp only [p0, if_true, t00]
theorem fltL_same {n t : Nat} {ch : Nat → Nat} {c : Hp} {rt rq : Row} (hn : n ≤ 6) (ht : t ≤ 40) (hc : c.1 11 1 = nI t) (hq0 : rq 0 = nI n) (hq2 : rq 2 = nI t) (hch : ∀ i, i < t → chOk (ch i) ∧ c.1 12 i = nI (ch i) ∧ rt i = nI (ch i)) : f_L_fault rt rq = f_X8_faultFor_11 c (nI n) := by
  unfold f_X8_faultFor_11 f_L_fault
  generalize hN : FU = N
  have hN2 : t < N := by rw [← hN]; exact FU_lt (by omega)
  have ck24 : ∀ (k : Option Int32), ck (2 : Int32) 4 k = k := fun k => ck_nI (j := 2) (by omega) (by omega)
  simp only [jn0, jn1, jn2, cl2, hc, hq2, ck24]
  exact (fltL_eq hn ht hc hq0 hq2 hch t 0 N 0 1 (fun _ => 0) (by omega) hN2 (by omega) (by omega) (fun x _ => ⟨0, rfl, by omega, by rw [Nat.zero_testBit]; exact ⟨fun z => (by cases z), fun z => (by omega)⟩⟩)).symm
theorem C_faultSpec {n t : Nat} {ch : Nat → Nat} {c : Hp} (hn : n ≤ 6) (hn2 : 2 ≤ n) (ht : t ≤ 40) (hc : c.1 11 1 = nI t) (hch : ∀ i, i < t → chOk (ch i) ∧ c.1 12 i = nI (ch i)) : Ev (f_X8_faultFor_11 c (nI n)) (fun r => (r = -1 ∧ t % 4 = 3 ∧ (∀ j, j < t → j % 2 = 0 → 48 ≤ ch j ∧ ch j - 48 < n) ∧ ∀ j, j + 2 < t → j % 4 = 0 → ch j ≠ ch (j + 2)) ∨ ∃ p, p < 2 ^ 31 ∧ r = nI p) := by
  unfold f_X8_faultFor_11
  have hfin : ∀ a : Int32, (∃ p, p < 2 ^ 31 ∧ a = nI p) → Ev (some a) (fun r => (r = -1 ∧ t % 4 = 3 ∧ (∀ j, j < t → j % 2 = 0 → 48 ≤ ch j ∧ ch j - 48 < n) ∧ ∀ j, j + 2 < t → j % 4 = 0 → ch j ≠ ch (j + 2)) ∨ ∃ p, p < 2 ^ 31 ∧ r = nI p) := fun a h => Ev_so (Or.inr h)
  refine Ev_jn0 ((∀ j, j < t → j % 2 = 0 → 48 ≤ ch j ∧ ch j - 48 < n) ∧ ∀ j, j + 2 < t → j % 4 = 0 → ch j ≠ ch (j + 2)) (fun hA => ?_) (fun j0 hj0 => Ev_jn1 (fun a => ∃ p, p < 2 ^ 31 ∧ a = nI p) (fun a ha => hfin a ha) (fun k102 h102 => Ev_jn1 (fun a => ∃ p, p < 2 ^ 31 ∧ a = nI p) (fun a ha => hfin a ha) (fun k57 h57 => Ev_jn1 (fun a => ∃ p, p < 2 ^ 31 ∧ a = nI p) (fun a ha => hfin a ha) (fun k34 h34 => ?_))))
  · rw [hc, n4, irmN (by omega) (by omega) (by omega)]
    refine Ev_i (fun e => Ev_so (Or.inl ⟨rfl, (neqI (b := 3) (by omega) (by omega)).mp e, hA⟩)) (fun e => Ev_so (Or.inr ⟨t, by omega, rfl⟩))
  · refine Ev_fx2 (fun j a1 a2 => a2 = nI j ∧ (∃ u, a1 = nI u ∧ u < 64 ∧ (j % 4 = 1 → u.testBit (ch (j - 1) - 48) = true) ∧ (j % 4 = 2 → u.testBit (ch (j - 2) - 48) = true)) ∧ (∀ i, i < j → i % 2 = 0 → 48 ≤ ch i ∧ ch i - 48 < n) ∧ ∀ i, i + 2 < j → i % 4 = 0 → ch i ≠ ch (i + 2)) t ?_ ?_ (FU_lt (by omega)) ⟨rfl, ⟨0, rfl, by omega, fun h => absurd h (by omega), fun h => absurd h (by omega)⟩, fun i hi => absurd hi (by omega), fun i hi => absurd hi (by omega)⟩
    · rintro self j a1 a2 hj ⟨rfl, ⟨u, rfl, hu, hu1, hu2⟩, hA, hB⟩ hself
      obtain ⟨k1, k2⟩ := hch j hj
      unfold L_X8_faultFor_11_4
      have hbad : ∃ p, p < 2 ^ 31 ∧ nI j = nI p := ⟨j, by omega, rfl⟩
      rw [hc, clN (by omega), k2, n4, n1, irmN (by omega) (by omega) (by omega)]
      have hlt : ch j < 100 := by rcases k1 with h | h | h | h <;> omega
      have q1 : (nI (j % 4) = nI 1) = (j % 4 = 1) := nI_iff (by omega) (by omega)
      have q3 : (nI (j % 4) = (3 : Int32)) = (j % 4 = 3) := nI_iff (b := 3) (by omega) (by omega)
      have c58 : (nI (ch j) = (58 : Int32)) = (ch j = 58) := nI_iff (b := 58) (by omega) (by omega)
      have c47 : (nI (ch j) = (47 : Int32)) = (ch j = 47) := nI_iff (b := 47) (by omega) (by omega)
      have c32 : (nI (ch j) = (32 : Int32)) = (ch j = 32) := nI_iff (b := 32) (by omega) (by omega)
      simp only [q1, q3, c58, c47, c32]
      refine Ev_f (nle_n hj (by omega)) (Ev_ck rfl (by omega) (by omega) (Ev_i (fun m1 => Ev_i (fun e58 => hself _ _ ⟨nI_add j 1, ⟨u, rfl, hu, fun h => absurd h (by omega), fun h => ?_⟩, fun i hi h => ?_, fun i hi h => ?_⟩) (fun _ => h34 _ hbad)) (fun m1 => Ev_i (fun m3 => ?_) (fun m3 => ?_))))
      · have := hu1 m1
        rwa [show j + 1 - 2 = j - 1 by omega]
      · exact hA i (by omega) h
      · exact hB i (by omega) h
      · refine Ev_jn0 True (fun _ => Ev_i (fun e => hself _ _ ⟨nI_add j 1, ⟨0, rfl, by omega, fun h => absurd h (by omega), fun h => absurd h (by omega)⟩, fun i hi h => hA i (by omega) h, fun i hi h => hB i (by omega) h⟩) (fun e => hself _ _ ⟨nI_add j 1, ⟨u, rfl, hu, fun h => absurd h (by omega), fun h => absurd h (by omega)⟩, fun i hi h => hA i (by omega) h, fun i hi h => hB i (by omega) h⟩)) (fun k59 h59 => Ev_i (fun _ => h59 trivial) (fun _ => Ev_i (fun _ => h59 trivial) (fun _ => h57 _ hbad)))
      · refine Ev_nm ?_
        by_cases h48 : 48 ≤ ch j
        · have e48 : nI (ch j) - (48 : Int32) = nI (ch j - 48) := nsub (b := 48) h48
          rw [e48]
          refine Ev_f (nI_pos (by omega)) (Ev_i (fun _ => h102 _ hbad) (fun hw => ?_))
          rw [nI_leI (by omega) (by omega)] at hw
          have esh : ishl (nI 1) (nI (ch j - 48)) = nI (2 ^ (ch j - 48)) := by
            have := ishl_n (a := 1) (k := ch j - 48) (by omega)
            rw [Nat.one_mul] at this; exact this
          rw [esh, nI_or]
          refine Ev_i (fun hb => Ev_nm (hself _ _ ⟨nI_add j 1, ⟨_, rfl, ?_, fun h => ?_, fun h => absurd h (by omega)⟩, fun i hi h => ?_, fun i hi h => ?_⟩)) (fun _ => h102 _ hbad)
          · exact Nat.or_lt_two_pow (n := 6) hu (Nat.pow_lt_pow_right (by omega) (by omega))
          · rw [Nat.testBit_or, show j + 1 - 1 = j by omega, Nat.testBit_two_pow, decide_eq_true rfl, Bool.or_true]
          · by_cases e : i = j
            · rw [e]; exact ⟨h48, by omega⟩
            · exact hA i (by omega) h
          · by_cases e : i + 2 = j
            · subst e
              intro e2
              have h8 := hu2 (by omega)
              rw [show i + 2 - 2 = i by omega, e2] at h8
              have h7 := (bit_0 (by omega) (by omega)).mp hb
              rw [h8] at h7; cases h7
            · exact hB i (by omega) h
        · exact Ev_t (pk_sneg (b := 48) (by omega) (by omega)) (h102 _ hbad)
    · rintro self a1 a2 ⟨rfl, _, hA, hB⟩
      unfold L_X8_faultFor_11_4
      exact Ev_t (by rw [hc]; exact Int32.le_refl _) (hj0 ⟨hA, hB⟩)
