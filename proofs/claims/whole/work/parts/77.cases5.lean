/-! CASES fault, isStep -/
theorem irmN {a b : Nat} (ha : a < 2 ^ 31) (h0 : 0 < b) (hb : b < 2 ^ 31) : irm (nI a) (nI b) = nI (a % b) := pk_rem ha h0 hb
theorem fault_eq {n t : Nat} {ch : Nat → Nat} {c m : Hp} {e : Option Int32} (hn : n ≤ 6) (hn2 : 2 ≤ n) (ht : t ≤ 40) (hc : c.1 11 1 = nI t) (hm : m.1 0 11 = nI t) (hmn : m.1 0 1 = nI n) (hch : ∀ i, i < t → chOk (ch i) ∧ c.1 12 i = nI (ch i) ∧ m.1 8 i = nI (ch i)) : ∀ (d j N : Nat) (U J : Int32), J = nI j → j + d = t → d < N → fx2 (L_X8_faultFor_11_4 c (nI n) (fun x => some x) (fun x => some x) (fun x => some x) e) N U J = fx2 (L_X11_findFault_4 m (fun x => some x) e) N U J := by
  intro d
  induction d with
  | zero =>
    intro j N U J hJ hj hN
    subst hJ
    obtain ⟨M, rfl⟩ : ∃ M, N = M + 1 := ⟨N - 1, by omega⟩
    have ej : j = t := by omega
    subst ej
    simp only [fx2]
    unfold L_X8_faultFor_11_4 L_X11_findFault_4
    rw [if_pos (by rw [hc]; exact Int32.le_refl _), if_pos (by rw [hm]; exact Int32.le_refl _)]
  | succ d ih =>
    intro j N U J hJ hj hN
    subst hJ
    obtain ⟨M, rfl⟩ : ∃ M, N = M + 1 := ⟨N - 1, by omega⟩
    have hjt : j < t := by omega
    obtain ⟨k1, k2, k3⟩ := hch j hjt
    have IH := fun U => ih (j + 1) M U (nI (j + 1)) rfl (by omega) (by omega)
    simp only [fx2]
    generalize fx2 (L_X8_faultFor_11_4 c (nI n) (fun x => some x) (fun x => some x) (fun x => some x) e) M = S1 at IH ⊢
    generalize fx2 (L_X11_findFault_4 m (fun x => some x) e) M = S2 at IH ⊢
    unfold L_X8_faultFor_11_4 L_X11_findFault_4
    have g1 : (c.1 11 1 ≤ nI j) = False := eq_false (by rw [hc]; exact nle_n hjt (by omega))
    have g2 : (m.1 0 11 ≤ nI j) = False := eq_false (by rw [hm]; exact nle_n hjt (by omega))
    simp only [g1, g2, if_false]
    rw [ck_nI (by omega) (by omega), ck_nI (by omega) (by omega)]
    simp only [clN (show j < 2 ^ 31 by omega), k2, k3, n4, n1, n2, irmN (show j < 2 ^ 31 by omega) (show 0 < 4 by omega) (by omega), irmN (show j < 2 ^ 31 by omega) (show 0 < 2 by omega) (by omega), nI_add, jn1, jn0, M_in, hmn, nsub (show 1 ≤ n by omega)]
    have q1 : (nI (j % 4) = nI 1) = (j % 4 = 1) := propext (neqI (by omega) (by omega))
    have q3 : (nI (j % 4) = (3 : Int32)) = (j % 4 = 3) := propext (neqI (b := 3) (by omega) (by omega))
    have q2 : (nI (j % 2) = nI 0) = (j % 2 = 0) := propext (neqI (b := 0) (by omega) (by omega))
    have c58 : ∀ x, x < 100 → (nI x = (58 : Int32)) = (x = 58) := fun x hx => propext (neqI (b := 58) (by omega) (by omega))
    have c47 : ∀ x, x < 100 → (nI x = (47 : Int32)) = (x = 47) := fun x hx => propext (neqI (b := 47) (by omega) (by omega))
    have c32 : ∀ x, x < 100 → (nI x = (32 : Int32)) = (x = 32) := fun x hx => propext (neqI (b := 32) (by omega) (by omega))
    have hlt : ch j < 100 := by
      rcases k1 with h | h | h | h <;> omega
    have t10 : (nI 1 = nI 0) = False := eq_false (by decide)
    have t00 : (nI 0 = nI 0) = True := eq_true rfl
    have t1 : ((1 : Int32) = 0) = False := eq_false (by decide)
    simp only [q1, q2, q3, c58 _ hlt, c47 _ hlt, c32 _ hlt, n0, t10, t00, if_false, if_true]
    by_cases h1 : j % 4 = 1
    · have hj2 : (j % 2 = 0) = False := eq_false (by omega)
      have h1 := eq_true h1
      by_cases e58 : ch j = 58
      · have e47 : (ch j = 47) = False := eq_false (by omega)
        have e58 := eq_true e58
        simp only [h1, e58, hj2, e47, q2, t10, if_true, if_false]
        exact IH U
      · have e58 := eq_false e58
        simp only [h1, e58, t00, if_true, if_false]
    · by_cases h3 : j % 4 = 3
      · have hj2 : (j % 2 = 0) = False := eq_false (by omega)
        have h1 := eq_false h1
        have h3 := eq_true h3
        by_cases e32 : ch j = 32
        · have e47 : (ch j = 47) = False := eq_false (by omega)
          have e32 := eq_true e32
          simp only [h1, h3, e32, e47, hj2, q2, t10, if_true, if_false]
          exact IH U
        · by_cases e47 : ch j = 47
          · have e32 := eq_false e32
            have e47 := eq_true e47
            simp only [h1, h3, e32, e47, hj2, q2, t10, if_true, if_false]
            exact IH 0
          · have e32 := eq_false e32
            have e47 := eq_false e47
            simp only [h1, h3, e32, e47, t00, if_true, if_false]
      · have h1 := eq_false h1
        have h3 := eq_false h3
        have hj2 : (j % 2 = 0) = True := eq_true (by omega)
        have hneg : ∀ x, x < 48 → nI x - (48 : Int32) < 0 := fun x hx => pk_sneg (b := 48) (by omega) hx
        simp only [h1, h3, hj2, q2, if_true, if_false, nm, bd]
        rcases k1 with h | h | h | h
        · have e : nI (ch j) - (48 : Int32) = nI (ch j - 48) := nsub (b := 48) h.1
          have e47 : (ch j = 47) = False := eq_false (by omega)
          have p0 : (nI (ch j - 48) < nI 0) = False := eq_false (nI_pos (by omega))
          simp only [e, p0, if_false, false_or, e47]
          by_cases hw : n ≤ ch j - 48
          · have p1 : (nI n ≤ nI (ch j - 48)) = True := eq_true (le_n hw (by omega))
            have p2 : (nI (n - 1) < nI (ch j - 48)) = True := eq_true (nI_lt (by omega) (by omega))
            simp only [p1, p2, if_true, t00]
          · have p1 : (nI n ≤ nI (ch j - 48)) = False := eq_false (nle_n (by omega) (by omega))
            have p2 : (nI (n - 1) < nI (ch j - 48)) = False := eq_false (by rw [nI_ltI (by omega) (by omega)]; omega)
            simp only [p1, p2, if_false, t10]
            by_cases hb : (ishr U (nI (ch j - 48)) &&& nI 1) = nI 0
            · have hb := eq_true hb
              simp only [hb, if_true, t10, if_false]
              exact IH _
            · have hb := eq_false hb
              simp only [hb, if_false, t00, if_true]
        · have e : nI (ch j) - (48 : Int32) = nI 10 := by rw [h]; rfl
          have p0 : (nI 10 < nI 0) = False := eq_false (by decide)
          have p1 : (nI n ≤ nI 10) = True := eq_true (le_n (by omega) (by omega))
          have p2 : (nI (n - 1) < nI 10) = True := eq_true (nI_lt (by omega) (by omega))
          simp only [e, p0, p1, p2, if_true, if_false, false_or, t00]
        · have p0 : (nI (ch j) - (48 : Int32) < nI 0) = True := eq_true (hneg (ch j) (by omega))
          simp only [p0, if_true, true_or, t00]
        · have p0 : (nI (ch j) - (48 : Int32) < nI 0) = True := eq_true (hneg (ch j) (by omega))
          simp only [p0, if_true, true_or, t00]
/-- the fault is the same, of whatever heap holds the tape -/
theorem fault_same {n : Nat} {c m : Hp} (hn : n ≤ 6) (hn2 : 2 ≤ n) (hmn : m.1 0 1 = nI n) (hT : TapeR c m) : f_X8_faultFor_11 c (nI n) = f_X11_findFault m := by
  obtain ⟨t, ch, h1, h2, h3, h4⟩ := hT
  unfold f_X8_faultFor_11 f_X11_findFault
  generalize hN : FU = N
  have hN2 : t < N := by rw [← hN]; exact FU_lt (by omega)
  simp only [jn0, jn1]
  rw [h2, h3]
  exact fault_eq hn hn2 h1 h2 h3 hmn h4 t 0 N 0 0 rfl (by omega) hN2
theorem fault_some {n : Nat} {m : Hp} {t : Nat} {ch : Nat → Nat} (hn : n ≤ 6) (hn2 : 2 ≤ n) (hmn : m.1 0 1 = nI n) (ht : t ≤ 40) (hm : m.1 0 11 = nI t) (hch : ∀ i, i < t → chOk (ch i) ∧ m.1 8 i = nI (ch i)) : Ev (f_X11_findFault m) (fun _ => True) := by
  unfold f_X11_findFault
  refine Ev_jn0 True (fun _ => ?_) (fun j0 hj0 => Ev_jn1 (fun _ => True) (fun a _ => Ev_so trivial) (fun j1 hj1 => ?_))
  · exact Ev_i (fun _ => Ev_so trivial) (fun _ => Ev_so trivial)
  · refine Ev_fx2 (fun j a1 a2 => a2 = nI j) t ?_ ?_ (FU_lt (by omega)) rfl
    · rintro self j a1 a2 hj rfl hself
      unfold L_X11_findFault_4
      refine Ev_f (by rw [hm]; exact nle_n hj (by omega)) (Ev_ck rfl (by omega) (by omega) ?_)
      have hs : ∀ U, Ev (self U (nI j + 1)) (fun _ => True) := fun U => hself _ _ (nI_add j 1)
      refine Ev_jn1 (fun _ => True) (fun z _ => ?_) (fun kk hkk => ?_)
      · exact Ev_i (fun _ => hj1 _ trivial) (fun _ => Ev_i (fun _ => hs _) (fun _ => Ev_i (fun _ => Ev_nm (hs _)) (fun _ => hs _)))
      · refine Ev_i (fun _ => Ev_i (fun _ => hkk _ trivial) (fun _ => hkk _ trivial)) (fun _ => Ev_i (fun _ => ?_) (fun _ => ?_))
        · exact Ev_jn0 True (fun _ => hkk _ trivial) (fun k2 hk2 => Ev_i (fun _ => hk2 trivial) (fun _ => Ev_i (fun _ => hk2 trivial) (fun _ => hkk _ trivial)))
        · exact Ev_bde M_in (Ev_jn0 True (fun _ => hkk _ trivial) (fun k2 hk2 => Ev_i (fun _ => hk2 trivial) (fun _ => Ev_i (fun _ => hkk _ trivial) (fun _ => hk2 trivial))))
    · rintro self a1 a2 rfl
      unfold L_X11_findFault_4
      exact Ev_t (by rw [hm]; exact Int32.le_refl _) (hj0 trivial)
theorem pc_12 {L : Nat} {xs : Nat → Int32} {i : Int32} {s : LWS} {kont : LWS → Option Unit} (hI : Inv s) (hk : ∀ s1, Inv s1 → kont s1 = some ()) : lc_12 L xs i s kont = some () := by
  obtain ⟨c, m, out⟩ := s
  have hI0 := hI
  obtain ⟨n, k, f, o, hG, hC, hM, hT, hB, hS, hSt, hA⟩ := hI
  have z0 : (wF m 0 0 0).1 0 1 = nI n := by rw [wF_1, upd_n _ _ (by decide)]; exact hM.1
  have hT2 : TapeR c (wF m 0 0 0) := hT.keep rfl rfl (by rw [wF_1, upd_n _ _ (by decide)]) (wF_n _ _ _ _ _ (by decide))
  have h1 := fault_same hG.2.1 hG.1 z0 hT2
  obtain ⟨t, ch, y1, y2, y3, y4⟩ := hT2
  obtain ⟨r, h2, -⟩ := fault_some hG.2.1 hG.1 z0 y1 y3 (fun i hi => ⟨(y4 i hi).1, (y4 i hi).2.2⟩)
  rw [h2] at h1
  have e1 : c.1 1 0 = nI n := hC.1
  simp only [lc_12, f_X10_fault, f_X11_fault, e1, h1, h2, bd, nm, setM, setC, eq_self, if_true]
  exact hk _ hI0.thrown

