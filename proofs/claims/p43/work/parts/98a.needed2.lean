/-! CASE needed: the class -/
def okA (n : Nat) (q : Nat) (z : Int64) (a b : Nat) : Prop := 0 < ctC n (lsB z a b) ∧ 0 < ctC n (lsB z b a) ∧ SzP n q (lsB z a b) ∧ SzP n q (lsB z b a)
theorem C_settle {n : Nat} (hn : n ≤ 6) (hn2 : 2 ≤ n) : ∀ (q d : Nat) (h : Hp) (z : Int64), q < d → q < 10 → okBits n z → Ev (f_X0_canSettle_33 d h z (nI (ctC n z)) (nI n) (nI q)) (fun r => r.1 = pI (SzP n q z) ∧ Sm [34] h r.2)
  | 0, d, h, z, hd, _, hz => by
    obtain ⟨d, rfl⟩ : ∃ d', d = d' + 1 := ⟨d - 1, by omega⟩
    have hl := ct_le720 (n := n) (z := z) hn
    show Ev (if 1 < nI (ctC n z) then _ else _) _
    refine Ev_i (fun e => ?_) (fun e => ?_)
    · rw [show (1 : Int32) = nI 1 from rfl, nI_ltI (by omega) (by omega)] at e
      refine Ev_t (Int32.le_refl _) (Ev_ckz (Or.inl rfl) (Ev_so ⟨(pI_f ?_).symm, Sm.rf⟩))
      intro (h2 : ctC n z ≤ 1)
      omega
    · rw [show (1 : Int32) = nI 1 from rfl, nI_ltI (by omega) (by omega)] at e
      refine Ev_ckz (Or.inr rfl) (Ev_so ⟨(pI_t ?_).symm, Sm.rf⟩)
      show ctC n z ≤ 1
      omega
  | q + 1, d, h, z, hd, hq, hz => by
    obtain ⟨d, rfl⟩ : ∃ d', d = d' + 1 := ⟨d - 1, by omega⟩
    have hl := ct_le720 (n := n) (z := z) hn
    have ih := C_settle hn hn2 q d
    show Ev (if 1 < nI (ctC n z) then _ else _) _
    refine Ev_i (fun e => ?_) (fun e => ?_)
    · rw [show (1 : Int32) = nI 1 from rfl, nI_ltI (by omega) (by omega)] at e
      refine Ev_f (nle_n (a := q + 1) (b := 0) (by omega) (by omega)) ?_
      have hpow : 2 ^ (q + 1) ≤ 2 ^ 10 := Nat.pow_le_pow_right (by omega) (by omega)
      rw [shl1 (by omega)]
      refine Ev_i (fun e2 => ?_) (fun e2 => ?_)
      · have hok : (∃ a b, a < b ∧ b < n ∧ okA n q z a b) ↔ SzP n (q + 1) z := by
          constructor
          · rintro ⟨a, b, h1, h2, h3⟩; exact Or.inr ⟨a, b, h1, h2, h3⟩
          · rintro (h1 | ⟨a, b, h1, h2, h3⟩)
            · omega
            · exact ⟨a, b, h1, h2, h3⟩
        refine Ev_jn1 (fun h1 => Sm [34] h h1 ∧ ¬ SzP n (q + 1) z) (fun h1 ⟨p1, p2⟩ => Ev_ckz (Or.inl rfl) (Ev_so ⟨(pI_f p2).symm, p1⟩)) (fun k141 hk1 => ?_)
        refine Ev_jn1 (fun h1 => Sm [34] h h1 ∧ SzP n (q + 1) z) (fun h1 ⟨p1, p2⟩ => Ev_ckz (Or.inr rfl) (Ev_so ⟨(pI_t p2).symm, p1⟩)) (fun k127 hk2 => ?_)
        refine Ev_fx2 (fun a a1 h1 => a1 = nI a ∧ Sm [34] h h1 ∧ ∀ a' b, a' < a → a' < b → b < n → ¬ okA n q z a' b) n ?_ ?_ (FU_lt (by omega)) ⟨rfl, Sm.rf, fun a' b z => absurd z (by omega)⟩
        · rintro self a a1 h1 ha ⟨rfl, hS, hno⟩ hself
          unfold L_X0_canSettle_33_25
          rw [n1, nI_add]
          refine Ev_f (nle_n ha (by omega)) (Ev_nm (Ev_jn1 (fun h2 => Sm [34] h h2 ∧ ∀ b, a < b → b < n → ¬ okA n q z a b) (fun h2 ⟨p1, p2⟩ => hself _ _ ⟨rfl, p1, fun a' b z1 z2 z3 => ?_⟩) (fun k135 hk3 => ?_)))
          · by_cases e3 : a' = a
            · rw [e3] at z2 ⊢; exact p2 b z2 z3
            · exact hno a' b (by omega) z2 z3
          · refine Ev_fx2 (fun i a1 h1 => a1 = nI (a + 1 + i) ∧ Sm [34] h h1 ∧ ∀ b, a < b → b < a + 1 + i → ¬ okA n q z a b) (n - 1 - a) ?_ ?_ (FU_lt (by omega)) ⟨rfl, hS, fun b z1 z2 => absurd z1 (by omega)⟩
            · rintro self2 i b1 h2 hi ⟨rfl, hS2, hno2⟩ hself2
              generalize hb : a + 1 + i = b at hno2 hself2 ⊢
              have hbn : b < n := by omega
              have hnext : a + 1 + (i + 1) = b + 1 := by omega
              rw [hnext] at hself2
              have hz1 := ls_ok hn ha hbn hz
              have hz2 := ls_ok hn hbn ha hz
              have hs2 := ct_split2 (z := z) hn ha hbn (by omega)
              unfold L_X0_canSettle_33_38
              refine Ev_f (nle_n hbn (by omega)) (Ev_bde isL (Ev_nm (Ev_bde isL (Ev_nm ?_))))
              have hgo : ∀ h3, Sm [34] h h3 → ¬ okA n q z a b → Ev (self2 (nI b + 1) h3) (fun r => r.1 = pI (SzP n (q + 1) z) ∧ Sm [34] h r.2) := fun h3 z1 z2 => by
                refine hself2 _ _ ⟨nI_add b 1, z1, fun b' y1 y2 => ?_⟩
                by_cases e3 : b' = b
                · rw [e3]; exact z2
                · exact hno2 b' y1 (by omega)
              show Ev (bd (f_X0_countOf_33 h2 (lsB z a b) (nI n)) _) _
              refine Ev_bd _ (C_left hn hz1) (fun r1 ⟨p1, p2⟩ => ?_)
              rw [p1, nsub (by omega), show ctC n z - ctC n (lsB z a b) = ctC n (lsB z b a) by omega]
              refine Ev_nm (Ev_i (fun e3 => ?_) (fun e3 => ?_))
              · rw [show (0 : Int32) = nI 0 from rfl, nI_leI (by omega) (by omega)] at e3
                exact hgo _ (hS2.tr p2) (fun y => by have := y.1; omega)
              · rw [show (0 : Int32) = nI 0 from rfl, nI_leI (by omega) (by omega)] at e3
                refine Ev_i (fun e4 => ?_) (fun e4 => ?_)
                · rw [show (0 : Int32) = nI 0 from rfl, nI_leI (by omega) (by omega)] at e4
                  exact hgo _ (hS2.tr p2) (fun y => by have := y.2.1; omega)
                · rw [show (0 : Int32) = nI 0 from rfl, nI_leI (by omega) (by omega)] at e4
                  rw [n1, nsub (by omega), Nat.add_sub_cancel]
                  refine Ev_bd (fun r => r.1 = pI (SzP n q (lsB z a b)) ∧ Sm [34] r1.2 r.2) (ih r1.2 _ (by omega) (by omega) hz1) (fun r2 ⟨p3, p4⟩ => ?_)
                  by_cases e5 : SzP n q (lsB z a b)
                  · rw [pI_t e5] at p3
                    refine Ev_f (by rw [p3]; decide) (Ev_bd (fun r => r.1 = pI (SzP n q (lsB z b a)) ∧ Sm [34] r2.2 r.2) (ih r2.2 _ (by omega) (by omega) hz2) (fun r3 ⟨p5, p6⟩ => ?_))
                    by_cases e6 : SzP n q (lsB z b a)
                    · rw [pI_t e6] at p5
                      exact Ev_f (by rw [p5]; decide) (hk2 _ ⟨((hS2.tr p2).tr p4).tr p6, hok.mp ⟨a, b, by omega, hbn, by omega, by omega, e5, e6⟩⟩)
                    · rw [pI_f e6] at p5
                      exact Ev_t (by rw [p5]) (hgo _ (((hS2.tr p2).tr p4).tr p6) (fun y => e6 y.2.2.2))
                  · rw [pI_f e5] at p3
                    exact Ev_t (by rw [p3]) (hgo _ ((hS2.tr p2).tr p4) (fun y => e5 y.2.2.1))
            · rintro self2 b1 h2 ⟨rfl, hS2, hno2⟩
              unfold L_X0_canSettle_33_38
              exact Ev_t (le_n (by omega) (by omega)) (hk3 _ ⟨hS2, fun b z1 z2 => hno2 b z1 (by omega)⟩)
        · rintro self a1 h1 ⟨rfl, hS, hno⟩
          unfold L_X0_canSettle_33_25
          refine Ev_t (Int32.le_refl _) (hk1 _ ⟨hS, fun y => ?_⟩)
          obtain ⟨a, b, y1, y2, y3⟩ := hok.mpr y
          exact hno a b (by omega) y1 y2 y3
      · rw [nI_leI (by omega) (by omega)] at e2
        exact Ev_ckz (Or.inl rfl) (Ev_so ⟨(pI_f (fun y => e2 (Sz_pow hn _ _ y))).symm, Sm.rf⟩)
    · rw [show (1 : Int32) = nI 1 from rfl, nI_ltI (by omega) (by omega)] at e
      refine Ev_ckz (Or.inr rfl) (Ev_so ⟨(pI_t ?_).symm, Sm.rf⟩)
      exact Or.inl (by omega)
theorem C_needed {n k : Nat} {f o : Nat → Nat} {c m : Hp} (hG : Good n k f o) (hC : NetC n k f o c) (hA : AdvR n c m) : Ev (f_X10_needed c) (fun r => (n ≤ 4 → ∃ d, d ≤ 6 ∧ r.1 = nI d ∧ ndP (fun q => SzP n q (c.2 32 0)) d) ∧ (¬ n ≤ 4 → r.1 = -1) ∧ Sm [34] c r.2) := by
  have hn := hG.2.1
  have hn2 := hG.1
  unfold f_X10_needed f_X0_fewestQuestions_32 f_X0_rowsLeft_32
  have e0 : c.1 1 0 = nI n := hC.1
  rw [e0]
  refine Ev_i (fun e => ?_) (fun e => ?_)
  · have h4 : n ≤ 4 := (nI_leI (b := 4) (by omega) (by omega)).mp e
    obtain ⟨d, hd, hp⟩ := nd_ex (z := c.2 32 0) h4
    have h6 : n * (n - 1) / 2 ≤ 6 := by
      have : n = 2 ∨ n = 3 ∨ n = 4 := by omega
      rcases this with rfl | rfl | rfl <;> omega
    refine Ev_bd (fun r => (n ≤ 4 → ∃ d, d ≤ 6 ∧ r.1 = nI d ∧ ndP (fun q => SzP n q (c.2 32 0)) d) ∧ (¬ n ≤ 4 → r.1 = -1) ∧ Sm [34] c r.2) (Ev_bd (fun r => r.1 = nI (ctC n (c.2 32 0)) ∧ Sm [34] c r.2) (Ev_bd _ (C_left hn hA.1) (fun r hr => Ev_so hr)) (fun r1 ⟨p1, p2⟩ => ?_)) (fun r hr => Ev_so hr)
    refine Ev_jn1 (fun _ => False) (fun h1 hf => hf.elim) (fun k44 _ => ?_)
    refine Ev_jn2 (fun y h1 => y = nI d ∧ Sm [34] c h1) (fun y h1 ⟨q1, q2⟩ => Ev_so ⟨fun _ => ⟨d, by omega, q1, hp⟩, fun z => absurd h4 z, q2⟩) (fun k36 hk => ?_)
    have hstep : ∀ (self : Int32 → Hp → Option (Int32 × Hp)) (j : Nat) (h1 : Hp), j ≤ d → Sm [34] c h1 → (j < d → ∀ h2, Sm [34] c h2 → Ev (self (nI (j + 1)) h2) (fun r => (n ≤ 4 → ∃ d, d ≤ 6 ∧ r.1 = nI d ∧ ndP (fun q => SzP n q (c.2 32 0)) d) ∧ (¬ n ≤ 4 → r.1 = -1) ∧ Sm [34] c r.2)) → Ev (L_X0_fewestQuestions_32_8 (nI n) r1.1 k36 k44 self (nI j) h1) (fun r => (n ≤ 4 → ∃ d, d ≤ 6 ∧ r.1 = nI d ∧ ndP (fun q => SzP n q (c.2 32 0)) d) ∧ (¬ n ≤ 4 → r.1 = -1) ∧ Sm [34] c r.2) := by
      intro self j h1 hj hS hs
      unfold L_X0_fewestQuestions_32_8
      have hsm := (hS 32 (by decide)).2
      rw [n1, nsub (by omega), nmul, show (2 : Int32) = nI 2 from rfl, ndiv (Nat.lt_of_le_of_lt (Nat.mul_le_mul (show n ≤ 4 from h4) (show n - 1 ≤ 4 by omega)) (by omega)) (by omega) (by omega), p1]
      refine Ev_f (by rw [nI_ltI (by omega) (by omega)]; omega) ?_
      have e3 : h1.2 32 0 = c.2 32 0 := by rw [hsm]
      rw [e3]
      refine Ev_bd _ (C_settle hn hn2 j 8 h1 _ (by omega) (by omega) hA.1) (fun r3 ⟨q1, q2⟩ => ?_)
      by_cases e4 : j = d
      · have := (hp j).mpr (by omega)
        rw [pI_t this] at q1
        exact Ev_f (by rw [q1]; decide) (hk _ _ ⟨by rw [e4], hS.tr q2⟩)
      · have h5 : ¬ SzP n j (c.2 32 0) := fun y => by have := (hp j).mp y; omega
        rw [pI_f h5] at q1
        refine Ev_t (by rw [q1]) ?_
        rw [nI_add]
        exact hs (by omega) _ (hS.tr q2)
    refine Ev_fx2 (fun j a1 h1 => a1 = nI j ∧ Sm [34] c h1) d ?_ ?_ (FU_lt (by omega)) ⟨rfl, p2⟩
    · rintro self j a1 h1 hj ⟨rfl, hS⟩ hself
      exact hstep self j h1 (by omega) hS (fun _ h2 hS2 => hself _ _ ⟨rfl, hS2⟩)
    · rintro self a1 h1 ⟨rfl, hS⟩
      exact hstep self d h1 (by omega) hS (fun y => absurd y (by omega))
  · have h4 : ¬ n ≤ 4 := fun z => e ((nI_leI (b := 4) (by omega) (by omega)).mpr z)
    exact Ev_so ⟨fun z => absurd z h4, fun _ => rfl, Sm.rf⟩
