/-! CASE tests: the class -/
def tN (n k : Nat) (f o : Nat → Nat) (j r : Nat) : Bool := tellP n k f o (j / 3) (j % 3) r
def cov (n k : Nat) (f o : Nat → Nat) (R : List Nat) : Prop := ∀ j, j < 3 * k → (∃ r, r < 2 ^ n ∧ tN n k f o j r = true) → ∃ r, r ∈ R ∧ r < 2 ^ n ∧ tN n k f o j r = true
def HtP (n k : Nat) (f o : Nat → Nat) (m : Nat) : Prop := ∃ R : List Nat, R.length ≤ m ∧ cov n k f o R
def InvT (n k : Nat) (f o : Nat → Nat) (c : Hp) (P : Nat) (W : List Int64) (h : Hp) : Prop := KpC W h ∧ W.length ≤ P ∧ (∀ w, w ∈ W → w ≠ 0 ∧ ∃ q, q < P ∧ ColN n w (tN n k f o q)) ∧ (∀ q, q < P → (∃ r, r < 2 ^ n ∧ tN n k f o q r = true) → ∃ w, w ∈ W ∧ ∀ r, r < 64 → bt64 w r = true → r < 2 ^ n ∧ tN n k f o q r = true) ∧ Sm [14, 15, 18, 19] c h
theorem Hit_Ht {n k m : Nat} {f o : Nat → Nat} {c h : Hp} {W : List Int64} (hn : n ≤ 6) (hI : InvT n k f o c (3 * k) W h) : HitW W m 0 0 ↔ HtP n k f o m := by
  have hle : 2 ^ n ≤ 2 ^ 6 := Nat.pow_le_pow_right (by omega) hn
  obtain ⟨_, _, h3, h4, _⟩ := hI
  have hz : ∀ w : Int64, w &&& 0 = 0 := fun w => bt_ext (fun j hj => by rw [bt_and, bt_0, Bool.and_false])
  constructor
  · rintro ⟨R, r1, _, r3⟩
    refine ⟨R, r1, fun j hj hne => ?_⟩
    obtain ⟨w, hw, hs⟩ := h4 j hj hne
    obtain ⟨r, hr, hb⟩ := r3 w hw (hz w)
    have h64 : r < 64 := Classical.byContradiction (fun z => by rw [bt_big _ (by omega)] at hb; cases hb)
    exact ⟨r, hr, hs r h64 hb⟩
  · rintro ⟨R, r1, r2⟩
    refine ⟨R, r1, fun r _ => bt_0 r, fun w hw _ => ?_⟩
    obtain ⟨h0, q, hq, hc⟩ := h3 w hw
    obtain ⟨r, hr, y1, y2⟩ := r2 q hq ((hc.nz hn).mp h0)
    refine ⟨r, hr, ?_⟩
    rw [hc r (by omega), decide_eq_true y1, y2]; rfl
theorem C_tests {n k : Nat} {f o : Nat → Nat} {c : Hp} (hG : Good n k f o) (hC : NetC n k f o c) : Ev (f_X10_tests c) (fun r => lstK (HtP n k f o) 4 r.1 ∧ Sm [14, 15, 18, 19] c r.2) := by
  have hn := hG.2.1
  have hk24 := hG.2.2.1
  have hle : 2 ^ n ≤ 2 ^ 6 := Nat.pow_le_pow_right (by omega) hn
  unfold f_X10_tests f_X3_fewestRows_18_13_1
  refine Ev_bd (fun r => lstK (HtP n k f o) 4 r.1 ∧ Sm [14, 15, 18, 19] c r.2) ?_ (fun r hr => Ev_so hr)
  refine Ev_nm (Ev_jn1 (fun h => ∃ W, InvT n k f o c (3 * k) W h) (fun h ⟨W, hW⟩ => ?_) (fun k48 hk => ?_))
  · refine Ev_jn0 (∀ m, m ≤ 4 → ¬ HitW W m 0 0) (fun hno => Ev_so ⟨Or.inr ⟨rfl, fun m hm z => hno m hm ((Hit_Ht hn hW).mpr z)⟩, hW.2.2.2.2⟩) (fun k80 hk1 => ?_)
    refine Ev_jn1 (fun y => lstK (HtP n k f o) 4 y) (fun y hy => Ev_so ⟨hy, hW.2.2.2.2⟩) (fun k72 hk2 => ?_)
    refine Ev_fx1 (fun i a1 => a1 = nI i ∧ ∀ m, m < i → ¬ HitW W m 0 0) 5 ?_ ?_ (FU_lt (by omega)) ⟨rfl, fun m hm => absurd hm (by omega)⟩
    · rintro self i a1 hi ⟨rfl, hno⟩ hself
      unfold L_X3_fewestRows_18_13_1_50
      refine Ev_f (by rw [show (4 : Int32) = nI 4 from rfl, nI_ltI (by omega) (by omega)]; omega) ?_
      rw [hW.1.1]
      refine Ev_bd _ (C_canTell hW.1 (by have := hW.2.1; omega) i 8 0 0 (by omega) (by omega)) (fun y hy => ?_)
      by_cases e : HitW W i 0 0
      · rw [pI_t e] at hy
        exact Ev_f (by rw [hy]; decide) (hk2 _ (Or.inl ⟨i, by omega, rfl, (Hit_Ht hn hW).mp e, fun m hm z => hno m hm ((Hit_Ht hn hW).mpr z)⟩))
      · rw [pI_f e] at hy
        refine Ev_t (by rw [hy]) (hself _ ⟨nI_add i 1, fun m hm => ?_⟩)
        by_cases e2 : m = i
        · rw [e2]; exact e
        · exact hno m (by omega)
    · rintro self a1 ⟨rfl, hno⟩
      unfold L_X3_fewestRows_18_13_1_50
      exact Ev_t (by rw [show (4 : Int32) = nI 4 from rfl, nI_ltI (by omega) (by omega)]; omega) (hk1 (fun m hm => hno m (by omega)))
  · refine Ev_fx2 (fun i a1 h => a1 = nI i ∧ ∃ W, InvT n k f o c (3 * i) W h) k ?_ ?_ (FU_lt (by omega)) ⟨rfl, [], ⟨⟨by rw [wF_1, upd_s]; rfl, fun i hi => absurd hi (by simp)⟩, Nat.zero_le _, fun w hw => (by cases hw), fun q hq => absurd hq (by omega), Sm.rf.sF (by decide)⟩⟩
    · rintro self i a1 h hi ⟨rfl, W, hW⟩ hself
      unfold L_X3_fewestRows_18_13_1_7
      have hN := Sm.nC hC hW.2.2.2.2 (by decide) (by decide) (by decide)
      rw [hN.2.1]
      refine Ev_f (nle_n hi (by omega)) (Ev_jn1 (fun h => ∃ W, InvT n k f o c (3 * (i + 1)) W h) (fun h2 hh => hself _ _ ⟨nI_add i 1, hh⟩) (fun k42 hk2 => ?_))
      refine Ev_fx2 (fun j a1 h => a1 = nI j ∧ ∃ W, InvT n k f o c (3 * i + j) W h) 3 ?_ ?_ (FU_lt (by omega)) ⟨rfl, W, hW⟩
      · rintro self2 j b1 h1 hj ⟨rfl, W, hK, hl, hs, hcm, hS⟩ hself2
        unfold L_X3_fewestRows_18_13_1_18
        have hN1 := Sm.nC hC hS (by decide) (by decide) (by decide)
        refine Ev_f (by rw [show (2 : Int32) = nI 2 from rfl, nI_ltI (by omega) (by omega)]; omega) (Ev_bd _ (s_telling hG hN1 hi (show j ≤ 2 by omega)) (fun r7 ⟨p1, p2, p3⟩ => ?_))
        have hK2 : KpC W r7.2 := ⟨by rw [p2]; exact hK.1, fun x hx => by rw [(p1 19 (by decide)).2]; exact hK.2 x hx⟩
        have e1 : (3 * i + j) / 3 = i := by omega
        have e2 : (3 * i + j) % 3 = j := by omega
        have hcol : ColN n r7.1 (tN n k f o (3 * i + j)) := by
          have : tN n k f o (3 * i + j) = tellP n k f o i j := by
            funext r
            unfold tN
            rw [e1, e2]
          rw [this]; exact p3
        refine Ev_bd _ (C_keep hK2 (by omega)) (fun h3 ⟨W', q1, q2, q3, q4, q5, q6⟩ => hself2 _ _ ⟨nI_add j 1, W', q1, by omega, fun w hw => ?_, fun q hq hne => ?_, ((hS.tr (p1.mono (by decide))).tr (q6.mono (by decide)))⟩)
        · rcases q3 w hw with z | ⟨z, z2⟩
          · obtain ⟨y1, q, y2, y3⟩ := hs w z
            exact ⟨y1, q, by omega, y3⟩
          · exact ⟨by rw [z]; exact z2, 3 * i + j, by omega, by rw [z]; exact hcol⟩
        · by_cases e3 : q = 3 * i + j
          · rw [e3] at hne ⊢
            obtain ⟨w, hw, hsub⟩ := q5 ((hcol.nz hn).mpr hne)
            refine ⟨w, hw, fun r hr hb => ?_⟩
            have := hsub r hr hb
            rw [hcol r hr, Bool.and_eq_true] at this
            exact ⟨of_decide_eq_true this.1, this.2⟩
          · obtain ⟨w, hw, hb⟩ := hcm q (by omega) hne
            obtain ⟨w', hw', hsub⟩ := q4 w hw
            exact ⟨w', hw', fun r hr hbr => hb r hr (hsub r hr hbr)⟩
      · rintro self2 b1 h1 ⟨rfl, hh⟩
        unfold L_X3_fewestRows_18_13_1_18
        exact Ev_t (by rw [show (2 : Int32) = nI 2 from rfl, nI_ltI (by omega) (by omega)]; omega) (hk2 _ hh)
    · rintro self a1 h ⟨rfl, W, hW⟩
      unfold L_X3_fewestRows_18_13_1_7
      have hN := Sm.nC hC hW.2.2.2.2 (by decide) (by decide) (by decide)
      rw [hN.2.1]
      exact Ev_t (Int32.le_refl _) (hk _ ⟨W, hW⟩)
