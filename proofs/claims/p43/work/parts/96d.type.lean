/-! CASES type, build -/
def chN (z : Int64) (i : Nat) : Nat := bN z / 2 ^ (8 * i) % 256
theorem ch_lt {z : Int64} {i : Nat} : chN z i < 256 := Nat.mod_lt _ (by omega)
theorem l2i_n {y : Int64} : l2i y = nI (bN y) := by
  unfold l2i
  apply Int32.toBitVec_inj.mp
  apply BitVec.eq_of_toNat_eq
  rw [Int64.toBitVec_toInt32, BitVec.signExtend_eq_setWidth_of_le _ (by omega), BitVec.toNat_setWidth]
  show _ = (BitVec.ofNat 32 (bN y)).toNat
  rw [BitVec.toNat_ofNat]
  rfl
theorem ch_u {z : Int64} {i : Nat} (hi : i < 8) : l2i ((lushr z ((8 : Int32) * nI i)) &&& (255 : Int64)) = nI (chN z i) := by
  rw [n8, nmul, l2i_n, bN_and, bN_shr (by omega)]
  have : bN (255 : Int64) = 2 ^ 8 - 1 := by decide +kernel
  rw [this, Nat.and_two_pow_sub_one_eq_mod]
  rfl
theorem ch_s {z : Int64} {i : Nat} (hi : i < 8) : l2i ((lshr z ((8 : Int32) * nI i)) &&& (255 : Int64)) = nI (chN z i) := by
  rw [← ch_u hi]
  congr 1
  rw [n8, nmul]
  apply bt_ext
  intro j hj
  rw [bt_and, bt_and, bt_lushr (by omega)]
  by_cases e : j < 8
  · rw [bt_lshr (by omega) (by omega)]
  · have : bt64 (255 : Int64) j = false := by
      have h8 : (bN (255 : Int64)).testBit j = false := by
        have : bN (255 : Int64) = 2 ^ 8 - 1 := by decide +kernel
        rw [this, Nat.testBit_two_pow_sub_one]
        exact decide_eq_false e
      exact h8
    rw [this, Bool.and_false, Bool.and_false]
def chB (q : Nat) : Bool := (decide (48 ≤ q) && decide (q ≤ 53)) || decide (q = 58) || decide (q = 47) || decide (q = 32)
theorem chB_ok {q : Nat} (h : chB q = true) : chOk q := by
  unfold chB at h
  simp only [Bool.or_eq_true, Bool.and_eq_true, decide_eq_true_eq] at h
  unfold chOk
  omega
theorem ch_c : ∀ q, q < 256 → i2c (nI q) = nI q ∧ vp_nar .char (nI q) = nI q := by decide +kernel
theorem takes_C : ∀ q, q < 256 → f_X8_takes (nI q) = some (if chB q = true then 1 else 0) := by decide +kernel
theorem ckc_t2 {β : Type} {r : Int32} {k : Option β} (h : ckc r (some (0 : Int32)) = some 0) : ckc r k = k := by
  unfold ckc at h ⊢
  split at h
  · rename_i hc
    rw [if_pos hc]
  · cases h
theorem ch_ck : ∀ q, q < 256 → ckc (nI q) (some (0 : Int32)) = some 0 := by decide +kernel
theorem signIn {z : Int64} {i : Nat} (hi : i < 8) : f_X8_signIn z (nI i) = some (nI (chN z i)) := by
  unfold f_X8_signIn
  rw [ch_u hi, (ch_c _ ch_lt).1, ckc_t2 (ch_ck _ ch_lt)]
/-- the tape behind j more characters -/
def TapC (t : Nat) (ch : Nat → Nat) (z : Int64) (j : Nat) (c : Hp) : Prop := c.1 11 1 = nI (t + j) ∧ ∀ i, i < t + j → c.1 12 i = nI (if i < t then ch i else chN z (i - t))
def TapM (t : Nat) (ch : Nat → Nat) (z : Int64) (j : Nat) (m : Hp) : Prop := m.1 0 11 = nI (t + j) ∧ ∀ i, i < t + j → m.1 8 i = nI (if i < t then ch i else chN z (i - t))
theorem C_type {t n : Nat} {ch : Nat → Nat} {z : Int64} {c : Hp} (ht : t ≤ 40) (h1 : 1 ≤ n) (h8 : n ≤ 8) (hT : TapC t ch z 0 c) : Ev (f_X10_type c z (nI n)) (fun r => ((∃ i, i < n ∧ chB (chN z i) = false) → r = .inl ("java/lang/IllegalArgumentException", c)) ∧ ((∀ i, i < n → chB (chN z i) = true) → (40 < t + n → r = .inl ("java/lang/IllegalStateException", c)) ∧ (t + n ≤ 40 → ∃ c1, r = .inr (nI (t + n), c1) ∧ Sm [11, 12] c c1 ∧ TapC t ch z n c1))) := by
  unfold f_X10_type
  refine Ev_jn0 False (fun h => h.elim) (fun j hj => Ev_f (by rw [n1, nI_ltI (by omega) (by omega)]; omega) (Ev_t (le_n (b := 8) (by omega) (by omega)) ?_))
  refine Ev_jn0 (∀ i, i < n → chB (chN z i) = true) (fun hA => ?_) (fun k58 h58 => Ev_jn0 (∃ i, i < n ∧ chB (chN z i) = false) (fun hA => Ev_so ⟨fun _ => rfl, fun hB => by obtain ⟨i, hi, e⟩ := hA; rw [hB i hi] at e; cases e⟩) (fun k42 h42 => ?_))
  · rw [hT.1, n40, nsub (by omega)]
    have hno : ¬ ∃ i, i < n ∧ chB (chN z i) = false := by rintro ⟨i, hi, e⟩; rw [hA i hi] at e; cases e
    refine Ev_i (fun e => ?_) (fun e => Ev_so ⟨fun z => absurd z hno, fun _ => ⟨fun _ => rfl, fun z => ?_⟩⟩)
    · rw [nI_leI (by omega) (by omega)] at e
      refine Ev_jn1 (fun h => Sm [11, 12] c h ∧ TapC t ch z n h) (fun h ⟨a1, a2⟩ => Ev_so ⟨fun z => absurd z hno, fun _ => ⟨fun z => absurd z (by omega), fun _ => ⟨h, by rw [a2.1], a1, a2⟩⟩⟩) (fun kk hk => ?_)
      refine Ev_fx2 (fun j a1 a2 => a1 = nI j ∧ Sm [11, 12] c a2 ∧ TapC t ch z j a2) n ?_ ?_ (FU_lt (by omega)) ⟨rfl, Sm.rf, hT⟩
      · rintro self j a1 a2 hj ⟨rfl, hS, t1, t2⟩ hself
        unfold L_X10_type_85
        refine Ev_f (nle_n hj (by omega)) (Ev_bde (signIn (by omega)) (Ev_bd (fun h => Sm [11, 12] c h ∧ TapC t ch z (j + 1) h) ?_ (fun h ⟨q1, q2⟩ => hself _ _ ⟨nI_add j 1, q1, q2⟩)))
        unfold f_X8_put_11
        refine Ev_f (by rw [t1]; exact nle_n (a := 40) (by omega) (by omega)) (Ev_ck t1 (by omega) (by omega) (Ev_nm (Ev_nm (Ev_so ⟨(hS.sCh (by decide)).sF (by decide), ?_, fun i hi => ?_⟩))))
        · rw [wF_1, upd_s, wCh_n _ _ _ _ _ (by decide), t1]; exact nI_add _ 1
        · rw [wF_n _ _ _ _ _ (by decide), wCh_1, t1, clN (by omega), (ch_c _ ch_lt).2]
          by_cases e : i = t + j
          · subst e
            rw [upd_s, if_neg (by omega)]
            congr 2
            omega
          · rw [upd_n _ _ e]; exact t2 i (by omega)
      · rintro self a1 a2 ⟨rfl, hS, hT2⟩
        unfold L_X10_type_85
        exact Ev_t (Int32.le_refl _) (hk _ ⟨hS, hT2⟩)
    · exact absurd (le_n (by omega) (by omega)) e
  · refine Ev_fx1 (fun j a1 => a1 = nI j ∧ ∀ i, i < j → chB (chN z i) = true) n ?_ ?_ (FU_lt (by omega)) ⟨rfl, fun i hi => absurd hi (by omega)⟩
    · rintro self j a1 hj ⟨rfl, hA⟩ hself
      unfold L_X10_type_24
      refine Ev_f (nle_n hj (by omega)) (Ev_bde (signIn (by omega)) (Ev_bde (takes_C _ ch_lt) ?_))
      cases e : chB (chN z j) with
      | false => exact Ev_t rfl (h42 ⟨j, hj, e⟩)
      | true =>
        refine Ev_f (by decide) (hself _ ⟨nI_add j 1, fun i hi => ?_⟩)
        by_cases e2 : i = j
        · rw [e2]; exact e
        · exact hA i (by omega)
    · rintro self a1 ⟨rfl, hA⟩
      unfold L_X10_type_24
      exact Ev_t (Int32.le_refl _) (h58 hA)
theorem w8 {x : Int32} : (x < 1 ∨ 8 < x) ∨ ∃ n, 1 ≤ n ∧ n ≤ 8 ∧ x = nI n := by
  by_cases h : x < 0
  · exact Or.inl (Or.inl (Int32.lt_of_lt_of_le h (by decide)))
  · obtain ⟨n, hn, rfl⟩ := nI_of h
    rw [n1, n8, nI_ltI (by omega) (by omega), nI_ltI (by omega) (by omega)]
    by_cases h2 : n < 1 ∨ 8 < n
    · exact Or.inl h2
    · exact Or.inr ⟨n, by omega, by omega, rfl⟩
