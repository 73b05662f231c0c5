/-! CASES type, build -/
theorem Inv.taped {c m c1 m1 : Hp} {out out1 : Nat → Int64} (h : Inv (c, m, out)) (hc : Sm [11, 12] c c1) (hm : Sm [0, 8] m m1) (e : ∀ j, j ∈ [1, 2, 7, 14] → m1.1 0 j = m.1 0 j) (hT : TapeR c1 m1) : Inv (c1, m1, out1) := by
  obtain ⟨n, k, f, o, hG, hC, hM, _, hB, hS, hSt, hA⟩ := h
  have ec : ∀ q, q ∉ [11, 12] → c1.1 q = c.1 q := fun q hq => (hc q hq).1
  have em : ∀ q, q ∉ [0, 8] → m1.1 q = m.1 q := fun q hq => (hm q hq).1
  refine ⟨n, k, f, o, hG, hC.keep (by rw [ec 1 (by decide)]) (by rw [ec 1 (by decide)]) (ec 2 (by decide)) (ec 3 (by decide)), hM.keep (e 1 (by decide)) (e 2 (by decide)) (e 7 (by decide)) (em 1 (by decide)) (em 2 (by decide)) (em 4 (by decide)), hT, ?_, ?_, hSt.keep (ec 29 (by decide)), hA.keep (by rw [(hc 32 (by decide)).2]) (em 14 (by decide))⟩
  · obtain ⟨t, v, h1, h2, h3, h4, h5, h6, h7⟩ := hB
    refine ⟨t, v, h1, h2, h3, ?_, (e 14 (by decide)).trans h5, fun x hx => ?_, fun i hi => ?_⟩
    · show c1.1 23 4 = _
      rw [ec 23 (by decide)]; exact h4
    · show c1.1 24 x = _ ∧ c1.1 25 x = _ ∧ m1.1 10 x = _
      rw [ec 24 (by decide), ec 25 (by decide), em 10 (by decide)]; exact h6 x hx
    · show c1.1 27 i = _ ∧ m1.1 9 i = c1.1 27 i
      rw [ec 27 (by decide), em 9 (by decide)]; exact h7 i hi
  · rcases hS with q | ⟨q1, q2⟩
    · exact Or.inl (by rw [ec 20 (by decide)]; exact q)
    · refine Or.inr ⟨by rw [ec 20 (by decide)]; exact q1, fun v hv => ?_⟩
      rw [ec 22 (by decide)]
      exact q2 v hv
def chN (z : Int64) (i : Nat) : Nat := bN z / 2 ^ (8 * i) % 256
theorem ch_lt {z : Int64} {i : Nat} : chN z i < 256 := Nat.mod_lt _ (by omega)
theorem l2i_n {y : Int64} : l2i y = nI (bN y) := by
  unfold l2i
  apply Int32.toBitVec_inj.mp
  apply BitVec.eq_of_toNat_eq
  rw [Int64.toBitVec_toInt32, BitVec.signExtend_eq_setWidth_of_le _ (by omega), BitVec.toNat_setWidth]
  show _ = (BitVec.ofNat 32 (bN y)).toNat
  rw [BitVec.toNat_ofNat]
  rfl
theorem ch_u {z : Int64} {i : Nat} (hi : i < 8) : l2i ((lushr z ((8 : Int32) * nI i)) &&& (255 : Int64)) = nI (chN z i) := by
  rw [n8, nmul, l2i_n, bN_and, bN_shr (by omega)]
  have : bN (255 : Int64) = 2 ^ 8 - 1 := by decide +kernel
  rw [this, Nat.and_two_pow_sub_one_eq_mod]
  rfl
theorem ch_s {z : Int64} {i : Nat} (hi : i < 8) : l2i ((lshr z ((8 : Int32) * nI i)) &&& (255 : Int64)) = nI (chN z i) := by
  rw [← ch_u hi]
  congr 1
  rw [n8, nmul]
  apply bt_ext
  intro j hj
  rw [bt_and, bt_and, bt_lushr (by omega)]
  by_cases e : j < 8
  · rw [bt_lshr (by omega) (by omega)]
  · have : bt64 (255 : Int64) j = false := by
      have h8 : (bN (255 : Int64)).testBit j = false := by
        have : bN (255 : Int64) = 2 ^ 8 - 1 := by decide +kernel
        rw [this, Nat.testBit_two_pow_sub_one]
        exact decide_eq_false e
      exact h8
    rw [this, Bool.and_false, Bool.and_false]
def chB (q : Nat) : Bool := (decide (48 ≤ q) && decide (q ≤ 53)) || decide (q = 58) || decide (q = 47) || decide (q = 32)
theorem chB_ok {q : Nat} (h : chB q = true) : chOk q := by
  unfold chB at h
  simp only [Bool.or_eq_true, Bool.and_eq_true, decide_eq_true_eq] at h
  unfold chOk
  omega
theorem ch_c : ∀ q, q < 256 → i2c (nI q) = nI q ∧ vp_nar .char (nI q) = nI q := by decide +kernel
theorem takes_C : ∀ q, q < 256 → f_X8_takes (nI q) = some (if chB q = true then 1 else 0) := by decide +kernel
theorem takes_M : ∀ q, q < 256 → f_X11_isCharacter (nI q) = some (if chB q = true then 1 else 0) := by decide +kernel
theorem ckc_t2 {β : Type} {r : Int32} {k : Option β} (h : ckc r (some (0 : Int32)) = some 0) : ckc r k = k := by
  unfold ckc at h ⊢
  split at h
  · rename_i hc
    rw [if_pos hc]
  · cases h
theorem ch_ck : ∀ q, q < 256 → ckc (nI q) (some (0 : Int32)) = some 0 := by decide +kernel
theorem signIn {z : Int64} {i : Nat} (hi : i < 8) : f_X8_signIn z (nI i) = some (nI (chN z i)) := by
  unfold f_X8_signIn
  rw [ch_u hi, (ch_c _ ch_lt).1, ckc_t2 (ch_ck _ ch_lt)]
/-- the tape behind j more characters -/
def TapC (t : Nat) (ch : Nat → Nat) (z : Int64) (j : Nat) (c : Hp) : Prop := c.1 11 1 = nI (t + j) ∧ ∀ i, i < t + j → c.1 12 i = nI (if i < t then ch i else chN z (i - t))
def TapM (t : Nat) (ch : Nat → Nat) (z : Int64) (j : Nat) (m : Hp) : Prop := m.1 0 11 = nI (t + j) ∧ ∀ i, i < t + j → m.1 8 i = nI (if i < t then ch i else chN z (i - t))
theorem C_type {t n : Nat} {ch : Nat → Nat} {z : Int64} {c : Hp} (ht : t ≤ 40) (h1 : 1 ≤ n) (h8 : n ≤ 8) (hT : TapC t ch z 0 c) : Ev (f_X10_type c z (nI n)) (fun r => ((∃ i, i < n ∧ chB (chN z i) = false) → r = .inl ("java/lang/IllegalArgumentException", c)) ∧ ((∀ i, i < n → chB (chN z i) = true) → (40 < t + n → r = .inl ("java/lang/IllegalStateException", c)) ∧ (t + n ≤ 40 → ∃ c1, r = .inr (nI (t + n), c1) ∧ Sm [11, 12] c c1 ∧ TapC t ch z n c1))) := by
  unfold f_X10_type
  refine Ev_jn0 False (fun h => h.elim) (fun j hj => Ev_f (by rw [n1, nI_ltI (by omega) (by omega)]; omega) (Ev_t (le_n (b := 8) (by omega) (by omega)) ?_))
  refine Ev_jn0 (∀ i, i < n → chB (chN z i) = true) (fun hA => ?_) (fun k58 h58 => Ev_jn0 (∃ i, i < n ∧ chB (chN z i) = false) (fun hA => Ev_so ⟨fun _ => rfl, fun hB => by obtain ⟨i, hi, e⟩ := hA; rw [hB i hi] at e; cases e⟩) (fun k42 h42 => ?_))
  · rw [hT.1, n40, nsub (by omega)]
    have hno : ¬ ∃ i, i < n ∧ chB (chN z i) = false := by rintro ⟨i, hi, e⟩; rw [hA i hi] at e; cases e
    refine Ev_i (fun e => ?_) (fun e => Ev_so ⟨fun z => absurd z hno, fun _ => ⟨fun _ => rfl, fun z => ?_⟩⟩)
    · rw [nI_leI (by omega) (by omega)] at e
      refine Ev_jn1 (fun h => Sm [11, 12] c h ∧ TapC t ch z n h) (fun h ⟨a1, a2⟩ => Ev_so ⟨fun z => absurd z hno, fun _ => ⟨fun z => absurd z (by omega), fun _ => ⟨h, by rw [a2.1], a1, a2⟩⟩⟩) (fun kk hk => ?_)
      refine Ev_fx2 (fun j a1 a2 => a1 = nI j ∧ Sm [11, 12] c a2 ∧ TapC t ch z j a2) n ?_ ?_ (FU_lt (by omega)) ⟨rfl, Sm.rf, hT⟩
      · rintro self j a1 a2 hj ⟨rfl, hS, t1, t2⟩ hself
        unfold L_X10_type_85
        refine Ev_f (nle_n hj (by omega)) (Ev_bde (signIn (by omega)) (Ev_bd (fun h => Sm [11, 12] c h ∧ TapC t ch z (j + 1) h) ?_ (fun h ⟨q1, q2⟩ => hself _ _ ⟨nI_add j 1, q1, q2⟩)))
        unfold f_X8_put_11
        refine Ev_f (by rw [t1]; exact nle_n (a := 40) (by omega) (by omega)) (Ev_ck t1 (by omega) (by omega) (Ev_nm (Ev_nm (Ev_so ⟨(hS.sCh (by decide)).sF (by decide), ?_, fun i hi => ?_⟩))))
        · rw [wF_1, upd_s, wCh_n _ _ _ _ _ (by decide), t1]; exact nI_add _ 1
        · rw [wF_n _ _ _ _ _ (by decide), wCh_1, t1, clN (by omega), (ch_c _ ch_lt).2]
          by_cases e : i = t + j
          · subst e
            rw [upd_s, if_neg (by omega)]
            congr 2
            omega
          · rw [upd_n _ _ e]; exact t2 i (by omega)
      · rintro self a1 a2 ⟨rfl, hS, hT2⟩
        unfold L_X10_type_85
        exact Ev_t (Int32.le_refl _) (hk _ ⟨hS, hT2⟩)
    · exact absurd (le_n (by omega) (by omega)) e
  · refine Ev_fx1 (fun j a1 => a1 = nI j ∧ ∀ i, i < j → chB (chN z i) = true) n ?_ ?_ (FU_lt (by omega)) ⟨rfl, fun i hi => absurd hi (by omega)⟩
    · rintro self j a1 hj ⟨rfl, hA⟩ hself
      unfold L_X10_type_24
      refine Ev_f (nle_n hj (by omega)) (Ev_bde (signIn (by omega)) (Ev_bde (takes_C _ ch_lt) ?_))
      cases e : chB (chN z j) with
      | false => exact Ev_t rfl (h42 ⟨j, hj, e⟩)
      | true =>
        refine Ev_f (by decide) (hself _ ⟨nI_add j 1, fun i hi => ?_⟩)
        by_cases e2 : i = j
        · rw [e2]; exact e
        · exact hA i (by omega)
    · rintro self a1 ⟨rfl, hA⟩
      unfold L_X10_type_24
      exact Ev_t (Int32.le_refl _) (h58 hA)
theorem M_type {t n : Nat} {ch : Nat → Nat} {z : Int64} {m : Hp} (ht : t ≤ 40) (h1 : 1 ≤ n) (h8 : n ≤ 8) (hT : TapM t ch z 0 m) : Ev (f_X11_type m z (nI n)) (fun r => ((∃ i, i < n ∧ chB (chN z i) = false) → r = (0, wF m 0 0 1)) ∧ ((∀ i, i < n → chB (chN z i) = true) → (40 < t + n → r = (0, wF m 0 0 2)) ∧ (t + n ≤ 40 → r.1 = nI (t + n) ∧ Sm [0, 8] m r.2 ∧ r.2.1 0 0 = 0 ∧ (∀ j, j ≠ 0 → j ≠ 11 → r.2.1 0 j = m.1 0 j) ∧ TapM t ch z n r.2))) := by
  unfold f_X11_type
  refine Ev_bde M_in ?_
  rw [if_neg (by
    rintro (h | h)
    · rw [n1, nI_ltI (by omega) (by omega)] at h; omega
    · rw [n8, nI_ltI (by omega) (by omega)] at h; omega)]
  refine Ev_jn1 (fun a => (a = 1 ∧ ∀ i, i < n → chB (chN z i) = true) ∨ (a = 0 ∧ ∃ i, i < n ∧ chB (chN z i) = false)) (fun a ha => ?_) (fun kk hk => ?_)
  · refine Ev_jn1 (fun w => (w = 1 ∧ ∃ i, i < n ∧ chB (chN z i) = false) ∨ ((∀ i, i < n → chB (chN z i) = true) ∧ ((w = 0 ∧ t + n ≤ 40) ∨ (w = 2 ∧ 40 < t + n)))) (fun w hw => ?_) (fun k72 h72 => ?_)
    · rcases hw with ⟨rfl, hA⟩ | ⟨hA, ⟨rfl, hl⟩ | ⟨rfl, hl⟩⟩
      · refine Ev_nm (Ev_f (by rw [wF_1, upd_s]; decide) (Ev_so ⟨fun _ => rfl, fun hB => ?_⟩))
        obtain ⟨i, hi, e⟩ := hA
        rw [hB i hi] at e; cases e
      · have hno : ¬ ∃ i, i < n ∧ chB (chN z i) = false := by rintro ⟨i, hi, e⟩; rw [hA i hi] at e; cases e
        refine Ev_nm (Ev_t (by rw [wF_1, upd_s]; exact Int32.le_refl _) ?_)
        have q0 : (wF m 0 0 0).1 0 0 = 0 := by rw [wF_1, upd_s]
        have q1 : ∀ j, j ≠ 0 → (wF m 0 0 0).1 0 j = m.1 0 j := fun j hj => by rw [wF_1, upd_n _ _ hj]
        have q2 : TapM t ch z 0 (wF m 0 0 0) := ⟨(q1 11 (by decide)).trans hT.1, fun i hi => by rw [wF_n _ _ _ _ _ (by decide)]; exact hT.2 i hi⟩
        have q3 : Sm [0, 8] m (wF m 0 0 0) := Sm.rf.sF (by decide)
        generalize wF m 0 0 0 = g at q0 q1 q2 q3
        refine Ev_jn1 (fun h => Sm [0, 8] m h ∧ h.1 0 0 = 0 ∧ (∀ j, j ≠ 0 → j ≠ 11 → h.1 0 j = m.1 0 j) ∧ TapM t ch z n h) (fun h ⟨a1, a2, a3, a4⟩ => Ev_so ⟨fun z => absurd z hno, fun _ => ⟨fun z => absurd z (by omega), fun _ => ⟨a4.1, a1, a2, a3, a4⟩⟩⟩) (fun kk hk => ?_)
        refine Ev_fx2 (fun j a1 a2 => a1 = nI j ∧ Sm [0, 8] m a2 ∧ a2.1 0 0 = 0 ∧ (∀ j, j ≠ 0 → j ≠ 11 → a2.1 0 j = m.1 0 j) ∧ TapM t ch z j a2) n ?_ ?_ (FU_lt (by omega)) ⟨rfl, q3, q0, fun j h1 h2 => q1 j h1, q2⟩
        · rintro self j a1 a2 hj ⟨rfl, hS, b0, b1, t1, t2⟩ hself
          unfold L_X11_type_87
          rw [ch_s (by omega)]
          refine Ev_f (nle_n hj (by omega)) (Ev_ck t1 (by omega) (by omega) (Ev_nm (Ev_nm (hself _ _ ⟨nI_add j 1, (hS.sI (by decide)).sF (by decide), ?_, fun i h1 h2 => ?_, ?_, fun i hi => ?_⟩))))
          · rw [wF_1, upd_n _ _ (by decide), wI_n _ _ _ _ _ (by decide)]; exact b0
          · rw [wF_1, upd_n _ _ h2, wI_n _ _ _ _ _ (by decide)]; exact b1 i h1 h2
          · rw [wF_1, upd_s, wI_n _ _ _ _ _ (by decide), t1]; exact nI_add _ 1
          · rw [wF_n _ _ _ _ _ (by decide), wI_1, t1, clN (by omega)]
            by_cases e : i = t + j
            · subst e
              rw [upd_s, if_neg (by omega)]
              congr 2
              omega
            · rw [upd_n _ _ e]; exact t2 i (by omega)
        · rintro self a1 a2 ⟨rfl, hh⟩
          unfold L_X11_type_87
          exact Ev_t (Int32.le_refl _) (hk _ hh)
      · have hno : ¬ ∃ i, i < n ∧ chB (chN z i) = false := by rintro ⟨i, hi, e⟩; rw [hA i hi] at e; cases e
        exact Ev_nm (Ev_f (by rw [wF_1, upd_s]; decide) (Ev_so ⟨fun z => absurd z hno, fun _ => ⟨fun _ => rfl, fun z => absurd z (by omega)⟩⟩))
    · rcases ha with ⟨rfl, hA⟩ | ⟨rfl, hA⟩
      · rw [hT.1, nI_add, n40]
        refine Ev_f (by decide) (Ev_i (fun e => h72 _ (Or.inr ⟨hA, Or.inl ⟨rfl, ?_⟩⟩)) (fun e => h72 _ (Or.inr ⟨hA, Or.inr ⟨rfl, ?_⟩⟩)))
        · rw [nI_leI (by omega) (by omega)] at e; exact e
        · rw [nI_leI (by omega) (by omega)] at e; omega
      · exact Ev_t rfl (h72 _ (Or.inl ⟨rfl, hA⟩))
  · refine Ev_fx2 (fun j a1 a2 => a2 = nI j ∧ ((a1 = 1 ∧ ∀ i, i < j → chB (chN z i) = true) ∨ (a1 = 0 ∧ ∃ i, i < n ∧ chB (chN z i) = false))) n ?_ ?_ (FU_lt (by omega)) ⟨rfl, Or.inl ⟨rfl, fun i hi => absurd hi (by omega)⟩⟩
    · rintro self j a1 a2 hj ⟨rfl, hA⟩ hself
      unfold L_X11_type_12
      refine Ev_f (nle_n hj (by omega)) ?_
      rcases hA with ⟨rfl, hA⟩ | ⟨rfl, hA⟩
      · rw [ch_s (by omega)]
        refine Ev_f (by decide) (Ev_bde (takes_M _ ch_lt) (hself _ _ ⟨nI_add j 1, ?_⟩))
        cases e : chB (chN z j) with
        | false => exact Or.inr ⟨rfl, j, hj, e⟩
        | true =>
          refine Or.inl ⟨rfl, fun i hi => ?_⟩
          by_cases e2 : i = j
          · rw [e2]; exact e
          · exact hA i (by omega)
      · exact Ev_t rfl (hk _ (Or.inr ⟨rfl, hA⟩))
    · rintro self a1 a2 ⟨rfl, hA⟩
      unfold L_X11_type_12
      exact Ev_t (Int32.le_refl _) (hk _ hA)
theorem w8 {x : Int32} : (x < 1 ∨ 8 < x) ∨ ∃ n, 1 ≤ n ∧ n ≤ 8 ∧ x = nI n := by
  by_cases h : x < 0
  · exact Or.inl (Or.inl (Int32.lt_of_lt_of_le h (by decide)))
  · obtain ⟨n, hn, rfl⟩ := nI_of h
    rw [n1, n8, nI_ltI (by omega) (by omega), nI_ltI (by omega) (by omega)]
    by_cases h2 : n < 1 ∨ 8 < n
    · exact Or.inl h2
    · exact Or.inr ⟨n, by omega, by omega, rfl⟩
theorem pc_10 {L : Nat} {xs : Nat → Int32} {i : Int32} {s : LWS} {kont : LWS → Option Unit} (hI : Inv s) (hi : OKi L i) (hk : ∀ s1, Inv s1 → kont s1 = some ()) : lc_10 L xs i s kont = some () := by
  obtain ⟨c, m, out⟩ := s
  have hI0 := hI
  obtain ⟨n, k, f, o, hG, hC, hM, hT, hB, hS, hSt, hA⟩ := hI
  generalize hx : xs (i + 1).toNatClampNeg = x
  generalize hy : xs (i + 2).toNatClampNeg = y
  generalize hz : xs (i + 3).toNatClampNeg = w
  generalize hzz : (lshl (i2l x) (32 : Int32)) ||| ((i2l y) &&& (4294967295 : Int64)) = z
  rcases w8 (x := w) with hb | ⟨p, hp1, hp8, rfl⟩
  · have h1 : f_X10_type c z w = some (.inl ("java/lang/IllegalArgumentException", c)) := by
      refine Ev_eq ?_
      unfold f_X10_type
      refine Ev_jn0 True (fun _ => Ev_so rfl) (fun j hj => Ev_i (fun _ => hj trivial) (fun h0 => Ev_f ?_ (hj trivial)))
      exact Int32.not_le.mpr (hb.resolve_left h0)
    have h2 : f_X11_type m z w = some (0, wF m 0 0 1) := by
      refine Ev_eq ?_
      unfold f_X11_type
      refine Ev_bde M_in ?_
      rw [if_pos hb]
      refine Ev_jn1 (fun a => a = 0) (fun a ha => ?_) (fun kk hkk => ?_)
      · subst ha
        refine Ev_jn1 (fun w => w = 1) (fun w hw => ?_) (fun kk hkk => Ev_t rfl (hkk _ rfl))
        subst hw
        exact Ev_nm (Ev_f (by rw [wF_1, upd_s]; decide) (Ev_so rfl))
      · have hN2 := FU_lt (n := 1) (by omega)
        generalize FU = N at hN2
        obtain ⟨M, rfl⟩ : ∃ M, N = M + 1 := ⟨N - 1, by omega⟩
        show Ev (L_X11_type_12 _ _ _ _ _ _ _) _
        unfold L_X11_type_12
        exact Ev_i (fun _ => hkk _ rfl) (fun _ => Ev_t rfl (hkk _ rfl))
    simp [lc_10, fh_type, hx, hy, hz, hzz, h1, h2, hcatch, bd, nm, setM, setC, setO, f_X11_thrown, jn0, wF_1, upd_s, (hi _).1, (hi _).2.1, (hi _).2.2]
    exact hk _ hI0.thrown
  · obtain ⟨t, ch, t1, t2, t3, t4⟩ := hT
    have hTC : TapC t ch z 0 c := ⟨t2, fun i hi => by rw [if_pos (show i < t from hi)]; exact (t4 i hi).2.1⟩
    have hTM : TapM t ch z 0 m := ⟨t3, fun i hi => by rw [if_pos (show i < t from hi)]; exact (t4 i hi).2.2⟩
    obtain ⟨r1, h1, p1, p2⟩ := C_type t1 hp1 hp8 hTC
    obtain ⟨r2, h2, q1, q2⟩ := M_type t1 hp1 hp8 hTM
    by_cases hA : ∀ i, i < p → chB (chN z i) = true
    · by_cases hl : t + p ≤ 40
      · obtain ⟨c1, rfl, a1, a2⟩ := (p2 hA).2 hl
        obtain ⟨b1, b2, b3, b4, b5⟩ := (q2 hA).2 hl
        simp [lc_10, fh_type, hx, hy, hz, hzz, h1, h2, b1, b3, hcatch, bd, nm, setM, setC, setO, f_X11_thrown, jn0, (hi _).1, (hi _).2.1, (hi _).2.2, updL_s, lgc]
        refine hk _ (hI0.taped a1 b2 (fun j hj => b4 j (by rintro rfl; revert hj; decide) (by rintro rfl; revert hj; decide)) ⟨t + p, fun i => if i < t then ch i else chN z (i - t), hl, a2.1, b5.1, fun i hi => ⟨?_, a2.2 i hi, b5.2 i hi⟩⟩)
        by_cases e : i < t
        · show chOk (if i < t then ch i else _)
          rw [if_pos e]; exact (t4 i e).1
        · show chOk (if i < t then ch i else _)
          rw [if_neg e]; exact chB_ok (hA _ (by omega))
      · have e1 := (p2 hA).1 (by omega)
        have e2 := (q2 hA).1 (by omega)
        subst e1
        subst e2
        simp [lc_10, fh_type, hx, hy, hz, hzz, h1, h2, hcatch, bd, nm, setM, setC, setO, f_X11_thrown, jn0, wF_1, upd_s, (hi _).1, (hi _).2.1, (hi _).2.2]
        exact hk _ hI0.thrown
    · have hA2 : ∃ i, i < p ∧ chB (chN z i) = false := by
        apply Classical.byContradiction
        intro h
        apply hA
        intro i hi
        cases e : chB (chN z i) with
        | true => rfl
        | false => exact absurd ⟨i, hi, e⟩ h
      have e1 := p1 hA2
      have e2 := q1 hA2
      subst e1
      subst e2
      simp [lc_10, fh_type, hx, hy, hz, hzz, h1, h2, hcatch, bd, nm, setM, setC, setO, f_X11_thrown, jn0, wF_1, upd_s, (hi _).1, (hi _).2.1, (hi _).2.2]
      exact hk _ hI0.thrown
