/-! CASE prune -/
def useB (n : Nat) (f o : Nat → Nat) (i : Nat) : Bool := (List.range (2 ^ n)).any (fun r => netB f o 99 0 i (bR r) (f i) && !netB f o 99 0 i (bR r) (o i))
def kpN (n : Nat) (f o : Nat → Nat) (i : Nat) : Nat := ctB (useB n f o) i
def pkA (n : Nat) (f o g : Nat → Nat) : Nat → Nat → Nat
  | 0 => g
  | i + 1 => if useB n f o i = true then updN (pkA n f o g i) (kpN n f o i) (g i) else pkA n f o g i
theorem kp_t {n i : Nat} {f o : Nat → Nat} (h : useB n f o i = true) : kpN n f o (i + 1) = kpN n f o i + 1 := by
  show ctB _ i + _ = _
  rw [if_pos h]; rfl
theorem kp_f {n i : Nat} {f o : Nat → Nat} (h : ¬ useB n f o i = true) : kpN n f o (i + 1) = kpN n f o i := by
  show ctB _ i + _ = _
  rw [if_neg h]; rfl
theorem kp_le {n i : Nat} {f o : Nat → Nat} : kpN n f o i ≤ i := ct_le
theorem pk_ge {n : Nat} {f o g : Nat → Nat} : ∀ i x, kpN n f o i ≤ x → pkA n f o g i x = g x
  | 0, _, _ => rfl
  | i + 1, x, h => by
    unfold pkA
    by_cases q : useB n f o i = true
    · rw [kp_t q] at h
      rw [if_pos q]
      unfold updN
      rw [if_neg (by omega)]
      exact pk_ge i x (by omega)
    · rw [kp_f q] at h
      rw [if_neg q]
      exact pk_ge i x h
theorem pk_of {n : Nat} {f o : Nat → Nat} : ∀ i x, x < kpN n f o i → ∃ j, j < i ∧ pkA n f o f i x = f j ∧ pkA n f o o i x = o j
  | 0, x, h => absurd h (by unfold kpN ctB; omega)
  | i + 1, x, h => by
    unfold pkA
    by_cases q : useB n f o i = true
    · rw [kp_t q] at h
      rw [if_pos q, if_pos q]
      unfold updN
      by_cases e : x = kpN n f o i
      · exact ⟨i, by omega, by rw [if_pos e], by rw [if_pos e]⟩
      · obtain ⟨j, h1, h2, h3⟩ := pk_of (n := n) (f := f) (o := o) i x (by omega)
        exact ⟨j, by omega, by rw [if_neg e]; exact h2, by rw [if_neg e]; exact h3⟩
    · rw [kp_f q] at h
      rw [if_neg q, if_neg q]
      obtain ⟨j, h1, h2, h3⟩ := pk_of i x h
      exact ⟨j, by omega, h2, h3⟩
theorem pk_good {n k : Nat} {f o : Nat → Nat} (hG : Good n k f o) : Good n (kpN n f o k) (pkA n f o f k) (pkA n f o o k) := by
  refine ⟨hG.1, hG.2.1, Nat.le_trans kp_le hG.2.2.1, fun x hx => ?_⟩
  obtain ⟨j, h1, h2, h3⟩ := pk_of k x hx
  rw [h2, h3]
  exact hG.2.2.2 j h1
theorem use_iff {n i : Nat} {f o : Nat → Nat} : useB n f o i = true ↔ ∃ r, r < 2 ^ n ∧ netB f o 99 0 i (bR r) (f i) = true ∧ netB f o 99 0 i (bR r) (o i) = false := by
  unfold useB
  rw [List.any_eq_true]
  constructor
  · rintro ⟨r, hr, h⟩
    simp only [Bool.and_eq_true, Bool.not_eq_true'] at h
    exact ⟨r, List.mem_range.mp hr, h.1, h.2⟩
  · rintro ⟨r, hr, h1, h2⟩
    exact ⟨r, List.mem_range.mpr hr, by rw [h1, h2]; rfl⟩
theorem C_prune {n k : Nat} {f o : Nat → Nat} {c : Hp} (hG : Good n k f o) (hC : NetC n k f o c) : Ev (f_X10_prune c) (fun r => r.1 = nI (k - kpN n f o k) ∧ NetC n (kpN n f o k) (pkA n f o f k) (pkA n f o o k) r.2 ∧ Sm [1, 2, 3, 14, 20, 23, 24, 25, 27] c r.2 ∧ FgC r.2) := by
  have hn := hG.2.1
  have hk24 := hG.2.2.1
  have hkk : kpN n f o k ≤ k := kp_le
  unfold f_X10_prune
  refine Ev_bd (fun r => r.1 = nI (k - kpN n f o k) ∧ NetC n (kpN n f o k) (pkA n f o f k) (pkA n f o o k) r.2 ∧ Sm [1, 2, 3, 14] c r.2) ?_ (fun r ⟨a1, a2, a3⟩ => Ev_bd _ (s_forgetC r.2) (fun c1 ⟨hS, h1, h2, h3, h4⟩ => Ev_so ⟨a1, ?_, (a3.mono (by decide)).tr (hS.mono (by decide)), h1, h2, h3, h4⟩))
  · unfold f_X4_dropDead_13_1
    rw [hC.1]
    refine Ev_bd _ (s_bringIn_14 hn) (fun h0 ⟨hS0, h10, hV0⟩ => Ev_nm ?_)
    rw [hC.2.1]
    refine Ev_jn1 (fun h => NetC n (kpN n f o k) (pkA n f o f k) (pkA n f o o k) h ∧ Sm [1, 2, 3, 14] c h) (fun h ⟨b1, b2⟩ => Ev_so ⟨by rw [b1.2.1, nsub hkk], b1, b2⟩) (fun kk hk => ?_)
    refine Ev_fx2 (fun j a1 a2 => a1 = nI j ∧ Sm [1, 2, 3, 14] c a2 ∧ a2.1 1 0 = nI n ∧ a2.1 1 1 = nI (kpN n f o j) ∧ (∀ x, x < k → a2.1 2 x = nI (pkA n f o f j x) ∧ a2.1 3 x = nI (pkA n f o o j x)) ∧ ColsN 14 n a2 (fun r => netB f o 99 0 j (bR r))) k ?_ ?_ (FU_lt (by omega)) ⟨rfl, (hS0.mono (by decide)).sF (by decide), ?_, by rw [wF_1, upd_s]; rfl, fun x hx => ?_, ?_⟩
    · rintro self j a1 a2 hj ⟨rfl, hS, e0, e1, e2, hV⟩ hself
      have hkj : kpN n f o j ≤ j := kp_le
      obtain ⟨g1, g2, g3⟩ := hG.2.2.2 j hj
      have p1 : a2.1 2 j = nI (f j) := by rw [(e2 j hj).1, pk_ge j j hkj]
      have p2 : a2.1 3 j = nI (o j) := by rw [(e2 j hj).2, pk_ge j j hkj]
      unfold L_X4_dropDead_13_1_23
      refine Ev_f (nle_n hj (by omega)) (Ev_ck rfl (by omega) (by omega) (Ev_ck rfl (by omega) (by omega) ?_))
      rw [clN (by omega), p1, p2, clN (by omega), clN (by omega)]
      have hcol : ColN n (a2.2 14 (f j) &&& (a2.2 14 (o j) ^^^ (-1 : Int64))) (fun r => netB f o 99 0 j (bR r) (f j) && !netB f o 99 0 j (bR r) (o j)) := by
        intro r hr
        rw [bt_and, bt_not _ hr, hV _ g1 r hr, hV _ g2 r hr]
        cases decide (r < 2 ^ n) <;> simp
      have hu : lg_cmp (a2.2 14 (f j) &&& (a2.2 14 (o j) ^^^ (-1 : Int64))) 0 = 0 ↔ ¬ useB n f o j = true := by
        rw [lg_eq, hcol.z hn, use_iff]
        constructor
        · rintro h ⟨r, hr, h1, h2⟩
          have := h r hr
          rw [h1, h2] at this; cases this
        · intro h r hr
          cases e3 : netB f o 99 0 j (bR r) (f j) with
          | false => rfl
          | true =>
            cases e4 : netB f o 99 0 j (bR r) (o j) with
            | true => rfl
            | false => exact absurd ⟨r, hr, e3, e4⟩ h
      have hs : ∀ r, netB f o 99 0 (j + 1) (bR r) = cmpB (f j) (o j) (netB f o 99 0 j (bR r)) := fun r => by
        rw [netB_s, if_neg (by omega)]
      refine Ev_ck rfl (by omega) (by omega) (Ev_ck rfl (by omega) (by omega) (Ev_i (fun h => ?_) (fun h => ?_)))
      · have hq := hu.mp h
        refine hself _ _ ⟨nI_add j 1, hS, e0, by rw [e1, kp_f hq], fun x hx => ?_, fun x hx r hr => ?_⟩
        · unfold pkA
          rw [if_neg hq, if_neg hq]; exact e2 x hx
        · have := hV x hx r hr
          simp only [hs]
          rw [this]
          by_cases q : r < 2 ^ n
          · rw [cmp_same (fun z => hq (use_iff.mpr ⟨r, q, z.1, z.2⟩))]
          · rw [decide_eq_false q, Bool.false_and, Bool.false_and]
      · have hq : useB n f o j = true := by
          cases e3 : useB n f o j with
          | true => rfl
          | false => exact absurd (hu.mpr (by rw [e3]; decide)) h
        refine Ev_bd _ (s_compare_14 hn g1 g2 g3 hV) (fun h2 ⟨b1, b2, b3⟩ => ?_)
        refine Ev_bd (fun h3 => h3 = wF (wI (wI h2 2 (nI (kpN n f o j)) (nI (f j))) 3 (nI (kpN n f o j)) (nI (o j))) 1 1 (nI (kpN n f o (j + 1)))) ?_ (fun h3 e => ?_)
        · unfold f_X9_append_1
          rw [b2, e1]
          refine Ev_f (nle_n (a := 24) (by omega) (by omega)) (Ev_ck rfl (by omega) (by omega) (Ev_nm ?_))
          have t1 : (wI h2 2 (nI (kpN n f o j)) (nI (f j))).1 1 1 = nI (kpN n f o j) := by rw [wI_n _ _ _ _ _ (by decide), b2, e1]
          rw [t1]
          refine Ev_ck rfl (by omega) (by omega) (Ev_nm (Ev_nm (Ev_so ?_)))
          have t2 : (wI (wI h2 2 (nI (kpN n f o j)) (nI (f j))) 3 (nI (kpN n f o j)) (nI (o j))).1 1 1 = nI (kpN n f o j) := by rw [wI_n _ _ _ _ _ (by decide), t1]
          rw [t2, n1, nI_add, kp_t hq]
        · subst e
          refine hself _ _ ⟨nI_add j 1, (((hS.tr (b1.mono (by decide))).sI (by decide)).sI (by decide)).sF (by decide), ?_, by rw [wF_1, upd_s], fun x hx => ?_, fun x hx r hr => ?_⟩
          · rw [wF_1, upd_n _ _ (by decide), wI_n _ _ _ _ _ (by decide), wI_n _ _ _ _ _ (by decide), b2]; exact e0
          · simp (disch := omega) only [wF_n, wI_1, wI_n, clN, b2]
            unfold pkA
            rw [if_pos hq, if_pos hq]
            unfold updN
            by_cases q : x = kpN n f o j
            · rw [q, upd_s, upd_s, if_pos rfl, if_pos rfl]; exact ⟨rfl, rfl⟩
            · rw [upd_n _ _ q, upd_n _ _ q, if_neg q, if_neg q]; exact e2 x hx
          · have := b3 x hx r hr
            simp only [hs]
            exact this
    · rintro self a1 a2 ⟨rfl, hS, e0, e1, e2, hV⟩
      unfold L_X4_dropDead_13_1_23
      exact Ev_t (Int32.le_refl _) (hk _ ⟨⟨e0, e1, fun x hx => e2 x (by omega)⟩, hS⟩)
    · rw [wF_1, upd_n _ _ (by decide), h10]; exact hC.1
    · rw [wF_n _ _ _ _ _ (by decide), wF_n _ _ _ _ _ (by decide), h10]; exact hC.2.2 x hx
    · exact hV0
  · exact a2.keep (by rw [(hS 1 (by decide)).1]) (by rw [(hS 1 (by decide)).1]) (hS 2 (by decide)).1 (hS 3 (by decide)).1
def oftP (f o : Nat → Nat) (i : Nat) : Nat → Bool := fun r => netB f o 99 0 i (bR r) (f i) && !netB f o 99 0 i (bR r) (o i)
theorem r_often {n k i : Nat} {f o : Nat → Nat} {m : Hp} (hG : Good n k f o) (hM : NetM n k f o m) (hi : i < k) : Ev (f_X11_often m (nI i)) (fun y => y = nI (ctB (oftP f o i) (2 ^ n))) := by
  have hn := hG.2.1
  have hk24 := hG.2.2.1
  have hle : 2 ^ n ≤ 2 ^ 6 := Nat.pow_le_pow_right (by omega) hn
  obtain ⟨g1, g2, g3⟩ := hG.2.2.2 i hi
  unfold f_X11_often
  refine Ev_jn1 (fun y => y = nI (ctB (oftP f o i) (2 ^ n))) (fun y hy => Ev_so hy) (fun kk hk => ?_)
  refine Ev_fx2 (fun j a1 a2 => a2 = nI j ∧ a1 = nI (ctB (oftP f o i) j)) (2 ^ n) ?_ ?_ (FU_lt (by omega)) ⟨rfl, rfl⟩
  · rintro self j a1 a2 hj ⟨rfl, h1⟩ hself
    unfold L_X11_often_4
    rw [hM.1, shl_n hn]
    refine Ev_f (nle_n hj (by omega)) (Ev_bd _ (r_through (md := 0) hG hM (Nat.le_of_lt hi) hj SpI.m (by omega)) (fun y hy => Ev_ck rfl (by omega) (by omega) ?_))
    obtain ⟨p, rfl, hp, hv⟩ := hy
    rw [clN (by omega), (hM.2.2.1 i hi).1, (hM.2.2.1 i hi).2]
    have b1 := bit_1 (a := p) (k := f i) (by omega) (by omega)
    have b0 := bit_0 (a := p) (k := o i) (by omega) (by omega)
    rw [hv _ g1] at b1
    rw [hv _ g2] at b0
    refine Ev_jn0 (¬ oftP f o i j = true) (fun hq => Ev_nm (hself _ _ ⟨nI_add j 1, by rw [h1, ct_f hq]; exact nI_add _ 0⟩)) (fun kq hkq => Ev_i (fun e1 => Ev_ck rfl (by omega) (by omega) (Ev_i (fun e2 => Ev_nm (hself _ _ ⟨nI_add j 1, ?_⟩)) (fun e2 => hkq (fun z => ?_)))) (fun e1 => hkq (fun z => ?_)))
    · have : oftP f o i j = true := by unfold oftP; rw [b1.mp e1, b0.mp e2]; rfl
      rw [h1, ct_t this]
    · unfold oftP at z
      simp only [Bool.and_eq_true, Bool.not_eq_true'] at z
      exact e2 (b0.mpr z.2)
    · unfold oftP at z
      simp only [Bool.and_eq_true, Bool.not_eq_true'] at z
      exact e1 (b1.mpr z.1)
  · rintro self a1 a2 ⟨rfl, h1⟩
    unfold L_X11_often_4
    rw [hM.1, shl_n hn]
    exact Ev_t (Int32.le_refl _) (hk _ h1)
theorem oft_le {n i : Nat} {f o : Nat → Nat} (hn : n ≤ 6) : nI (ctB (oftP f o i) (2 ^ n)) ≤ 0 ↔ ¬ useB n f o i = true := by
  have hle : 2 ^ n ≤ 2 ^ 6 := Nat.pow_le_pow_right (by omega) hn
  have h2 := ct_le (p := oftP f o i) (n := 2 ^ n)
  rw [show (0 : Int32) = nI 0 from rfl, nI_leI (by omega) (by omega), Nat.le_zero, ct_0, use_iff]
  constructor
  · rintro h ⟨r, hr, h1, h2⟩
    have := h r hr
    unfold oftP at this
    rw [h1, h2] at this; cases this
  · intro h r hr
    cases e : oftP f o i r with
    | false => rfl
    | true =>
      unfold oftP at e
      simp only [Bool.and_eq_true, Bool.not_eq_true'] at e
      exact absurd ⟨r, hr, e.1, e.2⟩ h
theorem M_prune {n k : Nat} {f o : Nat → Nat} {m : Hp} (hG : Good n k f o) (hM : NetM n k f o m) : Ev (f_X11_prune m) (fun r => r.1 = nI (k - kpN n f o k) ∧ NetM n (kpN n f o k) (pkA n f o f k) (pkA n f o o k) r.2 ∧ Sm [0, 1, 2, 7, 9, 10] m r.2 ∧ r.2.1 0 11 = m.1 0 11 ∧ FgM r.2) := by
  have hn := hG.2.1
  have hk24 := hG.2.2.1
  have hkk : kpN n f o k ≤ k := kp_le
  unfold f_X11_prune
  refine Ev_nm ?_
  have hM1 := hM.t (x := 0)
  have hS1 : Sm [0, 1, 2, 7, 9, 10] m (wF m 0 0 0) := Sm.rf.sF (by decide)
  have h11 : (wF m 0 0 0).1 0 11 = m.1 0 11 := by rw [wF_1, upd_n _ _ (by decide)]
  generalize wF m 0 0 0 = g at hM1 hS1 h11
  refine Ev_jn1 (fun h => Sm [7] g h ∧ ∀ x, x < k → h.1 7 x = nI (ctB (oftP f o x) (2 ^ n))) (fun h ⟨hS2, h7⟩ => ?_) (fun kk hk => ?_)
  · have hM2 : NetM n k f o h := hM1.keep (by rw [(hS2 0 (by decide)).1]) (by rw [(hS2 0 (by decide)).1]) (by rw [(hS2 0 (by decide)).1]) (hS2 1 (by decide)).1 (hS2 2 (by decide)).1 (hS2 4 (by decide)).1
    refine Ev_jn2 (fun a h3 => a = nI (kpN n f o k) ∧ Sm [1, 2] h h3 ∧ ∀ x, x < k → h3.1 1 x = nI (pkA n f o f k x) ∧ h3.1 2 x = nI (pkA n f o o k x)) (fun a h3 ⟨e, hS3, h12⟩ => ?_) (fun kk hk => ?_)
    · subst e
      have e0 : h3.1 0 = g.1 0 := (hS3 0 (by decide)).1.trans (hS2 0 (by decide)).1
      refine Ev_nm (Ev_nm (Ev_bd _ (s_forgetM _) (fun m1 ⟨hS4, c1, c2, c3, c4⟩ => Ev_so ⟨by rw [e0, hM1.2.1, nsub hkk], ⟨?_, ?_, fun x hx => ?_, ?_, fun r hr x hx => ?_⟩, ((hS1.tr (hS2.mono (by decide))).tr (hS3.mono (by decide))).tr (((Sm.rf.sF (by decide)) : Sm [0, 1, 2, 7, 9, 10] h3 _).tr (hS4.mono (by decide))), ?_, c1, c3, c4⟩)))
      · rw [c2 1 (by decide), wF_1, upd_n _ _ (by decide), e0]; exact hM1.1
      · rw [c2 2 (by decide), wF_1, upd_s]
      · rw [(hS4 1 (by decide)).1, (hS4 2 (by decide)).1, wF_n _ _ _ _ _ (by decide), wF_n _ _ _ _ _ (by decide)]
        exact h12 x (by omega)
      · rw [c2 7 (by decide), wF_1, upd_n _ _ (by decide), e0]; exact hM1.2.2.2.1
      · rw [(hS4 4 (by decide)).1, wF_n _ _ _ _ _ (by decide), (hS3 4 (by decide)).1, (hS2 4 (by decide)).1]
        exact hM1.2.2.2.2 r hr x hx
      · rw [c2 11 (by decide), wF_1, upd_n _ _ (by decide), e0]; exact h11
    · refine Ev_fx3 (fun j a1 a2 a3 => a2 = nI j ∧ a1 = nI (kpN n f o j) ∧ Sm [1, 2] h a3 ∧ ∀ x, x < k → a3.1 1 x = nI (pkA n f o f j x) ∧ a3.1 2 x = nI (pkA n f o o j x)) k ?_ ?_ (FU_lt (by omega)) ⟨rfl, rfl, Sm.rf, hM2.2.2.1⟩
      · rintro self j a1 a2 a3 hj ⟨rfl, rfl, hS, h12⟩ hself
        have hkj : kpN n f o j ≤ j := kp_le
        unfold L_X11_prune_36
        rw [(hS 0 (by decide)).1, hM2.2.1]
        refine Ev_f (nle_n hj (by omega)) (Ev_ck rfl (by omega) (by omega) ?_)
        rw [clN (by omega), (hS 7 (by decide)).1, h7 j hj]
        refine Ev_i (fun e => ?_) (fun e => ?_)
        · have hq := (oft_le hn).mp e
          refine hself _ _ _ ⟨nI_add j 1, by rw [kp_f hq], hS, fun x hx => ?_⟩
          unfold pkA
          rw [if_neg hq, if_neg hq]; exact h12 x hx
        · have hq : useB n f o j = true := by
            cases e3 : useB n f o j with
            | true => rfl
            | false => exact absurd ((oft_le hn).mpr (by rw [e3]; decide)) e
          refine Ev_ck rfl (by omega) (by omega) (Ev_ck rfl (by omega) (by omega) (Ev_nm (Ev_ck rfl (by omega) (by omega) (Ev_ck rfl (by omega) (by omega) (Ev_nm (hself _ _ _ ⟨nI_add j 1, by rw [kp_t hq]; exact nI_add _ 1, (hS.sI (by decide)).sI (by decide), fun x hx => ?_⟩))))))
          simp (disch := omega) only [wI_1, wI_n, clN]
          unfold pkA
          rw [if_pos hq, if_pos hq]
          unfold updN
          by_cases q : x = kpN n f o j
          · rw [q, upd_s, upd_s, if_pos rfl, if_pos rfl, (h12 j hj).1, (h12 j hj).2, pk_ge j j hkj, pk_ge j j hkj]; exact ⟨rfl, rfl⟩
          · rw [upd_n _ _ q, upd_n _ _ q, if_neg q, if_neg q]; exact h12 x hx
      · rintro self a1 a2 a3 ⟨rfl, rfl, hS, h12⟩
        unfold L_X11_prune_36
        rw [(hS 0 (by decide)).1, hM2.2.1]
        exact Ev_t (Int32.le_refl _) (hk _ _ ⟨rfl, hS, h12⟩)
  · refine Ev_fx2 (fun j a1 a2 => a1 = nI j ∧ Sm [7] g a2 ∧ ∀ x, x < j → a2.1 7 x = nI (ctB (oftP f o x) (2 ^ n))) k ?_ ?_ (FU_lt (by omega)) ⟨rfl, Sm.rf, fun x hx => absurd hx (by omega)⟩
    · rintro self j a1 a2 hj ⟨rfl, hS, h7⟩ hself
      have hM2 : NetM n k f o a2 := hM1.keep (by rw [(hS 0 (by decide)).1]) (by rw [(hS 0 (by decide)).1]) (by rw [(hS 0 (by decide)).1]) (hS 1 (by decide)).1 (hS 2 (by decide)).1 (hS 4 (by decide)).1
      unfold L_X11_prune_7
      rw [hM2.2.1]
      refine Ev_f (nle_n hj (by omega)) (Ev_bd _ (r_often hG hM2 hj) (fun y hy => Ev_ck rfl (by omega) (by omega) (Ev_nm (hself _ _ ⟨nI_add j 1, hS.sI (by decide), fun x hx => ?_⟩))))
      rw [wI_1, clN (by omega)]
      by_cases q : x = j
      · rw [q, upd_s]; exact hy
      · rw [upd_n _ _ q]; exact h7 x (by omega)
    · rintro self a1 a2 ⟨rfl, hS, h7⟩
      unfold L_X11_prune_7
      rw [(hS 0 (by decide)).1, hM1.2.1]
      exact Ev_t (Int32.le_refl _) (hk _ ⟨hS, h7⟩)
theorem pc_6 {L : Nat} {xs : Nat → Int32} {i : Int32} {s : LWS} {kont : LWS → Option Unit} (hI : Inv s) (hk : ∀ s1, Inv s1 → kont s1 = some ()) : lc_6 L xs i s kont = some () := by
  obtain ⟨c, m, out⟩ := s
  obtain ⟨n, k, f, o, hG, hC, hM, hT, hB, hS, hSt, hA⟩ := hI
  obtain ⟨r1, h1, a1, a2, a3, a4⟩ := C_prune hG hC
  obtain ⟨r2, h2, b1, b2, b3, b4, b5⟩ := M_prune hG hM
  simp only [lc_6, h1, h2, bd, nm, setC, setM]
  rw [if_pos (by rw [a1, b1])]
  exact hk _ (Inv.made2 (pk_good hG) a2 b2 hT hSt hA (a3.mono (by decide)) (b3.mono (by decide)) b4 a4 b5)
