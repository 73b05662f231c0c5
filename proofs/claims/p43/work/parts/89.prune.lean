/-! CASE prune -/
def useB (n : Nat) (f o : Nat → Nat) (i : Nat) : Bool := (List.range (2 ^ n)).any (fun r => netB f o 99 0 i (bR r) (f i) && !netB f o 99 0 i (bR r) (o i))
def kpN (n : Nat) (f o : Nat → Nat) (i : Nat) : Nat := ctB (useB n f o) i
def pkA (n : Nat) (f o g : Nat → Nat) : Nat → Nat → Nat
  | 0 => g
  | i + 1 => if useB n f o i = true then updN (pkA n f o g i) (kpN n f o i) (g i) else pkA n f o g i
theorem kp_t {n i : Nat} {f o : Nat → Nat} (h : useB n f o i = true) : kpN n f o (i + 1) = kpN n f o i + 1 := by
  show ctB _ i + _ = _
  rw [if_pos h]; rfl
theorem kp_f {n i : Nat} {f o : Nat → Nat} (h : ¬ useB n f o i = true) : kpN n f o (i + 1) = kpN n f o i := by
  show ctB _ i + _ = _
  rw [if_neg h]; rfl
theorem kp_le {n i : Nat} {f o : Nat → Nat} : kpN n f o i ≤ i := ct_le
theorem pk_ge {n : Nat} {f o g : Nat → Nat} : ∀ i x, kpN n f o i ≤ x → pkA n f o g i x = g x
  | 0, _, _ => rfl
  | i + 1, x, h => by
    unfold pkA
    by_cases q : useB n f o i = true
    · rw [kp_t q] at h
      rw [if_pos q]
      unfold updN
      rw [if_neg (by omega)]
      exact pk_ge i x (by omega)
    · rw [kp_f q] at h
      rw [if_neg q]
      exact pk_ge i x h
theorem pk_of {n : Nat} {f o : Nat → Nat} : ∀ i x, x < kpN n f o i → ∃ j, j < i ∧ pkA n f o f i x = f j ∧ pkA n f o o i x = o j
  | 0, x, h => absurd h (by unfold kpN ctB; omega)
  | i + 1, x, h => by
    unfold pkA
    by_cases q : useB n f o i = true
    · rw [kp_t q] at h
      rw [if_pos q, if_pos q]
      unfold updN
      by_cases e : x = kpN n f o i
      · exact ⟨i, by omega, by rw [if_pos e], by rw [if_pos e]⟩
      · obtain ⟨j, h1, h2, h3⟩ := pk_of (n := n) (f := f) (o := o) i x (by omega)
        exact ⟨j, by omega, by rw [if_neg e]; exact h2, by rw [if_neg e]; exact h3⟩
    · rw [kp_f q] at h
      rw [if_neg q, if_neg q]
      obtain ⟨j, h1, h2, h3⟩ := pk_of i x h
      exact ⟨j, by omega, h2, h3⟩
theorem pk_good {n k : Nat} {f o : Nat → Nat} (hG : Good n k f o) : Good n (kpN n f o k) (pkA n f o f k) (pkA n f o o k) := by
  refine ⟨hG.1, hG.2.1, Nat.le_trans kp_le hG.2.2.1, fun x hx => ?_⟩
  obtain ⟨j, h1, h2, h3⟩ := pk_of k x hx
  rw [h2, h3]
  exact hG.2.2.2 j h1
theorem use_iff {n i : Nat} {f o : Nat → Nat} : useB n f o i = true ↔ ∃ r, r < 2 ^ n ∧ netB f o 99 0 i (bR r) (f i) = true ∧ netB f o 99 0 i (bR r) (o i) = false := by
  unfold useB
  rw [List.any_eq_true]
  constructor
  · rintro ⟨r, hr, h⟩
    simp only [Bool.and_eq_true, Bool.not_eq_true'] at h
    exact ⟨r, List.mem_range.mp hr, h.1, h.2⟩
  · rintro ⟨r, hr, h1, h2⟩
    exact ⟨r, List.mem_range.mpr hr, by rw [h1, h2]; rfl⟩
theorem C_prune {n k : Nat} {f o : Nat → Nat} {c : Hp} (hG : Good n k f o) (hC : NetC n k f o c) : Ev (f_X10_prune c) (fun r => r.1 = nI (k - kpN n f o k) ∧ NetC n (kpN n f o k) (pkA n f o f k) (pkA n f o o k) r.2 ∧ Sm [1, 2, 3, 14, 20, 23, 24, 25, 27] c r.2 ∧ FgC r.2) := by
  have hn := hG.2.1
  have hk24 := hG.2.2.1
  have hkk : kpN n f o k ≤ k := kp_le
  unfold f_X10_prune
  refine Ev_bd (fun r => r.1 = nI (k - kpN n f o k) ∧ NetC n (kpN n f o k) (pkA n f o f k) (pkA n f o o k) r.2 ∧ Sm [1, 2, 3, 14] c r.2) ?_ (fun r ⟨a1, a2, a3⟩ => Ev_bd _ (s_forgetC r.2) (fun c1 ⟨hS, h1, h2, h3, h4⟩ => Ev_so ⟨a1, ?_, (a3.mono (by decide)).tr (hS.mono (by decide)), h1, h2, h3, h4⟩))
  · unfold f_X4_dropDead_13_1
    rw [hC.1]
    refine Ev_bd _ (s_bringIn_14 hn) (fun h0 ⟨hS0, h10, hV0⟩ => Ev_nm ?_)
    rw [hC.2.1]
    refine Ev_jn1 (fun h => NetC n (kpN n f o k) (pkA n f o f k) (pkA n f o o k) h ∧ Sm [1, 2, 3, 14] c h) (fun h ⟨b1, b2⟩ => Ev_so ⟨by rw [b1.2.1, nsub hkk], b1, b2⟩) (fun kk hk => ?_)
    refine Ev_fx2 (fun j a1 a2 => a1 = nI j ∧ Sm [1, 2, 3, 14] c a2 ∧ a2.1 1 0 = nI n ∧ a2.1 1 1 = nI (kpN n f o j) ∧ (∀ x, x < k → a2.1 2 x = nI (pkA n f o f j x) ∧ a2.1 3 x = nI (pkA n f o o j x)) ∧ ColsN 14 n a2 (fun r => netB f o 99 0 j (bR r))) k ?_ ?_ (FU_lt (by omega)) ⟨rfl, (hS0.mono (by decide)).sF (by decide), ?_, by rw [wF_1, upd_s]; rfl, fun x hx => ?_, ?_⟩
    · rintro self j a1 a2 hj ⟨rfl, hS, e0, e1, e2, hV⟩ hself
      have hkj : kpN n f o j ≤ j := kp_le
      obtain ⟨g1, g2, g3⟩ := hG.2.2.2 j hj
      have p1 : a2.1 2 j = nI (f j) := by rw [(e2 j hj).1, pk_ge j j hkj]
      have p2 : a2.1 3 j = nI (o j) := by rw [(e2 j hj).2, pk_ge j j hkj]
      unfold L_X4_dropDead_13_1_23
      refine Ev_f (nle_n hj (by omega)) (Ev_ck rfl (by omega) (by omega) (Ev_ck rfl (by omega) (by omega) ?_))
      rw [clN (by omega), p1, p2, clN (by omega), clN (by omega)]
      have hcol : ColN n (a2.2 14 (f j) &&& (a2.2 14 (o j) ^^^ (-1 : Int64))) (fun r => netB f o 99 0 j (bR r) (f j) && !netB f o 99 0 j (bR r) (o j)) := by
        intro r hr
        rw [bt_and, bt_not _ hr, hV _ g1 r hr, hV _ g2 r hr]
        cases decide (r < 2 ^ n) <;> simp
      have hu : lg_cmp (a2.2 14 (f j) &&& (a2.2 14 (o j) ^^^ (-1 : Int64))) 0 = 0 ↔ ¬ useB n f o j = true := by
        rw [lg_eq, hcol.z hn, use_iff]
        constructor
        · rintro h ⟨r, hr, h1, h2⟩
          have := h r hr
          rw [h1, h2] at this; cases this
        · intro h r hr
          cases e3 : netB f o 99 0 j (bR r) (f j) with
          | false => rfl
          | true =>
            cases e4 : netB f o 99 0 j (bR r) (o j) with
            | true => rfl
            | false => exact absurd ⟨r, hr, e3, e4⟩ h
      have hs : ∀ r, netB f o 99 0 (j + 1) (bR r) = cmpB (f j) (o j) (netB f o 99 0 j (bR r)) := fun r => by
        rw [netB_s, if_neg (by omega)]
      refine Ev_ck rfl (by omega) (by omega) (Ev_ck rfl (by omega) (by omega) (Ev_i (fun h => ?_) (fun h => ?_)))
      · have hq := hu.mp h
        refine hself _ _ ⟨nI_add j 1, hS, e0, by rw [e1, kp_f hq], fun x hx => ?_, fun x hx r hr => ?_⟩
        · unfold pkA
          rw [if_neg hq, if_neg hq]; exact e2 x hx
        · have := hV x hx r hr
          simp only [hs]
          rw [this]
          by_cases q : r < 2 ^ n
          · rw [cmp_same (fun z => hq (use_iff.mpr ⟨r, q, z.1, z.2⟩))]
          · rw [decide_eq_false q, Bool.false_and, Bool.false_and]
      · have hq : useB n f o j = true := by
          cases e3 : useB n f o j with
          | true => rfl
          | false => exact absurd (hu.mpr (by rw [e3]; decide)) h
        refine Ev_bd _ (s_compare_14 hn g1 g2 g3 hV) (fun h2 ⟨b1, b2, b3⟩ => ?_)
        refine Ev_bd (fun h3 => h3 = wF (wI (wI h2 2 (nI (kpN n f o j)) (nI (f j))) 3 (nI (kpN n f o j)) (nI (o j))) 1 1 (nI (kpN n f o (j + 1)))) ?_ (fun h3 e => ?_)
        · unfold f_X9_append_1
          rw [b2, e1]
          refine Ev_f (nle_n (a := 24) (by omega) (by omega)) (Ev_ck rfl (by omega) (by omega) (Ev_nm ?_))
          have t1 : (wI h2 2 (nI (kpN n f o j)) (nI (f j))).1 1 1 = nI (kpN n f o j) := by rw [wI_n _ _ _ _ _ (by decide), b2, e1]
          rw [t1]
          refine Ev_ck rfl (by omega) (by omega) (Ev_nm (Ev_nm (Ev_so ?_)))
          have t2 : (wI (wI h2 2 (nI (kpN n f o j)) (nI (f j))) 3 (nI (kpN n f o j)) (nI (o j))).1 1 1 = nI (kpN n f o j) := by rw [wI_n _ _ _ _ _ (by decide), t1]
          rw [t2, n1, nI_add, kp_t hq]
        · subst e
          refine hself _ _ ⟨nI_add j 1, (((hS.tr (b1.mono (by decide))).sI (by decide)).sI (by decide)).sF (by decide), ?_, by rw [wF_1, upd_s], fun x hx => ?_, fun x hx r hr => ?_⟩
          · rw [wF_1, upd_n _ _ (by decide), wI_n _ _ _ _ _ (by decide), wI_n _ _ _ _ _ (by decide), b2]; exact e0
          · simp (disch := omega) only [wF_n, wI_1, wI_n, clN, b2]
            unfold pkA
            rw [if_pos hq, if_pos hq]
            unfold updN
            by_cases q : x = kpN n f o j
            · rw [q, upd_s, upd_s, if_pos rfl, if_pos rfl]; exact ⟨rfl, rfl⟩
            · rw [upd_n _ _ q, upd_n _ _ q, if_neg q, if_neg q]; exact e2 x hx
          · have := b3 x hx r hr
            simp only [hs]
            exact this
    · rintro self a1 a2 ⟨rfl, hS, e0, e1, e2, hV⟩
      unfold L_X4_dropDead_13_1_23
      exact Ev_t (Int32.le_refl _) (hk _ ⟨⟨e0, e1, fun x hx => e2 x (by omega)⟩, hS⟩)
    · rw [wF_1, upd_n _ _ (by decide), h10]; exact hC.1
    · rw [wF_n _ _ _ _ _ (by decide), wF_n _ _ _ _ _ (by decide), h10]; exact hC.2.2 x hx
    · exact hV0
  · exact a2.keep (by rw [(hS 1 (by decide)).1]) (by rw [(hS 1 (by decide)).1]) (hS 2 (by decide)).1 (hS 3 (by decide)).1
def oftP (f o : Nat → Nat) (i : Nat) : Nat → Bool := fun r => netB f o 99 0 i (bR r) (f i) && !netB f o 99 0 i (bR r) (o i)
theorem oft_le {n i : Nat} {f o : Nat → Nat} (hn : n ≤ 6) : nI (ctB (oftP f o i) (2 ^ n)) ≤ 0 ↔ ¬ useB n f o i = true := by
  have hle : 2 ^ n ≤ 2 ^ 6 := Nat.pow_le_pow_right (by omega) hn
  have h2 := ct_le (p := oftP f o i) (n := 2 ^ n)
  rw [show (0 : Int32) = nI 0 from rfl, nI_leI (by omega) (by omega), Nat.le_zero, ct_0, use_iff]
  constructor
  · rintro h ⟨r, hr, h1, h2⟩
    have := h r hr
    unfold oftP at this
    rw [h1, h2] at this; cases this
  · intro h r hr
    cases e : oftP f o i r with
    | false => rfl
    | true =>
      unfold oftP at e
      simp only [Bool.and_eq_true, Bool.not_eq_true'] at e
      exact absurd ⟨r, hr, e.1, e.2⟩ h
