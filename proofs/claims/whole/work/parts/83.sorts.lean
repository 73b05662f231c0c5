/-! UNSORTED ROWS, what tells: the reference; cases sorts, bears -/
theorem r_isSorted {n : Nat} {V : Nat → Bool} {y : Int32} (hn : n ≤ 6) (hn2 : 2 ≤ n) (hy : RQ n V y) : Ev (f_X11_isSorted y 0 (nI n)) (fun r => r = if unsB n V = true then 0 else 1) := by
  obtain ⟨p, rfl, hp, hv⟩ := hy
  have hle : 2 ^ n ≤ 2 ^ 6 := Nat.pow_le_pow_right (by omega) hn
  unfold f_X11_isSorted
  refine Ev_jn1 (fun r => r = if unsB n V = true then 0 else 1) (fun r hr => Ev_ckz (by rw [hr]; cases unsB n V <;> simp) (Ev_so hr)) (fun kk hk => ?_)
  refine Ev_fx2 (fun j a1 a2 => a2 = nI j ∧ a1 = if (List.range j).any (fun x => V x && !V (x + 1)) = true then 0 else 1) (n - 1) ?_ ?_ (FU_lt (by omega)) ⟨rfl, rfl⟩
  · rintro self j a1 a2 hj ⟨rfl, h1⟩ hself
    unfold L_X11_isSorted_5
    rw [n1, nI_add]
    refine Ev_f (nle_n (by omega) (by omega)) ?_
    have hs : (List.range (j + 1)).any (fun x => V x && !V (x + 1)) = ((List.range j).any (fun x => V x && !V (x + 1)) || (V j && !V (j + 1))) := by
      rw [List.range_succ, List.any_append]; simp
    rw [hs] at hself
    cases hA : (List.range j).any (fun x => V x && !V (x + 1)) with
    | true =>
      rw [hA] at h1 hself
      exact Ev_t h1 (hself _ _ ⟨rfl, rfl⟩)
    | false =>
      rw [hA] at h1 hself
      refine Ev_f (by rw [h1]; decide) (Ev_jn0 (¬ (V j = true ∧ V (j + 1) = false)) (fun hq => hself _ _ ⟨rfl, ?_⟩) (fun k38 h38 => ?_))
      · revert hq; cases V j <;> cases V (j + 1) <;> decide
      · have b0 := bit_0 (a := p) (k := j) (by omega) (by omega)
        have b1 := bit_1 (a := p) (k := j + 1) (by omega) (by omega)
        rw [hv j (by omega)] at b0
        rw [hv (j + 1) (by omega)] at b1
        refine Ev_i (fun e => h38 (fun z => by rw [b0.mp e] at z; cases z.1)) (fun e => Ev_i (fun e2 => h38 (fun z => by rw [b1.mp e2] at z; cases z.2)) (fun e2 => hself _ _ ⟨rfl, ?_⟩))
        have q1 : V j = true := by
          cases e3 : V j with
          | true => rfl
          | false => exact absurd (b0.mpr e3) e
        have q2 : V (j + 1) = false := by
          cases e3 : V (j + 1) with
          | false => rfl
          | true => exact absurd (b1.mpr e3) e2
        rw [q1, q2]; rfl
  · rintro self a1 a2 ⟨rfl, h1⟩
    unfold L_X11_isSorted_5
    rw [n1, nI_add]
    exact Ev_t (le_n (by omega) (by omega)) (hk _ h1)
theorem shl_n {n : Nat} (hn : n ≤ 6) : ishl 1 (nI n) = nI (2 ^ n) := by
  have := ishl_n (a := 1) (k := n) (by omega)
  rw [Nat.one_mul] at this; exact this
theorem r_unsorted {n k sp md : Nat} {f o : Nat → Nat} {m : Hp} {SP : Int32} (hG : Good n k f o) (hM : NetM n k f o m) (hsp : SpI SP sp) (hmd : md ≤ 2) : Ev (f_X11_unsorted m SP (nI md)) (fun y => y = nI (ctB (fun r => unsB n (netB f o sp md k (bR r))) (2 ^ n))) := by
  have hn := hG.2.1
  have hle : 2 ^ n ≤ 2 ^ 6 := Nat.pow_le_pow_right (by omega) hn
  unfold f_X11_unsorted
  refine Ev_jn1 (fun y => y = nI (ctB (fun r => unsB n (netB f o sp md k (bR r))) (2 ^ n))) (fun y hy => Ev_so hy) (fun kk hk => ?_)
  refine Ev_fx2 (fun j a1 a2 => a2 = nI j ∧ a1 = nI (ctB (fun r => unsB n (netB f o sp md k (bR r))) j)) (2 ^ n) ?_ ?_ (FU_lt (by omega)) ⟨rfl, rfl⟩
  · rintro self j a1 a2 hj ⟨rfl, h1⟩ hself
    unfold L_X11_unsorted_5
    rw [hM.1, shl_n hn, hM.2.1]
    refine Ev_f (nle_n hj (by omega)) (Ev_bd _ (r_through hG hM (Nat.le_refl k) hj hsp hmd) (fun y hy => Ev_bd _ (r_isSorted hn hG.1 hy) (fun z hz => ?_)))
    cases hu : unsB n (netB f o sp md k (bR j)) with
    | true =>
      rw [hu] at hz
      refine Ev_t hz (Ev_nm (hself _ _ ⟨nI_add j 1, ?_⟩))
      rw [h1]
      simp only [ctB, hu, if_true]
      exact nI_add _ 1
    | false =>
      rw [hu] at hz
      refine Ev_f (by rw [hz]; decide) (Ev_nm (hself _ _ ⟨nI_add j 1, ?_⟩))
      rw [h1]
      simp only [ctB, hu]
      exact nI_add _ 0
  · rintro self a1 a2 ⟨rfl, h1⟩
    unfold L_X11_unsorted_5
    rw [hM.1, shl_n hn]
    exact Ev_t (Int32.le_refl _) (hk _ h1)
theorem r_tellers {n k sp md : Nat} {f o : Nat → Nat} {m : Hp} (hG : Good n k f o) (hM : NetM n k f o m) (hsp : sp < k) (hmd : md ≤ 2) : Ev (f_X11_tellers m (nI sp) (nI md)) (fun z => ColN n z (fun r => (List.range n).any (fun x => netB f o sp md k (bR r) x ^^ netB f o 99 0 k (bR r) x))) := by
  have hn := hG.2.1
  have hk24 := hG.2.2.1
  have hle : 2 ^ n ≤ 2 ^ 6 := Nat.pow_le_pow_right (by omega) hn
  unfold f_X11_tellers
  refine Ev_jn1 (fun z => ColN n z (fun r => (List.range n).any (fun x => netB f o sp md k (bR r) x ^^ netB f o 99 0 k (bR r) x))) (fun y hy => Ev_so hy) (fun kk hk => ?_)
  refine Ev_fx2 (fun j a1 a2 => a2 = nI j ∧ ∀ r, r < 64 → bt64 a1 r = (decide (r < j) && (List.range n).any (fun x => netB f o sp md k (bR r) x ^^ netB f o 99 0 k (bR r) x))) (2 ^ n) ?_ ?_ (FU_lt (by omega)) ⟨rfl, fun r hr => by rw [bt_0]; simp⟩
  · rintro self j a1 a2 hj ⟨rfl, h1⟩ hself
    unfold L_X11_tellers_5
    rw [hM.1, shl_n hn, hM.2.1]
    refine Ev_f (nle_n hj (by omega)) (Ev_bd _ (r_through hG hM (Nat.le_refl k) hj (SpI.n (by omega)) hmd) (fun y hy => ?_))
    refine Ev_bd (fun y => RQ n (netB f o 99 0 k (bR j)) y) ?_ (fun w hw => ?_)
    · unfold f_X11_out
      rw [hM.2.1]
      exact Ev_bd _ (r_through (md := 0) hG hM (Nat.le_refl k) hj SpI.m (by omega)) (fun y hy => Ev_so hy)
    · have hany : (List.range n).any (fun x => netB f o sp md k (bR j) x ^^ netB f o 99 0 k (bR j) x) = true ↔ ¬ ∀ x, x < n → netB f o sp md k (bR j) x = netB f o 99 0 k (bR j) x := by
        rw [List.any_eq_true]
        constructor
        · rintro ⟨x, hx, h⟩ h2
          rw [h2 x (List.mem_range.mp hx)] at h
          simp at h
        · intro h
          apply Classical.byContradiction
          intro h2
          apply h
          intro x hx
          cases e1 : netB f o sp md k (bR j) x <;> cases e2 : netB f o 99 0 k (bR j) x
          · rfl
          · exact absurd ⟨x, List.mem_range.mpr hx, by rw [e1, e2]; rfl⟩ h2
          · exact absurd ⟨x, List.mem_range.mpr hx, by rw [e1, e2]; rfl⟩ h2
          · rfl
      have heq := RQ.eq hn hy hw
      refine Ev_i (fun e => Ev_nm (hself _ _ ⟨nI_add j 1, fun r hr => ?_⟩)) (fun e => Ev_nm (hself _ _ ⟨nI_add j 1, fun r hr => ?_⟩))
      · rw [bt_or, bt_0, h1 r hr, Bool.or_false]
        by_cases er : r = j
        · subst er
          have : (List.range n).any (fun x => netB f o sp md k (bR r) x ^^ netB f o 99 0 k (bR r) x) = false := by
            cases e3 : (List.range n).any (fun x => netB f o sp md k (bR r) x ^^ netB f o 99 0 k (bR r) x) with
            | false => rfl
            | true => exact absurd (heq.mp e) (hany.mp e3)
          rw [this]; simp
        · have : decide (r < j + 1) = decide (r < j) := by
            by_cases q : r < j
            · rw [decide_eq_true q, decide_eq_true (show r < j + 1 by omega)]
            · rw [decide_eq_false q, decide_eq_false (show ¬ r < j + 1 by omega)]
          rw [this]
      · rw [bt_or, bt_lshl1 (by omega) hr, h1 r hr]
        by_cases er : r = j
        · subst er
          rw [hany.mpr (fun z => e (heq.mpr z))]; simp
        · have : decide (r < j + 1) = decide (r < j) := by
            by_cases q : r < j
            · rw [decide_eq_true q, decide_eq_true (show r < j + 1 by omega)]
            · rw [decide_eq_false q, decide_eq_false (show ¬ r < j + 1 by omega)]
          rw [this, decide_eq_false er, Bool.or_false]
  · rintro self a1 a2 ⟨rfl, h1⟩
    unfold L_X11_tellers_5
    rw [hM.1, shl_n hn]
    exact Ev_t (Int32.le_refl _) (hk _ (fun r hr => h1 r hr))
