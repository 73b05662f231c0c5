/-! CASE cameAnew -/
theorem C_anew {n k t x : Nat} {f o v : Nat → Nat} {c : Hp} (hG : Good n k f o) (hC : NetC n k f o c) (hx : x < n) (ht : t ≤ 1000) (hv : ∀ y, v y ≤ t) (h5 : ∀ y, y < 6 → c.1 24 y = nI (v y)) : Ev (f_X1_reckoned_23_1 c (nI x)) (fun r => r.1 = nI (balN f o k v x) ∧ Sm [26] c r.2) := by
  have hn := hG.2.1
  have hk24 := hG.2.2.1
  unfold f_X1_reckoned_23_1
  refine Ev_jn1 (fun h => Sm [26] c h ∧ ∀ y, y < 6 → h.1 26 y = nI (v y)) (fun h ⟨hS, h0⟩ => ?_) (fun kk hk => ?_)
  · refine Ev_jn1 (fun h => Sm [26] c h ∧ ∀ y, y < 6 → h.1 26 y = nI (balN f o k v y)) (fun h ⟨hS, h0⟩ => Ev_ck rfl (by omega) (by omega) (Ev_so ⟨by rw [clN (by omega)]; exact h0 x (by omega), hS⟩)) (fun kk hk => ?_)
    refine Ev_fx2 (fun j a1 a2 => a1 = nI j ∧ Sm [26] c a2 ∧ ∀ y, y < 6 → a2.1 26 y = nI (balN f o j v y)) k ?_ ?_ (FU_lt (by omega)) ⟨rfl, hS, h0⟩
    · rintro self j a1 a2 hj ⟨rfl, hS, h0⟩ hself
      unfold L_X1_reckoned_23_1_28
      obtain ⟨g1, g2, g3⟩ := hG.2.2.2 j hj
      have e1 : a2.1 1 = c.1 1 := (hS 1 (by decide)).1
      have e2 : a2.1 2 = c.1 2 := (hS 2 (by decide)).1
      have e3 : a2.1 3 = c.1 3 := (hS 3 (by decide)).1
      have b1 := balN_le (f := f) (o := o) hv j (f j)
      have b2 := balN_le (f := f) (o := o) hv j (o j)
      have f2 : a2.1 2 j = nI (f j) := by rw [e2]; exact (hC.2.2 j hj).1
      have f3 : a2.1 3 j = nI (o j) := by rw [e3]; exact (hC.2.2 j hj).2
      refine Ev_f (by rw [e1, hC.2.1]; exact nle_n hj (by omega)) ?_
      simp (disch := omega) only [clN, wI_n, f2, f3, h0 _ (show f j < 6 by omega), h0 _ (show o j < 6 by omega), nI_add, n1, n2]
      refine Ev_ck rfl (by omega) (by omega) (Ev_ck rfl (by omega) (by omega) (Ev_ck rfl (by omega) (by omega) (Ev_ck rfl (by omega) (by omega) (Ev_nm ?_))))
      rw [nI_add]
      rw [show nI (balN f o j v (f j) + balN f o j v (o j) + 1) / nI 2 = nI ((balN f o j v (f j) + balN f o j v (o j) + 1) / 2) from ndiv (by omega) (by omega) (by omega), show nI (balN f o j v (f j) + balN f o j v (o j)) / nI 2 = nI ((balN f o j v (f j) + balN f o j v (o j)) / 2) from ndiv (by omega) (by omega) (by omega)]
      refine Ev_ck rfl (by omega) (by omega) (Ev_ck rfl (by omega) (by omega) (Ev_nm ?_))
      simp (disch := omega) only [clN, wI_n, f2, f3]
      refine Ev_ck rfl (by omega) (by omega) (Ev_ck rfl (by omega) (by omega) (Ev_nm (hself _ _ ⟨rfl, (hS.sI (by decide)).sI (by decide), fun y hy => ?_⟩)))
      show _ = nI (halfN (f j) (o j) (balN f o j v) y)
      unfold halfN
      simp (disch := omega) only [wI_1, clN]
      by_cases q : y = o j
      · rw [q, upd_s, if_neg (Ne.symm g3), if_pos rfl]
      · rw [upd_n _ _ q]
        by_cases q2 : y = f j
        · rw [q2, upd_s, if_pos rfl]
        · rw [upd_n _ _ q2, if_neg q2, if_neg q]; exact h0 y hy
    · rintro self a1 a2 ⟨rfl, hS, h0⟩
      unfold L_X1_reckoned_23_1_28
      have e1 : a2.1 1 = c.1 1 := (hS 1 (by decide)).1
      exact Ev_t (by rw [e1, hC.2.1]; exact Int32.le_refl _) (hk _ ⟨hS, h0⟩)
  · refine Ev_fx2 (fun j a1 a2 => a1 = nI j ∧ Sm [26] c a2 ∧ ∀ y, y < j → a2.1 26 y = nI (v y)) 6 ?_ ?_ (FU_lt (by omega)) ⟨rfl, Sm.rf, fun y hy => absurd hy (by omega)⟩
    · rintro self j a1 a2 hj ⟨rfl, hS, h0⟩ hself
      unfold L_X1_reckoned_23_1_2
      refine Ev_f (nle_n (a := 6) hj (by omega)) (Ev_ck rfl hj (by omega) (Ev_ck rfl hj (by omega) (Ev_nm (hself _ _ ⟨nI_add j 1, hS.sI (by decide), fun y hy => ?_⟩))))
      simp (disch := omega) only [wI_1, clN]
      by_cases q : y = j
      · rw [q, upd_s, (hS 24 (by decide)).1]; exact h5 j hj
      · rw [upd_n _ _ q]; exact h0 y (by omega)
    · rintro self a1 a2 ⟨rfl, hS, h0⟩
      unfold L_X1_reckoned_23_1_2
      exact Ev_t (le_n (a := 6) (by omega) (by omega)) (hk _ ⟨hS, h0⟩)
