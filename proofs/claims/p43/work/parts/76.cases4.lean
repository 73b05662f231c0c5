/-! CASES mirror, came, isStep -/
def mirF (n k : Nat) (g h : Nat → Nat) : Nat → Nat := fun i => if i < k then n - 1 - h i else g i
theorem C_mirror {n k : Nat} {f o : Nat → Nat} {c : Hp} (hG : Good n k f o) (hC : NetC n k f o c) : Ev (f_X10_mirror c) (fun c1 => NetC n k (fun i => n - 1 - o i) (fun i => n - 1 - f i) c1 ∧ Sm [2, 3, 20, 23, 24, 25, 27] c c1 ∧ FgC c1) := by
  unfold f_X10_mirror f_X9_turnUpsideDown_1
  refine Ev_bd (fun c1 => NetC n k (fun i => n - 1 - o i) (fun i => n - 1 - f i) c1 ∧ Sm [2, 3] c c1) ?_ (fun c1 ⟨h1, h2⟩ => ?_)
  · refine Ev_jn1 (fun c1 => NetC n k (fun i => n - 1 - o i) (fun i => n - 1 - f i) c1 ∧ Sm [2, 3] c c1) (fun c1 h => Ev_so h) (fun kk hk => ?_)
    refine Ev_fx2 (fun j a1 a2 => a1 = nI j ∧ Sm [2, 3] c a2 ∧ ∀ i, i < k → a2.1 2 i = nI (if i < j then n - 1 - o i else f i) ∧ a2.1 3 i = nI (if i < j then n - 1 - f i else o i)) k ?_ ?_ (FU_lt (by have := hG.2.2.1; omega)) ⟨rfl, Sm.rf, fun i hi => by rw [if_neg (by omega), if_neg (by omega)]; exact hC.2.2 i hi⟩
    · rintro self j a1 a2 hj ⟨rfl, hS, hZ⟩ hself
      have hk24 := hG.2.2.1
      have hn := hG.2.1
      have hfo := hG.2.2.2 j hj
      unfold L_X9_turnUpsideDown_1_2
      have e0 : a2.1 1 0 = nI n := by rw [(hS 1 (by decide)).1]; exact hC.1
      have e1 : a2.1 1 1 = nI k := by rw [(hS 1 (by decide)).1]; exact hC.2.1
      have e2 := (hZ j hj).1
      have e3 := (hZ j hj).2
      rw [if_neg (by omega)] at e2 e3
      have q1 : a2.1 1 0 - 1 - a2.1 3 (nI j).toNatClampNeg = nI (n - 1 - o j) := by
        rw [clN (by omega), e3, e0, n1, nsub (by omega), nsub (by omega)]
      rw [q1]
      have q2 : (wI a2 2 (nI j) (nI (n - 1 - o j))).1 1 0 - 1 - a2.1 2 (nI j).toNatClampNeg = nI (n - 1 - f j) := by
        rw [wI_n _ _ _ _ _ (by decide), clN (by omega), e2, e0, n1, nsub (by omega), nsub (by omega)]
      refine Ev_f (by rw [e1]; exact nle_n hj (by omega)) (Ev_ck rfl (by omega) (by omega) (Ev_ck rfl (by omega) (by omega) (Ev_ck rfl (by omega) (by omega) (Ev_nm (Ev_ck rfl (by omega) (by omega) (Ev_nm (hself _ _ ⟨nI_add j 1, (hS.sI (by decide)).sI (by decide), fun i hi => ?_⟩)))))))
      rw [q2]
      by_cases e : i = j
      · subst e
        rw [if_pos (by omega), if_pos (by omega)]
        simp (disch := omega) only [wI_1, wI_n, clN, upd_s, and_self]
      · simp (disch := omega) only [wI_1, wI_n, clN, upd_n]
        have h3 := hZ i hi
        by_cases e4 : i < j
        · rw [if_pos e4, if_pos e4] at h3
          rw [if_pos (by omega), if_pos (by omega)]; exact h3
        · rw [if_neg e4, if_neg e4] at h3
          rw [if_neg (by omega), if_neg (by omega)]; exact h3
    · rintro self a1 a2 ⟨rfl, hS, hZ⟩
      unfold L_X9_turnUpsideDown_1_2
      refine Ev_t (by rw [(hS 1 (by decide)).1, hC.2.1]; exact Int32.le_refl _) (hk _ ⟨⟨?_, ?_, fun i hi => ?_⟩, hS⟩)
      · rw [(hS 1 (by decide)).1]; exact hC.1
      · rw [(hS 1 (by decide)).1]; exact hC.2.1
      · have h3 := hZ i hi
        rw [if_pos hi, if_pos hi] at h3
        exact h3
  · refine Ev_bd _ (s_forgetC c1) (fun c2 ⟨g1, g2, g3, g4, g5⟩ => ?_)
    exact Ev_so ⟨h1.keep (by rw [(g1 1 (by decide)).1]) (by rw [(g1 1 (by decide)).1]) (g1 2 (by decide)).1 (g1 3 (by decide)).1, (h2.mono (by decide)).tr (g1.mono (by decide)), g2, g3, g4, g5⟩
