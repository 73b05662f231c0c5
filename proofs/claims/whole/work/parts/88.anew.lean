/-! CASE cameAnew -/
theorem C_anew {n k t x : Nat} {f o v : Nat → Nat} {c : Hp} (hG : Good n k f o) (hC : NetC n k f o c) (hx : x < n) (ht : t ≤ 1000) (hv : ∀ y, v y ≤ t) (h5 : ∀ y, y < 6 → c.1 24 y = nI (v y)) : Ev (f_X1_reckoned_23_1 c (nI x)) (fun r => r.1 = nI (balN f o k v x) ∧ Sm [26] c r.2) := by
  have hn := hG.2.1
  have hk24 := hG.2.2.1
  unfold f_X1_reckoned_23_1
  refine Ev_jn1 (fun h => Sm [26] c h ∧ ∀ y, y < 6 → h.1 26 y = nI (v y)) (fun h ⟨hS, h0⟩ => ?_) (fun kk hk => ?_)
  · refine Ev_jn1 (fun h => Sm [26] c h ∧ ∀ y, y < 6 → h.1 26 y = nI (balN f o k v y)) (fun h ⟨hS, h0⟩ => Ev_ck rfl (by omega) (by omega) (Ev_so ⟨by rw [clN (by omega)]; exact h0 x (by omega), hS⟩)) (fun kk hk => ?_)
    refine Ev_fx2 (fun j a1 a2 => a1 = nI j ∧ Sm [26] c a2 ∧ ∀ y, y < 6 → a2.1 26 y = nI (balN f o j v y)) k ?_ ?_ (FU_lt (by omega)) ⟨rfl, hS, h0⟩
    · rintro self j a1 a2 hj ⟨rfl, hS, h0⟩ hself
      unfold L_X1_reckoned_23_1_28
      obtain ⟨g1, g2, g3⟩ := hG.2.2.2 j hj
      have e1 : a2.1 1 = c.1 1 := (hS 1 (by decide)).1
      have e2 : a2.1 2 = c.1 2 := (hS 2 (by decide)).1
      have e3 : a2.1 3 = c.1 3 := (hS 3 (by decide)).1
      have b1 := balN_le (f := f) (o := o) hv j (f j)
      have b2 := balN_le (f := f) (o := o) hv j (o j)
      have f2 : a2.1 2 j = nI (f j) := by rw [e2]; exact (hC.2.2 j hj).1
      have f3 : a2.1 3 j = nI (o j) := by rw [e3]; exact (hC.2.2 j hj).2
      refine Ev_f (by rw [e1, hC.2.1]; exact nle_n hj (by omega)) ?_
      simp (disch := omega) only [clN, wI_n, f2, f3, h0 _ (show f j < 6 by omega), h0 _ (show o j < 6 by omega), nI_add, n1, n2]
      refine Ev_ck rfl (by omega) (by omega) (Ev_ck rfl (by omega) (by omega) (Ev_ck rfl (by omega) (by omega) (Ev_ck rfl (by omega) (by omega) (Ev_nm ?_))))
      rw [nI_add]
      rw [show nI (balN f o j v (f j) + balN f o j v (o j) + 1) / nI 2 = nI ((balN f o j v (f j) + balN f o j v (o j) + 1) / 2) from ndiv (by omega) (by omega) (by omega), show nI (balN f o j v (f j) + balN f o j v (o j)) / nI 2 = nI ((balN f o j v (f j) + balN f o j v (o j)) / 2) from ndiv (by omega) (by omega) (by omega)]
      refine Ev_ck rfl (by omega) (by omega) (Ev_ck rfl (by omega) (by omega) (Ev_nm ?_))
      simp (disch := omega) only [clN, wI_n, f2, f3]
      refine Ev_ck rfl (by omega) (by omega) (Ev_ck rfl (by omega) (by omega) (Ev_nm (hself _ _ ⟨rfl, (hS.sI (by decide)).sI (by decide), fun y hy => ?_⟩)))
      show _ = nI (halfN (f j) (o j) (balN f o j v) y)
      unfold halfN
      simp (disch := omega) only [wI_1, clN]
      by_cases q : y = o j
      · rw [q, upd_s, if_neg (Ne.symm g3), if_pos rfl]
      · rw [upd_n _ _ q]
        by_cases q2 : y = f j
        · rw [q2, upd_s, if_pos rfl]
        · rw [upd_n _ _ q2, if_neg q2, if_neg q]; exact h0 y hy
    · rintro self a1 a2 ⟨rfl, hS, h0⟩
      unfold L_X1_reckoned_23_1_28
      have e1 : a2.1 1 = c.1 1 := (hS 1 (by decide)).1
      exact Ev_t (by rw [e1, hC.2.1]; exact Int32.le_refl _) (hk _ ⟨hS, h0⟩)
  · refine Ev_fx2 (fun j a1 a2 => a1 = nI j ∧ Sm [26] c a2 ∧ ∀ y, y < j → a2.1 26 y = nI (v y)) 6 ?_ ?_ (FU_lt (by omega)) ⟨rfl, Sm.rf, fun y hy => absurd hy (by omega)⟩
    · rintro self j a1 a2 hj ⟨rfl, hS, h0⟩ hself
      unfold L_X1_reckoned_23_1_2
      refine Ev_f (nle_n (a := 6) hj (by omega)) (Ev_ck rfl hj (by omega) (Ev_ck rfl hj (by omega) (Ev_nm (hself _ _ ⟨nI_add j 1, hS.sI (by decide), fun y hy => ?_⟩))))
      simp (disch := omega) only [wI_1, clN]
      by_cases q : y = j
      · rw [q, upd_s, (hS 24 (by decide)).1]; exact h5 j hj
      · rw [upd_n _ _ q]; exact h0 y (by omega)
    · rintro self a1 a2 ⟨rfl, hS, h0⟩
      unfold L_X1_reckoned_23_1_2
      exact Ev_t (le_n (a := 6) (by omega) (by omega)) (hk _ ⟨hS, h0⟩)
theorem pc_27 {L : Nat} {xs : Nat → Int32} {i : Int32} {s : LWS} {kont : LWS → Option Unit} (hI : Inv s) (hi : OKi L i) (hk : ∀ s1, Inv s1 → kont s1 = some ()) : lc_27 L xs i s kont = some () := by
  obtain ⟨c, m, out⟩ := s
  have hI0 := hI
  obtain ⟨n, k, f, o, hG, hC, hM, hT, hB, hS, hSt, hA⟩ := hI
  have hn := hG.2.1
  have hn2 := hG.1
  generalize hx : xs (i + 1).toNatClampNeg = x
  by_cases hb : badI n x
  · have h1 : f_X10_cameAnew c x = some (.inl ("java/lang/IndexOutOfBoundsException", c)) := by
      unfold f_X10_cameAnew
      exact bdx_l (C_wire_f hC.1 hb)
    have h2 : f_X11_cameAnew m x = some (0, wF m 0 0 1) := by
      unfold f_X11_cameAnew
      rw [M_came_f hM.1 (by omega) hn hb]; rfl
    simp [lc_27, fh_cameAnew, hx, h1, h2, hcatch, bd, nm, setM, setC, setO, f_X11_thrown, jn0, wF_1, upd_s, (hi _).1]
    exact hk _ hI0.thrown
  · obtain ⟨a, ha, rfl⟩ := (wire_or (n := n) (by omega) x).resolve_left hb
    obtain ⟨t, v, q1, q2, q3, q4, q5, q6, q7⟩ := hB
    obtain ⟨r1, h1, a1, a2⟩ := C_anew hG hC ha q1 q2 (fun y hy => (q6 y hy).1)
    have h3 : f_X10_cameAnew c (nI a) = some (.inr (r1.1, r1.2)) := by
      unfold f_X10_cameAnew
      rw [bdx_r (C_wire_t hC.1 hn ha), h1]; rfl
    have h2 : f_X11_cameAnew m (nI a) = some (m.1 10 a, wF m 0 0 0) := by
      unfold f_X11_cameAnew
      rw [M_came_t hM.1 hn ha]; rfl
    have e : r1.1 = m.1 10 a := by rw [a1, (q6 a (by omega)).2.2]
    simp [lc_27, fh_cameAnew, hx, h3, h2, e, hcatch, bd, nm, setM, setC, setO, f_X11_thrown, jn0, wF_1, upd_s, (hi _).1, updL_s, lgc]
    exact hk _ (hI0.scr (a2.mono (by decide)))
