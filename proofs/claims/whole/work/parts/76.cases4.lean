/-! CASES mirror, came, isStep -/
def mirF (n k : Nat) (g h : Nat → Nat) : Nat → Nat := fun i => if i < k then n - 1 - h i else g i
theorem C_mirror {n k : Nat} {f o : Nat → Nat} {c : Hp} (hG : Good n k f o) (hC : NetC n k f o c) : Ev (f_X10_mirror c) (fun c1 => NetC n k (fun i => n - 1 - o i) (fun i => n - 1 - f i) c1 ∧ Sm [2, 3, 20, 23, 24, 25, 27] c c1 ∧ FgC c1) := by
  unfold f_X10_mirror f_X9_turnUpsideDown_1
  refine Ev_bd (fun c1 => NetC n k (fun i => n - 1 - o i) (fun i => n - 1 - f i) c1 ∧ Sm [2, 3] c c1) ?_ (fun c1 ⟨h1, h2⟩ => ?_)
  · refine Ev_jn1 (fun c1 => NetC n k (fun i => n - 1 - o i) (fun i => n - 1 - f i) c1 ∧ Sm [2, 3] c c1) (fun c1 h => Ev_so h) (fun kk hk => ?_)
    refine Ev_fx2 (fun j a1 a2 => a1 = nI j ∧ Sm [2, 3] c a2 ∧ ∀ i, i < k → a2.1 2 i = nI (if i < j then n - 1 - o i else f i) ∧ a2.1 3 i = nI (if i < j then n - 1 - f i else o i)) k ?_ ?_ (FU_lt (by have := hG.2.2.1; omega)) ⟨rfl, Sm.rf, fun i hi => by rw [if_neg (by omega), if_neg (by omega)]; exact hC.2.2 i hi⟩
    · rintro self j a1 a2 hj ⟨rfl, hS, hZ⟩ hself
      have hk24 := hG.2.2.1
      have hn := hG.2.1
      have hfo := hG.2.2.2 j hj
      unfold L_X9_turnUpsideDown_1_2
      have e0 : a2.1 1 0 = nI n := by rw [(hS 1 (by decide)).1]; exact hC.1
      have e1 : a2.1 1 1 = nI k := by rw [(hS 1 (by decide)).1]; exact hC.2.1
      have e2 := (hZ j hj).1
      have e3 := (hZ j hj).2
      rw [if_neg (by omega)] at e2 e3
      have q1 : a2.1 1 0 - 1 - a2.1 3 (nI j).toNatClampNeg = nI (n - 1 - o j) := by
        rw [clN (by omega), e3, e0, n1, nsub (by omega), nsub (by omega)]
      rw [q1]
      have q2 : (wI a2 2 (nI j) (nI (n - 1 - o j))).1 1 0 - 1 - a2.1 2 (nI j).toNatClampNeg = nI (n - 1 - f j) := by
        rw [wI_n _ _ _ _ _ (by decide), clN (by omega), e2, e0, n1, nsub (by omega), nsub (by omega)]
      refine Ev_f (by rw [e1]; exact nle_n hj (by omega)) (Ev_ck rfl (by omega) (by omega) (Ev_ck rfl (by omega) (by omega) (Ev_ck rfl (by omega) (by omega) (Ev_nm (Ev_ck rfl (by omega) (by omega) (Ev_nm (hself _ _ ⟨nI_add j 1, (hS.sI (by decide)).sI (by decide), fun i hi => ?_⟩)))))))
      rw [q2]
      by_cases e : i = j
      · subst e
        rw [if_pos (by omega), if_pos (by omega)]
        simp (disch := omega) only [wI_1, wI_n, clN, upd_s, and_self]
      · simp (disch := omega) only [wI_1, wI_n, clN, upd_n]
        have h3 := hZ i hi
        by_cases e4 : i < j
        · rw [if_pos e4, if_pos e4] at h3
          rw [if_pos (by omega), if_pos (by omega)]; exact h3
        · rw [if_neg e4, if_neg e4] at h3
          rw [if_neg (by omega), if_neg (by omega)]; exact h3
    · rintro self a1 a2 ⟨rfl, hS, hZ⟩
      unfold L_X9_turnUpsideDown_1_2
      refine Ev_t (by rw [(hS 1 (by decide)).1, hC.2.1]; exact Int32.le_refl _) (hk _ ⟨⟨?_, ?_, fun i hi => ?_⟩, hS⟩)
      · rw [(hS 1 (by decide)).1]; exact hC.1
      · rw [(hS 1 (by decide)).1]; exact hC.2.1
      · have h3 := hZ i hi
        rw [if_pos hi, if_pos hi] at h3
        exact h3
  · refine Ev_bd _ (s_forgetC c1) (fun c2 ⟨g1, g2, g3, g4, g5⟩ => ?_)
    exact Ev_so ⟨h1.keep (by rw [(g1 1 (by decide)).1]) (by rw [(g1 1 (by decide)).1]) (g1 2 (by decide)).1 (g1 3 (by decide)).1, (h2.mono (by decide)).tr (g1.mono (by decide)), g2, g3, g4, g5⟩
theorem M_mirror {n k : Nat} {f o : Nat → Nat} {m : Hp} (hG : Good n k f o) (hM : NetM n k f o m) : Ev (f_X11_mirror m) (fun m1 => NetM n k (fun i => n - 1 - o i) (fun i => n - 1 - f i) m1 ∧ Sm [0, 1, 2, 9, 10] m m1 ∧ m1.1 0 11 = m.1 0 11 ∧ FgM m1) := by
  unfold f_X11_mirror
  refine Ev_nm ?_
  have z0 : ∀ j, j ≠ 0 → (wF m 0 0 0).1 0 j = m.1 0 j := fun j hj => by rw [wF_1, upd_n _ _ hj]
  have zq : ∀ q, q ≠ 0 → (wF m 0 0 0).1 q = m.1 q := fun q hq => wF_n _ _ _ _ _ hq
  have zS : Sm [0, 1, 2] m (wF m 0 0 0) := Sm.rf.sF (by decide)
  generalize wF m 0 0 0 = g at z0 zq zS
  refine Ev_jn1 (fun m1 => (m1.1 0 = g.1 0 ∧ ∀ i, i < k → m1.1 1 i = nI (n - 1 - o i) ∧ m1.1 2 i = nI (n - 1 - f i)) ∧ Sm [0, 1, 2] m m1) (fun m1 ⟨⟨h0, h1⟩, h2⟩ => ?_) (fun kk hk => ?_)
  · refine Ev_bd _ (s_forgetM m1) (fun m2 ⟨g1, g2, g3, g4, g5⟩ => ?_)
    have e : ∀ j, j ≠ 0 → j ≠ 14 → m2.1 0 j = m.1 0 j := fun j hj hj2 => by rw [g3 j hj2, h0, z0 j hj]
    refine Ev_so ⟨⟨(e 1 (by decide) (by decide)).trans hM.1, (e 2 (by decide) (by decide)).trans hM.2.1, fun i hi => ?_, (e 7 (by decide) (by decide)).trans hM.2.2.2.1, fun r hr x hx => ?_⟩, (h2.mono (by decide)).tr (g1.mono (by decide)), e 11 (by decide) (by decide), g2, g4, g5⟩
    · rw [(g1 1 (by decide)).1, (g1 2 (by decide)).1]; exact h1 i hi
    · rw [(g1 4 (by decide)).1, (h2 4 (by decide)).1]; exact hM.2.2.2.2 r hr x hx
  · refine Ev_fx2 (fun j a1 a2 => a1 = nI j ∧ (a2.1 0 = g.1 0 ∧ Sm [0, 1, 2] m a2) ∧ ∀ i, i < k → a2.1 1 i = nI (if i < j then n - 1 - o i else f i) ∧ a2.1 2 i = nI (if i < j then n - 1 - f i else o i)) k ?_ ?_ (FU_lt (by have := hG.2.2.1; omega)) ⟨rfl, ⟨rfl, zS⟩, fun i hi => by rw [if_neg (by omega), if_neg (by omega), zq 1 (by decide), zq 2 (by decide)]; exact hM.2.2.1 i hi⟩
    · rintro self j a1 a2 hj ⟨rfl, ⟨h0, hS⟩, hZ⟩ hself
      have hk24 := hG.2.2.1
      have hn := hG.2.1
      have hfo := hG.2.2.2 j hj
      unfold L_X11_mirror_7
      have e0 : a2.1 0 1 = nI n := by rw [h0, z0 1 (by decide)]; exact hM.1
      have e1 : a2.1 0 2 = nI k := by rw [h0, z0 2 (by decide)]; exact hM.2.1
      have e2 := (hZ j hj).1
      have e3 := (hZ j hj).2
      rw [if_neg (by omega)] at e2 e3
      have q1 : a2.1 0 1 - 1 - a2.1 2 (nI j).toNatClampNeg = nI (n - 1 - o j) := by
        rw [clN (by omega), e3, e0, n1, nsub (by omega), nsub (by omega)]
      rw [q1]
      have q2 : (wI a2 1 (nI j) (nI (n - 1 - o j))).1 0 1 - 1 - a2.1 1 (nI j).toNatClampNeg = nI (n - 1 - f j) := by
        rw [wI_n _ _ _ _ _ (by decide), clN (by omega), e2, e0, n1, nsub (by omega), nsub (by omega)]
      refine Ev_f (by rw [e1]; exact nle_n hj (by omega)) (Ev_ck rfl (by omega) (by omega) (Ev_ck rfl (by omega) (by omega) (Ev_ck rfl (by omega) (by omega) (Ev_nm (Ev_ck rfl (by omega) (by omega) (Ev_nm (hself _ _ ⟨nI_add j 1, ⟨?_, (hS.sI (by decide)).sI (by decide)⟩, fun i hi => ?_⟩)))))))
      · rw [wI_n _ _ _ _ _ (by decide), wI_n _ _ _ _ _ (by decide)]; exact h0
      rw [q2]
      by_cases e : i = j
      · subst e
        rw [if_pos (by omega), if_pos (by omega)]
        simp (disch := omega) only [wI_1, wI_n, clN, upd_s, and_self]
      · simp (disch := omega) only [wI_1, wI_n, clN, upd_n]
        have h3 := hZ i hi
        by_cases e4 : i < j
        · rw [if_pos e4, if_pos e4] at h3
          rw [if_pos (by omega), if_pos (by omega)]; exact h3
        · rw [if_neg e4, if_neg e4] at h3
          rw [if_neg (by omega), if_neg (by omega)]; exact h3
    · rintro self a1 a2 ⟨rfl, ⟨h0, hS⟩, hZ⟩
      unfold L_X11_mirror_7
      refine Ev_t (by rw [h0, z0 2 (by decide), hM.2.1]; exact Int32.le_refl _) (hk _ ⟨⟨h0, fun i hi => ?_⟩, hS⟩)
      have h3 := hZ i hi
      rw [if_pos hi, if_pos hi] at h3
      exact h3
theorem pc_4 {L : Nat} {xs : Nat → Int32} {i : Int32} {s : LWS} {kont : LWS → Option Unit} (hI : Inv s) (hk : ∀ s1, Inv s1 → kont s1 = some ()) : lc_4 L xs i s kont = some () := by
  obtain ⟨c, m, out⟩ := s
  obtain ⟨n, k, f, o, hG, hC, hM, hT, hB, hS, hSt, hA⟩ := hI
  obtain ⟨c1, g1, a1, a2, a3⟩ := C_mirror hG hC
  obtain ⟨m1, g2, b1, b2, b4, b5⟩ := M_mirror hG hM
  simp [lc_4, g1, g2, bd, nm, setM, setC]
  refine hk _ (Inv.made2 ⟨hG.1, hG.2.1, hG.2.2.1, fun i hi => ?_⟩ a1 b1 hT hSt hA (a2.mono (by decide)) (b2.mono (by decide)) b4 a3 b5)
  have := hG.2.2.2 i hi
  have := hG.1
  omega
theorem M_came_t {n x : Nat} {m : Hp} (hm : m.1 0 1 = nI n) (hn : n ≤ 6) (hx : x < n) : f_X11_came m (nI x) = some (m.1 10 x, wF m 0 0 0) := by
  refine Ev_eq ?_
  unfold f_X11_came
  refine Ev_bde (M_isWire_t hm hn hx) (Ev_jn1 (fun z => z = 0) (fun z hz => ?_) (fun j hj => Ev_f (by decide) (hj 0 rfl)))
  subst hz
  refine Ev_nm (Ev_t (by rw [wF_1, upd_s]; exact Int32.le_refl _) (Ev_ck rfl (by omega) (by omega) (Ev_so ?_)))
  rw [wF_n _ _ _ _ _ (by decide), clN (by omega)]
theorem M_came_f {n : Nat} {m : Hp} {x : Int32} (hm : m.1 0 1 = nI n) (h0 : 0 < n) (hn : n ≤ 6) (hx : badI n x) : f_X11_came m x = some (0, wF m 0 0 1) := by
  refine Ev_eq ?_
  unfold f_X11_came
  refine Ev_bde (M_isWire_f hm h0 hn hx) (Ev_jn1 (fun z => z = 1) (fun z hz => ?_) (fun j hj => Ev_t rfl (hj 1 rfl)))
  subst hz
  exact Ev_nm (Ev_f (by rw [wF_1, upd_s]; decide) (Ev_so rfl))
theorem pc_26 {L : Nat} {xs : Nat → Int32} {i : Int32} {s : LWS} {kont : LWS → Option Unit} (hI : Inv s) (hi : OKi L i) (hk : ∀ s1, Inv s1 → kont s1 = some ()) : lc_26 L xs i s kont = some () := by
  obtain ⟨c, m, out⟩ := s
  have hI0 := hI
  obtain ⟨n, k, f, o, hG, hC, hM, hT, hB, hS, hSt, hA⟩ := hI
  have hn := hG.2.1
  have hn2 := hG.1
  generalize hx : xs (i + 1).toNatClampNeg = x
  by_cases hb : badI n x
  · have h1 : f_X10_came c x = some (.inl ("java/lang/IndexOutOfBoundsException", c)) := by
      unfold f_X10_came
      exact bdx_l (C_wire_f hC.1 hb)
    have h2 := M_came_f hM.1 (by omega) hn hb
    simp [lc_26, fh_came, hx, h1, h2, hcatch, bd, nm, setM, setC, setO, f_X11_thrown, jn0, wF_1, upd_s, (hi _).1]
    exact hk _ hI0.thrown
  · obtain ⟨a, ha, rfl⟩ := (wire_or (n := n) (by omega) x).resolve_left hb
    have h1 : f_X10_came c (nI a) = some (.inr (c.1 25 a, c)) := by
      unfold f_X10_came
      rw [bdx_r (C_wire_t hC.1 hn ha), ck_nI (by omega) (by omega), clN (by omega)]
    have h2 := M_came_t hM.1 hn ha
    have h3 : c.1 25 a = m.1 10 a := by
      obtain ⟨t, v, q1, q2, q3, q4, q5, q6, q7⟩ := hB
      rw [(q6 a (by omega)).2.1, (q6 a (by omega)).2.2]
    simp [lc_26, fh_came, hx, h1, h2, h3, hcatch, bd, nm, setM, setC, setO, f_X11_thrown, jn0, wF_1, upd_s, (hi _).1, updL_s, lgc]
    exact hk _ hI0.thrown
