/-! CASE told -/
def deadB (n : Nat) (f o : Nat → Nat) (i : Nat) : Bool := !useB n f o i
def tangB (f o : Nat → Nat) (i : Nat) : Bool := decide (o i < f i)
theorem oft_eq {n i : Nat} {f o : Nat → Nat} (hn : n ≤ 6) : nI (ctB (oftP f o i) (2 ^ n)) = 0 ↔ deadB n f o i = true := by
  have hle : 2 ^ n ≤ 2 ^ 6 := Nat.pow_le_pow_right (by omega) hn
  have h2 := ct_le (p := oftP f o i) (n := 2 ^ n)
  have h := oft_le (n := n) (f := f) (o := o) (i := i) hn
  rw [show (0 : Int32) = nI 0 from rfl, nI_leI (by omega) (by omega), Nat.le_zero] at h
  rw [show (0 : Int32) = nI 0 from rfl, neqI (by omega) (by omega), h]
  unfold deadB
  cases useB n f o i <;> simp
theorem C_dead {n k : Nat} {f o : Nat → Nat} {c : Hp} (hG : Good n k f o) (hC : NetC n k f o c) : Ev (f_X4_deadCount_13_1 c) (fun r => r.1 = nI (ctB (deadB n f o) k) ∧ Sm [14] c r.2) := by
  have hn := hG.2.1
  have hk24 := hG.2.2.1
  unfold f_X4_deadCount_13_1
  refine Ev_jn2 (fun a h => a = nI (ctB (deadB n f o) k) ∧ Sm [14] c h) (fun a h hh => Ev_so hh) (fun kk hk => ?_)
  refine Ev_fx3 (fun j a1 a2 a3 => a2 = nI j ∧ a1 = nI (ctB (deadB n f o) j) ∧ Sm [14] c a3) k ?_ ?_ (FU_lt (by omega)) ⟨rfl, rfl, Sm.rf⟩
  · rintro self j a1 a2 a3 hj ⟨rfl, rfl, hS⟩ hself
    unfold L_X4_deadCount_13_1_4
    have hN := Sm.nC hC hS (by decide) (by decide) (by decide)
    rw [hN.2.1]
    refine Ev_f (nle_n hj (by omega)) (Ev_bd _ (C_exch hG hN hj) (fun r ⟨p1, p2, p3⟩ => ?_))
    have hd : lg_cmp r.1 0 = 0 ↔ deadB n f o j = true := by
      rw [lg_eq, p3.z hn]
      rw [← oft_eq hn, show (0 : Int32) = nI 0 from rfl]
      have hle : 2 ^ n ≤ 2 ^ 6 := Nat.pow_le_pow_right (by omega) hn
      have h2 := ct_le (p := oftP f o j) (n := 2 ^ n)
      rw [neqI (by omega) (by omega), ct_0]
    exact Ev_i (fun e => hself _ _ _ ⟨nI_add j 1, (ct_t (hd.mp e)).symm, hS.tr p1⟩) (fun e => hself _ _ _ ⟨nI_add j 1, (ct_f (fun z => e (hd.mpr z))).symm, hS.tr p1⟩)
  · rintro self a1 a2 a3 ⟨rfl, rfl, hS⟩
    unfold L_X4_deadCount_13_1_4
    rw [(hS 1 (by decide)).1, hC.2.1]
    exact Ev_t (Int32.le_refl _) (hk _ _ ⟨rfl, hS⟩)
theorem C_tang {n k : Nat} {f o : Nat → Nat} {c : Hp} (hG : Good n k f o) (hC : NetC n k f o c) : Ev (f_X9_crookedCount_1 c) (fun r => r = nI (ctB (tangB f o) k)) := by
  have hn := hG.2.1
  have hk24 := hG.2.2.1
  unfold f_X9_crookedCount_1
  refine Ev_jn1 (fun a => a = nI (ctB (tangB f o) k)) (fun a hh => Ev_so hh) (fun kk hk => ?_)
  refine Ev_fx2 (fun j a1 a2 => a2 = nI j ∧ a1 = nI (ctB (tangB f o) j)) k ?_ ?_ (FU_lt (by omega)) ⟨rfl, rfl⟩
  · rintro self j a1 a2 hj ⟨rfl, rfl⟩ hself
    obtain ⟨g1, g2, g3⟩ := hG.2.2.2 j hj
    unfold L_X9_crookedCount_1_4
    rw [hC.2.1]
    refine Ev_f (nle_n hj (by omega)) (Ev_bd (fun r => r = if tangB f o j = true then 1 else 0) ?_ (fun r hr => ?_))
    · unfold f_X9_isCrooked_1 tangB
      rw [clN (by omega), (hC.2.2 j hj).1, (hC.2.2 j hj).2]
      refine Ev_ck rfl (by omega) (by omega) (Ev_ck rfl (by omega) (by omega) (Ev_i (fun e => Ev_ckz (Or.inl rfl) (Ev_so ?_)) (fun e => Ev_ckz (Or.inr rfl) (Ev_so ?_))))
      · rw [nI_leI (by omega) (by omega)] at e
        rw [decide_eq_false (by omega)]; rfl
      · rw [nI_leI (by omega) (by omega)] at e
        rw [decide_eq_true (by omega)]; rfl
    · subst hr
      by_cases e : tangB f o j = true
      · rw [if_pos e]
        exact Ev_f (by decide) (hself _ _ ⟨nI_add j 1, (ct_t e).symm⟩)
      · rw [if_neg e]
        exact Ev_t rfl (hself _ _ ⟨nI_add j 1, (ct_f e).symm⟩)
  · rintro self a1 a2 ⟨rfl, rfl⟩
    unfold L_X9_crookedCount_1_4
    rw [hC.2.1]
    exact Ev_t (Int32.le_refl _) (hk _ rfl)
def toldA (n k : Nat) (f o : Nat → Nat) (w : Nat) : Nat := if w = 0 then n else if w = 1 then k else if w = 2 then allN f o k else if w = 3 then ctB (deadB n f o) k else if w = 4 then ctB (tangB f o) k else if k = 0 then 0 else 4 * k - 1
theorem C_told {n k w : Nat} {f o : Nat → Nat} {c : Hp} (hG : Good n k f o) (hC : NetC n k f o c) (hw : w < 6) : Ev (f_X10_told c (nI w)) (fun r => ∃ c1, r = .inr (nI (toldA n k f o w), c1) ∧ Sm [4, 5, 14] c c1) := by
  have hk24 := hG.2.2.1
  unfold f_X10_told
  have e : ∀ j, j < 6 → (nI w = nI j) = (w = j) := fun j hj => nI_iff (by omega) (by omega)
  rw [n0, n1, n2, n3, n4, n5]
  simp only [e 0 (by omega), e 1 (by omega), e 2 (by omega), e 3 (by omega), e 4 (by omega), e 5 (by omega)]
  unfold toldA
  refine Ev_i (fun h => Ev_so ⟨c, ?_, Sm.rf⟩) (fun h0 => Ev_i (fun h => Ev_so ⟨c, ?_, Sm.rf⟩) (fun h1 => Ev_i (fun h => Ev_bd _ (C_layers hG hC) (fun r ⟨q1, q2, _⟩ => Ev_so ⟨r.2, ?_, q2.mono (by decide)⟩)) (fun h2 => Ev_i (fun h => Ev_bd _ (C_dead hG hC) (fun r ⟨q1, q2⟩ => Ev_so ⟨r.2, ?_, q2.mono (by decide)⟩)) (fun h3 => Ev_i (fun h => Ev_bd _ (C_tang hG hC) (fun r q1 => Ev_so ⟨c, ?_, Sm.rf⟩)) (fun h4 => Ev_t (by omega) ?_)))))
  · rw [if_pos h, hC.1]
  · rw [if_neg h0, if_pos h, hC.2.1]
  · rw [if_neg h0, if_neg h1, if_pos h, q1]
  · rw [if_neg h0, if_neg h1, if_neg h2, if_pos h, q1]
  · rw [if_neg h0, if_neg h1, if_neg h2, if_neg h3, if_pos h, q1]
  · rw [if_neg h0, if_neg h1, if_neg h2, if_neg h3, if_neg h4]
    refine Ev_bd (fun r => r = nI (if k = 0 then 0 else 4 * k - 1)) ?_ (fun r q => Ev_so ⟨c, by rw [q], Sm.rf⟩)
    unfold f_X9_textLength_1
    rw [hC.2.1, show (0 : Int32) = nI 0 from rfl]
    simp only [nI_iff (show k < 2 ^ 31 by omega) (show 0 < 2 ^ 31 by omega)]
    refine Ev_i (fun h => Ev_so (by rw [if_pos h])) (fun h => Ev_so ?_)
    rw [if_neg h, n4, pk_mul, n1, nsub (by omega)]
theorem M_told {n k w : Nat} {f o : Nat → Nat} {m : Hp} (hG : Good n k f o) (hM : NetM n k f o m) (hw : w < 6) : Ev (f_X11_told m (nI w)) (fun r => r.1 = nI (toldA n k f o w) ∧ Sm [3] (wF m 0 0 0) r.2) := by
  have hn := hG.2.1
  have hk24 := hG.2.2.1
  unfold f_X11_told
  have hin : f_X11_in (nI w) 0 5 = some 1 := by
    rw [M_in, if_neg]
    rintro (h | h)
    · exact nI_pos (by omega) h
    · rw [n5, nI_ltI (by omega) (by omega)] at h; omega
  refine Ev_bde hin (Ev_jn1 (fun z => z = 0) (fun z hz => ?_) (fun j hj => Ev_f (by decide) (hj 0 rfl)))
  subst hz
  refine Ev_nm (Ev_t (by rw [wF_1, upd_s]; exact Int32.le_refl _) ?_)
  have hM1 := hM.t (x := 0)
  generalize wF m 0 0 0 = g at hM1
  have e : ∀ j, j < 6 → (nI w = nI j) = (w = j) := fun j hj => nI_iff (by omega) (by omega)
  refine Ev_jn2 (fun a b => (w = 3 → a = nI (ctB (deadB n f o) k)) ∧ b = nI (ctB (tangB f o) k)) (fun a b ⟨ha, hb⟩ => ?_) (fun kk hk => ?_)
  · rw [n0, n1, n2, n3, n4]
    simp only [e 0 (by omega), e 1 (by omega), e 2 (by omega), e 3 (by omega), e 4 (by omega)]
    unfold toldA
    refine Ev_i (fun h => Ev_so ⟨?_, Sm.rf⟩) (fun h0 => Ev_i (fun h => Ev_so ⟨?_, Sm.rf⟩) (fun h1 => Ev_i (fun h => Ev_bd _ (r_layers hG hM1) (fun r ⟨q1, q2, _⟩ => Ev_so ⟨?_, q2⟩)) (fun h2 => Ev_i (fun h => Ev_so ⟨?_, Sm.rf⟩) (fun h3 => Ev_i (fun h => Ev_so ⟨?_, Sm.rf⟩) (fun h4 => ?_)))))
    · rw [if_pos h, hM1.1]
    · rw [if_neg h0, if_pos h, hM1.2.1]
    · rw [if_neg h0, if_neg h1, if_pos h, q1]
    · rw [if_neg h0, if_neg h1, if_neg h2, if_pos h, ha h]
    · rw [if_neg h0, if_neg h1, if_neg h2, if_neg h3, if_pos h, hb]
    · rw [if_neg h0, if_neg h1, if_neg h2, if_neg h3, if_neg h4, hM1.2.1]
      simp only [nI_iff (show k < 2 ^ 31 by omega) (show 0 < 2 ^ 31 by omega)]
      refine Ev_i (fun h => Ev_so ⟨by rw [if_pos h], Sm.rf⟩) (fun h => Ev_so ⟨?_, Sm.rf⟩)
      rw [if_neg h, pk_mul, nsub (by omega)]
  · refine Ev_fx3 (fun j a1 a2 a3 => a3 = nI j ∧ (w = 3 → a1 = nI (ctB (deadB n f o) j)) ∧ a2 = nI (ctB (tangB f o) j)) k ?_ ?_ (FU_lt (by omega)) ⟨rfl, fun _ => rfl, rfl⟩
    · rintro self j a1 a2 a3 hj ⟨rfl, ha, rfl⟩ hself
      obtain ⟨g1, g2, g3⟩ := hG.2.2.2 j hj
      unfold L_X11_told_34
      rw [hM1.2.1, clN (by omega), (hM1.2.2.1 j hj).1, (hM1.2.2.1 j hj).2]
      refine Ev_f (nle_n hj (by omega)) ?_
      refine Ev_jn1 (fun z => w = 3 → a1 + z = nI (ctB (deadB n f o) (j + 1))) (fun z hz => Ev_nm (Ev_ck rfl (by omega) (by omega) (Ev_ck rfl (by omega) (by omega) ?_))) (fun k63 h63 => ?_)
      · refine Ev_i (fun e => Ev_nm (hself _ _ _ ⟨nI_add j 1, hz, ?_⟩)) (fun e => Ev_nm (hself _ _ _ ⟨nI_add j 1, hz, ?_⟩))
        · rw [nI_leI (by omega) (by omega)] at e
          rw [ct_f (by unfold tangB; rw [decide_eq_false (by omega)]; decide)]
          exact nI_add _ 0
        · rw [nI_leI (by omega) (by omega)] at e
          rw [ct_t (by unfold tangB; exact decide_eq_true (by omega))]
      · refine Ev_jn0 (w = 3 → ¬ deadB n f o j = true) (fun hq => h63 0 (fun h3 => ?_)) (fun k62 h62 => ?_)
        · rw [ha h3, ct_f (hq h3)]; exact nI_add _ 0
        · simp only [n3, e 3 (by omega)]
          refine Ev_i (fun h3 => Ev_bd _ (r_often hG hM1 hj) (fun y hy => ?_)) (fun h3 => h62 (fun z => absurd z h3))
          subst hy
          refine Ev_i (fun e => h63 1 (fun _ => ?_)) (fun e => h62 (fun _ z => e ((oft_eq hn).mpr z)))
          rw [ha h3, ct_t ((oft_eq hn).mp e)]
    · rintro self a1 a2 a3 ⟨rfl, ha, rfl⟩
      unfold L_X11_told_34
      rw [hM1.2.1]
      exact Ev_t (Int32.le_refl _) (hk _ _ ⟨ha, rfl⟩)
theorem w6_in {x : Int32} : (x < 0 ∨ (5 : Int32) < x) ↔ badI 6 x := by
  unfold badI
  rw [n5, Int32.lt_iff_toInt_lt, Int32.lt_iff_toInt_lt, Int32.le_iff_toInt_le, nI_toInt (by omega), nI_toInt (by omega)]
  have : (0 : Int32).toInt = 0 := rfl
  omega
theorem pc_7 {L : Nat} {xs : Nat → Int32} {i : Int32} {s : LWS} {kont : LWS → Option Unit} (hI : Inv s) (hi : OKi L i) (hk : ∀ s1, Inv s1 → kont s1 = some ()) : lc_7 L xs i s kont = some () := by
  obtain ⟨c, m, out⟩ := s
  have hI0 := hI
  obtain ⟨n, k, f, o, hG, hC, hM, hT, hB, hS, hSt, hA⟩ := hI
  have hk24 := hG.2.2.1
  generalize hx : xs (i + 1).toNatClampNeg = x
  by_cases hb2 : badI 6 x
  · have h1 : f_X10_told c x = some (.inl ("java/lang/IllegalArgumentException", c)) := by
      refine Ev_eq ?_
      unfold f_X10_told
      exact Ev_f (ne_bad (a := 0) (by omega) (by omega) hb2) (Ev_f (ne_bad (a := 1) (by omega) (by omega) hb2) (Ev_f (ne_bad (a := 2) (by omega) (by omega) hb2) (Ev_f (ne_bad (a := 3) (by omega) (by omega) hb2) (Ev_f (ne_bad (a := 4) (by omega) (by omega) hb2) (Ev_f (ne_bad (a := 5) (by omega) (by omega) hb2) (Ev_so rfl))))))
    have h2 : f_X11_told m x = some (0, wF m 0 0 1) := by
      refine Ev_eq ?_
      unfold f_X11_told
      refine Ev_bde M_in ?_
      refine Ev_jn1 (fun z => z = 1) (fun z hz => ?_) (fun j hj => Ev_t (by rw [if_pos (w6_in.mpr hb2)]) (hj 1 rfl))
      subst hz
      exact Ev_nm (Ev_f (by rw [wF_1, upd_s]; decide) (Ev_so rfl))
    simp [lc_7, fh_told, hx, h1, h2, hcatch, bd, nm, setM, setC, setO, f_X11_thrown, jn0, wF_1, upd_s, (hi _).1]
    exact hk _ hI0.thrown
  · obtain ⟨w, hw, rfl⟩ := (wire_or (n := 6) (by omega) x).resolve_left hb2
    obtain ⟨r1, h1, c1, rfl, a1⟩ := C_told hG hC hw
    obtain ⟨r2, h2, b1, b2⟩ := M_told hG hM hw
    have e0 : r2.2.1 0 0 = 0 := by rw [(b2 0 (by decide)).1, wF_1, upd_s]
    simp [lc_7, fh_told, hx, h1, h2, b1, e0, hcatch, bd, nm, setM, setC, setO, f_X11_thrown, jn0, (hi _).1, updL_s, lgc]
    exact hk _ (hI0.scr2 (a1.mono (by decide)) (b2.mono (by decide)))
