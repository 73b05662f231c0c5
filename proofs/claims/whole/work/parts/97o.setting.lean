/-! CASES routes, setting -/
theorem SwR.of {n k : Nat} {f o : Nat → Nat} {h : Hp} (h1 : h.1 20 2 = nI (ctB (fun r => reachB n f o k (rowT n r)) (facN n))) (h2 : ∀ v, PermN n v → ∃ l, l ≤ k + 1 ∧ h.1 22 (rankN v n) = nI l ∧ ∀ i, i ≤ k → (reachB n f o i v = true ↔ 1 ≤ l ∧ l ≤ i + 1)) : SwR n k f o h := Or.inr ⟨h1, h2⟩
theorem M_routes {n k : Nat} {f o : Nat → Nat} {m : Hp} (hG : Good n k f o) (hM : NetM n k f o m) : Ev (f_X11_routes m) (fun r => r.1 = nI (ctB (fun r => reachB n f o k (rowT n r)) (facN n)) ∧ Sm [5, 11] (wF m 0 0 0) r.2) := by
  have hn := hG.2.1
  have hk24 := hG.2.2.1
  have hF := fac_le n (by omega)
  unfold f_X11_routes
  refine Ev_nm ?_
  have hM1 := hM.t (x := 0)
  generalize wF m 0 0 0 = g at hM1
  refine Ev_bd _ (M_reaches hG hM1) (fun h ⟨hI, hS⟩ => ?_)
  refine Ev_jn1 (fun y => y = nI (ctB (fun r => reachB n f o k (rowT n r)) (facN n))) (fun y hy => Ev_so ⟨hy, hS⟩) (fun kk hk => ?_)
  refine Ev_fx2 (fun r a1 a2 => a2 = nI r ∧ a1 = nI (ctB (fun r => reachB n f o k (rowT n r)) r)) (facN n) ?_ ?_ (FU_lt (by omega)) ⟨rfl, rfl⟩
  · rintro self r a1 a2 hr ⟨rfl, rfl⟩ hself
    unfold L_X11_routes_13
    rw [(hS 0 (by decide)).1, hM1.2.2.2.1, hM1.2.1, show (720 : Int32) = nI 720 from rfl, nmul, nI_add, clN (by omega), hI k (Nat.le_refl k) r hr]
    refine Ev_f (nle_n hr (by omega)) (Ev_ck rfl (by omega) (by omega) ?_)
    cases e : rbN n f o k r with
    | true =>
      refine Ev_f (by decide) (Ev_nm (hself _ _ ⟨nI_add r 1, ?_⟩))
      exact (ct_t (p := fun r => reachB n f o k (rowT n r)) e).symm
    | false =>
      refine Ev_t rfl (Ev_nm (hself _ _ ⟨nI_add r 1, ?_⟩))
      rw [ct_f (p := fun r => reachB n f o k (rowT n r)) (by show ¬ rbN n f o k r = true; rw [e]; decide)]
      exact nI_add _ 0
  · rintro self a1 a2 ⟨rfl, rfl⟩
    unfold L_X11_routes_13
    rw [(hS 0 (by decide)).1, hM1.2.2.2.1]
    exact Ev_t (Int32.le_refl _) (hk _ rfl)
theorem wF_j {m : Hp} {x : Int32} {j : Nat} (hj : j ≠ 0) : (wF m 0 0 x).1 0 j = m.1 0 j := by rw [wF_1, upd_n _ _ hj]
theorem pc_23 {L : Nat} {xs : Nat → Int32} {i : Int32} {s : LWS} {kont : LWS → Option Unit} (hI : Inv s) (hk : ∀ s1, Inv s1 → kont s1 = some ()) : lc_23 L xs i s kont = some () := by
  obtain ⟨c, m, out⟩ := s
  obtain ⟨n, k, f, o, hG, hC, hM, hT, hB, hS, hSt, hA⟩ := hI
  obtain ⟨h, h0, a1, a2, a3⟩ := C_learn hG hC hS
  have h1 : f_X10_routes c = some (nI (ctB (fun r => reachB n f o k (rowT n r)) (facN n)), h) := by
    refine Ev_eq ?_
    unfold f_X10_routes f_X7_rowsOut_20_1
    exact Ev_bd (fun r => r = (nI (ctB (fun r => reachB n f o k (rowT n r)) (facN n)), h)) (Ev_bde h0 (Ev_so (by rw [a2]))) (fun r hr => Ev_so (by rw [hr]))
  obtain ⟨r2, h2, b1, b2⟩ := M_routes hG hM
  simp only [lc_23, h1, h2, bd, nm, setC, setM]
  rw [if_pos b1.symm]
  refine hk _ (Inv.sw hG hC hM hT hB hSt hA (SwR.of a2 a3) a1 (((Sm.rf.sF (by decide)) : Sm [0, 3, 5, 6, 7, 11, 12, 13, 15, 16, 17, 18] m (wF m 0 0 0)).tr (b2.mono (by decide))) (fun j hj => ?_))
  rw [(b2 0 (by decide)).1, wF_j (by rintro rfl; revert hj; decide)]
/-- the lowest setting -/
def stN (n : Nat) (f o : Nat → Nat) : Nat → (Nat → Nat) → Nat
  | 0, _ => 0
  | i + 1, v => if reachB n f o i v = true then stN n f o i v else 2 ^ i ||| stN n f o i (swapN (f i) (o i) v)
theorem stN_congr {n k : Nat} {f o : Nat → Nat} (hG : Good n k f o) : ∀ j, j ≤ k → ∀ u v : Nat → Nat, (∀ x, x < n → u x = v x) → stN n f o j u = stN n f o j v
  | 0, _, _, _, _ => rfl
  | j + 1, hj, u, v, h => by
    obtain ⟨g1, g2, g3⟩ := hG.2.2.2 j (by omega)
    show (if reachB n f o j u = true then stN n f o j u else 2 ^ j ||| stN n f o j (swapN (f j) (o j) u)) = (if reachB n f o j v = true then stN n f o j v else 2 ^ j ||| stN n f o j (swapN (f j) (o j) v))
    rw [reach_congr hG j (by omega) u v h, stN_congr hG j (by omega) u v h, stN_congr hG j (by omega) _ _ (swap_congr g1 g2 h)]
theorem shl1 {i : Nat} (hi : i < 32) : ishl (1 : Int32) (nI i) = nI (2 ^ i) := by
  have := ishl_n (a := 1) (k := i) hi
  rw [Nat.one_mul] at this; exact this
theorem C_setting {n k q : Nat} {f o v : Nat → Nat} {c : Hp} (hG : Good n k f o) (hC : NetC n k f o c) (hS : SwR n k f o c) (hP : PK n v q) (hv : PermN n v) : Ev (f_X7_lowestFor_20_1 c (nI q)) (fun r => Sm [20, 21, 22] c r.2 ∧ SwR n k f o r.2 ∧ (reachB n f o k v = true → r.1 = nI (stN n f o k v)) ∧ (¬ reachB n f o k v = true → r.1 = -1)) := by
  have hn := hG.2.1
  have hk24 := hG.2.2.1
  have hF := fac_le n (by omega)
  unfold f_X7_lowestFor_20_1
  refine Ev_bd _ (C_learn hG hC hS) (fun h ⟨a1, a2, a3⟩ => ?_)
  have hC1 := Sm.nC hC a1 (by decide) (by decide) (by decide)
  have hSw := SwR.of a2 a3
  have hrl := rank_lt hn hv
  rw [hC1.1]
  refine Ev_bde (C_rank hn hP hv) (Ev_ck rfl (by omega) (by omega) ?_)
  obtain ⟨l, hl, e22, hl2⟩ := a3 v hv
  rw [clN (by omega), e22, hC1.2.1, show (0 : Int32) = nI 0 from rfl]
  have hk2 := hl2 k (Nat.le_refl k)
  refine Ev_i (fun e => Ev_so ⟨a1, hSw, fun z => ?_, fun _ => rfl⟩) (fun e => ?_)
  · rw [neqI (by omega) (by omega)] at e
    have := (hk2.mp z).1
    omega
  · rw [neqI (by omega) (by omega)] at e
    have hrk : reachB n f o k v = true := hk2.mpr ⟨by omega, hl⟩
    refine Ev_nm (Ev_jn1 (fun y => y = nI (stN n f o k v)) (fun y hy => Ev_so ⟨a1, hSw, fun _ => hy, fun z => absurd hrk z⟩) (fun kk hk => ?_))
    refine Ev_fx3 (fun j b1 b2 b3 => b3 = nI (k - j) + (-1) ∧ ∃ acc w p, b1 = nI acc ∧ b2 = nI p ∧ PK n w p ∧ PermN n w ∧ reachB n f o (k - j) w = true ∧ acc ||| stN n f o (k - j) w = stN n f o k v) k ?_ ?_ (FU_lt (by omega)) ⟨?_, 0, v, q, rfl, rfl, hP, hv, by rw [Nat.sub_zero]; exact hrk, by rw [Nat.sub_zero, Nat.zero_or]⟩
    · rintro self j b1 b2 b3 hj ⟨rfl, acc, w, p, rfl, rfl, hPw, hw, hrw, hacc⟩ hself
      obtain ⟨i, hi⟩ : ∃ i, k - j = i + 1 := ⟨k - j - 1, by omega⟩
      have hi2 : k - (j + 1) = i := by omega
      obtain ⟨g1, g2, g3⟩ := hG.2.2.2 i (by omega)
      rw [hi] at hrw hacc
      rw [hi2] at hself
      have hrl2 := rank_lt hn hw
      obtain ⟨l2, hl3, e23, hl4⟩ := a3 w hw
      have hq1 := hl4 i (by omega)
      have hq2 := (hl4 (i + 1) (by omega)).mp hrw
      unfold L_X7_lowestFor_20_1_39
      rw [hi, nI_m1]
      refine Ev_f (nI_pos (by omega)) (Ev_bde (C_rank hn hPw hw) (Ev_ck rfl (by omega) (by omega) ?_))
      rw [clN (by omega), e23, n1, nI_add]
      have hst : stN n f o (i + 1) w = if reachB n f o i w = true then stN n f o i w else 2 ^ i ||| stN n f o i (swapN (f i) (o i) w) := rfl
      refine Ev_i (fun e => ?_) (fun e => Ev_nm (Ev_ck rfl (by omega) (by omega) (Ev_ck rfl (by omega) (by omega) ?_)))
      · rw [nI_leI (by omega) (by omega)] at e
        have hri := hq1.mpr ⟨hq2.1, e⟩
        rw [if_pos hri] at hst
        exact hself _ _ _ ⟨rfl, acc, w, p, rfl, rfl, hPw, hw, hri, by rw [← hst]; exact hacc⟩
      · rw [nI_leI (by omega) (by omega)] at e
        have hri : ¬ reachB n f o i w = true := fun z => e (hq1.mp z).2
        rw [if_neg hri] at hst
        rw [clN (by omega), (hC1.2.2 i (by omega)).1, (hC1.2.2 i (by omega)).2]
        refine Ev_bd _ (C_exchanged hn hPw g1 g2 g3 (by have := hw.1 _ g1; omega) (by have := hw.1 _ g2; omega)) (fun y ⟨p2, ey, hp2⟩ => ?_)
        subst ey
        rw [← n1, shl1 (by omega), nI_or]
        refine hself _ _ _ ⟨rfl, _, _, p2, rfl, rfl, hp2, swap_perm g1 g2 g3 hw, ?_, ?_⟩
        · rw [reach_s, Bool.or_eq_true] at hrw
          exact hrw.resolve_left hri
        · rw [Nat.or_assoc, ← hst]; exact hacc
    · rintro self b1 b2 b3 ⟨rfl, acc, w, p, rfl, rfl, hPw, hw, hrw, hacc⟩
      unfold L_X7_lowestFor_20_1_39
      rw [Nat.sub_self] at hacc ⊢
      have : stN n f o 0 w = 0 := rfl
      rw [this, Nat.or_zero] at hacc
      exact Ev_t m1_lt (hk _ (by rw [hacc]))
    · rw [Nat.sub_zero]; exact Int32.sub_eq_add_neg _ _
theorem M_setting {n k : Nat} {f o v : Nat → Nat} {m : Hp} {x : Int32} {r : Int32 × Hp} (hG : Good n k f o) (hM : NetM n k f o m) (hv : PermN n v) (hr : f_X11_rowOf m x = some r) (b0 : Sm [5] m r.2) (b1 : r.1 = nI (num n v)) : Ev (f_X11_setting m x) (fun r3 => Sm [5, 11] (wF r.2 0 0 0) r3.2 ∧ r3.2.1 0 0 = 0 ∧ (reachB n f o k v = true → r3.1 = nI (stN n f o k v)) ∧ (¬ reachB n f o k v = true → r3.1 = -1)) := by
  have hn := hG.2.1
  have hk24 := hG.2.2.1
  have hF := fac_le n (by omega)
  have hnl := num_lt' hn hv
  unfold f_X11_setting
  refine Ev_bde hr (Ev_jn1 (fun z => z = 0) (fun z hz => ?_) (fun j hj => Ev_f (by rw [b1]; exact ne_m1 (by omega)) (hj 0 rfl)))
  subst hz
  have hM2 : NetM n k f o (wF r.2 0 0 0) := (Sm.nM hM b0 (by decide) (by decide) (by decide) (by decide)).t
  have e0 : (wF r.2 0 0 0).1 0 0 = 0 := by rw [wF_1, upd_s]
  refine Ev_nm (Ev_t (by rw [e0]; exact Int32.le_refl _) ?_)
  generalize wF r.2 0 0 0 = g at hM2 e0
  refine Ev_bd _ (M_reaches hG hM2) (fun h ⟨hI, hS⟩ => ?_)
  have hrc : ∀ i, i ≤ k → ∀ w, PermN n w → rbN n f o i (num n w) = reachB n f o i w := fun i hi w hw => reach_congr hG i hi _ _ (fun x hx => num_row hn hw hx)
  rw [(hS 0 (by decide)).1, hM2.2.1, b1, show (720 : Int32) = nI 720 from rfl, nmul, nI_add, clN (by omega), hI k (Nat.le_refl k) _ hnl, hrc k (Nat.le_refl k) v hv]
  refine Ev_ck rfl (by omega) (by omega) ?_
  by_cases hrk : reachB n f o k v = true
  · rw [if_pos hrk]
    refine Ev_f (by decide) (Ev_nm (Ev_jn2 (fun a h2 => a = nI (stN n f o k v) ∧ Sm [5] h h2) (fun a h2 ⟨ha, hS2⟩ => Ev_so ⟨hS.tr (hS2.mono (by decide)), by rw [(hS2 0 (by decide)).1, (hS 0 (by decide)).1]; exact e0, fun _ => ha, fun z => absurd hrk z⟩) (fun kk hk => ?_)))
    refine Ev_fx4 (fun j b1 b2 b3 h2 => b3 = nI (k - j) + (-1) ∧ ∃ acc w, b2 = nI acc ∧ b1 = nI (num n w) ∧ PermN n w ∧ acc ||| stN n f o (k - j) w = stN n f o k v ∧ Sm [5] h h2) k ?_ ?_ (FU_lt (by omega)) ⟨?_, 0, v, rfl, rfl, hv, by rw [Nat.sub_zero, Nat.zero_or], Sm.rf⟩
    · rintro self j b1 b2 b3 h2 hj ⟨rfl, acc, w, rfl, rfl, hw, hacc, hS2⟩ hself
      obtain ⟨i, hi⟩ : ∃ i, k - j = i + 1 := ⟨k - j - 1, by omega⟩
      have hi2 : k - (j + 1) = i := by omega
      obtain ⟨g1, g2, g3⟩ := hG.2.2.2 i (by omega)
      rw [hi] at hacc
      rw [hi2] at hself
      have hwl := num_lt' hn hw
      unfold L_X11_setting_63
      rw [hi, nI_m1, show (720 : Int32) = nI 720 from rfl, nmul, nI_add, clN (by omega), (hS2 11 (by decide)).1, hI i (by omega) _ hwl, hrc i (by omega) w hw]
      have hst : stN n f o (i + 1) w = if reachB n f o i w = true then stN n f o i w else 2 ^ i ||| stN n f o i (swapN (f i) (o i) w) := rfl
      refine Ev_f (nI_pos (by omega)) (Ev_ck rfl (by omega) (by omega) ?_)
      by_cases hri : reachB n f o i w = true
      · rw [if_pos hri] at hst ⊢
        exact Ev_f (by decide) (hself _ _ _ _ ⟨rfl, acc, w, rfl, rfl, hw, by rw [← hst]; exact hacc, hS2⟩)
      · rw [if_neg hri] at hst ⊢
        have hN := Sm.nM (Sm.nM hM2 hS (by decide) (by decide) (by decide) (by decide)) hS2 (by decide) (by decide) (by decide) (by decide)
        refine Ev_t rfl (Ev_nm (Ev_bd _ (M_lays hn hN hwl) (fun h3 ⟨hR3, hS3⟩ => ?_)))
        have hN3 := Sm.nM hN hS3 (by decide) (by decide) (by decide) (by decide)
        have hR3 : RwM n w h3 := RwM.congr (fun x hx => num_row hn hw hx) hR3
        rw [clN (by omega), (hN3.2.2.1 i (by omega)).1, (hN3.2.2.1 i (by omega)).2]
        refine Ev_ck rfl (by omega) (by omega) (Ev_ck rfl (by omega) (by omega) (Ev_bd _ (M_exchanges hn g1 g2 g3 hR3) (fun h4 ⟨hR4, hS4⟩ => ?_)))
        have hN4 := Sm.nM hN3 hS4 (by decide) (by decide) (by decide) (by decide)
        have hp4 := swap_perm g1 g2 g3 hw
        refine Ev_bde (M_numberOf hn (fun x hx => by have := hp4.1 x hx; omega) hN4.1 hR4) ?_
        rw [shl1 (by omega), nI_or]
        exact hself _ _ _ _ ⟨rfl, _, _, rfl, rfl, hp4, by rw [Nat.or_assoc, ← hst]; exact hacc, (hS2.tr hS3).tr hS4⟩
    · rintro self b1 b2 b3 h2 ⟨rfl, acc, w, rfl, rfl, hw, hacc, hS2⟩
      unfold L_X11_setting_63
      rw [Nat.sub_self] at hacc ⊢
      have : stN n f o 0 w = 0 := rfl
      rw [this, Nat.or_zero] at hacc
      exact Ev_t m1_lt (hk _ _ ⟨by rw [hacc], hS2⟩)
    · rw [Nat.sub_zero]; exact Int32.sub_eq_add_neg _ _
  · rw [if_neg hrk]
    exact Ev_t rfl (Ev_so ⟨hS, by rw [(hS 0 (by decide)).1]; exact e0, fun z => absurd z hrk, fun _ => rfl⟩)
theorem pc_24 {L : Nat} {xs : Nat → Int32} {i : Int32} {s : LWS} {kont : LWS → Option Unit} (hI : Inv s) (hi : OKi L i) (hk : ∀ s1, Inv s1 → kont s1 = some ()) : lc_24 L xs i s kont = some () := by
  obtain ⟨c, m, out⟩ := s
  have hI0 := hI
  obtain ⟨n, k, f, o, hG, hC, hM, hT, hB, hS, hSt, hA⟩ := hI
  have hn := hG.2.1
  have hn2 := hG.1
  generalize hx : xs (i + 1).toNatClampNeg = x
  rcases codes (m := m) x hn hn2 hM.1 with ⟨v, hv, ⟨q, hq, hPK⟩, r2, hr2, b0, b1, b2⟩ | ⟨hq, r2, hr2, b0, b1⟩
  · obtain ⟨r1, h0, a1, a2, a3, a4⟩ := C_setting hG hC hS hPK hv
    have h1 : f_X10_setting c x = some (.inr (r1.1, r1.2)) := by
      refine Ev_eq ?_
      unfold f_X10_setting
      rw [bdx_r (C_rowOf_t hC.1 (hPK.lt hn) hq)]
      exact Ev_bde h0 (Ev_so rfl)
    obtain ⟨r3, h3, c1, c2, c3, c4⟩ := M_setting hG hM hv hr2 b0 b1
    have e : r1.1 = r3.1 := by
      by_cases h : reachB n f o k v = true
      · rw [a3 h, c3 h]
      · rw [a4 h, c4 h]
    simp [lc_24, fh_setting, hx, h1, h3, e, c2, hcatch, bd, nm, setM, setC, setO, f_X11_thrown, jn0, (hi _).1, updL_s, lgc]
    refine hk _ (Inv.sw hG hC hM hT hB hSt hA a2 a1 (((b0.mono (by decide)).sF (by decide) : Sm [0, 3, 5, 6, 7, 11, 12, 13, 15, 16, 17, 18] m (wF r2.2 0 0 0)).tr (c1.mono (by decide))) (fun j hj => ?_))
    rw [(c1 0 (by decide)).1, wF_j (by rintro rfl; revert hj; decide), (b0 0 (by decide)).1]
  · have h1 : f_X10_setting c x = some (.inl ("java/lang/IllegalArgumentException", c)) := by
      unfold f_X10_setting
      exact bdx_l (C_rowOf_f hC.1 hq)
    have h2 : f_X11_setting m x = some (0, wF r2.2 0 0 1) := by
      refine Ev_eq ?_
      unfold f_X11_setting
      refine Ev_bde hr2 (Ev_jn1 (fun z => z = 1) (fun z hz => ?_) (fun j hj => Ev_t b1 (hj 1 rfl)))
      subst hz
      exact Ev_nm (Ev_f (by rw [wF_1, upd_s]; decide) (Ev_so rfl))
    simp [lc_24, fh_setting, hx, h1, h2, hcatch, bd, nm, setM, setC, setO, f_X11_thrown, jn0, wF_1, upd_s, (hi _).1]
    exact hk _ (hI0.rowed Sm.rf ⟨r2.2, b0.mono (by decide), Sm.rf⟩)
