/-! CASE network -/
theorem fac_s {m : Nat} : facN (m + 1) = (m + 1) * facN m := rfl
theorem fac_pos : ∀ m, 0 < facN m
  | 0 => by decide
  | m + 1 => by rw [fac_s]; exact Nat.mul_pos (by omega) (fac_pos m)
theorem lehm_len : ∀ (m : Nat) (P : List Nat) (r : Nat), (lehm m P r).length = m
  | 0, _, _ => rfl
  | m + 1, P, r => by
    show (lehm m _ _).length + 1 = m + 1
    rw [lehm_len m]
/-- a row of the table, being written -/
def BegI (n r : Nat) (g h : Hp) (w left : Nat) (P pre : List Nat) : Prop := left < facN (n - w) ∧ P.length = n - w ∧ (∀ x, x < n - w → h.1 6 x = nI (P.getD x 0)) ∧ pre.length = w ∧ lehm n (List.range n) r = pre ++ lehm (n - w) P left ∧ (∀ x, x < w → h.1 4 (6 * r + x) = nI (pre.getD x 0)) ∧ (∀ y, y < 6 * r → h.1 4 y = g.1 4 y) ∧ Sm [4, 6] g h
theorem M_begRow {n r : Nat} {g : Hp} (hn : n ≤ 6) (hr : r < facN n) (k : Hp → Option Hp) (P : Hp → Prop) (hk : ∀ h, (∀ x, x < n → h.1 4 (6 * r + x) = nI (rowT n r x)) → (∀ y, y < 6 * r → h.1 4 y = g.1 4 y) → Sm [4, 6] g h → Ev (k h) P) (hpool : ∀ x, x < n → g.1 6 x = nI x) : Ev (jn1 (fun k143 => fx3 (L_X11_begins_53 (nI n) (nI r) k143) FU (nI r) 0 g) k) P := by
  have hF := fac_le n (by omega)
  refine Ev_jn1 (fun h => (∀ x, x < n → h.1 4 (6 * r + x) = nI (rowT n r x)) ∧ (∀ y, y < 6 * r → h.1 4 y = g.1 4 y) ∧ Sm [4, 6] g h) (fun h ⟨a, b, c⟩ => hk h a b c) (fun kk hkk => ?_)
  refine Ev_fx3 (fun w a1 a2 h => a2 = nI w ∧ ∃ left P pre, a1 = nI left ∧ BegI n r g h w left P pre) n ?_ ?_ (FU_lt (by omega)) ⟨rfl, r, List.range n, [], rfl, by rw [Nat.sub_zero]; exact hr, by simp, fun x hx => ?_, rfl, by simp, fun x hx => absurd hx (by omega), fun y _ => rfl, Sm.rf⟩
  · rintro self w a1 a2 h hw ⟨rfl, left, P, pre, rfl, i1, i2, i3, i4, i5, i6, i7, i8⟩ hself
    obtain ⟨mm, hmm⟩ : ∃ mm, n - w = mm + 1 := ⟨n - w - 1, by omega⟩
    have hm2 : n - 1 - w = mm := by omega
    have hm3 : n - (w + 1) = mm := by omega
    rw [hmm] at i1 i2 i3 i5
    have hfp := fac_pos mm
    have hfl := fac_le mm (by omega)
    have hleft : left < 6 * 720 := by
      have h1 := fac_le (mm + 1) (by omega)
      omega
    have hat : left / facN mm < mm + 1 := by
      rw [Nat.div_lt_iff_lt_mul hfp]; rw [fac_s] at i1; exact i1
    unfold L_X11_begins_53
    rw [n1, nsub (by omega), nsub (by omega), hm2]
    refine Ev_f (nle_n hw (by omega)) (Ev_bde (M_fact (by omega)) (Ev_nz (nI_ne0 hfp (by omega)) ?_))
    rw [ndiv (by omega) hfp (by omega), irmN (by omega) hfp (by omega)]
    refine Ev_nm (Ev_nz (nI_ne0 hfp (by omega)) (Ev_nm (Ev_ck rfl (by omega) (by omega) ?_)))
    rw [show (6 : Int32) = nI 6 from rfl, nmul, nI_add, clN (by omega), i3 _ hat]
    refine Ev_ck rfl (by omega) (by omega) (Ev_nm ?_)
    generalize hA : left / facN mm = at0 at hat ⊢
    refine Ev_jn1 (fun h2 => (∀ x, x < mm → h2.1 6 x = nI ((P.eraseIdx at0).getD x 0)) ∧ (∀ y, h2.1 4 y = upd (h.1 4) (6 * r + w) (nI (P.getD at0 0)) y) ∧ Sm [4, 6] g h2) (fun h2 ⟨b1, b2, b3⟩ => ?_) (fun kq hkq => ?_)
    · refine hself _ _ _ ⟨nI_add w 1, left % facN mm, P.eraseIdx at0, pre ++ [P.getD at0 0], rfl, ?_, ?_, ?_, ?_, ?_, fun x hx => ?_, fun y hy => ?_, b3⟩
      · rw [hm3]; exact Nat.mod_lt _ hfp
      · rw [List.length_eraseIdx, if_pos (by omega)]; omega
      · rw [hm3]; exact b1
      · rw [List.length_append, i4]; rfl
      · rw [i5, hm3, List.append_assoc]
        show _ = pre ++ (P.getD at0 0 :: lehm mm (P.eraseIdx at0) (left % facN mm))
        rw [← hA]; rfl
      · rw [b2]
        by_cases e : x = w
        · subst e
          rw [upd_s, List.getD_eq_getElem?_getD (l := pre ++ [P.getD at0 0]), List.getElem?_append_right (by omega), i4, Nat.sub_self]; rfl
        · rw [upd_n _ _ (by omega), i6 x (by omega), List.getD_eq_getElem?_getD, List.getD_eq_getElem?_getD, List.getElem?_append_left (by omega)]
      · rw [b2, upd_n _ _ (by omega)]; exact i7 y hy
    · refine Ev_fx2 (fun d a1 a2 => a1 = nI (at0 + d) ∧ (∀ x, x < mm + 1 → a2.1 6 x = nI (if at0 ≤ x ∧ x < at0 + d then P.getD (x + 1) 0 else P.getD x 0)) ∧ (∀ y, a2.1 4 y = upd (h.1 4) (6 * r + w) (nI (P.getD at0 0)) y) ∧ Sm [4, 6] g a2) (mm - at0) ?_ ?_ (FU_lt (by omega)) ⟨rfl, fun x hx => ?_, fun y => ?_, i8.sI (by decide)⟩
      · rintro self2 d b1 b2 hd ⟨rfl, c1, c2, c3⟩ hself2
        unfold L_X11_begins_104
        have hd2 : at0 + d + 1 < mm + 1 := by omega
        have e6 : b2.1 6 (at0 + d + 1) = nI (P.getD (at0 + d + 1) 0) := by rw [c1 (at0 + d + 1) hd2, if_neg (by omega)]
        rw [n1, nsub (by omega), nsub (by omega), hm2, nI_add, clN (show at0 + d + 1 < 2 ^ 31 by omega), e6]
        refine Ev_f (nle_n (by omega) (by omega)) (Ev_ck rfl (by omega) (by omega) (Ev_ck rfl (by omega) (by omega) (Ev_nm (hself2 _ _ ⟨rfl, fun x hx => ?_, fun y => ?_, c3.sI (by decide)⟩))))
        · rw [wI_1, clN (by omega)]
          by_cases e : x = at0 + d
          · rw [e, upd_s, if_pos (by omega)]
          · rw [upd_n _ _ e, c1 x hx]
            by_cases e2 : at0 ≤ x ∧ x < at0 + d
            · rw [if_pos e2, if_pos (by omega)]
            · rw [if_neg e2, if_neg (by omega)]
        · rw [wI_n _ _ _ _ _ (by decide)]; exact c2 y
      · rintro self2 b1 b2 ⟨rfl, c1, c2, c3⟩
        unfold L_X11_begins_104
        rw [n1, nsub (by omega), nsub (by omega), hm2]
        refine Ev_t (le_n (by omega) (by omega)) (hkq _ ⟨fun x hx => ?_, c2, c3⟩)
        rw [c1 x (by omega), List.getD_eq_getElem?_getD (l := P.eraseIdx at0), List.getElem?_eraseIdx]
        by_cases e : x < at0
        · rw [if_neg (by omega), if_pos e, ← List.getD_eq_getElem?_getD]
        · rw [if_pos (by omega), if_neg e, ← List.getD_eq_getElem?_getD]
      · rw [wI_n _ _ _ _ _ (by decide), if_neg (by omega)]; exact i3 x hx
      · rw [wI_1, clN (by omega)]
  · rintro self a1 a2 h ⟨rfl, left, P, pre, rfl, i1, i2, i3, i4, i5, i6, i7, i8⟩
    unfold L_X11_begins_53
    refine Ev_t (Int32.le_refl _) (hkk _ ⟨fun x hx => ?_, i7, i8⟩)
    rw [i6 x hx]
    unfold rowT
    rw [i5, Nat.sub_self]
    show _ = nI ((pre ++ []).getD x 0)
    rw [List.append_nil]
  · rw [Nat.sub_zero] at hx
    rw [hpool x hx, List.getD_eq_getElem?_getD, List.getElem?_range hx]; rfl
theorem M_begins {n : Nat} {f o : Nat → Nat} {m : Hp} (hn : n ≤ 6) (hn2 : 2 ≤ n) : Ev (f_X11_begins m (nI n)) (fun h => NetM n 0 f o h ∧ Sm [0, 4, 6, 9, 10, 14] m h ∧ FgM h ∧ (∀ j, j ≠ 1 → j ≠ 2 → j ≠ 7 → j ≠ 14 → h.1 0 j = m.1 0 j) ∧ ∀ r, r < facN n → h.1 14 r = 1) := by
  have hF := fac_le n (by omega)
  unfold f_X11_begins
  refine Ev_nm (Ev_nm (Ev_bde (M_fact hn) (Ev_nm ?_)))
  have g1 : (wF (wF (wF m 0 1 (nI n)) 0 2 0) 0 7 (nI (facN n))).1 0 1 = nI n := by rw [wF_1, upd_n _ _ (by decide), wF_1, upd_n _ _ (by decide), wF_1, upd_s]
  have g2 : (wF (wF (wF m 0 1 (nI n)) 0 2 0) 0 7 (nI (facN n))).1 0 2 = 0 := by rw [wF_1, upd_n _ _ (by decide), wF_1, upd_s]
  have g7 : (wF (wF (wF m 0 1 (nI n)) 0 2 0) 0 7 (nI (facN n))).1 0 7 = nI (facN n) := by rw [wF_1, upd_s]
  have gj : ∀ j, j ≠ 1 → j ≠ 2 → j ≠ 7 → (wF (wF (wF m 0 1 (nI n)) 0 2 0) 0 7 (nI (facN n))).1 0 j = m.1 0 j := fun j h1 h2 h7 => by rw [wF_1, upd_n _ _ h7, wF_1, upd_n _ _ h2, wF_1, upd_n _ _ h1]
  have gS : Sm [0, 4, 6, 9, 10, 14] m (wF (wF (wF m 0 1 (nI n)) 0 2 0) 0 7 (nI (facN n))) := ((Sm.rf.sF (by decide)).sF (by decide)).sF (by decide)
  generalize wF (wF (wF m 0 1 (nI n)) 0 2 0) 0 7 (nI (facN n)) = g at g1 g2 g7 gj gS
  refine Ev_jn1 (fun h => (∀ r, r < facN n → ∀ x, x < n → h.1 4 (6 * r + x) = nI (rowT n r x)) ∧ (∀ r, r < facN n → h.1 14 r = 1) ∧ Sm [4, 6, 14] g h) (fun h ⟨a1, a2, a3⟩ => ?_) (fun kk hk => ?_)
  · refine Ev_bd _ (s_forgetM h) (fun m1 ⟨c1, c2, c3, c4, c5⟩ => Ev_so ⟨⟨?_, ?_, fun i hi => absurd hi (by omega), ?_, fun r hr x hx => ?_⟩, (gS.tr (a3.mono (by decide))).tr (c1.mono (by decide)), ⟨c2, c4, c5⟩, fun j h1 h2 h7 h14 => ?_, fun r hr => ?_⟩)
    · rw [c3 1 (by decide), (a3 0 (by decide)).1, g1]
    · rw [c3 2 (by decide), (a3 0 (by decide)).1, g2]; rfl
    · rw [c3 7 (by decide), (a3 0 (by decide)).1, g7]
    · rw [(c1 4 (by decide)).1]; exact a1 r hr x hx
    · rw [c3 j h14, (a3 0 (by decide)).1, gj j h1 h2 h7]
    · rw [(c1 14 (by decide)).1]; exact a2 r hr
  · refine Ev_fx2 (fun r a1 a2 => a1 = nI r ∧ (∀ q, q < r → ∀ x, x < n → a2.1 4 (6 * q + x) = nI (rowT n q x)) ∧ (∀ q, q < r → a2.1 14 q = 1) ∧ Sm [4, 6, 14] g a2) (facN n) ?_ ?_ (FU_lt (by omega)) ⟨rfl, fun q hq => absurd hq (by omega), fun q hq => absurd hq (by omega), Sm.rf⟩
    · rintro self r a1 h hr ⟨rfl, hT, hL, hS⟩ hself
      unfold L_X11_begins_20
      rw [(hS 0 (by decide)).1, g7]
      refine Ev_f (nle_n hr (by omega)) (Ev_jn1 (fun h2 => (∀ x, x < n → h2.1 6 x = nI x) ∧ Sm [6] h h2) (fun h2 ⟨b1, b2⟩ => ?_) (fun k48 h48 => ?_))
      · refine M_begRow hn hr _ _ (fun h3 d1 d2 d3 => ?_) b1
        refine Ev_ck rfl (by omega) (by omega) (Ev_nm (hself _ _ ⟨nI_add r 1, fun q hq x hx => ?_, fun q hq => ?_, ((hS.tr (b2.mono (by decide))).tr (d3.mono (by decide))).sZ (by decide)⟩))
        · rw [wZ_n _ _ _ _ _ (by decide)]
          by_cases e : q = r
          · rw [e]; exact d1 x hx
          · rw [d2 _ (by omega), (b2 4 (by decide)).1]; exact hT q (by omega) x hx
        · rw [wZ_1, clN (by omega), nar1]
          by_cases e : q = r
          · rw [e, upd_s]
          · rw [upd_n _ _ e, (d3 14 (by decide)).1, (b2 14 (by decide)).1]; exact hL q (by omega)
      · refine Ev_fx2 (fun j a1 a2 => a1 = nI j ∧ (∀ x, x < j → a2.1 6 x = nI x) ∧ Sm [6] h a2) n ?_ ?_ (FU_lt (by omega)) ⟨rfl, fun x hx => absurd hx (by omega), Sm.rf⟩
        · rintro self2 j b1 b2 hj ⟨rfl, hZ, hS2⟩ hself2
          unfold L_X11_begins_30
          refine Ev_f (nle_n hj (by omega)) (Ev_ck rfl (by omega) (by omega) (Ev_nm (hself2 _ _ ⟨nI_add j 1, fun x hx => ?_, hS2.sI (by decide)⟩)))
          rw [wI_1, clN (by omega)]
          by_cases e : x = j
          · rw [e, upd_s]
          · rw [upd_n _ _ e]; exact hZ x (by omega)
        · rintro self2 b1 b2 ⟨rfl, hZ, hS2⟩
          unfold L_X11_begins_30
          exact Ev_t (Int32.le_refl _) (h48 _ ⟨hZ, hS2⟩)
    · rintro self a1 h ⟨rfl, hT, hL, hS⟩
      unfold L_X11_begins_20
      rw [(hS 0 (by decide)).1, g7]
      exact Ev_t (Int32.le_refl _) (hk _ ⟨hT, hL, hS⟩)
theorem cons_0 {n : Nat} {v : Nat → Nat} : consN 0 n v = true := by
  unfold consN
  rw [List.all_eq_true]
  intro a _
  rw [List.all_eq_true]
  intro b _
  rw [bt_0]; rfl
theorem AdvR.new {n : Nat} {c m : Hp} (h1 : c.2 32 0 = 0) (h2 : ∀ r, r < facN n → m.1 14 r = 1) : AdvR n c m := by
  refine ⟨fun j hj => ?_, fun r hr => ?_, 0, fac_pos n, ?_⟩
  · rw [h1, bt_0] at hj; cases hj
  · rw [h1, cons_0, h2 r hr]; rfl
  · rw [h1]; exact cons_0
theorem w26 {x : Int32} : (x < 2 ∨ 6 < x) ∨ ∃ n, 2 ≤ n ∧ n ≤ 6 ∧ x = nI n := by
  by_cases h : x < 0
  · exact Or.inl (Or.inl (Int32.lt_of_lt_of_le h (by decide)))
  · obtain ⟨n, hn, rfl⟩ := nI_of h
    rw [n2, show (6 : Int32) = nI 6 from rfl, nI_ltI (by omega) (by omega), nI_ltI (by omega) (by omega)]
    by_cases h2 : n < 2 ∨ 6 < n
    · exact Or.inl h2
    · exact Or.inr ⟨n, by omega, by omega, rfl⟩
theorem C_network {n k p : Nat} {f o : Nat → Nat} {c : Hp} (hC : NetC n k f o c) (hp2 : 2 ≤ p) (hp : p ≤ 6) : Ev (f_X10_network c (nI p)) (fun r => ∃ c1, r = .inr (nI k, c1) ∧ NetC p 0 f o c1 ∧ Sm [1, 20, 23, 24, 25, 27, 32] c c1 ∧ FgC c1 ∧ c1.2 32 0 = 0) := by
  unfold f_X10_network
  refine Ev_jn0 False (fun h => h.elim) (fun j hj => Ev_f (by rw [n2, nI_ltI (by omega) (by omega)]; omega) (Ev_t (le_n (b := 6) (by omega) (by omega)) ?_))
  refine Ev_bd (fun h => h = wF (wF c 1 0 (nI p)) 1 1 0) (Ev_nm (Ev_nm (Ev_so rfl))) (fun h e => ?_)
  subst e
  refine Ev_bd (fun h => h = wFL (wF (wF c 1 0 (nI p)) 1 1 0) 32 0 0) (Ev_nm (Ev_so rfl)) (fun h e => ?_)
  subst e
  refine Ev_bd _ (s_forgetC _) (fun c1 ⟨hS, h1, h2, h3, h4⟩ => Ev_so ⟨c1, by rw [hC.2.1], ⟨?_, ?_, fun i hi => absurd hi (by omega)⟩, (((Sm.rf.sF (by decide)).sF (by decide)).sFL (by decide)).tr (hS.mono (by decide)), ⟨h1, h2, h3, h4⟩, ?_⟩)
  · rw [(hS 1 (by decide)).1, wFL_2, wF_1, upd_n _ _ (by decide), wF_1, upd_s]
  · rw [(hS 1 (by decide)).1, wFL_2, wF_1, upd_s]; rfl
  · rw [(hS 32 (by decide)).2, wFL_1, updL_s]
theorem pc_0 {L : Nat} {xs : Nat → Int32} {i : Int32} {s : LWS} {kont : LWS → Option Unit} (hI : Inv s) (hi : OKi L i) (hk : ∀ s1, Inv s1 → kont s1 = some ()) : lc_0 L xs i s kont = some () := by
  obtain ⟨c, m, out⟩ := s
  have hI0 := hI
  obtain ⟨n, k, f, o, hG, hC, hM, hT, hB, hS, hSt, hA⟩ := hI
  generalize hx : xs (i + 1).toNatClampNeg = x
  rcases w26 (x := x) with hb | ⟨p, hp2, hp6, rfl⟩
  · have h1 : f_X10_network c x = some (.inl ("java/lang/IllegalArgumentException", c)) := by
      refine Ev_eq ?_
      unfold f_X10_network
      refine Ev_jn0 True (fun _ => Ev_so rfl) (fun j hj => Ev_i (fun _ => hj trivial) (fun h0 => Ev_f ?_ (hj trivial)))
      exact Int32.not_le.mpr (hb.resolve_left h0)
    have h2 : f_X11_network m x = some (0, wF m 0 0 1) := by
      refine Ev_eq ?_
      unfold f_X11_network
      refine Ev_bde M_in ?_
      rw [if_pos hb]
      refine Ev_jn1 (fun z => z = 1) (fun z hz => ?_) (fun j hj => Ev_t rfl (hj 1 rfl))
      subst hz
      exact Ev_nm (Ev_f (by rw [wF_1, upd_s]; decide) (Ev_so rfl))
    simp [lc_0, fh_network, hx, h1, h2, hcatch, bd, nm, setM, setC, setO, f_X11_thrown, jn0, wF_1, upd_s, (hi _).1]
    exact hk _ hI0.thrown
  · obtain ⟨r1, h1, c1, rfl, a1, a2, a3, a4⟩ := C_network hC hp2 hp6
    have h2 : Ev (f_X11_network m (nI p)) (fun r => r.1 = nI k ∧ r.2.1 0 0 = 0 ∧ NetM p 0 f o r.2 ∧ Sm [0, 4, 6, 9, 10, 14] m r.2 ∧ FgM r.2 ∧ r.2.1 0 11 = m.1 0 11 ∧ ∀ r', r' < facN p → r.2.1 14 r' = 1) := by
      unfold f_X11_network
      refine Ev_bde M_in ?_
      rw [if_neg (by
        rintro (h | h)
        · rw [n2, nI_ltI (by omega) (by omega)] at h; omega
        · rw [show (6 : Int32) = nI 6 from rfl, nI_ltI (by omega) (by omega)] at h; omega)]
      refine Ev_jn1 (fun z => z = 0) (fun z hz => ?_) (fun j hj => Ev_f (by decide) (hj 0 rfl))
      subst hz
      refine Ev_nm (Ev_t (by rw [wF_1, upd_s]; exact Int32.le_refl _) (Ev_bd _ (M_begins (f := f) (o := o) hp6 hp2) (fun h ⟨q1, q2, q3, q4, q5⟩ => Ev_so ⟨?_, ?_, q1, (Sm.rf.sF (by decide)).tr q2, q3, ?_, q5⟩)))
      · rw [wF_1, upd_n _ _ (by decide)]; exact hM.2.1
      · rw [q4 0 (by decide) (by decide) (by decide) (by decide), wF_1, upd_s]
      · rw [q4 11 (by decide) (by decide) (by decide) (by decide), wF_1, upd_n _ _ (by decide)]
    obtain ⟨r2, h2, b1, b2, b3, b4, b5, b6, b7⟩ := h2
    simp [lc_0, fh_network, hx, h1, h2, b1, b2, hcatch, bd, nm, setM, setC, setO, f_X11_thrown, jn0, (hi _).1, updL_s, lgc]
    exact hk _ ⟨p, 0, f, o, ⟨hp2, hp6, by omega, fun i hi => absurd hi (by omega)⟩, a1, b3, hT.keep (by rw [(a2 11 (by decide)).1]) (a2 12 (by decide)).1 b6 (b4 8 (by decide)).1, BalR.new a3.1 b5.1 a3.2.1 b5.2.1 a3.2.2.1 b5.2.2, Or.inl a3.2.2.2, hSt.keep (a2 29 (by decide)).1, AdvR.new a4 b7⟩
/-! THE START -/
theorem Inv_start : Inv sL0 := by
  obtain ⟨h, e, q1, q2, q3, q4, q5⟩ := M_begins (n := 2) (f := fun _ => 0) (o := fun _ => 0) (m := hM0) (by omega) (by omega)
  have e2 : hM1 = h := by
    unfold hM1
    have : f_X11_begins hM0 2 = some h := e
    simp only [this, Option.get_some]
  refine ⟨2, 0, fun _ => 0, fun _ => 0, ⟨by omega, by omega, by omega, fun i hi => absurd hi (by omega)⟩, ⟨rfl, rfl, fun i hi => absurd hi (by omega)⟩, ?_, ⟨0, fun _ => 0, by omega, rfl, ?_, fun i hi => absurd hi (by omega)⟩, ?_, Or.inl rfl, fun st n h1 h2 h3 => Or.inl (fun r hr => ?_), ?_⟩
  · show NetM 2 0 _ _ hM1
    rw [e2]; exact q1
  · show hM1.1 0 11 = _
    rw [e2, q4 11 (by decide) (by decide) (by decide) (by decide)]; rfl
  · show BalR 2 0 _ _ hC0 hM1
    rw [e2]
    exact BalR.new rfl q3.1 (fun x hx => ⟨rfl, rfl⟩) q3.2.1 (fun i hi => rfl) q3.2.2
  · rfl
  · show AdvR 2 hC0 hM1
    rw [e2]
    exact AdvR.new rfl q5
