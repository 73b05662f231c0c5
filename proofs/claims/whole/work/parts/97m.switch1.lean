/-! SWITCHES; cases routes, setting -/
theorem BalR.keep {n k : Nat} {f o : Nat → Nat} {c m c1 m1 : Hp} (h : BalR n k f o c m) (e1 : c1.1 23 = c.1 23) (e2 : c1.1 24 = c.1 24) (e3 : c1.1 25 = c.1 25) (e4 : c1.1 27 = c.1 27) (e5 : m1.1 0 14 = m.1 0 14) (e6 : m1.1 9 = m.1 9) (e7 : m1.1 10 = m.1 10) : BalR n k f o c1 m1 := by
  obtain ⟨t, v, h1, h2, h3, h4, h5, h6, h7⟩ := h
  exact ⟨t, v, h1, h2, h3, by rw [e1]; exact h4, e5.trans h5, fun x hx => by rw [e2, e3, e7]; exact h6 x hx, fun i hi => by rw [e4, e6]; exact h7 i hi⟩
theorem Inv.sw {n k : Nat} {f o : Nat → Nat} {c m c1 m1 : Hp} {out1 : Nat → Int64} (hG : Good n k f o) (hC : NetC n k f o c) (hM : NetM n k f o m) (hT : TapeR c m) (hB : BalR n k f o c m) (hSt : StR c) (hA : AdvR n c m) (hS1 : SwR n k f o c1) (hc : Sm [20, 21, 22] c c1) (hm : Sm [0, 3, 5, 6, 7, 11, 12, 13, 15, 16, 17, 18] m m1) (e : ∀ j, j ∈ [1, 2, 7, 11, 14] → m1.1 0 j = m.1 0 j) : Inv (c1, m1, out1) := by
  have ec : ∀ q, q ∉ [20, 21, 22] → c1.1 q = c.1 q := fun q hq => (hc q hq).1
  have em : ∀ q, q ∉ [0, 3, 5, 6, 7, 11, 12, 13, 15, 16, 17, 18] → m1.1 q = m.1 q := fun q hq => (hm q hq).1
  exact ⟨n, k, f, o, hG, Sm.nC hC hc (by decide) (by decide) (by decide), hM.keep (e 1 (by decide)) (e 2 (by decide)) (e 7 (by decide)) (em 1 (by decide)) (em 2 (by decide)) (em 4 (by decide)), hT.keep (by rw [ec 11 (by decide)]) (ec 12 (by decide)) (e 11 (by decide)) (em 8 (by decide)), hB.keep (ec 23 (by decide)) (ec 24 (by decide)) (ec 25 (by decide)) (ec 27 (by decide)) (e 14 (by decide)) (em 9 (by decide)) (em 10 (by decide)), hS1, hSt.keep (ec 29 (by decide)), hA.keep (by rw [(hc 32 (by decide)).2]) (em 14 (by decide))⟩
theorem swap_swap {a b x : Nat} {v : Nat → Nat} (hab : a ≠ b) : swapN a b (swapN a b v) x = v x := by
  unfold swapN
  by_cases e1 : x = a
  · rw [if_pos e1, if_neg (Ne.symm hab), if_pos rfl, e1]
  · rw [if_neg e1]
    by_cases e2 : x = b
    · rw [if_pos e2, if_pos rfl, e2]
    · rw [if_neg e2, if_neg e1, if_neg e2]
theorem swap_perm {n a b : Nat} {v : Nat → Nat} (ha : a < n) (hb : b < n) (hab : a ≠ b) (hv : PermN n v) : PermN n (swapN a b v) := by
  refine ⟨fun x hx => ?_, fun x y hx hy e => ?_⟩
  · unfold swapN
    split
    · exact hv.1 b hb
    · split
      · exact hv.1 a ha
      · exact hv.1 x hx
  · have key : ∀ x, x < n → ∃ x', x' < n ∧ swapN a b v x = v x' ∧ (x' = if x = a then b else if x = b then a else x) := fun x hx => by
      unfold swapN
      by_cases e1 : x = a
      · exact ⟨b, hb, by rw [if_pos e1], by rw [if_pos e1]⟩
      · by_cases e2 : x = b
        · exact ⟨a, ha, by rw [if_neg e1, if_pos e2], by rw [if_neg e1, if_pos e2]⟩
        · exact ⟨x, hx, by rw [if_neg e1, if_neg e2], by rw [if_neg e1, if_neg e2]⟩
    obtain ⟨x', hx', ex, ex2⟩ := key x hx
    obtain ⟨y', hy', ey, ey2⟩ := key y hy
    rw [ex, ey] at e
    have h := hv.2 x' y' hx' hy' e
    rw [ex2, ey2] at h
    revert h
    split <;> split <;> (try split) <;> (try split) <;> omega
theorem swap_congr {n a b : Nat} {u v : Nat → Nat} (ha : a < n) (hb : b < n) (h : ∀ x, x < n → u x = v x) : ∀ x, x < n → swapN a b u x = swapN a b v x := fun x hx => by
  unfold swapN
  rw [h a ha, h b hb, h x hx]
theorem reach_s {n j : Nat} {f o v : Nat → Nat} : reachB n f o (j + 1) v = (reachB n f o j v || reachB n f o j (swapN (f j) (o j) v)) := rfl
theorem reach_congr {n k : Nat} {f o : Nat → Nat} (hG : Good n k f o) : ∀ j, j ≤ k → ∀ u v : Nat → Nat, (∀ x, x < n → u x = v x) → reachB n f o j u = reachB n f o j v
  | 0, _, u, v, h => by
    have : ∀ w : Nat → Nat, reachB n f o 0 w = true ↔ ∀ x, x < n → w x = x := fun w => by
      show (List.range n).all (fun x => w x == x) = true ↔ _
      rw [List.all_eq_true]
      exact ⟨fun h x hx => eq_of_beq (h x (List.mem_range.mpr hx)), fun h x hx => by rw [h x (List.mem_range.mp hx)]; exact beq_self_eq_true x⟩
    cases e : reachB n f o 0 v with
    | true => exact (this u).mpr (fun x hx => by rw [h x hx]; exact (this v).mp e x hx)
    | false =>
      cases e2 : reachB n f o 0 u with
      | false => rfl
      | true => rw [(this v).mpr (fun x hx => by rw [← h x hx]; exact (this u).mp e2 x hx)] at e; cases e
  | j + 1, hj, u, v, h => by
    obtain ⟨g1, g2, g3⟩ := hG.2.2.2 j (by omega)
    rw [reach_s, reach_s, reach_congr hG j (by omega) u v h, reach_congr hG j (by omega) _ _ (swap_congr g1 g2 h)]
theorem reach_mono {n : Nat} {f o v : Nat → Nat} {i : Nat} (h : reachB n f o i v = true) : ∀ d, reachB n f o (i + d) v = true
  | 0 => h
  | d + 1 => by
    show (reachB n f o (i + d) v || _) = true
    rw [reach_mono h d, Bool.true_or]
theorem reach_0 {n : Nat} {f o v : Nat → Nat} : reachB n f o 0 v = true ↔ ∀ x, x < n → v x = x := by
  show (List.range n).all (fun x => v x == x) = true ↔ _
  rw [List.all_eq_true]
  exact ⟨fun h x hx => eq_of_beq (h x (List.mem_range.mpr hx)), fun h x hx => by rw [h x (List.mem_range.mp hx)]; exact beq_self_eq_true x⟩
/-- a comparator's change as a step between numbers -/
def nxN (n : Nat) (f o : Nat → Nat) (j r : Nat) : Nat := num n (swapN (f j) (o j) (rowT n r))
def rbN (n : Nat) (f o : Nat → Nat) (j r : Nat) : Bool := reachB n f o j (rowT n r)
theorem nx_lt {n k j r : Nat} {f o : Nat → Nat} (hG : Good n k f o) (hj : j < k) (hr : r < facN n) : nxN n f o j r < facN n ∧ ∀ x, x < n → rowT n (nxN n f o j r) x = swapN (f j) (o j) (rowT n r) x := by
  obtain ⟨g1, g2, g3⟩ := hG.2.2.2 j hj
  have hp := swap_perm g1 g2 g3 (row_perm hG.2.1 hr)
  exact ⟨num_lt' hG.2.1 hp, fun x hx => num_row hG.2.1 hp hx⟩
theorem nx_nx {n k j r : Nat} {f o : Nat → Nat} (hG : Good n k f o) (hj : j < k) (hr : r < facN n) : nxN n f o j (nxN n f o j r) = r := by
  obtain ⟨g1, g2, g3⟩ := hG.2.2.2 j hj
  obtain ⟨h1, h2⟩ := nx_lt hG hj hr
  have : num n (swapN (f j) (o j) (rowT n (nxN n f o j r))) = num n (rowT n r) := num_congr (fun x hx => by
    rw [swap_congr g1 g2 h2 x hx, swap_swap g3])
  rw [row_num hG.2.1 hr] at this
  exact this
theorem rb_s {n k j r : Nat} {f o : Nat → Nat} (hG : Good n k f o) (hj : j < k) (hr : r < facN n) : rbN n f o (j + 1) r = (rbN n f o j r || rbN n f o j (nxN n f o j r)) := by
  obtain ⟨h1, h2⟩ := nx_lt hG hj hr
  unfold rbN
  rw [reach_s, reach_congr hG j (by omega) _ _ (fun x hx => (h2 x hx).symm)]
theorem rb_0 {n k r : Nat} {f o : Nat → Nat} (hG : Good n k f o) (hr : r < facN n) : rbN n f o 0 r = true ↔ r = 0 := by
  unfold rbN
  rw [reach_0, ← num_0 hG.2.1 (row_perm hG.2.1 hr), row_num hG.2.1 hr]
/-- the reference's marks -/
def MarkI (n k : Nat) (f o : Nat → Nat) (j : Nat) (h : Hp) : Prop := ∀ j', j' ≤ j → ∀ r, r < facN n → h.1 11 (720 * j' + r) = if rbN n f o j' r = true then 1 else 0
theorem M_reaches {n k : Nat} {f o : Nat → Nat} {m : Hp} (hG : Good n k f o) (hM : NetM n k f o m) : Ev (f_X11_reaches m) (fun h => MarkI n k f o k h ∧ Sm [5, 11] m h) := by
  have hn := hG.2.1
  have hk24 := hG.2.2.1
  have hF := fac_le n (by omega)
  unfold f_X11_reaches
  refine Ev_jn1 (fun h => MarkI n k f o 0 h ∧ Sm [5, 11] m h) (fun h0 ⟨hI0, hS0⟩ => ?_) (fun kk hk => ?_)
  · refine Ev_jn1 (fun h => MarkI n k f o k h ∧ Sm [5, 11] m h) (fun h hh => Ev_so hh) (fun kk hk => ?_)
    refine Ev_fx2 (fun j a1 h => a1 = nI j ∧ MarkI n k f o j h ∧ Sm [5, 11] m h) k ?_ ?_ (FU_lt (by omega)) ⟨rfl, hI0, hS0⟩
    · rintro self j a1 h hj ⟨rfl, hI, hS⟩ hself
      obtain ⟨g1, g2, g3⟩ := hG.2.2.2 j hj
      unfold L_X11_reaches_33
      rw [(hS 0 (by decide)).1, hM.2.1]
      refine Ev_f (nle_n hj (by omega)) (Ev_jn1 (fun h1 => MarkI n k f o j h1 ∧ Sm [5, 11] m h1 ∧ ∀ r, r < facN n → h1.1 11 (720 * (j + 1) + r) = if rbN n f o j r = true then 1 else 0) (fun h1 ⟨hI1, hS1, hZ1⟩ => ?_) (fun kq hkq => ?_))
      · refine Ev_jn1 (fun h2 => MarkI n k f o (j + 1) h2 ∧ Sm [5, 11] m h2) (fun h2 hh => hself _ _ ⟨nI_add j 1, hh⟩) (fun kr hkr => ?_)
        refine Ev_fx2 (fun r a1 h2 => a1 = nI r ∧ MarkI n k f o j h2 ∧ Sm [5, 11] m h2 ∧ ∀ q, q < facN n → h2.1 11 (720 * (j + 1) + q) = pI (rbN n f o j q = true ∨ ∃ r', r' < r ∧ rbN n f o j r' = true ∧ nxN n f o j r' = q)) (facN n) ?_ ?_ (FU_lt (by omega)) ⟨rfl, hI1, hS1, fun q hq => ?_⟩
        · rintro self2 r b1 h2 hr ⟨rfl, hI2, hS2, hZ2⟩ hself2
          have hN := Sm.nM hM hS2 (by decide) (by decide) (by decide) (by decide)
          obtain ⟨hx1, hx2⟩ := nx_lt hG hj hr
          unfold L_X11_reaches_85
          rw [hN.2.2.2.1, show (720 : Int32) = nI 720 from rfl, nmul, nI_add, clN (by omega), hI2 j (Nat.le_refl j) r hr]
          refine Ev_f (nle_n hr (by omega)) (Ev_ck rfl (by omega) (by omega) ?_)
          cases e : rbN n f o j r with
          | false =>
            refine Ev_t rfl (hself2 _ _ ⟨nI_add r 1, hI2, hS2, fun q hq => ?_⟩)
            rw [hZ2 q hq]
            refine pI_iff ⟨fun h => h.imp id (fun ⟨r', h1, h2⟩ => ⟨r', by omega, h2⟩), fun h => h.imp id (fun ⟨r', h1, h2⟩ => ⟨r', ?_, h2⟩)⟩
            by_cases e2 : r' = r
            · rw [e2, e] at h2; cases h2.1
            · omega
          | true =>
            refine Ev_f (by decide) (Ev_bd _ (M_lays hn hN hr) (fun h3 ⟨hR3, hS3⟩ => ?_))
            have hN3 := Sm.nM hN hS3 (by decide) (by decide) (by decide) (by decide)
            rw [clN (by omega), (hN3.2.2.1 j hj).1, (hN3.2.2.1 j hj).2]
            refine Ev_ck rfl (by omega) (by omega) (Ev_ck rfl (by omega) (by omega) (Ev_bd _ (M_exchanges hn g1 g2 g3 hR3) (fun h4 ⟨hR4, hS4⟩ => ?_)))
            have hN4 := Sm.nM hN3 hS4 (by decide) (by decide) (by decide) (by decide)
            have hp4 := swap_perm g1 g2 g3 (row_perm hn hr)
            refine Ev_bde (M_numberOf hn (fun x hx => by have := hp4.1 x hx; omega) hN4.1 hR4) ?_
            rw [show num n (swapN (f j) (o j) (rowT n r)) = nxN n f o j r from rfl, n1, nI_add, nmul, nI_add]
            have e11 : h4.1 11 = h2.1 11 := ((hS4 11 (by decide)).1).trans (hS3 11 (by decide)).1
            refine Ev_ck rfl (by omega) (by omega) (Ev_nm (hself2 _ _ ⟨nI_add r 1, fun j' hj' q hq => ?_, ((hS2.tr (hS3.mono (by decide))).tr (hS4.mono (by decide))).sZ (by decide), fun q hq => ?_⟩))
            · rw [wZ_1, clN (by omega), upd_n _ _ (by omega), e11]
              exact hI2 j' hj' q hq
            · rw [wZ_1, clN (by omega), show nI 1 = 1 from rfl, nar1]
              by_cases e2 : q = nxN n f o j r
              · rw [e2, upd_s, pI_t (Or.inr ⟨r, by omega, e, rfl⟩)]
              · rw [upd_n _ _ (by omega), e11, hZ2 q hq]
                refine pI_iff ⟨fun h => h.imp id (fun ⟨r', h1, h2⟩ => ⟨r', by omega, h2⟩), fun h => h.imp id (fun ⟨r', h1, h2⟩ => ⟨r', ?_, h2⟩)⟩
                by_cases e3 : r' = r
                · rw [e3] at h2; exact absurd h2.2.symm e2
                · omega
        · rintro self2 b1 h2 ⟨rfl, hI2, hS2, hZ2⟩
          unfold L_X11_reaches_85
          rw [(hS2 0 (by decide)).1, hM.2.2.2.1]
          refine Ev_t (Int32.le_refl _) (hkr _ ⟨fun j' hj' q hq => ?_, hS2⟩)
          by_cases e : j' = j + 1
          · rw [e, hZ2 q hq, rb_s hG hj hq]
            obtain ⟨hx1, hx2⟩ := nx_lt hG hj hq
            cases e1 : rbN n f o j q with
            | true => rw [pI_t (Or.inl rfl)]; rfl
            | false =>
              cases e2 : rbN n f o j (nxN n f o j q) with
              | true => rw [pI_t (Or.inr ⟨_, hx1, e2, nx_nx hG hj hq⟩)]; rfl
              | false =>
                rw [pI_f]
                · rfl
                · rintro (h | ⟨r', h1, h2, h3⟩)
                  · cases h
                  · have h4 := nx_nx hG hj h1
                    rw [h3] at h4
                    rw [h4, h2] at e2; cases e2
          · exact hI2 j' (by omega) q hq
        · rw [hZ1 q hq]
          cases e : rbN n f o j q with
          | true => rw [pI_t (Or.inl rfl)]; rfl
          | false =>
            rw [pI_f]
            · rfl
            · rintro (h | ⟨r', h1, _⟩)
              · cases h
              · omega
      · refine Ev_fx2 (fun r a1 h1 => a1 = nI r ∧ MarkI n k f o j h1 ∧ Sm [5, 11] m h1 ∧ ∀ q, q < r → h1.1 11 (720 * (j + 1) + q) = if rbN n f o j q = true then 1 else 0) (facN n) ?_ ?_ (FU_lt (by omega)) ⟨rfl, hI, hS, fun q hq => absurd hq (by omega)⟩
        · rintro self2 r b1 h2 hr ⟨rfl, hI2, hS2, hZ2⟩ hself2
          unfold L_X11_reaches_43
          rw [(hS2 0 (by decide)).1, hM.2.2.2.1, n1, show (720 : Int32) = nI 720 from rfl, nI_add, nmul, nmul, nI_add, nI_add, clN (by omega), hI2 j (Nat.le_refl j) r hr]
          refine Ev_f (nle_n hr (by omega)) (Ev_ck rfl (by omega) (by omega) (Ev_ck rfl (by omega) (by omega) (Ev_nm (hself2 _ _ ⟨nI_add r 1, fun j' hj' q hq => ?_, hS2.sZ (by decide), fun q hq => ?_⟩))))
          · rw [wZ_1, clN (by omega), upd_n _ _ (by omega)]; exact hI2 j' hj' q hq
          · rw [wZ_1, clN (by omega), nar_b]
            by_cases e : q = r
            · rw [e, upd_s]
            · rw [upd_n _ _ (by omega)]; exact hZ2 q (by omega)
        · rintro self2 b1 h2 ⟨rfl, hI2, hS2, hZ2⟩
          unfold L_X11_reaches_43
          rw [(hS2 0 (by decide)).1, hM.2.2.2.1]
          exact Ev_t (Int32.le_refl _) (hkq _ ⟨hI2, hS2, hZ2⟩)
    · rintro self a1 h ⟨rfl, hI, hS⟩
      unfold L_X11_reaches_33
      rw [(hS 0 (by decide)).1, hM.2.1]
      exact Ev_t (Int32.le_refl _) (hk _ ⟨hI, hS⟩)
  · refine Ev_fx2 (fun r a1 h => a1 = nI r ∧ Sm [5, 11] m h ∧ ∀ q, q < r → h.1 11 q = if q = 0 then 1 else 0) (facN n) ?_ ?_ (FU_lt (by omega)) ⟨rfl, Sm.rf, fun q hq => absurd hq (by omega)⟩
    · rintro self r a1 h hr ⟨rfl, hS, hZ⟩ hself
      unfold L_X11_reaches_2
      rw [(hS 0 (by decide)).1, hM.2.2.2.1, show (0 : Int32) = nI 0 from rfl]
      refine Ev_f (nle_n hr (by omega)) (Ev_i (fun e => Ev_ck rfl (by omega) (by omega) (Ev_nm (hself _ _ ⟨nI_add r 1, hS.sZ (by decide), fun q hq => ?_⟩))) (fun e => Ev_ck rfl (by omega) (by omega) (Ev_nm (hself _ _ ⟨nI_add r 1, hS.sZ (by decide), fun q hq => ?_⟩))))
      · rw [neqI (by omega) (by omega)] at e
        rw [wZ_1, clN (by omega), nar1]
        by_cases e2 : q = r
        · rw [e2, upd_s, if_pos e]
        · rw [upd_n _ _ e2]; exact hZ q (by omega)
      · rw [neqI (by omega) (by omega)] at e
        rw [wZ_1, clN (by omega), show nI 0 = 0 from rfl, nar0]
        by_cases e2 : q = r
        · rw [e2, upd_s, if_neg e]
        · rw [upd_n _ _ e2]; exact hZ q (by omega)
    · rintro self a1 h ⟨rfl, hS, hZ⟩
      unfold L_X11_reaches_2
      rw [(hS 0 (by decide)).1, hM.2.2.2.1]
      refine Ev_t (Int32.le_refl _) (hk _ ⟨fun j' hj' r hr => ?_, hS⟩)
      have : j' = 0 := by omega
      subst this
      rw [show 720 * 0 + r = r by omega, hZ r hr]
      have h2 := rb_0 hG hr
      by_cases e : r = 0
      · rw [if_pos e, if_pos (h2.mpr e)]
      · rw [if_neg e, if_neg (fun z => e (h2.mp z))]
