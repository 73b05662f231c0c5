/-! P43: the law's rows, held against the class -/
theorem wrR.z {p : Nat → Bool} {a : Nat} : wrR p 0 a (-1) := Or.inr ⟨Nat.zero_le _, rfl⟩
theorem wrR.skip {p : Nat → Bool} {N a : Nat} {y : Int32} (h : wrR p N a y) (hN : ¬ (p N = true ∧ ctB p N = a)) : wrR p (N + 1) a y := by
  rcases h with ⟨r, hr, p1, p2, p3⟩ | ⟨p1, p2⟩
  · exact Or.inl ⟨r, by omega, p1, p2, p3⟩
  · refine Or.inr ⟨?_, p2⟩
    by_cases e : p N = true
    · rw [ct_s1 e]
      have : ¬ ctB p N = a := fun z => hN ⟨e, z⟩
      omega
    · rw [ct_s0 e]; exact p1
theorem wrR.put {p : Nat → Bool} {N a : Nat} (h1 : p N = true) (h2 : ctB p N = a) : wrR p (N + 1) a (nI N) := Or.inl ⟨N, by omega, h1, h2, rfl⟩
theorem mer_s {n k w j : Nat} {f o : Nat → Nat} : merP n k f o w (j + 1) ↔ merP n k f o w j ∧ (unsG 0 (w - 1) (bR j) = false → unsG w (n - 1 - w) (bR j) = false → unsB n (netB f o 99 0 k (bR j)) = false) := by
  constructor
  · intro h
    exact ⟨fun r hr => h r (by omega), h j (by omega)⟩
  · intro h r hr
    by_cases e : r = j
    · rw [e]; exact h.2
    · exact h.1 r (by omega)
theorem up_1 {q a b : Nat} (hq : q < 32) (ha : a < 5) (hb : b < 6) (hab : a < b) : f_L_upright (nI q) (nI a) (nI b) = some (if unsG a (b - 1 - a) (bR q) = true then 0 else 1) := by
  rw [up_ok q hq a ha b hb hab, up_G (by omega)]
  cases unsG a (b - 1 - a) (bR q) <;> rfl
theorem r_rows {n k q : Nat} {f o : Nat → Nat} {c : Hp} {x1 : Int32} {r0 r1 r2 : Row} (hG : Good n k f o) (h5 : n ≤ 5) (hC : NetC n k f o c) (hc : RcN k f o r1) (hn0 : r2 0 = nI n) (hk1 : r2 1 = nI k) (hq : q < facN n) (hp : RwN n r0 (rowT n q)) : Ev (f_L_rows x1 c r0 r1 r2) (fun y => y.1 = 1 ∧ Sm [14, 15, 17] c y.2) := by
  have hn2 := hG.1
  have hk24 := hG.2.2.1
  have hpw : 2 ^ n ≤ 2 ^ 5 := Nat.pow_le_pow_right (by omega) h5
  have hF5 := fac_le5 n (by omega)
  have hF0 := fac_pos n
  unfold f_L_rows
  have en1 : nI n - (1 : Int32) = nI (n - 1) := by rw [n1, nsub (by omega)]
  rw [cl0, hn0, en1]
  refine Ev_c0 (Ev_bd _ (r_low (n := 6) (by omega) (by omega)) (fun r_1 ⟨a, ha, e1⟩ => Ev_bd _ (r_low (by omega) (by omega)) (fun r_3 ⟨w0, hw0, e3⟩ => ?_)))
  subst e1 e3
  have ew0 : (1 : Int32) + nI w0 = nI (1 + w0) := nI_add 1 w0
  rw [ew0]
  refine Ev_nm ?_
  generalize hw : 1 + w0 = w
  have hw1 : 1 ≤ w := by omega
  have hwn : w < n := by omega
  refine Ev_jn4 (fun a8 a10 a11 a14 => a8 = accO (outQ n k f o) (2 ^ n) ∧ a10 = nI (ctB (fun r => unsB n (netB f o 99 0 k (bR r))) (2 ^ n)) ∧ wrR (fun r => unsB n (netB f o 99 0 k (bR r))) (2 ^ n) a a11 ∧ a14 = pI (merP n k f o w (2 ^ n))) (fun a8 a10 a11 a14 ⟨q8, q10, q11, q14⟩ => ?_) (fun k181 h181 => ?_)
  · subst q8 q10 q14
    refine Ev_jn1 (fun r3 => RwN n r3 (rowT n 0)) (fun r3 h3 => ?_) (fun kk hk => ?_)
    · refine Ev_jn5 (fun a15 a16 a17 r3 r4 => a15 = nI (ctB (fun r => decide (num n (netN f o k (rowT n r)) = 0)) (facN n)) ∧ a16 = nI (maxN (fun r => dvN n (netN f o k (rowT n r))) (facN n)) ∧ a17 = pI (∀ r, r < facN n → ∀ x, x < n → (netN f o k (rowT n r) x < w ↔ x < w))) (fun a15 a16 a17 r3 r4 ⟨q15, q16, q17⟩ => ?_) (fun k370 h370 => ?_)
      · subst q15 q16 q17
        have hrun := r_runs (rr := r4) hG h5 hc (rq := r2) ⟨hn0, hk1⟩ hp (row_perm (show n ≤ 6 by omega) hq).1
        refine Ev_bd _ hrun (fun r16 h16 => ?_)
        have hcode := r_code h5 hn2 hp
        rw [← cdQ_row hq] at hcode
        refine Ev_bde hcode (Ev_hc _ (X_run hG h5 hC hq) (fun b ⟨b1, b2⟩ => Ev_bde (r_code h5 hn2 h16) (Ev_t b1 ?_)))
        rw [b2]
        refine Ev_bd _ (C_outputs hG hC) (fun d ⟨d1, d2⟩ => Ev_t (lg_eq.mpr d1) ?_)
        have hC1 := d2.nC hC (by decide) (by decide) (by decide)
        refine Ev_bd _ (X_sorts hG hC1) (fun g ⟨g1, g2⟩ => ?_)
        have hC2 := g2.nC hC1 (by decide) (by decide) (by decide)
        have hct := ct_le (p := fun r => unsB n (netB f o 99 0 k (bR r))) (n := 2 ^ n)
        refine Ev_jn1 (fun z => z = g.1) (fun z hz => Ev_t hz.symm ?_) (fun kk hk => Ev_i (fun e => hk _ ?_) (fun e => hk _ ?_))
        · refine Ev_hc _ (X_wrong hG hC2 (by omega)) (fun u ⟨u1, u2⟩ => Ev_t (u1.uniq q11) ?_)
          have hC3 := u2.nC hC2 (by decide) (by decide) (by decide)
          refine Ev_hc _ (X_merges hG hC3 hw1 hwn) (fun m ⟨m1, m2⟩ => Ev_t m1 ?_)
          have hC4 := m2.nC hC3 (by decide) (by decide) (by decide)
          refine Ev_bd _ (C_sorted hG hC4) (fun s ⟨s1, s2⟩ => Ev_t s1 ?_)
          have hC5 := s2.nC hC4 (by decide) (by decide) (by decide)
          refine Ev_bd _ (C_off hG hC5) (fun p ⟨p1, p2⟩ => Ev_t (by rw [p1, off_eq hG]) ?_)
          have hC6 := p2.nC hC5 (by decide) (by decide) (by decide)
          refine Ev_hc _ (X_chooses hG hC6 hw1 hwn) (fun t ⟨t1, t2⟩ => Ev_t ?_ (Ev_ckz (Or.inr rfl) (Ev_so ⟨rfl, ?_⟩)))
          · rw [t1]
            refine pI_same ((ch_eq hG (by omega)).trans ⟨fun z r hr => ?_, fun z r hr x hx => ?_⟩)
            · exact (ch_all (by omega) (net_perm hG (row_perm (by omega) hr) k (Nat.le_refl k))).mp (fun x hx _ => z r hr x hx)
            · exact (ch_all (by omega) (net_perm hG (row_perm (by omega) hr) k (Nat.le_refl k))).mpr (z r hr) x hx (by omega)
          · exact (((((d2.mono (by decide)).tr (g2.mono (by decide))).tr (u2.mono (by decide))).tr (m2.mono (by decide))).tr (s2.mono (by decide))).tr ((p2.mono (by decide)).tr (t2.mono (by decide)))
        · rw [show (0 : Int32) = nI 0 from rfl, neqI (by omega) (by omega)] at e
          rw [g1, pI_t e]
        · rw [show (0 : Int32) = nI 0 from rfl, neqI (by omega) (by omega)] at e
          rw [g1, pI_f e]
      · refine Ev_fx6 (fun j a15 a16 a17 a18 r3 r4 => a15 = nI (ctB (fun r => decide (num n (netN f o k (rowT n r)) = 0)) j) ∧ a16 = nI (maxN (fun r => dvN n (netN f o k (rowT n r))) j) ∧ a17 = pI (∀ r, r < j → ∀ x, x < n → (netN f o k (rowT n r) x < w ↔ x < w)) ∧ ((j < facN n ∧ a18 = 1 ∧ RwN n r3 (rowT n j)) ∨ (j = facN n ∧ a18 = 0))) (facN n) ?_ ?_ (FU_lt (by omega)) ⟨rfl, rfl, (pI_t (fun r hr => absurd hr (by omega))).symm, Or.inl ⟨hF0, rfl, h3⟩⟩
        · rintro self j a15 a16 a17 a18 r3 r4 hj ⟨rfl, h16, h17, h⟩ hself
          rcases h with ⟨_, rfl, hr⟩ | ⟨h, _⟩
          · have hvj := row_perm (show n ≤ 6 by omega) hj
            have hvp := net_perm hG hvj k (Nat.le_refl k)
            have hM : maxN (fun r => dvN n (netN f o k (rowT n r))) j ≤ 5 := maxN_le (fun r hr => by
              have hv2 := net_perm hG (row_perm (show n ≤ 6 by omega) (show r < facN n by omega)) k (Nat.le_refl k)
              refine maxN_le (fun x hx => ?_)
              have := hv2.1 x hx
              split <;> omega)
            unfold L_L_rows_216
            refine Ev_f (by decide) (Ev_bd _ (r_runs hG h5 hc ⟨hn0, hk1⟩ hr hvj.1) (fun r39 h39 => Ev_bde (r_upside h5 hn2 h39 hvp.1) ?_))
            have hiv := iv_num h5 hvp
            have hzz : (nI (ivK n (netN f o k (rowT n j)) (n * n)) = 0) ↔ num n (netN f o k (rowT n j)) = 0 := by
              rw [← hiv]
              have hb : ivK n (netN f o k (rowT n j)) (n * n) ≤ n * n := ct_le
              have hnn : n * n ≤ 5 * 5 := Nat.mul_le_mul h5 h5
              exact neqI (b := 0) (by omega) (by omega)
            have hnext : ∀ (r4 : Row) (a15 : Int32), a15 = nI (ctB (fun r => decide (num n (netN f o k (rowT n r)) = 0)) (j + 1)) → Ev (jn2 (fun k358 => fx3 (L_L_rows_256 (nI n) (accO (outQ n k f o) (2 ^ n)) (nI (ctB (fun r => unsB n (netB f o 99 0 k (bR r))) (2 ^ n))) a11 (nI a) (nI w) (pI (merP n k f o w (2 ^ n))) a15 r39 k358) FU a16 a17 (0 : Int32)) (fun (x16 : Int32) (x17 : Int32) => bd (f_L_next (nI n) r3) (fun r55 => self a15 x16 x17 r55.1 r55.2 r39))) (fun y => y.1 = 1 ∧ Sm [14, 15, 17] c y.2) := by
              intro r4 a15 h15
              refine Ev_jn2 (fun x16 x17 => x16 = nI (maxN (fun r => dvN n (netN f o k (rowT n r))) (j + 1)) ∧ x17 = pI (∀ r, r < j + 1 → ∀ x, x < n → (netN f o k (rowT n r) x < w ↔ x < w))) (fun x16 x17 ⟨z16, z17⟩ => ?_) (fun k358 h358 => ?_)
              · refine Ev_bd _ (r_next h5 hn2 hj hr) (fun y hy => hself _ _ _ _ _ _ ⟨h15, z16, z17, ?_⟩)
                by_cases e : j + 1 < facN n
                · exact Or.inl ⟨e, hy.1 e⟩
                · exact Or.inr ⟨by omega, hy.2 (by omega)⟩
              · refine r_256 h5 (by omega) hM h39 hvp.1 h16 h17 (h358 _ _ ⟨rfl, pI_same ⟨fun z r hr => ?_, fun z => ⟨fun r hr => z r (by omega), z j (by omega)⟩⟩⟩)
                by_cases e : r = j
                · rw [e]; exact z.2
                · exact z.1 r (by omega)
            refine Ev_i (fun e => Ev_nm (hnext r4 _ ?_)) (fun e => Ev_nm (hnext r4 _ ?_))
            · exact (ct_t (p := fun r => decide (num n (netN f o k (rowT n r)) = 0)) (decide_eq_true (hzz.mp e))).symm
            · rw [Int32.add_zero]
              exact (ct_f (p := fun r => decide (num n (netN f o k (rowT n r)) = 0)) (by simpa using fun z => e (hzz.mpr z))).symm
          · omega
        · rintro self a15 a16 a17 a18 r3 r4 ⟨h15, h16, h17, h⟩
          rcases h with ⟨h, _⟩ | ⟨_, rfl⟩
          · omega
          · unfold L_L_rows_216
            exact Ev_t rfl (h370 _ _ _ _ _ ⟨h15, h16, h17⟩)
    · refine Ev_fx2 (fun j a r3 => a = nI j ∧ RwN j r3 (fun x => x)) n ?_ ?_ (FU_lt (by omega)) ⟨rfl, RwN.zero⟩
      · rintro self j a r3 hj ⟨rfl, h4⟩ hself
        unfold L_L_rows_193
        refine Ev_f (nle_n hj (by omega)) (Ev_ck rfl (by omega) (by omega) (Ev_nm (hself _ _ ⟨nI_add j 1, ?_⟩)))
        rw [clN (by omega)]
        exact h4.put rfl
      · rintro self a r3 ⟨rfl, h4⟩
        unfold L_L_rows_193
        exact Ev_t (Int32.le_refl _) (hk _ (RwN.row0 h5 h4))
  · refine Ev_fx5 (fun j a8 a10 a11 a14 a15 => a15 = nI j ∧ a8 = accO (outQ n k f o) j ∧ a10 = nI (ctB (fun r => unsB n (netB f o 99 0 k (bR r))) j) ∧ wrR (fun r => unsB n (netB f o 99 0 k (bR r))) j a a11 ∧ a14 = pI (merP n k f o w j)) (2 ^ n) ?_ ?_ (FU_lt (by omega)) ⟨rfl, rfl, rfl, wrR.z, (pI_t (fun r hr => absurd hr (by omega))).symm⟩
    · rintro self j a8 a10 a11 a14 a15 hj ⟨rfl, rfl, rfl, h11, h14⟩ hself
      have hct := ct_le (p := fun r => unsB n (netB f o 99 0 k (bR r))) (n := j)
      unfold L_L_rows_57
      rw [shl1 (by omega), cl1, hk1]
      refine Ev_f (nle_n hj (by omega)) (Ev_c1 (Ev_bd _ (r_out (md := 0) hG h5 hc (Nat.le_refl k) hj SpI.m (by omega)) (fun y hy => Ev_nm (Ev_bde (r_upr h5 (by omega) hy) ?_))))
      have hy2 := hy.num (by omega)
      have hU : (fun r => unsB n (netB f o 99 0 k (bR r))) j = unsB n (netB f o 99 0 k (bR j)) := rfl
      have h8 : accO (outQ n k f o) j ||| lshl (1 : Int64) y = accO (outQ n k f o) (j + 1) := by rw [hy2]; rfl
      rw [h8]
      generalize hu : unsB n (netB f o 99 0 k (bR j)) = u at hU
      refine Ev_jn1 (fun z => wrR (fun r => unsB n (netB f o 99 0 k (bR r))) (j + 1) a z) (fun z11 hz11 => ?_) (fun k118 h118 => ?_)
      · refine Ev_jn1 (fun z => nI (ctB (fun r => unsB n (netB f o 99 0 k (bR r))) j) + z = nI (ctB (fun r => unsB n (netB f o 99 0 k (bR r))) (j + 1))) (fun z10 hz10 => ?_) (fun k132 h132 => ?_)
        · refine Ev_nm ?_
          rw [hz10]
          by_cases hm : merP n k f o w j
          · rw [pI_t hm] at h14
            subst h14
            refine Ev_f (by decide) (Ev_jn0 (merP n k f o w (j + 1)) (fun hm1 => hself _ _ _ _ _ ⟨nI_add j 1, rfl, rfl, hz11, (pI_t hm1).symm⟩) (fun k168 h168 => ?_))
            cases u with
            | false => exact Ev_f (by decide) (h168 (mer_s.mpr ⟨hm, fun _ _ => hu⟩))
            | true =>
              have e1 := up_1 (q := j) (a := 0) (b := w) (by omega) (by omega) (by omega) (by omega)
              have e2 := up_1 (q := j) (a := w) (b := n) (by omega) (by omega) (by omega) (by omega)
              refine Ev_t rfl (Ev_bde e1 (Ev_i (fun z => h168 (mer_s.mpr ⟨hm, fun y1 _ => ?_⟩)) (fun z => Ev_bde e2 (Ev_i (fun z2 => h168 (mer_s.mpr ⟨hm, fun _ y2 => ?_⟩)) (fun z2 => hself _ _ _ _ _ ⟨nI_add j 1, rfl, rfl, hz11, (pI_f (fun hm1 => ?_)).symm⟩)))))
              · rw [Nat.sub_zero, y1] at z
                exact absurd z (by decide)
              · rw [y2] at z2
                exact absurd z2 (by decide)
              · have h3 := (mer_s.mp hm1).2
                rw [hu] at h3
                have g1 : unsG 0 (w - 1) (bR j) = false := by
                  cases e : unsG 0 (w - 1) (bR j) with
                  | false => rfl
                  | true => rw [Nat.sub_zero, e] at z; exact absurd rfl z
                have g2 : unsG w (n - 1 - w) (bR j) = false := by
                  cases e : unsG w (n - 1 - w) (bR j) with
                  | false => rfl
                  | true => rw [e] at z2; exact absurd rfl z2
                cases h3 g1 g2
          · rw [pI_f hm] at h14
            subst h14
            exact Ev_t rfl (hself _ _ _ _ _ ⟨nI_add j 1, rfl, rfl, hz11, (pI_f (fun z => hm (mer_s.mp z).1)).symm⟩)
        · cases u with
          | true => exact Ev_t rfl (h132 _ (ct_t (p := fun r => unsB n (netB f o 99 0 k (bR r))) hU).symm)
          | false => exact Ev_f (by decide) (h132 _ (by rw [Int32.add_zero]; exact (ct_f (p := fun r => unsB n (netB f o 99 0 k (bR r))) (by rw [hu]; decide)).symm))
      · refine Ev_jn0 (¬ (u = true ∧ ctB (fun r => unsB n (netB f o 99 0 k (bR r))) j = a)) (fun h => h118 _ (h11.skip (by rw [hu]; exact h))) (fun k116 h116 => ?_)
        cases u with
        | false => exact Ev_f (by decide) (h116 (fun z => by cases z.1))
        | true =>
          refine Ev_t rfl (Ev_i (fun e => h118 _ (wrR.put hU ?_)) (fun e => h116 (fun z => e (by rw [z.2]))))
          rw [neqI (by omega) (by omega)] at e
          exact e
    · rintro self a8 a10 a11 a14 a15 ⟨rfl, h8, h10, h11, h14⟩
      unfold L_L_rows_57
      rw [shl1 (by omega)]
      exact Ev_t (Int32.le_refl _) (h181 _ _ _ _ ⟨h8, h10, h11, h14⟩)
