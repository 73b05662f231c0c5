/-! P43: the law's orders, held against the class -/
theorem MinL.neg {P : Nat → Prop} {C : Nat → Nat} {j : Nat} {y : Int32} (hC : ∀ i, C i < 2 ^ 31) (h : MinL P C j y) : y < 0 ↔ y = -1 := by
  rcases h with ⟨h1, _⟩ | ⟨i, _, _, h3, _⟩
  · rw [h1]; exact ⟨fun _ => rfl, fun _ => by decide⟩
  · constructor
    · intro z
      rw [h3] at z
      exact absurd z (Int32.not_lt.mpr (nI_pos' (hC i)))
    · intro z
      rw [h3] at z
      exact absurd z (ne_m1 (hC i))
theorem d0_small : ∀ n, n < 6 → ∀ r, r < facN n → d0N n r < 20 := by decide +kernel
theorem d1_small : ∀ n, n < 6 → ∀ r, r < facN n → d1N n r < 20 := by decide +kernel
theorem inv_small : ∀ n, n < 5 → ∀ r, r < facN n → invC n (rowT n r) ≤ 6 := by decide +kernel
theorem D_small {st n : Nat} {D : Nat → Nat} (hn : n ≤ 5) (hn2 : 2 ≤ n) (hst : st < 4) (hT : st < 2 ∨ n ≤ 4) (hD : ∀ r, r < facN n → D r ≤ 45 ∧ ∀ e, stF st n e r ↔ D r ≤ e) : ∀ r, r < facN n → D r < 20 := by
  intro r hr
  by_cases q0 : st = 0
  · subst q0
    rw [← d_uniq (d0_use hn hn2 r hr) (hD r hr).2]
    exact d0_small n (by omega) r hr
  · by_cases q1 : st = 1
    · subst q1
      rw [← d_uniq (d1_use hn hn2 r hr) (hD r hr).2]
      exact d1_small n (by omega) r hr
    · have := ((hD r hr).2 _).mp (st_all hst (by omega) 6 r hr (inv_small n (by omega) r hr))
      omega
theorem mvQ_s {st n q e : Nat} {s : Nat → Nat} (h : mvN st n e = some s) : mvQ st n q e = num n (fun x => rowT n q (s x)) := by
  unfold mvQ
  rw [h]
theorem r_orders {n k st q : Nat} {f o : Nat → Nat} {c : Hp} {r0 r1 : Row} (hG : Good n k f o) (h5 : n ≤ 5) (hC : NetC n k f o c) (hst : st < 4) (hS : StR c) (hq : q < facN n) (hp : RwN n r0 (rowT n q)) (hn0 : r1 0 = nI n) : Ev (f_L_orders (nI st) c r0 r1) (fun y => y.1 = 1 ∧ Sm [28, 29, 30, 31] c y.2 ∧ StR y.2) := by
  have hn2 := hG.1
  have hF := fac_le n (by omega)
  obtain ⟨D, hD⟩ := D_ex (st := st) (n := n) hst (by omega)
  have e4 : (nI st ≤ (1 : Int32)) = (st ≤ 1) := propext (nI_leI (b := 1) (by omega) (by omega))
  have e5 : (nI n ≤ (4 : Int32)) = (n ≤ 4) := propext (nI_leI (b := 4) (by omega) (by omega))
  unfold f_L_orders
  simp only [cl0, hn0, e4, e5]
  refine Ev_c0 (Ev_jn0 (st < 2 ∨ n ≤ 4) (fun hT => ?_) (fun k18 h18 => ?_))
  · have hD20 := D_small h5 hn2 hst hT hD
    refine Ev_jn3 (fun many rr dd => LdT st n many rr dd) (fun many rr dd hL => ?_) (fun kk hk => ?_)
    · have hds : ∀ r, r < facN n → ∀ p, RwN n p (rowT n r) → f_L_distance (nI st) (nI n) many p rr dd = some (nI (D r)) := fun r hr p hp => r_distance h5 hn2 hst hL hr hp hD
      refine Ev_bde (hds q hq r0 hp) (Ev_jn2 (fun a _ => MinL (okM st n q) (fun e => cdQ n (mvQ st n q e)) (kdN st n) a) (fun best r4 hM => ?_) (fun kk hk => ?_))
      · refine Ev_jn1 (fun r4 => RwN n r4 (fun x => x)) (fun r4 h4 => ?_) (fun kk hk => ?_)
        · refine Ev_jn2 (fun a _ => a = nI (ctB (fun r => decide (D r = D q)) (facN n))) (fun cnt r4 hcnt => ?_) (fun kk hk => ?_)
          · subst hcnt
            have hcode := r_code h5 hn2 hp
            rw [← cdQ_row hq] at hcode
            have h45 := hD20 q hq
            refine Ev_bde hcode (Ev_hc _ (C_farX hG h5 hC hst hS hq) (fun a ⟨⟨d, a1, a2⟩, a3, a4⟩ => ?_))
            rw [d_uniq a2 (hD q hq).2] at a1
            have hC1 : NetC n k f o a.2 := a3.nC hC (by decide) (by decide) (by decide)
            refine Ev_t a1 (Ev_bde hcode (Ev_hc _ (C_stepX hG h5 hC1 hst a4 hq) (fun b ⟨b1, b2, b3⟩ => ?_)))
            have hC2 : NetC n k f o b.2 := b2.nC hC1 (by decide) (by decide) (by decide)
            refine Ev_t (step_same hst (by omega) hn2 b1 hM) (Ev_hc _ (C_manyX hG hC2 hst b3 (a := D q) (by omega) hD) (fun g ⟨g1, g2, g3⟩ => ?_))
            have hC3 : NetC n k f o g.2 := g2.nC hC2 (by decide) (by decide) (by decide)
            refine Ev_t g1 ?_
            rw [show (20 : Int32) = nI 20 from rfl, nI_add]
            refine Ev_hc _ (C_manyX hG hC3 hst g3 (a := 20 + D q) (by omega) hD) (fun z ⟨z1, z2, z3⟩ => ?_)
            refine Ev_t ?_ (Ev_ckz (Or.inr rfl) (Ev_so ⟨rfl, ((a3.tr b2).tr g2).tr z2, z3⟩))
            rw [z1, ct_0.mpr (fun r hr => decide_eq_false (fun e => by have := hD20 r hr; omega))]
            rfl
          · have hF0 := fac_pos n
            refine Ev_fx3 (fun j a a12 r4 => a = nI (ctB (fun r => decide (D r = D q)) j) ∧ ((j < facN n ∧ a12 = 1 ∧ RwN n r4 (rowT n j)) ∨ (j = facN n ∧ a12 = 0))) (facN n) ?_ ?_ (FU_lt (by omega)) ⟨rfl, Or.inl ⟨hF0, rfl, RwN.row0 h5 h4⟩⟩
            · rintro self j a a12 r4 hj ⟨rfl, h⟩ hself
              rcases h with ⟨_, rfl, hr⟩ | ⟨h, _⟩
              · unfold L_L_orders_224
                have h1 := (hD j hj).1
                have h2 := (hD q hq).1
                refine Ev_f (by decide) (Ev_bde (hds j hj _ hr) (Ev_jn1 (fun z => nI (ctB (fun r => decide (D r = D q)) j) + z = nI (ctB (fun r => decide (D r = D q)) (j + 1))) (fun z hz => ?_) (fun kk hk => ?_)))
                · rw [hz]
                  refine Ev_nm (Ev_bd _ (r_next h5 hn2 hj hr) (fun y hy => hself _ _ _ ⟨rfl, ?_⟩))
                  by_cases e : j + 1 < facN n
                  · exact Or.inl ⟨e, hy.1 e⟩
                  · exact Or.inr ⟨by omega, hy.2 (by omega)⟩
                · refine Ev_i (fun e => hk _ ?_) (fun e => hk _ ?_)
                  · rw [neqI (by omega) (by omega)] at e
                    exact (ct_t (p := fun r => decide (D r = D q)) (decide_eq_true e)).symm
                  · rw [neqI (by omega) (by omega)] at e
                    rw [Int32.add_zero]
                    exact (ct_f (p := fun r => decide (D r = D q)) (by simpa using e)).symm
              · omega
            · rintro self a a12 r4 ⟨rfl, h⟩
              rcases h with ⟨h, _⟩ | ⟨_, rfl⟩
              · omega
              · unfold L_L_orders_224
                exact Ev_t rfl (hk _ _ rfl)
        · refine Ev_fx2 (fun j a r4 => a = nI j ∧ RwN j r4 (fun x => x)) n ?_ ?_ (FU_lt (by omega)) ⟨rfl, RwN.zero⟩
          · rintro self j a r4 hj ⟨rfl, h4⟩ hself
            unfold L_L_orders_201
            refine Ev_f (nle_n hj (by omega)) (Ev_ck rfl (by omega) (by omega) (Ev_nm (hself _ _ ⟨nI_add j 1, ?_⟩)))
            rw [clN (by omega)]
            exact h4.put rfl
          · rintro self a r4 ⟨rfl, h4⟩
            unfold L_L_orders_201
            exact Ev_t (Int32.le_refl _) (hk _ h4)
      · have hkd := kd_le (st := st) (show n ≤ 6 by omega)
        have hCl : ∀ e, (fun e => cdQ n (mvQ st n q e)) e < 2 ^ 31 := fun e => cdQ_lt (by omega)
        refine Ev_fx3 (fun j a a11 _ => a11 = nI j ∧ MinL (okM st n q) (fun e => cdQ n (mvQ st n q e)) j a) (kdN st n) ?_ ?_ (FU_lt (by omega)) ⟨rfl, MinL.z⟩
        · rintro self j a a11 r4 hj ⟨rfl, hM⟩ hself
          unfold L_L_orders_78
          refine Ev_bde (r_steps h5 hn2 hst) (Ev_f (nle_n hj (by omega)) (Ev_jn1 (fun r4 => RwN n r4 (rowT n q)) (fun r4 h4 => ?_) (fun kk hk => ?_)))
          · refine Ev_bd _ (r_moves h5 hn2 hst hj h4) (fun r hr => ?_)
            refine Ev_jn1 (fun z => (z = 0 ∧ ¬ okM st n q j) ∨ (z = 1 ∧ okM st n q j ∧ f_L_code (nI n) r.2 = some (nI (cdQ n (mvQ st n q j))))) (fun z hz => ?_) (fun k151 h151 => Ev_jn0 (¬ okM st n q j) (fun hno => h151 _ (Or.inl ⟨rfl, hno⟩)) (fun k150 h150 => ?_))
            · rcases hz with ⟨rfl, hz⟩ | ⟨rfl, hz, hc⟩
              · exact Ev_t rfl (hself _ _ _ ⟨nI_add j 1, hM.skip hz⟩)
              · refine Ev_f (by decide) (Ev_jn0 (MinL (okM st n q) (fun e => cdQ n (mvQ st n q e)) (j + 1) (nI (cdQ n (mvQ st n q j)))) (fun h => Ev_bde hc (hself _ _ _ ⟨nI_add j 1, h⟩)) (fun k175 h175 => Ev_i (fun e => h175 ?_) (fun e => Ev_bde hc (Ev_i (fun e2 => hself _ _ _ ⟨nI_add j 1, ?_⟩) (fun e2 => h175 ?_)))))
                · rw [hM.neg hCl] at e
                  rw [e] at hM
                  exact hM.first hCl hz
                · exact (hM.cmp hCl (fun z => e ((hM.neg hCl).mpr z)) hz).1 e2
                · exact (hM.cmp hCl (fun z => e ((hM.neg hCl).mpr z)) hz).2 e2
            · rcases hr with ⟨q1, q2, q3⟩ | ⟨q1, s, q2, q3⟩
              · exact Ev_t q1 (h150 (by rintro ⟨⟨s, hs⟩, _⟩; rw [q2] at hs; cases hs))
              · have hv2 := src_perm (mv_in hst hn2 hj q2) (row_perm (show n ≤ 6 by omega) hq)
                have hql := num_lt' (show n ≤ 6 by omega) hv2
                have hrr : RwN n r.2 (rowT n (mvQ st n q j)) := q3.congr (fun x hx => by rw [mvQ_s q2, num_row (by omega) hv2 hx])
                rw [← mvQ_s q2] at hql
                have hcode := r_code h5 hn2 hrr
                rw [← cdQ_row hql] at hcode
                have hnr := near_iff (hD _ hql).2 (hD q hq).2
                have h1 := (hD _ hql).1
                have h2 := (hD q hq).1
                refine Ev_f (by rw [q1]; decide) (Ev_bde (hds _ hql _ hrr) (Ev_i (fun e => h150 ?_) (fun e => h151 _ (Or.inr ⟨rfl, ⟨⟨s, q2⟩, ?_⟩, hcode⟩))))
                · rw [nI_leI (by omega) (by omega)] at e
                  rintro ⟨_, z⟩
                  rw [hnr] at z
                  omega
                · rw [nI_leI (by omega) (by omega)] at e
                  rw [hnr]
                  omega
          · refine Ev_fx2 (fun j a r4 => a = nI j ∧ RwN j r4 (rowT n q)) n ?_ ?_ (FU_lt (by omega)) ⟨rfl, RwN.zero⟩
            · rintro self j a r4 hj ⟨rfl, h4⟩ hself
              unfold L_L_orders_92
              refine Ev_f (nle_n hj (by omega)) (Ev_ck rfl (by omega) (by omega) (Ev_ck rfl (by omega) (by omega) (Ev_nm (hself _ _ ⟨nI_add j 1, ?_⟩))))
              rw [clN (by omega), hp j hj]
              exact h4.put rfl
            · rintro self a r4 ⟨rfl, h4⟩
              unfold L_L_orders_92
              exact Ev_t (Int32.le_refl _) (hk _ h4)
        · rintro self a a11 r4 ⟨rfl, hM⟩
          unfold L_L_orders_78
          exact Ev_bde (r_steps h5 hn2 hst) (Ev_t (Int32.le_refl _) (hk _ _ hM))
    · refine Ev_i (fun e => hk _ _ _ (Or.inl (by omega))) (fun e => ?_)
      have h4 : n ≤ 4 := hT.resolve_left (by omega)
      exact Ev_bd _ (r_spreads h4 hn2 hst) (fun y ⟨y1, y2, y3⟩ => hk _ _ _ (Or.inr ⟨h4, y1, y2, y3⟩))
  · refine Ev_i (fun e => h18 (Or.inl (by omega))) (fun e => Ev_i (fun e2 => h18 (Or.inr e2)) (fun e2 => ?_))
    exact Ev_ckz (Or.inr rfl) (Ev_so ⟨rfl, Sm.rf, hS⟩)
