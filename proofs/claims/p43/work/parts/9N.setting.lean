/-! P43: the law's lowest setting, found by trying all of them; the law's switches -/
def wS (f o : Nat → Nat) (a : Nat) : Nat → Nat → Nat
  | 0 => fun x => x
  | i + 1 => if a.testBit i = true then swapN (f i) (o i) (wS f o a i) else wS f o a i
theorem wS_congr {f o : Nat → Nat} {a b : Nat} : ∀ i, (∀ j, j < i → a.testBit j = b.testBit j) → wS f o a i = wS f o b i
  | 0, _ => rfl
  | i + 1, h => by
    show (if a.testBit i = true then swapN (f i) (o i) (wS f o a i) else wS f o a i) = (if b.testBit i = true then swapN (f i) (o i) (wS f o b i) else wS f o b i)
    rw [wS_congr i (fun j hj => h j (by omega)), h i (by omega)]
theorem wS_perm {n k : Nat} {f o : Nat → Nat} (hG : Good n k f o) {a : Nat} : ∀ i, i ≤ k → PermN n (wS f o a i)
  | 0, _ => ⟨fun x hx => hx, fun x y _ _ e => e⟩
  | i + 1, h => by
    obtain ⟨g1, g2, g3⟩ := hG.2.2.2 i (by omega)
    show PermN n (if a.testBit i = true then swapN (f i) (o i) (wS f o a i) else wS f o a i)
    split
    · exact swap_perm g1 g2 g3 (wS_perm hG i (by omega))
    · exact wS_perm hG i (by omega)
theorem wS_t {f o : Nat → Nat} {a i : Nat} (h : a.testBit i = true) : wS f o a (i + 1) = swapN (f i) (o i) (wS f o a i) := if_pos h
theorem wS_f {f o : Nat → Nat} {a i : Nat} (h : ¬ a.testBit i = true) : wS f o a (i + 1) = wS f o a i := if_neg h
theorem st_s {n i : Nat} {f o v : Nat → Nat} : stN n f o (i + 1) v = if reachB n f o i v = true then stN n f o i v else 2 ^ i ||| stN n f o i (swapN (f i) (o i) v) := rfl
theorem st_low {n k : Nat} {f o : Nat → Nat} (hG : Good n k f o) : ∀ i, i ≤ k → ∀ v : Nat → Nat, (reachB n f o i v = true → stN n f o i v < 2 ^ i ∧ ∀ x, x < n → wS f o (stN n f o i v) i x = v x) ∧ ∀ a, a < 2 ^ i → (∀ x, x < n → wS f o a i x = v x) → reachB n f o i v = true ∧ stN n f o i v ≤ a
  | 0, _, v => by
    refine ⟨fun h => ⟨by show 0 < 2 ^ 0; omega, fun x hx => ?_⟩, fun a ha h => ⟨?_, Nat.zero_le _⟩⟩
    · have h : (List.range n).all (fun x => v x == x) = true := h
      exact (eq_of_beq (List.all_eq_true.mp h x (List.mem_range.mpr hx))).symm
    · show (List.range n).all (fun x => v x == x) = true
      exact List.all_eq_true.mpr (fun x hx => beq_iff_eq.mpr (h x (List.mem_range.mp hx)).symm)
  | i + 1, hi, v => by
    obtain ⟨g1, g2, g3⟩ := hG.2.2.2 i (by omega)
    obtain ⟨a1, a2⟩ := st_low hG i (by omega) v
    obtain ⟨b1, b2⟩ := st_low hG i (by omega) (swapN (f i) (o i) v)
    have hpw : 2 ^ (i + 1) = 2 ^ i + 2 ^ i := by rw [Nat.pow_succ]; omega
    have hlow : ∀ s, s < 2 ^ i → (2 ^ i ||| s) = 2 ^ i + s := fun s hs => by
      have := Nat.two_pow_add_eq_or_of_lt hs 1
      rw [Nat.mul_one] at this
      exact this.symm
    refine ⟨fun h => ?_, fun a ha h => ?_⟩
    · rw [st_s]
      by_cases hr : reachB n f o i v = true
      · rw [if_pos hr]
        obtain ⟨c1, c2⟩ := a1 hr
        refine ⟨by omega, fun x hx => ?_⟩
        rw [wS_f (by rw [Nat.testBit_lt_two_pow c1]; decide)]
        exact c2 x hx
      · rw [if_neg hr]
        rw [reach_s, Bool.or_eq_true] at h
        obtain ⟨c1, c2⟩ := b1 (h.resolve_left hr)
        rw [hlow _ c1]
        refine ⟨by omega, fun x hx => ?_⟩
        rw [wS_t (by rw [Nat.testBit_two_pow_add_eq, Nat.testBit_lt_two_pow c1]; rfl), wS_congr i (fun j hj => Nat.testBit_two_pow_add_gt hj _), swap_congr g1 g2 c2 x hx, swap_swap g3]
    · rw [st_s]
      by_cases hb : a < 2 ^ i
      · rw [wS_f (by rw [Nat.testBit_lt_two_pow hb]; decide)] at h
        obtain ⟨c1, c2⟩ := a2 a hb h
        rw [if_pos c1, reach_s, c1, Bool.true_or]
        exact ⟨rfl, c2⟩
      · obtain ⟨s, rfl⟩ : ∃ s, a = 2 ^ i + s := ⟨a - 2 ^ i, by omega⟩
        have hs : s < 2 ^ i := by omega
        rw [wS_t (by rw [Nat.testBit_two_pow_add_eq, Nat.testBit_lt_two_pow hs]; rfl), wS_congr i (fun j hj => Nat.testBit_two_pow_add_gt hj _)] at h
        have h2 : ∀ x, x < n → wS f o s i x = swapN (f i) (o i) v x := fun x hx => by
          rw [← swap_congr g1 g2 h x hx, swap_swap g3]
        obtain ⟨c1, c2⟩ := b2 s hs h2
        rw [reach_s, c1, Bool.or_true]
        refine ⟨rfl, ?_⟩
        split
        · rename_i hr
          have := (a1 hr).1
          omega
        · rw [hlow _ (by omega)]
          omega
theorem bit_eq {a i : Nat} (ha : a < 2 ^ 31) (hi : i < 32) : ((ishr (nI a) (nI i)) &&& (1 : Int32) = 1) = (a.testBit i = true) := by
  rw [bit_n ha hi]
  by_cases h : a.testBit i = true
  · rw [if_pos h, h]; exact propext ⟨fun _ => rfl, fun _ => rfl⟩
  · rw [if_neg h]; exact propext ⟨fun z => absurd z (by decide), fun z => absurd z h⟩
theorem RwN.self {n a : Nat} {v : Nat → Nat} {p : Row} (h : RwN n p v) : RwN n (upd (upd p a (nI (v a))) a (nI (v a))) v := fun x hx => by
  by_cases x1 : x = a
  · rw [x1, upd_s]
  · rw [upd_n _ _ x1, upd_n _ _ x1]; exact h x hx
theorem r_setting {n k : Nat} {f o v : Nat → Nat} {r0 r1 r2 : Row} (hG : Good n k f o) (h5 : n ≤ 5) (hk7 : k ≤ 7) (hc : RcN k f o r1) (hn0 : r2 0 = nI n) (hk1 : r2 1 = nI k) (hp : RwN n r0 v) (hv : ∀ x, x < n → v x < n) : Ev (f_L_setting r0 r1 r2) (fun y => (reachB n f o k v = true → y = nI (stN n f o k v)) ∧ (¬ reachB n f o k v = true → y = -1)) := by
  have hpw : 2 ^ k ≤ 2 ^ 7 := Nat.pow_le_pow_right (by omega) hk7
  obtain ⟨b1, b2⟩ := st_low hG k (Nat.le_refl k) v
  unfold f_L_setting
  refine Ev_jn1 (fun _ => ¬ reachB n f o k v = true) (fun _ h => Ev_so ⟨fun z => absurd z h, fun _ => rfl⟩) (fun k169 h169 => ?_)
  refine Ev_jn2 (fun a _ => ∃ s, a = nI s ∧ s < 2 ^ k ∧ (∀ x, x < n → wS f o s k x = v x) ∧ ∀ t, t < s → ¬ ∀ x, x < n → wS f o t k x = v x) (fun a _ ⟨s, h1, h2, h3, h4⟩ => Ev_so ?_) (fun k160 h160 => ?_)
  · obtain ⟨c1, c2⟩ := b2 s h2 h3
    refine ⟨fun _ => ?_, fun z => absurd c1 z⟩
    by_cases e : stN n f o k v < s
    · exact absurd (b1 c1).2 (h4 _ e)
    · rw [h1, show s = stN n f o k v by omega]
  · refine Ev_fx2 (fun j a _ => a = nI j ∧ ∀ t, t < j → ¬ ∀ x, x < n → wS f o t k x = v x) (2 ^ k) ?_ ?_ (FU_lt (by omega)) ⟨rfl, fun t ht => absurd ht (by omega)⟩
    · rintro self j a r3 hj ⟨rfl, hno⟩ hself
      unfold L_L_setting_8
      rw [cl1, hk1, shl1 (by omega)]
      refine Ev_c1 (Ev_f (nle_n hj (by omega)) (Ev_jn1 (fun r3 => RwN n r3 (wS f o j 0)) (fun r3 h3 => ?_) (fun kk hk => ?_)))
      · refine Ev_jn1 (fun r3 => RwN n r3 (wS f o j k)) (fun r3 h3 => ?_) (fun kk hk => ?_)
        · refine Ev_jn1 (fun y => (y = 1 ∧ ∀ x, x < n → wS f o j k x = v x) ∨ (y = 0 ∧ ¬ ∀ x, x < n → wS f o j k x = v x)) (fun y hy => ?_) (fun kk hk => ?_)
          · rcases hy with ⟨rfl, hy⟩ | ⟨rfl, hy⟩
            · exact Ev_f (by decide) (h160 _ _ ⟨j, rfl, hj, hy, hno⟩)
            · refine Ev_t rfl (hself _ _ ⟨nI_add j 1, fun t ht => ?_⟩)
              by_cases e : t = j
              · rw [e]; exact hy
              · exact hno t (by omega)
          · have hwp := wS_perm hG (a := j) k (Nat.le_refl k)
            refine Ev_fx2 (fun i y a => a = nI i ∧ ((y = 1 ∧ ∀ x, x < i → wS f o j k x = v x) ∨ (y = 0 ∧ ¬ ∀ x, x < n → wS f o j k x = v x))) n ?_ ?_ (FU_lt (by omega)) ⟨rfl, Or.inl ⟨rfl, fun x hx => absurd hx (by omega)⟩⟩
            · rintro self i y a hi ⟨rfl, hy⟩ hself
              unfold L_L_setting_118
              rw [cl0, hn0]
              refine Ev_c0 (Ev_f (nle_n hi (by omega)) ?_)
              rcases hy with ⟨rfl, hy⟩ | ⟨rfl, hy⟩
              · have h1 := hwp.1 i hi
                have h2 := hv i hi
                rw [clN (by omega), h3 i hi, hp i hi]
                refine Ev_f (by decide) (Ev_ck rfl (by omega) (by omega) (Ev_ck rfl (by omega) (by omega) (Ev_i (fun e => hself _ _ ⟨nI_add i 1, Or.inl ⟨rfl, fun x hx => ?_⟩⟩) (fun e => hself _ _ ⟨nI_add i 1, Or.inr ⟨rfl, fun z => ?_⟩⟩))))
                · rw [neqI (by omega) (by omega)] at e
                  by_cases x1 : x = i
                  · rw [x1]; exact e
                  · exact hy x (by omega)
                · rw [neqI (by omega) (by omega)] at e
                  exact e (z i hi)
              · exact Ev_t rfl (hself _ _ ⟨nI_add i 1, Or.inr ⟨rfl, hy⟩⟩)
            · rintro self y a ⟨rfl, hy⟩
              unfold L_L_setting_118
              rw [cl0, hn0]
              exact Ev_c0 (Ev_t (Int32.le_refl _) (hk _ hy))
        · have hk24 := hG.2.2.1
          refine Ev_fx2 (fun i a r3 => a = nI i ∧ RwN n r3 (wS f o j i)) k ?_ ?_ (FU_lt (by omega)) ⟨rfl, h3⟩
          · rintro self i a r3 hi ⟨rfl, h3⟩ hself
            obtain ⟨g1, g2, g3⟩ := hG.2.2.2 i hi
            obtain ⟨e1, e2⟩ := hc.rd hi (show f i < 8 by omega) (show o i < 8 by omega)
            unfold L_L_setting_47
            rw [cl1, hk1, clN (by omega), e1, e2]
            refine Ev_c1 (Ev_f (nle_n hi (by omega)) (Ev_ck rfl (by omega) (by omega) (Ev_nm (Ev_jn1 (fun z => (z = nI (o i) ∧ j.testBit i = true) ∨ (z = nI (f i) ∧ ¬ j.testBit i = true)) (fun z hz => ?_) (fun kk hk => ?_)))))
            · rcases hz with ⟨rfl, hz⟩ | ⟨rfl, hz⟩
              · rw [wS_t hz] at hself
                rw [clN (by omega), clN (by omega), h3 _ g1, h3 _ g2]
                exact Ev_ck rfl (by omega) (by omega) (Ev_ck rfl (by omega) (by omega) (Ev_ck rfl (by omega) (by omega) (Ev_nm (Ev_ck rfl (by omega) (by omega) (Ev_nm (hself _ _ ⟨nI_add i 1, h3.swap g3⟩))))))
              · rw [wS_f hz] at hself
                rw [clN (by omega), h3 _ g1]
                exact Ev_ck rfl (by omega) (by omega) (Ev_ck rfl (by omega) (by omega) (Ev_ck rfl (by omega) (by omega) (Ev_nm (Ev_ck rfl (by omega) (by omega) (Ev_nm (hself _ _ ⟨nI_add i 1, h3.self⟩))))))
            · exact Ev_i (fun e => Ev_ck rfl (by omega) (by omega) (hk _ (Or.inl ⟨rfl, by rw [bit_eq (by omega) (by omega)] at e; exact e⟩))) (fun e => hk _ (Or.inr ⟨rfl, by rw [bit_eq (by omega) (by omega)] at e; exact e⟩))
          · rintro self a r3 ⟨rfl, h3⟩
            unfold L_L_setting_47
            rw [cl1, hk1]
            exact Ev_c1 (Ev_t (Int32.le_refl _) (hk _ h3))
      · refine Ev_fx2 (fun i a r3 => a = nI i ∧ RwN i r3 (fun x => x)) n ?_ ?_ (FU_lt (by omega)) ⟨rfl, RwN.zero⟩
        · rintro self i a r3 hi ⟨rfl, h3⟩ hself
          unfold L_L_setting_24
          rw [cl0, hn0, clN (by omega)]
          exact Ev_c0 (Ev_f (nle_n hi (by omega)) (Ev_ck rfl (by omega) (by omega) (Ev_nm (hself _ _ ⟨nI_add i 1, h3.put rfl⟩))))
        · rintro self a r3 ⟨rfl, h3⟩
          unfold L_L_setting_24
          rw [cl0, hn0]
          exact Ev_c0 (Ev_t (Int32.le_refl _) (hk _ h3))
    · rintro self a r3 ⟨rfl, hno⟩
      unfold L_L_setting_8
      rw [cl1, hk1, shl1 (by omega)]
      refine Ev_c1 (Ev_t (Int32.le_refl _) (h169 _ (fun z => ?_)))
      obtain ⟨c1, c2⟩ := b1 z
      exact hno _ c1 c2
theorem st_lt {n k : Nat} {f o v : Nat → Nat} (hG : Good n k f o) (h : reachB n f o k v = true) : stN n f o k v < 2 ^ k := ((st_low hG k (Nat.le_refl k) v).1 h).1
theorem r_switches {n k q : Nat} {f o : Nat → Nat} {c : Hp} {r0 r1 r2 : Row} (hG : Good n k f o) (h5 : n ≤ 5) (hC : NetC n k f o c) (hS : SwR n k f o c) (hc : RcN k f o r1) (hn0 : r2 0 = nI n) (hk1 : r2 1 = nI k) (hq : q < facN n) (hp : RwN n r0 (rowT n q)) : Ev (f_L_switches c r0 r1 r2) (fun y => y.1 = 1 ∧ Sm [20, 21, 22] c y.2 ∧ SwR n k f o y.2) := by
  have hn := hG.2.1
  have hn2 := hG.1
  have hk24 := hG.2.2.1
  unfold f_L_switches
  rw [cl0, hn0, cl1, hk1]
  refine Ev_c0 (Ev_i (fun e => Ev_ckz (Or.inr rfl) (Ev_so ⟨rfl, Sm.rf, hS⟩)) (fun e4 => Ev_c1 (Ev_i (fun e7 => ?_) (fun e => Ev_ckz (Or.inr rfl) (Ev_so ⟨rfl, Sm.rf, hS⟩)))))
  rw [show (4 : Int32) = nI 4 from rfl, Int32.not_lt, nI_leI (by omega) (by omega)] at e4
  rw [show (7 : Int32) = nI 7 from rfl, nI_leI (by omega) (by omega)] at e7
  have hF := fac_le4 n (by omega)
  have hF0 := fac_pos n
  have hpw : 2 ^ k ≤ 2 ^ 7 := Nat.pow_le_pow_right (by omega) e7
  refine Ev_jn1 (fun r3 => RwN n r3 (fun x => x)) (fun r3 h3 => ?_) (fun kk hk => ?_)
  · refine Ev_jn2 (fun a _ => a = nI (ctB (fun r => reachB n f o k (rowT n r)) (facN n))) (fun a r3 ha => ?_) (fun kk hk => ?_)
    · subst ha
      unfold f_X10_routes f_X7_rowsOut_20_1
      refine Ev_bd (fun r => r.1 = nI (ctB (fun r => reachB n f o k (rowT n r)) (facN n)) ∧ Sm [20, 21, 22] c r.2 ∧ SwR n k f o r.2) (Ev_bd (fun r => r.1 = nI (ctB (fun r => reachB n f o k (rowT n r)) (facN n)) ∧ Sm [20, 21, 22] c r.2 ∧ SwR n k f o r.2) (Ev_bd _ (C_learn hG hC hS) (fun h ⟨a1, a2, a3⟩ => Ev_so ⟨a2, a1, SwR.of a2 a3⟩)) (fun r hr => Ev_so hr)) (fun r ⟨a1, a2, a3⟩ => ?_)
      have hC1 := a2.nC hC (by decide) (by decide) (by decide)
      have hcode := r_code h5 hn2 hp
      rw [← cdQ_row hq] at hcode
      obtain ⟨pk, hpk, hPK⟩ := C_code h5 hn2 hq
      have hpm := row_perm (show n ≤ 6 by omega) hq
      refine Ev_t a1 (Ev_c0 (Ev_bde hcode (Ev_hc (fun b : Int32 × Hp => Sm [20, 21, 22] r.2 b.2 ∧ SwR n k f o b.2 ∧ (reachB n f o k (rowT n q) = true → b.1 = nI (stN n f o k (rowT n q))) ∧ (¬ reachB n f o k (rowT n q) = true → b.1 = -1)) ?_ (fun b ⟨c1, c2, c3, c4⟩ => ?_))))
      · unfold f_X10_setting
        rw [bdx_r (C_rowOf_t hC1.1 (hPK.lt hn) hpk)]
        exact Ev_bd _ (C_setting hG hC1 a3 hPK hpm) (fun b hb => Ev_so ⟨_, rfl, hb⟩)
      · refine Ev_bd _ (r_setting hG h5 e7 hc hn0 hk1 hp hpm.1) (fun y ⟨d1, d2⟩ => Ev_t ?_ (Ev_ckz (Or.inr rfl) (Ev_so ⟨rfl, a2.tr c1, c2⟩)))
        by_cases hr : reachB n f o k (rowT n q) = true
        · rw [c3 hr, d1 hr]
        · rw [c4 hr, d2 hr]
    · refine Ev_fx3 (fun j a a6 r3 => a = nI (ctB (fun r => reachB n f o k (rowT n r)) j) ∧ ((j < facN n ∧ a6 = 1 ∧ RwN n r3 (rowT n j)) ∨ (j = facN n ∧ a6 = 0))) (facN n) ?_ ?_ (by omega) ⟨rfl, Or.inl ⟨hF0, rfl, RwN.row0 h5 h3⟩⟩
      · rintro self j a a6 r3 hj ⟨rfl, h⟩ hself
        rcases h with ⟨_, rfl, hr⟩ | ⟨h, _⟩
        · unfold L_L_switches_53
          have hpm := row_perm (show n ≤ 6 by omega) hj
          rw [cl0, hn0]
          refine Ev_f (by decide) (Ev_bd _ (r_setting hG h5 e7 hc hn0 hk1 hr hpm.1) (fun y ⟨d1, d2⟩ => Ev_jn1 (fun z => nI (ctB (fun r => reachB n f o k (rowT n r)) j) + z = nI (ctB (fun r => reachB n f o k (rowT n r)) (j + 1))) (fun z hz => ?_) (fun kk hk => ?_)))
          · rw [hz]
            refine Ev_nm (Ev_c0 (Ev_bd _ (r_next h5 hn2 hj hr) (fun y hy => hself _ _ _ ⟨rfl, ?_⟩)))
            by_cases e : j + 1 < facN n
            · exact Or.inl ⟨e, hy.1 e⟩
            · exact Or.inr ⟨by omega, hy.2 (by omega)⟩
          · by_cases hrr : reachB n f o k (rowT n j) = true
            · have hlt := st_lt hG hrr
              rw [d1 hrr]
              refine Ev_f (nI_pos (by omega)) (hk _ ?_)
              exact (ct_t (p := fun r => reachB n f o k (rowT n r)) hrr).symm
            · rw [d2 hrr]
              refine Ev_t (by decide) (hk _ ?_)
              rw [Int32.add_zero]
              exact (ct_f (p := fun r => reachB n f o k (rowT n r)) hrr).symm
        · omega
      · rintro self a a6 r3 ⟨rfl, h⟩
        rcases h with ⟨h, _⟩ | ⟨_, rfl⟩
        · omega
        · unfold L_L_switches_53
          exact Ev_t rfl (hk _ _ rfl)
  · refine Ev_fx2 (fun i a r3 => a = nI i ∧ RwN i r3 (fun x => x)) n ?_ ?_ (FU_lt (by omega)) ⟨rfl, RwN.zero⟩
    · rintro self i a r3 hi ⟨rfl, h3⟩ hself
      unfold L_L_switches_26
      rw [cl0, hn0, clN (by omega)]
      exact Ev_c0 (Ev_f (nle_n hi (by omega)) (Ev_ck rfl (by omega) (by omega) (Ev_nm (hself _ _ ⟨nI_add i 1, h3.put rfl⟩))))
    · rintro self a r3 ⟨rfl, h3⟩
      unfold L_L_switches_26
      rw [cl0, hn0]
      exact Ev_c0 (Ev_t (Int32.le_refl _) (hk _ h3))
