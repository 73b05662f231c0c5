/-! P43: the class's far, step and manyFar at codes of rows; the law's orders -/
theorem Ev_hc {α β : Type} {x : Option ((String × Hp) ⊕ α)} {j : String → Hp → Option β} {k : α → Option β} {P : β → Prop} (Q : α → Prop) (h : Ev x (fun r => ∃ a, r = .inr a ∧ Q a)) (hk : ∀ a, Q a → Ev (k a) P) : Ev (hcatch x j k) P := by
  obtain ⟨r, rfl, a, rfl, hq⟩ := h
  exact hk a hq
theorem least {P : Nat → Prop} (hm : ∀ a b, a ≤ b → P a → P b) : ∀ N, P N → ∃ d, d ≤ N ∧ ∀ e, P e ↔ d ≤ e
  | 0, h => ⟨0, Nat.le_refl _, fun e => ⟨fun _ => Nat.zero_le _, fun _ => hm 0 e (Nat.zero_le _) h⟩⟩
  | N + 1, h => by
    rcases Classical.em (P N) with h2 | h2
    · obtain ⟨d, h3, h4⟩ := least hm N h2
      exact ⟨d, by omega, h4⟩
    · refine ⟨N + 1, Nat.le_refl _, fun e => ⟨fun h3 => ?_, fun h3 => hm _ _ h3 h⟩⟩
      apply Classical.byContradiction
      intro h4
      exact h2 (hm e N (by omega) h3)
theorem D_ex {st n : Nat} (hst : st < 4) (hn : n ≤ 6) : ∃ D : Nat → Nat, ∀ r, r < facN n → D r ≤ 45 ∧ ∀ e, stF st n e r ↔ D r ≤ e := by
  have h : ∀ r, r < facN n → ∃ d, d ≤ 45 ∧ ∀ e, stF st n e r ↔ d ≤ e := fun r hr => least (P := fun e => stF st n e r) (fun a b hab h => stF_le h hab) 45 (st_45 hst hn hr)
  refine ⟨fun r => if hr : r < facN n then Classical.choose (h r hr) else 0, fun r hr => ?_⟩
  dsimp only
  rw [dif_pos hr]
  exact Classical.choose_spec (h r hr)
theorem C_code {n q : Nat} (hn : n ≤ 5) (hn2 : 2 ≤ n) (hq : q < facN n) : ∃ pk, f_X5_ofCode (nI (cdQ n q)) (nI n) = some (nI pk) ∧ PK n (rowT n q) pk := by
  have hpm := row_perm (show n ≤ 6 by omega) hq
  have hdg : ∀ w, w < n → dgN (cdQ n q) w = rowT n q w := fun w hw => by
    rw [cdQ_row hq]
    exact cd_dg hn hn2 (fun x hx => by have := hpm.1 x hx; omega) hw
  have hcd : isCd n (cdQ n q) := by
    refine ⟨⟨fun x hx => by rw [hdg x hx]; exact hpm.1 x hx, fun x y hx hy e => ?_⟩, ?_⟩
    · rw [hdg x hx, hdg y hy] at e
      exact hpm.2 x y hx hy e
    · rw [cdQ_row hq]
      exact cd_lt (fun x hx => by have := hpm.1 x hx; omega) n (Nat.le_refl n)
  obtain ⟨y, hy, a1, _⟩ := C_ofCode (n := n) (c := cdQ n q) (by omega) (cdQ_lt (by omega))
  obtain ⟨pk, rfl, hP⟩ := a1 hcd
  exact ⟨pk, hy, hP.congr hdg⟩
theorem C_farX {n k st q : Nat} {f o : Nat → Nat} {c : Hp} (hG : Good n k f o) (h5 : n ≤ 5) (hC : NetC n k f o c) (hst : st < 4) (hS : StR c) (hq : q < facN n) : Ev (f_X10_far c (nI st) (nI (cdQ n q))) (fun r => ∃ a : Int32 × Hp, r = .inr a ∧ (∃ d, a.1 = nI d ∧ ∀ e, stF st n e q ↔ d ≤ e) ∧ Sm [28, 29, 30, 31] c a.2 ∧ StR a.2) := by
  have hn := hG.2.1
  have hn2 := hG.1
  obtain ⟨pk, hpk, hPK⟩ := C_code h5 hn2 hq
  have hv := row_perm hn hq
  have hnq := row_num hn hq
  obtain ⟨h, h0, a1, a2, a3⟩ := C_learnS hG hst hS
  obtain ⟨d, hd, e29, hdd⟩ := a1 _ hq
  unfold f_X10_far
  rw [bdx_r (C_stp_t hst), bdx_r (C_rowOf_t hC.1 (hPK.lt hn) hpk)]
  dsimp only
  rw [hC.1]
  refine Ev_bd (fun r => r = (nI d, h)) ?_ (fun r hr => Ev_so ⟨_, rfl, ?_, ?_, ?_⟩)
  · unfold f_X6_farOf_28
    have hpl := C_place hst hn hn2 hPK hv
    rw [hnq] at hpl
    refine Ev_bde h0 (Ev_bde hpl (Ev_ck rfl (pl_lt hst hn hq) (by omega) (Ev_so ?_)))
    rw [clN (by have := pl_lt hst hn hq; omega), e29, nI_sub1]
  · rw [hr]; exact ⟨d, rfl, hdd⟩
  · rw [hr]; exact a2
  · rw [hr]; exact StR.learnt hn hn2 hS a1 a3
theorem C_stepX {n k st q : Nat} {f o : Nat → Nat} {c : Hp} (hG : Good n k f o) (h5 : n ≤ 5) (hC : NetC n k f o c) (hst : st < 4) (hS : StR c) (hq : q < facN n) : Ev (f_X10_step c (nI st) (nI (cdQ n q))) (fun r => ∃ a : Int32 × Hp, r = .inr a ∧ MinL (fun i => nearN st n q (nwC st n q i)) (fun i => cdQ n (nwC st n q i)) (stepsN st n).length a.1 ∧ Sm [28, 29, 30, 31] c a.2 ∧ StR a.2) := by
  have hn := hG.2.1
  have hn2 := hG.1
  obtain ⟨pk, hpk, hPK⟩ := C_code h5 hn2 hq
  have hv := row_perm hn hq
  have hnq := row_num hn hq
  obtain ⟨r1, h0, a1, a2, a3⟩ := C_step hG hst hS hPK hv
  rw [hnq] at a1
  unfold f_X10_step
  rw [bdx_r (C_stp_t hst), bdx_r (C_rowOf_t hC.1 (hPK.lt hn) hpk)]
  dsimp only
  rw [hC.1]
  exact Ev_bde h0 (Ev_so ⟨_, rfl, a1, a3, a2⟩)
theorem C_manyX {n k st a : Nat} {f o : Nat → Nat} {D : Nat → Nat} {c : Hp} (hG : Good n k f o) (hC : NetC n k f o c) (hst : st < 4) (hS : StR c) (ha : a < 2 ^ 20) (hD : ∀ r, r < facN n → D r ≤ 45 ∧ ∀ e, stF st n e r ↔ D r ≤ e) : Ev (f_X10_manyFar c (nI st) (nI a)) (fun r => ∃ b : Int32 × Hp, r = .inr b ∧ b.1 = nI (ctB (fun r => decide (D r = a)) (facN n)) ∧ Sm [28, 29, 30, 31] c b.2 ∧ StR b.2) := by
  have hn := hG.2.1
  have hn2 := hG.1
  have hF := fac_le n (by omega)
  obtain ⟨h, h0, a1, a2, a3⟩ := C_learnS hG hst hS
  have hK : ∀ r, r < facN n → h.1 29 (plN st n r) = nI (D r + 1) := fun r hr => by
    obtain ⟨d, hd, e29, hdd⟩ := a1 r hr
    have h1 : h.1 29 (plN st n r) = nI (d + 1) := e29
    rw [h1, d_uniq hdd (hD r hr).2]
  unfold f_X10_manyFar
  rw [bdx_r (C_stp_t hst)]
  refine Ev_t (nI_pos' (by omega)) ?_
  rw [hC.1]
  refine Ev_bd (fun r => r = (nI (ctB (fun r => decide (D r = a)) (facN n)), h)) ?_ (fun r hr => Ev_so ⟨_, rfl, by rw [hr], by rw [hr]; exact a2, by rw [hr]; exact StR.learnt hn hn2 hS a1 a3⟩)
  unfold f_X6_countFar_28
  have hb := (fBEG_n n (by omega)).resolve_right (by omega)
  rw [clN (by omega), hb, show (872 : Int32) = nI 872 from rfl, nmul, nI_add]
  refine Ev_bde h0 (Ev_ck rfl (by omega) (by omega) (Ev_nm ?_))
  have hct : ctB (fun r => decide (D r = a)) (facN n) = ctB (fun i => decide (h.1 29 (st * 872 + begN n + i) - 1 = nI a)) (facN n) := by
    rw [← ct_onto (g := fun r => rankN (rowT n r) n) (N := facN n) (p := fun i => decide (h.1 29 (st * 872 + begN n + i) - 1 = nI a)) (fun i hi => ?_)]
    · refine ct_congr (fun r hr => ?_)
      have e := hK r hr
      have h45 := (hD r hr).1
      unfold plN at e
      rw [e, nI_sub1]
      exact decide_eq_decide.mpr (neqI (by omega) (by omega)).symm
    · have hu := unrk_perm hn hi
      refine ⟨num n (unrk n i), num_lt' hn hu, ?_⟩
      rw [rankN_congr (fun x hx => num_row hn hu hx), unrk_rank hn hi]
  rw [hct]
  have hbl := beg_lt n (by omega)
  have hst2 : st * 872 ≤ 3 * 872 := Nat.mul_le_mul_right _ (by omega)
  refine Ev_jn1 (fun z => z = nI (ctB (fun i => decide (h.1 29 (st * 872 + begN n + i) - 1 = nI a)) (facN n))) (fun z hz => Ev_so (by rw [hz])) (fun kk hk => ?_)
  refine Ev_fx2 (fun i a1 a2 => a2 = nI i ∧ a1 = nI (ctB (fun i => decide (h.1 29 (st * 872 + begN n + i) - 1 = nI a)) i)) (facN n) ?_ ?_ (FU_lt (by omega)) ⟨rfl, rfl⟩
  · rintro self i b1 b2 hi ⟨rfl, rfl⟩ hself
    unfold L_X6_countFar_28_25
    refine Ev_bd (fun y => y = nI (facN n)) ?_ (fun z hz => ?_)
    · unfold f_X5_howMany
      rw [clN (by omega), fFAC_n n (by omega)]
      exact Ev_ck rfl (by omega) (by omega) (Ev_so rfl)
    · subst hz
      rw [nI_add, clN (by omega)]
      refine Ev_f (nle_n hi (by omega)) (Ev_ck rfl (by omega) (by omega) (Ev_i (fun e => hself _ _ ⟨nI_add i 1, ?_⟩) (fun e => hself _ _ ⟨nI_add i 1, ?_⟩)))
      · exact (ct_t (p := fun i => decide (h.1 29 (st * 872 + begN n + i) - 1 = nI a)) (decide_eq_true e)).symm
      · exact (ct_f (p := fun i => decide (h.1 29 (st * 872 + begN n + i) - 1 = nI a)) (by simpa using e)).symm
  · rintro self b1 b2 ⟨rfl, rfl⟩
    unfold L_X6_countFar_28_25
    refine Ev_bd (fun y => y = nI (facN n)) ?_ (fun z hz => ?_)
    · unfold f_X5_howMany
      rw [clN (by omega), fFAC_n n (by omega)]
      exact Ev_ck rfl (by omega) (by omega) (Ev_so rfl)
    · subst hz
      exact Ev_t (Int32.le_refl _) (hk _ rfl)
/-- what the law's distance is measured by: nothing, or its tables -/
def LdT (st n : Nat) (many : Int32) (rr dd : Row) : Prop := st < 2 ∨ (n ≤ 4 ∧ many = nI (facN n) ∧ CdN n rr ∧ ∃ d, RwN (facN n) dd d ∧ ∀ r, r < facN n → d r ≤ 45 ∧ ∀ e, stF st n e r ↔ d r ≤ e)
theorem r_distance {n st q : Nat} {many : Int32} {D : Nat → Nat} {p rr dd : Row} (hn : n ≤ 5) (hn2 : 2 ≤ n) (hst : st < 4) (hT : LdT st n many rr dd) (hq : q < facN n) (hp : RwN n p (rowT n q)) (hD : ∀ r, r < facN n → D r ≤ 45 ∧ ∀ e, stF st n e r ↔ D r ≤ e) : f_L_distance (nI st) (nI n) many p rr dd = some (nI (D q)) := by
  have hpm := row_perm (show n ≤ 6 by omega) hq
  have e0 : (nI st = 0) = (st = 0) := nI_iff (b := 0) (by omega) (by omega)
  have e1 : (nI st = 1) = (st = 1) := nI_iff (b := 1) (by omega) (by omega)
  refine Ev_eq ?_
  unfold f_L_distance
  simp only [e0, e1]
  refine Ev_i (fun q0 => ?_) (fun q0 => Ev_i (fun q1 => ?_) (fun q1 => ?_))
  · subst q0
    refine Ev_bde (r_upside hn hn2 hp hpm.1) (Ev_so ?_)
    have := d_uniq (d0_use hn hn2 q hq) (hD q hq).2
    unfold d0N at this
    rw [this]
  · subst q1
    obtain ⟨_, s, m, hr⟩ := d1_both hn hn2 hq
    refine Ev_bde (r_rings hn hp hpm.1 hr) ?_
    have hm := (rgF_lt hn hpm.1 n s m (Nat.le_refl n) hr).2
    rw [nsub hm]
    refine Ev_so ?_
    have := d_uniq (d1_use hn hn2 q hq) (hD q hq).2
    unfold d1N at this
    rw [hr] at this
    have this : n - m = D q := this
    rw [this]
  · obtain ⟨h4, rfl, hc, d, hd, hdd⟩ := hT.resolve_left (by omega)
    have hF := fac_le4 n (by omega)
    have hcode := r_code hn hn2 hp
    rw [← cdQ_row hq] at hcode
    refine Ev_bde hcode (Ev_bde (r_placeOf h4 hq hc) (Ev_ck rfl (by omega) (by omega) (Ev_so ?_)))
    rw [clN (by omega), hd q hq, d_uniq (hdd q hq).2 (hD q hq).2]
