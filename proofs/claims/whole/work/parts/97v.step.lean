/-! CASE step -/
def MinL (P : Nat → Prop) (C : Nat → Nat) (j : Nat) (y : Int32) : Prop := (y = -1 ∧ ∀ i, i < j → ¬ P i) ∨ ∃ i, i < j ∧ P i ∧ y = nI (C i) ∧ ∀ i', i' < j → P i' → C i ≤ C i'
theorem MinL.z {P : Nat → Prop} {C : Nat → Nat} : MinL P C 0 (-1) := Or.inl ⟨rfl, fun i hi => absurd hi (by omega)⟩
theorem MinL.skip {P : Nat → Prop} {C : Nat → Nat} {j : Nat} {y : Int32} (h : MinL P C j y) (hn : ¬ P j) : MinL P C (j + 1) y := by
  rcases h with ⟨h1, h2⟩ | ⟨i, h1, h2, h3, h4⟩
  · exact Or.inl ⟨h1, fun i hi => by
      by_cases e : i = j
      · rw [e]; exact hn
      · exact h2 i (by omega)⟩
  · exact Or.inr ⟨i, by omega, h2, h3, fun i' hi' hp => by
      by_cases e : i' = j
      · rw [e] at hp; exact absurd hp hn
      · exact h4 i' (by omega) hp⟩
theorem MinL.first {P : Nat → Prop} {C : Nat → Nat} {j : Nat} (hC : ∀ i, C i < 2 ^ 31) (h : MinL P C j (-1)) (hp : P j) : MinL P C (j + 1) (nI (C j)) := by
  rcases h with ⟨_, h2⟩ | ⟨i, h1, h2, h3, h4⟩
  · exact Or.inr ⟨j, by omega, hp, rfl, fun i' hi' hp' => by
      by_cases e : i' = j
      · rw [e]; exact Nat.le_refl _
      · exact absurd hp' (h2 i' (by omega))⟩
  · exact absurd h3.symm (ne_m1 (hC i))
theorem MinL.cmp {P : Nat → Prop} {C : Nat → Nat} {j : Nat} {y : Int32} (hC : ∀ i, C i < 2 ^ 31) (h : MinL P C j y) (hy : ¬ y = -1) (hp : P j) : (y ≤ nI (C j) → MinL P C (j + 1) y) ∧ (¬ y ≤ nI (C j) → MinL P C (j + 1) (nI (C j))) := by
  rcases h with ⟨h1, h2⟩ | ⟨i, h1, h2, h3, h4⟩
  · exact absurd h1 hy
  · subst h3
    have hi := hC i
    have hj := hC j
    rw [nI_leI hi hj]
    constructor
    · intro hle
      exact Or.inr ⟨i, by omega, h2, rfl, fun i' hi' hp' => by
        by_cases e : i' = j
        · rw [e]; exact hle
        · exact h4 i' (by omega) hp'⟩
    · intro hle
      exact Or.inr ⟨j, by omega, hp, rfl, fun i' hi' hp' => by
        by_cases e : i' = j
        · rw [e]; exact Nat.le_refl _
        · have := h4 i' (by omega) hp'
          omega⟩
theorem MinL.uniq {P P2 : Nat → Prop} {C C2 : Nat → Nat} {j j2 : Nat} {y z : Int32} (h : MinL P C j y) (h2 : MinL P2 C2 j2 z) (a : ∀ i, i < j → P i → ∃ i', i' < j2 ∧ P2 i' ∧ C2 i' = C i) (b : ∀ i, i < j2 → P2 i → ∃ i', i' < j ∧ P i' ∧ C i' = C2 i) : y = z := by
  rcases h with ⟨rfl, h1⟩ | ⟨i, h1, hp, rfl, hm⟩
  · rcases h2 with ⟨rfl, _⟩ | ⟨i, g1, gp, rfl, gm⟩
    · rfl
    · obtain ⟨i', hi', hp', _⟩ := b i g1 gp
      exact absurd hp' (h1 i' hi')
  · obtain ⟨u, hu, pu, cu⟩ := a i h1 hp
    rcases h2 with ⟨rfl, g1⟩ | ⟨i2, g1, gp, rfl, gm⟩
    · exact absurd pu (g1 u hu)
    · obtain ⟨w, hw, pw, cw⟩ := b i2 g1 gp
      have x1 := gm u hu pu
      have x2 := hm w hw pw
      have : C i = C2 i2 := by omega
      rw [this]
theorem cd_lt {n : Nat} {v : Nat → Nat} (hv : ∀ x, x < n → v x < 10) : ∀ j, j ≤ n → cdS n v j < 10 ^ j
  | 0, _ => by show 0 < 10 ^ 0; omega
  | j + 1, hj => by
    have ih := cd_lt hv j (by omega)
    have h2 := hv (n - 1 - j) (by omega)
    show 10 * cdS n v j + v (n - 1 - j) < 10 ^ (j + 1)
    rw [Nat.pow_succ]
    omega
theorem cd_small {n r : Nat} (hn : n ≤ 6) (hr : r < facN n) : cdS n (rowT n r) n < 2 ^ 31 := by
  have hp := row_perm hn hr
  have h1 := cd_lt (n := n) (v := rowT n r) (fun x hx => by have := hp.1 x hx; omega) n (Nat.le_refl n)
  have h2 : 10 ^ n ≤ 10 ^ 6 := Nat.pow_le_pow_right (by omega) hn
  omega
/-- the code of a number's row, small in any case -/
def cdQ (n q : Nat) : Nat := if q < facN n then cdS n (rowT n q) n else 0
theorem cdQ_lt {n q : Nat} (hn : n ≤ 6) : cdQ n q < 2 ^ 31 := by
  unfold cdQ
  split
  · rename_i h; exact cd_small hn h
  · omega
def nearN (st n r q : Nat) : Prop := ∃ d, stF st n d q ∧ ¬ stF st n d r
theorem near_iff {st n r q a b : Nat} (h1 : ∀ e, stF st n e q ↔ a ≤ e) (h2 : ∀ e, stF st n e r ↔ b ≤ e) : nearN st n r q ↔ a < b := by
  constructor
  · rintro ⟨d, p1, p2⟩
    rw [h1] at p1
    rw [h2] at p2
    omega
  · intro h
    exact ⟨a, (h1 a).mpr (Nat.le_refl _), fun z => by rw [h2] at z; omega⟩
def nwC (st n r : Nat) (i : Nat) : Nat := (nbC st n r).getD i 0
theorem C_step {n k st q : Nat} {f o v : Nat → Nat} {c : Hp} (hG : Good n k f o) (hst : st < 4) (hS : StR c) (hP : PK n v q) (hv : PermN n v) : Ev (f_X6_codeNearer_28 c (nI st) (nI q) (nI n)) (fun r => MinL (fun i => nearN st n (num n v) (nwC st n (num n v) i)) (fun i => cdQ n (nwC st n (num n v) i)) (stepsN st n).length r.1 ∧ StR r.2 ∧ Sm [28, 29, 30, 31] c r.2) := by
  have hn := hG.2.1
  have hn2 := hG.1
  have hnl := num_lt' hn hv
  have hlen := steps_len st hst n (by omega)
  unfold f_X6_codeNearer_28
  refine Ev_bd _ (C_learnS hG hst hS) (fun h ⟨a1, a2, a3⟩ => ?_)
  refine Ev_bd _ (C_listSteps (h := h) hn hn2 hst) (fun h1 ⟨l1, l2, l3⟩ => ?_)
  have hSt1 : StR h1 := (StR.learnt hn hn2 hS a1 a3).keep (l3 29 (by decide)).1
  have hk1 : KnC st n h1 := fun r hr => by rw [(l3 29 (by decide)).1]; exact a1 r hr
  have hSm : Sm [28, 29, 30, 31] c h1 := a2.tr (l3.mono (by decide))
  have hplt := pl_lt hst hn hnl
  refine Ev_bde (C_place hst hn hn2 hP hv) (Ev_ck rfl hplt (by omega) ?_)
  obtain ⟨b, hb, eb, hbb⟩ := hk1 _ hnl
  rw [clN (by omega), eb]
  refine Ev_jn1 (fun y => MinL (fun i => nearN st n (num n v) (nwC st n (num n v) i)) (fun i => cdQ n (nwC st n (num n v) i)) (stepsN st n).length y) (fun y hy => Ev_so ⟨hy, hSt1, hSm⟩) (fun kk hk => ?_)
  refine Ev_fx2 (fun j a1 a2 => a2 = nI j ∧ MinL (fun i => nearN st n (num n v) (nwC st n (num n v) i)) (fun i => cdQ n (nwC st n (num n v) i)) j a1) (stepsN st n).length ?_ ?_ (FU_lt (by omega)) ⟨rfl, MinL.z⟩
  · rintro self j y b2 hj ⟨rfl, hM⟩ hself
    obtain ⟨s, hs31, hPs⟩ := l2 j hj
    have hsm : (stepsN st n).getD j (fun x => x) ∈ stepsN st n := by
      rw [List.getD_eq_getElem?_getD, List.getElem?_eq_getElem hj]; exact List.getElem_mem _
    have hnx := nbC_get (p := num n v) hj
    generalize hse : (stepsN st n).getD j (fun x => x) = src at hsm hPs hnx
    have hsl : ∀ x, x < n → src x < n := fun x hx => src_lt hsm x hx
    have hv1 := src_perm hsm (row_perm hn hnl)
    have hv2 := src_perm hsm hv
    have hcg : ∀ x, x < n → (fun x => rowT n (num n v) (src x)) x = (fun x => v (src x)) x := fun x hx => num_row hn hv (hsl x hx)
    rw [num_congr hcg] at hnx
    have hql := num_lt' hn hv2
    unfold L_X6_codeNearer_28_31
    rw [l1, clN (by omega), hs31]
    refine Ev_f (nle_n hj (by omega)) (Ev_ck rfl (by omega) (by omega) (Ev_bd _ (C_rearr hn hP hPs (fun x hx => by have := hv.1 x hx; omega) hsl) (fun w ⟨p2, ew, hp2⟩ => ?_)))
    subst ew
    refine Ev_bde (C_toCode hn hp2 (fun x hx => Nat.lt_of_lt_of_le (hv2.1 x hx) (by omega)) (by omega)) (Ev_bde (C_place hst hn hn2 hp2 hv2) (Ev_ck rfl (pl_lt hst hn hql) (by omega) ?_))
    obtain ⟨a, ha, ea, haa⟩ := hk1 _ hql
    have hpl2 := pl_lt hst hn hql
    rw [clN (by omega), ea]
    have hCd : nI (cdS n (fun x => v (src x)) n) = nI (cdQ n (nwC st n (num n v) j)) := by
      unfold nwC cdQ
      rw [hnx, if_pos hql, cdS_congr (by omega) (fun x hx => (num_row hn hv2 hx).symm)]
    have hnear : nearN st n (num n v) (nwC st n (num n v) j) ↔ a < b := by
      unfold nwC
      rw [hnx]
      exact near_iff haa hbb
    have hCl : ∀ i, (fun i => cdQ n (nwC st n (num n v) i)) i < 2 ^ 31 := fun i => cdQ_lt hn
    rw [hCd]
    refine Ev_jn1 (fun z => (z = 0 ∧ ¬ a < b) ∨ (z = 1 ∧ a < b)) (fun z hz => ?_) (fun k84 h84 => ?_)
    · rcases hz with ⟨rfl, hz⟩ | ⟨rfl, hz⟩
      · exact Ev_t rfl (hself _ _ ⟨nI_add j 1, hM.skip (fun z => hz (hnear.mp z))⟩)
      · refine Ev_f (by decide) (Ev_i (fun e => ?_) (fun e => Ev_i (fun e2 => ?_) (fun e2 => ?_)))
        · subst e
          exact hself _ _ ⟨nI_add j 1, hM.first hCl (hnear.mpr hz)⟩
        · exact hself _ _ ⟨nI_add j 1, (hM.cmp hCl e (hnear.mpr hz)).1 e2⟩
        · exact hself _ _ ⟨nI_add j 1, (hM.cmp hCl e (hnear.mpr hz)).2 e2⟩
    · refine Ev_i (fun e => h84 _ (Or.inl ⟨rfl, ?_⟩)) (fun e => h84 _ (Or.inr ⟨rfl, ?_⟩))
      · rw [nI_leI (by omega) (by omega)] at e; omega
      · rw [nI_leI (by omega) (by omega)] at e; omega
  · rintro self y b2 ⟨rfl, hM⟩
    unfold L_X6_codeNearer_28_31
    rw [l1]
    exact Ev_t (Int32.le_refl _) (hk _ hM)
def okM (st n r : Nat) (e : Nat) : Prop := (∃ s, mvN st n e = some s) ∧ nearN st n r (mvQ st n r e)
theorem M_stepL {n k st r : Nat} {f o : Nat → Nat} {g h : Hp} (hG : Good n k f o) (hst : st < 4) (hM : NetM n k f o h) (hr : r < facN n) (hF : FarM st n h) (kk : Int32 → Hp → Option (Int32 × Hp)) (P : Int32 × Hp → Prop) (hk : ∀ y h1, MinL (okM st n r) (fun e => cdQ n (mvQ st n r e)) (kdN st n) y → Sm [5] h h1 → Ev (kk y h1) P) : Ev (jn2 (fun k136 => fx3 (L_X11_step_49 (nI st) (nI r) k136) FU (-1 : Int32) (0 : Int32) h) kk) P := by
  have hn := hG.2.1
  have hn2 := hG.1
  have hFl := fac_le n (by omega)
  have hkd := kd_le (st := st) hn
  have hpp := row_perm hn hr
  obtain ⟨b, hb, eb, hbb⟩ := hF r hr
  have hCl : ∀ i, (fun e => cdQ n (mvQ st n r e)) i < 2 ^ 31 := fun i => cdQ_lt hn
  refine Ev_jn2 (fun y h1 => MinL (okM st n r) (fun e => cdQ n (mvQ st n r e)) (kdN st n) y ∧ Sm [5] h h1) (fun y h1 hh => hk y h1 hh.1 hh.2) (fun kq hkq => ?_)
  refine Ev_fx3 (fun e a1 a2 h1 => a2 = nI e ∧ MinL (okM st n r) (fun e => cdQ n (mvQ st n r e)) e a1 ∧ Sm [5] h h1) (kdN st n) ?_ ?_ (FU_lt (by omega)) ⟨rfl, MinL.z, Sm.rf⟩
  · rintro self e y b2 h1 he ⟨rfl, hL, hS⟩ hself
    have hM1 := Sm.nM hM hS (by decide) (by decide) (by decide) (by decide)
    unfold L_X11_step_49
    refine Ev_bde (M_kinds hn hn2 hst hM1.1) (Ev_f (nle_n he (by omega)) (Ev_bd _ (M_lays hn hM1 hr) (fun h2 ⟨hR2, hS2⟩ => ?_)))
    have hM2 := Sm.nM hM1 hS2 (by decide) (by decide) (by decide) (by decide)
    refine Ev_bd _ (M_does hn hn2 hst he hM2.1 hR2) (fun r3 ⟨hS3, hd⟩ => ?_)
    have hM3 := Sm.nM hM2 hS3 (by decide) (by decide) (by decide) (by decide)
    have hS123 := (hS.tr hS2).tr hS3
    refine Ev_jn1 (fun z => (z = 0 ∧ ¬ okM st n r e) ∨ (z = 1 ∧ okM st n r e ∧ ∃ s, mvN st n e = some s ∧ RwM n (fun x => rowT n r (s x)) r3.2)) (fun z hz => ?_) (fun k97 h97 => ?_)
    · rcases hz with ⟨rfl, hz⟩ | ⟨rfl, hz, s, hs, hRs⟩
      · exact Ev_t rfl (hself _ _ _ ⟨nI_add e 1, hL.skip hz, hS123⟩)
      · have hsm := mv_in hst hn2 he hs
        have hv2 := src_perm hsm hpp
        have hcode : f_X11_codeOf r3.2 = some (nI (cdQ n (mvQ st n r e))) := by
          rw [M_codeOf hn (by omega) hM3.1 hRs]
          unfold cdQ mvQ
          rw [hs]
          dsimp only
          rw [if_pos (num_lt' hn hv2), cdS_congr (by omega) (fun x hx => (num_row hn hv2 hx).symm)]
        refine Ev_f (by decide) (Ev_jn0 (y = -1 ∨ (¬ y = -1 ∧ ¬ y ≤ nI (cdQ n (mvQ st n r e)))) (fun hq => Ev_bde hcode (hself _ _ _ ⟨nI_add e 1, ?_, hS123⟩)) (fun k119 h119 => Ev_i (fun e1 => h119 (Or.inl e1)) (fun e1 => Ev_bde hcode (Ev_i (fun e2 => hself _ _ _ ⟨nI_add e 1, (hL.cmp hCl e1 hz).1 e2, hS123⟩) (fun e2 => h119 (Or.inr ⟨e1, e2⟩))))))
        rcases hq with rfl | ⟨q1, q2⟩
        · exact hL.first hCl hz
        · exact (hL.cmp hCl q1 hz).2 q2
    · refine Ev_jn0 (¬ okM st n r e) (fun hq => h97 _ (Or.inl ⟨rfl, hq⟩)) (fun k96 h96 => ?_)
      rcases hd with ⟨d0, d1⟩ | ⟨d0, s, d1, d2⟩
      · refine Ev_t d0 (h96 ?_)
        rintro ⟨⟨s, hs⟩, _⟩
        rw [d1] at hs; cases hs
      · have hsm := mv_in hst hn2 he d1
        have hv2 := src_perm hsm hpp
        have hql := num_lt' hn hv2
        obtain ⟨a, ha, ea, haa⟩ := hF _ hql
        have hnear : nearN st n r (mvQ st n r e) ↔ a < b := by
          unfold mvQ
          rw [d1]
          exact near_iff haa hbb
        refine Ev_f (by rw [d0]; decide) (Ev_bde (M_numberOf hn (fun x hx => Nat.lt_of_lt_of_le (hv2.1 x hx) (by omega)) hM3.1 d2) ?_)
        rw [clN (by omega), clN (by omega), (hS123 12 (by decide)).1, eb, ea]
        refine Ev_ck rfl (by omega) (by omega) (Ev_ck rfl (by omega) (by omega) (Ev_i (fun e2 => h96 (fun z => ?_)) (fun e2 => h97 _ (Or.inr ⟨rfl, ⟨⟨s, d1⟩, hnear.mpr ?_⟩, s, d1, d2⟩))))
        · rw [nI_leI (by omega) (by omega)] at e2
          have := hnear.mp z.2
          omega
        · rw [nI_leI (by omega) (by omega)] at e2
          omega
  · rintro self y b2 h1 ⟨rfl, hL, hS⟩
    have hM1 := Sm.nM hM hS (by decide) (by decide) (by decide) (by decide)
    unfold L_X11_step_49
    exact Ev_bde (M_kinds hn hn2 hst hM1.1) (Ev_t (Int32.le_refl _) (hkq _ _ ⟨hL, hS⟩))
theorem step_same {st n r : Nat} {y z : Int32} (hst : st < 4) (hn : n ≤ 6) (hn2 : 2 ≤ n) (h1 : MinL (fun i => nearN st n r (nwC st n r i)) (fun i => cdQ n (nwC st n r i)) (stepsN st n).length y) (h2 : MinL (okM st n r) (fun e => cdQ n (mvQ st n r e)) (kdN st n) z) : y = z := by
  refine h1.uniq h2 (fun i hi hp => ?_) (fun e he hp => ?_)
  · have hsm : (stepsN st n).getD i (fun x => x) ∈ stepsN st n := by
      rw [List.getD_eq_getElem?_getD, List.getElem?_eq_getElem hi]; exact List.getElem_mem _
    obtain ⟨e, he, hm⟩ := mv_all hst hn2 hn hsm
    have hq : mvQ st n r e = nwC st n r i := by
      unfold mvQ nwC
      rw [hm, nbC_get hi]
    exact ⟨e, he, ⟨⟨_, hm⟩, by rw [hq]; exact hp⟩, by show cdQ n (mvQ st n r e) = _; rw [hq]⟩
  · obtain ⟨⟨s, hs⟩, hp⟩ := hp
    have hsm := mv_in hst hn2 he hs
    obtain ⟨i, hi, ei⟩ := List.mem_iff_getElem.mp hsm
    have hq : nwC st n r i = mvQ st n r e := by
      unfold mvQ nwC
      rw [hs, nbC_get hi, List.getD_eq_getElem?_getD, List.getElem?_eq_getElem hi]
      show num n (fun x => rowT n r ((stepsN st n)[i] x)) = _
      rw [ei]
    exact ⟨i, hi, by show nearN st n r (nwC st n r i); rw [hq]; exact hp, by show cdQ n (nwC st n r i) = _; rw [hq]⟩
theorem pc_35 {L : Nat} {xs : Nat → Int32} {i : Int32} {s : LWS} {kont : LWS → Option Unit} (hI : Inv s) (hi : OKi L i) (hk : ∀ s1, Inv s1 → kont s1 = some ()) : lc_35 L xs i s kont = some () := by
  obtain ⟨c, m, out⟩ := s
  have hI0 := hI
  obtain ⟨n, k, f, o, hG, hC, hM, hT, hB, hS, hSt, hA⟩ := hI
  have hn := hG.2.1
  have hn2 := hG.1
  have hF := fac_le n (by omega)
  generalize hx : xs (i + 1).toNatClampNeg = x
  generalize hy : xs (i + 2).toNatClampNeg = y
  have hbad : ∀ (r2 : Int32 × Hp), f_X11_rowOf m y = some r2 → (x < 0 ∨ (3 : Int32) < x) ∨ r2.1 = -1 → f_X11_step m x y = some (0, wF r2.2 0 0 1) := by
    intro r2 hr2 hc
    refine Ev_eq ?_
    unfold f_X11_step
    refine Ev_bde hr2 (Ev_bde M_in (Ev_jn1 (fun z => z = 1) (fun z hz => ?_) (fun j hj => Ev_jn0 True (fun _ => hj 1 rfl) (fun k2 hk2 => ?_))))
    · subst hz
      exact Ev_nm (Ev_f (by rw [wF_1, upd_s]; decide) (Ev_so rfl))
    · by_cases h : x < 0 ∨ (3 : Int32) < x
      · exact Ev_t (by rw [if_pos h]) (hk2 trivial)
      · exact Ev_f (by rw [if_neg h]; decide) (Ev_t (hc.resolve_left h) (hk2 trivial))
  rcases st4 (x := x) with hb | ⟨st, hst, rfl⟩
  · have h1 : f_X10_step c x y = some (.inl ("java/lang/IllegalArgumentException", c)) := by
      unfold f_X10_step
      exact bdx_l (C_stp_f hb)
    have hex : ∃ r2, f_X11_rowOf m y = some r2 ∧ Sm [5] m r2.2 := by
      rcases codes (m := m) y hn hn2 hM.1 with ⟨v, hv, _, r2, hr2, b0, _⟩ | ⟨_, r2, hr2, b0, _⟩
      · exact ⟨r2, hr2, b0⟩
      · exact ⟨r2, hr2, b0⟩
    obtain ⟨r2, hr2, b0⟩ := hex
    have h2 := hbad r2 hr2 (Or.inl hb)
    simp [lc_35, fh_step, hx, hy, h1, h2, hcatch, bd, nm, setM, setC, setO, f_X11_thrown, jn0, wF_1, upd_s, (hi _).1, (hi _).2.1]
    exact hk _ (hI0.rowed Sm.rf ⟨r2.2, b0.mono (by decide), Sm.rf⟩)
  · rcases codes (m := m) y hn hn2 hM.1 with ⟨v, hv, ⟨q, hq, hPK⟩, r2, hr2, b0, b1, b2⟩ | ⟨hq, r2, hr2, b0, b1⟩
    · have hnl := num_lt' hn hv
      obtain ⟨r1, h0, a1, a2, a3⟩ := C_step hG hst hSt hPK hv
      have h1 : f_X10_step c (nI st) y = some (.inr (r1.1, r1.2)) := by
        refine Ev_eq ?_
        unfold f_X10_step
        rw [bdx_r (C_stp_t hst), bdx_r (C_rowOf_t hC.1 (hPK.lt hn) hq)]
        dsimp only
        rw [hC.1]
        exact Ev_bde h0 (Ev_so rfl)
      have h2 : Ev (f_X11_step m (nI st) y) (fun r => MinL (okM st n (num n v)) (fun e => cdQ n (mvQ st n (num n v) e)) (kdN st n) r.1 ∧ r.2.1 0 0 = 0 ∧ Sm [0, 5, 12, 13] m r.2 ∧ ∀ j, j ∈ [1, 2, 7, 11, 14] → r.2.1 0 j = m.1 0 j) := by
        unfold f_X11_step
        refine Ev_bde hr2 (Ev_bde M_in ?_)
        rw [if_neg (fun z => not_bad (n := 4) (by omega) hst (cm_in4.mp z))]
        refine Ev_jn1 (fun z => z = 0) (fun z hz => ?_) (fun j hj => Ev_jn0 False (fun h => h.elim) (fun k2 hk2 => Ev_f (by decide) (Ev_f (by rw [b1]; exact ne_m1 (by omega)) (hj 0 rfl))))
        subst hz
        have hM2 : NetM n k f o (wF r2.2 0 0 0) := (Sm.nM hM b0 (by decide) (by decide) (by decide) (by decide)).t
        have e0 : (wF r2.2 0 0 0).1 0 0 = 0 := by rw [wF_1, upd_s]
        refine Ev_nm (Ev_t (by rw [e0]; exact Int32.le_refl _) (Ev_bd _ (M_spreads hG hM2 hst) (fun h3 ⟨p1, p2, p3⟩ => ?_)))
        have hM3 : NetM n k f o h3 := hM2.keep (p3 1 (by decide)) (p3 2 (by decide)) (p3 7 (by decide)) (p2 1 (by decide)).1 (p2 2 (by decide)).1 (p2 4 (by decide)).1
        rw [b1]
        refine M_stepL (g := h3) hG hst hM3 hnl p1 _ _ (fun w h4 hL hS4 => Ev_so ⟨hL, ?_, ?_, fun j hj => ?_⟩)
        · rw [(hS4 0 (by decide)).1, p3 0 (by decide), e0]
        · exact (((b0.mono (by decide)).sF (by decide)).tr p2).tr (hS4.mono (by decide))
        · rw [(hS4 0 (by decide)).1, p3 j (by rintro rfl; revert hj; decide), wF_j (by rintro rfl; revert hj; decide), (b0 0 (by decide)).1]
      obtain ⟨r3, h3, c1, c2, c3, c4⟩ := h2
      have e := step_same hst hn hn2 a1 c1
      simp [lc_35, fh_step, hx, hy, h1, h3, e, c2, hcatch, bd, nm, setM, setC, setO, f_X11_thrown, jn0, (hi _).1, (hi _).2.1, updL_s, lgc]
      exact hk _ (Inv.st hG hC hM hT hB hS a2 hA a3 (c3.mono (by decide)) c4)
    · have h1 : f_X10_step c (nI st) y = some (.inl ("java/lang/IllegalArgumentException", c)) := by
        unfold f_X10_step
        rw [bdx_r (C_stp_t hst)]
        exact bdx_l (C_rowOf_f hC.1 hq)
      have h2 := hbad r2 hr2 (Or.inr b1)
      simp [lc_35, fh_step, hx, hy, h1, h2, hcatch, bd, nm, setM, setC, setO, f_X11_thrown, jn0, wF_1, upd_s, (hi _).1, (hi _).2.1]
      exact hk _ (hI0.rowed Sm.rf ⟨r2.2, b0.mono (by decide), Sm.rf⟩)
