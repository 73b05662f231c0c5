/-! CASE step -/
def MinL (P : Nat → Prop) (C : Nat → Nat) (j : Nat) (y : Int32) : Prop := (y = -1 ∧ ∀ i, i < j → ¬ P i) ∨ ∃ i, i < j ∧ P i ∧ y = nI (C i) ∧ ∀ i', i' < j → P i' → C i ≤ C i'
theorem MinL.z {P : Nat → Prop} {C : Nat → Nat} : MinL P C 0 (-1) := Or.inl ⟨rfl, fun i hi => absurd hi (by omega)⟩
theorem MinL.skip {P : Nat → Prop} {C : Nat → Nat} {j : Nat} {y : Int32} (h : MinL P C j y) (hn : ¬ P j) : MinL P C (j + 1) y := by
  rcases h with ⟨h1, h2⟩ | ⟨i, h1, h2, h3, h4⟩
  · exact Or.inl ⟨h1, fun i hi => by
      by_cases e : i = j
      · rw [e]; exact hn
      · exact h2 i (by omega)⟩
  · exact Or.inr ⟨i, by omega, h2, h3, fun i' hi' hp => by
      by_cases e : i' = j
      · rw [e] at hp; exact absurd hp hn
      · exact h4 i' (by omega) hp⟩
theorem MinL.first {P : Nat → Prop} {C : Nat → Nat} {j : Nat} (hC : ∀ i, C i < 2 ^ 31) (h : MinL P C j (-1)) (hp : P j) : MinL P C (j + 1) (nI (C j)) := by
  rcases h with ⟨_, h2⟩ | ⟨i, h1, h2, h3, h4⟩
  · exact Or.inr ⟨j, by omega, hp, rfl, fun i' hi' hp' => by
      by_cases e : i' = j
      · rw [e]; exact Nat.le_refl _
      · exact absurd hp' (h2 i' (by omega))⟩
  · exact absurd h3.symm (ne_m1 (hC i))
theorem MinL.cmp {P : Nat → Prop} {C : Nat → Nat} {j : Nat} {y : Int32} (hC : ∀ i, C i < 2 ^ 31) (h : MinL P C j y) (hy : ¬ y = -1) (hp : P j) : (y ≤ nI (C j) → MinL P C (j + 1) y) ∧ (¬ y ≤ nI (C j) → MinL P C (j + 1) (nI (C j))) := by
  rcases h with ⟨h1, h2⟩ | ⟨i, h1, h2, h3, h4⟩
  · exact absurd h1 hy
  · subst h3
    have hi := hC i
    have hj := hC j
    rw [nI_leI hi hj]
    constructor
    · intro hle
      exact Or.inr ⟨i, by omega, h2, rfl, fun i' hi' hp' => by
        by_cases e : i' = j
        · rw [e]; exact hle
        · exact h4 i' (by omega) hp'⟩
    · intro hle
      exact Or.inr ⟨j, by omega, hp, rfl, fun i' hi' hp' => by
        by_cases e : i' = j
        · rw [e]; exact Nat.le_refl _
        · have := h4 i' (by omega) hp'
          omega⟩
theorem MinL.uniq {P P2 : Nat → Prop} {C C2 : Nat → Nat} {j j2 : Nat} {y z : Int32} (h : MinL P C j y) (h2 : MinL P2 C2 j2 z) (a : ∀ i, i < j → P i → ∃ i', i' < j2 ∧ P2 i' ∧ C2 i' = C i) (b : ∀ i, i < j2 → P2 i → ∃ i', i' < j ∧ P i' ∧ C i' = C2 i) : y = z := by
  rcases h with ⟨rfl, h1⟩ | ⟨i, h1, hp, rfl, hm⟩
  · rcases h2 with ⟨rfl, _⟩ | ⟨i, g1, gp, rfl, gm⟩
    · rfl
    · obtain ⟨i', hi', hp', _⟩ := b i g1 gp
      exact absurd hp' (h1 i' hi')
  · obtain ⟨u, hu, pu, cu⟩ := a i h1 hp
    rcases h2 with ⟨rfl, g1⟩ | ⟨i2, g1, gp, rfl, gm⟩
    · exact absurd pu (g1 u hu)
    · obtain ⟨w, hw, pw, cw⟩ := b i2 g1 gp
      have x1 := gm u hu pu
      have x2 := hm w hw pw
      have : C i = C2 i2 := by omega
      rw [this]
theorem cd_lt {n : Nat} {v : Nat → Nat} (hv : ∀ x, x < n → v x < 10) : ∀ j, j ≤ n → cdS n v j < 10 ^ j
  | 0, _ => by show 0 < 10 ^ 0; omega
  | j + 1, hj => by
    have ih := cd_lt hv j (by omega)
    have h2 := hv (n - 1 - j) (by omega)
    show 10 * cdS n v j + v (n - 1 - j) < 10 ^ (j + 1)
    rw [Nat.pow_succ]
    omega
theorem cd_small {n r : Nat} (hn : n ≤ 6) (hr : r < facN n) : cdS n (rowT n r) n < 2 ^ 31 := by
  have hp := row_perm hn hr
  have h1 := cd_lt (n := n) (v := rowT n r) (fun x hx => by have := hp.1 x hx; omega) n (Nat.le_refl n)
  have h2 : 10 ^ n ≤ 10 ^ 6 := Nat.pow_le_pow_right (by omega) hn
  omega
/-- the code of a number's row, small in any case -/
def cdQ (n q : Nat) : Nat := if q < facN n then cdS n (rowT n q) n else 0
theorem cdQ_lt {n q : Nat} (hn : n ≤ 6) : cdQ n q < 2 ^ 31 := by
  unfold cdQ
  split
  · rename_i h; exact cd_small hn h
  · omega
def nearN (st n r q : Nat) : Prop := ∃ d, stF st n d q ∧ ¬ stF st n d r
theorem near_iff {st n r q a b : Nat} (h1 : ∀ e, stF st n e q ↔ a ≤ e) (h2 : ∀ e, stF st n e r ↔ b ≤ e) : nearN st n r q ↔ a < b := by
  constructor
  · rintro ⟨d, p1, p2⟩
    rw [h1] at p1
    rw [h2] at p2
    omega
  · intro h
    exact ⟨a, (h1 a).mpr (Nat.le_refl _), fun z => by rw [h2] at z; omega⟩
def nwC (st n r : Nat) (i : Nat) : Nat := (nbC st n r).getD i 0
theorem C_step {n k st q : Nat} {f o v : Nat → Nat} {c : Hp} (hG : Good n k f o) (hst : st < 4) (hS : StR c) (hP : PK n v q) (hv : PermN n v) : Ev (f_X6_codeNearer_28 c (nI st) (nI q) (nI n)) (fun r => MinL (fun i => nearN st n (num n v) (nwC st n (num n v) i)) (fun i => cdQ n (nwC st n (num n v) i)) (stepsN st n).length r.1 ∧ StR r.2 ∧ Sm [28, 29, 30, 31] c r.2) := by
  have hn := hG.2.1
  have hn2 := hG.1
  have hnl := num_lt' hn hv
  have hlen := steps_len st hst n (by omega)
  unfold f_X6_codeNearer_28
  refine Ev_bd _ (C_learnS hG hst hS) (fun h ⟨a1, a2, a3⟩ => ?_)
  refine Ev_bd _ (C_listSteps (h := h) hn hn2 hst) (fun h1 ⟨l1, l2, l3⟩ => ?_)
  have hSt1 : StR h1 := (StR.learnt hn hn2 hS a1 a3).keep (l3 29 (by decide)).1
  have hk1 : KnC st n h1 := fun r hr => by rw [(l3 29 (by decide)).1]; exact a1 r hr
  have hSm : Sm [28, 29, 30, 31] c h1 := a2.tr (l3.mono (by decide))
  have hplt := pl_lt hst hn hnl
  refine Ev_bde (C_place hst hn hn2 hP hv) (Ev_ck rfl hplt (by omega) ?_)
  obtain ⟨b, hb, eb, hbb⟩ := hk1 _ hnl
  rw [clN (by omega), eb]
  refine Ev_jn1 (fun y => MinL (fun i => nearN st n (num n v) (nwC st n (num n v) i)) (fun i => cdQ n (nwC st n (num n v) i)) (stepsN st n).length y) (fun y hy => Ev_so ⟨hy, hSt1, hSm⟩) (fun kk hk => ?_)
  refine Ev_fx2 (fun j a1 a2 => a2 = nI j ∧ MinL (fun i => nearN st n (num n v) (nwC st n (num n v) i)) (fun i => cdQ n (nwC st n (num n v) i)) j a1) (stepsN st n).length ?_ ?_ (FU_lt (by omega)) ⟨rfl, MinL.z⟩
  · rintro self j y b2 hj ⟨rfl, hM⟩ hself
    obtain ⟨s, hs31, hPs⟩ := l2 j hj
    have hsm : (stepsN st n).getD j (fun x => x) ∈ stepsN st n := by
      rw [List.getD_eq_getElem?_getD, List.getElem?_eq_getElem hj]; exact List.getElem_mem _
    have hnx := nbC_get (p := num n v) hj
    generalize hse : (stepsN st n).getD j (fun x => x) = src at hsm hPs hnx
    have hsl : ∀ x, x < n → src x < n := fun x hx => src_lt hsm x hx
    have hv1 := src_perm hsm (row_perm hn hnl)
    have hv2 := src_perm hsm hv
    have hcg : ∀ x, x < n → (fun x => rowT n (num n v) (src x)) x = (fun x => v (src x)) x := fun x hx => num_row hn hv (hsl x hx)
    rw [num_congr hcg] at hnx
    have hql := num_lt' hn hv2
    unfold L_X6_codeNearer_28_31
    rw [l1, clN (by omega), hs31]
    refine Ev_f (nle_n hj (by omega)) (Ev_ck rfl (by omega) (by omega) (Ev_bd _ (C_rearr hn hP hPs (fun x hx => by have := hv.1 x hx; omega) hsl) (fun w ⟨p2, ew, hp2⟩ => ?_)))
    subst ew
    refine Ev_bde (C_toCode hn hp2 (fun x hx => Nat.lt_of_lt_of_le (hv2.1 x hx) (by omega)) (by omega)) (Ev_bde (C_place hst hn hn2 hp2 hv2) (Ev_ck rfl (pl_lt hst hn hql) (by omega) ?_))
    obtain ⟨a, ha, ea, haa⟩ := hk1 _ hql
    have hpl2 := pl_lt hst hn hql
    rw [clN (by omega), ea]
    have hCd : nI (cdS n (fun x => v (src x)) n) = nI (cdQ n (nwC st n (num n v) j)) := by
      unfold nwC cdQ
      rw [hnx, if_pos hql, cdS_congr (by omega) (fun x hx => (num_row hn hv2 hx).symm)]
    have hnear : nearN st n (num n v) (nwC st n (num n v) j) ↔ a < b := by
      unfold nwC
      rw [hnx]
      exact near_iff haa hbb
    have hCl : ∀ i, (fun i => cdQ n (nwC st n (num n v) i)) i < 2 ^ 31 := fun i => cdQ_lt hn
    rw [hCd]
    refine Ev_jn1 (fun z => (z = 0 ∧ ¬ a < b) ∨ (z = 1 ∧ a < b)) (fun z hz => ?_) (fun k84 h84 => ?_)
    · rcases hz with ⟨rfl, hz⟩ | ⟨rfl, hz⟩
      · exact Ev_t rfl (hself _ _ ⟨nI_add j 1, hM.skip (fun z => hz (hnear.mp z))⟩)
      · refine Ev_f (by decide) (Ev_i (fun e => ?_) (fun e => Ev_i (fun e2 => ?_) (fun e2 => ?_)))
        · subst e
          exact hself _ _ ⟨nI_add j 1, hM.first hCl (hnear.mpr hz)⟩
        · exact hself _ _ ⟨nI_add j 1, (hM.cmp hCl e (hnear.mpr hz)).1 e2⟩
        · exact hself _ _ ⟨nI_add j 1, (hM.cmp hCl e (hnear.mpr hz)).2 e2⟩
    · refine Ev_i (fun e => h84 _ (Or.inl ⟨rfl, ?_⟩)) (fun e => h84 _ (Or.inr ⟨rfl, ?_⟩))
      · rw [nI_leI (by omega) (by omega)] at e; omega
      · rw [nI_leI (by omega) (by omega)] at e; omega
  · rintro self y b2 ⟨rfl, hM⟩
    unfold L_X6_codeNearer_28_31
    rw [l1]
    exact Ev_t (Int32.le_refl _) (hk _ hM)
def okM (st n r : Nat) (e : Nat) : Prop := (∃ s, mvN st n e = some s) ∧ nearN st n r (mvQ st n r e)
theorem step_same {st n r : Nat} {y z : Int32} (hst : st < 4) (hn : n ≤ 6) (hn2 : 2 ≤ n) (h1 : MinL (fun i => nearN st n r (nwC st n r i)) (fun i => cdQ n (nwC st n r i)) (stepsN st n).length y) (h2 : MinL (okM st n r) (fun e => cdQ n (mvQ st n r e)) (kdN st n) z) : y = z := by
  refine h1.uniq h2 (fun i hi hp => ?_) (fun e he hp => ?_)
  · have hsm : (stepsN st n).getD i (fun x => x) ∈ stepsN st n := by
      rw [List.getD_eq_getElem?_getD, List.getElem?_eq_getElem hi]; exact List.getElem_mem _
    obtain ⟨e, he, hm⟩ := mv_all hst hn2 hn hsm
    have hq : mvQ st n r e = nwC st n r i := by
      unfold mvQ nwC
      rw [hm, nbC_get hi]
    exact ⟨e, he, ⟨⟨_, hm⟩, by rw [hq]; exact hp⟩, by show cdQ n (mvQ st n r e) = _; rw [hq]⟩
  · obtain ⟨⟨s, hs⟩, hp⟩ := hp
    have hsm := mv_in hst hn2 he hs
    obtain ⟨i, hi, ei⟩ := List.mem_iff_getElem.mp hsm
    have hq : nwC st n r i = mvQ st n r e := by
      unfold mvQ nwC
      rw [hs, nbC_get hi, List.getD_eq_getElem?_getD, List.getElem?_eq_getElem hi]
      show num n (fun x => rowT n r ((stepsN st n)[i] x)) = _
      rw [ei]
    exact ⟨i, hi, by show nearN st n r (nwC st n r i); rw [hq]; exact hp, by show cdQ n (nwC st n r i) = _; rw [hq]⟩
