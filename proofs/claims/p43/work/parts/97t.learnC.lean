def blJ (n a i : Nat) : List (Nat → Nat) := (List.range (n - 1 - a - i)).map (fun j => blkS a (a + 1 + i) (a + 1 + i + 1 + j))
def blI (n a : Nat) : List (Nat → Nat) := (List.range (n - 1 - a)).flatMap (blJ n a)
theorem blkL_eq (n : Nat) : blkL n = (List.range n).flatMap (blI n) := rfl
theorem fm_s {α : Type} (f : Nat → List α) (a : Nat) : (List.range (a + 1)).flatMap f = (List.range a).flatMap f ++ f a := by
  rw [List.range_succ, List.flatMap_append]
  simp
theorem fm_le {α : Type} (f : Nat → List α) {a n : Nat} (h : a ≤ n) : ((List.range a).flatMap f).length ≤ ((List.range n).flatMap f).length := by
  have := pre_len f (List.range a) ((List.range n).drop a)
  rwa [← range_split h] at this
theorem blk_len : ∀ n, n < 7 → (blkL n).length ≤ 35 := by decide
theorem C_blocksL {n : Nat} {c h : Hp} (hn : n ≤ 6) (hI : LsI n [] c h) : Ev (f_X6_listBlocks_28 h (nI n)) (fun h1 => LsI n (blkL n) c h1) := by
  have hlen := blk_len n (by omega)
  unfold f_X6_listBlocks_28
  refine Ev_jn1 (fun h1 => LsI n (blkL n) c h1) (fun h1 hh => Ev_so hh) (fun kk hk => ?_)
  rw [blkL_eq] at hlen hk ⊢
  refine Ev_fx2 (fun a a1 h1 => a1 = nI a ∧ LsI n ((List.range a).flatMap (blI n)) c h1) n ?_ ?_ (FU_lt (by omega)) ⟨rfl, hI⟩
  · rintro self a a1 h1 ha ⟨rfl, hI⟩ hself
    have hl1 := Nat.le_trans (fm_le (blI n) (show a + 1 ≤ n by omega)) hlen
    rw [fm_s, List.length_append] at hl1
    rw [fm_s] at hself
    generalize (List.range a).flatMap (blI n) = S at hI hself hl1
    unfold L_X6_listBlocks_28_2
    rw [n1, nI_add]
    refine Ev_f (nle_n ha (by omega)) (Ev_nm (Ev_jn1 (fun h1 => LsI n (S ++ blI n a) c h1) (fun h2 hh => hself _ _ ⟨rfl, hh⟩) (fun kq hkq => ?_)))
    have hbl : blI n a = (List.range (n - 1 - a)).flatMap (blJ n a) := rfl
    rw [hbl] at hkq hl1
    refine Ev_fx2 (fun i a1 h1 => a1 = nI (a + 1 + i) ∧ LsI n (S ++ (List.range i).flatMap (blJ n a)) c h1) (n - 1 - a) ?_ ?_ (FU_lt (by omega)) ⟨rfl, by simpa using hI⟩
    · rintro self2 i b1 h2 hi ⟨rfl, hI2⟩ hself2
      have hl2 := fm_le (blJ n a) (show i + 1 ≤ n - 1 - a by omega)
      rw [fm_s, List.length_append] at hl2
      rw [fm_s, ← List.append_assoc] at hself2
      unfold L_X6_listBlocks_28_11
      rw [n1, nI_add]
      refine Ev_f (nle_n (by omega) (by omega)) (Ev_nm (Ev_jn1 (fun h1 => LsI n (S ++ (List.range i).flatMap (blJ n a) ++ blJ n a i) c h1) (fun h3 hh => hself2 _ _ ⟨rfl, hh⟩) (fun kr hkr => ?_)))
      have hl3 : (S ++ (List.range i).flatMap (blJ n a)).length + (blJ n a i).length ≤ 35 := by rw [List.length_append]; omega
      generalize S ++ (List.range i).flatMap (blJ n a) = S2 at hI2 hkr hl3
      have hbj : blJ n a i = (List.range (n - 1 - a - i)).map (fun j => blkS a (a + 1 + i) (a + 1 + i + 1 + j)) := rfl
      rw [hbj] at hkr hl3
      rw [List.length_map, List.length_range] at hl3
      refine Ev_fx2 (fun j a1 h1 => a1 = nI (a + 1 + i + 1 + j) ∧ LsI n (S2 ++ (List.range j).map (fun j => blkS a (a + 1 + i) (a + 1 + i + 1 + j))) c h1) (n - 1 - a - i) ?_ ?_ (FU_lt (by omega)) ⟨rfl, by simpa using hI2⟩
      · rintro self3 j d1 h3 hj ⟨rfl, hI3⟩ hself3
        unfold L_X6_listBlocks_28_21
        refine Ev_f (by rw [nI_ltI (by omega) (by omega)]; omega) (Ev_bd _ (C_blk hn (show a < a + 1 + i by omega) (show a + 1 + i < a + 1 + i + 1 + j by omega) (by omega)) (fun y ⟨q, ey, hq⟩ => ?_))
        subst ey
        refine Ev_bd _ (C_app28 hI3 hq (by rw [List.length_append, List.length_map, List.length_range]; omega)) (fun h4 hI4 => hself3 _ _ ⟨nI_add _ 1, ?_⟩)
        rw [List.range_succ, List.map_append, ← List.append_assoc]
        exact hI4
      · rintro self3 d1 h3 ⟨rfl, hI3⟩
        unfold L_X6_listBlocks_28_21
        exact Ev_t (nI_lt (by omega) (by omega)) (hkr _ hI3)
    · rintro self2 b1 h2 ⟨rfl, hI2⟩
      unfold L_X6_listBlocks_28_11
      exact Ev_t (le_n (by omega) (by omega)) (hkq _ hI2)
  · rintro self a1 h1 ⟨rfl, hI⟩
    unfold L_X6_listBlocks_28_2
    exact Ev_t (Int32.le_refl _) (hk _ hI)
theorem C_listSteps {n st : Nat} {h : Hp} (hn : n ≤ 6) (hn2 : 2 ≤ n) (hst : st < 4) : Ev (f_X6_listSteps_28 h (nI st) (nI n)) (fun h1 => LsI n (stepsN st n) h h1) := by
  have hlen := steps_len st hst n (by omega)
  unfold f_X6_listSteps_28
  have e0 : (nI st = 0) = (st = 0) := nI_iff (b := 0) (by omega) (by omega)
  have e1 : (nI st = 1) = (st = 1) := nI_iff (b := 1) (by omega) (by omega)
  have e2 : (nI st = 2) = (st = 2) := nI_iff (b := 2) (by omega) (by omega)
  simp only [e0, e1, e2]
  have hI0 : LsI n [] h (wF h 28 3 0) := ⟨by rw [wF_1, upd_s]; rfl, fun i hi => absurd hi (by simp), Sm.rf.sF (by decide)⟩
  refine Ev_nm ?_
  generalize wF h 28 3 0 = g at hI0
  unfold stepsN at hlen ⊢
  refine Ev_i (fun q => ?_) (fun q0 => Ev_i (fun q => ?_) (fun q1 => Ev_i (fun q => ?_) (fun q2 => ?_)))
  · rw [if_pos q] at hlen ⊢
    exact Ev_bd _ (C_changes (w := 1) hn (by omega) (by omega) hlen hI0) (fun h1 hh => Ev_so hh)
  · rw [if_neg q0, if_pos q] at hlen ⊢
    rw [n1, nsub (by omega)]
    exact Ev_bd _ (C_changes (w := n - 1) hn (by omega) (by omega) hlen hI0) (fun h1 hh => Ev_so hh)
  · rw [if_neg q0, if_neg q1, if_pos q]
    exact Ev_bd _ (C_flipsL hn hn2 hI0) (fun h1 hh => Ev_so hh)
  · rw [if_neg q0, if_neg q1, if_neg q2]
    exact Ev_bd _ (C_blocksL hn hI0) (fun h1 hh => Ev_so hh)
theorem fBEG_n : ∀ n, n < 7 → fBEG n = nI (begN n) ∨ n < 2 := by decide
theorem beg_lt : ∀ n, n < 7 → begN n + facN n ≤ 872 := by decide
/-- the place of a row's number -/
def plN (st n r : Nat) : Nat := st * 872 + begN n + rankN (rowT n r) n
theorem pl_lt {st n r : Nat} (hst : st < 4) (hn : n ≤ 6) (hr : r < facN n) : plN st n r < 3488 := by
  have h1 := beg_lt n (by omega)
  have h2 := rank_lt hn (row_perm hn hr)
  unfold plN
  have : st * 872 ≤ 3 * 872 := Nat.mul_le_mul_right _ (by omega)
  omega
theorem pl_inj {st n r q : Nat} (hn : n ≤ 6) (hr : r < facN n) (hq : q < facN n) (h : plN st n r = plN st n q) : r = q := by
  unfold plN at h
  have h1 := rank_inj hn (row_perm hn hr) (row_perm hn hq) (by omega)
  have h2 := num_congr h1
  rw [row_num hn hr, row_num hn hq] at h2
  exact h2
theorem C_place {st n q : Nat} {v : Nat → Nat} (hst : st < 4) (hn : n ≤ 6) (hn2 : 2 ≤ n) (hP : PK n v q) (hv : PermN n v) : f_X6_placeOf (nI st) (nI q) (nI n) = some (nI (plN st n (num n v))) := by
  refine Ev_eq ?_
  unfold f_X6_placeOf
  refine Ev_ck rfl (by omega) (by omega) (Ev_bde (C_rank hn hP hv) (Ev_so ?_))
  have hb := (fBEG_n n (by omega)).resolve_right (by omega)
  have hrk : rankN v n = rankN (rowT n (num n v)) n := rankN_congr (fun x hx => (num_row hn hv hx).symm)
  rw [clN (by omega), hb, show (872 : Int32) = nI 872 from rfl, nmul, nI_add, nI_add, hrk]
  rfl
/-- what the class knows of one kind of steps -/
def KnC (st n : Nat) (h : Hp) : Prop := ∀ r, r < facN n → ∃ d, d < 100 ∧ h.1 29 (plN st n r) = nI (d + 1) ∧ ∀ e, stF st n e r ↔ d ≤ e
def SpC (st n : Nat) (qs : List Nat) (D : Nat → Nat) (g h : Hp) : Prop := (∀ i, i < qs.length → ∃ q, h.1 30 i = nI q ∧ PK n (rowT n (qs.getD i 0)) q) ∧ (∀ r, r < facN n → (r ∈ qs → h.1 29 (plN st n r) = nI (D r + 1)) ∧ (r ∉ qs → h.1 29 (plN st n r) = 0)) ∧ (∀ y, (y < st * 872 + begN n ∨ st * 872 + begN n + facN n ≤ y) → h.1 29 y = g.1 29 y) ∧ Sm [29, 30] g h
theorem nbC_len {st n p : Nat} : (nbC st n p).length = (stepsN st n).length := by unfold nbC; simp
theorem nbC_get {st n p i : Nat} (hi : i < (stepsN st n).length) : (nbC st n p).getD i 0 = num n (fun x => rowT n p ((stepsN st n).getD i (fun x => x) x)) := by
  unfold nbC
  rw [List.getD_eq_getElem?_getD, List.getElem?_map, List.getElem?_eq_getElem hi, List.getD_eq_getElem?_getD, List.getElem?_eq_getElem hi]
  rfl
theorem pl_range {st n r : Nat} (hn : n ≤ 6) (hr : r < facN n) : st * 872 + begN n ≤ plN st n r ∧ plN st n r < st * 872 + begN n + facN n := by
  have h2 := rank_lt hn (row_perm hn hr)
  unfold plN
  omega
theorem SpC.new {st n q w : Nat} {qs : List Nat} {D : Nat → Nat} {g h : Hp} (hn : n ≤ 6) (hst : st < 4) (hI : SpC st n qs D g h) (hq : q < facN n) (hno : q ∉ qs) {p : Nat} (hp : PK n (rowT n q) p) (hd : w ≤ 45) (hl : qs.length < 720) : SpC st n (qs ++ [q]) (updN D q w) g (wI (wB h 29 (nI (plN st n q)) (i2b (nI (w + 1)))) 30 (nI qs.length) (nI p)) := by
  obtain ⟨i1, i2, i3, i4⟩ := hI
  have hpl := pl_lt hst hn hq
  have hpr := pl_range (st := st) hn hq
  refine ⟨fun i hi => ?_, fun r hr => ?_, fun y hy => ?_, (i4.sB (by decide)).sI (by decide)⟩
  · rw [wI_1, clN (by omega)]
    by_cases e : i = qs.length
    · exact ⟨p, by rw [e, upd_s], by rw [e, get_last]; exact hp⟩
    · rw [List.length_append, show [q].length = 1 from rfl] at hi
      obtain ⟨p2, h1, h2⟩ := i1 i (by omega)
      refine ⟨p2, ?_, by rw [get_app (by omega)]; exact h2⟩
      rw [upd_n _ _ e, wB_n _ _ _ _ _ (by decide)]; exact h1
  · rw [wI_n _ _ _ _ _ (by decide), wB_1, clN (by omega), i2b_n _ (by omega)]
    unfold updN
    by_cases e : r = q
    · rw [e, upd_s, if_pos rfl]
      exact ⟨fun _ => rfl, fun z => absurd (by simp) z⟩
    · rw [upd_n _ _ (fun z => e (pl_inj hn hr hq z)), if_neg e]
      obtain ⟨t1, t2⟩ := i2 r hr
      refine ⟨fun z => t1 ?_, fun z => t2 (fun z2 => z (List.mem_append_left _ z2))⟩
      rcases List.mem_append.mp z with h | h
      · exact h
      · exact absurd (List.mem_singleton.mp h) e
  · rw [wI_n _ _ _ _ _ (by decide), wB_1, clN (by omega), upd_n _ _ (by omega)]
    exact i3 y hy
theorem C_learnS {n k st : Nat} {f o : Nat → Nat} {c : Hp} (hG : Good n k f o) (hst : st < 4) (hS : StR c) : Ev (f_X6_learn_28 c (nI st) (nI n)) (fun h => KnC st n h ∧ Sm [28, 29, 30, 31] c h ∧ ∀ y, (y < st * 872 + begN n ∨ st * 872 + begN n + facN n ≤ y) → h.1 29 y = c.1 29 y) := by
  have hn := hG.2.1
  have hn2 := hG.1
  have hF := fac_le n (by omega)
  have hF0 := fac_pos n
  have hNb := nbC_ok (st := st) hn
  have hlen := steps_len st hst n (by omega)
  have hp0 := pl_lt hst hn hF0
  unfold f_X6_learn_28
  refine Ev_bd _ (C_inOrder hn) (fun y ⟨q0, ey, hq0⟩ => ?_)
  subst ey
  have hpl0 := C_place (st := st) hst hn hn2 hq0 id_perm
  rw [num_id hn] at hpl0
  refine Ev_bde hpl0 (Ev_ck rfl (by omega) (by omega) ?_)
  rw [clN (by omega)]
  rcases hS st n hst hn2 hn with hz | hkn
  · have hz0 : c.1 29 (plN st n 0) = 0 := hz _ (rank_lt hn (row_perm hn hF0))
    refine Ev_t hz0 (Ev_bd _ (C_listSteps hn hn2 hst) (fun h1 ⟨l1, l2, l3⟩ => Ev_bde hpl0 (Ev_ck rfl (by omega) (by omega) (Ev_nm (Ev_ck (j := 0) rfl (by omega) (by omega) (Ev_nm ?_))))))
    have hI0 : SpC st n [0] (fun _ => 0) h1 (wI (wB h1 29 (nI (plN st n 0)) 1) 30 0 (nI q0)) := by
      refine ⟨fun i hi => ?_, fun r hr => ?_, fun y hy => ?_, (Sm.rf.sB (by decide)).sI (by decide)⟩
      · have : i = 0 := by simp at hi; exact hi
        subst this
        rw [wI_1, cl0, upd_s]
        exact ⟨q0, rfl, hq0.congr (fun x hx => (row_0 n (by omega) x hx).symm)⟩
      · have hb1 : vp_nar .byte 1 = 1 := i2b_n 1 (by omega)
        rw [wI_n _ _ _ _ _ (by decide), wB_1, clN (by omega), hb1]
        by_cases e : r = 0
        · rw [e, upd_s]
          exact ⟨fun _ => rfl, fun z => absurd (by simp) z⟩
        · rw [upd_n _ _ (fun z => e (pl_inj hn hr hF0 z)), (l3 29 (by decide)).1]
          exact ⟨fun z => absurd (List.mem_singleton.mp z) e, fun _ => hz _ (rank_lt hn (row_perm hn hr))⟩
      · have hpr := pl_range (st := st) hn hF0
        rw [wI_n _ _ _ _ _ (by decide), wB_1, clN (by omega), upd_n _ _ (by omega)]
    generalize wI (wB h1 29 (nI (plN st n 0)) 1) 30 0 (nI q0) = g1 at hI0
    have hfin : ∀ (qs : List Nat) (D : Nat → Nat) (a j : Nat) (h : Hp), BfI st n (nbC st n) qs D a j → SpC st n qs D h1 h → (∀ r, r < facN n → r ∈ qs) → KnC st n h ∧ Sm [28, 29, 30, 31] c h ∧ ∀ y, (y < st * 872 + begN n ∨ st * 872 + begN n + facN n ≤ y) → h.1 29 y = c.1 29 y := by
      intro qs D a j h hB ⟨i1, i2, i3, i4⟩ hall
      refine ⟨fun r hr => ?_, (l3.mono (by decide)).tr (i4.mono (by decide)), fun y hy => by rw [i3 y hy, (l3 29 (by decide)).1]⟩
      have hm := hall r hr
      have := hB.d45 hst hn hm
      exact ⟨D r, by omega, (i2 r hr).1 hm, hB.ex r hm⟩
    refine Ev_jn1 (fun h => KnC st n h ∧ Sm [28, 29, 30, 31] c h ∧ ∀ y, (y < st * 872 + begN n ∨ st * 872 + begN n + facN n ≤ y) → h.1 29 y = c.1 29 y) (fun h hh => Ev_so hh) (fun kk hk => ?_)
    refine Ev_fx3 (fun a a1 a2 h => a2 = nI a ∧ ∃ qs D, a1 = nI qs.length ∧ BfI st n (nbC st n) qs D a 0 ∧ SpC st n qs D h1 h) (facN n) ?_ ?_ (FU_lt (by omega)) ⟨rfl, [0], fun _ => 0, rfl, BfI.start, hI0⟩
    · rintro self a a1 a2 h ha ⟨rfl, qs, D, rfl, hB, hS⟩ hself
      have hal := hB.more hNb hst hn ha
      have hl := hB.len
      unfold L_X6_learn_28_51
      refine Ev_f (nle_n hal (by omega)) (Ev_bd (fun y => y = nI (facN n)) ?_ (fun y hy => ?_))
      · unfold f_X5_howMany
        rw [clN (by omega), fFAC_n n (by omega)]
        exact Ev_ck rfl (by omega) (by omega) (Ev_so rfl)
      · subst hy
        refine Ev_i (fun e => hk _ (hfin qs D a 0 h hB hS (nd_full hB.nd hB.lt ?_))) (fun e => Ev_ck rfl (by omega) (by omega) ?_)
        · rw [nI_leI (by omega) (by omega)] at e; exact e
        · obtain ⟨q, hq, hPq⟩ := hS.1 a hal
          have hp := hB.lt _ (get_mem hal)
          have hpp := row_perm hn hp
          have hpla := C_place (st := st) hst hn hn2 hPq hpp
          rw [row_num hn hp] at hpla
          have hplt := pl_lt hst hn hp
          have hd45 := hB.d45 hst hn (get_mem hal)
          rw [clN (by omega), hq]
          refine Ev_bde hpla (Ev_ck rfl (by omega) (by omega) ?_)
          rw [clN (by omega), (hS.2.1 _ hp).1 (get_mem hal)]
          refine Ev_jn2 (fun a1 h => ∃ qs D, a1 = nI qs.length ∧ BfI st n (nbC st n) qs D (a + 1) 0 ∧ SpC st n qs D h1 h) (fun b1 h2 hh => hself _ _ _ ⟨nI_add a 1, hh⟩) (fun kq hkq => ?_)
          generalize hdd : D (qs.getD a 0) = dd at hd45
          refine Ev_fx3 (fun j a1 a2 h => a2 = nI j ∧ ∃ qs D, a1 = nI qs.length ∧ a < qs.length ∧ D (qs.getD a 0) = dd ∧ BfI st n (nbC st n) qs D a j ∧ SpC st n qs D h1 h) (stepsN st n).length ?_ ?_ (FU_lt (by omega)) ⟨rfl, qs, D, rfl, hal, hdd, hB, hS⟩
          · clear hself hB hS hal hl hdd hp hpp hpla hplt hPq hq
            rintro self2 j b1 b2 h2 hj ⟨rfl, qs, D, rfl, hal, hdd, hB, hS⟩ hself2
            have hl := hB.len
            have hp := hB.lt _ (get_mem hal)
            have hpp := row_perm hn hp
            obtain ⟨q, hq, hPq⟩ := hS.1 a hal
            obtain ⟨s, hs31, hPs⟩ := l2 j hj
            have hsm : (stepsN st n).getD j (fun x => x) ∈ stepsN st n := by
              rw [List.getD_eq_getElem?_getD, List.getElem?_eq_getElem hj]; exact List.getElem_mem _
            have hnx := nbC_get (p := qs.getD a 0) hj
            generalize hse : (stepsN st n).getD j (fun x => x) = src at hsm hPs hnx
            have hv := src_perm hsm hpp
            have hnl := num_lt' hn hv
            have hnpl := pl_lt hst hn hnl
            unfold L_X6_learn_28_89
            rw [(hS.2.2.2 28 (by decide)).1, l1, (hS.2.2.2 31 (by decide)).1, clN (by omega), clN (by omega), hq, hs31]
            refine Ev_f (nle_n hj (by omega)) (Ev_ck rfl (by omega) (by omega) (Ev_ck rfl (by omega) (by omega) (Ev_bd _ (C_rearr hn hPq hPs (fun x hx => by have := hpp.1 x hx; omega) (fun x hx => src_lt hsm x hx)) (fun y ⟨p2, ey, hp2⟩ => ?_))))
            subst ey
            refine Ev_bde (C_place hst hn hn2 hp2 hv) (Ev_ck rfl (by omega) (by omega) ?_)
            rw [clN (by omega)]
            obtain ⟨t1, t2⟩ := hS.2.1 _ hnl
            by_cases hmem : num n (fun x => rowT n (qs.getD a 0) (src x)) ∈ qs
            · have hd := hB.d45 hst hn hmem
              refine Ev_f (by rw [t1 hmem]; exact nI_ne0 (by omega) (by omega)) (hself2 _ _ _ ⟨nI_add j 1, qs, D, rfl, hal, hdd, hB.old (by rw [hnx]; exact hmem), hS⟩)
            · have hB2 := hB.new hNb hal (by rw [nbC_len]; exact hj) hnx hmem
              have hl2 := hB2.len
              have hd2 := hB2.d45 hst hn (r := num n (fun x => rowT n (qs.getD a 0) (src x))) (by simp)
              rw [hdd] at hB2 hd2
              have hd3 : dd + 1 ≤ 45 := by
                unfold updN at hd2
                rw [if_pos rfl] at hd2
                exact hd2
              rw [List.length_append, show [num n (fun x => rowT n (qs.getD a 0) (src x))].length = 1 from rfl] at hl2
              have hS2 := hS.new hn hst hnl hmem (w := dd + 1) (hp2.congr (fun x hx => (num_row hn hv hx).symm)) hd3 (by omega)
              refine Ev_t (t2 hmem) (Ev_f (by rw [show (720 : Int32) = nI 720 from rfl]; exact nle_n (by omega) (by omega)) (Ev_ck rfl (by omega) (by omega) (Ev_nm (Ev_ck rfl (by omega) (by omega) (Ev_nm ?_)))))
              rw [n1, nI_add, nI_add, nI_add]
              refine hself2 _ _ _ ⟨rfl, _, _, by rw [List.length_append]; rfl, by rw [List.length_append]; omega, ?_, hB2, hS2⟩
              rw [get_app hal]
              unfold updN
              rw [if_neg (fun e => hmem (by rw [← e]; exact get_mem hal))]
              exact hdd
          · rintro self2 b1 b2 h2 ⟨rfl, qs, D, rfl, hal, hdd, hB, hS⟩
            unfold L_X6_learn_28_89
            rw [(hS.2.2.2 28 (by decide)).1, l1]
            refine Ev_t (Int32.le_refl _) (hkq _ _ ⟨qs, D, rfl, BfI.next ?_ hal, hS⟩)
            rw [nbC_len]; exact hB
    · rintro self a1 a2 h ⟨rfl, qs, D, rfl, hB, hS⟩
      have hl := hB.len
      have hal := hB.al
      unfold L_X6_learn_28_51
      exact Ev_t (le_n (by omega) (by omega)) (hk _ (hfin qs D _ 0 h hB hS (nd_full hB.nd hB.lt (by omega))))
  · obtain ⟨d, hd, e, _⟩ := hkn 0 hF0
    have e2 : c.1 29 (plN st n 0) = nI (d + 1) := e
    exact Ev_f (by rw [e2]; exact nI_ne0 (by omega) (by omega)) (Ev_so ⟨hkn, Sm.rf, fun y _ => rfl⟩)
