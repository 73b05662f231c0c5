/-! the class's search -/
def nbC (st n p : Nat) : List Nat := (stepsN st n).map (fun s => num n (fun x => rowT n p (s x)))
theorem nbC_ok {st n : Nat} (hn : n ≤ 6) : NbOk st n (nbC st n) := by
  intro p hp
  have hpp := row_perm hn hp
  refine ⟨fun q hq => ?_, fun q hq hE => ?_⟩
  · obtain ⟨s, hs, rfl⟩ := List.mem_map.mp hq
    have hv := src_perm hs hpp
    exact ⟨num_lt' hn hv, Or.inl ⟨s, hs, fun x hx => num_row hn hv hx⟩⟩
  · obtain ⟨s, hs, hx⟩ := hE
    refine List.mem_map.mpr ⟨s, hs, ?_⟩
    have := num_congr (n := n) (u := rowT n q) (v := fun x => rowT n p (s x)) hx
    rw [row_num hn hq] at this
    exact this.symm
theorem steps_len : ∀ st, st < 4 → ∀ n, n < 7 → (stepsN st n).length ≤ 35 := by decide
/-- the list of the class -/
def LsI (n : Nat) (S : List (Nat → Nat)) (c h : Hp) : Prop := h.1 28 3 = nI S.length ∧ (∀ i, i < S.length → ∃ q, h.1 31 i = nI q ∧ PK n (S.getD i (fun x => x)) q) ∧ Sm [28, 31] c h
theorem C_app28 {n q : Nat} {S : List (Nat → Nat)} {s : Nat → Nat} {c h : Hp} (hI : LsI n S c h) (hP : PK n s q) (hl : S.length < 35) : Ev (f_X6_append_28 h (nI q)) (fun h1 => LsI n (S ++ [s]) c h1) := by
  obtain ⟨i1, i2, i3⟩ := hI
  unfold f_X6_append_28
  refine Ev_f (by rw [i1]; exact nle_n (a := 35) hl (by omega)) (Ev_ck i1 hl (by omega) (Ev_nm ?_))
  have e1 : (wI h 31 (h.1 28 3) (nI q)).1 28 3 = nI S.length := by rw [wI_n _ _ _ _ _ (by decide)]; exact i1
  rw [e1, n1, nI_add]
  refine Ev_nm (Ev_so ⟨?_, fun i hi => ?_, (i3.sI (by decide)).sF (by decide)⟩)
  · rw [wF_1, upd_s, List.length_append]; rfl
  · rw [wF_n _ _ _ _ _ (by decide), wI_1, i1, clN (by omega)]
    by_cases e : i = S.length
    · refine ⟨q, by rw [e, upd_s], ?_⟩
      rw [e, List.getD_eq_getElem?_getD, List.getElem?_append_right (Nat.le_refl _), Nat.sub_self]
      exact hP
    · rw [List.length_append, show [s].length = 1 from rfl] at hi
      rw [upd_n _ _ e, List.getD_eq_getElem?_getD, List.getElem?_append_left (by omega), ← List.getD_eq_getElem?_getD]
      exact i2 i (by omega)
theorem chg_pre {w n a : Nat} (_ : a < n) : (List.range (a + 1)).flatMap (fun a => (List.range (min w (n - 1 - a))).map (fun d => swapN a (a + 1 + d) (fun x => x))) = (List.range a).flatMap (fun a => (List.range (min w (n - 1 - a))).map (fun d => swapN a (a + 1 + d) (fun x => x))) ++ (List.range (min w (n - 1 - a))).map (fun d => swapN a (a + 1 + d) (fun x => x)) := by
  rw [List.range_succ, List.flatMap_append]
  simp
theorem pre_len {α β : Type} (f : α → List β) (l l2 : List α) : (l.flatMap f).length ≤ ((l ++ l2).flatMap f).length := by
  rw [List.flatMap_append, List.length_append]; omega
theorem range_split {a n : Nat} (h : a ≤ n) : List.range n = List.range a ++ (List.range n).drop a := by
  have h1 : List.range n = (List.range n).take a ++ (List.range n).drop a := (List.take_append_drop a _).symm
  rw [List.take_range, Nat.min_eq_left h] at h1
  exact h1
theorem C_changes {n w : Nat} {c h : Hp} (hn : n ≤ 6) (hw1 : 1 ≤ w) (hw : w < 7) (hlen : (chgL w n).length ≤ 35) (hI : LsI n [] c h) : Ev (f_X6_listChanges_28 h (nI w) (nI n)) (fun h1 => LsI n (chgL w n) c h1) := by
  unfold f_X6_listChanges_28
  refine Ev_bd _ (C_inOrder hn) (fun y ⟨q0, ey, hq0⟩ => ?_)
  subst ey
  refine Ev_jn1 (fun h1 => LsI n (chgL w n) c h1) (fun h1 hh => Ev_so hh) (fun kk hk => ?_)
  refine Ev_fx2 (fun a a1 h1 => a1 = nI a ∧ LsI n ((List.range a).flatMap (fun a => (List.range (min w (n - 1 - a))).map (fun d => swapN a (a + 1 + d) (fun x => x)))) c h1) n ?_ ?_ (FU_lt (by omega)) ⟨rfl, hI⟩
  · rintro self a a1 h1 ha ⟨rfl, hI⟩ hself
    have hpre := chg_pre (w := w) ha
    have hlen2 := pre_len (fun a => (List.range (min w (n - 1 - a))).map (fun d => swapN a (a + 1 + d) (fun x => x))) (List.range (a + 1)) ((List.range n).drop (a + 1))
    rw [← range_split (by omega)] at hlen2
    have hlen3 : ((List.range (a + 1)).flatMap (fun a => (List.range (min w (n - 1 - a))).map (fun d => swapN a (a + 1 + d) (fun x => x)))).length ≤ 35 := Nat.le_trans hlen2 hlen
    rw [hpre] at hself hlen3
    generalize (List.range a).flatMap (fun a => (List.range (min w (n - 1 - a))).map (fun d => swapN a (a + 1 + d) (fun x => x))) = S at hI hself hlen3
    unfold L_X6_listChanges_28_8
    rw [n1, nI_add]
    refine Ev_f (nle_n ha (by omega)) (Ev_nm (Ev_jn1 (fun h1 => LsI n (S ++ (List.range (min w (n - 1 - a))).map (fun d => swapN a (a + 1 + d) (fun x => x))) c h1) (fun h2 hh => hself _ _ ⟨rfl, hh⟩) (fun kq hkq => ?_)))
    rw [List.length_append, List.length_map, List.length_range] at hlen3
    refine Ev_fx2 (fun d a1 h1 => a1 = nI (a + 1 + d) ∧ LsI n (S ++ (List.range d).map (fun d => swapN a (a + 1 + d) (fun x => x))) c h1) (min w (n - 1 - a)) ?_ ?_ (FU_lt (by omega)) ⟨rfl, by simpa using hI⟩
    · rintro self2 d b1 h2 hd ⟨rfl, hI2⟩ hself2
      unfold L_X6_listChanges_28_20
      rw [nsub (by omega)]
      refine Ev_f (nle_n (by omega) (by omega)) (Ev_f (by rw [nI_ltI (by omega) (by omega)]; omega) (Ev_bd _ (C_exchanged hn hq0 (show a < n by omega) (show a + 1 + d < n by omega) (by omega) (by show a < 16; omega) (by show a + 1 + d < 16; omega)) (fun y ⟨q3, ey, hq3⟩ => ?_)))
      subst ey
      refine Ev_bd _ (C_app28 hI2 hq3 (by rw [List.length_append, List.length_map, List.length_range]; omega)) (fun h3 hI3 => hself2 _ _ ⟨nI_add _ 1, ?_⟩)
      rw [List.range_succ, List.map_append, ← List.append_assoc]
      exact hI3
    · rintro self2 b1 h2 ⟨rfl, hI2⟩
      unfold L_X6_listChanges_28_20
      by_cases e : n ≤ a + 1 + min w (n - 1 - a)
      · exact Ev_t (le_n e (by omega)) (hkq _ hI2)
      · refine Ev_f (nle_n (by omega) (by omega)) ?_
        rw [nsub (by omega)]
        exact Ev_t (nI_lt (by omega) (by omega)) (hkq _ hI2)
  · rintro self a1 h1 ⟨rfl, hI⟩
    unfold L_X6_listChanges_28_8
    exact Ev_t (Int32.le_refl _) (hk _ hI)
theorem C_flipsL {n : Nat} {c h : Hp} (hn : n ≤ 6) (hn2 : 2 ≤ n) (hI : LsI n [] c h) : Ev (f_X6_listFlips_28 h (nI n)) (fun h1 => LsI n (flpL n) c h1) := by
  unfold f_X6_listFlips_28
  refine Ev_jn1 (fun h1 => LsI n (flpL n) c h1) (fun h1 hh => Ev_so hh) (fun kk hk => ?_)
  refine Ev_fx2 (fun d a1 h1 => a1 = nI (2 + d) ∧ LsI n ((List.range d).map (fun d => flipN 0 (2 + d) (fun x => x))) c h1) (n - 1) ?_ ?_ (FU_lt (by omega)) ⟨rfl, by simpa using hI⟩
  · rintro self d a1 h1 hd ⟨rfl, hI⟩ hself
    unfold L_X6_listFlips_28_2
    refine Ev_f (by rw [nI_ltI (by omega) (by omega)]; omega) (Ev_jn1 (fun y => ∃ q, y = nI q ∧ PK n (flipN 0 (2 + d) (fun x => x)) q) (fun y ⟨q, ey, hq⟩ => ?_) (fun kq hkq => ?_))
    · subst ey
      refine Ev_bd _ (C_app28 hI hq (by rw [List.length_map, List.length_range]; omega)) (fun h2 hI2 => hself _ _ ⟨nI_add _ 1, ?_⟩)
      rw [List.range_succ, List.map_append]
      exact hI2
    · refine Ev_fx2 (fun x a1 a2 => a2 = nI x ∧ ∃ q, a1 = nI q ∧ PK x (flipN 0 (2 + d) (fun x => x)) q) n ?_ ?_ (FU_lt (by omega)) ⟨rfl, 0, rfl, PK.z⟩
      · rintro self2 x b1 b2 hx ⟨rfl, q, rfl, hq⟩ hself2
        unfold L_X6_listFlips_28_12
        refine Ev_f (nle_n hx (by omega)) (Ev_jn1 (fun y => y = nI (flipN 0 (2 + d) (fun x => x) x)) (fun y hy => ?_) (fun kr hkr => ?_))
        · subst hy
          have hlt : flipN 0 (2 + d) (fun x => x) x < 16 := by
            simp only [flipN]
            split <;> omega
          rw [n4, nmul, ishl_n (by omega), nI_or]
          exact Ev_nm (hself2 _ _ ⟨nI_add x 1, _, rfl, hq.put hlt⟩)
        · refine Ev_i (fun e => hkr _ ?_) (fun e => hkr _ ?_)
          · rw [nI_leI (by omega) (by omega)] at e
            simp only [flipN]
            rw [if_neg (by omega)]
          · rw [nI_leI (by omega) (by omega)] at e
            simp only [flipN]
            rw [if_pos (by omega), n1, nsub (by omega), nsub (by omega), Nat.zero_add]
      · rintro self2 b1 b2 ⟨rfl, q, rfl, hq⟩
        unfold L_X6_listFlips_28_12
        exact Ev_t (Int32.le_refl _) (hkq _ ⟨q, rfl, hq⟩)
  · rintro self a1 h1 ⟨rfl, hI⟩
    unfold L_X6_listFlips_28_2
    exact Ev_t (nI_lt (by omega) (by omega)) (hk _ hI)
theorem C_blk {n a b e : Nat} (hn : n ≤ 6) (h1 : a < b) (h2 : b < e) (h3 : e ≤ n) : Ev (f_X6_blocksChanged (nI a) (nI b) (nI e) (nI n)) (fun y => ∃ q, y = nI q ∧ PK n (blkS a b e) q) := by
  unfold f_X6_blocksChanged
  refine Ev_jn1 (fun y => ∃ q, y = nI q ∧ PK n (blkS a b e) q) (fun y hy => Ev_so hy) (fun kk hk => ?_)
  refine Ev_fx2 (fun x a1 a2 => a2 = nI x ∧ ∃ q, a1 = nI q ∧ PK x (blkS a b e) q) n ?_ ?_ (FU_lt (by omega)) ⟨rfl, 0, rfl, PK.z⟩
  · rintro self2 x b1 b2 hx ⟨rfl, q, rfl, hq⟩ hself2
    unfold L_X6_blocksChanged_6
    refine Ev_f (nle_n hx (by omega)) (Ev_jn1 (fun y => y = nI (blkS a b e x)) (fun y hy => ?_) (fun kr hkr => ?_))
    · subst hy
      have hlt : blkS a b e x < 16 := by
        unfold blkS
        split
        · split <;> omega
        · omega
      rw [n4, nmul, ishl_n (by omega), nI_or]
      exact Ev_nm (hself2 _ _ ⟨nI_add x 1, _, rfl, hq.put hlt⟩)
    · refine Ev_i (fun z => hkr _ ?_) (fun z => Ev_i (fun z2 => hkr _ ?_) (fun z2 => ?_))
      · rw [nI_ltI (by omega) (by omega)] at z
        unfold blkS
        rw [if_neg (by omega)]
      · rw [nI_leI (by omega) (by omega)] at z2
        unfold blkS
        rw [if_neg (by omega)]
      · rw [nI_ltI (by omega) (by omega)] at z
        rw [nI_leI (by omega) (by omega)] at z2
        rw [nI_add, nsub (by omega), nsub (by omega)]
        refine Ev_nm (Ev_jn1 (fun y => y = nI (blkS a b e x)) (fun y hy => hkr _ hy) (fun ks hks => Ev_i (fun z3 => ?_) (fun z3 => hks _ ?_)))
        · rw [nI_leI (by omega) (by omega)] at z3
          rw [nsub (by omega)]
          refine hks _ ?_
          unfold blkS
          rw [if_pos (by omega), if_neg (by omega)]
        · rw [nI_leI (by omega) (by omega)] at z3
          unfold blkS
          rw [if_pos (by omega), if_pos (by omega)]
  · rintro self2 b1 b2 ⟨rfl, q, rfl, hq⟩
    unfold L_X6_blocksChanged_6
    exact Ev_t (Int32.le_refl _) (hk _ ⟨q, rfl, hq⟩)
