/-! CASE needed: the reference's numbers -/
theorem nd_uniq {P : Nat → Prop} {d e : Nat} (h1 : ndP P d) (h2 : ndP P e) : d = e := by
  have a := (h2 d).mp ((h1 d).mpr (Nat.le_refl _))
  have b := (h1 e).mp ((h2 e).mpr (Nat.le_refl _))
  omega
def vlM (n : Nat) (S : List Nat) (m : Hp) (sz i : Nat) : Prop := ∀ j, j < S.length → (pcM (S.getD j 0) < sz ∨ (pcM (S.getD j 0) = sz ∧ j < i)) → ∃ d, d ≤ 6 ∧ m.1 18 j = nI d ∧ ndP (fun q => SmP n q (S.getD j 0)) d
theorem mz_opp {n a b : Nat} {z : Int64} (hn : n ≤ 6) (ha : a < n) (hb : b < n) (hab : a ≠ b) : mzN n z ^^^ (mzN n z &&& liN n (mzN n z) a b) = liN n (mzN n z) b a := by
  apply Nat.eq_of_testBit_eq
  intro r
  rw [Nat.testBit_xor, Nat.testBit_and, li_bit, li_bit, mz_bit]
  by_cases hr : r < facN n
  · have hp := row_perm hn hr
    have hne : rowT n r a ≠ rowT n r b := fun e => hab (hp.2 a b ha hb e)
    by_cases h : rowT n r a < rowT n r b
    · rw [decide_eq_true hr, decide_eq_true h, decide_eq_false (show ¬ rowT n r b < rowT n r a by omega)]
      cases consN z n (rowT n r) <;> rfl
    · rw [decide_eq_true hr, decide_eq_false h, decide_eq_true (show rowT n r b < rowT n r a by omega)]
      cases consN z n (rowT n r) <;> rfl
  · rw [decide_eq_false hr]
    cases consN z n (rowT n r) <;> rfl
theorem pc_opp {n a b : Nat} {z : Int64} (hn : n ≤ 4) (ha : a < n) (hb : b < n) (hab : a ≠ b) (h1 : liN n (mzN n z) a b ≠ 0) (h2 : liN n (mzN n z) b a ≠ 0) : pcM (liN n (mzN n z) a b) < pcM (mzN n z) ∧ pcM (liN n (mzN n z) b a) < pcM (mzN n z) := by
  rw [mz_li (by omega) ha hb] at h1 ⊢
  rw [mz_li (by omega) hb ha] at h2 ⊢
  rw [pc_mz hn, pc_mz hn, pc_mz hn]
  have a1 := mz_ne.mp h1
  have a2 := mz_ne.mp h2
  have := ct_split2 (z := z) (show n ≤ 6 by omega) ha hb hab
  omega
def bqP (n s q a b : Nat) : Prop := liN n s a b ≠ 0 ∧ liN n s b a ≠ 0 ∧ SmP n q (liN n s a b) ∧ SmP n q (liN n s b a)
theorem M_best {n k s : Nat} {f o : Nat → Nat} {m0 m : Hp} {S : List Nat} (hn2 : 2 ≤ n) (hn : n ≤ 4) (h : StM n k f o m0 S m) (hs : s ∈ S) (hpc : 2 ≤ pcM s) (hcl : ∀ p, p < n * n → clA n S s p) (hvl : vlM n S m (pcM s) 0) : Ev (f_X11_best m (nI s)) (fun y => ∃ d, d ≤ 6 ∧ y = nI d ∧ ndP (fun q => SmP n q s) d) := by
  have hlen := h.len hn2 hn
  obtain ⟨_, z, ez⟩ := h.2.2.2.2.2.2 s hs
  have hs24 := h.s24 hn hs
  have hv : ∀ t, t ∈ S → pcM t < pcM s → ∃ d, d ≤ 6 ∧ ndP (fun q => SmP n q t) d ∧ ∀ j, j < S.length → S.getD j 0 = t → m.1 18 j = nI d := fun t ht hpt => by
    obtain ⟨j, hj, e⟩ := mem_get ht
    obtain ⟨d, d1, d2, d3⟩ := hvl j hj (Or.inl (by rw [e]; exact hpt))
    rw [e] at d3
    refine ⟨d, d1, d3, fun i hi e2 => ?_⟩
    obtain ⟨d', y1, y2, y3⟩ := hvl i hi (Or.inl (by rw [e2]; exact hpt))
    rw [e2] at y3
    rw [y2, nd_uniq y3 d3]
  have hplace : ∀ t, t ∈ S → Ev (f_X11_placeOf m (nI t)) (fun y => ∃ j, j < S.length ∧ S.getD j 0 = t ∧ y = nI j) := fun t ht =>
    Ev_mono (M_placeOf hn2 hn h (h.s24 hn ht)) (fun y hy => by
      rcases hy with ⟨_, z⟩ | ⟨z, _⟩
      · exact z
      · exact absurd ht z)
  have hclP : ∀ a b, a < n → b < n → a ≠ b → liN n s a b ≠ 0 → liN n s a b ∈ S := fun a b ha hb hab h0 => by
    have e1 : (n * a + b) / n = a := by rw [Nat.mul_add_div (by omega), Nat.div_eq_of_lt hb, Nat.add_zero]
    have e2 : (n * a + b) % n = b := by rw [Nat.mul_add_mod]; exact Nat.mod_eq_of_lt hb
    have hlt : n * a + b < n * n := by
      have := Nat.mul_le_mul_left n (show a + 1 ≤ n by omega)
      rw [Nat.mul_add n a 1] at this
      omega
    have := hcl _ hlt
    unfold clA at this
    rw [e1, e2] at this
    exact (this hab).resolve_left h0
  unfold f_X11_best
  let IG : Nat → (Nat → Nat → Prop) → Prop := fun mm R => 1 ≤ mm ∧ mm ≤ 99 ∧ ∀ q, q < 50 → ((∃ a b, R a b ∧ a < b ∧ b < n ∧ bqP n s q a b) ↔ mm ≤ q + 1)
  refine Ev_jn1 (fun y => ∃ mm, y = nI mm ∧ IG mm (fun _ _ => True)) (fun y ⟨mm, e1, g1, g2, g3⟩ => Ev_so ?_) (fun k136 hk => ?_)
  · obtain ⟨d, hd, hp⟩ := nd_ex (z := z) hn
    have h6 : n * (n - 1) / 2 ≤ 6 := by
      have : n = 2 ∨ n = 3 ∨ n = 4 := by omega
      rcases this with rfl | rfl | rfl <;> omega
    have hp2 : ndP (fun q => SmP n q s) d := fun q => by rw [ez]; exact (Sz_Sm hn q z).symm.trans (hp q)
    have hd0 : d ≠ 0 := fun e => by
      have h0 : pcM s ≤ 1 := (hp2 0).mpr (by omega)
      omega
    have hG : ∀ q, (∃ a b, True ∧ a < b ∧ b < n ∧ bqP n s q a b) ↔ d ≤ q + 1 := fun q => by
      rw [← hp2 (q + 1)]
      constructor
      · rintro ⟨a, b, _, y1, y2, y3⟩; exact Or.inr ⟨a, b, y1, y2, y3⟩
      · rintro (y | ⟨a, b, y1, y2, y3⟩)
        · omega
        · exact ⟨a, b, trivial, y1, y2, y3⟩
    have q1 := (g3 (d - 1) (by omega)).mp ((hG _).mpr (by omega))
    have q2 := (hG (mm - 1)).mp ((g3 (mm - 1) (by omega)).mpr (by omega))
    exact ⟨d, by omega, by rw [e1, show mm = d by omega], hp2⟩
  · refine Ev_fx2 (fun a a1 a2 => a2 = nI a ∧ ∃ mm, a1 = nI mm ∧ IG mm (fun a' _ => a' < a)) n ?_ ?_ (FU_lt (by omega)) ⟨rfl, 99, rfl, by omega, by omega, fun q hq => ⟨fun ⟨a, b, y, _⟩ => absurd y (by omega), fun y => by omega⟩⟩
    · rintro self a a1 a2 ha ⟨rfl, mm, rfl, hIG⟩ hself
      unfold L_X11_best_5
      rw [h.1.1, n1, nI_add]
      refine Ev_f (nle_n ha (by omega)) (Ev_nm (Ev_jn1 (fun y => ∃ mm, y = nI mm ∧ IG mm (fun a' _ => a' < a + 1)) (fun y hy => hself _ _ ⟨rfl, hy⟩) (fun k130 hk2 => ?_)))
      refine Ev_fx2 (fun i a1 a2 => a2 = nI (a + 1 + i) ∧ ∃ mm, a1 = nI mm ∧ IG mm (fun a' b' => a' < a ∨ (a' = a ∧ b' < a + 1 + i))) (n - 1 - a) ?_ ?_ (FU_lt (by omega)) ⟨rfl, mm, rfl, hIG.1, hIG.2.1, fun q hq => ?_⟩
      · rintro self2 i b1 b2 hi ⟨rfl, mm, rfl, g1, g2, g3⟩ hself2
        generalize hb : a + 1 + i = b at g3 hself2 ⊢
        have hbn : b < n := by omega
        have hnext : a + 1 + (i + 1) = b + 1 := by omega
        rw [hnext] at hself2
        unfold L_X11_best_18
        rw [h.1.1]
        refine Ev_f (nle_n hbn (by omega)) (Ev_bd _ (M_lessIn hn h.1 ha hbn hs24) (fun y hy => ?_))
        subst hy
        rw [nI_andn]
        have hopp := mz_opp (z := z) (show n ≤ 6 by omega) ha hbn (show a ≠ b by omega)
        rw [← ez] at hopp
        rw [hopp]
        have hl1 : liN n s a b < 2 ^ 24 := by rw [ez, mz_li (by omega) ha hbn]; exact mz_24 hn
        have hl2 : liN n s b a < 2 ^ 24 := by rw [ez, mz_li (by omega) hbn ha]; exact mz_24 hn
        have ee1 : (nI (liN n s a b) = 0) = (liN n s a b = 0) := nI_iff (b := 0) (Nat.lt_of_lt_of_le hl1 (by decide)) (by omega)
        have ee2 : (nI (liN n s b a) = 0) = (liN n s b a = 0) := nI_iff (b := 0) (Nat.lt_of_lt_of_le hl2 (by decide)) (by omega)
        have hnx : ∀ q, (∃ a' b', (a' < a ∨ (a' = a ∧ b' < b + 1)) ∧ a' < b' ∧ b' < n ∧ bqP n s q a' b') ↔ ((∃ a' b', (a' < a ∨ (a' = a ∧ b' < b)) ∧ a' < b' ∧ b' < n ∧ bqP n s q a' b') ∨ bqP n s q a b) := fun q => by
          constructor
          · rintro ⟨a', b', y1, y2, y3, y4⟩
            by_cases e : a' = a ∧ b' = b
            · rw [e.1, e.2] at y4; exact Or.inr y4
            · refine Or.inl ⟨a', b', ?_, y2, y3, y4⟩
              rcases y1 with y1 | ⟨y1, y5⟩
              · exact Or.inl y1
              · exact Or.inr ⟨y1, by omega⟩
          · rintro (⟨a', b', y1, y2, y3, y4⟩ | y)
            · refine ⟨a', b', ?_, y2, y3, y4⟩
              rcases y1 with y1 | ⟨y1, y5⟩
              · exact Or.inl y1
              · exact Or.inr ⟨y1, by omega⟩
            · exact ⟨a, b, Or.inr ⟨rfl, by omega⟩, by omega, hbn, y⟩
        have hskip : (∀ q, ¬ bqP n s q a b) → Ev (self2 (nI mm) (nI b + 1)) (fun y => ∃ d, d ≤ 6 ∧ y = nI d ∧ ndP (fun q => SmP n q s) d) := fun hno =>
          hself2 _ _ ⟨nI_add b 1, mm, rfl, g1, g2, fun q hq => by rw [hnx q, ← g3 q hq]; exact ⟨fun y => y.resolve_right (hno q), Or.inl⟩⟩
        refine Ev_nm ?_
        simp only [ee1, ee2]
        refine Ev_i (fun e => hskip (fun q y => y.1 e)) (fun e1 => Ev_i (fun e => hskip (fun q y => y.2.1 e)) (fun e2 => ?_))
        have hm1 := hclP a b ha hbn (by omega) e1
        have hm2 := hclP b a hbn ha (by omega) e2
        have hpo : pcM (liN n s a b) < pcM s ∧ pcM (liN n s b a) < pcM s := by
          have := pc_opp (z := z) hn ha hbn (show a ≠ b by omega)
          rw [← ez] at this
          exact this e1 e2
        obtain ⟨d1, c1, c2, c3⟩ := hv _ hm1 hpo.1
        obtain ⟨d2, c4, c5, c6⟩ := hv _ hm2 hpo.2
        refine Ev_bd _ (hplace _ hm1) (fun y1 ⟨j1, t1, t2, t3⟩ => ?_)
        subst t3
        refine Ev_ck rfl (by omega) (by omega) (Ev_bd _ (hplace _ hm2) (fun y2 ⟨j2, t4, t5, t6⟩ => ?_))
        subst t6
        refine Ev_ck rfl (by omega) (by omega) (Ev_jn1 (fun y => y = nI (max d1 d2 + 1)) (fun y hy => ?_) (fun k109 hk3 => ?_))
        · subst hy
          have hbq : ∀ q, bqP n s q a b ↔ max d1 d2 + 1 ≤ q + 1 := fun q => by
            have w1 : SmP n q (liN n s a b) ↔ d1 ≤ q := c2 q
            have w2 : SmP n q (liN n s b a) ↔ d2 ≤ q := c5 q
            unfold bqP
            rw [w1, w2]
            constructor
            · rintro ⟨_, _, y1, y2⟩; omega
            · intro y; exact ⟨e1, e2, by omega, by omega⟩
          refine Ev_i (fun e => hself2 _ _ ⟨nI_add b 1, mm, rfl, g1, g2, fun q hq => ?_⟩) (fun e => hself2 _ _ ⟨nI_add b 1, _, rfl, by omega, by omega, fun q hq => ?_⟩)
          · rw [nI_leI (by omega) (by omega)] at e
            rw [hnx q, g3 q hq, hbq q]; omega
          · rw [nI_leI (by omega) (by omega)] at e
            rw [hnx q, g3 q hq, hbq q]; omega
        · rw [clN (by omega), clN (by omega), c3 _ t1 t2, c6 _ t4 t5]
          refine Ev_i (fun e => ?_) (fun e => ?_)
          · rw [nI_leI (by omega) (by omega)] at e
            refine Ev_bd _ (hplace _ hm2) (fun y2 ⟨j3, t7, t8, t9⟩ => ?_)
            subst t9
            refine Ev_ck rfl (by omega) (by omega) (hk3 _ ?_)
            rw [clN (by omega), c6 _ t7 t8, n1, nI_add, show max d1 d2 = d2 by omega]
          · rw [nI_leI (by omega) (by omega)] at e
            refine Ev_bd _ (hplace _ hm1) (fun y2 ⟨j3, t7, t8, t9⟩ => ?_)
            subst t9
            refine Ev_ck rfl (by omega) (by omega) (hk3 _ ?_)
            rw [clN (by omega), c3 _ t7 t8, n1, nI_add, show max d1 d2 = d1 by omega]
      · rintro self2 b1 b2 ⟨rfl, mm, rfl, g1, g2, g3⟩
        unfold L_X11_best_18
        rw [h.1.1]
        refine Ev_t (le_n (by omega) (by omega)) (hk2 _ ⟨mm, rfl, g1, g2, fun q hq => ?_⟩)
        rw [← g3 q hq]
        constructor
        · rintro ⟨a', b', y1, y2, y3, y4⟩
          exact ⟨a', b', by omega, y2, y3, y4⟩
        · rintro ⟨a', b', y1, y2, y3, y4⟩
          exact ⟨a', b', by omega, y2, y3, y4⟩
      · rw [← hIG.2.2 q hq]
        constructor
        · rintro ⟨a', b', y1, y2, y3, y4⟩
          exact ⟨a', b', by omega, y2, y3, y4⟩
        · rintro ⟨a', b', y1, y2, y3, y4⟩
          exact ⟨a', b', Or.inl y1, y2, y3, y4⟩
    · rintro self a1 a2 ⟨rfl, mm, rfl, g1, g2, g3⟩
      unfold L_X11_best_5
      rw [h.1.1]
      refine Ev_t (Int32.le_refl _) (hk _ ⟨mm, rfl, g1, g2, fun q hq => ?_⟩)
      rw [← g3 q hq]
      constructor
      · rintro ⟨a', b', y1, y2, y3, y4⟩
        exact ⟨a', b', by omega, y2, y3, y4⟩
      · rintro ⟨a', b', y1, y2, y3, y4⟩
        exact ⟨a', b', trivial, y2, y3, y4⟩
theorem StM.w18 {n k j : Nat} {y : Int32} {f o : Nat → Nat} {m0 m : Hp} {S : List Nat} (h : StM n k f o m0 S m) : StM n k f o m0 S (wI m 18 (nI j) y) := by
  obtain ⟨hM, hS, hf, hl, hv, hnd, hz⟩ := h
  refine ⟨hM.keep ?_ ?_ ?_ ?_ ?_ ?_, hS.sI (by decide), fun j j1 j2 => ?_, ?_, fun j hj => ?_, hnd, hz⟩
  all_goals rw [wI_n _ _ _ _ _ (by decide)]
  · exact hf j j1 j2
  · exact hl
  · exact hv j hj
theorem Sm_one {n s : Nat} (h : pcM s ≤ 1) : ndP (fun q => SmP n q s) 0 := fun q => ⟨fun _ => Nat.zero_le _, fun _ => by
  cases q with
  | zero => exact h
  | succ q => exact Or.inl h⟩
theorem M_phase {n k : Nat} {f o : Nat → Nat} {m0 m : Hp} {S : List Nat} {K : Hp → Option (Int32 × Hp)} {P : Int32 × Hp → Prop} (hn2 : 2 ≤ n) (hn : n ≤ 4) (h : StM n k f o m0 S m) (hcl : ∀ s, s ∈ S → ∀ p, p < n * n → clA n S s p) (hK : ∀ m1, StM n k f o m0 S m1 ∧ vlM n S m1 25 0 → Ev (K m1) P) : Ev (jn1 (fun k208 => fx2 (L_X11_needed_142 k208) FU (1 : Int32) m) K) P := by
  have hlen := h.len hn2 hn
  have hpc1 : ∀ s, s ∈ S → 1 ≤ pcM s ∧ pcM s ≤ 24 := fun s hs => by
    obtain ⟨h0, z, e⟩ := h.2.2.2.2.2.2 s hs
    refine ⟨?_, ct_le⟩
    rw [e, pc_mz hn]
    rw [e] at h0
    exact mz_ne.mp h0
  refine Ev_jn1 (fun m1 => StM n k f o m0 S m1 ∧ vlM n S m1 25 0) (fun m1 hh => hK m1 hh) (fun kk hk => ?_)
  refine Ev_fx2 (fun j a1 m1 => a1 = nI (j + 1) ∧ StM n k f o m0 S m1 ∧ vlM n S m1 (j + 1) 0) 24 ?_ ?_ (FU_lt (by omega)) ⟨rfl, h, fun j hj hh => by
    have := (hpc1 _ (get_mem hj)).1
    omega⟩
  · rintro self j a1 m1 hj ⟨rfl, h1, hv⟩ hself
    unfold L_X11_needed_142
    refine Ev_f (by rw [show (24 : Int32) = nI 24 from rfl, nI_ltI (by omega) (by omega)]; omega) (Ev_jn1 (fun m2 => StM n k f o m0 S m2 ∧ vlM n S m2 (j + 2) 0) (fun m2 ⟨p1, p2⟩ => hself _ _ ⟨nI_add (j + 1) 1, p1, p2⟩) (fun k202 hk2 => ?_))
    refine Ev_fx2 (fun i a1 m2 => a1 = nI i ∧ StM n k f o m0 S m2 ∧ vlM n S m2 (j + 1) i) S.length ?_ ?_ (FU_lt (by omega)) ⟨rfl, h1, hv⟩
    · rintro self2 i b1 m2 hi ⟨rfl, h2, hv2⟩ hself2
      have hm := get_mem hi
      have h24 := h2.s24 hn hm
      unfold L_X11_needed_150
      rw [h2.2.2.2.1, clN (by omega), h2.2.2.2.2.1 i hi]
      refine Ev_f (nle_n hi (by omega)) (Ev_ck rfl (by omega) (by omega) (Ev_bd _ (M_bits h24) (fun y hy => ?_)))
      subst hy
      have hpc := hpc1 _ hm
      simp only [nI_iff (show pcM (S.getD i 0) < 2 ^ 31 by omega) (show j + 1 < 2 ^ 31 by omega)]
      have hset : ∀ d, d ≤ 6 → ndP (fun q => SmP n q (S.getD i 0)) d → Ev (self2 (nI i + 1) (wI m2 18 (nI i) (nI d))) P := fun d d1 d2 => by
        refine hself2 _ _ ⟨nI_add i 1, h2.w18, fun j' hj' hh => ?_⟩
        rw [wI_1, clN (by omega)]
        by_cases e : j' = i
        · rw [e, upd_s]; exact ⟨d, d1, rfl, d2⟩
        · rw [upd_n _ _ e]
          exact hv2 j' hj' (by omega)
      refine Ev_i (fun e => ?_) (fun e => hself2 _ _ ⟨nI_add i 1, h2, fun j' hj' hh => hv2 j' hj' ?_⟩)
      · have e1 : (nI (j + 1) = 1) = (j + 1 = 1) := nI_iff (b := 1) (by omega) (by omega)
        simp only [e1]
        refine Ev_i (fun e2 => Ev_ck rfl (by omega) (by omega) (Ev_nm (hset 0 (by omega) (Sm_one (by omega))))) (fun e2 => Ev_ck rfl (by omega) (by omega) (Ev_bd _ (M_best hn2 hn h2 hm (by omega) (hcl _ hm) (fun j' hj' hh => hv2 j' hj' (by omega))) (fun y ⟨d, d1, d2, d3⟩ => ?_)))
        subst d2
        exact Ev_ck rfl (by omega) (by omega) (Ev_nm (hset d d1 d3))
      · by_cases e3 : j' = i
        · rw [e3] at hh ⊢; omega
        · omega
    · rintro self2 b1 m2 ⟨rfl, h2, hv2⟩
      unfold L_X11_needed_150
      rw [h2.2.2.2.1]
      exact Ev_t (Int32.le_refl _) (hk2 _ ⟨h2, fun j' hj' hh => hv2 j' hj' (by omega)⟩)
  · rintro self a1 m1 ⟨rfl, h1, hv⟩
    unfold L_X11_needed_142
    exact Ev_t (by rw [show (24 : Int32) = nI 24 from rfl, nI_ltI (by omega) (by omega)]; omega) (hk _ ⟨h1, hv⟩)
theorem M_needed {n k : Nat} {f o : Nat → Nat} {c m : Hp} (hn2 : 2 ≤ n) (hn : n ≤ 6) (hM : NetM n k f o m) (hA : AdvR n c m) : Ev (f_X11_needed m) (fun r => (n ≤ 4 → ∃ d, d ≤ 6 ∧ r.1 = nI d ∧ ndP (fun q => SzP n q (c.2 32 0)) d) ∧ (¬ n ≤ 4 → r.1 = -1) ∧ Sm [0, 17, 18] m r.2 ∧ ∀ j, j ≠ 0 → j ≠ 23 → r.2.1 0 j = m.1 0 j) := by
  unfold f_X11_needed
  have hM1 := hM.t (x := 0)
  have h14 : (wF m 0 0 0).1 14 = m.1 14 := wF_n _ _ _ _ _ (by decide)
  have hS1 : Sm [0, 17, 18] m (wF m 0 0 0) := Sm.rf.sF (by decide)
  have hf1 : ∀ j, j ≠ 0 → (wF m 0 0 0).1 0 j = m.1 0 j := fun j hj => by rw [wF_1, upd_n _ _ hj]
  refine Ev_nm ?_
  generalize wF m 0 0 0 = g at hM1 h14 hS1 hf1
  rw [hM1.1]
  refine Ev_i (fun e => ?_) (fun e => ?_)
  · have h4 : n ≤ 4 := (nI_leI (b := 4) (by omega) (by omega)).mp e
    have hF := fac_24 h4
    refine Ev_jn1 (fun y => y = nI (mzN n (c.2 32 0))) (fun y hy => ?_) (fun kk hk => ?_)
    · subst hy
      have hM2 : NetM n k f o (wF g 0 23 0) := hM1.keep (by rw [wF_1, upd_n _ _ (by decide)]) (by rw [wF_1, upd_n _ _ (by decide)]) (by rw [wF_1, upd_n _ _ (by decide)]) (wF_n _ _ _ _ _ (by decide)) (wF_n _ _ _ _ _ (by decide)) (wF_n _ _ _ _ _ (by decide))
      have h0 : StM n k f o m [] (wF g 0 23 0) := ⟨hM2, hS1.sF (by decide), fun j j1 j2 => by rw [wF_1, upd_n _ _ j2]; exact hf1 j j1, by rw [wF_1, upd_s]; rfl, fun j hj => absurd hj (by simp), List.nodup_nil, fun s hs => by cases hs⟩
      have hne : mzN n (c.2 32 0) ≠ 0 := by
        obtain ⟨r, hr, e⟩ := hA.2.2
        exact mz_ne.mpr (ct_some ⟨r, hr, e⟩)
      refine Ev_nm (Ev_bd _ (M_comes hn2 h4 h0 ⟨_, rfl⟩) (fun m1 ⟨T, p1, _, p2⟩ => ?_))
      rw [p2 hne rfl, List.nil_append] at p1
      refine M_grow hn2 h4 p1 (fun m2 ⟨T2, q1, q2⟩ => M_phase hn2 h4 q1 q2 (fun m3 ⟨t1, t2⟩ => ?_))
      have e0 : ([mzN n (c.2 32 0)] ++ T2).getD 0 0 = mzN n (c.2 32 0) := rfl
      have hl0 : 0 < ([mzN n (c.2 32 0)] ++ T2).length := by rw [List.length_append]; show 0 < 1 + _; omega
      obtain ⟨d, d1, d2, d3⟩ := t2 0 hl0 (Or.inl (by have : pcM (([mzN n (c.2 32 0)] ++ T2).getD 0 0) ≤ 24 := ct_le; omega))
      rw [e0] at d3
      refine Ev_ck (show (0 : Int32) = nI 0 from rfl) (by omega) (by omega) (Ev_so ⟨fun _ => ⟨d, d1, d2, fun q => (Sz_Sm h4 q _).trans (d3 q)⟩, fun y => absurd h4 y, t1.2.1, t1.2.2.1⟩)
    · refine Ev_fx2 (fun r a1 a2 => a2 = nI r ∧ a1 = nI (numB (fun r => consN (c.2 32 0) n (rowT n r)) r)) (facN n) ?_ ?_ (FU_lt (by omega)) ⟨rfl, rfl⟩
      · rintro self r a1 a2 hr ⟨rfl, rfl⟩ hself
        unfold L_X11_needed_19
        rw [hM1.2.2.2.1, clN (by omega), h14, hA.2.1 r hr]
        refine Ev_f (nle_n hr (by omega)) (Ev_ck rfl (by omega) (by omega) ?_)
        cases e : consN (c.2 32 0) n (rowT n r) with
        | true =>
          refine Ev_f (by decide) (Ev_nm (hself _ _ ⟨nI_add r 1, ?_⟩))
          rw [shl1 (by omega), nI_or, num_s, e]; rfl
        | false =>
          refine Ev_t rfl (Ev_nm (hself _ _ ⟨nI_add r 1, ?_⟩))
          rw [show (0 : Int32) = nI 0 from rfl, nI_or, num_s, e]; rfl
      · rintro self a1 a2 ⟨rfl, rfl⟩
        unfold L_X11_needed_19
        rw [hM1.2.2.2.1]
        exact Ev_t (Int32.le_refl _) (hk _ rfl)
  · have h4 : ¬ n ≤ 4 := fun z => e ((nI_leI (b := 4) (by omega) (by omega)).mpr z)
    exact Ev_so ⟨fun y => absurd y h4, fun _ => rfl, hS1, fun j j1 _ => hf1 j j1⟩
theorem pc_39 {L : Nat} {xs : Nat → Int32} {i : Int32} {s : LWS} {kont : LWS → Option Unit} (hI : Inv s) (hk : ∀ s1, Inv s1 → kont s1 = some ()) : lc_39 L xs i s kont = some () := by
  obtain ⟨c, m, out⟩ := s
  have hI0 := hI
  obtain ⟨n, k, f, o, hG, hC, hM, hT, hB, hS, hSt, hA⟩ := hI
  obtain ⟨r1, h1, a1, a2, a3⟩ := C_needed hG hC hA
  obtain ⟨r2, h2, b1, b2, b3, b4⟩ := M_needed hG.1 hG.2.1 hM hA
  have he : r1.1 = r2.1 := by
    by_cases h4 : n ≤ 4
    · obtain ⟨d, _, d1, d2⟩ := a1 h4
      obtain ⟨e, _, e1, e2⟩ := b1 h4
      rw [d1, e1, nd_uniq d2 e2]
    · rw [a2 h4, b2 h4]
  simp only [lc_39, h1, h2, bd, nm, setC, setM]
  rw [if_pos he]
  exact hk _ (hI0.keep (a3.mono (by decide)) (b3.mono (by decide)) (fun j hj => b4 j (by rintro rfl; revert hj; decide) (by rintro rfl; revert hj; decide)))
