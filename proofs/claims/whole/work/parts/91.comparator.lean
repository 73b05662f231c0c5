theorem r_layers {n k : Nat} {f o : Nat → Nat} {m : Hp} (hG : Good n k f o) (hM : NetM n k f o m) : Ev (f_X11_laysLayers m) (fun r => r.1 = nI (allN f o k) ∧ Sm [3] m r.2 ∧ ∀ i, i < k → r.2.1 3 i = nI (layN f o i)) := by
  have hn := hG.2.1
  have hk24 := hG.2.2.1
  unfold f_X11_laysLayers
  refine Ev_jn2 (fun a h => a = nI (allN f o k) ∧ Sm [3] m h ∧ ∀ i, i < k → h.1 3 i = nI (layN f o i)) (fun a h hh => Ev_so hh) (fun kk hk => ?_)
  refine Ev_fx3 (fun j a1 a2 a3 => a2 = nI j ∧ a1 = nI (allN f o j) ∧ Sm [3] m a3 ∧ (∀ i, i < j → a3.1 3 i = nI (layN f o i))) k ?_ ?_ (FU_lt (by omega)) ⟨rfl, rfl, Sm.rf, fun i hi => absurd hi (by omega)⟩
  · rintro self j a1 a2 a3 hj ⟨rfl, rfl, hS, h3⟩ hself
    unfold L_X11_laysLayers_4
    rw [(hS 0 (by decide)).1, hM.2.1]
    refine Ev_f (nle_n hj (by omega)) (Ev_ck rfl (by omega) (by omega) (Ev_nm ?_))
    refine Ev_jn1 (fun h => Sm [3] m h ∧ ∀ i, i < j + 1 → h.1 3 i = nI (layN f o i)) (fun h ⟨hS2, h32⟩ => ?_) (fun k142 h142 => ?_)
    · have l3 := lay_le (f := f) (o := o) (i := j)
      have l4 := all_le (f := f) (o := o) j
      have ea : allN f o (j + 1) = max (allN f o j) (layN f o j + 1) := rfl
      refine Ev_ck rfl (by omega) (by omega) ?_
      rw [clN (by omega), h32 j (by omega)]
      refine Ev_i (fun e => ?_) (fun e => Ev_ck rfl (by omega) (by omega) (Ev_nm ?_))
      · rw [nI_ltI (by omega) (by omega)] at e
        exact hself _ _ _ ⟨nI_add j 1, by rw [ea, Nat.max_eq_left (by omega)], hS2, h32⟩
      · rw [nI_ltI (by omega) (by omega)] at e
        exact hself _ _ _ ⟨nI_add j 1, by rw [ea, Nat.max_eq_right (by omega)]; exact nI_add _ 1, hS2, h32⟩
    · refine Ev_fx2 (fun i a1 a2 => a1 = nI i ∧ Sm [3] m a2 ∧ (∀ x, x < j → a2.1 3 x = nI (layN f o x)) ∧ a2.1 3 j = nI (curN f o j i)) j ?_ ?_ (FU_lt (by omega)) ⟨rfl, hS.sI (by decide), fun x hx => ?_, ?_⟩
      · rintro self2 i b1 b2 hi ⟨rfl, hS2, h32, hc⟩ hself2
        obtain ⟨g1, g2, g3⟩ := hG.2.2.2 j hj
        obtain ⟨u1, u2, u3⟩ := hG.2.2.2 i (by omega)
        have l3 := lay_le (f := f) (o := o) (i := i)
        have l5 := cur_le (f := f) (o := o) (i := j) (j := i)
        have e1 := hM.2.2.1 j hj
        have e2 := hM.2.2.1 i (by omega)
        rw [← (hS2 1 (by decide)).1, ← (hS2 2 (by decide)).1] at e1 e2
        unfold L_X11_laysLayers_21
        refine Ev_f (nle_n hi (by omega)) (Ev_ck rfl (by omega) (by omega) (Ev_ck rfl (by omega) (by omega) ?_))
        rw [clN (by omega), clN (by omega), e1.1, e1.2, e2.1, e2.2, hc, h32 i hi]
        have q1 : (nI (f i) = nI (f j)) = (f i = f j) := nI_iff (by omega) (by omega)
        have q2 : (nI (f i) = nI (o j)) = (f i = o j) := nI_iff (by omega) (by omega)
        have q3 : (nI (o i) = nI (f j)) = (o i = f j) := nI_iff (by omega) (by omega)
        have q4 : (nI (o i) = nI (o j)) = (o i = o j) := nI_iff (by omega) (by omega)
        refine Ev_jn1 (fun z => (z = 1 ∧ (f i = f j ∨ f i = o j ∨ o i = f j ∨ o i = o j)) ∨ (z = 0 ∧ ¬ (f i = f j ∨ f i = o j ∨ o i = f j ∨ o i = o j))) (fun z hz => ?_) (fun k91 h91 => ?_)
        · have hkeep : curN f o j (i + 1) = curN f o j i → Ev (ck (nI j) 25 (ck (nI j) 25 (nm (wI b2 3 (nI j) (nI (curN f o j i))) (fun h_7 => self2 (nI i + (1 : Int32)) h_7)))) _ := fun ee => Ev_ck rfl (by omega) (by omega) (Ev_ck rfl (by omega) (by omega) (Ev_nm (hself2 _ _ ⟨nI_add i 1, hS2.sI (by decide), fun x hx => by rw [wI_1, clN (by omega), upd_n _ _ (by omega)]; exact h32 x hx, by rw [wI_1, clN (by omega), upd_s, ee]⟩)))
          refine Ev_jn0 (curN f o j (i + 1) = curN f o j i) hkeep (fun k129 h129 => ?_)
          rcases hz with ⟨rfl, hz⟩ | ⟨rfl, hz⟩
          · have ec := cur_t (f := f) (o := o) hz
            refine Ev_f (by decide) (Ev_ck rfl (by omega) (by omega) (Ev_ck rfl (by omega) (by omega) (Ev_i (fun e => h129 ?_) (fun e => Ev_ck rfl (by omega) (by omega) (Ev_ck rfl (by omega) (by omega) (Ev_nm (hself2 _ _ ⟨nI_add i 1, hS2.sI (by decide), fun x hx => by rw [wI_1, clN (by omega), upd_n _ _ (by omega)]; exact h32 x hx, ?_⟩)))))))
            · rw [nI_ltI (by omega) (by omega)] at e
              rw [ec, Nat.max_eq_left (by omega)]
            · rw [nI_ltI (by omega) (by omega)] at e
              rw [wI_1, clN (by omega), upd_s, ec, Nat.max_eq_right (by omega)]
              exact nI_add _ 1
          · exact Ev_t rfl (h129 (cur_f hz))
        · have ck2 : ∀ {X : Option (Int32 × Hp)} {P}, Ev X P → Ev (ck (nI i) 25 (ck (nI j) 25 X)) P := fun h => Ev_ck rfl (by omega) (by omega) (Ev_ck rfl (by omega) (by omega) h)
          simp only [q1, q2, q3, q4]
          refine Ev_jn0 (f i = f j ∨ f i = o j ∨ o i = f j ∨ o i = o j) (fun z => h91 _ (Or.inl ⟨rfl, z⟩)) (fun k86 h86 => ?_)
          exact Ev_i (fun e => h86 (Or.inl e)) (fun e => ck2 (Ev_i (fun e2 => h86 (Or.inr (Or.inl e2))) (fun e2 => ck2 (Ev_i (fun e3 => h86 (Or.inr (Or.inr (Or.inl e3)))) (fun e3 => ck2 (Ev_i (fun e4 => h86 (Or.inr (Or.inr (Or.inr e4)))) (fun e4 => h91 _ (Or.inr ⟨rfl, fun z => z.elim e (fun z => z.elim e2 (fun z => z.elim e3 e4))⟩))))))))
      · rintro self2 b1 b2 ⟨rfl, hS2, h32, hc⟩
        unfold L_X11_laysLayers_21
        refine Ev_t (Int32.le_refl _) (h142 _ ⟨hS2, fun x hx => ?_⟩)
        by_cases e : x = j
        · rw [e]; exact hc
        · exact h32 x (by omega)
      · rw [wI_1, clN (by omega), upd_n _ _ (by omega)]; exact h3 x hx
      · rw [wI_1, clN (by omega), upd_s]; rfl
  · rintro self a1 a2 a3 ⟨rfl, rfl, hS, h3⟩
    unfold L_X11_laysLayers_4
    rw [(hS 0 (by decide)).1, hM.2.1]
    exact Ev_t (Int32.le_refl _) (hk _ _ ⟨rfl, hS, h3⟩)
theorem C_exch {n k i : Nat} {f o : Nat → Nat} {c : Hp} (hG : Good n k f o) (hC : NetC n k f o c) (hi : i < k) : Ev (f_X4_exchanging_13_1 c (nI i)) (fun r => Sm [14] c r.2 ∧ r.2.1 = c.1 ∧ ColN n r.1 (oftP f o i)) := by
  have hn := hG.2.1
  have hk24 := hG.2.2.1
  obtain ⟨g1, g2, g3⟩ := hG.2.2.2 i hi
  unfold f_X4_exchanging_13_1
  refine Ev_bd _ (s_send_14 (sp := 99) (md := 0) hG hC (Nat.le_of_lt hi) (by omega)) (fun h1 ⟨hS, he, hV⟩ => ?_)
  rw [clN (by omega), he, (hC.2.2 i hi).1, (hC.2.2 i hi).2, clN (by omega), clN (by omega)]
  refine Ev_ck rfl (by omega) (by omega) (Ev_ck rfl (by omega) (by omega) (Ev_ck rfl (by omega) (by omega) (Ev_ck rfl (by omega) (by omega) (Ev_so ⟨hS, he, fun r hr => ?_⟩))))
  rw [bt_and, bt_not _ hr, hV _ g1 r hr, hV _ g2 r hr]
  unfold oftP
  cases decide (r < 2 ^ n) <;> simp
theorem Sm.nC {n k : Nat} {f o : Nat → Nat} {c c1 : Hp} {l : List Nat} (h : NetC n k f o c) (hS : Sm l c c1) (h1 : 1 ∉ l) (h2 : 2 ∉ l) (h3 : 3 ∉ l) : NetC n k f o c1 :=
  h.keep (by rw [(hS 1 h1).1]) (by rw [(hS 1 h1).1]) (hS 2 h2).1 (hS 3 h3).1
theorem Sm.nM {n k : Nat} {f o : Nat → Nat} {c c1 : Hp} {l : List Nat} (h : NetM n k f o c) (hS : Sm l c c1) (h0 : 0 ∉ l) (h1 : 1 ∉ l) (h2 : 2 ∉ l) (h4 : 4 ∉ l) : NetM n k f o c1 :=
  h.keep (by rw [(hS 0 h0).1]) (by rw [(hS 0 h0).1]) (by rw [(hS 0 h0).1]) (hS 1 h1).1 (hS 2 h2).1 (hS 4 h4).1
/-- both sides have only written scratch cells -/
theorem Inv.scr2 {c m c1 m1 : Hp} {out out1 : Nat → Int64} {x : Int32} (h : Inv (c, m, out)) (hc : Sm [4, 5, 6, 7, 8, 9, 10, 14, 15, 17, 18, 19, 26, 28, 30, 31, 34] c c1) (hm : Sm [3, 5, 6, 7, 11, 12, 13, 15, 16, 17, 18] (wF m 0 0 x) m1) : Inv (c1, m1, out1) :=
  h.keep hc ((Sm.rf.sF (by decide)).tr (hm.mono (by decide))) (fun j hj => by rw [(hm 0 (by decide)).1, wF_1, upd_n _ _ (by rintro rfl; revert hj; decide)])
theorem cm_in4 {x : Int32} : (x < 0 ∨ (3 : Int32) < x) ↔ badI 4 x := by
  unfold badI
  rw [n3, Int32.lt_iff_toInt_lt, Int32.lt_iff_toInt_lt, Int32.le_iff_toInt_le, nI_toInt (by omega), nI_toInt (by omega)]
  have : (0 : Int32).toInt = 0 := rfl
  omega
theorem ne_bad {n a : Nat} {x : Int32} (hn : n < 2 ^ 31) (ha : a < n) (h : badI n x) : ¬ x = nI a := by
  rintro rfl
  rcases h with h | h
  · exact nI_pos (by omega) h
  · rw [nI_leI (by omega) (by omega)] at h; omega
theorem not_bad {n a : Nat} (hn : n < 2 ^ 31) (ha : a < n) : ¬ badI n (nI a) := fun h => ne_bad hn ha h rfl
def cmpA (n : Nat) (f o : Nat → Nat) (a b : Nat) : Nat := if b = 0 then f a else if b = 1 then o a else if b = 2 then layN f o a else ctB (oftP f o a) (2 ^ n)
theorem C_comparator {n k a b : Nat} {f o : Nat → Nat} {c : Hp} (hG : Good n k f o) (hC : NetC n k f o c) (ha : a < k) (hb : b < 4) : Ev (f_X10_comparator c (nI a) (nI b)) (fun r => ∃ c1, r = .inr (nI (cmpA n f o a b), c1) ∧ Sm [4, 5, 14] c c1) := by
  have hk24 := hG.2.2.1
  unfold f_X10_comparator
  rw [bdx_r (C_cmp_t hC.2.1 hG.2.2.1 ha)]
  have e : ∀ j, j < 4 → (nI b = nI j) = (b = j) := fun j hj => nI_iff (by omega) (by omega)
  rw [n0, n1, n2, n3]
  simp only [e 0 (by omega), e 1 (by omega), e 2 (by omega), e 3 (by omega)]
  unfold cmpA
  refine Ev_i (fun h => Ev_ck rfl (by omega) (by omega) (Ev_so ⟨c, ?_, Sm.rf⟩)) (fun h0 => Ev_i (fun h => Ev_ck rfl (by omega) (by omega) (Ev_so ⟨c, ?_, Sm.rf⟩)) (fun h1 => Ev_i (fun h => ?_) (fun h2 => Ev_t (by omega) ?_)))
  · rw [if_pos h, clN (by omega), (hC.2.2 a ha).1]
  · rw [if_neg h0, if_pos h, clN (by omega), (hC.2.2 a ha).2]
  · unfold f_X9_layerOf_1
    refine Ev_bd (fun r => r.1 = nI (layN f o a) ∧ Sm [4, 5] c r.2) (Ev_bd _ (C_layers hG hC) (fun r ⟨_, h2, h3⟩ => Ev_ck rfl (by omega) (by omega) (Ev_so ⟨by rw [clN (by omega)]; exact h3 a ha, h2⟩))) (fun r ⟨p1, p2⟩ => Ev_so ⟨_, ?_, p2.mono (by decide)⟩)
    rw [if_neg h0, if_neg h1, if_pos h, p1]
  · refine Ev_bd _ (C_exch hG hC ha) (fun r ⟨p1, p2, p3⟩ => Ev_bd _ (s_bitCount r.1) (fun y hy => Ev_so ⟨_, ?_, p1.mono (by decide)⟩))
    rw [if_neg h0, if_neg h1, if_neg h2, hy, p3.ct hG.2.1]
theorem M_comparator {n k a b : Nat} {f o : Nat → Nat} {m : Hp} (hG : Good n k f o) (hM : NetM n k f o m) (ha : a < k) (hb : b < 4) : Ev (f_X11_comparator m (nI a) (nI b)) (fun r => r.1 = nI (cmpA n f o a b) ∧ Sm [3] (wF m 0 0 0) r.2) := by
  have hk24 := hG.2.2.1
  unfold f_X11_comparator f_X11_isComparator
  rw [hM.2.1]
  refine Ev_bde (a := 1) (Ev_eq (Ev_bde M_in (by rw [if_neg (fun z => not_bad (n := k) (by omega) ha ((cm_in (by omega)).mp z))]; exact Ev_ckz (Or.inr rfl) (Ev_so rfl)))) ?_
  have hin : f_X11_in (nI b) 0 3 = some 1 := by
    rw [M_in, if_neg (fun z => not_bad (n := 4) (by omega) hb (cm_in4.mp z))]
  refine Ev_jn1 (fun z => z = 0) (fun z hz => ?_) (fun j hj => Ev_f (by decide) (Ev_bde hin (Ev_f (by decide) (hj 0 rfl))))
  subst hz
  refine Ev_nm (Ev_t (by rw [wF_1, upd_s]; exact Int32.le_refl _) (Ev_bd _ (r_layers hG hM.t) (fun r ⟨_, hS, h3⟩ => ?_)))
  have hN := Sm.nM hM.t hS (by decide) (by decide) (by decide) (by decide)
  have e : ∀ j, j < 4 → (nI b = nI j) = (b = j) := fun j hj => nI_iff (by omega) (by omega)
  rw [n0, n1, n2]
  simp only [e 0 (by omega), e 1 (by omega), e 2 (by omega)]
  unfold cmpA
  refine Ev_i (fun h => Ev_ck rfl (by omega) (by omega) (Ev_so ⟨?_, hS⟩)) (fun h0 => Ev_i (fun h => Ev_ck rfl (by omega) (by omega) (Ev_so ⟨?_, hS⟩)) (fun h1 => Ev_i (fun h => Ev_ck rfl (by omega) (by omega) (Ev_so ⟨?_, hS⟩)) (fun h2 => Ev_bd _ (r_often hG hN ha) (fun y hy => Ev_so ⟨?_, hS⟩))))
  · rw [if_pos h, clN (by omega), (hN.2.2.1 a ha).1]
  · rw [if_neg h0, if_pos h, clN (by omega), (hN.2.2.1 a ha).2]
  · rw [if_neg h0, if_neg h1, if_pos h, clN (by omega)]; exact h3 a ha
  · rw [if_neg h0, if_neg h1, if_neg h2, hy]
theorem pc_8 {L : Nat} {xs : Nat → Int32} {i : Int32} {s : LWS} {kont : LWS → Option Unit} (hI : Inv s) (hi : OKi L i) (hk : ∀ s1, Inv s1 → kont s1 = some ()) : lc_8 L xs i s kont = some () := by
  obtain ⟨c, m, out⟩ := s
  have hI0 := hI
  obtain ⟨n, k, f, o, hG, hC, hM, hT, hB, hS, hSt, hA⟩ := hI
  have hk24 := hG.2.2.1
  generalize hx : xs (i + 1).toNatClampNeg = x
  generalize hy : xs (i + 2).toNatClampNeg = y
  by_cases hb : badI k x
  · have h1 : f_X10_comparator c x y = some (.inl ("java/lang/IndexOutOfBoundsException", c)) := by
      unfold f_X10_comparator
      exact bdx_l (C_cmp_f hC.2.1 hb)
    have h2 : f_X11_comparator m x y = some (0, wF m 0 0 1) := by
      refine Ev_eq ?_
      unfold f_X11_comparator f_X11_isComparator
      rw [hM.2.1]
      refine Ev_bde (a := 0) (Ev_eq (Ev_bde M_in (by rw [if_pos ((cm_in (by omega)).mpr hb)]; exact Ev_ckz (Or.inl rfl) (Ev_so rfl)))) ?_
      refine Ev_jn1 (fun z => z = 1) (fun z hz => ?_) (fun j hj => Ev_t rfl (hj 1 rfl))
      subst hz
      exact Ev_nm (Ev_f (by rw [wF_1, upd_s]; decide) (Ev_so rfl))
    simp [lc_8, fh_comparator, hx, hy, h1, h2, hcatch, bd, nm, setM, setC, setO, f_X11_thrown, jn0, wF_1, upd_s, (hi _).1, (hi _).2.1]
    exact hk _ hI0.thrown
  · obtain ⟨a, ha, rfl⟩ := (wire_or (n := k) (by omega) x).resolve_left hb
    by_cases hb2 : badI 4 y
    · have h1 : f_X10_comparator c (nI a) y = some (.inl ("java/lang/IllegalArgumentException", c)) := by
        refine Ev_eq ?_
        unfold f_X10_comparator
        rw [bdx_r (C_cmp_t hC.2.1 hk24 ha)]
        exact Ev_f (ne_bad (a := 0) (by omega) (by omega) hb2) (Ev_f (ne_bad (a := 1) (by omega) (by omega) hb2) (Ev_f (ne_bad (a := 2) (by omega) (by omega) hb2) (Ev_f (ne_bad (a := 3) (by omega) (by omega) hb2) (Ev_so rfl))))
      have h2 : f_X11_comparator m (nI a) y = some (0, wF m 0 0 2) := by
        refine Ev_eq ?_
        unfold f_X11_comparator f_X11_isComparator
        rw [hM.2.1]
        refine Ev_bde (a := 1) (Ev_eq (Ev_bde M_in (by rw [if_neg (fun z => hb ((cm_in (by omega)).mp z))]; exact Ev_ckz (Or.inr rfl) (Ev_so rfl)))) ?_
        refine Ev_jn1 (fun z => z = 2) (fun z hz => ?_) (fun j hj => Ev_f (by decide) (Ev_bde M_in (Ev_t (by rw [if_pos (cm_in4.mpr hb2)]) (hj 2 rfl))))
        subst hz
        exact Ev_nm (Ev_f (by rw [wF_1, upd_s]; decide) (Ev_so rfl))
      simp [lc_8, fh_comparator, hx, hy, h1, h2, hcatch, bd, nm, setM, setC, setO, f_X11_thrown, jn0, wF_1, upd_s, (hi _).1, (hi _).2.1]
      exact hk _ hI0.thrown
    · obtain ⟨b, hb3, rfl⟩ := (wire_or (n := 4) (by omega) y).resolve_left hb2
      obtain ⟨r1, h1, c1, rfl, a1⟩ := C_comparator hG hC ha hb3
      obtain ⟨r2, h2, b1, b2⟩ := M_comparator hG hM ha hb3
      have e0 : r2.2.1 0 0 = 0 := by rw [(b2 0 (by decide)).1, wF_1, upd_s]
      simp [lc_8, fh_comparator, hx, hy, h1, h2, b1, e0, hcatch, bd, nm, setM, setC, setO, f_X11_thrown, jn0, (hi _).1, (hi _).2.1, updL_s, lgc]
      exact hk _ (hI0.scr2 (a1.mono (by decide)) (b2.mono (by decide)))
