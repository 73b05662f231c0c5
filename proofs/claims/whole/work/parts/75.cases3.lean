/-! CASES add, mirror, wipe, came, isStep -/
theorem Inv.keep {c m c1 m1 : Hp} {out out1 : Nat → Int64} (h : Inv (c, m, out)) (hc : Sm [4, 5, 6, 7, 8, 9, 10, 14, 15, 17, 18, 19, 26, 28, 30, 31, 34] c c1) (hm : Sm [0, 3, 5, 6, 7, 11, 12, 13, 15, 16, 17, 18] m m1) (e : ∀ j, j ∈ [1, 2, 7, 11, 14] → m1.1 0 j = m.1 0 j) : Inv (c1, m1, out1) := by
  obtain ⟨n, k, f, o, hG, hC, hM, hT, hB, hS, hSt, hA⟩ := h
  have ec : ∀ q, q ∉ [4, 5, 6, 7, 8, 9, 10, 14, 15, 17, 18, 19, 26, 28, 30, 31, 34] → c1.1 q = c.1 q := fun q hq => (hc q hq).1
  have em : ∀ q, q ∉ [0, 3, 5, 6, 7, 11, 12, 13, 15, 16, 17, 18] → m1.1 q = m.1 q := fun q hq => (hm q hq).1
  refine ⟨n, k, f, o, hG, hC.keep (by rw [ec 1 (by decide)]) (by rw [ec 1 (by decide)]) (ec 2 (by decide)) (ec 3 (by decide)), hM.keep (e 1 (by decide)) (e 2 (by decide)) (e 7 (by decide)) (em 1 (by decide)) (em 2 (by decide)) (em 4 (by decide)), hT.keep (by rw [ec 11 (by decide)]) (ec 12 (by decide)) (e 11 (by decide)) (em 8 (by decide)), ?_, ?_, hSt.keep (ec 29 (by decide)), hA.keep (by rw [(hc 32 (by decide)).2]) (em 14 (by decide))⟩
  · obtain ⟨t, v, h1, h2, h3, h4, h5, h6, h7⟩ := hB
    refine ⟨t, v, h1, h2, h3, ?_, (e 14 (by decide)).trans h5, fun x hx => ?_, fun i hi => ?_⟩
    · show c1.1 23 4 = _
      rw [ec 23 (by decide)]; exact h4
    · show c1.1 24 x = _ ∧ c1.1 25 x = _ ∧ m1.1 10 x = _
      rw [ec 24 (by decide), ec 25 (by decide), em 10 (by decide)]; exact h6 x hx
    · show c1.1 27 i = _ ∧ m1.1 9 i = c1.1 27 i
      rw [ec 27 (by decide), em 9 (by decide)]; exact h7 i hi
  · rcases hS with q | ⟨q1, q2⟩
    · exact Or.inl (by rw [ec 20 (by decide)]; exact q)
    · refine Or.inr ⟨by rw [ec 20 (by decide)]; exact q1, fun v hv => ?_⟩
      rw [ec 22 (by decide)]
      exact q2 v hv
theorem M_in {x lo hi : Int32} : f_X11_in x lo hi = some (if x < lo ∨ hi < x then 0 else 1) := by
  refine Ev_eq ?_
  unfold f_X11_in
  refine Ev_i (fun h => Ev_ckz (Or.inl rfl) (Ev_so (by rw [if_pos (Or.inl h)]))) (fun h => Ev_i (fun h2 => Ev_ckz (Or.inl rfl) (Ev_so (by rw [if_pos (Or.inr h2)]))) (fun h2 => Ev_ckz (Or.inr rfl) (Ev_so ?_)))
  rw [if_neg (fun q => q.elim h h2)]
/-- a number that is a wire, or none -/
abbrev badI (n : Nat) (x : Int32) : Prop := x < 0 ∨ nI n ≤ x
theorem wire_or {n : Nat} (hn : n < 2 ^ 31) (x : Int32) : badI n x ∨ ∃ a, a < n ∧ x = nI a := by
  rcases pk_ix x hn with h | h | h
  · exact Or.inl (Or.inl h)
  · exact Or.inl (Or.inr h)
  · exact Or.inr h
theorem lt_of_nI {n : Nat} {x : Int32} (hn : 0 < n) (hn2 : n < 2 ^ 31) (h : nI n ≤ x) : nI (n - 1) < x := by
  rw [Int32.lt_iff_toInt_lt, nI_toInt (by omega)]
  rw [Int32.le_iff_toInt_le, nI_toInt hn2] at h
  omega
theorem M_isWire_t {n a : Nat} {m : Hp} (hm : m.1 0 1 = nI n) (hn : n ≤ 6) (ha : a < n) : f_X11_isWire m (nI a) = some 1 := by
  refine Ev_eq ?_
  unfold f_X11_isWire
  refine Ev_bde (M_in) ?_
  rw [hm, n1, nsub (by omega), if_neg]
  · exact Ev_ckz (Or.inr rfl) (Ev_so rfl)
  · rintro (h | h)
    · exact nI_pos (by omega) h
    · rw [nI_ltI (by omega) (by omega)] at h; omega
theorem M_isWire_f {n : Nat} {m : Hp} {x : Int32} (hm : m.1 0 1 = nI n) (h0 : 0 < n) (hn : n ≤ 6) (h : badI n x) : f_X11_isWire m x = some 0 := by
  refine Ev_eq ?_
  unfold f_X11_isWire
  refine Ev_bde (M_in) ?_
  rw [hm, n1, nsub (by omega), if_pos]
  · exact Ev_ckz (Or.inl rfl) (Ev_so rfl)
  · rcases h with h | h
    · exact Or.inl h
    · exact Or.inr (lt_of_nI h0 (by omega) h)
theorem C_wire_t {n a : Nat} {c : Hp} (hc : c.1 1 0 = nI n) (hn : n ≤ 6) (ha : a < n) : f_X10_checkWire c (nI a) = some (.inr c) := by
  refine Ev_eq ?_
  unfold f_X10_checkWire
  refine Ev_jn0 False (fun h => h.elim) (fun j hj => Ev_f (nI_pos (by omega)) (Ev_t (by rw [hc, nI_ltI (by omega) (by omega)]; exact ha) (Ev_so rfl)))
theorem C_wire_f {n : Nat} {c : Hp} {x : Int32} (hc : c.1 1 0 = nI n) (h : badI n x) : f_X10_checkWire c x = some (.inl ("java/lang/IndexOutOfBoundsException", c)) := by
  refine Ev_eq ?_
  unfold f_X10_checkWire
  refine Ev_jn0 True (fun _ => Ev_so rfl) (fun j hj => Ev_i (fun _ => hj trivial) (fun h0 => ?_))
  refine Ev_f ?_ (hj trivial)
  rcases h with h | h
  · exact absurd h h0
  · rw [hc]; exact Int32.not_lt.mpr h
theorem C_two {n : Nat} {c : Hp} {x y : Int32} (hc : c.1 1 0 = nI n) (hn : n ≤ 6) : f_X10_checkTwoWires c x y = some (if badI n x ∨ badI n y then .inl ("java/lang/IndexOutOfBoundsException", c) else if x = y then .inl ("java/lang/IllegalArgumentException", c) else .inr c) := by
  unfold f_X10_checkTwoWires
  by_cases h1 : badI n x
  · rw [bdx_l (C_wire_f hc h1), if_pos (Or.inl h1)]
  · obtain ⟨a, ha, rfl⟩ := (wire_or (n := n) (by omega) x).resolve_left h1
    rw [bdx_r (C_wire_t hc hn ha)]
    by_cases h2 : badI n y
    · rw [bdx_l (C_wire_f hc h2), if_pos (Or.inr h2)]
    · obtain ⟨b, hb, rfl⟩ := (wire_or (n := n) (by omega) y).resolve_left h2
      have hq : ¬ (badI n (nI a) ∨ badI n (nI b)) := fun q => q.elim h1 h2
      rw [bdx_r (C_wire_t hc hn hb)]
      simp only [hq, if_false]
      split <;> rfl
theorem C_room {k : Nat} {c : Hp} {r : Nat} (hc : c.1 1 1 = nI k) (hk : k ≤ 24) (hr : r ≤ 24) : f_X10_checkRoomFor c (nI r) = some (if k + r ≤ 24 then .inr c else .inl ("java/lang/IllegalStateException", c)) := by
  unfold f_X10_checkRoomFor
  rw [hc, n24, nsub hr]
  by_cases h : k + r ≤ 24
  · rw [if_pos h, if_pos (le_n (by omega) (by omega))]
  · rw [if_neg h, if_neg (nle_n (by omega) (by omega))]
def updN (f : Nat → Nat) (k x : Nat) : Nat → Nat := fun i => if i = k then x else f i
theorem C_append {n k a b : Nat} {f o : Nat → Nat} {c : Hp} (hC : NetC n k f o c) (hk : k < 24) : Ev (f_X9_append_1 c (nI a) (nI b)) (fun c1 => NetC n (k + 1) (updN f k a) (updN o k b) c1 ∧ Sm [1, 2, 3] c c1) := by
  unfold f_X9_append_1
  refine Ev_f (by rw [hC.2.1]; exact nle_n (a := 24) hk (by omega)) (Ev_ck hC.2.1 hk (by omega) (Ev_nm ?_))
  have e1 : (wI c 2 (c.1 1 1) (nI a)).1 1 1 = nI k := by rw [wI_n _ _ _ _ _ (by decide)]; exact hC.2.1
  refine Ev_ck e1 hk (by omega) (Ev_nm ?_)
  have e2 : (wI (wI c 2 (c.1 1 1) (nI a)) 3 ((wI c 2 (c.1 1 1) (nI a)).1 1 1) (nI b)).1 1 1 + 1 = nI (k + 1) := by
    rw [wI_n _ _ _ _ _ (by decide), e1]; exact nI_add k 1
  refine Ev_nm (Ev_so ⟨⟨?_, ?_, fun i hi => ?_⟩, ((Sm.rf.sI (by decide)).sI (by decide)).sF (by decide)⟩)
  · rw [wF_1, upd_n _ _ (by decide)]
    simp (disch := omega) only [wI_n]
    exact hC.1
  · rw [wF_1, upd_s]; exact e2
  · rw [e1, hC.2.1]
    unfold updN
    by_cases e : i = k
    · subst e
      simp (disch := omega) only [wF_n, wI_1, wI_n, clN, upd_s, ite_true, and_self]
    · simp (disch := omega) only [wF_n, wI_1, wI_n, clN, upd_n, if_neg e]
      exact hC.2.2 i (by omega)
theorem M_puts {n k a b : Nat} {f o : Nat → Nat} {m : Hp} (hM : NetM n k f o m) (hk : k < 25) : Ev (f_X11_puts m (nI a) (nI b)) (fun m1 => NetM n (k + 1) (updN f k a) (updN o k b) m1 ∧ Sm [0, 1, 2] m m1 ∧ ∀ j, j ≠ 2 → m1.1 0 j = m.1 0 j) := by
  unfold f_X11_puts
  refine Ev_ck hM.2.1 hk (by omega) (Ev_nm ?_)
  have e1 : (wI m 1 (m.1 0 2) (nI a)).1 0 2 = nI k := by rw [wI_n _ _ _ _ _ (by decide)]; exact hM.2.1
  refine Ev_ck e1 hk (by omega) (Ev_nm ?_)
  have e2 : (wI (wI m 1 (m.1 0 2) (nI a)) 2 ((wI m 1 (m.1 0 2) (nI a)).1 0 2) (nI b)).1 0 2 + 1 = nI (k + 1) := by
    rw [wI_n _ _ _ _ _ (by decide), e1]; exact nI_add k 1
  have e3 : ∀ j, j ≠ 2 → (wF (wI (wI m 1 (m.1 0 2) (nI a)) 2 ((wI m 1 (m.1 0 2) (nI a)).1 0 2) (nI b)) 0 2 ((wI (wI m 1 (m.1 0 2) (nI a)) 2 ((wI m 1 (m.1 0 2) (nI a)).1 0 2) (nI b)).1 0 2 + 1)).1 0 j = m.1 0 j := by
    intro j hj
    rw [wF_1, upd_n _ _ hj]
    simp (disch := omega) only [wI_n]
  refine Ev_nm (Ev_so ⟨⟨(e3 1 (by decide)).trans hM.1, ?_, fun i hi => ?_, (e3 7 (by decide)).trans hM.2.2.2.1, fun r hr x hx => ?_⟩, ((Sm.rf.sI (by decide)).sI (by decide)).sF (by decide), e3⟩)
  · rw [wF_1, upd_s]; exact e2
  · rw [e1, hM.2.1]
    unfold updN
    by_cases e : i = k
    · subst e
      simp (disch := omega) only [wF_n, wI_1, wI_n, clN, upd_s, ite_true, and_self]
    · simp (disch := omega) only [wF_n, wI_1, wI_n, clN, upd_n, if_neg e]
      exact hM.2.2.1 i (by omega)
  · simp (disch := omega) only [wF_n, wI_n]
    exact hM.2.2.2.2 r hr x hx
theorem Good.add {n k a b : Nat} {f o : Nat → Nat} (hG : Good n k f o) (hk : k < 24) (ha : a < n) (hb : b < n) (hab : a ≠ b) : Good n (k + 1) (updN f k a) (updN o k b) := by
  refine ⟨hG.1, hG.2.1, hk, fun i hi => ?_⟩
  unfold updN
  by_cases e : i = k
  · subst e; rw [if_pos rfl, if_pos rfl]; exact ⟨ha, hb, hab⟩
  · rw [if_neg e, if_neg e]; exact hG.2.2.2 i (by omega)
theorem C_add {n k a b : Nat} {f o : Nat → Nat} {c : Hp} (hC : NetC n k f o c) (hn : n ≤ 6) (hk : k < 24) (ha : a < n) (hb : b < n) (hab : a ≠ b) : Ev (f_X10_add c (nI a) (nI b)) (fun r => ∃ c1, r = .inr (nI k, c1) ∧ NetC n (k + 1) (updN f k a) (updN o k b) c1 ∧ Sm [1, 2, 3, 20, 23, 24, 25, 27] c c1 ∧ FgC c1) := by
  unfold f_X10_add
  rw [bdx_r (C_two (x := nI a) (y := nI b) hC.1 hn |>.trans (by
    have q1 : ¬ (badI n (nI a) ∨ badI n (nI b)) := by
      rintro (h | h)
      · exact h.elim (nI_pos (by omega)) (nle_n ha (by omega))
      · exact h.elim (nI_pos (by omega)) (nle_n hb (by omega))
    rw [if_neg q1, if_neg (by rw [neqI (by omega) (by omega)]; exact hab)]))]
  rw [n1, bdx_r ((C_room (r := 1) hC.2.1 (by omega) (by omega)).trans (by rw [if_pos (by omega)]))]
  refine Ev_bd _ (C_append hC hk) (fun c1 ⟨h1, h2⟩ => ?_)
  refine Ev_bd _ (s_forgetC c1) (fun c2 ⟨g1, g2, g3, g4, g5⟩ => ?_)
  have hN := h1.keep (c1 := c2) (by rw [(g1 1 (by decide)).1]) (by rw [(g1 1 (by decide)).1]) (g1 2 (by decide)).1 (g1 3 (by decide)).1
  refine Ev_so ⟨c2, ?_, hN, (h2.mono (by decide)).tr (g1.mono (by decide)), g2, g3, g4, g5⟩
  rw [hN.2.1, nsub (by omega)]
  rfl
theorem M_add {n k a b : Nat} {f o : Nat → Nat} {m : Hp} (hM : NetM n k f o m) (hn : n ≤ 6) (hk : k < 24) (ha : a < n) (hb : b < n) (hab : a ≠ b) : Ev (f_X11_add m (nI a) (nI b)) (fun r => ∃ m1, r = (nI k, m1) ∧ NetM n (k + 1) (updN f k a) (updN o k b) m1 ∧ Sm [0, 1, 2, 9, 10] m m1 ∧ m1.1 0 0 = 0 ∧ m1.1 0 11 = m.1 0 11 ∧ FgM m1) := by
  unfold f_X11_add
  refine Ev_bde (M_isWire_t hM.1 hn ha) ?_
  refine Ev_jn1 (fun z => z = 0) (fun z hz => ?_) (fun j hj => ?_)
  · subst hz
    refine Ev_nm (Ev_t (by rw [wF_1, upd_s]; exact Int32.le_refl _) ?_)
    have hM0 : NetM n k f o (wF m 0 0 0) := by
      have e : ∀ j, j ≠ 0 → (wF m 0 0 0).1 0 j = m.1 0 j := fun j hj => by rw [wF_1, upd_n _ _ hj]
      exact hM.keep (e 1 (by decide)) (e 2 (by decide)) (e 7 (by decide)) (wF_n _ _ _ _ _ (by decide)) (wF_n _ _ _ _ _ (by decide)) (wF_n _ _ _ _ _ (by decide))
    refine Ev_bd _ (M_puts hM0 (by omega)) (fun m1 ⟨h1, h2, h3⟩ => ?_)
    refine Ev_bd _ (s_forgetM m1) (fun m2 ⟨g1, g2, g3, g4, g5⟩ => ?_)
    have hN := h1.keep (m1 := m2) (g3 1 (by decide)) (g3 2 (by decide)) (g3 7 (by decide)) (g1 1 (by decide)).1 (g1 2 (by decide)).1 (g1 4 (by decide)).1
    refine Ev_so ⟨m2, ?_, hN, (((Sm.rf (h := m)).sF (q := 0) (j := 0) (x := 0) (by decide)).tr (h2.mono (by decide))).tr (g1.mono (by decide)), ?_, ?_, g2, g4, g5⟩
    · rw [hN.2.1, n1, nsub (by omega)]; rfl
    · rw [g3 0 (by decide), h3 0 (by decide), wF_1, upd_s]
    · rw [g3 11 (by decide), h3 11 (by decide), wF_1, upd_n _ _ (by decide)]
  · refine Ev_jn0 False (fun h => h.elim) (fun j2 hj2 => ?_)
    refine Ev_f (by decide) (Ev_bde (M_isWire_t hM.1 hn hb) (Ev_f (by decide) (Ev_f (by rw [neqI (by omega) (by omega)]; exact hab) (Ev_f (by rw [hM.2.1, n24, neqI (by omega) (by omega)]; omega) (hj 0 rfl)))))
/-- the reference's add, refused -/
theorem M_addX {n k : Nat} {f o : Nat → Nat} {m : Hp} {x y : Int32} (hM : NetM n k f o m) (h0 : 0 < n) (hn : n ≤ 6) (hk : k ≤ 24) (h : badI n x ∨ badI n y ∨ x = y ∨ k = 24) : f_X11_add m x y = some (0, wF m 0 0 (if badI n x ∨ badI n y then 1 else if x = y then 2 else 3)) := by
  refine Ev_eq ?_
  unfold f_X11_add
  generalize hw : (if badI n x ∨ badI n y then (1 : Int32) else if x = y then 2 else 3) = w
  have hwp : ¬ w ≤ 0 := by
    subst hw
    split
    · decide
    · split <;> decide
  by_cases h1 : badI n x
  · refine Ev_bde (M_isWire_f hM.1 h0 hn h1) ?_
    rw [if_pos (Or.inl h1)] at hw
    refine Ev_jn1 (fun z => z = 1) (fun z hz => ?_) (fun j hj => Ev_jn0 True (fun _ => hj 1 rfl) (fun j2 hj2 => Ev_t rfl (hj2 trivial)))
    subst hz; subst hw
    exact Ev_nm (Ev_f (by rw [wF_1, upd_s]; exact hwp) (Ev_so rfl))
  · obtain ⟨a, ha, rfl⟩ := (wire_or (n := n) (by omega) x).resolve_left h1
    refine Ev_bde (M_isWire_t hM.1 hn ha) ?_
    refine Ev_jn1 (fun z => z = w) (fun z hz => ?_) (fun j hj => ?_)
    · subst hz
      exact Ev_nm (Ev_f (by rw [wF_1, upd_s]; exact hwp) (Ev_so rfl))
    · by_cases h2 : badI n y
      · rw [if_pos (Or.inr h2)] at hw
        exact Ev_jn0 True (fun _ => hj 1 hw) (fun j2 hj2 => Ev_f (by decide) (Ev_bde (M_isWire_f hM.1 h0 hn h2) (Ev_t rfl (hj2 trivial))))
      · obtain ⟨b, hb, rfl⟩ := (wire_or (n := n) (by omega) y).resolve_left h2
        rw [if_neg (fun q => q.elim h1 h2)] at hw
        refine Ev_jn0 False (fun h => h.elim) (fun j2 hj2 => Ev_f (by decide) (Ev_bde (M_isWire_t hM.1 hn hb) (Ev_f (by decide) ?_)))
        refine Ev_i (fun e => hj 2 (by rw [if_pos e] at hw; exact hw)) (fun e => ?_)
        rw [if_neg e] at hw
        have hk24 : k = 24 := by
          rcases h with h | h | h | h
          · exact absurd h h1
          · exact absurd h h2
          · exact absurd h e
          · exact h
        exact Ev_t (by rw [hM.2.1, hk24]; rfl) (hj 3 hw)
theorem pc_1 {L : Nat} {xs : Nat → Int32} {i : Int32} {s : LWS} {kont : LWS → Option Unit} (hI : Inv s) (hi : OKi L i) (hk : ∀ s1, Inv s1 → kont s1 = some ()) : lc_1 L xs i s kont = some () := by
  obtain ⟨c, m, out⟩ := s
  have hI0 := hI
  obtain ⟨n, k, f, o, hG, hC, hM, hT, hB, hS, hSt, hA⟩ := hI
  generalize hx : xs (i + 1).toNatClampNeg = x
  generalize hy : xs (i + 2).toNatClampNeg = y
  have hn := hG.2.1
  by_cases hb : badI n x ∨ badI n y ∨ x = y ∨ k = 24
  · have h2 := M_addX hM (by have := hG.1; omega) hn hG.2.2.1 hb
    have h3 : f_X10_add c x y = some (.inl (if badI n x ∨ badI n y then "java/lang/IndexOutOfBoundsException" else if x = y then "java/lang/IllegalArgumentException" else "java/lang/IllegalStateException", c)) := by
      unfold f_X10_add
      by_cases h1 : badI n x ∨ badI n y
      · rw [bdx_l ((C_two hC.1 hn).trans (by rw [if_pos h1])), if_pos h1]
      · by_cases e : x = y
        · rw [bdx_l ((C_two hC.1 hn).trans (by rw [if_neg h1, if_pos e])), if_neg h1, if_pos e]
        · have hk24 : k = 24 := by
            rcases hb with h | h | h | h
            · exact absurd (Or.inl h) h1
            · exact absurd (Or.inr h) h1
            · exact absurd h e
            · exact h
          rw [bdx_r ((C_two hC.1 hn).trans (by rw [if_neg h1, if_neg e])), n1, bdx_l ((C_room (r := 1) hC.2.1 hG.2.2.1 (by omega)).trans (by rw [if_neg (by omega)])), if_neg h1, if_neg e]
    by_cases h1 : badI n x ∨ badI n y
    · simp only [h1, if_true] at h2 h3
      simp [lc_1, fh_add, hx, hy, h2, h3, hcatch, bd, nm, setM, setC, setO, f_X11_thrown, jn0, wF_1, upd_s, (hi _).1, (hi _).2.1]
      exact hk _ hI0.thrown
    · by_cases e : x = y
      · subst e
        rw [if_neg h1, if_pos rfl] at h2 h3
        simp [lc_1, fh_add, hx, hy, h2, h3, hcatch, bd, nm, setM, setC, setO, f_X11_thrown, jn0, wF_1, upd_s, (hi _).1, (hi _).2.1]
        exact hk _ hI0.thrown
      · simp only [h1, e, if_false] at h2 h3
        simp [lc_1, fh_add, hx, hy, h2, h3, hcatch, bd, nm, setM, setC, setO, f_X11_thrown, jn0, wF_1, upd_s, (hi _).1, (hi _).2.1]
        exact hk _ hI0.thrown
  · have h1 : ¬ badI n x := fun h => hb (Or.inl h)
    have h2 : ¬ badI n y := fun h => hb (Or.inr (Or.inl h))
    obtain ⟨a, ha, rfl⟩ := (wire_or (n := n) (by omega) x).resolve_left h1
    obtain ⟨b, hb2, rfl⟩ := (wire_or (n := n) (by omega) y).resolve_left h2
    have hab : a ≠ b := fun e => hb (Or.inr (Or.inr (Or.inl (by rw [e]))))
    have hk2 : k < 24 := by
      have := hG.2.2.1
      have : ¬ k = 24 := fun e => hb (Or.inr (Or.inr (Or.inr e)))
      omega
    obtain ⟨r1, g1, c1, rfl, a1, a2, a3⟩ := C_add hC hn hk2 ha hb2 hab
    obtain ⟨r2, g2, m1, rfl, b1, b2, b3, b4, b5⟩ := M_add hM hn hk2 ha hb2 hab
    simp [lc_1, fh_add, hx, hy, g1, g2, hcatch, bd, nm, setM, setC, setO, f_X11_thrown, jn0, b3, updL_s, lgc, (hi _).1, (hi _).2.1]
    exact hk _ (Inv.made2 (hG.add hk2 ha hb2 hab) a1 b1 hT hSt hA (a2.mono (by decide)) (b2.mono (by decide)) b4 a3 b5)
theorem pc_11 {L : Nat} {xs : Nat → Int32} {i : Int32} {s : LWS} {kont : LWS → Option Unit} (hI : Inv s) (hk : ∀ s1, Inv s1 → kont s1 = some ()) : lc_11 L xs i s kont = some () := by
  obtain ⟨c, m, out⟩ := s
  obtain ⟨n, k, f, o, hG, hC, hM, hT, hB, hS, hSt, hA⟩ := hI
  have e : ∀ j, j ≠ 0 → (wF m 0 0 0).1 0 j = m.1 0 j := fun j hj => by rw [wF_1, upd_n _ _ hj]
  have he : c.1 11 1 = m.1 0 11 := by
    obtain ⟨t, ch, h1, h2, h3, h4⟩ := hT
    rw [h2, h3]
  simp [lc_11, f_X10_wipe, f_X8_empty_11, f_X11_wipe, bd, nm, setM, setC, he, e 11 (by decide)]
  refine hk _ ⟨n, k, f, o, hG, ?_, ?_, ?_, ?_, ?_, ?_, ?_⟩
  · exact hC.keep (by rw [wF_n _ _ _ _ _ (by decide)]) (by rw [wF_n _ _ _ _ _ (by decide)]) (wF_n _ _ _ _ _ (by decide)) (wF_n _ _ _ _ _ (by decide))
  · refine hM.keep ?_ ?_ ?_ ?_ ?_ ?_ <;> simp (disch := omega) only [wF_1, wF_n, upd_n]
  · exact ⟨0, fun _ => 0, by omega, by rw [wF_1, upd_s]; rfl, by rw [wF_1, upd_s]; rfl, fun i hi => absurd hi (by omega)⟩
  · obtain ⟨t, v, h1, h2, h3, h4, h5, h6, h7⟩ := hB
    refine ⟨t, v, h1, h2, h3, ?_, ?_, fun x hx => ?_, fun i hi => ?_⟩ <;> simp (disch := omega) only [wF_1, wF_n, upd_n]
    · exact h4
    · exact h5
    · exact h6 x hx
    · exact h7 i hi
  · rcases hS with q | q
    · exact Or.inl (by rw [wF_n _ _ _ _ _ (by decide)]; exact q)
    · exact Or.inr (by rw [wF_n _ _ _ _ _ (by decide), wF_n _ _ _ _ _ (by decide)]; exact q)
  · exact hSt.keep (wF_n _ _ _ _ _ (by decide))
  · refine hA.keep rfl ?_
    simp (disch := omega) only [wF_n]
