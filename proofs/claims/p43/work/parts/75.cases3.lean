/-! CASES add, mirror, wipe, came, isStep -/
/-- a number that is a wire, or none -/
abbrev badI (n : Nat) (x : Int32) : Prop := x < 0 ∨ nI n ≤ x
theorem wire_or {n : Nat} (hn : n < 2 ^ 31) (x : Int32) : badI n x ∨ ∃ a, a < n ∧ x = nI a := by
  rcases pk_ix x hn with h | h | h
  · exact Or.inl (Or.inl h)
  · exact Or.inl (Or.inr h)
  · exact Or.inr h
theorem lt_of_nI {n : Nat} {x : Int32} (hn : 0 < n) (hn2 : n < 2 ^ 31) (h : nI n ≤ x) : nI (n - 1) < x := by
  rw [Int32.lt_iff_toInt_lt, nI_toInt (by omega)]
  rw [Int32.le_iff_toInt_le, nI_toInt hn2] at h
  omega
theorem C_wire_t {n a : Nat} {c : Hp} (hc : c.1 1 0 = nI n) (hn : n ≤ 6) (ha : a < n) : f_X10_checkWire c (nI a) = some (.inr c) := by
  refine Ev_eq ?_
  unfold f_X10_checkWire
  refine Ev_jn0 False (fun h => h.elim) (fun j hj => Ev_f (nI_pos (by omega)) (Ev_t (by rw [hc, nI_ltI (by omega) (by omega)]; exact ha) (Ev_so rfl)))
theorem C_wire_f {n : Nat} {c : Hp} {x : Int32} (hc : c.1 1 0 = nI n) (h : badI n x) : f_X10_checkWire c x = some (.inl ("java/lang/IndexOutOfBoundsException", c)) := by
  refine Ev_eq ?_
  unfold f_X10_checkWire
  refine Ev_jn0 True (fun _ => Ev_so rfl) (fun j hj => Ev_i (fun _ => hj trivial) (fun h0 => ?_))
  refine Ev_f ?_ (hj trivial)
  rcases h with h | h
  · exact absurd h h0
  · rw [hc]; exact Int32.not_lt.mpr h
theorem C_two {n : Nat} {c : Hp} {x y : Int32} (hc : c.1 1 0 = nI n) (hn : n ≤ 6) : f_X10_checkTwoWires c x y = some (if badI n x ∨ badI n y then .inl ("java/lang/IndexOutOfBoundsException", c) else if x = y then .inl ("java/lang/IllegalArgumentException", c) else .inr c) := by
  unfold f_X10_checkTwoWires
  by_cases h1 : badI n x
  · rw [bdx_l (C_wire_f hc h1), if_pos (Or.inl h1)]
  · obtain ⟨a, ha, rfl⟩ := (wire_or (n := n) (by omega) x).resolve_left h1
    rw [bdx_r (C_wire_t hc hn ha)]
    by_cases h2 : badI n y
    · rw [bdx_l (C_wire_f hc h2), if_pos (Or.inr h2)]
    · obtain ⟨b, hb, rfl⟩ := (wire_or (n := n) (by omega) y).resolve_left h2
      have hq : ¬ (badI n (nI a) ∨ badI n (nI b)) := fun q => q.elim h1 h2
      rw [bdx_r (C_wire_t hc hn hb)]
      simp only [hq, if_false]
      split <;> rfl
theorem C_room {k : Nat} {c : Hp} {r : Nat} (hc : c.1 1 1 = nI k) (hk : k ≤ 24) (hr : r ≤ 24) : f_X10_checkRoomFor c (nI r) = some (if k + r ≤ 24 then .inr c else .inl ("java/lang/IllegalStateException", c)) := by
  unfold f_X10_checkRoomFor
  rw [hc, n24, nsub hr]
  by_cases h : k + r ≤ 24
  · rw [if_pos h, if_pos (le_n (by omega) (by omega))]
  · rw [if_neg h, if_neg (nle_n (by omega) (by omega))]
def updN (f : Nat → Nat) (k x : Nat) : Nat → Nat := fun i => if i = k then x else f i
theorem C_append {n k a b : Nat} {f o : Nat → Nat} {c : Hp} (hC : NetC n k f o c) (hk : k < 24) : Ev (f_X9_append_1 c (nI a) (nI b)) (fun c1 => NetC n (k + 1) (updN f k a) (updN o k b) c1 ∧ Sm [1, 2, 3] c c1) := by
  unfold f_X9_append_1
  refine Ev_f (by rw [hC.2.1]; exact nle_n (a := 24) hk (by omega)) (Ev_ck hC.2.1 hk (by omega) (Ev_nm ?_))
  have e1 : (wI c 2 (c.1 1 1) (nI a)).1 1 1 = nI k := by rw [wI_n _ _ _ _ _ (by decide)]; exact hC.2.1
  refine Ev_ck e1 hk (by omega) (Ev_nm ?_)
  have e2 : (wI (wI c 2 (c.1 1 1) (nI a)) 3 ((wI c 2 (c.1 1 1) (nI a)).1 1 1) (nI b)).1 1 1 + 1 = nI (k + 1) := by
    rw [wI_n _ _ _ _ _ (by decide), e1]; exact nI_add k 1
  refine Ev_nm (Ev_so ⟨⟨?_, ?_, fun i hi => ?_⟩, ((Sm.rf.sI (by decide)).sI (by decide)).sF (by decide)⟩)
  · rw [wF_1, upd_n _ _ (by decide)]
    simp (disch := omega) only [wI_n]
    exact hC.1
  · rw [wF_1, upd_s]; exact e2
  · rw [e1, hC.2.1]
    unfold updN
    by_cases e : i = k
    · subst e
      simp (disch := omega) only [wF_n, wI_1, wI_n, clN, upd_s, ite_true, and_self]
    · simp (disch := omega) only [wF_n, wI_1, wI_n, clN, upd_n, if_neg e]
      exact hC.2.2 i (by omega)
theorem Good.add {n k a b : Nat} {f o : Nat → Nat} (hG : Good n k f o) (hk : k < 24) (ha : a < n) (hb : b < n) (hab : a ≠ b) : Good n (k + 1) (updN f k a) (updN o k b) := by
  refine ⟨hG.1, hG.2.1, hk, fun i hi => ?_⟩
  unfold updN
  by_cases e : i = k
  · subst e; rw [if_pos rfl, if_pos rfl]; exact ⟨ha, hb, hab⟩
  · rw [if_neg e, if_neg e]; exact hG.2.2.2 i (by omega)
theorem C_add {n k a b : Nat} {f o : Nat → Nat} {c : Hp} (hC : NetC n k f o c) (hn : n ≤ 6) (hk : k < 24) (ha : a < n) (hb : b < n) (hab : a ≠ b) : Ev (f_X10_add c (nI a) (nI b)) (fun r => ∃ c1, r = .inr (nI k, c1) ∧ NetC n (k + 1) (updN f k a) (updN o k b) c1 ∧ Sm [1, 2, 3, 20, 23, 24, 25, 27] c c1 ∧ FgC c1) := by
  unfold f_X10_add
  rw [bdx_r (C_two (x := nI a) (y := nI b) hC.1 hn |>.trans (by
    have q1 : ¬ (badI n (nI a) ∨ badI n (nI b)) := by
      rintro (h | h)
      · exact h.elim (nI_pos (by omega)) (nle_n ha (by omega))
      · exact h.elim (nI_pos (by omega)) (nle_n hb (by omega))
    rw [if_neg q1, if_neg (by rw [neqI (by omega) (by omega)]; exact hab)]))]
  rw [n1, bdx_r ((C_room (r := 1) hC.2.1 (by omega) (by omega)).trans (by rw [if_pos (by omega)]))]
  refine Ev_bd _ (C_append hC hk) (fun c1 ⟨h1, h2⟩ => ?_)
  refine Ev_bd _ (s_forgetC c1) (fun c2 ⟨g1, g2, g3, g4, g5⟩ => ?_)
  have hN := h1.keep (c1 := c2) (by rw [(g1 1 (by decide)).1]) (by rw [(g1 1 (by decide)).1]) (g1 2 (by decide)).1 (g1 3 (by decide)).1
  refine Ev_so ⟨c2, ?_, hN, (h2.mono (by decide)).tr (g1.mono (by decide)), g2, g3, g4, g5⟩
  rw [hN.2.1, nsub (by omega)]
  rfl
