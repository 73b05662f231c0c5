theorem Inv.add2 {n k k2 : Nat} {f o f2 o2 : Nat → Nat} {c m c1 m1 : Hp} {out : Nat → Int64} (hG : Good n k2 f2 o2) (hC : NetC n k2 f2 o2 c1) (hM : NetM n k2 f2 o2 m1) (hT : TapeR c m) (hSt : StR c) (hA : AdvR n c m) (hSc : Sm [1, 2, 3, 4, 5, 6, 7, 8, 9, 10, 14, 15, 20, 23, 24, 25, 27] c c1) (hSm : Sm [0, 1, 2, 3, 5, 6, 7, 9, 10] m m1) (e3 : m1.1 0 11 = m.1 0 11) (hf : FgC c1) (hg : FgM m1) : Inv (c1, m1, out) := Inv.made2 hG hC hM hT hSt hA hSc hSm e3 hf hg
theorem ext_good {n k : Nat} {f o : Nat → Nat} {ps : List (Nat × Nat)} (hG : Good n k f o) (hk : k + ps.length ≤ 24) (hps : ∀ p, p ∈ ps → p.1 < n ∧ p.2 < n ∧ p.1 ≠ p.2) : Good n (k + ps.length) (extN f k (ps.map Prod.fst)) (extN o k (ps.map Prod.snd)) := by
  refine ⟨hG.1, hG.2.1, hk, fun i hi => ?_⟩
  unfold extN
  by_cases e : i < k
  · rw [if_pos e, if_pos e]; exact hG.2.2.2 i e
  · rw [if_neg e, if_neg e]
    have hlt : i - k < ps.length := by omega
    have h1 : ∀ g : Nat × Nat → Nat, (ps.map g).getD (i - k) 0 = g ps[i - k] := fun g => by
      rw [List.getD_eq_getElem?_getD, List.getElem?_map, List.getElem?_eq_getElem hlt]; rfl
    rw [h1, h1]
    exact hps _ (List.getElem_mem hlt)
theorem mkL_good : ∀ n, n < 7 → ∀ w, w < 3 → ∀ p, p ∈ mkL n w → p.1 < n ∧ p.2 < n ∧ p.1 ≠ p.2 := by decide
theorem C_make {n k w : Nat} {f o : Nat → Nat} {c : Hp} (hG : Good n k f o) (hC : NetC n k f o c) (hw : w < 3) : Ev (f_X10_make c (nI w)) (fun r => (24 < k + (mkL n w).length → ∃ c1, r = .inl ("java/lang/IllegalStateException", c1) ∧ Sm [6, 7, 8] c c1) ∧ (k + (mkL n w).length ≤ 24 → ∃ c1, r = .inr (nI (mkL n w).length, c1) ∧ NetC n (k + (mkL n w).length) (extN f k ((mkL n w).map Prod.fst)) (extN o k ((mkL n w).map Prod.snd)) c1 ∧ Sm [1, 2, 3, 6, 7, 8, 20, 23, 24, 25, 27] c c1 ∧ FgC c1)) := by
  have hn := hG.2.1
  have hn2 := hG.1
  unfold f_X10_make
  refine Ev_jn0 False (fun h => h.elim) (fun j hj => Ev_f (nI_pos (by omega)) (Ev_t (le_n (b := 2) (by omega) (by omega)) ?_))
  refine Ev_bd (fun h1 => Plan n [] c h1) ?_ (fun h1 hP => ?_)
  · unfold f_X9_begin_6
    refine Ev_nm (Ev_nm (Ev_so ⟨?_, ?_, fun i p hi => by simp at hi, (Sm.rf.sF (by decide)).sF (by decide)⟩))
    · rw [wF_1, upd_n _ _ (by decide), wF_1, upd_s]; exact hC.1
    · rw [wF_1, upd_s]; rfl
  · have hfin : ∀ (h2 : Hp), Plan n (mkL n w) c h2 → Ev (bdx (f_X10_appendPlan h2) (fun r_5 => some (.inr (r_5.1, r_5.2)))) (fun r => (24 < k + (mkL n w).length → ∃ c1, r = .inl ("java/lang/IllegalStateException", c1) ∧ Sm [6, 7, 8] c c1) ∧ (k + (mkL n w).length ≤ 24 → ∃ c1, r = .inr (nI (mkL n w).length, c1) ∧ NetC n (k + (mkL n w).length) (extN f k ((mkL n w).map Prod.fst)) (extN o k ((mkL n w).map Prod.snd)) c1 ∧ Sm [1, 2, 3, 6, 7, 8, 20, 23, 24, 25, 27] c c1 ∧ FgC c1)) := by
      intro h2 hP2
      obtain ⟨r, hr, q1, q2⟩ := C_plan hG hC hP2 (by have := mkL_len (n := n) (w := w) hn; omega)
      by_cases hk : k + (mkL n w).length ≤ 24
      · obtain ⟨c1, rfl, a1, a2, a3⟩ := q2 hk
        rw [bdx_r hr]
        exact Ev_so ⟨fun z => absurd hk (by omega), fun _ => ⟨c1, rfl, a1, a2, a3⟩⟩
      · have := q1 (by omega)
        subst this
        rw [bdx_l hr]
        exact Ev_so ⟨fun _ => ⟨h2, rfl, hP2.2.2.2⟩, fun z => absurd z hk⟩
    have w0 : (nI w = 0) = (w = 0) := nI_iff (b := 0) (by omega) (by omega)
    have w1 : (nI w = 1) = (w = 1) := nI_iff (b := 1) (by omega) (by omega)
    refine Ev_i (fun e => ?_) (fun e => Ev_i (fun e1 => ?_) (fun e1 => ?_))
    · rw [w0] at e
      exact Ev_bd _ (C_bubble hn hn2 hP) (fun h2 hP2 => hfin h2 (by unfold mkL; rw [if_pos e]; exact hP2))
    · rw [w0] at e; rw [w1] at e1
      exact Ev_bd _ (C_brick hn hn2 hP) (fun h2 hP2 => hfin h2 (by unfold mkL; rw [if_neg e, if_pos e1]; exact hP2))
    · rw [w0] at e; rw [w1] at e1
      exact Ev_bd _ (C_merge hn hn2 hP) (fun h2 hP2 => hfin h2 (by unfold mkL; rw [if_neg e, if_neg e1]; exact hP2))
theorem M_make {n k w : Nat} {f o : Nat → Nat} {m : Hp} (hG : Good n k f o) (hM : NetM n k f o m) (hw : w < 3) : Ev (f_X11_make m (nI w)) (fun r => (24 < k + (mkL n w).length → r = (0, wF m 0 0 2)) ∧ (k + (mkL n w).length ≤ 24 → r.1 = nI (mkL n w).length ∧ NetM n (k + (mkL n w).length) (extN f k ((mkL n w).map Prod.fst)) (extN o k ((mkL n w).map Prod.snd)) r.2 ∧ Sm [0, 1, 2, 9, 10] m r.2 ∧ r.2.1 0 0 = 0 ∧ r.2.1 0 11 = m.1 0 11 ∧ FgM r.2)) := by
  have hn := hG.2.1
  have hn2 := hG.1
  have hk24 := hG.2.2.1
  have hlen := mkL_len (n := n) (w := w) hn
  unfold f_X11_make
  refine Ev_bde M_in ?_
  rw [if_neg (fun z => not_bad (n := 3) (by omega) hw (md_in.mp z))]
  refine Ev_jn2 (fun z h => h = m ∧ ((24 < k + (mkL n w).length ∧ z = 2) ∨ (k + (mkL n w).length ≤ 24 ∧ z = 0))) (fun z h ⟨eh, hz⟩ => ?_) (fun kk hk => ?_)
  · subst eh
    rcases hz with ⟨q, rfl⟩ | ⟨q, rfl⟩
    · exact Ev_nm (Ev_f (by rw [wF_1, upd_s]; decide) (Ev_so ⟨fun _ => rfl, fun z => absurd z (by omega)⟩))
    · refine Ev_nm (Ev_t (by rw [wF_1, upd_s]; exact Int32.le_refl _) (Ev_bd _ (s_forgetM _) (fun m1 ⟨c1, c2, c3, c4, c5⟩ => ?_)))
      have hM1 : NetM n k f o m1 := hM.t.keep (c3 1 (by decide)) (c3 2 (by decide)) (c3 7 (by decide)) (c1 1 (by decide)).1 (c1 2 (by decide)).1 (c1 4 (by decide)).1
      refine Ev_bd _ (M_makesAll (al := false) hn hn2 hw hM1 (Or.inr q)) (fun r ⟨e1, hI⟩ => ?_)
      obtain ⟨i1, i2, i3⟩ := hI.fo
      refine Ev_so ⟨fun z => absurd z (by omega), fun _ => ⟨e1, i1, ?_, ?_, ?_, ?_, ?_, ?_⟩⟩
      · exact ((Sm.rf.sF (by decide)).tr (c1.mono (by decide))).tr (i2.mono (by decide))
      · rw [i3 0 (by decide), c3 0 (by decide), wF_1, upd_s]
      · rw [i3 11 (by decide), c3 11 (by decide), wF_1, upd_n _ _ (by decide)]
      · rw [i3 14 (by decide)]; exact c2
      · rw [(i2 10 (by decide)).1]; exact c4
      · rw [(i2 9 (by decide)).1]; exact c5
  · refine Ev_f (by decide) (Ev_bd _ (M_makesAll (al := true) hn hn2 hw hM (Or.inl rfl)) (fun r ⟨e1, hI⟩ => ?_))
    have e2 : r.2 = m := hI
    rw [e1, e2, hM.2.1, nI_add, n24]
    refine Ev_i (fun e => hk _ _ ⟨rfl, Or.inr ⟨?_, rfl⟩⟩) (fun e => hk _ _ ⟨rfl, Or.inl ⟨?_, rfl⟩⟩)
    · rw [nI_leI (by omega) (by omega)] at e; exact e
    · rw [nI_leI (by omega) (by omega)] at e; omega
theorem pc_3 {L : Nat} {xs : Nat → Int32} {i : Int32} {s : LWS} {kont : LWS → Option Unit} (hI : Inv s) (hi : OKi L i) (hk : ∀ s1, Inv s1 → kont s1 = some ()) : lc_3 L xs i s kont = some () := by
  obtain ⟨c, m, out⟩ := s
  have hI0 := hI
  obtain ⟨n, k, f, o, hG, hC, hM, hT, hB, hS, hSt, hA⟩ := hI
  have hk24 := hG.2.2.1
  have hn := hG.2.1
  generalize hx : xs (i + 1).toNatClampNeg = x
  by_cases hb : badI 3 x
  · have h1 : f_X10_make c x = some (.inl ("java/lang/IllegalArgumentException", c)) := by
      refine Ev_eq ?_
      unfold f_X10_make
      refine Ev_jn0 True (fun _ => Ev_so rfl) (fun j hj => Ev_i (fun _ => hj trivial) (fun h0 => Ev_f ?_ (hj trivial)))
      exact Int32.not_le.mpr ((md_in.mpr hb).resolve_left h0)
    have h2 : f_X11_make m x = some (0, wF m 0 0 1) := by
      refine Ev_eq ?_
      unfold f_X11_make
      refine Ev_bde M_in ?_
      rw [if_pos (md_in.mpr hb)]
      refine Ev_jn2 (fun z h => z = 1 ∧ h = m) (fun z h ⟨hz, hh⟩ => ?_) (fun j hj => Ev_t rfl (hj 1 m ⟨rfl, rfl⟩))
      subst hz; subst hh
      exact Ev_nm (Ev_f (by rw [wF_1, upd_s]; decide) (Ev_so rfl))
    simp [lc_3, fh_make, hx, h1, h2, hcatch, bd, nm, setM, setC, setO, f_X11_thrown, jn0, wF_1, upd_s, (hi _).1]
    exact hk _ hI0.thrown
  · obtain ⟨w, hw, rfl⟩ := (wire_or (n := 3) (by omega) x).resolve_left hb
    obtain ⟨r1, h1, p1, p2⟩ := C_make hG hC hw
    obtain ⟨r2, h2, q1, q2⟩ := M_make hG hM hw
    by_cases hl : k + (mkL n w).length ≤ 24
    · obtain ⟨c1, rfl, a1, a2, a3⟩ := p2 hl
      obtain ⟨b0, b1, b2, b3, b4, b5⟩ := q2 hl
      simp [lc_3, fh_make, hx, h1, h2, b0, b3, hcatch, bd, nm, setM, setC, setO, f_X11_thrown, jn0, (hi _).1, updL_s, lgc]
      exact hk _ (Inv.made2 (ext_good hG hl (mkL_good n (by omega) w hw)) a1 b1 hT hSt hA (a2.mono (by decide)) (b2.mono (by decide)) b4 a3 b5)
    · obtain ⟨c1, rfl, a1⟩ := p1 (by omega)
      have e := q1 (by omega)
      subst e
      simp [lc_3, fh_make, hx, h1, h2, hcatch, bd, nm, setM, setC, setO, f_X11_thrown, jn0, wF_1, upd_s, (hi _).1]
      exact hk _ (hI0.keep (a1.mono (by decide)) (Sm.rf.sF (by decide)) (fun j hj => by rw [wF_1, upd_n _ _ (by rintro rfl; revert hj; decide)]))
