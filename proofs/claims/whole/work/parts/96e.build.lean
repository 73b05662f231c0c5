/-! CASE build -/
theorem fault_spec {n t : Nat} {ch : Nat → Nat} {m : Hp} (hn : n ≤ 6) (hn2 : 2 ≤ n) (hmn : m.1 0 1 = nI n) (ht : t ≤ 40) (hm : m.1 0 11 = nI t) (hch : ∀ i, i < t → chOk (ch i) ∧ m.1 8 i = nI (ch i)) : Ev (f_X11_findFault m) (fun r => r = -1 → t % 4 = 3 ∧ (∀ j, j < t → j % 2 = 0 → 48 ≤ ch j ∧ ch j - 48 < n) ∧ ∀ j, j + 2 < t → j % 4 = 0 → ch j ≠ ch (j + 2)) := by
  unfold f_X11_findFault
  refine Ev_jn0 ((∀ j, j < t → j % 2 = 0 → 48 ≤ ch j ∧ ch j - 48 < n) ∧ ∀ j, j + 2 < t → j % 4 = 0 → ch j ≠ ch (j + 2)) (fun hA => ?_) (fun j0 hj0 => Ev_jn1 (fun a => a ≠ -1) (fun a ha => Ev_so (fun e => absurd e ha)) (fun j1 hj1 => ?_))
  · rw [hm, n4, irmN (by omega) (by omega) (by omega)]
    refine Ev_i (fun e => Ev_so (fun _ => ⟨(neqI (b := 3) (by omega) (by omega)).mp e, hA⟩)) (fun e => Ev_so (fun e2 => ?_))
    exact absurd e2 (fun z => nI_pos (n := t) (by omega) (by rw [z]; decide))
  · refine Ev_fx2 (fun j a1 a2 => a2 = nI j ∧ (∃ u, a1 = nI u ∧ u < 64 ∧ (j % 4 = 1 → u.testBit (ch (j - 1) - 48) = true) ∧ (j % 4 = 2 → u.testBit (ch (j - 2) - 48) = true)) ∧ (∀ i, i < j → i % 2 = 0 → 48 ≤ ch i ∧ ch i - 48 < n) ∧ ∀ i, i + 2 < j → i % 4 = 0 → ch i ≠ ch (i + 2)) t ?_ ?_ (FU_lt (by omega)) ⟨rfl, ⟨0, rfl, by omega, fun h => absurd h (by omega), fun h => absurd h (by omega)⟩, fun i hi => absurd hi (by omega), fun i hi => absurd hi (by omega)⟩
    · rintro self j a1 a2 hj ⟨rfl, ⟨u, rfl, hu, hu1, hu2⟩, hA, hB⟩ hself
      obtain ⟨k1, k2⟩ := hch j hj
      unfold L_X11_findFault_4
      rw [hm, clN (by omega), k2, n4, n1, n2, irmN (by omega) (by omega) (by omega), irmN (by omega) (by omega) (by omega), hmn, nsub (by omega)]
      have hlt : ch j < 100 := by rcases k1 with h | h | h | h <;> omega
      have q1 : (nI (j % 4) = nI 1) = (j % 4 = 1) := nI_iff (by omega) (by omega)
      have q3 : (nI (j % 4) = (3 : Int32)) = (j % 4 = 3) := nI_iff (b := 3) (by omega) (by omega)
      have q2 : (nI (j % 2) = 0) = (j % 2 = 0) := nI_iff (b := 0) (by omega) (by omega)
      have c58 : (nI (ch j) = (58 : Int32)) = (ch j = 58) := nI_iff (b := 58) (by omega) (by omega)
      have c47 : (nI (ch j) = (47 : Int32)) = (ch j = 47) := nI_iff (b := 47) (by omega) (by omega)
      have c32 : (nI (ch j) = (32 : Int32)) = (ch j = 32) := nI_iff (b := 32) (by omega) (by omega)
      simp only [q1, q2, q3, c58, c47, c32]
      refine Ev_f (nle_n hj (by omega)) (Ev_ck rfl (by omega) (by omega) ?_)
      have hbad : Ev (j1 (nI j)) _ := hj1 (nI j) (fun z => nI_pos (n := j) (by omega) (by rw [z]; decide))
      refine Ev_jn1 (fun z => z = 0 ∨ (z = 1 ∧ ((j % 4 = 1 ∧ ch j = 58) ∨ j % 4 = 3 ∨ (j % 2 = 0 ∧ 48 ≤ ch j ∧ ch j - 48 < n ∧ u.testBit (ch j - 48) = false)))) (fun z hz => ?_) (fun kk hk => ?_)
      · rcases hz with rfl | ⟨rfl, hz⟩
        · exact Ev_t rfl hbad
        · refine Ev_f (by decide) ?_
          rcases hz with ⟨h1, h2⟩ | h3 | ⟨h4, h5, h6, h7⟩
          · refine Ev_f (by omega) (Ev_f (by omega) (hself _ _ ⟨nI_add j 1, ⟨u, rfl, hu, fun h => absurd h (by omega), fun h => ?_⟩, fun i hi h => ?_, fun i hi h => ?_⟩))
            · have := hu1 h1
              rwa [show j + 1 - 2 = j - 1 by omega]
            · exact hA i (by omega) h
            · exact hB i (by omega) h
          · refine Ev_i (fun e => hself _ _ ⟨nI_add j 1, ⟨0, rfl, by omega, fun h => absurd h (by omega), fun h => absurd h (by omega)⟩, fun i hi h => hA i (by omega) h, fun i hi h => hB i (by omega) h⟩) (fun e => Ev_f (by omega) (hself _ _ ⟨nI_add j 1, ⟨u, rfl, hu, fun h => absurd h (by omega), fun h => absurd h (by omega)⟩, fun i hi h => hA i (by omega) h, fun i hi h => hB i (by omega) h⟩))
          · have e48 : nI (ch j) - (48 : Int32) = nI (ch j - 48) := nsub (b := 48) h5
            have esh : ishl (1 : Int32) (nI (ch j - 48)) = nI (2 ^ (ch j - 48)) := by
              have := ishl_n (a := 1) (k := ch j - 48) (by omega)
              rw [Nat.one_mul] at this; exact this
            rw [e48, ← n1, esh, nI_or]
            refine Ev_f (by omega) (Ev_t h4 (Ev_nm (hself _ _ ⟨nI_add j 1, ⟨_, rfl, ?_, fun h => ?_, fun h => absurd h (by omega)⟩, fun i hi h => ?_, fun i hi h => ?_⟩)))
            · exact Nat.or_lt_two_pow (n := 6) hu (Nat.pow_lt_pow_right (by omega) (by omega))
            · rw [Nat.testBit_or, show j + 1 - 1 = j by omega, Nat.testBit_two_pow, decide_eq_true rfl, Bool.or_true]
            · by_cases e : i = j
              · rw [e]; exact ⟨h5, h6⟩
              · exact hA i (by omega) h
            · by_cases e : i + 2 = j
              · subst e
                intro e2
                have h8 := hu2 (by omega)
                rw [show i + 2 - 2 = i by omega, e2] at h8
                rw [h8] at h7; cases h7
              · exact hB i (by omega) h
      · refine Ev_i (fun e1 => Ev_i (fun e2 => hk _ (Or.inr ⟨rfl, Or.inl ⟨e1, e2⟩⟩)) (fun _ => hk _ (Or.inl rfl))) (fun e1 => Ev_i (fun e3 => ?_) (fun e3 => ?_))
        · exact Ev_jn0 True (fun _ => hk _ (Or.inr ⟨rfl, Or.inr (Or.inl e3)⟩)) (fun k2 hk2 => Ev_i (fun _ => hk2 trivial) (fun _ => Ev_i (fun _ => hk2 trivial) (fun _ => hk _ (Or.inl rfl))))
        · refine Ev_bde M_in (Ev_jn0 True (fun _ => hk _ (Or.inl rfl)) (fun k2 hk2 => Ev_i (fun _ => hk2 trivial) (fun h => ?_)))
          by_cases hr : nI (ch j) - (48 : Int32) < 0 ∨ nI (n - 1) < nI (ch j) - (48 : Int32)
          · rw [if_pos hr] at h; exact absurd rfl h
          · have h48 : 48 ≤ ch j := by
              apply Classical.byContradiction
              intro h2
              exact hr (Or.inl (pk_sneg (b := 48) (by omega) (by omega)))
            have e48 : nI (ch j) - (48 : Int32) = nI (ch j - 48) := nsub (b := 48) h48
            rw [e48] at hr ⊢
            have hlt2 : ch j - 48 < n := by
              apply Classical.byContradiction
              intro h2
              exact hr (Or.inr (nI_lt (by omega) (by omega)))
            refine Ev_i (fun e => hk _ (Or.inr ⟨rfl, Or.inr (Or.inr ⟨by omega, h48, hlt2, ?_⟩)⟩)) (fun _ => hk2 trivial)
            exact (bit_0 (by omega) (by omega)).mp e
    · rintro self a1 a2 ⟨rfl, _, hA, hB⟩
      unfold L_X11_findFault_4
      exact Ev_t (by rw [hm]; exact Int32.le_refl _) (hj0 ⟨hA, hB⟩)
def pairs (ch : Nat → Nat) (j : Nat) : List (Nat × Nat) := (List.range j).map (fun i => (ch (4 * i) - 48, ch (4 * i + 2) - 48))
theorem pairs_s {ch : Nat → Nat} {j : Nat} : pairs ch (j + 1) = pairs ch j ++ [(ch (4 * j) - 48, ch (4 * j + 2) - 48)] := by unfold pairs; rw [List.range_succ, List.map_append]; rfl
theorem pairs_l {ch : Nat → Nat} {j : Nat} : (pairs ch j).length = j := by unfold pairs; simp
theorem Inv.madeT {n k : Nat} {f o : Nat → Nat} {c m c1 m1 : Hp} {out : Nat → Int64} (hG : Good n k f o) (hC : NetC n k f o c1) (hM : NetM n k f o m1) (hT : TapeR c1 m1) (hSt : StR c) (hA : AdvR n c m) (hSc : Sm [1, 2, 3, 6, 7, 8, 11, 20, 23, 24, 25, 27] c c1) (hSm : Sm [0, 1, 2, 9, 10] m m1) (hf : FgC c1) (hg : FgM m1) : Inv (c1, m1, out) :=
  ⟨n, k, f, o, hG, hC, hM, hT, BalR.new hf.1 hg.1 hf.2.1 hg.2.1 hf.2.2.1 hg.2.2, Or.inl hf.2.2.2, hSt.keep (hSc 29 (by decide)).1, hA.keep (by rw [(hSc 32 (by decide)).2]) (hSm 14 (by decide)).1⟩
theorem C_build {n k t : Nat} {f o ch : Nat → Nat} {c : Hp} (hG : Good n k f o) (hC : NetC n k f o c) (ht : t ≤ 40) (ht4 : t % 4 = 3) (hc : c.1 11 1 = nI t) (hch : ∀ i, i < t → c.1 12 i = nI (ch i)) (hd : ∀ j, j < t → j % 2 = 0 → 48 ≤ ch j ∧ ch j - 48 < n) (hF : f_X8_faultFor_11 c (nI n) = some (-1)) : Ev (f_X10_build c) (fun r => (24 < k + (t + 1) / 4 → ∃ c1, r = .inl ("java/lang/IllegalStateException", c1) ∧ Sm [6, 7, 8] c c1) ∧ (k + (t + 1) / 4 ≤ 24 → ∃ c1, r = .inr (nI ((t + 1) / 4), c1) ∧ NetC n (k + (pairs ch ((t + 1) / 4)).length) (extN f k ((pairs ch ((t + 1) / 4)).map Prod.fst)) (extN o k ((pairs ch ((t + 1) / 4)).map Prod.snd)) c1 ∧ Sm [1, 2, 3, 6, 7, 8, 11, 20, 23, 24, 25, 27] c c1 ∧ FgC c1 ∧ c1.1 11 1 = 0)) := by
  unfold f_X10_build
  rw [hC.1]
  refine Ev_bde hF (Ev_t rfl (Ev_bd (fun h1 => Plan n [] c h1) ?_ (fun h1 hP => ?_)))
  · unfold f_X9_begin_6
    refine Ev_nm (Ev_nm (Ev_so ⟨?_, ?_, fun i p hi => by simp at hi, (Sm.rf.sF (by decide)).sF (by decide)⟩))
    · rw [wF_1, upd_n _ _ (by decide), wF_1, upd_s]
    · rw [wF_1, upd_s]; rfl
  · refine Ev_bd (fun h2 => Plan n (pairs ch ((t + 1) / 4)) c h2) ?_ (fun h2 hP2 => ?_)
    · unfold f_X8_layOn_11_6
      refine Ev_jn1 (fun h2 => Plan n (pairs ch ((t + 1) / 4)) c h2) (fun h2 hh => Ev_so hh) (fun kk hk => ?_)
      refine Ev_fx2 (fun j a1 a2 => a1 = nI (4 * j) ∧ Plan n (pairs ch j) c a2) ((t + 1) / 4) ?_ ?_ (FU_lt (by omega)) ⟨rfl, by simpa [pairs] using hP⟩
      · rintro self j a1 a2 hj ⟨rfl, hPj⟩ hself
        unfold L_X8_layOn_11_6_2
        obtain ⟨g1, g2⟩ := hd (4 * j) (by omega) (by omega)
        obtain ⟨g3, g4⟩ := hd (4 * j + 2) (by omega) (by omega)
        have e1 := hPj.2.2.2 11 (by decide)
        have e2 := hPj.2.2.2 12 (by decide)
        rw [e1.1, hc, n2, nI_add, clN (by omega), clN (by omega), e2.1, hch _ (show 4 * j < t by omega), hch _ (show 4 * j + 2 < t by omega), show nI (ch (4 * j)) - (48 : Int32) = nI (ch (4 * j) - 48) from nsub (b := 48) g1, show nI (ch (4 * j + 2)) - (48 : Int32) = nI (ch (4 * j + 2) - 48) from nsub (b := 48) g3]
        refine Ev_f (nle_n (by omega) (by omega)) (Ev_ck rfl (by omega) (by omega) (Ev_ck rfl (by omega) (by omega) (Ev_bd _ (C_app6 hPj (by rw [pairs_l]; omega)) (fun h3 hh => hself _ _ ⟨nI_add _ 4, by rw [pairs_s]; exact hh⟩))))
      · rintro self a1 a2 ⟨rfl, hPj⟩
        unfold L_X8_layOn_11_6_2
        rw [(hPj.2.2.2 11 (by decide)).1, hc, n2, nI_add]
        exact Ev_t (le_n (by omega) (by omega)) (hk _ hPj)
    · obtain ⟨r, hr, q1, q2⟩ := C_plan hG hC hP2 (by rw [pairs_l]; omega)
      rw [pairs_l] at q1 q2
      by_cases hk : k + (t + 1) / 4 ≤ 24
      · obtain ⟨c1, rfl, a1, a2, a3⟩ := q2 hk
        rw [bdx_r hr]
        refine Ev_bd (fun c2 => c2 = wF c1 11 1 0) (Ev_nm (Ev_so rfl)) (fun c2 e => ?_)
        subst e
        refine Ev_so ⟨fun z => absurd hk (by omega), fun _ => ⟨_, rfl, ?_, (a2.mono (by decide)).sF (by decide), ?_, by rw [wF_1, upd_s]⟩⟩
        · rw [pairs_l]; exact Sm.nC a1 (l := [11]) (Sm.rf.sF (by decide)) (by decide) (by decide) (by decide)
        · obtain ⟨b1, b2, b3, b4⟩ := a3
          refine ⟨?_, fun x hx => ?_, fun x hx => ?_, ?_⟩
          · rw [wF_n _ _ _ _ _ (by decide)]; exact b1
          · rw [wF_n _ _ _ _ _ (by decide), wF_n _ _ _ _ _ (by decide)]; exact b2 x hx
          · rw [wF_n _ _ _ _ _ (by decide)]; exact b3 x hx
          · rw [wF_n _ _ _ _ _ (by decide)]; exact b4
      · have := q1 (by omega)
        subst this
        rw [bdx_l hr]
        exact Ev_so ⟨fun _ => ⟨h2, rfl, hP2.2.2.2⟩, fun z => absurd z hk⟩
theorem M_build {n k t : Nat} {f o ch : Nat → Nat} {m : Hp} (hG : Good n k f o) (hM : NetM n k f o m) (ht : t ≤ 40) (ht4 : t % 4 = 3) (hc : m.1 0 11 = nI t) (hch : ∀ i, i < t → m.1 8 i = nI (ch i)) (hd : ∀ j, j < t → j % 2 = 0 → 48 ≤ ch j ∧ ch j - 48 < n) (hF : f_X11_findFault m = some (-1)) : Ev (f_X11_build m) (fun r => (24 < k + (t + 1) / 4 → r = (0, wF m 0 0 2)) ∧ (k + (t + 1) / 4 ≤ 24 → r.1 = nI ((t + 1) / 4) ∧ NetM n (k + (pairs ch ((t + 1) / 4)).length) (extN f k ((pairs ch ((t + 1) / 4)).map Prod.fst)) (extN o k ((pairs ch ((t + 1) / 4)).map Prod.snd)) r.2 ∧ Sm [0, 1, 2, 9, 10] m r.2 ∧ r.2.1 0 0 = 0 ∧ r.2.1 0 11 = 0 ∧ FgM r.2)) := by
  have hk24 := hG.2.2.1
  unfold f_X11_build
  rw [hc, hM.2.1, n1, nI_add, n4, ndiv (by omega) (by omega) (by omega)]
  refine Ev_nm (Ev_bde hF (Ev_jn1 (fun w => (24 < k + (t + 1) / 4 ∧ w = 2) ∨ (k + (t + 1) / 4 ≤ 24 ∧ w = 0)) (fun w hw => ?_) (fun kk hk => Ev_t rfl ?_)))
  · rcases hw with ⟨hl, rfl⟩ | ⟨hl, rfl⟩
    · exact Ev_nm (Ev_f (by rw [wF_1, upd_s]; decide) (Ev_so ⟨fun _ => rfl, fun z => absurd z (by omega)⟩))
    · refine Ev_nm (Ev_t (by rw [wF_1, upd_s]; exact Int32.le_refl _) ?_)
      have q0 : (wF m 0 0 0).1 0 0 = 0 := by rw [wF_1, upd_s]
      have q3 : Sm [0, 1, 2, 9, 10] m (wF m 0 0 0) := Sm.rf.sF (by decide)
      have q4 : ∀ i, i < t → (wF m 0 0 0).1 8 i = nI (ch i) := fun i hi => by rw [wF_n _ _ _ _ _ (by decide)]; exact hch i hi
      have hMg := hM.t (x := 0)
      generalize wF m 0 0 0 = g at q0 q3 q4 hMg
      refine Ev_jn1 (fun h => MkI n k f o false g (pairs ch ((t + 1) / 4)) h) (fun h hI => ?_) (fun kk hk => ?_)
      · obtain ⟨i1, i2, i3⟩ := hI.fo
        refine Ev_nm (Ev_bd _ (s_forgetM _) (fun m1 ⟨c1, c2, c3, c4, c5⟩ => Ev_so ⟨fun z => absurd z (by omega), fun _ => ⟨rfl, ⟨?_, ?_, fun i hi => ?_, ?_, fun r hr x hx => ?_⟩, ?_, ?_, ?_, c2, c4, c5⟩⟩))
        · rw [c3 1 (by decide), wF_1, upd_n _ _ (by decide)]; exact i1.1
        · rw [c3 2 (by decide), wF_1, upd_n _ _ (by decide)]; exact i1.2.1
        · rw [(c1 1 (by decide)).1, (c1 2 (by decide)).1, wF_n _ _ _ _ _ (by decide), wF_n _ _ _ _ _ (by decide)]; exact i1.2.2.1 i hi
        · rw [c3 7 (by decide), wF_1, upd_n _ _ (by decide)]; exact i1.2.2.2.1
        · rw [(c1 4 (by decide)).1, wF_n _ _ _ _ _ (by decide)]; exact i1.2.2.2.2 r hr x hx
        · exact ((q3.tr (i2.mono (by decide))).sF (by decide)).tr (c1.mono (by decide))
        · rw [c3 0 (by decide), wF_1, upd_n _ _ (by decide), i3 0 (by decide)]; exact q0
        · rw [c3 11 (by decide), wF_1, upd_s]
      · refine Ev_fx2 (fun j a1 a2 => a1 = nI j ∧ MkI n k f o false g (pairs ch j) a2) ((t + 1) / 4) ?_ ?_ (FU_lt (by omega)) ⟨rfl, by simpa [pairs] using MkI.z hMg⟩
        · rintro self j a1 a2 hj ⟨rfl, hI⟩ hself
          obtain ⟨i1, i2, i3⟩ := hI.fo
          obtain ⟨g1, g2⟩ := hd (4 * j) (by omega) (by omega)
          obtain ⟨g3, g4⟩ := hd (4 * j + 2) (by omega) (by omega)
          have e8 : a2.1 8 = g.1 8 := (i2 8 (by decide)).1
          unfold L_X11_build_52
          rw [n4, nmul, n2, nI_add, clN (by omega), clN (by omega), e8, q4 _ (show 4 * j < t by omega), q4 _ (show 4 * j + 2 < t by omega), show nI (ch (4 * j)) - (48 : Int32) = nI (ch (4 * j) - 48) from nsub (b := 48) g1, show nI (ch (4 * j + 2)) - (48 : Int32) = nI (ch (4 * j + 2) - 48) from nsub (b := 48) g3]
          refine Ev_f (nle_n hj (by omega)) (Ev_ck rfl (by omega) (by omega) (Ev_ck rfl (by omega) (by omega) (Ev_bd _ (M_puts i1 (by rw [pairs_l]; omega)) (fun h3 ⟨p1, p2, p3⟩ => hself _ _ ⟨nI_add j 1, MkI.fi ⟨?_, i2.tr p2, fun j hj => (p3 j hj).trans (i3 j hj)⟩⟩))))
          have u1 := ext_upd (f := f) (k := k) (x := ch (4 * j) - 48) (l := (pairs ch j).map Prod.fst)
          have u2 := ext_upd (f := o) (k := k) (x := ch (4 * j + 2) - 48) (l := (pairs ch j).map Prod.snd)
          rw [List.length_map] at u1 u2
          rw [u1, u2] at p1
          rw [pairs_s, List.map_append, List.map_append, List.length_append]
          exact p1
        · rintro self a1 a2 ⟨rfl, hI⟩
          unfold L_X11_build_52
          exact Ev_t (Int32.le_refl _) (hk _ hI)
  · rw [nI_add, n24]
    refine Ev_i (fun e => hk _ (Or.inr ⟨?_, rfl⟩)) (fun e => hk _ (Or.inl ⟨?_, rfl⟩))
    · rw [nI_leI (by omega) (by omega)] at e; exact e
    · rw [nI_leI (by omega) (by omega)] at e; omega
theorem pc_13 {L : Nat} {xs : Nat → Int32} {i : Int32} {s : LWS} {kont : LWS → Option Unit} (hI : Inv s) (hk : ∀ s1, Inv s1 → kont s1 = some ()) : lc_13 L xs i s kont = some () := by
  obtain ⟨c, m, out⟩ := s
  have hI0 := hI
  obtain ⟨n, k, f, o, hG, hC, hM, hT, hB, hS, hSt, hA⟩ := hI
  have hF := fault_same hG.2.1 hG.1 hM.1 hT
  obtain ⟨t, ch, t1, t2, t3, t4⟩ := hT
  obtain ⟨r, hr, hsp⟩ := fault_spec hG.2.1 hG.1 hM.1 t1 t3 (fun i hi => ⟨(t4 i hi).1, (t4 i hi).2.2⟩)
  rw [hr] at hF
  by_cases hr1 : r = -1
  · subst hr1
    obtain ⟨h3, hd, hne⟩ := hsp rfl
    obtain ⟨r1, h1, p1, p2⟩ := C_build hG hC t1 h3 t2 (fun i hi => (t4 i hi).2.1) hd hF
    obtain ⟨r2, h2, q1, q2⟩ := M_build hG hM t1 h3 t3 (fun i hi => (t4 i hi).2.2) hd hr
    by_cases hl : k + (t + 1) / 4 ≤ 24
    · obtain ⟨c1, rfl, a1, a2, a3, a4⟩ := p2 hl
      obtain ⟨b0, b1, b2, b3, b4, b5⟩ := q2 hl
      simp [lc_13, fh_build, h1, h2, b0, b3, hcatch, bd, nm, setM, setC, setO, f_X11_thrown, jn0, ck, inb, updL_s, lgc]
      refine hk _ (Inv.madeT (ext_good hG (by rw [pairs_l]; exact hl) (fun p hp => ?_)) a1 b1 ⟨0, ch, by omega, a4, b4, fun i hi => absurd hi (by omega)⟩ hSt hA a2 b2 a3 b5)
      unfold pairs at hp
      obtain ⟨j, hj, rfl⟩ := List.mem_map.mp hp
      have hj := List.mem_range.mp hj
      obtain ⟨g1, g2⟩ := hd (4 * j) (by omega) (by omega)
      obtain ⟨g3, g4⟩ := hd (4 * j + 2) (by omega) (by omega)
      refine ⟨g2, g4, fun e => hne (4 * j) (by omega) (by omega) ?_⟩
      dsimp only at e
      omega
    · obtain ⟨c1, rfl, a1⟩ := p1 (by omega)
      have e := q1 (by omega)
      subst e
      simp [lc_13, fh_build, h1, h2, hcatch, bd, nm, setM, setC, setO, f_X11_thrown, jn0, wF_1, upd_s]
      exact hk _ (hI0.keep (a1.mono (by decide)) (Sm.rf.sF (by decide)) (fun j hj => by rw [wF_1, upd_n _ _ (by rintro rfl; revert hj; decide)]))
  · have h1 : f_X10_build c = some (.inl ("java/lang/IllegalArgumentException", c)) := by
      refine Ev_eq ?_
      unfold f_X10_build
      rw [hC.1]
      exact Ev_bde hF (Ev_f hr1 (Ev_so rfl))
    have h2 : f_X11_build m = some (0, wF m 0 0 1) := by
      refine Ev_eq ?_
      unfold f_X11_build
      refine Ev_nm (Ev_bde hr (Ev_jn1 (fun w => w = 1) (fun w hw => ?_) (fun kk hkk => Ev_f hr1 (hkk _ rfl))))
      subst hw
      exact Ev_nm (Ev_f (by rw [wF_1, upd_s]; decide) (Ev_so rfl))
    simp [lc_13, fh_build, h1, h2, hcatch, bd, nm, setM, setC, setO, f_X11_thrown, jn0, wF_1, upd_s]
    exact hk _ hI0.thrown
