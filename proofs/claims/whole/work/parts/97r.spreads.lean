theorem BfI.more {st n a j : Nat} {nb : Nat → List Nat} {qs : List Nat} {D : Nat → Nat} (hI : BfI st n nb qs D a j) (hN : NbOk st n nb) (hst : st < 4) (hn : n ≤ 6) (ha : a < facN n) : a < qs.length := by
  apply Classical.byContradiction
  intro h
  have hal := hI.al
  have e : a = qs.length := by omega
  subst e
  have hall : ∀ r, r < facN n → r ∈ qs := fun r hr => hI.done hN 45 r hr (st_45 hst hn hr)
  have h1 := nd_ct qs hI.nd hI.lt
  have h2 : ctB (fun x => decide (x ∈ qs)) (facN n) = facN n := ct_all (fun r hr => decide_eq_true (hall r hr))
  omega
theorem BfI.len {st n a j : Nat} {nb : Nat → List Nat} {qs : List Nat} {D : Nat → Nat} (hI : BfI st n nb qs D a j) : qs.length ≤ facN n := nd_le hI.nd hI.lt
theorem BfI.d45 {st n a j r : Nat} {nb : Nat → List Nat} {qs : List Nat} {D : Nat → Nat} (hI : BfI st n nb qs D a j) (hst : st < 4) (hn : n ≤ 6) (hr : r ∈ qs) : D r ≤ 45 := (hI.ex r hr 45).mp (st_45 hst hn (hI.lt r hr))
def SprI (n : Nat) (qs : List Nat) (D : Nat → Nat) (g h : Hp) : Prop := h.1 0 19 = nI qs.length ∧ (∀ i, i < qs.length → h.1 13 i = nI (qs.getD i 0)) ∧ (∀ r, r < facN n → (r ∈ qs → h.1 12 r = nI (D r)) ∧ (r ∉ qs → h.1 12 r = -1)) ∧ Sm [0, 5, 12, 13] g h ∧ ∀ j, j ≠ 19 → h.1 0 j = g.1 0 j
def FarM (st n : Nat) (h : Hp) : Prop := ∀ r, r < facN n → ∃ d, d < 100 ∧ h.1 12 r = nI d ∧ ∀ e, stF st n e r ↔ d ≤ e
theorem SprI.nM {n k : Nat} {f o : Nat → Nat} {qs : List Nat} {D : Nat → Nat} {g h : Hp} (hI : SprI n qs D g h) (hM : NetM n k f o g) : NetM n k f o h :=
  hM.keep (hI.2.2.2.2 1 (by decide)) (hI.2.2.2.2 2 (by decide)) (hI.2.2.2.2 7 (by decide)) (hI.2.2.2.1 1 (by decide)).1 (hI.2.2.2.1 2 (by decide)).1 (hI.2.2.2.1 4 (by decide)).1
theorem M_spreads {n k st : Nat} {f o : Nat → Nat} {m : Hp} (hG : Good n k f o) (hM : NetM n k f o m) (hst : st < 4) : Ev (f_X11_spreads m (nI st)) (fun h => FarM st n h ∧ Sm [0, 5, 12, 13] m h ∧ ∀ j, j ≠ 19 → h.1 0 j = m.1 0 j) := by
  have hn := hG.2.1
  have hn2 := hG.1
  have hF := fac_le n (by omega)
  have hF0 := fac_pos n
  have hNb := nbM_ok hst hn2 hn
  have hkd := kd_le (st := st) hn
  unfold f_X11_spreads
  refine Ev_jn1 (fun h => Sm [12] m h ∧ ∀ r, r < facN n → h.1 12 r = if r = 0 then 0 else -1) (fun h0 ⟨hS0, hZ0⟩ => ?_) (fun kk hk => ?_)
  · refine Ev_ck (j := 0) rfl (by omega) (by omega) (Ev_nm (Ev_nm ?_))
    have hI0 : SprI n [0] (fun _ => 0) m (wF (wI h0 13 0 0) 0 19 1) := by
      refine ⟨by rw [wF_1, upd_s]; rfl, fun i hi => ?_, fun r hr => ?_, ((hS0.mono (by decide)).sI (by decide)).sF (by decide), fun j hj => ?_⟩
      · have : i = 0 := by simp at hi; exact hi
        subst this
        rw [wF_n _ _ _ _ _ (by decide), wI_1, cl0, upd_s]; rfl
      · rw [wF_n _ _ _ _ _ (by decide), wI_n _ _ _ _ _ (by decide), hZ0 r hr]
        refine ⟨fun h => ?_, fun h => ?_⟩
        · rw [if_pos (List.mem_singleton.mp h)]; rfl
        · rw [if_neg (fun e => h (by rw [e]; simp))]
      · rw [wF_1, upd_n _ _ hj, wI_n _ _ _ _ _ (by decide), (hS0 0 (by decide)).1]
    generalize wF (wI h0 13 0 0) 0 19 1 = g1 at hI0
    refine Ev_jn1 (fun h => FarM st n h ∧ Sm [0, 5, 12, 13] m h ∧ ∀ j, j ≠ 19 → h.1 0 j = m.1 0 j) (fun h hh => Ev_so hh) (fun kk hk => ?_)
    refine Ev_fx2 (fun a a1 h => a1 = nI a ∧ ∃ qs D, BfI st n (nbM st n) qs D a 0 ∧ SprI n qs D m h) (facN n) ?_ ?_ (FU_lt (by omega)) ⟨rfl, [0], fun _ => 0, BfI.start, hI0⟩
    · rintro self a a1 h ha ⟨rfl, qs, D, hB, hS⟩ hself
      have hal := hB.more hNb hst hn ha
      have hl := hB.len
      unfold L_X11_spreads_45
      rw [hS.1]
      refine Ev_f (nle_n hal (by omega)) (Ev_jn1 (fun h => ∃ qs D, BfI st n (nbM st n) qs D (a + 1) 0 ∧ SprI n qs D m h) (fun h2 hh => hself _ _ ⟨nI_add a 1, hh⟩) (fun kq hkq => ?_))
      refine Ev_fx2 (fun j a1 h => a1 = nI j ∧ ∃ qs D, a < qs.length ∧ BfI st n (nbM st n) qs D a j ∧ SprI n qs D m h) (kdN st n) ?_ ?_ (FU_lt (by omega)) ⟨rfl, qs, D, hal, hB, hS⟩
      · rintro self2 j b1 h2 hj ⟨rfl, qs, D, hal, hB, hS⟩ hself2
        have hM2 := hS.nM hM
        have hl := hB.len
        have hp := hB.lt _ (get_mem hal)
        have hpp := row_perm hn hp
        unfold L_X11_spreads_55
        refine Ev_bde (M_kinds hn hn2 hst hM2.1) (Ev_f (nle_n hj (by omega)) (Ev_ck rfl (by omega) (by omega) ?_))
        rw [clN (by omega), hS.2.1 a hal]
        refine Ev_bd _ (M_lays hn hM2 hp) (fun h3 ⟨hR3, hS3⟩ => ?_)
        have hM3 := Sm.nM hM2 hS3 (by decide) (by decide) (by decide) (by decide)
        refine Ev_bd _ (M_does hn hn2 hst hj hM3.1 hR3) (fun r10 ⟨hS4, hd⟩ => ?_)
        have hM4 := Sm.nM hM3 hS4 (by decide) (by decide) (by decide) (by decide)
        have hS34 := hS3.tr hS4
        have hSp4 : SprI n qs D m r10.2 := ⟨by rw [(hS34 0 (by decide)).1]; exact hS.1, fun i hi => by rw [(hS34 13 (by decide)).1]; exact hS.2.1 i hi, fun r hr => by rw [(hS34 12 (by decide)).1]; exact hS.2.2.1 r hr, hS.2.2.2.1.tr (hS34.mono (by decide)), fun j hj => by rw [(hS34 0 (by decide)).1]; exact hS.2.2.2.2 j hj⟩
        have hgetnb := nbM_get (p := qs.getD a 0) hj
        refine Ev_jn1 (fun z => z = nI (mvQ st n (qs.getD a 0) j)) (fun z hz => ?_) (fun kr hkr => ?_)
        · subst hz
          have hqm : mvQ st n (qs.getD a 0) j ∈ nbM st n (qs.getD a 0) := by rw [← hgetnb]; exact get_mem (by rw [nbM_len]; exact hj)
          obtain ⟨hql, hqe⟩ := (hNb _ hp).1 _ hqm
          obtain ⟨f1, f2⟩ := hSp4.2.2.1 _ hql
          rw [clN (by omega)]
          refine Ev_ck rfl (by omega) (by omega) ?_
          by_cases hmem : mvQ st n (qs.getD a 0) j ∈ qs
          · rw [f1 hmem]
            have hd45 := hB.d45 hst hn hmem
            exact Ev_f (ne_m1 (by omega)) (hself2 _ _ ⟨nI_add j 1, qs, D, hal, hB.old (by rw [hgetnb]; exact hmem), hSp4⟩)
          · rw [f2 hmem]
            have hB2 := hB.new hNb hal (by rw [nbM_len]; exact hj) hgetnb hmem
            have hl2 := hB2.len
            rw [List.length_append, show [mvQ st n (qs.getD a 0) j].length = 1 from rfl] at hl2
            refine Ev_t rfl (Ev_ck rfl (by omega) (by omega) ?_)
            rw [hSp4.2.1 a hal, clN (by omega), (hSp4.2.2.1 _ hp).1 (get_mem hal)]
            refine Ev_ck rfl (by omega) (by omega) (Ev_ck rfl (by omega) (by omega) (Ev_nm ?_))
            have e19 : (wI r10.2 12 (nI (mvQ st n (qs.getD a 0) j)) (nI (D (qs.getD a 0)) + 1)).1 0 19 = nI qs.length := by rw [wI_n _ _ _ _ _ (by decide)]; exact hSp4.1
            rw [e19]
            refine Ev_ck rfl (by omega) (by omega) (Ev_nm ?_)
            have e19b : (wI (wI r10.2 12 (nI (mvQ st n (qs.getD a 0) j)) (nI (D (qs.getD a 0)) + 1)) 13 (nI qs.length) (nI (mvQ st n (qs.getD a 0) j))).1 0 19 = nI qs.length := by rw [wI_n _ _ _ _ _ (by decide)]; exact e19
            rw [e19b]
            refine Ev_nm (hself2 _ _ ⟨nI_add j 1, qs ++ [mvQ st n (qs.getD a 0) j], _, by rw [List.length_append]; omega, hB2, ?_, fun i hi => ?_, fun r hr => ?_, ((hSp4.2.2.2.1.sI (by decide)).sI (by decide)).sF (by decide), fun j hj => ?_⟩)
            · rw [wF_1, upd_s, List.length_append]; exact nI_add _ 1
            · rw [wF_n _ _ _ _ _ (by decide), wI_1, clN (by omega)]
              by_cases e : i = qs.length
              · rw [e, upd_s, get_last]
              · rw [List.length_append, show [mvQ st n (qs.getD a 0) j].length = 1 from rfl] at hi
                rw [upd_n _ _ e, wI_n _ _ _ _ _ (by decide), get_app (by omega)]
                exact hSp4.2.1 i (by omega)
            · rw [wF_n _ _ _ _ _ (by decide), wI_n _ _ _ _ _ (by decide), wI_1, clN (by omega)]
              by_cases e : r = mvQ st n (qs.getD a 0) j
              · rw [e, upd_s]
                refine ⟨fun _ => ?_, fun z => absurd (by simp) z⟩
                unfold updN
                rw [if_pos rfl]
                exact nI_add _ 1
              · rw [upd_n _ _ e]
                obtain ⟨t1, t2⟩ := hSp4.2.2.1 r hr
                refine ⟨fun z => ?_, fun z => t2 (fun z2 => z (List.mem_append_left _ z2))⟩
                unfold updN
                rw [if_neg e]
                refine t1 ?_
                rcases List.mem_append.mp z with h | h
                · exact h
                · exact absurd (List.mem_singleton.mp h) e
            · rw [wF_1, upd_n _ _ hj, wI_n _ _ _ _ _ (by decide), wI_n _ _ _ _ _ (by decide)]
              exact hSp4.2.2.2.2 j hj
        · rcases hd with ⟨d0, d1⟩ | ⟨d0, s, d1, d2⟩
          · refine Ev_t d0 (hkr _ ?_)
            unfold mvQ
            rw [d1]; rfl
          · have hs := mv_in hst hn2 hj d1
            have hv := src_perm hs hpp
            refine Ev_f (by rw [d0]; decide) (Ev_bde (M_numberOf hn (fun x hx => Nat.lt_of_lt_of_le (hv.1 x hx) (by omega)) hM4.1 d2) (hkr _ ?_))
            unfold mvQ
            rw [d1]
      · rintro self2 b1 h2 ⟨rfl, qs, D, hal, hB, hS⟩
        unfold L_X11_spreads_55
        refine Ev_bde (M_kinds hn hn2 hst (hS.nM hM).1) (Ev_t (Int32.le_refl _) (hkq _ ⟨qs, D, BfI.next ?_ hal, hS⟩))
        rw [nbM_len]; exact hB
    · rintro self a1 h ⟨rfl, qs, D, hB, hS⟩
      have hl := hB.len
      have hal := hB.al
      have e : qs.length = facN n := by omega
      unfold L_X11_spreads_45
      rw [hS.1]
      refine Ev_t (le_n (by omega) (by omega)) (hk _ ⟨fun r hr => ?_, hS.2.2.2.1, hS.2.2.2.2⟩)
      have hm := nd_full hB.nd hB.lt (by omega) r hr
      have := hB.d45 hst hn hm
      exact ⟨D r, by omega, (hS.2.2.1 r hr).1 hm, hB.ex r hm⟩
  · refine Ev_fx2 (fun r a1 h => a1 = nI r ∧ Sm [12] m h ∧ ∀ q, q < r → h.1 12 q = if q = 0 then 0 else -1) (facN n) ?_ ?_ (FU_lt (by omega)) ⟨rfl, Sm.rf, fun q hq => absurd hq (by omega)⟩
    · rintro self r a1 h hr ⟨rfl, hS, hZ⟩ hself
      unfold L_X11_spreads_2
      rw [(hS 0 (by decide)).1, hM.2.2.2.1]
      have e0 : (nI r = 0) = (r = 0) := nI_iff (b := 0) (by omega) (by omega)
      simp only [e0]
      refine Ev_f (nle_n hr (by omega)) (Ev_i (fun e => Ev_ck rfl (by omega) (by omega) (Ev_nm (hself _ _ ⟨nI_add r 1, hS.sI (by decide), fun q hq => ?_⟩))) (fun e => Ev_ck rfl (by omega) (by omega) (Ev_nm (hself _ _ ⟨nI_add r 1, hS.sI (by decide), fun q hq => ?_⟩))))
      · rw [wI_1, clN (by omega)]
        by_cases e2 : q = r
        · rw [e2, upd_s, if_pos e]
        · rw [upd_n _ _ e2]; exact hZ q (by omega)
      · rw [wI_1, clN (by omega)]
        by_cases e2 : q = r
        · rw [e2, upd_s, if_neg e]
        · rw [upd_n _ _ e2]; exact hZ q (by omega)
    · rintro self a1 h ⟨rfl, hS, hZ⟩
      unfold L_X11_spreads_2
      rw [(hS 0 (by decide)).1, hM.2.2.2.1]
      exact Ev_t (Int32.le_refl _) (hk _ ⟨hS, hZ⟩)
