theorem ext_good {n k : Nat} {f o : Nat → Nat} {ps : List (Nat × Nat)} (hG : Good n k f o) (hk : k + ps.length ≤ 24) (hps : ∀ p, p ∈ ps → p.1 < n ∧ p.2 < n ∧ p.1 ≠ p.2) : Good n (k + ps.length) (extN f k (ps.map Prod.fst)) (extN o k (ps.map Prod.snd)) := by
  refine ⟨hG.1, hG.2.1, hk, fun i hi => ?_⟩
  unfold extN
  by_cases e : i < k
  · rw [if_pos e, if_pos e]; exact hG.2.2.2 i e
  · rw [if_neg e, if_neg e]
    have hlt : i - k < ps.length := by omega
    have h1 : ∀ g : Nat × Nat → Nat, (ps.map g).getD (i - k) 0 = g ps[i - k] := fun g => by
      rw [List.getD_eq_getElem?_getD, List.getElem?_map, List.getElem?_eq_getElem hlt]; rfl
    rw [h1, h1]
    exact hps _ (List.getElem_mem hlt)
theorem mkL_good : ∀ n, n < 7 → ∀ w, w < 3 → ∀ p, p ∈ mkL n w → p.1 < n ∧ p.2 < n ∧ p.1 ≠ p.2 := by decide
theorem C_make {n k w : Nat} {f o : Nat → Nat} {c : Hp} (hG : Good n k f o) (hC : NetC n k f o c) (hw : w < 3) : Ev (f_X10_make c (nI w)) (fun r => (24 < k + (mkL n w).length → ∃ c1, r = .inl ("java/lang/IllegalStateException", c1) ∧ Sm [6, 7, 8] c c1) ∧ (k + (mkL n w).length ≤ 24 → ∃ c1, r = .inr (nI (mkL n w).length, c1) ∧ NetC n (k + (mkL n w).length) (extN f k ((mkL n w).map Prod.fst)) (extN o k ((mkL n w).map Prod.snd)) c1 ∧ Sm [1, 2, 3, 6, 7, 8, 20, 23, 24, 25, 27] c c1 ∧ FgC c1)) := by
  have hn := hG.2.1
  have hn2 := hG.1
  unfold f_X10_make
  refine Ev_jn0 False (fun h => h.elim) (fun j hj => Ev_f (nI_pos (by omega)) (Ev_t (le_n (b := 2) (by omega) (by omega)) ?_))
  refine Ev_bd (fun h1 => Plan n [] c h1) ?_ (fun h1 hP => ?_)
  · unfold f_X9_begin_6
    refine Ev_nm (Ev_nm (Ev_so ⟨?_, ?_, fun i p hi => by simp at hi, (Sm.rf.sF (by decide)).sF (by decide)⟩))
    · rw [wF_1, upd_n _ _ (by decide), wF_1, upd_s]; exact hC.1
    · rw [wF_1, upd_s]; rfl
  · have hfin : ∀ (h2 : Hp), Plan n (mkL n w) c h2 → Ev (bdx (f_X10_appendPlan h2) (fun r_5 => some (.inr (r_5.1, r_5.2)))) (fun r => (24 < k + (mkL n w).length → ∃ c1, r = .inl ("java/lang/IllegalStateException", c1) ∧ Sm [6, 7, 8] c c1) ∧ (k + (mkL n w).length ≤ 24 → ∃ c1, r = .inr (nI (mkL n w).length, c1) ∧ NetC n (k + (mkL n w).length) (extN f k ((mkL n w).map Prod.fst)) (extN o k ((mkL n w).map Prod.snd)) c1 ∧ Sm [1, 2, 3, 6, 7, 8, 20, 23, 24, 25, 27] c c1 ∧ FgC c1)) := by
      intro h2 hP2
      obtain ⟨r, hr, q1, q2⟩ := C_plan hG hC hP2 (by have := mkL_len (n := n) (w := w) hn; omega)
      by_cases hk : k + (mkL n w).length ≤ 24
      · obtain ⟨c1, rfl, a1, a2, a3⟩ := q2 hk
        rw [bdx_r hr]
        exact Ev_so ⟨fun z => absurd hk (by omega), fun _ => ⟨c1, rfl, a1, a2, a3⟩⟩
      · have := q1 (by omega)
        subst this
        rw [bdx_l hr]
        exact Ev_so ⟨fun _ => ⟨h2, rfl, hP2.2.2.2⟩, fun z => absurd z hk⟩
    have w0 : (nI w = 0) = (w = 0) := nI_iff (b := 0) (by omega) (by omega)
    have w1 : (nI w = 1) = (w = 1) := nI_iff (b := 1) (by omega) (by omega)
    refine Ev_i (fun e => ?_) (fun e => Ev_i (fun e1 => ?_) (fun e1 => ?_))
    · rw [w0] at e
      exact Ev_bd _ (C_bubble hn hn2 hP) (fun h2 hP2 => hfin h2 (by unfold mkL; rw [if_pos e]; exact hP2))
    · rw [w0] at e; rw [w1] at e1
      exact Ev_bd _ (C_brick hn hn2 hP) (fun h2 hP2 => hfin h2 (by unfold mkL; rw [if_neg e, if_pos e1]; exact hP2))
    · rw [w0] at e; rw [w1] at e1
      exact Ev_bd _ (C_merge hn hn2 hP) (fun h2 hP2 => hfin h2 (by unfold mkL; rw [if_neg e, if_neg e1]; exact hP2))
