/-! CASE build -/
def pairs (ch : Nat → Nat) (j : Nat) : List (Nat × Nat) := (List.range j).map (fun i => (ch (4 * i) - 48, ch (4 * i + 2) - 48))
theorem pairs_s {ch : Nat → Nat} {j : Nat} : pairs ch (j + 1) = pairs ch j ++ [(ch (4 * j) - 48, ch (4 * j + 2) - 48)] := by unfold pairs; rw [List.range_succ, List.map_append]; rfl
theorem pairs_l {ch : Nat → Nat} {j : Nat} : (pairs ch j).length = j := by unfold pairs; simp
theorem C_build {n k t : Nat} {f o ch : Nat → Nat} {c : Hp} (hG : Good n k f o) (hC : NetC n k f o c) (ht : t ≤ 40) (ht4 : t % 4 = 3) (hc : c.1 11 1 = nI t) (hch : ∀ i, i < t → c.1 12 i = nI (ch i)) (hd : ∀ j, j < t → j % 2 = 0 → 48 ≤ ch j ∧ ch j - 48 < n) (hF : f_X8_faultFor_11 c (nI n) = some (-1)) : Ev (f_X10_build c) (fun r => (24 < k + (t + 1) / 4 → ∃ c1, r = .inl ("java/lang/IllegalStateException", c1) ∧ Sm [6, 7, 8] c c1) ∧ (k + (t + 1) / 4 ≤ 24 → ∃ c1, r = .inr (nI ((t + 1) / 4), c1) ∧ NetC n (k + (pairs ch ((t + 1) / 4)).length) (extN f k ((pairs ch ((t + 1) / 4)).map Prod.fst)) (extN o k ((pairs ch ((t + 1) / 4)).map Prod.snd)) c1 ∧ Sm [1, 2, 3, 6, 7, 8, 11, 20, 23, 24, 25, 27] c c1 ∧ FgC c1 ∧ c1.1 11 1 = 0)) := by
  unfold f_X10_build
  rw [hC.1]
  refine Ev_bde hF (Ev_t rfl (Ev_bd (fun h1 => Plan n [] c h1) ?_ (fun h1 hP => ?_)))
  · unfold f_X9_begin_6
    refine Ev_nm (Ev_nm (Ev_so ⟨?_, ?_, fun i p hi => by simp at hi, (Sm.rf.sF (by decide)).sF (by decide)⟩))
    · rw [wF_1, upd_n _ _ (by decide), wF_1, upd_s]
    · rw [wF_1, upd_s]; rfl
  · refine Ev_bd (fun h2 => Plan n (pairs ch ((t + 1) / 4)) c h2) ?_ (fun h2 hP2 => ?_)
    · unfold f_X8_layOn_11_6
      refine Ev_jn1 (fun h2 => Plan n (pairs ch ((t + 1) / 4)) c h2) (fun h2 hh => Ev_so hh) (fun kk hk => ?_)
      refine Ev_fx2 (fun j a1 a2 => a1 = nI (4 * j) ∧ Plan n (pairs ch j) c a2) ((t + 1) / 4) ?_ ?_ (FU_lt (by omega)) ⟨rfl, by simpa [pairs] using hP⟩
      · rintro self j a1 a2 hj ⟨rfl, hPj⟩ hself
        unfold L_X8_layOn_11_6_2
        obtain ⟨g1, g2⟩ := hd (4 * j) (by omega) (by omega)
        obtain ⟨g3, g4⟩ := hd (4 * j + 2) (by omega) (by omega)
        have e1 := hPj.2.2.2 11 (by decide)
        have e2 := hPj.2.2.2 12 (by decide)
        rw [e1.1, hc, n2, nI_add, clN (by omega), clN (by omega), e2.1, hch _ (show 4 * j < t by omega), hch _ (show 4 * j + 2 < t by omega), show nI (ch (4 * j)) - (48 : Int32) = nI (ch (4 * j) - 48) from nsub (b := 48) g1, show nI (ch (4 * j + 2)) - (48 : Int32) = nI (ch (4 * j + 2) - 48) from nsub (b := 48) g3]
        refine Ev_f (nle_n (by omega) (by omega)) (Ev_ck rfl (by omega) (by omega) (Ev_ck rfl (by omega) (by omega) (Ev_bd _ (C_app6 hPj (by rw [pairs_l]; omega)) (fun h3 hh => hself _ _ ⟨nI_add _ 4, by rw [pairs_s]; exact hh⟩))))
      · rintro self a1 a2 ⟨rfl, hPj⟩
        unfold L_X8_layOn_11_6_2
        rw [(hPj.2.2.2 11 (by decide)).1, hc, n2, nI_add]
        exact Ev_t (le_n (by omega) (by omega)) (hk _ hPj)
    · obtain ⟨r, hr, q1, q2⟩ := C_plan hG hC hP2 (by rw [pairs_l]; omega)
      rw [pairs_l] at q1 q2
      by_cases hk : k + (t + 1) / 4 ≤ 24
      · obtain ⟨c1, rfl, a1, a2, a3⟩ := q2 hk
        rw [bdx_r hr]
        refine Ev_bd (fun c2 => c2 = wF c1 11 1 0) (Ev_nm (Ev_so rfl)) (fun c2 e => ?_)
        subst e
        refine Ev_so ⟨fun z => absurd hk (by omega), fun _ => ⟨_, rfl, ?_, (a2.mono (by decide)).sF (by decide), ?_, by rw [wF_1, upd_s]⟩⟩
        · rw [pairs_l]; exact Sm.nC a1 (l := [11]) (Sm.rf.sF (by decide)) (by decide) (by decide) (by decide)
        · obtain ⟨b1, b2, b3, b4⟩ := a3
          refine ⟨?_, fun x hx => ?_, fun x hx => ?_, ?_⟩
          · rw [wF_n _ _ _ _ _ (by decide)]; exact b1
          · rw [wF_n _ _ _ _ _ (by decide), wF_n _ _ _ _ _ (by decide)]; exact b2 x hx
          · rw [wF_n _ _ _ _ _ (by decide)]; exact b3 x hx
          · rw [wF_n _ _ _ _ _ (by decide)]; exact b4
      · have := q1 (by omega)
        subst this
        rw [bdx_l hr]
        exact Ev_so ⟨fun _ => ⟨h2, rfl, hP2.2.2.2⟩, fun z => absurd z hk⟩
