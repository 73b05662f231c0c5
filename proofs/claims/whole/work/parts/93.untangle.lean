/-! CASES untangle, outputs, wrong -/
def renN (a b w : Nat) : Nat := if w = a then b else if w = b then a else w
theorem ren_lt {n a b w : Nat} (ha : a < n) (hb : b < n) (hw : w < n) : renN a b w < n := by
  unfold renN
  split
  · exact hb
  · split <;> assumption
theorem ren_ne {a b w y : Nat} (h : w ≠ y) : renN a b w ≠ renN a b y := by
  unfold renN
  split <;> split <;> (try split) <;> (try split) <;> omega
def untS (f o : Nat → Nat) : Nat → (Nat → Nat) × (Nat → Nat) × Nat
  | 0 => (f, o, 0)
  | i + 1 => if (untS f o i).2.1 i < (untS f o i).1 i then (fun x => if i ≤ x then renN ((untS f o i).1 i) ((untS f o i).2.1 i) ((untS f o i).1 x) else (untS f o i).1 x, fun x => if i ≤ x then renN ((untS f o i).1 i) ((untS f o i).2.1 i) ((untS f o i).2.1 x) else (untS f o i).2.1 x, (untS f o i).2.2 + 1) else untS f o i
theorem unt_good {n k : Nat} {f o : Nat → Nat} (hG : Good n k f o) : ∀ i, i ≤ k → Good n k (untS f o i).1 (untS f o i).2.1 ∧ (untS f o i).2.2 ≤ i
  | 0, _ => ⟨hG, Nat.le_refl _⟩
  | i + 1, hi => by
    obtain ⟨h1, h2⟩ := unt_good hG i (by omega)
    obtain ⟨g1, g2, g3⟩ := h1.2.2.2 i (by omega)
    unfold untS
    split
    · refine ⟨⟨hG.1, hG.2.1, hG.2.2.1, fun x hx => ?_⟩, by show _ + 1 ≤ _; omega⟩
      obtain ⟨u1, u2, u3⟩ := h1.2.2.2 x hx
      dsimp only
      by_cases e : i ≤ x
      · rw [if_pos e, if_pos e]
        exact ⟨ren_lt g1 g2 u1, ren_lt g1 g2 u2, ren_ne u3⟩
      · rw [if_neg e, if_neg e]
        exact ⟨u1, u2, u3⟩
    · exact ⟨h1, by omega⟩
theorem M_ren {a b w : Nat} (ha : a < 6) (hb : b < 6) (hw : w < 6) : f_X11_renamed (nI w) (nI a) (nI b) = some (nI (renN a b w)) := by
  unfold f_X11_renamed renN
  simp only [nI_iff (show w < 2 ^ 31 by omega) (show a < 2 ^ 31 by omega), nI_iff (show w < 2 ^ 31 by omega) (show b < 2 ^ 31 by omega)]
  split
  · rfl
  · split <;> rfl
theorem C_ren {a b w : Nat} (ha : a < 6) (hb : b < 6) (hw : w < 6) : f_X9_renamed (nI w) (nI a) (nI b) = some (nI (renN a b w)) := M_ren ha hb hw
theorem C_untangle {n k : Nat} {f o : Nat → Nat} {c : Hp} (hG : Good n k f o) (hC : NetC n k f o c) : Ev (f_X10_untangle c) (fun r => r.1 = nI (untS f o k).2.2 ∧ NetC n k (untS f o k).1 (untS f o k).2.1 r.2 ∧ Sm [2, 3, 20, 23, 24, 25, 27] c r.2 ∧ FgC r.2) := by
  have hn := hG.2.1
  have hk24 := hG.2.2.1
  unfold f_X10_untangle
  refine Ev_bd (fun r => r.1 = nI (untS f o k).2.2 ∧ Sm [2, 3] c r.2 ∧ ∀ i, i < k → r.2.1 2 i = nI ((untS f o k).1 i) ∧ r.2.1 3 i = nI ((untS f o k).2.1 i)) ?_ (fun r ⟨a1, a2, a3⟩ => Ev_bd _ (s_forgetC r.2) (fun c1 ⟨hS, h1, h2, h3, h4⟩ => Ev_so ⟨a1, ⟨?_, ?_, fun i hi => ?_⟩, (a2.mono (by decide)).tr (hS.mono (by decide)), h1, h2, h3, h4⟩))
  · unfold f_X9_straighten_1
    refine Ev_jn2 (fun a h => a = nI (untS f o k).2.2 ∧ Sm [2, 3] c h ∧ ∀ i, i < k → h.1 2 i = nI ((untS f o k).1 i) ∧ h.1 3 i = nI ((untS f o k).2.1 i)) (fun a h hh => Ev_so hh) (fun kk hk => ?_)
    refine Ev_fx3 (fun j a1 a2 h => a2 = nI j ∧ a1 = nI (untS f o j).2.2 ∧ Sm [2, 3] c h ∧ ∀ i, i < k → h.1 2 i = nI ((untS f o j).1 i) ∧ h.1 3 i = nI ((untS f o j).2.1 i)) k ?_ ?_ (FU_lt (by omega)) ⟨rfl, rfl, Sm.rf, fun i hi => hC.2.2 i hi⟩
    · rintro self j a1 a2 h hj ⟨rfl, rfl, hS, hZ⟩ hself
      obtain ⟨hGj, hTj⟩ := unt_good hG j (by omega)
      obtain ⟨g1, g2, g3⟩ := hGj.2.2.2 j hj
      unfold L_X9_straighten_1_4
      rw [(hS 1 (by decide)).1, hC.2.1, clN (by omega), (hZ j hj).1, (hZ j hj).2]
      have hs : untS f o (j + 1) = if (untS f o j).2.1 j < (untS f o j).1 j then (fun x => if j ≤ x then renN ((untS f o j).1 j) ((untS f o j).2.1 j) ((untS f o j).1 x) else (untS f o j).1 x, fun x => if j ≤ x then renN ((untS f o j).1 j) ((untS f o j).2.1 j) ((untS f o j).2.1 x) else (untS f o j).2.1 x, (untS f o j).2.2 + 1) else untS f o j := rfl
      generalize untS f o j = U at hs hZ hGj hTj g1 g2 g3 ⊢
      refine Ev_f (nle_n hj (by omega)) (Ev_bd (fun r => r = if U.2.1 j < U.1 j then 1 else 0) ?_ (fun r hr => ?_))
      · unfold f_X9_isCrooked_1
        rw [clN (by omega), (hZ j hj).1, (hZ j hj).2]
        refine Ev_ck rfl (by omega) (by omega) (Ev_ck rfl (by omega) (by omega) (Ev_i (fun e => Ev_ckz (Or.inl rfl) (Ev_so ?_)) (fun e => Ev_ckz (Or.inr rfl) (Ev_so ?_))))
        · rw [nI_leI (by omega) (by omega)] at e
          rw [if_neg (by omega)]
        · rw [nI_leI (by omega) (by omega)] at e
          rw [if_pos (by omega)]
      · subst hr
        by_cases e : U.2.1 j < U.1 j
        · rw [if_pos e] at hs ⊢
          refine Ev_f (by decide) (Ev_ck rfl (by omega) (by omega) (Ev_ck rfl (by omega) (by omega) ?_))
          refine Ev_bd (fun h1 => Sm [2, 3] c h1 ∧ ∀ i, i < k → h1.1 2 i = nI ((untS f o (j + 1)).1 i) ∧ h1.1 3 i = nI ((untS f o (j + 1)).2.1 i)) ?_ (fun h1 ⟨b1, b2⟩ => hself _ _ _ ⟨nI_add j 1, by rw [hs]; exact nI_add _ 1, b1, b2⟩)
          unfold f_X9_changeNames_1
          refine Ev_jn1 (fun h1 => Sm [2, 3] c h1 ∧ ∀ i, i < k → h1.1 2 i = nI ((untS f o (j + 1)).1 i) ∧ h1.1 3 i = nI ((untS f o (j + 1)).2.1 i)) (fun h1 hh => Ev_so hh) (fun kq hkq => ?_)
          refine Ev_fx2 (fun d a1 a2 => a1 = nI (j + d) ∧ Sm [2, 3] c a2 ∧ (∀ i, i < k → i < j + d → a2.1 2 i = nI ((untS f o (j + 1)).1 i) ∧ a2.1 3 i = nI ((untS f o (j + 1)).2.1 i)) ∧ ∀ i, i < k → j + d ≤ i → a2.1 2 i = nI (U.1 i) ∧ a2.1 3 i = nI (U.2.1 i)) (k - j) ?_ ?_ (FU_lt (by omega)) ⟨rfl, hS, fun i hi hi2 => ?_, fun i hi _ => hZ i hi⟩
          · rintro self2 d b1 b2 hd ⟨rfl, hS2, hl, hr⟩ hself2
            obtain ⟨u1, u2, u3⟩ := hGj.2.2.2 (j + d) (by omega)
            have e2 := hr (j + d) (by omega) (Nat.le_refl _)
            unfold L_X9_changeNames_1_3
            rw [(hS2 1 (by decide)).1, hC.2.1, clN (by omega), e2.1]
            refine Ev_f (nle_n (by omega) (by omega)) (Ev_ck rfl (by omega) (by omega) (Ev_bde (C_ren (by omega) (by omega) (by omega)) (Ev_ck rfl (by omega) (by omega) (Ev_nm (Ev_ck rfl (by omega) (by omega) ?_)))))
            rw [wI_n _ _ _ _ _ (by decide), e2.2]
            refine Ev_bde (C_ren (by omega) (by omega) (by omega)) (Ev_ck rfl (by omega) (by omega) (Ev_nm (hself2 _ _ ⟨nI_add _ 1, (hS2.sI (by decide)).sI (by decide), fun i hi hi2 => ?_, fun i hi hi2 => ?_⟩)))
            · by_cases q : i = j + d
              · subst q
                simp (disch := omega) only [wI_1, wI_n, clN, upd_s]
                rw [hs]
                dsimp only
                rw [if_pos (by omega), if_pos (by omega)]
                exact ⟨rfl, rfl⟩
              · simp (disch := omega) only [wI_1, wI_n, clN, upd_n]
                exact hl i hi (by omega)
            · simp (disch := omega) only [wI_1, wI_n, clN, upd_n]
              exact hr i hi (by omega)
          · rintro self2 b1 b2 ⟨rfl, hS2, hl, hr⟩
            unfold L_X9_changeNames_1_3
            rw [(hS2 1 (by decide)).1, hC.2.1]
            exact Ev_t (le_n (by omega) (by omega)) (hkq _ ⟨hS2, fun i hi => hl i hi (by omega)⟩)
          · rw [hs]
            dsimp only
            rw [if_neg (by omega), if_neg (by omega)]
            exact hZ i hi
        · rw [if_neg e] at hs ⊢
          exact Ev_t rfl (hself _ _ _ ⟨nI_add j 1, by rw [hs], hS, fun i hi => by rw [hs]; exact hZ i hi⟩)
    · rintro self a1 a2 h ⟨rfl, rfl, hS, hZ⟩
      unfold L_X9_straighten_1_4
      rw [(hS 1 (by decide)).1, hC.2.1]
      exact Ev_t (Int32.le_refl _) (hk _ _ ⟨rfl, hS, hZ⟩)
  · rw [(hS 1 (by decide)).1, (a2 1 (by decide)).1]; exact hC.1
  · rw [(hS 1 (by decide)).1, (a2 1 (by decide)).1]; exact hC.2.1
  · rw [(hS 2 (by decide)).1, (hS 3 (by decide)).1]; exact a3 i hi
theorem M_untangle {n k : Nat} {f o : Nat → Nat} {m : Hp} (hG : Good n k f o) (hM : NetM n k f o m) : Ev (f_X11_untangle m) (fun r => r.1 = nI (untS f o k).2.2 ∧ NetM n k (untS f o k).1 (untS f o k).2.1 r.2 ∧ Sm [0, 1, 2, 9, 10] m r.2 ∧ r.2.1 0 11 = m.1 0 11 ∧ FgM r.2) := by
  have hn := hG.2.1
  have hk24 := hG.2.2.1
  unfold f_X11_untangle
  refine Ev_nm ?_
  have hM1 := hM.t (x := 0)
  have hS1 : Sm [0, 1, 2, 9, 10] m (wF m 0 0 0) := Sm.rf.sF (by decide)
  have h11 : (wF m 0 0 0).1 0 11 = m.1 0 11 := by rw [wF_1, upd_n _ _ (by decide)]
  generalize wF m 0 0 0 = g at hM1 hS1 h11
  refine Ev_jn2 (fun a h => a = nI (untS f o k).2.2 ∧ Sm [1, 2] g h ∧ ∀ i, i < k → h.1 1 i = nI ((untS f o k).1 i) ∧ h.1 2 i = nI ((untS f o k).2.1 i)) (fun a h ⟨a1, a2, a3⟩ => Ev_bd _ (s_forgetM h) (fun m1 ⟨hS4, c1, c2, c3, c4⟩ => Ev_so ⟨a1, ⟨?_, ?_, fun x hx => ?_, ?_, fun r hr x hx => ?_⟩, (hS1.tr (a2.mono (by decide))).tr (hS4.mono (by decide)), ?_, c1, c3, c4⟩)) (fun kk hk => ?_)
  · rw [c2 1 (by decide), (a2 0 (by decide)).1]; exact hM1.1
  · rw [c2 2 (by decide), (a2 0 (by decide)).1]; exact hM1.2.1
  · rw [(hS4 1 (by decide)).1, (hS4 2 (by decide)).1]; exact a3 x hx
  · rw [c2 7 (by decide), (a2 0 (by decide)).1]; exact hM1.2.2.2.1
  · rw [(hS4 4 (by decide)).1, (a2 4 (by decide)).1]; exact hM1.2.2.2.2 r hr x hx
  · rw [c2 11 (by decide), (a2 0 (by decide)).1]; exact h11
  · refine Ev_fx3 (fun j a1 a2 h => a2 = nI j ∧ a1 = nI (untS f o j).2.2 ∧ Sm [1, 2] g h ∧ ∀ i, i < k → h.1 1 i = nI ((untS f o j).1 i) ∧ h.1 2 i = nI ((untS f o j).2.1 i)) k ?_ ?_ (FU_lt (by omega)) ⟨rfl, rfl, Sm.rf, fun i hi => hM1.2.2.1 i hi⟩
    · rintro self j a1 a2 h hj ⟨rfl, rfl, hS, hZ⟩ hself
      obtain ⟨hGj, hTj⟩ := unt_good hG j (by omega)
      obtain ⟨g1, g2, g3⟩ := hGj.2.2.2 j hj
      unfold L_X11_untangle_9
      rw [(hS 0 (by decide)).1, hM1.2.1, clN (by omega), (hZ j hj).1, (hZ j hj).2]
      have hs : untS f o (j + 1) = if (untS f o j).2.1 j < (untS f o j).1 j then (fun x => if j ≤ x then renN ((untS f o j).1 j) ((untS f o j).2.1 j) ((untS f o j).1 x) else (untS f o j).1 x, fun x => if j ≤ x then renN ((untS f o j).1 j) ((untS f o j).2.1 j) ((untS f o j).2.1 x) else (untS f o j).2.1 x, (untS f o j).2.2 + 1) else untS f o j := rfl
      generalize untS f o j = U at hs hZ hGj hTj g1 g2 g3 ⊢
      refine Ev_f (nle_n hj (by omega)) (Ev_ck rfl (by omega) (by omega) (Ev_ck rfl (by omega) (by omega) ?_))
      refine Ev_i (fun e => ?_) (fun e => ?_)
      · rw [nI_leI (by omega) (by omega)] at e
        rw [if_neg (by omega)] at hs
        exact hself _ _ _ ⟨nI_add j 1, by rw [hs], hS, fun i hi => by rw [hs]; exact hZ i hi⟩
      · rw [nI_leI (by omega) (by omega)] at e
        rw [if_pos (by omega)] at hs
        refine Ev_jn1 (fun h1 => Sm [1, 2] g h1 ∧ ∀ i, i < k → h1.1 1 i = nI ((untS f o (j + 1)).1 i) ∧ h1.1 2 i = nI ((untS f o (j + 1)).2.1 i)) (fun h1 ⟨b1, b2⟩ => hself _ _ _ ⟨nI_add j 1, by rw [hs]; exact nI_add _ 1, b1, b2⟩) (fun kq hkq => ?_)
        rw [n1, nI_add]
        refine Ev_fx2 (fun d a1 a2 => a1 = nI (j + d) ∧ Sm [1, 2] g a2 ∧ (∀ i, i < k → i < j + d → a2.1 1 i = nI ((untS f o (j + 1)).1 i) ∧ a2.1 2 i = nI ((untS f o (j + 1)).2.1 i)) ∧ ∀ i, i < k → j + d ≤ i → a2.1 1 i = nI (U.1 i) ∧ a2.1 2 i = nI (U.2.1 i)) (k - j) ?_ ?_ (FU_lt (by omega)) ⟨rfl, hS, fun i hi hi2 => ?_, fun i hi _ => hZ i hi⟩
        · rintro self2 d b1 b2 hd ⟨rfl, hS2, hl, hr⟩ hself2
          obtain ⟨u1, u2, u3⟩ := hGj.2.2.2 (j + d) (by omega)
          have e2 := hr (j + d) (by omega) (Nat.le_refl _)
          unfold L_X11_untangle_44
          rw [(hS2 0 (by decide)).1, hM1.2.1, clN (by omega), e2.1]
          refine Ev_f (nle_n (by omega) (by omega)) (Ev_ck rfl (by omega) (by omega) (Ev_bde (M_ren (by omega) (by omega) (by omega)) (Ev_ck rfl (by omega) (by omega) (Ev_nm (Ev_ck rfl (by omega) (by omega) ?_)))))
          rw [wI_n _ _ _ _ _ (by decide), e2.2]
          refine Ev_bde (M_ren (by omega) (by omega) (by omega)) (Ev_ck rfl (by omega) (by omega) (Ev_nm (hself2 _ _ ⟨nI_add _ 1, (hS2.sI (by decide)).sI (by decide), fun i hi hi2 => ?_, fun i hi hi2 => ?_⟩)))
          · by_cases q : i = j + d
            · subst q
              simp (disch := omega) only [wI_1, wI_n, clN, upd_s]
              rw [hs]
              dsimp only
              rw [if_pos (by omega), if_pos (by omega)]
              exact ⟨rfl, rfl⟩
            · simp (disch := omega) only [wI_1, wI_n, clN, upd_n]
              exact hl i hi (by omega)
          · simp (disch := omega) only [wI_1, wI_n, clN, upd_n]
            exact hr i hi (by omega)
        · rintro self2 b1 b2 ⟨rfl, hS2, hl, hr⟩
          unfold L_X11_untangle_44
          rw [(hS2 0 (by decide)).1, hM1.2.1]
          exact Ev_t (le_n (by omega) (by omega)) (hkq _ ⟨hS2, fun i hi => hl i hi (by omega)⟩)
        · rw [hs]
          dsimp only
          rw [if_neg (by omega), if_neg (by omega)]
          exact hZ i hi
    · rintro self a1 a2 h ⟨rfl, rfl, hS, hZ⟩
      unfold L_X11_untangle_9
      rw [(hS 0 (by decide)).1, hM1.2.1]
      exact Ev_t (Int32.le_refl _) (hk _ _ ⟨rfl, hS, hZ⟩)
theorem pc_5 {L : Nat} {xs : Nat → Int32} {i : Int32} {s : LWS} {kont : LWS → Option Unit} (hI : Inv s) (hk : ∀ s1, Inv s1 → kont s1 = some ()) : lc_5 L xs i s kont = some () := by
  obtain ⟨c, m, out⟩ := s
  obtain ⟨n, k, f, o, hG, hC, hM, hT, hB, hS, hSt, hA⟩ := hI
  obtain ⟨r1, h1, a1, a2, a3, a4⟩ := C_untangle hG hC
  obtain ⟨r2, h2, b1, b2, b3, b4, b5⟩ := M_untangle hG hM
  simp only [lc_5, h1, h2, bd, nm, setC, setM]
  rw [if_pos (by rw [a1, b1])]
  exact hk _ (Inv.made2 (unt_good hG k (Nat.le_refl k)).1 a2 b2 hT hSt hA (a3.mono (by decide)) (b3.mono (by decide)) b4 a4 b5)
