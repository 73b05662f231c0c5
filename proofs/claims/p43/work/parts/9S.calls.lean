/-! P43: the calls of the class as the law makes them -/
theorem Ev_fx6 {A1 A2 A3 A4 A5 A6 β : Type} {F : (A1 → A2 → A3 → A4 → A5 → A6 → Option β) → A1 → A2 → A3 → A4 → A5 → A6 → Option β} {P : β → Prop} (I : Nat → A1 → A2 → A3 → A4 → A5 → A6 → Prop) (n : Nat) (hs : ∀ (self : A1 → A2 → A3 → A4 → A5 → A6 → Option β) (j : Nat) (a1 : A1) (a2 : A2) (a3 : A3) (a4 : A4) (a5 : A5) (a6 : A6), j < n → I j a1 a2 a3 a4 a5 a6 → (∀ b1 b2 b3 b4 b5 b6, I (j + 1) b1 b2 b3 b4 b5 b6 → Ev (self b1 b2 b3 b4 b5 b6) P) → Ev (F self a1 a2 a3 a4 a5 a6) P) (he : ∀ (self : A1 → A2 → A3 → A4 → A5 → A6 → Option β) (a1 : A1) (a2 : A2) (a3 : A3) (a4 : A4) (a5 : A5) (a6 : A6), I n a1 a2 a3 a4 a5 a6 → Ev (F self a1 a2 a3 a4 a5 a6) P) {N : Nat} (hN : n < N) {a1 : A1} {a2 : A2} {a3 : A3} {a4 : A4} {a5 : A5} {a6 : A6} (h0 : I 0 a1 a2 a3 a4 a5 a6) : Ev (fx6 F N a1 a2 a3 a4 a5 a6) P := by
  have key : ∀ (d j N : Nat) (a1 : A1) (a2 : A2) (a3 : A3) (a4 : A4) (a5 : A5) (a6 : A6), j + d = n → d < N → I j a1 a2 a3 a4 a5 a6 → Ev (fx6 F N a1 a2 a3 a4 a5 a6) P := by
    intro d
    induction d with
    | zero =>
      intro j N a1 a2 a3 a4 a5 a6 hj hN hI
      obtain ⟨M, rfl⟩ : ∃ M, N = M + 1 := ⟨N - 1, by omega⟩
      have e : j = n := by omega
      subst e
      exact he _ a1 a2 a3 a4 a5 a6 hI
    | succ d ih =>
      intro j N a1 a2 a3 a4 a5 a6 hj hN hI
      obtain ⟨M, rfl⟩ : ∃ M, N = M + 1 := ⟨N - 1, by omega⟩
      exact hs (fx6 F M) j a1 a2 a3 a4 a5 a6 (by omega) hI (fun b1 b2 b3 b4 b5 b6 hI2 => ih (j + 1) M b1 b2 b3 b4 b5 b6 (by omega) (by omega) hI2)
  exact key n 0 N a1 a2 a3 a4 a5 a6 (by omega) (by omega) h0
theorem Ev_fx9 {A1 A2 A3 A4 A5 A6 A7 A8 A9 β : Type} {F : (A1 → A2 → A3 → A4 → A5 → A6 → A7 → A8 → A9 → Option β) → A1 → A2 → A3 → A4 → A5 → A6 → A7 → A8 → A9 → Option β} {P : β → Prop} (I : Nat → A1 → A2 → A3 → A4 → A5 → A6 → A7 → A8 → A9 → Prop) (n : Nat) (hs : ∀ (self : A1 → A2 → A3 → A4 → A5 → A6 → A7 → A8 → A9 → Option β) (j : Nat) (a1 : A1) (a2 : A2) (a3 : A3) (a4 : A4) (a5 : A5) (a6 : A6) (a7 : A7) (a8 : A8) (a9 : A9), j < n → I j a1 a2 a3 a4 a5 a6 a7 a8 a9 → (∀ b1 b2 b3 b4 b5 b6 b7 b8 b9, I (j + 1) b1 b2 b3 b4 b5 b6 b7 b8 b9 → Ev (self b1 b2 b3 b4 b5 b6 b7 b8 b9) P) → Ev (F self a1 a2 a3 a4 a5 a6 a7 a8 a9) P) (he : ∀ (self : A1 → A2 → A3 → A4 → A5 → A6 → A7 → A8 → A9 → Option β) (a1 : A1) (a2 : A2) (a3 : A3) (a4 : A4) (a5 : A5) (a6 : A6) (a7 : A7) (a8 : A8) (a9 : A9), I n a1 a2 a3 a4 a5 a6 a7 a8 a9 → Ev (F self a1 a2 a3 a4 a5 a6 a7 a8 a9) P) {N : Nat} (hN : n < N) {a1 : A1} {a2 : A2} {a3 : A3} {a4 : A4} {a5 : A5} {a6 : A6} {a7 : A7} {a8 : A8} {a9 : A9} (h0 : I 0 a1 a2 a3 a4 a5 a6 a7 a8 a9) : Ev (fx9 F N a1 a2 a3 a4 a5 a6 a7 a8 a9) P := by
  have key : ∀ (d j N : Nat) (a1 : A1) (a2 : A2) (a3 : A3) (a4 : A4) (a5 : A5) (a6 : A6) (a7 : A7) (a8 : A8) (a9 : A9), j + d = n → d < N → I j a1 a2 a3 a4 a5 a6 a7 a8 a9 → Ev (fx9 F N a1 a2 a3 a4 a5 a6 a7 a8 a9) P := by
    intro d
    induction d with
    | zero =>
      intro j N a1 a2 a3 a4 a5 a6 a7 a8 a9 hj hN hI
      obtain ⟨M, rfl⟩ : ∃ M, N = M + 1 := ⟨N - 1, by omega⟩
      have e : j = n := by omega
      subst e
      exact he _ a1 a2 a3 a4 a5 a6 a7 a8 a9 hI
    | succ d ih =>
      intro j N a1 a2 a3 a4 a5 a6 a7 a8 a9 hj hN hI
      obtain ⟨M, rfl⟩ : ∃ M, N = M + 1 := ⟨N - 1, by omega⟩
      exact hs (fx9 F M) j a1 a2 a3 a4 a5 a6 a7 a8 a9 (by omega) hI (fun b1 b2 b3 b4 b5 b6 b7 b8 b9 hI2 => ih (j + 1) M b1 b2 b3 b4 b5 b6 b7 b8 b9 (by omega) (by omega) hI2)
  exact key n 0 N a1 a2 a3 a4 a5 a6 a7 a8 a9 (by omega) (by omega) h0
theorem Ev_jn8 {A1 A2 A3 A4 A5 A6 A7 A8 β : Type} {b : (A1 → A2 → A3 → A4 → A5 → A6 → A7 → A8 → Option β) → Option β} {j : A1 → A2 → A3 → A4 → A5 → A6 → A7 → A8 → Option β} {P : β → Prop} (Q : A1 → A2 → A3 → A4 → A5 → A6 → A7 → A8 → Prop) (hj : ∀ (a1 : A1) (a2 : A2) (a3 : A3) (a4 : A4) (a5 : A5) (a6 : A6) (a7 : A7) (a8 : A8), Q a1 a2 a3 a4 a5 a6 a7 a8 → Ev (j a1 a2 a3 a4 a5 a6 a7 a8) P) (hb : ∀ j : A1 → A2 → A3 → A4 → A5 → A6 → A7 → A8 → Option β, (∀ (a1 : A1) (a2 : A2) (a3 : A3) (a4 : A4) (a5 : A5) (a6 : A6) (a7 : A7) (a8 : A8), Q a1 a2 a3 a4 a5 a6 a7 a8 → Ev (j a1 a2 a3 a4 a5 a6 a7 a8) P) → Ev (b j) P) : Ev (jn8 b j) P := hb j hj
theorem C_ren {a b w : Nat} (ha : a < 6) (hb : b < 6) (hw : w < 6) : f_X9_renamed (nI w) (nI a) (nI b) = some (nI (renN a b w)) := by
  unfold f_X9_renamed renN
  simp only [nI_iff (show w < 2 ^ 31 by omega) (show a < 2 ^ 31 by omega), nI_iff (show w < 2 ^ 31 by omega) (show b < 2 ^ 31 by omega)]
  split
  · rfl
  · split <;> rfl
theorem C_untangle {n k : Nat} {f o : Nat → Nat} {c : Hp} (hG : Good n k f o) (hC : NetC n k f o c) : Ev (f_X10_untangle c) (fun r => r.1 = nI (untS f o k).2.2 ∧ NetC n k (untS f o k).1 (untS f o k).2.1 r.2 ∧ Sm [2, 3, 20, 23, 24, 25, 27] c r.2 ∧ FgC r.2) := by
  have hn := hG.2.1
  have hk24 := hG.2.2.1
  unfold f_X10_untangle
  refine Ev_bd (fun r => r.1 = nI (untS f o k).2.2 ∧ Sm [2, 3] c r.2 ∧ ∀ i, i < k → r.2.1 2 i = nI ((untS f o k).1 i) ∧ r.2.1 3 i = nI ((untS f o k).2.1 i)) ?_ (fun r ⟨a1, a2, a3⟩ => Ev_bd _ (s_forgetC r.2) (fun c1 ⟨hS, h1, h2, h3, h4⟩ => Ev_so ⟨a1, ⟨?_, ?_, fun i hi => ?_⟩, (a2.mono (by decide)).tr (hS.mono (by decide)), h1, h2, h3, h4⟩))
  · unfold f_X9_straighten_1
    refine Ev_jn2 (fun a h => a = nI (untS f o k).2.2 ∧ Sm [2, 3] c h ∧ ∀ i, i < k → h.1 2 i = nI ((untS f o k).1 i) ∧ h.1 3 i = nI ((untS f o k).2.1 i)) (fun a h hh => Ev_so hh) (fun kk hk => ?_)
    refine Ev_fx3 (fun j a1 a2 h => a2 = nI j ∧ a1 = nI (untS f o j).2.2 ∧ Sm [2, 3] c h ∧ ∀ i, i < k → h.1 2 i = nI ((untS f o j).1 i) ∧ h.1 3 i = nI ((untS f o j).2.1 i)) k ?_ ?_ (FU_lt (by omega)) ⟨rfl, rfl, Sm.rf, fun i hi => hC.2.2 i hi⟩
    · rintro self j a1 a2 h hj ⟨rfl, rfl, hS, hZ⟩ hself
      obtain ⟨hGj, hTj⟩ := unt_good hG j (by omega)
      obtain ⟨g1, g2, g3⟩ := hGj.2.2.2 j hj
      unfold L_X9_straighten_1_4
      rw [(hS 1 (by decide)).1, hC.2.1, clN (by omega), (hZ j hj).1, (hZ j hj).2]
      have hs : untS f o (j + 1) = if (untS f o j).2.1 j < (untS f o j).1 j then (fun x => if j ≤ x then renN ((untS f o j).1 j) ((untS f o j).2.1 j) ((untS f o j).1 x) else (untS f o j).1 x, fun x => if j ≤ x then renN ((untS f o j).1 j) ((untS f o j).2.1 j) ((untS f o j).2.1 x) else (untS f o j).2.1 x, (untS f o j).2.2 + 1) else untS f o j := rfl
      generalize untS f o j = U at hs hZ hGj hTj g1 g2 g3 ⊢
      refine Ev_f (nle_n hj (by omega)) (Ev_bd (fun r => r = if U.2.1 j < U.1 j then 1 else 0) ?_ (fun r hr => ?_))
      · unfold f_X9_isCrooked_1
        rw [clN (by omega), (hZ j hj).1, (hZ j hj).2]
        refine Ev_ck rfl (by omega) (by omega) (Ev_ck rfl (by omega) (by omega) (Ev_i (fun e => Ev_ckz (Or.inl rfl) (Ev_so ?_)) (fun e => Ev_ckz (Or.inr rfl) (Ev_so ?_))))
        · rw [nI_leI (by omega) (by omega)] at e
          rw [if_neg (by omega)]
        · rw [nI_leI (by omega) (by omega)] at e
          rw [if_pos (by omega)]
      · subst hr
        by_cases e : U.2.1 j < U.1 j
        · rw [if_pos e] at hs ⊢
          refine Ev_f (by decide) (Ev_ck rfl (by omega) (by omega) (Ev_ck rfl (by omega) (by omega) ?_))
          refine Ev_bd (fun h1 => Sm [2, 3] c h1 ∧ ∀ i, i < k → h1.1 2 i = nI ((untS f o (j + 1)).1 i) ∧ h1.1 3 i = nI ((untS f o (j + 1)).2.1 i)) ?_ (fun h1 ⟨b1, b2⟩ => hself _ _ _ ⟨nI_add j 1, by rw [hs]; exact nI_add _ 1, b1, b2⟩)
          unfold f_X9_changeNames_1
          refine Ev_jn1 (fun h1 => Sm [2, 3] c h1 ∧ ∀ i, i < k → h1.1 2 i = nI ((untS f o (j + 1)).1 i) ∧ h1.1 3 i = nI ((untS f o (j + 1)).2.1 i)) (fun h1 hh => Ev_so hh) (fun kq hkq => ?_)
          refine Ev_fx2 (fun d a1 a2 => a1 = nI (j + d) ∧ Sm [2, 3] c a2 ∧ (∀ i, i < k → i < j + d → a2.1 2 i = nI ((untS f o (j + 1)).1 i) ∧ a2.1 3 i = nI ((untS f o (j + 1)).2.1 i)) ∧ ∀ i, i < k → j + d ≤ i → a2.1 2 i = nI (U.1 i) ∧ a2.1 3 i = nI (U.2.1 i)) (k - j) ?_ ?_ (FU_lt (by omega)) ⟨rfl, hS, fun i hi hi2 => ?_, fun i hi _ => hZ i hi⟩
          · rintro self2 d b1 b2 hd ⟨rfl, hS2, hl, hr⟩ hself2
            obtain ⟨u1, u2, u3⟩ := hGj.2.2.2 (j + d) (by omega)
            have e2 := hr (j + d) (by omega) (Nat.le_refl _)
            unfold L_X9_changeNames_1_3
            rw [(hS2 1 (by decide)).1, hC.2.1, clN (by omega), e2.1]
            refine Ev_f (nle_n (by omega) (by omega)) (Ev_ck rfl (by omega) (by omega) (Ev_bde (C_ren (by omega) (by omega) (by omega)) (Ev_ck rfl (by omega) (by omega) (Ev_nm (Ev_ck rfl (by omega) (by omega) ?_)))))
            rw [wI_n _ _ _ _ _ (by decide), e2.2]
            refine Ev_bde (C_ren (by omega) (by omega) (by omega)) (Ev_ck rfl (by omega) (by omega) (Ev_nm (hself2 _ _ ⟨nI_add _ 1, (hS2.sI (by decide)).sI (by decide), fun i hi hi2 => ?_, fun i hi hi2 => ?_⟩)))
            · by_cases q : i = j + d
              · subst q
                simp (disch := omega) only [wI_1, wI_n, clN, upd_s]
                rw [hs]
                dsimp only
                rw [if_pos (by omega), if_pos (by omega)]
                exact ⟨rfl, rfl⟩
              · simp (disch := omega) only [wI_1, wI_n, clN, upd_n]
                exact hl i hi (by omega)
            · simp (disch := omega) only [wI_1, wI_n, clN, upd_n]
              exact hr i hi (by omega)
          · rintro self2 b1 b2 ⟨rfl, hS2, hl, hr⟩
            unfold L_X9_changeNames_1_3
            rw [(hS2 1 (by decide)).1, hC.2.1]
            exact Ev_t (le_n (by omega) (by omega)) (hkq _ ⟨hS2, fun i hi => hl i hi (by omega)⟩)
          · rw [hs]
            dsimp only
            rw [if_neg (by omega), if_neg (by omega)]
            exact hZ i hi
        · rw [if_neg e] at hs ⊢
          exact Ev_t rfl (hself _ _ _ ⟨nI_add j 1, by rw [hs], hS, fun i hi => by rw [hs]; exact hZ i hi⟩)
    · rintro self a1 a2 h ⟨rfl, rfl, hS, hZ⟩
      unfold L_X9_straighten_1_4
      rw [(hS 1 (by decide)).1, hC.2.1]
      exact Ev_t (Int32.le_refl _) (hk _ _ ⟨rfl, hS, hZ⟩)
  · rw [(hS 1 (by decide)).1, (a2 1 (by decide)).1]; exact hC.1
  · rw [(hS 1 (by decide)).1, (a2 1 (by decide)).1]; exact hC.2.1
  · rw [(hS 2 (by decide)).1, (hS 3 (by decide)).1]; exact a3 i hi
theorem X_run {n k q : Nat} {f o : Nat → Nat} {c : Hp} (hG : Good n k f o) (h5 : n ≤ 5) (hC : NetC n k f o c) (hq : q < facN n) : Ev (f_X10_run c (nI (cdQ n q))) (fun r => ∃ a : Int32 × Hp, r = .inr a ∧ a.1 = nI (cdS n (netN f o k (rowT n q)) n) ∧ a.2 = c) := by
  have hn := hG.2.1
  have hn2 := hG.1
  obtain ⟨pk, hpk, hPK⟩ := C_code h5 hn2 hq
  have hv := row_perm hn hq
  unfold f_X10_run
  rw [bdx_r (C_rowOf_t hC.1 (hPK.lt hn) hpk)]
  refine Ev_bd _ (C_sent hG hC hPK hv.1) (fun y ⟨p, ep, hp⟩ => ?_)
  subst ep
  dsimp only
  rw [hC.1]
  have hl := net_lt hG hv.1 k (Nat.le_refl k)
  exact Ev_bde (C_toCode hn hp (fun x hx => by have := hl x hx; omega) (by omega)) (Ev_so ⟨_, rfl, rfl, rfl⟩)
theorem X_wrong {n k a : Nat} {f o : Nat → Nat} {c : Hp} (hG : Good n k f o) (hC : NetC n k f o c) (ha : a < 2 ^ 31) : Ev (f_X10_wrong c (nI a)) (fun r => ∃ b : Int32 × Hp, r = .inr b ∧ wrR (fun r => unsB n (netB f o 99 0 k (bR r))) (2 ^ n) a b.1 ∧ Sm [14] c b.2) := by
  obtain ⟨r0, h0, p1, p2, p3⟩ := s_unsortedFrom hG hC
  obtain ⟨y, hy, q1⟩ := C_rowIn (z := r0.1) ha
  refine ⟨.inr (y, r0.2), ?_, _, rfl, q1.of hG.2.1 p3, p1⟩
  unfold f_X10_wrong f_X10_checkPlace
  rw [bdx_r (if_pos (nI_pos' ha)), h0]
  simp only [bd, hy]
theorem X_merges {n k w : Nat} {f o : Nat → Nat} {c : Hp} (hG : Good n k f o) (hC : NetC n k f o c) (hw1 : 1 ≤ w) (hw : w < n) : Ev (f_X10_merges c (nI w)) (fun r => ∃ b : Int32 × Hp, r = .inr b ∧ b.1 = pI (merP n k f o w (2 ^ n)) ∧ Sm [14, 15] c b.2) := by
  have hn := hG.2.1
  obtain ⟨r0, h0, p1, p2⟩ := C_mergesAt hG hC hw1 hw
  unfold f_X10_merges
  refine Ev_jn0 False (fun h => h.elim) (fun j hj => Ev_f ?_ (Ev_t ?_ (Ev_bde h0 (Ev_ckz (by rw [p1]; exact pI_01 _) (Ev_so ⟨_, rfl, p1, p2⟩)))))
  · rw [n1, nI_ltI (by omega) (by omega)]; omega
  · rw [hC.1, nI_ltI (by omega) (by omega)]; exact hw
theorem X_chooses {n k w : Nat} {f o : Nat → Nat} {c : Hp} (hG : Good n k f o) (hC : NetC n k f o c) (hw1 : 1 ≤ w) (hw : w < n) : Ev (f_X10_chooses c (nI w)) (fun r => ∃ b : Int32 × Hp, r = .inr b ∧ b.1 = pI (chP n k f o w (2 ^ n)) ∧ Sm [14] c b.2) := by
  have hn := hG.2.1
  obtain ⟨r0, h0, p1, p2⟩ := C_choosesL hG hC (a := w) (by omega)
  unfold f_X10_chooses
  refine Ev_jn0 False (fun h => h.elim) (fun j hj => Ev_f ?_ (Ev_t ?_ (Ev_bde h0 (Ev_ckz (by rw [p1]; exact pI_01 _) (Ev_so ⟨_, rfl, p1, p2⟩)))))
  · rw [n1, nI_ltI (by omega) (by omega)]; omega
  · rw [hC.1, nI_ltI (by omega) (by omega)]; exact hw
theorem X_came {n x : Nat} {y : Int32} {c : Hp} (hc : c.1 1 0 = nI n) (hn : n ≤ 6) (hx : x < n) (hy : c.1 25 x = y) : Ev (f_X10_came c (nI x)) (fun r => ∃ b : Int32 × Hp, r = .inr b ∧ b.1 = y ∧ b.2 = c) := by
  unfold f_X10_came
  rw [bdx_r (C_wire_t hc hn hx), ck_nI (by omega) (by omega), clN (by omega)]
  exact Ev_so ⟨_, rfl, hy, rfl⟩
theorem X_anew {n k t x : Nat} {f o v : Nat → Nat} {c : Hp} (hG : Good n k f o) (hC : NetC n k f o c) (hx : x < n) (ht : t ≤ 1000) (hv : ∀ y, v y ≤ t) (h5 : ∀ y, y < 6 → c.1 24 y = nI (v y)) : Ev (f_X10_cameAnew c (nI x)) (fun r => ∃ b : Int32 × Hp, r = .inr b ∧ b.1 = nI (balN f o k v x) ∧ Sm [26] c b.2) := by
  obtain ⟨r1, h1, a1, a2⟩ := C_anew hG hC hx ht hv h5
  unfold f_X10_cameAnew
  rw [bdx_r (C_wire_t hC.1 hG.2.1 hx), h1]
  exact Ev_so ⟨_, rfl, a1, a2⟩
theorem X_textAt {n k p : Nat} {f o : Nat → Nat} {c : Hp} (hG : Good n k f o) (hC : NetC n k f o c) (hp : p < 2 ^ 31) : Ev (f_X10_textAt c (nI p)) (fun r => ∃ b : Int32 × Hp, r = .inr b ∧ txA n k f o p b.1 ∧ Sm [4, 5] c b.2) := by
  obtain ⟨r0, h0, a1, a2, a3⟩ := C_signAt hG hC hp (fun a ha => rk_ex hG ha)
  unfold f_X10_textAt f_X10_checkPlace
  rw [bdx_r (if_pos (nI_pos' hp)), h0]
  exact Ev_ckc a2 (Ev_so ⟨_, rfl, a1, a3⟩)
theorem X_finishes {n k : Nat} {f o : Nat → Nat} {c : Hp} (hG : Good n k f o) (hC : NetC n k f o c) : Ev (f_X10_finishes c (2 : Int32)) (fun r => ∃ b : Int32 × Hp, r = .inr b ∧ lstK (fun m => CFp n m (fun q => netB f o 99 0 k (bR q))) 2 b.1 ∧ Sm [14] c b.2) := by
  obtain ⟨r0, h0, p1, p2⟩ := C_missing hG hC (most := 2) (by omega)
  unfold f_X10_finishes
  exact Ev_jn0 False (fun h => h.elim) (fun j hj => Ev_f (by decide) (Ev_t (by decide) (Ev_bde h0 (Ev_so ⟨_, rfl, p1, p2⟩))))
theorem X_left {n : Nat} {c : Hp} (hn : n ≤ 6) (hc : c.1 1 0 = nI n) (hz : okBits n (c.2 32 0)) : Ev (f_X10_left c) (fun r => r.1 = nI (ctC n (c.2 32 0)) ∧ Sm [34] c r.2) := by
  unfold f_X10_left f_X0_rowsLeft_32
  rw [hc]
  exact Ev_bd _ (Ev_bd _ (C_left hn hz) (fun r hr => Ev_so hr)) (fun r hr => Ev_so hr)
theorem X_ask {n a b : Nat} {c : Hp} (hn : n ≤ 6) (hc : c.1 1 0 = nI n) (ha : a < n) (hb : b < n) (hab : a ≠ b) (hz : okBits n (c.2 32 0)) : Ev (f_X10_ask c (nI a) (nI b)) (fun r => ∃ g : Int32 × Hp, r = .inr g ∧ g.1 = pI (askP n (c.2 32 0) a b) ∧ Sm [32, 34] c g.2 ∧ g.2.1 32 = c.1 32 ∧ (askP n (c.2 32 0) a b → g.2.2 32 0 = lsB (c.2 32 0) a b) ∧ (¬ askP n (c.2 32 0) a b → g.2.2 32 0 = lsB (c.2 32 0) b a)) := by
  obtain ⟨r1, h1, a1, a2, a3, a4, a5⟩ := C_answer hn ha hb hz
  have hw := C_two (c := c) (x := nI a) (y := nI b) hc hn
  rw [if_neg (by rintro (h | h); exact not_bad (by omega) ha h; exact not_bad (by omega) hb h), if_neg (by rw [neqI (by omega) (by omega)]; exact hab)] at hw
  unfold f_X10_ask
  rw [bdx_r hw]
  rw [hc]
  exact Ev_bde h1 (Ev_ckz (by rw [a1]; exact pI_01 _) (Ev_so ⟨_, rfl, a1, a2, a3, a4, a5⟩))
theorem X_wipe {t : Nat} {c : Hp} (hc : c.1 11 1 = nI t) : Ev (f_X10_wipe c) (fun r => r.1 = nI t ∧ Sm [11] c r.2 ∧ r.2.1 11 1 = 0) := by
  unfold f_X10_wipe f_X8_empty_11
  refine Ev_bd (fun h => h = wF c 11 1 0) (Ev_nm (Ev_so rfl)) (fun h e => ?_)
  subst e
  exact Ev_so ⟨hc, Sm.rf.sF (by decide), by rw [wF_1, upd_s]⟩
theorem X_needed {n k : Nat} {f o : Nat → Nat} {c : Hp} (hG : Good n k f o) (hC : NetC n k f o c) (hz : okBits n (c.2 32 0)) (hx : ∃ r, r < facN n ∧ consN (c.2 32 0) n (rowT n r) = true) : Ev (f_X10_needed c) (fun r => (n ≤ 4 → ∃ d, d ≤ 6 ∧ r.1 = nI d ∧ ndP (fun q => SzP n q (c.2 32 0)) d) ∧ (¬ n ≤ 4 → r.1 = -1) ∧ Sm [34] c r.2) :=
  C_needed (m := (fun _ r => if consN (c.2 32 0) n (rowT n r) = true then 1 else 0, fun _ _ => 0)) hG hC ⟨hz, fun r hr => rfl, hx⟩
theorem X_sorts {n k : Nat} {f o : Nat → Nat} {c : Hp} (hG : Good n k f o) (hC : NetC n k f o c) : Ev (f_X10_sorts c) (fun r => r.1 = pI (ctB (fun r => unsB n (netB f o 99 0 k (bR r))) (2 ^ n) = 0) ∧ Sm [14] c r.2) :=
  Ev_mono (C_sorts hG hC) (fun r ⟨a, b⟩ => ⟨by rw [b]; exact pI_same ct_0.symm, a⟩)
