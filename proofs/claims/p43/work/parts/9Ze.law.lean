/-! P43: the law on every script -/
theorem LawI.up {T T2 : Nat} {c : Hp} {r0 r1 r2 r3 r5 : Row} (h : LawI T c r0 r1 r2 r3 r5) (hT : T ≤ T2) : LawI T2 c r0 r1 r2 r3 r5 := by
  obtain ⟨n, k, f, o, a1, a2, a3, a4, a5, a6, a7, a8, a9, a10⟩ := h
  exact ⟨n, k, f, o, a1, a2, a3, a4, a5, a6, a7.up hT, a8, a9, a10⟩
theorem AdR.told {n a b : Nat} {z : Int64} {r3 : Row} (hn : n ≤ 6) (ha : a < n) (hb : b < n) (h : AdR z r3) : AdR (lsB z a b) (upd r3 (6 * a + b) 1) := fun j hj => by
  rw [ls_bit (by omega) (by omega) (by omega)]
  by_cases q : j = 6 * a + b
  · rw [q, upd_s, if_pos]
    rw [Bool.or_eq_true, decide_eq_true_eq]
    exact Or.inr (by omega)
  · rw [upd_n _ _ q, h j hj, decide_eq_false (by omega), Bool.or_false]
theorem AdvL.told {n a b : Nat} {c c1 : Hp} {r3 : Row} (hn : n ≤ 6) (ha : a < n) (hb : b < n) (h : AdvL n c r3) (e : c1.2 32 0 = lsB (c.2 32 0) a b) (hp : 0 < ctC n (lsB (c.2 32 0) a b)) : AdvL n c1 (upd r3 (6 * a + b) 1) := by
  obtain ⟨h1, h2, _⟩ := h
  unfold AdvL
  rw [e]
  exact ⟨ls_ok hn ha hb h1, h2.told hn ha hb, ct_pos hp⟩
theorem LawS.told {T n k a b : Nat} {f o : Nat → Nat} {c c1 : Hp} {r0 r1 r2 r3 r5 : Row} (h : LawS T n k f o c r0 r1 r2 r3 r5) (hS : Sm [32, 34] c c1) (ha : a < n) (hb : b < n) (e : c1.2 32 0 = lsB (c.2 32 0) a b) (hp : 0 < ctC n (lsB (c.2 32 0) a b)) : LawS T n k f o c1 r0 r1 r2 (upd r3 (6 * a + b) 1) r5 := by
  obtain ⟨a1, a2, a3, a4, a5, a6, a7, a8, a9, a10⟩ := h
  exact ⟨a1, a2, hS.nC a3 (by decide) (by decide) (by decide), a4, a5, a6.sm hS (by decide) (by decide), a7.sm hS (by decide) (by decide) (by decide) (by decide), a8.keep (hS 20 (by decide)).1 (hS 22 (by decide)).1, a9.keep (by rw [(hS 29 (by decide)).1]), a10.told a1.2.1 ha hb e hp⟩
theorem LawS.wiped {T n k : Nat} {f o : Nat → Nat} {c c1 : Hp} {r0 r1 r2 r3 r5 : Row} (h : LawS T n k f o c r0 r1 r2 r3 r5) (hS : Sm [11] c c1) (e : c1.1 11 1 = 0) : LawS T n k f o c1 r0 r1 r2 r3 (upd r5 2 0) := by
  obtain ⟨a1, a2, a3, a4, a5, a6, a7, a8, a9, a10⟩ := h
  exact ⟨a1, a2, hS.nC a3 (by decide) (by decide) (by decide), a4, ⟨by rw [upd_n _ _ (by omega)]; exact a5.1, by rw [upd_n _ _ (by omega)]; exact a5.2⟩, TapL.z e (upd_s _ _ _), a7.sm hS (by decide) (by decide) (by decide) (by decide), a8.keep (hS 20 (by decide)).1 (hS 22 (by decide)).1, a9.keep (by rw [(hS 29 (by decide)).1]), a10.sm hS (by decide)⟩
theorem LawS.net {T n k p : Nat} {f o : Nat → Nat} {c c1 : Hp} {r0 r1 r2 r3 r5 s2 s3 : Row} (h : LawS T n k f o c r0 r1 r2 r3 r5) (hp2 : 2 ≤ p) (hp : p ≤ 5) (hC : NetC p 0 f o c1) (hS : Sm [1, 20, 23, 24, 25, 27, 32] c c1) (hF : FgC c1) (e : c1.2 32 0 = 0) (h2 : RwN 6 s2 (fun _ => 0)) (h3 : RwN 36 s3 (fun _ => 0)) : LawS T p 0 f o c1 r0 r1 s2 s3 (upd (upd r5 0 (nI p)) 1 0) := by
  obtain ⟨a1, a2, a3, a4, a5, a6, a7, a8, a9, a10⟩ := h
  refine ⟨⟨hp2, by omega, by omega, fun i hi => absurd hi (by omega)⟩, hp, hC, fun i hi => absurd hi (by omega), ⟨?_, upd_s _ _ _⟩, (a6.sm hS (by decide) (by decide)).q ?_, BalL.new (by omega) hF h2, Or.inl hF.2.2.2, a9.keep (by rw [(hS 29 (by decide)).1]), ?_⟩
  · rw [upd_n _ _ (by omega), upd_s]
  · rw [upd_n _ _ (by omega), upd_n _ _ (by omega)]
  · unfold AdvL
    rw [e]
    refine ⟨fun j hj => ?_, fun j hj => ?_, 0, fac_pos p, cons_0⟩
    · rw [bt_0] at hj; cases hj
    · rw [bt_0, h3 j hj]; rfl
theorem due_pos {n a b : Nat} {z : Int64} (hn : n ≤ 6) (ha : a < n) (hb : b < n) (hab : a ≠ b) (hx : ∃ r, r < facN n ∧ consN z n (rowT n r) = true) : (askP n z a b → 0 < ctC n (lsB z a b)) ∧ (¬ askP n z a b → 0 < ctC n (lsB z b a)) := by
  have hs := ct_split2 (z := z) hn ha hb hab
  have hp : 0 < ctC n z := ct_some hx
  unfold askP
  constructor
  · rintro (h | h) <;> omega
  · intro h
    have h1 : ¬ ctC n (lsB z b a) < ctC n (lsB z a b) := fun q => h (Or.inl q)
    omega
theorem r_b {T : Nat} {z : Int32} {c : Hp} {x2 : Int32} {r0 r1 r2 r3 r4 : Row} {q : Nat} (hq : q < 7) (ez : z = nI q) (hL : LawI T c r0 r1 r2 r3 r4) : Ev (f_L_builds z x2 c r0 r1 r2 r3 r4) (BdP T r1 r3) := by
  obtain ⟨n, k, f, o, hL⟩ := hL
  subst ez
  rcases (show q = 0 ∨ q = 1 ∨ q = 2 ∨ q = 3 ∨ q = 4 ∨ q = 5 ∨ q = 6 by omega) with rfl | rfl | rfl | rfl | rfl | rfl | rfl
  · exact b_add hL
  · exact b_take hL
  · exact b_make hL
  · exact b_build hL
  · exact b_mirror hL
  · exact b_untangle hL
  · exact b_prune (fun j hj e => by rw [neqI (by omega) (by omega)] at e; omega) hL
set_option maxRecDepth 20000 in
set_option maxHeartbeats 4000000 in
theorem r_turn1 {L T j : Nat} {xs : Nat → Int32} {c : Hp} {r0 r1 r2 r3 r4 r5 : Row} {P : Int32 → Prop} {kk : Int32 → Hp → Row → Row → Row → Row → Row → Row → Option Int32} {self : Int32 → Int32 → Hp → Row → Row → Row → Row → Row → Row → Option Int32} (hLL : L ≤ 260) (hT : T + 4 ≤ 1000) (hj : j < 70) (hL : LawI T c r0 r1 r2 r3 r5) (hself : ∀ c r0 r1 r2 r3 r4 r5, LawI (T + 4) c r0 r1 r2 r3 r5 → Ev (self 1 (nI (j + 1)) c r0 r1 r2 r3 r4 r5) P) : Ev (L_L_law_52 L xs kk self 1 (nI j) c r0 r1 r2 r3 r4 r5) P := by
  unfold L_L_law_52
  refine Ev_f (nle_n (a := 70) hj (by omega)) (Ev_f (by decide) (Ev_bd _ (r_cell hLL hj) (fun v _ => Ev_bd _ (r_low (n := 30) (by omega) (by omega)) (fun r12 ⟨act, hact, eact⟩ => Ev_nm ?_))))
  subst eact
  generalize ishr v (4 : Int32) = z
  refine Ev_jn8 (fun x8 h s0 s1 s2 s3 s4 s5 => x8 = 1 ∧ LawI (T + 4) h s0 s1 s2 s3 s5) (fun x8 h s0 s1 s2 s3 s4 s5 ⟨e8, hL⟩ => ?_) (fun k602 h602 => ?_)
  · subst e8
    obtain ⟨n, k, f, o, hL⟩ := hL
    have hL0 := hL
    obtain ⟨hG, h5, hC, hc, hq, hTp, hB, hS, hSt, hA⟩ := hL
    refine Ev_f (by decide) (Ev_bd _ (r_same (T := T + 4) hT hG h5 hC hc hq hTp hB hS hSt hA) (fun y ⟨y1, y2, y3⟩ => Ev_f (by rw [y1]; decide) ?_))
    rw [show nI j + (1 : Int32) = nI (j + 1) from nI_add j 1]
    exact hself _ _ _ _ _ _ _ ⟨n, k, f, o, hL0.kept y2 y3⟩
  · obtain ⟨n, k, f, o, hL⟩ := hL
    have hL0 := hL
    obtain ⟨hG, h5, hC, hc, hq, hTp, hB, hS, hSt, hA⟩ := hL
    have hn := hG.2.1
    have hn2 := hG.1
    have hk24 := hG.2.2.1
    have cI : ∀ b, b < 100 → ((nI b ≤ nI act) = (b ≤ act)) := fun b hb => propext (nI_leI (by omega) (by omega))
    have cE : ∀ b, b < 100 → ((nI act = nI b) = (act = b)) := fun b hb => nI_iff (by omega) (by omega)
    by_cases h0 : act = 0
    · refine Ev_t (by rw [show (0 : Int32) = nI 0 from rfl, cE 0 (by omega)]; exact h0) ?_
      rw [cl0, cl1, hq.2]
      refine Ev_c1 (Ev_bd _ (r_low (n := 4) (by omega) (by omega)) (fun r68 ⟨m, hm, em⟩ => ?_))
      subst em
      rw [n2, nI_add]
      refine Ev_c0 (Ev_nm (Ev_c1 (Ev_nm (Ev_bd _ r_forgets (fun s2 h2 => Ev_jn1 (fun p => RwN 36 p (fun _ => 0)) (fun s3 h3 => ?_) (fun k142 h142 => r_123 (fun p hp => h142 p hp)))))))
      have e50 : upd (upd r5 0 (nI (2 + m))) 1 0 0 = nI (2 + m) := by rw [upd_n _ _ (by omega), upd_s]
      rw [e50]
      refine Ev_c0 (Ev_hc (fun a : Int32 × Hp => a.1 = nI k ∧ NetC (2 + m) 0 f o a.2 ∧ Sm [1, 20, 23, 24, 25, 27, 32] c a.2 ∧ FgC a.2 ∧ a.2.2 32 0 = 0) ?_ (fun a ⟨a1, a2, a3, a4, a5⟩ => ?_))
      · exact Ev_mono (C_network hC (p := 2 + m) (by omega) (by omega)) (fun r ⟨c1, e, h⟩ => ⟨_, e, rfl, h⟩)
      · refine Ev_jn1 (fun w => w = 1) (fun w hw => h602 _ _ _ _ _ _ _ _ ⟨hw, ?_⟩) (fun k160 h160 => Ev_t a1 (h160 _ rfl))
        exact LawI.up ⟨2 + m, 0, f, o, hL0.net (by omega) (by omega) a2 a3 a4 a5 h2 h3⟩ (by omega)
    · refine Ev_f (by rw [show (0 : Int32) = nI 0 from rfl, cE 0 (by omega)]; exact h0) ?_
      by_cases h17 : 17 ≤ act
      · refine Ev_t (by rw [show (17 : Int32) = nI 17 from rfl, cI 17 (by omega)]; exact h17) ?_
        by_cases h20 : 20 ≤ act
        · refine Ev_t (by rw [show (20 : Int32) = nI 20 from rfl, cI 20 (by omega)]; exact h20) ?_
          by_cases h22 : 22 ≤ act
          · refine Ev_t (by rw [show (22 : Int32) = nI 22 from rfl, cI 22 (by omega)]; exact h22) ?_
            by_cases h26 : 26 ≤ act
            · refine Ev_t (by rw [show (26 : Int32) = nI 26 from rfl, cI 26 (by omega)]; exact h26) ?_
              have en1 : nI n - (1 : Int32) = nI (n - 1) := by rw [n1, nsub (by omega)]
              rw [cl0, hq.1, en1]
              refine Ev_c0 (Ev_bd _ (r_low (by omega) (by omega)) (fun r25 ⟨a, ha, ea⟩ => Ev_c0 (Ev_bd _ (r_low (by omega) (by omega)) (fun r27 ⟨u, hu, eu⟩ => Ev_c0 (Ev_nz (nI_ne0 (by omega) (by omega)) ?_)))))
              subst ea eu
              have eab : irm (nI a + (1 : Int32) + nI u) (nI n) = nI ((a + 1 + u) % n) := by rw [n1, nI_add, nI_add, irmN (by omega) (by omega) (by omega)]
              rw [eab]
              obtain ⟨hb, hab⟩ := two_ne ha hu
              generalize (a + 1 + u) % n = b at hb hab
              obtain ⟨hz, hAd, hx⟩ := hA
              have g1 := r_agreeing (a := a) (b := b) h5 hn2 ha hb hz hAd hq
              have g2 := r_agreeing (a := b) (b := a) h5 hn2 hb ha hz hAd hq
              rw [agC_ls hn ha hb (Ne.symm hab)] at g1
              rw [agC_ls hn hb ha hab] at g2
              have l1 := ct_le720 (n := n) (z := lsB (c.2 32 0) a b) hn
              have l2 := ct_le720 (n := n) (z := lsB (c.2 32 0) b a) hn
              obtain ⟨d1, d2⟩ := due_pos (z := c.2 32 0) hn ha hb (Ne.symm hab) hx
              refine Ev_nm (Ev_bde g1 (Ev_bde g2 (Ev_jn1 (fun w => w = pI (askP n (c.2 32 0) a b)) (fun w hw => ?_) (fun k552 h552 => ?_))))
              · refine Ev_jn1 (fun g => (askP n (c.2 32 0) a b → g = nI (6 * a + b)) ∧ (¬ askP n (c.2 32 0) a b → g = nI (6 * b + a))) (fun g hg => ?_) (fun k580 h580 => ?_)
                · have hask := X_ask hn hC.1 ha hb (Ne.symm hab) hz
                  by_cases hP : askP n (c.2 32 0) a b
                  · have hg := hg.1 hP
                    subst hg
                    refine Ev_ck rfl (by omega) (by omega) (Ev_nm (Ev_hc _ hask (fun y ⟨y1, y2, _, y4, y5⟩ => Ev_jn1 (fun w => w = 1) (fun w hw => h602 _ _ _ _ _ _ _ _ ⟨hw, ?_⟩) (fun k600 h600 => Ev_t (y1.trans hw.symm) (h600 _ rfl)))))
                    rw [clN (by omega)]
                    exact LawI.up ⟨n, k, f, o, hL0.told y2 ha hb (y4 hP) (d1 hP)⟩ (by omega)
                  · have hg := hg.2 hP
                    subst hg
                    refine Ev_ck rfl (by omega) (by omega) (Ev_nm (Ev_hc _ hask (fun y ⟨y1, y2, _, y4, y5⟩ => Ev_jn1 (fun w => w = 1) (fun w hw => h602 _ _ _ _ _ _ _ _ ⟨hw, ?_⟩) (fun k600 h600 => Ev_t (y1.trans hw.symm) (h600 _ rfl)))))
                    rw [clN (by omega)]
                    exact LawI.up ⟨n, k, f, o, hL0.told y2 hb ha (y5 hP) (d2 hP)⟩ (by omega)
                · have e6 : ∀ p q, (6 : Int32) * nI p + nI q = nI (6 * p + q) := fun p q => by rw [show (6 : Int32) = nI 6 from rfl, nmul, nI_add]
                  rw [e6, e6]
                  by_cases hP : askP n (c.2 32 0) a b
                  · exact Ev_f (by rw [hw, pI_t hP]; decide) (h580 _ ⟨fun _ => rfl, fun z => absurd hP z⟩)
                  · exact Ev_t (by rw [hw, pI_f hP]) (h580 _ ⟨fun z => absurd z hP, fun _ => rfl⟩)
              · refine Ev_jn0 (askP n (c.2 32 0) a b) (fun hP => h552 _ (pI_t hP).symm) (fun k547 h547 => ?_)
                refine Ev_i (fun e => h547 ?_) (fun e => ?_)
                · rw [nI_ltI (by omega) (by omega)] at e
                  exact Or.inl e
                · rw [nI_ltI (by omega) (by omega)] at e
                  refine Ev_jn0 (¬ askP n (c.2 32 0) a b) (fun hP => h552 _ (pI_f hP).symm) (fun k551 h551 => Ev_i (fun e2 => Ev_i (fun e3 => h551 ?_) (fun e3 => h547 ?_)) (fun e2 => h551 ?_))
                  · rw [neqI (by omega) (by omega)] at e2
                    rw [nI_leI (by omega) (by omega)] at e3
                    rintro (q | q) <;> omega
                  · rw [neqI (by omega) (by omega)] at e2
                    rw [nI_leI (by omega) (by omega)] at e3
                    exact Or.inr ⟨e2, by omega⟩
                  · rw [neqI (by omega) (by omega)] at e2
                    rintro (q | q) <;> omega
            · refine Ev_f (by rw [show (26 : Int32) = nI 26 from rfl, cI 26 (by omega)]; exact h26) ?_
              exact Ev_jn4 (fun x8 h s2 s4 => x8 = 1 ∧ LawI (T + 4) h r0 r1 s2 r3 r5) (fun x8 h s2 s4 hh => h602 _ _ _ _ _ _ _ _ hh) (fun k461 h461 => r_308 hT hL0 (fun c r2 r4 hL => h461 _ _ _ _ ⟨rfl, n, k, f, o, hL⟩))
          · refine Ev_f (by rw [show (22 : Int32) = nI 22 from rfl, cI 22 (by omega)]; exact h22) ?_
            obtain ⟨t, ch, ht, t11, tq2, hch⟩ := hTp
            rw [cl2, tq2]
            refine Ev_c2 (Ev_c2 (Ev_nm (Ev_bd _ (X_wipe t11) (fun y ⟨y1, y2, y3⟩ => Ev_jn1 (fun w => w = 1) (fun w hw => h602 _ _ _ _ _ _ _ _ ⟨hw, ?_⟩) (fun k293 h293 => Ev_t y1 (h293 _ rfl))))))
            exact LawI.up ⟨n, k, f, o, hL0.wiped y2 y3⟩ (by omega)
        · refine Ev_f (by rw [show (20 : Int32) = nI 20 from rfl, cI 20 (by omega)]; exact h20) ?_
          exact Ev_bd _ (r_types (T := T) ⟨n, k, f, o, hL0⟩) (fun y ⟨y1, y2⟩ => h602 _ _ _ _ _ _ _ _ ⟨y1, y2.up (by omega)⟩)
      · refine Ev_f (by rw [show (17 : Int32) = nI 17 from rfl, cI 17 (by omega)]; exact h17) ?_
        refine Ev_jn1 (fun w => ∃ q, q < 7 ∧ w = nI q) (fun w ⟨q, hq7, ew⟩ => Ev_bd _ (r_b (T := T) hq7 ew ⟨n, k, f, o, hL0⟩) (fun y ⟨y1, y2⟩ => h602 _ _ _ _ _ _ _ _ ⟨y1, y2.up (by omega)⟩)) (fun k222 h222 => ?_)
        refine Ev_i (fun _ => Ev_i (fun _ => h222 _ ⟨1, by omega, rfl⟩) (fun _ => Ev_i (fun _ => Ev_i (fun e => h222 _ ?_) (fun _ => h222 _ ⟨3, by omega, rfl⟩)) (fun _ => h222 _ ⟨2, by omega, rfl⟩))) (fun _ => h222 _ ⟨0, by omega, rfl⟩)
        rw [show (14 : Int32) = nI 14 from rfl, cI 14 (by omega)] at e
        exact ⟨act - 10, by omega, by rw [show (10 : Int32) = nI 10 from rfl, nsub (by omega)]⟩
theorem Law_start : LawI 0 hC0 (fun _ => 0) (fun _ => 0) (fun _ => 0) (fun _ => 0) (upd (fun _ => 0) 0 2) := by
  refine ⟨2, 0, fun _ => 0, fun _ => 0, ⟨by omega, by omega, by omega, fun i hi => absurd hi (by omega)⟩, by omega, ⟨rfl, rfl, fun i hi => absurd hi (by omega)⟩, fun i hi => absurd hi (by omega), ⟨rfl, rfl⟩, TapL.z rfl rfl, BalL.new (by omega) ⟨rfl, fun x hx => ⟨rfl, rfl⟩, fun i hi => rfl, rfl⟩ (fun x hx => rfl), Or.inl rfl, fun st n h1 h2 h3 => Or.inl (fun r hr => rfl), ?_⟩
  show okBits 2 0 ∧ AdR 0 (fun _ => 0) ∧ ∃ r, r < facN 2 ∧ consN 0 2 (rowT 2 r) = true
  refine ⟨fun j hj => ?_, fun j hj => ?_, 0, fac_pos 2, cons_0⟩
  · rw [bt_0] at hj; cases hj
  · rw [bt_0]; rfl
theorem law_pure (L : Nat) (xs : Nat → Int32) (hL : L ≤ 260) : lawP L xs = some 1 := by
  refine Ev_eq ?_
  unfold lawP f_L_law
  refine Ev_c0 (Ev_nm (Ev_jn8 (fun x8 _ _ _ _ _ _ _ => x8 = 1) (fun x8 _ _ _ _ _ _ _ e => Ev_so e) (fun k643 h643 => ?_)))
  refine Ev_fx9 (fun j a8 a9 h s0 s1 s2 s3 s4 s5 => a9 = nI j ∧ a8 = 1 ∧ LawI (4 * j) h s0 s1 s2 s3 s5) 70 ?_ ?_ (by omega) ⟨rfl, rfl, Law_start⟩
  · rintro self j a8 a9 h s0 s1 s2 s3 s4 s5 hj ⟨rfl, rfl, hI⟩ hself
    exact r_turn1 hL (by omega) hj hI (fun c r0 r1 r2 r3 r4 r5 hI2 => hself _ _ _ _ _ _ _ _ _ ⟨rfl, rfl, hI2⟩)
  · rintro self a8 a9 h s0 s1 s2 s3 s4 s5 ⟨rfl, rfl, hI⟩
    unfold L_L_law_52
    exact Ev_t (Int32.le_refl _) (h643 _ _ _ _ _ _ _ _ rfl)
