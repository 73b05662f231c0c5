/-! P43: the law's telling, ones and tests -/
theorem r_telling {n k sp md : Nat} {f o : Nat → Nat} {SP : Int32} {r0 r1 : Row} (hG : Good n k f o) (h5 : n ≤ 5) (hc : RcN k f o r0) (hn0 : r1 0 = nI n) (hk1 : r1 1 = nI k) (hsp : SpI SP sp) (hmd : md ≤ 2) : Ev (f_L_telling SP (nI md) r0 r1) (fun z => ColN n z (tellP n k f o sp md)) := by
  have hpw : 2 ^ n ≤ 2 ^ 5 := Nat.pow_le_pow_right (by omega) h5
  unfold f_L_telling
  refine Ev_jn1 (fun z => ColN n z (tellP n k f o sp md)) (fun z hz => Ev_so hz) (fun kk hk => ?_)
  refine Ev_fx2 (fun j a4 a6 => a6 = nI j ∧ ∀ r, r < 64 → bt64 a4 r = (decide (r < j) && tellP n k f o sp md r)) (2 ^ n) ?_ ?_ (FU_lt (by omega)) ⟨rfl, fun r hr => by rw [bt_0, decide_eq_false (by omega), Bool.false_and]⟩
  · rintro self j a4 a6 hj ⟨rfl, hz⟩ hself
    unfold L_L_telling_6
    rw [cl0, hn0, cl1, hk1, shl1 (by omega)]
    refine Ev_c0 (Ev_f (nle_n hj (by omega)) (Ev_c1 (Ev_bd _ (r_out hG h5 hc (Nat.le_refl k) hj hsp hmd) (fun y hy => Ev_c1 (Ev_bd _ (r_out (md := 0) hG h5 hc (Nat.le_refl k) hj SpI.m (by omega)) (fun w hw => ?_))))))
    have he := RQ.eq (by omega) hy hw
    refine Ev_i (fun e => Ev_nm (hself _ _ ⟨nI_add j 1, fun r hr => ?_⟩)) (fun e => Ev_nm (hself _ _ ⟨nI_add j 1, fun r hr => ?_⟩))
    · have e := he.mp e
      have ht : tellP n k f o sp md j = false := by
        unfold tellP
        rw [List.any_eq_false]
        intro x hx
        rw [e x (List.mem_range.mp hx)]
        simp
      rw [bt_or, bt_0, Bool.or_false, hz r hr]
      by_cases q : r = j
      · rw [q, ht, Bool.and_false, Bool.and_false]
      · rw [decide_eq_decide.mpr (show r < j ↔ r < j + 1 by omega)]
    · have ht : tellP n k f o sp md j = true := by
        apply Classical.byContradiction
        intro h
        apply e
        rw [he]
        intro x hx
        unfold tellP at h
        rw [Bool.not_eq_true, List.any_eq_false] at h
        have := h x (List.mem_range.mpr hx)
        revert this
        cases netB f o sp md k (bR j) x <;> cases netB f o 99 0 k (bR j) x <;> decide
      rw [bt_or, bt_lshl1 (by omega) hr, hz r hr]
      by_cases q : r = j
      · rw [q, ht, decide_eq_true rfl, Bool.or_true, decide_eq_true (Nat.lt_succ_self j)]; rfl
      · rw [decide_eq_false q, Bool.or_false, decide_eq_decide.mpr (show r < j ↔ r < j + 1 by omega)]
  · rintro self a4 a6 ⟨rfl, hz⟩
    unfold L_L_telling_6
    rw [cl0, hn0, shl1 (by omega)]
    exact Ev_c0 (Ev_t (Int32.le_refl _) (hk _ hz))
theorem l2i_bit (b : Bool) : l2i (if b = true then (1 : Int64) else 0) = nI (if b = true then 1 else 0) := by cases b <;> decide
theorem r_ones {z : Int64} : Ev (f_L_ones z) (fun y => y = nI (ctB (bt64 z) 64)) := by
  unfold f_L_ones
  refine Ev_jn1 (fun y => y = nI (ctB (bt64 z) 64)) (fun y hy => Ev_so hy) (fun kk hk => ?_)
  refine Ev_fx2 (fun j a2 a3 => a3 = nI j ∧ a2 = nI (ctB (bt64 z) j)) 64 ?_ ?_ (FU_lt (by omega)) ⟨rfl, rfl⟩
  · rintro self j a2 a3 hj ⟨rfl, rfl⟩ hself
    unfold L_L_ones_4
    rw [lu1s hj, l2i_bit, nI_add]
    exact Ev_f (nle_n (a := 64) hj (by omega)) (Ev_nm (hself _ _ ⟨nI_add j 1, rfl⟩))
  · rintro self a2 a3 ⟨rfl, rfl⟩
    unfold L_L_ones_4
    exact Ev_t (Int32.le_refl _) (hk _ rfl)
theorem i2l_bit : ((List.range 256).all fun s => (List.range 64).all fun r => bt64 (i2l (nI s)) r == s.testBit r) = true := by decide +kernel
theorem i2l_b {s r : Nat} (hs : s < 256) (hr : r < 64) : bt64 (i2l (nI s)) r = s.testBit r := eq_of_beq (List.all_eq_true.mp (List.all_eq_true.mp i2l_bit s (List.mem_range.mpr hs)) r (List.mem_range.mpr hr))
/-- a set of rows, as a number, that shows every fault there is -/
def CvS (n k : Nat) (f o : Nat → Nat) (J s : Nat) : Prop := ∀ j, j < J → (∃ r, r < 2 ^ n ∧ tN n k f o j r = true) → ∃ r, r < 2 ^ n ∧ tN n k f o j r = true ∧ s.testBit r = true
def ctS (s : Nat) : Nat := ctB (fun r => s.testBit r) 64
theorem lst_of {p : Nat → Bool} : ∀ N, ∃ R : List Nat, R.length = ctB p N ∧ ∀ r, r ∈ R ↔ r < N ∧ p r = true
  | 0 => ⟨[], rfl, fun r => by simp⟩
  | N + 1 => by
    obtain ⟨R, h1, h2⟩ := lst_of (p := p) N
    by_cases e : p N = true
    · refine ⟨N :: R, ?_, fun r => ?_⟩
      · rw [List.length_cons, h1, ct_s, if_pos e]
      · rw [List.mem_cons, h2]
        constructor
        · rintro (rfl | ⟨a, b⟩)
          · exact ⟨by omega, e⟩
          · exact ⟨by omega, b⟩
        · rintro ⟨a, b⟩
          by_cases q : r = N
          · exact Or.inl q
          · exact Or.inr ⟨by omega, b⟩
    · refine ⟨R, by rw [h1, ct_s, if_neg e, Nat.add_zero], fun r => ?_⟩
      rw [h2]
      constructor
      · rintro ⟨a, b⟩; exact ⟨by omega, b⟩
      · rintro ⟨a, b⟩
        by_cases q : r = N
        · rw [q] at b; exact absurd b e
        · exact ⟨by omega, b⟩
theorem set_of {N : Nat} (hN : N ≤ 64) : ∀ R : List Nat, ∃ s, s < 2 ^ N ∧ (∀ r, r < N → (s.testBit r = true ↔ r ∈ R)) ∧ ctS s ≤ R.length
  | [] => ⟨0, Nat.two_pow_pos N, fun r _ => by simp, by unfold ctS; rw [ct_0.mpr (fun r _ => Nat.zero_testBit r)]; exact Nat.le_refl _⟩
  | a :: R => by
    obtain ⟨s, h1, h2, h3⟩ := set_of hN R
    by_cases ha : a < N
    · have hb : ∀ r, (s ||| 2 ^ a).testBit r = (s.testBit r || decide (a = r)) := fun r => by rw [Nat.testBit_or, Nat.testBit_two_pow]
      refine ⟨s ||| 2 ^ a, Nat.or_lt_two_pow h1 (Nat.pow_lt_pow_right (by omega) ha), fun r hr => ?_, ?_⟩
      · rw [hb, Bool.or_eq_true, h2 r hr, List.mem_cons, decide_eq_true_eq]
        exact ⟨fun h => h.elim Or.inr (fun e => Or.inl e.symm), fun h => h.elim (fun e => Or.inr e.symm) Or.inl⟩
      · unfold ctS at h3 ⊢
        rw [ct_off (s := a) (show a < 64 by omega) (by rw [hb]; simp), List.length_cons]
        have := ct_sub (p := fun x => (s ||| 2 ^ a).testBit x && !decide (x = a)) (q := fun r => s.testBit r) (n := 64) (fun r _ h => by
          rw [hb, Bool.and_eq_true, Bool.or_eq_true, Bool.not_eq_true', decide_eq_false_iff_not, decide_eq_true_eq] at h
          exact h.1.resolve_right (fun z => h.2 z.symm))
        omega
    · refine ⟨s, h1, fun r hr => ?_, by rw [List.length_cons]; omega⟩
      rw [h2 r hr, List.mem_cons]
      exact ⟨Or.inr, fun h => h.resolve_left (by omega)⟩
theorem Ht_set {n k m : Nat} {f o : Nat → Nat} (hn : n ≤ 3) : HtP n k f o m ↔ ∃ s, s < 2 ^ (2 ^ n) ∧ CvS n k f o (3 * k) s ∧ ctS s ≤ m := by
  have hpw : 2 ^ n ≤ 2 ^ 3 := Nat.pow_le_pow_right (by omega) hn
  constructor
  · rintro ⟨R, h1, h2⟩
    obtain ⟨s, s1, s2, s3⟩ := set_of (N := 2 ^ n) (by omega) R
    refine ⟨s, s1, fun j hj he => ?_, by omega⟩
    obtain ⟨r, r1, r2, r3⟩ := h2 j hj he
    exact ⟨r, r2, r3, (s2 r r2).mpr r1⟩
  · rintro ⟨s, s1, s2, s3⟩
    obtain ⟨R, r1, r2⟩ := lst_of (p := fun r => s.testBit r) (2 ^ n)
    refine ⟨R, ?_, fun j hj he => ?_⟩
    · rw [r1]
      exact Nat.le_trans (ct_mono (show 2 ^ n ≤ 64 by omega)) s3
    · obtain ⟨r, q1, q2, q3⟩ := s2 j hj he
      exact ⟨r, (r2 r).mpr ⟨q1, q3⟩, q1, q2⟩
/-- the best among the first sets -/
def BsI (n k : Nat) (f o : Nat → Nat) (j : Nat) (b : Int32) : Prop := (b = -1 ∧ ∀ s, s < j → CvS n k f o (3 * k) s → 5 ≤ ctS s) ∨ ∃ t, t < j ∧ CvS n k f o (3 * k) t ∧ b = nI (ctS t) ∧ ctS t ≤ 4 ∧ ∀ s, s < j → CvS n k f o (3 * k) s → ctS t ≤ ctS s
theorem BsI.skip {n k j : Nat} {f o : Nat → Nat} {b : Int32} (h : BsI n k f o j b) (hs : CvS n k f o (3 * k) j → (5 ≤ ctS j ∨ (¬ b = -1 ∧ b ≤ nI (ctS j)))) : BsI n k f o (j + 1) b := by
  rcases h with ⟨rfl, h⟩ | ⟨t, h1, h2, rfl, h4, h5⟩
  · refine Or.inl ⟨rfl, fun s hs2 hc => ?_⟩
    by_cases e : s = j
    · rw [e] at hc ⊢
      exact (hs hc).resolve_right (fun z => z.1 rfl)
    · exact h s (by omega) hc
  · refine Or.inr ⟨t, by omega, h2, rfl, h4, fun s hs2 hc => ?_⟩
    by_cases e : s = j
    · rw [e] at hc ⊢
      rcases hs hc with z | ⟨_, z⟩
      · omega
      · have : ctS j ≤ 64 := ct_le
        rw [nI_leI (by omega) (by omega)] at z
        exact z
    · exact h5 s (by omega) hc
theorem BsI.put {n k j : Nat} {f o : Nat → Nat} {b : Int32} (h : BsI n k f o j b) (hc : CvS n k f o (3 * k) j) (h4 : ctS j ≤ 4) (hb : b < 0 ∨ ¬ b ≤ nI (ctS j)) : BsI n k f o (j + 1) (nI (ctS j)) := by
  refine Or.inr ⟨j, by omega, hc, rfl, h4, fun s hs hc2 => ?_⟩
  by_cases e : s = j
  · rw [e]; exact Nat.le_refl _
  · rcases h with ⟨rfl, h⟩ | ⟨t, h1, h2, rfl, h4, h5⟩
    · have := h s (by omega) hc2
      omega
    · have := h5 s (by omega) hc2
      rcases hb with hb | hb
      · exact absurd hb (nI_pos (by omega))
      · rw [nI_leI (by omega) (by omega)] at hb
        omega
theorem BsI.lst {n k : Nat} {f o : Nat → Nat} {b : Int32} (hn : n ≤ 3) (h : BsI n k f o (2 ^ (2 ^ n)) b) : lstK (HtP n k f o) 4 b := by
  rcases h with ⟨rfl, h⟩ | ⟨t, h1, h2, rfl, h4, h5⟩
  · refine Or.inr ⟨rfl, fun m hm => ?_⟩
    rw [Ht_set hn]
    rintro ⟨s, s1, s2, s3⟩
    have := h s s1 s2
    omega
  · refine Or.inl ⟨ctS t, h4, rfl, (Ht_set hn).mpr ⟨t, h1, h2, Nat.le_refl _⟩, fun m hm => ?_⟩
    rw [Ht_set hn]
    rintro ⟨s, s1, s2, s3⟩
    have := h5 s s1 s2
    omega
theorem cv_dec {n k j s : Nat} {f o : Nat → Nat} {z : Int64} (hn : n ≤ 3) (hs : s < 256) (hz : ColN n z (tellP n k f o (j / 3) (j % 3))) : ((¬ lg_cmp z 0 = 0) ∧ lg_cmp (z &&& i2l (nI s)) 0 = 0) ↔ ¬ ((∃ r, r < 2 ^ n ∧ tN n k f o j r = true) → ∃ r, r < 2 ^ n ∧ tN n k f o j r = true ∧ s.testBit r = true) := by
  have hpw : 2 ^ n ≤ 2 ^ 3 := Nat.pow_le_pow_right (by omega) hn
  rw [hid_iff (by omega) hz, lg_eq, hz.nz (by omega)]
  have hh : hidB n k f o (i2l (nI s)) j = true ↔ ¬ ∃ r, r < 2 ^ n ∧ tN n k f o j r = true ∧ s.testBit r = true := by
    unfold hidB
    rw [List.all_eq_true]
    constructor
    · rintro h ⟨r, r1, r2, r3⟩
      have := h r (List.mem_range.mpr r1)
      unfold tN at r2
      rw [i2l_b hs (by omega), r2, r3] at this
      cases this
    · intro h r hr
      have hr := List.mem_range.mp hr
      rw [i2l_b hs (by omega)]
      cases e1 : tellP n k f o (j / 3) (j % 3) r with
      | false => rfl
      | true =>
        cases e2 : s.testBit r with
        | false => rfl
        | true => exact absurd ⟨r, hr, e1, e2⟩ h
  rw [hh]
  constructor
  · rintro ⟨a, b⟩ h
    exact b (h a)
  · intro h
    exact ⟨Classical.byContradiction (fun z => h (fun a => absurd a z)), fun z => h (fun _ => z)⟩
theorem r_tests {n k : Nat} {f o : Nat → Nat} {r0 r1 : Row} (hG : Good n k f o) (hn3 : n ≤ 3) (hc : RcN k f o r0) (hn0 : r1 0 = nI n) (hk1 : r1 1 = nI k) : Ev (f_L_tests r0 r1) (fun y => lstK (HtP n k f o) 4 y) := by
  have hk24 := hG.2.2.1
  have hpw : 2 ^ n ≤ 2 ^ 3 := Nat.pow_le_pow_right (by omega) hn3
  have hpp : 2 ^ (2 ^ n) ≤ 2 ^ 8 := Nat.pow_le_pow_right (by omega) hpw
  unfold f_L_tests
  refine Ev_jn1 (fun y => lstK (HtP n k f o) 4 y) (fun y hy => Ev_so hy) (fun kk hk => ?_)
  refine Ev_fx2 (fun j a2 a3 => a3 = nI j ∧ BsI n k f o j a2) (2 ^ (2 ^ n)) ?_ ?_ (FU_lt (by omega)) ⟨rfl, Or.inl ⟨rfl, fun s hs => absurd hs (by omega)⟩⟩
  · rintro self s a2 a3 hs ⟨rfl, hB⟩ hself
    have hct : ctB (bt64 (i2l (nI s))) 64 = ctS s := ct_congr (fun r hr => i2l_b (by omega) hr)
    have h64 : ctS s ≤ 64 := ct_le
    have hloop : ∀ (a4 a5 : Int32) (P : Int32 → Prop) (k108 : Int32 → Option Int32), (a5 = 0 ∨ a5 = 1) → (∀ y, (y = 0 ∧ (a5 = 1 → ¬ CvS n k f o (3 * k) s)) ∨ (y = 1 ∧ a5 = 1 ∧ CvS n k f o (3 * k) s) → Ev (k108 y) P) → Ev (fx2 (L_L_tests_48 a2 (nI s) a4 r0 r1 k108) FU a5 (0 : Int32)) P := by
      intro a4 a5 P k108 h01 h108
      refine Ev_fx2 (fun j b5 a6 => a6 = nI j ∧ ((b5 = 0 ∧ (a5 = 1 → ¬ CvS n k f o (3 * k) s)) ∨ (b5 = 1 ∧ a5 = 1 ∧ CvS n k f o j s))) (3 * k) ?_ ?_ (FU_lt (by omega)) ⟨rfl, ?_⟩
      · rintro self j b5 a6 hj ⟨rfl, hb⟩ hself
        unfold L_L_tests_48
        rw [cl1, hk1, n3, nmul]
        refine Ev_c1 (Ev_f (nle_n hj (by omega)) ?_)
        rcases hb with ⟨rfl, hb⟩ | ⟨rfl, ha, hb⟩
        · exact Ev_t rfl (h108 _ (Or.inl ⟨rfl, hb⟩))
        · rw [ndiv (by omega) (by omega) (by omega), irmN (by omega) (by omega) (by omega)]
          refine Ev_f (by decide) (Ev_bd _ (r_telling hG (by omega) hc hn0 hk1 (SpI.n (show j / 3 < 2 ^ 31 by omega)) (show j % 3 ≤ 2 by omega)) (fun z hz => ?_))
          have hd := cv_dec (s := s) hn3 (by omega) hz
          have hself1 : ((∃ r, r < 2 ^ n ∧ tN n k f o j r = true) → ∃ r, r < 2 ^ n ∧ tN n k f o j r = true ∧ s.testBit r = true) → Ev (self (1 : Int32) (nI j + (1 : Int32))) P := fun h => hself _ _ ⟨nI_add j 1, Or.inr ⟨rfl, ha, fun i hi => by
            by_cases e : i = j
            · rw [e]; exact h
            · exact hb i (by omega)⟩⟩
          refine Ev_jn0 (¬ ((¬ lg_cmp z 0 = 0) ∧ lg_cmp (z &&& i2l (nI s)) 0 = 0)) (fun h => hself1 (Classical.byContradiction (fun w => h (hd.mpr w)))) (fun k95 h95 => Ev_i (fun e => h95 (fun w => w.1 e)) (fun e => Ev_i (fun e2 => hself _ _ ⟨nI_add j 1, Or.inl ⟨rfl, fun _ w => hd.mp ⟨e, e2⟩ (w j hj)⟩⟩) (fun e2 => h95 (fun w => e2 w.2))))
      · rintro self b5 a6 ⟨rfl, hb⟩
        unfold L_L_tests_48
        rw [cl1, hk1, n3, nmul]
        exact Ev_c1 (Ev_t (Int32.le_refl _) (h108 _ hb))
      · rcases h01 with rfl | rfl
        · exact Or.inl ⟨rfl, fun z => absurd z (by decide)⟩
        · exact Or.inr ⟨rfl, rfl, fun j hj => absurd hj (by omega)⟩
    unfold L_L_tests_4
    rw [cl0, hn0, shl1 (by omega), shl1 (by omega)]
    refine Ev_c0 (Ev_f (nle_n hs (by omega)) (Ev_bd _ r_ones (fun y hy => ?_)))
    rw [hct] at hy
    subst hy
    rw [show (5 : Int32) = nI 5 from rfl]
    refine Ev_i (fun e => ?_) (fun e => ?_)
    · rw [nI_leI (by omega) (by omega)] at e
      refine Ev_jn1 (fun y => y = 0) (fun y hy => Ev_t hy (hself _ _ ⟨nI_add s 1, hB.skip (fun _ => Or.inl e)⟩)) (fun k108 h108 => hloop _ _ _ _ (Or.inl rfl) (fun y hy => h108 y ?_))
      exact hy.elim (fun z => z.1) (fun z => absurd z.2.1 (by decide))
    · rw [nI_leI (by omega) (by omega)] at e
      refine Ev_jn0 (a2 < 0 ∨ ¬ a2 ≤ nI (ctS s)) (fun hb => ?_) (fun k38 h38 => Ev_i (fun e2 => h38 (Or.inl e2)) (fun e2 => Ev_i (fun e3 => ?_) (fun e3 => h38 (Or.inr e3))))
      · refine Ev_jn1 (fun y => (y = 0 ∧ ¬ CvS n k f o (3 * k) s) ∨ (y = 1 ∧ CvS n k f o (3 * k) s)) (fun y hy => ?_) (fun k108 h108 => hloop _ _ _ _ (Or.inr rfl) (fun y hy => h108 y ?_))
        · rcases hy with ⟨rfl, hy⟩ | ⟨rfl, hy⟩
          · exact Ev_t rfl (hself _ _ ⟨nI_add s 1, hB.skip (fun z => absurd z hy)⟩)
          · exact Ev_f (by decide) (hself _ _ ⟨nI_add s 1, hB.put hy (by omega) hb⟩)
        · exact hy.elim (fun z => Or.inl ⟨z.1, z.2 rfl⟩) (fun z => Or.inr ⟨z.1, z.2.2⟩)
      · refine Ev_jn1 (fun y => y = 0) (fun y hy => Ev_t hy (hself _ _ ⟨nI_add s 1, hB.skip (fun _ => Or.inr ⟨fun z => e2 (by rw [z]; decide), e3⟩)⟩)) (fun k108 h108 => hloop _ _ _ _ (Or.inl rfl) (fun y hy => h108 y ?_))
        exact hy.elim (fun z => z.1) (fun z => absurd z.2.1 (by decide))
  · rintro self a2 a3 ⟨rfl, hB⟩
    unfold L_L_tests_4
    rw [cl0, hn0, shl1 (by omega), shl1 (by omega)]
    exact Ev_c0 (Ev_t (Int32.le_refl _) (hk _ (hB.lst hn3)))
