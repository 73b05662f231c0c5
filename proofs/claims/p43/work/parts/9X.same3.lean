/-! P43: what one turn of the law asks at its end: all -/
set_option maxRecDepth 40000 in
set_option maxHeartbeats 8000000 in
theorem r_same {T n k : Nat} {f o : Nat → Nat} {c : Hp} {x1 : Int32} {r0 r1 r2 r3 r4 : Row} (hT : T ≤ 1000) (hG : Good n k f o) (h5 : n ≤ 5) (hC : NetC n k f o c) (hc : RcN k f o r0) (hq : QrN n k r4) (hTp : TapL c r1 r4) (hB : BalL T n k f o c r2) (hS : SwR n k f o c) (hSt : StR c) (hA : AdvL n c r3) : Ev (f_L_same x1 c r0 r1 r2 r3 r4) (fun y => y.1 = 1 ∧ Keep n k f o c y.2.1 ∧ RcN k f o y.2.2) := by
  have hn := hG.2.1
  have hn2 := hG.1
  have hk24 := hG.2.2.1
  have k0 : Keep n k f o c c := Keep.rf hS hSt
  obtain ⟨t, ch, ht, t11, tq2, hch⟩ := hTp
  obtain ⟨bt, v, hbt, hv, _, _, hw, _⟩ := hB
  obtain ⟨hz, hAd, hx⟩ := hA
  have hct : 0 < ctC n (c.2 32 0) := ct_some hx
  have hct2 := ct_le720 (n := n) (z := c.2 32 0) hn
  unfold f_L_same
  rw [cl0, hq.1, cl1, hq.2]
  refine Ev_c0 (Ev_bd _ (r_layers hG h5 hc hq) (fun l ⟨l1, l2⟩ => ?_))
  refine Ev_jn2 (fun a b => a = nI (ctB (deadB n f o) k) ∧ b = nI (ctB (tangB f o) k)) (fun a12 a13 ⟨q12, q13⟩ => ?_) (fun k106 h106 => r_43 hG h5 hc hq (h106 _ _ ⟨rfl, rfl⟩))
  have e42 : (4 : Int32) * nI k + (2 : Int32) = nI (4 * k + 2) := by rw [n4, nmul, n2, nI_add]
  rw [e42]
  refine Ev_c1 (Ev_bd _ (r_low (by omega) (by omega)) (fun r5 ⟨p, hp, ep⟩ => ?_))
  subst ep
  refine Ev_hc _ (X_told (w := 0) hG hC (by omega)) (fun a0 ⟨t0, s0⟩ => ?_)
  have k1 := k0.s3 s0
  refine Ev_jn2 (fun z h => z = 1 ∧ Keep n k f o c h) (fun z h ⟨ez, kA⟩ => ?_) (fun k236 h236 => Ev_jn1 (fun _ => False) (fun _ h => h.elim) (fun k235 _ => Ev_t t0 ?_))
  · subst ez
    refine Ev_c1 (Ev_jn2 (fun z h => z = 1 ∧ Keep n k f o c h) (fun z h ⟨ez, kB⟩ => ?_) (fun k334 h334 => ?_))
    · subst ez
      refine Ev_bd _ (r_counts (t := bt) hG h5 hc hq (fun x hx => (hw x hx).2.2) hv (by omega)) (fun r13 h13 => ?_)
      refine Ev_jn3 (fun a15 a16 h => a15 = 1 ∧ a16 = pI (∀ w, w < n → (w = 0 ∨ balN f o k v w ≤ balN f o k v (w - 1)) ∧ balN f o k v 0 < balN f o k v w + 2) ∧ Keep n k f o c h) (fun a15 a16 h ⟨q15, q16, kC⟩ => ?_) (fun k449 h449 => r_350 hT hG h5 hC kB hbt hv (fun x hx => ⟨(hw x hx).1, (hw x hx).2.1⟩) h13 (fun a16 h e kC => h449 _ _ _ ⟨rfl, e, kC⟩))
      subst q15
      have hag := r_agreeing (n := n) (k := k) (a := 0) (b := 0) h5 hn2 (by omega) (by omega) hz hAd hq
      rw [agC_0] at hag
      have hCC := kC.nC hC
      have ez32 : h.2 32 = c.2 32 := (kC.1 32 (by decide)).2
      refine Ev_bde hag (Ev_bd _ (X_needed hG hCC (by rw [ez32]; exact hz) (by rw [ez32]; exact hx)) (fun r20 ⟨d4, d5, s20⟩ => Ev_f (by decide) ?_))
      rw [ez32] at d4
      have kD := kC.s34 s20
      have hCD := kD.nC hC
      refine Ev_bd _ (C_isStep hn hn2 hCD.1) (fun r49 h49 => Ev_t ?_ ?_)
      · rw [h49, q16]
        refine pI_same (Iff.trans ?_ (step_iff (B := balN f o k v) hn hn2))
        have hb : ∀ x, balN f o k v x ≤ 1000 := fun x => Nat.le_trans (balN_le hv k x) (by omega)
        have e25 : ∀ x, x < 6 → r20.2.1 25 x = nI (balN f o k v x) := fun x hx => by rw [(kD.1 25 (by decide)).1]; exact (hw x hx).2.1
        refine and_congr ⟨fun z w hw2 => ?_, fun z w hw2 => ?_⟩ ?_
        · have := z w hw2
          rw [e25 _ (by omega), e25 _ (by omega), nI_leI (by have := hb (w + 1); omega) (by have := hb w; omega)] at this
          exact this
        · rw [e25 _ (by omega), e25 _ (by omega), nI_leI (by have := hb (w + 1); omega) (by have := hb w; omega)]
          exact z w hw2
        · rw [e25 0 (by omega), e25 (n - 1) (by omega), (sub_2 (by have := hb 0; omega) (by have := hb (n - 1); omega)).2]
      · have ez2 : r20.2.2 32 = c.2 32 := (kD.1 32 (by decide)).2
        refine Ev_bd _ (X_left hn hCD.1 (by rw [ez2]; exact hz)) (fun r75 ⟨l75, s75⟩ => Ev_t (by rw [l75, ez2]) ?_)
        have kE := kD.s34 s75
        refine Ev_jn0 True (fun _ => r_sameT hG h5 hC kE hc hq) (fun k565 h565 => ?_)
        by_cases c4 : n ≤ 4
        · obtain ⟨d, hd6, ed, hnd⟩ := d4 c4
          rw [ed]
          refine Ev_t (le_n (b := 4) c4 (by omega)) ?_
          by_cases c44 : 4 ≤ n
          · have e4 : n = 4 := by omega
            subst e4
            obtain ⟨m1, m2, m3⟩ := need4 hnd hct
            have hpw : 2 ^ d ≤ 2 ^ 6 := Nat.pow_le_pow_right (by omega) hd6
            refine Ev_t (Int32.le_refl _) (Ev_f ?_ (Ev_f ?_ (Ev_f ?_ (h565 trivial))))
            · exact nle_n (b := d) (a := 6) (by omega) (by omega)
            · rw [shl1 (by omega), nI_ltI (by omega) (by omega)]; omega
            · exact nle_n (by omega) (by omega)
          · refine Ev_f (nle_n (b := n) (a := 4) (by omega) (by omega)) ?_
            have hd := need3 hn2 (by omega) hnd hct
            refine Ev_jn1 (fun z => z = nI d) (fun z hz => Ev_t hz.symm (h565 trivial)) (fun k536 h536 => ?_)
            have e3 : (nI (ctC n (c.2 32 0)) ≤ (3 : Int32)) = (ctC n (c.2 32 0) ≤ 3) := propext (nI_leI (b := 3) (by omega) (by omega))
            have e33 : (nI (ctC n (c.2 32 0)) = (3 : Int32)) = (ctC n (c.2 32 0) = 3) := nI_iff (b := 3) (by omega) (by omega)
            refine Ev_i (fun e => Ev_i (fun e2 => h536 _ ?_) (fun e2 => h536 _ ?_)) (fun e => h536 _ ?_)
            · rw [e3] at e; rw [e33] at e2; rw [hd, if_neg (by omega), if_pos e2]; rfl
            · rw [e3] at e; rw [e33] at e2; rw [hd, if_neg (by omega), if_neg e2, n1, nsub (by omega)]
            · rw [e3] at e; rw [hd, if_pos (by omega)]; rfl
        · exact Ev_f (nle_n (b := 4) (a := n) (by omega) (by omega)) (Ev_t (d5 c4) (h565 trivial))
    · refine Ev_i (fun _ => h334 _ _ ⟨rfl, kA⟩) (fun e => Ev_f (by decide) (Ev_c1 ?_))
      rw [show (0 : Int32) = nI 0 from rfl, nI_leI (by omega) (by omega)] at e
      refine Ev_bd _ (r_low (by omega) (by omega)) (fun r253 ⟨a, ha, ea⟩ => ?_)
      subst ea
      have hCA := kA.nC hC
      obtain ⟨g1, g2, g3⟩ := hG.2.2.2 a ha
      obtain ⟨e1, e2⟩ := hc.rd ha (by omega) (by omega)
      rw [clN (by omega), e1, e2, l2 a ha]
      refine Ev_hc _ (X_cmp (b := 0) hG hCA ha (by omega)) (fun b0 ⟨u0, v0⟩ => Ev_ck rfl (by omega) (by omega) ?_)
      have kA1 := kA.s3 v0
      refine Ev_jn2 (fun z h => z = 1 ∧ Keep n k f o c h) (fun z h hh => h334 _ _ hh) (fun k332 h332 => Ev_jn1 (fun _ => False) (fun _ h => h.elim) (fun k331 _ => Ev_t u0 ?_))
      refine Ev_hc _ (X_cmp (b := 1) hG (kA1.nC hC) ha (by omega)) (fun b1 ⟨u1, v1⟩ => Ev_ck rfl (by omega) (by omega) (Ev_t u1 ?_))
      have kA2 := kA1.s3 v1
      refine Ev_hc _ (X_cmp (b := 2) hG (kA2.nC hC) ha (by omega)) (fun b2 ⟨u2, v2⟩ => Ev_ck rfl (by omega) (by omega) (Ev_t u2 ?_))
      have kA3 := kA2.s3 v2
      refine Ev_hc _ (X_cmp (b := 3) hG (kA3.nC hC) ha (by omega)) (fun b3 ⟨u3, v3⟩ => ?_)
      have kA4 := kA3.s3 v3
      exact Ev_bd _ (r_oftenL hG h5 hc hq ha) (fun y hy => Ev_t (u3.trans hy.symm) (h332 _ _ ⟨rfl, kA4⟩))
  · refine Ev_hc _ (X_told (w := 1) hG (k1.nC hC) (by omega)) (fun a1 ⟨t1, s1⟩ => Ev_c1 (Ev_t t1 ?_))
    have k2 := k1.s3 s1
    refine Ev_hc _ (X_told (w := 2) hG (k2.nC hC) (by omega)) (fun a2 ⟨t2, s2⟩ => Ev_t (t2.trans l1.symm) ?_)
    have k3 := k2.s3 s2
    refine Ev_hc _ (X_told (w := 3) hG (k3.nC hC) (by omega)) (fun a3 ⟨t3, s3⟩ => Ev_t (t3.trans q12.symm) ?_)
    have k4 := k3.s3 s3
    refine Ev_hc _ (X_told (w := 4) hG (k4.nC hC) (by omega)) (fun a4 ⟨t4, s4⟩ => Ev_t (t4.trans q13.symm) ?_)
    have k5 := k4.s3 s4
    refine Ev_hc _ (X_told (w := 5) hG (k5.nC hC) (by omega)) (fun a5 ⟨t5, s5⟩ => Ev_c1 ?_)
    have k6 := k5.s3 s5
    have hC6 := k6.nC hC
    refine Ev_jn1 (fun z => z = nI (if k = 0 then 0 else 4 * k - 1)) (fun z hz => Ev_t (t5.trans hz.symm) ?_) (fun k198 h198 => ?_)
    · refine Ev_hc _ (X_textAt hG hC6 (p := p) (by omega)) (fun b ⟨b1, b2⟩ => Ev_bd _ (r_written hG h5 hc hq (by omega)) (fun y hy => Ev_t (b1.uniq hG hy) ?_))
      have k7 := k6.s2 b2
      have hC7 := k7.nC hC
      have e11 : b.2.1 11 = c.1 11 := (k7.1 11 (by decide)).1
      have e12 : b.2.1 12 = c.1 12 := (k7.1 12 (by decide)).1
      have hch7 : ∀ i, i < t → chOk (ch i) ∧ b.2.1 12 i = nI (ch i) ∧ r1 i = nI (ch i) := fun i hi => by rw [e12]; exact hch i hi
      have h11 : b.2.1 11 1 = nI t := by rw [e11]; exact t11
      have hfl := fltL_same (rt := r1) (rq := r4) hn ht h11 hq.1 tq2 hch7
      obtain ⟨y2, hy2, _⟩ := C_faultSpec hn hn2 ht h11 (fun i hi => ⟨(hch7 i hi).1, (hch7 i hi).2.1⟩)
      refine Ev_bd (fun r => r = y2) ?_ (fun r hr => Ev_bde (hfl.trans hy2) (Ev_t hr (h236 _ _ ⟨rfl, k7⟩)))
      unfold f_X10_fault
      rw [hC7.1]
      exact Ev_bde hy2 (Ev_so rfl)
    · have ek : (nI k = (0 : Int32)) = (k = 0) := nI_iff (b := 0) (by omega) (by omega)
      by_cases e : k = 0
      · exact Ev_t (by rw [ek]; exact e) (h198 _ (by rw [if_pos e]; rfl))
      · refine Ev_f (by rw [ek]; exact e) (Ev_c1 (h198 _ ?_))
        rw [if_neg e, n4, nmul, n1, nsub (by omega)]
