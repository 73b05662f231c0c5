/-! CASES sorts, bears, tells, hidden -/
theorem NetM.t {n k : Nat} {f o : Nat → Nat} {m : Hp} {x : Int32} (hM : NetM n k f o m) : NetM n k f o (wF m 0 0 x) :=
  hM.keep (by rw [wF_1, upd_n _ _ (by decide)]) (by rw [wF_1, upd_n _ _ (by decide)]) (by rw [wF_1, upd_n _ _ (by decide)]) (wF_n _ _ _ _ _ (by decide)) (wF_n _ _ _ _ _ (by decide)) (wF_n _ _ _ _ _ (by decide))
theorem Inv.scr {c m c1 : Hp} {out out1 : Nat → Int64} {x : Int32} (h : Inv (c, m, out)) (hc : Sm [14, 15, 18, 19, 26] c c1) : Inv (c1, wF m 0 0 x, out1) :=
  h.keep (hc.mono (by decide)) (Sm.rf.sF (by decide)) (fun j hj => by rw [wF_1, upd_n _ _ (by rintro rfl; revert hj; decide)])
def srt (n k : Nat) (f o : Nat → Nat) (sp md : Nat) : Prop := ∀ r, r < 2 ^ n → unsB n (netB f o sp md k (bR r)) = false
theorem r_srt {n k sp md : Nat} {f o : Nat → Nat} {m : Hp} {SP : Int32} (hG : Good n k f o) (hM : NetM n k f o m) (hsp : SpI SP sp) (hmd : md ≤ 2) : Ev (f_X11_unsorted m SP (nI md)) (fun y => y = 0 ↔ srt n k f o sp md) := by
  have hle : 2 ^ n ≤ 2 ^ 6 := Nat.pow_le_pow_right (by omega) hG.2.1
  refine Ev_mono (r_unsorted hG hM hsp hmd) (fun y hy => ?_)
  rw [hy]
  have h2 := ct_le (p := fun r => unsB n (netB f o sp md k (bR r))) (n := 2 ^ n)
  unfold srt
  rw [show (0 : Int32) = nI 0 from rfl, neqI (by omega) (by omega), ct_0]
theorem C_sorts {n k : Nat} {f o : Nat → Nat} {c : Hp} (hG : Good n k f o) (hC : NetC n k f o c) : Ev (f_X10_sorts c) (fun r => Sm [14] c r.2 ∧ r.1 = pI (srt n k f o 99 0)) := by
  unfold f_X10_sorts
  refine Ev_bd _ (s_unsortedFrom hG hC) (fun r ⟨h1, h2, h3⟩ => Ev_i (fun e => ?_) (fun e => ?_))
  · exact Ev_ckz (Or.inr rfl) (Ev_so ⟨h1, (pI_t (p := srt n k f o 99 0) ((h3.z hG.2.1).mp (lg_eq.mp e))).symm⟩)
  · exact Ev_ckz (Or.inl rfl) (Ev_so ⟨h1, (pI_f (p := srt n k f o 99 0) (fun z => e (lg_eq.mpr ((h3.z hG.2.1).mpr z)))).symm⟩)
theorem M_sorts {n k : Nat} {f o : Nat → Nat} {m : Hp} (hG : Good n k f o) (hM : NetM n k f o m) : Ev (f_X11_sorts m) (fun r => r = (pI (srt n k f o 99 0), wF m 0 0 0)) := by
  unfold f_X11_sorts
  refine Ev_nm (Ev_bd _ (r_srt (md := 0) hG hM.t SpI.m (by omega)) (fun y hy => Ev_i (fun e => ?_) (fun e => ?_)))
  · exact Ev_ckz (Or.inr rfl) (Ev_so (by rw [pI_t (hy.mp e)]))
  · exact Ev_ckz (Or.inl rfl) (Ev_so (by rw [pI_f (fun z => e (hy.mpr z))]))
theorem pc_16 {L : Nat} {xs : Nat → Int32} {i : Int32} {s : LWS} {kont : LWS → Option Unit} (hI : Inv s) (hk : ∀ s1, Inv s1 → kont s1 = some ()) : lc_16 L xs i s kont = some () := by
  obtain ⟨c, m, out⟩ := s
  have hI0 := hI
  obtain ⟨n, k, f, o, hG, hC, hM, hT, hB, hS, hSt, hA⟩ := hI
  obtain ⟨r1, h1, a1, a2⟩ := C_sorts hG hC
  obtain ⟨r2, h2, rfl⟩ := M_sorts hG hM
  simp only [lc_16, h1, h2, bd, nm, setC, setM]
  rw [if_pos a2]
  exact hk _ (hI0.scr (a1.mono (by decide)))
theorem C_bears {n k : Nat} {f o : Nat → Nat} {c : Hp} (hG : Good n k f o) (hC : NetC n k f o c) : Ev (f_X10_bears c) (fun r => Sm [14] c r.2 ∧ r.1 = pI (srt n k f o 99 0 ∧ ∀ sp, sp < k → srt n k f o sp 0)) := by
  have hk24 := hG.2.2.1
  unfold f_X10_bears
  refine Ev_bd _ (s_unsortedFrom hG hC) (fun r ⟨h1, h2, h3⟩ => Ev_i (fun e => ?_) (fun e => ?_))
  · have e0 := (h3.z hG.2.1).mp (lg_eq.mp e)
    refine Ev_jn1 (fun h1 => Sm [14] c h1 ∧ ∀ sp, sp < k → srt n k f o sp 0) (fun h1 ⟨q1, q2⟩ => Ev_ckz (Or.inr rfl) (Ev_so ⟨q1, by rw [pI_t ⟨e0, q2⟩]⟩)) (fun k57 h57 => ?_)
    refine Ev_jn1 (fun h1 => Sm [14] c h1 ∧ ¬ ∀ sp, sp < k → srt n k f o sp 0) (fun h1 ⟨q1, q2⟩ => Ev_ckz (Or.inl rfl) (Ev_so ⟨q1, by rw [pI_f (fun z => q2 z.2)]⟩)) (fun k49 h49 => ?_)
    refine Ev_fx2 (fun j a1 a2 => a1 = nI j ∧ Sm [14] c a2 ∧ a2.1 = c.1 ∧ ∀ sp, sp < j → srt n k f o sp 0) k ?_ ?_ (FU_lt (by omega)) ⟨rfl, h1, h2, fun sp hsp => absurd hsp (by omega)⟩
    · rintro self j a1 a2 hj ⟨rfl, hS, he, hZ⟩ hself
      unfold L_X10_bears_20
      rw [he, hC.2.1]
      refine Ev_f (nle_n hj (by omega)) (Ev_bd _ (s_unsortedWith (md := 0) hG (hC.of he) hj (by omega)) (fun r ⟨b1, b2, b3⟩ => Ev_i (fun e => hself _ _ ⟨nI_add j 1, hS.tr b1, b2.trans he, fun sp hsp => ?_⟩) (fun e => h49 _ ⟨hS.tr b1, fun z => e (lg_eq.mpr ((b3.z hG.2.1).mpr (z j hj)))⟩)))
      by_cases q : sp = j
      · subst q; exact (b3.z hG.2.1).mp (lg_eq.mp e)
      · exact hZ sp (by omega)
    · rintro self a1 a2 ⟨rfl, hS, he, hZ⟩
      unfold L_X10_bears_20
      rw [he, hC.2.1]
      exact Ev_t (Int32.le_refl _) (h57 _ ⟨hS, hZ⟩)
  · exact Ev_ckz (Or.inl rfl) (Ev_so ⟨h1, (pI_f (p := srt n k f o 99 0 ∧ ∀ sp, sp < k → srt n k f o sp 0) (fun z => e (lg_eq.mpr ((h3.z hG.2.1).mpr z.1)))).symm⟩)
theorem M_bears {n k : Nat} {f o : Nat → Nat} {m : Hp} (hG : Good n k f o) (hM : NetM n k f o m) : Ev (f_X11_bears m) (fun r => r = (pI (srt n k f o 99 0 ∧ ∀ sp, sp < k → srt n k f o sp 0), wF m 0 0 0)) := by
  have hk24 := hG.2.2.1
  unfold f_X11_bears
  refine Ev_nm (Ev_bd _ (r_srt (md := 0) hG hM.t SpI.m (by omega)) (fun y hy => ?_))
  have hM1 := hM.t (x := 0)
  generalize wF m 0 0 0 = g at hM1
  have hloop : ∀ (p : Prop) (kk : Int32 → Option (Int32 × Hp)) (P : Int32 × Hp → Prop), Ev (kk (pI (p ∧ ∀ sp, sp < k → srt n k f o sp 0))) P → Ev (fx2 (L_X11_bears_22 g kk) FU (pI p) 0) P := by
    intro p kk P hk
    refine Ev_fx2 (fun j a1 a2 => a2 = nI j ∧ a1 = pI (p ∧ ∀ sp, sp < j → srt n k f o sp 0)) k ?_ ?_ (FU_lt (by omega)) ⟨rfl, ?_⟩
    · rintro self j a1 a2 hj ⟨rfl, h1⟩ hself
      unfold L_X11_bears_22
      rw [hM1.2.1]
      refine Ev_f (nle_n hj (by omega)) ?_
      by_cases q : p ∧ ∀ sp, sp < j → srt n k f o sp 0
      · rw [pI_t q] at h1
        refine Ev_f (by rw [h1]; decide) (Ev_bd _ (r_srt (md := 0) hG hM1 (SpI.n (sp := j) (by omega)) (by omega)) (fun y hy => Ev_i (fun e => hself _ _ ⟨nI_add j 1, ?_⟩) (fun e => hself _ _ ⟨nI_add j 1, ?_⟩)))
        · rw [pI_t]
          refine ⟨q.1, fun sp hsp => ?_⟩
          by_cases e2 : sp = j
          · subst e2; exact hy.mp e
          · exact q.2 sp (by omega)
        · rw [pI_f]
          rintro ⟨-, z⟩
          exact e (hy.mpr (z j (by omega)))
      · rw [pI_f q] at h1
        refine Ev_t h1 ?_
        rw [h1]
        rw [pI_f (fun z => q ⟨z.1, fun sp hsp => z.2 sp (by omega)⟩)] at hk
        exact hk
    · rintro self a1 a2 ⟨rfl, h1⟩
      unfold L_X11_bears_22
      rw [hM1.2.1, h1]
      exact Ev_t (Int32.le_refl _) hk
    · by_cases q : p
      · rw [pI_t q, pI_t ⟨q, fun sp hsp => absurd hsp (by omega)⟩]
      · rw [pI_f q, pI_f (fun z => q z.1)]
  refine Ev_i (fun e => ?_) (fun e => ?_)
  · refine Ev_jn1 (fun z => z = pI (srt n k f o 99 0 ∧ ∀ sp, sp < k → srt n k f o sp 0)) (fun z hz => Ev_ckz (by rw [hz]; exact pI_01 _) (Ev_so (by rw [hz]))) (fun kk hk => ?_)
    have := hloop (srt n k f o 99 0) kk _ (hk _ rfl)
    rw [pI_t (hy.mp e)] at this
    exact this
  · refine Ev_jn1 (fun z => z = pI (srt n k f o 99 0 ∧ ∀ sp, sp < k → srt n k f o sp 0)) (fun z hz => Ev_ckz (by rw [hz]; exact pI_01 _) (Ev_so (by rw [hz]))) (fun kk hk => ?_)
    have := hloop (srt n k f o 99 0) kk _ (hk _ rfl)
    rw [pI_f (fun z => e (hy.mpr z))] at this
    exact this
theorem pc_33 {L : Nat} {xs : Nat → Int32} {i : Int32} {s : LWS} {kont : LWS → Option Unit} (hI : Inv s) (hk : ∀ s1, Inv s1 → kont s1 = some ()) : lc_33 L xs i s kont = some () := by
  obtain ⟨c, m, out⟩ := s
  have hI0 := hI
  obtain ⟨n, k, f, o, hG, hC, hM, hT, hB, hS, hSt, hA⟩ := hI
  obtain ⟨r1, h1, a1, a2⟩ := C_bears hG hC
  obtain ⟨r2, h2, rfl⟩ := M_bears hG hM
  simp only [lc_33, h1, h2, bd, nm, setC, setM]
  rw [if_pos a2]
  exact hk _ (hI0.scr (a1.mono (by decide)))
/-- which comparator, which fault -/
theorem cm_in {k : Nat} {x : Int32} (hk : k < 2 ^ 30) : (x < 0 ∨ nI k - 1 < x) ↔ badI k x := by
  unfold badI
  rw [n1, Int32.lt_iff_toInt_lt, Int32.lt_iff_toInt_lt, Int32.le_iff_toInt_le, pk_sub_toInt hk (by omega), nI_toInt (by omega)]
  have : (0 : Int32).toInt = 0 := rfl
  omega
theorem md_in {x : Int32} : (x < 0 ∨ (2 : Int32) < x) ↔ badI 3 x := by
  unfold badI
  rw [n2, Int32.lt_iff_toInt_lt, Int32.lt_iff_toInt_lt, Int32.le_iff_toInt_le, nI_toInt (by omega), nI_toInt (by omega)]
  have : (0 : Int32).toInt = 0 := rfl
  omega
theorem C_cmp_t {k a : Nat} {c : Hp} (hc : c.1 1 1 = nI k) (hk : k ≤ 24) (ha : a < k) : f_X10_checkComparator c (nI a) = some (.inr c) := by
  refine Ev_eq ?_
  unfold f_X10_checkComparator
  refine Ev_jn0 False (fun h => h.elim) (fun j hj => Ev_f (nI_pos (by omega)) (Ev_t (by rw [hc, nI_ltI (by omega) (by omega)]; exact ha) (Ev_so rfl)))
theorem C_cmp_f {k : Nat} {c : Hp} {x : Int32} (hc : c.1 1 1 = nI k) (h : badI k x) : f_X10_checkComparator c x = some (.inl ("java/lang/IndexOutOfBoundsException", c)) := by
  refine Ev_eq ?_
  unfold f_X10_checkComparator
  refine Ev_jn0 True (fun _ => Ev_so rfl) (fun j hj => Ev_i (fun _ => hj trivial) (fun h0 => ?_))
  refine Ev_f ?_ (hj trivial)
  rw [hc]
  exact Int32.not_lt.mpr (h.resolve_left h0)
theorem C_flt_t {a : Nat} {c : Hp} (ha : a < 3) : f_X10_checkFault c (nI a) = some (.inr c) := by
  refine Ev_eq ?_
  unfold f_X10_checkFault
  refine Ev_jn0 False (fun h => h.elim) (fun j hj => Ev_f (nI_pos (by omega)) (Ev_t (le_n (b := 2) (by omega) (by omega)) (Ev_so rfl)))
theorem C_flt_f {c : Hp} {x : Int32} (h : badI 3 x) : f_X10_checkFault c x = some (.inl ("java/lang/IllegalArgumentException", c)) := by
  refine Ev_eq ?_
  unfold f_X10_checkFault
  refine Ev_jn0 True (fun _ => Ev_so rfl) (fun j hj => Ev_i (fun _ => hj trivial) (fun h0 => Ev_f ?_ (hj trivial)))
  have := (md_in.mpr h).resolve_left h0
  exact Int32.not_le.mpr this
theorem M_misses {n k : Nat} {f o : Nat → Nat} {m : Hp} {x y : Int32} (hk : k ≤ 24) (hM : NetM n k f o m) : Ev (f_X11_misses m x y) (fun z => (badI k x → z = 1) ∧ (¬ badI k x → badI 3 y → z = 2) ∧ (¬ badI k x → ¬ badI 3 y → z = 0)) := by
  unfold f_X11_misses f_X11_isComparator
  rw [hM.2.1]
  by_cases h1 : badI k x
  · refine Ev_bde (a := 0) (Ev_eq (Ev_bde M_in (by rw [if_pos ((cm_in (by omega)).mpr h1)]; exact Ev_ckz (Or.inl rfl) (Ev_so rfl)))) (Ev_t rfl (Ev_so ⟨fun _ => rfl, fun z => absurd h1 z, fun z => absurd h1 z⟩))
  · refine Ev_bde (a := 1) (Ev_eq (Ev_bde M_in (by rw [if_neg (fun z => h1 ((cm_in (by omega)).mp z))]; exact Ev_ckz (Or.inr rfl) (Ev_so rfl)))) (Ev_f (by decide) ?_)
    by_cases h2 : badI 3 y
    · refine Ev_bde M_in (Ev_t (by rw [if_pos (md_in.mpr h2)]) (Ev_so ⟨fun z => absurd z h1, fun _ _ => rfl, fun _ z => absurd h2 z⟩))
    · refine Ev_bde M_in (Ev_f (by rw [if_neg (fun z => h2 (md_in.mp z))]; decide) (Ev_so ⟨fun z => absurd z h1, fun _ z => absurd z h2, fun _ _ => rfl⟩))
