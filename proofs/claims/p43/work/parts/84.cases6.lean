/-! CASES sorts, bears, tells, hidden -/
theorem NetM.t {n k : Nat} {f o : Nat → Nat} {m : Hp} {x : Int32} (hM : NetM n k f o m) : NetM n k f o (wF m 0 0 x) :=
  hM.keep (by rw [wF_1, upd_n _ _ (by decide)]) (by rw [wF_1, upd_n _ _ (by decide)]) (by rw [wF_1, upd_n _ _ (by decide)]) (wF_n _ _ _ _ _ (by decide)) (wF_n _ _ _ _ _ (by decide)) (wF_n _ _ _ _ _ (by decide))
def srt (n k : Nat) (f o : Nat → Nat) (sp md : Nat) : Prop := ∀ r, r < 2 ^ n → unsB n (netB f o sp md k (bR r)) = false
theorem C_sorts {n k : Nat} {f o : Nat → Nat} {c : Hp} (hG : Good n k f o) (hC : NetC n k f o c) : Ev (f_X10_sorts c) (fun r => Sm [14] c r.2 ∧ r.1 = pI (srt n k f o 99 0)) := by
  unfold f_X10_sorts
  refine Ev_bd _ (s_unsortedFrom hG hC) (fun r ⟨h1, h2, h3⟩ => Ev_i (fun e => ?_) (fun e => ?_))
  · exact Ev_ckz (Or.inr rfl) (Ev_so ⟨h1, (pI_t (p := srt n k f o 99 0) ((h3.z hG.2.1).mp (lg_eq.mp e))).symm⟩)
  · exact Ev_ckz (Or.inl rfl) (Ev_so ⟨h1, (pI_f (p := srt n k f o 99 0) (fun z => e (lg_eq.mpr ((h3.z hG.2.1).mpr z)))).symm⟩)
theorem C_bears {n k : Nat} {f o : Nat → Nat} {c : Hp} (hG : Good n k f o) (hC : NetC n k f o c) : Ev (f_X10_bears c) (fun r => Sm [14] c r.2 ∧ r.1 = pI (srt n k f o 99 0 ∧ ∀ sp, sp < k → srt n k f o sp 0)) := by
  have hk24 := hG.2.2.1
  unfold f_X10_bears
  refine Ev_bd _ (s_unsortedFrom hG hC) (fun r ⟨h1, h2, h3⟩ => Ev_i (fun e => ?_) (fun e => ?_))
  · have e0 := (h3.z hG.2.1).mp (lg_eq.mp e)
    refine Ev_jn1 (fun h1 => Sm [14] c h1 ∧ ∀ sp, sp < k → srt n k f o sp 0) (fun h1 ⟨q1, q2⟩ => Ev_ckz (Or.inr rfl) (Ev_so ⟨q1, by rw [pI_t ⟨e0, q2⟩]⟩)) (fun k57 h57 => ?_)
    refine Ev_jn1 (fun h1 => Sm [14] c h1 ∧ ¬ ∀ sp, sp < k → srt n k f o sp 0) (fun h1 ⟨q1, q2⟩ => Ev_ckz (Or.inl rfl) (Ev_so ⟨q1, by rw [pI_f (fun z => q2 z.2)]⟩)) (fun k49 h49 => ?_)
    refine Ev_fx2 (fun j a1 a2 => a1 = nI j ∧ Sm [14] c a2 ∧ a2.1 = c.1 ∧ ∀ sp, sp < j → srt n k f o sp 0) k ?_ ?_ (FU_lt (by omega)) ⟨rfl, h1, h2, fun sp hsp => absurd hsp (by omega)⟩
    · rintro self j a1 a2 hj ⟨rfl, hS, he, hZ⟩ hself
      unfold L_X10_bears_20
      rw [he, hC.2.1]
      refine Ev_f (nle_n hj (by omega)) (Ev_bd _ (s_unsortedWith (md := 0) hG (hC.of he) hj (by omega)) (fun r ⟨b1, b2, b3⟩ => Ev_i (fun e => hself _ _ ⟨nI_add j 1, hS.tr b1, b2.trans he, fun sp hsp => ?_⟩) (fun e => h49 _ ⟨hS.tr b1, fun z => e (lg_eq.mpr ((b3.z hG.2.1).mpr (z j hj)))⟩)))
      by_cases q : sp = j
      · subst q; exact (b3.z hG.2.1).mp (lg_eq.mp e)
      · exact hZ sp (by omega)
    · rintro self a1 a2 ⟨rfl, hS, he, hZ⟩
      unfold L_X10_bears_20
      rw [he, hC.2.1]
      exact Ev_t (Int32.le_refl _) (h57 _ ⟨hS, hZ⟩)
  · exact Ev_ckz (Or.inl rfl) (Ev_so ⟨h1, (pI_f (p := srt n k f o 99 0 ∧ ∀ sp, sp < k → srt n k f o sp 0) (fun z => e (lg_eq.mpr ((h3.z hG.2.1).mpr z.1)))).symm⟩)
/-- which comparator, which fault -/
theorem cm_in {k : Nat} {x : Int32} (hk : k < 2 ^ 30) : (x < 0 ∨ nI k - 1 < x) ↔ badI k x := by
  unfold badI
  rw [n1, Int32.lt_iff_toInt_lt, Int32.lt_iff_toInt_lt, Int32.le_iff_toInt_le, pk_sub_toInt hk (by omega), nI_toInt (by omega)]
  have : (0 : Int32).toInt = 0 := rfl
  omega
theorem md_in {x : Int32} : (x < 0 ∨ (2 : Int32) < x) ↔ badI 3 x := by
  unfold badI
  rw [n2, Int32.lt_iff_toInt_lt, Int32.lt_iff_toInt_lt, Int32.le_iff_toInt_le, nI_toInt (by omega), nI_toInt (by omega)]
  have : (0 : Int32).toInt = 0 := rfl
  omega
theorem C_cmp_t {k a : Nat} {c : Hp} (hc : c.1 1 1 = nI k) (hk : k ≤ 24) (ha : a < k) : f_X10_checkComparator c (nI a) = some (.inr c) := by
  refine Ev_eq ?_
  unfold f_X10_checkComparator
  refine Ev_jn0 False (fun h => h.elim) (fun j hj => Ev_f (nI_pos (by omega)) (Ev_t (by rw [hc, nI_ltI (by omega) (by omega)]; exact ha) (Ev_so rfl)))
theorem C_cmp_f {k : Nat} {c : Hp} {x : Int32} (hc : c.1 1 1 = nI k) (h : badI k x) : f_X10_checkComparator c x = some (.inl ("java/lang/IndexOutOfBoundsException", c)) := by
  refine Ev_eq ?_
  unfold f_X10_checkComparator
  refine Ev_jn0 True (fun _ => Ev_so rfl) (fun j hj => Ev_i (fun _ => hj trivial) (fun h0 => ?_))
  refine Ev_f ?_ (hj trivial)
  rw [hc]
  exact Int32.not_lt.mpr (h.resolve_left h0)
theorem C_flt_t {a : Nat} {c : Hp} (ha : a < 3) : f_X10_checkFault c (nI a) = some (.inr c) := by
  refine Ev_eq ?_
  unfold f_X10_checkFault
  refine Ev_jn0 False (fun h => h.elim) (fun j hj => Ev_f (nI_pos (by omega)) (Ev_t (le_n (b := 2) (by omega) (by omega)) (Ev_so rfl)))
theorem C_flt_f {c : Hp} {x : Int32} (h : badI 3 x) : f_X10_checkFault c x = some (.inl ("java/lang/IllegalArgumentException", c)) := by
  refine Ev_eq ?_
  unfold f_X10_checkFault
  refine Ev_jn0 True (fun _ => Ev_so rfl) (fun j hj => Ev_i (fun _ => hj trivial) (fun h0 => Ev_f ?_ (hj trivial)))
  have := (md_in.mpr h).resolve_left h0
  exact Int32.not_le.mpr this
