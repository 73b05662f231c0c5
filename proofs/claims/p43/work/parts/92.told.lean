/-! CASE told -/
def deadB (n : Nat) (f o : Nat → Nat) (i : Nat) : Bool := !useB n f o i
def tangB (f o : Nat → Nat) (i : Nat) : Bool := decide (o i < f i)
theorem oft_eq {n i : Nat} {f o : Nat → Nat} (hn : n ≤ 6) : nI (ctB (oftP f o i) (2 ^ n)) = 0 ↔ deadB n f o i = true := by
  have hle : 2 ^ n ≤ 2 ^ 6 := Nat.pow_le_pow_right (by omega) hn
  have h2 := ct_le (p := oftP f o i) (n := 2 ^ n)
  have h := oft_le (n := n) (f := f) (o := o) (i := i) hn
  rw [show (0 : Int32) = nI 0 from rfl, nI_leI (by omega) (by omega), Nat.le_zero] at h
  rw [show (0 : Int32) = nI 0 from rfl, neqI (by omega) (by omega), h]
  unfold deadB
  cases useB n f o i <;> simp
theorem C_dead {n k : Nat} {f o : Nat → Nat} {c : Hp} (hG : Good n k f o) (hC : NetC n k f o c) : Ev (f_X4_deadCount_13_1 c) (fun r => r.1 = nI (ctB (deadB n f o) k) ∧ Sm [14] c r.2) := by
  have hn := hG.2.1
  have hk24 := hG.2.2.1
  unfold f_X4_deadCount_13_1
  refine Ev_jn2 (fun a h => a = nI (ctB (deadB n f o) k) ∧ Sm [14] c h) (fun a h hh => Ev_so hh) (fun kk hk => ?_)
  refine Ev_fx3 (fun j a1 a2 a3 => a2 = nI j ∧ a1 = nI (ctB (deadB n f o) j) ∧ Sm [14] c a3) k ?_ ?_ (FU_lt (by omega)) ⟨rfl, rfl, Sm.rf⟩
  · rintro self j a1 a2 a3 hj ⟨rfl, rfl, hS⟩ hself
    unfold L_X4_deadCount_13_1_4
    have hN := Sm.nC hC hS (by decide) (by decide) (by decide)
    rw [hN.2.1]
    refine Ev_f (nle_n hj (by omega)) (Ev_bd _ (C_exch hG hN hj) (fun r ⟨p1, p2, p3⟩ => ?_))
    have hd : lg_cmp r.1 0 = 0 ↔ deadB n f o j = true := by
      rw [lg_eq, p3.z hn]
      rw [← oft_eq hn, show (0 : Int32) = nI 0 from rfl]
      have hle : 2 ^ n ≤ 2 ^ 6 := Nat.pow_le_pow_right (by omega) hn
      have h2 := ct_le (p := oftP f o j) (n := 2 ^ n)
      rw [neqI (by omega) (by omega), ct_0]
    exact Ev_i (fun e => hself _ _ _ ⟨nI_add j 1, (ct_t (hd.mp e)).symm, hS.tr p1⟩) (fun e => hself _ _ _ ⟨nI_add j 1, (ct_f (fun z => e (hd.mpr z))).symm, hS.tr p1⟩)
  · rintro self a1 a2 a3 ⟨rfl, rfl, hS⟩
    unfold L_X4_deadCount_13_1_4
    rw [(hS 1 (by decide)).1, hC.2.1]
    exact Ev_t (Int32.le_refl _) (hk _ _ ⟨rfl, hS⟩)
theorem C_tang {n k : Nat} {f o : Nat → Nat} {c : Hp} (hG : Good n k f o) (hC : NetC n k f o c) : Ev (f_X9_crookedCount_1 c) (fun r => r = nI (ctB (tangB f o) k)) := by
  have hn := hG.2.1
  have hk24 := hG.2.2.1
  unfold f_X9_crookedCount_1
  refine Ev_jn1 (fun a => a = nI (ctB (tangB f o) k)) (fun a hh => Ev_so hh) (fun kk hk => ?_)
  refine Ev_fx2 (fun j a1 a2 => a2 = nI j ∧ a1 = nI (ctB (tangB f o) j)) k ?_ ?_ (FU_lt (by omega)) ⟨rfl, rfl⟩
  · rintro self j a1 a2 hj ⟨rfl, rfl⟩ hself
    obtain ⟨g1, g2, g3⟩ := hG.2.2.2 j hj
    unfold L_X9_crookedCount_1_4
    rw [hC.2.1]
    refine Ev_f (nle_n hj (by omega)) (Ev_bd (fun r => r = if tangB f o j = true then 1 else 0) ?_ (fun r hr => ?_))
    · unfold f_X9_isCrooked_1 tangB
      rw [clN (by omega), (hC.2.2 j hj).1, (hC.2.2 j hj).2]
      refine Ev_ck rfl (by omega) (by omega) (Ev_ck rfl (by omega) (by omega) (Ev_i (fun e => Ev_ckz (Or.inl rfl) (Ev_so ?_)) (fun e => Ev_ckz (Or.inr rfl) (Ev_so ?_))))
      · rw [nI_leI (by omega) (by omega)] at e
        rw [decide_eq_false (by omega)]; rfl
      · rw [nI_leI (by omega) (by omega)] at e
        rw [decide_eq_true (by omega)]; rfl
    · subst hr
      by_cases e : tangB f o j = true
      · rw [if_pos e]
        exact Ev_f (by decide) (hself _ _ ⟨nI_add j 1, (ct_t e).symm⟩)
      · rw [if_neg e]
        exact Ev_t rfl (hself _ _ ⟨nI_add j 1, (ct_f e).symm⟩)
  · rintro self a1 a2 ⟨rfl, rfl⟩
    unfold L_X9_crookedCount_1_4
    rw [hC.2.1]
    exact Ev_t (Int32.le_refl _) (hk _ rfl)
def toldA (n k : Nat) (f o : Nat → Nat) (w : Nat) : Nat := if w = 0 then n else if w = 1 then k else if w = 2 then allN f o k else if w = 3 then ctB (deadB n f o) k else if w = 4 then ctB (tangB f o) k else if k = 0 then 0 else 4 * k - 1
theorem C_told {n k w : Nat} {f o : Nat → Nat} {c : Hp} (hG : Good n k f o) (hC : NetC n k f o c) (hw : w < 6) : Ev (f_X10_told c (nI w)) (fun r => ∃ c1, r = .inr (nI (toldA n k f o w), c1) ∧ Sm [4, 5, 14] c c1) := by
  have hk24 := hG.2.2.1
  unfold f_X10_told
  have e : ∀ j, j < 6 → (nI w = nI j) = (w = j) := fun j hj => nI_iff (by omega) (by omega)
  rw [n0, n1, n2, n3, n4, n5]
  simp only [e 0 (by omega), e 1 (by omega), e 2 (by omega), e 3 (by omega), e 4 (by omega), e 5 (by omega)]
  unfold toldA
  refine Ev_i (fun h => Ev_so ⟨c, ?_, Sm.rf⟩) (fun h0 => Ev_i (fun h => Ev_so ⟨c, ?_, Sm.rf⟩) (fun h1 => Ev_i (fun h => Ev_bd _ (C_layers hG hC) (fun r ⟨q1, q2, _⟩ => Ev_so ⟨r.2, ?_, q2.mono (by decide)⟩)) (fun h2 => Ev_i (fun h => Ev_bd _ (C_dead hG hC) (fun r ⟨q1, q2⟩ => Ev_so ⟨r.2, ?_, q2.mono (by decide)⟩)) (fun h3 => Ev_i (fun h => Ev_bd _ (C_tang hG hC) (fun r q1 => Ev_so ⟨c, ?_, Sm.rf⟩)) (fun h4 => Ev_t (by omega) ?_)))))
  · rw [if_pos h, hC.1]
  · rw [if_neg h0, if_pos h, hC.2.1]
  · rw [if_neg h0, if_neg h1, if_pos h, q1]
  · rw [if_neg h0, if_neg h1, if_neg h2, if_pos h, q1]
  · rw [if_neg h0, if_neg h1, if_neg h2, if_neg h3, if_pos h, q1]
  · rw [if_neg h0, if_neg h1, if_neg h2, if_neg h3, if_neg h4]
    refine Ev_bd (fun r => r = nI (if k = 0 then 0 else 4 * k - 1)) ?_ (fun r q => Ev_so ⟨c, by rw [q], Sm.rf⟩)
    unfold f_X9_textLength_1
    rw [hC.2.1, show (0 : Int32) = nI 0 from rfl]
    simp only [nI_iff (show k < 2 ^ 31 by omega) (show 0 < 2 ^ 31 by omega)]
    refine Ev_i (fun h => Ev_so (by rw [if_pos h])) (fun h => Ev_so ?_)
    rw [if_neg h, n4, pk_mul, n1, nsub (by omega)]
theorem w6_in {x : Int32} : (x < 0 ∨ (5 : Int32) < x) ↔ badI 6 x := by
  unfold badI
  rw [n5, Int32.lt_iff_toInt_lt, Int32.lt_iff_toInt_lt, Int32.le_iff_toInt_le, nI_toInt (by omega), nI_toInt (by omega)]
  have : (0 : Int32).toInt = 0 := rfl
  omega
