theorem C_exch {n k i : Nat} {f o : Nat → Nat} {c : Hp} (hG : Good n k f o) (hC : NetC n k f o c) (hi : i < k) : Ev (f_X4_exchanging_13_1 c (nI i)) (fun r => Sm [14] c r.2 ∧ r.2.1 = c.1 ∧ ColN n r.1 (oftP f o i)) := by
  have hn := hG.2.1
  have hk24 := hG.2.2.1
  obtain ⟨g1, g2, g3⟩ := hG.2.2.2 i hi
  unfold f_X4_exchanging_13_1
  refine Ev_bd _ (s_send_14 (sp := 99) (md := 0) hG hC (Nat.le_of_lt hi) (by omega)) (fun h1 ⟨hS, he, hV⟩ => ?_)
  rw [clN (by omega), he, (hC.2.2 i hi).1, (hC.2.2 i hi).2, clN (by omega), clN (by omega)]
  refine Ev_ck rfl (by omega) (by omega) (Ev_ck rfl (by omega) (by omega) (Ev_ck rfl (by omega) (by omega) (Ev_ck rfl (by omega) (by omega) (Ev_so ⟨hS, he, fun r hr => ?_⟩))))
  rw [bt_and, bt_not _ hr, hV _ g1 r hr, hV _ g2 r hr]
  unfold oftP
  cases decide (r < 2 ^ n) <;> simp
theorem Sm.nC {n k : Nat} {f o : Nat → Nat} {c c1 : Hp} {l : List Nat} (h : NetC n k f o c) (hS : Sm l c c1) (h1 : 1 ∉ l) (h2 : 2 ∉ l) (h3 : 3 ∉ l) : NetC n k f o c1 :=
  h.keep (by rw [(hS 1 h1).1]) (by rw [(hS 1 h1).1]) (hS 2 h2).1 (hS 3 h3).1
theorem Sm.nM {n k : Nat} {f o : Nat → Nat} {c c1 : Hp} {l : List Nat} (h : NetM n k f o c) (hS : Sm l c c1) (h0 : 0 ∉ l) (h1 : 1 ∉ l) (h2 : 2 ∉ l) (h4 : 4 ∉ l) : NetM n k f o c1 :=
  h.keep (by rw [(hS 0 h0).1]) (by rw [(hS 0 h0).1]) (by rw [(hS 0 h0).1]) (hS 1 h1).1 (hS 2 h2).1 (hS 4 h4).1
theorem cm_in4 {x : Int32} : (x < 0 ∨ (3 : Int32) < x) ↔ badI 4 x := by
  unfold badI
  rw [n3, Int32.lt_iff_toInt_lt, Int32.lt_iff_toInt_lt, Int32.le_iff_toInt_le, nI_toInt (by omega), nI_toInt (by omega)]
  have : (0 : Int32).toInt = 0 := rfl
  omega
theorem ne_bad {n a : Nat} {x : Int32} (hn : n < 2 ^ 31) (ha : a < n) (h : badI n x) : ¬ x = nI a := by
  rintro rfl
  rcases h with h | h
  · exact nI_pos (by omega) h
  · rw [nI_leI (by omega) (by omega)] at h; omega
theorem not_bad {n a : Nat} (hn : n < 2 ^ 31) (ha : a < n) : ¬ badI n (nI a) := fun h => ne_bad hn ha h rfl
def cmpA (n : Nat) (f o : Nat → Nat) (a b : Nat) : Nat := if b = 0 then f a else if b = 1 then o a else if b = 2 then layN f o a else ctB (oftP f o a) (2 ^ n)
theorem C_comparator {n k a b : Nat} {f o : Nat → Nat} {c : Hp} (hG : Good n k f o) (hC : NetC n k f o c) (ha : a < k) (hb : b < 4) : Ev (f_X10_comparator c (nI a) (nI b)) (fun r => ∃ c1, r = .inr (nI (cmpA n f o a b), c1) ∧ Sm [4, 5, 14] c c1) := by
  have hk24 := hG.2.2.1
  unfold f_X10_comparator
  rw [bdx_r (C_cmp_t hC.2.1 hG.2.2.1 ha)]
  have e : ∀ j, j < 4 → (nI b = nI j) = (b = j) := fun j hj => nI_iff (by omega) (by omega)
  rw [n0, n1, n2, n3]
  simp only [e 0 (by omega), e 1 (by omega), e 2 (by omega), e 3 (by omega)]
  unfold cmpA
  refine Ev_i (fun h => Ev_ck rfl (by omega) (by omega) (Ev_so ⟨c, ?_, Sm.rf⟩)) (fun h0 => Ev_i (fun h => Ev_ck rfl (by omega) (by omega) (Ev_so ⟨c, ?_, Sm.rf⟩)) (fun h1 => Ev_i (fun h => ?_) (fun h2 => Ev_t (by omega) ?_)))
  · rw [if_pos h, clN (by omega), (hC.2.2 a ha).1]
  · rw [if_neg h0, if_pos h, clN (by omega), (hC.2.2 a ha).2]
  · unfold f_X9_layerOf_1
    refine Ev_bd (fun r => r.1 = nI (layN f o a) ∧ Sm [4, 5] c r.2) (Ev_bd _ (C_layers hG hC) (fun r ⟨_, h2, h3⟩ => Ev_ck rfl (by omega) (by omega) (Ev_so ⟨by rw [clN (by omega)]; exact h3 a ha, h2⟩))) (fun r ⟨p1, p2⟩ => Ev_so ⟨_, ?_, p2.mono (by decide)⟩)
    rw [if_neg h0, if_neg h1, if_pos h, p1]
  · refine Ev_bd _ (C_exch hG hC ha) (fun r ⟨p1, p2, p3⟩ => Ev_bd _ (s_bitCount r.1) (fun y hy => Ev_so ⟨_, ?_, p1.mono (by decide)⟩))
    rw [if_neg h0, if_neg h1, if_neg h2, hy, p3.ct hG.2.1]
