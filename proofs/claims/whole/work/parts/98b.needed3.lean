/-! CASE needed: the reference's states -/
theorem M_lessIn {n k a b s : Nat} {f o : Nat → Nat} {m : Hp} (hn : n ≤ 4) (hM : NetM n k f o m) (ha : a < n) (hb : b < n) (hs : s < 2 ^ 24) : Ev (f_X11_lessIn m (nI s) (nI a) (nI b)) (fun y => y = nI (liN n s a b)) := by
  have hF := fac_24 hn
  have hs31 : s < 2 ^ 31 := Nat.lt_of_lt_of_le hs (by decide)
  have hend : numB (fun r => s.testBit r && decide (rowT n r a < rowT n r b)) (facN n) = liN n s a b := by
    apply Nat.eq_of_testBit_eq
    intro r
    rw [num_bit, li_bit]
    cases decide (r < facN n) <;> simp
  unfold f_X11_lessIn
  refine Ev_jn1 (fun y => y = nI (liN n s a b)) (fun y hy => Ev_so hy) (fun kk hk => ?_)
  refine Ev_fx2 (fun i a1 a2 => a2 = nI i ∧ a1 = nI (numB (fun r => s.testBit r && decide (rowT n r a < rowT n r b)) i)) (facN n) ?_ ?_ (FU_lt (by omega)) ⟨rfl, rfl⟩
  · rintro self i a1 a2 hi ⟨rfl, rfl⟩ hself
    unfold L_X11_lessIn_6
    rw [hM.2.2.2.1]
    refine Ev_f (nle_n hi (by omega)) ?_
    have hno : (s.testBit i && decide (rowT n i a < rowT n i b)) = false → Ev (nm (nI (numB (fun r => s.testBit r && decide (rowT n r a < rowT n r b)) i) ||| (0 : Int32)) (fun y4_2 => self y4_2 (nI i + (1 : Int32)))) (fun y => y = nI (liN n s a b)) := fun e => by
      refine Ev_nm (hself _ _ ⟨nI_add i 1, ?_⟩)
      rw [show (0 : Int32) = nI 0 from rfl, nI_or, num_s, e]; rfl
    show Ev (if (ishr (nI s) (nI i)) &&& 1 = 1 then _ else _) _
    simp only [bit_1 hs31 (show i < 32 by omega)]
    refine Ev_i (fun e => ?_) (fun e => hno (by rw [Bool.not_eq_true] at e; rw [e]; rfl))
    refine Ev_bde (M_isLess (by omega) hM hi ha hb) ?_
    by_cases h : rowT n i a < rowT n i b
    · rw [if_pos h]
      refine Ev_f (by decide) (Ev_nm (hself _ _ ⟨nI_add i 1, ?_⟩))
      rw [shl1 (by omega), nI_or, num_s, e, decide_eq_true h]; rfl
    · rw [if_neg h]
      exact Ev_t rfl (hno (by rw [decide_eq_false h, Bool.and_false]))
  · rintro self a1 a2 ⟨rfl, rfl⟩
    unfold L_X11_lessIn_6
    rw [hM.2.2.2.1]
    exact Ev_t (Int32.le_refl _) (hk _ (by rw [hend]))
theorem M_bits {s : Nat} (hs : s < 2 ^ 24) : Ev (f_X11_bits (nI s)) (fun y => y = nI (pcM s)) := by
  have hs31 : s < 2 ^ 31 := Nat.lt_of_lt_of_le hs (by decide)
  unfold f_X11_bits
  refine Ev_jn1 (fun y => y = nI (pcM s)) (fun y hy => Ev_so hy) (fun kk hk => ?_)
  refine Ev_fx2 (fun i a1 a2 => a2 = nI i ∧ a1 = nI (ctB (fun r => s.testBit r) i)) 24 ?_ ?_ (FU_lt (by omega)) ⟨rfl, rfl⟩
  · rintro self i a1 a2 hi ⟨rfl, rfl⟩ hself
    unfold L_X11_bits_4
    refine Ev_f (nle_n (a := 24) hi (by omega)) (Ev_nm (hself _ _ ⟨nI_add i 1, ?_⟩))
    rw [bit_n hs31 (by omega), nI_add]
    cases e : s.testBit i with
    | true => rw [if_pos rfl, ct_s1 (p := fun r => s.testBit r) e]
    | false => rw [if_neg (by decide), ct_s0 (p := fun r => s.testBit r) (by rw [e]; decide)]; rfl
  · rintro self a1 a2 ⟨rfl, rfl⟩
    unfold L_X11_bits_4
    exact Ev_t (Int32.le_refl _) (hk _ rfl)
def StM (n k : Nat) (f o : Nat → Nat) (m0 : Hp) (S : List Nat) (m : Hp) : Prop := NetM n k f o m ∧ Sm [0, 17, 18] m0 m ∧ (∀ j, j ≠ 0 → j ≠ 23 → m.1 0 j = m0.1 0 j) ∧ m.1 0 23 = nI S.length ∧ (∀ j, j < S.length → m.1 17 j = nI (S.getD j 0)) ∧ S.Nodup ∧ ∀ s, s ∈ S → s ≠ 0 ∧ ∃ z, s = mzN n z
theorem nd_sub : ∀ (S P : List Nat), S.Nodup → (∀ s, s ∈ S → s ∈ P) → S.length ≤ P.length
  | [], _, _, _ => Nat.zero_le _
  | x :: S, P, h, hs => by
    have h1 := nd_sub S (P.erase x) (List.nodup_cons.mp h).2 (fun s h2 => (List.mem_erase_of_ne (fun e => (List.nodup_cons.mp h).1 (by rw [← e]; exact h2))).mpr (hs s (List.mem_cons_of_mem _ h2)))
    have h2 := List.length_erase_of_mem (hs x List.mem_cons_self)
    have h3 := List.length_pos_of_mem (hs x List.mem_cons_self)
    rw [List.length_cons]
    omega
theorem StM.len {n k : Nat} {f o : Nat → Nat} {m0 m : Hp} {S : List Nat} (hn2 : 2 ≤ n) (hn : n ≤ 4) (h : StM n k f o m0 S m) : S.length ≤ 300 :=
  Nat.le_trans (nd_sub _ _ h.2.2.2.2.2.1 (fun s hs => by
    obtain ⟨_, z, e⟩ := h.2.2.2.2.2.2 s hs
    rw [e]; exact mz_ps hn2 hn)) (ps_ok hn2 hn).2.2
theorem mz_24 {n : Nat} {z : Int64} (hn : n ≤ 4) : mzN n z < 2 ^ 24 := Nat.lt_of_lt_of_le mz_lt (Nat.pow_le_pow_right (by omega) (fac_24 hn))
theorem StM.s24 {n k s : Nat} {f o : Nat → Nat} {m0 m : Hp} {S : List Nat} (hn : n ≤ 4) (h : StM n k f o m0 S m) (hs : s ∈ S) : s < 2 ^ 24 := by
  obtain ⟨_, z, e⟩ := h.2.2.2.2.2.2 s hs
  rw [e]; exact mz_24 hn
theorem M_placeOf {n k s : Nat} {f o : Nat → Nat} {m0 m : Hp} {S : List Nat} (hn2 : 2 ≤ n) (hn : n ≤ 4) (h : StM n k f o m0 S m) (hs : s < 2 ^ 24) : Ev (f_X11_placeOf m (nI s)) (fun y => (s ∈ S ∧ ∃ j, j < S.length ∧ S.getD j 0 = s ∧ y = nI j) ∨ (¬ s ∈ S ∧ y = -1)) := by
  have hlen := h.len hn2 hn
  unfold f_X11_placeOf
  refine Ev_jn1 (fun y => (s ∈ S ∧ ∃ j, j < S.length ∧ S.getD j 0 = s ∧ y = nI j) ∨ (¬ s ∈ S ∧ y = -1)) (fun y hy => Ev_so hy) (fun kk hk => ?_)
  refine Ev_fx2 (fun i a1 a2 => a2 = nI i ∧ ((∃ j, j < i ∧ S.getD j 0 = s ∧ a1 = nI j) ∨ ((∀ j, j < i → S.getD j 0 ≠ s) ∧ a1 = -1))) S.length ?_ ?_ (FU_lt (by omega)) ⟨rfl, Or.inr ⟨fun j hj => absurd hj (by omega), rfl⟩⟩
  · rintro self i a1 a2 hi ⟨rfl, hA⟩ hself
    unfold L_X11_placeOf_4
    have h24 := h.s24 hn (get_mem hi)
    rw [h.2.2.2.1, clN (by omega), h.2.2.2.2.1 i hi]
    refine Ev_f (nle_n hi (by omega)) (Ev_ck rfl (by omega) (by omega) ?_)
    simp only [nI_iff (show S.getD i 0 < 2 ^ 31 from Nat.lt_of_lt_of_le h24 (by decide)) (show s < 2 ^ 31 from Nat.lt_of_lt_of_le hs (by decide))]
    refine Ev_i (fun e => hself _ _ ⟨nI_add i 1, Or.inl ⟨i, by omega, e, rfl⟩⟩) (fun e => hself _ _ ⟨nI_add i 1, ?_⟩)
    rcases hA with ⟨j, y1, y2, y3⟩ | ⟨y1, y2⟩
    · exact Or.inl ⟨j, by omega, y2, y3⟩
    · refine Or.inr ⟨fun j hj => ?_, y2⟩
      by_cases e2 : j = i
      · rw [e2]; exact e
      · exact y1 j (by omega)
  · rintro self a1 a2 ⟨rfl, hA⟩
    unfold L_X11_placeOf_4
    rw [h.2.2.2.1]
    refine Ev_t (Int32.le_refl _) (hk _ ?_)
    rcases hA with ⟨j, y1, y2, y3⟩ | ⟨y1, y2⟩
    · exact Or.inl ⟨by rw [← y2]; exact get_mem y1, j, y1, y2, y3⟩
    · refine Or.inr ⟨fun hm => ?_, y2⟩
      obtain ⟨j, hj, e⟩ := mem_get hm
      exact y1 j hj e
theorem M_comes {n k s : Nat} {f o : Nat → Nat} {m0 m : Hp} {S : List Nat} (hn2 : 2 ≤ n) (hn : n ≤ 4) (h : StM n k f o m0 S m) (hs : ∃ z, s = mzN n z) : Ev (f_X11_comes m (nI s)) (fun m1 => ∃ T, StM n k f o m0 (S ++ T) m1 ∧ (s = 0 ∨ s ∈ S ++ T) ∧ (s ≠ 0 → S = [] → T = [s])) := by
  have hlen := h.len hn2 hn
  have h24 : s < 2 ^ 24 := by obtain ⟨z, e⟩ := hs; rw [e]; exact mz_24 hn
  unfold f_X11_comes
  have e0 : (nI s = 0) = (s = 0) := nI_iff (b := 0) (Nat.lt_of_lt_of_le h24 (by decide)) (by omega)
  simp only [e0]
  refine Ev_i (fun e => Ev_so ⟨[], by rw [List.append_nil]; exact h, Or.inl e, fun e2 => absurd e e2⟩) (fun e => Ev_bd _ (M_placeOf hn2 hn h h24) (fun y hy => ?_))
  rcases hy with ⟨hm, j, hj, e1, rfl⟩ | ⟨hm, rfl⟩
  · refine Ev_f (ne_m1 (by omega)) (Ev_so ⟨[], by rw [List.append_nil]; exact h, Or.inr (by rw [List.append_nil]; exact hm), fun _ e2 => by rw [e2] at hm; cases hm⟩)
  · refine Ev_t rfl ?_
    rw [h.2.2.2.1]
    refine Ev_ck rfl (by omega) (by omega) (Ev_nm ?_)
    have e3 : (wI m 17 (nI S.length) (nI s)).1 0 23 = nI S.length := by rw [wI_n _ _ _ _ _ (by decide)]; exact h.2.2.2.1
    rw [e3, n1, nI_add]
    obtain ⟨hM, hS, hf, hl, hv, hnd, hz⟩ := h
    refine Ev_nm (Ev_so ⟨[s], ⟨?_, (hS.sI (by decide)).sF (by decide), fun j j1 j2 => ?_, ?_, fun j hj => ?_, ?_, ?_⟩, Or.inr (by simp), fun _ e2 => rfl⟩)
    · refine hM.keep ?_ ?_ ?_ ?_ ?_ ?_
      all_goals first
        | (rw [wF_1, upd_n _ _ (by decide), wI_n _ _ _ _ _ (by decide)])
        | (rw [wF_n _ _ _ _ _ (by decide), wI_n _ _ _ _ _ (by decide)])
    · rw [wF_1, upd_n _ _ j2, wI_n _ _ _ _ _ (by decide)]
      exact hf j j1 j2
    · rw [wF_1, upd_s, List.length_append]; rfl
    · rw [wF_n _ _ _ _ _ (by decide), wI_1, clN (by omega)]
      rw [List.length_append, show [s].length = 1 from rfl] at hj
      by_cases e4 : j = S.length
      · rw [e4, upd_s, get_last]
      · rw [upd_n _ _ e4, get_app (by omega)]
        exact hv j (by omega)
    · rw [List.nodup_append]
      refine ⟨hnd, by simp, fun x hx y hy => ?_⟩
      rw [List.mem_singleton] at hy
      intro e5
      exact hm (by rw [← hy, ← e5]; exact hx)
    · intro x hx
      rcases List.mem_append.mp hx with h1 | h1
      · exact hz x h1
      · rw [List.mem_singleton] at h1
        rw [h1]; exact ⟨e, hs⟩
theorem get_app2 {S T : List Nat} {i : Nat} (h : i < S.length) : (S ++ T).getD i 0 = S.getD i 0 := by
  rw [List.getD_eq_getElem?_getD, List.getElem?_append_left h, ← List.getD_eq_getElem?_getD]
def clA (n : Nat) (S : List Nat) (s p : Nat) : Prop := p / n ≠ p % n → liN n s (p / n) (p % n) = 0 ∨ liN n s (p / n) (p % n) ∈ S
theorem M_grow {n k : Nat} {f o : Nat → Nat} {m0 m : Hp} {S : List Nat} {K : Hp → Option (Int32 × Hp)} {P : Int32 × Hp → Prop} (hn2 : 2 ≤ n) (hn : n ≤ 4) (h : StM n k f o m0 S m) (hK : ∀ m1, (∃ T, StM n k f o m0 (S ++ T) m1 ∧ ∀ s, s ∈ S ++ T → ∀ p, p < n * n → clA n (S ++ T) s p) → Ev (K m1) P) : Ev (jn1 (fun k140 => fx2 (L_X11_needed_64 k140) FU (0 : Int32) m) K) P := by
  have hnn : n * n ≤ 16 := Nat.mul_le_mul hn hn
  have hnz : ¬ nI n = 0 := nI_ne0 (by omega) (by omega)
  refine Ev_jn1 (fun m1 => ∃ T, StM n k f o m0 (S ++ T) m1 ∧ ∀ s, s ∈ S ++ T → ∀ p, p < n * n → clA n (S ++ T) s p) (fun m1 hh => hK m1 hh) (fun kk hk => ?_)
  refine Ev_fx2 (fun j a1 m1 => a1 = nI j ∧ ∃ T, StM n k f o m0 (S ++ T) m1 ∧ j ≤ (S ++ T).length ∧ ∀ i, i < j → ∀ p, p < n * n → clA n (S ++ T) ((S ++ T).getD i 0) p) 400 ?_ ?_ (FU_lt (by omega)) ⟨rfl, [], by rw [List.append_nil]; exact h, Nat.zero_le _, fun i hi => absurd hi (by omega)⟩
  · rintro self j a1 m1 hj ⟨rfl, T, h1, hjl, hcl⟩ hself
    have hlen := h1.len hn2 hn
    unfold L_X11_needed_64
    rw [h1.2.2.2.1]
    by_cases e : j = (S ++ T).length
    · refine Ev_t (le_n (by omega) (by omega)) (hk _ ⟨T, h1, fun s hs => ?_⟩)
      obtain ⟨i, hi, e2⟩ := mem_get hs
      rw [← e2]
      exact hcl i (by omega)
    · have hjl2 : j < (S ++ T).length := by omega
      refine Ev_f (nle_n hjl2 (by omega)) ?_
      have hsj := h1.2.2.2.2.2.2 _ (get_mem hjl2)
      have hs24 := h1.s24 hn (get_mem hjl2)
      generalize hs : (S ++ T).getD j 0 = s at hsj hs24
      refine Ev_jn1 (fun m2 => ∃ T2, StM n k f o m0 (S ++ T ++ T2) m2 ∧ ∀ p, p < n * n → clA n (S ++ T ++ T2) s p) (fun m2 ⟨T2, h2, hc2⟩ => hself _ _ ⟨nI_add j 1, T ++ T2, by rw [← List.append_assoc]; exact h2, ?_, ?_⟩) (fun k134 hk2 => ?_)
      · rw [← List.append_assoc, List.length_append]; omega
      · intro i hi p hp
        rw [← List.append_assoc]
        by_cases e3 : i = j
        · rw [e3, get_app2 hjl2, hs]; exact hc2 p hp
        · rw [get_app2 (by omega)]
          intro hpp
          rcases hcl i (by omega) p hp hpp with z | z
          · exact Or.inl z
          · exact Or.inr (List.mem_append_left _ z)
      · refine Ev_fx2 (fun p a1 m2 => a1 = nI p ∧ ∃ T2, StM n k f o m0 (S ++ T ++ T2) m2 ∧ ∀ p', p' < p → clA n (S ++ T ++ T2) s p') (n * n) ?_ ?_ (FU_lt (by omega)) ⟨rfl, [], by rw [List.append_nil]; exact h1, fun p hp => absurd hp (by omega)⟩
        · rintro self2 p b1 m2 hp ⟨rfl, T2, h2, hc2⟩ hself2
          have hp1 : p / n < n := Nat.div_lt_of_lt_mul hp
          have hp2 : p % n < n := Nat.mod_lt _ (by omega)
          unfold L_X11_needed_74
          rw [h2.1.1, nmul, ndiv (by omega) (by omega) (by omega), irmN (by omega) (by omega) (by omega)]
          refine Ev_f (nle_n hp (by omega)) (Ev_nz hnz (Ev_nz hnz ?_))
          simp only [nI_iff (show p / n < 2 ^ 31 by omega) (show p % n < 2 ^ 31 by omega)]
          refine Ev_i (fun e3 => hself2 _ _ ⟨nI_add p 1, T2, h2, fun p' hp' => ?_⟩) (fun e3 => ?_)
          · by_cases e4 : p' = p
            · rw [e4]; exact fun z => absurd e3 z
            · exact hc2 p' (by omega)
          · have hlen2 := h2.len hn2 hn
            have hjl3 : j < (S ++ T ++ T2).length := by rw [List.length_append]; omega
            rw [clN (by omega), h2.2.2.2.2.1 j hjl3, get_app2 hjl2, hs]
            refine Ev_ck rfl (by omega) (by omega) (Ev_nz hnz (Ev_nz hnz (Ev_bd _ (M_lessIn hn h2.1 hp1 hp2 hs24) (fun y hy => ?_))))
            rw [hy]
            obtain ⟨_, z, ez⟩ := hsj
            refine Ev_bd _ (M_comes hn2 hn h2 ⟨lsB z (p / n) (p % n), by rw [ez]; exact mz_li (by omega) hp1 hp2⟩) (fun m3 ⟨T3, h3, hc3, _⟩ => hself2 _ _ ⟨nI_add p 1, T2 ++ T3, by rw [← List.append_assoc]; exact h3, fun p' hp' => ?_⟩)
            rw [← List.append_assoc]
            by_cases e4 : p' = p
            · rw [e4]; exact fun _ => hc3
            · intro hpp
              rcases hc2 p' (by omega) hpp with z | z
              · exact Or.inl z
              · exact Or.inr (List.mem_append_left _ z)
        · rintro self2 b1 m2 ⟨rfl, T2, h2, hc2⟩
          unfold L_X11_needed_74
          rw [h2.1.1, nmul]
          exact Ev_t (Int32.le_refl _) (hk2 _ ⟨T2, h2, hc2⟩)
  · rintro self a1 m1 ⟨rfl, T, h1, hjl, hcl⟩
    have hlen := h1.len hn2 hn
    omega
