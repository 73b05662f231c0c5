/-! CASE make -/
def extN (f : Nat → Nat) (k : Nat) (l : List Nat) : Nat → Nat := fun i => if i < k then f i else l.getD (i - k) 0
theorem ext_nil {f : Nat → Nat} {k i : Nat} (h : i < k) : extN f k [] i = f i := if_pos h
theorem ext_upd {f : Nat → Nat} {k x : Nat} {l : List Nat} : updN (extN f k l) (k + l.length) x = extN f k (l ++ [x]) := by
  funext i
  unfold updN extN
  by_cases h1 : i < k
  · rw [if_neg (by omega), if_pos h1, if_pos h1]
  · rw [if_neg h1, if_neg h1]
    by_cases h2 : i = k + l.length
    · subst h2
      rw [if_pos rfl]
      simp
    · rw [if_neg h2]
      by_cases h3 : i - k < l.length
      · rw [List.getD_eq_getElem?_getD, List.getD_eq_getElem?_getD, List.getElem?_append_left h3]
      · rw [List.getD_eq_getElem?_getD, List.getD_eq_getElem?_getD, List.getElem?_eq_none (by omega), List.getElem?_eq_none (by simp; omega)]
/-- the class's plan -/
def Plan (n : Nat) (ps : List (Nat × Nat)) (c h : Hp) : Prop := h.1 6 0 = nI n ∧ h.1 6 1 = nI ps.length ∧ (∀ i p, ps[i]? = some p → h.1 7 i = nI p.1 ∧ h.1 8 i = nI p.2) ∧ Sm [6, 7, 8] c h
theorem C_app6 {n a b : Nat} {ps : List (Nat × Nat)} {c h : Hp} (hP : Plan n ps c h) (hl : ps.length < 24) : Ev (f_X9_append_6 h (nI a) (nI b)) (fun h1 => Plan n (ps ++ [(a, b)]) c h1) := by
  obtain ⟨p0, p1, p2, p3⟩ := hP
  unfold f_X9_append_6
  refine Ev_f (by rw [p1]; exact nle_n (a := 24) hl (by omega)) (Ev_ck p1 hl (by omega) (Ev_nm ?_))
  have e1 : (wI h 7 (h.1 6 1) (nI a)).1 6 1 = nI ps.length := by rw [wI_n _ _ _ _ _ (by decide)]; exact p1
  refine Ev_ck e1 hl (by omega) (Ev_nm ?_)
  have e2 : (wI (wI h 7 (h.1 6 1) (nI a)) 8 ((wI h 7 (h.1 6 1) (nI a)).1 6 1) (nI b)).1 6 1 + 1 = nI (ps.length + 1) := by
    rw [wI_n _ _ _ _ _ (by decide), e1]; exact nI_add _ 1
  refine Ev_nm (Ev_so ⟨?_, ?_, fun i p hi => ?_, ((p3.sI (by decide)).sI (by decide)).sF (by decide)⟩)
  · rw [wF_1, upd_n _ _ (by decide)]
    simp (disch := omega) only [wI_n]
    exact p0
  · rw [wF_1, upd_s, List.length_append]; exact e2
  · rw [e1, p1]
    by_cases e : i < ps.length
    · rw [List.getElem?_append_left e] at hi
      simp (disch := omega) only [wF_n, wI_1, wI_n, clN, upd_n]
      exact p2 i p hi
    · have e3 : i = ps.length := by
        have := (List.getElem?_eq_some_iff.mp hi).1
        simp at this; omega
      subst e3
      simp at hi
      subst hi
      simp (disch := omega) only [wF_n, wI_1, wI_n, clN, upd_s, and_self]
def bubI (j : Nat) : List (Nat × Nat) := (List.range j).map (fun i => (i, i + 1))
def bubO (n : Nat) : Nat → List (Nat × Nat)
  | 0 => []
  | t + 1 => bubO n t ++ bubI (n - 1 - t)
theorem bubI_s {j : Nat} : bubI (j + 1) = bubI j ++ [(j, j + 1)] := by unfold bubI; rw [List.range_succ, List.map_append]; rfl
theorem bub_len : ∀ n, n < 7 → ∀ t, t < n - 1 → ∀ j, j < n - 1 - t → (bubO n t ++ bubI j).length < (bubO n (n - 1)).length ∧ (bubO n (n - 1)).length ≤ 15 := by decide
theorem C_bubble {n : Nat} {c h : Hp} (hn : n ≤ 6) (hn2 : 2 ≤ n) (hP : Plan n [] c h) : Ev (f_X9_layBubble_6 h) (fun h1 => Plan n (bubO n (n - 1)) c h1) := by
  unfold f_X9_layBubble_6
  rw [hP.1, n1, nsub (by omega)]
  refine Ev_nm (Ev_jn1 (fun h1 => Plan n (bubO n (n - 1)) c h1) (fun h1 hh => Ev_so hh) (fun kk hk => ?_))
  refine Ev_fx2 (fun t a1 a2 => a1 = nI (n - 1 - t) ∧ Plan n (bubO n t) c a2) (n - 1) ?_ ?_ (FU_lt (by omega)) ⟨rfl, hP⟩
  · rintro self t a1 a2 ht ⟨rfl, hP⟩ hself
    unfold L_X9_layBubble_6_7
    refine Ev_f (by rw [n1, nI_ltI (by omega) (by omega)]; omega) (Ev_jn1 (fun h1 => Plan n (bubO n (t + 1)) c h1) (fun h1 hh => hself _ _ ⟨?_, hh⟩) (fun kq hkq => ?_))
    · have e : n - 1 - t = n - 1 - (t + 1) + 1 := by omega
      rw [e]; exact nI_m1 _
    · refine Ev_fx2 (fun j a1 a2 => a1 = nI j ∧ Plan n (bubO n t ++ bubI j) c a2) (n - 1 - t) ?_ ?_ (FU_lt (by omega)) ⟨rfl, by simpa [bubI] using hP⟩
      · rintro self2 j b1 b2 hj ⟨rfl, hP⟩ hself2
        unfold L_X9_layBubble_6_14
        have hb := bub_len n (by omega) t ht j hj
        refine Ev_f (nle_n hj (by omega)) ?_
        rw [n1, nI_add]
        exact Ev_bd _ (C_app6 hP (by omega)) (fun h1 hh => hself2 _ _ ⟨rfl, by rw [bubI_s, ← List.append_assoc]; exact hh⟩)
      · rintro self2 b1 b2 ⟨rfl, hP⟩
        unfold L_X9_layBubble_6_14
        exact Ev_t (Int32.le_refl _) (hkq _ hP)
  · rintro self a1 a2 ⟨rfl, hP⟩
    unfold L_X9_layBubble_6_7
    exact Ev_t (by rw [Nat.sub_self]; decide) (hk _ hP)
def briI (n t j : Nat) : List (Nat × Nat) := ((List.range j).map (fun i => (t % 2 + 2 * i, t % 2 + 2 * i + 1))).filter (fun p => decide (p.2 < n))
def briO (n : Nat) : Nat → List (Nat × Nat)
  | 0 => []
  | t + 1 => briO n t ++ briI n t ((n - t % 2 + 1) / 2)
theorem briI_s {n t j : Nat} : briI n t (j + 1) = if t % 2 + 2 * j + 1 < n then briI n t j ++ [(t % 2 + 2 * j, t % 2 + 2 * j + 1)] else briI n t j := by
  unfold briI
  rw [List.range_succ, List.map_append, List.filter_append]
  by_cases h : t % 2 + 2 * j + 1 < n
  · rw [if_pos h]; simp [h]
  · rw [if_neg h]; simp [h]
theorem bri_len : ∀ n, n < 7 → ∀ t, t < n → ∀ j, j < 4 → t % 2 + 2 * j + 1 < n → (briO n t ++ briI n t j).length < (briO n n).length ∧ (briO n n).length ≤ 15 := by decide
theorem bri_end : ∀ n, n < 7 → ∀ t, t < n → briI n t ((n - t % 2) / 2) = briI n t ((n - t % 2 + 1) / 2) := by decide
theorem C_brick {n : Nat} {c h : Hp} (hn : n ≤ 6) (hn2 : 2 ≤ n) (hP : Plan n [] c h) : Ev (f_X9_layBrick_6 h) (fun h1 => Plan n (briO n n) c h1) := by
  unfold f_X9_layBrick_6
  refine Ev_jn1 (fun h1 => Plan n (briO n n) c h1) (fun h1 hh => Ev_so hh) (fun kk hk => ?_)
  refine Ev_fx2 (fun t a1 a2 => a1 = nI t ∧ Plan n (briO n t) c a2) n ?_ ?_ (FU_lt (by omega)) ⟨rfl, hP⟩
  · rintro self t a1 a2 ht ⟨rfl, hP⟩ hself
    unfold L_X9_layBrick_6_2
    rw [hP.1, n2, irmN (by omega) (by omega) (by omega)]
    refine Ev_f (nle_n ht (by omega)) (Ev_nm (Ev_jn1 (fun h1 => Plan n (briO n (t + 1)) c h1) (fun h1 hh => hself _ _ ⟨nI_add t 1, hh⟩) (fun kq hkq => ?_)))
    refine Ev_fx2 (fun j a1 a2 => a1 = nI (t % 2 + 2 * j) ∧ Plan n (briO n t ++ briI n t j) c a2) ((n - t % 2) / 2) ?_ ?_ (FU_lt (by omega)) ⟨rfl, by simpa [briI] using hP⟩
    · rintro self2 j b1 b2 hj ⟨rfl, hP⟩ hself2
      unfold L_X9_layBrick_6_14
      have hlt : t % 2 + 2 * j + 1 < n := by omega
      have hb := bri_len n (by omega) t ht j (by omega) hlt
      rw [hP.1, n1, nI_add]
      refine Ev_f (nle_n hlt (by omega)) ?_
      exact Ev_bd _ (C_app6 hP (by omega)) (fun h1 hh => hself2 _ _ ⟨nI_add _ 2, by rw [briI_s, if_pos hlt, ← List.append_assoc]; exact hh⟩)
    · rintro self2 b1 b2 ⟨rfl, hP⟩
      unfold L_X9_layBrick_6_14
      rw [hP.1, n1, nI_add]
      refine Ev_t (le_n (by omega) (by omega)) (hkq _ ?_)
      show Plan n (briO n t ++ briI n t ((n - t % 2 + 1) / 2)) c b2
      rw [← bri_end n (by omega) t ht]; exact hP
  · rintro self a1 a2 ⟨rfl, hP⟩
    unfold L_X9_layBrick_6_2
    rw [hP.1]
    exact Ev_t (Int32.le_refl _) (hk _ hP)
/-- across: nz: whether the bit is wanted -/
def acr (n P D : Nat) (nz : Bool) (j : Nat) : List (Nat × Nat) := ((List.range j).filter (fun i => ((i &&& P) != 0) == nz && decide (i + D < n))).map (fun i => (i, i + D))
theorem acr_s {n P D j : Nat} {nz : Bool} : acr n P D nz (j + 1) = if (((j &&& P) != 0) == nz && decide (j + D < n)) = true then acr n P D nz j ++ [(j, j + D)] else acr n P D nz j := by
  unfold acr
  rw [List.range_succ, List.filter_append, List.map_append]
  by_cases h : (((j &&& P) != 0) == nz && decide (j + D < n)) = true
  · rw [if_pos h, List.filter_cons, if_pos h]; simp
  · rw [if_neg h, List.filter_cons, if_neg h]; simp
def merQ (n H P : Nat) : Nat → List (Nat × Nat)
  | 0 => []
  | l + 1 => merQ n H P l ++ acr n P (H / 2 ^ l - P) true n
def merO (n H : Nat) : Nat → List (Nat × Nat)
  | 0 => []
  | j + 1 => merO n H j ++ acr n (H / 2 ^ j) (H / 2 ^ j) false n ++ merQ n H (H / 2 ^ j) j
def hlf (n : Nat) : Nat := if n ≤ 2 then 1 else if n ≤ 4 then 2 else 4
def lgh (n : Nat) : Nat := if n ≤ 2 then 0 else if n ≤ 4 then 1 else 2
theorem mer_len1 : ∀ n, n < 7 → 2 ≤ n → ∀ j, j < lgh n + 1 → ∀ i, i < n → i + hlf n / 2 ^ j < n → ((i &&& (hlf n / 2 ^ j)) != 0) = false → (merO n (hlf n) j ++ acr n (hlf n / 2 ^ j) (hlf n / 2 ^ j) false i).length < (merO n (hlf n) (lgh n + 1)).length ∧ (merO n (hlf n) (lgh n + 1)).length ≤ 15 := by 
  intro n h1 h2
  have h3 : n = 2 ∨ n = 3 ∨ n = 4 ∨ n = 5 ∨ n = 6 := by omega
  clear h1 h2
  rcases h3 with rfl | rfl | rfl | rfl | rfl <;> decide
def ml2 (n j l i : Nat) : Bool := !(decide (2 ≤ n) && decide (j < lgh n + 1) && decide (l < j) && decide (i < n) && decide (i + (hlf n / 2 ^ l - hlf n / 2 ^ j) < n) && ((i &&& (hlf n / 2 ^ j)) != 0)) || (decide ((merO n (hlf n) j ++ acr n (hlf n / 2 ^ j) (hlf n / 2 ^ j) false n ++ merQ n (hlf n) (hlf n / 2 ^ j) l ++ acr n (hlf n / 2 ^ j) (hlf n / 2 ^ l - hlf n / 2 ^ j) true i).length < (merO n (hlf n) (lgh n + 1)).length) && decide ((merO n (hlf n) (lgh n + 1)).length ≤ 15))
theorem ml2_all : ∀ n, n < 7 → ∀ j, j < 4 → ∀ l, l < 4 → ∀ i, i < 7 → ml2 n j l i = true := by decide
theorem mer_len2 (n : Nat) (hn : n < 7) (hn2 : 2 ≤ n) (j : Nat) (hj : j < lgh n + 1) (l : Nat) (hl : l < j) (i : Nat) (hi : i < n) (h1 : i + (hlf n / 2 ^ l - hlf n / 2 ^ j) < n) (h2 : ((i &&& (hlf n / 2 ^ j)) != 0) = true) : (merO n (hlf n) j ++ acr n (hlf n / 2 ^ j) (hlf n / 2 ^ j) false n ++ merQ n (hlf n) (hlf n / 2 ^ j) l ++ acr n (hlf n / 2 ^ j) (hlf n / 2 ^ l - hlf n / 2 ^ j) true i).length < (merO n (hlf n) (lgh n + 1)).length ∧ (merO n (hlf n) (lgh n + 1)).length ≤ 15 := by
  have hL : lgh n ≤ 2 := by unfold lgh; split; omega; split <;> omega
  have h := ml2_all n hn j (by omega) l (by omega) i (by omega)
  unfold ml2 at h
  rw [decide_eq_true hn2, decide_eq_true hj, decide_eq_true hl, decide_eq_true hi, decide_eq_true h1, h2] at h
  simp only [Bool.and_true, Bool.not_true, Bool.false_or, Bool.and_eq_true, decide_eq_true_eq] at h
  exact h
theorem mer_f1 : ∀ n, n < 7 → hlf n / 2 ^ (lgh n + 1) = 0 := by decide
theorem mer_f2 : ∀ n, n < 7 → ∀ j, j < lgh n + 1 → 1 ≤ hlf n / 2 ^ j ∧ hlf n / 2 ^ j ≤ 4 := by decide
theorem mer_f3 : ∀ n, n < 7 → ∀ j, j < lgh n + 1 → ∀ l, l < j → hlf n / 2 ^ j < hlf n / 2 ^ l := by decide
theorem mer_f4 : ∀ n, n < 7 → ∀ j, j < lgh n + 1 → ∀ i, i < 7 → (i &&& (hlf n / 2 ^ j) = hlf n / 2 ^ j ↔ i &&& (hlf n / 2 ^ j) ≠ 0) := by decide
theorem mer_f5 : ∀ n, n < 7 → ∀ j, j < lgh n + 1 → ∀ D, D < n → acr n (hlf n / 2 ^ j) D true (n - D) = acr n (hlf n / 2 ^ j) D true n ∧ acr n (hlf n / 2 ^ j) D false (n - D) = acr n (hlf n / 2 ^ j) D false n := by decide
theorem mer_facts (n : Nat) (h : n < 7) (_ : 2 ≤ n) : hlf n / 2 ^ (lgh n + 1) = 0 ∧ ∀ j, j < lgh n + 1 → 1 ≤ hlf n / 2 ^ j ∧ hlf n / 2 ^ j ≤ 4 ∧ (∀ l, l < j → hlf n / 2 ^ j < hlf n / 2 ^ l) ∧ (∀ i, i < 7 → (i &&& (hlf n / 2 ^ j) = hlf n / 2 ^ j ↔ i &&& (hlf n / 2 ^ j) ≠ 0)) ∧ ∀ D, D < 7 → D < n → ∀ nz, acr n (hlf n / 2 ^ j) D nz (n - D) = acr n (hlf n / 2 ^ j) D nz n :=
  ⟨mer_f1 n h, fun j hj => ⟨(mer_f2 n h j hj).1, (mer_f2 n h j hj).2, mer_f3 n h j hj, mer_f4 n h j hj, fun D _ hD nz => by cases nz; exact (mer_f5 n h j hj D hD).2; exact (mer_f5 n h j hj D hD).1⟩⟩
theorem C_across {n P W D : Nat} {nz : Bool} {ps : List (Nat × Nat)} {c h : Hp} (hn : n ≤ 6) (hD : D ≤ n) (hP4 : P ≤ 4) (hW4 : W ≤ 4) (hW : ∀ i, i < n → ((i &&& P = W) ↔ ((i &&& P) != 0) = nz)) (hlen : ∀ i, i < n → i + D < n → ((i &&& P) != 0) = nz → (ps ++ acr n P D nz i).length < 24) (hP : Plan n ps c h) : Ev (f_X9_layAcross_6 h (nI P) (nI W) (nI D)) (fun h1 => Plan n (ps ++ acr n P D nz (n - D)) c h1) := by
  unfold f_X9_layAcross_6
  refine Ev_jn1 (fun h1 => Plan n (ps ++ acr n P D nz (n - D)) c h1) (fun h1 hh => Ev_so hh) (fun kk hk => ?_)
  refine Ev_fx2 (fun i a1 a2 => a1 = nI i ∧ Plan n (ps ++ acr n P D nz i) c a2) (n - D) ?_ ?_ (FU_lt (by omega)) ⟨rfl, by simpa [acr] using hP⟩
  · rintro self i a1 a2 hi ⟨rfl, hP⟩ hself
    unfold L_X9_layAcross_6_3
    rw [hP.1, nI_add, nI_and]
    have hle : i &&& P ≤ P := Nat.and_le_right
    refine Ev_f (nle_n (by omega) (by omega)) (Ev_i (fun e => ?_) (fun e => ?_))
    · rw [neqI (by omega) (by omega), hW i (by omega)] at e
      exact Ev_bd _ (C_app6 hP (hlen i (by omega) (by omega) e)) (fun h1 hh => hself _ _ ⟨nI_add i 1, by rw [acr_s, if_pos (by rw [e]; simp; omega), ← List.append_assoc]; exact hh⟩)
    · rw [neqI (by omega) (by omega), hW i (by omega)] at e
      exact hself _ _ ⟨nI_add i 1, by rw [acr_s, if_neg (by simp only [Bool.and_eq_true, beq_iff_eq]; exact fun z => e z.1)]; exact hP⟩
  · rintro self a1 a2 ⟨rfl, hP⟩
    unfold L_X9_layAcross_6_3
    rw [hP.1, nI_add]
    exact Ev_t (le_n (by omega) (by omega)) (hk _ hP)
theorem C_merge {n : Nat} {c h : Hp} (hn : n ≤ 6) (hn2 : 2 ≤ n) (hP : Plan n [] c h) : Ev (f_X9_layMerge_6 h) (fun h1 => Plan n (merO n (hlf n) (lgh n + 1)) c h1) := by
  have hL : lgh n ≤ 2 := by unfold lgh; split; omega; split <;> omega
  have hF := mer_facts n (by omega) hn2
  have hH4 : hlf n ≤ 4 := by unfold hlf; split; omega; split <;> omega
  unfold f_X9_layMerge_6
  refine Ev_jn1 (fun x => x = nI (hlf n)) (fun x hx => ?_) (fun kk hk => ?_)
  · subst hx
    refine Ev_jn1 (fun h1 => Plan n (merO n (hlf n) (lgh n + 1)) c h1) (fun h1 hh => Ev_so hh) (fun kk hk => ?_)
    refine Ev_fx2 (fun j a1 a2 => a1 = nI (hlf n / 2 ^ j) ∧ Plan n (merO n (hlf n) j) c a2) (lgh n + 1) ?_ ?_ (FU_lt (by omega)) ⟨by rw [Nat.pow_zero, Nat.div_one], hP⟩
    · rintro self j a1 a2 hj ⟨rfl, hP⟩ hself
      obtain ⟨f1, f2, f3, f4, f5⟩ := hF.2 j hj
      have hl1 := mer_len1 n (by omega) hn2 j hj
      have hl2 := mer_len2 n (by omega) hn2 j hj
      have hnext : nI (hlf n / 2 ^ j) / nI 2 = nI (hlf n / 2 ^ (j + 1)) := by
        rw [ndiv (by omega) (by omega) (by omega), Nat.div_div_eq_div_mul, ← Nat.pow_succ]
      have hPn : hlf n / 2 ^ j < n := by
        unfold hlf at f2 ⊢
        refine Nat.lt_of_le_of_lt (Nat.div_le_self _ _) ?_
        split
        · omega
        · split <;> omega
      generalize hPe : hlf n / 2 ^ j = P at *
      unfold L_X9_layMerge_6_21
      refine Ev_f (by rw [n1, nI_ltI (by omega) (by omega)]; omega) (Ev_bd _ (C_across (nz := false) (D := P) (W := 0) hn (by omega) f2 (by omega) (fun i _ => by simp) (fun i hi h1 h2 => by have := hl1 i hi h1 h2; omega) hP) (fun h1 hP1 => ?_))
      rw [f5 P (by omega) hPn false] at hP1
      refine Ev_jn1 (fun h1 => Plan n (merO n (hlf n) (j + 1)) c h1) (fun h2 hP2 => Ev_nm (hself _ _ ⟨by rw [n2]; exact hnext, hP2⟩)) (fun kq hkq => ?_)
      refine Ev_fx2 (fun l a1 a2 => a1 = nI (hlf n / 2 ^ l) ∧ Plan n (merO n (hlf n) j ++ acr n P P false n ++ merQ n (hlf n) P l) c a2) j ?_ ?_ (FU_lt (by omega)) ⟨by rw [Nat.pow_zero, Nat.div_one], by simpa [merQ] using hP1⟩
      · rintro self2 l b1 b2 hl ⟨rfl, hP2⟩ hself2
        have g1 := f3 l hl
        have hnext2 : nI (hlf n / 2 ^ l) / nI 2 = nI (hlf n / 2 ^ (l + 1)) := by
          rw [ndiv (by have := (hF.2 l (by omega)).2.1; omega) (by omega) (by omega), Nat.div_div_eq_div_mul, ← Nat.pow_succ]
        have hQ4 := (hF.2 l (by omega)).2.1
        have hQn : hlf n / 2 ^ l < n := by
          refine Nat.lt_of_le_of_lt (Nat.div_le_self _ _) ?_
          unfold hlf
          split
          · omega
          · split <;> omega
        have hl3 := hl2 l hl
        generalize hQe : hlf n / 2 ^ l = Q at *
        unfold L_X9_layMerge_6_35
        rw [nsub (by omega)]
        refine Ev_f (nle_n g1 (by omega)) (Ev_bd _ (C_across (nz := true) (D := Q - P) (W := P) hn (by omega) f2 f2 (fun i hi => by rw [f4 i (by omega)]; simp) (fun i hi h1 h2 => by have := hl3 i hi h1 h2; omega) hP2) (fun h2 hP3 => Ev_nm (hself2 _ _ ⟨by rw [n2]; exact hnext2, ?_⟩)))
        rw [f5 (Q - P) (by omega) (by omega) true] at hP3
        show Plan n (merO n (hlf n) j ++ acr n P P false n ++ (merQ n (hlf n) P l ++ acr n P (hlf n / 2 ^ l - P) true n)) c h2
        rw [hQe, ← List.append_assoc]
        exact hP3
      · rintro self2 b1 b2 ⟨rfl, hP2⟩
        unfold L_X9_layMerge_6_35
        rw [hPe]
        refine Ev_t (Int32.le_refl _) (hkq _ ?_)
        show Plan n (merO n (hlf n) j ++ acr n (hlf n / 2 ^ j) (hlf n / 2 ^ j) false n ++ merQ n (hlf n) (hlf n / 2 ^ j) j) c b2
        rw [hPe]; exact hP2
    · rintro self a1 a2 ⟨rfl, hP⟩
      unfold L_X9_layMerge_6_21
      rw [hF.1]
      exact Ev_t (by decide) (hk _ hP)
  · refine Ev_fx1 (fun j a1 => a1 = nI (2 ^ j)) (lgh n) ?_ ?_ (FU_lt (by omega)) rfl
    · rintro self j a1 hj rfl hself
      unfold L_X9_layMerge_6_2
      rw [hP.1, n2, nmul, nmul]
      refine Ev_f (nle_n ?_ (by omega)) (Ev_nm (hself _ (by rw [Nat.pow_succ])))
      revert hj
      unfold lgh
      split
      · omega
      · split
        · intro hj
          have : j = 0 := by omega
          subst this; omega
        · intro hj
          have : j = 0 ∨ j = 1 := by omega
          rcases this with rfl | rfl <;> omega
    · rintro self a1 rfl
      unfold L_X9_layMerge_6_2
      rw [hP.1, n2, nmul]
      refine Ev_t (le_n ?_ ?_) (hk _ ?_)
      · unfold lgh
        split
        · omega
        · split <;> omega
      · unfold lgh
        split
        · omega
        · split <;> omega
      · unfold lgh hlf
        split
        · rfl
        · split <;> rfl
