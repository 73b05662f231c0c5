/-! LAYERS; cases comparator, told -/
def freN (f o : Nat → Nat) : Nat → Nat → Nat
  | 0, _ => 0
  | i + 1, x => if x = f i ∨ x = o i then max (freN f o i (f i)) (freN f o i (o i)) + 1 else freN f o i x
def layN (f o : Nat → Nat) (i : Nat) : Nat := max (freN f o i (f i)) (freN f o i (o i))
def allN (f o : Nat → Nat) : Nat → Nat
  | 0 => 0
  | i + 1 => max (allN f o i) (layN f o i + 1)
theorem fre_s {f o : Nat → Nat} {i x : Nat} : freN f o (i + 1) x = if x = f i ∨ x = o i then max (freN f o i (f i)) (freN f o i (o i)) + 1 else freN f o i x := rfl
theorem fre_le {f o : Nat → Nat} : ∀ i x, freN f o i x ≤ i
  | 0, _ => Nat.le_refl _
  | i + 1, x => by
    have h1 := fre_le (f := f) (o := o) i (f i)
    have h2 := fre_le (f := f) (o := o) i (o i)
    have h3 := fre_le (f := f) (o := o) i x
    unfold freN
    split <;> omega
theorem lay_le {f o : Nat → Nat} {i : Nat} : layN f o i ≤ i := by
  have h1 := fre_le (f := f) (o := o) i (f i)
  have h2 := fre_le (f := f) (o := o) i (o i)
  unfold layN
  omega
theorem all_le {f o : Nat → Nat} : ∀ i, allN f o i ≤ i
  | 0 => Nat.le_refl _
  | i + 1 => by
    have h1 := all_le (f := f) (o := o) i
    have h2 := lay_le (f := f) (o := o) (i := i)
    unfold allN
    omega
theorem imax_n {a b : Nat} (ha : a < 2 ^ 31) (hb : b < 2 ^ 31) : imax (nI a) (nI b) = nI (max a b) := by
  unfold imax
  by_cases h : a < b
  · rw [if_pos (nI_lt h hb), Nat.max_eq_right (by omega)]
  · rw [if_neg (nI_nlt (by omega) ha), Nat.max_eq_left (by omega)]
theorem C_layers {n k : Nat} {f o : Nat → Nat} {c : Hp} (hG : Good n k f o) (hC : NetC n k f o c) : Ev (f_X9_layerCount_1 c) (fun r => r.1 = nI (allN f o k) ∧ Sm [4, 5] c r.2 ∧ ∀ i, i < k → r.2.1 4 i = nI (layN f o i)) := by
  have hn := hG.2.1
  have hk24 := hG.2.2.1
  unfold f_X9_layerCount_1
  refine Ev_jn1 (fun h => Sm [4, 5] c h ∧ ∀ x, x < n → h.1 5 x = 0) (fun h0 ⟨hS0, h5⟩ => ?_) (fun kk hk => ?_)
  · refine Ev_jn2 (fun a h => a = nI (allN f o k) ∧ Sm [4, 5] c h ∧ ∀ i, i < k → h.1 4 i = nI (layN f o i)) (fun a h hh => Ev_so hh) (fun kk hk => ?_)
    refine Ev_fx3 (fun j a1 a2 a3 => a2 = nI j ∧ a1 = nI (allN f o j) ∧ Sm [4, 5] c a3 ∧ (∀ i, i < j → a3.1 4 i = nI (layN f o i)) ∧ ∀ x, x < n → a3.1 5 x = nI (freN f o j x)) k ?_ ?_ (FU_lt (by omega)) ⟨rfl, rfl, hS0, fun i hi => absurd hi (by omega), h5⟩
    · rintro self j a1 a2 a3 hj ⟨rfl, rfl, hS, h4, h5⟩ hself
      obtain ⟨g1, g2, g3⟩ := hG.2.2.2 j hj
      have l1 := fre_le (f := f) (o := o) j (f j)
      have l2 := fre_le (f := f) (o := o) j (o j)
      have l3 := lay_le (f := f) (o := o) (i := j)
      have l4 := all_le (f := f) (o := o) j
      have p2 : a3.1 2 j = nI (f j) := by rw [(hS 2 (by decide)).1]; exact (hC.2.2 j hj).1
      have p3 : a3.1 3 j = nI (o j) := by rw [(hS 3 (by decide)).1]; exact (hC.2.2 j hj).2
      unfold L_X9_layerCount_1_27
      rw [(hS 1 (by decide)).1, hC.2.1]
      refine Ev_f (nle_n hj (by omega)) ?_
      simp (disch := omega) only [clN, wI_n, p2, p3, h5 _ g1, h5 _ g2, imax_n]
      have em : max (freN f o j (f j)) (freN f o j (o j)) = layN f o j := rfl
      rw [em]
      refine Ev_ck rfl (by omega) (by omega) (Ev_ck rfl (by omega) (by omega) (Ev_ck rfl (by omega) (by omega) (Ev_ck rfl (by omega) (by omega) (Ev_nm (Ev_ck rfl (by omega) (by omega) (Ev_nm (Ev_ck rfl (by omega) (by omega) ?_)))))))
      simp (disch := omega) only [clN, wI_n, p2, p3]
      refine Ev_ck rfl (by omega) (by omega) (Ev_nm (Ev_ck rfl (by omega) (by omega) ?_))
      simp (disch := omega) only [clN, wI_n, p2, p3]
      refine Ev_ck rfl (by omega) (by omega) (Ev_nm (Ev_nm (hself _ _ _ ⟨nI_add j 1, ?_, ((hS.sI (by decide)).sI (by decide)).sI (by decide), fun i hi => ?_, fun x hx => ?_⟩)))
      · rw [n1, nI_add, imax_n (by omega) (by omega)]; rfl
      · simp (disch := omega) only [wI_n, wI_1, clN]
        by_cases e : i = j
        · rw [e, upd_s]
        · rw [upd_n _ _ e]; exact h4 i (by omega)
      · simp (disch := omega) only [wI_n, wI_1, clN]
        rw [n1, nI_add]
        unfold freN
        by_cases e : x = o j
        · rw [e, upd_s, if_pos (Or.inr rfl)]; rfl
        · rw [upd_n _ _ e]
          by_cases e2 : x = f j
          · rw [e2, upd_s, if_pos (Or.inl rfl)]; rfl
          · rw [upd_n _ _ e2, if_neg (fun z => z.elim e2 e)]; exact h5 x hx
    · rintro self a1 a2 a3 ⟨rfl, rfl, hS, h4, h5⟩
      unfold L_X9_layerCount_1_27
      rw [(hS 1 (by decide)).1, hC.2.1]
      exact Ev_t (Int32.le_refl _) (hk _ _ ⟨rfl, hS, h4⟩)
  · refine Ev_fx2 (fun j a1 a2 => a1 = nI j ∧ Sm [4, 5] c a2 ∧ ∀ x, x < j → a2.1 5 x = 0) n ?_ ?_ (FU_lt (by omega)) ⟨rfl, Sm.rf, fun x hx => absurd hx (by omega)⟩
    · rintro self j a1 a2 hj ⟨rfl, hS, h5⟩ hself
      unfold L_X9_layerCount_1_4
      rw [(hS 1 (by decide)).1, hC.1]
      refine Ev_f (nle_n hj (by omega)) (Ev_ck rfl (by omega) (by omega) (Ev_nm (hself _ _ ⟨nI_add j 1, hS.sI (by decide), fun x hx => ?_⟩)))
      rw [wI_1, clN (by omega)]
      by_cases e : x = j
      · rw [e, upd_s]
      · rw [upd_n _ _ e]; exact h5 x (by omega)
    · rintro self a1 a2 ⟨rfl, hS, h5⟩
      unfold L_X9_layerCount_1_4
      rw [(hS 1 (by decide)).1, hC.1]
      exact Ev_t (Int32.le_refl _) (hk _ ⟨hS, h5⟩)
/-- what a comparator's layer is as the reference finds it -/
def curN (f o : Nat → Nat) (i j : Nat) : Nat := max (freN f o j (f i)) (freN f o j (o i))
theorem cur_t {f o : Nat → Nat} {i j : Nat} (h : f j = f i ∨ f j = o i ∨ o j = f i ∨ o j = o i) : curN f o i (j + 1) = max (curN f o i j) (layN f o j + 1) := by
  unfold curN layN
  rw [fre_s, fre_s]
  have l1 : f i = f j → freN f o j (f i) = freN f o j (f j) := fun e => by rw [e]
  have l2 : f i = o j → freN f o j (f i) = freN f o j (o j) := fun e => by rw [e]
  have l3 : o i = f j → freN f o j (o i) = freN f o j (f j) := fun e => by rw [e]
  have l4 : o i = o j → freN f o j (o i) = freN f o j (o j) := fun e => by rw [e]
  split <;> split <;> omega
theorem cur_f {f o : Nat → Nat} {i j : Nat} (h : ¬ (f j = f i ∨ f j = o i ∨ o j = f i ∨ o j = o i)) : curN f o i (j + 1) = curN f o i j := by
  unfold curN
  have e1 : freN f o (j + 1) (f i) = freN f o j (f i) := by
    show (if _ then _ else _) = _
    rw [if_neg (by omega)]
  have e2 : freN f o (j + 1) (o i) = freN f o j (o i) := by
    show (if _ then _ else _) = _
    rw [if_neg (by omega)]
  rw [e1, e2]
theorem cur_le {f o : Nat → Nat} {i j : Nat} : curN f o i j ≤ j := by
  have h1 := fre_le (f := f) (o := o) j (f i)
  have h2 := fre_le (f := f) (o := o) j (o i)
  unfold curN
  omega
