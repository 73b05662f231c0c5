/-! CASES token, cameAnew -/
theorem balN_le {f o : Nat → Nat} {v : Nat → Nat} {t : Nat} (h : ∀ x, v x ≤ t) : ∀ k x, balN f o k v x ≤ t
  | 0, x => h x
  | k + 1, x => by
    have h1 := balN_le (f := f) h k (f k) (o := o)
    have h2 := balN_le (f := f) h k (o k) (o := o)
    have h3 := balN_le (f := f) h k x (o := o)
    show halfN (f k) (o k) (balN f o k v) x ≤ t
    unfold halfN
    split
    · omega
    · split <;> omega
def addN (v : Nat → Nat) (x : Nat) : Nat → Nat := fun y => v y + if y = x then 1 else 0
/-- where a token stands behind so many comparators -/
def posN (f o v : Nat → Nat) (x : Nat) : Nat → Nat
  | 0 => x
  | i + 1 => if posN f o v x i = f i ∨ posN f o v x i = o i then (if (balN f o i v (f i) + balN f o i v (o i)) % 2 = 1 then o i else f i) else posN f o v x i
theorem bal_aux {a b p y A B Y : Nat} (hne : a ≠ b) : (if y = a then ((A + if a = p then 1 else 0) + (B + if b = p then 1 else 0) + 1) / 2 else if y = b then ((A + if a = p then 1 else 0) + (B + if b = p then 1 else 0)) / 2 else Y + if y = p then 1 else 0) = (if y = a then (A + B + 1) / 2 else if y = b then (A + B) / 2 else Y) + if y = (if p = a ∨ p = b then (if (A + B) % 2 = 1 then b else a) else p) then 1 else 0 := by
  have hq : ∀ z : Nat, z = (if p = a ∨ p = b then (if (A + B) % 2 = 1 then b else a) else p) → (if y = a then ((A + if a = p then 1 else 0) + (B + if b = p then 1 else 0) + 1) / 2 else if y = b then ((A + if a = p then 1 else 0) + (B + if b = p then 1 else 0)) / 2 else Y + if y = p then 1 else 0) = (if y = a then (A + B + 1) / 2 else if y = b then (A + B) / 2 else Y) + if y = z then 1 else 0 := by
    intro z hz
    have hz2 : ((p = a ∨ p = b) ∧ (A + B) % 2 = 1 ∧ z = b) ∨ ((p = a ∨ p = b) ∧ (A + B) % 2 = 0 ∧ z = a) ∨ (¬ (p = a ∨ p = b) ∧ z = p) := by
      by_cases h1 : p = a ∨ p = b
      · rw [if_pos h1] at hz
        by_cases h2 : (A + B) % 2 = 1
        · rw [if_pos h2] at hz; exact Or.inl ⟨h1, h2, hz⟩
        · rw [if_neg h2] at hz; exact Or.inr (Or.inl ⟨h1, by omega, hz⟩)
      · rw [if_neg h1] at hz; exact Or.inr (Or.inr ⟨h1, hz⟩)
    clear hz
    repeat' split
    all_goals omega
  exact hq _ rfl
theorem bal_add {f o v : Nat → Nat} {x k : Nat} (hd : ∀ i, i < k → f i ≠ o i) : ∀ i, i ≤ k → ∀ y, balN f o i (addN v x) y = balN f o i v y + if y = posN f o v x i then 1 else 0
  | 0, _, y => rfl
  | i + 1, hi, y => by
    have ih := bal_add (v := v) (x := x) hd i (by omega)
    have hne := hd i (by omega)
    show halfN (f i) (o i) (balN f o i (addN v x)) y = halfN (f i) (o i) (balN f o i v) y + if y = (if posN f o v x i = f i ∨ posN f o v x i = o i then (if (balN f o i v (f i) + balN f o i v (o i)) % 2 = 1 then o i else f i) else posN f o v x i) then 1 else 0
    unfold halfN
    rw [ih, ih, ih]
    exact bal_aux hne
theorem pos_lt {f o v : Nat → Nat} {x n k : Nat} (hx : x < n) (hf : ∀ i, i < k → f i < n ∧ o i < n) : ∀ i, i ≤ k → posN f o v x i < n
  | 0, _ => hx
  | i + 1, hi => by
    have ih := pos_lt (v := v) hx hf i (by omega)
    have := hf i (by omega)
    show (if _ then _ else _) < n
    split
    · split <;> omega
    · exact ih
/-- the toggle of a comparator -/
def togN (f o v : Nat → Nat) (i : Nat) : Int32 := if (balN f o i v (f i) + balN f o i v (o i)) % 2 = 1 then 1 else 0
theorem tog_aux {a b p A B : Nat} (hne : a ≠ b) : ((p = a ∨ p = b) → ((A + (if a = p then 1 else 0) + (B + if b = p then 1 else 0)) % 2 = 1 ↔ ¬ (A + B) % 2 = 1)) ∧ (¬ (p = a ∨ p = b) → ((A + (if a = p then 1 else 0) + (B + if b = p then 1 else 0)) % 2 = 1 ↔ (A + B) % 2 = 1)) := by
  constructor
  · intro h
    by_cases e1 : a = p
    · rw [if_pos e1, if_neg (by omega)]; omega
    · rw [if_neg e1, if_pos (by omega)]; omega
  · intro h
    rw [if_neg (by omega), if_neg (by omega)]; omega
theorem tog_flip {f o v : Nat → Nat} {x k i : Nat} (hd : ∀ i, i < k → f i ≠ o i) (hi : i < k) (hp : posN f o v x i = f i ∨ posN f o v x i = o i) : togN f o (addN v x) i = if togN f o v i = 0 then 1 else 0 := by
  have hne := hd i hi
  unfold togN
  rw [bal_add hd i (by omega), bal_add hd i (by omega)]
  have q := (tog_aux (A := balN f o i v (f i)) (B := balN f o i v (o i)) hne).1 hp
  by_cases h : (balN f o i v (f i) + balN f o i v (o i)) % 2 = 1
  · rw [if_neg (fun z => q.mp z h), if_pos h]; rfl
  · rw [if_pos (q.mpr h), if_neg h]; rfl
theorem tog_keep {f o v : Nat → Nat} {x k i : Nat} (hd : ∀ i, i < k → f i ≠ o i) (hi : i < k) (hp : ¬ (posN f o v x i = f i ∨ posN f o v x i = o i)) : togN f o (addN v x) i = togN f o v i := by
  unfold togN
  rw [bal_add hd i (by omega), bal_add hd i (by omega)]
  have q := (tog_aux (A := balN f o i v (f i)) (B := balN f o i v (o i)) (hd i hi)).2 hp
  by_cases h : (balN f o i v (f i) + balN f o i v (o i)) % 2 = 1
  · rw [if_pos (q.mpr h), if_pos h]
  · rw [if_neg (fun z => h (q.mp z)), if_neg h]
theorem pos_next {f o v : Nat → Nat} {x i : Nat} : posN f o v x (i + 1) = if posN f o v x i = f i ∨ posN f o v x i = o i then (if togN f o v i = 0 then f i else o i) else posN f o v x i := by
  show (if _ then (if _ then _ else _) else _) = _
  unfold togN
  by_cases h : posN f o v x i = f i ∨ posN f o v x i = o i
  · rw [if_pos h, if_pos h]
    by_cases h2 : (balN f o i v (f i) + balN f o i v (o i)) % 2 = 1
    · rw [if_pos h2, if_pos h2, if_neg (by decide)]
    · rw [if_neg h2, if_neg h2, if_pos rfl]
  · rw [if_neg h, if_neg h]
theorem nI_iff {a b : Nat} (ha : a < 2 ^ 31) (hb : b < 2 ^ 31) : (nI a = nI b) = (a = b) := propext (neqI ha hb)
theorem C_letIn {n k t x : Nat} {f o v : Nat → Nat} {c : Hp} (hG : Good n k f o) (hC : NetC n k f o c) (hx : x < n) (ht : t ≤ 1000) (hv : ∀ y, v y ≤ t) (h4 : c.1 23 4 = nI t) (h5 : ∀ y, y < 6 → c.1 24 y = nI (v y) ∧ c.1 25 y = nI (balN f o k v y)) (h6 : ∀ i, i < k → c.1 27 i = togN f o v i) : Ev (f_X1_letIn_23_1 c (nI x)) (fun r => r.1 = nI (posN f o v x k) ∧ Sm [23, 24, 25, 27] c r.2 ∧ (∀ y, y < 6 → r.2.1 24 y = nI (addN v x y) ∧ r.2.1 25 y = nI (balN f o k (addN v x) y)) ∧ r.2.1 23 4 = nI (t + 1) ∧ ∀ i, i < 24 → r.2.1 27 i = if i < k then togN f o (addN v x) i else c.1 27 i) := by
  have hn := hG.2.1
  have hk24 := hG.2.2.1
  have hd : ∀ i, i < k → f i ≠ o i := fun i hi => (hG.2.2.2 i hi).2.2
  have hf : ∀ i, i < k → f i < n ∧ o i < n := fun i hi => ⟨(hG.2.2.2 i hi).1, (hG.2.2.2 i hi).2.1⟩
  unfold f_X1_letIn_23_1
  refine Ev_jn2 (fun a h => a = nI (posN f o v x k) ∧ Sm [27] c h ∧ ∀ i, i < 24 → h.1 27 i = if i < k then togN f o (addN v x) i else c.1 27 i) (fun a h ⟨e1, hS, hT⟩ => ?_) (fun kk hk => ?_)
  · subst e1
    have hp := pos_lt (v := v) hx hf k (Nat.le_refl k)
    have e24 : h.1 24 = c.1 24 := (hS 24 (by decide)).1
    have e25 : h.1 25 = c.1 25 := (hS 25 (by decide)).1
    have e23 : h.1 23 = c.1 23 := (hS 23 (by decide)).1
    refine Ev_ck rfl (by omega) (by omega) (Ev_ck rfl (by omega) (by omega) (Ev_nm (Ev_ck rfl (by omega) (by omega) (Ev_ck rfl (by omega) (by omega) (Ev_nm (Ev_nm (Ev_so ⟨rfl, (((hS.mono (by decide)).sI (by decide)).sI (by decide)).sF (by decide), fun y hy => ?_, ?_, fun i hi => ?_⟩)))))))
    · have q := h5 y hy
      have q2 := h5 x (by omega)
      have q3 := h5 (posN f o v x k) (by omega)
      simp (disch := omega) only [wF_n, wI_1, wI_n, clN, e24, e25]
      rw [q2.1, q3.2, n1, nI_add, nI_add]
      have hb := bal_add (v := v) (x := x) hd k (Nat.le_refl k) y
      constructor
      · unfold addN
        by_cases e : y = x
        · subst e; rw [upd_s, if_pos rfl]
        · rw [upd_n _ _ e, if_neg e]; exact q.1
      · rw [hb]
        by_cases e : y = posN f o v x k
        · rw [← e, upd_s, if_pos rfl]
        · rw [upd_n _ _ e, if_neg e]; exact q.2
    · rw [wF_1, upd_s]
      simp (disch := omega) only [wI_n]
      rw [e23, h4]
      exact nI_add t 1
    · simp (disch := omega) only [wF_n, wI_n]
      exact hT i hi
  · refine Ev_fx3 (fun j a3 a4 h => a3 = nI (posN f o v x j) ∧ a4 = nI j ∧ Sm [27] c h ∧ ∀ i, i < 24 → h.1 27 i = if i < j then togN f o (addN v x) i else c.1 27 i) k ?_ ?_ (FU_lt (by omega)) ⟨rfl, rfl, Sm.rf, fun i hi => by rw [if_neg (by omega)]⟩
    · rintro self j a3 a4 h hj ⟨rfl, rfl, hS, hT⟩ hself
      have hp := pos_lt (v := v) hx hf j (by omega)
      have hfj := hf j hj
      unfold L_X1_letIn_23_1_5
      have e1 : h.1 1 1 = nI k := by rw [(hS 1 (by decide)).1]; exact hC.2.1
      have e2 : h.1 2 (nI j).toNatClampNeg = nI (f j) := by rw [clN (by omega), (hS 2 (by decide)).1]; exact (hC.2.2 j hj).1
      have e3 : h.1 3 (nI j).toNatClampNeg = nI (o j) := by rw [clN (by omega), (hS 3 (by decide)).1]; exact (hC.2.2 j hj).2
      have e27 : h.1 27 (nI j).toNatClampNeg = togN f o v j := by rw [clN (by omega), hT j (by omega), if_neg (by omega)]; exact h6 j hj
      rw [e1, e2, e3, e27]
      refine Ev_f (nle_n hj (by omega)) (Ev_ck rfl (by omega) (by omega) ?_)
      refine Ev_jn0 (posN f o v x j = f j ∨ posN f o v x j = o j) (fun hq => ?_) (fun kq hkq => ?_)
      · have hn1 := pos_next (f := f) (o := o) (v := v) (x := x) (i := j)
        rw [if_pos hq] at hn1
        have hfl := tog_flip (v := v) (x := x) hd hj hq
        refine Ev_ck rfl (by omega) (by omega) (Ev_jn1 (fun z => z = nI (posN f o v x (j + 1))) (fun z hz => ?_) (fun k63 h63 => ?_))
        · subst hz
          refine Ev_ck rfl (by omega) (by omega) (Ev_i (fun h0 => Ev_ck rfl (by omega) (by omega) (Ev_nm (hself _ _ _ ⟨rfl, nI_add j 1, hS.sZ (by decide), fun i hi => ?_⟩))) (fun h0 => Ev_ck rfl (by omega) (by omega) (Ev_nm (hself _ _ _ ⟨rfl, nI_add j 1, hS.sZ (by decide), fun i hi => ?_⟩))))
          · rw [wZ_1, clN (by omega), nar1]
            by_cases e : i = j
            · subst e; rw [upd_s, if_pos (by omega), hfl, if_pos h0]
            · rw [upd_n _ _ e, hT i hi]
              by_cases e4 : i < j
              · rw [if_pos e4, if_pos (by omega)]
              · rw [if_neg e4, if_neg (by omega)]
          · rw [wZ_1, clN (by omega), nar0]
            by_cases e : i = j
            · subst e; rw [upd_s, if_pos (by omega), hfl, if_neg h0]
            · rw [upd_n _ _ e, hT i hi]
              by_cases e4 : i < j
              · rw [if_pos e4, if_pos (by omega)]
              · rw [if_neg e4, if_neg (by omega)]
        · refine Ev_i (fun h0 => Ev_ck rfl (by omega) (by omega) (h63 _ ?_)) (fun h0 => Ev_ck rfl (by omega) (by omega) (h63 _ ?_))
          · rw [hn1, if_pos h0]
          · rw [hn1, if_neg h0]
      · refine Ev_i (fun h1 => hkq (Or.inl ((neqI (by omega) (by omega)).mp h1))) (fun h1 => Ev_ck rfl (by omega) (by omega) ?_)
        refine Ev_i (fun h2 => hkq (Or.inr ((neqI (by omega) (by omega)).mp h2))) (fun h2 => ?_)
        rw [neqI (by omega) (by omega)] at h1 h2
        have hq : ¬ (posN f o v x j = f j ∨ posN f o v x j = o j) := fun q => q.elim h1 h2
        have hn1 := pos_next (f := f) (o := o) (v := v) (x := x) (i := j)
        rw [if_neg hq] at hn1
        refine hself _ _ _ ⟨by rw [hn1], nI_add j 1, hS, fun i hi => ?_⟩
        rw [hT i hi]
        by_cases e : i = j
        · subst e; rw [if_neg (by omega), if_pos (by omega), tog_keep hd hj hq]; exact h6 i hj
        · by_cases e4 : i < j
          · rw [if_pos e4, if_pos (by omega)]
          · rw [if_neg e4, if_neg (by omega)]
    · rintro self a3 a4 h ⟨rfl, rfl, hS, hT⟩
      unfold L_X1_letIn_23_1_5
      have e1 : h.1 1 1 = nI k := by rw [(hS 1 (by decide)).1]; exact hC.2.1
      exact Ev_t (by rw [e1]; exact Int32.le_refl _) (hk _ _ ⟨rfl, hS, hT⟩)
