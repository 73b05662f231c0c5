/-! CASE textAt -/
def keyN (f o : Nat → Nat) (i : Nat) : Nat := 6 * layN f o i + min (f i) (o i)
def rkN (f o : Nat → Nat) (k i : Nat) : Nat := ctB (fun j => decide (keyN f o j < keyN f o i)) k
theorem fre_mono1 {f o : Nat → Nat} {i x : Nat} : freN f o i x ≤ freN f o (i + 1) x := by
  rw [fre_s]
  split
  · rename_i h
    rcases h with rfl | rfl <;> omega
  · exact Nat.le_refl _
theorem fre_mono {f o : Nat → Nat} {i x : Nat} : ∀ d, freN f o i x ≤ freN f o (i + d) x
  | 0 => Nat.le_refl _
  | d + 1 => Nat.le_trans (fre_mono d) fre_mono1
theorem lay_share {f o : Nat → Nat} {i j : Nat} (h : i < j) (hs : f i = f j ∨ f i = o j ∨ o i = f j ∨ o i = o j) : layN f o i < layN f o j := by
  have h1 : ∀ x, x = f i ∨ x = o i → layN f o i + 1 ≤ freN f o j x := fun x hx => by
    have := fre_mono (f := f) (o := o) (i := i + 1) (x := x) (j - (i + 1))
    rw [show i + 1 + (j - (i + 1)) = j by omega, fre_s, if_pos hx] at this
    exact this
  have h2 : freN f o j (f j) ≤ layN f o j := Nat.le_max_left _ _
  have h3 : freN f o j (o j) ≤ layN f o j := Nat.le_max_right _ _
  rcases hs with e | e | e | e
  · have := h1 (f j) (Or.inl e.symm); omega
  · have := h1 (o j) (Or.inl e.symm); omega
  · have := h1 (f j) (Or.inr e.symm); omega
  · have := h1 (o j) (Or.inr e.symm); omega
theorem key_inj {n k : Nat} {f o : Nat → Nat} (hG : Good n k f o) {i j : Nat} (hi : i < k) (hj : j < k) (h : keyN f o i = keyN f o j) : i = j := by
  have hn := hG.2.1
  obtain ⟨a1, a2, a3⟩ := hG.2.2.2 i hi
  obtain ⟨b1, b2, b3⟩ := hG.2.2.2 j hj
  unfold keyN at h
  have hl : layN f o i = layN f o j := by omega
  have hm : min (f i) (o i) = min (f j) (o j) := by omega
  have hs : f i = f j ∨ f i = o j ∨ o i = f j ∨ o i = o j := by omega
  have hs2 : f j = f i ∨ f j = o i ∨ o j = f i ∨ o j = o i := by omega
  by_cases e : i < j
  · have := lay_share e hs; omega
  · by_cases e2 : j < i
    · have := lay_share e2 hs2; omega
    · omega
theorem ct_lt {p q : Nat → Bool} : ∀ {n : Nat}, (∀ r, r < n → p r = true → q r = true) → (∃ r, r < n ∧ q r = true ∧ p r = false) → ctB p n < ctB q n
  | 0, _, h => by obtain ⟨r, hr, _⟩ := h; omega
  | n + 1, h1, h2 => by
    have hle : ∀ m, m ≤ n → ctB p m ≤ ctB q m := by
      intro m
      induction m with
      | zero => intro _; exact Nat.le_refl _
      | succ m ih =>
        intro hm
        have := ih (by omega)
        cases e : p m with
        | true => rw [ct_s1 e, ct_s1 (h1 m (by omega) e)]; omega
        | false =>
          rw [ct_s0 (p := p) (by rw [e]; decide)]
          exact Nat.le_trans this (ct_mono (by omega))
    obtain ⟨r, hr, q1, q2⟩ := h2
    by_cases e : r = n
    · subst e
      rw [ct_s0 (p := p) (by rw [q2]; decide), ct_s1 q1]
      have := hle r (Nat.le_refl _)
      omega
    · have ih := ct_lt (n := n) (fun r hr => h1 r (by omega)) ⟨r, by omega, q1, q2⟩
      cases e : p n with
      | true => rw [ct_s1 e, ct_s1 (h1 n (by omega) e)]; omega
      | false =>
        rw [ct_s0 (p := p) (by rw [e]; decide)]
        exact Nat.lt_of_lt_of_le ih (ct_mono (by omega))
theorem ct_all {p : Nat → Bool} : ∀ {n : Nat}, (∀ r, r < n → p r = true) → ctB p n = n
  | 0, _ => rfl
  | n + 1, h => by rw [ct_s1 (h n (by omega)), ct_all (fun r hr => h r (by omega))]
theorem rk_inj {n k : Nat} {f o : Nat → Nat} (hG : Good n k f o) {i j : Nat} (hi : i < k) (hj : j < k) (h : rkN f o k i = rkN f o k j) : i = j := by
  have key : ∀ a b, a < k → keyN f o a < keyN f o b → rkN f o k a < rkN f o k b := fun a b ha hl =>
    ct_lt (fun r hr h => decide_eq_true (Nat.lt_trans (of_decide_eq_true h) hl)) ⟨a, ha, decide_eq_true hl, decide_eq_false (Nat.lt_irrefl _)⟩
  by_cases e : keyN f o i = keyN f o j
  · exact key_inj hG hi hj e
  · by_cases e2 : keyN f o i < keyN f o j
    · have := key i j hi e2; omega
    · have := key j i hj (by omega); omega
theorem lay_all {f o : Nat → Nat} {k j : Nat} (h : j < k) : layN f o j + 1 ≤ allN f o k := by
  induction k with
  | zero => omega
  | succ k ih =>
    show _ ≤ max (allN f o k) (layN f o k + 1)
    by_cases e : j = k
    · rw [e]; exact Nat.le_max_right _ _
    · exact Nat.le_trans (ih (by omega)) (Nat.le_max_left _ _)
theorem imin_n {a b : Nat} (ha : a < 2 ^ 31) (hb : b < 2 ^ 31) : imin (nI a) (nI b) = nI (min a b) := by
  unfold imin
  by_cases h : b < a
  · rw [if_pos (nI_lt h ha), Nat.min_eq_right (by omega)]
  · rw [if_neg (nI_nlt (by omega) hb), Nat.min_eq_left (by omega)]
theorem C_key {n k i : Nat} {f o : Nat → Nat} {c : Hp} (hG : Good n k f o) (hC : NetC n k f o c) (h4 : ∀ i, i < k → c.1 4 i = nI (layN f o i)) (hi : i < k) : f_X9_placeKey_1 c (nI i) = some (nI (keyN f o i)) := by
  have hn := hG.2.1
  have hk24 := hG.2.2.1
  obtain ⟨g1, g2, g3⟩ := hG.2.2.2 i hi
  refine Ev_eq ?_
  unfold f_X9_placeKey_1
  rw [clN (by omega), h4 i hi, (hC.2.2 i hi).1, (hC.2.2 i hi).2, imin_n (by omega) (by omega), show (6 : Int32) = nI 6 from rfl, nmul, nI_add]
  exact Ev_ck rfl (by omega) (by omega) (Ev_ck rfl (by omega) (by omega) (Ev_ck rfl (by omega) (by omega) (Ev_so rfl)))
theorem key_lt {n k i : Nat} {f o : Nat → Nat} (hG : Good n k f o) (hi : i < k) : keyN f o i < 200 := by
  have hn := hG.2.1
  have hk24 := hG.2.2.1
  obtain ⟨g1, g2, g3⟩ := hG.2.2.2 i hi
  have := lay_le (f := f) (o := o) (i := i)
  unfold keyN
  omega
theorem C_inText {n k a : Nat} {f o : Nat → Nat} {c : Hp} (hG : Good n k f o) (hC : NetC n k f o c) (h4 : ∀ i, i < k → c.1 4 i = nI (layN f o i)) (ha : a < 2 ^ 31) (hex : ∃ i, i < k ∧ rkN f o k i = a) : Ev (f_X9_inTextAt_1 c (nI a)) (fun y => ∃ i, i < k ∧ y = nI i ∧ rkN f o k i = a) := by
  have hn := hG.2.1
  have hk24 := hG.2.2.1
  unfold f_X9_inTextAt_1
  refine Ev_jn0 False (fun h => h.elim) (fun k60 h60 => Ev_jn1 (fun y => ∃ i, i < k ∧ y = nI i ∧ rkN f o k i = a) (fun y hy => Ev_so hy) (fun k52 h52 => ?_))
  refine Ev_fx1 (fun i a1 => a1 = nI i ∧ ∀ j, j < i → rkN f o k j ≠ a) k ?_ ?_ (FU_lt (by omega)) ⟨rfl, fun j hj => absurd hj (by omega)⟩
  · rintro self i a1 hi ⟨rfl, hno⟩ hself
    unfold L_X9_inTextAt_1_2
    rw [hC.2.1]
    refine Ev_f (nle_n hi (by omega)) (Ev_jn1 (fun y => y = nI (rkN f o k i)) (fun y hy => ?_) (fun k47 h47 => ?_))
    · subst hy
      have hr : rkN f o k i ≤ k := ct_le
      refine Ev_i (fun e => h52 _ ⟨i, hi, rfl, (neqI (by omega) (by omega)).mp e⟩) (fun e => hself _ ⟨nI_add i 1, fun j hj => ?_⟩)
      rw [neqI (by omega) (by omega)] at e
      by_cases q : j = i
      · rw [q]; exact e
      · exact hno j (by omega)
    · refine Ev_fx2 (fun j a1 a2 => a2 = nI j ∧ a1 = nI (ctB (fun j => decide (keyN f o j < keyN f o i)) j)) k ?_ ?_ (FU_lt (by omega)) ⟨rfl, rfl⟩
      · rintro self2 j b1 b2 hj ⟨rfl, rfl⟩ hself2
        unfold L_X9_inTextAt_1_15
        rw [hC.2.1]
        have k1 := key_lt hG hi
        have k2 := key_lt hG hj
        refine Ev_f (nle_n hj (by omega)) (Ev_bde (C_key hG hC h4 hj) (Ev_bde (C_key hG hC h4 hi) (Ev_i (fun e => hself2 _ _ ⟨nI_add j 1, ?_⟩) (fun e => hself2 _ _ ⟨nI_add j 1, ?_⟩))))
        · rw [nI_leI (by omega) (by omega)] at e
          exact (ct_f (p := fun j => decide (keyN f o j < keyN f o i)) (by simp; omega)).symm
        · rw [nI_leI (by omega) (by omega)] at e
          exact (ct_t (p := fun j => decide (keyN f o j < keyN f o i)) (decide_eq_true (by omega))).symm
      · rintro self2 b1 b2 ⟨rfl, rfl⟩
        unfold L_X9_inTextAt_1_15
        rw [hC.2.1]
        exact Ev_t (Int32.le_refl _) (h47 _ rfl)
  · rintro self a1 ⟨rfl, hno⟩
    obtain ⟨i, hi, e⟩ := hex
    exact absurd e (hno i hi)
def cntN (f o : Nat → Nat) (k v : Nat) : Nat := ctB (fun j => decide (keyN f o j < v)) k
def eqN (f o : Nat → Nat) (v a : Nat) : Nat := ctB (fun j => decide (keyN f o j = v)) a
theorem cnt_s {f o : Nat → Nat} {v : Nat} : ∀ k, cntN f o k (v + 1) = cntN f o k v + eqN f o v k
  | 0 => rfl
  | k + 1 => by
    have ih := cnt_s (f := f) (o := o) (v := v) k
    unfold cntN eqN at ih ⊢
    by_cases e : keyN f o k = v
    · rw [ct_s1 (p := fun j => decide (keyN f o j < v + 1)) (decide_eq_true (by omega)), ct_s0 (p := fun j => decide (keyN f o j < v)) (by simp; omega), ct_s1 (p := fun j => decide (keyN f o j = v)) (decide_eq_true e)]
      omega
    · by_cases e2 : keyN f o k < v
      · rw [ct_s1 (p := fun j => decide (keyN f o j < v + 1)) (decide_eq_true (by omega)), ct_s1 (p := fun j => decide (keyN f o j < v)) (decide_eq_true e2), ct_s0 (p := fun j => decide (keyN f o j = v)) (by simp; omega)]
        omega
      · rw [ct_s0 (p := fun j => decide (keyN f o j < v + 1)) (by simp; omega), ct_s0 (p := fun j => decide (keyN f o j < v)) (by simp; omega), ct_s0 (p := fun j => decide (keyN f o j = v)) (by simp; omega)]
        omega
def WrI (k : Nat) (f o : Nat → Nat) (q : Nat) (h : Hp) : Prop := ∀ p, p < q → ∃ i, i < k ∧ h.1 7 p = nI i ∧ rkN f o k i = p
def txA (n k : Nat) (f o : Nat → Nat) (p : Nat) (y : Int32) : Prop := (p + 1 < 4 * k → ∃ i, i < k ∧ rkN f o k i = p / 4 ∧ (p % 4 = 0 → y = nI (48 + f i)) ∧ (p % 4 = 1 → y = 58) ∧ (p % 4 = 2 → y = nI (48 + o i)) ∧ (p % 4 = 3 → ∃ j, j < k ∧ rkN f o k j = p / 4 + 1 ∧ y = if layN f o i = layN f o j then 32 else 47)) ∧ (4 * k ≤ p + 1 → y = 32)
theorem txA.uniq {n k p : Nat} {f o : Nat → Nat} {y z : Int32} (hG : Good n k f o) (h1 : txA n k f o p y) (h2 : txA n k f o p z) : y = z := by
  by_cases hp : p + 1 < 4 * k
  · obtain ⟨i, hi, ei, a0, a1, a2, a3⟩ := h1.1 hp
    obtain ⟨j, hj, ej, b0, b1, b2, b3⟩ := h2.1 hp
    have e : i = j := rk_inj hG hi hj (by omega)
    subst e
    have : p % 4 = 0 ∨ p % 4 = 1 ∨ p % 4 = 2 ∨ p % 4 = 3 := by omega
    rcases this with q | q | q | q
    · rw [a0 q, b0 q]
    · rw [a1 q, b1 q]
    · rw [a2 q, b2 q]
    · obtain ⟨u, hu, eu, rfl⟩ := a3 q
      obtain ⟨v, hv, ev, rfl⟩ := b3 q
      have e : u = v := rk_inj hG hu hv (by omega)
      rw [e]
  · rw [h1.2 (by omega), h2.2 (by omega)]
def Ckc (r : Int32) : Prop := ckc r (some (0 : Int32)) = some 0
theorem c48 {q : Nat} (h : q < 6) : i2c ((48 : Int32) + nI q) = nI (48 + q) ∧ Ckc (nI (48 + q)) := by
  have := ch_c (48 + q) (by omega)
  rw [show (48 : Int32) = nI 48 from rfl, nI_add]
  exact ⟨this.1, ch_ck _ (by omega)⟩
theorem Ev_ckc {β : Type} {r : Int32} {k : Option β} {P : β → Prop} (hr : Ckc r) (h : Ev k P) : Ev (ckc r k) P := by rw [ckc_t2 hr]; exact h
theorem Ck32 : Ckc 32 := ch_ck 32 (by omega)
theorem Ck47 : Ckc 47 := ch_ck 47 (by omega)
theorem Ck58 : Ckc 58 := ch_ck 58 (by omega)
theorem Ck0 : Ckc 0 := ch_ck 0 (by omega)
theorem tx_m4 {p j : Nat} (hj : j < 4) : (irm (nI p) (4 : Int32) = nI j) = (p % 4 = j) ∨ ¬ p < 2 ^ 31 := by
  by_cases h : p < 2 ^ 31
  · left
    rw [n4, irmN h (by omega) (by omega)]
    exact nI_iff (by omega) (by omega)
  · exact Or.inr h
theorem WrI.ex {k : Nat} {f o : Nat → Nat} {h : Hp} (hW : WrI k f o k h) {a : Nat} (ha : a < k) : ∃ i, i < k ∧ rkN f o k i = a := by
  obtain ⟨i, hi, _, e⟩ := hW a ha
  exact ⟨i, hi, e⟩
theorem C_signAt {n k p : Nat} {f o : Nat → Nat} {c : Hp} (hG : Good n k f o) (hC : NetC n k f o c) (hp : p < 2 ^ 31) (hex : ∀ a, a < k → ∃ i, i < k ∧ rkN f o k i = a) : Ev (f_X9_signAt_1 c (nI p)) (fun r => txA n k f o p r.1 ∧ Ckc r.1 ∧ Sm [4, 5] c r.2) := by
  have hn := hG.2.1
  have hk24 := hG.2.2.1
  have m4 : ∀ j, j < 4 → (irm (nI p) (4 : Int32) = nI j) = (p % 4 = j) := fun j hj => (tx_m4 hj).resolve_right (fun z => z hp)
  unfold f_X9_signAt_1
  refine Ev_bd (fun r => r = nI (if k = 0 then 0 else 4 * k - 1)) ?_ (fun r hr => ?_)
  · unfold f_X9_textLength_1
    rw [hC.2.1, show (0 : Int32) = nI 0 from rfl]
    simp only [nI_iff (show k < 2 ^ 31 by omega) (show 0 < 2 ^ 31 by omega)]
    refine Ev_i (fun h => Ev_so (by rw [if_pos h])) (fun h => Ev_so ?_)
    rw [if_neg h, n4, nmul, n1, nsub (by omega)]
  · subst hr
    have hlen : (if k = 0 then 0 else 4 * k - 1) < 2 ^ 31 := by split <;> omega
    refine Ev_i (fun e => ?_) (fun e => ?_)
    · rw [nI_ltI hp hlen] at e
      have hp4 : p + 1 < 4 * k := by
        revert e
        split <;> omega
      refine Ev_bd _ (C_layers hG hC) (fun r ⟨_, hS, h4⟩ => ?_)
      have hN := Sm.nC hC hS (by decide) (by decide) (by decide)
      have hdiv : nI p / (4 : Int32) = nI (p / 4) := ndiv (b := 4) hp (by omega) (by omega)
      rw [hdiv]
      refine Ev_bd _ (C_inText hG hN h4 (by omega) (hex (p / 4) (by omega))) (fun y hy => ?_)
      obtain ⟨i, hi, rfl, hrk⟩ := hy
      obtain ⟨g1, g2, g3⟩ := hG.2.2.2 i hi
      rw [clN (by omega), (hN.2.2 i hi).1, (hN.2.2 i hi).2, h4 i hi, n0, n1, n2]
      simp only [m4 0 (by omega), m4 1 (by omega), m4 2 (by omega)]
      have no2 : 4 * k ≤ p + 1 → False := fun z => by omega
      refine Ev_i (fun q => Ev_ck rfl (by omega) (by omega) ?_) (fun q0 => Ev_i (fun q => Ev_ckc Ck58 (Ev_so ⟨⟨fun _ => ⟨i, hi, hrk, fun z => absurd z q0, fun _ => rfl, fun z => absurd z (by omega), fun z => absurd z (by omega)⟩, fun z => (no2 z).elim⟩, Ck58, hS⟩)) (fun q1 => Ev_i (fun q => Ev_ck rfl (by omega) (by omega) ?_) (fun q2 => Ev_ck rfl (by omega) (by omega) ?_)))
      · have hc := c48 (show f i < 6 by omega)
        rw [hc.1]
        exact Ev_ckc hc.2 (Ev_so ⟨⟨fun _ => ⟨i, hi, hrk, fun _ => rfl, fun z => absurd z (by omega), fun z => absurd z (by omega), fun z => absurd z (by omega)⟩, fun z => (no2 z).elim⟩, hc.2, hS⟩)
      · have hc := c48 (show o i < 6 by omega)
        rw [hc.1]
        exact Ev_ckc hc.2 (Ev_so ⟨⟨fun _ => ⟨i, hi, hrk, fun z => absurd z (by omega), fun z => absurd z (by omega), fun _ => rfl, fun z => absurd z (by omega)⟩, fun z => (no2 z).elim⟩, hc.2, hS⟩)
      · rw [nI_add]
        refine Ev_bd _ (C_inText hG hN h4 (by omega) (hex (p / 4 + 1) (by omega))) (fun y hy => ?_)
        obtain ⟨j, hj, rfl, hrk2⟩ := hy
        have l1 := lay_le (f := f) (o := o) (i := i)
        have l2 := lay_le (f := f) (o := o) (i := j)
        rw [clN (by omega), h4 j hj]
        refine Ev_ck rfl (by omega) (by omega) (Ev_i (fun e2 => Ev_ckc Ck32 (Ev_so ⟨⟨fun _ => ⟨i, hi, hrk, fun z => absurd z (by omega), fun z => absurd z (by omega), fun z => absurd z (by omega), fun _ => ⟨j, hj, hrk2, ?_⟩⟩, fun z => (no2 z).elim⟩, Ck32, hS⟩)) (fun e2 => Ev_ckc Ck47 (Ev_so ⟨⟨fun _ => ⟨i, hi, hrk, fun z => absurd z (by omega), fun z => absurd z (by omega), fun z => absurd z (by omega), fun _ => ⟨j, hj, hrk2, ?_⟩⟩, fun z => (no2 z).elim⟩, Ck47, hS⟩)))
        · rw [neqI (by omega) (by omega)] at e2
          rw [if_pos e2]
        · rw [neqI (by omega) (by omega)] at e2
          rw [if_neg e2]
    · rw [nI_ltI hp hlen] at e
      refine Ev_ckc Ck32 (Ev_so ⟨⟨fun z => absurd z ?_, fun _ => rfl⟩, Ck32, Sm.rf⟩)
      revert e
      split <;> omega
