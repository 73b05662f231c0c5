/-! P43: the law's rows, held against the class -/
theorem pI_or (p : Prop) : pI p = 0 ∨ pI p = 1 := by
  rcases Classical.em p with h | h
  · exact Or.inr (pI_t h)
  · exact Or.inl (pI_f h)
theorem up_G {q a b : Nat} (hb : b ≤ 5) : upB q a b = !unsG a (b - 1 - a) (bR q) := by
  cases e : unsG a (b - 1 - a) (bR q) with
  | false =>
    show upB q a b = true
    rw [up_iff hb]
    intro x h1 h2 h3
    unfold unsG at e
    rw [List.any_eq_false] at e
    have := e (x - a) (List.mem_range.mpr (by omega))
    rw [show a + (x - a) = x by omega] at this
    have h3 : bR q x = true := h3
    rw [h3] at this
    cases e2 : bR q (x + 1) with
    | true => exact e2
    | false => rw [e2] at this; exact absurd rfl this
  | true =>
    show upB q a b = false
    unfold unsG at e
    rw [List.any_eq_true] at e
    obtain ⟨x, hx, h⟩ := e
    have hx := List.mem_range.mp hx
    rw [Bool.and_eq_true, Bool.not_eq_true'] at h
    apply Bool.eq_false_iff.mpr
    intro z
    rw [up_iff hb] at z
    have := z (a + x) (by omega) (by omega) h.1
    have h2 : q.testBit (a + x + 1) = false := h.2
    rw [h2] at this
    cases this
theorem iv0 : ∀ n, n < 6 → ∀ r, r < facN n → (ivK n (rowT n r) (n * n) = 0 ↔ r = 0) := by decide +kernel
theorem iv_num {n : Nat} {v : Nat → Nat} (hn : n ≤ 5) (hv : PermN n v) : ivK n v (n * n) = 0 ↔ num n v = 0 := by
  rw [← iv0 n (by omega) (num n v) (num_lt' (by omega) hv), ivK_congr (fun x hx => num_row (by omega) hv hx)]
theorem ch_all {n w : Nat} {v : Nat → Nat} (hn : n ≤ 6) (hv : PermN n v) : (∀ x, x < w → x < n → v x < w) ↔ ∀ x, x < n → (v x < w ↔ x < w) := by
  constructor
  · intro h x hx
    refine ⟨fun z => Classical.byContradiction (fun z2 => ?_), fun z => h x z hx⟩
    have h1 := ct_perm (p := fun y => decide (y < w)) hn hv
    have h2 := ct_lt (p := fun x => decide (x < w)) (q := fun x => decide (v x < w)) (n := n) (fun r hr hp => decide_eq_true (h r (of_decide_eq_true hp) hr)) ⟨x, hx, decide_eq_true z, decide_eq_false z2⟩
    omega
  · intro h x hx hxn
    exact (h x hxn).mpr hx
def dvG (v : Nat → Nat) (w : Nat) : Nat := if w ≤ v w then v w - w else w - v w
theorem r_256 {n w M : Nat} {v : Nat → Nat} {a8 : Int64} {a10 a11 a12 a14 a15 : Int32} {C : Prop} {r4 : Row} {P : Int32 × Hp → Prop} {k358 : Int32 → Int32 → Option (Int32 × Hp)} {a16 a17 : Int32} (h5 : n ≤ 5) (hw : w < 2 ^ 20) (hM : M ≤ 5) (hr : RwN n r4 v) (hv : ∀ x, x < n → v x < n) (h16 : a16 = nI M) (h17 : a17 = pI C) (hk : Ev (k358 (nI (max M (dvN n v))) (pI (C ∧ ∀ x, x < n → (v x < w ↔ x < w)))) P) : Ev (fx3 (L_L_rows_256 (nI n) a8 a10 a11 a12 (nI w) a14 a15 r4 k358) FU a16 a17 (0 : Int32)) P := by
  have hD : ∀ x, x < n → dvG v x ≤ 5 := fun x hx => by
    have := hv x hx
    unfold dvG
    split <;> omega
  refine Ev_fx3 (fun i a16 a17 a19 => a19 = nI i ∧ a16 = nI (max M (maxN (dvG v) i)) ∧ a17 = pI (C ∧ ∀ x, x < i → (v x < w ↔ x < w))) n ?_ ?_ (FU_lt (by omega)) ⟨rfl, ?_, ?_⟩
  · rintro self i a16 a17 a19 hi ⟨rfl, h16, h17⟩ hself
    have hvi := hv i hi
    have hMi : maxN (dvG v) i ≤ 5 := maxN_le (fun j hj => hD j (by omega))
    have hDi := hD i hi
    have hmax : max M (maxN (dvG v) i) ≤ 5 := by omega
    have hstep : maxN (dvG v) (i + 1) = max (maxN (dvG v) i) (dvG v i) := rfl
    unfold L_L_rows_256
    rw [clN (by omega), hr i hi]
    refine Ev_f (nle_n hi (by omega)) (Ev_ck rfl (by omega) (by omega) (Ev_jn1 (fun z => z = nI (dvG v i)) (fun z48 h48 => ?_) (fun kk hk => ?_)))
    · subst h48
      refine Ev_jn1 (fun z => z = nI (max M (maxN (dvG v) (i + 1)))) (fun z49 h49 => ?_) (fun kk hk => ?_)
      · subst h49
        by_cases hp : C ∧ ∀ x, x < i → (v x < w ↔ x < w)
        · rw [pI_t hp] at h17
          subst h17
          refine Ev_f (by decide) (Ev_ck rfl (by omega) (by omega) (Ev_jn1 (fun z => z = if w ≤ v i then (0 : Int32) else 1) (fun z50 h50 => ?_) (fun kk hk => ?_)))
          · refine Ev_jn1 (fun z => z = if w ≤ i then (0 : Int32) else 1) (fun z51 h51 => ?_) (fun kk hk => ?_)
            · have hiff : z50 = z51 ↔ (v i < w ↔ i < w) := by
                rw [h50, h51]
                by_cases e1 : w ≤ v i
                · by_cases e2 : w ≤ i
                  · rw [if_pos e1, if_pos e2]; exact ⟨fun _ => by omega, fun _ => rfl⟩
                  · rw [if_pos e1, if_neg e2]; exact ⟨fun z => absurd z (by decide), fun z => by omega⟩
                · by_cases e2 : w ≤ i
                  · rw [if_neg e1, if_pos e2]; exact ⟨fun z => absurd z (by decide), fun z => by omega⟩
                  · rw [if_neg e1, if_neg e2]; exact ⟨fun _ => by omega, fun _ => rfl⟩
              refine Ev_i (fun e => hself _ _ _ ⟨nI_add i 1, rfl, ?_⟩) (fun e => hself _ _ _ ⟨nI_add i 1, rfl, ?_⟩)
              · rw [hiff] at e
                refine (pI_t ⟨hp.1, fun x hx => ?_⟩).symm
                by_cases q : x = i
                · rw [q]; exact e
                · exact hp.2 x (by omega)
              · rw [hiff] at e
                exact (pI_f (fun z => e (z.2 i (by omega)))).symm
            · refine Ev_i (fun e => hk _ ?_) (fun e => hk _ ?_)
              · rw [nI_leI (by omega) (by omega)] at e
                rw [if_pos e]
              · rw [nI_leI (by omega) (by omega)] at e
                rw [if_neg e]
          · refine Ev_i (fun e => hk _ ?_) (fun e => hk _ ?_)
            · rw [nI_leI (by omega) (by omega)] at e
              rw [if_pos e]
            · rw [nI_leI (by omega) (by omega)] at e
              rw [if_neg e]
        · rw [pI_f hp] at h17
          subst h17
          exact Ev_t rfl (hself _ _ _ ⟨nI_add i 1, rfl, (pI_f (fun z => hp ⟨z.1, fun x hx => z.2 x (by omega)⟩)).symm⟩)
      · subst h16
        refine Ev_i (fun e => hk _ ?_) (fun e => hk _ ?_)
        · rw [nI_leI (by omega) (by omega)] at e
          rw [hstep, show max M (max (maxN (dvG v) i) (dvG v i)) = max M (maxN (dvG v) i) by omega]
        · rw [nI_leI (by omega) (by omega)] at e
          rw [hstep, show max M (max (maxN (dvG v) i) (dvG v i)) = dvG v i by omega]
    · refine Ev_i (fun e => Ev_ck rfl (by omega) (by omega) (hk _ ?_)) (fun e => Ev_ck rfl (by omega) (by omega) (hk _ ?_))
      · rw [nI_leI (by omega) (by omega)] at e
        rw [nsub e]
        unfold dvG
        split
        · rw [show v i = i by omega]
        · rfl
      · rw [nI_leI (by omega) (by omega)] at e
        rw [nsub (by omega)]
        unfold dvG
        rw [if_pos (by omega)]
  · rintro self a16 a17 a19 ⟨rfl, h16, h17⟩
    unfold L_L_rows_256
    refine Ev_t (Int32.le_refl _) ?_
    rw [h16, h17]
    exact hk
  · rw [h16]
    show nI M = nI (max M 0)
    rw [Nat.max_eq_left (Nat.zero_le _)]
  · rw [h17]
    exact pI_same ⟨fun z => ⟨z, fun x hx => absurd hx (by omega)⟩, fun z => z.1⟩
