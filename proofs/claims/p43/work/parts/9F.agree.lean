/-! P43: rows that agree with what was told -/
def AdR (z : Int64) (ra : Row) : Prop := ∀ j, j < 36 → ra j = if bt64 z (6 * (j % 6) + j / 6) = true then 1 else 0
def agB (z : Int64) (v : Nat → Nat) (j : Nat) : Bool := (List.range j).all (fun k => !bt64 z (6 * (k % 6) + k / 6) || decide (v (k / 6) < v (k % 6)))
theorem agB_s {z : Int64} {v : Nat → Nat} {j : Nat} : agB z v (j + 1) = (agB z v j && (!bt64 z (6 * (j % 6) + j / 6) || decide (v (j / 6) < v (j % 6)))) := by
  unfold agB
  rw [List.range_succ, List.all_append]
  simp
theorem agB_36 {n : Nat} {z : Int64} {v : Nat → Nat} (hn : n ≤ 6) (hz : okBits n z) : agB z v 36 = consN z n v := by
  have h1 : agB z v 36 = true ↔ consN z n v = true := by
    rw [cons_iff]
    unfold agB
    rw [List.all_eq_true]
    constructor
    · intro h hi h1 lo h2 h3
      have := h (6 * lo + hi) (List.mem_range.mpr (by omega))
      rw [show (6 * lo + hi) % 6 = hi by omega, show (6 * lo + hi) / 6 = lo by omega, h3] at this
      simpa using this
    · intro h k hk
      rw [List.mem_range] at hk
      cases e : bt64 z (6 * (k % 6) + k / 6) with
      | false => rfl
      | true =>
        have hb := hz _ e
        have := h (k % 6) (by omega) (k / 6) (by omega) e
        simp [this]
  cases e1 : agB z v 36 <;> cases e2 : consN z n v
  · rfl
  · rw [h1.mpr e2] at e1; cases e1
  · rw [h1.mp e1] at e2; cases e2
  · rfl
def bI (b : Bool) : Int32 := if b = true then 1 else 0
theorem bI_0 {b : Bool} : bI b = 0 ↔ b = false := by cases b <;> decide
theorem bI_or (b : Bool) : bI b = 0 ∨ bI b = 1 := by cases b <;> decide
theorem bI_n (b : Bool) : bI b = nI (if b = true then 1 else 0) := by cases b <;> rfl
theorem r_agrees {n : Nat} {z : Int64} {v : Nat → Nat} {p ra : Row} (hn : n ≤ 6) (hz : okBits n z) (ha : AdR z ra) (hp : RwN n p v) (hv : ∀ x, x < n → v x < n) : f_L_agrees (nI n) p ra = some (bI (consN z n v)) := by
  refine Ev_eq ?_
  rw [← agB_36 hn hz]
  unfold f_L_agrees
  refine Ev_jn1 (fun y => y = bI (agB z v 36)) (fun y hy => ?_) (fun kk hk => ?_)
  · subst hy
    exact Ev_ckz (bI_or _) (Ev_so rfl)
  · refine Ev_fx2 (fun j a1 a2 => a2 = nI j ∧ a1 = bI (agB z v j)) 36 ?_ ?_ (FU_lt (by omega)) ⟨rfl, rfl⟩
    · rintro self j a1 a2 hj ⟨rfl, rfl⟩ hself
      unfold L_L_agrees_5
      have hs := agB_s (z := z) (v := v) (j := j)
      refine Ev_f (nle_n (a := 36) hj (by omega)) (Ev_i (fun e => hself _ _ ⟨nI_add j 1, ?_⟩) (fun e => Ev_ck rfl hj (by omega) ?_))
      · rw [hs, bI_0.mp e]; rfl
      · have e1 : agB z v j = true := by
          cases e2 : agB z v j with
          | true => rfl
          | false => exact absurd (bI_0.mpr e2) e
        rw [clN (by omega), ha j hj]
        refine Ev_jn0 (agB z v (j + 1) = true) (fun h => hself _ _ ⟨nI_add j 1, by rw [h]; rfl⟩) (fun k40 h40 => ?_)
        cases e2 : bt64 z (6 * (j % 6) + j / 6) with
        | false => exact Ev_t rfl (h40 (by rw [hs, e1, e2]; rfl))
        | true =>
          have hb := hz _ e2
          have b1 : j % 6 < n := by omega
          have b2 : j / 6 < n := by omega
          have l1 := hv _ b1
          have l2 := hv _ b2
          rw [n6, ndiv (by omega) (by omega) (by omega), irmN (by omega) (by omega) (by omega), clN (by omega), clN (by omega), hp _ b1, hp _ b2]
          refine Ev_f (by decide) (Ev_ck rfl (by omega) (by omega) (Ev_ck rfl (by omega) (by omega) (Ev_i (fun e3 => hself _ _ ⟨nI_add j 1, ?_⟩) (fun e3 => h40 ?_))))
          · rw [nI_leI (by omega) (by omega)] at e3
            rw [hs, e1, e2, decide_eq_false (by omega)]; rfl
          · rw [nI_leI (by omega) (by omega)] at e3
            rw [hs, e1, e2, decide_eq_true (by omega)]; rfl
    · rintro self a1 a2 ⟨rfl, rfl⟩
      unfold L_L_agrees_5
      exact Ev_t (Int32.le_refl _) (hk _ rfl)
def agC (n : Nat) (z : Int64) (a b : Nat) : Nat := ctB (fun r => consN z n (rowT n r) && (decide (a = b) || decide (rowT n r a < rowT n r b))) (facN n)
theorem fac_le5 : ∀ n, n < 6 → facN n ≤ 120 := by decide
theorem ct_s {p : Nat → Bool} {n : Nat} : ctB p (n + 1) = ctB p n + (if p n = true then 1 else 0) := rfl
theorem r_agreeing {n k a b : Nat} {z : Int64} {ra rq : Row} (hn : n ≤ 5) (hn2 : 2 ≤ n) (ha : a < n) (hb : b < n) (hz : okBits n z) (hA : AdR z ra) (hq : QrN n k rq) : f_L_agreeing (nI a) (nI b) ra rq = some (nI (agC n z a b)) := by
  have hF := fac_le5 n (by omega)
  have hF0 := fac_pos n
  refine Ev_eq ?_
  unfold f_L_agreeing
  refine Ev_jn1 (fun p => RwN n p (rowT n 0)) (fun p hp => ?_) (fun kk hk => ?_)
  · refine Ev_jn2 (fun y p => y = nI (agC n z a b)) (fun y p hy => Ev_so hy) (fun kk hk => ?_)
    refine Ev_fx3 (fun r a1 a2 p => a1 = nI (ctB (fun r => consN z n (rowT n r) && (decide (a = b) || decide (rowT n r a < rowT n r b))) r) ∧ (r < facN n → a2 = 1 ∧ RwN n p (rowT n r)) ∧ (r = facN n → a2 = 0)) (facN n) ?_ ?_ (FU_lt (by omega)) ⟨rfl, fun _ => ⟨rfl, hp⟩, fun e => by omega⟩
    · rintro self r a1 a2 p hr ⟨rfl, h1, h2⟩ hself
      obtain ⟨rfl, hp⟩ := h1 hr
      have hpm := row_perm (show n ≤ 6 by omega) hr
      have l1 := hpm.1 a ha
      have l2 := hpm.1 b hb
      unfold L_L_agreeing_36
      rw [cl0, hq.1]
      refine Ev_f (by decide) (Ev_ck (j := 0) rfl (by omega) (by omega) (Ev_bde (r_agrees (by omega) hz hA hp hpm.1) ?_))
      refine Ev_jn1 (fun y => y = bI (consN z n (rowT n r) && (decide (a = b) || decide (rowT n r a < rowT n r b)))) (fun y hy => ?_) (fun k76 h76 => ?_)
      · subst hy
        rw [bI_n, nI_add]
        refine Ev_nm (Ev_ck (j := 0) rfl (by omega) (by omega) (Ev_bd _ (r_next hn hn2 hr hp) (fun y ⟨q1, q2⟩ => hself _ _ _ ⟨rfl, fun h => q1 h, fun h => q2 h⟩)))
      · refine Ev_jn0 ((consN z n (rowT n r) && (decide (a = b) || decide (rowT n r a < rowT n r b))) = false) (fun e => h76 _ (by rw [e]; rfl)) (fun k75 h75 => ?_)
        refine Ev_i (fun e => h75 (by rw [bI_0.mp e]; rfl)) (fun e => ?_)
        have e1 : consN z n (rowT n r) = true := by
          cases e2 : consN z n (rowT n r) with
          | true => rfl
          | false => exact absurd (bI_0.mpr e2) e
        refine Ev_jn0 ((consN z n (rowT n r) && (decide (a = b) || decide (rowT n r a < rowT n r b))) = true) (fun e => h76 _ (by rw [e]; rfl)) (fun k71 h71 => ?_)
        refine Ev_i (fun e2 => h71 ?_) (fun e2 => Ev_ck rfl (by omega) (by omega) (Ev_ck rfl (by omega) (by omega) ?_))
        · rw [neqI (by omega) (by omega)] at e2
          rw [e1, decide_eq_true e2]; rfl
        · rw [neqI (by omega) (by omega)] at e2
          rw [clN (by omega), clN (by omega), hp _ ha, hp _ hb]
          refine Ev_i (fun e3 => h75 ?_) (fun e3 => h71 ?_)
          · rw [nI_leI (by omega) (by omega)] at e3
            rw [e1, decide_eq_false e2, decide_eq_false (by omega)]; rfl
          · rw [nI_leI (by omega) (by omega)] at e3
            rw [e1, decide_eq_true (show rowT n r a < rowT n r b by omega), Bool.or_true]; rfl
    · rintro self a1 a2 p ⟨rfl, h1, h2⟩
      rw [h2 rfl]
      unfold L_L_agreeing_36
      exact Ev_t rfl (hk _ _ rfl)
  · refine Ev_fx2 (fun j a1 p => a1 = nI j ∧ RwN j p (fun x => x)) n ?_ ?_ (FU_lt (by omega)) ⟨rfl, RwN.zero⟩
    · rintro self j a1 p hj ⟨rfl, hp⟩ hself
      unfold L_L_agreeing_9
      rw [cl0, hq.1, clN (by omega)]
      exact Ev_ck (j := 0) rfl (by omega) (by omega) (Ev_f (nle_n hj (by omega)) (Ev_ck rfl (by omega) (by omega) (Ev_nm (hself _ _ ⟨nI_add j 1, hp.put rfl⟩))))
    · rintro self a1 p ⟨rfl, hp⟩
      unfold L_L_agreeing_9
      rw [cl0, hq.1]
      exact Ev_ck (j := 0) rfl (by omega) (by omega) (Ev_t (Int32.le_refl _) (hk _ (hp.row0 hn)))
theorem agC_0 {n : Nat} {z : Int64} : agC n z 0 0 = ctC n z := by
  unfold agC ctC
  exact ct_congr (fun r _ => by simp)
theorem agC_ls {n a b : Nat} {z : Int64} (hn : n ≤ 6) (ha : a < n) (hb : b < n) (hab : a ≠ b) : agC n z a b = ctC n (lsB z a b) := by
  unfold agC ctC
  exact ct_congr (fun r _ => by rw [ls_cons hn ha hb, decide_eq_false hab, Bool.false_or])
