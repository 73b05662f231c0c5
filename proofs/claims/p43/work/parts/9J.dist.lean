/-! P43: how far rows are -/
theorem D_ok {st n : Nat} {D : Nat → Nat} (hn : n ≤ 6) (h0 : ∀ r, r < facN n → (D r = 0 ↔ r = 0)) (h1 : ∀ r, r < facN n → ∀ q, q ∈ nbC st n r → D q ≤ D r + 1) (h2 : ∀ r, r < facN n → r ≠ 0 → ∃ q, q < facN n ∧ D q + 1 = D r ∧ r ∈ nbC st n q) : ∀ r, r < facN n → ∀ e, stF st n e r ↔ D r ≤ e := by
  have hN := nbC_ok (st := st) hn
  have hf : ∀ e r, r < facN n → stF st n e r → D r ≤ e := by
    intro e
    induction e with
    | zero =>
      intro r hr h
      have h : r = 0 := h
      rw [(h0 r hr).mpr h]
      exact Nat.le_refl _
    | succ e ih =>
      intro r hr h
      rcases h with h | ⟨p, hp, hF, hE⟩
      · have := ih r hr h; omega
      · have a := ih p hp hF
        have b := h1 p hp r ((hN p hp).2 r hr hE)
        omega
  have hb : ∀ d r, r < facN n → D r = d → stF st n d r := by
    intro d
    induction d with
    | zero => intro r hr h; exact (h0 r hr).mp h
    | succ d ih =>
      intro r hr h
      have hr0 : r ≠ 0 := fun z => by have := (h0 r hr).mpr z; omega
      obtain ⟨q, q1, q2, q3⟩ := h2 r hr hr0
      have hE := ((hN q q1).1 r q3).2.resolve_right hr0
      exact Or.inr ⟨q, q1, ih q q1 (by omega), hE⟩
  exact fun r hr e => ⟨hf e r hr, fun h => stF_le (hb (D r) r hr rfl) h⟩
def chkDq (D : Nat → Nat) (st n r : Nat) : Bool := (Nat.beq (D r) 0 == Nat.beq r 0) && ((nbC st n r).all (fun q => Nat.ble (D q) (D r + 1)) && (Nat.beq r 0 || (nbC st n r).any (fun q => Nat.blt q (facN n) && (Nat.beq (D q + 1) (D r) && (nbC st n q).any (fun r2 => Nat.beq r2 r)))))
theorem chkDq_use {D : Nat → Nat} {st n : Nat} (hn : n ≤ 6) (h : (List.range (facN n)).all (fun r => chkDq D st n r) = true) : ∀ r, r < facN n → ∀ e, stF st n e r ↔ D r ≤ e := by
  have hc : ∀ r, r < facN n → chkDq D st n r = true := fun r hr => List.all_eq_true.mp h r (List.mem_range.mpr hr)
  refine D_ok hn (fun r hr => ?_) (fun r hr q hq => ?_) (fun r hr hr0 => ?_)
  · have := hc r hr
    unfold chkDq at this
    rw [Bool.and_eq_true] at this
    have := eq_of_beq this.1
    constructor
    · intro z
      rw [z] at this
      exact Nat.eq_of_beq_eq_true this.symm
    · intro z
      rw [z] at this ⊢
      exact Nat.eq_of_beq_eq_true this
  · have := hc r hr
    unfold chkDq at this
    rw [Bool.and_eq_true, Bool.and_eq_true] at this
    exact Nat.le_of_ble_eq_true (List.all_eq_true.mp this.2.1 q hq)
  · have := hc r hr
    unfold chkDq at this
    rw [Bool.and_eq_true, Bool.and_eq_true, Bool.or_eq_true] at this
    have h3 := this.2.2.resolve_left (fun z => hr0 (Nat.eq_of_beq_eq_true z))
    obtain ⟨q, _, h4⟩ := List.any_eq_true.mp h3
    rw [Bool.and_eq_true, Bool.and_eq_true] at h4
    obtain ⟨r2, h5, h6⟩ := List.any_eq_true.mp h4.2.2
    have := Nat.eq_of_beq_eq_true h6
    subst this
    exact ⟨q, Nat.le_of_ble_eq_true h4.1, Nat.eq_of_beq_eq_true h4.2.1, h5⟩
def d0N (n r : Nat) : Nat := ivK n (rowT n r) (n * n)
def d1N (n r : Nat) : Nat := n - ((rgF (rowT n r) n).getD (0, 0)).2
theorem d0_ok : ((List.range 6).all fun n => (List.range (facN n)).all fun r => Nat.blt n 2 || chkDq (d0N n) 0 n r) = true := by decide +kernel
theorem d1_ok : ((List.range 6).all fun n => (List.range (facN n)).all fun r => Nat.blt n 2 || (chkDq (d1N n) 1 n r && (rgF (rowT n r) n).isSome)) = true := by decide +kernel
theorem d0_use {n : Nat} (hn : n ≤ 5) (hn2 : 2 ≤ n) : ∀ r, r < facN n → ∀ e, stF 0 n e r ↔ d0N n r ≤ e := by
  refine chkDq_use (by omega) (List.all_eq_true.mpr (fun r hr => ?_))
  have := List.all_eq_true.mp (List.all_eq_true.mp d0_ok n (List.mem_range.mpr (by omega))) r hr
  rw [Bool.or_eq_true] at this
  exact this.resolve_left (fun z => by have := Nat.le_of_ble_eq_true z; omega)
theorem d1_both {n r : Nat} (hn : n ≤ 5) (hn2 : 2 ≤ n) (hr : r < facN n) : chkDq (d1N n) 1 n r = true ∧ ∃ s m, rgF (rowT n r) n = some (s, m) := by
  have := List.all_eq_true.mp (List.all_eq_true.mp d1_ok n (List.mem_range.mpr (by omega))) r (List.mem_range.mpr hr)
  rw [Bool.or_eq_true] at this
  have := this.resolve_left (fun z => by have := Nat.le_of_ble_eq_true z; omega)
  rw [Bool.and_eq_true] at this
  refine ⟨this.1, ?_⟩
  cases h : rgF (rowT n r) n with
  | none => rw [h] at this; cases this.2
  | some x => exact ⟨x.1, x.2, rfl⟩
theorem d1_use {n : Nat} (hn : n ≤ 5) (hn2 : 2 ≤ n) : ∀ r, r < facN n → ∀ e, stF 1 n e r ↔ d1N n r ≤ e :=
  chkDq_use (by omega) (List.all_eq_true.mpr (fun r hr => (d1_both hn hn2 (List.mem_range.mp hr)).1))
theorem ivK_congr {n : Nat} {u v : Nat → Nat} (h : ∀ x, x < n → u x = v x) : ivK n u (n * n) = ivK n v (n * n) := by
  unfold ivK
  refine ct_congr (fun r hr => ?_)
  have hn : 0 < n := by
    rcases Nat.eq_zero_or_pos n with h | h
    · subst h; omega
    · exact h
  rw [h _ (Nat.mod_lt _ hn), h _ (Nat.div_lt_of_lt_mul hr)]
/-- codes in a row, in their order -/
def CdN (n : Nat) (p : Row) : Prop := ∀ k, k < facN n → p k = nI (cdQ n k)
theorem cdQ_inj : ∀ n, n < 5 → ∀ a, a < facN n → ∀ b, b < facN n → cdQ n a = cdQ n b → a = b := by decide +kernel
theorem fac_le4 : ∀ n, n < 5 → facN n ≤ 24 := by decide
theorem cdQ_row {n q : Nat} (hq : q < facN n) : cdQ n q = cdS n (rowT n q) n := if_pos hq
theorem r_placeOf {n q : Nat} {rr : Row} (hn : n ≤ 4) (hq : q < facN n) (hc : CdN n rr) : f_L_placeOf (nI (cdQ n q)) (nI (facN n)) rr = some (nI q) := by
  have hF := fac_le4 n (by omega)
  refine Ev_eq ?_
  unfold f_L_placeOf
  refine Ev_jn1 (fun y => y = nI q) (fun y hy => Ev_so hy) (fun kk hk => ?_)
  refine Ev_fx1 (fun j a => a = nI j) q ?_ ?_ (FU_lt (by omega)) rfl
  · rintro self j a hj rfl hself
    unfold L_L_placeOf_2
    rw [clN (by omega), hc j (by omega)]
    refine Ev_f (nle_n (by omega) (by omega)) (Ev_ck rfl (by omega) (by omega) (Ev_f (fun z => ?_) (hself _ (nI_add j 1))))
    rw [neqI (cdQ_lt (by omega)) (cdQ_lt (by omega))] at z
    have := cdQ_inj n (by omega) j (by omega) q hq z
    omega
  · rintro self a rfl
    unfold L_L_placeOf_2
    rw [clN (by omega), hc q hq]
    exact Ev_f (nle_n (by omega) (by omega)) (Ev_ck rfl (by omega) (by omega) (Ev_t rfl (hk _ rfl)))
theorem cd_dg {n w : Nat} {v : Nat → Nat} (hn : n ≤ 5) (hn2 : 2 ≤ n) (hv : ∀ x, x < n → v x < 10) (hw : w < n) : dgN (cdS n v n) w = v w := by
  rw [← cdL_S hn hn2]
  have h0 := hv 0 (by omega)
  have h1 := hv 1 (by omega)
  rcases (show n = 2 ∨ n = 3 ∨ n = 4 ∨ n = 5 by omega) with rfl | rfl | rfl | rfl
  · rcases (show w = 0 ∨ w = 1 by omega) with rfl | rfl <;> simp [cdL, dgN] <;> omega
  · have h2 := hv 2 (by omega)
    rcases (show w = 0 ∨ w = 1 ∨ w = 2 by omega) with rfl | rfl | rfl <;> simp [cdL, dgN] <;> omega
  · have h2 := hv 2 (by omega)
    have h3 := hv 3 (by omega)
    rcases (show w = 0 ∨ w = 1 ∨ w = 2 ∨ w = 3 by omega) with rfl | rfl | rfl | rfl <;> simp [cdL, dgN] <;> omega
  · have h2 := hv 2 (by omega)
    have h3 := hv 3 (by omega)
    have h4 := hv 4 (by omega)
    rcases (show w = 0 ∨ w = 1 ∨ w = 2 ∨ w = 3 ∨ w = 4 by omega) with rfl | rfl | rfl | rfl | rfl <;> simp [cdL, dgN] <;> omega
theorem r_lays {n c : Nat} {v : Nat → Nat} {p : Row} (hn : n ≤ 5) (hc : c < 2 ^ 31) (hd : ∀ w, w < n → dgN c w = v w) : Ev (f_L_lays (nI c) (nI n) p) (fun r => RwN n r v) := by
  unfold f_L_lays
  refine Ev_jn1 (fun r => RwN n r v) (fun r hr => Ev_so hr) (fun kk hk => ?_)
  refine Ev_fx3 (fun w a1 a2 r => a2 = nI w ∧ a1 = nI (c / 10 ^ w) ∧ RwN w r v) n ?_ ?_ (FU_lt (by omega)) ⟨rfl, by rw [Nat.pow_zero, Nat.div_one], RwN.zero⟩
  · rintro self w a1 a2 r hw ⟨rfl, rfl, hR⟩ hself
    unfold L_L_lays_5
    rw [irm10 hc, div10 hc, clN (by omega), hd w hw]
    exact Ev_f (nle_n hw (by omega)) (Ev_ck rfl (by omega) (by omega) (Ev_nm (Ev_nm (hself _ _ _ ⟨nI_add w 1, rfl, hR.put rfl⟩))))
  · rintro self a1 a2 r ⟨rfl, rfl, hR⟩
    unfold L_L_lays_5
    exact Ev_t (Int32.le_refl _) (hk _ hR)
