/-! P43: tokens counted, forgotten, wires in order -/
theorem half_s {f o v : Nat → Nat} {k x : Nat} : balN f o (k + 1) v x = if x = f k then (balN f o k v (f k) + balN f o k v (o k) + 1) / 2 else if x = o k then (balN f o k v (f k) + balN f o k v (o k)) / 2 else balN f o k v x := rfl
theorem r_counts {n k t : Nat} {f o v : Nat → Nat} {rw_ ro rc rq : Row} (hG : Good n k f o) (h5 : n ≤ 5) (hc : RcN k f o rc) (hq : QrN n k rq) (hw : RwN 6 rw_ v) (hv : ∀ x, v x ≤ t) (ht : t ≤ 1000) : Ev (f_L_counts rw_ ro rc rq) (fun r => RwN 6 r (balN f o k v)) := by
  have hk24 := hG.2.2.1
  unfold f_L_counts
  refine Ev_jn1 (fun r => RwN 6 r v) (fun r1 hr1 => ?_) (fun kk hk => ?_)
  · refine Ev_jn1 (fun r => RwN 6 r (balN f o k v)) (fun r hr => Ev_so hr) (fun kk hk => ?_)
    refine Ev_fx2 (fun j a1 a2 => a1 = nI j ∧ RwN 6 a2 (balN f o j v)) k ?_ ?_ (FU_lt (by omega)) ⟨rfl, hr1⟩
    · rintro self j a1 a2 hj ⟨rfl, hR⟩ hself
      obtain ⟨g1, g2, g3⟩ := hG.2.2.2 j hj
      obtain ⟨e1, e2⟩ := hc.rd hj (by omega) (by omega)
      have b1 := balN_le (f := f) (o := o) hv j (f j)
      have b2 := balN_le (f := f) (o := o) hv j (o j)
      unfold L_L_counts_27
      rw [cl1, hq.2, clN (by omega), e1, e2, clN (by omega), clN (by omega), hR _ (by omega), hR _ (by omega), nI_add]
      refine Ev_c1 (Ev_f (nle_n hj (by omega)) (Ev_ck rfl (by omega) (by omega) (Ev_ck rfl (by omega) (by omega) (Ev_ck rfl (by omega) (by omega) (Ev_ck rfl (by omega) (by omega) (Ev_nm ?_))))))
      simp only [n1, n2, nI_add]
      rw [ndiv (by omega) (by omega) (by omega), ndiv (by omega) (by omega) (by omega)]
      refine Ev_ck rfl (by omega) (by omega) (Ev_ck rfl (by omega) (by omega) (Ev_nm (Ev_ck rfl (by omega) (by omega) (Ev_ck rfl (by omega) (by omega) (Ev_nm (hself _ _ ⟨rfl, fun x hx => ?_⟩))))))
      rw [half_s]
      by_cases x1 : x = o j
      · rw [x1, upd_s, if_neg (Ne.symm g3), if_pos rfl]
      · rw [upd_n _ _ x1]
        by_cases x2 : x = f j
        · rw [x2, upd_s, if_pos rfl]
        · rw [upd_n _ _ x2, if_neg x2, if_neg x1]
          exact hR x hx
    · rintro self a1 a2 ⟨rfl, hR⟩
      unfold L_L_counts_27
      rw [cl1, hq.2]
      exact Ev_ck (j := 1) rfl (by omega) (by omega) (Ev_t (Int32.le_refl _) (hk _ hR))
  · refine Ev_fx2 (fun j a1 a2 => a1 = nI j ∧ RwN j a2 v) 6 ?_ ?_ (FU_lt (by omega)) ⟨rfl, fun x hx => absurd hx (by omega)⟩
    · rintro self j a1 a2 hj ⟨rfl, hR⟩ hself
      unfold L_L_counts_3
      rw [clN (by omega), hw j hj]
      refine Ev_f (nle_n (a := 6) hj (by omega)) (Ev_ck rfl (by omega) (by omega) (Ev_ck rfl (by omega) (by omega) (Ev_nm (hself _ _ ⟨nI_add j 1, fun x hx => ?_⟩))))
      by_cases x1 : x = j
      · rw [x1, upd_s]
      · rw [upd_n _ _ x1]; exact hR x (by omega)
    · rintro self a1 a2 ⟨rfl, hR⟩
      unfold L_L_counts_3
      exact Ev_t (Int32.le_refl _) (hk _ hR)
theorem r_forgets {rw_ : Row} : Ev (f_L_forgets rw_) (fun r => RwN 6 r (fun _ => 0)) := by
  unfold f_L_forgets
  refine Ev_jn1 (fun r => RwN 6 r (fun _ => 0)) (fun r hr => Ev_so hr) (fun kk hk => ?_)
  refine Ev_fx2 (fun j a1 a2 => a1 = nI j ∧ RwN j a2 (fun _ => 0)) 6 ?_ ?_ (FU_lt (by omega)) ⟨rfl, fun x hx => absurd hx (by omega)⟩
  · rintro self j a1 a2 hj ⟨rfl, hR⟩ hself
    unfold L_L_forgets_2
    rw [clN (by omega)]
    refine Ev_f (nle_n (a := 6) hj (by omega)) (Ev_ck rfl (by omega) (by omega) (Ev_nm (hself _ _ ⟨nI_add j 1, fun x hx => ?_⟩)))
    by_cases x1 : x = j
    · rw [x1, upd_s]; rfl
    · rw [upd_n _ _ x1]; exact hR x (by omega)
  · rintro self a1 a2 ⟨rfl, hR⟩
    unfold L_L_forgets_2
    exact Ev_t (Int32.le_refl _) (hk _ hR)
/-- a row of the wires' own numbers, written in place -/
theorem RwN.put {j y : Nat} {p : Row} {v : Nat → Nat} (h : RwN j p v) (e : v j = y) : RwN (j + 1) (upd p j (nI y)) v := fun x hx => by
  by_cases x1 : x = j
  · rw [x1, upd_s, e]
  · rw [upd_n _ _ x1]; exact h x (by omega)
theorem RwN.zero {p : Row} {v : Nat → Nat} : RwN 0 p v := fun x hx => absurd hx (by omega)
theorem RwN.congr {n : Nat} {p : Row} {u v : Nat → Nat} (h : RwN n p u) (e : ∀ x, x < n → u x = v x) : RwN n p v := fun x hx => by rw [h x hx, e x hx]
theorem RwN.row0 {n : Nat} {p : Row} (hn : n ≤ 5) (h : RwN n p (fun x => x)) : RwN n p (rowT n 0) := h.congr (fun x hx => (row_0 n (by omega) x hx).symm)
