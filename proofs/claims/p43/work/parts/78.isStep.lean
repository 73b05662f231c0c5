noncomputable def pI (p : Prop) : Int32 := @ite _ p (Classical.propDecidable p) 1 0
theorem pI_t {p : Prop} (h : p) : pI p = 1 := if_pos h
theorem pI_f {p : Prop} (h : ¬ p) : pI p = 0 := if_neg h
theorem pI_01 (p : Prop) : pI p = 0 ∨ pI p = 1 := by
  by_cases h : p
  · exact Or.inr (pI_t h)
  · exact Or.inl (pI_f h)
/-- the counts as a step: both sides look at the same row u -/
theorem C_isStep {n : Nat} {c : Hp} (hn : n ≤ 6) (hn2 : 2 ≤ n) (hc : c.1 1 0 = nI n) : Ev (f_X10_isStep c) (fun r => r = pI ((∀ w, w + 1 < n → c.1 25 (w + 1) ≤ c.1 25 w) ∧ ¬ 1 < c.1 25 0 - c.1 25 (n - 1))) := by
  unfold f_X10_isStep f_X1_outIsStep_23
  rw [hc]
  refine Ev_bd (fun r => r = pI ((∀ w, w + 1 < n → c.1 25 (w + 1) ≤ c.1 25 w) ∧ ¬ 1 < c.1 25 0 - c.1 25 (n - 1))) ?_ (fun r hr => Ev_ckz (by rw [hr]; exact pI_01 _) (Ev_so hr))
  refine Ev_jn0 (∀ w, w + 1 < n → c.1 25 (w + 1) ≤ c.1 25 w) (fun hA => ?_) (fun j0 hj0 => Ev_jn0 (¬ ∀ w, w + 1 < n → c.1 25 (w + 1) ≤ c.1 25 w) (fun hA => Ev_ckz (Or.inl rfl) (Ev_so (by rw [pI_f (fun q => hA q.1)]))) (fun j1 hj1 => ?_))
  · refine Ev_ck (j := 0) rfl (by omega) (by omega) (Ev_ck (j := n - 1) (by rw [n1, nsub (by omega)]) (by omega) (by omega) ?_)
    rw [n1, nsub (by omega), clN (by omega), cl0]
    exact Ev_i (fun h => Ev_ckz (Or.inl rfl) (Ev_so (by rw [pI_f (fun q => q.2 h)]))) (fun h => Ev_ckz (Or.inr rfl) (Ev_so (by rw [pI_t ⟨hA, h⟩]; rfl)))
  · refine Ev_fx1 (fun j a => a = nI j ∧ ∀ w, w < j → c.1 25 (w + 1) ≤ c.1 25 w) (n - 1) ?_ ?_ (FU_lt (by omega)) ⟨rfl, fun w hw => absurd hw (by omega)⟩
    · rintro self j a hj ⟨rfl, hZ⟩ hself
      unfold L_X1_outIsStep_23_2
      rw [n1, nI_add]
      refine Ev_f (nle_n (by omega) (by omega)) (Ev_ck rfl (by omega) (by omega) (Ev_ck rfl (by omega) (by omega) ?_))
      rw [clN (by omega), clN (by omega)]
      refine Ev_i (fun h => hself _ ⟨rfl, fun w hw => ?_⟩) (fun h => hj1 (fun q => h (q j (by omega))))
      by_cases e : w = j
      · subst e; exact h
      · exact hZ w (by omega)
    · rintro self a ⟨rfl, hZ⟩
      unfold L_X1_outIsStep_23_2
      rw [n1, nI_add]
      exact Ev_t (le_n (by omega) (by omega)) (hj0 (fun w hw => hZ w (by omega)))
