noncomputable def pI (p : Prop) : Int32 := @ite _ p (Classical.propDecidable p) 1 0
theorem pI_t {p : Prop} (h : p) : pI p = 1 := if_pos h
theorem pI_f {p : Prop} (h : ¬ p) : pI p = 0 := if_neg h
theorem pI_01 (p : Prop) : pI p = 0 ∨ pI p = 1 := by
  by_cases h : p
  · exact Or.inr (pI_t h)
  · exact Or.inl (pI_f h)
/-- the counts as a step: both sides look at the same row u -/
theorem C_isStep {n : Nat} {c : Hp} (hn : n ≤ 6) (hn2 : 2 ≤ n) (hc : c.1 1 0 = nI n) : Ev (f_X10_isStep c) (fun r => r = pI ((∀ w, w + 1 < n → c.1 25 (w + 1) ≤ c.1 25 w) ∧ ¬ 1 < c.1 25 0 - c.1 25 (n - 1))) := by
  unfold f_X10_isStep f_X1_outIsStep_23
  rw [hc]
  refine Ev_bd (fun r => r = pI ((∀ w, w + 1 < n → c.1 25 (w + 1) ≤ c.1 25 w) ∧ ¬ 1 < c.1 25 0 - c.1 25 (n - 1))) ?_ (fun r hr => Ev_ckz (by rw [hr]; exact pI_01 _) (Ev_so hr))
  refine Ev_jn0 (∀ w, w + 1 < n → c.1 25 (w + 1) ≤ c.1 25 w) (fun hA => ?_) (fun j0 hj0 => Ev_jn0 (¬ ∀ w, w + 1 < n → c.1 25 (w + 1) ≤ c.1 25 w) (fun hA => Ev_ckz (Or.inl rfl) (Ev_so (by rw [pI_f (fun q => hA q.1)]))) (fun j1 hj1 => ?_))
  · refine Ev_ck (j := 0) rfl (by omega) (by omega) (Ev_ck (j := n - 1) (by rw [n1, nsub (by omega)]) (by omega) (by omega) ?_)
    rw [n1, nsub (by omega), clN (by omega), cl0]
    exact Ev_i (fun h => Ev_ckz (Or.inl rfl) (Ev_so (by rw [pI_f (fun q => q.2 h)]))) (fun h => Ev_ckz (Or.inr rfl) (Ev_so (by rw [pI_t ⟨hA, h⟩]; rfl)))
  · refine Ev_fx1 (fun j a => a = nI j ∧ ∀ w, w < j → c.1 25 (w + 1) ≤ c.1 25 w) (n - 1) ?_ ?_ (FU_lt (by omega)) ⟨rfl, fun w hw => absurd hw (by omega)⟩
    · rintro self j a hj ⟨rfl, hZ⟩ hself
      unfold L_X1_outIsStep_23_2
      rw [n1, nI_add]
      refine Ev_f (nle_n (by omega) (by omega)) (Ev_ck rfl (by omega) (by omega) (Ev_ck rfl (by omega) (by omega) ?_))
      rw [clN (by omega), clN (by omega)]
      refine Ev_i (fun h => hself _ ⟨rfl, fun w hw => ?_⟩) (fun h => hj1 (fun q => h (q j (by omega))))
      by_cases e : w = j
      · subst e; exact h
      · exact hZ w (by omega)
    · rintro self a ⟨rfl, hZ⟩
      unfold L_X1_outIsStep_23_2
      rw [n1, nI_add]
      exact Ev_t (le_n (by omega) (by omega)) (hj0 (fun w hw => hZ w (by omega)))
theorem M_isStep {n : Nat} {m : Hp} (hn : n ≤ 6) (hn2 : 2 ≤ n) (hm : m.1 0 1 = nI n) : Ev (f_X11_isStep m) (fun r => r = ((pI ((∀ w, w + 1 < n → m.1 10 (w + 1) ≤ m.1 10 w) ∧ ¬ 1 < m.1 10 0 - m.1 10 (n - 1))), wF m 0 0 0)) := by
  unfold f_X11_isStep
  refine Ev_nm ?_
  have e1 : (wF m 0 0 0).1 0 1 = nI n := by rw [wF_1, upd_n _ _ (by decide)]; exact hm
  have e10 : (wF m 0 0 0).1 10 = m.1 10 := wF_n _ _ _ _ _ (by decide)
  generalize wF m 0 0 0 = g at e1 e10
  rw [← e10]
  rw [e1, n1, nsub (by omega), clN (by omega), cl0]
  have hloop : ∀ (a0 : Int32) (k : Int32 → Option (Int32 × Hp)) (P : Int32 × Hp → Prop), (a0 = 0 ∨ a0 = 1) → Ev (k (pI (a0 = 1 ∧ ∀ w, w + 1 < n → g.1 10 (w + 1) ≤ g.1 10 w))) P → Ev (fx2 (L_X11_isStep_35 g k) FU a0 (nI 1)) P := by
    intro a0 k P ha hk
    refine Ev_fx2 (fun j a1 a2 => a2 = nI (1 + j) ∧ a1 = pI (a0 = 1 ∧ ∀ w, w < j → g.1 10 (w + 1) ≤ g.1 10 w)) (n - 1) ?_ ?_ (FU_lt (by omega)) ⟨rfl, ?_⟩
    · rintro self j a1 a2 hj ⟨rfl, h1⟩ hself
      unfold L_X11_isStep_35
      rw [e1]
      refine Ev_f (nle_n (by omega) (by omega)) ?_
      have hnext : nI (1 + j) + 1 = nI (1 + (j + 1)) := nI_add (1 + j) 1
      by_cases h0 : a0 = 1 ∧ ∀ w, w < j → g.1 10 (w + 1) ≤ g.1 10 w
      · rw [pI_t h0] at h1
        refine Ev_f (by rw [h1]; decide) (Ev_ck rfl (by omega) (by omega) (Ev_ck (j := j) (by rw [n1, nsub (by omega)]; congr 1; omega) (by omega) (by omega) ?_))
        have ej : (nI (1 + j) - 1).toNatClampNeg = j := by rw [n1, nsub (by omega), clN (by omega)]; omega
        have ej1 : (nI (1 + j)).toNatClampNeg = j + 1 := by rw [clN (by omega)]; omega
        rw [ej, ej1]
        refine Ev_i (fun h => hself _ _ ⟨hnext, ?_⟩) (fun h => hself _ _ ⟨hnext, ?_⟩)
        · rw [pI_f]
          rintro ⟨-, q⟩
          exact absurd (q j (by omega)) (Int32.not_le.mpr h)
        · rw [pI_t]
          refine ⟨h0.1, fun w hw => ?_⟩
          by_cases e : w = j
          · subst e; exact Int32.not_lt.mp h
          · exact h0.2 w (by omega)
      · rw [pI_f h0] at h1
        refine Ev_t h1 (hself _ _ ⟨hnext, ?_⟩)
        rw [pI_f]
        rintro ⟨q1, q2⟩
        exact h0 ⟨q1, fun w hw => q2 w (by omega)⟩
    · rintro self a1 a2 ⟨rfl, h1⟩
      unfold L_X11_isStep_35
      rw [e1]
      refine Ev_t (le_n (by omega) (by omega)) ?_
      rw [h1]
      have : (a0 = 1 ∧ ∀ w, w < n - 1 → g.1 10 (w + 1) ≤ g.1 10 w) ↔ (a0 = 1 ∧ ∀ w, w + 1 < n → g.1 10 (w + 1) ≤ g.1 10 w) := ⟨fun q => ⟨q.1, fun w hw => q.2 w (by omega)⟩, fun q => ⟨q.1, fun w hw => q.2 w (by omega)⟩⟩
      rw [show (a0 = 1 ∧ ∀ w, w < n - 1 → g.1 10 (w + 1) ≤ g.1 10 w) = _ from propext this]
      exact hk
    · rcases ha with h | h
      · rw [pI_f (fun q => by rw [h] at q; exact absurd q.1 (by decide))]; exact h
      · rw [pI_t ⟨h, fun w hw => absurd hw (by omega)⟩]; exact h
  refine Ev_ck (j := 0) rfl (by omega) (by omega) (Ev_ck rfl (by omega) (by omega) (Ev_i (fun h => ?_) (fun h => ?_)))
  · refine Ev_jn1 (fun z => z = 0) (fun z hz => ?_) (fun k hk => hloop 0 k _ (Or.inl rfl) (by rw [pI_f (fun q => absurd q.1 (by decide))]; exact hk _ rfl))
    subst hz
    exact Ev_ckz (Or.inl rfl) (Ev_so (by rw [pI_f (fun q => q.2 h)]))
  · refine Ev_jn1 (fun z => z = pI (∀ w, w + 1 < n → g.1 10 (w + 1) ≤ g.1 10 w)) (fun z hz => ?_) (fun k hk => hloop 1 k _ (Or.inr rfl) ?_)
    · refine Ev_ckz (by rw [hz]; exact pI_01 _) (Ev_so ?_)
      rw [hz]
      by_cases q : ∀ w, w + 1 < n → g.1 10 (w + 1) ≤ g.1 10 w
      · rw [pI_t q, pI_t ⟨q, h⟩]
      · rw [pI_f q, pI_f (fun z => q z.1)]
    · refine hk _ ?_
      by_cases q : ∀ w, w + 1 < n → g.1 10 (w + 1) ≤ g.1 10 w
      · rw [pI_t q, pI_t ⟨rfl, q⟩]
      · rw [pI_f q, pI_f (fun z => q z.2)]
theorem pc_28 {L : Nat} {xs : Nat → Int32} {i : Int32} {s : LWS} {kont : LWS → Option Unit} (hI : Inv s) (hk : ∀ s1, Inv s1 → kont s1 = some ()) : lc_28 L xs i s kont = some () := by
  obtain ⟨c, m, out⟩ := s
  have hI0 := hI
  obtain ⟨n, k, f, o, hG, hC, hM, hT, hB, hS, hSt, hA⟩ := hI
  obtain ⟨r1, h1, e1⟩ := C_isStep hG.2.1 hG.1 hC.1
  obtain ⟨r2, h2, e2⟩ := M_isStep hG.2.1 hG.1 hM.1
  have hu : ∀ x, x < n → c.1 25 x = m.1 10 x := by
    obtain ⟨t, v, q1, q2, q3, q4, q5, q6, q7⟩ := hB
    intro x hx
    have := hG.2.1
    rw [(q6 x (by omega)).2.1, (q6 x (by omega)).2.2]
  have hn2 := hG.1
  have e3 : r1 = r2.1 := by
    rw [e1, e2]
    have a1 : (∀ w, w + 1 < n → c.1 25 (w + 1) ≤ c.1 25 w) = (∀ w, w + 1 < n → m.1 10 (w + 1) ≤ m.1 10 w) := by
      refine propext ⟨fun q w hw => ?_, fun q w hw => ?_⟩
      · have := q w hw
        rw [hu w (by omega), hu (w + 1) (by omega)] at this; exact this
      · rw [hu w (by omega), hu (w + 1) (by omega)]; exact q w hw
    rw [hu 0 (by omega), hu (n - 1) (by omega), a1]
  subst e3
  subst e2
  simp only [lc_28, h1, h2, bd, nm, setM, setC, if_true]
  exact hk _ hI0.thrown
