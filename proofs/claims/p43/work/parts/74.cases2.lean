/-! CASES take, add -/
theorem Ev_eq {β : Type} {x : Option β} {a : β} (h : Ev x (fun r => r = a)) : x = some a := by
  obtain ⟨r, e, rfl⟩ := h
  exact e
def FgC (c : Hp) : Prop := c.1 23 4 = 0 ∧ (∀ x, x < 6 → c.1 24 x = 0 ∧ c.1 25 x = 0) ∧ (∀ i, i < 24 → c.1 27 i = 0) ∧ c.1 20 2 = 0
def FgM (m : Hp) : Prop := m.1 0 14 = 0 ∧ (∀ x, x < 6 → m.1 10 x = 0) ∧ ∀ i, i < 25 → m.1 9 i = 0
theorem C_take {n k : Nat} {f o : Nat → Nat} {c : Hp} (hC : NetC n (k + 1) f o c) (hk : k + 1 ≤ 24) : Ev (f_X10_take c) (fun r => ∃ c1, r = .inr (nI k, c1) ∧ NetC n k f o c1 ∧ Sm [1, 20, 23, 24, 25, 27] c c1 ∧ FgC c1) := by
  unfold f_X10_take f_X9_dropLast_1
  refine Ev_f (by rw [hC.2.1, n0, neqI (by omega) (by omega)]; omega) ?_
  refine Ev_bd (fun r => r = wF c 1 1 (nI k)) (Ev_nm (Ev_so (by rw [hC.2.1, n1, nsub (by omega)]; rfl))) (fun r e => ?_)
  subst e
  refine Ev_bd _ (s_forgetC _) (fun c1 ⟨hS, h1, h2, h3, h4⟩ => ?_)
  have e1 : c1.1 1 1 = nI k := by rw [(hS 1 (by decide)).1, wF_1, upd_s]
  refine Ev_so ⟨c1, by rw [e1], ⟨?_, e1, fun i hi => ?_⟩, (Sm.rf.sF (by decide)).tr (hS.mono (by decide)), h1, h2, h3, h4⟩
  · rw [(hS 1 (by decide)).1, wF_1, upd_n _ _ (by decide)]; exact hC.1
  · rw [(hS 2 (by decide)).1, (hS 3 (by decide)).1, wF_n _ _ _ _ _ (by decide), wF_n _ _ _ _ _ (by decide)]
    exact hC.2.2 i (by omega)
