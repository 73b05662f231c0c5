/-! CASE network -/
theorem fac_s {m : Nat} : facN (m + 1) = (m + 1) * facN m := rfl
theorem fac_pos : ∀ m, 0 < facN m
  | 0 => by decide
  | m + 1 => by rw [fac_s]; exact Nat.mul_pos (by omega) (fac_pos m)
theorem lehm_len : ∀ (m : Nat) (P : List Nat) (r : Nat), (lehm m P r).length = m
  | 0, _, _ => rfl
  | m + 1, P, r => by
    show (lehm m _ _).length + 1 = m + 1
    rw [lehm_len m]
/-- a row of the table, being written -/
def BegI (n r : Nat) (g h : Hp) (w left : Nat) (P pre : List Nat) : Prop := left < facN (n - w) ∧ P.length = n - w ∧ (∀ x, x < n - w → h.1 6 x = nI (P.getD x 0)) ∧ pre.length = w ∧ lehm n (List.range n) r = pre ++ lehm (n - w) P left ∧ (∀ x, x < w → h.1 4 (6 * r + x) = nI (pre.getD x 0)) ∧ (∀ y, y < 6 * r → h.1 4 y = g.1 4 y) ∧ Sm [4, 6] g h
theorem cons_0 {n : Nat} {v : Nat → Nat} : consN 0 n v = true := by
  unfold consN
  rw [List.all_eq_true]
  intro a _
  rw [List.all_eq_true]
  intro b _
  rw [bt_0]; rfl
theorem AdvR.new {n : Nat} {c m : Hp} (h1 : c.2 32 0 = 0) (h2 : ∀ r, r < facN n → m.1 14 r = 1) : AdvR n c m := by
  refine ⟨fun j hj => ?_, fun r hr => ?_, 0, fac_pos n, ?_⟩
  · rw [h1, bt_0] at hj; cases hj
  · rw [h1, cons_0, h2 r hr]; rfl
  · rw [h1]; exact cons_0
theorem w26 {x : Int32} : (x < 2 ∨ 6 < x) ∨ ∃ n, 2 ≤ n ∧ n ≤ 6 ∧ x = nI n := by
  by_cases h : x < 0
  · exact Or.inl (Or.inl (Int32.lt_of_lt_of_le h (by decide)))
  · obtain ⟨n, hn, rfl⟩ := nI_of h
    rw [n2, show (6 : Int32) = nI 6 from rfl, nI_ltI (by omega) (by omega), nI_ltI (by omega) (by omega)]
    by_cases h2 : n < 2 ∨ 6 < n
    · exact Or.inl h2
    · exact Or.inr ⟨n, by omega, by omega, rfl⟩
theorem C_network {n k p : Nat} {f o : Nat → Nat} {c : Hp} (hC : NetC n k f o c) (hp2 : 2 ≤ p) (hp : p ≤ 6) : Ev (f_X10_network c (nI p)) (fun r => ∃ c1, r = .inr (nI k, c1) ∧ NetC p 0 f o c1 ∧ Sm [1, 20, 23, 24, 25, 27, 32] c c1 ∧ FgC c1 ∧ c1.2 32 0 = 0) := by
  unfold f_X10_network
  refine Ev_jn0 False (fun h => h.elim) (fun j hj => Ev_f (by rw [n2, nI_ltI (by omega) (by omega)]; omega) (Ev_t (le_n (b := 6) (by omega) (by omega)) ?_))
  refine Ev_bd (fun h => h = wF (wF c 1 0 (nI p)) 1 1 0) (Ev_nm (Ev_nm (Ev_so rfl))) (fun h e => ?_)
  subst e
  refine Ev_bd (fun h => h = wFL (wF (wF c 1 0 (nI p)) 1 1 0) 32 0 0) (Ev_nm (Ev_so rfl)) (fun h e => ?_)
  subst e
  refine Ev_bd _ (s_forgetC _) (fun c1 ⟨hS, h1, h2, h3, h4⟩ => Ev_so ⟨c1, by rw [hC.2.1], ⟨?_, ?_, fun i hi => absurd hi (by omega)⟩, (((Sm.rf.sF (by decide)).sF (by decide)).sFL (by decide)).tr (hS.mono (by decide)), ⟨h1, h2, h3, h4⟩, ?_⟩)
  · rw [(hS 1 (by decide)).1, wFL_2, wF_1, upd_n _ _ (by decide), wF_1, upd_s]
  · rw [(hS 1 (by decide)).1, wFL_2, wF_1, upd_s]; rfl
  · rw [(hS 32 (by decide)).2, wFL_1, updL_s]
/-! THE START -/
