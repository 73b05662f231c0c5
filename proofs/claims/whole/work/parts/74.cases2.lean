/-! CASES take, add -/
theorem Ev_eq {β : Type} {x : Option β} {a : β} (h : Ev x (fun r => r = a)) : x = some a := by
  obtain ⟨r, e, rfl⟩ := h
  exact e
def FgC (c : Hp) : Prop := c.1 23 4 = 0 ∧ (∀ x, x < 6 → c.1 24 x = 0 ∧ c.1 25 x = 0) ∧ (∀ i, i < 24 → c.1 27 i = 0) ∧ c.1 20 2 = 0
def FgM (m : Hp) : Prop := m.1 0 14 = 0 ∧ (∀ x, x < 6 → m.1 10 x = 0) ∧ ∀ i, i < 25 → m.1 9 i = 0
theorem Inv.made2 {n k : Nat} {f o : Nat → Nat} {c m c1 m1 : Hp} {out : Nat → Int64} (hG : Good n k f o) (hC : NetC n k f o c1) (hM : NetM n k f o m1) (hT : TapeR c m) (hSt : StR c) (hA : AdvR n c m) (hSc : Sm [1, 2, 3, 4, 5, 6, 7, 8, 9, 10, 14, 15, 20, 23, 24, 25, 27] c c1) (hSm : Sm [0, 1, 2, 3, 5, 6, 7, 9, 10] m m1) (e3 : m1.1 0 11 = m.1 0 11) (hf : FgC c1) (hg : FgM m1) : Inv (c1, m1, out) :=
  Inv.made hG hC hM hT hSt hA (by rw [(hSc 11 (by decide)).1]) (hSc 12 (by decide)).1 e3 (hSm 8 (by decide)).1 (hSc 29 (by decide)).1 (by rw [(hSc 32 (by decide)).2]) (hSm 14 (by decide)).1 hf.1 hg.1 hf.2.1 hg.2.1 hf.2.2.1 hg.2.2 hf.2.2.2
theorem C_take {n k : Nat} {f o : Nat → Nat} {c : Hp} (hC : NetC n (k + 1) f o c) (hk : k + 1 ≤ 24) : Ev (f_X10_take c) (fun r => ∃ c1, r = .inr (nI k, c1) ∧ NetC n k f o c1 ∧ Sm [1, 20, 23, 24, 25, 27] c c1 ∧ FgC c1) := by
  unfold f_X10_take f_X9_dropLast_1
  refine Ev_f (by rw [hC.2.1, n0, neqI (by omega) (by omega)]; omega) ?_
  refine Ev_bd (fun r => r = wF c 1 1 (nI k)) (Ev_nm (Ev_so (by rw [hC.2.1, n1, nsub (by omega)]; rfl))) (fun r e => ?_)
  subst e
  refine Ev_bd _ (s_forgetC _) (fun c1 ⟨hS, h1, h2, h3, h4⟩ => ?_)
  have e1 : c1.1 1 1 = nI k := by rw [(hS 1 (by decide)).1, wF_1, upd_s]
  refine Ev_so ⟨c1, by rw [e1], ⟨?_, e1, fun i hi => ?_⟩, (Sm.rf.sF (by decide)).tr (hS.mono (by decide)), h1, h2, h3, h4⟩
  · rw [(hS 1 (by decide)).1, wF_1, upd_n _ _ (by decide)]; exact hC.1
  · rw [(hS 2 (by decide)).1, (hS 3 (by decide)).1, wF_n _ _ _ _ _ (by decide), wF_n _ _ _ _ _ (by decide)]
    exact hC.2.2 i (by omega)
theorem M_take {n k : Nat} {f o : Nat → Nat} {m : Hp} (hM : NetM n (k + 1) f o m) (hk : k + 1 ≤ 24) : Ev (f_X11_take m) (fun r => ∃ m1, r = (nI k, m1) ∧ NetM n k f o m1 ∧ Sm [0, 9, 10] m m1 ∧ m1.1 0 0 = 0 ∧ m1.1 0 11 = m.1 0 11 ∧ FgM m1) := by
  unfold f_X11_take
  refine Ev_jn1 (fun z => z = 0) (fun z hz => ?_) (fun j hj => Ev_f (by rw [hM.2.1, n0, neqI (by omega) (by omega)]; omega) (hj 0 rfl))
  subst hz
  have e0 : (wF m 0 0 0).1 0 2 - 1 = nI k := by rw [wF_1, upd_n _ _ (by decide), hM.2.1, n1, nsub (by omega)]; rfl
  refine Ev_nm (Ev_t (by rw [wF_1, upd_s]; exact Int32.le_refl _) (Ev_nm ?_))
  refine Ev_bd _ (s_forgetM _) (fun m1 ⟨hS, h1, h2, h3, h4⟩ => ?_)
  have h0 : ∀ j, j ≠ 14 → m1.1 0 j = upd (upd (m.1 0) 0 0) 2 (nI k) j := by
    intro j hj
    rw [h2 j hj, wF_1, e0, wF_1]
  have e1 : m1.1 0 2 = nI k := by rw [h0 2 (by decide), upd_s]
  refine Ev_so ⟨m1, by rw [e1], ⟨?_, e1, fun i hi => ?_, ?_, fun r hr x hx => ?_⟩, ((Sm.rf.sF (by decide)).sF (by decide)).tr hS, ?_, ?_, h1, h3, h4⟩
  · rw [h0 1 (by decide), upd_n _ _ (by decide), upd_n _ _ (by decide)]; exact hM.1
  · rw [(hS 1 (by decide)).1, (hS 2 (by decide)).1]
    simp (disch := omega) only [wF_n]
    exact hM.2.2.1 i (by omega)
  · rw [h0 7 (by decide), upd_n _ _ (by decide), upd_n _ _ (by decide)]; exact hM.2.2.2.1
  · rw [(hS 4 (by decide)).1]
    simp (disch := omega) only [wF_n]
    exact hM.2.2.2.2 r hr x hx
  · rw [h0 0 (by decide), upd_n _ _ (by decide), upd_s]
  · rw [h0 11 (by decide), upd_n _ _ (by decide), upd_n _ _ (by decide)]
theorem M_take0 {n : Nat} {f o : Nat → Nat} {m : Hp} (hM : NetM n 0 f o m) : f_X11_take m = some (0, wF m 0 0 1) := by
  refine Ev_eq ?_
  unfold f_X11_take
  refine Ev_jn1 (fun z => z = 1) (fun z hz => ?_) (fun j hj => Ev_t (show m.1 0 2 = 0 from hM.2.1) (hj 1 rfl))
  subst hz
  exact Ev_nm (Ev_f (by rw [wF_1, upd_s]; decide) (Ev_so rfl))
/-- the reference's answer to whether it threw is set, all else stays -/
theorem Inv.thrown {c m : Hp} {out out1 : Nat → Int64} {x : Int32} (h : Inv (c, m, out)) : Inv (c, wF m 0 0 x, out1) := by
  obtain ⟨n, k, f, o, hG, hC, hM, hT, hB, hS, hSt, hA⟩ := h
  have e : ∀ j, j ≠ 0 → (wF m 0 0 x).1 0 j = m.1 0 j := fun j hj => by rw [wF_1, upd_n _ _ hj]
  have en : ∀ q, q ≠ 0 → (wF m 0 0 x).1 q = m.1 q := fun q hq => wF_n _ _ _ _ _ hq
  refine ⟨n, k, f, o, hG, hC, hM.keep (e 1 (by decide)) (e 2 (by decide)) (e 7 (by decide)) (en 1 (by decide)) (en 2 (by decide)) (en 4 (by decide)), hT.keep rfl rfl (e 11 (by decide)) (en 8 (by decide)), ?_, hS, hSt, hA.keep rfl (en 14 (by decide))⟩
  obtain ⟨t, v, h1, h2, h3, h4, h5, h6, h7⟩ := hB
  exact ⟨t, v, h1, h2, h3, h4, (e 14 (by decide)).trans h5, fun x hx => by show _ ∧ _ ∧ (wF m 0 0 _).1 10 x = _; rw [en 10 (by decide)]; exact h6 x hx, fun i hi => by show _ ∧ (wF m 0 0 _).1 9 i = _; rw [en 9 (by decide)]; exact h7 i hi⟩
theorem pc_2 {L : Nat} {xs : Nat → Int32} {i : Int32} {s : LWS} {kont : LWS → Option Unit} (hI : Inv s) (hi : OKi L i) (hk : ∀ s1, Inv s1 → kont s1 = some ()) : lc_2 L xs i s kont = some () := by
  obtain ⟨c, m, out⟩ := s
  have hI0 := hI
  obtain ⟨n, k, f, o, hG, hC, hM, hT, hB, hS, hSt, hA⟩ := hI
  cases k with
  | zero =>
    have h1 : f_X10_take c = some (.inl ("java/lang/IllegalStateException", c)) := by
      unfold f_X10_take
      exact if_pos hC.2.1
    have h2 := M_take0 hM
    simp [lc_2, fh_take, h1, h2, hcatch, bd, nm, setM, setC, setO, f_X11_thrown, jn0, wF_1, upd_s]
    exact hk _ hI0.thrown
  | succ k =>
    obtain ⟨r1, h1, c1, rfl, a1, a2, a3⟩ := C_take hC hG.2.2.1
    obtain ⟨r2, h2, m1, rfl, b1, b2, b3, b4, b5⟩ := M_take hM hG.2.2.1
    simp [lc_2, fh_take, h1, h2, hcatch, bd, nm, setM, setC, setO, f_X11_thrown, jn0, b3, updL_s, lgc]
    exact hk _ (Inv.made2 ⟨hG.1, hG.2.1, Nat.le_of_succ_le hG.2.2.1, fun i hi => hG.2.2.2 i (by omega)⟩ a1 b1 hT hSt hA (a2.mono (by decide)) (b2.mono (by decide)) b4 a3 b5)
