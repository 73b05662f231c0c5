/-! CASE bad -/
theorem ColN.ct {n : Nat} {z : Int64} {p : Nat → Bool} (hn : n ≤ 6) (h : ColN n z p) : ctB (bt64 z) 64 = ctB p (2 ^ n) := by
  have hle : 2 ^ n ≤ 2 ^ 6 := Nat.pow_le_pow_right (by omega) hn
  have e : 64 = 2 ^ n + (64 - 2 ^ n) := by omega
  have h2 : ctB (fun j => bt64 z (2 ^ n + j)) (64 - 2 ^ n) = 0 := ct_0.mpr (fun r hr => by rw [h _ (by omega), decide_eq_false (by omega), Bool.false_and])
  have h3 : ctB (bt64 z) (2 ^ n) = ctB p (2 ^ n) := ct_congr (fun r hr => by rw [h r (by omega), decide_eq_true hr, Bool.true_and])
  have h4 := ct_add (p := bt64 z) (a := 2 ^ n) (64 - 2 ^ n)
  rw [h2, h3, ← e] at h4
  exact h4
theorem C_bad_t {n k sp md : Nat} {f o : Nat → Nat} {c : Hp} (hG : Good n k f o) (hC : NetC n k f o c) (hsp : sp < k) (hmd : md ≤ 2) : Ev (f_X10_bad c (nI sp) (nI md)) (fun r => ∃ c1, r = .inr (nI (ctB (fun r => unsB n (netB f o sp md k (bR r))) (2 ^ n)), c1) ∧ Sm [14] c c1) := by
  unfold f_X10_bad
  rw [bdx_r (C_cmp_t hC.2.1 hG.2.2.1 hsp), bdx_r (C_flt_t (by omega))]
  exact Ev_bd _ (s_unsortedWith hG hC hsp hmd) (fun r ⟨h1, h2, h3⟩ => Ev_bd _ (s_bitCount r.1) (fun y hy => Ev_so ⟨_, by rw [hy, h3.ct hG.2.1], h1⟩))
theorem M_bad_t {n k sp md : Nat} {f o : Nat → Nat} {m : Hp} (hG : Good n k f o) (hM : NetM n k f o m) (hsp : sp < k) (hmd : md ≤ 2) : Ev (f_X11_bad m (nI sp) (nI md)) (fun r => r = (nI (ctB (fun r => unsB n (netB f o sp md k (bR r))) (2 ^ n)), wF m 0 0 0)) := by
  have hk24 := hG.2.2.1
  unfold f_X11_bad
  refine Ev_bd _ (M_misses hk24 hM) (fun y ⟨_, _, hy⟩ => ?_)
  have e : y = 0 := hy (by rintro (h | h); exact nI_pos (by omega) h; rw [nI_leI (by omega) (by omega)] at h; omega) (by rintro (h | h); exact nI_pos (by omega) h; rw [nI_leI (by omega) (by omega)] at h; omega)
  subst e
  exact Ev_nm (Ev_t (by rw [wF_1, upd_s]; exact Int32.le_refl _) (Ev_bd _ (r_unsorted hG hM.t (SpI.n (by omega)) hmd) (fun z hz => Ev_so (by rw [hz]))))
theorem M_bad_f {n k : Nat} {f o : Nat → Nat} {m : Hp} {x y : Int32} (hk : k ≤ 24) (hM : NetM n k f o m) (hb : badI k x ∨ badI 3 y) : Ev (f_X11_bad m x y) (fun r => (badI k x → r = (0, wF m 0 0 1)) ∧ (¬ badI k x → r = (0, wF m 0 0 2))) := by
  unfold f_X11_bad
  refine Ev_bd _ (M_misses hk hM) (fun z ⟨h1, h2, _⟩ => ?_)
  by_cases h : badI k x
  · rw [h1 h]
    exact Ev_nm (Ev_f (by rw [wF_1, upd_s]; decide) (Ev_so ⟨fun _ => rfl, fun q => absurd h q⟩))
  · rw [h2 h (hb.resolve_left h)]
    exact Ev_nm (Ev_f (by rw [wF_1, upd_s]; decide) (Ev_so ⟨fun q => absurd q h, fun _ => rfl⟩))
theorem pc_29 {L : Nat} {xs : Nat → Int32} {i : Int32} {s : LWS} {kont : LWS → Option Unit} (hI : Inv s) (hi : OKi L i) (hk : ∀ s1, Inv s1 → kont s1 = some ()) : lc_29 L xs i s kont = some () := by
  obtain ⟨c, m, out⟩ := s
  have hI0 := hI
  obtain ⟨n, k, f, o, hG, hC, hM, hT, hB, hS, hSt, hA⟩ := hI
  have hk24 := hG.2.2.1
  generalize hx : xs (i + 1).toNatClampNeg = x
  generalize hy : xs (i + 2).toNatClampNeg = y
  by_cases hb : badI k x
  · have h1 : f_X10_bad c x y = some (.inl ("java/lang/IndexOutOfBoundsException", c)) := by
      unfold f_X10_bad
      exact bdx_l (C_cmp_f hC.2.1 hb)
    obtain ⟨r2, h2, e2, -⟩ := M_bad_f (y := y) hk24 hM (Or.inl hb)
    rw [e2 hb] at h2
    simp [lc_29, fh_bad, hx, hy, h1, h2, hcatch, bd, nm, setM, setC, setO, f_X11_thrown, jn0, wF_1, upd_s, (hi _).1, (hi _).2.1]
    exact hk _ hI0.thrown
  · obtain ⟨a, ha, rfl⟩ := (wire_or (n := k) (by omega) x).resolve_left hb
    by_cases hb2 : badI 3 y
    · have h1 : f_X10_bad c (nI a) y = some (.inl ("java/lang/IllegalArgumentException", c)) := by
        unfold f_X10_bad
        rw [bdx_r (C_cmp_t hC.2.1 hk24 ha)]
        exact bdx_l (C_flt_f hb2)
      obtain ⟨r2, h2, -, e2⟩ := M_bad_f (x := nI a) hk24 hM (Or.inr hb2)
      rw [e2 hb] at h2
      simp [lc_29, fh_bad, hx, hy, h1, h2, hcatch, bd, nm, setM, setC, setO, f_X11_thrown, jn0, wF_1, upd_s, (hi _).1, (hi _).2.1]
      exact hk _ hI0.thrown
    · obtain ⟨b, hb3, rfl⟩ := (wire_or (n := 3) (by omega) y).resolve_left hb2
      obtain ⟨r1, h1, c1, rfl, a1⟩ := C_bad_t hG hC ha (show b ≤ 2 by omega)
      obtain ⟨r2, h2, rfl⟩ := M_bad_t hG hM ha (show b ≤ 2 by omega)
      simp [lc_29, fh_bad, hx, hy, h1, h2, hcatch, bd, nm, setM, setC, setO, f_X11_thrown, jn0, wF_1, upd_s, (hi _).1, (hi _).2.1, updL_s, lgc]
      exact hk _ (hI0.scr (a1.mono (by decide)))
