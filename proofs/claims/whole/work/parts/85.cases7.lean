theorem ct_t {p : Nat → Bool} {n : Nat} (h : p n = true) : nI (ctB p (n + 1)) = nI (ctB p n) + 1 := by
  show nI (ctB p n + _) = _
  rw [if_pos h]; exact (nI_add _ 1).symm
theorem ct_f {p : Nat → Bool} {n : Nat} (h : ¬ p n = true) : nI (ctB p (n + 1)) = nI (ctB p n) := by
  show nI (ctB p n + _) = _
  rw [if_neg h]; rfl
def tellP (n k : Nat) (f o : Nat → Nat) (sp md : Nat) : Nat → Bool := fun r => (List.range n).any (fun x => netB f o sp md k (bR r) x ^^ netB f o 99 0 k (bR r) x)
theorem C_tells_t {n k sp md : Nat} {f o : Nat → Nat} {c : Hp} (hG : Good n k f o) (hC : NetC n k f o c) (hsp : sp < k) (hmd : md ≤ 2) : Ev (f_X10_tells c (nI sp) (nI md)) (fun r => ∃ z c1, r = .inr (z, c1) ∧ Sm [14, 15] c c1 ∧ ColN n z (tellP n k f o sp md)) := by
  unfold f_X10_tells
  rw [bdx_r (C_cmp_t hC.2.1 hG.2.2.1 hsp), bdx_r (C_flt_t (by omega))]
  exact Ev_bd _ (s_telling hG hC hsp hmd) (fun r ⟨h1, h2, h3⟩ => Ev_so ⟨_, _, rfl, h1, h3⟩)
theorem M_tells_t {n k sp md : Nat} {f o : Nat → Nat} {m : Hp} (hG : Good n k f o) (hM : NetM n k f o m) (hsp : sp < k) (hmd : md ≤ 2) : Ev (f_X11_tells m (nI sp) (nI md)) (fun r => ∃ z, r = (z, wF m 0 0 0) ∧ ColN n z (tellP n k f o sp md)) := by
  have hk24 := hG.2.2.1
  unfold f_X11_tells
  refine Ev_bd _ (M_misses hk24 hM) (fun y ⟨_, _, hy⟩ => ?_)
  have e : y = 0 := hy (by rintro (h | h); exact nI_pos (by omega) h; rw [nI_leI (by omega) (by omega)] at h; omega) (by rintro (h | h); exact nI_pos (by omega) h; rw [nI_leI (by omega) (by omega)] at h; omega)
  subst e
  refine Ev_nm (Ev_t (by rw [wF_1, upd_s]; exact Int32.le_refl _) (Ev_bd _ (r_tellers hG hM.t hsp hmd) (fun z hz => Ev_so ⟨z, rfl, hz⟩)))
theorem M_tells_f {n k : Nat} {f o : Nat → Nat} {m : Hp} {x y : Int32} (hk : k ≤ 24) (hM : NetM n k f o m) (hb : badI k x ∨ badI 3 y) : Ev (f_X11_tells m x y) (fun r => (badI k x → r = (0, wF m 0 0 1)) ∧ (¬ badI k x → r = (0, wF m 0 0 2))) := by
  unfold f_X11_tells
  refine Ev_bd _ (M_misses hk hM) (fun z ⟨h1, h2, _⟩ => ?_)
  by_cases h : badI k x
  · rw [h1 h]
    exact Ev_nm (Ev_f (by rw [wF_1, upd_s]; decide) (Ev_so ⟨fun _ => rfl, fun q => absurd h q⟩))
  · rw [h2 h (hb.resolve_left h)]
    exact Ev_nm (Ev_f (by rw [wF_1, upd_s]; decide) (Ev_so ⟨fun q => absurd q h, fun _ => rfl⟩))
theorem pc_30 {L : Nat} {xs : Nat → Int32} {i : Int32} {s : LWS} {kont : LWS → Option Unit} (hI : Inv s) (hi : OKi L i) (hk : ∀ s1, Inv s1 → kont s1 = some ()) : lc_30 L xs i s kont = some () := by
  obtain ⟨c, m, out⟩ := s
  have hI0 := hI
  obtain ⟨n, k, f, o, hG, hC, hM, hT, hB, hS, hSt, hA⟩ := hI
  have hk24 := hG.2.2.1
  generalize hx : xs (i + 1).toNatClampNeg = x
  generalize hy : xs (i + 2).toNatClampNeg = y
  by_cases hb : badI k x
  · have h1 : f_X10_tells c x y = some (.inl ("java/lang/IndexOutOfBoundsException", c)) := by
      unfold f_X10_tells
      exact bdx_l (C_cmp_f hC.2.1 hb)
    obtain ⟨r2, h2, e2, -⟩ := M_tells_f (y := y) hk24 hM (Or.inl hb)
    rw [e2 hb] at h2
    simp [lc_30, fh_tells, hx, hy, h1, h2, hcatch, bd, nm, setM, setC, setO, f_X11_thrown, jn0, wF_1, upd_s, (hi _).1, (hi _).2.1]
    exact hk _ hI0.thrown
  · obtain ⟨a, ha, rfl⟩ := (wire_or (n := k) (by omega) x).resolve_left hb
    by_cases hb2 : badI 3 y
    · have h1 : f_X10_tells c (nI a) y = some (.inl ("java/lang/IllegalArgumentException", c)) := by
        unfold f_X10_tells
        rw [bdx_r (C_cmp_t hC.2.1 hk24 ha)]
        exact bdx_l (C_flt_f hb2)
      obtain ⟨r2, h2, -, e2⟩ := M_tells_f (x := nI a) hk24 hM (Or.inr hb2)
      rw [e2 hb] at h2
      simp [lc_30, fh_tells, hx, hy, h1, h2, hcatch, bd, nm, setM, setC, setO, f_X11_thrown, jn0, wF_1, upd_s, (hi _).1, (hi _).2.1]
      exact hk _ hI0.thrown
    · obtain ⟨b, hb3, rfl⟩ := (wire_or (n := 3) (by omega) y).resolve_left hb2
      obtain ⟨r1, h1, z1, c1, rfl, a1, a2⟩ := C_tells_t hG hC ha (show b ≤ 2 by omega)
      obtain ⟨r2, h2, z2, rfl, b2⟩ := M_tells_t hG hM ha (show b ≤ 2 by omega)
      have e : z1 = z2 := a2.eq b2 (fun _ _ => rfl)
      subst e
      simp [lc_30, fh_tells, hx, hy, h1, h2, hcatch, bd, nm, setM, setC, setO, f_X11_thrown, jn0, wF_1, upd_s, (hi _).1, (hi _).2.1, updL_s, lgc]
      exact hk _ (hI0.scr (a1.mono (by decide)))
/-- faults that given rows do not show -/
def hidB (n k : Nat) (f o : Nat → Nat) (z : Int64) (j : Nat) : Bool := (List.range (2 ^ n)).all (fun r => !(tellP n k f o (j / 3) (j % 3) r && bt64 z r))
theorem hid_iff {n k j : Nat} {f o : Nat → Nat} {z t : Int64} (hn : n ≤ 6) (ht : ColN n t (tellP n k f o (j / 3) (j % 3))) : lg_cmp (t &&& z) 0 = 0 ↔ hidB n k f o z j = true := by
  have hle : 2 ^ n ≤ 2 ^ 6 := Nat.pow_le_pow_right (by omega) hn
  rw [lg_eq]
  unfold hidB
  rw [List.all_eq_true]
  constructor
  · intro h r hr
    have hr := List.mem_range.mp hr
    have h2 : bt64 (t &&& z) r = false := by rw [h, bt_0]
    rw [bt_and, ht r (by omega), decide_eq_true hr, Bool.true_and] at h2
    rw [h2]; rfl
  · intro h
    apply bt_ext
    intro r hr
    rw [bt_0, bt_and, ht r hr]
    by_cases q : r < 2 ^ n
    · have := h r (List.mem_range.mpr q)
      rw [decide_eq_true q, Bool.true_and]
      revert this
      cases tellP n k f o (j / 3) (j % 3) r <;> cases bt64 z r <;> decide
    · rw [decide_eq_false q]; rfl
theorem C_hidden {n k : Nat} {f o : Nat → Nat} {c : Hp} {z : Int64} (hG : Good n k f o) (hC : NetC n k f o c) : Ev (f_X10_hidden c z) (fun r => Sm [14, 15] c r.2 ∧ r.1 = nI (ctB (hidB n k f o z) (3 * k))) := by
  have hk24 := hG.2.2.1
  unfold f_X10_hidden f_X3_countHidden_18_13_1
  refine Ev_bd (fun r => Sm [14, 15] c r.2 ∧ r.1 = nI (ctB (hidB n k f o z) (3 * k))) ?_ (fun r hr => Ev_so hr)
  refine Ev_jn2 (fun a h => Sm [14, 15] c h ∧ a = nI (ctB (hidB n k f o z) (3 * k))) (fun a h hh => Ev_so hh) (fun k55 h55 => ?_)
  refine Ev_fx3 (fun j a1 a2 a3 => a2 = nI j ∧ Sm [14, 15] c a3 ∧ a3.1 = c.1 ∧ a1 = nI (ctB (hidB n k f o z) (3 * j))) k ?_ ?_ (FU_lt (by omega)) ⟨rfl, Sm.rf, rfl, rfl⟩
  · rintro self j a1 a2 a3 hj ⟨rfl, hS, he, h1⟩ hself
    unfold L_X3_countHidden_18_13_1_6
    rw [he, hC.2.1]
    refine Ev_f (nle_n hj (by omega)) ?_
    refine Ev_jn2 (fun a h => Sm [14, 15] c h ∧ h.1 = c.1 ∧ a = nI (ctB (hidB n k f o z) (3 * (j + 1)))) (fun a h ⟨q1, q2, q3⟩ => hself _ _ _ ⟨nI_add j 1, q1, q2, q3⟩) (fun k49 h49 => ?_)
    refine Ev_fx3 (fun t b1 b2 b3 => b2 = nI t ∧ Sm [14, 15] c b3 ∧ b3.1 = c.1 ∧ b1 = nI (ctB (hidB n k f o z) (3 * j + t))) 3 ?_ ?_ (FU_lt (by omega)) ⟨rfl, hS, he, h1⟩
    · rintro self t b1 b2 b3 ht ⟨rfl, hS, he, h1⟩ hself
      unfold L_X3_countHidden_18_13_1_18
      refine Ev_f (nI_nlt (a := 2) (by omega) (by omega)) (Ev_bd _ (s_telling (md := t) hG (hC.of he) hj (by omega)) (fun r ⟨d1, d2, d3⟩ => ?_))
      have hq : ColN n r.1 (tellP n k f o ((3 * j + t) / 3) ((3 * j + t) % 3)) := by
        rw [show (3 * j + t) / 3 = j by omega, show (3 * j + t) % 3 = t by omega]
        exact d3
      have hh := hid_iff (z := z) hG.2.1 hq
      refine Ev_i (fun e => hself _ _ _ ⟨nI_add t 1, hS.tr d1, d2.trans he, ?_⟩) (fun e => hself _ _ _ ⟨nI_add t 1, hS.tr d1, d2.trans he, ?_⟩)
      · rw [h1]; exact (ct_t (hh.mp e)).symm
      · rw [h1]; exact (ct_f (fun q => e (hh.mpr q))).symm
    · rintro self b1 b2 b3 ⟨rfl, hS, he, h1⟩
      unfold L_X3_countHidden_18_13_1_18
      exact Ev_t (nI_lt (a := 2) (by omega) (by omega)) (h49 _ _ ⟨hS, he, h1⟩)
  · rintro self a1 a2 a3 ⟨rfl, hS, he, h1⟩
    unfold L_X3_countHidden_18_13_1_6
    rw [he, hC.2.1]
    exact Ev_t (Int32.le_refl _) (h55 _ _ ⟨hS, h1⟩)
theorem ndiv {a b : Nat} (ha : a < 2 ^ 31) (h0 : 0 < b) (hb : b < 2 ^ 31) : nI a / nI b = nI (a / b) := pk_div ha h0 hb
theorem nmul (a b : Nat) : nI a * nI b = nI (a * b) := (Int32.ofNat_mul a b).symm
theorem M_hidden {n k : Nat} {f o : Nat → Nat} {m : Hp} {z : Int64} (hG : Good n k f o) (hM : NetM n k f o m) : Ev (f_X11_hidden m z) (fun r => r = (nI (ctB (hidB n k f o z) (3 * k)), wF m 0 0 0)) := by
  have hk24 := hG.2.2.1
  unfold f_X11_hidden
  refine Ev_nm ?_
  have hM1 := hM.t (x := 0)
  refine Ev_jn1 (fun a => a = nI (ctB (hidB n k f o z) (3 * k))) (fun a ha => Ev_so (by rw [ha])) (fun kk hk => ?_)
  generalize wF m 0 0 0 = g at hM1 hk
  refine Ev_fx2 (fun j a1 a2 => a2 = nI j ∧ a1 = nI (ctB (hidB n k f o z) j)) (3 * k) ?_ ?_ (FU_lt (by omega)) ⟨rfl, rfl⟩
  · rintro self j a1 a2 hj ⟨rfl, h1⟩ hself
    unfold L_X11_hidden_10
    rw [hM1.2.1, n3, nmul, ndiv (by omega) (by omega) (by omega), irmN (by omega) (by omega) (by omega)]
    refine Ev_f (nle_n hj (by omega)) (Ev_bd _ (r_tellers hG hM1 (show j / 3 < k by omega) (show j % 3 ≤ 2 by omega)) (fun r d3 => ?_))
    have hh := hid_iff (z := z) hG.2.1 d3
    refine Ev_i (fun e => Ev_nm (hself _ _ ⟨nI_add j 1, ?_⟩)) (fun e => Ev_nm (hself _ _ ⟨nI_add j 1, ?_⟩))
    · rw [h1]; exact (ct_t (hh.mp e)).symm
    · rw [h1, ct_f (fun q => e (hh.mpr q))]; exact nI_add _ 0
  · rintro self a1 a2 ⟨rfl, h1⟩
    unfold L_X11_hidden_10
    rw [hM1.2.1, n3, nmul]
    exact Ev_t (Int32.le_refl _) (hk _ h1)
theorem pc_31 {L : Nat} {xs : Nat → Int32} {i : Int32} {s : LWS} {kont : LWS → Option Unit} (hI : Inv s) (hi : OKi L i) (hk : ∀ s1, Inv s1 → kont s1 = some ()) : lc_31 L xs i s kont = some () := by
  obtain ⟨c, m, out⟩ := s
  have hI0 := hI
  obtain ⟨n, k, f, o, hG, hC, hM, hT, hB, hS, hSt, hA⟩ := hI
  unfold lc_31
  generalize (lshl (i2l (xs (i + (1 : Int32)).toNatClampNeg)) (32 : Int32)) ||| ((i2l (xs (i + (2 : Int32)).toNatClampNeg)) &&& (4294967295 : Int64)) = z
  obtain ⟨r1, h1, a1, a2⟩ := C_hidden (z := z) hG hC
  obtain ⟨r2, h2, rfl⟩ := M_hidden (z := z) hG hM
  simp only [h1, h2, bd, nm, setC, setM, (hi _).1, (hi _).2.1]
  rw [if_pos a2]
  exact hk _ (hI0.scr (a1.mono (by decide)))
