theorem neg_rem {x : Int32} (hx : x < 0) : irm x (10 : Int32) < 0 ∨ (irm x (10 : Int32) = 0 ∧ x / 10 < 0) := by
  have hX : x.toInt < 0 := Int32.lt_iff_toInt_lt.mp hx
  have hlo := Int32.le_toInt x
  have h10 : (10 : Int32).toInt = 10 := by decide
  have hd : (x / 10).toInt = -((-x.toInt) / 10) := by
    rw [Int32.toInt_div, h10]
    have e : x.toInt.tdiv 10 = -((-x.toInt) / 10) := by
      have h1 : x.toInt = -(-x.toInt) := by omega
      rw [h1, Int.neg_tdiv, Int.tdiv_eq_ediv_of_nonneg (by omega)]
      omega
    rw [e]
    apply Int.bmod_eq_of_le
    · omega
    · omega
  have hm : (x / 10 * 10).toInt = -((-x.toInt) / 10) * 10 := by
    rw [Int32.toInt_mul, hd, h10]
    apply Int.bmod_eq_of_le
    · omega
    · omega
  have hr : (irm x (10 : Int32)).toInt = x.toInt + ((-x.toInt) / 10) * 10 := by
    unfold irm
    rw [Int32.toInt_sub, hm]
    rw [Int.bmod_eq_of_le]
    · omega
    · omega
    · omega
  by_cases h : irm x (10 : Int32) < 0
  · exact Or.inl h
  · right
    have h0 : ¬ (irm x (10 : Int32)).toInt < 0 := fun z => h (Int32.lt_iff_toInt_lt.mpr z)
    rw [hr] at h0
    constructor
    · apply Int32.toInt_inj.mp
      rw [hr]
      have : (0 : Int32).toInt = 0 := by decide
      omega
    · rw [Int32.lt_iff_toInt_lt, hd]
      have : (0 : Int32).toInt = 0 := by decide
      omega
theorem C_ofCode_neg {n : Nat} {x : Int32} (hn : n ≤ 6) (hn2 : 2 ≤ n) (hx : x < 0) : f_X5_ofCode x (nI n) = some (-1) := by
  refine Ev_eq ?_
  unfold f_X5_ofCode
  refine Ev_jn2 (fun _ _ => False) (fun a b h => h.elim) (fun k74 h74 => Ev_jn0 True (fun _ => Ev_so rfl) (fun k47 h47 => ?_))
  have hN2 := FU_lt (n := 2) (by omega)
  generalize FU = N at hN2
  obtain ⟨M, rfl⟩ : ∃ M, N = M + 1 + 1 := ⟨N - 2, by omega⟩
  show Ev (L_X5_ofCode_10 _ _ _ (fx4 _ (M + 1)) _ _ _ _) _
  unfold L_X5_ofCode_10
  refine Ev_f (by rw [show (0 : Int32) = nI 0 from rfl]; exact nle_n (by omega) (by omega)) (Ev_nm (Ev_nm (Ev_i (fun _ => h47 trivial) (fun e => ?_))))
  obtain ⟨e1, e2⟩ := (neg_rem hx).resolve_left e
  rw [e1]
  refine Ev_f (by rw [show (0 : Int32) = nI 0 from rfl]; exact nle_n (by omega) (by omega)) (Ev_t (by decide) (Ev_nm (Ev_nm ?_)))
  show Ev (L_X5_ofCode_10 _ _ _ (fx4 _ M) _ _ _ _) _
  unfold L_X5_ofCode_10
  refine Ev_f (by rw [show (0 : Int32) + 1 = nI 1 from rfl]; exact nle_n (by omega) (by omega)) (Ev_nm (Ev_nm (Ev_i (fun _ => h47 trivial) (fun e3 => ?_))))
  obtain ⟨e4, e5⟩ := (neg_rem e2).resolve_left e3
  rw [e4]
  exact Ev_f (by rw [show (0 : Int32) = nI 0 from rfl]; exact nle_n (by omega) (by omega)) (Ev_f (by decide) (h47 trivial))
theorem M_rowOf_neg {n : Nat} {x : Int32} {m : Hp} (hn : n ≤ 6) (hn2 : 2 ≤ n) (hx : x < 0) (hm : m.1 0 1 = nI n) : f_X11_rowOf m x = some (-1, m) := by
  refine Ev_eq ?_
  unfold f_X11_rowOf
  refine Ev_jn3 (fun a b h => a = x ∧ h = m) (fun a b h ⟨ea, eh⟩ => ?_) (fun kk hk => ?_)
  · subst ea; subst eh
    exact Ev_f (fun z => by rw [z] at hx; exact absurd hx (by decide)) (Ev_so rfl)
  · have hN2 := FU_lt (n := 2) (by omega)
    generalize FU = N at hN2
    obtain ⟨M, rfl⟩ : ∃ M, N = M + 1 := ⟨N - 1, by omega⟩
    show Ev (L_X11_rowOf_7 _ (fx4 _ M) _ _ _ _) _
    unfold L_X11_rowOf_7
    exact Ev_i (fun _ => hk _ _ _ ⟨rfl, rfl⟩) (fun _ => Ev_t hx (hk _ _ _ ⟨rfl, rfl⟩))
/-- a code: of a row, or none -/
theorem codes {n : Nat} {m : Hp} (x : Int32) (hn : n ≤ 6) (hn2 : 2 ≤ n) (hm : m.1 0 1 = nI n) : (∃ v, PermN n v ∧ (∃ q, f_X5_ofCode x (nI n) = some (nI q) ∧ PK n v q) ∧ Ev (f_X11_rowOf m x) (fun r => Sm [5] m r.2 ∧ r.1 = nI (num n v) ∧ RwM n v r.2)) ∨ (f_X5_ofCode x (nI n) = some (-1) ∧ Ev (f_X11_rowOf m x) (fun r => Sm [5] m r.2 ∧ r.1 = -1)) := by
  by_cases hx : x < 0
  · exact Or.inr ⟨C_ofCode_neg hn hn2 hx, _, M_rowOf_neg hn hn2 hx hm, Sm.rf, rfl⟩
  · obtain ⟨c, hc, rfl⟩ := nI_of hx
    obtain ⟨y, hy, a1, a2⟩ := C_ofCode hn hc
    obtain ⟨r, hr, b0, b1, b2⟩ := M_rowOf hn hc hm
    by_cases h : isCd n c
    · obtain ⟨q, rfl, hq⟩ := a1 h
      exact Or.inl ⟨dgN c, h.1, ⟨q, hy, hq⟩, r, hr, b0, b1 h⟩
    · have := a2 h
      subst this
      exact Or.inr ⟨hy, r, hr, b0, b2 h⟩
theorem C_rowOf_t {n q : Nat} {c : Hp} {x : Int32} (hc : c.1 1 0 = nI n) (hq : q < 2 ^ 24) (h : f_X5_ofCode x (nI n) = some (nI q)) : f_X10_rowOf c x = some (.inr (nI q, c)) := by
  refine Ev_eq ?_
  unfold f_X10_rowOf
  rw [hc]
  exact Ev_bde h (Ev_f (fun z => nI_pos (n := q) (by omega) (by rw [z]; decide)) (Ev_so rfl))
theorem C_rowOf_f {n : Nat} {c : Hp} {x : Int32} (hc : c.1 1 0 = nI n) (h : f_X5_ofCode x (nI n) = some (-1)) : f_X10_rowOf c x = some (.inl ("java/lang/IllegalArgumentException", c)) := by
  refine Ev_eq ?_
  unfold f_X10_rowOf
  rw [hc]
  exact Ev_bde h (Ev_t rfl (Ev_so rfl))
theorem Inv.rowed {c m c1 m1 : Hp} {out out1 : Nat → Int64} {x : Int32} (h : Inv (c, m, out)) (hc : Sm [4, 5, 6, 7, 8, 9, 10, 14, 15, 17, 18, 19, 26, 28, 30, 31, 34] c c1) (hm : ∃ m0, Sm [3, 5, 6, 7, 11, 12, 13, 15, 16, 17, 18] m m0 ∧ Sm [3, 5, 6, 7, 11, 12, 13, 15, 16, 17, 18] (wF m0 0 0 x) m1) : Inv (c1, m1, out1) := by
  obtain ⟨m0, h1, h2⟩ := hm
  refine h.keep hc (((h1.mono (by decide)).tr (Sm.rf.sF (by decide))).tr (h2.mono (by decide))) (fun j hj => ?_)
  rw [(h2 0 (by decide)).1, wF_1, upd_n _ _ (by rintro rfl; revert hj; decide), (h1 0 (by decide)).1]
theorem num_small {n : Nat} {v : Nat → Nat} (hn : n ≤ 6) (hv : PermN n v) : num n v < 2 ^ 30 := by
  have := num_lt' hn hv
  have := fac_le n (by omega)
  omega
theorem ne_m1 {q : Nat} (h : q < 2 ^ 31) : ¬ nI q = -1 := fun z => nI_pos h (by rw [z]; decide)
theorem pc_14 {L : Nat} {xs : Nat → Int32} {i : Int32} {s : LWS} {kont : LWS → Option Unit} (hI : Inv s) (hi : OKi L i) (hk : ∀ s1, Inv s1 → kont s1 = some ()) : lc_14 L xs i s kont = some () := by
  obtain ⟨c, m, out⟩ := s
  have hI0 := hI
  obtain ⟨n, k, f, o, hG, hC, hM, hT, hB, hS, hSt, hA⟩ := hI
  have hn := hG.2.1
  have hn2 := hG.1
  generalize hx : xs (i + 1).toNatClampNeg = x
  rcases codes (m := m) x hn hn2 hM.1 with ⟨v, hv, ⟨q, hq, hPK⟩, r2, hr2, b0, b1, b2⟩ | ⟨hq, r2, hr2, b0, b1⟩
  · have h1 : ∃ c1, f_X10_run c x = some (.inr (nI (cdS n (netN f o k v) n), c1)) ∧ c1 = c := by
      refine ⟨c, Ev_eq ?_, rfl⟩
      unfold f_X10_run
      rw [bdx_r (C_rowOf_t hC.1 (hPK.lt hn) hq)]
      refine Ev_bd _ (C_sent hG hC hPK hv.1) (fun y ⟨p, ep, hp⟩ => ?_)
      subst ep
      dsimp only
      rw [hC.1]
      have hl := net_lt hG hv.1 k (Nat.le_refl k)
      exact Ev_bde (C_toCode hn hp (fun x hx => by have := hl x hx; omega) (by omega)) (Ev_so rfl)
    obtain ⟨c1, h1, rfl⟩ := h1
    have h2 : Ev (f_X11_run m x) (fun r => r.1 = nI (cdS n (netN f o k v) n) ∧ r.2.1 0 0 = 0 ∧ Sm [5] (wF r2.2 0 0 0) r.2) := by
      unfold f_X11_run
      refine Ev_bde hr2 (Ev_jn1 (fun z => z = 0) (fun z hz => ?_) (fun j hj => Ev_f (by rw [b1]; exact ne_m1 (by have := num_small hn hv; omega)) (hj 0 rfl)))
      subst hz
      have hM2 : NetM n k f o (wF r2.2 0 0 0) := (Sm.nM hM b0 (by decide) (by decide) (by decide) (by decide)).t
      have hR : RwM n v (wF r2.2 0 0 0) := fun x hx => by rw [wF_n _ _ _ _ _ (by decide)]; exact b2 x hx
      have e0 : (wF r2.2 0 0 0).1 0 0 = 0 := by rw [wF_1, upd_s]
      refine Ev_nm (Ev_t (by rw [e0]; exact Int32.le_refl _) (Ev_bd _ (M_goes hG hM2 hR hv.1) (fun h ⟨q1, q2⟩ => ?_)))
      have hh : h.1 0 1 = nI n := by rw [(q2 0 (by decide)).1]; exact hM2.1
      exact Ev_bde (M_codeOf hn (by omega) hh q1) (Ev_so ⟨rfl, by rw [(q2 0 (by decide)).1, e0], q2⟩)
    obtain ⟨r3, h3, c1, c2, c3⟩ := h2
    simp [lc_14, fh_run, hx, h1, h3, c1, c2, hcatch, bd, nm, setM, setC, setO, f_X11_thrown, jn0, (hi _).1, updL_s, lgc]
    exact hk _ (hI0.rowed Sm.rf ⟨r2.2, b0.mono (by decide), c3.mono (by decide)⟩)
  · have h1 : f_X10_run c x = some (.inl ("java/lang/IllegalArgumentException", c)) := by
      unfold f_X10_run
      exact bdx_l (C_rowOf_f hC.1 hq)
    have h2 : f_X11_run m x = some (0, wF r2.2 0 0 1) := by
      refine Ev_eq ?_
      unfold f_X11_run
      refine Ev_bde hr2 (Ev_jn1 (fun z => z = 1) (fun z hz => ?_) (fun j hj => Ev_t b1 (hj 1 rfl)))
      subst hz
      exact Ev_nm (Ev_f (by rw [wF_1, upd_s]; decide) (Ev_so rfl))
    simp [lc_14, fh_run, hx, h1, h2, hcatch, bd, nm, setM, setC, setO, f_X11_thrown, jn0, wF_1, upd_s, (hi _).1]
    exact hk _ (hI0.rowed Sm.rf ⟨r2.2, b0.mono (by decide), Sm.rf⟩)
