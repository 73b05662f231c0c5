/-! P43: one turn of the law -/
def smW (b : Nat → Nat) : Nat → Nat
  | 0 => 0
  | i + 1 => smW b i + i * b i
theorem smW_add {b b2 : Nat → Nat} {p : Nat} (h : ∀ y, b2 y = b y + if y = p then 1 else 0) : ∀ n, smW b2 n = smW b n + if p < n then p else 0
  | 0 => by rw [if_neg (by omega)]; rfl
  | n + 1 => by
    show smW b2 n + n * b2 n = smW b n + n * b n + _
    rw [smW_add h n, h n]
    by_cases e : n = p
    · rw [if_neg (by omega), if_pos e, if_pos (by omega), Nat.mul_add, e]; omega
    · rw [if_neg e, Nat.add_zero]
      by_cases e2 : p < n
      · rw [if_pos e2, if_pos (by omega)]; omega
      · rw [if_neg e2, if_neg (by omega)]; omega
theorem subN1 {p q r : Nat} : nI p - nI q + nI r = nI (p + r) - nI q := by
  rw [← nI_add, Int32.sub_eq_add_neg, Int32.sub_eq_add_neg, Int32.add_assoc, Int32.add_assoc, Int32.add_comm (-nI q)]
theorem subN2 {p q r : Nat} : nI p - nI q - nI r = nI p - nI (q + r) := by
  rw [← nI_add, Int32.sub_eq_add_neg, Int32.sub_eq_add_neg, Int32.sub_eq_add_neg, Int32.neg_add, Int32.add_assoc, Int32.sub_eq_add_neg]
theorem r_cell {L j : Nat} {xs : Nat → Int32} (hL : L ≤ 260) (hj : j < 70) : Ev (f_L_cell L xs (nI j)) (fun _ => True) := by
  unfold f_L_cell
  refine Ev_i (fun _ => Ev_so trivial) (fun h => ?_)
  rw [nI_leI (by omega) (by omega)] at h
  exact Ev_ck rfl (by omega) (by omega) (Ev_so trivial)
theorem r_123 {L : Nat} {xs : Nat → Int32} {a9 a12 a13 : Int32} {r3 : Row} {P : Int32 → Prop} {kk : Row → Option Int32} (hk : ∀ p, RwN 36 p (fun _ => 0) → Ev (kk p) P) : Ev (fx2 (L_L_law_123 L xs a9 a12 a13 kk) FU (0 : Int32) r3) P := by
  refine Ev_fx2 (fun j a p => a = nI j ∧ RwN j p (fun _ => 0)) 36 ?_ ?_ (FU_lt (by omega)) ⟨rfl, RwN.zero⟩
  · rintro self j a p hj ⟨rfl, h4⟩ hself
    unfold L_L_law_123
    refine Ev_f (nle_n (a := 36) hj (by omega)) (Ev_ck rfl (by omega) (by omega) (Ev_nm (hself _ _ ⟨nI_add j 1, ?_⟩)))
    rw [clN (by omega)]
    exact h4.put (y := 0) rfl
  · rintro self a p ⟨rfl, h4⟩
    unfold L_L_law_123
    exact Ev_t (Int32.le_refl _) (hk _ h4)
theorem r_356 {L n k : Nat} {xs : Nat → Int32} {a9 a12 a13 a14 : Int32} {b : Nat → Nat} {r4 r5 : Row} {P : Int32 → Prop} {kk : Int32 → Option Int32} (h5 : n ≤ 5) (hq : QrN n k r5) (h4 : RwN 6 r4 b) (hk : Ev (kk (nI 0 - nI (smW b n))) P) : Ev (fx2 (L_L_law_356 L xs a9 a12 a13 a14 r4 r5 kk) FU (0 : Int32) (0 : Int32)) P := by
  refine Ev_fx2 (fun j a i => i = nI j ∧ a = nI 0 - nI (smW b j)) n ?_ ?_ (FU_lt (by omega)) ⟨rfl, (show (0 : Int32) = nI 0 - nI 0 by decide)⟩
  · rintro self j a i hj ⟨rfl, rfl⟩ hself
    unfold L_L_law_356
    rw [cl0, hq.1, clN (by omega), h4 j (by omega), nmul, subN2]
    exact Ev_c0 (Ev_f (nle_n hj (by omega)) (Ev_ck rfl (by omega) (by omega) (Ev_nm (hself _ _ ⟨nI_add j 1, rfl⟩))))
  · rintro self a i ⟨rfl, rfl⟩
    unfold L_L_law_356
    rw [cl0, hq.1]
    exact Ev_c0 (Ev_t (Int32.le_refl _) hk)
theorem r_406 {L n k s : Nat} {xs : Nat → Int32} {a9 a12 a13 a14 : Int32} {b : Nat → Nat} {r4 r5 : Row} {P : Int32 → Prop} {kk : Int32 → Option Int32} (h5 : n ≤ 5) (hq : QrN n k r5) (h4 : RwN 6 r4 b) (hk : Ev (kk (nI (smW b n) - nI s)) P) : Ev (fx2 (L_L_law_406 L xs a9 a12 a13 a14 r4 r5 kk) FU (nI 0 - nI s) (0 : Int32)) P := by
  refine Ev_fx2 (fun j a i => i = nI j ∧ a = nI (smW b j) - nI s) n ?_ ?_ (FU_lt (by omega)) ⟨rfl, rfl⟩
  · rintro self j a i hj ⟨rfl, rfl⟩ hself
    unfold L_L_law_406
    rw [cl0, hq.1, clN (by omega), h4 j (by omega), nmul, subN1]
    exact Ev_c0 (Ev_f (nle_n hj (by omega)) (Ev_ck rfl (by omega) (by omega) (Ev_nm (hself _ _ ⟨nI_add j 1, rfl⟩))))
  · rintro self a i ⟨rfl, rfl⟩
    unfold L_L_law_406
    rw [cl0, hq.1]
    exact Ev_c0 (Ev_t (Int32.le_refl _) hk)
theorem r_308 {L T n k : Nat} {f o : Nat → Nat} {xs : Nat → Int32} {a9 a12 : Int32} {c : Hp} {r0 r1 r2 r3 r4 r5 : Row} {P : Int32 → Prop} {kk : Int32 → Hp → Row → Row → Option Int32} (hT : T + 4 ≤ 1000) (hL : LawS T n k f o c r0 r1 r2 r3 r5) (hk : ∀ c r2 r4, LawS (T + 4) n k f o c r0 r1 r2 r3 r5 → Ev (kk 1 c r2 r4) P) : Ev (fx5 (L_L_law_308 L xs a9 a12 r0 r5 kk) 6 (1 : Int32) (0 : Int32) c r2 r4) P := by
  obtain ⟨y, ey, m, hm, em⟩ := r_low (x := ishr a12 (3 : Int32)) (n := 4) (by omega) (by omega)
  subst em
  refine Ev_fx5 (fun i a8 a13 c r2 r4 => a13 = nI i ∧ a8 = 1 ∧ LawS (T + i) n k f o c r0 r1 r2 r3 r5) (m + 1) ?_ ?_ (by omega) ⟨rfl, rfl, hL⟩
  · rintro self i a8 a13 c r2 r4 hi ⟨rfl, rfl, hL⟩ hself
    have hL0 := hL
    obtain ⟨hG, h5, hC, hc, hq, hTp, hB, hS, hSt, hA⟩ := hL
    obtain ⟨t, v, ht, hv, hvn, b4, b5, b6⟩ := hB
    unfold L_L_law_308
    rw [cl0, hq.1]
    refine Ev_bde ey (Ev_f (by rw [nI_ltI (by omega) (by omega)]; omega) (Ev_f (by decide) (Ev_c0 (Ev_bd _ (r_low (by have := hG.1; omega) (by omega)) (fun r46 ⟨x, hx, ex⟩ => ?_)))))
    subst ex
    rw [clN (by omega), (b5 x (by omega)).2.2, n1, nI_add]
    refine Ev_bd _ (r_counts (t := t) hG h5 hc hq (fun y hy => (b5 y hy).2.2) hv (by omega)) (fun r48 h48 => ?_)
    refine Ev_jn1 (fun z => z = nI 0 - nI (smW (balN f o k v) n)) (fun z hz => ?_) (fun k384 h384 => r_356 h5 hq h48 (h384 _ rfl))
    subst hz
    refine Ev_ck rfl (by omega) (by omega) (Ev_ck rfl (by omega) (by omega) (Ev_nm ?_))
    have h2 : RwN 6 (upd r2 x (nI (v x + 1))) (addN v x) := fun y hy => by
      unfold addN
      by_cases q : y = x
      · rw [q, upd_s, if_pos rfl]
      · rw [upd_n _ _ q, if_neg q]; exact (b5 y hy).2.2
    have hv2 : ∀ y, addN v x y ≤ t + 1 := fun y => by
      have := hv y
      unfold addN
      split <;> omega
    refine Ev_bd _ (r_counts (t := t + 1) hG h5 hc hq h2 hv2 (by omega)) (fun r52 h52 => ?_)
    refine Ev_jn1 (fun z => z = nI (posN f o v x k)) (fun z hz => ?_) (fun k434 h434 => r_406 h5 hq h52 (h434 _ ?_))
    · subst hz
      refine Ev_bd _ (k_token hG hC hx (by omega) hv b4 (fun y hy => ⟨(b5 y hy).1, (b5 y hy).2.1⟩) b6) (fun y ⟨y1, y2, y3, y4, y5⟩ => Ev_t y1 (hself _ _ _ _ _ ⟨nI_add i 1, rfl, ?_⟩))
      refine ⟨hG, h5, y2.nC hC (by decide) (by decide) (by decide), hc, hq, hTp.sm y2 (by decide) (by decide), ⟨t + 1, addN v x, by omega, hv2, fun y hy => ?_, y4, fun y hy => ⟨(y3 y hy).1, (y3 y hy).2, h2 y hy⟩, y5⟩, hS.keep (y2 20 (by decide)).1 (y2 22 (by decide)).1, hSt.keep (by rw [(y2 29 (by decide)).1]), hA.sm y2 (by decide)⟩
      unfold addN
      rw [hvn y hy, if_neg (by omega)]
    · have hp := pos_lt (v := v) hx (fun i hi => ⟨(hG.2.2.2 i hi).1, (hG.2.2.2 i hi).2.1⟩) k (Nat.le_refl k)
      have hs := smW_add (b := balN f o k v) (b2 := balN f o k (addN v x)) (p := posN f o v x k) (fun y => bal_add (fun i hi => (hG.2.2.2 i hi).2.2) k (Nat.le_refl k) y) n
      rw [hs, if_pos hp, nsub (by omega), Nat.add_sub_cancel_left]
  · rintro self a8 a13 c r2 r4 ⟨rfl, rfl, hL⟩
    unfold L_L_law_308
    refine Ev_bde ey (Ev_t (by rw [nI_ltI (by omega) (by omega)]; omega) (hk _ _ _ ?_))
    obtain ⟨a1, a2, a3, a4, a5, a6, a7, a8, a9, a10⟩ := hL
    exact ⟨a1, a2, a3, a4, a5, a6, a7.up (by omega), a8, a9, a10⟩
