/-! finishes: the reference -/
theorem RQ.z6 {n p : Nat} {V : Nat → Bool} {y : Int32} (hn : n ≤ 6) (hn2 : 2 ≤ n) (hp : p < n * n) {m : Hp} (hm : m.1 0 1 = nI n) (hy : RQ n V y) : Ev (f_X11_behind m y (nI p)) (fun z => RQ n (bhN n p V) z) := by
  have hnn : n * n ≤ 36 := Nat.mul_le_mul hn hn
  have hle : 2 ^ n ≤ 2 ^ 6 := Nat.pow_le_pow_right (by omega) hn
  have hnz : ¬ nI n = 0 := nI_ne0 (by omega) (by omega)
  have ha : p / n < n := Nat.div_lt_of_lt_mul hp
  have hb : p % n < n := Nat.mod_lt _ (by omega)
  obtain ⟨q, rfl, hq, hv⟩ := hy
  unfold f_X11_behind
  rw [hm, ndiv (by omega) (by omega) (by omega), irmN (by omega) (by omega) (by omega)]
  refine Ev_nz hnz (Ev_nm (Ev_nz hnz (Ev_nm ?_)))
  have b1 := bit_1 (a := q) (k := p / n) (by omega) (by omega)
  have b0 := bit_0 (a := q) (k := p % n) (by omega) (by omega)
  rw [hv _ ha] at b1
  rw [hv _ hb] at b0
  refine Ev_jn1 (fun z => (z = 0 ∧ ¬ (p / n < p % n ∧ V (p / n) = true ∧ V (p % n) = false)) ∨ (z = 1 ∧ p / n < p % n ∧ V (p / n) = true ∧ V (p % n) = false)) (fun z hz => ?_) (fun k44 h44 => ?_)
  · rcases hz with ⟨rfl, hz⟩ | ⟨rfl, z1, z2, z3⟩
    · refine Ev_t rfl (Ev_so ⟨q, rfl, hq, fun x hx => ?_⟩)
      rw [hv x hx]
      unfold bhN
      by_cases hc : p / n < p % n
      · rw [if_pos hc]
        exact (cmp_same (fun y => hz ⟨hc, y.1, y.2⟩) x).symm
      · rw [if_neg hc]
    · refine Ev_f (by decide) ?_
      rw [shl1 (by omega), shl1 (by omega), nI_or, nI_xor]
      refine Ev_so ?_
      unfold bhN
      rw [if_pos z1]
      have hab : p / n ≠ p % n := by omega
      have hsw := cmp_swap hab z2 z3
      exact (RQ.step hq hv ha hb hab _ (fun y => by rw [z2, z3] at y; cases y) (fun _ => Or.inr hsw)).1 ⟨by rw [z2, z3]; decide, hsw⟩
  · refine Ev_jn0 (¬ (p / n < p % n ∧ V (p / n) = true ∧ V (p % n) = false)) (fun hq => h44 _ (Or.inl ⟨rfl, hq⟩)) (fun k43 h43 => Ev_i (fun e => h43 (fun z => ?_)) (fun e => Ev_i (fun e1 => Ev_i (fun e2 => h44 _ (Or.inr ⟨rfl, ?_, b1.mp e1, b0.mp e2⟩)) (fun e2 => h43 (fun z => e2 (b0.mpr z.2.2)))) (fun e1 => h43 (fun z => e1 (b1.mpr z.2.1)))))
    · rw [nI_leI (by omega) (by omega)] at e; omega
    · rw [nI_leI (by omega) (by omega)] at e; omega
theorem acc_bit {g : Nat → Nat} {j : Nat} (hj : j < 64) : ∀ N, (∀ q, q < N → g q < 64) → (bt64 (accO g N) j = true ↔ ∃ q, q < N ∧ g q = j)
  | 0, _ => by
    show bt64 0 j = true ↔ _
    rw [bt_0]
    simp
  | N + 1, h => by
    show bt64 (accO g N ||| lshl 1 (nI (g N))) j = true ↔ _
    rw [bt_or, bt_lshl1 (h N (by omega)) hj, Bool.or_eq_true, acc_bit hj N (fun q hq => h q (by omega))]
    constructor
    · rintro (⟨q, hq, e⟩ | e)
      · exact ⟨q, by omega, e⟩
      · exact ⟨N, by omega, (of_decide_eq_true e).symm⟩
    · rintro ⟨q, hq, e⟩
      by_cases e2 : q = N
      · subst e2; exact Or.inr (decide_eq_true e.symm)
      · exact Or.inl ⟨q, by omega, e⟩
def dn3 (n k : Nat) (f o : Nat → Nat) (p1 p2 p3 : Nat) : Prop := ∀ q, q < 2 ^ n → unsB n (bhN n p3 (bhN n p2 (bhN n p1 (netB f o 99 0 k (bR q))))) = false
theorem bh_congr {n p : Nat} {V W : Nat → Bool} (hp : p < n * n) (h : ∀ x, x < n → V x = W x) : ∀ x, x < n → bhN n p V x = bhN n p W x := fun x hx => by
  have hn0 : 0 < n := by omega
  have ha : p / n < n := Nat.div_lt_of_lt_mul hp
  have hb : p % n < n := Nat.mod_lt _ hn0
  unfold bhN
  split
  · exact cmpB_congr ha hb h x hx
  · exact h x hx
theorem out_bR {n k q x : Nat} {f o : Nat → Nat} (hx : x < n) : bR (outQ n k f o q) x = netB f o 99 0 k (bR q) x := by
  show (numB (netB f o 99 0 k (bR q)) n).testBit x = _
  rw [num_bit, decide_eq_true hx, Bool.true_and]
theorem lu1s {z : Int64} {r : Nat} (hr : r < 64) : lshr z (nI r) &&& 1 = if bt64 z r = true then 1 else 0 := by
  rw [← lu1 hr]
  apply bt_ext
  intro j hj
  rw [bt_and, bt_and, bt_1]
  by_cases e : j = 0
  · subst e
    rw [bt_lshr hr (by omega), bt_lushr hr]
  · rw [decide_eq_false e, Bool.and_false, Bool.and_false]
theorem M_isDone {n k p1 p2 p3 : Nat} {f o : Nat → Nat} {m : Hp} (hG : Good n k f o) (hm : m.1 0 1 = nI n) (h1 : p1 < n * n) (h2 : p2 < n * n) (h3 : p3 < n * n) : Ev (f_X11_isDone m (accO (outQ n k f o) (2 ^ n)) (nI p1) (nI p2) (nI p3)) (fun r => r = pI (dn3 n k f o p1 p2 p3)) := by
  have hn := hG.2.1
  have hn2 := hG.1
  have hle : 2 ^ n ≤ 2 ^ 6 := Nat.pow_le_pow_right (by omega) hn
  have hol : ∀ q, outQ n k f o q < 2 ^ n := fun q => num_lt n
  have hacc : ∀ j, j < 64 → (bt64 (accO (outQ n k f o) (2 ^ n)) j = true ↔ ∃ q, q < 2 ^ n ∧ outQ n k f o q = j) := fun j hj => acc_bit hj _ (fun q _ => by have := hol q; omega)
  generalize accO (outQ n k f o) (2 ^ n) = set at hacc
  unfold f_X11_isDone
  let R : Nat → Prop := fun j => ∀ b, b < j → bt64 set b = true → unsB n (bhN n p3 (bhN n p2 (bhN n p1 (bR b)))) = false
  have hend : R (2 ^ n) ↔ dn3 n k f o p1 p2 p3 := by
    constructor
    · intro h q hq
      have h4 := h (outQ n k f o q) (hol q) ((hacc _ (by have := hol q; omega)).mpr ⟨q, hq, rfl⟩)
      rw [uns_congr (bh_congr h3 (bh_congr h2 (bh_congr h1 (fun x hx => out_bR hx))))] at h4
      exact h4
    · intro h b hb hs
      obtain ⟨q, hq, rfl⟩ := (hacc b (by omega)).mp hs
      rw [uns_congr (bh_congr h3 (bh_congr h2 (bh_congr h1 (fun x hx => out_bR hx))))]
      exact h q hq
  refine Ev_jn1 (fun y => y = pI (dn3 n k f o p1 p2 p3)) (fun y hy => Ev_ckz (by rw [hy]; exact pI_01 _) (Ev_so hy)) (fun kk hk => ?_)
  refine Ev_fx2 (fun j a1 a2 => a2 = nI j ∧ a1 = pI (R j)) (2 ^ n) ?_ ?_ (FU_lt (by omega)) ⟨rfl, (pI_t (fun b hb => absurd hb (by omega))).symm⟩
  · rintro self j a1 a2 hj ⟨rfl, e1⟩ hself
    unfold L_X11_isDone_6
    rw [hm, shl_n hn]
    refine Ev_f (nle_n hj (by omega)) ?_
    by_cases hR : R j
    · rw [pI_t hR] at e1
      subst e1
      refine Ev_f (by decide) ?_
      rw [lu1s (by omega)]
      have hnx : (bt64 set j = true → unsB n (bhN n p3 (bhN n p2 (bhN n p1 (bR j)))) = false) → R (j + 1) := fun h b hb hs => by
        by_cases e : b = j
        · rw [e] at hs ⊢; exact h hs
        · exact hR b (by omega) hs
      cases hs : bt64 set j with
      | false =>
        refine Ev_f (by decide) (hself _ _ ⟨nI_add j 1, (pI_t (hnx (fun z => by rw [hs] at z; cases z))).symm⟩)
      | true =>
        have hRQ : RQ n (bR j) (nI j) := ⟨j, rfl, hj, fun x _ => rfl⟩
        refine Ev_t (lgc 1) (Ev_bd _ (RQ.z6 hn hn2 h1 hm hRQ) (fun y1 g1 => Ev_bd _ (RQ.z6 hn hn2 h2 hm g1) (fun y2 g2 => Ev_bd _ (RQ.z6 hn hn2 h3 hm g2) (fun y3 g3 => Ev_bd _ (r_isSorted hn hn2 g3) (fun z hz => hself _ _ ⟨nI_add j 1, ?_⟩)))))
        rw [hz]
        cases e : unsB n (bhN n p3 (bhN n p2 (bhN n p1 (bR j)))) with
        | true =>
          rw [pI_f (fun h => by rw [h j (by omega) hs] at e; cases e)]; rfl
        | false =>
          rw [pI_t (hnx (fun _ => e))]; rfl
    · rw [pI_f hR] at e1
      refine Ev_t e1 (hk _ ?_)
      rw [e1, pI_f (fun z => hR (fun b hb hs => hend.mpr z b (by omega) hs))]
  · rintro self a1 a2 ⟨rfl, e1⟩
    unfold L_X11_isDone_6
    rw [hm, shl_n hn]
    exact Ev_t (Int32.le_refl _) (hk _ (by rw [e1]; exact pI_iff hend))
def limN (n c k : Nat) : Nat := if k ≤ c then 1 else n * n
theorem lim_i {n c k : Nat} (hn : n ≤ 6) (hc : c < 10) (hk : k < 10) (K : Int32 → Option (Int32 × Hp)) (P : Int32 × Hp → Prop) (h : Ev (K (nI (limN n c k))) P) : Ev (jn1 (fun k136 => (if nI k ≤ nI c then k136 (1 : Int32) else k136 (nI (n * n)))) K) P := by
  refine Ev_jn1 (fun y => y = nI (limN n c k)) (fun y hy => by rw [hy]; exact h) (fun kk hkk => ?_)
  unfold limN at hkk
  refine Ev_i (fun e => hkk _ ?_) (fun e => hkk _ ?_)
  · rw [nI_leI (by omega) (by omega)] at e; rw [if_pos e]; rfl
  · rw [nI_leI (by omega) (by omega)] at e; rw [if_neg e]
theorem lim_le {n c k : Nat} (hn : 2 ≤ n) : limN n c k ≤ n * n := by
  unfold limN
  split
  · exact Nat.mul_pos (by omega) (by omega)
  · exact Nat.le_refl _
def RFk (n k : Nat) (f o : Nat → Nat) (m : Nat) : Prop := ∃ p1, p1 < limN n 0 m ∧ ∃ p2, p2 < limN n 1 m ∧ ∃ p3, p3 < limN n 2 m ∧ dn3 n k f o p1 p2 p3
theorem RF_EF {n k m : Nat} {f o : Nat → Nat} (hn2 : 2 ≤ n) (hm : m ≤ 3) : RFk n k f o m ↔ EFp n m (fun q => netB f o 99 0 k (bR q)) := by
  have h4 : m = 0 ∨ m = 1 ∨ m = 2 ∨ m = 3 := by omega
  have hz : ∀ p, p < 1 → p = 0 := fun p hp => by omega
  unfold RFk limN dn3
  rcases h4 with rfl | rfl | rfl | rfl
  · constructor
    · rintro ⟨p1, h1, p2, h2, p3, h3, h⟩
      rw [hz p1 h1, hz p2 h2, hz p3 h3] at h
      simp only [bh_0] at h
      exact h
    · intro h
      exact ⟨0, by show 0 < 1; omega, 0, by show 0 < 1; omega, 0, by show 0 < 1; omega, by simp only [bh_0]; exact h⟩
  · constructor
    · rintro ⟨p1, h1, p2, h2, p3, h3, h⟩
      rw [hz p2 h2, hz p3 h3] at h
      simp only [bh_0] at h
      exact ⟨p1, h1, h⟩
    · rintro ⟨p1, h1, h⟩
      exact ⟨p1, h1, 0, by show 0 < 1; omega, 0, by show 0 < 1; omega, by simp only [bh_0]; exact h⟩
  · constructor
    · rintro ⟨p1, h1, p2, h2, p3, h3, h⟩
      rw [hz p3 h3] at h
      simp only [bh_0] at h
      exact ⟨p1, h1, p2, h2, h⟩
    · rintro ⟨p1, h1, p2, h2, h⟩
      exact ⟨p1, h1, p2, h2, 0, by show 0 < 1; omega, by simp only [bh_0]; exact h⟩
  · constructor
    · rintro ⟨p1, h1, p2, h2, p3, h3, h⟩
      exact ⟨p1, h1, p2, h2, p3, h3, h⟩
    · rintro ⟨p1, h1, p2, h2, p3, h3, h⟩
      exact ⟨p1, h1, p2, h2, p3, h3, h⟩
theorem M_finishes {n k most : Nat} {f o : Nat → Nat} {m : Hp} (hG : Good n k f o) (hM : NetM n k f o m) (hmost : most ≤ 3) : Ev (f_X11_finishes m (nI most)) (fun r => lstK (RFk n k f o) most r.1 ∧ r.2 = wF m 0 0 0) := by
  have hn := hG.2.1
  have hn2 := hG.1
  have hle : 2 ^ n ≤ 2 ^ 6 := Nat.pow_le_pow_right (by omega) hn
  have hnn : n * n ≤ 36 := Nat.mul_le_mul hn hn
  unfold f_X11_finishes
  refine Ev_bde M_in ?_
  rw [if_neg (fun z => not_bad (n := 4) (by omega) (show most < 4 by omega) (cm_in4.mp z))]
  refine Ev_jn1 (fun z => z = 0) (fun z hz => ?_) (fun j hj => Ev_f (by decide) (hj 0 rfl))
  subst hz
  refine Ev_nm (Ev_t (by rw [wF_1, upd_s]; exact Int32.le_refl _) ?_)
  have hM1 := hM.t (x := 0)
  generalize wF m 0 0 0 = g at hM1
  refine Ev_jn1 (fun y => y = accO (outQ n k f o) (2 ^ n)) (fun y hy => ?_) (fun kk hk => ?_)
  · subst hy
    rw [hM1.1, nmul]
    refine Ev_nm (Ev_jn0 (∀ j, j ≤ most → ¬ RFk n k f o j) (fun hno => Ev_so ⟨Or.inr ⟨rfl, hno⟩, rfl⟩) (fun k180 h180 => Ev_jn1 (fun y => lstK (RFk n k f o) most y) (fun y hy => Ev_so ⟨hy, rfl⟩) (fun k153 h153 => ?_)))
    refine Ev_fx1 (fun j a1 => a1 = nI j ∧ ∀ j', j' < j → ¬ RFk n k f o j') (most + 1) ?_ ?_ (FU_lt (by omega)) ⟨rfl, fun j' hj' => absurd hj' (by omega)⟩
    · rintro self j a1 hj ⟨rfl, hno⟩ hself
      unfold L_X11_finishes_74
      refine Ev_f (by rw [nI_ltI (by omega) (by omega)]; omega) (Ev_jn0 (¬ RFk n k f o j) (fun hq => hself _ ⟨nI_add j 1, fun j' hj' => ?_⟩) (fun k174 h174 => ?_))
      · by_cases e : j' = j
        · rw [e]; exact hq
        · exact hno j' (by omega)
      · have l0 := lim_le (n := n) (c := 0) (k := j) hn2
        have l1 := lim_le (n := n) (c := 1) (k := j) hn2
        have l2 := lim_le (n := n) (c := 2) (k := j) hn2
        refine Ev_fx1 (fun p1 a1 => a1 = nI p1 ∧ ∀ p1', p1' < p1 → ¬ ∃ p2, p2 < limN n 1 j ∧ ∃ p3, p3 < limN n 2 j ∧ dn3 n k f o p1' p2 p3) (limN n 0 j) ?_ ?_ (FU_lt (by omega)) ⟨rfl, fun p hp => absurd hp (by omega)⟩
        · rintro self1 p1 a1 hp1 ⟨rfl, hno1⟩ hself1
          unfold L_X11_finishes_83
          refine lim_i (c := 0) hn (by omega) (by omega) _ _ (Ev_f (nle_n hp1 (by omega)) (Ev_jn0 (¬ ∃ p2, p2 < limN n 1 j ∧ ∃ p3, p3 < limN n 2 j ∧ dn3 n k f o p1 p2 p3) (fun hq => hself1 _ ⟨nI_add p1 1, fun p' hp' => ?_⟩) (fun k168 h168 => ?_)))
          · by_cases e : p' = p1
            · rw [e]; exact hq
            · exact hno1 p' (by omega)
          · refine Ev_fx1 (fun p2 a1 => a1 = nI p2 ∧ ∀ p2', p2' < p2 → ¬ ∃ p3, p3 < limN n 2 j ∧ dn3 n k f o p1 p2' p3) (limN n 1 j) ?_ ?_ (FU_lt (by omega)) ⟨rfl, fun p hp => absurd hp (by omega)⟩
            · rintro self2 p2 a1 hp2 ⟨rfl, hno2⟩ hself2
              unfold L_X11_finishes_102
              rw [n1]
              refine lim_i (c := 1) hn (by omega) (by omega) _ _ (Ev_f (nle_n hp2 (by omega)) (Ev_jn0 (¬ ∃ p3, p3 < limN n 2 j ∧ dn3 n k f o p1 p2 p3) (fun hq => hself2 _ ⟨nI_add p2 1, fun p' hp' => ?_⟩) (fun k162 h162 => ?_)))
              · by_cases e : p' = p2
                · rw [e]; exact hq
                · exact hno2 p' (by omega)
              · refine Ev_fx1 (fun p3 a1 => a1 = nI p3 ∧ ∀ p3', p3' < p3 → ¬ dn3 n k f o p1 p2 p3') (limN n 2 j) ?_ ?_ (FU_lt (by omega)) ⟨rfl, fun p hp => absurd hp (by omega)⟩
                · rintro self3 p3 a1 hp3 ⟨rfl, hno3⟩ hself3
                  unfold L_X11_finishes_122
                  rw [n2]
                  refine lim_i (c := 2) hn (by omega) (by omega) _ _ (Ev_f (nle_n hp3 (by omega)) (Ev_bd _ (M_isDone hG hM1.1 (show p1 < n * n by omega) (show p2 < n * n by omega) (show p3 < n * n by omega)) (fun r hr => ?_)))
                  by_cases hd : dn3 n k f o p1 p2 p3
                  · rw [pI_t hd] at hr
                    refine Ev_f (by rw [hr]; decide) (h153 _ (Or.inl ⟨j, by omega, rfl, ⟨p1, hp1, p2, hp2, p3, hp3, hd⟩, hno⟩))
                  · rw [pI_f hd] at hr
                    refine Ev_t hr (hself3 _ ⟨nI_add p3 1, fun p' hp' => ?_⟩)
                    by_cases e : p' = p3
                    · rw [e]; exact hd
                    · exact hno3 p' (by omega)
                · rintro self3 a1 ⟨rfl, hno3⟩
                  unfold L_X11_finishes_122
                  rw [n2]
                  refine lim_i (c := 2) hn (by omega) (by omega) _ _ (Ev_t (Int32.le_refl _) (h162 ?_))
                  rintro ⟨p3, hp3, hd⟩
                  exact hno3 p3 hp3 hd
            · rintro self2 a1 ⟨rfl, hno2⟩
              unfold L_X11_finishes_102
              rw [n1]
              refine lim_i (c := 1) hn (by omega) (by omega) _ _ (Ev_t (Int32.le_refl _) (h168 ?_))
              rintro ⟨p2, hp2, hd⟩
              exact hno2 p2 hp2 hd
        · rintro self1 a1 ⟨rfl, hno1⟩
          unfold L_X11_finishes_83
          refine lim_i (c := 0) hn (by omega) (by omega) _ _ (Ev_t (Int32.le_refl _) (h174 ?_))
          rintro ⟨p1, hp1, hd⟩
          exact hno1 p1 hp1 hd
    · rintro self a1 ⟨rfl, hno⟩
      unfold L_X11_finishes_74
      exact Ev_t (nI_lt (by omega) (by omega)) (h180 (fun j hj => hno j (by omega)))
  · refine Ev_fx2 (fun j a1 a2 => a2 = nI j ∧ a1 = accO (outQ n k f o) j) (2 ^ n) ?_ ?_ (FU_lt (by omega)) ⟨rfl, rfl⟩
    · rintro self j a1 a2 hj ⟨rfl, rfl⟩ hself
      unfold L_X11_finishes_32
      rw [hM1.1, shl_n hn]
      refine Ev_f (nle_n hj (by omega)) (Ev_bd _ (r_out hG hM1 hj) (fun y hy => Ev_nm (hself _ _ ⟨nI_add j 1, ?_⟩)))
      rw [hy.num hn]; rfl
    · rintro self a1 a2 ⟨rfl, rfl⟩
      unfold L_X11_finishes_32
      rw [hM1.1, shl_n hn]
      exact Ev_t (Int32.le_refl _) (hk _ rfl)
theorem pc_19 {L : Nat} {xs : Nat → Int32} {i : Int32} {s : LWS} {kont : LWS → Option Unit} (hI : Inv s) (hi : OKi L i) (hk : ∀ s1, Inv s1 → kont s1 = some ()) : lc_19 L xs i s kont = some () := by
  obtain ⟨c, m, out⟩ := s
  have hI0 := hI
  obtain ⟨n, k, f, o, hG, hC, hM, hT, hB, hS, hSt, hA⟩ := hI
  have hn2 := hG.1
  generalize hx : xs (i + 1).toNatClampNeg = x
  rcases st4 (x := x) with hb | ⟨most, hmost, rfl⟩
  · have h1 : f_X10_finishes c x = some (.inl ("java/lang/IllegalArgumentException", c)) := by
      refine Ev_eq ?_
      unfold f_X10_finishes
      refine Ev_jn0 True (fun _ => Ev_so rfl) (fun j hj => Ev_i (fun _ => hj trivial) (fun h0 => Ev_f ?_ (hj trivial)))
      exact Int32.not_le.mpr (hb.resolve_left h0)
    have h2 : f_X11_finishes m x = some (0, wF m 0 0 1) := by
      refine Ev_eq ?_
      unfold f_X11_finishes
      refine Ev_bde M_in ?_
      rw [if_pos hb]
      refine Ev_jn1 (fun z => z = 1) (fun z hz => ?_) (fun j hj => Ev_t rfl (hj 1 rfl))
      subst hz
      exact Ev_nm (Ev_f (by rw [wF_1, upd_s]; decide) (Ev_so rfl))
    simp [lc_19, fh_finishes, hx, h1, h2, hcatch, bd, nm, setM, setC, setO, f_X11_thrown, jn0, wF_1, upd_s, (hi _).1]
    exact hk _ hI0.thrown
  · obtain ⟨r0, h0, a1, a2⟩ := C_missing (most := most) hG hC (by omega)
    have h1 : f_X10_finishes c (nI most) = some (.inr (r0.1, r0.2)) := by
      refine Ev_eq ?_
      unfold f_X10_finishes
      exact Ev_jn0 False (fun h => h.elim) (fun j hj => Ev_f (nI_pos (by omega)) (Ev_t (le_n (b := 3) (by omega) (by omega)) (Ev_bde h0 (Ev_so rfl))))
    obtain ⟨r2, h2, b1, b2⟩ := M_finishes (most := most) hG hM (by omega)
    have e : r0.1 = r2.1 := a1.uniq b1 (fun m hm => by rw [CF_EF hn2, RF_EF hn2 (by omega)])
    simp [lc_19, fh_finishes, hx, h1, h2, e, b2, hcatch, bd, nm, setM, setC, setO, f_X11_thrown, jn0, wF_1, upd_s, (hi _).1, updL_s, lgc]
    exact hk _ (hI0.scr (a2.mono (by decide)))
