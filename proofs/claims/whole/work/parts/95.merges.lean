/-! CASE merges -/
def unsG (a d : Nat) (V : Nat → Bool) : Bool := (List.range d).any (fun x => V (a + x) && !V (a + x + 1))
theorem unsG_s {a d : Nat} {V : Nat → Bool} : unsG a (d + 1) V = (unsG a d V || (V (a + d) && !V (a + d + 1))) := by
  unfold unsG
  rw [List.range_succ, List.any_append]; simp
theorem r_isSortedG {n a b : Nat} {V : Nat → Bool} {y : Int32} (hn : n ≤ 6) (hab : a + 1 ≤ b) (hb : b ≤ n) (hy : RQ n V y) : Ev (f_X11_isSorted y (nI a) (nI b)) (fun r => r = if unsG a (b - 1 - a) V = true then 0 else 1) := by
  obtain ⟨p, rfl, hp, hv⟩ := hy
  have hle : 2 ^ n ≤ 2 ^ 6 := Nat.pow_le_pow_right (by omega) hn
  unfold f_X11_isSorted
  refine Ev_jn1 (fun r => r = if unsG a (b - 1 - a) V = true then 0 else 1) (fun r hr => Ev_ckz (by rw [hr]; cases unsG a (b - 1 - a) V <;> simp) (Ev_so hr)) (fun kk hk => ?_)
  refine Ev_fx2 (fun j a1 a2 => a2 = nI (a + j) ∧ a1 = if unsG a j V = true then 0 else 1) (b - 1 - a) ?_ ?_ (FU_lt (by omega)) ⟨rfl, rfl⟩
  · rintro self j a1 a2 hj ⟨rfl, h1⟩ hself
    unfold L_X11_isSorted_5
    rw [n1, nI_add]
    refine Ev_f (nle_n (by omega) (by omega)) ?_
    rw [unsG_s] at hself
    cases hA : unsG a j V with
    | true =>
      rw [hA] at h1 hself
      exact Ev_t h1 (hself _ _ ⟨rfl, rfl⟩)
    | false =>
      rw [hA] at h1 hself
      refine Ev_f (by rw [h1]; decide) (Ev_jn0 (¬ (V (a + j) = true ∧ V (a + j + 1) = false)) (fun hq => hself _ _ ⟨rfl, ?_⟩) (fun k38 h38 => ?_))
      · revert hq; cases V (a + j) <;> cases V (a + j + 1) <;> decide
      · have b0 := bit_0 (a := p) (k := a + j) (by omega) (by omega)
        have b1 := bit_1 (a := p) (k := a + j + 1) (by omega) (by omega)
        rw [hv (a + j) (by omega)] at b0
        rw [hv (a + j + 1) (by omega)] at b1
        refine Ev_i (fun e => h38 (fun z => by rw [b0.mp e] at z; cases z.1)) (fun e => Ev_i (fun e2 => h38 (fun z => by rw [b1.mp e2] at z; cases z.2)) (fun e2 => hself _ _ ⟨rfl, ?_⟩))
        have q1 : V (a + j) = true := by
          cases e3 : V (a + j) with
          | true => rfl
          | false => exact absurd (b0.mpr e3) e
        have q2 : V (a + j + 1) = false := by
          cases e3 : V (a + j + 1) with
          | false => rfl
          | true => exact absurd (b1.mpr e3) e2
        rw [q1, q2]; rfl
  · rintro self a1 a2 ⟨rfl, h1⟩
    unfold L_X11_isSorted_5
    rw [n1, nI_add]
    exact Ev_t (le_n (by omega) (by omega)) (hk _ h1)
theorem s_unsortedIn_15 {n w : Nat} {h : Hp} {V : Nat → Nat → Bool} (hn : n ≤ 6) (hw1 : 1 ≤ w) (hw : w ≤ n) (hV : ColsN 15 n h V) : Ev (f_X4_unsortedIn_15 h (nI w)) (fun z => ColN n z (fun r => unsG 0 (w - 1) (V r))) := by
  unfold f_X4_unsortedIn_15
  refine Ev_jn1 (fun z => ColN n z (fun r => unsG 0 (w - 1) (V r))) (fun z hz => Ev_so hz) (fun kk hk => ?_)
  refine Ev_fx2 (fun j a1 a2 => a2 = nI j ∧ ColN n a1 (fun r => unsG 0 j (V r))) (w - 1) ?_ ?_ (FU_lt (by omega)) ⟨rfl, fun r hr => by rw [bt_0]; simp [unsG]⟩
  · rintro self j a1 a2 hj ⟨rfl, hZ⟩ hself
    unfold L_X4_unsortedIn_15_5
    rw [n1, nI_add]
    refine Ev_f (nle_n (by omega) (by omega)) (Ev_ck rfl (by omega) (by omega) (Ev_ck rfl (by omega) (by omega) (Ev_nm (hself _ _ ⟨rfl, fun r hr => ?_⟩))))
    rw [clN (by omega), clN (by omega), bt_or, bt_and, bt_not _ hr, hZ r hr, hV j (by omega) r hr, hV (j + 1) (by omega) r hr]
    dsimp only
    rw [unsG_s, Nat.zero_add]
    cases decide (r < 2 ^ n) <;> simp
  · rintro self a1 a2 ⟨rfl, hZ⟩
    unfold L_X4_unsortedIn_15_5
    rw [n1, nI_add]
    exact Ev_t (le_n (by omega) (by omega)) (hk _ hZ)
def merP (n k : Nat) (f o : Nat → Nat) (w j : Nat) : Prop := ∀ r, r < j → unsG 0 (w - 1) (bR r) = false → unsG w (n - 1 - w) (bR r) = false → unsB n (netB f o 99 0 k (bR r)) = false
theorem C_mergesAt {n k w : Nat} {f o : Nat → Nat} {c : Hp} (hG : Good n k f o) (hC : NetC n k f o c) (hw1 : 1 ≤ w) (hw : w < n) : Ev (f_X4_mergesAt_13_1 c (nI w)) (fun r => r.1 = pI (merP n k f o w (2 ^ n)) ∧ Sm [14, 15] c r.2) := by
  have hn := hG.2.1
  have hle : 2 ^ n ≤ 2 ^ 6 := Nat.pow_le_pow_right (by omega) hn
  unfold f_X4_mergesAt_13_1
  rw [hC.1]
  refine Ev_bd _ (s_bringIn_15 hn) (fun h0 ⟨hS0, he0, hV0⟩ => Ev_bd _ (s_unsortedIn_15 hn hw1 (Nat.le_of_lt hw) hV0) (fun z1 hz1 => ?_))
  refine Ev_jn1 (fun z => ColN n z (fun r => unsG w (n - 1 - w) (bR r))) (fun z2 hz2 => ?_) (fun kk hk => ?_)
  · refine Ev_bd _ (s_unsortedFrom hG (hC.of he0)) (fun r ⟨p1, p2, p3⟩ => ?_)
    have hcol : ColN n ((r.1 &&& (z1 ^^^ (-1 : Int64))) &&& (z2 ^^^ (-1 : Int64))) (fun r => unsB n (netB f o 99 0 k (bR r)) && (!unsG 0 (w - 1) (bR r) && !unsG w (n - 1 - w) (bR r))) := by
      intro q hq
      rw [bt_and, bt_and, bt_not _ hq, bt_not _ hq, p3 q hq, hz1 q hq, hz2 q hq]
      cases decide (q < 2 ^ n) <;> simp [Bool.and_assoc]
    have hiff : lg_cmp ((r.1 &&& (z1 ^^^ (-1 : Int64))) &&& (z2 ^^^ (-1 : Int64))) 0 = 0 ↔ merP n k f o w (2 ^ n) := by
      rw [lg_eq, hcol.z hn]
      constructor
      · intro h q hq h1 h2
        have := h q hq
        simp only [h1, h2] at this
        simpa using this
      · intro h q hq
        cases e1 : unsG 0 (w - 1) (bR q) with
        | true => simp
        | false =>
          cases e2 : unsG w (n - 1 - w) (bR q) with
          | true => simp
          | false => rw [h q hq e1 e2]; rfl
    exact Ev_i (fun e => Ev_ckz (Or.inr rfl) (Ev_so ⟨(pI_t (hiff.mp e)).symm, (hS0.mono (by decide)).tr (p1.mono (by decide))⟩)) (fun e => Ev_ckz (Or.inl rfl) (Ev_so ⟨(pI_f (fun z => e (hiff.mpr z))).symm, (hS0.mono (by decide)).tr (p1.mono (by decide))⟩))
  · refine Ev_fx2 (fun j a1 a2 => a2 = nI (w + j) ∧ ColN n a1 (fun r => unsG w j (bR r))) (n - 1 - w) ?_ ?_ (FU_lt (by omega)) ⟨rfl, fun r hr => by rw [bt_0]; simp [unsG]⟩
    · rintro self j a1 a2 hj ⟨rfl, hZ⟩ hself
      unfold L_X4_mergesAt_13_1_26
      rw [n1, nI_add, he0, hC.1]
      refine Ev_f (nle_n (by omega) (by omega)) (Ev_ck rfl (by omega) (by omega) (Ev_ck rfl (by omega) (by omega) (Ev_nm (hself _ _ ⟨rfl, fun r hr => ?_⟩))))
      rw [clN (by omega), clN (by omega), bt_or, bt_and, bt_not _ hr, hZ r hr, hV0 (w + j) (by omega) r hr, hV0 (w + j + 1) (by omega) r hr]
      dsimp only
      rw [unsG_s]
      cases decide (r < 2 ^ n) <;> simp
    · rintro self a1 a2 ⟨rfl, hZ⟩
      unfold L_X4_mergesAt_13_1_26
      rw [n1, nI_add, he0, hC.1]
      exact Ev_t (le_n (by omega) (by omega)) (hk _ hZ)
theorem M_merges {n k w : Nat} {f o : Nat → Nat} {m : Hp} (hG : Good n k f o) (hM : NetM n k f o m) (hw1 : 1 ≤ w) (hw : w < n) : Ev (f_X11_merges m (nI w)) (fun r => r = (pI (merP n k f o w (2 ^ n)), wF m 0 0 0)) := by
  have hn := hG.2.1
  have hle : 2 ^ n ≤ 2 ^ 6 := Nat.pow_le_pow_right (by omega) hn
  unfold f_X11_merges
  rw [hM.1, n1, nsub (by omega)]
  refine Ev_bde M_in ?_
  rw [if_neg (by
    rintro (h | h)
    · rw [nI_ltI (by omega) (by omega)] at h; omega
    · rw [nI_ltI (by omega) (by omega)] at h; omega)]
  refine Ev_jn1 (fun z => z = 0) (fun z hz => ?_) (fun j hj => Ev_f (by decide) (hj 0 rfl))
  subst hz
  refine Ev_nm (Ev_t (by rw [wF_1, upd_s]) ?_)
  have hM1 := hM.t (x := 0)
  generalize wF m 0 0 0 = g at hM1
  refine Ev_jn1 (fun z => z = pI (merP n k f o w (2 ^ n))) (fun z hz => Ev_ckz (by rw [hz]; exact pI_01 _) (Ev_so (by rw [hz]))) (fun kk hk => ?_)
  refine Ev_fx2 (fun j a1 a2 => a2 = nI j ∧ a1 = pI (merP n k f o w j)) (2 ^ n) ?_ ?_ (FU_lt (by omega)) ⟨rfl, (pI_t (fun r hr => absurd hr (by omega))).symm⟩
  · rintro self j a1 a2 hj ⟨rfl, h1⟩ hself
    unfold L_X11_merges_38
    rw [hM1.1, shl_n hn]
    refine Ev_f (nle_n hj (by omega)) ?_
    by_cases q : merP n k f o w j
    · rw [pI_t q] at h1
      refine Ev_f (by rw [h1]; decide) ?_
      have hRQ : RQ n (bR j) (nI j) := ⟨j, rfl, hj, fun x _ => rfl⟩
      have hnext : ∀ P : Prop, (P ↔ (unsG 0 (w - 1) (bR j) = false → unsG w (n - 1 - w) (bR j) = false → unsB n (netB f o 99 0 k (bR j)) = false)) → (merP n k f o w (j + 1) ↔ P) := by
        intro P hP
        rw [hP]
        constructor
        · intro h; exact h j (by omega)
        · intro h r hr
          by_cases e : r = j
          · rw [e]; exact h
          · exact q r (by omega)
      refine Ev_bd _ (r_isSortedG (a := 0) (b := w) hn (by omega) (by omega) hRQ) (fun r6 h6 => ?_)
      refine Ev_jn0 (merP n k f o w (j + 1)) (fun h => hself _ _ ⟨nI_add j 1, (pI_t h).symm⟩) (fun k89 h89 => ?_)
      rw [show w - 1 - 0 = w - 1 from rfl] at h6
      cases e1 : unsG 0 (w - 1) (bR j) with
      | true =>
        rw [e1] at h6
        exact Ev_t h6 (h89 ((hnext True (by simp [e1])).mpr trivial))
      | false =>
        rw [e1] at h6
        refine Ev_f (by rw [h6]; decide) (Ev_bd _ (r_isSortedG (a := w) (b := n) hn (by omega) (Nat.le_refl n) hRQ) (fun r8 h8 => ?_))
        cases e2 : unsG w (n - 1 - w) (bR j) with
        | true =>
          rw [e2] at h8
          exact Ev_t h8 (h89 ((hnext True (by simp [e2])).mpr trivial))
        | false =>
          rw [e2] at h8
          refine Ev_f (by rw [h8]; decide) (Ev_bd _ (r_out hG hM1 hj) (fun y hy => Ev_bd _ (r_isSorted hn hG.1 hy) (fun z hz => ?_)))
          cases e3 : unsB n (netB f o 99 0 k (bR j)) with
          | true =>
            rw [e3] at hz
            exact Ev_t hz (hself _ _ ⟨nI_add j 1, (pI_f (fun z => (hnext False (by simp [e1, e2, e3])).mp z)).symm⟩)
          | false =>
            rw [e3] at hz
            exact Ev_f (by rw [hz]; decide) (h89 ((hnext True (by simp [e3])).mpr trivial))
    · rw [pI_f q] at h1
      refine Ev_t h1 (hk _ ?_)
      rw [h1, pI_f (fun z => q (fun r hr => z r (by omega)))]
  · rintro self a1 a2 ⟨rfl, h1⟩
    unfold L_X11_merges_38
    rw [hM1.1, shl_n hn]
    exact Ev_t (Int32.le_refl _) (hk _ h1)
theorem pI_i2l {p : Prop} : (if pI p = 0 then (0 : Int64) else 1) = if pI p = 0 then 0 else 1 := rfl
theorem lt1_iff {x : Int32} {n : Nat} (hn : n ≤ 6) : (x < 1 ∨ nI n ≤ x) ∨ ∃ w, 1 ≤ w ∧ w < n ∧ x = nI w := by
  rcases wire_or (n := n) (by omega) x with h | ⟨w, hw, rfl⟩
  · rcases h with h | h
    · exact Or.inl (Or.inl (Int32.lt_of_lt_of_le h (by decide)))
    · exact Or.inl (Or.inr h)
  · by_cases e : w = 0
    · subst e; exact Or.inl (Or.inl (by decide))
    · exact Or.inr ⟨w, by omega, hw, rfl⟩
theorem in1_f {x : Int32} {n : Nat} (hn2 : 2 ≤ n) (hn : n ≤ 6) (h : x < 1 ∨ nI n ≤ x) : f_X11_in x 1 (nI n - 1) = some 0 := by
  rw [M_in, n1, nsub (by omega)]
  rw [if_pos]
  rcases h with h | h
  · exact Or.inl h
  · exact Or.inr (lt_of_nI (by omega) (by omega) h)
theorem pc_20 {L : Nat} {xs : Nat → Int32} {i : Int32} {s : LWS} {kont : LWS → Option Unit} (hI : Inv s) (hi : OKi L i) (hk : ∀ s1, Inv s1 → kont s1 = some ()) : lc_20 L xs i s kont = some () := by
  obtain ⟨c, m, out⟩ := s
  have hI0 := hI
  obtain ⟨n, k, f, o, hG, hC, hM, hT, hB, hS, hSt, hA⟩ := hI
  have hn := hG.2.1
  have hn2 := hG.1
  generalize hx : xs (i + 1).toNatClampNeg = x
  rcases lt1_iff (x := x) hn with hb | ⟨w, hw1, hw, rfl⟩
  · have h1 : f_X10_merges c x = some (.inl ("java/lang/IndexOutOfBoundsException", c)) := by
      refine Ev_eq ?_
      unfold f_X10_merges
      refine Ev_jn0 True (fun _ => Ev_so rfl) (fun j hj => Ev_i (fun _ => hj trivial) (fun h => Ev_f ?_ (hj trivial)))
      rw [hC.1]
      exact Int32.not_lt.mpr (hb.resolve_left h)
    have h2 : f_X11_merges m x = some (0, wF m 0 0 1) := by
      refine Ev_eq ?_
      unfold f_X11_merges
      refine Ev_bde (by rw [hM.1]; exact in1_f hn2 hn hb) ?_
      refine Ev_jn1 (fun z => z = 1) (fun z hz => ?_) (fun j hj => Ev_t rfl (hj 1 rfl))
      subst hz
      have hN2 := FU_lt (n := 1) (by omega)
      generalize FU = N at hN2
      obtain ⟨M, rfl⟩ : ∃ M, N = M + 1 := ⟨N - 1, by omega⟩
      refine Ev_nm (Ev_f (by rw [wF_1, upd_s]; decide) (Ev_jn1 (fun z => z = 0) (fun z hz => ?_) (fun kk hkk => ?_)))
      · subst hz; exact Ev_ckz (Or.inl rfl) (Ev_so rfl)
      · show Ev (L_X11_merges_38 _ _ _ _ _ _) _
        unfold L_X11_merges_38
        exact Ev_i (fun _ => hkk _ rfl) (fun _ => Ev_t rfl (hkk _ rfl))
    simp [lc_20, fh_merges, hx, h1, h2, hcatch, bd, nm, setM, setC, setO, f_X11_thrown, jn0, wF_1, upd_s, (hi _).1]
    exact hk _ hI0.thrown
  · obtain ⟨r0, h0, p1, p2⟩ := C_mergesAt hG hC hw1 hw
    have h1 : f_X10_merges c (nI w) = some (.inr (r0.1, r0.2)) := by
      refine Ev_eq ?_
      unfold f_X10_merges
      refine Ev_jn0 False (fun h => h.elim) (fun j hj => Ev_f ?_ (Ev_t ?_ (Ev_bde h0 (Ev_ckz (by rw [p1]; exact pI_01 _) (Ev_so rfl)))))
      · rw [n1, nI_ltI (by omega) (by omega)]; omega
      · rw [hC.1, nI_ltI (by omega) (by omega)]; exact hw
    obtain ⟨r2, h2, rfl⟩ := M_merges hG hM hw1 hw
    rcases pI_01 (merP n k f o w (2 ^ n)) with e | e
    · rw [e] at p1
      rw [e] at h2
      simp [lc_20, fh_merges, hx, h1, h2, p1, hcatch, bd, nm, setM, setC, setO, f_X11_thrown, jn0, jn1, wF_1, upd_s, (hi _).1, updL_s, lgc]
      exact hk _ (hI0.scr (p2.mono (by decide)))
    · rw [e] at p1
      rw [e] at h2
      simp [lc_20, fh_merges, hx, h1, h2, p1, hcatch, bd, nm, setM, setC, setO, f_X11_thrown, jn0, jn1, wF_1, upd_s, (hi _).1, updL_s, lgc]
      exact hk _ (hI0.scr (p2.mono (by decide)))
