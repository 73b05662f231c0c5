/-! P43: the three layouts -/
def brL (n j : Nat) : List (Nat × Nat) := ((List.range j).filter (fun i => decide (i % n + 1 < n) && decide ((i % n + i / n) % 2 = 0))).map (fun i => (i % n, i % n + 1))
theorem brL_ok : ∀ n, n < 6 → 2 ≤ n → brL n (n * n) = mkL n 1 := by decide +kernel
theorem brL_lt : ∀ n, n < 6 → 2 ≤ n → ∀ j, j < n * n → j % n + 1 < n → (j % n + j / n) % 2 = 0 → (brL n j).length < (mkL n 1).length := by decide +kernel
theorem brL_s {n j : Nat} : brL n (j + 1) = brL n j ++ (if j % n + 1 < n ∧ (j % n + j / n) % 2 = 0 then [(j % n, j % n + 1)] else []) := by
  unfold brL
  rw [List.range_succ, List.filter_append, List.map_append]
  congr 1
  by_cases h1 : j % n + 1 < n
  · by_cases h2 : (j % n + j / n) % 2 = 0
    · simp [h1, h2]
    · simp [h1, h2]
  · simp [h1]
def alN (n : Nat) : Nat := if n = 5 then 40213240123141234 else if n = 4 then 213012312 else if n = 3 then 20112 else 1
def alL (n : Nat) : Int64 := if n = 5 then 40213240123141234 else if n = 4 then 213012312 else if n = 3 then 20112 else 1
def prN (n i : Nat) : Nat × Nat := (alN n / 100 ^ i / 10 % 10, alN n / 100 ^ i % 10)
def mgL (n m j : Nat) : List (Nat × Nat) := (List.range j).map (fun t => prN n (m - 1 - t))
def dvL (a : Int64) : Nat → Int64
  | 0 => a
  | i + 1 => dvL a i / 100
theorem mgL_ok : ∀ n, n < 6 → 2 ≤ n → mgL n (mkL n 2).length (mkL n 2).length = mkL n 2 ∧ (mkL n 2).length < 10 ∧ 0 < (mkL n 2).length := by decide +kernel
theorem mgL_d : ∀ n, n < 6 → 2 ≤ n → ∀ i, i < (mkL n 2).length → l2i (lrm (dvL (alL n) i / 10) 10) = nI (prN n i).1 ∧ l2i (lrm (dvL (alL n) i) 10) = nI (prN n i).2 := by decide +kernel
theorem mgL_s {n m j : Nat} : mgL n m (j + 1) = mgL n m j ++ [prN n (m - 1 - j)] := by
  unfold mgL
  rw [List.range_succ, List.map_append]; rfl
theorem mgL_len {n m j : Nat} : (mgL n m j).length = j := by unfold mgL; simp
theorem bub_lt : ∀ n, n < 6 → ∀ t, t < n - 1 → ∀ j, j < n - 1 - t → (bubO n t ++ bubI j).length < (mkL n 0).length := by decide +kernel
theorem r_makes {n k w : Nat} {f o : Nat → Nat} {rc rq : Row} (hG : Good n k f o) (h5 : n ≤ 5) (hw : w < 3) (hc : RcN k f o rc) (hq : QrN n k rq) (hk : k + (mkL n w).length ≤ 24) : Ev (f_L_makes (nI w) rc rq) (fun r => PtN k f o (mkL n w) rq r.1 r.2) := by
  have hn2 := hG.1
  have hP0 := PtN.nil hc hq.2
  unfold f_L_makes
  rw [cl0, hq.1]
  have w0 : (nI w = 0) = (w = 0) := nI_iff (b := 0) (by omega) (by omega)
  have w1 : (nI w = 1) = (w = 1) := nI_iff (b := 1) (by omega) (by omega)
  simp only [w0, w1]
  refine Ev_ck (j := 0) rfl (by omega) (by omega) (Ev_i (fun e => ?_) (fun e0 => Ev_i (fun e => ?_) (fun e1 => ?_)))
  · subst e
    rw [n1, nsub (by omega)]
    refine Ev_nm (Ev_jn2 (fun a b => PtN k f o (mkL n 0) rq a b) (fun a b h => Ev_so h) (fun kk hk2 => ?_))
    refine Ev_fx3 (fun t a1 a b => a1 = nI (n - 1 - t) ∧ PtN k f o (bubO n t) rq a b) (n - 1) ?_ ?_ (FU_lt (by omega)) ⟨rfl, hP0⟩
    · rintro self t a1 a b ht ⟨rfl, h⟩ hself
      unfold L_L_makes_13
      refine Ev_f (nI_nle (by omega) (by omega)) (Ev_jn2 (fun a b => PtN k f o (bubO n (t + 1)) rq a b) (fun a b h2 => hself _ _ _ ⟨?_, h2⟩) (fun kq hkq => ?_))
      · rw [show n - 1 - t = n - 1 - (t + 1) + 1 by omega]; exact nI_mq
      · refine Ev_fx3 (fun j a1 a b => a1 = nI j ∧ PtN k f o (bubO n t ++ bubI j) rq a b) (n - 1 - t) ?_ ?_ (FU_lt (by omega)) ⟨rfl, by show PtN k f o (bubO n t ++ []) rq a b; rw [List.append_nil]; exact h⟩
        · rintro self2 j a1 a b hj ⟨rfl, h2⟩ hself2
          unfold L_L_makes_21
          have := bub_lt n (by omega) t ht j hj
          rw [n1, nI_add]
          refine Ev_f (nle_n hj (by omega)) (Ev_bd _ (r_puts h2 (by omega)) (fun r h3 => hself2 _ _ _ ⟨rfl, ?_⟩))
          rw [bubI_s, ← List.append_assoc]
          exact h3
        · rintro self2 a1 a b ⟨rfl, h2⟩
          unfold L_L_makes_21
          exact Ev_t (Int32.le_refl _) (hkq _ _ h2)
    · rintro self a1 a b ⟨rfl, h⟩
      unfold L_L_makes_13
      rw [Nat.sub_self]
      exact Ev_t (Int32.le_refl _) (hk2 _ _ h)
  · subst e
    have b1 := brL_ok n (by omega) hn2
    have b2 := brL_lt n (by omega) hn2
    have hnn : n * n < 26 := by
      have := Nat.mul_le_mul h5 h5
      omega
    refine Ev_jn2 (fun a b => PtN k f o (mkL n 1) rq a b) (fun a b h => Ev_so h) (fun kk hk2 => ?_)
    refine Ev_fx3 (fun j a1 a b => a1 = nI j ∧ PtN k f o (brL n j) rq a b) (n * n) ?_ ?_ (FU_lt (by omega)) ⟨rfl, hP0⟩
    · rintro self j a1 a b hj ⟨rfl, h⟩ hself
      have hm : j % n < n := Nat.mod_lt _ (by omega)
      have hd : j / n ≤ j := Nat.div_le_self _ _
      have hn0 : ¬ nI n = 0 := nI_ne0 (by omega) (by omega)
      unfold L_L_makes_62
      rw [nmul, irmN (by omega) (by omega) (by omega), ndiv (by omega) (by omega) (by omega), n1, n2, nI_add, nI_add, nI_add, irmN (by omega) (by omega) (by omega), show (0 : Int32) = nI 0 from rfl]
      have hs := brL_s (n := n) (j := j)
      refine Ev_f (nle_n hj (by omega)) (Ev_nz hn0 (Ev_i (fun e => hself _ _ _ ⟨rfl, ?_⟩) (fun e => Ev_nz hn0 (Ev_nz hn0 (Ev_i (fun e2 => Ev_nz hn0 (Ev_nz hn0 ?_)) (fun e2 => hself _ _ _ ⟨rfl, ?_⟩))))))
      · rw [nI_leI (by omega) (by omega)] at e
        rw [hs, if_neg (fun z => by omega), List.append_nil]; exact h
      · rw [nI_leI (by omega) (by omega)] at e
        rw [neqI (by omega) (by omega)] at e2
        have := b2 j hj (by omega) e2
        refine Ev_bd _ (r_puts h (by omega)) (fun r h3 => hself _ _ _ ⟨rfl, ?_⟩)
        rw [hs, if_pos ⟨by omega, e2⟩]; exact h3
      · rw [neqI (by omega) (by omega)] at e2
        rw [hs, if_neg (fun z => e2 z.2), List.append_nil]; exact h
    · rintro self a1 a b ⟨rfl, h⟩
      unfold L_L_makes_62
      rw [nmul]
      rw [b1] at h
      exact Ev_t (Int32.le_refl _) (hk2 _ _ h)
  · have e : w = 2 := by omega
    subst e
    obtain ⟨b1, b2, b3⟩ := mgL_ok n (by omega) hn2
    have hd := mgL_d n (by omega) hn2
    have hmade := made_ok 2 (by omega) n (by omega) hn2
    generalize hm : (mkL n 2).length = m at b1 b2 b3 hd hmade hk
    refine Ev_jn1 (fun z => z = alL n) (fun z hz => ?_) (fun kk hk2 => ?_)
    · subst hz
      refine Ev_bde hmade (Ev_nm (Ev_jn2 (fun a b => PtN k f o (mkL n 2) rq a b) (fun a b h => Ev_so h) (fun kk hk2 => ?_)))
      rw [n1, nsub (by omega)]
      refine Ev_fx3 (fun t a1 a b => a1 = nI (m - t) + (-1 : Int32) ∧ PtN k f o (mgL n m t) rq a b) m ?_ ?_ (FU_lt (by omega)) ⟨?_, hP0⟩
      · rintro self t a1 a b ht ⟨rfl, h⟩ hself
        obtain ⟨i, hi⟩ : ∃ i, m - t = i + 1 := ⟨m - t - 1, by omega⟩
        unfold L_L_makes_167
        rw [hi, nI_mq]
        refine Ev_f (nI_pos (by omega)) (Ev_jn1 (fun x => x = dvL (alL n) i) (fun x hx => ?_) (fun k200 h200 => ?_))
        · subst hx
          obtain ⟨d1, d2⟩ := hd i (by omega)
          rw [d1, d2]
          refine Ev_bd _ (r_puts h (by rw [mgL_len]; omega)) (fun r h3 => hself _ _ _ ⟨?_, ?_⟩)
          · rw [show m - (t + 1) = i by omega]
          · rw [mgL_s, show m - 1 - t = i by omega]; exact h3
        · refine Ev_fx2 (fun j a1 a2 => a2 = nI j ∧ a1 = dvL (alL n) j) i ?_ ?_ (FU_lt (by omega)) ⟨rfl, rfl⟩
          · rintro self2 j a1 a2 hj ⟨rfl, rfl⟩ hself2
            unfold L_L_makes_179
            exact Ev_f (nle_n hj (by omega)) (Ev_nm (hself2 _ _ ⟨nI_add j 1, rfl⟩))
          · rintro self2 a1 a2 ⟨rfl, rfl⟩
            unfold L_L_makes_179
            exact Ev_t (Int32.le_refl _) (h200 _ rfl)
      · rintro self a1 a b ⟨rfl, h⟩
        unfold L_L_makes_167
        rw [Nat.sub_self]
        rw [b1] at h
        exact Ev_t m1_lt (hk2 _ _ h)
      · rw [show m - 0 = (m - 1) + 1 by omega]; exact nI_mq.symm
    · have h5' : (nI n = 5) = (n = 5) := nI_iff (b := 5) (by omega) (by omega)
      have h4' : (nI n = 4) = (n = 4) := nI_iff (b := 4) (by omega) (by omega)
      have h3' : (nI n = 3) = (n = 3) := nI_iff (b := 3) (by omega) (by omega)
      simp only [h5', h4', h3']
      unfold alL at hk2
      refine Ev_i (fun e => hk2 _ (by rw [if_pos e])) (fun x5 => Ev_i (fun e => hk2 _ (by rw [if_neg x5, if_pos e])) (fun x4 => Ev_i (fun e => hk2 _ (by rw [if_neg x5, if_neg x4, if_pos e])) (fun x3 => hk2 _ (by rw [if_neg x5, if_neg x4, if_neg x3]))))
