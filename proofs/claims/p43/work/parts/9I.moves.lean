/-! P43: steps on a row -/
theorem r_turn {n a b : Nat} {v : Nat → Nat} {p : Row} (hn : n ≤ 5) (hp : RwN n p v) (hab : a ≤ b) (hb : b ≤ n) : Ev (f_L_turn (nI a) (nI b) p) (fun r => RwN n r (flipN a b v)) := by
  unfold f_L_turn
  refine Ev_jn1 (fun r => RwN n r (flipN a b v)) (fun r hr => Ev_so hr) (fun kk hk => ?_)
  refine Ev_fx2 (fun j a1 r => a1 = nI j ∧ RwN n r (fun x => if (a ≤ x ∧ x < a + j) ∨ (b - j ≤ x ∧ x < b) then v (a + b - 1 - x) else v x)) ((b - a) / 2) ?_ ?_ (FU_lt (by omega)) ⟨rfl, hp.congr (fun x hx => by rw [if_neg (by omega)])⟩
  · rintro self j a1 r hj ⟨rfl, hR⟩ hself
    unfold L_L_turn_2
    rw [n1, n2, nsub hab, ndiv (by omega) (by omega) (by omega), nI_add, nsub (by omega), nsub (by omega), nI_add]
    refine Ev_f (nle_n hj (by omega)) (Ev_ck rfl (by omega) (by omega) (Ev_nm (Ev_ck rfl (by omega) (by omega) (Ev_ck rfl (by omega) (by omega) (Ev_nm (Ev_ck rfl (by omega) (by omega) (Ev_nm (hself _ _ ⟨rfl, fun x hx => ?_⟩))))))))
    have q1 := hR (a + j) (by omega)
    have q2 := hR (b - 1 - j) (by omega)
    dsimp only at q1 q2 ⊢
    rw [if_neg (by omega)] at q1 q2
    rw [clN (by omega), clN (by omega), q1, q2]
    by_cases e1 : x = b - 1 - j
    · rw [e1, upd_s, if_pos (by omega)]
      congr 2
      omega
    · rw [upd_n _ _ e1]
      by_cases e2 : x = a + j
      · rw [e2, upd_s, if_pos (by omega)]
        congr 2
        omega
      · rw [upd_n _ _ e2, hR x hx]
        dsimp only
        by_cases e3 : (a ≤ x ∧ x < a + j) ∨ (b - j ≤ x ∧ x < b)
        · rw [if_pos e3, if_pos (by omega)]
        · rw [if_neg e3, if_neg (by omega)]
  · rintro self a1 r ⟨rfl, hR⟩
    unfold L_L_turn_2
    rw [n2, nsub hab, ndiv (by omega) (by omega) (by omega)]
    refine Ev_t (Int32.le_refl _) (hk _ (hR.congr (fun x hx => ?_)))
    unfold flipN
    by_cases e3 : (a ≤ x ∧ x < a + (b - a) / 2) ∨ (b - (b - a) / 2 ≤ x ∧ x < b)
    · rw [if_pos e3, if_pos (by omega)]
    · rw [if_neg e3]
      by_cases e4 : a ≤ x ∧ x < b
      · rw [if_pos e4]
        congr 1
        omega
      · rw [if_neg e4]
theorem blk_flips2 {a b e x : Nat} {v : Nat → Nat} (h1 : a < b) (h2 : b < e) : v (blkS a b e x) = flipN (a + e - b) e (flipN a (a + e - b) (flipN a e v)) x := by
  unfold flipN blkS
  by_cases c1 : a ≤ x ∧ x < e
  · rw [if_pos c1]
    by_cases c2 : a + e - b ≤ x ∧ x < e
    · rw [if_pos c2, if_neg (by omega), if_neg (by omega), if_pos (by omega)]
      congr 1; omega
    · rw [if_neg c2, if_pos (by omega), if_pos (by omega), if_pos (by omega)]
      congr 1; omega
  · rw [if_neg c1, if_neg (by omega), if_neg (by omega), if_neg c1]
theorem r_steps {n st : Nat} (hn : n ≤ 5) (hn2 : 2 ≤ n) (hst : st < 4) : f_L_steps (nI st) (nI n) = some (nI (kdN st n)) := by
  refine Ev_eq ?_
  unfold f_L_steps
  have e0 : (nI st = 0) = (st = 0) := nI_iff (b := 0) (by omega) (by omega)
  have e1 : (nI st = 1) = (st = 1) := nI_iff (b := 1) (by omega) (by omega)
  have e2 : (nI st = 2) = (st = 2) := nI_iff (b := 2) (by omega) (by omega)
  simp only [e0, e1, e2]
  rw [n1, nsub (by omega), nmul, nmul]
  unfold kdN
  refine Ev_jn0 (st = 0 ∨ st = 2) (fun h => Ev_so ?_) (fun k9 h9 => Ev_i (fun q => h9 (Or.inl q)) (fun q0 => Ev_i (fun q => h9 (Or.inr q)) (fun q2 => Ev_i (fun q => Ev_so (by rw [if_neg q0, if_pos q])) (fun q1 => Ev_so (by rw [if_neg q0, if_neg q1, if_neg q2])))))
  rcases h with h | h
  · rw [if_pos h]
  · rw [if_neg (by omega), if_neg (by omega), if_pos h]
theorem RwN.swap {n a b : Nat} {v : Nat → Nat} {p : Row} (h : RwN n p v) (hab : a ≠ b) : RwN n (upd (upd p a (nI (v b))) b (nI (v a))) (swapN a b v) := fun x hx => by
  unfold swapN
  by_cases x1 : x = b
  · rw [x1, upd_s, if_neg (Ne.symm hab), if_pos rfl]
  · rw [upd_n _ _ x1]
    by_cases x2 : x = a
    · rw [x2, upd_s, if_pos rfl]
    · rw [upd_n _ _ x2, if_neg x2, if_neg x1]; exact h x hx
theorem r_moves {n st e : Nat} {v : Nat → Nat} {p : Row} (hn : n ≤ 5) (hn2 : 2 ≤ n) (hst : st < 4) (he : e < kdN st n) (hp : RwN n p v) : Ev (f_L_moves (nI st) (nI e) (nI n) p) (fun r => (r.1 = 0 ∧ mvN st n e = none ∧ RwN n r.2 v) ∨ (r.1 = 1 ∧ ∃ s, mvN st n e = some s ∧ RwN n r.2 (fun x => v (s x)))) := by
  have hkd := kd_le (st := st) (show n ≤ 6 by omega)
  have e0 : (nI st = 0) = (st = 0) := nI_iff (b := 0) (by omega) (by omega)
  have e2 : (nI st = 2) = (st = 2) := nI_iff (b := 2) (by omega) (by omega)
  have e3 : (nI st = 3) = (st = 3) := nI_iff (b := 3) (by omega) (by omega)
  have hnz : ¬ nI n = 0 := nI_ne0 (by omega) (by omega)
  have hm1 : e % n < n := Nat.mod_lt _ (by omega)
  have hm2 : e / n % n < n := Nat.mod_lt _ (by omega)
  have hd1 : e / n ≤ e := Nat.div_le_self _ _
  have hd2 : e / n / n ≤ e / n := Nat.div_le_self _ _
  unfold f_L_moves
  simp only [e0, e2, e3]
  rw [irmN (by omega) (by omega) (by omega), ndiv (by omega) (by omega) (by omega), irmN (by omega) (by omega) (by omega), ndiv (by omega) (by omega) (by omega), n1, n2, nI_add, nI_add, nI_add, show (0 : Int32) = nI 0 from rfl]
  refine Ev_jn1 (fun z => z = nI (if st = 0 then e else e % n)) (fun z hz => ?_) (fun k11 h11 => Ev_i (fun q => h11 _ (by rw [if_pos q])) (fun q => Ev_nz hnz (h11 _ (by rw [if_neg q]))))
  subst hz
  refine Ev_jn1 (fun z => z = nI (if st = 0 then e + 1 else e / n % n)) (fun z hz => ?_) (fun k28 h28 => Ev_i (fun q => h28 _ (by rw [if_pos q])) (fun q => Ev_nz hnz (Ev_nz hnz (h28 _ (by rw [if_neg q])))))
  subst hz
  refine Ev_nz hnz (Ev_nz hnz (Ev_nm (Ev_i (fun q => ?_) (fun q2 => ?_))))
  · subst q
    have he : e < n - 1 := he
    exact Ev_bd _ (r_turn hn hp (show 0 ≤ e + 2 by omega) (by omega)) (fun r h => Ev_ckz (Or.inr rfl) (Ev_so (Or.inr ⟨rfl, _, rfl, h.congr (fun x _ => flip_src.symm)⟩)))
  · by_cases q0 : st = 0
    · subst q0
      have he : e < n - 1 := he
      rw [if_pos rfl, if_pos rfl]
      refine Ev_f (nle_n (by omega) (by omega)) (Ev_jn0 True (fun _ => Ev_f (by omega) ?_) (fun k75 h75 => Ev_f (by omega) (h75 trivial)))
      rw [clN (by omega), clN (by omega), hp e (by omega), hp (e + 1) (by omega)]
      refine Ev_ck rfl (by omega) (by omega) (Ev_ck rfl (by omega) (by omega) (Ev_ck rfl (by omega) (by omega) (Ev_nm (Ev_ck rfl (by omega) (by omega) (Ev_nm (Ev_ckz (Or.inr rfl) (Ev_so (Or.inr ⟨rfl, _, rfl, ?_⟩))))))))
      exact (hp.swap (by omega)).congr (fun x _ => swap_src.symm)
    · rw [if_neg q0, if_neg q0]
      by_cases q1 : st = 1
      · have hmv : mvN st n e = if e % n < e / n % n then some (swapN (e % n) (e / n % n) (fun x => x)) else none := by unfold mvN; rw [if_neg q0, if_neg q2, if_pos q1]
        refine Ev_i (fun z => Ev_ckz (Or.inl rfl) (Ev_so (Or.inl ⟨rfl, ?_, hp⟩))) (fun z => ?_)
        · rw [nI_leI (by omega) (by omega)] at z
          rw [hmv, if_neg (by omega)]
        · rw [nI_leI (by omega) (by omega)] at z
          refine Ev_jn0 True (fun _ => Ev_f (by omega) ?_) (fun k75 h75 => Ev_f (by omega) (h75 trivial))
          rw [clN (by omega), clN (by omega), hp _ hm1, hp _ hm2]
          refine Ev_ck rfl (by omega) (by omega) (Ev_ck rfl (by omega) (by omega) (Ev_ck rfl (by omega) (by omega) (Ev_nm (Ev_ck rfl (by omega) (by omega) (Ev_nm (Ev_ckz (Or.inr rfl) (Ev_so (Or.inr ⟨rfl, swapN (e % n) (e / n % n) (fun x => x), by rw [hmv, if_pos (by omega)], ?_⟩))))))))
          exact (hp.swap (by omega)).congr (fun x _ => swap_src.symm)
      · have hmv : mvN st n e = if e % n < e / n % n ∧ e / n % n < e / n / n + 1 then some (blkS (e % n) (e / n % n) (e / n / n + 1)) else none := by unfold mvN; rw [if_neg q0, if_neg q2, if_neg q1]
        have h3 : st = 3 := by omega
        subst h3
        have he : e < n * n * n := he
        have hd : e / n / n < n := by
          rw [Nat.div_div_eq_div_mul]
          exact Nat.div_lt_of_lt_mul he
        refine Ev_i (fun z => Ev_ckz (Or.inl rfl) (Ev_so (Or.inl ⟨rfl, ?_, hp⟩))) (fun z => ?_)
        · rw [nI_leI (by omega) (by omega)] at z
          rw [hmv, if_neg (by omega)]
        · rw [nI_leI (by omega) (by omega)] at z
          refine Ev_jn0 (e / n % n < e / n / n + 1) (fun z2 => Ev_t rfl ?_) (fun k75 h75 => Ev_t rfl (Ev_i (fun z2 => h75 ?_) (fun z2 => Ev_ckz (Or.inl rfl) (Ev_so (Or.inl ⟨rfl, ?_, hp⟩)))))
          · rw [nI_add, nsub (by omega)]
            refine Ev_bd _ (r_turn hn hp (by omega) (by omega)) (fun r1 h1 => ?_)
            refine Ev_bd _ (r_turn hn h1 (by omega) (by omega)) (fun r2 h2 => ?_)
            refine Ev_bd _ (r_turn hn h2 (by omega) (by omega)) (fun r3 h3 => ?_)
            exact Ev_ckz (Or.inr rfl) (Ev_so (Or.inr ⟨rfl, _, by rw [hmv, if_pos ⟨by omega, z2⟩], h3.congr (fun x _ => (blk_flips2 (by omega) z2).symm)⟩))
          · rw [nI_ltI (by omega) (by omega)] at z2; exact z2
          · rw [nI_ltI (by omega) (by omega)] at z2
            rw [hmv, if_neg (by omega)]
def ivK (n : Nat) (v : Nat → Nat) (k : Nat) : Nat := ctB (fun k => decide (k / n < k % n) && decide (v (k % n) < v (k / n))) k
theorem r_upside {n : Nat} {v : Nat → Nat} {p : Row} (hn : n ≤ 5) (hn2 : 2 ≤ n) (hp : RwN n p v) (hv : ∀ x, x < n → v x < n) : f_L_upsideDown (nI n) p = some (nI (ivK n v (n * n))) := by
  have hnn : n * n < 26 := by
    have := Nat.mul_le_mul hn hn
    omega
  have hnz : ¬ nI n = 0 := nI_ne0 (by omega) (by omega)
  refine Ev_eq ?_
  unfold f_L_upsideDown
  refine Ev_jn1 (fun y => y = nI (ivK n v (n * n))) (fun y hy => Ev_so hy) (fun kk hk => ?_)
  refine Ev_fx2 (fun j a1 a2 => a2 = nI j ∧ a1 = nI (ivK n v j)) (n * n) ?_ ?_ (FU_lt (by omega)) ⟨rfl, rfl⟩
  · rintro self j a1 a2 hj ⟨rfl, rfl⟩ hself
    have hm : j % n < n := Nat.mod_lt _ (by omega)
    have hd : j / n < n := Nat.div_lt_of_lt_mul hj
    have l1 := hv _ hm
    have l2 := hv _ hd
    have hs : ivK n v (j + 1) = ivK n v j + (if (decide (j / n < j % n) && decide (v (j % n) < v (j / n))) = true then 1 else 0) := rfl
    unfold L_L_upsideDown_4
    rw [nmul, irmN (by omega) (by omega) (by omega), ndiv (by omega) (by omega) (by omega), clN (by omega), clN (by omega), hp _ hm, hp _ hd]
    refine Ev_f (nle_n hj (by omega)) (Ev_nz hnz (Ev_nz hnz (Ev_jn0 ((decide (j / n < j % n) && decide (v (j % n) < v (j / n))) = false) (fun h => Ev_nm (hself _ _ ⟨nI_add j 1, ?_⟩)) (fun k38 h38 => Ev_i (fun z => h38 ?_) (fun z => Ev_nz hnz (Ev_ck rfl (by omega) (by omega) (Ev_nz hnz (Ev_ck rfl (by omega) (by omega) (Ev_i (fun z2 => h38 ?_) (fun z2 => Ev_nm (hself _ _ ⟨nI_add j 1, ?_⟩))))))))))) 
    · rw [hs, h, show (0 : Int32) = nI 0 from rfl, nI_add]; rfl
    · rw [nI_leI (by omega) (by omega)] at z
      rw [decide_eq_false (by omega)]; rfl
    · rw [nI_leI (by omega) (by omega)] at z2
      rw [decide_eq_false (show ¬ v (j % n) < v (j / n) by omega), Bool.and_false]
    · rw [nI_leI (by omega) (by omega)] at z z2
      rw [hs, decide_eq_true (show j / n < j % n by omega), decide_eq_true (show v (j % n) < v (j / n) by omega), n1, nI_add]; rfl
  · rintro self a1 a2 ⟨rfl, rfl⟩
    unfold L_L_upsideDown_4
    rw [nmul]
    exact Ev_t (Int32.le_refl _) (hk _ rfl)
def inF (v : Nat → Nat) : Nat → Nat → Nat → Option Nat
  | 0, _, _ => none
  | f + 1, s, a => if s.testBit a = true then some s else inF v f (s ||| 2 ^ a) (v a)
def rgF (v : Nat → Nat) : Nat → Option (Nat × Nat)
  | 0 => some (0, 0)
  | w + 1 => match rgF v w with
    | none => none
    | some (s, m) => match inF v 7 s w with
      | none => none
      | some s2 => some (s2, m + if s.testBit w = true then 0 else 1)
theorem inF_lt {n : Nat} {v : Nat → Nat} (hn : n ≤ 5) (hv : ∀ x, x < n → v x < n) : ∀ f s a s2, s < 2 ^ n → a < n → inF v f s a = some s2 → s2 < 2 ^ n
  | 0, _, _, _, _, _, h => by cases h
  | f + 1, s, a, s2, hs, ha, h => by
    unfold inF at h
    by_cases e : s.testBit a = true
    · rw [if_pos e] at h; cases h; exact hs
    · rw [if_neg e] at h
      exact inF_lt hn hv f _ _ s2 (Nat.or_lt_two_pow hs (Nat.pow_lt_pow_right (by omega) ha)) (hv a ha) h
theorem r_in {n m : Nat} {v : Nat → Nat} {p : Row} {x1 x4 : Int32} {kk : Int32 → Option Int32} {P : Int32 → Prop} (hn : n ≤ 5) (hp : RwN n p v) (hv : ∀ x, x < n → v x < n) : ∀ f N s a s2, f ≤ N → s < 2 ^ n → a < n → inF v f s a = some s2 → Ev (kk (nI s2)) P → Ev (fx2 (L_L_rings_34 x1 (nI m) x4 p kk) N (nI s) (nI a)) P
  | 0, _, _, _, _, _, _, _, h, _ => by cases h
  | f + 1, N, s, a, s2, hN, hs, ha, h, hP => by
    obtain ⟨M, rfl⟩ : ∃ M, N = M + 1 := ⟨N - 1, by omega⟩
    have hle : 2 ^ n ≤ 2 ^ 5 := Nat.pow_le_pow_right (by omega) hn
    show Ev (L_L_rings_34 x1 (nI m) x4 p kk (fx2 (L_L_rings_34 x1 (nI m) x4 p kk) M) (nI s) (nI a)) P
    have b0 := bit_0 (a := s) (k := a) (by omega) (by omega)
    have esh : ishl (1 : Int32) (nI a) = nI (2 ^ a) := by
      have := ishl_n (a := 1) (k := a) (by omega)
      rw [Nat.one_mul] at this; exact this
    unfold inF at h
    unfold L_L_rings_34
    by_cases e : s.testBit a = true
    · rw [if_pos e] at h
      cases h
      exact Ev_f (fun z => by rw [b0.mp z] at e; cases e) hP
    · rw [if_neg e] at h
      have e2 : s.testBit a = false := by
        cases hh : s.testBit a with
        | true => exact absurd hh e
        | false => rfl
      refine Ev_t (b0.mpr e2) (Ev_nm (Ev_ck rfl (by omega) (by omega) ?_))
      rw [esh, nI_or, clN (by omega), hp a ha]
      exact r_in (m := m) (x1 := x1) (x4 := x4) hn hp hv f M _ _ s2 (by omega) (Nat.or_lt_two_pow hs (Nat.pow_lt_pow_right (by omega) ha)) (hv a ha) h hP
theorem rgF_lt {n : Nat} {v : Nat → Nat} (hn : n ≤ 5) (hv : ∀ x, x < n → v x < n) : ∀ w s m, w ≤ n → rgF v w = some (s, m) → s < 2 ^ n ∧ m ≤ w
  | 0, s, m, _, h => by cases h; exact ⟨Nat.two_pow_pos n, Nat.le_refl _⟩
  | w + 1, s, m, hw, h => by
    unfold rgF at h
    split at h
    · cases h
    · rename_i s1 m1 h1
      have ih := rgF_lt hn hv w s1 m1 (by omega) h1
      split at h
      · cases h
      · rename_i s2 h2
        cases h
        refine ⟨inF_lt hn hv _ _ _ _ ih.1 (by omega) h2, ?_⟩
        split <;> omega
theorem rgF_pre {v : Nat → Nat} {w : Nat} : ∀ d, (rgF v (w + d)).isSome = true → (rgF v w).isSome = true
  | 0, h => h
  | d + 1, h => by
    apply rgF_pre d
    have h : (rgF v (w + d + 1)).isSome = true := h
    unfold rgF at h
    cases e : rgF v (w + d) with
    | none => rw [e] at h; cases h
    | some _ => rfl
theorem r_rings {n s m : Nat} {v : Nat → Nat} {p : Row} (hn : n ≤ 5) (hp : RwN n p v) (hv : ∀ x, x < n → v x < n) (h : rgF v n = some (s, m)) : f_L_rings (nI n) p = some (nI m) := by
  have hle : 2 ^ n ≤ 2 ^ 5 := Nat.pow_le_pow_right (by omega) hn
  refine Ev_eq ?_
  unfold f_L_rings
  refine Ev_jn1 (fun y => y = nI m) (fun y hy => Ev_so hy) (fun kk hk => ?_)
  refine Ev_fx3 (fun w a1 a2 a3 => a3 = nI w ∧ ∃ s m, rgF v w = some (s, m) ∧ a1 = nI s ∧ a2 = nI m) n ?_ ?_ (FU_lt (by omega)) ⟨rfl, 0, 0, rfl, rfl, rfl⟩
  · rintro self w a1 a2 a3 hw ⟨rfl, s1, m1, h1, rfl, rfl⟩ hself
    obtain ⟨l1, l2⟩ := rgF_lt hn hv w s1 m1 (by omega) h1
    have b0 := bit_0 (a := s1) (k := w) (by omega) (by omega)
    have hsome : (rgF v (w + 1)).isSome = true := rgF_pre (n - (w + 1)) (by rw [show w + 1 + (n - (w + 1)) = n by omega, h]; rfl)
    have hs : rgF v (w + 1) = match inF v 7 s1 w with
      | none => none
      | some s2 => some (s2, m1 + if s1.testBit w = true then 0 else 1) := by
      show (match rgF v w with | none => none | some (s, m) => _) = _
      rw [h1]
    cases hi : inF v 7 s1 w with
    | none => rw [hs, hi] at hsome; cases hsome
    | some s2 =>
      rw [hi] at hs
      have hs : rgF v (w + 1) = some (s2, m1 + if s1.testBit w = true then 0 else 1) := hs
      unfold L_L_rings_7
      refine Ev_f (nle_n hw (by omega)) (Ev_i (fun z => ?_) (fun z => ?_))
      · have e := b0.mp z
        rw [e] at hs
        rw [n1, nI_add]
        refine Ev_nm (Ev_jn1 (fun y => y = nI s2) (fun y hy => hself _ _ _ ⟨nI_add w 1, s2, _, hs, hy, rfl⟩) (fun k59 h59 => r_in hn hp hv 7 FU s1 w s2 (by unfold FU; omega) l1 hw hi (h59 _ rfl)))
      · have e : s1.testBit w = true := by
          cases hh : s1.testBit w with
          | true => rfl
          | false => exact absurd (b0.mpr hh) z
        rw [e] at hs
        rw [show (0 : Int32) = nI 0 from rfl, nI_add]
        refine Ev_nm (Ev_jn1 (fun y => y = nI s2) (fun y hy => hself _ _ _ ⟨nI_add w 1, s2, _, hs, hy, rfl⟩) (fun k59 h59 => r_in hn hp hv 7 FU s1 w s2 (by unfold FU; omega) l1 hw hi (h59 _ rfl)))
  · rintro self a1 a2 a3 ⟨rfl, s1, m1, h1, rfl, rfl⟩
    rw [h] at h1
    cases h1
    unfold L_L_rings_7
    exact Ev_t (Int32.le_refl _) (hk _ rfl)
