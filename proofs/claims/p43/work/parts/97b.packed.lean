/-! ROWS OF ALL VALUES: packed in the class, in an array in the reference; case run -/
def PK (n : Nat) (v : Nat → Nat) (q : Nat) : Prop := q < 2 ^ (4 * n) ∧ ∀ x, x < n → ∀ b, b < 4 → q.testBit (4 * x + b) = (v x).testBit b
theorem bit_nib {u a x b : Nat} (hu : u < 16) (hb : b < 4) : (u * 2 ^ (4 * a)).testBit (4 * x + b) = (decide (x = a) && u.testBit b) := by
  rw [← Nat.shiftLeft_eq, Nat.testBit_shiftLeft]
  by_cases e : x = a
  · subst e
    rw [show 4 * x + b - 4 * x = b by omega]
    simp
  · rw [decide_eq_false e, Bool.false_and]
    by_cases h : 4 * x + b ≥ 4 * a
    · have : u.testBit (4 * x + b - 4 * a) = false := Nat.testBit_lt_two_pow (Nat.lt_of_lt_of_le hu (Nat.pow_le_pow_right (n := 2) (i := 4) (by omega) (by omega)))
      rw [this, Bool.and_false]
    · rw [decide_eq_false h, Bool.false_and]
theorem nib_lt {u a n : Nat} (hu : u < 16) (ha : a < n) : u * 2 ^ (4 * a) < 2 ^ (4 * n) := by
  have h1 : u * 2 ^ (4 * a) < 2 ^ 4 * 2 ^ (4 * a) := Nat.mul_lt_mul_of_pos_right hu (Nat.two_pow_pos _)
  rw [← Nat.pow_add] at h1
  exact Nat.lt_of_lt_of_le h1 (Nat.pow_le_pow_right (by omega) (by omega))
theorem PK.z {v : Nat → Nat} : PK 0 v 0 := ⟨by decide, fun x hx => absurd hx (by omega)⟩
theorem PK.put {w : Nat} {v : Nat → Nat} {q : Nat} (h : PK w v q) (hv : v w < 16) : PK (w + 1) v (q ||| v w * 2 ^ (4 * w)) := by
  refine ⟨Nat.or_lt_two_pow (Nat.lt_of_lt_of_le h.1 (Nat.pow_le_pow_right (by omega) (by omega))) (nib_lt hv (by omega)), fun x hx b hb => ?_⟩
  rw [Nat.testBit_or, bit_nib hv hb]
  by_cases e : x = w
  · subst e
    have : q.testBit (4 * x + b) = false := Nat.testBit_lt_two_pow (Nat.lt_of_lt_of_le h.1 (Nat.pow_le_pow_right (by omega) (by omega)))
    rw [this]; simp
  · rw [h.2 x (by omega) b hb, decide_eq_false e]; simp
theorem PK.lt {n q : Nat} {v : Nat → Nat} (hn : n ≤ 6) (h : PK n v q) : q < 2 ^ 24 := Nat.lt_of_lt_of_le h.1 (Nat.pow_le_pow_right (by omega) (by omega))
theorem PK.congr {n q : Nat} {u v : Nat → Nat} (e : ∀ x, x < n → u x = v x) (h : PK n u q) : PK n v q := ⟨h.1, fun x hx b hb => by rw [← e x hx]; exact h.2 x hx b hb⟩
theorem C_valueOn {n q x : Nat} {v : Nat → Nat} (hn : n ≤ 6) (h : PK n v q) (hx : x < n) (hv : v x < 16) : f_X5_valueOn (nI q) (nI x) = some (nI (v x)) := by
  have hq := h.lt hn
  unfold f_X5_valueOn
  rw [n4, nmul, ishr_n (by omega) (by omega), show (15 : Int32) = nI 15 from rfl, nI_and]
  congr 2
  apply Nat.eq_of_testBit_eq
  intro j
  rw [Nat.testBit_and, Nat.testBit_div_two_pow, show 15 = 2 ^ 4 - 1 from rfl, Nat.testBit_two_pow_sub_one]
  by_cases e : j < 4
  · rw [decide_eq_true e, Bool.and_true, Nat.add_comm, h.2 x hx j e]
  · rw [decide_eq_false e, Bool.and_false]
    exact (Nat.testBit_lt_two_pow (Nat.lt_of_lt_of_le hv (Nat.pow_le_pow_right (n := 2) (i := 4) (by omega) (by omega)))).symm
theorem C_exchanged {n q a b : Nat} {v : Nat → Nat} (hn : n ≤ 6) (h : PK n v q) (ha : a < n) (hb : b < n) (hab : a ≠ b) (hva : v a < 16) (hvb : v b < 16) : Ev (f_X5_exchanged (nI q) (nI a) (nI b)) (fun y => ∃ p, y = nI p ∧ PK n (swapN a b v) p) := by
  unfold f_X5_exchanged
  refine Ev_bde (C_valueOn hn h ha hva) (Ev_bde (C_valueOn hn h hb hvb) (Ev_nm (Ev_so ?_)))
  have hu : v a ^^^ v b < 16 := Nat.xor_lt_two_pow (n := 4) hva hvb
  rw [nI_xor, n4, nmul, nmul, ishl_n (by omega), ishl_n (by omega), nI_xor, nI_xor]
  refine ⟨_, rfl, Nat.xor_lt_two_pow (Nat.xor_lt_two_pow h.1 (nib_lt hu ha)) (nib_lt hu hb), fun x hx c hc => ?_⟩
  rw [Nat.testBit_xor, Nat.testBit_xor, bit_nib hu hc, bit_nib hu hc, h.2 x hx c hc, Nat.testBit_xor]
  unfold swapN
  by_cases e1 : x = a
  · subst e1
    rw [if_pos rfl, decide_eq_true rfl, decide_eq_false hab]
    cases (v x).testBit c <;> cases (v b).testBit c <;> rfl
  · rw [if_neg e1, decide_eq_false e1]
    by_cases e2 : x = b
    · subst e2
      rw [if_pos rfl, decide_eq_true rfl]
      cases (v x).testBit c <;> cases (v a).testBit c <;> rfl
    · rw [if_neg e2, decide_eq_false e2]
      simp
theorem cmp_lt {n a b : Nat} {v : Nat → Nat} {B : Nat} (ha : a < n) (hb : b < n) (hv : ∀ x, x < n → v x < B) : ∀ x, x < n → cmpN a b v x < B := fun x hx => by
  have := hv a ha
  have := hv b hb
  have := hv x hx
  unfold cmpN
  split
  · omega
  · split <;> omega
theorem net_lt {n k : Nat} {f o : Nat → Nat} {v : Nat → Nat} {B : Nat} (hG : Good n k f o) (hv : ∀ x, x < n → v x < B) : ∀ j, j ≤ k → ∀ x, x < n → netN f o j v x < B
  | 0, _ => hv
  | j + 1, hj => cmp_lt (hG.2.2.2 j (by omega)).1 (hG.2.2.2 j (by omega)).2.1 (net_lt hG hv j (by omega))
theorem cmp_is_swap {a b x : Nat} {v : Nat → Nat} (h : v b < v a) : swapN a b v x = cmpN a b v x := by
  unfold swapN cmpN
  split
  · omega
  · split <;> omega
theorem cmp_is_id {a b x : Nat} {v : Nat → Nat} (h : v a ≤ v b) : v x = cmpN a b v x := by
  unfold cmpN
  split
  · rename_i e; subst e; omega
  · split
    · rename_i e; subst e; omega
    · rfl
theorem C_sent {n k q : Nat} {f o v : Nat → Nat} {c : Hp} (hG : Good n k f o) (hC : NetC n k f o c) (h : PK n v q) (hv : ∀ x, x < n → v x < n) : Ev (f_X9_sent_1 c (nI q)) (fun y => ∃ p, y = nI p ∧ PK n (netN f o k v) p) := by
  have hn := hG.2.1
  have hk24 := hG.2.2.1
  unfold f_X9_sent_1
  refine Ev_jn1 (fun y => ∃ p, y = nI p ∧ PK n (netN f o k v) p) (fun y hy => Ev_so hy) (fun kk hk => ?_)
  refine Ev_fx2 (fun j a1 a2 => a2 = nI j ∧ ∃ p, a1 = nI p ∧ PK n (netN f o j v) p) k ?_ ?_ (FU_lt (by omega)) ⟨rfl, q, rfl, h⟩
  · rintro self j a1 a2 hj ⟨rfl, p, rfl, hp⟩ hself
    obtain ⟨g1, g2, g3⟩ := hG.2.2.2 j hj
    have hl := net_lt hG hv j (by omega)
    have l1 := hl _ g1
    have l2 := hl _ g2
    unfold L_X9_sent_1_4
    rw [hC.2.1, clN (by omega), (hC.2.2 j hj).1, (hC.2.2 j hj).2]
    refine Ev_f (nle_n hj (by omega)) (Ev_ck rfl (by omega) (by omega) (Ev_bde (C_valueOn hn hp g1 (by omega)) (Ev_ck rfl (by omega) (by omega) (Ev_bde (C_valueOn hn hp g2 (by omega)) (Ev_i (fun e => ?_) (fun e => Ev_ck rfl (by omega) (by omega) (Ev_ck rfl (by omega) (by omega) (Ev_bd _ (C_exchanged hn hp g1 g2 g3 (by omega) (by omega)) (fun y ⟨p2, e2, hp2⟩ => ?_)))))))))
    · rw [nI_leI (by omega) (by omega)] at e
      exact hself _ _ ⟨nI_add j 1, p, rfl, hp.congr (fun x _ => cmp_is_id e)⟩
    · rw [nI_leI (by omega) (by omega)] at e
      exact hself _ _ ⟨nI_add j 1, p2, e2, hp2.congr (fun x _ => cmp_is_swap (by omega))⟩
  · rintro self a1 a2 ⟨rfl, hp⟩
    unfold L_X9_sent_1_4
    rw [hC.2.1]
    exact Ev_t (Int32.le_refl _) (hk _ hp)
/-- codes -/
def cdS (n : Nat) (v : Nat → Nat) : Nat → Nat
  | 0 => 0
  | j + 1 => 10 * cdS n v j + v (n - 1 - j)
theorem cdS_congr {n : Nat} {u v : Nat → Nat} (hn : 0 < n) (h : ∀ x, x < n → u x = v x) : ∀ j, cdS n u j = cdS n v j
  | 0 => rfl
  | j + 1 => by
    show 10 * cdS n u j + _ = 10 * cdS n v j + _
    rw [cdS_congr hn h j, h (n - 1 - j) (by omega)]
theorem m1_lt : nI 0 + (-1 : Int32) < 0 := by decide
theorem C_toCode {n q : Nat} {v : Nat → Nat} (hn : n ≤ 6) (h : PK n v q) (hv : ∀ x, x < n → v x < 16) (hn0 : 0 < n) : f_X5_toCode (nI q) (nI n) = some (nI (cdS n v n)) := by
  refine Ev_eq ?_
  unfold f_X5_toCode
  rw [n1, nsub (by omega)]
  refine Ev_nm (Ev_jn1 (fun y => y = nI (cdS n v n)) (fun y hy => Ev_so hy) (fun kk hk => ?_))
  refine Ev_fx2 (fun j a1 a2 => a2 = nI (n - j) + (-1) ∧ a1 = nI (cdS n v j)) n ?_ ?_ (FU_lt (by omega)) ⟨?_, rfl⟩
  · rintro self j a1 a2 hj ⟨rfl, rfl⟩ hself
    unfold L_X5_toCode_6
    have e : nI (n - j) + (-1) = nI (n - 1 - j) := by
      rw [show n - j = n - 1 - j + 1 by omega]; exact nI_m1 _
    rw [e]
    refine Ev_f (nI_pos (by omega)) (Ev_bde (C_valueOn hn h (by omega) (hv _ (by omega))) (Ev_nm (hself _ _ ⟨?_, ?_⟩)))
    · rw [show n - 1 - j = n - (j + 1) by omega]
    · rw [show (10 : Int32) = nI 10 from rfl, nmul, nI_add]; rfl
  · rintro self a1 a2 ⟨rfl, rfl⟩
    unfold L_X5_toCode_6
    rw [Nat.sub_self]
    exact Ev_t m1_lt (hk _ rfl)
  · rw [Nat.sub_zero, show n = n - 1 + 1 by omega]; exact (nI_m1 _).symm
/-- the row that the reference has laid -/
def RwM (n : Nat) (v : Nat → Nat) (h : Hp) : Prop := ∀ x, x < n → h.1 5 x = nI (v x)
theorem RwM.congr {n : Nat} {u v : Nat → Nat} {h : Hp} (e : ∀ x, x < n → u x = v x) (hR : RwM n u h) : RwM n v h := fun x hx => by rw [← e x hx]; exact hR x hx
