/-! PURE: the law on every script -/
theorem if_ok {c : Prop} [Decidable c] {a b : Option Unit} (h1 : a = some ()) (h2 : b = some ()) : (if c then a else b) = some () := by split <;> assumption
theorem ck_ok {j n : Nat} {x : Int32} {k : Option Unit} (e : x = nI j) (hj : j < n) (hn : n < 2 ^ 31) : ck x n k = k := by
  subst e
  have : ∀ (X : Option Unit) (P : Unit → Prop), Ev X P → Ev (ck (nI j) n X) P := fun X P h => Ev_ck rfl hj hn h
  cases k with
  | some u => exact Ev_eq (this (some u) (fun r => r = u) (Ev_so rfl))
  | none => unfold ck; split <;> rfl
theorem law_one {L : Nat} {xs : Nat → Int32} {self : Int32 → LWS → Option Unit} {i : Int32} {s : LWS} (hI : Inv s) (hi : OKi L i) (hk : ∀ s1, Inv s1 → self (i + 4) s1 = some ()) (hc : ∀ X : Option Unit, ck i L X = X) : law_F L xs self i s = some () := by
  unfold law_F
  refine if_ok rfl ?_
  rw [hc]
  exact if_ok (pc_0 hI hi hk) (if_ok (pc_1 hI hi hk) (if_ok (pc_2 hI hi hk) (if_ok (pc_3 hI hi hk) (if_ok (pc_4 hI hk) (if_ok (pc_5 hI hk) (if_ok (pc_6 hI hk) (if_ok (pc_7 hI hi hk) (if_ok (pc_8 hI hi hk) (if_ok (pc_9 hI hi hk) (if_ok (pc_10 hI hi hk) (if_ok (pc_11 hI hk) (if_ok (pc_12 hI hk) (if_ok (pc_13 hI hk) (if_ok (pc_14 hI hi hk) (if_ok (pc_15 hI hk) (if_ok (pc_16 hI hk) (if_ok (pc_17 hI hk) (if_ok (pc_18 hI hi hk) (if_ok (pc_19 hI hi hk) (if_ok (pc_20 hI hi hk) (if_ok (pc_21 hI hi hk) (if_ok (pc_22 hI hk) (if_ok (pc_23 hI hk) (if_ok (pc_24 hI hi hk) (if_ok (pc_25 hI hi hk) (if_ok (pc_26 hI hi hk) (if_ok (pc_27 hI hi hk) (if_ok (pc_28 hI hk) (if_ok (pc_29 hI hi hk) (if_ok (pc_30 hI hi hk) (if_ok (pc_31 hI hi hk) (if_ok (pc_32 hI hk) (if_ok (pc_33 hI hk) (if_ok (pc_34 hI hi hk) (if_ok (pc_35 hI hi hk) (if_ok (pc_36 hI hi hk) (if_ok (pc_37 hI hi hk) (if_ok (pc_38 hI hk) (if_ok (pc_39 hI hk) (hk s hI))))))))))))))))))))))))))))))))))))))))
theorem law_all {L : Nat} {xs : Nat → Int32} (hL : L ≤ 2048) : ∀ (N j : Nat) (s : LWS), Inv s → 4 * j < L + 4 → L + 4 ≤ 4 * j + 4 * N → fx2 (law_F L xs) N (nI (4 * j)) s = some ()
  | 0, j, s, _, h1, h2 => by omega
  | N + 1, j, s, hI, h1, h2 => by
    show law_F L xs (fx2 (law_F L xs) N) (nI (4 * j)) s = some ()
    by_cases h : 4 * j + 4 ≤ L
    · refine law_one hI (fun X => ?_) (fun s1 hI1 => ?_) (fun X => ck_ok rfl (by omega) (by omega))
      · rw [show (1 : Int32) = nI 1 from rfl, show (2 : Int32) = nI 2 from rfl, show (3 : Int32) = nI 3 from rfl, nI_add, nI_add, nI_add]
        exact ⟨ck_ok rfl (by omega) (by omega), ck_ok rfl (by omega) (by omega), ck_ok rfl (by omega) (by omega)⟩
      · rw [show (4 : Int32) = nI 4 from rfl, nI_add]
        exact law_all hL N (j + 1) s1 hI1 (by omega) (by omega)
    · unfold law_F
      rw [if_pos]
      by_cases h4 : 4 ≤ L
      · rw [show (4 : Int32) = nI 4 from rfl, nsub h4, nI_ltI (by omega) (by omega)]
        omega
      · have h0 : L = 0 ∨ L = 1 ∨ L = 2 ∨ L = 3 := by omega
        have hj : j = 0 ∨ j = 1 := by omega
        rcases h0 with rfl | rfl | rfl | rfl <;> rcases hj with rfl | rfl <;> decide
theorem pure_all : ∀ (L : Nat) (xs : Nat → Int32), L ≤ 2048 → lawP L xs = some () := fun L xs hL => law_all hL FU 0 sL0 Inv_start (by omega) (by have : FU = 100000 := rfl; omega)
