/-! CASES routes, setting -/
theorem SwR.of {n k : Nat} {f o : Nat → Nat} {h : Hp} (h1 : h.1 20 2 = nI (ctB (fun r => reachB n f o k (rowT n r)) (facN n))) (h2 : ∀ v, PermN n v → ∃ l, l ≤ k + 1 ∧ h.1 22 (rankN v n) = nI l ∧ ∀ i, i ≤ k → (reachB n f o i v = true ↔ 1 ≤ l ∧ l ≤ i + 1)) : SwR n k f o h := Or.inr ⟨h1, h2⟩
theorem wF_j {m : Hp} {x : Int32} {j : Nat} (hj : j ≠ 0) : (wF m 0 0 x).1 0 j = m.1 0 j := by rw [wF_1, upd_n _ _ hj]
/-- the lowest setting -/
def stN (n : Nat) (f o : Nat → Nat) : Nat → (Nat → Nat) → Nat
  | 0, _ => 0
  | i + 1, v => if reachB n f o i v = true then stN n f o i v else 2 ^ i ||| stN n f o i (swapN (f i) (o i) v)
theorem stN_congr {n k : Nat} {f o : Nat → Nat} (hG : Good n k f o) : ∀ j, j ≤ k → ∀ u v : Nat → Nat, (∀ x, x < n → u x = v x) → stN n f o j u = stN n f o j v
  | 0, _, _, _, _ => rfl
  | j + 1, hj, u, v, h => by
    obtain ⟨g1, g2, g3⟩ := hG.2.2.2 j (by omega)
    show (if reachB n f o j u = true then stN n f o j u else 2 ^ j ||| stN n f o j (swapN (f j) (o j) u)) = (if reachB n f o j v = true then stN n f o j v else 2 ^ j ||| stN n f o j (swapN (f j) (o j) v))
    rw [reach_congr hG j (by omega) u v h, stN_congr hG j (by omega) u v h, stN_congr hG j (by omega) _ _ (swap_congr g1 g2 h)]
theorem shl1 {i : Nat} (hi : i < 32) : ishl (1 : Int32) (nI i) = nI (2 ^ i) := by
  have := ishl_n (a := 1) (k := i) hi
  rw [Nat.one_mul] at this; exact this
theorem C_setting {n k q : Nat} {f o v : Nat → Nat} {c : Hp} (hG : Good n k f o) (hC : NetC n k f o c) (hS : SwR n k f o c) (hP : PK n v q) (hv : PermN n v) : Ev (f_X7_lowestFor_20_1 c (nI q)) (fun r => Sm [20, 21, 22] c r.2 ∧ SwR n k f o r.2 ∧ (reachB n f o k v = true → r.1 = nI (stN n f o k v)) ∧ (¬ reachB n f o k v = true → r.1 = -1)) := by
  have hn := hG.2.1
  have hk24 := hG.2.2.1
  have hF := fac_le n (by omega)
  unfold f_X7_lowestFor_20_1
  refine Ev_bd _ (C_learn hG hC hS) (fun h ⟨a1, a2, a3⟩ => ?_)
  have hC1 := Sm.nC hC a1 (by decide) (by decide) (by decide)
  have hSw := SwR.of a2 a3
  have hrl := rank_lt hn hv
  rw [hC1.1]
  refine Ev_bde (C_rank hn hP hv) (Ev_ck rfl (by omega) (by omega) ?_)
  obtain ⟨l, hl, e22, hl2⟩ := a3 v hv
  rw [clN (by omega), e22, hC1.2.1, show (0 : Int32) = nI 0 from rfl]
  have hk2 := hl2 k (Nat.le_refl k)
  refine Ev_i (fun e => Ev_so ⟨a1, hSw, fun z => ?_, fun _ => rfl⟩) (fun e => ?_)
  · rw [neqI (by omega) (by omega)] at e
    have := (hk2.mp z).1
    omega
  · rw [neqI (by omega) (by omega)] at e
    have hrk : reachB n f o k v = true := hk2.mpr ⟨by omega, hl⟩
    refine Ev_nm (Ev_jn1 (fun y => y = nI (stN n f o k v)) (fun y hy => Ev_so ⟨a1, hSw, fun _ => hy, fun z => absurd hrk z⟩) (fun kk hk => ?_))
    refine Ev_fx3 (fun j b1 b2 b3 => b3 = nI (k - j) + (-1) ∧ ∃ acc w p, b1 = nI acc ∧ b2 = nI p ∧ PK n w p ∧ PermN n w ∧ reachB n f o (k - j) w = true ∧ acc ||| stN n f o (k - j) w = stN n f o k v) k ?_ ?_ (FU_lt (by omega)) ⟨?_, 0, v, q, rfl, rfl, hP, hv, by rw [Nat.sub_zero]; exact hrk, by rw [Nat.sub_zero, Nat.zero_or]⟩
    · rintro self j b1 b2 b3 hj ⟨rfl, acc, w, p, rfl, rfl, hPw, hw, hrw, hacc⟩ hself
      obtain ⟨i, hi⟩ : ∃ i, k - j = i + 1 := ⟨k - j - 1, by omega⟩
      have hi2 : k - (j + 1) = i := by omega
      obtain ⟨g1, g2, g3⟩ := hG.2.2.2 i (by omega)
      rw [hi] at hrw hacc
      rw [hi2] at hself
      have hrl2 := rank_lt hn hw
      obtain ⟨l2, hl3, e23, hl4⟩ := a3 w hw
      have hq1 := hl4 i (by omega)
      have hq2 := (hl4 (i + 1) (by omega)).mp hrw
      unfold L_X7_lowestFor_20_1_39
      rw [hi, nI_m1]
      refine Ev_f (nI_pos (by omega)) (Ev_bde (C_rank hn hPw hw) (Ev_ck rfl (by omega) (by omega) ?_))
      rw [clN (by omega), e23, n1, nI_add]
      have hst : stN n f o (i + 1) w = if reachB n f o i w = true then stN n f o i w else 2 ^ i ||| stN n f o i (swapN (f i) (o i) w) := rfl
      refine Ev_i (fun e => ?_) (fun e => Ev_nm (Ev_ck rfl (by omega) (by omega) (Ev_ck rfl (by omega) (by omega) ?_)))
      · rw [nI_leI (by omega) (by omega)] at e
        have hri := hq1.mpr ⟨hq2.1, e⟩
        rw [if_pos hri] at hst
        exact hself _ _ _ ⟨rfl, acc, w, p, rfl, rfl, hPw, hw, hri, by rw [← hst]; exact hacc⟩
      · rw [nI_leI (by omega) (by omega)] at e
        have hri : ¬ reachB n f o i w = true := fun z => e (hq1.mp z).2
        rw [if_neg hri] at hst
        rw [clN (by omega), (hC1.2.2 i (by omega)).1, (hC1.2.2 i (by omega)).2]
        refine Ev_bd _ (C_exchanged hn hPw g1 g2 g3 (by have := hw.1 _ g1; omega) (by have := hw.1 _ g2; omega)) (fun y ⟨p2, ey, hp2⟩ => ?_)
        subst ey
        rw [← n1, shl1 (by omega), nI_or]
        refine hself _ _ _ ⟨rfl, _, _, p2, rfl, rfl, hp2, swap_perm g1 g2 g3 hw, ?_, ?_⟩
        · rw [reach_s, Bool.or_eq_true] at hrw
          exact hrw.resolve_left hri
        · rw [Nat.or_assoc, ← hst]; exact hacc
    · rintro self b1 b2 b3 ⟨rfl, acc, w, p, rfl, rfl, hPw, hw, hrw, hacc⟩
      unfold L_X7_lowestFor_20_1_39
      rw [Nat.sub_self] at hacc ⊢
      have : stN n f o 0 w = 0 := rfl
      rw [this, Nat.or_zero] at hacc
      exact Ev_t m1_lt (hk _ (by rw [hacc]))
    · rw [Nat.sub_zero]; exact Int32.sub_eq_add_neg _ _
