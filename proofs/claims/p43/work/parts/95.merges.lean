/-! CASE merges -/
def unsG (a d : Nat) (V : Nat → Bool) : Bool := (List.range d).any (fun x => V (a + x) && !V (a + x + 1))
theorem unsG_s {a d : Nat} {V : Nat → Bool} : unsG a (d + 1) V = (unsG a d V || (V (a + d) && !V (a + d + 1))) := by
  unfold unsG
  rw [List.range_succ, List.any_append]; simp
theorem s_unsortedIn_15 {n w : Nat} {h : Hp} {V : Nat → Nat → Bool} (hn : n ≤ 6) (hw1 : 1 ≤ w) (hw : w ≤ n) (hV : ColsN 15 n h V) : Ev (f_X4_unsortedIn_15 h (nI w)) (fun z => ColN n z (fun r => unsG 0 (w - 1) (V r))) := by
  unfold f_X4_unsortedIn_15
  refine Ev_jn1 (fun z => ColN n z (fun r => unsG 0 (w - 1) (V r))) (fun z hz => Ev_so hz) (fun kk hk => ?_)
  refine Ev_fx2 (fun j a1 a2 => a2 = nI j ∧ ColN n a1 (fun r => unsG 0 j (V r))) (w - 1) ?_ ?_ (FU_lt (by omega)) ⟨rfl, fun r hr => by rw [bt_0]; simp [unsG]⟩
  · rintro self j a1 a2 hj ⟨rfl, hZ⟩ hself
    unfold L_X4_unsortedIn_15_5
    rw [n1, nI_add]
    refine Ev_f (nle_n (by omega) (by omega)) (Ev_ck rfl (by omega) (by omega) (Ev_ck rfl (by omega) (by omega) (Ev_nm (hself _ _ ⟨rfl, fun r hr => ?_⟩))))
    rw [clN (by omega), clN (by omega), bt_or, bt_and, bt_not _ hr, hZ r hr, hV j (by omega) r hr, hV (j + 1) (by omega) r hr]
    dsimp only
    rw [unsG_s, Nat.zero_add]
    cases decide (r < 2 ^ n) <;> simp
  · rintro self a1 a2 ⟨rfl, hZ⟩
    unfold L_X4_unsortedIn_15_5
    rw [n1, nI_add]
    exact Ev_t (le_n (by omega) (by omega)) (hk _ hZ)
def merP (n k : Nat) (f o : Nat → Nat) (w j : Nat) : Prop := ∀ r, r < j → unsG 0 (w - 1) (bR r) = false → unsG w (n - 1 - w) (bR r) = false → unsB n (netB f o 99 0 k (bR r)) = false
theorem C_mergesAt {n k w : Nat} {f o : Nat → Nat} {c : Hp} (hG : Good n k f o) (hC : NetC n k f o c) (hw1 : 1 ≤ w) (hw : w < n) : Ev (f_X4_mergesAt_13_1 c (nI w)) (fun r => r.1 = pI (merP n k f o w (2 ^ n)) ∧ Sm [14, 15] c r.2) := by
  have hn := hG.2.1
  have hle : 2 ^ n ≤ 2 ^ 6 := Nat.pow_le_pow_right (by omega) hn
  unfold f_X4_mergesAt_13_1
  rw [hC.1]
  refine Ev_bd _ (s_bringIn_15 hn) (fun h0 ⟨hS0, he0, hV0⟩ => Ev_bd _ (s_unsortedIn_15 hn hw1 (Nat.le_of_lt hw) hV0) (fun z1 hz1 => ?_))
  refine Ev_jn1 (fun z => ColN n z (fun r => unsG w (n - 1 - w) (bR r))) (fun z2 hz2 => ?_) (fun kk hk => ?_)
  · refine Ev_bd _ (s_unsortedFrom hG (hC.of he0)) (fun r ⟨p1, p2, p3⟩ => ?_)
    have hcol : ColN n ((r.1 &&& (z1 ^^^ (-1 : Int64))) &&& (z2 ^^^ (-1 : Int64))) (fun r => unsB n (netB f o 99 0 k (bR r)) && (!unsG 0 (w - 1) (bR r) && !unsG w (n - 1 - w) (bR r))) := by
      intro q hq
      rw [bt_and, bt_and, bt_not _ hq, bt_not _ hq, p3 q hq, hz1 q hq, hz2 q hq]
      cases decide (q < 2 ^ n) <;> simp [Bool.and_assoc]
    have hiff : lg_cmp ((r.1 &&& (z1 ^^^ (-1 : Int64))) &&& (z2 ^^^ (-1 : Int64))) 0 = 0 ↔ merP n k f o w (2 ^ n) := by
      rw [lg_eq, hcol.z hn]
      constructor
      · intro h q hq h1 h2
        have := h q hq
        simp only [h1, h2] at this
        simpa using this
      · intro h q hq
        cases e1 : unsG 0 (w - 1) (bR q) with
        | true => simp
        | false =>
          cases e2 : unsG w (n - 1 - w) (bR q) with
          | true => simp
          | false => rw [h q hq e1 e2]; rfl
    exact Ev_i (fun e => Ev_ckz (Or.inr rfl) (Ev_so ⟨(pI_t (hiff.mp e)).symm, (hS0.mono (by decide)).tr (p1.mono (by decide))⟩)) (fun e => Ev_ckz (Or.inl rfl) (Ev_so ⟨(pI_f (fun z => e (hiff.mpr z))).symm, (hS0.mono (by decide)).tr (p1.mono (by decide))⟩))
  · refine Ev_fx2 (fun j a1 a2 => a2 = nI (w + j) ∧ ColN n a1 (fun r => unsG w j (bR r))) (n - 1 - w) ?_ ?_ (FU_lt (by omega)) ⟨rfl, fun r hr => by rw [bt_0]; simp [unsG]⟩
    · rintro self j a1 a2 hj ⟨rfl, hZ⟩ hself
      unfold L_X4_mergesAt_13_1_26
      rw [n1, nI_add, he0, hC.1]
      refine Ev_f (nle_n (by omega) (by omega)) (Ev_ck rfl (by omega) (by omega) (Ev_ck rfl (by omega) (by omega) (Ev_nm (hself _ _ ⟨rfl, fun r hr => ?_⟩))))
      rw [clN (by omega), clN (by omega), bt_or, bt_and, bt_not _ hr, hZ r hr, hV0 (w + j) (by omega) r hr, hV0 (w + j + 1) (by omega) r hr]
      dsimp only
      rw [unsG_s]
      cases decide (r < 2 ^ n) <;> simp
    · rintro self a1 a2 ⟨rfl, hZ⟩
      unfold L_X4_mergesAt_13_1_26
      rw [n1, nI_add, he0, hC.1]
      exact Ev_t (le_n (by omega) (by omega)) (hk _ hZ)
theorem pI_i2l {p : Prop} : (if pI p = 0 then (0 : Int64) else 1) = if pI p = 0 then 0 else 1 := rfl
theorem lt1_iff {x : Int32} {n : Nat} (hn : n ≤ 6) : (x < 1 ∨ nI n ≤ x) ∨ ∃ w, 1 ≤ w ∧ w < n ∧ x = nI w := by
  rcases wire_or (n := n) (by omega) x with h | ⟨w, hw, rfl⟩
  · rcases h with h | h
    · exact Or.inl (Or.inl (Int32.lt_of_lt_of_le h (by decide)))
    · exact Or.inl (Or.inr h)
  · by_cases e : w = 0
    · subst e; exact Or.inl (Or.inl (by decide))
    · exact Or.inr ⟨w, by omega, hw, rfl⟩
