theorem neg_rem {x : Int32} (hx : x < 0) : irm x (10 : Int32) < 0 ∨ (irm x (10 : Int32) = 0 ∧ x / 10 < 0) := by
  have hX : x.toInt < 0 := Int32.lt_iff_toInt_lt.mp hx
  have hlo := Int32.le_toInt x
  have h10 : (10 : Int32).toInt = 10 := by decide
  have hd : (x / 10).toInt = -((-x.toInt) / 10) := by
    rw [Int32.toInt_div, h10]
    have e : x.toInt.tdiv 10 = -((-x.toInt) / 10) := by
      have h1 : x.toInt = -(-x.toInt) := by omega
      rw [h1, Int.neg_tdiv, Int.tdiv_eq_ediv_of_nonneg (by omega)]
      omega
    rw [e]
    apply Int.bmod_eq_of_le
    · omega
    · omega
  have hm : (x / 10 * 10).toInt = -((-x.toInt) / 10) * 10 := by
    rw [Int32.toInt_mul, hd, h10]
    apply Int.bmod_eq_of_le
    · omega
    · omega
  have hr : (irm x (10 : Int32)).toInt = x.toInt + ((-x.toInt) / 10) * 10 := by
    unfold irm
    rw [Int32.toInt_sub, hm]
    rw [Int.bmod_eq_of_le]
    · omega
    · omega
    · omega
  by_cases h : irm x (10 : Int32) < 0
  · exact Or.inl h
  · right
    have h0 : ¬ (irm x (10 : Int32)).toInt < 0 := fun z => h (Int32.lt_iff_toInt_lt.mpr z)
    rw [hr] at h0
    constructor
    · apply Int32.toInt_inj.mp
      rw [hr]
      have : (0 : Int32).toInt = 0 := by decide
      omega
    · rw [Int32.lt_iff_toInt_lt, hd]
      have : (0 : Int32).toInt = 0 := by decide
      omega
theorem C_ofCode_neg {n : Nat} {x : Int32} (hn : n ≤ 6) (hn2 : 2 ≤ n) (hx : x < 0) : f_X5_ofCode x (nI n) = some (-1) := by
  refine Ev_eq ?_
  unfold f_X5_ofCode
  refine Ev_jn2 (fun _ _ => False) (fun a b h => h.elim) (fun k74 h74 => Ev_jn0 True (fun _ => Ev_so rfl) (fun k47 h47 => ?_))
  have hN2 := FU_lt (n := 2) (by omega)
  generalize FU = N at hN2
  obtain ⟨M, rfl⟩ : ∃ M, N = M + 1 + 1 := ⟨N - 2, by omega⟩
  show Ev (L_X5_ofCode_10 _ _ _ (fx4 _ (M + 1)) _ _ _ _) _
  unfold L_X5_ofCode_10
  refine Ev_f (by rw [show (0 : Int32) = nI 0 from rfl]; exact nle_n (by omega) (by omega)) (Ev_nm (Ev_nm (Ev_i (fun _ => h47 trivial) (fun e => ?_))))
  obtain ⟨e1, e2⟩ := (neg_rem hx).resolve_left e
  rw [e1]
  refine Ev_f (by rw [show (0 : Int32) = nI 0 from rfl]; exact nle_n (by omega) (by omega)) (Ev_t (by decide) (Ev_nm (Ev_nm ?_)))
  show Ev (L_X5_ofCode_10 _ _ _ (fx4 _ M) _ _ _ _) _
  unfold L_X5_ofCode_10
  refine Ev_f (by rw [show (0 : Int32) + 1 = nI 1 from rfl]; exact nle_n (by omega) (by omega)) (Ev_nm (Ev_nm (Ev_i (fun _ => h47 trivial) (fun e3 => ?_))))
  obtain ⟨e4, e5⟩ := (neg_rem e2).resolve_left e3
  rw [e4]
  exact Ev_f (by rw [show (0 : Int32) = nI 0 from rfl]; exact nle_n (by omega) (by omega)) (Ev_f (by decide) (h47 trivial))
theorem C_rowOf_t {n q : Nat} {c : Hp} {x : Int32} (hc : c.1 1 0 = nI n) (hq : q < 2 ^ 24) (h : f_X5_ofCode x (nI n) = some (nI q)) : f_X10_rowOf c x = some (.inr (nI q, c)) := by
  refine Ev_eq ?_
  unfold f_X10_rowOf
  rw [hc]
  exact Ev_bde h (Ev_f (fun z => nI_pos (n := q) (by omega) (by rw [z]; decide)) (Ev_so rfl))
theorem C_rowOf_f {n : Nat} {c : Hp} {x : Int32} (hc : c.1 1 0 = nI n) (h : f_X5_ofCode x (nI n) = some (-1)) : f_X10_rowOf c x = some (.inl ("java/lang/IllegalArgumentException", c)) := by
  refine Ev_eq ?_
  unfold f_X10_rowOf
  rw [hc]
  exact Ev_bde h (Ev_t rfl (Ev_so rfl))
theorem num_small {n : Nat} {v : Nat → Nat} (hn : n ≤ 6) (hv : PermN n v) : num n v < 2 ^ 30 := by
  have := num_lt' hn hv
  have := fac_le n (by omega)
  omega
theorem ne_m1 {q : Nat} (h : q < 2 ^ 31) : ¬ nI q = -1 := fun z => nI_pos h (by rw [z]; decide)
