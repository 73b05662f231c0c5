/-! BIT COUNT -/
theorem and_dig {w a b c d : Nat} (ha : a < 2 ^ w) (hc : c < 2 ^ w) : (a + 2 ^ w * b) &&& (c + 2 ^ w * d) = (a &&& c) + 2 ^ w * (b &&& d) := by
  have h1 : ((a + 2 ^ w * b) &&& (c + 2 ^ w * d)) % 2 ^ w = a &&& c := by
    rw [Nat.and_mod_two_pow, Nat.add_mul_mod_self_left, Nat.add_mul_mod_self_left, Nat.mod_eq_of_lt ha, Nat.mod_eq_of_lt hc]
  have h2 : ((a + 2 ^ w * b) &&& (c + 2 ^ w * d)) / 2 ^ w = b &&& d := by
    rw [Nat.and_div_two_pow, Nat.add_mul_div_left _ _ (Nat.two_pow_pos w), Nat.add_mul_div_left _ _ (Nat.two_pow_pos w), Nat.div_eq_of_lt ha, Nat.div_eq_of_lt hc, Nat.zero_add, Nat.zero_add]
  rw [← h1, ← h2]
  exact (Nat.mod_add_div _ _).symm
def mB (x : Nat) : Nat → Nat
  | 0 => 0
  | m + 1 => x + 256 * mB x m
def g1 (M N : Nat) : Nat := N - ((N / 2) &&& M)
def g2 (M N : Nat) : Nat := (N &&& M) + ((N / 4) &&& M)
def g3 (M N : Nat) : Nat := (N + N / 16) &&& M
theorem and256 {a b c d : Nat} (ha : a < 256) (hc : c < 256) : (a + 256 * b) &&& (c + 256 * d) = (a &&& c) + 256 * (b &&& d) := and_dig (w := 8) ha hc
theorem d1 : ∀ a, a < 256 → ∀ e, e < 2 → ((a / 2 + 128 * e) &&& 85) = ((a / 2) &&& 85) ∧ ((a / 2) &&& 85) ≤ a := by decide +kernel
theorem d2 : ∀ a, a < 256 → ∀ e, e < 4 → ((a / 4 + 64 * e) &&& 51) = ((a / 4) &&& 51) := by decide +kernel
theorem d3 : ∀ a, a < 69 → ∀ e, e < 5 → ((a + a / 16 + 16 * e) &&& 15) = ((a + a / 16) &&& 15) := by decide +kernel
def pc8 (a : Nat) : Nat := (List.range 8).foldl (fun s i => s + if a.testBit i = true then 1 else 0) 0
theorem d4 : ∀ a, a < 256 → g1 85 a < 256 ∧ g2 51 (g1 85 a) < 69 ∧ g2 51 (g1 85 a) % 16 < 5 ∧ g3 15 (g2 51 (g1 85 a)) = pc8 a ∧ pc8 a ≤ 8 := by decide +kernel
theorem g1_dig {a b M : Nat} (ha : a < 256) : g1 (85 + 256 * M) (a + 256 * b) = g1 85 a + 256 * g1 M b := by
  unfold g1
  have e : (a + 256 * b) / 2 = (a / 2 + 128 * (b % 2)) + 256 * (b / 2) := by omega
  have h := d1 a ha (b % 2) (by omega)
  rw [e, and256 (by omega) (by omega), h.1]
  have h2 : (b / 2) &&& M ≤ b := Nat.le_trans Nat.and_le_left (Nat.div_le_self _ _)
  have h3 := h.2
  omega
theorem g2_dig {a b M : Nat} (ha : a < 256) : g2 (51 + 256 * M) (a + 256 * b) = g2 51 a + 256 * g2 M b := by
  unfold g2
  have e : (a + 256 * b) / 4 = (a / 4 + 64 * (b % 4)) + 256 * (b / 4) := by omega
  rw [e, and256 ha (by omega), and256 (a := a / 4 + 64 * (b % 4)) (by omega) (by omega), d2 a ha (b % 4) (by omega)]
  omega
theorem g3_dig {a b M : Nat} (ha : a < 69) (hb : b % 16 < 5) : g3 (15 + 256 * M) (a + 256 * b) = g3 15 a + 256 * g3 M b := by
  unfold g3
  have e : a + 256 * b + (a + 256 * b) / 16 = (a + a / 16 + 16 * (b % 16)) + 256 * (b + b / 16) := by omega
  rw [e, and256 (by omega) (by omega), d3 a ha (b % 16) hb]
def gA (m N : Nat) : Nat := g2 (mB 51 m) (g1 (mB 85 m) N)
theorem gA_dig {a b m : Nat} (ha : a < 256) : gA (m + 1) (a + 256 * b) = gA 1 a + 256 * gA m b := by
  unfold gA
  show g2 (51 + 256 * mB 51 m) (g1 (85 + 256 * mB 85 m) _) = g2 (51 + 256 * 0) (g1 (85 + 256 * 0) a) + _
  rw [g1_dig ha, g2_dig (d4 a ha).1]
theorem gA_low {m : Nat} : ∀ N, N < 256 ^ m → gA m N % 16 < 5 := by
  intro N hN
  cases m with
  | zero =>
    have : N = 0 := by simp at hN; exact hN
    subst this
    decide
  | succ m =>
    have e : N = N % 256 + 256 * (N / 256) := by omega
    rw [e, gA_dig (by omega)]
    have := (d4 (N % 256) (by omega)).2.2.1
    have e2 : gA 1 (N % 256) = g2 51 (g1 85 (N % 256)) := rfl
    omega
def gC (m N : Nat) : Nat := g3 (mB 15 m) (gA m N)
theorem gC_dig {a b m : Nat} (ha : a < 256) (hb : b < 256 ^ m) : gC (m + 1) (a + 256 * b) = pc8 a + 256 * gC m b := by
  unfold gC
  rw [gA_dig ha]
  have h := d4 a ha
  have e2 : gA 1 a = g2 51 (g1 85 a) := rfl
  show g3 (15 + 256 * mB 15 m) _ = _
  rw [g3_dig (by rw [e2]; exact h.2.1) (gA_low b hb), e2, h.2.2.2.1]
theorem ct_add {p : Nat → Bool} {a : Nat} : ∀ t, ctB p (a + t) = ctB p a + ctB (fun j => p (a + j)) t
  | 0 => rfl
  | t + 1 => by
    show ctB p (a + t) + _ = ctB p a + (ctB (fun j => p (a + j)) t + _)
    rw [ct_add t, Nat.add_assoc]
    rfl
theorem ct_8 (N : Nat) : ctB (fun j => N.testBit j) 8 = pc8 (N % 256) := by
  have e : ∀ j, j < 8 → (N % 256).testBit j = N.testBit j := fun j hj => by
    rw [show 256 = 2 ^ 8 from rfl, Nat.testBit_mod_two_pow]
    simp [hj]
  unfold pc8
  simp only [ctB, List.range, List.range.loop, List.foldl, e 0 (by omega), e 1 (by omega), e 2 (by omega), e 3 (by omega), e 4 (by omega), e 5 (by omega), e 6 (by omega), e 7 (by omega)]
theorem ct_split (N m : Nat) : ctB (fun j => N.testBit j) (8 + m) = pc8 (N % 256) + ctB (fun j => (N / 256).testBit j) m := by
  rw [ct_add, ct_8]
  congr 1
  refine ct_congr (fun r _ => ?_)
  rw [show 256 = 2 ^ 8 from rfl, Nat.testBit_div_two_pow, Nat.add_comm]
theorem gC_s (m N : Nat) (hN : N < 256 ^ (m + 1)) : gC (m + 1) N = pc8 (N % 256) + 256 * gC m (N / 256) ∧ pc8 (N % 256) ≤ 8 := by
  have e : N = N % 256 + 256 * (N / 256) := by omega
  refine ⟨?_, (d4 (N % 256) (by omega)).2.2.2.2⟩
  have := gC_dig (a := N % 256) (b := N / 256) (m := m) (by omega) (by rw [Nat.pow_succ] at hN; omega)
  rw [← e] at this
  exact this
def bN (z : Int64) : Nat := z.toBitVec.toNat
theorem bN_and (x y : Int64) : bN (x &&& y) = bN x &&& bN y := by unfold bN; simp
theorem bN_add (x y : Int64) : bN (x + y) = (bN x + bN y) % 2 ^ 64 := by unfold bN; simp
theorem bN_sub (x y : Int64) : bN (x - y) = (2 ^ 64 - bN y + bN x) % 2 ^ 64 := by unfold bN; simp
theorem bN_lt (x : Int64) : bN x < 2 ^ 64 := x.toBitVec.isLt
theorem bN_shr {k : Nat} (hk : k < 64) (x : Int64) : bN (lushr x (nI k)) = bN x / 2 ^ k := by
  have h : ∀ k, k < 64 → ((nI k).toInt64.toUInt64 &&& Int64.toUInt64 63).toNat % 64 = k := by decide +kernel
  unfold lushr bN
  show (x.toUInt64 >>> ((nI k).toInt64.toUInt64 &&& Int64.toUInt64 63)).toNat = _
  rw [UInt64.toNat_shiftRight, h k hk, Nat.shiftRight_eq_div_pow]
  rfl
theorem pop_arith {y p0 p1 p2 p3 p4 p5 p6 p7 : Nat} (h0 : p0 ≤ 8) (h1 : p1 ≤ 8) (h2 : p2 ≤ 8) (h3 : p3 ≤ 8) (h4 : p4 ≤ 8) (h5 : p5 ≤ 8) (h6 : p6 ≤ 8) (h7 : p7 ≤ 8) (e : y = p0 + 256 * (p1 + 256 * (p2 + 256 * (p3 + 256 * (p4 + 256 * (p5 + 256 * (p6 + 256 * p7))))))) : ∃ y4 y5 y6, y4 = y + y / 256 ∧ y5 = y4 + y4 / 65536 ∧ y6 = y5 + y5 / 4294967296 ∧ y4 < 2 ^ 64 ∧ y5 < 2 ^ 64 ∧ y6 < 2 ^ 64 ∧ y6 % 128 = p0 + (p1 + (p2 + (p3 + (p4 + (p5 + (p6 + p7)))))) := by
  have q : y / 256 = p1 + 256 * (p2 + 256 * (p3 + 256 * (p4 + 256 * (p5 + 256 * (p6 + 256 * p7))))) := by omega
  have q4 : y + y / 256 = (p0 + p1) + 256 * ((p1 + p2) + 256 * ((p2 + p3) + 256 * ((p3 + p4) + 256 * ((p4 + p5) + 256 * ((p5 + p6) + 256 * ((p6 + p7) + 256 * p7)))))) := by omega
  generalize y + y / 256 = y4 at q4
  have q4d : y4 / 65536 = (p2 + p3) + 256 * ((p3 + p4) + 256 * ((p4 + p5) + 256 * ((p5 + p6) + 256 * ((p6 + p7) + 256 * p7)))) := by omega
  have q5 : y4 + y4 / 65536 = (p0 + p1 + p2 + p3) + 256 * ((p1 + p2 + p3 + p4) + 256 * ((p2 + p3 + p4 + p5) + 256 * ((p3 + p4 + p5 + p6) + 256 * ((p4 + p5 + p6 + p7) + 256 * ((p5 + p6 + p7) + 256 * ((p6 + p7) + 256 * p7)))))) := by omega
  refine ⟨y4, y4 + y4 / 65536, _, rfl, rfl, rfl, by omega, by omega, ?_, ?_⟩
  · omega
  · generalize y4 + y4 / 65536 = y5 at q5
    have q5d : y5 / 4294967296 = (p4 + p5 + p6 + p7) + 256 * ((p5 + p6 + p7) + 256 * ((p6 + p7) + 256 * p7)) := by omega
    have hX : y5 + y5 / 4294967296 = (p0 + p1 + p2 + p3 + p4 + p5 + p6 + p7) + 256 * ((p1 + p2 + p3 + p4) + (p5 + p6 + p7) + 256 * ((p2 + p3 + p4 + p5) + (p6 + p7) + 256 * ((p3 + p4 + p5 + p6) + p7 + 256 * ((p4 + p5 + p6 + p7) + 256 * ((p5 + p6 + p7) + 256 * ((p6 + p7) + 256 * p7)))))) := by
      rw [q5d]
      clear q5d q4d q4 q e
      omega
    generalize (p1 + p2 + p3 + p4) + (p5 + p6 + p7) + 256 * ((p2 + p3 + p4 + p5) + (p6 + p7) + 256 * ((p3 + p4 + p5 + p6) + p7 + 256 * ((p4 + p5 + p6 + p7) + 256 * ((p5 + p6 + p7) + 256 * ((p6 + p7) + 256 * p7))))) = X at hX
    generalize y5 + y5 / 4294967296 = w at hX ⊢
    clear q5d q4d q4 q e q5
    omega
theorem s_bitCount (z : Int64) : Ev (f_J13_bitCount z) (fun r => r = nI (ctB (bt64 z) 64)) := by
  unfold f_J13_bitCount
  refine Ev_nm (Ev_nm (Ev_nm (Ev_nm (Ev_nm (Ev_nm (Ev_so ?_))))))
  generalize e1 : z - ((lushr z (1 : Int32)) &&& (6148914691236517205 : Int64)) = y1
  generalize e2 : (y1 &&& (3689348814741910323 : Int64)) + ((lushr y1 (2 : Int32)) &&& (3689348814741910323 : Int64)) = y2
  generalize e3 : (y2 + (lushr y2 (4 : Int32))) &&& (1085102592571150095 : Int64) = y3
  generalize e4 : y3 + (lushr y3 (8 : Int32)) = y4
  generalize e5 : y4 + (lushr y4 (16 : Int32)) = y5
  generalize e6 : y5 + (lushr y5 (32 : Int32)) = y6
  have hz := bN_lt z
  have b1 : bN y1 = g1 (mB 85 8) (bN z) := by
    rw [← e1, bN_sub, bN_and, show (1 : Int32) = nI 1 from rfl, bN_shr (by omega)]
    unfold g1
    have h1 : bN (6148914691236517205 : Int64) = mB 85 8 := by decide +kernel
    rw [h1]
    have h2 : (bN z / 2 ^ 1) &&& mB 85 8 ≤ bN z := Nat.le_trans Nat.and_le_left (Nat.div_le_self _ _)
    have h3 : bN z / 2 ^ 1 = bN z / 2 := rfl
    rw [h3] at h2 ⊢
    omega
  have b2 : bN y2 = g2 (mB 51 8) (bN y1) := by
    rw [← e2, bN_add, bN_and, bN_and, show (2 : Int32) = nI 2 from rfl, bN_shr (by omega)]
    unfold g2
    have h1 : bN (3689348814741910323 : Int64) = mB 51 8 := by decide +kernel
    have h4 : mB 51 8 = 3689348814741910323 := by decide +kernel
    rw [h1]
    have h2 : bN y1 &&& mB 51 8 ≤ mB 51 8 := Nat.and_le_right
    have h3 : (bN y1 / 4) &&& mB 51 8 ≤ mB 51 8 := Nat.and_le_right
    have h5 : bN y1 / 2 ^ 2 = bN y1 / 4 := rfl
    rw [h5]
    omega
  have b2l : bN y2 ≤ 2 * 3689348814741910323 := by
    rw [b2]
    unfold g2
    have h4 : mB 51 8 = 3689348814741910323 := by decide +kernel
    have h2 : bN y1 &&& mB 51 8 ≤ mB 51 8 := Nat.and_le_right
    have h3 : (bN y1 / 4) &&& mB 51 8 ≤ mB 51 8 := Nat.and_le_right
    omega
  have b3 : bN y3 = g3 (mB 15 8) (bN y2) := by
    rw [← e3, bN_and, bN_add, show (4 : Int32) = nI 4 from rfl, bN_shr (by omega)]
    unfold g3
    have h1 : bN (1085102592571150095 : Int64) = mB 15 8 := by decide +kernel
    rw [h1]
    congr 1
    have h5 : bN y2 / 2 ^ 4 = bN y2 / 16 := rfl
    rw [h5]
    omega
  have b3c : bN y3 = gC 8 (bN z) := by rw [b3, b2, b1]; rfl
  obtain ⟨c0, l0⟩ := gC_s 7 (bN z) (by omega)
  obtain ⟨c1, l1⟩ := gC_s 6 (bN z / 256) (by omega)
  obtain ⟨c2, l2⟩ := gC_s 5 (bN z / 256 / 256) (by omega)
  obtain ⟨c3, l3⟩ := gC_s 4 (bN z / 256 / 256 / 256) (by omega)
  obtain ⟨c4, l4⟩ := gC_s 3 (bN z / 256 / 256 / 256 / 256) (by omega)
  obtain ⟨c5, l5⟩ := gC_s 2 (bN z / 256 / 256 / 256 / 256 / 256) (by omega)
  obtain ⟨c6, l6⟩ := gC_s 1 (bN z / 256 / 256 / 256 / 256 / 256 / 256) (by omega)
  obtain ⟨c7, l7⟩ := gC_s 0 (bN z / 256 / 256 / 256 / 256 / 256 / 256 / 256) (by omega)
  have c8 : gC 0 (bN z / 256 / 256 / 256 / 256 / 256 / 256 / 256 / 256) = 0 := by
    unfold gC
    exact Nat.and_zero _
  rw [c8, Nat.mul_zero, Nat.add_zero] at c7
  rw [c0, c1, c2, c3, c4, c5, c6, c7] at b3c
  have hct : ctB (bt64 z) 64 = ctB (fun j => (bN z).testBit j) (8 + (8 + (8 + (8 + (8 + (8 + (8 + (8 + 0)))))))) := rfl
  rw [ct_split, ct_split, ct_split, ct_split, ct_split, ct_split, ct_split, ct_split] at hct
  have h0 : ∀ p, ctB p 0 = 0 := fun _ => rfl
  rw [h0, Nat.add_zero] at hct
  obtain ⟨w4, w5, w6, u4, u5, u6, v4, v5, v6, hfin⟩ := pop_arith l0 l1 l2 l3 l4 l5 l6 l7 b3c
  rw [← hct] at hfin
  have b4 : bN y4 = w4 := by
    rw [← e4, bN_add, show (8 : Int32) = nI 8 from rfl, bN_shr (by omega), show 2 ^ 8 = 256 from rfl, ← u4]
    exact Nat.mod_eq_of_lt v4
  have b5 : bN y5 = w5 := by
    rw [← e5, bN_add, show (16 : Int32) = nI 16 from rfl, bN_shr (by omega), b4, show 2 ^ 16 = 65536 from rfl, ← u5]
    exact Nat.mod_eq_of_lt v5
  have b6 : bN y6 = w6 := by
    rw [← e6, bN_add, show (32 : Int32) = nI 32 from rfl, bN_shr (by omega), b5, show 2 ^ 32 = 4294967296 from rfl, ← u6]
    exact Nat.mod_eq_of_lt v6
  have hl : l2i y6 = nI w6 := by
    unfold l2i
    apply Int32.toBitVec_inj.mp
    apply BitVec.eq_of_toNat_eq
    rw [← b6]
    rw [Int64.toBitVec_toInt32, BitVec.signExtend_eq_setWidth_of_le _ (by omega), BitVec.toNat_setWidth]
    show _ = (BitVec.ofNat 32 (bN y6)).toNat
    rw [BitVec.toNat_ofNat]
    rfl
  rw [hl, show (127 : Int32) = nI 127 from rfl, nI_and, show 127 = 2 ^ 7 - 1 from rfl, Nat.and_two_pow_sub_one_eq_mod, ← hfin]
