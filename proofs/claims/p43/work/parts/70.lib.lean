/-! PURE LIBRARY: loops, numbers -/
theorem fx1_run {A1 β : Type} {F : (A1 → Option β) → A1 → Option β} (s1 : Nat → A1) (n : Nat) (r : Option β) (hs : ∀ (self : A1 → Option β) (j : Nat), j < n → F self (s1 j) = self (s1 (j + 1))) (he : ∀ self : A1 → Option β, F self (s1 n) = r) {N : Nat} (hN : n < N) : fx1 F N (s1 0) = r := by
  have key : ∀ (d j N : Nat), j + d = n → d < N → fx1 F N (s1 j) = r := by
    intro d
    induction d with
    | zero =>
      intro j N hj hN
      obtain ⟨M, rfl⟩ : ∃ M, N = M + 1 := ⟨N - 1, by omega⟩
      have e : j = n := by omega
      rw [e]
      exact he _
    | succ d ih =>
      intro j N hj hN
      obtain ⟨M, rfl⟩ : ∃ M, N = M + 1 := ⟨N - 1, by omega⟩
      have e : F (fx1 F M) (s1 j) = fx1 F M (s1 (j + 1)) := hs _ j (by omega)
      show F (fx1 F M) (s1 j) = r
      rw [e]
      exact ih (j + 1) M (by omega) (by omega)
  exact key n 0 N (by omega) (by omega)
theorem fx2_run {A1 A2 β : Type} {F : (A1 → A2 → Option β) → A1 → A2 → Option β} (s1 : Nat → A1) (s2 : Nat → A2) (n : Nat) (r : Option β) (hs : ∀ (self : A1 → A2 → Option β) (j : Nat), j < n → F self (s1 j) (s2 j) = self (s1 (j + 1)) (s2 (j + 1))) (he : ∀ self : A1 → A2 → Option β, F self (s1 n) (s2 n) = r) {N : Nat} (hN : n < N) : fx2 F N (s1 0) (s2 0) = r := by
  have key : ∀ (d j N : Nat), j + d = n → d < N → fx2 F N (s1 j) (s2 j) = r := by
    intro d
    induction d with
    | zero =>
      intro j N hj hN
      obtain ⟨M, rfl⟩ : ∃ M, N = M + 1 := ⟨N - 1, by omega⟩
      have e : j = n := by omega
      rw [e]
      exact he _
    | succ d ih =>
      intro j N hj hN
      obtain ⟨M, rfl⟩ : ∃ M, N = M + 1 := ⟨N - 1, by omega⟩
      have e : F (fx2 F M) (s1 j) (s2 j) = fx2 F M (s1 (j + 1)) (s2 (j + 1)) := hs _ j (by omega)
      show F (fx2 F M) (s1 j) (s2 j) = r
      rw [e]
      exact ih (j + 1) M (by omega) (by omega)
  exact key n 0 N (by omega) (by omega)
theorem fx3_run {A1 A2 A3 β : Type} {F : (A1 → A2 → A3 → Option β) → A1 → A2 → A3 → Option β} (s1 : Nat → A1) (s2 : Nat → A2) (s3 : Nat → A3) (n : Nat) (r : Option β) (hs : ∀ (self : A1 → A2 → A3 → Option β) (j : Nat), j < n → F self (s1 j) (s2 j) (s3 j) = self (s1 (j + 1)) (s2 (j + 1)) (s3 (j + 1))) (he : ∀ self : A1 → A2 → A3 → Option β, F self (s1 n) (s2 n) (s3 n) = r) {N : Nat} (hN : n < N) : fx3 F N (s1 0) (s2 0) (s3 0) = r := by
  have key : ∀ (d j N : Nat), j + d = n → d < N → fx3 F N (s1 j) (s2 j) (s3 j) = r := by
    intro d
    induction d with
    | zero =>
      intro j N hj hN
      obtain ⟨M, rfl⟩ : ∃ M, N = M + 1 := ⟨N - 1, by omega⟩
      have e : j = n := by omega
      rw [e]
      exact he _
    | succ d ih =>
      intro j N hj hN
      obtain ⟨M, rfl⟩ : ∃ M, N = M + 1 := ⟨N - 1, by omega⟩
      have e : F (fx3 F M) (s1 j) (s2 j) (s3 j) = fx3 F M (s1 (j + 1)) (s2 (j + 1)) (s3 (j + 1)) := hs _ j (by omega)
      show F (fx3 F M) (s1 j) (s2 j) (s3 j) = r
      rw [e]
      exact ih (j + 1) M (by omega) (by omega)
  exact key n 0 N (by omega) (by omega)
theorem fx4_run {A1 A2 A3 A4 β : Type} {F : (A1 → A2 → A3 → A4 → Option β) → A1 → A2 → A3 → A4 → Option β} (s1 : Nat → A1) (s2 : Nat → A2) (s3 : Nat → A3) (s4 : Nat → A4) (n : Nat) (r : Option β) (hs : ∀ (self : A1 → A2 → A3 → A4 → Option β) (j : Nat), j < n → F self (s1 j) (s2 j) (s3 j) (s4 j) = self (s1 (j + 1)) (s2 (j + 1)) (s3 (j + 1)) (s4 (j + 1))) (he : ∀ self : A1 → A2 → A3 → A4 → Option β, F self (s1 n) (s2 n) (s3 n) (s4 n) = r) {N : Nat} (hN : n < N) : fx4 F N (s1 0) (s2 0) (s3 0) (s4 0) = r := by
  have key : ∀ (d j N : Nat), j + d = n → d < N → fx4 F N (s1 j) (s2 j) (s3 j) (s4 j) = r := by
    intro d
    induction d with
    | zero =>
      intro j N hj hN
      obtain ⟨M, rfl⟩ : ∃ M, N = M + 1 := ⟨N - 1, by omega⟩
      have e : j = n := by omega
      rw [e]
      exact he _
    | succ d ih =>
      intro j N hj hN
      obtain ⟨M, rfl⟩ : ∃ M, N = M + 1 := ⟨N - 1, by omega⟩
      have e : F (fx4 F M) (s1 j) (s2 j) (s3 j) (s4 j) = fx4 F M (s1 (j + 1)) (s2 (j + 1)) (s3 (j + 1)) (s4 (j + 1)) := hs _ j (by omega)
      show F (fx4 F M) (s1 j) (s2 j) (s3 j) (s4 j) = r
      rw [e]
      exact ih (j + 1) M (by omega) (by omega)
  exact key n 0 N (by omega) (by omega)
theorem fx5_run {A1 A2 A3 A4 A5 β : Type} {F : (A1 → A2 → A3 → A4 → A5 → Option β) → A1 → A2 → A3 → A4 → A5 → Option β} (s1 : Nat → A1) (s2 : Nat → A2) (s3 : Nat → A3) (s4 : Nat → A4) (s5 : Nat → A5) (n : Nat) (r : Option β) (hs : ∀ (self : A1 → A2 → A3 → A4 → A5 → Option β) (j : Nat), j < n → F self (s1 j) (s2 j) (s3 j) (s4 j) (s5 j) = self (s1 (j + 1)) (s2 (j + 1)) (s3 (j + 1)) (s4 (j + 1)) (s5 (j + 1))) (he : ∀ self : A1 → A2 → A3 → A4 → A5 → Option β, F self (s1 n) (s2 n) (s3 n) (s4 n) (s5 n) = r) {N : Nat} (hN : n < N) : fx5 F N (s1 0) (s2 0) (s3 0) (s4 0) (s5 0) = r := by
  have key : ∀ (d j N : Nat), j + d = n → d < N → fx5 F N (s1 j) (s2 j) (s3 j) (s4 j) (s5 j) = r := by
    intro d
    induction d with
    | zero =>
      intro j N hj hN
      obtain ⟨M, rfl⟩ : ∃ M, N = M + 1 := ⟨N - 1, by omega⟩
      have e : j = n := by omega
      rw [e]
      exact he _
    | succ d ih =>
      intro j N hj hN
      obtain ⟨M, rfl⟩ : ∃ M, N = M + 1 := ⟨N - 1, by omega⟩
      have e : F (fx5 F M) (s1 j) (s2 j) (s3 j) (s4 j) (s5 j) = fx5 F M (s1 (j + 1)) (s2 (j + 1)) (s3 (j + 1)) (s4 (j + 1)) (s5 (j + 1)) := hs _ j (by omega)
      show F (fx5 F M) (s1 j) (s2 j) (s3 j) (s4 j) (s5 j) = r
      rw [e]
      exact ih (j + 1) M (by omega) (by omega)
  exact key n 0 N (by omega) (by omega)
theorem FU_lt {n : Nat} (h : n < 100000) : n < FU := h
theorem ck_nI {β : Type} {j n : Nat} {k : Option β} (h : j < n) (hn : n < 2 ^ 31) : ck (nI j) n k = k := by
  unfold ck inb
  rw [nI_toInt (by omega)]
  rw [if_pos (by simp; omega)]
theorem ck_x {β : Type} {x : Int32} {n : Nat} {k : Option β} (h0 : 0 ≤ x.toInt) (h : x.toInt < n) : ck x n k = k := by
  unfold ck inb
  rw [if_pos (by simp [h0, h])]
theorem n0 : (0 : Int32) = nI 0 := rfl
theorem n1 : (1 : Int32) = nI 1 := rfl
theorem n2 : (2 : Int32) = nI 2 := rfl
theorem n3 : (3 : Int32) = nI 3 := rfl
theorem n4 : (4 : Int32) = nI 4 := rfl
theorem n5 : (5 : Int32) = nI 5 := rfl
theorem n6 : (6 : Int32) = nI 6 := rfl
theorem n7 : (7 : Int32) = nI 7 := rfl
theorem n8 : (8 : Int32) = nI 8 := rfl
theorem n24 : (24 : Int32) = nI 24 := rfl
theorem n40 : (40 : Int32) = nI 40 := rfl
theorem nsub {a b : Nat} (h : b ≤ a) : nI a - nI b = nI (a - b) := pk_sub h
theorem neqI {a b : Nat} (ha : a < 2 ^ 31) (hb : b < 2 ^ 31) : nI a = nI b ↔ a = b := nI_eq ha hb
/-- heaps: what is read behind a write -/
theorem beqF {k q : Nat} (h : k ≠ q) : Nat.beq k q = false := (by cases e : Nat.beq k q with | false => rfl | true => exact absurd (Nat.eq_of_beq_eq_true e) h)
theorem wI_1 (h : Hp) (q : Nat) (i x : Int32) : (wI h q i x).1 q = upd (h.1 q) i.toNatClampNeg x := by simp [wI, hI]
theorem wI_n (h : Hp) (q k : Nat) (i x : Int32) (hk : k ≠ q) : (wI h q i x).1 k = h.1 k := by simp [wI, hI, beqF hk]
theorem wI_2 (h : Hp) (q : Nat) (i x : Int32) : (wI h q i x).2 = h.2 := rfl
theorem wF_1 (h : Hp) (q j : Nat) (x : Int32) : (wF h q j x).1 q = upd (h.1 q) j x := by simp [wF, hI]
theorem wF_n (h : Hp) (q j k : Nat) (x : Int32) (hk : k ≠ q) : (wF h q j x).1 k = h.1 k := by simp [wF, hI, beqF hk]
theorem wF_2 (h : Hp) (q j : Nat) (x : Int32) : (wF h q j x).2 = h.2 := rfl
theorem wZ_1 (h : Hp) (q : Nat) (i x : Int32) : (wZ h q i x).1 q = upd (h.1 q) i.toNatClampNeg (vp_nar .boolean x) := by simp [wZ, hI]
theorem wZ_n (h : Hp) (q k : Nat) (i x : Int32) (hk : k ≠ q) : (wZ h q i x).1 k = h.1 k := by simp [wZ, hI, beqF hk]
theorem wZ_2 (h : Hp) (q : Nat) (i x : Int32) : (wZ h q i x).2 = h.2 := rfl
theorem wB_1 (h : Hp) (q : Nat) (i x : Int32) : (wB h q i x).1 q = upd (h.1 q) i.toNatClampNeg (vp_nar .byte x) := by simp [wB, hI]
theorem wB_n (h : Hp) (q k : Nat) (i x : Int32) (hk : k ≠ q) : (wB h q i x).1 k = h.1 k := by simp [wB, hI, beqF hk]
theorem wB_2 (h : Hp) (q : Nat) (i x : Int32) : (wB h q i x).2 = h.2 := rfl
theorem wCh_1 (h : Hp) (q : Nat) (i x : Int32) : (wCh h q i x).1 q = upd (h.1 q) i.toNatClampNeg (vp_nar .char x) := by simp [wCh, hI]
theorem wCh_n (h : Hp) (q k : Nat) (i x : Int32) (hk : k ≠ q) : (wCh h q i x).1 k = h.1 k := by simp [wCh, hI, beqF hk]
theorem wCh_2 (h : Hp) (q : Nat) (i x : Int32) : (wCh h q i x).2 = h.2 := rfl
theorem wLg_1 (h : Hp) (q : Nat) (i : Int32) (x : Int64) : (wL h q i x).2 q = vp_updL (h.2 q) i.toNatClampNeg x := by simp [wL, hL]
theorem wLg_n (h : Hp) (q k : Nat) (i : Int32) (x : Int64) (hk : k ≠ q) : (wL h q i x).2 k = h.2 k := by simp [wL, hL, beqF hk]
theorem wLg_2 (h : Hp) (q : Nat) (i : Int32) (x : Int64) : (wL h q i x).1 = h.1 := rfl
theorem wFL_1 (h : Hp) (q j : Nat) (x : Int64) : (wFL h q j x).2 q = vp_updL (h.2 q) j x := by simp [wFL, hL]
theorem wFL_n (h : Hp) (q j k : Nat) (x : Int64) (hk : k ≠ q) : (wFL h q j x).2 k = h.2 k := by simp [wFL, hL, beqF hk]
theorem wFL_2 (h : Hp) (q j : Nat) (x : Int64) : (wFL h q j x).1 = h.1 := rfl
/-- out of the call of the reference and of the class: a case of the law's loop that only reads -/
theorem bd_s {α β : Type} {x : Option α} {a : α} {k : α → Option β} (h : x = some a) : bd x k = k a := by rw [h]; rfl
theorem bdx_r {ε α β : Type} {x : Option (ε ⊕ α)} {a : α} {k : α → Option (ε ⊕ β)} (h : x = some (.inr a)) : bdx x k = k a := by rw [h]; rfl
theorem bdx_l {ε α β : Type} {x : Option (ε ⊕ α)} {e : ε} {k : α → Option (ε ⊕ β)} (h : x = some (.inl e)) : bdx x k = some (.inl e) := by rw [h]; rfl
theorem nar_b (b : Bool) : vp_nar .boolean (if b = true then 1 else 0) = if b = true then 1 else 0 := by cases b <;> rfl
