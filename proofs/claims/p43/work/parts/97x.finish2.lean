/-! finishes: the reference -/
theorem acc_bit {g : Nat → Nat} {j : Nat} (hj : j < 64) : ∀ N, (∀ q, q < N → g q < 64) → (bt64 (accO g N) j = true ↔ ∃ q, q < N ∧ g q = j)
  | 0, _ => by
    show bt64 0 j = true ↔ _
    rw [bt_0]
    simp
  | N + 1, h => by
    show bt64 (accO g N ||| lshl 1 (nI (g N))) j = true ↔ _
    rw [bt_or, bt_lshl1 (h N (by omega)) hj, Bool.or_eq_true, acc_bit hj N (fun q hq => h q (by omega))]
    constructor
    · rintro (⟨q, hq, e⟩ | e)
      · exact ⟨q, by omega, e⟩
      · exact ⟨N, by omega, (of_decide_eq_true e).symm⟩
    · rintro ⟨q, hq, e⟩
      by_cases e2 : q = N
      · subst e2; exact Or.inr (decide_eq_true e.symm)
      · exact Or.inl ⟨q, by omega, e⟩
def dn3 (n k : Nat) (f o : Nat → Nat) (p1 p2 p3 : Nat) : Prop := ∀ q, q < 2 ^ n → unsB n (bhN n p3 (bhN n p2 (bhN n p1 (netB f o 99 0 k (bR q))))) = false
theorem bh_congr {n p : Nat} {V W : Nat → Bool} (hp : p < n * n) (h : ∀ x, x < n → V x = W x) : ∀ x, x < n → bhN n p V x = bhN n p W x := fun x hx => by
  have hn0 : 0 < n := by omega
  have ha : p / n < n := Nat.div_lt_of_lt_mul hp
  have hb : p % n < n := Nat.mod_lt _ hn0
  unfold bhN
  split
  · exact cmpB_congr ha hb h x hx
  · exact h x hx
theorem out_bR {n k q x : Nat} {f o : Nat → Nat} (hx : x < n) : bR (outQ n k f o q) x = netB f o 99 0 k (bR q) x := by
  show (numB (netB f o 99 0 k (bR q)) n).testBit x = _
  rw [num_bit, decide_eq_true hx, Bool.true_and]
theorem lu1s {z : Int64} {r : Nat} (hr : r < 64) : lshr z (nI r) &&& 1 = if bt64 z r = true then 1 else 0 := by
  rw [← lu1 hr]
  apply bt_ext
  intro j hj
  rw [bt_and, bt_and, bt_1]
  by_cases e : j = 0
  · subst e
    rw [bt_lshr hr (by omega), bt_lushr hr]
  · rw [decide_eq_false e, Bool.and_false, Bool.and_false]
def limN (n c k : Nat) : Nat := if k ≤ c then 1 else n * n
theorem lim_i {n c k : Nat} (hn : n ≤ 6) (hc : c < 10) (hk : k < 10) (K : Int32 → Option (Int32 × Hp)) (P : Int32 × Hp → Prop) (h : Ev (K (nI (limN n c k))) P) : Ev (jn1 (fun k136 => (if nI k ≤ nI c then k136 (1 : Int32) else k136 (nI (n * n)))) K) P := by
  refine Ev_jn1 (fun y => y = nI (limN n c k)) (fun y hy => by rw [hy]; exact h) (fun kk hkk => ?_)
  unfold limN at hkk
  refine Ev_i (fun e => hkk _ ?_) (fun e => hkk _ ?_)
  · rw [nI_leI (by omega) (by omega)] at e; rw [if_pos e]; rfl
  · rw [nI_leI (by omega) (by omega)] at e; rw [if_neg e]
theorem lim_le {n c k : Nat} (hn : 2 ≤ n) : limN n c k ≤ n * n := by
  unfold limN
  split
  · exact Nat.mul_pos (by omega) (by omega)
  · exact Nat.le_refl _
def RFk (n k : Nat) (f o : Nat → Nat) (m : Nat) : Prop := ∃ p1, p1 < limN n 0 m ∧ ∃ p2, p2 < limN n 1 m ∧ ∃ p3, p3 < limN n 2 m ∧ dn3 n k f o p1 p2 p3
theorem RF_EF {n k m : Nat} {f o : Nat → Nat} (hn2 : 2 ≤ n) (hm : m ≤ 3) : RFk n k f o m ↔ EFp n m (fun q => netB f o 99 0 k (bR q)) := by
  have h4 : m = 0 ∨ m = 1 ∨ m = 2 ∨ m = 3 := by omega
  have hz : ∀ p, p < 1 → p = 0 := fun p hp => by omega
  unfold RFk limN dn3
  rcases h4 with rfl | rfl | rfl | rfl
  · constructor
    · rintro ⟨p1, h1, p2, h2, p3, h3, h⟩
      rw [hz p1 h1, hz p2 h2, hz p3 h3] at h
      simp only [bh_0] at h
      exact h
    · intro h
      exact ⟨0, by show 0 < 1; omega, 0, by show 0 < 1; omega, 0, by show 0 < 1; omega, by simp only [bh_0]; exact h⟩
  · constructor
    · rintro ⟨p1, h1, p2, h2, p3, h3, h⟩
      rw [hz p2 h2, hz p3 h3] at h
      simp only [bh_0] at h
      exact ⟨p1, h1, h⟩
    · rintro ⟨p1, h1, h⟩
      exact ⟨p1, h1, 0, by show 0 < 1; omega, 0, by show 0 < 1; omega, by simp only [bh_0]; exact h⟩
  · constructor
    · rintro ⟨p1, h1, p2, h2, p3, h3, h⟩
      rw [hz p3 h3] at h
      simp only [bh_0] at h
      exact ⟨p1, h1, p2, h2, h⟩
    · rintro ⟨p1, h1, p2, h2, h⟩
      exact ⟨p1, h1, p2, h2, 0, by show 0 < 1; omega, by simp only [bh_0]; exact h⟩
  · constructor
    · rintro ⟨p1, h1, p2, h2, p3, h3, h⟩
      exact ⟨p1, h1, p2, h2, p3, h3, h⟩
    · rintro ⟨p1, h1, p2, h2, p3, h3, h⟩
      exact ⟨p1, h1, p2, h2, p3, h3, h⟩
