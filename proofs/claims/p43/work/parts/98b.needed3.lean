/-! CASE needed: the reference's states -/
def StM (n k : Nat) (f o : Nat → Nat) (m0 : Hp) (S : List Nat) (m : Hp) : Prop := NetM n k f o m ∧ Sm [0, 17, 18] m0 m ∧ (∀ j, j ≠ 0 → j ≠ 23 → m.1 0 j = m0.1 0 j) ∧ m.1 0 23 = nI S.length ∧ (∀ j, j < S.length → m.1 17 j = nI (S.getD j 0)) ∧ S.Nodup ∧ ∀ s, s ∈ S → s ≠ 0 ∧ ∃ z, s = mzN n z
theorem nd_sub : ∀ (S P : List Nat), S.Nodup → (∀ s, s ∈ S → s ∈ P) → S.length ≤ P.length
  | [], _, _, _ => Nat.zero_le _
  | x :: S, P, h, hs => by
    have h1 := nd_sub S (P.erase x) (List.nodup_cons.mp h).2 (fun s h2 => (List.mem_erase_of_ne (fun e => (List.nodup_cons.mp h).1 (by rw [← e]; exact h2))).mpr (hs s (List.mem_cons_of_mem _ h2)))
    have h2 := List.length_erase_of_mem (hs x List.mem_cons_self)
    have h3 := List.length_pos_of_mem (hs x List.mem_cons_self)
    rw [List.length_cons]
    omega
theorem StM.len {n k : Nat} {f o : Nat → Nat} {m0 m : Hp} {S : List Nat} (hn2 : 2 ≤ n) (hn : n ≤ 4) (h : StM n k f o m0 S m) : S.length ≤ 300 :=
  Nat.le_trans (nd_sub _ _ h.2.2.2.2.2.1 (fun s hs => by
    obtain ⟨_, z, e⟩ := h.2.2.2.2.2.2 s hs
    rw [e]; exact mz_ps hn2 hn)) (ps_ok hn2 hn).2.2
theorem mz_24 {n : Nat} {z : Int64} (hn : n ≤ 4) : mzN n z < 2 ^ 24 := Nat.lt_of_lt_of_le mz_lt (Nat.pow_le_pow_right (by omega) (fac_24 hn))
theorem StM.s24 {n k s : Nat} {f o : Nat → Nat} {m0 m : Hp} {S : List Nat} (hn : n ≤ 4) (h : StM n k f o m0 S m) (hs : s ∈ S) : s < 2 ^ 24 := by
  obtain ⟨_, z, e⟩ := h.2.2.2.2.2.2 s hs
  rw [e]; exact mz_24 hn
theorem get_app2 {S T : List Nat} {i : Nat} (h : i < S.length) : (S ++ T).getD i 0 = S.getD i 0 := by
  rw [List.getD_eq_getElem?_getD, List.getElem?_append_left h, ← List.getD_eq_getElem?_getD]
def clA (n : Nat) (S : List Nat) (s p : Nat) : Prop := p / n ≠ p % n → liN n s (p / n) (p % n) = 0 ∨ liN n s (p / n) (p % n) ∈ S
