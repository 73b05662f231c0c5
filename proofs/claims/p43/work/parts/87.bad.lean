/-! CASE bad -/
theorem ColN.ct {n : Nat} {z : Int64} {p : Nat → Bool} (hn : n ≤ 6) (h : ColN n z p) : ctB (bt64 z) 64 = ctB p (2 ^ n) := by
  have hle : 2 ^ n ≤ 2 ^ 6 := Nat.pow_le_pow_right (by omega) hn
  have e : 64 = 2 ^ n + (64 - 2 ^ n) := by omega
  have h2 : ctB (fun j => bt64 z (2 ^ n + j)) (64 - 2 ^ n) = 0 := ct_0.mpr (fun r hr => by rw [h _ (by omega), decide_eq_false (by omega), Bool.false_and])
  have h3 : ctB (bt64 z) (2 ^ n) = ctB p (2 ^ n) := ct_congr (fun r hr => by rw [h r (by omega), decide_eq_true hr, Bool.true_and])
  have h4 := ct_add (p := bt64 z) (a := 2 ^ n) (64 - 2 ^ n)
  rw [h2, h3, ← e] at h4
  exact h4
theorem C_bad_t {n k sp md : Nat} {f o : Nat → Nat} {c : Hp} (hG : Good n k f o) (hC : NetC n k f o c) (hsp : sp < k) (hmd : md ≤ 2) : Ev (f_X10_bad c (nI sp) (nI md)) (fun r => ∃ c1, r = .inr (nI (ctB (fun r => unsB n (netB f o sp md k (bR r))) (2 ^ n)), c1) ∧ Sm [14] c c1) := by
  unfold f_X10_bad
  rw [bdx_r (C_cmp_t hC.2.1 hG.2.2.1 hsp), bdx_r (C_flt_t (by omega))]
  exact Ev_bd _ (s_unsortedWith hG hC hsp hmd) (fun r ⟨h1, h2, h3⟩ => Ev_bd _ (s_bitCount r.1) (fun y hy => Ev_so ⟨_, by rw [hy, h3.ct hG.2.1], h1⟩))
