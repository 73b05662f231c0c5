theorem ct_t {p : Nat → Bool} {n : Nat} (h : p n = true) : nI (ctB p (n + 1)) = nI (ctB p n) + 1 := by
  show nI (ctB p n + _) = _
  rw [if_pos h]; exact (nI_add _ 1).symm
theorem ct_f {p : Nat → Bool} {n : Nat} (h : ¬ p n = true) : nI (ctB p (n + 1)) = nI (ctB p n) := by
  show nI (ctB p n + _) = _
  rw [if_neg h]; rfl
def tellP (n k : Nat) (f o : Nat → Nat) (sp md : Nat) : Nat → Bool := fun r => (List.range n).any (fun x => netB f o sp md k (bR r) x ^^ netB f o 99 0 k (bR r) x)
theorem C_tells_t {n k sp md : Nat} {f o : Nat → Nat} {c : Hp} (hG : Good n k f o) (hC : NetC n k f o c) (hsp : sp < k) (hmd : md ≤ 2) : Ev (f_X10_tells c (nI sp) (nI md)) (fun r => ∃ z c1, r = .inr (z, c1) ∧ Sm [14, 15] c c1 ∧ ColN n z (tellP n k f o sp md)) := by
  unfold f_X10_tells
  rw [bdx_r (C_cmp_t hC.2.1 hG.2.2.1 hsp), bdx_r (C_flt_t (by omega))]
  exact Ev_bd _ (s_telling hG hC hsp hmd) (fun r ⟨h1, h2, h3⟩ => Ev_so ⟨_, _, rfl, h1, h3⟩)
/-- faults that given rows do not show -/
def hidB (n k : Nat) (f o : Nat → Nat) (z : Int64) (j : Nat) : Bool := (List.range (2 ^ n)).all (fun r => !(tellP n k f o (j / 3) (j % 3) r && bt64 z r))
theorem hid_iff {n k j : Nat} {f o : Nat → Nat} {z t : Int64} (hn : n ≤ 6) (ht : ColN n t (tellP n k f o (j / 3) (j % 3))) : lg_cmp (t &&& z) 0 = 0 ↔ hidB n k f o z j = true := by
  have hle : 2 ^ n ≤ 2 ^ 6 := Nat.pow_le_pow_right (by omega) hn
  rw [lg_eq]
  unfold hidB
  rw [List.all_eq_true]
  constructor
  · intro h r hr
    have hr := List.mem_range.mp hr
    have h2 : bt64 (t &&& z) r = false := by rw [h, bt_0]
    rw [bt_and, ht r (by omega), decide_eq_true hr, Bool.true_and] at h2
    rw [h2]; rfl
  · intro h
    apply bt_ext
    intro r hr
    rw [bt_0, bt_and, ht r hr]
    by_cases q : r < 2 ^ n
    · have := h r (List.mem_range.mpr q)
      rw [decide_eq_true q, Bool.true_and]
      revert this
      cases tellP n k f o (j / 3) (j % 3) r <;> cases bt64 z r <;> decide
    · rw [decide_eq_false q]; rfl
theorem C_hidden {n k : Nat} {f o : Nat → Nat} {c : Hp} {z : Int64} (hG : Good n k f o) (hC : NetC n k f o c) : Ev (f_X10_hidden c z) (fun r => Sm [14, 15] c r.2 ∧ r.1 = nI (ctB (hidB n k f o z) (3 * k))) := by
  have hk24 := hG.2.2.1
  unfold f_X10_hidden f_X3_countHidden_18_13_1
  refine Ev_bd (fun r => Sm [14, 15] c r.2 ∧ r.1 = nI (ctB (hidB n k f o z) (3 * k))) ?_ (fun r hr => Ev_so hr)
  refine Ev_jn2 (fun a h => Sm [14, 15] c h ∧ a = nI (ctB (hidB n k f o z) (3 * k))) (fun a h hh => Ev_so hh) (fun k55 h55 => ?_)
  refine Ev_fx3 (fun j a1 a2 a3 => a2 = nI j ∧ Sm [14, 15] c a3 ∧ a3.1 = c.1 ∧ a1 = nI (ctB (hidB n k f o z) (3 * j))) k ?_ ?_ (FU_lt (by omega)) ⟨rfl, Sm.rf, rfl, rfl⟩
  · rintro self j a1 a2 a3 hj ⟨rfl, hS, he, h1⟩ hself
    unfold L_X3_countHidden_18_13_1_6
    rw [he, hC.2.1]
    refine Ev_f (nle_n hj (by omega)) ?_
    refine Ev_jn2 (fun a h => Sm [14, 15] c h ∧ h.1 = c.1 ∧ a = nI (ctB (hidB n k f o z) (3 * (j + 1)))) (fun a h ⟨q1, q2, q3⟩ => hself _ _ _ ⟨nI_add j 1, q1, q2, q3⟩) (fun k49 h49 => ?_)
    refine Ev_fx3 (fun t b1 b2 b3 => b2 = nI t ∧ Sm [14, 15] c b3 ∧ b3.1 = c.1 ∧ b1 = nI (ctB (hidB n k f o z) (3 * j + t))) 3 ?_ ?_ (FU_lt (by omega)) ⟨rfl, hS, he, h1⟩
    · rintro self t b1 b2 b3 ht ⟨rfl, hS, he, h1⟩ hself
      unfold L_X3_countHidden_18_13_1_18
      refine Ev_f (nI_nlt (a := 2) (by omega) (by omega)) (Ev_bd _ (s_telling (md := t) hG (hC.of he) hj (by omega)) (fun r ⟨d1, d2, d3⟩ => ?_))
      have hq : ColN n r.1 (tellP n k f o ((3 * j + t) / 3) ((3 * j + t) % 3)) := by
        rw [show (3 * j + t) / 3 = j by omega, show (3 * j + t) % 3 = t by omega]
        exact d3
      have hh := hid_iff (z := z) hG.2.1 hq
      refine Ev_i (fun e => hself _ _ _ ⟨nI_add t 1, hS.tr d1, d2.trans he, ?_⟩) (fun e => hself _ _ _ ⟨nI_add t 1, hS.tr d1, d2.trans he, ?_⟩)
      · rw [h1]; exact (ct_t (hh.mp e)).symm
      · rw [h1]; exact (ct_f (fun q => e (hh.mpr q))).symm
    · rintro self b1 b2 b3 ⟨rfl, hS, he, h1⟩
      unfold L_X3_countHidden_18_13_1_18
      exact Ev_t (nI_lt (a := 2) (by omega) (by omega)) (h49 _ _ ⟨hS, he, h1⟩)
  · rintro self a1 a2 a3 ⟨rfl, hS, he, h1⟩
    unfold L_X3_countHidden_18_13_1_6
    rw [he, hC.2.1]
    exact Ev_t (Int32.le_refl _) (h55 _ _ ⟨hS, h1⟩)
theorem ndiv {a b : Nat} (ha : a < 2 ^ 31) (h0 : 0 < b) (hb : b < 2 ^ 31) : nI a / nI b = nI (a / b) := pk_div ha h0 hb
theorem nmul (a b : Nat) : nI a * nI b = nI (a * b) := (Int32.ofNat_mul a b).symm
