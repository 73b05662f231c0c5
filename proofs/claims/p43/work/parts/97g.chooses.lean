/-! CASE chooses -/
theorem ct_sub {p q : Nat → Bool} : ∀ {n : Nat}, (∀ r, r < n → p r = true → q r = true) → ctB p n ≤ ctB q n
  | 0, _ => Nat.le_refl _
  | n + 1, h => by
    have ih := ct_sub (n := n) (fun r hr => h r (by omega))
    cases e : p n with
    | true => rw [ct_s1 e, ct_s1 (h n (by omega) e)]; omega
    | false =>
      rw [ct_s0 (p := p) (by rw [e]; decide)]
      exact Nat.le_trans ih (ct_mono (by omega))
theorem uns_mono {n : Nat} {V : Nat → Bool} (h : unsB n V = false) {w : Nat} (hw : V w = true) : ∀ d, w + d < n → V (w + d) = true
  | 0, _ => hw
  | d + 1, hd => uns_f.mp h (w + d) hd (uns_mono h hw d (by omega))
theorem th_sorted {n t : Nat} {v : Nat → Nat} (hn : n ≤ 6) (hv : PermN n v) (ht : t ≤ n) : unsB n (thB t v) = false ↔ ∀ w, w < t → v w < t := by
  have hc := th_ct (t := t) hn hv
  constructor
  · intro h w hw
    apply Classical.byContradiction
    intro h2
    have hV : thB t v w = true := decide_eq_true (by omega)
    have h3 := ct_sub (p := fun x => decide (w ≤ x)) (q := thB t v) (n := n) (fun r hr e => by
      have := of_decide_eq_true e
      have h4 := uns_mono h hV (r - w) (by omega)
      rwa [show w + (r - w) = r by omega] at h4)
    rw [ct_ge, hc] at h3
    omega
  · intro h
    rw [uns_f]
    intro x hx h1
    cases e : thB t v (x + 1) with
    | true => rfl
    | false =>
      exfalso
      have hxt : t ≤ x := by
        apply Classical.byContradiction
        intro h2
        have := h x (by omega)
        have := of_decide_eq_true h1
        omega
      have h3 := ct_lt (p := thB t v) (q := fun y => decide (t ≤ y)) (n := n) (fun r hr e2 => by
        have := of_decide_eq_true e2
        refine decide_eq_true ?_
        apply Classical.byContradiction
        intro h4
        have := h r (by omega)
        omega) ⟨x + 1, hx, decide_eq_true (by omega), e⟩
      rw [ct_ge, hc] at h3
      omega
theorem netN_congr {n k : Nat} {f o u v : Nat → Nat} (hG : Good n k f o) (h : ∀ x, x < n → u x = v x) : ∀ j, j ≤ k → ∀ x, x < n → netN f o j u x = netN f o j v x
  | 0, _, x, hx => h x hx
  | j + 1, hj, x, hx => by
    have ih := netN_congr hG h j (by omega)
    obtain ⟨g1, g2, g3⟩ := hG.2.2.2 j (by omega)
    show cmpN _ _ _ x = cmpN _ _ _ x
    unfold cmpN
    rw [ih _ g1, ih _ g2, ih x hx]
def chP (n k : Nat) (f o : Nat → Nat) (a N : Nat) : Prop := ∀ q, q < N → unsB n (netB f o 99 0 k (bR q)) = true → zerN n q ≠ a
def chV (n k : Nat) (f o : Nat → Nat) (a N : Nat) : Prop := ∀ r, r < N → ∀ w, w < a → netN f o k (rowT n r) w < a
theorem thQ_zer {n t : Nat} {v : Nat → Nat} (hn : n ≤ 6) (hv : PermN n v) (ht : t ≤ n) : zerN n (thQ n t v) = t := by
  unfold zerN
  have : ctB (fun x => (thQ n t v).testBit x) n = ctB (thB t v) n := ct_congr (fun x hx => thQ_bit hx)
  rw [this, th_ct hn hv]
  omega
theorem ch_eq {n k a : Nat} {f o : Nat → Nat} (hG : Good n k f o) (ha : a ≤ n) : chP n k f o a (2 ^ n) ↔ chV n k f o a (facN n) := by
  have hn := hG.2.1
  constructor
  · intro h r hr
    have hu := row_perm hn hr
    have hv := net_perm hG hu k (Nat.le_refl k)
    rw [← th_sorted hn hv ha]
    cases e : unsB n (thB a (netN f o k (rowT n r))) with
    | false => rfl
    | true =>
      exfalso
      refine h (thQ n a (rowT n r)) thQ_lt ?_ (thQ_zer hn hu ha)
      rw [uns_congr (fun x hx => thQ_net hG hx)]; exact e
  · intro h q hq h1 h2
    obtain ⟨hu, hb⟩ := outU_perm hn hq
    have hv := net_perm hG hu k (Nat.le_refl k)
    rw [h2] at hb
    have h3 := h (num n (outU n q)) (num_lt' hn hu)
    have h4 : ∀ w, w < a → netN f o k (outU n q) w < a := fun w hw => by
      have h5 := netN_congr hG (fun x hx => num_row hn hu hx) k (Nat.le_refl k) w (show w < n by omega)
      rw [← h5]
      exact h3 w hw
    rw [← th_sorted hn hv ha] at h4
    have h6 : unsB n (netB f o 99 0 k (bR q)) = unsB n (thB a (netN f o k (outU n q))) := uns_congr (fun x hx => by
      rw [netB_congr hG (fun x hx => (hb x hx).symm) k (Nat.le_refl k) x hx, net_th hG k (Nat.le_refl k) x hx])
    rw [h6, h4] at h1
    cases h1
theorem C_choosesL {n k a : Nat} {f o : Nat → Nat} {c : Hp} (hG : Good n k f o) (hC : NetC n k f o c) (ha : a < 7) : Ev (f_X4_choosesLowest_13_1 c (nI a)) (fun r => r.1 = pI (chP n k f o a (2 ^ n)) ∧ Sm [14] c r.2) := by
  have hn := hG.2.1
  have hle : 2 ^ n ≤ 2 ^ 6 := Nat.pow_le_pow_right (by omega) hn
  unfold f_X4_choosesLowest_13_1
  refine Ev_bd _ (s_unsortedFrom hG hC) (fun r ⟨p1, p2, p3⟩ => ?_)
  refine Ev_jn0 (chP n k f o a (2 ^ n)) (fun h => Ev_ckz (Or.inr rfl) (Ev_so ⟨(pI_t h).symm, p1⟩)) (fun k65 h65 => Ev_jn0 (¬ chP n k f o a (2 ^ n)) (fun h => Ev_ckz (Or.inl rfl) (Ev_so ⟨(pI_f h).symm, p1⟩)) (fun k57 h57 => ?_))
  refine Ev_fx1 (fun q a1 => a1 = nI q ∧ chP n k f o a q) (2 ^ n) ?_ ?_ (FU_lt (by omega)) ⟨rfl, fun q hq => absurd hq (by omega)⟩
  · rintro self q a1 hq ⟨rfl, hA⟩ hself
    unfold L_X4_choosesLowest_13_1_9
    have hbq : bt64 r.1 q = unsB n (netB f o 99 0 k (bR q)) := by rw [p3 q (by omega), decide_eq_true hq, Bool.true_and]
    rw [p2, hC.1, shl_n hn, lu1 (by omega), hbq]
    refine Ev_f (nle_n hq (by omega)) ?_
    have hnext : ∀ (_ : unsB n (netB f o 99 0 k (bR q)) = true → zerN n q ≠ a), Ev (self (nI q + 1)) _ := fun hh => hself _ ⟨nI_add q 1, fun p hp h1 => by
      by_cases e : p = q
      · rw [e] at h1 ⊢; exact hh h1
      · exact hA p (by omega) h1⟩
    refine Ev_jn1 (fun z => (z = 0 ∧ unsB n (netB f o 99 0 k (bR q)) = false) ∨ (z = 1 ∧ unsB n (netB f o 99 0 k (bR q)) = true)) (fun z hz => ?_) (fun k36 h36 => ?_)
    · rcases hz with ⟨rfl, hz⟩ | ⟨rfl, hz⟩
      · exact Ev_t rfl (hnext (fun h1 => by rw [hz] at h1; cases h1))
      · refine Ev_f (by decide) (Ev_bde (bitCount6 q (by omega)) ?_)
        have hc : ctB (fun y => q.testBit y) n ≤ n := ct_le
        have hz2 : n - ctB (fun y => q.testBit y) n = zerN n q := rfl
        have hzl := zer_le (n := n) (q := q)
        rw [bits6 hn hq, nsub hc, hz2]
        refine Ev_i (fun e => h57 (fun h => ?_)) (fun e => hnext (fun _ e2 => e (by rw [e2])))
        rw [neqI (by omega) (by omega)] at e
        exact h q hq hz e
    · cases e : unsB n (netB f o 99 0 k (bR q)) with
      | false => exact Ev_t (by rw [if_neg (by decide)]; exact lgc 0) (h36 _ (Or.inl ⟨rfl, e⟩))
      | true => exact Ev_f (by rw [if_pos rfl]; decide) (h36 _ (Or.inr ⟨rfl, e⟩))
  · rintro self a1 ⟨rfl, hA⟩
    unfold L_X4_choosesLowest_13_1_9
    rw [p2, hC.1, shl_n hn]
    exact Ev_t (Int32.le_refl _) (h65 hA)
theorem pI_iff {p q : Prop} (h : p ↔ q) : pI p = pI q := by
  by_cases e : p
  · rw [pI_t e, pI_t (h.mp e)]
  · rw [pI_f e, pI_f (fun z => e (h.mpr z))]
