/-! NOUGHTS AND ONES FOR ROWS OF ALL VALUES; cases off, chooses -/
def thB (t : Nat) (v : Nat → Nat) : Nat → Bool := fun x => decide (t ≤ v x)
theorem th_cmp {a b t x : Nat} {v : Nat → Nat} : cmpB a b (thB t v) x = thB t (cmpN a b v) x := by
  have h : ∀ p q : Prop, ∀ [Decidable p] [Decidable q], (p ↔ q) → decide p = decide q := fun p q _ _ h => by simp [h]
  unfold cmpB thB cmpN
  by_cases e : x = a
  · rw [if_pos e, if_pos e, ← Bool.decide_and]
    exact h _ _ (by omega)
  · rw [if_neg e, if_neg e]
    by_cases e2 : x = b
    · rw [if_pos e2, if_pos e2, ← Bool.decide_or]
      exact h _ _ (by omega)
    · rw [if_neg e2, if_neg e2]
theorem cmpB_congr {n a b : Nat} {V W : Nat → Bool} (ha : a < n) (hb : b < n) (h : ∀ x, x < n → V x = W x) : ∀ x, x < n → cmpB a b V x = cmpB a b W x := fun x hx => by
  unfold cmpB
  rw [h a ha, h b hb, h x hx]
theorem net_th {n k t : Nat} {f o v : Nat → Nat} (hG : Good n k f o) : ∀ j, j ≤ k → ∀ x, x < n → netB f o 99 0 j (thB t v) x = thB t (netN f o j v) x
  | 0, _, _, _ => rfl
  | j + 1, hj, x, hx => by
    have hk24 := hG.2.2.1
    obtain ⟨g1, g2, g3⟩ := hG.2.2.2 j (by omega)
    rw [netB_s, if_neg (by omega), cmpB_congr g1 g2 (net_th hG j (by omega)) x hx]
    exact th_cmp
theorem netB_congr {n k : Nat} {f o : Nat → Nat} {V W : Nat → Bool} (hG : Good n k f o) (h : ∀ x, x < n → V x = W x) : ∀ j, j ≤ k → ∀ x, x < n → netB f o 99 0 j V x = netB f o 99 0 j W x
  | 0, _, x, hx => h x hx
  | j + 1, hj, x, hx => by
    have hk24 := hG.2.2.1
    obtain ⟨g1, g2, g3⟩ := hG.2.2.2 j (by omega)
    rw [netB_s, netB_s, if_neg (by omega), if_neg (by omega), cmpB_congr g1 g2 (netB_congr hG h j (by omega)) x hx]
/-- a row of bits that a row of all values gives -/
def thQ (n t : Nat) (v : Nat → Nat) : Nat := numB (thB t v) n
theorem thQ_bit {n t x : Nat} {v : Nat → Nat} (hx : x < n) : bR (thQ n t v) x = thB t v x := by
  show (numB (thB t v) n).testBit x = _
  rw [num_bit, decide_eq_true hx, Bool.true_and]
theorem thQ_lt {n t : Nat} {v : Nat → Nat} : thQ n t v < 2 ^ n := num_lt n
theorem thQ_net {n k t : Nat} {f o v : Nat → Nat} (hG : Good n k f o) {x : Nat} (hx : x < n) : netB f o 99 0 k (bR (thQ n t v)) x = thB t (netN f o k v) x := by
  rw [netB_congr hG (fun x hx => thQ_bit hx) k (Nat.le_refl k) x hx, net_th hG k (Nat.le_refl k) x hx]
/-- each row of bits comes of a row of all values -/
def zerN (n q : Nat) : Nat := n - ctB (fun x => q.testBit x) n
def outU (n q : Nat) : Nat → Nat := fun x => if q.testBit x = true then zerN n q + ctB (fun y => q.testBit y) x else x - ctB (fun y => q.testBit y) x
def chkU (n q : Nat) : Bool := permB n (outU n q) && (List.range n).all (fun x => decide (zerN n q ≤ outU n q x) == q.testBit x)
theorem outU_ok : ∀ n, n < 7 → ∀ q, q < 2 ^ n → chkU n q = true := by decide +kernel
theorem outU_perm {n q : Nat} (hn : n ≤ 6) (hq : q < 2 ^ n) : PermN n (outU n q) ∧ ∀ x, x < n → thB (zerN n q) (outU n q) x = bR q x := by
  have := outU_ok n (by omega) q hq
  unfold chkU at this
  rw [Bool.and_eq_true, List.all_eq_true] at this
  exact ⟨permB_ok this.1, fun x hx => by
    have h := this.2 x (List.mem_range.mpr hx)
    exact eq_of_beq h⟩
theorem cmp_perm {n a b : Nat} {v : Nat → Nat} (ha : a < n) (hb : b < n) (hab : a ≠ b) (hv : PermN n v) : PermN n (cmpN a b v) := by
  by_cases h : v b < v a
  · have e : ∀ x, x < n → swapN a b v x = cmpN a b v x := fun x _ => cmp_is_swap h
    refine PermN.congr e ⟨fun x hx => ?_, fun x y hx hy e => ?_⟩
    · unfold swapN
      split
      · exact hv.1 b hb
      · split
        · exact hv.1 a ha
        · exact hv.1 x hx
    · have hi := hv.2
      unfold swapN at e
      by_cases x1 : x = a
      · by_cases y1 : y = a
        · omega
        · rw [if_pos x1, if_neg y1] at e
          by_cases y2 : y = b
          · rw [if_pos y2] at e; have := hi _ _ hb ha e; omega
          · rw [if_neg y2] at e; have := hi _ _ hb hy e; omega
      · rw [if_neg x1] at e
        by_cases x2 : x = b
        · rw [if_pos x2] at e
          by_cases y1 : y = a
          · rw [if_pos y1] at e; have := hi _ _ ha hb e; omega
          · rw [if_neg y1] at e
            by_cases y2 : y = b
            · omega
            · rw [if_neg y2] at e; have := hi _ _ ha hy e; omega
        · rw [if_neg x2] at e
          by_cases y1 : y = a
          · rw [if_pos y1] at e; have := hi _ _ hx hb e; omega
          · rw [if_neg y1] at e
            by_cases y2 : y = b
            · rw [if_pos y2] at e; have := hi _ _ hx ha e; omega
            · rw [if_neg y2] at e; exact hi _ _ hx hy e
  · exact PermN.congr (fun x _ => cmp_is_id (by omega)) hv
theorem net_perm {n k : Nat} {f o v : Nat → Nat} (hG : Good n k f o) (hv : PermN n v) : ∀ j, j ≤ k → PermN n (netN f o j v)
  | 0, _ => hv
  | j + 1, hj => cmp_perm (hG.2.2.2 j (by omega)).1 (hG.2.2.2 j (by omega)).2.1 (hG.2.2.2 j (by omega)).2.2 (net_perm hG hv j (by omega))
theorem ct_perm {n : Nat} {v : Nat → Nat} {p : Nat → Bool} (hn : n ≤ 6) (hv : PermN n v) : ctB (fun x => p (v x)) n = ctB p n := by
  have ⟨w, hw⟩ : ∃ w : Nat → Nat, ∀ y, y < n → w y < n ∧ v (w y) = y := by
    refine ⟨fun y => if hy : y < n then Classical.choose (perm_onto hn hv hy) else 0, fun y hy => ?_⟩
    dsimp only
    rw [dif_pos hy]
    exact Classical.choose_spec (perm_onto hn hv hy)
  exact ct_bij (fun x hx => hv.1 x hx) (fun y hy => (hw y hy).1) (fun y hy => (hw y hy).2) (fun x hx => hv.2 _ _ (hw _ (hv.1 x hx)).1 hx (hw _ (hv.1 x hx)).2)
theorem ct_ge {t : Nat} : ∀ n, ctB (fun y => decide (t ≤ y)) n = n - t
  | 0 => by rw [Nat.zero_sub]; rfl
  | n + 1 => by
    have ih := ct_ge (t := t) n
    by_cases h : t ≤ n
    · rw [ct_s1 (p := fun y => decide (t ≤ y)) (decide_eq_true h), ih]; omega
    · rw [ct_s0 (p := fun y => decide (t ≤ y)) (by simpa using h), ih]; omega
theorem th_ct {n t : Nat} {v : Nat → Nat} (hn : n ≤ 6) (hv : PermN n v) : ctB (thB t v) n = n - t := by
  rw [← ct_ge n]
  exact ct_perm (p := fun y => decide (t ≤ y)) hn hv
theorem zer_le {n q : Nat} : zerN n q ≤ n := Nat.sub_le _ _
theorem ct_ext {p : Nat → Bool} {n : Nat} : ∀ d, (∀ x, n ≤ x → p x = false) → ctB p (n + d) = ctB p n
  | 0, _ => rfl
  | d + 1, h => by
    rw [← Nat.add_assoc, ct_s0 (p := p) (by rw [h _ (by omega)]; decide)]
    exact ct_ext d h
theorem bits6 {n q : Nat} (hn : n ≤ 6) (hq : q < 2 ^ n) : ctB (fun y => q.testBit y) 6 = ctB (fun y => q.testBit y) n := by
  have := ct_ext (p := fun y => q.testBit y) (n := n) (6 - n) (fun x hx => Nat.testBit_lt_two_pow (Nat.lt_of_lt_of_le hq (Nat.pow_le_pow_right (by omega) hx)))
  rwa [show n + (6 - n) = 6 by omega] at this
/-- maxima -/
def maxN (g : Nat → Nat) : Nat → Nat
  | 0 => 0
  | j + 1 => max (maxN g j) (g j)
theorem maxN_le {g : Nat → Nat} {B : Nat} : ∀ {N : Nat}, (∀ j, j < N → g j ≤ B) → maxN g N ≤ B
  | 0, _ => Nat.zero_le _
  | N + 1, h => Nat.max_le.mpr ⟨maxN_le (fun j hj => h j (by omega)), h N (by omega)⟩
theorem le_maxN {g : Nat → Nat} : ∀ {N j : Nat}, j < N → g j ≤ maxN g N
  | 0, _, h => absurd h (by omega)
  | N + 1, j, h => by
    show _ ≤ max (maxN g N) (g N)
    by_cases e : j = N
    · rw [e]; exact Nat.le_max_right _ _
    · exact Nat.le_trans (le_maxN (by omega)) (Nat.le_max_left _ _)
/-- by how much: of rows of bits, of rows of values -/
def dbN (n z : Nat) (V : Nat → Bool) : Nat := maxN (fun w => if V w = true then z - w else w + 1 - z) n
def dvN (n : Nat) (v : Nat → Nat) : Nat := maxN (fun w => if w ≤ v w then v w - w else w - v w) n
theorem off_eq {n k : Nat} {f o : Nat → Nat} (hG : Good n k f o) : maxN (fun q => dbN n (zerN n (outQ n k f o q)) (netB f o 99 0 k (bR q))) (2 ^ n) = maxN (fun r => dvN n (netN f o k (rowT n r))) (facN n) := by
  have hn := hG.2.1
  have hz : ∀ (t : Nat) (u : Nat → Nat) (q : Nat), PermN n u → t ≤ n → (∀ x, x < n → bR q x = thB t u x) → zerN n (outQ n k f o q) = t ∧ ∀ x, x < n → netB f o 99 0 k (bR q) x = thB t (netN f o k u) x := by
    intro t u q hu ht hb
    have h1 : ∀ x, x < n → netB f o 99 0 k (bR q) x = thB t (netN f o k u) x := fun x hx => by
      rw [netB_congr hG hb k (Nat.le_refl k) x hx, net_th hG k (Nat.le_refl k) x hx]
    refine ⟨?_, h1⟩
    unfold zerN outQ
    have h2 : ctB (fun x => (numB (netB f o 99 0 k (bR q)) n).testBit x) n = ctB (thB t (netN f o k u)) n := ct_congr (fun x hx => by rw [num_bit, decide_eq_true hx, Bool.true_and, h1 x hx])
    rw [h2, th_ct hn (net_perm hG hu k (Nat.le_refl k))]
    omega
  apply Nat.le_antisymm
  · refine maxN_le (fun q hq => ?_)
    obtain ⟨hu, hb⟩ := outU_perm hn hq
    obtain ⟨h1, h2⟩ := hz (zerN n q) (outU n q) q hu zer_le (fun x hx => (hb x hx).symm)
    have hv := net_perm hG hu k (Nat.le_refl k)
    have hr := num_lt' hn hu
    have he : ∀ x, x < n → netN f o k (rowT n (num n (outU n q))) x = netN f o k (outU n q) x := by
      have : ∀ j, j ≤ k → ∀ x, x < n → netN f o j (rowT n (num n (outU n q))) x = netN f o j (outU n q) x := by
        intro j
        induction j with
        | zero => intro _ x hx; exact num_row hn hu hx
        | succ j ih =>
          intro hj x hx
          have ih := ih (by omega)
          obtain ⟨g1, g2, g3⟩ := hG.2.2.2 j (by omega)
          show cmpN _ _ _ x = cmpN _ _ _ x
          unfold cmpN
          rw [ih _ g1, ih _ g2, ih x hx]
      exact this k (Nat.le_refl k)
    refine Nat.le_trans ?_ (le_maxN (g := fun r => dvN n (netN f o k (rowT n r))) hr)
    rw [h1]
    refine maxN_le (fun w hw => ?_)
    rw [h2 w hw]
    refine Nat.le_trans ?_ (le_maxN (g := fun w => if w ≤ netN f o k (rowT n (num n (outU n q))) w then netN f o k (rowT n (num n (outU n q))) w - w else w - netN f o k (rowT n (num n (outU n q))) w) hw)
    rw [he w hw]
    unfold thB
    by_cases h3 : zerN n q ≤ netN f o k (outU n q) w
    · rw [if_pos (decide_eq_true h3)]
      split <;> omega
    · rw [if_neg (by simpa using h3)]
      split <;> omega
  · refine maxN_le (fun r hr => maxN_le (fun w hw => ?_))
    have hu := row_perm hn hr
    have hv := net_perm hG hu k (Nat.le_refl k)
    have hvw := hv.1 w hw
    by_cases h3 : w ≤ netN f o k (rowT n r) w
    · rw [if_pos h3]
      obtain ⟨h1, h2⟩ := hz (netN f o k (rowT n r) w) (rowT n r) (thQ n (netN f o k (rowT n r) w) (rowT n r)) hu (by omega) (fun x hx => thQ_bit hx)
      refine Nat.le_trans ?_ (le_maxN (g := fun q => dbN n (zerN n (outQ n k f o q)) (netB f o 99 0 k (bR q))) (thQ_lt (n := n) (t := netN f o k (rowT n r) w) (v := rowT n r)))
      rw [h1]
      refine Nat.le_trans ?_ (le_maxN (g := fun w' => if netB f o 99 0 k (bR (thQ n (netN f o k (rowT n r) w) (rowT n r))) w' = true then netN f o k (rowT n r) w - w' else w' + 1 - netN f o k (rowT n r) w) hw)
      rw [h2 w hw]
      unfold thB
      rw [if_pos (decide_eq_true (Nat.le_refl _))]
      exact Nat.le_refl _
    · rw [if_neg h3]
      obtain ⟨h1, h2⟩ := hz (netN f o k (rowT n r) w + 1) (rowT n r) (thQ n (netN f o k (rowT n r) w + 1) (rowT n r)) hu (by omega) (fun x hx => thQ_bit hx)
      refine Nat.le_trans ?_ (le_maxN (g := fun q => dbN n (zerN n (outQ n k f o q)) (netB f o 99 0 k (bR q))) (thQ_lt (n := n) (t := netN f o k (rowT n r) w + 1) (v := rowT n r)))
      rw [h1]
      refine Nat.le_trans ?_ (le_maxN (g := fun w' => if netB f o 99 0 k (bR (thQ n (netN f o k (rowT n r) w + 1) (rowT n r))) w' = true then netN f o k (rowT n r) w + 1 - w' else w' + 1 - (netN f o k (rowT n r) w + 1)) hw)
      rw [h2 w hw]
      unfold thB
      rw [if_neg (by simp)]
      omega
theorem imax_sub {g a b : Nat} (hg : g < 2 ^ 20) (ha : a < 2 ^ 20) (hb : b < 2 ^ 20) : imax (nI g) (nI a - nI b) = nI (max g (a - b)) := by
  by_cases h : b ≤ a
  · rw [nsub h, imax_n (by omega) (by omega)]
  · unfold imax
    have h1 := pk_sneg (a := a) (b := b) (by omega) (by omega)
    rw [if_neg, Nat.max_eq_left (by omega)]
    intro z
    exact nI_pos (n := g) (by omega) (Int32.lt_trans z h1)
theorem dbN_le {n z : Nat} {V : Nat → Bool} (hz : z ≤ n) : dbN n z V ≤ n := maxN_le (fun w hw => by split <;> omega)
theorem C_distance {n : Nat} {V : Nat → Bool} (hn : n ≤ 6) : f_X4_distanceIn (nI (numB V n)) (nI n) = some (nI (dbN n (zerN n (numB V n)) V)) := by
  have hq := num_lt (V := V) n
  have hle : 2 ^ n ≤ 2 ^ 6 := Nat.pow_le_pow_right (by omega) hn
  have hz := zer_le (n := n) (q := numB V n)
  have hz0 : ∀ w, w < n → V w = false → 1 ≤ zerN n (numB V n) := fun w hw e => by
    have h1 := ct_lt (p := fun x => (numB V n).testBit x) (q := fun _ => true) (n := n) (fun _ _ _ => rfl) ⟨w, hw, rfl, by rw [num_bit, e]; simp⟩
    have h4 : ctB (fun _ => true) n = n := ct_all (fun _ _ => rfl)
    unfold zerN
    omega
  refine Ev_eq ?_
  unfold f_X4_distanceIn
  have hc : ctB (fun y => (numB V n).testBit y) n ≤ n := ct_le
  refine Ev_bde (bitCount6 _ (by omega)) ?_
  rw [bits6 hn hq, nsub hc]
  refine Ev_nm ?_
  rw [show n - ctB (fun y => (numB V n).testBit y) n = zerN n (numB V n) from rfl]
  generalize zerN n (numB V n) = z at hz hz0
  refine Ev_jn1 (fun y => y = nI (dbN n z V)) (fun y hy => Ev_so hy) (fun kk hk => ?_)
  refine Ev_fx2 (fun w a1 a2 => a2 = nI w ∧ a1 = nI (maxN (fun w => if V w = true then z - w else w + 1 - z) w)) n ?_ ?_ (FU_lt (by omega)) ⟨rfl, rfl⟩
  · rintro self w a1 a2 hw ⟨rfl, rfl⟩ hself
    have hm : maxN (fun w => if V w = true then z - w else w + 1 - z) w ≤ n := maxN_le (fun j hj => by split <;> omega)
    unfold L_X4_distanceIn_12
    have hb := bit_0 (a := numB V n) (k := w) (by omega) (by omega)
    rw [num_bit, decide_eq_true hw, Bool.true_and] at hb
    refine Ev_f (nle_n hw (by omega)) (Ev_jn1 (fun y => (y = 0 ∧ V w = false) ∨ (y = 1 ∧ V w = true)) (fun y hy => ?_) (fun k32 h32 => Ev_i (fun e => h32 _ (Or.inl ⟨rfl, hb.mp e⟩)) (fun e => h32 _ (Or.inr ⟨rfl, ?_⟩))))
    · rcases hy with ⟨rfl, e⟩ | ⟨rfl, e⟩
      · refine Ev_t rfl (Ev_nm (hself _ _ ⟨nI_add w 1, ?_⟩))
        have h1 := hz0 w hw e
        rw [n1, nsub h1, imax_sub (by omega) (by omega) (by omega)]
        show _ = nI (max _ (if V w = true then z - w else w + 1 - z))
        rw [if_neg (by rw [e]; decide), show w - (z - 1) = w + 1 - z by omega]
      · refine Ev_f (by decide) (Ev_nm (hself _ _ ⟨nI_add w 1, ?_⟩))
        rw [imax_sub (by omega) (by omega) (by omega)]
        show _ = nI (max _ (if V w = true then z - w else w + 1 - z))
        rw [if_pos e]
    · cases e2 : V w with
      | true => rfl
      | false => exact absurd (hb.mpr e2) e
  · rintro self a1 a2 ⟨rfl, rfl⟩
    unfold L_X4_distanceIn_12
    exact Ev_t (Int32.le_refl _) (hk _ rfl)
theorem C_off {n k : Nat} {f o : Nat → Nat} {c : Hp} (hG : Good n k f o) (hC : NetC n k f o c) : Ev (f_X10_off c) (fun r => r.1 = nI (maxN (fun q => dbN n (zerN n (outQ n k f o q)) (netB f o 99 0 k (bR q))) (2 ^ n)) ∧ Sm [14] c r.2) := by
  have hn := hG.2.1
  have hle : 2 ^ n ≤ 2 ^ 6 := Nat.pow_le_pow_right (by omega) hn
  unfold f_X10_off
  refine Ev_bd (fun r => r.1 = nI (maxN (fun q => dbN n (zerN n (outQ n k f o q)) (netB f o 99 0 k (bR q))) (2 ^ n)) ∧ Sm [14] c r.2) ?_ (fun r hr => Ev_so hr)
  unfold f_X4_greatestDistance_13_1
  rw [hC.2.1]
  refine Ev_bd _ (s_send_14 (sp := 99) (md := 0) hG hC (Nat.le_refl k) (by have := hG.2.2.1; omega)) (fun h1 ⟨hS, he, hV⟩ => ?_)
  refine Ev_jn1 (fun y => y = nI (maxN (fun q => dbN n (zerN n (outQ n k f o q)) (netB f o 99 0 k (bR q))) (2 ^ n))) (fun y hy => Ev_so ⟨hy, hS⟩) (fun kk hk => ?_)
  refine Ev_fx2 (fun j a1 a2 => a2 = nI j ∧ a1 = nI (maxN (fun q => dbN n (zerN n (outQ n k f o q)) (netB f o 99 0 k (bR q))) j)) (2 ^ n) ?_ ?_ (FU_lt (by omega)) ⟨rfl, rfl⟩
  · rintro self j a1 a2 hj ⟨rfl, rfl⟩ hself
    unfold L_X4_greatestDistance_13_1_16
    rw [he, hC.1, shl_n hn]
    have hm : maxN (fun q => dbN n (zerN n (outQ n k f o q)) (netB f o 99 0 k (bR q))) j ≤ n := maxN_le (fun q hq => dbN_le zer_le)
    have hd : dbN n (zerN n (outQ n k f o j)) (netB f o 99 0 k (bR j)) ≤ n := dbN_le zer_le
    refine Ev_f (nle_n hj (by omega)) (Ev_bd _ (C_rowOut hn hj hV) (fun y hy => ?_))
    rw [hy]
    refine Ev_bde (C_distance hn) (Ev_nm (hself _ _ ⟨nI_add j 1, ?_⟩))
    exact imax_n (by omega) (by show dbN n (zerN n (outQ n k f o j)) (netB f o 99 0 k (bR j)) < _; omega)
  · rintro self a1 a2 ⟨rfl, rfl⟩
    unfold L_X4_greatestDistance_13_1_16
    rw [he, hC.1, shl_n hn]
    exact Ev_t (Int32.le_refl _) (hk _ rfl)
