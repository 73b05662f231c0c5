/-! P43: the next row of all values -/
def nxtV (n a k : Nat) (v : Nat → Nat) : Nat → Nat := fun x => if a < x ∧ x < n then swapN a k v (n + a - x) else swapN a k v x
def nxCd (n r a k : Nat) : Bool := decide (a + 1 < n) && (decide (rowT n r a ≤ rowT n r (a + 1)) && ((List.range n).all (fun x => !(decide (a < x) && decide (x + 1 < n)) || decide (rowT n r (x + 1) < rowT n r x)) && (decide (a < k) && (decide (rowT n r a ≤ rowT n r k) && (List.range n).all (fun x => !decide (k < x) || decide (rowT n r x < rowT n r a))))))
def nxCk (n r a k : Nat) : Bool := !nxCd n r a k || (decide (r + 1 < facN n) && (List.range n).all (fun x => nxtV n a k (rowT n r) x == rowT n (r + 1) x))
theorem nxCk_ok : ((List.range 6).all fun n => (List.range (facN n)).all fun r => (List.range n).all fun a => (List.range n).all fun k => nxCk n r a k) = true := by decide +kernel
theorem nxt_ok {n r a k : Nat} (hn : n < 6) (hr : r < facN n) (ha : a < n) (hk : k < n) (h : a + 1 < n ∧ rowT n r a ≤ rowT n r (a + 1) ∧ (∀ x, x < n → a < x → x + 1 < n → rowT n r (x + 1) < rowT n r x) ∧ a < k ∧ rowT n r a ≤ rowT n r k ∧ ∀ x, x < n → k < x → rowT n r x < rowT n r a) : r + 1 < facN n ∧ ∀ x, x < n → nxtV n a k (rowT n r) x = rowT n (r + 1) x := by
  have q := List.all_eq_true.mp (List.all_eq_true.mp (List.all_eq_true.mp (List.all_eq_true.mp nxCk_ok n (List.mem_range.mpr hn)) r (List.mem_range.mpr hr)) a (List.mem_range.mpr ha)) k (List.mem_range.mpr hk)
  obtain ⟨h1, h2, h3, h4, h5, h6⟩ := h
  have hc : nxCd n r a k = true := by
    unfold nxCd
    rw [decide_eq_true h1, decide_eq_true h2, decide_eq_true h4, decide_eq_true h5]
    simp only [Bool.true_and, Bool.and_eq_true, List.all_eq_true, List.mem_range]
    refine ⟨fun x hx => ?_, fun x hx => ?_⟩
    · by_cases e1 : a < x
      · by_cases e2 : x + 1 < n
        · simp [h3 x hx e1 e2]
        · simp [e2]
      · simp [e1]
    · by_cases e1 : k < x
      · simp [h6 x hx e1]
      · simp [e1]
  unfold nxCk at q
  rw [hc, Bool.not_true, Bool.false_or, Bool.and_eq_true, decide_eq_true_eq, List.all_eq_true] at q
  exact ⟨q.1, fun x hx => eq_of_beq (q.2 x (List.mem_range.mpr hx))⟩
theorem nxt_end : ∀ n, n < 6 → ∀ r, r < facN n → (∀ x, x < n → x + 1 < n → rowT n r (x + 1) < rowT n r x) → r + 1 = facN n := by decide +kernel
theorem nI_mq {m : Nat} : nI (m + 1) + (-1 : Int32) = nI m := nI_m1 m
theorem nI_negq : ¬ (0 : Int32) ≤ nI 0 + (-1 : Int32) ∧ nI 0 + (-1 : Int32) < 0 := by decide
theorem r_next {n r : Nat} {p : Row} (hn : n ≤ 5) (hn2 : 2 ≤ n) (hr : r < facN n) (hp : RwN n p (rowT n r)) : Ev (f_L_next (nI n) p) (fun y => (r + 1 < facN n → y.1 = 1 ∧ RwN n y.2 (rowT n (r + 1))) ∧ (r + 1 = facN n → y.1 = 0)) := by
  have hpm := row_perm (show n ≤ 6 by omega) hr
  have hok := fun a ha k hk h => nxt_ok (n := n) (r := r) (a := a) (k := k) (by omega) hr ha hk h
  have hend := nxt_end n (by omega) r hr
  generalize hv : rowT n r = v at hp hpm hok hend
  have hb : ∀ x, x < n → v x < 2 ^ 31 := fun x hx => by have := hpm.1 x hx; omega
  unfold f_L_next
  refine Ev_nm (Ev_jn1 (fun a2 => (a2 = nI 0 + (-1 : Int32) ∧ ∀ x, x < n → x + 1 < n → v (x + 1) < v x) ∨ ∃ a, a2 = nI a ∧ a + 1 < n ∧ v a ≤ v (a + 1) ∧ ∀ x, x < n → a < x → x + 1 < n → v (x + 1) < v x) (fun a2 ha => ?_) (fun k25 h25 => ?_))
  · rcases ha with ⟨rfl, hd⟩ | ⟨a, rfl, ha1, ha2, ha3⟩
    · refine Ev_f nI_negq.1 ?_
      unfold ckz
      rw [if_pos (Or.inl rfl)]
      refine Ev_so ⟨fun z => ?_, fun _ => rfl⟩
      have := hend hd
      omega
    · refine Ev_t (nI_pos' (by omega)) (Ev_nm (Ev_jn1 (fun a3 => ∃ k, a3 = nI k ∧ a < k ∧ k < n ∧ v a ≤ v k ∧ ∀ x, x < n → k < x → v x < v a) (fun a3 ⟨k, e, hk1, hk2, hk3, hk4⟩ => ?_) (fun k50 h50 => ?_)))
      · subst e
        obtain ⟨hr1, hrow⟩ := hok a (by omega) k hk2 ⟨ha1, ha2, ha3, hk1, hk3, hk4⟩
        refine Ev_ck rfl (by omega) (by omega) (Ev_ck rfl (by omega) (by omega) (Ev_ck rfl (by omega) (by omega) (Ev_nm (Ev_ck rfl (by omega) (by omega) (Ev_nm (Ev_nm ?_))))))
        rw [clN (by omega), clN (by omega), hp a (by omega), hp k hk2]
        have hW0 : RwN n (upd (upd p a (nI (v k))) k (nI (v a))) (swapN a k v) := by
          intro x hx
          unfold swapN
          by_cases x1 : x = k
          · subst x1
            rw [upd_s, if_neg (by omega), if_pos rfl]
          · rw [upd_n _ _ x1]
            by_cases x2 : x = a
            · subst x2
              rw [upd_s, if_pos rfl]
            · rw [upd_n _ _ x2, if_neg x2, if_neg x1, hp x hx]
        generalize upd (upd p a (nI (v k))) k (nI (v a)) = p1 at hW0
        unfold nxtV at hrow
        generalize swapN a k v = W at hW0 hrow
        refine Ev_jn1 (fun p2 => RwN n p2 (fun x => if a < x ∧ x < n then W (n + a - x) else W x)) (fun p2 h2 => ?_) (fun k116 h116 => ?_)
        · unfold ckz
          rw [if_pos (Or.inr rfl)]
          exact Ev_so ⟨fun _ => ⟨rfl, fun x hx => by
            show p2 x = _
            rw [h2 x hx, ← hrow x hx]⟩, fun z => by omega⟩
        · refine Ev_fx2 (fun j a5 p2 => a5 = nI (a + 1 + j) ∧ RwN n p2 (fun x => if (a < x ∧ x < a + 1 + j) ∨ (n - 1 - j < x ∧ x < n) then W (n + a - x) else W x)) ((n - a - 1) / 2) ?_ ?_ (FU_lt (by omega)) ⟨nI_add a 1, fun x hx => ?_⟩
          · rintro self j a5 p2 hj ⟨rfl, h2⟩ hself
            unfold L_L_next_71
            rw [nsub (by omega), nsub (by omega), show n - (a + 1 + j - a) = n - 1 - j by omega]
            refine Ev_f (nle_n (by omega) (by omega)) (Ev_nm (Ev_ck rfl (by omega) (by omega) (Ev_ck rfl (by omega) (by omega) (Ev_ck rfl (by omega) (by omega) (Ev_nm (Ev_ck rfl (by omega) (by omega) (Ev_nm ?_)))))))
            rw [clN (by omega), clN (by omega)]
            refine hself _ _ ⟨nI_add _ 1, fun x hx => ?_⟩
            have r1 := h2 (a + 1 + j) (by omega)
            have r2 := h2 (n - 1 - j) (by omega)
            dsimp only at r1 r2 ⊢
            rw [if_neg (by omega)] at r1 r2
            by_cases x1 : x = n - 1 - j
            · subst x1
              rw [upd_s, r1, if_pos (by omega)]
              congr 2
              omega
            · rw [upd_n _ _ x1]
              by_cases x2 : x = a + 1 + j
              · subst x2
                rw [upd_s, r2, if_pos (by omega)]
                congr 2
                omega
              · rw [upd_n _ _ x2, h2 x hx]
                dsimp only
                by_cases x3 : (a < x ∧ x < a + 1 + j) ∨ (n - 1 - j < x ∧ x < n)
                · rw [if_pos x3, if_pos (by omega)]
                · rw [if_neg x3, if_neg (by omega)]
          · rintro self a5 p2 ⟨rfl, h2⟩
            unfold L_L_next_71
            rw [nsub (by omega), nsub (by omega)]
            refine Ev_t (le_n (by omega) (by omega)) (h116 _ (fun x hx => ?_))
            rw [h2 x hx]
            dsimp only
            by_cases x1 : a < x ∧ x < n
            · rw [if_pos x1]
              by_cases x2 : (a < x ∧ x < a + 1 + (n - a - 1) / 2) ∨ (n - 1 - (n - a - 1) / 2 < x ∧ x < n)
              · rw [if_pos x2]
              · rw [if_neg x2, show n + a - x = x by omega]
            · rw [if_neg x1, if_neg (by omega)]
          · rw [hW0 x hx]
            dsimp only
            rw [if_neg (by omega)]
      · refine Ev_fx1 (fun j a3 => a3 = nI (n - 1 - j) ∧ ∀ x, x < n → n - 1 - j < x → v x < v a) (n - 2 - a) ?_ ?_ (FU_lt (by omega)) ⟨by rw [n1, nsub (by omega)]; rfl, fun x h1 h2 => by omega⟩
        · rintro self j a3 hj ⟨rfl, hd⟩ hself
          unfold L_L_next_35
          refine Ev_ck rfl (by omega) (by omega) (Ev_ck rfl (by omega) (by omega) ?_)
          rw [clN (by omega), clN (by omega), hp a (by omega), hp (n - 1 - j) (by omega)]
          have hle := nI_leI (hb a (by omega)) (hb (n - 1 - j) (by omega))
          refine Ev_i (fun e => h50 _ ⟨_, rfl, by omega, by omega, hle.mp e, hd⟩) (fun e => hself _ ⟨?_, fun x x1 x2 => ?_⟩)
          · rw [show n - 1 - j = (n - 1 - (j + 1)) + 1 by omega]
            exact nI_mq
          · by_cases x3 : x = n - 1 - j
            · have e2 : ¬ v a ≤ v (n - 1 - j) := fun z => e (hle.mpr z)
              rw [x3]
              omega
            · exact hd x x1 (by omega)
        · rintro self a3 ⟨rfl, hd⟩
          unfold L_L_next_35
          refine Ev_ck rfl (by omega) (by omega) (Ev_ck rfl (by omega) (by omega) ?_)
          have e : n - 1 - (n - 2 - a) = a + 1 := by omega
          rw [e] at hd ⊢
          rw [clN (by omega), clN (by omega), hp a (by omega), hp _ (by omega)]
          exact Ev_t ((nI_leI (hb a (by omega)) (hb _ (by omega))).mpr ha2) (h50 _ ⟨_, rfl, by omega, by omega, ha2, hd⟩)
  · refine Ev_fx1 (fun j a2 => a2 = nI (n - 1 - j) + (-1 : Int32) ∧ ∀ x, x < n → n - 1 - j ≤ x → x + 1 < n → v (x + 1) < v x) (n - 1) ?_ ?_ (FU_lt (by omega)) ⟨?_, fun x h1 h2 h3 => by omega⟩
    · rintro self j a2 hj ⟨rfl, hd⟩ hself
      unfold L_L_next_4
      obtain ⟨m, hm⟩ : ∃ m, n - 1 - j = m + 1 := ⟨n - 2 - j, by omega⟩
      rw [hm] at hd ⊢
      rw [nI_mq]
      refine Ev_f (nI_pos (by omega)) (Ev_ck rfl (by omega) (by omega) (Ev_ck (nI_add m 1) (by omega) (by omega) ?_))
      rw [n1, nI_add, clN (by omega), clN (by omega), hp m (by omega), hp (m + 1) (by omega)]
      have hle := nI_leI (hb m (by omega)) (hb (m + 1) (by omega))
      refine Ev_i (fun e => h25 _ (Or.inr ⟨m, rfl, by omega, hle.mp e, fun x x1 x2 x3 => hd x x1 (by omega) x3⟩)) (fun e => hself _ ⟨?_, fun x x1 x2 x3 => ?_⟩)
      · rw [show n - 1 - (j + 1) = m by omega]; rfl
      · by_cases x4 : x = m
        · have e2 : ¬ v m ≤ v (m + 1) := fun z => e (hle.mpr z)
          rw [x4]
          omega
        · exact hd x x1 (by omega) x3
    · rintro self a2 ⟨rfl, hd⟩
      unfold L_L_next_4
      rw [show n - 1 - (n - 1) = 0 by omega] at hd ⊢
      exact Ev_t nI_negq.2 (h25 _ (Or.inl ⟨rfl, fun x x1 x2 => hd x x1 (by omega) x2⟩))
    · rw [n2, nsub (by omega), show n - 1 - 0 = (n - 2) + 1 by omega, nI_mq]
