/-! P43: the law's finishes -/
theorem netB_upd {f o : Nat → Nat} {sp md k a b : Nat} {V : Nat → Bool} : ∀ j, j ≤ k → netB (updN f k a) (updN o k b) sp md j V = netB f o sp md j V
  | 0, _ => rfl
  | j + 1, h => by
    have e1 : updN f k a j = f j := by unfold updN; rw [if_neg (by omega)]
    have e2 : updN o k b j = o j := by unfold updN; rw [if_neg (by omega)]
    rw [netB_s, netB_s, netB_upd j (by omega), e1, e2]
theorem netB_put {f o : Nat → Nat} {k n p : Nat} {V : Nat → Bool} (hk : k < 24) (hp : p / n < p % n) : netB (updN f k (p / n)) (updN o k (p % n)) 99 0 (k + 1) V = bhN n p (netB f o 99 0 k V) := by
  have e1 : updN f k (p / n) k = p / n := by unfold updN; rw [if_pos rfl]
  have e2 : updN o k (p % n) k = p % n := by unfold updN; rw [if_pos rfl]
  rw [netB_s, if_neg (by omega), netB_upd k (Nat.le_refl k), e1, e2]
  unfold bhN
  rw [if_pos hp]
theorem RcN.upd {k a b : Nat} {f o : Nat → Nat} {p : Row} (h : RcN k f o p) : RcN (k + 1) (updN f k a) (updN o k b) (upd p k (nI (a + 8 * b))) := fun i hi => by
  unfold updN
  by_cases e : i = k
  · rw [e, upd_s, if_pos rfl, if_pos rfl]
  · rw [upd_n _ _ e, if_neg e, if_neg e]; exact h i (by omega)
theorem RcN.low {k m a b : Nat} {f o : Nat → Nat} {p : Row} (h : RcN m (updN f k a) (updN o k b) p) (hkm : k ≤ m) : RcN k f o p := fun i hi => by
  have := h i (by omega)
  unfold updN at this
  rw [if_neg (by omega), if_neg (by omega)] at this
  exact this
theorem r_done66 {n K : Nat} {f o : Nat → Nat} {rc : Row} {P : Int32 × Row → Prop} {k104 : Int32 → Option (Int32 × Row)} (hG : Good n K f o) (h5 : n ≤ 5) (hc : RcN K f o rc) (hk : ∀ z, (z = 1 ∧ allS n (fun q => netB f o 99 0 K (bR q))) ∨ (z = 0 ∧ ¬ allS n (fun q => netB f o 99 0 K (bR q))) → Ev (k104 z) P) : Ev (fx2 (L_L_done_66 (nI n) (nI K) rc k104) FU (1 : Int32) (0 : Int32)) P := by
  have hn2 := hG.1
  have hpw : 2 ^ n ≤ 2 ^ 5 := Nat.pow_le_pow_right (by omega) h5
  refine Ev_fx2 (fun j a7 a8 => a8 = nI j ∧ ((a7 = 1 ∧ ∀ q, q < j → unsB n (netB f o 99 0 K (bR q)) = false) ∨ (a7 = 0 ∧ ¬ allS n (fun q => netB f o 99 0 K (bR q))))) (2 ^ n) ?_ ?_ (FU_lt (by omega)) ⟨rfl, Or.inl ⟨rfl, fun q hq => absurd hq (by omega)⟩⟩
  · rintro self j a7 a8 hj ⟨rfl, h⟩ hself
    unfold L_L_done_66
    rw [shl1 (by omega)]
    refine Ev_f (nle_n hj (by omega)) ?_
    rcases h with ⟨rfl, h⟩ | ⟨rfl, h⟩
    · refine Ev_f (by decide) (Ev_bd _ (r_out (md := 0) hG h5 hc (Nat.le_refl K) hj SpI.m (by omega)) (fun y hy => Ev_bde (r_upr h5 (by omega) hy) (hself _ _ ⟨nI_add j 1, ?_⟩)))
      by_cases e : unsB n (netB f o 99 0 K (bR j)) = true
      · rw [if_pos e]
        exact Or.inr ⟨rfl, fun z => by have := z j hj; rw [e] at this; cases this⟩
      · rw [if_neg e]
        refine Or.inl ⟨rfl, fun q hq => ?_⟩
        by_cases e2 : q = j
        · rw [e2]; exact Bool.eq_false_iff.mpr e
        · exact h q (by omega)
    · exact Ev_t rfl (hk _ (Or.inr ⟨rfl, h⟩))
  · rintro self a7 a8 ⟨rfl, h⟩
    unfold L_L_done_66
    rw [shl1 (by omega)]
    refine Ev_t (Int32.le_refl _) (hk _ ?_)
    rcases h with ⟨rfl, h⟩ | ⟨rfl, h⟩
    · exact Or.inl ⟨rfl, h⟩
    · exact Or.inr ⟨rfl, h⟩
theorem putv {n p : Nat} (hn : 0 < n) (hn6 : n ≤ 6) (hp : p < 2 ^ 20) : nI p / nI n + (8 : Int32) * irm (nI p) (nI n) = nI (p / n + 8 * (p % n)) := by
  rw [ndiv (by omega) hn (by omega), irmN (by omega) hn (by omega), n8, nmul, nI_add]
theorem r_done1 {n k p : Nat} {f o : Nat → Nat} {rc r1 : Row} (hG : Good n k f o) (h5 : n ≤ 5) (hk22 : k ≤ 22) (hc : RcN k f o rc) (hn0 : r1 0 = nI n) (hk1 : r1 1 = nI k) (hp : p < n * n) (hpp : p / n < p % n) : Ev (f_L_done (nI p) (-1) rc r1) (fun y => RcN k f o y.2 ∧ ((y.1 = 1 ∧ allS n (fun q => bhN n p (netB f o 99 0 k (bR q)))) ∨ (y.1 = 0 ∧ ¬ allS n (fun q => bhN n p (netB f o 99 0 k (bR q)))))) := by
  have hn2 := hG.1
  have hnn : n * n ≤ 5 * 5 := Nat.mul_le_mul h5 h5
  have hb : p % n < n := Nat.mod_lt _ (by omega)
  have hG1 := hG.add (show k < 24 by omega) (show p / n < n by omega) hb (by omega)
  have hc1 := hc.upd (a := p / n) (b := p % n)
  have he : (fun q => netB (updN f k (p / n)) (updN o k (p % n)) 99 0 (k + 1) (bR q)) = fun q => bhN n p (netB f o 99 0 k (bR q)) := funext (fun q => netB_put (by omega) hpp)
  unfold f_L_done
  rw [cl0, hn0, cl1, hk1, clN (by omega), putv (by omega) (by omega) (by omega)]
  refine Ev_c0 (Ev_c1 (Ev_jn2 (fun K rr => K = nI (k + 1) ∧ RcN (k + 1) (updN f k (p / n)) (updN o k (p % n)) rr) (fun K rr ⟨e, hr⟩ => ?_) (fun kk hk => ?_)))
  · subst e
    refine Ev_t (by decide) (Ev_jn1 (fun z => (z = 1 ∧ allS n (fun q => bhN n p (netB f o 99 0 k (bR q)))) ∨ (z = 0 ∧ ¬ allS n (fun q => bhN n p (netB f o 99 0 k (bR q))))) (fun z hz => ?_) (fun kk hk => r_done66 hG1 h5 hr (fun z hz => hk z (by rw [he] at hz; exact hz))))
    refine Ev_ckz (by rcases hz with ⟨rfl, _⟩ | ⟨rfl, _⟩ <;> decide) (Ev_so ⟨hr.low (by omega), hz⟩)
  · exact Ev_f (nI_pos (by omega)) (Ev_nz (nI_ne0 (by omega) (by omega)) (Ev_nz (nI_ne0 (by omega) (by omega)) (Ev_ck rfl (by omega) (by omega) (Ev_nm (hk _ _ ⟨nI_add k 1, hc1⟩)))))
theorem r_done2 {n k p p2 : Nat} {f o : Nat → Nat} {rc r1 : Row} (hG : Good n k f o) (h5 : n ≤ 5) (hk22 : k ≤ 22) (hc : RcN k f o rc) (hn0 : r1 0 = nI n) (hk1 : r1 1 = nI k) (hp : p < n * n) (hpp : p / n < p % n) (hp2 : p2 < n * n) (hpp2 : p2 / n < p2 % n) : Ev (f_L_done (nI p) (nI p2) rc r1) (fun y => RcN k f o y.2 ∧ ((y.1 = 1 ∧ allS n (fun q => bhN n p2 (bhN n p (netB f o 99 0 k (bR q))))) ∨ (y.1 = 0 ∧ ¬ allS n (fun q => bhN n p2 (bhN n p (netB f o 99 0 k (bR q))))))) := by
  have hn2 := hG.1
  have hnn : n * n ≤ 5 * 5 := Nat.mul_le_mul h5 h5
  have hb : p % n < n := Nat.mod_lt _ (by omega)
  have hb2 : p2 % n < n := Nat.mod_lt _ (by omega)
  have hG1 := hG.add (show k < 24 by omega) (show p / n < n by omega) hb (by omega)
  have hc1 := hc.upd (a := p / n) (b := p % n)
  have hG2 := hG1.add (show k + 1 < 24 by omega) (show p2 / n < n by omega) hb2 (by omega)
  have he : (fun q => netB (updN (updN f k (p / n)) (k + 1) (p2 / n)) (updN (updN o k (p % n)) (k + 1) (p2 % n)) 99 0 (k + 1 + 1) (bR q)) = fun q => bhN n p2 (bhN n p (netB f o 99 0 k (bR q))) := funext (fun q => by rw [netB_put (by omega) hpp2, netB_put (by omega) hpp])
  unfold f_L_done
  rw [cl0, hn0, cl1, hk1, clN (by omega), putv (by omega) (by omega) (by omega), putv (by omega) (by omega) (by omega)]
  refine Ev_c0 (Ev_c1 (Ev_jn2 (fun K rr => K = nI (k + 1) ∧ RcN (k + 1) (updN f k (p / n)) (updN o k (p % n)) rr) (fun K rr ⟨e, hr⟩ => ?_) (fun kk hk => ?_)))
  · subst e
    have hr2 := hr.upd (a := p2 / n) (b := p2 % n)
    rw [clN (by omega)]
    refine Ev_f (nI_pos (by omega)) (Ev_nz (nI_ne0 (by omega) (by omega)) (Ev_nz (nI_ne0 (by omega) (by omega)) (Ev_ck rfl (by omega) (by omega) (Ev_nm ?_))))
    rw [n1, nI_add]
    refine Ev_jn1 (fun z => (z = 1 ∧ allS n (fun q => bhN n p2 (bhN n p (netB f o 99 0 k (bR q))))) ∨ (z = 0 ∧ ¬ allS n (fun q => bhN n p2 (bhN n p (netB f o 99 0 k (bR q)))))) (fun z hz => ?_) (fun kk hk => ?_)
    · exact Ev_ckz (by rcases hz with ⟨rfl, _⟩ | ⟨rfl, _⟩ <;> decide) (Ev_so ⟨(hr2.low (by omega)).low (by omega), hz⟩)
    · exact r_done66 hG2 h5 hr2 (fun z hz => hk z (by rw [he] at hz; exact hz))
  · exact Ev_f (nI_pos (by omega)) (Ev_nz (nI_ne0 (by omega) (by omega)) (Ev_nz (nI_ne0 (by omega) (by omega)) (Ev_ck rfl (by omega) (by omega) (Ev_nm (hk _ _ ⟨nI_add k 1, hc1⟩)))))
theorem bh_bad {n p : Nat} {V : Nat → Bool} (h : ¬ p / n < p % n) : bhN n p V = V := by unfold bhN; rw [if_neg h]
theorem r_finishes {n k : Nat} {f o : Nat → Nat} {rc r1 : Row} (hG : Good n k f o) (h5 : n ≤ 5) (hk22 : k ≤ 22) (hc : RcN k f o rc) (hn0 : r1 0 = nI n) (hk1 : r1 1 = nI k) (hA : ¬ allS n (fun q => netB f o 99 0 k (bR q))) : Ev (f_L_finishes rc r1) (fun y => RcN k f o y.2 ∧ lstK (fun m => CFp n m (fun q => netB f o 99 0 k (bR q))) 2 y.1) := by
  have hn2 := hG.1
  have hnn : n * n ≤ 5 * 5 := Nat.mul_le_mul h5 h5
  have hn0' : 0 < n * n := Nat.mul_pos (by omega) (by omega)
  have hn4 : n * n * (n * n) ≤ 25 * 25 := Nat.mul_le_mul hnn hnn
  have hn4e : n * n * n * n = n * n * (n * n) := by rw [Nat.mul_assoc (n * n) n n]
  generalize hW : (fun q => netB f o 99 0 k (bR q)) = W at hA
  have hWq : ∀ q, netB f o 99 0 k (bR q) = W q := fun q => by rw [← hW]
  have hno0 : ¬ CFp n 0 W := hA
  have hle : ∀ a b : Nat, a < 2 ^ 20 → b < 2 ^ 20 → ((nI a ≤ nI b) = (a ≤ b)) := fun a b ha hb => propext (nI_leI (by omega) (by omega))
  unfold f_L_finishes
  rw [cl0, hn0]
  refine Ev_c0 (Ev_jn1 (fun rr => RcN k f o rr ∧ ¬ EFp n 1 W) (fun rr ⟨hr, hno1⟩ => ?_) (fun k40 h40 => ?_))
  · refine Ev_jn1 (fun rr => RcN k f o rr ∧ ¬ EFp n 2 W) (fun rr ⟨hr, hno2⟩ => Ev_so ⟨hr, Or.inr ⟨rfl, fun m hm => ?_⟩⟩) (fun k109 h109 => ?_)
    · show ¬ CFp n m W
      rw [CF_EF hn2]
      rcases (show m = 0 ∨ m = 1 ∨ m = 2 by omega) with rfl | rfl | rfl
      · exact hA
      · exact hno1
      · exact hno2
    · refine Ev_jn1 (fun rr => RcN k f o rr ∧ EFp n 2 W) (fun rr ⟨hr, h2⟩ => Ev_so ⟨hr, Or.inl ⟨2, by omega, rfl, (CF_EF hn2 2 W).mpr h2, fun m hm => ?_⟩⟩) (fun k101 h101 => ?_)
      · show ¬ CFp n m W
        rw [CF_EF hn2]
        rcases (show m = 0 ∨ m = 1 by omega) with rfl | rfl
        · exact hA
        · exact hno1
      · refine Ev_fx2 (fun j a3 rr => a3 = nI j ∧ RcN k f o rr ∧ ∀ e, e < j → e % (n * n) / n < e % (n * n) % n → e / (n * n) / n < e / (n * n) % n → ¬ allS n (fun q => bhN n (e / (n * n)) (bhN n (e % (n * n)) (W q)))) (n * n * (n * n)) ?_ ?_ (FU_lt (by omega)) ⟨rfl, hr, fun e he => absurd he (by omega)⟩
        · rintro self j a3 rr hj ⟨rfl, hr, hno⟩ hself
          have q1 : j % (n * n) < n * n := Nat.mod_lt _ hn0'
          have q2 : j / (n * n) < n * n := Nat.div_lt_of_lt_mul hj
          have q3 : j % (n * n) % n < n := Nat.mod_lt _ (by omega)
          have q4 : j / (n * n) % n < n := Nat.mod_lt _ (by omega)
          have q5 : j % (n * n) / n ≤ j % (n * n) := Nat.div_le_self _ _
          have q6 : j / (n * n) / n ≤ j / (n * n) := Nat.div_le_self _ _
          have hnx : ∀ (P : Prop), (∀ e, e < j → e % (n * n) / n < e % (n * n) % n → e / (n * n) / n < e / (n * n) % n → ¬ allS n (fun q => bhN n (e / (n * n)) (bhN n (e % (n * n)) (W q)))) → (j % (n * n) / n < j % (n * n) % n → j / (n * n) / n < j / (n * n) % n → ¬ allS n (fun q => bhN n (j / (n * n)) (bhN n (j % (n * n)) (W q)))) → ∀ e, e < j + 1 → e % (n * n) / n < e % (n * n) % n → e / (n * n) / n < e / (n * n) % n → ¬ allS n (fun q => bhN n (e / (n * n)) (bhN n (e % (n * n)) (W q))) := fun _ h1 h2 e he => by
            by_cases e1 : e = j
            · rw [e1]; exact h2
            · exact h1 e (by omega)
          unfold L_L_finishes_42
          simp only [nmul, hn4e]
          rw [irmN (by omega) hn0' (by omega), ndiv (by omega) hn0' (by omega)]
          refine Ev_f (nle_n hj (by omega)) (Ev_nz (nI_ne0 hn0' (by omega)) (Ev_nm (Ev_nz (nI_ne0 hn0' (by omega)) (Ev_nm (Ev_nz (nI_ne0 (by omega) (by omega)) (Ev_nz (nI_ne0 (by omega) (by omega)) ?_))))))
          rw [irmN (by omega) (by omega) (by omega), ndiv (by omega) (by omega) (by omega), irmN (by omega) (by omega) (by omega), ndiv (by omega) (by omega) (by omega)]
          refine Ev_i (fun e => hself _ _ ⟨nI_add j 1, hr, hnx True hno (fun z => ?_)⟩) (fun e => Ev_nz (nI_ne0 (by omega) (by omega)) (Ev_nz (nI_ne0 (by omega) (by omega)) (Ev_i (fun e2 => hself _ _ ⟨nI_add j 1, hr, hnx True hno (fun _ z => ?_)⟩) (fun e2 => ?_))))
          · rw [nI_leI (by omega) (by omega)] at e
            omega
          · rw [nI_leI (by omega) (by omega)] at e2
            omega
          · rw [nI_leI (by omega) (by omega)] at e e2
            refine Ev_bd _ (r_done2 hG h5 hk22 hr hn0 hk1 q1 (by omega) q2 (by omega)) (fun y ⟨y1, y2⟩ => ?_)
            simp only [hWq] at y2
            rcases y2 with ⟨y2, y3⟩ | ⟨y2, y3⟩
            · rw [y2]
              refine Ev_f (by decide) (h101 _ ⟨y1, _, q1, _, q2, y3⟩)
            · exact Ev_t y2 (hself _ _ ⟨nI_add j 1, y1, hnx True hno (fun _ _ => y3)⟩)
        · rintro self a3 rr ⟨rfl, hr, hno⟩
          unfold L_L_finishes_42
          simp only [nmul, hn4e]
          refine Ev_t (Int32.le_refl _) (h109 _ ⟨hr, ?_⟩)
          rintro ⟨p, hp, p2, hp2, h⟩
          by_cases b1 : p / n < p % n
          · by_cases b2 : p2 / n < p2 % n
            · have hm1 : (p + n * n * p2) % (n * n) = p := by rw [Nat.add_mul_mod_self_left, Nat.mod_eq_of_lt hp]
              have hm2 : (p + n * n * p2) / (n * n) = p2 := by rw [Nat.add_mul_div_left _ _ hn0', Nat.div_eq_of_lt hp, Nat.zero_add]
              have hlt : p + n * n * p2 < n * n * (n * n) := by
                have := Nat.mul_le_mul_left (n * n) (show p2 + 1 ≤ n * n by omega)
                rw [Nat.mul_add, Nat.mul_one] at this
                omega
              have := hno _ hlt
              rw [hm1, hm2] at this
              exact this b1 b2 h
            · have h : allS n (fun q => bhN n p2 (bhN n p (W q))) := h
              simp only [bh_bad b2] at h
              exact hno1 ⟨p, hp, h⟩
          · have h : allS n (fun q => bhN n p2 (bhN n p (W q))) := h
            simp only [bh_bad b1] at h
            exact hno1 ⟨p2, hp2, h⟩
  · refine Ev_jn1 (fun rr => RcN k f o rr ∧ EFp n 1 W) (fun rr ⟨hr, h2⟩ => Ev_so ⟨hr, Or.inl ⟨1, by omega, rfl, (CF_EF hn2 1 W).mpr h2, fun m hm => ?_⟩⟩) (fun k32 h32 => ?_)
    · rw [show m = 0 by omega]; exact hA
    · refine Ev_fx2 (fun j a3 rr => a3 = nI j ∧ RcN k f o rr ∧ ∀ e, e < j → e / n < e % n → ¬ allS n (fun q => bhN n e (W q))) (n * n) ?_ ?_ (FU_lt (by omega)) ⟨rfl, hc, fun e he => absurd he (by omega)⟩
      · rintro self j a3 rr hj ⟨rfl, hr, hno⟩ hself
        have q3 : j % n < n := Nat.mod_lt _ (by omega)
        have q5 : j / n ≤ j := Nat.div_le_self _ _
        have hnx : (j / n < j % n → ¬ allS n (fun q => bhN n j (W q))) → ∀ e, e < j + 1 → e / n < e % n → ¬ allS n (fun q => bhN n e (W q)) := fun h2 e he => by
          by_cases e1 : e = j
          · rw [e1]; exact h2
          · exact hno e (by omega)
        unfold L_L_finishes_6
        simp only [nmul]
        refine Ev_f (nle_n hj (by omega)) (Ev_nz (nI_ne0 (by omega) (by omega)) (Ev_nz (nI_ne0 (by omega) (by omega)) ?_))
        rw [irmN (by omega) (by omega) (by omega), ndiv (by omega) (by omega) (by omega)]
        refine Ev_i (fun e => hself _ _ ⟨nI_add j 1, hr, hnx (fun z => ?_)⟩) (fun e => ?_)
        · rw [nI_leI (by omega) (by omega)] at e
          omega
        · rw [nI_leI (by omega) (by omega)] at e
          refine Ev_bd _ (r_done1 hG h5 hk22 hr hn0 hk1 hj (by omega)) (fun y ⟨y1, y2⟩ => ?_)
          simp only [hWq] at y2
          rcases y2 with ⟨y2, y3⟩ | ⟨y2, y3⟩
          · rw [y2]
            exact Ev_f (by decide) (h32 _ ⟨y1, _, hj, y3⟩)
          · exact Ev_t y2 (hself _ _ ⟨nI_add j 1, y1, hnx (fun _ => y3)⟩)
      · rintro self a3 rr ⟨rfl, hr, hno⟩
        unfold L_L_finishes_6
        simp only [nmul]
        refine Ev_t (Int32.le_refl _) (h40 _ ⟨hr, ?_⟩)
        rintro ⟨p, hp, h⟩
        by_cases b1 : p / n < p % n
        · exact hno p hp b1 h
        · have h : allS n (fun q => bhN n p (W q)) := h
          simp only [bh_bad b1] at h
          exact hA h
theorem r_done0 {n k : Nat} {f o : Nat → Nat} {rc r1 : Row} (hG : Good n k f o) (h5 : n ≤ 5) (hc : RcN k f o rc) (hn0 : r1 0 = nI n) (hk1 : r1 1 = nI k) : Ev (f_L_done (-1) (-1) rc r1) (fun y => RcN k f o y.2 ∧ ((y.1 = 1 ∧ allS n (fun q => netB f o 99 0 k (bR q))) ∨ (y.1 = 0 ∧ ¬ allS n (fun q => netB f o 99 0 k (bR q))))) := by
  unfold f_L_done
  rw [cl0, hn0, cl1, hk1]
  refine Ev_c0 (Ev_c1 (Ev_jn2 (fun K rr => K = nI k ∧ RcN k f o rr) (fun K rr ⟨e, hr⟩ => ?_) (fun kk hk => Ev_t (by decide) (hk _ _ ⟨rfl, hc⟩))))
  subst e
  refine Ev_t (by decide) (Ev_jn1 (fun z => (z = 1 ∧ allS n (fun q => netB f o 99 0 k (bR q))) ∨ (z = 0 ∧ ¬ allS n (fun q => netB f o 99 0 k (bR q)))) (fun z hz => ?_) (fun kk hk => r_done66 hG h5 hr (fun z hz => hk z hz)))
  exact Ev_ckz (by rcases hz with ⟨rfl, _⟩ | ⟨rfl, _⟩ <;> decide) (Ev_so ⟨hr, hz⟩)
