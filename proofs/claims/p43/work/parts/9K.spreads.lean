/-! P43: the law's own spreading over rows of up to four wires -/
def sumN (d : Nat → Nat) : Nat → Nat
  | 0 => 0
  | k + 1 => sumN d k + d k
theorem sum_congr {d e : Nat → Nat} : ∀ k, (∀ x, x < k → d x = e x) → sumN d k = sumN e k
  | 0, _ => rfl
  | k + 1, h => by
    show sumN d k + d k = sumN e k + e k
    rw [sum_congr k (fun x hx => h x (by omega)), h k (by omega)]
theorem sum_upd {d : Nat → Nat} {q y : Nat} (hy : y < d q) : ∀ k, q < k → sumN (updN d q y) k < sumN d k
  | 0, h => absurd h (by omega)
  | k + 1, h => by
    show sumN (updN d q y) k + updN d q y k < sumN d k + d k
    by_cases e : q = k
    · have h1 : sumN (updN d q y) k = sumN d k := sum_congr k (fun x hx => by unfold updN; rw [if_neg (by omega)])
      have h2 : updN d q y k = y := by unfold updN; rw [if_pos e.symm]
      rw [h1, h2, ← e]
      omega
    · have h1 := sum_upd hy k (by omega)
      have h2 : updN d q y k = d k := by unfold updN; rw [if_neg (fun z => e z.symm)]
      omega
theorem sum_le {d : Nat → Nat} : ∀ k, (∀ x, x < k → d x ≤ 99) → sumN d k ≤ 99 * k
  | 0, _ => Nat.le_refl _
  | k + 1, h => by
    show sumN d k + d k ≤ 99 * (k + 1)
    have := sum_le k (fun x hx => h x (by omega))
    have := h k (by omega)
    omega
/-- so far: what was laid is reached so -/
def JdN (st n : Nat) (d : Nat → Nat) : Prop := d 0 = 0 ∧ ∀ r, r < facN n → d r ≤ 99 ∧ (d r < 99 → stF st n (d r) r)
def rlx (st n : Nat) (d : Nat → Nat) (p e : Nat) : Prop := ∀ s, mvN st n e = some s → d (num n (fun x => rowT n p (s x))) ≤ d p + 1
theorem Jd_done {st n : Nat} {d : Nat → Nat} (hst : st < 4) (hn : n ≤ 6) (hn2 : 2 ≤ n) (hJ : JdN st n d) (hr : ∀ p, p < facN n → ∀ e, e < kdN st n → rlx st n d p e) : ∀ r, r < facN n → d r ≤ 45 ∧ ∀ e, stF st n e r ↔ d r ≤ e := by
  have hf : ∀ e r, r < facN n → stF st n e r → d r ≤ e := by
    intro e
    induction e with
    | zero =>
      intro r _ h
      have h : r = 0 := h
      rw [h, hJ.1]
      exact Nat.le_refl _
    | succ e ih =>
      intro r hr1 h
      rcases h with h | ⟨p, hp, hF, s, hs, hx⟩
      · have := ih r hr1 h; omega
      · obtain ⟨i, hi, hm⟩ := mv_all hst hn2 hn hs
        have a := ih p hp hF
        have b := hr p hp i hi s hm
        have c : num n (fun x => rowT n p (s x)) = r := by
          have := num_congr (n := n) (u := rowT n r) (v := fun x => rowT n p (s x)) hx
          rw [row_num hn hr1] at this
          exact this.symm
        rw [c] at b
        omega
  intro r hr1
  have h45 := hf 45 r hr1 (st_45 hst hn hr1)
  exact ⟨h45, fun e => ⟨hf e r hr1, fun h => stF_le ((hJ.2 r hr1).2 (by omega)) h⟩⟩
/-- a pass: nothing changed and all looked at is in order, or the sum has become less -/
def PasI (st n : Nat) (d0 d : Nat → Nat) (k e : Nat) (y : Int32) : Prop := (y = 0 ∧ (∀ x, x < facN n → d x = d0 x) ∧ ∀ p, p < facN n → ∀ i, i < kdN st n → (p < k ∨ (p = k ∧ i < e)) → rlx st n d p i) ∨ (y = 1 ∧ sumN d (facN n) < sumN d0 (facN n))
theorem r_spreads {n st : Nat} {z0 z1 : Row} (hn : n ≤ 4) (hn2 : 2 ≤ n) (hst : st < 4) : Ev (f_L_spreads (nI st) (nI n) z0 z1) (fun y => y.1 = nI (facN n) ∧ CdN n y.2.1 ∧ ∃ d, RwN (facN n) y.2.2 d ∧ ∀ r, r < facN n → d r ≤ 45 ∧ ∀ e, stF st n e r ↔ d r ≤ e) := by
  have hF := fac_le4 n (by omega)
  have hF0 := fac_pos n
  have hkd := kd_le (st := st) (show n ≤ 6 by omega)
  unfold f_L_spreads
  refine Ev_jn1 (fun p => RwN n p (rowT n 0)) (fun p hp => ?_) (fun kk hk => ?_)
  · refine Ev_jn4 (fun a c d p => a = nI (facN n) ∧ CdN n c ∧ RwN (facN n) d (fun x => if x = 0 then 0 else 99)) (fun a c d p ⟨e1, hc, hd⟩ => ?_) (fun kk hk => ?_)
    · subst e1
      refine Ev_jn2 (fun d p => ∃ d', RwN (facN n) d d' ∧ ∀ r, r < facN n → d' r ≤ 45 ∧ ∀ e, stF st n e r ↔ d' r ≤ e) (fun d p h => Ev_so ⟨rfl, hc, h⟩) (fun kk hk => ?_)
      have hJ0 : JdN st n (fun x => if x = 0 then 0 else 99) := ⟨rfl, fun r _ => by
        dsimp only
        by_cases e : r = 0
        · rw [if_pos e]; exact ⟨by omega, fun _ => e⟩
        · rw [if_neg e]; exact ⟨by omega, fun z => by omega⟩⟩
      have hs0 := sum_le (d := fun x => if x = 0 then 0 else 99) (facN n) (fun x _ => by split <;> omega)
      refine Ev_fx3 (fun j a7 d p => ∃ d', RwN (facN n) d d' ∧ JdN st n d' ∧ ((a7 = 1 ∧ sumN d' (facN n) + j ≤ 2376) ∨ (a7 = 0 ∧ ∀ p, p < facN n → ∀ e, e < kdN st n → rlx st n d' p e))) 2377 ?_ ?_ (FU_lt (by omega)) ⟨_, hd, hJ0, Or.inl ⟨rfl, by omega⟩⟩
      · rintro self j a7 d p hj ⟨d', hd, hJ, h | h⟩ hself
        · obtain ⟨rfl, hsum⟩ := h
          unfold L_L_spreads_81
          refine Ev_f (by decide) (Ev_jn3 (fun y dd p => ∃ d2, RwN (facN n) dd d2 ∧ JdN st n d2 ∧ PasI st n d' d2 (facN n) 0 y) (fun y dd p ⟨d2, g1, g2, g3⟩ => hself _ _ _ ⟨d2, g1, g2, ?_⟩) (fun k191 h191 => ?_))
          · rcases g3 with ⟨g3, _, g4⟩ | ⟨g3, g4⟩
            · exact Or.inr ⟨g3, fun p hp e he => g4 p hp e he (Or.inl hp)⟩
            · exact Or.inl ⟨g3, by omega⟩
          · refine Ev_fx4 (fun k y a8 dd p => a8 = nI k ∧ ∃ d2, RwN (facN n) dd d2 ∧ JdN st n d2 ∧ PasI st n d' d2 k 0 y) (facN n) ?_ ?_ (FU_lt (by omega)) ⟨rfl, d', hd, hJ, Or.inl ⟨rfl, fun _ _ => rfl, fun p _ i _ h => by omega⟩⟩
            · rintro self2 k y a8 dd p hk2 ⟨rfl, d2, g1, g2, g3⟩ hself2
              have hpm := row_perm (show n ≤ 6 by omega) hk2
              unfold L_L_spreads_92
              refine Ev_f (nle_n hk2 (by omega)) (Ev_jn3 (fun y dd p => ∃ d2, RwN (facN n) dd d2 ∧ JdN st n d2 ∧ PasI st n d' d2 (k + 1) 0 y) (fun y dd p h => hself2 _ _ _ _ ⟨nI_add k 1, h⟩) (fun k185 h185 => ?_))
              refine Ev_fx4 (fun e y a9 dd p => a9 = nI e ∧ ∃ d2, RwN (facN n) dd d2 ∧ JdN st n d2 ∧ PasI st n d' d2 k e y) (kdN st n) ?_ ?_ (FU_lt (by omega)) ⟨rfl, d2, g1, g2, g3⟩
              · rintro self3 e y a9 dd p he ⟨rfl, d2, g1, g2, g3⟩ hself3
                unfold L_L_spreads_102
                refine Ev_bde (r_steps (by omega) hn2 hst) (Ev_f (nle_n he (by omega)) (Ev_ck rfl (by omega) (by omega) ?_))
                rw [clN (by omega), hc k hk2, cdQ_row hk2]
                refine Ev_bd _ (r_lays (v := rowT n k) (by omega) (cd_small (by omega) hk2) (fun w hw => cd_dg (by omega) hn2 (fun x hx => by have := hpm.1 x hx; omega) hw)) (fun p1 hp1 => ?_)
                refine Ev_bd _ (r_moves (by omega) hn2 hst he hp1) (fun r hr => ?_)
                have hgk := g1 k hk2
                have hkk := (g2.2 k hk2).1
                rcases hr with ⟨r1, r2, r3⟩ | ⟨r1, s, r2, r3⟩
                · rw [r1]
                  refine Ev_jn1 (fun z => z = nI k) (fun z hz => ?_) (fun k151 h151 => Ev_t rfl (h151 _ rfl))
                  subst hz
                  rw [clN (by omega), hgk, n1, nI_add]
                  refine Ev_ck rfl (by omega) (by omega) (Ev_ck rfl (by omega) (by omega) (Ev_t (le_n (by omega) (by omega)) (hself3 _ _ _ _ ⟨nI_add e 1, d2, g1, g2, ?_⟩)))
                  rcases g3 with ⟨q1, q2, q3⟩ | q
                  · refine Or.inl ⟨q1, q2, fun p hp i hi h => ?_⟩
                    by_cases hpi : p = k ∧ i = e
                    · intro s hs
                      rw [hpi.2, r2] at hs
                      cases hs
                    · exact q3 p hp i hi (by omega)
                  · exact Or.inr q
                · rw [r1]
                  have hs := mv_in hst hn2 he r2
                  have hv2 := src_perm hs hpm
                  have hnl := num_lt' (show n ≤ 6 by omega) hv2
                  have hnr : ∀ x, x < n → rowT n (num n (fun x => rowT n k (s x))) x = rowT n k (s x) := fun x hx => num_row (by omega) hv2 hx
                  have hE : stE st n k (num n (fun x => rowT n k (s x))) := ⟨s, hs, hnr⟩
                  have hrl : ∀ d : Nat → Nat, d (num n (fun x => rowT n k (s x))) ≤ d k + 1 → rlx st n d k e := fun d h s2 hs2 => by
                    rw [r2] at hs2
                    cases hs2
                    exact h
                  have hcode : f_L_code (nI n) r.2 = some (nI (cdQ n (num n (fun x => rowT n k (s x))))) := by
                    rw [cdQ_row hnl]
                    exact r_code (by omega) hn2 (r3.congr (fun x hx => (hnr x hx).symm))
                  generalize num n (fun x => rowT n k (s x)) = q at hnl hE hrl hcode
                  refine Ev_jn1 (fun z => z = nI q) (fun z hz => ?_) (fun k151 h151 => Ev_f (by decide) (Ev_bde hcode (Ev_bde (r_placeOf hn hnl hc) (h151 _ rfl))))
                  subst hz
                  have hgq := g1 q hnl
                  have hqq := (g2.2 q hnl).1
                  rw [clN (by omega), hgk, hgq, n1]
                  simp only [nI_add]
                  refine Ev_ck rfl (by omega) (by omega) (Ev_ck rfl (by omega) (by omega) (Ev_i (fun z => hself3 _ _ _ _ ⟨rfl, d2, g1, g2, ?_⟩) (fun z => Ev_ck rfl (by omega) (by omega) (Ev_ck rfl (by omega) (by omega) (Ev_nm (hself3 _ _ _ _ ⟨rfl, updN d2 q (d2 k + 1), fun x hx => ?_, ⟨?_, fun r hr => ?_⟩, ?_⟩))))))
                  · rw [nI_leI (by omega) (by omega)] at z
                    rcases g3 with ⟨q1, q2, q3⟩ | q
                    · refine Or.inl ⟨q1, q2, fun p hp i hi h => ?_⟩
                      by_cases hpi : p = k ∧ i = e
                      · rw [hpi.1, hpi.2]; exact hrl d2 z
                      · exact q3 p hp i hi (by omega)
                    · exact Or.inr q
                  · unfold updN
                    by_cases x1 : x = q
                    · rw [x1, upd_s, if_pos rfl]
                    · rw [upd_n _ _ x1, if_neg x1]; exact g1 x hx
                  · rw [nI_leI (by omega) (by omega)] at z
                    unfold updN
                    rw [if_neg (fun h => by rw [← h, g2.1] at z; omega)]
                    exact g2.1
                  · rw [nI_leI (by omega) (by omega)] at z
                    unfold updN
                    by_cases x1 : r = q
                    · rw [x1, if_pos rfl]
                      exact ⟨by omega, fun _ => Or.inr ⟨k, hk2, (g2.2 k hk2).2 (by omega), hE⟩⟩
                    · rw [if_neg x1]; exact g2.2 r hr
                  · rw [nI_leI (by omega) (by omega)] at z
                    have h1 := sum_upd (d := d2) (q := q) (y := d2 k + 1) (by omega) (facN n) hnl
                    rcases g3 with ⟨q1, q2, q3⟩ | ⟨q1, q2⟩
                    · have h2 := sum_congr (facN n) q2
                      exact Or.inr ⟨rfl, by omega⟩
                    · exact Or.inr ⟨rfl, by omega⟩
              · rintro self3 y a9 dd p ⟨rfl, d2, g1, g2, g3⟩
                unfold L_L_spreads_102
                refine Ev_bde (r_steps (by omega) hn2 hst) (Ev_t (Int32.le_refl _) (h185 _ _ _ ⟨d2, g1, g2, ?_⟩))
                rcases g3 with ⟨q1, q2, q3⟩ | q
                · exact Or.inl ⟨q1, q2, fun p hp i hi h => q3 p hp i hi (by omega)⟩
                · exact Or.inr q
            · rintro self2 y a8 dd p ⟨rfl, h⟩
              unfold L_L_spreads_92
              exact Ev_t (Int32.le_refl _) (h191 _ _ _ h)
        · obtain ⟨rfl, hr⟩ := h
          unfold L_L_spreads_81
          exact Ev_t rfl (hk _ _ ⟨d', hd, Jd_done hst (by omega) hn2 hJ hr⟩)
      · rintro self a7 d p ⟨d', hd, hJ, h | h⟩
        · omega
        · obtain ⟨rfl, hr⟩ := h
          unfold L_L_spreads_81
          exact Ev_t rfl (hk _ _ ⟨d', hd, Jd_done hst (by omega) hn2 hJ hr⟩)
    · refine Ev_fx5 (fun k a5 a6 c d p => a5 = nI k ∧ (k < facN n → a6 = 1 ∧ RwN n p (rowT n k)) ∧ (k = facN n → a6 = 0) ∧ (∀ x, x < k → c x = nI (cdQ n x)) ∧ RwN k d (fun x => if x = 0 then 0 else 99)) (facN n) ?_ ?_ (FU_lt (by omega)) ⟨rfl, fun _ => ⟨rfl, hp⟩, fun h => by omega, fun x hx => absurd hx (by omega), RwN.zero⟩
      · rintro self k a5 a6 c d p hk2 ⟨rfl, h1, h2, h3, h4⟩ hself
        obtain ⟨rfl, hp⟩ := h1 hk2
        unfold L_L_spreads_34
        refine Ev_f (by decide) (Ev_bde (r_code (by omega) hn2 hp) (Ev_ck rfl (by omega) (by omega) (Ev_nm (Ev_jn1 (fun z => z = nI (if k = 0 then 0 else 99)) (fun z hz => ?_) (fun k63 h63 => ?_)))))
        · subst hz
          rw [clN (by omega)]
          refine Ev_ck rfl (by omega) (by omega) (Ev_nm (Ev_bd _ (r_next (by omega) hn2 hk2 hp) (fun y ⟨q1, q2⟩ => hself _ _ _ _ _ ⟨nI_add k 1, q1, q2, fun x hx => ?_, h4.put rfl⟩)))
          by_cases x1 : x = k
          · rw [x1, upd_s, cdQ_row hk2]
          · rw [upd_n _ _ x1]; exact h3 x (by omega)
        · rw [show (0 : Int32) = nI 0 from rfl]
          refine Ev_i (fun z => h63 _ ?_) (fun z => h63 _ ?_)
          · rw [neqI (by omega) (by omega)] at z; rw [if_pos z]
          · rw [neqI (by omega) (by omega)] at z; rw [if_neg z]; rfl
      · rintro self a5 a6 c d p ⟨rfl, h1, h2, h3, h4⟩
        rw [h2 rfl]
        unfold L_L_spreads_34
        exact Ev_t rfl (hk _ _ _ _ ⟨rfl, h3, h4⟩)
  · refine Ev_fx2 (fun j a1 p => a1 = nI j ∧ RwN j p (fun x => x)) n ?_ ?_ (FU_lt (by omega)) ⟨rfl, RwN.zero⟩
    · rintro self j a1 p hj ⟨rfl, hp⟩ hself
      unfold L_L_spreads_9
      rw [clN (by omega)]
      exact Ev_f (nle_n hj (by omega)) (Ev_ck rfl (by omega) (by omega) (Ev_nm (hself _ _ ⟨nI_add j 1, hp.put rfl⟩)))
    · rintro self a1 p ⟨rfl, hp⟩
      unfold L_L_spreads_9
      exact Ev_t (Int32.le_refl _) (hk _ (hp.row0 (by omega)))
