/-! CASE finishes -/
def allS (n : Nat) (W : Nat → Nat → Bool) : Prop := ∀ q, q < 2 ^ n → unsB n (W q) = false
def ntr (n a b : Nat) (W : Nat → Nat → Bool) : Prop := ∃ q, q < 2 ^ n ∧ W q a = true ∧ W q b = false
def CFp (n : Nat) : Nat → (Nat → Nat → Bool) → Prop
  | 0, W => allS n W
  | m + 1, W => allS n W ∨ ∃ a b, a < b ∧ b < n ∧ ntr n a b W ∧ CFp n m (fun q => cmpB a b (W q))
def bhN (n p : Nat) (V : Nat → Bool) : Nat → Bool := if p / n < p % n then cmpB (p / n) (p % n) V else V
def EFp (n : Nat) : Nat → (Nat → Nat → Bool) → Prop
  | 0, W => allS n W
  | m + 1, W => ∃ p, p < n * n ∧ EFp n m (fun q => bhN n p (W q))
theorem allS_congr {n : Nat} {W U : Nat → Nat → Bool} (h : ∀ q, q < 2 ^ n → ∀ x, x < n → W q x = U q x) (hW : allS n W) : allS n U := fun q hq => by
  rw [← uns_congr (h q hq)]; exact hW q hq
theorem CF_congr {n : Nat} : ∀ (m : Nat) (W U : Nat → Nat → Bool), (∀ q, q < 2 ^ n → ∀ x, x < n → W q x = U q x) → CFp n m W → CFp n m U
  | 0, _, _, h, hW => allS_congr h hW
  | m + 1, W, U, h, hW => by
    rcases hW with hW | ⟨a, b, hab, hb, ⟨q, hq, h1, h2⟩, h3⟩
    · exact Or.inl (allS_congr h hW)
    · refine Or.inr ⟨a, b, hab, hb, ⟨q, hq, by rw [← h q hq a (by omega)]; exact h1, by rw [← h q hq b hb]; exact h2⟩, CF_congr m _ _ (fun q hq => cmpB_congr (by omega) hb (h q hq)) h3⟩
theorem CF_mono {n : Nat} : ∀ (m : Nat) (W : Nat → Nat → Bool), CFp n m W → CFp n (m + 1) W
  | 0, _, h => Or.inl h
  | m + 1, W, h => by
    rcases h with h | ⟨a, b, h1, h2, h3, h4⟩
    · exact Or.inl h
    · exact Or.inr ⟨a, b, h1, h2, h3, CF_mono m _ h4⟩
theorem bh_0 {n : Nat} {V : Nat → Bool} : bhN n 0 V = V := by
  unfold bhN
  rw [Nat.zero_div, Nat.zero_mod, if_neg (by omega)]
theorem EF_sorted {n : Nat} (hn : 2 ≤ n) : ∀ (m : Nat) (W : Nat → Nat → Bool), allS n W → EFp n m W
  | 0, _, h => h
  | m + 1, W, h => ⟨0, Nat.mul_pos (by omega) (by omega), by
    have : (fun q => bhN n 0 (W q)) = W := by funext q; exact bh_0
    rw [this]; exact EF_sorted hn m W h⟩
theorem CF_EF {n : Nat} (hn : 2 ≤ n) : ∀ (m : Nat) (W : Nat → Nat → Bool), CFp n m W ↔ EFp n m W
  | 0, _ => Iff.rfl
  | m + 1, W => by
    constructor
    · rintro (h | ⟨a, b, h1, h2, h3, h4⟩)
      · exact EF_sorted hn (m + 1) W h
      · have e1 : (n * a + b) / n = a := by rw [Nat.mul_add_div (by omega), Nat.div_eq_of_lt h2, Nat.add_zero]
        have e2 : (n * a + b) % n = b := by rw [Nat.mul_add_mod]; exact Nat.mod_eq_of_lt h2
        refine ⟨n * a + b, ?_, ?_⟩
        · have := Nat.mul_le_mul_left n (show a + 1 ≤ n by omega)
          rw [Nat.mul_add n a 1] at this
          omega
        · have : (fun q => bhN n (n * a + b) (W q)) = (fun q => cmpB a b (W q)) := by
            funext q
            unfold bhN
            rw [e1, e2, if_pos h1]
          rw [this]
          exact (CF_EF hn m _).mp h4
    · rintro ⟨p, hp, h⟩
      have ih := (CF_EF hn m _).mpr h
      have hb : p % n < n := Nat.mod_lt _ (by omega)
      by_cases hc : p / n < p % n
      · have e : (fun q => bhN n p (W q)) = (fun q => cmpB (p / n) (p % n) (W q)) := by
          funext q
          unfold bhN
          rw [if_pos hc]
        rw [e] at ih
        by_cases ht : ntr n (p / n) (p % n) W
        · exact Or.inr ⟨_, _, hc, hb, ht, ih⟩
        · refine CF_mono m W (CF_congr m _ _ (fun q hq x hx => ?_) ih)
          exact cmp_same (fun z => ht ⟨q, hq, z.1, z.2⟩) x
      · have e : (fun q => bhN n p (W q)) = W := by
          funext q
          unfold bhN
          rw [if_neg hc]
        rw [e] at ih
        exact CF_mono m W ih
theorem unsAll {n : Nat} {h : Hp} {W : Nat → Nat → Bool} (hn : n ≤ 6) (hn2 : 2 ≤ n) (hV : ColsN 14 n h W) : Ev (f_X4_unsortedIn_14 h (nI n)) (fun z => lg_cmp z 0 = 0 ↔ allS n W) :=
  Ev_mono (s_unsortedIn_14 hn hn2 hV) (fun z hz => by rw [lg_eq]; exact hz.z hn)
theorem C_canFinish {n : Nat} (hn : n ≤ 6) (hn2 : 2 ≤ n) : ∀ (m d : Nat) (h : Hp) (W : Nat → Nat → Bool), m < d → m < 10 → ColsN 14 n h W → Ev (f_X4_canFinish_14 d h (nI n) (nI m)) (fun r => r.1 = pI (CFp n m W) ∧ ColsN 14 n r.2 W ∧ Sm [14] h r.2 ∧ r.2.1 = h.1)
  | 0, d, h, W, hd, _, hV => by
    obtain ⟨d, rfl⟩ : ∃ d', d = d' + 1 := ⟨d - 1, by omega⟩
    show Ev (bd (f_X4_unsortedIn_14 h (nI n)) _) _
    refine Ev_bd _ (unsAll hn hn2 hV) (fun z hz => Ev_i (fun e => Ev_ckz (Or.inr rfl) (Ev_so ⟨(pI_t (hz.mp e)).symm, hV, Sm.rf, rfl⟩)) (fun e => Ev_f (by decide) (Ev_ckz (Or.inl rfl) (Ev_so ⟨(pI_f (fun q => e (hz.mpr q))).symm, hV, Sm.rf, rfl⟩))))
  | m + 1, d, h, W, hd, hm, hV => by
    obtain ⟨d, rfl⟩ : ∃ d', d = d' + 1 := ⟨d - 1, by omega⟩
    have ih := C_canFinish hn hn2 m d
    show Ev (bd (f_X4_unsortedIn_14 h (nI n)) _) _
    refine Ev_bd _ (unsAll hn hn2 hV) (fun z hz => Ev_i (fun e => Ev_ckz (Or.inr rfl) (Ev_so ⟨(pI_t (Or.inl (hz.mp e))).symm, hV, Sm.rf, rfl⟩)) (fun e => Ev_t (by rw [show (0 : Int32) = nI 0 from rfl, nI_ltI (by omega) (by omega)]; omega) ?_))
    have hns : ¬ allS n W := fun q => e (hz.mpr q)
    let Q : Nat → Nat → Prop := fun a b => ntr n a b W ∧ CFp n m (fun q => cmpB a b (W q))
    refine Ev_jn2 (fun y h1 => y = pI (∃ a b, a < b ∧ b < n ∧ Q a b) ∧ ColsN 14 n h1 W ∧ Sm [14] h h1 ∧ h1.1 = h.1) (fun y h1 ⟨p1, p2, p3, p4⟩ => Ev_ckz (by rw [p1]; exact pI_01 _) (Ev_so ⟨?_, p2, p3, p4⟩)) (fun k116 hk => ?_)
    · rw [p1]
      exact pI_iff ⟨fun q => Or.inr q, fun q => q.resolve_left hns⟩
    · refine Ev_fx3 (fun a a1 a2 h1 => a2 = nI a ∧ a1 = pI (∃ a' b, a' < a ∧ a' < b ∧ b < n ∧ Q a' b) ∧ ColsN 14 n h1 W ∧ Sm [14] h h1 ∧ h1.1 = h.1) n ?_ ?_ (FU_lt (by omega)) ⟨rfl, (pI_f (fun ⟨a', b, z, _⟩ => absurd z (by omega))).symm, hV, Sm.rf, rfl⟩
      · rintro self a a1 a2 h1 ha ⟨rfl, e1, hV1, hS1, he1⟩ hself
        unfold L_X4_canFinish_14_23
        refine Ev_f (nle_n ha (by omega)) ?_
        by_cases hq : ∃ a' b, a' < a ∧ a' < b ∧ b < n ∧ Q a' b
        · rw [pI_t hq] at e1
          refine Ev_f (by rw [e1]; decide) (hk _ _ ⟨?_, hV1, hS1, he1⟩)
          obtain ⟨a', b, z1, z2, z3, z4⟩ := hq
          rw [e1, pI_t ⟨a', b, z2, z3, z4⟩]
        · rw [pI_f hq] at e1
          subst e1
          rw [n1, nI_add]
          refine Ev_t rfl (Ev_nm (Ev_jn2 (fun y h1 => y = pI (∃ b, a < b ∧ b < n ∧ Q a b) ∧ ColsN 14 n h1 W ∧ Sm [14] h h1 ∧ h1.1 = h.1) (fun y h2 ⟨p1, p2, p3, p4⟩ => hself _ _ _ ⟨rfl, ?_, p2, p3, p4⟩) (fun k110 hk2 => ?_)))
          · rw [p1]
            refine pI_iff ⟨fun ⟨b, z1, z2, z3⟩ => ⟨a, b, by omega, z1, z2, z3⟩, ?_⟩
            rintro ⟨a', b, z1, z2, z3, z4⟩
            by_cases e2 : a' = a
            · rw [e2] at z2 z4; exact ⟨b, z2, z3, z4⟩
            · exact absurd ⟨a', b, by omega, z2, z3, z4⟩ hq
          · refine Ev_fx3 (fun i a1 a2 h1 => a2 = nI (a + 1 + i) ∧ a1 = pI (∃ b, a < b ∧ b < a + 1 + i ∧ Q a b) ∧ ColsN 14 n h1 W ∧ Sm [14] h h1 ∧ h1.1 = h.1) (n - 1 - a) ?_ ?_ (FU_lt (by omega)) ⟨rfl, (pI_f (fun ⟨b, z1, z2, _⟩ => absurd z1 (by omega))).symm, hV1, hS1, he1⟩
            · rintro self2 i b1 b2 h2 hi ⟨rfl, e2, hV2, hS2, he2⟩ hself2
              generalize hb : a + 1 + i = b at e2 hself2 ⊢
              have hbn : b < n := by omega
              unfold L_X4_canFinish_14_39
              refine Ev_f (nle_n hbn (by omega)) ?_
              have hnext : a + 1 + (i + 1) = b + 1 := by omega
              rw [hnext] at hself2
              by_cases hq2 : ∃ b', a < b' ∧ b' < b ∧ Q a b'
              · rw [pI_t hq2] at e2
                refine Ev_f (by rw [e2]; decide) (hk2 _ _ ⟨?_, hV2, hS2, he2⟩)
                obtain ⟨b', z1, z2, z3⟩ := hq2
                rw [e2, pI_t ⟨b', z1, by omega, z3⟩]
              · rw [pI_f hq2] at e2
                subst e2
                have hnx : ∀ P : Prop, (P ↔ Q a b) → ((∃ b', a < b' ∧ b' < b + 1 ∧ Q a b') ↔ P) := fun P hP => by
                  rw [hP]
                  constructor
                  · rintro ⟨b', z1, z2, z3⟩
                    by_cases e3 : b' = b
                    · rw [e3] at z3; exact z3
                    · exact absurd ⟨b', z1, by omega, z3⟩ hq2
                  · intro z; exact ⟨b, by omega, by omega, z⟩
                refine Ev_t rfl (Ev_ck rfl (by omega) (by omega) (Ev_ck rfl (by omega) (by omega) ?_))
                rw [clN (by omega), clN (by omega)]
                have hcol : ColN n (h2.2 14 a &&& (h2.2 14 b ^^^ (-1 : Int64))) (fun q => W q a && !W q b) := by
                  intro r hr
                  rw [bt_and, bt_not _ hr, hV2 a (by omega) r hr, hV2 b hbn r hr]
                  cases decide (r < 2 ^ n) <;> simp
                have htr : lg_cmp (h2.2 14 a &&& (h2.2 14 b ^^^ (-1 : Int64))) 0 = 0 ↔ ¬ ntr n a b W := by
                  rw [lg_eq, hcol.z hn]
                  constructor
                  · rintro h ⟨q, hq, z1, z2⟩
                    have := h q hq
                    rw [z1, z2] at this; cases this
                  · intro h q hq
                    cases e3 : W q a with
                    | false => rfl
                    | true =>
                      cases e4 : W q b with
                      | true => rfl
                      | false => exact absurd ⟨q, hq, e3, e4⟩ h
                refine Ev_i (fun z => hself2 _ _ _ ⟨nI_add _ 1, ?_, hV2, hS2, he2⟩) (fun z => ?_)
                · have hnq : ¬ Q a b := fun y => (htr.mp z) y.1
                  rw [pI_f (fun y => hnq ((hnx (Q a b) Iff.rfl).mp y))]
                · have hnt : ntr n a b W := Classical.byContradiction (fun y => z (htr.mpr y))
                  refine Ev_bd _ (s_compare_14 hn (show a < n by omega) hbn (by omega) hV2) (fun h3 ⟨q1, q2, q3⟩ => ?_)
                  rw [n1, nsub (by omega), Nat.add_sub_cancel]
                  refine Ev_bd _ (ih h3 _ (by omega) (by omega) q3) (fun r10 ⟨t1, t2, t3, t4⟩ => ?_)
                  refine Ev_ck rfl (by omega) (by omega) (Ev_nm (Ev_ck rfl (by omega) (by omega) (Ev_nm (hself2 _ _ _ ⟨nI_add _ 1, ?_, fun x hx r hr => ?_, ((hS2.tr q1).tr t3).sL (by decide) |>.sL (by decide), ?_⟩))))
                  · rw [t1]
                    exact pI_iff ((hnx (CFp n m (fun q => cmpB a b (W q))) ⟨fun y => ⟨hnt, y⟩, fun y => y.2⟩).symm)
                  · rw [wLg_1, wLg_1, clN (by omega), clN (by omega)]
                    by_cases e5 : x = b
                    · rw [e5, updL_s]; exact hV2 b hbn r hr
                    · rw [updL_n _ _ e5]
                      by_cases e6 : x = a
                      · rw [e6, updL_s]; exact hV2 a (by omega) r hr
                      · rw [updL_n _ _ e6]
                        have := t2 x hx r hr
                        rw [this]
                        show (decide (r < 2 ^ n) && cmpB a b (W r) x) = (decide (r < 2 ^ n) && W r x)
                        unfold cmpB
                        rw [if_neg e6, if_neg e5]
                  · show r10.2.1 = h.1
                    rw [t4, q2, he2]
            · rintro self2 b1 b2 h2 ⟨rfl, e2, hV2, hS2, he2⟩
              unfold L_X4_canFinish_14_39
              refine Ev_t (le_n (by omega) (by omega)) (hk2 _ _ ⟨?_, hV2, hS2, he2⟩)
              rw [e2]
              exact pI_iff ⟨fun ⟨b, z1, z2, z3⟩ => ⟨b, z1, by omega, z3⟩, fun ⟨b, z1, z2, z3⟩ => ⟨b, z1, by omega, z3⟩⟩
      · rintro self a1 a2 h1 ⟨rfl, e1, hV1, hS1, he1⟩
        unfold L_X4_canFinish_14_23
        refine Ev_t (Int32.le_refl _) (hk _ _ ⟨?_, hV1, hS1, he1⟩)
        rw [e1]
        exact pI_iff ⟨fun ⟨a', b, z1, z2, z3, z4⟩ => ⟨a', b, z2, z3, z4⟩, fun ⟨a', b, z2, z3, z4⟩ => ⟨a', b, by omega, z2, z3, z4⟩⟩
/-- the least so many, if not more than most -/
def lstK (P : Nat → Prop) (most : Nat) (y : Int32) : Prop := (∃ k, k ≤ most ∧ y = nI k ∧ P k ∧ ∀ k', k' < k → ¬ P k') ∨ (y = -1 ∧ ∀ k, k ≤ most → ¬ P k)
theorem lstK.uniq {P P2 : Nat → Prop} {most : Nat} {y z : Int32} (h1 : lstK P most y) (h2 : lstK P2 most z) (h : ∀ k, k ≤ most → (P k ↔ P2 k)) : y = z := by
  rcases h1 with ⟨k, a1, rfl, a2, a3⟩ | ⟨rfl, a1⟩
  · rcases h2 with ⟨k2, b1, rfl, b2, b3⟩ | ⟨rfl, b1⟩
    · have : k = k2 := by
        by_cases e : k < k2
        · exact absurd ((h k a1).mp a2) (b3 k e)
        · by_cases e2 : k2 < k
          · exact absurd ((h k2 b1).mpr b2) (a3 k2 e2)
          · omega
      rw [this]
    · exact absurd ((h k a1).mp a2) (b1 k a1)
  · rcases h2 with ⟨k2, b1, rfl, b2, b3⟩ | ⟨rfl, b1⟩
    · exact absurd ((h k2 b1).mpr b2) (a1 k2 b1)
    · rfl
theorem C_missing {n k most : Nat} {f o : Nat → Nat} {c : Hp} (hG : Good n k f o) (hC : NetC n k f o c) (hm : most ≤ 3) : Ev (f_X4_missing_13_1 c (nI most)) (fun r => lstK (fun m => CFp n m (fun q => netB f o 99 0 k (bR q))) most r.1 ∧ Sm [14] c r.2) := by
  have hn := hG.2.1
  have hn2 := hG.1
  unfold f_X4_missing_13_1
  rw [hC.2.1]
  refine Ev_bd _ (s_send_14 (sp := 99) (md := 0) hG hC (Nat.le_refl k) (by have := hG.2.2.1; omega)) (fun h0 ⟨hS0, he0, hV0⟩ => ?_)
  generalize hW : (fun q => netB f o 99 0 k (bR q)) = W at hV0 ⊢
  refine Ev_jn1 (fun h1 => (∀ m, m ≤ most → ¬ CFp n m W) ∧ Sm [14] c h1) (fun h1 ⟨a1, a2⟩ => Ev_so ⟨Or.inr ⟨rfl, a1⟩, a2⟩) (fun k42 h42 => Ev_jn2 (fun y h1 => lstK (fun m => CFp n m W) most y ∧ Sm [14] c h1) (fun y h1 hh => Ev_so hh) (fun k34 h34 => ?_))
  refine Ev_fx2 (fun m a1 h1 => a1 = nI m ∧ (∀ m', m' < m → ¬ CFp n m' W) ∧ ColsN 14 n h1 W ∧ Sm [14] c h1 ∧ h1.1 = c.1) (most + 1) ?_ ?_ (FU_lt (by omega)) ⟨rfl, fun m' hm' => absurd hm' (by omega), hV0, hS0, he0⟩
  · rintro self m a1 h1 hmm ⟨rfl, hno, hV1, hS1, he1⟩ hself
    unfold L_X4_missing_13_1_14
    rw [he1, hC.1]
    refine Ev_f (by rw [nI_ltI (by omega) (by omega)]; omega) (Ev_bd _ (C_canFinish hn hn2 m 8 h1 W (by omega) (by omega) hV1) (fun r ⟨p1, p2, p3, p4⟩ => ?_))
    by_cases hc : CFp n m W
    · rw [pI_t hc] at p1
      exact Ev_f (by rw [p1]; decide) (h34 _ _ ⟨Or.inl ⟨m, by omega, rfl, hc, hno⟩, hS1.tr p3⟩)
    · rw [pI_f hc] at p1
      refine Ev_t p1 (hself _ _ ⟨nI_add m 1, fun m' hm' => ?_, p2, hS1.tr p3, by rw [p4, he1]⟩)
      by_cases e : m' = m
      · rw [e]; exact hc
      · exact hno m' (by omega)
  · rintro self a1 h1 ⟨rfl, hno, hV1, hS1, he1⟩
    unfold L_X4_missing_13_1_14
    exact Ev_t (nI_lt (by omega) (by omega)) (h42 _ ⟨fun m hm => hno m (by omega), hS1⟩)
