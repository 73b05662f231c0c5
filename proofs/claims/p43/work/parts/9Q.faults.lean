/-! P43: the law's faults, held against the class -/
def spJ (j : Nat) : Nat := if j = 0 then 99 else j - 1
theorem spJ_I {j : Nat} (hj : j ≤ 24) : SpI (nI j + (-1 : Int32)) (spJ j) := by
  unfold spJ
  split
  · rename_i h
    rw [h]
    exact SpI.m
  · rename_i h
    obtain ⟨m, rfl⟩ : ∃ m, j = m + 1 := ⟨j - 1, by omega⟩
    rw [nI_mq, Nat.add_sub_cancel]
    exact SpI.n (by omega)
theorem spJ_le {j k : Nat} (hk : k < 2 ^ 20) (hj : j < 2 ^ 20) : (nI k ≤ nI j + (-1 : Int32)) ↔ k + 1 ≤ j := by
  by_cases h : j = 0
  · rw [h]
    constructor
    · intro z
      exact absurd (Int32.le_trans (nI_pos' (show k < 2 ^ 31 by omega)) z) nI_negq.1
    · intro z; omega
  · obtain ⟨m, rfl⟩ : ∃ m, j = m + 1 := ⟨j - 1, by omega⟩
    rw [nI_mq, nI_leI (by omega) (by omega)]
    omega
theorem srt_up {n : Nat} {V : Nat → Bool} : (if unsB n V = true then (0 : Int32) else 1) = 0 ↔ unsB n V = true := by
  by_cases h : unsB n V = true
  · rw [if_pos h]; exact ⟨fun _ => h, fun _ => rfl⟩
  · rw [if_neg h]; exact ⟨fun z => absurd z (by decide), fun z => absurd z h⟩
theorem pI_same {p q : Prop} (h : p ↔ q) : pI p = pI q := by rw [propext h]
theorem r_faults {n k : Nat} {f o : Nat → Nat} {c : Hp} {x1 : Int32} {r0 r1 : Row} (hG : Good n k f o) (h5 : n ≤ 5) (hC : NetC n k f o c) (hc : RcN k f o r0) (hn0 : r1 0 = nI n) (hk1 : r1 1 = nI k) : Ev (f_L_faults x1 c r0 r1) (fun y => y.1 = 1 ∧ Sm [14, 15, 18, 19] c y.2) := by
  have hn2 := hG.1
  have hk24 := hG.2.2.1
  have hpw : 2 ^ n ≤ 2 ^ 5 := Nat.pow_le_pow_right (by omega) h5
  unfold f_L_faults
  rw [cl0, hn0, cl1, hk1]
  refine Ev_c0 (Ev_nm ?_)
  generalize i2l x1 * (173961102589770 : Int64) = z
  refine Ev_jn1 (fun a => a = nI (ctB (hidB n k f o z) (3 * k))) (fun a ha => ?_) (fun kk hk => ?_)
  · subst ha
    refine Ev_jn1 (fun a => a = pI (srt n k f o 99 0 ∧ ∀ sp, sp < k → srt n k f o sp 0)) (fun a8 ha8 => ?_) (fun kk hk => ?_)
    · refine Ev_bd _ (C_hidden hG hC (z := z)) (fun r4 ⟨s4, e4⟩ => ?_)
      have hC4 := s4.nC hC (by decide) (by decide) (by decide)
      refine Ev_jn2 (fun a h => a = 1 ∧ Sm [14, 15, 18, 19] c h) (fun z6 h7 ⟨e6, s7⟩ => ?_) (fun k188 h188 => ?_)
      · subst e6
        have hC7 := s7.nC hC (by decide) (by decide) (by decide)
        have ek : (nI k = 0) = (k = 0) := nI_iff (b := 0) (by omega) (by omega)
        simp only [ek]
        refine Ev_c1 (Ev_i (fun e => Ev_ckz (Or.inr rfl) (Ev_so ⟨rfl, s7⟩)) (fun e => Ev_f (by decide) (Ev_c1 (Ev_bd _ (r_low (by omega) (by omega)) (fun r8 ⟨sp, hsp, e8⟩ => ?_)))))
        refine Ev_bd _ (r_low (n := 3) (by omega) (by omega)) (fun r10 ⟨md, hmd, e10⟩ => ?_)
        subst e8 e10
        refine Ev_jn1 (fun a => a = nI (ctB (fun r => unsB n (netB f o sp md k (bR r))) (2 ^ n))) (fun a ha => ?_) (fun kk hk => ?_)
        · subst ha
          refine Ev_hc (fun b : Int32 × Hp => b.1 = nI (ctB (fun r => unsB n (netB f o sp md k (bR r))) (2 ^ n)) ∧ Sm [14] h7 b.2) ?_ (fun b ⟨b1, b2⟩ => ?_)
          · exact Ev_mono (C_bad_t hG hC7 hsp (by omega)) (fun r ⟨c1, h1, h2⟩ => ⟨_, h1, rfl, h2⟩)
          · have hCb := b2.nC hC7 (by decide) (by decide) (by decide)
            refine Ev_t b1 (Ev_hc (fun b2 : Int64 × Hp => ColN n b2.1 (tellP n k f o sp md) ∧ Sm [14, 15] b.2 b2.2) ?_ (fun d ⟨d1, d2⟩ => ?_))
            · exact Ev_mono (C_tells_t hG hCb hsp (by omega)) (fun r ⟨z, c1, h1, h2, h3⟩ => ⟨_, h1, h3, h2⟩)
            · refine Ev_bd _ (r_telling hG h5 hc hn0 hk1 (SpI.n (show sp < 2 ^ 31 by omega)) (show md ≤ 2 by omega)) (fun w hw => Ev_t (lg_eq.mpr (d1.eq hw (fun _ _ => rfl))) (Ev_ckz (Or.inr rfl) (Ev_so ⟨rfl, ?_⟩)))
              exact (s7.tr (b2.mono (by decide))).tr (d2.mono (by decide))
        · refine Ev_fx2 (fun j a a13 => a13 = nI j ∧ a = nI (ctB (fun r => unsB n (netB f o sp md k (bR r))) j)) (2 ^ n) ?_ ?_ (FU_lt (by omega)) ⟨rfl, rfl⟩
          · rintro self j a a13 hj ⟨rfl, rfl⟩ hself
            unfold L_L_faults_228
            rw [shl1 (by omega), cl1, hk1]
            refine Ev_f (nle_n hj (by omega)) (Ev_c1 (Ev_bd _ (r_out hG h5 hc (Nat.le_refl k) hj (SpI.n (show sp < 2 ^ 31 by omega)) (by omega)) (fun y hy => Ev_bde (r_upr h5 (by omega) hy) ?_)))
            refine Ev_i (fun e => Ev_nm (hself _ _ ⟨nI_add j 1, ?_⟩)) (fun e => Ev_nm (hself _ _ ⟨nI_add j 1, ?_⟩))
            · exact (ct_t (p := fun r => unsB n (netB f o sp md k (bR r))) (srt_up.mp e)).symm
            · rw [Int32.add_zero]
              exact (ct_f (p := fun r => unsB n (netB f o sp md k (bR r))) (fun z => e (srt_up.mpr z))).symm
          · rintro self a a13 ⟨rfl, rfl⟩
            unfold L_L_faults_228
            rw [shl1 (by omega)]
            exact Ev_t (Int32.le_refl _) (hk _ rfl)
      · refine Ev_jn1 (fun _ => False) (fun _ h => h.elim) (fun k187 h187 => Ev_t e4 (Ev_bd _ (C_bears hG hC4) (fun r26 ⟨s26, e26⟩ => Ev_t (e26.trans ha8.symm) ?_)))
        have hC26 := s26.nC hC4 (by decide) (by decide) (by decide)
        have s26' : Sm [14, 15, 18, 19] c r26.2 := (s4.mono (by decide)).tr (s26.mono (by decide))
        refine Ev_jn1 (fun h => Sm [14, 15, 18, 19] c h) (fun h hh => h188 _ _ ⟨rfl, hh⟩) (fun k183 h183 => Ev_i (fun e => h183 _ s26') (fun e3 => Ev_c1 (Ev_i (fun e => h183 _ s26') (fun e => ?_))))
        rw [n3, Int32.not_lt, nI_leI (by omega) (by omega)] at e3
        refine Ev_bd _ (C_tests hG hC26) (fun r29 ⟨t1, t2⟩ => Ev_bd _ (r_tests hG e3 hc hn0 hk1) (fun y hy => Ev_t (t1.uniq hy (fun _ _ => Iff.rfl)) (h183 _ (s26'.tr t2))))
    · refine Ev_fx2 (fun j a8 a9 => a9 = nI j ∧ a8 = pI (∀ r, r < j → ∀ i, i ≤ k → unsB n (netB f o (spJ i) 0 k (bR r)) = false)) (2 ^ n) ?_ ?_ (FU_lt (by omega)) ⟨rfl, (pI_t (fun r hr => absurd hr (by omega))).symm⟩
      · rintro self j a8 a9 hj ⟨rfl, ha8⟩ hself
        unfold L_L_faults_72
        rw [shl1 (by omega)]
        refine Ev_f (nle_n hj (by omega)) (Ev_jn1 (fun a => a = pI (∀ r, r < j + 1 → ∀ i, i ≤ k → unsB n (netB f o (spJ i) 0 k (bR r)) = false)) (fun a ha => hself _ _ ⟨nI_add j 1, ha⟩) (fun k131 h131 => ?_))
        refine Ev_fx2 (fun i a8 a10 => a10 = nI i + (-1 : Int32) ∧ a8 = pI ((∀ r, r < j → ∀ i, i ≤ k → unsB n (netB f o (spJ i) 0 k (bR r)) = false) ∧ ∀ i', i' < i → unsB n (netB f o (spJ i') 0 k (bR j)) = false)) (k + 1) ?_ ?_ (FU_lt (by omega)) ⟨rfl, ?_⟩
        · rintro self i a8 a10 hi ⟨rfl, ha⟩ hself
          unfold L_L_faults_84
          rw [cl1, hk1]
          have hst : nI i + (-1 : Int32) + (1 : Int32) = nI (i + 1) + (-1 : Int32) := by
            rw [nI_mq, Int32.add_assoc]
            exact Int32.add_zero _
          rw [hst]
          refine Ev_c1 (Ev_f (by rw [spJ_le (by omega) (by omega)]; omega) ?_)
          by_cases hp : (∀ r, r < j → ∀ i, i ≤ k → unsB n (netB f o (spJ i) 0 k (bR r)) = false) ∧ ∀ i', i' < i → unsB n (netB f o (spJ i') 0 k (bR j)) = false
          · rw [pI_t hp] at ha
            subst ha
            refine Ev_f (by decide) (Ev_c1 (Ev_bd _ (r_out (md := 0) hG h5 hc (Nat.le_refl k) hj (spJ_I (show i ≤ 24 by omega)) (by omega)) (fun y hy => Ev_bde (r_upr h5 (by omega) hy) ?_)))
            refine Ev_i (fun e => hself _ _ ⟨rfl, ?_⟩) (fun e => hself _ _ ⟨rfl, ?_⟩)
            · rw [srt_up] at e
              exact (pI_f (fun z => by have := z.2 i (by omega); rw [e] at this; cases this)).symm
            · rw [srt_up] at e
              refine (pI_t ⟨hp.1, fun i' hi' => ?_⟩).symm
              by_cases q : i' = i
              · rw [q]; exact Bool.eq_false_iff.mpr e
              · exact hp.2 i' (by omega)
          · rw [pI_f hp] at ha
            subst ha
            exact Ev_t rfl (hself _ _ ⟨rfl, (pI_f (fun z => hp ⟨z.1, fun i' hi' => z.2 i' (by omega)⟩)).symm⟩)
        · rintro self a8 a10 ⟨rfl, ha⟩
          unfold L_L_faults_84
          rw [cl1, hk1]
          refine Ev_c1 (Ev_t ((spJ_le (by omega) (by omega)).mpr (Nat.le_refl _)) (h131 _ ?_))
          rw [ha]
          refine pI_same ⟨fun z r hr i hi => ?_, fun z => ⟨fun r hr i hi => z r (by omega) i hi, fun i' hi' => z j (by omega) i' (by omega)⟩⟩
          by_cases q : r = j
          · rw [q]; exact z.2 i (by omega)
          · exact z.1 r (by omega) i hi
        · rw [ha8]
          exact pI_same ⟨fun z => ⟨z, fun i' hi' => absurd hi' (by omega)⟩, fun z => z.1⟩
      · rintro self a8 a9 ⟨rfl, ha⟩
        unfold L_L_faults_72
        rw [shl1 (by omega)]
        refine Ev_t (Int32.le_refl _) (hk _ ?_)
        rw [ha]
        refine pI_same ⟨fun z => ⟨fun r hr => z r hr 0 (by omega), fun sp hsp r hr => ?_⟩, fun z r hr i hi => ?_⟩
        · have := z r hr (sp + 1) (by omega)
          unfold spJ at this
          rw [if_neg (by omega), Nat.add_sub_cancel] at this
          exact this
        · unfold spJ
          split
          · exact z.1 r hr
          · exact z.2 (i - 1) (by omega) r hr
  · refine Ev_fx2 (fun j a7 a9 => a9 = nI j ∧ a7 = nI (ctB (hidB n k f o z) j)) (3 * k) ?_ ?_ (FU_lt (by omega)) ⟨rfl, rfl⟩
    · rintro self j a7 a9 hj ⟨rfl, rfl⟩ hself
      unfold L_L_faults_22
      rw [cl1, hk1, n3, nmul, ndiv (by omega) (by omega) (by omega), irmN (by omega) (by omega) (by omega)]
      refine Ev_c1 (Ev_f (nle_n hj (by omega)) (Ev_bd _ (r_telling hG h5 hc hn0 hk1 (SpI.n (show j / 3 < 2 ^ 31 by omega)) (show j % 3 ≤ 2 by omega)) (fun w hw => ?_)))
      have hh := hid_iff (z := z) (show n ≤ 6 by omega) hw
      refine Ev_i (fun e => Ev_nm (hself _ _ ⟨nI_add j 1, ?_⟩)) (fun e => Ev_nm (hself _ _ ⟨nI_add j 1, ?_⟩))
      · exact (ct_t (hh.mp e)).symm
      · rw [Int32.add_zero]
        exact (ct_f (fun q => e (hh.mpr q))).symm
    · rintro self a7 a9 ⟨rfl, rfl⟩
      unfold L_L_faults_22
      rw [cl1, hk1, n3, nmul]
      exact Ev_c1 (Ev_t (Int32.le_refl _) (hk _ rfl))
