/-! P43: what one turn of the law asks at its end -/
def TapL (c : Hp) (r1 r5 : Row) : Prop := ∃ (t : Nat) (ch : Nat → Nat), t ≤ 40 ∧ c.1 11 1 = nI t ∧ r5 2 = nI t ∧ ∀ i, i < t → chOk (ch i) ∧ c.1 12 i = nI (ch i) ∧ r1 i = nI (ch i)
def BalL (T n k : Nat) (f o : Nat → Nat) (c : Hp) (r2 : Row) : Prop := ∃ (t : Nat) (v : Nat → Nat), t ≤ T ∧ (∀ x, v x ≤ t) ∧ (∀ x, n ≤ x → v x = 0) ∧ c.1 23 4 = nI t ∧ (∀ x, x < 6 → c.1 24 x = nI (v x) ∧ c.1 25 x = nI (balN f o k v x) ∧ r2 x = nI (v x)) ∧ ∀ i, i < k → c.1 27 i = togN f o v i
def AdvL (n : Nat) (c : Hp) (r3 : Row) : Prop := okBits n (c.2 32 0) ∧ AdR (c.2 32 0) r3 ∧ ∃ r, r < facN n ∧ consN (c.2 32 0) n (rowT n r) = true
theorem X_told {n k w : Nat} {f o : Nat → Nat} {c : Hp} (hG : Good n k f o) (hC : NetC n k f o c) (hw : w < 6) : Ev (f_X10_told c (nI w)) (fun r => ∃ a : Int32 × Hp, r = .inr a ∧ a.1 = nI (toldA n k f o w) ∧ Sm [4, 5, 14] c a.2) :=
  Ev_mono (C_told hG hC hw) (fun r ⟨_, e, s⟩ => ⟨_, e, rfl, s⟩)
theorem X_cmp {n k a b : Nat} {f o : Nat → Nat} {c : Hp} (hG : Good n k f o) (hC : NetC n k f o c) (ha : a < k) (hb : b < 4) : Ev (f_X10_comparator c (nI a) (nI b)) (fun r => ∃ g : Int32 × Hp, r = .inr g ∧ g.1 = nI (cmpA n f o a b) ∧ Sm [4, 5, 14] c g.2) :=
  Ev_mono (C_comparator hG hC ha hb) (fun r ⟨_, e, s⟩ => ⟨_, e, rfl, s⟩)
theorem Keep.s3 {n k : Nat} {f o : Nat → Nat} {c c1 c2 : Hp} (h : Keep n k f o c c1) (hS : Sm [4, 5, 14] c1 c2) : Keep n k f o c c2 := h.scr hS (by decide) (by decide) (by decide) (by decide)
theorem Keep.s2 {n k : Nat} {f o : Nat → Nat} {c c1 c2 : Hp} (h : Keep n k f o c c1) (hS : Sm [4, 5] c1 c2) : Keep n k f o c c2 := h.scr hS (by decide) (by decide) (by decide) (by decide)
theorem Keep.s26 {n k : Nat} {f o : Nat → Nat} {c c1 c2 : Hp} (h : Keep n k f o c c1) (hS : Sm [26] c1 c2) : Keep n k f o c c2 := h.scr hS (by decide) (by decide) (by decide) (by decide)
theorem Keep.s34 {n k : Nat} {f o : Nat → Nat} {c c1 c2 : Hp} (h : Keep n k f o c c1) (hS : Sm [34] c1 c2) : Keep n k f o c c2 := h.scr hS (by decide) (by decide) (by decide) (by decide)
theorem sub_2 {p q : Nat} (hp : p < 2 ^ 20) (hq : q < 2 ^ 20) : ((2 : Int32) ≤ nI p - nI q ↔ q + 2 ≤ p) ∧ ((1 : Int32) < nI p - nI q ↔ q + 1 < p) := by
  have e1 : nI p - nI q = nI p - nI q := rfl
  by_cases h : q ≤ p
  · rw [nsub h, n1, n2, nI_leI (by omega) (by omega), nI_ltI (by omega) (by omega)]
    omega
  · have hneg : ¬ (0 : Int32) < nI p - nI q := fun z => by
      have := (sub_pos hp hq).1.mp z
      omega
    constructor
    · constructor
      · intro z
        exact absurd (Int32.lt_of_lt_of_le (by decide) z) hneg
      · intro z; omega
    · constructor
      · intro z
        exact absurd (Int32.lt_trans (by decide) z) hneg
      · intro z; omega
theorem step_iff {n : Nat} {B : Nat → Nat} (hn : n ≤ 6) (hn2 : 2 ≤ n) : ((∀ w, w + 1 < n → B (w + 1) ≤ B w) ∧ ¬ B (n - 1) + 1 < B 0) ↔ ∀ w, w < n → (w = 0 ∨ B w ≤ B (w - 1)) ∧ B 0 < B w + 2 := by
  constructor
  · rintro ⟨h1, h2⟩ w hw
    refine ⟨?_, ?_⟩
    · by_cases e : w = 0
      · exact Or.inl e
      · have := h1 (w - 1) (by omega)
        rw [show w - 1 + 1 = w by omega] at this
        exact Or.inr this
    · have key : ∀ d, w + d < n → B (w + d) ≤ B w := fun d => by
        induction d with
        | zero => intro _; exact Nat.le_refl _
        | succ d ih =>
          intro hd
          have := h1 (w + d) (by omega)
          rw [show w + (d + 1) = w + d + 1 by omega]
          exact Nat.le_trans this (ih (by omega))
      have := key (n - 1 - w) (by omega)
      rw [show w + (n - 1 - w) = n - 1 by omega] at this
      omega
  · intro h
    refine ⟨fun w hw => ?_, ?_⟩
    · rcases (h (w + 1) hw).1 with e | e
      · omega
      · exact e
    · have := (h (n - 1) (by omega)).2
      omega
theorem r_350 {T n k : Nat} {f o v : Nat → Nat} {t : Nat} {c h : Hp} {x1 : Int32} {r7 : Row} {P : Int32 × Hp × Row → Prop} {kk : Int32 → Int32 → Hp → Option (Int32 × Hp × Row)} (hT : T ≤ 1000) (hG : Good n k f o) (h5 : n ≤ 5) (hC : NetC n k f o c) (hK : Keep n k f o c h) (ht : t ≤ T) (hv : ∀ x, v x ≤ t) (hw : ∀ x, x < 6 → c.1 24 x = nI (v x) ∧ c.1 25 x = nI (balN f o k v x)) (h7 : RwN 6 r7 (balN f o k v)) (hk : ∀ a16 h, a16 = pI (∀ w, w < n → (w = 0 ∨ balN f o k v w ≤ balN f o k v (w - 1)) ∧ balN f o k v 0 < balN f o k v w + 2) → Keep n k f o c h → Ev (kk 1 a16 h) P) : Ev (fx4 (L_L_same_350 x1 (nI n) r7 kk) 8 (1 : Int32) (1 : Int32) (0 : Int32) h) P := by
  have hn := hG.2.1
  have hn2 := hG.1
  have hb : ∀ x, balN f o k v x ≤ 1000 := fun x => Nat.le_trans (balN_le hv k x) (by omega)
  refine Ev_fx4 (fun j a15 a16 a17 h => a17 = nI j ∧ a15 = 1 ∧ a16 = pI (∀ w, w < j → (w = 0 ∨ balN f o k v w ≤ balN f o k v (w - 1)) ∧ balN f o k v 0 < balN f o k v w + 2) ∧ Keep n k f o c h) n ?_ ?_ (by omega) ⟨rfl, rfl, (pI_t (fun w hw => absurd hw (by omega))).symm, hK⟩
  · rintro self j a15 a16 a17 h hj ⟨rfl, rfl, h16, hK⟩ hself
    have hCh := hK.nC hC
    unfold L_L_same_350
    rw [clN (by omega), h7 j (by omega)]
    refine Ev_f (nle_n hj (by omega)) (Ev_f (by decide) (Ev_hc _ (X_came (y := nI (balN f o k v j)) hCh.1 hn hj (by rw [(hK.1 25 (by decide)).1]; exact (hw j (by omega)).2)) (fun a ⟨a1, a2⟩ => Ev_ck rfl (by omega) (by omega) ?_)))
    refine Ev_jn2 (fun z h => z = 1 ∧ Keep n k f o c h) (fun z h ⟨ez, hK2⟩ => ?_) (fun k395 h395 => ?_)
    · subst ez
      by_cases hp : ∀ w, w < j → (w = 0 ∨ balN f o k v w ≤ balN f o k v (w - 1)) ∧ balN f o k v 0 < balN f o k v w + 2
      · rw [pI_t hp] at h16
        subst h16
        refine Ev_f (by decide) (Ev_jn0 (j = 0 ∨ balN f o k v j ≤ balN f o k v (j - 1)) (fun hq => ?_) (fun k422 h422 => ?_))
        · refine Ev_ck (j := 0) rfl (by omega) (by omega) (Ev_ck rfl (by omega) (by omega) ?_)
          have s2 := (sub_2 (p := balN f o k v 0) (q := balN f o k v j) (by have := hb 0; omega) (by have := hb j; omega)).1
          rw [cl0, h7 0 (by omega)]
          refine Ev_i (fun e => hself _ _ _ _ ⟨nI_add j 1, rfl, (pI_f (fun z => ?_)).symm, hK2⟩) (fun e => hself _ _ _ _ ⟨nI_add j 1, rfl, (pI_t (fun w hw => ?_)).symm, hK2⟩)
          · rw [s2] at e
            have := (z j (by omega)).2
            omega
          · rw [s2] at e
            by_cases q : w = j
            · rw [q]
              exact ⟨hq, by omega⟩
            · exact hp w (by omega)
        · by_cases j0 : j = 0
          · exact Ev_t (by rw [j0]; rfl) (h422 (Or.inl j0))
          · refine Ev_f (by rw [show (0 : Int32) = nI 0 from rfl, neqI (by omega) (by omega)]; exact j0) (Ev_ck rfl (by omega) (by omega) ?_)
            have b1 := hb (j - 1)
            have b2 := hb j
            rw [n1, nsub (by omega), clN (by omega), h7 (j - 1) (by omega)]
            refine Ev_ck rfl (by omega) (by omega) (Ev_i (fun e => hself _ _ _ _ ⟨nI_add j 1, rfl, (pI_f (fun z => ?_)).symm, hK2⟩) (fun e => h422 (Or.inr ?_)))
            · rw [nI_ltI (by omega) (by omega)] at e
              have := (z j (by omega)).1
              omega
            · rw [nI_ltI (by omega) (by omega)] at e
              omega
      · rw [pI_f hp] at h16
        subst h16
        exact Ev_t rfl (hself _ _ _ _ ⟨nI_add j 1, rfl, (pI_f (fun z => hp (fun w hw => z w (by omega)))).symm, hK2⟩)
    · rw [a2]
      refine Ev_jn1 (fun _ => False) (fun _ h => h.elim) (fun k394 _ => Ev_t a1 ?_)
      refine Ev_hc _ (X_anew (v := v) (t := t) hG hCh hj (by omega) hv (fun y hy => by rw [(hK.1 24 (by decide)).1]; exact (hw y hy).1)) (fun b ⟨b1, b2⟩ => Ev_ck rfl (by omega) (by omega) (Ev_t b1 (h395 _ _ ⟨rfl, hK.s26 b2⟩)))
  · rintro self a15 a16 a17 h ⟨rfl, rfl, h16, hK⟩
    unfold L_L_same_350
    exact Ev_t (Int32.le_refl _) (hk _ _ h16 hK)
theorem r_43 {n k : Nat} {f o : Nat → Nat} {x1 a11 : Int32} {r0 r4 : Row} {P : Int32 × Hp × Row → Prop} {kk : Int32 → Int32 → Option (Int32 × Hp × Row)} (hG : Good n k f o) (h5 : n ≤ 5) (hc : RcN k f o r0) (hq : QrN n k r4) (hk : Ev (kk (nI (ctB (deadB n f o) k)) (nI (ctB (tangB f o) k))) P) : Ev (fx3 (L_L_same_43 x1 (nI n) a11 r0 r4 kk) FU (0 : Int32) (0 : Int32) (0 : Int32)) P := by
  have hn := hG.2.1
  have hk24 := hG.2.2.1
  refine Ev_fx3 (fun j a b i => i = nI j ∧ a = nI (ctB (deadB n f o) j) ∧ b = nI (ctB (tangB f o) j)) k ?_ ?_ (FU_lt (by omega)) ⟨rfl, rfl, rfl⟩
  · rintro self j a b i hj ⟨rfl, rfl, rfl⟩ hself
    obtain ⟨g1, g2, g3⟩ := hG.2.2.2 j hj
    obtain ⟨e1, e2⟩ := hc.rd hj (by omega) (by omega)
    unfold L_L_same_43
    rw [cl1, hq.2, clN (by omega), e1, e2]
    refine Ev_c1 (Ev_f (nle_n hj (by omega)) (Ev_bd _ (r_oftenL hG h5 hc hq hj) (fun y hy => ?_)))
    subst hy
    refine Ev_jn1 (fun z => nI (ctB (deadB n f o) j) + z = nI (ctB (deadB n f o) (j + 1))) (fun z hz => ?_) (fun k70 h70 => ?_)
    · rw [hz]
      refine Ev_nm (Ev_ck rfl (by omega) (by omega) (Ev_ck rfl (by omega) (by omega) (Ev_i (fun e => Ev_nm (hself _ _ _ ⟨nI_add j 1, rfl, ?_⟩)) (fun e => Ev_nm (hself _ _ _ ⟨nI_add j 1, rfl, ?_⟩)))))
      · rw [nI_leI (by omega) (by omega)] at e
        rw [Int32.add_zero]
        exact (ct_f (by unfold tangB; simp; omega)).symm
      · rw [nI_leI (by omega) (by omega)] at e
        exact (ct_t (by unfold tangB; simp; omega)).symm
    · have ho := oft_eq (n := n) (f := f) (o := o) (i := j) hn
      refine Ev_i (fun e => h70 _ ?_) (fun e => h70 _ ?_)
      · exact (ct_t (ho.mp e)).symm
      · rw [Int32.add_zero]
        exact (ct_f (fun z => e (ho.mpr z))).symm
  · rintro self a b i ⟨rfl, rfl, rfl⟩
    unfold L_L_same_43
    rw [cl1, hq.2]
    exact Ev_c1 (Ev_t (Int32.le_refl _) hk)
