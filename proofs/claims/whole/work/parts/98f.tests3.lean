/-! CASE tests: the reference -/
def orB (p : Nat → Bool) : Nat → Bool
  | 0 => false
  | i + 1 => orB p i || p i
theorem orB_iff {p : Nat → Bool} : ∀ {i}, orB p i = true ↔ ∃ r, r < i ∧ p r = true
  | 0 => ⟨fun h => (by cases h), fun ⟨r, hr, _⟩ => absurd hr (by omega)⟩
  | i + 1 => by
    show (orB p i || p i) = true ↔ _
    rw [Bool.or_eq_true, orB_iff]
    constructor
    · rintro (⟨r, h1, h2⟩ | h)
      · exact ⟨r, by omega, h2⟩
      · exact ⟨i, by omega, h⟩
    · rintro ⟨r, h1, h2⟩
      by_cases e : r = i
      · rw [e] at h2; exact Or.inr h2
      · exact Or.inl ⟨r, by omega, h2⟩
/-- the tests as bits of two longs -/
def Rp (q : Nat) (p : Nat → Bool) (u w : Int64) : Prop := ∀ j, j < 64 → bt64 u j = (decide (j < 60) && (decide (j < q) && p j)) ∧ bt64 w j = (decide (60 + j < q) && p (60 + j))
theorem Rp.or {q : Nat} {p p2 : Nat → Bool} {u w u2 w2 : Int64} (h1 : Rp q p u w) (h2 : Rp q p2 u2 w2) : Rp q (fun j => p j || p2 j) (u ||| u2) (w ||| w2) := fun j hj => by
  obtain ⟨a1, a2⟩ := h1 j hj
  obtain ⟨b1, b2⟩ := h2 j hj
  rw [bt_or, bt_or, a1, a2, b1, b2]
  constructor
  · cases decide (j < 60) <;> cases decide (j < q) <;> simp
  · cases decide (60 + j < q) <;> simp
theorem Rp.congr {q : Nat} {p p2 : Nat → Bool} {u w : Int64} (h : Rp q p u w) (e : ∀ j, p j = p2 j) : Rp q p2 u w := by
  have : p = p2 := funext e
  rw [← this]; exact h
theorem Rp.z {q : Nat} : Rp q (fun _ => false) 0 0 := fun j _ => by rw [bt_0]; simp
theorem Rp.eq {q : Nat} {p p2 : Nat → Bool} {u w u2 w2 : Int64} (hq : q ≤ 72) (h1 : Rp q p u w) (h2 : Rp q p2 u2 w2) : (u = u2 ∧ w = w2) ↔ ∀ j, j < q → p j = p2 j := by
  constructor
  · rintro ⟨rfl, rfl⟩ j hj
    by_cases h60 : j < 60
    · have a := (h1 j (by omega)).1
      rw [(h2 j (by omega)).1, decide_eq_true h60, decide_eq_true hj] at a
      exact a.symm
    · have a := (h1 (j - 60) (by omega)).2
      rw [(h2 (j - 60) (by omega)).2, show 60 + (j - 60) = j by omega, decide_eq_true hj] at a
      exact a.symm
  · intro h
    constructor
    · apply bt_ext
      intro j hj
      rw [(h1 j hj).1, (h2 j hj).1]
      by_cases e : j < q
      · rw [h j e]
      · rw [decide_eq_false e]; rfl
    · apply bt_ext
      intro j hj
      rw [(h1 j hj).2, (h2 j hj).2]
      by_cases e : 60 + j < q
      · rw [h _ e]
      · rw [decide_eq_false e]; rfl
def tR (n k : Nat) (f o : Nat → Nat) (r j : Nat) : Bool := tN n k f o j r
def TabM (n k : Nat) (f o : Nat → Nat) (g : Hp) (t i : Nat) (h : Hp) : Prop := Sm [15, 16] g h ∧ ∀ r, r < 2 ^ n → Rp (if r < i then t + 1 else t) (tR n k f o r) (h.2 15 r) (h.2 16 r)
theorem Rp.next {t : Nat} {p : Nat → Bool} {u w y a : Int64} {r : Nat} (ht : t < 72) (hr : r < 64) (ha : bt64 a r = p t) (hy : y = (lshr a (nI r)) &&& 1) (h : Rp t p u w) : (t < 60 → Rp (t + 1) p (u ||| lshl y (nI t)) (w ||| 0)) ∧ (60 ≤ t → Rp (t + 1) p (u ||| 0) (w ||| lshl y (nI (t - 60)))) := by
  have hb : ∀ j, j < 64 → bt64 y j = (decide (j = 0) && p t) := fun j hj => by
    rw [hy, bt_and, bt_1]
    by_cases e : j = 0
    · rw [e, bt_lshr hr (by omega), Nat.add_zero, ha]; simp
    · rw [decide_eq_false e, Bool.and_false, Bool.false_and]
  have hs : ∀ s, s < 64 → ∀ j, j < 64 → bt64 (lshl y (nI s)) j = (decide (j = s) && p t) := fun s hs j hj => by
    rw [bt_lshl hs hj, hb _ (by omega)]
    by_cases e : j = s
    · rw [e]; simp
    · rw [decide_eq_false e]
      by_cases e2 : s ≤ j
      · rw [decide_eq_false (show ¬ j - s = 0 by omega)]; simp
      · rw [decide_eq_false e2]; rfl
  have hd : ∀ j, decide (j < t + 1) = (decide (j < t) || decide (j = t)) := fun j => by
    by_cases y1 : j < t
    · simp [y1, show j < t + 1 by omega]
    · by_cases y2 : j = t
      · simp [y2]
      · simp [y1, y2, show ¬ j < t + 1 by omega]
  constructor
  · intro h60 j hj
    obtain ⟨a1, a2⟩ := h j hj
    rw [bt_or, bt_or, bt_0, a1, a2, hs t (by omega) j hj, hd j, decide_eq_false (show ¬ 60 + j < t by omega), decide_eq_false (show ¬ 60 + j < t + 1 by omega)]
    refine ⟨?_, rfl⟩
    by_cases e : j = t
    · rw [e, decide_eq_true h60]; simp
    · rw [decide_eq_false e]; simp
  · intro h60 j hj
    obtain ⟨a1, a2⟩ := h j hj
    rw [bt_or, bt_or, bt_0, a1, a2, hs (t - 60) (by omega) j hj, hd (60 + j)]
    constructor
    · by_cases e : j < 60
      · rw [decide_eq_true e, decide_eq_true (show j < t by omega), decide_eq_true (show j < t + 1 by omega)]; simp
      · rw [decide_eq_false e]; rfl
    · by_cases e : j = t - 60
      · rw [show 60 + j = t by omega, e]; simp
      · rw [decide_eq_false e, decide_eq_false (show ¬ 60 + j = t by omega)]; simp
theorem TabM.nM {n k t i : Nat} {f o : Nat → Nat} {g h : Hp} (hM : NetM n k f o g) (hT : TabM n k f o g t i h) : NetM n k f o h := Sm.nM hM hT.1 (by decide) (by decide) (by decide) (by decide)
theorem M_tab {n k : Nat} {f o : Nat → Nat} {g h : Hp} {A2 A4 : Int64} {K : Hp → Option (Int32 × Hp)} {P : Int32 × Hp → Prop} (hG : Good n k f o) (hM : NetM n k f o g) (hT : TabM n k f o g 0 0 h) (hK : ∀ h1, TabM n k f o g (3 * k) 0 h1 → Ev (K h1) P) : Ev (jn1 (fun k162 => fx2 (L_X11_tests_52 (nI (2 ^ n)) A2 A4 k162) FU (0 : Int32) h) K) P := by
  have hn := hG.2.1
  have hk24 := hG.2.2.1
  have hle : 2 ^ n ≤ 2 ^ 6 := Nat.pow_le_pow_right (by omega) hn
  refine Ev_jn1 (fun h1 => TabM n k f o g (3 * k) 0 h1) (fun h1 hh => hK h1 hh) (fun kk hk => ?_)
  refine Ev_fx2 (fun t a1 h => a1 = nI t ∧ TabM n k f o g t 0 h) (3 * k) ?_ ?_ (FU_lt (by omega)) ⟨rfl, hT⟩
  · rintro self t a1 h ht ⟨rfl, hT⟩ hself
    have hM1 := hT.nM hM
    unfold L_X11_tests_52
    rw [hM1.2.1, show (3 : Int32) = nI 3 from rfl, nmul, ndiv (by omega) (by omega) (by omega), irmN (by omega) (by omega) (by omega)]
    refine Ev_f (nle_n ht (by omega)) (Ev_bd _ (r_tellers hG hM1 (show t / 3 < k by omega) (show t % 3 ≤ 2 by omega)) (fun z hz => ?_))
    refine Ev_jn1 (fun h1 => TabM n k f o g t (2 ^ n) h1) (fun h1 hh => hself _ _ ⟨nI_add t 1, hh.1, fun r hr => ?_⟩) (fun k156 hk2 => ?_)
    · have := hh.2 r hr
      rw [if_pos hr] at this
      rw [if_neg (by omega)]; exact this
    · refine Ev_fx2 (fun i b1 h => b1 = nI i ∧ TabM n k f o g t i h) (2 ^ n) ?_ ?_ (FU_lt (by omega)) ⟨rfl, hT⟩
      · rintro self2 i b1 h1 hi ⟨rfl, hT1⟩ hself2
        unfold L_X11_tests_80
        refine Ev_f (nle_n hi (by omega)) (Ev_nm (Ev_ck rfl (by omega) (by omega) ?_))
        have hri := hT1.2 i hi
        rw [if_neg (by omega)] at hri
        have hzi : bt64 z i = tR n k f o i t := by
          rw [hz i (by omega), decide_eq_true hi, Bool.true_and]; rfl
        obtain ⟨x1, x2⟩ := Rp.next (show t < 72 by omega) (show i < 64 by omega) hzi rfl hri
        have hnxt : ∀ h2, Sm [15, 16] g h2 → (∀ r, r < 2 ^ n → r ≠ i → h2.2 15 r = h1.2 15 r ∧ h2.2 16 r = h1.2 16 r) → Rp (t + 1) (tR n k f o i) (h2.2 15 i) (h2.2 16 i) → Ev (self2 (nI i + 1) h2) P := fun h2 w1 w2 w3 => by
          refine hself2 _ _ ⟨nI_add i 1, w1, fun r hr => ?_⟩
          by_cases e : r = i
          · rw [e, if_pos (by omega)]; exact w3
          · rw [(w2 r hr e).1, (w2 r hr e).2]
            have := hT1.2 r hr
            by_cases e2 : r < i
            · rw [if_pos e2] at this
              rw [if_pos (by omega)]; exact this
            · rw [if_neg e2] at this
              rw [if_neg (by omega)]; exact this
        refine Ev_jn1 (fun y => y = if t < 60 then lshl ((lshr z (nI i)) &&& 1) (nI t) else 0) (fun y hy => ?_) (fun k119 hk3 => ?_)
        · subst hy
          refine Ev_ck rfl (by omega) (by omega) (Ev_nm (Ev_ck rfl (by omega) (by omega) ?_))
          rw [clN (by omega)]
          refine Ev_i (fun e => ?_) (fun e => ?_)
          · rw [show (60 : Int32) = nI 60 from rfl, nI_leI (by omega) (by omega)] at e
            refine Ev_ck rfl (by omega) (by omega) (Ev_nm (hnxt _ ((hT1.1.sL (by decide)).sL (by decide)) (fun r hr hne => ⟨?_, ?_⟩) ?_))
            · rw [wLg_n _ _ _ _ _ (by decide), wLg_1, clN (by omega), updL_n _ _ hne]
            · rw [wLg_1, clN (by omega), updL_n _ _ hne, wLg_n _ _ _ _ _ (by decide)]
            · rw [wLg_n _ _ _ _ _ (by decide), wLg_1, wLg_1, wLg_n _ _ _ _ _ (by decide), clN (by omega), updL_s, updL_s, if_neg (by omega), show (60 : Int32) = nI 60 from rfl, nsub (by omega)]
              exact x2 e
          · rw [show (60 : Int32) = nI 60 from rfl, nI_leI (by omega) (by omega)] at e
            refine Ev_ck rfl (by omega) (by omega) (Ev_nm (hnxt _ ((hT1.1.sL (by decide)).sL (by decide)) (fun r hr hne => ⟨?_, ?_⟩) ?_))
            · rw [wLg_n _ _ _ _ _ (by decide), wLg_1, clN (by omega), updL_n _ _ hne]
            · rw [wLg_1, clN (by omega), updL_n _ _ hne, wLg_n _ _ _ _ _ (by decide)]
            · rw [wLg_n _ _ _ _ _ (by decide), wLg_1, wLg_1, wLg_n _ _ _ _ _ (by decide), clN (by omega), updL_s, updL_s, if_pos (by omega)]
              exact x1 (by omega)
        · refine Ev_i (fun e => hk3 _ ?_) (fun e => hk3 _ ?_)
          · rw [show (60 : Int32) = nI 60 from rfl, nI_leI (by omega) (by omega)] at e
            rw [if_neg (by omega)]
          · rw [show (60 : Int32) = nI 60 from rfl, nI_leI (by omega) (by omega)] at e
            rw [if_pos (by omega)]
      · rintro self2 b1 h1 ⟨rfl, hT1⟩
        unfold L_X11_tests_80
        exact Ev_t (Int32.le_refl _) (hk2 _ hT1)
  · rintro self a1 h ⟨rfl, hT⟩
    have hM1 := hT.nM hM
    unfold L_X11_tests_52
    rw [hM1.2.1, show (3 : Int32) = nI 3 from rfl, nmul]
    exact Ev_t (Int32.le_refl _) (hk _ hT)
theorem M_zero {n k : Nat} {f o : Nat → Nat} {g : Hp} {N1 : Int32} {A2 A4 : Int64} {K : Hp → Option (Int32 × Hp)} {P : Int32 × Hp → Prop} (hn : n ≤ 6) (hK : ∀ h1, TabM n k f o g 0 0 h1 → Ev (K h1) P) : Ev (jn1 (fun k49 => fx2 (L_X11_tests_20 N1 A2 A4 k49) FU (0 : Int32) g) K) P := by
  have hle : 2 ^ n ≤ 2 ^ 6 := Nat.pow_le_pow_right (by omega) hn
  refine Ev_jn1 (fun h1 => TabM n k f o g 0 0 h1) (fun h1 hh => hK h1 hh) (fun kk hk => ?_)
  refine Ev_fx2 (fun i a1 h => a1 = nI i ∧ Sm [15, 16] g h ∧ ∀ r, r < i → h.2 15 r = 0 ∧ h.2 16 r = 0) 64 ?_ ?_ (FU_lt (by omega)) ⟨rfl, Sm.rf, fun r hr => absurd hr (by omega)⟩
  · rintro self i a1 h hi ⟨rfl, hS, h0⟩ hself
    unfold L_X11_tests_20
    refine Ev_f (nle_n (a := 64) hi (by omega)) (Ev_ck rfl (by omega) (by omega) (Ev_nm (Ev_ck rfl (by omega) (by omega) (Ev_nm (hself _ _ ⟨nI_add i 1, (hS.sL (by decide)).sL (by decide), fun r hr => ?_⟩)))))
    rw [wLg_n _ _ _ _ _ (by decide), wLg_1, wLg_1, wLg_n _ _ _ _ _ (by decide), clN (by omega)]
    by_cases e : r = i
    · rw [e, updL_s, updL_s]; exact ⟨rfl, rfl⟩
    · rw [updL_n _ _ e, updL_n _ _ e]; exact h0 r (by omega)
  · rintro self a1 h ⟨rfl, hS, h0⟩
    unfold L_X11_tests_20
    refine Ev_t (Int32.le_refl _) (hk _ ⟨hS, fun r hr j hj => ?_⟩)
    rw [(h0 r (by omega)).1, (h0 r (by omega)).2, bt_0, if_neg (by omega), decide_eq_false (show ¬ j < 0 by omega), decide_eq_false (show ¬ 60 + j < 0 by omega)]
    simp
