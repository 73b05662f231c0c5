theorem has_mem {x : Nat} : ∀ {l : List Nat}, hasB l x = true ↔ x ∈ l
  | [] => by simp [hasB]
  | y :: l => by
    show (bif Nat.beq y x then true else hasB l x) = true ↔ _
    rw [List.mem_cons]
    cases e : Nat.beq y x with
    | true => simp [Nat.eq_of_beq_eq_true e]
    | false =>
      simp only [cond_false]
      rw [has_mem]
      constructor
      · exact Or.inr
      · rintro (h | h)
        · rw [h] at e
          simp at e
        · exact h
theorem ps_ok {n : Nat} (hn2 : 2 ≤ n) (hn : n ≤ 4) : 2 ^ facN n - 1 ∈ psL n ∧ (∀ s, s ∈ psL n → ∀ a b, a < n → b < n → liN n s a b ∈ psL n) ∧ (psL n).length ≤ 300 := by
  have h : chkPs n = true := by
    have h3 : n = 2 ∨ n = 3 ∨ n = 4 := by omega
    rcases h3 with rfl | rfl | rfl
    · exact pl_ok2
    · exact pl_ok3
    · exact pl_ok4
  unfold chkPs at h
  rw [Bool.and_eq_true, Bool.and_eq_true] at h
  refine ⟨has_mem.mp h.1.1, fun s hs a b ha hb => ?_, Nat.le_of_ble_eq_true h.2⟩
  have h1 := List.all_eq_true.mp h.1.2 s hs
  have h2 := List.all_eq_true.mp h1 a (List.mem_range.mpr ha)
  exact has_mem.mp (List.all_eq_true.mp h2 b (List.mem_range.mpr hb))
theorem li_bit {n s a b r : Nat} : (liN n s a b).testBit r = (s.testBit r && (decide (r < facN n) && decide (rowT n r a < rowT n r b))) := by
  unfold liN lmN
  rw [Nat.testBit_and, num_bit]
/-- the rows that agree with what was told -/
def mzN (n : Nat) (z : Int64) : Nat := numB (fun r => consN z n (rowT n r)) (facN n)
theorem mz_bit {n r : Nat} {z : Int64} : (mzN n z).testBit r = (decide (r < facN n) && consN z n (rowT n r)) := num_bit _ _
theorem mz_lt {n : Nat} {z : Int64} : mzN n z < 2 ^ facN n := num_lt _
theorem mz_li {n a b : Nat} {z : Int64} (hn : n ≤ 6) (ha : a < n) (hb : b < n) : liN n (mzN n z) a b = mzN n (lsB z a b) := by
  apply Nat.eq_of_testBit_eq
  intro r
  rw [li_bit, mz_bit, mz_bit, ls_cons hn ha hb]
  cases decide (r < facN n) <;> cases consN z n (rowT n r) <;> simp
theorem mz_ps {n : Nat} {z : Int64} (hn2 : 2 ≤ n) (hn : n ≤ 4) : mzN n z ∈ psL n := by
  obtain ⟨h1, h2, _⟩ := ps_ok hn2 hn
  have key : ∀ L : List (Nat × Nat), (∀ p, p ∈ L → p.1 < n ∧ p.2 < n) → ∃ s, s ∈ psL n ∧ ∀ r, s.testBit r = true ↔ r < facN n ∧ ∀ p, p ∈ L → bt64 z (6 * p.1 + p.2) = true → rowT n r p.2 < rowT n r p.1 := by
    intro L
    induction L with
    | nil =>
      intro _
      refine ⟨_, h1, fun r => ?_⟩
      rw [Nat.testBit_two_pow_sub_one]
      simp
    | cons p L ih =>
      intro hL
      obtain ⟨s, hs, hb⟩ := ih (fun q hq => hL q (List.mem_cons_of_mem _ hq))
      obtain ⟨p1, p2⟩ := hL p List.mem_cons_self
      cases e : bt64 z (6 * p.1 + p.2) with
      | false =>
        refine ⟨s, hs, fun r => ?_⟩
        rw [hb r]
        constructor
        · rintro ⟨a, b⟩
          refine ⟨a, fun q hq e2 => ?_⟩
          rcases List.mem_cons.mp hq with h | h
          · rw [h, e] at e2; cases e2
          · exact b q h e2
        · rintro ⟨a, b⟩
          exact ⟨a, fun q hq => b q (List.mem_cons_of_mem _ hq)⟩
      | true =>
        refine ⟨liN n s p.2 p.1, h2 s hs _ _ p2 p1, fun r => ?_⟩
        rw [li_bit, Bool.and_eq_true, Bool.and_eq_true, hb r]
        constructor
        · rintro ⟨⟨a, b⟩, _, d⟩
          refine ⟨a, fun q hq e2 => ?_⟩
          rcases List.mem_cons.mp hq with h | h
          · rw [h]; exact of_decide_eq_true d
          · exact b q h e2
        · rintro ⟨a, b⟩
          exact ⟨⟨a, fun q hq => b q (List.mem_cons_of_mem _ hq)⟩, decide_eq_true a, decide_eq_true (b p List.mem_cons_self e)⟩
  obtain ⟨s, hs, hb⟩ := key ((List.range n).flatMap (fun a => (List.range n).map (fun b => (a, b)))) (fun p hp => by
    obtain ⟨a, ha, h⟩ := List.mem_flatMap.mp hp
    obtain ⟨b, hb, e⟩ := List.mem_map.mp h
    rw [← e]
    exact ⟨List.mem_range.mp ha, List.mem_range.mp hb⟩)
  have : mzN n z = s := by
    apply Nat.eq_of_testBit_eq
    intro r
    have h3 : (mzN n z).testBit r = true ↔ s.testBit r = true := by
      rw [hb r, mz_bit, Bool.and_eq_true, decide_eq_true_eq, cons_iff]
      constructor
      · rintro ⟨a, b⟩
        refine ⟨a, fun p hp e => ?_⟩
        obtain ⟨x, hx, h⟩ := List.mem_flatMap.mp hp
        obtain ⟨y, hy, e2⟩ := List.mem_map.mp h
        rw [← e2] at e ⊢
        exact b x (List.mem_range.mp hx) y (List.mem_range.mp hy) e
      · rintro ⟨a, b⟩
        exact ⟨a, fun x hx y hy e => b (x, y) (List.mem_flatMap.mpr ⟨x, List.mem_range.mpr hx, List.mem_map.mpr ⟨y, List.mem_range.mpr hy, rfl⟩⟩) e⟩
    cases e1 : (mzN n z).testBit r with
    | true => exact (h3.mp e1).symm
    | false =>
      cases e2 : s.testBit r with
      | false => rfl
      | true => rw [h3.mpr e2] at e1; cases e1
  rw [this]; exact hs
def pcM (s : Nat) : Nat := ctB (fun r => s.testBit r) 24
theorem fac_24 {n : Nat} (hn : n ≤ 4) : facN n ≤ 24 := by
  have : ∀ n, n < 5 → facN n ≤ 24 := by decide
  exact this n (by omega)
theorem pc_mz {n : Nat} {z : Int64} (hn : n ≤ 4) : pcM (mzN n z) = ctC n z := by
  have hF := fac_24 hn
  unfold pcM ctC
  have h1 : ctB (fun r => (mzN n z).testBit r) 24 = ctB (fun r => (mzN n z).testBit r) (facN n) := by
    have := ct_ext (p := fun r => (mzN n z).testBit r) (n := facN n) (24 - facN n) (fun x hx => by rw [mz_bit, decide_eq_false (by omega)]; rfl)
    rwa [show facN n + (24 - facN n) = 24 by omega] at this
  rw [h1]
  exact ct_congr (fun r hr => by rw [mz_bit, decide_eq_true hr, Bool.true_and])
theorem mz_ne {n : Nat} {z : Int64} : mzN n z ≠ 0 ↔ 0 < ctC n z := by
  constructor
  · intro h
    apply Classical.byContradiction
    intro h2
    apply h
    apply Nat.eq_of_testBit_eq
    intro r
    rw [Nat.zero_testBit, mz_bit]
    by_cases hr : r < facN n
    · have : ctB (fun r => consN z n (rowT n r)) (facN n) = 0 := by
        have : ctC n z = 0 := by omega
        exact this
      rw [ct_0.mp this r hr, Bool.and_false]
    · rw [decide_eq_false hr]; rfl
  · intro h h2
    obtain ⟨r, hr, e⟩ := ct_pos (p := fun r => consN z n (rowT n r)) h
    have h3 := mz_bit (n := n) (r := r) (z := z)
    rw [h2, Nat.zero_testBit, decide_eq_true hr, e] at h3
    cases h3
/-- whether so many questions are enough -/
def SzP (n : Nat) : Nat → Int64 → Prop
  | 0, z => ctC n z ≤ 1
  | q + 1, z => ctC n z ≤ 1 ∨ ∃ a b, a < b ∧ b < n ∧ 0 < ctC n (lsB z a b) ∧ 0 < ctC n (lsB z b a) ∧ SzP n q (lsB z a b) ∧ SzP n q (lsB z b a)
def SmP (n : Nat) : Nat → Nat → Prop
  | 0, s => pcM s ≤ 1
  | q + 1, s => pcM s ≤ 1 ∨ ∃ a b, a < b ∧ b < n ∧ liN n s a b ≠ 0 ∧ liN n s b a ≠ 0 ∧ SmP n q (liN n s a b) ∧ SmP n q (liN n s b a)
theorem Sz_Sm {n : Nat} (hn : n ≤ 4) : ∀ q z, SzP n q z ↔ SmP n q (mzN n z)
  | 0, z => by
    show ctC n z ≤ 1 ↔ pcM (mzN n z) ≤ 1
    rw [pc_mz hn]
  | q + 1, z => by
    show (ctC n z ≤ 1 ∨ _) ↔ (pcM (mzN n z) ≤ 1 ∨ _)
    rw [pc_mz hn]
    constructor
    · rintro (h | ⟨a, b, h1, h2, h3, h4, h5, h6⟩)
      · exact Or.inl h
      · refine Or.inr ⟨a, b, h1, h2, ?_⟩
        rw [mz_li (by omega) (show a < n by omega) h2, mz_li (by omega) h2 (show a < n by omega)]
        exact ⟨mz_ne.mpr h3, mz_ne.mpr h4, (Sz_Sm hn q _).mp h5, (Sz_Sm hn q _).mp h6⟩
    · rintro (h | ⟨a, b, h1, h2, h3, h4, h5, h6⟩)
      · exact Or.inl h
      · rw [mz_li (by omega) (show a < n by omega) h2] at h3 h5
        rw [mz_li (by omega) h2 (show a < n by omega)] at h4 h6
        exact Or.inr ⟨a, b, h1, h2, mz_ne.mp h3, mz_ne.mp h4, (Sz_Sm hn q _).mpr h5, (Sz_Sm hn q _).mpr h6⟩
theorem Sz_mono {n : Nat} : ∀ q z, SzP n q z → SzP n (q + 1) z
  | 0, _, h => Or.inl h
  | q + 1, z, h => by
    rcases h with h | ⟨a, b, h1, h2, h3, h4, h5, h6⟩
    · exact Or.inl h
    · exact Or.inr ⟨a, b, h1, h2, h3, h4, Sz_mono q _ h5, Sz_mono q _ h6⟩
theorem Sz_le {n q q2 : Nat} {z : Int64} (h : SzP n q z) (hle : q ≤ q2) : SzP n q2 z := by
  have : ∀ d, SzP n (q + d) z := fun d => by
    induction d with
    | zero => exact h
    | succ d ih => exact Sz_mono _ _ ih
  have h2 := this (q2 - q)
  rwa [show q + (q2 - q) = q2 by omega] at h2
theorem Sz_pow {n : Nat} (hn : n ≤ 6) : ∀ q z, SzP n q z → ctC n z ≤ 2 ^ q
  | 0, _, h => h
  | q + 1, z, h => by
    have hp := Nat.two_pow_pos q
    rw [Nat.pow_succ]
    rcases h with h | ⟨a, b, h1, h2, h3, h4, h5, h6⟩
    · omega
    · have i1 := Sz_pow hn q _ h5
      have i2 := Sz_pow hn q _ h6
      have := ct_split2 (z := z) hn (show a < n by omega) h2 (show a ≠ b by omega)
      omega
/-- two rows that agree in all pairs are the same -/
theorem pair_diff {n r q : Nat} (hn : n ≤ 6) (hr : r < facN n) (hq : q < facN n) (hne : r ≠ q) : ∃ a b, a < n ∧ b < n ∧ rowT n r a < rowT n r b ∧ rowT n q b < rowT n q a := by
  have hpr := row_perm hn hr
  have hpq := row_perm hn hq
  have hval : ∀ v : Nat → Nat, PermN n v → ∀ x, x < n → v x = ctB (fun y => decide (v y < v x)) n := fun v hv x hx => by
    have h1 := ct_perm (p := fun y => decide (y < v x)) hn hv
    have h2 : ∀ m, ctB (fun y => decide (y < v x)) m = min m (v x) := by
      intro m
      induction m with
      | zero => simp [ctB]
      | succ m ih =>
        by_cases e : m < v x
        · rw [ct_s1 (p := fun y => decide (y < v x)) (decide_eq_true e), ih]; omega
        · rw [ct_s0 (p := fun y => decide (y < v x)) (by simpa using e), ih]; omega
    have hvx := hv.1 x hx
    rw [h2 n] at h1
    omega
  apply Classical.byContradiction
  intro hno
  apply hne
  have hsame : ∀ x, x < n → rowT n r x = rowT n q x := fun x hx => by
    rw [hval _ hpr x hx, hval _ hpq x hx]
    refine ct_congr (fun y hy => ?_)
    by_cases e : x = y
    · subst e; simp
    · have n1 : rowT n r y ≠ rowT n r x := fun z => e (hpr.2 y x hy hx z).symm
      have n2 : rowT n q y ≠ rowT n q x := fun z => e (hpq.2 y x hy hx z).symm
      by_cases h1 : rowT n r y < rowT n r x
      · by_cases h2 : rowT n q y < rowT n q x
        · rw [decide_eq_true h1, decide_eq_true h2]
        · exact absurd ⟨y, x, hy, hx, h1, by omega⟩ hno
      · by_cases h2 : rowT n q y < rowT n q x
        · exact absurd ⟨x, y, hx, hy, by omega, h2⟩ hno
        · rw [decide_eq_false h1, decide_eq_false h2]
  have := num_congr hsame
  rw [row_num hn hr, row_num hn hq] at this
  exact this
theorem und_ex {n : Nat} {z : Int64} (hn : n ≤ 6) (h : 1 < ctC n z) : ∃ a b, a < b ∧ b < n ∧ 0 < ctC n (lsB z a b) ∧ 0 < ctC n (lsB z b a) := by
  obtain ⟨r, hr, e⟩ := ct_pos (p := fun r => consN z n (rowT n r)) (N := facN n) (by show 0 < ctC n z; omega)
  have h2 : 0 < ctB (fun x => consN z n (rowT n x) && !decide (x = r)) (facN n) := by
    have := ct_off (p := fun r => consN z n (rowT n r)) hr e
    unfold ctC at h
    omega
  obtain ⟨q, hq, e2⟩ := ct_pos h2
  rw [Bool.and_eq_true] at e2
  have hne : r ≠ q := fun z => by rw [z] at e2; simp at e2
  obtain ⟨a, b, ha, hb, h3, h4⟩ := pair_diff hn hr hq hne
  have c1 : 0 < ctC n (lsB z a b) := ct_some ⟨r, hr, by rw [ls_cons hn ha hb, e, decide_eq_true h3]; rfl⟩
  have c2 : 0 < ctC n (lsB z b a) := ct_some ⟨q, hq, by rw [ls_cons hn hb ha, e2.1, decide_eq_true h4]; rfl⟩
  by_cases hab : a < b
  · exact ⟨a, b, hab, hb, c1, c2⟩
  · have : a ≠ b := fun z => by rw [z] at h3; omega
    exact ⟨b, a, by omega, ha, c2, c1⟩
noncomputable def undB (n : Nat) (z : Int64) (p : Nat) : Bool := decide (p / n < p % n) && (decide (0 < ctC n (lsB z (p / n) (p % n))) && decide (0 < ctC n (lsB z (p % n) (p / n))))
theorem ls_sub {n a b c d : Nat} {z : Int64} (hn : n ≤ 6) (ha : a < n) (hb : b < n) (hc : c < n) (hd : d < n) : ctC n (lsB (lsB z a b) c d) ≤ ctC n (lsB z c d) := by
  unfold ctC
  refine ct_sub (fun r hr h => ?_)
  rw [ls_cons hn hc hd, ls_cons hn ha hb, Bool.and_eq_true, Bool.and_eq_true] at h
  rw [ls_cons hn hc hd, h.1.1, h.2]; rfl
theorem ls_opp {n a b : Nat} {z : Int64} (hn : n ≤ 6) (ha : a < n) (hb : b < n) : ctC n (lsB (lsB z a b) b a) = 0 := by
  unfold ctC
  refine ct_0.mpr (fun r hr => ?_)
  rw [ls_cons hn hb ha, ls_cons hn ha hb]
  by_cases h : rowT n r a < rowT n r b
  · rw [decide_eq_false (show ¬ rowT n r b < rowT n r a by omega), Bool.and_false]
  · rw [decide_eq_false h, Bool.and_false, Bool.false_and]
theorem und_less {n a b : Nat} {z : Int64} (hn : n ≤ 6) (hab : a < b) (hb : b < n) (h1 : 0 < ctC n (lsB z a b)) (h2 : 0 < ctC n (lsB z b a)) (c d : Nat) (hcd : (c = a ∧ d = b) ∨ (c = b ∧ d = a)) : ctB (undB n (lsB z c d)) (n * n) < ctB (undB n z) (n * n) := by
  have ha : a < n := by omega
  have hc : c < n := by omega
  have hd : d < n := by omega
  refine ct_lt (fun p hp h => ?_) ⟨n * a + b, ?_, ?_, ?_⟩
  · have hp1 : p / n < n := Nat.div_lt_of_lt_mul hp
    have hp2 : p % n < n := Nat.mod_lt _ (by omega)
    unfold undB at h ⊢
    rw [Bool.and_eq_true, Bool.and_eq_true, decide_eq_true_eq, decide_eq_true_eq, decide_eq_true_eq] at h ⊢
    have s1 := ls_sub (z := z) hn hc hd hp1 hp2
    have s2 := ls_sub (z := z) hn hc hd hp2 hp1
    exact ⟨h.1, by omega, by omega⟩
  · have := Nat.mul_le_mul_left n (show a + 1 ≤ n by omega)
    rw [Nat.mul_add n a 1] at this
    omega
  · have e1 : (n * a + b) / n = a := by rw [Nat.mul_add_div (by omega), Nat.div_eq_of_lt hb, Nat.add_zero]
    have e2 : (n * a + b) % n = b := by rw [Nat.mul_add_mod]; exact Nat.mod_eq_of_lt hb
    unfold undB
    rw [e1, e2, decide_eq_true hab, decide_eq_true h1, decide_eq_true h2]; rfl
  · have e1 : (n * a + b) / n = a := by rw [Nat.mul_add_div (by omega), Nat.div_eq_of_lt hb, Nat.add_zero]
    have e2 : (n * a + b) % n = b := by rw [Nat.mul_add_mod]; exact Nat.mod_eq_of_lt hb
    unfold undB
    rw [e1, e2]
    rcases hcd with ⟨rfl, rfl⟩ | ⟨rfl, rfl⟩
    · rw [ls_opp (z := z) hn ha hb]; simp
    · rw [ls_opp (z := z) hn hb ha]; simp
theorem Sz_und {n : Nat} (hn : n ≤ 6) : ∀ (d : Nat) (z : Int64), ctB (undB n z) (n * n) ≤ d → SzP n d z
  | 0, z, h => by
    show ctC n z ≤ 1
    apply Classical.byContradiction
    intro h2
    obtain ⟨a, b, h3, h4, h5, h6⟩ := und_ex (z := z) hn (by omega)
    have := und_less hn h3 h4 h5 h6 a b (Or.inl ⟨rfl, rfl⟩)
    omega
  | d + 1, z, h => by
    by_cases h2 : ctC n z ≤ 1
    · exact Or.inl h2
    · obtain ⟨a, b, h3, h4, h5, h6⟩ := und_ex (z := z) hn (by omega)
      have l1 := und_less hn h3 h4 h5 h6 a b (Or.inl ⟨rfl, rfl⟩)
      have l2 := und_less hn h3 h4 h5 h6 b a (Or.inr ⟨rfl, rfl⟩)
      exact Or.inr ⟨a, b, h3, h4, h5, h6, Sz_und hn d _ (by omega), Sz_und hn d _ (by omega)⟩
theorem pairs_ct : ∀ n, n < 7 → ctB (fun p => decide (p / n < p % n)) (n * n) = n * (n - 1) / 2 := by decide
theorem Sz_all {n : Nat} {z : Int64} (hn : n ≤ 6) : SzP n (n * (n - 1) / 2) z := by
  refine Sz_und hn _ z ?_
  rw [← pairs_ct n (by omega)]
  refine ct_sub (fun p hp h => ?_)
  unfold undB at h
  rw [Bool.and_eq_true] at h
  exact h.1
/-- so many are needed -/
def ndP (P : Nat → Prop) (d : Nat) : Prop := ∀ q, P q ↔ d ≤ q
theorem nd_ex {n : Nat} {z : Int64} (hn : n ≤ 4) : ∃ d, d ≤ n * (n - 1) / 2 ∧ ndP (fun q => SzP n q z) d := by
  have key : ∀ m, SzP n m z → ∃ d, d ≤ m ∧ ndP (fun q => SzP n q z) d := by
    intro m
    induction m with
    | zero => intro h; exact ⟨0, Nat.le_refl _, fun q => ⟨fun _ => Nat.zero_le _, fun _ => Sz_le h (Nat.zero_le _)⟩⟩
    | succ m ih =>
      intro h
      by_cases h2 : SzP n m z
      · obtain ⟨d, hd, hp⟩ := ih h2
        exact ⟨d, by omega, hp⟩
      · refine ⟨m + 1, Nat.le_refl _, fun q => ⟨fun h3 => ?_, fun h3 => Sz_le h h3⟩⟩
        apply Classical.byContradiction
        intro h4
        exact h2 (Sz_le h3 (by omega))
  exact key _ (Sz_all (by omega))
