/-! ORDERS: how far rows are; a search over any graph of numbers -/
theorem stF_mono {st n r : Nat} {e : Nat} (h : stF st n e r) : ∀ d, stF st n (e + d) r
  | 0 => h
  | d + 1 => Or.inl (stF_mono h d)
theorem stF_le {st n r e e2 : Nat} (h : stF st n e r) (hle : e ≤ e2) : stF st n e2 r := by
  have := stF_mono h (e2 - e)
  rwa [show e + (e2 - e) = e2 by omega] at this
def BfI (st n : Nat) (nb : Nat → List Nat) (qs : List Nat) (D : Nat → Nat) (a j : Nat) : Prop := (qs.Nodup) ∧ (∀ r, r ∈ qs → r < facN n) ∧ (∀ r, r ∈ qs → ∀ e, stF st n e r ↔ D r ≤ e) ∧ (∀ i i', i ≤ i' → i' < qs.length → D (qs.getD i 0) ≤ D (qs.getD i' 0)) ∧ (a < qs.length → ∀ i, i < qs.length → D (qs.getD i 0) ≤ D (qs.getD a 0) + 1) ∧ (∀ i, i < a → ∀ q, q ∈ nb (qs.getD i 0) → q ∈ qs) ∧ (a < qs.length → ∀ i, i < j → (nb (qs.getD a 0)).getD i 0 ∈ qs) ∧ (0 ∈ qs) ∧ (a ≤ qs.length)
theorem BfI.nd {st n : Nat} {nb : Nat → List Nat} {qs : List Nat} {D : Nat → Nat} {a j : Nat} (h : BfI st n nb qs D a j) : qs.Nodup := h.1
theorem BfI.lt {st n : Nat} {nb : Nat → List Nat} {qs : List Nat} {D : Nat → Nat} {a j : Nat} (h : BfI st n nb qs D a j) : ∀ r, r ∈ qs → r < facN n := h.2.1
theorem BfI.ex {st n : Nat} {nb : Nat → List Nat} {qs : List Nat} {D : Nat → Nat} {a j : Nat} (h : BfI st n nb qs D a j) : ∀ r, r ∈ qs → ∀ e, stF st n e r ↔ D r ≤ e := h.2.2.1
theorem BfI.so {st n : Nat} {nb : Nat → List Nat} {qs : List Nat} {D : Nat → Nat} {a j : Nat} (h : BfI st n nb qs D a j) : ∀ i i', i ≤ i' → i' < qs.length → D (qs.getD i 0) ≤ D (qs.getD i' 0) := h.2.2.2.1
theorem BfI.up {st n : Nat} {nb : Nat → List Nat} {qs : List Nat} {D : Nat → Nat} {a j : Nat} (h : BfI st n nb qs D a j) : a < qs.length → ∀ i, i < qs.length → D (qs.getD i 0) ≤ D (qs.getD a 0) + 1 := h.2.2.2.2.1
theorem BfI.cl {st n : Nat} {nb : Nat → List Nat} {qs : List Nat} {D : Nat → Nat} {a j : Nat} (h : BfI st n nb qs D a j) : ∀ i, i < a → ∀ q, q ∈ nb (qs.getD i 0) → q ∈ qs := h.2.2.2.2.2.1
theorem BfI.pa {st n : Nat} {nb : Nat → List Nat} {qs : List Nat} {D : Nat → Nat} {a j : Nat} (h : BfI st n nb qs D a j) : a < qs.length → ∀ i, i < j → (nb (qs.getD a 0)).getD i 0 ∈ qs := h.2.2.2.2.2.2.1
theorem BfI.ze {st n : Nat} {nb : Nat → List Nat} {qs : List Nat} {D : Nat → Nat} {a j : Nat} (h : BfI st n nb qs D a j) : 0 ∈ qs := h.2.2.2.2.2.2.2.1
theorem BfI.al {st n : Nat} {nb : Nat → List Nat} {qs : List Nat} {D : Nat → Nat} {a j : Nat} (h : BfI st n nb qs D a j) : a ≤ qs.length := h.2.2.2.2.2.2.2.2
theorem get_mem {qs : List Nat} {i : Nat} (h : i < qs.length) : qs.getD i 0 ∈ qs := by
  rw [List.getD_eq_getElem?_getD, List.getElem?_eq_getElem h]; exact List.getElem_mem _
theorem mem_get {qs : List Nat} {r : Nat} (h : r ∈ qs) : ∃ i, i < qs.length ∧ qs.getD i 0 = r := by
  obtain ⟨i, hi, e⟩ := List.mem_iff_getElem.mp h
  exact ⟨i, hi, by rw [List.getD_eq_getElem?_getD, List.getElem?_eq_getElem hi]; exact e⟩
theorem get_app {qs : List Nat} {i x : Nat} (h : i < qs.length) : (qs ++ [x]).getD i 0 = qs.getD i 0 := by
  rw [List.getD_eq_getElem?_getD, List.getElem?_append_left h, ← List.getD_eq_getElem?_getD]
theorem get_last {qs : List Nat} {x : Nat} : (qs ++ [x]).getD qs.length 0 = x := by
  rw [List.getD_eq_getElem?_getD, List.getElem?_append_right (Nat.le_refl _), Nat.sub_self]; rfl
def NbOk (st n : Nat) (nb : Nat → List Nat) : Prop := ∀ p, p < facN n → (∀ q, q ∈ nb p → q < facN n ∧ (stE st n p q ∨ q = 0)) ∧ ∀ q, q < facN n → stE st n p q → q ∈ nb p
theorem BfI.start {st n : Nat} {nb : Nat → List Nat} : BfI st n nb [0] (fun _ => 0) 0 0 := by
  refine ⟨by simp, fun r hr => by rw [List.mem_singleton.mp hr]; exact fac_pos n, fun r hr e => ?_, fun i i' _ _ => Nat.le_refl _, fun _ i _ => (by show 0 ≤ 0 + 1; omega), fun i hi => absurd hi (by omega), fun _ i hi => absurd hi (by omega), by simp, by simp⟩
  rw [List.mem_singleton.mp hr]
  exact ⟨fun _ => Nat.zero_le _, fun _ => stF_le (show stF st n 0 0 from rfl) (Nat.zero_le _)⟩
theorem BfI.vis {st n a j : Nat} {nb : Nat → List Nat} {qs : List Nat} {D : Nat → Nat} (hI : BfI st n nb qs D a j) (hN : NbOk st n nb) (ha : a < qs.length) : ∀ e, e ≤ D (qs.getD a 0) → ∀ r, r < facN n → stF st n e r → r ∈ qs
  | 0, _, r, _, h => by
    have : r = 0 := h
    rw [this]; exact hI.ze
  | e + 1, he, r, hr, h => by
    rcases h with h | ⟨p, hp, h1, h2⟩
    · exact hI.vis hN ha e (by omega) r hr h
    · have hpq := hI.vis hN ha e (by omega) p hp h1
      have hDp := (hI.ex p hpq e).mp h1
      obtain ⟨i, hi, ei⟩ := mem_get hpq
      have hia : i < a := by
        apply Classical.byContradiction
        intro h3
        have := hI.so a i (by omega) hi
        rw [ei] at this
        omega
      exact hI.cl i hia r (by rw [ei]; exact (hN p hp).2 r hr h2)
theorem BfI.new {st n a j q : Nat} {nb : Nat → List Nat} {qs : List Nat} {D : Nat → Nat} (hI : BfI st n nb qs D a j) (hN : NbOk st n nb) (ha : a < qs.length) (hj : j < (nb (qs.getD a 0)).length) (hq : (nb (qs.getD a 0)).getD j 0 = q) (hno : q ∉ qs) : BfI st n nb (qs ++ [q]) (updN D q (D (qs.getD a 0) + 1)) a (j + 1) := by
  have hp := hI.lt _ (get_mem ha)
  have hqm : q ∈ nb (qs.getD a 0) := by rw [← hq]; exact get_mem hj
  obtain ⟨hql, hqe⟩ := (hN _ hp).1 q hqm
  have hq0 : q ≠ 0 := fun e => hno (by rw [e]; exact hI.ze)
  have hE := hqe.resolve_right hq0
  have hDq : updN D q (D (qs.getD a 0) + 1) q = D (qs.getD a 0) + 1 := by unfold updN; rw [if_pos rfl]
  have hDo : ∀ r, r ∈ qs → updN D q (D (qs.getD a 0) + 1) r = D r := fun r hr => by
    unfold updN
    rw [if_neg (fun e => hno (by rw [← e]; exact hr))]
  have hlen : (qs ++ [q]).length = qs.length + 1 := by rw [List.length_append]; rfl
  refine ⟨?_, fun r hr => ?_, fun r hr e => ?_, fun i i' h1 h2 => ?_, fun _ i hi => ?_, fun i hi r hr => ?_, fun _ i hi => ?_, List.mem_append_left _ hI.ze, by rw [hlen]; have := hI.al; omega⟩
  · rw [List.nodup_append]
    exact ⟨hI.nd, by simp, fun x hx y hy e => hno (by have := List.mem_singleton.mp hy; subst this; subst e; exact hx)⟩
  · rcases List.mem_append.mp hr with h | h
    · exact hI.lt r h
    · rw [List.mem_singleton.mp h]; exact hql
  · rcases List.mem_append.mp hr with h | h
    · rw [hDo r h]; exact hI.ex r h e
    · have := List.mem_singleton.mp h
      subst this
      rw [hDq]
      constructor
      · intro h1
        apply Classical.byContradiction
        intro h2
        exact hno (hI.vis hN ha e (by omega) r hql h1)
      · intro h1
        refine stF_le (e := D (qs.getD a 0) + 1) (Or.inr ⟨_, hp, ?_, hE⟩) h1
        exact (hI.ex _ (get_mem ha) _).mpr (Nat.le_refl _)
  · rw [hlen] at h2
    by_cases e1 : i' < qs.length
    · rw [get_app e1, get_app (show i < qs.length by omega), hDo _ (get_mem e1), hDo _ (get_mem (show i < qs.length by omega))]
      exact hI.so i i' h1 e1
    · have e2 : i' = qs.length := by omega
      rw [e2, get_last, hDq]
      by_cases e3 : i < qs.length
      · rw [get_app e3, hDo _ (get_mem e3)]
        exact hI.up ha i e3
      · have e4 : i = qs.length := by omega
        rw [e4, get_last, hDq]
        exact Nat.le_refl _
  · rw [get_app ha, hDo _ (get_mem ha)]
    rw [hlen] at hi
    by_cases e1 : i < qs.length
    · rw [get_app e1, hDo _ (get_mem e1)]; exact hI.up ha i e1
    · have e2 : i = qs.length := by omega
      rw [e2, get_last, hDq]
      exact Nat.le_refl _
  · rw [get_app (show i < qs.length by omega)] at hr
    exact List.mem_append_left _ (hI.cl i hi r hr)
  · rw [get_app ha]
    by_cases e1 : i = j
    · rw [e1, hq]; simp
    · exact List.mem_append_left _ (hI.pa ha i (by omega))
theorem BfI.old {st n a j : Nat} {nb : Nat → List Nat} {qs : List Nat} {D : Nat → Nat} (hI : BfI st n nb qs D a j) (hm : (nb (qs.getD a 0)).getD j 0 ∈ qs) : BfI st n nb qs D a (j + 1) :=
  ⟨hI.nd, hI.lt, hI.ex, hI.so, hI.up, hI.cl, fun ha i hi => by
    by_cases e : i = j
    · rw [e]; exact hm
    · exact hI.pa ha i (by omega), hI.ze, hI.al⟩
theorem BfI.next {st n a : Nat} {nb : Nat → List Nat} {qs : List Nat} {D : Nat → Nat} (hI : BfI st n nb qs D a (nb (qs.getD a 0)).length) (ha : a < qs.length) : BfI st n nb qs D (a + 1) 0 :=
  ⟨hI.nd, hI.lt, hI.ex, hI.so, fun h i hi => by
    have h1 := hI.up ha i hi
    have h2 := hI.so a (a + 1) (by omega) h
    omega, fun i hi q hq => by
    by_cases e : i = a
    · rw [e] at hq
      obtain ⟨x, hx, ex⟩ := mem_get hq
      rw [← ex]
      exact hI.pa ha x hx
    · exact hI.cl i (by omega) q hq, fun _ i hi => absurd hi (by omega), hI.ze, by omega⟩
theorem BfI.done {st n : Nat} {nb : Nat → List Nat} {qs : List Nat} {D : Nat → Nat} {j : Nat} (hI : BfI st n nb qs D qs.length j) (hN : NbOk st n nb) : ∀ e r, r < facN n → stF st n e r → r ∈ qs
  | 0, r, _, h => by
    have : r = 0 := h
    rw [this]; exact hI.ze
  | e + 1, r, hr, h => by
    rcases h with h | ⟨p, hp, h1, h2⟩
    · exact hI.done hN e r hr h
    · have hpq := hI.done hN e p hp h1
      obtain ⟨i, hi, ei⟩ := mem_get hpq
      exact hI.cl i hi r (by rw [ei]; exact (hN p hp).2 r hr h2)
/-! each row can be reached: neighbours' changes, one after the other -/
def invC (n : Nat) (v : Nat → Nat) : Nat := (List.range n).foldr (fun w s => lessN n v w + s) 0
def chkI (n r : Nat) : Bool := Nat.beq r 0 || (List.range (n - 1)).any (fun a => Nat.beq (invC n (swapN a (a + 1) (rowT n r)) + 1) (invC n (rowT n r)))
theorem inv_ok : ∀ n, n < 7 → ∀ r, r < facN n → (chkI n r && Nat.ble (invC n (rowT n r)) 15) = true := by decide +kernel
theorem invC_congr {n : Nat} {u v : Nat → Nat} (h : ∀ x, x < n → u x = v x) : invC n u = invC n v := by
  unfold invC
  have : ∀ l : List Nat, (∀ w, w ∈ l → w < n) → l.foldr (fun w s => lessN n u w + s) 0 = l.foldr (fun w s => lessN n v w + s) 0 := by
    intro l
    induction l with
    | nil => intro _; rfl
    | cons w l ih =>
      intro hl
      show lessN n u w + _ = lessN n v w + _
      rw [ih (fun x hx => hl x (List.mem_cons_of_mem _ hx)), less_congr (hl w List.mem_cons_self) h]
  exact this _ (fun w hw => List.mem_range.mp hw)
theorem chg_mem {w n : Nat} {s : Nat → Nat} : s ∈ chgL w n ↔ ∃ a d, a < n ∧ d < min w (n - 1 - a) ∧ s = swapN a (a + 1 + d) (fun x => x) := by
  unfold chgL
  rw [List.mem_flatMap]
  constructor
  · rintro ⟨a, ha, h⟩
    obtain ⟨d, hd, e⟩ := List.mem_map.mp h
    exact ⟨a, d, List.mem_range.mp ha, List.mem_range.mp hd, e.symm⟩
  · rintro ⟨a, d, ha, hd, e⟩
    exact ⟨a, List.mem_range.mpr ha, List.mem_map.mpr ⟨d, List.mem_range.mpr hd, e.symm⟩⟩
theorem flp_mem {n : Nat} {s : Nat → Nat} : s ∈ flpL n ↔ ∃ d, d < n - 1 ∧ s = flipN 0 (2 + d) (fun x => x) := by
  unfold flpL
  rw [List.mem_map]
  constructor
  · rintro ⟨d, hd, e⟩; exact ⟨d, List.mem_range.mp hd, e.symm⟩
  · rintro ⟨d, hd, e⟩; exact ⟨d, List.mem_range.mpr hd, e.symm⟩
theorem blk_mem {n : Nat} {s : Nat → Nat} : s ∈ blkL n ↔ ∃ a b e, a < b ∧ b < e ∧ e ≤ n ∧ s = blkS a b e := by
  unfold blkL
  rw [List.mem_flatMap]
  constructor
  · rintro ⟨a, ha, h⟩
    obtain ⟨i, hi, h2⟩ := List.mem_flatMap.mp h
    obtain ⟨j, hj, e⟩ := List.mem_map.mp h2
    have ha := List.mem_range.mp ha
    have hi := List.mem_range.mp hi
    have hj := List.mem_range.mp hj
    exact ⟨a, a + 1 + i, a + 1 + i + 1 + j, by omega, by omega, by omega, e.symm⟩
  · rintro ⟨a, b, e, h1, h2, h3, h4⟩
    refine ⟨a, List.mem_range.mpr (by omega), List.mem_flatMap.mpr ⟨b - a - 1, List.mem_range.mpr (by omega), List.mem_map.mpr ⟨e - b - 1, List.mem_range.mpr (by omega), ?_⟩⟩⟩
    rw [h4, show a + 1 + (b - a - 1) = b by omega, show b + 1 + (e - b - 1) = e by omega]
theorem swap_src {a b x : Nat} {v : Nat → Nat} : v (swapN a b (fun y => y) x) = swapN a b v x := by
  unfold swapN
  split
  · rfl
  · split <;> rfl
theorem flip_src {a b x : Nat} {v : Nat → Nat} : v (flipN a b (fun y => y) x) = flipN a b v x := by
  unfold flipN
  split <;> rfl
theorem src_lt {st n : Nat} {s : Nat → Nat} (hs : s ∈ stepsN st n) : ∀ x, x < n → s x < n := by
  intro x hx
  unfold stepsN at hs
  have hchg : ∀ w, w ≤ n → s ∈ chgL w n → s x < n := fun w _ h => by
    obtain ⟨a, d, ha, hd, rfl⟩ := chg_mem.mp h
    have : d < n - 1 - a := by omega
    simp only [swapN]
    split
    · omega
    · split <;> omega
  split at hs
  · obtain ⟨a, d, ha, hd, rfl⟩ := chg_mem.mp hs
    have : d < n - 1 - a := by omega
    simp only [swapN]
    split
    · omega
    · split <;> omega
  · split at hs
    · exact hchg (n - 1) (by omega) hs
    · split at hs
      · obtain ⟨d, hd, rfl⟩ := flp_mem.mp hs
        simp only [flipN]
        split <;> omega
      · obtain ⟨a, b, e, h1, h2, h3, rfl⟩ := blk_mem.mp hs
        unfold blkS
        split
        · split <;> omega
        · omega
theorem flip_perm {n a b : Nat} {v : Nat → Nat} (hb : b ≤ n) (hv : PermN n v) : PermN n (flipN a b v) := by
  refine ⟨fun x hx => ?_, fun x y hx hy e => ?_⟩
  · unfold flipN
    split
    · exact hv.1 _ (by omega)
    · exact hv.1 x hx
  · unfold flipN at e
    by_cases h1 : a ≤ x ∧ x < b
    · by_cases h2 : a ≤ y ∧ y < b
      · rw [if_pos h1, if_pos h2] at e
        have := hv.2 _ _ (by omega) (by omega) e
        omega
      · rw [if_pos h1, if_neg h2] at e
        have := hv.2 _ _ (by omega) hy e
        omega
    · by_cases h2 : a ≤ y ∧ y < b
      · rw [if_neg h1, if_pos h2] at e
        have := hv.2 _ _ hx (by omega) e
        omega
      · rw [if_neg h1, if_neg h2] at e
        exact hv.2 _ _ hx hy e
theorem blk_flips {a b e x : Nat} {v : Nat → Nat} (h1 : a < b) (h2 : b < e) : v (blkS a b e x) = flipN a e (flipN b e (flipN a b v)) x := by
  unfold flipN blkS
  by_cases hx : a ≤ x ∧ x < e
  · rw [if_pos hx, if_pos hx]
    by_cases h3 : x + b - a < e
    · rw [if_pos h3, if_pos (by omega), if_neg (by omega)]
      congr 1
      omega
    · rw [if_neg h3, if_neg (by omega), if_pos (by omega)]
      congr 1
      omega
  · rw [if_neg hx, if_neg hx, if_neg (by omega), if_neg (by omega)]
/-- the row behind a step -/
theorem src_perm {st n : Nat} {s v : Nat → Nat} (hs : s ∈ stepsN st n) (hv : PermN n v) : PermN n (fun x => v (s x)) := by
  have hchg : ∀ w, s ∈ chgL w n → PermN n (fun x => v (s x)) := fun w h => by
    obtain ⟨a, d, ha, hd, rfl⟩ := chg_mem.mp h
    have : d < n - 1 - a := by omega
    exact PermN.congr (fun x _ => swap_src.symm) (swap_perm (a := a) (b := a + 1 + d) (by omega) (by omega) (by omega) hv)
  unfold stepsN at hs
  split at hs
  · exact hchg _ hs
  · split at hs
    · exact hchg _ hs
    · split at hs
      · obtain ⟨d, hd, rfl⟩ := flp_mem.mp hs
        exact PermN.congr (fun x _ => flip_src.symm) (flip_perm (by omega) hv)
      · obtain ⟨a, b, e, h1, h2, h3, rfl⟩ := blk_mem.mp hs
        exact PermN.congr (fun x _ => (blk_flips h1 h2).symm) (flip_perm h3 (flip_perm h3 (flip_perm (by omega) hv)))
/-- a change of neighbours is some few steps -/
theorem st_nb {st n a : Nat} (hst : st < 4) (hn : n ≤ 6) (ha : a + 1 < n) {d p r : Nat} (hp : p < facN n) (hr : r < facN n) (h : stF st n d p) (he : ∀ x, x < n → rowT n r x = swapN a (a + 1) (rowT n p) x) : stF st n (d + 3) r := by
  have hone : ∀ s, s ∈ stepsN st n → (∀ x, x < n → rowT n r x = rowT n p (s x)) → stF st n (d + 3) r := fun s hs hx => stF_le (e := d + 1) (Or.inr ⟨p, hp, h, s, hs, hx⟩) (by omega)
  have h4 : st = 0 ∨ st = 1 ∨ st = 2 ∨ st = 3 := by omega
  rcases h4 with rfl | rfl | rfl | rfl
  · exact hone (swapN a (a + 1) (fun y => y)) (chg_mem.mpr ⟨a, 0, by omega, by omega, rfl⟩) (fun x hx => (he x hx).trans swap_src.symm)
  · exact hone (swapN a (a + 1) (fun y => y)) (chg_mem.mpr ⟨a, 0, by omega, by omega, rfl⟩) (fun x hx => (he x hx).trans swap_src.symm)
  · have hpp := row_perm hn hp
    have p1 := flip_perm (a := 0) (b := a + 2) (by omega) hpp
    have p2 := flip_perm (a := 0) (b := 2) (by omega) p1
    have m1 : flipN 0 (a + 2) (fun y => y) ∈ stepsN 2 n := flp_mem.mpr ⟨a, by omega, by rw [Nat.add_comm]⟩
    have m2 : flipN 0 2 (fun y => y) ∈ stepsN 2 n := flp_mem.mpr ⟨0, by omega, rfl⟩
    have q1 := num_lt' hn p1
    have q2 := num_lt' hn p2
    refine Or.inr ⟨_, q2, Or.inr ⟨_, q1, Or.inr ⟨p, hp, h, _, m1, fun x hx => ?_⟩, _, m2, fun x hx => ?_⟩, _, m1, fun x hx => ?_⟩
    · exact (num_row hn p1 hx).trans flip_src.symm
    · refine (num_row hn p2 hx).trans (Eq.trans ?_ (flip_src (v := rowT n (num n (flipN 0 (a + 2) (rowT n p))))).symm)
      unfold flipN
      split
      · exact (num_row hn p1 (by omega)).symm
      · exact (num_row hn p1 hx).symm
    · rw [he x hx, flip_src (v := rowT n (num n (flipN 0 2 (flipN 0 (a + 2) (rowT n p)))))]
      have hA : ∀ y, y < n → rowT n (num n (flipN 0 2 (flipN 0 (a + 2) (rowT n p)))) y = flipN 0 2 (flipN 0 (a + 2) (rowT n p)) y := fun y hy => num_row hn p2 hy
      unfold flipN at hA ⊢
      unfold swapN
      by_cases e1 : x = a
      · subst e1
        rw [if_pos rfl, if_pos (by omega), hA _ (by omega), if_pos (by omega), if_pos (by omega)]
        congr 1
        omega
      · rw [if_neg e1]
        by_cases e2 : x = a + 1
        · subst e2
          rw [if_pos rfl, if_pos (by omega), hA _ (by omega), if_pos (by omega), if_pos (by omega)]
          congr 1
          omega
        · rw [if_neg e2]
          by_cases e3 : x < a + 2
          · rw [if_pos (by omega), hA _ (by omega), if_neg (by omega), if_pos (by omega)]
            congr 1
            omega
          · rw [if_neg (by omega), hA _ hx, if_neg (by omega), if_neg (by omega)]
  · refine hone (blkS a (a + 1) (a + 2)) (blk_mem.mpr ⟨a, a + 1, a + 2, by omega, by omega, by omega, rfl⟩) (fun x hx => ?_)
    rw [he x hx]
    unfold blkS swapN
    by_cases e1 : x = a
    · subst e1
      rw [if_pos rfl, if_pos (by omega), if_pos (by omega)]
      congr 1
      omega
    · rw [if_neg e1]
      by_cases e2 : x = a + 1
      · subst e2
        rw [if_pos rfl, if_pos (by omega), if_neg (by omega)]
        congr 1
        omega
      · rw [if_neg e2, if_neg (by omega)]
theorem st_all {st n : Nat} (hst : st < 4) (hn : n ≤ 6) : ∀ d r, r < facN n → invC n (rowT n r) ≤ d → stF st n (3 * d) r
  | d, r, hr, hd => by
    have h := inv_ok n (by omega) r hr
    unfold chkI at h
    rw [Bool.and_eq_true, Bool.or_eq_true] at h
    rcases h.1 with h0 | h0
    · have : r = 0 := Nat.eq_of_beq_eq_true h0
      exact stF_le (show stF st n 0 r from this) (Nat.zero_le _)
    · obtain ⟨a, ha, e⟩ := List.any_eq_true.mp h0
      have ha := List.mem_range.mp ha
      have e := Nat.eq_of_beq_eq_true e
      have hp := swap_perm (a := a) (b := a + 1) (by omega) (by omega) (by omega) (row_perm hn hr)
      have hq := num_lt' hn hp
      have hc := invC_congr (n := n) (u := rowT n (num n (swapN a (a + 1) (rowT n r)))) (v := swapN a (a + 1) (rowT n r)) (fun x hx => num_row hn hp hx)
      cases d with
      | zero => omega
      | succ d =>
        have ih := st_all hst hn d _ hq (by omega)
        refine st_nb hst hn (show a + 1 < n by omega) hq hr ih (fun x hx => ?_)
        rw [swap_congr (by omega) (by omega) (fun y hy => num_row hn hp hy) x hx, swap_swap (by omega)]
theorem st_45 {st n r : Nat} (hst : st < 4) (hn : n ≤ 6) (hr : r < facN n) : stF st n 45 r := by
  have h := inv_ok n (by omega) r hr
  rw [Bool.and_eq_true] at h
  exact st_all hst hn 15 r hr (Nat.le_of_ble_eq_true h.2)
