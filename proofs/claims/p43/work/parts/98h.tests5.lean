/-! CASE tests: both the same -/
theorem Fl_cov {n k : Nat} {f o : Nat → Nat} {l : List Nat} (hr : ∀ r, r ∈ l → r < 2 ^ n) (h : FlP n k f o l) : cov n k f o l := fun j hj ⟨r, h1, h2⟩ => by
  have h3 : l.any (fun r => tR n k f o r j) = true := by
    rw [h j hj]
    exact orB_iff.mpr ⟨r, h1, h2⟩
  obtain ⟨x, hx, e⟩ := List.any_eq_true.mp h3
  exact ⟨x, hx, hr x hx, e⟩
theorem cov_Fl {n k : Nat} {f o : Nat → Nat} {R : List Nat} (h : cov n k f o R) : ∃ l : List Nat, l.length ≤ R.length ∧ l.Pairwise (· < ·) ∧ (∀ r, r ∈ l → r < 2 ^ n) ∧ FlP n k f o l := by
  have hm : ∀ r, r ∈ (List.range (2 ^ n)).filter (fun r => decide (r ∈ R)) ↔ r < 2 ^ n ∧ r ∈ R := fun r => by
    rw [List.mem_filter, List.mem_range, decide_eq_true_eq]
  have hp : ((List.range (2 ^ n)).filter (fun r => decide (r ∈ R))).Pairwise (· < ·) := List.Pairwise.filter _ List.pairwise_lt_range
  refine ⟨_, nd_sub _ R (hp.imp (fun h e => by omega)) (fun r hr => ((hm r).mp hr).2), hp, fun r hr => ((hm r).mp hr).1, fun j hj => ?_⟩
  have hiff : ((List.range (2 ^ n)).filter (fun r => decide (r ∈ R))).any (fun r => tR n k f o r j) = true ↔ orB (fun r => tR n k f o r j) (2 ^ n) = true := by
    rw [orB_iff, List.any_eq_true]
    constructor
    · rintro ⟨r, h1, h2⟩
      exact ⟨r, ((hm r).mp h1).1, h2⟩
    · rintro ⟨r, h1, h2⟩
      obtain ⟨x, y1, y2, y3⟩ := h j hj ⟨r, h1, h2⟩
      exact ⟨x, (hm x).mpr ⟨y2, y1⟩, y3⟩
  cases e1 : orB (fun r => tR n k f o r j) (2 ^ n) with
  | true => exact hiff.mpr e1
  | false =>
    cases e2 : ((List.range (2 ^ n)).filter (fun r => decide (r ∈ R))).any (fun r => tR n k f o r j) with
    | false => rfl
    | true => rw [hiff.mp e2] at e1; cases e1
theorem B_list {n k v : Nat} {f o : Nat → Nat} (hB : ∀ a, a < 2 ^ n → B1 n k f o a v) : ∀ l : List Nat, l.Pairwise (· < ·) → (∀ r, r ∈ l → r < 2 ^ n) → l ≠ [] → l.length ≤ 4 → FlP n k f o l → v ≤ l.length
  | [], _, _, h0, _, _ => absurd rfl h0
  | [a], _, hr, _, _, hF => (hB a (hr a (by simp))).1 hF
  | [a, b], hp, hr, _, _, hF => ((hB a (hr a (by simp))).2 b ((List.pairwise_cons.mp hp).1 b (by simp)) (hr b (by simp))).1 hF
  | [a, b, c], hp, hr, _, _, hF => by
    obtain ⟨p1, p2⟩ := List.pairwise_cons.mp hp
    obtain ⟨p3, p4⟩ := List.pairwise_cons.mp p2
    exact (((hB a (hr a (by simp))).2 b (p1 b (by simp)) (hr b (by simp))).2 c (p3 c (by simp)) (hr c (by simp))).1 hF
  | [a, b, c, d], hp, hr, _, _, hF => by
    obtain ⟨p1, p2⟩ := List.pairwise_cons.mp hp
    obtain ⟨p3, p4⟩ := List.pairwise_cons.mp p2
    obtain ⟨p5, p6⟩ := List.pairwise_cons.mp p4
    exact (((hB a (hr a (by simp))).2 b (p1 b (by simp)) (hr b (by simp))).2 c (p3 c (by simp)) (hr c (by simp))).2 d (p5 d (by simp)) (hr d (by simp)) hF
  | a :: b :: c :: d :: e :: l, _, _, _, h4, _ => by
    simp only [List.length_cons] at h4
    omega
