/-! CASE tests: both the same -/
theorem Fl_cov {n k : Nat} {f o : Nat → Nat} {l : List Nat} (hr : ∀ r, r ∈ l → r < 2 ^ n) (h : FlP n k f o l) : cov n k f o l := fun j hj ⟨r, h1, h2⟩ => by
  have h3 : l.any (fun r => tR n k f o r j) = true := by
    rw [h j hj]
    exact orB_iff.mpr ⟨r, h1, h2⟩
  obtain ⟨x, hx, e⟩ := List.any_eq_true.mp h3
  exact ⟨x, hx, hr x hx, e⟩
theorem cov_Fl {n k : Nat} {f o : Nat → Nat} {R : List Nat} (h : cov n k f o R) : ∃ l : List Nat, l.length ≤ R.length ∧ l.Pairwise (· < ·) ∧ (∀ r, r ∈ l → r < 2 ^ n) ∧ FlP n k f o l := by
  have hm : ∀ r, r ∈ (List.range (2 ^ n)).filter (fun r => decide (r ∈ R)) ↔ r < 2 ^ n ∧ r ∈ R := fun r => by
    rw [List.mem_filter, List.mem_range, decide_eq_true_eq]
  have hp : ((List.range (2 ^ n)).filter (fun r => decide (r ∈ R))).Pairwise (· < ·) := List.Pairwise.filter _ List.pairwise_lt_range
  refine ⟨_, nd_sub _ R (hp.imp (fun h e => by omega)) (fun r hr => ((hm r).mp hr).2), hp, fun r hr => ((hm r).mp hr).1, fun j hj => ?_⟩
  have hiff : ((List.range (2 ^ n)).filter (fun r => decide (r ∈ R))).any (fun r => tR n k f o r j) = true ↔ orB (fun r => tR n k f o r j) (2 ^ n) = true := by
    rw [orB_iff, List.any_eq_true]
    constructor
    · rintro ⟨r, h1, h2⟩
      exact ⟨r, ((hm r).mp h1).1, h2⟩
    · rintro ⟨r, h1, h2⟩
      obtain ⟨x, y1, y2, y3⟩ := h j hj ⟨r, h1, h2⟩
      exact ⟨x, (hm x).mpr ⟨y2, y1⟩, y3⟩
  cases e1 : orB (fun r => tR n k f o r j) (2 ^ n) with
  | true => exact hiff.mpr e1
  | false =>
    cases e2 : ((List.range (2 ^ n)).filter (fun r => decide (r ∈ R))).any (fun r => tR n k f o r j) with
    | false => rfl
    | true => rw [hiff.mp e2] at e1; cases e1
theorem B_list {n k v : Nat} {f o : Nat → Nat} (hB : ∀ a, a < 2 ^ n → B1 n k f o a v) : ∀ l : List Nat, l.Pairwise (· < ·) → (∀ r, r ∈ l → r < 2 ^ n) → l ≠ [] → l.length ≤ 4 → FlP n k f o l → v ≤ l.length
  | [], _, _, h0, _, _ => absurd rfl h0
  | [a], _, hr, _, _, hF => (hB a (hr a (by simp))).1 hF
  | [a, b], hp, hr, _, _, hF => ((hB a (hr a (by simp))).2 b ((List.pairwise_cons.mp hp).1 b (by simp)) (hr b (by simp))).1 hF
  | [a, b, c], hp, hr, _, _, hF => by
    obtain ⟨p1, p2⟩ := List.pairwise_cons.mp hp
    obtain ⟨p3, p4⟩ := List.pairwise_cons.mp p2
    exact (((hB a (hr a (by simp))).2 b (p1 b (by simp)) (hr b (by simp))).2 c (p3 c (by simp)) (hr c (by simp))).1 hF
  | [a, b, c, d], hp, hr, _, _, hF => by
    obtain ⟨p1, p2⟩ := List.pairwise_cons.mp hp
    obtain ⟨p3, p4⟩ := List.pairwise_cons.mp p2
    obtain ⟨p5, p6⟩ := List.pairwise_cons.mp p4
    exact (((hB a (hr a (by simp))).2 b (p1 b (by simp)) (hr b (by simp))).2 c (p3 c (by simp)) (hr c (by simp))).2 d (p5 d (by simp)) (hr d (by simp)) hF
  | a :: b :: c :: d :: e :: l, _, _, _, h4, _ => by
    simp only [List.length_cons] at h4
    omega
theorem M_tests {n k : Nat} {f o : Nat → Nat} {m : Hp} (hG : Good n k f o) (hM : NetM n k f o m) : Ev (f_X11_tests m) (fun r => lstK (HtP n k f o) 4 r.1 ∧ Sm [15, 16] (wF m 0 0 0) r.2) := by
  have hn := hG.2.1
  have hk24 := hG.2.2.1
  have hle : 2 ^ n ≤ 2 ^ 6 := Nat.pow_le_pow_right (by omega) hn
  unfold f_X11_tests
  have hM1 := hM.t (x := 0)
  refine Ev_nm ?_
  generalize wF m 0 0 0 = g at hM1
  rw [hM1.1, shl_n hn]
  refine Ev_nm (M_zero hn (fun h3 hT3 => M_tab hG hM1 hT3 (fun h4 hT4 => ?_)))
  have hrow : ∀ r, r < 2 ^ n → Rp (3 * k) (tR n k f o r) (h4.2 15 r) (h4.2 16 r) := fun r hr => by
    have := hT4.2 r hr
    rw [if_neg (by omega)] at this
    exact this
  refine Ev_jn2 (fun x2 x4 => RowsM n k f o h4 x2 x4) (fun x2 x4 hR => ?_) (fun k199 hk => ?_)
  · refine Ev_jn0 (¬ (x2 = 0 ∧ x4 = 0)) (fun hne => Ev_bd _ (M_chosen hn hk24 hR) (fun y ⟨v, hS, hB, e⟩ => Ev_so ⟨?_, hT4.1⟩)) (fun k216 hk2 => ?_)
    · subst e
      have hcom : ∀ m, m ≤ 4 → HtP n k f o m → v ≤ m := fun m hm4 ⟨R, r1, r2⟩ => by
        obtain ⟨l, l1, l2, l3, l4⟩ := cov_Fl r2
        have h0 : l ≠ [] := fun z => by
          apply hne
          rw [z] at l4
          exact (Rp.eq (by omega) hR.2 Rp.z).mpr (fun j hj => (l4 j hj).symm)
        have := B_list hB l l2 l3 h0 (by omega) l4
        omega
      by_cases e : v = 5
      · rw [if_pos e]
        refine Or.inr ⟨rfl, fun m hm z => ?_⟩
        have := hcom m hm z
        omega
      · rw [if_neg e]
        have hv := hS.2.1
        obtain ⟨l, l1, l2, l3⟩ := hS.2.2 (by omega)
        refine Or.inl ⟨v, by omega, rfl, ⟨l, by omega, Fl_cov l2 l3⟩, fun m hm z => ?_⟩
        have := hcom m (by omega) z
        omega
    · refine Ev_i (fun e => Ev_i (fun e2 => Ev_so ⟨Or.inl ⟨0, by omega, rfl, ⟨[], Nat.le_refl _, fun j hj ⟨r, y1, y2⟩ => ?_⟩, fun m hm => absurd hm (by omega)⟩, hT4.1⟩) (fun e2 => hk2 (fun z => e2 (lg_eq.mpr z.2)))) (fun e => hk2 (fun z => e (lg_eq.mpr z.1)))
      have h1 := (Rp.eq (by omega) hR.2 Rp.z).mp ⟨lg_eq.mp e, lg_eq.mp e2⟩ j hj
      have h2 : orB (fun r => tR n k f o r j) (2 ^ n) = true := orB_iff.mpr ⟨r, y1, y2⟩
      rw [h2] at h1
      cases h1
  · refine Ev_fx3 (fun i a2 a4 a6 => a6 = nI i ∧ Rp (3 * k) (fun j => orB (fun r => tR n k f o r j) i) a2 a4) (2 ^ n) ?_ ?_ (FU_lt (by omega)) ⟨rfl, Rp.z⟩
    · rintro self i a2 a4 a6 hi ⟨rfl, hR⟩ hself
      unfold L_X11_tests_165
      rw [clN (by omega)]
      exact Ev_f (nle_n hi (by omega)) (Ev_ck rfl (by omega) (by omega) (Ev_nm (Ev_ck rfl (by omega) (by omega) (Ev_nm (hself _ _ _ ⟨nI_add i 1, Rp.or hR (hrow i hi)⟩)))))
    · rintro self a2 a4 a6 ⟨rfl, hR⟩
      unfold L_X11_tests_165
      exact Ev_t (Int32.le_refl _) (hk _ _ ⟨hrow, hR⟩)
theorem pc_32 {L : Nat} {xs : Nat → Int32} {i : Int32} {s : LWS} {kont : LWS → Option Unit} (hI : Inv s) (hk : ∀ s1, Inv s1 → kont s1 = some ()) : lc_32 L xs i s kont = some () := by
  obtain ⟨c, m, out⟩ := s
  have hI0 := hI
  obtain ⟨n, k, f, o, hG, hC, hM, hT, hB, hS, hSt, hA⟩ := hI
  obtain ⟨r1, h1, a1, a2⟩ := C_tests hG hC
  obtain ⟨r2, h2, b1, b2⟩ := M_tests hG hM
  simp only [lc_32, h1, h2, bd, nm, setC, setM]
  rw [if_pos (a1.uniq b1 (fun _ _ => Iff.rfl))]
  exact hk _ (hI0.scr2 (a2.mono (by decide)) (b2.mono (by decide)))
