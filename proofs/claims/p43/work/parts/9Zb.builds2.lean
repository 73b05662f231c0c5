/-! P43: build, mirror, untangle and prune beside the class -/
theorem m1_ne {p : Nat} (h : p < 2 ^ 31) : ¬ nI p = -1 ∧ (0 : Int32) ≤ nI p := ⟨ne_m1 h, nI_pos' h⟩
set_option maxHeartbeats 2000000 in
theorem b_build {T n k : Nat} {f o : Nat → Nat} {c : Hp} {x2 : Int32} {r0 r1 r2 r3 r4 : Row} (hL : LawS T n k f o c r0 r1 r2 r3 r4) : Ev (f_L_builds (3 : Int32) x2 c r0 r1 r2 r3 r4) (BdP T r1 r3) := by
  have hL0 := hL
  obtain ⟨hG, h5, hC, hc, hq, hTp, hB, hS, hSt, hA⟩ := hL
  have hTp0 := hTp
  obtain ⟨t, ch, ht, t11, tq2, hch⟩ := hTp
  have hn := hG.2.1
  have hn2 := hG.1
  have hk24 := hG.2.2.1
  have hfl := fltL_same (rt := r1) (rq := r4) hn ht t11 hq.1 tq2 hch
  obtain ⟨y, hy, hsp⟩ := C_faultSpec hn hn2 ht t11 (fun i hi => ⟨(hch i hi).1, (hch i hi).2.1⟩)
  unfold f_L_builds
  rw [cl0, hq.1, cl1, hq.2, cl2, tq2, n1, nI_add, n4, ndiv (by omega) (by omega) (by omega)]
  refine Ev_c0 (Ev_f (by decide) (Ev_f (by decide) (Ev_f (by decide) (Ev_t rfl (Ev_ck (j := 2) rfl (by omega) (by omega) (Ev_nm (Ev_bde (hfl.trans hy) ?_)))))))
  rcases hsp with ⟨rfl, t3, hd, hne⟩ | ⟨p, hp, rfl⟩
  · have hps : ∀ i, i < (t + 1) / 4 → 4 * i + 2 < t := fun i hi => by omega
    have hkk := k_build (c := c) hG hC ht t3 t11 (fun i hi => (hch i hi).2.1) hd hy
    refine Ev_jn1 (fun z => z = (1 : Int32)) (fun z hz => ?_) (fun k307 h307 => Ev_f (by decide) (h307 _ rfl))
    subst hz
    refine Ev_jn1 (fun z => z = if k + (t + 1) / 4 ≤ 24 then (1 : Int32) else 0) (fun z hz => ?_) (fun k331 h331 => ?_)
    · by_cases h : k + (t + 1) / 4 ≤ 24
      · rw [if_pos h] at hz
        subst hz
        refine Ev_jn3 (fun s0 s2 s4 => RcN (k + (t + 1) / 4) (extN f k ((pairs ch ((t + 1) / 4)).map Prod.fst)) (extN o k ((pairs ch ((t + 1) / 4)).map Prod.snd)) s0 ∧ QrN n (k + (t + 1) / 4) s4 ∧ s4 2 = 0 ∧ RwN 6 s2 (fun _ => 0)) (fun s0 s2 s4 ⟨p1, p2, p3, p4⟩ => ?_) (fun k392 h392 => ?_)
        · refine Ev_bd _ hkk (fun y ⟨y1, _⟩ => ?_)
          obtain ⟨e1, e2, e3, e4, e5⟩ := y1 h
          have hg : Good n (k + (pairs ch ((t + 1) / 4)).length) (extN f k ((pairs ch ((t + 1) / 4)).map Prod.fst)) (extN o k ((pairs ch ((t + 1) / 4)).map Prod.snd)) := ext_good hG (by rw [pairs_l]; exact h) (fun p hp => by
            unfold pairs at hp
            obtain ⟨i, hi, rfl⟩ := List.mem_map.mp hp
            have hi := hps i (List.mem_range.mp hi)
            have d1 := hd (4 * i) (by omega) (by omega)
            have d2 := hd (4 * i + 2) (by omega) (by omega)
            have d3 := hne (4 * i) (by omega) (by omega)
            exact ⟨d1.2, d2.2, by dsimp only; omega⟩)
          rw [pairs_l] at hg
          rw [pairs_l] at e2
          have hN := hL0.chg hg e2 e3 (by decide) e4 p1 p2 (TapL.z e5 p3) p4
          exact Ev_jn1 (fun z => z = nI ((t + 1) / 4)) (fun z hz => Ev_t (e1.trans hz.symm) (Ev_1 ⟨n, _, _, _, hN⟩)) (fun k424 h424 => Ev_f (by decide) (Ev_f (by decide) (h424 _ rfl)))
        · refine Ev_f (by decide) (Ev_jn2 (fun s0 s4 => PtN k f o (pairs ch ((t + 1) / 4)) r4 s0 s4) (fun s0 s4 hP => ?_) (fun k382 h382 => ?_))
          · obtain ⟨p3, p4, p5⟩ := hP
            rw [pairs_l] at p3 p4
            refine Ev_ck (j := 2) rfl (by omega) (by omega) (Ev_nm (Ev_bd _ r_forgets (fun r49 h49 => h392 _ _ _ ⟨p3, ⟨?_, ?_⟩, upd_s _ _ _, h49⟩)))
            · rw [upd_n _ _ (by omega), p5 0 (by omega)]; exact hq.1
            · rw [upd_n _ _ (by omega)]; exact p4
          · refine Ev_fx3 (fun j a s0 s4 => a = nI j ∧ PtN k f o (pairs ch j) r4 s0 s4) ((t + 1) / 4) ?_ ?_ (FU_lt (by omega)) ⟨rfl, PtN.nil hc hq.2⟩
            · rintro self j a s0 s4 hj ⟨rfl, hP⟩ hself
              have hi := hps j hj
              have d1 := hd (4 * j) (by omega) (by omega)
              have d2 := hd (4 * j + 2) (by omega) (by omega)
              unfold L_L_builds_341
              rw [n4, nmul, n2, nI_add, clN (by omega), clN (by omega), (hch (4 * j) (by omega)).2.2, (hch (4 * j + 2) (by omega)).2.2, show (48 : Int32) = nI 48 from rfl, nsub d1.1, nsub d2.1]
              refine Ev_f (nle_n hj (by omega)) (Ev_ck rfl (by omega) (by omega) (Ev_ck rfl (by omega) (by omega) (Ev_bd _ (r_puts hP (by rw [pairs_l]; omega)) (fun r hr => hself _ _ _ ⟨nI_add j 1, ?_⟩))))
              rw [pairs_s]
              exact hr
            · rintro self a s0 s4 ⟨rfl, hP⟩
              unfold L_L_builds_341
              exact Ev_t (Int32.le_refl _) (h382 _ _ hP)
      · rw [if_neg h] at hz
        subst hz
        refine Ev_jn3 (fun s0 s2 s4 => s0 = r0 ∧ s2 = r2 ∧ s4 = r4) (fun s0 s2 s4 ⟨p1, p2, p3⟩ => ?_) (fun k74 h74 => Ev_t rfl (h74 _ _ _ ⟨rfl, rfl, rfl⟩))
        subst p1 p2 p3
        refine Ev_bd _ hkk (fun y ⟨_, y2⟩ => ?_)
        obtain ⟨e1, e2⟩ := y2 (by omega)
        exact Ev_jn1 (fun z => z = (-1003 : Int32)) (fun z hz => Ev_t (e1.trans hz.symm) (Ev_1 ⟨n, k, f, o, hL0.sm e2 (by decide)⟩)) (fun k101 h101 => Ev_f (by decide) (Ev_t rfl (h101 _ rfl)))
    · refine Ev_jn0 (24 < k + (t + 1) / 4) (fun h => h331 _ (by rw [if_neg (by omega)])) (fun k330 h330 => Ev_f (by decide) (Ev_ck (j := 1) rfl (by omega) (by omega) ?_))
      rw [show (25 : Int32) = nI 25 from rfl, nI_add]
      refine Ev_i (fun e => h330 ?_) (fun e => h331 _ ?_)
      · rw [nI_leI (by omega) (by omega)] at e
        omega
      · rw [nI_leI (by omega) (by omega)] at e
        rw [if_pos (by omega)]; rfl
  · have hkk := k_buildX (c := c) hC hy (m1_ne hp).1
    refine Ev_jn1 (fun z => z = (0 : Int32)) (fun z hz => ?_) (fun k307 h307 => Ev_t (m1_ne hp).2 (h307 _ rfl))
    subst hz
    refine Ev_jn1 (fun z => z = (0 : Int32)) (fun z hz => ?_) (fun k331 h331 => Ev_jn0 True (fun _ => h331 _ rfl) (fun k330 h330 => Ev_t rfl (h330 trivial)))
    subst hz
    refine Ev_jn3 (fun s0 s2 s4 => s0 = r0 ∧ s2 = r2 ∧ s4 = r4) (fun s0 s2 s4 ⟨p1, p2, p3⟩ => ?_) (fun k74 h74 => Ev_t rfl (h74 _ _ _ ⟨rfl, rfl, rfl⟩))
    subst p1 p2 p3
    exact Ev_bde hkk (Ev_jn1 (fun z => z = (-1002 : Int32)) (fun z hz => Ev_t hz.symm (Ev_1 ⟨n, k, f, o, hL0⟩)) (fun k101 h101 => Ev_t rfl (h101 _ rfl)))
theorem Good.mir {n k : Nat} {f o : Nat → Nat} (h : Good n k f o) : Good n k (fun i => n - 1 - o i) (fun i => n - 1 - f i) :=
  ⟨h.1, h.2.1, h.2.2.1, fun i hi => by
    obtain ⟨a, b, c⟩ := h.2.2.2 i hi
    dsimp only
    omega⟩
set_option maxHeartbeats 2000000 in
theorem b_mirror {T n k : Nat} {f o : Nat → Nat} {c : Hp} {x2 : Int32} {r0 r1 r2 r3 r4 : Row} (hL : LawS T n k f o c r0 r1 r2 r3 r4) : Ev (f_L_builds (4 : Int32) x2 c r0 r1 r2 r3 r4) (BdP T r1 r3) := by
  have hL0 := hL
  obtain ⟨hG, h5, hC, hc, hq, hTp, hB, hS, hSt, hA⟩ := hL
  have hn2 := hG.1
  have hk24 := hG.2.2.1
  unfold f_L_builds
  rw [cl0, hq.1, cl1, hq.2]
  refine Ev_c0 (Ev_f (by decide) (Ev_f (by decide) (Ev_f (by decide) (Ev_f (by decide) (Ev_bd _ r_forgets (fun r1' h1' => Ev_t rfl (Ev_bd _ (C_mirror hG hC) (fun c1 ⟨m1, m2, m3⟩ => ?_))))))))
  refine Ev_jn1 (fun s0 => RcN k (fun i => n - 1 - o i) (fun i => n - 1 - f i) s0) (fun s0 p0 => Ev_1 ⟨n, k, _, _, hL0.chg hG.mir m1 m2 (by decide) m3 p0 hq (hTp.sm m2 (by decide) (by decide)) h1'⟩) (fun k497 h497 => ?_)
  refine Ev_fx2 (fun j a s0 => a = nI j ∧ ∀ i, i < k → s0 i = if i < j then nI (n - 1 - o i + 8 * (n - 1 - f i)) else nI (f i + 8 * o i)) k ?_ ?_ (FU_lt (by omega)) ⟨rfl, fun i hi => by rw [if_neg (by omega)]; exact hc i hi⟩
  · rintro self j a s0 hj ⟨rfl, h0⟩ hself
    obtain ⟨g1, g2, g3⟩ := hG.2.2.2 j hj
    have hcc : RcN k f o (fun i => nI (f i + 8 * o i)) := fun i hi => rfl
    obtain ⟨e1, e2⟩ := hcc.rd hj (by omega) (by omega)
    have h0j := h0 j hj
    rw [if_neg (by omega)] at h0j
    unfold L_L_builds_450
    rw [cl1, hq.2, clN (by omega), h0j]
    rw [e1, e2, n1, nsub (by omega), nsub (by omega), nsub (by omega), n8, nmul, nI_add]
    refine Ev_c1 (Ev_f (nle_n hj (by omega)) (Ev_ck rfl (by omega) (by omega) (Ev_ck rfl (by omega) (by omega) (Ev_ck rfl (by omega) (by omega) (Ev_nm (hself _ _ ⟨nI_add j 1, fun i hi => ?_⟩))))))
    by_cases q : i = j
    · rw [q, upd_s, if_pos (by omega)]
    · rw [upd_n _ _ q, h0 i hi]
      by_cases q2 : i < j
      · rw [if_pos q2, if_pos (by omega)]
      · rw [if_neg q2, if_neg (by omega)]
  · rintro self a s0 ⟨rfl, h0⟩
    unfold L_L_builds_450
    rw [cl1, hq.2]
    exact Ev_c1 (Ev_t (Int32.le_refl _) (h497 _ (fun i hi => by rw [h0 i hi, if_pos hi])))
/-- the names that wires have behind so many comparators -/
def nmN (f o : Nat → Nat) : Nat → Nat → Nat
  | 0 => fun x => x
  | i + 1 => if nmN f o i (o i) < nmN f o i (f i) then fun x => renN (nmN f o i (f i)) (nmN f o i (o i)) (nmN f o i x) else nmN f o i
theorem unt_s {f o : Nat → Nat} {i : Nat} : untS f o (i + 1) = if (untS f o i).2.1 i < (untS f o i).1 i then (fun x => if i ≤ x then renN ((untS f o i).1 i) ((untS f o i).2.1 i) ((untS f o i).1 x) else (untS f o i).1 x, fun x => if i ≤ x then renN ((untS f o i).1 i) ((untS f o i).2.1 i) ((untS f o i).2.1 x) else (untS f o i).2.1 x, (untS f o i).2.2 + 1) else untS f o i := rfl
theorem nm_s {f o : Nat → Nat} {i : Nat} : nmN f o (i + 1) = if nmN f o i (o i) < nmN f o i (f i) then fun x => renN (nmN f o i (f i)) (nmN f o i (o i)) (nmN f o i x) else nmN f o i := rfl
theorem unt_nm {f o : Nat → Nat} : ∀ i x, i ≤ x → (untS f o i).1 x = nmN f o i (f x) ∧ (untS f o i).2.1 x = nmN f o i (o x)
  | 0, _, _ => ⟨rfl, rfl⟩
  | i + 1, x, h => by
    obtain ⟨a1, a2⟩ := unt_nm i x (by omega)
    obtain ⟨b1, b2⟩ := unt_nm (f := f) (o := o) i i (Nat.le_refl i)
    rw [unt_s, nm_s, b1, b2]
    split
    · dsimp only
      rw [if_pos (by omega), if_pos (by omega), a1, a2]
      exact ⟨rfl, rfl⟩
    · exact ⟨a1, a2⟩
theorem unt_pre {f o : Nat → Nat} {i x : Nat} (h : x < i) : (untS f o (i + 1)).1 x = (untS f o i).1 x ∧ (untS f o (i + 1)).2.1 x = (untS f o i).2.1 x := by
  rw [unt_s]
  split
  · dsimp only
    rw [if_neg (by omega), if_neg (by omega)]
    exact ⟨rfl, rfl⟩
  · exact ⟨rfl, rfl⟩
theorem unt_at {f o : Nat → Nat} {i : Nat} : (untS f o (i + 1)).1 i = (if nmN f o i (o i) < nmN f o i (f i) then nmN f o i (o i) else nmN f o i (f i)) ∧ (untS f o (i + 1)).2.1 i = (if nmN f o i (o i) < nmN f o i (f i) then nmN f o i (f i) else nmN f o i (o i)) ∧ (untS f o (i + 1)).2.2 = (untS f o i).2.2 + (if nmN f o i (o i) < nmN f o i (f i) then 1 else 0) := by
  obtain ⟨b1, b2⟩ := unt_nm (f := f) (o := o) i i (Nat.le_refl i)
  rw [unt_s, b1, b2]
  split
  · rename_i h
    dsimp only
    rw [if_pos (Nat.le_refl i), if_pos (Nat.le_refl i), b1, b2]
    refine ⟨?_, ?_, rfl⟩
    · unfold renN; rw [if_pos rfl]
    · unfold renN
      rw [if_neg (by omega), if_pos rfl]
  · exact ⟨b1, b2, rfl⟩
theorem nm_lt {n k : Nat} {f o : Nat → Nat} (hG : Good n k f o) : ∀ i, i ≤ k → ∀ x, x < n → nmN f o i x < n
  | 0, _, _, hx => hx
  | i + 1, h, x, hx => by
    obtain ⟨g1, g2, g3⟩ := hG.2.2.2 i (by omega)
    have ih := nm_lt hG i (by omega)
    rw [nm_s]
    split
    · exact ren_lt (ih _ g1) (ih _ g2) (ih x hx)
    · exact ih x hx
set_option maxHeartbeats 4000000 in
theorem b_untangle {T n k : Nat} {f o : Nat → Nat} {c : Hp} {x2 : Int32} {r0 r1 r2 r3 r4 : Row} (hL : LawS T n k f o c r0 r1 r2 r3 r4) : Ev (f_L_builds (5 : Int32) x2 c r0 r1 r2 r3 r4) (BdP T r1 r3) := by
  have hL0 := hL
  obtain ⟨hG, h5, hC, hc, hq, hTp, hB, hS, hSt, hA⟩ := hL
  have hn2 := hG.1
  have hk24 := hG.2.2.1
  unfold f_L_builds
  rw [cl0, hq.1, cl1, hq.2]
  refine Ev_c0 (Ev_f (by decide) (Ev_f (by decide) (Ev_f (by decide) (Ev_f (by decide) (Ev_bd _ r_forgets (fun r1' h1' => Ev_f (by decide) (Ev_t rfl ?_)))))))
  refine Ev_jn1 (fun s6 => RwN n s6 (fun x => x)) (fun s6 p6 => ?_) (fun kk hk => ?_)
  · refine Ev_jn3 (fun a s0 _ => a = nI (untS f o k).2.2 ∧ RcN k (untS f o k).1 (untS f o k).2.1 s0) (fun a s0 _ ⟨e1, e2⟩ => ?_) (fun k688 h688 => ?_)
    · exact Ev_bd _ (C_untangle hG hC) (fun r ⟨m0, m1, m2, m3⟩ => Ev_t (m0.trans e1.symm) (Ev_1 ⟨n, k, _, _, hL0.chg (unt_good hG k (Nat.le_refl k)).1 m1 m2 (by decide) m3 e2 hq (hTp.sm m2 (by decide) (by decide)) h1'⟩))
    · refine Ev_fx4 (fun j a b s0 s6 => b = nI j ∧ a = nI (untS f o j).2.2 ∧ (∀ i, i < k → s0 i = if i < j then nI ((untS f o j).1 i + 8 * (untS f o j).2.1 i) else nI (f i + 8 * o i)) ∧ RwN n s6 (nmN f o j)) k ?_ ?_ (FU_lt (by omega)) ⟨rfl, rfl, fun i hi => by rw [if_neg (by omega)]; exact hc i hi, p6⟩
      · rintro self j a b s0 s6 hj ⟨rfl, rfl, h0, h6⟩ hself
        obtain ⟨g1, g2, g3⟩ := hG.2.2.2 j hj
        have hcc : RcN k f o (fun i => nI (f i + 8 * o i)) := fun i hi => rfl
        obtain ⟨e1, e2⟩ := hcc.rd hj (by omega) (by omega)
        have h0j := h0 j hj
        rw [if_neg (by omega)] at h0j
        have l1 := nm_lt hG j (by omega) _ g1
        have l2 := nm_lt hG j (by omega) _ g2
        obtain ⟨u1, u2, u3⟩ := unt_at (f := f) (o := o) (i := j)
        have hcnt := (unt_good hG j (by omega)).2
        unfold L_L_builds_539
        rw [cl1, hq.2, clN (by omega), h0j]
        rw [e1, e2, clN (by omega), clN (by omega), h6 _ g1, h6 _ g2]
        refine Ev_c1 (Ev_f (nle_n hj (by omega)) (Ev_ck rfl (by omega) (by omega) (Ev_ck rfl (by omega) (by omega) (Ev_nm (Ev_ck rfl (by omega) (by omega) (Ev_ck rfl (by omega) (by omega) (Ev_nm ?_)))))))
        have hnx := nm_s (f := f) (o := o) (i := j)
        generalize hA : nmN f o j (f j) = A at l1 u1 u2 u3 hnx ⊢
        generalize hB : nmN f o j (o j) = B at l2 u1 u2 u3 hnx ⊢
        refine Ev_jn1 (fun s6 => RwN n s6 (nmN f o (j + 1))) (fun s6 p6 => ?_) (fun k635 h635 => ?_)
        · have hrow : ∀ (A' B' : Nat) (s0' : Row), s0' = upd s0 j (nI (A' + 8 * B')) → (untS f o (j + 1)).1 j = A' → (untS f o (j + 1)).2.1 j = B' → ∀ i, i < k → s0' i = if i < j + 1 then nI ((untS f o (j + 1)).1 i + 8 * (untS f o (j + 1)).2.1 i) else nI (f i + 8 * o i) := by
            rintro A' B' s0' rfl q1 q2 i hi
            by_cases q : i = j
            · rw [q, upd_s, if_pos (by omega), q1, q2]
            · rw [upd_n _ _ q, h0 i hi]
              by_cases q3 : i < j
              · rw [if_pos q3, if_pos (by omega), (unt_pre q3).1, (unt_pre q3).2]
              · rw [if_neg q3, if_neg (by omega)]
          have eAB : (nI A ≤ nI B) = (A ≤ B) := propext (nI_leI (by omega) (by omega))
          rw [n8, nmul, nmul, nI_add, nI_add]
          by_cases h : A ≤ B
          · rw [if_neg (by omega)] at u1 u2 u3
            refine Ev_jn1 (fun z => z = 0) (fun z hz => ?_) (fun k649 h649 => Ev_t (by rw [eAB]; exact h) (h649 _ rfl))
            subst hz
            refine Ev_nm (Ev_t (by rw [eAB]; exact h) (Ev_ck rfl (by omega) (by omega) (Ev_nm (hself _ _ _ _ ⟨nI_add j 1, ?_, hrow A B _ rfl u1 u2, p6⟩))))
            rw [u3, Int32.add_zero]; rfl
          · rw [if_pos (by omega)] at u1 u2 u3
            refine Ev_jn1 (fun z => z = 1) (fun z hz => ?_) (fun k649 h649 => Ev_f (by rw [eAB]; exact h) (h649 _ rfl))
            subst hz
            refine Ev_nm (Ev_f (by rw [eAB]; exact h) (Ev_ck rfl (by omega) (by omega) (Ev_nm (hself _ _ _ _ ⟨nI_add j 1, ?_, hrow B A _ rfl u1 u2, p6⟩))))
            rw [u3]; exact nI_add _ 1
        · have eAB : (nI A ≤ nI B) = (A ≤ B) := propext (nI_leI (by omega) (by omega))
          by_cases h : A ≤ B
          · rw [if_neg (by omega)] at hnx
            rw [hnx] at h635
            obtain ⟨N, hN⟩ : ∃ N, FU = N + 1 := ⟨99999, rfl⟩
            rw [hN]
            show Ev (L_L_builds_575 _ _ _ _ _ _ _ _ _) _
            unfold L_L_builds_575
            exact Ev_i (fun _ => h635 _ h6) (fun _ => Ev_t (by rw [eAB]; exact h) (h635 _ h6))
          · rw [if_pos (by omega)] at hnx
            refine Ev_fx2 (fun i a s6 => a = nI i ∧ ∀ x, x < n → s6 x = nI (if x < i then renN A B (nmN f o j x) else nmN f o j x)) n ?_ ?_ (FU_lt (by omega)) ⟨rfl, fun x hx => by rw [if_neg (by omega)]; exact h6 x hx⟩
            · rintro self2 i a s6 hi ⟨rfl, h6⟩ hself2
              have l3 := nm_lt hG j (by omega) i hi
              have h6i := h6 i hi
              rw [if_neg (by omega)] at h6i
              unfold L_L_builds_575
              rw [clN (by omega), h6i]
              have hput : ∀ y, y = nI (renN A B (nmN f o j i)) → ∀ x, x < n → upd s6 i y x = nI (if x < i + 1 then renN A B (nmN f o j x) else nmN f o j x) := by
                rintro y rfl x hx
                by_cases q : x = i
                · rw [q, upd_s, if_pos (by omega)]
                · rw [upd_n _ _ q, h6 x hx]
                  by_cases q2 : x < i
                  · rw [if_pos q2, if_pos (by omega)]
                  · rw [if_neg q2, if_neg (by omega)]
              have eA : (nI (nmN f o j i) = nI A) = (nmN f o j i = A) := nI_iff (by omega) (by omega)
              have eB : (nI (nmN f o j i) = nI B) = (nmN f o j i = B) := nI_iff (by omega) (by omega)
              refine Ev_f (nle_n hi (by omega)) (Ev_f (by rw [eAB]; exact h) (Ev_ck rfl (by omega) (by omega) (Ev_i (fun e => Ev_ck rfl (by omega) (by omega) (Ev_nm (hself2 _ _ ⟨nI_add i 1, hput _ ?_⟩))) (fun e => Ev_ck rfl (by omega) (by omega) (Ev_i (fun e2 => Ev_ck rfl (by omega) (by omega) (Ev_nm (hself2 _ _ ⟨nI_add i 1, hput _ ?_⟩))) (fun e2 => Ev_ck rfl (by omega) (by omega) (Ev_ck rfl (by omega) (by omega) (Ev_nm (hself2 _ _ ⟨nI_add i 1, hput _ ?_⟩)))))))))
              · rw [eA] at e
                unfold renN; rw [if_pos e]
              · rw [eA] at e; rw [eB] at e2
                unfold renN; rw [if_neg e, if_pos e2]
              · rw [eA] at e; rw [eB] at e2
                unfold renN; rw [if_neg e, if_neg e2]
            · rintro self2 a s6 ⟨rfl, h6⟩
              unfold L_L_builds_575
              refine Ev_t (Int32.le_refl _) (h635 _ (fun x hx => ?_))
              rw [h6 x hx, if_pos hx, hnx]
      · rintro self a b s0 s6 ⟨rfl, rfl, h0, h6⟩
        unfold L_L_builds_539
        rw [cl1, hq.2]
        exact Ev_c1 (Ev_t (Int32.le_refl _) (h688 _ _ _ ⟨rfl, fun i hi => by rw [h0 i hi, if_pos hi]⟩))
  · refine Ev_fx2 (fun j a s6 => a = nI j ∧ RwN j s6 (fun x => x)) n ?_ ?_ (FU_lt (by omega)) ⟨rfl, RwN.zero⟩
    · rintro self j a s6 hj ⟨rfl, h4⟩ hself
      unfold L_L_builds_516
      refine Ev_f (nle_n hj (by omega)) (Ev_ck rfl (by omega) (by omega) (Ev_nm (hself _ _ ⟨nI_add j 1, ?_⟩)))
      rw [clN (by omega)]
      exact h4.put rfl
    · rintro self a s6 ⟨rfl, h4⟩
      unfold L_L_builds_516
      exact Ev_t (Int32.le_refl _) (hk _ h4)
theorem r_put0 {m a b : Nat} {rc rq : Row} (hm : rq 1 = nI m) (h : m < 24) : Ev (f_L_puts (nI a) (nI b) rc rq) (fun r => r.1 = upd rc m (nI (a + 8 * b)) ∧ r.2 = upd rq 1 (nI (m + 1))) := by
  unfold f_L_puts
  rw [cl1, hm, clN (by omega), n8, n1, nmul, nI_add, nI_add]
  exact Ev_ck (j := 1) rfl (by omega) (by omega) (Ev_ck rfl h (by omega) (Ev_nm (Ev_ck (j := 1) rfl (by omega) (by omega) (Ev_ck (j := 1) rfl (by omega) (by omega) (Ev_nm (Ev_so ⟨rfl, rfl⟩))))))
set_option maxHeartbeats 2000000 in
theorem b_prune {T n k : Nat} {f o : Nat → Nat} {c : Hp} {x1 x2 : Int32} {r0 r1 r2 r3 r4 : Row} (hx : ∀ j, j < 6 → ¬ x1 = nI j) (hL : LawS T n k f o c r0 r1 r2 r3 r4) : Ev (f_L_builds x1 x2 c r0 r1 r2 r3 r4) (BdP T r1 r3) := by
  have hL0 := hL
  obtain ⟨hG, h5, hC, hc, hq, hTp, hB, hS, hSt, hA⟩ := hL
  have hn := hG.2.1
  have hn2 := hG.1
  have hk24 := hG.2.2.1
  have hpw : 2 ^ n ≤ 2 ^ 5 := Nat.pow_le_pow_right (by omega) h5
  unfold f_L_builds
  rw [cl0, hq.1, cl1, hq.2]
  refine Ev_c0 (Ev_f (hx 0 (by omega)) (Ev_f (hx 1 (by omega)) (Ev_f (hx 2 (by omega)) (Ev_f (hx 3 (by omega)) (Ev_bd _ r_forgets (fun r1' h1' => Ev_f (hx 4 (by omega)) (Ev_f (hx 5 (by omega)) ?_)))))))
  refine Ev_jn1 (fun s5 => RwN k s5 (fun i => ctB (oftP f o i) (2 ^ n))) (fun s5 p5 => ?_) (fun kk hk => ?_)
  · refine Ev_ck (j := 1) rfl (by omega) (by omega) (Ev_ck (j := 1) rfl (by omega) (by omega) (Ev_nm ?_))
    refine Ev_jn2 (fun s0 s4 => RcN (kpN n f o k) (pkA n f o f k) (pkA n f o o k) s0 ∧ QrN n (kpN n f o k) s4 ∧ s4 2 = r4 2) (fun s0 s4 ⟨p1, p2, p3⟩ => ?_) (fun k795 h795 => ?_)
    · have hkp := kp_le (n := n) (f := f) (o := o) (i := k)
      refine Ev_bd _ (C_prune hG hC) (fun r ⟨m0, m1, m2, m3⟩ => Ev_ck (j := 1) rfl (by omega) (by omega) (Ev_t ?_ (Ev_1 ⟨n, _, _, _, hL0.chg (pk_good hG) m1 m2 (by decide) m3 p1 p2 ((hTp.sm m2 (by decide) (by decide)).q p3) h1'⟩)))
      rw [m0, p2.2, nsub hkp]
    · refine Ev_fx3 (fun j a s0 s4 => a = nI j ∧ RcN k (pkA n f o f j) (pkA n f o o j) s0 ∧ QrN n (kpN n f o j) s4 ∧ s4 2 = r4 2) k ?_ ?_ (FU_lt (by omega)) ⟨rfl, hc, ⟨?_, upd_s _ _ _⟩, upd_n _ _ (by omega)⟩
      · rintro self j a s0 s4 hj ⟨rfl, h0, h4, h42⟩ hself
        obtain ⟨g1, g2, g3⟩ := hG.2.2.2 j hj
        have hkp := kp_le (n := n) (f := f) (o := o) (i := j)
        have hcc : RcN k f o (fun i => nI (f i + 8 * o i)) := fun i hi => rfl
        obtain ⟨e1, e2⟩ := hcc.rd hj (by omega) (by omega)
        have h0j := h0 j hj
        rw [pk_ge j j hkp, pk_ge j j hkp] at h0j
        have hof := oft_le (n := n) (f := f) (o := o) (i := j) hn
        unfold L_L_builds_754
        rw [clN (by omega), p5 j hj, h0j]
        dsimp only at e1 e2 ⊢
        rw [e1, e2]
        refine Ev_f (nle_n hj (by omega)) (Ev_ck rfl (by omega) (by omega) (Ev_i (fun e => hself _ _ _ ⟨nI_add j 1, ?_, ?_, h42⟩) (fun e => Ev_ck rfl (by omega) (by omega) (Ev_ck rfl (by omega) (by omega) (Ev_bd _ (r_put0 h4.2 (by omega)) (fun r ⟨z1, z2⟩ => hself _ _ _ ⟨nI_add j 1, ?_, ⟨?_, ?_⟩, ?_⟩))))))
        · have hu := hof.mp e
          have q1 : pkA n f o f (j + 1) = pkA n f o f j := if_neg hu
          have q2 : pkA n f o o (j + 1) = pkA n f o o j := if_neg hu
          rw [q1, q2]; exact h0
        · rw [kp_f (hof.mp e)]; exact h4
        · have hu : useB n f o j = true := Classical.byContradiction (fun z => e (hof.mpr z))
          have q1 : pkA n f o f (j + 1) = updN (pkA n f o f j) (kpN n f o j) (f j) := if_pos hu
          have q2 : pkA n f o o (j + 1) = updN (pkA n f o o j) (kpN n f o j) (o j) := if_pos hu
          rw [q1, q2, z1]
          intro i hi
          unfold updN
          by_cases q : i = kpN n f o j
          · rw [q, upd_s, if_pos rfl, if_pos rfl]
          · rw [upd_n _ _ q, if_neg q, if_neg q]
            exact h0 i hi
        · rw [z2, upd_n _ _ (by omega)]; exact h4.1
        · have hu : useB n f o j = true := Classical.byContradiction (fun z => e (hof.mpr z))
          rw [z2, upd_s, kp_t hu]
        · rw [z2, upd_n _ _ (by omega)]; exact h42
      · rintro self a s0 s4 ⟨rfl, h0, h4, h42⟩
        unfold L_L_builds_754
        exact Ev_t (Int32.le_refl _) (h795 _ _ ⟨fun i hi => h0 i (by have := kp_le (n := n) (f := f) (o := o) (i := k); omega), h4, h42⟩)
      · rw [upd_n _ _ (by omega)]; exact hq.1
  · refine Ev_fx2 (fun j a s5 => a = nI j ∧ RwN j s5 (fun i => ctB (oftP f o i) (2 ^ n))) k ?_ ?_ (FU_lt (by omega)) ⟨rfl, RwN.zero⟩
    · rintro self j a s5 hj ⟨rfl, h4⟩ hself
      unfold L_L_builds_712
      rw [cl1, hq.2]
      refine Ev_c1 (Ev_f (nle_n hj (by omega)) (Ev_bd _ (r_oftenL hG h5 hc hq hj) (fun y hy => Ev_ck rfl (by omega) (by omega) (Ev_nm (hself _ _ ⟨nI_add j 1, ?_⟩)))))
      rw [clN (by omega), hy]
      exact h4.put rfl
    · rintro self a s5 ⟨rfl, h4⟩
      unfold L_L_builds_712
      rw [cl1, hq.2]
      exact Ev_c1 (Ev_t (Int32.le_refl _) (hk _ h4))
