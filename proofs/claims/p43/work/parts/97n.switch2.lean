/-! the class's switches -/
theorem nd_ct {N : Nat} : ∀ l : List Nat, l.Nodup → (∀ x, x ∈ l → x < N) → ctB (fun x => decide (x ∈ l)) N = l.length
  | [], _, _ => ct_0.mpr (fun r hr => by simp)
  | x :: l, h, hl => by
    have h1 := List.nodup_cons.mp h
    have hx := hl x List.mem_cons_self
    rw [ct_off hx (by simp), List.length_cons, ← nd_ct l h1.2 (fun y hy => hl y (List.mem_cons_of_mem _ hy))]
    congr 1
    refine ct_congr (fun r hr => ?_)
    by_cases e : r = x
    · subst e; simp [h1.1]
    · simp [e]
theorem nd_le {N : Nat} {l : List Nat} (h : l.Nodup) (hl : ∀ x, x ∈ l → x < N) : l.length ≤ N := by
  rw [← nd_ct l h hl]; exact ct_le
theorem nd_full {N : Nat} {l : List Nat} (h : l.Nodup) (hl : ∀ x, x ∈ l → x < N) (hN : N ≤ l.length) : ∀ x, x < N → x ∈ l := fun x hx => by
  apply Classical.byContradiction
  intro hno
  have h1 := ct_lt (p := fun x => decide (x ∈ l)) (q := fun _ => true) (n := N) (fun _ _ _ => rfl) ⟨x, hx, rfl, by simpa using hno⟩
  have h4 : ctB (fun _ => true) N = N := ct_all (fun _ _ => rfl)
  rw [nd_ct l h hl] at h1
  omega
def SwI (n : Nat) (qs : List Nat) (sn : Nat → Nat) (c h : Hp) : Prop := h.1 20 2 = nI qs.length ∧ qs.Nodup ∧ (∀ r, r ∈ qs → r < facN n) ∧ (∀ i, i < qs.length → ∃ q, h.1 21 i = nI q ∧ PK n (rowT n (qs.getD i 0)) q) ∧ (∀ r, r < facN n → h.1 22 (rankN (rowT n r) n) = nI (sn r) ∧ (r ∈ qs ↔ 1 ≤ sn r) ∧ sn r ≤ 26) ∧ Sm [20, 21, 22] c h
theorem i2b_n : ∀ q, q < 100 → vp_nar .byte (i2b (nI q)) = nI q := by decide +kernel
theorem nar_byte0 : vp_nar .byte 0 = 0 := by decide +kernel
theorem C_reach {n q w : Nat} {qs : List Nat} {sn v : Nat → Nat} {c h : Hp} (hn : n ≤ 6) (hI : SwI n qs sn c h) (hP : PK n v q) (hv : PermN n v) (hw1 : 1 ≤ w) (hw : w ≤ 26) : Ev (f_X7_reach_20 h (nI q) (nI n) (nI w)) (fun h1 => (num n v ∈ qs → SwI n qs sn c h1) ∧ (num n v ∉ qs → SwI n (qs ++ [num n v]) (updN sn (num n v) w) c h1)) := by
  have hF := fac_le n (by omega)
  obtain ⟨i1, i2, i3, i4, i5, i6⟩ := hI
  have hr := num_lt' hn hv
  have hrk : rankN v n = rankN (rowT n (num n v)) n := rankN_congr (fun x hx => (num_row hn hv hx).symm)
  have hrl := rank_lt hn hv
  obtain ⟨s1, s2, s3⟩ := i5 _ hr
  unfold f_X7_reach_20
  refine Ev_bde (C_rank hn hP hv) (Ev_ck rfl (by omega) (by omega) ?_)
  rw [clN (by omega), hrk, s1, show (0 : Int32) = nI 0 from rfl]
  refine Ev_i (fun e => ?_) (fun e => Ev_so ⟨fun _ => ⟨i1, i2, i3, i4, i5, i6⟩, fun hno => absurd (s2.mpr ?_) hno⟩)
  · rw [neqI (by omega) (by omega)] at e
    have hno : num n v ∉ qs := fun z => by have := s2.mp z; omega
    have hnd : (qs ++ [num n v]).Nodup := by
      rw [List.nodup_append]
      exact ⟨i2, by simp, fun a ha b hb e => hno (by have := List.mem_singleton.mp hb; subst this; subst e; exact ha)⟩
    have hall : ∀ r, r ∈ qs ++ [num n v] → r < facN n := fun r hr2 => by
      rcases List.mem_append.mp hr2 with h | h
      · exact i3 r h
      · rw [List.mem_singleton.mp h]; exact hr
    have hlen := nd_le hnd hall
    rw [List.length_append, show [num n v].length = 1 from rfl] at hlen
    rw [hrk] at hrl
    refine Ev_f (by rw [i1, show (720 : Int32) = nI 720 from rfl]; exact nle_n (by omega) (by omega)) (Ev_ck rfl (by omega) (by omega) (Ev_nm ?_))
    have e1 : (wB h 22 (nI (rankN (rowT n (num n v)) n)) (i2b (nI w))).1 20 2 = nI qs.length := by rw [wB_n _ _ _ _ _ (by decide)]; exact i1
    rw [e1]
    refine Ev_ck rfl (by omega) (by omega) (Ev_nm ?_)
    have e2 : (wI (wB h 22 (nI (rankN (rowT n (num n v)) n)) (i2b (nI w))) 21 (nI qs.length) (nI q)).1 20 2 = nI qs.length := by rw [wI_n _ _ _ _ _ (by decide)]; exact e1
    rw [e2, n1, nI_add]
    refine Ev_nm (Ev_so ⟨fun z => absurd z hno, fun _ => ⟨?_, hnd, hall, fun i hi => ?_, fun r hr2 => ?_, ((i6.sB (by decide)).sI (by decide)).sF (by decide)⟩⟩)
    · rw [wF_1, upd_s, List.length_append]; rfl
    · rw [wF_n _ _ _ _ _ (by decide), wI_1, clN (by omega)]
      by_cases e3 : i = qs.length
      · subst e3
        refine ⟨q, upd_s _ _ _, hP.congr (fun x hx => ?_)⟩
        rw [List.getD_eq_getElem?_getD, List.getElem?_append_right (by omega), Nat.sub_self]
        exact (num_row hn hv hx).symm
      · rw [List.length_append, show [num n v].length = 1 from rfl] at hi
        obtain ⟨q2, h2, h3⟩ := i4 i (by omega)
        refine ⟨q2, ?_, ?_⟩
        · rw [upd_n _ _ e3, wB_n _ _ _ _ _ (by decide)]; exact h2
        · rw [List.getD_eq_getElem?_getD, List.getElem?_append_left (by omega), ← List.getD_eq_getElem?_getD]; exact h3
    · rw [wF_n _ _ _ _ _ (by decide), wI_n _ _ _ _ _ (by decide), wB_1, clN (by omega), i2b_n w (by omega)]
      unfold updN
      by_cases e3 : r = num n v
      · subst e3
        rw [upd_s, if_pos rfl]
        exact ⟨rfl, ⟨fun _ => hw1, fun _ => by simp⟩, hw⟩
      · obtain ⟨t1, t2, t3⟩ := i5 r hr2
        have hne : rankN (rowT n r) n ≠ rankN (rowT n (num n v)) n := fun z => e3 (by
          have h1 := rank_inj hn (row_perm hn hr2) (row_perm hn hr) z
          have h2 := num_congr h1
          rw [row_num hn hr2, row_num hn hr] at h2
          exact h2)
        rw [upd_n _ _ hne, if_neg e3]
        refine ⟨t1, ?_, t3⟩
        rw [← t2, List.mem_append, List.mem_singleton]
        exact ⟨fun z => z.resolve_right e3, Or.inl⟩
  · rw [neqI (by omega) (by omega)] at e
    omega
/-- what the class has found behind so many comparators -/
def SwOk (n : Nat) (f o : Nat → Nat) (j : Nat) (qs : List Nat) (sn : Nat → Nat) : Prop := ∀ r, r < facN n → (r ∈ qs ↔ rbN n f o j r = true) ∧ (r ∈ qs → ∀ i, i ≤ j → (rbN n f o i r = true ↔ sn r ≤ i + 1))
theorem C_learn {n k : Nat} {f o : Nat → Nat} {c : Hp} (hG : Good n k f o) (hC : NetC n k f o c) (hS : SwR n k f o c) : Ev (f_X7_learn_20_1 c) (fun h => Sm [20, 21, 22] c h ∧ h.1 20 2 = nI (ctB (fun r => reachB n f o k (rowT n r)) (facN n)) ∧ ∀ v, PermN n v → ∃ l, l ≤ k + 1 ∧ h.1 22 (rankN v n) = nI l ∧ ∀ i, i ≤ k → (reachB n f o i v = true ↔ 1 ≤ l ∧ l ≤ i + 1)) := by
  have hn := hG.2.1
  have hn2 := hG.1
  have hk24 := hG.2.2.1
  have hF := fac_le n (by omega)
  have hF0 := fac_pos n
  have hct : ctB (fun r => reachB n f o k (rowT n r)) (facN n) ≤ facN n := ct_le
  have hct1 : 0 < ctB (fun r => reachB n f o k (rowT n r)) (facN n) := ct_some ⟨0, hF0, by
    have := (rb_0 hG hF0).mpr rfl
    have h2 := reach_mono this k
    rwa [Nat.zero_add] at h2⟩
  have hfin : ∀ (qs : List Nat) (sn : Nat → Nat) (h : Hp), SwI n qs sn c h → SwOk n f o k qs sn → (∀ r, r < facN n → sn r ≤ k + 1) → Sm [20, 21, 22] c h ∧ h.1 20 2 = nI (ctB (fun r => reachB n f o k (rowT n r)) (facN n)) ∧ ∀ v, PermN n v → ∃ l, l ≤ k + 1 ∧ h.1 22 (rankN v n) = nI l ∧ ∀ i, i ≤ k → (reachB n f o i v = true ↔ 1 ≤ l ∧ l ≤ i + 1) := by
    intro qs sn h ⟨i1, i2, i3, i4, i5, i6⟩ hok hsn
    refine ⟨i6, ?_, fun v hv => ?_⟩
    · rw [i1, ← nd_ct qs i2 i3]
      congr 1
      refine ct_congr (fun r hr => ?_)
      have := (hok r hr).1
      show decide (r ∈ qs) = rbN n f o k r
      cases e : rbN n f o k r with
      | true => exact decide_eq_true (this.mpr e)
      | false => exact decide_eq_false (fun z => by rw [this.mp z] at e; cases e)
    · have hr := num_lt' hn hv
      obtain ⟨s1, s2, s3⟩ := i5 _ hr
      have hrk : rankN v n = rankN (rowT n (num n v)) n := rankN_congr (fun x hx => (num_row hn hv hx).symm)
      refine ⟨sn (num n v), hsn _ hr, by rw [hrk]; exact s1, fun i hi => ?_⟩
      have hrc : reachB n f o i v = rbN n f o i (num n v) := reach_congr hG i hi _ _ (fun x hx => (num_row hn hv hx).symm)
      rw [hrc]
      constructor
      · intro h1
        have h2 := reach_mono h1 (k - i)
        rw [show i + (k - i) = k by omega] at h2
        have h3 := (hok _ hr).1.mpr h2
        exact ⟨s2.mp h3, ((hok _ hr).2 h3 i hi).mp h1⟩
      · rintro ⟨h1, h2⟩
        exact ((hok _ hr).2 (s2.mpr h1) i hi).mpr h2
  unfold f_X7_learn_20_1
  rcases hS with hS | ⟨hS1, hS2⟩
  · refine Ev_t (by rw [hS]; exact Int32.le_refl _) ?_
    rw [hC.1]
    refine Ev_jn1 (fun h => Sm [20, 21, 22] c h ∧ h.1 20 2 = 0 ∧ ∀ x, x < 720 → h.1 22 x = 0) (fun h0 ⟨hS0, h02, hZ0⟩ => ?_) (fun kk hk => ?_)
    · have hI0 : SwI n [] (fun _ => 0) c h0 := ⟨h02, List.nodup_nil, fun r hr => by simp at hr, fun i hi => absurd hi (by simp), fun r hr => ⟨hZ0 _ (by have := rank_lt hn (row_perm hn hr); omega), by simp, by show 0 ≤ 26; omega⟩, hS0⟩
      refine Ev_bd _ (C_inOrder hn) (fun y ⟨q, ey, hq⟩ => ?_)
      subst ey
      refine Ev_bd _ (C_reach (w := 1) hn hI0 hq id_perm (by omega) (by omega)) (fun h1 ⟨_, hI1⟩ => ?_)
      have hI1 := hI1 (by simp)
      rw [num_id hn, List.nil_append] at hI1
      have hok1 : SwOk n f o 0 [0] (updN (fun _ => 0) 0 1) := fun r hr => by
        have h2 := rb_0 hG hr
        refine ⟨by rw [h2, List.mem_singleton], fun hm i hi => ?_⟩
        have e : r = 0 := List.mem_singleton.mp hm
        have ei : i = 0 := by omega
        subst ei
        rw [h2]
        exact ⟨fun _ => by unfold updN; rw [if_pos e]; omega, fun _ => e⟩
      refine Ev_jn1 (fun h => Sm [20, 21, 22] c h ∧ h.1 20 2 = nI (ctB (fun r => reachB n f o k (rowT n r)) (facN n)) ∧ ∀ v, PermN n v → ∃ l, l ≤ k + 1 ∧ h.1 22 (rankN v n) = nI l ∧ ∀ i, i ≤ k → (reachB n f o i v = true ↔ 1 ≤ l ∧ l ≤ i + 1)) (fun h hh => Ev_so hh) (fun kk hk => ?_)
      refine Ev_fx2 (fun j a1 h => a1 = nI j ∧ ∃ qs sn, SwI n qs sn c h ∧ SwOk n f o j qs sn ∧ ∀ r, r < facN n → sn r ≤ j + 1) k ?_ ?_ (FU_lt (by omega)) ⟨rfl, [0], updN (fun _ => 0) 0 1, hI1, hok1, fun r hr => by show (if r = 0 then 1 else 0) ≤ 0 + 1; split <;> omega⟩
      · rintro self j a1 h hj ⟨rfl, qs, sn, hI, hok, hsn⟩ hself
        have hI' := hI
        obtain ⟨i1, i2, i3, i4, i5, i6⟩ := hI'
        have hlen := nd_le i2 i3
        obtain ⟨g1, g2, g3⟩ := hG.2.2.2 j hj
        unfold L_X7_learn_20_1_47
        rw [(i6 1 (by decide)).1, hC.2.1, i1]
        refine Ev_f (nle_n hj (by omega)) (Ev_bd (fun y => y = nI (facN n)) ?_ (fun y hy => ?_))
        · unfold f_X5_howMany
          rw [clN (by omega), fFAC_n n (by omega)]
          exact Ev_ck rfl (by omega) (by omega) (Ev_so rfl)
        · subst hy
          refine Ev_i (fun e => hk _ (hfin qs sn h hI ?_ (fun r hr => by have := hsn r hr; omega))) (fun e => ?_)
          · rw [nI_leI (by omega) (by omega)] at e
            have hfull := nd_full i2 i3 e
            intro r hr
            have hrj := (hok r hr).1.mp (hfull r hr)
            have hrk := reach_mono hrj (k - j)
            rw [show j + (k - j) = k by omega] at hrk
            refine ⟨⟨fun _ => hrk, fun _ => hfull r hr⟩, fun hm i hi => ?_⟩
            by_cases e2 : i ≤ j
            · exact (hok r hr).2 hm i e2
            · have h3 := reach_mono hrj (i - j)
              rw [show j + (i - j) = i by omega] at h3
              have := hsn r hr
              exact ⟨fun _ => by omega, fun _ => h3⟩
          · refine Ev_jn1 (fun h => ∃ qs sn, SwI n qs sn c h ∧ SwOk n f o (j + 1) qs sn ∧ ∀ r, r < facN n → sn r ≤ j + 2) (fun h2 ⟨qs2, sn2, b1, b2, b3⟩ => hself _ _ ⟨nI_add j 1, qs2, sn2, b1, b2, b3⟩) (fun kq hkq => ?_)
            refine Ev_fx2 (fun p a1 h2 => a1 = nI p ∧ ∃ ex sn2, SwI n (qs ++ ex) sn2 c h2 ∧ (∀ r, r < facN n → (r ∈ qs ++ ex ↔ r ∈ qs ∨ ∃ p', p' < p ∧ nxN n f o j (qs.getD p' 0) = r)) ∧ (∀ r, r ∈ qs → sn2 r = sn r) ∧ (∀ r, r ∈ ex → sn2 r = j + 2 ∧ r ∉ qs) ∧ ∀ r, r < facN n → sn2 r ≤ j + 2) qs.length ?_ ?_ (FU_lt (by omega)) ⟨rfl, [], sn, by rw [List.append_nil]; exact hI, fun r hr => ?_, fun r hr => rfl, fun r hr => by simp at hr, fun r hr => by have := hsn r hr; omega⟩
            · rintro self2 p b1 h2 hp ⟨rfl, ex, sn2, hI2, hm2, hq2, he2, hl2⟩ hself2
              have hI2' := hI2
              obtain ⟨j1, j2, j3, j4, j5, j6⟩ := hI2'
              have hlen2 := nd_le j2 j3
              rw [List.length_append] at hlen2
              obtain ⟨q, hq, hPK⟩ := j4 p (by rw [List.length_append]; omega)
              have hget : (qs ++ ex).getD p 0 = qs.getD p 0 := by
                rw [List.getD_eq_getElem?_getD, List.getElem?_append_left hp, ← List.getD_eq_getElem?_getD]
              rw [hget] at hPK
              have hqp : qs.getD p 0 < facN n := i3 _ (by rw [List.getD_eq_getElem?_getD, List.getElem?_eq_getElem hp]; exact List.getElem_mem _)
              have hpp := row_perm hn hqp
              unfold L_X7_learn_20_1_75
              rw [(j6 2 (by decide)).1, (j6 3 (by decide)).1, clN (by omega), clN (by omega), hq, (hC.2.2 j hj).1, (hC.2.2 j hj).2]
              refine Ev_f (nle_n hp (by omega)) (Ev_ck rfl (by omega) (by omega) (Ev_ck rfl (by omega) (by omega) (Ev_ck rfl (by omega) (by omega) (Ev_bd _ (C_exchanged hn hPK g1 g2 g3 (by have := hpp.1 _ g1; omega) (by have := hpp.1 _ g2; omega)) (fun y ⟨q3, ey, hq3⟩ => ?_)))))
              subst ey
              rw [n2, nI_add]
              refine Ev_bd _ (C_reach (w := j + 2) hn hI2 hq3 (swap_perm g1 g2 g3 hpp) (by omega) (by omega)) (fun h3 ⟨d1, d2⟩ => ?_)
              have hnx : num n (swapN (f j) (o j) (rowT n (qs.getD p 0))) = nxN n f o j (qs.getD p 0) := rfl
              rw [hnx] at d1 d2
              by_cases hmem : nxN n f o j (qs.getD p 0) ∈ qs ++ ex
              · refine hself2 _ _ ⟨nI_add p 1, ex, sn2, d1 hmem, fun r hr => ?_, hq2, he2, hl2⟩
                rw [hm2 r hr]
                constructor
                · exact fun z => z.imp id (fun ⟨p', h1, h2⟩ => ⟨p', by omega, h2⟩)
                · rintro (z | ⟨p', h1, h2⟩)
                  · exact Or.inl z
                  · by_cases e3 : p' = p
                    · rw [e3] at h2
                      rw [h2] at hmem
                      exact (hm2 r hr).mp hmem
                    · exact Or.inr ⟨p', by omega, h2⟩
              · have hx := d2 hmem
                rw [List.append_assoc] at hx
                refine hself2 _ _ ⟨nI_add p 1, ex ++ [nxN n f o j (qs.getD p 0)], _, hx, fun r hr => ?_, fun r hr => ?_, fun r hr => ?_, fun r hr => ?_⟩
                · rw [← List.append_assoc, List.mem_append, List.mem_singleton, hm2 r hr]
                  constructor
                  · rintro ((z | ⟨p', h1, h2⟩) | z)
                    · exact Or.inl z
                    · exact Or.inr ⟨p', by omega, h2⟩
                    · exact Or.inr ⟨p, by omega, z.symm⟩
                  · rintro (z | ⟨p', h1, h2⟩)
                    · exact Or.inl (Or.inl z)
                    · by_cases e3 : p' = p
                      · rw [e3] at h2; exact Or.inr h2.symm
                      · exact Or.inl (Or.inr ⟨p', by omega, h2⟩)
                · unfold updN
                  rw [if_neg (fun e => hmem (by rw [← e]; exact List.mem_append_left _ hr))]
                  exact hq2 r hr
                · unfold updN
                  rcases List.mem_append.mp hr with z | z
                  · rw [if_neg (fun e => hmem (by rw [← e]; exact List.mem_append_right _ z))]
                    exact he2 r z
                  · have := List.mem_singleton.mp z
                    rw [if_pos this]
                    exact ⟨rfl, fun z2 => hmem (by rw [← this]; exact List.mem_append_left _ z2)⟩
                · unfold updN
                  split
                  · omega
                  · exact hl2 r hr
            · rintro self2 b1 h2 ⟨rfl, ex, sn2, hI2, hm2, hq2, he2, hl2⟩
              unfold L_X7_learn_20_1_75
              refine Ev_t (Int32.le_refl _) (hkq _ ⟨qs ++ ex, sn2, hI2, fun r hr => ⟨?_, fun hm i hi => ?_⟩, hl2⟩)
              · rw [hm2 r hr, rb_s hG hj hr, Bool.or_eq_true, (hok r hr).1]
                constructor
                · rintro (z | ⟨p', h1, h2⟩)
                  · exact Or.inl z
                  · have hqp : qs.getD p' 0 ∈ qs := by rw [List.getD_eq_getElem?_getD, List.getElem?_eq_getElem h1]; exact List.getElem_mem _
                    have hlt := i3 _ hqp
                    have h4 := nx_nx hG hj hlt
                    rw [h2] at h4
                    rw [h4]
                    exact Or.inr ((hok _ hlt).1.mp hqp)
                · rintro (z | z)
                  · exact Or.inl z
                  · have hlt := (nx_lt hG hj hr).1
                    have hm := (hok _ hlt).1.mpr z
                    obtain ⟨i, hi, e⟩ := List.mem_iff_getElem.mp hm
                    refine Or.inr ⟨i, hi, ?_⟩
                    rw [List.getD_eq_getElem?_getD, List.getElem?_eq_getElem hi]
                    show nxN n f o j qs[i] = r
                    rw [e]
                    exact nx_nx hG hj hr
              · rcases List.mem_append.mp hm with z | z
                · rw [hq2 r z]
                  by_cases e3 : i ≤ j
                  · exact (hok r hr).2 z i e3
                  · have ei : i = j + 1 := by omega
                    have := hsn r hr
                    have h3 := reach_mono ((hok r hr).1.mp z) 1
                    rw [ei]
                    exact ⟨fun _ => by omega, fun _ => h3⟩
                · obtain ⟨h3, h4⟩ := he2 r z
                  rw [h3]
                  by_cases e3 : i ≤ j
                  · constructor
                    · intro h5
                      have h6 := reach_mono h5 (j - i)
                      rw [show i + (j - i) = j by omega] at h6
                      exact absurd ((hok r hr).1.mpr h6) h4
                    · intro h5; omega
                  · have ei : i = j + 1 := by omega
                    rw [ei]
                    refine ⟨fun _ => by omega, fun _ => ?_⟩
                    rw [rb_s hG hj hr, Bool.or_eq_true]
                    rcases (hm2 r hr).mp hm with y | ⟨p', h1, h2⟩
                    · exact absurd y h4
                    · have hqp : qs.getD p' 0 ∈ qs := by rw [List.getD_eq_getElem?_getD, List.getElem?_eq_getElem h1]; exact List.getElem_mem _
                      have hlt := i3 _ hqp
                      have h7 := nx_nx hG hj hlt
                      rw [h2] at h7
                      rw [h7]
                      exact Or.inr ((hok _ hlt).1.mp hqp)
            · rw [List.append_nil]
              constructor
              · exact Or.inl
              · rintro (z | ⟨p', h1, _⟩)
                · exact z
                · omega
      · rintro self a1 h ⟨rfl, qs, sn, hI, hok, hsn⟩
        have hI' := hI
        obtain ⟨i1, i2, i3, i4, i5, i6⟩ := hI'
        unfold L_X7_learn_20_1_47
        rw [(i6 1 (by decide)).1, hC.2.1]
        exact Ev_t (Int32.le_refl _) (hk _ (hfin qs sn h hI hok hsn))
    · refine Ev_fx2 (fun j a1 h => a1 = nI j ∧ Sm [20, 21, 22] c h ∧ h.1 20 2 = 0 ∧ ∀ x, x < j → h.1 22 x = 0) 720 ?_ ?_ (FU_lt (by omega)) ⟨rfl, Sm.rf, hS, fun x hx => absurd hx (by omega)⟩
      · rintro self j a1 h hj ⟨rfl, hS0, h02, hZ⟩ hself
        unfold L_X7_learn_20_1_15
        refine Ev_f (nle_n (a := 720) hj (by omega)) (Ev_ck rfl (by omega) (by omega) (Ev_nm (hself _ _ ⟨nI_add j 1, hS0.sB (by decide), by rw [wB_n _ _ _ _ _ (by decide)]; exact h02, fun x hx => ?_⟩)))
        rw [wB_1, clN (by omega), nar_byte0]
        by_cases e : x = j
        · rw [e, upd_s]
        · rw [upd_n _ _ e]; exact hZ x (by omega)
      · rintro self a1 h ⟨rfl, hS0, h02, hZ⟩
        unfold L_X7_learn_20_1_15
        exact Ev_t (le_n (a := 720) (by omega) (by omega)) (hk _ ⟨hS0, h02, hZ⟩)
  · refine Ev_f (by rw [hS1]; exact nI_nle hct1 (by omega)) (Ev_so ⟨Sm.rf, hS1, hS2⟩)
