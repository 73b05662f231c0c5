/-! P43: the text, sign by sign -/
theorem rk_lt {k i : Nat} {f o : Nat → Nat} (hi : i < k) : rkN f o k i < k := by
  have h1 := ct_lt (p := fun j => decide (keyN f o j < keyN f o i)) (q := fun _ => true) (n := k) (fun _ _ _ => rfl) ⟨i, hi, rfl, decide_eq_false (Nat.lt_irrefl _)⟩
  rw [ct_all (fun _ _ => rfl)] at h1
  exact h1
theorem rk_nd {n k : Nat} {f o : Nat → Nat} (hG : Good n k f o) : ∀ j, j ≤ k → ((List.range j).map (rkN f o k)).Nodup
  | 0, _ => List.nodup_nil
  | j + 1, hj => by
    rw [List.range_succ, List.map_append, List.nodup_append]
    refine ⟨rk_nd hG j (by omega), by simp, fun a ha b hb e => ?_⟩
    obtain ⟨i, hi, rfl⟩ := List.mem_map.mp ha
    rw [List.mem_range] at hi
    have hb : b = rkN f o k j := by simpa using hb
    rw [hb] at e
    have := rk_inj hG (by omega) (by omega) e
    omega
theorem rk_ex {n k a : Nat} {f o : Nat → Nat} (hG : Good n k f o) (ha : a < k) : ∃ i, i < k ∧ rkN f o k i = a := by
  have h := nd_full (N := k) (rk_nd hG k (Nat.le_refl k)) (fun x hx => by
    obtain ⟨i, hi, rfl⟩ := List.mem_map.mp hx
    exact rk_lt (List.mem_range.mp hi)) (by simp) a ha
  obtain ⟨i, hi, e⟩ := List.mem_map.mp h
  exact ⟨i, List.mem_range.mp hi, e⟩
def atN (m : Nat) : Nat := if m = 0 then 0 else 4 * m - 1
def WtI (p c0 m : Nat) (x y : Int32) : Prop := x = nI (atN m) ∧ y = (if c0 = m then 1 else 0) ∧ (m = 0 ∨ 4 * m - 1 ≤ p)
theorem eqN_s {f o : Nat → Nat} {v a : Nat} : eqN f o v (a + 1) = eqN f o v a + if keyN f o a = v then 1 else 0 := by
  unfold eqN
  rw [ct_s]
  by_cases e : keyN f o a = v <;> simp [e]
theorem eqN_0 {n k i : Nat} {f o : Nat → Nat} (hG : Good n k f o) (hi : i < k) : eqN f o (keyN f o i) i = 0 := by
  unfold eqN
  rw [ct_0]
  intro r hr
  refine decide_eq_false (fun e => ?_)
  have := key_inj hG (by omega) hi e
  omega
theorem cnt_w {n k l : Nat} {f o : Nat → Nat} (hG : Good n k f o) (h5 : n ≤ 5) : cntN f o k (6 * l + n) = cntN f o k (6 * (l + 1)) := by
  unfold cntN
  refine ct_congr (fun r hr => ?_)
  obtain ⟨g1, g2, g3⟩ := hG.2.2.2 r hr
  unfold keyN
  have : min (f r) (o r) < n := Nat.lt_of_le_of_lt (Nat.min_le_left _ _) g1
  generalize min (f r) (o r) = x at this
  exact decide_eq_decide.mpr (by omega)
theorem cnt_end {n k : Nat} {f o : Nat → Nat} (hG : Good n k f o) : cntN f o k (6 * allN f o k) = k := by
  unfold cntN
  refine ct_all (fun r hr => decide_eq_true ?_)
  obtain ⟨g1, g2, g3⟩ := hG.2.2.2 r hr
  have h6 := hG.2.1
  have := lay_all (f := f) (o := o) hr
  unfold keyN
  have : min (f r) (o r) < n := Nat.lt_of_le_of_lt (Nat.min_le_left _ _) g1
  omega
theorem r_written {n k p : Nat} {f o : Nat → Nat} {rc rq : Row} (hG : Good n k f o) (h5 : n ≤ 5) (hc : RcN k f o rc) (hq : QrN n k rq) (hp : p < 2 ^ 20) : Ev (f_L_written (nI p) rc rq) (fun y => txA n k f o p y) := by
  have hk24 := hG.2.2.1
  have hal := all_le (f := f) (o := o) k
  unfold f_L_written
  refine Ev_bd _ (r_layers hG h5 hc hq) (fun r ⟨q1, q2⟩ => ?_)
  rw [q1]
  refine Ev_jn0 (k = 0 ∨ 4 * k - 1 ≤ p) (fun h => Ev_ckc Ck32 (Ev_so ⟨fun z => by omega, fun _ => rfl⟩)) (fun k209 h209 => ?_)
  refine Ev_jn3 (fun x5 x10 x11 => ∃ i, i < k ∧ x5 = nI (4 * rkN f o k i) ∧ x10 = nI (f i) ∧ x11 = nI (o i) ∧ 4 * rkN f o k i ≤ p ∧ p < 4 * rkN f o k i + 3) (fun x5 x10 x11 ⟨i, hi, e1, e2, e3, p1, p2⟩ => ?_) (fun k150 h150 => ?_)
  · subst e1; subst e2; subst e3
    obtain ⟨g1, g2, g3⟩ := hG.2.2.2 i hi
    have hl := rk_lt (f := f) (o := o) hi
    rw [(c48 (q := f i) (by omega)).1, (c48 (q := o i) (by omega)).1, n1, nI_add]
    have tx : ∀ y : Int32, (p % 4 = 0 → y = nI (48 + f i)) → (p % 4 = 1 → y = 58) → (p % 4 = 2 → y = nI (48 + o i)) → txA n k f o p y := fun y t0 t1 t2 => ⟨fun _ => ⟨i, hi, by omega, t0, t1, t2, fun t3 => by omega⟩, fun z => by omega⟩
    refine Ev_i (fun e => Ev_ckc (c48 (by omega)).2 (Ev_so (tx _ (fun _ => rfl) (fun t => ?_) (fun t => ?_)))) (fun e => Ev_i (fun e2 => Ev_ckc Ck58 (Ev_so (tx _ (fun t => ?_) (fun _ => rfl) (fun t => ?_)))) (fun e2 => Ev_ckc (c48 (by omega)).2 (Ev_so (tx _ (fun t => ?_) (fun t => ?_) (fun _ => rfl)))))
    · rw [neqI (by omega) (by omega)] at e; omega
    · rw [neqI (by omega) (by omega)] at e; omega
    · rw [neqI (by omega) (by omega)] at e2; omega
    · rw [neqI (by omega) (by omega)] at e2; omega
    · rw [neqI (by omega) (by omega)] at e; omega
    · rw [neqI (by omega) (by omega)] at e2; omega
  refine Ev_jn1 (fun x7 => ∃ i j, i < k ∧ j < k ∧ p % 4 = 3 ∧ rkN f o k i = p / 4 ∧ rkN f o k j = p / 4 + 1 ∧ x7 = if layN f o i = layN f o j then 0 else 1) (fun x7 ⟨i, j, hi, hj, p3, r1, r2, e7⟩ => ?_) (fun k108 h108 => ?_)
  · have hl := rk_lt (f := f) (o := o) hj
    have tx : ∀ y : Int32, y = (if layN f o i = layN f o j then 32 else 47) → txA n k f o p y := fun y hy => ⟨fun _ => ⟨i, hi, r1, fun t => by omega, fun t => by omega, fun t => by omega, fun _ => ⟨j, hj, r2, hy⟩⟩, fun z => by omega⟩
    by_cases e : layN f o i = layN f o j
    · rw [if_pos e] at e7
      exact Ev_t e7 (Ev_ckc Ck32 (Ev_so (tx _ (by rw [if_pos e]))))
    · rw [if_neg e] at e7
      exact Ev_f (by rw [e7]; decide) (Ev_ckc Ck47 (Ev_so (tx _ (by rw [if_neg e]))))
  refine Ev_fx2 (fun l a1 a2 => a2 = nI l ∧ a1 = nI (atN (cntN f o k (6 * l))) ∧ (cntN f o k (6 * l) = 0 ∨ 4 * cntN f o k (6 * l) - 1 ≤ p)) (allN f o k) ?_ ?_ (FU_lt (by omega)) ⟨rfl, ?_, ?_⟩
  · rintro self l a1 a2 hl ⟨rfl, rfl, hm⟩ hself
    unfold L_L_written_19
    refine Ev_f (nle_n hl (by omega)) (Ev_jn1 (fun x => x = nI (atN (cntN f o k (6 * (l + 1)))) ∧ (cntN f o k (6 * (l + 1)) = 0 ∨ 4 * cntN f o k (6 * (l + 1)) - 1 ≤ p)) (fun x ⟨e1, e2⟩ => hself _ _ ⟨nI_add l 1, e1, e2⟩) (fun k203 h203 => ?_))
    generalize hc0 : cntN f o k (6 * l) = c0 at hm
    refine Ev_fx3 (fun w a5 a7 a8 => a8 = nI w ∧ WtI p c0 (cntN f o k (6 * l + w)) a5 a7) n ?_ ?_ (FU_lt (by omega)) ⟨rfl, ?_⟩
    · rintro self2 w a5 a7 a8 hw ⟨rfl, hW⟩ hself2
      unfold L_L_written_32
      rw [cl0, hq.1]
      refine Ev_c0 (Ev_f (nle_n hw (by omega)) (Ev_jn2 (fun x y => WtI p c0 (cntN f o k (6 * l + w + 1)) x y) (fun x y h => hself2 _ _ _ ⟨nI_add w 1, h⟩) (fun k197 h197 => ?_)))
      have hcs := cnt_s (f := f) (o := o) (v := 6 * l + w) k
      generalize hv : 6 * l + w = v at hW h197 hcs
      refine Ev_fx3 (fun a a5 a7 a9 => a9 = nI a ∧ WtI p c0 (cntN f o k v + eqN f o v a) a5 a7) k ?_ ?_ (FU_lt (by omega)) ⟨rfl, hW⟩
      · rintro self3 a a5 a7 a9 ha ⟨rfl, hW⟩ hself3
        obtain ⟨g1, g2, g3⟩ := hG.2.2.2 a ha
        obtain ⟨e1, e2⟩ := hc.rd ha (by omega) (by omega)
        have hla := lay_le (f := f) (o := o) (i := a)
        have hs := eqN_s (f := f) (o := o) (v := v) (a := a)
        unfold L_L_written_43
        rw [cl1, hq.2, clN (by omega), e1, e2, q2 a ha]
        have hno : keyN f o a ≠ v → Ev (self3 a5 a7 (nI a + 1)) (fun y => txA n k f o p y) := fun hk => hself3 _ _ _ ⟨nI_add a 1, by rw [hs, if_neg hk]; exact hW⟩
        refine Ev_c1 (Ev_f (nle_n ha (by omega)) (Ev_ck rfl (by omega) (by omega) (Ev_nm (Ev_ck rfl (by omega) (by omega) (Ev_nm (Ev_ck rfl (by omega) (by omega) (Ev_i (fun hlay => ?_) (fun hlay => hno (fun hk => hlay ?_)))))))))
        · rw [neqI (by omega) (by omega)] at hlay
          refine Ev_jn1 (fun z => z = nI (min (f a) (o a))) (fun z hz => ?_) (fun k92 h92 => Ev_i (fun e => h92 _ ?_) (fun e => h92 _ ?_))
          · subst hz
            have hmin : min (f a) (o a) < n := Nat.lt_of_le_of_lt (Nat.min_le_left _ _) g1
            refine Ev_i (fun hz => ?_) (fun hz => hno (fun hk => hz ?_))
            · rw [neqI (by omega) (by omega)] at hz
              have hkey : keyN f o a = v := by unfold keyN; omega
              have h0 : eqN f o v a = 0 := by rw [← hkey]; exact eqN_0 hG ha
              have hrk : rkN f o k a = cntN f o k v := by rw [← hkey]; rfl
              rw [h0, Nat.add_zero] at hW hs
              rw [if_pos hkey] at hs
              have hrl := rk_lt (f := f) (o := o) ha
              rw [hrk] at hrl
              obtain ⟨w1, w2, w3⟩ := hW
              have hgo : ∀ x5 : Int32, x5 = nI (4 * cntN f o k v) → 4 * cntN f o k v ≤ p → Ev (jn0 (fun k185 => (if (nI p) < x5 then k185 else (if (x5 + (3 : Int32)) ≤ (nI p) then k185 else k150 x5 (nI (f a)) (nI (o a))))) (self3 (x5 + (3 : Int32)) (0 : Int32) (nI a + (1 : Int32)))) (fun y => txA n k f o p y) := by
                intro x5 hx5 hpm
                subst hx5
                rw [n3, nI_add]
                refine Ev_jn0 (4 * cntN f o k v + 3 ≤ p) (fun h => hself3 _ _ _ ⟨nI_add a 1, ?_, ?_, ?_⟩) (fun k185 h185 => Ev_i (fun e => ?_) (fun e => Ev_i (fun e2 => h185 ?_) (fun e2 => h150 _ _ _ ⟨a, ha, by rw [hrk], rfl, rfl, by omega, ?_⟩)))
                · rw [hs]
                  unfold atN
                  rw [if_neg (by omega)]
                  congr 1
                · rw [hs, if_neg]
                  rw [← hc0]
                  have h1 : cntN f o k (6 * l) ≤ cntN f o k v := by
                    have hmono : ∀ d, cntN f o k (6 * l) ≤ cntN f o k (6 * l + d) := by
                      intro d
                      induction d with
                      | zero => exact Nat.le_refl _
                      | succ d ih =>
                        have := cnt_s (f := f) (o := o) (v := 6 * l + d) k
                        rw [← Nat.add_assoc]
                        omega
                    rw [← hv]; exact hmono w
                  omega
                · rw [hs]; right; omega
                · exact absurd e (by rw [nI_ltI (by omega) (by omega)]; omega)
                · rw [nI_leI (by omega) (by omega)] at e2; exact e2
                · rw [nI_leI (by omega) (by omega)] at e2; rw [hrk]; omega
              refine Ev_jn0 (cntN f o k v = 0 ∨ 4 * cntN f o k v ≤ p) (fun hpm => ?_) (fun k121 h121 => ?_)
              · refine Ev_jn1 (fun z => a5 + z = nI (4 * cntN f o k v)) (fun z hz => Ev_nm (hgo _ hz (by omega))) (fun k133 h133 => ?_)
                by_cases hm0 : cntN f o k v = 0
                · refine Ev_t (by rw [w1, hm0]; decide) (h133 _ (by rw [w1, hm0]; rfl))
                · refine Ev_f ?_ (h133 _ ?_)
                  · rw [w1]
                    unfold atN
                    rw [if_neg hm0]
                    exact nI_nle (by omega) (by omega)
                  · rw [w1]
                    unfold atN
                    rw [if_neg hm0, n1, nI_add]
                    congr 1
                    omega
              · by_cases hm0 : cntN f o k v = 0
                · exact Ev_t (by rw [w1, hm0]; decide) (h121 (Or.inl hm0))
                · have hat : a5 = nI (4 * cntN f o k v - 1) := by
                    rw [w1]
                    unfold atN
                    rw [if_neg hm0]
                  rw [hat]
                  refine Ev_f (nI_nle (by omega) (by omega)) (Ev_i (fun e => h108 _ ?_) (fun e => h121 (Or.inr ?_)))
                  · rw [neqI (by omega) (by omega)] at e
                    obtain ⟨i, hi, hri⟩ := rk_ex hG (show cntN f o k v - 1 < k by omega)
                    refine ⟨i, a, hi, ha, by omega, by omega, by omega, ?_⟩
                    rw [w2]
                    have hki : keyN f o i < v := by
                      have h1 : ¬ v ≤ keyN f o i := by
                        intro h2
                        have h3 : cntN f o k v ≤ rkN f o k i := by
                          unfold cntN rkN
                          apply Classical.byContradiction
                          intro h4
                          have h4 : ctB (fun j => decide (keyN f o j < keyN f o i)) k < ctB (fun j => decide (keyN f o j < v)) k := Nat.lt_of_not_le h4
                          have h5 : ctB (fun j => decide (keyN f o j < v)) k ≤ ctB (fun j => decide (keyN f o j < keyN f o i)) k := ct_sub (fun r _ hr => decide_eq_true (Nat.lt_of_lt_of_le (of_decide_eq_true hr) h2))
                          omega
                        omega
                      omega
                    have hrki : rkN f o k i = cntN f o k (keyN f o i) := rfl
                    have hlk : keyN f o i = 6 * layN f o i + min (f i) (o i) := rfl
                    obtain ⟨i1, i2, i3⟩ := hG.2.2.2 i hi
                    have hmi : min (f i) (o i) < n := Nat.lt_of_le_of_lt (Nat.min_le_left _ _) i1
                    have hs2 := cnt_s (f := f) (o := o) (v := keyN f o i) k
                    have he1 : 0 < eqN f o (keyN f o i) k := by
                      unfold eqN
                      exact ct_some ⟨i, hi, decide_eq_true rfl⟩
                    have hmon : ∀ x y, x ≤ y → cntN f o k x ≤ cntN f o k y := fun x y hxy => ct_sub (fun r _ hr => decide_eq_true (Nat.lt_of_lt_of_le (of_decide_eq_true hr) hxy))
                    by_cases hll : layN f o i = layN f o a
                    · rw [if_pos hll, if_neg]
                      have := hmon (6 * l) (keyN f o i) (by omega)
                      omega
                    · rw [if_neg hll, if_pos]
                      have h1 := hmon (keyN f o i + 1) (6 * l) (by omega)
                      have h2 := hmon (6 * l) v (by omega)
                      omega
                  · rw [neqI (by omega) (by omega)] at e
                    omega
            · unfold keyN at hk
              rw [neqI (by omega) (by omega)]
              omega
          · rw [nI_leI (by omega) (by omega)] at e
            congr 1; omega
          · rw [nI_leI (by omega) (by omega)] at e
            congr 1; omega
        · unfold keyN at hk
          have hmin : min (f a) (o a) < n := Nat.lt_of_le_of_lt (Nat.min_le_left _ _) g1
          rw [neqI (by omega) (by omega)]
          omega
      · rintro self3 a5 a7 a9 ⟨rfl, hW⟩
        unfold L_L_written_43
        rw [cl1, hq.2]
        rw [← hcs] at hW
        exact Ev_c1 (Ev_t (Int32.le_refl _) (h197 _ _ hW))
    · rintro self2 a5 a7 a8 ⟨rfl, hW⟩
      unfold L_L_written_32
      rw [cl0, hq.1]
      rw [cnt_w hG h5] at hW
      exact Ev_c0 (Ev_t (Int32.le_refl _) (h203 _ ⟨hW.1, hW.2.2⟩))
    · rw [Nat.add_zero, hc0]
      exact ⟨rfl, by rw [if_pos rfl], hm⟩
  · rintro self a1 a2 ⟨rfl, rfl, hm⟩
    unfold L_L_written_19
    rw [cnt_end hG] at hm
    exact Ev_t (Int32.le_refl _) (h209 hm)
  · rw [show cntN f o k (6 * 0) = 0 from ct_0.mpr (fun r _ => decide_eq_false (by omega))]; rfl
  · exact Or.inl (ct_0.mpr (fun r _ => decide_eq_false (by omega)))
