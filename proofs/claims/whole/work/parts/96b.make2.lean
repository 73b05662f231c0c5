theorem C_plan {n k : Nat} {f o : Nat → Nat} {ps : List (Nat × Nat)} {c h : Hp} (hG : Good n k f o) (hC : NetC n k f o c) (hP : Plan n ps c h) (hl : ps.length ≤ 24) : Ev (f_X10_appendPlan h) (fun r => (24 < k + ps.length → r = .inl ("java/lang/IllegalStateException", h)) ∧ (k + ps.length ≤ 24 → ∃ c1, r = .inr (nI ps.length, c1) ∧ NetC n (k + ps.length) (extN f k (ps.map Prod.fst)) (extN o k (ps.map Prod.snd)) c1 ∧ Sm [1, 2, 3, 6, 7, 8, 20, 23, 24, 25, 27] c c1 ∧ FgC c1)) := by
  obtain ⟨p0, p1, p2, p3⟩ := hP
  have hk24 := hG.2.2.1
  have hC0 : NetC n k f o h := Sm.nC hC p3 (by decide) (by decide) (by decide)
  unfold f_X10_appendPlan
  rw [p1]
  have hroom := C_room (r := ps.length) hC0.2.1 hk24 hl
  by_cases hk : k + ps.length ≤ 24
  · rw [if_pos hk] at hroom
    rw [bdx_r hroom]
    refine Ev_jn1 (fun h1 => NetC n (k + ps.length) (extN f k (ps.map Prod.fst)) (extN o k (ps.map Prod.snd)) h1 ∧ Sm [1, 2, 3] h h1) (fun h1 ⟨a1, a2⟩ => ?_) (fun kk hkk => ?_)
    · refine Ev_bd _ (s_forgetC h1) (fun c2 ⟨g1, g2, g3, g4, g5⟩ => Ev_so ⟨fun z => absurd hk (by omega), fun _ => ⟨c2, ?_, Sm.nC a1 g1 (by decide) (by decide) (by decide), ((p3.mono (by decide)).tr (a2.mono (by decide))).tr (g1.mono (by decide)), g2, g3, g4, g5⟩⟩)
      rw [(g1 6 (by decide)).1, (a2 6 (by decide)).1, p1]
    · refine Ev_fx2 (fun j a1 a2 => a1 = nI j ∧ NetC n (k + j) (extN f k ((ps.take j).map Prod.fst)) (extN o k ((ps.take j).map Prod.snd)) a2 ∧ Sm [1, 2, 3] h a2) ps.length ?_ ?_ (FU_lt (by omega)) ⟨rfl, ?_, Sm.rf⟩
      · rintro self j a1 a2 hj ⟨rfl, hN, hS⟩ hself
        unfold L_X10_appendPlan_13
        have hget : ps[j]? = some ps[j] := List.getElem?_eq_getElem hj
        rw [(hS 6 (by decide)).1, p1, clN (by omega), (hS 7 (by decide)).1, (hS 8 (by decide)).1, (p2 j _ hget).1, (p2 j _ hget).2]
        refine Ev_f (nle_n hj (by omega)) (Ev_ck rfl (by omega) (by omega) (Ev_ck rfl (by omega) (by omega) (Ev_bd _ (C_append hN (by omega)) (fun h2 ⟨b1, b2⟩ => hself _ _ ⟨nI_add j 1, ?_, hS.tr b2⟩))))
        have e1 : ∀ g : Nat × Nat → Nat, (ps.take (j + 1)).map g = (ps.take j).map g ++ [g ps[j]] := fun g => by
          rw [← List.take_append_getElem hj, List.map_append]; rfl
        have e2 : ∀ g : Nat × Nat → Nat, ((ps.take j).map g).length = j := fun g => by simp; omega
        have u1 := ext_upd (f := f) (k := k) (x := ps[j].1) (l := (ps.take j).map Prod.fst)
        have u2 := ext_upd (f := o) (k := k) (x := ps[j].2) (l := (ps.take j).map Prod.snd)
        rw [e2] at u1 u2
        rw [e1, e1, ← u1, ← u2]
        exact b1
      · rintro self a1 a2 ⟨rfl, hN, hS⟩
        unfold L_X10_appendPlan_13
        rw [(hS 6 (by decide)).1, p1]
        rw [List.take_length] at hN
        exact Ev_t (Int32.le_refl _) (hkk _ ⟨hN, hS⟩)
      · refine ⟨hC0.1, hC0.2.1, fun i hi => ?_⟩
        rw [List.take_zero]
        show _ = nI (extN f k [] i) ∧ _ = nI (extN o k [] i)
        rw [ext_nil (by omega), ext_nil (by omega)]
        exact hC0.2.2 i (by omega)
  · rw [if_neg hk] at hroom
    rw [bdx_l hroom]
    exact Ev_so ⟨fun _ => rfl, fun z => absurd z hk⟩
/-- the reference, counting alone or laying -/
def MkI (n k : Nat) (f o : Nat → Nat) (al : Bool) (m : Hp) (ps : List (Nat × Nat)) (h : Hp) : Prop := if al = true then h = m else NetM n (k + ps.length) (extN f k (ps.map Prod.fst)) (extN o k (ps.map Prod.snd)) h ∧ Sm [0, 1, 2] m h ∧ ∀ j, j ≠ 2 → h.1 0 j = m.1 0 j
theorem MkI.n {n k : Nat} {f o : Nat → Nat} {al : Bool} {m h : Hp} {ps : List (Nat × Nat)} (hM : NetM n k f o m) (hI : MkI n k f o al m ps h) : h.1 0 1 = nI n := by
  unfold MkI at hI
  cases al with
  | true => rw [if_pos rfl] at hI; rw [hI]; exact hM.1
  | false => rw [if_neg (by decide)] at hI; exact hI.1.1
theorem MkI.fo {n k : Nat} {f o : Nat → Nat} {m h : Hp} {ps : List (Nat × Nat)} (hI : MkI n k f o false m ps h) : NetM n (k + ps.length) (extN f k (ps.map Prod.fst)) (extN o k (ps.map Prod.snd)) h ∧ Sm [0, 1, 2] m h ∧ ∀ j, j ≠ 2 → h.1 0 j = m.1 0 j := hI
theorem MkI.fi {n k : Nat} {f o : Nat → Nat} {m h : Hp} {ps : List (Nat × Nat)} (hI : NetM n (k + ps.length) (extN f k (ps.map Prod.fst)) (extN o k (ps.map Prod.snd)) h ∧ Sm [0, 1, 2] m h ∧ ∀ j, j ≠ 2 → h.1 0 j = m.1 0 j) : MkI n k f o false m ps h := hI
theorem MkI.z {n k : Nat} {f o : Nat → Nat} {al : Bool} {m : Hp} (hM : NetM n k f o m) : MkI n k f o al m [] m := by
  unfold MkI
  split
  · rfl
  · refine ⟨⟨hM.1, hM.2.1, fun i hi => ?_, hM.2.2.2⟩, Sm.rf, fun j _ => rfl⟩
    show _ = nI (extN f k [] i) ∧ _ = nI (extN o k [] i)
    rw [ext_nil (show i < k from hi), ext_nil (show i < k from hi)]
    exact hM.2.2.1 i hi
def alI (al : Bool) : Int32 := if al = true then 1 else 0
theorem M_makes {n k a b : Nat} {f o : Nat → Nat} {al : Bool} {m h : Hp} {ps : List (Nat × Nat)} (hn : n ≤ 6) (hb6 : b < 20) (hM : NetM n k f o m) (hr : b < n → al = true ∨ k + ps.length < 25) (hI : MkI n k f o al m ps h) : Ev (f_X11_makes h (nI a) (nI b) (alI al)) (fun r => nI ps.length + r.1 = nI (if b < n then ps ++ [(a, b)] else ps).length ∧ MkI n k f o al m (if b < n then ps ++ [(a, b)] else ps) r.2) := by
  unfold f_X11_makes
  rw [hI.n hM]
  by_cases hbn : b < n
  · rw [if_pos hbn]
    refine Ev_t (nI_lt hbn (by omega)) ?_
    have hlen : nI ps.length + 1 = nI (ps ++ [(a, b)]).length := by rw [List.length_append]; exact nI_add _ 1
    cases al with
    | true => exact Ev_f (by decide) (Ev_so ⟨hlen, hI⟩)
    | false =>
      obtain ⟨i1, i2, i3⟩ := hI.fo
      have hk25 : k + ps.length < 25 := (hr hbn).resolve_left (by decide)
      refine Ev_t rfl (Ev_bd _ (M_puts i1 hk25) (fun h1 ⟨q1, q2, q3⟩ => Ev_so ⟨hlen, MkI.fi ⟨?_, i2.tr q2, fun j hj => (q3 j hj).trans (i3 j hj)⟩⟩))
      have u1 := ext_upd (f := f) (k := k) (x := a) (l := ps.map Prod.fst)
      have u2 := ext_upd (f := o) (k := k) (x := b) (l := ps.map Prod.snd)
      rw [List.length_map] at u1 u2
      rw [u1, u2] at q1
      rw [List.map_append, List.map_append, List.length_append]
      exact q1
  · rw [if_neg hbn]
    exact Ev_f (nI_nlt (by omega) (by omega)) (Ev_so ⟨nI_add _ 0, hI⟩)
def mkL (n w : Nat) : List (Nat × Nat) := if w = 0 then bubO n (n - 1) else if w = 1 then briO n n else merO n (hlf n) (lgh n + 1)
theorem mkL_len {n w : Nat} (hn : n ≤ 6) : (mkL n w).length ≤ 15 := by
  unfold mkL
  split
  · have : ∀ n, n < 7 → (bubO n (n - 1)).length ≤ 15 := by decide
    exact this n (by omega)
  · split
    · have : ∀ n, n < 7 → (briO n n).length ≤ 15 := by decide
      exact this n (by omega)
    · have : ∀ n, n < 7 → (merO n (hlf n) (lgh n + 1)).length ≤ 15 := by decide
      exact this n (by omega)
theorem M_makesAll {n k w : Nat} {f o : Nat → Nat} {al : Bool} {m : Hp} (hn : n ≤ 6) (hn2 : 2 ≤ n) (hw : w < 3) (hM : NetM n k f o m) (hr : al = true ∨ k + (mkL n w).length ≤ 24) : Ev (f_X11_makesAll m (nI w) (alI al)) (fun r => r.1 = nI (mkL n w).length ∧ MkI n k f o al m (mkL n w) r.2) := by
  have w0 : (nI w = 0) = (w = 0) := nI_iff (b := 0) (by omega) (by omega)
  have w1 : (nI w = 1) = (w = 1) := nI_iff (b := 1) (by omega) (by omega)
  have w2 : (nI w = 2) = (w = 2) := nI_iff (b := 2) (by omega) (by omega)
  have hL : lgh n ≤ 2 := by unfold lgh; split; omega; split <;> omega
  have hF := mer_facts n (by omega) hn2
  have hH4 : hlf n ≤ 4 := by unfold hlf; split; omega; split <;> omega
  unfold f_X11_makesAll
  rw [hM.1, n1, nsub (by omega)]
  refine Ev_nm (Ev_jn2 (fun a h => a = nI (if w = 0 then mkL n w else []).length ∧ MkI n k f o al m (if w = 0 then mkL n w else []) h) (fun a h ⟨ea, hI⟩ => ?_) (fun kk hk => ?_))
  · subst ea
    refine Ev_jn2 (fun a h => a = nI (if w ≤ 1 then mkL n w else []).length ∧ MkI n k f o al m (if w ≤ 1 then mkL n w else []) h) (fun a h ⟨ea, hI⟩ => ?_) (fun kk hk => ?_)
    · subst ea
      refine Ev_jn1 (fun z => z = nI (2 * hlf n)) (fun z hz => ?_) (fun kq hkq => ?_)
      · subst hz
        rw [n2, ndiv (by omega) (by omega) (by omega), Nat.mul_div_cancel_left _ (by omega)]
        refine Ev_nm (Ev_jn2 (fun a h => a = nI (mkL n w).length ∧ MkI n k f o al m (mkL n w) h) (fun a h hh => Ev_so hh) (fun kk hk => ?_))
        by_cases hw2 : w = 2
        · have eL : mkL n w = merO n (hlf n) (lgh n + 1) := by unfold mkL; rw [if_neg (by omega), if_neg (by omega)]
          rw [if_neg (by omega)] at hI ⊢
          rw [eL] at hk hr ⊢
          refine Ev_fx3 (fun j a1 a2 h => a2 = nI (hlf n / 2 ^ j) ∧ a1 = nI (merO n (hlf n) j).length ∧ MkI n k f o al m (merO n (hlf n) j) h) (lgh n + 1) ?_ ?_ (FU_lt (by omega)) ⟨by rw [Nat.pow_zero, Nat.div_one], rfl, hI⟩
          · rintro self j a1 a2 h1 hj ⟨rfl, rfl, hI1⟩ hself
            obtain ⟨f1, f2, f3, f4, f5⟩ := hF.2 j hj
            have hl1 := mer_len1 n (by omega) hn2 j hj
            have hl2 := mer_len2 n (by omega) hn2 j hj
            have hnext : nI (hlf n / 2 ^ j) / nI 2 = nI (hlf n / 2 ^ (j + 1)) := by
              rw [ndiv (by omega) (by omega) (by omega), Nat.div_div_eq_div_mul, ← Nat.pow_succ]
            generalize hPe : hlf n / 2 ^ j = P at *
            unfold L_X11_makesAll_147
            refine Ev_f (nI_nle (by omega) (by omega)) (Ev_t (by rw [w2]; exact hw2) (Ev_jn2 (fun a h => a = nI (merO n (hlf n) j ++ acr n P P false n).length ∧ MkI n k f o al m (merO n (hlf n) j ++ acr n P P false n) h) (fun a h2 ⟨ea, hI2⟩ => ?_) (fun kq hkq => ?_)))
            · subst ea
              rw [n2, ndiv (by omega) (by omega) (by omega), Nat.mul_div_cancel_left _ (by omega)]
              refine Ev_nm (Ev_jn2 (fun a h => a = nI (merO n (hlf n) (j + 1)).length ∧ MkI n k f o al m (merO n (hlf n) (j + 1)) h) (fun a h3 ⟨ea, hI3⟩ => Ev_nm (hself _ _ _ ⟨hnext, ea, hI3⟩)) (fun kr hkr => ?_))
              refine Ev_fx3 (fun l a1 a2 h => a2 = nI (hlf n / 2 ^ l) ∧ a1 = nI (merO n (hlf n) j ++ acr n P P false n ++ merQ n (hlf n) P l).length ∧ MkI n k f o al m (merO n (hlf n) j ++ acr n P P false n ++ merQ n (hlf n) P l) h) j ?_ ?_ (FU_lt (by omega)) ⟨by rw [Nat.pow_zero, Nat.div_one], by simp [merQ], by simpa [merQ] using hI2⟩
              · rintro self2 l b1 b2 h3 hl ⟨rfl, rfl, hI3⟩ hself2
                have g1 := f3 l hl
                have hQ4 := (hF.2 l (by omega)).2.1
                have hnext2 : nI (hlf n / 2 ^ l) / nI 2 = nI (hlf n / 2 ^ (l + 1)) := by
                  rw [ndiv (by omega) (by omega) (by omega), Nat.div_div_eq_div_mul, ← Nat.pow_succ]
                have hl3 := hl2 l hl
                generalize hQe : hlf n / 2 ^ l = Q at *
                unfold L_X11_makesAll_208
                refine Ev_f (nle_n g1 (by omega)) (Ev_jn2 (fun a h => a = nI (merO n (hlf n) j ++ acr n P P false n ++ merQ n (hlf n) P (l + 1)).length ∧ MkI n k f o al m (merO n (hlf n) j ++ acr n P P false n ++ merQ n (hlf n) P (l + 1)) h) (fun a h3 ⟨ea, hI3⟩ => Ev_nm (hself2 _ _ _ ⟨by rw [n2]; exact hnext2, ea, hI3⟩)) (fun ks hks => ?_))
                refine Ev_fx3 (fun i a1 a2 h => a2 = nI i ∧ a1 = nI (merO n (hlf n) j ++ acr n P P false n ++ merQ n (hlf n) P l ++ acr n P (Q - P) true i).length ∧ MkI n k f o al m (merO n (hlf n) j ++ acr n P P false n ++ merQ n (hlf n) P l ++ acr n P (Q - P) true i) h) n ?_ ?_ (FU_lt (by omega)) ⟨rfl, by simp [acr], by simpa [acr] using hI3⟩
                · rintro self3 i d1 d2 h4 hi ⟨rfl, rfl, hI4⟩ hself3
                  unfold L_X11_makesAll_218
                  have hle : i &&& P ≤ P := Nat.and_le_right
                  rw [hI4.n hM, nI_and, nI_add, nsub (by omega)]
                  have hz : (nI (i &&& P) = 0) = (i &&& P = 0) := nI_iff (b := 0) (by omega) (by omega)
                  refine Ev_f (nle_n hi (by omega)) (Ev_i (fun e => Ev_nm (hself3 _ _ _ ⟨nI_add i 1, ?_, ?_⟩)) (fun e => ?_))
                  · rw [hz] at e
                    rw [acr_s, if_neg (by simp [e])]; exact nI_add _ 0
                  · rw [hz] at e
                    rw [acr_s, if_neg (by simp [e])]; exact hI4
                  · rw [hz] at e
                    rw [show i + Q - P = i + (Q - P) by omega]
                    refine Ev_bd _ (M_makes hn (by omega) hM (fun hb => hr.imp id (fun hr2 => by have := hl3 i hi hb (by simpa using e); omega)) hI4) (fun r ⟨q1, q2⟩ => Ev_nm (hself3 _ _ _ ⟨nI_add i 1, ?_, ?_⟩))
                    · rw [q1, acr_s]
                      by_cases hb : i + (Q - P) < n
                      · rw [if_pos hb, if_pos (by simp [e, hb]), ← List.append_assoc]
                      · rw [if_neg hb, if_neg (by simp [hb])]
                    · rw [acr_s]
                      by_cases hb : i + (Q - P) < n
                      · rw [if_pos hb] at q2; rw [if_pos (by simp [e, hb]), ← List.append_assoc]; exact q2
                      · rw [if_neg hb] at q2; rw [if_neg (by simp [hb])]; exact q2
                · rintro self3 d1 d2 h4 ⟨rfl, rfl, hI4⟩
                  unfold L_X11_makesAll_218
                  rw [hI4.n hM]
                  refine Ev_t (Int32.le_refl _) (hks _ _ ?_)
                  show _ = nI (merO n (hlf n) j ++ acr n P P false n ++ (merQ n (hlf n) P l ++ acr n P (hlf n / 2 ^ l - P) true n)).length ∧ MkI n k f o al m (merO n (hlf n) j ++ acr n P P false n ++ (merQ n (hlf n) P l ++ acr n P (hlf n / 2 ^ l - P) true n)) h4
                  rw [hQe, ← List.append_assoc]
                  exact ⟨rfl, hI4⟩
              · rintro self2 b1 b2 h3 ⟨rfl, rfl, hI3⟩
                unfold L_X11_makesAll_208
                rw [hPe]
                refine Ev_t (Int32.le_refl _) (hkr _ _ ?_)
                show _ = nI (merO n (hlf n) j ++ acr n (hlf n / 2 ^ j) (hlf n / 2 ^ j) false n ++ merQ n (hlf n) (hlf n / 2 ^ j) j).length ∧ MkI n k f o al m (merO n (hlf n) j ++ acr n (hlf n / 2 ^ j) (hlf n / 2 ^ j) false n ++ merQ n (hlf n) (hlf n / 2 ^ j) j) h3
                rw [hPe]
                exact ⟨rfl, hI3⟩
            · refine Ev_fx3 (fun i a1 a2 h => a2 = nI i ∧ a1 = nI (merO n (hlf n) j ++ acr n P P false i).length ∧ MkI n k f o al m (merO n (hlf n) j ++ acr n P P false i) h) n ?_ ?_ (FU_lt (by omega)) ⟨rfl, by simp [acr], by simpa [acr] using hI1⟩
              · rintro self3 i d1 d2 h4 hi ⟨rfl, rfl, hI4⟩ hself3
                unfold L_X11_makesAll_160
                have hle : i &&& P ≤ P := Nat.and_le_right
                rw [hI4.n hM, nI_and, nI_add]
                have hz : (nI (i &&& P) = 0) = (i &&& P = 0) := nI_iff (b := 0) (by omega) (by omega)
                refine Ev_f (nle_n hi (by omega)) (Ev_i (fun e => ?_) (fun e => Ev_nm (hself3 _ _ _ ⟨nI_add i 1, ?_, ?_⟩)))
                · rw [hz] at e
                  refine Ev_bd _ (M_makes hn (by omega) hM (fun hb => hr.imp id (fun hr2 => by have := hl1 i hi hb (by simpa using e); omega)) hI4) (fun r ⟨q1, q2⟩ => Ev_nm (hself3 _ _ _ ⟨nI_add i 1, ?_, ?_⟩))
                  · rw [q1, acr_s]
                    by_cases hb : i + P < n
                    · rw [if_pos hb, if_pos (by simp [e, hb]), ← List.append_assoc]
                    · rw [if_neg hb, if_neg (by simp [hb])]
                  · rw [acr_s]
                    by_cases hb : i + P < n
                    · rw [if_pos hb] at q2; rw [if_pos (by simp [e, hb]), ← List.append_assoc]; exact q2
                    · rw [if_neg hb] at q2; rw [if_neg (by simp [hb])]; exact q2
                · rw [hz] at e
                  rw [acr_s, if_neg (by simp [e])]; exact nI_add _ 0
                · rw [hz] at e
                  rw [acr_s, if_neg (by simp [e])]; exact hI4
              · rintro self3 d1 d2 h4 ⟨rfl, rfl, hI4⟩
                unfold L_X11_makesAll_160
                rw [hI4.n hM]
                exact Ev_t (Int32.le_refl _) (hkq _ _ ⟨rfl, hI4⟩)
          · rintro self a1 a2 h1 ⟨rfl, rfl, hI1⟩
            unfold L_X11_makesAll_147
            rw [hF.1]
            exact Ev_t (by decide) (hk _ _ ⟨rfl, hI1⟩)
        · have eL : (if w ≤ 1 then mkL n w else []) = mkL n w := if_pos (by omega)
          rw [eL] at hI ⊢
          refine Ev_fx3 (fun j a1 a2 h1 => a1 = nI (mkL n w).length ∧ h1 = h) 0 (fun self j a1 a2 a3 hj => absurd hj (by omega)) ?_ (FU_lt (by omega)) ⟨rfl, rfl⟩
          rintro self a1 a2 h1 ⟨rfl, rfl⟩
          unfold L_X11_makesAll_147
          exact Ev_i (fun _ => hk _ _ ⟨rfl, hI⟩) (fun _ => Ev_f (by rw [w2]; exact hw2) (hk _ _ ⟨rfl, hI⟩))
      · rw [hI.n hM, n2, n4]
        have hlt : ∀ a, a < 7 → (nI a < nI n) = (a < n) := fun a ha => propext (nI_ltI (by omega) (by omega))
        simp only [hlt 2 (by omega), hlt 4 (by omega)]
        refine Ev_i (fun e => ?_) (fun e => hkq _ (by unfold hlf; rw [if_pos (by omega)]))
        refine Ev_i (fun e2 => hkq _ (by unfold hlf; rw [if_neg (by omega), if_neg (by omega)]; rfl)) (fun e2 => hkq _ (by unfold hlf; rw [if_neg (by omega), if_pos (by omega)]))
    · by_cases hw1 : w = 1
      · have eL : mkL n w = briO n n := by unfold mkL; rw [if_neg (by omega), if_pos hw1]
        rw [if_neg (by omega)] at hI ⊢
        rw [if_pos (by omega), eL] at hk
        rw [eL] at hr ⊢
        refine Ev_fx3 (fun t a1 a2 h => a2 = nI t ∧ a1 = nI (briO n t).length ∧ MkI n k f o al m (briO n t) h) n ?_ ?_ (FU_lt (by omega)) ⟨rfl, rfl, hI⟩
        · rintro self t a1 a2 h1 ht ⟨rfl, rfl, hI1⟩ hself
          unfold L_X11_makesAll_58
          rw [hI1.n hM, n2, irmN (by omega) (by omega) (by omega)]
          refine Ev_f (nle_n ht (by omega)) (Ev_t (by rw [w1]; exact hw1) (Ev_nm (Ev_jn2 (fun a h => a = nI (briO n (t + 1)).length ∧ MkI n k f o al m (briO n (t + 1)) h) (fun a h ⟨ea, hI2⟩ => hself _ _ _ ⟨nI_add t 1, ea, hI2⟩) (fun kq hkq => ?_))))
          refine Ev_fx3 (fun j a1 a2 h => a2 = nI (t % 2 + 2 * j) ∧ a1 = nI (briO n t ++ briI n t j).length ∧ MkI n k f o al m (briO n t ++ briI n t j) h) ((n - t % 2 + 1) / 2) ?_ ?_ (FU_lt (by omega)) ⟨rfl, by simp [briI], by simpa [briI] using hI1⟩
          · rintro self2 j b1 b2 h2 hj ⟨rfl, rfl, hI2⟩ hself2
            unfold L_X11_makesAll_78
            have hl := bri_len n (by omega) t ht j (by omega)
            rw [hI2.n hM, n1, nI_add]
            refine Ev_f (nle_n (by omega) (by omega)) (Ev_bd _ (M_makes hn (by omega) hM (fun hb => hr.imp id (fun hr2 => by have := hl hb; omega)) hI2) (fun r ⟨q1, q2⟩ => Ev_nm (hself2 _ _ _ ⟨nI_add _ 2, ?_, ?_⟩)))
            · rw [q1, briI_s]
              by_cases hb : t % 2 + 2 * j + 1 < n
              · rw [if_pos hb, if_pos hb, ← List.append_assoc]
              · rw [if_neg hb, if_neg hb]
            · rw [briI_s]
              by_cases hb : t % 2 + 2 * j + 1 < n
              · rw [if_pos hb] at q2 ⊢; rw [← List.append_assoc]; exact q2
              · rw [if_neg hb] at q2 ⊢; exact q2
          · rintro self2 b1 b2 h2 ⟨rfl, rfl, hI2⟩
            unfold L_X11_makesAll_78
            rw [hI2.n hM]
            exact Ev_t (le_n (by omega) (by omega)) (hkq _ _ ⟨rfl, hI2⟩)
        · rintro self a1 a2 h1 ⟨rfl, rfl, hI1⟩
          unfold L_X11_makesAll_58
          rw [hI1.n hM]
          exact Ev_t (Int32.le_refl _) (hk _ _ ⟨rfl, hI1⟩)
      · have eL : (if w ≤ 1 then mkL n w else []) = (if w = 0 then mkL n w else []) := by
          by_cases h0 : w = 0
          · rw [if_pos (by omega), if_pos h0]
          · rw [if_neg (by omega), if_neg h0]
        rw [eL] at hk
        generalize (if w = 0 then mkL n w else []) = ps at hk hI ⊢
        refine Ev_fx3 (fun j a1 a2 h1 => a1 = nI ps.length ∧ h1 = h) 0 (fun self j a1 a2 a3 hj => absurd hj (by omega)) ?_ (FU_lt (by omega)) ⟨rfl, rfl⟩
        rintro self a1 a2 h1 ⟨rfl, rfl⟩
        unfold L_X11_makesAll_58
        exact Ev_i (fun _ => hk _ _ ⟨rfl, hI⟩) (fun _ => Ev_f (by rw [w1]; exact hw1) (hk _ _ ⟨rfl, hI⟩))
  · by_cases hw0 : w = 0
    · have eL : mkL n w = bubO n (n - 1) := by unfold mkL; rw [if_pos hw0]
      rw [if_pos hw0, eL] at hk
      rw [eL] at hr ⊢
      refine Ev_fx3 (fun t a1 a2 h => a2 = nI (n - 1 - t) ∧ a1 = nI (bubO n t).length ∧ MkI n k f o al m (bubO n t) h) (n - 1) ?_ ?_ (FU_lt (by omega)) ⟨rfl, rfl, MkI.z hM⟩
      · rintro self t a1 a2 h1 ht ⟨rfl, rfl, hI1⟩ hself
        unfold L_X11_makesAll_10
        refine Ev_f (nI_nle (by omega) (by omega)) (Ev_t (by rw [w0]; exact hw0) (Ev_jn2 (fun a h => a = nI (bubO n (t + 1)).length ∧ MkI n k f o al m (bubO n (t + 1)) h) (fun a h ⟨ea, hI2⟩ => hself _ _ _ ⟨?_, ea, hI2⟩) (fun kq hkq => ?_)))
        · have e : n - 1 - t = n - 1 - (t + 1) + 1 := by omega
          rw [e]; exact nI_m1 _
        · refine Ev_fx3 (fun j a1 a2 h => a2 = nI j ∧ a1 = nI (bubO n t ++ bubI j).length ∧ MkI n k f o al m (bubO n t ++ bubI j) h) (n - 1 - t) ?_ ?_ (FU_lt (by omega)) ⟨rfl, by simp [bubI], by simpa [bubI] using hI1⟩
          · rintro self2 j b1 b2 h2 hj ⟨rfl, rfl, hI2⟩ hself2
            unfold L_X11_makesAll_22
            have hl := bub_len n (by omega) t ht j hj
            rw [n1, nI_add]
            refine Ev_f (nle_n hj (by omega)) (Ev_bd _ (M_makes hn (by omega) hM (fun hb => hr.imp id (fun hr2 => by omega)) hI2) (fun r ⟨q1, q2⟩ => Ev_nm (hself2 _ _ _ ⟨rfl, ?_, ?_⟩)))
            · rw [q1, bubI_s, if_pos (by omega), ← List.append_assoc]
            · rw [if_pos (by omega)] at q2; rw [bubI_s, ← List.append_assoc]; exact q2
          · rintro self2 b1 b2 h2 ⟨rfl, rfl, hI2⟩
            unfold L_X11_makesAll_22
            exact Ev_t (Int32.le_refl _) (hkq _ _ ⟨rfl, hI2⟩)
      · rintro self a1 a2 h1 ⟨rfl, rfl, hI1⟩
        unfold L_X11_makesAll_10
        rw [Nat.sub_self]
        exact Ev_t (by decide) (hk _ _ ⟨rfl, hI1⟩)
    · rw [if_neg hw0] at hk
      refine Ev_fx3 (fun j a1 a2 h1 => a1 = nI 0 ∧ h1 = m) 0 (fun self j a1 a2 a3 hj => absurd hj (by omega)) ?_ (FU_lt (by omega)) ⟨rfl, rfl⟩
      rintro self a1 a2 h1 ⟨rfl, rfl⟩
      unfold L_X11_makesAll_10
      exact Ev_i (fun _ => hk _ _ ⟨rfl, MkI.z hM⟩) (fun _ => Ev_f (by rw [w0]; exact hw0) (hk _ _ ⟨rfl, MkI.z hM⟩))
