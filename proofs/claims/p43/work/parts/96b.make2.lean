theorem C_plan {n k : Nat} {f o : Nat → Nat} {ps : List (Nat × Nat)} {c h : Hp} (hG : Good n k f o) (hC : NetC n k f o c) (hP : Plan n ps c h) (hl : ps.length ≤ 24) : Ev (f_X10_appendPlan h) (fun r => (24 < k + ps.length → r = .inl ("java/lang/IllegalStateException", h)) ∧ (k + ps.length ≤ 24 → ∃ c1, r = .inr (nI ps.length, c1) ∧ NetC n (k + ps.length) (extN f k (ps.map Prod.fst)) (extN o k (ps.map Prod.snd)) c1 ∧ Sm [1, 2, 3, 6, 7, 8, 20, 23, 24, 25, 27] c c1 ∧ FgC c1)) := by
  obtain ⟨p0, p1, p2, p3⟩ := hP
  have hk24 := hG.2.2.1
  have hC0 : NetC n k f o h := Sm.nC hC p3 (by decide) (by decide) (by decide)
  unfold f_X10_appendPlan
  rw [p1]
  have hroom := C_room (r := ps.length) hC0.2.1 hk24 hl
  by_cases hk : k + ps.length ≤ 24
  · rw [if_pos hk] at hroom
    rw [bdx_r hroom]
    refine Ev_jn1 (fun h1 => NetC n (k + ps.length) (extN f k (ps.map Prod.fst)) (extN o k (ps.map Prod.snd)) h1 ∧ Sm [1, 2, 3] h h1) (fun h1 ⟨a1, a2⟩ => ?_) (fun kk hkk => ?_)
    · refine Ev_bd _ (s_forgetC h1) (fun c2 ⟨g1, g2, g3, g4, g5⟩ => Ev_so ⟨fun z => absurd hk (by omega), fun _ => ⟨c2, ?_, Sm.nC a1 g1 (by decide) (by decide) (by decide), ((p3.mono (by decide)).tr (a2.mono (by decide))).tr (g1.mono (by decide)), g2, g3, g4, g5⟩⟩)
      rw [(g1 6 (by decide)).1, (a2 6 (by decide)).1, p1]
    · refine Ev_fx2 (fun j a1 a2 => a1 = nI j ∧ NetC n (k + j) (extN f k ((ps.take j).map Prod.fst)) (extN o k ((ps.take j).map Prod.snd)) a2 ∧ Sm [1, 2, 3] h a2) ps.length ?_ ?_ (FU_lt (by omega)) ⟨rfl, ?_, Sm.rf⟩
      · rintro self j a1 a2 hj ⟨rfl, hN, hS⟩ hself
        unfold L_X10_appendPlan_13
        have hget : ps[j]? = some ps[j] := List.getElem?_eq_getElem hj
        rw [(hS 6 (by decide)).1, p1, clN (by omega), (hS 7 (by decide)).1, (hS 8 (by decide)).1, (p2 j _ hget).1, (p2 j _ hget).2]
        refine Ev_f (nle_n hj (by omega)) (Ev_ck rfl (by omega) (by omega) (Ev_ck rfl (by omega) (by omega) (Ev_bd _ (C_append hN (by omega)) (fun h2 ⟨b1, b2⟩ => hself _ _ ⟨nI_add j 1, ?_, hS.tr b2⟩))))
        have e1 : ∀ g : Nat × Nat → Nat, (ps.take (j + 1)).map g = (ps.take j).map g ++ [g ps[j]] := fun g => by
          rw [← List.take_append_getElem hj, List.map_append]; rfl
        have e2 : ∀ g : Nat × Nat → Nat, ((ps.take j).map g).length = j := fun g => by simp; omega
        have u1 := ext_upd (f := f) (k := k) (x := ps[j].1) (l := (ps.take j).map Prod.fst)
        have u2 := ext_upd (f := o) (k := k) (x := ps[j].2) (l := (ps.take j).map Prod.snd)
        rw [e2] at u1 u2
        rw [e1, e1, ← u1, ← u2]
        exact b1
      · rintro self a1 a2 ⟨rfl, hN, hS⟩
        unfold L_X10_appendPlan_13
        rw [(hS 6 (by decide)).1, p1]
        rw [List.take_length] at hN
        exact Ev_t (Int32.le_refl _) (hkk _ ⟨hN, hS⟩)
      · refine ⟨hC0.1, hC0.2.1, fun i hi => ?_⟩
        rw [List.take_zero]
        show _ = nI (extN f k [] i) ∧ _ = nI (extN o k [] i)
        rw [ext_nil (by omega), ext_nil (by omega)]
        exact hC0.2.2 i (by omega)
  · rw [if_neg hk] at hroom
    rw [bdx_l hroom]
    exact Ev_so ⟨fun _ => rfl, fun z => absurd z hk⟩
/-- the reference, counting alone or laying -/
def MkI (n k : Nat) (f o : Nat → Nat) (al : Bool) (m : Hp) (ps : List (Nat × Nat)) (h : Hp) : Prop := if al = true then h = m else NetM n (k + ps.length) (extN f k (ps.map Prod.fst)) (extN o k (ps.map Prod.snd)) h ∧ Sm [0, 1, 2] m h ∧ ∀ j, j ≠ 2 → h.1 0 j = m.1 0 j
theorem MkI.n {n k : Nat} {f o : Nat → Nat} {al : Bool} {m h : Hp} {ps : List (Nat × Nat)} (hM : NetM n k f o m) (hI : MkI n k f o al m ps h) : h.1 0 1 = nI n := by
  unfold MkI at hI
  cases al with
  | true => rw [if_pos rfl] at hI; rw [hI]; exact hM.1
  | false => rw [if_neg (by decide)] at hI; exact hI.1.1
theorem MkI.fo {n k : Nat} {f o : Nat → Nat} {m h : Hp} {ps : List (Nat × Nat)} (hI : MkI n k f o false m ps h) : NetM n (k + ps.length) (extN f k (ps.map Prod.fst)) (extN o k (ps.map Prod.snd)) h ∧ Sm [0, 1, 2] m h ∧ ∀ j, j ≠ 2 → h.1 0 j = m.1 0 j := hI
theorem MkI.fi {n k : Nat} {f o : Nat → Nat} {m h : Hp} {ps : List (Nat × Nat)} (hI : NetM n (k + ps.length) (extN f k (ps.map Prod.fst)) (extN o k (ps.map Prod.snd)) h ∧ Sm [0, 1, 2] m h ∧ ∀ j, j ≠ 2 → h.1 0 j = m.1 0 j) : MkI n k f o false m ps h := hI
theorem MkI.z {n k : Nat} {f o : Nat → Nat} {al : Bool} {m : Hp} (hM : NetM n k f o m) : MkI n k f o al m [] m := by
  unfold MkI
  split
  · rfl
  · refine ⟨⟨hM.1, hM.2.1, fun i hi => ?_, hM.2.2.2⟩, Sm.rf, fun j _ => rfl⟩
    show _ = nI (extN f k [] i) ∧ _ = nI (extN o k [] i)
    rw [ext_nil (show i < k from hi), ext_nil (show i < k from hi)]
    exact hM.2.2.1 i hi
def alI (al : Bool) : Int32 := if al = true then 1 else 0
def mkL (n w : Nat) : List (Nat × Nat) := if w = 0 then bubO n (n - 1) else if w = 1 then briO n n else merO n (hlf n) (lgh n + 1)
theorem mkL_len {n w : Nat} (hn : n ≤ 6) : (mkL n w).length ≤ 15 := by
  unfold mkL
  split
  · have : ∀ n, n < 7 → (bubO n (n - 1)).length ≤ 15 := by decide
    exact this n (by omega)
  · split
    · have : ∀ n, n < 7 → (briO n n).length ≤ 15 := by decide
      exact this n (by omega)
    · have : ∀ n, n < 7 → (merO n (hlf n) (lgh n + 1)).length ≤ 15 := by decide
      exact this n (by omega)
