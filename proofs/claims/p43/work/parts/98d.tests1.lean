/-! CASE tests: the class's sets -/
def subL (u w : Int64) : Prop := ∀ r, r < 64 → bt64 u r = true → bt64 w r = true
theorem sub_lg {u w : Int64} : lg_cmp (u &&& (w ^^^ (-1 : Int64))) 0 = 0 ↔ subL u w := by
  rw [lg_eq]
  constructor
  · intro h r hr hu
    have := congrArg (fun x => bt64 x r) h
    simp only [bt_and, bt_not _ hr, bt_0, hu, Bool.true_and] at this
    cases e : bt64 w r with
    | true => rfl
    | false => rw [e] at this; cases this
  · intro h
    apply bt_ext
    intro r hr
    rw [bt_and, bt_not _ hr, bt_0]
    cases e : bt64 u r with
    | false => rfl
    | true => rw [h r hr e]; rfl
theorem subL.rf {u : Int64} : subL u u := fun _ _ h => h
theorem subL.tr {u v w : Int64} (h1 : subL u v) (h2 : subL v w) : subL u w := fun r hr h => h2 r hr (h1 r hr h)
theorem getL_mem {W : List Int64} {i : Nat} (h : i < W.length) : W.getD i 0 ∈ W := by
  rw [List.getD_eq_getElem?_getD, List.getElem?_eq_getElem h]; exact List.getElem_mem _
theorem memL_get {W : List Int64} {r : Int64} (h : r ∈ W) : ∃ i, i < W.length ∧ W.getD i 0 = r := by
  obtain ⟨i, hi, e⟩ := List.mem_iff_getElem.mp h
  exact ⟨i, hi, by rw [List.getD_eq_getElem?_getD, List.getElem?_eq_getElem hi]; exact e⟩
theorem getL_app {W : List Int64} {i : Nat} {x : Int64} (h : i < W.length) : (W ++ [x]).getD i 0 = W.getD i 0 := by
  rw [List.getD_eq_getElem?_getD, List.getElem?_append_left h, ← List.getD_eq_getElem?_getD]
theorem getL_last {W : List Int64} {x : Int64} : (W ++ [x]).getD W.length 0 = x := by
  rw [List.getD_eq_getElem?_getD, List.getElem?_append_right (Nat.le_refl _), Nat.sub_self]; rfl
def KpC (W : List Int64) (h : Hp) : Prop := h.1 18 1 = nI W.length ∧ ∀ i, i < W.length → h.2 19 i = W.getD i 0
theorem C_keep {W : List Int64} {h : Hp} {x : Int64} (hK : KpC W h) (hl : W.length < 72) : Ev (f_X3_keep_18 h x) (fun h1 => ∃ W', KpC W' h1 ∧ W'.length ≤ W.length + 1 ∧ (∀ w, w ∈ W' → w ∈ W ∨ (w = x ∧ x ≠ 0)) ∧ (∀ w, w ∈ W → ∃ w', w' ∈ W' ∧ subL w' w) ∧ (x ≠ 0 → ∃ w', w' ∈ W' ∧ subL w' x) ∧ Sm [18, 19] h h1) := by
  unfold f_X3_keep_18
  refine Ev_i (fun e => Ev_so ⟨W, hK, by omega, fun w hw => Or.inl hw, fun w hw => ⟨w, hw, subL.rf⟩, fun z => absurd (lg_eq.mp e) z, Sm.rf⟩) (fun e => ?_)
  have hx : x ≠ 0 := fun z => e (lg_eq.mpr z)
  refine Ev_jn0 True (fun _ => ?_) (fun k46 hk46 => Ev_jn0 (∃ w, w ∈ W ∧ subL w x) (fun ⟨w, hw, hs⟩ => Ev_so ⟨W, hK, by omega, fun w hw => Or.inl hw, fun w hw => ⟨w, hw, subL.rf⟩, fun _ => ⟨w, hw, hs⟩, Sm.rf⟩) (fun k39 hk39 => ?_))
  · refine Ev_jn2 (fun y h1 => ∃ V : List Int64, y = nI V.length ∧ V.length ≤ W.length ∧ (∀ i, i < V.length → h1.2 19 i = V.getD i 0) ∧ (∀ w, w ∈ V → w ∈ W) ∧ (∀ w, w ∈ W → w ∈ V ∨ subL x w) ∧ h1.1 18 1 = nI W.length ∧ Sm [18, 19] h h1) (fun y h1 ⟨V, e1, a1, a2, a3, a4, a5, a6⟩ => ?_) (fun k98 hk => ?_)
    · subst e1
      refine Ev_f (nle_n (a := 72) (by omega) (by omega)) (Ev_ck rfl (by omega) (by omega) (Ev_nm ?_))
      rw [n1, nI_add]
      refine Ev_nm (Ev_so ⟨V ++ [x], ⟨?_, fun i hi => ?_⟩, ?_, fun w hw => ?_, fun w hw => ?_, fun _ => ⟨x, by simp, subL.rf⟩, (a6.sL (by decide)).sF (by decide)⟩)
      · rw [wF_1, upd_s, List.length_append]; rfl
      · rw [List.length_append, show [x].length = 1 from rfl] at hi
        show (wL h1 19 (nI V.length) x).2 19 i = _
        rw [wLg_1, clN (by omega)]
        by_cases e2 : i = V.length
        · rw [e2, updL_s, getL_last]
        · rw [updL_n _ _ e2, getL_app (by omega)]; exact a2 i (by omega)
      · rw [List.length_append, show [x].length = 1 from rfl]; omega
      · rcases List.mem_append.mp hw with z | z
        · exact Or.inl (a3 w z)
        · exact Or.inr ⟨List.mem_singleton.mp z, hx⟩
      · rcases a4 w hw with z | z
        · exact ⟨w, List.mem_append_left _ z, subL.rf⟩
        · exact ⟨x, by simp, z⟩
    · refine Ev_fx3 (fun i y a2 h1 => a2 = nI i ∧ ∃ V : List Int64, y = nI V.length ∧ V.length ≤ i ∧ (∀ j, j < V.length → h1.2 19 j = V.getD j 0) ∧ (∀ j, i ≤ j → j < W.length → h1.2 19 j = W.getD j 0) ∧ (∀ w, w ∈ V → w ∈ W) ∧ (∀ j, j < i → W.getD j 0 ∈ V ∨ subL x (W.getD j 0)) ∧ h1.1 18 1 = nI W.length ∧ Sm [18, 19] h h1) W.length ?_ ?_ (FU_lt (by omega)) ⟨rfl, [], rfl, Nat.le_refl _, fun j hj => absurd hj (by simp), fun j _ hj => hK.2 j hj, fun w (hw : w ∈ ([] : List Int64)) => (by cases hw), fun j hj => absurd hj (by omega), hK.1, Sm.rf⟩
      · rintro self i y a2 h1 hi ⟨rfl, V, rfl, a1, a2, a3, a4, a5, a6, a7⟩ hself
        unfold L_X3_keep_18_49
        rw [a6, clN (by omega), a3 i (Nat.le_refl _) hi]
        refine Ev_f (nle_n hi (by omega)) (Ev_ck rfl (by omega) (by omega) ?_)
        refine Ev_i (fun e2 => hself _ _ _ ⟨nI_add i 1, V, rfl, by omega, a2, fun j j1 j2 => a3 j (by omega) j2, a4, fun j hj => ?_, a6, a7⟩) (fun e2 => Ev_ck rfl (by omega) (by omega) (Ev_ck rfl (by omega) (by omega) (Ev_nm (hself _ _ _ ⟨nI_add i 1, V ++ [W.getD i 0], by rw [List.length_append]; exact nI_add _ 1, by rw [List.length_append]; show V.length + 1 ≤ i + 1; omega, fun j hj => ?_, fun j j1 j2 => ?_, fun w hw => ?_, fun j hj => ?_, a6, a7.sL (by decide)⟩))))
        · by_cases e3 : j = i
          · rw [e3]; exact Or.inr (sub_lg.mp e2)
          · exact a5 j (by omega)
        · rw [List.length_append, show [W.getD i 0].length = 1 from rfl] at hj
          rw [wLg_1, clN (by omega)]
          by_cases e3 : j = V.length
          · rw [e3, updL_s, getL_last]
          · rw [updL_n _ _ e3, getL_app (by omega)]; exact a2 j (by omega)
        · rw [wLg_1, clN (by omega), updL_n _ _ (by omega)]; exact a3 j (by omega) j2
        · rcases List.mem_append.mp hw with z | z
          · exact a4 w z
          · rw [List.mem_singleton.mp z]; exact getL_mem hi
        · by_cases e3 : j = i
          · rw [e3]; exact Or.inl (by simp)
          · rcases a5 j (by omega) with z | z
            · exact Or.inl (List.mem_append_left _ z)
            · exact Or.inr z
      · rintro self y a2 h1 ⟨rfl, V, rfl, a1, a2, a3, a4, a5, a6, a7⟩
        unfold L_X3_keep_18_49
        rw [a6]
        refine Ev_t (Int32.le_refl _) (hk _ _ ⟨V, rfl, a1, a2, a4, fun w hw => ?_, a6, a7⟩)
        obtain ⟨i, hi, e2⟩ := memL_get hw
        rw [← e2]; exact a5 i hi
  · refine Ev_fx1 (fun i a1 => a1 = nI i) W.length ?_ ?_ (FU_lt (by omega)) rfl
    · rintro self i a1 hi rfl hself
      unfold L_X3_keep_18_12
      rw [hK.1, clN (by omega), hK.2 i hi]
      refine Ev_f (nle_n hi (by omega)) (Ev_ck rfl (by omega) (by omega) ?_)
      exact Ev_i (fun e2 => hk39 ⟨_, getL_mem hi, sub_lg.mp e2⟩) (fun e2 => hself _ (nI_add i 1))
    · rintro self a1 rfl
      unfold L_X3_keep_18_12
      rw [hK.1]
      exact Ev_t (Int32.le_refl _) (hk46 trivial)
/-- so many rows, none barred, hit all sets that the chosen do not -/
def HitW (W : List Int64) (m : Nat) (ch ba : Int64) : Prop := ∃ R : List Nat, R.length ≤ m ∧ (∀ r, r ∈ R → bt64 ba r = false) ∧ ∀ w, w ∈ W → w &&& ch = 0 → ∃ r, r ∈ R ∧ bt64 w r = true
def opW (W : List Int64) (ch : Int64) (i : Nat) : Prop := ∃ j, j < i ∧ W.getD j 0 &&& ch = 0
theorem and_z {w ch : Int64} {r : Nat} (hr : r < 64) : w &&& (ch ||| lshl 1 (nI r)) = 0 ↔ w &&& ch = 0 ∧ bt64 w r = false := by
  constructor
  · intro h
    have hb : ∀ j, j < 64 → (bt64 w j && (bt64 ch j || decide (j = r))) = false := fun j hj => by
      have := congrArg (fun x => bt64 x j) h
      simpa only [bt_and, bt_or, bt_lshl1 hr hj, bt_0] using this
    constructor
    · apply bt_ext
      intro j hj
      have := hb j hj
      rw [bt_and, bt_0]
      cases e : bt64 w j <;> cases e2 : bt64 ch j <;> simp_all
    · have := hb r hr
      simpa using this
  · rintro ⟨h1, h2⟩
    apply bt_ext
    intro j hj
    have := congrArg (fun x => bt64 x j) h1
    simp only [bt_and, bt_0] at this
    rw [bt_and, bt_or, bt_lshl1 hr hj, bt_0]
    by_cases e : j = r
    · rw [e, h2]; rfl
    · rw [decide_eq_false e, Bool.or_false]; exact this
theorem Hit_none {W : List Int64} {m : Nat} {ch ba : Int64} (h : ¬ opW W ch W.length) : HitW W m ch ba := ⟨[], Nat.zero_le _, fun r hr => (by cases hr), fun w hw e => by
  obtain ⟨i, hi, e2⟩ := memL_get hw
  exact absurd ⟨i, hi, by rw [e2]; exact e⟩ h⟩
/-- what the loop over the sets finds -/
def scW (W : List Int64) (ch ba : Int64) (i : Nat) (a7 a9 : Int64) (a11 : Int32) : Prop := (∀ r, r < 64 → (bt64 a7 r = true ↔ ∀ j, j < i → W.getD j 0 &&& ch = 0 → bt64 (W.getD j 0 &&& (ba ^^^ (-1 : Int64))) r = true)) ∧ ((a11 = 65 ∧ ¬ opW W ch i) ∨ ∃ c, c ≤ 64 ∧ a11 = nI c ∧ ∃ j, j < i ∧ W.getD j 0 &&& ch = 0 ∧ a9 = W.getD j 0 &&& (ba ^^^ (-1 : Int64)))
theorem C_canTell {W : List Int64} {h : Hp} (hK : KpC W h) (hl : W.length ≤ 72) : ∀ (m d : Nat) (ch ba : Int64), m < d → m < 10 → Ev (f_X3_canTell_19 d h (nI W.length) ch ba (nI m)) (fun y => y = pI (HitW W m ch ba))
  | m, d, ch, ba, hd, hm => by
    obtain ⟨d, rfl⟩ : ∃ d', d = d' + 1 := ⟨d - 1, by omega⟩
    show Ev (jn3 _ _) _
    refine Ev_jn3 (fun a7 a9 a11 => scW W ch ba W.length a7 a9 a11) (fun a7 a9 a11 ⟨p1, p2⟩ => ?_) (fun k79 hk => ?_)
    · rcases p2 with ⟨rfl, p2⟩ | ⟨c, hc, rfl, j0, hj0, ho, rfl⟩
      · exact Ev_t rfl (Ev_ckz (Or.inr rfl) (Ev_so (pI_t (Hit_none p2)).symm))
      · have e65 : (nI c = 65) = (c = 65) := nI_iff (b := 65) (by omega) (by omega)
        simp only [e65]
        refine Ev_f (by omega) ?_
        generalize hw0 : W.getD j0 0 = w0 at ho
        have hm0 : w0 ∈ W := by rw [← hw0]; exact getL_mem hj0
        have hx9 : ∀ r, r < 64 → bt64 (w0 &&& (ba ^^^ (-1 : Int64))) r = (bt64 w0 r && !bt64 ba r) := fun r hr => by rw [bt_and, bt_not _ hr]
        refine Ev_i (fun e => ?_) (fun e => ?_)
        · rw [show (1 : Int32) = nI 1 from rfl, nI_ltI (by omega) (by omega)] at e
          obtain ⟨m, rfl⟩ : ∃ m', m = m' + 1 := ⟨m - 1, by omega⟩
          have ih := C_canTell hK hl m d
          refine Ev_jn0 (¬ HitW W (m + 1) ch ba) (fun z => Ev_ckz (Or.inl rfl) (Ev_so (pI_f z).symm)) (fun k176 hk1 => Ev_jn0 (HitW W (m + 1) ch ba) (fun z => Ev_ckz (Or.inr rfl) (Ev_so (pI_t z).symm)) (fun k161 hk2 => ?_))
          refine Ev_fx2 (fun i a12 a14 => a14 = nI i ∧ (∀ r, r < 64 → bt64 a12 r = (bt64 ba r || (decide (r < i) && (bt64 w0 r && !bt64 ba r)))) ∧ ∀ R : List Nat, (R.length ≤ m + 1 ∧ (∀ r, r ∈ R → bt64 ba r = false) ∧ ∀ w, w ∈ W → w &&& ch = 0 → ∃ r, r ∈ R ∧ bt64 w r = true) → ∀ r, r ∈ R → r < i → bt64 w0 r = false) 64 ?_ ?_ (FU_lt (by omega)) ⟨rfl, fun r hr => by simp, fun R _ r _ hr => absurd hr (by omega)⟩
          · rintro self i a12 a14 hi ⟨rfl, q1, q2⟩ hself
            unfold L_X3_canTell_19_120
            refine Ev_f (nle_n (a := 64) hi (by omega)) (Ev_nm ?_)
            have hbit : lg_cmp ((w0 &&& (ba ^^^ (-1 : Int64))) &&& lshl 1 (nI i)) 0 = 0 ↔ (bt64 w0 i && !bt64 ba i) = false := by
              rw [lg_eq]
              constructor
              · intro z
                have := congrArg (fun x => bt64 x i) z
                simp only [bt_and, bt_lshl1 hi hi, bt_0, bt_not _ hi] at this
                simpa using this
              · intro z
                apply bt_ext
                intro j hj
                rw [bt_and, bt_lshl1 hi hj, bt_0, hx9 j hj]
                by_cases e3 : j = i
                · rw [e3, z]; rfl
                · rw [decide_eq_false e3, Bool.and_false]
            simp only [hbit]
            have hdec : ∀ r, decide (r < i + 1) = (decide (r < i) || decide (r = i)) := fun r => by
              by_cases y1 : r < i
              · simp [y1, show r < i + 1 by omega]
              · by_cases y2 : r = i
                · simp [y2]
                · simp [y1, y2, show ¬ r < i + 1 by omega]
            refine Ev_i (fun e3 => hself _ _ ⟨nI_add i 1, fun r hr => ?_, fun R hR r hr hri => ?_⟩) (fun e3 => ?_)
            · rw [q1 r hr, hdec r]
              by_cases e4 : r = i
              · rw [e4, e3]; simp
              · rw [decide_eq_false e4, Bool.or_false]
            · by_cases e4 : r = i
              · rw [e4] at hr ⊢
                have := hR.2.1 i hr
                rw [this] at e3
                simpa using e3
              · exact q2 R hR r hr (by omega)
            · have e5 : (bt64 w0 i && !bt64 ba i) = true := by
                cases z : (bt64 w0 i && !bt64 ba i) with
                | true => rfl
                | false => exact absurd z e3
              rw [Bool.and_eq_true, Bool.not_eq_true'] at e5
              rw [n1, nsub (by omega), Nat.add_sub_cancel]
              refine Ev_bd _ (ih _ _ (by omega) (by omega)) (fun y hy => ?_)
              by_cases e6 : HitW W m (ch ||| lshl 1 (nI i)) a12
              · rw [pI_t e6] at hy
                refine Ev_f (by rw [hy]; decide) (hk2 ?_)
                obtain ⟨R, r1, r2, r3⟩ := e6
                refine ⟨i :: R, by rw [List.length_cons]; omega, fun r hr => ?_, fun w hw e7 => ?_⟩
                · rcases List.mem_cons.mp hr with z | z
                  · rw [z]; exact e5.2
                  · by_cases h64 : r < 64
                    · have := r2 r z
                      rw [q1 r h64] at this
                      cases e8 : bt64 ba r with
                      | false => rfl
                      | true => rw [e8] at this; simp at this
                    · exact bt_big _ (by omega)
                · cases e8 : bt64 w i with
                  | true => exact ⟨i, List.mem_cons_self, e8⟩
                  | false =>
                    obtain ⟨r, y1, y2⟩ := r3 w hw ((and_z hi).mpr ⟨e7, e8⟩)
                    exact ⟨r, List.mem_cons_of_mem _ y1, y2⟩
              · rw [pI_f e6] at hy
                refine Ev_t (by rw [hy]) (Ev_nm (hself _ _ ⟨nI_add i 1, fun r hr => ?_, fun R hR r hr hri => ?_⟩))
                · rw [bt_or, bt_lshl1 hi hr, q1 r hr, hdec r]
                  by_cases e4 : r = i
                  · rw [e4, e5.1, e5.2]; simp
                  · rw [decide_eq_false e4]; simp
                · by_cases e4 : r = i
                  · rw [e4] at hr ⊢
                    exfalso
                    apply e6
                    refine ⟨R.erase i, ?_, fun r' hr' => ?_, fun w hw e7 => ?_⟩
                    · rw [List.length_erase_of_mem hr]; have := hR.1; omega
                    · have hr2 := List.mem_of_mem_erase hr'
                      by_cases h64 : r' < 64
                      · rw [q1 r' h64, hR.2.1 r' hr2]
                        by_cases e8 : r' < i
                        · rw [q2 R hR r' hr2 e8]; simp
                        · rw [decide_eq_false e8]; rfl
                      · exact bt_big _ (by omega)
                    · obtain ⟨y1, y2⟩ := (and_z hi).mp e7
                      obtain ⟨r', y3, y4⟩ := hR.2.2 w hw y1
                      have hne : r' ≠ i := fun z => by rw [z, y2] at y4; cases y4
                      exact ⟨r', (List.mem_erase_of_ne hne).mpr y3, y4⟩
                  · exact q2 R hR r hr (by omega)
          · rintro self a12 a14 ⟨rfl, q1, q2⟩
            unfold L_X3_canTell_19_120
            refine Ev_t (Int32.le_refl _) (hk1 (fun ⟨R, hR⟩ => ?_))
            obtain ⟨r, y1, y2⟩ := hR.2.2 w0 hm0 ho
            have h64 : r < 64 := Classical.byContradiction (fun z => by rw [bt_big _ (by omega)] at y2; cases y2)
            rw [q2 R hR r y1 h64] at y2
            cases y2
        · rw [show (1 : Int32) = nI 1 from rfl, nI_ltI (by omega) (by omega)] at e
          have e1 : (nI m = 1) = (m = 1) := nI_iff (b := 1) (by omega) (by omega)
          simp only [e1]
          refine Ev_i (fun e2 => ?_) (fun e2 => Ev_ckz (Or.inl rfl) (Ev_so (pI_f (fun z => ?_)).symm))
          · subst e2
            refine Ev_i (fun e3 => Ev_ckz (Or.inl rfl) (Ev_so (pI_f (fun z => ?_)).symm)) (fun e3 => Ev_ckz (Or.inr rfl) (Ev_so (pI_t ?_).symm))
            · obtain ⟨R, r1, r2, r3⟩ := z
              obtain ⟨r, y1, y2⟩ := r3 w0 hm0 ho
              have h64 : r < 64 := Classical.byContradiction (fun z => by rw [bt_big _ (by omega)] at y2; cases y2)
              have hR : ∀ r', r' ∈ R → r' = r := fun r' hr' => by
                match R, r1, y1, hr' with
                | [x], _, y1, hr' => rw [List.mem_singleton] at y1 hr'; rw [y1, hr']
              have hb : bt64 a7 r = true := (p1 r h64).mpr (fun j hj e4 => by
                obtain ⟨r', y3, y4⟩ := r3 _ (getL_mem hj) e4
                rw [hR r' y3] at y4
                rw [bt_and, bt_not _ h64, y4, r2 r y1]; rfl)
              rw [lg_eq.mp e3, bt_0] at hb
              cases hb
            · have : ∃ r, r < 64 ∧ bt64 a7 r = true := Classical.byContradiction (fun z => e3 (lg_eq.mpr (bt_ext (fun r hr => by
                rw [bt_0]
                cases e4 : bt64 a7 r with
                | false => rfl
                | true => exact absurd ⟨r, hr, e4⟩ z))))
              obtain ⟨r, h64, e4⟩ := this
              have h5 := (p1 r h64).mp e4
              refine ⟨[r], Nat.le_refl _, fun r' hr' => ?_, fun w hw e6 => ⟨r, by simp, ?_⟩⟩
              · rw [List.mem_singleton] at hr'
                have := h5 j0 hj0 (by rw [hw0]; exact ho)
                rw [bt_and, bt_not _ h64, Bool.and_eq_true, Bool.not_eq_true'] at this
                rw [hr']; exact this.2
              · obtain ⟨j, hj, e7⟩ := memL_get hw
                have := h5 j hj (by rw [e7]; exact e6)
                rw [bt_and, e7, Bool.and_eq_true] at this
                exact this.1
          · obtain ⟨R, r1, _, r3⟩ := z
            obtain ⟨r, y1, _⟩ := r3 w0 hm0 ho
            have : 0 < R.length := List.length_pos_of_mem y1
            omega
    · refine Ev_fx4 (fun i a7 a9 a11 a12 => a12 = nI i ∧ scW W ch ba i a7 a9 a11) W.length ?_ ?_ (FU_lt (by omega)) ⟨rfl, fun r hr => ⟨fun _ j hj => absurd hj (by omega), fun _ => bt_m1 hr⟩, Or.inl ⟨rfl, fun ⟨j, hj, _⟩ => absurd hj (by omega)⟩⟩
      · rintro self i a7 a9 a11 a12 hi ⟨rfl, p1, p2⟩ hself
        unfold L_X3_canTell_19_15
        rw [clN (by omega), hK.2 i hi]
        refine Ev_f (nle_n hi (by omega)) (Ev_ck rfl (by omega) (by omega) (Ev_i (fun e => ?_) (fun e => ?_)))
        · have eo := lg_eq.mp e
          refine Ev_ck rfl (by omega) (by omega) (Ev_nm (Ev_nm (Ev_bd _ (s_bitCount _) (fun y hy => ?_))))
          have hct : ctB (bt64 (W.getD i 0 &&& (ba ^^^ (-1 : Int64)))) 64 ≤ 64 := ct_le
          have hp1 : ∀ r, r < 64 → (bt64 (a7 &&& (W.getD i 0 &&& (ba ^^^ (-1 : Int64)))) r = true ↔ ∀ j, j < i + 1 → W.getD j 0 &&& ch = 0 → bt64 (W.getD j 0 &&& (ba ^^^ (-1 : Int64))) r = true) := fun r hr => by
            rw [bt_and, Bool.and_eq_true, p1 r hr]
            constructor
            · rintro ⟨y1, y2⟩ j hj ej
              by_cases e4 : j = i
              · rw [e4]; exact y2
              · exact y1 j (by omega) ej
            · intro y
              exact ⟨fun j hj ej => y j (by omega) ej, y i (by omega) eo⟩
          refine Ev_i (fun e2 => hself _ _ _ _ ⟨nI_add i 1, hp1, ?_⟩) (fun e2 => Ev_bd _ (s_bitCount _) (fun y2 hy2 => hself _ _ _ _ ⟨nI_add i 1, hp1, Or.inr ⟨_, hct, hy2, i, by omega, eo, rfl⟩⟩))
          rcases p2 with ⟨q1, q2⟩ | ⟨c, hc, q1, j, hj, q2, q3⟩
          · rw [q1, hy, show (65 : Int32) = nI 65 from rfl, nI_leI (by omega) (by omega)] at e2
            omega
          · exact Or.inr ⟨c, hc, q1, j, by omega, q2, q3⟩
        · have eo : ¬ W.getD i 0 &&& ch = 0 := fun z => e (lg_eq.mpr z)
          refine hself _ _ _ _ ⟨nI_add i 1, fun r hr => ?_, ?_⟩
          · rw [p1 r hr]
            constructor
            · intro y j hj ej
              by_cases e4 : j = i
              · rw [e4] at ej; exact absurd ej eo
              · exact y j (by omega) ej
            · intro y j hj ej
              exact y j (by omega) ej
          · rcases p2 with ⟨q1, q2⟩ | ⟨c, hc, q1, j, hj, q2, q3⟩
            · refine Or.inl ⟨q1, fun ⟨j, hj, ej⟩ => ?_⟩
              by_cases e4 : j = i
              · rw [e4] at ej; exact absurd ej eo
              · exact q2 ⟨j, by omega, ej⟩
            · exact Or.inr ⟨c, hc, q1, j, by omega, q2, q3⟩
      · rintro self a7 a9 a11 a12 ⟨rfl, hs⟩
        unfold L_X3_canTell_19_15
        exact Ev_t (Int32.le_refl _) (hk _ _ _ hs)
