/-! P43: codes, rows through, often, layers, puts, makes -/
def cdL (v : Nat → Nat) : Nat → Nat
  | 0 => 0
  | w + 1 => cdL v w + 10 ^ w * v w
theorem cdL_S {n : Nat} {v : Nat → Nat} (hn : n ≤ 5) (hn2 : 2 ≤ n) : cdL v n = cdS n v n := by
  rcases (show n = 2 ∨ n = 3 ∨ n = 4 ∨ n = 5 by omega) with rfl | rfl | rfl | rfl <;> simp [cdL, cdS] <;> omega
theorem r_code {n : Nat} {v : Nat → Nat} {p : Row} (hn : n ≤ 5) (hn2 : 2 ≤ n) (hp : RwN n p v) : f_L_code (nI n) p = some (nI (cdS n v n)) := by
  refine Ev_eq ?_
  rw [← cdL_S hn hn2]
  unfold f_L_code
  refine Ev_jn1 (fun y => y = nI (cdL v n)) (fun y hy => Ev_so hy) (fun kk hk => ?_)
  refine Ev_fx3 (fun j a1 a2 a3 => a3 = nI j ∧ a1 = nI (cdL v j) ∧ a2 = nI (10 ^ j)) n ?_ ?_ (FU_lt (by omega)) ⟨rfl, rfl, rfl⟩
  · rintro self j a1 a2 a3 hj ⟨rfl, rfl, rfl⟩ hself
    unfold L_L_code_7
    rw [clN (by omega), hp j hj]
    refine Ev_f (nle_n hj (by omega)) (Ev_ck rfl (by omega) (by omega) (Ev_nm (Ev_nm (hself _ _ _ ⟨nI_add j 1, ?_, ?_⟩))))
    · rw [nmul, nI_add]; rfl
    · rw [show (10 : Int32) = nI 10 from rfl, nmul]; rfl
  · rintro self a1 a2 a3 ⟨rfl, rfl, rfl⟩
    unfold L_L_code_7
    exact Ev_t (Int32.le_refl _) (hk _ rfl)
def QrN (n k : Nat) (q : Row) : Prop := q 0 = nI n ∧ q 1 = nI k
theorem r_runs {n k : Nat} {f o v : Nat → Nat} {rp rr rc rq : Row} (hG : Good n k f o) (h5 : n ≤ 5) (hc : RcN k f o rc) (hq : QrN n k rq) (hp : RwN n rp v) (hv : ∀ x, x < n → v x < n) : Ev (f_L_runs (nI n) rp rr rc rq) (fun r => RwN n r (netN f o k v)) := by
  have hk24 := hG.2.2.1
  unfold f_L_runs
  refine Ev_jn1 (fun r => RwN n r v) (fun r1 hr1 => ?_) (fun kk hk => ?_)
  · refine Ev_jn1 (fun r => RwN n r (netN f o k v)) (fun r hr => Ev_so hr) (fun kk hk => ?_)
    refine Ev_fx2 (fun j a1 a2 => a1 = nI j ∧ RwN n a2 (netN f o j v)) k ?_ ?_ (FU_lt (by omega)) ⟨rfl, hr1⟩
    · rintro self j a1 a2 hj ⟨rfl, hR⟩ hself
      obtain ⟨g1, g2, g3⟩ := hG.2.2.2 j hj
      obtain ⟨e1, e2⟩ := hc.rd hj (by omega) (by omega)
      have hl := net_lt hG hv j (by omega)
      have l1 := hl _ g1
      have l2 := hl _ g2
      unfold L_L_runs_26
      rw [cl1, hq.2]
      refine Ev_c1 (Ev_f (nle_n hj (by omega)) (Ev_ck rfl (by omega) (by omega) (Ev_nm (Ev_ck rfl (by omega) (by omega) (Ev_nm ?_)))))
      rw [clN (by omega), e1, e2, clN (by omega), clN (by omega), hR _ g1, hR _ g2]
      refine Ev_ck rfl (by omega) (by omega) (Ev_ck rfl (by omega) (by omega) (Ev_jn1 (fun z => z = nI (min (netN f o j v (f j)) (netN f o j v (o j)))) (fun z hz => ?_) (fun k75 h75 => ?_)))
      · subst hz
        refine Ev_ck rfl (by omega) (by omega) (Ev_ck rfl (by omega) (by omega) (Ev_ck rfl (by omega) (by omega) (Ev_nm (Ev_ck rfl (by omega) (by omega) (Ev_nm (hself _ _ ⟨nI_add j 1, fun x hx => ?_⟩))))))
        rw [nsub (by omega), nI_add]
        show _ = nI (cmpN (f j) (o j) (netN f o j v) x)
        unfold cmpN
        by_cases x1 : x = f j
        · rw [x1, upd_s, if_pos rfl]
        · rw [upd_n _ _ x1, if_neg x1]
          by_cases x2 : x = o j
          · rw [x2, upd_s, if_pos rfl]
            congr 1
            omega
          · rw [upd_n _ _ x2, if_neg x2]
            exact hR x hx
      · refine Ev_i (fun e => Ev_ck rfl (by omega) (by omega) (h75 _ ?_)) (fun e => Ev_ck rfl (by omega) (by omega) (h75 _ ?_))
        · rw [nI_leI (by omega) (by omega)] at e
          congr 1
          omega
        · rw [nI_leI (by omega) (by omega)] at e
          congr 1
          omega
    · rintro self a1 a2 ⟨rfl, hR⟩
      unfold L_L_runs_26
      rw [cl1, hq.2]
      exact Ev_c1 (Ev_t (Int32.le_refl _) (hk _ hR))
  · refine Ev_fx2 (fun j a1 a2 => a1 = nI j ∧ RwN j a2 v) n ?_ ?_ (FU_lt (by omega)) ⟨rfl, fun x hx => absurd hx (by omega)⟩
    · rintro self j a1 a2 hj ⟨rfl, hR⟩ hself
      unfold L_L_runs_3
      rw [clN (by omega), hp j hj]
      refine Ev_f (nle_n hj (by omega)) (Ev_ck rfl (by omega) (by omega) (Ev_ck rfl (by omega) (by omega) (Ev_nm (hself _ _ ⟨nI_add j 1, fun x hx => ?_⟩))))
      by_cases x1 : x = j
      · rw [x1, upd_s]
      · rw [upd_n _ _ x1]; exact hR x (by omega)
    · rintro self a1 a2 ⟨rfl, hR⟩
      unfold L_L_runs_3
      exact Ev_t (Int32.le_refl _) (hk _ hR)
theorem oft_iff {f o : Nat → Nat} {i r n : Nat} (hf : f i < n) (ho : o i < n) (hfo : f i ≠ o i) (hi : i < 24) : (∀ x, x < n → netB f o 99 0 i (bR r) x = netB f o 99 0 (i + 1) (bR r) x) ↔ oftP f o i r = false := by
  have hW := netB_s (f := f) (o := o) (sp := 99) (md := 0) (i := i) (v := bR r)
  rw [if_neg (by omega)] at hW
  unfold oftP
  generalize netB f o 99 0 i (bR r) = V at hW ⊢
  generalize netB f o 99 0 (i + 1) (bR r) = W at hW ⊢
  subst hW
  constructor
  · intro h
    have h1 := h _ hf
    unfold cmpB at h1
    rw [if_pos rfl] at h1
    revert h1
    cases V (f i) <;> cases V (o i) <;> decide
  · intro h x hx
    refine (cmp_same (fun z => ?_) x).symm
    rw [z.1, z.2] at h
    cases h
theorem r_oftenL {n k i : Nat} {f o : Nat → Nat} {rc rq : Row} (hG : Good n k f o) (h5 : n ≤ 5) (hc : RcN k f o rc) (hq : QrN n k rq) (hi : i < k) : Ev (f_L_often (nI i) rc rq) (fun y => y = nI (ctB (oftP f o i) (2 ^ n))) := by
  have hk24 := hG.2.2.1
  have hle : 2 ^ n ≤ 2 ^ 5 := Nat.pow_le_pow_right (by omega) h5
  obtain ⟨g1, g2, g3⟩ := hG.2.2.2 i hi
  unfold f_L_often
  refine Ev_jn1 (fun y => y = nI (ctB (oftP f o i) (2 ^ n))) (fun y hy => Ev_so hy) (fun kk hk => ?_)
  refine Ev_fx2 (fun j a1 a2 => a2 = nI j ∧ a1 = nI (ctB (oftP f o i) j)) (2 ^ n) ?_ ?_ (FU_lt (by omega)) ⟨rfl, rfl⟩
  · rintro self j a1 a2 hj ⟨rfl, rfl⟩ hself
    unfold L_L_often_5
    rw [cl0, hq.1, shl_n (by omega)]
    refine Ev_ck (j := 0) rfl (by omega) (by omega) (Ev_f (nle_n hj (by omega)) (Ev_bd _ (r_out (md := 0) hG h5 hc (Nat.le_of_lt hi) hj SpI.m (by omega)) (fun y hy => ?_)))
    rw [n1, nI_add]
    refine Ev_bd _ (r_out (md := 0) hG h5 hc (show i + 1 ≤ k by omega) hj SpI.m (by omega)) (fun z hz => ?_)
    have he := (RQ.eq (by omega) hy hz).trans (oft_iff g1 g2 g3 (by omega))
    refine Ev_i (fun e => Ev_nm (hself _ _ ⟨nI_add j 1, ?_⟩)) (fun e => Ev_nm (hself _ _ ⟨nI_add j 1, ?_⟩))
    · have := he.mp e
      simp only [ctB, this]
      rw [show (0 : Int32) = nI 0 from rfl, nI_add]; rfl
    · have : oftP f o i j = true := by
        cases e2 : oftP f o i j with
        | true => rfl
        | false => exact absurd (he.mpr e2) e
      simp only [ctB, this]
      rw [nI_add]; rfl
  · rintro self a1 a2 ⟨rfl, rfl⟩
    unfold L_L_often_5
    rw [cl0, hq.1, shl_n (by omega)]
    exact Ev_ck (j := 0) rfl (by omega) (by omega) (Ev_t (Int32.le_refl _) (hk _ rfl))
theorem r_layers {n k : Nat} {f o : Nat → Nat} {rl rc rq : Row} (hG : Good n k f o) (h5 : n ≤ 5) (hc : RcN k f o rc) (hq : QrN n k rq) : Ev (f_L_layers rl rc rq) (fun y => y.1 = nI (allN f o k) ∧ RwN k y.2 (layN f o)) := by
  have hk24 := hG.2.2.1
  unfold f_L_layers
  refine Ev_jn3 (fun a l _ => a = nI (allN f o k) ∧ RwN k l (layN f o)) (fun a l d hh => Ev_so hh) (fun kk hk => ?_)
  refine Ev_fx4 (fun j a1 a2 l d => a2 = nI j ∧ a1 = nI (allN f o j) ∧ RwN j l (layN f o) ∧ RwN n d (freN f o j)) k ?_ ?_ (FU_lt (by omega)) ⟨rfl, rfl, fun x hx => absurd hx (by omega), fun x hx => rfl⟩
  · rintro self j a1 a2 l d hj ⟨rfl, rfl, hl, hd⟩ hself
    obtain ⟨g1, g2, g3⟩ := hG.2.2.2 j hj
    obtain ⟨e1, e2⟩ := hc.rd hj (by omega) (by omega)
    have l1 := fre_le (f := f) (o := o) j (f j)
    have l2 := fre_le (f := f) (o := o) j (o j)
    have l3 := lay_le (f := f) (o := o) (i := j)
    have l4 := all_le (f := f) (o := o) j
    unfold L_L_layers_11
    rw [cl1, hq.2]
    refine Ev_c1 (Ev_f (nle_n hj (by omega)) (Ev_ck rfl (by omega) (by omega) ?_))
    rw [clN (by omega), e1, e2]
    refine Ev_ck rfl (by omega) (by omega) (Ev_nm (Ev_ck rfl (by omega) (by omega) (Ev_ck rfl (by omega) (by omega) (Ev_nm ?_))))
    rw [clN (by omega), clN (by omega), hd _ g1, hd _ g2]
    refine Ev_jn1 (fun z => z = nI (layN f o j)) (fun z hz => ?_) (fun k58 h58 => ?_)
    · subst hz
      refine Ev_ck rfl (by omega) (by omega) (Ev_nm (Ev_ck rfl (by omega) (by omega) (Ev_ck rfl (by omega) (by omega) (Ev_ck rfl (by omega) (by omega) (Ev_nm (Ev_ck rfl (by omega) (by omega) (Ev_ck rfl (by omega) (by omega) (Ev_ck rfl (by omega) (by omega) (Ev_nm (Ev_ck rfl (by omega) (by omega) ?_)))))))))) 
      rw [upd_s, n1]
      simp only [nI_add]
      have hl2 : RwN (j + 1) (upd l j (nI (layN f o j))) (layN f o) := fun x hx => by
        by_cases x1 : x = j
        · rw [x1, upd_s]
        · rw [upd_n _ _ x1]; exact hl x (by omega)
      have hd2 : RwN n (upd (upd d (f j) (nI (layN f o j + 1))) (o j) (nI (layN f o j + 1))) (freN f o (j + 1)) := fun x hx => by
        rw [fre_s]
        by_cases x2 : x = o j
        · rw [x2, upd_s, if_pos (Or.inr rfl)]; rfl
        · rw [upd_n _ _ x2]
          by_cases x1 : x = f j
          · rw [x1, upd_s, if_pos (Or.inl rfl)]; rfl
          · rw [upd_n _ _ x1, if_neg (by rintro (h | h) <;> contradiction)]
            exact hd x hx
      have ha : allN f o (j + 1) = max (allN f o j) (layN f o j + 1) := rfl
      refine Ev_i (fun e => hself _ _ _ _ ⟨rfl, ?_, hl2, hd2⟩) (fun e => Ev_ck rfl (by omega) (by omega) (Ev_nm (hself _ _ _ _ ⟨rfl, ?_, hl2, hd2⟩)))
      · rw [nI_ltI (by omega) (by omega)] at e
        rw [ha, Nat.max_eq_left (by omega)]
      · rw [nI_ltI (by omega) (by omega)] at e
        rw [ha, Nat.max_eq_right (by omega)]
    · unfold layN at h58
      refine Ev_i (fun e => h58 _ ?_) (fun e => h58 _ ?_)
      · rw [nI_leI (by omega) (by omega)] at e
        congr 1; omega
      · rw [nI_leI (by omega) (by omega)] at e
        congr 1; omega
  · rintro self a1 a2 l d ⟨rfl, rfl, hl, hd⟩
    unfold L_L_layers_11
    rw [cl1, hq.2]
    exact Ev_c1 (Ev_t (Int32.le_refl _) (hk _ _ _ ⟨rfl, hl⟩))
/-- comparators put behind: what stands then -/
def PtN (k : Nat) (f o : Nat → Nat) (ps : List (Nat × Nat)) (q0 rc rq : Row) : Prop := RcN (k + ps.length) (extN f k (ps.map Prod.fst)) (extN o k (ps.map Prod.snd)) rc ∧ rq 1 = nI (k + ps.length) ∧ ∀ x, x ≠ 1 → rq x = q0 x
theorem PtN.nil {k : Nat} {f o : Nat → Nat} {rc rq : Row} (hc : RcN k f o rc) (hq : rq 1 = nI k) : PtN k f o [] rq rc rq := ⟨fun i hi => by
  have hi : i < k := hi
  show rc i = nI (extN f k [] i + 8 * extN o k [] i)
  rw [ext_nil hi, ext_nil hi]; exact hc i hi, hq, fun _ _ => rfl⟩
theorem r_puts {k a b : Nat} {f o : Nat → Nat} {ps : List (Nat × Nat)} {q0 rc rq : Row} (h : PtN k f o ps q0 rc rq) (hk : k + ps.length < 24) : Ev (f_L_puts (nI a) (nI b) rc rq) (fun r => PtN k f o (ps ++ [(a, b)]) q0 r.1 r.2) := by
  obtain ⟨h1, h2, h3⟩ := h
  unfold f_L_puts
  rw [cl1, h2, clN (by omega), n8, n1, nmul, nI_add, nI_add]
  refine Ev_ck (j := 1) rfl (by omega) (by omega) (Ev_ck rfl hk (by omega) (Ev_nm (Ev_ck (j := 1) rfl (by omega) (by omega) (Ev_ck (j := 1) rfl (by omega) (by omega) (Ev_nm (Ev_so ⟨fun i hi => ?_, ?_, fun x hx => ?_⟩))))))
  · have u1 := ext_upd (f := f) (k := k) (x := a) (l := ps.map Prod.fst)
    have u2 := ext_upd (f := o) (k := k) (x := b) (l := ps.map Prod.snd)
    rw [List.length_map] at u1 u2
    rw [List.map_append, List.map_append]
    show upd rc _ _ i = nI (extN f k (ps.map Prod.fst ++ [a]) i + 8 * extN o k (ps.map Prod.snd ++ [b]) i)
    rw [← u1, ← u2]
    rw [List.length_append] at hi
    have hi : i < k + (ps.length + 1) := hi
    unfold updN
    by_cases e : i = k + ps.length
    · rw [e, upd_s, if_pos rfl, if_pos rfl]
    · rw [upd_n _ _ e, if_neg e, if_neg e]
      exact h1 i (by omega)
  · dsimp only
    rw [upd_s, List.length_append]; rfl
  · dsimp only
    rw [upd_n _ _ hx]; exact h3 x hx
theorem made_ok : ∀ w, w < 3 → ∀ n, n < 6 → 2 ≤ n → f_L_made (nI w) (nI n) = some (nI (mkL n w).length) := by decide +kernel
