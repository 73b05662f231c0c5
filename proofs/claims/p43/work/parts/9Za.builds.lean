/-! P43: the law's networks, changed beside the class -/
def BdP (T : Nat) (r1 r3 : Row) (y : Int32 × Hp × Row × Row × Row) : Prop := y.1 = 1 ∧ LawI T y.2.1 y.2.2.1 r1 y.2.2.2.1 r3 y.2.2.2.2
theorem Ev_1 {T : Nat} {r1 r3 : Row} {h : Hp} {a b d : Row} (hI : LawI T h a r1 b r3 d) : Ev (ckz (1 : Int32) (some ((1 : Int32), h, a, b, d))) (BdP T r1 r3) := Ev_ckz (Or.inr rfl) (Ev_so ⟨rfl, hI⟩)
theorem RcN.congr {k : Nat} {f o f2 o2 : Nat → Nat} {p : Row} (h : RcN k f o p) (e : ∀ i, i < k → f i = f2 i ∧ o i = o2 i) : RcN k f2 o2 p := fun i hi => by rw [h i hi, (e i hi).1, (e i hi).2]
theorem ext_1 {f : Nat → Nat} {k a i : Nat} (hi : i < k + 1) : extN f k [a] i = updN f k a i := by
  unfold extN updN
  by_cases h : i = k
  · rw [if_neg (by omega), if_pos h, h, Nat.sub_self]; rfl
  · rw [if_pos (by omega), if_neg h]
theorem two_ne {n a u : Nat} (ha : a < n) (hu : u < n - 1) : (a + 1 + u) % n < n ∧ (a + 1 + u) % n ≠ a := by
  refine ⟨Nat.mod_lt _ (by omega), ?_⟩
  by_cases h : a + 1 + u < n
  · rw [Nat.mod_eq_of_lt h]; omega
  · rw [Nat.mod_eq_sub_mod (by omega), Nat.mod_eq_of_lt (by omega)]; omega
theorem Good.less {n k k1 : Nat} {f o : Nat → Nat} (h : Good n k f o) (hk : k1 ≤ k) : Good n k1 f o := ⟨h.1, h.2.1, by have := h.2.2.1; omega, fun i hi => h.2.2.2 i (by omega)⟩
theorem RcN.less {k k1 : Nat} {f o : Nat → Nat} {p : Row} (h : RcN k f o p) (hk : k1 ≤ k) : RcN k1 f o p := fun i hi => h i (by omega)
set_option maxHeartbeats 2000000 in
theorem b_add {T n k : Nat} {f o : Nat → Nat} {c : Hp} {x2 : Int32} {r0 r1 r2 r3 r4 : Row} (hL : LawS T n k f o c r0 r1 r2 r3 r4) : Ev (f_L_builds (0 : Int32) x2 c r0 r1 r2 r3 r4) (BdP T r1 r3) := by
  have hL0 := hL
  obtain ⟨hG, h5, hC, hc, hq, hTp, hB, hS, hSt, hA⟩ := hL
  have hn2 := hG.1
  have hk24 := hG.2.2.1
  unfold f_L_builds
  rw [cl0, hq.1, cl1, hq.2]
  refine Ev_c0 (Ev_t rfl (Ev_bd _ (r_low (by omega) (by omega)) (fun r77 ⟨a, ha, ea⟩ => ?_)))
  subst ea
  rw [n1, nsub (by omega)]
  refine Ev_bd _ (r_low (by omega) (by omega)) (fun r79 ⟨u, hu, eu⟩ => Ev_nz (nI_ne0 (by omega) (by omega)) ?_)
  subst eu
  rw [nI_add, nI_add, irmN (by omega) (by omega) (by omega)]
  obtain ⟨hb, hab⟩ := two_ne ha hu
  generalize (a + 1 + u) % n = b at hb hab
  have hkk := k_add (c := c) hC (by omega) hk24 ha hb (Ne.symm hab)
  refine Ev_nm (Ev_ck (j := 1) rfl (by omega) (by omega) (Ev_jn1 (fun z => z = if k < 24 then (1 : Int32) else 0) (fun z hz => ?_) (fun k52 h52 => ?_)))
  · by_cases h : k < 24
    · rw [if_pos h] at hz
      subst hz
      have hP := PtN.nil hc hq.2
      refine Ev_jn3 (fun s0 s2 s4 => PtN k f o [(a, b)] r4 s0 s4 ∧ RwN 6 s2 (fun _ => 0)) (fun s0 s2 s4 ⟨p1, p2⟩ => ?_) (fun k74 h74 => ?_)
      · refine Ev_bd _ hkk (fun y ⟨y1, _⟩ => ?_)
        obtain ⟨e1, e2, e3, e4⟩ := y1 h
        obtain ⟨p3, p4, p5⟩ := p1
        refine Ev_jn1 (fun z => z = nI k) (fun z hz => Ev_t (e1.trans hz.symm) (Ev_1 ⟨n, k + 1, updN f k a, updN o k b, ?_⟩)) (fun k101 h101 => Ev_f (by decide) (Ev_ck (j := 1) rfl (by omega) (by omega) (h101 _ ?_)))
        · refine hL0.chg (hG.add h ha hb (Ne.symm hab)) e2 e3 (by decide) e4 (p3.congr (fun i hi => ⟨ext_1 hi, ext_1 hi⟩)) ⟨?_, p4⟩ ((hTp.sm e3 (by decide) (by decide)).q (p5 2 (by omega))) p2
          rw [p5 0 (by omega)]; exact hq.1
        · show s4 1 - nI 1 = nI k
          rw [p4]
          exact nsub (by show 1 ≤ k + 1; omega)
      · exact Ev_f (by decide) (Ev_bd _ (r_puts hP (by show k + 0 < 24; omega)) (fun r89 h89 => Ev_bd _ r_forgets (fun r91 h91 => h74 _ _ _ ⟨h89, h91⟩)))
    · rw [if_neg h] at hz
      subst hz
      refine Ev_jn3 (fun s0 s2 s4 => s0 = r0 ∧ s2 = r2 ∧ s4 = r4) (fun s0 s2 s4 ⟨p1, p2, p3⟩ => ?_) (fun k74 h74 => Ev_t rfl (h74 _ _ _ ⟨rfl, rfl, rfl⟩))
      subst p1 p2 p3
      refine Ev_bd _ hkk (fun y ⟨_, y2⟩ => ?_)
      obtain ⟨e1, e2⟩ := y2 h
      refine Ev_jn1 (fun z => z = (-1003 : Int32)) (fun z hz => Ev_t (e1.trans hz.symm) (Ev_1 ⟨n, k, f, o, ?_⟩)) (fun k101 h101 => Ev_t rfl (h101 _ rfl))
      rw [e2]; exact hL0
  · rw [show (24 : Int32) = nI 24 from rfl]
    refine Ev_i (fun e => h52 _ ?_) (fun e => h52 _ ?_)
    · rw [nI_leI (by omega) (by omega)] at e
      rw [if_neg (by omega)]
    · rw [nI_leI (by omega) (by omega)] at e
      rw [if_pos (by omega)]; rfl
set_option maxHeartbeats 2000000 in
theorem b_take {T n k : Nat} {f o : Nat → Nat} {c : Hp} {x2 : Int32} {r0 r1 r2 r3 r4 : Row} (hL : LawS T n k f o c r0 r1 r2 r3 r4) : Ev (f_L_builds (1 : Int32) x2 c r0 r1 r2 r3 r4) (BdP T r1 r3) := by
  have hL0 := hL
  obtain ⟨hG, h5, hC, hc, hq, hTp, hB, hS, hSt, hA⟩ := hL
  have hn2 := hG.1
  have hk24 := hG.2.2.1
  unfold f_L_builds
  rw [cl0, hq.1, cl1, hq.2]
  have hkk := k_take (c := c) hC hk24
  refine Ev_c0 (Ev_f (by decide) (Ev_t rfl (Ev_c1 ?_)))
  refine Ev_jn1 (fun z => z = if 0 < k then (1 : Int32) else 0) (fun z hz => ?_) (fun k127 h127 => ?_)
  · subst hz
    refine Ev_c1 (Ev_jn1 (fun z => z = if 0 < k then (1 : Int32) else 0) (fun z hz => ?_) (fun k144 h144 => ?_))
    · subst hz
      by_cases h : 0 < k
      · rw [if_pos h, n1, nsub (show 1 ≤ k from h)]
        refine Ev_ck (j := 1) rfl (by omega) (by omega) (Ev_nm (Ev_jn1 (fun s2 => RwN 6 s2 (fun _ => 0)) (fun s2 p2 => ?_) (fun k156 h156 => Ev_f (by decide) (Ev_bd _ r_forgets (fun r75 h75 => h156 _ h75)))))
        refine Ev_bd _ hkk (fun y ⟨y1, _⟩ => ?_)
        obtain ⟨e1, e2, e3, e4⟩ := y1 h
        refine Ev_jn1 (fun z => z = nI (k - 1)) (fun z hz => Ev_t (e1.trans hz.symm) (Ev_1 ⟨n, k - 1, f, o, ?_⟩)) (fun k179 h179 => Ev_f (by decide) (Ev_ck (j := 1) rfl (by omega) (by omega) (h179 _ (upd_s _ _ _))))
        refine hL0.chg (hG.less (by omega)) e2 e3 (by decide) e4 (hc.less (by omega)) ⟨?_, upd_s _ _ _⟩ ((hTp.sm e3 (by decide) (by decide)).q (upd_n _ _ (by omega))) p2
        rw [upd_n _ _ (by omega)]; exact hq.1
      · rw [if_neg h]
        refine Ev_c1 (Ev_nm (Ev_jn1 (fun s2 => s2 = r2) (fun s2 p2 => ?_) (fun k156 h156 => Ev_t rfl (h156 _ rfl))))
        subst p2
        refine Ev_bd _ hkk (fun y ⟨_, y2⟩ => ?_)
        obtain ⟨e1, e2⟩ := y2 h
        refine Ev_jn1 (fun z => z = (-1003 : Int32)) (fun z hz => Ev_t (e1.trans hz.symm) (Ev_1 ⟨n, k, f, o, ?_⟩)) (fun k179 h179 => Ev_t rfl (h179 _ rfl))
        have e : upd r4 1 (nI k - 0) = r4 := by
          funext x
          by_cases q : x = 1
          · rw [q, upd_s, Int32.sub_zero]; exact hq.2.symm
          · rw [upd_n _ _ q]
        rw [e2, e]; exact hL0
    · by_cases h : 0 < k
      · rw [if_pos h] at h144 ⊢
        exact Ev_f (by decide) (h144 _ rfl)
      · rw [if_neg h] at h144 ⊢
        exact Ev_t rfl (h144 _ rfl)
  · refine Ev_i (fun e => h127 _ ?_) (fun e => h127 _ ?_)
    · rw [show (0 : Int32) = nI 0 from rfl, nI_leI (by omega) (by omega)] at e
      rw [if_neg (by omega)]
    · rw [show (0 : Int32) = nI 0 from rfl, nI_leI (by omega) (by omega)] at e
      rw [if_pos (by omega)]
set_option maxHeartbeats 2000000 in
theorem b_make {T n k : Nat} {f o : Nat → Nat} {c : Hp} {x2 : Int32} {r0 r1 r2 r3 r4 : Row} (hL : LawS T n k f o c r0 r1 r2 r3 r4) : Ev (f_L_builds (2 : Int32) x2 c r0 r1 r2 r3 r4) (BdP T r1 r3) := by
  have hL0 := hL
  obtain ⟨hG, h5, hC, hc, hq, hTp, hB, hS, hSt, hA⟩ := hL
  have hn2 := hG.1
  have hk24 := hG.2.2.1
  unfold f_L_builds
  rw [cl0, hq.1, cl1, hq.2]
  refine Ev_c0 (Ev_f (by decide) (Ev_f (by decide) (Ev_t rfl ?_)))
  refine Ev_bd _ (r_low (n := 3) (by omega) (by omega)) (fun r53 ⟨w, hw, e⟩ => ?_)
  subst e
  refine Ev_bde (made_ok w hw n (by omega) hn2) (Ev_c1 ?_)
  have hkk := k_make (c := c) hG hC hw
  have hml := mkL_len (n := n) (w := w) (by omega)
  have hPt := r_makes (rc := r0) (rq := r4) hG h5 hw hc hq
  have hgd : k + (mkL n w).length ≤ 24 → Good n (k + (mkL n w).length) (extN f k ((mkL n w).map Prod.fst)) (extN o k ((mkL n w).map Prod.snd)) := fun h => ext_good hG h (mkL_good n (by omega) w hw)
  refine Ev_jn1 (fun z => z = if k + (mkL n w).length ≤ 24 then (1 : Int32) else 0) (fun z hz => ?_) (fun k226 h226 => ?_)
  · by_cases h : k + (mkL n w).length ≤ 24
    · rw [if_pos h] at hz
      subst hz
      refine Ev_jn3 (fun s0 s2 s4 => PtN k f o (mkL n w) r4 s0 s4 ∧ RwN 6 s2 (fun _ => 0)) (fun s0 s2 s4 ⟨p1, p2⟩ => ?_) (fun k74 h74 => ?_)
      · refine Ev_bd _ hkk (fun y ⟨y1, _⟩ => ?_)
        obtain ⟨e1, e2, e3, e4⟩ := y1 h
        obtain ⟨p3, p4, p5⟩ := p1
        have hN := hL0.chg (hgd h) e2 e3 (by decide) e4 p3 ⟨(p5 0 (by omega)).trans hq.1, p4⟩ ((hTp.sm e3 (by decide) (by decide)).q (p5 2 (by omega))) p2
        exact Ev_jn1 (fun z => z = nI (mkL n w).length) (fun z hz => Ev_t (e1.trans hz.symm) (Ev_1 ⟨n, _, _, _, hN⟩)) (fun k101 h101 => Ev_f (by decide) (h101 _ rfl))
      · exact Ev_f (by decide) (Ev_bd _ (hPt h) (fun r89 h89 => Ev_bd _ r_forgets (fun r91 h91 => h74 _ _ _ ⟨h89, h91⟩)))
    · rw [if_neg h] at hz
      subst hz
      refine Ev_jn3 (fun s0 s2 s4 => s0 = r0 ∧ s2 = r2 ∧ s4 = r4) (fun s0 s2 s4 ⟨p1, p2, p3⟩ => ?_) (fun k74 h74 => Ev_t rfl (h74 _ _ _ ⟨rfl, rfl, rfl⟩))
      subst p1 p2 p3
      refine Ev_bd _ hkk (fun y ⟨_, y2⟩ => ?_)
      obtain ⟨e1, e2⟩ := y2 (by omega)
      exact Ev_jn1 (fun z => z = (-1003 : Int32)) (fun z hz => Ev_t (e1.trans hz.symm) (Ev_1 ⟨n, k, f, o, hL0.sm e2 (by decide)⟩)) (fun k101 h101 => Ev_t rfl (h101 _ rfl))
  · rw [show (25 : Int32) = nI 25 from rfl, nI_add]
    refine Ev_i (fun e => h226 _ ?_) (fun e => h226 _ ?_)
    · rw [nI_leI (by omega) (by omega)] at e
      rw [if_neg (by omega)]
    · rw [nI_leI (by omega) (by omega)] at e
      rw [if_pos (by omega)]
