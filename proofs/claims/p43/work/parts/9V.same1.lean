/-! P43: what one turn of the law asks at its end, for all that the turn chooses -/
theorem nxt_dsc : ∀ n, n < 6 → ∀ r, r < facN n → r + 1 = facN n → ∀ x, x < n → x + 1 < n → rowT n r (x + 1) < rowT n r x := by decide +kernel
theorem r_nextL {n r : Nat} {p : Row} (hn : n ≤ 5) (hn2 : 2 ≤ n) (hr : r < facN n) (he : r + 1 = facN n) (hp : RwN n p (rowT n r)) : Ev (f_L_next (nI n) p) (fun y => y.2 = p) := by
  have hpm := row_perm (show n ≤ 6 by omega) hr
  have hds := nxt_dsc n (by omega) r hr he
  generalize hv : rowT n r = v at hp hpm hds
  have hb : ∀ x, x < n → v x < 2 ^ 31 := fun x hx => by have := hpm.1 x hx; omega
  unfold f_L_next
  refine Ev_nm (Ev_jn1 (fun a2 => a2 = nI 0 + (-1 : Int32)) (fun a2 ha => ?_) (fun k25 h25 => ?_))
  · subst ha
    refine Ev_f nI_negq.1 ?_
    unfold ckz
    rw [if_pos (Or.inl rfl)]
    exact Ev_so rfl
  · refine Ev_fx1 (fun j a2 => a2 = nI (n - 1 - j) + (-1 : Int32)) (n - 1) ?_ ?_ (FU_lt (by omega)) ?_
    · rintro self j a2 hj rfl hself
      unfold L_L_next_4
      obtain ⟨m, hm⟩ : ∃ m, n - 1 - j = m + 1 := ⟨n - 2 - j, by omega⟩
      rw [hm, nI_mq]
      refine Ev_f (nI_pos (by omega)) (Ev_ck rfl (by omega) (by omega) (Ev_ck (nI_add m 1) (by omega) (by omega) ?_))
      rw [n1, nI_add, clN (by omega), clN (by omega), hp m (by omega), hp (m + 1) (by omega)]
      have hle := nI_leI (hb m (by omega)) (hb (m + 1) (by omega))
      have hd := hds m (by omega) (by omega)
      refine Ev_f (fun z => ?_) (hself _ ?_)
      · have := hle.mp z
        omega
      · rw [show n - 1 - (j + 1) = m by omega]; rfl
    · rintro self a2 rfl
      unfold L_L_next_4
      rw [show n - 1 - (n - 1) = 0 by omega]
      exact Ev_t nI_negq.2 (h25 _ rfl)
    · rw [n2, nsub (by omega), show n - 1 - 0 = (n - 2) + 1 by omega, nI_mq]
theorem r_walk {n m : Nat} {x1 x15 : Int32} {p : Row} {k624 : Row → Option (Int32 × Hp × Row)} {P : Int32 × Hp × Row → Prop} (hn : n ≤ 5) (hn2 : 2 ≤ n) (hm : m < 1000) (hp : RwN n p (rowT n 0)) (hk : ∀ q p, q < facN n → RwN n p (rowT n q) → Ev (k624 p) P) : Ev (fx2 (L_L_same_605 x1 (nI n) x15 k624) FU (nI m) p) P := by
  refine Ev_fx2 (fun j a p => a = nI (m - j) ∧ ∃ q, q < facN n ∧ RwN n p (rowT n q)) m ?_ ?_ (FU_lt (by omega)) ⟨rfl, 0, fac_pos n, hp⟩
  · rintro self j a p hj ⟨rfl, q, hq, hr⟩ hself
    unfold L_L_same_605
    have e : nI (m - j) + (-1 : Int32) = nI (m - (j + 1)) := by
      rw [show m - j = m - (j + 1) + 1 by omega]; exact nI_mq
    rw [e]
    refine Ev_f (nI_nle (by omega) (by omega)) ?_
    by_cases h : q + 1 < facN n
    · exact Ev_bd _ (r_next hn hn2 hq hr) (fun y hy => hself _ _ ⟨rfl, q + 1, h, (hy.1 h).2⟩)
    · exact Ev_bd _ (r_nextL hn hn2 hq (by omega) hr) (fun y hy => hself _ _ ⟨rfl, q, hq, by rw [hy]; exact hr⟩)
  · rintro self a p ⟨rfl, q, hq, hr⟩
    unfold L_L_same_605
    rw [Nat.sub_self]
    exact Ev_t (Int32.le_refl _) (hk q _ hq hr)
def scrL : List Nat := [4, 5, 14, 15, 17, 18, 19, 20, 21, 22, 26, 28, 29, 30, 31, 34]
def Keep (n k : Nat) (f o : Nat → Nat) (c c1 : Hp) : Prop := Sm scrL c c1 ∧ SwR n k f o c1 ∧ StR c1
theorem SwR.keep {n k : Nat} {f o : Nat → Nat} {c c1 : Hp} (h : SwR n k f o c) (e0 : c1.1 20 = c.1 20) (e2 : c1.1 22 = c.1 22) : SwR n k f o c1 := by
  unfold SwR at *
  rw [e0, e2]
  exact h
theorem Keep.rf {n k : Nat} {f o : Nat → Nat} {c : Hp} (hS : SwR n k f o c) (hT : StR c) : Keep n k f o c c := ⟨Sm.rf, hS, hT⟩
theorem Keep.scr {n k : Nat} {f o : Nat → Nat} {c c1 c2 : Hp} {l : List Nat} (h : Keep n k f o c c1) (hS : Sm l c1 c2) (hl : ∀ q, q ∈ l → q ∈ scrL) (h0 : 20 ∉ l) (h2 : 22 ∉ l) (h9 : 29 ∉ l) : Keep n k f o c c2 :=
  ⟨h.1.tr (hS.mono hl), h.2.1.keep (hS 20 h0).1 (hS 22 h2).1, h.2.2.keep (by rw [(hS 29 h9).1])⟩
theorem Keep.sw {n k : Nat} {f o : Nat → Nat} {c c1 c2 : Hp} (h : Keep n k f o c c1) (hS : Sm [20, 21, 22] c1 c2) (hw : SwR n k f o c2) : Keep n k f o c c2 :=
  ⟨h.1.tr (hS.mono (by decide)), hw, h.2.2.keep (by rw [(hS 29 (by decide)).1])⟩
theorem Keep.st {n k : Nat} {f o : Nat → Nat} {c c1 c2 : Hp} (h : Keep n k f o c c1) (hS : Sm [28, 29, 30, 31] c1 c2) (hw : StR c2) : Keep n k f o c c2 :=
  ⟨h.1.tr (hS.mono (by decide)), h.2.1.keep (hS 20 (by decide)).1 (hS 22 (by decide)).1, hw⟩
theorem Keep.nC {n k : Nat} {f o : Nat → Nat} {c c1 : Hp} (h : Keep n k f o c c1) (hC : NetC n k f o c) : NetC n k f o c1 := h.1.nC hC (by decide) (by decide) (by decide)
theorem ckz_1 {P : Int32 × Hp × Row → Prop} {h : Hp} {r : Row} (hP : P (1, h, r)) : Ev (ckz (1 : Int32) (some ((1 : Int32), h, r))) P := Ev_ckz (Or.inr rfl) (Ev_so hP)
set_option maxRecDepth 20000 in
set_option maxHeartbeats 2000000 in
theorem r_sameT {n k : Nat} {f o : Nat → Nat} {c h : Hp} {x1 : Int32} {r0 r4 : Row} (hG : Good n k f o) (h5 : n ≤ 5) (hC : NetC n k f o c) (hK : Keep n k f o c h) (hc : RcN k f o r0) (hq : QrN n k r4) : Ev (jn1 (fun k595 => fx2 (L_L_same_575 x1 (nI n) (1 : Int32) k595) FU (0 : Int32) (fun _ => 0)) (fun (r6_101 : Row) => bd (f_L_low (ishr x1 (5 : Int32)) (120 : Int32)) (fun r_102 => jn1 (fun k624 => fx2 (L_L_same_605 x1 (nI n) (1 : Int32) k624) FU r_102 r6_101) (fun (r6_104 : Row) => bd (f_L_low (ishr x1 (3 : Int32)) (5 : Int32)) (fun r_105 => (if (1 : Int32) = 0 then ckz (0 : Int32) (some ((0 : Int32), h, r0)) else (if r_105 = 0 then bd (f_L_rows x1 h r6_104 r0 r4) (fun r_123 => (if r_123.1 = 0 then ckz (0 : Int32) (some ((0 : Int32), r_123.2, r0)) else ckz (1 : Int32) (some ((1 : Int32), r_123.2, r0)))) else (if r_105 = (1 : Int32) then bd (f_L_faults x1 h r0 r4) (fun r_121 => (if r_121.1 = 0 then ckz (0 : Int32) (some ((0 : Int32), r_121.2, r0)) else ckz (1 : Int32) (some ((1 : Int32), r_121.2, r0)))) else (if r_105 = (2 : Int32) then bd (f_L_low (ishr x1 (6 : Int32)) (4 : Int32)) (fun r_117 => bd (f_L_orders r_117 h r6_104 r4) (fun r_119 => (if r_119.1 = 0 then ckz (0 : Int32) (some ((0 : Int32), r_119.2, r0)) else ckz (1 : Int32) (some ((1 : Int32), r_119.2, r0))))) else (if r_105 = (3 : Int32) then bd (f_L_switches h r6_104 r0 r4) (fun r_115 => (if r_115.1 = 0 then ckz (0 : Int32) (some ((0 : Int32), r_115.2, r0)) else ckz (1 : Int32) (some ((1 : Int32), r_115.2, r0)))) else (if (4 : Int32) < (nI n) then ckz (1 : Int32) (some ((1 : Int32), h, r0)) else ck (1 : Int32) 4 ((if (22 : Int32) < (nI k) then ckz (1 : Int32) (some ((1 : Int32), h, r0)) else hcatch (f_X10_finishes h (2 : Int32)) (fun _ _ => none) (fun r_107 => bd (f_L_done (-1 : Int32) (-1 : Int32) r0 r4) (fun r_109 => jn2 (fun k769 => (if r_109.1 = 0 then bd (f_L_finishes r_109.2 r4) (fun r_113 => k769 r_113.1 r_113.2) else k769 (0 : Int32) r_109.2)) (fun (z_111 : Int32) (r0_112 : Row) => (if r_107.1 = z_111 then ckz (1 : Int32) (some ((1 : Int32), r_107.2, r0_112)) else ckz (0 : Int32) (some ((0 : Int32), r_107.2, r0_112))))))))))))))))))) (fun y => y.1 = 1 ∧ Keep n k f o c y.2.1 ∧ RcN k f o y.2.2) := by
  have hn2 := hG.1
  have hk24 := hG.2.2.1
  have hCh := hK.nC hC
  refine Ev_jn1 (fun p => RwN n p (rowT n 0)) (fun p hp => ?_) (fun kk hk => ?_)
  · refine Ev_bd _ (r_low (n := 120) (by omega) (by omega)) (fun r102 ⟨m, hm, e⟩ => ?_)
    subst e
    refine Ev_jn1 (fun p => ∃ q, q < facN n ∧ RwN n p (rowT n q)) (fun p ⟨q, hqn, hp⟩ => ?_) (fun k624 h624 => r_walk h5 hn2 (by omega) hp (fun q p hq hp => h624 p ⟨q, hq, hp⟩))
    refine Ev_bd _ (r_low (n := 5) (by omega) (by omega)) (fun r105 _ => Ev_f (by decide) ?_)
    refine Ev_i (fun _ => ?_) (fun _ => Ev_i (fun _ => ?_) (fun _ => Ev_i (fun _ => ?_) (fun _ => Ev_i (fun _ => ?_) (fun _ => ?_))))
    · exact Ev_bd _ (r_rows hG h5 hCh hc hq.1 hq.2 hqn hp) (fun y ⟨y1, y2⟩ => Ev_f (by rw [y1]; decide) (ckz_1 ⟨rfl, hK.scr y2 (by decide) (by decide) (by decide) (by decide), hc⟩))
    · exact Ev_bd _ (r_faults hG h5 hCh hc hq.1 hq.2) (fun y ⟨y1, y2⟩ => Ev_f (by rw [y1]; decide) (ckz_1 ⟨rfl, hK.scr y2 (by decide) (by decide) (by decide) (by decide), hc⟩))
    · refine Ev_bd _ (r_low (n := 4) (by omega) (by omega)) (fun r117 ⟨st, hst, e⟩ => ?_)
      subst e
      exact Ev_bd _ (r_orders hG h5 hCh hst hK.2.2 hqn hp hq.1) (fun y ⟨y1, y2, y3⟩ => Ev_f (by rw [y1]; decide) (ckz_1 ⟨rfl, hK.st y2 y3, hc⟩))
    · exact Ev_bd _ (r_switches hG h5 hCh hK.2.1 hc hq.1 hq.2 hqn hp) (fun y ⟨y1, y2, y3⟩ => Ev_f (by rw [y1]; decide) (ckz_1 ⟨rfl, hK.sw y2 y3, hc⟩))
    · refine Ev_i (fun _ => ckz_1 ⟨rfl, hK, hc⟩) (fun _ => Ev_c1 (Ev_i (fun _ => ckz_1 ⟨rfl, hK, hc⟩) (fun h22 => ?_)))
      rw [show (22 : Int32) = nI 22 from rfl, nI_ltI (by omega) (by omega)] at h22
      refine Ev_hc _ (X_finishes hG hCh) (fun a ⟨a1, a2⟩ => Ev_bd _ (r_done0 hG h5 hc hq.1 hq.2) (fun d ⟨d1, d2⟩ => ?_))
      have hK2 := hK.scr a2 (by decide) (by decide) (by decide) (by decide)
      refine Ev_jn2 (fun z r => RcN k f o r ∧ lstK (fun m => CFp n m (fun q => netB f o 99 0 k (bR q))) 2 z) (fun z r ⟨z1, z2⟩ => Ev_t (a1.uniq z2 (fun _ _ => Iff.rfl)) (ckz_1 ⟨rfl, hK2, z1⟩)) (fun k769 h769 => ?_)
      rcases d2 with ⟨d2, d3⟩ | ⟨d2, d3⟩
      · exact Ev_f (by rw [d2]; decide) (h769 _ _ ⟨d1, Or.inl ⟨0, by omega, rfl, d3, fun m hm => absurd hm (by omega)⟩⟩)
      · exact Ev_t d2 (Ev_bd _ (r_finishes hG h5 (by omega) d1 hq.1 hq.2 d3) (fun y ⟨y1, y2⟩ => h769 _ _ ⟨y1, y2⟩))
  · refine Ev_fx2 (fun j a r3 => a = nI j ∧ RwN j r3 (fun x => x)) n ?_ ?_ (FU_lt (by omega)) ⟨rfl, RwN.zero⟩
    · rintro self j a r3 hj ⟨rfl, h4⟩ hself
      unfold L_L_same_575
      refine Ev_f (nle_n hj (by omega)) (Ev_ck rfl (by omega) (by omega) (Ev_nm (hself _ _ ⟨nI_add j 1, ?_⟩)))
      rw [clN (by omega)]
      exact h4.put rfl
    · rintro self a r3 ⟨rfl, h4⟩
      unfold L_L_same_575
      exact Ev_t (Int32.le_refl _) (hk _ (RwN.row0 h5 h4))
