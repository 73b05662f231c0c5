/-! P43: the state that the law keeps beside the class; calls that change networks -/
def LawS (T n k : Nat) (f o : Nat → Nat) (c : Hp) (r0 r1 r2 r3 r5 : Row) : Prop := Good n k f o ∧ n ≤ 5 ∧ NetC n k f o c ∧ RcN k f o r0 ∧ QrN n k r5 ∧ TapL c r1 r5 ∧ BalL T n k f o c r2 ∧ SwR n k f o c ∧ StR c ∧ AdvL n c r3
def LawI (T : Nat) (c : Hp) (r0 r1 r2 r3 r5 : Row) : Prop := ∃ (n k : Nat) (f o : Nat → Nat), LawS T n k f o c r0 r1 r2 r3 r5
theorem TapL.sm {c c1 : Hp} {r1 r5 : Row} {l : List Nat} (h : TapL c r1 r5) (hS : Sm l c c1) (h1 : 11 ∉ l) (h2 : 12 ∉ l) : TapL c1 r1 r5 := by
  obtain ⟨t, ch, a, b, d, e⟩ := h
  exact ⟨t, ch, a, by rw [(hS 11 h1).1]; exact b, d, fun i hi => by rw [(hS 12 h2).1]; exact e i hi⟩
theorem AdvL.sm {n : Nat} {c c1 : Hp} {r3 : Row} {l : List Nat} (h : AdvL n c r3) (hS : Sm l c c1) (h1 : 32 ∉ l) : AdvL n c1 r3 := by
  unfold AdvL at *
  rw [(hS 32 h1).2]
  exact h
theorem BalL.sm {T n k : Nat} {f o : Nat → Nat} {c c1 : Hp} {r2 : Row} {l : List Nat} (h : BalL T n k f o c r2) (hS : Sm l c c1) (h1 : 23 ∉ l) (h2 : 24 ∉ l) (h3 : 25 ∉ l) (h4 : 27 ∉ l) : BalL T n k f o c1 r2 := by
  obtain ⟨t, v, a1, a2, a3, a4, a5, a6⟩ := h
  exact ⟨t, v, a1, a2, a3, by rw [(hS 23 h1).1]; exact a4, fun x hx => by rw [(hS 24 h2).1, (hS 25 h3).1]; exact a5 x hx, fun i hi => by rw [(hS 27 h4).1]; exact a6 i hi⟩
theorem BalL.new {T n k : Nat} {f o : Nat → Nat} {c : Hp} {r2 : Row} (hk : k ≤ 24) (h : FgC c) (h2 : RwN 6 r2 (fun _ => 0)) : BalL T n k f o c r2 := by
  obtain ⟨a, b, d, _⟩ := h
  refine ⟨0, fun _ => 0, by omega, fun _ => Nat.le_refl _, fun _ _ => rfl, a, fun x hx => ⟨(b x hx).1, ?_, h2 x hx⟩, fun i hi => ?_⟩
  · rw [balN_0]; exact (b x hx).2
  · rw [d i (by omega)]
    unfold togN
    rw [balN_0, balN_0]
    rfl
theorem BalL.up {T T2 n k : Nat} {f o : Nat → Nat} {c : Hp} {r2 : Row} (h : BalL T n k f o c r2) (hT : T ≤ T2) : BalL T2 n k f o c r2 := by
  obtain ⟨t, v, a1, a2⟩ := h
  exact ⟨t, v, by omega, a2⟩
theorem LawS.sm {T n k : Nat} {f o : Nat → Nat} {c c1 : Hp} {r0 r1 r2 r3 r5 : Row} {l : List Nat} (h : LawS T n k f o c r0 r1 r2 r3 r5) (hS : Sm l c c1) (hl : ∀ q, q ∈ [1, 2, 3, 11, 12, 20, 22, 23, 24, 25, 27, 29, 32] → q ∉ l) : LawS T n k f o c1 r0 r1 r2 r3 r5 := by
  obtain ⟨a1, a2, a3, a4, a5, a6, a7, a8, a9, a10⟩ := h
  exact ⟨a1, a2, hS.nC a3 (hl 1 (by decide)) (hl 2 (by decide)) (hl 3 (by decide)), a4, a5, a6.sm hS (hl 11 (by decide)) (hl 12 (by decide)), a7.sm hS (hl 23 (by decide)) (hl 24 (by decide)) (hl 25 (by decide)) (hl 27 (by decide)), a8.keep (hS 20 (hl 20 (by decide))).1 (hS 22 (hl 22 (by decide))).1, a9.keep (by rw [(hS 29 (hl 29 (by decide))).1]), a10.sm hS (hl 32 (by decide))⟩
theorem LawS.kept {T n k : Nat} {f o : Nat → Nat} {c c1 : Hp} {r0 r1 r2 r3 r5 s0 : Row} (h : LawS T n k f o c r0 r1 r2 r3 r5) (hK : Keep n k f o c c1) (h0 : RcN k f o s0) : LawS T n k f o c1 s0 r1 r2 r3 r5 := by
  obtain ⟨a1, a2, a3, a4, a5, a6, a7, a8, a9, a10⟩ := h
  exact ⟨a1, a2, hK.nC a3, h0, a5, a6.sm hK.1 (by decide) (by decide), a7.sm hK.1 (by decide) (by decide) (by decide) (by decide), hK.2.1, hK.2.2, a10.sm hK.1 (by decide)⟩
def chgC : List Nat := [1, 2, 3, 6, 7, 8, 11, 14, 20, 23, 24, 25, 27]
theorem LawS.chg {T n k k1 : Nat} {f o f1 o1 : Nat → Nat} {c c1 : Hp} {r0 r1 r2 r3 r5 s0 s2 s5 : Row} {l : List Nat} (h : LawS T n k f o c r0 r1 r2 r3 r5) (hG : Good n k1 f1 o1) (hC : NetC n k1 f1 o1 c1) (hS : Sm l c c1) (hl : ∀ q, q ∈ l → q ∈ chgC) (hF : FgC c1) (h0 : RcN k1 f1 o1 s0) (h5 : QrN n k1 s5) (hT : TapL c1 r1 s5) (h2 : RwN 6 s2 (fun _ => 0)) : LawS T n k1 f1 o1 c1 s0 r1 s2 r3 s5 := by
  obtain ⟨a1, a2, a3, a4, a5, a6, a7, a8, a9, a10⟩ := h
  have hS2 := hS.mono hl
  exact ⟨hG, a2, hC, h0, h5, hT, BalL.new hG.2.2.1 hF h2, Or.inl hF.2.2.2, a9.keep (by rw [(hS2 29 (by decide)).1]), a10.sm hS2 (by decide)⟩
theorem TapL.q {c : Hp} {r1 r5 s5 : Row} (h : TapL c r1 r5) (e : s5 2 = r5 2) : TapL c r1 s5 := by
  obtain ⟨t, ch, a, b, d, g⟩ := h
  exact ⟨t, ch, a, b, by rw [e]; exact d, g⟩
theorem TapL.z {c : Hp} {r1 s5 : Row} (h : c.1 11 1 = 0) (e : s5 2 = 0) : TapL c r1 s5 := ⟨0, fun _ => 0, by omega, h, e, fun i hi => absurd hi (by omega)⟩
theorem Ev_hx {α β : Type} {x : Option ((String × Hp) ⊕ α)} {j : String → Hp → Option β} {k : α → Option β} {P : β → Prop} {E : String} {c : Hp} (h : x = some (.inl (E, c))) (hj : Ev (j E c) P) : Ev (hcatch x j k) P := by
  rw [h]
  exact hj
theorem Ev_IS {c : Hp} {P : Int32 × Hp → Prop} (h : P (-1003, c)) : Ev (if ("java/lang/IllegalStateException" : String) = "java/lang/IllegalArgumentException" then some ((-1002 : Int32), c) else (if ("java/lang/IllegalStateException" : String) = "java/lang/IllegalStateException" then some ((-1003 : Int32), c) else none)) P :=
  Ev_f (by decide) (Ev_t rfl (Ev_so h))
theorem k_add {n k a b : Nat} {f o : Nat → Nat} {c : Hp} (hC : NetC n k f o c) (hn : n ≤ 6) (hk : k ≤ 24) (ha : a < n) (hb : b < n) (hab : a ≠ b) : Ev (f_L_calls (0 : Int32) (nI a) (nI b) (0 : Int64) c) (fun y => (k < 24 → y.1 = nI k ∧ NetC n (k + 1) (updN f k a) (updN o k b) y.2 ∧ Sm [1, 2, 3, 20, 23, 24, 25, 27] c y.2 ∧ FgC y.2) ∧ (¬ k < 24 → y.1 = -1003 ∧ y.2 = c)) := by
  unfold f_L_calls
  refine Ev_t rfl ?_
  by_cases h : k < 24
  · obtain ⟨r, e, c1, rfl, h2⟩ := C_add hC hn h ha hb hab
    refine Ev_hc (fun y => y = (nI k, c1)) ⟨_, e, _, rfl, rfl⟩ (fun y hy => ?_)
    subst hy
    exact Ev_so ⟨fun _ => ⟨rfl, h2⟩, fun z => absurd h z⟩
  · refine Ev_hx (E := "java/lang/IllegalStateException") (c := c) ?_ (Ev_IS ⟨fun z => absurd z h, fun _ => ⟨rfl, rfl⟩⟩)
    have hw := C_two (c := c) (x := nI a) (y := nI b) hC.1 hn
    rw [if_neg (by rintro (h | h); exact not_bad (by omega) ha h; exact not_bad (by omega) hb h), if_neg (by rw [neqI (by omega) (by omega)]; exact hab)] at hw
    unfold f_X10_add
    rw [bdx_r hw]
    exact bdx_l ((C_room (r := 1) hC.2.1 hk (by omega)).trans (by rw [if_neg (by omega)]))
theorem k_take {n k : Nat} {f o : Nat → Nat} {c : Hp} (hC : NetC n k f o c) (hk : k ≤ 24) : Ev (f_L_calls (1 : Int32) (0 : Int32) (0 : Int32) (0 : Int64) c) (fun y => (0 < k → y.1 = nI (k - 1) ∧ NetC n (k - 1) f o y.2 ∧ Sm [1, 20, 23, 24, 25, 27] c y.2 ∧ FgC y.2) ∧ (¬ 0 < k → y.1 = -1003 ∧ y.2 = c)) := by
  unfold f_L_calls
  refine Ev_f (by decide) (Ev_t rfl ?_)
  cases k with
  | zero =>
    refine Ev_hx (E := "java/lang/IllegalStateException") (c := c) ?_ (Ev_IS ⟨fun z => absurd z (by omega), fun _ => ⟨rfl, rfl⟩⟩)
    unfold f_X10_take
    exact if_pos hC.2.1
  | succ k =>
    obtain ⟨r, e, c1, rfl, h2⟩ := C_take hC hk
    refine Ev_hc (fun y => y = (nI k, c1)) ⟨_, e, _, rfl, rfl⟩ (fun y hy => ?_)
    subst hy
    exact Ev_so ⟨fun _ => ⟨rfl, h2⟩, fun z => absurd (Nat.succ_pos k) z⟩
theorem k_make {n k w : Nat} {f o : Nat → Nat} {c : Hp} (hG : Good n k f o) (hC : NetC n k f o c) (hw : w < 3) : Ev (f_L_calls (2 : Int32) (nI w) (0 : Int32) (0 : Int64) c) (fun y => (k + (mkL n w).length ≤ 24 → y.1 = nI (mkL n w).length ∧ NetC n (k + (mkL n w).length) (extN f k ((mkL n w).map Prod.fst)) (extN o k ((mkL n w).map Prod.snd)) y.2 ∧ Sm [1, 2, 3, 6, 7, 8, 20, 23, 24, 25, 27] c y.2 ∧ FgC y.2) ∧ (24 < k + (mkL n w).length → y.1 = -1003 ∧ Sm [6, 7, 8] c y.2)) := by
  obtain ⟨r, e, m1, m2⟩ := C_make hG hC hw
  unfold f_L_calls
  refine Ev_f (by decide) (Ev_f (by decide) (Ev_t rfl ?_))
  by_cases h : k + (mkL n w).length ≤ 24
  · obtain ⟨c1, rfl, h2⟩ := m2 h
    refine Ev_hc (fun y => y = (nI (mkL n w).length, c1)) ⟨_, e, _, rfl, rfl⟩ (fun y hy => ?_)
    subst hy
    exact Ev_so ⟨fun _ => ⟨rfl, h2⟩, fun z => absurd z (by omega)⟩
  · obtain ⟨c1, rfl, h2⟩ := m1 (by omega)
    exact Ev_hx e (Ev_IS ⟨fun z => absurd z h, fun _ => ⟨rfl, h2⟩⟩)
theorem k_type {t n : Nat} {ch : Nat → Nat} {z : Int64} {c : Hp} (ht : t ≤ 40) (h1 : 1 ≤ n) (h8 : n ≤ 8) (hT : TapC t ch z 0 c) (hz : ∀ i, i < n → chB (chN z i) = true) : Ev (f_L_calls (3 : Int32) (nI n) (0 : Int32) z c) (fun y => (t + n ≤ 40 → y.1 = nI (t + n) ∧ Sm [11, 12] c y.2 ∧ TapC t ch z n y.2) ∧ (40 < t + n → y.1 = -1003 ∧ y.2 = c)) := by
  obtain ⟨r, e, m1, m2⟩ := C_type ht h1 h8 hT
  obtain ⟨m2, m3⟩ := m2 hz
  unfold f_L_calls
  refine Ev_f (by decide) (Ev_f (by decide) (Ev_f (by decide) (Ev_t rfl ?_)))
  by_cases h : t + n ≤ 40
  · obtain ⟨c1, rfl, h2⟩ := m3 h
    refine Ev_hc (fun y => y = (nI (t + n), c1)) ⟨_, e, _, rfl, rfl⟩ (fun y hy => ?_)
    subst hy
    exact Ev_so ⟨fun _ => ⟨rfl, h2⟩, fun z => absurd z (by omega)⟩
  · rw [m2 (by omega)] at e
    exact Ev_hx e (Ev_IS ⟨fun z => absurd z h, fun _ => ⟨rfl, rfl⟩⟩)
theorem k_buildX {p : Int32} {n k : Nat} {f o : Nat → Nat} {c : Hp} (hC : NetC n k f o c) (hF : f_X8_faultFor_11 c (nI n) = some p) (hp : ¬ p = -1) : f_L_calls (4 : Int32) (0 : Int32) (0 : Int32) (0 : Int64) c = some (-1002, c) := by
  refine Ev_eq ?_
  unfold f_L_calls
  refine Ev_f (by decide) (Ev_f (by decide) (Ev_f (by decide) (Ev_f (by decide) (Ev_t rfl ?_))))
  refine Ev_hx (E := "java/lang/IllegalArgumentException") (c := c) ?_ (Ev_t rfl (Ev_so rfl))
  unfold f_X10_build
  rw [hC.1, hF]
  exact if_neg hp
theorem k_build {n k t : Nat} {f o ch : Nat → Nat} {c : Hp} (hG : Good n k f o) (hC : NetC n k f o c) (ht : t ≤ 40) (ht4 : t % 4 = 3) (hc : c.1 11 1 = nI t) (hch : ∀ i, i < t → c.1 12 i = nI (ch i)) (hd : ∀ j, j < t → j % 2 = 0 → 48 ≤ ch j ∧ ch j - 48 < n) (hF : f_X8_faultFor_11 c (nI n) = some (-1)) : Ev (f_L_calls (4 : Int32) (0 : Int32) (0 : Int32) (0 : Int64) c) (fun y => (k + (t + 1) / 4 ≤ 24 → y.1 = nI ((t + 1) / 4) ∧ NetC n (k + (pairs ch ((t + 1) / 4)).length) (extN f k ((pairs ch ((t + 1) / 4)).map Prod.fst)) (extN o k ((pairs ch ((t + 1) / 4)).map Prod.snd)) y.2 ∧ Sm [1, 2, 3, 6, 7, 8, 11, 20, 23, 24, 25, 27] c y.2 ∧ FgC y.2 ∧ y.2.1 11 1 = 0) ∧ (24 < k + (t + 1) / 4 → y.1 = -1003 ∧ Sm [6, 7, 8] c y.2)) := by
  obtain ⟨r, e, m1, m2⟩ := C_build hG hC ht ht4 hc hch hd hF
  unfold f_L_calls
  refine Ev_f (by decide) (Ev_f (by decide) (Ev_f (by decide) (Ev_f (by decide) (Ev_t rfl ?_))))
  by_cases h : k + (t + 1) / 4 ≤ 24
  · obtain ⟨c1, rfl, h2⟩ := m2 h
    refine Ev_hc (fun y => y = (nI ((t + 1) / 4), c1)) ⟨_, e, _, rfl, rfl⟩ (fun y hy => ?_)
    subst hy
    exact Ev_so ⟨fun _ => ⟨rfl, h2⟩, fun z => absurd z (by omega)⟩
  · obtain ⟨c1, rfl, h2⟩ := m1 (by omega)
    exact Ev_hx e (Ev_IS ⟨fun z => absurd z h, fun _ => ⟨rfl, h2⟩⟩)
theorem k_token {n k t x : Nat} {f o v : Nat → Nat} {c : Hp} (hG : Good n k f o) (hC : NetC n k f o c) (hx : x < n) (ht : t < 1000) (hv : ∀ y, v y ≤ t) (h4 : c.1 23 4 = nI t) (h5 : ∀ y, y < 6 → c.1 24 y = nI (v y) ∧ c.1 25 y = nI (balN f o k v y)) (h6 : ∀ i, i < k → c.1 27 i = togN f o v i) : Ev (f_L_calls (5 : Int32) (nI x) (0 : Int32) (0 : Int64) c) (fun r => r.1 = nI (posN f o v x k) ∧ Sm [23, 24, 25, 27] c r.2 ∧ (∀ y, y < 6 → r.2.1 24 y = nI (addN v x y) ∧ r.2.1 25 y = nI (balN f o k (addN v x) y)) ∧ r.2.1 23 4 = nI (t + 1) ∧ ∀ i, i < k → r.2.1 27 i = togN f o (addN v x) i) := by
  obtain ⟨r1, h1, a1, a2, a3, a4, a5⟩ := C_letIn hG hC hx (by omega) hv h4 h5 h6
  unfold f_L_calls
  refine Ev_f (by decide) (Ev_f (by decide) (Ev_f (by decide) (Ev_f (by decide) (Ev_f (by decide) (Ev_t rfl ?_)))))
  refine Ev_hc (fun y => y = r1) ⟨.inr (r1.1, r1.2), ?_, r1, rfl, rfl⟩ (fun y hy => ?_)
  · unfold f_X10_token
    rw [bdx_r (C_wire_t hC.1 hG.2.1 hx), if_pos (by rw [h4]; exact nI_lt (b := 1000) (by omega) (by omega)), h1]
    rfl
  · subst hy
    exact Ev_so ⟨a1, a2, a3, a4, fun i hi => by
      have hk24 := hG.2.2.1
      rw [a5 i (by omega), if_pos hi]⟩
