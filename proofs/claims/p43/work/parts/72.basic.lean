/-! PURE: what a program comes to (Ev), frames, parts of the state -/
def Ev {β : Type} (x : Option β) (P : β → Prop) : Prop := ∃ r, x = some r ∧ P r
theorem Ev_so {β : Type} {r : β} {P : β → Prop} (h : P r) : Ev (some r) P := ⟨r, rfl, h⟩
theorem Ev_mono {β : Type} {x : Option β} {P Q : β → Prop} (h : Ev x P) (hq : ∀ r, P r → Q r) : Ev x Q := by
  obtain ⟨r, e, hp⟩ := h
  exact ⟨r, e, hq r hp⟩
theorem Ev_bd {α β : Type} {x : Option α} {k : α → Option β} {P : β → Prop} (Q : α → Prop) (h : Ev x Q) (hk : ∀ a, Q a → Ev (k a) P) : Ev (bd x k) P := by
  obtain ⟨a, rfl, hp⟩ := h
  exact hk a hp
theorem Ev_bde {α β : Type} {x : Option α} {a : α} {k : α → Option β} {P : β → Prop} (e : x = some a) (hk : Ev (k a) P) : Ev (bd x k) P := by
  subst e
  exact hk
theorem Ev_nm {α β : Type} {x : α} {k : α → Option β} {P : β → Prop} (h : Ev (k x) P) : Ev (nm x k) P := h
theorem Ev_ck {β : Type} {j n : Nat} {x : Int32} {k : Option β} {P : β → Prop} (e : x = nI j) (hj : j < n) (hn : n < 2 ^ 31) (h : Ev k P) : Ev (ck x n k) P := by
  rw [e, ck_nI hj hn]
  exact h
theorem Ev_t {β : Type} {c : Prop} {dc : Decidable c} {a b : Option β} {P : β → Prop} (hc : c) (h : Ev a P) : Ev (@ite _ c dc a b) P := by rw [if_pos hc]; exact h
theorem Ev_f {β : Type} {c : Prop} {dc : Decidable c} {a b : Option β} {P : β → Prop} (hc : ¬ c) (h : Ev b P) : Ev (@ite _ c dc a b) P := by rw [if_neg hc]; exact h
theorem Ev_i {β : Type} {c : Prop} {dc : Decidable c} {a b : Option β} {P : β → Prop} (ht : c → Ev a P) (hf : ¬ c → Ev b P) : Ev (@ite _ c dc a b) P := by
  by_cases hc : c
  · exact Ev_t hc (ht hc)
  · exact Ev_f hc (hf hc)
theorem Ev_nz {β : Type} {y : Int32} {k : Option β} {P : β → Prop} (hy : ¬ y = 0) (h : Ev k P) : Ev (nz y k) P := by unfold nz; rw [if_neg hy]; exact h
theorem Ev_ckz {β : Type} {y : Int32} {k : Option β} {P : β → Prop} (hy : y = 0 ∨ y = 1) (h : Ev k P) : Ev (ckz y k) P := by unfold ckz; rw [if_pos hy]; exact h
theorem Ev_jn0 {β : Type} {b : Option β → Option β} {j : Option β} {P : β → Prop} (Q : Prop) (hj : Q → Ev j P) (hb : ∀ j : Option β, (Q → Ev j P) → Ev (b j) P) : Ev (jn0 b j) P := hb j hj
theorem Ev_jn1 {A1 β : Type} {b : (A1 → Option β) → Option β} {j : A1 → Option β} {P : β → Prop} (Q : A1 → Prop) (hj : ∀ (a1 : A1), Q a1 → Ev (j a1) P) (hb : ∀ j : A1 → Option β, (∀ (a1 : A1), Q a1 → Ev (j a1) P) → Ev (b j) P) : Ev (jn1 b j) P := hb j hj
theorem Ev_fx1 {A1 β : Type} {F : (A1 → Option β) → A1 → Option β} {P : β → Prop} (I : Nat → A1 → Prop) (n : Nat) (hs : ∀ (self : A1 → Option β) (j : Nat) (a1 : A1), j < n → I j a1 → (∀ b1, I (j + 1) b1 → Ev (self b1) P) → Ev (F self a1) P) (he : ∀ (self : A1 → Option β) (a1 : A1), I n a1 → Ev (F self a1) P) {N : Nat} (hN : n < N) {a1 : A1} (h0 : I 0 a1) : Ev (fx1 F N a1) P := by
  have key : ∀ (d j N : Nat) (a1 : A1), j + d = n → d < N → I j a1 → Ev (fx1 F N a1) P := by
    intro d
    induction d with
    | zero =>
      intro j N a1 hj hN hI
      obtain ⟨M, rfl⟩ : ∃ M, N = M + 1 := ⟨N - 1, by omega⟩
      have e : j = n := by omega
      subst e
      exact he _ a1 hI
    | succ d ih =>
      intro j N a1 hj hN hI
      obtain ⟨M, rfl⟩ : ∃ M, N = M + 1 := ⟨N - 1, by omega⟩
      exact hs (fx1 F M) j a1 (by omega) hI (fun b1 hI2 => ih (j + 1) M b1 (by omega) (by omega) hI2)
  exact key n 0 N a1 (by omega) (by omega) h0
theorem Ev_jn2 {A1 A2 β : Type} {b : (A1 → A2 → Option β) → Option β} {j : A1 → A2 → Option β} {P : β → Prop} (Q : A1 → A2 → Prop) (hj : ∀ (a1 : A1) (a2 : A2), Q a1 a2 → Ev (j a1 a2) P) (hb : ∀ j : A1 → A2 → Option β, (∀ (a1 : A1) (a2 : A2), Q a1 a2 → Ev (j a1 a2) P) → Ev (b j) P) : Ev (jn2 b j) P := hb j hj
theorem Ev_fx2 {A1 A2 β : Type} {F : (A1 → A2 → Option β) → A1 → A2 → Option β} {P : β → Prop} (I : Nat → A1 → A2 → Prop) (n : Nat) (hs : ∀ (self : A1 → A2 → Option β) (j : Nat) (a1 : A1) (a2 : A2), j < n → I j a1 a2 → (∀ b1 b2, I (j + 1) b1 b2 → Ev (self b1 b2) P) → Ev (F self a1 a2) P) (he : ∀ (self : A1 → A2 → Option β) (a1 : A1) (a2 : A2), I n a1 a2 → Ev (F self a1 a2) P) {N : Nat} (hN : n < N) {a1 : A1} {a2 : A2} (h0 : I 0 a1 a2) : Ev (fx2 F N a1 a2) P := by
  have key : ∀ (d j N : Nat) (a1 : A1) (a2 : A2), j + d = n → d < N → I j a1 a2 → Ev (fx2 F N a1 a2) P := by
    intro d
    induction d with
    | zero =>
      intro j N a1 a2 hj hN hI
      obtain ⟨M, rfl⟩ : ∃ M, N = M + 1 := ⟨N - 1, by omega⟩
      have e : j = n := by omega
      subst e
      exact he _ a1 a2 hI
    | succ d ih =>
      intro j N a1 a2 hj hN hI
      obtain ⟨M, rfl⟩ : ∃ M, N = M + 1 := ⟨N - 1, by omega⟩
      exact hs (fx2 F M) j a1 a2 (by omega) hI (fun b1 b2 hI2 => ih (j + 1) M b1 b2 (by omega) (by omega) hI2)
  exact key n 0 N a1 a2 (by omega) (by omega) h0
theorem Ev_jn3 {A1 A2 A3 β : Type} {b : (A1 → A2 → A3 → Option β) → Option β} {j : A1 → A2 → A3 → Option β} {P : β → Prop} (Q : A1 → A2 → A3 → Prop) (hj : ∀ (a1 : A1) (a2 : A2) (a3 : A3), Q a1 a2 a3 → Ev (j a1 a2 a3) P) (hb : ∀ j : A1 → A2 → A3 → Option β, (∀ (a1 : A1) (a2 : A2) (a3 : A3), Q a1 a2 a3 → Ev (j a1 a2 a3) P) → Ev (b j) P) : Ev (jn3 b j) P := hb j hj
theorem Ev_fx3 {A1 A2 A3 β : Type} {F : (A1 → A2 → A3 → Option β) → A1 → A2 → A3 → Option β} {P : β → Prop} (I : Nat → A1 → A2 → A3 → Prop) (n : Nat) (hs : ∀ (self : A1 → A2 → A3 → Option β) (j : Nat) (a1 : A1) (a2 : A2) (a3 : A3), j < n → I j a1 a2 a3 → (∀ b1 b2 b3, I (j + 1) b1 b2 b3 → Ev (self b1 b2 b3) P) → Ev (F self a1 a2 a3) P) (he : ∀ (self : A1 → A2 → A3 → Option β) (a1 : A1) (a2 : A2) (a3 : A3), I n a1 a2 a3 → Ev (F self a1 a2 a3) P) {N : Nat} (hN : n < N) {a1 : A1} {a2 : A2} {a3 : A3} (h0 : I 0 a1 a2 a3) : Ev (fx3 F N a1 a2 a3) P := by
  have key : ∀ (d j N : Nat) (a1 : A1) (a2 : A2) (a3 : A3), j + d = n → d < N → I j a1 a2 a3 → Ev (fx3 F N a1 a2 a3) P := by
    intro d
    induction d with
    | zero =>
      intro j N a1 a2 a3 hj hN hI
      obtain ⟨M, rfl⟩ : ∃ M, N = M + 1 := ⟨N - 1, by omega⟩
      have e : j = n := by omega
      subst e
      exact he _ a1 a2 a3 hI
    | succ d ih =>
      intro j N a1 a2 a3 hj hN hI
      obtain ⟨M, rfl⟩ : ∃ M, N = M + 1 := ⟨N - 1, by omega⟩
      exact hs (fx3 F M) j a1 a2 a3 (by omega) hI (fun b1 b2 b3 hI2 => ih (j + 1) M b1 b2 b3 (by omega) (by omega) hI2)
  exact key n 0 N a1 a2 a3 (by omega) (by omega) h0
theorem Ev_jn4 {A1 A2 A3 A4 β : Type} {b : (A1 → A2 → A3 → A4 → Option β) → Option β} {j : A1 → A2 → A3 → A4 → Option β} {P : β → Prop} (Q : A1 → A2 → A3 → A4 → Prop) (hj : ∀ (a1 : A1) (a2 : A2) (a3 : A3) (a4 : A4), Q a1 a2 a3 a4 → Ev (j a1 a2 a3 a4) P) (hb : ∀ j : A1 → A2 → A3 → A4 → Option β, (∀ (a1 : A1) (a2 : A2) (a3 : A3) (a4 : A4), Q a1 a2 a3 a4 → Ev (j a1 a2 a3 a4) P) → Ev (b j) P) : Ev (jn4 b j) P := hb j hj
theorem Ev_fx4 {A1 A2 A3 A4 β : Type} {F : (A1 → A2 → A3 → A4 → Option β) → A1 → A2 → A3 → A4 → Option β} {P : β → Prop} (I : Nat → A1 → A2 → A3 → A4 → Prop) (n : Nat) (hs : ∀ (self : A1 → A2 → A3 → A4 → Option β) (j : Nat) (a1 : A1) (a2 : A2) (a3 : A3) (a4 : A4), j < n → I j a1 a2 a3 a4 → (∀ b1 b2 b3 b4, I (j + 1) b1 b2 b3 b4 → Ev (self b1 b2 b3 b4) P) → Ev (F self a1 a2 a3 a4) P) (he : ∀ (self : A1 → A2 → A3 → A4 → Option β) (a1 : A1) (a2 : A2) (a3 : A3) (a4 : A4), I n a1 a2 a3 a4 → Ev (F self a1 a2 a3 a4) P) {N : Nat} (hN : n < N) {a1 : A1} {a2 : A2} {a3 : A3} {a4 : A4} (h0 : I 0 a1 a2 a3 a4) : Ev (fx4 F N a1 a2 a3 a4) P := by
  have key : ∀ (d j N : Nat) (a1 : A1) (a2 : A2) (a3 : A3) (a4 : A4), j + d = n → d < N → I j a1 a2 a3 a4 → Ev (fx4 F N a1 a2 a3 a4) P := by
    intro d
    induction d with
    | zero =>
      intro j N a1 a2 a3 a4 hj hN hI
      obtain ⟨M, rfl⟩ : ∃ M, N = M + 1 := ⟨N - 1, by omega⟩
      have e : j = n := by omega
      subst e
      exact he _ a1 a2 a3 a4 hI
    | succ d ih =>
      intro j N a1 a2 a3 a4 hj hN hI
      obtain ⟨M, rfl⟩ : ∃ M, N = M + 1 := ⟨N - 1, by omega⟩
      exact hs (fx4 F M) j a1 a2 a3 a4 (by omega) hI (fun b1 b2 b3 b4 hI2 => ih (j + 1) M b1 b2 b3 b4 (by omega) (by omega) hI2)
  exact key n 0 N a1 a2 a3 a4 (by omega) (by omega) h0
theorem Ev_jn5 {A1 A2 A3 A4 A5 β : Type} {b : (A1 → A2 → A3 → A4 → A5 → Option β) → Option β} {j : A1 → A2 → A3 → A4 → A5 → Option β} {P : β → Prop} (Q : A1 → A2 → A3 → A4 → A5 → Prop) (hj : ∀ (a1 : A1) (a2 : A2) (a3 : A3) (a4 : A4) (a5 : A5), Q a1 a2 a3 a4 a5 → Ev (j a1 a2 a3 a4 a5) P) (hb : ∀ j : A1 → A2 → A3 → A4 → A5 → Option β, (∀ (a1 : A1) (a2 : A2) (a3 : A3) (a4 : A4) (a5 : A5), Q a1 a2 a3 a4 a5 → Ev (j a1 a2 a3 a4 a5) P) → Ev (b j) P) : Ev (jn5 b j) P := hb j hj
theorem Ev_fx5 {A1 A2 A3 A4 A5 β : Type} {F : (A1 → A2 → A3 → A4 → A5 → Option β) → A1 → A2 → A3 → A4 → A5 → Option β} {P : β → Prop} (I : Nat → A1 → A2 → A3 → A4 → A5 → Prop) (n : Nat) (hs : ∀ (self : A1 → A2 → A3 → A4 → A5 → Option β) (j : Nat) (a1 : A1) (a2 : A2) (a3 : A3) (a4 : A4) (a5 : A5), j < n → I j a1 a2 a3 a4 a5 → (∀ b1 b2 b3 b4 b5, I (j + 1) b1 b2 b3 b4 b5 → Ev (self b1 b2 b3 b4 b5) P) → Ev (F self a1 a2 a3 a4 a5) P) (he : ∀ (self : A1 → A2 → A3 → A4 → A5 → Option β) (a1 : A1) (a2 : A2) (a3 : A3) (a4 : A4) (a5 : A5), I n a1 a2 a3 a4 a5 → Ev (F self a1 a2 a3 a4 a5) P) {N : Nat} (hN : n < N) {a1 : A1} {a2 : A2} {a3 : A3} {a4 : A4} {a5 : A5} (h0 : I 0 a1 a2 a3 a4 a5) : Ev (fx5 F N a1 a2 a3 a4 a5) P := by
  have key : ∀ (d j N : Nat) (a1 : A1) (a2 : A2) (a3 : A3) (a4 : A4) (a5 : A5), j + d = n → d < N → I j a1 a2 a3 a4 a5 → Ev (fx5 F N a1 a2 a3 a4 a5) P := by
    intro d
    induction d with
    | zero =>
      intro j N a1 a2 a3 a4 a5 hj hN hI
      obtain ⟨M, rfl⟩ : ∃ M, N = M + 1 := ⟨N - 1, by omega⟩
      have e : j = n := by omega
      subst e
      exact he _ a1 a2 a3 a4 a5 hI
    | succ d ih =>
      intro j N a1 a2 a3 a4 a5 hj hN hI
      obtain ⟨M, rfl⟩ : ∃ M, N = M + 1 := ⟨N - 1, by omega⟩
      exact hs (fx5 F M) j a1 a2 a3 a4 a5 (by omega) hI (fun b1 b2 b3 b4 b5 hI2 => ih (j + 1) M b1 b2 b3 b4 b5 (by omega) (by omega) hI2)
  exact key n 0 N a1 a2 a3 a4 a5 (by omega) (by omega) h0
def Sm (l : List Nat) (h h1 : Hp) : Prop := ∀ q, q ∉ l → h1.1 q = h.1 q ∧ h1.2 q = h.2 q
theorem Sm.rf {l : List Nat} {h : Hp} : Sm l h h := fun _ _ => ⟨rfl, rfl⟩
theorem Sm.mono {l l1 : List Nat} {h h1 : Hp} (hs : Sm l h h1) (hl : ∀ q, q ∈ l → q ∈ l1) : Sm l1 h h1 := fun q hq => hs q (fun z => hq (hl q z))
theorem Sm.tr {l : List Nat} {h h1 h2 : Hp} (a : Sm l h h1) (b : Sm l h1 h2) : Sm l h h2 := fun q hq => ⟨(b q hq).1.trans (a q hq).1, (b q hq).2.trans (a q hq).2⟩
theorem Sm.sI {l : List Nat} {h h1 : Hp} {q : Nat} {i x : Int32} (a : Sm l h h1) (hq : q ∈ l) : Sm l h (wI h1 q i x) := a.tr (fun k hk => ⟨wI_n h1 q k i x (fun e => hk (e ▸ hq)), rfl⟩)
theorem Sm.sF {l : List Nat} {h h1 : Hp} {q j : Nat} {x : Int32} (a : Sm l h h1) (hq : q ∈ l) : Sm l h (wF h1 q j x) := a.tr (fun k hk => ⟨wF_n h1 q j k x (fun e => hk (e ▸ hq)), rfl⟩)
theorem Sm.sZ {l : List Nat} {h h1 : Hp} {q : Nat} {i x : Int32} (a : Sm l h h1) (hq : q ∈ l) : Sm l h (wZ h1 q i x) := a.tr (fun k hk => ⟨wZ_n h1 q k i x (fun e => hk (e ▸ hq)), rfl⟩)
theorem Sm.sB {l : List Nat} {h h1 : Hp} {q : Nat} {i x : Int32} (a : Sm l h h1) (hq : q ∈ l) : Sm l h (wB h1 q i x) := a.tr (fun k hk => ⟨wB_n h1 q k i x (fun e => hk (e ▸ hq)), rfl⟩)
theorem Sm.sCh {l : List Nat} {h h1 : Hp} {q : Nat} {i x : Int32} (a : Sm l h h1) (hq : q ∈ l) : Sm l h (wCh h1 q i x) := a.tr (fun k hk => ⟨wCh_n h1 q k i x (fun e => hk (e ▸ hq)), rfl⟩)
theorem Sm.sL {l : List Nat} {h h1 : Hp} {q : Nat} {i : Int32} {x : Int64} (a : Sm l h h1) (hq : q ∈ l) : Sm l h (wL h1 q i x) := a.tr (fun k hk => ⟨rfl, wLg_n h1 q k i x (fun e => hk (e ▸ hq))⟩)
theorem Sm.sFL {l : List Nat} {h h1 : Hp} {q j : Nat} {x : Int64} (a : Sm l h h1) (hq : q ∈ l) : Sm l h (wFL h1 q j x) := a.tr (fun k hk => ⟨rfl, wFL_n h1 q j k x (fun e => hk (e ▸ hq))⟩)
theorem upd_s (f : Nat → Int32) (k : Nat) (x : Int32) : upd f k x k = x := if_pos rfl
theorem upd_n (f : Nat → Int32) {k j : Nat} (x : Int32) (h : j ≠ k) : upd f k x j = f j := if_neg h
theorem updL_s (f : Nat → Int64) (k : Nat) (x : Int64) : vp_updL f k x k = x := if_pos rfl
theorem updL_n (f : Nat → Int64) {k j : Nat} (x : Int64) (h : j ≠ k) : vp_updL f k x j = f j := if_neg h
theorem clN {n : Nat} (h : n < 2 ^ 31) : (nI n).toNatClampNeg = n := nI_clamp h
theorem cl0 : (0 : Int32).toNatClampNeg = 0 := rfl
theorem lgc (x : Int64) : lg_cmp x x = 0 := by unfold lg_cmp; simp [Int64.lt_irrefl]
theorem nar0 : vp_nar .boolean 0 = 0 := rfl
theorem nar1 : vp_nar .boolean 1 = 1 := rfl
/-- numbers compared -/
theorem le_n {a b : Nat} (h : a ≤ b) (hb : b < 2 ^ 31) : nI a ≤ nI b := nI_le h hb
theorem nle_n {a b : Nat} (h : b < a) (ha : a < 2 ^ 31) : ¬ nI a ≤ nI b := nI_ge h ha
/-- the toggles and counts are forgotten: the class -/
theorem s_X1_forget (h : Hp) : Ev (f_X1_forget_23 h) (fun h1 => Sm [23, 24, 25, 27] h h1 ∧ h1.1 23 4 = 0 ∧ (∀ x, x < 6 → h1.1 24 x = 0 ∧ h1.1 25 x = 0) ∧ ∀ i, i < 24 → h1.1 27 i = 0) := by
  unfold f_X1_forget_23
  refine Ev_jn1 (fun h1 => Sm [23, 24, 25, 27] h h1 ∧ ∀ x, x < 6 → h1.1 24 x = 0 ∧ h1.1 25 x = 0) (fun h1 ⟨hS, hZ⟩ => ?_) (fun k28 hk => ?_)
  · refine Ev_jn1 (fun h1 => Sm [23, 24, 25, 27] h h1 ∧ (∀ x, x < 6 → h1.1 24 x = 0 ∧ h1.1 25 x = 0) ∧ ∀ i, i < 24 → h1.1 27 i = 0) (fun h1 ⟨hS, hZ, hT⟩ => ?_) (fun k49 hk => ?_)
    · refine Ev_nm (Ev_so ⟨hS.sF (by decide), by rw [wF_1, upd_s], fun x hx => ?_, fun x hx => ?_⟩)
      · rw [wF_n _ _ _ _ _ (by decide), wF_n _ _ _ _ _ (by decide)]; exact hZ x hx
      · rw [wF_n _ _ _ _ _ (by decide)]; exact hT x hx
    · refine Ev_fx2 (fun j a1 a2 => a1 = nI j ∧ Sm [23, 24, 25, 27] h a2 ∧ (∀ x, x < 6 → a2.1 24 x = 0 ∧ a2.1 25 x = 0) ∧ ∀ x, x < j → a2.1 27 x = 0) 24 ?_ ?_ (FU_lt (by omega)) ⟨rfl, hS, hZ, fun x hx => absurd hx (by omega)⟩
      · rintro self j a1 a2 hj ⟨rfl, hS, hZ, hT⟩ hself
        unfold L_X1_forget_23_30
        refine Ev_f (nle_n (a := 24) hj (by omega)) (Ev_ck rfl hj (by omega) (Ev_nm (hself _ _ ⟨nI_add j 1, hS.sZ (by decide), fun x hx => ?_, fun x hx => ?_⟩)))
        · rw [wZ_n _ _ _ _ _ (by decide), wZ_n _ _ _ _ _ (by decide)]; exact hZ x hx
        · rw [wZ_1, clN (by omega), nar0]
          by_cases e : x = j
          · subst e; exact upd_s _ _ _
          · rw [upd_n _ _ e]; exact hT x (by omega)
      · rintro self a1 a2 ⟨rfl, hS, hZ, hT⟩
        unfold L_X1_forget_23_30
        exact Ev_t (le_n (a := 24) (by omega) (by omega)) (hk _ ⟨hS, hZ, hT⟩)
  · refine Ev_fx2 (fun j a1 a2 => a1 = nI j ∧ Sm [23, 24, 25, 27] h a2 ∧ ∀ x, x < j → a2.1 24 x = 0 ∧ a2.1 25 x = 0) 6 ?_ ?_ (FU_lt (by omega)) ⟨rfl, Sm.rf, fun x hx => absurd hx (by omega)⟩
    · rintro self j a1 a2 hj ⟨rfl, hS, hZ⟩ hself
      unfold L_X1_forget_23_2
      refine Ev_f (nle_n (a := 6) hj (by omega)) (Ev_ck rfl hj (by omega) (Ev_nm (Ev_ck rfl hj (by omega) (Ev_nm (hself _ _ ⟨nI_add j 1, (hS.sI (by decide)).sI (by decide), fun x hx => ?_⟩)))))
      by_cases e : x = j
      · subst e
        simp (disch := omega) only [wI_1, wI_n, clN, upd_s, and_self]
      · simp (disch := omega) only [wI_1, wI_n, clN, upd_n]; exact hZ x (by omega)
    · rintro self a1 a2 ⟨rfl, hS, hZ⟩
      unfold L_X1_forget_23_2
      exact Ev_t (le_n (a := 6) (by omega) (by omega)) (hk _ ⟨hS, hZ⟩)
theorem s_forgetC (h : Hp) : Ev (f_X10_forgetWhatDependsOnComparators h) (fun h1 => Sm [20, 23, 24, 25, 27] h h1 ∧ h1.1 23 4 = 0 ∧ (∀ x, x < 6 → h1.1 24 x = 0 ∧ h1.1 25 x = 0) ∧ (∀ i, i < 24 → h1.1 27 i = 0) ∧ h1.1 20 2 = 0) := by
  unfold f_X10_forgetWhatDependsOnComparators f_X7_forget_20
  refine Ev_bd _ (s_X1_forget h) (fun h1 ⟨a, b, c, d⟩ => ?_)
  refine Ev_bd (fun h2 => h2 = wF h1 20 2 0) (Ev_nm (Ev_so rfl)) (fun h2 e => ?_)
  subst e
  refine Ev_so ⟨(a.mono (by decide)).sF (by decide), ?_, fun x hx => ?_, fun x hx => ?_, by rw [wF_1, upd_s]⟩
  · rw [wF_n _ _ _ _ _ (by decide)]; exact b
  · rw [wF_n _ _ _ _ _ (by decide), wF_n _ _ _ _ _ (by decide)]; exact c x hx
  · rw [wF_n _ _ _ _ _ (by decide)]; exact d x hx
