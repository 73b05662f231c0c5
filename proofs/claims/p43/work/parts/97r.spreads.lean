theorem BfI.more {st n a j : Nat} {nb : Nat → List Nat} {qs : List Nat} {D : Nat → Nat} (hI : BfI st n nb qs D a j) (hN : NbOk st n nb) (hst : st < 4) (hn : n ≤ 6) (ha : a < facN n) : a < qs.length := by
  apply Classical.byContradiction
  intro h
  have hal := hI.al
  have e : a = qs.length := by omega
  subst e
  have hall : ∀ r, r < facN n → r ∈ qs := fun r hr => hI.done hN 45 r hr (st_45 hst hn hr)
  have h1 := nd_ct qs hI.nd hI.lt
  have h2 : ctB (fun x => decide (x ∈ qs)) (facN n) = facN n := ct_all (fun r hr => decide_eq_true (hall r hr))
  omega
theorem BfI.len {st n a j : Nat} {nb : Nat → List Nat} {qs : List Nat} {D : Nat → Nat} (hI : BfI st n nb qs D a j) : qs.length ≤ facN n := nd_le hI.nd hI.lt
theorem BfI.d45 {st n a j r : Nat} {nb : Nat → List Nat} {qs : List Nat} {D : Nat → Nat} (hI : BfI st n nb qs D a j) (hst : st < 4) (hn : n ≤ 6) (hr : r ∈ qs) : D r ≤ 45 := (hI.ex r hr 45).mp (st_45 hst hn (hI.lt r hr))
def SprI (n : Nat) (qs : List Nat) (D : Nat → Nat) (g h : Hp) : Prop := h.1 0 19 = nI qs.length ∧ (∀ i, i < qs.length → h.1 13 i = nI (qs.getD i 0)) ∧ (∀ r, r < facN n → (r ∈ qs → h.1 12 r = nI (D r)) ∧ (r ∉ qs → h.1 12 r = -1)) ∧ Sm [0, 5, 12, 13] g h ∧ ∀ j, j ≠ 19 → h.1 0 j = g.1 0 j
def FarM (st n : Nat) (h : Hp) : Prop := ∀ r, r < facN n → ∃ d, d < 100 ∧ h.1 12 r = nI d ∧ ∀ e, stF st n e r ↔ d ≤ e
theorem SprI.nM {n k : Nat} {f o : Nat → Nat} {qs : List Nat} {D : Nat → Nat} {g h : Hp} (hI : SprI n qs D g h) (hM : NetM n k f o g) : NetM n k f o h :=
  hM.keep (hI.2.2.2.2 1 (by decide)) (hI.2.2.2.2 2 (by decide)) (hI.2.2.2.2 7 (by decide)) (hI.2.2.2.1 1 (by decide)).1 (hI.2.2.2.1 2 (by decide)).1 (hI.2.2.2.1 4 (by decide)).1
