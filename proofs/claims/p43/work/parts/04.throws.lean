/-! METHODS THAT MAY THROW: contracts, starts, throws, calls -/
abbrev NMS : List String := ["java/lang/RuntimeException", "java/lang/Exception"]
abbrev RMx (fr lo mc ms : Nat) : Room := { frames := fr, cells := mc, slots := ms, locals := lo }
def THC (own : String) (cls : String) (ik ic : Nat) : Prop := Bundle.fit cls = true ∧ Cond.classLink own ik cls ∈ TW ∧ Cond.initialized cls ∈ TW ∧ ∀ w ∈ vx_atS own ic cls NMS, w ∈ TW ∨ w ∈ STW
def TH (cc : ByteArray) (own : String) (pc : Nat) (cls text : String) (ik is ic : Nat) : Prop := THC own cls ik ic ∧ (own, is, text) ∈ STRS ∧ decode cc pc = .ok (.new ik, 3) ∧ decode cc (pc + 3) = .ok (.dup, 1) ∧ ((decode cc (pc + 4) = .ok (.ldc is, 2) ∧ decode cc (pc + 6) = .ok (.invokespecial ic, 3) ∧ decode cc (pc + 9) = .ok (.athrow, 1)) ∨ (decode cc (pc + 4) = .ok (.ldc_w is, 3) ∧ decode cc (pc + 7) = .ok (.invokespecial ic, 3) ∧ decode cc (pc + 10) = .ok (.athrow, 1)))
theorem tst_in {L : List Cond} (h : L.all (fun w => lw_tbl.contains w && (goodWord w || isSt w)) = true) : ∀ w ∈ L, w ∈ TW ∨ w ∈ STW := by
  intro w hw
  have h1 := List.all_eq_true.mp h w hw
  rw [Bool.and_eq_true, Bool.or_eq_true] at h1
  have h2 : w ∈ lw_tbl := List.contains_iff_mem.mp h1.1
  rcases h1.2 with h3 | h3
  · exact Or.inl (List.mem_filter.mpr ⟨h2, h3⟩)
  · exact Or.inr (List.mem_filter.mpr ⟨h2, h3⟩)
theorem ot_of {w : Cond} (h : w ∈ TW ∨ w ∈ STW) : vx_ot w = true := by
  unfold vx_ot
  rcases h with h | h
  · rw [tw_good h, Bool.or_true]
  · rw [st_tab h, Bool.true_or]
section CX
variable {S : Type}
def GX (l : Launch) (D : va_G) (X : Cx) (nL : Nat) (wf : S → va_W) (k n : Nat) (h : S) (pc : Nat) (lv : List (Nat × Value)) (st : List Value) (E : String) : Prop := match X with
  | (p, e, R, s, m, args, below, meth, c, Q, A) => ∀ (H : Heap) (locs : List Loc) (ls : Array Slot) (ce : Cell) (q : Nat), va_P D vwCl (wf h) H → va_D A (wf h) → va_S A s.heap H locs → lv_has ls nL lv → H[q]? = some ce → ce.vm = .none → s.vm.findClass E = some ce.cls → vx_W p l e R s m args below meth c H locs k n Q (F0 m pc ls st) q
def PSX (D : va_G) (cy : Nat → ClassId) (wf : S → va_W) (A : Nat → Prop) (E : String) (u : String × S) (t : State) : Prop := E = u.1 ∧ PST D cy wf A u.2 t
def CtXI (l : Launch) (D : va_G) (cy : Nat → ClassId) (wf : S → va_W) (y : MethodName) (cc : ByteArray) (nL : Nat) (ty : FieldType) (fr lo mc ms : Nat) (av : List Value) (h : S) (o : (String × S) ⊕ (Int32 × S)) : Prop := ∀ sz : Nat, vx_Met l y (Cond.code y cc nL (some ty) :: TW) (RMx fr lo mc ms) (va_Pc av (PRE D cy wf sz h)) (va_Qi (fun x u => o = .inr (x, u)) (PST D cy wf (va_A (wf h) sz)) (va_A (wf h) sz)) (vx_X (fun u : String × S => o = .inl u) (PSX D cy wf (va_A (wf h) sz)) (va_A (wf h) sz)) mc ms (va_A (wf h) sz)
def CtXL (l : Launch) (D : va_G) (cy : Nat → ClassId) (wf : S → va_W) (y : MethodName) (cc : ByteArray) (nL : Nat) (fr lo mc ms : Nat) (av : List Value) (h : S) (o : (String × S) ⊕ (Int64 × S)) : Prop := ∀ sz : Nat, vx_Met l y (Cond.code y cc nL (some .long) :: TW) (RMx fr lo mc ms) (va_Pc av (PRE D cy wf sz h)) (va_Ql (fun x u => o = .inr (x, u)) (PST D cy wf (va_A (wf h) sz)) (va_A (wf h) sz)) (vx_X (fun u : String × S => o = .inl u) (PSX D cy wf (va_A (wf h) sz)) (va_A (wf h) sz)) mc ms (va_A (wf h) sz)
def CtXV (l : Launch) (D : va_G) (cy : Nat → ClassId) (wf : S → va_W) (y : MethodName) (cc : ByteArray) (nL : Nat) (fr lo mc ms : Nat) (av : List Value) (h : S) (o : (String × S) ⊕ (S)) : Prop := ∀ sz : Nat, vx_Met l y (Cond.code y cc nL (none) :: TW) (RMx fr lo mc ms) (va_Pc av (PRE D cy wf sz h)) (va_Qv (fun u => o = .inr u) (PST D cy wf (va_A (wf h) sz)) (va_A (wf h) sz)) (vx_X (fun u : String × S => o = .inl u) (PSX D cy wf (va_A (wf h) sz)) (va_A (wf h) sz)) mc ms (va_A (wf h) sz)
variable {l : Launch} {D : va_G} {cy : Nat → ClassId} {wf : S → va_W} {y : MethodName} {cc : ByteArray} {nL fr lo mc ms : Nat} {av : List Value} {h : S}
theorem F_of {A : Nat → Prop} {s t : State} {H : Heap} {locs : List Loc} (hS : va_S A s.heap H locs) (h1 : H.size ≤ t.heap.size) (h2 : ∀ q : Nat, q < H.size → t.heap[q]? = H[q]?) : va_F A s t :=
  ⟨Nat.le_trans hS.1 h1, fun q hq hn => (h2 q (Nat.lt_of_lt_of_le hq hS.1)).trans (hS.2.1 q hq hn)⟩
theorem sXI {own : String} {ty : FieldType} {o : (String × S) ⊕ (Int32 × S)} (hfl : l.stackTraces = false) (hy : plainName y.cls = true) (ho : y.cls = own) (hlen : (lg_sl av).length ≤ nL) (hfr : 5 < fr) (hlo : 90 ≤ lo)
    (body : ∀ X : Cx, Ok l D cy X cc own nL (RMx fr lo mc ms) → (∀ (pc pc' : Nat) (lv : List (Nat × Value)) (k n : Nat) (r : Int32) (h1 : S), k ≤ mc → n ≤ ms → Dc cc pc .ireturn 1 pc' → narrow ty (.int r) = .int r → o = .inr (r, h1) → G l D X nL wf k n h1 pc lv [.int r]) → (∀ (cls text : String) (ik is ic pc : Nat) (h1 : S) (lv : List (Nat × Value)) (st : List Value) (k n : Nat), TH cc own pc cls text ik is ic → o = .inl (cls, h1) → k + 1 ≤ mc → n + 6 ≤ ms → (st.map fun v => v.category).sum ≤ 8 → G l D X nL wf k n h1 pc lv st) → (∀ (E : String) (pc : Nat) (h1 : S) (lv : List (Nat × Value)) (st : List Value) (k n : Nat), o = .inl (E, h1) → k ≤ mc → n ≤ ms → GX l D X nL wf k n h1 pc lv st E) → G l D X nL wf 0 0 h 0 (lv_args 0 av) []) : CtXI l D cy wf y cc nL ty fr lo mc ms av h o := by
  intro sz
  refine vx_ofW (cc := cc) (maxL := nL) (ret := some ty) hy rfl ?_
  intro p e s m args below meth c s₁ B hml hex hv
  obtain ⟨rfl, hsz, hP, hK, hD0, hE⟩ := hv
  have hts := atoms_spec (ws := Cond.code y cc nL (some ty) :: TW) B.pre
  have htw : ∀ w ∈ TW, w.before av.toArray s = true := fun w hw => hts w (List.mem_cons_of_mem _ hw)
  subst hsz
  have hD := hD0.self (sz := s.heap.size)
  have hA : ∀ q : Nat, s.heap.size ≤ q → va_A (wf h) s.heap.size q := fun q hq => Or.inr hq
  have hl := lv_entry av (n := nL) hlen
  have hown : s.vm.findClass own = some m.cls := ho ▸ findClass_of_methodNamed B.named
  rw [lg_entry_eq]
  refine body (p, e, RMx fr lo mc ms, s, m, av.toArray, below, meth, c, vx_MQ below (va_Qi (fun x u => o = .inr (x, u)) (PST D cy wf (va_A (wf h) s.heap.size)) (va_A (wf h) s.heap.size)) (vx_X (fun u : String × S => o = .inl u) (PSX D cy wf (va_A (wf h) s.heap.size)) (va_A (wf h) s.heap.size)) av.toArray s mc ms (va_A (wf h) s.heap.size), va_A (wf h) s.heap.size) ⟨rfl, B.exec, B.bytes, hml, hown, htw, hK, hA, B.notSynchronized, hE⟩ ?_ ?_ ?_ s.heap [] _ hP hD va_S.rf hl
  · intro pc pc' lv k n r h1 hk hn9 d hn ho1 H locs ls hP hD hS hl
    refine W.widen hk hn9 (vx_ret ?_)
    exact W.zret B.exec B.bytes B.returns hn (fun t ht hW => ⟨⟨r, h1, rfl, ho1, by rw [ht]; exact hP, va_K.moved hW.alike hK, hD⟩, hS.F ht⟩) hS.2.2 d.1 B.notSynchronized
  · intro cls text ik is ic pc h1 lv st k n th ho1 hk hn9 hcat H locs ls hP hD hS hl
    obtain ⟨⟨hfit, kc, ki, hat⟩, hstr, d0, d3, dd⟩ := th
    obtain ⟨sa, hsa⟩ := hE.2.2.2.2.2.2.1 _ hstr
    have hat2 : ∀ w ∈ vx_atS own ic cls NMS, w.before av.toArray s = true := fun w hw => (hat w hw).elim (fun q => htw w q) (fun q => va_Nw.use (st_tab q) (hE.2.2.2.2.2.2.2 w q))
    have hgood : ∀ w ∈ Cond.classLink own ik cls :: Cond.initialized cls :: vx_atS own ic cls NMS, vx_ot w = true := by
      intro w hw
      rcases List.mem_cons.mp hw with rfl | hw
      · exact ot_of (Or.inl kc)
      · rcases List.mem_cons.mp hw with rfl | hw
        · exact ot_of (Or.inl ki)
        · exact ot_of (hat w hw)
    rcases dd with ⟨d4, d6, d9⟩ | ⟨d4, d6, d9⟩
    · refine vx_throwS (A := va_A (wf h) s.heap.size) B.exec B.bytes hfl hown hfit (by decide) (htw _ kc) (htw _ ki) hsa hat2 hgood hE.2.2.2.2.1 hE.2.2.2.2.2.1 hS (hl.1.trans hml.symm) d0 d3 d4 d6 d9 (fun x hx => absurd (hex x hx) not_false) hfr ?_ (Nat.le_trans hk (Nat.le_refl _)) (Nat.le_trans hn9 (Nat.le_refl _)) B.notSynchronized ?_ hS.2.2 hk hn9
      · show (st.map fun v => v.category).sum + 82 ≤ lo
        omega
      · intro t hvm hz hkept
        exact ⟨(cls, h1), ho1, ⟨rfl, hP.kept (fun k q hq => hkept q.1 (hP k q hq).lt), va_K.moved hvm hK, hD⟩, F_of hS hz hkept⟩
    · refine vx_throwSW (A := va_A (wf h) s.heap.size) B.exec B.bytes hfl hown hfit (by decide) (htw _ kc) (htw _ ki) hsa hat2 hgood hE.2.2.2.2.1 hE.2.2.2.2.2.1 hS (hl.1.trans hml.symm) d0 d3 d4 d6 d9 (fun x hx => absurd (hex x hx) not_false) hfr ?_ (Nat.le_trans hk (Nat.le_refl _)) (Nat.le_trans hn9 (Nat.le_refl _)) B.notSynchronized ?_ hS.2.2 hk hn9
      · show (st.map fun v => v.category).sum + 82 ≤ lo
        omega
      · intro t hvm hz hkept
        exact ⟨(cls, h1), ho1, ⟨rfl, hP.kept (fun k q hq => hkept q.1 (hP k q hq).lt), va_K.moved hvm hK, hD⟩, F_of hS hz hkept⟩
  · intro E pc h1 lv st k n ho1 hk hn9 H locs ls ce q hP hD hS hl hce hvn hcl
    exact vx_out (fun x hx => absurd (hex x hx) not_false) B.notSynchronized hce hvn hcl (fun t ht hvm => ⟨(E, h1), ho1, ⟨rfl, by rw [ht]; exact hP, va_K.moved hvm hK, hD⟩, hS.F ht⟩) hS.2.2 hk hn9
theorem sXL {own : String} {o : (String × S) ⊕ (Int64 × S)} (hfl : l.stackTraces = false) (hy : plainName y.cls = true) (ho : y.cls = own) (hlen : (lg_sl av).length ≤ nL) (hfr : 5 < fr) (hlo : 90 ≤ lo)
    (body : ∀ X : Cx, Ok l D cy X cc own nL (RMx fr lo mc ms) → (∀ (pc pc' : Nat) (lv : List (Nat × Value)) (k n : Nat) (r : Int64) (h1 : S), k ≤ mc → n ≤ ms → Dc cc pc .lreturn 1 pc' → o = .inr (r, h1) → G l D X nL wf k n h1 pc lv [.long r]) → (∀ (cls text : String) (ik is ic pc : Nat) (h1 : S) (lv : List (Nat × Value)) (st : List Value) (k n : Nat), TH cc own pc cls text ik is ic → o = .inl (cls, h1) → k + 1 ≤ mc → n + 6 ≤ ms → (st.map fun v => v.category).sum ≤ 8 → G l D X nL wf k n h1 pc lv st) → (∀ (E : String) (pc : Nat) (h1 : S) (lv : List (Nat × Value)) (st : List Value) (k n : Nat), o = .inl (E, h1) → k ≤ mc → n ≤ ms → GX l D X nL wf k n h1 pc lv st E) → G l D X nL wf 0 0 h 0 (lv_args 0 av) []) : CtXL l D cy wf y cc nL fr lo mc ms av h o := by
  intro sz
  refine vx_ofW (cc := cc) (maxL := nL) (ret := some .long) hy rfl ?_
  intro p e s m args below meth c s₁ B hml hex hv
  obtain ⟨rfl, hsz, hP, hK, hD0, hE⟩ := hv
  have hts := atoms_spec (ws := Cond.code y cc nL (some .long) :: TW) B.pre
  have htw : ∀ w ∈ TW, w.before av.toArray s = true := fun w hw => hts w (List.mem_cons_of_mem _ hw)
  subst hsz
  have hD := hD0.self (sz := s.heap.size)
  have hA : ∀ q : Nat, s.heap.size ≤ q → va_A (wf h) s.heap.size q := fun q hq => Or.inr hq
  have hl := lv_entry av (n := nL) hlen
  have hown : s.vm.findClass own = some m.cls := ho ▸ findClass_of_methodNamed B.named
  rw [lg_entry_eq]
  refine body (p, e, RMx fr lo mc ms, s, m, av.toArray, below, meth, c, vx_MQ below (va_Ql (fun x u => o = .inr (x, u)) (PST D cy wf (va_A (wf h) s.heap.size)) (va_A (wf h) s.heap.size)) (vx_X (fun u : String × S => o = .inl u) (PSX D cy wf (va_A (wf h) s.heap.size)) (va_A (wf h) s.heap.size)) av.toArray s mc ms (va_A (wf h) s.heap.size), va_A (wf h) s.heap.size) ⟨rfl, B.exec, B.bytes, hml, hown, htw, hK, hA, B.notSynchronized, hE⟩ ?_ ?_ ?_ s.heap [] _ hP hD va_S.rf hl
  · intro pc pc' lv k n r h1 hk hn9 d ho1 H locs ls hP hD hS hl
    refine W.widen hk hn9 (vx_ret ?_)
    exact W.lret B.exec B.bytes B.returns (fun t ht hW => ⟨⟨r, h1, rfl, ho1, by rw [ht]; exact hP, va_K.moved hW.alike hK, hD⟩, hS.F ht⟩) hS.2.2 d.1 B.notSynchronized
  · intro cls text ik is ic pc h1 lv st k n th ho1 hk hn9 hcat H locs ls hP hD hS hl
    obtain ⟨⟨hfit, kc, ki, hat⟩, hstr, d0, d3, dd⟩ := th
    obtain ⟨sa, hsa⟩ := hE.2.2.2.2.2.2.1 _ hstr
    have hat2 : ∀ w ∈ vx_atS own ic cls NMS, w.before av.toArray s = true := fun w hw => (hat w hw).elim (fun q => htw w q) (fun q => va_Nw.use (st_tab q) (hE.2.2.2.2.2.2.2 w q))
    have hgood : ∀ w ∈ Cond.classLink own ik cls :: Cond.initialized cls :: vx_atS own ic cls NMS, vx_ot w = true := by
      intro w hw
      rcases List.mem_cons.mp hw with rfl | hw
      · exact ot_of (Or.inl kc)
      · rcases List.mem_cons.mp hw with rfl | hw
        · exact ot_of (Or.inl ki)
        · exact ot_of (hat w hw)
    rcases dd with ⟨d4, d6, d9⟩ | ⟨d4, d6, d9⟩
    · refine vx_throwS (A := va_A (wf h) s.heap.size) B.exec B.bytes hfl hown hfit (by decide) (htw _ kc) (htw _ ki) hsa hat2 hgood hE.2.2.2.2.1 hE.2.2.2.2.2.1 hS (hl.1.trans hml.symm) d0 d3 d4 d6 d9 (fun x hx => absurd (hex x hx) not_false) hfr ?_ (Nat.le_trans hk (Nat.le_refl _)) (Nat.le_trans hn9 (Nat.le_refl _)) B.notSynchronized ?_ hS.2.2 hk hn9
      · show (st.map fun v => v.category).sum + 82 ≤ lo
        omega
      · intro t hvm hz hkept
        exact ⟨(cls, h1), ho1, ⟨rfl, hP.kept (fun k q hq => hkept q.1 (hP k q hq).lt), va_K.moved hvm hK, hD⟩, F_of hS hz hkept⟩
    · refine vx_throwSW (A := va_A (wf h) s.heap.size) B.exec B.bytes hfl hown hfit (by decide) (htw _ kc) (htw _ ki) hsa hat2 hgood hE.2.2.2.2.1 hE.2.2.2.2.2.1 hS (hl.1.trans hml.symm) d0 d3 d4 d6 d9 (fun x hx => absurd (hex x hx) not_false) hfr ?_ (Nat.le_trans hk (Nat.le_refl _)) (Nat.le_trans hn9 (Nat.le_refl _)) B.notSynchronized ?_ hS.2.2 hk hn9
      · show (st.map fun v => v.category).sum + 82 ≤ lo
        omega
      · intro t hvm hz hkept
        exact ⟨(cls, h1), ho1, ⟨rfl, hP.kept (fun k q hq => hkept q.1 (hP k q hq).lt), va_K.moved hvm hK, hD⟩, F_of hS hz hkept⟩
  · intro E pc h1 lv st k n ho1 hk hn9 H locs ls ce q hP hD hS hl hce hvn hcl
    exact vx_out (fun x hx => absurd (hex x hx) not_false) B.notSynchronized hce hvn hcl (fun t ht hvm => ⟨(E, h1), ho1, ⟨rfl, by rw [ht]; exact hP, va_K.moved hvm hK, hD⟩, hS.F ht⟩) hS.2.2 hk hn9
theorem sXV {own : String} {o : (String × S) ⊕ (S)} (hfl : l.stackTraces = false) (hy : plainName y.cls = true) (ho : y.cls = own) (hlen : (lg_sl av).length ≤ nL) (hfr : 5 < fr) (hlo : 90 ≤ lo)
    (body : ∀ X : Cx, Ok l D cy X cc own nL (RMx fr lo mc ms) → (∀ (pc pc' : Nat) (lv : List (Nat × Value)) (k n : Nat) (h1 : S), k ≤ mc → n ≤ ms → Dc cc pc .return_ 1 pc' → o = .inr h1 → G l D X nL wf k n h1 pc lv []) → (∀ (cls text : String) (ik is ic pc : Nat) (h1 : S) (lv : List (Nat × Value)) (st : List Value) (k n : Nat), TH cc own pc cls text ik is ic → o = .inl (cls, h1) → k + 1 ≤ mc → n + 6 ≤ ms → (st.map fun v => v.category).sum ≤ 8 → G l D X nL wf k n h1 pc lv st) → (∀ (E : String) (pc : Nat) (h1 : S) (lv : List (Nat × Value)) (st : List Value) (k n : Nat), o = .inl (E, h1) → k ≤ mc → n ≤ ms → GX l D X nL wf k n h1 pc lv st E) → G l D X nL wf 0 0 h 0 (lv_args 0 av) []) : CtXV l D cy wf y cc nL fr lo mc ms av h o := by
  intro sz
  refine vx_ofW (cc := cc) (maxL := nL) (ret := none) hy rfl ?_
  intro p e s m args below meth c s₁ B hml hex hv
  obtain ⟨rfl, hsz, hP, hK, hD0, hE⟩ := hv
  have hts := atoms_spec (ws := Cond.code y cc nL (none) :: TW) B.pre
  have htw : ∀ w ∈ TW, w.before av.toArray s = true := fun w hw => hts w (List.mem_cons_of_mem _ hw)
  subst hsz
  have hD := hD0.self (sz := s.heap.size)
  have hA : ∀ q : Nat, s.heap.size ≤ q → va_A (wf h) s.heap.size q := fun q hq => Or.inr hq
  have hl := lv_entry av (n := nL) hlen
  have hown : s.vm.findClass own = some m.cls := ho ▸ findClass_of_methodNamed B.named
  rw [lg_entry_eq]
  refine body (p, e, RMx fr lo mc ms, s, m, av.toArray, below, meth, c, vx_MQ below (va_Qv (fun u => o = .inr u) (PST D cy wf (va_A (wf h) s.heap.size)) (va_A (wf h) s.heap.size)) (vx_X (fun u : String × S => o = .inl u) (PSX D cy wf (va_A (wf h) s.heap.size)) (va_A (wf h) s.heap.size)) av.toArray s mc ms (va_A (wf h) s.heap.size), va_A (wf h) s.heap.size) ⟨rfl, B.exec, B.bytes, hml, hown, htw, hK, hA, B.notSynchronized, hE⟩ ?_ ?_ ?_ s.heap [] _ hP hD va_S.rf hl
  · intro pc pc' lv k n h1 hk hn9 d ho1 H locs ls hP hD hS hl
    refine W.widen hk hn9 (vx_ret ?_)
    exact W.vret B.exec B.bytes B.returns (fun t ht hW => ⟨⟨h1, rfl, ho1, by rw [ht]; exact hP, va_K.moved hW.alike hK, hD⟩, hS.F ht⟩) hS.2.2 d.1 B.notSynchronized
  · intro cls text ik is ic pc h1 lv st k n th ho1 hk hn9 hcat H locs ls hP hD hS hl
    obtain ⟨⟨hfit, kc, ki, hat⟩, hstr, d0, d3, dd⟩ := th
    obtain ⟨sa, hsa⟩ := hE.2.2.2.2.2.2.1 _ hstr
    have hat2 : ∀ w ∈ vx_atS own ic cls NMS, w.before av.toArray s = true := fun w hw => (hat w hw).elim (fun q => htw w q) (fun q => va_Nw.use (st_tab q) (hE.2.2.2.2.2.2.2 w q))
    have hgood : ∀ w ∈ Cond.classLink own ik cls :: Cond.initialized cls :: vx_atS own ic cls NMS, vx_ot w = true := by
      intro w hw
      rcases List.mem_cons.mp hw with rfl | hw
      · exact ot_of (Or.inl kc)
      · rcases List.mem_cons.mp hw with rfl | hw
        · exact ot_of (Or.inl ki)
        · exact ot_of (hat w hw)
    rcases dd with ⟨d4, d6, d9⟩ | ⟨d4, d6, d9⟩
    · refine vx_throwS (A := va_A (wf h) s.heap.size) B.exec B.bytes hfl hown hfit (by decide) (htw _ kc) (htw _ ki) hsa hat2 hgood hE.2.2.2.2.1 hE.2.2.2.2.2.1 hS (hl.1.trans hml.symm) d0 d3 d4 d6 d9 (fun x hx => absurd (hex x hx) not_false) hfr ?_ (Nat.le_trans hk (Nat.le_refl _)) (Nat.le_trans hn9 (Nat.le_refl _)) B.notSynchronized ?_ hS.2.2 hk hn9
      · show (st.map fun v => v.category).sum + 82 ≤ lo
        omega
      · intro t hvm hz hkept
        exact ⟨(cls, h1), ho1, ⟨rfl, hP.kept (fun k q hq => hkept q.1 (hP k q hq).lt), va_K.moved hvm hK, hD⟩, F_of hS hz hkept⟩
    · refine vx_throwSW (A := va_A (wf h) s.heap.size) B.exec B.bytes hfl hown hfit (by decide) (htw _ kc) (htw _ ki) hsa hat2 hgood hE.2.2.2.2.1 hE.2.2.2.2.2.1 hS (hl.1.trans hml.symm) d0 d3 d4 d6 d9 (fun x hx => absurd (hex x hx) not_false) hfr ?_ (Nat.le_trans hk (Nat.le_refl _)) (Nat.le_trans hn9 (Nat.le_refl _)) B.notSynchronized ?_ hS.2.2 hk hn9
      · show (st.map fun v => v.category).sum + 82 ≤ lo
        omega
      · intro t hvm hz hkept
        exact ⟨(cls, h1), ho1, ⟨rfl, hP.kept (fun k q hq => hkept q.1 (hP k q hq).lt), va_K.moved hvm hK, hD⟩, F_of hS hz hkept⟩
  · intro E pc h1 lv st k n ho1 hk hn9 H locs ls ce q hP hD hS hl hce hvn hcl
    exact vx_out (fun x hx => absurd (hex x hx) not_false) B.notSynchronized hce hvn hcl (fun t ht hvm => ⟨(E, h1), ho1, ⟨rfl, by rw [ht]; exact hP, va_K.moved hvm hK, hD⟩, hS.F ht⟩) hS.2.2 hk hn9
variable {X : Cx} {own : String} {R : Room} {k n : Nat} {pc pc' : Nat} {lv : List (Nat × Value)} {st st0 : List Value} {bytes : ByteArray} {maxL ix : Nat} {As : List Value} {b q0 ci N : Nat} {C : String} {T : u_T} {fs : List Value}
theorem cbOx {s : State} {args : Array Value} {ret : Option FieldType} (hts : ∀ w ∈ TW, w.before args s = true) (kc : Cond.code y bytes maxL ret ∈ TW) (kin : Cond.initialized y.cls ∈ TW) (kl : Cond.methodLink own ix y ∈ TW) {nA : Nat} (hd : y.cls ≠ "java/lang/invoke/MethodHandle" ∧ y.cls ≠ "java/lang/invoke/VarHandle" ∧ (parseMethodDescriptor y.desc).map (fun d => d.parameters.length) = some nA) (hR : fr + 1 ≤ R.frames ∧ 8 + (maxL + 11) + lo ≤ R.locals) : CallB R s args own ix y bytes maxL ret (Cond.code y bytes maxL ret :: TW) (RMx fr lo mc ms) mc ms nA :=
  callB_of nA hts (gU kc) rfl rfl rfl (hts _ kin) (hts _ kl) hd hR
theorem g_XVi {ty : FieldType} {fr lo mc ms : Nat} {o2 : (String × S) ⊕ (Int32 × S)} (O : Ok l D cy X cc own nL R) (d : Dc cc pc (.invokevirtual ix) 3 pc') (hM : CtXI l D cy wf y bytes maxL ty fr lo mc ms (.ref b :: As) h o2) (kc : Cond.code y bytes maxL (some ty) ∈ TW) (kin : Cond.initialized y.cls ∈ TW) (kl : Cond.methodLink own ix y ∈ TW) (ki : Cond.instanceMethod y ∈ TW) (ks : Cond.selects y.cls y y ∈ TW) (hc : vwCl[ci]? = some (y.cls, T, N)) (ha : (wf h)[q0]? = some (b, .inr (ci, fs))) (hd : y.cls ≠ "java/lang/invoke/MethodHandle" ∧ y.cls ≠ "java/lang/invoke/VarHandle" ∧ (parseMethodDescriptor y.desc).map (fun d => d.parameters.length) = some As.length) (hR : fr + 1 ≤ R.frames ∧ 8 + (maxL + 11) + lo ≤ R.locals) (hkn : k + mc ≤ R.cells ∧ n + ms ≤ R.slots) (hst : st0 = As.reverse ++ .ref b :: st) (hcat : (st.map fun v => v.category).sum ≤ 8) (kx : ∀ (E : String) (h1 : S), o2 = .inl (E, h1) → GX l D X nL wf (k + mc) (n + ms) h1 pc lv st E) (kk : ∀ a : Int32 × S, o2 = .inr a → G l D X nL wf (k + mc) (n + ms) a.2 pc' lv (.int a.1 :: st)) : G l D X nL wf k n h pc lv st0 := by
  obtain ⟨p, e, R', s, m, args, below, meth, c, Q, A⟩ := X
  obtain ⟨rfl, hx, hb, hml, hown, hts, hK, hA, hlk, hE⟩ := O
  obtain ⟨d, rfl⟩ := d
  subst hst
  intro H locs ls hP hD hS hl
  have hF := A_in hD hS hA
  refine vx_calli (vx_runV (As := As) (rest := st) (C := y.cls) ⟨hx, hb, hml, hown, hts⟩ (hM H.size) ⟨cbOx hts kc kin kl hd hR, hts _ ki, hts _ ks⟩ ⟨PRE.blind, va_recv hK hP hc ha, PRE.of hK hA hE hP hD hS⟩ rfl rfl hl.1 rfl (lv_room hcat) d hkn) hS (fun q _ hq => hF q hq) hF (fun q _ hq => hF q hq) (fun E ce q9 u t H1 locs1 ht hvm hpx hB hz1 hk1 hS1 hce hvn hcl => ?_) (fun r1 u t H1 locs1 ht hvm hw hB hz1 hk1 hS1 => ?_)
  · obtain ⟨E1, h1⟩ := u
    obtain ⟨rfl, hP1, hK1, hD1⟩ := hB
    rw [ht] at hP1
    exact kx _ h1 hpx H1 locs1 ls ce q9 hP1 (hD1.weaken (fun _ _ _ hq => hF _ hq)) hS1 hl hce hvn hcl
  · obtain ⟨hP1, hK1, hD1⟩ := hB
    rw [ht] at hP1
    exact kk (r1, u) hw H1 locs1 ls hP1 (hD1.weaken (fun _ _ _ hq => hF _ hq)) hS1 hl
theorem g_XSi {ty : FieldType} {fr lo mc ms : Nat} {o2 : (String × S) ⊕ (Int32 × S)} (O : Ok l D cy X cc own nL R) (d : Dc cc pc (.invokestatic ix) 3 pc') (hM : CtXI l D cy wf y bytes maxL ty fr lo mc ms As h o2) (kc : Cond.code y bytes maxL (some ty) ∈ TW) (kin : Cond.initialized y.cls ∈ TW) (kl : Cond.methodLink own ix y ∈ TW) (ki : Cond.static y ∈ TW) (hd : y.cls ≠ "java/lang/invoke/MethodHandle" ∧ y.cls ≠ "java/lang/invoke/VarHandle" ∧ (parseMethodDescriptor y.desc).map (fun d => d.parameters.length) = some As.length) (hR : fr + 1 ≤ R.frames ∧ 8 + (maxL + 11) + lo ≤ R.locals) (hkn : k + mc ≤ R.cells ∧ n + ms ≤ R.slots) (hst : st0 = As.reverse ++ st) (hcat : (st.map fun v => v.category).sum ≤ 8) (kx : ∀ (E : String) (h1 : S), o2 = .inl (E, h1) → GX l D X nL wf (k + mc) (n + ms) h1 pc lv st E) (kk : ∀ a : Int32 × S, o2 = .inr a → G l D X nL wf (k + mc) (n + ms) a.2 pc' lv (.int a.1 :: st)) : G l D X nL wf k n h pc lv st0 := by
  obtain ⟨p, e, R', s, m, args, below, meth, c, Q, A⟩ := X
  obtain ⟨rfl, hx, hb, hml, hown, hts, hK, hA, hlk, hE⟩ := O
  obtain ⟨d, rfl⟩ := d
  subst hst
  intro H locs ls hP hD hS hl
  have hF := A_in hD hS hA
  refine vx_calli (vx_runS (As := As) (rest := st) ⟨hx, hb, hml, hown, hts⟩ (hM H.size) ⟨cbOx hts kc kin kl hd hR, hts _ ki⟩ ⟨PRE.blind, PRE.of hK hA hE hP hD hS⟩ rfl rfl hl.1 rfl (lv_room hcat) d hkn) hS (fun q _ hq => hF q hq) hF (fun q _ hq => hF q hq) (fun E ce q9 u t H1 locs1 ht hvm hpx hB hz1 hk1 hS1 hce hvn hcl => ?_) (fun r1 u t H1 locs1 ht hvm hw hB hz1 hk1 hS1 => ?_)
  · obtain ⟨E1, h1⟩ := u
    obtain ⟨rfl, hP1, hK1, hD1⟩ := hB
    rw [ht] at hP1
    exact kx _ h1 hpx H1 locs1 ls ce q9 hP1 (hD1.weaken (fun _ _ _ hq => hF _ hq)) hS1 hl hce hvn hcl
  · obtain ⟨hP1, hK1, hD1⟩ := hB
    rw [ht] at hP1
    exact kk (r1, u) hw H1 locs1 ls hP1 (hD1.weaken (fun _ _ _ hq => hF _ hq)) hS1 hl
theorem g_XVl {fr lo mc ms : Nat} {o2 : (String × S) ⊕ (Int64 × S)} (O : Ok l D cy X cc own nL R) (d : Dc cc pc (.invokevirtual ix) 3 pc') (hM : CtXL l D cy wf y bytes maxL fr lo mc ms (.ref b :: As) h o2) (kc : Cond.code y bytes maxL (some .long) ∈ TW) (kin : Cond.initialized y.cls ∈ TW) (kl : Cond.methodLink own ix y ∈ TW) (ki : Cond.instanceMethod y ∈ TW) (ks : Cond.selects y.cls y y ∈ TW) (hc : vwCl[ci]? = some (y.cls, T, N)) (ha : (wf h)[q0]? = some (b, .inr (ci, fs))) (hd : y.cls ≠ "java/lang/invoke/MethodHandle" ∧ y.cls ≠ "java/lang/invoke/VarHandle" ∧ (parseMethodDescriptor y.desc).map (fun d => d.parameters.length) = some As.length) (hR : fr + 1 ≤ R.frames ∧ 8 + (maxL + 11) + lo ≤ R.locals) (hkn : k + mc ≤ R.cells ∧ n + ms ≤ R.slots) (hst : st0 = As.reverse ++ .ref b :: st) (hcat : (st.map fun v => v.category).sum ≤ 8) (kx : ∀ (E : String) (h1 : S), o2 = .inl (E, h1) → GX l D X nL wf (k + mc) (n + ms) h1 pc lv st E) (kk : ∀ a : Int64 × S, o2 = .inr a → G l D X nL wf (k + mc) (n + ms) a.2 pc' lv (.long a.1 :: st)) : G l D X nL wf k n h pc lv st0 := by
  obtain ⟨p, e, R', s, m, args, below, meth, c, Q, A⟩ := X
  obtain ⟨rfl, hx, hb, hml, hown, hts, hK, hA, hlk, hE⟩ := O
  obtain ⟨d, rfl⟩ := d
  subst hst
  intro H locs ls hP hD hS hl
  have hF := A_in hD hS hA
  refine vx_calll (vx_runV (As := As) (rest := st) (C := y.cls) ⟨hx, hb, hml, hown, hts⟩ (hM H.size) ⟨cbOx hts kc kin kl hd hR, hts _ ki, hts _ ks⟩ ⟨PRE.blind, va_recv hK hP hc ha, PRE.of hK hA hE hP hD hS⟩ rfl rfl hl.1 rfl (lv_room hcat) d hkn) hS (fun q _ hq => hF q hq) hF (fun q _ hq => hF q hq) (fun E ce q9 u t H1 locs1 ht hvm hpx hB hz1 hk1 hS1 hce hvn hcl => ?_) (fun r1 u t H1 locs1 ht hvm hw hB hz1 hk1 hS1 => ?_)
  · obtain ⟨E1, h1⟩ := u
    obtain ⟨rfl, hP1, hK1, hD1⟩ := hB
    rw [ht] at hP1
    exact kx _ h1 hpx H1 locs1 ls ce q9 hP1 (hD1.weaken (fun _ _ _ hq => hF _ hq)) hS1 hl hce hvn hcl
  · obtain ⟨hP1, hK1, hD1⟩ := hB
    rw [ht] at hP1
    exact kk (r1, u) hw H1 locs1 ls hP1 (hD1.weaken (fun _ _ _ hq => hF _ hq)) hS1 hl
theorem g_XSl {fr lo mc ms : Nat} {o2 : (String × S) ⊕ (Int64 × S)} (O : Ok l D cy X cc own nL R) (d : Dc cc pc (.invokestatic ix) 3 pc') (hM : CtXL l D cy wf y bytes maxL fr lo mc ms As h o2) (kc : Cond.code y bytes maxL (some .long) ∈ TW) (kin : Cond.initialized y.cls ∈ TW) (kl : Cond.methodLink own ix y ∈ TW) (ki : Cond.static y ∈ TW) (hd : y.cls ≠ "java/lang/invoke/MethodHandle" ∧ y.cls ≠ "java/lang/invoke/VarHandle" ∧ (parseMethodDescriptor y.desc).map (fun d => d.parameters.length) = some As.length) (hR : fr + 1 ≤ R.frames ∧ 8 + (maxL + 11) + lo ≤ R.locals) (hkn : k + mc ≤ R.cells ∧ n + ms ≤ R.slots) (hst : st0 = As.reverse ++ st) (hcat : (st.map fun v => v.category).sum ≤ 8) (kx : ∀ (E : String) (h1 : S), o2 = .inl (E, h1) → GX l D X nL wf (k + mc) (n + ms) h1 pc lv st E) (kk : ∀ a : Int64 × S, o2 = .inr a → G l D X nL wf (k + mc) (n + ms) a.2 pc' lv (.long a.1 :: st)) : G l D X nL wf k n h pc lv st0 := by
  obtain ⟨p, e, R', s, m, args, below, meth, c, Q, A⟩ := X
  obtain ⟨rfl, hx, hb, hml, hown, hts, hK, hA, hlk, hE⟩ := O
  obtain ⟨d, rfl⟩ := d
  subst hst
  intro H locs ls hP hD hS hl
  have hF := A_in hD hS hA
  refine vx_calll (vx_runS (As := As) (rest := st) ⟨hx, hb, hml, hown, hts⟩ (hM H.size) ⟨cbOx hts kc kin kl hd hR, hts _ ki⟩ ⟨PRE.blind, PRE.of hK hA hE hP hD hS⟩ rfl rfl hl.1 rfl (lv_room hcat) d hkn) hS (fun q _ hq => hF q hq) hF (fun q _ hq => hF q hq) (fun E ce q9 u t H1 locs1 ht hvm hpx hB hz1 hk1 hS1 hce hvn hcl => ?_) (fun r1 u t H1 locs1 ht hvm hw hB hz1 hk1 hS1 => ?_)
  · obtain ⟨E1, h1⟩ := u
    obtain ⟨rfl, hP1, hK1, hD1⟩ := hB
    rw [ht] at hP1
    exact kx _ h1 hpx H1 locs1 ls ce q9 hP1 (hD1.weaken (fun _ _ _ hq => hF _ hq)) hS1 hl hce hvn hcl
  · obtain ⟨hP1, hK1, hD1⟩ := hB
    rw [ht] at hP1
    exact kk (r1, u) hw H1 locs1 ls hP1 (hD1.weaken (fun _ _ _ hq => hF _ hq)) hS1 hl
theorem g_XVv {fr lo mc ms : Nat} {o2 : (String × S) ⊕ (S)} (O : Ok l D cy X cc own nL R) (d : Dc cc pc (.invokevirtual ix) 3 pc') (hM : CtXV l D cy wf y bytes maxL fr lo mc ms (.ref b :: As) h o2) (kc : Cond.code y bytes maxL (none) ∈ TW) (kin : Cond.initialized y.cls ∈ TW) (kl : Cond.methodLink own ix y ∈ TW) (ki : Cond.instanceMethod y ∈ TW) (ks : Cond.selects y.cls y y ∈ TW) (hc : vwCl[ci]? = some (y.cls, T, N)) (ha : (wf h)[q0]? = some (b, .inr (ci, fs))) (hd : y.cls ≠ "java/lang/invoke/MethodHandle" ∧ y.cls ≠ "java/lang/invoke/VarHandle" ∧ (parseMethodDescriptor y.desc).map (fun d => d.parameters.length) = some As.length) (hR : fr + 1 ≤ R.frames ∧ 8 + (maxL + 11) + lo ≤ R.locals) (hkn : k + mc ≤ R.cells ∧ n + ms ≤ R.slots) (hst : st0 = As.reverse ++ .ref b :: st) (hcat : (st.map fun v => v.category).sum ≤ 8) (kx : ∀ (E : String) (h1 : S), o2 = .inl (E, h1) → GX l D X nL wf (k + mc) (n + ms) h1 pc lv st E) (kk : ∀ a : S, o2 = .inr a → G l D X nL wf (k + mc) (n + ms) a pc' lv st) : G l D X nL wf k n h pc lv st0 := by
  obtain ⟨p, e, R', s, m, args, below, meth, c, Q, A⟩ := X
  obtain ⟨rfl, hx, hb, hml, hown, hts, hK, hA, hlk, hE⟩ := O
  obtain ⟨d, rfl⟩ := d
  subst hst
  intro H locs ls hP hD hS hl
  have hF := A_in hD hS hA
  refine vx_callv (vx_runV (As := As) (rest := st) (C := y.cls) ⟨hx, hb, hml, hown, hts⟩ (hM H.size) ⟨cbOx hts kc kin kl hd hR, hts _ ki, hts _ ks⟩ ⟨PRE.blind, va_recv hK hP hc ha, PRE.of hK hA hE hP hD hS⟩ rfl rfl hl.1 rfl (lv_room hcat) d hkn) hS (fun q _ hq => hF q hq) hF (fun q _ hq => hF q hq) (fun E ce q9 u t H1 locs1 ht hvm hpx hB hz1 hk1 hS1 hce hvn hcl => ?_) (fun u t H1 locs1 ht hvm hw hB hz1 hk1 hS1 => ?_)
  · obtain ⟨E1, h1⟩ := u
    obtain ⟨rfl, hP1, hK1, hD1⟩ := hB
    rw [ht] at hP1
    exact kx _ h1 hpx H1 locs1 ls ce q9 hP1 (hD1.weaken (fun _ _ _ hq => hF _ hq)) hS1 hl hce hvn hcl
  · obtain ⟨hP1, hK1, hD1⟩ := hB
    rw [ht] at hP1
    exact kk u hw H1 locs1 ls hP1 (hD1.weaken (fun _ _ _ hq => hF _ hq)) hS1 hl
theorem g_XSv {fr lo mc ms : Nat} {o2 : (String × S) ⊕ (S)} (O : Ok l D cy X cc own nL R) (d : Dc cc pc (.invokestatic ix) 3 pc') (hM : CtXV l D cy wf y bytes maxL fr lo mc ms As h o2) (kc : Cond.code y bytes maxL (none) ∈ TW) (kin : Cond.initialized y.cls ∈ TW) (kl : Cond.methodLink own ix y ∈ TW) (ki : Cond.static y ∈ TW) (hd : y.cls ≠ "java/lang/invoke/MethodHandle" ∧ y.cls ≠ "java/lang/invoke/VarHandle" ∧ (parseMethodDescriptor y.desc).map (fun d => d.parameters.length) = some As.length) (hR : fr + 1 ≤ R.frames ∧ 8 + (maxL + 11) + lo ≤ R.locals) (hkn : k + mc ≤ R.cells ∧ n + ms ≤ R.slots) (hst : st0 = As.reverse ++ st) (hcat : (st.map fun v => v.category).sum ≤ 8) (kx : ∀ (E : String) (h1 : S), o2 = .inl (E, h1) → GX l D X nL wf (k + mc) (n + ms) h1 pc lv st E) (kk : ∀ a : S, o2 = .inr a → G l D X nL wf (k + mc) (n + ms) a pc' lv st) : G l D X nL wf k n h pc lv st0 := by
  obtain ⟨p, e, R', s, m, args, below, meth, c, Q, A⟩ := X
  obtain ⟨rfl, hx, hb, hml, hown, hts, hK, hA, hlk, hE⟩ := O
  obtain ⟨d, rfl⟩ := d
  subst hst
  intro H locs ls hP hD hS hl
  have hF := A_in hD hS hA
  refine vx_callv (vx_runS (As := As) (rest := st) ⟨hx, hb, hml, hown, hts⟩ (hM H.size) ⟨cbOx hts kc kin kl hd hR, hts _ ki⟩ ⟨PRE.blind, PRE.of hK hA hE hP hD hS⟩ rfl rfl hl.1 rfl (lv_room hcat) d hkn) hS (fun q _ hq => hF q hq) hF (fun q _ hq => hF q hq) (fun E ce q9 u t H1 locs1 ht hvm hpx hB hz1 hk1 hS1 hce hvn hcl => ?_) (fun u t H1 locs1 ht hvm hw hB hz1 hk1 hS1 => ?_)
  · obtain ⟨E1, h1⟩ := u
    obtain ⟨rfl, hP1, hK1, hD1⟩ := hB
    rw [ht] at hP1
    exact kx _ h1 hpx H1 locs1 ls ce q9 hP1 (hD1.weaken (fun _ _ _ hq => hF _ hq)) hS1 hl hce hvn hcl
  · obtain ⟨hP1, hK1, hD1⟩ := hB
    rw [ht] at hP1
    exact kk u hw H1 locs1 ls hP1 (hD1.weaken (fun _ _ _ hq => hF _ hq)) hS1 hl
end CX
