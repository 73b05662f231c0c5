/-! CONSTRUCTORS: rows over a world that grows -/
abbrev WI : va_W → va_W := fun ws => ws
def NI (X : Cx) : Prop := match X with
  | (_, _, _, _, _, _, _, meth, _, _, _) => meth.name = "<init>"
section NEW
variable {l : Launch} {D : va_G} {cy : Nat → ClassId} {X : Cx} {cc : ByteArray} {own : String} {nL : Nat} {R : Room} {k n : Nat} {ws : va_W} {pc pc' : Nat} {lv : List (Nat × Value)} {st : List Value}
theorem g_new {C : String} {T : u_T} {ty : Nat → FieldType} {N ci ix : Nat} {fs : List Value} (O : Ok l D cy X cc own nL R) (d : Dc cc pc (.new ix) 3 pc') (hin : ∀ w ∈ u_ws C T N, w ∈ TW) (hty : ∀ k, k < N → parseFieldDescriptor (T k).2.2.1 = some (ty k)) (hc : vwCl[ci]? = some (C, T, N)) (kcl : Cond.classLink own ix C ∈ TW) (kin : Cond.instantiable C N ∈ TW) (kini : Cond.initialized C ∈ TW) (hfs : ∀ j, j < N → defaultValue (ty j) = vp_V fs j) (hk : k + 1 ≤ R.cells ∧ n + N ≤ R.slots) (kk : ∀ q : Nat, G l D X nL WI (k + 1) (n + N) (ws ++ [(q, .inr (ci, fs))]) pc' lv (.ref q :: st)) : G l D X nL WI k n ws pc lv st := by
  obtain ⟨p, e, R', s, m, args, below, meth, c, Q, A⟩ := X
  obtain ⟨rfl, hx, hb, hml, hown, hts, hK, hA, hlk, hE⟩ := O
  obtain ⟨d, rfl⟩ := d
  intro H locs ls hP hD hS hl
  exact va_new hx hb hts hin ty hty hown (hts _ kcl) (hts _ kin) (hts _ kini) hK hP hD hS hA hc hfs hk.1 hk.2 d (fun q H1 hP1 hD1 hS1 => kk q H1 locs ls hP1 hD1 hS1 hl)
theorem g_newa {aty : ArrayType} {ty : FieldType} {t0 N' : Nat} {x : Int32} {cA0 : ClassId} {a0 : (Nat → Int32) ⊕ (Nat → Int64) ⊕ (Nat → UInt32) ⊕ (Nat → UInt64) ⊕ (Nat → Option Nat)} (O : Ok l D cy X cc own nL R) (d : Dc cc pc (.newarray aty) 2 pc') (karr : Cond.arrayClass (newarray.typeOf aty) ∈ TW) (hty : newarray.typeOf aty = ty) (hra : ∀ (U : State) (cA : ClassId), va_RA U cA ty = (U.vm.findClass ("[" ++ ty.toString) = some cA)) (ht : (TYS cy)[t0]? = some (cA0, ty)) (ha : ∀ cA : ClassId, vp_cell cA (N', a0) = arrV cA N' (fun _ => defaultValue ty)) (hx0 : ¬ x < 0) (hN : x.toNatClampNeg = N') (hby : N' * componentBytes ty ≤ 536870912) (hk : k + 1 ≤ R.cells ∧ n + N' ≤ R.slots) (kk : ∀ q : Nat, G l D X nL WI (k + 1) (n + N') (ws ++ [(q, .inl (cA0, N', a0))]) pc' lv (.ref q :: st)) : G l D X nL WI k n ws pc lv (.int x :: st) := by
  obtain ⟨p, e, R', s, m, args, below, meth, c, Q, A⟩ := X
  obtain ⟨rfl, hx, hb, hml, hown, hts, hK, hA, hlk, hE⟩ := O
  obtain ⟨d, rfl⟩ := d
  intro H locs ls hP hD hS hl
  refine va_newa hx hb (hts _ karr) hty hK hP hD hS hA (a0 := (N', a0)) ha hx0 hN hby hk.1 hk.2 d (fun q cA H1 hK1 hP1 hD1 hS1 => ?_)
  have h1 := (hK.2 t0 _ ht).2
  have h2 := (hK1.2 5 (cA, ty) rfl).2
  rw [hra] at h1 h2
  have e : cA = cA0 := Option.some.inj (h2.symm.trans h1)
  subst e
  exact kk q H1 locs ls hP1 hD1 hS1 hl
theorem g_objI {ix a : Nat} (O : Ok l D cy X cc own nL R) (d : Dc cc pc (.invokespecial ix) 3 pc') (kl : Cond.methodLink own ix Lib.objectInit ∈ TW) (ki : Cond.instanceMethod Lib.objectInit ∈ TW) (kc : Cond.code Lib.objectInit ⟨#[0xb1]⟩ 1 none ∈ TW) (hR : 1 ≤ R.frames ∧ (st.map fun v => v.category).sum + 12 ≤ R.locals) (kk : G l D X nL WI k n ws pc' lv st) : G l D X nL WI k n ws pc lv (.ref a :: st) := by
  obtain ⟨p, e, R', s, m, args, below, meth, c, Q, A⟩ := X
  obtain ⟨rfl, hx, hb, hml, hown, hts, hK, hA, hlk, hE⟩ := O
  obtain ⟨d, rfl⟩ := d
  intro H locs ls hP hD hS hl
  refine W.objInit hx hb hown (hts _ kl) (hts _ ki) (hts _ kc) rfl (hl.1.trans hml.symm) rfl d hR.1 ?_ ?_
  · show 2 * 0 + (st.map fun v => v.category).sum + 12 ≤ _
    have := hR.2
    omega
  · exact kk H locs ls hP hD hS hl
theorem g_putFn {C : String} {T : u_T} {ty0 : Nat → FieldType} {N ci q0 a ix j : Nat} {fs : List Value} {v : Value} {ty : FieldType} {ws1 : va_W} (O : Ok l D cy X cc own nL R) (hNI : NI X) (d : Dc cc pc (.putfield ix) 3 pc') (hin : ∀ w ∈ u_ws C T N, w ∈ TW) (hty : ∀ k, k < N → parseFieldDescriptor (T k).2.2.1 = some (ty0 k)) (hnm : ∀ a, a < N → ∀ b, b < N → a ≠ b → (T a).2.1 ≠ (T b).2.1) (hc : vwCl[ci]? = some (C, T, N)) (ha : ws[q0]? = some (a, .inr (ci, fs))) (hj : j < N) (hTC : (T j).1 = C) (hCo : C = own) (hfin : (T j).2.2.2 = true) (hd : parseFieldDescriptor (T j).2.2.1 = some ty) (hn : narrow ty v = v) (hfit : fits ty v = true) (hlen : j < fs.length) (hw : ws.set q0 (a, .inr (ci, fs.set j v)) = ws1) (kw : Cond.fieldLink own ix C (T j).2.1 (T j).2.2.1 ∈ TW) (kk : G l D X nL WI k n ws1 pc' lv st) : G l D X nL WI k n ws pc lv (v :: .ref a :: st) := by
  obtain ⟨p, e, R', s, m, args, below, meth, c, Q, A⟩ := X
  obtain ⟨rfl, hx, hb, hml, hown, hts, hK, hA, hlk, hE⟩ := O
  obtain ⟨d, rfl⟩ := d
  intro H locs ls hP hD hS hl
  refine va_putF hx hb hts hin ty0 hty hnm hown hK hP hD hS q0 ha hc j hj (hts _ kw) (fun _ q => hTC ▸ q) hfin hNI (hTC.trans hCo) hd hn hfit hlen d (fun H1 locs1 hP1 hD1 hS1 => ?_)
  rw [hw] at hP1 hD1
  exact kk H1 locs1 ls hP1 hD1 hS1 hl
def CtC (l : Launch) (D : va_G) (cy : Nat → ClassId) (y : MethodName) (cc : ByteArray) (nL fr lo mc ms : Nat) (h0 : Nat) (ws : va_W) (Sh : va_W → Prop) : Prop := ∀ sz : Nat, Met l y (Cond.code y cc nL none :: TW) (RMx fr lo mc ms) (va_Pc [.ref h0] (PRE D cy WI sz ws)) (va_Qv (fun u : va_W => Sh u) (PST D cy WI (va_A ws sz)) (va_A ws sz)) mc ms (va_A ws sz)
theorem sC {y : MethodName} {fr lo mc ms h0 : Nat} {Sh : va_W → Prop} (hy : plainName y.cls = true) (ho : y.cls = own) (hni : y.name = "<init>") (hlen : (lg_sl [Value.ref h0]).length ≤ nL) (body : ∀ X : Cx, Ok l D cy X cc own nL (RMx fr lo mc ms) → NI X → (∀ (pc pc' : Nat) (lv : List (Nat × Value)) (k n : Nat) (u : va_W), k ≤ mc → n ≤ ms → Dc cc pc .return_ 1 pc' → Sh u → G l D X nL WI k n u pc lv []) → G l D X nL WI 0 0 ws 0 [(0, .ref h0)] []) : CtC l D cy y cc nL fr lo mc ms h0 ws Sh := by
  intro sz
  refine Met.ofW (cc := cc) (maxL := nL) (ret := none) hy rfl ?_
  intro p e s m args below meth c s₁ B hml hv
  obtain ⟨rfl, hsz, hP, hK, hD0, hE⟩ := hv
  have hts := atoms_spec (ws := Cond.code y cc nL none :: TW) B.pre
  have hin : meth.name = "<init>" := (name_of_methodNamed B.named B.method).1.trans hni
  subst hsz
  have hD := hD0.self (sz := s.heap.size)
  have hA : ∀ q : Nat, s.heap.size ≤ q → va_A ws s.heap.size q := fun q hq => Or.inr hq
  have hl := lv_entry [Value.ref h0] (n := nL) hlen
  rw [lg_entry_eq]
  refine body (p, e, RMx fr lo mc ms, s, m, [Value.ref h0].toArray, below, meth, c, MQ below (va_Qv (fun u : va_W => Sh u) (PST D cy WI (va_A ws s.heap.size)) (va_A ws s.heap.size)) [Value.ref h0].toArray s mc ms (va_A ws s.heap.size), va_A ws s.heap.size) ⟨rfl, B.exec, B.bytes, hml, ho ▸ findClass_of_methodNamed B.named, fun w hw => hts w (List.mem_cons_of_mem _ hw), hK, hA, B.notSynchronized, hE⟩ hin ?_ s.heap [] _ hP hD va_S.rf hl
  intro pc pc' lv k n u hk hn d hsh H locs ls hP hD hS hl
  refine W.widen hk hn ?_
  exact W.vret B.exec B.bytes B.returns (fun t ht hW => ⟨⟨u, rfl, hsh, by rw [ht]; exact hP, va_K.moved hW.alike hK, hD⟩, hS.F ht⟩) hS.2.2 d.1 B.notSynchronized
/-- a constructor's call on the cell that was made last, or any part of the world -/
theorem cbIx {s : State} {args : Array Value} {y : MethodName} {bytes : ByteArray} {fr lo mc ms maxL ix : Nat} (hts : ∀ w ∈ TW, w.before args s = true) (kc : Cond.code y bytes maxL none ∈ TW) (kin : Cond.initialized y.cls ∈ TW) (kl : Cond.methodLink own ix y ∈ TW) (hd : y.cls ≠ "java/lang/invoke/MethodHandle" ∧ y.cls ≠ "java/lang/invoke/VarHandle" ∧ (parseMethodDescriptor y.desc).map (fun d => d.parameters.length) = some 0) (hR : fr + 1 ≤ R.frames ∧ 8 + (maxL + 11) + lo ≤ R.locals) : CallB R s args own ix y bytes maxL none (Cond.code y bytes maxL none :: TW) (RMx fr lo mc ms) mc ms 0 :=
  callB_of 0 hts (gU kc) rfl rfl rfl (hts _ kin) (hts _ kl) hd hR
theorem g_C {y : MethodName} {bytes : ByteArray} {fr lo mc ms maxL ix b : Nat} {wc wr : va_W} {Sh : va_W → Prop} (O : Ok l D cy X cc own nL R) (d : Dc cc pc (.invokespecial ix) 3 pc') (hM : CtC l D cy y bytes maxL fr lo mc ms b wc Sh) (isC isR : List Nat) (s1 : isC.map (fun i => ws[i]?) = wc.map some) (s2 : isC.filterMap (fun i => ws[i]?) = wc) (s3 : isR.map (fun i => ws[i]?) = wr.map some) (s4 : va_nd isC = true) (s5 : va_nd isR = true) (s6 : ∀ i ∈ isR, i ∉ isC) (hni : y.name = "<init>") (kc : Cond.code y bytes maxL none ∈ TW) (kin : Cond.initialized y.cls ∈ TW) (kl : Cond.methodLink own ix y ∈ TW) (ki : Cond.instanceMethod y ∈ TW) (hd : y.cls ≠ "java/lang/invoke/MethodHandle" ∧ y.cls ≠ "java/lang/invoke/VarHandle" ∧ (parseMethodDescriptor y.desc).map (fun d => d.parameters.length) = some 0) (hR : fr + 1 ≤ R.frames ∧ 8 + (maxL + 11) + lo ≤ R.locals) (hkn : k + mc ≤ R.cells ∧ n + ms ≤ R.slots) (hcat : (st.map fun v => v.category).sum ≤ 8) (kk : ∀ u : va_W, Sh u → G l D X nL WI (k + mc) (n + ms) (wr ++ u) pc' lv st) : G l D X nL WI k n ws pc lv (.ref b :: st) := by
  obtain ⟨p, e, R', s, m, args, below, meth, c, Q, A⟩ := X
  obtain ⟨rfl, hx, hb, hml, hown, hts, hK, hA, hlk, hE⟩ := O
  obtain ⟨d, rfl⟩ := d
  intro H locs ls hP hD hS hl
  have hPc := va_P.sub hP isC s2
  have hDc := va_D.sub hD isC s4 s1
  have hF := va_free hD hS hA isC s1
  refine va_callv (va_runI (As := []) (rest := st) ⟨hx, hb, hml, hown, hts⟩ (hM H.size) ⟨cbIx hts kc kin kl hd hR, hni, hts _ ki⟩ ⟨PRE.blind, PRE.ofSub (wg := WI) hK hA hE hPc hDc hF hS⟩ rfl rfl hl.1 rfl (lv_room hcat) d hkn) hS (fun q _ hq => hF q hq) hF (fun u t H1 locs1 ht hvm hw hB hz1 hk1 hS1 => ?_)
  obtain ⟨hP1, hK1, hD1⟩ := hB
  rw [ht] at hP1
  obtain ⟨hP2, hD2⟩ := va_join hP hD isC isR s1 s3 s5 s6 hk1 hF hP1 hD1
  exact kk u hw H1 locs1 ls hP2 hD2 hS1 hl
theorem g_CN {y : MethodName} {bytes : ByteArray} {host : String} {fr lo mc ms maxL ix b : Nat} {wc wr : va_W} {Sh : va_W → Prop} (O : Ok l D cy X cc own nL R) (d : Dc cc pc (.invokespecial ix) 3 pc') (hM : CtC l D cy y bytes maxL fr lo mc ms b wc Sh) (isC isR : List Nat) (s1 : isC.map (fun i => ws[i]?) = wc.map some) (s2 : isC.filterMap (fun i => ws[i]?) = wc) (s3 : isR.map (fun i => ws[i]?) = wr.map some) (s4 : va_nd isC = true) (s5 : va_nd isR = true) (s6 : ∀ i ∈ isR, i ∉ isC) (hni : y.name = "<init>") (kc : Cond.code y bytes maxL none ∈ TW) (kin : Cond.initialized y.cls ∈ TW) (kl : Cond.methodLinkNest own ix y host ∈ NST) (ki : Cond.instanceMethod y ∈ TW) (hd : y.cls ≠ "java/lang/invoke/MethodHandle" ∧ y.cls ≠ "java/lang/invoke/VarHandle" ∧ (parseMethodDescriptor y.desc).map (fun d => d.parameters.length) = some 0) (hR : fr + 1 ≤ R.frames ∧ 8 + (maxL + 11) + lo ≤ R.locals) (hkn : k + mc ≤ R.cells ∧ n + ms ≤ R.slots) (hcat : (st.map fun v => v.category).sum ≤ 8) (kk : ∀ u : va_W, Sh u → G l D X nL WI (k + mc) (n + ms) (wr ++ u) pc' lv st) : G l D X nL WI k n ws pc lv (.ref b :: st) := by
  obtain ⟨p, e, R', s, m, args, below, meth, c, Q, A⟩ := X
  obtain ⟨rfl, hx, hb, hml, hown, hts, hK, hA, hlk, hE⟩ := O
  obtain ⟨d, rfl⟩ := d
  intro H locs ls hP hD hS hl
  have hPc := va_P.sub hP isC s2
  have hDc := va_D.sub hD isC s4 s1
  have hF := va_free hD hS hA isC s1
  refine va_callv (va_runIN (As := []) (rest := st) ⟨hx, hb, hml, hown, hts⟩ (hM H.size) ⟨va_cnB 0 hts (gU kc) rfl rfl rfl (hE.1 _ kl) (hts _ kin) hd hR, hni, hts _ ki⟩ ⟨PRE.blind, PRE.ofSub (wg := WI) hK hA hE hPc hDc hF hS⟩ rfl rfl hl.1 rfl (lv_room hcat) d hkn) hS (fun q _ hq => hF q hq) hF (fun u t H1 locs1 ht hvm hw hB hz1 hk1 hS1 => ?_)
  obtain ⟨hP1, hK1, hD1⟩ := hB
  rw [ht] at hP1
  obtain ⟨hP2, hD2⟩ := va_join hP hD isC isR s1 s3 s5 s6 hk1 hF hP1 hD1
  exact kk u hw H1 locs1 ls hP2 hD2 hS1 hl
end NEW
