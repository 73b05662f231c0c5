/-! CONTRACTS over a world of fixed shape: start, end, calls -/
section CT
variable {S : Type}
def PRE (D : va_G) (cy : Nat → ClassId) (wf : S → va_W) (sz : Nat) (h : S) (U : State) : Prop := U.heap.size = sz ∧ va_P D vwCl (wf h) U.heap ∧ va_K D vwCl (TYS cy) U ∧ va_D (fun _ => True) (wf h) ∧ ENV (va_A (wf h) sz) U U.heap
def PST (D : va_G) (cy : Nat → ClassId) (wf : S → va_W) (A : Nat → Prop) (h1 : S) (t : State) : Prop := va_P D vwCl (wf h1) t.heap ∧ va_K D vwCl (TYS cy) t ∧ va_D A (wf h1)
abbrev RM (fr lo : Nat) : Room := { frames := fr, cells := 0, slots := 0, locals := lo }
def CtI (l : Launch) (D : va_G) (cy : Nat → ClassId) (wf : S → va_W) (y : MethodName) (cc : ByteArray) (nL : Nat) (ty : FieldType) (fr lo : Nat) (av : List Value) (h : S) (r : Int32) (h1 : S) : Prop := ∀ sz : Nat, Met l y (Cond.code y cc nL (some ty) :: TW) (RM fr lo) (va_Pc av (PRE D cy wf sz h)) (va_Qi (fun x u => x = r ∧ u = h1) (PST D cy wf (va_A (wf h) sz)) (va_A (wf h) sz)) 0 0 (va_A (wf h) sz)
def CtL (l : Launch) (D : va_G) (cy : Nat → ClassId) (wf : S → va_W) (y : MethodName) (cc : ByteArray) (nL : Nat) (fr lo : Nat) (av : List Value) (h : S) (r : Int64) (h1 : S) : Prop := ∀ sz : Nat, Met l y (Cond.code y cc nL (some .long) :: TW) (RM fr lo) (va_Pc av (PRE D cy wf sz h)) (va_Ql (fun x u => x = r ∧ u = h1) (PST D cy wf (va_A (wf h) sz)) (va_A (wf h) sz)) 0 0 (va_A (wf h) sz)
def CtV (l : Launch) (D : va_G) (cy : Nat → ClassId) (wf : S → va_W) (y : MethodName) (cc : ByteArray) (nL : Nat) (fr lo : Nat) (av : List Value) (h : S) (h1 : S) : Prop := ∀ sz : Nat, Met l y (Cond.code y cc nL none :: TW) (RM fr lo) (va_Pc av (PRE D cy wf sz h)) (va_Qv (fun u => u = h1) (PST D cy wf (va_A (wf h) sz)) (va_A (wf h) sz)) 0 0 (va_A (wf h) sz)
theorem PRE.blind {D : va_G} {cy : Nat → ClassId} {wf : S → va_W} {sz : Nat} {h : S} {av : List Value} : FrameBlind (va_Pc av (PRE D cy wf sz h)) := by
  intro a U g mk q
  obtain ⟨q0, q1, qP, qK, qD, qE⟩ := q
  exact ⟨q0, q1, qP, va_K.moved (u := U) (U := U.calling g mk a) (Vm.Alike.refl U.vm) qK, qD, ENV.same (u := U) (U := U.calling g mk a) rfl qE⟩
theorem A_in {A0 : Nat → Prop} {ws : va_W} {H0 H : Heap} {locs : List Loc} (hD : va_D A0 ws) (hS : va_S A0 H0 H locs) (hA : ∀ q, H0.size ≤ q → A0 q) : ∀ q, va_A ws H.size q → A0 q := by
  intro q hq
  rcases hq with ⟨k, e, hk⟩ | hq
  · exact hD.2 k (q, e) hk
  · exact hA q (Nat.le_trans hS.1 hq)
theorem PRE.of {D : va_G} {cy : Nat → ClassId} {wf : S → va_W} {h : S} {av : List Value} {s : State} {A : Nat → Prop} {H : Heap} {locs : List Loc} (hK : va_K D vwCl (TYS cy) s) (hA : ∀ q, s.heap.size ≤ q → A q) (hE : ENV A s s.heap) (hP : va_P D vwCl (wf h) H) (hD : va_D A (wf h)) (hS : va_S A s.heap H locs) : ∀ U : State, U.heap = H → s.WarmedH U.vm → va_Pc av (PRE D cy wf H.size h) av.toArray U := by
  intro U hU hW
  refine ⟨rfl, by rw [hU], by rw [hU]; exact hP, va_K.moved hW.alike hK, hD.weaken (fun _ _ _ _ => trivial), ?_⟩
  rw [hU]
  exact ((hE.kept (fun a ha hn => hS.2.1 a ha hn)).narrow (A_in hD hS hA)).warm hW
variable {l : Launch} {D : va_G} {cy : Nat → ClassId} {wf : S → va_W} {y : MethodName} {cc : ByteArray} {nL fr lo : Nat} {av : List Value} {h h1 : S}

theorem sI {own : String} {ty : FieldType} {r : Int32} (hy : plainName y.cls = true) (ho : y.cls = own) (hlen : (lg_sl av).length ≤ nL) (body : ∀ X : Cx, Ok l D cy X cc own nL (RM fr lo) → (∀ (pc pc' : Nat) (lv : List (Nat × Value)), Dc cc pc .ireturn 1 pc' → narrow ty (.int r) = .int r → G l D X nL wf 0 0 h1 pc lv [.int r]) → G l D X nL wf 0 0 h 0 (lv_args 0 av) []) : CtI l D cy wf y cc nL ty fr lo av h r h1 := by
  intro sz
  refine Met.ofW (cc := cc) (maxL := nL) (ret := some ty) hy rfl ?_
  intro p e s m args below meth c s₁ B hml hv
  obtain ⟨rfl, hsz, hP, hK, hD0, hE⟩ := hv
  have hts := atoms_spec (ws := Cond.code y cc nL (some ty) :: TW) B.pre
  subst hsz
  have hD := hD0.self (sz := s.heap.size)
  have hA : ∀ q : Nat, s.heap.size ≤ q → va_A (wf h) s.heap.size q := fun q hq => Or.inr hq
  have hl := lv_entry av (n := nL) hlen
  rw [lg_entry_eq]
  refine body (p, e, RM fr lo, s, m, av.toArray, below, meth, c, MQ below (va_Qi (fun x u => x = r ∧ u = h1) (PST D cy wf (va_A (wf h) s.heap.size)) (va_A (wf h) s.heap.size)) av.toArray s 0 0 (va_A (wf h) s.heap.size), va_A (wf h) s.heap.size) ⟨rfl, B.exec, B.bytes, hml, ho ▸ findClass_of_methodNamed B.named, fun w hw => hts w (List.mem_cons_of_mem _ hw), hK, hA, B.notSynchronized, hE⟩ ?_ s.heap [] _ hP hD va_S.rf hl
  intro pc pc' lv d hn H locs ls hP hD hS hl
  exact W.zret B.exec B.bytes B.returns hn (fun t ht hW => ⟨⟨r, h1, rfl, ⟨rfl, rfl⟩, by rw [ht]; exact hP, va_K.moved hW.alike hK, hD⟩, hS.F ht⟩) hS.2.2 d.1 B.notSynchronized
theorem sL {own : String} {r : Int64} (hy : plainName y.cls = true) (ho : y.cls = own) (hlen : (lg_sl av).length ≤ nL) (body : ∀ X : Cx, Ok l D cy X cc own nL (RM fr lo) → (∀ (pc pc' : Nat) (lv : List (Nat × Value)), Dc cc pc .lreturn 1 pc' → G l D X nL wf 0 0 h1 pc lv [.long r]) → G l D X nL wf 0 0 h 0 (lv_args 0 av) []) : CtL l D cy wf y cc nL fr lo av h r h1 := by
  intro sz
  refine Met.ofW (cc := cc) (maxL := nL) (ret := some .long) hy rfl ?_
  intro p e s m args below meth c s₁ B hml hv
  obtain ⟨rfl, hsz, hP, hK, hD0, hE⟩ := hv
  have hts := atoms_spec (ws := Cond.code y cc nL (some .long) :: TW) B.pre
  subst hsz
  have hD := hD0.self (sz := s.heap.size)
  have hA : ∀ q : Nat, s.heap.size ≤ q → va_A (wf h) s.heap.size q := fun q hq => Or.inr hq
  have hl := lv_entry av (n := nL) hlen
  rw [lg_entry_eq]
  refine body (p, e, RM fr lo, s, m, av.toArray, below, meth, c, MQ below (va_Ql (fun x u => x = r ∧ u = h1) (PST D cy wf (va_A (wf h) s.heap.size)) (va_A (wf h) s.heap.size)) av.toArray s 0 0 (va_A (wf h) s.heap.size), va_A (wf h) s.heap.size) ⟨rfl, B.exec, B.bytes, hml, ho ▸ findClass_of_methodNamed B.named, fun w hw => hts w (List.mem_cons_of_mem _ hw), hK, hA, B.notSynchronized, hE⟩ ?_ s.heap [] _ hP hD va_S.rf hl
  intro pc pc' lv d H locs ls hP hD hS hl
  exact W.lret B.exec B.bytes B.returns (fun t ht hW => ⟨⟨r, h1, rfl, ⟨rfl, rfl⟩, by rw [ht]; exact hP, va_K.moved hW.alike hK, hD⟩, hS.F ht⟩) hS.2.2 d.1 B.notSynchronized
theorem sV {own : String} (hy : plainName y.cls = true) (ho : y.cls = own) (hlen : (lg_sl av).length ≤ nL) (body : ∀ X : Cx, Ok l D cy X cc own nL (RM fr lo) → (∀ (pc pc' : Nat) (lv : List (Nat × Value)), Dc cc pc .return_ 1 pc' → G l D X nL wf 0 0 h1 pc lv []) → G l D X nL wf 0 0 h 0 (lv_args 0 av) []) : CtV l D cy wf y cc nL fr lo av h h1 := by
  intro sz
  refine Met.ofW (cc := cc) (maxL := nL) (ret := none) hy rfl ?_
  intro p e s m args below meth c s₁ B hml hv
  obtain ⟨rfl, hsz, hP, hK, hD0, hE⟩ := hv
  have hts := atoms_spec (ws := Cond.code y cc nL (none) :: TW) B.pre
  subst hsz
  have hD := hD0.self (sz := s.heap.size)
  have hA : ∀ q : Nat, s.heap.size ≤ q → va_A (wf h) s.heap.size q := fun q hq => Or.inr hq
  have hl := lv_entry av (n := nL) hlen
  rw [lg_entry_eq]
  refine body (p, e, RM fr lo, s, m, av.toArray, below, meth, c, MQ below (va_Qv (fun u => u = h1) (PST D cy wf (va_A (wf h) s.heap.size)) (va_A (wf h) s.heap.size)) av.toArray s 0 0 (va_A (wf h) s.heap.size), va_A (wf h) s.heap.size) ⟨rfl, B.exec, B.bytes, hml, ho ▸ findClass_of_methodNamed B.named, fun w hw => hts w (List.mem_cons_of_mem _ hw), hK, hA, B.notSynchronized, hE⟩ ?_ s.heap [] _ hP hD va_S.rf hl
  intro pc pc' lv d H locs ls hP hD hS hl
  exact W.vret B.exec B.bytes B.returns (fun t ht hW => ⟨⟨h1, rfl, rfl, by rw [ht]; exact hP, va_K.moved hW.alike hK, hD⟩, hS.F ht⟩) hS.2.2 d.1 B.notSynchronized
variable {X : Cx} {own : String} {R : Room} {k n : Nat} {pc pc' : Nat} {lv : List (Nat × Value)} {st st0 : List Value} {bytes : ByteArray} {maxL ix : Nat} {As : List Value} {b q0 ci N : Nat} {C : String} {T : u_T} {fs : List Value}
theorem cbOf {s : State} {args : Array Value} {ret : Option FieldType} (hts : ∀ w ∈ TW, w.before args s = true) (kc : Cond.code y bytes maxL ret ∈ TW) (kin : Cond.initialized y.cls ∈ TW) (kl : Cond.methodLink own ix y ∈ TW) {nA : Nat} (hd : y.cls ≠ "java/lang/invoke/MethodHandle" ∧ y.cls ≠ "java/lang/invoke/VarHandle" ∧ (parseMethodDescriptor y.desc).map (fun d => d.parameters.length) = some nA) (hR : fr + 1 ≤ R.frames ∧ 8 + (maxL + 11) + lo ≤ R.locals) : CallB R s args own ix y bytes maxL ret (Cond.code y bytes maxL ret :: TW) (RM fr lo) 0 0 nA :=
  callB_of nA hts (gU kc) rfl rfl rfl (hts _ kin) (hts _ kl) hd hR
theorem g_Vi {ty : FieldType} {r : Int32} {fr lo : Nat} (O : Ok l D cy X cc own nL R) (d : Dc cc pc (.invokevirtual ix) 3 pc') (hM : CtI l D cy wf y bytes maxL ty fr lo (.ref b :: As) h r h1) (kc : Cond.code y bytes maxL (some ty) ∈ TW) (kin : Cond.initialized y.cls ∈ TW) (kl : Cond.methodLink own ix y ∈ TW) (ki : Cond.instanceMethod y ∈ TW) (ks : Cond.selects y.cls y y ∈ TW) (hc : vwCl[ci]? = some (y.cls, T, N)) (ha : (wf h)[q0]? = some (b, .inr (ci, fs))) (hd : y.cls ≠ "java/lang/invoke/MethodHandle" ∧ y.cls ≠ "java/lang/invoke/VarHandle" ∧ (parseMethodDescriptor y.desc).map (fun d => d.parameters.length) = some As.length) (hR : fr + 1 ≤ R.frames ∧ 8 + (maxL + 11) + lo ≤ R.locals) (hkn : k ≤ R.cells ∧ n ≤ R.slots) (hst : st0 = As.reverse ++ .ref b :: st) (hcat : (st.map fun v => v.category).sum ≤ 8) (kk : G l D X nL wf k n h1 pc' lv (.int r :: st)) : G l D X nL wf k n h pc lv st0 := by
  obtain ⟨p, e, R', s, m, args, below, meth, c, Q, A⟩ := X
  obtain ⟨rfl, hx, hb, hml, hown, hts, hK, hA, hlk, hE⟩ := O
  obtain ⟨d, rfl⟩ := d
  subst hst
  intro H locs ls hP hD hS hl
  have hF := A_in hD hS hA
  refine va_calli (va_runV (As := As) (rest := st) (C := y.cls) ⟨hx, hb, hml, hown, hts⟩ (hM H.size) ⟨cbOf hts kc kin kl hd hR, hts _ ki, hts _ ks⟩ ⟨PRE.blind, va_recv hK hP hc ha, PRE.of hK hA hE hP hD hS⟩ rfl rfl hl.1 rfl (lv_room hcat) d hkn) hS (fun q _ hq => hF q hq) hF (fun r1 u t H1 locs1 ht hvm hw hB hz1 hk1 hS1 => ?_)
  obtain ⟨rfl, rfl⟩ := hw
  obtain ⟨hP1, hK1, hD1⟩ := hB
  rw [ht] at hP1
  exact kk H1 locs1 ls hP1 (hD1.weaken (fun _ _ _ hq => hF _ hq)) hS1 hl
theorem g_Si {ty : FieldType} {r : Int32} {fr lo : Nat} (O : Ok l D cy X cc own nL R) (d : Dc cc pc (.invokestatic ix) 3 pc') (hM : CtI l D cy wf y bytes maxL ty fr lo As h r h1) (kc : Cond.code y bytes maxL (some ty) ∈ TW) (kin : Cond.initialized y.cls ∈ TW) (kl : Cond.methodLink own ix y ∈ TW) (ki : Cond.static y ∈ TW) (hd : y.cls ≠ "java/lang/invoke/MethodHandle" ∧ y.cls ≠ "java/lang/invoke/VarHandle" ∧ (parseMethodDescriptor y.desc).map (fun d => d.parameters.length) = some As.length) (hR : fr + 1 ≤ R.frames ∧ 8 + (maxL + 11) + lo ≤ R.locals) (hkn : k ≤ R.cells ∧ n ≤ R.slots) (hst : st0 = As.reverse ++ st) (hcat : (st.map fun v => v.category).sum ≤ 8) (kk : G l D X nL wf k n h1 pc' lv (.int r :: st)) : G l D X nL wf k n h pc lv st0 := by
  obtain ⟨p, e, R', s, m, args, below, meth, c, Q, A⟩ := X
  obtain ⟨rfl, hx, hb, hml, hown, hts, hK, hA, hlk, hE⟩ := O
  obtain ⟨d, rfl⟩ := d
  subst hst
  intro H locs ls hP hD hS hl
  have hF := A_in hD hS hA
  refine va_calli (va_runS (As := As) (rest := st) ⟨hx, hb, hml, hown, hts⟩ (hM H.size) ⟨cbOf hts kc kin kl hd hR, hts _ ki⟩ ⟨PRE.blind, PRE.of hK hA hE hP hD hS⟩ rfl rfl hl.1 rfl (lv_room hcat) d hkn) hS (fun q _ hq => hF q hq) hF (fun r1 u t H1 locs1 ht hvm hw hB hz1 hk1 hS1 => ?_)
  obtain ⟨rfl, rfl⟩ := hw
  obtain ⟨hP1, hK1, hD1⟩ := hB
  rw [ht] at hP1
  exact kk H1 locs1 ls hP1 (hD1.weaken (fun _ _ _ hq => hF _ hq)) hS1 hl
theorem g_Vl {r : Int64} {fr lo : Nat} (O : Ok l D cy X cc own nL R) (d : Dc cc pc (.invokevirtual ix) 3 pc') (hM : CtL l D cy wf y bytes maxL fr lo (.ref b :: As) h r h1) (kc : Cond.code y bytes maxL (some .long) ∈ TW) (kin : Cond.initialized y.cls ∈ TW) (kl : Cond.methodLink own ix y ∈ TW) (ki : Cond.instanceMethod y ∈ TW) (ks : Cond.selects y.cls y y ∈ TW) (hc : vwCl[ci]? = some (y.cls, T, N)) (ha : (wf h)[q0]? = some (b, .inr (ci, fs))) (hd : y.cls ≠ "java/lang/invoke/MethodHandle" ∧ y.cls ≠ "java/lang/invoke/VarHandle" ∧ (parseMethodDescriptor y.desc).map (fun d => d.parameters.length) = some As.length) (hR : fr + 1 ≤ R.frames ∧ 8 + (maxL + 11) + lo ≤ R.locals) (hkn : k ≤ R.cells ∧ n ≤ R.slots) (hst : st0 = As.reverse ++ .ref b :: st) (hcat : (st.map fun v => v.category).sum ≤ 8) (kk : G l D X nL wf k n h1 pc' lv (.long r :: st)) : G l D X nL wf k n h pc lv st0 := by
  obtain ⟨p, e, R', s, m, args, below, meth, c, Q, A⟩ := X
  obtain ⟨rfl, hx, hb, hml, hown, hts, hK, hA, hlk, hE⟩ := O
  obtain ⟨d, rfl⟩ := d
  subst hst
  intro H locs ls hP hD hS hl
  have hF := A_in hD hS hA
  refine va_calll (va_runV (As := As) (rest := st) (C := y.cls) ⟨hx, hb, hml, hown, hts⟩ (hM H.size) ⟨cbOf hts kc kin kl hd hR, hts _ ki, hts _ ks⟩ ⟨PRE.blind, va_recv hK hP hc ha, PRE.of hK hA hE hP hD hS⟩ rfl rfl hl.1 rfl (lv_room hcat) d hkn) hS (fun q _ hq => hF q hq) hF (fun r1 u t H1 locs1 ht hvm hw hB hz1 hk1 hS1 => ?_)
  obtain ⟨rfl, rfl⟩ := hw
  obtain ⟨hP1, hK1, hD1⟩ := hB
  rw [ht] at hP1
  exact kk H1 locs1 ls hP1 (hD1.weaken (fun _ _ _ hq => hF _ hq)) hS1 hl
theorem g_Sl {r : Int64} {fr lo : Nat} (O : Ok l D cy X cc own nL R) (d : Dc cc pc (.invokestatic ix) 3 pc') (hM : CtL l D cy wf y bytes maxL fr lo As h r h1) (kc : Cond.code y bytes maxL (some .long) ∈ TW) (kin : Cond.initialized y.cls ∈ TW) (kl : Cond.methodLink own ix y ∈ TW) (ki : Cond.static y ∈ TW) (hd : y.cls ≠ "java/lang/invoke/MethodHandle" ∧ y.cls ≠ "java/lang/invoke/VarHandle" ∧ (parseMethodDescriptor y.desc).map (fun d => d.parameters.length) = some As.length) (hR : fr + 1 ≤ R.frames ∧ 8 + (maxL + 11) + lo ≤ R.locals) (hkn : k ≤ R.cells ∧ n ≤ R.slots) (hst : st0 = As.reverse ++ st) (hcat : (st.map fun v => v.category).sum ≤ 8) (kk : G l D X nL wf k n h1 pc' lv (.long r :: st)) : G l D X nL wf k n h pc lv st0 := by
  obtain ⟨p, e, R', s, m, args, below, meth, c, Q, A⟩ := X
  obtain ⟨rfl, hx, hb, hml, hown, hts, hK, hA, hlk, hE⟩ := O
  obtain ⟨d, rfl⟩ := d
  subst hst
  intro H locs ls hP hD hS hl
  have hF := A_in hD hS hA
  refine va_calll (va_runS (As := As) (rest := st) ⟨hx, hb, hml, hown, hts⟩ (hM H.size) ⟨cbOf hts kc kin kl hd hR, hts _ ki⟩ ⟨PRE.blind, PRE.of hK hA hE hP hD hS⟩ rfl rfl hl.1 rfl (lv_room hcat) d hkn) hS (fun q _ hq => hF q hq) hF (fun r1 u t H1 locs1 ht hvm hw hB hz1 hk1 hS1 => ?_)
  obtain ⟨rfl, rfl⟩ := hw
  obtain ⟨hP1, hK1, hD1⟩ := hB
  rw [ht] at hP1
  exact kk H1 locs1 ls hP1 (hD1.weaken (fun _ _ _ hq => hF _ hq)) hS1 hl
theorem g_Vv {fr lo : Nat} (O : Ok l D cy X cc own nL R) (d : Dc cc pc (.invokevirtual ix) 3 pc') (hM : CtV l D cy wf y bytes maxL fr lo (.ref b :: As) h h1) (kc : Cond.code y bytes maxL (none) ∈ TW) (kin : Cond.initialized y.cls ∈ TW) (kl : Cond.methodLink own ix y ∈ TW) (ki : Cond.instanceMethod y ∈ TW) (ks : Cond.selects y.cls y y ∈ TW) (hc : vwCl[ci]? = some (y.cls, T, N)) (ha : (wf h)[q0]? = some (b, .inr (ci, fs))) (hd : y.cls ≠ "java/lang/invoke/MethodHandle" ∧ y.cls ≠ "java/lang/invoke/VarHandle" ∧ (parseMethodDescriptor y.desc).map (fun d => d.parameters.length) = some As.length) (hR : fr + 1 ≤ R.frames ∧ 8 + (maxL + 11) + lo ≤ R.locals) (hkn : k ≤ R.cells ∧ n ≤ R.slots) (hst : st0 = As.reverse ++ .ref b :: st) (hcat : (st.map fun v => v.category).sum ≤ 8) (kk : G l D X nL wf k n h1 pc' lv st) : G l D X nL wf k n h pc lv st0 := by
  obtain ⟨p, e, R', s, m, args, below, meth, c, Q, A⟩ := X
  obtain ⟨rfl, hx, hb, hml, hown, hts, hK, hA, hlk, hE⟩ := O
  obtain ⟨d, rfl⟩ := d
  subst hst
  intro H locs ls hP hD hS hl
  have hF := A_in hD hS hA
  refine va_callv (va_runV (As := As) (rest := st) (C := y.cls) ⟨hx, hb, hml, hown, hts⟩ (hM H.size) ⟨cbOf hts kc kin kl hd hR, hts _ ki, hts _ ks⟩ ⟨PRE.blind, va_recv hK hP hc ha, PRE.of hK hA hE hP hD hS⟩ rfl rfl hl.1 rfl (lv_room hcat) d hkn) hS (fun q _ hq => hF q hq) hF (fun u t H1 locs1 ht hvm hw hB hz1 hk1 hS1 => ?_)
  subst hw
  obtain ⟨hP1, hK1, hD1⟩ := hB
  rw [ht] at hP1
  exact kk H1 locs1 ls hP1 (hD1.weaken (fun _ _ _ hq => hF _ hq)) hS1 hl
theorem g_Sv {fr lo : Nat} (O : Ok l D cy X cc own nL R) (d : Dc cc pc (.invokestatic ix) 3 pc') (hM : CtV l D cy wf y bytes maxL fr lo As h h1) (kc : Cond.code y bytes maxL (none) ∈ TW) (kin : Cond.initialized y.cls ∈ TW) (kl : Cond.methodLink own ix y ∈ TW) (ki : Cond.static y ∈ TW) (hd : y.cls ≠ "java/lang/invoke/MethodHandle" ∧ y.cls ≠ "java/lang/invoke/VarHandle" ∧ (parseMethodDescriptor y.desc).map (fun d => d.parameters.length) = some As.length) (hR : fr + 1 ≤ R.frames ∧ 8 + (maxL + 11) + lo ≤ R.locals) (hkn : k ≤ R.cells ∧ n ≤ R.slots) (hst : st0 = As.reverse ++ st) (hcat : (st.map fun v => v.category).sum ≤ 8) (kk : G l D X nL wf k n h1 pc' lv st) : G l D X nL wf k n h pc lv st0 := by
  obtain ⟨p, e, R', s, m, args, below, meth, c, Q, A⟩ := X
  obtain ⟨rfl, hx, hb, hml, hown, hts, hK, hA, hlk, hE⟩ := O
  obtain ⟨d, rfl⟩ := d
  subst hst
  intro H locs ls hP hD hS hl
  have hF := A_in hD hS hA
  refine va_callv (va_runS (As := As) (rest := st) ⟨hx, hb, hml, hown, hts⟩ (hM H.size) ⟨cbOf hts kc kin kl hd hR, hts _ ki⟩ ⟨PRE.blind, PRE.of hK hA hE hP hD hS⟩ rfl rfl hl.1 rfl (lv_room hcat) d hkn) hS (fun q _ hq => hF q hq) hF (fun u t H1 locs1 ht hvm hw hB hz1 hk1 hS1 => ?_)
  subst hw
  obtain ⟨hP1, hK1, hD1⟩ := hB
  rw [ht] at hP1
  exact kk H1 locs1 ls hP1 (hD1.weaken (fun _ _ _ hq => hF _ hq)) hS1 hl
theorem g_mmax {x y : Int32} (O : Ok l D cy X cc own nL R) (d : Dc cc pc (.invokestatic ix) 3 pc') (kc : Cond.code Lib.Math.max.name Lib.Math.max.code 2 (some .int) ∈ TW) (ki : Cond.initialized "java/lang/Math" ∈ TW) (kl : Cond.methodLink own ix Lib.Math.max.name ∈ TW) (ks : Cond.static Lib.Math.max.name ∈ TW) (hf : 1 ≤ R.frames ∧ (st.map fun v => v.category).sum + 13 ≤ R.locals) (hkn : k ≤ R.cells ∧ n ≤ R.slots) (kk : G l D X nL wf k n h pc' lv (.int (imax x y) :: st)) : G l D X nL wf k n h pc lv (.int y :: .int x :: st) := by
  obtain ⟨p, e, R', s, m, args, below, meth, c, Q, A⟩ := X
  obtain ⟨rfl, hx, hb, hml, hown, hts, hK, hA, hlk, hE⟩ := O
  obtain ⟨d, rfl⟩ := d
  intro H locs ls hP hD hS hl
  exact va_mmax hx hb (hml.trans hl.1.symm) hown (hts _ kl) (hts _ ks) (hts _ ki) (hts _ kc) hf.1 hf.2 hkn.1 hkn.2 d (kk H locs ls hP hD hS hl)
theorem g_mmin {x y : Int32} (O : Ok l D cy X cc own nL R) (d : Dc cc pc (.invokestatic ix) 3 pc') (kc : Cond.code Lib.Math.min.name Lib.Math.min.code 2 (some .int) ∈ TW) (ki : Cond.initialized "java/lang/Math" ∈ TW) (kl : Cond.methodLink own ix Lib.Math.min.name ∈ TW) (ks : Cond.static Lib.Math.min.name ∈ TW) (hf : 1 ≤ R.frames ∧ (st.map fun v => v.category).sum + 13 ≤ R.locals) (hkn : k ≤ R.cells ∧ n ≤ R.slots) (kk : G l D X nL wf k n h pc' lv (.int (imin x y) :: st)) : G l D X nL wf k n h pc lv (.int y :: .int x :: st) := by
  obtain ⟨p, e, R', s, m, args, below, meth, c, Q, A⟩ := X
  obtain ⟨rfl, hx, hb, hml, hown, hts, hK, hA, hlk, hE⟩ := O
  obtain ⟨d, rfl⟩ := d
  intro H locs ls hP hD hS hl
  exact va_mmin hx hb (hml.trans hl.1.symm) hown (hts _ kl) (hts _ ks) (hts _ ki) (hts _ kc) hf.1 hf.2 hkn.1 hkn.2 d (kk H locs ls hP hD hS hl)
end CT
