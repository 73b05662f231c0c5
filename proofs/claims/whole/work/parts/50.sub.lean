/-! A CALL INTO A PART OF THE WORLD; methods with a table of their own (the law's helpers) -/
section SUB
variable {S T : Type}
def SUBW (wf : S → va_W) (wg : T → va_W) (h : S) (g : T) (put : T → S) : Prop := ∃ (isC isR pm : List Nat) (wr : va_W), isC.map (fun i => (wf h)[i]?) = (wg g).map some ∧ isC.filterMap (fun i => (wf h)[i]?) = wg g ∧ isR.map (fun i => (wf h)[i]?) = wr.map some ∧ va_nd isC = true ∧ va_nd isR = true ∧ (∀ i ∈ isR, i ∉ isC) ∧ va_nd pm = true ∧ ∀ g1, pm.map (fun i => (wr ++ wg g1)[i]?) = (wf (put g1)).map some ∧ pm.filterMap (fun i => (wr ++ wg g1)[i]?) = wf (put g1)
variable {l : Launch} {D : va_G} {cy : Nat → ClassId} {wf : S → va_W} {wg : T → va_W} {y : MethodName} {cc : ByteArray} {nL : Nat} {av : List Value} {h : S} {g g1 : T} {put : T → S}
theorem PRE.ofSub {s : State} {A : Nat → Prop} {H : Heap} {locs : List Loc} (hK : va_K D vwCl (TYS cy) s) (hA : ∀ q, s.heap.size ≤ q → A q) (hE : ENV A s s.heap) (hPc : va_P D vwCl (wg g) H) (hDc : va_D A (wg g)) (hF : ∀ q, va_A (wg g) H.size q → A q) (hS : va_S A s.heap H locs) : ∀ U : State, U.heap = H → s.WarmedH U.vm → va_Pc av (PRE D cy wg H.size g) av.toArray U := by
  intro U hU hW
  refine ⟨rfl, by rw [hU], by rw [hU]; exact hPc, va_K.moved hW.alike hK, hDc.weaken (fun _ _ _ _ => trivial), ?_⟩
  rw [hU]
  exact ((hE.kept (fun a ha hn => hS.2.1 a ha hn)).narrow hF).warm hW
variable {X : Cx} {own : String} {R : Room} {k n : Nat} {pc pc' : Nat} {lv : List (Nat × Value)} {st st0 : List Value} {bytes : ByteArray} {maxL ix : Nat} {As : List Value} {b q0 ci N : Nat} {C : String} {T0 : u_T} {fs : List Value}
theorem g_Ui {ty : FieldType} {r : Int32} {fr lo : Nat} (O : Ok l D cy X cc own nL R) (d : Dc cc pc (.invokevirtual ix) 3 pc') (sub : SUBW wf wg h g put) (hM : CtI l D cy wg y bytes maxL ty fr lo (.ref b :: As) g r g1) (kc : Cond.code y bytes maxL (some ty) ∈ TW) (kin : Cond.initialized y.cls ∈ TW) (kl : Cond.methodLink own ix y ∈ TW) (ki : Cond.instanceMethod y ∈ TW) (ks : Cond.selects y.cls y y ∈ TW) (hc : vwCl[ci]? = some (y.cls, T0, N)) (ha : (wf h)[q0]? = some (b, .inr (ci, fs))) (hd : y.cls ≠ "java/lang/invoke/MethodHandle" ∧ y.cls ≠ "java/lang/invoke/VarHandle" ∧ (parseMethodDescriptor y.desc).map (fun d => d.parameters.length) = some As.length) (hR : fr + 1 ≤ R.frames ∧ 8 + (maxL + 11) + lo ≤ R.locals) (hkn : k ≤ R.cells ∧ n ≤ R.slots) (hst : st0 = As.reverse ++ .ref b :: st) (hcat : (st.map fun v => v.category).sum ≤ 8) (kk : G l D X nL wf k n (put g1) pc' lv (.int r :: st)) : G l D X nL wf k n h pc lv st0 := by
  obtain ⟨p, e, R', s, m, args, below, meth, c, Q, A⟩ := X
  obtain ⟨rfl, hx, hb, hml, hown, hts, hK, hA, hlk, hE⟩ := O
  obtain ⟨d, rfl⟩ := d
  obtain ⟨isC, isR, pm, wr, s1, s2, s3, s4, s5, s6, s7, s8⟩ := sub
  subst hst
  intro H locs ls hP hD hS hl
  have hPc := hP.sub isC s2
  have hDc := hD.sub isC s4 s1
  have hF := va_free hD hS hA isC s1
  refine va_calli (va_runV (As := As) (rest := st) (C := y.cls) ⟨hx, hb, hml, hown, hts⟩ (hM H.size) ⟨cbOf hts kc kin kl hd hR, hts _ ki, hts _ ks⟩ ⟨PRE.blind, va_recv hK hP hc ha, PRE.ofSub hK hA hE hPc hDc hF hS⟩ rfl rfl hl.1 rfl (lv_room hcat) d hkn) hS (fun q _ hq => hF q hq) hF (fun r1 u t H1 locs1 ht hvm hw hB hz1 hk1 hS1 => ?_)
  obtain ⟨rfl, rfl⟩ := hw
  obtain ⟨hP1, hK1, hD1⟩ := hB
  rw [ht] at hP1
  obtain ⟨hP2, hD2⟩ := va_join hP hD isC isR s1 s3 s5 s6 hk1 hF hP1 hD1
  exact kk H1 locs1 ls (hP2.sub pm (s8 _).2) (hD2.sub pm s7 (s8 _).1) hS1 hl
theorem g_Ul {r : Int64} {fr lo : Nat} (O : Ok l D cy X cc own nL R) (d : Dc cc pc (.invokevirtual ix) 3 pc') (sub : SUBW wf wg h g put) (hM : CtL l D cy wg y bytes maxL fr lo (.ref b :: As) g r g1) (kc : Cond.code y bytes maxL (some .long) ∈ TW) (kin : Cond.initialized y.cls ∈ TW) (kl : Cond.methodLink own ix y ∈ TW) (ki : Cond.instanceMethod y ∈ TW) (ks : Cond.selects y.cls y y ∈ TW) (hc : vwCl[ci]? = some (y.cls, T0, N)) (ha : (wf h)[q0]? = some (b, .inr (ci, fs))) (hd : y.cls ≠ "java/lang/invoke/MethodHandle" ∧ y.cls ≠ "java/lang/invoke/VarHandle" ∧ (parseMethodDescriptor y.desc).map (fun d => d.parameters.length) = some As.length) (hR : fr + 1 ≤ R.frames ∧ 8 + (maxL + 11) + lo ≤ R.locals) (hkn : k ≤ R.cells ∧ n ≤ R.slots) (hst : st0 = As.reverse ++ .ref b :: st) (hcat : (st.map fun v => v.category).sum ≤ 8) (kk : G l D X nL wf k n (put g1) pc' lv (.long r :: st)) : G l D X nL wf k n h pc lv st0 := by
  obtain ⟨p, e, R', s, m, args, below, meth, c, Q, A⟩ := X
  obtain ⟨rfl, hx, hb, hml, hown, hts, hK, hA, hlk, hE⟩ := O
  obtain ⟨d, rfl⟩ := d
  obtain ⟨isC, isR, pm, wr, s1, s2, s3, s4, s5, s6, s7, s8⟩ := sub
  subst hst
  intro H locs ls hP hD hS hl
  have hPc := hP.sub isC s2
  have hDc := hD.sub isC s4 s1
  have hF := va_free hD hS hA isC s1
  refine va_calll (va_runV (As := As) (rest := st) (C := y.cls) ⟨hx, hb, hml, hown, hts⟩ (hM H.size) ⟨cbOf hts kc kin kl hd hR, hts _ ki, hts _ ks⟩ ⟨PRE.blind, va_recv hK hP hc ha, PRE.ofSub hK hA hE hPc hDc hF hS⟩ rfl rfl hl.1 rfl (lv_room hcat) d hkn) hS (fun q _ hq => hF q hq) hF (fun r1 u t H1 locs1 ht hvm hw hB hz1 hk1 hS1 => ?_)
  obtain ⟨rfl, rfl⟩ := hw
  obtain ⟨hP1, hK1, hD1⟩ := hB
  rw [ht] at hP1
  obtain ⟨hP2, hD2⟩ := va_join hP hD isC isR s1 s3 s5 s6 hk1 hF hP1 hD1
  exact kk H1 locs1 ls (hP2.sub pm (s8 _).2) (hD2.sub pm s7 (s8 _).1) hS1 hl
theorem g_Uv {fr lo : Nat} (O : Ok l D cy X cc own nL R) (d : Dc cc pc (.invokevirtual ix) 3 pc') (sub : SUBW wf wg h g put) (hM : CtV l D cy wg y bytes maxL fr lo (.ref b :: As) g g1) (kc : Cond.code y bytes maxL (none) ∈ TW) (kin : Cond.initialized y.cls ∈ TW) (kl : Cond.methodLink own ix y ∈ TW) (ki : Cond.instanceMethod y ∈ TW) (ks : Cond.selects y.cls y y ∈ TW) (hc : vwCl[ci]? = some (y.cls, T0, N)) (ha : (wf h)[q0]? = some (b, .inr (ci, fs))) (hd : y.cls ≠ "java/lang/invoke/MethodHandle" ∧ y.cls ≠ "java/lang/invoke/VarHandle" ∧ (parseMethodDescriptor y.desc).map (fun d => d.parameters.length) = some As.length) (hR : fr + 1 ≤ R.frames ∧ 8 + (maxL + 11) + lo ≤ R.locals) (hkn : k ≤ R.cells ∧ n ≤ R.slots) (hst : st0 = As.reverse ++ .ref b :: st) (hcat : (st.map fun v => v.category).sum ≤ 8) (kk : G l D X nL wf k n (put g1) pc' lv st) : G l D X nL wf k n h pc lv st0 := by
  obtain ⟨p, e, R', s, m, args, below, meth, c, Q, A⟩ := X
  obtain ⟨rfl, hx, hb, hml, hown, hts, hK, hA, hlk, hE⟩ := O
  obtain ⟨d, rfl⟩ := d
  obtain ⟨isC, isR, pm, wr, s1, s2, s3, s4, s5, s6, s7, s8⟩ := sub
  subst hst
  intro H locs ls hP hD hS hl
  have hPc := hP.sub isC s2
  have hDc := hD.sub isC s4 s1
  have hF := va_free hD hS hA isC s1
  refine va_callv (va_runV (As := As) (rest := st) (C := y.cls) ⟨hx, hb, hml, hown, hts⟩ (hM H.size) ⟨cbOf hts kc kin kl hd hR, hts _ ki, hts _ ks⟩ ⟨PRE.blind, va_recv hK hP hc ha, PRE.ofSub hK hA hE hPc hDc hF hS⟩ rfl rfl hl.1 rfl (lv_room hcat) d hkn) hS (fun q _ hq => hF q hq) hF (fun u t H1 locs1 ht hvm hw hB hz1 hk1 hS1 => ?_)
  subst hw
  obtain ⟨hP1, hK1, hD1⟩ := hB
  rw [ht] at hP1
  obtain ⟨hP2, hD2⟩ := va_join hP hD isC isR s1 s3 s5 s6 hk1 hF hP1 hD1
  exact kk H1 locs1 ls (hP2.sub pm (s8 _).2) (hD2.sub pm s7 (s8 _).1) hS1 hl
theorem g_UXi {ty : FieldType} {fr lo mc ms : Nat} {o2 : (String × T) ⊕ (Int32 × T)} (O : Ok l D cy X cc own nL R) (d : Dc cc pc (.invokevirtual ix) 3 pc') (sub : SUBW wf wg h g put) (hM : CtXI l D cy wg y bytes maxL ty fr lo mc ms (.ref b :: As) g o2) (kc : Cond.code y bytes maxL (some ty) ∈ TW) (kin : Cond.initialized y.cls ∈ TW) (kl : Cond.methodLink own ix y ∈ TW) (ki : Cond.instanceMethod y ∈ TW) (ks : Cond.selects y.cls y y ∈ TW) (hc : vwCl[ci]? = some (y.cls, T0, N)) (ha : (wf h)[q0]? = some (b, .inr (ci, fs))) (hd : y.cls ≠ "java/lang/invoke/MethodHandle" ∧ y.cls ≠ "java/lang/invoke/VarHandle" ∧ (parseMethodDescriptor y.desc).map (fun d => d.parameters.length) = some As.length) (hR : fr + 1 ≤ R.frames ∧ 8 + (maxL + 11) + lo ≤ R.locals) (hkn : k + mc ≤ R.cells ∧ n + ms ≤ R.slots) (hst : st0 = As.reverse ++ .ref b :: st) (hcat : (st.map fun v => v.category).sum ≤ 8) (kx : ∀ (E : String) (g1 : T), o2 = .inl (E, g1) → GX l D X nL wf (k + mc) (n + ms) (put g1) pc lv st E) (kk : ∀ a : Int32 × T, o2 = .inr a → G l D X nL wf (k + mc) (n + ms) (put a.2) pc' lv (.int a.1 :: st)) : G l D X nL wf k n h pc lv st0 := by
  obtain ⟨p, e, R', s, m, args, below, meth, c, Q, A⟩ := X
  obtain ⟨rfl, hx, hb, hml, hown, hts, hK, hA, hlk, hE⟩ := O
  obtain ⟨d, rfl⟩ := d
  obtain ⟨isC, isR, pm, wr, s1, s2, s3, s4, s5, s6, s7, s8⟩ := sub
  subst hst
  intro H locs ls hP hD hS hl
  have hPc := hP.sub isC s2
  have hDc := hD.sub isC s4 s1
  have hF := va_free hD hS hA isC s1
  refine vx_calli (vx_runV (As := As) (rest := st) (C := y.cls) ⟨hx, hb, hml, hown, hts⟩ (hM H.size) ⟨cbOx hts kc kin kl hd hR, hts _ ki, hts _ ks⟩ ⟨PRE.blind, va_recv hK hP hc ha, PRE.ofSub hK hA hE hPc hDc hF hS⟩ rfl rfl hl.1 rfl (lv_room hcat) d hkn) hS (fun q _ hq => hF q hq) hF (fun q _ hq => hF q hq) (fun E ce q9 u t H1 locs1 ht hvm hpx hB hz1 hk1 hS1 hce hvn hcl => ?_) (fun r1 u t H1 locs1 ht hvm hw hB hz1 hk1 hS1 => ?_)
  · obtain ⟨E1, h1⟩ := u
    obtain ⟨rfl, hP1, hK1, hD1⟩ := hB
    rw [ht] at hP1
    obtain ⟨hP2, hD2⟩ := va_join hP hD isC isR s1 s3 s5 s6 hk1 hF hP1 hD1
    exact kx _ h1 hpx H1 locs1 ls ce q9 (hP2.sub pm (s8 _).2) (hD2.sub pm s7 (s8 _).1) hS1 hl hce hvn hcl
  · obtain ⟨hP1, hK1, hD1⟩ := hB
    rw [ht] at hP1
    obtain ⟨hP2, hD2⟩ := va_join hP hD isC isR s1 s3 s5 s6 hk1 hF hP1 hD1
    exact kk (r1, u) hw H1 locs1 ls (hP2.sub pm (s8 _).2) (hD2.sub pm s7 (s8 _).1) hS1 hl
theorem g_UXl {fr lo mc ms : Nat} {o2 : (String × T) ⊕ (Int64 × T)} (O : Ok l D cy X cc own nL R) (d : Dc cc pc (.invokevirtual ix) 3 pc') (sub : SUBW wf wg h g put) (hM : CtXL l D cy wg y bytes maxL fr lo mc ms (.ref b :: As) g o2) (kc : Cond.code y bytes maxL (some .long) ∈ TW) (kin : Cond.initialized y.cls ∈ TW) (kl : Cond.methodLink own ix y ∈ TW) (ki : Cond.instanceMethod y ∈ TW) (ks : Cond.selects y.cls y y ∈ TW) (hc : vwCl[ci]? = some (y.cls, T0, N)) (ha : (wf h)[q0]? = some (b, .inr (ci, fs))) (hd : y.cls ≠ "java/lang/invoke/MethodHandle" ∧ y.cls ≠ "java/lang/invoke/VarHandle" ∧ (parseMethodDescriptor y.desc).map (fun d => d.parameters.length) = some As.length) (hR : fr + 1 ≤ R.frames ∧ 8 + (maxL + 11) + lo ≤ R.locals) (hkn : k + mc ≤ R.cells ∧ n + ms ≤ R.slots) (hst : st0 = As.reverse ++ .ref b :: st) (hcat : (st.map fun v => v.category).sum ≤ 8) (kx : ∀ (E : String) (g1 : T), o2 = .inl (E, g1) → GX l D X nL wf (k + mc) (n + ms) (put g1) pc lv st E) (kk : ∀ a : Int64 × T, o2 = .inr a → G l D X nL wf (k + mc) (n + ms) (put a.2) pc' lv (.long a.1 :: st)) : G l D X nL wf k n h pc lv st0 := by
  obtain ⟨p, e, R', s, m, args, below, meth, c, Q, A⟩ := X
  obtain ⟨rfl, hx, hb, hml, hown, hts, hK, hA, hlk, hE⟩ := O
  obtain ⟨d, rfl⟩ := d
  obtain ⟨isC, isR, pm, wr, s1, s2, s3, s4, s5, s6, s7, s8⟩ := sub
  subst hst
  intro H locs ls hP hD hS hl
  have hPc := hP.sub isC s2
  have hDc := hD.sub isC s4 s1
  have hF := va_free hD hS hA isC s1
  refine vx_calll (vx_runV (As := As) (rest := st) (C := y.cls) ⟨hx, hb, hml, hown, hts⟩ (hM H.size) ⟨cbOx hts kc kin kl hd hR, hts _ ki, hts _ ks⟩ ⟨PRE.blind, va_recv hK hP hc ha, PRE.ofSub hK hA hE hPc hDc hF hS⟩ rfl rfl hl.1 rfl (lv_room hcat) d hkn) hS (fun q _ hq => hF q hq) hF (fun q _ hq => hF q hq) (fun E ce q9 u t H1 locs1 ht hvm hpx hB hz1 hk1 hS1 hce hvn hcl => ?_) (fun r1 u t H1 locs1 ht hvm hw hB hz1 hk1 hS1 => ?_)
  · obtain ⟨E1, h1⟩ := u
    obtain ⟨rfl, hP1, hK1, hD1⟩ := hB
    rw [ht] at hP1
    obtain ⟨hP2, hD2⟩ := va_join hP hD isC isR s1 s3 s5 s6 hk1 hF hP1 hD1
    exact kx _ h1 hpx H1 locs1 ls ce q9 (hP2.sub pm (s8 _).2) (hD2.sub pm s7 (s8 _).1) hS1 hl hce hvn hcl
  · obtain ⟨hP1, hK1, hD1⟩ := hB
    rw [ht] at hP1
    obtain ⟨hP2, hD2⟩ := va_join hP hD isC isR s1 s3 s5 s6 hk1 hF hP1 hD1
    exact kk (r1, u) hw H1 locs1 ls (hP2.sub pm (s8 _).2) (hD2.sub pm s7 (s8 _).1) hS1 hl
end SUB
/-- the pairs of classes that a catch tells apart -/
def NCP : List (String × String) := [("java/lang/IllegalArgumentException", "java/lang/IndexOutOfBoundsException"), ("java/lang/IllegalStateException", "java/lang/IndexOutOfBoundsException"), ("java/lang/IllegalStateException", "java/lang/IllegalArgumentException")]
def PRH {S : Type} (D : va_G) (cy : Nat → ClassId) (wf : S → va_W) (sz : Nat) (h : S) (U : State) : Prop := PRE D cy wf sz h U ∧ ∀ q ∈ NCP, va_Nc q.1 q.2 U
def CtH {S : Type} (l : Launch) (D : va_G) (cy : Nat → ClassId) (wf : S → va_W) (y : MethodName) (cc : ByteArray) (nL : Nat) (hh : List (Nat × Nat × Nat × Nat)) (fr lo mc ms : Nat) (av : List Value) (h : S) (r : Int32) (h1 : S) : Prop := ∀ sz : Nat, vx_Met l y (Cond.codeWith y cc nL (some .int) hh :: TW) (RMx fr lo mc ms) (va_Pc av (PRH D cy wf sz h)) (va_Qi (fun x u => x = r ∧ u = h1) (PST D cy wf (va_A (wf h) sz)) (va_A (wf h) sz)) (vx_X (fun _ : Unit => False) (fun _ _ _ => True) (va_A (wf h) sz)) mc ms (va_A (wf h) sz)
/-- what the walk of a helper knows besides -/
def TB (X : Cx) (tb : List ExceptionTableEntry) : Prop := match X with
  | (_, _, _, _, _, _, _, _, c, _, _) => c.exceptionTable.toList = tb
def NCX (X : Cx) : Prop := match X with
  | (_, _, _, s, _, _, _, _, _, _, _) => ∀ q ∈ NCP, va_Nc q.1 q.2 s
section HLP
variable {S : Type} {l : Launch} {D : va_G} {cy : Nat → ClassId} {wf : S → va_W} {y : MethodName} {cc : ByteArray} {nL fr lo mc ms : Nat} {hh : List (Nat × Nat × Nat × Nat)} {av : List Value} {h h1 : S}
theorem PRH.blind {sz : Nat} : FrameBlind (va_Pc av (PRH D cy wf sz h)) := by
  intro a U g mk q
  obtain ⟨q0, q1, q2⟩ := q
  exact ⟨q0, (PRE.blind (av := av) a U g mk ⟨q0, q1⟩).2, fun z hz => (q2 z hz).moved (u := U) (U := U.calling g mk a) (Vm.Alike.refl U.vm)⟩
theorem sH {own : String} {r : Int32} (hy : plainName y.cls = true) (ho : y.cls = own) (hlen : (lg_sl av).length ≤ nL)
    (body : ∀ X : Cx, Ok l D cy X cc own nL (RMx fr lo mc ms) → TB X (tableOf hh) → NCX X → (∀ (pc pc' : Nat) (lv : List (Nat × Value)) (k n : Nat), k ≤ mc → n ≤ ms → Dc cc pc .ireturn 1 pc' → G l D X nL wf k n h1 pc lv [.int r]) → G l D X nL wf 0 0 h 0 (lv_args 0 av) []) : CtH l D cy wf y cc nL hh fr lo mc ms av h r h1 := by
  intro sz
  refine vx_ofWH (cc := cc) (maxL := nL) (ret := some .int) (hh := hh) hy rfl ?_
  intro p e s m args below meth c s₁ B hml hv
  obtain ⟨rfl, ⟨hsz, hP, hK, hD0, hE⟩, hN⟩ := hv
  have hts := atoms_spec (ws := Cond.codeWith y cc nL (some .int) hh :: TW) B.pre
  have htb := vx_table (x := y) B (hts _ List.mem_cons_self)
  subst hsz
  have hD := hD0.self (sz := s.heap.size)
  have hA : ∀ q : Nat, s.heap.size ≤ q → va_A (wf h) s.heap.size q := fun q hq => Or.inr hq
  have hl := lv_entry av (n := nL) hlen
  rw [lg_entry_eq]
  refine body (p, e, RMx fr lo mc ms, s, m, av.toArray, below, meth, c, vx_MQ below (va_Qi (fun x u => x = r ∧ u = h1) (PST D cy wf (va_A (wf h) s.heap.size)) (va_A (wf h) s.heap.size)) (vx_X (fun _ : Unit => False) (fun _ _ _ => True) (va_A (wf h) s.heap.size)) av.toArray s mc ms (va_A (wf h) s.heap.size), va_A (wf h) s.heap.size) ⟨rfl, B.exec, B.bytes, hml, ho ▸ findClass_of_methodNamed B.named, fun w hw => hts w (List.mem_cons_of_mem _ hw), hK, hA, B.notSynchronized, hE⟩ htb hN ?_ s.heap [] _ hP hD va_S.rf hl
  intro pc pc' lv k n hk hn9 d H locs ls hP hD hS hl
  refine W.widen hk hn9 (vx_ret ?_)
  exact W.iret B.exec B.bytes B.returns (fun t ht hW => ⟨⟨r, h1, rfl, ⟨rfl, rfl⟩, by rw [ht]; exact hP, va_K.moved hW.alike hK, hD⟩, hS.F ht⟩) hS.2.2 d.1 B.notSynchronized
variable {X : Cx} {own : String} {R : Room} {k n : Nat} {pc pc' : Nat} {lv : List (Nat × Value)} {st st0 : List Value} {bytes : ByteArray} {maxL ix : Nat} {As : List Value}
theorem gUw {y : MethodName} {cc : ByteArray} {n : Nat} {r : Option FieldType} {hh : List (Nat × Nat × Nat × Nat)} (hk : Cond.codeWith y cc n r hh ∈ TW) (kl : Cond.methodLink own ix y ∈ TW) (ks : Cond.static y ∈ TW) (ki : Cond.initialized y.cls ∈ TW) : GoodIn TW (va_wsS own ix y (Cond.codeWith y cc n r hh :: TW)) := by
  intro w hw
  have g : w ∈ TW := by
    unfold va_wsS at hw
    simp only [List.mem_append, List.mem_cons, List.not_mem_nil, or_false] at hw
    rcases hw with hw | hw
    · rcases hw with rfl | rfl | rfl <;> assumption
    · rcases hw with rfl | hw <;> assumption
  exact ⟨g, good_of_word (tw_good g)⟩
theorem g_H {fr lo mc ms : Nat} {r : Int32} (O : Ok l D cy X cc own nL R) (hN : NCX X) (d : Dc cc pc (.invokestatic ix) 3 pc') (hM : CtH l D cy wf y bytes maxL hh fr lo mc ms As h r h1) (kc : Cond.codeWith y bytes maxL (some .int) hh ∈ TW) (kin : Cond.initialized y.cls ∈ TW) (kl : Cond.methodLink own ix y ∈ TW) (ki : Cond.static y ∈ TW) (hd : y.cls ≠ "java/lang/invoke/MethodHandle" ∧ y.cls ≠ "java/lang/invoke/VarHandle" ∧ (parseMethodDescriptor y.desc).map (fun d => d.parameters.length) = some As.length) (hR : fr + 1 ≤ R.frames ∧ 8 + (maxL + 11) + lo ≤ R.locals) (hkn : k + mc ≤ R.cells ∧ n + ms ≤ R.slots) (hst : st0 = As.reverse ++ st) (hcat : (st.map fun v => v.category).sum ≤ 8) (kk : G l D X nL wf (k + mc) (n + ms) h1 pc' lv (.int r :: st)) : G l D X nL wf k n h pc lv st0 := by
  obtain ⟨p, e, R', s, m, args, below, meth, c, Q, A⟩ := X
  obtain ⟨rfl, hx, hb, hml, hown, hts, hK, hA, hlk, hE⟩ := O
  obtain ⟨d, rfl⟩ := d
  subst hst
  intro H locs ls hP hD hS hl
  have hF := A_in hD hS hA
  refine vx_calli (vx_runSX (As := As) (rest := st) ⟨hx, hb, hml, hown, hts⟩ (hM H.size) (vx_cwSW As.length hts (gUw kc kl ki kin) rfl rfl rfl hd hR) ⟨PRH.blind, fun U hU hW => ⟨rfl, (PRE.of (av := As) hK hA hE hP hD hS U hU hW).2, fun z hz => (hN z hz).moved hW.alike⟩⟩ rfl rfl hl.1 rfl (lv_room hcat) d hkn) hS (fun q _ hq => hF q hq) hF (fun q _ hq => hF q hq) (fun E ce q9 u t H1 locs1 ht hvm hpx => hpx.elim) (fun r1 u t H1 locs1 ht hvm hw hB hz1 hk1 hS1 => ?_)
  obtain ⟨rfl, rfl⟩ := hw
  obtain ⟨hP1, hK1, hD1⟩ := hB
  rw [ht] at hP1
  exact kk H1 locs1 ls hP1 (hD1.weaken (fun _ _ _ hq => hF _ hq)) hS1 hl
/-- caught by the row z of the table, the rows ahead name classes that it is none of -/
theorem g_catch {pre suf : List ExceptionTableEntry} {z : ExceptionTableEntry} {E : String} (O : Ok l D cy X cc own nL R) (hN : NCX X) (hT : TB X (pre ++ z :: suf)) (hpass : ∀ z' ∈ pre, z'.catchType ≠ 0 ∧ ∃ nm : String, Cond.classLink own z'.catchType nm ∈ TW ∧ (E, nm) ∈ NCP) (hcov : covers z pc = true) (h0 : z.catchType ≠ 0) (kl : Cond.classLink own z.catchType E ∈ TW) (kca : Cond.castable E E ∈ STW) (kk : ∀ q : Nat, G l D X nL wf k n h z.handlerPc lv [.ref q]) : GX l D X nL wf k n h pc lv st E := by
  obtain ⟨p, e, R', s, m, args, below, meth, c, Q, A⟩ := X
  obtain ⟨rfl, hx, hb, hml, hown, hts, hK, hA, hlk, hE⟩ := O
  intro H locs ls ce q hP hD hS hl hce hvn hcl
  exact vx_catch hown pre z suf hT (fun z' hz => Or.inr ⟨(hpass z' hz).1, (hpass z' hz).2.choose, hts _ (hpass z' hz).2.choose_spec.1, hN _ (hpass z' hz).2.choose_spec.2⟩) hcov h0 (hts _ kl) (va_Nw.use (st_tab kca) (hE.2.2.2.2.2.2.2 _ kca)) hce hvn hcl (kk q H locs ls hP hD hS hl)
end HLP
/-- the law's world: the class, the reference, the row for answers -/
abbrev LWS : Type := Hp × Hp × (Nat → Int64)
def LW (ad : Nat → Nat) (cy : Nat → ClassId) (s : LWS) : va_W := WC ad cy s.1 ++ (WM (fun k => ad (35 + k)) cy s.2.1 ++ [(ad 54, .inl (cy 1, 1, .inr (.inl s.2.2)))])
def setC (s : LWS) (c : Hp) : LWS := (c, s.2)
def setM (s : LWS) (m : Hp) : LWS := (s.1, m, s.2.2)
def setO (s : LWS) (i : Int32) (v : Int64) : LWS := (s.1, s.2.1, vp_updL s.2.2 i.toNatClampNeg v)
set_option maxRecDepth 20000 in
theorem subC (ad : Nat → Nat) (cy : Nat → ClassId) (s : LWS) : SUBW (LW ad cy) (WC ad cy) s s.1 (setC s) :=
  ⟨List.range 35, (List.range 20).map (fun i => 35 + i), (List.range 35).map (fun i => 20 + i) ++ List.range 20, WM (fun k => ad (35 + k)) cy s.2.1 ++ [(ad 54, .inl (cy 1, 1, .inr (.inl s.2.2)))], rfl, rfl, rfl, by decide +kernel, by decide +kernel, by decide +kernel, by decide +kernel, fun g1 => ⟨rfl, rfl⟩⟩
set_option maxRecDepth 20000 in
theorem subM (ad : Nat → Nat) (cy : Nat → ClassId) (s : LWS) : SUBW (LW ad cy) (WM (fun k => ad (35 + k)) cy) s s.2.1 (setM s) :=
  ⟨(List.range 19).map (fun i => 35 + i), List.range 35 ++ [54], List.range 35 ++ (List.range 19).map (fun i => 36 + i) ++ [35], WC ad cy s.1 ++ [(ad 54, .inl (cy 1, 1, .inr (.inl s.2.2)))], rfl, rfl, rfl, by decide +kernel, by decide +kernel, by decide +kernel, by decide +kernel, fun g1 => ⟨rfl, rfl⟩⟩
theorem wL_0 (ad : Nat → Nat) (cy : Nat → ClassId) (s : LWS) : (LW ad cy s)[0]? = some (ad 0, .inr (9, [.ref (ad 1), .ref (ad 6), .ref (ad 11), .ref (ad 13), .ref (ad 18), .ref (ad 20), .ref (ad 23), .ref (ad 28), .ref (ad 32)])) := rfl
theorem wL_54 (ad : Nat → Nat) (cy : Nat → ClassId) (s : LWS) : (LW ad cy s)[54]? = some (ad 54, .inl (cy 1, 1, .inr (.inl s.2.2))) := rfl
theorem vL_54 (ad : Nat → Nat) (cy : Nat → ClassId) (s : LWS) (f : Nat → Int64) : (LW ad cy s).set 54 (ad 54, .inl (cy 1, 1, .inr (.inl f))) = LW ad cy (s.1, s.2.1, f) := rfl
def hcatch {α β : Type} (x : Option ((String × Hp) ⊕ α)) (j : String → Hp → Option β) (k : α → Option β) : Option β := match x with
  | none => none
  | some (.inl e) => j e.1 e.2
  | some (.inr a) => k a
theorem hcatch_of {α β : Type} {x : Option ((String × Hp) ⊕ α)} {j : String → Hp → Option β} {k : α → Option β} {o : β} (h : hcatch x j k = some o) : ∃ z, x = some z ∧ (∀ E h, z = .inl (E, h) → j E h = some o) ∧ (∀ a, z = .inr a → k a = some o) := by
  match x, h with
  | none, h => cases h
  | some (.inl e), h => exact ⟨_, rfl, fun E h1 q => (by cases q; exact h), fun a q => (by cases q)⟩
  | some (.inr a), h => exact ⟨_, rfl, fun E h1 q => (by cases q), fun a q => (by cases q; exact h)⟩
