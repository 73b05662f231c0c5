/-! A CALL INTO A PART OF THE WORLD; methods with a table of their own (the law's helpers) -/
section SUB
variable {S T : Type}
def SUBW (wf : S → va_W) (wg : T → va_W) (h : S) (g : T) (put : T → S) : Prop := ∃ (isC isR pm : List Nat) (wr : va_W), isC.map (fun i => (wf h)[i]?) = (wg g).map some ∧ isC.filterMap (fun i => (wf h)[i]?) = wg g ∧ isR.map (fun i => (wf h)[i]?) = wr.map some ∧ va_nd isC = true ∧ va_nd isR = true ∧ (∀ i ∈ isR, i ∉ isC) ∧ va_nd pm = true ∧ ∀ g1, pm.map (fun i => (wr ++ wg g1)[i]?) = (wf (put g1)).map some ∧ pm.filterMap (fun i => (wr ++ wg g1)[i]?) = wf (put g1)
variable {l : Launch} {D : va_G} {cy : Nat → ClassId} {wf : S → va_W} {wg : T → va_W} {y : MethodName} {cc : ByteArray} {nL : Nat} {av : List Value} {h : S} {g g1 : T} {put : T → S}
theorem PRE.ofSub {s : State} {A : Nat → Prop} {H : Heap} {locs : List Loc} (hK : va_K D vwCl (TYS cy) s) (hA : ∀ q, s.heap.size ≤ q → A q) (hE : ENV A s s.heap) (hPc : va_P D vwCl (wg g) H) (hDc : va_D A (wg g)) (hF : ∀ q, va_A (wg g) H.size q → A q) (hS : va_S A s.heap H locs) : ∀ U : State, U.heap = H → s.WarmedH U.vm → va_Pc av (PRE D cy wg H.size g) av.toArray U := by
  intro U hU hW
  refine ⟨rfl, by rw [hU], by rw [hU]; exact hPc, va_K.moved hW.alike hK, hDc.weaken (fun _ _ _ _ => trivial), ?_⟩
  rw [hU]
  exact ((hE.kept (fun a ha hn => hS.2.1 a ha hn)).narrow hF).warm hW
variable {X : Cx} {own : String} {R : Room} {k n : Nat} {pc pc' : Nat} {lv : List (Nat × Value)} {st st0 : List Value} {bytes : ByteArray} {maxL ix : Nat} {As : List Value} {b q0 ci N : Nat} {C : String} {T0 : u_T} {fs : List Value}
theorem g_Ui {ty : FieldType} {r : Int32} {fr lo : Nat} (O : Ok l D cy X cc own nL R) (d : Dc cc pc (.invokevirtual ix) 3 pc') (sub : SUBW wf wg h g put) (hM : CtI l D cy wg y bytes maxL ty fr lo (.ref b :: As) g r g1) (kc : Cond.code y bytes maxL (some ty) ∈ TW) (kin : Cond.initialized y.cls ∈ TW) (kl : Cond.methodLink own ix y ∈ TW) (ki : Cond.instanceMethod y ∈ TW) (ks : Cond.selects y.cls y y ∈ TW) (hc : vwCl[ci]? = some (y.cls, T0, N)) (ha : (wf h)[q0]? = some (b, .inr (ci, fs))) (hd : y.cls ≠ "java/lang/invoke/MethodHandle" ∧ y.cls ≠ "java/lang/invoke/VarHandle" ∧ (parseMethodDescriptor y.desc).map (fun d => d.parameters.length) = some As.length) (hR : fr + 1 ≤ R.frames ∧ 8 + (maxL + 11) + lo ≤ R.locals) (hkn : k ≤ R.cells ∧ n ≤ R.slots) (hst : st0 = As.reverse ++ .ref b :: st) (hcat : (st.map fun v => v.category).sum ≤ 8) (kk : G l D X nL wf k n (put g1) pc' lv (.int r :: st)) : G l D X nL wf k n h pc lv st0 := by
  obtain ⟨p, e, R', s, m, args, below, meth, c, Q, A⟩ := X
  obtain ⟨rfl, hx, hb, hml, hown, hts, hK, hA, hlk, hE⟩ := O
  obtain ⟨d, rfl⟩ := d
  obtain ⟨isC, isR, pm, wr, s1, s2, s3, s4, s5, s6, s7, s8⟩ := sub
  subst hst
  intro H locs ls hP hD hS hl
  have hPc := hP.sub isC s2
  have hDc := hD.sub isC s4 s1
  have hF := va_free hD hS hA isC s1
  refine va_calli (va_runV (As := As) (rest := st) (C := y.cls) ⟨hx, hb, hml, hown, hts⟩ (hM H.size) ⟨cbOf hts kc kin kl hd hR, hts _ ki, hts _ ks⟩ ⟨PRE.blind, va_recv hK hP hc ha, PRE.ofSub hK hA hE hPc hDc hF hS⟩ rfl rfl hl.1 rfl (lv_room hcat) d hkn) hS (fun q _ hq => hF q hq) hF (fun r1 u t H1 locs1 ht hvm hw hB hz1 hk1 hS1 => ?_)
  obtain ⟨rfl, rfl⟩ := hw
  obtain ⟨hP1, hK1, hD1⟩ := hB
  rw [ht] at hP1
  obtain ⟨hP2, hD2⟩ := va_join hP hD isC isR s1 s3 s5 s6 hk1 hF hP1 hD1
  exact kk H1 locs1 ls (hP2.sub pm (s8 _).2) (hD2.sub pm s7 (s8 _).1) hS1 hl
theorem g_Ul {r : Int64} {fr lo : Nat} (O : Ok l D cy X cc own nL R) (d : Dc cc pc (.invokevirtual ix) 3 pc') (sub : SUBW wf wg h g put) (hM : CtL l D cy wg y bytes maxL fr lo (.ref b :: As) g r g1) (kc : Cond.code y bytes maxL (some .long) ∈ TW) (kin : Cond.initialized y.cls ∈ TW) (kl : Cond.methodLink own ix y ∈ TW) (ki : Cond.instanceMethod y ∈ TW) (ks : Cond.selects y.cls y y ∈ TW) (hc : vwCl[ci]? = some (y.cls, T0, N)) (ha : (wf h)[q0]? = some (b, .inr (ci, fs))) (hd : y.cls ≠ "java/lang/invoke/MethodHandle" ∧ y.cls ≠ "java/lang/invoke/VarHandle" ∧ (parseMethodDescriptor y.desc).map (fun d => d.parameters.length) = some As.length) (hR : fr + 1 ≤ R.frames ∧ 8 + (maxL + 11) + lo ≤ R.locals) (hkn : k ≤ R.cells ∧ n ≤ R.slots) (hst : st0 = As.reverse ++ .ref b :: st) (hcat : (st.map fun v => v.category).sum ≤ 8) (kk : G l D X nL wf k n (put g1) pc' lv (.long r :: st)) : G l D X nL wf k n h pc lv st0 := by
  obtain ⟨p, e, R', s, m, args, below, meth, c, Q, A⟩ := X
  obtain ⟨rfl, hx, hb, hml, hown, hts, hK, hA, hlk, hE⟩ := O
  obtain ⟨d, rfl⟩ := d
  obtain ⟨isC, isR, pm, wr, s1, s2, s3, s4, s5, s6, s7, s8⟩ := sub
  subst hst
  intro H locs ls hP hD hS hl
  have hPc := hP.sub isC s2
  have hDc := hD.sub isC s4 s1
  have hF := va_free hD hS hA isC s1
  refine va_calll (va_runV (As := As) (rest := st) (C := y.cls) ⟨hx, hb, hml, hown, hts⟩ (hM H.size) ⟨cbOf hts kc kin kl hd hR, hts _ ki, hts _ ks⟩ ⟨PRE.blind, va_recv hK hP hc ha, PRE.ofSub hK hA hE hPc hDc hF hS⟩ rfl rfl hl.1 rfl (lv_room hcat) d hkn) hS (fun q _ hq => hF q hq) hF (fun r1 u t H1 locs1 ht hvm hw hB hz1 hk1 hS1 => ?_)
  obtain ⟨rfl, rfl⟩ := hw
  obtain ⟨hP1, hK1, hD1⟩ := hB
  rw [ht] at hP1
  obtain ⟨hP2, hD2⟩ := va_join hP hD isC isR s1 s3 s5 s6 hk1 hF hP1 hD1
  exact kk H1 locs1 ls (hP2.sub pm (s8 _).2) (hD2.sub pm s7 (s8 _).1) hS1 hl
theorem g_Uv {fr lo : Nat} (O : Ok l D cy X cc own nL R) (d : Dc cc pc (.invokevirtual ix) 3 pc') (sub : SUBW wf wg h g put) (hM : CtV l D cy wg y bytes maxL fr lo (.ref b :: As) g g1) (kc : Cond.code y bytes maxL (none) ∈ TW) (kin : Cond.initialized y.cls ∈ TW) (kl : Cond.methodLink own ix y ∈ TW) (ki : Cond.instanceMethod y ∈ TW) (ks : Cond.selects y.cls y y ∈ TW) (hc : vwCl[ci]? = some (y.cls, T0, N)) (ha : (wf h)[q0]? = some (b, .inr (ci, fs))) (hd : y.cls ≠ "java/lang/invoke/MethodHandle" ∧ y.cls ≠ "java/lang/invoke/VarHandle" ∧ (parseMethodDescriptor y.desc).map (fun d => d.parameters.length) = some As.length) (hR : fr + 1 ≤ R.frames ∧ 8 + (maxL + 11) + lo ≤ R.locals) (hkn : k ≤ R.cells ∧ n ≤ R.slots) (hst : st0 = As.reverse ++ .ref b :: st) (hcat : (st.map fun v => v.category).sum ≤ 8) (kk : G l D X nL wf k n (put g1) pc' lv st) : G l D X nL wf k n h pc lv st0 := by
  obtain ⟨p, e, R', s, m, args, below, meth, c, Q, A⟩ := X
  obtain ⟨rfl, hx, hb, hml, hown, hts, hK, hA, hlk, hE⟩ := O
  obtain ⟨d, rfl⟩ := d
  obtain ⟨isC, isR, pm, wr, s1, s2, s3, s4, s5, s6, s7, s8⟩ := sub
  subst hst
  intro H locs ls hP hD hS hl
  have hPc := hP.sub isC s2
  have hDc := hD.sub isC s4 s1
  have hF := va_free hD hS hA isC s1
  refine va_callv (va_runV (As := As) (rest := st) (C := y.cls) ⟨hx, hb, hml, hown, hts⟩ (hM H.size) ⟨cbOf hts kc kin kl hd hR, hts _ ki, hts _ ks⟩ ⟨PRE.blind, va_recv hK hP hc ha, PRE.ofSub hK hA hE hPc hDc hF hS⟩ rfl rfl hl.1 rfl (lv_room hcat) d hkn) hS (fun q _ hq => hF q hq) hF (fun u t H1 locs1 ht hvm hw hB hz1 hk1 hS1 => ?_)
  subst hw
  obtain ⟨hP1, hK1, hD1⟩ := hB
  rw [ht] at hP1
  obtain ⟨hP2, hD2⟩ := va_join hP hD isC isR s1 s3 s5 s6 hk1 hF hP1 hD1
  exact kk H1 locs1 ls (hP2.sub pm (s8 _).2) (hD2.sub pm s7 (s8 _).1) hS1 hl
theorem g_UXi {ty : FieldType} {fr lo mc ms : Nat} {o2 : (String × T) ⊕ (Int32 × T)} (O : Ok l D cy X cc own nL R) (d : Dc cc pc (.invokevirtual ix) 3 pc') (sub : SUBW wf wg h g put) (hM : CtXI l D cy wg y bytes maxL ty fr lo mc ms (.ref b :: As) g o2) (kc : Cond.code y bytes maxL (some ty) ∈ TW) (kin : Cond.initialized y.cls ∈ TW) (kl : Cond.methodLink own ix y ∈ TW) (ki : Cond.instanceMethod y ∈ TW) (ks : Cond.selects y.cls y y ∈ TW) (hc : vwCl[ci]? = some (y.cls, T0, N)) (ha : (wf h)[q0]? = some (b, .inr (ci, fs))) (hd : y.cls ≠ "java/lang/invoke/MethodHandle" ∧ y.cls ≠ "java/lang/invoke/VarHandle" ∧ (parseMethodDescriptor y.desc).map (fun d => d.parameters.length) = some As.length) (hR : fr + 1 ≤ R.frames ∧ 8 + (maxL + 11) + lo ≤ R.locals) (hkn : k + mc ≤ R.cells ∧ n + ms ≤ R.slots) (hst : st0 = As.reverse ++ .ref b :: st) (hcat : (st.map fun v => v.category).sum ≤ 8) (kx : ∀ (E : String) (g1 : T), o2 = .inl (E, g1) → GX l D X nL wf (k + mc) (n + ms) (put g1) pc lv st E) (kk : ∀ a : Int32 × T, o2 = .inr a → G l D X nL wf (k + mc) (n + ms) (put a.2) pc' lv (.int a.1 :: st)) : G l D X nL wf k n h pc lv st0 := by
  obtain ⟨p, e, R', s, m, args, below, meth, c, Q, A⟩ := X
  obtain ⟨rfl, hx, hb, hml, hown, hts, hK, hA, hlk, hE⟩ := O
  obtain ⟨d, rfl⟩ := d
  obtain ⟨isC, isR, pm, wr, s1, s2, s3, s4, s5, s6, s7, s8⟩ := sub
  subst hst
  intro H locs ls hP hD hS hl
  have hPc := hP.sub isC s2
  have hDc := hD.sub isC s4 s1
  have hF := va_free hD hS hA isC s1
  refine vx_calli (vx_runV (As := As) (rest := st) (C := y.cls) ⟨hx, hb, hml, hown, hts⟩ (hM H.size) ⟨cbOx hts kc kin kl hd hR, hts _ ki, hts _ ks⟩ ⟨PRE.blind, va_recv hK hP hc ha, PRE.ofSub hK hA hE hPc hDc hF hS⟩ rfl rfl hl.1 rfl (lv_room hcat) d hkn) hS (fun q _ hq => hF q hq) hF (fun q _ hq => hF q hq) (fun E ce q9 u t H1 locs1 ht hvm hpx hB hz1 hk1 hS1 hce hvn hcl => ?_) (fun r1 u t H1 locs1 ht hvm hw hB hz1 hk1 hS1 => ?_)
  · obtain ⟨E1, h1⟩ := u
    obtain ⟨rfl, hP1, hK1, hD1⟩ := hB
    rw [ht] at hP1
    obtain ⟨hP2, hD2⟩ := va_join hP hD isC isR s1 s3 s5 s6 hk1 hF hP1 hD1
    exact kx _ h1 hpx H1 locs1 ls ce q9 (hP2.sub pm (s8 _).2) (hD2.sub pm s7 (s8 _).1) hS1 hl hce hvn hcl
  · obtain ⟨hP1, hK1, hD1⟩ := hB
    rw [ht] at hP1
    obtain ⟨hP2, hD2⟩ := va_join hP hD isC isR s1 s3 s5 s6 hk1 hF hP1 hD1
    exact kk (r1, u) hw H1 locs1 ls (hP2.sub pm (s8 _).2) (hD2.sub pm s7 (s8 _).1) hS1 hl
theorem g_UXl {fr lo mc ms : Nat} {o2 : (String × T) ⊕ (Int64 × T)} (O : Ok l D cy X cc own nL R) (d : Dc cc pc (.invokevirtual ix) 3 pc') (sub : SUBW wf wg h g put) (hM : CtXL l D cy wg y bytes maxL fr lo mc ms (.ref b :: As) g o2) (kc : Cond.code y bytes maxL (some .long) ∈ TW) (kin : Cond.initialized y.cls ∈ TW) (kl : Cond.methodLink own ix y ∈ TW) (ki : Cond.instanceMethod y ∈ TW) (ks : Cond.selects y.cls y y ∈ TW) (hc : vwCl[ci]? = some (y.cls, T0, N)) (ha : (wf h)[q0]? = some (b, .inr (ci, fs))) (hd : y.cls ≠ "java/lang/invoke/MethodHandle" ∧ y.cls ≠ "java/lang/invoke/VarHandle" ∧ (parseMethodDescriptor y.desc).map (fun d => d.parameters.length) = some As.length) (hR : fr + 1 ≤ R.frames ∧ 8 + (maxL + 11) + lo ≤ R.locals) (hkn : k + mc ≤ R.cells ∧ n + ms ≤ R.slots) (hst : st0 = As.reverse ++ .ref b :: st) (hcat : (st.map fun v => v.category).sum ≤ 8) (kx : ∀ (E : String) (g1 : T), o2 = .inl (E, g1) → GX l D X nL wf (k + mc) (n + ms) (put g1) pc lv st E) (kk : ∀ a : Int64 × T, o2 = .inr a → G l D X nL wf (k + mc) (n + ms) (put a.2) pc' lv (.long a.1 :: st)) : G l D X nL wf k n h pc lv st0 := by
  obtain ⟨p, e, R', s, m, args, below, meth, c, Q, A⟩ := X
  obtain ⟨rfl, hx, hb, hml, hown, hts, hK, hA, hlk, hE⟩ := O
  obtain ⟨d, rfl⟩ := d
  obtain ⟨isC, isR, pm, wr, s1, s2, s3, s4, s5, s6, s7, s8⟩ := sub
  subst hst
  intro H locs ls hP hD hS hl
  have hPc := hP.sub isC s2
  have hDc := hD.sub isC s4 s1
  have hF := va_free hD hS hA isC s1
  refine vx_calll (vx_runV (As := As) (rest := st) (C := y.cls) ⟨hx, hb, hml, hown, hts⟩ (hM H.size) ⟨cbOx hts kc kin kl hd hR, hts _ ki, hts _ ks⟩ ⟨PRE.blind, va_recv hK hP hc ha, PRE.ofSub hK hA hE hPc hDc hF hS⟩ rfl rfl hl.1 rfl (lv_room hcat) d hkn) hS (fun q _ hq => hF q hq) hF (fun q _ hq => hF q hq) (fun E ce q9 u t H1 locs1 ht hvm hpx hB hz1 hk1 hS1 hce hvn hcl => ?_) (fun r1 u t H1 locs1 ht hvm hw hB hz1 hk1 hS1 => ?_)
  · obtain ⟨E1, h1⟩ := u
    obtain ⟨rfl, hP1, hK1, hD1⟩ := hB
    rw [ht] at hP1
    obtain ⟨hP2, hD2⟩ := va_join hP hD isC isR s1 s3 s5 s6 hk1 hF hP1 hD1
    exact kx _ h1 hpx H1 locs1 ls ce q9 (hP2.sub pm (s8 _).2) (hD2.sub pm s7 (s8 _).1) hS1 hl hce hvn hcl
  · obtain ⟨hP1, hK1, hD1⟩ := hB
    rw [ht] at hP1
    obtain ⟨hP2, hD2⟩ := va_join hP hD isC isR s1 s3 s5 s6 hk1 hF hP1 hD1
    exact kk (r1, u) hw H1 locs1 ls (hP2.sub pm (s8 _).2) (hD2.sub pm s7 (s8 _).1) hS1 hl
end SUB
/-- the pairs of classes that a catch tells apart -/
def NCP : List (String × String) := [("java/lang/IllegalStateException", "java/lang/IllegalArgumentException")]
def PRH {S : Type} (D : va_G) (cy : Nat → ClassId) (wf : S → va_W) (sz : Nat) (h : S) (U : State) : Prop := PRE D cy wf sz h U ∧ ∀ q ∈ NCP, va_Nc q.1 q.2 U
def CtH {S : Type} (l : Launch) (D : va_G) (cy : Nat → ClassId) (wf : S → va_W) (y : MethodName) (cc : ByteArray) (nL : Nat) (hh : List (Nat × Nat × Nat × Nat)) (fr lo mc ms : Nat) (av : List Value) (h : S) (r : Int32) (h1 : S) : Prop := ∀ sz : Nat, vx_Met l y (Cond.codeWith y cc nL (some .int) hh :: TW) (RMx fr lo mc ms) (va_Pc av (PRH D cy wf sz h)) (va_Qi (fun x u => x = r ∧ u = h1) (PST D cy wf (va_A (wf h) sz)) (va_A (wf h) sz)) (vx_X (fun _ : Unit => False) (fun _ _ _ => True) (va_A (wf h) sz)) mc ms (va_A (wf h) sz)
/-- what the walk of a helper knows besides -/
def TB (X : Cx) (tb : List ExceptionTableEntry) : Prop := match X with
  | (_, _, _, _, _, _, _, _, c, _, _) => c.exceptionTable.toList = tb
def NCX (X : Cx) : Prop := match X with
  | (_, _, _, s, _, _, _, _, _, _, _) => ∀ q ∈ NCP, va_Nc q.1 q.2 s
section HLP
variable {S : Type} {l : Launch} {D : va_G} {cy : Nat → ClassId} {wf : S → va_W} {y : MethodName} {cc : ByteArray} {nL fr lo mc ms : Nat} {hh : List (Nat × Nat × Nat × Nat)} {av : List Value} {h h1 : S}
theorem PRH.blind {sz : Nat} : FrameBlind (va_Pc av (PRH D cy wf sz h)) := by
  intro a U g mk q
  obtain ⟨q0, q1, q2⟩ := q
  exact ⟨q0, (PRE.blind (av := av) a U g mk ⟨q0, q1⟩).2, fun z hz => (q2 z hz).moved (u := U) (U := U.calling g mk a) (Vm.Alike.refl U.vm)⟩
theorem sH {own : String} {r : Int32} (hy : plainName y.cls = true) (ho : y.cls = own) (hlen : (lg_sl av).length ≤ nL)
    (body : ∀ X : Cx, Ok l D cy X cc own nL (RMx fr lo mc ms) → TB X (tableOf hh) → NCX X → (∀ (pc pc' : Nat) (lv : List (Nat × Value)) (k n : Nat), k ≤ mc → n ≤ ms → Dc cc pc .ireturn 1 pc' → G l D X nL wf k n h1 pc lv [.int r]) → G l D X nL wf 0 0 h 0 (lv_args 0 av) []) : CtH l D cy wf y cc nL hh fr lo mc ms av h r h1 := by
  intro sz
  refine vx_ofWH (cc := cc) (maxL := nL) (ret := some .int) (hh := hh) hy rfl ?_
  intro p e s m args below meth c s₁ B hml hv
  obtain ⟨rfl, ⟨hsz, hP, hK, hD0, hE⟩, hN⟩ := hv
  have hts := atoms_spec (ws := Cond.codeWith y cc nL (some .int) hh :: TW) B.pre
  have htb := vx_table (x := y) B (hts _ List.mem_cons_self)
  subst hsz
  have hD := hD0.self (sz := s.heap.size)
  have hA : ∀ q : Nat, s.heap.size ≤ q → va_A (wf h) s.heap.size q := fun q hq => Or.inr hq
  have hl := lv_entry av (n := nL) hlen
  rw [lg_entry_eq]
  refine body (p, e, RMx fr lo mc ms, s, m, av.toArray, below, meth, c, vx_MQ below (va_Qi (fun x u => x = r ∧ u = h1) (PST D cy wf (va_A (wf h) s.heap.size)) (va_A (wf h) s.heap.size)) (vx_X (fun _ : Unit => False) (fun _ _ _ => True) (va_A (wf h) s.heap.size)) av.toArray s mc ms (va_A (wf h) s.heap.size), va_A (wf h) s.heap.size) ⟨rfl, B.exec, B.bytes, hml, ho ▸ findClass_of_methodNamed B.named, fun w hw => hts w (List.mem_cons_of_mem _ hw), hK, hA, B.notSynchronized, hE⟩ htb hN ?_ s.heap [] _ hP hD va_S.rf hl
  intro pc pc' lv k n hk hn9 d H locs ls hP hD hS hl
  refine W.widen hk hn9 (vx_ret ?_)
  exact W.iret B.exec B.bytes B.returns (fun t ht hW => ⟨⟨r, h1, rfl, ⟨rfl, rfl⟩, by rw [ht]; exact hP, va_K.moved hW.alike hK, hD⟩, hS.F ht⟩) hS.2.2 d.1 B.notSynchronized
variable {X : Cx} {own : String} {R : Room} {k n : Nat} {pc pc' : Nat} {lv : List (Nat × Value)} {st st0 : List Value} {bytes : ByteArray} {maxL ix : Nat} {As : List Value}
theorem gUw {y : MethodName} {cc : ByteArray} {n : Nat} {r : Option FieldType} {hh : List (Nat × Nat × Nat × Nat)} (hk : Cond.codeWith y cc n r hh ∈ TW) (kl : Cond.methodLink own ix y ∈ TW) (ks : Cond.static y ∈ TW) (ki : Cond.initialized y.cls ∈ TW) : GoodIn TW (va_wsS own ix y (Cond.codeWith y cc n r hh :: TW)) := by
  intro w hw
  have g : w ∈ TW := by
    unfold va_wsS at hw
    simp only [List.mem_append, List.mem_cons, List.not_mem_nil, or_false] at hw
    rcases hw with hw | hw
    · rcases hw with rfl | rfl | rfl <;> assumption
    · rcases hw with rfl | hw <;> assumption
  exact ⟨g, good_of_word (tw_good g)⟩
theorem g_H {fr lo mc ms : Nat} {r : Int32} (O : Ok l D cy X cc own nL R) (hN : NCX X) (d : Dc cc pc (.invokestatic ix) 3 pc') (hM : CtH l D cy wf y bytes maxL hh fr lo mc ms As h r h1) (kc : Cond.codeWith y bytes maxL (some .int) hh ∈ TW) (kin : Cond.initialized y.cls ∈ TW) (kl : Cond.methodLink own ix y ∈ TW) (ki : Cond.static y ∈ TW) (hd : y.cls ≠ "java/lang/invoke/MethodHandle" ∧ y.cls ≠ "java/lang/invoke/VarHandle" ∧ (parseMethodDescriptor y.desc).map (fun d => d.parameters.length) = some As.length) (hR : fr + 1 ≤ R.frames ∧ 8 + (maxL + 11) + lo ≤ R.locals) (hkn : k + mc ≤ R.cells ∧ n + ms ≤ R.slots) (hst : st0 = As.reverse ++ st) (hcat : (st.map fun v => v.category).sum ≤ 8) (kk : G l D X nL wf (k + mc) (n + ms) h1 pc' lv (.int r :: st)) : G l D X nL wf k n h pc lv st0 := by
  obtain ⟨p, e, R', s, m, args, below, meth, c, Q, A⟩ := X
  obtain ⟨rfl, hx, hb, hml, hown, hts, hK, hA, hlk, hE⟩ := O
  obtain ⟨d, rfl⟩ := d
  subst hst
  intro H locs ls hP hD hS hl
  have hF := A_in hD hS hA
  refine vx_calli (vx_runSX (As := As) (rest := st) ⟨hx, hb, hml, hown, hts⟩ (hM H.size) (vx_cwSW As.length hts (gUw kc kl ki kin) rfl rfl rfl hd hR) ⟨PRH.blind, fun U hU hW => ⟨rfl, (PRE.of (av := As) hK hA hE hP hD hS U hU hW).2, fun z hz => (hN z hz).moved hW.alike⟩⟩ rfl rfl hl.1 rfl (lv_room hcat) d hkn) hS (fun q _ hq => hF q hq) hF (fun q _ hq => hF q hq) (fun E ce q9 u t H1 locs1 ht hvm hpx => hpx.elim) (fun r1 u t H1 locs1 ht hvm hw hB hz1 hk1 hS1 => ?_)
  obtain ⟨rfl, rfl⟩ := hw
  obtain ⟨hP1, hK1, hD1⟩ := hB
  rw [ht] at hP1
  exact kk H1 locs1 ls hP1 (hD1.weaken (fun _ _ _ hq => hF _ hq)) hS1 hl
/-- caught by the row z of the table, the rows ahead name classes that it is none of -/
theorem g_catch {pre suf : List ExceptionTableEntry} {z : ExceptionTableEntry} {E : String} (O : Ok l D cy X cc own nL R) (hN : NCX X) (hT : TB X (pre ++ z :: suf)) (hpass : ∀ z' ∈ pre, z'.catchType ≠ 0 ∧ ∃ nm : String, Cond.classLink own z'.catchType nm ∈ TW ∧ (E, nm) ∈ NCP) (hcov : covers z pc = true) (h0 : z.catchType ≠ 0) (kl : Cond.classLink own z.catchType E ∈ TW) (kca : Cond.castable E E ∈ STW) (kk : ∀ q : Nat, G l D X nL wf k n h z.handlerPc lv [.ref q]) : GX l D X nL wf k n h pc lv st E := by
  obtain ⟨p, e, R', s, m, args, below, meth, c, Q, A⟩ := X
  obtain ⟨rfl, hx, hb, hml, hown, hts, hK, hA, hlk, hE⟩ := O
  intro H locs ls ce q hP hD hS hl hce hvn hcl
  exact vx_catch hown pre z suf hT (fun z' hz => Or.inr ⟨(hpass z' hz).1, (hpass z' hz).2.choose, hts _ (hpass z' hz).2.choose_spec.1, hN _ (hpass z' hz).2.choose_spec.2⟩) hcov h0 (hts _ kl) (va_Nw.use (st_tab kca) (hE.2.2.2.2.2.2.2 _ kca)) hce hvn hcl (kk q H locs ls hP hD hS hl)
end HLP
def hcatch {α β : Type} (x : Option ((String × Hp) ⊕ α)) (j : String → Hp → Option β) (k : α → Option β) : Option β := match x with
  | none => none
  | some (.inl e) => j e.1 e.2
  | some (.inr a) => k a
theorem hcatch_of {α β : Type} {x : Option ((String × Hp) ⊕ α)} {j : String → Hp → Option β} {k : α → Option β} {o : β} (h : hcatch x j k = some o) : ∃ z, x = some z ∧ (∀ E h, z = .inl (E, h) → j E h = some o) ∧ (∀ a, z = .inr a → k a = some o) := by
  match x, h with
  | none, h => cases h
  | some (.inl e), h => exact ⟨_, rfl, fun E h1 q => (by cases q; exact h), fun a q => (by cases q)⟩
  | some (.inr a), h => exact ⟨_, rfl, fun E h1 q => (by cases q), fun a q => (by cases q; exact h)⟩
/-! THE LAW'S OWN METHODS: contracts over rows; they may make rows of their own -/
abbrev Row : Type := Nat → Int32
theorem ar_tr {k m c K d M : Nat} (h : k + (m + 1) * c ≤ K) (h1 : d ≤ c) (h2 : K ≤ M) : k + d ≤ M := by
  have h3 : (m + 1) * c = m * c + c := Nat.succ_mul m c
  generalize m * c = z at h3
  omega
theorem ar_bk {k m c K d : Nat} (h : k + (m + 1) * c ≤ K) (h1 : d ≤ c) : k + d + m * c ≤ K := by
  have h3 : (m + 1) * c = m * c + c := Nat.succ_mul m c
  generalize m * c = z at h3 ⊢
  omega
theorem nm_of {α β : Type} {x : α} {k : α → Option β} {o : β} (h : nm x k = some o) : k x = some o := h
theorem g_nmr {α β : Type} {x : α} {kp : α → Option β} {o : β} {Go : α → Prop} (E : nm x kp = some o) (kk : ∀ y : α, kp y = some o → Go y) : Go x := kk x E
section MET
variable {S T : Type} {l : Launch} {D : va_G} {cy : Nat → ClassId} {wf : S → va_W} {wg : T → va_W} {y : MethodName} {cc : ByteArray} {nL fr lo mc ms : Nat} {av : List Value} {h h1 : S} {g g1 : T} {put : T → S}
def CtMI {S : Type} (l : Launch) (D : va_G) (cy : Nat → ClassId) (wf : S → va_W) (y : MethodName) (cc : ByteArray) (nL : Nat) (ty : FieldType) (fr lo mc ms : Nat) (av : List Value) (h : S) (r : Int32) (h1 : S) : Prop := ∀ sz : Nat, Met l y (Cond.code y cc nL (some ty) :: TW) (RMx fr lo mc ms) (va_Pc av (PRH D cy wf sz h)) (va_Qi (fun x u => x = r ∧ u = h1) (PST D cy wf (va_A (wf h) sz)) (va_A (wf h) sz)) mc ms (va_A (wf h) sz)
def CtML {S : Type} (l : Launch) (D : va_G) (cy : Nat → ClassId) (wf : S → va_W) (y : MethodName) (cc : ByteArray) (nL : Nat) (fr lo mc ms : Nat) (av : List Value) (h : S) (r : Int64) (h1 : S) : Prop := ∀ sz : Nat, Met l y (Cond.code y cc nL (some .long) :: TW) (RMx fr lo mc ms) (va_Pc av (PRH D cy wf sz h)) (va_Ql (fun x u => x = r ∧ u = h1) (PST D cy wf (va_A (wf h) sz)) (va_A (wf h) sz)) mc ms (va_A (wf h) sz)
def CtMV {S : Type} (l : Launch) (D : va_G) (cy : Nat → ClassId) (wf : S → va_W) (y : MethodName) (cc : ByteArray) (nL : Nat) (fr lo mc ms : Nat) (av : List Value) (h : S) (h1 : S) : Prop := ∀ sz : Nat, Met l y (Cond.code y cc nL none :: TW) (RMx fr lo mc ms) (va_Pc av (PRH D cy wf sz h)) (va_Qv (fun u => u = h1) (PST D cy wf (va_A (wf h) sz)) (va_A (wf h) sz)) mc ms (va_A (wf h) sz)
theorem sMI {own : String} {ty : FieldType} {r : Int32} (hy : plainName y.cls = true) (ho : y.cls = own) (hlen : (lg_sl av).length ≤ nL) (body : ∀ X : Cx, Ok l D cy X cc own nL (RMx fr lo mc ms) → NCX X → (∀ (pc pc' : Nat) (lv : List (Nat × Value)) (k n : Nat), k ≤ mc → n ≤ ms → Dc cc pc .ireturn 1 pc' → narrow ty (.int r) = .int r → G l D X nL wf k n h1 pc lv [.int r]) → G l D X nL wf 0 0 h 0 (lv_args 0 av) []) : CtMI l D cy wf y cc nL ty fr lo mc ms av h r h1 := by
  intro sz
  refine Met.ofW (cc := cc) (maxL := nL) (ret := (some ty)) hy rfl ?_
  intro p e s m args below meth c s₁ B hml hv
  obtain ⟨rfl, ⟨hsz, hP, hK, hD0, hE⟩, hN⟩ := hv
  have hts := atoms_spec (ws := Cond.code y cc nL (some ty) :: TW) B.pre
  subst hsz
  have hD := hD0.self (sz := s.heap.size)
  have hA : ∀ q : Nat, s.heap.size ≤ q → va_A (wf h) s.heap.size q := fun q hq => Or.inr hq
  have hl := lv_entry av (n := nL) hlen
  rw [lg_entry_eq]
  refine body (p, e, RMx fr lo mc ms, s, m, av.toArray, below, meth, c, MQ below (va_Qi (fun x u => x = r ∧ u = h1) (PST D cy wf (va_A (wf h) s.heap.size)) (va_A (wf h) s.heap.size)) av.toArray s mc ms (va_A (wf h) s.heap.size), va_A (wf h) s.heap.size) ⟨rfl, B.exec, B.bytes, hml, ho ▸ findClass_of_methodNamed B.named, fun w hw => hts w (List.mem_cons_of_mem _ hw), hK, hA, B.notSynchronized, hE⟩ hN ?_ s.heap [] _ hP hD va_S.rf hl
  intro pc pc' lv k n hk hn9 d hnr H locs ls hP hD hS hl
  refine W.widen hk hn9 ?_
  exact W.zret B.exec B.bytes B.returns hnr (fun t ht hW => ⟨⟨r, h1, rfl, ⟨rfl, rfl⟩, by rw [ht]; exact hP, va_K.moved hW.alike hK, hD⟩, hS.F ht⟩) hS.2.2 d.1 B.notSynchronized
theorem sML {own : String} {r : Int64} (hy : plainName y.cls = true) (ho : y.cls = own) (hlen : (lg_sl av).length ≤ nL) (body : ∀ X : Cx, Ok l D cy X cc own nL (RMx fr lo mc ms) → NCX X → (∀ (pc pc' : Nat) (lv : List (Nat × Value)) (k n : Nat), k ≤ mc → n ≤ ms → Dc cc pc .lreturn 1 pc' → G l D X nL wf k n h1 pc lv [.long r]) → G l D X nL wf 0 0 h 0 (lv_args 0 av) []) : CtML l D cy wf y cc nL fr lo mc ms av h r h1 := by
  intro sz
  refine Met.ofW (cc := cc) (maxL := nL) (ret := (some .long)) hy rfl ?_
  intro p e s m args below meth c s₁ B hml hv
  obtain ⟨rfl, ⟨hsz, hP, hK, hD0, hE⟩, hN⟩ := hv
  have hts := atoms_spec (ws := Cond.code y cc nL (some .long) :: TW) B.pre
  subst hsz
  have hD := hD0.self (sz := s.heap.size)
  have hA : ∀ q : Nat, s.heap.size ≤ q → va_A (wf h) s.heap.size q := fun q hq => Or.inr hq
  have hl := lv_entry av (n := nL) hlen
  rw [lg_entry_eq]
  refine body (p, e, RMx fr lo mc ms, s, m, av.toArray, below, meth, c, MQ below (va_Ql (fun x u => x = r ∧ u = h1) (PST D cy wf (va_A (wf h) s.heap.size)) (va_A (wf h) s.heap.size)) av.toArray s mc ms (va_A (wf h) s.heap.size), va_A (wf h) s.heap.size) ⟨rfl, B.exec, B.bytes, hml, ho ▸ findClass_of_methodNamed B.named, fun w hw => hts w (List.mem_cons_of_mem _ hw), hK, hA, B.notSynchronized, hE⟩ hN ?_ s.heap [] _ hP hD va_S.rf hl
  intro pc pc' lv k n hk hn9 d H locs ls hP hD hS hl
  refine W.widen hk hn9 ?_
  exact W.lret B.exec B.bytes B.returns (fun t ht hW => ⟨⟨r, h1, rfl, ⟨rfl, rfl⟩, by rw [ht]; exact hP, va_K.moved hW.alike hK, hD⟩, hS.F ht⟩) hS.2.2 d.1 B.notSynchronized
theorem sMV {own : String} (hy : plainName y.cls = true) (ho : y.cls = own) (hlen : (lg_sl av).length ≤ nL) (body : ∀ X : Cx, Ok l D cy X cc own nL (RMx fr lo mc ms) → NCX X → (∀ (pc pc' : Nat) (lv : List (Nat × Value)) (k n : Nat), k ≤ mc → n ≤ ms → Dc cc pc .return_ 1 pc' → G l D X nL wf k n h1 pc lv []) → G l D X nL wf 0 0 h 0 (lv_args 0 av) []) : CtMV l D cy wf y cc nL fr lo mc ms av h h1 := by
  intro sz
  refine Met.ofW (cc := cc) (maxL := nL) (ret := none) hy rfl ?_
  intro p e s m args below meth c s₁ B hml hv
  obtain ⟨rfl, ⟨hsz, hP, hK, hD0, hE⟩, hN⟩ := hv
  have hts := atoms_spec (ws := Cond.code y cc nL none :: TW) B.pre
  subst hsz
  have hD := hD0.self (sz := s.heap.size)
  have hA : ∀ q : Nat, s.heap.size ≤ q → va_A (wf h) s.heap.size q := fun q hq => Or.inr hq
  have hl := lv_entry av (n := nL) hlen
  rw [lg_entry_eq]
  refine body (p, e, RMx fr lo mc ms, s, m, av.toArray, below, meth, c, MQ below (va_Qv (fun u => u = h1) (PST D cy wf (va_A (wf h) s.heap.size)) (va_A (wf h) s.heap.size)) av.toArray s mc ms (va_A (wf h) s.heap.size), va_A (wf h) s.heap.size) ⟨rfl, B.exec, B.bytes, hml, ho ▸ findClass_of_methodNamed B.named, fun w hw => hts w (List.mem_cons_of_mem _ hw), hK, hA, B.notSynchronized, hE⟩ hN ?_ s.heap [] _ hP hD va_S.rf hl
  intro pc pc' lv k n hk hn9 d H locs ls hP hD hS hl
  refine W.widen hk hn9 ?_
  exact W.vret B.exec B.bytes B.returns (fun t ht hW => ⟨⟨h1, rfl, rfl, by rw [ht]; exact hP, va_K.moved hW.alike hK, hD⟩, hS.F ht⟩) hS.2.2 d.1 B.notSynchronized
variable {X : Cx} {own : String} {R : Room} {k n : Nat} {pc pc' : Nat} {lv : List (Nat × Value)} {st st0 : List Value} {bytes : ByteArray} {maxL ix : Nat} {As : List Value}
theorem cbM {s : State} {args : Array Value} {ret : Option FieldType} {nA : Nat} (hts : ∀ w ∈ TW, w.before args s = true) (kc : Cond.code y bytes maxL ret ∈ TW) (kin : Cond.initialized y.cls ∈ TW) (kl : Cond.methodLink own ix y ∈ TW) (hd : y.cls ≠ "java/lang/invoke/MethodHandle" ∧ y.cls ≠ "java/lang/invoke/VarHandle" ∧ (parseMethodDescriptor y.desc).map (fun d => d.parameters.length) = some nA) (hR : fr + 1 ≤ R.frames ∧ 8 + (maxL + 11) + lo ≤ R.locals) : CallB R s args own ix y bytes maxL ret (Cond.code y bytes maxL ret :: TW) (RMx fr lo mc ms) mc ms nA :=
  callB_of nA hts (gU kc) rfl rfl rfl (hts _ kin) (hts _ kl) hd hR
theorem PRH.ofSub {s : State} {A : Nat → Prop} {H : Heap} {locs : List Loc} (hN : ∀ q ∈ NCP, va_Nc q.1 q.2 s) (hK : va_K D vwCl (TYS cy) s) (hA : ∀ q, s.heap.size ≤ q → A q) (hE : ENV A s s.heap) (hPc : va_P D vwCl (wg g) H) (hDc : va_D A (wg g)) (hF : ∀ q, va_A (wg g) H.size q → A q) (hS : va_S A s.heap H locs) : ∀ U : State, U.heap = H → s.WarmedH U.vm → va_Pc av (PRH D cy wg H.size g) av.toArray U :=
  fun U hU hW => ⟨rfl, (PRE.ofSub (av := av) hK hA hE hPc hDc hF hS U hU hW).2, fun z hz => (hN z hz).moved hW.alike⟩
theorem g_drop {S2 : Type} {wf2 : S2 → va_W} {h2 : S2} (is : List Nat) (e1 : is.map (fun i => (wf2 h2)[i]?) = (wf h).map some) (e2 : is.filterMap (fun i => (wf2 h2)[i]?) = wf h) (nd : va_nd is = true) (kk : G l D X nL wf k n h pc lv st) : G l D X nL wf2 k n h2 pc lv st := by
  obtain ⟨p, e, R', s, m, args, below, meth, c, Q, A⟩ := X
  intro H locs ls hP hD hS hl
  exact kk H locs ls (hP.sub is e2) (hD.sub is nd e1) hS hl
theorem g_widen {k1 n1 : Nat} (h1 : k ≤ k1) (h2 : n ≤ n1) (kk : G l D X nL wf k1 n1 h pc lv st) : G l D X nL wf k n h pc lv st := by
  obtain ⟨p, e, R', s, m, args, below, meth, c, Q, A⟩ := X
  intro H locs ls hP hD hS hl
  exact W.widen h1 h2 (kk H locs ls hP hD hS hl)
theorem g_MSi {ty : FieldType} {r : Int32} (O : Ok l D cy X cc own nL R) (hN : NCX X) (d : Dc cc pc (.invokestatic ix) 3 pc') (sub : SUBW wf wg h g put) (hM : CtMI l D cy wg y bytes maxL ty fr lo mc ms As g r g1) (kc : Cond.code y bytes maxL (some ty) ∈ TW) (kin : Cond.initialized y.cls ∈ TW) (kl : Cond.methodLink own ix y ∈ TW) (ki : Cond.static y ∈ TW) (hd : y.cls ≠ "java/lang/invoke/MethodHandle" ∧ y.cls ≠ "java/lang/invoke/VarHandle" ∧ (parseMethodDescriptor y.desc).map (fun d => d.parameters.length) = some As.length) (hR : fr + 1 ≤ R.frames ∧ 8 + (maxL + 11) + lo ≤ R.locals) (hkn : k + mc ≤ R.cells ∧ n + ms ≤ R.slots) (hst : st0 = As.reverse ++ st) (hcat : (st.map fun v => v.category).sum ≤ 8) (kk : G l D X nL wf (k + mc) (n + ms) (put g1) pc' lv (.int r :: st)) : G l D X nL wf k n h pc lv st0 := by
  obtain ⟨p, e, R', s, m, args, below, meth, c, Q, A⟩ := X
  obtain ⟨rfl, hx, hb, hml, hown, hts, hK, hA, hlk, hE⟩ := O
  obtain ⟨d, rfl⟩ := d
  obtain ⟨isC, isR, pm, wr, s1, s2, s3, s4, s5, s6, s7, s8⟩ := sub
  subst hst
  intro H locs ls hP hD hS hl
  have hPc := hP.sub isC s2
  have hDc := hD.sub isC s4 s1
  have hF := va_free hD hS hA isC s1
  refine va_calli (va_runS (As := As) (rest := st) ⟨hx, hb, hml, hown, hts⟩ (hM H.size) ⟨cbM hts kc kin kl hd hR, hts _ ki⟩ ⟨PRH.blind, PRH.ofSub hN hK hA hE hPc hDc hF hS⟩ rfl rfl hl.1 rfl (lv_room hcat) d hkn) hS (fun q _ hq => hF q hq) hF (fun r1 u t H1 locs1 ht hvm hw hB hz1 hk1 hS1 => ?_)
  obtain ⟨rfl, rfl⟩ := hw
  obtain ⟨hP1, hK1, hD1⟩ := hB
  rw [ht] at hP1
  obtain ⟨hP2, hD2⟩ := va_join hP hD isC isR s1 s3 s5 s6 hk1 hF hP1 hD1
  exact kk H1 locs1 ls (hP2.sub pm (s8 _).2) (hD2.sub pm s7 (s8 _).1) hS1 hl
theorem g_MSl {r : Int64} (O : Ok l D cy X cc own nL R) (hN : NCX X) (d : Dc cc pc (.invokestatic ix) 3 pc') (sub : SUBW wf wg h g put) (hM : CtML l D cy wg y bytes maxL fr lo mc ms As g r g1) (kc : Cond.code y bytes maxL (some .long) ∈ TW) (kin : Cond.initialized y.cls ∈ TW) (kl : Cond.methodLink own ix y ∈ TW) (ki : Cond.static y ∈ TW) (hd : y.cls ≠ "java/lang/invoke/MethodHandle" ∧ y.cls ≠ "java/lang/invoke/VarHandle" ∧ (parseMethodDescriptor y.desc).map (fun d => d.parameters.length) = some As.length) (hR : fr + 1 ≤ R.frames ∧ 8 + (maxL + 11) + lo ≤ R.locals) (hkn : k + mc ≤ R.cells ∧ n + ms ≤ R.slots) (hst : st0 = As.reverse ++ st) (hcat : (st.map fun v => v.category).sum ≤ 8) (kk : G l D X nL wf (k + mc) (n + ms) (put g1) pc' lv (.long r :: st)) : G l D X nL wf k n h pc lv st0 := by
  obtain ⟨p, e, R', s, m, args, below, meth, c, Q, A⟩ := X
  obtain ⟨rfl, hx, hb, hml, hown, hts, hK, hA, hlk, hE⟩ := O
  obtain ⟨d, rfl⟩ := d
  obtain ⟨isC, isR, pm, wr, s1, s2, s3, s4, s5, s6, s7, s8⟩ := sub
  subst hst
  intro H locs ls hP hD hS hl
  have hPc := hP.sub isC s2
  have hDc := hD.sub isC s4 s1
  have hF := va_free hD hS hA isC s1
  refine va_calll (va_runS (As := As) (rest := st) ⟨hx, hb, hml, hown, hts⟩ (hM H.size) ⟨cbM hts kc kin kl hd hR, hts _ ki⟩ ⟨PRH.blind, PRH.ofSub hN hK hA hE hPc hDc hF hS⟩ rfl rfl hl.1 rfl (lv_room hcat) d hkn) hS (fun q _ hq => hF q hq) hF (fun r1 u t H1 locs1 ht hvm hw hB hz1 hk1 hS1 => ?_)
  obtain ⟨rfl, rfl⟩ := hw
  obtain ⟨hP1, hK1, hD1⟩ := hB
  rw [ht] at hP1
  obtain ⟨hP2, hD2⟩ := va_join hP hD isC isR s1 s3 s5 s6 hk1 hF hP1 hD1
  exact kk H1 locs1 ls (hP2.sub pm (s8 _).2) (hD2.sub pm s7 (s8 _).1) hS1 hl
theorem g_MSv (O : Ok l D cy X cc own nL R) (hN : NCX X) (d : Dc cc pc (.invokestatic ix) 3 pc') (sub : SUBW wf wg h g put) (hM : CtMV l D cy wg y bytes maxL fr lo mc ms As g g1) (kc : Cond.code y bytes maxL none ∈ TW) (kin : Cond.initialized y.cls ∈ TW) (kl : Cond.methodLink own ix y ∈ TW) (ki : Cond.static y ∈ TW) (hd : y.cls ≠ "java/lang/invoke/MethodHandle" ∧ y.cls ≠ "java/lang/invoke/VarHandle" ∧ (parseMethodDescriptor y.desc).map (fun d => d.parameters.length) = some As.length) (hR : fr + 1 ≤ R.frames ∧ 8 + (maxL + 11) + lo ≤ R.locals) (hkn : k + mc ≤ R.cells ∧ n + ms ≤ R.slots) (hst : st0 = As.reverse ++ st) (hcat : (st.map fun v => v.category).sum ≤ 8) (kk : G l D X nL wf (k + mc) (n + ms) (put g1) pc' lv st) : G l D X nL wf k n h pc lv st0 := by
  obtain ⟨p, e, R', s, m, args, below, meth, c, Q, A⟩ := X
  obtain ⟨rfl, hx, hb, hml, hown, hts, hK, hA, hlk, hE⟩ := O
  obtain ⟨d, rfl⟩ := d
  obtain ⟨isC, isR, pm, wr, s1, s2, s3, s4, s5, s6, s7, s8⟩ := sub
  subst hst
  intro H locs ls hP hD hS hl
  have hPc := hP.sub isC s2
  have hDc := hD.sub isC s4 s1
  have hF := va_free hD hS hA isC s1
  refine va_callv (va_runS (As := As) (rest := st) ⟨hx, hb, hml, hown, hts⟩ (hM H.size) ⟨cbM hts kc kin kl hd hR, hts _ ki⟩ ⟨PRH.blind, PRH.ofSub hN hK hA hE hPc hDc hF hS⟩ rfl rfl hl.1 rfl (lv_room hcat) d hkn) hS (fun q _ hq => hF q hq) hF (fun u t H1 locs1 ht hvm hw hB hz1 hk1 hS1 => ?_)
  subst hw
  obtain ⟨hP1, hK1, hD1⟩ := hB
  rw [ht] at hP1
  obtain ⟨hP2, hD2⟩ := va_join hP hD isC isR s1 s3 s5 s6 hk1 hF hP1 hD1
  exact kk H1 locs1 ls (hP2.sub pm (s8 _).2) (hD2.sub pm s7 (s8 _).1) hS1 hl
theorem g_HS {hh : List (Nat × Nat × Nat × Nat)} {r : Int32} (O : Ok l D cy X cc own nL R) (hN : NCX X) (d : Dc cc pc (.invokestatic ix) 3 pc') (sub : SUBW wf wg h g put) (hM : CtH l D cy wg y bytes maxL hh fr lo mc ms As g r g1) (kc : Cond.codeWith y bytes maxL (some .int) hh ∈ TW) (kin : Cond.initialized y.cls ∈ TW) (kl : Cond.methodLink own ix y ∈ TW) (ki : Cond.static y ∈ TW) (hd : y.cls ≠ "java/lang/invoke/MethodHandle" ∧ y.cls ≠ "java/lang/invoke/VarHandle" ∧ (parseMethodDescriptor y.desc).map (fun d => d.parameters.length) = some As.length) (hR : fr + 1 ≤ R.frames ∧ 8 + (maxL + 11) + lo ≤ R.locals) (hkn : k + mc ≤ R.cells ∧ n + ms ≤ R.slots) (hst : st0 = As.reverse ++ st) (hcat : (st.map fun v => v.category).sum ≤ 8) (kk : G l D X nL wf (k + mc) (n + ms) (put g1) pc' lv (.int r :: st)) : G l D X nL wf k n h pc lv st0 := by
  obtain ⟨p, e, R', s, m, args, below, meth, c, Q, A⟩ := X
  obtain ⟨rfl, hx, hb, hml, hown, hts, hK, hA, hlk, hE⟩ := O
  obtain ⟨d, rfl⟩ := d
  obtain ⟨isC, isR, pm, wr, s1, s2, s3, s4, s5, s6, s7, s8⟩ := sub
  subst hst
  intro H locs ls hP hD hS hl
  have hPc := hP.sub isC s2
  have hDc := hD.sub isC s4 s1
  have hF := va_free hD hS hA isC s1
  refine vx_calli (vx_runSX (As := As) (rest := st) ⟨hx, hb, hml, hown, hts⟩ (hM H.size) (vx_cwSW As.length hts (gUw kc kl ki kin) rfl rfl rfl hd hR) ⟨PRH.blind, PRH.ofSub hN hK hA hE hPc hDc hF hS⟩ rfl rfl hl.1 rfl (lv_room hcat) d hkn) hS (fun q _ hq => hF q hq) hF (fun q _ hq => hF q hq) (fun E ce q9 u t H1 locs1 ht hvm hpx => hpx.elim) (fun r1 u t H1 locs1 ht hvm hw hB hz1 hk1 hS1 => ?_)
  obtain ⟨rfl, rfl⟩ := hw
  obtain ⟨hP1, hK1, hD1⟩ := hB
  rw [ht] at hP1
  obtain ⟨hP2, hD2⟩ := va_join hP hD isC isR s1 s3 s5 s6 hk1 hF hP1 hD1
  exact kk H1 locs1 ls (hP2.sub pm (s8 _).2) (hD2.sub pm s7 (s8 _).1) hS1 hl
/-- a row of ints that a method makes: the world has one cell more -/
theorem g_newr {S2 : Type} {wf2 : Nat → S2 → va_W} {h2 : S2} {N' : Nat} {x : Int32} (O : Ok l D cy X cc own nL R) (d : Dc cc pc (.newarray .int) 2 pc') (karr : Cond.arrayClass .int ∈ TW) (hN : x.toNatClampNeg = N') (hx0 : ¬ x < 0) (hby : N' * componentBytes .int ≤ 536870912) (hk : k + 1 ≤ R.cells ∧ n + N' ≤ R.slots) (hw : ∀ q, wf h ++ [(q, .inl (cy 0, N', .inl (fun _ => 0)))] = wf2 q h2) (kk : ∀ q : Nat, G l D X nL (wf2 q) (k + 1) (n + N') h2 pc' lv (.ref q :: st)) : G l D X nL wf k n h pc lv (.int x :: st) := by
  obtain ⟨p, e, R', s, m, args, below, meth, c, Q, A⟩ := X
  obtain ⟨rfl, hx, hb, hml, hown, hts, hK, hA, hlk, hE⟩ := O
  obtain ⟨d, rfl⟩ := d
  intro H locs ls hP hD hS hl
  refine va_newa (atype := .int) hx hb (hts _ karr) (ty := .int) rfl hK hP hD hS hA (a0 := (N', .inl (fun _ => 0))) (fun _ => rfl) hx0 hN hby hk.1 hk.2 d (fun q cA H1 hK1 hP1 hD1 hS1 => ?_)
  have h1 := (hK.2 0 (cy 0, .int) rfl).2
  have h2 := (hK1.2 5 (cA, .int) rfl).2
  have e : cA = cy 0 := Option.some.inj (h2.symm.trans h1)
  subst e
  rw [hw] at hP1 hD1
  exact kk q H1 locs ls hP1 hD1 hS1 hl
end MET
theorem fxc1_of {A1 β : Type} {F : (A1 → Option β) → A1 → Option β} {o : β} (P : Nat → A1 → Prop) (hs : ∀ (m : Nat) (self : A1 → Option β), (∀ (a1 : A1), self a1 = some o → P m a1) → ∀ (a1 : A1), F self a1 = some o → P (m + 1) a1) : ∀ (n : Nat) (a1 : A1), fx1 F n a1 = some o → P n a1
  | 0, _, h => by cases h
  | n + 1, a1, h => hs n (fx1 F n) (fxc1_of P hs n) a1 h
theorem fxc2_of {A1 A2 β : Type} {F : (A1 → A2 → Option β) → A1 → A2 → Option β} {o : β} (P : Nat → A1 → A2 → Prop) (hs : ∀ (m : Nat) (self : A1 → A2 → Option β), (∀ (a1 : A1) (a2 : A2), self a1 a2 = some o → P m a1 a2) → ∀ (a1 : A1) (a2 : A2), F self a1 a2 = some o → P (m + 1) a1 a2) : ∀ (n : Nat) (a1 : A1) (a2 : A2), fx2 F n a1 a2 = some o → P n a1 a2
  | 0, _, _, h => by cases h
  | n + 1, a1, a2, h => hs n (fx2 F n) (fxc2_of P hs n) a1 a2 h
theorem fxc3_of {A1 A2 A3 β : Type} {F : (A1 → A2 → A3 → Option β) → A1 → A2 → A3 → Option β} {o : β} (P : Nat → A1 → A2 → A3 → Prop) (hs : ∀ (m : Nat) (self : A1 → A2 → A3 → Option β), (∀ (a1 : A1) (a2 : A2) (a3 : A3), self a1 a2 a3 = some o → P m a1 a2 a3) → ∀ (a1 : A1) (a2 : A2) (a3 : A3), F self a1 a2 a3 = some o → P (m + 1) a1 a2 a3) : ∀ (n : Nat) (a1 : A1) (a2 : A2) (a3 : A3), fx3 F n a1 a2 a3 = some o → P n a1 a2 a3
  | 0, _, _, _, h => by cases h
  | n + 1, a1, a2, a3, h => hs n (fx3 F n) (fxc3_of P hs n) a1 a2 a3 h
theorem fxc4_of {A1 A2 A3 A4 β : Type} {F : (A1 → A2 → A3 → A4 → Option β) → A1 → A2 → A3 → A4 → Option β} {o : β} (P : Nat → A1 → A2 → A3 → A4 → Prop) (hs : ∀ (m : Nat) (self : A1 → A2 → A3 → A4 → Option β), (∀ (a1 : A1) (a2 : A2) (a3 : A3) (a4 : A4), self a1 a2 a3 a4 = some o → P m a1 a2 a3 a4) → ∀ (a1 : A1) (a2 : A2) (a3 : A3) (a4 : A4), F self a1 a2 a3 a4 = some o → P (m + 1) a1 a2 a3 a4) : ∀ (n : Nat) (a1 : A1) (a2 : A2) (a3 : A3) (a4 : A4), fx4 F n a1 a2 a3 a4 = some o → P n a1 a2 a3 a4
  | 0, _, _, _, _, h => by cases h
  | n + 1, a1, a2, a3, a4, h => hs n (fx4 F n) (fxc4_of P hs n) a1 a2 a3 a4 h
theorem fxc5_of {A1 A2 A3 A4 A5 β : Type} {F : (A1 → A2 → A3 → A4 → A5 → Option β) → A1 → A2 → A3 → A4 → A5 → Option β} {o : β} (P : Nat → A1 → A2 → A3 → A4 → A5 → Prop) (hs : ∀ (m : Nat) (self : A1 → A2 → A3 → A4 → A5 → Option β), (∀ (a1 : A1) (a2 : A2) (a3 : A3) (a4 : A4) (a5 : A5), self a1 a2 a3 a4 a5 = some o → P m a1 a2 a3 a4 a5) → ∀ (a1 : A1) (a2 : A2) (a3 : A3) (a4 : A4) (a5 : A5), F self a1 a2 a3 a4 a5 = some o → P (m + 1) a1 a2 a3 a4 a5) : ∀ (n : Nat) (a1 : A1) (a2 : A2) (a3 : A3) (a4 : A4) (a5 : A5), fx5 F n a1 a2 a3 a4 a5 = some o → P n a1 a2 a3 a4 a5
  | 0, _, _, _, _, _, h => by cases h
  | n + 1, a1, a2, a3, a4, a5, h => hs n (fx5 F n) (fxc5_of P hs n) a1 a2 a3 a4 a5 h
theorem fxc6_of {A1 A2 A3 A4 A5 A6 β : Type} {F : (A1 → A2 → A3 → A4 → A5 → A6 → Option β) → A1 → A2 → A3 → A4 → A5 → A6 → Option β} {o : β} (P : Nat → A1 → A2 → A3 → A4 → A5 → A6 → Prop) (hs : ∀ (m : Nat) (self : A1 → A2 → A3 → A4 → A5 → A6 → Option β), (∀ (a1 : A1) (a2 : A2) (a3 : A3) (a4 : A4) (a5 : A5) (a6 : A6), self a1 a2 a3 a4 a5 a6 = some o → P m a1 a2 a3 a4 a5 a6) → ∀ (a1 : A1) (a2 : A2) (a3 : A3) (a4 : A4) (a5 : A5) (a6 : A6), F self a1 a2 a3 a4 a5 a6 = some o → P (m + 1) a1 a2 a3 a4 a5 a6) : ∀ (n : Nat) (a1 : A1) (a2 : A2) (a3 : A3) (a4 : A4) (a5 : A5) (a6 : A6), fx6 F n a1 a2 a3 a4 a5 a6 = some o → P n a1 a2 a3 a4 a5 a6
  | 0, _, _, _, _, _, _, h => by cases h
  | n + 1, a1, a2, a3, a4, a5, a6, h => hs n (fx6 F n) (fxc6_of P hs n) a1 a2 a3 a4 a5 a6 h
theorem fxc7_of {A1 A2 A3 A4 A5 A6 A7 β : Type} {F : (A1 → A2 → A3 → A4 → A5 → A6 → A7 → Option β) → A1 → A2 → A3 → A4 → A5 → A6 → A7 → Option β} {o : β} (P : Nat → A1 → A2 → A3 → A4 → A5 → A6 → A7 → Prop) (hs : ∀ (m : Nat) (self : A1 → A2 → A3 → A4 → A5 → A6 → A7 → Option β), (∀ (a1 : A1) (a2 : A2) (a3 : A3) (a4 : A4) (a5 : A5) (a6 : A6) (a7 : A7), self a1 a2 a3 a4 a5 a6 a7 = some o → P m a1 a2 a3 a4 a5 a6 a7) → ∀ (a1 : A1) (a2 : A2) (a3 : A3) (a4 : A4) (a5 : A5) (a6 : A6) (a7 : A7), F self a1 a2 a3 a4 a5 a6 a7 = some o → P (m + 1) a1 a2 a3 a4 a5 a6 a7) : ∀ (n : Nat) (a1 : A1) (a2 : A2) (a3 : A3) (a4 : A4) (a5 : A5) (a6 : A6) (a7 : A7), fx7 F n a1 a2 a3 a4 a5 a6 a7 = some o → P n a1 a2 a3 a4 a5 a6 a7
  | 0, _, _, _, _, _, _, _, h => by cases h
  | n + 1, a1, a2, a3, a4, a5, a6, a7, h => hs n (fx7 F n) (fxc7_of P hs n) a1 a2 a3 a4 a5 a6 a7 h
theorem fxc8_of {A1 A2 A3 A4 A5 A6 A7 A8 β : Type} {F : (A1 → A2 → A3 → A4 → A5 → A6 → A7 → A8 → Option β) → A1 → A2 → A3 → A4 → A5 → A6 → A7 → A8 → Option β} {o : β} (P : Nat → A1 → A2 → A3 → A4 → A5 → A6 → A7 → A8 → Prop) (hs : ∀ (m : Nat) (self : A1 → A2 → A3 → A4 → A5 → A6 → A7 → A8 → Option β), (∀ (a1 : A1) (a2 : A2) (a3 : A3) (a4 : A4) (a5 : A5) (a6 : A6) (a7 : A7) (a8 : A8), self a1 a2 a3 a4 a5 a6 a7 a8 = some o → P m a1 a2 a3 a4 a5 a6 a7 a8) → ∀ (a1 : A1) (a2 : A2) (a3 : A3) (a4 : A4) (a5 : A5) (a6 : A6) (a7 : A7) (a8 : A8), F self a1 a2 a3 a4 a5 a6 a7 a8 = some o → P (m + 1) a1 a2 a3 a4 a5 a6 a7 a8) : ∀ (n : Nat) (a1 : A1) (a2 : A2) (a3 : A3) (a4 : A4) (a5 : A5) (a6 : A6) (a7 : A7) (a8 : A8), fx8 F n a1 a2 a3 a4 a5 a6 a7 a8 = some o → P n a1 a2 a3 a4 a5 a6 a7 a8
  | 0, _, _, _, _, _, _, _, _, h => by cases h
  | n + 1, a1, a2, a3, a4, a5, a6, a7, a8, h => hs n (fx8 F n) (fxc8_of P hs n) a1 a2 a3 a4 a5 a6 a7 a8 h
theorem fxc9_of {A1 A2 A3 A4 A5 A6 A7 A8 A9 β : Type} {F : (A1 → A2 → A3 → A4 → A5 → A6 → A7 → A8 → A9 → Option β) → A1 → A2 → A3 → A4 → A5 → A6 → A7 → A8 → A9 → Option β} {o : β} (P : Nat → A1 → A2 → A3 → A4 → A5 → A6 → A7 → A8 → A9 → Prop) (hs : ∀ (m : Nat) (self : A1 → A2 → A3 → A4 → A5 → A6 → A7 → A8 → A9 → Option β), (∀ (a1 : A1) (a2 : A2) (a3 : A3) (a4 : A4) (a5 : A5) (a6 : A6) (a7 : A7) (a8 : A8) (a9 : A9), self a1 a2 a3 a4 a5 a6 a7 a8 a9 = some o → P m a1 a2 a3 a4 a5 a6 a7 a8 a9) → ∀ (a1 : A1) (a2 : A2) (a3 : A3) (a4 : A4) (a5 : A5) (a6 : A6) (a7 : A7) (a8 : A8) (a9 : A9), F self a1 a2 a3 a4 a5 a6 a7 a8 a9 = some o → P (m + 1) a1 a2 a3 a4 a5 a6 a7 a8 a9) : ∀ (n : Nat) (a1 : A1) (a2 : A2) (a3 : A3) (a4 : A4) (a5 : A5) (a6 : A6) (a7 : A7) (a8 : A8) (a9 : A9), fx9 F n a1 a2 a3 a4 a5 a6 a7 a8 a9 = some o → P n a1 a2 a3 a4 a5 a6 a7 a8 a9
  | 0, _, _, _, _, _, _, _, _, _, h => by cases h
  | n + 1, a1, a2, a3, a4, a5, a6, a7, a8, a9, h => hs n (fx9 F n) (fxc9_of P hs n) a1 a2 a3 a4 a5 a6 a7 a8 a9 h
def jn10 {A1 A2 A3 A4 A5 A6 A7 A8 A9 A10 β : Type} (b : (A1 → A2 → A3 → A4 → A5 → A6 → A7 → A8 → A9 → A10 → Option β) → Option β) (j : A1 → A2 → A3 → A4 → A5 → A6 → A7 → A8 → A9 → A10 → Option β) : Option β := b j
theorem jn10_of {A1 A2 A3 A4 A5 A6 A7 A8 A9 A10 β : Type} {b : (A1 → A2 → A3 → A4 → A5 → A6 → A7 → A8 → A9 → A10 → Option β) → Option β} {j : A1 → A2 → A3 → A4 → A5 → A6 → A7 → A8 → A9 → A10 → Option β} {o : β} {Go : Prop} (P : A1 → A2 → A3 → A4 → A5 → A6 → A7 → A8 → A9 → A10 → Prop) (E : jn10 b j = some o) (h1 : ∀ (a1 : A1) (a2 : A2) (a3 : A3) (a4 : A4) (a5 : A5) (a6 : A6) (a7 : A7) (a8 : A8) (a9 : A9) (a10 : A10), j a1 a2 a3 a4 a5 a6 a7 a8 a9 a10 = some o → P a1 a2 a3 a4 a5 a6 a7 a8 a9 a10) (h2 : ∀ j : A1 → A2 → A3 → A4 → A5 → A6 → A7 → A8 → A9 → A10 → Option β, (∀ (a1 : A1) (a2 : A2) (a3 : A3) (a4 : A4) (a5 : A5) (a6 : A6) (a7 : A7) (a8 : A8) (a9 : A9) (a10 : A10), j a1 a2 a3 a4 a5 a6 a7 a8 a9 a10 = some o → P a1 a2 a3 a4 a5 a6 a7 a8 a9 a10) → b j = some o → Go) : Go := h2 j h1 E
def fx10 {A1 A2 A3 A4 A5 A6 A7 A8 A9 A10 β : Type} (F : (A1 → A2 → A3 → A4 → A5 → A6 → A7 → A8 → A9 → A10 → Option β) → A1 → A2 → A3 → A4 → A5 → A6 → A7 → A8 → A9 → A10 → Option β) : Nat → A1 → A2 → A3 → A4 → A5 → A6 → A7 → A8 → A9 → A10 → Option β
  | 0, _, _, _, _, _, _, _, _, _, _ => none
  | n + 1, a1, a2, a3, a4, a5, a6, a7, a8, a9, a10 => F (fx10 F n) a1 a2 a3 a4 a5 a6 a7 a8 a9 a10
theorem fx10_of {A1 A2 A3 A4 A5 A6 A7 A8 A9 A10 β : Type} {F : (A1 → A2 → A3 → A4 → A5 → A6 → A7 → A8 → A9 → A10 → Option β) → A1 → A2 → A3 → A4 → A5 → A6 → A7 → A8 → A9 → A10 → Option β} {o : β} (P : A1 → A2 → A3 → A4 → A5 → A6 → A7 → A8 → A9 → A10 → Prop) (hs : ∀ self : A1 → A2 → A3 → A4 → A5 → A6 → A7 → A8 → A9 → A10 → Option β, (∀ (a1 : A1) (a2 : A2) (a3 : A3) (a4 : A4) (a5 : A5) (a6 : A6) (a7 : A7) (a8 : A8) (a9 : A9) (a10 : A10), self a1 a2 a3 a4 a5 a6 a7 a8 a9 a10 = some o → P a1 a2 a3 a4 a5 a6 a7 a8 a9 a10) → ∀ (a1 : A1) (a2 : A2) (a3 : A3) (a4 : A4) (a5 : A5) (a6 : A6) (a7 : A7) (a8 : A8) (a9 : A9) (a10 : A10), F self a1 a2 a3 a4 a5 a6 a7 a8 a9 a10 = some o → P a1 a2 a3 a4 a5 a6 a7 a8 a9 a10) : ∀ (n : Nat) (a1 : A1) (a2 : A2) (a3 : A3) (a4 : A4) (a5 : A5) (a6 : A6) (a7 : A7) (a8 : A8) (a9 : A9) (a10 : A10), fx10 F n a1 a2 a3 a4 a5 a6 a7 a8 a9 a10 = some o → P a1 a2 a3 a4 a5 a6 a7 a8 a9 a10
  | 0, _, _, _, _, _, _, _, _, _, _, h => by cases h
  | n + 1, a1, a2, a3, a4, a5, a6, a7, a8, a9, a10, h => hs (fx10 F n) (fx10_of P hs n) a1 a2 a3 a4 a5 a6 a7 a8 a9 a10 h
theorem fxc10_of {A1 A2 A3 A4 A5 A6 A7 A8 A9 A10 β : Type} {F : (A1 → A2 → A3 → A4 → A5 → A6 → A7 → A8 → A9 → A10 → Option β) → A1 → A2 → A3 → A4 → A5 → A6 → A7 → A8 → A9 → A10 → Option β} {o : β} (P : Nat → A1 → A2 → A3 → A4 → A5 → A6 → A7 → A8 → A9 → A10 → Prop) (hs : ∀ (m : Nat) (self : A1 → A2 → A3 → A4 → A5 → A6 → A7 → A8 → A9 → A10 → Option β), (∀ (a1 : A1) (a2 : A2) (a3 : A3) (a4 : A4) (a5 : A5) (a6 : A6) (a7 : A7) (a8 : A8) (a9 : A9) (a10 : A10), self a1 a2 a3 a4 a5 a6 a7 a8 a9 a10 = some o → P m a1 a2 a3 a4 a5 a6 a7 a8 a9 a10) → ∀ (a1 : A1) (a2 : A2) (a3 : A3) (a4 : A4) (a5 : A5) (a6 : A6) (a7 : A7) (a8 : A8) (a9 : A9) (a10 : A10), F self a1 a2 a3 a4 a5 a6 a7 a8 a9 a10 = some o → P (m + 1) a1 a2 a3 a4 a5 a6 a7 a8 a9 a10) : ∀ (n : Nat) (a1 : A1) (a2 : A2) (a3 : A3) (a4 : A4) (a5 : A5) (a6 : A6) (a7 : A7) (a8 : A8) (a9 : A9) (a10 : A10), fx10 F n a1 a2 a3 a4 a5 a6 a7 a8 a9 a10 = some o → P n a1 a2 a3 a4 a5 a6 a7 a8 a9 a10
  | 0, _, _, _, _, _, _, _, _, _, _, h => by cases h
  | n + 1, a1, a2, a3, a4, a5, a6, a7, a8, a9, a10, h => hs n (fx10 F n) (fxc10_of P hs n) a1 a2 a3 a4 a5 a6 a7 a8 a9 a10 h
def jn11 {A1 A2 A3 A4 A5 A6 A7 A8 A9 A10 A11 β : Type} (b : (A1 → A2 → A3 → A4 → A5 → A6 → A7 → A8 → A9 → A10 → A11 → Option β) → Option β) (j : A1 → A2 → A3 → A4 → A5 → A6 → A7 → A8 → A9 → A10 → A11 → Option β) : Option β := b j
theorem jn11_of {A1 A2 A3 A4 A5 A6 A7 A8 A9 A10 A11 β : Type} {b : (A1 → A2 → A3 → A4 → A5 → A6 → A7 → A8 → A9 → A10 → A11 → Option β) → Option β} {j : A1 → A2 → A3 → A4 → A5 → A6 → A7 → A8 → A9 → A10 → A11 → Option β} {o : β} {Go : Prop} (P : A1 → A2 → A3 → A4 → A5 → A6 → A7 → A8 → A9 → A10 → A11 → Prop) (E : jn11 b j = some o) (h1 : ∀ (a1 : A1) (a2 : A2) (a3 : A3) (a4 : A4) (a5 : A5) (a6 : A6) (a7 : A7) (a8 : A8) (a9 : A9) (a10 : A10) (a11 : A11), j a1 a2 a3 a4 a5 a6 a7 a8 a9 a10 a11 = some o → P a1 a2 a3 a4 a5 a6 a7 a8 a9 a10 a11) (h2 : ∀ j : A1 → A2 → A3 → A4 → A5 → A6 → A7 → A8 → A9 → A10 → A11 → Option β, (∀ (a1 : A1) (a2 : A2) (a3 : A3) (a4 : A4) (a5 : A5) (a6 : A6) (a7 : A7) (a8 : A8) (a9 : A9) (a10 : A10) (a11 : A11), j a1 a2 a3 a4 a5 a6 a7 a8 a9 a10 a11 = some o → P a1 a2 a3 a4 a5 a6 a7 a8 a9 a10 a11) → b j = some o → Go) : Go := h2 j h1 E
def fx11 {A1 A2 A3 A4 A5 A6 A7 A8 A9 A10 A11 β : Type} (F : (A1 → A2 → A3 → A4 → A5 → A6 → A7 → A8 → A9 → A10 → A11 → Option β) → A1 → A2 → A3 → A4 → A5 → A6 → A7 → A8 → A9 → A10 → A11 → Option β) : Nat → A1 → A2 → A3 → A4 → A5 → A6 → A7 → A8 → A9 → A10 → A11 → Option β
  | 0, _, _, _, _, _, _, _, _, _, _, _ => none
  | n + 1, a1, a2, a3, a4, a5, a6, a7, a8, a9, a10, a11 => F (fx11 F n) a1 a2 a3 a4 a5 a6 a7 a8 a9 a10 a11
theorem fx11_of {A1 A2 A3 A4 A5 A6 A7 A8 A9 A10 A11 β : Type} {F : (A1 → A2 → A3 → A4 → A5 → A6 → A7 → A8 → A9 → A10 → A11 → Option β) → A1 → A2 → A3 → A4 → A5 → A6 → A7 → A8 → A9 → A10 → A11 → Option β} {o : β} (P : A1 → A2 → A3 → A4 → A5 → A6 → A7 → A8 → A9 → A10 → A11 → Prop) (hs : ∀ self : A1 → A2 → A3 → A4 → A5 → A6 → A7 → A8 → A9 → A10 → A11 → Option β, (∀ (a1 : A1) (a2 : A2) (a3 : A3) (a4 : A4) (a5 : A5) (a6 : A6) (a7 : A7) (a8 : A8) (a9 : A9) (a10 : A10) (a11 : A11), self a1 a2 a3 a4 a5 a6 a7 a8 a9 a10 a11 = some o → P a1 a2 a3 a4 a5 a6 a7 a8 a9 a10 a11) → ∀ (a1 : A1) (a2 : A2) (a3 : A3) (a4 : A4) (a5 : A5) (a6 : A6) (a7 : A7) (a8 : A8) (a9 : A9) (a10 : A10) (a11 : A11), F self a1 a2 a3 a4 a5 a6 a7 a8 a9 a10 a11 = some o → P a1 a2 a3 a4 a5 a6 a7 a8 a9 a10 a11) : ∀ (n : Nat) (a1 : A1) (a2 : A2) (a3 : A3) (a4 : A4) (a5 : A5) (a6 : A6) (a7 : A7) (a8 : A8) (a9 : A9) (a10 : A10) (a11 : A11), fx11 F n a1 a2 a3 a4 a5 a6 a7 a8 a9 a10 a11 = some o → P a1 a2 a3 a4 a5 a6 a7 a8 a9 a10 a11
  | 0, _, _, _, _, _, _, _, _, _, _, _, h => by cases h
  | n + 1, a1, a2, a3, a4, a5, a6, a7, a8, a9, a10, a11, h => hs (fx11 F n) (fx11_of P hs n) a1 a2 a3 a4 a5 a6 a7 a8 a9 a10 a11 h
theorem fxc11_of {A1 A2 A3 A4 A5 A6 A7 A8 A9 A10 A11 β : Type} {F : (A1 → A2 → A3 → A4 → A5 → A6 → A7 → A8 → A9 → A10 → A11 → Option β) → A1 → A2 → A3 → A4 → A5 → A6 → A7 → A8 → A9 → A10 → A11 → Option β} {o : β} (P : Nat → A1 → A2 → A3 → A4 → A5 → A6 → A7 → A8 → A9 → A10 → A11 → Prop) (hs : ∀ (m : Nat) (self : A1 → A2 → A3 → A4 → A5 → A6 → A7 → A8 → A9 → A10 → A11 → Option β), (∀ (a1 : A1) (a2 : A2) (a3 : A3) (a4 : A4) (a5 : A5) (a6 : A6) (a7 : A7) (a8 : A8) (a9 : A9) (a10 : A10) (a11 : A11), self a1 a2 a3 a4 a5 a6 a7 a8 a9 a10 a11 = some o → P m a1 a2 a3 a4 a5 a6 a7 a8 a9 a10 a11) → ∀ (a1 : A1) (a2 : A2) (a3 : A3) (a4 : A4) (a5 : A5) (a6 : A6) (a7 : A7) (a8 : A8) (a9 : A9) (a10 : A10) (a11 : A11), F self a1 a2 a3 a4 a5 a6 a7 a8 a9 a10 a11 = some o → P (m + 1) a1 a2 a3 a4 a5 a6 a7 a8 a9 a10 a11) : ∀ (n : Nat) (a1 : A1) (a2 : A2) (a3 : A3) (a4 : A4) (a5 : A5) (a6 : A6) (a7 : A7) (a8 : A8) (a9 : A9) (a10 : A10) (a11 : A11), fx11 F n a1 a2 a3 a4 a5 a6 a7 a8 a9 a10 a11 = some o → P n a1 a2 a3 a4 a5 a6 a7 a8 a9 a10 a11
  | 0, _, _, _, _, _, _, _, _, _, _, _, h => by cases h
  | n + 1, a1, a2, a3, a4, a5, a6, a7, a8, a9, a10, a11, h => hs n (fx11 F n) (fxc11_of P hs n) a1 a2 a3 a4 a5 a6 a7 a8 a9 a10 a11 h
def jn12 {A1 A2 A3 A4 A5 A6 A7 A8 A9 A10 A11 A12 β : Type} (b : (A1 → A2 → A3 → A4 → A5 → A6 → A7 → A8 → A9 → A10 → A11 → A12 → Option β) → Option β) (j : A1 → A2 → A3 → A4 → A5 → A6 → A7 → A8 → A9 → A10 → A11 → A12 → Option β) : Option β := b j
theorem jn12_of {A1 A2 A3 A4 A5 A6 A7 A8 A9 A10 A11 A12 β : Type} {b : (A1 → A2 → A3 → A4 → A5 → A6 → A7 → A8 → A9 → A10 → A11 → A12 → Option β) → Option β} {j : A1 → A2 → A3 → A4 → A5 → A6 → A7 → A8 → A9 → A10 → A11 → A12 → Option β} {o : β} {Go : Prop} (P : A1 → A2 → A3 → A4 → A5 → A6 → A7 → A8 → A9 → A10 → A11 → A12 → Prop) (E : jn12 b j = some o) (h1 : ∀ (a1 : A1) (a2 : A2) (a3 : A3) (a4 : A4) (a5 : A5) (a6 : A6) (a7 : A7) (a8 : A8) (a9 : A9) (a10 : A10) (a11 : A11) (a12 : A12), j a1 a2 a3 a4 a5 a6 a7 a8 a9 a10 a11 a12 = some o → P a1 a2 a3 a4 a5 a6 a7 a8 a9 a10 a11 a12) (h2 : ∀ j : A1 → A2 → A3 → A4 → A5 → A6 → A7 → A8 → A9 → A10 → A11 → A12 → Option β, (∀ (a1 : A1) (a2 : A2) (a3 : A3) (a4 : A4) (a5 : A5) (a6 : A6) (a7 : A7) (a8 : A8) (a9 : A9) (a10 : A10) (a11 : A11) (a12 : A12), j a1 a2 a3 a4 a5 a6 a7 a8 a9 a10 a11 a12 = some o → P a1 a2 a3 a4 a5 a6 a7 a8 a9 a10 a11 a12) → b j = some o → Go) : Go := h2 j h1 E
def fx12 {A1 A2 A3 A4 A5 A6 A7 A8 A9 A10 A11 A12 β : Type} (F : (A1 → A2 → A3 → A4 → A5 → A6 → A7 → A8 → A9 → A10 → A11 → A12 → Option β) → A1 → A2 → A3 → A4 → A5 → A6 → A7 → A8 → A9 → A10 → A11 → A12 → Option β) : Nat → A1 → A2 → A3 → A4 → A5 → A6 → A7 → A8 → A9 → A10 → A11 → A12 → Option β
  | 0, _, _, _, _, _, _, _, _, _, _, _, _ => none
  | n + 1, a1, a2, a3, a4, a5, a6, a7, a8, a9, a10, a11, a12 => F (fx12 F n) a1 a2 a3 a4 a5 a6 a7 a8 a9 a10 a11 a12
theorem fx12_of {A1 A2 A3 A4 A5 A6 A7 A8 A9 A10 A11 A12 β : Type} {F : (A1 → A2 → A3 → A4 → A5 → A6 → A7 → A8 → A9 → A10 → A11 → A12 → Option β) → A1 → A2 → A3 → A4 → A5 → A6 → A7 → A8 → A9 → A10 → A11 → A12 → Option β} {o : β} (P : A1 → A2 → A3 → A4 → A5 → A6 → A7 → A8 → A9 → A10 → A11 → A12 → Prop) (hs : ∀ self : A1 → A2 → A3 → A4 → A5 → A6 → A7 → A8 → A9 → A10 → A11 → A12 → Option β, (∀ (a1 : A1) (a2 : A2) (a3 : A3) (a4 : A4) (a5 : A5) (a6 : A6) (a7 : A7) (a8 : A8) (a9 : A9) (a10 : A10) (a11 : A11) (a12 : A12), self a1 a2 a3 a4 a5 a6 a7 a8 a9 a10 a11 a12 = some o → P a1 a2 a3 a4 a5 a6 a7 a8 a9 a10 a11 a12) → ∀ (a1 : A1) (a2 : A2) (a3 : A3) (a4 : A4) (a5 : A5) (a6 : A6) (a7 : A7) (a8 : A8) (a9 : A9) (a10 : A10) (a11 : A11) (a12 : A12), F self a1 a2 a3 a4 a5 a6 a7 a8 a9 a10 a11 a12 = some o → P a1 a2 a3 a4 a5 a6 a7 a8 a9 a10 a11 a12) : ∀ (n : Nat) (a1 : A1) (a2 : A2) (a3 : A3) (a4 : A4) (a5 : A5) (a6 : A6) (a7 : A7) (a8 : A8) (a9 : A9) (a10 : A10) (a11 : A11) (a12 : A12), fx12 F n a1 a2 a3 a4 a5 a6 a7 a8 a9 a10 a11 a12 = some o → P a1 a2 a3 a4 a5 a6 a7 a8 a9 a10 a11 a12
  | 0, _, _, _, _, _, _, _, _, _, _, _, _, h => by cases h
  | n + 1, a1, a2, a3, a4, a5, a6, a7, a8, a9, a10, a11, a12, h => hs (fx12 F n) (fx12_of P hs n) a1 a2 a3 a4 a5 a6 a7 a8 a9 a10 a11 a12 h
theorem fxc12_of {A1 A2 A3 A4 A5 A6 A7 A8 A9 A10 A11 A12 β : Type} {F : (A1 → A2 → A3 → A4 → A5 → A6 → A7 → A8 → A9 → A10 → A11 → A12 → Option β) → A1 → A2 → A3 → A4 → A5 → A6 → A7 → A8 → A9 → A10 → A11 → A12 → Option β} {o : β} (P : Nat → A1 → A2 → A3 → A4 → A5 → A6 → A7 → A8 → A9 → A10 → A11 → A12 → Prop) (hs : ∀ (m : Nat) (self : A1 → A2 → A3 → A4 → A5 → A6 → A7 → A8 → A9 → A10 → A11 → A12 → Option β), (∀ (a1 : A1) (a2 : A2) (a3 : A3) (a4 : A4) (a5 : A5) (a6 : A6) (a7 : A7) (a8 : A8) (a9 : A9) (a10 : A10) (a11 : A11) (a12 : A12), self a1 a2 a3 a4 a5 a6 a7 a8 a9 a10 a11 a12 = some o → P m a1 a2 a3 a4 a5 a6 a7 a8 a9 a10 a11 a12) → ∀ (a1 : A1) (a2 : A2) (a3 : A3) (a4 : A4) (a5 : A5) (a6 : A6) (a7 : A7) (a8 : A8) (a9 : A9) (a10 : A10) (a11 : A11) (a12 : A12), F self a1 a2 a3 a4 a5 a6 a7 a8 a9 a10 a11 a12 = some o → P (m + 1) a1 a2 a3 a4 a5 a6 a7 a8 a9 a10 a11 a12) : ∀ (n : Nat) (a1 : A1) (a2 : A2) (a3 : A3) (a4 : A4) (a5 : A5) (a6 : A6) (a7 : A7) (a8 : A8) (a9 : A9) (a10 : A10) (a11 : A11) (a12 : A12), fx12 F n a1 a2 a3 a4 a5 a6 a7 a8 a9 a10 a11 a12 = some o → P n a1 a2 a3 a4 a5 a6 a7 a8 a9 a10 a11 a12
  | 0, _, _, _, _, _, _, _, _, _, _, _, _, h => by cases h
  | n + 1, a1, a2, a3, a4, a5, a6, a7, a8, a9, a10, a11, a12, h => hs n (fx12 F n) (fxc12_of P hs n) a1 a2 a3 a4 a5 a6 a7 a8 a9 a10 a11 a12 h
def jn13 {A1 A2 A3 A4 A5 A6 A7 A8 A9 A10 A11 A12 A13 β : Type} (b : (A1 → A2 → A3 → A4 → A5 → A6 → A7 → A8 → A9 → A10 → A11 → A12 → A13 → Option β) → Option β) (j : A1 → A2 → A3 → A4 → A5 → A6 → A7 → A8 → A9 → A10 → A11 → A12 → A13 → Option β) : Option β := b j
theorem jn13_of {A1 A2 A3 A4 A5 A6 A7 A8 A9 A10 A11 A12 A13 β : Type} {b : (A1 → A2 → A3 → A4 → A5 → A6 → A7 → A8 → A9 → A10 → A11 → A12 → A13 → Option β) → Option β} {j : A1 → A2 → A3 → A4 → A5 → A6 → A7 → A8 → A9 → A10 → A11 → A12 → A13 → Option β} {o : β} {Go : Prop} (P : A1 → A2 → A3 → A4 → A5 → A6 → A7 → A8 → A9 → A10 → A11 → A12 → A13 → Prop) (E : jn13 b j = some o) (h1 : ∀ (a1 : A1) (a2 : A2) (a3 : A3) (a4 : A4) (a5 : A5) (a6 : A6) (a7 : A7) (a8 : A8) (a9 : A9) (a10 : A10) (a11 : A11) (a12 : A12) (a13 : A13), j a1 a2 a3 a4 a5 a6 a7 a8 a9 a10 a11 a12 a13 = some o → P a1 a2 a3 a4 a5 a6 a7 a8 a9 a10 a11 a12 a13) (h2 : ∀ j : A1 → A2 → A3 → A4 → A5 → A6 → A7 → A8 → A9 → A10 → A11 → A12 → A13 → Option β, (∀ (a1 : A1) (a2 : A2) (a3 : A3) (a4 : A4) (a5 : A5) (a6 : A6) (a7 : A7) (a8 : A8) (a9 : A9) (a10 : A10) (a11 : A11) (a12 : A12) (a13 : A13), j a1 a2 a3 a4 a5 a6 a7 a8 a9 a10 a11 a12 a13 = some o → P a1 a2 a3 a4 a5 a6 a7 a8 a9 a10 a11 a12 a13) → b j = some o → Go) : Go := h2 j h1 E
def fx13 {A1 A2 A3 A4 A5 A6 A7 A8 A9 A10 A11 A12 A13 β : Type} (F : (A1 → A2 → A3 → A4 → A5 → A6 → A7 → A8 → A9 → A10 → A11 → A12 → A13 → Option β) → A1 → A2 → A3 → A4 → A5 → A6 → A7 → A8 → A9 → A10 → A11 → A12 → A13 → Option β) : Nat → A1 → A2 → A3 → A4 → A5 → A6 → A7 → A8 → A9 → A10 → A11 → A12 → A13 → Option β
  | 0, _, _, _, _, _, _, _, _, _, _, _, _, _ => none
  | n + 1, a1, a2, a3, a4, a5, a6, a7, a8, a9, a10, a11, a12, a13 => F (fx13 F n) a1 a2 a3 a4 a5 a6 a7 a8 a9 a10 a11 a12 a13
theorem fx13_of {A1 A2 A3 A4 A5 A6 A7 A8 A9 A10 A11 A12 A13 β : Type} {F : (A1 → A2 → A3 → A4 → A5 → A6 → A7 → A8 → A9 → A10 → A11 → A12 → A13 → Option β) → A1 → A2 → A3 → A4 → A5 → A6 → A7 → A8 → A9 → A10 → A11 → A12 → A13 → Option β} {o : β} (P : A1 → A2 → A3 → A4 → A5 → A6 → A7 → A8 → A9 → A10 → A11 → A12 → A13 → Prop) (hs : ∀ self : A1 → A2 → A3 → A4 → A5 → A6 → A7 → A8 → A9 → A10 → A11 → A12 → A13 → Option β, (∀ (a1 : A1) (a2 : A2) (a3 : A3) (a4 : A4) (a5 : A5) (a6 : A6) (a7 : A7) (a8 : A8) (a9 : A9) (a10 : A10) (a11 : A11) (a12 : A12) (a13 : A13), self a1 a2 a3 a4 a5 a6 a7 a8 a9 a10 a11 a12 a13 = some o → P a1 a2 a3 a4 a5 a6 a7 a8 a9 a10 a11 a12 a13) → ∀ (a1 : A1) (a2 : A2) (a3 : A3) (a4 : A4) (a5 : A5) (a6 : A6) (a7 : A7) (a8 : A8) (a9 : A9) (a10 : A10) (a11 : A11) (a12 : A12) (a13 : A13), F self a1 a2 a3 a4 a5 a6 a7 a8 a9 a10 a11 a12 a13 = some o → P a1 a2 a3 a4 a5 a6 a7 a8 a9 a10 a11 a12 a13) : ∀ (n : Nat) (a1 : A1) (a2 : A2) (a3 : A3) (a4 : A4) (a5 : A5) (a6 : A6) (a7 : A7) (a8 : A8) (a9 : A9) (a10 : A10) (a11 : A11) (a12 : A12) (a13 : A13), fx13 F n a1 a2 a3 a4 a5 a6 a7 a8 a9 a10 a11 a12 a13 = some o → P a1 a2 a3 a4 a5 a6 a7 a8 a9 a10 a11 a12 a13
  | 0, _, _, _, _, _, _, _, _, _, _, _, _, _, h => by cases h
  | n + 1, a1, a2, a3, a4, a5, a6, a7, a8, a9, a10, a11, a12, a13, h => hs (fx13 F n) (fx13_of P hs n) a1 a2 a3 a4 a5 a6 a7 a8 a9 a10 a11 a12 a13 h
theorem fxc13_of {A1 A2 A3 A4 A5 A6 A7 A8 A9 A10 A11 A12 A13 β : Type} {F : (A1 → A2 → A3 → A4 → A5 → A6 → A7 → A8 → A9 → A10 → A11 → A12 → A13 → Option β) → A1 → A2 → A3 → A4 → A5 → A6 → A7 → A8 → A9 → A10 → A11 → A12 → A13 → Option β} {o : β} (P : Nat → A1 → A2 → A3 → A4 → A5 → A6 → A7 → A8 → A9 → A10 → A11 → A12 → A13 → Prop) (hs : ∀ (m : Nat) (self : A1 → A2 → A3 → A4 → A5 → A6 → A7 → A8 → A9 → A10 → A11 → A12 → A13 → Option β), (∀ (a1 : A1) (a2 : A2) (a3 : A3) (a4 : A4) (a5 : A5) (a6 : A6) (a7 : A7) (a8 : A8) (a9 : A9) (a10 : A10) (a11 : A11) (a12 : A12) (a13 : A13), self a1 a2 a3 a4 a5 a6 a7 a8 a9 a10 a11 a12 a13 = some o → P m a1 a2 a3 a4 a5 a6 a7 a8 a9 a10 a11 a12 a13) → ∀ (a1 : A1) (a2 : A2) (a3 : A3) (a4 : A4) (a5 : A5) (a6 : A6) (a7 : A7) (a8 : A8) (a9 : A9) (a10 : A10) (a11 : A11) (a12 : A12) (a13 : A13), F self a1 a2 a3 a4 a5 a6 a7 a8 a9 a10 a11 a12 a13 = some o → P (m + 1) a1 a2 a3 a4 a5 a6 a7 a8 a9 a10 a11 a12 a13) : ∀ (n : Nat) (a1 : A1) (a2 : A2) (a3 : A3) (a4 : A4) (a5 : A5) (a6 : A6) (a7 : A7) (a8 : A8) (a9 : A9) (a10 : A10) (a11 : A11) (a12 : A12) (a13 : A13), fx13 F n a1 a2 a3 a4 a5 a6 a7 a8 a9 a10 a11 a12 a13 = some o → P n a1 a2 a3 a4 a5 a6 a7 a8 a9 a10 a11 a12 a13
  | 0, _, _, _, _, _, _, _, _, _, _, _, _, _, h => by cases h
  | n + 1, a1, a2, a3, a4, a5, a6, a7, a8, a9, a10, a11, a12, a13, h => hs n (fx13 F n) (fxc13_of P hs n) a1 a2 a3 a4 a5 a6 a7 a8 a9 a10 a11 a12 a13 h
