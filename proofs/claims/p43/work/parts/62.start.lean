-- ===== end of PART A; then your names; then what follows =====
/-! THE CLAIM OUT OF ONE WALK OF THE LAW'S BODY. Your part is whole_start (and what it stands on); all else here is the same for every law, but numbers. -/
def R_law : String := "ComparatoryLaw"
def lw_P (b : Addr) (xs : List Int32) (args : Array Value) (s : State) : Prop := args = #[.ref b] ∧ s.IntsAt b xs ∧ xs.length ≤ 260 ∧ (Jvm.Cond.and given_1 narrow_1).before args s = true
def lw_Q (_ : Array Value) (s : State) (o : Outcome) (t : State) : Prop := o = .returned (some (.int 1)) ∧ Framed s o t [] 600130 7301080
def lw_Z (below : List Frame) (a : Array Value) (s : State) : State → Prop := fun t => ∃ o, t.status = .running ∧ Ended t below o ∧ lw_Q a s o t
/-- the law's own end, with 1 on the stack, nothing written that was there before, its room as the claim has it -/
theorem lw_ret {p : Program} {l : Launch} {e : Env} {s : State} {m : MethodId} {below : List Frame} {meth : Method} {c : Code} {b : Nat} (hx : p.tables.exec = Jvm.exec) (hb : c.code = code) (hr : meth.sig.returnType = ret) (hlocks : meth.locks = false) {pc : Nat} {H : Heap} {ls : Array Slot} (hdg : decode code pc = .ok (.ireturn, 1)) : W p l e room_1 s m #[Value.ref b] below meth c H [] 600130 7301080 (lw_Z below #[Value.ref b] s) (F0 m pc ls [.int 1]) := by
  intro T hT X
  obtain ⟨fs, hret, hrun, hended, hW, hframe⟩ := X.leave (v := some (.int 1)) (hlocks := hlocks) (fun h => by rw [hr] at h; cases h)
  have hmeth' : T.vm.method? m = some meth := X.method'
  refine ⟨T.setFrames fs, ?_, .returned (some (.int 1)), hrun, hended, rfl, ⟨_, rfl⟩, hW, hframe⟩
  jvm_step X.here [X.here.top, hx, hb, hdg, hmeth', hr, ret, narrow_b1]
  (try refine ⟨rfl, ?_⟩); (try refine ⟨rfl, ?_⟩)
  first | (intro acts; rw [hret _ acts rfl rfl rfl]) | rw [hret _ _ rfl rfl rfl]
  exact Steps.refl _
/-- what holds at the law's entry: the machine, the code, the tables' words (any of lw_tbl by 'hts w (by decide +kernel)'), the script of L ints xs at the cell b, what the Statement gives of the start (any of its parts by flat_of_before) -/
def lw_At (p : Program) (s : State) (m : MethodId) (meth : Method) (c : Code) (b L : Nat) (xs : Nat → Int32) : Prop :=
  p.tables.exec = Jvm.exec ∧ c.code = code ∧ meth.sig.returnType = ret ∧ c.maxLocals = 18 ∧ s.vm.findClass R_law = some m.cls ∧ (∀ w ∈ lw_tbl, w.before #[Value.ref b] s = true) ∧ va_X b L xs s s.heap ∧ b < s.heap.size ∧ meth.locks = false ∧ (Jvm.Cond.and given_1 narrow_1).before #[Value.ref b] s = true

/-! THE START: what the Statement gives of the first state -/
def lwA (s : State) : Nat → Prop := fun q => s.heap.size ≤ q
section ST
variable {p : Program} {s : State} {m : MethodId} {meth : Method} {c : Code} {b L : Nat} {xs : Nat → Int32}
theorem st_flat (C0 : lw_At p s m meth c b L xs) {w : Cond} (h : w ∈ flatC (Jvm.Cond.and given_1 narrow_1)) : w.before #[Value.ref b] s = true := by
  obtain ⟨hx, hb, hr, hml, hown, hts, hX, hbl, hlocks, hgv⟩ := C0
  exact flat_of_before _ hgv w h
theorem lwA_no {s : State} : ∀ a : Nat, a < s.heap.size → ¬ lwA s a := fun a h q => Nat.not_lt_of_le q h
set_option maxRecDepth 100000 in
set_option maxHeartbeats 4000000 in
theorem st_sINP (C0 : lw_At p s m meth c b L xs) : sINP (lwA s) s s.heap := by
  have hts := C0.2.2.2.2.2.1
  have harr := st_flat C0 (w := Cond.arrayOf (.static "Comparatory$Proof" "INPUTS" "[J") .long) (by decide +kernel)
  have hlen : (Term.length (.static "Comparatory$Proof" "INPUTS" "[J")).eval #[Value.ref b] s none [] s = some (.int (Int32.ofNat 6)) := va_eqt (st_flat C0 (w := Cond.eq (.length (.static "Comparatory$Proof" "INPUTS" "[J")) (.int 6)) (by decide +kernel))
  have e0 : (Term.elem (.static "Comparatory$Proof" "INPUTS" "[J") (.int 0)).eval #[Value.ref b] s none [] s = some (.long (-6148914691236517206)) := va_eqtl (st_flat C0 (w := Cond.eq (.elem (.static "Comparatory$Proof" "INPUTS" "[J") (.int 0)) (.long (-6148914691236517206))) (by decide +kernel))
  have e1 : (Term.elem (.static "Comparatory$Proof" "INPUTS" "[J") (.int 1)).eval #[Value.ref b] s none [] s = some (.long (-3689348814741910324)) := va_eqtl (st_flat C0 (w := Cond.eq (.elem (.static "Comparatory$Proof" "INPUTS" "[J") (.int 1)) (.long (-3689348814741910324))) (by decide +kernel))
  have e2 : (Term.elem (.static "Comparatory$Proof" "INPUTS" "[J") (.int 2)).eval #[Value.ref b] s none [] s = some (.long (-1085102592571150096)) := va_eqtl (st_flat C0 (w := Cond.eq (.elem (.static "Comparatory$Proof" "INPUTS" "[J") (.int 2)) (.long (-1085102592571150096))) (by decide +kernel))
  have e3 : (Term.elem (.static "Comparatory$Proof" "INPUTS" "[J") (.int 3)).eval #[Value.ref b] s none [] s = some (.long (-71777214294589696)) := va_eqtl (st_flat C0 (w := Cond.eq (.elem (.static "Comparatory$Proof" "INPUTS" "[J") (.int 3)) (.long (-71777214294589696))) (by decide +kernel))
  have e4 : (Term.elem (.static "Comparatory$Proof" "INPUTS" "[J") (.int 4)).eval #[Value.ref b] s none [] s = some (.long (-281470681808896)) := va_eqtl (st_flat C0 (w := Cond.eq (.elem (.static "Comparatory$Proof" "INPUTS" "[J") (.int 4)) (.long (-281470681808896))) (by decide +kernel))
  have e5 : (Term.elem (.static "Comparatory$Proof" "INPUTS" "[J") (.int 5)).eval #[Value.ref b] s none [] s = some (.long (-4294967296)) := va_eqtl (st_flat C0 (w := Cond.eq (.elem (.static "Comparatory$Proof" "INPUTS" "[J") (.int 5)) (.long (-4294967296))) (by decide +kernel))
  obtain ⟨t, h1, h2⟩ := va_Tof (N := 6) (f := fun j => .long (fINP j)) (by decide) harr hlen (fun j hj => by
    match j, hj with
    | 0, _ => exact e0
    | 1, _ => exact e1
    | 2, _ => exact e2
    | 3, _ => exact e3
    | 4, _ => exact e4
    | 5, _ => exact e5
    | j + 6, hj => exact absurd hj (by omega)) lwA_no
  exact ⟨t, va_Zof (hts (.laysStatic "Comparatory$Proof" "INPUTS" "[J") (List.mem_of_getElem? (i := 592) (by decide +kernel))) (hts (.initialized "Comparatory$Proof") (List.mem_of_getElem? (i := 28) (by decide +kernel))) h1 lwA_no, h2⟩
set_option maxRecDepth 100000 in
set_option maxHeartbeats 4000000 in
theorem st_sFAC (C0 : lw_At p s m meth c b L xs) : sFAC (lwA s) s s.heap := by
  have hts := C0.2.2.2.2.2.1
  have harr := st_flat C0 (w := Cond.arrayOf (.static "Comparatory$Rows" "FACTORIALS" "[I") .int) (by decide +kernel)
  have hlen : (Term.length (.static "Comparatory$Rows" "FACTORIALS" "[I")).eval #[Value.ref b] s none [] s = some (.int (Int32.ofNat 7)) := va_eqt (st_flat C0 (w := Cond.eq (.length (.static "Comparatory$Rows" "FACTORIALS" "[I")) (.int 7)) (by decide +kernel))
  have e0 : (Term.elem (.static "Comparatory$Rows" "FACTORIALS" "[I") (.int 0)).eval #[Value.ref b] s none [] s = some (.int (1)) := va_eqt (st_flat C0 (w := Cond.eq (.elem (.static "Comparatory$Rows" "FACTORIALS" "[I") (.int 0)) (.int (1))) (by decide +kernel))
  have e1 : (Term.elem (.static "Comparatory$Rows" "FACTORIALS" "[I") (.int 1)).eval #[Value.ref b] s none [] s = some (.int (1)) := va_eqt (st_flat C0 (w := Cond.eq (.elem (.static "Comparatory$Rows" "FACTORIALS" "[I") (.int 1)) (.int (1))) (by decide +kernel))
  have e2 : (Term.elem (.static "Comparatory$Rows" "FACTORIALS" "[I") (.int 2)).eval #[Value.ref b] s none [] s = some (.int (2)) := va_eqt (st_flat C0 (w := Cond.eq (.elem (.static "Comparatory$Rows" "FACTORIALS" "[I") (.int 2)) (.int (2))) (by decide +kernel))
  have e3 : (Term.elem (.static "Comparatory$Rows" "FACTORIALS" "[I") (.int 3)).eval #[Value.ref b] s none [] s = some (.int (6)) := va_eqt (st_flat C0 (w := Cond.eq (.elem (.static "Comparatory$Rows" "FACTORIALS" "[I") (.int 3)) (.int (6))) (by decide +kernel))
  have e4 : (Term.elem (.static "Comparatory$Rows" "FACTORIALS" "[I") (.int 4)).eval #[Value.ref b] s none [] s = some (.int (24)) := va_eqt (st_flat C0 (w := Cond.eq (.elem (.static "Comparatory$Rows" "FACTORIALS" "[I") (.int 4)) (.int (24))) (by decide +kernel))
  have e5 : (Term.elem (.static "Comparatory$Rows" "FACTORIALS" "[I") (.int 5)).eval #[Value.ref b] s none [] s = some (.int (120)) := va_eqt (st_flat C0 (w := Cond.eq (.elem (.static "Comparatory$Rows" "FACTORIALS" "[I") (.int 5)) (.int (120))) (by decide +kernel))
  have e6 : (Term.elem (.static "Comparatory$Rows" "FACTORIALS" "[I") (.int 6)).eval #[Value.ref b] s none [] s = some (.int (720)) := va_eqt (st_flat C0 (w := Cond.eq (.elem (.static "Comparatory$Rows" "FACTORIALS" "[I") (.int 6)) (.int (720))) (by decide +kernel))
  obtain ⟨t, h1, h2⟩ := va_Tof (N := 7) (f := fun j => .int (fFAC j)) (by decide) harr hlen (fun j hj => by
    match j, hj with
    | 0, _ => exact e0
    | 1, _ => exact e1
    | 2, _ => exact e2
    | 3, _ => exact e3
    | 4, _ => exact e4
    | 5, _ => exact e5
    | 6, _ => exact e6
    | j + 7, hj => exact absurd hj (by omega)) lwA_no
  exact ⟨t, va_Zof (hts (.laysStatic "Comparatory$Rows" "FACTORIALS" "[I") (List.mem_of_getElem? (i := 928) (by decide +kernel))) (hts (.initialized "Comparatory$Rows") (List.mem_of_getElem? (i := 41) (by decide +kernel))) h1 lwA_no, h2⟩
set_option maxRecDepth 100000 in
set_option maxHeartbeats 4000000 in
theorem st_sBEG (C0 : lw_At p s m meth c b L xs) : sBEG (lwA s) s s.heap := by
  have hts := C0.2.2.2.2.2.1
  have harr := st_flat C0 (w := Cond.arrayOf (.static "Comparatory$Steps" "BEGINNINGS" "[I") .int) (by decide +kernel)
  have hlen : (Term.length (.static "Comparatory$Steps" "BEGINNINGS" "[I")).eval #[Value.ref b] s none [] s = some (.int (Int32.ofNat 7)) := va_eqt (st_flat C0 (w := Cond.eq (.length (.static "Comparatory$Steps" "BEGINNINGS" "[I")) (.int 7)) (by decide +kernel))
  have e0 : (Term.elem (.static "Comparatory$Steps" "BEGINNINGS" "[I") (.int 0)).eval #[Value.ref b] s none [] s = some (.int (0)) := va_eqt (st_flat C0 (w := Cond.eq (.elem (.static "Comparatory$Steps" "BEGINNINGS" "[I") (.int 0)) (.int (0))) (by decide +kernel))
  have e1 : (Term.elem (.static "Comparatory$Steps" "BEGINNINGS" "[I") (.int 1)).eval #[Value.ref b] s none [] s = some (.int (0)) := va_eqt (st_flat C0 (w := Cond.eq (.elem (.static "Comparatory$Steps" "BEGINNINGS" "[I") (.int 1)) (.int (0))) (by decide +kernel))
  have e2 : (Term.elem (.static "Comparatory$Steps" "BEGINNINGS" "[I") (.int 2)).eval #[Value.ref b] s none [] s = some (.int (0)) := va_eqt (st_flat C0 (w := Cond.eq (.elem (.static "Comparatory$Steps" "BEGINNINGS" "[I") (.int 2)) (.int (0))) (by decide +kernel))
  have e3 : (Term.elem (.static "Comparatory$Steps" "BEGINNINGS" "[I") (.int 3)).eval #[Value.ref b] s none [] s = some (.int (2)) := va_eqt (st_flat C0 (w := Cond.eq (.elem (.static "Comparatory$Steps" "BEGINNINGS" "[I") (.int 3)) (.int (2))) (by decide +kernel))
  have e4 : (Term.elem (.static "Comparatory$Steps" "BEGINNINGS" "[I") (.int 4)).eval #[Value.ref b] s none [] s = some (.int (8)) := va_eqt (st_flat C0 (w := Cond.eq (.elem (.static "Comparatory$Steps" "BEGINNINGS" "[I") (.int 4)) (.int (8))) (by decide +kernel))
  have e5 : (Term.elem (.static "Comparatory$Steps" "BEGINNINGS" "[I") (.int 5)).eval #[Value.ref b] s none [] s = some (.int (32)) := va_eqt (st_flat C0 (w := Cond.eq (.elem (.static "Comparatory$Steps" "BEGINNINGS" "[I") (.int 5)) (.int (32))) (by decide +kernel))
  have e6 : (Term.elem (.static "Comparatory$Steps" "BEGINNINGS" "[I") (.int 6)).eval #[Value.ref b] s none [] s = some (.int (152)) := va_eqt (st_flat C0 (w := Cond.eq (.elem (.static "Comparatory$Steps" "BEGINNINGS" "[I") (.int 6)) (.int (152))) (by decide +kernel))
  obtain ⟨t, h1, h2⟩ := va_Tof (N := 7) (f := fun j => .int (fBEG j)) (by decide) harr hlen (fun j hj => by
    match j, hj with
    | 0, _ => exact e0
    | 1, _ => exact e1
    | 2, _ => exact e2
    | 3, _ => exact e3
    | 4, _ => exact e4
    | 5, _ => exact e5
    | 6, _ => exact e6
    | j + 7, hj => exact absurd hj (by omega)) lwA_no
  exact ⟨t, va_Zof (hts (.laysStatic "Comparatory$Steps" "BEGINNINGS" "[I") (List.mem_of_getElem? (i := 922) (by decide +kernel))) (hts (.initialized "Comparatory$Steps") (List.mem_of_getElem? (i := 33) (by decide +kernel))) h1 lwA_no, h2⟩
set_option maxRecDepth 100000 in
theorem st_tU (C0 : lw_At p s m meth c b L xs) : vx_Zq "java/lang/Throwable" "UNASSIGNED_STACK" "[Ljava/lang/StackTraceElement;" (lwA s) s s.heap := by
  have hts := C0.2.2.2.2.2.1
  exact vx_Zqof (hts (.laysStatic "java/lang/Throwable" "UNASSIGNED_STACK" "[Ljava/lang/StackTraceElement;") (List.mem_of_getElem? (i := 285) (by decide +kernel))) (hts (.initialized "java/lang/Throwable") (List.mem_of_getElem? (i := 35) (by decide +kernel))) (st_flat C0 (w := Cond.isRef (.static "java/lang/Throwable" "UNASSIGNED_STACK" "[Ljava/lang/StackTraceElement;")) (by decide +kernel)) lwA_no
set_option maxRecDepth 100000 in
theorem st_tS (C0 : lw_At p s m meth c b L xs) : vx_Zq "java/lang/Throwable" "SUPPRESSED_SENTINEL" "Ljava/util/List;" (lwA s) s s.heap := by
  have hts := C0.2.2.2.2.2.1
  exact vx_Zqof (hts (.laysStatic "java/lang/Throwable" "SUPPRESSED_SENTINEL" "Ljava/util/List;") (List.mem_of_getElem? (i := 287) (by decide +kernel))) (hts (.initialized "java/lang/Throwable") (List.mem_of_getElem? (i := 35) (by decide +kernel))) (st_flat C0 (w := Cond.isRef (.static "java/lang/Throwable" "SUPPRESSED_SENTINEL" "Ljava/util/List;")) (by decide +kernel)) lwA_no
theorem st_str (C0 : lw_At p s m meth c b L xs) {own tx : String} {k : Nat} (h1 : Cond.stringRef own k tx ∈ lw_tbl) (h2 : Cond.exactly (.string own k) "java/lang/String" ∈ flatC (Jvm.Cond.and given_1 narrow_1)) : ∃ sa, vk_R own k tx sa s := by
  have hts := C0.2.2.2.2.2.1
  obtain ⟨a, cc, cA, kA, q1, -⟩ := Cond.exactly_spec (args := #[Value.ref b]) (first := s) (o := none) (s := s) (idx := []) (t := .string own k) (cls := "java/lang/String") (st_flat C0 h2)
  exact ⟨a, vk_R.of (hts _ h1) q1⟩
set_option maxRecDepth 100000 in
set_option maxHeartbeats 4000000 in
theorem st_strs (C0 : lw_At p s m meth c b L xs) : ∀ q ∈ STRS, ∃ sa, vk_R q.1 q.2.1 q.2.2 sa s := by
  unfold STRS
  exact List.forall_mem_cons.mpr ⟨st_str C0 (List.mem_of_getElem? (i := 299) (by decide +kernel)) (by decide +kernel), List.forall_mem_cons.mpr ⟨st_str C0 (List.mem_of_getElem? (i := 374) (by decide +kernel)) (by decide +kernel), List.forall_mem_cons.mpr ⟨st_str C0 (List.mem_of_getElem? (i := 381) (by decide +kernel)) (by decide +kernel), List.forall_mem_cons.mpr ⟨st_str C0 (List.mem_of_getElem? (i := 432) (by decide +kernel)) (by decide +kernel), List.forall_mem_cons.mpr ⟨st_str C0 (List.mem_of_getElem? (i := 447) (by decide +kernel)) (by decide +kernel), List.forall_mem_cons.mpr ⟨st_str C0 (List.mem_of_getElem? (i := 456) (by decide +kernel)) (by decide +kernel), List.forall_mem_cons.mpr ⟨st_str C0 (List.mem_of_getElem? (i := 482) (by decide +kernel)) (by decide +kernel), List.forall_mem_cons.mpr ⟨st_str C0 (List.mem_of_getElem? (i := 490) (by decide +kernel)) (by decide +kernel), List.forall_mem_cons.mpr ⟨st_str C0 (List.mem_of_getElem? (i := 491) (by decide +kernel)) (by decide +kernel), List.forall_mem_cons.mpr ⟨st_str C0 (List.mem_of_getElem? (i := 504) (by decide +kernel)) (by decide +kernel), List.forall_mem_cons.mpr ⟨st_str C0 (List.mem_of_getElem? (i := 514) (by decide +kernel)) (by decide +kernel), List.forall_mem_cons.mpr ⟨st_str C0 (List.mem_of_getElem? (i := 530) (by decide +kernel)) (by decide +kernel), List.forall_mem_cons.mpr ⟨st_str C0 (List.mem_of_getElem? (i := 612) (by decide +kernel)) (by decide +kernel), List.forall_mem_cons.mpr ⟨st_str C0 (List.mem_of_getElem? (i := 620) (by decide +kernel)) (by decide +kernel), List.forall_mem_cons.mpr ⟨st_str C0 (List.mem_of_getElem? (i := 656) (by decide +kernel)) (by decide +kernel), List.forall_mem_cons.mpr ⟨st_str C0 (List.mem_of_getElem? (i := 668) (by decide +kernel)) (by decide +kernel), List.forall_mem_cons.mpr ⟨st_str C0 (List.mem_of_getElem? (i := 761) (by decide +kernel)) (by decide +kernel), List.forall_mem_cons.mpr ⟨st_str C0 (List.mem_of_getElem? (i := 798) (by decide +kernel)) (by decide +kernel), List.forall_mem_cons.mpr ⟨st_str C0 (List.mem_of_getElem? (i := 866) (by decide +kernel)) (by decide +kernel), List.forall_mem_cons.mpr ⟨st_str C0 (List.mem_of_getElem? (i := 906) (by decide +kernel)) (by decide +kernel), List.forall_mem_cons.mpr ⟨st_str C0 (List.mem_of_getElem? (i := 972) (by decide +kernel)) (by decide +kernel), List.forall_mem_cons.mpr ⟨st_str C0 (List.mem_of_getElem? (i := 1015) (by decide +kernel)) (by decide +kernel), fun _ h => absurd h List.not_mem_nil⟩⟩⟩⟩⟩⟩⟩⟩⟩⟩⟩⟩⟩⟩⟩⟩⟩⟩⟩⟩⟩⟩
set_option maxRecDepth 100000 in
theorem env_start (C0 : lw_At p s m meth c b L xs) : ENV (lwA s) s s.heap :=
  ⟨fun w hw => (by
    have h := C0.2.2.2.2.2.1 w (List.mem_filter.mp hw).1
    have g := (List.mem_filter.mp hw).2
    cases w <;> first | exact va_Nw.of rfl h | cases g), st_sINP C0, st_sFAC C0, st_sBEG C0, st_tU C0, st_tS C0, st_strs C0, fun w hw => va_Nw.of (st_tab hw) (C0.2.2.2.2.2.1 w (List.mem_filter.mp hw).1)⟩
set_option maxRecDepth 100000 in
theorem ncp_start (C0 : lw_At p s m meth c b L xs) : ∀ q ∈ NCP, va_Nc q.1 q.2 s :=
  List.forall_mem_cons.mpr ⟨va_Nc.of (st_flat C0 (by decide +kernel)), fun _ h => absurd h List.not_mem_nil⟩
theorem st_arr {args : Array Value} {ty : FieldType} (h : (Cond.arrayClass ty).before args s = true) : ∃ cA : ClassId, ArrOfT s cA ty ∧ s.vm.findClass ("[" ++ ty.toString) = some cA := by
  obtain ⟨cA, kA, comp, h1, h2, h3⟩ := Cond.arrayClass_spec h
  exact ⟨cA, fun n z => ⟨fun k h => (by cases h), kA, h2, comp, h3⟩, h1⟩
set_option maxRecDepth 100000 in
set_option maxHeartbeats 4000000 in
theorem know_start (C0 : lw_At p s m meth c b L xs) : ∃ (D : va_G) (cy : Nat → ClassId), va_K D vwCl (TYS cy) s := by
  have hts := C0.2.2.2.2.2.1
  have htw : ∀ w ∈ TW, w.before #[Value.ref b] s = true := fun w hw => hts w (List.mem_filter.mp hw).1
  obtain ⟨c0, j0, hk0⟩ := u_known (C := RX0) (T := TX0) (N := 2) (n := 2) htw inU_RX0 (hts (.instantiable RX0 2) (List.mem_of_getElem? (i := 212) (by decide +kernel)))
  obtain ⟨c1, j1, hk1⟩ := u_known (C := RX1) (T := TX1) (N := 5) (n := 5) htw inU_RX1 (hts (.instantiable RX1 5) (List.mem_of_getElem? (i := 168) (by decide +kernel)))
  obtain ⟨c2, j2, hk2⟩ := u_known (C := RX2) (T := TX2) (N := 1) (n := 1) htw inU_RX2 (hts (.instantiable RX2 1) (List.mem_of_getElem? (i := 117) (by decide +kernel)))
  obtain ⟨c3, j3, hk3⟩ := u_known (C := RX3) (T := TX3) (N := 2) (n := 2) htw inU_RX3 (hts (.instantiable RX3 2) (List.mem_of_getElem? (i := 138) (by decide +kernel)))
  obtain ⟨c4, j4, hk4⟩ := u_known (C := RX4) (T := TX4) (N := 3) (n := 3) htw inU_RX4 (hts (.instantiable RX4 3) (List.mem_of_getElem? (i := 111) (by decide +kernel)))
  obtain ⟨c5, j5, hk5⟩ := u_known (C := RX6) (T := TX6) (N := 4) (n := 4) htw inU_RX6 (hts (.instantiable RX6 4) (List.mem_of_getElem? (i := 193) (by decide +kernel)))
  obtain ⟨c6, j6, hk6⟩ := u_known (C := RX7) (T := TX7) (N := 3) (n := 3) htw inU_RX7 (hts (.instantiable RX7 3) (List.mem_of_getElem? (i := 151) (by decide +kernel)))
  obtain ⟨c7, j7, hk7⟩ := u_known (C := RX8) (T := TX8) (N := 2) (n := 2) htw inU_RX8 (hts (.instantiable RX8 2) (List.mem_of_getElem? (i := 96) (by decide +kernel)))
  obtain ⟨c8, j8, hk8⟩ := u_known (C := RX9) (T := TX9) (N := 6) (n := 6) htw inU_RX9 (hts (.instantiable RX9 6) (List.mem_of_getElem? (i := 54) (by decide +kernel)))
  obtain ⟨c9, j9, hk9⟩ := u_known (C := RX10) (T := TX10) (N := 9) (n := 9) htw inU_RX10 (hts (.instantiable RX10 9) (List.mem_of_getElem? (i := 46) (by decide +kernel)))
  obtain ⟨a0, ha0, hb0⟩ := st_arr (ty := .int) (hts (.arrayClass .int) (List.mem_of_getElem? (i := 94) (by decide +kernel)))
  obtain ⟨a1, ha1, hb1⟩ := st_arr (ty := .long) (hts (.arrayClass .long) (List.mem_of_getElem? (i := 126) (by decide +kernel)))
  obtain ⟨a2, ha2, hb2⟩ := st_arr (ty := .byte) (hts (.arrayClass .byte) (List.mem_of_getElem? (i := 166) (by decide +kernel)))
  obtain ⟨a3, ha3, hb3⟩ := st_arr (ty := .boolean) (hts (.arrayClass .boolean) (List.mem_of_getElem? (i := 191) (by decide +kernel)))
  obtain ⟨a4, ha4, hb4⟩ := st_arr (ty := .char) (hts (.arrayClass .char) (List.mem_of_getElem? (i := 109) (by decide +kernel)))
  refine ⟨(fun k => if k = 0 then c0 else if k = 1 then c1 else if k = 2 then c2 else if k = 3 then c3 else if k = 4 then c4 else if k = 5 then c5 else if k = 6 then c6 else if k = 7 then c7 else if k = 8 then c8 else c9, fun k => if k = 0 then j0 else if k = 1 then j1 else if k = 2 then j2 else if k = 3 then j3 else if k = 4 then j4 else if k = 5 then j5 else if k = 6 then j6 else if k = 7 then j7 else if k = 8 then j8 else j9), fun k => if k = 0 then a0 else if k = 1 then a1 else if k = 2 then a2 else if k = 3 then a3 else a4, ?_, ?_⟩
  · intro k q hq
    match k, hq with
    | 0, hq => cases hq; exact hk0
    | 1, hq => cases hq; exact hk1
    | 2, hq => cases hq; exact hk2
    | 3, hq => cases hq; exact hk3
    | 4, hq => cases hq; exact hk4
    | 5, hq => cases hq; exact hk5
    | 6, hq => cases hq; exact hk6
    | 7, hq => cases hq; exact hk7
    | 8, hq => cases hq; exact hk8
    | 9, hq => cases hq; exact hk9
    | k + 10, hq => simp [vwCl] at hq
  · intro k q hq
    match k, hq with
    | 0, hq => cases hq; exact ⟨ha0, hb0⟩
    | 1, hq => cases hq; exact ⟨ha1, hb1⟩
    | 2, hq => cases hq; exact ⟨ha2, hb2⟩
    | 3, hq => cases hq; exact ⟨ha3, hb3⟩
    | 4, hq => cases hq; exact ⟨ha4, hb4⟩
    | k + 5, hq => simp [TYS] at hq
end ST
