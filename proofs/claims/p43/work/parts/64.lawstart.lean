/-! THE LAW FROM ITS ENTRY: all that is left is pure -/
def SX (X : Cx) (b L : Nat) (xs : Nat → Int32) : Prop := match X with
  | (_, _, _, s, _, _, _, _, _, _, A) => va_X b L xs s s.heap ∧ b < s.heap.size ∧ ¬ A b
theorem g_sld {l : Launch} {D : va_G} {cy : Nat → ClassId} {S : Type} {wf : S → va_W} {X : Cx} {cc : ByteArray} {own : String} {nL : Nat} {R : Room} {k n : Nat} {h : S} {pc pc' : Nat} {lv : List (Nat × Value)} {st : List Value} {b L : Nat} {xs : Nat → Int32} {i : Int32} {β : Type} {bb : Option β} {o : β} (O : Ok l D cy X cc own nL R) (d : Dc cc pc .iaload 1 pc') (hX : SX X b L xs) (E : ck i L bb = some o) (kk : bb = some o → G l D X nL wf k n h pc' lv (.int (xs i.toNatClampNeg) :: st)) : G l D X nL wf k n h pc lv (.int i :: .ref b :: st) := by
  obtain ⟨p, e, R', s, m, args, below, meth, c, Q, A⟩ := X
  obtain ⟨rfl, hx, hb, hml, hown, hts, hK, hA, hlk, hE⟩ := O
  obtain ⟨d, rfl⟩ := d
  intro H locs ls hP hD hS hl
  exact va_sld hx hb hX.1 hX.2.1 hX.2.2 hS (ck_of E).1 d (kk (ck_of E).2 H locs ls hP hD hS hl)
theorem g_slen {l : Launch} {D : va_G} {cy : Nat → ClassId} {S : Type} {wf : S → va_W} {X : Cx} {cc : ByteArray} {own : String} {nL : Nat} {R : Room} {k n : Nat} {h : S} {pc pc' : Nat} {lv : List (Nat × Value)} {st : List Value} {b L : Nat} {xs : Nat → Int32} (O : Ok l D cy X cc own nL R) (d : Dc cc pc .arraylength 1 pc') (hX : SX X b L xs) (kk : G l D X nL wf k n h pc' lv (.int (nI L) :: st)) : G l D X nL wf k n h pc lv (.ref b :: st) := by
  obtain ⟨p, e, R', s, m, args, below, meth, c, Q, A⟩ := X
  obtain ⟨rfl, hx, hb, hml, hown, hts, hK, hA, hlk, hE⟩ := O
  obtain ⟨d, rfl⟩ := d
  intro H locs ls hP hD hS hl
  exact va_slen hx hb hX.1 hX.2.1 hX.2.2 hS d (kk H locs ls hP hD hS hl)
def adl (l : List Nat) (k : Nat) : Nat := l.getD k 0
def hC0 : Hp := (fun q => bif Nat.beq q 1 || Nat.beq q 6 then (fun k => bif Nat.beq k 0 then 2 else 0) else (fun _ => 0), fun _ _ => 0)
theorem g_conv {l : Launch} {D : va_G} {X : Cx} {nL k n : Nat} {S : Type} {wf : S → va_W} {h : S} {ws : va_W} {pc : Nat} {lv : List (Nat × Value)} {st : List Value} (e : wf h = ws) (kk : G l D X nL wf k n h pc lv st) : G l D X nL WI k n ws pc lv st := by subst e; exact kk
set_option maxRecDepth 100000 in
theorem sh_class {cy : Nat → ClassId} {h0 : Nat} {u : va_W} (h : sh_X10_init cy h0 u) : ∃ ad : Nat → Nat, ad 0 = h0 ∧ u = WC ad cy hC0 := by
  obtain ⟨a0, a1, a2, a3, a4, a5, a6, a7, a8, a9, a10, a11, a12, a13, a14, a15, a16, a17, a18, a19, a20, a21, a22, a23, a24, a25, a26, a27, a28, a29, a30, a31, a32, a33, rfl⟩ := h
  exact ⟨adl [h0, a0, a1, a2, a3, a4, a5, a6, a7, a8, a9, a10, a11, a12, a13, a14, a15, a16, a17, a18, a19, a20, a21, a22, a23, a24, a25, a26, a27, a28, a29, a30, a31, a32, a33], rfl, rfl⟩
/-- the script's ints, or written ones behind its end -/
def f_L_cell (L : Nat) (xs : Nat → Int32) (x1 : Int32) : Option Int32 := (if nI L ≤ x1 then some ((51307 : Int32) * (x1 + (127 : Int32)) + (2834269 : Int32)) else ck x1 L (some (xs x1.toNatClampNeg)))
def PRC (D : va_G) (cy : Nat → ClassId) (b L : Nat) (xs : Nat → Int32) (sz : Nat) (U : State) : Prop := PRH D cy (WA0 cy) sz () U ∧ va_X b L xs U U.heap ∧ b < sz
theorem PRC.blind {D : va_G} {cy : Nat → ClassId} {b L : Nat} {xs : Nat → Int32} {sz : Nat} {av : List Value} : FrameBlind (va_Pc av (PRC D cy b L xs sz)) := by
  intro a U g mk q
  obtain ⟨q0, q1, q2, q3⟩ := q
  exact ⟨q0, (PRH.blind (av := av) a U g mk ⟨q0, q1⟩).2, va_X.moved (u := U) (U := U.calling g mk a) (Vm.Alike.refl U.vm) q2, q3⟩
def CtCell (l : Launch) (D : va_G) (cy : Nat → ClassId) (b L : Nat) (xs : Nat → Int32) (x1 r : Int32) : Prop := ∀ sz : Nat, Met l yL_cell (Cond.code yL_cell cL_cell 2 (some .int) :: TW) (RMx 0 0 0 0) (va_Pc [.ref b, .int x1] (PRC D cy b L xs sz)) (va_Qi (fun x u => x = r ∧ u = ()) (PST D cy (WA0 cy) (va_A (WA0 cy ()) sz)) (va_A (WA0 cy ()) sz)) 0 0 (va_A (WA0 cy ()) sz)
set_option maxRecDepth 100000 in
set_option maxHeartbeats 4000000 in
theorem t_L_cell (l : Launch) (D : va_G) (cy : Nat → ClassId) {b L : Nat} {xs : Nat → Int32} {x1 r : Int32} (E : f_L_cell L xs x1 = some r) : CtCell l D cy b L xs x1 r := by
  intro sz
  refine Met.ofW (cc := cL_cell) (maxL := 2) (ret := some .int) rfl rfl ?_
  intro p e s m args below meth c s₁ B hml hv
  obtain ⟨rfl, ⟨⟨hsz, hP, hK, hD0, hE⟩, hN⟩, hXv, hbs⟩ := hv
  have hts := atoms_spec (ws := Cond.code yL_cell cL_cell 2 (some .int) :: TW) B.pre
  subst hsz
  have hD := hD0.self (sz := s.heap.size)
  have hA : ∀ q : Nat, s.heap.size ≤ q → va_A (WA0 cy ()) s.heap.size q := fun q hq => Or.inr hq
  have hl := lv_entry [Value.ref b, .int x1] (n := 2) (Nat.le_of_ble_eq_true rfl)
  rw [lg_entry_eq]
  have body : ∀ X : Cx, Ok l D cy X cL_cell RL 2 (RMx 0 0 0 0) → SX X b L xs → (∀ (pc pc' : Nat) (lv : List (Nat × Value)), Dc cL_cell pc .ireturn 1 pc' → G l D X 2 (WA0 cy) 0 0 () pc lv [.int r]) → G l D X 2 (WA0 cy) 0 0 () 0 [(0, .ref b), (1, .int x1)] [] := by
    intro X O hX hret
    unfold f_L_cell at E
    refine g_iload_n (pc' := 1) O ⟨dL_cell_0, rfl⟩ (q := 1) rfl rfl ?_
    refine g_aload_n (pc' := 2) O ⟨dL_cell_1, rfl⟩ (q := 0) rfl rfl ?_
    refine g_slen (pc' := 3) O ⟨dL_cell_2, rfl⟩ hX ?_
    refine g_icmp_ge (pc' := 6) O ⟨dL_cell_3, rfl⟩ E (tgt := 12) (by decide) (fun E => ?_) (fun E => ?_)
    · refine g_ldc (pc' := 14) O ⟨dL_cell_12, rfl⟩ kw_404 ?_
      refine g_iload_n (pc' := 15) O ⟨dL_cell_14, rfl⟩ (q := 1) rfl rfl ?_
      refine g_bipush (pc' := 17) O ⟨dL_cell_15, rfl⟩ (v := (127 : Int32)) rfl ?_
      refine g_iadd (pc' := 18) O ⟨dL_cell_17, rfl⟩ ?_
      refine g_imul (pc' := 19) O ⟨dL_cell_18, rfl⟩ ?_
      refine g_ldc (pc' := 21) O ⟨dL_cell_19, rfl⟩ kw_405 ?_
      refine g_iadd (pc' := 22) O ⟨dL_cell_21, rfl⟩ ?_
      have e1 := Option.some.inj E
      subst e1
      exact hret _ _ _ ⟨dL_cell_22, rfl⟩
    · refine g_aload_n (pc' := 7) O ⟨dL_cell_6, rfl⟩ (q := 0) rfl rfl ?_
      refine g_iload_n (pc' := 8) O ⟨dL_cell_7, rfl⟩ (q := 1) rfl rfl ?_
      refine g_sld (pc' := 9) O ⟨dL_cell_8, rfl⟩ hX E (fun E => ?_)
      refine g_goto (pc' := 12) O ⟨dL_cell_9, rfl⟩ (tgt := 22) (by decide) ?_
      cases E
      exact hret _ _ _ ⟨dL_cell_22, rfl⟩
  refine body (p, e, RMx 0 0 0 0, s, m, [Value.ref b, .int x1].toArray, below, meth, c, MQ below (va_Qi (fun x u => x = r ∧ u = ()) (PST D cy (WA0 cy) (va_A (WA0 cy ()) s.heap.size)) (va_A (WA0 cy ()) s.heap.size)) [Value.ref b, .int x1].toArray s 0 0 (va_A (WA0 cy ()) s.heap.size), va_A (WA0 cy ()) s.heap.size) ⟨rfl, B.exec, B.bytes, hml, findClass_of_methodNamed B.named, fun w hw => hts w (List.mem_cons_of_mem _ hw), hK, hA, B.notSynchronized, hE⟩ ⟨hXv, hbs, ?_⟩ ?_ s.heap [] _ hP hD va_S.rf hl
  · intro hq
    rcases hq with ⟨k, e1, hk⟩ | hq
    · unfold WA0 at hk
      simp at hk
    · exact Nat.not_lt_of_le hq hbs
  · intro pc pc' lv d H locs ls hP hD hS hl
    exact W.zret B.exec B.bytes B.returns rfl (fun t ht hW => ⟨⟨r, (), rfl, ⟨rfl, rfl⟩, by rw [ht]; exact hP, va_K.moved hW.alike hK, hD⟩, hS.F ht⟩) hS.2.2 d.1 B.notSynchronized
theorem g_cell {S : Type} {wf : S → va_W} {l : Launch} {D : va_G} {cy : Nat → ClassId} {X : Cx} {cc : ByteArray} {own : String} {nL : Nat} {R : Room} {k n ix : Nat} {h : S} {put : Unit → S} {pc pc' : Nat} {lv : List (Nat × Value)} {st : List Value} {b L : Nat} {xs : Nat → Int32} {x1 r : Int32} (O : Ok l D cy X cc own nL R) (hN : NCX X) (hX : SX X b L xs) (d : Dc cc pc (.invokestatic ix) 3 pc') (sub : SUBW wf (WA0 cy) h () put) (E : f_L_cell L xs x1 = some r) (kc : Cond.code yL_cell cL_cell 2 (some .int) ∈ TW) (kin : Cond.initialized yL_cell.cls ∈ TW) (kl : Cond.methodLink own ix yL_cell ∈ TW) (ki : Cond.static yL_cell ∈ TW) (hd : yL_cell.cls ≠ "java/lang/invoke/MethodHandle" ∧ yL_cell.cls ≠ "java/lang/invoke/VarHandle" ∧ (parseMethodDescriptor yL_cell.desc).map (fun d => d.parameters.length) = some 2) (hR : 0 + 1 ≤ R.frames ∧ 8 + (2 + 11) + 0 ≤ R.locals) (hkn : k + 0 ≤ R.cells ∧ n + 0 ≤ R.slots) (hcat : (st.map fun v => v.category).sum ≤ 8) (kk : G l D X nL wf k n (put ()) pc' lv (.int r :: st)) : G l D X nL wf k n h pc lv (.int x1 :: .ref b :: st) := by
  obtain ⟨p, e, R', s, m, args, below, meth, c, Q, A⟩ := X
  obtain ⟨rfl, hx, hb, hml, hown, hts, hK, hA, hlk, hE⟩ := O
  obtain ⟨d, rfl⟩ := d
  obtain ⟨isC, isR, pm, wr, s1, s2, s3, s4, s5, s6, s7, s8⟩ := sub
  obtain ⟨hX1, hX2, hX3⟩ := hX
  intro H locs ls hP hD hS hl
  have hPc := hP.sub isC s2
  have hDc := hD.sub isC s4 s1
  have hF := va_free hD hS hA isC s1
  refine va_calli (va_runS (As := [.ref b, .int x1]) (rest := st) ⟨hx, hb, hml, hown, hts⟩ (t_L_cell l D cy E H.size) ⟨cbM hts kc kin kl hd hR, hts _ ki⟩ ⟨PRC.blind, fun U hU hW => ⟨rfl, (PRH.ofSub (av := [.ref b, .int x1]) hN hK hA hE hPc hDc hF hS U hU hW).2, by rw [hU]; exact (hX1.kept (hS.2.1 b hX2 hX3)).moved hW.alike, Nat.lt_of_lt_of_le hX2 hS.1⟩⟩ rfl rfl hl.1 rfl (lv_room hcat) d hkn) hS (fun q _ hq => hF q hq) hF (fun r1 u t H1 locs1 ht hvm hw hB hz1 hk1 hS1 => ?_)
  obtain ⟨rfl, rfl⟩ := hw
  obtain ⟨hP1, hK1, hD1⟩ := hB
  rw [ht] at hP1
  obtain ⟨hP2, hD2⟩ := va_join hP hD isC isR s1 s3 s5 s6 hk1 hF hP1 hD1
  exact kk H1 locs1 ls (hP2.sub pm (s8 _).2) (hD2.sub pm s7 (s8 _).1) hS1 hl
def L_L_law_406 (L : Nat) (xs : Nat → Int32) (a9 : Int32) (a12 : Int32) (a13 : Int32) (a14 : Int32) (r4 : Row) (r5 : Row) (k434 : Int32 → Option (Int32)) (self : Int32 → Int32 → Option (Int32)) (a15 : Int32) (a16 : Int32) : Option (Int32) :=
  ck (0 : Int32) 4 ((if (r5 (0 : Int32).toNatClampNeg) ≤ a16 then k434 a15 else ck a16 6 (nm (a15 + (a16 * (r4 a16.toNatClampNeg))) (fun y15_57 => self y15_57 (a16 + (1 : Int32))))))
def L_L_law_356 (L : Nat) (xs : Nat → Int32) (a9 : Int32) (a12 : Int32) (a13 : Int32) (a14 : Int32) (r4 : Row) (r5 : Row) (k384 : Int32 → Option (Int32)) (self : Int32 → Int32 → Option (Int32)) (a15 : Int32) (a16 : Int32) : Option (Int32) :=
  ck (0 : Int32) 4 ((if (r5 (0 : Int32).toNatClampNeg) ≤ a16 then k384 a15 else ck a16 6 (nm (a15 - (a16 * (r4 a16.toNatClampNeg))) (fun y15_58 => self y15_58 (a16 + (1 : Int32))))))
def L_L_law_308 (L : Nat) (xs : Nat → Int32) (a9 : Int32) (a12 : Int32) (r0 : Row) (r5 : Row) (k461 : Int32 → Hp → Row → Row → Option (Int32)) (self : Int32 → Int32 → Hp → Row → Row → Option (Int32)) (a8 : Int32) (a13 : Int32) (h : Hp) (r2 : Row) (r4 : Row) : Option (Int32) :=
  bd (f_L_low (ishr a12 (3 : Int32)) (4 : Int32)) (fun r_44 => (if r_44 < a13 then k461 a8 h r2 r4 else (if a8 = 0 then k461 a8 h r2 r4 else ck (0 : Int32) 4 (bd (f_L_low (ishr a12 a13) (r5 (0 : Int32).toNatClampNeg)) (fun r_46 => bd (f_L_counts r2 r4 r0 r5) (fun r_48 => jn1 (fun k384 => fx2 (L_L_law_356 L xs a9 a12 a13 r_46 r_48 r5 k384) FU (0 : Int32) (0 : Int32)) (fun (x15_50 : Int32) => ck r_46 6 (ck r_46 6 (nm (upd r2 r_46.toNatClampNeg ((r2 r_46.toNatClampNeg) + (1 : Int32))) (fun r2_51 => bd (f_L_counts r2_51 r_48 r0 r5) (fun r_52 => jn1 (fun k434 => fx2 (L_L_law_406 L xs a9 a12 a13 r_46 r_52 r5 k434) FU x15_50 (0 : Int32)) (fun (x15_54 : Int32) => bd (f_L_calls (5 : Int32) r_46 (0 : Int32) (0 : Int64) h) (fun r_55 => (if r_55.1 = x15_54 then self (1 : Int32) (a13 + (1 : Int32)) r_55.2 r2_51 r_52 else self (0 : Int32) (a13 + (1 : Int32)) r_55.2 r2_51 r_52))))))))))))))
def L_L_law_123 (L : Nat) (xs : Nat → Int32) (a9 : Int32) (a12 : Int32) (a13 : Int32) (k142 : Row → Option (Int32)) (self : Int32 → Row → Option (Int32)) (a14 : Int32) (r3 : Row) : Option (Int32) :=
  (if (36 : Int32) ≤ a14 then k142 r3 else ck a14 36 (nm (upd r3 a14.toNatClampNeg (0 : Int32)) (fun r3_78 => self (a14 + (1 : Int32)) r3_78)))
def L_L_law_52 (L : Nat) (xs : Nat → Int32) (k643 : Int32 → Hp → Row → Row → Row → Row → Row → Row → Option (Int32)) (self : Int32 → Int32 → Hp → Row → Row → Row → Row → Row → Row → Option (Int32)) (a8 : Int32) (a9 : Int32) (h : Hp) (r0 : Row) (r1 : Row) (r2 : Row) (r3 : Row) (r4 : Row) (r5 : Row) : Option (Int32) :=
  (if (70 : Int32) ≤ a9 then k643 a8 h r0 r1 r2 r3 r4 r5 else (if a8 = 0 then k643 a8 h r0 r1 r2 r3 r4 r5 else bd (f_L_cell L xs a9) (fun r_10 => bd (f_L_low r_10 (30 : Int32)) (fun r_12 => nm (ishr r_10 (4 : Int32)) (fun y12_14 => jn8 (fun k602 => (if r_12 = 0 then ck (1 : Int32) 4 (bd (f_L_low y12_14 (4 : Int32)) (fun r_68 => ck (0 : Int32) 4 (nm (upd r5 (0 : Int32).toNatClampNeg ((2 : Int32) + r_68)) (fun r5_70 => ck (1 : Int32) 4 (nm (upd r5_70 (1 : Int32).toNatClampNeg (0 : Int32)) (fun r5_71 => bd (f_L_forgets r2) (fun r_72 => jn1 (fun k142 => fx2 (L_L_law_123 L xs a9 y12_14 (r5 (1 : Int32).toNatClampNeg) k142) FU (0 : Int32) r3) (fun (r3_74 : Row) => ck (0 : Int32) 4 (hcatch (f_X10_network h (r5_71 (0 : Int32).toNatClampNeg)) (fun _ _ => none) (fun r_75 => jn1 (fun k160 => (if r_75.1 = (r5 (1 : Int32).toNatClampNeg) then k160 (1 : Int32) else k160 (0 : Int32))) (fun (z_77 : Int32) => k602 z_77 r_75.2 r0 r1 r_72 r3_74 r4 r5_71))))))))))) else (if (17 : Int32) ≤ r_12 then (if (20 : Int32) ≤ r_12 then (if (22 : Int32) ≤ r_12 then (if (26 : Int32) ≤ r_12 then ck (0 : Int32) 4 (bd (f_L_low y12_14 (r5 (0 : Int32).toNatClampNeg)) (fun r_25 => ck (0 : Int32) 4 (bd (f_L_low (ishr y12_14 (3 : Int32)) ((r5 (0 : Int32).toNatClampNeg) - (1 : Int32))) (fun r_27 => ck (0 : Int32) 4 (nz (r5 (0 : Int32).toNatClampNeg) (nm (irm ((r_25 + (1 : Int32)) + r_27) (r5 (0 : Int32).toNatClampNeg)) (fun y14_29 => bd (f_L_agreeing r_25 y14_29 r3 r5) (fun r_30 => bd (f_L_agreeing y14_29 r_25 r3 r5) (fun r_32 => jn1 (fun k552 => jn0 (fun k547 => (if r_32 < r_30 then k547 else jn0 (fun k551 => (if r_30 = r_32 then (if y14_29 ≤ r_25 then k551 else k547) else k551)) (k552 (0 : Int32)))) (k552 (1 : Int32))) (fun (z_34 : Int32) => jn1 (fun k580 => (if z_34 = 0 then k580 (((6 : Int32) * y14_29) + r_25) else k580 (((6 : Int32) * r_25) + y14_29))) (fun (z_35 : Int32) => ck z_35 36 (nm (upd r3 z_35.toNatClampNeg (1 : Int32)) (fun r3_36 => hcatch (f_X10_ask h r_25 y14_29) (fun _ _ => none) (fun r_37 => jn1 (fun k600 => (if r_37.1 = z_34 then k600 (1 : Int32) else k600 (0 : Int32))) (fun (z_39 : Int32) => k602 z_39 r_37.2 r0 r1 r2 r3_36 r4 r5))))))))))))))) else jn4 (fun k461 => fx5 (L_L_law_308 L xs a9 y12_14 r0 r5 k461) 6 a8 (0 : Int32) h r2 r4) (fun (x8_40 : Int32) (h_41 : Hp) (r2_42 : Row) (r4_43 : Row) => k602 x8_40 h_41 r0 r1 r2_42 r3 r4_43 r5)) else ck (2 : Int32) 4 (ck (2 : Int32) 4 (nm (upd r5 (2 : Int32).toNatClampNeg (0 : Int32)) (fun r5_59 => bd (f_X10_wipe h) (fun r_60 => jn1 (fun k293 => (if r_60.1 = (r5 (2 : Int32).toNatClampNeg) then k293 (1 : Int32) else k293 (0 : Int32))) (fun (z_62 : Int32) => k602 z_62 r_60.2 r0 r1 r2 r3 r4 r5_59)))))) else bd (f_L_types y12_14 h r1 r5) (fun r_63 => k602 r_63.1 r_63.2.1 r0 r_63.2.2.1 r2 r3 r4 r_63.2.2.2)) else jn1 (fun k222 => (if (9 : Int32) ≤ r_12 then (if r_12 = (9 : Int32) then k222 (1 : Int32) else (if (12 : Int32) ≤ r_12 then (if (14 : Int32) ≤ r_12 then k222 (r_12 - (10 : Int32)) else k222 (3 : Int32)) else k222 (2 : Int32))) else k222 (0 : Int32))) (fun (z_65 : Int32) => bd (f_L_builds z_65 y12_14 h r0 r1 r2 r3 r5) (fun r_66 => k602 r_66.1 r_66.2.1 r_66.2.2.1 r1 r_66.2.2.2.1 r3 r4 r_66.2.2.2.2))))) (fun (x8_15 : Int32) (h_16 : Hp) (r0_17 : Row) (r1_18 : Row) (r2_19 : Row) (r3_20 : Row) (r4_21 : Row) (r5_22 : Row) => (if x8_15 = 0 then self (0 : Int32) (a9 + (1 : Int32)) h_16 r0_17 r1_18 r2_19 r3_20 r4_21 r5_22 else bd (f_L_same ((ishr y12_14 (1 : Int32)) &&& (8388607 : Int32)) h_16 r0_17 r1_18 r2_19 r3_20 r5_22) (fun r_23 => (if r_23.1 = 0 then self (0 : Int32) (a9 + (1 : Int32)) r_23.2.1 r_23.2.2 r1_18 r2_19 r3_20 r4_21 r5_22 else self (1 : Int32) (a9 + (1 : Int32)) r_23.2.1 r_23.2.2 r1_18 r2_19 r3_20 r4_21 r5_22)))))))))
def f_L_law (L : Nat) (xs : Nat → Int32) (h : Hp) (r0 : Row) (r1 : Row) (r2 : Row) (r3 : Row) (r4 : Row) (r5 : Row) : Option Int32 :=
  ck (0 : Int32) 4 (nm (upd r5 (0 : Int32).toNatClampNeg (2 : Int32)) (fun r5_1 => jn8 (fun k643 => fx9 (L_L_law_52 L xs k643) 72 (1 : Int32) (0 : Int32) h r0 r1 r2 r3 r4 r5_1) (fun (x8_2 : Int32) (h_3 : Hp) (r0_4 : Row) (r1_5 : Row) (r2_6 : Row) (r3_7 : Row) (r4_8 : Row) (r5_9 : Row) => some x8_2)))
set_option maxRecDepth 100000 in
set_option maxHeartbeats 8000000 in
theorem t_L_law (l : Launch) (D : va_G) (ad : Nat → Nat) (cy : Nat → ClassId) (hfl : l.stackTraces = false) (b0 b1 b2 b3 b4 b5 : Nat) {X : Cx} {b L : Nat} {xs : Nat → Int32} {h : Hp} {r0 r1 r2 r3 r4 r5 : Row} (O : Ok l D cy X cL_law RL 18 room_1) (hN : NCX X) (hX : SX X b L xs) (hend : ∀ (k n : Nat) (st : Hp × Row × Row × Row × Row × Row × Row) (lv : List (Nat × Value)), k ≤ room_1.cells → n ≤ room_1.slots → G l D X 18 (WX6 ad cy 24 40 6 36 6 4 b0 b1 b2 b3 b4 b5) k n st 645 lv [.int 1]) (E : f_L_law L xs h r0 r1 r2 r3 r4 r5 = some 1) : G l D X 18 (WX6 ad cy 24 40 6 36 6 4 b0 b1 b2 b3 b4 b5) 41 6293 (h, r0, r1, r2, r3, r4, r5) 41 [(0, .ref b), (1, .ref (ad 0)), (2, .ref b0), (3, .ref b1), (4, .ref b2), (5, .ref b3), (6, .ref b4), (7, .ref b5)] [] := by
  unfold f_L_law at E
  refine g_aload (pc' := 43) O ⟨dL_law_41, rfl⟩ (q := 7) rfl ?_
  refine g_iconst (pc' := 44) O ⟨dL_law_43, rfl⟩ (v := (0 : Int32)) rfl ?_
  refine g_iconst (pc' := 45) O ⟨dL_law_44, rfl⟩ (v := (2 : Int32)) rfl ?_
  refine g_iast (pc' := 46) O ⟨dL_law_45, rfl⟩ zX6_5 zsX6_5 E (fun E => ?_)
  refine g_nmr (Go := fun (r5_1 : Row) => G l D X 18 (WX6 ad cy 24 40 6 36 6 4 b0 b1 b2 b3 b4 b5) 41 6293 (h, r0, r1, r2, r3, r4, r5_1) 46 [(0, .ref b), (1, .ref (ad 0)), (2, .ref b0), (3, .ref b1), (4, .ref b2), (5, .ref b3), (6, .ref b4), (7, .ref b5)] []) E (fun r5_1 E => ?_)
  show G l D X 18 (WX6 ad cy 24 40 6 36 6 4 b0 b1 b2 b3 b4 b5) 41 6293 (h, r0, r1, r2, r3, r4, r5_1) 46 [(0, .ref b), (1, .ref (ad 0)), (2, .ref b0), (3, .ref b1), (4, .ref b2), (5, .ref b3), (6, .ref b4), (7, .ref b5)] []
  refine g_iconst (pc' := 47) O ⟨dL_law_46, rfl⟩ (v := (1 : Int32)) rfl ?_
  refine g_istore (pc' := 49) O ⟨dL_law_47, rfl⟩ (lv' := [(8, .int (1 : Int32)), (0, .ref b), (1, .ref (ad 0)), (2, .ref b0), (3, .ref b1), (4, .ref b2), (5, .ref b3), (6, .ref b4), (7, .ref b5)]) (by decide) rfl ?_
  refine g_iconst (pc' := 50) O ⟨dL_law_49, rfl⟩ (v := (0 : Int32)) rfl ?_
  refine g_istore (pc' := 52) O ⟨dL_law_50, rfl⟩ (lv' := [(9, .int (0 : Int32)), (8, .int (1 : Int32)), (0, .ref b), (1, .ref (ad 0)), (2, .ref b0), (3, .ref b1), (4, .ref b2), (5, .ref b3), (6, .ref b4), (7, .ref b5)]) (by decide) rfl ?_
  refine jn8_of (P := fun (x8_2 : Int32) (h_3 : Hp) (r0_4 : Row) (r1_5 : Row) (r2_6 : Row) (r3_7 : Row) (r4_8 : Row) (r5_9 : Row) => G l D X 18 (WX6 ad cy 24 40 6 36 6 4 b0 b1 b2 b3 b4 b5) 17537 117749 (h_3, r0_4, r1_5, r2_6, r3_7, r4_8, r5_9) 643 [(8, .int x8_2)] []) E ?_ ?_
  · intro x8_2 h_3 r0_4 r1_5 r2_6 r3_7 r4_8 r5_9 E
    show G l D X 18 (WX6 ad cy 24 40 6 36 6 4 b0 b1 b2 b3 b4 b5) 17537 117749 (h_3, r0_4, r1_5, r2_6, r3_7, r4_8, r5_9) 643 [(8, .int x8_2)] []
    refine g_iload (pc' := 645) O ⟨dL_law_643, rfl⟩ (q := 0) rfl ?_
    have e1 := Option.some.inj E
    rw [e1]
    exact hend _ _ _ _ (Nat.le_of_ble_eq_true rfl) (Nat.le_of_ble_eq_true rfl)
  · intro k643 hk643 E
    refine g_sub (lv' := [(0, .ref b), (1, .ref (ad 0)), (2, .ref b0), (3, .ref b1), (4, .ref b2), (5, .ref b3), (6, .ref b4), (7, .ref b5), (8, .int (1 : Int32)), (9, .int (0 : Int32))]) [2, 3, 4, 5, 6, 7, 8, 9, 1, 0] rfl ?_
    refine fxc9_of (P := fun (m52 : Nat) (x8_10 : Int32) (x9_11 : Int32) (h_12 : Hp) (r0_13 : Row) (r1_14 : Row) (r2_15 : Row) (r3_16 : Row) (r4_17 : Row) (r5_18 : Row) => ∀ kq52 nq52 : Nat, kq52 + m52 * 243 ≤ 17537 → nq52 + m52 * 1548 ≤ 117749 → G l D X 18 (WX6 ad cy 24 40 6 36 6 4 b0 b1 b2 b3 b4 b5) kq52 nq52 (h_12, r0_13, r1_14, r2_15, r3_16, r4_17, r5_18) 52 [(0, .ref b), (1, .ref (ad 0)), (2, .ref b0), (3, .ref b1), (4, .ref b2), (5, .ref b3), (6, .ref b4), (7, .ref b5), (8, .int x8_10), (9, .int x9_11)] []) ?_ 72 _ _ _ _ _ _ _ _ _ E 41 6293 (Nat.le_refl _) (Nat.le_refl _)
    intro m52 self ih52 x8_10 x9_11 h_12 r0_13 r1_14 r2_15 r3_16 r4_17 r5_18 E kq52 nq52 hkq52 hnq52
    show G l D X 18 (WX6 ad cy 24 40 6 36 6 4 b0 b1 b2 b3 b4 b5) kq52 nq52 (h_12, r0_13, r1_14, r2_15, r3_16, r4_17, r5_18) 52 [(0, .ref b), (1, .ref (ad 0)), (2, .ref b0), (3, .ref b1), (4, .ref b2), (5, .ref b3), (6, .ref b4), (7, .ref b5), (8, .int x8_10), (9, .int x9_11)] []
    unfold L_L_law_52 at E
    refine g_iload (pc' := 54) O ⟨dL_law_52, rfl⟩ (q := 9) rfl ?_
    refine g_bipush (pc' := 56) O ⟨dL_law_54, rfl⟩ (v := (70 : Int32)) rfl ?_
    refine g_icmp_ge (pc' := 59) O ⟨dL_law_56, rfl⟩ E (tgt := 643) (by decide) (fun E => ?_) (fun E => ?_)
    · refine g_sub (lv' := [(8, .int x8_10)]) [8] rfl ?_
      refine g_widen (k1 := 17537) (n1 := 117749) (ar_tr (d := 0) hkq52 (Nat.le_of_ble_eq_true rfl) (Nat.le_of_ble_eq_true rfl)) (ar_tr (d := 0) hnq52 (Nat.le_of_ble_eq_true rfl) (Nat.le_of_ble_eq_true rfl)) ?_
      exact hk643 _ _ _ _ _ _ _ _ E
    · refine g_iload (pc' := 61) O ⟨dL_law_59, rfl⟩ (q := 8) rfl ?_
      refine g_if_eq (pc' := 64) O ⟨dL_law_61, rfl⟩ E (tgt := 643) (by decide) (fun E => ?_) (fun E => ?_)
      · refine g_sub (lv' := [(8, .int x8_10)]) [8] rfl ?_
        refine g_widen (k1 := 17537) (n1 := 117749) (ar_tr (d := 0) hkq52 (Nat.le_of_ble_eq_true rfl) (Nat.le_of_ble_eq_true rfl)) (ar_tr (d := 0) hnq52 (Nat.le_of_ble_eq_true rfl) (Nat.le_of_ble_eq_true rfl)) ?_
        exact hk643 _ _ _ _ _ _ _ _ E
      · refine g_aload_n (pc' := 65) O ⟨dL_law_64, rfl⟩ (q := 0) rfl rfl ?_
        refine g_iload (pc' := 67) O ⟨dL_law_65, rfl⟩ (q := 9) rfl ?_
        obtain ⟨r_19, c_20, E⟩ := bd_of E
        refine g_cell (pc' := 70) O hN hX ⟨dL_law_67, rfl⟩ sub_X6_A c_20 kw_403 kw_24 kw_401 kw_402 hd_L_cell ⟨Nat.le_of_ble_eq_true rfl, Nat.le_of_ble_eq_true rfl⟩ ⟨ar_tr (d := 0) hkq52 (Nat.le_of_ble_eq_true rfl) (Nat.le_of_ble_eq_true rfl), ar_tr (d := 0) hnq52 (Nat.le_of_ble_eq_true rfl) (Nat.le_of_ble_eq_true rfl)⟩ (Nat.le_of_ble_eq_true rfl) ?_
        show G l D X 18 (WX6 ad cy 24 40 6 36 6 4 b0 b1 b2 b3 b4 b5) kq52 nq52 (h_12, r0_13, r1_14, r2_15, r3_16, r4_17, r5_18) 70 [(0, .ref b), (1, .ref (ad 0)), (2, .ref b0), (3, .ref b1), (4, .ref b2), (5, .ref b3), (6, .ref b4), (7, .ref b5), (8, .int x8_10), (9, .int x9_11)] [.int r_19]
        refine g_istore (pc' := 72) O ⟨dL_law_70, rfl⟩ (lv' := [(10, .int r_19), (0, .ref b), (1, .ref (ad 0)), (2, .ref b0), (3, .ref b1), (4, .ref b2), (5, .ref b3), (6, .ref b4), (7, .ref b5), (8, .int x8_10), (9, .int x9_11)]) (by decide) rfl ?_
        refine g_iload (pc' := 74) O ⟨dL_law_72, rfl⟩ (q := 0) rfl ?_
        refine g_bipush (pc' := 76) O ⟨dL_law_74, rfl⟩ (v := (30 : Int32)) rfl ?_
        obtain ⟨r_21, c_22, E⟩ := bd_of E
        refine g_MSi (pc' := 79) O hN ⟨dL_law_76, rfl⟩ (y := yL_low) (As := [.int r_19, .int (30 : Int32)]) (st := []) (put := (fun g => (h_12, r0_13, r1_14, r2_15, r3_16, r4_17, r5_18))) sub_X6_A (t_L_low l D cy hfl c_22) kw_408 kw_24 kw_406 kw_407 hd_L_low ⟨Nat.le_of_ble_eq_true rfl, Nat.le_of_ble_eq_true rfl⟩ ⟨ar_tr (d := 0) hkq52 (Nat.le_of_ble_eq_true rfl) (Nat.le_of_ble_eq_true rfl), ar_tr (d := 0) hnq52 (Nat.le_of_ble_eq_true rfl) (Nat.le_of_ble_eq_true rfl)⟩ rfl (Nat.le_of_ble_eq_true rfl) ?_
        show G l D X 18 (WX6 ad cy 24 40 6 36 6 4 b0 b1 b2 b3 b4 b5) kq52 nq52 (h_12, r0_13, r1_14, r2_15, r3_16, r4_17, r5_18) 79 [(10, .int r_19), (0, .ref b), (1, .ref (ad 0)), (2, .ref b0), (3, .ref b1), (4, .ref b2), (5, .ref b3), (6, .ref b4), (7, .ref b5), (8, .int x8_10), (9, .int x9_11)] [.int r_21]
        refine g_istore (pc' := 81) O ⟨dL_law_79, rfl⟩ (lv' := [(11, .int r_21), (10, .int r_19), (0, .ref b), (1, .ref (ad 0)), (2, .ref b0), (3, .ref b1), (4, .ref b2), (5, .ref b3), (6, .ref b4), (7, .ref b5), (8, .int x8_10), (9, .int x9_11)]) (by decide) rfl ?_
        refine g_iload (pc' := 83) O ⟨dL_law_81, rfl⟩ (q := 1) rfl ?_
        refine g_iconst (pc' := 84) O ⟨dL_law_83, rfl⟩ (v := (4 : Int32)) rfl ?_
        refine g_ishr (pc' := 85) O ⟨dL_law_84, rfl⟩ ?_
        refine g_nm E (fun y12_23 E => ?_)
        refine g_istore (pc' := 87) O ⟨dL_law_85, rfl⟩ (lv' := [(12, .int y12_23), (11, .int r_21), (10, .int r_19), (0, .ref b), (1, .ref (ad 0)), (2, .ref b0), (3, .ref b1), (4, .ref b2), (5, .ref b3), (6, .ref b4), (7, .ref b5), (8, .int x8_10), (9, .int x9_11)]) (by decide) rfl ?_
        refine g_iload (pc' := 89) O ⟨dL_law_87, rfl⟩ (q := 1) rfl ?_
        refine jn8_of (P := fun (x8_24 : Int32) (h_25 : Hp) (r0_26 : Row) (r1_27 : Row) (r2_28 : Row) (r3_29 : Row) (r4_30 : Row) (r5_31 : Row) => G l D X 18 (WX6 ad cy 24 40 6 36 6 4 b0 b1 b2 b3 b4 b5) (kq52 + 152) (nq52 + 930) (h_25, r0_26, r1_27, r2_28, r3_29, r4_30, r5_31) 602 [(0, .ref b), (1, .ref (ad 0)), (2, .ref b0), (3, .ref b1), (4, .ref b2), (5, .ref b3), (6, .ref b4), (7, .ref b5), (8, .int x8_24), (9, .int x9_11), (12, .int y12_23)] []) E ?_ ?_
        · intro x8_24 h_25 r0_26 r1_27 r2_28 r3_29 r4_30 r5_31 E
          show G l D X 18 (WX6 ad cy 24 40 6 36 6 4 b0 b1 b2 b3 b4 b5) (kq52 + 152) (nq52 + 930) (h_25, r0_26, r1_27, r2_28, r3_29, r4_30, r5_31) 602 [(0, .ref b), (1, .ref (ad 0)), (2, .ref b0), (3, .ref b1), (4, .ref b2), (5, .ref b3), (6, .ref b4), (7, .ref b5), (8, .int x8_24), (9, .int x9_11), (12, .int y12_23)] []
          refine g_iload (pc' := 604) O ⟨dL_law_602, rfl⟩ (q := 8) rfl ?_
          refine g_if_eq (pc' := 607) O ⟨dL_law_604, rfl⟩ E (tgt := 634) (by decide) (fun E => ?_) (fun E => ?_)
          · refine g_iconst (pc' := 635) O ⟨dL_law_634, rfl⟩ (v := (0 : Int32)) rfl ?_
            refine g_istore (pc' := 637) O ⟨dL_law_635, rfl⟩ (lv' := [(8, .int (0 : Int32)), (0, .ref b), (1, .ref (ad 0)), (2, .ref b0), (3, .ref b1), (4, .ref b2), (5, .ref b3), (6, .ref b4), (7, .ref b5), (9, .int x9_11), (12, .int y12_23)]) (by decide) rfl ?_
            refine g_iinc (pc' := 640) O ⟨dL_law_637, rfl⟩ (q := 9) (v := x9_11 + (1 : Int32)) (lv' := [(9, .int (x9_11 + (1 : Int32))), (8, .int (0 : Int32)), (0, .ref b), (1, .ref (ad 0)), (2, .ref b0), (3, .ref b1), (4, .ref b2), (5, .ref b3), (6, .ref b4), (7, .ref b5), (12, .int y12_23)]) rfl rfl (by decide) rfl ?_
            refine g_goto (pc' := 643) O ⟨dL_law_640, rfl⟩ (tgt := 52) (by decide) ?_
            refine g_sub (lv' := [(0, .ref b), (1, .ref (ad 0)), (2, .ref b0), (3, .ref b1), (4, .ref b2), (5, .ref b3), (6, .ref b4), (7, .ref b5), (8, .int (0 : Int32)), (9, .int (x9_11 + (1 : Int32)))]) [2, 3, 4, 5, 6, 7, 8, 9, 1, 0] rfl ?_
            exact ih52 _ _ _ _ _ _ _ _ _ E _ _ (ar_bk (d := 152) hkq52 (Nat.le_of_ble_eq_true rfl)) (ar_bk (d := 930) hnq52 (Nat.le_of_ble_eq_true rfl))
          · refine g_aload_n (pc' := 608) O ⟨dL_law_607, rfl⟩ (q := 1) rfl rfl ?_
            refine g_iload (pc' := 610) O ⟨dL_law_608, rfl⟩ (q := 10) rfl ?_
            refine g_iconst (pc' := 611) O ⟨dL_law_610, rfl⟩ (v := (1 : Int32)) rfl ?_
            refine g_ishr (pc' := 612) O ⟨dL_law_611, rfl⟩ ?_
            refine g_ldcw (pc' := 615) O ⟨dL_law_612, rfl⟩ kw_1085 ?_
            refine g_iand (pc' := 616) O ⟨dL_law_615, rfl⟩ ?_
            refine g_aload_n (pc' := 617) O ⟨dL_law_616, rfl⟩ (q := 2) rfl rfl ?_
            refine g_aload_n (pc' := 618) O ⟨dL_law_617, rfl⟩ (q := 3) rfl rfl ?_
            refine g_aload (pc' := 620) O ⟨dL_law_618, rfl⟩ (q := 4) rfl ?_
            refine g_aload (pc' := 622) O ⟨dL_law_620, rfl⟩ (q := 5) rfl ?_
            refine g_aload (pc' := 624) O ⟨dL_law_622, rfl⟩ (q := 7) rfl ?_
            obtain ⟨r_32, c_33, E⟩ := bd_of E
            refine g_MSi (pc' := 627) O hN ⟨dL_law_624, rfl⟩ (y := yL_same) (As := [.ref (ad 0), .int ((ishr y12_23 (1 : Int32)) &&& (8388607 : Int32)), .ref b0, .ref b1, .ref b2, .ref b3, .ref b5]) (st := []) (put := (fun g => (g.1, g.2.1, g.2.2.1, g.2.2.2.1, g.2.2.2.2.1, r4_30, g.2.2.2.2.2))) sub_X6_X0_1_2_3_5 (t_L_same l D ad cy hfl b0 b1 b2 b3 b5 c_33) kw_556 kw_24 kw_554 kw_555 hd_L_same ⟨Nat.le_of_ble_eq_true rfl, Nat.le_of_ble_eq_true rfl⟩ ⟨ar_tr (d := 243) hkq52 (Nat.le_of_ble_eq_true rfl) (Nat.le_of_ble_eq_true rfl), ar_tr (d := 1548) hnq52 (Nat.le_of_ble_eq_true rfl) (Nat.le_of_ble_eq_true rfl)⟩ rfl (Nat.le_of_ble_eq_true rfl) ?_
            show G l D X 18 (WX6 ad cy 24 40 6 36 6 4 b0 b1 b2 b3 b4 b5) (kq52 + 243) (nq52 + 1548) (r_32.2.1, r_32.2.2, r1_27, r2_28, r3_29, r4_30, r5_31) 627 [(0, .ref b), (1, .ref (ad 0)), (2, .ref b0), (3, .ref b1), (4, .ref b2), (5, .ref b3), (6, .ref b4), (7, .ref b5), (8, .int x8_24), (9, .int x9_11), (12, .int y12_23)] [.int r_32.1]
            refine g_if_eq (pc' := 630) O ⟨dL_law_627, rfl⟩ E (tgt := 634) (by decide) (fun E => ?_) (fun E => ?_)
            · refine g_iconst (pc' := 635) O ⟨dL_law_634, rfl⟩ (v := (0 : Int32)) rfl ?_
              refine g_istore (pc' := 637) O ⟨dL_law_635, rfl⟩ (lv' := [(8, .int (0 : Int32)), (0, .ref b), (1, .ref (ad 0)), (2, .ref b0), (3, .ref b1), (4, .ref b2), (5, .ref b3), (6, .ref b4), (7, .ref b5), (9, .int x9_11), (12, .int y12_23)]) (by decide) rfl ?_
              refine g_iinc (pc' := 640) O ⟨dL_law_637, rfl⟩ (q := 9) (v := x9_11 + (1 : Int32)) (lv' := [(9, .int (x9_11 + (1 : Int32))), (8, .int (0 : Int32)), (0, .ref b), (1, .ref (ad 0)), (2, .ref b0), (3, .ref b1), (4, .ref b2), (5, .ref b3), (6, .ref b4), (7, .ref b5), (12, .int y12_23)]) rfl rfl (by decide) rfl ?_
              refine g_goto (pc' := 643) O ⟨dL_law_640, rfl⟩ (tgt := 52) (by decide) ?_
              refine g_sub (lv' := [(0, .ref b), (1, .ref (ad 0)), (2, .ref b0), (3, .ref b1), (4, .ref b2), (5, .ref b3), (6, .ref b4), (7, .ref b5), (8, .int (0 : Int32)), (9, .int (x9_11 + (1 : Int32)))]) [2, 3, 4, 5, 6, 7, 8, 9, 1, 0] rfl ?_
              exact ih52 _ _ _ _ _ _ _ _ _ E _ _ (ar_bk (d := 243) hkq52 (Nat.le_of_ble_eq_true rfl)) (ar_bk (d := 1548) hnq52 (Nat.le_of_ble_eq_true rfl))
            · refine g_iconst (pc' := 631) O ⟨dL_law_630, rfl⟩ (v := (1 : Int32)) rfl ?_
              refine g_goto (pc' := 634) O ⟨dL_law_631, rfl⟩ (tgt := 635) (by decide) ?_
              refine g_istore (pc' := 637) O ⟨dL_law_635, rfl⟩ (lv' := [(8, .int (1 : Int32)), (0, .ref b), (1, .ref (ad 0)), (2, .ref b0), (3, .ref b1), (4, .ref b2), (5, .ref b3), (6, .ref b4), (7, .ref b5), (9, .int x9_11), (12, .int y12_23)]) (by decide) rfl ?_
              refine g_iinc (pc' := 640) O ⟨dL_law_637, rfl⟩ (q := 9) (v := x9_11 + (1 : Int32)) (lv' := [(9, .int (x9_11 + (1 : Int32))), (8, .int (1 : Int32)), (0, .ref b), (1, .ref (ad 0)), (2, .ref b0), (3, .ref b1), (4, .ref b2), (5, .ref b3), (6, .ref b4), (7, .ref b5), (12, .int y12_23)]) rfl rfl (by decide) rfl ?_
              refine g_goto (pc' := 643) O ⟨dL_law_640, rfl⟩ (tgt := 52) (by decide) ?_
              refine g_sub (lv' := [(0, .ref b), (1, .ref (ad 0)), (2, .ref b0), (3, .ref b1), (4, .ref b2), (5, .ref b3), (6, .ref b4), (7, .ref b5), (8, .int (1 : Int32)), (9, .int (x9_11 + (1 : Int32)))]) [2, 3, 4, 5, 6, 7, 8, 9, 1, 0] rfl ?_
              exact ih52 _ _ _ _ _ _ _ _ _ E _ _ (ar_bk (d := 243) hkq52 (Nat.le_of_ble_eq_true rfl)) (ar_bk (d := 1548) hnq52 (Nat.le_of_ble_eq_true rfl))
        · intro k602 hk602 E
          refine g_if_ne (pc' := 92) O ⟨dL_law_89, rfl⟩ E (tgt := 165) (by decide) (fun E => ?_) (fun E => ?_)
          · refine g_iload (pc' := 167) O ⟨dL_law_165, rfl⟩ (q := 1) rfl ?_
            refine g_bipush (pc' := 169) O ⟨dL_law_167, rfl⟩ (v := (17 : Int32)) rfl ?_
            refine g_icmp_ge (pc' := 172) O ⟨dL_law_169, rfl⟩ E (tgt := 240) (by decide) (fun E => ?_) (fun E => ?_)
            · refine g_iload (pc' := 242) O ⟨dL_law_240, rfl⟩ (q := 1) rfl ?_
              refine g_bipush (pc' := 244) O ⟨dL_law_242, rfl⟩ (v := (20 : Int32)) rfl ?_
              refine g_icmp_ge (pc' := 247) O ⟨dL_law_244, rfl⟩ E (tgt := 261) (by decide) (fun E => ?_) (fun E => ?_)
              · refine g_iload (pc' := 263) O ⟨dL_law_261, rfl⟩ (q := 1) rfl ?_
                refine g_bipush (pc' := 265) O ⟨dL_law_263, rfl⟩ (v := (22 : Int32)) rfl ?_
                refine g_icmp_ge (pc' := 268) O ⟨dL_law_265, rfl⟩ E (tgt := 298) (by decide) (fun E => ?_) (fun E => ?_)
                · refine g_iload (pc' := 300) O ⟨dL_law_298, rfl⟩ (q := 1) rfl ?_
                  refine g_bipush (pc' := 302) O ⟨dL_law_300, rfl⟩ (v := (26 : Int32)) rfl ?_
                  refine g_icmp_ge (pc' := 305) O ⟨dL_law_302, rfl⟩ E (tgt := 464) (by decide) (fun E => ?_) (fun E => ?_)
                  · refine g_iload (pc' := 466) O ⟨dL_law_464, rfl⟩ (q := 0) rfl ?_
                    refine g_aload (pc' := 468) O ⟨dL_law_466, rfl⟩ (q := 10) rfl ?_
                    refine g_iconst (pc' := 469) O ⟨dL_law_468, rfl⟩ (v := (0 : Int32)) rfl ?_
                    refine g_iald (pc' := 470) O ⟨dL_law_469, rfl⟩ zX6_5 E (fun E => ?_)
                    obtain ⟨r_34, c_35, E⟩ := bd_of E
                    refine g_MSi (pc' := 473) O hN ⟨dL_law_470, rfl⟩ (y := yL_low) (As := [.int y12_23, .int (r5_18 (0 : Int32).toNatClampNeg)]) (st := []) (put := (fun g => (h_12, r0_13, r1_14, r2_15, r3_16, r4_17, r5_18))) sub_X6_A (t_L_low l D cy hfl c_35) kw_408 kw_24 kw_406 kw_407 hd_L_low ⟨Nat.le_of_ble_eq_true rfl, Nat.le_of_ble_eq_true rfl⟩ ⟨ar_tr (d := 0) hkq52 (Nat.le_of_ble_eq_true rfl) (Nat.le_of_ble_eq_true rfl), ar_tr (d := 0) hnq52 (Nat.le_of_ble_eq_true rfl) (Nat.le_of_ble_eq_true rfl)⟩ rfl (Nat.le_of_ble_eq_true rfl) ?_
                    show G l D X 18 (WX6 ad cy 24 40 6 36 6 4 b0 b1 b2 b3 b4 b5) kq52 nq52 (h_12, r0_13, r1_14, r2_15, r3_16, r4_17, r5_18) 473 [(12, .int y12_23), (11, .int r_21), (10, .int r_19), (0, .ref b), (1, .ref (ad 0)), (2, .ref b0), (3, .ref b1), (4, .ref b2), (5, .ref b3), (6, .ref b4), (7, .ref b5), (8, .int x8_10), (9, .int x9_11)] [.int r_34]
                    refine g_istore (pc' := 475) O ⟨dL_law_473, rfl⟩ (lv' := [(13, .int r_34), (12, .int y12_23), (11, .int r_21), (10, .int r_19), (0, .ref b), (1, .ref (ad 0)), (2, .ref b0), (3, .ref b1), (4, .ref b2), (5, .ref b3), (6, .ref b4), (7, .ref b5), (8, .int x8_10), (9, .int x9_11)]) (by decide) rfl ?_
                    refine g_iload (pc' := 477) O ⟨dL_law_475, rfl⟩ (q := 0) rfl ?_
                    refine g_iconst (pc' := 478) O ⟨dL_law_477, rfl⟩ (v := (1 : Int32)) rfl ?_
                    refine g_iadd (pc' := 479) O ⟨dL_law_478, rfl⟩ ?_
                    refine g_iload (pc' := 481) O ⟨dL_law_479, rfl⟩ (q := 1) rfl ?_
                    refine g_iconst (pc' := 482) O ⟨dL_law_481, rfl⟩ (v := (3 : Int32)) rfl ?_
                    refine g_ishr (pc' := 483) O ⟨dL_law_482, rfl⟩ ?_
                    refine g_aload (pc' := 485) O ⟨dL_law_483, rfl⟩ (q := 11) rfl ?_
                    refine g_iconst (pc' := 486) O ⟨dL_law_485, rfl⟩ (v := (0 : Int32)) rfl ?_
                    refine g_iald (pc' := 487) O ⟨dL_law_486, rfl⟩ zX6_5 E (fun E => ?_)
                    refine g_iconst (pc' := 488) O ⟨dL_law_487, rfl⟩ (v := (1 : Int32)) rfl ?_
                    refine g_isub (pc' := 489) O ⟨dL_law_488, rfl⟩ ?_
                    obtain ⟨r_36, c_37, E⟩ := bd_of E
                    refine g_MSi (pc' := 492) O hN ⟨dL_law_489, rfl⟩ (y := yL_low) (As := [.int (ishr y12_23 (3 : Int32)), .int ((r5_18 (0 : Int32).toNatClampNeg) - (1 : Int32))]) (st := [.int (r_34 + (1 : Int32))]) (put := (fun g => (h_12, r0_13, r1_14, r2_15, r3_16, r4_17, r5_18))) sub_X6_A (t_L_low l D cy hfl c_37) kw_408 kw_24 kw_406 kw_407 hd_L_low ⟨Nat.le_of_ble_eq_true rfl, Nat.le_of_ble_eq_true rfl⟩ ⟨ar_tr (d := 0) hkq52 (Nat.le_of_ble_eq_true rfl) (Nat.le_of_ble_eq_true rfl), ar_tr (d := 0) hnq52 (Nat.le_of_ble_eq_true rfl) (Nat.le_of_ble_eq_true rfl)⟩ rfl (Nat.le_of_ble_eq_true rfl) ?_
                    show G l D X 18 (WX6 ad cy 24 40 6 36 6 4 b0 b1 b2 b3 b4 b5) kq52 nq52 (h_12, r0_13, r1_14, r2_15, r3_16, r4_17, r5_18) 492 [(13, .int r_34), (12, .int y12_23), (11, .int r_21), (10, .int r_19), (0, .ref b), (1, .ref (ad 0)), (2, .ref b0), (3, .ref b1), (4, .ref b2), (5, .ref b3), (6, .ref b4), (7, .ref b5), (8, .int x8_10), (9, .int x9_11)] [.int r_36, .int (r_34 + (1 : Int32))]
                    refine g_iadd (pc' := 493) O ⟨dL_law_492, rfl⟩ ?_
                    refine g_aload (pc' := 495) O ⟨dL_law_493, rfl⟩ (q := 11) rfl ?_
                    refine g_iconst (pc' := 496) O ⟨dL_law_495, rfl⟩ (v := (0 : Int32)) rfl ?_
                    refine g_iald (pc' := 497) O ⟨dL_law_496, rfl⟩ zX6_5 E (fun E => ?_)
                    obtain ⟨nz_497, E⟩ := nz_of E
                    refine g_irem (pc' := 498) O ⟨dL_law_497, rfl⟩ nz_497 ?_
                    refine g_nm E (fun y14_38 E => ?_)
                    refine g_istore (pc' := 500) O ⟨dL_law_498, rfl⟩ (lv' := [(14, .int y14_38), (13, .int r_34), (12, .int y12_23), (11, .int r_21), (10, .int r_19), (0, .ref b), (1, .ref (ad 0)), (2, .ref b0), (3, .ref b1), (4, .ref b2), (5, .ref b3), (6, .ref b4), (7, .ref b5), (8, .int x8_10), (9, .int x9_11)]) (by decide) rfl ?_
                    refine g_iload (pc' := 502) O ⟨dL_law_500, rfl⟩ (q := 1) rfl ?_
                    refine g_iload (pc' := 504) O ⟨dL_law_502, rfl⟩ (q := 0) rfl ?_
                    refine g_aload (pc' := 506) O ⟨dL_law_504, rfl⟩ (q := 10) rfl ?_
                    refine g_aload (pc' := 508) O ⟨dL_law_506, rfl⟩ (q := 12) rfl ?_
                    obtain ⟨r_39, c_40, E⟩ := bd_of E
                    refine g_MSi (pc' := 511) O hN ⟨dL_law_508, rfl⟩ (y := yL_agreeing) (As := [.int r_34, .int y14_38, .ref b3, .ref b5]) (st := []) (put := (fun g => (h_12, r0_13, r1_14, r2_15, g.1, r4_17, g.2))) sub_X6_A3_5 (t_L_agreeing l D cy hfl b3 b5 c_40) kw_547 kw_24 kw_545 kw_546 hd_L_agreeing ⟨Nat.le_of_ble_eq_true rfl, Nat.le_of_ble_eq_true rfl⟩ ⟨ar_tr (d := 1) hkq52 (Nat.le_of_ble_eq_true rfl) (Nat.le_of_ble_eq_true rfl), ar_tr (d := 6) hnq52 (Nat.le_of_ble_eq_true rfl) (Nat.le_of_ble_eq_true rfl)⟩ rfl (Nat.le_of_ble_eq_true rfl) ?_
                    show G l D X 18 (WX6 ad cy 24 40 6 36 6 4 b0 b1 b2 b3 b4 b5) (kq52 + 1) (nq52 + 6) (h_12, r0_13, r1_14, r2_15, r3_16, r4_17, r5_18) 511 [(14, .int y14_38), (13, .int r_34), (12, .int y12_23), (11, .int r_21), (10, .int r_19), (0, .ref b), (1, .ref (ad 0)), (2, .ref b0), (3, .ref b1), (4, .ref b2), (5, .ref b3), (6, .ref b4), (7, .ref b5), (8, .int x8_10), (9, .int x9_11)] [.int r_39]
                    refine g_istore (pc' := 513) O ⟨dL_law_511, rfl⟩ (lv' := [(15, .int r_39), (14, .int y14_38), (13, .int r_34), (12, .int y12_23), (11, .int r_21), (10, .int r_19), (0, .ref b), (1, .ref (ad 0)), (2, .ref b0), (3, .ref b1), (4, .ref b2), (5, .ref b3), (6, .ref b4), (7, .ref b5), (8, .int x8_10), (9, .int x9_11)]) (by decide) rfl ?_
                    refine g_iload (pc' := 515) O ⟨dL_law_513, rfl⟩ (q := 1) rfl ?_
                    refine g_iload (pc' := 517) O ⟨dL_law_515, rfl⟩ (q := 2) rfl ?_
                    refine g_aload (pc' := 519) O ⟨dL_law_517, rfl⟩ (q := 11) rfl ?_
                    refine g_aload (pc' := 521) O ⟨dL_law_519, rfl⟩ (q := 13) rfl ?_
                    obtain ⟨r_41, c_42, E⟩ := bd_of E
                    refine g_MSi (pc' := 524) O hN ⟨dL_law_521, rfl⟩ (y := yL_agreeing) (As := [.int y14_38, .int r_34, .ref b3, .ref b5]) (st := []) (put := (fun g => (h_12, r0_13, r1_14, r2_15, g.1, r4_17, g.2))) sub_X6_A3_5 (t_L_agreeing l D cy hfl b3 b5 c_42) kw_547 kw_24 kw_545 kw_546 hd_L_agreeing ⟨Nat.le_of_ble_eq_true rfl, Nat.le_of_ble_eq_true rfl⟩ ⟨ar_tr (d := 2) hkq52 (Nat.le_of_ble_eq_true rfl) (Nat.le_of_ble_eq_true rfl), ar_tr (d := 12) hnq52 (Nat.le_of_ble_eq_true rfl) (Nat.le_of_ble_eq_true rfl)⟩ rfl (Nat.le_of_ble_eq_true rfl) ?_
                    show G l D X 18 (WX6 ad cy 24 40 6 36 6 4 b0 b1 b2 b3 b4 b5) (kq52 + 2) (nq52 + 12) (h_12, r0_13, r1_14, r2_15, r3_16, r4_17, r5_18) 524 [(15, .int r_39), (14, .int y14_38), (13, .int r_34), (12, .int y12_23), (11, .int r_21), (10, .int r_19), (0, .ref b), (1, .ref (ad 0)), (2, .ref b0), (3, .ref b1), (4, .ref b2), (5, .ref b3), (6, .ref b4), (7, .ref b5), (8, .int x8_10), (9, .int x9_11)] [.int r_41]
                    refine g_istore (pc' := 526) O ⟨dL_law_524, rfl⟩ (lv' := [(16, .int r_41), (15, .int r_39), (14, .int y14_38), (13, .int r_34), (12, .int y12_23), (11, .int r_21), (10, .int r_19), (0, .ref b), (1, .ref (ad 0)), (2, .ref b0), (3, .ref b1), (4, .ref b2), (5, .ref b3), (6, .ref b4), (7, .ref b5), (8, .int x8_10), (9, .int x9_11)]) (by decide) rfl ?_
                    refine g_iload (pc' := 528) O ⟨dL_law_526, rfl⟩ (q := 1) rfl ?_
                    refine g_iload (pc' := 530) O ⟨dL_law_528, rfl⟩ (q := 0) rfl ?_
                    refine jn1_of (P := fun (z_43 : Int32) => G l D X 18 (WX6 ad cy 24 40 6 36 6 4 b0 b1 b2 b3 b4 b5) (kq52 + 2) (nq52 + 12) (h_12, r0_13, r1_14, r2_15, r3_16, r4_17, r5_18) 552 [(0, .ref b), (1, .ref (ad 0)), (2, .ref b0), (3, .ref b1), (4, .ref b2), (5, .ref b3), (6, .ref b4), (7, .ref b5), (9, .int x9_11), (12, .int y12_23), (13, .int r_34), (14, .int y14_38)] [.int z_43]) E ?_ ?_
                    · intro z_43 E
                      show G l D X 18 (WX6 ad cy 24 40 6 36 6 4 b0 b1 b2 b3 b4 b5) (kq52 + 2) (nq52 + 12) (h_12, r0_13, r1_14, r2_15, r3_16, r4_17, r5_18) 552 [(0, .ref b), (1, .ref (ad 0)), (2, .ref b0), (3, .ref b1), (4, .ref b2), (5, .ref b3), (6, .ref b4), (7, .ref b5), (9, .int x9_11), (12, .int y12_23), (13, .int r_34), (14, .int y14_38)] [.int z_43]
                      refine g_istore (pc' := 554) O ⟨dL_law_552, rfl⟩ (lv' := [(17, .int z_43), (0, .ref b), (1, .ref (ad 0)), (2, .ref b0), (3, .ref b1), (4, .ref b2), (5, .ref b3), (6, .ref b4), (7, .ref b5), (9, .int x9_11), (12, .int y12_23), (13, .int r_34), (14, .int y14_38)]) (by decide) rfl ?_
                      refine g_aload (pc' := 556) O ⟨dL_law_554, rfl⟩ (q := 6) rfl ?_
                      refine g_iload (pc' := 558) O ⟨dL_law_556, rfl⟩ (q := 0) rfl ?_
                      refine jn1_of (P := fun (z_44 : Int32) => G l D X 18 (WX6 ad cy 24 40 6 36 6 4 b0 b1 b2 b3 b4 b5) (kq52 + 2) (nq52 + 12) (h_12, r0_13, r1_14, r2_15, r3_16, r4_17, r5_18) 580 [(0, .ref b), (1, .ref (ad 0)), (2, .ref b0), (3, .ref b1), (4, .ref b2), (5, .ref b3), (6, .ref b4), (7, .ref b5), (9, .int x9_11), (12, .int y12_23), (13, .int r_34), (14, .int y14_38), (17, .int z_43)] [.int z_44, .ref b3]) E ?_ ?_
                      · intro z_44 E
                        show G l D X 18 (WX6 ad cy 24 40 6 36 6 4 b0 b1 b2 b3 b4 b5) (kq52 + 2) (nq52 + 12) (h_12, r0_13, r1_14, r2_15, r3_16, r4_17, r5_18) 580 [(0, .ref b), (1, .ref (ad 0)), (2, .ref b0), (3, .ref b1), (4, .ref b2), (5, .ref b3), (6, .ref b4), (7, .ref b5), (9, .int x9_11), (12, .int y12_23), (13, .int r_34), (14, .int y14_38), (17, .int z_43)] [.int z_44, .ref b3]
                        refine g_iconst (pc' := 581) O ⟨dL_law_580, rfl⟩ (v := (1 : Int32)) rfl ?_
                        refine g_iast (pc' := 582) O ⟨dL_law_581, rfl⟩ zX6_3 zsX6_3 E (fun E => ?_)
                        refine g_nmr (Go := fun (r3_45 : Row) => G l D X 18 (WX6 ad cy 24 40 6 36 6 4 b0 b1 b2 b3 b4 b5) (kq52 + 2) (nq52 + 12) (h_12, r0_13, r1_14, r2_15, r3_45, r4_17, r5_18) 582 [(0, .ref b), (1, .ref (ad 0)), (2, .ref b0), (3, .ref b1), (4, .ref b2), (5, .ref b3), (6, .ref b4), (7, .ref b5), (9, .int x9_11), (12, .int y12_23), (13, .int r_34), (14, .int y14_38), (17, .int z_43)] []) E (fun r3_45 E => ?_)
                        show G l D X 18 (WX6 ad cy 24 40 6 36 6 4 b0 b1 b2 b3 b4 b5) (kq52 + 2) (nq52 + 12) (h_12, r0_13, r1_14, r2_15, r3_45, r4_17, r5_18) 582 [(0, .ref b), (1, .ref (ad 0)), (2, .ref b0), (3, .ref b1), (4, .ref b2), (5, .ref b3), (6, .ref b4), (7, .ref b5), (9, .int x9_11), (12, .int y12_23), (13, .int r_34), (14, .int y14_38), (17, .int z_43)] []
                        refine g_aload_n (pc' := 583) O ⟨dL_law_582, rfl⟩ (q := 1) rfl rfl ?_
                        refine g_iload (pc' := 585) O ⟨dL_law_583, rfl⟩ (q := 10) rfl ?_
                        refine g_iload (pc' := 587) O ⟨dL_law_585, rfl⟩ (q := 11) rfl ?_
                        obtain ⟨z_49, c_47, e_48, E⟩ := hcatch_of E
                        refine g_UXi (pc' := 590) O ⟨dL_law_587, rfl⟩ (y := yX10_ask) (As := [.int r_34, .int y14_38]) (st := []) (put := (fun g => (g, r0_13, r1_14, r2_15, r3_45, r4_17, r5_18))) sub_X6_X (t_X10_ask l D ad cy hfl (h := h_12) c_47) kw_356 kw_25 kw_353 kw_354 kw_355 rfl zX6_x hd_X10_ask ⟨Nat.le_of_ble_eq_true rfl, Nat.le_of_ble_eq_true rfl⟩ ⟨ar_tr (d := 5) hkq52 (Nat.le_of_ble_eq_true rfl) (Nat.le_of_ble_eq_true rfl), ar_tr (d := 30) hnq52 (Nat.le_of_ble_eq_true rfl) (Nat.le_of_ble_eq_true rfl)⟩ rfl (Nat.le_of_ble_eq_true rfl) (fun E1 c q => (by cases e_48 E1 c q)) (fun r_46 q => ?_)
                        replace E := E r_46 q
                        show G l D X 18 (WX6 ad cy 24 40 6 36 6 4 b0 b1 b2 b3 b4 b5) (kq52 + 5) (nq52 + 30) (r_46.2, r0_13, r1_14, r2_15, r3_45, r4_17, r5_18) 590 [(0, .ref b), (1, .ref (ad 0)), (2, .ref b0), (3, .ref b1), (4, .ref b2), (5, .ref b3), (6, .ref b4), (7, .ref b5), (9, .int x9_11), (12, .int y12_23), (13, .int r_34), (14, .int y14_38), (17, .int z_43)] [.int r_46.1]
                        refine g_iload (pc' := 592) O ⟨dL_law_590, rfl⟩ (q := 12) rfl ?_
                        refine jn1_of (P := fun (z_50 : Int32) => G l D X 18 (WX6 ad cy 24 40 6 36 6 4 b0 b1 b2 b3 b4 b5) (kq52 + 5) (nq52 + 30) (r_46.2, r0_13, r1_14, r2_15, r3_45, r4_17, r5_18) 600 [(0, .ref b), (1, .ref (ad 0)), (2, .ref b0), (3, .ref b1), (4, .ref b2), (5, .ref b3), (6, .ref b4), (7, .ref b5), (9, .int x9_11), (12, .int y12_23)] [.int z_50]) E ?_ ?_
                        · intro z_50 E
                          show G l D X 18 (WX6 ad cy 24 40 6 36 6 4 b0 b1 b2 b3 b4 b5) (kq52 + 5) (nq52 + 30) (r_46.2, r0_13, r1_14, r2_15, r3_45, r4_17, r5_18) 600 [(0, .ref b), (1, .ref (ad 0)), (2, .ref b0), (3, .ref b1), (4, .ref b2), (5, .ref b3), (6, .ref b4), (7, .ref b5), (9, .int x9_11), (12, .int y12_23)] [.int z_50]
                          refine g_istore (pc' := 602) O ⟨dL_law_600, rfl⟩ (lv' := [(8, .int z_50), (0, .ref b), (1, .ref (ad 0)), (2, .ref b0), (3, .ref b1), (4, .ref b2), (5, .ref b3), (6, .ref b4), (7, .ref b5), (9, .int x9_11), (12, .int y12_23)]) (by decide) rfl ?_
                          refine g_sub (lv' := [(0, .ref b), (1, .ref (ad 0)), (2, .ref b0), (3, .ref b1), (4, .ref b2), (5, .ref b3), (6, .ref b4), (7, .ref b5), (8, .int z_50), (9, .int x9_11), (12, .int y12_23)]) [1, 2, 3, 4, 5, 6, 7, 8, 0, 9, 10] rfl ?_
                          refine g_widen (k1 := (kq52 + 152)) (n1 := (nq52 + 930)) (Nat.add_le_add_left (Nat.le_of_ble_eq_true rfl) _) (Nat.add_le_add_left (Nat.le_of_ble_eq_true rfl) _) ?_
                          exact hk602 _ _ _ _ _ _ _ _ E
                        · intro k600 hk600 E
                          refine g_icmp_ne (pc' := 595) O ⟨dL_law_592, rfl⟩ E (tgt := 599) (by decide) (fun E => ?_) (fun E => ?_)
                          · refine g_iconst (pc' := 600) O ⟨dL_law_599, rfl⟩ (v := (0 : Int32)) rfl ?_
                            refine g_sub (lv' := [(0, .ref b), (1, .ref (ad 0)), (2, .ref b0), (3, .ref b1), (4, .ref b2), (5, .ref b3), (6, .ref b4), (7, .ref b5), (9, .int x9_11), (12, .int y12_23)]) [0, 1, 2, 3, 4, 5, 6, 7, 8, 9] rfl ?_
                            exact hk600 _ E
                          · refine g_iconst (pc' := 596) O ⟨dL_law_595, rfl⟩ (v := (1 : Int32)) rfl ?_
                            refine g_goto (pc' := 599) O ⟨dL_law_596, rfl⟩ (tgt := 600) (by decide) ?_
                            refine g_sub (lv' := [(0, .ref b), (1, .ref (ad 0)), (2, .ref b0), (3, .ref b1), (4, .ref b2), (5, .ref b3), (6, .ref b4), (7, .ref b5), (9, .int x9_11), (12, .int y12_23)]) [0, 1, 2, 3, 4, 5, 6, 7, 8, 9] rfl ?_
                            exact hk600 _ E
                      · intro k580 hk580 E
                        refine g_if_eq (pc' := 561) O ⟨dL_law_558, rfl⟩ E (tgt := 572) (by decide) (fun E => ?_) (fun E => ?_)
                        · refine g_bipush (pc' := 574) O ⟨dL_law_572, rfl⟩ (v := (6 : Int32)) rfl ?_
                          refine g_iload (pc' := 576) O ⟨dL_law_574, rfl⟩ (q := 12) rfl ?_
                          refine g_imul (pc' := 577) O ⟨dL_law_576, rfl⟩ ?_
                          refine g_iload (pc' := 579) O ⟨dL_law_577, rfl⟩ (q := 11) rfl ?_
                          refine g_iadd (pc' := 580) O ⟨dL_law_579, rfl⟩ ?_
                          refine g_sub (lv' := [(0, .ref b), (1, .ref (ad 0)), (2, .ref b0), (3, .ref b1), (4, .ref b2), (5, .ref b3), (6, .ref b4), (7, .ref b5), (9, .int x9_11), (12, .int y12_23), (13, .int r_34), (14, .int y14_38), (17, .int z_43)]) [1, 2, 3, 4, 5, 6, 7, 8, 9, 10, 11, 12, 0] rfl ?_
                          exact hk580 _ E
                        · refine g_bipush (pc' := 563) O ⟨dL_law_561, rfl⟩ (v := (6 : Int32)) rfl ?_
                          refine g_iload (pc' := 565) O ⟨dL_law_563, rfl⟩ (q := 11) rfl ?_
                          refine g_imul (pc' := 566) O ⟨dL_law_565, rfl⟩ ?_
                          refine g_iload (pc' := 568) O ⟨dL_law_566, rfl⟩ (q := 12) rfl ?_
                          refine g_iadd (pc' := 569) O ⟨dL_law_568, rfl⟩ ?_
                          refine g_goto (pc' := 572) O ⟨dL_law_569, rfl⟩ (tgt := 580) (by decide) ?_
                          refine g_sub (lv' := [(0, .ref b), (1, .ref (ad 0)), (2, .ref b0), (3, .ref b1), (4, .ref b2), (5, .ref b3), (6, .ref b4), (7, .ref b5), (9, .int x9_11), (12, .int y12_23), (13, .int r_34), (14, .int y14_38), (17, .int z_43)]) [1, 2, 3, 4, 5, 6, 7, 8, 9, 10, 11, 12, 0] rfl ?_
                          exact hk580 _ E
                    · intro k552 hk552 E
                      refine jn0_of (P := G l D X 18 (WX6 ad cy 24 40 6 36 6 4 b0 b1 b2 b3 b4 b5) (kq52 + 2) (nq52 + 12) (h_12, r0_13, r1_14, r2_15, r3_16, r4_17, r5_18) 547 [(0, .ref b), (1, .ref (ad 0)), (2, .ref b0), (3, .ref b1), (4, .ref b2), (5, .ref b3), (6, .ref b4), (7, .ref b5), (9, .int x9_11), (12, .int y12_23), (13, .int r_34), (14, .int y14_38)] []) E ?_ ?_
                      · intro E
                        show G l D X 18 (WX6 ad cy 24 40 6 36 6 4 b0 b1 b2 b3 b4 b5) (kq52 + 2) (nq52 + 12) (h_12, r0_13, r1_14, r2_15, r3_16, r4_17, r5_18) 547 [(0, .ref b), (1, .ref (ad 0)), (2, .ref b0), (3, .ref b1), (4, .ref b2), (5, .ref b3), (6, .ref b4), (7, .ref b5), (9, .int x9_11), (12, .int y12_23), (13, .int r_34), (14, .int y14_38)] []
                        refine g_iconst (pc' := 548) O ⟨dL_law_547, rfl⟩ (v := (1 : Int32)) rfl ?_
                        refine g_goto (pc' := 551) O ⟨dL_law_548, rfl⟩ (tgt := 552) (by decide) ?_
                        exact hk552 _ E
                      · intro k547 hk547 E
                        refine g_icmp_gt (pc' := 533) O ⟨dL_law_530, rfl⟩ E (tgt := 547) (by decide) (fun E => ?_) (fun E => ?_)
                        · refine g_sub (lv' := [(0, .ref b), (1, .ref (ad 0)), (2, .ref b0), (3, .ref b1), (4, .ref b2), (5, .ref b3), (6, .ref b4), (7, .ref b5), (9, .int x9_11), (12, .int y12_23), (13, .int r_34), (14, .int y14_38)]) [7, 8, 9, 10, 11, 12, 13, 14, 16, 4, 3, 2] rfl ?_
                          exact hk547 E
                        · refine g_iload (pc' := 535) O ⟨dL_law_533, rfl⟩ (q := 1) rfl ?_
                          refine g_iload (pc' := 537) O ⟨dL_law_535, rfl⟩ (q := 0) rfl ?_
                          refine jn0_of (P := G l D X 18 (WX6 ad cy 24 40 6 36 6 4 b0 b1 b2 b3 b4 b5) (kq52 + 2) (nq52 + 12) (h_12, r0_13, r1_14, r2_15, r3_16, r4_17, r5_18) 551 [(0, .ref b), (1, .ref (ad 0)), (2, .ref b0), (3, .ref b1), (4, .ref b2), (5, .ref b3), (6, .ref b4), (7, .ref b5), (9, .int x9_11), (12, .int y12_23), (13, .int r_34), (14, .int y14_38)] []) E ?_ ?_
                          · intro E
                            show G l D X 18 (WX6 ad cy 24 40 6 36 6 4 b0 b1 b2 b3 b4 b5) (kq52 + 2) (nq52 + 12) (h_12, r0_13, r1_14, r2_15, r3_16, r4_17, r5_18) 551 [(0, .ref b), (1, .ref (ad 0)), (2, .ref b0), (3, .ref b1), (4, .ref b2), (5, .ref b3), (6, .ref b4), (7, .ref b5), (9, .int x9_11), (12, .int y12_23), (13, .int r_34), (14, .int y14_38)] []
                            refine g_iconst (pc' := 552) O ⟨dL_law_551, rfl⟩ (v := (0 : Int32)) rfl ?_
                            exact hk552 _ E
                          · intro k551 hk551 E
                            refine g_icmp_ne (pc' := 540) O ⟨dL_law_537, rfl⟩ E (tgt := 551) (by decide) (fun E => ?_) (fun E => ?_)
                            · refine g_sub (lv' := [(0, .ref b), (1, .ref (ad 0)), (2, .ref b0), (3, .ref b1), (4, .ref b2), (5, .ref b3), (6, .ref b4), (7, .ref b5), (9, .int x9_11), (12, .int y12_23), (13, .int r_34), (14, .int y14_38)]) [7, 8, 9, 10, 11, 12, 13, 14, 16, 4, 3, 2] rfl ?_
                              exact hk551 E
                            · refine g_iload (pc' := 542) O ⟨dL_law_540, rfl⟩ (q := 3) rfl ?_
                              refine g_iload (pc' := 544) O ⟨dL_law_542, rfl⟩ (q := 2) rfl ?_
                              refine g_icmp_ge (pc' := 547) O ⟨dL_law_544, rfl⟩ E (tgt := 551) (by decide) (fun E => ?_) (fun E => ?_)
                              · refine g_sub (lv' := [(0, .ref b), (1, .ref (ad 0)), (2, .ref b0), (3, .ref b1), (4, .ref b2), (5, .ref b3), (6, .ref b4), (7, .ref b5), (9, .int x9_11), (12, .int y12_23), (13, .int r_34), (14, .int y14_38)]) [7, 8, 9, 10, 11, 12, 13, 14, 16, 4, 3, 2] rfl ?_
                                exact hk551 E
                              · refine g_sub (lv' := [(0, .ref b), (1, .ref (ad 0)), (2, .ref b0), (3, .ref b1), (4, .ref b2), (5, .ref b3), (6, .ref b4), (7, .ref b5), (9, .int x9_11), (12, .int y12_23), (13, .int r_34), (14, .int y14_38)]) [7, 8, 9, 10, 11, 12, 13, 14, 16, 4, 3, 2] rfl ?_
                                exact hk547 E
                  · refine g_iconst (pc' := 306) O ⟨dL_law_305, rfl⟩ (v := (0 : Int32)) rfl ?_
                    refine g_istore (pc' := 308) O ⟨dL_law_306, rfl⟩ (lv' := [(13, .int (0 : Int32)), (12, .int y12_23), (11, .int r_21), (10, .int r_19), (0, .ref b), (1, .ref (ad 0)), (2, .ref b0), (3, .ref b1), (4, .ref b2), (5, .ref b3), (6, .ref b4), (7, .ref b5), (8, .int x8_10), (9, .int x9_11)]) (by decide) rfl ?_
                    refine jn4_of (P := fun (x8_51 : Int32) (h_52 : Hp) (r2_53 : Row) (r4_54 : Row) => G l D X 18 (WX6 ad cy 24 40 6 36 6 4 b0 b1 b2 b3 b4 b5) (kq52 + 78) (nq52 + 468) (h_52, r0_13, r1_14, r2_53, r3_16, r4_54, r5_18) 461 [(0, .ref b), (1, .ref (ad 0)), (2, .ref b0), (3, .ref b1), (4, .ref b2), (5, .ref b3), (6, .ref b4), (7, .ref b5), (8, .int x8_51), (9, .int x9_11), (12, .int y12_23)] []) E ?_ ?_
                    · intro x8_51 h_52 r2_53 r4_54 E
                      show G l D X 18 (WX6 ad cy 24 40 6 36 6 4 b0 b1 b2 b3 b4 b5) (kq52 + 78) (nq52 + 468) (h_52, r0_13, r1_14, r2_53, r3_16, r4_54, r5_18) 461 [(0, .ref b), (1, .ref (ad 0)), (2, .ref b0), (3, .ref b1), (4, .ref b2), (5, .ref b3), (6, .ref b4), (7, .ref b5), (8, .int x8_51), (9, .int x9_11), (12, .int y12_23)] []
                      refine g_goto (pc' := 464) O ⟨dL_law_461, rfl⟩ (tgt := 602) (by decide) ?_
                      refine g_widen (k1 := (kq52 + 152)) (n1 := (nq52 + 930)) (Nat.add_le_add_left (Nat.le_of_ble_eq_true rfl) _) (Nat.add_le_add_left (Nat.le_of_ble_eq_true rfl) _) ?_
                      exact hk602 _ _ _ _ _ _ _ _ E
                    · intro k461 hk461 E
                      refine g_sub (lv' := [(0, .ref b), (1, .ref (ad 0)), (2, .ref b0), (3, .ref b1), (4, .ref b2), (5, .ref b3), (6, .ref b4), (7, .ref b5), (8, .int x8_10), (9, .int x9_11), (12, .int y12_23), (13, .int (0 : Int32))]) [4, 5, 6, 7, 8, 9, 10, 11, 12, 13, 1, 0] rfl ?_
                      refine fxc5_of (P := fun (m308 : Nat) (x8_55 : Int32) (x13_56 : Int32) (h_57 : Hp) (r2_58 : Row) (r4_59 : Row) => ∀ kq308 nq308 : Nat, kq308 + m308 * 13 ≤ (kq52 + 78) → nq308 + m308 * 78 ≤ (nq52 + 468) → G l D X 18 (WX6 ad cy 24 40 6 36 6 4 b0 b1 b2 b3 b4 b5) kq308 nq308 (h_57, r0_13, r1_14, r2_58, r3_16, r4_59, r5_18) 308 [(0, .ref b), (1, .ref (ad 0)), (2, .ref b0), (3, .ref b1), (4, .ref b2), (5, .ref b3), (6, .ref b4), (7, .ref b5), (8, .int x8_55), (9, .int x9_11), (12, .int y12_23), (13, .int x13_56)] []) ?_ 6 _ _ _ _ _ E kq52 nq52 (Nat.le_refl _) (Nat.le_refl _)
                      intro m308 self ih308 x8_55 x13_56 h_57 r2_58 r4_59 E kq308 nq308 hkq308 hnq308
                      show G l D X 18 (WX6 ad cy 24 40 6 36 6 4 b0 b1 b2 b3 b4 b5) kq308 nq308 (h_57, r0_13, r1_14, r2_58, r3_16, r4_59, r5_18) 308 [(0, .ref b), (1, .ref (ad 0)), (2, .ref b0), (3, .ref b1), (4, .ref b2), (5, .ref b3), (6, .ref b4), (7, .ref b5), (8, .int x8_55), (9, .int x9_11), (12, .int y12_23), (13, .int x13_56)] []
                      unfold L_L_law_308 at E
                      refine g_iload (pc' := 310) O ⟨dL_law_308, rfl⟩ (q := 11) rfl ?_
                      refine g_iload (pc' := 312) O ⟨dL_law_310, rfl⟩ (q := 10) rfl ?_
                      refine g_iconst (pc' := 313) O ⟨dL_law_312, rfl⟩ (v := (3 : Int32)) rfl ?_
                      refine g_ishr (pc' := 314) O ⟨dL_law_313, rfl⟩ ?_
                      refine g_iconst (pc' := 315) O ⟨dL_law_314, rfl⟩ (v := (4 : Int32)) rfl ?_
                      obtain ⟨r_60, c_61, E⟩ := bd_of E
                      refine g_MSi (pc' := 318) O hN ⟨dL_law_315, rfl⟩ (y := yL_low) (As := [.int (ishr y12_23 (3 : Int32)), .int (4 : Int32)]) (st := [.int x13_56]) (put := (fun g => (h_57, r0_13, r1_14, r2_58, r3_16, r4_59, r5_18))) sub_X6_A (t_L_low l D cy hfl c_61) kw_408 kw_24 kw_406 kw_407 hd_L_low ⟨Nat.le_of_ble_eq_true rfl, Nat.le_of_ble_eq_true rfl⟩ ⟨ar_tr (d := 0) hkq308 (Nat.le_of_ble_eq_true rfl) (ar_tr (d := 78) hkq52 (Nat.le_of_ble_eq_true rfl) (Nat.le_of_ble_eq_true rfl)), ar_tr (d := 0) hnq308 (Nat.le_of_ble_eq_true rfl) (ar_tr (d := 468) hnq52 (Nat.le_of_ble_eq_true rfl) (Nat.le_of_ble_eq_true rfl))⟩ rfl (Nat.le_of_ble_eq_true rfl) ?_
                      show G l D X 18 (WX6 ad cy 24 40 6 36 6 4 b0 b1 b2 b3 b4 b5) kq308 nq308 (h_57, r0_13, r1_14, r2_58, r3_16, r4_59, r5_18) 318 [(0, .ref b), (1, .ref (ad 0)), (2, .ref b0), (3, .ref b1), (4, .ref b2), (5, .ref b3), (6, .ref b4), (7, .ref b5), (8, .int x8_55), (9, .int x9_11), (12, .int y12_23), (13, .int x13_56)] [.int r_60, .int x13_56]
                      refine g_icmp_gt (pc' := 321) O ⟨dL_law_318, rfl⟩ E (tgt := 461) (by decide) (fun E => ?_) (fun E => ?_)
                      · refine g_sub (lv' := [(0, .ref b), (1, .ref (ad 0)), (2, .ref b0), (3, .ref b1), (4, .ref b2), (5, .ref b3), (6, .ref b4), (7, .ref b5), (8, .int x8_55), (9, .int x9_11), (12, .int y12_23)]) [0, 1, 2, 3, 4, 5, 6, 7, 8, 9, 10] rfl ?_
                        refine g_widen (k1 := (kq52 + 78)) (n1 := (nq52 + 468)) (ar_tr (d := 0) hkq308 (Nat.le_of_ble_eq_true rfl) (Nat.le_refl _)) (ar_tr (d := 0) hnq308 (Nat.le_of_ble_eq_true rfl) (Nat.le_refl _)) ?_
                        exact hk461 _ _ _ _ E
                      · refine g_iload (pc' := 323) O ⟨dL_law_321, rfl⟩ (q := 8) rfl ?_
                        refine g_if_eq (pc' := 326) O ⟨dL_law_323, rfl⟩ E (tgt := 461) (by decide) (fun E => ?_) (fun E => ?_)
                        · refine g_sub (lv' := [(0, .ref b), (1, .ref (ad 0)), (2, .ref b0), (3, .ref b1), (4, .ref b2), (5, .ref b3), (6, .ref b4), (7, .ref b5), (8, .int x8_55), (9, .int x9_11), (12, .int y12_23)]) [0, 1, 2, 3, 4, 5, 6, 7, 8, 9, 10] rfl ?_
                          refine g_widen (k1 := (kq52 + 78)) (n1 := (nq52 + 468)) (ar_tr (d := 0) hkq308 (Nat.le_of_ble_eq_true rfl) (Nat.le_refl _)) (ar_tr (d := 0) hnq308 (Nat.le_of_ble_eq_true rfl) (Nat.le_refl _)) ?_
                          exact hk461 _ _ _ _ E
                        · refine g_iload (pc' := 328) O ⟨dL_law_326, rfl⟩ (q := 10) rfl ?_
                          refine g_iload (pc' := 330) O ⟨dL_law_328, rfl⟩ (q := 11) rfl ?_
                          refine g_ishr (pc' := 331) O ⟨dL_law_330, rfl⟩ ?_
                          refine g_aload (pc' := 333) O ⟨dL_law_331, rfl⟩ (q := 7) rfl ?_
                          refine g_iconst (pc' := 334) O ⟨dL_law_333, rfl⟩ (v := (0 : Int32)) rfl ?_
                          refine g_iald (pc' := 335) O ⟨dL_law_334, rfl⟩ zX6_5 E (fun E => ?_)
                          obtain ⟨r_62, c_63, E⟩ := bd_of E
                          refine g_MSi (pc' := 338) O hN ⟨dL_law_335, rfl⟩ (y := yL_low) (As := [.int (ishr y12_23 x13_56), .int (r5_18 (0 : Int32).toNatClampNeg)]) (st := []) (put := (fun g => (h_57, r0_13, r1_14, r2_58, r3_16, r4_59, r5_18))) sub_X6_A (t_L_low l D cy hfl c_63) kw_408 kw_24 kw_406 kw_407 hd_L_low ⟨Nat.le_of_ble_eq_true rfl, Nat.le_of_ble_eq_true rfl⟩ ⟨ar_tr (d := 0) hkq308 (Nat.le_of_ble_eq_true rfl) (ar_tr (d := 78) hkq52 (Nat.le_of_ble_eq_true rfl) (Nat.le_of_ble_eq_true rfl)), ar_tr (d := 0) hnq308 (Nat.le_of_ble_eq_true rfl) (ar_tr (d := 468) hnq52 (Nat.le_of_ble_eq_true rfl) (Nat.le_of_ble_eq_true rfl))⟩ rfl (Nat.le_of_ble_eq_true rfl) ?_
                          show G l D X 18 (WX6 ad cy 24 40 6 36 6 4 b0 b1 b2 b3 b4 b5) kq308 nq308 (h_57, r0_13, r1_14, r2_58, r3_16, r4_59, r5_18) 338 [(0, .ref b), (1, .ref (ad 0)), (2, .ref b0), (3, .ref b1), (4, .ref b2), (5, .ref b3), (6, .ref b4), (7, .ref b5), (8, .int x8_55), (9, .int x9_11), (12, .int y12_23), (13, .int x13_56)] [.int r_62]
                          refine g_istore (pc' := 340) O ⟨dL_law_338, rfl⟩ (lv' := [(14, .int r_62), (0, .ref b), (1, .ref (ad 0)), (2, .ref b0), (3, .ref b1), (4, .ref b2), (5, .ref b3), (6, .ref b4), (7, .ref b5), (8, .int x8_55), (9, .int x9_11), (12, .int y12_23), (13, .int x13_56)]) (by decide) rfl ?_
                          refine g_aload (pc' := 342) O ⟨dL_law_340, rfl⟩ (q := 5) rfl ?_
                          refine g_aload (pc' := 344) O ⟨dL_law_342, rfl⟩ (q := 7) rfl ?_
                          refine g_aload_n (pc' := 345) O ⟨dL_law_344, rfl⟩ (q := 3) rfl rfl ?_
                          refine g_aload (pc' := 347) O ⟨dL_law_345, rfl⟩ (q := 8) rfl ?_
                          obtain ⟨r_64, c_65, E⟩ := bd_of E
                          refine g_MSv (pc' := 350) O hN ⟨dL_law_347, rfl⟩ (y := yL_counts) (As := [.ref b2, .ref b4, .ref b0, .ref b5]) (st := []) (put := (fun g => (h_57, g.2.2.1, r1_14, g.1, r3_16, g.2.1, g.2.2.2))) sub_X6_A2_4_0_5 (t_L_counts l D cy hfl b2 b4 b0 b5 c_65) kw_671 kw_24 kw_669 kw_670 hd_L_counts ⟨Nat.le_of_ble_eq_true rfl, Nat.le_of_ble_eq_true rfl⟩ ⟨ar_tr (d := 0) hkq308 (Nat.le_of_ble_eq_true rfl) (ar_tr (d := 78) hkq52 (Nat.le_of_ble_eq_true rfl) (Nat.le_of_ble_eq_true rfl)), ar_tr (d := 0) hnq308 (Nat.le_of_ble_eq_true rfl) (ar_tr (d := 468) hnq52 (Nat.le_of_ble_eq_true rfl) (Nat.le_of_ble_eq_true rfl))⟩ rfl (Nat.le_of_ble_eq_true rfl) ?_
                          show G l D X 18 (WX6 ad cy 24 40 6 36 6 4 b0 b1 b2 b3 b4 b5) kq308 nq308 (h_57, r0_13, r1_14, r2_58, r3_16, r_64, r5_18) 350 [(14, .int r_62), (0, .ref b), (1, .ref (ad 0)), (2, .ref b0), (3, .ref b1), (4, .ref b2), (5, .ref b3), (6, .ref b4), (7, .ref b5), (8, .int x8_55), (9, .int x9_11), (12, .int y12_23), (13, .int x13_56)] []
                          refine g_iconst (pc' := 351) O ⟨dL_law_350, rfl⟩ (v := (0 : Int32)) rfl ?_
                          refine g_istore (pc' := 353) O ⟨dL_law_351, rfl⟩ (lv' := [(15, .int (0 : Int32)), (14, .int r_62), (0, .ref b), (1, .ref (ad 0)), (2, .ref b0), (3, .ref b1), (4, .ref b2), (5, .ref b3), (6, .ref b4), (7, .ref b5), (8, .int x8_55), (9, .int x9_11), (12, .int y12_23), (13, .int x13_56)]) (by decide) rfl ?_
                          refine g_iconst (pc' := 354) O ⟨dL_law_353, rfl⟩ (v := (0 : Int32)) rfl ?_
                          refine g_istore (pc' := 356) O ⟨dL_law_354, rfl⟩ (lv' := [(16, .int (0 : Int32)), (15, .int (0 : Int32)), (14, .int r_62), (0, .ref b), (1, .ref (ad 0)), (2, .ref b0), (3, .ref b1), (4, .ref b2), (5, .ref b3), (6, .ref b4), (7, .ref b5), (8, .int x8_55), (9, .int x9_11), (12, .int y12_23), (13, .int x13_56)]) (by decide) rfl ?_
                          refine jn1_of (P := fun (x15_66 : Int32) => G l D X 18 (WX6 ad cy 24 40 6 36 6 4 b0 b1 b2 b3 b4 b5) kq308 nq308 (h_57, r0_13, r1_14, r2_58, r3_16, r_64, r5_18) 384 [(0, .ref b), (1, .ref (ad 0)), (2, .ref b0), (3, .ref b1), (4, .ref b2), (5, .ref b3), (6, .ref b4), (7, .ref b5), (9, .int x9_11), (12, .int y12_23), (13, .int x13_56), (14, .int r_62), (15, .int x15_66)] []) E ?_ ?_
                          · intro x15_66 E
                            show G l D X 18 (WX6 ad cy 24 40 6 36 6 4 b0 b1 b2 b3 b4 b5) kq308 nq308 (h_57, r0_13, r1_14, r2_58, r3_16, r_64, r5_18) 384 [(0, .ref b), (1, .ref (ad 0)), (2, .ref b0), (3, .ref b1), (4, .ref b2), (5, .ref b3), (6, .ref b4), (7, .ref b5), (9, .int x9_11), (12, .int y12_23), (13, .int x13_56), (14, .int r_62), (15, .int x15_66)] []
                            refine g_aload (pc' := 386) O ⟨dL_law_384, rfl⟩ (q := 4) rfl ?_
                            refine g_iload (pc' := 388) O ⟨dL_law_386, rfl⟩ (q := 11) rfl ?_
                            refine g_dup2 (pc' := 389) O ⟨dL_law_388, rfl⟩ rfl rfl ?_
                            refine g_iald (pc' := 390) O ⟨dL_law_389, rfl⟩ zX6_2 E (fun E => ?_)
                            refine g_iconst (pc' := 391) O ⟨dL_law_390, rfl⟩ (v := (1 : Int32)) rfl ?_
                            refine g_iadd (pc' := 392) O ⟨dL_law_391, rfl⟩ ?_
                            refine g_iast (pc' := 393) O ⟨dL_law_392, rfl⟩ zX6_2 zsX6_2 E (fun E => ?_)
                            refine g_nmr (Go := fun (r2_67 : Row) => G l D X 18 (WX6 ad cy 24 40 6 36 6 4 b0 b1 b2 b3 b4 b5) kq308 nq308 (h_57, r0_13, r1_14, r2_67, r3_16, r_64, r5_18) 393 [(0, .ref b), (1, .ref (ad 0)), (2, .ref b0), (3, .ref b1), (4, .ref b2), (5, .ref b3), (6, .ref b4), (7, .ref b5), (9, .int x9_11), (12, .int y12_23), (13, .int x13_56), (14, .int r_62), (15, .int x15_66)] []) E (fun r2_67 E => ?_)
                            show G l D X 18 (WX6 ad cy 24 40 6 36 6 4 b0 b1 b2 b3 b4 b5) kq308 nq308 (h_57, r0_13, r1_14, r2_67, r3_16, r_64, r5_18) 393 [(0, .ref b), (1, .ref (ad 0)), (2, .ref b0), (3, .ref b1), (4, .ref b2), (5, .ref b3), (6, .ref b4), (7, .ref b5), (9, .int x9_11), (12, .int y12_23), (13, .int x13_56), (14, .int r_62), (15, .int x15_66)] []
                            refine g_aload (pc' := 395) O ⟨dL_law_393, rfl⟩ (q := 4) rfl ?_
                            refine g_aload (pc' := 397) O ⟨dL_law_395, rfl⟩ (q := 6) rfl ?_
                            refine g_aload_n (pc' := 398) O ⟨dL_law_397, rfl⟩ (q := 2) rfl rfl ?_
                            refine g_aload (pc' := 400) O ⟨dL_law_398, rfl⟩ (q := 7) rfl ?_
                            obtain ⟨r_68, c_69, E⟩ := bd_of E
                            refine g_MSv (pc' := 403) O hN ⟨dL_law_400, rfl⟩ (y := yL_counts) (As := [.ref b2, .ref b4, .ref b0, .ref b5]) (st := []) (put := (fun g => (h_57, g.2.2.1, r1_14, g.1, r3_16, g.2.1, g.2.2.2))) sub_X6_A2_4_0_5 (t_L_counts l D cy hfl b2 b4 b0 b5 c_69) kw_671 kw_24 kw_669 kw_670 hd_L_counts ⟨Nat.le_of_ble_eq_true rfl, Nat.le_of_ble_eq_true rfl⟩ ⟨ar_tr (d := 0) hkq308 (Nat.le_of_ble_eq_true rfl) (ar_tr (d := 78) hkq52 (Nat.le_of_ble_eq_true rfl) (Nat.le_of_ble_eq_true rfl)), ar_tr (d := 0) hnq308 (Nat.le_of_ble_eq_true rfl) (ar_tr (d := 468) hnq52 (Nat.le_of_ble_eq_true rfl) (Nat.le_of_ble_eq_true rfl))⟩ rfl (Nat.le_of_ble_eq_true rfl) ?_
                            show G l D X 18 (WX6 ad cy 24 40 6 36 6 4 b0 b1 b2 b3 b4 b5) kq308 nq308 (h_57, r0_13, r1_14, r2_67, r3_16, r_68, r5_18) 403 [(0, .ref b), (1, .ref (ad 0)), (2, .ref b0), (3, .ref b1), (4, .ref b2), (5, .ref b3), (6, .ref b4), (7, .ref b5), (9, .int x9_11), (12, .int y12_23), (13, .int x13_56), (14, .int r_62), (15, .int x15_66)] []
                            refine g_iconst (pc' := 404) O ⟨dL_law_403, rfl⟩ (v := (0 : Int32)) rfl ?_
                            refine g_istore (pc' := 406) O ⟨dL_law_404, rfl⟩ (lv' := [(16, .int (0 : Int32)), (0, .ref b), (1, .ref (ad 0)), (2, .ref b0), (3, .ref b1), (4, .ref b2), (5, .ref b3), (6, .ref b4), (7, .ref b5), (9, .int x9_11), (12, .int y12_23), (13, .int x13_56), (14, .int r_62), (15, .int x15_66)]) (by decide) rfl ?_
                            refine jn1_of (P := fun (x15_70 : Int32) => G l D X 18 (WX6 ad cy 24 40 6 36 6 4 b0 b1 b2 b3 b4 b5) kq308 nq308 (h_57, r0_13, r1_14, r2_67, r3_16, r_68, r5_18) 434 [(0, .ref b), (1, .ref (ad 0)), (2, .ref b0), (3, .ref b1), (4, .ref b2), (5, .ref b3), (6, .ref b4), (7, .ref b5), (9, .int x9_11), (12, .int y12_23), (13, .int x13_56), (14, .int r_62), (15, .int x15_70)] []) E ?_ ?_
                            · intro x15_70 E
                              show G l D X 18 (WX6 ad cy 24 40 6 36 6 4 b0 b1 b2 b3 b4 b5) kq308 nq308 (h_57, r0_13, r1_14, r2_67, r3_16, r_68, r5_18) 434 [(0, .ref b), (1, .ref (ad 0)), (2, .ref b0), (3, .ref b1), (4, .ref b2), (5, .ref b3), (6, .ref b4), (7, .ref b5), (9, .int x9_11), (12, .int y12_23), (13, .int x13_56), (14, .int r_62), (15, .int x15_70)] []
                              refine g_aload_n (pc' := 435) O ⟨dL_law_434, rfl⟩ (q := 1) rfl rfl ?_
                              refine g_iconst (pc' := 436) O ⟨dL_law_435, rfl⟩ (v := (5 : Int32)) rfl ?_
                              refine g_iload (pc' := 438) O ⟨dL_law_436, rfl⟩ (q := 11) rfl ?_
                              refine g_iconst (pc' := 439) O ⟨dL_law_438, rfl⟩ (v := (0 : Int32)) rfl ?_
                              refine g_lconst (pc' := 440) O ⟨dL_law_439, rfl⟩ (v := (0 : Int64)) rfl ?_
                              obtain ⟨r_71, c_72, E⟩ := bd_of E
                              refine g_HS (pc' := 443) O hN ⟨dL_law_440, rfl⟩ (y := yL_calls) (As := [.ref (ad 0), .int (5 : Int32), .int r_62, .int (0 : Int32), .long (0 : Int64)]) (st := []) (put := (fun g => (g, r0_13, r1_14, r2_67, r3_16, r_68, r5_18))) sub_X6_X (t_L_calls l D ad cy hfl c_72) kw_412 kw_24 kw_410 kw_411 hd_L_calls ⟨Nat.le_of_ble_eq_true rfl, Nat.le_of_ble_eq_true rfl⟩ ⟨ar_tr (d := 13) hkq308 (Nat.le_of_ble_eq_true rfl) (ar_tr (d := 78) hkq52 (Nat.le_of_ble_eq_true rfl) (Nat.le_of_ble_eq_true rfl)), ar_tr (d := 78) hnq308 (Nat.le_of_ble_eq_true rfl) (ar_tr (d := 468) hnq52 (Nat.le_of_ble_eq_true rfl) (Nat.le_of_ble_eq_true rfl))⟩ rfl (Nat.le_of_ble_eq_true rfl) ?_
                              show G l D X 18 (WX6 ad cy 24 40 6 36 6 4 b0 b1 b2 b3 b4 b5) (kq308 + 13) (nq308 + 78) (r_71.2, r0_13, r1_14, r2_67, r3_16, r_68, r5_18) 443 [(0, .ref b), (1, .ref (ad 0)), (2, .ref b0), (3, .ref b1), (4, .ref b2), (5, .ref b3), (6, .ref b4), (7, .ref b5), (9, .int x9_11), (12, .int y12_23), (13, .int x13_56), (14, .int r_62), (15, .int x15_70)] [.int r_71.1]
                              refine g_iload (pc' := 445) O ⟨dL_law_443, rfl⟩ (q := 12) rfl ?_
                              refine g_icmp_ne (pc' := 448) O ⟨dL_law_445, rfl⟩ E (tgt := 452) (by decide) (fun E => ?_) (fun E => ?_)
                              · refine g_iconst (pc' := 453) O ⟨dL_law_452, rfl⟩ (v := (0 : Int32)) rfl ?_
                                refine g_istore (pc' := 455) O ⟨dL_law_453, rfl⟩ (lv' := [(8, .int (0 : Int32)), (0, .ref b), (1, .ref (ad 0)), (2, .ref b0), (3, .ref b1), (4, .ref b2), (5, .ref b3), (6, .ref b4), (7, .ref b5), (9, .int x9_11), (12, .int y12_23), (13, .int x13_56), (14, .int r_62), (15, .int x15_70)]) (by decide) rfl ?_
                                refine g_iinc (pc' := 458) O ⟨dL_law_455, rfl⟩ (q := 11) (v := x13_56 + (1 : Int32)) (lv' := [(13, .int (x13_56 + (1 : Int32))), (8, .int (0 : Int32)), (0, .ref b), (1, .ref (ad 0)), (2, .ref b0), (3, .ref b1), (4, .ref b2), (5, .ref b3), (6, .ref b4), (7, .ref b5), (9, .int x9_11), (12, .int y12_23), (14, .int r_62), (15, .int x15_70)]) rfl rfl (by decide) rfl ?_
                                refine g_goto (pc' := 461) O ⟨dL_law_458, rfl⟩ (tgt := 308) (by decide) ?_
                                refine g_sub (lv' := [(0, .ref b), (1, .ref (ad 0)), (2, .ref b0), (3, .ref b1), (4, .ref b2), (5, .ref b3), (6, .ref b4), (7, .ref b5), (8, .int (0 : Int32)), (9, .int x9_11), (12, .int y12_23), (13, .int (x13_56 + (1 : Int32)))]) [2, 3, 4, 5, 6, 7, 8, 9, 1, 10, 11, 0] rfl ?_
                                exact ih308 _ _ _ _ _ E _ _ (ar_bk (d := 13) hkq308 (Nat.le_of_ble_eq_true rfl)) (ar_bk (d := 78) hnq308 (Nat.le_of_ble_eq_true rfl))
                              · refine g_iconst (pc' := 449) O ⟨dL_law_448, rfl⟩ (v := (1 : Int32)) rfl ?_
                                refine g_goto (pc' := 452) O ⟨dL_law_449, rfl⟩ (tgt := 453) (by decide) ?_
                                refine g_istore (pc' := 455) O ⟨dL_law_453, rfl⟩ (lv' := [(8, .int (1 : Int32)), (0, .ref b), (1, .ref (ad 0)), (2, .ref b0), (3, .ref b1), (4, .ref b2), (5, .ref b3), (6, .ref b4), (7, .ref b5), (9, .int x9_11), (12, .int y12_23), (13, .int x13_56), (14, .int r_62), (15, .int x15_70)]) (by decide) rfl ?_
                                refine g_iinc (pc' := 458) O ⟨dL_law_455, rfl⟩ (q := 11) (v := x13_56 + (1 : Int32)) (lv' := [(13, .int (x13_56 + (1 : Int32))), (8, .int (1 : Int32)), (0, .ref b), (1, .ref (ad 0)), (2, .ref b0), (3, .ref b1), (4, .ref b2), (5, .ref b3), (6, .ref b4), (7, .ref b5), (9, .int x9_11), (12, .int y12_23), (14, .int r_62), (15, .int x15_70)]) rfl rfl (by decide) rfl ?_
                                refine g_goto (pc' := 461) O ⟨dL_law_458, rfl⟩ (tgt := 308) (by decide) ?_
                                refine g_sub (lv' := [(0, .ref b), (1, .ref (ad 0)), (2, .ref b0), (3, .ref b1), (4, .ref b2), (5, .ref b3), (6, .ref b4), (7, .ref b5), (8, .int (1 : Int32)), (9, .int x9_11), (12, .int y12_23), (13, .int (x13_56 + (1 : Int32)))]) [2, 3, 4, 5, 6, 7, 8, 9, 1, 10, 11, 0] rfl ?_
                                exact ih308 _ _ _ _ _ E _ _ (ar_bk (d := 13) hkq308 (Nat.le_of_ble_eq_true rfl)) (ar_bk (d := 78) hnq308 (Nat.le_of_ble_eq_true rfl))
                            · intro k434 hk434 E
                              refine g_sub (lv' := [(0, .ref b), (1, .ref (ad 0)), (2, .ref b0), (3, .ref b1), (4, .ref b2), (5, .ref b3), (6, .ref b4), (7, .ref b5), (9, .int x9_11), (12, .int y12_23), (13, .int x13_56), (14, .int r_62), (15, .int x15_66), (16, .int (0 : Int32))]) [1, 2, 3, 4, 5, 6, 7, 8, 9, 10, 11, 12, 13, 0] rfl ?_
                              refine fx2_of (P := fun (x15_73 : Int32) (x16_74 : Int32) => G l D X 18 (WX6 ad cy 24 40 6 36 6 4 b0 b1 b2 b3 b4 b5) kq308 nq308 (h_57, r0_13, r1_14, r2_67, r3_16, r_68, r5_18) 406 [(0, .ref b), (1, .ref (ad 0)), (2, .ref b0), (3, .ref b1), (4, .ref b2), (5, .ref b3), (6, .ref b4), (7, .ref b5), (9, .int x9_11), (12, .int y12_23), (13, .int x13_56), (14, .int r_62), (15, .int x15_73), (16, .int x16_74)] []) ?_ _ _ _ E
                              intro self ih406 x15_73 x16_74 E
                              show G l D X 18 (WX6 ad cy 24 40 6 36 6 4 b0 b1 b2 b3 b4 b5) kq308 nq308 (h_57, r0_13, r1_14, r2_67, r3_16, r_68, r5_18) 406 [(0, .ref b), (1, .ref (ad 0)), (2, .ref b0), (3, .ref b1), (4, .ref b2), (5, .ref b3), (6, .ref b4), (7, .ref b5), (9, .int x9_11), (12, .int y12_23), (13, .int x13_56), (14, .int r_62), (15, .int x15_73), (16, .int x16_74)] []
                              unfold L_L_law_406 at E
                              refine g_iload (pc' := 408) O ⟨dL_law_406, rfl⟩ (q := 13) rfl ?_
                              refine g_aload (pc' := 410) O ⟨dL_law_408, rfl⟩ (q := 7) rfl ?_
                              refine g_iconst (pc' := 411) O ⟨dL_law_410, rfl⟩ (v := (0 : Int32)) rfl ?_
                              refine g_iald (pc' := 412) O ⟨dL_law_411, rfl⟩ zX6_5 E (fun E => ?_)
                              refine g_icmp_ge (pc' := 415) O ⟨dL_law_412, rfl⟩ E (tgt := 434) (by decide) (fun E => ?_) (fun E => ?_)
                              · refine g_sub (lv' := [(0, .ref b), (1, .ref (ad 0)), (2, .ref b0), (3, .ref b1), (4, .ref b2), (5, .ref b3), (6, .ref b4), (7, .ref b5), (9, .int x9_11), (12, .int y12_23), (13, .int x13_56), (14, .int r_62), (15, .int x15_73)]) [0, 1, 2, 3, 4, 5, 6, 7, 8, 9, 10, 11, 12] rfl ?_
                                exact hk434 _ E
                              · refine g_iload (pc' := 417) O ⟨dL_law_415, rfl⟩ (q := 12) rfl ?_
                                refine g_iload (pc' := 419) O ⟨dL_law_417, rfl⟩ (q := 13) rfl ?_
                                refine g_aload (pc' := 421) O ⟨dL_law_419, rfl⟩ (q := 6) rfl ?_
                                refine g_iload (pc' := 423) O ⟨dL_law_421, rfl⟩ (q := 13) rfl ?_
                                refine g_iald (pc' := 424) O ⟨dL_law_423, rfl⟩ zX6_4 E (fun E => ?_)
                                refine g_imul (pc' := 425) O ⟨dL_law_424, rfl⟩ ?_
                                refine g_iadd (pc' := 426) O ⟨dL_law_425, rfl⟩ ?_
                                refine g_nm E (fun y15_75 E => ?_)
                                refine g_istore (pc' := 428) O ⟨dL_law_426, rfl⟩ (lv' := [(15, .int y15_75), (0, .ref b), (1, .ref (ad 0)), (2, .ref b0), (3, .ref b1), (4, .ref b2), (5, .ref b3), (6, .ref b4), (7, .ref b5), (9, .int x9_11), (12, .int y12_23), (13, .int x13_56), (14, .int r_62), (16, .int x16_74)]) (by decide) rfl ?_
                                refine g_iinc (pc' := 431) O ⟨dL_law_428, rfl⟩ (q := 13) (v := x16_74 + (1 : Int32)) (lv' := [(16, .int (x16_74 + (1 : Int32))), (15, .int y15_75), (0, .ref b), (1, .ref (ad 0)), (2, .ref b0), (3, .ref b1), (4, .ref b2), (5, .ref b3), (6, .ref b4), (7, .ref b5), (9, .int x9_11), (12, .int y12_23), (13, .int x13_56), (14, .int r_62)]) rfl rfl (by decide) rfl ?_
                                refine g_goto (pc' := 434) O ⟨dL_law_431, rfl⟩ (tgt := 406) (by decide) ?_
                                refine g_sub (lv' := [(0, .ref b), (1, .ref (ad 0)), (2, .ref b0), (3, .ref b1), (4, .ref b2), (5, .ref b3), (6, .ref b4), (7, .ref b5), (9, .int x9_11), (12, .int y12_23), (13, .int x13_56), (14, .int r_62), (15, .int y15_75), (16, .int (x16_74 + (1 : Int32)))]) [2, 3, 4, 5, 6, 7, 8, 9, 10, 11, 12, 13, 1, 0] rfl ?_
                                exact ih406 _ _ E
                          · intro k384 hk384 E
                            refine g_sub (lv' := [(0, .ref b), (1, .ref (ad 0)), (2, .ref b0), (3, .ref b1), (4, .ref b2), (5, .ref b3), (6, .ref b4), (7, .ref b5), (9, .int x9_11), (12, .int y12_23), (13, .int x13_56), (14, .int r_62), (15, .int (0 : Int32)), (16, .int (0 : Int32))]) [3, 4, 5, 6, 7, 8, 9, 10, 12, 13, 14, 2, 1, 0] rfl ?_
                            refine fx2_of (P := fun (x15_76 : Int32) (x16_77 : Int32) => G l D X 18 (WX6 ad cy 24 40 6 36 6 4 b0 b1 b2 b3 b4 b5) kq308 nq308 (h_57, r0_13, r1_14, r2_58, r3_16, r_64, r5_18) 356 [(0, .ref b), (1, .ref (ad 0)), (2, .ref b0), (3, .ref b1), (4, .ref b2), (5, .ref b3), (6, .ref b4), (7, .ref b5), (9, .int x9_11), (12, .int y12_23), (13, .int x13_56), (14, .int r_62), (15, .int x15_76), (16, .int x16_77)] []) ?_ _ _ _ E
                            intro self ih356 x15_76 x16_77 E
                            show G l D X 18 (WX6 ad cy 24 40 6 36 6 4 b0 b1 b2 b3 b4 b5) kq308 nq308 (h_57, r0_13, r1_14, r2_58, r3_16, r_64, r5_18) 356 [(0, .ref b), (1, .ref (ad 0)), (2, .ref b0), (3, .ref b1), (4, .ref b2), (5, .ref b3), (6, .ref b4), (7, .ref b5), (9, .int x9_11), (12, .int y12_23), (13, .int x13_56), (14, .int r_62), (15, .int x15_76), (16, .int x16_77)] []
                            unfold L_L_law_356 at E
                            refine g_iload (pc' := 358) O ⟨dL_law_356, rfl⟩ (q := 13) rfl ?_
                            refine g_aload (pc' := 360) O ⟨dL_law_358, rfl⟩ (q := 7) rfl ?_
                            refine g_iconst (pc' := 361) O ⟨dL_law_360, rfl⟩ (v := (0 : Int32)) rfl ?_
                            refine g_iald (pc' := 362) O ⟨dL_law_361, rfl⟩ zX6_5 E (fun E => ?_)
                            refine g_icmp_ge (pc' := 365) O ⟨dL_law_362, rfl⟩ E (tgt := 384) (by decide) (fun E => ?_) (fun E => ?_)
                            · refine g_sub (lv' := [(0, .ref b), (1, .ref (ad 0)), (2, .ref b0), (3, .ref b1), (4, .ref b2), (5, .ref b3), (6, .ref b4), (7, .ref b5), (9, .int x9_11), (12, .int y12_23), (13, .int x13_56), (14, .int r_62), (15, .int x15_76)]) [0, 1, 2, 3, 4, 5, 6, 7, 8, 9, 10, 11, 12] rfl ?_
                              exact hk384 _ E
                            · refine g_iload (pc' := 367) O ⟨dL_law_365, rfl⟩ (q := 12) rfl ?_
                              refine g_iload (pc' := 369) O ⟨dL_law_367, rfl⟩ (q := 13) rfl ?_
                              refine g_aload (pc' := 371) O ⟨dL_law_369, rfl⟩ (q := 6) rfl ?_
                              refine g_iload (pc' := 373) O ⟨dL_law_371, rfl⟩ (q := 13) rfl ?_
                              refine g_iald (pc' := 374) O ⟨dL_law_373, rfl⟩ zX6_4 E (fun E => ?_)
                              refine g_imul (pc' := 375) O ⟨dL_law_374, rfl⟩ ?_
                              refine g_isub (pc' := 376) O ⟨dL_law_375, rfl⟩ ?_
                              refine g_nm E (fun y15_78 E => ?_)
                              refine g_istore (pc' := 378) O ⟨dL_law_376, rfl⟩ (lv' := [(15, .int y15_78), (0, .ref b), (1, .ref (ad 0)), (2, .ref b0), (3, .ref b1), (4, .ref b2), (5, .ref b3), (6, .ref b4), (7, .ref b5), (9, .int x9_11), (12, .int y12_23), (13, .int x13_56), (14, .int r_62), (16, .int x16_77)]) (by decide) rfl ?_
                              refine g_iinc (pc' := 381) O ⟨dL_law_378, rfl⟩ (q := 13) (v := x16_77 + (1 : Int32)) (lv' := [(16, .int (x16_77 + (1 : Int32))), (15, .int y15_78), (0, .ref b), (1, .ref (ad 0)), (2, .ref b0), (3, .ref b1), (4, .ref b2), (5, .ref b3), (6, .ref b4), (7, .ref b5), (9, .int x9_11), (12, .int y12_23), (13, .int x13_56), (14, .int r_62)]) rfl rfl (by decide) rfl ?_
                              refine g_goto (pc' := 384) O ⟨dL_law_381, rfl⟩ (tgt := 356) (by decide) ?_
                              refine g_sub (lv' := [(0, .ref b), (1, .ref (ad 0)), (2, .ref b0), (3, .ref b1), (4, .ref b2), (5, .ref b3), (6, .ref b4), (7, .ref b5), (9, .int x9_11), (12, .int y12_23), (13, .int x13_56), (14, .int r_62), (15, .int y15_78), (16, .int (x16_77 + (1 : Int32)))]) [2, 3, 4, 5, 6, 7, 8, 9, 10, 11, 12, 13, 1, 0] rfl ?_
                              exact ih356 _ _ E
                · refine g_aload (pc' := 270) O ⟨dL_law_268, rfl⟩ (q := 10) rfl ?_
                  refine g_iconst (pc' := 271) O ⟨dL_law_270, rfl⟩ (v := (2 : Int32)) rfl ?_
                  refine g_iald (pc' := 272) O ⟨dL_law_271, rfl⟩ zX6_5 E (fun E => ?_)
                  refine g_istore (pc' := 274) O ⟨dL_law_272, rfl⟩ (lv' := [(13, .int (r5_18 (2 : Int32).toNatClampNeg)), (12, .int y12_23), (11, .int r_21), (10, .int r_19), (0, .ref b), (1, .ref (ad 0)), (2, .ref b0), (3, .ref b1), (4, .ref b2), (5, .ref b3), (6, .ref b4), (7, .ref b5), (8, .int x8_10), (9, .int x9_11)]) (by decide) rfl ?_
                  refine g_aload (pc' := 276) O ⟨dL_law_274, rfl⟩ (q := 11) rfl ?_
                  refine g_iconst (pc' := 277) O ⟨dL_law_276, rfl⟩ (v := (2 : Int32)) rfl ?_
                  refine g_iconst (pc' := 278) O ⟨dL_law_277, rfl⟩ (v := (0 : Int32)) rfl ?_
                  refine g_iast (pc' := 279) O ⟨dL_law_278, rfl⟩ zX6_5 zsX6_5 E (fun E => ?_)
                  refine g_nmr (Go := fun (r5_79 : Row) => G l D X 18 (WX6 ad cy 24 40 6 36 6 4 b0 b1 b2 b3 b4 b5) kq52 nq52 (h_12, r0_13, r1_14, r2_15, r3_16, r4_17, r5_79) 279 [(13, .int (r5_18 (2 : Int32).toNatClampNeg)), (12, .int y12_23), (11, .int r_21), (10, .int r_19), (0, .ref b), (1, .ref (ad 0)), (2, .ref b0), (3, .ref b1), (4, .ref b2), (5, .ref b3), (6, .ref b4), (7, .ref b5), (8, .int x8_10), (9, .int x9_11)] []) E (fun r5_79 E => ?_)
                  show G l D X 18 (WX6 ad cy 24 40 6 36 6 4 b0 b1 b2 b3 b4 b5) kq52 nq52 (h_12, r0_13, r1_14, r2_15, r3_16, r4_17, r5_79) 279 [(13, .int (r5_18 (2 : Int32).toNatClampNeg)), (12, .int y12_23), (11, .int r_21), (10, .int r_19), (0, .ref b), (1, .ref (ad 0)), (2, .ref b0), (3, .ref b1), (4, .ref b2), (5, .ref b3), (6, .ref b4), (7, .ref b5), (8, .int x8_10), (9, .int x9_11)] []
                  refine g_aload_n (pc' := 280) O ⟨dL_law_279, rfl⟩ (q := 5) rfl rfl ?_
                  obtain ⟨r_80, c_81, E⟩ := bd_of E
                  refine g_Ui (pc' := 283) O ⟨dL_law_280, rfl⟩ (y := yX10_wipe) (As := []) (st := []) (put := (fun g => (g, r0_13, r1_14, r2_15, r3_16, r4_17, r5_79))) sub_X6_X (t_X10_wipe l D ad cy (h := h_12) c_81) kw_348 kw_25 kw_345 kw_346 kw_347 rfl zX6_x hd_X10_wipe ⟨Nat.le_of_ble_eq_true rfl, Nat.le_of_ble_eq_true rfl⟩ ⟨ar_tr (d := 0) hkq52 (Nat.le_of_ble_eq_true rfl) (Nat.le_of_ble_eq_true rfl), ar_tr (d := 0) hnq52 (Nat.le_of_ble_eq_true rfl) (Nat.le_of_ble_eq_true rfl)⟩ rfl (Nat.le_of_ble_eq_true rfl) ?_
                  show G l D X 18 (WX6 ad cy 24 40 6 36 6 4 b0 b1 b2 b3 b4 b5) kq52 nq52 (r_80.2, r0_13, r1_14, r2_15, r3_16, r4_17, r5_79) 283 [(13, .int (r5_18 (2 : Int32).toNatClampNeg)), (12, .int y12_23), (11, .int r_21), (10, .int r_19), (0, .ref b), (1, .ref (ad 0)), (2, .ref b0), (3, .ref b1), (4, .ref b2), (5, .ref b3), (6, .ref b4), (7, .ref b5), (8, .int x8_10), (9, .int x9_11)] [.int r_80.1]
                  refine g_iload (pc' := 285) O ⟨dL_law_283, rfl⟩ (q := 0) rfl ?_
                  refine jn1_of (P := fun (z_82 : Int32) => G l D X 18 (WX6 ad cy 24 40 6 36 6 4 b0 b1 b2 b3 b4 b5) kq52 nq52 (r_80.2, r0_13, r1_14, r2_15, r3_16, r4_17, r5_79) 293 [(0, .ref b), (1, .ref (ad 0)), (2, .ref b0), (3, .ref b1), (4, .ref b2), (5, .ref b3), (6, .ref b4), (7, .ref b5), (9, .int x9_11), (12, .int y12_23)] [.int z_82]) E ?_ ?_
                  · intro z_82 E
                    show G l D X 18 (WX6 ad cy 24 40 6 36 6 4 b0 b1 b2 b3 b4 b5) kq52 nq52 (r_80.2, r0_13, r1_14, r2_15, r3_16, r4_17, r5_79) 293 [(0, .ref b), (1, .ref (ad 0)), (2, .ref b0), (3, .ref b1), (4, .ref b2), (5, .ref b3), (6, .ref b4), (7, .ref b5), (9, .int x9_11), (12, .int y12_23)] [.int z_82]
                    refine g_istore (pc' := 295) O ⟨dL_law_293, rfl⟩ (lv' := [(8, .int z_82), (0, .ref b), (1, .ref (ad 0)), (2, .ref b0), (3, .ref b1), (4, .ref b2), (5, .ref b3), (6, .ref b4), (7, .ref b5), (9, .int x9_11), (12, .int y12_23)]) (by decide) rfl ?_
                    refine g_goto (pc' := 298) O ⟨dL_law_295, rfl⟩ (tgt := 602) (by decide) ?_
                    refine g_sub (lv' := [(0, .ref b), (1, .ref (ad 0)), (2, .ref b0), (3, .ref b1), (4, .ref b2), (5, .ref b3), (6, .ref b4), (7, .ref b5), (8, .int z_82), (9, .int x9_11), (12, .int y12_23)]) [1, 2, 3, 4, 5, 6, 7, 8, 0, 9, 10] rfl ?_
                    refine g_widen (k1 := (kq52 + 152)) (n1 := (nq52 + 930)) (Nat.le_add_right _ _) (Nat.le_add_right _ _) ?_
                    exact hk602 _ _ _ _ _ _ _ _ E
                  · intro k293 hk293 E
                    refine g_icmp_ne (pc' := 288) O ⟨dL_law_285, rfl⟩ E (tgt := 292) (by decide) (fun E => ?_) (fun E => ?_)
                    · refine g_iconst (pc' := 293) O ⟨dL_law_292, rfl⟩ (v := (0 : Int32)) rfl ?_
                      refine g_sub (lv' := [(0, .ref b), (1, .ref (ad 0)), (2, .ref b0), (3, .ref b1), (4, .ref b2), (5, .ref b3), (6, .ref b4), (7, .ref b5), (9, .int x9_11), (12, .int y12_23)]) [4, 5, 6, 7, 8, 9, 10, 11, 13, 1] rfl ?_
                      exact hk293 _ E
                    · refine g_iconst (pc' := 289) O ⟨dL_law_288, rfl⟩ (v := (1 : Int32)) rfl ?_
                      refine g_goto (pc' := 292) O ⟨dL_law_289, rfl⟩ (tgt := 293) (by decide) ?_
                      refine g_sub (lv' := [(0, .ref b), (1, .ref (ad 0)), (2, .ref b0), (3, .ref b1), (4, .ref b2), (5, .ref b3), (6, .ref b4), (7, .ref b5), (9, .int x9_11), (12, .int y12_23)]) [4, 5, 6, 7, 8, 9, 10, 11, 13, 1] rfl ?_
                      exact hk293 _ E
              · refine g_aload_n (pc' := 248) O ⟨dL_law_247, rfl⟩ (q := 4) rfl rfl ?_
                refine g_iload (pc' := 250) O ⟨dL_law_248, rfl⟩ (q := 0) rfl ?_
                refine g_aload_n (pc' := 251) O ⟨dL_law_250, rfl⟩ (q := 6) rfl rfl ?_
                refine g_aload (pc' := 253) O ⟨dL_law_251, rfl⟩ (q := 10) rfl ?_
                obtain ⟨r_83, c_84, E⟩ := bd_of E
                refine g_MSi (pc' := 256) O hN ⟨dL_law_253, rfl⟩ (y := yL_types) (As := [.ref (ad 0), .int y12_23, .ref b1, .ref b5]) (st := []) (put := (fun g => (g.1, r0_13, g.2.1, r2_15, r3_16, r4_17, g.2.2))) sub_X6_X1_5 (t_L_types l D ad cy hfl b1 b5 c_84) kw_1083 kw_24 kw_1081 kw_1082 hd_L_types ⟨Nat.le_of_ble_eq_true rfl, Nat.le_of_ble_eq_true rfl⟩ ⟨ar_tr (d := 13) hkq52 (Nat.le_of_ble_eq_true rfl) (Nat.le_of_ble_eq_true rfl), ar_tr (d := 78) hnq52 (Nat.le_of_ble_eq_true rfl) (Nat.le_of_ble_eq_true rfl)⟩ rfl (Nat.le_of_ble_eq_true rfl) ?_
                show G l D X 18 (WX6 ad cy 24 40 6 36 6 4 b0 b1 b2 b3 b4 b5) (kq52 + 13) (nq52 + 78) (r_83.2.1, r0_13, r_83.2.2.1, r2_15, r3_16, r4_17, r_83.2.2.2) 256 [(12, .int y12_23), (11, .int r_21), (10, .int r_19), (0, .ref b), (1, .ref (ad 0)), (2, .ref b0), (3, .ref b1), (4, .ref b2), (5, .ref b3), (6, .ref b4), (7, .ref b5), (8, .int x8_10), (9, .int x9_11)] [.int r_83.1]
                refine g_istore (pc' := 258) O ⟨dL_law_256, rfl⟩ (lv' := [(8, .int r_83.1), (12, .int y12_23), (11, .int r_21), (10, .int r_19), (0, .ref b), (1, .ref (ad 0)), (2, .ref b0), (3, .ref b1), (4, .ref b2), (5, .ref b3), (6, .ref b4), (7, .ref b5), (9, .int x9_11)]) (by decide) rfl ?_
                refine g_goto (pc' := 261) O ⟨dL_law_258, rfl⟩ (tgt := 602) (by decide) ?_
                refine g_sub (lv' := [(0, .ref b), (1, .ref (ad 0)), (2, .ref b0), (3, .ref b1), (4, .ref b2), (5, .ref b3), (6, .ref b4), (7, .ref b5), (8, .int r_83.1), (9, .int x9_11), (12, .int y12_23)]) [4, 5, 6, 7, 8, 9, 10, 11, 0, 12, 1] rfl ?_
                refine g_widen (k1 := (kq52 + 152)) (n1 := (nq52 + 930)) (Nat.add_le_add_left (Nat.le_of_ble_eq_true rfl) _) (Nat.add_le_add_left (Nat.le_of_ble_eq_true rfl) _) ?_
                exact hk602 _ _ _ _ _ _ _ _ E
            · refine g_aload_n (pc' := 173) O ⟨dL_law_172, rfl⟩ (q := 4) rfl rfl ?_
              refine g_iload (pc' := 175) O ⟨dL_law_173, rfl⟩ (q := 1) rfl ?_
              refine g_bipush (pc' := 177) O ⟨dL_law_175, rfl⟩ (v := (9 : Int32)) rfl ?_
              refine jn1_of (P := fun (z_85 : Int32) => G l D X 18 (WX6 ad cy 24 40 6 36 6 4 b0 b1 b2 b3 b4 b5) kq52 nq52 (h_12, r0_13, r1_14, r2_15, r3_16, r4_17, r5_18) 222 [(0, .ref b), (1, .ref (ad 0)), (2, .ref b0), (3, .ref b1), (4, .ref b2), (5, .ref b3), (6, .ref b4), (7, .ref b5), (9, .int x9_11), (12, .int y12_23)] [.int z_85, .ref (ad 0)]) E ?_ ?_
              · intro z_85 E
                show G l D X 18 (WX6 ad cy 24 40 6 36 6 4 b0 b1 b2 b3 b4 b5) kq52 nq52 (h_12, r0_13, r1_14, r2_15, r3_16, r4_17, r5_18) 222 [(0, .ref b), (1, .ref (ad 0)), (2, .ref b0), (3, .ref b1), (4, .ref b2), (5, .ref b3), (6, .ref b4), (7, .ref b5), (9, .int x9_11), (12, .int y12_23)] [.int z_85, .ref (ad 0)]
                refine g_iload (pc' := 224) O ⟨dL_law_222, rfl⟩ (q := 9) rfl ?_
                refine g_aload_n (pc' := 225) O ⟨dL_law_224, rfl⟩ (q := 2) rfl rfl ?_
                refine g_aload_n (pc' := 226) O ⟨dL_law_225, rfl⟩ (q := 3) rfl rfl ?_
                refine g_aload (pc' := 228) O ⟨dL_law_226, rfl⟩ (q := 4) rfl ?_
                refine g_aload (pc' := 230) O ⟨dL_law_228, rfl⟩ (q := 5) rfl ?_
                refine g_aload (pc' := 232) O ⟨dL_law_230, rfl⟩ (q := 7) rfl ?_
                obtain ⟨r_86, c_87, E⟩ := bd_of E
                refine g_MSi (pc' := 235) O hN ⟨dL_law_232, rfl⟩ (y := yL_builds) (As := [.ref (ad 0), .int z_85, .int y12_23, .ref b0, .ref b1, .ref b2, .ref b3, .ref b5]) (st := []) (put := (fun g => (g.1, g.2.1, g.2.2.1, g.2.2.2.1, g.2.2.2.2.1, r4_17, g.2.2.2.2.2))) sub_X6_X0_1_2_3_5 (t_L_builds l D ad cy hfl b0 b1 b2 b3 b5 c_87) kw_1034 kw_24 kw_1032 kw_1033 hd_L_builds ⟨Nat.le_of_ble_eq_true rfl, Nat.le_of_ble_eq_true rfl⟩ ⟨ar_tr (d := 55) hkq52 (Nat.le_of_ble_eq_true rfl) (Nat.le_of_ble_eq_true rfl), ar_tr (d := 348) hnq52 (Nat.le_of_ble_eq_true rfl) (Nat.le_of_ble_eq_true rfl)⟩ rfl (Nat.le_of_ble_eq_true rfl) ?_
                show G l D X 18 (WX6 ad cy 24 40 6 36 6 4 b0 b1 b2 b3 b4 b5) (kq52 + 55) (nq52 + 348) (r_86.2.1, r_86.2.2.1, r1_14, r_86.2.2.2.1, r3_16, r4_17, r_86.2.2.2.2) 235 [(0, .ref b), (1, .ref (ad 0)), (2, .ref b0), (3, .ref b1), (4, .ref b2), (5, .ref b3), (6, .ref b4), (7, .ref b5), (9, .int x9_11), (12, .int y12_23)] [.int r_86.1]
                refine g_istore (pc' := 237) O ⟨dL_law_235, rfl⟩ (lv' := [(8, .int r_86.1), (0, .ref b), (1, .ref (ad 0)), (2, .ref b0), (3, .ref b1), (4, .ref b2), (5, .ref b3), (6, .ref b4), (7, .ref b5), (9, .int x9_11), (12, .int y12_23)]) (by decide) rfl ?_
                refine g_goto (pc' := 240) O ⟨dL_law_237, rfl⟩ (tgt := 602) (by decide) ?_
                refine g_sub (lv' := [(0, .ref b), (1, .ref (ad 0)), (2, .ref b0), (3, .ref b1), (4, .ref b2), (5, .ref b3), (6, .ref b4), (7, .ref b5), (8, .int r_86.1), (9, .int x9_11), (12, .int y12_23)]) [1, 2, 3, 4, 5, 6, 7, 8, 0, 9, 10] rfl ?_
                refine g_widen (k1 := (kq52 + 152)) (n1 := (nq52 + 930)) (Nat.add_le_add_left (Nat.le_of_ble_eq_true rfl) _) (Nat.add_le_add_left (Nat.le_of_ble_eq_true rfl) _) ?_
                exact hk602 _ _ _ _ _ _ _ _ E
              · intro k222 hk222 E
                refine g_icmp_ge (pc' := 180) O ⟨dL_law_177, rfl⟩ E (tgt := 184) (by decide) (fun E => ?_) (fun E => ?_)
                · refine g_iload (pc' := 186) O ⟨dL_law_184, rfl⟩ (q := 1) rfl ?_
                  refine g_bipush (pc' := 188) O ⟨dL_law_186, rfl⟩ (v := (9 : Int32)) rfl ?_
                  refine g_icmp_ne (pc' := 191) O ⟨dL_law_188, rfl⟩ E (tgt := 195) (by decide) (fun E => ?_) (fun E => ?_)
                  · refine g_iload (pc' := 197) O ⟨dL_law_195, rfl⟩ (q := 1) rfl ?_
                    refine g_bipush (pc' := 199) O ⟨dL_law_197, rfl⟩ (v := (12 : Int32)) rfl ?_
                    refine g_icmp_ge (pc' := 202) O ⟨dL_law_199, rfl⟩ E (tgt := 206) (by decide) (fun E => ?_) (fun E => ?_)
                    · refine g_iload (pc' := 208) O ⟨dL_law_206, rfl⟩ (q := 1) rfl ?_
                      refine g_bipush (pc' := 210) O ⟨dL_law_208, rfl⟩ (v := (14 : Int32)) rfl ?_
                      refine g_icmp_ge (pc' := 213) O ⟨dL_law_210, rfl⟩ E (tgt := 217) (by decide) (fun E => ?_) (fun E => ?_)
                      · refine g_iload (pc' := 219) O ⟨dL_law_217, rfl⟩ (q := 1) rfl ?_
                        refine g_bipush (pc' := 221) O ⟨dL_law_219, rfl⟩ (v := (10 : Int32)) rfl ?_
                        refine g_isub (pc' := 222) O ⟨dL_law_221, rfl⟩ ?_
                        refine g_sub (lv' := [(0, .ref b), (1, .ref (ad 0)), (2, .ref b0), (3, .ref b1), (4, .ref b2), (5, .ref b3), (6, .ref b4), (7, .ref b5), (9, .int x9_11), (12, .int y12_23)]) [3, 4, 5, 6, 7, 8, 9, 10, 12, 0] rfl ?_
                        exact hk222 _ E
                      · refine g_iconst (pc' := 214) O ⟨dL_law_213, rfl⟩ (v := (3 : Int32)) rfl ?_
                        refine g_goto (pc' := 217) O ⟨dL_law_214, rfl⟩ (tgt := 222) (by decide) ?_
                        refine g_sub (lv' := [(0, .ref b), (1, .ref (ad 0)), (2, .ref b0), (3, .ref b1), (4, .ref b2), (5, .ref b3), (6, .ref b4), (7, .ref b5), (9, .int x9_11), (12, .int y12_23)]) [3, 4, 5, 6, 7, 8, 9, 10, 12, 0] rfl ?_
                        exact hk222 _ E
                    · refine g_iconst (pc' := 203) O ⟨dL_law_202, rfl⟩ (v := (2 : Int32)) rfl ?_
                      refine g_goto (pc' := 206) O ⟨dL_law_203, rfl⟩ (tgt := 222) (by decide) ?_
                      refine g_sub (lv' := [(0, .ref b), (1, .ref (ad 0)), (2, .ref b0), (3, .ref b1), (4, .ref b2), (5, .ref b3), (6, .ref b4), (7, .ref b5), (9, .int x9_11), (12, .int y12_23)]) [3, 4, 5, 6, 7, 8, 9, 10, 12, 0] rfl ?_
                      exact hk222 _ E
                  · refine g_iconst (pc' := 192) O ⟨dL_law_191, rfl⟩ (v := (1 : Int32)) rfl ?_
                    refine g_goto (pc' := 195) O ⟨dL_law_192, rfl⟩ (tgt := 222) (by decide) ?_
                    refine g_sub (lv' := [(0, .ref b), (1, .ref (ad 0)), (2, .ref b0), (3, .ref b1), (4, .ref b2), (5, .ref b3), (6, .ref b4), (7, .ref b5), (9, .int x9_11), (12, .int y12_23)]) [3, 4, 5, 6, 7, 8, 9, 10, 12, 0] rfl ?_
                    exact hk222 _ E
                · refine g_iconst (pc' := 181) O ⟨dL_law_180, rfl⟩ (v := (0 : Int32)) rfl ?_
                  refine g_goto (pc' := 184) O ⟨dL_law_181, rfl⟩ (tgt := 222) (by decide) ?_
                  refine g_sub (lv' := [(0, .ref b), (1, .ref (ad 0)), (2, .ref b0), (3, .ref b1), (4, .ref b2), (5, .ref b3), (6, .ref b4), (7, .ref b5), (9, .int x9_11), (12, .int y12_23)]) [3, 4, 5, 6, 7, 8, 9, 10, 12, 0] rfl ?_
                  exact hk222 _ E
          · refine g_aload (pc' := 94) O ⟨dL_law_92, rfl⟩ (q := 10) rfl ?_
            refine g_iconst (pc' := 95) O ⟨dL_law_94, rfl⟩ (v := (1 : Int32)) rfl ?_
            refine g_iald (pc' := 96) O ⟨dL_law_95, rfl⟩ zX6_5 E (fun E => ?_)
            refine g_istore (pc' := 98) O ⟨dL_law_96, rfl⟩ (lv' := [(13, .int (r5_18 (1 : Int32).toNatClampNeg)), (12, .int y12_23), (11, .int r_21), (10, .int r_19), (0, .ref b), (1, .ref (ad 0)), (2, .ref b0), (3, .ref b1), (4, .ref b2), (5, .ref b3), (6, .ref b4), (7, .ref b5), (8, .int x8_10), (9, .int x9_11)]) (by decide) rfl ?_
            refine g_aload (pc' := 100) O ⟨dL_law_98, rfl⟩ (q := 11) rfl ?_
            refine g_iconst (pc' := 101) O ⟨dL_law_100, rfl⟩ (v := (0 : Int32)) rfl ?_
            refine g_iconst (pc' := 102) O ⟨dL_law_101, rfl⟩ (v := (2 : Int32)) rfl ?_
            refine g_iload (pc' := 104) O ⟨dL_law_102, rfl⟩ (q := 1) rfl ?_
            refine g_iconst (pc' := 105) O ⟨dL_law_104, rfl⟩ (v := (4 : Int32)) rfl ?_
            obtain ⟨r_88, c_89, E⟩ := bd_of E
            refine g_MSi (pc' := 108) O hN ⟨dL_law_105, rfl⟩ (y := yL_low) (As := [.int y12_23, .int (4 : Int32)]) (st := [.int (2 : Int32), .int (0 : Int32), .ref b5]) (put := (fun g => (h_12, r0_13, r1_14, r2_15, r3_16, r4_17, r5_18))) sub_X6_A (t_L_low l D cy hfl c_89) kw_408 kw_24 kw_406 kw_407 hd_L_low ⟨Nat.le_of_ble_eq_true rfl, Nat.le_of_ble_eq_true rfl⟩ ⟨ar_tr (d := 0) hkq52 (Nat.le_of_ble_eq_true rfl) (Nat.le_of_ble_eq_true rfl), ar_tr (d := 0) hnq52 (Nat.le_of_ble_eq_true rfl) (Nat.le_of_ble_eq_true rfl)⟩ rfl (Nat.le_of_ble_eq_true rfl) ?_
            show G l D X 18 (WX6 ad cy 24 40 6 36 6 4 b0 b1 b2 b3 b4 b5) kq52 nq52 (h_12, r0_13, r1_14, r2_15, r3_16, r4_17, r5_18) 108 [(13, .int (r5_18 (1 : Int32).toNatClampNeg)), (12, .int y12_23), (11, .int r_21), (10, .int r_19), (0, .ref b), (1, .ref (ad 0)), (2, .ref b0), (3, .ref b1), (4, .ref b2), (5, .ref b3), (6, .ref b4), (7, .ref b5), (8, .int x8_10), (9, .int x9_11)] [.int r_88, .int (2 : Int32), .int (0 : Int32), .ref b5]
            refine g_iadd (pc' := 109) O ⟨dL_law_108, rfl⟩ ?_
            refine g_iast (pc' := 110) O ⟨dL_law_109, rfl⟩ zX6_5 zsX6_5 E (fun E => ?_)
            refine g_nmr (Go := fun (r5_90 : Row) => G l D X 18 (WX6 ad cy 24 40 6 36 6 4 b0 b1 b2 b3 b4 b5) kq52 nq52 (h_12, r0_13, r1_14, r2_15, r3_16, r4_17, r5_90) 110 [(13, .int (r5_18 (1 : Int32).toNatClampNeg)), (12, .int y12_23), (11, .int r_21), (10, .int r_19), (0, .ref b), (1, .ref (ad 0)), (2, .ref b0), (3, .ref b1), (4, .ref b2), (5, .ref b3), (6, .ref b4), (7, .ref b5), (8, .int x8_10), (9, .int x9_11)] []) E (fun r5_90 E => ?_)
            show G l D X 18 (WX6 ad cy 24 40 6 36 6 4 b0 b1 b2 b3 b4 b5) kq52 nq52 (h_12, r0_13, r1_14, r2_15, r3_16, r4_17, r5_90) 110 [(13, .int (r5_18 (1 : Int32).toNatClampNeg)), (12, .int y12_23), (11, .int r_21), (10, .int r_19), (0, .ref b), (1, .ref (ad 0)), (2, .ref b0), (3, .ref b1), (4, .ref b2), (5, .ref b3), (6, .ref b4), (7, .ref b5), (8, .int x8_10), (9, .int x9_11)] []
            refine g_aload (pc' := 112) O ⟨dL_law_110, rfl⟩ (q := 11) rfl ?_
            refine g_iconst (pc' := 113) O ⟨dL_law_112, rfl⟩ (v := (1 : Int32)) rfl ?_
            refine g_iconst (pc' := 114) O ⟨dL_law_113, rfl⟩ (v := (0 : Int32)) rfl ?_
            refine g_iast (pc' := 115) O ⟨dL_law_114, rfl⟩ zX6_5 zsX6_5 E (fun E => ?_)
            refine g_nmr (Go := fun (r5_91 : Row) => G l D X 18 (WX6 ad cy 24 40 6 36 6 4 b0 b1 b2 b3 b4 b5) kq52 nq52 (h_12, r0_13, r1_14, r2_15, r3_16, r4_17, r5_91) 115 [(13, .int (r5_18 (1 : Int32).toNatClampNeg)), (12, .int y12_23), (11, .int r_21), (10, .int r_19), (0, .ref b), (1, .ref (ad 0)), (2, .ref b0), (3, .ref b1), (4, .ref b2), (5, .ref b3), (6, .ref b4), (7, .ref b5), (8, .int x8_10), (9, .int x9_11)] []) E (fun r5_91 E => ?_)
            show G l D X 18 (WX6 ad cy 24 40 6 36 6 4 b0 b1 b2 b3 b4 b5) kq52 nq52 (h_12, r0_13, r1_14, r2_15, r3_16, r4_17, r5_91) 115 [(13, .int (r5_18 (1 : Int32).toNatClampNeg)), (12, .int y12_23), (11, .int r_21), (10, .int r_19), (0, .ref b), (1, .ref (ad 0)), (2, .ref b0), (3, .ref b1), (4, .ref b2), (5, .ref b3), (6, .ref b4), (7, .ref b5), (8, .int x8_10), (9, .int x9_11)] []
            refine g_aload (pc' := 117) O ⟨dL_law_115, rfl⟩ (q := 8) rfl ?_
            obtain ⟨r_92, c_93, E⟩ := bd_of E
            refine g_MSv (pc' := 120) O hN ⟨dL_law_117, rfl⟩ (y := yL_forgets) (As := [.ref b2]) (st := []) (put := (fun g => (h_12, r0_13, r1_14, g, r3_16, r4_17, r5_91))) sub_X6_A2 (t_L_forgets l D cy hfl b2 c_93) kw_1031 kw_24 kw_1029 kw_1030 hd_L_forgets ⟨Nat.le_of_ble_eq_true rfl, Nat.le_of_ble_eq_true rfl⟩ ⟨ar_tr (d := 0) hkq52 (Nat.le_of_ble_eq_true rfl) (Nat.le_of_ble_eq_true rfl), ar_tr (d := 0) hnq52 (Nat.le_of_ble_eq_true rfl) (Nat.le_of_ble_eq_true rfl)⟩ rfl (Nat.le_of_ble_eq_true rfl) ?_
            show G l D X 18 (WX6 ad cy 24 40 6 36 6 4 b0 b1 b2 b3 b4 b5) kq52 nq52 (h_12, r0_13, r1_14, r_92, r3_16, r4_17, r5_91) 120 [(13, .int (r5_18 (1 : Int32).toNatClampNeg)), (12, .int y12_23), (11, .int r_21), (10, .int r_19), (0, .ref b), (1, .ref (ad 0)), (2, .ref b0), (3, .ref b1), (4, .ref b2), (5, .ref b3), (6, .ref b4), (7, .ref b5), (8, .int x8_10), (9, .int x9_11)] []
            refine g_iconst (pc' := 121) O ⟨dL_law_120, rfl⟩ (v := (0 : Int32)) rfl ?_
            refine g_istore (pc' := 123) O ⟨dL_law_121, rfl⟩ (lv' := [(14, .int (0 : Int32)), (13, .int (r5_18 (1 : Int32).toNatClampNeg)), (12, .int y12_23), (11, .int r_21), (10, .int r_19), (0, .ref b), (1, .ref (ad 0)), (2, .ref b0), (3, .ref b1), (4, .ref b2), (5, .ref b3), (6, .ref b4), (7, .ref b5), (8, .int x8_10), (9, .int x9_11)]) (by decide) rfl ?_
            refine jn1_of (P := fun (r3_94 : Row) => G l D X 18 (WX6 ad cy 24 40 6 36 6 4 b0 b1 b2 b3 b4 b5) kq52 nq52 (h_12, r0_13, r1_14, r_92, r3_94, r4_17, r5_91) 142 [(0, .ref b), (1, .ref (ad 0)), (2, .ref b0), (3, .ref b1), (4, .ref b2), (5, .ref b3), (6, .ref b4), (7, .ref b5), (9, .int x9_11), (12, .int y12_23), (13, .int (r5_18 (1 : Int32).toNatClampNeg))] []) E ?_ ?_
            · intro r3_94 E
              show G l D X 18 (WX6 ad cy 24 40 6 36 6 4 b0 b1 b2 b3 b4 b5) kq52 nq52 (h_12, r0_13, r1_14, r_92, r3_94, r4_17, r5_91) 142 [(0, .ref b), (1, .ref (ad 0)), (2, .ref b0), (3, .ref b1), (4, .ref b2), (5, .ref b3), (6, .ref b4), (7, .ref b5), (9, .int x9_11), (12, .int y12_23), (13, .int (r5_18 (1 : Int32).toNatClampNeg))] []
              refine g_aload_n (pc' := 143) O ⟨dL_law_142, rfl⟩ (q := 1) rfl rfl ?_
              refine g_aload (pc' := 145) O ⟨dL_law_143, rfl⟩ (q := 7) rfl ?_
              refine g_iconst (pc' := 146) O ⟨dL_law_145, rfl⟩ (v := (0 : Int32)) rfl ?_
              refine g_iald (pc' := 147) O ⟨dL_law_146, rfl⟩ zX6_5 E (fun E => ?_)
              obtain ⟨z_98, c_96, e_97, E⟩ := hcatch_of E
              refine g_UXi (pc' := 150) O ⟨dL_law_147, rfl⟩ (y := yX10_network) (As := [.int (r5_91 (0 : Int32).toNatClampNeg)]) (st := []) (put := (fun g => (g, r0_13, r1_14, r_92, r3_94, r4_17, r5_91))) sub_X6_X (t_X10_network l D ad cy hfl (h := h_12) c_96) kw_257 kw_25 kw_254 kw_255 kw_256 rfl zX6_x hd_X10_network ⟨Nat.le_of_ble_eq_true rfl, Nat.le_of_ble_eq_true rfl⟩ ⟨ar_tr (d := 1) hkq52 (Nat.le_of_ble_eq_true rfl) (Nat.le_of_ble_eq_true rfl), ar_tr (d := 6) hnq52 (Nat.le_of_ble_eq_true rfl) (Nat.le_of_ble_eq_true rfl)⟩ rfl (Nat.le_of_ble_eq_true rfl) (fun E1 c q => (by cases e_97 E1 c q)) (fun r_95 q => ?_)
              replace E := E r_95 q
              show G l D X 18 (WX6 ad cy 24 40 6 36 6 4 b0 b1 b2 b3 b4 b5) (kq52 + 1) (nq52 + 6) (r_95.2, r0_13, r1_14, r_92, r3_94, r4_17, r5_91) 150 [(0, .ref b), (1, .ref (ad 0)), (2, .ref b0), (3, .ref b1), (4, .ref b2), (5, .ref b3), (6, .ref b4), (7, .ref b5), (9, .int x9_11), (12, .int y12_23), (13, .int (r5_18 (1 : Int32).toNatClampNeg))] [.int r_95.1]
              refine g_iload (pc' := 152) O ⟨dL_law_150, rfl⟩ (q := 10) rfl ?_
              refine jn1_of (P := fun (z_99 : Int32) => G l D X 18 (WX6 ad cy 24 40 6 36 6 4 b0 b1 b2 b3 b4 b5) (kq52 + 1) (nq52 + 6) (r_95.2, r0_13, r1_14, r_92, r3_94, r4_17, r5_91) 160 [(0, .ref b), (1, .ref (ad 0)), (2, .ref b0), (3, .ref b1), (4, .ref b2), (5, .ref b3), (6, .ref b4), (7, .ref b5), (9, .int x9_11), (12, .int y12_23)] [.int z_99]) E ?_ ?_
              · intro z_99 E
                show G l D X 18 (WX6 ad cy 24 40 6 36 6 4 b0 b1 b2 b3 b4 b5) (kq52 + 1) (nq52 + 6) (r_95.2, r0_13, r1_14, r_92, r3_94, r4_17, r5_91) 160 [(0, .ref b), (1, .ref (ad 0)), (2, .ref b0), (3, .ref b1), (4, .ref b2), (5, .ref b3), (6, .ref b4), (7, .ref b5), (9, .int x9_11), (12, .int y12_23)] [.int z_99]
                refine g_istore (pc' := 162) O ⟨dL_law_160, rfl⟩ (lv' := [(8, .int z_99), (0, .ref b), (1, .ref (ad 0)), (2, .ref b0), (3, .ref b1), (4, .ref b2), (5, .ref b3), (6, .ref b4), (7, .ref b5), (9, .int x9_11), (12, .int y12_23)]) (by decide) rfl ?_
                refine g_goto (pc' := 165) O ⟨dL_law_162, rfl⟩ (tgt := 602) (by decide) ?_
                refine g_sub (lv' := [(0, .ref b), (1, .ref (ad 0)), (2, .ref b0), (3, .ref b1), (4, .ref b2), (5, .ref b3), (6, .ref b4), (7, .ref b5), (8, .int z_99), (9, .int x9_11), (12, .int y12_23)]) [1, 2, 3, 4, 5, 6, 7, 8, 0, 9, 10] rfl ?_
                refine g_widen (k1 := (kq52 + 152)) (n1 := (nq52 + 930)) (Nat.add_le_add_left (Nat.le_of_ble_eq_true rfl) _) (Nat.add_le_add_left (Nat.le_of_ble_eq_true rfl) _) ?_
                exact hk602 _ _ _ _ _ _ _ _ E
              · intro k160 hk160 E
                refine g_icmp_ne (pc' := 155) O ⟨dL_law_152, rfl⟩ E (tgt := 159) (by decide) (fun E => ?_) (fun E => ?_)
                · refine g_iconst (pc' := 160) O ⟨dL_law_159, rfl⟩ (v := (0 : Int32)) rfl ?_
                  refine g_sub (lv' := [(0, .ref b), (1, .ref (ad 0)), (2, .ref b0), (3, .ref b1), (4, .ref b2), (5, .ref b3), (6, .ref b4), (7, .ref b5), (9, .int x9_11), (12, .int y12_23)]) [0, 1, 2, 3, 4, 5, 6, 7, 8, 9] rfl ?_
                  exact hk160 _ E
                · refine g_iconst (pc' := 156) O ⟨dL_law_155, rfl⟩ (v := (1 : Int32)) rfl ?_
                  refine g_goto (pc' := 159) O ⟨dL_law_156, rfl⟩ (tgt := 160) (by decide) ?_
                  refine g_sub (lv' := [(0, .ref b), (1, .ref (ad 0)), (2, .ref b0), (3, .ref b1), (4, .ref b2), (5, .ref b3), (6, .ref b4), (7, .ref b5), (9, .int x9_11), (12, .int y12_23)]) [0, 1, 2, 3, 4, 5, 6, 7, 8, 9] rfl ?_
                  exact hk160 _ E
            · intro k142 hk142 E
              refine g_sub (lv' := [(0, .ref b), (1, .ref (ad 0)), (2, .ref b0), (3, .ref b1), (4, .ref b2), (5, .ref b3), (6, .ref b4), (7, .ref b5), (9, .int x9_11), (12, .int y12_23), (13, .int (r5_18 (1 : Int32).toNatClampNeg)), (14, .int (0 : Int32))]) [5, 6, 7, 8, 9, 10, 11, 12, 14, 2, 1, 0] rfl ?_
              refine fx2_of (P := fun (x14_100 : Int32) (r3_101 : Row) => G l D X 18 (WX6 ad cy 24 40 6 36 6 4 b0 b1 b2 b3 b4 b5) kq52 nq52 (h_12, r0_13, r1_14, r_92, r3_101, r4_17, r5_91) 123 [(0, .ref b), (1, .ref (ad 0)), (2, .ref b0), (3, .ref b1), (4, .ref b2), (5, .ref b3), (6, .ref b4), (7, .ref b5), (9, .int x9_11), (12, .int y12_23), (13, .int (r5_18 (1 : Int32).toNatClampNeg)), (14, .int x14_100)] []) ?_ _ _ _ E
              intro self ih123 x14_100 r3_101 E
              show G l D X 18 (WX6 ad cy 24 40 6 36 6 4 b0 b1 b2 b3 b4 b5) kq52 nq52 (h_12, r0_13, r1_14, r_92, r3_101, r4_17, r5_91) 123 [(0, .ref b), (1, .ref (ad 0)), (2, .ref b0), (3, .ref b1), (4, .ref b2), (5, .ref b3), (6, .ref b4), (7, .ref b5), (9, .int x9_11), (12, .int y12_23), (13, .int (r5_18 (1 : Int32).toNatClampNeg)), (14, .int x14_100)] []
              unfold L_L_law_123 at E
              refine g_iload (pc' := 125) O ⟨dL_law_123, rfl⟩ (q := 11) rfl ?_
              refine g_bipush (pc' := 127) O ⟨dL_law_125, rfl⟩ (v := (36 : Int32)) rfl ?_
              refine g_icmp_ge (pc' := 130) O ⟨dL_law_127, rfl⟩ E (tgt := 142) (by decide) (fun E => ?_) (fun E => ?_)
              · refine g_sub (lv' := [(0, .ref b), (1, .ref (ad 0)), (2, .ref b0), (3, .ref b1), (4, .ref b2), (5, .ref b3), (6, .ref b4), (7, .ref b5), (9, .int x9_11), (12, .int y12_23), (13, .int (r5_18 (1 : Int32).toNatClampNeg))]) [0, 1, 2, 3, 4, 5, 6, 7, 8, 9, 10] rfl ?_
                exact hk142 _ E
              · refine g_aload (pc' := 132) O ⟨dL_law_130, rfl⟩ (q := 5) rfl ?_
                refine g_iload (pc' := 134) O ⟨dL_law_132, rfl⟩ (q := 11) rfl ?_
                refine g_iconst (pc' := 135) O ⟨dL_law_134, rfl⟩ (v := (0 : Int32)) rfl ?_
                refine g_iast (pc' := 136) O ⟨dL_law_135, rfl⟩ zX6_3 zsX6_3 E (fun E => ?_)
                refine g_nmr (Go := fun (r3_102 : Row) => G l D X 18 (WX6 ad cy 24 40 6 36 6 4 b0 b1 b2 b3 b4 b5) kq52 nq52 (h_12, r0_13, r1_14, r_92, r3_102, r4_17, r5_91) 136 [(0, .ref b), (1, .ref (ad 0)), (2, .ref b0), (3, .ref b1), (4, .ref b2), (5, .ref b3), (6, .ref b4), (7, .ref b5), (9, .int x9_11), (12, .int y12_23), (13, .int (r5_18 (1 : Int32).toNatClampNeg)), (14, .int x14_100)] []) E (fun r3_102 E => ?_)
                show G l D X 18 (WX6 ad cy 24 40 6 36 6 4 b0 b1 b2 b3 b4 b5) kq52 nq52 (h_12, r0_13, r1_14, r_92, r3_102, r4_17, r5_91) 136 [(0, .ref b), (1, .ref (ad 0)), (2, .ref b0), (3, .ref b1), (4, .ref b2), (5, .ref b3), (6, .ref b4), (7, .ref b5), (9, .int x9_11), (12, .int y12_23), (13, .int (r5_18 (1 : Int32).toNatClampNeg)), (14, .int x14_100)] []
                refine g_iinc (pc' := 139) O ⟨dL_law_136, rfl⟩ (q := 11) (v := x14_100 + (1 : Int32)) (lv' := [(14, .int (x14_100 + (1 : Int32))), (0, .ref b), (1, .ref (ad 0)), (2, .ref b0), (3, .ref b1), (4, .ref b2), (5, .ref b3), (6, .ref b4), (7, .ref b5), (9, .int x9_11), (12, .int y12_23), (13, .int (r5_18 (1 : Int32).toNatClampNeg))]) rfl rfl (by decide) rfl ?_
                refine g_goto (pc' := 142) O ⟨dL_law_139, rfl⟩ (tgt := 123) (by decide) ?_
                refine g_sub (lv' := [(0, .ref b), (1, .ref (ad 0)), (2, .ref b0), (3, .ref b1), (4, .ref b2), (5, .ref b3), (6, .ref b4), (7, .ref b5), (9, .int x9_11), (12, .int y12_23), (13, .int (r5_18 (1 : Int32).toNatClampNeg)), (14, .int (x14_100 + (1 : Int32)))]) [1, 2, 3, 4, 5, 6, 7, 8, 9, 10, 11, 0] rfl ?_
                exact ih123 _ _ E
def lawP (L : Nat) (xs : Nat → Int32) : Option Int32 := f_L_law L xs hC0 (fun _ => 0) (fun _ => 0) (fun _ => 0) (fun _ => 0) (fun _ => 0) (fun _ => 0)
set_option maxRecDepth 100000 in
set_option maxHeartbeats 4000000 in
theorem law_head (l : Launch) (D : va_G) (cy : Nat → ClassId) (hfl : l.stackTraces = false) {X : Cx} {b L : Nat} {xs : Nat → Int32} (O : Ok l D cy X cL_law RL 18 room_1) (hN : NCX X) (hX : SX X b L xs) (E : lawP L xs = some 1) (hend : ∀ (ad : Nat → Nat) (b0 b1 b2 b3 b4 b5 : Nat) (k n : Nat) (st : Hp × Row × Row × Row × Row × Row × Row) (lv : List (Nat × Value)), k ≤ room_1.cells → n ≤ room_1.slots → G l D X 18 (WX6 ad cy 24 40 6 36 6 4 b0 b1 b2 b3 b4 b5) k n st 645 lv [.int 1]) : G l D X 18 WI 0 0 [] 0 [(0, .ref b)] [] := by
  unfold lawP at E
  refine g_new (ci := 9) (pc' := 3) O ⟨dL_law_0, rfl⟩ inU_RX10 tyX10_ok rfl kw_45 kw_46 kw_25 (fs := [.null, .null, .null, .null, .null, .null, .null, .null, .null]) (fun j hj => by rcases (show j = 0 ∨ j = 1 ∨ j = 2 ∨ j = 3 ∨ j = 4 ∨ j = 5 ∨ j = 6 ∨ j = 7 ∨ j = 8 by omega) with rfl | rfl | rfl | rfl | rfl | rfl | rfl | rfl | rfl <;> rfl) ⟨Nat.le_of_ble_eq_true rfl, Nat.le_of_ble_eq_true rfl⟩ (fun q1 => ?_)
  show G l D X 18 WI 1 9 [(q1, .inr (9, [.null, .null, .null, .null, .null, .null, .null, .null, .null]))] 3 [(0, .ref b)] [.ref q1]
  refine g_dup (pc' := 4) O ⟨dL_law_3, rfl⟩ rfl ?_
  refine g_C (pc' := 7) O ⟨dL_law_4, rfl⟩ (c_X10_init l D cy q1) (wc := [(q1, .inr (9, [.null, .null, .null, .null, .null, .null, .null, .null, .null]))]) (wr := []) [0] [] rfl rfl rfl (by decide) (by decide) (by decide) rfl kw_49 kw_25 kw_47 kw_48 hd_X10_init ⟨Nat.le_of_ble_eq_true rfl, Nat.le_of_ble_eq_true rfl⟩ ⟨Nat.le_of_ble_eq_true rfl, Nat.le_of_ble_eq_true rfl⟩ (Nat.le_of_ble_eq_true rfl) (fun u hu => ?_)
  obtain ⟨ad, rfl, rfl⟩ := sh_class hu
  refine g_conv (wf := WX0 ad cy) (h := hC0) rfl ?_
  show G l D X 18 (WX0 ad cy) 35 6177 hC0 7 [(0, .ref b)] [.ref (ad 0)]
  refine g_astore_n (pc' := 8) O ⟨dL_law_7, rfl⟩ (lv' := [(1, .ref (ad 0)), (0, .ref b)]) rfl (by decide) rfl ?_
  refine g_bipush (pc' := 10) O ⟨dL_law_8, rfl⟩ (v := (24 : Int32)) rfl ?_
  refine g_newr (pc' := 12) O ⟨dL_law_10, rfl⟩ (N' := 24) (wf2 := fun b0 => (WX1 ad cy 24 b0)) (h2 := (hC0, fun _ => 0)) kw_94 rfl (by decide) (by decide) ⟨Nat.le_of_ble_eq_true rfl, Nat.le_of_ble_eq_true rfl⟩ (fun _ => rfl) (fun b0 => ?_)
  show G l D X 18 (WX1 ad cy 24 b0) 36 6201 (hC0, fun _ => 0) 12 [(1, .ref (ad 0)), (0, .ref b)] [.ref b0]
  refine g_astore_n (pc' := 13) O ⟨dL_law_12, rfl⟩ (lv' := [(2, .ref b0), (1, .ref (ad 0)), (0, .ref b)]) rfl (by decide) rfl ?_
  refine g_bipush (pc' := 15) O ⟨dL_law_13, rfl⟩ (v := (40 : Int32)) rfl ?_
  refine g_newr (pc' := 17) O ⟨dL_law_15, rfl⟩ (N' := 40) (wf2 := fun b1 => (WX2 ad cy 24 40 b0 b1)) (h2 := (hC0, fun _ => 0, fun _ => 0)) kw_94 rfl (by decide) (by decide) ⟨Nat.le_of_ble_eq_true rfl, Nat.le_of_ble_eq_true rfl⟩ (fun _ => rfl) (fun b1 => ?_)
  show G l D X 18 (WX2 ad cy 24 40 b0 b1) 37 6241 (hC0, fun _ => 0, fun _ => 0) 17 [(2, .ref b0), (1, .ref (ad 0)), (0, .ref b)] [.ref b1]
  refine g_astore_n (pc' := 18) O ⟨dL_law_17, rfl⟩ (lv' := [(3, .ref b1), (2, .ref b0), (1, .ref (ad 0)), (0, .ref b)]) rfl (by decide) rfl ?_
  refine g_bipush (pc' := 20) O ⟨dL_law_18, rfl⟩ (v := (6 : Int32)) rfl ?_
  refine g_newr (pc' := 22) O ⟨dL_law_20, rfl⟩ (N' := 6) (wf2 := fun b2 => (WX3 ad cy 24 40 6 b0 b1 b2)) (h2 := (hC0, fun _ => 0, fun _ => 0, fun _ => 0)) kw_94 rfl (by decide) (by decide) ⟨Nat.le_of_ble_eq_true rfl, Nat.le_of_ble_eq_true rfl⟩ (fun _ => rfl) (fun b2 => ?_)
  show G l D X 18 (WX3 ad cy 24 40 6 b0 b1 b2) 38 6247 (hC0, fun _ => 0, fun _ => 0, fun _ => 0) 22 [(3, .ref b1), (2, .ref b0), (1, .ref (ad 0)), (0, .ref b)] [.ref b2]
  refine g_astore (pc' := 24) O ⟨dL_law_22, rfl⟩ (lv' := [(4, .ref b2), (3, .ref b1), (2, .ref b0), (1, .ref (ad 0)), (0, .ref b)]) (by decide) rfl ?_
  refine g_bipush (pc' := 26) O ⟨dL_law_24, rfl⟩ (v := (36 : Int32)) rfl ?_
  refine g_newr (pc' := 28) O ⟨dL_law_26, rfl⟩ (N' := 36) (wf2 := fun b3 => (WX4 ad cy 24 40 6 36 b0 b1 b2 b3)) (h2 := (hC0, fun _ => 0, fun _ => 0, fun _ => 0, fun _ => 0)) kw_94 rfl (by decide) (by decide) ⟨Nat.le_of_ble_eq_true rfl, Nat.le_of_ble_eq_true rfl⟩ (fun _ => rfl) (fun b3 => ?_)
  show G l D X 18 (WX4 ad cy 24 40 6 36 b0 b1 b2 b3) 39 6283 (hC0, fun _ => 0, fun _ => 0, fun _ => 0, fun _ => 0) 28 [(4, .ref b2), (3, .ref b1), (2, .ref b0), (1, .ref (ad 0)), (0, .ref b)] [.ref b3]
  refine g_astore (pc' := 30) O ⟨dL_law_28, rfl⟩ (lv' := [(5, .ref b3), (4, .ref b2), (3, .ref b1), (2, .ref b0), (1, .ref (ad 0)), (0, .ref b)]) (by decide) rfl ?_
  refine g_bipush (pc' := 32) O ⟨dL_law_30, rfl⟩ (v := (6 : Int32)) rfl ?_
  refine g_newr (pc' := 34) O ⟨dL_law_32, rfl⟩ (N' := 6) (wf2 := fun b4 => (WX5 ad cy 24 40 6 36 6 b0 b1 b2 b3 b4)) (h2 := (hC0, fun _ => 0, fun _ => 0, fun _ => 0, fun _ => 0, fun _ => 0)) kw_94 rfl (by decide) (by decide) ⟨Nat.le_of_ble_eq_true rfl, Nat.le_of_ble_eq_true rfl⟩ (fun _ => rfl) (fun b4 => ?_)
  show G l D X 18 (WX5 ad cy 24 40 6 36 6 b0 b1 b2 b3 b4) 40 6289 (hC0, fun _ => 0, fun _ => 0, fun _ => 0, fun _ => 0, fun _ => 0) 34 [(5, .ref b3), (4, .ref b2), (3, .ref b1), (2, .ref b0), (1, .ref (ad 0)), (0, .ref b)] [.ref b4]
  refine g_astore (pc' := 36) O ⟨dL_law_34, rfl⟩ (lv' := [(6, .ref b4), (5, .ref b3), (4, .ref b2), (3, .ref b1), (2, .ref b0), (1, .ref (ad 0)), (0, .ref b)]) (by decide) rfl ?_
  refine g_iconst (pc' := 37) O ⟨dL_law_36, rfl⟩ (v := (4 : Int32)) rfl ?_
  refine g_newr (pc' := 39) O ⟨dL_law_37, rfl⟩ (N' := 4) (wf2 := fun b5 => (WX6 ad cy 24 40 6 36 6 4 b0 b1 b2 b3 b4 b5)) (h2 := (hC0, fun _ => 0, fun _ => 0, fun _ => 0, fun _ => 0, fun _ => 0, fun _ => 0)) kw_94 rfl (by decide) (by decide) ⟨Nat.le_of_ble_eq_true rfl, Nat.le_of_ble_eq_true rfl⟩ (fun _ => rfl) (fun b5 => ?_)
  show G l D X 18 (WX6 ad cy 24 40 6 36 6 4 b0 b1 b2 b3 b4 b5) 41 6293 (hC0, fun _ => 0, fun _ => 0, fun _ => 0, fun _ => 0, fun _ => 0, fun _ => 0) 39 [(6, .ref b4), (5, .ref b3), (4, .ref b2), (3, .ref b1), (2, .ref b0), (1, .ref (ad 0)), (0, .ref b)] [.ref b5]
  refine g_astore (pc' := 41) O ⟨dL_law_39, rfl⟩ (lv' := [(7, .ref b5), (6, .ref b4), (5, .ref b3), (4, .ref b2), (3, .ref b1), (2, .ref b0), (1, .ref (ad 0)), (0, .ref b)]) (by decide) rfl ?_
  refine g_sub (lv' := [(0, .ref b), (1, .ref (ad 0)), (2, .ref b0), (3, .ref b1), (4, .ref b2), (5, .ref b3), (6, .ref b4), (7, .ref b5)]) [7, 6, 5, 4, 3, 2, 1, 0] rfl ?_
  exact t_L_law l D ad cy hfl b0 b1 b2 b3 b4 b5 O hN hX (hend ad b0 b1 b2 b3 b4 b5) E
set_option maxRecDepth 100000 in
set_option maxHeartbeats 4000000 in
theorem whole_from (hpure : ∀ (L : Nat) (xs : Nat → Int32), L ≤ 260 → lawP L xs = some 1) {p : Program} {e : Env} {s : State} {m : MethodId} {below : List Frame} {meth : Method} {c : Code} (l : Launch) (hflags : l.flags = flags0) {b L : Nat} {xs : Nat → Int32} (hL : L ≤ 260) (C0 : lw_At p s m meth c b L xs) : W p l e room_1 s m #[Value.ref b] below meth c s.heap [] 0 0 (lw_Z below #[Value.ref b] s) (entryFrame m ([Value.ref b] : List Value).toArray 18) := by
  obtain ⟨D, cy, hK⟩ := know_start C0
  have hfl : l.stackTraces = false := by
    unfold Launch.stackTraces
    rw [hflags]
    decide +kernel
  have hE := env_start C0
  have hN := ncp_start C0
  obtain ⟨hx, hb, hr, hml, hown, hts, hX, hbl, hlocks, hgv⟩ := id C0
  have hl := lv_entry ([Value.ref b]) (n := 18) (Nat.le_of_ble_eq_true rfl)
  rw [lg_entry_eq]
  refine law_head l D cy hfl (X := (p, e, room_1, s, m, #[Value.ref b], below, meth, c, lw_Z below #[Value.ref b] s, lwA s)) ⟨rfl, hx, hb, hml, hown, fun w hw => hts w (List.mem_filter.mp hw).1, hK, fun q hq => hq, hlocks, hE⟩ hN ⟨hX, hbl, Nat.not_le.mpr hbl⟩ (hpure L xs hL) ?_ s.heap [] _ (fun k q h => by simp at h) ⟨fun i j p q h => by simp at h, fun k q h => by simp at h⟩ va_S.rf hl
  intro ad b0 b1 b2 b3 b4 b5 k n s1 lv hk hn H locs ls hP hD hS hl1
  refine va_forget (fun q hq => hS.2.2 q hq) ?_
  refine W.widen (k := 600130) (n := 7301080) hk hn ?_
  exact lw_ret hx hb hr hlocks dL_law_645
