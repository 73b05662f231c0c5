/-! PURE PROGRAMS of the methods that may throw -/
def f_X10_network (h : Hp) (x1 : Int32) : Option ((String × Hp) ⊕ (Int32 × Hp)) :=
  jn0 (fun k11 => (if x1 < (2 : Int32) then k11 else (if x1 ≤ (6 : Int32) then bd (f_X9_begin_1 h x1) (fun r_1 => bd (f_X0_forget_32 r_1) (fun r_3 => bd (f_X10_forgetWhatDependsOnComparators r_3) (fun r_5 => some (.inr (h.1 1 1, r_5))))) else k11))) (some (.inl ("java/lang/IllegalArgumentException", h)))
def f_X10_checkWire (h : Hp) (x1 : Int32) : Option ((String × Hp) ⊕ Hp) :=
  jn0 (fun k15 => (if x1 < 0 then k15 else (if x1 < (h.1 1 0) then some (.inr h) else k15))) (some (.inl ("java/lang/IndexOutOfBoundsException", h)))
def f_X10_checkTwoWires (h : Hp) (x1 : Int32) (x2 : Int32) : Option ((String × Hp) ⊕ Hp) :=
  bdx (f_X10_checkWire h x1) (fun r_1 => bdx (f_X10_checkWire r_1 x2) (fun r_3 => (if x1 = x2 then some (.inl ("java/lang/IllegalArgumentException", r_3)) else some (.inr r_3))))
def f_X10_checkRoomFor (h : Hp) (x1 : Int32) : Option ((String × Hp) ⊕ Hp) :=
  (if (h.1 1 1) ≤ ((24 : Int32) - x1) then some (.inr h) else some (.inl ("java/lang/IllegalStateException", h)))
def f_X10_add (h : Hp) (x1 : Int32) (x2 : Int32) : Option ((String × Hp) ⊕ (Int32 × Hp)) :=
  bdx (f_X10_checkTwoWires h x1 x2) (fun r_1 => bdx (f_X10_checkRoomFor r_1 (1 : Int32)) (fun r_3 => bd (f_X9_append_1 r_3 x1 x2) (fun r_5 => bd (f_X10_forgetWhatDependsOnComparators r_5) (fun r_7 => some (.inr ((r_7.1 1 1) - (1 : Int32), r_7))))))
def f_X10_take (h : Hp) : Option ((String × Hp) ⊕ (Int32 × Hp)) :=
  (if (h.1 1 1) = 0 then some (.inl ("java/lang/IllegalStateException", h)) else bd (f_X9_dropLast_1 h) (fun r_1 => bd (f_X10_forgetWhatDependsOnComparators r_1) (fun r_3 => some (.inr (r_3.1 1 1, r_3)))))
def L_X10_appendPlan_13 (k55 : Hp → Option ((String × Hp) ⊕ (Int32 × Hp))) (self : Int32 → Hp → Option ((String × Hp) ⊕ (Int32 × Hp))) (a1 : Int32) (h : Hp) : Option ((String × Hp) ⊕ (Int32 × Hp)) :=
  (if (h.1 6 1) ≤ a1 then k55 h else ck a1 24 (ck a1 24 (bd (f_X9_append_1 h (h.1 7 a1.toNatClampNeg) (h.1 8 a1.toNatClampNeg)) (fun r_6 => self (a1 + (1 : Int32)) r_6))))
def f_X10_appendPlan (h : Hp) : Option ((String × Hp) ⊕ (Int32 × Hp)) :=
  bdx (f_X10_checkRoomFor h (h.1 6 1)) (fun r_1 => jn1 (fun k55 => fx2 (L_X10_appendPlan_13 k55) FU (0 : Int32) r_1) (fun (h_3 : Hp) => bd (f_X10_forgetWhatDependsOnComparators h_3) (fun r_4 => some (.inr (r_4.1 6 1, r_4)))))
def f_X10_make (h : Hp) (x1 : Int32) : Option ((String × Hp) ⊕ (Int32 × Hp)) :=
  jn0 (fun k9 => (if x1 < 0 then k9 else (if x1 ≤ (2 : Int32) then bd (f_X9_begin_6 h (h.1 1 0)) (fun r_1 => (if x1 = (0 : Int32) then bd (f_X9_layBubble_6 r_1) (fun r_3 => bdx (f_X10_appendPlan r_3) (fun r_5 => some (.inr (r_5.1, r_5.2)))) else (if x1 = (1 : Int32) then bd (f_X9_layBrick_6 r_1) (fun r_7 => bdx (f_X10_appendPlan r_7) (fun r_9 => some (.inr (r_9.1, r_9.2)))) else bd (f_X9_layMerge_6 r_1) (fun r_11 => bdx (f_X10_appendPlan r_11) (fun r_13 => some (.inr (r_13.1, r_13.2))))))) else k9))) (some (.inl ("java/lang/IllegalArgumentException", h)))
def f_X10_told (h : Hp) (x1 : Int32) : Option ((String × Hp) ⊕ (Int32 × Hp)) :=
  (if x1 = (0 : Int32) then some (.inr (h.1 1 0, h)) else (if x1 = (1 : Int32) then some (.inr (h.1 1 1, h)) else (if x1 = (2 : Int32) then bd (f_X9_layerCount_1 h) (fun r_1 => some (.inr (r_1.1, r_1.2))) else (if x1 = (3 : Int32) then bd (f_X4_deadCount_13_1 h) (fun r_3 => some (.inr (r_3.1, r_3.2))) else (if x1 = (4 : Int32) then bd (f_X9_crookedCount_1 h) (fun r_5 => some (.inr (r_5, h))) else (if x1 = (5 : Int32) then bd (f_X9_textLength_1 h) (fun r_7 => some (.inr (r_7, h))) else some (.inl ("java/lang/IllegalArgumentException", h))))))))
def f_X10_checkComparator (h : Hp) (x1 : Int32) : Option ((String × Hp) ⊕ Hp) :=
  jn0 (fun k15 => (if x1 < 0 then k15 else (if x1 < (h.1 1 1) then some (.inr h) else k15))) (some (.inl ("java/lang/IndexOutOfBoundsException", h)))
def f_X10_comparator (h : Hp) (x1 : Int32) (x2 : Int32) : Option ((String × Hp) ⊕ (Int32 × Hp)) :=
  bdx (f_X10_checkComparator h x1) (fun r_1 => (if x2 = (0 : Int32) then ck x1 24 (some (.inr (r_1.1 2 x1.toNatClampNeg, r_1))) else (if x2 = (1 : Int32) then ck x1 24 (some (.inr (r_1.1 3 x1.toNatClampNeg, r_1))) else (if x2 = (2 : Int32) then bd (f_X9_layerOf_1 r_1 x1) (fun r_3 => some (.inr (r_3.1, r_3.2))) else (if x2 = (3 : Int32) then bd (f_X4_exchanging_13_1 r_1 x1) (fun r_5 => bd (f_J13_bitCount r_5.1) (fun r_7 => some (.inr (r_7, r_5.2)))) else some (.inl ("java/lang/IllegalArgumentException", r_1)))))))
def f_X10_checkPlace (h : Hp) (x0 : Int32) : Option ((String × Hp) ⊕ Hp) :=
  (if 0 ≤ x0 then some (.inr h) else some (.inl ("java/lang/IndexOutOfBoundsException", h)))
def f_X10_textAt (h : Hp) (x1 : Int32) : Option ((String × Hp) ⊕ (Int32 × Hp)) :=
  bdx (f_X10_checkPlace h x1) (fun r_1 => bd (f_X9_signAt_1 r_1 x1) (fun r_3 => ckc r_3.1 (some (.inr (r_3.1, r_3.2)))))
def L_X10_type_85 (a1 : Int64) (a3 : Int32) (k110 : Hp → Option ((String × Hp) ⊕ (Int32 × Hp))) (self : Int32 → Hp → Option ((String × Hp) ⊕ (Int32 × Hp))) (a4 : Int32) (h : Hp) : Option ((String × Hp) ⊕ (Int32 × Hp)) :=
  (if a3 ≤ a4 then k110 h else bd (f_X8_signIn a1 a4) (fun r_2 => bd (f_X8_put_11 h r_2) (fun r_4 => self (a4 + (1 : Int32)) r_4)))
def L_X10_type_24 (h : Hp) (a1 : Int64) (a3 : Int32) (k42 : Option ((String × Hp) ⊕ (Int32 × Hp))) (k58 : Option ((String × Hp) ⊕ (Int32 × Hp))) (self : Int32 → Option ((String × Hp) ⊕ (Int32 × Hp))) (a4 : Int32) : Option ((String × Hp) ⊕ (Int32 × Hp)) :=
  (if a3 ≤ a4 then k58 else bd (f_X8_signIn a1 a4) (fun r_6 => bd (f_X8_takes r_6) (fun r_8 => (if r_8 = 0 then k42 else self (a4 + (1 : Int32))))))
def f_X10_type (h : Hp) (x1 : Int64) (x3 : Int32) : Option ((String × Hp) ⊕ (Int32 × Hp)) :=
  jn0 (fun k11 => (if x3 < (1 : Int32) then k11 else (if x3 ≤ (8 : Int32) then jn0 (fun k58 => jn0 (fun k42 => fx1 (L_X10_type_24 h x1 x3 k42 k58) FU (0 : Int32)) (some (.inl ("java/lang/IllegalArgumentException", h)))) ((if (h.1 11 1) ≤ ((40 : Int32) - x3) then jn1 (fun k110 => fx2 (L_X10_type_85 x1 x3 k110) FU (0 : Int32) h) (fun (h_1 : Hp) => some (.inr (h_1.1 11 1, h_1))) else some (.inl ("java/lang/IllegalStateException", h)))) else k11))) (some (.inl ("java/lang/IllegalArgumentException", h)))
def f_X10_build (h : Hp) : Option ((String × Hp) ⊕ (Int32 × Hp)) :=
  bd (f_X8_faultFor_11 h (h.1 1 0)) (fun r_1 => (if r_1 = (-1 : Int32) then bd (f_X9_begin_6 h (h.1 1 0)) (fun r_3 => bd (f_X8_layOn_11_6 r_3) (fun r_5 => bdx (f_X10_appendPlan r_5) (fun r_7 => bd (f_X8_empty_11 r_7.2) (fun r_9 => some (.inr (r_7.1, r_9)))))) else some (.inl ("java/lang/IllegalArgumentException", h))))
def f_X10_rowOf (h : Hp) (x1 : Int32) : Option ((String × Hp) ⊕ (Int32 × Hp)) :=
  bd (f_X5_ofCode x1 (h.1 1 0)) (fun r_1 => (if r_1 = (-1 : Int32) then some (.inl ("java/lang/IllegalArgumentException", h)) else some (.inr (r_1, h))))
def f_X10_run (h : Hp) (x1 : Int32) : Option ((String × Hp) ⊕ (Int32 × Hp)) :=
  bdx (f_X10_rowOf h x1) (fun r_1 => bd (f_X9_sent_1 r_1.2 r_1.1) (fun r_3 => bd (f_X5_toCode r_3 (r_1.2.1 1 0)) (fun r_5 => some (.inr (r_5, r_1.2)))))
def f_X10_wrong (h : Hp) (x1 : Int32) : Option ((String × Hp) ⊕ (Int32 × Hp)) :=
  bdx (f_X10_checkPlace h x1) (fun r_1 => bd (f_X4_unsortedFrom_13_1 r_1) (fun r_3 => bd (f_X4_rowIn r_3.1 x1) (fun r_5 => some (.inr (r_5, r_3.2)))))
def f_X10_finishes (h : Hp) (x1 : Int32) : Option ((String × Hp) ⊕ (Int32 × Hp)) :=
  jn0 (fun k9 => (if x1 < 0 then k9 else (if x1 ≤ (3 : Int32) then bd (f_X4_missing_13_1 h x1) (fun r_1 => some (.inr (r_1.1, r_1.2))) else k9))) (some (.inl ("java/lang/IllegalArgumentException", h)))
def f_X10_merges (h : Hp) (x1 : Int32) : Option ((String × Hp) ⊕ (Int32 × Hp)) :=
  jn0 (fun k16 => (if x1 < (1 : Int32) then k16 else (if x1 < (h.1 1 0) then bd (f_X4_mergesAt_13_1 h x1) (fun r_1 => ckz r_1.1 (some (.inr (r_1.1, r_1.2)))) else k16))) (some (.inl ("java/lang/IndexOutOfBoundsException", h)))
def f_X10_chooses (h : Hp) (x1 : Int32) : Option ((String × Hp) ⊕ (Int32 × Hp)) :=
  jn0 (fun k16 => (if x1 < (1 : Int32) then k16 else (if x1 < (h.1 1 0) then bd (f_X4_choosesLowest_13_1 h x1) (fun r_1 => ckz r_1.1 (some (.inr (r_1.1, r_1.2)))) else k16))) (some (.inl ("java/lang/IllegalArgumentException", h)))
def f_X10_setting (h : Hp) (x1 : Int32) : Option ((String × Hp) ⊕ (Int32 × Hp)) :=
  bdx (f_X10_rowOf h x1) (fun r_1 => bd (f_X7_lowestFor_20_1 r_1.2 r_1.1) (fun r_3 => some (.inr (r_3.1, r_3.2))))
def f_X10_token (h : Hp) (x1 : Int32) : Option ((String × Hp) ⊕ (Int32 × Hp)) :=
  bdx (f_X10_checkWire h x1) (fun r_1 => (if (r_1.1 23 4) < (1000 : Int32) then bd (f_X1_letIn_23_1 r_1 x1) (fun r_3 => some (.inr (r_3.1, r_3.2))) else some (.inl ("java/lang/IllegalStateException", r_1))))
def f_X10_came (h : Hp) (x1 : Int32) : Option ((String × Hp) ⊕ (Int32 × Hp)) :=
  bdx (f_X10_checkWire h x1) (fun r_1 => ck x1 6 (some (.inr (r_1.1 25 x1.toNatClampNeg, r_1))))
def f_X10_cameAnew (h : Hp) (x1 : Int32) : Option ((String × Hp) ⊕ (Int32 × Hp)) :=
  bdx (f_X10_checkWire h x1) (fun r_1 => bd (f_X1_reckoned_23_1 r_1 x1) (fun r_3 => some (.inr (r_3.1, r_3.2))))
def f_X10_checkFault (h : Hp) (x0 : Int32) : Option ((String × Hp) ⊕ Hp) :=
  jn0 (fun k9 => (if x0 < 0 then k9 else (if x0 ≤ (2 : Int32) then some (.inr h) else k9))) (some (.inl ("java/lang/IllegalArgumentException", h)))
def f_X10_bad (h : Hp) (x1 : Int32) (x2 : Int32) : Option ((String × Hp) ⊕ (Int32 × Hp)) :=
  bdx (f_X10_checkComparator h x1) (fun r_1 => bdx (f_X10_checkFault r_1 x2) (fun r_3 => bd (f_X4_unsortedWith_13_1 r_3 x1 x2) (fun r_5 => bd (f_J13_bitCount r_5.1) (fun r_7 => some (.inr (r_7, r_5.2))))))
def f_X10_tells (h : Hp) (x1 : Int32) (x2 : Int32) : Option ((String × Hp) ⊕ (Int64 × Hp)) :=
  bdx (f_X10_checkComparator h x1) (fun r_1 => bdx (f_X10_checkFault r_1 x2) (fun r_3 => bd (f_X4_telling_13_1 r_3 x1 x2) (fun r_5 => some (.inr (r_5.1, r_5.2)))))
def f_X10_checkSteps (h : Hp) (x0 : Int32) : Option ((String × Hp) ⊕ Hp) :=
  jn0 (fun k9 => (if x0 < 0 then k9 else (if x0 ≤ (3 : Int32) then some (.inr h) else k9))) (some (.inl ("java/lang/IllegalArgumentException", h)))
def f_X10_far (h : Hp) (x1 : Int32) (x2 : Int32) : Option ((String × Hp) ⊕ (Int32 × Hp)) :=
  bdx (f_X10_checkSteps h x1) (fun r_1 => bdx (f_X10_rowOf r_1 x2) (fun r_3 => bd (f_X6_farOf_28 r_3.2 x1 r_3.1 (r_3.2.1 1 0)) (fun r_5 => some (.inr (r_5.1, r_5.2)))))
def f_X10_step (h : Hp) (x1 : Int32) (x2 : Int32) : Option ((String × Hp) ⊕ (Int32 × Hp)) :=
  bdx (f_X10_checkSteps h x1) (fun r_1 => bdx (f_X10_rowOf r_1 x2) (fun r_3 => bd (f_X6_codeNearer_28 r_3.2 x1 r_3.1 (r_3.2.1 1 0)) (fun r_5 => some (.inr (r_5.1, r_5.2)))))
def f_X10_manyFar (h : Hp) (x1 : Int32) (x2 : Int32) : Option ((String × Hp) ⊕ (Int32 × Hp)) :=
  bdx (f_X10_checkSteps h x1) (fun r_1 => (if 0 ≤ x2 then bd (f_X6_countFar_28 r_1 x1 x2 (r_1.1 1 0)) (fun r_3 => some (.inr (r_3.1, r_3.2))) else some (.inl ("java/lang/IllegalArgumentException", r_1))))
def f_X10_ask (h : Hp) (x1 : Int32) (x2 : Int32) : Option ((String × Hp) ⊕ (Int32 × Hp)) :=
  bdx (f_X10_checkTwoWires h x1 x2) (fun r_1 => bd (f_X0_answer_32 r_1 x1 x2 (r_1.1 1 0)) (fun r_3 => ckz r_3.1 (some (.inr (r_3.1, r_3.2)))))
