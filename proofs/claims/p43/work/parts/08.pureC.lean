/-! PURE PROGRAMS, laid by program from the bytecode -/
def f_X9_begin_1 (h : Hp) (x1 : Int32) : Option (Hp) :=
  nm (wF h 1 0 x1) (fun h_1 => nm (wF h_1 1 1 (0 : Int32)) (fun h_2 => some h_2))
def f_X0_forget_32 (h : Hp) : Option (Hp) :=
  nm (wFL h 32 0 (0 : Int64)) (fun h_1 => some h_1)
def L_X1_forget_23_30 (k49 : Hp → Option (Hp)) (self : Int32 → Hp → Option (Hp)) (a1 : Int32) (h : Hp) : Option (Hp) :=
  (if (24 : Int32) ≤ a1 then k49 h else ck a1 24 (nm (wZ h 27 a1 (0 : Int32)) (fun h_4 => self (a1 + (1 : Int32)) h_4)))
def L_X1_forget_23_2 (k28 : Hp → Option (Hp)) (self : Int32 → Hp → Option (Hp)) (a1 : Int32) (h : Hp) : Option (Hp) :=
  (if (6 : Int32) ≤ a1 then k28 h else ck a1 6 (nm (wI h 24 a1 (0 : Int32)) (fun h_5 => ck a1 6 (nm (wI h_5 25 a1 (0 : Int32)) (fun h_6 => self (a1 + (1 : Int32)) h_6)))))
def f_X1_forget_23 (h : Hp) : Option (Hp) :=
  jn1 (fun k28 => fx2 (L_X1_forget_23_2 k28) FU (0 : Int32) h) (fun (h_1 : Hp) => jn1 (fun k49 => fx2 (L_X1_forget_23_30 k49) FU (0 : Int32) h_1) (fun (h_2 : Hp) => nm (wF h_2 23 4 (0 : Int32)) (fun h_3 => some h_3)))
def f_X7_forget_20 (h : Hp) : Option (Hp) :=
  nm (wF h 20 2 (0 : Int32)) (fun h_1 => some h_1)
def f_X10_forgetWhatDependsOnComparators (h : Hp) : Option (Hp) :=
  bd (f_X1_forget_23 h) (fun r_1 => bd (f_X7_forget_20 r_1) (fun r_3 => some r_3))
def f_X9_append_1 (h : Hp) (x1 : Int32) (x2 : Int32) : Option (Hp) :=
  (if (24 : Int32) ≤ (h.1 1 1) then some h else ck (h.1 1 1) 24 (nm (wI h 2 (h.1 1 1) x1) (fun h_1 => ck (h_1.1 1 1) 24 (nm (wI h_1 3 (h_1.1 1 1) x2) (fun h_2 => nm (wF h_2 1 1 ((h_2.1 1 1) + (1 : Int32))) (fun h_3 => some h_3))))))
def f_X9_dropLast_1 (h : Hp) : Option (Hp) :=
  nm (wF h 1 1 ((h.1 1 1) - (1 : Int32))) (fun h_1 => some h_1)
def f_X9_begin_6 (h : Hp) (x1 : Int32) : Option (Hp) :=
  nm (wF h 6 0 x1) (fun h_1 => nm (wF h_1 6 1 (0 : Int32)) (fun h_2 => some h_2))
def f_X9_append_6 (h : Hp) (x1 : Int32) (x2 : Int32) : Option (Hp) :=
  (if (24 : Int32) ≤ (h.1 6 1) then some h else ck (h.1 6 1) 24 (nm (wI h 7 (h.1 6 1) x1) (fun h_1 => ck (h_1.1 6 1) 24 (nm (wI h_1 8 (h_1.1 6 1) x2) (fun h_2 => nm (wF h_2 6 1 ((h_2.1 6 1) + (1 : Int32))) (fun h_3 => some h_3))))))
def L_X9_layAcross_6_3 (a1 : Int32) (a2 : Int32) (a3 : Int32) (k38 : Hp → Option (Hp)) (self : Int32 → Hp → Option (Hp)) (a4 : Int32) (h : Hp) : Option (Hp) :=
  (if (h.1 6 0) ≤ (a4 + a3) then k38 h else (if (a4 &&& a1) = a2 then bd (f_X9_append_6 h a4 (a4 + a3)) (fun r_2 => self (a4 + (1 : Int32)) r_2) else self (a4 + (1 : Int32)) h))
def f_X9_layAcross_6 (h : Hp) (x1 : Int32) (x2 : Int32) (x3 : Int32) : Option (Hp) :=
  jn1 (fun k38 => fx2 (L_X9_layAcross_6_3 x1 x2 x3 k38) FU (0 : Int32) h) (fun (h_1 : Hp) => some h_1)
def L_X9_layMerge_6_35 (a1 : Int32) (a2 : Int32) (k56 : Hp → Option (Hp)) (self : Int32 → Hp → Option (Hp)) (a3 : Int32) (h : Hp) : Option (Hp) :=
  (if a3 ≤ a2 then k56 h else bd (f_X9_layAcross_6 h a2 a2 (a3 - a2)) (fun r_7 => nm (a3 / (2 : Int32)) (fun y3_9 => self y3_9 r_7)))
def L_X9_layMerge_6_21 (a1 : Int32) (k63 : Hp → Option (Hp)) (self : Int32 → Hp → Option (Hp)) (a2 : Int32) (h : Hp) : Option (Hp) :=
  (if a2 < (1 : Int32) then k63 h else bd (f_X9_layAcross_6 h a2 (0 : Int32) a2) (fun r_3 => jn1 (fun k56 => fx2 (L_X9_layMerge_6_35 a1 a2 k56) FU a1 r_3) (fun (h_5 : Hp) => nm (a2 / (2 : Int32)) (fun y2_6 => self y2_6 h_5))))
def L_X9_layMerge_6_2 (h : Hp) (k19 : Int32 → Option (Hp)) (self : Int32 → Option (Hp)) (a1 : Int32) : Option (Hp) :=
  (if (h.1 6 0) ≤ ((2 : Int32) * a1) then k19 a1 else nm (a1 * (2 : Int32)) (fun y1_10 => self y1_10))
def f_X9_layMerge_6 (h : Hp) : Option (Hp) :=
  jn1 (fun k19 => fx1 (L_X9_layMerge_6_2 h k19) FU (1 : Int32)) (fun (x1_1 : Int32) => jn1 (fun k63 => fx2 (L_X9_layMerge_6_21 x1_1 k63) FU x1_1 h) (fun (h_2 : Hp) => some h_2))
def L_X9_layBrick_6_14 (a1 : Int32) (k38 : Hp → Option (Hp)) (self : Int32 → Hp → Option (Hp)) (a2 : Int32) (h : Hp) : Option (Hp) :=
  (if (h.1 6 0) ≤ (a2 + (1 : Int32)) then k38 h else bd (f_X9_append_6 h a2 (a2 + (1 : Int32))) (fun r_4 => self (a2 + (2 : Int32)) r_4))
def L_X9_layBrick_6_2 (k44 : Hp → Option (Hp)) (self : Int32 → Hp → Option (Hp)) (a1 : Int32) (h : Hp) : Option (Hp) :=
  (if (h.1 6 0) ≤ a1 then k44 h else nm (irm a1 (2 : Int32)) (fun y2_2 => jn1 (fun k38 => fx2 (L_X9_layBrick_6_14 a1 k38) FU y2_2 h) (fun (h_3 : Hp) => self (a1 + (1 : Int32)) h_3)))
def f_X9_layBrick_6 (h : Hp) : Option (Hp) :=
  jn1 (fun k44 => fx2 (L_X9_layBrick_6_2 k44) FU (0 : Int32) h) (fun (h_1 : Hp) => some h_1)
def L_X9_layBubble_6_14 (a1 : Int32) (k33 : Hp → Option (Hp)) (self : Int32 → Hp → Option (Hp)) (a2 : Int32) (h : Hp) : Option (Hp) :=
  (if a1 ≤ a2 then k33 h else bd (f_X9_append_6 h a2 (a2 + (1 : Int32))) (fun r_4 => self (a2 + (1 : Int32)) r_4))
def L_X9_layBubble_6_7 (k39 : Hp → Option (Hp)) (self : Int32 → Hp → Option (Hp)) (a1 : Int32) (h : Hp) : Option (Hp) :=
  (if a1 < (1 : Int32) then k39 h else jn1 (fun k33 => fx2 (L_X9_layBubble_6_14 a1 k33) FU (0 : Int32) h) (fun (h_3 : Hp) => self (a1 + (-1 : Int32)) h_3))
def f_X9_layBubble_6 (h : Hp) : Option (Hp) :=
  nm ((h.1 6 0) - (1 : Int32)) (fun y1_1 => jn1 (fun k39 => fx2 (L_X9_layBubble_6_7 k39) FU y1_1 h) (fun (h_2 : Hp) => some h_2))
def L_X9_turnUpsideDown_1_2 (k56 : Hp → Option (Hp)) (self : Int32 → Hp → Option (Hp)) (a1 : Int32) (h : Hp) : Option (Hp) :=
  (if (h.1 1 1) ≤ a1 then k56 h else ck a1 24 (ck a1 24 (ck a1 24 (nm (wI h 2 a1 (((h.1 1 0) - (1 : Int32)) - (h.1 3 a1.toNatClampNeg))) (fun h_2 => ck a1 24 (nm (wI h_2 3 a1 (((h_2.1 1 0) - (1 : Int32)) - (h.1 2 a1.toNatClampNeg))) (fun h_3 => self (a1 + (1 : Int32)) h_3)))))))
def f_X9_turnUpsideDown_1 (h : Hp) : Option (Hp) :=
  jn1 (fun k56 => fx2 (L_X9_turnUpsideDown_1_2 k56) FU (0 : Int32) h) (fun (h_1 : Hp) => some h_1)
def f_X10_mirror (h : Hp) : Option (Hp) :=
  bd (f_X9_turnUpsideDown_1 h) (fun r_1 => bd (f_X10_forgetWhatDependsOnComparators r_1) (fun r_3 => some r_3))
def f_X9_isCrooked_1 (h : Hp) (x1 : Int32) : Option (Int32) :=
  ck x1 24 (ck x1 24 ((if (h.1 2 x1.toNatClampNeg) ≤ (h.1 3 x1.toNatClampNeg) then ckz (0 : Int32) (some (0 : Int32)) else ckz (1 : Int32) (some (1 : Int32)))))
def f_X9_renamed (x0 : Int32) (x1 : Int32) (x2 : Int32) : Option (Int32) :=
  (if x0 = x1 then some x2 else (if x0 = x2 then some x1 else some x0))
def L_X9_changeNames_1_3 (a1 : Int32) (a2 : Int32) (k56 : Hp → Option (Hp)) (self : Int32 → Hp → Option (Hp)) (a4 : Int32) (h : Hp) : Option (Hp) :=
  (if (h.1 1 1) ≤ a4 then k56 h else ck a4 24 (bd (f_X9_renamed (h.1 2 a4.toNatClampNeg) a1 a2) (fun r_2 => ck a4 24 (nm (wI h 2 a4 r_2) (fun h_4 => ck a4 24 (bd (f_X9_renamed (h_4.1 3 a4.toNatClampNeg) a1 a2) (fun r_5 => ck a4 24 (nm (wI h_4 3 a4 r_5) (fun h_7 => self (a4 + (1 : Int32)) h_7)))))))))
def f_X9_changeNames_1 (h : Hp) (x1 : Int32) (x2 : Int32) (x3 : Int32) : Option (Hp) :=
  jn1 (fun k56 => fx2 (L_X9_changeNames_1_3 x1 x2 k56) FU x3 h) (fun (h_1 : Hp) => some h_1)
def L_X9_straighten_1_4 (k46 : Int32 → Hp → Option (Int32 × Hp)) (self : Int32 → Int32 → Hp → Option (Int32 × Hp)) (a1 : Int32) (a2 : Int32) (h : Hp) : Option (Int32 × Hp) :=
  (if (h.1 1 1) ≤ a2 then k46 a1 h else bd (f_X9_isCrooked_1 h a2) (fun r_3 => (if r_3 = 0 then self a1 (a2 + (1 : Int32)) h else ck a2 24 (ck a2 24 (bd (f_X9_changeNames_1 h (h.1 2 a2.toNatClampNeg) (h.1 3 a2.toNatClampNeg) a2) (fun r_5 => self (a1 + (1 : Int32)) (a2 + (1 : Int32)) r_5))))))
def f_X9_straighten_1 (h : Hp) : Option (Int32 × Hp) :=
  jn2 (fun k46 => fx3 (L_X9_straighten_1_4 k46) FU (0 : Int32) (0 : Int32) h) (fun (x1_1 : Int32) (h_2 : Hp) => some (x1_1, h_2))
def f_X10_untangle (h : Hp) : Option (Int32 × Hp) :=
  bd (f_X9_straighten_1 h) (fun r_1 => bd (f_X10_forgetWhatDependsOnComparators r_1.2) (fun r_3 => some (r_1.1, r_3)))
def f_X4_allRows (x0 : Int32) : Option (Int64) :=
  (if x0 < (6 : Int32) then some ((lshl (1 : Int64) (ishl (1 : Int32) x0)) - (1 : Int64)) else some (-1 : Int64))
def L_X4_bringIn_14_2 (a1 : Int32) (k26 : Hp → Option (Hp)) (self : Int32 → Hp → Option (Hp)) (a2 : Int32) (h : Hp) : Option (Hp) :=
  (if a1 ≤ a2 then k26 h else ck a2 6 (bd (f_X4_allRows a1) (fun r_2 => ck a2 6 (nm (wL h 14 a2 ((fINP a2.toNatClampNeg) &&& r_2)) (fun h_4 => self (a2 + (1 : Int32)) h_4)))))
def f_X4_bringIn_14 (h : Hp) (x1 : Int32) : Option (Hp) :=
  jn1 (fun k26 => fx2 (L_X4_bringIn_14_2 x1 k26) FU (0 : Int32) h) (fun (h_1 : Hp) => some h_1)
def f_X4_compare_14 (h : Hp) (x1 : Int32) (x2 : Int32) : Option (Hp) :=
  ck x1 6 (ck x2 6 (ck x1 6 (nm (wL h 14 x1 ((h.2 14 x1.toNatClampNeg) &&& (h.2 14 x2.toNatClampNeg))) (fun h_1 => ck x2 6 (nm (wL h_1 14 x2 ((h.2 14 x1.toNatClampNeg) ||| (h.2 14 x2.toNatClampNeg))) (fun h_2 => some h_2))))))
def L_X4_dropDead_13_1_23 (a2 : Int32) (k93 : Hp → Option (Int32 × Hp)) (self : Int32 → Hp → Option (Int32 × Hp)) (a3 : Int32) (h : Hp) : Option (Int32 × Hp) :=
  (if a2 ≤ a3 then k93 h else ck a3 24 (ck a3 24 (ck (h.1 2 a3.toNatClampNeg) 6 (ck (h.1 3 a3.toNatClampNeg) 6 ((if (lg_cmp ((h.2 14 (h.1 2 a3.toNatClampNeg).toNatClampNeg) &&& ((h.2 14 (h.1 3 a3.toNatClampNeg).toNatClampNeg) ^^^ (-1 : Int64))) (0 : Int64)) = 0 then self (a3 + (1 : Int32)) h else bd (f_X4_compare_14 h (h.1 2 a3.toNatClampNeg) (h.1 3 a3.toNatClampNeg)) (fun r_5 => bd (f_X9_append_1 r_5 (h.1 2 a3.toNatClampNeg) (h.1 3 a3.toNatClampNeg)) (fun r_7 => self (a3 + (1 : Int32)) r_7))))))))
def f_X4_dropDead_13_1 (h : Hp) : Option (Int32 × Hp) :=
  bd (f_X4_bringIn_14 h (h.1 1 0)) (fun r_1 => nm (wF r_1 1 1 (0 : Int32)) (fun h_3 => jn1 (fun k93 => fx2 (L_X4_dropDead_13_1_23 (h.1 1 1) k93) FU (0 : Int32) h_3) (fun (h_4 : Hp) => some ((h.1 1 1) - (h_4.1 1 1), h_4))))
def f_X10_prune (h : Hp) : Option (Int32 × Hp) :=
  bd (f_X4_dropDead_13_1 h) (fun r_1 => bd (f_X10_forgetWhatDependsOnComparators r_1.2) (fun r_3 => some (r_1.1, r_3)))
def f_X9_textLength_1 (h : Hp) : Option (Int32) :=
  (if (h.1 1 1) = 0 then some (0 : Int32) else some (((4 : Int32) * (h.1 1 1)) - (1 : Int32)))
def L_X9_crookedCount_1_4 (h : Hp) (k29 : Int32 → Option (Int32)) (self : Int32 → Int32 → Option (Int32)) (a1 : Int32) (a2 : Int32) : Option (Int32) :=
  (if (h.1 1 1) ≤ a2 then k29 a1 else bd (f_X9_isCrooked_1 h a2) (fun r_2 => (if r_2 = 0 then self a1 (a2 + (1 : Int32)) else self (a1 + (1 : Int32)) (a2 + (1 : Int32)))))
def f_X9_crookedCount_1 (h : Hp) : Option (Int32) :=
  jn1 (fun k29 => fx2 (L_X9_crookedCount_1_4 h k29) FU (0 : Int32) (0 : Int32)) (fun (x1_1 : Int32) => some x1_1)
def L_X4_send_14_1_10 (a2 : Int32) (k37 : Hp → Option (Hp)) (self : Int32 → Hp → Option (Hp)) (a3 : Int32) (h : Hp) : Option (Hp) :=
  (if a2 ≤ a3 then k37 h else ck a3 24 (ck a3 24 (bd (f_X4_compare_14 h (h.1 2 a3.toNatClampNeg) (h.1 3 a3.toNatClampNeg)) (fun r_4 => self (a3 + (1 : Int32)) r_4))))
def f_X4_send_14_1 (h : Hp) (x2 : Int32) : Option (Hp) :=
  bd (f_X4_bringIn_14 h (h.1 1 0)) (fun r_1 => jn1 (fun k37 => fx2 (L_X4_send_14_1_10 x2 k37) FU (0 : Int32) r_1) (fun (h_3 : Hp) => some h_3))
def f_X4_exchanging_13_1 (h : Hp) (x2 : Int32) : Option (Int64 × Hp) :=
  bd (f_X4_send_14_1 h x2) (fun r_1 => ck x2 24 (ck (r_1.1 2 x2.toNatClampNeg) 6 (ck x2 24 (ck (r_1.1 3 x2.toNatClampNeg) 6 (some ((r_1.2 14 (r_1.1 2 x2.toNatClampNeg).toNatClampNeg) &&& ((r_1.2 14 (r_1.1 3 x2.toNatClampNeg).toNatClampNeg) ^^^ (-1 : Int64)), r_1))))))
def L_X4_deadCount_13_1_4 (k32 : Int32 → Hp → Option (Int32 × Hp)) (self : Int32 → Int32 → Hp → Option (Int32 × Hp)) (a2 : Int32) (a3 : Int32) (h : Hp) : Option (Int32 × Hp) :=
  (if (h.1 1 1) ≤ a3 then k32 a2 h else bd (f_X4_exchanging_13_1 h a3) (fun r_3 => (if (lg_cmp r_3.1 (0 : Int64)) = 0 then self (a2 + (1 : Int32)) (a3 + (1 : Int32)) r_3.2 else self a2 (a3 + (1 : Int32)) r_3.2)))
def f_X4_deadCount_13_1 (h : Hp) : Option (Int32 × Hp) :=
  jn2 (fun k32 => fx3 (L_X4_deadCount_13_1_4 k32) FU (0 : Int32) (0 : Int32) h) (fun (x2_1 : Int32) (h_2 : Hp) => some (x2_1, h_2))
def L_X9_layerCount_1_27 (k110 : Int32 → Hp → Option (Int32 × Hp)) (self : Int32 → Int32 → Hp → Option (Int32 × Hp)) (a1 : Int32) (a2 : Int32) (h : Hp) : Option (Int32 × Hp) :=
  (if (h.1 1 1) ≤ a2 then k110 a1 h else ck a2 24 (ck (h.1 2 a2.toNatClampNeg) 6 (ck a2 24 (ck (h.1 3 a2.toNatClampNeg) 6 (nm (imax (h.1 5 (h.1 2 a2.toNatClampNeg).toNatClampNeg) (h.1 5 (h.1 3 a2.toNatClampNeg).toNatClampNeg)) (fun y3_4 => ck a2 24 (nm (wI h 4 a2 y3_4) (fun h_5 => ck a2 24 (ck (h_5.1 2 a2.toNatClampNeg) 6 (nm (wI h_5 5 (h_5.1 2 a2.toNatClampNeg) (y3_4 + (1 : Int32))) (fun h_6 => ck a2 24 (ck (h_6.1 3 a2.toNatClampNeg) 6 (nm (wI h_6 5 (h_6.1 3 a2.toNatClampNeg) (y3_4 + (1 : Int32))) (fun h_7 => nm (imax a1 (y3_4 + (1 : Int32))) (fun y1_8 => self y1_8 (a2 + (1 : Int32)) h_7)))))))))))))))
def L_X9_layerCount_1_4 (a1 : Int32) (k25 : Hp → Option (Int32 × Hp)) (self : Int32 → Hp → Option (Int32 × Hp)) (a2 : Int32) (h : Hp) : Option (Int32 × Hp) :=
  (if (h.1 1 0) ≤ a2 then k25 h else ck a2 6 (nm (wI h 5 a2 (0 : Int32)) (fun h_9 => self (a2 + (1 : Int32)) h_9)))
def f_X9_layerCount_1 (h : Hp) : Option (Int32 × Hp) :=
  jn1 (fun k25 => fx2 (L_X9_layerCount_1_4 (0 : Int32) k25) FU (0 : Int32) h) (fun (h_1 : Hp) => jn2 (fun k110 => fx3 (L_X9_layerCount_1_27 k110) FU (0 : Int32) (0 : Int32) h_1) (fun (x1_2 : Int32) (h_3 : Hp) => some (x1_2, h_3)))
def f_J13_bitCount (x0 : Int64) : Option (Int32) :=
  nm (x0 - ((lushr x0 (1 : Int32)) &&& (6148914691236517205 : Int64))) (fun y0_1 => nm ((y0_1 &&& (3689348814741910323 : Int64)) + ((lushr y0_1 (2 : Int32)) &&& (3689348814741910323 : Int64))) (fun y0_2 => nm ((y0_2 + (lushr y0_2 (4 : Int32))) &&& (1085102592571150095 : Int64)) (fun y0_3 => nm (y0_3 + (lushr y0_3 (8 : Int32))) (fun y0_4 => nm (y0_4 + (lushr y0_4 (16 : Int32))) (fun y0_5 => nm (y0_5 + (lushr y0_5 (32 : Int32))) (fun y0_6 => some ((l2i y0_6) &&& (127 : Int32))))))))
def f_X9_layerOf_1 (h : Hp) (x1 : Int32) : Option (Int32 × Hp) :=
  bd (f_X9_layerCount_1 h) (fun r_1 => ck x1 24 (some (r_1.2.1 4 x1.toNatClampNeg, r_1.2)))
def f_X9_placeKey_1 (h : Hp) (x1 : Int32) : Option (Int32) :=
  ck x1 24 (ck x1 24 (ck x1 24 (some (((6 : Int32) * (h.1 4 x1.toNatClampNeg)) + (imin (h.1 2 x1.toNatClampNeg) (h.1 3 x1.toNatClampNeg))))))
def L_X9_inTextAt_1_15 (h : Hp) (a1 : Int32) (a2 : Int32) (k47 : Int32 → Option (Int32)) (self : Int32 → Int32 → Option (Int32)) (a3 : Int32) (a4 : Int32) : Option (Int32) :=
  (if (h.1 1 1) ≤ a4 then k47 a3 else bd (f_X9_placeKey_1 h a4) (fun r_3 => bd (f_X9_placeKey_1 h a2) (fun r_5 => (if r_5 ≤ r_3 then self a3 (a4 + (1 : Int32)) else self (a3 + (1 : Int32)) (a4 + (1 : Int32))))))
def L_X9_inTextAt_1_2 (h : Hp) (a1 : Int32) (k52 : Int32 → Option (Int32)) (k60 : Option (Int32)) (self : Int32 → Option (Int32)) (a2 : Int32) : Option (Int32) :=
  (if (h.1 1 1) ≤ a2 then k60 else jn1 (fun k47 => fx2 (L_X9_inTextAt_1_15 h a1 a2 k47) FU (0 : Int32) (0 : Int32)) (fun (x3_2 : Int32) => (if x3_2 = a1 then k52 a2 else self (a2 + (1 : Int32)))))
def f_X9_inTextAt_1 (h : Hp) (x1 : Int32) : Option (Int32) :=
  jn0 (fun k60 => jn1 (fun k52 => fx1 (L_X9_inTextAt_1_2 h x1 k52 k60) FU (0 : Int32)) (fun (x2_1 : Int32) => some x2_1)) (some (0 : Int32))
def f_X9_signAt_1 (h : Hp) (x1 : Int32) : Option (Int32 × Hp) :=
  bd (f_X9_textLength_1 h) (fun r_1 => (if x1 < r_1 then bd (f_X9_layerCount_1 h) (fun r_3 => bd (f_X9_inTextAt_1 r_3.2 (x1 / (4 : Int32))) (fun r_5 => (if (irm x1 (4 : Int32)) = (0 : Int32) then ck r_5 24 (ckc (i2c ((48 : Int32) + (r_3.2.1 2 r_5.toNatClampNeg))) (some (i2c ((48 : Int32) + (r_3.2.1 2 r_5.toNatClampNeg)), r_3.2))) else (if (irm x1 (4 : Int32)) = (1 : Int32) then ckc (58 : Int32) (some ((58 : Int32), r_3.2)) else (if (irm x1 (4 : Int32)) = (2 : Int32) then ck r_5 24 (ckc (i2c ((48 : Int32) + (r_3.2.1 3 r_5.toNatClampNeg))) (some (i2c ((48 : Int32) + (r_3.2.1 3 r_5.toNatClampNeg)), r_3.2))) else ck r_5 24 (bd (f_X9_inTextAt_1 r_3.2 ((x1 / (4 : Int32)) + (1 : Int32))) (fun r_7 => ck r_7 24 ((if (r_3.2.1 4 r_5.toNatClampNeg) = (r_3.2.1 4 r_7.toNatClampNeg) then ckc (32 : Int32) (some ((32 : Int32), r_3.2)) else ckc (47 : Int32) (some ((47 : Int32), r_3.2))))))))))) else ckc (32 : Int32) (some ((32 : Int32), h))))
def f_X8_signIn (x0 : Int64) (x2 : Int32) : Option (Int32) :=
  ckc (i2c (l2i ((lushr x0 ((8 : Int32) * x2)) &&& (255 : Int64)))) (some (i2c (l2i ((lushr x0 ((8 : Int32) * x2)) &&& (255 : Int64)))))
def f_X8_put_11 (h : Hp) (x1 : Int32) : Option (Hp) :=
  (if (40 : Int32) ≤ (h.1 11 1) then some h else ck (h.1 11 1) 40 (nm (wCh h 12 (h.1 11 1) x1) (fun h_1 => nm (wF h_1 11 1 ((h_1.1 11 1) + (1 : Int32))) (fun h_2 => some h_2))))
def f_X8_takes (x0 : Int32) : Option (Int32) :=
  jn0 (fun k12 => (if x0 < (48 : Int32) then k12 else (if x0 ≤ (53 : Int32) then ckz (1 : Int32) (some (1 : Int32)) else k12))) ((if x0 = (58 : Int32) then ckz (1 : Int32) (some (1 : Int32)) else (if x0 = (47 : Int32) then ckz (1 : Int32) (some (1 : Int32)) else (if x0 = (32 : Int32) then ckz (1 : Int32) (some (1 : Int32)) else ckz (0 : Int32) (some (0 : Int32))))))
def f_X8_empty_11 (h : Hp) : Option (Hp) :=
  nm (wF h 11 1 (0 : Int32)) (fun h_1 => some h_1)
def f_X10_wipe (h : Hp) : Option (Int32 × Hp) :=
  bd (f_X8_empty_11 h) (fun r_1 => some (h.1 11 1, r_1))
def L_X8_faultFor_11_4 (h : Hp) (a1 : Int32) (k34 : Int32 → Option (Int32)) (k57 : Int32 → Option (Int32)) (k102 : Int32 → Option (Int32)) (k117 : Option (Int32)) (self : Int32 → Int32 → Option (Int32)) (a2 : Int32) (a3 : Int32) : Option (Int32) :=
  (if (h.1 11 1) ≤ a3 then k117 else ck a3 40 ((if (irm a3 (4 : Int32)) = (1 : Int32) then (if (h.1 12 a3.toNatClampNeg) = (58 : Int32) then self a2 (a3 + (1 : Int32)) else k34 a3) else (if (irm a3 (4 : Int32)) = (3 : Int32) then jn0 (fun k59 => (if (h.1 12 a3.toNatClampNeg) = (32 : Int32) then k59 else (if (h.1 12 a3.toNatClampNeg) = (47 : Int32) then k59 else k57 a3))) ((if (h.1 12 a3.toNatClampNeg) = (47 : Int32) then self (0 : Int32) (a3 + (1 : Int32)) else self a2 (a3 + (1 : Int32)))) else nm ((h.1 12 a3.toNatClampNeg) - (48 : Int32)) (fun y5_4 => (if y5_4 < 0 then k102 a3 else (if a1 ≤ y5_4 then k102 a3 else (if ((ishr a2 y5_4) &&& (1 : Int32)) = 0 then nm (a2 ||| (ishl (1 : Int32) y5_4)) (fun y2_5 => self y2_5 (a3 + (1 : Int32))) else k102 a3))))))))
def f_X8_faultFor_11 (h : Hp) (x1 : Int32) : Option (Int32) :=
  jn0 (fun k117 => jn1 (fun k102 => jn1 (fun k57 => jn1 (fun k34 => fx2 (L_X8_faultFor_11_4 h x1 k34 k57 k102 k117) FU (0 : Int32) (0 : Int32)) (fun (x3_3 : Int32) => some x3_3)) (fun (x3_2 : Int32) => some x3_2)) (fun (x3_1 : Int32) => some x3_1)) ((if (irm (h.1 11 1) (4 : Int32)) = (3 : Int32) then some (-1 : Int32) else some (h.1 11 1)))
def f_X10_fault (h : Hp) : Option (Int32) :=
  bd (f_X8_faultFor_11 h (h.1 1 0)) (fun r_1 => some r_1)
def L_X8_layOn_11_6_2 (k42 : Hp → Option (Hp)) (self : Int32 → Hp → Option (Hp)) (a2 : Int32) (h : Hp) : Option (Hp) :=
  (if (h.1 11 1) ≤ (a2 + (2 : Int32)) then k42 h else ck a2 40 (ck (a2 + (2 : Int32)) 40 (bd (f_X9_append_6 h ((h.1 12 a2.toNatClampNeg) - (48 : Int32)) ((h.1 12 (a2 + (2 : Int32)).toNatClampNeg) - (48 : Int32))) (fun r_2 => self (a2 + (4 : Int32)) r_2))))
def f_X8_layOn_11_6 (h : Hp) : Option (Hp) :=
  jn1 (fun k42 => fx2 (L_X8_layOn_11_6_2 k42) FU (0 : Int32) h) (fun (h_1 : Hp) => some h_1)
def L_X5_ofCode_10 (a1 : Int32) (k47 : Option (Int32)) (k74 : Int32 → Int32 → Option (Int32)) (self : Int32 → Int32 → Int32 → Int32 → Option (Int32)) (a2 : Int32) (a3 : Int32) (a4 : Int32) (a5 : Int32) : Option (Int32) :=
  (if a1 ≤ a5 then k74 a2 a4 else nm (irm a2 (10 : Int32)) (fun y6_3 => nm (a2 / (10 : Int32)) (fun y2_4 => (if y6_3 < 0 then k47 else (if a1 ≤ y6_3 then k47 else (if ((ishr a3 y6_3) &&& (1 : Int32)) = 0 then nm (a3 ||| (ishl (1 : Int32) y6_3)) (fun y3_5 => nm (a4 ||| (ishl y6_3 ((4 : Int32) * a5))) (fun y4_6 => self y2_4 y3_5 y4_6 (a5 + (1 : Int32)))) else k47))))))
def f_X5_ofCode (x0 : Int32) (x1 : Int32) : Option (Int32) :=
  jn2 (fun k74 => jn0 (fun k47 => fx4 (L_X5_ofCode_10 x1 k47 k74) FU x0 (0 : Int32) (0 : Int32) (0 : Int32)) (some (-1 : Int32))) (fun (x2_1 : Int32) (x4_2 : Int32) => (if x2_1 = 0 then some x4_2 else some (-1 : Int32)))
def f_X5_valueOn (x0 : Int32) (x1 : Int32) : Option (Int32) :=
  some ((ishr x0 ((4 : Int32) * x1)) &&& (15 : Int32))
def f_X5_exchanged (x0 : Int32) (x1 : Int32) (x2 : Int32) : Option (Int32) :=
  bd (f_X5_valueOn x0 x1) (fun r_1 => bd (f_X5_valueOn x0 x2) (fun r_3 => nm (r_1 ^^^ r_3) (fun y3_5 => some ((x0 ^^^ (ishl y3_5 ((4 : Int32) * x1))) ^^^ (ishl y3_5 ((4 : Int32) * x2))))))
def L_X9_sent_1_4 (h : Hp) (k58 : Int32 → Option (Int32)) (self : Int32 → Int32 → Option (Int32)) (a2 : Int32) (a3 : Int32) : Option (Int32) :=
  (if (h.1 1 1) ≤ a3 then k58 a2 else ck a3 24 (bd (f_X5_valueOn a2 (h.1 2 a3.toNatClampNeg)) (fun r_2 => ck a3 24 (bd (f_X5_valueOn a2 (h.1 3 a3.toNatClampNeg)) (fun r_4 => (if r_2 ≤ r_4 then self a2 (a3 + (1 : Int32)) else ck a3 24 (ck a3 24 (bd (f_X5_exchanged a2 (h.1 2 a3.toNatClampNeg) (h.1 3 a3.toNatClampNeg)) (fun r_6 => self r_6 (a3 + (1 : Int32)))))))))))
def f_X9_sent_1 (h : Hp) (x1 : Int32) : Option (Int32) :=
  jn1 (fun k58 => fx2 (L_X9_sent_1_4 h k58) FU x1 (0 : Int32)) (fun (x2_1 : Int32) => some x2_1)
def L_X5_toCode_6 (a0 : Int32) (k27 : Int32 → Option (Int32)) (self : Int32 → Int32 → Option (Int32)) (a2 : Int32) (a3 : Int32) : Option (Int32) :=
  (if a3 < 0 then k27 a2 else bd (f_X5_valueOn a0 a3) (fun r_3 => nm (((10 : Int32) * a2) + r_3) (fun y2_5 => self y2_5 (a3 + (-1 : Int32)))))
def f_X5_toCode (x0 : Int32) (x1 : Int32) : Option (Int32) :=
  nm (x1 - (1 : Int32)) (fun y3_1 => jn1 (fun k27 => fx2 (L_X5_toCode_6 x0 k27) FU (0 : Int32) y3_1) (fun (x2_2 : Int32) => some x2_2))
def L_X4_rowOutOf_13_5 (h : Hp) (a1 : Int32) (a2 : Int32) (k35 : Int32 → Option (Int32)) (self : Int32 → Int32 → Option (Int32)) (a3 : Int32) (a4 : Int32) : Option (Int32) :=
  (if a2 ≤ a4 then k35 a3 else ck a4 6 (nm (a3 ||| (ishl (l2i ((lushr (h.2 14 a4.toNatClampNeg) a1) &&& (1 : Int64))) a4)) (fun y3_2 => self y3_2 (a4 + (1 : Int32)))))
def f_X4_rowOutOf_13 (h : Hp) (x1 : Int32) (x2 : Int32) : Option (Int32) :=
  jn1 (fun k35 => fx2 (L_X4_rowOutOf_13_5 h x1 x2 k35) FU (0 : Int32) (0 : Int32)) (fun (x3_1 : Int32) => some x3_1)
def L_X4_rowsOut_13_1_17 (h : Hp) (k49 : Int64 → Option (Int64 × Hp)) (self : Int64 → Int32 → Option (Int64 × Hp)) (a2 : Int64) (a4 : Int32) : Option (Int64 × Hp) :=
  (if (ishl (1 : Int32) (h.1 1 0)) ≤ a4 then k49 a2 else bd (f_X4_rowOutOf_13 h a4 (h.1 1 0)) (fun r_4 => nm (a2 ||| (lshl (1 : Int64) r_4)) (fun y2_6 => self y2_6 (a4 + (1 : Int32)))))
def f_X4_rowsOut_13_1 (h : Hp) : Option (Int64 × Hp) :=
  bd (f_X4_send_14_1 h (h.1 1 1)) (fun r_1 => jn1 (fun k49 => fx2 (L_X4_rowsOut_13_1_17 r_1 k49) FU (0 : Int64) (0 : Int32)) (fun (x2_3 : Int64) => some (x2_3, r_1)))
def f_X10_outputs (h : Hp) : Option (Int64 × Hp) :=
  bd (f_X4_rowsOut_13_1 h) (fun r_1 => some (r_1.1, r_1.2))
def L_X4_unsortedIn_14_5 (h : Hp) (a1 : Int32) (k37 : Int64 → Option (Int64)) (self : Int64 → Int32 → Option (Int64)) (a2 : Int64) (a4 : Int32) : Option (Int64) :=
  (if a1 ≤ (a4 + (1 : Int32)) then k37 a2 else ck a4 6 (ck (a4 + (1 : Int32)) 6 (nm (a2 ||| ((h.2 14 a4.toNatClampNeg) &&& ((h.2 14 (a4 + (1 : Int32)).toNatClampNeg) ^^^ (-1 : Int64)))) (fun y2_2 => self y2_2 (a4 + (1 : Int32))))))
def f_X4_unsortedIn_14 (h : Hp) (x1 : Int32) : Option (Int64) :=
  jn1 (fun k37 => fx2 (L_X4_unsortedIn_14_5 h x1 k37) FU (0 : Int64) (0 : Int32)) (fun (x2_1 : Int64) => some x2_1)
def f_X4_unsortedFrom_13_1 (h : Hp) : Option (Int64 × Hp) :=
  bd (f_X4_send_14_1 h (h.1 1 1)) (fun r_1 => bd (f_X4_unsortedIn_14 r_1 (r_1.1 1 0)) (fun r_3 => some (r_3, r_1)))
def f_X10_sorts (h : Hp) : Option (Int32 × Hp) :=
  bd (f_X4_unsortedFrom_13_1 h) (fun r_1 => (if (lg_cmp r_1.1 (0 : Int64)) = 0 then ckz (1 : Int32) (some ((1 : Int32), r_1.2)) else ckz (0 : Int32) (some ((0 : Int32), r_1.2))))
def L_X2_waysTo_16_6 (h : Hp) (a1 : Int32) (a2 : Int64) (a4 : Int32) (k70 : Int32 → Option (Int32)) (self : Int32 → Int32 → Option (Int32)) (a5 : Int32) (a6 : Int32) : Option (Int32) :=
  (if a4 ≤ a6 then k70 a5 else nm (a1 &&& ((ishl (1 : Int32) a6) ^^^ (-1 : Int32))) (fun y7_2 => nm ((l2i (lushr a2 ((6 : Int32) * a6))) &&& (63 : Int32)) (fun y8_3 => (if y7_2 = a1 then self a5 (a6 + (1 : Int32)) else (if (y8_3 &&& (y7_2 ^^^ (-1 : Int32))) = 0 then ck y7_2 64 (nm (a5 + (h.1 17 y7_2.toNatClampNeg)) (fun y5_4 => self y5_4 (a6 + (1 : Int32)))) else self a5 (a6 + (1 : Int32)))))))
def f_X2_waysTo_16 (h : Hp) (x1 : Int32) (x2 : Int64) (x4 : Int32) : Option (Int32) :=
  jn1 (fun k70 => fx2 (L_X2_waysTo_16_6 h x1 x2 x4 k70) FU (0 : Int32) (0 : Int32)) (fun (x5_1 : Int32) => some x5_1)
def L_X2_countOf_16_18 (a1 : Int64) (a3 : Int64) (a5 : Int32) (a6 : Int32) (k62 : Hp → Option (Int32 × Hp)) (self : Int32 → Hp → Option (Int32 × Hp)) (a7 : Int32) (h : Hp) : Option (Int32 × Hp) :=
  (if a6 < a7 then k62 h else (if (lg_cmp ((lushr a1 a7) &&& (1 : Int64)) (0 : Int64)) = 0 then ck a7 64 (nm (wI h 17 a7 (0 : Int32)) (fun h_7 => self (a7 + (1 : Int32)) h_7)) else bd (f_X2_waysTo_16 h a7 a3 a5) (fun r_4 => ck a7 64 (nm (wI h 17 a7 r_4) (fun h_6 => self (a7 + (1 : Int32)) h_6)))))
def f_X2_countOf_16 (h : Hp) (x1 : Int64) (x3 : Int64) (x5 : Int32) : Option (Int32 × Hp) :=
  nm ((ishl (1 : Int32) x5) - (1 : Int32)) (fun y6_1 => ck (0 : Int32) 64 (nm (wI h 17 (0 : Int32) (1 : Int32)) (fun h_2 => jn1 (fun k62 => fx2 (L_X2_countOf_16_18 x1 x3 x5 y6_1 k62) FU (1 : Int32) h_2) (fun (h_3 : Hp) => ck y6_1 64 (some (h_3.1 17 y6_1.toNatClampNeg, h_3))))))
def f_X4_sortedCount_13_1 (h : Hp) : Option (Int32 × Hp) :=
  bd (f_X4_unsortedFrom_13_1 h) (fun r_1 => bd (f_X2_countOf_16 r_1.2 (r_1.1 ^^^ (-1 : Int64)) (0 : Int64) (r_1.2.1 1 0)) (fun r_3 => some (r_3.1, r_3.2)))
def f_X10_sorted (h : Hp) : Option (Int32 × Hp) :=
  bd (f_X4_sortedCount_13_1 h) (fun r_1 => some (r_1.1, r_1.2))
def L_X4_rowIn_5 (a0 : Int64) (a2 : Int32) (k28 : Int32 → Option (Int32)) (k40 : Option (Int32)) (self : Int32 → Int32 → Option (Int32)) (a3 : Int32) (a4 : Int32) : Option (Int32) :=
  (if (64 : Int32) ≤ a4 then k40 else (if (lg_cmp ((lushr a0 a4) &&& (1 : Int64)) (0 : Int64)) = 0 then self a3 (a4 + (1 : Int32)) else (if a3 = a2 then k28 a4 else self (a3 + (1 : Int32)) (a4 + (1 : Int32)))))
def f_X4_rowIn (x0 : Int64) (x2 : Int32) : Option (Int32) :=
  jn0 (fun k40 => jn1 (fun k28 => fx2 (L_X4_rowIn_5 x0 x2 k28 k40) FU (0 : Int32) (0 : Int32)) (fun (x4_1 : Int32) => some x4_1)) (some (-1 : Int32))
def L_X4_canFinish_14_39 (a1 : Int32) (a2 : Int32) (a4 : Int32) (rec : Hp → Int32 → Int32 → Option (Int32 × Hp)) (k110 : Int32 → Hp → Option (Int32 × Hp)) (self : Int32 → Int32 → Hp → Option (Int32 × Hp)) (a3 : Int32) (a5 : Int32) (h : Hp) : Option (Int32 × Hp) :=
  (if a1 ≤ a5 then k110 a3 h else (if a3 = 0 then ck a4 6 (ck a5 6 ((if (lg_cmp ((h.2 14 a4.toNatClampNeg) &&& ((h.2 14 a5.toNatClampNeg) ^^^ (-1 : Int64))) (0 : Int64)) = 0 then self a3 (a5 + (1 : Int32)) h else bd (f_X4_compare_14 h a4 a5) (fun r_8 => bd (rec r_8 a1 (a2 - (1 : Int32))) (fun r_10 => ck a4 6 (nm (wL r_10.2 14 a4 (h.2 14 a4.toNatClampNeg)) (fun h_12 => ck a5 6 (nm (wL h_12 14 a5 (h.2 14 a5.toNatClampNeg)) (fun h_13 => self r_10.1 (a5 + (1 : Int32)) h_13))))))))) else k110 a3 h))
def L_X4_canFinish_14_23 (a1 : Int32) (a2 : Int32) (rec : Hp → Int32 → Int32 → Option (Int32 × Hp)) (k116 : Int32 → Hp → Option (Int32 × Hp)) (self : Int32 → Int32 → Hp → Option (Int32 × Hp)) (a3 : Int32) (a4 : Int32) (h : Hp) : Option (Int32 × Hp) :=
  (if a1 ≤ a4 then k116 a3 h else (if a3 = 0 then nm (a4 + (1 : Int32)) (fun y5_5 => jn2 (fun k110 => fx3 (L_X4_canFinish_14_39 a1 a2 a4 rec k110) FU a3 y5_5 h) (fun (x3_6 : Int32) (h_7 : Hp) => self x3_6 (a4 + (1 : Int32)) h_7)) else k116 a3 h))
def f_X4_canFinish_14 : Nat → Hp → Int32 → Int32 → Option (Int32 × Hp)
  | 0, _, _, _ => none
  | d + 1, h, x1, x2 => (fun (rec : Hp → Int32 → Int32 → Option (Int32 × Hp)) => bd (f_X4_unsortedIn_14 h x1) (fun r_1 => (if (lg_cmp r_1 (0 : Int64)) = 0 then ckz (1 : Int32) (some ((1 : Int32), h)) else (if 0 < x2 then jn2 (fun k116 => fx3 (L_X4_canFinish_14_23 x1 x2 rec k116) FU (0 : Int32) (0 : Int32) h) (fun (x3_3 : Int32) (h_4 : Hp) => ckz x3_3 (some (x3_3, h_4))) else ckz (0 : Int32) (some ((0 : Int32), h)))))) (f_X4_canFinish_14 d)
def L_X4_missing_13_1_14 (a2 : Int32) (k34 : Int32 → Hp → Option (Int32 × Hp)) (k42 : Hp → Option (Int32 × Hp)) (self : Int32 → Hp → Option (Int32 × Hp)) (a3 : Int32) (h : Hp) : Option (Int32 × Hp) :=
  (if a2 < a3 then k42 h else bd (f_X4_canFinish_14 8 h (h.1 1 0) a3) (fun r_6 => (if r_6.1 = 0 then self (a3 + (1 : Int32)) r_6.2 else k34 a3 r_6.2)))
def f_X4_missing_13_1 (h : Hp) (x2 : Int32) : Option (Int32 × Hp) :=
  bd (f_X4_send_14_1 h (h.1 1 1)) (fun r_1 => jn1 (fun k42 => jn2 (fun k34 => fx2 (L_X4_missing_13_1_14 x2 k34 k42) FU (0 : Int32) r_1) (fun (x3_4 : Int32) (h_5 : Hp) => some (x3_4, h_5))) (fun (h_3 : Hp) => some ((-1 : Int32), h_3)))
def L_X4_bringIn_15_2 (a1 : Int32) (k26 : Hp → Option (Hp)) (self : Int32 → Hp → Option (Hp)) (a2 : Int32) (h : Hp) : Option (Hp) :=
  (if a1 ≤ a2 then k26 h else ck a2 6 (bd (f_X4_allRows a1) (fun r_2 => ck a2 6 (nm (wL h 15 a2 ((fINP a2.toNatClampNeg) &&& r_2)) (fun h_4 => self (a2 + (1 : Int32)) h_4)))))
def f_X4_bringIn_15 (h : Hp) (x1 : Int32) : Option (Hp) :=
  jn1 (fun k26 => fx2 (L_X4_bringIn_15_2 x1 k26) FU (0 : Int32) h) (fun (h_1 : Hp) => some h_1)
def L_X4_unsortedIn_15_5 (h : Hp) (a1 : Int32) (k37 : Int64 → Option (Int64)) (self : Int64 → Int32 → Option (Int64)) (a2 : Int64) (a4 : Int32) : Option (Int64) :=
  (if a1 ≤ (a4 + (1 : Int32)) then k37 a2 else ck a4 6 (ck (a4 + (1 : Int32)) 6 (nm (a2 ||| ((h.2 15 a4.toNatClampNeg) &&& ((h.2 15 (a4 + (1 : Int32)).toNatClampNeg) ^^^ (-1 : Int64)))) (fun y2_2 => self y2_2 (a4 + (1 : Int32))))))
def f_X4_unsortedIn_15 (h : Hp) (x1 : Int32) : Option (Int64) :=
  jn1 (fun k37 => fx2 (L_X4_unsortedIn_15_5 h x1 k37) FU (0 : Int64) (0 : Int32)) (fun (x2_1 : Int64) => some x2_1)
def L_X4_mergesAt_13_1_26 (h : Hp) (a3 : Int64) (k69 : Int64 → Option (Int32 × Hp)) (self : Int64 → Int32 → Option (Int32 × Hp)) (a5 : Int64) (a7 : Int32) : Option (Int32 × Hp) :=
  (if (h.1 1 0) ≤ (a7 + (1 : Int32)) then k69 a5 else ck a7 6 (ck (a7 + (1 : Int32)) 6 (nm (a5 ||| ((h.2 15 a7.toNatClampNeg) &&& ((h.2 15 (a7 + (1 : Int32)).toNatClampNeg) ^^^ (-1 : Int64)))) (fun y5_8 => self y5_8 (a7 + (1 : Int32))))))
def f_X4_mergesAt_13_1 (h : Hp) (x2 : Int32) : Option (Int32 × Hp) :=
  bd (f_X4_bringIn_15 h (h.1 1 0)) (fun r_1 => bd (f_X4_unsortedIn_15 r_1 x2) (fun r_3 => jn1 (fun k69 => fx2 (L_X4_mergesAt_13_1_26 r_1 r_3 k69) FU (0 : Int64) x2) (fun (x5_5 : Int64) => bd (f_X4_unsortedFrom_13_1 r_1) (fun r_6 => (if (lg_cmp ((r_6.1 &&& (r_3 ^^^ (-1 : Int64))) &&& (x5_5 ^^^ (-1 : Int64))) (0 : Int64)) = 0 then ckz (1 : Int32) (some ((1 : Int32), r_6.2)) else ckz (0 : Int32) (some ((0 : Int32), r_6.2)))))))
def f_J6_bitCount (x0 : Int32) : Option (Int32) :=
  nm (x0 - ((iushr x0 (1 : Int32)) &&& (1431655765 : Int32))) (fun y0_1 => nm ((y0_1 &&& (858993459 : Int32)) + ((iushr y0_1 (2 : Int32)) &&& (858993459 : Int32))) (fun y0_2 => nm ((y0_2 + (iushr y0_2 (4 : Int32))) &&& (252645135 : Int32)) (fun y0_3 => nm (y0_3 + (iushr y0_3 (8 : Int32))) (fun y0_4 => nm (y0_4 + (iushr y0_4 (16 : Int32))) (fun y0_5 => some (y0_5 &&& (63 : Int32)))))))
def L_X4_choosesLowest_13_1_9 (h : Hp) (a2 : Int32) (a3 : Int64) (k57 : Option (Int32 × Hp)) (k65 : Option (Int32 × Hp)) (self : Int32 → Option (Int32 × Hp)) (a5 : Int32) : Option (Int32 × Hp) :=
  (if (ishl (1 : Int32) (h.1 1 0)) ≤ a5 then k65 else jn1 (fun k36 => (if (lg_cmp ((lushr a3 a5) &&& (1 : Int64)) (0 : Int64)) = 0 then k36 (0 : Int32) else k36 (1 : Int32))) (fun (z_3 : Int32) => (if z_3 = 0 then self (a5 + (1 : Int32)) else bd (f_J6_bitCount a5) (fun r_4 => (if ((h.1 1 0) - r_4) = a2 then k57 else self (a5 + (1 : Int32)))))))
def f_X4_choosesLowest_13_1 (h : Hp) (x2 : Int32) : Option (Int32 × Hp) :=
  bd (f_X4_unsortedFrom_13_1 h) (fun r_1 => jn0 (fun k65 => jn0 (fun k57 => fx1 (L_X4_choosesLowest_13_1_9 r_1.2 x2 r_1.1 k57 k65) FU (0 : Int32)) (ckz (0 : Int32) (some ((0 : Int32), r_1.2)))) (ckz (1 : Int32) (some ((1 : Int32), r_1.2))))
def L_X4_distanceIn_12 (a0 : Int32) (a1 : Int32) (a2 : Int32) (k63 : Int32 → Option (Int32)) (self : Int32 → Int32 → Option (Int32)) (a3 : Int32) (a4 : Int32) : Option (Int32) :=
  (if a1 ≤ a4 then k63 a3 else jn1 (fun k32 => (if ((ishr a0 a4) &&& (1 : Int32)) = 0 then k32 (0 : Int32) else k32 (1 : Int32))) (fun (z_5 : Int32) => (if z_5 = 0 then nm (imax a3 (a4 - (a2 - (1 : Int32)))) (fun y3_6 => self y3_6 (a4 + (1 : Int32))) else nm (imax a3 (a2 - a4)) (fun y3_7 => self y3_7 (a4 + (1 : Int32))))))
def f_X4_distanceIn (x0 : Int32) (x1 : Int32) : Option (Int32) :=
  bd (f_J6_bitCount x0) (fun r_1 => nm (x1 - r_1) (fun y2_3 => jn1 (fun k63 => fx2 (L_X4_distanceIn_12 x0 x1 y2_3 k63) FU (0 : Int32) (0 : Int32)) (fun (x3_4 : Int32) => some x3_4)))
def L_X4_greatestDistance_13_1_16 (h : Hp) (k57 : Int32 → Option (Int32 × Hp)) (self : Int32 → Int32 → Option (Int32 × Hp)) (a2 : Int32) (a3 : Int32) : Option (Int32 × Hp) :=
  (if (ishl (1 : Int32) (h.1 1 0)) ≤ a3 then k57 a2 else bd (f_X4_rowOutOf_13 h a3 (h.1 1 0)) (fun r_4 => bd (f_X4_distanceIn r_4 (h.1 1 0)) (fun r_6 => nm (imax a2 r_6) (fun y2_8 => self y2_8 (a3 + (1 : Int32))))))
def f_X4_greatestDistance_13_1 (h : Hp) : Option (Int32 × Hp) :=
  bd (f_X4_send_14_1 h (h.1 1 1)) (fun r_1 => jn1 (fun k57 => fx2 (L_X4_greatestDistance_13_1_16 r_1 k57) FU (0 : Int32) (0 : Int32)) (fun (x2_3 : Int32) => some (x2_3, r_1)))
def f_X10_off (h : Hp) : Option (Int32 × Hp) :=
  bd (f_X4_greatestDistance_13_1 h) (fun r_1 => some (r_1.1, r_1.2))
def L_X5_inOrder_4 (a0 : Int32) (k23 : Int32 → Option (Int32)) (self : Int32 → Int32 → Option (Int32)) (a1 : Int32) (a2 : Int32) : Option (Int32) :=
  (if a0 ≤ a2 then k23 a1 else nm (a1 ||| (ishl a2 ((4 : Int32) * a2))) (fun y1_2 => self y1_2 (a2 + (1 : Int32))))
def f_X5_inOrder (x0 : Int32) : Option (Int32) :=
  jn1 (fun k23 => fx2 (L_X5_inOrder_4 x0 k23) FU (0 : Int32) (0 : Int32)) (fun (x1_1 : Int32) => some x1_1)
def L_X5_rank_7 (a0 : Int32) (a1 : Int32) (k53 : Int32 → Option (Int32)) (self : Int32 → Int32 → Int32 → Option (Int32)) (a2 : Int32) (a3 : Int32) (a4 : Int32) : Option (Int32) :=
  (if a1 ≤ a4 then k53 a2 else bd (f_X5_valueOn a0 a4) (fun r_2 => nm (ishl (1 : Int32) r_2) (fun y5_4 => bd (f_J6_bitCount (a3 &&& (y5_4 - (1 : Int32)))) (fun r_5 => ck a4 7 (nm (a2 + (r_5 * (fFAC a4.toNatClampNeg))) (fun y2_7 => nm (a3 ||| y5_4) (fun y3_8 => self y2_7 y3_8 (a4 + (1 : Int32)))))))))
def f_X5_rank (x0 : Int32) (x1 : Int32) : Option (Int32) :=
  jn1 (fun k53 => fx3 (L_X5_rank_7 x0 x1 k53) FU (0 : Int32) (0 : Int32) (0 : Int32)) (fun (x2_1 : Int32) => some x2_1)
def f_X7_reach_20 (h : Hp) (x1 : Int32) (x2 : Int32) (x3 : Int32) : Option (Hp) :=
  bd (f_X5_rank x1 x2) (fun r_1 => ck r_1 720 ((if (h.1 22 r_1.toNatClampNeg) = 0 then (if (720 : Int32) ≤ (h.1 20 2) then some h else ck r_1 720 (nm (wB h 22 r_1 (i2b x3)) (fun h_3 => ck (h_3.1 20 2) 720 (nm (wI h_3 21 (h_3.1 20 2) x1) (fun h_4 => nm (wF h_4 20 2 ((h_4.1 20 2) + (1 : Int32))) (fun h_5 => some h_5)))))) else some h)))
def f_X5_howMany (x0 : Int32) : Option (Int32) :=
  ck x0 7 (some (fFAC x0.toNatClampNeg))
def L_X7_learn_20_1_75 (a2 : Int32) (a3 : Int32) (a4 : Int32) (k122 : Hp → Option (Hp)) (self : Int32 → Hp → Option (Hp)) (a5 : Int32) (h : Hp) : Option (Hp) :=
  (if a4 ≤ a5 then k122 h else ck a5 720 (ck a3 24 (ck a3 24 (bd (f_X5_exchanged (h.1 21 a5.toNatClampNeg) (h.1 2 a3.toNatClampNeg) (h.1 3 a3.toNatClampNeg)) (fun r_10 => bd (f_X7_reach_20 h r_10 a2 (a3 + (2 : Int32))) (fun r_12 => self (a5 + (1 : Int32)) r_12))))))
def L_X7_learn_20_1_47 (a2 : Int32) (k128 : Hp → Option (Hp)) (self : Int32 → Hp → Option (Hp)) (a3 : Int32) (h : Hp) : Option (Hp) :=
  (if (h.1 1 1) ≤ a3 then k128 h else bd (f_X5_howMany a2) (fun r_7 => (if r_7 ≤ (h.1 20 2) then k128 h else jn1 (fun k122 => fx2 (L_X7_learn_20_1_75 a2 a3 (h.1 20 2) k122) FU (0 : Int32) h) (fun (h_9 : Hp) => self (a3 + (1 : Int32)) h_9))))
def L_X7_learn_20_1_15 (a2 : Int32) (k35 : Hp → Option (Hp)) (self : Int32 → Hp → Option (Hp)) (a3 : Int32) (h : Hp) : Option (Hp) :=
  (if (720 : Int32) ≤ a3 then k35 h else ck a3 720 (nm (wB h 22 a3 (0 : Int32)) (fun h_14 => self (a3 + (1 : Int32)) h_14)))
def f_X7_learn_20_1 (h : Hp) : Option (Hp) :=
  (if (h.1 20 2) ≤ 0 then jn1 (fun k35 => fx2 (L_X7_learn_20_1_15 (h.1 1 0) k35) FU (0 : Int32) h) (fun (h_1 : Hp) => bd (f_X5_inOrder (h.1 1 0)) (fun r_2 => bd (f_X7_reach_20 h_1 r_2 (h.1 1 0) (1 : Int32)) (fun r_4 => jn1 (fun k128 => fx2 (L_X7_learn_20_1_47 (h.1 1 0) k128) FU (0 : Int32) r_4) (fun (h_6 : Hp) => some h_6)))) else some h)
def f_X7_rowsOut_20_1 (h : Hp) : Option (Int32 × Hp) :=
  bd (f_X7_learn_20_1 h) (fun r_1 => some (r_1.1 20 2, r_1))
def f_X10_routes (h : Hp) : Option (Int32 × Hp) :=
  bd (f_X7_rowsOut_20_1 h) (fun r_1 => some (r_1.1, r_1.2))
def L_X7_lowestFor_20_1_39 (h : Hp) (a3 : Int32) (k98 : Int32 → Option (Int32 × Hp)) (self : Int32 → Int32 → Int32 → Option (Int32 × Hp)) (a4 : Int32) (a5 : Int32) (a6 : Int32) : Option (Int32 × Hp) :=
  (if a6 < 0 then k98 a4 else bd (f_X5_rank a5 a3) (fun r_7 => ck r_7 720 ((if (h.1 22 r_7.toNatClampNeg) ≤ (a6 + (1 : Int32)) then self a4 a5 (a6 + (-1 : Int32)) else nm (a4 ||| (ishl (1 : Int32) a6)) (fun y4_9 => ck a6 24 (ck a6 24 (bd (f_X5_exchanged a5 (h.1 2 a6.toNatClampNeg) (h.1 3 a6.toNatClampNeg)) (fun r_10 => self y4_9 r_10 (a6 + (-1 : Int32))))))))))
def f_X7_lowestFor_20_1 (h : Hp) (x2 : Int32) : Option (Int32 × Hp) :=
  bd (f_X7_learn_20_1 h) (fun r_1 => bd (f_X5_rank x2 (r_1.1 1 0)) (fun r_3 => ck r_3 720 ((if (r_1.1 22 r_3.toNatClampNeg) = 0 then some ((-1 : Int32), r_1) else nm ((r_1.1 1 1) - (1 : Int32)) (fun y6_5 => jn1 (fun k98 => fx3 (L_X7_lowestFor_20_1_39 r_1 (r_1.1 1 0) k98) FU (0 : Int32) x2 y6_5) (fun (x4_6 : Int32) => some (x4_6, r_1)))))))
def L_X1_letIn_23_1_5 (a2 : Int32) (k92 : Int32 → Hp → Option (Int32 × Hp)) (self : Int32 → Int32 → Hp → Option (Int32 × Hp)) (a3 : Int32) (a4 : Int32) (h : Hp) : Option (Int32 × Hp) :=
  (if (h.1 1 1) ≤ a4 then k92 a3 h else ck a4 24 (jn0 (fun k36 => (if a3 = (h.1 2 a4.toNatClampNeg) then k36 else ck a4 24 ((if a3 = (h.1 3 a4.toNatClampNeg) then k36 else self a3 (a4 + (1 : Int32)) h)))) (ck a4 24 (jn1 (fun k63 => (if (h.1 27 a4.toNatClampNeg) = 0 then ck a4 24 (k63 (h.1 2 a4.toNatClampNeg)) else ck a4 24 (k63 (h.1 3 a4.toNatClampNeg)))) (fun (z_6 : Int32) => ck a4 24 ((if (h.1 27 a4.toNatClampNeg) = 0 then ck a4 24 (nm (wZ h 27 a4 (1 : Int32)) (fun h_8 => self z_6 (a4 + (1 : Int32)) h_8)) else ck a4 24 (nm (wZ h 27 a4 (0 : Int32)) (fun h_7 => self z_6 (a4 + (1 : Int32)) h_7)))))))))
def f_X1_letIn_23_1 (h : Hp) (x2 : Int32) : Option (Int32 × Hp) :=
  jn2 (fun k92 => fx3 (L_X1_letIn_23_1_5 x2 k92) FU x2 (0 : Int32) h) (fun (x3_1 : Int32) (h_2 : Hp) => ck x2 6 (ck x2 6 (nm (wI h_2 24 x2 ((h_2.1 24 x2.toNatClampNeg) + (1 : Int32))) (fun h_3 => ck x3_1 6 (ck x3_1 6 (nm (wI h_3 25 x3_1 ((h_3.1 25 x3_1.toNatClampNeg) + (1 : Int32))) (fun h_4 => nm (wF h_4 23 4 ((h_4.1 23 4) + (1 : Int32))) (fun h_5 => some (x3_1, h_5)))))))))
def L_X1_reckoned_23_1_28 (a2 : Int32) (k99 : Hp → Option (Int32 × Hp)) (self : Int32 → Hp → Option (Int32 × Hp)) (a3 : Int32) (h : Hp) : Option (Int32 × Hp) :=
  (if (h.1 1 1) ≤ a3 then k99 h else ck a3 24 (ck (h.1 2 a3.toNatClampNeg) 6 (ck a3 24 (ck (h.1 3 a3.toNatClampNeg) 6 (nm ((h.1 26 (h.1 2 a3.toNatClampNeg).toNatClampNeg) + (h.1 26 (h.1 3 a3.toNatClampNeg).toNatClampNeg)) (fun y4_3 => ck a3 24 (ck (h.1 2 a3.toNatClampNeg) 6 (nm (wI h 26 (h.1 2 a3.toNatClampNeg) ((y4_3 + (1 : Int32)) / (2 : Int32))) (fun h_4 => ck a3 24 (ck (h_4.1 3 a3.toNatClampNeg) 6 (nm (wI h_4 26 (h_4.1 3 a3.toNatClampNeg) (y4_3 / (2 : Int32))) (fun h_5 => self (a3 + (1 : Int32)) h_5))))))))))))
def L_X1_reckoned_23_1_2 (a2 : Int32) (k26 : Hp → Option (Int32 × Hp)) (self : Int32 → Hp → Option (Int32 × Hp)) (a3 : Int32) (h : Hp) : Option (Int32 × Hp) :=
  (if (6 : Int32) ≤ a3 then k26 h else ck a3 6 (ck a3 6 (nm (wI h 26 a3 (h.1 24 a3.toNatClampNeg)) (fun h_6 => self (a3 + (1 : Int32)) h_6))))
def f_X1_reckoned_23_1 (h : Hp) (x2 : Int32) : Option (Int32 × Hp) :=
  jn1 (fun k26 => fx2 (L_X1_reckoned_23_1_2 x2 k26) FU (0 : Int32) h) (fun (h_1 : Hp) => jn1 (fun k99 => fx2 (L_X1_reckoned_23_1_28 x2 k99) FU (0 : Int32) h_1) (fun (h_2 : Hp) => ck x2 6 (some (h_2.1 26 x2.toNatClampNeg, h_2))))
def L_X1_outIsStep_23_2 (h : Hp) (a1 : Int32) (k26 : Option (Int32)) (k34 : Option (Int32)) (self : Int32 → Option (Int32)) (a2 : Int32) : Option (Int32) :=
  (if a1 ≤ (a2 + (1 : Int32)) then k34 else ck a2 6 (ck (a2 + (1 : Int32)) 6 ((if (h.1 25 (a2 + (1 : Int32)).toNatClampNeg) ≤ (h.1 25 a2.toNatClampNeg) then self (a2 + (1 : Int32)) else k26))))
def f_X1_outIsStep_23 (h : Hp) (x1 : Int32) : Option (Int32) :=
  jn0 (fun k34 => jn0 (fun k26 => fx1 (L_X1_outIsStep_23_2 h x1 k26 k34) FU (0 : Int32)) (ckz (0 : Int32) (some (0 : Int32)))) (ck (0 : Int32) 6 (ck (x1 - (1 : Int32)) 6 ((if (1 : Int32) < ((h.1 25 (0 : Int32).toNatClampNeg) - (h.1 25 (x1 - (1 : Int32)).toNatClampNeg)) then ckz (0 : Int32) (some (0 : Int32)) else ckz (1 : Int32) (some (1 : Int32))))))
def f_X10_isStep (h : Hp) : Option (Int32) :=
  bd (f_X1_outIsStep_23 h (h.1 1 0)) (fun r_1 => ckz r_1 (some r_1))
def f_X4_compareBadly_14 (h : Hp) (x1 : Int32) (x2 : Int32) (x3 : Int32) : Option (Hp) :=
  ck x1 6 (ck x2 6 ((if x3 = (1 : Int32) then ck x1 6 (nm (wL h 14 x1 (h.2 14 x2.toNatClampNeg)) (fun h_3 => ck x2 6 (nm (wL h_3 14 x2 (h.2 14 x1.toNatClampNeg)) (fun h_4 => some h_4)))) else (if x3 = (2 : Int32) then ck x1 6 (nm (wL h 14 x1 ((h.2 14 x1.toNatClampNeg) ||| (h.2 14 x2.toNatClampNeg))) (fun h_1 => ck x2 6 (nm (wL h_1 14 x2 ((h.2 14 x1.toNatClampNeg) &&& (h.2 14 x2.toNatClampNeg))) (fun h_2 => some h_2)))) else some h))))
def L_X4_sendWith_14_1_28 (k61 : Hp → Option (Hp)) (self : Int32 → Hp → Option (Hp)) (a4 : Int32) (h : Hp) : Option (Hp) :=
  (if (h.1 1 1) ≤ a4 then k61 h else ck a4 24 (ck a4 24 (bd (f_X4_compare_14 h (h.1 2 a4.toNatClampNeg) (h.1 3 a4.toNatClampNeg)) (fun r_7 => self (a4 + (1 : Int32)) r_7))))
def f_X4_sendWith_14_1 (h : Hp) (x2 : Int32) (x3 : Int32) : Option (Hp) :=
  bd (f_X4_send_14_1 h x2) (fun r_1 => ck x2 24 (ck x2 24 (bd (f_X4_compareBadly_14 r_1 (r_1.1 2 x2.toNatClampNeg) (r_1.1 3 x2.toNatClampNeg) x3) (fun r_3 => nm (x2 + (1 : Int32)) (fun y4_5 => jn1 (fun k61 => fx2 (L_X4_sendWith_14_1_28 k61) FU y4_5 r_3) (fun (h_6 : Hp) => some h_6))))))
def f_X4_unsortedWith_13_1 (h : Hp) (x2 : Int32) (x3 : Int32) : Option (Int64 × Hp) :=
  bd (f_X4_sendWith_14_1 h x2 x3) (fun r_1 => bd (f_X4_unsortedIn_14 r_1 (r_1.1 1 0)) (fun r_3 => some (r_3, r_1)))
def f_X4_compare_15 (h : Hp) (x1 : Int32) (x2 : Int32) : Option (Hp) :=
  ck x1 6 (ck x2 6 (ck x1 6 (nm (wL h 15 x1 ((h.2 15 x1.toNatClampNeg) &&& (h.2 15 x2.toNatClampNeg))) (fun h_1 => ck x2 6 (nm (wL h_1 15 x2 ((h.2 15 x1.toNatClampNeg) ||| (h.2 15 x2.toNatClampNeg))) (fun h_2 => some h_2))))))
def L_X4_send_15_1_10 (a2 : Int32) (k37 : Hp → Option (Hp)) (self : Int32 → Hp → Option (Hp)) (a3 : Int32) (h : Hp) : Option (Hp) :=
  (if a2 ≤ a3 then k37 h else ck a3 24 (ck a3 24 (bd (f_X4_compare_15 h (h.1 2 a3.toNatClampNeg) (h.1 3 a3.toNatClampNeg)) (fun r_4 => self (a3 + (1 : Int32)) r_4))))
def f_X4_send_15_1 (h : Hp) (x2 : Int32) : Option (Hp) :=
  bd (f_X4_bringIn_15 h (h.1 1 0)) (fun r_1 => jn1 (fun k37 => fx2 (L_X4_send_15_1_10 x2 k37) FU (0 : Int32) r_1) (fun (h_3 : Hp) => some h_3))
def L_X4_telling_13_1_28 (h : Hp) (k63 : Int64 → Option (Int64 × Hp)) (self : Int64 → Int32 → Option (Int64 × Hp)) (a4 : Int64) (a6 : Int32) : Option (Int64 × Hp) :=
  (if (h.1 1 0) ≤ a6 then k63 a4 else ck a6 6 (ck a6 6 (nm (a4 ||| ((h.2 14 a6.toNatClampNeg) ^^^ (h.2 15 a6.toNatClampNeg))) (fun y4_6 => self y4_6 (a6 + (1 : Int32))))))
def f_X4_telling_13_1 (h : Hp) (x2 : Int32) (x3 : Int32) : Option (Int64 × Hp) :=
  bd (f_X4_send_15_1 h (h.1 1 1)) (fun r_1 => bd (f_X4_sendWith_14_1 r_1 x2 x3) (fun r_3 => jn1 (fun k63 => fx2 (L_X4_telling_13_1_28 r_3 k63) FU (0 : Int64) (0 : Int32)) (fun (x4_5 : Int64) => some (x4_5, r_3))))
def L_X3_countHidden_18_13_1_18 (a3 : Int64) (a6 : Int32) (k49 : Int32 → Hp → Option (Int32 × Hp)) (self : Int32 → Int32 → Hp → Option (Int32 × Hp)) (a5 : Int32) (a7 : Int32) (h : Hp) : Option (Int32 × Hp) :=
  (if (2 : Int32) < a7 then k49 a5 h else bd (f_X4_telling_13_1 h a6 a7) (fun r_5 => (if (lg_cmp (r_5.1 &&& a3) (0 : Int64)) = 0 then self (a5 + (1 : Int32)) (a7 + (1 : Int32)) r_5.2 else self a5 (a7 + (1 : Int32)) r_5.2)))
def L_X3_countHidden_18_13_1_6 (a3 : Int64) (k55 : Int32 → Hp → Option (Int32 × Hp)) (self : Int32 → Int32 → Hp → Option (Int32 × Hp)) (a5 : Int32) (a6 : Int32) (h : Hp) : Option (Int32 × Hp) :=
  (if (h.1 1 1) ≤ a6 then k55 a5 h else jn2 (fun k49 => fx3 (L_X3_countHidden_18_13_1_18 a3 a6 k49) FU a5 (0 : Int32) h) (fun (x5_3 : Int32) (h_4 : Hp) => self x5_3 (a6 + (1 : Int32)) h_4))
def f_X3_countHidden_18_13_1 (h : Hp) (x3 : Int64) : Option (Int32 × Hp) :=
  jn2 (fun k55 => fx3 (L_X3_countHidden_18_13_1_6 x3 k55) FU (0 : Int32) (0 : Int32) h) (fun (x5_1 : Int32) (h_2 : Hp) => some (x5_1, h_2))
def f_X10_hidden (h : Hp) (x1 : Int64) : Option (Int32 × Hp) :=
  bd (f_X3_countHidden_18_13_1 h x1) (fun r_1 => some (r_1.1, r_1.2))
def L_X3_canTell_19_120 (h : Hp) (a1 : Int32) (a2 : Int64) (a6 : Int32) (a9 : Int64) (rec : Hp → Int32 → Int64 → Int64 → Int32 → Option (Int32)) (k161 : Option (Int32)) (k176 : Option (Int32)) (self : Int64 → Int32 → Option (Int32)) (a12 : Int64) (a14 : Int32) : Option (Int32) :=
  (if (64 : Int32) ≤ a14 then k176 else nm (lshl (1 : Int64) a14) (fun y15_4 => (if (lg_cmp (a9 &&& y15_4) (0 : Int64)) = 0 then self a12 (a14 + (1 : Int32)) else bd (rec h a1 (a2 ||| y15_4) a12 (a6 - (1 : Int32))) (fun r_5 => (if r_5 = 0 then nm (a12 ||| y15_4) (fun y12_7 => self y12_7 (a14 + (1 : Int32))) else k161)))))
def L_X3_canTell_19_15 (h : Hp) (a1 : Int32) (a2 : Int64) (a4 : Int64) (a6 : Int32) (rec : Hp → Int32 → Int64 → Int64 → Int32 → Option (Int32)) (k79 : Int64 → Int64 → Int32 → Option (Int32)) (self : Int64 → Int64 → Int32 → Int32 → Option (Int32)) (a7 : Int64) (a9 : Int64) (a11 : Int32) (a12 : Int32) : Option (Int32) :=
  (if a1 ≤ a12 then k79 a7 a9 a11 else ck a12 72 ((if (lg_cmp ((h.2 19 a12.toNatClampNeg) &&& a2) (0 : Int64)) = 0 then ck a12 72 (nm ((h.2 19 a12.toNatClampNeg) &&& (a4 ^^^ (-1 : Int64))) (fun y13_8 => nm (a7 &&& y13_8) (fun y7_9 => bd (f_J13_bitCount y13_8) (fun r_10 => (if a11 ≤ r_10 then self y7_9 a9 a11 (a12 + (1 : Int32)) else bd (f_J13_bitCount y13_8) (fun r_12 => self y7_9 y13_8 r_12 (a12 + (1 : Int32)))))))) else self a7 a9 a11 (a12 + (1 : Int32)))))
def f_X3_canTell_19 : Nat → Hp → Int32 → Int64 → Int64 → Int32 → Option (Int32)
  | 0, _, _, _, _, _ => none
  | d + 1, h, x1, x2, x4, x6 => (fun (rec : Hp → Int32 → Int64 → Int64 → Int32 → Option (Int32)) => jn3 (fun k79 => fx4 (L_X3_canTell_19_15 h x1 x2 x4 x6 rec k79) FU (-1 : Int64) (0 : Int64) (65 : Int32) (0 : Int32)) (fun (x7_1 : Int64) (x9_2 : Int64) (x11_3 : Int32) => (if x11_3 = (65 : Int32) then ckz (1 : Int32) (some (1 : Int32)) else (if (1 : Int32) < x6 then jn0 (fun k176 => jn0 (fun k161 => fx2 (L_X3_canTell_19_120 h x1 x2 x6 x9_2 rec k161 k176) FU x4 (0 : Int32)) (ckz (1 : Int32) (some (1 : Int32)))) (ckz (0 : Int32) (some (0 : Int32))) else (if x6 = (1 : Int32) then (if (lg_cmp x7_1 (0 : Int64)) = 0 then ckz (0 : Int32) (some (0 : Int32)) else ckz (1 : Int32) (some (1 : Int32))) else ckz (0 : Int32) (some (0 : Int32))))))) (f_X3_canTell_19 d)
def L_X3_keep_18_49 (a1 : Int64) (k98 : Int32 → Hp → Option (Hp)) (self : Int32 → Int32 → Hp → Option (Hp)) (a3 : Int32) (a4 : Int32) (h : Hp) : Option (Hp) :=
  (if (h.1 18 1) ≤ a4 then k98 a3 h else ck a4 72 ((if (lg_cmp (a1 &&& ((h.2 19 a4.toNatClampNeg) ^^^ (-1 : Int64))) (0 : Int64)) = 0 then self a3 (a4 + (1 : Int32)) h else ck a4 72 (ck a3 72 (nm (wL h 19 a3 (h.2 19 a4.toNatClampNeg)) (fun h_5 => self (a3 + (1 : Int32)) (a4 + (1 : Int32)) h_5))))))
def L_X3_keep_18_12 (h : Hp) (a1 : Int64) (a3 : Int32) (k39 : Option (Hp)) (k46 : Option (Hp)) (self : Int32 → Option (Hp)) (a4 : Int32) : Option (Hp) :=
  (if (h.1 18 1) ≤ a4 then k46 else ck a4 72 ((if (lg_cmp ((h.2 19 a4.toNatClampNeg) &&& (a1 ^^^ (-1 : Int64))) (0 : Int64)) = 0 then k39 else self (a4 + (1 : Int32)))))
def f_X3_keep_18 (h : Hp) (x1 : Int64) : Option (Hp) :=
  (if (lg_cmp x1 (0 : Int64)) = 0 then some h else jn0 (fun k46 => jn0 (fun k39 => fx1 (L_X3_keep_18_12 h x1 (0 : Int32) k39 k46) FU (0 : Int32)) (some h)) (jn2 (fun k98 => fx3 (L_X3_keep_18_49 x1 k98) FU (0 : Int32) (0 : Int32) h) (fun (x3_1 : Int32) (h_2 : Hp) => (if (72 : Int32) ≤ x3_1 then some h_2 else ck x3_1 72 (nm (wL h_2 19 x3_1 x1) (fun h_3 => nm (wF h_3 18 1 (x3_1 + (1 : Int32))) (fun h_4 => some h_4)))))))
def L_X3_fewestRows_18_13_1_50 (h : Hp) (k72 : Int32 → Option (Int32 × Hp)) (k80 : Option (Int32 × Hp)) (self : Int32 → Option (Int32 × Hp)) (a3 : Int32) : Option (Int32 × Hp) :=
  (if (4 : Int32) < a3 then k80 else bd (f_X3_canTell_19 8 h (h.1 18 1) (0 : Int64) (0 : Int64) a3) (fun r_4 => (if r_4 = 0 then self (a3 + (1 : Int32)) else k72 a3)))
def L_X3_fewestRows_18_13_1_18 (a3 : Int32) (k42 : Hp → Option (Int32 × Hp)) (self : Int32 → Hp → Option (Int32 × Hp)) (a4 : Int32) (h : Hp) : Option (Int32 × Hp) :=
  (if (2 : Int32) < a4 then k42 h else bd (f_X4_telling_13_1 h a3 a4) (fun r_7 => bd (f_X3_keep_18 r_7.2 r_7.1) (fun r_9 => self (a4 + (1 : Int32)) r_9)))
def L_X3_fewestRows_18_13_1_7 (k48 : Hp → Option (Int32 × Hp)) (self : Int32 → Hp → Option (Int32 × Hp)) (a3 : Int32) (h : Hp) : Option (Int32 × Hp) :=
  (if (h.1 1 1) ≤ a3 then k48 h else jn1 (fun k42 => fx2 (L_X3_fewestRows_18_13_1_18 a3 k42) FU (0 : Int32) h) (fun (h_6 : Hp) => self (a3 + (1 : Int32)) h_6))
def f_X3_fewestRows_18_13_1 (h : Hp) : Option (Int32 × Hp) :=
  nm (wF h 18 1 (0 : Int32)) (fun h_1 => jn1 (fun k48 => fx2 (L_X3_fewestRows_18_13_1_7 k48) FU (0 : Int32) h_1) (fun (h_2 : Hp) => jn0 (fun k80 => jn1 (fun k72 => fx1 (L_X3_fewestRows_18_13_1_50 h_2 k72 k80) FU (0 : Int32)) (fun (x3_3 : Int32) => some (x3_3, h_2))) (some ((-1 : Int32), h_2))))
def f_X10_tests (h : Hp) : Option (Int32 × Hp) :=
  bd (f_X3_fewestRows_18_13_1 h) (fun r_1 => some (r_1.1, r_1.2))
def L_X10_bears_20 (k49 : Hp → Option (Int32 × Hp)) (k57 : Hp → Option (Int32 × Hp)) (self : Int32 → Hp → Option (Int32 × Hp)) (a1 : Int32) (h : Hp) : Option (Int32 × Hp) :=
  (if (h.1 1 1) ≤ a1 then k57 h else bd (f_X4_unsortedWith_13_1 h a1 (0 : Int32)) (fun r_5 => (if (lg_cmp r_5.1 (0 : Int64)) = 0 then self (a1 + (1 : Int32)) r_5.2 else k49 r_5.2)))
def f_X10_bears (h : Hp) : Option (Int32 × Hp) :=
  bd (f_X4_unsortedFrom_13_1 h) (fun r_1 => (if (lg_cmp r_1.1 (0 : Int64)) = 0 then jn1 (fun k57 => jn1 (fun k49 => fx2 (L_X10_bears_20 k49 k57) FU (0 : Int32) r_1.2) (fun (h_4 : Hp) => ckz (0 : Int32) (some ((0 : Int32), h_4)))) (fun (h_3 : Hp) => ckz (1 : Int32) (some ((1 : Int32), h_3))) else ckz (0 : Int32) (some ((0 : Int32), r_1.2))))
def f_X6_placeOf (x0 : Int32) (x1 : Int32) (x2 : Int32) : Option (Int32) :=
  ck x2 7 (bd (f_X5_rank x1 x2) (fun r_1 => some (((x0 * (872 : Int32)) + (fBEG x2.toNatClampNeg)) + r_1)))
def L_X6_blocksChanged_6 (a0 : Int32) (a1 : Int32) (a2 : Int32) (a3 : Int32) (k73 : Int32 → Option (Int32)) (self : Int32 → Int32 → Option (Int32)) (a4 : Int32) (a5 : Int32) : Option (Int32) :=
  (if a3 ≤ a5 then k73 a4 else jn1 (fun k55 => (if a5 < a0 then k55 a5 else (if a2 ≤ a5 then k55 a5 else nm ((a5 + a1) - a0) (fun y6_4 => jn1 (fun k53 => (if a2 ≤ y6_4 then k53 (y6_4 - (a2 - a0)) else k53 y6_4)) (fun (z_5 : Int32) => k55 z_5))))) (fun (x6_2 : Int32) => nm (a4 ||| (ishl x6_2 ((4 : Int32) * a5))) (fun y4_3 => self y4_3 (a5 + (1 : Int32)))))
def f_X6_blocksChanged (x0 : Int32) (x1 : Int32) (x2 : Int32) (x3 : Int32) : Option (Int32) :=
  jn1 (fun k73 => fx2 (L_X6_blocksChanged_6 x0 x1 x2 x3 k73) FU (0 : Int32) (0 : Int32)) (fun (x4_1 : Int32) => some x4_1)
def f_X6_append_28 (h : Hp) (x1 : Int32) : Option (Hp) :=
  (if (35 : Int32) ≤ (h.1 28 3) then some h else ck (h.1 28 3) 35 (nm (wI h 31 (h.1 28 3) x1) (fun h_1 => nm (wF h_1 28 3 ((h_1.1 28 3) + (1 : Int32))) (fun h_2 => some h_2))))
def L_X6_listBlocks_28_21 (a1 : Int32) (a2 : Int32) (a3 : Int32) (k45 : Hp → Option (Hp)) (self : Int32 → Hp → Option (Hp)) (a4 : Int32) (h : Hp) : Option (Hp) :=
  (if a1 < a4 then k45 h else bd (f_X6_blocksChanged a2 a3 a4 a1) (fun r_6 => bd (f_X6_append_28 h r_6) (fun r_8 => self (a4 + (1 : Int32)) r_8)))
def L_X6_listBlocks_28_11 (a1 : Int32) (a2 : Int32) (k51 : Hp → Option (Hp)) (self : Int32 → Hp → Option (Hp)) (a3 : Int32) (h : Hp) : Option (Hp) :=
  (if a1 ≤ a3 then k51 h else nm (a3 + (1 : Int32)) (fun y4_4 => jn1 (fun k45 => fx2 (L_X6_listBlocks_28_21 a1 a2 a3 k45) FU y4_4 h) (fun (h_5 : Hp) => self (a3 + (1 : Int32)) h_5)))
def L_X6_listBlocks_28_2 (a1 : Int32) (k57 : Hp → Option (Hp)) (self : Int32 → Hp → Option (Hp)) (a2 : Int32) (h : Hp) : Option (Hp) :=
  (if a1 ≤ a2 then k57 h else nm (a2 + (1 : Int32)) (fun y3_2 => jn1 (fun k51 => fx2 (L_X6_listBlocks_28_11 a1 a2 k51) FU y3_2 h) (fun (h_3 : Hp) => self (a2 + (1 : Int32)) h_3)))
def f_X6_listBlocks_28 (h : Hp) (x1 : Int32) : Option (Hp) :=
  jn1 (fun k57 => fx2 (L_X6_listBlocks_28_2 x1 k57) FU (0 : Int32) h) (fun (h_1 : Hp) => some h_1)
def L_X6_listFlips_28_12 (h : Hp) (a1 : Int32) (a2 : Int32) (k53 : Int32 → Option (Hp)) (self : Int32 → Int32 → Option (Hp)) (a3 : Int32) (a4 : Int32) : Option (Hp) :=
  (if a1 ≤ a4 then k53 a3 else jn1 (fun k35 => (if a2 ≤ a4 then k35 a4 else k35 ((a2 - (1 : Int32)) - a4))) (fun (z_5 : Int32) => nm (a3 ||| (ishl z_5 ((4 : Int32) * a4))) (fun y3_6 => self y3_6 (a4 + (1 : Int32)))))
def L_X6_listFlips_28_2 (a1 : Int32) (k64 : Hp → Option (Hp)) (self : Int32 → Hp → Option (Hp)) (a2 : Int32) (h : Hp) : Option (Hp) :=
  (if a1 < a2 then k64 h else jn1 (fun k53 => fx2 (L_X6_listFlips_28_12 h a1 a2 k53) FU (0 : Int32) (0 : Int32)) (fun (x3_2 : Int32) => bd (f_X6_append_28 h x3_2) (fun r_3 => self (a2 + (1 : Int32)) r_3)))
def f_X6_listFlips_28 (h : Hp) (x1 : Int32) : Option (Hp) :=
  jn1 (fun k64 => fx2 (L_X6_listFlips_28_2 x1 k64) FU (2 : Int32) h) (fun (h_1 : Hp) => some h_1)
def L_X6_listChanges_28_20 (a1 : Int32) (a2 : Int32) (a3 : Int32) (a4 : Int32) (k53 : Hp → Option (Hp)) (self : Int32 → Hp → Option (Hp)) (a5 : Int32) (h : Hp) : Option (Hp) :=
  (if a2 ≤ a5 then k53 h else (if a1 < (a5 - a4) then k53 h else bd (f_X5_exchanged a3 a4 a5) (fun r_6 => bd (f_X6_append_28 h r_6) (fun r_8 => self (a5 + (1 : Int32)) r_8))))
def L_X6_listChanges_28_8 (a1 : Int32) (a2 : Int32) (a3 : Int32) (k59 : Hp → Option (Hp)) (self : Int32 → Hp → Option (Hp)) (a4 : Int32) (h : Hp) : Option (Hp) :=
  (if a2 ≤ a4 then k59 h else nm (a4 + (1 : Int32)) (fun y5_4 => jn1 (fun k53 => fx2 (L_X6_listChanges_28_20 a1 a2 a3 a4 k53) FU y5_4 h) (fun (h_5 : Hp) => self (a4 + (1 : Int32)) h_5)))
def f_X6_listChanges_28 (h : Hp) (x1 : Int32) (x2 : Int32) : Option (Hp) :=
  bd (f_X5_inOrder x2) (fun r_1 => jn1 (fun k59 => fx2 (L_X6_listChanges_28_8 x1 x2 r_1 k59) FU (0 : Int32) h) (fun (h_3 : Hp) => some h_3))
def f_X6_listSteps_28 (h : Hp) (x1 : Int32) (x2 : Int32) : Option (Hp) :=
  nm (wF h 28 3 (0 : Int32)) (fun h_1 => (if x1 = (0 : Int32) then bd (f_X6_listChanges_28 h_1 (1 : Int32) x2) (fun r_2 => some r_2) else (if x1 = (1 : Int32) then bd (f_X6_listChanges_28 h_1 (x2 - (1 : Int32)) x2) (fun r_4 => some r_4) else (if x1 = (2 : Int32) then bd (f_X6_listFlips_28 h_1 x2) (fun r_6 => some r_6) else bd (f_X6_listBlocks_28 h_1 x2) (fun r_8 => some r_8)))))
def L_X5_rearranged_5 (a0 : Int32) (a1 : Int32) (a2 : Int32) (k35 : Int32 → Option (Int32)) (self : Int32 → Int32 → Option (Int32)) (a3 : Int32) (a4 : Int32) : Option (Int32) :=
  (if a2 ≤ a4 then k35 a3 else bd (f_X5_valueOn a1 a4) (fun r_2 => bd (f_X5_valueOn a0 r_2) (fun r_4 => nm (a3 ||| (ishl r_4 ((4 : Int32) * a4))) (fun y3_6 => self y3_6 (a4 + (1 : Int32))))))
def f_X5_rearranged (x0 : Int32) (x1 : Int32) (x2 : Int32) : Option (Int32) :=
  jn1 (fun k35 => fx2 (L_X5_rearranged_5 x0 x1 x2 k35) FU (0 : Int32) (0 : Int32)) (fun (x3_1 : Int32) => some x3_1)
def L_X6_learn_28_89 (a1 : Int32) (a2 : Int32) (a5 : Int32) (a6 : Int32) (k177 : Int32 → Hp → Option (Hp)) (self : Int32 → Int32 → Hp → Option (Hp)) (a4 : Int32) (a7 : Int32) (h : Hp) : Option (Hp) :=
  (if (h.1 28 3) ≤ a7 then k177 a4 h else ck a5 720 (ck a7 35 (bd (f_X5_rearranged (h.1 30 a5.toNatClampNeg) (h.1 31 a7.toNatClampNeg) a2) (fun r_18 => bd (f_X6_placeOf a1 r_18 a2) (fun r_20 => ck r_20 3488 ((if (h.1 29 r_20.toNatClampNeg) = 0 then (if (720 : Int32) ≤ a4 then self a4 (a7 + (1 : Int32)) h else ck r_20 3488 (nm (wB h 29 r_20 (i2b (a6 + (1 : Int32)))) (fun h_22 => ck a4 720 (nm (wI h_22 30 a4 r_18) (fun h_23 => self (a4 + (1 : Int32)) (a7 + (1 : Int32)) h_23))))) else self a4 (a7 + (1 : Int32)) h)))))))
def L_X6_learn_28_51 (a1 : Int32) (a2 : Int32) (k183 : Hp → Option (Hp)) (self : Int32 → Int32 → Hp → Option (Hp)) (a4 : Int32) (a5 : Int32) (h : Hp) : Option (Hp) :=
  (if a4 ≤ a5 then k183 h else bd (f_X5_howMany a2) (fun r_12 => (if r_12 ≤ a4 then k183 h else ck a5 720 (bd (f_X6_placeOf a1 (h.1 30 a5.toNatClampNeg) a2) (fun r_14 => ck r_14 3488 (jn2 (fun k177 => fx3 (L_X6_learn_28_89 a1 a2 a5 (h.1 29 r_14.toNatClampNeg) k177) FU a4 (0 : Int32) h) (fun (x4_16 : Int32) (h_17 : Hp) => self x4_16 (a5 + (1 : Int32)) h_17)))))))
def f_X6_learn_28 (h : Hp) (x1 : Int32) (x2 : Int32) : Option (Hp) :=
  bd (f_X5_inOrder x2) (fun r_1 => bd (f_X6_placeOf x1 r_1 x2) (fun r_3 => ck r_3 3488 ((if (h.1 29 r_3.toNatClampNeg) = 0 then bd (f_X6_listSteps_28 h x1 x2) (fun r_5 => bd (f_X6_placeOf x1 r_1 x2) (fun r_7 => ck r_7 3488 (nm (wB r_5 29 r_7 (1 : Int32)) (fun h_9 => ck (0 : Int32) 720 (nm (wI h_9 30 (0 : Int32) r_1) (fun h_10 => jn1 (fun k183 => fx3 (L_X6_learn_28_51 x1 x2 k183) FU (1 : Int32) (0 : Int32) h_10) (fun (h_11 : Hp) => some h_11))))))) else some h))))
def f_X6_farOf_28 (h : Hp) (x1 : Int32) (x2 : Int32) (x3 : Int32) : Option (Int32 × Hp) :=
  bd (f_X6_learn_28 h x1 x3) (fun r_1 => bd (f_X6_placeOf x1 x2 x3) (fun r_3 => ck r_3 3488 (some ((r_1.1 29 r_3.toNatClampNeg) - (1 : Int32), r_1))))
def L_X6_codeNearer_28_31 (h : Hp) (a1 : Int32) (a2 : Int32) (a3 : Int32) (a4 : Int32) (k114 : Int32 → Option (Int32 × Hp)) (self : Int32 → Int32 → Option (Int32 × Hp)) (a5 : Int32) (a6 : Int32) : Option (Int32 × Hp) :=
  (if (h.1 28 3) ≤ a6 then k114 a5 else ck a6 35 (bd (f_X5_rearranged a2 (h.1 31 a6.toNatClampNeg) a3) (fun r_8 => bd (f_X5_toCode r_8 a3) (fun r_10 => bd (f_X6_placeOf a1 r_8 a3) (fun r_12 => ck r_12 3488 (jn1 (fun k84 => (if a4 ≤ (h.1 29 r_12.toNatClampNeg) then k84 (0 : Int32) else k84 (1 : Int32))) (fun (z_14 : Int32) => (if z_14 = 0 then self a5 (a6 + (1 : Int32)) else (if a5 = (-1 : Int32) then self r_10 (a6 + (1 : Int32)) else (if a5 ≤ r_10 then self a5 (a6 + (1 : Int32)) else self r_10 (a6 + (1 : Int32))))))))))))
def f_X6_codeNearer_28 (h : Hp) (x1 : Int32) (x2 : Int32) (x3 : Int32) : Option (Int32 × Hp) :=
  bd (f_X6_learn_28 h x1 x3) (fun r_1 => bd (f_X6_listSteps_28 r_1 x1 x3) (fun r_3 => bd (f_X6_placeOf x1 x2 x3) (fun r_5 => ck r_5 3488 (jn1 (fun k114 => fx2 (L_X6_codeNearer_28_31 r_3 x1 x2 x3 (r_3.1 29 r_5.toNatClampNeg) k114) FU (-1 : Int32) (0 : Int32)) (fun (x5_7 : Int32) => some (x5_7, r_3))))))
def L_X6_countFar_28_25 (h : Hp) (a2 : Int32) (a3 : Int32) (a4 : Int32) (k59 : Int32 → Option (Int32 × Hp)) (self : Int32 → Int32 → Option (Int32 × Hp)) (a5 : Int32) (a6 : Int32) : Option (Int32 × Hp) :=
  bd (f_X5_howMany a3) (fun r_5 => (if r_5 ≤ a6 then k59 a5 else ck (a4 + a6) 3488 ((if ((h.1 29 (a4 + a6).toNatClampNeg) - (1 : Int32)) = a2 then self (a5 + (1 : Int32)) (a6 + (1 : Int32)) else self a5 (a6 + (1 : Int32))))))
def f_X6_countFar_28 (h : Hp) (x1 : Int32) (x2 : Int32) (x3 : Int32) : Option (Int32 × Hp) :=
  bd (f_X6_learn_28 h x1 x3) (fun r_1 => ck x3 7 (nm ((x1 * (872 : Int32)) + (fBEG x3.toNatClampNeg)) (fun y4_3 => jn1 (fun k59 => fx2 (L_X6_countFar_28_25 r_1 x2 x3 y4_3 k59) FU (0 : Int32) (0 : Int32)) (fun (x5_4 : Int32) => some (x5_4, r_1)))))
def f_X0_isLesser (x0 : Int32) (x1 : Int32) : Option (Int64) :=
  some (lshl (1 : Int64) (((6 : Int32) * x1) + x0))
def L_X2_waysTo_33_6 (h : Hp) (a1 : Int32) (a2 : Int64) (a4 : Int32) (k70 : Int32 → Option (Int32)) (self : Int32 → Int32 → Option (Int32)) (a5 : Int32) (a6 : Int32) : Option (Int32) :=
  (if a4 ≤ a6 then k70 a5 else nm (a1 &&& ((ishl (1 : Int32) a6) ^^^ (-1 : Int32))) (fun y7_2 => nm ((l2i (lushr a2 ((6 : Int32) * a6))) &&& (63 : Int32)) (fun y8_3 => (if y7_2 = a1 then self a5 (a6 + (1 : Int32)) else (if (y8_3 &&& (y7_2 ^^^ (-1 : Int32))) = 0 then ck y7_2 64 (nm (a5 + (h.1 34 y7_2.toNatClampNeg)) (fun y5_4 => self y5_4 (a6 + (1 : Int32)))) else self a5 (a6 + (1 : Int32)))))))
def f_X2_waysTo_33 (h : Hp) (x1 : Int32) (x2 : Int64) (x4 : Int32) : Option (Int32) :=
  jn1 (fun k70 => fx2 (L_X2_waysTo_33_6 h x1 x2 x4 k70) FU (0 : Int32) (0 : Int32)) (fun (x5_1 : Int32) => some x5_1)
def L_X2_countOf_33_18 (a1 : Int64) (a3 : Int64) (a5 : Int32) (a6 : Int32) (k62 : Hp → Option (Int32 × Hp)) (self : Int32 → Hp → Option (Int32 × Hp)) (a7 : Int32) (h : Hp) : Option (Int32 × Hp) :=
  (if a6 < a7 then k62 h else (if (lg_cmp ((lushr a1 a7) &&& (1 : Int64)) (0 : Int64)) = 0 then ck a7 64 (nm (wI h 34 a7 (0 : Int32)) (fun h_7 => self (a7 + (1 : Int32)) h_7)) else bd (f_X2_waysTo_33 h a7 a3 a5) (fun r_4 => ck a7 64 (nm (wI h 34 a7 r_4) (fun h_6 => self (a7 + (1 : Int32)) h_6)))))
def f_X2_countOf_33 (h : Hp) (x1 : Int64) (x3 : Int64) (x5 : Int32) : Option (Int32 × Hp) :=
  nm ((ishl (1 : Int32) x5) - (1 : Int32)) (fun y6_1 => ck (0 : Int32) 64 (nm (wI h 34 (0 : Int32) (1 : Int32)) (fun h_2 => jn1 (fun k62 => fx2 (L_X2_countOf_33_18 x1 x3 x5 y6_1 k62) FU (1 : Int32) h_2) (fun (h_3 : Hp) => ck y6_1 64 (some (h_3.1 34 y6_1.toNatClampNeg, h_3))))))
def f_X0_countOf_33 (h : Hp) (x1 : Int64) (x3 : Int32) : Option (Int32 × Hp) :=
  bd (f_X2_countOf_33 h (-1 : Int64) x1 x3) (fun r_1 => some (r_1.1, r_1.2))
def f_X0_answer_32 (h : Hp) (x1 : Int32) (x2 : Int32) (x3 : Int32) : Option (Int32 × Hp) :=
  bd (f_X0_isLesser x1 x2) (fun r_1 => nm ((h.2 32 0) ||| r_1) (fun y4_3 => bd (f_X0_isLesser x2 x1) (fun r_4 => nm ((h.2 32 0) ||| r_4) (fun y6_6 => bd (f_X0_countOf_33 h y4_3 x3) (fun r_7 => bd (f_X0_countOf_33 r_7.2 y6_6 x3) (fun r_9 => jn1 (fun k80 => (if r_7.1 = r_9.1 then (if x2 ≤ x1 then k80 (0 : Int32) else k80 (1 : Int32)) else (if r_7.1 ≤ r_9.1 then k80 (0 : Int32) else k80 (1 : Int32)))) (fun (z_11 : Int32) => (if z_11 = 0 then nm (wFL r_9.2 32 0 y6_6) (fun h_12 => ckz z_11 (some (z_11, h_12))) else nm (wFL r_9.2 32 0 y4_3) (fun h_13 => ckz z_11 (some (z_11, h_13)))))))))))
def f_X0_rowsLeft_32 (h : Hp) (x1 : Int32) : Option (Int32 × Hp) :=
  bd (f_X0_countOf_33 h (h.2 32 0) x1) (fun r_1 => some (r_1.1, r_1.2))
def f_X10_left (h : Hp) : Option (Int32 × Hp) :=
  bd (f_X0_rowsLeft_32 h (h.1 1 0)) (fun r_1 => some (r_1.1, r_1.2))
def L_X0_canSettle_33_38 (a1 : Int64) (a3 : Int32) (a4 : Int32) (a5 : Int32) (a6 : Int32) (rec : Hp → Int64 → Int32 → Int32 → Int32 → Option (Int32 × Hp)) (k127 : Hp → Option (Int32 × Hp)) (k135 : Hp → Option (Int32 × Hp)) (self : Int32 → Hp → Option (Int32 × Hp)) (a7 : Int32) (h : Hp) : Option (Int32 × Hp) :=
  (if a4 ≤ a7 then k135 h else bd (f_X0_isLesser a6 a7) (fun r_5 => nm (a1 ||| r_5) (fun y8_7 => bd (f_X0_isLesser a7 a6) (fun r_8 => nm (a1 ||| r_8) (fun y10_10 => bd (f_X0_countOf_33 h y8_7 a4) (fun r_11 => nm (a3 - r_11.1) (fun y13_13 => (if r_11.1 ≤ 0 then self (a7 + (1 : Int32)) r_11.2 else (if y13_13 ≤ 0 then self (a7 + (1 : Int32)) r_11.2 else bd (rec r_11.2 y8_7 r_11.1 a4 (a5 - (1 : Int32))) (fun r_14 => (if r_14.1 = 0 then self (a7 + (1 : Int32)) r_14.2 else bd (rec r_14.2 y10_10 y13_13 a4 (a5 - (1 : Int32))) (fun r_16 => (if r_16.1 = 0 then self (a7 + (1 : Int32)) r_16.2 else k127 r_16.2)))))))))))))
def L_X0_canSettle_33_25 (a1 : Int64) (a3 : Int32) (a4 : Int32) (a5 : Int32) (rec : Hp → Int64 → Int32 → Int32 → Int32 → Option (Int32 × Hp)) (k127 : Hp → Option (Int32 × Hp)) (k141 : Hp → Option (Int32 × Hp)) (self : Int32 → Hp → Option (Int32 × Hp)) (a6 : Int32) (h : Hp) : Option (Int32 × Hp) :=
  (if a4 ≤ a6 then k141 h else nm (a6 + (1 : Int32)) (fun y7_3 => jn1 (fun k135 => fx2 (L_X0_canSettle_33_38 a1 a3 a4 a5 a6 rec k127 k135) FU y7_3 h) (fun (h_4 : Hp) => self (a6 + (1 : Int32)) h_4)))
def f_X0_canSettle_33 : Nat → Hp → Int64 → Int32 → Int32 → Int32 → Option (Int32 × Hp)
  | 0, _, _, _, _, _ => none
  | d + 1, h, x1, x3, x4, x5 => (fun (rec : Hp → Int64 → Int32 → Int32 → Int32 → Option (Int32 × Hp)) => (if (1 : Int32) < x3 then (if x5 ≤ 0 then ckz (0 : Int32) (some ((0 : Int32), h)) else (if x3 ≤ (ishl (1 : Int32) x5) then jn1 (fun k141 => jn1 (fun k127 => fx2 (L_X0_canSettle_33_25 x1 x3 x4 x5 rec k127 k141) FU (0 : Int32) h) (fun (h_2 : Hp) => ckz (1 : Int32) (some ((1 : Int32), h_2)))) (fun (h_1 : Hp) => ckz (0 : Int32) (some ((0 : Int32), h_1))) else ckz (0 : Int32) (some ((0 : Int32), h)))) else ckz (1 : Int32) (some ((1 : Int32), h)))) (f_X0_canSettle_33 d)
def L_X0_fewestQuestions_32_8 (a1 : Int32) (a2 : Int32) (k36 : Int32 → Hp → Option (Int32 × Hp)) (k44 : Hp → Option (Int32 × Hp)) (self : Int32 → Hp → Option (Int32 × Hp)) (a3 : Int32) (h : Hp) : Option (Int32 × Hp) :=
  (if ((a1 * (a1 - (1 : Int32))) / (2 : Int32)) < a3 then k44 h else bd (f_X0_canSettle_33 8 h (h.2 32 0) a2 a1 a3) (fun r_6 => (if r_6.1 = 0 then self (a3 + (1 : Int32)) r_6.2 else k36 a3 r_6.2)))
def f_X0_fewestQuestions_32 (h : Hp) (x1 : Int32) : Option (Int32 × Hp) :=
  bd (f_X0_rowsLeft_32 h x1) (fun r_1 => jn1 (fun k44 => jn2 (fun k36 => fx2 (L_X0_fewestQuestions_32_8 x1 r_1.1 k36 k44) FU (0 : Int32) r_1.2) (fun (x3_4 : Int32) (h_5 : Hp) => some (x3_4, h_5))) (fun (h_3 : Hp) => some ((-1 : Int32), h_3)))
def f_X10_needed (h : Hp) : Option (Int32 × Hp) :=
  (if (h.1 1 0) ≤ (4 : Int32) then bd (f_X0_fewestQuestions_32 h (h.1 1 0)) (fun r_1 => some (r_1.1, r_1.2)) else some ((-1 : Int32), h))
