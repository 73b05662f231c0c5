/-! THE LAW FROM ITS ENTRY: all that is left is pure -/
def law_F (L : Nat) (xs : Nat → Int32) (self : Int32 → LWS → Option Unit) (i : Int32) (s : LWS) : Option Unit :=
  if (nI L - (4 : Int32)) < i then some () else ck i L ((if (xs i.toNatClampNeg &&& (63 : Int32)) = (0 : Int32) then lc_0 L xs i s (self (i + (4 : Int32))) else (if (xs i.toNatClampNeg &&& (63 : Int32)) = (1 : Int32) then lc_1 L xs i s (self (i + (4 : Int32))) else (if (xs i.toNatClampNeg &&& (63 : Int32)) = (2 : Int32) then lc_2 L xs i s (self (i + (4 : Int32))) else (if (xs i.toNatClampNeg &&& (63 : Int32)) = (3 : Int32) then lc_3 L xs i s (self (i + (4 : Int32))) else (if (xs i.toNatClampNeg &&& (63 : Int32)) = (4 : Int32) then lc_4 L xs i s (self (i + (4 : Int32))) else (if (xs i.toNatClampNeg &&& (63 : Int32)) = (5 : Int32) then lc_5 L xs i s (self (i + (4 : Int32))) else (if (xs i.toNatClampNeg &&& (63 : Int32)) = (6 : Int32) then lc_6 L xs i s (self (i + (4 : Int32))) else (if (xs i.toNatClampNeg &&& (63 : Int32)) = (7 : Int32) then lc_7 L xs i s (self (i + (4 : Int32))) else (if (xs i.toNatClampNeg &&& (63 : Int32)) = (8 : Int32) then lc_8 L xs i s (self (i + (4 : Int32))) else (if (xs i.toNatClampNeg &&& (63 : Int32)) = (9 : Int32) then lc_9 L xs i s (self (i + (4 : Int32))) else (if (xs i.toNatClampNeg &&& (63 : Int32)) = (10 : Int32) then lc_10 L xs i s (self (i + (4 : Int32))) else (if (xs i.toNatClampNeg &&& (63 : Int32)) = (11 : Int32) then lc_11 L xs i s (self (i + (4 : Int32))) else (if (xs i.toNatClampNeg &&& (63 : Int32)) = (12 : Int32) then lc_12 L xs i s (self (i + (4 : Int32))) else (if (xs i.toNatClampNeg &&& (63 : Int32)) = (13 : Int32) then lc_13 L xs i s (self (i + (4 : Int32))) else (if (xs i.toNatClampNeg &&& (63 : Int32)) = (14 : Int32) then lc_14 L xs i s (self (i + (4 : Int32))) else (if (xs i.toNatClampNeg &&& (63 : Int32)) = (15 : Int32) then lc_15 L xs i s (self (i + (4 : Int32))) else (if (xs i.toNatClampNeg &&& (63 : Int32)) = (16 : Int32) then lc_16 L xs i s (self (i + (4 : Int32))) else (if (xs i.toNatClampNeg &&& (63 : Int32)) = (17 : Int32) then lc_17 L xs i s (self (i + (4 : Int32))) else (if (xs i.toNatClampNeg &&& (63 : Int32)) = (18 : Int32) then lc_18 L xs i s (self (i + (4 : Int32))) else (if (xs i.toNatClampNeg &&& (63 : Int32)) = (19 : Int32) then lc_19 L xs i s (self (i + (4 : Int32))) else (if (xs i.toNatClampNeg &&& (63 : Int32)) = (20 : Int32) then lc_20 L xs i s (self (i + (4 : Int32))) else (if (xs i.toNatClampNeg &&& (63 : Int32)) = (21 : Int32) then lc_21 L xs i s (self (i + (4 : Int32))) else (if (xs i.toNatClampNeg &&& (63 : Int32)) = (22 : Int32) then lc_22 L xs i s (self (i + (4 : Int32))) else (if (xs i.toNatClampNeg &&& (63 : Int32)) = (23 : Int32) then lc_23 L xs i s (self (i + (4 : Int32))) else (if (xs i.toNatClampNeg &&& (63 : Int32)) = (24 : Int32) then lc_24 L xs i s (self (i + (4 : Int32))) else (if (xs i.toNatClampNeg &&& (63 : Int32)) = (25 : Int32) then lc_25 L xs i s (self (i + (4 : Int32))) else (if (xs i.toNatClampNeg &&& (63 : Int32)) = (26 : Int32) then lc_26 L xs i s (self (i + (4 : Int32))) else (if (xs i.toNatClampNeg &&& (63 : Int32)) = (27 : Int32) then lc_27 L xs i s (self (i + (4 : Int32))) else (if (xs i.toNatClampNeg &&& (63 : Int32)) = (28 : Int32) then lc_28 L xs i s (self (i + (4 : Int32))) else (if (xs i.toNatClampNeg &&& (63 : Int32)) = (29 : Int32) then lc_29 L xs i s (self (i + (4 : Int32))) else (if (xs i.toNatClampNeg &&& (63 : Int32)) = (30 : Int32) then lc_30 L xs i s (self (i + (4 : Int32))) else (if (xs i.toNatClampNeg &&& (63 : Int32)) = (31 : Int32) then lc_31 L xs i s (self (i + (4 : Int32))) else (if (xs i.toNatClampNeg &&& (63 : Int32)) = (32 : Int32) then lc_32 L xs i s (self (i + (4 : Int32))) else (if (xs i.toNatClampNeg &&& (63 : Int32)) = (33 : Int32) then lc_33 L xs i s (self (i + (4 : Int32))) else (if (xs i.toNatClampNeg &&& (63 : Int32)) = (34 : Int32) then lc_34 L xs i s (self (i + (4 : Int32))) else (if (xs i.toNatClampNeg &&& (63 : Int32)) = (35 : Int32) then lc_35 L xs i s (self (i + (4 : Int32))) else (if (xs i.toNatClampNeg &&& (63 : Int32)) = (36 : Int32) then lc_36 L xs i s (self (i + (4 : Int32))) else (if (xs i.toNatClampNeg &&& (63 : Int32)) = (37 : Int32) then lc_37 L xs i s (self (i + (4 : Int32))) else (if (xs i.toNatClampNeg &&& (63 : Int32)) = (38 : Int32) then lc_38 L xs i s (self (i + (4 : Int32))) else (if (xs i.toNatClampNeg &&& (63 : Int32)) = (39 : Int32) then lc_39 L xs i s (self (i + (4 : Int32))) else self (i + (4 : Int32)) s)))))))))))))))))))))))))))))))))))))))))
def sL0 : LWS := (hC0, hM1, fun _ => 0)
def lawP (L : Nat) (xs : Nat → Int32) : Option Unit := fx2 (law_F L xs) FU (0 : Int32) sL0
def K0 : Nat := 55
def N0 : Nat := 32515
-- the loop, with the room that it takes: j turns are done, i = 4 j
set_option maxRecDepth 100000 in
set_option maxHeartbeats 4000000 in
theorem law_loop (l : Launch) (D : va_G) (ad : Nat → Nat) (cy : Nat → ClassId) (hfl : l.stackTraces = false) {X : Cx} {R : Room} {b L : Nat} {xs : Nat → Int32} (hL : L ≤ 2048) (O : Ok l D cy X cL_law RL 8 R) (hN : NCX X) (hX : SX X b L xs) (hRf : 300 ≤ R.frames ∧ 9000 ≤ R.locals) {k0 n0 : Nat} (hk : k0 + 8 * 513 ≤ R.cells ∧ n0 + 48 * 513 ≤ R.slots) (hend : ∀ (k n : Nat) (s : LWS) (lv : List (Nat × Value)), k ≤ R.cells → n ≤ R.slots → G l D X 8 (LW ad cy) k n s 1949 lv []) :
    ∀ (N j : Nat) (s : LWS) (i : Int32), i = nI (4 * j) → 4 * j ≤ L + 4 → fx2 (law_F L xs) N i s = some () → G l D X 8 (LW ad cy) (k0 + 8 * j) (n0 + 48 * j) s 23 [(0, .ref b), (1, .ref (ad 0)), (2, .ref (ad 35)), (3, .ref (ad 54)), (4, .int i)] [] := by
  intro N
  induction N with
  | zero => intro j s i hi hj E; cases E
  | succ N ih =>
    intro j s i hi hj E
    have hjb : j ≤ 513 := by omega
    rw [fx2] at E
    unfold law_F at E
    refine g_iload (pc' := 25) O ⟨dL_law_23, rfl⟩ (q := 4) rfl ?_
    refine g_aload_n (pc' := 26) O ⟨dL_law_25, rfl⟩ (q := 0) rfl rfl ?_
    refine g_slen (pc' := 27) O ⟨dL_law_26, rfl⟩ hX ?_
    refine g_iconst (pc' := 28) O ⟨dL_law_27, rfl⟩ (v := (4 : Int32)) rfl ?_
    refine g_isub (pc' := 29) O ⟨dL_law_28, rfl⟩ ?_
    refine g_icmp_gt (pc' := 32) O ⟨dL_law_29, rfl⟩ E (tgt := 1949) (by decide) (fun E => ?_) (fun E => ?_)
    · exact hend _ _ _ _ (by omega) (by omega)
    · have hlt : 4 * (j + 1) ≤ L + 4 := by
        have h1 := (ck_of E).1
        rw [hi] at h1
        have h2 := (vp_in_iff.mp h1).2
        rw [nI_toInt (by omega)] at h2
        omega
      have hnext : ∀ s1 : LWS, fx2 (law_F L xs) N (i + (4 : Int32)) s1 = some () → G l D X 8 (LW ad cy) (k0 + 8 * j + 8) (n0 + 48 * j + 48) s1 1943 [(0, .ref b), (1, .ref (ad 0)), (2, .ref (ad 35)), (3, .ref (ad 54)), (4, .int i)] [] := by
        intro s1 E1
        refine g_iinc (pc' := 1946) O ⟨dL_law_1943, rfl⟩ (q := 4) (v := i + (4 : Int32)) (lv' := [(4, .int (i + (4 : Int32))), (0, .ref b), (1, .ref (ad 0)), (2, .ref (ad 35)), (3, .ref (ad 54))]) rfl rfl (by decide) rfl ?_
        refine g_goto (pc' := 1949) O ⟨dL_law_1946, rfl⟩ (tgt := 23) (by decide) ?_
        refine g_sub (lv' := [(0, .ref b), (1, .ref (ad 0)), (2, .ref (ad 35)), (3, .ref (ad 54)), (4, .int (i + (4 : Int32)))]) [1, 2, 3, 4, 0] rfl ?_
        have e := ih (j + 1) s1 (i + (4 : Int32)) (by rw [hi]; exact nI_add (4 * j) 4) hlt E1
        exact e
      have hkk : k0 + 8 * j + 8 ≤ R.cells ∧ n0 + 48 * j + 48 ≤ R.slots := ⟨by omega, by omega⟩
      refine g_aload_n (pc' := 33) O ⟨dL_law_32, rfl⟩ (q := 0) rfl rfl ?_
      refine g_iload (pc' := 35) O ⟨dL_law_33, rfl⟩ (q := 4) rfl ?_
      refine g_sld (pc' := 36) O ⟨dL_law_35, rfl⟩ hX E (fun E => ?_)
      refine g_bipush (pc' := 38) O ⟨dL_law_36, rfl⟩ (v := (63 : Int32)) rfl ?_
      refine g_iand (pc' := 39) O ⟨dL_law_38, rfl⟩ ?_
      refine g_tab (pc' := 212) O ⟨dL_law_39, rfl⟩ (v := (0 : Int32)) (tgt := 212) E ⟨by decide, by decide, rfl, by decide⟩ (fun E => ?_) (fun n0 E => ?_)
      · exact tc_0 l D ad cy hfl O hN hX hRf hkk E hnext
      refine g_tab (pc' := 212) O ⟨dL_law_39, rfl⟩ (v := (1 : Int32)) (tgt := 268) E ⟨by decide, by decide, rfl, by decide⟩ (fun E => ?_) (fun n1 E => ?_)
      · exact tc_1 l D ad cy hfl O hN hX hRf hkk E hnext
      refine g_tab (pc' := 212) O ⟨dL_law_39, rfl⟩ (v := (2 : Int32)) (tgt := 336) E ⟨by decide, by decide, rfl, by decide⟩ (fun E => ?_) (fun n2 E => ?_)
      · exact tc_2 l D ad cy hfl O hN hX hRf hkk E hnext
      refine g_tab (pc' := 212) O ⟨dL_law_39, rfl⟩ (v := (3 : Int32)) (tgt := 380) E ⟨by decide, by decide, rfl, by decide⟩ (fun E => ?_) (fun n3 E => ?_)
      · exact tc_3 l D ad cy hfl O hN hX hRf hkk E hnext
      refine g_tab (pc' := 212) O ⟨dL_law_39, rfl⟩ (v := (4 : Int32)) (tgt := 436) E ⟨by decide, by decide, rfl, by decide⟩ (fun E => ?_) (fun n4 E => ?_)
      · exact tc_4 l D ad cy hfl O hN hX hRf hkk E hnext
      refine g_tab (pc' := 212) O ⟨dL_law_39, rfl⟩ (v := (5 : Int32)) (tgt := 447) E ⟨by decide, by decide, rfl, by decide⟩ (fun E => ?_) (fun n5 E => ?_)
      · exact tc_5 l D ad cy hfl O hN hX hRf hkk E hnext
      refine g_tab (pc' := 212) O ⟨dL_law_39, rfl⟩ (v := (6 : Int32)) (tgt := 460) E ⟨by decide, by decide, rfl, by decide⟩ (fun E => ?_) (fun n6 E => ?_)
      · exact tc_6 l D ad cy hfl O hN hX hRf hkk E hnext
      refine g_tab (pc' := 212) O ⟨dL_law_39, rfl⟩ (v := (7 : Int32)) (tgt := 473) E ⟨by decide, by decide, rfl, by decide⟩ (fun E => ?_) (fun n7 E => ?_)
      · exact tc_7 l D ad cy hfl O hN hX hRf hkk E hnext
      refine g_tab (pc' := 212) O ⟨dL_law_39, rfl⟩ (v := (8 : Int32)) (tgt := 529) E ⟨by decide, by decide, rfl, by decide⟩ (fun E => ?_) (fun n8 E => ?_)
      · exact tc_8 l D ad cy hfl O hN hX hRf hkk E hnext
      refine g_tab (pc' := 212) O ⟨dL_law_39, rfl⟩ (v := (9 : Int32)) (tgt := 597) E ⟨by decide, by decide, rfl, by decide⟩ (fun E => ?_) (fun n9 E => ?_)
      · exact tc_9 l D ad cy hfl O hN hX hRf hkk E hnext
      refine g_tab (pc' := 212) O ⟨dL_law_39, rfl⟩ (v := (10 : Int32)) (tgt := 653) E ⟨by decide, by decide, rfl, by decide⟩ (fun E => ?_) (fun n10 E => ?_)
      · exact tc_10 l D ad cy hfl O hN hX hRf hkk E hnext
      refine g_tab (pc' := 212) O ⟨dL_law_39, rfl⟩ (v := (11 : Int32)) (tgt := 753) E ⟨by decide, by decide, rfl, by decide⟩ (fun E => ?_) (fun n11 E => ?_)
      · exact tc_11 l D ad cy hfl O hN hX hRf hkk E hnext
      refine g_tab (pc' := 212) O ⟨dL_law_39, rfl⟩ (v := (12 : Int32)) (tgt := 766) E ⟨by decide, by decide, rfl, by decide⟩ (fun E => ?_) (fun n12 E => ?_)
      · exact tc_12 l D ad cy hfl O hN hX hRf hkk E hnext
      refine g_tab (pc' := 212) O ⟨dL_law_39, rfl⟩ (v := (13 : Int32)) (tgt := 779) E ⟨by decide, by decide, rfl, by decide⟩ (fun E => ?_) (fun n13 E => ?_)
      · exact tc_13 l D ad cy hfl O hN hX hRf hkk E hnext
      refine g_tab (pc' := 212) O ⟨dL_law_39, rfl⟩ (v := (14 : Int32)) (tgt := 823) E ⟨by decide, by decide, rfl, by decide⟩ (fun E => ?_) (fun n14 E => ?_)
      · exact tc_14 l D ad cy hfl O hN hX hRf hkk E hnext
      refine g_tab (pc' := 212) O ⟨dL_law_39, rfl⟩ (v := (15 : Int32)) (tgt := 879) E ⟨by decide, by decide, rfl, by decide⟩ (fun E => ?_) (fun n15 E => ?_)
      · exact tc_15 l D ad cy hfl O hN hX hRf hkk E hnext
      refine g_tab (pc' := 212) O ⟨dL_law_39, rfl⟩ (v := (16 : Int32)) (tgt := 893) E ⟨by decide, by decide, rfl, by decide⟩ (fun E => ?_) (fun n16 E => ?_)
      · exact tc_16 l D ad cy hfl O hN hX hRf hkk E hnext
      refine g_tab (pc' := 212) O ⟨dL_law_39, rfl⟩ (v := (17 : Int32)) (tgt := 906) E ⟨by decide, by decide, rfl, by decide⟩ (fun E => ?_) (fun n17 E => ?_)
      · exact tc_17 l D ad cy hfl O hN hX hRf hkk E hnext
      refine g_tab (pc' := 212) O ⟨dL_law_39, rfl⟩ (v := (18 : Int32)) (tgt := 919) E ⟨by decide, by decide, rfl, by decide⟩ (fun E => ?_) (fun n18 E => ?_)
      · exact tc_18 l D ad cy hfl O hN hX hRf hkk E hnext
      refine g_tab (pc' := 212) O ⟨dL_law_39, rfl⟩ (v := (19 : Int32)) (tgt := 975) E ⟨by decide, by decide, rfl, by decide⟩ (fun E => ?_) (fun n19 E => ?_)
      · exact tc_19 l D ad cy hfl O hN hX hRf hkk E hnext
      refine g_tab (pc' := 212) O ⟨dL_law_39, rfl⟩ (v := (20 : Int32)) (tgt := 1031) E ⟨by decide, by decide, rfl, by decide⟩ (fun E => ?_) (fun n20 E => ?_)
      · exact tc_20 l D ad cy hfl O hN hX hRf hkk E hnext
      refine g_tab (pc' := 212) O ⟨dL_law_39, rfl⟩ (v := (21 : Int32)) (tgt := 1094) E ⟨by decide, by decide, rfl, by decide⟩ (fun E => ?_) (fun n21 E => ?_)
      · exact tc_21 l D ad cy hfl O hN hX hRf hkk E hnext
      refine g_tab (pc' := 212) O ⟨dL_law_39, rfl⟩ (v := (22 : Int32)) (tgt := 1157) E ⟨by decide, by decide, rfl, by decide⟩ (fun E => ?_) (fun n22 E => ?_)
      · exact tc_22 l D ad cy hfl O hN hX hRf hkk E hnext
      refine g_tab (pc' := 212) O ⟨dL_law_39, rfl⟩ (v := (23 : Int32)) (tgt := 1170) E ⟨by decide, by decide, rfl, by decide⟩ (fun E => ?_) (fun n23 E => ?_)
      · exact tc_23 l D ad cy hfl O hN hX hRf hkk E hnext
      refine g_tab (pc' := 212) O ⟨dL_law_39, rfl⟩ (v := (24 : Int32)) (tgt := 1183) E ⟨by decide, by decide, rfl, by decide⟩ (fun E => ?_) (fun n24 E => ?_)
      · exact tc_24 l D ad cy hfl O hN hX hRf hkk E hnext
      refine g_tab (pc' := 212) O ⟨dL_law_39, rfl⟩ (v := (25 : Int32)) (tgt := 1239) E ⟨by decide, by decide, rfl, by decide⟩ (fun E => ?_) (fun n25 E => ?_)
      · exact tc_25 l D ad cy hfl O hN hX hRf hkk E hnext
      refine g_tab (pc' := 212) O ⟨dL_law_39, rfl⟩ (v := (26 : Int32)) (tgt := 1295) E ⟨by decide, by decide, rfl, by decide⟩ (fun E => ?_) (fun n26 E => ?_)
      · exact tc_26 l D ad cy hfl O hN hX hRf hkk E hnext
      refine g_tab (pc' := 212) O ⟨dL_law_39, rfl⟩ (v := (27 : Int32)) (tgt := 1351) E ⟨by decide, by decide, rfl, by decide⟩ (fun E => ?_) (fun n27 E => ?_)
      · exact tc_27 l D ad cy hfl O hN hX hRf hkk E hnext
      refine g_tab (pc' := 212) O ⟨dL_law_39, rfl⟩ (v := (28 : Int32)) (tgt := 1407) E ⟨by decide, by decide, rfl, by decide⟩ (fun E => ?_) (fun n28 E => ?_)
      · exact tc_28 l D ad cy hfl O hN hX hRf hkk E hnext
      refine g_tab (pc' := 212) O ⟨dL_law_39, rfl⟩ (v := (29 : Int32)) (tgt := 1420) E ⟨by decide, by decide, rfl, by decide⟩ (fun E => ?_) (fun n29 E => ?_)
      · exact tc_29 l D ad cy hfl O hN hX hRf hkk E hnext
      refine g_tab (pc' := 212) O ⟨dL_law_39, rfl⟩ (v := (30 : Int32)) (tgt := 1488) E ⟨by decide, by decide, rfl, by decide⟩ (fun E => ?_) (fun n30 E => ?_)
      · exact tc_30 l D ad cy hfl O hN hX hRf hkk E hnext
      refine g_tab (pc' := 212) O ⟨dL_law_39, rfl⟩ (v := (31 : Int32)) (tgt := 1555) E ⟨by decide, by decide, rfl, by decide⟩ (fun E => ?_) (fun n31 E => ?_)
      · exact tc_31 l D ad cy hfl O hN hX hRf hkk E hnext
      refine g_tab (pc' := 212) O ⟨dL_law_39, rfl⟩ (v := (32 : Int32)) (tgt := 1612) E ⟨by decide, by decide, rfl, by decide⟩ (fun E => ?_) (fun n32 E => ?_)
      · exact tc_32 l D ad cy hfl O hN hX hRf hkk E hnext
      refine g_tab (pc' := 212) O ⟨dL_law_39, rfl⟩ (v := (33 : Int32)) (tgt := 1625) E ⟨by decide, by decide, rfl, by decide⟩ (fun E => ?_) (fun n33 E => ?_)
      · exact tc_33 l D ad cy hfl O hN hX hRf hkk E hnext
      refine g_tab (pc' := 212) O ⟨dL_law_39, rfl⟩ (v := (34 : Int32)) (tgt := 1638) E ⟨by decide, by decide, rfl, by decide⟩ (fun E => ?_) (fun n34 E => ?_)
      · exact tc_34 l D ad cy hfl O hN hX hRf hkk E hnext
      refine g_tab (pc' := 212) O ⟨dL_law_39, rfl⟩ (v := (35 : Int32)) (tgt := 1706) E ⟨by decide, by decide, rfl, by decide⟩ (fun E => ?_) (fun n35 E => ?_)
      · exact tc_35 l D ad cy hfl O hN hX hRf hkk E hnext
      refine g_tab (pc' := 212) O ⟨dL_law_39, rfl⟩ (v := (36 : Int32)) (tgt := 1774) E ⟨by decide, by decide, rfl, by decide⟩ (fun E => ?_) (fun n36 E => ?_)
      · exact tc_36 l D ad cy hfl O hN hX hRf hkk E hnext
      refine g_tab (pc' := 212) O ⟨dL_law_39, rfl⟩ (v := (37 : Int32)) (tgt := 1842) E ⟨by decide, by decide, rfl, by decide⟩ (fun E => ?_) (fun n37 E => ?_)
      · exact tc_37 l D ad cy hfl O hN hX hRf hkk E hnext
      refine g_tab (pc' := 212) O ⟨dL_law_39, rfl⟩ (v := (38 : Int32)) (tgt := 1917) E ⟨by decide, by decide, rfl, by decide⟩ (fun E => ?_) (fun n38 E => ?_)
      · exact tc_38 l D ad cy hfl O hN hX hRf hkk E hnext
      refine g_tab (pc' := 212) O ⟨dL_law_39, rfl⟩ (v := (39 : Int32)) (tgt := 1930) E ⟨by decide, by decide, rfl, by decide⟩ (fun E => ?_) (fun n39 E => ?_)
      · exact tc_39 l D ad cy hfl O hN hX hRf hkk E hnext
      have m0 := neI (z := 0) n0 (by decide)
      have m1 := neI (z := 1) n1 (by decide)
      have m2 := neI (z := 2) n2 (by decide)
      have m3 := neI (z := 3) n3 (by decide)
      have m4 := neI (z := 4) n4 (by decide)
      have m5 := neI (z := 5) n5 (by decide)
      have m6 := neI (z := 6) n6 (by decide)
      have m7 := neI (z := 7) n7 (by decide)
      have m8 := neI (z := 8) n8 (by decide)
      have m9 := neI (z := 9) n9 (by decide)
      have m10 := neI (z := 10) n10 (by decide)
      have m11 := neI (z := 11) n11 (by decide)
      have m12 := neI (z := 12) n12 (by decide)
      have m13 := neI (z := 13) n13 (by decide)
      have m14 := neI (z := 14) n14 (by decide)
      have m15 := neI (z := 15) n15 (by decide)
      have m16 := neI (z := 16) n16 (by decide)
      have m17 := neI (z := 17) n17 (by decide)
      have m18 := neI (z := 18) n18 (by decide)
      have m19 := neI (z := 19) n19 (by decide)
      have m20 := neI (z := 20) n20 (by decide)
      have m21 := neI (z := 21) n21 (by decide)
      have m22 := neI (z := 22) n22 (by decide)
      have m23 := neI (z := 23) n23 (by decide)
      have m24 := neI (z := 24) n24 (by decide)
      have m25 := neI (z := 25) n25 (by decide)
      have m26 := neI (z := 26) n26 (by decide)
      have m27 := neI (z := 27) n27 (by decide)
      have m28 := neI (z := 28) n28 (by decide)
      have m29 := neI (z := 29) n29 (by decide)
      have m30 := neI (z := 30) n30 (by decide)
      have m31 := neI (z := 31) n31 (by decide)
      have m32 := neI (z := 32) n32 (by decide)
      have m33 := neI (z := 33) n33 (by decide)
      have m34 := neI (z := 34) n34 (by decide)
      have m35 := neI (z := 35) n35 (by decide)
      have m36 := neI (z := 36) n36 (by decide)
      have m37 := neI (z := 37) n37 (by decide)
      have m38 := neI (z := 38) n38 (by decide)
      have m39 := neI (z := 39) n39 (by decide)
      refine g_tabD (pc' := 212) O ⟨dL_law_39, rfl⟩ (tgt := 1943) (by omega) (by decide) ?_
      exact g_widen (by omega) (by omega) (hnext s E)
set_option maxRecDepth 100000 in
set_option maxHeartbeats 4000000 in
theorem law_head (l : Launch) (D : va_G) (cy : Nat → ClassId) (hfl : l.stackTraces = false) {X : Cx} {b L : Nat} {xs : Nat → Int32} (hL : L ≤ 2048) (O : Ok l D cy X cL_law RL 8 room_1) (hN : NCX X) (hX : SX X b L xs) (E : lawP L xs = some ()) (hend : ∀ (ad : Nat → Nat) (k n : Nat) (s : LWS) (lv : List (Nat × Value)), k ≤ room_1.cells → n ≤ room_1.slots → G l D X 8 (LW ad cy) k n s 1949 lv []) : G l D X 8 WI 0 0 [] 0 [(0, .ref b)] [] := by
  refine g_new (ci := 9) (pc' := 3) O ⟨dL_law_0, rfl⟩ inU_RX10 tyX10_ok rfl kw_81 kw_82 kw_60 (fs := [.null, .null, .null, .null, .null, .null, .null, .null, .null]) (fun j hj => by rcases (show j = 0 ∨ j = 1 ∨ j = 2 ∨ j = 3 ∨ j = 4 ∨ j = 5 ∨ j = 6 ∨ j = 7 ∨ j = 8 by omega) with rfl | rfl | rfl | rfl | rfl | rfl | rfl | rfl | rfl <;> rfl) ⟨Nat.le_of_ble_eq_true rfl, Nat.le_of_ble_eq_true rfl⟩ (fun q1 => ?_)
  show G l D X 8 WI 1 9 [(q1, .inr (9, [.null, .null, .null, .null, .null, .null, .null, .null, .null]))] 3 [(0, .ref b)] [.ref q1]
  refine g_dup (pc' := 4) O ⟨dL_law_3, rfl⟩ rfl ?_
  refine g_C (pc' := 7) O ⟨dL_law_4, rfl⟩ (c_X10_init l D cy q1) (wc := [(q1, .inr (9, [.null, .null, .null, .null, .null, .null, .null, .null, .null]))]) (wr := []) [0] [] rfl rfl rfl (by decide) (by decide) (by decide) rfl kw_85 kw_60 kw_83 kw_84 hd_X10_init ⟨Nat.le_of_ble_eq_true rfl, Nat.le_of_ble_eq_true rfl⟩ ⟨Nat.le_of_ble_eq_true rfl, Nat.le_of_ble_eq_true rfl⟩ (Nat.le_of_ble_eq_true rfl) (fun u hu => ?_)
  obtain ⟨ad1, rfl, rfl⟩ := sh_class hu
  show G l D X 8 WI 35 6177 (WC ad1 cy hC0) 7 [(0, .ref b)] [.ref (ad1 0)]
  refine g_astore_n (pc' := 8) O ⟨dL_law_7, rfl⟩ (lv' := [(1, .ref (ad1 0)), (0, .ref b)]) rfl (by decide) rfl ?_
  refine g_new (ci := 10) (pc' := 11) O ⟨dL_law_8, rfl⟩ inU_RX11 tyX11_ok rfl kw_1061 kw_1062 kw_70 (fs := [.int 0, .int 0, .int 0, .null, .null, .null, .null, .int 0, .null, .null, .null, .int 0, .null, .null, .int 0, .null, .null, .null, .null, .int 0, .null, .null, .null, .int 0, .null, .null]) (fun j hj => by rcases (show j = 0 ∨ j = 1 ∨ j = 2 ∨ j = 3 ∨ j = 4 ∨ j = 5 ∨ j = 6 ∨ j = 7 ∨ j = 8 ∨ j = 9 ∨ j = 10 ∨ j = 11 ∨ j = 12 ∨ j = 13 ∨ j = 14 ∨ j = 15 ∨ j = 16 ∨ j = 17 ∨ j = 18 ∨ j = 19 ∨ j = 20 ∨ j = 21 ∨ j = 22 ∨ j = 23 ∨ j = 24 ∨ j = 25 by omega) with rfl | rfl | rfl | rfl | rfl | rfl | rfl | rfl | rfl | rfl | rfl | rfl | rfl | rfl | rfl | rfl | rfl | rfl | rfl | rfl | rfl | rfl | rfl | rfl | rfl | rfl <;> rfl) ⟨Nat.le_of_ble_eq_true rfl, Nat.le_of_ble_eq_true rfl⟩ (fun q2 => ?_)
  show G l D X 8 WI 36 6203 (WC ad1 cy hC0 ++ [(q2, .inr (10, [.int 0, .int 0, .int 0, .null, .null, .null, .null, .int 0, .null, .null, .null, .int 0, .null, .null, .int 0, .null, .null, .null, .null, .int 0, .null, .null, .null, .int 0, .null, .null]))]) 11 [(1, .ref (ad1 0)), (0, .ref b)] [.ref q2]
  refine g_dup (pc' := 12) O ⟨dL_law_11, rfl⟩ rfl ?_
  refine g_C (pc' := 15) O ⟨dL_law_12, rfl⟩ (c_X11_init l D cy q2) (wc := [(q2, .inr (10, [.int 0, .int 0, .int 0, .null, .null, .null, .null, .int 0, .null, .null, .null, .int 0, .null, .null, .int 0, .null, .null, .null, .null, .int 0, .null, .null, .null, .int 0, .null, .null]))]) (wr := WC ad1 cy hC0) [35] (List.range 35) rfl rfl rfl (by decide) (by decide) (by decide) rfl kw_1065 kw_70 kw_1063 kw_1064 hd_X11_init ⟨Nat.le_of_ble_eq_true rfl, Nat.le_of_ble_eq_true rfl⟩ ⟨Nat.le_of_ble_eq_true rfl, Nat.le_of_ble_eq_true rfl⟩ (Nat.le_of_ble_eq_true rfl) (fun u hu => ?_)
  obtain ⟨ad2, rfl, rfl⟩ := hu
  show G l D X 8 WI 54 32514 (WC ad1 cy hC0 ++ WM ad2 cy hM1) 15 [(1, .ref (ad1 0)), (0, .ref b)] [.ref (ad2 0)]
  refine g_astore_n (pc' := 16) O ⟨dL_law_15, rfl⟩ (lv' := [(2, .ref (ad2 0)), (1, .ref (ad1 0)), (0, .ref b)]) rfl (by decide) rfl ?_
  refine g_iconst (pc' := 17) O ⟨dL_law_16, rfl⟩ (v := (1 : Int32)) rfl ?_
  refine g_newa (pc' := 19) O ⟨dL_law_17, rfl⟩ (N' := 1) (a0 := .inr (.inl (fun _ => 0))) (t0 := 1) kw_162 rfl (fun _ _ => rfl) rfl (fun _ => rfl) (by decide) (by decide) (by decide) ⟨Nat.le_of_ble_eq_true rfl, Nat.le_of_ble_eq_true rfl⟩ (fun q3 => ?_)
  obtain ⟨ad, had⟩ : ∃ ad : Nat → Nat, ad = fun k => if k < 35 then ad1 k else if k < 54 then ad2 (k - 35) else q3 := ⟨_, rfl⟩
  have e1 : ad1 0 = ad 0 := by rw [had]; rfl
  have e2 : ad2 0 = ad 35 := by rw [had]; rfl
  have e3 : q3 = ad 54 := by rw [had]; rfl
  have eW : LW ad cy sL0 = (WC ad1 cy hC0 ++ WM ad2 cy hM1) ++ [(q3, .inl (cy 1, 1, .inr (.inl (fun _ => 0))))] := by rw [had]; rfl
  show G l D X 8 WI 55 32515 ((WC ad1 cy hC0 ++ WM ad2 cy hM1) ++ [(q3, .inl (cy 1, 1, .inr (.inl (fun _ => 0))))]) 19 [(2, .ref (ad2 0)), (1, .ref (ad1 0)), (0, .ref b)] [.ref q3]
  refine g_conv (wf := LW ad cy) (h := sL0) eW ?_
  rw [e1, e2, e3]
  refine g_astore_n (pc' := 20) O ⟨dL_law_19, rfl⟩ (lv' := [(3, .ref (ad 54)), (2, .ref (ad 35)), (1, .ref (ad 0)), (0, .ref b)]) rfl (by decide) rfl ?_
  refine g_iconst (pc' := 21) O ⟨dL_law_20, rfl⟩ (v := (0 : Int32)) rfl ?_
  refine g_istore (pc' := 23) O ⟨dL_law_21, rfl⟩ (lv' := [(4, .int (0 : Int32)), (3, .ref (ad 54)), (2, .ref (ad 35)), (1, .ref (ad 0)), (0, .ref b)]) (by decide) rfl ?_
  refine g_sub (lv' := [(0, .ref b), (1, .ref (ad 0)), (2, .ref (ad 35)), (3, .ref (ad 54)), (4, .int (0 : Int32))]) [4, 3, 2, 1, 0] rfl ?_
  exact law_loop l D ad cy hfl hL O hN hX ⟨Nat.le_of_ble_eq_true rfl, Nat.le_of_ble_eq_true rfl⟩ (k0 := 55) (n0 := 32515) ⟨Nat.le_of_ble_eq_true rfl, Nat.le_of_ble_eq_true rfl⟩ (hend ad) FU 0 sL0 0 nI_0.symm (by omega) E
set_option maxRecDepth 100000 in
set_option maxHeartbeats 4000000 in
theorem whole_from (hpure : ∀ (L : Nat) (xs : Nat → Int32), L ≤ 2048 → lawP L xs = some ()) {p : Program} {e : Env} {s : State} {m : MethodId} {below : List Frame} {meth : Method} {c : Code} (l : Launch) (hflags : l.flags = flags0) {b L : Nat} {xs : Nat → Int32} (hL : L ≤ 2048) (C0 : lw_At p s m meth c b L xs) : W p l e room_1 s m #[Value.ref b] below meth c s.heap [] 0 0 (lw_Z below #[Value.ref b] s) (entryFrame m ([Value.ref b] : List Value).toArray 8) := by
  obtain ⟨D, cy, hK⟩ := know_start C0
  have hfl : l.stackTraces = false := by
    unfold Launch.stackTraces
    rw [hflags]
    decide +kernel
  have hE := env_start C0
  have hN := ncp_start C0
  obtain ⟨hx, hb, hr, hml, hown, hts, hX, hbl, hlocks, hgv⟩ := id C0
  have hl := lv_entry ([Value.ref b]) (n := 8) (Nat.le_of_ble_eq_true rfl)
  rw [lg_entry_eq]
  refine law_head l D cy hfl (X := (p, e, room_1, s, m, #[Value.ref b], below, meth, c, lw_Z below #[Value.ref b] s, lwA s)) hL ⟨rfl, hx, hb, hml, hown, fun w hw => hts w (List.mem_filter.mp hw).1, hK, fun q hq => hq, hlocks, hE⟩ hN ⟨hX, hbl, Nat.not_le.mpr hbl⟩ (hpure L xs hL) ?_ s.heap [] _ (fun k q h => by simp at h) ⟨fun i j p q h => by simp at h, fun k q h => by simp at h⟩ va_S.rf hl
  intro ad k n s1 lv hk hn H locs ls hP hD hS hl1
  refine lv_iconst (v := 1) hx hb dL_law_1949 (by decide) ?_
  refine va_forget (fun q hq => hS.2.2 q hq) ?_
  refine W.widen (k := 601024) (n := 7293034) hk hn ?_
  exact lw_ret hx hb hr hlocks dL_law_1950
