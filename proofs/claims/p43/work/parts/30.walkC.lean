/-! WALKS, laid by program: each method does what its pure program says -/
set_option maxRecDepth 100000 in
set_option maxHeartbeats 4000000 in
theorem t_X6_farOf_28 (l : Launch) (D : va_G) (ad : Nat → Nat) (cy : Nat → ClassId) {h : Hp} {x1 : Int32} {x2 : Int32} {x3 : Int32} {o : Int32 × Hp} (E : f_X6_farOf_28 h x1 x2 x3 = some o) : CtI l D cy (WC ad cy) yX6_farOf cX6_farOf 4 .int 5 120 [.ref (ad 28), .int x1, .int x2, .int x3] h o.1 o.2 := by
  refine sI (own := RX6) rfl rfl (Nat.le_of_ble_eq_true rfl) (fun X O hret => ?_)
  show G l D X 4 (WC ad cy) 0 0 h 0 [(0, .ref (ad 28)), (1, .int x1), (2, .int x2), (3, .int x3)] []
  unfold f_X6_farOf_28 at E
  refine g_aload_n (pc' := 1) O ⟨dX6_farOf_0, rfl⟩ (q := 0) rfl rfl ?_
  refine g_iload_n (pc' := 2) O ⟨dX6_farOf_1, rfl⟩ (q := 1) rfl rfl ?_
  refine g_iload_n (pc' := 3) O ⟨dX6_farOf_2, rfl⟩ (q := 3) rfl rfl ?_
  obtain ⟨r_1, c_2, E⟩ := bd_of E
  refine g_Vv (pc' := 6) O ⟨dX6_farOf_3, rfl⟩ (y := yX6_learn) (As := [.int x1, .int x3]) (st := []) (t_X6_learn_28 l D ad cy (h := h) c_2) kw_914 kw_33 kw_911 kw_913 kw_15 rfl (wC_28 ad cy h) hd_X6_learn ⟨Nat.le_of_ble_eq_true rfl, Nat.le_of_ble_eq_true rfl⟩ ⟨Nat.le_of_ble_eq_true rfl, Nat.le_of_ble_eq_true rfl⟩ rfl (Nat.le_of_ble_eq_true rfl) ?_
  refine g_aload_n (pc' := 7) O ⟨dX6_farOf_6, rfl⟩ (q := 0) rfl rfl ?_
  refine gf_C_RX6_11_28 ad cy (pc' := 10) O ⟨dX6_farOf_7, rfl⟩ ?_
  refine g_iload_n (pc' := 11) O ⟨dX6_farOf_10, rfl⟩ (q := 1) rfl rfl ?_
  refine g_iload_n (pc' := 12) O ⟨dX6_farOf_11, rfl⟩ (q := 2) rfl rfl ?_
  refine g_iload_n (pc' := 13) O ⟨dX6_farOf_12, rfl⟩ (q := 3) rfl rfl ?_
  obtain ⟨r_3, c_4, E⟩ := bd_of E
  refine g_Si (pc' := 16) O ⟨dX6_farOf_13, rfl⟩ (y := yX6_placeOf) (As := [.int x1, .int x2, .int x3]) (st := [.ref (ad 29)]) (t_X6_placeOf l D ad cy (h := r_1) c_4) kw_920 kw_33 kw_918 kw_919 hd_X6_placeOf ⟨Nat.le_of_ble_eq_true rfl, Nat.le_of_ble_eq_true rfl⟩ ⟨Nat.le_of_ble_eq_true rfl, Nat.le_of_ble_eq_true rfl⟩ rfl (Nat.le_of_ble_eq_true rfl) ?_
  refine g_bald (pc' := 17) O ⟨dX6_farOf_16, rfl⟩ (wC_29 ad cy r_1) E (fun E => ?_)
  refine g_iconst (pc' := 18) O ⟨dX6_farOf_17, rfl⟩ (v := (1 : Int32)) rfl ?_
  refine g_isub (pc' := 19) O ⟨dX6_farOf_18, rfl⟩ ?_
  cases E
  exact hret _ _ _ ⟨dX6_farOf_19, rfl⟩ rfl
set_option maxRecDepth 100000 in
set_option maxHeartbeats 4000000 in
theorem t_X6_codeNearer_28 (l : Launch) (D : va_G) (ad : Nat → Nat) (cy : Nat → ClassId) {h : Hp} {x1 : Int32} {x2 : Int32} {x3 : Int32} {o : Int32 × Hp} (E : f_X6_codeNearer_28 h x1 x2 x3 = some o) : CtI l D cy (WC ad cy) yX6_codeNearer cX6_codeNearer 10 .int 5 120 [.ref (ad 28), .int x1, .int x2, .int x3] h o.1 o.2 := by
  refine sI (own := RX6) rfl rfl (Nat.le_of_ble_eq_true rfl) (fun X O hret => ?_)
  show G l D X 10 (WC ad cy) 0 0 h 0 [(0, .ref (ad 28)), (1, .int x1), (2, .int x2), (3, .int x3)] []
  unfold f_X6_codeNearer_28 at E
  refine g_aload_n (pc' := 1) O ⟨dX6_codeNearer_0, rfl⟩ (q := 0) rfl rfl ?_
  refine g_iload_n (pc' := 2) O ⟨dX6_codeNearer_1, rfl⟩ (q := 1) rfl rfl ?_
  refine g_iload_n (pc' := 3) O ⟨dX6_codeNearer_2, rfl⟩ (q := 3) rfl rfl ?_
  obtain ⟨r_1, c_2, E⟩ := bd_of E
  refine g_Vv (pc' := 6) O ⟨dX6_codeNearer_3, rfl⟩ (y := yX6_learn) (As := [.int x1, .int x3]) (st := []) (t_X6_learn_28 l D ad cy (h := h) c_2) kw_914 kw_33 kw_911 kw_913 kw_15 rfl (wC_28 ad cy h) hd_X6_learn ⟨Nat.le_of_ble_eq_true rfl, Nat.le_of_ble_eq_true rfl⟩ ⟨Nat.le_of_ble_eq_true rfl, Nat.le_of_ble_eq_true rfl⟩ rfl (Nat.le_of_ble_eq_true rfl) ?_
  refine g_aload_n (pc' := 7) O ⟨dX6_codeNearer_6, rfl⟩ (q := 0) rfl rfl ?_
  refine g_iload_n (pc' := 8) O ⟨dX6_codeNearer_7, rfl⟩ (q := 1) rfl rfl ?_
  refine g_iload_n (pc' := 9) O ⟨dX6_codeNearer_8, rfl⟩ (q := 3) rfl rfl ?_
  obtain ⟨r_3, c_4, E⟩ := bd_of E
  refine g_Vv (pc' := 12) O ⟨dX6_codeNearer_9, rfl⟩ (y := yX6_listSteps) (As := [.int x1, .int x3]) (st := []) (t_X6_listSteps_28 l D ad cy (h := r_1) c_4) kw_932 kw_33 kw_929 kw_931 kw_16 rfl (wC_28 ad cy r_1) hd_X6_listSteps ⟨Nat.le_of_ble_eq_true rfl, Nat.le_of_ble_eq_true rfl⟩ ⟨Nat.le_of_ble_eq_true rfl, Nat.le_of_ble_eq_true rfl⟩ rfl (Nat.le_of_ble_eq_true rfl) ?_
  refine g_aload_n (pc' := 13) O ⟨dX6_codeNearer_12, rfl⟩ (q := 0) rfl rfl ?_
  refine gf_C_RX6_11_28 ad cy (pc' := 16) O ⟨dX6_codeNearer_13, rfl⟩ ?_
  refine g_iload_n (pc' := 17) O ⟨dX6_codeNearer_16, rfl⟩ (q := 1) rfl rfl ?_
  refine g_iload_n (pc' := 18) O ⟨dX6_codeNearer_17, rfl⟩ (q := 2) rfl rfl ?_
  refine g_iload_n (pc' := 19) O ⟨dX6_codeNearer_18, rfl⟩ (q := 3) rfl rfl ?_
  obtain ⟨r_5, c_6, E⟩ := bd_of E
  refine g_Si (pc' := 22) O ⟨dX6_codeNearer_19, rfl⟩ (y := yX6_placeOf) (As := [.int x1, .int x2, .int x3]) (st := [.ref (ad 29)]) (t_X6_placeOf l D ad cy (h := r_3) c_6) kw_920 kw_33 kw_918 kw_919 hd_X6_placeOf ⟨Nat.le_of_ble_eq_true rfl, Nat.le_of_ble_eq_true rfl⟩ ⟨Nat.le_of_ble_eq_true rfl, Nat.le_of_ble_eq_true rfl⟩ rfl (Nat.le_of_ble_eq_true rfl) ?_
  refine g_bald (pc' := 23) O ⟨dX6_codeNearer_22, rfl⟩ (wC_29 ad cy r_3) E (fun E => ?_)
  refine g_istore (pc' := 25) O ⟨dX6_codeNearer_23, rfl⟩ (lv' := [(4, .int (r_3.1 29 r_5.toNatClampNeg)), (0, .ref (ad 28)), (1, .int x1), (2, .int x2), (3, .int x3)]) (by decide) rfl ?_
  refine g_iconst (pc' := 26) O ⟨dX6_codeNearer_25, rfl⟩ (v := (-1 : Int32)) rfl ?_
  refine g_istore (pc' := 28) O ⟨dX6_codeNearer_26, rfl⟩ (lv' := [(5, .int (-1 : Int32)), (4, .int (r_3.1 29 r_5.toNatClampNeg)), (0, .ref (ad 28)), (1, .int x1), (2, .int x2), (3, .int x3)]) (by decide) rfl ?_
  refine g_iconst (pc' := 29) O ⟨dX6_codeNearer_28, rfl⟩ (v := (0 : Int32)) rfl ?_
  refine g_istore (pc' := 31) O ⟨dX6_codeNearer_29, rfl⟩ (lv' := [(6, .int (0 : Int32)), (5, .int (-1 : Int32)), (4, .int (r_3.1 29 r_5.toNatClampNeg)), (0, .ref (ad 28)), (1, .int x1), (2, .int x2), (3, .int x3)]) (by decide) rfl ?_
  refine jn1_of (P := fun (x5_7 : Int32) => G l D X 10 (WC ad cy) 0 0 r_3 114 [(5, .int x5_7)] []) E ?_ ?_
  · intro x5_7 E
    show G l D X 10 (WC ad cy) 0 0 r_3 114 [(5, .int x5_7)] []
    refine g_iload (pc' := 116) O ⟨dX6_codeNearer_114, rfl⟩ (q := 0) rfl ?_
    cases E
    exact hret _ _ _ ⟨dX6_codeNearer_116, rfl⟩ rfl
  · intro k114 hk114 E
    refine g_sub (lv' := [(0, .ref (ad 28)), (1, .int x1), (2, .int x2), (3, .int x3), (4, .int (r_3.1 29 r_5.toNatClampNeg)), (5, .int (-1 : Int32)), (6, .int (0 : Int32))]) [3, 4, 5, 6, 2, 1, 0] rfl ?_
    refine fx2_of (P := fun (x5_8 : Int32) (x6_9 : Int32) => G l D X 10 (WC ad cy) 0 0 r_3 31 [(0, .ref (ad 28)), (1, .int x1), (2, .int x2), (3, .int x3), (4, .int (r_3.1 29 r_5.toNatClampNeg)), (5, .int x5_8), (6, .int x6_9)] []) ?_ _ _ _ E
    intro self ih31 x5_8 x6_9 E
    show G l D X 10 (WC ad cy) 0 0 r_3 31 [(0, .ref (ad 28)), (1, .int x1), (2, .int x2), (3, .int x3), (4, .int (r_3.1 29 r_5.toNatClampNeg)), (5, .int x5_8), (6, .int x6_9)] []
    unfold L_X6_codeNearer_28_31 at E
    refine g_iload (pc' := 33) O ⟨dX6_codeNearer_31, rfl⟩ (q := 6) rfl ?_
    refine g_aload_n (pc' := 34) O ⟨dX6_codeNearer_33, rfl⟩ (q := 0) rfl rfl ?_
    refine gf_C_RX6_22_28 ad cy (pc' := 37) O ⟨dX6_codeNearer_34, rfl⟩ ?_
    refine g_icmp_ge (pc' := 40) O ⟨dX6_codeNearer_37, rfl⟩ E (tgt := 114) (by decide) (fun E => ?_) (fun E => ?_)
    · refine g_sub (lv' := [(5, .int x5_8)]) [5] rfl ?_
      exact hk114 _ E
    · refine g_iload_n (pc' := 41) O ⟨dX6_codeNearer_40, rfl⟩ (q := 2) rfl rfl ?_
      refine g_aload_n (pc' := 42) O ⟨dX6_codeNearer_41, rfl⟩ (q := 0) rfl rfl ?_
      refine gf_C_RX6_19_28 ad cy (pc' := 45) O ⟨dX6_codeNearer_42, rfl⟩ ?_
      refine g_iload (pc' := 47) O ⟨dX6_codeNearer_45, rfl⟩ (q := 6) rfl ?_
      refine g_iald (pc' := 48) O ⟨dX6_codeNearer_47, rfl⟩ (wC_31 ad cy r_3) E (fun E => ?_)
      refine g_iload_n (pc' := 49) O ⟨dX6_codeNearer_48, rfl⟩ (q := 3) rfl rfl ?_
      obtain ⟨r_10, c_11, E⟩ := bd_of E
      refine g_Si (pc' := 52) O ⟨dX6_codeNearer_49, rfl⟩ (y := yX5_rearranged) (As := [.int x2, .int (r_3.1 31 x6_9.toNatClampNeg), .int x3]) (st := []) (t_X5_rearranged l D ad cy (h := r_3) c_11) kw_958 kw_41 kw_956 kw_957 hd_X5_rearranged ⟨Nat.le_of_ble_eq_true rfl, Nat.le_of_ble_eq_true rfl⟩ ⟨Nat.le_of_ble_eq_true rfl, Nat.le_of_ble_eq_true rfl⟩ rfl (Nat.le_of_ble_eq_true rfl) ?_
      refine g_istore (pc' := 54) O ⟨dX6_codeNearer_52, rfl⟩ (lv' := [(7, .int r_10), (0, .ref (ad 28)), (1, .int x1), (2, .int x2), (3, .int x3), (4, .int (r_3.1 29 r_5.toNatClampNeg)), (5, .int x5_8), (6, .int x6_9)]) (by decide) rfl ?_
      refine g_iload (pc' := 56) O ⟨dX6_codeNearer_54, rfl⟩ (q := 0) rfl ?_
      refine g_iload_n (pc' := 57) O ⟨dX6_codeNearer_56, rfl⟩ (q := 4) rfl rfl ?_
      obtain ⟨r_12, c_13, E⟩ := bd_of E
      refine g_Si (pc' := 60) O ⟨dX6_codeNearer_57, rfl⟩ (y := yX5_toCode) (As := [.int r_10, .int x3]) (st := []) (t_X5_toCode l D ad cy (h := r_3) c_13) kw_544 kw_41 kw_967 kw_543 hd_X5_toCode ⟨Nat.le_of_ble_eq_true rfl, Nat.le_of_ble_eq_true rfl⟩ ⟨Nat.le_of_ble_eq_true rfl, Nat.le_of_ble_eq_true rfl⟩ rfl (Nat.le_of_ble_eq_true rfl) ?_
      refine g_istore (pc' := 62) O ⟨dX6_codeNearer_60, rfl⟩ (lv' := [(8, .int r_12), (7, .int r_10), (0, .ref (ad 28)), (1, .int x1), (2, .int x2), (3, .int x3), (4, .int (r_3.1 29 r_5.toNatClampNeg)), (5, .int x5_8), (6, .int x6_9)]) (by decide) rfl ?_
      refine g_aload_n (pc' := 63) O ⟨dX6_codeNearer_62, rfl⟩ (q := 2) rfl rfl ?_
      refine gf_C_RX6_11_28 ad cy (pc' := 66) O ⟨dX6_codeNearer_63, rfl⟩ ?_
      refine g_iload_n (pc' := 67) O ⟨dX6_codeNearer_66, rfl⟩ (q := 3) rfl rfl ?_
      refine g_iload (pc' := 69) O ⟨dX6_codeNearer_67, rfl⟩ (q := 1) rfl ?_
      refine g_iload_n (pc' := 70) O ⟨dX6_codeNearer_69, rfl⟩ (q := 5) rfl rfl ?_
      obtain ⟨r_14, c_15, E⟩ := bd_of E
      refine g_Si (pc' := 73) O ⟨dX6_codeNearer_70, rfl⟩ (y := yX6_placeOf) (As := [.int x1, .int r_10, .int x3]) (st := [.ref (ad 29)]) (t_X6_placeOf l D ad cy (h := r_3) c_15) kw_920 kw_33 kw_918 kw_919 hd_X6_placeOf ⟨Nat.le_of_ble_eq_true rfl, Nat.le_of_ble_eq_true rfl⟩ ⟨Nat.le_of_ble_eq_true rfl, Nat.le_of_ble_eq_true rfl⟩ rfl (Nat.le_of_ble_eq_true rfl) ?_
      refine g_bald (pc' := 74) O ⟨dX6_codeNearer_73, rfl⟩ (wC_29 ad cy r_3) E (fun E => ?_)
      refine g_iload (pc' := 76) O ⟨dX6_codeNearer_74, rfl⟩ (q := 6) rfl ?_
      refine jn1_of (P := fun (z_16 : Int32) => G l D X 10 (WC ad cy) 0 0 r_3 84 [(0, .ref (ad 28)), (1, .int x1), (2, .int x2), (3, .int x3), (4, .int (r_3.1 29 r_5.toNatClampNeg)), (5, .int x5_8), (6, .int x6_9), (8, .int r_12)] [.int z_16]) E ?_ ?_
      · intro z_16 E
        show G l D X 10 (WC ad cy) 0 0 r_3 84 [(0, .ref (ad 28)), (1, .int x1), (2, .int x2), (3, .int x3), (4, .int (r_3.1 29 r_5.toNatClampNeg)), (5, .int x5_8), (6, .int x6_9), (8, .int r_12)] [.int z_16]
        refine g_istore (pc' := 86) O ⟨dX6_codeNearer_84, rfl⟩ (lv' := [(9, .int z_16), (0, .ref (ad 28)), (1, .int x1), (2, .int x2), (3, .int x3), (4, .int (r_3.1 29 r_5.toNatClampNeg)), (5, .int x5_8), (6, .int x6_9), (8, .int r_12)]) (by decide) rfl ?_
        refine g_iload (pc' := 88) O ⟨dX6_codeNearer_86, rfl⟩ (q := 0) rfl ?_
        refine g_if_eq (pc' := 91) O ⟨dX6_codeNearer_88, rfl⟩ E (tgt := 108) (by decide) (fun E => ?_) (fun E => ?_)
        · refine g_iinc (pc' := 111) O ⟨dX6_codeNearer_108, rfl⟩ (q := 7) (v := x6_9 + (1 : Int32)) (lv' := [(6, .int (x6_9 + (1 : Int32))), (9, .int z_16), (0, .ref (ad 28)), (1, .int x1), (2, .int x2), (3, .int x3), (4, .int (r_3.1 29 r_5.toNatClampNeg)), (5, .int x5_8), (8, .int r_12)]) rfl rfl (by decide) rfl ?_
          refine g_goto (pc' := 114) O ⟨dX6_codeNearer_111, rfl⟩ (tgt := 31) (by decide) ?_
          refine g_sub (lv' := [(0, .ref (ad 28)), (1, .int x1), (2, .int x2), (3, .int x3), (4, .int (r_3.1 29 r_5.toNatClampNeg)), (5, .int x5_8), (6, .int (x6_9 + (1 : Int32)))]) [2, 3, 4, 5, 6, 7, 0] rfl ?_
          exact ih31 _ _ E
        · refine g_iload (pc' := 93) O ⟨dX6_codeNearer_91, rfl⟩ (q := 6) rfl ?_
          refine g_iconst (pc' := 94) O ⟨dX6_codeNearer_93, rfl⟩ (v := (-1 : Int32)) rfl ?_
          refine g_icmp_eq (pc' := 97) O ⟨dX6_codeNearer_94, rfl⟩ E (tgt := 104) (by decide) (fun E => ?_) (fun E => ?_)
          · refine g_iload (pc' := 106) O ⟨dX6_codeNearer_104, rfl⟩ (q := 8) rfl ?_
            refine g_istore (pc' := 108) O ⟨dX6_codeNearer_106, rfl⟩ (lv' := [(5, .int r_12), (9, .int z_16), (0, .ref (ad 28)), (1, .int x1), (2, .int x2), (3, .int x3), (4, .int (r_3.1 29 r_5.toNatClampNeg)), (6, .int x6_9), (8, .int r_12)]) (by decide) rfl ?_
            refine g_iinc (pc' := 111) O ⟨dX6_codeNearer_108, rfl⟩ (q := 7) (v := x6_9 + (1 : Int32)) (lv' := [(6, .int (x6_9 + (1 : Int32))), (5, .int r_12), (9, .int z_16), (0, .ref (ad 28)), (1, .int x1), (2, .int x2), (3, .int x3), (4, .int (r_3.1 29 r_5.toNatClampNeg)), (8, .int r_12)]) rfl rfl (by decide) rfl ?_
            refine g_goto (pc' := 114) O ⟨dX6_codeNearer_111, rfl⟩ (tgt := 31) (by decide) ?_
            refine g_sub (lv' := [(0, .ref (ad 28)), (1, .int x1), (2, .int x2), (3, .int x3), (4, .int (r_3.1 29 r_5.toNatClampNeg)), (5, .int r_12), (6, .int (x6_9 + (1 : Int32)))]) [3, 4, 5, 6, 7, 1, 0] rfl ?_
            exact ih31 _ _ E
          · refine g_iload (pc' := 99) O ⟨dX6_codeNearer_97, rfl⟩ (q := 8) rfl ?_
            refine g_iload (pc' := 101) O ⟨dX6_codeNearer_99, rfl⟩ (q := 6) rfl ?_
            refine g_icmp_ge (pc' := 104) O ⟨dX6_codeNearer_101, rfl⟩ E (tgt := 108) (by decide) (fun E => ?_) (fun E => ?_)
            · refine g_iinc (pc' := 111) O ⟨dX6_codeNearer_108, rfl⟩ (q := 7) (v := x6_9 + (1 : Int32)) (lv' := [(6, .int (x6_9 + (1 : Int32))), (9, .int z_16), (0, .ref (ad 28)), (1, .int x1), (2, .int x2), (3, .int x3), (4, .int (r_3.1 29 r_5.toNatClampNeg)), (5, .int x5_8), (8, .int r_12)]) rfl rfl (by decide) rfl ?_
              refine g_goto (pc' := 114) O ⟨dX6_codeNearer_111, rfl⟩ (tgt := 31) (by decide) ?_
              refine g_sub (lv' := [(0, .ref (ad 28)), (1, .int x1), (2, .int x2), (3, .int x3), (4, .int (r_3.1 29 r_5.toNatClampNeg)), (5, .int x5_8), (6, .int (x6_9 + (1 : Int32)))]) [2, 3, 4, 5, 6, 7, 0] rfl ?_
              exact ih31 _ _ E
            · refine g_iload (pc' := 106) O ⟨dX6_codeNearer_104, rfl⟩ (q := 8) rfl ?_
              refine g_istore (pc' := 108) O ⟨dX6_codeNearer_106, rfl⟩ (lv' := [(5, .int r_12), (9, .int z_16), (0, .ref (ad 28)), (1, .int x1), (2, .int x2), (3, .int x3), (4, .int (r_3.1 29 r_5.toNatClampNeg)), (6, .int x6_9), (8, .int r_12)]) (by decide) rfl ?_
              refine g_iinc (pc' := 111) O ⟨dX6_codeNearer_108, rfl⟩ (q := 7) (v := x6_9 + (1 : Int32)) (lv' := [(6, .int (x6_9 + (1 : Int32))), (5, .int r_12), (9, .int z_16), (0, .ref (ad 28)), (1, .int x1), (2, .int x2), (3, .int x3), (4, .int (r_3.1 29 r_5.toNatClampNeg)), (8, .int r_12)]) rfl rfl (by decide) rfl ?_
              refine g_goto (pc' := 114) O ⟨dX6_codeNearer_111, rfl⟩ (tgt := 31) (by decide) ?_
              refine g_sub (lv' := [(0, .ref (ad 28)), (1, .int x1), (2, .int x2), (3, .int x3), (4, .int (r_3.1 29 r_5.toNatClampNeg)), (5, .int r_12), (6, .int (x6_9 + (1 : Int32)))]) [3, 4, 5, 6, 7, 1, 0] rfl ?_
              exact ih31 _ _ E
      · intro k84 hk84 E
        refine g_icmp_ge (pc' := 79) O ⟨dX6_codeNearer_76, rfl⟩ E (tgt := 83) (by decide) (fun E => ?_) (fun E => ?_)
        · refine g_iconst (pc' := 84) O ⟨dX6_codeNearer_83, rfl⟩ (v := (0 : Int32)) rfl ?_
          refine g_sub (lv' := [(0, .ref (ad 28)), (1, .int x1), (2, .int x2), (3, .int x3), (4, .int (r_3.1 29 r_5.toNatClampNeg)), (5, .int x5_8), (6, .int x6_9), (8, .int r_12)]) [2, 3, 4, 5, 6, 7, 8, 0] rfl ?_
          exact hk84 _ E
        · refine g_iconst (pc' := 80) O ⟨dX6_codeNearer_79, rfl⟩ (v := (1 : Int32)) rfl ?_
          refine g_goto (pc' := 83) O ⟨dX6_codeNearer_80, rfl⟩ (tgt := 84) (by decide) ?_
          refine g_sub (lv' := [(0, .ref (ad 28)), (1, .int x1), (2, .int x2), (3, .int x3), (4, .int (r_3.1 29 r_5.toNatClampNeg)), (5, .int x5_8), (6, .int x6_9), (8, .int r_12)]) [2, 3, 4, 5, 6, 7, 8, 0] rfl ?_
          exact hk84 _ E
set_option maxRecDepth 100000 in
set_option maxHeartbeats 4000000 in
theorem t_X6_countFar_28 (l : Launch) (D : va_G) (ad : Nat → Nat) (cy : Nat → ClassId) {h : Hp} {x1 : Int32} {x2 : Int32} {x3 : Int32} {o : Int32 × Hp} (E : f_X6_countFar_28 h x1 x2 x3 = some o) : CtI l D cy (WC ad cy) yX6_countFar cX6_countFar 7 .int 5 120 [.ref (ad 28), .int x1, .int x2, .int x3] h o.1 o.2 := by
  refine sI (own := RX6) rfl rfl (Nat.le_of_ble_eq_true rfl) (fun X O hret => ?_)
  show G l D X 7 (WC ad cy) 0 0 h 0 [(0, .ref (ad 28)), (1, .int x1), (2, .int x2), (3, .int x3)] []
  unfold f_X6_countFar_28 at E
  refine g_aload_n (pc' := 1) O ⟨dX6_countFar_0, rfl⟩ (q := 0) rfl rfl ?_
  refine g_iload_n (pc' := 2) O ⟨dX6_countFar_1, rfl⟩ (q := 1) rfl rfl ?_
  refine g_iload_n (pc' := 3) O ⟨dX6_countFar_2, rfl⟩ (q := 3) rfl rfl ?_
  obtain ⟨r_1, c_2, E⟩ := bd_of E
  refine g_Vv (pc' := 6) O ⟨dX6_countFar_3, rfl⟩ (y := yX6_learn) (As := [.int x1, .int x3]) (st := []) (t_X6_learn_28 l D ad cy (h := h) c_2) kw_914 kw_33 kw_911 kw_913 kw_15 rfl (wC_28 ad cy h) hd_X6_learn ⟨Nat.le_of_ble_eq_true rfl, Nat.le_of_ble_eq_true rfl⟩ ⟨Nat.le_of_ble_eq_true rfl, Nat.le_of_ble_eq_true rfl⟩ rfl (Nat.le_of_ble_eq_true rfl) ?_
  refine g_iload_n (pc' := 7) O ⟨dX6_countFar_6, rfl⟩ (q := 1) rfl rfl ?_
  refine g_sipush (pc' := 10) O ⟨dX6_countFar_7, rfl⟩ (v := (872 : Int32)) rfl ?_
  refine g_imul (pc' := 11) O ⟨dX6_countFar_10, rfl⟩ ?_
  refine g_gsBEG (pc' := 14) O ⟨dX6_countFar_11, rfl⟩ kw_921 (fun t_3 ht_3 => ?_)
  refine g_iload_n (pc' := 15) O ⟨dX6_countFar_14, rfl⟩ (q := 3) rfl rfl ?_
  refine g_sti (pc' := 16) O ⟨dX6_countFar_15, rfl⟩ ht_3 E (fun E => ?_)
  refine g_iadd (pc' := 17) O ⟨dX6_countFar_16, rfl⟩ ?_
  refine g_nm E (fun y4_4 E => ?_)
  refine g_istore (pc' := 19) O ⟨dX6_countFar_17, rfl⟩ (lv' := [(4, .int y4_4), (0, .ref (ad 28)), (1, .int x1), (2, .int x2), (3, .int x3)]) (by decide) rfl ?_
  refine g_iconst (pc' := 20) O ⟨dX6_countFar_19, rfl⟩ (v := (0 : Int32)) rfl ?_
  refine g_istore (pc' := 22) O ⟨dX6_countFar_20, rfl⟩ (lv' := [(5, .int (0 : Int32)), (4, .int y4_4), (0, .ref (ad 28)), (1, .int x1), (2, .int x2), (3, .int x3)]) (by decide) rfl ?_
  refine g_iconst (pc' := 23) O ⟨dX6_countFar_22, rfl⟩ (v := (0 : Int32)) rfl ?_
  refine g_istore (pc' := 25) O ⟨dX6_countFar_23, rfl⟩ (lv' := [(6, .int (0 : Int32)), (5, .int (0 : Int32)), (4, .int y4_4), (0, .ref (ad 28)), (1, .int x1), (2, .int x2), (3, .int x3)]) (by decide) rfl ?_
  refine jn1_of (P := fun (x5_5 : Int32) => G l D X 7 (WC ad cy) 0 0 r_1 59 [(5, .int x5_5)] []) E ?_ ?_
  · intro x5_5 E
    show G l D X 7 (WC ad cy) 0 0 r_1 59 [(5, .int x5_5)] []
    refine g_iload (pc' := 61) O ⟨dX6_countFar_59, rfl⟩ (q := 0) rfl ?_
    cases E
    exact hret _ _ _ ⟨dX6_countFar_61, rfl⟩ rfl
  · intro k59 hk59 E
    refine g_sub (lv' := [(0, .ref (ad 28)), (2, .int x2), (3, .int x3), (4, .int y4_4), (5, .int (0 : Int32)), (6, .int (0 : Int32))]) [3, 5, 6, 2, 1, 0] rfl ?_
    refine fx2_of (P := fun (x5_6 : Int32) (x6_7 : Int32) => G l D X 7 (WC ad cy) 0 0 r_1 25 [(0, .ref (ad 28)), (2, .int x2), (3, .int x3), (4, .int y4_4), (5, .int x5_6), (6, .int x6_7)] []) ?_ _ _ _ E
    intro self ih25 x5_6 x6_7 E
    show G l D X 7 (WC ad cy) 0 0 r_1 25 [(0, .ref (ad 28)), (2, .int x2), (3, .int x3), (4, .int y4_4), (5, .int x5_6), (6, .int x6_7)] []
    unfold L_X6_countFar_28_25 at E
    refine g_iload (pc' := 27) O ⟨dX6_countFar_25, rfl⟩ (q := 5) rfl ?_
    refine g_iload_n (pc' := 28) O ⟨dX6_countFar_27, rfl⟩ (q := 2) rfl rfl ?_
    obtain ⟨r_8, c_9, E⟩ := bd_of E
    refine g_Si (pc' := 31) O ⟨dX6_countFar_28, rfl⟩ (y := yX5_howMany) (As := [.int x3]) (st := [.int x6_7]) (t_X5_howMany l D ad cy (h := r_1) c_9) kw_955 kw_41 kw_953 kw_954 hd_X5_howMany ⟨Nat.le_of_ble_eq_true rfl, Nat.le_of_ble_eq_true rfl⟩ ⟨Nat.le_of_ble_eq_true rfl, Nat.le_of_ble_eq_true rfl⟩ rfl (Nat.le_of_ble_eq_true rfl) ?_
    refine g_icmp_ge (pc' := 34) O ⟨dX6_countFar_31, rfl⟩ E (tgt := 59) (by decide) (fun E => ?_) (fun E => ?_)
    · refine g_sub (lv' := [(5, .int x5_6)]) [4] rfl ?_
      exact hk59 _ E
    · refine g_aload_n (pc' := 35) O ⟨dX6_countFar_34, rfl⟩ (q := 0) rfl rfl ?_
      refine gf_C_RX6_11_28 ad cy (pc' := 38) O ⟨dX6_countFar_35, rfl⟩ ?_
      refine g_iload (pc' := 40) O ⟨dX6_countFar_38, rfl⟩ (q := 3) rfl ?_
      refine g_iload (pc' := 42) O ⟨dX6_countFar_40, rfl⟩ (q := 5) rfl ?_
      refine g_iadd (pc' := 43) O ⟨dX6_countFar_42, rfl⟩ ?_
      refine g_bald (pc' := 44) O ⟨dX6_countFar_43, rfl⟩ (wC_29 ad cy r_1) E (fun E => ?_)
      refine g_iconst (pc' := 45) O ⟨dX6_countFar_44, rfl⟩ (v := (1 : Int32)) rfl ?_
      refine g_isub (pc' := 46) O ⟨dX6_countFar_45, rfl⟩ ?_
      refine g_iload_n (pc' := 47) O ⟨dX6_countFar_46, rfl⟩ (q := 1) rfl rfl ?_
      refine g_icmp_ne (pc' := 50) O ⟨dX6_countFar_47, rfl⟩ E (tgt := 53) (by decide) (fun E => ?_) (fun E => ?_)
      · refine g_iinc (pc' := 56) O ⟨dX6_countFar_53, rfl⟩ (q := 5) (v := x6_7 + (1 : Int32)) (lv' := [(6, .int (x6_7 + (1 : Int32))), (0, .ref (ad 28)), (2, .int x2), (3, .int x3), (4, .int y4_4), (5, .int x5_6)]) rfl rfl (by decide) rfl ?_
        refine g_goto (pc' := 59) O ⟨dX6_countFar_56, rfl⟩ (tgt := 25) (by decide) ?_
        refine g_sub (lv' := [(0, .ref (ad 28)), (2, .int x2), (3, .int x3), (4, .int y4_4), (5, .int x5_6), (6, .int (x6_7 + (1 : Int32)))]) [1, 2, 3, 4, 5, 0] rfl ?_
        exact ih25 _ _ E
      · refine g_iinc (pc' := 53) O ⟨dX6_countFar_50, rfl⟩ (q := 4) (v := x5_6 + (1 : Int32)) (lv' := [(5, .int (x5_6 + (1 : Int32))), (0, .ref (ad 28)), (2, .int x2), (3, .int x3), (4, .int y4_4), (6, .int x6_7)]) rfl rfl (by decide) rfl ?_
        refine g_iinc (pc' := 56) O ⟨dX6_countFar_53, rfl⟩ (q := 5) (v := x6_7 + (1 : Int32)) (lv' := [(6, .int (x6_7 + (1 : Int32))), (5, .int (x5_6 + (1 : Int32))), (0, .ref (ad 28)), (2, .int x2), (3, .int x3), (4, .int y4_4)]) rfl rfl (by decide) rfl ?_
        refine g_goto (pc' := 59) O ⟨dX6_countFar_56, rfl⟩ (tgt := 25) (by decide) ?_
        refine g_sub (lv' := [(0, .ref (ad 28)), (2, .int x2), (3, .int x3), (4, .int y4_4), (5, .int (x5_6 + (1 : Int32))), (6, .int (x6_7 + (1 : Int32)))]) [2, 3, 4, 5, 1, 0] rfl ?_
        exact ih25 _ _ E
set_option maxRecDepth 100000 in
set_option maxHeartbeats 4000000 in
theorem t_X0_isLesser (l : Launch) (D : va_G) (ad : Nat → Nat) (cy : Nat → ClassId) {h : Hp} {x0 : Int32} {x1 : Int32} {o : Int64} (E : f_X0_isLesser x0 x1 = some o) : CtL l D cy (WC ad cy) yX0_isLesser cX0_isLesser 2 0 0 [.int x0, .int x1] h o h := by
  refine sL (own := RX0) rfl rfl (Nat.le_of_ble_eq_true rfl) (fun X O hret => ?_)
  show G l D X 2 (WC ad cy) 0 0 h 0 [(0, .int x0), (1, .int x1)] []
  unfold f_X0_isLesser at E
  refine g_lconst (pc' := 1) O ⟨dX0_isLesser_0, rfl⟩ (v := (1 : Int64)) rfl ?_
  refine g_bipush (pc' := 3) O ⟨dX0_isLesser_1, rfl⟩ (v := (6 : Int32)) rfl ?_
  refine g_iload_n (pc' := 4) O ⟨dX0_isLesser_3, rfl⟩ (q := 1) rfl rfl ?_
  refine g_imul (pc' := 5) O ⟨dX0_isLesser_4, rfl⟩ ?_
  refine g_iload_n (pc' := 6) O ⟨dX0_isLesser_5, rfl⟩ (q := 0) rfl rfl ?_
  refine g_iadd (pc' := 7) O ⟨dX0_isLesser_6, rfl⟩ ?_
  refine g_lshl (pc' := 8) O ⟨dX0_isLesser_7, rfl⟩ ?_
  cases E
  exact hret _ _ _ ⟨dX0_isLesser_8, rfl⟩
set_option maxRecDepth 100000 in
set_option maxHeartbeats 4000000 in
theorem t_X2_waysTo_33 (l : Launch) (D : va_G) (ad : Nat → Nat) (cy : Nat → ClassId) {h : Hp} {x1 : Int32} {x2 : Int64} {x4 : Int32} {o : Int32} (E : f_X2_waysTo_33 h x1 x2 x4 = some o) : CtI l D cy (WC ad cy) yX2_waysTo cX2_waysTo 9 .int 0 0 [.ref (ad 33), .int x1, .long x2, .int x4] h o h := by
  refine sI (own := RX2) rfl rfl (Nat.le_of_ble_eq_true rfl) (fun X O hret => ?_)
  show G l D X 9 (WC ad cy) 0 0 h 0 [(0, .ref (ad 33)), (1, .int x1), (2, .long x2), (4, .int x4)] []
  unfold f_X2_waysTo_33 at E
  refine g_iconst (pc' := 1) O ⟨dX2_waysTo_0, rfl⟩ (v := (0 : Int32)) rfl ?_
  refine g_istore (pc' := 3) O ⟨dX2_waysTo_1, rfl⟩ (lv' := [(5, .int (0 : Int32)), (0, .ref (ad 33)), (1, .int x1), (2, .long x2), (4, .int x4)]) (by decide) rfl ?_
  refine g_iconst (pc' := 4) O ⟨dX2_waysTo_3, rfl⟩ (v := (0 : Int32)) rfl ?_
  refine g_istore (pc' := 6) O ⟨dX2_waysTo_4, rfl⟩ (lv' := [(6, .int (0 : Int32)), (5, .int (0 : Int32)), (0, .ref (ad 33)), (1, .int x1), (2, .long x2), (4, .int x4)]) (by decide) rfl ?_
  refine jn1_of (P := fun (x5_1 : Int32) => G l D X 9 (WC ad cy) 0 0 h 70 [(5, .int x5_1)] []) E ?_ ?_
  · intro x5_1 E
    show G l D X 9 (WC ad cy) 0 0 h 70 [(5, .int x5_1)] []
    refine g_iload (pc' := 72) O ⟨dX2_waysTo_70, rfl⟩ (q := 0) rfl ?_
    cases E
    exact hret _ _ _ ⟨dX2_waysTo_72, rfl⟩ rfl
  · intro k70 hk70 E
    refine g_sub (lv' := [(0, .ref (ad 33)), (1, .int x1), (2, .long x2), (4, .int x4), (5, .int (0 : Int32)), (6, .int (0 : Int32))]) [2, 3, 4, 5, 1, 0] rfl ?_
    refine fx2_of (P := fun (x5_2 : Int32) (x6_3 : Int32) => G l D X 9 (WC ad cy) 0 0 h 6 [(0, .ref (ad 33)), (1, .int x1), (2, .long x2), (4, .int x4), (5, .int x5_2), (6, .int x6_3)] []) ?_ _ _ _ E
    intro self ih6 x5_2 x6_3 E
    show G l D X 9 (WC ad cy) 0 0 h 6 [(0, .ref (ad 33)), (1, .int x1), (2, .long x2), (4, .int x4), (5, .int x5_2), (6, .int x6_3)] []
    unfold L_X2_waysTo_33_6 at E
    refine g_iload (pc' := 8) O ⟨dX2_waysTo_6, rfl⟩ (q := 5) rfl ?_
    refine g_iload (pc' := 10) O ⟨dX2_waysTo_8, rfl⟩ (q := 3) rfl ?_
    refine g_icmp_ge (pc' := 13) O ⟨dX2_waysTo_10, rfl⟩ E (tgt := 70) (by decide) (fun E => ?_) (fun E => ?_)
    · refine g_sub (lv' := [(5, .int x5_2)]) [4] rfl ?_
      exact hk70 _ E
    · refine g_iload_n (pc' := 14) O ⟨dX2_waysTo_13, rfl⟩ (q := 1) rfl rfl ?_
      refine g_iconst (pc' := 15) O ⟨dX2_waysTo_14, rfl⟩ (v := (1 : Int32)) rfl ?_
      refine g_iload (pc' := 17) O ⟨dX2_waysTo_15, rfl⟩ (q := 5) rfl ?_
      refine g_ishl (pc' := 18) O ⟨dX2_waysTo_17, rfl⟩ ?_
      refine g_iconst (pc' := 19) O ⟨dX2_waysTo_18, rfl⟩ (v := (-1 : Int32)) rfl ?_
      refine g_ixor (pc' := 20) O ⟨dX2_waysTo_19, rfl⟩ ?_
      refine g_iand (pc' := 21) O ⟨dX2_waysTo_20, rfl⟩ ?_
      refine g_nm E (fun y7_4 E => ?_)
      refine g_istore (pc' := 23) O ⟨dX2_waysTo_21, rfl⟩ (lv' := [(7, .int y7_4), (0, .ref (ad 33)), (1, .int x1), (2, .long x2), (4, .int x4), (5, .int x5_2), (6, .int x6_3)]) (by decide) rfl ?_
      refine g_lload_n (pc' := 24) O ⟨dX2_waysTo_23, rfl⟩ (q := 3) rfl rfl ?_
      refine g_bipush (pc' := 26) O ⟨dX2_waysTo_24, rfl⟩ (v := (6 : Int32)) rfl ?_
      refine g_iload (pc' := 28) O ⟨dX2_waysTo_26, rfl⟩ (q := 6) rfl ?_
      refine g_imul (pc' := 29) O ⟨dX2_waysTo_28, rfl⟩ ?_
      refine g_lushr (pc' := 30) O ⟨dX2_waysTo_29, rfl⟩ ?_
      refine g_l2i (pc' := 31) O ⟨dX2_waysTo_30, rfl⟩ ?_
      refine g_bipush (pc' := 33) O ⟨dX2_waysTo_31, rfl⟩ (v := (63 : Int32)) rfl ?_
      refine g_iand (pc' := 34) O ⟨dX2_waysTo_33, rfl⟩ ?_
      refine g_nm E (fun y8_5 E => ?_)
      refine g_istore (pc' := 36) O ⟨dX2_waysTo_34, rfl⟩ (lv' := [(8, .int y8_5), (7, .int y7_4), (0, .ref (ad 33)), (1, .int x1), (2, .long x2), (4, .int x4), (5, .int x5_2), (6, .int x6_3)]) (by decide) rfl ?_
      refine g_iload (pc' := 38) O ⟨dX2_waysTo_36, rfl⟩ (q := 1) rfl ?_
      refine g_iload_n (pc' := 39) O ⟨dX2_waysTo_38, rfl⟩ (q := 3) rfl rfl ?_
      refine g_icmp_eq (pc' := 42) O ⟨dX2_waysTo_39, rfl⟩ E (tgt := 64) (by decide) (fun E => ?_) (fun E => ?_)
      · refine g_iinc (pc' := 67) O ⟨dX2_waysTo_64, rfl⟩ (q := 7) (v := x6_3 + (1 : Int32)) (lv' := [(6, .int (x6_3 + (1 : Int32))), (8, .int y8_5), (7, .int y7_4), (0, .ref (ad 33)), (1, .int x1), (2, .long x2), (4, .int x4), (5, .int x5_2)]) rfl rfl (by decide) rfl ?_
        refine g_goto (pc' := 70) O ⟨dX2_waysTo_67, rfl⟩ (tgt := 6) (by decide) ?_
        refine g_sub (lv' := [(0, .ref (ad 33)), (1, .int x1), (2, .long x2), (4, .int x4), (5, .int x5_2), (6, .int (x6_3 + (1 : Int32)))]) [3, 4, 5, 6, 7, 0] rfl ?_
        exact ih6 _ _ E
      · refine g_iload (pc' := 44) O ⟨dX2_waysTo_42, rfl⟩ (q := 0) rfl ?_
        refine g_iload (pc' := 46) O ⟨dX2_waysTo_44, rfl⟩ (q := 1) rfl ?_
        refine g_iconst (pc' := 47) O ⟨dX2_waysTo_46, rfl⟩ (v := (-1 : Int32)) rfl ?_
        refine g_ixor (pc' := 48) O ⟨dX2_waysTo_47, rfl⟩ ?_
        refine g_iand (pc' := 49) O ⟨dX2_waysTo_48, rfl⟩ ?_
        refine g_if_ne (pc' := 52) O ⟨dX2_waysTo_49, rfl⟩ E (tgt := 64) (by decide) (fun E => ?_) (fun E => ?_)
        · refine g_iinc (pc' := 67) O ⟨dX2_waysTo_64, rfl⟩ (q := 7) (v := x6_3 + (1 : Int32)) (lv' := [(6, .int (x6_3 + (1 : Int32))), (8, .int y8_5), (7, .int y7_4), (0, .ref (ad 33)), (1, .int x1), (2, .long x2), (4, .int x4), (5, .int x5_2)]) rfl rfl (by decide) rfl ?_
          refine g_goto (pc' := 70) O ⟨dX2_waysTo_67, rfl⟩ (tgt := 6) (by decide) ?_
          refine g_sub (lv' := [(0, .ref (ad 33)), (1, .int x1), (2, .long x2), (4, .int x4), (5, .int x5_2), (6, .int (x6_3 + (1 : Int32)))]) [3, 4, 5, 6, 7, 0] rfl ?_
          exact ih6 _ _ E
        · refine g_iload (pc' := 54) O ⟨dX2_waysTo_52, rfl⟩ (q := 6) rfl ?_
          refine g_aload_n (pc' := 55) O ⟨dX2_waysTo_54, rfl⟩ (q := 2) rfl rfl ?_
          refine gf_C_RX2_9_33 ad cy (pc' := 58) O ⟨dX2_waysTo_55, rfl⟩ ?_
          refine g_iload (pc' := 60) O ⟨dX2_waysTo_58, rfl⟩ (q := 1) rfl ?_
          refine g_iald (pc' := 61) O ⟨dX2_waysTo_60, rfl⟩ (wC_34 ad cy h) E (fun E => ?_)
          refine g_iadd (pc' := 62) O ⟨dX2_waysTo_61, rfl⟩ ?_
          refine g_nm E (fun y5_6 E => ?_)
          refine g_istore (pc' := 64) O ⟨dX2_waysTo_62, rfl⟩ (lv' := [(5, .int y5_6), (8, .int y8_5), (7, .int y7_4), (0, .ref (ad 33)), (1, .int x1), (2, .long x2), (4, .int x4), (6, .int x6_3)]) (by decide) rfl ?_
          refine g_iinc (pc' := 67) O ⟨dX2_waysTo_64, rfl⟩ (q := 7) (v := x6_3 + (1 : Int32)) (lv' := [(6, .int (x6_3 + (1 : Int32))), (5, .int y5_6), (8, .int y8_5), (7, .int y7_4), (0, .ref (ad 33)), (1, .int x1), (2, .long x2), (4, .int x4)]) rfl rfl (by decide) rfl ?_
          refine g_goto (pc' := 70) O ⟨dX2_waysTo_67, rfl⟩ (tgt := 6) (by decide) ?_
          refine g_sub (lv' := [(0, .ref (ad 33)), (1, .int x1), (2, .long x2), (4, .int x4), (5, .int y5_6), (6, .int (x6_3 + (1 : Int32)))]) [4, 5, 6, 7, 1, 0] rfl ?_
          exact ih6 _ _ E
set_option maxRecDepth 100000 in
set_option maxHeartbeats 4000000 in
theorem t_X2_countOf_33 (l : Launch) (D : va_G) (ad : Nat → Nat) (cy : Nat → ClassId) {h : Hp} {x1 : Int64} {x3 : Int64} {x5 : Int32} {o : Int32 × Hp} (E : f_X2_countOf_33 h x1 x3 x5 = some o) : CtI l D cy (WC ad cy) yX2_countOf cX2_countOf 8 .int 1 28 [.ref (ad 33), .long x1, .long x3, .int x5] h o.1 o.2 := by
  refine sI (own := RX2) rfl rfl (Nat.le_of_ble_eq_true rfl) (fun X O hret => ?_)
  show G l D X 8 (WC ad cy) 0 0 h 0 [(0, .ref (ad 33)), (1, .long x1), (3, .long x3), (5, .int x5)] []
  unfold f_X2_countOf_33 at E
  refine g_iconst (pc' := 1) O ⟨dX2_countOf_0, rfl⟩ (v := (1 : Int32)) rfl ?_
  refine g_iload (pc' := 3) O ⟨dX2_countOf_1, rfl⟩ (q := 3) rfl ?_
  refine g_ishl (pc' := 4) O ⟨dX2_countOf_3, rfl⟩ ?_
  refine g_iconst (pc' := 5) O ⟨dX2_countOf_4, rfl⟩ (v := (1 : Int32)) rfl ?_
  refine g_isub (pc' := 6) O ⟨dX2_countOf_5, rfl⟩ ?_
  refine g_nm E (fun y6_1 E => ?_)
  refine g_istore (pc' := 8) O ⟨dX2_countOf_6, rfl⟩ (lv' := [(6, .int y6_1), (0, .ref (ad 33)), (1, .long x1), (3, .long x3), (5, .int x5)]) (by decide) rfl ?_
  refine g_aload_n (pc' := 9) O ⟨dX2_countOf_8, rfl⟩ (q := 1) rfl rfl ?_
  refine gf_C_RX2_9_33 ad cy (pc' := 12) O ⟨dX2_countOf_9, rfl⟩ ?_
  refine g_iconst (pc' := 13) O ⟨dX2_countOf_12, rfl⟩ (v := (0 : Int32)) rfl ?_
  refine g_iconst (pc' := 14) O ⟨dX2_countOf_13, rfl⟩ (v := (1 : Int32)) rfl ?_
  refine g_iast (pc' := 15) O ⟨dX2_countOf_14, rfl⟩ (wC_34 ad cy h) (vC_34 ad cy h _) E (fun E => ?_)
  refine g_nmh E (fun h_2 E => ?_)
  refine g_iconst (pc' := 16) O ⟨dX2_countOf_15, rfl⟩ (v := (1 : Int32)) rfl ?_
  refine g_istore (pc' := 18) O ⟨dX2_countOf_16, rfl⟩ (lv' := [(7, .int (1 : Int32)), (6, .int y6_1), (0, .ref (ad 33)), (1, .long x1), (3, .long x3), (5, .int x5)]) (by decide) rfl ?_
  refine jn1_of (P := fun (h_3 : Hp) => G l D X 8 (WC ad cy) 0 0 h_3 62 [(0, .ref (ad 33)), (6, .int y6_1)] []) E ?_ ?_
  · intro h_3 E
    show G l D X 8 (WC ad cy) 0 0 h_3 62 [(0, .ref (ad 33)), (6, .int y6_1)] []
    refine g_aload_n (pc' := 63) O ⟨dX2_countOf_62, rfl⟩ (q := 0) rfl rfl ?_
    refine gf_C_RX2_9_33 ad cy (pc' := 66) O ⟨dX2_countOf_63, rfl⟩ ?_
    refine g_iload (pc' := 68) O ⟨dX2_countOf_66, rfl⟩ (q := 1) rfl ?_
    refine g_iald (pc' := 69) O ⟨dX2_countOf_68, rfl⟩ (wC_34 ad cy h_3) E (fun E => ?_)
    cases E
    exact hret _ _ _ ⟨dX2_countOf_69, rfl⟩ rfl
  · intro k62 hk62 E
    refine g_sub (lv' := [(0, .ref (ad 33)), (1, .long x1), (3, .long x3), (5, .int x5), (6, .int y6_1), (7, .int (1 : Int32))]) [2, 3, 4, 5, 1, 0] rfl ?_
    refine fx2_of (P := fun (x7_4 : Int32) (h_5 : Hp) => G l D X 8 (WC ad cy) 0 0 h_5 18 [(0, .ref (ad 33)), (1, .long x1), (3, .long x3), (5, .int x5), (6, .int y6_1), (7, .int x7_4)] []) ?_ _ _ _ E
    intro self ih18 x7_4 h_5 E
    show G l D X 8 (WC ad cy) 0 0 h_5 18 [(0, .ref (ad 33)), (1, .long x1), (3, .long x3), (5, .int x5), (6, .int y6_1), (7, .int x7_4)] []
    unfold L_X2_countOf_33_18 at E
    refine g_iload (pc' := 20) O ⟨dX2_countOf_18, rfl⟩ (q := 5) rfl ?_
    refine g_iload (pc' := 22) O ⟨dX2_countOf_20, rfl⟩ (q := 4) rfl ?_
    refine g_icmp_gt (pc' := 25) O ⟨dX2_countOf_22, rfl⟩ E (tgt := 62) (by decide) (fun E => ?_) (fun E => ?_)
    · refine g_sub (lv' := [(0, .ref (ad 33)), (6, .int y6_1)]) [0, 4] rfl ?_
      exact hk62 _ E
    · refine g_aload_n (pc' := 26) O ⟨dX2_countOf_25, rfl⟩ (q := 0) rfl rfl ?_
      refine gf_C_RX2_9_33 ad cy (pc' := 29) O ⟨dX2_countOf_26, rfl⟩ ?_
      refine g_iload (pc' := 31) O ⟨dX2_countOf_29, rfl⟩ (q := 5) rfl ?_
      refine g_lload_n (pc' := 32) O ⟨dX2_countOf_31, rfl⟩ (q := 1) rfl rfl ?_
      refine g_iload (pc' := 34) O ⟨dX2_countOf_32, rfl⟩ (q := 5) rfl ?_
      refine g_lushr (pc' := 35) O ⟨dX2_countOf_34, rfl⟩ ?_
      refine g_lconst (pc' := 36) O ⟨dX2_countOf_35, rfl⟩ (v := (1 : Int64)) rfl ?_
      refine g_land (pc' := 37) O ⟨dX2_countOf_36, rfl⟩ ?_
      refine g_lconst (pc' := 38) O ⟨dX2_countOf_37, rfl⟩ (v := (0 : Int64)) rfl ?_
      refine g_lcmp (pc' := 39) O ⟨dX2_countOf_38, rfl⟩ ?_
      refine g_if_ne (pc' := 42) O ⟨dX2_countOf_39, rfl⟩ E (tgt := 46) (by decide) (fun E => ?_) (fun E => ?_)
      · refine g_aload_n (pc' := 47) O ⟨dX2_countOf_46, rfl⟩ (q := 0) rfl rfl ?_
        refine g_iload (pc' := 49) O ⟨dX2_countOf_47, rfl⟩ (q := 5) rfl ?_
        refine g_lload_n (pc' := 50) O ⟨dX2_countOf_49, rfl⟩ (q := 2) rfl rfl ?_
        refine g_iload (pc' := 52) O ⟨dX2_countOf_50, rfl⟩ (q := 3) rfl ?_
        obtain ⟨r_6, c_7, E⟩ := bd_of E
        refine g_Vi (pc' := 55) O ⟨dX2_countOf_52, rfl⟩ (y := yX2_waysTo) (As := [.int x7_4, .long x3, .int x5]) (st := [.int x7_4, .ref (ad 34)]) (t_X2_waysTo_33 l D ad cy (h := h_5) c_7) kw_400 kw_29 kw_397 kw_399 kw_4 rfl (wC_33 ad cy h_5) hd_X2_waysTo ⟨Nat.le_of_ble_eq_true rfl, Nat.le_of_ble_eq_true rfl⟩ ⟨Nat.le_of_ble_eq_true rfl, Nat.le_of_ble_eq_true rfl⟩ rfl (Nat.le_of_ble_eq_true rfl) ?_
        refine g_iast (pc' := 56) O ⟨dX2_countOf_55, rfl⟩ (wC_34 ad cy h_5) (vC_34 ad cy h_5 _) E (fun E => ?_)
        refine g_nmh E (fun h_8 E => ?_)
        refine g_iinc (pc' := 59) O ⟨dX2_countOf_56, rfl⟩ (q := 5) (v := x7_4 + (1 : Int32)) (lv' := [(7, .int (x7_4 + (1 : Int32))), (0, .ref (ad 33)), (1, .long x1), (3, .long x3), (5, .int x5), (6, .int y6_1)]) rfl rfl (by decide) rfl ?_
        refine g_goto (pc' := 62) O ⟨dX2_countOf_59, rfl⟩ (tgt := 18) (by decide) ?_
        refine g_sub (lv' := [(0, .ref (ad 33)), (1, .long x1), (3, .long x3), (5, .int x5), (6, .int y6_1), (7, .int (x7_4 + (1 : Int32)))]) [1, 2, 3, 4, 5, 0] rfl ?_
        exact ih18 _ _ E
      · refine g_iconst (pc' := 43) O ⟨dX2_countOf_42, rfl⟩ (v := (0 : Int32)) rfl ?_
        refine g_goto (pc' := 46) O ⟨dX2_countOf_43, rfl⟩ (tgt := 55) (by decide) ?_
        refine g_iast (pc' := 56) O ⟨dX2_countOf_55, rfl⟩ (wC_34 ad cy h_5) (vC_34 ad cy h_5 _) E (fun E => ?_)
        refine g_nmh E (fun h_9 E => ?_)
        refine g_iinc (pc' := 59) O ⟨dX2_countOf_56, rfl⟩ (q := 5) (v := x7_4 + (1 : Int32)) (lv' := [(7, .int (x7_4 + (1 : Int32))), (0, .ref (ad 33)), (1, .long x1), (3, .long x3), (5, .int x5), (6, .int y6_1)]) rfl rfl (by decide) rfl ?_
        refine g_goto (pc' := 62) O ⟨dX2_countOf_59, rfl⟩ (tgt := 18) (by decide) ?_
        refine g_sub (lv' := [(0, .ref (ad 33)), (1, .long x1), (3, .long x3), (5, .int x5), (6, .int y6_1), (7, .int (x7_4 + (1 : Int32)))]) [1, 2, 3, 4, 5, 0] rfl ?_
        exact ih18 _ _ E
set_option maxRecDepth 100000 in
set_option maxHeartbeats 4000000 in
theorem t_X0_countOf_33 (l : Launch) (D : va_G) (ad : Nat → Nat) (cy : Nat → ClassId) {h : Hp} {x1 : Int64} {x3 : Int32} {o : Int32 × Hp} (E : f_X0_countOf_33 h x1 x3 = some o) : CtI l D cy (WC ad cy) yX0_countOf cX0_countOf 4 .int 2 55 [.ref (ad 33), .long x1, .int x3] h o.1 o.2 := by
  refine sI (own := RX0) rfl rfl (Nat.le_of_ble_eq_true rfl) (fun X O hret => ?_)
  show G l D X 4 (WC ad cy) 0 0 h 0 [(0, .ref (ad 33)), (1, .long x1), (3, .int x3)] []
  unfold f_X0_countOf_33 at E
  refine g_aload_n (pc' := 1) O ⟨dX0_countOf_0, rfl⟩ (q := 0) rfl rfl ?_
  refine g_ldc2 (pc' := 4) O ⟨dX0_countOf_1, rfl⟩ kw_392 ?_
  refine g_lload_n (pc' := 5) O ⟨dX0_countOf_4, rfl⟩ (q := 1) rfl rfl ?_
  refine g_iload_n (pc' := 6) O ⟨dX0_countOf_5, rfl⟩ (q := 2) rfl rfl ?_
  obtain ⟨r_1, c_2, E⟩ := bd_of E
  refine g_Vi (pc' := 9) O ⟨dX0_countOf_6, rfl⟩ (y := yX2_countOf) (As := [.long (-1 : Int64), .long x1, .int x3]) (st := []) (t_X2_countOf_33 l D ad cy (h := h) c_2) kw_396 kw_29 kw_393 kw_394 kw_395 rfl (wC_33 ad cy h) hd_X2_countOf ⟨Nat.le_of_ble_eq_true rfl, Nat.le_of_ble_eq_true rfl⟩ ⟨Nat.le_of_ble_eq_true rfl, Nat.le_of_ble_eq_true rfl⟩ rfl (Nat.le_of_ble_eq_true rfl) ?_
  cases E
  exact hret _ _ _ ⟨dX0_countOf_9, rfl⟩ rfl
set_option maxRecDepth 100000 in
set_option maxHeartbeats 4000000 in
theorem t_X0_answer_32 (l : Launch) (D : va_G) (ad : Nat → Nat) (cy : Nat → ClassId) {h : Hp} {x1 : Int32} {x2 : Int32} {x3 : Int32} {o : Int32 × Hp} (E : f_X0_answer_32 h x1 x2 x3 = some o) : CtI l D cy (WC ad cy) yX0_answer cX0_answer 11 .boolean 3 78 [.ref (ad 32), .int x1, .int x2, .int x3] h o.1 o.2 := by
  refine sI (own := RX0) rfl rfl (Nat.le_of_ble_eq_true rfl) (fun X O hret => ?_)
  show G l D X 11 (WC ad cy) 0 0 h 0 [(0, .ref (ad 32)), (1, .int x1), (2, .int x2), (3, .int x3)] []
  unfold f_X0_answer_32 at E
  refine g_aload_n (pc' := 1) O ⟨dX0_answer_0, rfl⟩ (q := 0) rfl rfl ?_
  refine gf_C_RX0_9_32 ad cy (pc' := 4) O ⟨dX0_answer_1, rfl⟩ ?_
  refine g_iload_n (pc' := 5) O ⟨dX0_answer_4, rfl⟩ (q := 1) rfl rfl ?_
  refine g_iload_n (pc' := 6) O ⟨dX0_answer_5, rfl⟩ (q := 2) rfl rfl ?_
  obtain ⟨r_1, c_2, E⟩ := bd_of E
  refine g_Sl (pc' := 9) O ⟨dX0_answer_6, rfl⟩ (y := yX0_isLesser) (As := [.int x1, .int x2]) (st := [.long (h.2 32 0)]) (t_X0_isLesser l D ad cy (h := h) c_2) kw_388 kw_34 kw_386 kw_387 hd_X0_isLesser ⟨Nat.le_of_ble_eq_true rfl, Nat.le_of_ble_eq_true rfl⟩ ⟨Nat.le_of_ble_eq_true rfl, Nat.le_of_ble_eq_true rfl⟩ rfl (Nat.le_of_ble_eq_true rfl) ?_
  refine g_lor (pc' := 10) O ⟨dX0_answer_9, rfl⟩ ?_
  refine g_nmL E (fun y4_3 E => ?_)
  refine g_lstore (pc' := 12) O ⟨dX0_answer_10, rfl⟩ (lv' := [(4, .long y4_3), (0, .ref (ad 32)), (1, .int x1), (2, .int x2), (3, .int x3)]) (by decide) rfl ?_
  refine g_aload_n (pc' := 13) O ⟨dX0_answer_12, rfl⟩ (q := 1) rfl rfl ?_
  refine gf_C_RX0_9_32 ad cy (pc' := 16) O ⟨dX0_answer_13, rfl⟩ ?_
  refine g_iload_n (pc' := 17) O ⟨dX0_answer_16, rfl⟩ (q := 3) rfl rfl ?_
  refine g_iload_n (pc' := 18) O ⟨dX0_answer_17, rfl⟩ (q := 2) rfl rfl ?_
  obtain ⟨r_4, c_5, E⟩ := bd_of E
  refine g_Sl (pc' := 21) O ⟨dX0_answer_18, rfl⟩ (y := yX0_isLesser) (As := [.int x2, .int x1]) (st := [.long (h.2 32 0)]) (t_X0_isLesser l D ad cy (h := h) c_5) kw_388 kw_34 kw_386 kw_387 hd_X0_isLesser ⟨Nat.le_of_ble_eq_true rfl, Nat.le_of_ble_eq_true rfl⟩ ⟨Nat.le_of_ble_eq_true rfl, Nat.le_of_ble_eq_true rfl⟩ rfl (Nat.le_of_ble_eq_true rfl) ?_
  refine g_lor (pc' := 22) O ⟨dX0_answer_21, rfl⟩ ?_
  refine g_nmL E (fun y6_6 E => ?_)
  refine g_lstore (pc' := 24) O ⟨dX0_answer_22, rfl⟩ (lv' := [(6, .long y6_6), (4, .long y4_3), (0, .ref (ad 32)), (1, .int x1), (2, .int x2), (3, .int x3)]) (by decide) rfl ?_
  refine g_aload_n (pc' := 25) O ⟨dX0_answer_24, rfl⟩ (q := 2) rfl rfl ?_
  refine gf_C_RX0_18_32 ad cy (pc' := 28) O ⟨dX0_answer_25, rfl⟩ ?_
  refine g_lload (pc' := 30) O ⟨dX0_answer_28, rfl⟩ (q := 1) rfl ?_
  refine g_iload_n (pc' := 31) O ⟨dX0_answer_30, rfl⟩ (q := 5) rfl rfl ?_
  obtain ⟨r_7, c_8, E⟩ := bd_of E
  refine g_Si (pc' := 34) O ⟨dX0_answer_31, rfl⟩ (y := yX0_countOf) (As := [.ref (ad 33), .long y4_3, .int x3]) (st := []) (t_X0_countOf_33 l D ad cy (h := h) c_8) kw_391 kw_34 kw_389 kw_390 hd_X0_countOf ⟨Nat.le_of_ble_eq_true rfl, Nat.le_of_ble_eq_true rfl⟩ ⟨Nat.le_of_ble_eq_true rfl, Nat.le_of_ble_eq_true rfl⟩ rfl (Nat.le_of_ble_eq_true rfl) ?_
  refine g_istore (pc' := 36) O ⟨dX0_answer_34, rfl⟩ (lv' := [(8, .int r_7.1), (6, .long y6_6), (4, .long y4_3), (0, .ref (ad 32)), (1, .int x1), (2, .int x2), (3, .int x3)]) (by decide) rfl ?_
  refine g_aload_n (pc' := 37) O ⟨dX0_answer_36, rfl⟩ (q := 3) rfl rfl ?_
  refine gf_C_RX0_18_32 ad cy (pc' := 40) O ⟨dX0_answer_37, rfl⟩ ?_
  refine g_lload (pc' := 42) O ⟨dX0_answer_40, rfl⟩ (q := 1) rfl ?_
  refine g_iload_n (pc' := 43) O ⟨dX0_answer_42, rfl⟩ (q := 6) rfl rfl ?_
  obtain ⟨r_9, c_10, E⟩ := bd_of E
  refine g_Si (pc' := 46) O ⟨dX0_answer_43, rfl⟩ (y := yX0_countOf) (As := [.ref (ad 33), .long y6_6, .int x3]) (st := []) (t_X0_countOf_33 l D ad cy (h := r_7.2) c_10) kw_391 kw_34 kw_389 kw_390 hd_X0_countOf ⟨Nat.le_of_ble_eq_true rfl, Nat.le_of_ble_eq_true rfl⟩ ⟨Nat.le_of_ble_eq_true rfl, Nat.le_of_ble_eq_true rfl⟩ rfl (Nat.le_of_ble_eq_true rfl) ?_
  refine g_istore (pc' := 48) O ⟨dX0_answer_46, rfl⟩ (lv' := [(9, .int r_9.1), (8, .int r_7.1), (6, .long y6_6), (4, .long y4_3), (0, .ref (ad 32)), (1, .int x1), (2, .int x2), (3, .int x3)]) (by decide) rfl ?_
  refine g_iload (pc' := 50) O ⟨dX0_answer_48, rfl⟩ (q := 1) rfl ?_
  refine g_iload (pc' := 52) O ⟨dX0_answer_50, rfl⟩ (q := 0) rfl ?_
  refine jn1_of (P := fun (z_11 : Int32) => G l D X 11 (WC ad cy) 0 0 r_9.2 80 [(0, .ref (ad 32)), (4, .long y4_3), (6, .long y6_6)] [.int z_11]) E ?_ ?_
  · intro z_11 E
    show G l D X 11 (WC ad cy) 0 0 r_9.2 80 [(0, .ref (ad 32)), (4, .long y4_3), (6, .long y6_6)] [.int z_11]
    refine g_istore (pc' := 82) O ⟨dX0_answer_80, rfl⟩ (lv' := [(10, .int z_11), (0, .ref (ad 32)), (4, .long y4_3), (6, .long y6_6)]) (by decide) rfl ?_
    refine g_aload_n (pc' := 83) O ⟨dX0_answer_82, rfl⟩ (q := 1) rfl rfl ?_
    refine g_iload (pc' := 85) O ⟨dX0_answer_83, rfl⟩ (q := 0) rfl ?_
    refine g_if_eq (pc' := 88) O ⟨dX0_answer_85, rfl⟩ E (tgt := 93) (by decide) (fun E => ?_) (fun E => ?_)
    · refine g_lload (pc' := 95) O ⟨dX0_answer_93, rfl⟩ (q := 3) rfl ?_
      refine gp_C_RX0_9_32 ad cy (pc' := 98) O ⟨dX0_answer_95, rfl⟩ ?_
      refine g_nmh E (fun h_12 E => ?_)
      refine g_iload (pc' := 100) O ⟨dX0_answer_98, rfl⟩ (q := 0) rfl ?_
      obtain ⟨hn, E⟩ := ckz_of E
      cases E
      exact hret _ _ _ ⟨dX0_answer_100, rfl⟩ hn
    · refine g_lload (pc' := 90) O ⟨dX0_answer_88, rfl⟩ (q := 2) rfl ?_
      refine g_goto (pc' := 93) O ⟨dX0_answer_90, rfl⟩ (tgt := 95) (by decide) ?_
      refine gp_C_RX0_9_32 ad cy (pc' := 98) O ⟨dX0_answer_95, rfl⟩ ?_
      refine g_nmh E (fun h_13 E => ?_)
      refine g_iload (pc' := 100) O ⟨dX0_answer_98, rfl⟩ (q := 0) rfl ?_
      obtain ⟨hn, E⟩ := ckz_of E
      cases E
      exact hret _ _ _ ⟨dX0_answer_100, rfl⟩ hn
  · intro k80 hk80 E
    refine g_icmp_ne (pc' := 55) O ⟨dX0_answer_52, rfl⟩ E (tgt := 68) (by decide) (fun E => ?_) (fun E => ?_)
    · refine g_iload (pc' := 70) O ⟨dX0_answer_68, rfl⟩ (q := 1) rfl ?_
      refine g_iload (pc' := 72) O ⟨dX0_answer_70, rfl⟩ (q := 0) rfl ?_
      refine g_icmp_le (pc' := 75) O ⟨dX0_answer_72, rfl⟩ E (tgt := 79) (by decide) (fun E => ?_) (fun E => ?_)
      · refine g_iconst (pc' := 80) O ⟨dX0_answer_79, rfl⟩ (v := (0 : Int32)) rfl ?_
        refine g_sub (lv' := [(0, .ref (ad 32)), (4, .long y4_3), (6, .long y6_6)]) [4, 3, 2] rfl ?_
        exact hk80 _ E
      · refine g_iconst (pc' := 76) O ⟨dX0_answer_75, rfl⟩ (v := (1 : Int32)) rfl ?_
        refine g_goto (pc' := 79) O ⟨dX0_answer_76, rfl⟩ (tgt := 80) (by decide) ?_
        refine g_sub (lv' := [(0, .ref (ad 32)), (4, .long y4_3), (6, .long y6_6)]) [4, 3, 2] rfl ?_
        exact hk80 _ E
    · refine g_iload_n (pc' := 56) O ⟨dX0_answer_55, rfl⟩ (q := 5) rfl rfl ?_
      refine g_iload_n (pc' := 57) O ⟨dX0_answer_56, rfl⟩ (q := 6) rfl rfl ?_
      refine g_icmp_ge (pc' := 60) O ⟨dX0_answer_57, rfl⟩ E (tgt := 64) (by decide) (fun E => ?_) (fun E => ?_)
      · refine g_iconst (pc' := 65) O ⟨dX0_answer_64, rfl⟩ (v := (0 : Int32)) rfl ?_
        refine g_goto (pc' := 68) O ⟨dX0_answer_65, rfl⟩ (tgt := 80) (by decide) ?_
        refine g_sub (lv' := [(0, .ref (ad 32)), (4, .long y4_3), (6, .long y6_6)]) [4, 3, 2] rfl ?_
        exact hk80 _ E
      · refine g_iconst (pc' := 61) O ⟨dX0_answer_60, rfl⟩ (v := (1 : Int32)) rfl ?_
        refine g_goto (pc' := 64) O ⟨dX0_answer_61, rfl⟩ (tgt := 80) (by decide) ?_
        refine g_sub (lv' := [(0, .ref (ad 32)), (4, .long y4_3), (6, .long y6_6)]) [4, 3, 2] rfl ?_
        exact hk80 _ E
set_option maxRecDepth 100000 in
set_option maxHeartbeats 4000000 in
theorem t_X0_rowsLeft_32 (l : Launch) (D : va_G) (ad : Nat → Nat) (cy : Nat → ClassId) {h : Hp} {x1 : Int32} {o : Int32 × Hp} (E : f_X0_rowsLeft_32 h x1 = some o) : CtI l D cy (WC ad cy) yX0_rowsLeft cX0_rowsLeft 2 .int 3 78 [.ref (ad 32), .int x1] h o.1 o.2 := by
  refine sI (own := RX0) rfl rfl (Nat.le_of_ble_eq_true rfl) (fun X O hret => ?_)
  show G l D X 2 (WC ad cy) 0 0 h 0 [(0, .ref (ad 32)), (1, .int x1)] []
  unfold f_X0_rowsLeft_32 at E
  refine g_aload_n (pc' := 1) O ⟨dX0_rowsLeft_0, rfl⟩ (q := 0) rfl rfl ?_
  refine gf_C_RX0_18_32 ad cy (pc' := 4) O ⟨dX0_rowsLeft_1, rfl⟩ ?_
  refine g_aload_n (pc' := 5) O ⟨dX0_rowsLeft_4, rfl⟩ (q := 0) rfl rfl ?_
  refine gf_C_RX0_9_32 ad cy (pc' := 8) O ⟨dX0_rowsLeft_5, rfl⟩ ?_
  refine g_iload_n (pc' := 9) O ⟨dX0_rowsLeft_8, rfl⟩ (q := 1) rfl rfl ?_
  obtain ⟨r_1, c_2, E⟩ := bd_of E
  refine g_Si (pc' := 12) O ⟨dX0_rowsLeft_9, rfl⟩ (y := yX0_countOf) (As := [.ref (ad 33), .long (h.2 32 0), .int x1]) (st := []) (t_X0_countOf_33 l D ad cy (h := h) c_2) kw_391 kw_34 kw_389 kw_390 hd_X0_countOf ⟨Nat.le_of_ble_eq_true rfl, Nat.le_of_ble_eq_true rfl⟩ ⟨Nat.le_of_ble_eq_true rfl, Nat.le_of_ble_eq_true rfl⟩ rfl (Nat.le_of_ble_eq_true rfl) ?_
  cases E
  exact hret _ _ _ ⟨dX0_rowsLeft_12, rfl⟩ rfl
set_option maxRecDepth 100000 in
set_option maxHeartbeats 4000000 in
theorem t_X10_left (l : Launch) (D : va_G) (ad : Nat → Nat) (cy : Nat → ClassId) {h : Hp}  {o : Int32 × Hp} (E : f_X10_left h = some o) : CtI l D cy (WC ad cy) yX10_left cX10_left 1 .int 4 99 [.ref (ad 0)] h o.1 o.2 := by
  refine sI (own := RX10) rfl rfl (Nat.le_of_ble_eq_true rfl) (fun X O hret => ?_)
  show G l D X 1 (WC ad cy) 0 0 h 0 [(0, .ref (ad 0))] []
  unfold f_X10_left at E
  refine g_aload_n (pc' := 1) O ⟨dX10_left_0, rfl⟩ (q := 0) rfl rfl ?_
  refine gf_C_RX10_64_0 ad cy (pc' := 4) O ⟨dX10_left_1, rfl⟩ ?_
  refine g_aload_n (pc' := 5) O ⟨dX10_left_4, rfl⟩ (q := 0) rfl rfl ?_
  refine gf_C_RX10_10_0 ad cy (pc' := 8) O ⟨dX10_left_5, rfl⟩ ?_
  refine gf_C_RX10_109_1 ad cy (pc' := 11) O ⟨dX10_left_8, rfl⟩ ?_
  obtain ⟨r_1, c_2, E⟩ := bd_of E
  refine g_Vi (pc' := 14) O ⟨dX10_left_11, rfl⟩ (y := yX0_rowsLeft) (As := [.int (h.1 1 0)]) (st := []) (t_X0_rowsLeft_32 l D ad cy (h := h) c_2) kw_695 kw_34 kw_711 kw_693 kw_694 rfl (wC_32 ad cy h) hd_X0_rowsLeft ⟨Nat.le_of_ble_eq_true rfl, Nat.le_of_ble_eq_true rfl⟩ ⟨Nat.le_of_ble_eq_true rfl, Nat.le_of_ble_eq_true rfl⟩ rfl (Nat.le_of_ble_eq_true rfl) ?_
  cases E
  exact hret _ _ _ ⟨dX10_left_14, rfl⟩ rfl
set_option maxRecDepth 100000 in
set_option maxHeartbeats 4000000 in
theorem t_X0_canSettle_33 (l : Launch) (D : va_G) (ad : Nat → Nat) (cy : Nat → ClassId) : ∀ (d : Nat) {h : Hp} {x1 : Int64} {x3 : Int32} {x4 : Int32} {x5 : Int32}{o : Int32 × Hp}, f_X0_canSettle_33 d h x1 x3 x4 x5 = some o → CtI l D cy (WC ad cy) yX0_canSettle cX0_canSettle 14 .boolean (3 + d) (78 + d * 33) [.ref (ad 33), .long x1, .int x3, .int x4, .int x5] h o.1 o.2 := by
  intro d
  induction d with
  | zero => intro h x1 x3 x4 x5 o E; cases E
  | succ d ihd =>
    intro h x1 x3 x4 x5 o E
    refine sI (own := RX0) rfl rfl (Nat.le_of_ble_eq_true rfl) (fun X O hret => ?_)
    show G l D X 14 (WC ad cy) 0 0 h 0 [(0, .ref (ad 33)), (1, .long x1), (3, .int x3), (4, .int x4), (5, .int x5)] []
    unfold f_X0_canSettle_33 at E
    refine g_iload_n (pc' := 1) O ⟨dX0_canSettle_0, rfl⟩ (q := 2) rfl rfl ?_
    refine g_iconst (pc' := 2) O ⟨dX0_canSettle_1, rfl⟩ (v := (1 : Int32)) rfl ?_
    refine g_icmp_gt (pc' := 5) O ⟨dX0_canSettle_2, rfl⟩ E (tgt := 7) (by decide) (fun E => ?_) (fun E => ?_)
    · refine g_iload (pc' := 9) O ⟨dX0_canSettle_7, rfl⟩ (q := 4) rfl ?_
      refine g_if_le (pc' := 12) O ⟨dX0_canSettle_9, rfl⟩ E (tgt := 20) (by decide) (fun E => ?_) (fun E => ?_)
      · refine g_iconst (pc' := 21) O ⟨dX0_canSettle_20, rfl⟩ (v := (0 : Int32)) rfl ?_
        obtain ⟨hn, E⟩ := ckz_of E
        cases E
        exact hret _ _ _ ⟨dX0_canSettle_21, rfl⟩ hn
      · refine g_iload_n (pc' := 13) O ⟨dX0_canSettle_12, rfl⟩ (q := 2) rfl rfl ?_
        refine g_iconst (pc' := 14) O ⟨dX0_canSettle_13, rfl⟩ (v := (1 : Int32)) rfl ?_
        refine g_iload (pc' := 16) O ⟨dX0_canSettle_14, rfl⟩ (q := 4) rfl ?_
        refine g_ishl (pc' := 17) O ⟨dX0_canSettle_16, rfl⟩ ?_
        refine g_icmp_le (pc' := 20) O ⟨dX0_canSettle_17, rfl⟩ E (tgt := 22) (by decide) (fun E => ?_) (fun E => ?_)
        · refine g_iconst (pc' := 23) O ⟨dX0_canSettle_22, rfl⟩ (v := (0 : Int32)) rfl ?_
          refine g_istore (pc' := 25) O ⟨dX0_canSettle_23, rfl⟩ (lv' := [(6, .int (0 : Int32)), (0, .ref (ad 33)), (1, .long x1), (3, .int x3), (4, .int x4), (5, .int x5)]) (by decide) rfl ?_
          refine jn1_of (P := fun (h_1 : Hp) => G l D X 14 (WC ad cy) 0 0 h_1 141 [] []) E ?_ ?_
          · intro h_1 E
            show G l D X 14 (WC ad cy) 0 0 h_1 141 [] []
            refine g_iconst (pc' := 142) O ⟨dX0_canSettle_141, rfl⟩ (v := (0 : Int32)) rfl ?_
            obtain ⟨hn, E⟩ := ckz_of E
            cases E
            exact hret _ _ _ ⟨dX0_canSettle_142, rfl⟩ hn
          · intro k141 hk141 E
            refine jn1_of (P := fun (h_2 : Hp) => G l D X 14 (WC ad cy) 0 0 h_2 127 [] []) E ?_ ?_
            · intro h_2 E
              show G l D X 14 (WC ad cy) 0 0 h_2 127 [] []
              refine g_iconst (pc' := 128) O ⟨dX0_canSettle_127, rfl⟩ (v := (1 : Int32)) rfl ?_
              obtain ⟨hn, E⟩ := ckz_of E
              cases E
              exact hret _ _ _ ⟨dX0_canSettle_128, rfl⟩ hn
            · intro k127 hk127 E
              refine g_sub (lv' := [(0, .ref (ad 33)), (1, .long x1), (3, .int x3), (4, .int x4), (5, .int x5), (6, .int (0 : Int32))]) [1, 2, 3, 4, 5, 0] rfl ?_
              refine fx2_of (P := fun (x6_3 : Int32) (h_4 : Hp) => G l D X 14 (WC ad cy) 0 0 h_4 25 [(0, .ref (ad 33)), (1, .long x1), (3, .int x3), (4, .int x4), (5, .int x5), (6, .int x6_3)] []) ?_ _ _ _ E
              intro self ih25 x6_3 h_4 E
              show G l D X 14 (WC ad cy) 0 0 h_4 25 [(0, .ref (ad 33)), (1, .long x1), (3, .int x3), (4, .int x4), (5, .int x5), (6, .int x6_3)] []
              unfold L_X0_canSettle_33_25 at E
              refine g_iload (pc' := 27) O ⟨dX0_canSettle_25, rfl⟩ (q := 5) rfl ?_
              refine g_iload (pc' := 29) O ⟨dX0_canSettle_27, rfl⟩ (q := 3) rfl ?_
              refine g_icmp_ge (pc' := 32) O ⟨dX0_canSettle_29, rfl⟩ E (tgt := 141) (by decide) (fun E => ?_) (fun E => ?_)
              · refine g_sub (lv' := []) [] rfl ?_
                exact hk141 _ E
              · refine g_iload (pc' := 34) O ⟨dX0_canSettle_32, rfl⟩ (q := 5) rfl ?_
                refine g_iconst (pc' := 35) O ⟨dX0_canSettle_34, rfl⟩ (v := (1 : Int32)) rfl ?_
                refine g_iadd (pc' := 36) O ⟨dX0_canSettle_35, rfl⟩ ?_
                refine g_nm E (fun y7_5 E => ?_)
                refine g_istore (pc' := 38) O ⟨dX0_canSettle_36, rfl⟩ (lv' := [(7, .int y7_5), (0, .ref (ad 33)), (1, .long x1), (3, .int x3), (4, .int x4), (5, .int x5), (6, .int x6_3)]) (by decide) rfl ?_
                refine jn1_of (P := fun (h_6 : Hp) => G l D X 14 (WC ad cy) 0 0 h_6 135 [(0, .ref (ad 33)), (1, .long x1), (3, .int x3), (4, .int x4), (5, .int x5), (6, .int x6_3)] []) E ?_ ?_
                · intro h_6 E
                  show G l D X 14 (WC ad cy) 0 0 h_6 135 [(0, .ref (ad 33)), (1, .long x1), (3, .int x3), (4, .int x4), (5, .int x5), (6, .int x6_3)] []
                  refine g_iinc (pc' := 138) O ⟨dX0_canSettle_135, rfl⟩ (q := 5) (v := x6_3 + (1 : Int32)) (lv' := [(6, .int (x6_3 + (1 : Int32))), (0, .ref (ad 33)), (1, .long x1), (3, .int x3), (4, .int x4), (5, .int x5)]) rfl rfl (by decide) rfl ?_
                  refine g_goto (pc' := 141) O ⟨dX0_canSettle_138, rfl⟩ (tgt := 25) (by decide) ?_
                  refine g_sub (lv' := [(0, .ref (ad 33)), (1, .long x1), (3, .int x3), (4, .int x4), (5, .int x5), (6, .int (x6_3 + (1 : Int32)))]) [1, 2, 3, 4, 5, 0] rfl ?_
                  exact ih25 _ _ E
                · intro k135 hk135 E
                  refine g_sub (lv' := [(0, .ref (ad 33)), (1, .long x1), (3, .int x3), (4, .int x4), (5, .int x5), (6, .int x6_3), (7, .int y7_5)]) [1, 2, 3, 4, 5, 6, 0] rfl ?_
                  refine fx2_of (P := fun (x7_7 : Int32) (h_8 : Hp) => G l D X 14 (WC ad cy) 0 0 h_8 38 [(0, .ref (ad 33)), (1, .long x1), (3, .int x3), (4, .int x4), (5, .int x5), (6, .int x6_3), (7, .int x7_7)] []) ?_ _ _ _ E
                  intro self ih38 x7_7 h_8 E
                  show G l D X 14 (WC ad cy) 0 0 h_8 38 [(0, .ref (ad 33)), (1, .long x1), (3, .int x3), (4, .int x4), (5, .int x5), (6, .int x6_3), (7, .int x7_7)] []
                  unfold L_X0_canSettle_33_38 at E
                  refine g_iload (pc' := 40) O ⟨dX0_canSettle_38, rfl⟩ (q := 6) rfl ?_
                  refine g_iload (pc' := 42) O ⟨dX0_canSettle_40, rfl⟩ (q := 3) rfl ?_
                  refine g_icmp_ge (pc' := 45) O ⟨dX0_canSettle_42, rfl⟩ E (tgt := 135) (by decide) (fun E => ?_) (fun E => ?_)
                  · refine g_sub (lv' := [(0, .ref (ad 33)), (1, .long x1), (3, .int x3), (4, .int x4), (5, .int x5), (6, .int x6_3)]) [0, 1, 2, 3, 4, 5] rfl ?_
                    exact hk135 _ E
                  · refine g_lload_n (pc' := 46) O ⟨dX0_canSettle_45, rfl⟩ (q := 1) rfl rfl ?_
                    refine g_iload (pc' := 48) O ⟨dX0_canSettle_46, rfl⟩ (q := 5) rfl ?_
                    refine g_iload (pc' := 50) O ⟨dX0_canSettle_48, rfl⟩ (q := 6) rfl ?_
                    obtain ⟨r_9, c_10, E⟩ := bd_of E
                    refine g_Sl (pc' := 53) O ⟨dX0_canSettle_50, rfl⟩ (y := yX0_isLesser) (As := [.int x6_3, .int x7_7]) (st := [.long x1]) (t_X0_isLesser l D ad cy (h := h_8) c_10) kw_388 kw_34 kw_386 kw_387 hd_X0_isLesser ⟨by simp only [RM]; omega, by simp only [RM]; omega⟩ ⟨Nat.le_of_ble_eq_true rfl, Nat.le_of_ble_eq_true rfl⟩ rfl (Nat.le_of_ble_eq_true rfl) ?_
                    refine g_lor (pc' := 54) O ⟨dX0_canSettle_53, rfl⟩ ?_
                    refine g_nmL E (fun y8_11 E => ?_)
                    refine g_lstore (pc' := 56) O ⟨dX0_canSettle_54, rfl⟩ (lv' := [(8, .long y8_11), (0, .ref (ad 33)), (1, .long x1), (3, .int x3), (4, .int x4), (5, .int x5), (6, .int x6_3), (7, .int x7_7)]) (by decide) rfl ?_
                    refine g_lload_n (pc' := 57) O ⟨dX0_canSettle_56, rfl⟩ (q := 2) rfl rfl ?_
                    refine g_iload (pc' := 59) O ⟨dX0_canSettle_57, rfl⟩ (q := 7) rfl ?_
                    refine g_iload (pc' := 61) O ⟨dX0_canSettle_59, rfl⟩ (q := 6) rfl ?_
                    obtain ⟨r_12, c_13, E⟩ := bd_of E
                    refine g_Sl (pc' := 64) O ⟨dX0_canSettle_61, rfl⟩ (y := yX0_isLesser) (As := [.int x7_7, .int x6_3]) (st := [.long x1]) (t_X0_isLesser l D ad cy (h := h_8) c_13) kw_388 kw_34 kw_386 kw_387 hd_X0_isLesser ⟨by simp only [RM]; omega, by simp only [RM]; omega⟩ ⟨Nat.le_of_ble_eq_true rfl, Nat.le_of_ble_eq_true rfl⟩ rfl (Nat.le_of_ble_eq_true rfl) ?_
                    refine g_lor (pc' := 65) O ⟨dX0_canSettle_64, rfl⟩ ?_
                    refine g_nmL E (fun y10_14 E => ?_)
                    refine g_lstore (pc' := 67) O ⟨dX0_canSettle_65, rfl⟩ (lv' := [(10, .long y10_14), (8, .long y8_11), (0, .ref (ad 33)), (1, .long x1), (3, .int x3), (4, .int x4), (5, .int x5), (6, .int x6_3), (7, .int x7_7)]) (by decide) rfl ?_
                    refine g_aload_n (pc' := 68) O ⟨dX0_canSettle_67, rfl⟩ (q := 2) rfl rfl ?_
                    refine g_lload (pc' := 70) O ⟨dX0_canSettle_68, rfl⟩ (q := 1) rfl ?_
                    refine g_iload (pc' := 72) O ⟨dX0_canSettle_70, rfl⟩ (q := 5) rfl ?_
                    obtain ⟨r_15, c_16, E⟩ := bd_of E
                    refine g_Si (pc' := 75) O ⟨dX0_canSettle_72, rfl⟩ (y := yX0_countOf) (As := [.ref (ad 33), .long y8_11, .int x4]) (st := []) (t_X0_countOf_33 l D ad cy (h := h_8) c_16) kw_391 kw_34 kw_389 kw_390 hd_X0_countOf ⟨by simp only [RM]; omega, by simp only [RM]; omega⟩ ⟨Nat.le_of_ble_eq_true rfl, Nat.le_of_ble_eq_true rfl⟩ rfl (Nat.le_of_ble_eq_true rfl) ?_
                    refine g_istore (pc' := 77) O ⟨dX0_canSettle_75, rfl⟩ (lv' := [(12, .int r_15.1), (10, .long y10_14), (8, .long y8_11), (0, .ref (ad 33)), (1, .long x1), (3, .int x3), (4, .int x4), (5, .int x5), (6, .int x6_3), (7, .int x7_7)]) (by decide) rfl ?_
                    refine g_iload_n (pc' := 78) O ⟨dX0_canSettle_77, rfl⟩ (q := 5) rfl rfl ?_
                    refine g_iload (pc' := 80) O ⟨dX0_canSettle_78, rfl⟩ (q := 0) rfl ?_
                    refine g_isub (pc' := 81) O ⟨dX0_canSettle_80, rfl⟩ ?_
                    refine g_nm E (fun y13_17 E => ?_)
                    refine g_istore (pc' := 83) O ⟨dX0_canSettle_81, rfl⟩ (lv' := [(13, .int y13_17), (12, .int r_15.1), (10, .long y10_14), (8, .long y8_11), (0, .ref (ad 33)), (1, .long x1), (3, .int x3), (4, .int x4), (5, .int x5), (6, .int x6_3), (7, .int x7_7)]) (by decide) rfl ?_
                    refine g_iload (pc' := 85) O ⟨dX0_canSettle_83, rfl⟩ (q := 1) rfl ?_
                    refine g_if_le (pc' := 88) O ⟨dX0_canSettle_85, rfl⟩ E (tgt := 129) (by decide) (fun E => ?_) (fun E => ?_)
                    · refine g_iinc (pc' := 132) O ⟨dX0_canSettle_129, rfl⟩ (q := 10) (v := x7_7 + (1 : Int32)) (lv' := [(7, .int (x7_7 + (1 : Int32))), (13, .int y13_17), (12, .int r_15.1), (10, .long y10_14), (8, .long y8_11), (0, .ref (ad 33)), (1, .long x1), (3, .int x3), (4, .int x4), (5, .int x5), (6, .int x6_3)]) rfl rfl (by decide) rfl ?_
                      refine g_goto (pc' := 135) O ⟨dX0_canSettle_132, rfl⟩ (tgt := 38) (by decide) ?_
                      refine g_sub (lv' := [(0, .ref (ad 33)), (1, .long x1), (3, .int x3), (4, .int x4), (5, .int x5), (6, .int x6_3), (7, .int (x7_7 + (1 : Int32)))]) [5, 6, 7, 8, 9, 10, 0] rfl ?_
                      exact ih38 _ _ E
                    · refine g_iload (pc' := 90) O ⟨dX0_canSettle_88, rfl⟩ (q := 0) rfl ?_
                      refine g_if_le (pc' := 93) O ⟨dX0_canSettle_90, rfl⟩ E (tgt := 129) (by decide) (fun E => ?_) (fun E => ?_)
                      · refine g_iinc (pc' := 132) O ⟨dX0_canSettle_129, rfl⟩ (q := 10) (v := x7_7 + (1 : Int32)) (lv' := [(7, .int (x7_7 + (1 : Int32))), (13, .int y13_17), (12, .int r_15.1), (10, .long y10_14), (8, .long y8_11), (0, .ref (ad 33)), (1, .long x1), (3, .int x3), (4, .int x4), (5, .int x5), (6, .int x6_3)]) rfl rfl (by decide) rfl ?_
                        refine g_goto (pc' := 135) O ⟨dX0_canSettle_132, rfl⟩ (tgt := 38) (by decide) ?_
                        refine g_sub (lv' := [(0, .ref (ad 33)), (1, .long x1), (3, .int x3), (4, .int x4), (5, .int x5), (6, .int x6_3), (7, .int (x7_7 + (1 : Int32)))]) [5, 6, 7, 8, 9, 10, 0] rfl ?_
                        exact ih38 _ _ E
                      · refine g_aload_n (pc' := 94) O ⟨dX0_canSettle_93, rfl⟩ (q := 4) rfl rfl ?_
                        refine g_lload (pc' := 96) O ⟨dX0_canSettle_94, rfl⟩ (q := 3) rfl ?_
                        refine g_iload (pc' := 98) O ⟨dX0_canSettle_96, rfl⟩ (q := 1) rfl ?_
                        refine g_iload (pc' := 100) O ⟨dX0_canSettle_98, rfl⟩ (q := 7) rfl ?_
                        refine g_iload (pc' := 102) O ⟨dX0_canSettle_100, rfl⟩ (q := 8) rfl ?_
                        refine g_iconst (pc' := 103) O ⟨dX0_canSettle_102, rfl⟩ (v := (1 : Int32)) rfl ?_
                        refine g_isub (pc' := 104) O ⟨dX0_canSettle_103, rfl⟩ ?_
                        obtain ⟨r_18, c_19, E⟩ := bd_of E
                        refine g_Si (pc' := 107) O ⟨dX0_canSettle_104, rfl⟩ (y := yX0_canSettle) (As := [.ref (ad 33), .long y8_11, .int r_15.1, .int x4, .int (x5 - (1 : Int32))]) (st := []) (ihd (h := r_15.2) c_19) kw_698 kw_34 kw_696 kw_697 hd_X0_canSettle ⟨by simp only [RM]; omega, by simp only [RM]; omega⟩ ⟨Nat.le_of_ble_eq_true rfl, Nat.le_of_ble_eq_true rfl⟩ rfl (Nat.le_of_ble_eq_true rfl) ?_
                        refine g_if_eq (pc' := 110) O ⟨dX0_canSettle_107, rfl⟩ E (tgt := 129) (by decide) (fun E => ?_) (fun E => ?_)
                        · refine g_iinc (pc' := 132) O ⟨dX0_canSettle_129, rfl⟩ (q := 10) (v := x7_7 + (1 : Int32)) (lv' := [(7, .int (x7_7 + (1 : Int32))), (13, .int y13_17), (12, .int r_15.1), (10, .long y10_14), (8, .long y8_11), (0, .ref (ad 33)), (1, .long x1), (3, .int x3), (4, .int x4), (5, .int x5), (6, .int x6_3)]) rfl rfl (by decide) rfl ?_
                          refine g_goto (pc' := 135) O ⟨dX0_canSettle_132, rfl⟩ (tgt := 38) (by decide) ?_
                          refine g_sub (lv' := [(0, .ref (ad 33)), (1, .long x1), (3, .int x3), (4, .int x4), (5, .int x5), (6, .int x6_3), (7, .int (x7_7 + (1 : Int32)))]) [5, 6, 7, 8, 9, 10, 0] rfl ?_
                          exact ih38 _ _ E
                        · refine g_aload_n (pc' := 111) O ⟨dX0_canSettle_110, rfl⟩ (q := 4) rfl rfl ?_
                          refine g_lload (pc' := 113) O ⟨dX0_canSettle_111, rfl⟩ (q := 2) rfl ?_
                          refine g_iload (pc' := 115) O ⟨dX0_canSettle_113, rfl⟩ (q := 0) rfl ?_
                          refine g_iload (pc' := 117) O ⟨dX0_canSettle_115, rfl⟩ (q := 7) rfl ?_
                          refine g_iload (pc' := 119) O ⟨dX0_canSettle_117, rfl⟩ (q := 8) rfl ?_
                          refine g_iconst (pc' := 120) O ⟨dX0_canSettle_119, rfl⟩ (v := (1 : Int32)) rfl ?_
                          refine g_isub (pc' := 121) O ⟨dX0_canSettle_120, rfl⟩ ?_
                          obtain ⟨r_20, c_21, E⟩ := bd_of E
                          refine g_Si (pc' := 124) O ⟨dX0_canSettle_121, rfl⟩ (y := yX0_canSettle) (As := [.ref (ad 33), .long y10_14, .int y13_17, .int x4, .int (x5 - (1 : Int32))]) (st := []) (ihd (h := r_18.2) c_21) kw_698 kw_34 kw_696 kw_697 hd_X0_canSettle ⟨by simp only [RM]; omega, by simp only [RM]; omega⟩ ⟨Nat.le_of_ble_eq_true rfl, Nat.le_of_ble_eq_true rfl⟩ rfl (Nat.le_of_ble_eq_true rfl) ?_
                          refine g_if_eq (pc' := 127) O ⟨dX0_canSettle_124, rfl⟩ E (tgt := 129) (by decide) (fun E => ?_) (fun E => ?_)
                          · refine g_iinc (pc' := 132) O ⟨dX0_canSettle_129, rfl⟩ (q := 10) (v := x7_7 + (1 : Int32)) (lv' := [(7, .int (x7_7 + (1 : Int32))), (13, .int y13_17), (12, .int r_15.1), (10, .long y10_14), (8, .long y8_11), (0, .ref (ad 33)), (1, .long x1), (3, .int x3), (4, .int x4), (5, .int x5), (6, .int x6_3)]) rfl rfl (by decide) rfl ?_
                            refine g_goto (pc' := 135) O ⟨dX0_canSettle_132, rfl⟩ (tgt := 38) (by decide) ?_
                            refine g_sub (lv' := [(0, .ref (ad 33)), (1, .long x1), (3, .int x3), (4, .int x4), (5, .int x5), (6, .int x6_3), (7, .int (x7_7 + (1 : Int32)))]) [5, 6, 7, 8, 9, 10, 0] rfl ?_
                            exact ih38 _ _ E
                          · refine g_sub (lv' := []) [] rfl ?_
                            exact hk127 _ E
        · refine g_iconst (pc' := 21) O ⟨dX0_canSettle_20, rfl⟩ (v := (0 : Int32)) rfl ?_
          obtain ⟨hn, E⟩ := ckz_of E
          cases E
          exact hret _ _ _ ⟨dX0_canSettle_21, rfl⟩ hn
    · refine g_iconst (pc' := 6) O ⟨dX0_canSettle_5, rfl⟩ (v := (1 : Int32)) rfl ?_
      obtain ⟨hn, E⟩ := ckz_of E
      cases E
      exact hret _ _ _ ⟨dX0_canSettle_6, rfl⟩ hn
set_option maxRecDepth 100000 in
set_option maxHeartbeats 4000000 in
theorem t_X0_fewestQuestions_32 (l : Launch) (D : va_G) (ad : Nat → Nat) (cy : Nat → ClassId) {h : Hp} {x1 : Int32} {o : Int32 × Hp} (E : f_X0_fewestQuestions_32 h x1 = some o) : CtI l D cy (WC ad cy) yX0_fewestQuestions cX0_fewestQuestions 4 .int 12 375 [.ref (ad 32), .int x1] h o.1 o.2 := by
  refine sI (own := RX0) rfl rfl (Nat.le_of_ble_eq_true rfl) (fun X O hret => ?_)
  show G l D X 4 (WC ad cy) 0 0 h 0 [(0, .ref (ad 32)), (1, .int x1)] []
  unfold f_X0_fewestQuestions_32 at E
  refine g_aload_n (pc' := 1) O ⟨dX0_fewestQuestions_0, rfl⟩ (q := 0) rfl rfl ?_
  refine g_iload_n (pc' := 2) O ⟨dX0_fewestQuestions_1, rfl⟩ (q := 1) rfl rfl ?_
  obtain ⟨r_1, c_2, E⟩ := bd_of E
  refine g_Vi (pc' := 5) O ⟨dX0_fewestQuestions_2, rfl⟩ (y := yX0_rowsLeft) (As := [.int x1]) (st := []) (t_X0_rowsLeft_32 l D ad cy (h := h) c_2) kw_695 kw_34 kw_692 kw_693 kw_694 rfl (wC_32 ad cy h) hd_X0_rowsLeft ⟨Nat.le_of_ble_eq_true rfl, Nat.le_of_ble_eq_true rfl⟩ ⟨Nat.le_of_ble_eq_true rfl, Nat.le_of_ble_eq_true rfl⟩ rfl (Nat.le_of_ble_eq_true rfl) ?_
  refine g_istore_n (pc' := 6) O ⟨dX0_fewestQuestions_5, rfl⟩ (lv' := [(2, .int r_1.1), (0, .ref (ad 32)), (1, .int x1)]) rfl (by decide) rfl ?_
  refine g_iconst (pc' := 7) O ⟨dX0_fewestQuestions_6, rfl⟩ (v := (0 : Int32)) rfl ?_
  refine g_istore_n (pc' := 8) O ⟨dX0_fewestQuestions_7, rfl⟩ (lv' := [(3, .int (0 : Int32)), (2, .int r_1.1), (0, .ref (ad 32)), (1, .int x1)]) rfl (by decide) rfl ?_
  refine jn1_of (P := fun (h_3 : Hp) => G l D X 4 (WC ad cy) 0 0 h_3 44 [] []) E ?_ ?_
  · intro h_3 E
    show G l D X 4 (WC ad cy) 0 0 h_3 44 [] []
    refine g_iconst (pc' := 45) O ⟨dX0_fewestQuestions_44, rfl⟩ (v := (-1 : Int32)) rfl ?_
    cases E
    exact hret _ _ _ ⟨dX0_fewestQuestions_45, rfl⟩ rfl
  · intro k44 hk44 E
    refine jn2_of (P := fun (x3_4 : Int32) (h_5 : Hp) => G l D X 4 (WC ad cy) 0 0 h_5 36 [(3, .int x3_4)] []) E ?_ ?_
    · intro x3_4 h_5 E
      show G l D X 4 (WC ad cy) 0 0 h_5 36 [(3, .int x3_4)] []
      refine g_iload_n (pc' := 37) O ⟨dX0_fewestQuestions_36, rfl⟩ (q := 0) rfl rfl ?_
      cases E
      exact hret _ _ _ ⟨dX0_fewestQuestions_37, rfl⟩ rfl
    · intro k36 hk36 E
      refine g_sub (lv' := [(0, .ref (ad 32)), (1, .int x1), (2, .int r_1.1), (3, .int (0 : Int32))]) [2, 3, 1, 0] rfl ?_
      refine fx2_of (P := fun (x3_6 : Int32) (h_7 : Hp) => G l D X 4 (WC ad cy) 0 0 h_7 8 [(0, .ref (ad 32)), (1, .int x1), (2, .int r_1.1), (3, .int x3_6)] []) ?_ _ _ _ E
      intro self ih8 x3_6 h_7 E
      show G l D X 4 (WC ad cy) 0 0 h_7 8 [(0, .ref (ad 32)), (1, .int x1), (2, .int r_1.1), (3, .int x3_6)] []
      unfold L_X0_fewestQuestions_32_8 at E
      refine g_iload_n (pc' := 9) O ⟨dX0_fewestQuestions_8, rfl⟩ (q := 3) rfl rfl ?_
      refine g_iload_n (pc' := 10) O ⟨dX0_fewestQuestions_9, rfl⟩ (q := 1) rfl rfl ?_
      refine g_iload_n (pc' := 11) O ⟨dX0_fewestQuestions_10, rfl⟩ (q := 1) rfl rfl ?_
      refine g_iconst (pc' := 12) O ⟨dX0_fewestQuestions_11, rfl⟩ (v := (1 : Int32)) rfl ?_
      refine g_isub (pc' := 13) O ⟨dX0_fewestQuestions_12, rfl⟩ ?_
      refine g_imul (pc' := 14) O ⟨dX0_fewestQuestions_13, rfl⟩ ?_
      refine g_iconst (pc' := 15) O ⟨dX0_fewestQuestions_14, rfl⟩ (v := (2 : Int32)) rfl ?_
      refine g_idiv (pc' := 16) O ⟨dX0_fewestQuestions_15, rfl⟩ (by decide) ?_
      refine g_icmp_gt (pc' := 19) O ⟨dX0_fewestQuestions_16, rfl⟩ E (tgt := 44) (by decide) (fun E => ?_) (fun E => ?_)
      · refine g_sub (lv' := []) [] rfl ?_
        exact hk44 _ E
      · refine g_aload_n (pc' := 20) O ⟨dX0_fewestQuestions_19, rfl⟩ (q := 0) rfl rfl ?_
        refine gf_C_RX0_18_32 ad cy (pc' := 23) O ⟨dX0_fewestQuestions_20, rfl⟩ ?_
        refine g_aload_n (pc' := 24) O ⟨dX0_fewestQuestions_23, rfl⟩ (q := 0) rfl rfl ?_
        refine gf_C_RX0_9_32 ad cy (pc' := 27) O ⟨dX0_fewestQuestions_24, rfl⟩ ?_
        refine g_iload_n (pc' := 28) O ⟨dX0_fewestQuestions_27, rfl⟩ (q := 2) rfl rfl ?_
        refine g_iload_n (pc' := 29) O ⟨dX0_fewestQuestions_28, rfl⟩ (q := 1) rfl rfl ?_
        refine g_iload_n (pc' := 30) O ⟨dX0_fewestQuestions_29, rfl⟩ (q := 3) rfl rfl ?_
        obtain ⟨r_8, c_9, E⟩ := bd_of E
        refine g_Si (pc' := 33) O ⟨dX0_fewestQuestions_30, rfl⟩ (y := yX0_canSettle) (As := [.ref (ad 33), .long (h_7.2 32 0), .int r_1.1, .int x1, .int x3_6]) (st := []) (t_X0_canSettle_33 l D ad cy 8 (h := h_7) c_9) kw_698 kw_34 kw_696 kw_697 hd_X0_canSettle ⟨Nat.le_of_ble_eq_true rfl, Nat.le_of_ble_eq_true rfl⟩ ⟨Nat.le_of_ble_eq_true rfl, Nat.le_of_ble_eq_true rfl⟩ rfl (Nat.le_of_ble_eq_true rfl) ?_
        refine g_if_eq (pc' := 36) O ⟨dX0_fewestQuestions_33, rfl⟩ E (tgt := 38) (by decide) (fun E => ?_) (fun E => ?_)
        · refine g_iinc (pc' := 41) O ⟨dX0_fewestQuestions_38, rfl⟩ (q := 3) (v := x3_6 + (1 : Int32)) (lv' := [(3, .int (x3_6 + (1 : Int32))), (0, .ref (ad 32)), (1, .int x1), (2, .int r_1.1)]) rfl rfl (by decide) rfl ?_
          refine g_goto (pc' := 44) O ⟨dX0_fewestQuestions_41, rfl⟩ (tgt := 8) (by decide) ?_
          refine g_sub (lv' := [(0, .ref (ad 32)), (1, .int x1), (2, .int r_1.1), (3, .int (x3_6 + (1 : Int32)))]) [1, 2, 3, 0] rfl ?_
          exact ih8 _ _ E
        · refine g_sub (lv' := [(3, .int x3_6)]) [3] rfl ?_
          exact hk36 _ _ E
set_option maxRecDepth 100000 in
set_option maxHeartbeats 4000000 in
theorem t_X10_needed (l : Launch) (D : va_G) (ad : Nat → Nat) (cy : Nat → ClassId) {h : Hp}  {o : Int32 × Hp} (E : f_X10_needed h = some o) : CtI l D cy (WC ad cy) yX10_needed cX10_needed 1 .int 13 398 [.ref (ad 0)] h o.1 o.2 := by
  refine sI (own := RX10) rfl rfl (Nat.le_of_ble_eq_true rfl) (fun X O hret => ?_)
  show G l D X 1 (WC ad cy) 0 0 h 0 [(0, .ref (ad 0))] []
  unfold f_X10_needed at E
  refine g_aload_n (pc' := 1) O ⟨dX10_needed_0, rfl⟩ (q := 0) rfl rfl ?_
  refine gf_C_RX10_10_0 ad cy (pc' := 4) O ⟨dX10_needed_1, rfl⟩ ?_
  refine gf_C_RX10_109_1 ad cy (pc' := 7) O ⟨dX10_needed_4, rfl⟩ ?_
  refine g_iconst (pc' := 8) O ⟨dX10_needed_7, rfl⟩ (v := (4 : Int32)) rfl ?_
  refine g_icmp_le (pc' := 11) O ⟨dX10_needed_8, rfl⟩ E (tgt := 13) (by decide) (fun E => ?_) (fun E => ?_)
  · refine g_aload_n (pc' := 14) O ⟨dX10_needed_13, rfl⟩ (q := 0) rfl rfl ?_
    refine gf_C_RX10_64_0 ad cy (pc' := 17) O ⟨dX10_needed_14, rfl⟩ ?_
    refine g_aload_n (pc' := 18) O ⟨dX10_needed_17, rfl⟩ (q := 0) rfl rfl ?_
    refine gf_C_RX10_10_0 ad cy (pc' := 21) O ⟨dX10_needed_18, rfl⟩ ?_
    refine gf_C_RX10_109_1 ad cy (pc' := 24) O ⟨dX10_needed_21, rfl⟩ ?_
    obtain ⟨r_1, c_2, E⟩ := bd_of E
    refine g_Vi (pc' := 27) O ⟨dX10_needed_24, rfl⟩ (y := yX0_fewestQuestions) (As := [.int (h.1 1 0)]) (st := []) (t_X0_fewestQuestions_32 l D ad cy (h := h) c_2) kw_691 kw_34 kw_688 kw_689 kw_690 rfl (wC_32 ad cy h) hd_X0_fewestQuestions ⟨Nat.le_of_ble_eq_true rfl, Nat.le_of_ble_eq_true rfl⟩ ⟨Nat.le_of_ble_eq_true rfl, Nat.le_of_ble_eq_true rfl⟩ rfl (Nat.le_of_ble_eq_true rfl) ?_
    cases E
    exact hret _ _ _ ⟨dX10_needed_27, rfl⟩ rfl
  · refine g_iconst (pc' := 12) O ⟨dX10_needed_11, rfl⟩ (v := (-1 : Int32)) rfl ?_
    cases E
    exact hret _ _ _ ⟨dX10_needed_12, rfl⟩ rfl
