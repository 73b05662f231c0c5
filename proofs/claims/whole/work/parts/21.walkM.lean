/-! WALKS, laid by program: each method does what its pure program says -/
set_option maxRecDepth 100000 in
set_option maxHeartbeats 4000000 in
theorem t_X11_renamed (l : Launch) (D : va_G) (ad : Nat → Nat) (cy : Nat → ClassId) {h : Hp} {x0 : Int32} {x1 : Int32} {x2 : Int32} {o : Int32} (E : f_X11_renamed x0 x1 x2 = some o) : CtI l D cy (WM ad cy) yX11_renamed cX11_renamed 3 .int 0 0 [.int x0, .int x1, .int x2] h o h := by
  refine sI (own := RX11) rfl rfl (Nat.le_of_ble_eq_true rfl) (fun X O hret => ?_)
  show G l D X 3 (WM ad cy) 0 0 h 0 [(0, .int x0), (1, .int x1), (2, .int x2)] []
  unfold f_X11_renamed at E
  refine g_iload_n (pc' := 1) O ⟨dX11_renamed_0, rfl⟩ (q := 0) rfl rfl ?_
  refine g_iload_n (pc' := 2) O ⟨dX11_renamed_1, rfl⟩ (q := 1) rfl rfl ?_
  refine g_icmp_ne (pc' := 5) O ⟨dX11_renamed_2, rfl⟩ E (tgt := 9) (by decide) (fun E => ?_) (fun E => ?_)
  · refine g_iload_n (pc' := 10) O ⟨dX11_renamed_9, rfl⟩ (q := 0) rfl rfl ?_
    refine g_iload_n (pc' := 11) O ⟨dX11_renamed_10, rfl⟩ (q := 2) rfl rfl ?_
    refine g_icmp_ne (pc' := 14) O ⟨dX11_renamed_11, rfl⟩ E (tgt := 18) (by decide) (fun E => ?_) (fun E => ?_)
    · refine g_iload_n (pc' := 19) O ⟨dX11_renamed_18, rfl⟩ (q := 0) rfl rfl ?_
      cases E
      exact hret _ _ _ ⟨dX11_renamed_19, rfl⟩ rfl
    · refine g_iload_n (pc' := 15) O ⟨dX11_renamed_14, rfl⟩ (q := 1) rfl rfl ?_
      refine g_goto (pc' := 18) O ⟨dX11_renamed_15, rfl⟩ (tgt := 19) (by decide) ?_
      cases E
      exact hret _ _ _ ⟨dX11_renamed_19, rfl⟩ rfl
  · refine g_iload_n (pc' := 6) O ⟨dX11_renamed_5, rfl⟩ (q := 2) rfl rfl ?_
    refine g_goto (pc' := 9) O ⟨dX11_renamed_6, rfl⟩ (tgt := 19) (by decide) ?_
    cases E
    exact hret _ _ _ ⟨dX11_renamed_19, rfl⟩ rfl
set_option maxRecDepth 100000 in
set_option maxHeartbeats 4000000 in
theorem t_X11_untangle (l : Launch) (D : va_G) (ad : Nat → Nat) (cy : Nat → ClassId) {h : Hp}  {o : Int32 × Hp} (E : f_X11_untangle h = some o) : CtI l D cy (WM ad cy) yX11_untangle cX11_untangle 6 .int 1 22 [.ref (ad 0)] h o.1 o.2 := by
  refine sI (own := RX11) rfl rfl (Nat.le_of_ble_eq_true rfl) (fun X O hret => ?_)
  show G l D X 6 (WM ad cy) 0 0 h 0 [(0, .ref (ad 0))] []
  unfold f_X11_untangle at E
  refine g_aload_n (pc' := 1) O ⟨dX11_untangle_0, rfl⟩ (q := 0) rfl rfl ?_
  refine g_iconst (pc' := 2) O ⟨dX11_untangle_1, rfl⟩ (v := (0 : Int32)) rfl ?_
  refine gp_M_RX11_70_0 ad cy (pc' := 5) O ⟨dX11_untangle_2, rfl⟩ ?_
  refine g_nmh E (fun h_1 E => ?_)
  refine g_iconst (pc' := 6) O ⟨dX11_untangle_5, rfl⟩ (v := (0 : Int32)) rfl ?_
  refine g_istore_n (pc' := 7) O ⟨dX11_untangle_6, rfl⟩ (lv' := [(1, .int (0 : Int32)), (0, .ref (ad 0))]) rfl (by decide) rfl ?_
  refine g_iconst (pc' := 8) O ⟨dX11_untangle_7, rfl⟩ (v := (0 : Int32)) rfl ?_
  refine g_istore_n (pc' := 9) O ⟨dX11_untangle_8, rfl⟩ (lv' := [(2, .int (0 : Int32)), (1, .int (0 : Int32)), (0, .ref (ad 0))]) rfl (by decide) rfl ?_
  refine jn2_of (P := fun (x1_2 : Int32) (h_3 : Hp) => G l D X 6 (WM ad cy) 0 0 h_3 105 [(0, .ref (ad 0)), (1, .int x1_2)] []) E ?_ ?_
  · intro x1_2 h_3 E
    show G l D X 6 (WM ad cy) 0 0 h_3 105 [(0, .ref (ad 0)), (1, .int x1_2)] []
    refine g_aload_n (pc' := 106) O ⟨dX11_untangle_105, rfl⟩ (q := 0) rfl rfl ?_
    obtain ⟨r_4, c_5, E⟩ := bd_of E
    refine g_Vv (pc' := 109) O ⟨dX11_untangle_106, rfl⟩ (y := yX11_forgets) (As := []) (st := []) (t_X11_forgets l D ad cy (h := h_3) c_5) kw_1077 kw_70 kw_1074 kw_1076 kw_25 rfl (wM_0 ad cy h_3) hd_X11_forgets ⟨Nat.le_of_ble_eq_true rfl, Nat.le_of_ble_eq_true rfl⟩ ⟨Nat.le_of_ble_eq_true rfl, Nat.le_of_ble_eq_true rfl⟩ rfl (Nat.le_of_ble_eq_true rfl) ?_
    refine g_iload_n (pc' := 110) O ⟨dX11_untangle_109, rfl⟩ (q := 1) rfl rfl ?_
    cases E
    exact hret _ _ _ ⟨dX11_untangle_110, rfl⟩ rfl
  · intro k105 hk105 E
    refine g_sub (lv' := [(0, .ref (ad 0)), (1, .int (0 : Int32)), (2, .int (0 : Int32))]) [2, 1, 0] rfl ?_
    refine fx3_of (P := fun (x1_6 : Int32) (x2_7 : Int32) (h_8 : Hp) => G l D X 6 (WM ad cy) 0 0 h_8 9 [(0, .ref (ad 0)), (1, .int x1_6), (2, .int x2_7)] []) ?_ _ _ _ _ E
    intro self ih9 x1_6 x2_7 h_8 E
    show G l D X 6 (WM ad cy) 0 0 h_8 9 [(0, .ref (ad 0)), (1, .int x1_6), (2, .int x2_7)] []
    unfold L_X11_untangle_9 at E
    refine g_iload_n (pc' := 10) O ⟨dX11_untangle_9, rfl⟩ (q := 2) rfl rfl ?_
    refine g_aload_n (pc' := 11) O ⟨dX11_untangle_10, rfl⟩ (q := 0) rfl rfl ?_
    refine gf_M_RX11_81_0 ad cy (pc' := 14) O ⟨dX11_untangle_11, rfl⟩ ?_
    refine g_icmp_ge (pc' := 17) O ⟨dX11_untangle_14, rfl⟩ E (tgt := 105) (by decide) (fun E => ?_) (fun E => ?_)
    · refine g_sub (lv' := [(0, .ref (ad 0)), (1, .int x1_6)]) [0, 1] rfl ?_
      exact hk105 _ _ E
    · refine g_aload_n (pc' := 18) O ⟨dX11_untangle_17, rfl⟩ (q := 0) rfl rfl ?_
      refine gf_M_RX11_7_0 ad cy (pc' := 21) O ⟨dX11_untangle_18, rfl⟩ ?_
      refine g_iload_n (pc' := 22) O ⟨dX11_untangle_21, rfl⟩ (q := 2) rfl rfl ?_
      refine g_iald (pc' := 23) O ⟨dX11_untangle_22, rfl⟩ (wM_1 ad cy h_8) E (fun E => ?_)
      refine g_istore_n (pc' := 24) O ⟨dX11_untangle_23, rfl⟩ (lv' := [(3, .int (h_8.1 1 x2_7.toNatClampNeg)), (0, .ref (ad 0)), (1, .int x1_6), (2, .int x2_7)]) rfl (by decide) rfl ?_
      refine g_aload_n (pc' := 25) O ⟨dX11_untangle_24, rfl⟩ (q := 1) rfl rfl ?_
      refine gf_M_RX11_13_0 ad cy (pc' := 28) O ⟨dX11_untangle_25, rfl⟩ ?_
      refine g_iload_n (pc' := 29) O ⟨dX11_untangle_28, rfl⟩ (q := 3) rfl rfl ?_
      refine g_iald (pc' := 30) O ⟨dX11_untangle_29, rfl⟩ (wM_2 ad cy h_8) E (fun E => ?_)
      refine g_istore (pc' := 32) O ⟨dX11_untangle_30, rfl⟩ (lv' := [(4, .int (h_8.1 2 x2_7.toNatClampNeg)), (3, .int (h_8.1 1 x2_7.toNatClampNeg)), (0, .ref (ad 0)), (1, .int x1_6), (2, .int x2_7)]) (by decide) rfl ?_
      refine g_iload_n (pc' := 33) O ⟨dX11_untangle_32, rfl⟩ (q := 1) rfl rfl ?_
      refine g_iload (pc' := 35) O ⟨dX11_untangle_33, rfl⟩ (q := 0) rfl ?_
      refine g_icmp_le (pc' := 38) O ⟨dX11_untangle_35, rfl⟩ E (tgt := 99) (by decide) (fun E => ?_) (fun E => ?_)
      · refine g_iinc (pc' := 102) O ⟨dX11_untangle_99, rfl⟩ (q := 4) (v := x2_7 + (1 : Int32)) (lv' := [(2, .int (x2_7 + (1 : Int32))), (4, .int (h_8.1 2 x2_7.toNatClampNeg)), (3, .int (h_8.1 1 x2_7.toNatClampNeg)), (0, .ref (ad 0)), (1, .int x1_6)]) rfl rfl (by decide) rfl ?_
        refine g_goto (pc' := 105) O ⟨dX11_untangle_102, rfl⟩ (tgt := 9) (by decide) ?_
        refine g_sub (lv' := [(0, .ref (ad 0)), (1, .int x1_6), (2, .int (x2_7 + (1 : Int32)))]) [3, 4, 0] rfl ?_
        exact ih9 _ _ _ E
      · refine g_iinc (pc' := 41) O ⟨dX11_untangle_38, rfl⟩ (q := 3) (v := x1_6 + (1 : Int32)) (lv' := [(1, .int (x1_6 + (1 : Int32))), (4, .int (h_8.1 2 x2_7.toNatClampNeg)), (3, .int (h_8.1 1 x2_7.toNatClampNeg)), (0, .ref (ad 0)), (2, .int x2_7)]) rfl rfl (by decide) rfl ?_
        refine g_iload_n (pc' := 42) O ⟨dX11_untangle_41, rfl⟩ (q := 4) rfl rfl ?_
        refine g_istore (pc' := 44) O ⟨dX11_untangle_42, rfl⟩ (lv' := [(5, .int x2_7), (1, .int (x1_6 + (1 : Int32))), (4, .int (h_8.1 2 x2_7.toNatClampNeg)), (3, .int (h_8.1 1 x2_7.toNatClampNeg)), (0, .ref (ad 0)), (2, .int x2_7)]) (by decide) rfl ?_
        refine jn1_of (P := fun (h_9 : Hp) => G l D X 6 (WM ad cy) 0 0 h_9 99 [(0, .ref (ad 0)), (1, .int (x1_6 + (1 : Int32))), (2, .int x2_7)] []) E ?_ ?_
        · intro h_9 E
          show G l D X 6 (WM ad cy) 0 0 h_9 99 [(0, .ref (ad 0)), (1, .int (x1_6 + (1 : Int32))), (2, .int x2_7)] []
          refine g_iinc (pc' := 102) O ⟨dX11_untangle_99, rfl⟩ (q := 2) (v := x2_7 + (1 : Int32)) (lv' := [(2, .int (x2_7 + (1 : Int32))), (0, .ref (ad 0)), (1, .int (x1_6 + (1 : Int32)))]) rfl rfl (by decide) rfl ?_
          refine g_goto (pc' := 105) O ⟨dX11_untangle_102, rfl⟩ (tgt := 9) (by decide) ?_
          refine g_sub (lv' := [(0, .ref (ad 0)), (1, .int (x1_6 + (1 : Int32))), (2, .int (x2_7 + (1 : Int32)))]) [1, 2, 0] rfl ?_
          exact ih9 _ _ _ E
        · intro k99 hk99 E
          refine g_sub (lv' := [(0, .ref (ad 0)), (1, .int (x1_6 + (1 : Int32))), (2, .int x2_7), (3, .int (h_8.1 1 x2_7.toNatClampNeg)), (4, .int (h_8.1 2 x2_7.toNatClampNeg)), (5, .int x2_7)]) [4, 1, 5, 3, 2, 0] rfl ?_
          refine fx2_of (P := fun (x5_10 : Int32) (h_11 : Hp) => G l D X 6 (WM ad cy) 0 0 h_11 44 [(0, .ref (ad 0)), (1, .int (x1_6 + (1 : Int32))), (2, .int x2_7), (3, .int (h_8.1 1 x2_7.toNatClampNeg)), (4, .int (h_8.1 2 x2_7.toNatClampNeg)), (5, .int x5_10)] []) ?_ _ _ _ E
          intro self ih44 x5_10 h_11 E
          show G l D X 6 (WM ad cy) 0 0 h_11 44 [(0, .ref (ad 0)), (1, .int (x1_6 + (1 : Int32))), (2, .int x2_7), (3, .int (h_8.1 1 x2_7.toNatClampNeg)), (4, .int (h_8.1 2 x2_7.toNatClampNeg)), (5, .int x5_10)] []
          unfold L_X11_untangle_44 at E
          refine g_iload (pc' := 46) O ⟨dX11_untangle_44, rfl⟩ (q := 5) rfl ?_
          refine g_aload_n (pc' := 47) O ⟨dX11_untangle_46, rfl⟩ (q := 0) rfl rfl ?_
          refine gf_M_RX11_81_0 ad cy (pc' := 50) O ⟨dX11_untangle_47, rfl⟩ ?_
          refine g_icmp_ge (pc' := 53) O ⟨dX11_untangle_50, rfl⟩ E (tgt := 99) (by decide) (fun E => ?_) (fun E => ?_)
          · refine g_sub (lv' := [(0, .ref (ad 0)), (1, .int (x1_6 + (1 : Int32))), (2, .int x2_7)]) [0, 1, 2] rfl ?_
            exact hk99 _ E
          · refine g_aload_n (pc' := 54) O ⟨dX11_untangle_53, rfl⟩ (q := 0) rfl rfl ?_
            refine gf_M_RX11_7_0 ad cy (pc' := 57) O ⟨dX11_untangle_54, rfl⟩ ?_
            refine g_iload (pc' := 59) O ⟨dX11_untangle_57, rfl⟩ (q := 5) rfl ?_
            refine g_aload_n (pc' := 60) O ⟨dX11_untangle_59, rfl⟩ (q := 0) rfl rfl ?_
            refine gf_M_RX11_7_0 ad cy (pc' := 63) O ⟨dX11_untangle_60, rfl⟩ ?_
            refine g_iload (pc' := 65) O ⟨dX11_untangle_63, rfl⟩ (q := 5) rfl ?_
            refine g_iald (pc' := 66) O ⟨dX11_untangle_65, rfl⟩ (wM_1 ad cy h_11) E (fun E => ?_)
            refine g_iload_n (pc' := 67) O ⟨dX11_untangle_66, rfl⟩ (q := 3) rfl rfl ?_
            refine g_iload (pc' := 69) O ⟨dX11_untangle_67, rfl⟩ (q := 4) rfl ?_
            obtain ⟨r_12, c_13, E⟩ := bd_of E
            refine g_Si (pc' := 72) O ⟨dX11_untangle_69, rfl⟩ (y := yX11_renamed) (As := [.int (h_11.1 1 x5_10.toNatClampNeg), .int (h_8.1 1 x2_7.toNatClampNeg), .int (h_8.1 2 x2_7.toNatClampNeg)]) (st := [.int x5_10, .ref (ad 1)]) (t_X11_renamed l D ad cy (h := h_11) c_13) kw_1206 kw_70 kw_1204 kw_1205 hd_X11_renamed ⟨Nat.le_of_ble_eq_true rfl, Nat.le_of_ble_eq_true rfl⟩ ⟨Nat.le_of_ble_eq_true rfl, Nat.le_of_ble_eq_true rfl⟩ rfl (Nat.le_of_ble_eq_true rfl) ?_
            refine g_iast (pc' := 73) O ⟨dX11_untangle_72, rfl⟩ (wM_1 ad cy h_11) (vM_1 ad cy h_11 _) E (fun E => ?_)
            refine g_nmh E (fun h_14 E => ?_)
            refine g_aload_n (pc' := 74) O ⟨dX11_untangle_73, rfl⟩ (q := 0) rfl rfl ?_
            refine gf_M_RX11_13_0 ad cy (pc' := 77) O ⟨dX11_untangle_74, rfl⟩ ?_
            refine g_iload (pc' := 79) O ⟨dX11_untangle_77, rfl⟩ (q := 5) rfl ?_
            refine g_aload_n (pc' := 80) O ⟨dX11_untangle_79, rfl⟩ (q := 0) rfl rfl ?_
            refine gf_M_RX11_13_0 ad cy (pc' := 83) O ⟨dX11_untangle_80, rfl⟩ ?_
            refine g_iload (pc' := 85) O ⟨dX11_untangle_83, rfl⟩ (q := 5) rfl ?_
            refine g_iald (pc' := 86) O ⟨dX11_untangle_85, rfl⟩ (wM_2 ad cy h_14) E (fun E => ?_)
            refine g_iload_n (pc' := 87) O ⟨dX11_untangle_86, rfl⟩ (q := 3) rfl rfl ?_
            refine g_iload (pc' := 89) O ⟨dX11_untangle_87, rfl⟩ (q := 4) rfl ?_
            obtain ⟨r_15, c_16, E⟩ := bd_of E
            refine g_Si (pc' := 92) O ⟨dX11_untangle_89, rfl⟩ (y := yX11_renamed) (As := [.int (h_14.1 2 x5_10.toNatClampNeg), .int (h_8.1 1 x2_7.toNatClampNeg), .int (h_8.1 2 x2_7.toNatClampNeg)]) (st := [.int x5_10, .ref (ad 2)]) (t_X11_renamed l D ad cy (h := h_14) c_16) kw_1206 kw_70 kw_1204 kw_1205 hd_X11_renamed ⟨Nat.le_of_ble_eq_true rfl, Nat.le_of_ble_eq_true rfl⟩ ⟨Nat.le_of_ble_eq_true rfl, Nat.le_of_ble_eq_true rfl⟩ rfl (Nat.le_of_ble_eq_true rfl) ?_
            refine g_iast (pc' := 93) O ⟨dX11_untangle_92, rfl⟩ (wM_2 ad cy h_14) (vM_2 ad cy h_14 _) E (fun E => ?_)
            refine g_nmh E (fun h_17 E => ?_)
            refine g_iinc (pc' := 96) O ⟨dX11_untangle_93, rfl⟩ (q := 5) (v := x5_10 + (1 : Int32)) (lv' := [(5, .int (x5_10 + (1 : Int32))), (0, .ref (ad 0)), (1, .int (x1_6 + (1 : Int32))), (2, .int x2_7), (3, .int (h_8.1 1 x2_7.toNatClampNeg)), (4, .int (h_8.1 2 x2_7.toNatClampNeg))]) rfl rfl (by decide) rfl ?_
            refine g_goto (pc' := 99) O ⟨dX11_untangle_96, rfl⟩ (tgt := 44) (by decide) ?_
            refine g_sub (lv' := [(0, .ref (ad 0)), (1, .int (x1_6 + (1 : Int32))), (2, .int x2_7), (3, .int (h_8.1 1 x2_7.toNatClampNeg)), (4, .int (h_8.1 2 x2_7.toNatClampNeg)), (5, .int (x5_10 + (1 : Int32)))]) [1, 2, 3, 4, 5, 0] rfl ?_
            exact ih44 _ _ E
set_option maxRecDepth 100000 in
set_option maxHeartbeats 4000000 in
theorem t_X11_through (l : Launch) (D : va_G) (ad : Nat → Nat) (cy : Nat → ClassId) {h : Hp} {x1 : Int32} {x2 : Int32} {x3 : Int32} {x4 : Int32} {o : Int32} (E : f_X11_through h x1 x2 x3 x4 = some o) : CtI l D cy (WM ad cy) yX11_through cX11_through 10 .int 0 0 [.ref (ad 0), .int x1, .int x2, .int x3, .int x4] h o h := by
  refine sI (own := RX11) rfl rfl (Nat.le_of_ble_eq_true rfl) (fun X O hret => ?_)
  show G l D X 10 (WM ad cy) 0 0 h 0 [(0, .ref (ad 0)), (1, .int x1), (2, .int x2), (3, .int x3), (4, .int x4)] []
  unfold f_X11_through at E
  refine g_iload_n (pc' := 1) O ⟨dX11_through_0, rfl⟩ (q := 1) rfl rfl ?_
  refine g_istore (pc' := 3) O ⟨dX11_through_1, rfl⟩ (lv' := [(5, .int x1), (0, .ref (ad 0)), (1, .int x1), (2, .int x2), (3, .int x3), (4, .int x4)]) (by decide) rfl ?_
  refine g_iconst (pc' := 4) O ⟨dX11_through_3, rfl⟩ (v := (0 : Int32)) rfl ?_
  refine g_istore (pc' := 6) O ⟨dX11_through_4, rfl⟩ (lv' := [(6, .int (0 : Int32)), (5, .int x1), (0, .ref (ad 0)), (1, .int x1), (2, .int x2), (3, .int x3), (4, .int x4)]) (by decide) rfl ?_
  refine jn1_of (P := fun (x5_1 : Int32) => G l D X 10 (WM ad cy) 0 0 h 133 [(5, .int x5_1)] []) E ?_ ?_
  · intro x5_1 E
    show G l D X 10 (WM ad cy) 0 0 h 133 [(5, .int x5_1)] []
    refine g_iload (pc' := 135) O ⟨dX11_through_133, rfl⟩ (q := 0) rfl ?_
    cases E
    exact hret _ _ _ ⟨dX11_through_135, rfl⟩ rfl
  · intro k133 hk133 E
    refine g_sub (lv' := [(0, .ref (ad 0)), (2, .int x2), (3, .int x3), (4, .int x4), (5, .int x1), (6, .int (0 : Int32))]) [2, 4, 5, 6, 1, 0] rfl ?_
    refine fx2_of (P := fun (x5_2 : Int32) (x6_3 : Int32) => G l D X 10 (WM ad cy) 0 0 h 6 [(0, .ref (ad 0)), (2, .int x2), (3, .int x3), (4, .int x4), (5, .int x5_2), (6, .int x6_3)] []) ?_ _ _ _ E
    intro self ih6 x5_2 x6_3 E
    show G l D X 10 (WM ad cy) 0 0 h 6 [(0, .ref (ad 0)), (2, .int x2), (3, .int x3), (4, .int x4), (5, .int x5_2), (6, .int x6_3)] []
    unfold L_X11_through_6 at E
    refine g_iload (pc' := 8) O ⟨dX11_through_6, rfl⟩ (q := 5) rfl ?_
    refine g_iload_n (pc' := 9) O ⟨dX11_through_8, rfl⟩ (q := 1) rfl rfl ?_
    refine g_icmp_ge (pc' := 12) O ⟨dX11_through_9, rfl⟩ E (tgt := 133) (by decide) (fun E => ?_) (fun E => ?_)
    · refine g_sub (lv' := [(5, .int x5_2)]) [4] rfl ?_
      exact hk133 _ E
    · refine g_iload (pc' := 14) O ⟨dX11_through_12, rfl⟩ (q := 4) rfl ?_
      refine g_aload_n (pc' := 15) O ⟨dX11_through_14, rfl⟩ (q := 0) rfl rfl ?_
      refine gf_M_RX11_7_0 ad cy (pc' := 18) O ⟨dX11_through_15, rfl⟩ ?_
      refine g_iload (pc' := 20) O ⟨dX11_through_18, rfl⟩ (q := 5) rfl ?_
      refine g_iald (pc' := 21) O ⟨dX11_through_20, rfl⟩ (wM_1 ad cy h) E (fun E => ?_)
      refine g_ishr (pc' := 22) O ⟨dX11_through_21, rfl⟩ ?_
      refine g_iconst (pc' := 23) O ⟨dX11_through_22, rfl⟩ (v := (1 : Int32)) rfl ?_
      refine g_iand (pc' := 24) O ⟨dX11_through_23, rfl⟩ ?_
      refine g_nm E (fun y7_4 E => ?_)
      refine g_istore (pc' := 26) O ⟨dX11_through_24, rfl⟩ (lv' := [(7, .int y7_4), (0, .ref (ad 0)), (2, .int x2), (3, .int x3), (4, .int x4), (5, .int x5_2), (6, .int x6_3)]) (by decide) rfl ?_
      refine g_iload (pc' := 28) O ⟨dX11_through_26, rfl⟩ (q := 5) rfl ?_
      refine g_aload_n (pc' := 29) O ⟨dX11_through_28, rfl⟩ (q := 1) rfl rfl ?_
      refine gf_M_RX11_13_0 ad cy (pc' := 32) O ⟨dX11_through_29, rfl⟩ ?_
      refine g_iload (pc' := 34) O ⟨dX11_through_32, rfl⟩ (q := 6) rfl ?_
      refine g_iald (pc' := 35) O ⟨dX11_through_34, rfl⟩ (wM_2 ad cy h) E (fun E => ?_)
      refine g_ishr (pc' := 36) O ⟨dX11_through_35, rfl⟩ ?_
      refine g_iconst (pc' := 37) O ⟨dX11_through_36, rfl⟩ (v := (1 : Int32)) rfl ?_
      refine g_iand (pc' := 38) O ⟨dX11_through_37, rfl⟩ ?_
      refine g_nm E (fun y8_5 E => ?_)
      refine g_istore (pc' := 40) O ⟨dX11_through_38, rfl⟩ (lv' := [(8, .int y8_5), (7, .int y7_4), (0, .ref (ad 0)), (2, .int x2), (3, .int x3), (4, .int x4), (5, .int x5_2), (6, .int x6_3)]) (by decide) rfl ?_
      refine g_iload (pc' := 42) O ⟨dX11_through_40, rfl⟩ (q := 7) rfl ?_
      refine g_iload_n (pc' := 43) O ⟨dX11_through_42, rfl⟩ (q := 4) rfl rfl ?_
      refine jn1_of (P := fun (z_6 : Int32) => G l D X 10 (WM ad cy) 0 0 h 85 [(0, .ref (ad 0)), (2, .int x2), (3, .int x3), (4, .int x4), (5, .int x5_2), (6, .int x6_3), (7, .int y7_4), (8, .int y8_5)] [.int z_6]) E ?_ ?_
      · intro z_6 E
        show G l D X 10 (WM ad cy) 0 0 h 85 [(0, .ref (ad 0)), (2, .int x2), (3, .int x3), (4, .int x4), (5, .int x5_2), (6, .int x6_3), (7, .int y7_4), (8, .int y8_5)] [.int z_6]
        refine g_istore (pc' := 87) O ⟨dX11_through_85, rfl⟩ (lv' := [(9, .int z_6), (0, .ref (ad 0)), (2, .int x2), (3, .int x3), (4, .int x4), (5, .int x5_2), (6, .int x6_3), (7, .int y7_4), (8, .int y8_5)]) (by decide) rfl ?_
        refine g_iload (pc' := 89) O ⟨dX11_through_87, rfl⟩ (q := 5) rfl ?_
        refine g_iload (pc' := 91) O ⟨dX11_through_89, rfl⟩ (q := 0) rfl ?_
        refine jn0_of (P := G l D X 10 (WM ad cy) 0 0 h 123 [(0, .ref (ad 0)), (2, .int x2), (3, .int x3), (4, .int x4), (6, .int x6_3)] [.int x5_2]) E ?_ ?_
        · intro E
          show G l D X 10 (WM ad cy) 0 0 h 123 [(0, .ref (ad 0)), (2, .int x2), (3, .int x3), (4, .int x4), (6, .int x6_3)] [.int x5_2]
          refine g_iconst (pc' := 124) O ⟨dX11_through_123, rfl⟩ (v := (0 : Int32)) rfl ?_
          refine g_ixor (pc' := 125) O ⟨dX11_through_124, rfl⟩ ?_
          refine g_nm E (fun y5_7 E => ?_)
          refine g_istore (pc' := 127) O ⟨dX11_through_125, rfl⟩ (lv' := [(5, .int y5_7), (0, .ref (ad 0)), (2, .int x2), (3, .int x3), (4, .int x4), (6, .int x6_3)]) (by decide) rfl ?_
          refine g_iinc (pc' := 130) O ⟨dX11_through_127, rfl⟩ (q := 5) (v := x6_3 + (1 : Int32)) (lv' := [(6, .int (x6_3 + (1 : Int32))), (5, .int y5_7), (0, .ref (ad 0)), (2, .int x2), (3, .int x3), (4, .int x4)]) rfl rfl (by decide) rfl ?_
          refine g_goto (pc' := 133) O ⟨dX11_through_130, rfl⟩ (tgt := 6) (by decide) ?_
          refine g_sub (lv' := [(0, .ref (ad 0)), (2, .int x2), (3, .int x3), (4, .int x4), (5, .int y5_7), (6, .int (x6_3 + (1 : Int32)))]) [2, 3, 4, 5, 1, 0] rfl ?_
          exact ih6 _ _ E
        · intro k123 hk123 E
          refine g_if_eq (pc' := 94) O ⟨dX11_through_91, rfl⟩ E (tgt := 123) (by decide) (fun E => ?_) (fun E => ?_)
          · refine g_sub (lv' := [(0, .ref (ad 0)), (2, .int x2), (3, .int x3), (4, .int x4), (6, .int x6_3)]) [1, 2, 3, 4, 6] rfl ?_
            exact hk123 E
          · refine g_iload (pc' := 96) O ⟨dX11_through_94, rfl⟩ (q := 7) rfl ?_
            refine g_iload (pc' := 98) O ⟨dX11_through_96, rfl⟩ (q := 8) rfl ?_
            refine g_icmp_eq (pc' := 101) O ⟨dX11_through_98, rfl⟩ E (tgt := 123) (by decide) (fun E => ?_) (fun E => ?_)
            · refine g_sub (lv' := [(0, .ref (ad 0)), (2, .int x2), (3, .int x3), (4, .int x4), (6, .int x6_3)]) [1, 2, 3, 4, 6] rfl ?_
              exact hk123 E
            · refine g_iconst (pc' := 102) O ⟨dX11_through_101, rfl⟩ (v := (1 : Int32)) rfl ?_
              refine g_aload_n (pc' := 103) O ⟨dX11_through_102, rfl⟩ (q := 1) rfl rfl ?_
              refine gf_M_RX11_7_0 ad cy (pc' := 106) O ⟨dX11_through_103, rfl⟩ ?_
              refine g_iload (pc' := 108) O ⟨dX11_through_106, rfl⟩ (q := 6) rfl ?_
              refine g_iald (pc' := 109) O ⟨dX11_through_108, rfl⟩ (wM_1 ad cy h) E (fun E => ?_)
              refine g_ishl (pc' := 110) O ⟨dX11_through_109, rfl⟩ ?_
              refine g_iconst (pc' := 111) O ⟨dX11_through_110, rfl⟩ (v := (1 : Int32)) rfl ?_
              refine g_aload_n (pc' := 112) O ⟨dX11_through_111, rfl⟩ (q := 1) rfl rfl ?_
              refine gf_M_RX11_13_0 ad cy (pc' := 115) O ⟨dX11_through_112, rfl⟩ ?_
              refine g_iload (pc' := 117) O ⟨dX11_through_115, rfl⟩ (q := 6) rfl ?_
              refine g_iald (pc' := 118) O ⟨dX11_through_117, rfl⟩ (wM_2 ad cy h) E (fun E => ?_)
              refine g_ishl (pc' := 119) O ⟨dX11_through_118, rfl⟩ ?_
              refine g_ior (pc' := 120) O ⟨dX11_through_119, rfl⟩ ?_
              refine g_goto (pc' := 123) O ⟨dX11_through_120, rfl⟩ (tgt := 124) (by decide) ?_
              refine g_ixor (pc' := 125) O ⟨dX11_through_124, rfl⟩ ?_
              refine g_nm E (fun y5_8 E => ?_)
              refine g_istore (pc' := 127) O ⟨dX11_through_125, rfl⟩ (lv' := [(5, .int y5_8), (9, .int z_6), (0, .ref (ad 0)), (2, .int x2), (3, .int x3), (4, .int x4), (6, .int x6_3), (7, .int y7_4), (8, .int y8_5)]) (by decide) rfl ?_
              refine g_iinc (pc' := 130) O ⟨dX11_through_127, rfl⟩ (q := 6) (v := x6_3 + (1 : Int32)) (lv' := [(6, .int (x6_3 + (1 : Int32))), (5, .int y5_8), (9, .int z_6), (0, .ref (ad 0)), (2, .int x2), (3, .int x3), (4, .int x4), (7, .int y7_4), (8, .int y8_5)]) rfl rfl (by decide) rfl ?_
              refine g_goto (pc' := 133) O ⟨dX11_through_130, rfl⟩ (tgt := 6) (by decide) ?_
              refine g_sub (lv' := [(0, .ref (ad 0)), (2, .int x2), (3, .int x3), (4, .int x4), (5, .int y5_8), (6, .int (x6_3 + (1 : Int32)))]) [3, 4, 5, 6, 1, 0] rfl ?_
              exact ih6 _ _ E
      · intro k85 hk85 E
        refine g_icmp_eq (pc' := 46) O ⟨dX11_through_43, rfl⟩ E (tgt := 61) (by decide) (fun E => ?_) (fun E => ?_)
        · refine g_iload (pc' := 63) O ⟨dX11_through_61, rfl⟩ (q := 5) rfl ?_
          refine g_iconst (pc' := 64) O ⟨dX11_through_63, rfl⟩ (v := (1 : Int32)) rfl ?_
          refine jn0_of (P := G l D X 10 (WM ad cy) 0 0 h 80 [(0, .ref (ad 0)), (2, .int x2), (3, .int x3), (4, .int x4), (5, .int x5_2), (6, .int x6_3), (7, .int y7_4), (8, .int y8_5)] []) E ?_ ?_
          · intro E
            show G l D X 10 (WM ad cy) 0 0 h 80 [(0, .ref (ad 0)), (2, .int x2), (3, .int x3), (4, .int x4), (5, .int x5_2), (6, .int x6_3), (7, .int y7_4), (8, .int y8_5)] []
            refine g_iconst (pc' := 81) O ⟨dX11_through_80, rfl⟩ (v := (1 : Int32)) rfl ?_
            refine g_goto (pc' := 84) O ⟨dX11_through_81, rfl⟩ (tgt := 85) (by decide) ?_
            exact hk85 _ E
          · intro k80 hk80 E
            refine g_icmp_eq (pc' := 67) O ⟨dX11_through_64, rfl⟩ E (tgt := 80) (by decide) (fun E => ?_) (fun E => ?_)
            · refine g_sub (lv' := [(0, .ref (ad 0)), (2, .int x2), (3, .int x3), (4, .int x4), (5, .int x5_2), (6, .int x6_3), (7, .int y7_4), (8, .int y8_5)]) [2, 3, 4, 5, 6, 7, 1, 0] rfl ?_
              exact hk80 E
            · refine g_iload (pc' := 69) O ⟨dX11_through_67, rfl⟩ (q := 5) rfl ?_
              refine g_iconst (pc' := 70) O ⟨dX11_through_69, rfl⟩ (v := (2 : Int32)) rfl ?_
              refine jn0_of (P := G l D X 10 (WM ad cy) 0 0 h 84 [(0, .ref (ad 0)), (2, .int x2), (3, .int x3), (4, .int x4), (5, .int x5_2), (6, .int x6_3), (7, .int y7_4), (8, .int y8_5)] []) E ?_ ?_
              · intro E
                show G l D X 10 (WM ad cy) 0 0 h 84 [(0, .ref (ad 0)), (2, .int x2), (3, .int x3), (4, .int x4), (5, .int x5_2), (6, .int x6_3), (7, .int y7_4), (8, .int y8_5)] []
                refine g_iconst (pc' := 85) O ⟨dX11_through_84, rfl⟩ (v := (0 : Int32)) rfl ?_
                exact hk85 _ E
              · intro k84 hk84 E
                refine g_icmp_ne (pc' := 73) O ⟨dX11_through_70, rfl⟩ E (tgt := 84) (by decide) (fun E => ?_) (fun E => ?_)
                · refine g_sub (lv' := [(0, .ref (ad 0)), (2, .int x2), (3, .int x3), (4, .int x4), (5, .int x5_2), (6, .int x6_3), (7, .int y7_4), (8, .int y8_5)]) [2, 3, 4, 5, 6, 7, 1, 0] rfl ?_
                  exact hk84 E
                · refine g_iload (pc' := 75) O ⟨dX11_through_73, rfl⟩ (q := 1) rfl ?_
                  refine g_iload (pc' := 77) O ⟨dX11_through_75, rfl⟩ (q := 0) rfl ?_
                  refine g_icmp_ge (pc' := 80) O ⟨dX11_through_77, rfl⟩ E (tgt := 84) (by decide) (fun E => ?_) (fun E => ?_)
                  · refine g_sub (lv' := [(0, .ref (ad 0)), (2, .int x2), (3, .int x3), (4, .int x4), (5, .int x5_2), (6, .int x6_3), (7, .int y7_4), (8, .int y8_5)]) [2, 3, 4, 5, 6, 7, 1, 0] rfl ?_
                    exact hk84 E
                  · refine g_sub (lv' := [(0, .ref (ad 0)), (2, .int x2), (3, .int x3), (4, .int x4), (5, .int x5_2), (6, .int x6_3), (7, .int y7_4), (8, .int y8_5)]) [2, 3, 4, 5, 6, 7, 1, 0] rfl ?_
                    exact hk80 E
        · refine g_iload (pc' := 48) O ⟨dX11_through_46, rfl⟩ (q := 1) rfl ?_
          refine g_iload (pc' := 50) O ⟨dX11_through_48, rfl⟩ (q := 0) rfl ?_
          refine g_icmp_le (pc' := 53) O ⟨dX11_through_50, rfl⟩ E (tgt := 57) (by decide) (fun E => ?_) (fun E => ?_)
          · refine g_iconst (pc' := 58) O ⟨dX11_through_57, rfl⟩ (v := (0 : Int32)) rfl ?_
            refine g_goto (pc' := 61) O ⟨dX11_through_58, rfl⟩ (tgt := 85) (by decide) ?_
            refine g_sub (lv' := [(0, .ref (ad 0)), (2, .int x2), (3, .int x3), (4, .int x4), (5, .int x5_2), (6, .int x6_3), (7, .int y7_4), (8, .int y8_5)]) [2, 3, 4, 5, 6, 7, 1, 0] rfl ?_
            exact hk85 _ E
          · refine g_iconst (pc' := 54) O ⟨dX11_through_53, rfl⟩ (v := (1 : Int32)) rfl ?_
            refine g_goto (pc' := 57) O ⟨dX11_through_54, rfl⟩ (tgt := 85) (by decide) ?_
            refine g_sub (lv' := [(0, .ref (ad 0)), (2, .int x2), (3, .int x3), (4, .int x4), (5, .int x5_2), (6, .int x6_3), (7, .int y7_4), (8, .int y8_5)]) [2, 3, 4, 5, 6, 7, 1, 0] rfl ?_
            exact hk85 _ E
set_option maxRecDepth 100000 in
set_option maxHeartbeats 4000000 in
theorem t_X11_often (l : Launch) (D : va_G) (ad : Nat → Nat) (cy : Nat → ClassId) {h : Hp} {x1 : Int32} {o : Int32} (E : f_X11_often h x1 = some o) : CtI l D cy (WM ad cy) yX11_often cX11_often 5 .int 1 29 [.ref (ad 0), .int x1] h o h := by
  refine sI (own := RX11) rfl rfl (Nat.le_of_ble_eq_true rfl) (fun X O hret => ?_)
  show G l D X 5 (WM ad cy) 0 0 h 0 [(0, .ref (ad 0)), (1, .int x1)] []
  unfold f_X11_often at E
  refine g_iconst (pc' := 1) O ⟨dX11_often_0, rfl⟩ (v := (0 : Int32)) rfl ?_
  refine g_istore_n (pc' := 2) O ⟨dX11_often_1, rfl⟩ (lv' := [(2, .int (0 : Int32)), (0, .ref (ad 0)), (1, .int x1)]) rfl (by decide) rfl ?_
  refine g_iconst (pc' := 3) O ⟨dX11_often_2, rfl⟩ (v := (0 : Int32)) rfl ?_
  refine g_istore_n (pc' := 4) O ⟨dX11_often_3, rfl⟩ (lv' := [(3, .int (0 : Int32)), (2, .int (0 : Int32)), (0, .ref (ad 0)), (1, .int x1)]) rfl (by decide) rfl ?_
  refine jn1_of (P := fun (x2_1 : Int32) => G l D X 5 (WM ad cy) 0 0 h 67 [(2, .int x2_1)] []) E ?_ ?_
  · intro x2_1 E
    show G l D X 5 (WM ad cy) 0 0 h 67 [(2, .int x2_1)] []
    refine g_iload_n (pc' := 68) O ⟨dX11_often_67, rfl⟩ (q := 0) rfl rfl ?_
    cases E
    exact hret _ _ _ ⟨dX11_often_68, rfl⟩ rfl
  · intro k67 hk67 E
    refine g_sub (lv' := [(0, .ref (ad 0)), (1, .int x1), (2, .int (0 : Int32)), (3, .int (0 : Int32))]) [2, 3, 1, 0] rfl ?_
    refine fx2_of (P := fun (x2_2 : Int32) (x3_3 : Int32) => G l D X 5 (WM ad cy) 0 0 h 4 [(0, .ref (ad 0)), (1, .int x1), (2, .int x2_2), (3, .int x3_3)] []) ?_ _ _ _ E
    intro self ih4 x2_2 x3_3 E
    show G l D X 5 (WM ad cy) 0 0 h 4 [(0, .ref (ad 0)), (1, .int x1), (2, .int x2_2), (3, .int x3_3)] []
    unfold L_X11_often_4 at E
    refine g_iload_n (pc' := 5) O ⟨dX11_often_4, rfl⟩ (q := 3) rfl rfl ?_
    refine g_iconst (pc' := 6) O ⟨dX11_often_5, rfl⟩ (v := (1 : Int32)) rfl ?_
    refine g_aload_n (pc' := 7) O ⟨dX11_often_6, rfl⟩ (q := 0) rfl rfl ?_
    refine gf_M_RX11_74_0 ad cy (pc' := 10) O ⟨dX11_often_7, rfl⟩ ?_
    refine g_ishl (pc' := 11) O ⟨dX11_often_10, rfl⟩ ?_
    refine g_icmp_ge (pc' := 14) O ⟨dX11_often_11, rfl⟩ E (tgt := 67) (by decide) (fun E => ?_) (fun E => ?_)
    · refine g_sub (lv' := [(2, .int x2_2)]) [2] rfl ?_
      exact hk67 _ E
    · refine g_aload_n (pc' := 15) O ⟨dX11_often_14, rfl⟩ (q := 0) rfl rfl ?_
      refine g_iload_n (pc' := 16) O ⟨dX11_often_15, rfl⟩ (q := 3) rfl rfl ?_
      refine g_iload_n (pc' := 17) O ⟨dX11_often_16, rfl⟩ (q := 1) rfl rfl ?_
      refine g_iconst (pc' := 18) O ⟨dX11_often_17, rfl⟩ (v := (-1 : Int32)) rfl ?_
      refine g_iconst (pc' := 19) O ⟨dX11_often_18, rfl⟩ (v := (0 : Int32)) rfl ?_
      obtain ⟨r_4, c_5, E⟩ := bd_of E
      refine g_Vi (pc' := 22) O ⟨dX11_often_19, rfl⟩ (y := yX11_through) (As := [.int x3_3, .int x1, .int (-1 : Int32), .int (0 : Int32)]) (st := []) (t_X11_through l D ad cy (h := h) c_5) kw_1218 kw_70 kw_1215 kw_1217 kw_31 rfl (wM_0 ad cy h) hd_X11_through ⟨Nat.le_of_ble_eq_true rfl, Nat.le_of_ble_eq_true rfl⟩ ⟨Nat.le_of_ble_eq_true rfl, Nat.le_of_ble_eq_true rfl⟩ rfl (Nat.le_of_ble_eq_true rfl) ?_
      refine g_istore (pc' := 24) O ⟨dX11_often_22, rfl⟩ (lv' := [(4, .int r_4), (0, .ref (ad 0)), (1, .int x1), (2, .int x2_2), (3, .int x3_3)]) (by decide) rfl ?_
      refine g_iload_n (pc' := 25) O ⟨dX11_often_24, rfl⟩ (q := 3) rfl rfl ?_
      refine g_iload (pc' := 27) O ⟨dX11_often_25, rfl⟩ (q := 0) rfl ?_
      refine g_aload_n (pc' := 28) O ⟨dX11_often_27, rfl⟩ (q := 1) rfl rfl ?_
      refine gf_M_RX11_7_0 ad cy (pc' := 31) O ⟨dX11_often_28, rfl⟩ ?_
      refine g_iload_n (pc' := 32) O ⟨dX11_often_31, rfl⟩ (q := 2) rfl rfl ?_
      refine g_iald (pc' := 33) O ⟨dX11_often_32, rfl⟩ (wM_1 ad cy h) E (fun E => ?_)
      refine g_ishr (pc' := 34) O ⟨dX11_often_33, rfl⟩ ?_
      refine g_iconst (pc' := 35) O ⟨dX11_often_34, rfl⟩ (v := (1 : Int32)) rfl ?_
      refine g_iand (pc' := 36) O ⟨dX11_often_35, rfl⟩ ?_
      refine g_iconst (pc' := 37) O ⟨dX11_often_36, rfl⟩ (v := (1 : Int32)) rfl ?_
      refine jn0_of (P := G l D X 5 (WM ad cy) 0 0 h 58 [(0, .ref (ad 0)), (1, .int x1), (3, .int x3_3)] [.int x2_2]) E ?_ ?_
      · intro E
        show G l D X 5 (WM ad cy) 0 0 h 58 [(0, .ref (ad 0)), (1, .int x1), (3, .int x3_3)] [.int x2_2]
        refine g_iconst (pc' := 59) O ⟨dX11_often_58, rfl⟩ (v := (0 : Int32)) rfl ?_
        refine g_iadd (pc' := 60) O ⟨dX11_often_59, rfl⟩ ?_
        refine g_nm E (fun y2_6 E => ?_)
        refine g_istore_n (pc' := 61) O ⟨dX11_often_60, rfl⟩ (lv' := [(2, .int y2_6), (0, .ref (ad 0)), (1, .int x1), (3, .int x3_3)]) rfl (by decide) rfl ?_
        refine g_iinc (pc' := 64) O ⟨dX11_often_61, rfl⟩ (q := 3) (v := x3_3 + (1 : Int32)) (lv' := [(3, .int (x3_3 + (1 : Int32))), (2, .int y2_6), (0, .ref (ad 0)), (1, .int x1)]) rfl rfl (by decide) rfl ?_
        refine g_goto (pc' := 67) O ⟨dX11_often_64, rfl⟩ (tgt := 4) (by decide) ?_
        refine g_sub (lv' := [(0, .ref (ad 0)), (1, .int x1), (2, .int y2_6), (3, .int (x3_3 + (1 : Int32)))]) [2, 3, 1, 0] rfl ?_
        exact ih4 _ _ E
      · intro k58 hk58 E
        refine g_icmp_ne (pc' := 40) O ⟨dX11_often_37, rfl⟩ E (tgt := 58) (by decide) (fun E => ?_) (fun E => ?_)
        · refine g_sub (lv' := [(0, .ref (ad 0)), (1, .int x1), (3, .int x3_3)]) [1, 2, 4] rfl ?_
          exact hk58 E
        · refine g_iload (pc' := 42) O ⟨dX11_often_40, rfl⟩ (q := 0) rfl ?_
          refine g_aload_n (pc' := 43) O ⟨dX11_often_42, rfl⟩ (q := 1) rfl rfl ?_
          refine gf_M_RX11_13_0 ad cy (pc' := 46) O ⟨dX11_often_43, rfl⟩ ?_
          refine g_iload_n (pc' := 47) O ⟨dX11_often_46, rfl⟩ (q := 2) rfl rfl ?_
          refine g_iald (pc' := 48) O ⟨dX11_often_47, rfl⟩ (wM_2 ad cy h) E (fun E => ?_)
          refine g_ishr (pc' := 49) O ⟨dX11_often_48, rfl⟩ ?_
          refine g_iconst (pc' := 50) O ⟨dX11_often_49, rfl⟩ (v := (1 : Int32)) rfl ?_
          refine g_iand (pc' := 51) O ⟨dX11_often_50, rfl⟩ ?_
          refine g_if_ne (pc' := 54) O ⟨dX11_often_51, rfl⟩ E (tgt := 58) (by decide) (fun E => ?_) (fun E => ?_)
          · refine g_sub (lv' := [(0, .ref (ad 0)), (1, .int x1), (3, .int x3_3)]) [1, 2, 4] rfl ?_
            exact hk58 E
          · refine g_iconst (pc' := 55) O ⟨dX11_often_54, rfl⟩ (v := (1 : Int32)) rfl ?_
            refine g_goto (pc' := 58) O ⟨dX11_often_55, rfl⟩ (tgt := 59) (by decide) ?_
            refine g_iadd (pc' := 60) O ⟨dX11_often_59, rfl⟩ ?_
            refine g_nm E (fun y2_7 E => ?_)
            refine g_istore_n (pc' := 61) O ⟨dX11_often_60, rfl⟩ (lv' := [(2, .int y2_7), (4, .int r_4), (0, .ref (ad 0)), (1, .int x1), (3, .int x3_3)]) rfl (by decide) rfl ?_
            refine g_iinc (pc' := 64) O ⟨dX11_often_61, rfl⟩ (q := 4) (v := x3_3 + (1 : Int32)) (lv' := [(3, .int (x3_3 + (1 : Int32))), (2, .int y2_7), (4, .int r_4), (0, .ref (ad 0)), (1, .int x1)]) rfl rfl (by decide) rfl ?_
            refine g_goto (pc' := 67) O ⟨dX11_often_64, rfl⟩ (tgt := 4) (by decide) ?_
            refine g_sub (lv' := [(0, .ref (ad 0)), (1, .int x1), (2, .int y2_7), (3, .int (x3_3 + (1 : Int32)))]) [3, 4, 1, 0] rfl ?_
            exact ih4 _ _ E
set_option maxRecDepth 100000 in
set_option maxHeartbeats 4000000 in
theorem t_X11_prune (l : Launch) (D : va_G) (ad : Nat → Nat) (cy : Nat → ClassId) {h : Hp}  {o : Int32 × Hp} (E : f_X11_prune h = some o) : CtI l D cy (WM ad cy) yX11_prune cX11_prune 3 .int 2 53 [.ref (ad 0)] h o.1 o.2 := by
  refine sI (own := RX11) rfl rfl (Nat.le_of_ble_eq_true rfl) (fun X O hret => ?_)
  show G l D X 3 (WM ad cy) 0 0 h 0 [(0, .ref (ad 0))] []
  unfold f_X11_prune at E
  refine g_aload_n (pc' := 1) O ⟨dX11_prune_0, rfl⟩ (q := 0) rfl rfl ?_
  refine g_iconst (pc' := 2) O ⟨dX11_prune_1, rfl⟩ (v := (0 : Int32)) rfl ?_
  refine gp_M_RX11_70_0 ad cy (pc' := 5) O ⟨dX11_prune_2, rfl⟩ ?_
  refine g_nmh E (fun h_1 E => ?_)
  refine g_iconst (pc' := 6) O ⟨dX11_prune_5, rfl⟩ (v := (0 : Int32)) rfl ?_
  refine g_istore_n (pc' := 7) O ⟨dX11_prune_6, rfl⟩ (lv' := [(1, .int (0 : Int32)), (0, .ref (ad 0))]) rfl (by decide) rfl ?_
  refine jn1_of (P := fun (h_2 : Hp) => G l D X 3 (WM ad cy) 0 0 h_2 32 [(0, .ref (ad 0))] []) E ?_ ?_
  · intro h_2 E
    show G l D X 3 (WM ad cy) 0 0 h_2 32 [(0, .ref (ad 0))] []
    refine g_iconst (pc' := 33) O ⟨dX11_prune_32, rfl⟩ (v := (0 : Int32)) rfl ?_
    refine g_istore_n (pc' := 34) O ⟨dX11_prune_33, rfl⟩ (lv' := [(1, .int (0 : Int32)), (0, .ref (ad 0))]) rfl (by decide) rfl ?_
    refine g_iconst (pc' := 35) O ⟨dX11_prune_34, rfl⟩ (v := (0 : Int32)) rfl ?_
    refine g_istore_n (pc' := 36) O ⟨dX11_prune_35, rfl⟩ (lv' := [(2, .int (0 : Int32)), (1, .int (0 : Int32)), (0, .ref (ad 0))]) rfl (by decide) rfl ?_
    refine jn2_of (P := fun (x1_3 : Int32) (h_4 : Hp) => G l D X 3 (WM ad cy) 0 0 h_4 86 [(0, .ref (ad 0)), (1, .int x1_3)] []) E ?_ ?_
    · intro x1_3 h_4 E
      show G l D X 3 (WM ad cy) 0 0 h_4 86 [(0, .ref (ad 0)), (1, .int x1_3)] []
      refine g_aload_n (pc' := 87) O ⟨dX11_prune_86, rfl⟩ (q := 0) rfl rfl ?_
      refine gf_M_RX11_81_0 ad cy (pc' := 90) O ⟨dX11_prune_87, rfl⟩ ?_
      refine g_iload_n (pc' := 91) O ⟨dX11_prune_90, rfl⟩ (q := 1) rfl rfl ?_
      refine g_isub (pc' := 92) O ⟨dX11_prune_91, rfl⟩ ?_
      refine g_nm E (fun y2_5 E => ?_)
      refine g_istore_n (pc' := 93) O ⟨dX11_prune_92, rfl⟩ (lv' := [(2, .int y2_5), (0, .ref (ad 0)), (1, .int x1_3)]) rfl (by decide) rfl ?_
      refine g_aload_n (pc' := 94) O ⟨dX11_prune_93, rfl⟩ (q := 1) rfl rfl ?_
      refine g_iload_n (pc' := 95) O ⟨dX11_prune_94, rfl⟩ (q := 2) rfl rfl ?_
      refine gp_M_RX11_81_0 ad cy (pc' := 98) O ⟨dX11_prune_95, rfl⟩ ?_
      refine g_nmh E (fun h_6 E => ?_)
      refine g_aload_n (pc' := 99) O ⟨dX11_prune_98, rfl⟩ (q := 1) rfl rfl ?_
      obtain ⟨r_7, c_8, E⟩ := bd_of E
      refine g_Vv (pc' := 102) O ⟨dX11_prune_99, rfl⟩ (y := yX11_forgets) (As := []) (st := []) (t_X11_forgets l D ad cy (h := h_6) c_8) kw_1077 kw_70 kw_1074 kw_1076 kw_25 rfl (wM_0 ad cy h_6) hd_X11_forgets ⟨Nat.le_of_ble_eq_true rfl, Nat.le_of_ble_eq_true rfl⟩ ⟨Nat.le_of_ble_eq_true rfl, Nat.le_of_ble_eq_true rfl⟩ rfl (Nat.le_of_ble_eq_true rfl) ?_
      refine g_iload_n (pc' := 103) O ⟨dX11_prune_102, rfl⟩ (q := 0) rfl rfl ?_
      cases E
      exact hret _ _ _ ⟨dX11_prune_103, rfl⟩ rfl
    · intro k86 hk86 E
      refine g_sub (lv' := [(0, .ref (ad 0)), (1, .int (0 : Int32)), (2, .int (0 : Int32))]) [2, 1, 0] rfl ?_
      refine fx3_of (P := fun (x1_9 : Int32) (x2_10 : Int32) (h_11 : Hp) => G l D X 3 (WM ad cy) 0 0 h_11 36 [(0, .ref (ad 0)), (1, .int x1_9), (2, .int x2_10)] []) ?_ _ _ _ _ E
      intro self ih36 x1_9 x2_10 h_11 E
      show G l D X 3 (WM ad cy) 0 0 h_11 36 [(0, .ref (ad 0)), (1, .int x1_9), (2, .int x2_10)] []
      unfold L_X11_prune_36 at E
      refine g_iload_n (pc' := 37) O ⟨dX11_prune_36, rfl⟩ (q := 2) rfl rfl ?_
      refine g_aload_n (pc' := 38) O ⟨dX11_prune_37, rfl⟩ (q := 0) rfl rfl ?_
      refine gf_M_RX11_81_0 ad cy (pc' := 41) O ⟨dX11_prune_38, rfl⟩ ?_
      refine g_icmp_ge (pc' := 44) O ⟨dX11_prune_41, rfl⟩ E (tgt := 86) (by decide) (fun E => ?_) (fun E => ?_)
      · refine g_sub (lv' := [(0, .ref (ad 0)), (1, .int x1_9)]) [0, 1] rfl ?_
        exact hk86 _ _ E
      · refine g_aload_n (pc' := 45) O ⟨dX11_prune_44, rfl⟩ (q := 0) rfl rfl ?_
        refine gf_M_RX11_28_0 ad cy (pc' := 48) O ⟨dX11_prune_45, rfl⟩ ?_
        refine g_iload_n (pc' := 49) O ⟨dX11_prune_48, rfl⟩ (q := 2) rfl rfl ?_
        refine g_iald (pc' := 50) O ⟨dX11_prune_49, rfl⟩ (wM_7 ad cy h_11) E (fun E => ?_)
        refine g_if_le (pc' := 53) O ⟨dX11_prune_50, rfl⟩ E (tgt := 80) (by decide) (fun E => ?_) (fun E => ?_)
        · refine g_iinc (pc' := 83) O ⟨dX11_prune_80, rfl⟩ (q := 2) (v := x2_10 + (1 : Int32)) (lv' := [(2, .int (x2_10 + (1 : Int32))), (0, .ref (ad 0)), (1, .int x1_9)]) rfl rfl (by decide) rfl ?_
          refine g_goto (pc' := 86) O ⟨dX11_prune_83, rfl⟩ (tgt := 36) (by decide) ?_
          refine g_sub (lv' := [(0, .ref (ad 0)), (1, .int x1_9), (2, .int (x2_10 + (1 : Int32)))]) [1, 2, 0] rfl ?_
          exact ih36 _ _ _ E
        · refine g_aload_n (pc' := 54) O ⟨dX11_prune_53, rfl⟩ (q := 0) rfl rfl ?_
          refine gf_M_RX11_7_0 ad cy (pc' := 57) O ⟨dX11_prune_54, rfl⟩ ?_
          refine g_iload_n (pc' := 58) O ⟨dX11_prune_57, rfl⟩ (q := 1) rfl rfl ?_
          refine g_aload_n (pc' := 59) O ⟨dX11_prune_58, rfl⟩ (q := 0) rfl rfl ?_
          refine gf_M_RX11_7_0 ad cy (pc' := 62) O ⟨dX11_prune_59, rfl⟩ ?_
          refine g_iload_n (pc' := 63) O ⟨dX11_prune_62, rfl⟩ (q := 2) rfl rfl ?_
          refine g_iald (pc' := 64) O ⟨dX11_prune_63, rfl⟩ (wM_1 ad cy h_11) E (fun E => ?_)
          refine g_iast (pc' := 65) O ⟨dX11_prune_64, rfl⟩ (wM_1 ad cy h_11) (vM_1 ad cy h_11 _) E (fun E => ?_)
          refine g_nmh E (fun h_12 E => ?_)
          refine g_aload_n (pc' := 66) O ⟨dX11_prune_65, rfl⟩ (q := 0) rfl rfl ?_
          refine gf_M_RX11_13_0 ad cy (pc' := 69) O ⟨dX11_prune_66, rfl⟩ ?_
          refine g_iload_n (pc' := 70) O ⟨dX11_prune_69, rfl⟩ (q := 1) rfl rfl ?_
          refine g_aload_n (pc' := 71) O ⟨dX11_prune_70, rfl⟩ (q := 0) rfl rfl ?_
          refine gf_M_RX11_13_0 ad cy (pc' := 74) O ⟨dX11_prune_71, rfl⟩ ?_
          refine g_iload_n (pc' := 75) O ⟨dX11_prune_74, rfl⟩ (q := 2) rfl rfl ?_
          refine g_iald (pc' := 76) O ⟨dX11_prune_75, rfl⟩ (wM_2 ad cy h_12) E (fun E => ?_)
          refine g_iast (pc' := 77) O ⟨dX11_prune_76, rfl⟩ (wM_2 ad cy h_12) (vM_2 ad cy h_12 _) E (fun E => ?_)
          refine g_nmh E (fun h_13 E => ?_)
          refine g_iinc (pc' := 80) O ⟨dX11_prune_77, rfl⟩ (q := 1) (v := x1_9 + (1 : Int32)) (lv' := [(1, .int (x1_9 + (1 : Int32))), (0, .ref (ad 0)), (2, .int x2_10)]) rfl rfl (by decide) rfl ?_
          refine g_iinc (pc' := 83) O ⟨dX11_prune_80, rfl⟩ (q := 2) (v := x2_10 + (1 : Int32)) (lv' := [(2, .int (x2_10 + (1 : Int32))), (1, .int (x1_9 + (1 : Int32))), (0, .ref (ad 0))]) rfl rfl (by decide) rfl ?_
          refine g_goto (pc' := 86) O ⟨dX11_prune_83, rfl⟩ (tgt := 36) (by decide) ?_
          refine g_sub (lv' := [(0, .ref (ad 0)), (1, .int (x1_9 + (1 : Int32))), (2, .int (x2_10 + (1 : Int32)))]) [2, 1, 0] rfl ?_
          exact ih36 _ _ _ E
  · intro k32 hk32 E
    refine g_sub (lv' := [(0, .ref (ad 0)), (1, .int (0 : Int32))]) [1, 0] rfl ?_
    refine fx2_of (P := fun (x1_14 : Int32) (h_15 : Hp) => G l D X 3 (WM ad cy) 0 0 h_15 7 [(0, .ref (ad 0)), (1, .int x1_14)] []) ?_ _ _ _ E
    intro self ih7 x1_14 h_15 E
    show G l D X 3 (WM ad cy) 0 0 h_15 7 [(0, .ref (ad 0)), (1, .int x1_14)] []
    unfold L_X11_prune_7 at E
    refine g_iload_n (pc' := 8) O ⟨dX11_prune_7, rfl⟩ (q := 1) rfl rfl ?_
    refine g_aload_n (pc' := 9) O ⟨dX11_prune_8, rfl⟩ (q := 0) rfl rfl ?_
    refine gf_M_RX11_81_0 ad cy (pc' := 12) O ⟨dX11_prune_9, rfl⟩ ?_
    refine g_icmp_ge (pc' := 15) O ⟨dX11_prune_12, rfl⟩ E (tgt := 32) (by decide) (fun E => ?_) (fun E => ?_)
    · refine g_sub (lv' := [(0, .ref (ad 0))]) [0] rfl ?_
      exact hk32 _ E
    · refine g_aload_n (pc' := 16) O ⟨dX11_prune_15, rfl⟩ (q := 0) rfl rfl ?_
      refine gf_M_RX11_28_0 ad cy (pc' := 19) O ⟨dX11_prune_16, rfl⟩ ?_
      refine g_iload_n (pc' := 20) O ⟨dX11_prune_19, rfl⟩ (q := 1) rfl rfl ?_
      refine g_aload_n (pc' := 21) O ⟨dX11_prune_20, rfl⟩ (q := 0) rfl rfl ?_
      refine g_iload_n (pc' := 22) O ⟨dX11_prune_21, rfl⟩ (q := 1) rfl rfl ?_
      obtain ⟨r_16, c_17, E⟩ := bd_of E
      refine g_Vi (pc' := 25) O ⟨dX11_prune_22, rfl⟩ (y := yX11_often) (As := [.int x1_14]) (st := [.int x1_14, .ref (ad 7)]) (t_X11_often l D ad cy (h := h_15) c_17) kw_1214 kw_70 kw_1211 kw_1213 kw_30 rfl (wM_0 ad cy h_15) hd_X11_often ⟨Nat.le_of_ble_eq_true rfl, Nat.le_of_ble_eq_true rfl⟩ ⟨Nat.le_of_ble_eq_true rfl, Nat.le_of_ble_eq_true rfl⟩ rfl (Nat.le_of_ble_eq_true rfl) ?_
      refine g_iast (pc' := 26) O ⟨dX11_prune_25, rfl⟩ (wM_7 ad cy h_15) (vM_7 ad cy h_15 _) E (fun E => ?_)
      refine g_nmh E (fun h_18 E => ?_)
      refine g_iinc (pc' := 29) O ⟨dX11_prune_26, rfl⟩ (q := 1) (v := x1_14 + (1 : Int32)) (lv' := [(1, .int (x1_14 + (1 : Int32))), (0, .ref (ad 0))]) rfl rfl (by decide) rfl ?_
      refine g_goto (pc' := 32) O ⟨dX11_prune_29, rfl⟩ (tgt := 7) (by decide) ?_
      refine g_sub (lv' := [(0, .ref (ad 0)), (1, .int (x1_14 + (1 : Int32)))]) [1, 0] rfl ?_
      exact ih7 _ _ E
set_option maxRecDepth 100000 in
set_option maxHeartbeats 4000000 in
theorem t_X11_laysLayers (l : Launch) (D : va_G) (ad : Nat → Nat) (cy : Nat → ClassId) {h : Hp}  {o : Int32 × Hp} (E : f_X11_laysLayers h = some o) : CtI l D cy (WM ad cy) yX11_laysLayers cX11_laysLayers 5 .int 0 0 [.ref (ad 0)] h o.1 o.2 := by
  refine sI (own := RX11) rfl rfl (Nat.le_of_ble_eq_true rfl) (fun X O hret => ?_)
  show G l D X 5 (WM ad cy) 0 0 h 0 [(0, .ref (ad 0))] []
  unfold f_X11_laysLayers at E
  refine g_iconst (pc' := 1) O ⟨dX11_laysLayers_0, rfl⟩ (v := (0 : Int32)) rfl ?_
  refine g_istore_n (pc' := 2) O ⟨dX11_laysLayers_1, rfl⟩ (lv' := [(1, .int (0 : Int32)), (0, .ref (ad 0))]) rfl (by decide) rfl ?_
  refine g_iconst (pc' := 3) O ⟨dX11_laysLayers_2, rfl⟩ (v := (0 : Int32)) rfl ?_
  refine g_istore_n (pc' := 4) O ⟨dX11_laysLayers_3, rfl⟩ (lv' := [(2, .int (0 : Int32)), (1, .int (0 : Int32)), (0, .ref (ad 0))]) rfl (by decide) rfl ?_
  refine jn2_of (P := fun (x1_1 : Int32) (h_2 : Hp) => G l D X 5 (WM ad cy) 0 0 h_2 171 [(1, .int x1_1)] []) E ?_ ?_
  · intro x1_1 h_2 E
    show G l D X 5 (WM ad cy) 0 0 h_2 171 [(1, .int x1_1)] []
    refine g_iload_n (pc' := 172) O ⟨dX11_laysLayers_171, rfl⟩ (q := 0) rfl rfl ?_
    cases E
    exact hret _ _ _ ⟨dX11_laysLayers_172, rfl⟩ rfl
  · intro k171 hk171 E
    refine g_sub (lv' := [(0, .ref (ad 0)), (1, .int (0 : Int32)), (2, .int (0 : Int32))]) [2, 1, 0] rfl ?_
    refine fx3_of (P := fun (x1_3 : Int32) (x2_4 : Int32) (h_5 : Hp) => G l D X 5 (WM ad cy) 0 0 h_5 4 [(0, .ref (ad 0)), (1, .int x1_3), (2, .int x2_4)] []) ?_ _ _ _ _ E
    intro self ih4 x1_3 x2_4 h_5 E
    show G l D X 5 (WM ad cy) 0 0 h_5 4 [(0, .ref (ad 0)), (1, .int x1_3), (2, .int x2_4)] []
    unfold L_X11_laysLayers_4 at E
    refine g_iload_n (pc' := 5) O ⟨dX11_laysLayers_4, rfl⟩ (q := 2) rfl rfl ?_
    refine g_aload_n (pc' := 6) O ⟨dX11_laysLayers_5, rfl⟩ (q := 0) rfl rfl ?_
    refine gf_M_RX11_81_0 ad cy (pc' := 9) O ⟨dX11_laysLayers_6, rfl⟩ ?_
    refine g_icmp_ge (pc' := 12) O ⟨dX11_laysLayers_9, rfl⟩ E (tgt := 171) (by decide) (fun E => ?_) (fun E => ?_)
    · refine g_sub (lv' := [(1, .int x1_3)]) [1] rfl ?_
      exact hk171 _ _ E
    · refine g_aload_n (pc' := 13) O ⟨dX11_laysLayers_12, rfl⟩ (q := 0) rfl rfl ?_
      refine gf_M_RX11_16_0 ad cy (pc' := 16) O ⟨dX11_laysLayers_13, rfl⟩ ?_
      refine g_iload_n (pc' := 17) O ⟨dX11_laysLayers_16, rfl⟩ (q := 2) rfl rfl ?_
      refine g_iconst (pc' := 18) O ⟨dX11_laysLayers_17, rfl⟩ (v := (0 : Int32)) rfl ?_
      refine g_iast (pc' := 19) O ⟨dX11_laysLayers_18, rfl⟩ (wM_3 ad cy h_5) (vM_3 ad cy h_5 _) E (fun E => ?_)
      refine g_nmh E (fun h_6 E => ?_)
      refine g_iconst (pc' := 20) O ⟨dX11_laysLayers_19, rfl⟩ (v := (0 : Int32)) rfl ?_
      refine g_istore_n (pc' := 21) O ⟨dX11_laysLayers_20, rfl⟩ (lv' := [(3, .int (0 : Int32)), (0, .ref (ad 0)), (1, .int x1_3), (2, .int x2_4)]) rfl (by decide) rfl ?_
      refine jn1_of (P := fun (h_7 : Hp) => G l D X 5 (WM ad cy) 0 0 h_7 142 [(0, .ref (ad 0)), (1, .int x1_3), (2, .int x2_4)] []) E ?_ ?_
      · intro h_7 E
        show G l D X 5 (WM ad cy) 0 0 h_7 142 [(0, .ref (ad 0)), (1, .int x1_3), (2, .int x2_4)] []
        refine g_aload_n (pc' := 143) O ⟨dX11_laysLayers_142, rfl⟩ (q := 0) rfl rfl ?_
        refine gf_M_RX11_16_0 ad cy (pc' := 146) O ⟨dX11_laysLayers_143, rfl⟩ ?_
        refine g_iload_n (pc' := 147) O ⟨dX11_laysLayers_146, rfl⟩ (q := 2) rfl rfl ?_
        refine g_iald (pc' := 148) O ⟨dX11_laysLayers_147, rfl⟩ (wM_3 ad cy h_7) E (fun E => ?_)
        refine g_iload_n (pc' := 149) O ⟨dX11_laysLayers_148, rfl⟩ (q := 1) rfl rfl ?_
        refine g_icmp_lt (pc' := 152) O ⟨dX11_laysLayers_149, rfl⟩ E (tgt := 163) (by decide) (fun E => ?_) (fun E => ?_)
        · refine g_iload_n (pc' := 164) O ⟨dX11_laysLayers_163, rfl⟩ (q := 1) rfl rfl ?_
          refine g_istore_n (pc' := 165) O ⟨dX11_laysLayers_164, rfl⟩ (lv' := [(1, .int x1_3), (0, .ref (ad 0)), (2, .int x2_4)]) rfl (by decide) rfl ?_
          refine g_iinc (pc' := 168) O ⟨dX11_laysLayers_165, rfl⟩ (q := 2) (v := x2_4 + (1 : Int32)) (lv' := [(2, .int (x2_4 + (1 : Int32))), (1, .int x1_3), (0, .ref (ad 0))]) rfl rfl (by decide) rfl ?_
          refine g_goto (pc' := 171) O ⟨dX11_laysLayers_168, rfl⟩ (tgt := 4) (by decide) ?_
          refine g_sub (lv' := [(0, .ref (ad 0)), (1, .int x1_3), (2, .int (x2_4 + (1 : Int32)))]) [2, 1, 0] rfl ?_
          exact ih4 _ _ _ E
        · refine g_aload_n (pc' := 153) O ⟨dX11_laysLayers_152, rfl⟩ (q := 0) rfl rfl ?_
          refine gf_M_RX11_16_0 ad cy (pc' := 156) O ⟨dX11_laysLayers_153, rfl⟩ ?_
          refine g_iload_n (pc' := 157) O ⟨dX11_laysLayers_156, rfl⟩ (q := 2) rfl rfl ?_
          refine g_iald (pc' := 158) O ⟨dX11_laysLayers_157, rfl⟩ (wM_3 ad cy h_7) E (fun E => ?_)
          refine g_iconst (pc' := 159) O ⟨dX11_laysLayers_158, rfl⟩ (v := (1 : Int32)) rfl ?_
          refine g_iadd (pc' := 160) O ⟨dX11_laysLayers_159, rfl⟩ ?_
          refine g_goto (pc' := 163) O ⟨dX11_laysLayers_160, rfl⟩ (tgt := 164) (by decide) ?_
          refine g_nm E (fun y1_8 E => ?_)
          refine g_istore_n (pc' := 165) O ⟨dX11_laysLayers_164, rfl⟩ (lv' := [(1, .int y1_8), (0, .ref (ad 0)), (2, .int x2_4)]) rfl (by decide) rfl ?_
          refine g_iinc (pc' := 168) O ⟨dX11_laysLayers_165, rfl⟩ (q := 2) (v := x2_4 + (1 : Int32)) (lv' := [(2, .int (x2_4 + (1 : Int32))), (1, .int y1_8), (0, .ref (ad 0))]) rfl rfl (by decide) rfl ?_
          refine g_goto (pc' := 171) O ⟨dX11_laysLayers_168, rfl⟩ (tgt := 4) (by decide) ?_
          refine g_sub (lv' := [(0, .ref (ad 0)), (1, .int y1_8), (2, .int (x2_4 + (1 : Int32)))]) [2, 1, 0] rfl ?_
          exact ih4 _ _ _ E
      · intro k142 hk142 E
        refine g_sub (lv' := [(0, .ref (ad 0)), (1, .int x1_3), (2, .int x2_4), (3, .int (0 : Int32))]) [1, 2, 3, 0] rfl ?_
        refine fx2_of (P := fun (x3_9 : Int32) (h_10 : Hp) => G l D X 5 (WM ad cy) 0 0 h_10 21 [(0, .ref (ad 0)), (1, .int x1_3), (2, .int x2_4), (3, .int x3_9)] []) ?_ _ _ _ E
        intro self ih21 x3_9 h_10 E
        show G l D X 5 (WM ad cy) 0 0 h_10 21 [(0, .ref (ad 0)), (1, .int x1_3), (2, .int x2_4), (3, .int x3_9)] []
        unfold L_X11_laysLayers_21 at E
        refine g_iload_n (pc' := 22) O ⟨dX11_laysLayers_21, rfl⟩ (q := 3) rfl rfl ?_
        refine g_iload_n (pc' := 23) O ⟨dX11_laysLayers_22, rfl⟩ (q := 2) rfl rfl ?_
        refine g_icmp_ge (pc' := 26) O ⟨dX11_laysLayers_23, rfl⟩ E (tgt := 142) (by decide) (fun E => ?_) (fun E => ?_)
        · refine g_sub (lv' := [(0, .ref (ad 0)), (1, .int x1_3), (2, .int x2_4)]) [0, 1, 2] rfl ?_
          exact hk142 _ E
        · refine g_aload_n (pc' := 27) O ⟨dX11_laysLayers_26, rfl⟩ (q := 0) rfl rfl ?_
          refine gf_M_RX11_7_0 ad cy (pc' := 30) O ⟨dX11_laysLayers_27, rfl⟩ ?_
          refine g_iload_n (pc' := 31) O ⟨dX11_laysLayers_30, rfl⟩ (q := 3) rfl rfl ?_
          refine g_iald (pc' := 32) O ⟨dX11_laysLayers_31, rfl⟩ (wM_1 ad cy h_10) E (fun E => ?_)
          refine g_aload_n (pc' := 33) O ⟨dX11_laysLayers_32, rfl⟩ (q := 0) rfl rfl ?_
          refine gf_M_RX11_7_0 ad cy (pc' := 36) O ⟨dX11_laysLayers_33, rfl⟩ ?_
          refine g_iload_n (pc' := 37) O ⟨dX11_laysLayers_36, rfl⟩ (q := 2) rfl rfl ?_
          refine g_iald (pc' := 38) O ⟨dX11_laysLayers_37, rfl⟩ (wM_1 ad cy h_10) E (fun E => ?_)
          refine jn1_of (P := fun (z_11 : Int32) => G l D X 5 (WM ad cy) 0 0 h_10 91 [(0, .ref (ad 0)), (1, .int x1_3), (2, .int x2_4), (3, .int x3_9)] [.int z_11]) E ?_ ?_
          · intro z_11 E
            show G l D X 5 (WM ad cy) 0 0 h_10 91 [(0, .ref (ad 0)), (1, .int x1_3), (2, .int x2_4), (3, .int x3_9)] [.int z_11]
            refine g_istore (pc' := 93) O ⟨dX11_laysLayers_91, rfl⟩ (lv' := [(4, .int z_11), (0, .ref (ad 0)), (1, .int x1_3), (2, .int x2_4), (3, .int x3_9)]) (by decide) rfl ?_
            refine g_aload_n (pc' := 94) O ⟨dX11_laysLayers_93, rfl⟩ (q := 1) rfl rfl ?_
            refine gf_M_RX11_16_0 ad cy (pc' := 97) O ⟨dX11_laysLayers_94, rfl⟩ ?_
            refine g_iload_n (pc' := 98) O ⟨dX11_laysLayers_97, rfl⟩ (q := 3) rfl rfl ?_
            refine g_iload (pc' := 100) O ⟨dX11_laysLayers_98, rfl⟩ (q := 0) rfl ?_
            refine jn0_of (P := G l D X 5 (WM ad cy) 0 0 h_10 129 [(0, .ref (ad 0)), (1, .int x1_3), (2, .int x2_4), (3, .int x3_9)] [.int x2_4, .ref (ad 3)]) E ?_ ?_
            · intro E
              show G l D X 5 (WM ad cy) 0 0 h_10 129 [(0, .ref (ad 0)), (1, .int x1_3), (2, .int x2_4), (3, .int x3_9)] [.int x2_4, .ref (ad 3)]
              refine g_aload_n (pc' := 130) O ⟨dX11_laysLayers_129, rfl⟩ (q := 0) rfl rfl ?_
              refine gf_M_RX11_16_0 ad cy (pc' := 133) O ⟨dX11_laysLayers_130, rfl⟩ ?_
              refine g_iload_n (pc' := 134) O ⟨dX11_laysLayers_133, rfl⟩ (q := 2) rfl rfl ?_
              refine g_iald (pc' := 135) O ⟨dX11_laysLayers_134, rfl⟩ (wM_3 ad cy h_10) E (fun E => ?_)
              refine g_iast (pc' := 136) O ⟨dX11_laysLayers_135, rfl⟩ (wM_3 ad cy h_10) (vM_3 ad cy h_10 _) E (fun E => ?_)
              refine g_nmh E (fun h_12 E => ?_)
              refine g_iinc (pc' := 139) O ⟨dX11_laysLayers_136, rfl⟩ (q := 3) (v := x3_9 + (1 : Int32)) (lv' := [(3, .int (x3_9 + (1 : Int32))), (0, .ref (ad 0)), (1, .int x1_3), (2, .int x2_4)]) rfl rfl (by decide) rfl ?_
              refine g_goto (pc' := 142) O ⟨dX11_laysLayers_139, rfl⟩ (tgt := 21) (by decide) ?_
              refine g_sub (lv' := [(0, .ref (ad 0)), (1, .int x1_3), (2, .int x2_4), (3, .int (x3_9 + (1 : Int32)))]) [1, 2, 3, 0] rfl ?_
              exact ih21 _ _ E
            · intro k129 hk129 E
              refine g_if_eq (pc' := 103) O ⟨dX11_laysLayers_100, rfl⟩ E (tgt := 129) (by decide) (fun E => ?_) (fun E => ?_)
              · refine g_sub (lv' := [(0, .ref (ad 0)), (1, .int x1_3), (2, .int x2_4), (3, .int x3_9)]) [1, 2, 3, 4] rfl ?_
                exact hk129 E
              · refine g_aload_n (pc' := 104) O ⟨dX11_laysLayers_103, rfl⟩ (q := 1) rfl rfl ?_
                refine gf_M_RX11_16_0 ad cy (pc' := 107) O ⟨dX11_laysLayers_104, rfl⟩ ?_
                refine g_iload_n (pc' := 108) O ⟨dX11_laysLayers_107, rfl⟩ (q := 4) rfl rfl ?_
                refine g_iald (pc' := 109) O ⟨dX11_laysLayers_108, rfl⟩ (wM_3 ad cy h_10) E (fun E => ?_)
                refine g_aload_n (pc' := 110) O ⟨dX11_laysLayers_109, rfl⟩ (q := 1) rfl rfl ?_
                refine gf_M_RX11_16_0 ad cy (pc' := 113) O ⟨dX11_laysLayers_110, rfl⟩ ?_
                refine g_iload_n (pc' := 114) O ⟨dX11_laysLayers_113, rfl⟩ (q := 3) rfl rfl ?_
                refine g_iald (pc' := 115) O ⟨dX11_laysLayers_114, rfl⟩ (wM_3 ad cy h_10) E (fun E => ?_)
                refine g_icmp_lt (pc' := 118) O ⟨dX11_laysLayers_115, rfl⟩ E (tgt := 129) (by decide) (fun E => ?_) (fun E => ?_)
                · refine g_sub (lv' := [(0, .ref (ad 0)), (1, .int x1_3), (2, .int x2_4), (3, .int x3_9)]) [1, 2, 3, 4] rfl ?_
                  exact hk129 E
                · refine g_aload_n (pc' := 119) O ⟨dX11_laysLayers_118, rfl⟩ (q := 1) rfl rfl ?_
                  refine gf_M_RX11_16_0 ad cy (pc' := 122) O ⟨dX11_laysLayers_119, rfl⟩ ?_
                  refine g_iload_n (pc' := 123) O ⟨dX11_laysLayers_122, rfl⟩ (q := 4) rfl rfl ?_
                  refine g_iald (pc' := 124) O ⟨dX11_laysLayers_123, rfl⟩ (wM_3 ad cy h_10) E (fun E => ?_)
                  refine g_iconst (pc' := 125) O ⟨dX11_laysLayers_124, rfl⟩ (v := (1 : Int32)) rfl ?_
                  refine g_iadd (pc' := 126) O ⟨dX11_laysLayers_125, rfl⟩ ?_
                  refine g_goto (pc' := 129) O ⟨dX11_laysLayers_126, rfl⟩ (tgt := 135) (by decide) ?_
                  refine g_iast (pc' := 136) O ⟨dX11_laysLayers_135, rfl⟩ (wM_3 ad cy h_10) (vM_3 ad cy h_10 _) E (fun E => ?_)
                  refine g_nmh E (fun h_13 E => ?_)
                  refine g_iinc (pc' := 139) O ⟨dX11_laysLayers_136, rfl⟩ (q := 4) (v := x3_9 + (1 : Int32)) (lv' := [(3, .int (x3_9 + (1 : Int32))), (4, .int z_11), (0, .ref (ad 0)), (1, .int x1_3), (2, .int x2_4)]) rfl rfl (by decide) rfl ?_
                  refine g_goto (pc' := 142) O ⟨dX11_laysLayers_139, rfl⟩ (tgt := 21) (by decide) ?_
                  refine g_sub (lv' := [(0, .ref (ad 0)), (1, .int x1_3), (2, .int x2_4), (3, .int (x3_9 + (1 : Int32)))]) [2, 3, 4, 0] rfl ?_
                  exact ih21 _ _ E
          · intro k91 hk91 E
            refine jn0_of (P := G l D X 5 (WM ad cy) 0 0 h_10 86 [(0, .ref (ad 0)), (1, .int x1_3), (2, .int x2_4), (3, .int x3_9)] []) E ?_ ?_
            · intro E
              show G l D X 5 (WM ad cy) 0 0 h_10 86 [(0, .ref (ad 0)), (1, .int x1_3), (2, .int x2_4), (3, .int x3_9)] []
              refine g_iconst (pc' := 87) O ⟨dX11_laysLayers_86, rfl⟩ (v := (1 : Int32)) rfl ?_
              refine g_goto (pc' := 90) O ⟨dX11_laysLayers_87, rfl⟩ (tgt := 91) (by decide) ?_
              exact hk91 _ E
            · intro k86 hk86 E
              refine g_icmp_eq (pc' := 41) O ⟨dX11_laysLayers_38, rfl⟩ E (tgt := 86) (by decide) (fun E => ?_) (fun E => ?_)
              · exact hk86 E
              · refine g_aload_n (pc' := 42) O ⟨dX11_laysLayers_41, rfl⟩ (q := 0) rfl rfl ?_
                refine gf_M_RX11_7_0 ad cy (pc' := 45) O ⟨dX11_laysLayers_42, rfl⟩ ?_
                refine g_iload_n (pc' := 46) O ⟨dX11_laysLayers_45, rfl⟩ (q := 3) rfl rfl ?_
                refine g_iald (pc' := 47) O ⟨dX11_laysLayers_46, rfl⟩ (wM_1 ad cy h_10) E (fun E => ?_)
                refine g_aload_n (pc' := 48) O ⟨dX11_laysLayers_47, rfl⟩ (q := 0) rfl rfl ?_
                refine gf_M_RX11_13_0 ad cy (pc' := 51) O ⟨dX11_laysLayers_48, rfl⟩ ?_
                refine g_iload_n (pc' := 52) O ⟨dX11_laysLayers_51, rfl⟩ (q := 2) rfl rfl ?_
                refine g_iald (pc' := 53) O ⟨dX11_laysLayers_52, rfl⟩ (wM_2 ad cy h_10) E (fun E => ?_)
                refine g_icmp_eq (pc' := 56) O ⟨dX11_laysLayers_53, rfl⟩ E (tgt := 86) (by decide) (fun E => ?_) (fun E => ?_)
                · exact hk86 E
                · refine g_aload_n (pc' := 57) O ⟨dX11_laysLayers_56, rfl⟩ (q := 0) rfl rfl ?_
                  refine gf_M_RX11_13_0 ad cy (pc' := 60) O ⟨dX11_laysLayers_57, rfl⟩ ?_
                  refine g_iload_n (pc' := 61) O ⟨dX11_laysLayers_60, rfl⟩ (q := 3) rfl rfl ?_
                  refine g_iald (pc' := 62) O ⟨dX11_laysLayers_61, rfl⟩ (wM_2 ad cy h_10) E (fun E => ?_)
                  refine g_aload_n (pc' := 63) O ⟨dX11_laysLayers_62, rfl⟩ (q := 0) rfl rfl ?_
                  refine gf_M_RX11_7_0 ad cy (pc' := 66) O ⟨dX11_laysLayers_63, rfl⟩ ?_
                  refine g_iload_n (pc' := 67) O ⟨dX11_laysLayers_66, rfl⟩ (q := 2) rfl rfl ?_
                  refine g_iald (pc' := 68) O ⟨dX11_laysLayers_67, rfl⟩ (wM_1 ad cy h_10) E (fun E => ?_)
                  refine g_icmp_eq (pc' := 71) O ⟨dX11_laysLayers_68, rfl⟩ E (tgt := 86) (by decide) (fun E => ?_) (fun E => ?_)
                  · exact hk86 E
                  · refine g_aload_n (pc' := 72) O ⟨dX11_laysLayers_71, rfl⟩ (q := 0) rfl rfl ?_
                    refine gf_M_RX11_13_0 ad cy (pc' := 75) O ⟨dX11_laysLayers_72, rfl⟩ ?_
                    refine g_iload_n (pc' := 76) O ⟨dX11_laysLayers_75, rfl⟩ (q := 3) rfl rfl ?_
                    refine g_iald (pc' := 77) O ⟨dX11_laysLayers_76, rfl⟩ (wM_2 ad cy h_10) E (fun E => ?_)
                    refine g_aload_n (pc' := 78) O ⟨dX11_laysLayers_77, rfl⟩ (q := 0) rfl rfl ?_
                    refine gf_M_RX11_13_0 ad cy (pc' := 81) O ⟨dX11_laysLayers_78, rfl⟩ ?_
                    refine g_iload_n (pc' := 82) O ⟨dX11_laysLayers_81, rfl⟩ (q := 2) rfl rfl ?_
                    refine g_iald (pc' := 83) O ⟨dX11_laysLayers_82, rfl⟩ (wM_2 ad cy h_10) E (fun E => ?_)
                    refine g_icmp_ne (pc' := 86) O ⟨dX11_laysLayers_83, rfl⟩ E (tgt := 90) (by decide) (fun E => ?_) (fun E => ?_)
                    · refine g_iconst (pc' := 91) O ⟨dX11_laysLayers_90, rfl⟩ (v := (0 : Int32)) rfl ?_
                      exact hk91 _ E
                    · exact hk86 E
set_option maxRecDepth 100000 in
set_option maxHeartbeats 4000000 in
theorem t_X11_lesser (l : Launch) (D : va_G) (ad : Nat → Nat) (cy : Nat → ClassId) {h : Hp} {x0 : Int32} {x1 : Int32} {o : Int32} (E : f_X11_lesser x0 x1 = some o) : CtI l D cy (WM ad cy) yX11_lesser cX11_lesser 2 .int 0 0 [.int x0, .int x1] h o h := by
  refine sI (own := RX11) rfl rfl (Nat.le_of_ble_eq_true rfl) (fun X O hret => ?_)
  show G l D X 2 (WM ad cy) 0 0 h 0 [(0, .int x0), (1, .int x1)] []
  unfold f_X11_lesser at E
  refine g_iload_n (pc' := 1) O ⟨dX11_lesser_0, rfl⟩ (q := 0) rfl rfl ?_
  refine g_iload_n (pc' := 2) O ⟨dX11_lesser_1, rfl⟩ (q := 1) rfl rfl ?_
  refine g_icmp_ge (pc' := 5) O ⟨dX11_lesser_2, rfl⟩ E (tgt := 9) (by decide) (fun E => ?_) (fun E => ?_)
  · refine g_iload_n (pc' := 10) O ⟨dX11_lesser_9, rfl⟩ (q := 1) rfl rfl ?_
    cases E
    exact hret _ _ _ ⟨dX11_lesser_10, rfl⟩ rfl
  · refine g_iload_n (pc' := 6) O ⟨dX11_lesser_5, rfl⟩ (q := 0) rfl rfl ?_
    refine g_goto (pc' := 9) O ⟨dX11_lesser_6, rfl⟩ (tgt := 10) (by decide) ?_
    cases E
    exact hret _ _ _ ⟨dX11_lesser_10, rfl⟩ rfl
set_option maxRecDepth 100000 in
set_option maxHeartbeats 4000000 in
theorem t_X11_writes (l : Launch) (D : va_G) (ad : Nat → Nat) (cy : Nat → ClassId) {h : Hp}  {o : Hp} (E : f_X11_writes h = some o) : CtV l D cy (WM ad cy) yX11_writes cX11_writes 6 1 24 [.ref (ad 0)] h o := by
  refine sV (own := RX11) rfl rfl (Nat.le_of_ble_eq_true rfl) (fun X O hret => ?_)
  show G l D X 6 (WM ad cy) 0 0 h 0 [(0, .ref (ad 0))] []
  unfold f_X11_writes at E
  refine g_aload_n (pc' := 1) O ⟨dX11_writes_0, rfl⟩ (q := 0) rfl rfl ?_
  obtain ⟨r_1, c_2, E⟩ := bd_of E
  refine g_Vi (pc' := 4) O ⟨dX11_writes_1, rfl⟩ (y := yX11_laysLayers) (As := []) (st := []) (t_X11_laysLayers l D ad cy (h := h) c_2) kw_1226 kw_70 kw_1223 kw_1225 kw_32 rfl (wM_0 ad cy h) hd_X11_laysLayers ⟨Nat.le_of_ble_eq_true rfl, Nat.le_of_ble_eq_true rfl⟩ ⟨Nat.le_of_ble_eq_true rfl, Nat.le_of_ble_eq_true rfl⟩ rfl (Nat.le_of_ble_eq_true rfl) ?_
  refine g_istore_n (pc' := 5) O ⟨dX11_writes_4, rfl⟩ (lv' := [(1, .int r_1.1), (0, .ref (ad 0))]) rfl (by decide) rfl ?_
  refine g_iconst (pc' := 6) O ⟨dX11_writes_5, rfl⟩ (v := (0 : Int32)) rfl ?_
  refine g_istore_n (pc' := 7) O ⟨dX11_writes_6, rfl⟩ (lv' := [(2, .int (0 : Int32)), (1, .int r_1.1), (0, .ref (ad 0))]) rfl (by decide) rfl ?_
  refine g_iconst (pc' := 8) O ⟨dX11_writes_7, rfl⟩ (v := (0 : Int32)) rfl ?_
  refine g_istore_n (pc' := 9) O ⟨dX11_writes_8, rfl⟩ (lv' := [(3, .int (0 : Int32)), (2, .int (0 : Int32)), (1, .int r_1.1), (0, .ref (ad 0))]) rfl (by decide) rfl ?_
  refine jn1_of (P := fun (h_3 : Hp) => G l D X 6 (WM ad cy) 0 0 h_3 100 [] []) E ?_ ?_
  · intro h_3 E
    show G l D X 6 (WM ad cy) 0 0 h_3 100 [] []
    cases E
    exact hret _ _ _ ⟨dX11_writes_100, rfl⟩
  · intro k100 hk100 E
    refine g_sub (lv' := [(0, .ref (ad 0)), (1, .int r_1.1), (2, .int (0 : Int32)), (3, .int (0 : Int32))]) [3, 2, 1, 0] rfl ?_
    refine fx3_of (P := fun (x2_4 : Int32) (x3_5 : Int32) (h_6 : Hp) => G l D X 6 (WM ad cy) 0 0 h_6 9 [(0, .ref (ad 0)), (1, .int r_1.1), (2, .int x2_4), (3, .int x3_5)] []) ?_ _ _ _ _ E
    intro self ih9 x2_4 x3_5 h_6 E
    show G l D X 6 (WM ad cy) 0 0 h_6 9 [(0, .ref (ad 0)), (1, .int r_1.1), (2, .int x2_4), (3, .int x3_5)] []
    unfold L_X11_writes_9 at E
    refine g_iload_n (pc' := 10) O ⟨dX11_writes_9, rfl⟩ (q := 3) rfl rfl ?_
    refine g_iload_n (pc' := 11) O ⟨dX11_writes_10, rfl⟩ (q := 1) rfl rfl ?_
    refine g_icmp_ge (pc' := 14) O ⟨dX11_writes_11, rfl⟩ E (tgt := 100) (by decide) (fun E => ?_) (fun E => ?_)
    · refine g_sub (lv' := []) [] rfl ?_
      exact hk100 _ E
    · refine g_iconst (pc' := 15) O ⟨dX11_writes_14, rfl⟩ (v := (0 : Int32)) rfl ?_
      refine g_istore (pc' := 17) O ⟨dX11_writes_15, rfl⟩ (lv' := [(4, .int (0 : Int32)), (0, .ref (ad 0)), (1, .int r_1.1), (2, .int x2_4), (3, .int x3_5)]) (by decide) rfl ?_
      refine jn2_of (P := fun (x2_7 : Int32) (h_8 : Hp) => G l D X 6 (WM ad cy) 0 0 h_8 94 [(0, .ref (ad 0)), (1, .int r_1.1), (2, .int x2_7), (3, .int x3_5)] []) E ?_ ?_
      · intro x2_7 h_8 E
        show G l D X 6 (WM ad cy) 0 0 h_8 94 [(0, .ref (ad 0)), (1, .int r_1.1), (2, .int x2_7), (3, .int x3_5)] []
        refine g_iinc (pc' := 97) O ⟨dX11_writes_94, rfl⟩ (q := 3) (v := x3_5 + (1 : Int32)) (lv' := [(3, .int (x3_5 + (1 : Int32))), (0, .ref (ad 0)), (1, .int r_1.1), (2, .int x2_7)]) rfl rfl (by decide) rfl ?_
        refine g_goto (pc' := 100) O ⟨dX11_writes_97, rfl⟩ (tgt := 9) (by decide) ?_
        refine g_sub (lv' := [(0, .ref (ad 0)), (1, .int r_1.1), (2, .int x2_7), (3, .int (x3_5 + (1 : Int32)))]) [1, 2, 3, 0] rfl ?_
        exact ih9 _ _ _ E
      · intro k94 hk94 E
        refine g_sub (lv' := [(0, .ref (ad 0)), (1, .int r_1.1), (2, .int x2_4), (3, .int x3_5), (4, .int (0 : Int32))]) [1, 2, 3, 4, 0] rfl ?_
        refine fx3_of (P := fun (x2_9 : Int32) (x4_10 : Int32) (h_11 : Hp) => G l D X 6 (WM ad cy) 0 0 h_11 17 [(0, .ref (ad 0)), (1, .int r_1.1), (2, .int x2_9), (3, .int x3_5), (4, .int x4_10)] []) ?_ _ _ _ _ E
        intro self ih17 x2_9 x4_10 h_11 E
        show G l D X 6 (WM ad cy) 0 0 h_11 17 [(0, .ref (ad 0)), (1, .int r_1.1), (2, .int x2_9), (3, .int x3_5), (4, .int x4_10)] []
        unfold L_X11_writes_17 at E
        refine g_iload (pc' := 19) O ⟨dX11_writes_17, rfl⟩ (q := 4) rfl ?_
        refine g_aload_n (pc' := 20) O ⟨dX11_writes_19, rfl⟩ (q := 0) rfl rfl ?_
        refine gf_M_RX11_74_0 ad cy (pc' := 23) O ⟨dX11_writes_20, rfl⟩ ?_
        refine g_icmp_ge (pc' := 26) O ⟨dX11_writes_23, rfl⟩ E (tgt := 94) (by decide) (fun E => ?_) (fun E => ?_)
        · refine g_sub (lv' := [(0, .ref (ad 0)), (1, .int r_1.1), (2, .int x2_9), (3, .int x3_5)]) [0, 1, 2, 3] rfl ?_
          exact hk94 _ _ E
        · refine g_iconst (pc' := 27) O ⟨dX11_writes_26, rfl⟩ (v := (0 : Int32)) rfl ?_
          refine g_istore (pc' := 29) O ⟨dX11_writes_27, rfl⟩ (lv' := [(5, .int (0 : Int32)), (0, .ref (ad 0)), (1, .int r_1.1), (2, .int x2_9), (3, .int x3_5), (4, .int x4_10)]) (by decide) rfl ?_
          refine jn2_of (P := fun (x2_12 : Int32) (h_13 : Hp) => G l D X 6 (WM ad cy) 0 0 h_13 88 [(0, .ref (ad 0)), (1, .int r_1.1), (2, .int x2_12), (3, .int x3_5), (4, .int x4_10)] []) E ?_ ?_
          · intro x2_12 h_13 E
            show G l D X 6 (WM ad cy) 0 0 h_13 88 [(0, .ref (ad 0)), (1, .int r_1.1), (2, .int x2_12), (3, .int x3_5), (4, .int x4_10)] []
            refine g_iinc (pc' := 91) O ⟨dX11_writes_88, rfl⟩ (q := 4) (v := x4_10 + (1 : Int32)) (lv' := [(4, .int (x4_10 + (1 : Int32))), (0, .ref (ad 0)), (1, .int r_1.1), (2, .int x2_12), (3, .int x3_5)]) rfl rfl (by decide) rfl ?_
            refine g_goto (pc' := 94) O ⟨dX11_writes_91, rfl⟩ (tgt := 17) (by decide) ?_
            refine g_sub (lv' := [(0, .ref (ad 0)), (1, .int r_1.1), (2, .int x2_12), (3, .int x3_5), (4, .int (x4_10 + (1 : Int32)))]) [1, 2, 3, 4, 0] rfl ?_
            exact ih17 _ _ _ E
          · intro k88 hk88 E
            refine g_sub (lv' := [(0, .ref (ad 0)), (1, .int r_1.1), (2, .int x2_9), (3, .int x3_5), (4, .int x4_10), (5, .int (0 : Int32))]) [1, 2, 3, 4, 5, 0] rfl ?_
            refine fx3_of (P := fun (x2_14 : Int32) (x5_15 : Int32) (h_16 : Hp) => G l D X 6 (WM ad cy) 0 0 h_16 29 [(0, .ref (ad 0)), (1, .int r_1.1), (2, .int x2_14), (3, .int x3_5), (4, .int x4_10), (5, .int x5_15)] []) ?_ _ _ _ _ E
            intro self ih29 x2_14 x5_15 h_16 E
            show G l D X 6 (WM ad cy) 0 0 h_16 29 [(0, .ref (ad 0)), (1, .int r_1.1), (2, .int x2_14), (3, .int x3_5), (4, .int x4_10), (5, .int x5_15)] []
            unfold L_X11_writes_29 at E
            refine g_iload (pc' := 31) O ⟨dX11_writes_29, rfl⟩ (q := 5) rfl ?_
            refine g_aload_n (pc' := 32) O ⟨dX11_writes_31, rfl⟩ (q := 0) rfl rfl ?_
            refine gf_M_RX11_81_0 ad cy (pc' := 35) O ⟨dX11_writes_32, rfl⟩ ?_
            refine g_icmp_ge (pc' := 38) O ⟨dX11_writes_35, rfl⟩ E (tgt := 88) (by decide) (fun E => ?_) (fun E => ?_)
            · refine g_sub (lv' := [(0, .ref (ad 0)), (1, .int r_1.1), (2, .int x2_14), (3, .int x3_5), (4, .int x4_10)]) [0, 1, 2, 3, 4] rfl ?_
              exact hk88 _ _ E
            · refine g_aload_n (pc' := 39) O ⟨dX11_writes_38, rfl⟩ (q := 0) rfl rfl ?_
              refine gf_M_RX11_16_0 ad cy (pc' := 42) O ⟨dX11_writes_39, rfl⟩ ?_
              refine g_iload (pc' := 44) O ⟨dX11_writes_42, rfl⟩ (q := 5) rfl ?_
              refine g_iald (pc' := 45) O ⟨dX11_writes_44, rfl⟩ (wM_3 ad cy h_16) E (fun E => ?_)
              refine g_iload_n (pc' := 46) O ⟨dX11_writes_45, rfl⟩ (q := 3) rfl rfl ?_
              refine g_icmp_ne (pc' := 49) O ⟨dX11_writes_46, rfl⟩ E (tgt := 82) (by decide) (fun E => ?_) (fun E => ?_)
              · refine g_iinc (pc' := 85) O ⟨dX11_writes_82, rfl⟩ (q := 5) (v := x5_15 + (1 : Int32)) (lv' := [(5, .int (x5_15 + (1 : Int32))), (0, .ref (ad 0)), (1, .int r_1.1), (2, .int x2_14), (3, .int x3_5), (4, .int x4_10)]) rfl rfl (by decide) rfl ?_
                refine g_goto (pc' := 88) O ⟨dX11_writes_85, rfl⟩ (tgt := 29) (by decide) ?_
                refine g_sub (lv' := [(0, .ref (ad 0)), (1, .int r_1.1), (2, .int x2_14), (3, .int x3_5), (4, .int x4_10), (5, .int (x5_15 + (1 : Int32)))]) [1, 2, 3, 4, 5, 0] rfl ?_
                exact ih29 _ _ _ E
              · refine g_aload_n (pc' := 50) O ⟨dX11_writes_49, rfl⟩ (q := 0) rfl rfl ?_
                refine gf_M_RX11_7_0 ad cy (pc' := 53) O ⟨dX11_writes_50, rfl⟩ ?_
                refine g_iload (pc' := 55) O ⟨dX11_writes_53, rfl⟩ (q := 5) rfl ?_
                refine g_iald (pc' := 56) O ⟨dX11_writes_55, rfl⟩ (wM_1 ad cy h_16) E (fun E => ?_)
                refine g_aload_n (pc' := 57) O ⟨dX11_writes_56, rfl⟩ (q := 0) rfl rfl ?_
                refine gf_M_RX11_13_0 ad cy (pc' := 60) O ⟨dX11_writes_57, rfl⟩ ?_
                refine g_iload (pc' := 62) O ⟨dX11_writes_60, rfl⟩ (q := 5) rfl ?_
                refine g_iald (pc' := 63) O ⟨dX11_writes_62, rfl⟩ (wM_2 ad cy h_16) E (fun E => ?_)
                obtain ⟨r_17, c_18, E⟩ := bd_of E
                refine g_Si (pc' := 66) O ⟨dX11_writes_63, rfl⟩ (y := yX11_lesser) (As := [.int (h_16.1 1 x5_15.toNatClampNeg), .int (h_16.1 2 x5_15.toNatClampNeg)]) (st := []) (t_X11_lesser l D ad cy (h := h_16) c_18) kw_1245 kw_70 kw_1243 kw_1244 hd_X11_lesser ⟨Nat.le_of_ble_eq_true rfl, Nat.le_of_ble_eq_true rfl⟩ ⟨Nat.le_of_ble_eq_true rfl, Nat.le_of_ble_eq_true rfl⟩ rfl (Nat.le_of_ble_eq_true rfl) ?_
                refine g_iload (pc' := 68) O ⟨dX11_writes_66, rfl⟩ (q := 4) rfl ?_
                refine g_icmp_ne (pc' := 71) O ⟨dX11_writes_68, rfl⟩ E (tgt := 82) (by decide) (fun E => ?_) (fun E => ?_)
                · refine g_iinc (pc' := 85) O ⟨dX11_writes_82, rfl⟩ (q := 5) (v := x5_15 + (1 : Int32)) (lv' := [(5, .int (x5_15 + (1 : Int32))), (0, .ref (ad 0)), (1, .int r_1.1), (2, .int x2_14), (3, .int x3_5), (4, .int x4_10)]) rfl rfl (by decide) rfl ?_
                  refine g_goto (pc' := 88) O ⟨dX11_writes_85, rfl⟩ (tgt := 29) (by decide) ?_
                  refine g_sub (lv' := [(0, .ref (ad 0)), (1, .int r_1.1), (2, .int x2_14), (3, .int x3_5), (4, .int x4_10), (5, .int (x5_15 + (1 : Int32)))]) [1, 2, 3, 4, 5, 0] rfl ?_
                  exact ih29 _ _ _ E
                · refine g_aload_n (pc' := 72) O ⟨dX11_writes_71, rfl⟩ (q := 0) rfl rfl ?_
                  refine gf_M_RX11_28_0 ad cy (pc' := 75) O ⟨dX11_writes_72, rfl⟩ ?_
                  refine g_iload_n (pc' := 76) O ⟨dX11_writes_75, rfl⟩ (q := 2) rfl rfl ?_
                  refine g_iload (pc' := 78) O ⟨dX11_writes_76, rfl⟩ (q := 5) rfl ?_
                  refine g_iast (pc' := 79) O ⟨dX11_writes_78, rfl⟩ (wM_7 ad cy h_16) (vM_7 ad cy h_16 _) E (fun E => ?_)
                  refine g_nmh E (fun h_19 E => ?_)
                  refine g_iinc (pc' := 82) O ⟨dX11_writes_79, rfl⟩ (q := 2) (v := x2_14 + (1 : Int32)) (lv' := [(2, .int (x2_14 + (1 : Int32))), (0, .ref (ad 0)), (1, .int r_1.1), (3, .int x3_5), (4, .int x4_10), (5, .int x5_15)]) rfl rfl (by decide) rfl ?_
                  refine g_iinc (pc' := 85) O ⟨dX11_writes_82, rfl⟩ (q := 5) (v := x5_15 + (1 : Int32)) (lv' := [(5, .int (x5_15 + (1 : Int32))), (2, .int (x2_14 + (1 : Int32))), (0, .ref (ad 0)), (1, .int r_1.1), (3, .int x3_5), (4, .int x4_10)]) rfl rfl (by decide) rfl ?_
                  refine g_goto (pc' := 88) O ⟨dX11_writes_85, rfl⟩ (tgt := 29) (by decide) ?_
                  refine g_sub (lv' := [(0, .ref (ad 0)), (1, .int r_1.1), (2, .int (x2_14 + (1 : Int32))), (3, .int x3_5), (4, .int x4_10), (5, .int (x5_15 + (1 : Int32)))]) [2, 3, 1, 4, 5, 0] rfl ?_
                  exact ih29 _ _ _ E
set_option maxRecDepth 100000 in
set_option maxHeartbeats 4000000 in
theorem t_X11_told (l : Launch) (D : va_G) (ad : Nat → Nat) (cy : Nat → ClassId) {h : Hp} {x1 : Int32} {o : Int32 × Hp} (E : f_X11_told h x1 = some o) : CtI l D cy (WM ad cy) yX11_told cX11_told 5 .int 2 53 [.ref (ad 0), .int x1] h o.1 o.2 := by
  refine sI (own := RX11) rfl rfl (Nat.le_of_ble_eq_true rfl) (fun X O hret => ?_)
  show G l D X 5 (WM ad cy) 0 0 h 0 [(0, .ref (ad 0)), (1, .int x1)] []
  unfold f_X11_told at E
  refine g_aload_n (pc' := 1) O ⟨dX11_told_0, rfl⟩ (q := 0) rfl rfl ?_
  refine g_iload_n (pc' := 2) O ⟨dX11_told_1, rfl⟩ (q := 1) rfl rfl ?_
  refine g_iconst (pc' := 3) O ⟨dX11_told_2, rfl⟩ (v := (0 : Int32)) rfl ?_
  refine g_iconst (pc' := 4) O ⟨dX11_told_3, rfl⟩ (v := (5 : Int32)) rfl ?_
  obtain ⟨r_1, c_2, E⟩ := bd_of E
  refine g_Si (pc' := 7) O ⟨dX11_told_4, rfl⟩ (y := yX11_in) (As := [.int x1, .int (0 : Int32), .int (5 : Int32)]) (st := [.ref (ad 0)]) (t_X11_in l D ad cy (h := h) c_2) kw_1167 kw_70 kw_1165 kw_1166 hd_X11_in ⟨Nat.le_of_ble_eq_true rfl, Nat.le_of_ble_eq_true rfl⟩ ⟨Nat.le_of_ble_eq_true rfl, Nat.le_of_ble_eq_true rfl⟩ rfl (Nat.le_of_ble_eq_true rfl) ?_
  refine jn1_of (P := fun (z_3 : Int32) => G l D X 5 (WM ad cy) 0 0 h 15 [(0, .ref (ad 0)), (1, .int x1)] [.int z_3, .ref (ad 0)]) E ?_ ?_
  · intro z_3 E
    show G l D X 5 (WM ad cy) 0 0 h 15 [(0, .ref (ad 0)), (1, .int x1)] [.int z_3, .ref (ad 0)]
    refine gp_M_RX11_70_0 ad cy (pc' := 18) O ⟨dX11_told_15, rfl⟩ ?_
    refine g_nmh E (fun h_4 E => ?_)
    refine g_aload_n (pc' := 19) O ⟨dX11_told_18, rfl⟩ (q := 0) rfl rfl ?_
    refine gf_M_RX11_70_0 ad cy (pc' := 22) O ⟨dX11_told_19, rfl⟩ ?_
    refine g_if_le (pc' := 25) O ⟨dX11_told_22, rfl⟩ E (tgt := 27) (by decide) (fun E => ?_) (fun E => ?_)
    · refine g_iconst (pc' := 28) O ⟨dX11_told_27, rfl⟩ (v := (0 : Int32)) rfl ?_
      refine g_istore_n (pc' := 29) O ⟨dX11_told_28, rfl⟩ (lv' := [(2, .int (0 : Int32)), (0, .ref (ad 0)), (1, .int x1)]) rfl (by decide) rfl ?_
      refine g_iconst (pc' := 30) O ⟨dX11_told_29, rfl⟩ (v := (0 : Int32)) rfl ?_
      refine g_istore_n (pc' := 31) O ⟨dX11_told_30, rfl⟩ (lv' := [(3, .int (0 : Int32)), (2, .int (0 : Int32)), (0, .ref (ad 0)), (1, .int x1)]) rfl (by decide) rfl ?_
      refine g_iconst (pc' := 32) O ⟨dX11_told_31, rfl⟩ (v := (0 : Int32)) rfl ?_
      refine g_istore (pc' := 34) O ⟨dX11_told_32, rfl⟩ (lv' := [(4, .int (0 : Int32)), (3, .int (0 : Int32)), (2, .int (0 : Int32)), (0, .ref (ad 0)), (1, .int x1)]) (by decide) rfl ?_
      refine jn2_of (P := fun (x2_5 : Int32) (x3_6 : Int32) => G l D X 5 (WM ad cy) 0 0 h_4 96 [(0, .ref (ad 0)), (1, .int x1), (2, .int x2_5), (3, .int x3_6)] []) E ?_ ?_
      · intro x2_5 x3_6 E
        show G l D X 5 (WM ad cy) 0 0 h_4 96 [(0, .ref (ad 0)), (1, .int x1), (2, .int x2_5), (3, .int x3_6)] []
        refine g_iload_n (pc' := 97) O ⟨dX11_told_96, rfl⟩ (q := 1) rfl rfl ?_
        refine g_tab (pc' := 132) O ⟨dX11_told_97, rfl⟩ (v := (0 : Int32)) (tgt := 132) E ⟨by decide, by decide, rfl, by decide⟩ (fun E => ?_) (fun n0 E => ?_)
        · refine g_aload_n (pc' := 133) O ⟨dX11_told_132, rfl⟩ (q := 0) rfl rfl ?_
          refine gf_M_RX11_74_0 ad cy (pc' := 136) O ⟨dX11_told_133, rfl⟩ ?_
          cases E
          exact hret _ _ _ ⟨dX11_told_136, rfl⟩ rfl
        refine g_tab (pc' := 132) O ⟨dX11_told_97, rfl⟩ (v := (1 : Int32)) (tgt := 137) E ⟨by decide, by decide, rfl, by decide⟩ (fun E => ?_) (fun n1 E => ?_)
        · refine g_aload_n (pc' := 138) O ⟨dX11_told_137, rfl⟩ (q := 0) rfl rfl ?_
          refine gf_M_RX11_81_0 ad cy (pc' := 141) O ⟨dX11_told_138, rfl⟩ ?_
          cases E
          exact hret _ _ _ ⟨dX11_told_141, rfl⟩ rfl
        refine g_tab (pc' := 132) O ⟨dX11_told_97, rfl⟩ (v := (2 : Int32)) (tgt := 142) E ⟨by decide, by decide, rfl, by decide⟩ (fun E => ?_) (fun n2 E => ?_)
        · refine g_aload_n (pc' := 143) O ⟨dX11_told_142, rfl⟩ (q := 0) rfl rfl ?_
          obtain ⟨r_7, c_8, E⟩ := bd_of E
          refine g_Vi (pc' := 146) O ⟨dX11_told_143, rfl⟩ (y := yX11_laysLayers) (As := []) (st := []) (t_X11_laysLayers l D ad cy (h := h_4) c_8) kw_1226 kw_70 kw_1223 kw_1225 kw_32 rfl (wM_0 ad cy h_4) hd_X11_laysLayers ⟨Nat.le_of_ble_eq_true rfl, Nat.le_of_ble_eq_true rfl⟩ ⟨Nat.le_of_ble_eq_true rfl, Nat.le_of_ble_eq_true rfl⟩ rfl (Nat.le_of_ble_eq_true rfl) ?_
          cases E
          exact hret _ _ _ ⟨dX11_told_146, rfl⟩ rfl
        refine g_tab (pc' := 132) O ⟨dX11_told_97, rfl⟩ (v := (3 : Int32)) (tgt := 147) E ⟨by decide, by decide, rfl, by decide⟩ (fun E => ?_) (fun n3 E => ?_)
        · refine g_iload_n (pc' := 148) O ⟨dX11_told_147, rfl⟩ (q := 2) rfl rfl ?_
          cases E
          exact hret _ _ _ ⟨dX11_told_148, rfl⟩ rfl
        refine g_tab (pc' := 132) O ⟨dX11_told_97, rfl⟩ (v := (4 : Int32)) (tgt := 149) E ⟨by decide, by decide, rfl, by decide⟩ (fun E => ?_) (fun n4 E => ?_)
        · refine g_iload_n (pc' := 150) O ⟨dX11_told_149, rfl⟩ (q := 3) rfl rfl ?_
          cases E
          exact hret _ _ _ ⟨dX11_told_150, rfl⟩ rfl
        have m0 := neI (z := 0) n0 (by decide)
        have m1 := neI (z := 1) n1 (by decide)
        have m2 := neI (z := 2) n2 (by decide)
        have m3 := neI (z := 3) n3 (by decide)
        have m4 := neI (z := 4) n4 (by decide)
        refine g_tabD (pc' := 132) O ⟨dX11_told_97, rfl⟩ (tgt := 151) (by omega) (by decide) ?_
        refine g_aload_n (pc' := 152) O ⟨dX11_told_151, rfl⟩ (q := 0) rfl rfl ?_
        refine gf_M_RX11_81_0 ad cy (pc' := 155) O ⟨dX11_told_152, rfl⟩ ?_
        refine g_if_ne (pc' := 158) O ⟨dX11_told_155, rfl⟩ E (tgt := 162) (by decide) (fun E => ?_) (fun E => ?_)
        · refine g_iconst (pc' := 163) O ⟨dX11_told_162, rfl⟩ (v := (4 : Int32)) rfl ?_
          refine g_aload_n (pc' := 164) O ⟨dX11_told_163, rfl⟩ (q := 0) rfl rfl ?_
          refine gf_M_RX11_81_0 ad cy (pc' := 167) O ⟨dX11_told_164, rfl⟩ ?_
          refine g_imul (pc' := 168) O ⟨dX11_told_167, rfl⟩ ?_
          refine g_iconst (pc' := 169) O ⟨dX11_told_168, rfl⟩ (v := (1 : Int32)) rfl ?_
          refine g_isub (pc' := 170) O ⟨dX11_told_169, rfl⟩ ?_
          cases E
          exact hret _ _ _ ⟨dX11_told_170, rfl⟩ rfl
        · refine g_iconst (pc' := 159) O ⟨dX11_told_158, rfl⟩ (v := (0 : Int32)) rfl ?_
          refine g_goto (pc' := 162) O ⟨dX11_told_159, rfl⟩ (tgt := 170) (by decide) ?_
          cases E
          exact hret _ _ _ ⟨dX11_told_170, rfl⟩ rfl
      · intro k96 hk96 E
        refine g_sub (lv' := [(0, .ref (ad 0)), (1, .int x1), (2, .int (0 : Int32)), (3, .int (0 : Int32)), (4, .int (0 : Int32))]) [3, 4, 2, 1, 0] rfl ?_
        refine fx3_of (P := fun (x2_9 : Int32) (x3_10 : Int32) (x4_11 : Int32) => G l D X 5 (WM ad cy) 0 0 h_4 34 [(0, .ref (ad 0)), (1, .int x1), (2, .int x2_9), (3, .int x3_10), (4, .int x4_11)] []) ?_ _ _ _ _ E
        intro self ih34 x2_9 x3_10 x4_11 E
        show G l D X 5 (WM ad cy) 0 0 h_4 34 [(0, .ref (ad 0)), (1, .int x1), (2, .int x2_9), (3, .int x3_10), (4, .int x4_11)] []
        unfold L_X11_told_34 at E
        refine g_iload (pc' := 36) O ⟨dX11_told_34, rfl⟩ (q := 4) rfl ?_
        refine g_aload_n (pc' := 37) O ⟨dX11_told_36, rfl⟩ (q := 0) rfl rfl ?_
        refine gf_M_RX11_81_0 ad cy (pc' := 40) O ⟨dX11_told_37, rfl⟩ ?_
        refine g_icmp_ge (pc' := 43) O ⟨dX11_told_40, rfl⟩ E (tgt := 96) (by decide) (fun E => ?_) (fun E => ?_)
        · refine g_sub (lv' := [(0, .ref (ad 0)), (1, .int x1), (2, .int x2_9), (3, .int x3_10)]) [0, 1, 2, 3] rfl ?_
          exact hk96 _ _ E
        · refine g_iload_n (pc' := 44) O ⟨dX11_told_43, rfl⟩ (q := 2) rfl rfl ?_
          refine g_iload_n (pc' := 45) O ⟨dX11_told_44, rfl⟩ (q := 1) rfl rfl ?_
          refine g_iconst (pc' := 46) O ⟨dX11_told_45, rfl⟩ (v := (3 : Int32)) rfl ?_
          refine jn1_of (P := fun (z_12 : Int32) => G l D X 5 (WM ad cy) 0 0 h_4 63 [(0, .ref (ad 0)), (1, .int x1), (3, .int x3_10), (4, .int x4_11)] [.int z_12, .int x2_9]) E ?_ ?_
          · intro z_12 E
            show G l D X 5 (WM ad cy) 0 0 h_4 63 [(0, .ref (ad 0)), (1, .int x1), (3, .int x3_10), (4, .int x4_11)] [.int z_12, .int x2_9]
            refine g_iadd (pc' := 64) O ⟨dX11_told_63, rfl⟩ ?_
            refine g_nm E (fun y2_13 E => ?_)
            refine g_istore_n (pc' := 65) O ⟨dX11_told_64, rfl⟩ (lv' := [(2, .int y2_13), (0, .ref (ad 0)), (1, .int x1), (3, .int x3_10), (4, .int x4_11)]) rfl (by decide) rfl ?_
            refine g_iload_n (pc' := 66) O ⟨dX11_told_65, rfl⟩ (q := 3) rfl rfl ?_
            refine g_aload_n (pc' := 67) O ⟨dX11_told_66, rfl⟩ (q := 1) rfl rfl ?_
            refine gf_M_RX11_7_0 ad cy (pc' := 70) O ⟨dX11_told_67, rfl⟩ ?_
            refine g_iload (pc' := 72) O ⟨dX11_told_70, rfl⟩ (q := 4) rfl ?_
            refine g_iald (pc' := 73) O ⟨dX11_told_72, rfl⟩ (wM_1 ad cy h_4) E (fun E => ?_)
            refine g_aload_n (pc' := 74) O ⟨dX11_told_73, rfl⟩ (q := 1) rfl rfl ?_
            refine gf_M_RX11_13_0 ad cy (pc' := 77) O ⟨dX11_told_74, rfl⟩ ?_
            refine g_iload (pc' := 79) O ⟨dX11_told_77, rfl⟩ (q := 4) rfl ?_
            refine g_iald (pc' := 80) O ⟨dX11_told_79, rfl⟩ (wM_2 ad cy h_4) E (fun E => ?_)
            refine g_icmp_le (pc' := 83) O ⟨dX11_told_80, rfl⟩ E (tgt := 87) (by decide) (fun E => ?_) (fun E => ?_)
            · refine g_iconst (pc' := 88) O ⟨dX11_told_87, rfl⟩ (v := (0 : Int32)) rfl ?_
              refine g_iadd (pc' := 89) O ⟨dX11_told_88, rfl⟩ ?_
              refine g_nm E (fun y3_14 E => ?_)
              refine g_istore_n (pc' := 90) O ⟨dX11_told_89, rfl⟩ (lv' := [(3, .int y3_14), (2, .int y2_13), (0, .ref (ad 0)), (1, .int x1), (4, .int x4_11)]) rfl (by decide) rfl ?_
              refine g_iinc (pc' := 93) O ⟨dX11_told_90, rfl⟩ (q := 4) (v := x4_11 + (1 : Int32)) (lv' := [(4, .int (x4_11 + (1 : Int32))), (3, .int y3_14), (2, .int y2_13), (0, .ref (ad 0)), (1, .int x1)]) rfl rfl (by decide) rfl ?_
              refine g_goto (pc' := 96) O ⟨dX11_told_93, rfl⟩ (tgt := 34) (by decide) ?_
              refine g_sub (lv' := [(0, .ref (ad 0)), (1, .int x1), (2, .int y2_13), (3, .int y3_14), (4, .int (x4_11 + (1 : Int32)))]) [3, 4, 2, 1, 0] rfl ?_
              exact ih34 _ _ _ E
            · refine g_iconst (pc' := 84) O ⟨dX11_told_83, rfl⟩ (v := (1 : Int32)) rfl ?_
              refine g_goto (pc' := 87) O ⟨dX11_told_84, rfl⟩ (tgt := 88) (by decide) ?_
              refine g_iadd (pc' := 89) O ⟨dX11_told_88, rfl⟩ ?_
              refine g_nm E (fun y3_15 E => ?_)
              refine g_istore_n (pc' := 90) O ⟨dX11_told_89, rfl⟩ (lv' := [(3, .int y3_15), (2, .int y2_13), (0, .ref (ad 0)), (1, .int x1), (4, .int x4_11)]) rfl (by decide) rfl ?_
              refine g_iinc (pc' := 93) O ⟨dX11_told_90, rfl⟩ (q := 4) (v := x4_11 + (1 : Int32)) (lv' := [(4, .int (x4_11 + (1 : Int32))), (3, .int y3_15), (2, .int y2_13), (0, .ref (ad 0)), (1, .int x1)]) rfl rfl (by decide) rfl ?_
              refine g_goto (pc' := 96) O ⟨dX11_told_93, rfl⟩ (tgt := 34) (by decide) ?_
              refine g_sub (lv' := [(0, .ref (ad 0)), (1, .int x1), (2, .int y2_13), (3, .int y3_15), (4, .int (x4_11 + (1 : Int32)))]) [3, 4, 2, 1, 0] rfl ?_
              exact ih34 _ _ _ E
          · intro k63 hk63 E
            refine jn0_of (P := G l D X 5 (WM ad cy) 0 0 h_4 62 [(0, .ref (ad 0)), (1, .int x1), (3, .int x3_10), (4, .int x4_11)] [.int x2_9]) E ?_ ?_
            · intro E
              show G l D X 5 (WM ad cy) 0 0 h_4 62 [(0, .ref (ad 0)), (1, .int x1), (3, .int x3_10), (4, .int x4_11)] [.int x2_9]
              refine g_iconst (pc' := 63) O ⟨dX11_told_62, rfl⟩ (v := (0 : Int32)) rfl ?_
              exact hk63 _ E
            · intro k62 hk62 E
              refine g_icmp_ne (pc' := 49) O ⟨dX11_told_46, rfl⟩ E (tgt := 62) (by decide) (fun E => ?_) (fun E => ?_)
              · refine g_sub (lv' := [(0, .ref (ad 0)), (1, .int x1), (3, .int x3_10), (4, .int x4_11)]) [0, 1, 3, 4] rfl ?_
                exact hk62 E
              · refine g_aload_n (pc' := 50) O ⟨dX11_told_49, rfl⟩ (q := 0) rfl rfl ?_
                refine g_iload (pc' := 52) O ⟨dX11_told_50, rfl⟩ (q := 4) rfl ?_
                obtain ⟨r_16, c_17, E⟩ := bd_of E
                refine g_Vi (pc' := 55) O ⟨dX11_told_52, rfl⟩ (y := yX11_often) (As := [.int x4_11]) (st := [.int x2_9]) (t_X11_often l D ad cy (h := h_4) c_17) kw_1214 kw_70 kw_1211 kw_1213 kw_30 rfl (wM_0 ad cy h_4) hd_X11_often ⟨Nat.le_of_ble_eq_true rfl, Nat.le_of_ble_eq_true rfl⟩ ⟨Nat.le_of_ble_eq_true rfl, Nat.le_of_ble_eq_true rfl⟩ rfl (Nat.le_of_ble_eq_true rfl) ?_
                refine g_if_ne (pc' := 58) O ⟨dX11_told_55, rfl⟩ E (tgt := 62) (by decide) (fun E => ?_) (fun E => ?_)
                · refine g_sub (lv' := [(0, .ref (ad 0)), (1, .int x1), (3, .int x3_10), (4, .int x4_11)]) [0, 1, 3, 4] rfl ?_
                  exact hk62 E
                · refine g_iconst (pc' := 59) O ⟨dX11_told_58, rfl⟩ (v := (1 : Int32)) rfl ?_
                  refine g_goto (pc' := 62) O ⟨dX11_told_59, rfl⟩ (tgt := 63) (by decide) ?_
                  refine g_sub (lv' := [(0, .ref (ad 0)), (1, .int x1), (3, .int x3_10), (4, .int x4_11)]) [0, 1, 3, 4] rfl ?_
                  exact hk63 _ E
    · refine g_iconst (pc' := 26) O ⟨dX11_told_25, rfl⟩ (v := (0 : Int32)) rfl ?_
      cases E
      exact hret _ _ _ ⟨dX11_told_26, rfl⟩ rfl
  · intro k15 hk15 E
    refine g_if_eq (pc' := 10) O ⟨dX11_told_7, rfl⟩ E (tgt := 14) (by decide) (fun E => ?_) (fun E => ?_)
    · refine g_iconst (pc' := 15) O ⟨dX11_told_14, rfl⟩ (v := (1 : Int32)) rfl ?_
      exact hk15 _ E
    · refine g_iconst (pc' := 11) O ⟨dX11_told_10, rfl⟩ (v := (0 : Int32)) rfl ?_
      refine g_goto (pc' := 14) O ⟨dX11_told_11, rfl⟩ (tgt := 15) (by decide) ?_
      exact hk15 _ E
set_option maxRecDepth 100000 in
set_option maxHeartbeats 4000000 in
theorem t_X11_comparator (l : Launch) (D : va_G) (ad : Nat → Nat) (cy : Nat → ClassId) {h : Hp} {x1 : Int32} {x2 : Int32} {o : Int32 × Hp} (E : f_X11_comparator h x1 x2 = some o) : CtI l D cy (WM ad cy) yX11_comparator cX11_comparator 3 .int 2 53 [.ref (ad 0), .int x1, .int x2] h o.1 o.2 := by
  refine sI (own := RX11) rfl rfl (Nat.le_of_ble_eq_true rfl) (fun X O hret => ?_)
  show G l D X 3 (WM ad cy) 0 0 h 0 [(0, .ref (ad 0)), (1, .int x1), (2, .int x2)] []
  unfold f_X11_comparator at E
  refine g_aload_n (pc' := 1) O ⟨dX11_comparator_0, rfl⟩ (q := 0) rfl rfl ?_
  refine g_aload_n (pc' := 2) O ⟨dX11_comparator_1, rfl⟩ (q := 0) rfl rfl ?_
  refine g_iload_n (pc' := 3) O ⟨dX11_comparator_2, rfl⟩ (q := 1) rfl rfl ?_
  obtain ⟨r_1, c_2, E⟩ := bd_of E
  refine g_Vi (pc' := 6) O ⟨dX11_comparator_3, rfl⟩ (y := yX11_isComparator) (As := [.int x1]) (st := [.ref (ad 0)]) (t_X11_isComparator l D ad cy (h := h) c_2) kw_1234 kw_70 kw_1231 kw_1233 kw_33 rfl (wM_0 ad cy h) hd_X11_isComparator ⟨Nat.le_of_ble_eq_true rfl, Nat.le_of_ble_eq_true rfl⟩ ⟨Nat.le_of_ble_eq_true rfl, Nat.le_of_ble_eq_true rfl⟩ rfl (Nat.le_of_ble_eq_true rfl) ?_
  refine jn1_of (P := fun (z_3 : Int32) => G l D X 3 (WM ad cy) 0 0 h 27 [(0, .ref (ad 0)), (1, .int x1), (2, .int x2)] [.int z_3, .ref (ad 0)]) E ?_ ?_
  · intro z_3 E
    show G l D X 3 (WM ad cy) 0 0 h 27 [(0, .ref (ad 0)), (1, .int x1), (2, .int x2)] [.int z_3, .ref (ad 0)]
    refine gp_M_RX11_70_0 ad cy (pc' := 30) O ⟨dX11_comparator_27, rfl⟩ ?_
    refine g_nmh E (fun h_4 E => ?_)
    refine g_aload_n (pc' := 31) O ⟨dX11_comparator_30, rfl⟩ (q := 0) rfl rfl ?_
    refine gf_M_RX11_70_0 ad cy (pc' := 34) O ⟨dX11_comparator_31, rfl⟩ ?_
    refine g_if_le (pc' := 37) O ⟨dX11_comparator_34, rfl⟩ E (tgt := 39) (by decide) (fun E => ?_) (fun E => ?_)
    · refine g_aload_n (pc' := 40) O ⟨dX11_comparator_39, rfl⟩ (q := 0) rfl rfl ?_
      obtain ⟨r_5, c_6, E⟩ := bd_of E
      refine g_Vi (pc' := 43) O ⟨dX11_comparator_40, rfl⟩ (y := yX11_laysLayers) (As := []) (st := []) (t_X11_laysLayers l D ad cy (h := h_4) c_6) kw_1226 kw_70 kw_1223 kw_1225 kw_32 rfl (wM_0 ad cy h_4) hd_X11_laysLayers ⟨Nat.le_of_ble_eq_true rfl, Nat.le_of_ble_eq_true rfl⟩ ⟨Nat.le_of_ble_eq_true rfl, Nat.le_of_ble_eq_true rfl⟩ rfl (Nat.le_of_ble_eq_true rfl) ?_
      refine g_pop (pc' := 44) O ⟨dX11_comparator_43, rfl⟩ rfl ?_
      refine g_iload_n (pc' := 45) O ⟨dX11_comparator_44, rfl⟩ (q := 2) rfl rfl ?_
      refine g_if_ne (pc' := 48) O ⟨dX11_comparator_45, rfl⟩ E (tgt := 57) (by decide) (fun E => ?_) (fun E => ?_)
      · refine g_iload_n (pc' := 58) O ⟨dX11_comparator_57, rfl⟩ (q := 2) rfl rfl ?_
        refine g_iconst (pc' := 59) O ⟨dX11_comparator_58, rfl⟩ (v := (1 : Int32)) rfl ?_
        refine g_icmp_ne (pc' := 62) O ⟨dX11_comparator_59, rfl⟩ E (tgt := 71) (by decide) (fun E => ?_) (fun E => ?_)
        · refine g_iload_n (pc' := 72) O ⟨dX11_comparator_71, rfl⟩ (q := 2) rfl rfl ?_
          refine g_iconst (pc' := 73) O ⟨dX11_comparator_72, rfl⟩ (v := (2 : Int32)) rfl ?_
          refine g_icmp_ne (pc' := 76) O ⟨dX11_comparator_73, rfl⟩ E (tgt := 85) (by decide) (fun E => ?_) (fun E => ?_)
          · refine g_aload_n (pc' := 86) O ⟨dX11_comparator_85, rfl⟩ (q := 0) rfl rfl ?_
            refine g_iload_n (pc' := 87) O ⟨dX11_comparator_86, rfl⟩ (q := 1) rfl rfl ?_
            obtain ⟨r_7, c_8, E⟩ := bd_of E
            refine g_Vi (pc' := 90) O ⟨dX11_comparator_87, rfl⟩ (y := yX11_often) (As := [.int x1]) (st := []) (t_X11_often l D ad cy (h := r_5.2) c_8) kw_1214 kw_70 kw_1211 kw_1213 kw_30 rfl (wM_0 ad cy r_5.2) hd_X11_often ⟨Nat.le_of_ble_eq_true rfl, Nat.le_of_ble_eq_true rfl⟩ ⟨Nat.le_of_ble_eq_true rfl, Nat.le_of_ble_eq_true rfl⟩ rfl (Nat.le_of_ble_eq_true rfl) ?_
            cases E
            exact hret _ _ _ ⟨dX11_comparator_90, rfl⟩ rfl
          · refine g_aload_n (pc' := 77) O ⟨dX11_comparator_76, rfl⟩ (q := 0) rfl rfl ?_
            refine gf_M_RX11_16_0 ad cy (pc' := 80) O ⟨dX11_comparator_77, rfl⟩ ?_
            refine g_iload_n (pc' := 81) O ⟨dX11_comparator_80, rfl⟩ (q := 1) rfl rfl ?_
            refine g_iald (pc' := 82) O ⟨dX11_comparator_81, rfl⟩ (wM_3 ad cy r_5.2) E (fun E => ?_)
            refine g_goto (pc' := 85) O ⟨dX11_comparator_82, rfl⟩ (tgt := 90) (by decide) ?_
            cases E
            exact hret _ _ _ ⟨dX11_comparator_90, rfl⟩ rfl
        · refine g_aload_n (pc' := 63) O ⟨dX11_comparator_62, rfl⟩ (q := 0) rfl rfl ?_
          refine gf_M_RX11_13_0 ad cy (pc' := 66) O ⟨dX11_comparator_63, rfl⟩ ?_
          refine g_iload_n (pc' := 67) O ⟨dX11_comparator_66, rfl⟩ (q := 1) rfl rfl ?_
          refine g_iald (pc' := 68) O ⟨dX11_comparator_67, rfl⟩ (wM_2 ad cy r_5.2) E (fun E => ?_)
          refine g_goto (pc' := 71) O ⟨dX11_comparator_68, rfl⟩ (tgt := 90) (by decide) ?_
          cases E
          exact hret _ _ _ ⟨dX11_comparator_90, rfl⟩ rfl
      · refine g_aload_n (pc' := 49) O ⟨dX11_comparator_48, rfl⟩ (q := 0) rfl rfl ?_
        refine gf_M_RX11_7_0 ad cy (pc' := 52) O ⟨dX11_comparator_49, rfl⟩ ?_
        refine g_iload_n (pc' := 53) O ⟨dX11_comparator_52, rfl⟩ (q := 1) rfl rfl ?_
        refine g_iald (pc' := 54) O ⟨dX11_comparator_53, rfl⟩ (wM_1 ad cy r_5.2) E (fun E => ?_)
        refine g_goto (pc' := 57) O ⟨dX11_comparator_54, rfl⟩ (tgt := 90) (by decide) ?_
        cases E
        exact hret _ _ _ ⟨dX11_comparator_90, rfl⟩ rfl
    · refine g_iconst (pc' := 38) O ⟨dX11_comparator_37, rfl⟩ (v := (0 : Int32)) rfl ?_
      cases E
      exact hret _ _ _ ⟨dX11_comparator_38, rfl⟩ rfl
  · intro k27 hk27 E
    refine g_if_ne (pc' := 9) O ⟨dX11_comparator_6, rfl⟩ E (tgt := 13) (by decide) (fun E => ?_) (fun E => ?_)
    · refine g_iload_n (pc' := 14) O ⟨dX11_comparator_13, rfl⟩ (q := 2) rfl rfl ?_
      refine g_iconst (pc' := 15) O ⟨dX11_comparator_14, rfl⟩ (v := (0 : Int32)) rfl ?_
      refine g_iconst (pc' := 16) O ⟨dX11_comparator_15, rfl⟩ (v := (3 : Int32)) rfl ?_
      obtain ⟨r_9, c_10, E⟩ := bd_of E
      refine g_Si (pc' := 19) O ⟨dX11_comparator_16, rfl⟩ (y := yX11_in) (As := [.int x2, .int (0 : Int32), .int (3 : Int32)]) (st := [.ref (ad 0)]) (t_X11_in l D ad cy (h := h) c_10) kw_1167 kw_70 kw_1165 kw_1166 hd_X11_in ⟨Nat.le_of_ble_eq_true rfl, Nat.le_of_ble_eq_true rfl⟩ ⟨Nat.le_of_ble_eq_true rfl, Nat.le_of_ble_eq_true rfl⟩ rfl (Nat.le_of_ble_eq_true rfl) ?_
      refine g_if_ne (pc' := 22) O ⟨dX11_comparator_19, rfl⟩ E (tgt := 26) (by decide) (fun E => ?_) (fun E => ?_)
      · refine g_iconst (pc' := 27) O ⟨dX11_comparator_26, rfl⟩ (v := (0 : Int32)) rfl ?_
        exact hk27 _ E
      · refine g_iconst (pc' := 23) O ⟨dX11_comparator_22, rfl⟩ (v := (2 : Int32)) rfl ?_
        refine g_goto (pc' := 26) O ⟨dX11_comparator_23, rfl⟩ (tgt := 27) (by decide) ?_
        exact hk27 _ E
    · refine g_iconst (pc' := 10) O ⟨dX11_comparator_9, rfl⟩ (v := (1 : Int32)) rfl ?_
      refine g_goto (pc' := 13) O ⟨dX11_comparator_10, rfl⟩ (tgt := 27) (by decide) ?_
      exact hk27 _ E
set_option maxRecDepth 100000 in
set_option maxHeartbeats 4000000 in
theorem t_X11_textAt (l : Launch) (D : va_G) (ad : Nat → Nat) (cy : Nat → ClassId) {h : Hp} {x1 : Int32} {o : Int32 × Hp} (E : f_X11_textAt h x1 = some o) : CtI l D cy (WM ad cy) yX11_textAt cX11_textAt 3 .char 2 49 [.ref (ad 0), .int x1] h o.1 o.2 := by
  refine sI (own := RX11) rfl rfl (Nat.le_of_ble_eq_true rfl) (fun X O hret => ?_)
  show G l D X 3 (WM ad cy) 0 0 h 0 [(0, .ref (ad 0)), (1, .int x1)] []
  unfold f_X11_textAt at E
  refine g_aload_n (pc' := 1) O ⟨dX11_textAt_0, rfl⟩ (q := 0) rfl rfl ?_
  refine g_iload_n (pc' := 2) O ⟨dX11_textAt_1, rfl⟩ (q := 1) rfl rfl ?_
  refine jn1_of (P := fun (z_1 : Int32) => G l D X 3 (WM ad cy) 0 0 h 10 [(0, .ref (ad 0)), (1, .int x1)] [.int z_1, .ref (ad 0)]) E ?_ ?_
  · intro z_1 E
    show G l D X 3 (WM ad cy) 0 0 h 10 [(0, .ref (ad 0)), (1, .int x1)] [.int z_1, .ref (ad 0)]
    refine gp_M_RX11_70_0 ad cy (pc' := 13) O ⟨dX11_textAt_10, rfl⟩ ?_
    refine g_nmh E (fun h_2 E => ?_)
    refine g_aload_n (pc' := 14) O ⟨dX11_textAt_13, rfl⟩ (q := 0) rfl rfl ?_
    refine gf_M_RX11_70_0 ad cy (pc' := 17) O ⟨dX11_textAt_14, rfl⟩ ?_
    refine g_if_le (pc' := 20) O ⟨dX11_textAt_17, rfl⟩ E (tgt := 22) (by decide) (fun E => ?_) (fun E => ?_)
    · refine g_iload_n (pc' := 23) O ⟨dX11_textAt_22, rfl⟩ (q := 1) rfl rfl ?_
      refine g_iconst (pc' := 24) O ⟨dX11_textAt_23, rfl⟩ (v := (4 : Int32)) rfl ?_
      refine g_aload_n (pc' := 25) O ⟨dX11_textAt_24, rfl⟩ (q := 0) rfl rfl ?_
      refine gf_M_RX11_81_0 ad cy (pc' := 28) O ⟨dX11_textAt_25, rfl⟩ ?_
      refine g_imul (pc' := 29) O ⟨dX11_textAt_28, rfl⟩ ?_
      refine g_iconst (pc' := 30) O ⟨dX11_textAt_29, rfl⟩ (v := (1 : Int32)) rfl ?_
      refine g_isub (pc' := 31) O ⟨dX11_textAt_30, rfl⟩ ?_
      refine g_icmp_lt (pc' := 34) O ⟨dX11_textAt_31, rfl⟩ E (tgt := 37) (by decide) (fun E => ?_) (fun E => ?_)
      · refine g_aload_n (pc' := 38) O ⟨dX11_textAt_37, rfl⟩ (q := 0) rfl rfl ?_
        obtain ⟨r_3, c_4, E⟩ := bd_of E
        refine g_Vv (pc' := 41) O ⟨dX11_textAt_38, rfl⟩ (y := yX11_writes) (As := []) (st := []) (t_X11_writes l D ad cy (h := h_2) c_4) kw_1242 kw_70 kw_1239 kw_1241 kw_34 rfl (wM_0 ad cy h_2) hd_X11_writes ⟨Nat.le_of_ble_eq_true rfl, Nat.le_of_ble_eq_true rfl⟩ ⟨Nat.le_of_ble_eq_true rfl, Nat.le_of_ble_eq_true rfl⟩ rfl (Nat.le_of_ble_eq_true rfl) ?_
        refine g_aload_n (pc' := 42) O ⟨dX11_textAt_41, rfl⟩ (q := 0) rfl rfl ?_
        refine gf_M_RX11_28_0 ad cy (pc' := 45) O ⟨dX11_textAt_42, rfl⟩ ?_
        refine g_iload_n (pc' := 46) O ⟨dX11_textAt_45, rfl⟩ (q := 1) rfl rfl ?_
        refine g_iconst (pc' := 47) O ⟨dX11_textAt_46, rfl⟩ (v := (4 : Int32)) rfl ?_
        refine g_idiv (pc' := 48) O ⟨dX11_textAt_47, rfl⟩ (by decide) ?_
        refine g_iald (pc' := 49) O ⟨dX11_textAt_48, rfl⟩ (wM_7 ad cy r_3) E (fun E => ?_)
        refine g_nm E (fun y2_5 E => ?_)
        refine g_istore_n (pc' := 50) O ⟨dX11_textAt_49, rfl⟩ (lv' := [(2, .int y2_5), (0, .ref (ad 0)), (1, .int x1)]) rfl (by decide) rfl ?_
        refine g_iload_n (pc' := 51) O ⟨dX11_textAt_50, rfl⟩ (q := 2) rfl rfl ?_
        refine g_iconst (pc' := 52) O ⟨dX11_textAt_51, rfl⟩ (v := (4 : Int32)) rfl ?_
        refine g_irem (pc' := 53) O ⟨dX11_textAt_52, rfl⟩ (by decide) ?_
        refine g_tab (pc' := 80) O ⟨dX11_textAt_53, rfl⟩ (v := (0 : Int32)) (tgt := 80) E ⟨by decide, by decide, rfl, by decide⟩ (fun E => ?_) (fun n0 E => ?_)
        · refine g_bipush (pc' := 82) O ⟨dX11_textAt_80, rfl⟩ (v := (48 : Int32)) rfl ?_
          refine g_aload_n (pc' := 83) O ⟨dX11_textAt_82, rfl⟩ (q := 1) rfl rfl ?_
          refine gf_M_RX11_7_0 ad cy (pc' := 86) O ⟨dX11_textAt_83, rfl⟩ ?_
          refine g_iload_n (pc' := 87) O ⟨dX11_textAt_86, rfl⟩ (q := 0) rfl rfl ?_
          refine g_iald (pc' := 88) O ⟨dX11_textAt_87, rfl⟩ (wM_1 ad cy r_3) E (fun E => ?_)
          refine g_iadd (pc' := 89) O ⟨dX11_textAt_88, rfl⟩ ?_
          refine g_i2c (pc' := 90) O ⟨dX11_textAt_89, rfl⟩ ?_
          obtain ⟨hn, E⟩ := ckc_of E
          cases E
          exact hret _ _ _ ⟨dX11_textAt_90, rfl⟩ hn
        refine g_tab (pc' := 80) O ⟨dX11_textAt_53, rfl⟩ (v := (1 : Int32)) (tgt := 91) E ⟨by decide, by decide, rfl, by decide⟩ (fun E => ?_) (fun n1 E => ?_)
        · refine g_bipush (pc' := 93) O ⟨dX11_textAt_91, rfl⟩ (v := (58 : Int32)) rfl ?_
          obtain ⟨hn, E⟩ := ckc_of E
          cases E
          exact hret _ _ _ ⟨dX11_textAt_93, rfl⟩ hn
        refine g_tab (pc' := 80) O ⟨dX11_textAt_53, rfl⟩ (v := (2 : Int32)) (tgt := 94) E ⟨by decide, by decide, rfl, by decide⟩ (fun E => ?_) (fun n2 E => ?_)
        · refine g_bipush (pc' := 96) O ⟨dX11_textAt_94, rfl⟩ (v := (48 : Int32)) rfl ?_
          refine g_aload_n (pc' := 97) O ⟨dX11_textAt_96, rfl⟩ (q := 1) rfl rfl ?_
          refine gf_M_RX11_13_0 ad cy (pc' := 100) O ⟨dX11_textAt_97, rfl⟩ ?_
          refine g_iload_n (pc' := 101) O ⟨dX11_textAt_100, rfl⟩ (q := 0) rfl rfl ?_
          refine g_iald (pc' := 102) O ⟨dX11_textAt_101, rfl⟩ (wM_2 ad cy r_3) E (fun E => ?_)
          refine g_iadd (pc' := 103) O ⟨dX11_textAt_102, rfl⟩ ?_
          refine g_i2c (pc' := 104) O ⟨dX11_textAt_103, rfl⟩ ?_
          obtain ⟨hn, E⟩ := ckc_of E
          cases E
          exact hret _ _ _ ⟨dX11_textAt_104, rfl⟩ hn
        have m0 := neI (z := 0) n0 (by decide)
        have m1 := neI (z := 1) n1 (by decide)
        have m2 := neI (z := 2) n2 (by decide)
        refine g_tabD (pc' := 80) O ⟨dX11_textAt_53, rfl⟩ (tgt := 105) (by omega) (by decide) ?_
        refine g_aload_n (pc' := 106) O ⟨dX11_textAt_105, rfl⟩ (q := 1) rfl rfl ?_
        refine gf_M_RX11_16_0 ad cy (pc' := 109) O ⟨dX11_textAt_106, rfl⟩ ?_
        refine g_iload_n (pc' := 110) O ⟨dX11_textAt_109, rfl⟩ (q := 0) rfl rfl ?_
        refine g_iald (pc' := 111) O ⟨dX11_textAt_110, rfl⟩ (wM_3 ad cy r_3) E (fun E => ?_)
        refine g_aload_n (pc' := 112) O ⟨dX11_textAt_111, rfl⟩ (q := 1) rfl rfl ?_
        refine gf_M_RX11_16_0 ad cy (pc' := 115) O ⟨dX11_textAt_112, rfl⟩ ?_
        refine g_aload_n (pc' := 116) O ⟨dX11_textAt_115, rfl⟩ (q := 1) rfl rfl ?_
        refine gf_M_RX11_28_0 ad cy (pc' := 119) O ⟨dX11_textAt_116, rfl⟩ ?_
        refine g_iload_n (pc' := 120) O ⟨dX11_textAt_119, rfl⟩ (q := 2) rfl rfl ?_
        refine g_iconst (pc' := 121) O ⟨dX11_textAt_120, rfl⟩ (v := (4 : Int32)) rfl ?_
        refine g_idiv (pc' := 122) O ⟨dX11_textAt_121, rfl⟩ (by decide) ?_
        refine g_iconst (pc' := 123) O ⟨dX11_textAt_122, rfl⟩ (v := (1 : Int32)) rfl ?_
        refine g_iadd (pc' := 124) O ⟨dX11_textAt_123, rfl⟩ ?_
        refine g_iald (pc' := 125) O ⟨dX11_textAt_124, rfl⟩ (wM_7 ad cy r_3) E (fun E => ?_)
        refine g_iald (pc' := 126) O ⟨dX11_textAt_125, rfl⟩ (wM_3 ad cy r_3) E (fun E => ?_)
        refine g_icmp_ne (pc' := 129) O ⟨dX11_textAt_126, rfl⟩ E (tgt := 134) (by decide) (fun E => ?_) (fun E => ?_)
        · refine g_bipush (pc' := 136) O ⟨dX11_textAt_134, rfl⟩ (v := (47 : Int32)) rfl ?_
          obtain ⟨hn, E⟩ := ckc_of E
          cases E
          exact hret _ _ _ ⟨dX11_textAt_136, rfl⟩ hn
        · refine g_bipush (pc' := 131) O ⟨dX11_textAt_129, rfl⟩ (v := (32 : Int32)) rfl ?_
          refine g_goto (pc' := 134) O ⟨dX11_textAt_131, rfl⟩ (tgt := 136) (by decide) ?_
          obtain ⟨hn, E⟩ := ckc_of E
          cases E
          exact hret _ _ _ ⟨dX11_textAt_136, rfl⟩ hn
      · refine g_bipush (pc' := 36) O ⟨dX11_textAt_34, rfl⟩ (v := (32 : Int32)) rfl ?_
        obtain ⟨hn, E⟩ := ckc_of E
        cases E
        exact hret _ _ _ ⟨dX11_textAt_36, rfl⟩ hn
    · refine g_iconst (pc' := 21) O ⟨dX11_textAt_20, rfl⟩ (v := (0 : Int32)) rfl ?_
      obtain ⟨hn, E⟩ := ckc_of E
      cases E
      exact hret _ _ _ ⟨dX11_textAt_21, rfl⟩ hn
  · intro k10 hk10 E
    refine g_if_ge (pc' := 5) O ⟨dX11_textAt_2, rfl⟩ E (tgt := 9) (by decide) (fun E => ?_) (fun E => ?_)
    · refine g_iconst (pc' := 10) O ⟨dX11_textAt_9, rfl⟩ (v := (0 : Int32)) rfl ?_
      exact hk10 _ E
    · refine g_iconst (pc' := 6) O ⟨dX11_textAt_5, rfl⟩ (v := (1 : Int32)) rfl ?_
      refine g_goto (pc' := 9) O ⟨dX11_textAt_6, rfl⟩ (tgt := 10) (by decide) ?_
      exact hk10 _ E
set_option maxRecDepth 100000 in
set_option maxHeartbeats 4000000 in
theorem t_X11_isCharacter (l : Launch) (D : va_G) (ad : Nat → Nat) (cy : Nat → ClassId) {h : Hp} {x0 : Int32} {o : Int32} (E : f_X11_isCharacter x0 = some o) : CtI l D cy (WM ad cy) yX11_isCharacter cX11_isCharacter 1 .boolean 1 22 [.int x0] h o h := by
  refine sI (own := RX11) rfl rfl (Nat.le_of_ble_eq_true rfl) (fun X O hret => ?_)
  show G l D X 1 (WM ad cy) 0 0 h 0 [(0, .int x0)] []
  unfold f_X11_isCharacter at E
  refine g_iload_n (pc' := 1) O ⟨dX11_isCharacter_0, rfl⟩ (q := 0) rfl rfl ?_
  refine g_bipush (pc' := 3) O ⟨dX11_isCharacter_1, rfl⟩ (v := (48 : Int32)) rfl ?_
  refine g_bipush (pc' := 5) O ⟨dX11_isCharacter_3, rfl⟩ (v := (53 : Int32)) rfl ?_
  obtain ⟨r_1, c_2, E⟩ := bd_of E
  refine g_Si (pc' := 8) O ⟨dX11_isCharacter_5, rfl⟩ (y := yX11_in) (As := [.int x0, .int (48 : Int32), .int (53 : Int32)]) (st := []) (t_X11_in l D ad cy (h := h) c_2) kw_1167 kw_70 kw_1165 kw_1166 hd_X11_in ⟨Nat.le_of_ble_eq_true rfl, Nat.le_of_ble_eq_true rfl⟩ ⟨Nat.le_of_ble_eq_true rfl, Nat.le_of_ble_eq_true rfl⟩ rfl (Nat.le_of_ble_eq_true rfl) ?_
  refine g_if_ne (pc' := 11) O ⟨dX11_isCharacter_8, rfl⟩ E (tgt := 29) (by decide) (fun E => ?_) (fun E => ?_)
  · refine g_iconst (pc' := 30) O ⟨dX11_isCharacter_29, rfl⟩ (v := (1 : Int32)) rfl ?_
    refine g_goto (pc' := 33) O ⟨dX11_isCharacter_30, rfl⟩ (tgt := 34) (by decide) ?_
    obtain ⟨hn, E⟩ := ckz_of E
    cases E
    exact hret _ _ _ ⟨dX11_isCharacter_34, rfl⟩ hn
  · refine g_iload_n (pc' := 12) O ⟨dX11_isCharacter_11, rfl⟩ (q := 0) rfl rfl ?_
    refine g_bipush (pc' := 14) O ⟨dX11_isCharacter_12, rfl⟩ (v := (58 : Int32)) rfl ?_
    refine g_icmp_eq (pc' := 17) O ⟨dX11_isCharacter_14, rfl⟩ E (tgt := 29) (by decide) (fun E => ?_) (fun E => ?_)
    · refine g_iconst (pc' := 30) O ⟨dX11_isCharacter_29, rfl⟩ (v := (1 : Int32)) rfl ?_
      refine g_goto (pc' := 33) O ⟨dX11_isCharacter_30, rfl⟩ (tgt := 34) (by decide) ?_
      obtain ⟨hn, E⟩ := ckz_of E
      cases E
      exact hret _ _ _ ⟨dX11_isCharacter_34, rfl⟩ hn
    · refine g_iload_n (pc' := 18) O ⟨dX11_isCharacter_17, rfl⟩ (q := 0) rfl rfl ?_
      refine g_bipush (pc' := 20) O ⟨dX11_isCharacter_18, rfl⟩ (v := (47 : Int32)) rfl ?_
      refine g_icmp_eq (pc' := 23) O ⟨dX11_isCharacter_20, rfl⟩ E (tgt := 29) (by decide) (fun E => ?_) (fun E => ?_)
      · refine g_iconst (pc' := 30) O ⟨dX11_isCharacter_29, rfl⟩ (v := (1 : Int32)) rfl ?_
        refine g_goto (pc' := 33) O ⟨dX11_isCharacter_30, rfl⟩ (tgt := 34) (by decide) ?_
        obtain ⟨hn, E⟩ := ckz_of E
        cases E
        exact hret _ _ _ ⟨dX11_isCharacter_34, rfl⟩ hn
      · refine g_iload_n (pc' := 24) O ⟨dX11_isCharacter_23, rfl⟩ (q := 0) rfl rfl ?_
        refine g_bipush (pc' := 26) O ⟨dX11_isCharacter_24, rfl⟩ (v := (32 : Int32)) rfl ?_
        refine g_icmp_ne (pc' := 29) O ⟨dX11_isCharacter_26, rfl⟩ E (tgt := 33) (by decide) (fun E => ?_) (fun E => ?_)
        · refine g_iconst (pc' := 34) O ⟨dX11_isCharacter_33, rfl⟩ (v := (0 : Int32)) rfl ?_
          obtain ⟨hn, E⟩ := ckz_of E
          cases E
          exact hret _ _ _ ⟨dX11_isCharacter_34, rfl⟩ hn
        · refine g_iconst (pc' := 30) O ⟨dX11_isCharacter_29, rfl⟩ (v := (1 : Int32)) rfl ?_
          refine g_goto (pc' := 33) O ⟨dX11_isCharacter_30, rfl⟩ (tgt := 34) (by decide) ?_
          obtain ⟨hn, E⟩ := ckz_of E
          cases E
          exact hret _ _ _ ⟨dX11_isCharacter_34, rfl⟩ hn
set_option maxRecDepth 100000 in
set_option maxHeartbeats 4000000 in
theorem t_X11_type (l : Launch) (D : va_G) (ad : Nat → Nat) (cy : Nat → ClassId) {h : Hp} {x1 : Int64} {x3 : Int32} {o : Int32 × Hp} (E : f_X11_type h x1 x3 = some o) : CtI l D cy (WM ad cy) yX11_type cX11_type 6 .int 2 42 [.ref (ad 0), .long x1, .int x3] h o.1 o.2 := by
  refine sI (own := RX11) rfl rfl (Nat.le_of_ble_eq_true rfl) (fun X O hret => ?_)
  show G l D X 6 (WM ad cy) 0 0 h 0 [(0, .ref (ad 0)), (1, .long x1), (3, .int x3)] []
  unfold f_X11_type at E
  refine g_iload_n (pc' := 1) O ⟨dX11_type_0, rfl⟩ (q := 2) rfl rfl ?_
  refine g_iconst (pc' := 2) O ⟨dX11_type_1, rfl⟩ (v := (1 : Int32)) rfl ?_
  refine g_bipush (pc' := 4) O ⟨dX11_type_2, rfl⟩ (v := (8 : Int32)) rfl ?_
  obtain ⟨r_1, c_2, E⟩ := bd_of E
  refine g_Si (pc' := 7) O ⟨dX11_type_4, rfl⟩ (y := yX11_in) (As := [.int x3, .int (1 : Int32), .int (8 : Int32)]) (st := []) (t_X11_in l D ad cy (h := h) c_2) kw_1167 kw_70 kw_1165 kw_1166 hd_X11_in ⟨Nat.le_of_ble_eq_true rfl, Nat.le_of_ble_eq_true rfl⟩ ⟨Nat.le_of_ble_eq_true rfl, Nat.le_of_ble_eq_true rfl⟩ rfl (Nat.le_of_ble_eq_true rfl) ?_
  refine g_istore (pc' := 9) O ⟨dX11_type_7, rfl⟩ (lv' := [(4, .int r_1), (0, .ref (ad 0)), (1, .long x1), (3, .int x3)]) (by decide) rfl ?_
  refine g_iconst (pc' := 10) O ⟨dX11_type_9, rfl⟩ (v := (0 : Int32)) rfl ?_
  refine g_istore (pc' := 12) O ⟨dX11_type_10, rfl⟩ (lv' := [(5, .int (0 : Int32)), (4, .int r_1), (0, .ref (ad 0)), (1, .long x1), (3, .int x3)]) (by decide) rfl ?_
  refine jn1_of (P := fun (x4_3 : Int32) => G l D X 6 (WM ad cy) 0 0 h 46 [(0, .ref (ad 0)), (1, .long x1), (3, .int x3), (4, .int x4_3)] []) E ?_ ?_
  · intro x4_3 E
    show G l D X 6 (WM ad cy) 0 0 h 46 [(0, .ref (ad 0)), (1, .long x1), (3, .int x3), (4, .int x4_3)] []
    refine g_aload_n (pc' := 47) O ⟨dX11_type_46, rfl⟩ (q := 0) rfl rfl ?_
    refine g_iload (pc' := 49) O ⟨dX11_type_47, rfl⟩ (q := 3) rfl ?_
    refine jn1_of (P := fun (z_4 : Int32) => G l D X 6 (WM ad cy) 0 0 h 72 [(0, .ref (ad 0)), (1, .long x1), (3, .int x3)] [.int z_4, .ref (ad 0)]) E ?_ ?_
    · intro z_4 E
      show G l D X 6 (WM ad cy) 0 0 h 72 [(0, .ref (ad 0)), (1, .long x1), (3, .int x3)] [.int z_4, .ref (ad 0)]
      refine gp_M_RX11_70_0 ad cy (pc' := 75) O ⟨dX11_type_72, rfl⟩ ?_
      refine g_nmh E (fun h_5 E => ?_)
      refine g_aload_n (pc' := 76) O ⟨dX11_type_75, rfl⟩ (q := 0) rfl rfl ?_
      refine gf_M_RX11_70_0 ad cy (pc' := 79) O ⟨dX11_type_76, rfl⟩ ?_
      refine g_if_le (pc' := 82) O ⟨dX11_type_79, rfl⟩ E (tgt := 84) (by decide) (fun E => ?_) (fun E => ?_)
      · refine g_iconst (pc' := 85) O ⟨dX11_type_84, rfl⟩ (v := (0 : Int32)) rfl ?_
        refine g_istore (pc' := 87) O ⟨dX11_type_85, rfl⟩ (lv' := [(5, .int (0 : Int32)), (0, .ref (ad 0)), (1, .long x1), (3, .int x3)]) (by decide) rfl ?_
        refine jn1_of (P := fun (h_6 : Hp) => G l D X 6 (WM ad cy) 0 0 h_6 130 [(0, .ref (ad 0))] []) E ?_ ?_
        · intro h_6 E
          show G l D X 6 (WM ad cy) 0 0 h_6 130 [(0, .ref (ad 0))] []
          refine g_aload_n (pc' := 131) O ⟨dX11_type_130, rfl⟩ (q := 0) rfl rfl ?_
          refine gf_M_RX11_149_0 ad cy (pc' := 134) O ⟨dX11_type_131, rfl⟩ ?_
          cases E
          exact hret _ _ _ ⟨dX11_type_134, rfl⟩ rfl
        · intro k130 hk130 E
          refine g_sub (lv' := [(0, .ref (ad 0)), (1, .long x1), (3, .int x3), (5, .int (0 : Int32))]) [1, 2, 3, 0] rfl ?_
          refine fx2_of (P := fun (x5_7 : Int32) (h_8 : Hp) => G l D X 6 (WM ad cy) 0 0 h_8 87 [(0, .ref (ad 0)), (1, .long x1), (3, .int x3), (5, .int x5_7)] []) ?_ _ _ _ E
          intro self ih87 x5_7 h_8 E
          show G l D X 6 (WM ad cy) 0 0 h_8 87 [(0, .ref (ad 0)), (1, .long x1), (3, .int x3), (5, .int x5_7)] []
          unfold L_X11_type_87 at E
          refine g_iload (pc' := 89) O ⟨dX11_type_87, rfl⟩ (q := 3) rfl ?_
          refine g_iload_n (pc' := 90) O ⟨dX11_type_89, rfl⟩ (q := 2) rfl rfl ?_
          refine g_icmp_ge (pc' := 93) O ⟨dX11_type_90, rfl⟩ E (tgt := 130) (by decide) (fun E => ?_) (fun E => ?_)
          · refine g_sub (lv' := [(0, .ref (ad 0))]) [0] rfl ?_
            exact hk130 _ E
          · refine g_aload_n (pc' := 94) O ⟨dX11_type_93, rfl⟩ (q := 0) rfl rfl ?_
            refine gf_M_RX11_31_0 ad cy (pc' := 97) O ⟨dX11_type_94, rfl⟩ ?_
            refine g_aload_n (pc' := 98) O ⟨dX11_type_97, rfl⟩ (q := 0) rfl rfl ?_
            refine gf_M_RX11_149_0 ad cy (pc' := 101) O ⟨dX11_type_98, rfl⟩ ?_
            refine g_lload_n (pc' := 102) O ⟨dX11_type_101, rfl⟩ (q := 1) rfl rfl ?_
            refine g_bipush (pc' := 104) O ⟨dX11_type_102, rfl⟩ (v := (8 : Int32)) rfl ?_
            refine g_iload (pc' := 106) O ⟨dX11_type_104, rfl⟩ (q := 3) rfl ?_
            refine g_imul (pc' := 107) O ⟨dX11_type_106, rfl⟩ ?_
            refine g_lshr (pc' := 108) O ⟨dX11_type_107, rfl⟩ ?_
            refine g_ldc2 (pc' := 111) O ⟨dX11_type_108, rfl⟩ kw_1250 ?_
            refine g_land (pc' := 112) O ⟨dX11_type_111, rfl⟩ ?_
            refine g_l2i (pc' := 113) O ⟨dX11_type_112, rfl⟩ ?_
            refine g_iast (pc' := 114) O ⟨dX11_type_113, rfl⟩ (wM_8 ad cy h_8) (vM_8 ad cy h_8 _) E (fun E => ?_)
            refine g_nmh E (fun h_9 E => ?_)
            refine g_aload_n (pc' := 115) O ⟨dX11_type_114, rfl⟩ (q := 0) rfl rfl ?_
            refine g_dup (pc' := 116) O ⟨dX11_type_115, rfl⟩ rfl ?_
            refine gf_M_RX11_149_0 ad cy (pc' := 119) O ⟨dX11_type_116, rfl⟩ ?_
            refine g_iconst (pc' := 120) O ⟨dX11_type_119, rfl⟩ (v := (1 : Int32)) rfl ?_
            refine g_iadd (pc' := 121) O ⟨dX11_type_120, rfl⟩ ?_
            refine gp_M_RX11_149_0 ad cy (pc' := 124) O ⟨dX11_type_121, rfl⟩ ?_
            refine g_nmh E (fun h_10 E => ?_)
            refine g_iinc (pc' := 127) O ⟨dX11_type_124, rfl⟩ (q := 3) (v := x5_7 + (1 : Int32)) (lv' := [(5, .int (x5_7 + (1 : Int32))), (0, .ref (ad 0)), (1, .long x1), (3, .int x3)]) rfl rfl (by decide) rfl ?_
            refine g_goto (pc' := 130) O ⟨dX11_type_127, rfl⟩ (tgt := 87) (by decide) ?_
            refine g_sub (lv' := [(0, .ref (ad 0)), (1, .long x1), (3, .int x3), (5, .int (x5_7 + (1 : Int32)))]) [1, 2, 3, 0] rfl ?_
            exact ih87 _ _ E
      · refine g_iconst (pc' := 83) O ⟨dX11_type_82, rfl⟩ (v := (0 : Int32)) rfl ?_
        cases E
        exact hret _ _ _ ⟨dX11_type_83, rfl⟩ rfl
    · intro k72 hk72 E
      refine g_if_ne (pc' := 52) O ⟨dX11_type_49, rfl⟩ E (tgt := 56) (by decide) (fun E => ?_) (fun E => ?_)
      · refine g_aload_n (pc' := 57) O ⟨dX11_type_56, rfl⟩ (q := 0) rfl rfl ?_
        refine gf_M_RX11_149_0 ad cy (pc' := 60) O ⟨dX11_type_57, rfl⟩ ?_
        refine g_iload_n (pc' := 61) O ⟨dX11_type_60, rfl⟩ (q := 2) rfl rfl ?_
        refine g_iadd (pc' := 62) O ⟨dX11_type_61, rfl⟩ ?_
        refine g_bipush (pc' := 64) O ⟨dX11_type_62, rfl⟩ (v := (40 : Int32)) rfl ?_
        refine g_icmp_le (pc' := 67) O ⟨dX11_type_64, rfl⟩ E (tgt := 71) (by decide) (fun E => ?_) (fun E => ?_)
        · refine g_iconst (pc' := 72) O ⟨dX11_type_71, rfl⟩ (v := (0 : Int32)) rfl ?_
          refine g_sub (lv' := [(0, .ref (ad 0)), (1, .long x1), (3, .int x3)]) [0, 1, 2] rfl ?_
          exact hk72 _ E
        · refine g_iconst (pc' := 68) O ⟨dX11_type_67, rfl⟩ (v := (2 : Int32)) rfl ?_
          refine g_goto (pc' := 71) O ⟨dX11_type_68, rfl⟩ (tgt := 72) (by decide) ?_
          refine g_sub (lv' := [(0, .ref (ad 0)), (1, .long x1), (3, .int x3)]) [0, 1, 2] rfl ?_
          exact hk72 _ E
      · refine g_iconst (pc' := 53) O ⟨dX11_type_52, rfl⟩ (v := (1 : Int32)) rfl ?_
        refine g_goto (pc' := 56) O ⟨dX11_type_53, rfl⟩ (tgt := 72) (by decide) ?_
        refine g_sub (lv' := [(0, .ref (ad 0)), (1, .long x1), (3, .int x3)]) [0, 1, 2] rfl ?_
        exact hk72 _ E
  · intro k46 hk46 E
    refine g_sub (lv' := [(0, .ref (ad 0)), (1, .long x1), (3, .int x3), (4, .int r_1), (5, .int (0 : Int32))]) [2, 3, 4, 1, 0] rfl ?_
    refine fx2_of (P := fun (x4_11 : Int32) (x5_12 : Int32) => G l D X 6 (WM ad cy) 0 0 h 12 [(0, .ref (ad 0)), (1, .long x1), (3, .int x3), (4, .int x4_11), (5, .int x5_12)] []) ?_ _ _ _ E
    intro self ih12 x4_11 x5_12 E
    show G l D X 6 (WM ad cy) 0 0 h 12 [(0, .ref (ad 0)), (1, .long x1), (3, .int x3), (4, .int x4_11), (5, .int x5_12)] []
    unfold L_X11_type_12 at E
    refine g_iload (pc' := 14) O ⟨dX11_type_12, rfl⟩ (q := 4) rfl ?_
    refine g_iload_n (pc' := 15) O ⟨dX11_type_14, rfl⟩ (q := 2) rfl rfl ?_
    refine g_icmp_ge (pc' := 18) O ⟨dX11_type_15, rfl⟩ E (tgt := 46) (by decide) (fun E => ?_) (fun E => ?_)
    · refine g_sub (lv' := [(0, .ref (ad 0)), (1, .long x1), (3, .int x3), (4, .int x4_11)]) [0, 1, 2, 3] rfl ?_
      exact hk46 _ E
    · refine g_iload (pc' := 20) O ⟨dX11_type_18, rfl⟩ (q := 3) rfl ?_
      refine g_if_eq (pc' := 23) O ⟨dX11_type_20, rfl⟩ E (tgt := 46) (by decide) (fun E => ?_) (fun E => ?_)
      · refine g_sub (lv' := [(0, .ref (ad 0)), (1, .long x1), (3, .int x3), (4, .int x4_11)]) [0, 1, 2, 3] rfl ?_
        exact hk46 _ E
      · refine g_lload_n (pc' := 24) O ⟨dX11_type_23, rfl⟩ (q := 1) rfl rfl ?_
        refine g_bipush (pc' := 26) O ⟨dX11_type_24, rfl⟩ (v := (8 : Int32)) rfl ?_
        refine g_iload (pc' := 28) O ⟨dX11_type_26, rfl⟩ (q := 4) rfl ?_
        refine g_imul (pc' := 29) O ⟨dX11_type_28, rfl⟩ ?_
        refine g_lshr (pc' := 30) O ⟨dX11_type_29, rfl⟩ ?_
        refine g_ldc2 (pc' := 33) O ⟨dX11_type_30, rfl⟩ kw_1250 ?_
        refine g_land (pc' := 34) O ⟨dX11_type_33, rfl⟩ ?_
        refine g_l2i (pc' := 35) O ⟨dX11_type_34, rfl⟩ ?_
        obtain ⟨r_13, c_14, E⟩ := bd_of E
        refine g_Si (pc' := 38) O ⟨dX11_type_35, rfl⟩ (y := yX11_isCharacter) (As := [.int (l2i ((lshr x1 ((8 : Int32) * x5_12)) &&& (255 : Int64)))]) (st := []) (t_X11_isCharacter l D ad cy (h := h) c_14) kw_1253 kw_70 kw_1251 kw_1252 hd_X11_isCharacter ⟨Nat.le_of_ble_eq_true rfl, Nat.le_of_ble_eq_true rfl⟩ ⟨Nat.le_of_ble_eq_true rfl, Nat.le_of_ble_eq_true rfl⟩ rfl (Nat.le_of_ble_eq_true rfl) ?_
        refine g_istore (pc' := 40) O ⟨dX11_type_38, rfl⟩ (lv' := [(4, .int r_13), (0, .ref (ad 0)), (1, .long x1), (3, .int x3), (5, .int x5_12)]) (by decide) rfl ?_
        refine g_iinc (pc' := 43) O ⟨dX11_type_40, rfl⟩ (q := 4) (v := x5_12 + (1 : Int32)) (lv' := [(5, .int (x5_12 + (1 : Int32))), (4, .int r_13), (0, .ref (ad 0)), (1, .long x1), (3, .int x3)]) rfl rfl (by decide) rfl ?_
        refine g_goto (pc' := 46) O ⟨dX11_type_43, rfl⟩ (tgt := 12) (by decide) ?_
        refine g_sub (lv' := [(0, .ref (ad 0)), (1, .long x1), (3, .int x3), (4, .int r_13), (5, .int (x5_12 + (1 : Int32)))]) [2, 3, 4, 1, 0] rfl ?_
        exact ih12 _ _ E
