/-! WALKS, laid by program: each method does what its pure program says -/
set_option maxRecDepth 100000 in
set_option maxHeartbeats 4000000 in
theorem t_X11_reaches (l : Launch) (D : va_G) (ad : Nat → Nat) (cy : Nat → ClassId) {h : Hp}  {o : Hp} (E : f_X11_reaches h = some o) : CtV l D cy (WM ad cy) yX11_reaches cX11_reaches 3 2 46 [.ref (ad 0)] h o := by
  refine sV (own := RX11) rfl rfl (Nat.le_of_ble_eq_true rfl) (fun X O hret => ?_)
  show G l D X 3 (WM ad cy) 0 0 h 0 [(0, .ref (ad 0))] []
  unfold f_X11_reaches at E
  refine g_iconst (pc' := 1) O ⟨dX11_reaches_0, rfl⟩ (v := (0 : Int32)) rfl ?_
  refine g_istore_n (pc' := 2) O ⟨dX11_reaches_1, rfl⟩ (lv' := [(1, .int (0 : Int32)), (0, .ref (ad 0))]) rfl (by decide) rfl ?_
  refine jn1_of (P := fun (h_1 : Hp) => G l D X 3 (WM ad cy) 0 0 h_1 31 [(0, .ref (ad 0))] []) E ?_ ?_
  · intro h_1 E
    show G l D X 3 (WM ad cy) 0 0 h_1 31 [(0, .ref (ad 0))] []
    refine g_iconst (pc' := 32) O ⟨dX11_reaches_31, rfl⟩ (v := (0 : Int32)) rfl ?_
    refine g_istore_n (pc' := 33) O ⟨dX11_reaches_32, rfl⟩ (lv' := [(1, .int (0 : Int32)), (0, .ref (ad 0))]) rfl (by decide) rfl ?_
    refine jn1_of (P := fun (h_2 : Hp) => G l D X 3 (WM ad cy) 0 0 h_2 159 [] []) E ?_ ?_
    · intro h_2 E
      show G l D X 3 (WM ad cy) 0 0 h_2 159 [] []
      cases E
      exact hret _ _ _ ⟨dX11_reaches_159, rfl⟩
    · intro k159 hk159 E
      refine g_sub (lv' := [(0, .ref (ad 0)), (1, .int (0 : Int32))]) [1, 0] rfl ?_
      refine fx2_of (P := fun (x1_3 : Int32) (h_4 : Hp) => G l D X 3 (WM ad cy) 0 0 h_4 33 [(0, .ref (ad 0)), (1, .int x1_3)] []) ?_ _ _ _ E
      intro self ih33 x1_3 h_4 E
      show G l D X 3 (WM ad cy) 0 0 h_4 33 [(0, .ref (ad 0)), (1, .int x1_3)] []
      unfold L_X11_reaches_33 at E
      refine g_iload_n (pc' := 34) O ⟨dX11_reaches_33, rfl⟩ (q := 1) rfl rfl ?_
      refine g_aload_n (pc' := 35) O ⟨dX11_reaches_34, rfl⟩ (q := 0) rfl rfl ?_
      refine gf_M_RX11_81_0 ad cy (pc' := 38) O ⟨dX11_reaches_35, rfl⟩ ?_
      refine g_icmp_ge (pc' := 41) O ⟨dX11_reaches_38, rfl⟩ E (tgt := 159) (by decide) (fun E => ?_) (fun E => ?_)
      · refine g_sub (lv' := []) [] rfl ?_
        exact hk159 _ E
      · refine g_iconst (pc' := 42) O ⟨dX11_reaches_41, rfl⟩ (v := (0 : Int32)) rfl ?_
        refine g_istore_n (pc' := 43) O ⟨dX11_reaches_42, rfl⟩ (lv' := [(2, .int (0 : Int32)), (0, .ref (ad 0)), (1, .int x1_3)]) rfl (by decide) rfl ?_
        refine jn1_of (P := fun (h_5 : Hp) => G l D X 3 (WM ad cy) 0 0 h_5 83 [(0, .ref (ad 0)), (1, .int x1_3)] []) E ?_ ?_
        · intro h_5 E
          show G l D X 3 (WM ad cy) 0 0 h_5 83 [(0, .ref (ad 0)), (1, .int x1_3)] []
          refine g_iconst (pc' := 84) O ⟨dX11_reaches_83, rfl⟩ (v := (0 : Int32)) rfl ?_
          refine g_istore_n (pc' := 85) O ⟨dX11_reaches_84, rfl⟩ (lv' := [(2, .int (0 : Int32)), (0, .ref (ad 0)), (1, .int x1_3)]) rfl (by decide) rfl ?_
          refine jn1_of (P := fun (h_6 : Hp) => G l D X 3 (WM ad cy) 0 0 h_6 153 [(0, .ref (ad 0)), (1, .int x1_3)] []) E ?_ ?_
          · intro h_6 E
            show G l D X 3 (WM ad cy) 0 0 h_6 153 [(0, .ref (ad 0)), (1, .int x1_3)] []
            refine g_iinc (pc' := 156) O ⟨dX11_reaches_153, rfl⟩ (q := 1) (v := x1_3 + (1 : Int32)) (lv' := [(1, .int (x1_3 + (1 : Int32))), (0, .ref (ad 0))]) rfl rfl (by decide) rfl ?_
            refine g_goto (pc' := 159) O ⟨dX11_reaches_156, rfl⟩ (tgt := 33) (by decide) ?_
            refine g_sub (lv' := [(0, .ref (ad 0)), (1, .int (x1_3 + (1 : Int32)))]) [1, 0] rfl ?_
            exact ih33 _ _ E
          · intro k153 hk153 E
            refine g_sub (lv' := [(0, .ref (ad 0)), (1, .int x1_3), (2, .int (0 : Int32))]) [1, 2, 0] rfl ?_
            refine fx2_of (P := fun (x2_7 : Int32) (h_8 : Hp) => G l D X 3 (WM ad cy) 0 0 h_8 85 [(0, .ref (ad 0)), (1, .int x1_3), (2, .int x2_7)] []) ?_ _ _ _ E
            intro self ih85 x2_7 h_8 E
            show G l D X 3 (WM ad cy) 0 0 h_8 85 [(0, .ref (ad 0)), (1, .int x1_3), (2, .int x2_7)] []
            unfold L_X11_reaches_85 at E
            refine g_iload_n (pc' := 86) O ⟨dX11_reaches_85, rfl⟩ (q := 2) rfl rfl ?_
            refine g_aload_n (pc' := 87) O ⟨dX11_reaches_86, rfl⟩ (q := 0) rfl rfl ?_
            refine gf_M_RX11_88_0 ad cy (pc' := 90) O ⟨dX11_reaches_87, rfl⟩ ?_
            refine g_icmp_ge (pc' := 93) O ⟨dX11_reaches_90, rfl⟩ E (tgt := 153) (by decide) (fun E => ?_) (fun E => ?_)
            · refine g_sub (lv' := [(0, .ref (ad 0)), (1, .int x1_3)]) [0, 1] rfl ?_
              exact hk153 _ E
            · refine g_aload_n (pc' := 94) O ⟨dX11_reaches_93, rfl⟩ (q := 0) rfl rfl ?_
              refine gf_M_RX11_41_0 ad cy (pc' := 97) O ⟨dX11_reaches_94, rfl⟩ ?_
              refine g_sipush (pc' := 100) O ⟨dX11_reaches_97, rfl⟩ (v := (720 : Int32)) rfl ?_
              refine g_iload_n (pc' := 101) O ⟨dX11_reaches_100, rfl⟩ (q := 1) rfl rfl ?_
              refine g_imul (pc' := 102) O ⟨dX11_reaches_101, rfl⟩ ?_
              refine g_iload_n (pc' := 103) O ⟨dX11_reaches_102, rfl⟩ (q := 2) rfl rfl ?_
              refine g_iadd (pc' := 104) O ⟨dX11_reaches_103, rfl⟩ ?_
              refine g_zald (pc' := 105) O ⟨dX11_reaches_104, rfl⟩ (wM_11 ad cy h_8) E (fun E => ?_)
              refine g_if_eq (pc' := 108) O ⟨dX11_reaches_105, rfl⟩ E (tgt := 147) (by decide) (fun E => ?_) (fun E => ?_)
              · refine g_iinc (pc' := 150) O ⟨dX11_reaches_147, rfl⟩ (q := 2) (v := x2_7 + (1 : Int32)) (lv' := [(2, .int (x2_7 + (1 : Int32))), (0, .ref (ad 0)), (1, .int x1_3)]) rfl rfl (by decide) rfl ?_
                refine g_goto (pc' := 153) O ⟨dX11_reaches_150, rfl⟩ (tgt := 85) (by decide) ?_
                refine g_sub (lv' := [(0, .ref (ad 0)), (1, .int x1_3), (2, .int (x2_7 + (1 : Int32)))]) [1, 2, 0] rfl ?_
                exact ih85 _ _ E
              · refine g_aload_n (pc' := 109) O ⟨dX11_reaches_108, rfl⟩ (q := 0) rfl rfl ?_
                refine g_iload_n (pc' := 110) O ⟨dX11_reaches_109, rfl⟩ (q := 2) rfl rfl ?_
                obtain ⟨r_9, c_10, E⟩ := bd_of E
                refine g_Vv (pc' := 113) O ⟨dX11_reaches_110, rfl⟩ (y := yX11_lays) (As := [.int x2_7]) (st := []) (t_X11_lays l D ad cy (h := h_8) c_10) kw_1320 kw_70 kw_1317 kw_1319 kw_43 rfl (wM_0 ad cy h_8) hd_X11_lays ⟨Nat.le_of_ble_eq_true rfl, Nat.le_of_ble_eq_true rfl⟩ ⟨Nat.le_of_ble_eq_true rfl, Nat.le_of_ble_eq_true rfl⟩ rfl (Nat.le_of_ble_eq_true rfl) ?_
                refine g_aload_n (pc' := 114) O ⟨dX11_reaches_113, rfl⟩ (q := 0) rfl rfl ?_
                refine g_aload_n (pc' := 115) O ⟨dX11_reaches_114, rfl⟩ (q := 0) rfl rfl ?_
                refine gf_M_RX11_7_0 ad cy (pc' := 118) O ⟨dX11_reaches_115, rfl⟩ ?_
                refine g_iload_n (pc' := 119) O ⟨dX11_reaches_118, rfl⟩ (q := 1) rfl rfl ?_
                refine g_iald (pc' := 120) O ⟨dX11_reaches_119, rfl⟩ (wM_1 ad cy r_9) E (fun E => ?_)
                refine g_aload_n (pc' := 121) O ⟨dX11_reaches_120, rfl⟩ (q := 0) rfl rfl ?_
                refine gf_M_RX11_13_0 ad cy (pc' := 124) O ⟨dX11_reaches_121, rfl⟩ ?_
                refine g_iload_n (pc' := 125) O ⟨dX11_reaches_124, rfl⟩ (q := 1) rfl rfl ?_
                refine g_iald (pc' := 126) O ⟨dX11_reaches_125, rfl⟩ (wM_2 ad cy r_9) E (fun E => ?_)
                obtain ⟨r_11, c_12, E⟩ := bd_of E
                refine g_Vv (pc' := 129) O ⟨dX11_reaches_126, rfl⟩ (y := yX11_exchanges) (As := [.int (r_9.1 1 x1_3.toNatClampNeg), .int (r_9.1 2 x1_3.toNatClampNeg)]) (st := []) (t_X11_exchanges l D ad cy (h := r_9) c_12) kw_1289 kw_70 kw_1286 kw_1288 kw_39 rfl (wM_0 ad cy r_9) hd_X11_exchanges ⟨Nat.le_of_ble_eq_true rfl, Nat.le_of_ble_eq_true rfl⟩ ⟨Nat.le_of_ble_eq_true rfl, Nat.le_of_ble_eq_true rfl⟩ rfl (Nat.le_of_ble_eq_true rfl) ?_
                refine g_aload_n (pc' := 130) O ⟨dX11_reaches_129, rfl⟩ (q := 0) rfl rfl ?_
                refine gf_M_RX11_41_0 ad cy (pc' := 133) O ⟨dX11_reaches_130, rfl⟩ ?_
                refine g_sipush (pc' := 136) O ⟨dX11_reaches_133, rfl⟩ (v := (720 : Int32)) rfl ?_
                refine g_iload_n (pc' := 137) O ⟨dX11_reaches_136, rfl⟩ (q := 1) rfl rfl ?_
                refine g_iconst (pc' := 138) O ⟨dX11_reaches_137, rfl⟩ (v := (1 : Int32)) rfl ?_
                refine g_iadd (pc' := 139) O ⟨dX11_reaches_138, rfl⟩ ?_
                refine g_imul (pc' := 140) O ⟨dX11_reaches_139, rfl⟩ ?_
                refine g_aload_n (pc' := 141) O ⟨dX11_reaches_140, rfl⟩ (q := 0) rfl rfl ?_
                obtain ⟨r_13, c_14, E⟩ := bd_of E
                refine g_Vi (pc' := 144) O ⟨dX11_reaches_141, rfl⟩ (y := yX11_numberOf) (As := []) (st := [.int ((720 : Int32) * (x1_3 + (1 : Int32))), .ref (ad 11)]) (t_X11_numberOf l D ad cy (h := r_11) c_14) kw_1281 kw_70 kw_1278 kw_1280 kw_37 rfl (wM_0 ad cy r_11) hd_X11_numberOf ⟨Nat.le_of_ble_eq_true rfl, Nat.le_of_ble_eq_true rfl⟩ ⟨Nat.le_of_ble_eq_true rfl, Nat.le_of_ble_eq_true rfl⟩ rfl (Nat.le_of_ble_eq_true rfl) ?_
                refine g_iadd (pc' := 145) O ⟨dX11_reaches_144, rfl⟩ ?_
                refine g_iconst (pc' := 146) O ⟨dX11_reaches_145, rfl⟩ (v := (1 : Int32)) rfl ?_
                refine g_zast (pc' := 147) O ⟨dX11_reaches_146, rfl⟩ (wM_11 ad cy r_11) (vM_11 ad cy r_11 _) E (fun E => ?_)
                refine g_nmh E (fun h_15 E => ?_)
                refine g_iinc (pc' := 150) O ⟨dX11_reaches_147, rfl⟩ (q := 2) (v := x2_7 + (1 : Int32)) (lv' := [(2, .int (x2_7 + (1 : Int32))), (0, .ref (ad 0)), (1, .int x1_3)]) rfl rfl (by decide) rfl ?_
                refine g_goto (pc' := 153) O ⟨dX11_reaches_150, rfl⟩ (tgt := 85) (by decide) ?_
                refine g_sub (lv' := [(0, .ref (ad 0)), (1, .int x1_3), (2, .int (x2_7 + (1 : Int32)))]) [1, 2, 0] rfl ?_
                exact ih85 _ _ E
        · intro k83 hk83 E
          refine g_sub (lv' := [(0, .ref (ad 0)), (1, .int x1_3), (2, .int (0 : Int32))]) [1, 2, 0] rfl ?_
          refine fx2_of (P := fun (x2_16 : Int32) (h_17 : Hp) => G l D X 3 (WM ad cy) 0 0 h_17 43 [(0, .ref (ad 0)), (1, .int x1_3), (2, .int x2_16)] []) ?_ _ _ _ E
          intro self ih43 x2_16 h_17 E
          show G l D X 3 (WM ad cy) 0 0 h_17 43 [(0, .ref (ad 0)), (1, .int x1_3), (2, .int x2_16)] []
          unfold L_X11_reaches_43 at E
          refine g_iload_n (pc' := 44) O ⟨dX11_reaches_43, rfl⟩ (q := 2) rfl rfl ?_
          refine g_aload_n (pc' := 45) O ⟨dX11_reaches_44, rfl⟩ (q := 0) rfl rfl ?_
          refine gf_M_RX11_88_0 ad cy (pc' := 48) O ⟨dX11_reaches_45, rfl⟩ ?_
          refine g_icmp_ge (pc' := 51) O ⟨dX11_reaches_48, rfl⟩ E (tgt := 83) (by decide) (fun E => ?_) (fun E => ?_)
          · refine g_sub (lv' := [(0, .ref (ad 0)), (1, .int x1_3)]) [0, 1] rfl ?_
            exact hk83 _ E
          · refine g_aload_n (pc' := 52) O ⟨dX11_reaches_51, rfl⟩ (q := 0) rfl rfl ?_
            refine gf_M_RX11_41_0 ad cy (pc' := 55) O ⟨dX11_reaches_52, rfl⟩ ?_
            refine g_sipush (pc' := 58) O ⟨dX11_reaches_55, rfl⟩ (v := (720 : Int32)) rfl ?_
            refine g_iload_n (pc' := 59) O ⟨dX11_reaches_58, rfl⟩ (q := 1) rfl rfl ?_
            refine g_iconst (pc' := 60) O ⟨dX11_reaches_59, rfl⟩ (v := (1 : Int32)) rfl ?_
            refine g_iadd (pc' := 61) O ⟨dX11_reaches_60, rfl⟩ ?_
            refine g_imul (pc' := 62) O ⟨dX11_reaches_61, rfl⟩ ?_
            refine g_iload_n (pc' := 63) O ⟨dX11_reaches_62, rfl⟩ (q := 2) rfl rfl ?_
            refine g_iadd (pc' := 64) O ⟨dX11_reaches_63, rfl⟩ ?_
            refine g_aload_n (pc' := 65) O ⟨dX11_reaches_64, rfl⟩ (q := 0) rfl rfl ?_
            refine gf_M_RX11_41_0 ad cy (pc' := 68) O ⟨dX11_reaches_65, rfl⟩ ?_
            refine g_sipush (pc' := 71) O ⟨dX11_reaches_68, rfl⟩ (v := (720 : Int32)) rfl ?_
            refine g_iload_n (pc' := 72) O ⟨dX11_reaches_71, rfl⟩ (q := 1) rfl rfl ?_
            refine g_imul (pc' := 73) O ⟨dX11_reaches_72, rfl⟩ ?_
            refine g_iload_n (pc' := 74) O ⟨dX11_reaches_73, rfl⟩ (q := 2) rfl rfl ?_
            refine g_iadd (pc' := 75) O ⟨dX11_reaches_74, rfl⟩ ?_
            refine g_zald (pc' := 76) O ⟨dX11_reaches_75, rfl⟩ (wM_11 ad cy h_17) E (fun E => ?_)
            refine g_zast (pc' := 77) O ⟨dX11_reaches_76, rfl⟩ (wM_11 ad cy h_17) (vM_11 ad cy h_17 _) E (fun E => ?_)
            refine g_nmh E (fun h_18 E => ?_)
            refine g_iinc (pc' := 80) O ⟨dX11_reaches_77, rfl⟩ (q := 2) (v := x2_16 + (1 : Int32)) (lv' := [(2, .int (x2_16 + (1 : Int32))), (0, .ref (ad 0)), (1, .int x1_3)]) rfl rfl (by decide) rfl ?_
            refine g_goto (pc' := 83) O ⟨dX11_reaches_80, rfl⟩ (tgt := 43) (by decide) ?_
            refine g_sub (lv' := [(0, .ref (ad 0)), (1, .int x1_3), (2, .int (x2_16 + (1 : Int32)))]) [1, 2, 0] rfl ?_
            exact ih43 _ _ E
  · intro k31 hk31 E
    refine g_sub (lv' := [(0, .ref (ad 0)), (1, .int (0 : Int32))]) [1, 0] rfl ?_
    refine fx2_of (P := fun (x1_19 : Int32) (h_20 : Hp) => G l D X 3 (WM ad cy) 0 0 h_20 2 [(0, .ref (ad 0)), (1, .int x1_19)] []) ?_ _ _ _ E
    intro self ih2 x1_19 h_20 E
    show G l D X 3 (WM ad cy) 0 0 h_20 2 [(0, .ref (ad 0)), (1, .int x1_19)] []
    unfold L_X11_reaches_2 at E
    refine g_iload_n (pc' := 3) O ⟨dX11_reaches_2, rfl⟩ (q := 1) rfl rfl ?_
    refine g_aload_n (pc' := 4) O ⟨dX11_reaches_3, rfl⟩ (q := 0) rfl rfl ?_
    refine gf_M_RX11_88_0 ad cy (pc' := 7) O ⟨dX11_reaches_4, rfl⟩ ?_
    refine g_icmp_ge (pc' := 10) O ⟨dX11_reaches_7, rfl⟩ E (tgt := 31) (by decide) (fun E => ?_) (fun E => ?_)
    · refine g_sub (lv' := [(0, .ref (ad 0))]) [0] rfl ?_
      exact hk31 _ E
    · refine g_aload_n (pc' := 11) O ⟨dX11_reaches_10, rfl⟩ (q := 0) rfl rfl ?_
      refine gf_M_RX11_41_0 ad cy (pc' := 14) O ⟨dX11_reaches_11, rfl⟩ ?_
      refine g_iload_n (pc' := 15) O ⟨dX11_reaches_14, rfl⟩ (q := 1) rfl rfl ?_
      refine g_iload_n (pc' := 16) O ⟨dX11_reaches_15, rfl⟩ (q := 1) rfl rfl ?_
      refine g_if_ne (pc' := 19) O ⟨dX11_reaches_16, rfl⟩ E (tgt := 23) (by decide) (fun E => ?_) (fun E => ?_)
      · refine g_iconst (pc' := 24) O ⟨dX11_reaches_23, rfl⟩ (v := (0 : Int32)) rfl ?_
        refine g_zast (pc' := 25) O ⟨dX11_reaches_24, rfl⟩ (wM_11 ad cy h_20) (vM_11 ad cy h_20 _) E (fun E => ?_)
        refine g_nmh E (fun h_21 E => ?_)
        refine g_iinc (pc' := 28) O ⟨dX11_reaches_25, rfl⟩ (q := 1) (v := x1_19 + (1 : Int32)) (lv' := [(1, .int (x1_19 + (1 : Int32))), (0, .ref (ad 0))]) rfl rfl (by decide) rfl ?_
        refine g_goto (pc' := 31) O ⟨dX11_reaches_28, rfl⟩ (tgt := 2) (by decide) ?_
        refine g_sub (lv' := [(0, .ref (ad 0)), (1, .int (x1_19 + (1 : Int32)))]) [1, 0] rfl ?_
        exact ih2 _ _ E
      · refine g_iconst (pc' := 20) O ⟨dX11_reaches_19, rfl⟩ (v := (1 : Int32)) rfl ?_
        refine g_goto (pc' := 23) O ⟨dX11_reaches_20, rfl⟩ (tgt := 24) (by decide) ?_
        refine g_zast (pc' := 25) O ⟨dX11_reaches_24, rfl⟩ (wM_11 ad cy h_20) (vM_11 ad cy h_20 _) E (fun E => ?_)
        refine g_nmh E (fun h_22 E => ?_)
        refine g_iinc (pc' := 28) O ⟨dX11_reaches_25, rfl⟩ (q := 1) (v := x1_19 + (1 : Int32)) (lv' := [(1, .int (x1_19 + (1 : Int32))), (0, .ref (ad 0))]) rfl rfl (by decide) rfl ?_
        refine g_goto (pc' := 31) O ⟨dX11_reaches_28, rfl⟩ (tgt := 2) (by decide) ?_
        refine g_sub (lv' := [(0, .ref (ad 0)), (1, .int (x1_19 + (1 : Int32)))]) [1, 0] rfl ?_
        exact ih2 _ _ E
set_option maxRecDepth 100000 in
set_option maxHeartbeats 4000000 in
theorem t_X11_routes (l : Launch) (D : va_G) (ad : Nat → Nat) (cy : Nat → ClassId) {h : Hp}  {o : Int32 × Hp} (E : f_X11_routes h = some o) : CtI l D cy (WM ad cy) yX11_routes cX11_routes 3 .int 3 68 [.ref (ad 0)] h o.1 o.2 := by
  refine sI (own := RX11) rfl rfl (Nat.le_of_ble_eq_true rfl) (fun X O hret => ?_)
  show G l D X 3 (WM ad cy) 0 0 h 0 [(0, .ref (ad 0))] []
  unfold f_X11_routes at E
  refine g_aload_n (pc' := 1) O ⟨dX11_routes_0, rfl⟩ (q := 0) rfl rfl ?_
  refine g_iconst (pc' := 2) O ⟨dX11_routes_1, rfl⟩ (v := (0 : Int32)) rfl ?_
  refine gp_M_RX11_70_0 ad cy (pc' := 5) O ⟨dX11_routes_2, rfl⟩ ?_
  refine g_nmh E (fun h_1 E => ?_)
  refine g_aload_n (pc' := 6) O ⟨dX11_routes_5, rfl⟩ (q := 0) rfl rfl ?_
  obtain ⟨r_2, c_3, E⟩ := bd_of E
  refine g_Vv (pc' := 9) O ⟨dX11_routes_6, rfl⟩ (y := yX11_reaches) (As := []) (st := []) (t_X11_reaches l D ad cy (h := h_1) c_3) kw_1356 kw_70 kw_1353 kw_1355 kw_46 rfl (wM_0 ad cy h_1) hd_X11_reaches ⟨Nat.le_of_ble_eq_true rfl, Nat.le_of_ble_eq_true rfl⟩ ⟨Nat.le_of_ble_eq_true rfl, Nat.le_of_ble_eq_true rfl⟩ rfl (Nat.le_of_ble_eq_true rfl) ?_
  refine g_iconst (pc' := 10) O ⟨dX11_routes_9, rfl⟩ (v := (0 : Int32)) rfl ?_
  refine g_istore_n (pc' := 11) O ⟨dX11_routes_10, rfl⟩ (lv' := [(1, .int (0 : Int32)), (0, .ref (ad 0))]) rfl (by decide) rfl ?_
  refine g_iconst (pc' := 12) O ⟨dX11_routes_11, rfl⟩ (v := (0 : Int32)) rfl ?_
  refine g_istore_n (pc' := 13) O ⟨dX11_routes_12, rfl⟩ (lv' := [(2, .int (0 : Int32)), (1, .int (0 : Int32)), (0, .ref (ad 0))]) rfl (by decide) rfl ?_
  refine jn1_of (P := fun (x1_4 : Int32) => G l D X 3 (WM ad cy) 0 0 r_2 53 [(1, .int x1_4)] []) E ?_ ?_
  · intro x1_4 E
    show G l D X 3 (WM ad cy) 0 0 r_2 53 [(1, .int x1_4)] []
    refine g_iload_n (pc' := 54) O ⟨dX11_routes_53, rfl⟩ (q := 0) rfl rfl ?_
    cases E
    exact hret _ _ _ ⟨dX11_routes_54, rfl⟩ rfl
  · intro k53 hk53 E
    refine g_sub (lv' := [(0, .ref (ad 0)), (1, .int (0 : Int32)), (2, .int (0 : Int32))]) [2, 1, 0] rfl ?_
    refine fx2_of (P := fun (x1_5 : Int32) (x2_6 : Int32) => G l D X 3 (WM ad cy) 0 0 r_2 13 [(0, .ref (ad 0)), (1, .int x1_5), (2, .int x2_6)] []) ?_ _ _ _ E
    intro self ih13 x1_5 x2_6 E
    show G l D X 3 (WM ad cy) 0 0 r_2 13 [(0, .ref (ad 0)), (1, .int x1_5), (2, .int x2_6)] []
    unfold L_X11_routes_13 at E
    refine g_iload_n (pc' := 14) O ⟨dX11_routes_13, rfl⟩ (q := 2) rfl rfl ?_
    refine g_aload_n (pc' := 15) O ⟨dX11_routes_14, rfl⟩ (q := 0) rfl rfl ?_
    refine gf_M_RX11_88_0 ad cy (pc' := 18) O ⟨dX11_routes_15, rfl⟩ ?_
    refine g_icmp_ge (pc' := 21) O ⟨dX11_routes_18, rfl⟩ E (tgt := 53) (by decide) (fun E => ?_) (fun E => ?_)
    · refine g_sub (lv' := [(1, .int x1_5)]) [1] rfl ?_
      exact hk53 _ E
    · refine g_iload_n (pc' := 22) O ⟨dX11_routes_21, rfl⟩ (q := 1) rfl rfl ?_
      refine g_aload_n (pc' := 23) O ⟨dX11_routes_22, rfl⟩ (q := 0) rfl rfl ?_
      refine gf_M_RX11_41_0 ad cy (pc' := 26) O ⟨dX11_routes_23, rfl⟩ ?_
      refine g_sipush (pc' := 29) O ⟨dX11_routes_26, rfl⟩ (v := (720 : Int32)) rfl ?_
      refine g_aload_n (pc' := 30) O ⟨dX11_routes_29, rfl⟩ (q := 0) rfl rfl ?_
      refine gf_M_RX11_81_0 ad cy (pc' := 33) O ⟨dX11_routes_30, rfl⟩ ?_
      refine g_imul (pc' := 34) O ⟨dX11_routes_33, rfl⟩ ?_
      refine g_iload_n (pc' := 35) O ⟨dX11_routes_34, rfl⟩ (q := 2) rfl rfl ?_
      refine g_iadd (pc' := 36) O ⟨dX11_routes_35, rfl⟩ ?_
      refine g_zald (pc' := 37) O ⟨dX11_routes_36, rfl⟩ (wM_11 ad cy r_2) E (fun E => ?_)
      refine g_if_eq (pc' := 40) O ⟨dX11_routes_37, rfl⟩ E (tgt := 44) (by decide) (fun E => ?_) (fun E => ?_)
      · refine g_iconst (pc' := 45) O ⟨dX11_routes_44, rfl⟩ (v := (0 : Int32)) rfl ?_
        refine g_iadd (pc' := 46) O ⟨dX11_routes_45, rfl⟩ ?_
        refine g_nm E (fun y1_7 E => ?_)
        refine g_istore_n (pc' := 47) O ⟨dX11_routes_46, rfl⟩ (lv' := [(1, .int y1_7), (0, .ref (ad 0)), (2, .int x2_6)]) rfl (by decide) rfl ?_
        refine g_iinc (pc' := 50) O ⟨dX11_routes_47, rfl⟩ (q := 2) (v := x2_6 + (1 : Int32)) (lv' := [(2, .int (x2_6 + (1 : Int32))), (1, .int y1_7), (0, .ref (ad 0))]) rfl rfl (by decide) rfl ?_
        refine g_goto (pc' := 53) O ⟨dX11_routes_50, rfl⟩ (tgt := 13) (by decide) ?_
        refine g_sub (lv' := [(0, .ref (ad 0)), (1, .int y1_7), (2, .int (x2_6 + (1 : Int32)))]) [2, 1, 0] rfl ?_
        exact ih13 _ _ E
      · refine g_iconst (pc' := 41) O ⟨dX11_routes_40, rfl⟩ (v := (1 : Int32)) rfl ?_
        refine g_goto (pc' := 44) O ⟨dX11_routes_41, rfl⟩ (tgt := 45) (by decide) ?_
        refine g_iadd (pc' := 46) O ⟨dX11_routes_45, rfl⟩ ?_
        refine g_nm E (fun y1_8 E => ?_)
        refine g_istore_n (pc' := 47) O ⟨dX11_routes_46, rfl⟩ (lv' := [(1, .int y1_8), (0, .ref (ad 0)), (2, .int x2_6)]) rfl (by decide) rfl ?_
        refine g_iinc (pc' := 50) O ⟨dX11_routes_47, rfl⟩ (q := 2) (v := x2_6 + (1 : Int32)) (lv' := [(2, .int (x2_6 + (1 : Int32))), (1, .int y1_8), (0, .ref (ad 0))]) rfl rfl (by decide) rfl ?_
        refine g_goto (pc' := 53) O ⟨dX11_routes_50, rfl⟩ (tgt := 13) (by decide) ?_
        refine g_sub (lv' := [(0, .ref (ad 0)), (1, .int y1_8), (2, .int (x2_6 + (1 : Int32)))]) [2, 1, 0] rfl ?_
        exact ih13 _ _ E
set_option maxRecDepth 100000 in
set_option maxHeartbeats 4000000 in
theorem t_X11_setting (l : Launch) (D : va_G) (ad : Nat → Nat) (cy : Nat → ClassId) {h : Hp} {x1 : Int32} {o : Int32 × Hp} (E : f_X11_setting h x1 = some o) : CtI l D cy (WM ad cy) yX11_setting cX11_setting 5 .int 3 70 [.ref (ad 0), .int x1] h o.1 o.2 := by
  refine sI (own := RX11) rfl rfl (Nat.le_of_ble_eq_true rfl) (fun X O hret => ?_)
  show G l D X 5 (WM ad cy) 0 0 h 0 [(0, .ref (ad 0)), (1, .int x1)] []
  unfold f_X11_setting at E
  refine g_aload_n (pc' := 1) O ⟨dX11_setting_0, rfl⟩ (q := 0) rfl rfl ?_
  refine g_iload_n (pc' := 2) O ⟨dX11_setting_1, rfl⟩ (q := 1) rfl rfl ?_
  obtain ⟨r_1, c_2, E⟩ := bd_of E
  refine g_Vi (pc' := 5) O ⟨dX11_setting_2, rfl⟩ (y := yX11_rowOf) (As := [.int x1]) (st := []) (t_X11_rowOf l D ad cy (h := h) c_2) kw_1277 kw_70 kw_1274 kw_1276 kw_36 rfl (wM_0 ad cy h) hd_X11_rowOf ⟨Nat.le_of_ble_eq_true rfl, Nat.le_of_ble_eq_true rfl⟩ ⟨Nat.le_of_ble_eq_true rfl, Nat.le_of_ble_eq_true rfl⟩ rfl (Nat.le_of_ble_eq_true rfl) ?_
  refine g_istore_n (pc' := 6) O ⟨dX11_setting_5, rfl⟩ (lv' := [(2, .int r_1.1), (0, .ref (ad 0)), (1, .int x1)]) rfl (by decide) rfl ?_
  refine g_aload_n (pc' := 7) O ⟨dX11_setting_6, rfl⟩ (q := 1) rfl rfl ?_
  refine g_iload_n (pc' := 8) O ⟨dX11_setting_7, rfl⟩ (q := 0) rfl rfl ?_
  refine g_iconst (pc' := 9) O ⟨dX11_setting_8, rfl⟩ (v := (-1 : Int32)) rfl ?_
  refine jn1_of (P := fun (z_3 : Int32) => G l D X 5 (WM ad cy) 0 0 r_1.2 17 [(0, .ref (ad 0)), (2, .int r_1.1)] [.int z_3, .ref (ad 0)]) E ?_ ?_
  · intro z_3 E
    show G l D X 5 (WM ad cy) 0 0 r_1.2 17 [(0, .ref (ad 0)), (2, .int r_1.1)] [.int z_3, .ref (ad 0)]
    refine gp_M_RX11_70_0 ad cy (pc' := 20) O ⟨dX11_setting_17, rfl⟩ ?_
    refine g_nmh E (fun h_4 E => ?_)
    refine g_aload_n (pc' := 21) O ⟨dX11_setting_20, rfl⟩ (q := 0) rfl rfl ?_
    refine gf_M_RX11_70_0 ad cy (pc' := 24) O ⟨dX11_setting_21, rfl⟩ ?_
    refine g_if_le (pc' := 27) O ⟨dX11_setting_24, rfl⟩ E (tgt := 29) (by decide) (fun E => ?_) (fun E => ?_)
    · refine g_aload_n (pc' := 30) O ⟨dX11_setting_29, rfl⟩ (q := 0) rfl rfl ?_
      obtain ⟨r_5, c_6, E⟩ := bd_of E
      refine g_Vv (pc' := 33) O ⟨dX11_setting_30, rfl⟩ (y := yX11_reaches) (As := []) (st := []) (t_X11_reaches l D ad cy (h := h_4) c_6) kw_1356 kw_70 kw_1353 kw_1355 kw_46 rfl (wM_0 ad cy h_4) hd_X11_reaches ⟨Nat.le_of_ble_eq_true rfl, Nat.le_of_ble_eq_true rfl⟩ ⟨Nat.le_of_ble_eq_true rfl, Nat.le_of_ble_eq_true rfl⟩ rfl (Nat.le_of_ble_eq_true rfl) ?_
      refine g_aload_n (pc' := 34) O ⟨dX11_setting_33, rfl⟩ (q := 0) rfl rfl ?_
      refine gf_M_RX11_41_0 ad cy (pc' := 37) O ⟨dX11_setting_34, rfl⟩ ?_
      refine g_sipush (pc' := 40) O ⟨dX11_setting_37, rfl⟩ (v := (720 : Int32)) rfl ?_
      refine g_aload_n (pc' := 41) O ⟨dX11_setting_40, rfl⟩ (q := 0) rfl rfl ?_
      refine gf_M_RX11_81_0 ad cy (pc' := 44) O ⟨dX11_setting_41, rfl⟩ ?_
      refine g_imul (pc' := 45) O ⟨dX11_setting_44, rfl⟩ ?_
      refine g_iload_n (pc' := 46) O ⟨dX11_setting_45, rfl⟩ (q := 1) rfl rfl ?_
      refine g_iadd (pc' := 47) O ⟨dX11_setting_46, rfl⟩ ?_
      refine g_zald (pc' := 48) O ⟨dX11_setting_47, rfl⟩ (wM_11 ad cy r_5) E (fun E => ?_)
      refine g_if_ne (pc' := 51) O ⟨dX11_setting_48, rfl⟩ E (tgt := 53) (by decide) (fun E => ?_) (fun E => ?_)
      · refine g_iconst (pc' := 54) O ⟨dX11_setting_53, rfl⟩ (v := (0 : Int32)) rfl ?_
        refine g_istore_n (pc' := 55) O ⟨dX11_setting_54, rfl⟩ (lv' := [(3, .int (0 : Int32)), (0, .ref (ad 0)), (2, .int r_1.1)]) rfl (by decide) rfl ?_
        refine g_aload_n (pc' := 56) O ⟨dX11_setting_55, rfl⟩ (q := 1) rfl rfl ?_
        refine gf_M_RX11_81_0 ad cy (pc' := 59) O ⟨dX11_setting_56, rfl⟩ ?_
        refine g_iconst (pc' := 60) O ⟨dX11_setting_59, rfl⟩ (v := (1 : Int32)) rfl ?_
        refine g_isub (pc' := 61) O ⟨dX11_setting_60, rfl⟩ ?_
        refine g_nm E (fun y4_7 E => ?_)
        refine g_istore (pc' := 63) O ⟨dX11_setting_61, rfl⟩ (lv' := [(4, .int y4_7), (3, .int (0 : Int32)), (0, .ref (ad 0)), (2, .int r_1.1)]) (by decide) rfl ?_
        refine jn2_of (P := fun (x3_8 : Int32) (h_9 : Hp) => G l D X 5 (WM ad cy) 0 0 h_9 125 [(3, .int x3_8)] []) E ?_ ?_
        · intro x3_8 h_9 E
          show G l D X 5 (WM ad cy) 0 0 h_9 125 [(3, .int x3_8)] []
          refine g_iload_n (pc' := 126) O ⟨dX11_setting_125, rfl⟩ (q := 0) rfl rfl ?_
          cases E
          exact hret _ _ _ ⟨dX11_setting_126, rfl⟩ rfl
        · intro k125 hk125 E
          refine g_sub (lv' := [(0, .ref (ad 0)), (2, .int r_1.1), (3, .int (0 : Int32)), (4, .int y4_7)]) [2, 3, 1, 0] rfl ?_
          refine fx4_of (P := fun (x2_10 : Int32) (x3_11 : Int32) (x4_12 : Int32) (h_13 : Hp) => G l D X 5 (WM ad cy) 0 0 h_13 63 [(0, .ref (ad 0)), (2, .int x2_10), (3, .int x3_11), (4, .int x4_12)] []) ?_ _ _ _ _ _ E
          intro self ih63 x2_10 x3_11 x4_12 h_13 E
          show G l D X 5 (WM ad cy) 0 0 h_13 63 [(0, .ref (ad 0)), (2, .int x2_10), (3, .int x3_11), (4, .int x4_12)] []
          unfold L_X11_setting_63 at E
          refine g_iload (pc' := 65) O ⟨dX11_setting_63, rfl⟩ (q := 3) rfl ?_
          refine g_if_lt (pc' := 68) O ⟨dX11_setting_65, rfl⟩ E (tgt := 125) (by decide) (fun E => ?_) (fun E => ?_)
          · refine g_sub (lv' := [(3, .int x3_11)]) [2] rfl ?_
            exact hk125 _ _ E
          · refine g_aload_n (pc' := 69) O ⟨dX11_setting_68, rfl⟩ (q := 0) rfl rfl ?_
            refine gf_M_RX11_41_0 ad cy (pc' := 72) O ⟨dX11_setting_69, rfl⟩ ?_
            refine g_sipush (pc' := 75) O ⟨dX11_setting_72, rfl⟩ (v := (720 : Int32)) rfl ?_
            refine g_iload (pc' := 77) O ⟨dX11_setting_75, rfl⟩ (q := 3) rfl ?_
            refine g_imul (pc' := 78) O ⟨dX11_setting_77, rfl⟩ ?_
            refine g_iload_n (pc' := 79) O ⟨dX11_setting_78, rfl⟩ (q := 1) rfl rfl ?_
            refine g_iadd (pc' := 80) O ⟨dX11_setting_79, rfl⟩ ?_
            refine g_zald (pc' := 81) O ⟨dX11_setting_80, rfl⟩ (wM_11 ad cy h_13) E (fun E => ?_)
            refine g_if_ne (pc' := 84) O ⟨dX11_setting_81, rfl⟩ E (tgt := 119) (by decide) (fun E => ?_) (fun E => ?_)
            · refine g_iinc (pc' := 122) O ⟨dX11_setting_119, rfl⟩ (q := 3) (v := x4_12 + (-1 : Int32)) (lv' := [(4, .int (x4_12 + (-1 : Int32))), (0, .ref (ad 0)), (2, .int x2_10), (3, .int x3_11)]) rfl rfl (by decide) rfl ?_
              refine g_goto (pc' := 125) O ⟨dX11_setting_122, rfl⟩ (tgt := 63) (by decide) ?_
              refine g_sub (lv' := [(0, .ref (ad 0)), (2, .int x2_10), (3, .int x3_11), (4, .int (x4_12 + (-1 : Int32)))]) [1, 2, 3, 0] rfl ?_
              exact ih63 _ _ _ _ E
            · refine g_iload_n (pc' := 85) O ⟨dX11_setting_84, rfl⟩ (q := 2) rfl rfl ?_
              refine g_iconst (pc' := 86) O ⟨dX11_setting_85, rfl⟩ (v := (1 : Int32)) rfl ?_
              refine g_iload (pc' := 88) O ⟨dX11_setting_86, rfl⟩ (q := 3) rfl ?_
              refine g_ishl (pc' := 89) O ⟨dX11_setting_88, rfl⟩ ?_
              refine g_ior (pc' := 90) O ⟨dX11_setting_89, rfl⟩ ?_
              refine g_nm E (fun y3_14 E => ?_)
              refine g_istore_n (pc' := 91) O ⟨dX11_setting_90, rfl⟩ (lv' := [(3, .int y3_14), (0, .ref (ad 0)), (2, .int x2_10), (4, .int x4_12)]) rfl (by decide) rfl ?_
              refine g_aload_n (pc' := 92) O ⟨dX11_setting_91, rfl⟩ (q := 1) rfl rfl ?_
              refine g_iload_n (pc' := 93) O ⟨dX11_setting_92, rfl⟩ (q := 2) rfl rfl ?_
              obtain ⟨r_15, c_16, E⟩ := bd_of E
              refine g_Vv (pc' := 96) O ⟨dX11_setting_93, rfl⟩ (y := yX11_lays) (As := [.int x2_10]) (st := []) (t_X11_lays l D ad cy (h := h_13) c_16) kw_1320 kw_70 kw_1317 kw_1319 kw_43 rfl (wM_0 ad cy h_13) hd_X11_lays ⟨Nat.le_of_ble_eq_true rfl, Nat.le_of_ble_eq_true rfl⟩ ⟨Nat.le_of_ble_eq_true rfl, Nat.le_of_ble_eq_true rfl⟩ rfl (Nat.le_of_ble_eq_true rfl) ?_
              refine g_aload_n (pc' := 97) O ⟨dX11_setting_96, rfl⟩ (q := 1) rfl rfl ?_
              refine g_aload_n (pc' := 98) O ⟨dX11_setting_97, rfl⟩ (q := 1) rfl rfl ?_
              refine gf_M_RX11_7_0 ad cy (pc' := 101) O ⟨dX11_setting_98, rfl⟩ ?_
              refine g_iload (pc' := 103) O ⟨dX11_setting_101, rfl⟩ (q := 3) rfl ?_
              refine g_iald (pc' := 104) O ⟨dX11_setting_103, rfl⟩ (wM_1 ad cy r_15) E (fun E => ?_)
              refine g_aload_n (pc' := 105) O ⟨dX11_setting_104, rfl⟩ (q := 1) rfl rfl ?_
              refine gf_M_RX11_13_0 ad cy (pc' := 108) O ⟨dX11_setting_105, rfl⟩ ?_
              refine g_iload (pc' := 110) O ⟨dX11_setting_108, rfl⟩ (q := 3) rfl ?_
              refine g_iald (pc' := 111) O ⟨dX11_setting_110, rfl⟩ (wM_2 ad cy r_15) E (fun E => ?_)
              obtain ⟨r_17, c_18, E⟩ := bd_of E
              refine g_Vv (pc' := 114) O ⟨dX11_setting_111, rfl⟩ (y := yX11_exchanges) (As := [.int (r_15.1 1 x4_12.toNatClampNeg), .int (r_15.1 2 x4_12.toNatClampNeg)]) (st := []) (t_X11_exchanges l D ad cy (h := r_15) c_18) kw_1289 kw_70 kw_1286 kw_1288 kw_39 rfl (wM_0 ad cy r_15) hd_X11_exchanges ⟨Nat.le_of_ble_eq_true rfl, Nat.le_of_ble_eq_true rfl⟩ ⟨Nat.le_of_ble_eq_true rfl, Nat.le_of_ble_eq_true rfl⟩ rfl (Nat.le_of_ble_eq_true rfl) ?_
              refine g_aload_n (pc' := 115) O ⟨dX11_setting_114, rfl⟩ (q := 1) rfl rfl ?_
              obtain ⟨r_19, c_20, E⟩ := bd_of E
              refine g_Vi (pc' := 118) O ⟨dX11_setting_115, rfl⟩ (y := yX11_numberOf) (As := []) (st := []) (t_X11_numberOf l D ad cy (h := r_17) c_20) kw_1281 kw_70 kw_1278 kw_1280 kw_37 rfl (wM_0 ad cy r_17) hd_X11_numberOf ⟨Nat.le_of_ble_eq_true rfl, Nat.le_of_ble_eq_true rfl⟩ ⟨Nat.le_of_ble_eq_true rfl, Nat.le_of_ble_eq_true rfl⟩ rfl (Nat.le_of_ble_eq_true rfl) ?_
              refine g_istore_n (pc' := 119) O ⟨dX11_setting_118, rfl⟩ (lv' := [(2, .int r_19), (3, .int y3_14), (0, .ref (ad 0)), (4, .int x4_12)]) rfl (by decide) rfl ?_
              refine g_iinc (pc' := 122) O ⟨dX11_setting_119, rfl⟩ (q := 3) (v := x4_12 + (-1 : Int32)) (lv' := [(4, .int (x4_12 + (-1 : Int32))), (2, .int r_19), (3, .int y3_14), (0, .ref (ad 0))]) rfl rfl (by decide) rfl ?_
              refine g_goto (pc' := 125) O ⟨dX11_setting_122, rfl⟩ (tgt := 63) (by decide) ?_
              refine g_sub (lv' := [(0, .ref (ad 0)), (2, .int r_19), (3, .int y3_14), (4, .int (x4_12 + (-1 : Int32)))]) [3, 1, 2, 0] rfl ?_
              exact ih63 _ _ _ _ E
      · refine g_iconst (pc' := 52) O ⟨dX11_setting_51, rfl⟩ (v := (-1 : Int32)) rfl ?_
        cases E
        exact hret _ _ _ ⟨dX11_setting_52, rfl⟩ rfl
    · refine g_iconst (pc' := 28) O ⟨dX11_setting_27, rfl⟩ (v := (0 : Int32)) rfl ?_
      cases E
      exact hret _ _ _ ⟨dX11_setting_28, rfl⟩ rfl
  · intro k17 hk17 E
    refine g_icmp_ne (pc' := 12) O ⟨dX11_setting_9, rfl⟩ E (tgt := 16) (by decide) (fun E => ?_) (fun E => ?_)
    · refine g_iconst (pc' := 17) O ⟨dX11_setting_16, rfl⟩ (v := (0 : Int32)) rfl ?_
      refine g_sub (lv' := [(0, .ref (ad 0)), (2, .int r_1.1)]) [1, 0] rfl ?_
      exact hk17 _ E
    · refine g_iconst (pc' := 13) O ⟨dX11_setting_12, rfl⟩ (v := (1 : Int32)) rfl ?_
      refine g_goto (pc' := 16) O ⟨dX11_setting_13, rfl⟩ (tgt := 17) (by decide) ?_
      refine g_sub (lv' := [(0, .ref (ad 0)), (2, .int r_1.1)]) [1, 0] rfl ?_
      exact hk17 _ E
set_option maxRecDepth 100000 in
set_option maxHeartbeats 4000000 in
theorem t_X11_token (l : Launch) (D : va_G) (ad : Nat → Nat) (cy : Nat → ClassId) {h : Hp} {x1 : Int32} {o : Int32 × Hp} (E : f_X11_token h x1 = some o) : CtI l D cy (WM ad cy) yX11_token cX11_token 4 .int 2 43 [.ref (ad 0), .int x1] h o.1 o.2 := by
  refine sI (own := RX11) rfl rfl (Nat.le_of_ble_eq_true rfl) (fun X O hret => ?_)
  show G l D X 4 (WM ad cy) 0 0 h 0 [(0, .ref (ad 0)), (1, .int x1)] []
  unfold f_X11_token at E
  refine g_aload_n (pc' := 1) O ⟨dX11_token_0, rfl⟩ (q := 0) rfl rfl ?_
  refine g_aload_n (pc' := 2) O ⟨dX11_token_1, rfl⟩ (q := 0) rfl rfl ?_
  refine g_iload_n (pc' := 3) O ⟨dX11_token_2, rfl⟩ (q := 1) rfl rfl ?_
  obtain ⟨r_1, c_2, E⟩ := bd_of E
  refine g_Vi (pc' := 6) O ⟨dX11_token_3, rfl⟩ (y := yX11_isWire) (As := [.int x1]) (st := [.ref (ad 0)]) (t_X11_isWire l D ad cy (h := h) c_2) kw_1175 kw_70 kw_1172 kw_1174 kw_26 rfl (wM_0 ad cy h) hd_X11_isWire ⟨Nat.le_of_ble_eq_true rfl, Nat.le_of_ble_eq_true rfl⟩ ⟨Nat.le_of_ble_eq_true rfl, Nat.le_of_ble_eq_true rfl⟩ rfl (Nat.le_of_ble_eq_true rfl) ?_
  refine jn1_of (P := fun (z_3 : Int32) => G l D X 4 (WM ad cy) 0 0 h 28 [(0, .ref (ad 0)), (1, .int x1)] [.int z_3, .ref (ad 0)]) E ?_ ?_
  · intro z_3 E
    show G l D X 4 (WM ad cy) 0 0 h 28 [(0, .ref (ad 0)), (1, .int x1)] [.int z_3, .ref (ad 0)]
    refine gp_M_RX11_70_0 ad cy (pc' := 31) O ⟨dX11_token_28, rfl⟩ ?_
    refine g_nmh E (fun h_4 E => ?_)
    refine g_aload_n (pc' := 32) O ⟨dX11_token_31, rfl⟩ (q := 0) rfl rfl ?_
    refine gf_M_RX11_70_0 ad cy (pc' := 35) O ⟨dX11_token_32, rfl⟩ ?_
    refine g_if_le (pc' := 38) O ⟨dX11_token_35, rfl⟩ E (tgt := 40) (by decide) (fun E => ?_) (fun E => ?_)
    · refine g_aload_n (pc' := 41) O ⟨dX11_token_40, rfl⟩ (q := 0) rfl rfl ?_
      refine g_dup (pc' := 42) O ⟨dX11_token_41, rfl⟩ rfl ?_
      refine gf_M_RX11_102_0 ad cy (pc' := 45) O ⟨dX11_token_42, rfl⟩ ?_
      refine g_iconst (pc' := 46) O ⟨dX11_token_45, rfl⟩ (v := (1 : Int32)) rfl ?_
      refine g_iadd (pc' := 47) O ⟨dX11_token_46, rfl⟩ ?_
      refine gp_M_RX11_102_0 ad cy (pc' := 50) O ⟨dX11_token_47, rfl⟩ ?_
      refine g_nmh E (fun h_5 E => ?_)
      refine g_iload_n (pc' := 51) O ⟨dX11_token_50, rfl⟩ (q := 1) rfl rfl ?_
      refine g_istore_n (pc' := 52) O ⟨dX11_token_51, rfl⟩ (lv' := [(2, .int x1), (0, .ref (ad 0)), (1, .int x1)]) rfl (by decide) rfl ?_
      refine g_iconst (pc' := 53) O ⟨dX11_token_52, rfl⟩ (v := (0 : Int32)) rfl ?_
      refine g_istore_n (pc' := 54) O ⟨dX11_token_53, rfl⟩ (lv' := [(3, .int (0 : Int32)), (2, .int x1), (0, .ref (ad 0)), (1, .int x1)]) rfl (by decide) rfl ?_
      refine jn2_of (P := fun (x2_6 : Int32) (h_7 : Hp) => G l D X 4 (WM ad cy) 0 0 h_7 133 [(0, .ref (ad 0)), (2, .int x2_6)] []) E ?_ ?_
      · intro x2_6 h_7 E
        show G l D X 4 (WM ad cy) 0 0 h_7 133 [(0, .ref (ad 0)), (2, .int x2_6)] []
        refine g_aload_n (pc' := 134) O ⟨dX11_token_133, rfl⟩ (q := 0) rfl rfl ?_
        refine gf_M_RX11_38_0 ad cy (pc' := 137) O ⟨dX11_token_134, rfl⟩ ?_
        refine g_iload_n (pc' := 138) O ⟨dX11_token_137, rfl⟩ (q := 1) rfl rfl ?_
        refine g_dup2 (pc' := 139) O ⟨dX11_token_138, rfl⟩ rfl rfl ?_
        refine g_iald (pc' := 140) O ⟨dX11_token_139, rfl⟩ (wM_10 ad cy h_7) E (fun E => ?_)
        refine g_iconst (pc' := 141) O ⟨dX11_token_140, rfl⟩ (v := (1 : Int32)) rfl ?_
        refine g_iadd (pc' := 142) O ⟨dX11_token_141, rfl⟩ ?_
        refine g_iast (pc' := 143) O ⟨dX11_token_142, rfl⟩ (wM_10 ad cy h_7) (vM_10 ad cy h_7 _) E (fun E => ?_)
        refine g_nmh E (fun h_8 E => ?_)
        refine g_iload_n (pc' := 144) O ⟨dX11_token_143, rfl⟩ (q := 1) rfl rfl ?_
        cases E
        exact hret _ _ _ ⟨dX11_token_144, rfl⟩ rfl
      · intro k133 hk133 E
        refine g_sub (lv' := [(0, .ref (ad 0)), (2, .int x1), (3, .int (0 : Int32))]) [2, 1, 0] rfl ?_
        refine fx3_of (P := fun (x2_9 : Int32) (x3_10 : Int32) (h_11 : Hp) => G l D X 4 (WM ad cy) 0 0 h_11 54 [(0, .ref (ad 0)), (2, .int x2_9), (3, .int x3_10)] []) ?_ _ _ _ _ E
        intro self ih54 x2_9 x3_10 h_11 E
        show G l D X 4 (WM ad cy) 0 0 h_11 54 [(0, .ref (ad 0)), (2, .int x2_9), (3, .int x3_10)] []
        unfold L_X11_token_54 at E
        refine g_iload_n (pc' := 55) O ⟨dX11_token_54, rfl⟩ (q := 2) rfl rfl ?_
        refine g_aload_n (pc' := 56) O ⟨dX11_token_55, rfl⟩ (q := 0) rfl rfl ?_
        refine gf_M_RX11_81_0 ad cy (pc' := 59) O ⟨dX11_token_56, rfl⟩ ?_
        refine g_icmp_ge (pc' := 62) O ⟨dX11_token_59, rfl⟩ E (tgt := 133) (by decide) (fun E => ?_) (fun E => ?_)
        · refine g_sub (lv' := [(0, .ref (ad 0)), (2, .int x2_9)]) [0, 1] rfl ?_
          exact hk133 _ _ E
        · refine g_iload_n (pc' := 63) O ⟨dX11_token_62, rfl⟩ (q := 1) rfl rfl ?_
          refine g_aload_n (pc' := 64) O ⟨dX11_token_63, rfl⟩ (q := 0) rfl rfl ?_
          refine gf_M_RX11_7_0 ad cy (pc' := 67) O ⟨dX11_token_64, rfl⟩ ?_
          refine g_iload_n (pc' := 68) O ⟨dX11_token_67, rfl⟩ (q := 2) rfl rfl ?_
          refine g_iald (pc' := 69) O ⟨dX11_token_68, rfl⟩ (wM_1 ad cy h_11) E (fun E => ?_)
          refine jn0_of (P := G l D X 4 (WM ad cy) 0 0 h_11 82 [(0, .ref (ad 0)), (3, .int x3_10)] []) E ?_ ?_
          · intro E
            show G l D X 4 (WM ad cy) 0 0 h_11 82 [(0, .ref (ad 0)), (3, .int x3_10)] []
            refine g_aload_n (pc' := 83) O ⟨dX11_token_82, rfl⟩ (q := 0) rfl rfl ?_
            refine gf_M_RX11_34_0 ad cy (pc' := 86) O ⟨dX11_token_83, rfl⟩ ?_
            refine g_iload_n (pc' := 87) O ⟨dX11_token_86, rfl⟩ (q := 1) rfl rfl ?_
            refine g_zald (pc' := 88) O ⟨dX11_token_87, rfl⟩ (wM_9 ad cy h_11) E (fun E => ?_)
            refine jn1_of (P := fun (z_12 : Int32) => G l D X 4 (WM ad cy) 0 0 h_11 106 [(0, .ref (ad 0)), (3, .int x3_10)] [.int z_12]) E ?_ ?_
            · intro z_12 E
              show G l D X 4 (WM ad cy) 0 0 h_11 106 [(0, .ref (ad 0)), (3, .int x3_10)] [.int z_12]
              refine g_istore_n (pc' := 107) O ⟨dX11_token_106, rfl⟩ (lv' := [(2, .int z_12), (0, .ref (ad 0)), (3, .int x3_10)]) rfl (by decide) rfl ?_
              refine g_aload_n (pc' := 108) O ⟨dX11_token_107, rfl⟩ (q := 1) rfl rfl ?_
              refine gf_M_RX11_34_0 ad cy (pc' := 111) O ⟨dX11_token_108, rfl⟩ ?_
              refine g_iload_n (pc' := 112) O ⟨dX11_token_111, rfl⟩ (q := 2) rfl rfl ?_
              refine g_aload_n (pc' := 113) O ⟨dX11_token_112, rfl⟩ (q := 1) rfl rfl ?_
              refine gf_M_RX11_34_0 ad cy (pc' := 116) O ⟨dX11_token_113, rfl⟩ ?_
              refine g_iload_n (pc' := 117) O ⟨dX11_token_116, rfl⟩ (q := 2) rfl rfl ?_
              refine g_zald (pc' := 118) O ⟨dX11_token_117, rfl⟩ (wM_9 ad cy h_11) E (fun E => ?_)
              refine g_if_ne (pc' := 121) O ⟨dX11_token_118, rfl⟩ E (tgt := 125) (by decide) (fun E => ?_) (fun E => ?_)
              · refine g_iconst (pc' := 126) O ⟨dX11_token_125, rfl⟩ (v := (0 : Int32)) rfl ?_
                refine g_zast (pc' := 127) O ⟨dX11_token_126, rfl⟩ (wM_9 ad cy h_11) (vM_9 ad cy h_11 _) E (fun E => ?_)
                refine g_nmh E (fun h_13 E => ?_)
                refine g_iinc (pc' := 130) O ⟨dX11_token_127, rfl⟩ (q := 2) (v := x3_10 + (1 : Int32)) (lv' := [(3, .int (x3_10 + (1 : Int32))), (2, .int z_12), (0, .ref (ad 0))]) rfl rfl (by decide) rfl ?_
                refine g_goto (pc' := 133) O ⟨dX11_token_130, rfl⟩ (tgt := 54) (by decide) ?_
                refine g_sub (lv' := [(0, .ref (ad 0)), (2, .int z_12), (3, .int (x3_10 + (1 : Int32)))]) [2, 1, 0] rfl ?_
                exact ih54 _ _ _ E
              · refine g_iconst (pc' := 122) O ⟨dX11_token_121, rfl⟩ (v := (1 : Int32)) rfl ?_
                refine g_goto (pc' := 125) O ⟨dX11_token_122, rfl⟩ (tgt := 126) (by decide) ?_
                refine g_zast (pc' := 127) O ⟨dX11_token_126, rfl⟩ (wM_9 ad cy h_11) (vM_9 ad cy h_11 _) E (fun E => ?_)
                refine g_nmh E (fun h_14 E => ?_)
                refine g_iinc (pc' := 130) O ⟨dX11_token_127, rfl⟩ (q := 2) (v := x3_10 + (1 : Int32)) (lv' := [(3, .int (x3_10 + (1 : Int32))), (2, .int z_12), (0, .ref (ad 0))]) rfl rfl (by decide) rfl ?_
                refine g_goto (pc' := 133) O ⟨dX11_token_130, rfl⟩ (tgt := 54) (by decide) ?_
                refine g_sub (lv' := [(0, .ref (ad 0)), (2, .int z_12), (3, .int (x3_10 + (1 : Int32)))]) [2, 1, 0] rfl ?_
                exact ih54 _ _ _ E
            · intro k106 hk106 E
              refine g_if_eq (pc' := 91) O ⟨dX11_token_88, rfl⟩ E (tgt := 100) (by decide) (fun E => ?_) (fun E => ?_)
              · refine g_aload_n (pc' := 101) O ⟨dX11_token_100, rfl⟩ (q := 0) rfl rfl ?_
                refine gf_M_RX11_7_0 ad cy (pc' := 104) O ⟨dX11_token_101, rfl⟩ ?_
                refine g_iload_n (pc' := 105) O ⟨dX11_token_104, rfl⟩ (q := 1) rfl rfl ?_
                refine g_iald (pc' := 106) O ⟨dX11_token_105, rfl⟩ (wM_1 ad cy h_11) E (fun E => ?_)
                exact hk106 _ E
              · refine g_aload_n (pc' := 92) O ⟨dX11_token_91, rfl⟩ (q := 0) rfl rfl ?_
                refine gf_M_RX11_13_0 ad cy (pc' := 95) O ⟨dX11_token_92, rfl⟩ ?_
                refine g_iload_n (pc' := 96) O ⟨dX11_token_95, rfl⟩ (q := 1) rfl rfl ?_
                refine g_iald (pc' := 97) O ⟨dX11_token_96, rfl⟩ (wM_2 ad cy h_11) E (fun E => ?_)
                refine g_goto (pc' := 100) O ⟨dX11_token_97, rfl⟩ (tgt := 106) (by decide) ?_
                exact hk106 _ E
          · intro k82 hk82 E
            refine g_icmp_eq (pc' := 72) O ⟨dX11_token_69, rfl⟩ E (tgt := 82) (by decide) (fun E => ?_) (fun E => ?_)
            · refine g_sub (lv' := [(0, .ref (ad 0)), (3, .int x3_10)]) [0, 2] rfl ?_
              exact hk82 E
            · refine g_iload_n (pc' := 73) O ⟨dX11_token_72, rfl⟩ (q := 1) rfl rfl ?_
              refine g_aload_n (pc' := 74) O ⟨dX11_token_73, rfl⟩ (q := 0) rfl rfl ?_
              refine gf_M_RX11_13_0 ad cy (pc' := 77) O ⟨dX11_token_74, rfl⟩ ?_
              refine g_iload_n (pc' := 78) O ⟨dX11_token_77, rfl⟩ (q := 2) rfl rfl ?_
              refine g_iald (pc' := 79) O ⟨dX11_token_78, rfl⟩ (wM_2 ad cy h_11) E (fun E => ?_)
              refine g_icmp_ne (pc' := 82) O ⟨dX11_token_79, rfl⟩ E (tgt := 127) (by decide) (fun E => ?_) (fun E => ?_)
              · refine g_iinc (pc' := 130) O ⟨dX11_token_127, rfl⟩ (q := 2) (v := x3_10 + (1 : Int32)) (lv' := [(3, .int (x3_10 + (1 : Int32))), (0, .ref (ad 0)), (2, .int x2_9)]) rfl rfl (by decide) rfl ?_
                refine g_goto (pc' := 133) O ⟨dX11_token_130, rfl⟩ (tgt := 54) (by decide) ?_
                refine g_sub (lv' := [(0, .ref (ad 0)), (2, .int x2_9), (3, .int (x3_10 + (1 : Int32)))]) [1, 2, 0] rfl ?_
                exact ih54 _ _ _ E
              · refine g_sub (lv' := [(0, .ref (ad 0)), (3, .int x3_10)]) [0, 2] rfl ?_
                exact hk82 E
    · refine g_iconst (pc' := 39) O ⟨dX11_token_38, rfl⟩ (v := (0 : Int32)) rfl ?_
      cases E
      exact hret _ _ _ ⟨dX11_token_39, rfl⟩ rfl
  · intro k28 hk28 E
    refine g_if_ne (pc' := 9) O ⟨dX11_token_6, rfl⟩ E (tgt := 13) (by decide) (fun E => ?_) (fun E => ?_)
    · refine g_aload_n (pc' := 14) O ⟨dX11_token_13, rfl⟩ (q := 0) rfl rfl ?_
      refine gf_M_RX11_102_0 ad cy (pc' := 17) O ⟨dX11_token_14, rfl⟩ ?_
      refine g_sipush (pc' := 20) O ⟨dX11_token_17, rfl⟩ (v := (1000 : Int32)) rfl ?_
      refine g_icmp_ne (pc' := 23) O ⟨dX11_token_20, rfl⟩ E (tgt := 27) (by decide) (fun E => ?_) (fun E => ?_)
      · refine g_iconst (pc' := 28) O ⟨dX11_token_27, rfl⟩ (v := (0 : Int32)) rfl ?_
        exact hk28 _ E
      · refine g_iconst (pc' := 24) O ⟨dX11_token_23, rfl⟩ (v := (2 : Int32)) rfl ?_
        refine g_goto (pc' := 27) O ⟨dX11_token_24, rfl⟩ (tgt := 28) (by decide) ?_
        exact hk28 _ E
    · refine g_iconst (pc' := 10) O ⟨dX11_token_9, rfl⟩ (v := (1 : Int32)) rfl ?_
      refine g_goto (pc' := 13) O ⟨dX11_token_10, rfl⟩ (tgt := 28) (by decide) ?_
      exact hk28 _ E
set_option maxRecDepth 100000 in
set_option maxHeartbeats 4000000 in
theorem t_X11_came (l : Launch) (D : va_G) (ad : Nat → Nat) (cy : Nat → ClassId) {h : Hp} {x1 : Int32} {o : Int32 × Hp} (E : f_X11_came h x1 = some o) : CtI l D cy (WM ad cy) yX11_came cX11_came 2 .int 2 43 [.ref (ad 0), .int x1] h o.1 o.2 := by
  refine sI (own := RX11) rfl rfl (Nat.le_of_ble_eq_true rfl) (fun X O hret => ?_)
  show G l D X 2 (WM ad cy) 0 0 h 0 [(0, .ref (ad 0)), (1, .int x1)] []
  unfold f_X11_came at E
  refine g_aload_n (pc' := 1) O ⟨dX11_came_0, rfl⟩ (q := 0) rfl rfl ?_
  refine g_aload_n (pc' := 2) O ⟨dX11_came_1, rfl⟩ (q := 0) rfl rfl ?_
  refine g_iload_n (pc' := 3) O ⟨dX11_came_2, rfl⟩ (q := 1) rfl rfl ?_
  obtain ⟨r_1, c_2, E⟩ := bd_of E
  refine g_Vi (pc' := 6) O ⟨dX11_came_3, rfl⟩ (y := yX11_isWire) (As := [.int x1]) (st := [.ref (ad 0)]) (t_X11_isWire l D ad cy (h := h) c_2) kw_1175 kw_70 kw_1172 kw_1174 kw_26 rfl (wM_0 ad cy h) hd_X11_isWire ⟨Nat.le_of_ble_eq_true rfl, Nat.le_of_ble_eq_true rfl⟩ ⟨Nat.le_of_ble_eq_true rfl, Nat.le_of_ble_eq_true rfl⟩ rfl (Nat.le_of_ble_eq_true rfl) ?_
  refine jn1_of (P := fun (z_3 : Int32) => G l D X 2 (WM ad cy) 0 0 h 14 [(0, .ref (ad 0)), (1, .int x1)] [.int z_3, .ref (ad 0)]) E ?_ ?_
  · intro z_3 E
    show G l D X 2 (WM ad cy) 0 0 h 14 [(0, .ref (ad 0)), (1, .int x1)] [.int z_3, .ref (ad 0)]
    refine gp_M_RX11_70_0 ad cy (pc' := 17) O ⟨dX11_came_14, rfl⟩ ?_
    refine g_nmh E (fun h_4 E => ?_)
    refine g_aload_n (pc' := 18) O ⟨dX11_came_17, rfl⟩ (q := 0) rfl rfl ?_
    refine gf_M_RX11_70_0 ad cy (pc' := 21) O ⟨dX11_came_18, rfl⟩ ?_
    refine g_if_le (pc' := 24) O ⟨dX11_came_21, rfl⟩ E (tgt := 28) (by decide) (fun E => ?_) (fun E => ?_)
    · refine g_aload_n (pc' := 29) O ⟨dX11_came_28, rfl⟩ (q := 0) rfl rfl ?_
      refine gf_M_RX11_38_0 ad cy (pc' := 32) O ⟨dX11_came_29, rfl⟩ ?_
      refine g_iload_n (pc' := 33) O ⟨dX11_came_32, rfl⟩ (q := 1) rfl rfl ?_
      refine g_iald (pc' := 34) O ⟨dX11_came_33, rfl⟩ (wM_10 ad cy h_4) E (fun E => ?_)
      cases E
      exact hret _ _ _ ⟨dX11_came_34, rfl⟩ rfl
    · refine g_iconst (pc' := 25) O ⟨dX11_came_24, rfl⟩ (v := (0 : Int32)) rfl ?_
      refine g_goto (pc' := 28) O ⟨dX11_came_25, rfl⟩ (tgt := 34) (by decide) ?_
      cases E
      exact hret _ _ _ ⟨dX11_came_34, rfl⟩ rfl
  · intro k14 hk14 E
    refine g_if_eq (pc' := 9) O ⟨dX11_came_6, rfl⟩ E (tgt := 13) (by decide) (fun E => ?_) (fun E => ?_)
    · refine g_iconst (pc' := 14) O ⟨dX11_came_13, rfl⟩ (v := (1 : Int32)) rfl ?_
      exact hk14 _ E
    · refine g_iconst (pc' := 10) O ⟨dX11_came_9, rfl⟩ (v := (0 : Int32)) rfl ?_
      refine g_goto (pc' := 13) O ⟨dX11_came_10, rfl⟩ (tgt := 14) (by decide) ?_
      exact hk14 _ E
set_option maxRecDepth 100000 in
set_option maxHeartbeats 4000000 in
theorem t_X11_cameAnew (l : Launch) (D : va_G) (ad : Nat → Nat) (cy : Nat → ClassId) {h : Hp} {x1 : Int32} {o : Int32 × Hp} (E : f_X11_cameAnew h x1 = some o) : CtI l D cy (WM ad cy) yX11_cameAnew cX11_cameAnew 2 .int 3 64 [.ref (ad 0), .int x1] h o.1 o.2 := by
  refine sI (own := RX11) rfl rfl (Nat.le_of_ble_eq_true rfl) (fun X O hret => ?_)
  show G l D X 2 (WM ad cy) 0 0 h 0 [(0, .ref (ad 0)), (1, .int x1)] []
  unfold f_X11_cameAnew at E
  refine g_aload_n (pc' := 1) O ⟨dX11_cameAnew_0, rfl⟩ (q := 0) rfl rfl ?_
  refine g_iload_n (pc' := 2) O ⟨dX11_cameAnew_1, rfl⟩ (q := 1) rfl rfl ?_
  obtain ⟨r_1, c_2, E⟩ := bd_of E
  refine g_Vi (pc' := 5) O ⟨dX11_cameAnew_2, rfl⟩ (y := yX11_came) (As := [.int x1]) (st := []) (t_X11_came l D ad cy (h := h) c_2) kw_1368 kw_70 kw_1373 kw_1366 kw_1367 rfl (wM_0 ad cy h) hd_X11_came ⟨Nat.le_of_ble_eq_true rfl, Nat.le_of_ble_eq_true rfl⟩ ⟨Nat.le_of_ble_eq_true rfl, Nat.le_of_ble_eq_true rfl⟩ rfl (Nat.le_of_ble_eq_true rfl) ?_
  cases E
  exact hret _ _ _ ⟨dX11_cameAnew_5, rfl⟩ rfl
set_option maxRecDepth 100000 in
set_option maxHeartbeats 4000000 in
theorem t_X11_isStep (l : Launch) (D : va_G) (ad : Nat → Nat) (cy : Nat → ClassId) {h : Hp}  {o : Int32 × Hp} (E : f_X11_isStep h = some o) : CtI l D cy (WM ad cy) yX11_isStep cX11_isStep 3 .boolean 0 0 [.ref (ad 0)] h o.1 o.2 := by
  refine sI (own := RX11) rfl rfl (Nat.le_of_ble_eq_true rfl) (fun X O hret => ?_)
  show G l D X 3 (WM ad cy) 0 0 h 0 [(0, .ref (ad 0))] []
  unfold f_X11_isStep at E
  refine g_aload_n (pc' := 1) O ⟨dX11_isStep_0, rfl⟩ (q := 0) rfl rfl ?_
  refine g_iconst (pc' := 2) O ⟨dX11_isStep_1, rfl⟩ (v := (0 : Int32)) rfl ?_
  refine gp_M_RX11_70_0 ad cy (pc' := 5) O ⟨dX11_isStep_2, rfl⟩ ?_
  refine g_nmh E (fun h_1 E => ?_)
  refine g_aload_n (pc' := 6) O ⟨dX11_isStep_5, rfl⟩ (q := 0) rfl rfl ?_
  refine gf_M_RX11_38_0 ad cy (pc' := 9) O ⟨dX11_isStep_6, rfl⟩ ?_
  refine g_iconst (pc' := 10) O ⟨dX11_isStep_9, rfl⟩ (v := (0 : Int32)) rfl ?_
  refine g_iald (pc' := 11) O ⟨dX11_isStep_10, rfl⟩ (wM_10 ad cy h_1) E (fun E => ?_)
  refine g_aload_n (pc' := 12) O ⟨dX11_isStep_11, rfl⟩ (q := 0) rfl rfl ?_
  refine gf_M_RX11_38_0 ad cy (pc' := 15) O ⟨dX11_isStep_12, rfl⟩ ?_
  refine g_aload_n (pc' := 16) O ⟨dX11_isStep_15, rfl⟩ (q := 0) rfl rfl ?_
  refine gf_M_RX11_74_0 ad cy (pc' := 19) O ⟨dX11_isStep_16, rfl⟩ ?_
  refine g_iconst (pc' := 20) O ⟨dX11_isStep_19, rfl⟩ (v := (1 : Int32)) rfl ?_
  refine g_isub (pc' := 21) O ⟨dX11_isStep_20, rfl⟩ ?_
  refine g_iald (pc' := 22) O ⟨dX11_isStep_21, rfl⟩ (wM_10 ad cy h_1) E (fun E => ?_)
  refine g_isub (pc' := 23) O ⟨dX11_isStep_22, rfl⟩ ?_
  refine g_iconst (pc' := 24) O ⟨dX11_isStep_23, rfl⟩ (v := (1 : Int32)) rfl ?_
  refine g_icmp_gt (pc' := 27) O ⟨dX11_isStep_24, rfl⟩ E (tgt := 31) (by decide) (fun E => ?_) (fun E => ?_)
  · refine g_iconst (pc' := 32) O ⟨dX11_isStep_31, rfl⟩ (v := (0 : Int32)) rfl ?_
    refine g_istore_n (pc' := 33) O ⟨dX11_isStep_32, rfl⟩ (lv' := [(1, .int (0 : Int32)), (0, .ref (ad 0))]) rfl (by decide) rfl ?_
    refine g_iconst (pc' := 34) O ⟨dX11_isStep_33, rfl⟩ (v := (1 : Int32)) rfl ?_
    refine g_istore_n (pc' := 35) O ⟨dX11_isStep_34, rfl⟩ (lv' := [(2, .int (1 : Int32)), (1, .int (0 : Int32)), (0, .ref (ad 0))]) rfl (by decide) rfl ?_
    refine jn1_of (P := fun (x1_2 : Int32) => G l D X 3 (WM ad cy) 0 0 h_1 76 [(1, .int x1_2)] []) E ?_ ?_
    · intro x1_2 E
      show G l D X 3 (WM ad cy) 0 0 h_1 76 [(1, .int x1_2)] []
      refine g_iload_n (pc' := 77) O ⟨dX11_isStep_76, rfl⟩ (q := 0) rfl rfl ?_
      obtain ⟨hn, E⟩ := ckz_of E
      cases E
      exact hret _ _ _ ⟨dX11_isStep_77, rfl⟩ hn
    · intro k76 hk76 E
      refine g_sub (lv' := [(0, .ref (ad 0)), (1, .int (0 : Int32)), (2, .int (1 : Int32))]) [2, 1, 0] rfl ?_
      refine fx2_of (P := fun (x1_3 : Int32) (x2_4 : Int32) => G l D X 3 (WM ad cy) 0 0 h_1 35 [(0, .ref (ad 0)), (1, .int x1_3), (2, .int x2_4)] []) ?_ _ _ _ E
      intro self ih35 x1_3 x2_4 E
      show G l D X 3 (WM ad cy) 0 0 h_1 35 [(0, .ref (ad 0)), (1, .int x1_3), (2, .int x2_4)] []
      unfold L_X11_isStep_35 at E
      refine g_iload_n (pc' := 36) O ⟨dX11_isStep_35, rfl⟩ (q := 2) rfl rfl ?_
      refine g_aload_n (pc' := 37) O ⟨dX11_isStep_36, rfl⟩ (q := 0) rfl rfl ?_
      refine gf_M_RX11_74_0 ad cy (pc' := 40) O ⟨dX11_isStep_37, rfl⟩ ?_
      refine g_icmp_ge (pc' := 43) O ⟨dX11_isStep_40, rfl⟩ E (tgt := 76) (by decide) (fun E => ?_) (fun E => ?_)
      · refine g_sub (lv' := [(1, .int x1_3)]) [1] rfl ?_
        exact hk76 _ E
      · refine g_iload_n (pc' := 44) O ⟨dX11_isStep_43, rfl⟩ (q := 1) rfl rfl ?_
        refine g_if_eq (pc' := 47) O ⟨dX11_isStep_44, rfl⟩ E (tgt := 68) (by decide) (fun E => ?_) (fun E => ?_)
        · refine g_iconst (pc' := 69) O ⟨dX11_isStep_68, rfl⟩ (v := (0 : Int32)) rfl ?_
          refine g_istore_n (pc' := 70) O ⟨dX11_isStep_69, rfl⟩ (lv' := [(1, .int (0 : Int32)), (0, .ref (ad 0)), (2, .int x2_4)]) rfl (by decide) rfl ?_
          refine g_iinc (pc' := 73) O ⟨dX11_isStep_70, rfl⟩ (q := 2) (v := x2_4 + (1 : Int32)) (lv' := [(2, .int (x2_4 + (1 : Int32))), (1, .int (0 : Int32)), (0, .ref (ad 0))]) rfl rfl (by decide) rfl ?_
          refine g_goto (pc' := 76) O ⟨dX11_isStep_73, rfl⟩ (tgt := 35) (by decide) ?_
          refine g_sub (lv' := [(0, .ref (ad 0)), (1, .int (0 : Int32)), (2, .int (x2_4 + (1 : Int32)))]) [2, 1, 0] rfl ?_
          exact ih35 _ _ E
        · refine g_aload_n (pc' := 48) O ⟨dX11_isStep_47, rfl⟩ (q := 0) rfl rfl ?_
          refine gf_M_RX11_38_0 ad cy (pc' := 51) O ⟨dX11_isStep_48, rfl⟩ ?_
          refine g_iload_n (pc' := 52) O ⟨dX11_isStep_51, rfl⟩ (q := 2) rfl rfl ?_
          refine g_iald (pc' := 53) O ⟨dX11_isStep_52, rfl⟩ (wM_10 ad cy h_1) E (fun E => ?_)
          refine g_aload_n (pc' := 54) O ⟨dX11_isStep_53, rfl⟩ (q := 0) rfl rfl ?_
          refine gf_M_RX11_38_0 ad cy (pc' := 57) O ⟨dX11_isStep_54, rfl⟩ ?_
          refine g_iload_n (pc' := 58) O ⟨dX11_isStep_57, rfl⟩ (q := 2) rfl rfl ?_
          refine g_iconst (pc' := 59) O ⟨dX11_isStep_58, rfl⟩ (v := (1 : Int32)) rfl ?_
          refine g_isub (pc' := 60) O ⟨dX11_isStep_59, rfl⟩ ?_
          refine g_iald (pc' := 61) O ⟨dX11_isStep_60, rfl⟩ (wM_10 ad cy h_1) E (fun E => ?_)
          refine g_icmp_gt (pc' := 64) O ⟨dX11_isStep_61, rfl⟩ E (tgt := 68) (by decide) (fun E => ?_) (fun E => ?_)
          · refine g_iconst (pc' := 69) O ⟨dX11_isStep_68, rfl⟩ (v := (0 : Int32)) rfl ?_
            refine g_istore_n (pc' := 70) O ⟨dX11_isStep_69, rfl⟩ (lv' := [(1, .int (0 : Int32)), (0, .ref (ad 0)), (2, .int x2_4)]) rfl (by decide) rfl ?_
            refine g_iinc (pc' := 73) O ⟨dX11_isStep_70, rfl⟩ (q := 2) (v := x2_4 + (1 : Int32)) (lv' := [(2, .int (x2_4 + (1 : Int32))), (1, .int (0 : Int32)), (0, .ref (ad 0))]) rfl rfl (by decide) rfl ?_
            refine g_goto (pc' := 76) O ⟨dX11_isStep_73, rfl⟩ (tgt := 35) (by decide) ?_
            refine g_sub (lv' := [(0, .ref (ad 0)), (1, .int (0 : Int32)), (2, .int (x2_4 + (1 : Int32)))]) [2, 1, 0] rfl ?_
            exact ih35 _ _ E
          · refine g_iconst (pc' := 65) O ⟨dX11_isStep_64, rfl⟩ (v := (1 : Int32)) rfl ?_
            refine g_goto (pc' := 68) O ⟨dX11_isStep_65, rfl⟩ (tgt := 69) (by decide) ?_
            refine g_istore_n (pc' := 70) O ⟨dX11_isStep_69, rfl⟩ (lv' := [(1, .int (1 : Int32)), (0, .ref (ad 0)), (2, .int x2_4)]) rfl (by decide) rfl ?_
            refine g_iinc (pc' := 73) O ⟨dX11_isStep_70, rfl⟩ (q := 2) (v := x2_4 + (1 : Int32)) (lv' := [(2, .int (x2_4 + (1 : Int32))), (1, .int (1 : Int32)), (0, .ref (ad 0))]) rfl rfl (by decide) rfl ?_
            refine g_goto (pc' := 76) O ⟨dX11_isStep_73, rfl⟩ (tgt := 35) (by decide) ?_
            refine g_sub (lv' := [(0, .ref (ad 0)), (1, .int (1 : Int32)), (2, .int (x2_4 + (1 : Int32)))]) [2, 1, 0] rfl ?_
            exact ih35 _ _ E
  · refine g_iconst (pc' := 28) O ⟨dX11_isStep_27, rfl⟩ (v := (1 : Int32)) rfl ?_
    refine g_goto (pc' := 31) O ⟨dX11_isStep_28, rfl⟩ (tgt := 32) (by decide) ?_
    refine g_istore_n (pc' := 33) O ⟨dX11_isStep_32, rfl⟩ (lv' := [(1, .int (1 : Int32)), (0, .ref (ad 0))]) rfl (by decide) rfl ?_
    refine g_iconst (pc' := 34) O ⟨dX11_isStep_33, rfl⟩ (v := (1 : Int32)) rfl ?_
    refine g_istore_n (pc' := 35) O ⟨dX11_isStep_34, rfl⟩ (lv' := [(2, .int (1 : Int32)), (1, .int (1 : Int32)), (0, .ref (ad 0))]) rfl (by decide) rfl ?_
    refine jn1_of (P := fun (x1_5 : Int32) => G l D X 3 (WM ad cy) 0 0 h_1 76 [(1, .int x1_5)] []) E ?_ ?_
    · intro x1_5 E
      show G l D X 3 (WM ad cy) 0 0 h_1 76 [(1, .int x1_5)] []
      refine g_iload_n (pc' := 77) O ⟨dX11_isStep_76, rfl⟩ (q := 0) rfl rfl ?_
      obtain ⟨hn, E⟩ := ckz_of E
      cases E
      exact hret _ _ _ ⟨dX11_isStep_77, rfl⟩ hn
    · intro k76 hk76 E
      refine g_sub (lv' := [(0, .ref (ad 0)), (1, .int (1 : Int32)), (2, .int (1 : Int32))]) [2, 1, 0] rfl ?_
      refine fx2_of (P := fun (x1_6 : Int32) (x2_7 : Int32) => G l D X 3 (WM ad cy) 0 0 h_1 35 [(0, .ref (ad 0)), (1, .int x1_6), (2, .int x2_7)] []) ?_ _ _ _ E
      intro self ih35 x1_6 x2_7 E
      show G l D X 3 (WM ad cy) 0 0 h_1 35 [(0, .ref (ad 0)), (1, .int x1_6), (2, .int x2_7)] []
      unfold L_X11_isStep_35 at E
      refine g_iload_n (pc' := 36) O ⟨dX11_isStep_35, rfl⟩ (q := 2) rfl rfl ?_
      refine g_aload_n (pc' := 37) O ⟨dX11_isStep_36, rfl⟩ (q := 0) rfl rfl ?_
      refine gf_M_RX11_74_0 ad cy (pc' := 40) O ⟨dX11_isStep_37, rfl⟩ ?_
      refine g_icmp_ge (pc' := 43) O ⟨dX11_isStep_40, rfl⟩ E (tgt := 76) (by decide) (fun E => ?_) (fun E => ?_)
      · refine g_sub (lv' := [(1, .int x1_6)]) [1] rfl ?_
        exact hk76 _ E
      · refine g_iload_n (pc' := 44) O ⟨dX11_isStep_43, rfl⟩ (q := 1) rfl rfl ?_
        refine g_if_eq (pc' := 47) O ⟨dX11_isStep_44, rfl⟩ E (tgt := 68) (by decide) (fun E => ?_) (fun E => ?_)
        · refine g_iconst (pc' := 69) O ⟨dX11_isStep_68, rfl⟩ (v := (0 : Int32)) rfl ?_
          refine g_istore_n (pc' := 70) O ⟨dX11_isStep_69, rfl⟩ (lv' := [(1, .int (0 : Int32)), (0, .ref (ad 0)), (2, .int x2_7)]) rfl (by decide) rfl ?_
          refine g_iinc (pc' := 73) O ⟨dX11_isStep_70, rfl⟩ (q := 2) (v := x2_7 + (1 : Int32)) (lv' := [(2, .int (x2_7 + (1 : Int32))), (1, .int (0 : Int32)), (0, .ref (ad 0))]) rfl rfl (by decide) rfl ?_
          refine g_goto (pc' := 76) O ⟨dX11_isStep_73, rfl⟩ (tgt := 35) (by decide) ?_
          refine g_sub (lv' := [(0, .ref (ad 0)), (1, .int (0 : Int32)), (2, .int (x2_7 + (1 : Int32)))]) [2, 1, 0] rfl ?_
          exact ih35 _ _ E
        · refine g_aload_n (pc' := 48) O ⟨dX11_isStep_47, rfl⟩ (q := 0) rfl rfl ?_
          refine gf_M_RX11_38_0 ad cy (pc' := 51) O ⟨dX11_isStep_48, rfl⟩ ?_
          refine g_iload_n (pc' := 52) O ⟨dX11_isStep_51, rfl⟩ (q := 2) rfl rfl ?_
          refine g_iald (pc' := 53) O ⟨dX11_isStep_52, rfl⟩ (wM_10 ad cy h_1) E (fun E => ?_)
          refine g_aload_n (pc' := 54) O ⟨dX11_isStep_53, rfl⟩ (q := 0) rfl rfl ?_
          refine gf_M_RX11_38_0 ad cy (pc' := 57) O ⟨dX11_isStep_54, rfl⟩ ?_
          refine g_iload_n (pc' := 58) O ⟨dX11_isStep_57, rfl⟩ (q := 2) rfl rfl ?_
          refine g_iconst (pc' := 59) O ⟨dX11_isStep_58, rfl⟩ (v := (1 : Int32)) rfl ?_
          refine g_isub (pc' := 60) O ⟨dX11_isStep_59, rfl⟩ ?_
          refine g_iald (pc' := 61) O ⟨dX11_isStep_60, rfl⟩ (wM_10 ad cy h_1) E (fun E => ?_)
          refine g_icmp_gt (pc' := 64) O ⟨dX11_isStep_61, rfl⟩ E (tgt := 68) (by decide) (fun E => ?_) (fun E => ?_)
          · refine g_iconst (pc' := 69) O ⟨dX11_isStep_68, rfl⟩ (v := (0 : Int32)) rfl ?_
            refine g_istore_n (pc' := 70) O ⟨dX11_isStep_69, rfl⟩ (lv' := [(1, .int (0 : Int32)), (0, .ref (ad 0)), (2, .int x2_7)]) rfl (by decide) rfl ?_
            refine g_iinc (pc' := 73) O ⟨dX11_isStep_70, rfl⟩ (q := 2) (v := x2_7 + (1 : Int32)) (lv' := [(2, .int (x2_7 + (1 : Int32))), (1, .int (0 : Int32)), (0, .ref (ad 0))]) rfl rfl (by decide) rfl ?_
            refine g_goto (pc' := 76) O ⟨dX11_isStep_73, rfl⟩ (tgt := 35) (by decide) ?_
            refine g_sub (lv' := [(0, .ref (ad 0)), (1, .int (0 : Int32)), (2, .int (x2_7 + (1 : Int32)))]) [2, 1, 0] rfl ?_
            exact ih35 _ _ E
          · refine g_iconst (pc' := 65) O ⟨dX11_isStep_64, rfl⟩ (v := (1 : Int32)) rfl ?_
            refine g_goto (pc' := 68) O ⟨dX11_isStep_65, rfl⟩ (tgt := 69) (by decide) ?_
            refine g_istore_n (pc' := 70) O ⟨dX11_isStep_69, rfl⟩ (lv' := [(1, .int (1 : Int32)), (0, .ref (ad 0)), (2, .int x2_7)]) rfl (by decide) rfl ?_
            refine g_iinc (pc' := 73) O ⟨dX11_isStep_70, rfl⟩ (q := 2) (v := x2_7 + (1 : Int32)) (lv' := [(2, .int (x2_7 + (1 : Int32))), (1, .int (1 : Int32)), (0, .ref (ad 0))]) rfl rfl (by decide) rfl ?_
            refine g_goto (pc' := 76) O ⟨dX11_isStep_73, rfl⟩ (tgt := 35) (by decide) ?_
            refine g_sub (lv' := [(0, .ref (ad 0)), (1, .int (1 : Int32)), (2, .int (x2_7 + (1 : Int32)))]) [2, 1, 0] rfl ?_
            exact ih35 _ _ E
set_option maxRecDepth 100000 in
set_option maxHeartbeats 4000000 in
theorem t_X11_misses (l : Launch) (D : va_G) (ad : Nat → Nat) (cy : Nat → ClassId) {h : Hp} {x1 : Int32} {x2 : Int32} {o : Int32} (E : f_X11_misses h x1 x2 = some o) : CtI l D cy (WM ad cy) yX11_misses cX11_misses 3 .int 2 43 [.ref (ad 0), .int x1, .int x2] h o h := by
  refine sI (own := RX11) rfl rfl (Nat.le_of_ble_eq_true rfl) (fun X O hret => ?_)
  show G l D X 3 (WM ad cy) 0 0 h 0 [(0, .ref (ad 0)), (1, .int x1), (2, .int x2)] []
  unfold f_X11_misses at E
  refine g_aload_n (pc' := 1) O ⟨dX11_misses_0, rfl⟩ (q := 0) rfl rfl ?_
  refine g_iload_n (pc' := 2) O ⟨dX11_misses_1, rfl⟩ (q := 1) rfl rfl ?_
  obtain ⟨r_1, c_2, E⟩ := bd_of E
  refine g_Vi (pc' := 5) O ⟨dX11_misses_2, rfl⟩ (y := yX11_isComparator) (As := [.int x1]) (st := []) (t_X11_isComparator l D ad cy (h := h) c_2) kw_1234 kw_70 kw_1231 kw_1233 kw_33 rfl (wM_0 ad cy h) hd_X11_isComparator ⟨Nat.le_of_ble_eq_true rfl, Nat.le_of_ble_eq_true rfl⟩ ⟨Nat.le_of_ble_eq_true rfl, Nat.le_of_ble_eq_true rfl⟩ rfl (Nat.le_of_ble_eq_true rfl) ?_
  refine g_if_ne (pc' := 8) O ⟨dX11_misses_5, rfl⟩ E (tgt := 12) (by decide) (fun E => ?_) (fun E => ?_)
  · refine g_iload_n (pc' := 13) O ⟨dX11_misses_12, rfl⟩ (q := 2) rfl rfl ?_
    refine g_iconst (pc' := 14) O ⟨dX11_misses_13, rfl⟩ (v := (0 : Int32)) rfl ?_
    refine g_iconst (pc' := 15) O ⟨dX11_misses_14, rfl⟩ (v := (2 : Int32)) rfl ?_
    obtain ⟨r_3, c_4, E⟩ := bd_of E
    refine g_Si (pc' := 18) O ⟨dX11_misses_15, rfl⟩ (y := yX11_in) (As := [.int x2, .int (0 : Int32), .int (2 : Int32)]) (st := []) (t_X11_in l D ad cy (h := h) c_4) kw_1167 kw_70 kw_1165 kw_1166 hd_X11_in ⟨Nat.le_of_ble_eq_true rfl, Nat.le_of_ble_eq_true rfl⟩ ⟨Nat.le_of_ble_eq_true rfl, Nat.le_of_ble_eq_true rfl⟩ rfl (Nat.le_of_ble_eq_true rfl) ?_
    refine g_if_ne (pc' := 21) O ⟨dX11_misses_18, rfl⟩ E (tgt := 25) (by decide) (fun E => ?_) (fun E => ?_)
    · refine g_iconst (pc' := 26) O ⟨dX11_misses_25, rfl⟩ (v := (0 : Int32)) rfl ?_
      cases E
      exact hret _ _ _ ⟨dX11_misses_26, rfl⟩ rfl
    · refine g_iconst (pc' := 22) O ⟨dX11_misses_21, rfl⟩ (v := (2 : Int32)) rfl ?_
      refine g_goto (pc' := 25) O ⟨dX11_misses_22, rfl⟩ (tgt := 26) (by decide) ?_
      cases E
      exact hret _ _ _ ⟨dX11_misses_26, rfl⟩ rfl
  · refine g_iconst (pc' := 9) O ⟨dX11_misses_8, rfl⟩ (v := (1 : Int32)) rfl ?_
    refine g_goto (pc' := 12) O ⟨dX11_misses_9, rfl⟩ (tgt := 26) (by decide) ?_
    cases E
    exact hret _ _ _ ⟨dX11_misses_26, rfl⟩ rfl
set_option maxRecDepth 100000 in
set_option maxHeartbeats 4000000 in
theorem t_X11_bad (l : Launch) (D : va_G) (ad : Nat → Nat) (cy : Nat → ClassId) {h : Hp} {x1 : Int32} {x2 : Int32} {o : Int32 × Hp} (E : f_X11_bad h x1 x2 = some o) : CtI l D cy (WM ad cy) yX11_bad cX11_bad 3 .int 3 65 [.ref (ad 0), .int x1, .int x2] h o.1 o.2 := by
  refine sI (own := RX11) rfl rfl (Nat.le_of_ble_eq_true rfl) (fun X O hret => ?_)
  show G l D X 3 (WM ad cy) 0 0 h 0 [(0, .ref (ad 0)), (1, .int x1), (2, .int x2)] []
  unfold f_X11_bad at E
  refine g_aload_n (pc' := 1) O ⟨dX11_bad_0, rfl⟩ (q := 0) rfl rfl ?_
  refine g_aload_n (pc' := 2) O ⟨dX11_bad_1, rfl⟩ (q := 0) rfl rfl ?_
  refine g_iload_n (pc' := 3) O ⟨dX11_bad_2, rfl⟩ (q := 1) rfl rfl ?_
  refine g_iload_n (pc' := 4) O ⟨dX11_bad_3, rfl⟩ (q := 2) rfl rfl ?_
  obtain ⟨r_1, c_2, E⟩ := bd_of E
  refine g_Vi (pc' := 7) O ⟨dX11_bad_4, rfl⟩ (y := yX11_misses) (As := [.int x1, .int x2]) (st := [.ref (ad 0)]) (t_X11_misses l D ad cy (h := h) c_2) kw_1385 kw_70 kw_1382 kw_1384 kw_47 rfl (wM_0 ad cy h) hd_X11_misses ⟨Nat.le_of_ble_eq_true rfl, Nat.le_of_ble_eq_true rfl⟩ ⟨Nat.le_of_ble_eq_true rfl, Nat.le_of_ble_eq_true rfl⟩ rfl (Nat.le_of_ble_eq_true rfl) ?_
  refine gp_M_RX11_70_0 ad cy (pc' := 10) O ⟨dX11_bad_7, rfl⟩ ?_
  refine g_nmh E (fun h_3 E => ?_)
  refine g_aload_n (pc' := 11) O ⟨dX11_bad_10, rfl⟩ (q := 0) rfl rfl ?_
  refine gf_M_RX11_70_0 ad cy (pc' := 14) O ⟨dX11_bad_11, rfl⟩ ?_
  refine g_if_le (pc' := 17) O ⟨dX11_bad_14, rfl⟩ E (tgt := 21) (by decide) (fun E => ?_) (fun E => ?_)
  · refine g_aload_n (pc' := 22) O ⟨dX11_bad_21, rfl⟩ (q := 0) rfl rfl ?_
    refine g_iload_n (pc' := 23) O ⟨dX11_bad_22, rfl⟩ (q := 1) rfl rfl ?_
    refine g_iload_n (pc' := 24) O ⟨dX11_bad_23, rfl⟩ (q := 2) rfl rfl ?_
    obtain ⟨r_4, c_5, E⟩ := bd_of E
    refine g_Vi (pc' := 27) O ⟨dX11_bad_24, rfl⟩ (y := yX11_unsorted) (As := [.int x1, .int x2]) (st := []) (t_X11_unsorted l D ad cy (h := h_3) c_5) kw_1309 kw_70 kw_1306 kw_1308 kw_42 rfl (wM_0 ad cy h_3) hd_X11_unsorted ⟨Nat.le_of_ble_eq_true rfl, Nat.le_of_ble_eq_true rfl⟩ ⟨Nat.le_of_ble_eq_true rfl, Nat.le_of_ble_eq_true rfl⟩ rfl (Nat.le_of_ble_eq_true rfl) ?_
    cases E
    exact hret _ _ _ ⟨dX11_bad_27, rfl⟩ rfl
  · refine g_iconst (pc' := 18) O ⟨dX11_bad_17, rfl⟩ (v := (0 : Int32)) rfl ?_
    refine g_goto (pc' := 21) O ⟨dX11_bad_18, rfl⟩ (tgt := 27) (by decide) ?_
    cases E
    exact hret _ _ _ ⟨dX11_bad_27, rfl⟩ rfl
set_option maxRecDepth 100000 in
set_option maxHeartbeats 4000000 in
theorem t_X11_tellers (l : Launch) (D : va_G) (ad : Nat → Nat) (cy : Nat → ClassId) {h : Hp} {x1 : Int32} {x2 : Int32} {o : Int64} (E : f_X11_tellers h x1 x2 = some o) : CtL l D cy (WM ad cy) yX11_tellers cX11_tellers 6 2 50 [.ref (ad 0), .int x1, .int x2] h o h := by
  refine sL (own := RX11) rfl rfl (Nat.le_of_ble_eq_true rfl) (fun X O hret => ?_)
  show G l D X 6 (WM ad cy) 0 0 h 0 [(0, .ref (ad 0)), (1, .int x1), (2, .int x2)] []
  unfold f_X11_tellers at E
  refine g_lconst (pc' := 1) O ⟨dX11_tellers_0, rfl⟩ (v := (0 : Int64)) rfl ?_
  refine g_lstore_n (pc' := 2) O ⟨dX11_tellers_1, rfl⟩ (lv' := [(3, .long (0 : Int64)), (0, .ref (ad 0)), (1, .int x1), (2, .int x2)]) rfl (by decide) rfl ?_
  refine g_iconst (pc' := 3) O ⟨dX11_tellers_2, rfl⟩ (v := (0 : Int32)) rfl ?_
  refine g_istore (pc' := 5) O ⟨dX11_tellers_3, rfl⟩ (lv' := [(5, .int (0 : Int32)), (3, .long (0 : Int64)), (0, .ref (ad 0)), (1, .int x1), (2, .int x2)]) (by decide) rfl ?_
  refine jn1_of (P := fun (x3_1 : Int64) => G l D X 6 (WM ad cy) 0 0 h 54 [(3, .long x3_1)] []) E ?_ ?_
  · intro x3_1 E
    show G l D X 6 (WM ad cy) 0 0 h 54 [(3, .long x3_1)] []
    refine g_lload_n (pc' := 55) O ⟨dX11_tellers_54, rfl⟩ (q := 0) rfl rfl ?_
    cases E
    exact hret _ _ _ ⟨dX11_tellers_55, rfl⟩
  · intro k54 hk54 E
    refine g_sub (lv' := [(0, .ref (ad 0)), (1, .int x1), (2, .int x2), (3, .long (0 : Int64)), (5, .int (0 : Int32))]) [2, 3, 4, 1, 0] rfl ?_
    refine fx2_of (P := fun (x3_2 : Int64) (x5_3 : Int32) => G l D X 6 (WM ad cy) 0 0 h 5 [(0, .ref (ad 0)), (1, .int x1), (2, .int x2), (3, .long x3_2), (5, .int x5_3)] []) ?_ _ _ _ E
    intro self ih5 x3_2 x5_3 E
    show G l D X 6 (WM ad cy) 0 0 h 5 [(0, .ref (ad 0)), (1, .int x1), (2, .int x2), (3, .long x3_2), (5, .int x5_3)] []
    unfold L_X11_tellers_5 at E
    refine g_iload (pc' := 7) O ⟨dX11_tellers_5, rfl⟩ (q := 4) rfl ?_
    refine g_iconst (pc' := 8) O ⟨dX11_tellers_7, rfl⟩ (v := (1 : Int32)) rfl ?_
    refine g_aload_n (pc' := 9) O ⟨dX11_tellers_8, rfl⟩ (q := 0) rfl rfl ?_
    refine gf_M_RX11_74_0 ad cy (pc' := 12) O ⟨dX11_tellers_9, rfl⟩ ?_
    refine g_ishl (pc' := 13) O ⟨dX11_tellers_12, rfl⟩ ?_
    refine g_icmp_ge (pc' := 16) O ⟨dX11_tellers_13, rfl⟩ E (tgt := 54) (by decide) (fun E => ?_) (fun E => ?_)
    · refine g_sub (lv' := [(3, .long x3_2)]) [3] rfl ?_
      exact hk54 _ E
    · refine g_lload_n (pc' := 17) O ⟨dX11_tellers_16, rfl⟩ (q := 3) rfl rfl ?_
      refine g_aload_n (pc' := 18) O ⟨dX11_tellers_17, rfl⟩ (q := 0) rfl rfl ?_
      refine g_iload (pc' := 20) O ⟨dX11_tellers_18, rfl⟩ (q := 4) rfl ?_
      refine g_aload_n (pc' := 21) O ⟨dX11_tellers_20, rfl⟩ (q := 0) rfl rfl ?_
      refine gf_M_RX11_81_0 ad cy (pc' := 24) O ⟨dX11_tellers_21, rfl⟩ ?_
      refine g_iload_n (pc' := 25) O ⟨dX11_tellers_24, rfl⟩ (q := 1) rfl rfl ?_
      refine g_iload_n (pc' := 26) O ⟨dX11_tellers_25, rfl⟩ (q := 2) rfl rfl ?_
      obtain ⟨r_4, c_5, E⟩ := bd_of E
      refine g_Vi (pc' := 29) O ⟨dX11_tellers_26, rfl⟩ (y := yX11_through) (As := [.int x5_3, .int (h.1 0 2), .int x1, .int x2]) (st := [.long x3_2]) (t_X11_through l D ad cy (h := h) c_5) kw_1218 kw_70 kw_1215 kw_1217 kw_31 rfl (wM_0 ad cy h) hd_X11_through ⟨Nat.le_of_ble_eq_true rfl, Nat.le_of_ble_eq_true rfl⟩ ⟨Nat.le_of_ble_eq_true rfl, Nat.le_of_ble_eq_true rfl⟩ rfl (Nat.le_of_ble_eq_true rfl) ?_
      refine g_aload_n (pc' := 30) O ⟨dX11_tellers_29, rfl⟩ (q := 0) rfl rfl ?_
      refine g_iload (pc' := 32) O ⟨dX11_tellers_30, rfl⟩ (q := 4) rfl ?_
      obtain ⟨r_6, c_7, E⟩ := bd_of E
      refine g_Vi (pc' := 35) O ⟨dX11_tellers_32, rfl⟩ (y := yX11_out) (As := [.int x5_3]) (st := [.int r_4, .long x3_2]) (t_X11_out l D ad cy (h := h) c_7) kw_1301 kw_70 kw_1298 kw_1300 kw_41 rfl (wM_0 ad cy h) hd_X11_out ⟨Nat.le_of_ble_eq_true rfl, Nat.le_of_ble_eq_true rfl⟩ ⟨Nat.le_of_ble_eq_true rfl, Nat.le_of_ble_eq_true rfl⟩ rfl (Nat.le_of_ble_eq_true rfl) ?_
      refine g_icmp_eq (pc' := 38) O ⟨dX11_tellers_35, rfl⟩ E (tgt := 45) (by decide) (fun E => ?_) (fun E => ?_)
      · refine g_lconst (pc' := 46) O ⟨dX11_tellers_45, rfl⟩ (v := (0 : Int64)) rfl ?_
        refine g_lor (pc' := 47) O ⟨dX11_tellers_46, rfl⟩ ?_
        refine g_nmL E (fun y3_8 E => ?_)
        refine g_lstore_n (pc' := 48) O ⟨dX11_tellers_47, rfl⟩ (lv' := [(3, .long y3_8), (0, .ref (ad 0)), (1, .int x1), (2, .int x2), (5, .int x5_3)]) rfl (by decide) rfl ?_
        refine g_iinc (pc' := 51) O ⟨dX11_tellers_48, rfl⟩ (q := 4) (v := x5_3 + (1 : Int32)) (lv' := [(5, .int (x5_3 + (1 : Int32))), (3, .long y3_8), (0, .ref (ad 0)), (1, .int x1), (2, .int x2)]) rfl rfl (by decide) rfl ?_
        refine g_goto (pc' := 54) O ⟨dX11_tellers_51, rfl⟩ (tgt := 5) (by decide) ?_
        refine g_sub (lv' := [(0, .ref (ad 0)), (1, .int x1), (2, .int x2), (3, .long y3_8), (5, .int (x5_3 + (1 : Int32)))]) [2, 3, 4, 1, 0] rfl ?_
        exact ih5 _ _ E
      · refine g_lconst (pc' := 39) O ⟨dX11_tellers_38, rfl⟩ (v := (1 : Int64)) rfl ?_
        refine g_iload (pc' := 41) O ⟨dX11_tellers_39, rfl⟩ (q := 4) rfl ?_
        refine g_lshl (pc' := 42) O ⟨dX11_tellers_41, rfl⟩ ?_
        refine g_goto (pc' := 45) O ⟨dX11_tellers_42, rfl⟩ (tgt := 46) (by decide) ?_
        refine g_lor (pc' := 47) O ⟨dX11_tellers_46, rfl⟩ ?_
        refine g_nmL E (fun y3_9 E => ?_)
        refine g_lstore_n (pc' := 48) O ⟨dX11_tellers_47, rfl⟩ (lv' := [(3, .long y3_9), (0, .ref (ad 0)), (1, .int x1), (2, .int x2), (5, .int x5_3)]) rfl (by decide) rfl ?_
        refine g_iinc (pc' := 51) O ⟨dX11_tellers_48, rfl⟩ (q := 4) (v := x5_3 + (1 : Int32)) (lv' := [(5, .int (x5_3 + (1 : Int32))), (3, .long y3_9), (0, .ref (ad 0)), (1, .int x1), (2, .int x2)]) rfl rfl (by decide) rfl ?_
        refine g_goto (pc' := 54) O ⟨dX11_tellers_51, rfl⟩ (tgt := 5) (by decide) ?_
        refine g_sub (lv' := [(0, .ref (ad 0)), (1, .int x1), (2, .int x2), (3, .long y3_9), (5, .int (x5_3 + (1 : Int32)))]) [2, 3, 4, 1, 0] rfl ?_
        exact ih5 _ _ E
set_option maxRecDepth 100000 in
set_option maxHeartbeats 4000000 in
theorem t_X11_tells (l : Launch) (D : va_G) (ad : Nat → Nat) (cy : Nat → ClassId) {h : Hp} {x1 : Int32} {x2 : Int32} {o : Int64 × Hp} (E : f_X11_tells h x1 x2 = some o) : CtL l D cy (WM ad cy) yX11_tells cX11_tells 3 3 75 [.ref (ad 0), .int x1, .int x2] h o.1 o.2 := by
  refine sL (own := RX11) rfl rfl (Nat.le_of_ble_eq_true rfl) (fun X O hret => ?_)
  show G l D X 3 (WM ad cy) 0 0 h 0 [(0, .ref (ad 0)), (1, .int x1), (2, .int x2)] []
  unfold f_X11_tells at E
  refine g_aload_n (pc' := 1) O ⟨dX11_tells_0, rfl⟩ (q := 0) rfl rfl ?_
  refine g_aload_n (pc' := 2) O ⟨dX11_tells_1, rfl⟩ (q := 0) rfl rfl ?_
  refine g_iload_n (pc' := 3) O ⟨dX11_tells_2, rfl⟩ (q := 1) rfl rfl ?_
  refine g_iload_n (pc' := 4) O ⟨dX11_tells_3, rfl⟩ (q := 2) rfl rfl ?_
  obtain ⟨r_1, c_2, E⟩ := bd_of E
  refine g_Vi (pc' := 7) O ⟨dX11_tells_4, rfl⟩ (y := yX11_misses) (As := [.int x1, .int x2]) (st := [.ref (ad 0)]) (t_X11_misses l D ad cy (h := h) c_2) kw_1385 kw_70 kw_1382 kw_1384 kw_47 rfl (wM_0 ad cy h) hd_X11_misses ⟨Nat.le_of_ble_eq_true rfl, Nat.le_of_ble_eq_true rfl⟩ ⟨Nat.le_of_ble_eq_true rfl, Nat.le_of_ble_eq_true rfl⟩ rfl (Nat.le_of_ble_eq_true rfl) ?_
  refine gp_M_RX11_70_0 ad cy (pc' := 10) O ⟨dX11_tells_7, rfl⟩ ?_
  refine g_nmh E (fun h_3 E => ?_)
  refine g_aload_n (pc' := 11) O ⟨dX11_tells_10, rfl⟩ (q := 0) rfl rfl ?_
  refine gf_M_RX11_70_0 ad cy (pc' := 14) O ⟨dX11_tells_11, rfl⟩ ?_
  refine g_if_le (pc' := 17) O ⟨dX11_tells_14, rfl⟩ E (tgt := 21) (by decide) (fun E => ?_) (fun E => ?_)
  · refine g_aload_n (pc' := 22) O ⟨dX11_tells_21, rfl⟩ (q := 0) rfl rfl ?_
    refine g_iload_n (pc' := 23) O ⟨dX11_tells_22, rfl⟩ (q := 1) rfl rfl ?_
    refine g_iload_n (pc' := 24) O ⟨dX11_tells_23, rfl⟩ (q := 2) rfl rfl ?_
    obtain ⟨r_4, c_5, E⟩ := bd_of E
    refine g_Vl (pc' := 27) O ⟨dX11_tells_24, rfl⟩ (y := yX11_tellers) (As := [.int x1, .int x2]) (st := []) (t_X11_tellers l D ad cy (h := h_3) c_5) kw_1393 kw_70 kw_1390 kw_1392 kw_48 rfl (wM_0 ad cy h_3) hd_X11_tellers ⟨Nat.le_of_ble_eq_true rfl, Nat.le_of_ble_eq_true rfl⟩ ⟨Nat.le_of_ble_eq_true rfl, Nat.le_of_ble_eq_true rfl⟩ rfl (Nat.le_of_ble_eq_true rfl) ?_
    cases E
    exact hret _ _ _ ⟨dX11_tells_27, rfl⟩
  · refine g_lconst (pc' := 18) O ⟨dX11_tells_17, rfl⟩ (v := (0 : Int64)) rfl ?_
    refine g_goto (pc' := 21) O ⟨dX11_tells_18, rfl⟩ (tgt := 27) (by decide) ?_
    cases E
    exact hret _ _ _ ⟨dX11_tells_27, rfl⟩
set_option maxRecDepth 100000 in
set_option maxHeartbeats 4000000 in
theorem t_X11_hidden (l : Launch) (D : va_G) (ad : Nat → Nat) (cy : Nat → ClassId) {h : Hp} {x1 : Int64} {o : Int32 × Hp} (E : f_X11_hidden h x1 = some o) : CtI l D cy (WM ad cy) yX11_hidden cX11_hidden 5 .int 3 75 [.ref (ad 0), .long x1] h o.1 o.2 := by
  refine sI (own := RX11) rfl rfl (Nat.le_of_ble_eq_true rfl) (fun X O hret => ?_)
  show G l D X 5 (WM ad cy) 0 0 h 0 [(0, .ref (ad 0)), (1, .long x1)] []
  unfold f_X11_hidden at E
  refine g_aload_n (pc' := 1) O ⟨dX11_hidden_0, rfl⟩ (q := 0) rfl rfl ?_
  refine g_iconst (pc' := 2) O ⟨dX11_hidden_1, rfl⟩ (v := (0 : Int32)) rfl ?_
  refine gp_M_RX11_70_0 ad cy (pc' := 5) O ⟨dX11_hidden_2, rfl⟩ ?_
  refine g_nmh E (fun h_1 E => ?_)
  refine g_iconst (pc' := 6) O ⟨dX11_hidden_5, rfl⟩ (v := (0 : Int32)) rfl ?_
  refine g_istore_n (pc' := 7) O ⟨dX11_hidden_6, rfl⟩ (lv' := [(3, .int (0 : Int32)), (0, .ref (ad 0)), (1, .long x1)]) rfl (by decide) rfl ?_
  refine g_iconst (pc' := 8) O ⟨dX11_hidden_7, rfl⟩ (v := (0 : Int32)) rfl ?_
  refine g_istore (pc' := 10) O ⟨dX11_hidden_8, rfl⟩ (lv' := [(4, .int (0 : Int32)), (3, .int (0 : Int32)), (0, .ref (ad 0)), (1, .long x1)]) (by decide) rfl ?_
  refine jn1_of (P := fun (x3_2 : Int32) => G l D X 5 (WM ad cy) 0 0 h_1 54 [(3, .int x3_2)] []) E ?_ ?_
  · intro x3_2 E
    show G l D X 5 (WM ad cy) 0 0 h_1 54 [(3, .int x3_2)] []
    refine g_iload_n (pc' := 55) O ⟨dX11_hidden_54, rfl⟩ (q := 0) rfl rfl ?_
    cases E
    exact hret _ _ _ ⟨dX11_hidden_55, rfl⟩ rfl
  · intro k54 hk54 E
    refine g_sub (lv' := [(0, .ref (ad 0)), (1, .long x1), (3, .int (0 : Int32)), (4, .int (0 : Int32))]) [2, 3, 1, 0] rfl ?_
    refine fx2_of (P := fun (x3_3 : Int32) (x4_4 : Int32) => G l D X 5 (WM ad cy) 0 0 h_1 10 [(0, .ref (ad 0)), (1, .long x1), (3, .int x3_3), (4, .int x4_4)] []) ?_ _ _ _ E
    intro self ih10 x3_3 x4_4 E
    show G l D X 5 (WM ad cy) 0 0 h_1 10 [(0, .ref (ad 0)), (1, .long x1), (3, .int x3_3), (4, .int x4_4)] []
    unfold L_X11_hidden_10 at E
    refine g_iload (pc' := 12) O ⟨dX11_hidden_10, rfl⟩ (q := 3) rfl ?_
    refine g_iconst (pc' := 13) O ⟨dX11_hidden_12, rfl⟩ (v := (3 : Int32)) rfl ?_
    refine g_aload_n (pc' := 14) O ⟨dX11_hidden_13, rfl⟩ (q := 0) rfl rfl ?_
    refine gf_M_RX11_81_0 ad cy (pc' := 17) O ⟨dX11_hidden_14, rfl⟩ ?_
    refine g_imul (pc' := 18) O ⟨dX11_hidden_17, rfl⟩ ?_
    refine g_icmp_ge (pc' := 21) O ⟨dX11_hidden_18, rfl⟩ E (tgt := 54) (by decide) (fun E => ?_) (fun E => ?_)
    · refine g_sub (lv' := [(3, .int x3_3)]) [2] rfl ?_
      exact hk54 _ E
    · refine g_iload_n (pc' := 22) O ⟨dX11_hidden_21, rfl⟩ (q := 2) rfl rfl ?_
      refine g_aload_n (pc' := 23) O ⟨dX11_hidden_22, rfl⟩ (q := 0) rfl rfl ?_
      refine g_iload (pc' := 25) O ⟨dX11_hidden_23, rfl⟩ (q := 3) rfl ?_
      refine g_iconst (pc' := 26) O ⟨dX11_hidden_25, rfl⟩ (v := (3 : Int32)) rfl ?_
      refine g_idiv (pc' := 27) O ⟨dX11_hidden_26, rfl⟩ (by decide) ?_
      refine g_iload (pc' := 29) O ⟨dX11_hidden_27, rfl⟩ (q := 3) rfl ?_
      refine g_iconst (pc' := 30) O ⟨dX11_hidden_29, rfl⟩ (v := (3 : Int32)) rfl ?_
      refine g_irem (pc' := 31) O ⟨dX11_hidden_30, rfl⟩ (by decide) ?_
      obtain ⟨r_5, c_6, E⟩ := bd_of E
      refine g_Vl (pc' := 34) O ⟨dX11_hidden_31, rfl⟩ (y := yX11_tellers) (As := [.int (x4_4 / (3 : Int32)), .int (irm x4_4 (3 : Int32))]) (st := [.int x3_3]) (t_X11_tellers l D ad cy (h := h_1) c_6) kw_1393 kw_70 kw_1390 kw_1392 kw_48 rfl (wM_0 ad cy h_1) hd_X11_tellers ⟨Nat.le_of_ble_eq_true rfl, Nat.le_of_ble_eq_true rfl⟩ ⟨Nat.le_of_ble_eq_true rfl, Nat.le_of_ble_eq_true rfl⟩ rfl (Nat.le_of_ble_eq_true rfl) ?_
      refine g_lload_n (pc' := 35) O ⟨dX11_hidden_34, rfl⟩ (q := 1) rfl rfl ?_
      refine g_land (pc' := 36) O ⟨dX11_hidden_35, rfl⟩ ?_
      refine g_lconst (pc' := 37) O ⟨dX11_hidden_36, rfl⟩ (v := (0 : Int64)) rfl ?_
      refine g_lcmp (pc' := 38) O ⟨dX11_hidden_37, rfl⟩ ?_
      refine g_if_ne (pc' := 41) O ⟨dX11_hidden_38, rfl⟩ E (tgt := 45) (by decide) (fun E => ?_) (fun E => ?_)
      · refine g_iconst (pc' := 46) O ⟨dX11_hidden_45, rfl⟩ (v := (0 : Int32)) rfl ?_
        refine g_iadd (pc' := 47) O ⟨dX11_hidden_46, rfl⟩ ?_
        refine g_nm E (fun y3_7 E => ?_)
        refine g_istore_n (pc' := 48) O ⟨dX11_hidden_47, rfl⟩ (lv' := [(3, .int y3_7), (0, .ref (ad 0)), (1, .long x1), (4, .int x4_4)]) rfl (by decide) rfl ?_
        refine g_iinc (pc' := 51) O ⟨dX11_hidden_48, rfl⟩ (q := 3) (v := x4_4 + (1 : Int32)) (lv' := [(4, .int (x4_4 + (1 : Int32))), (3, .int y3_7), (0, .ref (ad 0)), (1, .long x1)]) rfl rfl (by decide) rfl ?_
        refine g_goto (pc' := 54) O ⟨dX11_hidden_51, rfl⟩ (tgt := 10) (by decide) ?_
        refine g_sub (lv' := [(0, .ref (ad 0)), (1, .long x1), (3, .int y3_7), (4, .int (x4_4 + (1 : Int32)))]) [2, 3, 1, 0] rfl ?_
        exact ih10 _ _ E
      · refine g_iconst (pc' := 42) O ⟨dX11_hidden_41, rfl⟩ (v := (1 : Int32)) rfl ?_
        refine g_goto (pc' := 45) O ⟨dX11_hidden_42, rfl⟩ (tgt := 46) (by decide) ?_
        refine g_iadd (pc' := 47) O ⟨dX11_hidden_46, rfl⟩ ?_
        refine g_nm E (fun y3_8 E => ?_)
        refine g_istore_n (pc' := 48) O ⟨dX11_hidden_47, rfl⟩ (lv' := [(3, .int y3_8), (0, .ref (ad 0)), (1, .long x1), (4, .int x4_4)]) rfl (by decide) rfl ?_
        refine g_iinc (pc' := 51) O ⟨dX11_hidden_48, rfl⟩ (q := 3) (v := x4_4 + (1 : Int32)) (lv' := [(4, .int (x4_4 + (1 : Int32))), (3, .int y3_8), (0, .ref (ad 0)), (1, .long x1)]) rfl rfl (by decide) rfl ?_
        refine g_goto (pc' := 54) O ⟨dX11_hidden_51, rfl⟩ (tgt := 10) (by decide) ?_
        refine g_sub (lv' := [(0, .ref (ad 0)), (1, .long x1), (3, .int y3_8), (4, .int (x4_4 + (1 : Int32)))]) [2, 3, 1, 0] rfl ?_
        exact ih10 _ _ E
set_option maxRecDepth 100000 in
set_option maxHeartbeats 4000000 in
theorem t_X11_chosen (l : Launch) (D : va_G) (ad : Nat → Nat) (cy : Nat → ClassId) {h : Hp} {x1 : Int32} {x2 : Int64} {x4 : Int64} {o : Int32} (E : f_X11_chosen h x1 x2 x4 = some o) : CtI l D cy (WM ad cy) yX11_chosen cX11_chosen 19 .int 0 0 [.ref (ad 0), .int x1, .long x2, .long x4] h o h := by
  refine sI (own := RX11) rfl rfl (Nat.le_of_ble_eq_true rfl) (fun X O hret => ?_)
  show G l D X 19 (WM ad cy) 0 0 h 0 [(0, .ref (ad 0)), (1, .int x1), (2, .long x2), (4, .long x4)] []
  unfold f_X11_chosen at E
  refine g_iconst (pc' := 1) O ⟨dX11_chosen_0, rfl⟩ (v := (5 : Int32)) rfl ?_
  refine g_istore (pc' := 3) O ⟨dX11_chosen_1, rfl⟩ (lv' := [(6, .int (5 : Int32)), (0, .ref (ad 0)), (1, .int x1), (2, .long x2), (4, .long x4)]) (by decide) rfl ?_
  refine g_iconst (pc' := 4) O ⟨dX11_chosen_3, rfl⟩ (v := (0 : Int32)) rfl ?_
  refine g_istore (pc' := 6) O ⟨dX11_chosen_4, rfl⟩ (lv' := [(7, .int (0 : Int32)), (6, .int (5 : Int32)), (0, .ref (ad 0)), (1, .int x1), (2, .long x2), (4, .long x4)]) (by decide) rfl ?_
  refine jn1_of (P := fun (x6_1 : Int32) => G l D X 19 (WM ad cy) 0 0 h 266 [(6, .int x6_1)] []) E ?_ ?_
  · intro x6_1 E
    show G l D X 19 (WM ad cy) 0 0 h 266 [(6, .int x6_1)] []
    refine g_iload (pc' := 268) O ⟨dX11_chosen_266, rfl⟩ (q := 0) rfl ?_
    refine g_iconst (pc' := 269) O ⟨dX11_chosen_268, rfl⟩ (v := (5 : Int32)) rfl ?_
    refine g_icmp_ne (pc' := 272) O ⟨dX11_chosen_269, rfl⟩ E (tgt := 276) (by decide) (fun E => ?_) (fun E => ?_)
    · refine g_iload (pc' := 278) O ⟨dX11_chosen_276, rfl⟩ (q := 0) rfl ?_
      cases E
      exact hret _ _ _ ⟨dX11_chosen_278, rfl⟩ rfl
    · refine g_iconst (pc' := 273) O ⟨dX11_chosen_272, rfl⟩ (v := (-1 : Int32)) rfl ?_
      refine g_goto (pc' := 276) O ⟨dX11_chosen_273, rfl⟩ (tgt := 278) (by decide) ?_
      cases E
      exact hret _ _ _ ⟨dX11_chosen_278, rfl⟩ rfl
  · intro k266 hk266 E
    refine g_sub (lv' := [(0, .ref (ad 0)), (1, .int x1), (2, .long x2), (4, .long x4), (6, .int (5 : Int32)), (7, .int (0 : Int32))]) [2, 3, 4, 5, 1, 0] rfl ?_
    refine fx2_of (P := fun (x6_2 : Int32) (x7_3 : Int32) => G l D X 19 (WM ad cy) 0 0 h 6 [(0, .ref (ad 0)), (1, .int x1), (2, .long x2), (4, .long x4), (6, .int x6_2), (7, .int x7_3)] []) ?_ _ _ _ E
    intro self ih6 x6_2 x7_3 E
    show G l D X 19 (WM ad cy) 0 0 h 6 [(0, .ref (ad 0)), (1, .int x1), (2, .long x2), (4, .long x4), (6, .int x6_2), (7, .int x7_3)] []
    unfold L_X11_chosen_6 at E
    refine g_iload (pc' := 8) O ⟨dX11_chosen_6, rfl⟩ (q := 5) rfl ?_
    refine g_iload_n (pc' := 9) O ⟨dX11_chosen_8, rfl⟩ (q := 1) rfl rfl ?_
    refine g_icmp_ge (pc' := 12) O ⟨dX11_chosen_9, rfl⟩ E (tgt := 266) (by decide) (fun E => ?_) (fun E => ?_)
    · refine g_sub (lv' := [(6, .int x6_2)]) [4] rfl ?_
      exact hk266 _ E
    · refine g_aload_n (pc' := 13) O ⟨dX11_chosen_12, rfl⟩ (q := 0) rfl rfl ?_
      refine gf_M_RX11_53_0 ad cy (pc' := 16) O ⟨dX11_chosen_13, rfl⟩ ?_
      refine g_iload (pc' := 18) O ⟨dX11_chosen_16, rfl⟩ (q := 5) rfl ?_
      refine g_lald (pc' := 19) O ⟨dX11_chosen_18, rfl⟩ (wM_15 ad cy h) E (fun E => ?_)
      refine g_lload_n (pc' := 20) O ⟨dX11_chosen_19, rfl⟩ (q := 2) rfl rfl ?_
      refine g_lcmp (pc' := 21) O ⟨dX11_chosen_20, rfl⟩ ?_
      refine jn1_of (P := fun (z_4 : Int32) => G l D X 19 (WM ad cy) 0 0 h 43 [(0, .ref (ad 0)), (1, .int x1), (2, .long x2), (4, .long x4), (7, .int x7_3)] [.int z_4]) E ?_ ?_
      · intro z_4 E
        show G l D X 19 (WM ad cy) 0 0 h 43 [(0, .ref (ad 0)), (1, .int x1), (2, .long x2), (4, .long x4), (7, .int x7_3)] [.int z_4]
        refine g_istore (pc' := 45) O ⟨dX11_chosen_43, rfl⟩ (lv' := [(6, .int z_4), (0, .ref (ad 0)), (1, .int x1), (2, .long x2), (4, .long x4), (7, .int x7_3)]) (by decide) rfl ?_
        refine g_iload (pc' := 47) O ⟨dX11_chosen_45, rfl⟩ (q := 5) rfl ?_
        refine g_iconst (pc' := 48) O ⟨dX11_chosen_47, rfl⟩ (v := (1 : Int32)) rfl ?_
        refine g_iadd (pc' := 49) O ⟨dX11_chosen_48, rfl⟩ ?_
        refine g_nm E (fun y8_5 E => ?_)
        refine g_istore (pc' := 51) O ⟨dX11_chosen_49, rfl⟩ (lv' := [(8, .int y8_5), (6, .int z_4), (0, .ref (ad 0)), (1, .int x1), (2, .long x2), (4, .long x4), (7, .int x7_3)]) (by decide) rfl ?_
        refine jn1_of (P := fun (x6_6 : Int32) => G l D X 19 (WM ad cy) 0 0 h 260 [(0, .ref (ad 0)), (1, .int x1), (2, .long x2), (4, .long x4), (6, .int x6_6), (7, .int x7_3)] []) E ?_ ?_
        · intro x6_6 E
          show G l D X 19 (WM ad cy) 0 0 h 260 [(0, .ref (ad 0)), (1, .int x1), (2, .long x2), (4, .long x4), (6, .int x6_6), (7, .int x7_3)] []
          refine g_iinc (pc' := 263) O ⟨dX11_chosen_260, rfl⟩ (q := 5) (v := x7_3 + (1 : Int32)) (lv' := [(7, .int (x7_3 + (1 : Int32))), (0, .ref (ad 0)), (1, .int x1), (2, .long x2), (4, .long x4), (6, .int x6_6)]) rfl rfl (by decide) rfl ?_
          refine g_goto (pc' := 266) O ⟨dX11_chosen_263, rfl⟩ (tgt := 6) (by decide) ?_
          refine g_sub (lv' := [(0, .ref (ad 0)), (1, .int x1), (2, .long x2), (4, .long x4), (6, .int x6_6), (7, .int (x7_3 + (1 : Int32)))]) [1, 2, 3, 4, 5, 0] rfl ?_
          exact ih6 _ _ E
        · intro k260 hk260 E
          refine g_sub (lv' := [(0, .ref (ad 0)), (1, .int x1), (2, .long x2), (4, .long x4), (6, .int z_4), (7, .int x7_3), (8, .int y8_5)]) [2, 3, 4, 5, 1, 6, 0] rfl ?_
          refine fx2_of (P := fun (x6_7 : Int32) (x8_8 : Int32) => G l D X 19 (WM ad cy) 0 0 h 51 [(0, .ref (ad 0)), (1, .int x1), (2, .long x2), (4, .long x4), (6, .int x6_7), (7, .int x7_3), (8, .int x8_8)] []) ?_ _ _ _ E
          intro self ih51 x6_7 x8_8 E
          show G l D X 19 (WM ad cy) 0 0 h 51 [(0, .ref (ad 0)), (1, .int x1), (2, .long x2), (4, .long x4), (6, .int x6_7), (7, .int x7_3), (8, .int x8_8)] []
          unfold L_X11_chosen_51 at E
          refine g_iload (pc' := 53) O ⟨dX11_chosen_51, rfl⟩ (q := 6) rfl ?_
          refine g_iload_n (pc' := 54) O ⟨dX11_chosen_53, rfl⟩ (q := 1) rfl rfl ?_
          refine g_icmp_ge (pc' := 57) O ⟨dX11_chosen_54, rfl⟩ E (tgt := 260) (by decide) (fun E => ?_) (fun E => ?_)
          · refine g_sub (lv' := [(0, .ref (ad 0)), (1, .int x1), (2, .long x2), (4, .long x4), (6, .int x6_7), (7, .int x7_3)]) [0, 1, 2, 3, 4, 5] rfl ?_
            exact hk260 _ E
          · refine g_iload (pc' := 59) O ⟨dX11_chosen_57, rfl⟩ (q := 4) rfl ?_
            refine g_iconst (pc' := 60) O ⟨dX11_chosen_59, rfl⟩ (v := (2 : Int32)) rfl ?_
            refine g_icmp_le (pc' := 63) O ⟨dX11_chosen_60, rfl⟩ E (tgt := 260) (by decide) (fun E => ?_) (fun E => ?_)
            · refine g_sub (lv' := [(0, .ref (ad 0)), (1, .int x1), (2, .long x2), (4, .long x4), (6, .int x6_7), (7, .int x7_3)]) [0, 1, 2, 3, 4, 5] rfl ?_
              exact hk260 _ E
            · refine g_aload_n (pc' := 64) O ⟨dX11_chosen_63, rfl⟩ (q := 0) rfl rfl ?_
              refine gf_M_RX11_53_0 ad cy (pc' := 67) O ⟨dX11_chosen_64, rfl⟩ ?_
              refine g_iload (pc' := 69) O ⟨dX11_chosen_67, rfl⟩ (q := 5) rfl ?_
              refine g_lald (pc' := 70) O ⟨dX11_chosen_69, rfl⟩ (wM_15 ad cy h) E (fun E => ?_)
              refine g_aload_n (pc' := 71) O ⟨dX11_chosen_70, rfl⟩ (q := 0) rfl rfl ?_
              refine gf_M_RX11_53_0 ad cy (pc' := 74) O ⟨dX11_chosen_71, rfl⟩ ?_
              refine g_iload (pc' := 76) O ⟨dX11_chosen_74, rfl⟩ (q := 6) rfl ?_
              refine g_lald (pc' := 77) O ⟨dX11_chosen_76, rfl⟩ (wM_15 ad cy h) E (fun E => ?_)
              refine g_lor (pc' := 78) O ⟨dX11_chosen_77, rfl⟩ ?_
              refine g_nmL E (fun y9_9 E => ?_)
              refine g_lstore (pc' := 80) O ⟨dX11_chosen_78, rfl⟩ (lv' := [(9, .long y9_9), (0, .ref (ad 0)), (1, .int x1), (2, .long x2), (4, .long x4), (6, .int x6_7), (7, .int x7_3), (8, .int x8_8)]) (by decide) rfl ?_
              refine g_aload_n (pc' := 81) O ⟨dX11_chosen_80, rfl⟩ (q := 1) rfl rfl ?_
              refine gf_M_RX11_57_0 ad cy (pc' := 84) O ⟨dX11_chosen_81, rfl⟩ ?_
              refine g_iload (pc' := 86) O ⟨dX11_chosen_84, rfl⟩ (q := 6) rfl ?_
              refine g_lald (pc' := 87) O ⟨dX11_chosen_86, rfl⟩ (wM_16 ad cy h) E (fun E => ?_)
              refine g_aload_n (pc' := 88) O ⟨dX11_chosen_87, rfl⟩ (q := 1) rfl rfl ?_
              refine gf_M_RX11_57_0 ad cy (pc' := 91) O ⟨dX11_chosen_88, rfl⟩ ?_
              refine g_iload (pc' := 93) O ⟨dX11_chosen_91, rfl⟩ (q := 7) rfl ?_
              refine g_lald (pc' := 94) O ⟨dX11_chosen_93, rfl⟩ (wM_16 ad cy h) E (fun E => ?_)
              refine g_lor (pc' := 95) O ⟨dX11_chosen_94, rfl⟩ ?_
              refine g_nmL E (fun y11_10 E => ?_)
              refine g_lstore (pc' := 97) O ⟨dX11_chosen_95, rfl⟩ (lv' := [(11, .long y11_10), (9, .long y9_9), (0, .ref (ad 0)), (1, .int x1), (2, .long x2), (4, .long x4), (6, .int x6_7), (7, .int x7_3), (8, .int x8_8)]) (by decide) rfl ?_
              refine g_lload (pc' := 99) O ⟨dX11_chosen_97, rfl⟩ (q := 1) rfl ?_
              refine g_lload_n (pc' := 100) O ⟨dX11_chosen_99, rfl⟩ (q := 4) rfl rfl ?_
              refine g_lcmp (pc' := 101) O ⟨dX11_chosen_100, rfl⟩ ?_
              refine jn1_of (P := fun (z_11 : Int32) => G l D X 19 (WM ad cy) 0 0 h 118 [(0, .ref (ad 0)), (1, .int x1), (2, .long x2), (4, .long x4), (7, .int x7_3), (8, .int x8_8), (9, .long y9_9), (11, .long y11_10)] [.int z_11]) E ?_ ?_
              · intro z_11 E
                show G l D X 19 (WM ad cy) 0 0 h 118 [(0, .ref (ad 0)), (1, .int x1), (2, .long x2), (4, .long x4), (7, .int x7_3), (8, .int x8_8), (9, .long y9_9), (11, .long y11_10)] [.int z_11]
                refine g_istore (pc' := 120) O ⟨dX11_chosen_118, rfl⟩ (lv' := [(6, .int z_11), (0, .ref (ad 0)), (1, .int x1), (2, .long x2), (4, .long x4), (7, .int x7_3), (8, .int x8_8), (9, .long y9_9), (11, .long y11_10)]) (by decide) rfl ?_
                refine g_iload (pc' := 122) O ⟨dX11_chosen_120, rfl⟩ (q := 6) rfl ?_
                refine g_iconst (pc' := 123) O ⟨dX11_chosen_122, rfl⟩ (v := (1 : Int32)) rfl ?_
                refine g_iadd (pc' := 124) O ⟨dX11_chosen_123, rfl⟩ ?_
                refine g_nm E (fun y13_12 E => ?_)
                refine g_istore (pc' := 126) O ⟨dX11_chosen_124, rfl⟩ (lv' := [(13, .int y13_12), (6, .int z_11), (0, .ref (ad 0)), (1, .int x1), (2, .long x2), (4, .long x4), (7, .int x7_3), (8, .int x8_8), (9, .long y9_9), (11, .long y11_10)]) (by decide) rfl ?_
                refine jn1_of (P := fun (x6_13 : Int32) => G l D X 19 (WM ad cy) 0 0 h 254 [(0, .ref (ad 0)), (1, .int x1), (2, .long x2), (4, .long x4), (6, .int x6_13), (7, .int x7_3), (8, .int x8_8)] []) E ?_ ?_
                · intro x6_13 E
                  show G l D X 19 (WM ad cy) 0 0 h 254 [(0, .ref (ad 0)), (1, .int x1), (2, .long x2), (4, .long x4), (6, .int x6_13), (7, .int x7_3), (8, .int x8_8)] []
                  refine g_iinc (pc' := 257) O ⟨dX11_chosen_254, rfl⟩ (q := 6) (v := x8_8 + (1 : Int32)) (lv' := [(8, .int (x8_8 + (1 : Int32))), (0, .ref (ad 0)), (1, .int x1), (2, .long x2), (4, .long x4), (6, .int x6_13), (7, .int x7_3)]) rfl rfl (by decide) rfl ?_
                  refine g_goto (pc' := 260) O ⟨dX11_chosen_257, rfl⟩ (tgt := 51) (by decide) ?_
                  refine g_sub (lv' := [(0, .ref (ad 0)), (1, .int x1), (2, .long x2), (4, .long x4), (6, .int x6_13), (7, .int x7_3), (8, .int (x8_8 + (1 : Int32)))]) [1, 2, 3, 4, 5, 6, 0] rfl ?_
                  exact ih51 _ _ E
                · intro k254 hk254 E
                  refine g_sub (lv' := [(0, .ref (ad 0)), (1, .int x1), (2, .long x2), (4, .long x4), (6, .int z_11), (7, .int x7_3), (8, .int x8_8), (9, .long y9_9), (11, .long y11_10), (13, .int y13_12)]) [2, 3, 4, 5, 1, 6, 7, 8, 9, 0] rfl ?_
                  refine fx2_of (P := fun (x6_14 : Int32) (x13_15 : Int32) => G l D X 19 (WM ad cy) 0 0 h 126 [(0, .ref (ad 0)), (1, .int x1), (2, .long x2), (4, .long x4), (6, .int x6_14), (7, .int x7_3), (8, .int x8_8), (9, .long y9_9), (11, .long y11_10), (13, .int x13_15)] []) ?_ _ _ _ E
                  intro self ih126 x6_14 x13_15 E
                  show G l D X 19 (WM ad cy) 0 0 h 126 [(0, .ref (ad 0)), (1, .int x1), (2, .long x2), (4, .long x4), (6, .int x6_14), (7, .int x7_3), (8, .int x8_8), (9, .long y9_9), (11, .long y11_10), (13, .int x13_15)] []
                  unfold L_X11_chosen_126 at E
                  refine g_iload (pc' := 128) O ⟨dX11_chosen_126, rfl⟩ (q := 9) rfl ?_
                  refine g_iload_n (pc' := 129) O ⟨dX11_chosen_128, rfl⟩ (q := 1) rfl rfl ?_
                  refine g_icmp_ge (pc' := 132) O ⟨dX11_chosen_129, rfl⟩ E (tgt := 254) (by decide) (fun E => ?_) (fun E => ?_)
                  · refine g_sub (lv' := [(0, .ref (ad 0)), (1, .int x1), (2, .long x2), (4, .long x4), (6, .int x6_14), (7, .int x7_3), (8, .int x8_8)]) [0, 1, 2, 3, 4, 5, 6] rfl ?_
                    exact hk254 _ E
                  · refine g_iload (pc' := 134) O ⟨dX11_chosen_132, rfl⟩ (q := 4) rfl ?_
                    refine g_iconst (pc' := 135) O ⟨dX11_chosen_134, rfl⟩ (v := (3 : Int32)) rfl ?_
                    refine g_icmp_le (pc' := 138) O ⟨dX11_chosen_135, rfl⟩ E (tgt := 254) (by decide) (fun E => ?_) (fun E => ?_)
                    · refine g_sub (lv' := [(0, .ref (ad 0)), (1, .int x1), (2, .long x2), (4, .long x4), (6, .int x6_14), (7, .int x7_3), (8, .int x8_8)]) [0, 1, 2, 3, 4, 5, 6] rfl ?_
                      exact hk254 _ E
                    · refine g_lload (pc' := 140) O ⟨dX11_chosen_138, rfl⟩ (q := 7) rfl ?_
                      refine g_aload_n (pc' := 141) O ⟨dX11_chosen_140, rfl⟩ (q := 0) rfl rfl ?_
                      refine gf_M_RX11_53_0 ad cy (pc' := 144) O ⟨dX11_chosen_141, rfl⟩ ?_
                      refine g_iload (pc' := 146) O ⟨dX11_chosen_144, rfl⟩ (q := 9) rfl ?_
                      refine g_lald (pc' := 147) O ⟨dX11_chosen_146, rfl⟩ (wM_15 ad cy h) E (fun E => ?_)
                      refine g_lor (pc' := 148) O ⟨dX11_chosen_147, rfl⟩ ?_
                      refine g_nmL E (fun y14_16 E => ?_)
                      refine g_lstore (pc' := 150) O ⟨dX11_chosen_148, rfl⟩ (lv' := [(14, .long y14_16), (0, .ref (ad 0)), (1, .int x1), (2, .long x2), (4, .long x4), (6, .int x6_14), (7, .int x7_3), (8, .int x8_8), (9, .long y9_9), (11, .long y11_10), (13, .int x13_15)]) (by decide) rfl ?_
                      refine g_lload (pc' := 152) O ⟨dX11_chosen_150, rfl⟩ (q := 9) rfl ?_
                      refine g_aload_n (pc' := 153) O ⟨dX11_chosen_152, rfl⟩ (q := 1) rfl rfl ?_
                      refine gf_M_RX11_57_0 ad cy (pc' := 156) O ⟨dX11_chosen_153, rfl⟩ ?_
                      refine g_iload (pc' := 158) O ⟨dX11_chosen_156, rfl⟩ (q := 10) rfl ?_
                      refine g_lald (pc' := 159) O ⟨dX11_chosen_158, rfl⟩ (wM_16 ad cy h) E (fun E => ?_)
                      refine g_lor (pc' := 160) O ⟨dX11_chosen_159, rfl⟩ ?_
                      refine g_nmL E (fun y16_17 E => ?_)
                      refine g_lstore (pc' := 162) O ⟨dX11_chosen_160, rfl⟩ (lv' := [(16, .long y16_17), (14, .long y14_16), (0, .ref (ad 0)), (1, .int x1), (2, .long x2), (4, .long x4), (6, .int x6_14), (7, .int x7_3), (8, .int x8_8), (9, .long y9_9), (11, .long y11_10), (13, .int x13_15)]) (by decide) rfl ?_
                      refine g_lload (pc' := 164) O ⟨dX11_chosen_162, rfl⟩ (q := 1) rfl ?_
                      refine g_lload_n (pc' := 165) O ⟨dX11_chosen_164, rfl⟩ (q := 4) rfl rfl ?_
                      refine g_lcmp (pc' := 166) O ⟨dX11_chosen_165, rfl⟩ ?_
                      refine jn1_of (P := fun (z_18 : Int32) => G l D X 19 (WM ad cy) 0 0 h 183 [(0, .ref (ad 0)), (1, .int x1), (2, .long x2), (4, .long x4), (7, .int x7_3), (8, .int x8_8), (9, .long y9_9), (11, .long y11_10), (13, .int x13_15), (14, .long y14_16), (16, .long y16_17)] [.int z_18]) E ?_ ?_
                      · intro z_18 E
                        show G l D X 19 (WM ad cy) 0 0 h 183 [(0, .ref (ad 0)), (1, .int x1), (2, .long x2), (4, .long x4), (7, .int x7_3), (8, .int x8_8), (9, .long y9_9), (11, .long y11_10), (13, .int x13_15), (14, .long y14_16), (16, .long y16_17)] [.int z_18]
                        refine g_istore (pc' := 185) O ⟨dX11_chosen_183, rfl⟩ (lv' := [(6, .int z_18), (0, .ref (ad 0)), (1, .int x1), (2, .long x2), (4, .long x4), (7, .int x7_3), (8, .int x8_8), (9, .long y9_9), (11, .long y11_10), (13, .int x13_15), (14, .long y14_16), (16, .long y16_17)]) (by decide) rfl ?_
                        refine g_iload (pc' := 187) O ⟨dX11_chosen_185, rfl⟩ (q := 9) rfl ?_
                        refine g_iconst (pc' := 188) O ⟨dX11_chosen_187, rfl⟩ (v := (1 : Int32)) rfl ?_
                        refine g_iadd (pc' := 189) O ⟨dX11_chosen_188, rfl⟩ ?_
                        refine g_nm E (fun y18_19 E => ?_)
                        refine g_istore (pc' := 191) O ⟨dX11_chosen_189, rfl⟩ (lv' := [(18, .int y18_19), (6, .int z_18), (0, .ref (ad 0)), (1, .int x1), (2, .long x2), (4, .long x4), (7, .int x7_3), (8, .int x8_8), (9, .long y9_9), (11, .long y11_10), (13, .int x13_15), (14, .long y14_16), (16, .long y16_17)]) (by decide) rfl ?_
                        refine jn1_of (P := fun (x6_20 : Int32) => G l D X 19 (WM ad cy) 0 0 h 248 [(0, .ref (ad 0)), (1, .int x1), (2, .long x2), (4, .long x4), (6, .int x6_20), (7, .int x7_3), (8, .int x8_8), (9, .long y9_9), (11, .long y11_10), (13, .int x13_15)] []) E ?_ ?_
                        · intro x6_20 E
                          show G l D X 19 (WM ad cy) 0 0 h 248 [(0, .ref (ad 0)), (1, .int x1), (2, .long x2), (4, .long x4), (6, .int x6_20), (7, .int x7_3), (8, .int x8_8), (9, .long y9_9), (11, .long y11_10), (13, .int x13_15)] []
                          refine g_iinc (pc' := 251) O ⟨dX11_chosen_248, rfl⟩ (q := 9) (v := x13_15 + (1 : Int32)) (lv' := [(13, .int (x13_15 + (1 : Int32))), (0, .ref (ad 0)), (1, .int x1), (2, .long x2), (4, .long x4), (6, .int x6_20), (7, .int x7_3), (8, .int x8_8), (9, .long y9_9), (11, .long y11_10)]) rfl rfl (by decide) rfl ?_
                          refine g_goto (pc' := 254) O ⟨dX11_chosen_251, rfl⟩ (tgt := 126) (by decide) ?_
                          refine g_sub (lv' := [(0, .ref (ad 0)), (1, .int x1), (2, .long x2), (4, .long x4), (6, .int x6_20), (7, .int x7_3), (8, .int x8_8), (9, .long y9_9), (11, .long y11_10), (13, .int (x13_15 + (1 : Int32)))]) [1, 2, 3, 4, 5, 6, 7, 8, 9, 0] rfl ?_
                          exact ih126 _ _ E
                        · intro k248 hk248 E
                          refine g_sub (lv' := [(0, .ref (ad 0)), (1, .int x1), (2, .long x2), (4, .long x4), (6, .int z_18), (7, .int x7_3), (8, .int x8_8), (9, .long y9_9), (11, .long y11_10), (13, .int x13_15), (14, .long y14_16), (16, .long y16_17), (18, .int y18_19)]) [2, 3, 4, 5, 1, 6, 7, 8, 9, 10, 11, 12, 0] rfl ?_
                          refine fx2_of (P := fun (x6_21 : Int32) (x18_22 : Int32) => G l D X 19 (WM ad cy) 0 0 h 191 [(0, .ref (ad 0)), (1, .int x1), (2, .long x2), (4, .long x4), (6, .int x6_21), (7, .int x7_3), (8, .int x8_8), (9, .long y9_9), (11, .long y11_10), (13, .int x13_15), (14, .long y14_16), (16, .long y16_17), (18, .int x18_22)] []) ?_ _ _ _ E
                          intro self ih191 x6_21 x18_22 E
                          show G l D X 19 (WM ad cy) 0 0 h 191 [(0, .ref (ad 0)), (1, .int x1), (2, .long x2), (4, .long x4), (6, .int x6_21), (7, .int x7_3), (8, .int x8_8), (9, .long y9_9), (11, .long y11_10), (13, .int x13_15), (14, .long y14_16), (16, .long y16_17), (18, .int x18_22)] []
                          unfold L_X11_chosen_191 at E
                          refine g_iload (pc' := 193) O ⟨dX11_chosen_191, rfl⟩ (q := 12) rfl ?_
                          refine g_iload_n (pc' := 194) O ⟨dX11_chosen_193, rfl⟩ (q := 1) rfl rfl ?_
                          refine g_icmp_ge (pc' := 197) O ⟨dX11_chosen_194, rfl⟩ E (tgt := 248) (by decide) (fun E => ?_) (fun E => ?_)
                          · refine g_sub (lv' := [(0, .ref (ad 0)), (1, .int x1), (2, .long x2), (4, .long x4), (6, .int x6_21), (7, .int x7_3), (8, .int x8_8), (9, .long y9_9), (11, .long y11_10), (13, .int x13_15)]) [0, 1, 2, 3, 4, 5, 6, 7, 8, 9] rfl ?_
                            exact hk248 _ E
                          · refine g_iload (pc' := 199) O ⟨dX11_chosen_197, rfl⟩ (q := 4) rfl ?_
                            refine g_iconst (pc' := 200) O ⟨dX11_chosen_199, rfl⟩ (v := (4 : Int32)) rfl ?_
                            refine g_icmp_le (pc' := 203) O ⟨dX11_chosen_200, rfl⟩ E (tgt := 248) (by decide) (fun E => ?_) (fun E => ?_)
                            · refine g_sub (lv' := [(0, .ref (ad 0)), (1, .int x1), (2, .long x2), (4, .long x4), (6, .int x6_21), (7, .int x7_3), (8, .int x8_8), (9, .long y9_9), (11, .long y11_10), (13, .int x13_15)]) [0, 1, 2, 3, 4, 5, 6, 7, 8, 9] rfl ?_
                              exact hk248 _ E
                            · refine g_lload (pc' := 205) O ⟨dX11_chosen_203, rfl⟩ (q := 10) rfl ?_
                              refine g_aload_n (pc' := 206) O ⟨dX11_chosen_205, rfl⟩ (q := 0) rfl rfl ?_
                              refine gf_M_RX11_53_0 ad cy (pc' := 209) O ⟨dX11_chosen_206, rfl⟩ ?_
                              refine g_iload (pc' := 211) O ⟨dX11_chosen_209, rfl⟩ (q := 12) rfl ?_
                              refine g_lald (pc' := 212) O ⟨dX11_chosen_211, rfl⟩ (wM_15 ad cy h) E (fun E => ?_)
                              refine g_lor (pc' := 213) O ⟨dX11_chosen_212, rfl⟩ ?_
                              refine g_lload_n (pc' := 214) O ⟨dX11_chosen_213, rfl⟩ (q := 2) rfl rfl ?_
                              refine g_lcmp (pc' := 215) O ⟨dX11_chosen_214, rfl⟩ ?_
                              refine g_if_ne (pc' := 218) O ⟨dX11_chosen_215, rfl⟩ E (tgt := 238) (by decide) (fun E => ?_) (fun E => ?_)
                              · refine g_iload (pc' := 240) O ⟨dX11_chosen_238, rfl⟩ (q := 4) rfl ?_
                                refine g_istore (pc' := 242) O ⟨dX11_chosen_240, rfl⟩ (lv' := [(6, .int x6_21), (0, .ref (ad 0)), (1, .int x1), (2, .long x2), (4, .long x4), (7, .int x7_3), (8, .int x8_8), (9, .long y9_9), (11, .long y11_10), (13, .int x13_15), (14, .long y14_16), (16, .long y16_17), (18, .int x18_22)]) (by decide) rfl ?_
                                refine g_iinc (pc' := 245) O ⟨dX11_chosen_242, rfl⟩ (q := 12) (v := x18_22 + (1 : Int32)) (lv' := [(18, .int (x18_22 + (1 : Int32))), (6, .int x6_21), (0, .ref (ad 0)), (1, .int x1), (2, .long x2), (4, .long x4), (7, .int x7_3), (8, .int x8_8), (9, .long y9_9), (11, .long y11_10), (13, .int x13_15), (14, .long y14_16), (16, .long y16_17)]) rfl rfl (by decide) rfl ?_
                                refine g_goto (pc' := 248) O ⟨dX11_chosen_245, rfl⟩ (tgt := 191) (by decide) ?_
                                refine g_sub (lv' := [(0, .ref (ad 0)), (1, .int x1), (2, .long x2), (4, .long x4), (6, .int x6_21), (7, .int x7_3), (8, .int x8_8), (9, .long y9_9), (11, .long y11_10), (13, .int x13_15), (14, .long y14_16), (16, .long y16_17), (18, .int (x18_22 + (1 : Int32)))]) [2, 3, 4, 5, 1, 6, 7, 8, 9, 10, 11, 12, 0] rfl ?_
                                exact ih191 _ _ E
                              · refine g_lload (pc' := 220) O ⟨dX11_chosen_218, rfl⟩ (q := 11) rfl ?_
                                refine g_aload_n (pc' := 221) O ⟨dX11_chosen_220, rfl⟩ (q := 0) rfl rfl ?_
                                refine gf_M_RX11_57_0 ad cy (pc' := 224) O ⟨dX11_chosen_221, rfl⟩ ?_
                                refine g_iload (pc' := 226) O ⟨dX11_chosen_224, rfl⟩ (q := 12) rfl ?_
                                refine g_lald (pc' := 227) O ⟨dX11_chosen_226, rfl⟩ (wM_16 ad cy h) E (fun E => ?_)
                                refine g_lor (pc' := 228) O ⟨dX11_chosen_227, rfl⟩ ?_
                                refine g_lload (pc' := 230) O ⟨dX11_chosen_228, rfl⟩ (q := 3) rfl ?_
                                refine g_lcmp (pc' := 231) O ⟨dX11_chosen_230, rfl⟩ ?_
                                refine g_if_ne (pc' := 234) O ⟨dX11_chosen_231, rfl⟩ E (tgt := 238) (by decide) (fun E => ?_) (fun E => ?_)
                                · refine g_iload (pc' := 240) O ⟨dX11_chosen_238, rfl⟩ (q := 4) rfl ?_
                                  refine g_istore (pc' := 242) O ⟨dX11_chosen_240, rfl⟩ (lv' := [(6, .int x6_21), (0, .ref (ad 0)), (1, .int x1), (2, .long x2), (4, .long x4), (7, .int x7_3), (8, .int x8_8), (9, .long y9_9), (11, .long y11_10), (13, .int x13_15), (14, .long y14_16), (16, .long y16_17), (18, .int x18_22)]) (by decide) rfl ?_
                                  refine g_iinc (pc' := 245) O ⟨dX11_chosen_242, rfl⟩ (q := 12) (v := x18_22 + (1 : Int32)) (lv' := [(18, .int (x18_22 + (1 : Int32))), (6, .int x6_21), (0, .ref (ad 0)), (1, .int x1), (2, .long x2), (4, .long x4), (7, .int x7_3), (8, .int x8_8), (9, .long y9_9), (11, .long y11_10), (13, .int x13_15), (14, .long y14_16), (16, .long y16_17)]) rfl rfl (by decide) rfl ?_
                                  refine g_goto (pc' := 248) O ⟨dX11_chosen_245, rfl⟩ (tgt := 191) (by decide) ?_
                                  refine g_sub (lv' := [(0, .ref (ad 0)), (1, .int x1), (2, .long x2), (4, .long x4), (6, .int x6_21), (7, .int x7_3), (8, .int x8_8), (9, .long y9_9), (11, .long y11_10), (13, .int x13_15), (14, .long y14_16), (16, .long y16_17), (18, .int (x18_22 + (1 : Int32)))]) [2, 3, 4, 5, 1, 6, 7, 8, 9, 10, 11, 12, 0] rfl ?_
                                  exact ih191 _ _ E
                                · refine g_iconst (pc' := 235) O ⟨dX11_chosen_234, rfl⟩ (v := (4 : Int32)) rfl ?_
                                  refine g_goto (pc' := 238) O ⟨dX11_chosen_235, rfl⟩ (tgt := 240) (by decide) ?_
                                  refine g_istore (pc' := 242) O ⟨dX11_chosen_240, rfl⟩ (lv' := [(6, .int (4 : Int32)), (0, .ref (ad 0)), (1, .int x1), (2, .long x2), (4, .long x4), (7, .int x7_3), (8, .int x8_8), (9, .long y9_9), (11, .long y11_10), (13, .int x13_15), (14, .long y14_16), (16, .long y16_17), (18, .int x18_22)]) (by decide) rfl ?_
                                  refine g_iinc (pc' := 245) O ⟨dX11_chosen_242, rfl⟩ (q := 12) (v := x18_22 + (1 : Int32)) (lv' := [(18, .int (x18_22 + (1 : Int32))), (6, .int (4 : Int32)), (0, .ref (ad 0)), (1, .int x1), (2, .long x2), (4, .long x4), (7, .int x7_3), (8, .int x8_8), (9, .long y9_9), (11, .long y11_10), (13, .int x13_15), (14, .long y14_16), (16, .long y16_17)]) rfl rfl (by decide) rfl ?_
                                  refine g_goto (pc' := 248) O ⟨dX11_chosen_245, rfl⟩ (tgt := 191) (by decide) ?_
                                  refine g_sub (lv' := [(0, .ref (ad 0)), (1, .int x1), (2, .long x2), (4, .long x4), (6, .int (4 : Int32)), (7, .int x7_3), (8, .int x8_8), (9, .long y9_9), (11, .long y11_10), (13, .int x13_15), (14, .long y14_16), (16, .long y16_17), (18, .int (x18_22 + (1 : Int32)))]) [2, 3, 4, 5, 1, 6, 7, 8, 9, 10, 11, 12, 0] rfl ?_
                                  exact ih191 _ _ E
                      · intro k183 hk183 E
                        refine jn0_of (P := G l D X 19 (WM ad cy) 0 0 h 181 [(0, .ref (ad 0)), (1, .int x1), (2, .long x2), (4, .long x4), (6, .int x6_14), (7, .int x7_3), (8, .int x8_8), (9, .long y9_9), (11, .long y11_10), (13, .int x13_15), (14, .long y14_16), (16, .long y16_17)] []) E ?_ ?_
                        · intro E
                          show G l D X 19 (WM ad cy) 0 0 h 181 [(0, .ref (ad 0)), (1, .int x1), (2, .long x2), (4, .long x4), (6, .int x6_14), (7, .int x7_3), (8, .int x8_8), (9, .long y9_9), (11, .long y11_10), (13, .int x13_15), (14, .long y14_16), (16, .long y16_17)] []
                          refine g_iload (pc' := 183) O ⟨dX11_chosen_181, rfl⟩ (q := 4) rfl ?_
                          refine g_sub (lv' := [(0, .ref (ad 0)), (1, .int x1), (2, .long x2), (4, .long x4), (7, .int x7_3), (8, .int x8_8), (9, .long y9_9), (11, .long y11_10), (13, .int x13_15), (14, .long y14_16), (16, .long y16_17)]) [0, 1, 2, 3, 5, 6, 7, 8, 9, 10, 11] rfl ?_
                          exact hk183 _ E
                        · intro k181 hk181 E
                          refine g_if_ne (pc' := 169) O ⟨dX11_chosen_166, rfl⟩ E (tgt := 181) (by decide) (fun E => ?_) (fun E => ?_)
                          · refine g_sub (lv' := [(0, .ref (ad 0)), (1, .int x1), (2, .long x2), (4, .long x4), (6, .int x6_14), (7, .int x7_3), (8, .int x8_8), (9, .long y9_9), (11, .long y11_10), (13, .int x13_15), (14, .long y14_16), (16, .long y16_17)]) [2, 3, 4, 5, 6, 7, 8, 9, 10, 11, 1, 0] rfl ?_
                            exact hk181 E
                          · refine g_lload (pc' := 171) O ⟨dX11_chosen_169, rfl⟩ (q := 0) rfl ?_
                            refine g_lload (pc' := 173) O ⟨dX11_chosen_171, rfl⟩ (q := 5) rfl ?_
                            refine g_lcmp (pc' := 174) O ⟨dX11_chosen_173, rfl⟩ ?_
                            refine g_if_ne (pc' := 177) O ⟨dX11_chosen_174, rfl⟩ E (tgt := 181) (by decide) (fun E => ?_) (fun E => ?_)
                            · refine g_sub (lv' := [(0, .ref (ad 0)), (1, .int x1), (2, .long x2), (4, .long x4), (6, .int x6_14), (7, .int x7_3), (8, .int x8_8), (9, .long y9_9), (11, .long y11_10), (13, .int x13_15), (14, .long y14_16), (16, .long y16_17)]) [2, 3, 4, 5, 6, 7, 8, 9, 10, 11, 1, 0] rfl ?_
                              exact hk181 E
                            · refine g_iconst (pc' := 178) O ⟨dX11_chosen_177, rfl⟩ (v := (3 : Int32)) rfl ?_
                              refine g_goto (pc' := 181) O ⟨dX11_chosen_178, rfl⟩ (tgt := 183) (by decide) ?_
                              refine g_sub (lv' := [(0, .ref (ad 0)), (1, .int x1), (2, .long x2), (4, .long x4), (7, .int x7_3), (8, .int x8_8), (9, .long y9_9), (11, .long y11_10), (13, .int x13_15), (14, .long y14_16), (16, .long y16_17)]) [2, 3, 4, 5, 7, 8, 9, 10, 11, 1, 0] rfl ?_
                              exact hk183 _ E
              · intro k118 hk118 E
                refine jn0_of (P := G l D X 19 (WM ad cy) 0 0 h 116 [(0, .ref (ad 0)), (1, .int x1), (2, .long x2), (4, .long x4), (6, .int x6_7), (7, .int x7_3), (8, .int x8_8), (9, .long y9_9), (11, .long y11_10)] []) E ?_ ?_
                · intro E
                  show G l D X 19 (WM ad cy) 0 0 h 116 [(0, .ref (ad 0)), (1, .int x1), (2, .long x2), (4, .long x4), (6, .int x6_7), (7, .int x7_3), (8, .int x8_8), (9, .long y9_9), (11, .long y11_10)] []
                  refine g_iload (pc' := 118) O ⟨dX11_chosen_116, rfl⟩ (q := 4) rfl ?_
                  refine g_sub (lv' := [(0, .ref (ad 0)), (1, .int x1), (2, .long x2), (4, .long x4), (7, .int x7_3), (8, .int x8_8), (9, .long y9_9), (11, .long y11_10)]) [0, 1, 2, 3, 5, 6, 7, 8] rfl ?_
                  exact hk118 _ E
                · intro k116 hk116 E
                  refine g_if_ne (pc' := 104) O ⟨dX11_chosen_101, rfl⟩ E (tgt := 116) (by decide) (fun E => ?_) (fun E => ?_)
                  · refine g_sub (lv' := [(0, .ref (ad 0)), (1, .int x1), (2, .long x2), (4, .long x4), (6, .int x6_7), (7, .int x7_3), (8, .int x8_8), (9, .long y9_9), (11, .long y11_10)]) [2, 3, 4, 5, 6, 7, 8, 1, 0] rfl ?_
                    exact hk116 E
                  · refine g_lload (pc' := 106) O ⟨dX11_chosen_104, rfl⟩ (q := 0) rfl ?_
                    refine g_lload (pc' := 108) O ⟨dX11_chosen_106, rfl⟩ (q := 5) rfl ?_
                    refine g_lcmp (pc' := 109) O ⟨dX11_chosen_108, rfl⟩ ?_
                    refine g_if_ne (pc' := 112) O ⟨dX11_chosen_109, rfl⟩ E (tgt := 116) (by decide) (fun E => ?_) (fun E => ?_)
                    · refine g_sub (lv' := [(0, .ref (ad 0)), (1, .int x1), (2, .long x2), (4, .long x4), (6, .int x6_7), (7, .int x7_3), (8, .int x8_8), (9, .long y9_9), (11, .long y11_10)]) [2, 3, 4, 5, 6, 7, 8, 1, 0] rfl ?_
                      exact hk116 E
                    · refine g_iconst (pc' := 113) O ⟨dX11_chosen_112, rfl⟩ (v := (2 : Int32)) rfl ?_
                      refine g_goto (pc' := 116) O ⟨dX11_chosen_113, rfl⟩ (tgt := 118) (by decide) ?_
                      refine g_sub (lv' := [(0, .ref (ad 0)), (1, .int x1), (2, .long x2), (4, .long x4), (7, .int x7_3), (8, .int x8_8), (9, .long y9_9), (11, .long y11_10)]) [2, 3, 4, 5, 7, 8, 1, 0] rfl ?_
                      exact hk118 _ E
      · intro k43 hk43 E
        refine jn0_of (P := G l D X 19 (WM ad cy) 0 0 h 41 [(0, .ref (ad 0)), (1, .int x1), (2, .long x2), (4, .long x4), (6, .int x6_2), (7, .int x7_3)] []) E ?_ ?_
        · intro E
          show G l D X 19 (WM ad cy) 0 0 h 41 [(0, .ref (ad 0)), (1, .int x1), (2, .long x2), (4, .long x4), (6, .int x6_2), (7, .int x7_3)] []
          refine g_iload (pc' := 43) O ⟨dX11_chosen_41, rfl⟩ (q := 4) rfl ?_
          refine g_sub (lv' := [(0, .ref (ad 0)), (1, .int x1), (2, .long x2), (4, .long x4), (7, .int x7_3)]) [0, 1, 2, 3, 5] rfl ?_
          exact hk43 _ E
        · intro k41 hk41 E
          refine g_if_ne (pc' := 24) O ⟨dX11_chosen_21, rfl⟩ E (tgt := 41) (by decide) (fun E => ?_) (fun E => ?_)
          · exact hk41 E
          · refine g_aload_n (pc' := 25) O ⟨dX11_chosen_24, rfl⟩ (q := 0) rfl rfl ?_
            refine gf_M_RX11_57_0 ad cy (pc' := 28) O ⟨dX11_chosen_25, rfl⟩ ?_
            refine g_iload (pc' := 30) O ⟨dX11_chosen_28, rfl⟩ (q := 5) rfl ?_
            refine g_lald (pc' := 31) O ⟨dX11_chosen_30, rfl⟩ (wM_16 ad cy h) E (fun E => ?_)
            refine g_lload (pc' := 33) O ⟨dX11_chosen_31, rfl⟩ (q := 3) rfl ?_
            refine g_lcmp (pc' := 34) O ⟨dX11_chosen_33, rfl⟩ ?_
            refine g_if_ne (pc' := 37) O ⟨dX11_chosen_34, rfl⟩ E (tgt := 41) (by decide) (fun E => ?_) (fun E => ?_)
            · exact hk41 E
            · refine g_iconst (pc' := 38) O ⟨dX11_chosen_37, rfl⟩ (v := (1 : Int32)) rfl ?_
              refine g_goto (pc' := 41) O ⟨dX11_chosen_38, rfl⟩ (tgt := 43) (by decide) ?_
              refine g_sub (lv' := [(0, .ref (ad 0)), (1, .int x1), (2, .long x2), (4, .long x4), (7, .int x7_3)]) [0, 1, 2, 3, 5] rfl ?_
              exact hk43 _ E
set_option maxRecDepth 100000 in
set_option maxHeartbeats 4000000 in
theorem t_X11_tests (l : Launch) (D : va_G) (ad : Nat → Nat) (cy : Nat → ClassId) {h : Hp}  {o : Int32 × Hp} (E : f_X11_tests h = some o) : CtI l D cy (WM ad cy) yX11_tests cX11_tests 12 .int 3 75 [.ref (ad 0)] h o.1 o.2 := by
  refine sI (own := RX11) rfl rfl (Nat.le_of_ble_eq_true rfl) (fun X O hret => ?_)
  show G l D X 12 (WM ad cy) 0 0 h 0 [(0, .ref (ad 0))] []
  unfold f_X11_tests at E
  refine g_aload_n (pc' := 1) O ⟨dX11_tests_0, rfl⟩ (q := 0) rfl rfl ?_
  refine g_iconst (pc' := 2) O ⟨dX11_tests_1, rfl⟩ (v := (0 : Int32)) rfl ?_
  refine gp_M_RX11_70_0 ad cy (pc' := 5) O ⟨dX11_tests_2, rfl⟩ ?_
  refine g_nmh E (fun h_1 E => ?_)
  refine g_iconst (pc' := 6) O ⟨dX11_tests_5, rfl⟩ (v := (1 : Int32)) rfl ?_
  refine g_aload_n (pc' := 7) O ⟨dX11_tests_6, rfl⟩ (q := 0) rfl rfl ?_
  refine gf_M_RX11_74_0 ad cy (pc' := 10) O ⟨dX11_tests_7, rfl⟩ ?_
  refine g_ishl (pc' := 11) O ⟨dX11_tests_10, rfl⟩ ?_
  refine g_nm E (fun y1_2 E => ?_)
  refine g_istore_n (pc' := 12) O ⟨dX11_tests_11, rfl⟩ (lv' := [(1, .int y1_2), (0, .ref (ad 0))]) rfl (by decide) rfl ?_
  refine g_lconst (pc' := 13) O ⟨dX11_tests_12, rfl⟩ (v := (0 : Int64)) rfl ?_
  refine g_lstore_n (pc' := 14) O ⟨dX11_tests_13, rfl⟩ (lv' := [(2, .long (0 : Int64)), (1, .int y1_2), (0, .ref (ad 0))]) rfl (by decide) rfl ?_
  refine g_lconst (pc' := 15) O ⟨dX11_tests_14, rfl⟩ (v := (0 : Int64)) rfl ?_
  refine g_lstore (pc' := 17) O ⟨dX11_tests_15, rfl⟩ (lv' := [(4, .long (0 : Int64)), (2, .long (0 : Int64)), (1, .int y1_2), (0, .ref (ad 0))]) (by decide) rfl ?_
  refine g_iconst (pc' := 18) O ⟨dX11_tests_17, rfl⟩ (v := (0 : Int32)) rfl ?_
  refine g_istore (pc' := 20) O ⟨dX11_tests_18, rfl⟩ (lv' := [(6, .int (0 : Int32)), (4, .long (0 : Int64)), (2, .long (0 : Int64)), (1, .int y1_2), (0, .ref (ad 0))]) (by decide) rfl ?_
  refine jn1_of (P := fun (h_3 : Hp) => G l D X 12 (WM ad cy) 0 0 h_3 49 [(0, .ref (ad 0)), (1, .int y1_2), (2, .long (0 : Int64)), (4, .long (0 : Int64))] []) E ?_ ?_
  · intro h_3 E
    show G l D X 12 (WM ad cy) 0 0 h_3 49 [(0, .ref (ad 0)), (1, .int y1_2), (2, .long (0 : Int64)), (4, .long (0 : Int64))] []
    refine g_iconst (pc' := 50) O ⟨dX11_tests_49, rfl⟩ (v := (0 : Int32)) rfl ?_
    refine g_istore (pc' := 52) O ⟨dX11_tests_50, rfl⟩ (lv' := [(6, .int (0 : Int32)), (0, .ref (ad 0)), (1, .int y1_2), (2, .long (0 : Int64)), (4, .long (0 : Int64))]) (by decide) rfl ?_
    refine jn1_of (P := fun (h_4 : Hp) => G l D X 12 (WM ad cy) 0 0 h_4 162 [(0, .ref (ad 0)), (1, .int y1_2), (2, .long (0 : Int64)), (4, .long (0 : Int64))] []) E ?_ ?_
    · intro h_4 E
      show G l D X 12 (WM ad cy) 0 0 h_4 162 [(0, .ref (ad 0)), (1, .int y1_2), (2, .long (0 : Int64)), (4, .long (0 : Int64))] []
      refine g_iconst (pc' := 163) O ⟨dX11_tests_162, rfl⟩ (v := (0 : Int32)) rfl ?_
      refine g_istore (pc' := 165) O ⟨dX11_tests_163, rfl⟩ (lv' := [(6, .int (0 : Int32)), (0, .ref (ad 0)), (1, .int y1_2), (2, .long (0 : Int64)), (4, .long (0 : Int64))]) (by decide) rfl ?_
      refine jn2_of (P := fun (x2_5 : Int64) (x4_6 : Int64) => G l D X 12 (WM ad cy) 0 0 h_4 199 [(0, .ref (ad 0)), (1, .int y1_2), (2, .long x2_5), (4, .long x4_6)] []) E ?_ ?_
      · intro x2_5 x4_6 E
        show G l D X 12 (WM ad cy) 0 0 h_4 199 [(0, .ref (ad 0)), (1, .int y1_2), (2, .long x2_5), (4, .long x4_6)] []
        refine g_lload_n (pc' := 200) O ⟨dX11_tests_199, rfl⟩ (q := 2) rfl rfl ?_
        refine g_lconst (pc' := 201) O ⟨dX11_tests_200, rfl⟩ (v := (0 : Int64)) rfl ?_
        refine g_lcmp (pc' := 202) O ⟨dX11_tests_201, rfl⟩ ?_
        refine jn0_of (P := G l D X 12 (WM ad cy) 0 0 h_4 216 [(0, .ref (ad 0)), (1, .int y1_2), (2, .long x2_5), (4, .long x4_6)] []) E ?_ ?_
        · intro E
          show G l D X 12 (WM ad cy) 0 0 h_4 216 [(0, .ref (ad 0)), (1, .int y1_2), (2, .long x2_5), (4, .long x4_6)] []
          refine g_aload_n (pc' := 217) O ⟨dX11_tests_216, rfl⟩ (q := 0) rfl rfl ?_
          refine g_iload_n (pc' := 218) O ⟨dX11_tests_217, rfl⟩ (q := 1) rfl rfl ?_
          refine g_lload_n (pc' := 219) O ⟨dX11_tests_218, rfl⟩ (q := 2) rfl rfl ?_
          refine g_lload (pc' := 221) O ⟨dX11_tests_219, rfl⟩ (q := 3) rfl ?_
          obtain ⟨r_7, c_8, E⟩ := bd_of E
          refine g_Vi (pc' := 224) O ⟨dX11_tests_221, rfl⟩ (y := yX11_chosen) (As := [.int y1_2, .long x2_5, .long x4_6]) (st := []) (t_X11_chosen l D ad cy (h := h_4) c_8) kw_1405 kw_70 kw_1402 kw_1404 kw_49 rfl (wM_0 ad cy h_4) hd_X11_chosen ⟨Nat.le_of_ble_eq_true rfl, Nat.le_of_ble_eq_true rfl⟩ ⟨Nat.le_of_ble_eq_true rfl, Nat.le_of_ble_eq_true rfl⟩ rfl (Nat.le_of_ble_eq_true rfl) ?_
          cases E
          exact hret _ _ _ ⟨dX11_tests_224, rfl⟩ rfl
        · intro k216 hk216 E
          refine g_if_ne (pc' := 205) O ⟨dX11_tests_202, rfl⟩ E (tgt := 216) (by decide) (fun E => ?_) (fun E => ?_)
          · exact hk216 E
          · refine g_lload (pc' := 207) O ⟨dX11_tests_205, rfl⟩ (q := 3) rfl ?_
            refine g_lconst (pc' := 208) O ⟨dX11_tests_207, rfl⟩ (v := (0 : Int64)) rfl ?_
            refine g_lcmp (pc' := 209) O ⟨dX11_tests_208, rfl⟩ ?_
            refine g_if_ne (pc' := 212) O ⟨dX11_tests_209, rfl⟩ E (tgt := 216) (by decide) (fun E => ?_) (fun E => ?_)
            · exact hk216 E
            · refine g_iconst (pc' := 213) O ⟨dX11_tests_212, rfl⟩ (v := (0 : Int32)) rfl ?_
              refine g_goto (pc' := 216) O ⟨dX11_tests_213, rfl⟩ (tgt := 224) (by decide) ?_
              cases E
              exact hret _ _ _ ⟨dX11_tests_224, rfl⟩ rfl
      · intro k199 hk199 E
        refine g_sub (lv' := [(0, .ref (ad 0)), (1, .int y1_2), (2, .long (0 : Int64)), (4, .long (0 : Int64)), (6, .int (0 : Int32))]) [1, 2, 3, 4, 0] rfl ?_
        refine fx3_of (P := fun (x2_9 : Int64) (x4_10 : Int64) (x6_11 : Int32) => G l D X 12 (WM ad cy) 0 0 h_4 165 [(0, .ref (ad 0)), (1, .int y1_2), (2, .long x2_9), (4, .long x4_10), (6, .int x6_11)] []) ?_ _ _ _ _ E
        intro self ih165 x2_9 x4_10 x6_11 E
        show G l D X 12 (WM ad cy) 0 0 h_4 165 [(0, .ref (ad 0)), (1, .int y1_2), (2, .long x2_9), (4, .long x4_10), (6, .int x6_11)] []
        unfold L_X11_tests_165 at E
        refine g_iload (pc' := 167) O ⟨dX11_tests_165, rfl⟩ (q := 4) rfl ?_
        refine g_iload_n (pc' := 168) O ⟨dX11_tests_167, rfl⟩ (q := 1) rfl rfl ?_
        refine g_icmp_ge (pc' := 171) O ⟨dX11_tests_168, rfl⟩ E (tgt := 199) (by decide) (fun E => ?_) (fun E => ?_)
        · refine g_sub (lv' := [(0, .ref (ad 0)), (1, .int y1_2), (2, .long x2_9), (4, .long x4_10)]) [0, 1, 2, 3] rfl ?_
          exact hk199 _ _ E
        · refine g_lload_n (pc' := 172) O ⟨dX11_tests_171, rfl⟩ (q := 2) rfl rfl ?_
          refine g_aload_n (pc' := 173) O ⟨dX11_tests_172, rfl⟩ (q := 0) rfl rfl ?_
          refine gf_M_RX11_53_0 ad cy (pc' := 176) O ⟨dX11_tests_173, rfl⟩ ?_
          refine g_iload (pc' := 178) O ⟨dX11_tests_176, rfl⟩ (q := 4) rfl ?_
          refine g_lald (pc' := 179) O ⟨dX11_tests_178, rfl⟩ (wM_15 ad cy h_4) E (fun E => ?_)
          refine g_lor (pc' := 180) O ⟨dX11_tests_179, rfl⟩ ?_
          refine g_nmL E (fun y2_12 E => ?_)
          refine g_lstore_n (pc' := 181) O ⟨dX11_tests_180, rfl⟩ (lv' := [(2, .long y2_12), (0, .ref (ad 0)), (1, .int y1_2), (4, .long x4_10), (6, .int x6_11)]) rfl (by decide) rfl ?_
          refine g_lload (pc' := 183) O ⟨dX11_tests_181, rfl⟩ (q := 3) rfl ?_
          refine g_aload_n (pc' := 184) O ⟨dX11_tests_183, rfl⟩ (q := 1) rfl rfl ?_
          refine gf_M_RX11_57_0 ad cy (pc' := 187) O ⟨dX11_tests_184, rfl⟩ ?_
          refine g_iload (pc' := 189) O ⟨dX11_tests_187, rfl⟩ (q := 4) rfl ?_
          refine g_lald (pc' := 190) O ⟨dX11_tests_189, rfl⟩ (wM_16 ad cy h_4) E (fun E => ?_)
          refine g_lor (pc' := 191) O ⟨dX11_tests_190, rfl⟩ ?_
          refine g_nmL E (fun y4_13 E => ?_)
          refine g_lstore (pc' := 193) O ⟨dX11_tests_191, rfl⟩ (lv' := [(4, .long y4_13), (2, .long y2_12), (0, .ref (ad 0)), (1, .int y1_2), (6, .int x6_11)]) (by decide) rfl ?_
          refine g_iinc (pc' := 196) O ⟨dX11_tests_193, rfl⟩ (q := 4) (v := x6_11 + (1 : Int32)) (lv' := [(6, .int (x6_11 + (1 : Int32))), (4, .long y4_13), (2, .long y2_12), (0, .ref (ad 0)), (1, .int y1_2)]) rfl rfl (by decide) rfl ?_
          refine g_goto (pc' := 199) O ⟨dX11_tests_196, rfl⟩ (tgt := 165) (by decide) ?_
          refine g_sub (lv' := [(0, .ref (ad 0)), (1, .int y1_2), (2, .long y2_12), (4, .long y4_13), (6, .int (x6_11 + (1 : Int32)))]) [3, 4, 2, 1, 0] rfl ?_
          exact ih165 _ _ _ E
    · intro k162 hk162 E
      refine g_sub (lv' := [(0, .ref (ad 0)), (1, .int y1_2), (2, .long (0 : Int64)), (4, .long (0 : Int64)), (6, .int (0 : Int32))]) [1, 2, 3, 4, 0] rfl ?_
      refine fx2_of (P := fun (x6_14 : Int32) (h_15 : Hp) => G l D X 12 (WM ad cy) 0 0 h_15 52 [(0, .ref (ad 0)), (1, .int y1_2), (2, .long (0 : Int64)), (4, .long (0 : Int64)), (6, .int x6_14)] []) ?_ _ _ _ E
      intro self ih52 x6_14 h_15 E
      show G l D X 12 (WM ad cy) 0 0 h_15 52 [(0, .ref (ad 0)), (1, .int y1_2), (2, .long (0 : Int64)), (4, .long (0 : Int64)), (6, .int x6_14)] []
      unfold L_X11_tests_52 at E
      refine g_iload (pc' := 54) O ⟨dX11_tests_52, rfl⟩ (q := 4) rfl ?_
      refine g_iconst (pc' := 55) O ⟨dX11_tests_54, rfl⟩ (v := (3 : Int32)) rfl ?_
      refine g_aload_n (pc' := 56) O ⟨dX11_tests_55, rfl⟩ (q := 0) rfl rfl ?_
      refine gf_M_RX11_81_0 ad cy (pc' := 59) O ⟨dX11_tests_56, rfl⟩ ?_
      refine g_imul (pc' := 60) O ⟨dX11_tests_59, rfl⟩ ?_
      refine g_icmp_ge (pc' := 63) O ⟨dX11_tests_60, rfl⟩ E (tgt := 162) (by decide) (fun E => ?_) (fun E => ?_)
      · refine g_sub (lv' := [(0, .ref (ad 0)), (1, .int y1_2), (2, .long (0 : Int64)), (4, .long (0 : Int64))]) [0, 1, 2, 3] rfl ?_
        exact hk162 _ E
      · refine g_aload_n (pc' := 64) O ⟨dX11_tests_63, rfl⟩ (q := 0) rfl rfl ?_
        refine g_iload (pc' := 66) O ⟨dX11_tests_64, rfl⟩ (q := 4) rfl ?_
        refine g_iconst (pc' := 67) O ⟨dX11_tests_66, rfl⟩ (v := (3 : Int32)) rfl ?_
        refine g_idiv (pc' := 68) O ⟨dX11_tests_67, rfl⟩ (by decide) ?_
        refine g_iload (pc' := 70) O ⟨dX11_tests_68, rfl⟩ (q := 4) rfl ?_
        refine g_iconst (pc' := 71) O ⟨dX11_tests_70, rfl⟩ (v := (3 : Int32)) rfl ?_
        refine g_irem (pc' := 72) O ⟨dX11_tests_71, rfl⟩ (by decide) ?_
        obtain ⟨r_16, c_17, E⟩ := bd_of E
        refine g_Vl (pc' := 75) O ⟨dX11_tests_72, rfl⟩ (y := yX11_tellers) (As := [.int (x6_14 / (3 : Int32)), .int (irm x6_14 (3 : Int32))]) (st := []) (t_X11_tellers l D ad cy (h := h_15) c_17) kw_1393 kw_70 kw_1390 kw_1392 kw_48 rfl (wM_0 ad cy h_15) hd_X11_tellers ⟨Nat.le_of_ble_eq_true rfl, Nat.le_of_ble_eq_true rfl⟩ ⟨Nat.le_of_ble_eq_true rfl, Nat.le_of_ble_eq_true rfl⟩ rfl (Nat.le_of_ble_eq_true rfl) ?_
        refine g_lstore (pc' := 77) O ⟨dX11_tests_75, rfl⟩ (lv' := [(7, .long r_16), (0, .ref (ad 0)), (1, .int y1_2), (2, .long (0 : Int64)), (4, .long (0 : Int64)), (6, .int x6_14)]) (by decide) rfl ?_
        refine g_iconst (pc' := 78) O ⟨dX11_tests_77, rfl⟩ (v := (0 : Int32)) rfl ?_
        refine g_istore (pc' := 80) O ⟨dX11_tests_78, rfl⟩ (lv' := [(9, .int (0 : Int32)), (7, .long r_16), (0, .ref (ad 0)), (1, .int y1_2), (2, .long (0 : Int64)), (4, .long (0 : Int64)), (6, .int x6_14)]) (by decide) rfl ?_
        refine jn1_of (P := fun (h_18 : Hp) => G l D X 12 (WM ad cy) 0 0 h_18 156 [(0, .ref (ad 0)), (1, .int y1_2), (2, .long (0 : Int64)), (4, .long (0 : Int64)), (6, .int x6_14)] []) E ?_ ?_
        · intro h_18 E
          show G l D X 12 (WM ad cy) 0 0 h_18 156 [(0, .ref (ad 0)), (1, .int y1_2), (2, .long (0 : Int64)), (4, .long (0 : Int64)), (6, .int x6_14)] []
          refine g_iinc (pc' := 159) O ⟨dX11_tests_156, rfl⟩ (q := 4) (v := x6_14 + (1 : Int32)) (lv' := [(6, .int (x6_14 + (1 : Int32))), (0, .ref (ad 0)), (1, .int y1_2), (2, .long (0 : Int64)), (4, .long (0 : Int64))]) rfl rfl (by decide) rfl ?_
          refine g_goto (pc' := 162) O ⟨dX11_tests_159, rfl⟩ (tgt := 52) (by decide) ?_
          refine g_sub (lv' := [(0, .ref (ad 0)), (1, .int y1_2), (2, .long (0 : Int64)), (4, .long (0 : Int64)), (6, .int (x6_14 + (1 : Int32)))]) [1, 2, 3, 4, 0] rfl ?_
          exact ih52 _ _ E
        · intro k156 hk156 E
          refine g_sub (lv' := [(0, .ref (ad 0)), (1, .int y1_2), (2, .long (0 : Int64)), (4, .long (0 : Int64)), (6, .int x6_14), (7, .long r_16), (9, .int (0 : Int32))]) [2, 3, 4, 5, 6, 1, 0] rfl ?_
          refine fx2_of (P := fun (x9_19 : Int32) (h_20 : Hp) => G l D X 12 (WM ad cy) 0 0 h_20 80 [(0, .ref (ad 0)), (1, .int y1_2), (2, .long (0 : Int64)), (4, .long (0 : Int64)), (6, .int x6_14), (7, .long r_16), (9, .int x9_19)] []) ?_ _ _ _ E
          intro self ih80 x9_19 h_20 E
          show G l D X 12 (WM ad cy) 0 0 h_20 80 [(0, .ref (ad 0)), (1, .int y1_2), (2, .long (0 : Int64)), (4, .long (0 : Int64)), (6, .int x6_14), (7, .long r_16), (9, .int x9_19)] []
          unfold L_X11_tests_80 at E
          refine g_iload (pc' := 82) O ⟨dX11_tests_80, rfl⟩ (q := 6) rfl ?_
          refine g_iload_n (pc' := 83) O ⟨dX11_tests_82, rfl⟩ (q := 1) rfl rfl ?_
          refine g_icmp_ge (pc' := 86) O ⟨dX11_tests_83, rfl⟩ E (tgt := 156) (by decide) (fun E => ?_) (fun E => ?_)
          · refine g_sub (lv' := [(0, .ref (ad 0)), (1, .int y1_2), (2, .long (0 : Int64)), (4, .long (0 : Int64)), (6, .int x6_14)]) [0, 1, 2, 3, 4] rfl ?_
            exact hk156 _ E
          · refine g_lload (pc' := 88) O ⟨dX11_tests_86, rfl⟩ (q := 5) rfl ?_
            refine g_iload (pc' := 90) O ⟨dX11_tests_88, rfl⟩ (q := 6) rfl ?_
            refine g_lshr (pc' := 91) O ⟨dX11_tests_90, rfl⟩ ?_
            refine g_lconst (pc' := 92) O ⟨dX11_tests_91, rfl⟩ (v := (1 : Int64)) rfl ?_
            refine g_land (pc' := 93) O ⟨dX11_tests_92, rfl⟩ ?_
            refine g_nmL E (fun y10_21 E => ?_)
            refine g_lstore (pc' := 95) O ⟨dX11_tests_93, rfl⟩ (lv' := [(10, .long y10_21), (0, .ref (ad 0)), (1, .int y1_2), (2, .long (0 : Int64)), (4, .long (0 : Int64)), (6, .int x6_14), (7, .long r_16), (9, .int x9_19)]) (by decide) rfl ?_
            refine g_aload_n (pc' := 96) O ⟨dX11_tests_95, rfl⟩ (q := 1) rfl rfl ?_
            refine gf_M_RX11_53_0 ad cy (pc' := 99) O ⟨dX11_tests_96, rfl⟩ ?_
            refine g_iload (pc' := 101) O ⟨dX11_tests_99, rfl⟩ (q := 7) rfl ?_
            refine g_dup2 (pc' := 102) O ⟨dX11_tests_101, rfl⟩ rfl rfl ?_
            refine g_lald (pc' := 103) O ⟨dX11_tests_102, rfl⟩ (wM_15 ad cy h_20) E (fun E => ?_)
            refine g_iload (pc' := 105) O ⟨dX11_tests_103, rfl⟩ (q := 5) rfl ?_
            refine g_bipush (pc' := 107) O ⟨dX11_tests_105, rfl⟩ (v := (60 : Int32)) rfl ?_
            refine jn1_of (P := fun (z_22 : Int64) => G l D X 12 (WM ad cy) 0 0 h_20 119 [(0, .ref (ad 0)), (1, .int y1_2), (2, .long (0 : Int64)), (4, .long (0 : Int64)), (6, .int x6_14), (7, .long r_16), (9, .int x9_19), (10, .long y10_21)] [.long z_22, .long (h_20.2 15 x9_19.toNatClampNeg), .int x9_19, .ref (ad 15)]) E ?_ ?_
            · intro z_22 E
              show G l D X 12 (WM ad cy) 0 0 h_20 119 [(0, .ref (ad 0)), (1, .int y1_2), (2, .long (0 : Int64)), (4, .long (0 : Int64)), (6, .int x6_14), (7, .long r_16), (9, .int x9_19), (10, .long y10_21)] [.long z_22, .long (h_20.2 15 x9_19.toNatClampNeg), .int x9_19, .ref (ad 15)]
              refine g_lor (pc' := 120) O ⟨dX11_tests_119, rfl⟩ ?_
              refine g_last (pc' := 121) O ⟨dX11_tests_120, rfl⟩ (wM_15 ad cy h_20) (vM_15 ad cy h_20 _) E (fun E => ?_)
              refine g_nmh E (fun h_23 E => ?_)
              refine g_aload_n (pc' := 122) O ⟨dX11_tests_121, rfl⟩ (q := 0) rfl rfl ?_
              refine gf_M_RX11_57_0 ad cy (pc' := 125) O ⟨dX11_tests_122, rfl⟩ ?_
              refine g_iload (pc' := 127) O ⟨dX11_tests_125, rfl⟩ (q := 6) rfl ?_
              refine g_dup2 (pc' := 128) O ⟨dX11_tests_127, rfl⟩ rfl rfl ?_
              refine g_lald (pc' := 129) O ⟨dX11_tests_128, rfl⟩ (wM_16 ad cy h_23) E (fun E => ?_)
              refine g_iload (pc' := 131) O ⟨dX11_tests_129, rfl⟩ (q := 4) rfl ?_
              refine g_bipush (pc' := 133) O ⟨dX11_tests_131, rfl⟩ (v := (60 : Int32)) rfl ?_
              refine g_icmp_ge (pc' := 136) O ⟨dX11_tests_133, rfl⟩ E (tgt := 140) (by decide) (fun E => ?_) (fun E => ?_)
              · refine g_lload (pc' := 142) O ⟨dX11_tests_140, rfl⟩ (q := 7) rfl ?_
                refine g_iload (pc' := 144) O ⟨dX11_tests_142, rfl⟩ (q := 4) rfl ?_
                refine g_bipush (pc' := 146) O ⟨dX11_tests_144, rfl⟩ (v := (60 : Int32)) rfl ?_
                refine g_isub (pc' := 147) O ⟨dX11_tests_146, rfl⟩ ?_
                refine g_lshl (pc' := 148) O ⟨dX11_tests_147, rfl⟩ ?_
                refine g_lor (pc' := 149) O ⟨dX11_tests_148, rfl⟩ ?_
                refine g_last (pc' := 150) O ⟨dX11_tests_149, rfl⟩ (wM_16 ad cy h_23) (vM_16 ad cy h_23 _) E (fun E => ?_)
                refine g_nmh E (fun h_24 E => ?_)
                refine g_iinc (pc' := 153) O ⟨dX11_tests_150, rfl⟩ (q := 6) (v := x9_19 + (1 : Int32)) (lv' := [(9, .int (x9_19 + (1 : Int32))), (0, .ref (ad 0)), (1, .int y1_2), (2, .long (0 : Int64)), (4, .long (0 : Int64)), (6, .int x6_14), (7, .long r_16), (10, .long y10_21)]) rfl rfl (by decide) rfl ?_
                refine g_goto (pc' := 156) O ⟨dX11_tests_153, rfl⟩ (tgt := 80) (by decide) ?_
                refine g_sub (lv' := [(0, .ref (ad 0)), (1, .int y1_2), (2, .long (0 : Int64)), (4, .long (0 : Int64)), (6, .int x6_14), (7, .long r_16), (9, .int (x9_19 + (1 : Int32)))]) [1, 2, 3, 4, 5, 6, 0] rfl ?_
                exact ih80 _ _ E
              · refine g_lconst (pc' := 137) O ⟨dX11_tests_136, rfl⟩ (v := (0 : Int64)) rfl ?_
                refine g_goto (pc' := 140) O ⟨dX11_tests_137, rfl⟩ (tgt := 148) (by decide) ?_
                refine g_lor (pc' := 149) O ⟨dX11_tests_148, rfl⟩ ?_
                refine g_last (pc' := 150) O ⟨dX11_tests_149, rfl⟩ (wM_16 ad cy h_23) (vM_16 ad cy h_23 _) E (fun E => ?_)
                refine g_nmh E (fun h_25 E => ?_)
                refine g_iinc (pc' := 153) O ⟨dX11_tests_150, rfl⟩ (q := 6) (v := x9_19 + (1 : Int32)) (lv' := [(9, .int (x9_19 + (1 : Int32))), (0, .ref (ad 0)), (1, .int y1_2), (2, .long (0 : Int64)), (4, .long (0 : Int64)), (6, .int x6_14), (7, .long r_16), (10, .long y10_21)]) rfl rfl (by decide) rfl ?_
                refine g_goto (pc' := 156) O ⟨dX11_tests_153, rfl⟩ (tgt := 80) (by decide) ?_
                refine g_sub (lv' := [(0, .ref (ad 0)), (1, .int y1_2), (2, .long (0 : Int64)), (4, .long (0 : Int64)), (6, .int x6_14), (7, .long r_16), (9, .int (x9_19 + (1 : Int32)))]) [1, 2, 3, 4, 5, 6, 0] rfl ?_
                exact ih80 _ _ E
            · intro k119 hk119 E
              refine g_icmp_ge (pc' := 110) O ⟨dX11_tests_107, rfl⟩ E (tgt := 118) (by decide) (fun E => ?_) (fun E => ?_)
              · refine g_lconst (pc' := 119) O ⟨dX11_tests_118, rfl⟩ (v := (0 : Int64)) rfl ?_
                refine g_sub (lv' := [(0, .ref (ad 0)), (1, .int y1_2), (2, .long (0 : Int64)), (4, .long (0 : Int64)), (6, .int x6_14), (7, .long r_16), (9, .int x9_19), (10, .long y10_21)]) [1, 2, 3, 4, 5, 6, 7, 0] rfl ?_
                exact hk119 _ E
              · refine g_lload (pc' := 112) O ⟨dX11_tests_110, rfl⟩ (q := 0) rfl ?_
                refine g_iload (pc' := 114) O ⟨dX11_tests_112, rfl⟩ (q := 5) rfl ?_
                refine g_lshl (pc' := 115) O ⟨dX11_tests_114, rfl⟩ ?_
                refine g_goto (pc' := 118) O ⟨dX11_tests_115, rfl⟩ (tgt := 119) (by decide) ?_
                refine g_sub (lv' := [(0, .ref (ad 0)), (1, .int y1_2), (2, .long (0 : Int64)), (4, .long (0 : Int64)), (6, .int x6_14), (7, .long r_16), (9, .int x9_19), (10, .long y10_21)]) [1, 2, 3, 4, 5, 6, 7, 0] rfl ?_
                exact hk119 _ E
  · intro k49 hk49 E
    refine g_sub (lv' := [(0, .ref (ad 0)), (1, .int y1_2), (2, .long (0 : Int64)), (4, .long (0 : Int64)), (6, .int (0 : Int32))]) [4, 3, 2, 1, 0] rfl ?_
    refine fx2_of (P := fun (x6_26 : Int32) (h_27 : Hp) => G l D X 12 (WM ad cy) 0 0 h_27 20 [(0, .ref (ad 0)), (1, .int y1_2), (2, .long (0 : Int64)), (4, .long (0 : Int64)), (6, .int x6_26)] []) ?_ _ _ _ E
    intro self ih20 x6_26 h_27 E
    show G l D X 12 (WM ad cy) 0 0 h_27 20 [(0, .ref (ad 0)), (1, .int y1_2), (2, .long (0 : Int64)), (4, .long (0 : Int64)), (6, .int x6_26)] []
    unfold L_X11_tests_20 at E
    refine g_iload (pc' := 22) O ⟨dX11_tests_20, rfl⟩ (q := 4) rfl ?_
    refine g_bipush (pc' := 24) O ⟨dX11_tests_22, rfl⟩ (v := (64 : Int32)) rfl ?_
    refine g_icmp_ge (pc' := 27) O ⟨dX11_tests_24, rfl⟩ E (tgt := 49) (by decide) (fun E => ?_) (fun E => ?_)
    · refine g_sub (lv' := [(0, .ref (ad 0)), (1, .int y1_2), (2, .long (0 : Int64)), (4, .long (0 : Int64))]) [0, 1, 2, 3] rfl ?_
      exact hk49 _ E
    · refine g_aload_n (pc' := 28) O ⟨dX11_tests_27, rfl⟩ (q := 0) rfl rfl ?_
      refine gf_M_RX11_53_0 ad cy (pc' := 31) O ⟨dX11_tests_28, rfl⟩ ?_
      refine g_iload (pc' := 33) O ⟨dX11_tests_31, rfl⟩ (q := 4) rfl ?_
      refine g_lconst (pc' := 34) O ⟨dX11_tests_33, rfl⟩ (v := (0 : Int64)) rfl ?_
      refine g_last (pc' := 35) O ⟨dX11_tests_34, rfl⟩ (wM_15 ad cy h_27) (vM_15 ad cy h_27 _) E (fun E => ?_)
      refine g_nmh E (fun h_28 E => ?_)
      refine g_aload_n (pc' := 36) O ⟨dX11_tests_35, rfl⟩ (q := 0) rfl rfl ?_
      refine gf_M_RX11_57_0 ad cy (pc' := 39) O ⟨dX11_tests_36, rfl⟩ ?_
      refine g_iload (pc' := 41) O ⟨dX11_tests_39, rfl⟩ (q := 4) rfl ?_
      refine g_lconst (pc' := 42) O ⟨dX11_tests_41, rfl⟩ (v := (0 : Int64)) rfl ?_
      refine g_last (pc' := 43) O ⟨dX11_tests_42, rfl⟩ (wM_16 ad cy h_28) (vM_16 ad cy h_28 _) E (fun E => ?_)
      refine g_nmh E (fun h_29 E => ?_)
      refine g_iinc (pc' := 46) O ⟨dX11_tests_43, rfl⟩ (q := 4) (v := x6_26 + (1 : Int32)) (lv' := [(6, .int (x6_26 + (1 : Int32))), (0, .ref (ad 0)), (1, .int y1_2), (2, .long (0 : Int64)), (4, .long (0 : Int64))]) rfl rfl (by decide) rfl ?_
      refine g_goto (pc' := 49) O ⟨dX11_tests_46, rfl⟩ (tgt := 20) (by decide) ?_
      refine g_sub (lv' := [(0, .ref (ad 0)), (1, .int y1_2), (2, .long (0 : Int64)), (4, .long (0 : Int64)), (6, .int (x6_26 + (1 : Int32)))]) [1, 2, 3, 4, 0] rfl ?_
      exact ih20 _ _ E
