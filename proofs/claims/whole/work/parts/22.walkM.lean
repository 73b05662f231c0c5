/-! WALKS, laid by program: each method does what its pure program says -/
set_option maxRecDepth 100000 in
set_option maxHeartbeats 4000000 in
theorem t_X11_wipe (l : Launch) (D : va_G) (ad : Nat → Nat) (cy : Nat → ClassId) {h : Hp}  {o : Int32 × Hp} (E : f_X11_wipe h = some o) : CtI l D cy (WM ad cy) yX11_wipe cX11_wipe 2 .int 0 0 [.ref (ad 0)] h o.1 o.2 := by
  refine sI (own := RX11) rfl rfl (Nat.le_of_ble_eq_true rfl) (fun X O hret => ?_)
  show G l D X 2 (WM ad cy) 0 0 h 0 [(0, .ref (ad 0))] []
  unfold f_X11_wipe at E
  refine g_aload_n (pc' := 1) O ⟨dX11_wipe_0, rfl⟩ (q := 0) rfl rfl ?_
  refine g_iconst (pc' := 2) O ⟨dX11_wipe_1, rfl⟩ (v := (0 : Int32)) rfl ?_
  refine gp_M_RX11_70_0 ad cy (pc' := 5) O ⟨dX11_wipe_2, rfl⟩ ?_
  refine g_nmh E (fun h_1 E => ?_)
  refine g_aload_n (pc' := 6) O ⟨dX11_wipe_5, rfl⟩ (q := 0) rfl rfl ?_
  refine gf_M_RX11_149_0 ad cy (pc' := 9) O ⟨dX11_wipe_6, rfl⟩ ?_
  refine g_istore_n (pc' := 10) O ⟨dX11_wipe_9, rfl⟩ (lv' := [(1, .int (h_1.1 0 11)), (0, .ref (ad 0))]) rfl (by decide) rfl ?_
  refine g_aload_n (pc' := 11) O ⟨dX11_wipe_10, rfl⟩ (q := 1) rfl rfl ?_
  refine g_iconst (pc' := 12) O ⟨dX11_wipe_11, rfl⟩ (v := (0 : Int32)) rfl ?_
  refine gp_M_RX11_149_0 ad cy (pc' := 15) O ⟨dX11_wipe_12, rfl⟩ ?_
  refine g_nmh E (fun h_2 E => ?_)
  refine g_iload_n (pc' := 16) O ⟨dX11_wipe_15, rfl⟩ (q := 0) rfl rfl ?_
  cases E
  exact hret _ _ _ ⟨dX11_wipe_16, rfl⟩ rfl
set_option maxRecDepth 100000 in
set_option maxHeartbeats 4000000 in
theorem t_X11_findFault (l : Launch) (D : va_G) (ad : Nat → Nat) (cy : Nat → ClassId) {h : Hp}  {o : Int32} (E : f_X11_findFault h = some o) : CtI l D cy (WM ad cy) yX11_findFault cX11_findFault 5 .int 1 22 [.ref (ad 0)] h o h := by
  refine sI (own := RX11) rfl rfl (Nat.le_of_ble_eq_true rfl) (fun X O hret => ?_)
  show G l D X 5 (WM ad cy) 0 0 h 0 [(0, .ref (ad 0))] []
  unfold f_X11_findFault at E
  refine g_iconst (pc' := 1) O ⟨dX11_findFault_0, rfl⟩ (v := (0 : Int32)) rfl ?_
  refine g_istore_n (pc' := 2) O ⟨dX11_findFault_1, rfl⟩ (lv' := [(1, .int (0 : Int32)), (0, .ref (ad 0))]) rfl (by decide) rfl ?_
  refine g_iconst (pc' := 3) O ⟨dX11_findFault_2, rfl⟩ (v := (0 : Int32)) rfl ?_
  refine g_istore_n (pc' := 4) O ⟨dX11_findFault_3, rfl⟩ (lv' := [(2, .int (0 : Int32)), (1, .int (0 : Int32)), (0, .ref (ad 0))]) rfl (by decide) rfl ?_
  refine jn0_of (P := G l D X 5 (WM ad cy) 0 0 h 144 [(0, .ref (ad 0))] []) E ?_ ?_
  · intro E
    show G l D X 5 (WM ad cy) 0 0 h 144 [(0, .ref (ad 0))] []
    refine g_aload_n (pc' := 145) O ⟨dX11_findFault_144, rfl⟩ (q := 0) rfl rfl ?_
    refine gf_M_RX11_149_0 ad cy (pc' := 148) O ⟨dX11_findFault_145, rfl⟩ ?_
    refine g_iconst (pc' := 149) O ⟨dX11_findFault_148, rfl⟩ (v := (4 : Int32)) rfl ?_
    refine g_irem (pc' := 150) O ⟨dX11_findFault_149, rfl⟩ (by decide) ?_
    refine g_iconst (pc' := 151) O ⟨dX11_findFault_150, rfl⟩ (v := (3 : Int32)) rfl ?_
    refine g_icmp_ne (pc' := 154) O ⟨dX11_findFault_151, rfl⟩ E (tgt := 158) (by decide) (fun E => ?_) (fun E => ?_)
    · refine g_aload_n (pc' := 159) O ⟨dX11_findFault_158, rfl⟩ (q := 0) rfl rfl ?_
      refine gf_M_RX11_149_0 ad cy (pc' := 162) O ⟨dX11_findFault_159, rfl⟩ ?_
      cases E
      exact hret _ _ _ ⟨dX11_findFault_162, rfl⟩ rfl
    · refine g_iconst (pc' := 155) O ⟨dX11_findFault_154, rfl⟩ (v := (-1 : Int32)) rfl ?_
      refine g_goto (pc' := 158) O ⟨dX11_findFault_155, rfl⟩ (tgt := 162) (by decide) ?_
      cases E
      exact hret _ _ _ ⟨dX11_findFault_162, rfl⟩ rfl
  · intro k144 hk144 E
    refine jn1_of (P := fun (x2_1 : Int32) => G l D X 5 (WM ad cy) 0 0 h 107 [(2, .int x2_1)] []) E ?_ ?_
    · intro x2_1 E
      show G l D X 5 (WM ad cy) 0 0 h 107 [(2, .int x2_1)] []
      refine g_iload_n (pc' := 108) O ⟨dX11_findFault_107, rfl⟩ (q := 0) rfl rfl ?_
      cases E
      exact hret _ _ _ ⟨dX11_findFault_108, rfl⟩ rfl
    · intro k107 hk107 E
      refine g_sub (lv' := [(0, .ref (ad 0)), (1, .int (0 : Int32)), (2, .int (0 : Int32))]) [2, 1, 0] rfl ?_
      refine fx2_of (P := fun (x1_2 : Int32) (x2_3 : Int32) => G l D X 5 (WM ad cy) 0 0 h 4 [(0, .ref (ad 0)), (1, .int x1_2), (2, .int x2_3)] []) ?_ _ _ _ E
      intro self ih4 x1_2 x2_3 E
      show G l D X 5 (WM ad cy) 0 0 h 4 [(0, .ref (ad 0)), (1, .int x1_2), (2, .int x2_3)] []
      unfold L_X11_findFault_4 at E
      refine g_iload_n (pc' := 5) O ⟨dX11_findFault_4, rfl⟩ (q := 2) rfl rfl ?_
      refine g_aload_n (pc' := 6) O ⟨dX11_findFault_5, rfl⟩ (q := 0) rfl rfl ?_
      refine gf_M_RX11_149_0 ad cy (pc' := 9) O ⟨dX11_findFault_6, rfl⟩ ?_
      refine g_icmp_ge (pc' := 12) O ⟨dX11_findFault_9, rfl⟩ E (tgt := 144) (by decide) (fun E => ?_) (fun E => ?_)
      · refine g_sub (lv' := [(0, .ref (ad 0))]) [0] rfl ?_
        exact hk144 E
      · refine g_aload_n (pc' := 13) O ⟨dX11_findFault_12, rfl⟩ (q := 0) rfl rfl ?_
        refine gf_M_RX11_31_0 ad cy (pc' := 16) O ⟨dX11_findFault_13, rfl⟩ ?_
        refine g_iload_n (pc' := 17) O ⟨dX11_findFault_16, rfl⟩ (q := 2) rfl rfl ?_
        refine g_iald (pc' := 18) O ⟨dX11_findFault_17, rfl⟩ (wM_8 ad cy h) E (fun E => ?_)
        refine g_istore_n (pc' := 19) O ⟨dX11_findFault_18, rfl⟩ (lv' := [(3, .int (h.1 8 x2_3.toNatClampNeg)), (0, .ref (ad 0)), (1, .int x1_2), (2, .int x2_3)]) rfl (by decide) rfl ?_
        refine g_iload_n (pc' := 20) O ⟨dX11_findFault_19, rfl⟩ (q := 3) rfl rfl ?_
        refine g_iconst (pc' := 21) O ⟨dX11_findFault_20, rfl⟩ (v := (4 : Int32)) rfl ?_
        refine g_irem (pc' := 22) O ⟨dX11_findFault_21, rfl⟩ (by decide) ?_
        refine g_iconst (pc' := 23) O ⟨dX11_findFault_22, rfl⟩ (v := (1 : Int32)) rfl ?_
        refine jn1_of (P := fun (z_4 : Int32) => G l D X 5 (WM ad cy) 0 0 h 100 [(0, .ref (ad 0)), (1, .int x1_2), (2, .int x2_3), (3, .int (h.1 8 x2_3.toNatClampNeg))] [.int z_4]) E ?_ ?_
        · intro z_4 E
          show G l D X 5 (WM ad cy) 0 0 h 100 [(0, .ref (ad 0)), (1, .int x1_2), (2, .int x2_3), (3, .int (h.1 8 x2_3.toNatClampNeg))] [.int z_4]
          refine g_istore (pc' := 102) O ⟨dX11_findFault_100, rfl⟩ (lv' := [(4, .int z_4), (0, .ref (ad 0)), (1, .int x1_2), (2, .int x2_3), (3, .int (h.1 8 x2_3.toNatClampNeg))]) (by decide) rfl ?_
          refine g_iload (pc' := 104) O ⟨dX11_findFault_102, rfl⟩ (q := 0) rfl ?_
          refine g_if_ne (pc' := 107) O ⟨dX11_findFault_104, rfl⟩ E (tgt := 109) (by decide) (fun E => ?_) (fun E => ?_)
          · refine g_iload_n (pc' := 110) O ⟨dX11_findFault_109, rfl⟩ (q := 4) rfl rfl ?_
            refine g_bipush (pc' := 112) O ⟨dX11_findFault_110, rfl⟩ (v := (47 : Int32)) rfl ?_
            refine g_icmp_ne (pc' := 115) O ⟨dX11_findFault_112, rfl⟩ E (tgt := 119) (by decide) (fun E => ?_) (fun E => ?_)
            · refine g_iload_n (pc' := 120) O ⟨dX11_findFault_119, rfl⟩ (q := 3) rfl rfl ?_
              refine g_iconst (pc' := 121) O ⟨dX11_findFault_120, rfl⟩ (v := (2 : Int32)) rfl ?_
              refine g_irem (pc' := 122) O ⟨dX11_findFault_121, rfl⟩ (by decide) ?_
              refine g_if_ne (pc' := 125) O ⟨dX11_findFault_122, rfl⟩ E (tgt := 136) (by decide) (fun E => ?_) (fun E => ?_)
              · refine g_iload_n (pc' := 137) O ⟨dX11_findFault_136, rfl⟩ (q := 2) rfl rfl ?_
                refine g_istore_n (pc' := 138) O ⟨dX11_findFault_137, rfl⟩ (lv' := [(1, .int x1_2), (4, .int z_4), (0, .ref (ad 0)), (2, .int x2_3), (3, .int (h.1 8 x2_3.toNatClampNeg))]) rfl (by decide) rfl ?_
                refine g_iinc (pc' := 141) O ⟨dX11_findFault_138, rfl⟩ (q := 3) (v := x2_3 + (1 : Int32)) (lv' := [(2, .int (x2_3 + (1 : Int32))), (1, .int x1_2), (4, .int z_4), (0, .ref (ad 0)), (3, .int (h.1 8 x2_3.toNatClampNeg))]) rfl rfl (by decide) rfl ?_
                refine g_goto (pc' := 144) O ⟨dX11_findFault_141, rfl⟩ (tgt := 4) (by decide) ?_
                refine g_sub (lv' := [(0, .ref (ad 0)), (1, .int x1_2), (2, .int (x2_3 + (1 : Int32)))]) [3, 1, 0] rfl ?_
                exact ih4 _ _ E
              · refine g_iload_n (pc' := 126) O ⟨dX11_findFault_125, rfl⟩ (q := 2) rfl rfl ?_
                refine g_iconst (pc' := 127) O ⟨dX11_findFault_126, rfl⟩ (v := (1 : Int32)) rfl ?_
                refine g_iload_n (pc' := 128) O ⟨dX11_findFault_127, rfl⟩ (q := 4) rfl rfl ?_
                refine g_bipush (pc' := 130) O ⟨dX11_findFault_128, rfl⟩ (v := (48 : Int32)) rfl ?_
                refine g_isub (pc' := 131) O ⟨dX11_findFault_130, rfl⟩ ?_
                refine g_ishl (pc' := 132) O ⟨dX11_findFault_131, rfl⟩ ?_
                refine g_ior (pc' := 133) O ⟨dX11_findFault_132, rfl⟩ ?_
                refine g_goto (pc' := 136) O ⟨dX11_findFault_133, rfl⟩ (tgt := 137) (by decide) ?_
                refine g_nm E (fun y1_5 E => ?_)
                refine g_istore_n (pc' := 138) O ⟨dX11_findFault_137, rfl⟩ (lv' := [(1, .int y1_5), (4, .int z_4), (0, .ref (ad 0)), (2, .int x2_3), (3, .int (h.1 8 x2_3.toNatClampNeg))]) rfl (by decide) rfl ?_
                refine g_iinc (pc' := 141) O ⟨dX11_findFault_138, rfl⟩ (q := 3) (v := x2_3 + (1 : Int32)) (lv' := [(2, .int (x2_3 + (1 : Int32))), (1, .int y1_5), (4, .int z_4), (0, .ref (ad 0)), (3, .int (h.1 8 x2_3.toNatClampNeg))]) rfl rfl (by decide) rfl ?_
                refine g_goto (pc' := 144) O ⟨dX11_findFault_141, rfl⟩ (tgt := 4) (by decide) ?_
                refine g_sub (lv' := [(0, .ref (ad 0)), (1, .int y1_5), (2, .int (x2_3 + (1 : Int32)))]) [3, 1, 0] rfl ?_
                exact ih4 _ _ E
            · refine g_iconst (pc' := 116) O ⟨dX11_findFault_115, rfl⟩ (v := (0 : Int32)) rfl ?_
              refine g_goto (pc' := 119) O ⟨dX11_findFault_116, rfl⟩ (tgt := 137) (by decide) ?_
              refine g_istore_n (pc' := 138) O ⟨dX11_findFault_137, rfl⟩ (lv' := [(1, .int (0 : Int32)), (4, .int z_4), (0, .ref (ad 0)), (2, .int x2_3), (3, .int (h.1 8 x2_3.toNatClampNeg))]) rfl (by decide) rfl ?_
              refine g_iinc (pc' := 141) O ⟨dX11_findFault_138, rfl⟩ (q := 3) (v := x2_3 + (1 : Int32)) (lv' := [(2, .int (x2_3 + (1 : Int32))), (1, .int (0 : Int32)), (4, .int z_4), (0, .ref (ad 0)), (3, .int (h.1 8 x2_3.toNatClampNeg))]) rfl rfl (by decide) rfl ?_
              refine g_goto (pc' := 144) O ⟨dX11_findFault_141, rfl⟩ (tgt := 4) (by decide) ?_
              refine g_sub (lv' := [(0, .ref (ad 0)), (1, .int (0 : Int32)), (2, .int (x2_3 + (1 : Int32)))]) [3, 1, 0] rfl ?_
              exact ih4 _ _ E
          · refine g_sub (lv' := [(2, .int x2_3)]) [3] rfl ?_
            exact hk107 _ E
        · intro k100 hk100 E
          refine g_icmp_ne (pc' := 26) O ⟨dX11_findFault_23, rfl⟩ E (tgt := 40) (by decide) (fun E => ?_) (fun E => ?_)
          · refine g_iload_n (pc' := 41) O ⟨dX11_findFault_40, rfl⟩ (q := 3) rfl rfl ?_
            refine g_iconst (pc' := 42) O ⟨dX11_findFault_41, rfl⟩ (v := (4 : Int32)) rfl ?_
            refine g_irem (pc' := 43) O ⟨dX11_findFault_42, rfl⟩ (by decide) ?_
            refine g_iconst (pc' := 44) O ⟨dX11_findFault_43, rfl⟩ (v := (3 : Int32)) rfl ?_
            refine g_icmp_ne (pc' := 47) O ⟨dX11_findFault_44, rfl⟩ E (tgt := 67) (by decide) (fun E => ?_) (fun E => ?_)
            · refine g_iload_n (pc' := 68) O ⟨dX11_findFault_67, rfl⟩ (q := 0) rfl rfl ?_
              refine g_bipush (pc' := 70) O ⟨dX11_findFault_68, rfl⟩ (v := (48 : Int32)) rfl ?_
              refine g_isub (pc' := 71) O ⟨dX11_findFault_70, rfl⟩ ?_
              refine g_iconst (pc' := 72) O ⟨dX11_findFault_71, rfl⟩ (v := (0 : Int32)) rfl ?_
              refine g_aload_n (pc' := 73) O ⟨dX11_findFault_72, rfl⟩ (q := 1) rfl rfl ?_
              refine gf_M_RX11_74_0 ad cy (pc' := 76) O ⟨dX11_findFault_73, rfl⟩ ?_
              refine g_iconst (pc' := 77) O ⟨dX11_findFault_76, rfl⟩ (v := (1 : Int32)) rfl ?_
              refine g_isub (pc' := 78) O ⟨dX11_findFault_77, rfl⟩ ?_
              obtain ⟨r_6, c_7, E⟩ := bd_of E
              refine g_Si (pc' := 81) O ⟨dX11_findFault_78, rfl⟩ (y := yX11_in) (As := [.int ((h.1 8 x2_3.toNatClampNeg) - (48 : Int32)), .int (0 : Int32), .int ((h.1 0 1) - (1 : Int32))]) (st := []) (t_X11_in l D ad cy (h := h) c_7) kw_1167 kw_70 kw_1165 kw_1166 hd_X11_in ⟨Nat.le_of_ble_eq_true rfl, Nat.le_of_ble_eq_true rfl⟩ ⟨Nat.le_of_ble_eq_true rfl, Nat.le_of_ble_eq_true rfl⟩ rfl (Nat.le_of_ble_eq_true rfl) ?_
              refine jn0_of (P := G l D X 5 (WM ad cy) 0 0 h 99 [(0, .ref (ad 0)), (1, .int x1_2), (2, .int x2_3), (3, .int (h.1 8 x2_3.toNatClampNeg))] []) E ?_ ?_
              · intro E
                show G l D X 5 (WM ad cy) 0 0 h 99 [(0, .ref (ad 0)), (1, .int x1_2), (2, .int x2_3), (3, .int (h.1 8 x2_3.toNatClampNeg))] []
                refine g_iconst (pc' := 100) O ⟨dX11_findFault_99, rfl⟩ (v := (0 : Int32)) rfl ?_
                exact hk100 _ E
              · intro k99 hk99 E
                refine g_if_eq (pc' := 84) O ⟨dX11_findFault_81, rfl⟩ E (tgt := 99) (by decide) (fun E => ?_) (fun E => ?_)
                · refine g_sub (lv' := [(0, .ref (ad 0)), (1, .int x1_2), (2, .int x2_3), (3, .int (h.1 8 x2_3.toNatClampNeg))]) [1, 2, 3, 0] rfl ?_
                  exact hk99 E
                · refine g_iload_n (pc' := 85) O ⟨dX11_findFault_84, rfl⟩ (q := 2) rfl rfl ?_
                  refine g_iload_n (pc' := 86) O ⟨dX11_findFault_85, rfl⟩ (q := 0) rfl rfl ?_
                  refine g_bipush (pc' := 88) O ⟨dX11_findFault_86, rfl⟩ (v := (48 : Int32)) rfl ?_
                  refine g_isub (pc' := 89) O ⟨dX11_findFault_88, rfl⟩ ?_
                  refine g_ishr (pc' := 90) O ⟨dX11_findFault_89, rfl⟩ ?_
                  refine g_iconst (pc' := 91) O ⟨dX11_findFault_90, rfl⟩ (v := (1 : Int32)) rfl ?_
                  refine g_iand (pc' := 92) O ⟨dX11_findFault_91, rfl⟩ ?_
                  refine g_if_ne (pc' := 95) O ⟨dX11_findFault_92, rfl⟩ E (tgt := 99) (by decide) (fun E => ?_) (fun E => ?_)
                  · refine g_sub (lv' := [(0, .ref (ad 0)), (1, .int x1_2), (2, .int x2_3), (3, .int (h.1 8 x2_3.toNatClampNeg))]) [1, 2, 3, 0] rfl ?_
                    exact hk99 E
                  · refine g_iconst (pc' := 96) O ⟨dX11_findFault_95, rfl⟩ (v := (1 : Int32)) rfl ?_
                    refine g_goto (pc' := 99) O ⟨dX11_findFault_96, rfl⟩ (tgt := 100) (by decide) ?_
                    refine g_sub (lv' := [(0, .ref (ad 0)), (1, .int x1_2), (2, .int x2_3), (3, .int (h.1 8 x2_3.toNatClampNeg))]) [1, 2, 3, 0] rfl ?_
                    exact hk100 _ E
            · refine g_iload_n (pc' := 48) O ⟨dX11_findFault_47, rfl⟩ (q := 0) rfl rfl ?_
              refine g_bipush (pc' := 50) O ⟨dX11_findFault_48, rfl⟩ (v := (32 : Int32)) rfl ?_
              refine jn0_of (P := G l D X 5 (WM ad cy) 0 0 h 59 [(0, .ref (ad 0)), (1, .int x1_2), (2, .int x2_3), (3, .int (h.1 8 x2_3.toNatClampNeg))] []) E ?_ ?_
              · intro E
                show G l D X 5 (WM ad cy) 0 0 h 59 [(0, .ref (ad 0)), (1, .int x1_2), (2, .int x2_3), (3, .int (h.1 8 x2_3.toNatClampNeg))] []
                refine g_iconst (pc' := 60) O ⟨dX11_findFault_59, rfl⟩ (v := (1 : Int32)) rfl ?_
                refine g_goto (pc' := 63) O ⟨dX11_findFault_60, rfl⟩ (tgt := 100) (by decide) ?_
                exact hk100 _ E
              · intro k59 hk59 E
                refine g_icmp_eq (pc' := 53) O ⟨dX11_findFault_50, rfl⟩ E (tgt := 59) (by decide) (fun E => ?_) (fun E => ?_)
                · refine g_sub (lv' := [(0, .ref (ad 0)), (1, .int x1_2), (2, .int x2_3), (3, .int (h.1 8 x2_3.toNatClampNeg))]) [1, 2, 3, 0] rfl ?_
                  exact hk59 E
                · refine g_iload_n (pc' := 54) O ⟨dX11_findFault_53, rfl⟩ (q := 0) rfl rfl ?_
                  refine g_bipush (pc' := 56) O ⟨dX11_findFault_54, rfl⟩ (v := (47 : Int32)) rfl ?_
                  refine g_icmp_ne (pc' := 59) O ⟨dX11_findFault_56, rfl⟩ E (tgt := 63) (by decide) (fun E => ?_) (fun E => ?_)
                  · refine g_iconst (pc' := 64) O ⟨dX11_findFault_63, rfl⟩ (v := (0 : Int32)) rfl ?_
                    refine g_goto (pc' := 67) O ⟨dX11_findFault_64, rfl⟩ (tgt := 100) (by decide) ?_
                    refine g_sub (lv' := [(0, .ref (ad 0)), (1, .int x1_2), (2, .int x2_3), (3, .int (h.1 8 x2_3.toNatClampNeg))]) [1, 2, 3, 0] rfl ?_
                    exact hk100 _ E
                  · refine g_sub (lv' := [(0, .ref (ad 0)), (1, .int x1_2), (2, .int x2_3), (3, .int (h.1 8 x2_3.toNatClampNeg))]) [1, 2, 3, 0] rfl ?_
                    exact hk59 E
          · refine g_iload_n (pc' := 27) O ⟨dX11_findFault_26, rfl⟩ (q := 0) rfl rfl ?_
            refine g_bipush (pc' := 29) O ⟨dX11_findFault_27, rfl⟩ (v := (58 : Int32)) rfl ?_
            refine g_icmp_ne (pc' := 32) O ⟨dX11_findFault_29, rfl⟩ E (tgt := 36) (by decide) (fun E => ?_) (fun E => ?_)
            · refine g_iconst (pc' := 37) O ⟨dX11_findFault_36, rfl⟩ (v := (0 : Int32)) rfl ?_
              refine g_goto (pc' := 40) O ⟨dX11_findFault_37, rfl⟩ (tgt := 100) (by decide) ?_
              refine g_sub (lv' := [(0, .ref (ad 0)), (1, .int x1_2), (2, .int x2_3), (3, .int (h.1 8 x2_3.toNatClampNeg))]) [1, 2, 3, 0] rfl ?_
              exact hk100 _ E
            · refine g_iconst (pc' := 33) O ⟨dX11_findFault_32, rfl⟩ (v := (1 : Int32)) rfl ?_
              refine g_goto (pc' := 36) O ⟨dX11_findFault_33, rfl⟩ (tgt := 100) (by decide) ?_
              refine g_sub (lv' := [(0, .ref (ad 0)), (1, .int x1_2), (2, .int x2_3), (3, .int (h.1 8 x2_3.toNatClampNeg))]) [1, 2, 3, 0] rfl ?_
              exact hk100 _ E
set_option maxRecDepth 100000 in
set_option maxHeartbeats 4000000 in
theorem t_X11_fault (l : Launch) (D : va_G) (ad : Nat → Nat) (cy : Nat → ClassId) {h : Hp}  {o : Int32 × Hp} (E : f_X11_fault h = some o) : CtI l D cy (WM ad cy) yX11_fault cX11_fault 1 .int 2 46 [.ref (ad 0)] h o.1 o.2 := by
  refine sI (own := RX11) rfl rfl (Nat.le_of_ble_eq_true rfl) (fun X O hret => ?_)
  show G l D X 1 (WM ad cy) 0 0 h 0 [(0, .ref (ad 0))] []
  unfold f_X11_fault at E
  refine g_aload_n (pc' := 1) O ⟨dX11_fault_0, rfl⟩ (q := 0) rfl rfl ?_
  refine g_iconst (pc' := 2) O ⟨dX11_fault_1, rfl⟩ (v := (0 : Int32)) rfl ?_
  refine gp_M_RX11_70_0 ad cy (pc' := 5) O ⟨dX11_fault_2, rfl⟩ ?_
  refine g_nmh E (fun h_1 E => ?_)
  refine g_aload_n (pc' := 6) O ⟨dX11_fault_5, rfl⟩ (q := 0) rfl rfl ?_
  obtain ⟨r_2, c_3, E⟩ := bd_of E
  refine g_Vi (pc' := 9) O ⟨dX11_fault_6, rfl⟩ (y := yX11_findFault) (As := []) (st := []) (t_X11_findFault l D ad cy (h := h_1) c_3) kw_1265 kw_70 kw_1262 kw_1264 kw_35 rfl (wM_0 ad cy h_1) hd_X11_findFault ⟨Nat.le_of_ble_eq_true rfl, Nat.le_of_ble_eq_true rfl⟩ ⟨Nat.le_of_ble_eq_true rfl, Nat.le_of_ble_eq_true rfl⟩ rfl (Nat.le_of_ble_eq_true rfl) ?_
  cases E
  exact hret _ _ _ ⟨dX11_fault_9, rfl⟩ rfl
set_option maxRecDepth 100000 in
set_option maxHeartbeats 4000000 in
theorem t_X11_build (l : Launch) (D : va_G) (ad : Nat → Nat) (cy : Nat → ClassId) {h : Hp}  {o : Int32 × Hp} (E : f_X11_build h = some o) : CtI l D cy (WM ad cy) yX11_build cX11_build 3 .int 2 46 [.ref (ad 0)] h o.1 o.2 := by
  refine sI (own := RX11) rfl rfl (Nat.le_of_ble_eq_true rfl) (fun X O hret => ?_)
  show G l D X 3 (WM ad cy) 0 0 h 0 [(0, .ref (ad 0))] []
  unfold f_X11_build at E
  refine g_aload_n (pc' := 1) O ⟨dX11_build_0, rfl⟩ (q := 0) rfl rfl ?_
  refine gf_M_RX11_149_0 ad cy (pc' := 4) O ⟨dX11_build_1, rfl⟩ ?_
  refine g_iconst (pc' := 5) O ⟨dX11_build_4, rfl⟩ (v := (1 : Int32)) rfl ?_
  refine g_iadd (pc' := 6) O ⟨dX11_build_5, rfl⟩ ?_
  refine g_iconst (pc' := 7) O ⟨dX11_build_6, rfl⟩ (v := (4 : Int32)) rfl ?_
  refine g_idiv (pc' := 8) O ⟨dX11_build_7, rfl⟩ (by decide) ?_
  refine g_nm E (fun y1_1 E => ?_)
  refine g_istore_n (pc' := 9) O ⟨dX11_build_8, rfl⟩ (lv' := [(1, .int y1_1), (0, .ref (ad 0))]) rfl (by decide) rfl ?_
  refine g_aload_n (pc' := 10) O ⟨dX11_build_9, rfl⟩ (q := 1) rfl rfl ?_
  refine g_aload_n (pc' := 11) O ⟨dX11_build_10, rfl⟩ (q := 1) rfl rfl ?_
  obtain ⟨r_2, c_3, E⟩ := bd_of E
  refine g_Vi (pc' := 14) O ⟨dX11_build_11, rfl⟩ (y := yX11_findFault) (As := []) (st := [.ref (ad 0)]) (t_X11_findFault l D ad cy (h := h) c_3) kw_1265 kw_70 kw_1262 kw_1264 kw_35 rfl (wM_0 ad cy h) hd_X11_findFault ⟨Nat.le_of_ble_eq_true rfl, Nat.le_of_ble_eq_true rfl⟩ ⟨Nat.le_of_ble_eq_true rfl, Nat.le_of_ble_eq_true rfl⟩ rfl (Nat.le_of_ble_eq_true rfl) ?_
  refine g_iconst (pc' := 15) O ⟨dX11_build_14, rfl⟩ (v := (-1 : Int32)) rfl ?_
  refine jn1_of (P := fun (z_4 : Int32) => G l D X 3 (WM ad cy) 0 0 h 38 [(0, .ref (ad 0)), (1, .int y1_1)] [.int z_4, .ref (ad 0)]) E ?_ ?_
  · intro z_4 E
    show G l D X 3 (WM ad cy) 0 0 h 38 [(0, .ref (ad 0)), (1, .int y1_1)] [.int z_4, .ref (ad 0)]
    refine gp_M_RX11_70_0 ad cy (pc' := 41) O ⟨dX11_build_38, rfl⟩ ?_
    refine g_nmh E (fun h_5 E => ?_)
    refine g_aload_n (pc' := 42) O ⟨dX11_build_41, rfl⟩ (q := 0) rfl rfl ?_
    refine gf_M_RX11_70_0 ad cy (pc' := 45) O ⟨dX11_build_42, rfl⟩ ?_
    refine g_if_le (pc' := 48) O ⟨dX11_build_45, rfl⟩ E (tgt := 50) (by decide) (fun E => ?_) (fun E => ?_)
    · refine g_iconst (pc' := 51) O ⟨dX11_build_50, rfl⟩ (v := (0 : Int32)) rfl ?_
      refine g_istore_n (pc' := 52) O ⟨dX11_build_51, rfl⟩ (lv' := [(2, .int (0 : Int32)), (0, .ref (ad 0)), (1, .int y1_1)]) rfl (by decide) rfl ?_
      refine jn1_of (P := fun (h_6 : Hp) => G l D X 3 (WM ad cy) 0 0 h_6 91 [(0, .ref (ad 0)), (1, .int y1_1)] []) E ?_ ?_
      · intro h_6 E
        show G l D X 3 (WM ad cy) 0 0 h_6 91 [(0, .ref (ad 0)), (1, .int y1_1)] []
        refine g_aload_n (pc' := 92) O ⟨dX11_build_91, rfl⟩ (q := 0) rfl rfl ?_
        refine g_iconst (pc' := 93) O ⟨dX11_build_92, rfl⟩ (v := (0 : Int32)) rfl ?_
        refine gp_M_RX11_149_0 ad cy (pc' := 96) O ⟨dX11_build_93, rfl⟩ ?_
        refine g_nmh E (fun h_7 E => ?_)
        refine g_aload_n (pc' := 97) O ⟨dX11_build_96, rfl⟩ (q := 0) rfl rfl ?_
        obtain ⟨r_8, c_9, E⟩ := bd_of E
        refine g_Vv (pc' := 100) O ⟨dX11_build_97, rfl⟩ (y := yX11_forgets) (As := []) (st := []) (t_X11_forgets l D ad cy (h := h_7) c_9) kw_1077 kw_70 kw_1074 kw_1076 kw_25 rfl (wM_0 ad cy h_7) hd_X11_forgets ⟨Nat.le_of_ble_eq_true rfl, Nat.le_of_ble_eq_true rfl⟩ ⟨Nat.le_of_ble_eq_true rfl, Nat.le_of_ble_eq_true rfl⟩ rfl (Nat.le_of_ble_eq_true rfl) ?_
        refine g_iload_n (pc' := 101) O ⟨dX11_build_100, rfl⟩ (q := 1) rfl rfl ?_
        cases E
        exact hret _ _ _ ⟨dX11_build_101, rfl⟩ rfl
      · intro k91 hk91 E
        refine g_sub (lv' := [(0, .ref (ad 0)), (1, .int y1_1), (2, .int (0 : Int32))]) [1, 2, 0] rfl ?_
        refine fx2_of (P := fun (x2_10 : Int32) (h_11 : Hp) => G l D X 3 (WM ad cy) 0 0 h_11 52 [(0, .ref (ad 0)), (1, .int y1_1), (2, .int x2_10)] []) ?_ _ _ _ E
        intro self ih52 x2_10 h_11 E
        show G l D X 3 (WM ad cy) 0 0 h_11 52 [(0, .ref (ad 0)), (1, .int y1_1), (2, .int x2_10)] []
        unfold L_X11_build_52 at E
        refine g_iload_n (pc' := 53) O ⟨dX11_build_52, rfl⟩ (q := 2) rfl rfl ?_
        refine g_iload_n (pc' := 54) O ⟨dX11_build_53, rfl⟩ (q := 1) rfl rfl ?_
        refine g_icmp_ge (pc' := 57) O ⟨dX11_build_54, rfl⟩ E (tgt := 91) (by decide) (fun E => ?_) (fun E => ?_)
        · refine g_sub (lv' := [(0, .ref (ad 0)), (1, .int y1_1)]) [0, 1] rfl ?_
          exact hk91 _ E
        · refine g_aload_n (pc' := 58) O ⟨dX11_build_57, rfl⟩ (q := 0) rfl rfl ?_
          refine g_aload_n (pc' := 59) O ⟨dX11_build_58, rfl⟩ (q := 0) rfl rfl ?_
          refine gf_M_RX11_31_0 ad cy (pc' := 62) O ⟨dX11_build_59, rfl⟩ ?_
          refine g_iconst (pc' := 63) O ⟨dX11_build_62, rfl⟩ (v := (4 : Int32)) rfl ?_
          refine g_iload_n (pc' := 64) O ⟨dX11_build_63, rfl⟩ (q := 2) rfl rfl ?_
          refine g_imul (pc' := 65) O ⟨dX11_build_64, rfl⟩ ?_
          refine g_iald (pc' := 66) O ⟨dX11_build_65, rfl⟩ (wM_8 ad cy h_11) E (fun E => ?_)
          refine g_bipush (pc' := 68) O ⟨dX11_build_66, rfl⟩ (v := (48 : Int32)) rfl ?_
          refine g_isub (pc' := 69) O ⟨dX11_build_68, rfl⟩ ?_
          refine g_aload_n (pc' := 70) O ⟨dX11_build_69, rfl⟩ (q := 0) rfl rfl ?_
          refine gf_M_RX11_31_0 ad cy (pc' := 73) O ⟨dX11_build_70, rfl⟩ ?_
          refine g_iconst (pc' := 74) O ⟨dX11_build_73, rfl⟩ (v := (4 : Int32)) rfl ?_
          refine g_iload_n (pc' := 75) O ⟨dX11_build_74, rfl⟩ (q := 2) rfl rfl ?_
          refine g_imul (pc' := 76) O ⟨dX11_build_75, rfl⟩ ?_
          refine g_iconst (pc' := 77) O ⟨dX11_build_76, rfl⟩ (v := (2 : Int32)) rfl ?_
          refine g_iadd (pc' := 78) O ⟨dX11_build_77, rfl⟩ ?_
          refine g_iald (pc' := 79) O ⟨dX11_build_78, rfl⟩ (wM_8 ad cy h_11) E (fun E => ?_)
          refine g_bipush (pc' := 81) O ⟨dX11_build_79, rfl⟩ (v := (48 : Int32)) rfl ?_
          refine g_isub (pc' := 82) O ⟨dX11_build_81, rfl⟩ ?_
          obtain ⟨r_12, c_13, E⟩ := bd_of E
          refine g_Vv (pc' := 85) O ⟨dX11_build_82, rfl⟩ (y := yX11_puts) (As := [.int ((h_11.1 8 ((4 : Int32) * x2_10).toNatClampNeg) - (48 : Int32)), .int ((h_11.1 8 (((4 : Int32) * x2_10) + (2 : Int32)).toNatClampNeg) - (48 : Int32))]) (st := []) (t_X11_puts l D ad cy (h := h_11) c_13) kw_1179 kw_70 kw_1176 kw_1178 kw_27 rfl (wM_0 ad cy h_11) hd_X11_puts ⟨Nat.le_of_ble_eq_true rfl, Nat.le_of_ble_eq_true rfl⟩ ⟨Nat.le_of_ble_eq_true rfl, Nat.le_of_ble_eq_true rfl⟩ rfl (Nat.le_of_ble_eq_true rfl) ?_
          refine g_iinc (pc' := 88) O ⟨dX11_build_85, rfl⟩ (q := 2) (v := x2_10 + (1 : Int32)) (lv' := [(2, .int (x2_10 + (1 : Int32))), (0, .ref (ad 0)), (1, .int y1_1)]) rfl rfl (by decide) rfl ?_
          refine g_goto (pc' := 91) O ⟨dX11_build_88, rfl⟩ (tgt := 52) (by decide) ?_
          refine g_sub (lv' := [(0, .ref (ad 0)), (1, .int y1_1), (2, .int (x2_10 + (1 : Int32)))]) [1, 2, 0] rfl ?_
          exact ih52 _ _ E
    · refine g_iconst (pc' := 49) O ⟨dX11_build_48, rfl⟩ (v := (0 : Int32)) rfl ?_
      cases E
      exact hret _ _ _ ⟨dX11_build_49, rfl⟩ rfl
  · intro k38 hk38 E
    refine g_icmp_eq (pc' := 18) O ⟨dX11_build_15, rfl⟩ E (tgt := 22) (by decide) (fun E => ?_) (fun E => ?_)
    · refine g_aload_n (pc' := 23) O ⟨dX11_build_22, rfl⟩ (q := 1) rfl rfl ?_
      refine gf_M_RX11_81_0 ad cy (pc' := 26) O ⟨dX11_build_23, rfl⟩ ?_
      refine g_iload_n (pc' := 27) O ⟨dX11_build_26, rfl⟩ (q := 0) rfl rfl ?_
      refine g_iadd (pc' := 28) O ⟨dX11_build_27, rfl⟩ ?_
      refine g_bipush (pc' := 30) O ⟨dX11_build_28, rfl⟩ (v := (24 : Int32)) rfl ?_
      refine g_icmp_le (pc' := 33) O ⟨dX11_build_30, rfl⟩ E (tgt := 37) (by decide) (fun E => ?_) (fun E => ?_)
      · refine g_iconst (pc' := 38) O ⟨dX11_build_37, rfl⟩ (v := (0 : Int32)) rfl ?_
        refine g_sub (lv' := [(0, .ref (ad 0)), (1, .int y1_1)]) [1, 0] rfl ?_
        exact hk38 _ E
      · refine g_iconst (pc' := 34) O ⟨dX11_build_33, rfl⟩ (v := (2 : Int32)) rfl ?_
        refine g_goto (pc' := 37) O ⟨dX11_build_34, rfl⟩ (tgt := 38) (by decide) ?_
        refine g_sub (lv' := [(0, .ref (ad 0)), (1, .int y1_1)]) [1, 0] rfl ?_
        exact hk38 _ E
    · refine g_iconst (pc' := 19) O ⟨dX11_build_18, rfl⟩ (v := (1 : Int32)) rfl ?_
      refine g_goto (pc' := 22) O ⟨dX11_build_19, rfl⟩ (tgt := 38) (by decide) ?_
      refine g_sub (lv' := [(0, .ref (ad 0)), (1, .int y1_1)]) [1, 0] rfl ?_
      exact hk38 _ E
set_option maxRecDepth 100000 in
set_option maxHeartbeats 4000000 in
theorem t_X11_run (l : Launch) (D : va_G) (ad : Nat → Nat) (cy : Nat → ClassId) {h : Hp} {x1 : Int32} {o : Int32 × Hp} (E : f_X11_run h x1 = some o) : CtI l D cy (WM ad cy) yX11_run cX11_run 2 .int 3 70 [.ref (ad 0), .int x1] h o.1 o.2 := by
  refine sI (own := RX11) rfl rfl (Nat.le_of_ble_eq_true rfl) (fun X O hret => ?_)
  show G l D X 2 (WM ad cy) 0 0 h 0 [(0, .ref (ad 0)), (1, .int x1)] []
  unfold f_X11_run at E
  refine g_aload_n (pc' := 1) O ⟨dX11_run_0, rfl⟩ (q := 0) rfl rfl ?_
  refine g_aload_n (pc' := 2) O ⟨dX11_run_1, rfl⟩ (q := 0) rfl rfl ?_
  refine g_iload_n (pc' := 3) O ⟨dX11_run_2, rfl⟩ (q := 1) rfl rfl ?_
  obtain ⟨r_1, c_2, E⟩ := bd_of E
  refine g_Vi (pc' := 6) O ⟨dX11_run_3, rfl⟩ (y := yX11_rowOf) (As := [.int x1]) (st := [.ref (ad 0)]) (t_X11_rowOf l D ad cy (h := h) c_2) kw_1277 kw_70 kw_1274 kw_1276 kw_36 rfl (wM_0 ad cy h) hd_X11_rowOf ⟨Nat.le_of_ble_eq_true rfl, Nat.le_of_ble_eq_true rfl⟩ ⟨Nat.le_of_ble_eq_true rfl, Nat.le_of_ble_eq_true rfl⟩ rfl (Nat.le_of_ble_eq_true rfl) ?_
  refine g_iconst (pc' := 7) O ⟨dX11_run_6, rfl⟩ (v := (-1 : Int32)) rfl ?_
  refine jn1_of (P := fun (z_3 : Int32) => G l D X 2 (WM ad cy) 0 0 r_1.2 15 [(0, .ref (ad 0))] [.int z_3, .ref (ad 0)]) E ?_ ?_
  · intro z_3 E
    show G l D X 2 (WM ad cy) 0 0 r_1.2 15 [(0, .ref (ad 0))] [.int z_3, .ref (ad 0)]
    refine gp_M_RX11_70_0 ad cy (pc' := 18) O ⟨dX11_run_15, rfl⟩ ?_
    refine g_nmh E (fun h_4 E => ?_)
    refine g_aload_n (pc' := 19) O ⟨dX11_run_18, rfl⟩ (q := 0) rfl rfl ?_
    refine gf_M_RX11_70_0 ad cy (pc' := 22) O ⟨dX11_run_19, rfl⟩ ?_
    refine g_if_le (pc' := 25) O ⟨dX11_run_22, rfl⟩ E (tgt := 27) (by decide) (fun E => ?_) (fun E => ?_)
    · refine g_aload_n (pc' := 28) O ⟨dX11_run_27, rfl⟩ (q := 0) rfl rfl ?_
      obtain ⟨r_5, c_6, E⟩ := bd_of E
      refine g_Vv (pc' := 31) O ⟨dX11_run_28, rfl⟩ (y := yX11_goes) (As := []) (st := []) (t_X11_goes l D ad cy (h := h_4) c_6) kw_1285 kw_70 kw_1282 kw_1284 kw_38 rfl (wM_0 ad cy h_4) hd_X11_goes ⟨Nat.le_of_ble_eq_true rfl, Nat.le_of_ble_eq_true rfl⟩ ⟨Nat.le_of_ble_eq_true rfl, Nat.le_of_ble_eq_true rfl⟩ rfl (Nat.le_of_ble_eq_true rfl) ?_
      refine g_aload_n (pc' := 32) O ⟨dX11_run_31, rfl⟩ (q := 0) rfl rfl ?_
      obtain ⟨r_7, c_8, E⟩ := bd_of E
      refine g_Vi (pc' := 35) O ⟨dX11_run_32, rfl⟩ (y := yX11_codeOf) (As := []) (st := []) (t_X11_codeOf l D ad cy (h := r_5) c_8) kw_1293 kw_70 kw_1290 kw_1292 kw_40 rfl (wM_0 ad cy r_5) hd_X11_codeOf ⟨Nat.le_of_ble_eq_true rfl, Nat.le_of_ble_eq_true rfl⟩ ⟨Nat.le_of_ble_eq_true rfl, Nat.le_of_ble_eq_true rfl⟩ rfl (Nat.le_of_ble_eq_true rfl) ?_
      cases E
      exact hret _ _ _ ⟨dX11_run_35, rfl⟩ rfl
    · refine g_iconst (pc' := 26) O ⟨dX11_run_25, rfl⟩ (v := (0 : Int32)) rfl ?_
      cases E
      exact hret _ _ _ ⟨dX11_run_26, rfl⟩ rfl
  · intro k15 hk15 E
    refine g_icmp_ne (pc' := 10) O ⟨dX11_run_7, rfl⟩ E (tgt := 14) (by decide) (fun E => ?_) (fun E => ?_)
    · refine g_iconst (pc' := 15) O ⟨dX11_run_14, rfl⟩ (v := (0 : Int32)) rfl ?_
      refine g_sub (lv' := [(0, .ref (ad 0))]) [0] rfl ?_
      exact hk15 _ E
    · refine g_iconst (pc' := 11) O ⟨dX11_run_10, rfl⟩ (v := (1 : Int32)) rfl ?_
      refine g_goto (pc' := 14) O ⟨dX11_run_11, rfl⟩ (tgt := 15) (by decide) ?_
      refine g_sub (lv' := [(0, .ref (ad 0))]) [0] rfl ?_
      exact hk15 _ E
set_option maxRecDepth 100000 in
set_option maxHeartbeats 4000000 in
theorem t_X11_out (l : Launch) (D : va_G) (ad : Nat → Nat) (cy : Nat → ClassId) {h : Hp} {x1 : Int32} {o : Int32} (E : f_X11_out h x1 = some o) : CtI l D cy (WM ad cy) yX11_out cX11_out 2 .int 1 29 [.ref (ad 0), .int x1] h o h := by
  refine sI (own := RX11) rfl rfl (Nat.le_of_ble_eq_true rfl) (fun X O hret => ?_)
  show G l D X 2 (WM ad cy) 0 0 h 0 [(0, .ref (ad 0)), (1, .int x1)] []
  unfold f_X11_out at E
  refine g_aload_n (pc' := 1) O ⟨dX11_out_0, rfl⟩ (q := 0) rfl rfl ?_
  refine g_iload_n (pc' := 2) O ⟨dX11_out_1, rfl⟩ (q := 1) rfl rfl ?_
  refine g_aload_n (pc' := 3) O ⟨dX11_out_2, rfl⟩ (q := 0) rfl rfl ?_
  refine gf_M_RX11_81_0 ad cy (pc' := 6) O ⟨dX11_out_3, rfl⟩ ?_
  refine g_iconst (pc' := 7) O ⟨dX11_out_6, rfl⟩ (v := (-1 : Int32)) rfl ?_
  refine g_iconst (pc' := 8) O ⟨dX11_out_7, rfl⟩ (v := (0 : Int32)) rfl ?_
  obtain ⟨r_1, c_2, E⟩ := bd_of E
  refine g_Vi (pc' := 11) O ⟨dX11_out_8, rfl⟩ (y := yX11_through) (As := [.int x1, .int (h.1 0 2), .int (-1 : Int32), .int (0 : Int32)]) (st := []) (t_X11_through l D ad cy (h := h) c_2) kw_1218 kw_70 kw_1215 kw_1217 kw_31 rfl (wM_0 ad cy h) hd_X11_through ⟨Nat.le_of_ble_eq_true rfl, Nat.le_of_ble_eq_true rfl⟩ ⟨Nat.le_of_ble_eq_true rfl, Nat.le_of_ble_eq_true rfl⟩ rfl (Nat.le_of_ble_eq_true rfl) ?_
  cases E
  exact hret _ _ _ ⟨dX11_out_11, rfl⟩ rfl
set_option maxRecDepth 100000 in
set_option maxHeartbeats 4000000 in
theorem t_X11_outputs (l : Launch) (D : va_G) (ad : Nat → Nat) (cy : Nat → ClassId) {h : Hp}  {o : Int64 × Hp} (E : f_X11_outputs h = some o) : CtL l D cy (WM ad cy) yX11_outputs cX11_outputs 4 2 50 [.ref (ad 0)] h o.1 o.2 := by
  refine sL (own := RX11) rfl rfl (Nat.le_of_ble_eq_true rfl) (fun X O hret => ?_)
  show G l D X 4 (WM ad cy) 0 0 h 0 [(0, .ref (ad 0))] []
  unfold f_X11_outputs at E
  refine g_aload_n (pc' := 1) O ⟨dX11_outputs_0, rfl⟩ (q := 0) rfl rfl ?_
  refine g_iconst (pc' := 2) O ⟨dX11_outputs_1, rfl⟩ (v := (0 : Int32)) rfl ?_
  refine gp_M_RX11_70_0 ad cy (pc' := 5) O ⟨dX11_outputs_2, rfl⟩ ?_
  refine g_nmh E (fun h_1 E => ?_)
  refine g_lconst (pc' := 6) O ⟨dX11_outputs_5, rfl⟩ (v := (0 : Int64)) rfl ?_
  refine g_lstore_n (pc' := 7) O ⟨dX11_outputs_6, rfl⟩ (lv' := [(1, .long (0 : Int64)), (0, .ref (ad 0))]) rfl (by decide) rfl ?_
  refine g_iconst (pc' := 8) O ⟨dX11_outputs_7, rfl⟩ (v := (0 : Int32)) rfl ?_
  refine g_istore_n (pc' := 9) O ⟨dX11_outputs_8, rfl⟩ (lv' := [(3, .int (0 : Int32)), (1, .long (0 : Int64)), (0, .ref (ad 0))]) rfl (by decide) rfl ?_
  refine jn1_of (P := fun (x1_2 : Int64) => G l D X 4 (WM ad cy) 0 0 h_1 35 [(1, .long x1_2)] []) E ?_ ?_
  · intro x1_2 E
    show G l D X 4 (WM ad cy) 0 0 h_1 35 [(1, .long x1_2)] []
    refine g_lload_n (pc' := 36) O ⟨dX11_outputs_35, rfl⟩ (q := 0) rfl rfl ?_
    cases E
    exact hret _ _ _ ⟨dX11_outputs_36, rfl⟩
  · intro k35 hk35 E
    refine g_sub (lv' := [(0, .ref (ad 0)), (1, .long (0 : Int64)), (3, .int (0 : Int32))]) [2, 1, 0] rfl ?_
    refine fx2_of (P := fun (x1_3 : Int64) (x3_4 : Int32) => G l D X 4 (WM ad cy) 0 0 h_1 9 [(0, .ref (ad 0)), (1, .long x1_3), (3, .int x3_4)] []) ?_ _ _ _ E
    intro self ih9 x1_3 x3_4 E
    show G l D X 4 (WM ad cy) 0 0 h_1 9 [(0, .ref (ad 0)), (1, .long x1_3), (3, .int x3_4)] []
    unfold L_X11_outputs_9 at E
    refine g_iload_n (pc' := 10) O ⟨dX11_outputs_9, rfl⟩ (q := 2) rfl rfl ?_
    refine g_iconst (pc' := 11) O ⟨dX11_outputs_10, rfl⟩ (v := (1 : Int32)) rfl ?_
    refine g_aload_n (pc' := 12) O ⟨dX11_outputs_11, rfl⟩ (q := 0) rfl rfl ?_
    refine gf_M_RX11_74_0 ad cy (pc' := 15) O ⟨dX11_outputs_12, rfl⟩ ?_
    refine g_ishl (pc' := 16) O ⟨dX11_outputs_15, rfl⟩ ?_
    refine g_icmp_ge (pc' := 19) O ⟨dX11_outputs_16, rfl⟩ E (tgt := 35) (by decide) (fun E => ?_) (fun E => ?_)
    · refine g_sub (lv' := [(1, .long x1_3)]) [1] rfl ?_
      exact hk35 _ E
    · refine g_lload_n (pc' := 20) O ⟨dX11_outputs_19, rfl⟩ (q := 1) rfl rfl ?_
      refine g_lconst (pc' := 21) O ⟨dX11_outputs_20, rfl⟩ (v := (1 : Int64)) rfl ?_
      refine g_aload_n (pc' := 22) O ⟨dX11_outputs_21, rfl⟩ (q := 0) rfl rfl ?_
      refine g_iload_n (pc' := 23) O ⟨dX11_outputs_22, rfl⟩ (q := 2) rfl rfl ?_
      obtain ⟨r_5, c_6, E⟩ := bd_of E
      refine g_Vi (pc' := 26) O ⟨dX11_outputs_23, rfl⟩ (y := yX11_out) (As := [.int x3_4]) (st := [.long (1 : Int64), .long x1_3]) (t_X11_out l D ad cy (h := h_1) c_6) kw_1301 kw_70 kw_1298 kw_1300 kw_41 rfl (wM_0 ad cy h_1) hd_X11_out ⟨Nat.le_of_ble_eq_true rfl, Nat.le_of_ble_eq_true rfl⟩ ⟨Nat.le_of_ble_eq_true rfl, Nat.le_of_ble_eq_true rfl⟩ rfl (Nat.le_of_ble_eq_true rfl) ?_
      refine g_lshl (pc' := 27) O ⟨dX11_outputs_26, rfl⟩ ?_
      refine g_lor (pc' := 28) O ⟨dX11_outputs_27, rfl⟩ ?_
      refine g_nmL E (fun y1_7 E => ?_)
      refine g_lstore_n (pc' := 29) O ⟨dX11_outputs_28, rfl⟩ (lv' := [(1, .long y1_7), (0, .ref (ad 0)), (3, .int x3_4)]) rfl (by decide) rfl ?_
      refine g_iinc (pc' := 32) O ⟨dX11_outputs_29, rfl⟩ (q := 2) (v := x3_4 + (1 : Int32)) (lv' := [(3, .int (x3_4 + (1 : Int32))), (1, .long y1_7), (0, .ref (ad 0))]) rfl rfl (by decide) rfl ?_
      refine g_goto (pc' := 35) O ⟨dX11_outputs_32, rfl⟩ (tgt := 9) (by decide) ?_
      refine g_sub (lv' := [(0, .ref (ad 0)), (1, .long y1_7), (3, .int (x3_4 + (1 : Int32)))]) [2, 1, 0] rfl ?_
      exact ih9 _ _ E
set_option maxRecDepth 100000 in
set_option maxHeartbeats 4000000 in
theorem t_X11_isSorted (l : Launch) (D : va_G) (ad : Nat → Nat) (cy : Nat → ClassId) {h : Hp} {x0 : Int32} {x1 : Int32} {x2 : Int32} {o : Int32} (E : f_X11_isSorted x0 x1 x2 = some o) : CtI l D cy (WM ad cy) yX11_isSorted cX11_isSorted 5 .boolean 0 0 [.int x0, .int x1, .int x2] h o h := by
  refine sI (own := RX11) rfl rfl (Nat.le_of_ble_eq_true rfl) (fun X O hret => ?_)
  show G l D X 5 (WM ad cy) 0 0 h 0 [(0, .int x0), (1, .int x1), (2, .int x2)] []
  unfold f_X11_isSorted at E
  refine g_iconst (pc' := 1) O ⟨dX11_isSorted_0, rfl⟩ (v := (1 : Int32)) rfl ?_
  refine g_istore_n (pc' := 2) O ⟨dX11_isSorted_1, rfl⟩ (lv' := [(3, .int (1 : Int32)), (0, .int x0), (1, .int x1), (2, .int x2)]) rfl (by decide) rfl ?_
  refine g_iload_n (pc' := 3) O ⟨dX11_isSorted_2, rfl⟩ (q := 2) rfl rfl ?_
  refine g_istore (pc' := 5) O ⟨dX11_isSorted_3, rfl⟩ (lv' := [(4, .int x1), (3, .int (1 : Int32)), (0, .int x0), (1, .int x1), (2, .int x2)]) (by decide) rfl ?_
  refine jn1_of (P := fun (x3_1 : Int32) => G l D X 5 (WM ad cy) 0 0 h 50 [(3, .int x3_1)] []) E ?_ ?_
  · intro x3_1 E
    show G l D X 5 (WM ad cy) 0 0 h 50 [(3, .int x3_1)] []
    refine g_iload_n (pc' := 51) O ⟨dX11_isSorted_50, rfl⟩ (q := 0) rfl rfl ?_
    obtain ⟨hn, E⟩ := ckz_of E
    cases E
    exact hret _ _ _ ⟨dX11_isSorted_51, rfl⟩ hn
  · intro k50 hk50 E
    refine g_sub (lv' := [(0, .int x0), (2, .int x2), (3, .int (1 : Int32)), (4, .int x1)]) [2, 4, 1, 0] rfl ?_
    refine fx2_of (P := fun (x3_2 : Int32) (x4_3 : Int32) => G l D X 5 (WM ad cy) 0 0 h 5 [(0, .int x0), (2, .int x2), (3, .int x3_2), (4, .int x4_3)] []) ?_ _ _ _ E
    intro self ih5 x3_2 x4_3 E
    show G l D X 5 (WM ad cy) 0 0 h 5 [(0, .int x0), (2, .int x2), (3, .int x3_2), (4, .int x4_3)] []
    unfold L_X11_isSorted_5 at E
    refine g_iload (pc' := 7) O ⟨dX11_isSorted_5, rfl⟩ (q := 3) rfl ?_
    refine g_iconst (pc' := 8) O ⟨dX11_isSorted_7, rfl⟩ (v := (1 : Int32)) rfl ?_
    refine g_iadd (pc' := 9) O ⟨dX11_isSorted_8, rfl⟩ ?_
    refine g_iload_n (pc' := 10) O ⟨dX11_isSorted_9, rfl⟩ (q := 1) rfl rfl ?_
    refine g_icmp_ge (pc' := 13) O ⟨dX11_isSorted_10, rfl⟩ E (tgt := 50) (by decide) (fun E => ?_) (fun E => ?_)
    · refine g_sub (lv' := [(3, .int x3_2)]) [2] rfl ?_
      exact hk50 _ E
    · refine g_iload_n (pc' := 14) O ⟨dX11_isSorted_13, rfl⟩ (q := 2) rfl rfl ?_
      refine g_if_eq (pc' := 17) O ⟨dX11_isSorted_14, rfl⟩ E (tgt := 42) (by decide) (fun E => ?_) (fun E => ?_)
      · refine g_iconst (pc' := 43) O ⟨dX11_isSorted_42, rfl⟩ (v := (0 : Int32)) rfl ?_
        refine g_istore_n (pc' := 44) O ⟨dX11_isSorted_43, rfl⟩ (lv' := [(3, .int (0 : Int32)), (0, .int x0), (2, .int x2), (4, .int x4_3)]) rfl (by decide) rfl ?_
        refine g_iinc (pc' := 47) O ⟨dX11_isSorted_44, rfl⟩ (q := 3) (v := x4_3 + (1 : Int32)) (lv' := [(4, .int (x4_3 + (1 : Int32))), (3, .int (0 : Int32)), (0, .int x0), (2, .int x2)]) rfl rfl (by decide) rfl ?_
        refine g_goto (pc' := 50) O ⟨dX11_isSorted_47, rfl⟩ (tgt := 5) (by decide) ?_
        refine g_sub (lv' := [(0, .int x0), (2, .int x2), (3, .int (0 : Int32)), (4, .int (x4_3 + (1 : Int32)))]) [2, 3, 1, 0] rfl ?_
        exact ih5 _ _ E
      · refine g_iload_n (pc' := 18) O ⟨dX11_isSorted_17, rfl⟩ (q := 0) rfl rfl ?_
        refine g_iload (pc' := 20) O ⟨dX11_isSorted_18, rfl⟩ (q := 3) rfl ?_
        refine g_ishr (pc' := 21) O ⟨dX11_isSorted_20, rfl⟩ ?_
        refine g_iconst (pc' := 22) O ⟨dX11_isSorted_21, rfl⟩ (v := (1 : Int32)) rfl ?_
        refine g_iand (pc' := 23) O ⟨dX11_isSorted_22, rfl⟩ ?_
        refine jn0_of (P := G l D X 5 (WM ad cy) 0 0 h 38 [(0, .int x0), (2, .int x2), (4, .int x4_3)] []) E ?_ ?_
        · intro E
          show G l D X 5 (WM ad cy) 0 0 h 38 [(0, .int x0), (2, .int x2), (4, .int x4_3)] []
          refine g_iconst (pc' := 39) O ⟨dX11_isSorted_38, rfl⟩ (v := (1 : Int32)) rfl ?_
          refine g_goto (pc' := 42) O ⟨dX11_isSorted_39, rfl⟩ (tgt := 43) (by decide) ?_
          refine g_istore_n (pc' := 44) O ⟨dX11_isSorted_43, rfl⟩ (lv' := [(3, .int (1 : Int32)), (0, .int x0), (2, .int x2), (4, .int x4_3)]) rfl (by decide) rfl ?_
          refine g_iinc (pc' := 47) O ⟨dX11_isSorted_44, rfl⟩ (q := 3) (v := x4_3 + (1 : Int32)) (lv' := [(4, .int (x4_3 + (1 : Int32))), (3, .int (1 : Int32)), (0, .int x0), (2, .int x2)]) rfl rfl (by decide) rfl ?_
          refine g_goto (pc' := 50) O ⟨dX11_isSorted_47, rfl⟩ (tgt := 5) (by decide) ?_
          refine g_sub (lv' := [(0, .int x0), (2, .int x2), (3, .int (1 : Int32)), (4, .int (x4_3 + (1 : Int32)))]) [2, 3, 1, 0] rfl ?_
          exact ih5 _ _ E
        · intro k38 hk38 E
          refine g_if_eq (pc' := 26) O ⟨dX11_isSorted_23, rfl⟩ E (tgt := 38) (by decide) (fun E => ?_) (fun E => ?_)
          · refine g_sub (lv' := [(0, .int x0), (2, .int x2), (4, .int x4_3)]) [0, 1, 3] rfl ?_
            exact hk38 E
          · refine g_iload_n (pc' := 27) O ⟨dX11_isSorted_26, rfl⟩ (q := 0) rfl rfl ?_
            refine g_iload (pc' := 29) O ⟨dX11_isSorted_27, rfl⟩ (q := 3) rfl ?_
            refine g_iconst (pc' := 30) O ⟨dX11_isSorted_29, rfl⟩ (v := (1 : Int32)) rfl ?_
            refine g_iadd (pc' := 31) O ⟨dX11_isSorted_30, rfl⟩ ?_
            refine g_ishr (pc' := 32) O ⟨dX11_isSorted_31, rfl⟩ ?_
            refine g_iconst (pc' := 33) O ⟨dX11_isSorted_32, rfl⟩ (v := (1 : Int32)) rfl ?_
            refine g_iand (pc' := 34) O ⟨dX11_isSorted_33, rfl⟩ ?_
            refine g_iconst (pc' := 35) O ⟨dX11_isSorted_34, rfl⟩ (v := (1 : Int32)) rfl ?_
            refine g_icmp_ne (pc' := 38) O ⟨dX11_isSorted_35, rfl⟩ E (tgt := 42) (by decide) (fun E => ?_) (fun E => ?_)
            · refine g_iconst (pc' := 43) O ⟨dX11_isSorted_42, rfl⟩ (v := (0 : Int32)) rfl ?_
              refine g_istore_n (pc' := 44) O ⟨dX11_isSorted_43, rfl⟩ (lv' := [(3, .int (0 : Int32)), (0, .int x0), (2, .int x2), (4, .int x4_3)]) rfl (by decide) rfl ?_
              refine g_iinc (pc' := 47) O ⟨dX11_isSorted_44, rfl⟩ (q := 3) (v := x4_3 + (1 : Int32)) (lv' := [(4, .int (x4_3 + (1 : Int32))), (3, .int (0 : Int32)), (0, .int x0), (2, .int x2)]) rfl rfl (by decide) rfl ?_
              refine g_goto (pc' := 50) O ⟨dX11_isSorted_47, rfl⟩ (tgt := 5) (by decide) ?_
              refine g_sub (lv' := [(0, .int x0), (2, .int x2), (3, .int (0 : Int32)), (4, .int (x4_3 + (1 : Int32)))]) [2, 3, 1, 0] rfl ?_
              exact ih5 _ _ E
            · refine g_sub (lv' := [(0, .int x0), (2, .int x2), (4, .int x4_3)]) [0, 1, 3] rfl ?_
              exact hk38 E
set_option maxRecDepth 100000 in
set_option maxHeartbeats 4000000 in
theorem t_X11_unsorted (l : Launch) (D : va_G) (ad : Nat → Nat) (cy : Nat → ClassId) {h : Hp} {x1 : Int32} {x2 : Int32} {o : Int32} (E : f_X11_unsorted h x1 x2 = some o) : CtI l D cy (WM ad cy) yX11_unsorted cX11_unsorted 5 .int 1 29 [.ref (ad 0), .int x1, .int x2] h o h := by
  refine sI (own := RX11) rfl rfl (Nat.le_of_ble_eq_true rfl) (fun X O hret => ?_)
  show G l D X 5 (WM ad cy) 0 0 h 0 [(0, .ref (ad 0)), (1, .int x1), (2, .int x2)] []
  unfold f_X11_unsorted at E
  refine g_iconst (pc' := 1) O ⟨dX11_unsorted_0, rfl⟩ (v := (0 : Int32)) rfl ?_
  refine g_istore_n (pc' := 2) O ⟨dX11_unsorted_1, rfl⟩ (lv' := [(3, .int (0 : Int32)), (0, .ref (ad 0)), (1, .int x1), (2, .int x2)]) rfl (by decide) rfl ?_
  refine g_iconst (pc' := 3) O ⟨dX11_unsorted_2, rfl⟩ (v := (0 : Int32)) rfl ?_
  refine g_istore (pc' := 5) O ⟨dX11_unsorted_3, rfl⟩ (lv' := [(4, .int (0 : Int32)), (3, .int (0 : Int32)), (0, .ref (ad 0)), (1, .int x1), (2, .int x2)]) (by decide) rfl ?_
  refine jn1_of (P := fun (x3_1 : Int32) => G l D X 5 (WM ad cy) 0 0 h 53 [(3, .int x3_1)] []) E ?_ ?_
  · intro x3_1 E
    show G l D X 5 (WM ad cy) 0 0 h 53 [(3, .int x3_1)] []
    refine g_iload_n (pc' := 54) O ⟨dX11_unsorted_53, rfl⟩ (q := 0) rfl rfl ?_
    cases E
    exact hret _ _ _ ⟨dX11_unsorted_54, rfl⟩ rfl
  · intro k53 hk53 E
    refine g_sub (lv' := [(0, .ref (ad 0)), (1, .int x1), (2, .int x2), (3, .int (0 : Int32)), (4, .int (0 : Int32))]) [2, 3, 4, 1, 0] rfl ?_
    refine fx2_of (P := fun (x3_2 : Int32) (x4_3 : Int32) => G l D X 5 (WM ad cy) 0 0 h 5 [(0, .ref (ad 0)), (1, .int x1), (2, .int x2), (3, .int x3_2), (4, .int x4_3)] []) ?_ _ _ _ E
    intro self ih5 x3_2 x4_3 E
    show G l D X 5 (WM ad cy) 0 0 h 5 [(0, .ref (ad 0)), (1, .int x1), (2, .int x2), (3, .int x3_2), (4, .int x4_3)] []
    unfold L_X11_unsorted_5 at E
    refine g_iload (pc' := 7) O ⟨dX11_unsorted_5, rfl⟩ (q := 4) rfl ?_
    refine g_iconst (pc' := 8) O ⟨dX11_unsorted_7, rfl⟩ (v := (1 : Int32)) rfl ?_
    refine g_aload_n (pc' := 9) O ⟨dX11_unsorted_8, rfl⟩ (q := 0) rfl rfl ?_
    refine gf_M_RX11_74_0 ad cy (pc' := 12) O ⟨dX11_unsorted_9, rfl⟩ ?_
    refine g_ishl (pc' := 13) O ⟨dX11_unsorted_12, rfl⟩ ?_
    refine g_icmp_ge (pc' := 16) O ⟨dX11_unsorted_13, rfl⟩ E (tgt := 53) (by decide) (fun E => ?_) (fun E => ?_)
    · refine g_sub (lv' := [(3, .int x3_2)]) [3] rfl ?_
      exact hk53 _ E
    · refine g_iload_n (pc' := 17) O ⟨dX11_unsorted_16, rfl⟩ (q := 3) rfl rfl ?_
      refine g_aload_n (pc' := 18) O ⟨dX11_unsorted_17, rfl⟩ (q := 0) rfl rfl ?_
      refine g_iload (pc' := 20) O ⟨dX11_unsorted_18, rfl⟩ (q := 4) rfl ?_
      refine g_aload_n (pc' := 21) O ⟨dX11_unsorted_20, rfl⟩ (q := 0) rfl rfl ?_
      refine gf_M_RX11_81_0 ad cy (pc' := 24) O ⟨dX11_unsorted_21, rfl⟩ ?_
      refine g_iload_n (pc' := 25) O ⟨dX11_unsorted_24, rfl⟩ (q := 1) rfl rfl ?_
      refine g_iload_n (pc' := 26) O ⟨dX11_unsorted_25, rfl⟩ (q := 2) rfl rfl ?_
      obtain ⟨r_4, c_5, E⟩ := bd_of E
      refine g_Vi (pc' := 29) O ⟨dX11_unsorted_26, rfl⟩ (y := yX11_through) (As := [.int x4_3, .int (h.1 0 2), .int x1, .int x2]) (st := [.int x3_2]) (t_X11_through l D ad cy (h := h) c_5) kw_1218 kw_70 kw_1215 kw_1217 kw_31 rfl (wM_0 ad cy h) hd_X11_through ⟨Nat.le_of_ble_eq_true rfl, Nat.le_of_ble_eq_true rfl⟩ ⟨Nat.le_of_ble_eq_true rfl, Nat.le_of_ble_eq_true rfl⟩ rfl (Nat.le_of_ble_eq_true rfl) ?_
      refine g_iconst (pc' := 30) O ⟨dX11_unsorted_29, rfl⟩ (v := (0 : Int32)) rfl ?_
      refine g_aload_n (pc' := 31) O ⟨dX11_unsorted_30, rfl⟩ (q := 0) rfl rfl ?_
      refine gf_M_RX11_74_0 ad cy (pc' := 34) O ⟨dX11_unsorted_31, rfl⟩ ?_
      obtain ⟨r_6, c_7, E⟩ := bd_of E
      refine g_Si (pc' := 37) O ⟨dX11_unsorted_34, rfl⟩ (y := yX11_isSorted) (As := [.int r_4, .int (0 : Int32), .int (h.1 0 1)]) (st := [.int x3_2]) (t_X11_isSorted l D ad cy (h := h) c_7) kw_1312 kw_70 kw_1310 kw_1311 hd_X11_isSorted ⟨Nat.le_of_ble_eq_true rfl, Nat.le_of_ble_eq_true rfl⟩ ⟨Nat.le_of_ble_eq_true rfl, Nat.le_of_ble_eq_true rfl⟩ rfl (Nat.le_of_ble_eq_true rfl) ?_
      refine g_if_eq (pc' := 40) O ⟨dX11_unsorted_37, rfl⟩ E (tgt := 44) (by decide) (fun E => ?_) (fun E => ?_)
      · refine g_iconst (pc' := 45) O ⟨dX11_unsorted_44, rfl⟩ (v := (1 : Int32)) rfl ?_
        refine g_iadd (pc' := 46) O ⟨dX11_unsorted_45, rfl⟩ ?_
        refine g_nm E (fun y3_8 E => ?_)
        refine g_istore_n (pc' := 47) O ⟨dX11_unsorted_46, rfl⟩ (lv' := [(3, .int y3_8), (0, .ref (ad 0)), (1, .int x1), (2, .int x2), (4, .int x4_3)]) rfl (by decide) rfl ?_
        refine g_iinc (pc' := 50) O ⟨dX11_unsorted_47, rfl⟩ (q := 4) (v := x4_3 + (1 : Int32)) (lv' := [(4, .int (x4_3 + (1 : Int32))), (3, .int y3_8), (0, .ref (ad 0)), (1, .int x1), (2, .int x2)]) rfl rfl (by decide) rfl ?_
        refine g_goto (pc' := 53) O ⟨dX11_unsorted_50, rfl⟩ (tgt := 5) (by decide) ?_
        refine g_sub (lv' := [(0, .ref (ad 0)), (1, .int x1), (2, .int x2), (3, .int y3_8), (4, .int (x4_3 + (1 : Int32)))]) [2, 3, 4, 1, 0] rfl ?_
        exact ih5 _ _ E
      · refine g_iconst (pc' := 41) O ⟨dX11_unsorted_40, rfl⟩ (v := (0 : Int32)) rfl ?_
        refine g_goto (pc' := 44) O ⟨dX11_unsorted_41, rfl⟩ (tgt := 45) (by decide) ?_
        refine g_iadd (pc' := 46) O ⟨dX11_unsorted_45, rfl⟩ ?_
        refine g_nm E (fun y3_9 E => ?_)
        refine g_istore_n (pc' := 47) O ⟨dX11_unsorted_46, rfl⟩ (lv' := [(3, .int y3_9), (0, .ref (ad 0)), (1, .int x1), (2, .int x2), (4, .int x4_3)]) rfl (by decide) rfl ?_
        refine g_iinc (pc' := 50) O ⟨dX11_unsorted_47, rfl⟩ (q := 4) (v := x4_3 + (1 : Int32)) (lv' := [(4, .int (x4_3 + (1 : Int32))), (3, .int y3_9), (0, .ref (ad 0)), (1, .int x1), (2, .int x2)]) rfl rfl (by decide) rfl ?_
        refine g_goto (pc' := 53) O ⟨dX11_unsorted_50, rfl⟩ (tgt := 5) (by decide) ?_
        refine g_sub (lv' := [(0, .ref (ad 0)), (1, .int x1), (2, .int x2), (3, .int y3_9), (4, .int (x4_3 + (1 : Int32)))]) [2, 3, 4, 1, 0] rfl ?_
        exact ih5 _ _ E
set_option maxRecDepth 100000 in
set_option maxHeartbeats 4000000 in
theorem t_X11_sorts (l : Launch) (D : va_G) (ad : Nat → Nat) (cy : Nat → ClassId) {h : Hp}  {o : Int32 × Hp} (E : f_X11_sorts h = some o) : CtI l D cy (WM ad cy) yX11_sorts cX11_sorts 1 .boolean 2 53 [.ref (ad 0)] h o.1 o.2 := by
  refine sI (own := RX11) rfl rfl (Nat.le_of_ble_eq_true rfl) (fun X O hret => ?_)
  show G l D X 1 (WM ad cy) 0 0 h 0 [(0, .ref (ad 0))] []
  unfold f_X11_sorts at E
  refine g_aload_n (pc' := 1) O ⟨dX11_sorts_0, rfl⟩ (q := 0) rfl rfl ?_
  refine g_iconst (pc' := 2) O ⟨dX11_sorts_1, rfl⟩ (v := (0 : Int32)) rfl ?_
  refine gp_M_RX11_70_0 ad cy (pc' := 5) O ⟨dX11_sorts_2, rfl⟩ ?_
  refine g_nmh E (fun h_1 E => ?_)
  refine g_aload_n (pc' := 6) O ⟨dX11_sorts_5, rfl⟩ (q := 0) rfl rfl ?_
  refine g_iconst (pc' := 7) O ⟨dX11_sorts_6, rfl⟩ (v := (-1 : Int32)) rfl ?_
  refine g_iconst (pc' := 8) O ⟨dX11_sorts_7, rfl⟩ (v := (0 : Int32)) rfl ?_
  obtain ⟨r_2, c_3, E⟩ := bd_of E
  refine g_Vi (pc' := 11) O ⟨dX11_sorts_8, rfl⟩ (y := yX11_unsorted) (As := [.int (-1 : Int32), .int (0 : Int32)]) (st := []) (t_X11_unsorted l D ad cy (h := h_1) c_3) kw_1309 kw_70 kw_1306 kw_1308 kw_42 rfl (wM_0 ad cy h_1) hd_X11_unsorted ⟨Nat.le_of_ble_eq_true rfl, Nat.le_of_ble_eq_true rfl⟩ ⟨Nat.le_of_ble_eq_true rfl, Nat.le_of_ble_eq_true rfl⟩ rfl (Nat.le_of_ble_eq_true rfl) ?_
  refine g_if_ne (pc' := 14) O ⟨dX11_sorts_11, rfl⟩ E (tgt := 18) (by decide) (fun E => ?_) (fun E => ?_)
  · refine g_iconst (pc' := 19) O ⟨dX11_sorts_18, rfl⟩ (v := (0 : Int32)) rfl ?_
    obtain ⟨hn, E⟩ := ckz_of E
    cases E
    exact hret _ _ _ ⟨dX11_sorts_19, rfl⟩ hn
  · refine g_iconst (pc' := 15) O ⟨dX11_sorts_14, rfl⟩ (v := (1 : Int32)) rfl ?_
    refine g_goto (pc' := 18) O ⟨dX11_sorts_15, rfl⟩ (tgt := 19) (by decide) ?_
    obtain ⟨hn, E⟩ := ckz_of E
    cases E
    exact hret _ _ _ ⟨dX11_sorts_19, rfl⟩ hn
set_option maxRecDepth 100000 in
set_option maxHeartbeats 4000000 in
theorem t_X11_sorted (l : Launch) (D : va_G) (ad : Nat → Nat) (cy : Nat → ClassId) {h : Hp}  {o : Int32 × Hp} (E : f_X11_sorted h = some o) : CtI l D cy (WM ad cy) yX11_sorted cX11_sorted 3 .int 2 46 [.ref (ad 0)] h o.1 o.2 := by
  refine sI (own := RX11) rfl rfl (Nat.le_of_ble_eq_true rfl) (fun X O hret => ?_)
  show G l D X 3 (WM ad cy) 0 0 h 0 [(0, .ref (ad 0))] []
  unfold f_X11_sorted at E
  refine g_aload_n (pc' := 1) O ⟨dX11_sorted_0, rfl⟩ (q := 0) rfl rfl ?_
  refine g_iconst (pc' := 2) O ⟨dX11_sorted_1, rfl⟩ (v := (0 : Int32)) rfl ?_
  refine gp_M_RX11_70_0 ad cy (pc' := 5) O ⟨dX11_sorted_2, rfl⟩ ?_
  refine g_nmh E (fun h_1 E => ?_)
  refine g_iconst (pc' := 6) O ⟨dX11_sorted_5, rfl⟩ (v := (0 : Int32)) rfl ?_
  refine g_istore_n (pc' := 7) O ⟨dX11_sorted_6, rfl⟩ (lv' := [(1, .int (0 : Int32)), (0, .ref (ad 0))]) rfl (by decide) rfl ?_
  refine g_iconst (pc' := 8) O ⟨dX11_sorted_7, rfl⟩ (v := (0 : Int32)) rfl ?_
  refine g_istore_n (pc' := 9) O ⟨dX11_sorted_8, rfl⟩ (lv' := [(2, .int (0 : Int32)), (1, .int (0 : Int32)), (0, .ref (ad 0))]) rfl (by decide) rfl ?_
  refine jn2_of (P := fun (x1_2 : Int32) (h_3 : Hp) => G l D X 3 (WM ad cy) 0 0 h_3 47 [(1, .int x1_2)] []) E ?_ ?_
  · intro x1_2 h_3 E
    show G l D X 3 (WM ad cy) 0 0 h_3 47 [(1, .int x1_2)] []
    refine g_iload_n (pc' := 48) O ⟨dX11_sorted_47, rfl⟩ (q := 0) rfl rfl ?_
    cases E
    exact hret _ _ _ ⟨dX11_sorted_48, rfl⟩ rfl
  · intro k47 hk47 E
    refine g_sub (lv' := [(0, .ref (ad 0)), (1, .int (0 : Int32)), (2, .int (0 : Int32))]) [2, 1, 0] rfl ?_
    refine fx3_of (P := fun (x1_4 : Int32) (x2_5 : Int32) (h_6 : Hp) => G l D X 3 (WM ad cy) 0 0 h_6 9 [(0, .ref (ad 0)), (1, .int x1_4), (2, .int x2_5)] []) ?_ _ _ _ _ E
    intro self ih9 x1_4 x2_5 h_6 E
    show G l D X 3 (WM ad cy) 0 0 h_6 9 [(0, .ref (ad 0)), (1, .int x1_4), (2, .int x2_5)] []
    unfold L_X11_sorted_9 at E
    refine g_iload_n (pc' := 10) O ⟨dX11_sorted_9, rfl⟩ (q := 2) rfl rfl ?_
    refine g_aload_n (pc' := 11) O ⟨dX11_sorted_10, rfl⟩ (q := 0) rfl rfl ?_
    refine gf_M_RX11_88_0 ad cy (pc' := 14) O ⟨dX11_sorted_11, rfl⟩ ?_
    refine g_icmp_ge (pc' := 17) O ⟨dX11_sorted_14, rfl⟩ E (tgt := 47) (by decide) (fun E => ?_) (fun E => ?_)
    · refine g_sub (lv' := [(1, .int x1_4)]) [1] rfl ?_
      exact hk47 _ _ E
    · refine g_aload_n (pc' := 18) O ⟨dX11_sorted_17, rfl⟩ (q := 0) rfl rfl ?_
      refine g_iload_n (pc' := 19) O ⟨dX11_sorted_18, rfl⟩ (q := 2) rfl rfl ?_
      obtain ⟨r_7, c_8, E⟩ := bd_of E
      refine g_Vv (pc' := 22) O ⟨dX11_sorted_19, rfl⟩ (y := yX11_lays) (As := [.int x2_5]) (st := []) (t_X11_lays l D ad cy (h := h_6) c_8) kw_1320 kw_70 kw_1317 kw_1319 kw_43 rfl (wM_0 ad cy h_6) hd_X11_lays ⟨Nat.le_of_ble_eq_true rfl, Nat.le_of_ble_eq_true rfl⟩ ⟨Nat.le_of_ble_eq_true rfl, Nat.le_of_ble_eq_true rfl⟩ rfl (Nat.le_of_ble_eq_true rfl) ?_
      refine g_aload_n (pc' := 23) O ⟨dX11_sorted_22, rfl⟩ (q := 0) rfl rfl ?_
      obtain ⟨r_9, c_10, E⟩ := bd_of E
      refine g_Vv (pc' := 26) O ⟨dX11_sorted_23, rfl⟩ (y := yX11_goes) (As := []) (st := []) (t_X11_goes l D ad cy (h := r_7) c_10) kw_1285 kw_70 kw_1282 kw_1284 kw_38 rfl (wM_0 ad cy r_7) hd_X11_goes ⟨Nat.le_of_ble_eq_true rfl, Nat.le_of_ble_eq_true rfl⟩ ⟨Nat.le_of_ble_eq_true rfl, Nat.le_of_ble_eq_true rfl⟩ rfl (Nat.le_of_ble_eq_true rfl) ?_
      refine g_iload_n (pc' := 27) O ⟨dX11_sorted_26, rfl⟩ (q := 1) rfl rfl ?_
      refine g_aload_n (pc' := 28) O ⟨dX11_sorted_27, rfl⟩ (q := 0) rfl rfl ?_
      obtain ⟨r_11, c_12, E⟩ := bd_of E
      refine g_Vi (pc' := 31) O ⟨dX11_sorted_28, rfl⟩ (y := yX11_numberOf) (As := []) (st := [.int x1_4]) (t_X11_numberOf l D ad cy (h := r_9) c_12) kw_1281 kw_70 kw_1278 kw_1280 kw_37 rfl (wM_0 ad cy r_9) hd_X11_numberOf ⟨Nat.le_of_ble_eq_true rfl, Nat.le_of_ble_eq_true rfl⟩ ⟨Nat.le_of_ble_eq_true rfl, Nat.le_of_ble_eq_true rfl⟩ rfl (Nat.le_of_ble_eq_true rfl) ?_
      refine g_if_ne (pc' := 34) O ⟨dX11_sorted_31, rfl⟩ E (tgt := 38) (by decide) (fun E => ?_) (fun E => ?_)
      · refine g_iconst (pc' := 39) O ⟨dX11_sorted_38, rfl⟩ (v := (0 : Int32)) rfl ?_
        refine g_iadd (pc' := 40) O ⟨dX11_sorted_39, rfl⟩ ?_
        refine g_nm E (fun y1_13 E => ?_)
        refine g_istore_n (pc' := 41) O ⟨dX11_sorted_40, rfl⟩ (lv' := [(1, .int y1_13), (0, .ref (ad 0)), (2, .int x2_5)]) rfl (by decide) rfl ?_
        refine g_iinc (pc' := 44) O ⟨dX11_sorted_41, rfl⟩ (q := 2) (v := x2_5 + (1 : Int32)) (lv' := [(2, .int (x2_5 + (1 : Int32))), (1, .int y1_13), (0, .ref (ad 0))]) rfl rfl (by decide) rfl ?_
        refine g_goto (pc' := 47) O ⟨dX11_sorted_44, rfl⟩ (tgt := 9) (by decide) ?_
        refine g_sub (lv' := [(0, .ref (ad 0)), (1, .int y1_13), (2, .int (x2_5 + (1 : Int32)))]) [2, 1, 0] rfl ?_
        exact ih9 _ _ _ E
      · refine g_iconst (pc' := 35) O ⟨dX11_sorted_34, rfl⟩ (v := (1 : Int32)) rfl ?_
        refine g_goto (pc' := 38) O ⟨dX11_sorted_35, rfl⟩ (tgt := 39) (by decide) ?_
        refine g_iadd (pc' := 40) O ⟨dX11_sorted_39, rfl⟩ ?_
        refine g_nm E (fun y1_14 E => ?_)
        refine g_istore_n (pc' := 41) O ⟨dX11_sorted_40, rfl⟩ (lv' := [(1, .int y1_14), (0, .ref (ad 0)), (2, .int x2_5)]) rfl (by decide) rfl ?_
        refine g_iinc (pc' := 44) O ⟨dX11_sorted_41, rfl⟩ (q := 2) (v := x2_5 + (1 : Int32)) (lv' := [(2, .int (x2_5 + (1 : Int32))), (1, .int y1_14), (0, .ref (ad 0))]) rfl rfl (by decide) rfl ?_
        refine g_goto (pc' := 47) O ⟨dX11_sorted_44, rfl⟩ (tgt := 9) (by decide) ?_
        refine g_sub (lv' := [(0, .ref (ad 0)), (1, .int y1_14), (2, .int (x2_5 + (1 : Int32)))]) [2, 1, 0] rfl ?_
        exact ih9 _ _ _ E
set_option maxRecDepth 100000 in
set_option maxHeartbeats 4000000 in
theorem t_X11_wrong (l : Launch) (D : va_G) (ad : Nat → Nat) (cy : Nat → ClassId) {h : Hp} {x1 : Int32} {o : Int32 × Hp} (E : f_X11_wrong h x1 = some o) : CtI l D cy (WM ad cy) yX11_wrong cX11_wrong 4 .int 2 50 [.ref (ad 0), .int x1] h o.1 o.2 := by
  refine sI (own := RX11) rfl rfl (Nat.le_of_ble_eq_true rfl) (fun X O hret => ?_)
  show G l D X 4 (WM ad cy) 0 0 h 0 [(0, .ref (ad 0)), (1, .int x1)] []
  unfold f_X11_wrong at E
  refine g_aload_n (pc' := 1) O ⟨dX11_wrong_0, rfl⟩ (q := 0) rfl rfl ?_
  refine g_iload_n (pc' := 2) O ⟨dX11_wrong_1, rfl⟩ (q := 1) rfl rfl ?_
  refine jn1_of (P := fun (z_1 : Int32) => G l D X 4 (WM ad cy) 0 0 h 10 [(0, .ref (ad 0)), (1, .int x1)] [.int z_1, .ref (ad 0)]) E ?_ ?_
  · intro z_1 E
    show G l D X 4 (WM ad cy) 0 0 h 10 [(0, .ref (ad 0)), (1, .int x1)] [.int z_1, .ref (ad 0)]
    refine gp_M_RX11_70_0 ad cy (pc' := 13) O ⟨dX11_wrong_10, rfl⟩ ?_
    refine g_nmh E (fun h_2 E => ?_)
    refine g_iload_n (pc' := 14) O ⟨dX11_wrong_13, rfl⟩ (q := 1) rfl rfl ?_
    refine g_istore_n (pc' := 15) O ⟨dX11_wrong_14, rfl⟩ (lv' := [(2, .int x1), (0, .ref (ad 0)), (1, .int x1)]) rfl (by decide) rfl ?_
    refine g_iconst (pc' := 16) O ⟨dX11_wrong_15, rfl⟩ (v := (0 : Int32)) rfl ?_
    refine g_istore_n (pc' := 17) O ⟨dX11_wrong_16, rfl⟩ (lv' := [(3, .int (0 : Int32)), (2, .int x1), (0, .ref (ad 0)), (1, .int x1)]) rfl (by decide) rfl ?_
    refine jn0_of (P := G l D X 4 (WM ad cy) 0 0 h_2 65 [(0, .ref (ad 0))] []) E ?_ ?_
    · intro E
      show G l D X 4 (WM ad cy) 0 0 h_2 65 [(0, .ref (ad 0))] []
      refine g_aload_n (pc' := 66) O ⟨dX11_wrong_65, rfl⟩ (q := 0) rfl rfl ?_
      refine gf_M_RX11_70_0 ad cy (pc' := 69) O ⟨dX11_wrong_66, rfl⟩ ?_
      refine g_if_le (pc' := 72) O ⟨dX11_wrong_69, rfl⟩ E (tgt := 76) (by decide) (fun E => ?_) (fun E => ?_)
      · refine g_iconst (pc' := 77) O ⟨dX11_wrong_76, rfl⟩ (v := (-1 : Int32)) rfl ?_
        cases E
        exact hret _ _ _ ⟨dX11_wrong_77, rfl⟩ rfl
      · refine g_iconst (pc' := 73) O ⟨dX11_wrong_72, rfl⟩ (v := (0 : Int32)) rfl ?_
        refine g_goto (pc' := 76) O ⟨dX11_wrong_73, rfl⟩ (tgt := 77) (by decide) ?_
        cases E
        exact hret _ _ _ ⟨dX11_wrong_77, rfl⟩ rfl
    · intro k65 hk65 E
      refine jn1_of (P := fun (x3_3 : Int32) => G l D X 4 (WM ad cy) 0 0 h_2 54 [(3, .int x3_3)] []) E ?_ ?_
      · intro x3_3 E
        show G l D X 4 (WM ad cy) 0 0 h_2 54 [(3, .int x3_3)] []
        refine g_iload_n (pc' := 55) O ⟨dX11_wrong_54, rfl⟩ (q := 0) rfl rfl ?_
        cases E
        exact hret _ _ _ ⟨dX11_wrong_55, rfl⟩ rfl
      · intro k54 hk54 E
        refine g_sub (lv' := [(0, .ref (ad 0)), (2, .int x1), (3, .int (0 : Int32))]) [2, 1, 0] rfl ?_
        refine fx2_of (P := fun (x2_4 : Int32) (x3_5 : Int32) => G l D X 4 (WM ad cy) 0 0 h_2 17 [(0, .ref (ad 0)), (2, .int x2_4), (3, .int x3_5)] []) ?_ _ _ _ E
        intro self ih17 x2_4 x3_5 E
        show G l D X 4 (WM ad cy) 0 0 h_2 17 [(0, .ref (ad 0)), (2, .int x2_4), (3, .int x3_5)] []
        unfold L_X11_wrong_17 at E
        refine g_iload_n (pc' := 18) O ⟨dX11_wrong_17, rfl⟩ (q := 2) rfl rfl ?_
        refine g_iconst (pc' := 19) O ⟨dX11_wrong_18, rfl⟩ (v := (1 : Int32)) rfl ?_
        refine g_aload_n (pc' := 20) O ⟨dX11_wrong_19, rfl⟩ (q := 0) rfl rfl ?_
        refine gf_M_RX11_74_0 ad cy (pc' := 23) O ⟨dX11_wrong_20, rfl⟩ ?_
        refine g_ishl (pc' := 24) O ⟨dX11_wrong_23, rfl⟩ ?_
        refine g_icmp_ge (pc' := 27) O ⟨dX11_wrong_24, rfl⟩ E (tgt := 65) (by decide) (fun E => ?_) (fun E => ?_)
        · refine g_sub (lv' := [(0, .ref (ad 0))]) [0] rfl ?_
          exact hk65 E
        · refine g_aload_n (pc' := 28) O ⟨dX11_wrong_27, rfl⟩ (q := 0) rfl rfl ?_
          refine gf_M_RX11_70_0 ad cy (pc' := 31) O ⟨dX11_wrong_28, rfl⟩ ?_
          refine g_if_ne (pc' := 34) O ⟨dX11_wrong_31, rfl⟩ E (tgt := 65) (by decide) (fun E => ?_) (fun E => ?_)
          · refine g_sub (lv' := [(0, .ref (ad 0))]) [0] rfl ?_
            exact hk65 E
          · refine g_aload_n (pc' := 35) O ⟨dX11_wrong_34, rfl⟩ (q := 0) rfl rfl ?_
            refine g_iload_n (pc' := 36) O ⟨dX11_wrong_35, rfl⟩ (q := 2) rfl rfl ?_
            obtain ⟨r_6, c_7, E⟩ := bd_of E
            refine g_Vi (pc' := 39) O ⟨dX11_wrong_36, rfl⟩ (y := yX11_out) (As := [.int x3_5]) (st := []) (t_X11_out l D ad cy (h := h_2) c_7) kw_1301 kw_70 kw_1298 kw_1300 kw_41 rfl (wM_0 ad cy h_2) hd_X11_out ⟨Nat.le_of_ble_eq_true rfl, Nat.le_of_ble_eq_true rfl⟩ ⟨Nat.le_of_ble_eq_true rfl, Nat.le_of_ble_eq_true rfl⟩ rfl (Nat.le_of_ble_eq_true rfl) ?_
            refine g_iconst (pc' := 40) O ⟨dX11_wrong_39, rfl⟩ (v := (0 : Int32)) rfl ?_
            refine g_aload_n (pc' := 41) O ⟨dX11_wrong_40, rfl⟩ (q := 0) rfl rfl ?_
            refine gf_M_RX11_74_0 ad cy (pc' := 44) O ⟨dX11_wrong_41, rfl⟩ ?_
            obtain ⟨r_8, c_9, E⟩ := bd_of E
            refine g_Si (pc' := 47) O ⟨dX11_wrong_44, rfl⟩ (y := yX11_isSorted) (As := [.int r_6, .int (0 : Int32), .int (h_2.1 0 1)]) (st := []) (t_X11_isSorted l D ad cy (h := h_2) c_9) kw_1312 kw_70 kw_1310 kw_1311 hd_X11_isSorted ⟨Nat.le_of_ble_eq_true rfl, Nat.le_of_ble_eq_true rfl⟩ ⟨Nat.le_of_ble_eq_true rfl, Nat.le_of_ble_eq_true rfl⟩ rfl (Nat.le_of_ble_eq_true rfl) ?_
            refine g_if_ne (pc' := 50) O ⟨dX11_wrong_47, rfl⟩ E (tgt := 59) (by decide) (fun E => ?_) (fun E => ?_)
            · refine g_iinc (pc' := 62) O ⟨dX11_wrong_59, rfl⟩ (q := 2) (v := x3_5 + (1 : Int32)) (lv' := [(3, .int (x3_5 + (1 : Int32))), (0, .ref (ad 0)), (2, .int x2_4)]) rfl rfl (by decide) rfl ?_
              refine g_goto (pc' := 65) O ⟨dX11_wrong_62, rfl⟩ (tgt := 17) (by decide) ?_
              refine g_sub (lv' := [(0, .ref (ad 0)), (2, .int x2_4), (3, .int (x3_5 + (1 : Int32)))]) [1, 2, 0] rfl ?_
              exact ih17 _ _ E
            · refine g_iload_n (pc' := 51) O ⟨dX11_wrong_50, rfl⟩ (q := 1) rfl rfl ?_
              refine g_if_ne (pc' := 54) O ⟨dX11_wrong_51, rfl⟩ E (tgt := 56) (by decide) (fun E => ?_) (fun E => ?_)
              · refine g_iinc (pc' := 59) O ⟨dX11_wrong_56, rfl⟩ (q := 1) (v := x2_4 + (-1 : Int32)) (lv' := [(2, .int (x2_4 + (-1 : Int32))), (0, .ref (ad 0)), (3, .int x3_5)]) rfl rfl (by decide) rfl ?_
                refine g_iinc (pc' := 62) O ⟨dX11_wrong_59, rfl⟩ (q := 2) (v := x3_5 + (1 : Int32)) (lv' := [(3, .int (x3_5 + (1 : Int32))), (2, .int (x2_4 + (-1 : Int32))), (0, .ref (ad 0))]) rfl rfl (by decide) rfl ?_
                refine g_goto (pc' := 65) O ⟨dX11_wrong_62, rfl⟩ (tgt := 17) (by decide) ?_
                refine g_sub (lv' := [(0, .ref (ad 0)), (2, .int (x2_4 + (-1 : Int32))), (3, .int (x3_5 + (1 : Int32)))]) [2, 1, 0] rfl ?_
                exact ih17 _ _ E
              · refine g_sub (lv' := [(3, .int x3_5)]) [2] rfl ?_
                exact hk54 _ E
  · intro k10 hk10 E
    refine g_if_ge (pc' := 5) O ⟨dX11_wrong_2, rfl⟩ E (tgt := 9) (by decide) (fun E => ?_) (fun E => ?_)
    · refine g_iconst (pc' := 10) O ⟨dX11_wrong_9, rfl⟩ (v := (0 : Int32)) rfl ?_
      exact hk10 _ E
    · refine g_iconst (pc' := 6) O ⟨dX11_wrong_5, rfl⟩ (v := (1 : Int32)) rfl ?_
      refine g_goto (pc' := 9) O ⟨dX11_wrong_6, rfl⟩ (tgt := 10) (by decide) ?_
      exact hk10 _ E
set_option maxRecDepth 100000 in
set_option maxHeartbeats 4000000 in
theorem t_X11_behind (l : Launch) (D : va_G) (ad : Nat → Nat) (cy : Nat → ClassId) {h : Hp} {x1 : Int32} {x2 : Int32} {o : Int32} (E : f_X11_behind h x1 x2 = some o) : CtI l D cy (WM ad cy) yX11_behind cX11_behind 6 .int 0 0 [.ref (ad 0), .int x1, .int x2] h o h := by
  refine sI (own := RX11) rfl rfl (Nat.le_of_ble_eq_true rfl) (fun X O hret => ?_)
  show G l D X 6 (WM ad cy) 0 0 h 0 [(0, .ref (ad 0)), (1, .int x1), (2, .int x2)] []
  unfold f_X11_behind at E
  refine g_iload_n (pc' := 1) O ⟨dX11_behind_0, rfl⟩ (q := 2) rfl rfl ?_
  refine g_aload_n (pc' := 2) O ⟨dX11_behind_1, rfl⟩ (q := 0) rfl rfl ?_
  refine gf_M_RX11_74_0 ad cy (pc' := 5) O ⟨dX11_behind_2, rfl⟩ ?_
  obtain ⟨nz_5, E⟩ := nz_of E
  refine g_idiv (pc' := 6) O ⟨dX11_behind_5, rfl⟩ nz_5 ?_
  refine g_nm E (fun y3_1 E => ?_)
  refine g_istore_n (pc' := 7) O ⟨dX11_behind_6, rfl⟩ (lv' := [(3, .int y3_1), (0, .ref (ad 0)), (1, .int x1), (2, .int x2)]) rfl (by decide) rfl ?_
  refine g_iload_n (pc' := 8) O ⟨dX11_behind_7, rfl⟩ (q := 3) rfl rfl ?_
  refine g_aload_n (pc' := 9) O ⟨dX11_behind_8, rfl⟩ (q := 1) rfl rfl ?_
  refine gf_M_RX11_74_0 ad cy (pc' := 12) O ⟨dX11_behind_9, rfl⟩ ?_
  obtain ⟨nz_12, E⟩ := nz_of E
  refine g_irem (pc' := 13) O ⟨dX11_behind_12, rfl⟩ nz_12 ?_
  refine g_nm E (fun y4_2 E => ?_)
  refine g_istore (pc' := 15) O ⟨dX11_behind_13, rfl⟩ (lv' := [(4, .int y4_2), (3, .int y3_1), (0, .ref (ad 0)), (1, .int x1), (2, .int x2)]) (by decide) rfl ?_
  refine g_iload_n (pc' := 16) O ⟨dX11_behind_15, rfl⟩ (q := 1) rfl rfl ?_
  refine g_iload (pc' := 18) O ⟨dX11_behind_16, rfl⟩ (q := 0) rfl ?_
  refine jn1_of (P := fun (z_3 : Int32) => G l D X 6 (WM ad cy) 0 0 h 44 [(1, .int x1), (3, .int y3_1), (4, .int y4_2)] [.int z_3]) E ?_ ?_
  · intro z_3 E
    show G l D X 6 (WM ad cy) 0 0 h 44 [(1, .int x1), (3, .int y3_1), (4, .int y4_2)] [.int z_3]
    refine g_istore (pc' := 46) O ⟨dX11_behind_44, rfl⟩ (lv' := [(5, .int z_3), (1, .int x1), (3, .int y3_1), (4, .int y4_2)]) (by decide) rfl ?_
    refine g_iload (pc' := 48) O ⟨dX11_behind_46, rfl⟩ (q := 0) rfl ?_
    refine g_if_eq (pc' := 51) O ⟨dX11_behind_48, rfl⟩ E (tgt := 64) (by decide) (fun E => ?_) (fun E => ?_)
    · refine g_iload_n (pc' := 65) O ⟨dX11_behind_64, rfl⟩ (q := 1) rfl rfl ?_
      cases E
      exact hret _ _ _ ⟨dX11_behind_65, rfl⟩ rfl
    · refine g_iload_n (pc' := 52) O ⟨dX11_behind_51, rfl⟩ (q := 1) rfl rfl ?_
      refine g_iconst (pc' := 53) O ⟨dX11_behind_52, rfl⟩ (v := (1 : Int32)) rfl ?_
      refine g_iload_n (pc' := 54) O ⟨dX11_behind_53, rfl⟩ (q := 2) rfl rfl ?_
      refine g_ishl (pc' := 55) O ⟨dX11_behind_54, rfl⟩ ?_
      refine g_iconst (pc' := 56) O ⟨dX11_behind_55, rfl⟩ (v := (1 : Int32)) rfl ?_
      refine g_iload (pc' := 58) O ⟨dX11_behind_56, rfl⟩ (q := 3) rfl ?_
      refine g_ishl (pc' := 59) O ⟨dX11_behind_58, rfl⟩ ?_
      refine g_ior (pc' := 60) O ⟨dX11_behind_59, rfl⟩ ?_
      refine g_ixor (pc' := 61) O ⟨dX11_behind_60, rfl⟩ ?_
      refine g_goto (pc' := 64) O ⟨dX11_behind_61, rfl⟩ (tgt := 65) (by decide) ?_
      cases E
      exact hret _ _ _ ⟨dX11_behind_65, rfl⟩ rfl
  · intro k44 hk44 E
    refine jn0_of (P := G l D X 6 (WM ad cy) 0 0 h 43 [(1, .int x1), (3, .int y3_1), (4, .int y4_2)] []) E ?_ ?_
    · intro E
      show G l D X 6 (WM ad cy) 0 0 h 43 [(1, .int x1), (3, .int y3_1), (4, .int y4_2)] []
      refine g_iconst (pc' := 44) O ⟨dX11_behind_43, rfl⟩ (v := (0 : Int32)) rfl ?_
      exact hk44 _ E
    · intro k43 hk43 E
      refine g_icmp_ge (pc' := 21) O ⟨dX11_behind_18, rfl⟩ E (tgt := 43) (by decide) (fun E => ?_) (fun E => ?_)
      · refine g_sub (lv' := [(1, .int x1), (3, .int y3_1), (4, .int y4_2)]) [3, 1, 0] rfl ?_
        exact hk43 E
      · refine g_iload_n (pc' := 22) O ⟨dX11_behind_21, rfl⟩ (q := 3) rfl rfl ?_
        refine g_iload_n (pc' := 23) O ⟨dX11_behind_22, rfl⟩ (q := 1) rfl rfl ?_
        refine g_ishr (pc' := 24) O ⟨dX11_behind_23, rfl⟩ ?_
        refine g_iconst (pc' := 25) O ⟨dX11_behind_24, rfl⟩ (v := (1 : Int32)) rfl ?_
        refine g_iand (pc' := 26) O ⟨dX11_behind_25, rfl⟩ ?_
        refine g_iconst (pc' := 27) O ⟨dX11_behind_26, rfl⟩ (v := (1 : Int32)) rfl ?_
        refine g_icmp_ne (pc' := 30) O ⟨dX11_behind_27, rfl⟩ E (tgt := 43) (by decide) (fun E => ?_) (fun E => ?_)
        · refine g_sub (lv' := [(1, .int x1), (3, .int y3_1), (4, .int y4_2)]) [3, 1, 0] rfl ?_
          exact hk43 E
        · refine g_iload_n (pc' := 31) O ⟨dX11_behind_30, rfl⟩ (q := 3) rfl rfl ?_
          refine g_iload (pc' := 33) O ⟨dX11_behind_31, rfl⟩ (q := 0) rfl ?_
          refine g_ishr (pc' := 34) O ⟨dX11_behind_33, rfl⟩ ?_
          refine g_iconst (pc' := 35) O ⟨dX11_behind_34, rfl⟩ (v := (1 : Int32)) rfl ?_
          refine g_iand (pc' := 36) O ⟨dX11_behind_35, rfl⟩ ?_
          refine g_if_ne (pc' := 39) O ⟨dX11_behind_36, rfl⟩ E (tgt := 43) (by decide) (fun E => ?_) (fun E => ?_)
          · refine g_sub (lv' := [(1, .int x1), (3, .int y3_1), (4, .int y4_2)]) [3, 1, 0] rfl ?_
            exact hk43 E
          · refine g_iconst (pc' := 40) O ⟨dX11_behind_39, rfl⟩ (v := (1 : Int32)) rfl ?_
            refine g_goto (pc' := 43) O ⟨dX11_behind_40, rfl⟩ (tgt := 44) (by decide) ?_
            refine g_sub (lv' := [(1, .int x1), (3, .int y3_1), (4, .int y4_2)]) [3, 1, 0] rfl ?_
            exact hk44 _ E
set_option maxRecDepth 100000 in
set_option maxHeartbeats 4000000 in
theorem t_X11_isDone (l : Launch) (D : va_G) (ad : Nat → Nat) (cy : Nat → ClassId) {h : Hp} {x1 : Int64} {x3 : Int32} {x4 : Int32} {x5 : Int32} {o : Int32} (E : f_X11_isDone h x1 x3 x4 x5 = some o) : CtI l D cy (WM ad cy) yX11_isDone cX11_isDone 8 .boolean 1 25 [.ref (ad 0), .long x1, .int x3, .int x4, .int x5] h o h := by
  refine sI (own := RX11) rfl rfl (Nat.le_of_ble_eq_true rfl) (fun X O hret => ?_)
  show G l D X 8 (WM ad cy) 0 0 h 0 [(0, .ref (ad 0)), (1, .long x1), (3, .int x3), (4, .int x4), (5, .int x5)] []
  unfold f_X11_isDone at E
  refine g_iconst (pc' := 1) O ⟨dX11_isDone_0, rfl⟩ (v := (1 : Int32)) rfl ?_
  refine g_istore (pc' := 3) O ⟨dX11_isDone_1, rfl⟩ (lv' := [(6, .int (1 : Int32)), (0, .ref (ad 0)), (1, .long x1), (3, .int x3), (4, .int x4), (5, .int x5)]) (by decide) rfl ?_
  refine g_iconst (pc' := 4) O ⟨dX11_isDone_3, rfl⟩ (v := (0 : Int32)) rfl ?_
  refine g_istore (pc' := 6) O ⟨dX11_isDone_4, rfl⟩ (lv' := [(7, .int (0 : Int32)), (6, .int (1 : Int32)), (0, .ref (ad 0)), (1, .long x1), (3, .int x3), (4, .int x4), (5, .int x5)]) (by decide) rfl ?_
  refine jn1_of (P := fun (x6_1 : Int32) => G l D X 8 (WM ad cy) 0 0 h 68 [(6, .int x6_1)] []) E ?_ ?_
  · intro x6_1 E
    show G l D X 8 (WM ad cy) 0 0 h 68 [(6, .int x6_1)] []
    refine g_iload (pc' := 70) O ⟨dX11_isDone_68, rfl⟩ (q := 0) rfl ?_
    obtain ⟨hn, E⟩ := ckz_of E
    cases E
    exact hret _ _ _ ⟨dX11_isDone_70, rfl⟩ hn
  · intro k68 hk68 E
    refine g_sub (lv' := [(0, .ref (ad 0)), (1, .long x1), (3, .int x3), (4, .int x4), (5, .int x5), (6, .int (1 : Int32)), (7, .int (0 : Int32))]) [2, 3, 4, 5, 6, 1, 0] rfl ?_
    refine fx2_of (P := fun (x6_2 : Int32) (x7_3 : Int32) => G l D X 8 (WM ad cy) 0 0 h 6 [(0, .ref (ad 0)), (1, .long x1), (3, .int x3), (4, .int x4), (5, .int x5), (6, .int x6_2), (7, .int x7_3)] []) ?_ _ _ _ E
    intro self ih6 x6_2 x7_3 E
    show G l D X 8 (WM ad cy) 0 0 h 6 [(0, .ref (ad 0)), (1, .long x1), (3, .int x3), (4, .int x4), (5, .int x5), (6, .int x6_2), (7, .int x7_3)] []
    unfold L_X11_isDone_6 at E
    refine g_iload (pc' := 8) O ⟨dX11_isDone_6, rfl⟩ (q := 6) rfl ?_
    refine g_iconst (pc' := 9) O ⟨dX11_isDone_8, rfl⟩ (v := (1 : Int32)) rfl ?_
    refine g_aload_n (pc' := 10) O ⟨dX11_isDone_9, rfl⟩ (q := 0) rfl rfl ?_
    refine gf_M_RX11_74_0 ad cy (pc' := 13) O ⟨dX11_isDone_10, rfl⟩ ?_
    refine g_ishl (pc' := 14) O ⟨dX11_isDone_13, rfl⟩ ?_
    refine g_icmp_ge (pc' := 17) O ⟨dX11_isDone_14, rfl⟩ E (tgt := 68) (by decide) (fun E => ?_) (fun E => ?_)
    · refine g_sub (lv' := [(6, .int x6_2)]) [5] rfl ?_
      exact hk68 _ E
    · refine g_iload (pc' := 19) O ⟨dX11_isDone_17, rfl⟩ (q := 5) rfl ?_
      refine g_if_eq (pc' := 22) O ⟨dX11_isDone_19, rfl⟩ E (tgt := 68) (by decide) (fun E => ?_) (fun E => ?_)
      · refine g_sub (lv' := [(6, .int x6_2)]) [5] rfl ?_
        exact hk68 _ E
      · refine g_lload_n (pc' := 23) O ⟨dX11_isDone_22, rfl⟩ (q := 1) rfl rfl ?_
        refine g_iload (pc' := 25) O ⟨dX11_isDone_23, rfl⟩ (q := 6) rfl ?_
        refine g_lshr (pc' := 26) O ⟨dX11_isDone_25, rfl⟩ ?_
        refine g_lconst (pc' := 27) O ⟨dX11_isDone_26, rfl⟩ (v := (1 : Int64)) rfl ?_
        refine g_land (pc' := 28) O ⟨dX11_isDone_27, rfl⟩ ?_
        refine g_lconst (pc' := 29) O ⟨dX11_isDone_28, rfl⟩ (v := (1 : Int64)) rfl ?_
        refine g_lcmp (pc' := 30) O ⟨dX11_isDone_29, rfl⟩ ?_
        refine g_if_ne (pc' := 33) O ⟨dX11_isDone_30, rfl⟩ E (tgt := 62) (by decide) (fun E => ?_) (fun E => ?_)
        · refine g_iinc (pc' := 65) O ⟨dX11_isDone_62, rfl⟩ (q := 6) (v := x7_3 + (1 : Int32)) (lv' := [(7, .int (x7_3 + (1 : Int32))), (0, .ref (ad 0)), (1, .long x1), (3, .int x3), (4, .int x4), (5, .int x5), (6, .int x6_2)]) rfl rfl (by decide) rfl ?_
          refine g_goto (pc' := 68) O ⟨dX11_isDone_65, rfl⟩ (tgt := 6) (by decide) ?_
          refine g_sub (lv' := [(0, .ref (ad 0)), (1, .long x1), (3, .int x3), (4, .int x4), (5, .int x5), (6, .int x6_2), (7, .int (x7_3 + (1 : Int32)))]) [1, 2, 3, 4, 5, 6, 0] rfl ?_
          exact ih6 _ _ E
        · refine g_aload_n (pc' := 34) O ⟨dX11_isDone_33, rfl⟩ (q := 0) rfl rfl ?_
          refine g_aload_n (pc' := 35) O ⟨dX11_isDone_34, rfl⟩ (q := 0) rfl rfl ?_
          refine g_aload_n (pc' := 36) O ⟨dX11_isDone_35, rfl⟩ (q := 0) rfl rfl ?_
          refine g_iload (pc' := 38) O ⟨dX11_isDone_36, rfl⟩ (q := 6) rfl ?_
          refine g_iload_n (pc' := 39) O ⟨dX11_isDone_38, rfl⟩ (q := 2) rfl rfl ?_
          obtain ⟨r_4, c_5, E⟩ := bd_of E
          refine g_Vi (pc' := 42) O ⟨dX11_isDone_39, rfl⟩ (y := yX11_behind) (As := [.int x7_3, .int x3]) (st := [.ref (ad 0), .ref (ad 0)]) (t_X11_behind l D ad cy (h := h) c_5) kw_1336 kw_70 kw_1333 kw_1335 kw_45 rfl (wM_0 ad cy h) hd_X11_behind ⟨Nat.le_of_ble_eq_true rfl, Nat.le_of_ble_eq_true rfl⟩ ⟨Nat.le_of_ble_eq_true rfl, Nat.le_of_ble_eq_true rfl⟩ rfl (Nat.le_of_ble_eq_true rfl) ?_
          refine g_iload (pc' := 44) O ⟨dX11_isDone_42, rfl⟩ (q := 3) rfl ?_
          obtain ⟨r_6, c_7, E⟩ := bd_of E
          refine g_Vi (pc' := 47) O ⟨dX11_isDone_44, rfl⟩ (y := yX11_behind) (As := [.int r_4, .int x4]) (st := [.ref (ad 0)]) (t_X11_behind l D ad cy (h := h) c_7) kw_1336 kw_70 kw_1333 kw_1335 kw_45 rfl (wM_0 ad cy h) hd_X11_behind ⟨Nat.le_of_ble_eq_true rfl, Nat.le_of_ble_eq_true rfl⟩ ⟨Nat.le_of_ble_eq_true rfl, Nat.le_of_ble_eq_true rfl⟩ rfl (Nat.le_of_ble_eq_true rfl) ?_
          refine g_iload (pc' := 49) O ⟨dX11_isDone_47, rfl⟩ (q := 4) rfl ?_
          obtain ⟨r_8, c_9, E⟩ := bd_of E
          refine g_Vi (pc' := 52) O ⟨dX11_isDone_49, rfl⟩ (y := yX11_behind) (As := [.int r_6, .int x5]) (st := []) (t_X11_behind l D ad cy (h := h) c_9) kw_1336 kw_70 kw_1333 kw_1335 kw_45 rfl (wM_0 ad cy h) hd_X11_behind ⟨Nat.le_of_ble_eq_true rfl, Nat.le_of_ble_eq_true rfl⟩ ⟨Nat.le_of_ble_eq_true rfl, Nat.le_of_ble_eq_true rfl⟩ rfl (Nat.le_of_ble_eq_true rfl) ?_
          refine g_iconst (pc' := 53) O ⟨dX11_isDone_52, rfl⟩ (v := (0 : Int32)) rfl ?_
          refine g_aload_n (pc' := 54) O ⟨dX11_isDone_53, rfl⟩ (q := 0) rfl rfl ?_
          refine gf_M_RX11_74_0 ad cy (pc' := 57) O ⟨dX11_isDone_54, rfl⟩ ?_
          obtain ⟨r_10, c_11, E⟩ := bd_of E
          refine g_Si (pc' := 60) O ⟨dX11_isDone_57, rfl⟩ (y := yX11_isSorted) (As := [.int r_8, .int (0 : Int32), .int (h.1 0 1)]) (st := []) (t_X11_isSorted l D ad cy (h := h) c_11) kw_1312 kw_70 kw_1310 kw_1311 hd_X11_isSorted ⟨Nat.le_of_ble_eq_true rfl, Nat.le_of_ble_eq_true rfl⟩ ⟨Nat.le_of_ble_eq_true rfl, Nat.le_of_ble_eq_true rfl⟩ rfl (Nat.le_of_ble_eq_true rfl) ?_
          refine g_istore (pc' := 62) O ⟨dX11_isDone_60, rfl⟩ (lv' := [(6, .int r_10), (0, .ref (ad 0)), (1, .long x1), (3, .int x3), (4, .int x4), (5, .int x5), (7, .int x7_3)]) (by decide) rfl ?_
          refine g_iinc (pc' := 65) O ⟨dX11_isDone_62, rfl⟩ (q := 6) (v := x7_3 + (1 : Int32)) (lv' := [(7, .int (x7_3 + (1 : Int32))), (6, .int r_10), (0, .ref (ad 0)), (1, .long x1), (3, .int x3), (4, .int x4), (5, .int x5)]) rfl rfl (by decide) rfl ?_
          refine g_goto (pc' := 68) O ⟨dX11_isDone_65, rfl⟩ (tgt := 6) (by decide) ?_
          refine g_sub (lv' := [(0, .ref (ad 0)), (1, .long x1), (3, .int x3), (4, .int x4), (5, .int x5), (6, .int r_10), (7, .int (x7_3 + (1 : Int32)))]) [2, 3, 4, 5, 6, 1, 0] rfl ?_
          exact ih6 _ _ E
set_option maxRecDepth 100000 in
set_option maxHeartbeats 4000000 in
theorem t_X11_finishes (l : Launch) (D : va_G) (ad : Nat → Nat) (cy : Nat → ClassId) {h : Hp} {x1 : Int32} {o : Int32 × Hp} (E : f_X11_finishes h x1 = some o) : CtI l D cy (WM ad cy) yX11_finishes cX11_finishes 9 .int 2 52 [.ref (ad 0), .int x1] h o.1 o.2 := by
  refine sI (own := RX11) rfl rfl (Nat.le_of_ble_eq_true rfl) (fun X O hret => ?_)
  show G l D X 9 (WM ad cy) 0 0 h 0 [(0, .ref (ad 0)), (1, .int x1)] []
  unfold f_X11_finishes at E
  refine g_aload_n (pc' := 1) O ⟨dX11_finishes_0, rfl⟩ (q := 0) rfl rfl ?_
  refine g_iload_n (pc' := 2) O ⟨dX11_finishes_1, rfl⟩ (q := 1) rfl rfl ?_
  refine g_iconst (pc' := 3) O ⟨dX11_finishes_2, rfl⟩ (v := (0 : Int32)) rfl ?_
  refine g_iconst (pc' := 4) O ⟨dX11_finishes_3, rfl⟩ (v := (3 : Int32)) rfl ?_
  obtain ⟨r_1, c_2, E⟩ := bd_of E
  refine g_Si (pc' := 7) O ⟨dX11_finishes_4, rfl⟩ (y := yX11_in) (As := [.int x1, .int (0 : Int32), .int (3 : Int32)]) (st := [.ref (ad 0)]) (t_X11_in l D ad cy (h := h) c_2) kw_1167 kw_70 kw_1165 kw_1166 hd_X11_in ⟨Nat.le_of_ble_eq_true rfl, Nat.le_of_ble_eq_true rfl⟩ ⟨Nat.le_of_ble_eq_true rfl, Nat.le_of_ble_eq_true rfl⟩ rfl (Nat.le_of_ble_eq_true rfl) ?_
  refine jn1_of (P := fun (z_3 : Int32) => G l D X 9 (WM ad cy) 0 0 h 15 [(0, .ref (ad 0)), (1, .int x1)] [.int z_3, .ref (ad 0)]) E ?_ ?_
  · intro z_3 E
    show G l D X 9 (WM ad cy) 0 0 h 15 [(0, .ref (ad 0)), (1, .int x1)] [.int z_3, .ref (ad 0)]
    refine gp_M_RX11_70_0 ad cy (pc' := 18) O ⟨dX11_finishes_15, rfl⟩ ?_
    refine g_nmh E (fun h_4 E => ?_)
    refine g_aload_n (pc' := 19) O ⟨dX11_finishes_18, rfl⟩ (q := 0) rfl rfl ?_
    refine gf_M_RX11_70_0 ad cy (pc' := 22) O ⟨dX11_finishes_19, rfl⟩ ?_
    refine g_if_le (pc' := 25) O ⟨dX11_finishes_22, rfl⟩ E (tgt := 27) (by decide) (fun E => ?_) (fun E => ?_)
    · refine g_lconst (pc' := 28) O ⟨dX11_finishes_27, rfl⟩ (v := (0 : Int64)) rfl ?_
      refine g_lstore_n (pc' := 29) O ⟨dX11_finishes_28, rfl⟩ (lv' := [(2, .long (0 : Int64)), (0, .ref (ad 0)), (1, .int x1)]) rfl (by decide) rfl ?_
      refine g_iconst (pc' := 30) O ⟨dX11_finishes_29, rfl⟩ (v := (0 : Int32)) rfl ?_
      refine g_istore (pc' := 32) O ⟨dX11_finishes_30, rfl⟩ (lv' := [(4, .int (0 : Int32)), (2, .long (0 : Int64)), (0, .ref (ad 0)), (1, .int x1)]) (by decide) rfl ?_
      refine jn1_of (P := fun (x2_5 : Int64) => G l D X 9 (WM ad cy) 0 0 h_4 60 [(0, .ref (ad 0)), (1, .int x1), (2, .long x2_5)] []) E ?_ ?_
      · intro x2_5 E
        show G l D X 9 (WM ad cy) 0 0 h_4 60 [(0, .ref (ad 0)), (1, .int x1), (2, .long x2_5)] []
        refine g_aload_n (pc' := 61) O ⟨dX11_finishes_60, rfl⟩ (q := 0) rfl rfl ?_
        refine gf_M_RX11_74_0 ad cy (pc' := 64) O ⟨dX11_finishes_61, rfl⟩ ?_
        refine g_aload_n (pc' := 65) O ⟨dX11_finishes_64, rfl⟩ (q := 0) rfl rfl ?_
        refine gf_M_RX11_74_0 ad cy (pc' := 68) O ⟨dX11_finishes_65, rfl⟩ ?_
        refine g_imul (pc' := 69) O ⟨dX11_finishes_68, rfl⟩ ?_
        refine g_nm E (fun y4_6 E => ?_)
        refine g_istore (pc' := 71) O ⟨dX11_finishes_69, rfl⟩ (lv' := [(4, .int y4_6), (0, .ref (ad 0)), (1, .int x1), (2, .long x2_5)]) (by decide) rfl ?_
        refine g_iconst (pc' := 72) O ⟨dX11_finishes_71, rfl⟩ (v := (0 : Int32)) rfl ?_
        refine g_istore (pc' := 74) O ⟨dX11_finishes_72, rfl⟩ (lv' := [(5, .int (0 : Int32)), (4, .int y4_6), (0, .ref (ad 0)), (1, .int x1), (2, .long x2_5)]) (by decide) rfl ?_
        refine jn0_of (P := G l D X 9 (WM ad cy) 0 0 h_4 180 [] []) E ?_ ?_
        · intro E
          show G l D X 9 (WM ad cy) 0 0 h_4 180 [] []
          refine g_iconst (pc' := 181) O ⟨dX11_finishes_180, rfl⟩ (v := (-1 : Int32)) rfl ?_
          cases E
          exact hret _ _ _ ⟨dX11_finishes_181, rfl⟩ rfl
        · intro k180 hk180 E
          refine jn1_of (P := fun (x5_7 : Int32) => G l D X 9 (WM ad cy) 0 0 h_4 153 [(5, .int x5_7)] []) E ?_ ?_
          · intro x5_7 E
            show G l D X 9 (WM ad cy) 0 0 h_4 153 [(5, .int x5_7)] []
            refine g_iload (pc' := 155) O ⟨dX11_finishes_153, rfl⟩ (q := 0) rfl ?_
            cases E
            exact hret _ _ _ ⟨dX11_finishes_155, rfl⟩ rfl
          · intro k153 hk153 E
            refine g_sub (lv' := [(0, .ref (ad 0)), (1, .int x1), (2, .long x2_5), (4, .int y4_6), (5, .int (0 : Int32))]) [2, 3, 4, 1, 0] rfl ?_
            refine fx1_of (P := fun (x5_8 : Int32) => G l D X 9 (WM ad cy) 0 0 h_4 74 [(0, .ref (ad 0)), (1, .int x1), (2, .long x2_5), (4, .int y4_6), (5, .int x5_8)] []) ?_ _ _ E
            intro self ih74 x5_8 E
            show G l D X 9 (WM ad cy) 0 0 h_4 74 [(0, .ref (ad 0)), (1, .int x1), (2, .long x2_5), (4, .int y4_6), (5, .int x5_8)] []
            unfold L_X11_finishes_74 at E
            refine g_iload (pc' := 76) O ⟨dX11_finishes_74, rfl⟩ (q := 4) rfl ?_
            refine g_iload_n (pc' := 77) O ⟨dX11_finishes_76, rfl⟩ (q := 1) rfl rfl ?_
            refine g_icmp_gt (pc' := 80) O ⟨dX11_finishes_77, rfl⟩ E (tgt := 180) (by decide) (fun E => ?_) (fun E => ?_)
            · refine g_sub (lv' := []) [] rfl ?_
              exact hk180 E
            · refine g_iconst (pc' := 81) O ⟨dX11_finishes_80, rfl⟩ (v := (0 : Int32)) rfl ?_
              refine g_istore (pc' := 83) O ⟨dX11_finishes_81, rfl⟩ (lv' := [(6, .int (0 : Int32)), (0, .ref (ad 0)), (1, .int x1), (2, .long x2_5), (4, .int y4_6), (5, .int x5_8)]) (by decide) rfl ?_
              refine jn0_of (P := G l D X 9 (WM ad cy) 0 0 h_4 174 [(0, .ref (ad 0)), (1, .int x1), (2, .long x2_5), (4, .int y4_6), (5, .int x5_8)] []) E ?_ ?_
              · intro E
                show G l D X 9 (WM ad cy) 0 0 h_4 174 [(0, .ref (ad 0)), (1, .int x1), (2, .long x2_5), (4, .int y4_6), (5, .int x5_8)] []
                refine g_iinc (pc' := 177) O ⟨dX11_finishes_174, rfl⟩ (q := 4) (v := x5_8 + (1 : Int32)) (lv' := [(5, .int (x5_8 + (1 : Int32))), (0, .ref (ad 0)), (1, .int x1), (2, .long x2_5), (4, .int y4_6)]) rfl rfl (by decide) rfl ?_
                refine g_goto (pc' := 180) O ⟨dX11_finishes_177, rfl⟩ (tgt := 74) (by decide) ?_
                refine g_sub (lv' := [(0, .ref (ad 0)), (1, .int x1), (2, .long x2_5), (4, .int y4_6), (5, .int (x5_8 + (1 : Int32)))]) [1, 2, 3, 4, 0] rfl ?_
                exact ih74 _ E
              · intro k174 hk174 E
                refine g_sub (lv' := [(0, .ref (ad 0)), (1, .int x1), (2, .long x2_5), (4, .int y4_6), (5, .int x5_8), (6, .int (0 : Int32))]) [1, 2, 3, 4, 5, 0] rfl ?_
                refine fx1_of (P := fun (x6_9 : Int32) => G l D X 9 (WM ad cy) 0 0 h_4 83 [(0, .ref (ad 0)), (1, .int x1), (2, .long x2_5), (4, .int y4_6), (5, .int x5_8), (6, .int x6_9)] []) ?_ _ _ E
                intro self ih83 x6_9 E
                show G l D X 9 (WM ad cy) 0 0 h_4 83 [(0, .ref (ad 0)), (1, .int x1), (2, .long x2_5), (4, .int y4_6), (5, .int x5_8), (6, .int x6_9)] []
                unfold L_X11_finishes_83 at E
                refine g_iload (pc' := 85) O ⟨dX11_finishes_83, rfl⟩ (q := 5) rfl ?_
                refine g_iload (pc' := 87) O ⟨dX11_finishes_85, rfl⟩ (q := 4) rfl ?_
                refine jn1_of (P := fun (z_10 : Int32) => G l D X 9 (WM ad cy) 0 0 h_4 96 [(0, .ref (ad 0)), (1, .int x1), (2, .long x2_5), (4, .int y4_6), (5, .int x5_8), (6, .int x6_9)] [.int z_10, .int x6_9]) E ?_ ?_
                · intro z_10 E
                  show G l D X 9 (WM ad cy) 0 0 h_4 96 [(0, .ref (ad 0)), (1, .int x1), (2, .long x2_5), (4, .int y4_6), (5, .int x5_8), (6, .int x6_9)] [.int z_10, .int x6_9]
                  refine g_icmp_ge (pc' := 99) O ⟨dX11_finishes_96, rfl⟩ E (tgt := 174) (by decide) (fun E => ?_) (fun E => ?_)
                  · refine g_sub (lv' := [(0, .ref (ad 0)), (1, .int x1), (2, .long x2_5), (4, .int y4_6), (5, .int x5_8)]) [0, 1, 2, 3, 4] rfl ?_
                    exact hk174 E
                  · refine g_iconst (pc' := 100) O ⟨dX11_finishes_99, rfl⟩ (v := (0 : Int32)) rfl ?_
                    refine g_istore (pc' := 102) O ⟨dX11_finishes_100, rfl⟩ (lv' := [(7, .int (0 : Int32)), (0, .ref (ad 0)), (1, .int x1), (2, .long x2_5), (4, .int y4_6), (5, .int x5_8), (6, .int x6_9)]) (by decide) rfl ?_
                    refine jn0_of (P := G l D X 9 (WM ad cy) 0 0 h_4 168 [(0, .ref (ad 0)), (1, .int x1), (2, .long x2_5), (4, .int y4_6), (5, .int x5_8), (6, .int x6_9)] []) E ?_ ?_
                    · intro E
                      show G l D X 9 (WM ad cy) 0 0 h_4 168 [(0, .ref (ad 0)), (1, .int x1), (2, .long x2_5), (4, .int y4_6), (5, .int x5_8), (6, .int x6_9)] []
                      refine g_iinc (pc' := 171) O ⟨dX11_finishes_168, rfl⟩ (q := 5) (v := x6_9 + (1 : Int32)) (lv' := [(6, .int (x6_9 + (1 : Int32))), (0, .ref (ad 0)), (1, .int x1), (2, .long x2_5), (4, .int y4_6), (5, .int x5_8)]) rfl rfl (by decide) rfl ?_
                      refine g_goto (pc' := 174) O ⟨dX11_finishes_171, rfl⟩ (tgt := 83) (by decide) ?_
                      refine g_sub (lv' := [(0, .ref (ad 0)), (1, .int x1), (2, .long x2_5), (4, .int y4_6), (5, .int x5_8), (6, .int (x6_9 + (1 : Int32)))]) [1, 2, 3, 4, 5, 0] rfl ?_
                      exact ih83 _ E
                    · intro k168 hk168 E
                      refine g_sub (lv' := [(0, .ref (ad 0)), (1, .int x1), (2, .long x2_5), (4, .int y4_6), (5, .int x5_8), (6, .int x6_9), (7, .int (0 : Int32))]) [1, 2, 3, 4, 5, 6, 0] rfl ?_
                      refine fx1_of (P := fun (x7_11 : Int32) => G l D X 9 (WM ad cy) 0 0 h_4 102 [(0, .ref (ad 0)), (1, .int x1), (2, .long x2_5), (4, .int y4_6), (5, .int x5_8), (6, .int x6_9), (7, .int x7_11)] []) ?_ _ _ E
                      intro self ih102 x7_11 E
                      show G l D X 9 (WM ad cy) 0 0 h_4 102 [(0, .ref (ad 0)), (1, .int x1), (2, .long x2_5), (4, .int y4_6), (5, .int x5_8), (6, .int x6_9), (7, .int x7_11)] []
                      unfold L_X11_finishes_102 at E
                      refine g_iload (pc' := 104) O ⟨dX11_finishes_102, rfl⟩ (q := 6) rfl ?_
                      refine g_iload (pc' := 106) O ⟨dX11_finishes_104, rfl⟩ (q := 4) rfl ?_
                      refine g_iconst (pc' := 107) O ⟨dX11_finishes_106, rfl⟩ (v := (1 : Int32)) rfl ?_
                      refine jn1_of (P := fun (z_12 : Int32) => G l D X 9 (WM ad cy) 0 0 h_4 116 [(0, .ref (ad 0)), (1, .int x1), (2, .long x2_5), (4, .int y4_6), (5, .int x5_8), (6, .int x6_9), (7, .int x7_11)] [.int z_12, .int x7_11]) E ?_ ?_
                      · intro z_12 E
                        show G l D X 9 (WM ad cy) 0 0 h_4 116 [(0, .ref (ad 0)), (1, .int x1), (2, .long x2_5), (4, .int y4_6), (5, .int x5_8), (6, .int x6_9), (7, .int x7_11)] [.int z_12, .int x7_11]
                        refine g_icmp_ge (pc' := 119) O ⟨dX11_finishes_116, rfl⟩ E (tgt := 168) (by decide) (fun E => ?_) (fun E => ?_)
                        · refine g_sub (lv' := [(0, .ref (ad 0)), (1, .int x1), (2, .long x2_5), (4, .int y4_6), (5, .int x5_8), (6, .int x6_9)]) [0, 1, 2, 3, 4, 5] rfl ?_
                          exact hk168 E
                        · refine g_iconst (pc' := 120) O ⟨dX11_finishes_119, rfl⟩ (v := (0 : Int32)) rfl ?_
                          refine g_istore (pc' := 122) O ⟨dX11_finishes_120, rfl⟩ (lv' := [(8, .int (0 : Int32)), (0, .ref (ad 0)), (1, .int x1), (2, .long x2_5), (4, .int y4_6), (5, .int x5_8), (6, .int x6_9), (7, .int x7_11)]) (by decide) rfl ?_
                          refine jn0_of (P := G l D X 9 (WM ad cy) 0 0 h_4 162 [(0, .ref (ad 0)), (1, .int x1), (2, .long x2_5), (4, .int y4_6), (5, .int x5_8), (6, .int x6_9), (7, .int x7_11)] []) E ?_ ?_
                          · intro E
                            show G l D X 9 (WM ad cy) 0 0 h_4 162 [(0, .ref (ad 0)), (1, .int x1), (2, .long x2_5), (4, .int y4_6), (5, .int x5_8), (6, .int x6_9), (7, .int x7_11)] []
                            refine g_iinc (pc' := 165) O ⟨dX11_finishes_162, rfl⟩ (q := 6) (v := x7_11 + (1 : Int32)) (lv' := [(7, .int (x7_11 + (1 : Int32))), (0, .ref (ad 0)), (1, .int x1), (2, .long x2_5), (4, .int y4_6), (5, .int x5_8), (6, .int x6_9)]) rfl rfl (by decide) rfl ?_
                            refine g_goto (pc' := 168) O ⟨dX11_finishes_165, rfl⟩ (tgt := 102) (by decide) ?_
                            refine g_sub (lv' := [(0, .ref (ad 0)), (1, .int x1), (2, .long x2_5), (4, .int y4_6), (5, .int x5_8), (6, .int x6_9), (7, .int (x7_11 + (1 : Int32)))]) [1, 2, 3, 4, 5, 6, 0] rfl ?_
                            exact ih102 _ E
                          · intro k162 hk162 E
                            refine g_sub (lv' := [(0, .ref (ad 0)), (1, .int x1), (2, .long x2_5), (4, .int y4_6), (5, .int x5_8), (6, .int x6_9), (7, .int x7_11), (8, .int (0 : Int32))]) [1, 2, 3, 4, 5, 6, 7, 0] rfl ?_
                            refine fx1_of (P := fun (x8_13 : Int32) => G l D X 9 (WM ad cy) 0 0 h_4 122 [(0, .ref (ad 0)), (1, .int x1), (2, .long x2_5), (4, .int y4_6), (5, .int x5_8), (6, .int x6_9), (7, .int x7_11), (8, .int x8_13)] []) ?_ _ _ E
                            intro self ih122 x8_13 E
                            show G l D X 9 (WM ad cy) 0 0 h_4 122 [(0, .ref (ad 0)), (1, .int x1), (2, .long x2_5), (4, .int y4_6), (5, .int x5_8), (6, .int x6_9), (7, .int x7_11), (8, .int x8_13)] []
                            unfold L_X11_finishes_122 at E
                            refine g_iload (pc' := 124) O ⟨dX11_finishes_122, rfl⟩ (q := 7) rfl ?_
                            refine g_iload (pc' := 126) O ⟨dX11_finishes_124, rfl⟩ (q := 4) rfl ?_
                            refine g_iconst (pc' := 127) O ⟨dX11_finishes_126, rfl⟩ (v := (2 : Int32)) rfl ?_
                            refine jn1_of (P := fun (z_14 : Int32) => G l D X 9 (WM ad cy) 0 0 h_4 136 [(0, .ref (ad 0)), (1, .int x1), (2, .long x2_5), (4, .int y4_6), (5, .int x5_8), (6, .int x6_9), (7, .int x7_11), (8, .int x8_13)] [.int z_14, .int x8_13]) E ?_ ?_
                            · intro z_14 E
                              show G l D X 9 (WM ad cy) 0 0 h_4 136 [(0, .ref (ad 0)), (1, .int x1), (2, .long x2_5), (4, .int y4_6), (5, .int x5_8), (6, .int x6_9), (7, .int x7_11), (8, .int x8_13)] [.int z_14, .int x8_13]
                              refine g_icmp_ge (pc' := 139) O ⟨dX11_finishes_136, rfl⟩ E (tgt := 162) (by decide) (fun E => ?_) (fun E => ?_)
                              · refine g_sub (lv' := [(0, .ref (ad 0)), (1, .int x1), (2, .long x2_5), (4, .int y4_6), (5, .int x5_8), (6, .int x6_9), (7, .int x7_11)]) [0, 1, 2, 3, 4, 5, 6] rfl ?_
                                exact hk162 E
                              · refine g_aload_n (pc' := 140) O ⟨dX11_finishes_139, rfl⟩ (q := 0) rfl rfl ?_
                                refine g_lload_n (pc' := 141) O ⟨dX11_finishes_140, rfl⟩ (q := 2) rfl rfl ?_
                                refine g_iload (pc' := 143) O ⟨dX11_finishes_141, rfl⟩ (q := 5) rfl ?_
                                refine g_iload (pc' := 145) O ⟨dX11_finishes_143, rfl⟩ (q := 6) rfl ?_
                                refine g_iload (pc' := 147) O ⟨dX11_finishes_145, rfl⟩ (q := 7) rfl ?_
                                obtain ⟨r_15, c_16, E⟩ := bd_of E
                                refine g_Vi (pc' := 150) O ⟨dX11_finishes_147, rfl⟩ (y := yX11_isDone) (As := [.long x2_5, .int x6_9, .int x7_11, .int x8_13]) (st := []) (t_X11_isDone l D ad cy (h := h_4) c_16) kw_1332 kw_70 kw_1329 kw_1331 kw_44 rfl (wM_0 ad cy h_4) hd_X11_isDone ⟨Nat.le_of_ble_eq_true rfl, Nat.le_of_ble_eq_true rfl⟩ ⟨Nat.le_of_ble_eq_true rfl, Nat.le_of_ble_eq_true rfl⟩ rfl (Nat.le_of_ble_eq_true rfl) ?_
                                refine g_if_eq (pc' := 153) O ⟨dX11_finishes_150, rfl⟩ E (tgt := 156) (by decide) (fun E => ?_) (fun E => ?_)
                                · refine g_iinc (pc' := 159) O ⟨dX11_finishes_156, rfl⟩ (q := 7) (v := x8_13 + (1 : Int32)) (lv' := [(8, .int (x8_13 + (1 : Int32))), (0, .ref (ad 0)), (1, .int x1), (2, .long x2_5), (4, .int y4_6), (5, .int x5_8), (6, .int x6_9), (7, .int x7_11)]) rfl rfl (by decide) rfl ?_
                                  refine g_goto (pc' := 162) O ⟨dX11_finishes_159, rfl⟩ (tgt := 122) (by decide) ?_
                                  refine g_sub (lv' := [(0, .ref (ad 0)), (1, .int x1), (2, .long x2_5), (4, .int y4_6), (5, .int x5_8), (6, .int x6_9), (7, .int x7_11), (8, .int (x8_13 + (1 : Int32)))]) [1, 2, 3, 4, 5, 6, 7, 0] rfl ?_
                                  exact ih122 _ E
                                · refine g_sub (lv' := [(5, .int x5_8)]) [4] rfl ?_
                                  exact hk153 _ E
                            · intro k136 hk136 E
                              refine g_icmp_le (pc' := 130) O ⟨dX11_finishes_127, rfl⟩ E (tgt := 135) (by decide) (fun E => ?_) (fun E => ?_)
                              · refine g_iconst (pc' := 136) O ⟨dX11_finishes_135, rfl⟩ (v := (1 : Int32)) rfl ?_
                                exact hk136 _ E
                              · refine g_iload (pc' := 132) O ⟨dX11_finishes_130, rfl⟩ (q := 3) rfl ?_
                                refine g_goto (pc' := 135) O ⟨dX11_finishes_132, rfl⟩ (tgt := 136) (by decide) ?_
                                exact hk136 _ E
                      · intro k116 hk116 E
                        refine g_icmp_le (pc' := 110) O ⟨dX11_finishes_107, rfl⟩ E (tgt := 115) (by decide) (fun E => ?_) (fun E => ?_)
                        · refine g_iconst (pc' := 116) O ⟨dX11_finishes_115, rfl⟩ (v := (1 : Int32)) rfl ?_
                          exact hk116 _ E
                        · refine g_iload (pc' := 112) O ⟨dX11_finishes_110, rfl⟩ (q := 3) rfl ?_
                          refine g_goto (pc' := 115) O ⟨dX11_finishes_112, rfl⟩ (tgt := 116) (by decide) ?_
                          exact hk116 _ E
                · intro k96 hk96 E
                  refine g_if_le (pc' := 90) O ⟨dX11_finishes_87, rfl⟩ E (tgt := 95) (by decide) (fun E => ?_) (fun E => ?_)
                  · refine g_iconst (pc' := 96) O ⟨dX11_finishes_95, rfl⟩ (v := (1 : Int32)) rfl ?_
                    exact hk96 _ E
                  · refine g_iload (pc' := 92) O ⟨dX11_finishes_90, rfl⟩ (q := 3) rfl ?_
                    refine g_goto (pc' := 95) O ⟨dX11_finishes_92, rfl⟩ (tgt := 96) (by decide) ?_
                    exact hk96 _ E
      · intro k60 hk60 E
        refine g_sub (lv' := [(0, .ref (ad 0)), (1, .int x1), (2, .long (0 : Int64)), (4, .int (0 : Int32))]) [2, 3, 1, 0] rfl ?_
        refine fx2_of (P := fun (x2_17 : Int64) (x4_18 : Int32) => G l D X 9 (WM ad cy) 0 0 h_4 32 [(0, .ref (ad 0)), (1, .int x1), (2, .long x2_17), (4, .int x4_18)] []) ?_ _ _ _ E
        intro self ih32 x2_17 x4_18 E
        show G l D X 9 (WM ad cy) 0 0 h_4 32 [(0, .ref (ad 0)), (1, .int x1), (2, .long x2_17), (4, .int x4_18)] []
        unfold L_X11_finishes_32 at E
        refine g_iload (pc' := 34) O ⟨dX11_finishes_32, rfl⟩ (q := 3) rfl ?_
        refine g_iconst (pc' := 35) O ⟨dX11_finishes_34, rfl⟩ (v := (1 : Int32)) rfl ?_
        refine g_aload_n (pc' := 36) O ⟨dX11_finishes_35, rfl⟩ (q := 0) rfl rfl ?_
        refine gf_M_RX11_74_0 ad cy (pc' := 39) O ⟨dX11_finishes_36, rfl⟩ ?_
        refine g_ishl (pc' := 40) O ⟨dX11_finishes_39, rfl⟩ ?_
        refine g_icmp_ge (pc' := 43) O ⟨dX11_finishes_40, rfl⟩ E (tgt := 60) (by decide) (fun E => ?_) (fun E => ?_)
        · refine g_sub (lv' := [(0, .ref (ad 0)), (1, .int x1), (2, .long x2_17)]) [0, 1, 2] rfl ?_
          exact hk60 _ E
        · refine g_lload_n (pc' := 44) O ⟨dX11_finishes_43, rfl⟩ (q := 2) rfl rfl ?_
          refine g_lconst (pc' := 45) O ⟨dX11_finishes_44, rfl⟩ (v := (1 : Int64)) rfl ?_
          refine g_aload_n (pc' := 46) O ⟨dX11_finishes_45, rfl⟩ (q := 0) rfl rfl ?_
          refine g_iload (pc' := 48) O ⟨dX11_finishes_46, rfl⟩ (q := 3) rfl ?_
          obtain ⟨r_19, c_20, E⟩ := bd_of E
          refine g_Vi (pc' := 51) O ⟨dX11_finishes_48, rfl⟩ (y := yX11_out) (As := [.int x4_18]) (st := [.long (1 : Int64), .long x2_17]) (t_X11_out l D ad cy (h := h_4) c_20) kw_1301 kw_70 kw_1298 kw_1300 kw_41 rfl (wM_0 ad cy h_4) hd_X11_out ⟨Nat.le_of_ble_eq_true rfl, Nat.le_of_ble_eq_true rfl⟩ ⟨Nat.le_of_ble_eq_true rfl, Nat.le_of_ble_eq_true rfl⟩ rfl (Nat.le_of_ble_eq_true rfl) ?_
          refine g_lshl (pc' := 52) O ⟨dX11_finishes_51, rfl⟩ ?_
          refine g_lor (pc' := 53) O ⟨dX11_finishes_52, rfl⟩ ?_
          refine g_nmL E (fun y2_21 E => ?_)
          refine g_lstore_n (pc' := 54) O ⟨dX11_finishes_53, rfl⟩ (lv' := [(2, .long y2_21), (0, .ref (ad 0)), (1, .int x1), (4, .int x4_18)]) rfl (by decide) rfl ?_
          refine g_iinc (pc' := 57) O ⟨dX11_finishes_54, rfl⟩ (q := 3) (v := x4_18 + (1 : Int32)) (lv' := [(4, .int (x4_18 + (1 : Int32))), (2, .long y2_21), (0, .ref (ad 0)), (1, .int x1)]) rfl rfl (by decide) rfl ?_
          refine g_goto (pc' := 60) O ⟨dX11_finishes_57, rfl⟩ (tgt := 32) (by decide) ?_
          refine g_sub (lv' := [(0, .ref (ad 0)), (1, .int x1), (2, .long y2_21), (4, .int (x4_18 + (1 : Int32)))]) [2, 3, 1, 0] rfl ?_
          exact ih32 _ _ E
    · refine g_iconst (pc' := 26) O ⟨dX11_finishes_25, rfl⟩ (v := (0 : Int32)) rfl ?_
      cases E
      exact hret _ _ _ ⟨dX11_finishes_26, rfl⟩ rfl
  · intro k15 hk15 E
    refine g_if_eq (pc' := 10) O ⟨dX11_finishes_7, rfl⟩ E (tgt := 14) (by decide) (fun E => ?_) (fun E => ?_)
    · refine g_iconst (pc' := 15) O ⟨dX11_finishes_14, rfl⟩ (v := (1 : Int32)) rfl ?_
      exact hk15 _ E
    · refine g_iconst (pc' := 11) O ⟨dX11_finishes_10, rfl⟩ (v := (0 : Int32)) rfl ?_
      refine g_goto (pc' := 14) O ⟨dX11_finishes_11, rfl⟩ (tgt := 15) (by decide) ?_
      exact hk15 _ E
set_option maxRecDepth 100000 in
set_option maxHeartbeats 4000000 in
theorem t_X11_merges (l : Launch) (D : va_G) (ad : Nat → Nat) (cy : Nat → ClassId) {h : Hp} {x1 : Int32} {o : Int32 × Hp} (E : f_X11_merges h x1 = some o) : CtI l D cy (WM ad cy) yX11_merges cX11_merges 4 .boolean 2 50 [.ref (ad 0), .int x1] h o.1 o.2 := by
  refine sI (own := RX11) rfl rfl (Nat.le_of_ble_eq_true rfl) (fun X O hret => ?_)
  show G l D X 4 (WM ad cy) 0 0 h 0 [(0, .ref (ad 0)), (1, .int x1)] []
  unfold f_X11_merges at E
  refine g_aload_n (pc' := 1) O ⟨dX11_merges_0, rfl⟩ (q := 0) rfl rfl ?_
  refine g_iload_n (pc' := 2) O ⟨dX11_merges_1, rfl⟩ (q := 1) rfl rfl ?_
  refine g_iconst (pc' := 3) O ⟨dX11_merges_2, rfl⟩ (v := (1 : Int32)) rfl ?_
  refine g_aload_n (pc' := 4) O ⟨dX11_merges_3, rfl⟩ (q := 0) rfl rfl ?_
  refine gf_M_RX11_74_0 ad cy (pc' := 7) O ⟨dX11_merges_4, rfl⟩ ?_
  refine g_iconst (pc' := 8) O ⟨dX11_merges_7, rfl⟩ (v := (1 : Int32)) rfl ?_
  refine g_isub (pc' := 9) O ⟨dX11_merges_8, rfl⟩ ?_
  obtain ⟨r_1, c_2, E⟩ := bd_of E
  refine g_Si (pc' := 12) O ⟨dX11_merges_9, rfl⟩ (y := yX11_in) (As := [.int x1, .int (1 : Int32), .int ((h.1 0 1) - (1 : Int32))]) (st := [.ref (ad 0)]) (t_X11_in l D ad cy (h := h) c_2) kw_1167 kw_70 kw_1165 kw_1166 hd_X11_in ⟨Nat.le_of_ble_eq_true rfl, Nat.le_of_ble_eq_true rfl⟩ ⟨Nat.le_of_ble_eq_true rfl, Nat.le_of_ble_eq_true rfl⟩ rfl (Nat.le_of_ble_eq_true rfl) ?_
  refine jn1_of (P := fun (z_3 : Int32) => G l D X 4 (WM ad cy) 0 0 h 20 [(0, .ref (ad 0)), (1, .int x1)] [.int z_3, .ref (ad 0)]) E ?_ ?_
  · intro z_3 E
    show G l D X 4 (WM ad cy) 0 0 h 20 [(0, .ref (ad 0)), (1, .int x1)] [.int z_3, .ref (ad 0)]
    refine gp_M_RX11_70_0 ad cy (pc' := 23) O ⟨dX11_merges_20, rfl⟩ ?_
    refine g_nmh E (fun h_4 E => ?_)
    refine g_aload_n (pc' := 24) O ⟨dX11_merges_23, rfl⟩ (q := 0) rfl rfl ?_
    refine gf_M_RX11_70_0 ad cy (pc' := 27) O ⟨dX11_merges_24, rfl⟩ ?_
    refine g_if_ne (pc' := 30) O ⟨dX11_merges_27, rfl⟩ E (tgt := 34) (by decide) (fun E => ?_) (fun E => ?_)
    · refine g_iconst (pc' := 35) O ⟨dX11_merges_34, rfl⟩ (v := (0 : Int32)) rfl ?_
      refine g_istore_n (pc' := 36) O ⟨dX11_merges_35, rfl⟩ (lv' := [(2, .int (0 : Int32)), (0, .ref (ad 0)), (1, .int x1)]) rfl (by decide) rfl ?_
      refine g_iconst (pc' := 37) O ⟨dX11_merges_36, rfl⟩ (v := (0 : Int32)) rfl ?_
      refine g_istore_n (pc' := 38) O ⟨dX11_merges_37, rfl⟩ (lv' := [(3, .int (0 : Int32)), (2, .int (0 : Int32)), (0, .ref (ad 0)), (1, .int x1)]) rfl (by decide) rfl ?_
      refine jn1_of (P := fun (x2_5 : Int32) => G l D X 4 (WM ad cy) 0 0 h_4 101 [(2, .int x2_5)] []) E ?_ ?_
      · intro x2_5 E
        show G l D X 4 (WM ad cy) 0 0 h_4 101 [(2, .int x2_5)] []
        refine g_iload_n (pc' := 102) O ⟨dX11_merges_101, rfl⟩ (q := 0) rfl rfl ?_
        obtain ⟨hn, E⟩ := ckz_of E
        cases E
        exact hret _ _ _ ⟨dX11_merges_102, rfl⟩ hn
      · intro k101 hk101 E
        refine g_sub (lv' := [(0, .ref (ad 0)), (1, .int x1), (2, .int (0 : Int32)), (3, .int (0 : Int32))]) [2, 3, 1, 0] rfl ?_
        refine fx2_of (P := fun (x2_6 : Int32) (x3_7 : Int32) => G l D X 4 (WM ad cy) 0 0 h_4 38 [(0, .ref (ad 0)), (1, .int x1), (2, .int x2_6), (3, .int x3_7)] []) ?_ _ _ _ E
        intro self ih38 x2_6 x3_7 E
        show G l D X 4 (WM ad cy) 0 0 h_4 38 [(0, .ref (ad 0)), (1, .int x1), (2, .int x2_6), (3, .int x3_7)] []
        unfold L_X11_merges_38 at E
        refine g_iload_n (pc' := 39) O ⟨dX11_merges_38, rfl⟩ (q := 3) rfl rfl ?_
        refine g_iconst (pc' := 40) O ⟨dX11_merges_39, rfl⟩ (v := (1 : Int32)) rfl ?_
        refine g_aload_n (pc' := 41) O ⟨dX11_merges_40, rfl⟩ (q := 0) rfl rfl ?_
        refine gf_M_RX11_74_0 ad cy (pc' := 44) O ⟨dX11_merges_41, rfl⟩ ?_
        refine g_ishl (pc' := 45) O ⟨dX11_merges_44, rfl⟩ ?_
        refine g_icmp_ge (pc' := 48) O ⟨dX11_merges_45, rfl⟩ E (tgt := 101) (by decide) (fun E => ?_) (fun E => ?_)
        · refine g_sub (lv' := [(2, .int x2_6)]) [2] rfl ?_
          exact hk101 _ E
        · refine g_iload_n (pc' := 49) O ⟨dX11_merges_48, rfl⟩ (q := 2) rfl rfl ?_
          refine g_if_eq (pc' := 52) O ⟨dX11_merges_49, rfl⟩ E (tgt := 101) (by decide) (fun E => ?_) (fun E => ?_)
          · refine g_sub (lv' := [(2, .int x2_6)]) [2] rfl ?_
            exact hk101 _ E
          · refine g_iload_n (pc' := 53) O ⟨dX11_merges_52, rfl⟩ (q := 3) rfl rfl ?_
            refine g_iconst (pc' := 54) O ⟨dX11_merges_53, rfl⟩ (v := (0 : Int32)) rfl ?_
            refine g_iload_n (pc' := 55) O ⟨dX11_merges_54, rfl⟩ (q := 1) rfl rfl ?_
            obtain ⟨r_8, c_9, E⟩ := bd_of E
            refine g_Si (pc' := 58) O ⟨dX11_merges_55, rfl⟩ (y := yX11_isSorted) (As := [.int x3_7, .int (0 : Int32), .int x1]) (st := []) (t_X11_isSorted l D ad cy (h := h_4) c_9) kw_1312 kw_70 kw_1310 kw_1311 hd_X11_isSorted ⟨Nat.le_of_ble_eq_true rfl, Nat.le_of_ble_eq_true rfl⟩ ⟨Nat.le_of_ble_eq_true rfl, Nat.le_of_ble_eq_true rfl⟩ rfl (Nat.le_of_ble_eq_true rfl) ?_
            refine jn0_of (P := G l D X 4 (WM ad cy) 0 0 h_4 89 [(0, .ref (ad 0)), (1, .int x1), (3, .int x3_7)] []) E ?_ ?_
            · intro E
              show G l D X 4 (WM ad cy) 0 0 h_4 89 [(0, .ref (ad 0)), (1, .int x1), (3, .int x3_7)] []
              refine g_iconst (pc' := 90) O ⟨dX11_merges_89, rfl⟩ (v := (1 : Int32)) rfl ?_
              refine g_goto (pc' := 93) O ⟨dX11_merges_90, rfl⟩ (tgt := 94) (by decide) ?_
              refine g_istore_n (pc' := 95) O ⟨dX11_merges_94, rfl⟩ (lv' := [(2, .int (1 : Int32)), (0, .ref (ad 0)), (1, .int x1), (3, .int x3_7)]) rfl (by decide) rfl ?_
              refine g_iinc (pc' := 98) O ⟨dX11_merges_95, rfl⟩ (q := 3) (v := x3_7 + (1 : Int32)) (lv' := [(3, .int (x3_7 + (1 : Int32))), (2, .int (1 : Int32)), (0, .ref (ad 0)), (1, .int x1)]) rfl rfl (by decide) rfl ?_
              refine g_goto (pc' := 101) O ⟨dX11_merges_98, rfl⟩ (tgt := 38) (by decide) ?_
              refine g_sub (lv' := [(0, .ref (ad 0)), (1, .int x1), (2, .int (1 : Int32)), (3, .int (x3_7 + (1 : Int32)))]) [2, 3, 1, 0] rfl ?_
              exact ih38 _ _ E
            · intro k89 hk89 E
              refine g_if_eq (pc' := 61) O ⟨dX11_merges_58, rfl⟩ E (tgt := 89) (by decide) (fun E => ?_) (fun E => ?_)
              · refine g_sub (lv' := [(0, .ref (ad 0)), (1, .int x1), (3, .int x3_7)]) [0, 1, 3] rfl ?_
                exact hk89 E
              · refine g_iload_n (pc' := 62) O ⟨dX11_merges_61, rfl⟩ (q := 3) rfl rfl ?_
                refine g_iload_n (pc' := 63) O ⟨dX11_merges_62, rfl⟩ (q := 1) rfl rfl ?_
                refine g_aload_n (pc' := 64) O ⟨dX11_merges_63, rfl⟩ (q := 0) rfl rfl ?_
                refine gf_M_RX11_74_0 ad cy (pc' := 67) O ⟨dX11_merges_64, rfl⟩ ?_
                obtain ⟨r_10, c_11, E⟩ := bd_of E
                refine g_Si (pc' := 70) O ⟨dX11_merges_67, rfl⟩ (y := yX11_isSorted) (As := [.int x3_7, .int x1, .int (h_4.1 0 1)]) (st := []) (t_X11_isSorted l D ad cy (h := h_4) c_11) kw_1312 kw_70 kw_1310 kw_1311 hd_X11_isSorted ⟨Nat.le_of_ble_eq_true rfl, Nat.le_of_ble_eq_true rfl⟩ ⟨Nat.le_of_ble_eq_true rfl, Nat.le_of_ble_eq_true rfl⟩ rfl (Nat.le_of_ble_eq_true rfl) ?_
                refine g_if_eq (pc' := 73) O ⟨dX11_merges_70, rfl⟩ E (tgt := 89) (by decide) (fun E => ?_) (fun E => ?_)
                · refine g_sub (lv' := [(0, .ref (ad 0)), (1, .int x1), (3, .int x3_7)]) [0, 1, 3] rfl ?_
                  exact hk89 E
                · refine g_aload_n (pc' := 74) O ⟨dX11_merges_73, rfl⟩ (q := 0) rfl rfl ?_
                  refine g_iload_n (pc' := 75) O ⟨dX11_merges_74, rfl⟩ (q := 3) rfl rfl ?_
                  obtain ⟨r_12, c_13, E⟩ := bd_of E
                  refine g_Vi (pc' := 78) O ⟨dX11_merges_75, rfl⟩ (y := yX11_out) (As := [.int x3_7]) (st := []) (t_X11_out l D ad cy (h := h_4) c_13) kw_1301 kw_70 kw_1298 kw_1300 kw_41 rfl (wM_0 ad cy h_4) hd_X11_out ⟨Nat.le_of_ble_eq_true rfl, Nat.le_of_ble_eq_true rfl⟩ ⟨Nat.le_of_ble_eq_true rfl, Nat.le_of_ble_eq_true rfl⟩ rfl (Nat.le_of_ble_eq_true rfl) ?_
                  refine g_iconst (pc' := 79) O ⟨dX11_merges_78, rfl⟩ (v := (0 : Int32)) rfl ?_
                  refine g_aload_n (pc' := 80) O ⟨dX11_merges_79, rfl⟩ (q := 0) rfl rfl ?_
                  refine gf_M_RX11_74_0 ad cy (pc' := 83) O ⟨dX11_merges_80, rfl⟩ ?_
                  obtain ⟨r_14, c_15, E⟩ := bd_of E
                  refine g_Si (pc' := 86) O ⟨dX11_merges_83, rfl⟩ (y := yX11_isSorted) (As := [.int r_12, .int (0 : Int32), .int (h_4.1 0 1)]) (st := []) (t_X11_isSorted l D ad cy (h := h_4) c_15) kw_1312 kw_70 kw_1310 kw_1311 hd_X11_isSorted ⟨Nat.le_of_ble_eq_true rfl, Nat.le_of_ble_eq_true rfl⟩ ⟨Nat.le_of_ble_eq_true rfl, Nat.le_of_ble_eq_true rfl⟩ rfl (Nat.le_of_ble_eq_true rfl) ?_
                  refine g_if_eq (pc' := 89) O ⟨dX11_merges_86, rfl⟩ E (tgt := 93) (by decide) (fun E => ?_) (fun E => ?_)
                  · refine g_iconst (pc' := 94) O ⟨dX11_merges_93, rfl⟩ (v := (0 : Int32)) rfl ?_
                    refine g_istore_n (pc' := 95) O ⟨dX11_merges_94, rfl⟩ (lv' := [(2, .int (0 : Int32)), (0, .ref (ad 0)), (1, .int x1), (3, .int x3_7)]) rfl (by decide) rfl ?_
                    refine g_iinc (pc' := 98) O ⟨dX11_merges_95, rfl⟩ (q := 3) (v := x3_7 + (1 : Int32)) (lv' := [(3, .int (x3_7 + (1 : Int32))), (2, .int (0 : Int32)), (0, .ref (ad 0)), (1, .int x1)]) rfl rfl (by decide) rfl ?_
                    refine g_goto (pc' := 101) O ⟨dX11_merges_98, rfl⟩ (tgt := 38) (by decide) ?_
                    refine g_sub (lv' := [(0, .ref (ad 0)), (1, .int x1), (2, .int (0 : Int32)), (3, .int (x3_7 + (1 : Int32)))]) [2, 3, 1, 0] rfl ?_
                    exact ih38 _ _ E
                  · refine g_sub (lv' := [(0, .ref (ad 0)), (1, .int x1), (3, .int x3_7)]) [0, 1, 3] rfl ?_
                    exact hk89 E
    · refine g_iconst (pc' := 31) O ⟨dX11_merges_30, rfl⟩ (v := (1 : Int32)) rfl ?_
      refine g_goto (pc' := 34) O ⟨dX11_merges_31, rfl⟩ (tgt := 35) (by decide) ?_
      refine g_istore_n (pc' := 36) O ⟨dX11_merges_35, rfl⟩ (lv' := [(2, .int (1 : Int32)), (0, .ref (ad 0)), (1, .int x1)]) rfl (by decide) rfl ?_
      refine g_iconst (pc' := 37) O ⟨dX11_merges_36, rfl⟩ (v := (0 : Int32)) rfl ?_
      refine g_istore_n (pc' := 38) O ⟨dX11_merges_37, rfl⟩ (lv' := [(3, .int (0 : Int32)), (2, .int (1 : Int32)), (0, .ref (ad 0)), (1, .int x1)]) rfl (by decide) rfl ?_
      refine jn1_of (P := fun (x2_16 : Int32) => G l D X 4 (WM ad cy) 0 0 h_4 101 [(2, .int x2_16)] []) E ?_ ?_
      · intro x2_16 E
        show G l D X 4 (WM ad cy) 0 0 h_4 101 [(2, .int x2_16)] []
        refine g_iload_n (pc' := 102) O ⟨dX11_merges_101, rfl⟩ (q := 0) rfl rfl ?_
        obtain ⟨hn, E⟩ := ckz_of E
        cases E
        exact hret _ _ _ ⟨dX11_merges_102, rfl⟩ hn
      · intro k101 hk101 E
        refine g_sub (lv' := [(0, .ref (ad 0)), (1, .int x1), (2, .int (1 : Int32)), (3, .int (0 : Int32))]) [2, 3, 1, 0] rfl ?_
        refine fx2_of (P := fun (x2_17 : Int32) (x3_18 : Int32) => G l D X 4 (WM ad cy) 0 0 h_4 38 [(0, .ref (ad 0)), (1, .int x1), (2, .int x2_17), (3, .int x3_18)] []) ?_ _ _ _ E
        intro self ih38 x2_17 x3_18 E
        show G l D X 4 (WM ad cy) 0 0 h_4 38 [(0, .ref (ad 0)), (1, .int x1), (2, .int x2_17), (3, .int x3_18)] []
        unfold L_X11_merges_38 at E
        refine g_iload_n (pc' := 39) O ⟨dX11_merges_38, rfl⟩ (q := 3) rfl rfl ?_
        refine g_iconst (pc' := 40) O ⟨dX11_merges_39, rfl⟩ (v := (1 : Int32)) rfl ?_
        refine g_aload_n (pc' := 41) O ⟨dX11_merges_40, rfl⟩ (q := 0) rfl rfl ?_
        refine gf_M_RX11_74_0 ad cy (pc' := 44) O ⟨dX11_merges_41, rfl⟩ ?_
        refine g_ishl (pc' := 45) O ⟨dX11_merges_44, rfl⟩ ?_
        refine g_icmp_ge (pc' := 48) O ⟨dX11_merges_45, rfl⟩ E (tgt := 101) (by decide) (fun E => ?_) (fun E => ?_)
        · refine g_sub (lv' := [(2, .int x2_17)]) [2] rfl ?_
          exact hk101 _ E
        · refine g_iload_n (pc' := 49) O ⟨dX11_merges_48, rfl⟩ (q := 2) rfl rfl ?_
          refine g_if_eq (pc' := 52) O ⟨dX11_merges_49, rfl⟩ E (tgt := 101) (by decide) (fun E => ?_) (fun E => ?_)
          · refine g_sub (lv' := [(2, .int x2_17)]) [2] rfl ?_
            exact hk101 _ E
          · refine g_iload_n (pc' := 53) O ⟨dX11_merges_52, rfl⟩ (q := 3) rfl rfl ?_
            refine g_iconst (pc' := 54) O ⟨dX11_merges_53, rfl⟩ (v := (0 : Int32)) rfl ?_
            refine g_iload_n (pc' := 55) O ⟨dX11_merges_54, rfl⟩ (q := 1) rfl rfl ?_
            obtain ⟨r_19, c_20, E⟩ := bd_of E
            refine g_Si (pc' := 58) O ⟨dX11_merges_55, rfl⟩ (y := yX11_isSorted) (As := [.int x3_18, .int (0 : Int32), .int x1]) (st := []) (t_X11_isSorted l D ad cy (h := h_4) c_20) kw_1312 kw_70 kw_1310 kw_1311 hd_X11_isSorted ⟨Nat.le_of_ble_eq_true rfl, Nat.le_of_ble_eq_true rfl⟩ ⟨Nat.le_of_ble_eq_true rfl, Nat.le_of_ble_eq_true rfl⟩ rfl (Nat.le_of_ble_eq_true rfl) ?_
            refine jn0_of (P := G l D X 4 (WM ad cy) 0 0 h_4 89 [(0, .ref (ad 0)), (1, .int x1), (3, .int x3_18)] []) E ?_ ?_
            · intro E
              show G l D X 4 (WM ad cy) 0 0 h_4 89 [(0, .ref (ad 0)), (1, .int x1), (3, .int x3_18)] []
              refine g_iconst (pc' := 90) O ⟨dX11_merges_89, rfl⟩ (v := (1 : Int32)) rfl ?_
              refine g_goto (pc' := 93) O ⟨dX11_merges_90, rfl⟩ (tgt := 94) (by decide) ?_
              refine g_istore_n (pc' := 95) O ⟨dX11_merges_94, rfl⟩ (lv' := [(2, .int (1 : Int32)), (0, .ref (ad 0)), (1, .int x1), (3, .int x3_18)]) rfl (by decide) rfl ?_
              refine g_iinc (pc' := 98) O ⟨dX11_merges_95, rfl⟩ (q := 3) (v := x3_18 + (1 : Int32)) (lv' := [(3, .int (x3_18 + (1 : Int32))), (2, .int (1 : Int32)), (0, .ref (ad 0)), (1, .int x1)]) rfl rfl (by decide) rfl ?_
              refine g_goto (pc' := 101) O ⟨dX11_merges_98, rfl⟩ (tgt := 38) (by decide) ?_
              refine g_sub (lv' := [(0, .ref (ad 0)), (1, .int x1), (2, .int (1 : Int32)), (3, .int (x3_18 + (1 : Int32)))]) [2, 3, 1, 0] rfl ?_
              exact ih38 _ _ E
            · intro k89 hk89 E
              refine g_if_eq (pc' := 61) O ⟨dX11_merges_58, rfl⟩ E (tgt := 89) (by decide) (fun E => ?_) (fun E => ?_)
              · refine g_sub (lv' := [(0, .ref (ad 0)), (1, .int x1), (3, .int x3_18)]) [0, 1, 3] rfl ?_
                exact hk89 E
              · refine g_iload_n (pc' := 62) O ⟨dX11_merges_61, rfl⟩ (q := 3) rfl rfl ?_
                refine g_iload_n (pc' := 63) O ⟨dX11_merges_62, rfl⟩ (q := 1) rfl rfl ?_
                refine g_aload_n (pc' := 64) O ⟨dX11_merges_63, rfl⟩ (q := 0) rfl rfl ?_
                refine gf_M_RX11_74_0 ad cy (pc' := 67) O ⟨dX11_merges_64, rfl⟩ ?_
                obtain ⟨r_21, c_22, E⟩ := bd_of E
                refine g_Si (pc' := 70) O ⟨dX11_merges_67, rfl⟩ (y := yX11_isSorted) (As := [.int x3_18, .int x1, .int (h_4.1 0 1)]) (st := []) (t_X11_isSorted l D ad cy (h := h_4) c_22) kw_1312 kw_70 kw_1310 kw_1311 hd_X11_isSorted ⟨Nat.le_of_ble_eq_true rfl, Nat.le_of_ble_eq_true rfl⟩ ⟨Nat.le_of_ble_eq_true rfl, Nat.le_of_ble_eq_true rfl⟩ rfl (Nat.le_of_ble_eq_true rfl) ?_
                refine g_if_eq (pc' := 73) O ⟨dX11_merges_70, rfl⟩ E (tgt := 89) (by decide) (fun E => ?_) (fun E => ?_)
                · refine g_sub (lv' := [(0, .ref (ad 0)), (1, .int x1), (3, .int x3_18)]) [0, 1, 3] rfl ?_
                  exact hk89 E
                · refine g_aload_n (pc' := 74) O ⟨dX11_merges_73, rfl⟩ (q := 0) rfl rfl ?_
                  refine g_iload_n (pc' := 75) O ⟨dX11_merges_74, rfl⟩ (q := 3) rfl rfl ?_
                  obtain ⟨r_23, c_24, E⟩ := bd_of E
                  refine g_Vi (pc' := 78) O ⟨dX11_merges_75, rfl⟩ (y := yX11_out) (As := [.int x3_18]) (st := []) (t_X11_out l D ad cy (h := h_4) c_24) kw_1301 kw_70 kw_1298 kw_1300 kw_41 rfl (wM_0 ad cy h_4) hd_X11_out ⟨Nat.le_of_ble_eq_true rfl, Nat.le_of_ble_eq_true rfl⟩ ⟨Nat.le_of_ble_eq_true rfl, Nat.le_of_ble_eq_true rfl⟩ rfl (Nat.le_of_ble_eq_true rfl) ?_
                  refine g_iconst (pc' := 79) O ⟨dX11_merges_78, rfl⟩ (v := (0 : Int32)) rfl ?_
                  refine g_aload_n (pc' := 80) O ⟨dX11_merges_79, rfl⟩ (q := 0) rfl rfl ?_
                  refine gf_M_RX11_74_0 ad cy (pc' := 83) O ⟨dX11_merges_80, rfl⟩ ?_
                  obtain ⟨r_25, c_26, E⟩ := bd_of E
                  refine g_Si (pc' := 86) O ⟨dX11_merges_83, rfl⟩ (y := yX11_isSorted) (As := [.int r_23, .int (0 : Int32), .int (h_4.1 0 1)]) (st := []) (t_X11_isSorted l D ad cy (h := h_4) c_26) kw_1312 kw_70 kw_1310 kw_1311 hd_X11_isSorted ⟨Nat.le_of_ble_eq_true rfl, Nat.le_of_ble_eq_true rfl⟩ ⟨Nat.le_of_ble_eq_true rfl, Nat.le_of_ble_eq_true rfl⟩ rfl (Nat.le_of_ble_eq_true rfl) ?_
                  refine g_if_eq (pc' := 89) O ⟨dX11_merges_86, rfl⟩ E (tgt := 93) (by decide) (fun E => ?_) (fun E => ?_)
                  · refine g_iconst (pc' := 94) O ⟨dX11_merges_93, rfl⟩ (v := (0 : Int32)) rfl ?_
                    refine g_istore_n (pc' := 95) O ⟨dX11_merges_94, rfl⟩ (lv' := [(2, .int (0 : Int32)), (0, .ref (ad 0)), (1, .int x1), (3, .int x3_18)]) rfl (by decide) rfl ?_
                    refine g_iinc (pc' := 98) O ⟨dX11_merges_95, rfl⟩ (q := 3) (v := x3_18 + (1 : Int32)) (lv' := [(3, .int (x3_18 + (1 : Int32))), (2, .int (0 : Int32)), (0, .ref (ad 0)), (1, .int x1)]) rfl rfl (by decide) rfl ?_
                    refine g_goto (pc' := 101) O ⟨dX11_merges_98, rfl⟩ (tgt := 38) (by decide) ?_
                    refine g_sub (lv' := [(0, .ref (ad 0)), (1, .int x1), (2, .int (0 : Int32)), (3, .int (x3_18 + (1 : Int32)))]) [2, 3, 1, 0] rfl ?_
                    exact ih38 _ _ E
                  · refine g_sub (lv' := [(0, .ref (ad 0)), (1, .int x1), (3, .int x3_18)]) [0, 1, 3] rfl ?_
                    exact hk89 E
  · intro k20 hk20 E
    refine g_if_eq (pc' := 15) O ⟨dX11_merges_12, rfl⟩ E (tgt := 19) (by decide) (fun E => ?_) (fun E => ?_)
    · refine g_iconst (pc' := 20) O ⟨dX11_merges_19, rfl⟩ (v := (1 : Int32)) rfl ?_
      exact hk20 _ E
    · refine g_iconst (pc' := 16) O ⟨dX11_merges_15, rfl⟩ (v := (0 : Int32)) rfl ?_
      refine g_goto (pc' := 19) O ⟨dX11_merges_16, rfl⟩ (tgt := 20) (by decide) ?_
      exact hk20 _ E
set_option maxRecDepth 100000 in
set_option maxHeartbeats 4000000 in
theorem t_X11_chooses (l : Launch) (D : va_G) (ad : Nat → Nat) (cy : Nat → ClassId) {h : Hp} {x1 : Int32} {o : Int32 × Hp} (E : f_X11_chooses h x1 = some o) : CtI l D cy (WM ad cy) yX11_chooses cX11_chooses 5 .boolean 2 44 [.ref (ad 0), .int x1] h o.1 o.2 := by
  refine sI (own := RX11) rfl rfl (Nat.le_of_ble_eq_true rfl) (fun X O hret => ?_)
  show G l D X 5 (WM ad cy) 0 0 h 0 [(0, .ref (ad 0)), (1, .int x1)] []
  unfold f_X11_chooses at E
  refine g_aload_n (pc' := 1) O ⟨dX11_chooses_0, rfl⟩ (q := 0) rfl rfl ?_
  refine g_iload_n (pc' := 2) O ⟨dX11_chooses_1, rfl⟩ (q := 1) rfl rfl ?_
  refine g_iconst (pc' := 3) O ⟨dX11_chooses_2, rfl⟩ (v := (1 : Int32)) rfl ?_
  refine g_aload_n (pc' := 4) O ⟨dX11_chooses_3, rfl⟩ (q := 0) rfl rfl ?_
  refine gf_M_RX11_74_0 ad cy (pc' := 7) O ⟨dX11_chooses_4, rfl⟩ ?_
  refine g_iconst (pc' := 8) O ⟨dX11_chooses_7, rfl⟩ (v := (1 : Int32)) rfl ?_
  refine g_isub (pc' := 9) O ⟨dX11_chooses_8, rfl⟩ ?_
  obtain ⟨r_1, c_2, E⟩ := bd_of E
  refine g_Si (pc' := 12) O ⟨dX11_chooses_9, rfl⟩ (y := yX11_in) (As := [.int x1, .int (1 : Int32), .int ((h.1 0 1) - (1 : Int32))]) (st := [.ref (ad 0)]) (t_X11_in l D ad cy (h := h) c_2) kw_1167 kw_70 kw_1165 kw_1166 hd_X11_in ⟨Nat.le_of_ble_eq_true rfl, Nat.le_of_ble_eq_true rfl⟩ ⟨Nat.le_of_ble_eq_true rfl, Nat.le_of_ble_eq_true rfl⟩ rfl (Nat.le_of_ble_eq_true rfl) ?_
  refine jn1_of (P := fun (z_3 : Int32) => G l D X 5 (WM ad cy) 0 0 h 20 [(0, .ref (ad 0)), (1, .int x1)] [.int z_3, .ref (ad 0)]) E ?_ ?_
  · intro z_3 E
    show G l D X 5 (WM ad cy) 0 0 h 20 [(0, .ref (ad 0)), (1, .int x1)] [.int z_3, .ref (ad 0)]
    refine gp_M_RX11_70_0 ad cy (pc' := 23) O ⟨dX11_chooses_20, rfl⟩ ?_
    refine g_nmh E (fun h_4 E => ?_)
    refine g_aload_n (pc' := 24) O ⟨dX11_chooses_23, rfl⟩ (q := 0) rfl rfl ?_
    refine gf_M_RX11_70_0 ad cy (pc' := 27) O ⟨dX11_chooses_24, rfl⟩ ?_
    refine g_if_ne (pc' := 30) O ⟨dX11_chooses_27, rfl⟩ E (tgt := 34) (by decide) (fun E => ?_) (fun E => ?_)
    · refine g_iconst (pc' := 35) O ⟨dX11_chooses_34, rfl⟩ (v := (0 : Int32)) rfl ?_
      refine g_istore_n (pc' := 36) O ⟨dX11_chooses_35, rfl⟩ (lv' := [(2, .int (0 : Int32)), (0, .ref (ad 0)), (1, .int x1)]) rfl (by decide) rfl ?_
      refine g_iconst (pc' := 37) O ⟨dX11_chooses_36, rfl⟩ (v := (0 : Int32)) rfl ?_
      refine g_istore_n (pc' := 38) O ⟨dX11_chooses_37, rfl⟩ (lv' := [(3, .int (0 : Int32)), (2, .int (0 : Int32)), (0, .ref (ad 0)), (1, .int x1)]) rfl (by decide) rfl ?_
      refine jn2_of (P := fun (x2_5 : Int32) (h_6 : Hp) => G l D X 5 (WM ad cy) 0 0 h_6 101 [(2, .int x2_5)] []) E ?_ ?_
      · intro x2_5 h_6 E
        show G l D X 5 (WM ad cy) 0 0 h_6 101 [(2, .int x2_5)] []
        refine g_iload_n (pc' := 102) O ⟨dX11_chooses_101, rfl⟩ (q := 0) rfl rfl ?_
        obtain ⟨hn, E⟩ := ckz_of E
        cases E
        exact hret _ _ _ ⟨dX11_chooses_102, rfl⟩ hn
      · intro k101 hk101 E
        refine g_sub (lv' := [(0, .ref (ad 0)), (1, .int x1), (2, .int (0 : Int32)), (3, .int (0 : Int32))]) [2, 3, 1, 0] rfl ?_
        refine fx3_of (P := fun (x2_7 : Int32) (x3_8 : Int32) (h_9 : Hp) => G l D X 5 (WM ad cy) 0 0 h_9 38 [(0, .ref (ad 0)), (1, .int x1), (2, .int x2_7), (3, .int x3_8)] []) ?_ _ _ _ _ E
        intro self ih38 x2_7 x3_8 h_9 E
        show G l D X 5 (WM ad cy) 0 0 h_9 38 [(0, .ref (ad 0)), (1, .int x1), (2, .int x2_7), (3, .int x3_8)] []
        unfold L_X11_chooses_38 at E
        refine g_iload_n (pc' := 39) O ⟨dX11_chooses_38, rfl⟩ (q := 3) rfl rfl ?_
        refine g_aload_n (pc' := 40) O ⟨dX11_chooses_39, rfl⟩ (q := 0) rfl rfl ?_
        refine gf_M_RX11_88_0 ad cy (pc' := 43) O ⟨dX11_chooses_40, rfl⟩ ?_
        refine g_icmp_ge (pc' := 46) O ⟨dX11_chooses_43, rfl⟩ E (tgt := 101) (by decide) (fun E => ?_) (fun E => ?_)
        · refine g_sub (lv' := [(2, .int x2_7)]) [2] rfl ?_
          exact hk101 _ _ E
        · refine g_iload_n (pc' := 47) O ⟨dX11_chooses_46, rfl⟩ (q := 2) rfl rfl ?_
          refine g_if_eq (pc' := 50) O ⟨dX11_chooses_47, rfl⟩ E (tgt := 101) (by decide) (fun E => ?_) (fun E => ?_)
          · refine g_sub (lv' := [(2, .int x2_7)]) [2] rfl ?_
            exact hk101 _ _ E
          · refine g_aload_n (pc' := 51) O ⟨dX11_chooses_50, rfl⟩ (q := 0) rfl rfl ?_
            refine g_iload_n (pc' := 52) O ⟨dX11_chooses_51, rfl⟩ (q := 3) rfl rfl ?_
            obtain ⟨r_10, c_11, E⟩ := bd_of E
            refine g_Vv (pc' := 55) O ⟨dX11_chooses_52, rfl⟩ (y := yX11_lays) (As := [.int x3_8]) (st := []) (t_X11_lays l D ad cy (h := h_9) c_11) kw_1320 kw_70 kw_1317 kw_1319 kw_43 rfl (wM_0 ad cy h_9) hd_X11_lays ⟨Nat.le_of_ble_eq_true rfl, Nat.le_of_ble_eq_true rfl⟩ ⟨Nat.le_of_ble_eq_true rfl, Nat.le_of_ble_eq_true rfl⟩ rfl (Nat.le_of_ble_eq_true rfl) ?_
            refine g_aload_n (pc' := 56) O ⟨dX11_chooses_55, rfl⟩ (q := 0) rfl rfl ?_
            obtain ⟨r_12, c_13, E⟩ := bd_of E
            refine g_Vv (pc' := 59) O ⟨dX11_chooses_56, rfl⟩ (y := yX11_goes) (As := []) (st := []) (t_X11_goes l D ad cy (h := r_10) c_13) kw_1285 kw_70 kw_1282 kw_1284 kw_38 rfl (wM_0 ad cy r_10) hd_X11_goes ⟨Nat.le_of_ble_eq_true rfl, Nat.le_of_ble_eq_true rfl⟩ ⟨Nat.le_of_ble_eq_true rfl, Nat.le_of_ble_eq_true rfl⟩ rfl (Nat.le_of_ble_eq_true rfl) ?_
            refine g_iconst (pc' := 60) O ⟨dX11_chooses_59, rfl⟩ (v := (0 : Int32)) rfl ?_
            refine g_istore (pc' := 62) O ⟨dX11_chooses_60, rfl⟩ (lv' := [(4, .int (0 : Int32)), (0, .ref (ad 0)), (1, .int x1), (2, .int x2_7), (3, .int x3_8)]) (by decide) rfl ?_
            refine jn1_of (P := fun (x2_14 : Int32) => G l D X 5 (WM ad cy) 0 0 r_12 95 [(0, .ref (ad 0)), (1, .int x1), (2, .int x2_14), (3, .int x3_8)] []) E ?_ ?_
            · intro x2_14 E
              show G l D X 5 (WM ad cy) 0 0 r_12 95 [(0, .ref (ad 0)), (1, .int x1), (2, .int x2_14), (3, .int x3_8)] []
              refine g_iinc (pc' := 98) O ⟨dX11_chooses_95, rfl⟩ (q := 3) (v := x3_8 + (1 : Int32)) (lv' := [(3, .int (x3_8 + (1 : Int32))), (0, .ref (ad 0)), (1, .int x1), (2, .int x2_14)]) rfl rfl (by decide) rfl ?_
              refine g_goto (pc' := 101) O ⟨dX11_chooses_98, rfl⟩ (tgt := 38) (by decide) ?_
              refine g_sub (lv' := [(0, .ref (ad 0)), (1, .int x1), (2, .int x2_14), (3, .int (x3_8 + (1 : Int32)))]) [1, 2, 3, 0] rfl ?_
              exact ih38 _ _ _ E
            · intro k95 hk95 E
              refine g_sub (lv' := [(0, .ref (ad 0)), (1, .int x1), (2, .int x2_7), (3, .int x3_8), (4, .int (0 : Int32))]) [1, 2, 3, 4, 0] rfl ?_
              refine fx2_of (P := fun (x2_15 : Int32) (x4_16 : Int32) => G l D X 5 (WM ad cy) 0 0 r_12 62 [(0, .ref (ad 0)), (1, .int x1), (2, .int x2_15), (3, .int x3_8), (4, .int x4_16)] []) ?_ _ _ _ E
              intro self ih62 x2_15 x4_16 E
              show G l D X 5 (WM ad cy) 0 0 r_12 62 [(0, .ref (ad 0)), (1, .int x1), (2, .int x2_15), (3, .int x3_8), (4, .int x4_16)] []
              unfold L_X11_chooses_62 at E
              refine g_iload (pc' := 64) O ⟨dX11_chooses_62, rfl⟩ (q := 4) rfl ?_
              refine g_iload_n (pc' := 65) O ⟨dX11_chooses_64, rfl⟩ (q := 1) rfl rfl ?_
              refine g_icmp_ge (pc' := 68) O ⟨dX11_chooses_65, rfl⟩ E (tgt := 95) (by decide) (fun E => ?_) (fun E => ?_)
              · refine g_sub (lv' := [(0, .ref (ad 0)), (1, .int x1), (2, .int x2_15), (3, .int x3_8)]) [0, 1, 2, 3] rfl ?_
                exact hk95 _ E
              · refine g_iload_n (pc' := 69) O ⟨dX11_chooses_68, rfl⟩ (q := 2) rfl rfl ?_
                refine g_if_eq (pc' := 72) O ⟨dX11_chooses_69, rfl⟩ E (tgt := 87) (by decide) (fun E => ?_) (fun E => ?_)
                · refine g_iconst (pc' := 88) O ⟨dX11_chooses_87, rfl⟩ (v := (0 : Int32)) rfl ?_
                  refine g_istore_n (pc' := 89) O ⟨dX11_chooses_88, rfl⟩ (lv' := [(2, .int (0 : Int32)), (0, .ref (ad 0)), (1, .int x1), (3, .int x3_8), (4, .int x4_16)]) rfl (by decide) rfl ?_
                  refine g_iinc (pc' := 92) O ⟨dX11_chooses_89, rfl⟩ (q := 4) (v := x4_16 + (1 : Int32)) (lv' := [(4, .int (x4_16 + (1 : Int32))), (2, .int (0 : Int32)), (0, .ref (ad 0)), (1, .int x1), (3, .int x3_8)]) rfl rfl (by decide) rfl ?_
                  refine g_goto (pc' := 95) O ⟨dX11_chooses_92, rfl⟩ (tgt := 62) (by decide) ?_
                  refine g_sub (lv' := [(0, .ref (ad 0)), (1, .int x1), (2, .int (0 : Int32)), (3, .int x3_8), (4, .int (x4_16 + (1 : Int32)))]) [2, 3, 1, 4, 0] rfl ?_
                  exact ih62 _ _ E
                · refine g_aload_n (pc' := 73) O ⟨dX11_chooses_72, rfl⟩ (q := 0) rfl rfl ?_
                  refine gf_M_RX11_22_0 ad cy (pc' := 76) O ⟨dX11_chooses_73, rfl⟩ ?_
                  refine g_iload (pc' := 78) O ⟨dX11_chooses_76, rfl⟩ (q := 4) rfl ?_
                  refine g_iald (pc' := 79) O ⟨dX11_chooses_78, rfl⟩ (wM_5 ad cy r_12) E (fun E => ?_)
                  refine g_iload_n (pc' := 80) O ⟨dX11_chooses_79, rfl⟩ (q := 1) rfl rfl ?_
                  refine g_icmp_ge (pc' := 83) O ⟨dX11_chooses_80, rfl⟩ E (tgt := 87) (by decide) (fun E => ?_) (fun E => ?_)
                  · refine g_iconst (pc' := 88) O ⟨dX11_chooses_87, rfl⟩ (v := (0 : Int32)) rfl ?_
                    refine g_istore_n (pc' := 89) O ⟨dX11_chooses_88, rfl⟩ (lv' := [(2, .int (0 : Int32)), (0, .ref (ad 0)), (1, .int x1), (3, .int x3_8), (4, .int x4_16)]) rfl (by decide) rfl ?_
                    refine g_iinc (pc' := 92) O ⟨dX11_chooses_89, rfl⟩ (q := 4) (v := x4_16 + (1 : Int32)) (lv' := [(4, .int (x4_16 + (1 : Int32))), (2, .int (0 : Int32)), (0, .ref (ad 0)), (1, .int x1), (3, .int x3_8)]) rfl rfl (by decide) rfl ?_
                    refine g_goto (pc' := 95) O ⟨dX11_chooses_92, rfl⟩ (tgt := 62) (by decide) ?_
                    refine g_sub (lv' := [(0, .ref (ad 0)), (1, .int x1), (2, .int (0 : Int32)), (3, .int x3_8), (4, .int (x4_16 + (1 : Int32)))]) [2, 3, 1, 4, 0] rfl ?_
                    exact ih62 _ _ E
                  · refine g_iconst (pc' := 84) O ⟨dX11_chooses_83, rfl⟩ (v := (1 : Int32)) rfl ?_
                    refine g_goto (pc' := 87) O ⟨dX11_chooses_84, rfl⟩ (tgt := 88) (by decide) ?_
                    refine g_istore_n (pc' := 89) O ⟨dX11_chooses_88, rfl⟩ (lv' := [(2, .int (1 : Int32)), (0, .ref (ad 0)), (1, .int x1), (3, .int x3_8), (4, .int x4_16)]) rfl (by decide) rfl ?_
                    refine g_iinc (pc' := 92) O ⟨dX11_chooses_89, rfl⟩ (q := 4) (v := x4_16 + (1 : Int32)) (lv' := [(4, .int (x4_16 + (1 : Int32))), (2, .int (1 : Int32)), (0, .ref (ad 0)), (1, .int x1), (3, .int x3_8)]) rfl rfl (by decide) rfl ?_
                    refine g_goto (pc' := 95) O ⟨dX11_chooses_92, rfl⟩ (tgt := 62) (by decide) ?_
                    refine g_sub (lv' := [(0, .ref (ad 0)), (1, .int x1), (2, .int (1 : Int32)), (3, .int x3_8), (4, .int (x4_16 + (1 : Int32)))]) [2, 3, 1, 4, 0] rfl ?_
                    exact ih62 _ _ E
    · refine g_iconst (pc' := 31) O ⟨dX11_chooses_30, rfl⟩ (v := (1 : Int32)) rfl ?_
      refine g_goto (pc' := 34) O ⟨dX11_chooses_31, rfl⟩ (tgt := 35) (by decide) ?_
      refine g_istore_n (pc' := 36) O ⟨dX11_chooses_35, rfl⟩ (lv' := [(2, .int (1 : Int32)), (0, .ref (ad 0)), (1, .int x1)]) rfl (by decide) rfl ?_
      refine g_iconst (pc' := 37) O ⟨dX11_chooses_36, rfl⟩ (v := (0 : Int32)) rfl ?_
      refine g_istore_n (pc' := 38) O ⟨dX11_chooses_37, rfl⟩ (lv' := [(3, .int (0 : Int32)), (2, .int (1 : Int32)), (0, .ref (ad 0)), (1, .int x1)]) rfl (by decide) rfl ?_
      refine jn2_of (P := fun (x2_17 : Int32) (h_18 : Hp) => G l D X 5 (WM ad cy) 0 0 h_18 101 [(2, .int x2_17)] []) E ?_ ?_
      · intro x2_17 h_18 E
        show G l D X 5 (WM ad cy) 0 0 h_18 101 [(2, .int x2_17)] []
        refine g_iload_n (pc' := 102) O ⟨dX11_chooses_101, rfl⟩ (q := 0) rfl rfl ?_
        obtain ⟨hn, E⟩ := ckz_of E
        cases E
        exact hret _ _ _ ⟨dX11_chooses_102, rfl⟩ hn
      · intro k101 hk101 E
        refine g_sub (lv' := [(0, .ref (ad 0)), (1, .int x1), (2, .int (1 : Int32)), (3, .int (0 : Int32))]) [2, 3, 1, 0] rfl ?_
        refine fx3_of (P := fun (x2_19 : Int32) (x3_20 : Int32) (h_21 : Hp) => G l D X 5 (WM ad cy) 0 0 h_21 38 [(0, .ref (ad 0)), (1, .int x1), (2, .int x2_19), (3, .int x3_20)] []) ?_ _ _ _ _ E
        intro self ih38 x2_19 x3_20 h_21 E
        show G l D X 5 (WM ad cy) 0 0 h_21 38 [(0, .ref (ad 0)), (1, .int x1), (2, .int x2_19), (3, .int x3_20)] []
        unfold L_X11_chooses_38 at E
        refine g_iload_n (pc' := 39) O ⟨dX11_chooses_38, rfl⟩ (q := 3) rfl rfl ?_
        refine g_aload_n (pc' := 40) O ⟨dX11_chooses_39, rfl⟩ (q := 0) rfl rfl ?_
        refine gf_M_RX11_88_0 ad cy (pc' := 43) O ⟨dX11_chooses_40, rfl⟩ ?_
        refine g_icmp_ge (pc' := 46) O ⟨dX11_chooses_43, rfl⟩ E (tgt := 101) (by decide) (fun E => ?_) (fun E => ?_)
        · refine g_sub (lv' := [(2, .int x2_19)]) [2] rfl ?_
          exact hk101 _ _ E
        · refine g_iload_n (pc' := 47) O ⟨dX11_chooses_46, rfl⟩ (q := 2) rfl rfl ?_
          refine g_if_eq (pc' := 50) O ⟨dX11_chooses_47, rfl⟩ E (tgt := 101) (by decide) (fun E => ?_) (fun E => ?_)
          · refine g_sub (lv' := [(2, .int x2_19)]) [2] rfl ?_
            exact hk101 _ _ E
          · refine g_aload_n (pc' := 51) O ⟨dX11_chooses_50, rfl⟩ (q := 0) rfl rfl ?_
            refine g_iload_n (pc' := 52) O ⟨dX11_chooses_51, rfl⟩ (q := 3) rfl rfl ?_
            obtain ⟨r_22, c_23, E⟩ := bd_of E
            refine g_Vv (pc' := 55) O ⟨dX11_chooses_52, rfl⟩ (y := yX11_lays) (As := [.int x3_20]) (st := []) (t_X11_lays l D ad cy (h := h_21) c_23) kw_1320 kw_70 kw_1317 kw_1319 kw_43 rfl (wM_0 ad cy h_21) hd_X11_lays ⟨Nat.le_of_ble_eq_true rfl, Nat.le_of_ble_eq_true rfl⟩ ⟨Nat.le_of_ble_eq_true rfl, Nat.le_of_ble_eq_true rfl⟩ rfl (Nat.le_of_ble_eq_true rfl) ?_
            refine g_aload_n (pc' := 56) O ⟨dX11_chooses_55, rfl⟩ (q := 0) rfl rfl ?_
            obtain ⟨r_24, c_25, E⟩ := bd_of E
            refine g_Vv (pc' := 59) O ⟨dX11_chooses_56, rfl⟩ (y := yX11_goes) (As := []) (st := []) (t_X11_goes l D ad cy (h := r_22) c_25) kw_1285 kw_70 kw_1282 kw_1284 kw_38 rfl (wM_0 ad cy r_22) hd_X11_goes ⟨Nat.le_of_ble_eq_true rfl, Nat.le_of_ble_eq_true rfl⟩ ⟨Nat.le_of_ble_eq_true rfl, Nat.le_of_ble_eq_true rfl⟩ rfl (Nat.le_of_ble_eq_true rfl) ?_
            refine g_iconst (pc' := 60) O ⟨dX11_chooses_59, rfl⟩ (v := (0 : Int32)) rfl ?_
            refine g_istore (pc' := 62) O ⟨dX11_chooses_60, rfl⟩ (lv' := [(4, .int (0 : Int32)), (0, .ref (ad 0)), (1, .int x1), (2, .int x2_19), (3, .int x3_20)]) (by decide) rfl ?_
            refine jn1_of (P := fun (x2_26 : Int32) => G l D X 5 (WM ad cy) 0 0 r_24 95 [(0, .ref (ad 0)), (1, .int x1), (2, .int x2_26), (3, .int x3_20)] []) E ?_ ?_
            · intro x2_26 E
              show G l D X 5 (WM ad cy) 0 0 r_24 95 [(0, .ref (ad 0)), (1, .int x1), (2, .int x2_26), (3, .int x3_20)] []
              refine g_iinc (pc' := 98) O ⟨dX11_chooses_95, rfl⟩ (q := 3) (v := x3_20 + (1 : Int32)) (lv' := [(3, .int (x3_20 + (1 : Int32))), (0, .ref (ad 0)), (1, .int x1), (2, .int x2_26)]) rfl rfl (by decide) rfl ?_
              refine g_goto (pc' := 101) O ⟨dX11_chooses_98, rfl⟩ (tgt := 38) (by decide) ?_
              refine g_sub (lv' := [(0, .ref (ad 0)), (1, .int x1), (2, .int x2_26), (3, .int (x3_20 + (1 : Int32)))]) [1, 2, 3, 0] rfl ?_
              exact ih38 _ _ _ E
            · intro k95 hk95 E
              refine g_sub (lv' := [(0, .ref (ad 0)), (1, .int x1), (2, .int x2_19), (3, .int x3_20), (4, .int (0 : Int32))]) [1, 2, 3, 4, 0] rfl ?_
              refine fx2_of (P := fun (x2_27 : Int32) (x4_28 : Int32) => G l D X 5 (WM ad cy) 0 0 r_24 62 [(0, .ref (ad 0)), (1, .int x1), (2, .int x2_27), (3, .int x3_20), (4, .int x4_28)] []) ?_ _ _ _ E
              intro self ih62 x2_27 x4_28 E
              show G l D X 5 (WM ad cy) 0 0 r_24 62 [(0, .ref (ad 0)), (1, .int x1), (2, .int x2_27), (3, .int x3_20), (4, .int x4_28)] []
              unfold L_X11_chooses_62 at E
              refine g_iload (pc' := 64) O ⟨dX11_chooses_62, rfl⟩ (q := 4) rfl ?_
              refine g_iload_n (pc' := 65) O ⟨dX11_chooses_64, rfl⟩ (q := 1) rfl rfl ?_
              refine g_icmp_ge (pc' := 68) O ⟨dX11_chooses_65, rfl⟩ E (tgt := 95) (by decide) (fun E => ?_) (fun E => ?_)
              · refine g_sub (lv' := [(0, .ref (ad 0)), (1, .int x1), (2, .int x2_27), (3, .int x3_20)]) [0, 1, 2, 3] rfl ?_
                exact hk95 _ E
              · refine g_iload_n (pc' := 69) O ⟨dX11_chooses_68, rfl⟩ (q := 2) rfl rfl ?_
                refine g_if_eq (pc' := 72) O ⟨dX11_chooses_69, rfl⟩ E (tgt := 87) (by decide) (fun E => ?_) (fun E => ?_)
                · refine g_iconst (pc' := 88) O ⟨dX11_chooses_87, rfl⟩ (v := (0 : Int32)) rfl ?_
                  refine g_istore_n (pc' := 89) O ⟨dX11_chooses_88, rfl⟩ (lv' := [(2, .int (0 : Int32)), (0, .ref (ad 0)), (1, .int x1), (3, .int x3_20), (4, .int x4_28)]) rfl (by decide) rfl ?_
                  refine g_iinc (pc' := 92) O ⟨dX11_chooses_89, rfl⟩ (q := 4) (v := x4_28 + (1 : Int32)) (lv' := [(4, .int (x4_28 + (1 : Int32))), (2, .int (0 : Int32)), (0, .ref (ad 0)), (1, .int x1), (3, .int x3_20)]) rfl rfl (by decide) rfl ?_
                  refine g_goto (pc' := 95) O ⟨dX11_chooses_92, rfl⟩ (tgt := 62) (by decide) ?_
                  refine g_sub (lv' := [(0, .ref (ad 0)), (1, .int x1), (2, .int (0 : Int32)), (3, .int x3_20), (4, .int (x4_28 + (1 : Int32)))]) [2, 3, 1, 4, 0] rfl ?_
                  exact ih62 _ _ E
                · refine g_aload_n (pc' := 73) O ⟨dX11_chooses_72, rfl⟩ (q := 0) rfl rfl ?_
                  refine gf_M_RX11_22_0 ad cy (pc' := 76) O ⟨dX11_chooses_73, rfl⟩ ?_
                  refine g_iload (pc' := 78) O ⟨dX11_chooses_76, rfl⟩ (q := 4) rfl ?_
                  refine g_iald (pc' := 79) O ⟨dX11_chooses_78, rfl⟩ (wM_5 ad cy r_24) E (fun E => ?_)
                  refine g_iload_n (pc' := 80) O ⟨dX11_chooses_79, rfl⟩ (q := 1) rfl rfl ?_
                  refine g_icmp_ge (pc' := 83) O ⟨dX11_chooses_80, rfl⟩ E (tgt := 87) (by decide) (fun E => ?_) (fun E => ?_)
                  · refine g_iconst (pc' := 88) O ⟨dX11_chooses_87, rfl⟩ (v := (0 : Int32)) rfl ?_
                    refine g_istore_n (pc' := 89) O ⟨dX11_chooses_88, rfl⟩ (lv' := [(2, .int (0 : Int32)), (0, .ref (ad 0)), (1, .int x1), (3, .int x3_20), (4, .int x4_28)]) rfl (by decide) rfl ?_
                    refine g_iinc (pc' := 92) O ⟨dX11_chooses_89, rfl⟩ (q := 4) (v := x4_28 + (1 : Int32)) (lv' := [(4, .int (x4_28 + (1 : Int32))), (2, .int (0 : Int32)), (0, .ref (ad 0)), (1, .int x1), (3, .int x3_20)]) rfl rfl (by decide) rfl ?_
                    refine g_goto (pc' := 95) O ⟨dX11_chooses_92, rfl⟩ (tgt := 62) (by decide) ?_
                    refine g_sub (lv' := [(0, .ref (ad 0)), (1, .int x1), (2, .int (0 : Int32)), (3, .int x3_20), (4, .int (x4_28 + (1 : Int32)))]) [2, 3, 1, 4, 0] rfl ?_
                    exact ih62 _ _ E
                  · refine g_iconst (pc' := 84) O ⟨dX11_chooses_83, rfl⟩ (v := (1 : Int32)) rfl ?_
                    refine g_goto (pc' := 87) O ⟨dX11_chooses_84, rfl⟩ (tgt := 88) (by decide) ?_
                    refine g_istore_n (pc' := 89) O ⟨dX11_chooses_88, rfl⟩ (lv' := [(2, .int (1 : Int32)), (0, .ref (ad 0)), (1, .int x1), (3, .int x3_20), (4, .int x4_28)]) rfl (by decide) rfl ?_
                    refine g_iinc (pc' := 92) O ⟨dX11_chooses_89, rfl⟩ (q := 4) (v := x4_28 + (1 : Int32)) (lv' := [(4, .int (x4_28 + (1 : Int32))), (2, .int (1 : Int32)), (0, .ref (ad 0)), (1, .int x1), (3, .int x3_20)]) rfl rfl (by decide) rfl ?_
                    refine g_goto (pc' := 95) O ⟨dX11_chooses_92, rfl⟩ (tgt := 62) (by decide) ?_
                    refine g_sub (lv' := [(0, .ref (ad 0)), (1, .int x1), (2, .int (1 : Int32)), (3, .int x3_20), (4, .int (x4_28 + (1 : Int32)))]) [2, 3, 1, 4, 0] rfl ?_
                    exact ih62 _ _ E
  · intro k20 hk20 E
    refine g_if_eq (pc' := 15) O ⟨dX11_chooses_12, rfl⟩ E (tgt := 19) (by decide) (fun E => ?_) (fun E => ?_)
    · refine g_iconst (pc' := 20) O ⟨dX11_chooses_19, rfl⟩ (v := (1 : Int32)) rfl ?_
      exact hk20 _ E
    · refine g_iconst (pc' := 16) O ⟨dX11_chooses_15, rfl⟩ (v := (0 : Int32)) rfl ?_
      refine g_goto (pc' := 19) O ⟨dX11_chooses_16, rfl⟩ (tgt := 20) (by decide) ?_
      exact hk20 _ E
set_option maxRecDepth 100000 in
set_option maxHeartbeats 4000000 in
theorem t_X11_off (l : Launch) (D : va_G) (ad : Nat → Nat) (cy : Nat → ClassId) {h : Hp}  {o : Int32 × Hp} (E : f_X11_off h = some o) : CtI l D cy (WM ad cy) yX11_off cX11_off 5 .int 2 44 [.ref (ad 0)] h o.1 o.2 := by
  refine sI (own := RX11) rfl rfl (Nat.le_of_ble_eq_true rfl) (fun X O hret => ?_)
  show G l D X 5 (WM ad cy) 0 0 h 0 [(0, .ref (ad 0))] []
  unfold f_X11_off at E
  refine g_aload_n (pc' := 1) O ⟨dX11_off_0, rfl⟩ (q := 0) rfl rfl ?_
  refine g_iconst (pc' := 2) O ⟨dX11_off_1, rfl⟩ (v := (0 : Int32)) rfl ?_
  refine gp_M_RX11_70_0 ad cy (pc' := 5) O ⟨dX11_off_2, rfl⟩ ?_
  refine g_nmh E (fun h_1 E => ?_)
  refine g_iconst (pc' := 6) O ⟨dX11_off_5, rfl⟩ (v := (0 : Int32)) rfl ?_
  refine g_istore_n (pc' := 7) O ⟨dX11_off_6, rfl⟩ (lv' := [(1, .int (0 : Int32)), (0, .ref (ad 0))]) rfl (by decide) rfl ?_
  refine g_iconst (pc' := 8) O ⟨dX11_off_7, rfl⟩ (v := (0 : Int32)) rfl ?_
  refine g_istore_n (pc' := 9) O ⟨dX11_off_8, rfl⟩ (lv' := [(2, .int (0 : Int32)), (1, .int (0 : Int32)), (0, .ref (ad 0))]) rfl (by decide) rfl ?_
  refine jn2_of (P := fun (x1_2 : Int32) (h_3 : Hp) => G l D X 5 (WM ad cy) 0 0 h_3 92 [(1, .int x1_2)] []) E ?_ ?_
  · intro x1_2 h_3 E
    show G l D X 5 (WM ad cy) 0 0 h_3 92 [(1, .int x1_2)] []
    refine g_iload_n (pc' := 93) O ⟨dX11_off_92, rfl⟩ (q := 0) rfl rfl ?_
    cases E
    exact hret _ _ _ ⟨dX11_off_93, rfl⟩ rfl
  · intro k92 hk92 E
    refine g_sub (lv' := [(0, .ref (ad 0)), (1, .int (0 : Int32)), (2, .int (0 : Int32))]) [2, 1, 0] rfl ?_
    refine fx3_of (P := fun (x1_4 : Int32) (x2_5 : Int32) (h_6 : Hp) => G l D X 5 (WM ad cy) 0 0 h_6 9 [(0, .ref (ad 0)), (1, .int x1_4), (2, .int x2_5)] []) ?_ _ _ _ _ E
    intro self ih9 x1_4 x2_5 h_6 E
    show G l D X 5 (WM ad cy) 0 0 h_6 9 [(0, .ref (ad 0)), (1, .int x1_4), (2, .int x2_5)] []
    unfold L_X11_off_9 at E
    refine g_iload_n (pc' := 10) O ⟨dX11_off_9, rfl⟩ (q := 2) rfl rfl ?_
    refine g_aload_n (pc' := 11) O ⟨dX11_off_10, rfl⟩ (q := 0) rfl rfl ?_
    refine gf_M_RX11_88_0 ad cy (pc' := 14) O ⟨dX11_off_11, rfl⟩ ?_
    refine g_icmp_ge (pc' := 17) O ⟨dX11_off_14, rfl⟩ E (tgt := 92) (by decide) (fun E => ?_) (fun E => ?_)
    · refine g_sub (lv' := [(1, .int x1_4)]) [1] rfl ?_
      exact hk92 _ _ E
    · refine g_aload_n (pc' := 18) O ⟨dX11_off_17, rfl⟩ (q := 0) rfl rfl ?_
      refine g_iload_n (pc' := 19) O ⟨dX11_off_18, rfl⟩ (q := 2) rfl rfl ?_
      obtain ⟨r_7, c_8, E⟩ := bd_of E
      refine g_Vv (pc' := 22) O ⟨dX11_off_19, rfl⟩ (y := yX11_lays) (As := [.int x2_5]) (st := []) (t_X11_lays l D ad cy (h := h_6) c_8) kw_1320 kw_70 kw_1317 kw_1319 kw_43 rfl (wM_0 ad cy h_6) hd_X11_lays ⟨Nat.le_of_ble_eq_true rfl, Nat.le_of_ble_eq_true rfl⟩ ⟨Nat.le_of_ble_eq_true rfl, Nat.le_of_ble_eq_true rfl⟩ rfl (Nat.le_of_ble_eq_true rfl) ?_
      refine g_aload_n (pc' := 23) O ⟨dX11_off_22, rfl⟩ (q := 0) rfl rfl ?_
      obtain ⟨r_9, c_10, E⟩ := bd_of E
      refine g_Vv (pc' := 26) O ⟨dX11_off_23, rfl⟩ (y := yX11_goes) (As := []) (st := []) (t_X11_goes l D ad cy (h := r_7) c_10) kw_1285 kw_70 kw_1282 kw_1284 kw_38 rfl (wM_0 ad cy r_7) hd_X11_goes ⟨Nat.le_of_ble_eq_true rfl, Nat.le_of_ble_eq_true rfl⟩ ⟨Nat.le_of_ble_eq_true rfl, Nat.le_of_ble_eq_true rfl⟩ rfl (Nat.le_of_ble_eq_true rfl) ?_
      refine g_iconst (pc' := 27) O ⟨dX11_off_26, rfl⟩ (v := (0 : Int32)) rfl ?_
      refine g_istore_n (pc' := 28) O ⟨dX11_off_27, rfl⟩ (lv' := [(3, .int (0 : Int32)), (0, .ref (ad 0)), (1, .int x1_4), (2, .int x2_5)]) rfl (by decide) rfl ?_
      refine jn1_of (P := fun (x1_11 : Int32) => G l D X 5 (WM ad cy) 0 0 r_9 86 [(0, .ref (ad 0)), (1, .int x1_11), (2, .int x2_5)] []) E ?_ ?_
      · intro x1_11 E
        show G l D X 5 (WM ad cy) 0 0 r_9 86 [(0, .ref (ad 0)), (1, .int x1_11), (2, .int x2_5)] []
        refine g_iinc (pc' := 89) O ⟨dX11_off_86, rfl⟩ (q := 2) (v := x2_5 + (1 : Int32)) (lv' := [(2, .int (x2_5 + (1 : Int32))), (0, .ref (ad 0)), (1, .int x1_11)]) rfl rfl (by decide) rfl ?_
        refine g_goto (pc' := 92) O ⟨dX11_off_89, rfl⟩ (tgt := 9) (by decide) ?_
        refine g_sub (lv' := [(0, .ref (ad 0)), (1, .int x1_11), (2, .int (x2_5 + (1 : Int32)))]) [1, 2, 0] rfl ?_
        exact ih9 _ _ _ E
      · intro k86 hk86 E
        refine g_sub (lv' := [(0, .ref (ad 0)), (1, .int x1_4), (2, .int x2_5), (3, .int (0 : Int32))]) [1, 2, 3, 0] rfl ?_
        refine fx2_of (P := fun (x1_12 : Int32) (x3_13 : Int32) => G l D X 5 (WM ad cy) 0 0 r_9 28 [(0, .ref (ad 0)), (1, .int x1_12), (2, .int x2_5), (3, .int x3_13)] []) ?_ _ _ _ E
        intro self ih28 x1_12 x3_13 E
        show G l D X 5 (WM ad cy) 0 0 r_9 28 [(0, .ref (ad 0)), (1, .int x1_12), (2, .int x2_5), (3, .int x3_13)] []
        unfold L_X11_off_28 at E
        refine g_iload_n (pc' := 29) O ⟨dX11_off_28, rfl⟩ (q := 3) rfl rfl ?_
        refine g_aload_n (pc' := 30) O ⟨dX11_off_29, rfl⟩ (q := 0) rfl rfl ?_
        refine gf_M_RX11_74_0 ad cy (pc' := 33) O ⟨dX11_off_30, rfl⟩ ?_
        refine g_icmp_ge (pc' := 36) O ⟨dX11_off_33, rfl⟩ E (tgt := 86) (by decide) (fun E => ?_) (fun E => ?_)
        · refine g_sub (lv' := [(0, .ref (ad 0)), (1, .int x1_12), (2, .int x2_5)]) [0, 1, 2] rfl ?_
          exact hk86 _ E
        · refine g_aload_n (pc' := 37) O ⟨dX11_off_36, rfl⟩ (q := 0) rfl rfl ?_
          refine gf_M_RX11_22_0 ad cy (pc' := 40) O ⟨dX11_off_37, rfl⟩ ?_
          refine g_iload_n (pc' := 41) O ⟨dX11_off_40, rfl⟩ (q := 3) rfl rfl ?_
          refine g_iald (pc' := 42) O ⟨dX11_off_41, rfl⟩ (wM_5 ad cy r_9) E (fun E => ?_)
          refine g_iload_n (pc' := 43) O ⟨dX11_off_42, rfl⟩ (q := 3) rfl rfl ?_
          refine jn1_of (P := fun (z_14 : Int32) => G l D X 5 (WM ad cy) 0 0 r_9 65 [(0, .ref (ad 0)), (1, .int x1_12), (2, .int x2_5), (3, .int x3_13)] [.int z_14]) E ?_ ?_
          · intro z_14 E
            show G l D X 5 (WM ad cy) 0 0 r_9 65 [(0, .ref (ad 0)), (1, .int x1_12), (2, .int x2_5), (3, .int x3_13)] [.int z_14]
            refine g_istore (pc' := 67) O ⟨dX11_off_65, rfl⟩ (lv' := [(4, .int z_14), (0, .ref (ad 0)), (1, .int x1_12), (2, .int x2_5), (3, .int x3_13)]) (by decide) rfl ?_
            refine g_iload (pc' := 69) O ⟨dX11_off_67, rfl⟩ (q := 0) rfl ?_
            refine g_iload_n (pc' := 70) O ⟨dX11_off_69, rfl⟩ (q := 2) rfl rfl ?_
            refine g_icmp_le (pc' := 73) O ⟨dX11_off_70, rfl⟩ E (tgt := 78) (by decide) (fun E => ?_) (fun E => ?_)
            · refine g_iload_n (pc' := 79) O ⟨dX11_off_78, rfl⟩ (q := 2) rfl rfl ?_
              refine g_istore_n (pc' := 80) O ⟨dX11_off_79, rfl⟩ (lv' := [(1, .int x1_12), (4, .int z_14), (0, .ref (ad 0)), (2, .int x2_5), (3, .int x3_13)]) rfl (by decide) rfl ?_
              refine g_iinc (pc' := 83) O ⟨dX11_off_80, rfl⟩ (q := 4) (v := x3_13 + (1 : Int32)) (lv' := [(3, .int (x3_13 + (1 : Int32))), (1, .int x1_12), (4, .int z_14), (0, .ref (ad 0)), (2, .int x2_5)]) rfl rfl (by decide) rfl ?_
              refine g_goto (pc' := 86) O ⟨dX11_off_83, rfl⟩ (tgt := 28) (by decide) ?_
              refine g_sub (lv' := [(0, .ref (ad 0)), (1, .int x1_12), (2, .int x2_5), (3, .int (x3_13 + (1 : Int32)))]) [3, 1, 4, 0] rfl ?_
              exact ih28 _ _ E
            · refine g_iload (pc' := 75) O ⟨dX11_off_73, rfl⟩ (q := 0) rfl ?_
              refine g_goto (pc' := 78) O ⟨dX11_off_75, rfl⟩ (tgt := 79) (by decide) ?_
              refine g_istore_n (pc' := 80) O ⟨dX11_off_79, rfl⟩ (lv' := [(1, .int z_14), (4, .int z_14), (0, .ref (ad 0)), (2, .int x2_5), (3, .int x3_13)]) rfl (by decide) rfl ?_
              refine g_iinc (pc' := 83) O ⟨dX11_off_80, rfl⟩ (q := 4) (v := x3_13 + (1 : Int32)) (lv' := [(3, .int (x3_13 + (1 : Int32))), (1, .int z_14), (4, .int z_14), (0, .ref (ad 0)), (2, .int x2_5)]) rfl rfl (by decide) rfl ?_
              refine g_goto (pc' := 86) O ⟨dX11_off_83, rfl⟩ (tgt := 28) (by decide) ?_
              refine g_sub (lv' := [(0, .ref (ad 0)), (1, .int z_14), (2, .int x2_5), (3, .int (x3_13 + (1 : Int32)))]) [3, 1, 4, 0] rfl ?_
              exact ih28 _ _ E
          · intro k65 hk65 E
            refine g_icmp_ge (pc' := 46) O ⟨dX11_off_43, rfl⟩ E (tgt := 57) (by decide) (fun E => ?_) (fun E => ?_)
            · refine g_aload_n (pc' := 58) O ⟨dX11_off_57, rfl⟩ (q := 0) rfl rfl ?_
              refine gf_M_RX11_22_0 ad cy (pc' := 61) O ⟨dX11_off_58, rfl⟩ ?_
              refine g_iload_n (pc' := 62) O ⟨dX11_off_61, rfl⟩ (q := 3) rfl rfl ?_
              refine g_iald (pc' := 63) O ⟨dX11_off_62, rfl⟩ (wM_5 ad cy r_9) E (fun E => ?_)
              refine g_iload_n (pc' := 64) O ⟨dX11_off_63, rfl⟩ (q := 3) rfl rfl ?_
              refine g_isub (pc' := 65) O ⟨dX11_off_64, rfl⟩ ?_
              exact hk65 _ E
            · refine g_iload_n (pc' := 47) O ⟨dX11_off_46, rfl⟩ (q := 3) rfl rfl ?_
              refine g_aload_n (pc' := 48) O ⟨dX11_off_47, rfl⟩ (q := 0) rfl rfl ?_
              refine gf_M_RX11_22_0 ad cy (pc' := 51) O ⟨dX11_off_48, rfl⟩ ?_
              refine g_iload_n (pc' := 52) O ⟨dX11_off_51, rfl⟩ (q := 3) rfl rfl ?_
              refine g_iald (pc' := 53) O ⟨dX11_off_52, rfl⟩ (wM_5 ad cy r_9) E (fun E => ?_)
              refine g_isub (pc' := 54) O ⟨dX11_off_53, rfl⟩ ?_
              refine g_goto (pc' := 57) O ⟨dX11_off_54, rfl⟩ (tgt := 65) (by decide) ?_
              exact hk65 _ E
