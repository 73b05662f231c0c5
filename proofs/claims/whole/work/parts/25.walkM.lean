/-! WALKS, laid by program: each method does what its pure program says -/
set_option maxRecDepth 100000 in
set_option maxHeartbeats 4000000 in
theorem t_X11_needed (l : Launch) (D : va_G) (ad : Nat → Nat) (cy : Nat → ClassId) {h : Hp}  {o : Int32 × Hp} (E : f_X11_needed h = some o) : CtI l D cy (WM ad cy) yX11_needed cX11_needed 4 .int 3 75 [.ref (ad 0)] h o.1 o.2 := by
  refine sI (own := RX11) rfl rfl (Nat.le_of_ble_eq_true rfl) (fun X O hret => ?_)
  show G l D X 4 (WM ad cy) 0 0 h 0 [(0, .ref (ad 0))] []
  unfold f_X11_needed at E
  refine g_aload_n (pc' := 1) O ⟨dX11_needed_0, rfl⟩ (q := 0) rfl rfl ?_
  refine g_iconst (pc' := 2) O ⟨dX11_needed_1, rfl⟩ (v := (0 : Int32)) rfl ?_
  refine gp_M_RX11_70_0 ad cy (pc' := 5) O ⟨dX11_needed_2, rfl⟩ ?_
  refine g_nmh E (fun h_1 E => ?_)
  refine g_aload_n (pc' := 6) O ⟨dX11_needed_5, rfl⟩ (q := 0) rfl rfl ?_
  refine gf_M_RX11_74_0 ad cy (pc' := 9) O ⟨dX11_needed_6, rfl⟩ ?_
  refine g_iconst (pc' := 10) O ⟨dX11_needed_9, rfl⟩ (v := (4 : Int32)) rfl ?_
  refine g_icmp_le (pc' := 13) O ⟨dX11_needed_10, rfl⟩ E (tgt := 15) (by decide) (fun E => ?_) (fun E => ?_)
  · refine g_iconst (pc' := 16) O ⟨dX11_needed_15, rfl⟩ (v := (0 : Int32)) rfl ?_
    refine g_istore_n (pc' := 17) O ⟨dX11_needed_16, rfl⟩ (lv' := [(1, .int (0 : Int32)), (0, .ref (ad 0))]) rfl (by decide) rfl ?_
    refine g_iconst (pc' := 18) O ⟨dX11_needed_17, rfl⟩ (v := (0 : Int32)) rfl ?_
    refine g_istore_n (pc' := 19) O ⟨dX11_needed_18, rfl⟩ (lv' := [(2, .int (0 : Int32)), (1, .int (0 : Int32)), (0, .ref (ad 0))]) rfl (by decide) rfl ?_
    refine jn1_of (P := fun (x1_2 : Int32) => G l D X 4 (WM ad cy) 0 0 h_1 52 [(0, .ref (ad 0)), (1, .int x1_2)] []) E ?_ ?_
    · intro x1_2 E
      show G l D X 4 (WM ad cy) 0 0 h_1 52 [(0, .ref (ad 0)), (1, .int x1_2)] []
      refine g_aload_n (pc' := 53) O ⟨dX11_needed_52, rfl⟩ (q := 0) rfl rfl ?_
      refine g_iconst (pc' := 54) O ⟨dX11_needed_53, rfl⟩ (v := (0 : Int32)) rfl ?_
      refine gp_M_RX11_219_0 ad cy (pc' := 57) O ⟨dX11_needed_54, rfl⟩ ?_
      refine g_nmh E (fun h_3 E => ?_)
      refine g_aload_n (pc' := 58) O ⟨dX11_needed_57, rfl⟩ (q := 0) rfl rfl ?_
      refine g_iload_n (pc' := 59) O ⟨dX11_needed_58, rfl⟩ (q := 1) rfl rfl ?_
      obtain ⟨r_4, c_5, E⟩ := bd_of E
      refine g_Vv (pc' := 62) O ⟨dX11_needed_59, rfl⟩ (y := yX11_comes) (As := [.int x1_2]) (st := []) (t_X11_comes l D ad cy (h := h_3) c_5) kw_1457 kw_70 kw_1454 kw_1456 kw_55 rfl (wM_0 ad cy h_3) hd_X11_comes ⟨Nat.le_of_ble_eq_true rfl, Nat.le_of_ble_eq_true rfl⟩ ⟨Nat.le_of_ble_eq_true rfl, Nat.le_of_ble_eq_true rfl⟩ rfl (Nat.le_of_ble_eq_true rfl) ?_
      refine g_iconst (pc' := 63) O ⟨dX11_needed_62, rfl⟩ (v := (0 : Int32)) rfl ?_
      refine g_istore_n (pc' := 64) O ⟨dX11_needed_63, rfl⟩ (lv' := [(2, .int (0 : Int32)), (0, .ref (ad 0)), (1, .int x1_2)]) rfl (by decide) rfl ?_
      refine jn1_of (P := fun (h_6 : Hp) => G l D X 4 (WM ad cy) 0 0 h_6 140 [(0, .ref (ad 0))] []) E ?_ ?_
      · intro h_6 E
        show G l D X 4 (WM ad cy) 0 0 h_6 140 [(0, .ref (ad 0))] []
        refine g_iconst (pc' := 141) O ⟨dX11_needed_140, rfl⟩ (v := (1 : Int32)) rfl ?_
        refine g_istore_n (pc' := 142) O ⟨dX11_needed_141, rfl⟩ (lv' := [(2, .int (1 : Int32)), (0, .ref (ad 0))]) rfl (by decide) rfl ?_
        refine jn1_of (P := fun (h_7 : Hp) => G l D X 4 (WM ad cy) 0 0 h_7 208 [(0, .ref (ad 0))] []) E ?_ ?_
        · intro h_7 E
          show G l D X 4 (WM ad cy) 0 0 h_7 208 [(0, .ref (ad 0))] []
          refine g_aload_n (pc' := 209) O ⟨dX11_needed_208, rfl⟩ (q := 0) rfl rfl ?_
          refine gf_M_RX11_63_0 ad cy (pc' := 212) O ⟨dX11_needed_209, rfl⟩ ?_
          refine g_iconst (pc' := 213) O ⟨dX11_needed_212, rfl⟩ (v := (0 : Int32)) rfl ?_
          refine g_iald (pc' := 214) O ⟨dX11_needed_213, rfl⟩ (wM_18 ad cy h_7) E (fun E => ?_)
          cases E
          exact hret _ _ _ ⟨dX11_needed_214, rfl⟩ rfl
        · intro k208 hk208 E
          refine g_sub (lv' := [(0, .ref (ad 0)), (2, .int (1 : Int32))]) [1, 0] rfl ?_
          refine fx2_of (P := fun (x2_8 : Int32) (h_9 : Hp) => G l D X 4 (WM ad cy) 0 0 h_9 142 [(0, .ref (ad 0)), (2, .int x2_8)] []) ?_ _ _ _ E
          intro self ih142 x2_8 h_9 E
          show G l D X 4 (WM ad cy) 0 0 h_9 142 [(0, .ref (ad 0)), (2, .int x2_8)] []
          unfold L_X11_needed_142 at E
          refine g_iload_n (pc' := 143) O ⟨dX11_needed_142, rfl⟩ (q := 1) rfl rfl ?_
          refine g_bipush (pc' := 145) O ⟨dX11_needed_143, rfl⟩ (v := (24 : Int32)) rfl ?_
          refine g_icmp_gt (pc' := 148) O ⟨dX11_needed_145, rfl⟩ E (tgt := 208) (by decide) (fun E => ?_) (fun E => ?_)
          · refine g_sub (lv' := [(0, .ref (ad 0))]) [0] rfl ?_
            exact hk208 _ E
          · refine g_iconst (pc' := 149) O ⟨dX11_needed_148, rfl⟩ (v := (0 : Int32)) rfl ?_
            refine g_istore_n (pc' := 150) O ⟨dX11_needed_149, rfl⟩ (lv' := [(3, .int (0 : Int32)), (0, .ref (ad 0)), (2, .int x2_8)]) rfl (by decide) rfl ?_
            refine jn1_of (P := fun (h_10 : Hp) => G l D X 4 (WM ad cy) 0 0 h_10 202 [(0, .ref (ad 0)), (2, .int x2_8)] []) E ?_ ?_
            · intro h_10 E
              show G l D X 4 (WM ad cy) 0 0 h_10 202 [(0, .ref (ad 0)), (2, .int x2_8)] []
              refine g_iinc (pc' := 205) O ⟨dX11_needed_202, rfl⟩ (q := 1) (v := x2_8 + (1 : Int32)) (lv' := [(2, .int (x2_8 + (1 : Int32))), (0, .ref (ad 0))]) rfl rfl (by decide) rfl ?_
              refine g_goto (pc' := 208) O ⟨dX11_needed_205, rfl⟩ (tgt := 142) (by decide) ?_
              refine g_sub (lv' := [(0, .ref (ad 0)), (2, .int (x2_8 + (1 : Int32)))]) [1, 0] rfl ?_
              exact ih142 _ _ E
            · intro k202 hk202 E
              refine g_sub (lv' := [(0, .ref (ad 0)), (2, .int x2_8), (3, .int (0 : Int32))]) [1, 2, 0] rfl ?_
              refine fx2_of (P := fun (x3_11 : Int32) (h_12 : Hp) => G l D X 4 (WM ad cy) 0 0 h_12 150 [(0, .ref (ad 0)), (2, .int x2_8), (3, .int x3_11)] []) ?_ _ _ _ E
              intro self ih150 x3_11 h_12 E
              show G l D X 4 (WM ad cy) 0 0 h_12 150 [(0, .ref (ad 0)), (2, .int x2_8), (3, .int x3_11)] []
              unfold L_X11_needed_150 at E
              refine g_iload_n (pc' := 151) O ⟨dX11_needed_150, rfl⟩ (q := 2) rfl rfl ?_
              refine g_aload_n (pc' := 152) O ⟨dX11_needed_151, rfl⟩ (q := 0) rfl rfl ?_
              refine gf_M_RX11_219_0 ad cy (pc' := 155) O ⟨dX11_needed_152, rfl⟩ ?_
              refine g_icmp_ge (pc' := 158) O ⟨dX11_needed_155, rfl⟩ E (tgt := 202) (by decide) (fun E => ?_) (fun E => ?_)
              · refine g_sub (lv' := [(0, .ref (ad 0)), (2, .int x2_8)]) [0, 1] rfl ?_
                exact hk202 _ E
              · refine g_aload_n (pc' := 159) O ⟨dX11_needed_158, rfl⟩ (q := 0) rfl rfl ?_
                refine gf_M_RX11_60_0 ad cy (pc' := 162) O ⟨dX11_needed_159, rfl⟩ ?_
                refine g_iload_n (pc' := 163) O ⟨dX11_needed_162, rfl⟩ (q := 2) rfl rfl ?_
                refine g_iald (pc' := 164) O ⟨dX11_needed_163, rfl⟩ (wM_17 ad cy h_12) E (fun E => ?_)
                obtain ⟨r_13, c_14, E⟩ := bd_of E
                refine g_Si (pc' := 167) O ⟨dX11_needed_164, rfl⟩ (y := yX11_bits) (As := [.int (h_12.1 17 x3_11.toNatClampNeg)]) (st := []) (t_X11_bits l D ad cy (h := h_12) c_14) kw_1468 kw_70 kw_1466 kw_1467 hd_X11_bits ⟨Nat.le_of_ble_eq_true rfl, Nat.le_of_ble_eq_true rfl⟩ ⟨Nat.le_of_ble_eq_true rfl, Nat.le_of_ble_eq_true rfl⟩ rfl (Nat.le_of_ble_eq_true rfl) ?_
                refine g_iload_n (pc' := 168) O ⟨dX11_needed_167, rfl⟩ (q := 1) rfl rfl ?_
                refine g_icmp_ne (pc' := 171) O ⟨dX11_needed_168, rfl⟩ E (tgt := 196) (by decide) (fun E => ?_) (fun E => ?_)
                · refine g_iinc (pc' := 199) O ⟨dX11_needed_196, rfl⟩ (q := 2) (v := x3_11 + (1 : Int32)) (lv' := [(3, .int (x3_11 + (1 : Int32))), (0, .ref (ad 0)), (2, .int x2_8)]) rfl rfl (by decide) rfl ?_
                  refine g_goto (pc' := 202) O ⟨dX11_needed_199, rfl⟩ (tgt := 150) (by decide) ?_
                  refine g_sub (lv' := [(0, .ref (ad 0)), (2, .int x2_8), (3, .int (x3_11 + (1 : Int32)))]) [1, 2, 0] rfl ?_
                  exact ih150 _ _ E
                · refine g_aload_n (pc' := 172) O ⟨dX11_needed_171, rfl⟩ (q := 0) rfl rfl ?_
                  refine gf_M_RX11_63_0 ad cy (pc' := 175) O ⟨dX11_needed_172, rfl⟩ ?_
                  refine g_iload_n (pc' := 176) O ⟨dX11_needed_175, rfl⟩ (q := 2) rfl rfl ?_
                  refine g_iload_n (pc' := 177) O ⟨dX11_needed_176, rfl⟩ (q := 1) rfl rfl ?_
                  refine g_iconst (pc' := 178) O ⟨dX11_needed_177, rfl⟩ (v := (1 : Int32)) rfl ?_
                  refine g_icmp_ne (pc' := 181) O ⟨dX11_needed_178, rfl⟩ E (tgt := 185) (by decide) (fun E => ?_) (fun E => ?_)
                  · refine g_aload_n (pc' := 186) O ⟨dX11_needed_185, rfl⟩ (q := 0) rfl rfl ?_
                    refine g_aload_n (pc' := 187) O ⟨dX11_needed_186, rfl⟩ (q := 0) rfl rfl ?_
                    refine gf_M_RX11_60_0 ad cy (pc' := 190) O ⟨dX11_needed_187, rfl⟩ ?_
                    refine g_iload_n (pc' := 191) O ⟨dX11_needed_190, rfl⟩ (q := 2) rfl rfl ?_
                    refine g_iald (pc' := 192) O ⟨dX11_needed_191, rfl⟩ (wM_17 ad cy h_12) E (fun E => ?_)
                    obtain ⟨r_15, c_16, E⟩ := bd_of E
                    refine g_Vi (pc' := 195) O ⟨dX11_needed_192, rfl⟩ (y := yX11_best) (As := [.int (h_12.1 17 x3_11.toNatClampNeg)]) (st := [.int x3_11, .ref (ad 18)]) (t_X11_best l D ad cy (h := h_12) c_16) kw_1472 kw_70 kw_1469 kw_1471 kw_58 rfl (wM_0 ad cy h_12) hd_X11_best ⟨Nat.le_of_ble_eq_true rfl, Nat.le_of_ble_eq_true rfl⟩ ⟨Nat.le_of_ble_eq_true rfl, Nat.le_of_ble_eq_true rfl⟩ rfl (Nat.le_of_ble_eq_true rfl) ?_
                    refine g_iast (pc' := 196) O ⟨dX11_needed_195, rfl⟩ (wM_18 ad cy h_12) (vM_18 ad cy h_12 _) E (fun E => ?_)
                    refine g_nmh E (fun h_17 E => ?_)
                    refine g_iinc (pc' := 199) O ⟨dX11_needed_196, rfl⟩ (q := 2) (v := x3_11 + (1 : Int32)) (lv' := [(3, .int (x3_11 + (1 : Int32))), (0, .ref (ad 0)), (2, .int x2_8)]) rfl rfl (by decide) rfl ?_
                    refine g_goto (pc' := 202) O ⟨dX11_needed_199, rfl⟩ (tgt := 150) (by decide) ?_
                    refine g_sub (lv' := [(0, .ref (ad 0)), (2, .int x2_8), (3, .int (x3_11 + (1 : Int32)))]) [1, 2, 0] rfl ?_
                    exact ih150 _ _ E
                  · refine g_iconst (pc' := 182) O ⟨dX11_needed_181, rfl⟩ (v := (0 : Int32)) rfl ?_
                    refine g_goto (pc' := 185) O ⟨dX11_needed_182, rfl⟩ (tgt := 195) (by decide) ?_
                    refine g_iast (pc' := 196) O ⟨dX11_needed_195, rfl⟩ (wM_18 ad cy h_12) (vM_18 ad cy h_12 _) E (fun E => ?_)
                    refine g_nmh E (fun h_18 E => ?_)
                    refine g_iinc (pc' := 199) O ⟨dX11_needed_196, rfl⟩ (q := 2) (v := x3_11 + (1 : Int32)) (lv' := [(3, .int (x3_11 + (1 : Int32))), (0, .ref (ad 0)), (2, .int x2_8)]) rfl rfl (by decide) rfl ?_
                    refine g_goto (pc' := 202) O ⟨dX11_needed_199, rfl⟩ (tgt := 150) (by decide) ?_
                    refine g_sub (lv' := [(0, .ref (ad 0)), (2, .int x2_8), (3, .int (x3_11 + (1 : Int32)))]) [1, 2, 0] rfl ?_
                    exact ih150 _ _ E
      · intro k140 hk140 E
        refine g_sub (lv' := [(0, .ref (ad 0)), (2, .int (0 : Int32))]) [1, 0] rfl ?_
        refine fx2_of (P := fun (x2_19 : Int32) (h_20 : Hp) => G l D X 4 (WM ad cy) 0 0 h_20 64 [(0, .ref (ad 0)), (2, .int x2_19)] []) ?_ _ _ _ E
        intro self ih64 x2_19 h_20 E
        show G l D X 4 (WM ad cy) 0 0 h_20 64 [(0, .ref (ad 0)), (2, .int x2_19)] []
        unfold L_X11_needed_64 at E
        refine g_iload_n (pc' := 65) O ⟨dX11_needed_64, rfl⟩ (q := 1) rfl rfl ?_
        refine g_aload_n (pc' := 66) O ⟨dX11_needed_65, rfl⟩ (q := 0) rfl rfl ?_
        refine gf_M_RX11_219_0 ad cy (pc' := 69) O ⟨dX11_needed_66, rfl⟩ ?_
        refine g_icmp_ge (pc' := 72) O ⟨dX11_needed_69, rfl⟩ E (tgt := 140) (by decide) (fun E => ?_) (fun E => ?_)
        · refine g_sub (lv' := [(0, .ref (ad 0))]) [0] rfl ?_
          exact hk140 _ E
        · refine g_iconst (pc' := 73) O ⟨dX11_needed_72, rfl⟩ (v := (0 : Int32)) rfl ?_
          refine g_istore_n (pc' := 74) O ⟨dX11_needed_73, rfl⟩ (lv' := [(3, .int (0 : Int32)), (0, .ref (ad 0)), (2, .int x2_19)]) rfl (by decide) rfl ?_
          refine jn1_of (P := fun (h_21 : Hp) => G l D X 4 (WM ad cy) 0 0 h_21 134 [(0, .ref (ad 0)), (2, .int x2_19)] []) E ?_ ?_
          · intro h_21 E
            show G l D X 4 (WM ad cy) 0 0 h_21 134 [(0, .ref (ad 0)), (2, .int x2_19)] []
            refine g_iinc (pc' := 137) O ⟨dX11_needed_134, rfl⟩ (q := 1) (v := x2_19 + (1 : Int32)) (lv' := [(2, .int (x2_19 + (1 : Int32))), (0, .ref (ad 0))]) rfl rfl (by decide) rfl ?_
            refine g_goto (pc' := 140) O ⟨dX11_needed_137, rfl⟩ (tgt := 64) (by decide) ?_
            refine g_sub (lv' := [(0, .ref (ad 0)), (2, .int (x2_19 + (1 : Int32)))]) [1, 0] rfl ?_
            exact ih64 _ _ E
          · intro k134 hk134 E
            refine g_sub (lv' := [(0, .ref (ad 0)), (2, .int x2_19), (3, .int (0 : Int32))]) [1, 2, 0] rfl ?_
            refine fx2_of (P := fun (x3_22 : Int32) (h_23 : Hp) => G l D X 4 (WM ad cy) 0 0 h_23 74 [(0, .ref (ad 0)), (2, .int x2_19), (3, .int x3_22)] []) ?_ _ _ _ E
            intro self ih74 x3_22 h_23 E
            show G l D X 4 (WM ad cy) 0 0 h_23 74 [(0, .ref (ad 0)), (2, .int x2_19), (3, .int x3_22)] []
            unfold L_X11_needed_74 at E
            refine g_iload_n (pc' := 75) O ⟨dX11_needed_74, rfl⟩ (q := 2) rfl rfl ?_
            refine g_aload_n (pc' := 76) O ⟨dX11_needed_75, rfl⟩ (q := 0) rfl rfl ?_
            refine gf_M_RX11_74_0 ad cy (pc' := 79) O ⟨dX11_needed_76, rfl⟩ ?_
            refine g_aload_n (pc' := 80) O ⟨dX11_needed_79, rfl⟩ (q := 0) rfl rfl ?_
            refine gf_M_RX11_74_0 ad cy (pc' := 83) O ⟨dX11_needed_80, rfl⟩ ?_
            refine g_imul (pc' := 84) O ⟨dX11_needed_83, rfl⟩ ?_
            refine g_icmp_ge (pc' := 87) O ⟨dX11_needed_84, rfl⟩ E (tgt := 134) (by decide) (fun E => ?_) (fun E => ?_)
            · refine g_sub (lv' := [(0, .ref (ad 0)), (2, .int x2_19)]) [0, 1] rfl ?_
              exact hk134 _ E
            · refine g_iload_n (pc' := 88) O ⟨dX11_needed_87, rfl⟩ (q := 2) rfl rfl ?_
              refine g_aload_n (pc' := 89) O ⟨dX11_needed_88, rfl⟩ (q := 0) rfl rfl ?_
              refine gf_M_RX11_74_0 ad cy (pc' := 92) O ⟨dX11_needed_89, rfl⟩ ?_
              obtain ⟨nz_92, E⟩ := nz_of E
              refine g_idiv (pc' := 93) O ⟨dX11_needed_92, rfl⟩ nz_92 ?_
              refine g_iload_n (pc' := 94) O ⟨dX11_needed_93, rfl⟩ (q := 2) rfl rfl ?_
              refine g_aload_n (pc' := 95) O ⟨dX11_needed_94, rfl⟩ (q := 0) rfl rfl ?_
              refine gf_M_RX11_74_0 ad cy (pc' := 98) O ⟨dX11_needed_95, rfl⟩ ?_
              obtain ⟨nz_98, E⟩ := nz_of E
              refine g_irem (pc' := 99) O ⟨dX11_needed_98, rfl⟩ nz_98 ?_
              refine g_icmp_eq (pc' := 102) O ⟨dX11_needed_99, rfl⟩ E (tgt := 128) (by decide) (fun E => ?_) (fun E => ?_)
              · refine g_iinc (pc' := 131) O ⟨dX11_needed_128, rfl⟩ (q := 2) (v := x3_22 + (1 : Int32)) (lv' := [(3, .int (x3_22 + (1 : Int32))), (0, .ref (ad 0)), (2, .int x2_19)]) rfl rfl (by decide) rfl ?_
                refine g_goto (pc' := 134) O ⟨dX11_needed_131, rfl⟩ (tgt := 74) (by decide) ?_
                refine g_sub (lv' := [(0, .ref (ad 0)), (2, .int x2_19), (3, .int (x3_22 + (1 : Int32)))]) [1, 2, 0] rfl ?_
                exact ih74 _ _ E
              · refine g_aload_n (pc' := 103) O ⟨dX11_needed_102, rfl⟩ (q := 0) rfl rfl ?_
                refine g_aload_n (pc' := 104) O ⟨dX11_needed_103, rfl⟩ (q := 0) rfl rfl ?_
                refine g_aload_n (pc' := 105) O ⟨dX11_needed_104, rfl⟩ (q := 0) rfl rfl ?_
                refine gf_M_RX11_60_0 ad cy (pc' := 108) O ⟨dX11_needed_105, rfl⟩ ?_
                refine g_iload_n (pc' := 109) O ⟨dX11_needed_108, rfl⟩ (q := 1) rfl rfl ?_
                refine g_iald (pc' := 110) O ⟨dX11_needed_109, rfl⟩ (wM_17 ad cy h_23) E (fun E => ?_)
                refine g_iload_n (pc' := 111) O ⟨dX11_needed_110, rfl⟩ (q := 2) rfl rfl ?_
                refine g_aload_n (pc' := 112) O ⟨dX11_needed_111, rfl⟩ (q := 0) rfl rfl ?_
                refine gf_M_RX11_74_0 ad cy (pc' := 115) O ⟨dX11_needed_112, rfl⟩ ?_
                obtain ⟨nz_115, E⟩ := nz_of E
                refine g_idiv (pc' := 116) O ⟨dX11_needed_115, rfl⟩ nz_115 ?_
                refine g_iload_n (pc' := 117) O ⟨dX11_needed_116, rfl⟩ (q := 2) rfl rfl ?_
                refine g_aload_n (pc' := 118) O ⟨dX11_needed_117, rfl⟩ (q := 0) rfl rfl ?_
                refine gf_M_RX11_74_0 ad cy (pc' := 121) O ⟨dX11_needed_118, rfl⟩ ?_
                obtain ⟨nz_121, E⟩ := nz_of E
                refine g_irem (pc' := 122) O ⟨dX11_needed_121, rfl⟩ nz_121 ?_
                obtain ⟨r_24, c_25, E⟩ := bd_of E
                refine g_Vi (pc' := 125) O ⟨dX11_needed_122, rfl⟩ (y := yX11_lessIn) (As := [.int (h_23.1 17 x2_19.toNatClampNeg), .int (x3_22 / (h_23.1 0 1)), .int (irm x3_22 (h_23.1 0 1))]) (st := [.ref (ad 0)]) (t_X11_lessIn l D ad cy (h := h_23) c_25) kw_1465 kw_70 kw_1462 kw_1464 kw_57 rfl (wM_0 ad cy h_23) hd_X11_lessIn ⟨Nat.le_of_ble_eq_true rfl, Nat.le_of_ble_eq_true rfl⟩ ⟨Nat.le_of_ble_eq_true rfl, Nat.le_of_ble_eq_true rfl⟩ rfl (Nat.le_of_ble_eq_true rfl) ?_
                obtain ⟨r_26, c_27, E⟩ := bd_of E
                refine g_Vv (pc' := 128) O ⟨dX11_needed_125, rfl⟩ (y := yX11_comes) (As := [.int r_24]) (st := []) (t_X11_comes l D ad cy (h := h_23) c_27) kw_1457 kw_70 kw_1454 kw_1456 kw_55 rfl (wM_0 ad cy h_23) hd_X11_comes ⟨Nat.le_of_ble_eq_true rfl, Nat.le_of_ble_eq_true rfl⟩ ⟨Nat.le_of_ble_eq_true rfl, Nat.le_of_ble_eq_true rfl⟩ rfl (Nat.le_of_ble_eq_true rfl) ?_
                refine g_iinc (pc' := 131) O ⟨dX11_needed_128, rfl⟩ (q := 2) (v := x3_22 + (1 : Int32)) (lv' := [(3, .int (x3_22 + (1 : Int32))), (0, .ref (ad 0)), (2, .int x2_19)]) rfl rfl (by decide) rfl ?_
                refine g_goto (pc' := 134) O ⟨dX11_needed_131, rfl⟩ (tgt := 74) (by decide) ?_
                refine g_sub (lv' := [(0, .ref (ad 0)), (2, .int x2_19), (3, .int (x3_22 + (1 : Int32)))]) [1, 2, 0] rfl ?_
                exact ih74 _ _ E
    · intro k52 hk52 E
      refine g_sub (lv' := [(0, .ref (ad 0)), (1, .int (0 : Int32)), (2, .int (0 : Int32))]) [2, 1, 0] rfl ?_
      refine fx2_of (P := fun (x1_28 : Int32) (x2_29 : Int32) => G l D X 4 (WM ad cy) 0 0 h_1 19 [(0, .ref (ad 0)), (1, .int x1_28), (2, .int x2_29)] []) ?_ _ _ _ E
      intro self ih19 x1_28 x2_29 E
      show G l D X 4 (WM ad cy) 0 0 h_1 19 [(0, .ref (ad 0)), (1, .int x1_28), (2, .int x2_29)] []
      unfold L_X11_needed_19 at E
      refine g_iload_n (pc' := 20) O ⟨dX11_needed_19, rfl⟩ (q := 2) rfl rfl ?_
      refine g_aload_n (pc' := 21) O ⟨dX11_needed_20, rfl⟩ (q := 0) rfl rfl ?_
      refine gf_M_RX11_88_0 ad cy (pc' := 24) O ⟨dX11_needed_21, rfl⟩ ?_
      refine g_icmp_ge (pc' := 27) O ⟨dX11_needed_24, rfl⟩ E (tgt := 52) (by decide) (fun E => ?_) (fun E => ?_)
      · refine g_sub (lv' := [(0, .ref (ad 0)), (1, .int x1_28)]) [0, 1] rfl ?_
        exact hk52 _ E
      · refine g_iload_n (pc' := 28) O ⟨dX11_needed_27, rfl⟩ (q := 1) rfl rfl ?_
        refine g_aload_n (pc' := 29) O ⟨dX11_needed_28, rfl⟩ (q := 0) rfl rfl ?_
        refine gf_M_RX11_50_0 ad cy (pc' := 32) O ⟨dX11_needed_29, rfl⟩ ?_
        refine g_iload_n (pc' := 33) O ⟨dX11_needed_32, rfl⟩ (q := 2) rfl rfl ?_
        refine g_zald (pc' := 34) O ⟨dX11_needed_33, rfl⟩ (wM_14 ad cy h_1) E (fun E => ?_)
        refine g_if_eq (pc' := 37) O ⟨dX11_needed_34, rfl⟩ E (tgt := 43) (by decide) (fun E => ?_) (fun E => ?_)
        · refine g_iconst (pc' := 44) O ⟨dX11_needed_43, rfl⟩ (v := (0 : Int32)) rfl ?_
          refine g_ior (pc' := 45) O ⟨dX11_needed_44, rfl⟩ ?_
          refine g_nm E (fun y1_30 E => ?_)
          refine g_istore_n (pc' := 46) O ⟨dX11_needed_45, rfl⟩ (lv' := [(1, .int y1_30), (0, .ref (ad 0)), (2, .int x2_29)]) rfl (by decide) rfl ?_
          refine g_iinc (pc' := 49) O ⟨dX11_needed_46, rfl⟩ (q := 2) (v := x2_29 + (1 : Int32)) (lv' := [(2, .int (x2_29 + (1 : Int32))), (1, .int y1_30), (0, .ref (ad 0))]) rfl rfl (by decide) rfl ?_
          refine g_goto (pc' := 52) O ⟨dX11_needed_49, rfl⟩ (tgt := 19) (by decide) ?_
          refine g_sub (lv' := [(0, .ref (ad 0)), (1, .int y1_30), (2, .int (x2_29 + (1 : Int32)))]) [2, 1, 0] rfl ?_
          exact ih19 _ _ E
        · refine g_iconst (pc' := 38) O ⟨dX11_needed_37, rfl⟩ (v := (1 : Int32)) rfl ?_
          refine g_iload_n (pc' := 39) O ⟨dX11_needed_38, rfl⟩ (q := 2) rfl rfl ?_
          refine g_ishl (pc' := 40) O ⟨dX11_needed_39, rfl⟩ ?_
          refine g_goto (pc' := 43) O ⟨dX11_needed_40, rfl⟩ (tgt := 44) (by decide) ?_
          refine g_ior (pc' := 45) O ⟨dX11_needed_44, rfl⟩ ?_
          refine g_nm E (fun y1_31 E => ?_)
          refine g_istore_n (pc' := 46) O ⟨dX11_needed_45, rfl⟩ (lv' := [(1, .int y1_31), (0, .ref (ad 0)), (2, .int x2_29)]) rfl (by decide) rfl ?_
          refine g_iinc (pc' := 49) O ⟨dX11_needed_46, rfl⟩ (q := 2) (v := x2_29 + (1 : Int32)) (lv' := [(2, .int (x2_29 + (1 : Int32))), (1, .int y1_31), (0, .ref (ad 0))]) rfl rfl (by decide) rfl ?_
          refine g_goto (pc' := 52) O ⟨dX11_needed_49, rfl⟩ (tgt := 19) (by decide) ?_
          refine g_sub (lv' := [(0, .ref (ad 0)), (1, .int y1_31), (2, .int (x2_29 + (1 : Int32)))]) [2, 1, 0] rfl ?_
          exact ih19 _ _ E
  · refine g_iconst (pc' := 14) O ⟨dX11_needed_13, rfl⟩ (v := (-1 : Int32)) rfl ?_
    cases E
    exact hret _ _ _ ⟨dX11_needed_14, rfl⟩ rfl
