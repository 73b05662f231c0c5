/-! WALKS, laid by program: each method does what its pure program says -/
set_option maxRecDepth 100000 in
set_option maxHeartbeats 4000000 in
theorem t_L_faults (l : Launch) (D : va_G) (ad : Nat → Nat) (cy : Nat → ClassId) (hfl : l.stackTraces = false) (b0 : Nat) (b1 : Nat) {x1 : Int32} {h : Hp} {r0 : Row} {r1 : Row} {o : Int32 × Hp} (E : f_L_faults x1 h r0 r1 = some o) : CtMI l D cy (WX2 ad cy 24 4 b0 b1) yL_faults cL_faults 14 .boolean 12 389 4 24 [.ref (ad 0), .int x1, .ref b0, .ref b1] (h, r0, r1) o.1 (o.2, r0, r1) := by
  refine sMI (own := RL) rfl rfl (Nat.le_of_ble_eq_true rfl) (fun X O hN hret => ?_)
  show G l D X 14 (WX2 ad cy 24 4 b0 b1) 0 0 (h, r0, r1) 0 [(0, .ref (ad 0)), (1, .int x1), (2, .ref b0), (3, .ref b1)] []
  unfold f_L_faults at E
  refine g_aload_n (pc' := 1) O ⟨dL_faults_0, rfl⟩ (q := 3) rfl rfl ?_
  refine g_iconst (pc' := 2) O ⟨dL_faults_1, rfl⟩ (v := (0 : Int32)) rfl ?_
  refine g_iald (pc' := 3) O ⟨dL_faults_2, rfl⟩ zX2_1 E (fun E => ?_)
  refine g_istore (pc' := 5) O ⟨dL_faults_3, rfl⟩ (lv' := [(4, .int (r1 (0 : Int32).toNatClampNeg)), (0, .ref (ad 0)), (1, .int x1), (2, .ref b0), (3, .ref b1)]) (by decide) rfl ?_
  refine g_iload_n (pc' := 6) O ⟨dL_faults_5, rfl⟩ (q := 2) rfl rfl ?_
  refine g_i2l (pc' := 7) O ⟨dL_faults_6, rfl⟩ ?_
  refine g_ldc2 (pc' := 10) O ⟨dL_faults_7, rfl⟩ kw_806 ?_
  refine g_lmul (pc' := 11) O ⟨dL_faults_10, rfl⟩ ?_
  refine g_nmL E (fun y5_1 E => ?_)
  refine g_lstore (pc' := 13) O ⟨dL_faults_11, rfl⟩ (lv' := [(5, .long y5_1), (4, .int (r1 (0 : Int32).toNatClampNeg)), (0, .ref (ad 0)), (1, .int x1), (2, .ref b0), (3, .ref b1)]) (by decide) rfl ?_
  refine g_iconst (pc' := 14) O ⟨dL_faults_13, rfl⟩ (v := (0 : Int32)) rfl ?_
  refine g_istore (pc' := 16) O ⟨dL_faults_14, rfl⟩ (lv' := [(7, .int (0 : Int32)), (5, .long y5_1), (4, .int (r1 (0 : Int32).toNatClampNeg)), (0, .ref (ad 0)), (1, .int x1), (2, .ref b0), (3, .ref b1)]) (by decide) rfl ?_
  refine g_iconst (pc' := 17) O ⟨dL_faults_16, rfl⟩ (v := (1 : Int32)) rfl ?_
  refine g_istore (pc' := 19) O ⟨dL_faults_17, rfl⟩ (lv' := [(8, .int (1 : Int32)), (7, .int (0 : Int32)), (5, .long y5_1), (4, .int (r1 (0 : Int32).toNatClampNeg)), (0, .ref (ad 0)), (1, .int x1), (2, .ref b0), (3, .ref b1)]) (by decide) rfl ?_
  refine g_iconst (pc' := 20) O ⟨dL_faults_19, rfl⟩ (v := (0 : Int32)) rfl ?_
  refine g_istore (pc' := 22) O ⟨dL_faults_20, rfl⟩ (lv' := [(9, .int (0 : Int32)), (8, .int (1 : Int32)), (7, .int (0 : Int32)), (5, .long y5_1), (4, .int (r1 (0 : Int32).toNatClampNeg)), (0, .ref (ad 0)), (1, .int x1), (2, .ref b0), (3, .ref b1)]) (by decide) rfl ?_
  refine jn1_of (P := fun (x7_2 : Int32) => G l D X 14 (WX2 ad cy 24 4 b0 b1) 0 0 (h, r0, r1) 69 [(0, .ref (ad 0)), (1, .int x1), (2, .ref b0), (3, .ref b1), (4, .int (r1 (0 : Int32).toNatClampNeg)), (5, .long y5_1), (7, .int x7_2), (8, .int (1 : Int32))] []) E ?_ ?_
  · intro x7_2 E
    show G l D X 14 (WX2 ad cy 24 4 b0 b1) 0 0 (h, r0, r1) 69 [(0, .ref (ad 0)), (1, .int x1), (2, .ref b0), (3, .ref b1), (4, .int (r1 (0 : Int32).toNatClampNeg)), (5, .long y5_1), (7, .int x7_2), (8, .int (1 : Int32))] []
    refine g_iconst (pc' := 70) O ⟨dL_faults_69, rfl⟩ (v := (0 : Int32)) rfl ?_
    refine g_istore (pc' := 72) O ⟨dL_faults_70, rfl⟩ (lv' := [(9, .int (0 : Int32)), (0, .ref (ad 0)), (1, .int x1), (2, .ref b0), (3, .ref b1), (4, .int (r1 (0 : Int32).toNatClampNeg)), (5, .long y5_1), (7, .int x7_2), (8, .int (1 : Int32))]) (by decide) rfl ?_
    refine jn1_of (P := fun (x8_3 : Int32) => G l D X 14 (WX2 ad cy 24 4 b0 b1) 0 0 (h, r0, r1) 137 [(0, .ref (ad 0)), (1, .int x1), (2, .ref b0), (3, .ref b1), (4, .int (r1 (0 : Int32).toNatClampNeg)), (5, .long y5_1), (7, .int x7_2), (8, .int x8_3)] []) E ?_ ?_
    · intro x8_3 E
      show G l D X 14 (WX2 ad cy 24 4 b0 b1) 0 0 (h, r0, r1) 137 [(0, .ref (ad 0)), (1, .int x1), (2, .ref b0), (3, .ref b1), (4, .int (r1 (0 : Int32).toNatClampNeg)), (5, .long y5_1), (7, .int x7_2), (8, .int x8_3)] []
      refine g_aload_n (pc' := 138) O ⟨dL_faults_137, rfl⟩ (q := 0) rfl rfl ?_
      refine g_lload (pc' := 140) O ⟨dL_faults_138, rfl⟩ (q := 5) rfl ?_
      obtain ⟨r_4, c_5, E⟩ := bd_of E
      refine g_Ui (pc' := 143) O ⟨dL_faults_140, rfl⟩ (y := yX10_hidden) (As := [.long y5_1]) (st := []) (put := (fun g => (g, r0, r1))) sub_X2_X (t_X10_hidden l D ad cy (h := h) c_5) kw_813 kw_25 kw_810 kw_811 kw_812 rfl zX2_x hd_X10_hidden ⟨Nat.le_of_ble_eq_true rfl, Nat.le_of_ble_eq_true rfl⟩ ⟨Nat.le_of_ble_eq_true rfl, Nat.le_of_ble_eq_true rfl⟩ rfl (Nat.le_of_ble_eq_true rfl) ?_
      show G l D X 14 (WX2 ad cy 24 4 b0 b1) 0 0 (r_4.2, r0, r1) 143 [(0, .ref (ad 0)), (1, .int x1), (2, .ref b0), (3, .ref b1), (4, .int (r1 (0 : Int32).toNatClampNeg)), (5, .long y5_1), (7, .int x7_2), (8, .int x8_3)] [.int r_4.1]
      refine g_iload (pc' := 145) O ⟨dL_faults_143, rfl⟩ (q := 6) rfl ?_
      refine jn2_of (P := fun (z_6 : Int32) (h_7 : Hp) => G l D X 14 (WX2 ad cy 24 4 b0 b1) 0 0 (h_7, r0, r1) 188 [(0, .ref (ad 0)), (1, .int x1), (2, .ref b0), (3, .ref b1), (4, .int (r1 (0 : Int32).toNatClampNeg))] [.int z_6]) E ?_ ?_
      · intro z_6 h_7 E
        show G l D X 14 (WX2 ad cy 24 4 b0 b1) 0 0 (h_7, r0, r1) 188 [(0, .ref (ad 0)), (1, .int x1), (2, .ref b0), (3, .ref b1), (4, .int (r1 (0 : Int32).toNatClampNeg))] [.int z_6]
        refine g_istore (pc' := 190) O ⟨dL_faults_188, rfl⟩ (lv' := [(9, .int z_6), (0, .ref (ad 0)), (1, .int x1), (2, .ref b0), (3, .ref b1), (4, .int (r1 (0 : Int32).toNatClampNeg))]) (by decide) rfl ?_
        refine g_aload_n (pc' := 191) O ⟨dL_faults_190, rfl⟩ (q := 4) rfl rfl ?_
        refine g_iconst (pc' := 192) O ⟨dL_faults_191, rfl⟩ (v := (1 : Int32)) rfl ?_
        refine g_iald (pc' := 193) O ⟨dL_faults_192, rfl⟩ zX2_1 E (fun E => ?_)
        refine g_if_eq (pc' := 196) O ⟨dL_faults_193, rfl⟩ E (tgt := 201) (by decide) (fun E => ?_) (fun E => ?_)
        · refine g_iload (pc' := 203) O ⟨dL_faults_201, rfl⟩ (q := 0) rfl ?_
          obtain ⟨hn, E⟩ := ckz_of E
          cases E
          exact hret _ _ _ _ _ (Nat.le_of_ble_eq_true rfl) (Nat.le_of_ble_eq_true rfl) ⟨dL_faults_203, rfl⟩ hn
        · refine g_iload (pc' := 198) O ⟨dL_faults_196, rfl⟩ (q := 0) rfl ?_
          refine g_if_ne (pc' := 201) O ⟨dL_faults_198, rfl⟩ E (tgt := 204) (by decide) (fun E => ?_) (fun E => ?_)
          · refine g_iload_n (pc' := 205) O ⟨dL_faults_204, rfl⟩ (q := 2) rfl rfl ?_
            refine g_aload_n (pc' := 206) O ⟨dL_faults_205, rfl⟩ (q := 4) rfl rfl ?_
            refine g_iconst (pc' := 207) O ⟨dL_faults_206, rfl⟩ (v := (1 : Int32)) rfl ?_
            refine g_iald (pc' := 208) O ⟨dL_faults_207, rfl⟩ zX2_1 E (fun E => ?_)
            obtain ⟨r_8, c_9, E⟩ := bd_of E
            refine g_MSi (pc' := 211) O hN ⟨dL_faults_208, rfl⟩ (y := yL_low) (As := [.int x1, .int (r1 (1 : Int32).toNatClampNeg)]) (st := []) (put := (fun g => (h_7, r0, r1))) sub_X2_A (t_L_low l D cy hfl c_9) kw_408 kw_24 kw_406 kw_407 hd_L_low ⟨Nat.le_of_ble_eq_true rfl, Nat.le_of_ble_eq_true rfl⟩ ⟨Nat.le_of_ble_eq_true rfl, Nat.le_of_ble_eq_true rfl⟩ rfl (Nat.le_of_ble_eq_true rfl) ?_
            show G l D X 14 (WX2 ad cy 24 4 b0 b1) 0 0 (h_7, r0, r1) 211 [(9, .int z_6), (0, .ref (ad 0)), (1, .int x1), (2, .ref b0), (3, .ref b1), (4, .int (r1 (0 : Int32).toNatClampNeg))] [.int r_8]
            refine g_istore (pc' := 213) O ⟨dL_faults_211, rfl⟩ (lv' := [(10, .int r_8), (9, .int z_6), (0, .ref (ad 0)), (1, .int x1), (2, .ref b0), (3, .ref b1), (4, .int (r1 (0 : Int32).toNatClampNeg))]) (by decide) rfl ?_
            refine g_iload_n (pc' := 214) O ⟨dL_faults_213, rfl⟩ (q := 3) rfl rfl ?_
            refine g_iconst (pc' := 215) O ⟨dL_faults_214, rfl⟩ (v := (5 : Int32)) rfl ?_
            refine g_ishr (pc' := 216) O ⟨dL_faults_215, rfl⟩ ?_
            refine g_iconst (pc' := 217) O ⟨dL_faults_216, rfl⟩ (v := (3 : Int32)) rfl ?_
            obtain ⟨r_10, c_11, E⟩ := bd_of E
            refine g_MSi (pc' := 220) O hN ⟨dL_faults_217, rfl⟩ (y := yL_low) (As := [.int (ishr x1 (5 : Int32)), .int (3 : Int32)]) (st := []) (put := (fun g => (h_7, r0, r1))) sub_X2_A (t_L_low l D cy hfl c_11) kw_408 kw_24 kw_406 kw_407 hd_L_low ⟨Nat.le_of_ble_eq_true rfl, Nat.le_of_ble_eq_true rfl⟩ ⟨Nat.le_of_ble_eq_true rfl, Nat.le_of_ble_eq_true rfl⟩ rfl (Nat.le_of_ble_eq_true rfl) ?_
            show G l D X 14 (WX2 ad cy 24 4 b0 b1) 0 0 (h_7, r0, r1) 220 [(10, .int r_8), (9, .int z_6), (0, .ref (ad 0)), (1, .int x1), (2, .ref b0), (3, .ref b1), (4, .int (r1 (0 : Int32).toNatClampNeg))] [.int r_10]
            refine g_istore (pc' := 222) O ⟨dL_faults_220, rfl⟩ (lv' := [(11, .int r_10), (10, .int r_8), (9, .int z_6), (0, .ref (ad 0)), (1, .int x1), (2, .ref b0), (3, .ref b1), (4, .int (r1 (0 : Int32).toNatClampNeg))]) (by decide) rfl ?_
            refine g_iconst (pc' := 223) O ⟨dL_faults_222, rfl⟩ (v := (0 : Int32)) rfl ?_
            refine g_istore (pc' := 225) O ⟨dL_faults_223, rfl⟩ (lv' := [(12, .int (0 : Int32)), (11, .int r_10), (10, .int r_8), (9, .int z_6), (0, .ref (ad 0)), (1, .int x1), (2, .ref b0), (3, .ref b1), (4, .int (r1 (0 : Int32).toNatClampNeg))]) (by decide) rfl ?_
            refine g_iconst (pc' := 226) O ⟨dL_faults_225, rfl⟩ (v := (0 : Int32)) rfl ?_
            refine g_istore (pc' := 228) O ⟨dL_faults_226, rfl⟩ (lv' := [(13, .int (0 : Int32)), (12, .int (0 : Int32)), (11, .int r_10), (10, .int r_8), (9, .int z_6), (0, .ref (ad 0)), (1, .int x1), (2, .ref b0), (3, .ref b1), (4, .int (r1 (0 : Int32).toNatClampNeg))]) (by decide) rfl ?_
            refine jn1_of (P := fun (x12_12 : Int32) => G l D X 14 (WX2 ad cy 24 4 b0 b1) 0 0 (h_7, r0, r1) 275 [(0, .ref (ad 0)), (2, .ref b0), (3, .ref b1), (10, .int r_8), (11, .int r_10), (12, .int x12_12)] []) E ?_ ?_
            · intro x12_12 E
              show G l D X 14 (WX2 ad cy 24 4 b0 b1) 0 0 (h_7, r0, r1) 275 [(0, .ref (ad 0)), (2, .ref b0), (3, .ref b1), (10, .int r_8), (11, .int r_10), (12, .int x12_12)] []
              refine g_aload_n (pc' := 276) O ⟨dL_faults_275, rfl⟩ (q := 0) rfl rfl ?_
              refine g_iload (pc' := 278) O ⟨dL_faults_276, rfl⟩ (q := 3) rfl ?_
              refine g_iload (pc' := 280) O ⟨dL_faults_278, rfl⟩ (q := 4) rfl ?_
              obtain ⟨z_16, c_14, e_15, E⟩ := hcatch_of E
              refine g_UXi (pc' := 283) O ⟨dL_faults_280, rfl⟩ (y := yX10_bad) (As := [.int r_8, .int r_10]) (st := []) (put := (fun g => (g, r0, r1))) sub_X2_X (t_X10_bad l D ad cy hfl (h := h_7) c_14) kw_862 kw_25 kw_859 kw_860 kw_861 rfl zX2_x hd_X10_bad ⟨Nat.le_of_ble_eq_true rfl, Nat.le_of_ble_eq_true rfl⟩ ⟨Nat.le_of_ble_eq_true rfl, Nat.le_of_ble_eq_true rfl⟩ rfl (Nat.le_of_ble_eq_true rfl) (fun E1 c q => (by cases e_15 E1 c q)) (fun r_13 q => ?_)
              replace E := E r_13 q
              show G l D X 14 (WX2 ad cy 24 4 b0 b1) 2 12 (r_13.2, r0, r1) 283 [(0, .ref (ad 0)), (2, .ref b0), (3, .ref b1), (10, .int r_8), (11, .int r_10), (12, .int x12_12)] [.int r_13.1]
              refine g_iload (pc' := 285) O ⟨dL_faults_283, rfl⟩ (q := 5) rfl ?_
              refine g_icmp_ne (pc' := 288) O ⟨dL_faults_285, rfl⟩ E (tgt := 313) (by decide) (fun E => ?_) (fun E => ?_)
              · refine g_iconst (pc' := 314) O ⟨dL_faults_313, rfl⟩ (v := (0 : Int32)) rfl ?_
                obtain ⟨hn, E⟩ := ckz_of E
                cases E
                exact hret _ _ _ _ _ (Nat.le_of_ble_eq_true rfl) (Nat.le_of_ble_eq_true rfl) ⟨dL_faults_314, rfl⟩ hn
              · refine g_aload_n (pc' := 289) O ⟨dL_faults_288, rfl⟩ (q := 0) rfl rfl ?_
                refine g_iload (pc' := 291) O ⟨dL_faults_289, rfl⟩ (q := 3) rfl ?_
                refine g_iload (pc' := 293) O ⟨dL_faults_291, rfl⟩ (q := 4) rfl ?_
                obtain ⟨z_20, c_18, e_19, E⟩ := hcatch_of E
                refine g_UXl (pc' := 296) O ⟨dL_faults_293, rfl⟩ (y := yX10_tells) (As := [.int r_8, .int r_10]) (st := []) (put := (fun g => (g, r0, r1))) sub_X2_X (t_X10_tells l D ad cy hfl (h := r_13.2) c_18) kw_870 kw_25 kw_867 kw_868 kw_869 rfl zX2_x hd_X10_tells ⟨Nat.le_of_ble_eq_true rfl, Nat.le_of_ble_eq_true rfl⟩ ⟨Nat.le_of_ble_eq_true rfl, Nat.le_of_ble_eq_true rfl⟩ rfl (Nat.le_of_ble_eq_true rfl) (fun E1 c q => (by cases e_19 E1 c q)) (fun r_17 q => ?_)
                replace E := E r_17 q
                show G l D X 14 (WX2 ad cy 24 4 b0 b1) 4 24 (r_17.2, r0, r1) 296 [(0, .ref (ad 0)), (2, .ref b0), (3, .ref b1), (10, .int r_8), (11, .int r_10), (12, .int x12_12)] [.long r_17.1]
                refine g_iload (pc' := 298) O ⟨dL_faults_296, rfl⟩ (q := 3) rfl ?_
                refine g_iload (pc' := 300) O ⟨dL_faults_298, rfl⟩ (q := 4) rfl ?_
                refine g_aload_n (pc' := 301) O ⟨dL_faults_300, rfl⟩ (q := 1) rfl rfl ?_
                refine g_aload_n (pc' := 302) O ⟨dL_faults_301, rfl⟩ (q := 2) rfl rfl ?_
                obtain ⟨r_21, c_22, E⟩ := bd_of E
                refine g_MSl (pc' := 305) O hN ⟨dL_faults_302, rfl⟩ (y := yL_telling) (As := [.int r_8, .int r_10, .ref b0, .ref b1]) (st := [.long r_17.1]) (put := (fun g => (r_17.2, g.1, g.2))) sub_X2_A0_1 (t_L_telling l D cy hfl b0 b1 c_22) kw_809 kw_24 kw_807 kw_808 hd_L_telling ⟨Nat.le_of_ble_eq_true rfl, Nat.le_of_ble_eq_true rfl⟩ ⟨Nat.le_of_ble_eq_true rfl, Nat.le_of_ble_eq_true rfl⟩ rfl (Nat.le_of_ble_eq_true rfl) ?_
                show G l D X 14 (WX2 ad cy 24 4 b0 b1) 4 24 (r_17.2, r0, r1) 305 [(0, .ref (ad 0)), (2, .ref b0), (3, .ref b1), (10, .int r_8), (11, .int r_10), (12, .int x12_12)] [.long r_21, .long r_17.1]
                refine g_lcmp (pc' := 306) O ⟨dL_faults_305, rfl⟩ ?_
                refine g_if_ne (pc' := 309) O ⟨dL_faults_306, rfl⟩ E (tgt := 313) (by decide) (fun E => ?_) (fun E => ?_)
                · refine g_iconst (pc' := 314) O ⟨dL_faults_313, rfl⟩ (v := (0 : Int32)) rfl ?_
                  obtain ⟨hn, E⟩ := ckz_of E
                  cases E
                  exact hret _ _ _ _ _ (Nat.le_of_ble_eq_true rfl) (Nat.le_of_ble_eq_true rfl) ⟨dL_faults_314, rfl⟩ hn
                · refine g_iconst (pc' := 310) O ⟨dL_faults_309, rfl⟩ (v := (1 : Int32)) rfl ?_
                  refine g_goto (pc' := 313) O ⟨dL_faults_310, rfl⟩ (tgt := 314) (by decide) ?_
                  obtain ⟨hn, E⟩ := ckz_of E
                  cases E
                  exact hret _ _ _ _ _ (Nat.le_of_ble_eq_true rfl) (Nat.le_of_ble_eq_true rfl) ⟨dL_faults_314, rfl⟩ hn
            · intro k275 hk275 E
              refine g_sub (lv' := [(0, .ref (ad 0)), (2, .ref b0), (3, .ref b1), (4, .int (r1 (0 : Int32).toNatClampNeg)), (10, .int r_8), (11, .int r_10), (12, .int (0 : Int32)), (13, .int (0 : Int32))]) [5, 7, 8, 9, 3, 2, 1, 0] rfl ?_
              refine fx2_of (P := fun (x12_23 : Int32) (x13_24 : Int32) => G l D X 14 (WX2 ad cy 24 4 b0 b1) 0 0 (h_7, r0, r1) 228 [(0, .ref (ad 0)), (2, .ref b0), (3, .ref b1), (4, .int (r1 (0 : Int32).toNatClampNeg)), (10, .int r_8), (11, .int r_10), (12, .int x12_23), (13, .int x13_24)] []) ?_ _ _ _ E
              intro self ih228 x12_23 x13_24 E
              show G l D X 14 (WX2 ad cy 24 4 b0 b1) 0 0 (h_7, r0, r1) 228 [(0, .ref (ad 0)), (2, .ref b0), (3, .ref b1), (4, .int (r1 (0 : Int32).toNatClampNeg)), (10, .int r_8), (11, .int r_10), (12, .int x12_23), (13, .int x13_24)] []
              unfold L_L_faults_228 at E
              refine g_iload (pc' := 230) O ⟨dL_faults_228, rfl⟩ (q := 7) rfl ?_
              refine g_iconst (pc' := 231) O ⟨dL_faults_230, rfl⟩ (v := (1 : Int32)) rfl ?_
              refine g_iload (pc' := 233) O ⟨dL_faults_231, rfl⟩ (q := 3) rfl ?_
              refine g_ishl (pc' := 234) O ⟨dL_faults_233, rfl⟩ ?_
              refine g_icmp_ge (pc' := 237) O ⟨dL_faults_234, rfl⟩ E (tgt := 275) (by decide) (fun E => ?_) (fun E => ?_)
              · refine g_sub (lv' := [(0, .ref (ad 0)), (2, .ref b0), (3, .ref b1), (10, .int r_8), (11, .int r_10), (12, .int x12_23)]) [0, 1, 2, 4, 5, 6] rfl ?_
                exact hk275 _ E
              · refine g_iload (pc' := 239) O ⟨dL_faults_237, rfl⟩ (q := 6) rfl ?_
                refine g_iload (pc' := 241) O ⟨dL_faults_239, rfl⟩ (q := 7) rfl ?_
                refine g_aload_n (pc' := 242) O ⟨dL_faults_241, rfl⟩ (q := 2) rfl rfl ?_
                refine g_iconst (pc' := 243) O ⟨dL_faults_242, rfl⟩ (v := (1 : Int32)) rfl ?_
                refine g_iald (pc' := 244) O ⟨dL_faults_243, rfl⟩ zX2_1 E (fun E => ?_)
                refine g_iload (pc' := 246) O ⟨dL_faults_244, rfl⟩ (q := 4) rfl ?_
                refine g_iload (pc' := 248) O ⟨dL_faults_246, rfl⟩ (q := 5) rfl ?_
                refine g_aload_n (pc' := 249) O ⟨dL_faults_248, rfl⟩ (q := 1) rfl rfl ?_
                obtain ⟨r_25, c_26, E⟩ := bd_of E
                refine g_MSi (pc' := 252) O hN ⟨dL_faults_249, rfl⟩ (y := yL_out) (As := [.int x13_24, .int (r1 (1 : Int32).toNatClampNeg), .int r_8, .int r_10, .ref b0]) (st := [.int x12_23]) (put := (fun g => (h_7, g, r1))) sub_X2_A0 (t_L_out l D cy hfl b0 c_26) kw_565 kw_24 kw_563 kw_564 hd_L_out ⟨Nat.le_of_ble_eq_true rfl, Nat.le_of_ble_eq_true rfl⟩ ⟨Nat.le_of_ble_eq_true rfl, Nat.le_of_ble_eq_true rfl⟩ rfl (Nat.le_of_ble_eq_true rfl) ?_
                show G l D X 14 (WX2 ad cy 24 4 b0 b1) 0 0 (h_7, r0, r1) 252 [(0, .ref (ad 0)), (2, .ref b0), (3, .ref b1), (4, .int (r1 (0 : Int32).toNatClampNeg)), (10, .int r_8), (11, .int r_10), (12, .int x12_23), (13, .int x13_24)] [.int r_25, .int x12_23]
                refine g_iconst (pc' := 253) O ⟨dL_faults_252, rfl⟩ (v := (0 : Int32)) rfl ?_
                refine g_iload (pc' := 255) O ⟨dL_faults_253, rfl⟩ (q := 3) rfl ?_
                obtain ⟨r_27, c_28, E⟩ := bd_of E
                refine g_MSi (pc' := 258) O hN ⟨dL_faults_255, rfl⟩ (y := yL_upright) (As := [.int r_25, .int (0 : Int32), .int (r1 (0 : Int32).toNatClampNeg)]) (st := [.int x12_23]) (put := (fun g => (h_7, r0, r1))) sub_X2_A (t_L_upright l D cy hfl c_28) kw_717 kw_24 kw_715 kw_716 hd_L_upright ⟨Nat.le_of_ble_eq_true rfl, Nat.le_of_ble_eq_true rfl⟩ ⟨Nat.le_of_ble_eq_true rfl, Nat.le_of_ble_eq_true rfl⟩ rfl (Nat.le_of_ble_eq_true rfl) ?_
                show G l D X 14 (WX2 ad cy 24 4 b0 b1) 0 0 (h_7, r0, r1) 258 [(0, .ref (ad 0)), (2, .ref b0), (3, .ref b1), (4, .int (r1 (0 : Int32).toNatClampNeg)), (10, .int r_8), (11, .int r_10), (12, .int x12_23), (13, .int x13_24)] [.int r_27, .int x12_23]
                refine g_if_eq (pc' := 261) O ⟨dL_faults_258, rfl⟩ E (tgt := 265) (by decide) (fun E => ?_) (fun E => ?_)
                · refine g_iconst (pc' := 266) O ⟨dL_faults_265, rfl⟩ (v := (1 : Int32)) rfl ?_
                  refine g_iadd (pc' := 267) O ⟨dL_faults_266, rfl⟩ ?_
                  refine g_nm E (fun y12_29 E => ?_)
                  refine g_istore (pc' := 269) O ⟨dL_faults_267, rfl⟩ (lv' := [(12, .int y12_29), (0, .ref (ad 0)), (2, .ref b0), (3, .ref b1), (4, .int (r1 (0 : Int32).toNatClampNeg)), (10, .int r_8), (11, .int r_10), (13, .int x13_24)]) (by decide) rfl ?_
                  refine g_iinc (pc' := 272) O ⟨dL_faults_269, rfl⟩ (q := 7) (v := x13_24 + (1 : Int32)) (lv' := [(13, .int (x13_24 + (1 : Int32))), (12, .int y12_29), (0, .ref (ad 0)), (2, .ref b0), (3, .ref b1), (4, .int (r1 (0 : Int32).toNatClampNeg)), (10, .int r_8), (11, .int r_10)]) rfl rfl (by decide) rfl ?_
                  refine g_goto (pc' := 275) O ⟨dL_faults_272, rfl⟩ (tgt := 228) (by decide) ?_
                  refine g_sub (lv' := [(0, .ref (ad 0)), (2, .ref b0), (3, .ref b1), (4, .int (r1 (0 : Int32).toNatClampNeg)), (10, .int r_8), (11, .int r_10), (12, .int y12_29), (13, .int (x13_24 + (1 : Int32)))]) [2, 3, 4, 5, 6, 7, 1, 0] rfl ?_
                  exact ih228 _ _ E
                · refine g_iconst (pc' := 262) O ⟨dL_faults_261, rfl⟩ (v := (0 : Int32)) rfl ?_
                  refine g_goto (pc' := 265) O ⟨dL_faults_262, rfl⟩ (tgt := 266) (by decide) ?_
                  refine g_iadd (pc' := 267) O ⟨dL_faults_266, rfl⟩ ?_
                  refine g_nm E (fun y12_30 E => ?_)
                  refine g_istore (pc' := 269) O ⟨dL_faults_267, rfl⟩ (lv' := [(12, .int y12_30), (0, .ref (ad 0)), (2, .ref b0), (3, .ref b1), (4, .int (r1 (0 : Int32).toNatClampNeg)), (10, .int r_8), (11, .int r_10), (13, .int x13_24)]) (by decide) rfl ?_
                  refine g_iinc (pc' := 272) O ⟨dL_faults_269, rfl⟩ (q := 7) (v := x13_24 + (1 : Int32)) (lv' := [(13, .int (x13_24 + (1 : Int32))), (12, .int y12_30), (0, .ref (ad 0)), (2, .ref b0), (3, .ref b1), (4, .int (r1 (0 : Int32).toNatClampNeg)), (10, .int r_8), (11, .int r_10)]) rfl rfl (by decide) rfl ?_
                  refine g_goto (pc' := 275) O ⟨dL_faults_272, rfl⟩ (tgt := 228) (by decide) ?_
                  refine g_sub (lv' := [(0, .ref (ad 0)), (2, .ref b0), (3, .ref b1), (4, .int (r1 (0 : Int32).toNatClampNeg)), (10, .int r_8), (11, .int r_10), (12, .int y12_30), (13, .int (x13_24 + (1 : Int32)))]) [2, 3, 4, 5, 6, 7, 1, 0] rfl ?_
                  exact ih228 _ _ E
          · refine g_iload (pc' := 203) O ⟨dL_faults_201, rfl⟩ (q := 0) rfl ?_
            obtain ⟨hn, E⟩ := ckz_of E
            cases E
            exact hret _ _ _ _ _ (Nat.le_of_ble_eq_true rfl) (Nat.le_of_ble_eq_true rfl) ⟨dL_faults_203, rfl⟩ hn
      · intro k188 hk188 E
        refine jn1_of (P := fun (h_31 : Hp) => G l D X 14 (WX2 ad cy 24 4 b0 b1) 0 0 (h_31, r0, r1) 187 [(0, .ref (ad 0)), (1, .int x1), (2, .ref b0), (3, .ref b1), (4, .int (r1 (0 : Int32).toNatClampNeg))] []) E ?_ ?_
        · intro h_31 E
          show G l D X 14 (WX2 ad cy 24 4 b0 b1) 0 0 (h_31, r0, r1) 187 [(0, .ref (ad 0)), (1, .int x1), (2, .ref b0), (3, .ref b1), (4, .int (r1 (0 : Int32).toNatClampNeg))] []
          refine g_iconst (pc' := 188) O ⟨dL_faults_187, rfl⟩ (v := (0 : Int32)) rfl ?_
          exact hk188 _ _ E
        · intro k187 hk187 E
          refine g_icmp_ne (pc' := 148) O ⟨dL_faults_145, rfl⟩ E (tgt := 187) (by decide) (fun E => ?_) (fun E => ?_)
          · refine g_sub (lv' := [(0, .ref (ad 0)), (1, .int x1), (2, .ref b0), (3, .ref b1), (4, .int (r1 (0 : Int32).toNatClampNeg))]) [0, 1, 2, 3, 4] rfl ?_
            exact hk187 _ E
          · refine g_aload_n (pc' := 149) O ⟨dL_faults_148, rfl⟩ (q := 0) rfl rfl ?_
            obtain ⟨r_32, c_33, E⟩ := bd_of E
            refine g_Ui (pc' := 152) O ⟨dL_faults_149, rfl⟩ (y := yX10_bears) (As := []) (st := []) (put := (fun g => (g, r0, r1))) sub_X2_X (t_X10_bears l D ad cy (h := r_4.2) c_33) kw_831 kw_25 kw_828 kw_829 kw_830 rfl zX2_x hd_X10_bears ⟨Nat.le_of_ble_eq_true rfl, Nat.le_of_ble_eq_true rfl⟩ ⟨Nat.le_of_ble_eq_true rfl, Nat.le_of_ble_eq_true rfl⟩ rfl (Nat.le_of_ble_eq_true rfl) ?_
            show G l D X 14 (WX2 ad cy 24 4 b0 b1) 0 0 (r_32.2, r0, r1) 152 [(0, .ref (ad 0)), (1, .int x1), (2, .ref b0), (3, .ref b1), (4, .int (r1 (0 : Int32).toNatClampNeg)), (5, .long y5_1), (7, .int x7_2), (8, .int x8_3)] [.int r_32.1]
            refine g_iload (pc' := 154) O ⟨dL_faults_152, rfl⟩ (q := 7) rfl ?_
            refine g_icmp_ne (pc' := 157) O ⟨dL_faults_154, rfl⟩ E (tgt := 187) (by decide) (fun E => ?_) (fun E => ?_)
            · refine g_sub (lv' := [(0, .ref (ad 0)), (1, .int x1), (2, .ref b0), (3, .ref b1), (4, .int (r1 (0 : Int32).toNatClampNeg))]) [0, 1, 2, 3, 4] rfl ?_
              exact hk187 _ E
            · refine g_iload (pc' := 159) O ⟨dL_faults_157, rfl⟩ (q := 4) rfl ?_
              refine g_iconst (pc' := 160) O ⟨dL_faults_159, rfl⟩ (v := (3 : Int32)) rfl ?_
              refine jn1_of (P := fun (h_34 : Hp) => G l D X 14 (WX2 ad cy 24 4 b0 b1) 0 0 (h_34, r0, r1) 183 [(0, .ref (ad 0)), (1, .int x1), (2, .ref b0), (3, .ref b1), (4, .int (r1 (0 : Int32).toNatClampNeg))] []) E ?_ ?_
              · intro h_34 E
                show G l D X 14 (WX2 ad cy 24 4 b0 b1) 0 0 (h_34, r0, r1) 183 [(0, .ref (ad 0)), (1, .int x1), (2, .ref b0), (3, .ref b1), (4, .int (r1 (0 : Int32).toNatClampNeg))] []
                refine g_iconst (pc' := 184) O ⟨dL_faults_183, rfl⟩ (v := (1 : Int32)) rfl ?_
                refine g_goto (pc' := 187) O ⟨dL_faults_184, rfl⟩ (tgt := 188) (by decide) ?_
                exact hk188 _ _ E
              · intro k183 hk183 E
                refine g_icmp_gt (pc' := 163) O ⟨dL_faults_160, rfl⟩ E (tgt := 183) (by decide) (fun E => ?_) (fun E => ?_)
                · refine g_sub (lv' := [(0, .ref (ad 0)), (1, .int x1), (2, .ref b0), (3, .ref b1), (4, .int (r1 (0 : Int32).toNatClampNeg))]) [0, 1, 2, 3, 4] rfl ?_
                  exact hk183 _ E
                · refine g_aload_n (pc' := 164) O ⟨dL_faults_163, rfl⟩ (q := 3) rfl rfl ?_
                  refine g_iconst (pc' := 165) O ⟨dL_faults_164, rfl⟩ (v := (1 : Int32)) rfl ?_
                  refine g_iald (pc' := 166) O ⟨dL_faults_165, rfl⟩ zX2_1 E (fun E => ?_)
                  refine g_bipush (pc' := 168) O ⟨dL_faults_166, rfl⟩ (v := (6 : Int32)) rfl ?_
                  refine g_icmp_gt (pc' := 171) O ⟨dL_faults_168, rfl⟩ E (tgt := 183) (by decide) (fun E => ?_) (fun E => ?_)
                  · refine g_sub (lv' := [(0, .ref (ad 0)), (1, .int x1), (2, .ref b0), (3, .ref b1), (4, .int (r1 (0 : Int32).toNatClampNeg))]) [0, 1, 2, 3, 4] rfl ?_
                    exact hk183 _ E
                  · refine g_aload_n (pc' := 172) O ⟨dL_faults_171, rfl⟩ (q := 0) rfl rfl ?_
                    obtain ⟨r_35, c_36, E⟩ := bd_of E
                    refine g_Ui (pc' := 175) O ⟨dL_faults_172, rfl⟩ (y := yX10_tests) (As := []) (st := []) (put := (fun g => (g, r0, r1))) sub_X2_X (t_X10_tests l D ad cy (h := r_32.2) c_36) kw_839 kw_25 kw_836 kw_837 kw_838 rfl zX2_x hd_X10_tests ⟨Nat.le_of_ble_eq_true rfl, Nat.le_of_ble_eq_true rfl⟩ ⟨Nat.le_of_ble_eq_true rfl, Nat.le_of_ble_eq_true rfl⟩ rfl (Nat.le_of_ble_eq_true rfl) ?_
                    show G l D X 14 (WX2 ad cy 24 4 b0 b1) 0 0 (r_35.2, r0, r1) 175 [(0, .ref (ad 0)), (1, .int x1), (2, .ref b0), (3, .ref b1), (4, .int (r1 (0 : Int32).toNatClampNeg)), (5, .long y5_1), (7, .int x7_2), (8, .int x8_3)] [.int r_35.1]
                    refine g_aload_n (pc' := 176) O ⟨dL_faults_175, rfl⟩ (q := 2) rfl rfl ?_
                    refine g_aload_n (pc' := 177) O ⟨dL_faults_176, rfl⟩ (q := 3) rfl rfl ?_
                    obtain ⟨r_37, c_38, E⟩ := bd_of E
                    refine g_MSi (pc' := 180) O hN ⟨dL_faults_177, rfl⟩ (y := yL_tests) (As := [.ref b0, .ref b1]) (st := [.int r_35.1]) (put := (fun g => (r_35.2, g.1, g.2))) sub_X2_A0_1 (t_L_tests l D cy hfl b0 b1 c_38) kw_855 kw_24 kw_853 kw_854 hd_L_tests ⟨Nat.le_of_ble_eq_true rfl, Nat.le_of_ble_eq_true rfl⟩ ⟨Nat.le_of_ble_eq_true rfl, Nat.le_of_ble_eq_true rfl⟩ rfl (Nat.le_of_ble_eq_true rfl) ?_
                    show G l D X 14 (WX2 ad cy 24 4 b0 b1) 0 0 (r_35.2, r0, r1) 180 [(0, .ref (ad 0)), (1, .int x1), (2, .ref b0), (3, .ref b1), (4, .int (r1 (0 : Int32).toNatClampNeg)), (5, .long y5_1), (7, .int x7_2), (8, .int x8_3)] [.int r_37, .int r_35.1]
                    refine g_icmp_ne (pc' := 183) O ⟨dL_faults_180, rfl⟩ E (tgt := 187) (by decide) (fun E => ?_) (fun E => ?_)
                    · refine g_sub (lv' := [(0, .ref (ad 0)), (1, .int x1), (2, .ref b0), (3, .ref b1), (4, .int (r1 (0 : Int32).toNatClampNeg))]) [0, 1, 2, 3, 4] rfl ?_
                      exact hk187 _ E
                    · refine g_sub (lv' := [(0, .ref (ad 0)), (1, .int x1), (2, .ref b0), (3, .ref b1), (4, .int (r1 (0 : Int32).toNatClampNeg))]) [0, 1, 2, 3, 4] rfl ?_
                      exact hk183 _ E
    · intro k137 hk137 E
      refine g_sub (lv' := [(0, .ref (ad 0)), (1, .int x1), (2, .ref b0), (3, .ref b1), (4, .int (r1 (0 : Int32).toNatClampNeg)), (5, .long y5_1), (7, .int x7_2), (8, .int (1 : Int32)), (9, .int (0 : Int32))]) [1, 2, 3, 4, 5, 6, 7, 8, 0] rfl ?_
      refine fx2_of (P := fun (x8_39 : Int32) (x9_40 : Int32) => G l D X 14 (WX2 ad cy 24 4 b0 b1) 0 0 (h, r0, r1) 72 [(0, .ref (ad 0)), (1, .int x1), (2, .ref b0), (3, .ref b1), (4, .int (r1 (0 : Int32).toNatClampNeg)), (5, .long y5_1), (7, .int x7_2), (8, .int x8_39), (9, .int x9_40)] []) ?_ _ _ _ E
      intro self ih72 x8_39 x9_40 E
      show G l D X 14 (WX2 ad cy 24 4 b0 b1) 0 0 (h, r0, r1) 72 [(0, .ref (ad 0)), (1, .int x1), (2, .ref b0), (3, .ref b1), (4, .int (r1 (0 : Int32).toNatClampNeg)), (5, .long y5_1), (7, .int x7_2), (8, .int x8_39), (9, .int x9_40)] []
      unfold L_L_faults_72 at E
      refine g_iload (pc' := 74) O ⟨dL_faults_72, rfl⟩ (q := 8) rfl ?_
      refine g_iconst (pc' := 75) O ⟨dL_faults_74, rfl⟩ (v := (1 : Int32)) rfl ?_
      refine g_iload (pc' := 77) O ⟨dL_faults_75, rfl⟩ (q := 4) rfl ?_
      refine g_ishl (pc' := 78) O ⟨dL_faults_77, rfl⟩ ?_
      refine g_icmp_ge (pc' := 81) O ⟨dL_faults_78, rfl⟩ E (tgt := 137) (by decide) (fun E => ?_) (fun E => ?_)
      · refine g_sub (lv' := [(0, .ref (ad 0)), (1, .int x1), (2, .ref b0), (3, .ref b1), (4, .int (r1 (0 : Int32).toNatClampNeg)), (5, .long y5_1), (7, .int x7_2), (8, .int x8_39)]) [0, 1, 2, 3, 4, 5, 6, 7] rfl ?_
        exact hk137 _ E
      · refine g_iconst (pc' := 82) O ⟨dL_faults_81, rfl⟩ (v := (-1 : Int32)) rfl ?_
        refine g_istore (pc' := 84) O ⟨dL_faults_82, rfl⟩ (lv' := [(10, .int (-1 : Int32)), (0, .ref (ad 0)), (1, .int x1), (2, .ref b0), (3, .ref b1), (4, .int (r1 (0 : Int32).toNatClampNeg)), (5, .long y5_1), (7, .int x7_2), (8, .int x8_39), (9, .int x9_40)]) (by decide) rfl ?_
        refine jn1_of (P := fun (x8_41 : Int32) => G l D X 14 (WX2 ad cy 24 4 b0 b1) 0 0 (h, r0, r1) 131 [(0, .ref (ad 0)), (1, .int x1), (2, .ref b0), (3, .ref b1), (4, .int (r1 (0 : Int32).toNatClampNeg)), (5, .long y5_1), (7, .int x7_2), (8, .int x8_41), (9, .int x9_40)] []) E ?_ ?_
        · intro x8_41 E
          show G l D X 14 (WX2 ad cy 24 4 b0 b1) 0 0 (h, r0, r1) 131 [(0, .ref (ad 0)), (1, .int x1), (2, .ref b0), (3, .ref b1), (4, .int (r1 (0 : Int32).toNatClampNeg)), (5, .long y5_1), (7, .int x7_2), (8, .int x8_41), (9, .int x9_40)] []
          refine g_iinc (pc' := 134) O ⟨dL_faults_131, rfl⟩ (q := 8) (v := x9_40 + (1 : Int32)) (lv' := [(9, .int (x9_40 + (1 : Int32))), (0, .ref (ad 0)), (1, .int x1), (2, .ref b0), (3, .ref b1), (4, .int (r1 (0 : Int32).toNatClampNeg)), (5, .long y5_1), (7, .int x7_2), (8, .int x8_41)]) rfl rfl (by decide) rfl ?_
          refine g_goto (pc' := 137) O ⟨dL_faults_134, rfl⟩ (tgt := 72) (by decide) ?_
          refine g_sub (lv' := [(0, .ref (ad 0)), (1, .int x1), (2, .ref b0), (3, .ref b1), (4, .int (r1 (0 : Int32).toNatClampNeg)), (5, .long y5_1), (7, .int x7_2), (8, .int x8_41), (9, .int (x9_40 + (1 : Int32)))]) [1, 2, 3, 4, 5, 6, 7, 8, 0] rfl ?_
          exact ih72 _ _ E
        · intro k131 hk131 E
          refine g_sub (lv' := [(0, .ref (ad 0)), (1, .int x1), (2, .ref b0), (3, .ref b1), (4, .int (r1 (0 : Int32).toNatClampNeg)), (5, .long y5_1), (7, .int x7_2), (8, .int x8_39), (9, .int x9_40), (10, .int (-1 : Int32))]) [1, 2, 3, 4, 5, 6, 7, 8, 9, 0] rfl ?_
          refine fx2_of (P := fun (x8_42 : Int32) (x10_43 : Int32) => G l D X 14 (WX2 ad cy 24 4 b0 b1) 0 0 (h, r0, r1) 84 [(0, .ref (ad 0)), (1, .int x1), (2, .ref b0), (3, .ref b1), (4, .int (r1 (0 : Int32).toNatClampNeg)), (5, .long y5_1), (7, .int x7_2), (8, .int x8_42), (9, .int x9_40), (10, .int x10_43)] []) ?_ _ _ _ E
          intro self ih84 x8_42 x10_43 E
          show G l D X 14 (WX2 ad cy 24 4 b0 b1) 0 0 (h, r0, r1) 84 [(0, .ref (ad 0)), (1, .int x1), (2, .ref b0), (3, .ref b1), (4, .int (r1 (0 : Int32).toNatClampNeg)), (5, .long y5_1), (7, .int x7_2), (8, .int x8_42), (9, .int x9_40), (10, .int x10_43)] []
          unfold L_L_faults_84 at E
          refine g_iload (pc' := 86) O ⟨dL_faults_84, rfl⟩ (q := 9) rfl ?_
          refine g_aload_n (pc' := 87) O ⟨dL_faults_86, rfl⟩ (q := 3) rfl rfl ?_
          refine g_iconst (pc' := 88) O ⟨dL_faults_87, rfl⟩ (v := (1 : Int32)) rfl ?_
          refine g_iald (pc' := 89) O ⟨dL_faults_88, rfl⟩ zX2_1 E (fun E => ?_)
          refine g_icmp_ge (pc' := 92) O ⟨dL_faults_89, rfl⟩ E (tgt := 131) (by decide) (fun E => ?_) (fun E => ?_)
          · refine g_sub (lv' := [(0, .ref (ad 0)), (1, .int x1), (2, .ref b0), (3, .ref b1), (4, .int (r1 (0 : Int32).toNatClampNeg)), (5, .long y5_1), (7, .int x7_2), (8, .int x8_42), (9, .int x9_40)]) [0, 1, 2, 3, 4, 5, 6, 7, 8] rfl ?_
            exact hk131 _ E
          · refine g_iload (pc' := 94) O ⟨dL_faults_92, rfl⟩ (q := 7) rfl ?_
            refine g_if_eq (pc' := 97) O ⟨dL_faults_94, rfl⟩ E (tgt := 122) (by decide) (fun E => ?_) (fun E => ?_)
            · refine g_iconst (pc' := 123) O ⟨dL_faults_122, rfl⟩ (v := (0 : Int32)) rfl ?_
              refine g_istore (pc' := 125) O ⟨dL_faults_123, rfl⟩ (lv' := [(8, .int (0 : Int32)), (0, .ref (ad 0)), (1, .int x1), (2, .ref b0), (3, .ref b1), (4, .int (r1 (0 : Int32).toNatClampNeg)), (5, .long y5_1), (7, .int x7_2), (9, .int x9_40), (10, .int x10_43)]) (by decide) rfl ?_
              refine g_iinc (pc' := 128) O ⟨dL_faults_125, rfl⟩ (q := 9) (v := x10_43 + (1 : Int32)) (lv' := [(10, .int (x10_43 + (1 : Int32))), (8, .int (0 : Int32)), (0, .ref (ad 0)), (1, .int x1), (2, .ref b0), (3, .ref b1), (4, .int (r1 (0 : Int32).toNatClampNeg)), (5, .long y5_1), (7, .int x7_2), (9, .int x9_40)]) rfl rfl (by decide) rfl ?_
              refine g_goto (pc' := 131) O ⟨dL_faults_128, rfl⟩ (tgt := 84) (by decide) ?_
              refine g_sub (lv' := [(0, .ref (ad 0)), (1, .int x1), (2, .ref b0), (3, .ref b1), (4, .int (r1 (0 : Int32).toNatClampNeg)), (5, .long y5_1), (7, .int x7_2), (8, .int (0 : Int32)), (9, .int x9_40), (10, .int (x10_43 + (1 : Int32)))]) [2, 3, 4, 5, 6, 7, 8, 1, 9, 0] rfl ?_
              exact ih84 _ _ E
            · refine g_iload (pc' := 99) O ⟨dL_faults_97, rfl⟩ (q := 8) rfl ?_
              refine g_aload_n (pc' := 100) O ⟨dL_faults_99, rfl⟩ (q := 3) rfl rfl ?_
              refine g_iconst (pc' := 101) O ⟨dL_faults_100, rfl⟩ (v := (1 : Int32)) rfl ?_
              refine g_iald (pc' := 102) O ⟨dL_faults_101, rfl⟩ zX2_1 E (fun E => ?_)
              refine g_iload (pc' := 104) O ⟨dL_faults_102, rfl⟩ (q := 9) rfl ?_
              refine g_iconst (pc' := 105) O ⟨dL_faults_104, rfl⟩ (v := (0 : Int32)) rfl ?_
              refine g_aload_n (pc' := 106) O ⟨dL_faults_105, rfl⟩ (q := 2) rfl rfl ?_
              obtain ⟨r_44, c_45, E⟩ := bd_of E
              refine g_MSi (pc' := 109) O hN ⟨dL_faults_106, rfl⟩ (y := yL_out) (As := [.int x9_40, .int (r1 (1 : Int32).toNatClampNeg), .int x10_43, .int (0 : Int32), .ref b0]) (st := []) (put := (fun g => (h, g, r1))) sub_X2_A0 (t_L_out l D cy hfl b0 c_45) kw_565 kw_24 kw_563 kw_564 hd_L_out ⟨Nat.le_of_ble_eq_true rfl, Nat.le_of_ble_eq_true rfl⟩ ⟨Nat.le_of_ble_eq_true rfl, Nat.le_of_ble_eq_true rfl⟩ rfl (Nat.le_of_ble_eq_true rfl) ?_
              show G l D X 14 (WX2 ad cy 24 4 b0 b1) 0 0 (h, r0, r1) 109 [(0, .ref (ad 0)), (1, .int x1), (2, .ref b0), (3, .ref b1), (4, .int (r1 (0 : Int32).toNatClampNeg)), (5, .long y5_1), (7, .int x7_2), (8, .int x8_42), (9, .int x9_40), (10, .int x10_43)] [.int r_44]
              refine g_iconst (pc' := 110) O ⟨dL_faults_109, rfl⟩ (v := (0 : Int32)) rfl ?_
              refine g_iload (pc' := 112) O ⟨dL_faults_110, rfl⟩ (q := 4) rfl ?_
              obtain ⟨r_46, c_47, E⟩ := bd_of E
              refine g_MSi (pc' := 115) O hN ⟨dL_faults_112, rfl⟩ (y := yL_upright) (As := [.int r_44, .int (0 : Int32), .int (r1 (0 : Int32).toNatClampNeg)]) (st := []) (put := (fun g => (h, r0, r1))) sub_X2_A (t_L_upright l D cy hfl c_47) kw_717 kw_24 kw_715 kw_716 hd_L_upright ⟨Nat.le_of_ble_eq_true rfl, Nat.le_of_ble_eq_true rfl⟩ ⟨Nat.le_of_ble_eq_true rfl, Nat.le_of_ble_eq_true rfl⟩ rfl (Nat.le_of_ble_eq_true rfl) ?_
              show G l D X 14 (WX2 ad cy 24 4 b0 b1) 0 0 (h, r0, r1) 115 [(0, .ref (ad 0)), (1, .int x1), (2, .ref b0), (3, .ref b1), (4, .int (r1 (0 : Int32).toNatClampNeg)), (5, .long y5_1), (7, .int x7_2), (8, .int x8_42), (9, .int x9_40), (10, .int x10_43)] [.int r_46]
              refine g_if_eq (pc' := 118) O ⟨dL_faults_115, rfl⟩ E (tgt := 122) (by decide) (fun E => ?_) (fun E => ?_)
              · refine g_iconst (pc' := 123) O ⟨dL_faults_122, rfl⟩ (v := (0 : Int32)) rfl ?_
                refine g_istore (pc' := 125) O ⟨dL_faults_123, rfl⟩ (lv' := [(8, .int (0 : Int32)), (0, .ref (ad 0)), (1, .int x1), (2, .ref b0), (3, .ref b1), (4, .int (r1 (0 : Int32).toNatClampNeg)), (5, .long y5_1), (7, .int x7_2), (9, .int x9_40), (10, .int x10_43)]) (by decide) rfl ?_
                refine g_iinc (pc' := 128) O ⟨dL_faults_125, rfl⟩ (q := 9) (v := x10_43 + (1 : Int32)) (lv' := [(10, .int (x10_43 + (1 : Int32))), (8, .int (0 : Int32)), (0, .ref (ad 0)), (1, .int x1), (2, .ref b0), (3, .ref b1), (4, .int (r1 (0 : Int32).toNatClampNeg)), (5, .long y5_1), (7, .int x7_2), (9, .int x9_40)]) rfl rfl (by decide) rfl ?_
                refine g_goto (pc' := 131) O ⟨dL_faults_128, rfl⟩ (tgt := 84) (by decide) ?_
                refine g_sub (lv' := [(0, .ref (ad 0)), (1, .int x1), (2, .ref b0), (3, .ref b1), (4, .int (r1 (0 : Int32).toNatClampNeg)), (5, .long y5_1), (7, .int x7_2), (8, .int (0 : Int32)), (9, .int x9_40), (10, .int (x10_43 + (1 : Int32)))]) [2, 3, 4, 5, 6, 7, 8, 1, 9, 0] rfl ?_
                exact ih84 _ _ E
              · refine g_iconst (pc' := 119) O ⟨dL_faults_118, rfl⟩ (v := (1 : Int32)) rfl ?_
                refine g_goto (pc' := 122) O ⟨dL_faults_119, rfl⟩ (tgt := 123) (by decide) ?_
                refine g_istore (pc' := 125) O ⟨dL_faults_123, rfl⟩ (lv' := [(8, .int (1 : Int32)), (0, .ref (ad 0)), (1, .int x1), (2, .ref b0), (3, .ref b1), (4, .int (r1 (0 : Int32).toNatClampNeg)), (5, .long y5_1), (7, .int x7_2), (9, .int x9_40), (10, .int x10_43)]) (by decide) rfl ?_
                refine g_iinc (pc' := 128) O ⟨dL_faults_125, rfl⟩ (q := 9) (v := x10_43 + (1 : Int32)) (lv' := [(10, .int (x10_43 + (1 : Int32))), (8, .int (1 : Int32)), (0, .ref (ad 0)), (1, .int x1), (2, .ref b0), (3, .ref b1), (4, .int (r1 (0 : Int32).toNatClampNeg)), (5, .long y5_1), (7, .int x7_2), (9, .int x9_40)]) rfl rfl (by decide) rfl ?_
                refine g_goto (pc' := 131) O ⟨dL_faults_128, rfl⟩ (tgt := 84) (by decide) ?_
                refine g_sub (lv' := [(0, .ref (ad 0)), (1, .int x1), (2, .ref b0), (3, .ref b1), (4, .int (r1 (0 : Int32).toNatClampNeg)), (5, .long y5_1), (7, .int x7_2), (8, .int (1 : Int32)), (9, .int x9_40), (10, .int (x10_43 + (1 : Int32)))]) [2, 3, 4, 5, 6, 7, 8, 1, 9, 0] rfl ?_
                exact ih84 _ _ E
  · intro k69 hk69 E
    refine g_sub (lv' := [(0, .ref (ad 0)), (1, .int x1), (2, .ref b0), (3, .ref b1), (4, .int (r1 (0 : Int32).toNatClampNeg)), (5, .long y5_1), (7, .int (0 : Int32)), (8, .int (1 : Int32)), (9, .int (0 : Int32))]) [5, 6, 7, 8, 4, 3, 2, 1, 0] rfl ?_
    refine fx2_of (P := fun (x7_48 : Int32) (x9_49 : Int32) => G l D X 14 (WX2 ad cy 24 4 b0 b1) 0 0 (h, r0, r1) 22 [(0, .ref (ad 0)), (1, .int x1), (2, .ref b0), (3, .ref b1), (4, .int (r1 (0 : Int32).toNatClampNeg)), (5, .long y5_1), (7, .int x7_48), (8, .int (1 : Int32)), (9, .int x9_49)] []) ?_ _ _ _ E
    intro self ih22 x7_48 x9_49 E
    show G l D X 14 (WX2 ad cy 24 4 b0 b1) 0 0 (h, r0, r1) 22 [(0, .ref (ad 0)), (1, .int x1), (2, .ref b0), (3, .ref b1), (4, .int (r1 (0 : Int32).toNatClampNeg)), (5, .long y5_1), (7, .int x7_48), (8, .int (1 : Int32)), (9, .int x9_49)] []
    unfold L_L_faults_22 at E
    refine g_iload (pc' := 24) O ⟨dL_faults_22, rfl⟩ (q := 8) rfl ?_
    refine g_iconst (pc' := 25) O ⟨dL_faults_24, rfl⟩ (v := (3 : Int32)) rfl ?_
    refine g_aload_n (pc' := 26) O ⟨dL_faults_25, rfl⟩ (q := 3) rfl rfl ?_
    refine g_iconst (pc' := 27) O ⟨dL_faults_26, rfl⟩ (v := (1 : Int32)) rfl ?_
    refine g_iald (pc' := 28) O ⟨dL_faults_27, rfl⟩ zX2_1 E (fun E => ?_)
    refine g_imul (pc' := 29) O ⟨dL_faults_28, rfl⟩ ?_
    refine g_icmp_ge (pc' := 32) O ⟨dL_faults_29, rfl⟩ E (tgt := 69) (by decide) (fun E => ?_) (fun E => ?_)
    · refine g_sub (lv' := [(0, .ref (ad 0)), (1, .int x1), (2, .ref b0), (3, .ref b1), (4, .int (r1 (0 : Int32).toNatClampNeg)), (5, .long y5_1), (7, .int x7_48), (8, .int (1 : Int32))]) [0, 1, 2, 3, 4, 5, 6, 7] rfl ?_
      exact hk69 _ E
    · refine g_iload (pc' := 34) O ⟨dL_faults_32, rfl⟩ (q := 6) rfl ?_
      refine g_iload (pc' := 36) O ⟨dL_faults_34, rfl⟩ (q := 8) rfl ?_
      refine g_iconst (pc' := 37) O ⟨dL_faults_36, rfl⟩ (v := (3 : Int32)) rfl ?_
      refine g_idiv (pc' := 38) O ⟨dL_faults_37, rfl⟩ (by decide) ?_
      refine g_iload (pc' := 40) O ⟨dL_faults_38, rfl⟩ (q := 8) rfl ?_
      refine g_iconst (pc' := 41) O ⟨dL_faults_40, rfl⟩ (v := (3 : Int32)) rfl ?_
      refine g_irem (pc' := 42) O ⟨dL_faults_41, rfl⟩ (by decide) ?_
      refine g_aload_n (pc' := 43) O ⟨dL_faults_42, rfl⟩ (q := 2) rfl rfl ?_
      refine g_aload_n (pc' := 44) O ⟨dL_faults_43, rfl⟩ (q := 3) rfl rfl ?_
      obtain ⟨r_50, c_51, E⟩ := bd_of E
      refine g_MSl (pc' := 47) O hN ⟨dL_faults_44, rfl⟩ (y := yL_telling) (As := [.int (x9_49 / (3 : Int32)), .int (irm x9_49 (3 : Int32)), .ref b0, .ref b1]) (st := [.int x7_48]) (put := (fun g => (h, g.1, g.2))) sub_X2_A0_1 (t_L_telling l D cy hfl b0 b1 c_51) kw_809 kw_24 kw_807 kw_808 hd_L_telling ⟨Nat.le_of_ble_eq_true rfl, Nat.le_of_ble_eq_true rfl⟩ ⟨Nat.le_of_ble_eq_true rfl, Nat.le_of_ble_eq_true rfl⟩ rfl (Nat.le_of_ble_eq_true rfl) ?_
      show G l D X 14 (WX2 ad cy 24 4 b0 b1) 0 0 (h, r0, r1) 47 [(0, .ref (ad 0)), (1, .int x1), (2, .ref b0), (3, .ref b1), (4, .int (r1 (0 : Int32).toNatClampNeg)), (5, .long y5_1), (7, .int x7_48), (8, .int (1 : Int32)), (9, .int x9_49)] [.long r_50, .int x7_48]
      refine g_lload (pc' := 49) O ⟨dL_faults_47, rfl⟩ (q := 5) rfl ?_
      refine g_land (pc' := 50) O ⟨dL_faults_49, rfl⟩ ?_
      refine g_lconst (pc' := 51) O ⟨dL_faults_50, rfl⟩ (v := (0 : Int64)) rfl ?_
      refine g_lcmp (pc' := 52) O ⟨dL_faults_51, rfl⟩ ?_
      refine g_if_ne (pc' := 55) O ⟨dL_faults_52, rfl⟩ E (tgt := 59) (by decide) (fun E => ?_) (fun E => ?_)
      · refine g_iconst (pc' := 60) O ⟨dL_faults_59, rfl⟩ (v := (0 : Int32)) rfl ?_
        refine g_iadd (pc' := 61) O ⟨dL_faults_60, rfl⟩ ?_
        refine g_nm E (fun y7_52 E => ?_)
        refine g_istore (pc' := 63) O ⟨dL_faults_61, rfl⟩ (lv' := [(7, .int y7_52), (0, .ref (ad 0)), (1, .int x1), (2, .ref b0), (3, .ref b1), (4, .int (r1 (0 : Int32).toNatClampNeg)), (5, .long y5_1), (8, .int (1 : Int32)), (9, .int x9_49)]) (by decide) rfl ?_
        refine g_iinc (pc' := 66) O ⟨dL_faults_63, rfl⟩ (q := 8) (v := x9_49 + (1 : Int32)) (lv' := [(9, .int (x9_49 + (1 : Int32))), (7, .int y7_52), (0, .ref (ad 0)), (1, .int x1), (2, .ref b0), (3, .ref b1), (4, .int (r1 (0 : Int32).toNatClampNeg)), (5, .long y5_1), (8, .int (1 : Int32))]) rfl rfl (by decide) rfl ?_
        refine g_goto (pc' := 69) O ⟨dL_faults_66, rfl⟩ (tgt := 22) (by decide) ?_
        refine g_sub (lv' := [(0, .ref (ad 0)), (1, .int x1), (2, .ref b0), (3, .ref b1), (4, .int (r1 (0 : Int32).toNatClampNeg)), (5, .long y5_1), (7, .int y7_52), (8, .int (1 : Int32)), (9, .int (x9_49 + (1 : Int32)))]) [2, 3, 4, 5, 6, 7, 1, 8, 0] rfl ?_
        exact ih22 _ _ E
      · refine g_iconst (pc' := 56) O ⟨dL_faults_55, rfl⟩ (v := (1 : Int32)) rfl ?_
        refine g_goto (pc' := 59) O ⟨dL_faults_56, rfl⟩ (tgt := 60) (by decide) ?_
        refine g_iadd (pc' := 61) O ⟨dL_faults_60, rfl⟩ ?_
        refine g_nm E (fun y7_53 E => ?_)
        refine g_istore (pc' := 63) O ⟨dL_faults_61, rfl⟩ (lv' := [(7, .int y7_53), (0, .ref (ad 0)), (1, .int x1), (2, .ref b0), (3, .ref b1), (4, .int (r1 (0 : Int32).toNatClampNeg)), (5, .long y5_1), (8, .int (1 : Int32)), (9, .int x9_49)]) (by decide) rfl ?_
        refine g_iinc (pc' := 66) O ⟨dL_faults_63, rfl⟩ (q := 8) (v := x9_49 + (1 : Int32)) (lv' := [(9, .int (x9_49 + (1 : Int32))), (7, .int y7_53), (0, .ref (ad 0)), (1, .int x1), (2, .ref b0), (3, .ref b1), (4, .int (r1 (0 : Int32).toNatClampNeg)), (5, .long y5_1), (8, .int (1 : Int32))]) rfl rfl (by decide) rfl ?_
        refine g_goto (pc' := 69) O ⟨dL_faults_66, rfl⟩ (tgt := 22) (by decide) ?_
        refine g_sub (lv' := [(0, .ref (ad 0)), (1, .int x1), (2, .ref b0), (3, .ref b1), (4, .int (r1 (0 : Int32).toNatClampNeg)), (5, .long y5_1), (7, .int y7_53), (8, .int (1 : Int32)), (9, .int (x9_49 + (1 : Int32)))]) [2, 3, 4, 5, 6, 7, 1, 8, 0] rfl ?_
        exact ih22 _ _ E
set_option maxRecDepth 100000 in
set_option maxHeartbeats 4000000 in
theorem t_L_rows (l : Launch) (D : va_G) (ad : Nat → Nat) (cy : Nat → ClassId) (hfl : l.stackTraces = false) (b0 : Nat) (b1 : Nat) (b2 : Nat) {x1 : Int32} {h : Hp} {r0 : Row} {r1 : Row} {r2 : Row} {o : Int32 × Hp} (E : f_L_rows x1 h r0 r1 r2 = some o) : CtMI l D cy (WX3 ad cy 6 24 4 b0 b1 b2) yL_rows cL_rows 21 .boolean 10 194 6 36 [.ref (ad 0), .int x1, .ref b0, .ref b1, .ref b2] (h, r0, r1, r2) o.1 (o.2, r0, r1, r2) := by
  refine sMI (own := RL) rfl rfl (Nat.le_of_ble_eq_true rfl) (fun X O hN hret => ?_)
  show G l D X 21 (WX3 ad cy 6 24 4 b0 b1 b2) 0 0 (h, r0, r1, r2) 0 [(0, .ref (ad 0)), (1, .int x1), (2, .ref b0), (3, .ref b1), (4, .ref b2)] []
  unfold f_L_rows at E
  refine g_aload (pc' := 2) O ⟨dL_rows_0, rfl⟩ (q := 4) rfl ?_
  refine g_iconst (pc' := 3) O ⟨dL_rows_2, rfl⟩ (v := (0 : Int32)) rfl ?_
  refine g_iald (pc' := 4) O ⟨dL_rows_3, rfl⟩ zX3_2 E (fun E => ?_)
  refine g_istore (pc' := 6) O ⟨dL_rows_4, rfl⟩ (lv' := [(5, .int (r2 (0 : Int32).toNatClampNeg)), (0, .ref (ad 0)), (1, .int x1), (2, .ref b0), (3, .ref b1), (4, .ref b2)]) (by decide) rfl ?_
  refine g_bipush (pc' := 8) O ⟨dL_rows_6, rfl⟩ (v := (6 : Int32)) rfl ?_
  refine g_newr (pc' := 10) O ⟨dL_rows_8, rfl⟩ (N' := 6) (wf2 := fun b3 => (WX4 ad cy 6 24 4 6 b0 b1 b2 b3)) (h2 := (h, r0, r1, r2, (fun _ => 0))) kw_94 rfl (by decide) (by decide) ⟨Nat.le_of_ble_eq_true rfl, Nat.le_of_ble_eq_true rfl⟩ (fun _ => rfl) (fun b3 => ?_)
  show G l D X 21 (WX4 ad cy 6 24 4 6 b0 b1 b2 b3) 1 6 (h, r0, r1, r2, (fun _ => 0)) 10 [(5, .int (r2 (0 : Int32).toNatClampNeg)), (0, .ref (ad 0)), (1, .int x1), (2, .ref b0), (3, .ref b1), (4, .ref b2)] [.ref b3]
  refine g_astore (pc' := 12) O ⟨dL_rows_10, rfl⟩ (lv' := [(6, .ref b3), (5, .int (r2 (0 : Int32).toNatClampNeg)), (0, .ref (ad 0)), (1, .int x1), (2, .ref b0), (3, .ref b1), (4, .ref b2)]) (by decide) rfl ?_
  refine g_bipush (pc' := 14) O ⟨dL_rows_12, rfl⟩ (v := (6 : Int32)) rfl ?_
  refine g_newr (pc' := 16) O ⟨dL_rows_14, rfl⟩ (N' := 6) (wf2 := fun b4 => (WX5 ad cy 6 24 4 6 6 b0 b1 b2 b3 b4)) (h2 := (h, r0, r1, r2, (fun _ => 0), (fun _ => 0))) kw_94 rfl (by decide) (by decide) ⟨Nat.le_of_ble_eq_true rfl, Nat.le_of_ble_eq_true rfl⟩ (fun _ => rfl) (fun b4 => ?_)
  show G l D X 21 (WX5 ad cy 6 24 4 6 6 b0 b1 b2 b3 b4) 2 12 (h, r0, r1, r2, (fun _ => 0), (fun _ => 0)) 16 [(6, .ref b3), (5, .int (r2 (0 : Int32).toNatClampNeg)), (0, .ref (ad 0)), (1, .int x1), (2, .ref b0), (3, .ref b1), (4, .ref b2)] [.ref b4]
  refine g_astore (pc' := 18) O ⟨dL_rows_16, rfl⟩ (lv' := [(7, .ref b4), (6, .ref b3), (5, .int (r2 (0 : Int32).toNatClampNeg)), (0, .ref (ad 0)), (1, .int x1), (2, .ref b0), (3, .ref b1), (4, .ref b2)]) (by decide) rfl ?_
  refine g_lconst (pc' := 19) O ⟨dL_rows_18, rfl⟩ (v := (0 : Int64)) rfl ?_
  refine g_lstore (pc' := 21) O ⟨dL_rows_19, rfl⟩ (lv' := [(8, .long (0 : Int64)), (7, .ref b4), (6, .ref b3), (5, .int (r2 (0 : Int32).toNatClampNeg)), (0, .ref (ad 0)), (1, .int x1), (2, .ref b0), (3, .ref b1), (4, .ref b2)]) (by decide) rfl ?_
  refine g_iconst (pc' := 22) O ⟨dL_rows_21, rfl⟩ (v := (0 : Int32)) rfl ?_
  refine g_istore (pc' := 24) O ⟨dL_rows_22, rfl⟩ (lv' := [(10, .int (0 : Int32)), (8, .long (0 : Int64)), (7, .ref b4), (6, .ref b3), (5, .int (r2 (0 : Int32).toNatClampNeg)), (0, .ref (ad 0)), (1, .int x1), (2, .ref b0), (3, .ref b1), (4, .ref b2)]) (by decide) rfl ?_
  refine g_iconst (pc' := 25) O ⟨dL_rows_24, rfl⟩ (v := (-1 : Int32)) rfl ?_
  refine g_istore (pc' := 27) O ⟨dL_rows_25, rfl⟩ (lv' := [(11, .int (-1 : Int32)), (10, .int (0 : Int32)), (8, .long (0 : Int64)), (7, .ref b4), (6, .ref b3), (5, .int (r2 (0 : Int32).toNatClampNeg)), (0, .ref (ad 0)), (1, .int x1), (2, .ref b0), (3, .ref b1), (4, .ref b2)]) (by decide) rfl ?_
  refine g_iload_n (pc' := 28) O ⟨dL_rows_27, rfl⟩ (q := 7) rfl rfl ?_
  refine g_iconst (pc' := 29) O ⟨dL_rows_28, rfl⟩ (v := (3 : Int32)) rfl ?_
  refine g_ishr (pc' := 30) O ⟨dL_rows_29, rfl⟩ ?_
  refine g_bipush (pc' := 32) O ⟨dL_rows_30, rfl⟩ (v := (6 : Int32)) rfl ?_
  obtain ⟨r_1, c_2, E⟩ := bd_of E
  refine g_MSi (pc' := 35) O hN ⟨dL_rows_32, rfl⟩ (y := yL_low) (As := [.int (ishr x1 (3 : Int32)), .int (6 : Int32)]) (st := []) (put := (fun g => (h, r0, r1, r2, (fun _ => 0), (fun _ => 0)))) sub_X5_A (t_L_low l D cy hfl c_2) kw_408 kw_24 kw_406 kw_407 hd_L_low ⟨Nat.le_of_ble_eq_true rfl, Nat.le_of_ble_eq_true rfl⟩ ⟨Nat.le_of_ble_eq_true rfl, Nat.le_of_ble_eq_true rfl⟩ rfl (Nat.le_of_ble_eq_true rfl) ?_
  show G l D X 21 (WX5 ad cy 6 24 4 6 6 b0 b1 b2 b3 b4) 2 12 (h, r0, r1, r2, (fun _ => 0), (fun _ => 0)) 35 [(11, .int (-1 : Int32)), (10, .int (0 : Int32)), (8, .long (0 : Int64)), (7, .ref b4), (6, .ref b3), (5, .int (r2 (0 : Int32).toNatClampNeg)), (0, .ref (ad 0)), (1, .int x1), (2, .ref b0), (3, .ref b1), (4, .ref b2)] [.int r_1]
  refine g_istore (pc' := 37) O ⟨dL_rows_35, rfl⟩ (lv' := [(12, .int r_1), (11, .int (-1 : Int32)), (10, .int (0 : Int32)), (8, .long (0 : Int64)), (7, .ref b4), (6, .ref b3), (5, .int (r2 (0 : Int32).toNatClampNeg)), (0, .ref (ad 0)), (1, .int x1), (2, .ref b0), (3, .ref b1), (4, .ref b2)]) (by decide) rfl ?_
  refine g_iconst (pc' := 38) O ⟨dL_rows_37, rfl⟩ (v := (1 : Int32)) rfl ?_
  refine g_iload_n (pc' := 39) O ⟨dL_rows_38, rfl⟩ (q := 8) rfl rfl ?_
  refine g_iconst (pc' := 40) O ⟨dL_rows_39, rfl⟩ (v := (2 : Int32)) rfl ?_
  refine g_ishr (pc' := 41) O ⟨dL_rows_40, rfl⟩ ?_
  refine g_iload (pc' := 43) O ⟨dL_rows_41, rfl⟩ (q := 6) rfl ?_
  refine g_iconst (pc' := 44) O ⟨dL_rows_43, rfl⟩ (v := (1 : Int32)) rfl ?_
  refine g_isub (pc' := 45) O ⟨dL_rows_44, rfl⟩ ?_
  obtain ⟨r_3, c_4, E⟩ := bd_of E
  refine g_MSi (pc' := 48) O hN ⟨dL_rows_45, rfl⟩ (y := yL_low) (As := [.int (ishr x1 (2 : Int32)), .int ((r2 (0 : Int32).toNatClampNeg) - (1 : Int32))]) (st := [.int (1 : Int32)]) (put := (fun g => (h, r0, r1, r2, (fun _ => 0), (fun _ => 0)))) sub_X5_A (t_L_low l D cy hfl c_4) kw_408 kw_24 kw_406 kw_407 hd_L_low ⟨Nat.le_of_ble_eq_true rfl, Nat.le_of_ble_eq_true rfl⟩ ⟨Nat.le_of_ble_eq_true rfl, Nat.le_of_ble_eq_true rfl⟩ rfl (Nat.le_of_ble_eq_true rfl) ?_
  show G l D X 21 (WX5 ad cy 6 24 4 6 6 b0 b1 b2 b3 b4) 2 12 (h, r0, r1, r2, (fun _ => 0), (fun _ => 0)) 48 [(12, .int r_1), (11, .int (-1 : Int32)), (10, .int (0 : Int32)), (8, .long (0 : Int64)), (7, .ref b4), (6, .ref b3), (5, .int (r2 (0 : Int32).toNatClampNeg)), (0, .ref (ad 0)), (1, .int x1), (2, .ref b0), (3, .ref b1), (4, .ref b2)] [.int r_3, .int (1 : Int32)]
  refine g_iadd (pc' := 49) O ⟨dL_rows_48, rfl⟩ ?_
  refine g_nm E (fun y13_5 E => ?_)
  refine g_istore (pc' := 51) O ⟨dL_rows_49, rfl⟩ (lv' := [(13, .int y13_5), (12, .int r_1), (11, .int (-1 : Int32)), (10, .int (0 : Int32)), (8, .long (0 : Int64)), (7, .ref b4), (6, .ref b3), (5, .int (r2 (0 : Int32).toNatClampNeg)), (0, .ref (ad 0)), (1, .int x1), (2, .ref b0), (3, .ref b1), (4, .ref b2)]) (by decide) rfl ?_
  refine g_iconst (pc' := 52) O ⟨dL_rows_51, rfl⟩ (v := (1 : Int32)) rfl ?_
  refine g_istore (pc' := 54) O ⟨dL_rows_52, rfl⟩ (lv' := [(14, .int (1 : Int32)), (13, .int y13_5), (12, .int r_1), (11, .int (-1 : Int32)), (10, .int (0 : Int32)), (8, .long (0 : Int64)), (7, .ref b4), (6, .ref b3), (5, .int (r2 (0 : Int32).toNatClampNeg)), (0, .ref (ad 0)), (1, .int x1), (2, .ref b0), (3, .ref b1), (4, .ref b2)]) (by decide) rfl ?_
  refine g_iconst (pc' := 55) O ⟨dL_rows_54, rfl⟩ (v := (0 : Int32)) rfl ?_
  refine g_istore (pc' := 57) O ⟨dL_rows_55, rfl⟩ (lv' := [(15, .int (0 : Int32)), (14, .int (1 : Int32)), (13, .int y13_5), (12, .int r_1), (11, .int (-1 : Int32)), (10, .int (0 : Int32)), (8, .long (0 : Int64)), (7, .ref b4), (6, .ref b3), (5, .int (r2 (0 : Int32).toNatClampNeg)), (0, .ref (ad 0)), (1, .int x1), (2, .ref b0), (3, .ref b1), (4, .ref b2)]) (by decide) rfl ?_
  refine jn4_of (P := fun (x8_6 : Int64) (x10_7 : Int32) (x11_8 : Int32) (x14_9 : Int32) => G l D X 21 (WX5 ad cy 6 24 4 6 6 b0 b1 b2 b3 b4) 2 12 (h, r0, r1, r2, (fun _ => 0), (fun _ => 0)) 181 [(0, .ref (ad 0)), (2, .ref b0), (3, .ref b1), (4, .ref b2), (5, .int (r2 (0 : Int32).toNatClampNeg)), (6, .ref b3), (7, .ref b4), (8, .long x8_6), (10, .int x10_7), (11, .int x11_8), (12, .int r_1), (13, .int y13_5), (14, .int x14_9)] []) E ?_ ?_
  · intro x8_6 x10_7 x11_8 x14_9 E
    show G l D X 21 (WX5 ad cy 6 24 4 6 6 b0 b1 b2 b3 b4) 2 12 (h, r0, r1, r2, (fun _ => 0), (fun _ => 0)) 181 [(0, .ref (ad 0)), (2, .ref b0), (3, .ref b1), (4, .ref b2), (5, .int (r2 (0 : Int32).toNatClampNeg)), (6, .ref b3), (7, .ref b4), (8, .long x8_6), (10, .int x10_7), (11, .int x11_8), (12, .int r_1), (13, .int y13_5), (14, .int x14_9)] []
    refine g_iconst (pc' := 182) O ⟨dL_rows_181, rfl⟩ (v := (0 : Int32)) rfl ?_
    refine g_istore (pc' := 184) O ⟨dL_rows_182, rfl⟩ (lv' := [(15, .int (0 : Int32)), (0, .ref (ad 0)), (2, .ref b0), (3, .ref b1), (4, .ref b2), (5, .int (r2 (0 : Int32).toNatClampNeg)), (6, .ref b3), (7, .ref b4), (8, .long x8_6), (10, .int x10_7), (11, .int x11_8), (12, .int r_1), (13, .int y13_5), (14, .int x14_9)]) (by decide) rfl ?_
    refine g_iconst (pc' := 185) O ⟨dL_rows_184, rfl⟩ (v := (0 : Int32)) rfl ?_
    refine g_istore (pc' := 187) O ⟨dL_rows_185, rfl⟩ (lv' := [(16, .int (0 : Int32)), (15, .int (0 : Int32)), (0, .ref (ad 0)), (2, .ref b0), (3, .ref b1), (4, .ref b2), (5, .int (r2 (0 : Int32).toNatClampNeg)), (6, .ref b3), (7, .ref b4), (8, .long x8_6), (10, .int x10_7), (11, .int x11_8), (12, .int r_1), (13, .int y13_5), (14, .int x14_9)]) (by decide) rfl ?_
    refine g_iconst (pc' := 188) O ⟨dL_rows_187, rfl⟩ (v := (1 : Int32)) rfl ?_
    refine g_istore (pc' := 190) O ⟨dL_rows_188, rfl⟩ (lv' := [(17, .int (1 : Int32)), (16, .int (0 : Int32)), (15, .int (0 : Int32)), (0, .ref (ad 0)), (2, .ref b0), (3, .ref b1), (4, .ref b2), (5, .int (r2 (0 : Int32).toNatClampNeg)), (6, .ref b3), (7, .ref b4), (8, .long x8_6), (10, .int x10_7), (11, .int x11_8), (12, .int r_1), (13, .int y13_5), (14, .int x14_9)]) (by decide) rfl ?_
    refine g_iconst (pc' := 191) O ⟨dL_rows_190, rfl⟩ (v := (0 : Int32)) rfl ?_
    refine g_istore (pc' := 193) O ⟨dL_rows_191, rfl⟩ (lv' := [(18, .int (0 : Int32)), (17, .int (1 : Int32)), (16, .int (0 : Int32)), (15, .int (0 : Int32)), (0, .ref (ad 0)), (2, .ref b0), (3, .ref b1), (4, .ref b2), (5, .int (r2 (0 : Int32).toNatClampNeg)), (6, .ref b3), (7, .ref b4), (8, .long x8_6), (10, .int x10_7), (11, .int x11_8), (12, .int r_1), (13, .int y13_5), (14, .int x14_9)]) (by decide) rfl ?_
    refine jn1_of (P := fun (r3_10 : Row) => G l D X 21 (WX5 ad cy 6 24 4 6 6 b0 b1 b2 b3 b4) 2 12 (h, r0, r1, r2, r3_10, (fun _ => 0)) 213 [(0, .ref (ad 0)), (2, .ref b0), (3, .ref b1), (4, .ref b2), (5, .int (r2 (0 : Int32).toNatClampNeg)), (6, .ref b3), (7, .ref b4), (8, .long x8_6), (10, .int x10_7), (11, .int x11_8), (12, .int r_1), (13, .int y13_5), (14, .int x14_9), (15, .int (0 : Int32)), (16, .int (0 : Int32)), (17, .int (1 : Int32))] []) E ?_ ?_
    · intro r3_10 E
      show G l D X 21 (WX5 ad cy 6 24 4 6 6 b0 b1 b2 b3 b4) 2 12 (h, r0, r1, r2, r3_10, (fun _ => 0)) 213 [(0, .ref (ad 0)), (2, .ref b0), (3, .ref b1), (4, .ref b2), (5, .int (r2 (0 : Int32).toNatClampNeg)), (6, .ref b3), (7, .ref b4), (8, .long x8_6), (10, .int x10_7), (11, .int x11_8), (12, .int r_1), (13, .int y13_5), (14, .int x14_9), (15, .int (0 : Int32)), (16, .int (0 : Int32)), (17, .int (1 : Int32))] []
      refine g_iconst (pc' := 214) O ⟨dL_rows_213, rfl⟩ (v := (1 : Int32)) rfl ?_
      refine g_istore (pc' := 216) O ⟨dL_rows_214, rfl⟩ (lv' := [(18, .int (1 : Int32)), (0, .ref (ad 0)), (2, .ref b0), (3, .ref b1), (4, .ref b2), (5, .int (r2 (0 : Int32).toNatClampNeg)), (6, .ref b3), (7, .ref b4), (8, .long x8_6), (10, .int x10_7), (11, .int x11_8), (12, .int r_1), (13, .int y13_5), (14, .int x14_9), (15, .int (0 : Int32)), (16, .int (0 : Int32)), (17, .int (1 : Int32))]) (by decide) rfl ?_
      refine jn5_of (P := fun (x15_11 : Int32) (x16_12 : Int32) (x17_13 : Int32) (r3_14 : Row) (r4_15 : Row) => G l D X 21 (WX5 ad cy 6 24 4 6 6 b0 b1 b2 b3 b4) 2 12 (h, r0, r1, r2, r3_14, r4_15) 370 [(0, .ref (ad 0)), (2, .ref b0), (3, .ref b1), (4, .ref b2), (5, .int (r2 (0 : Int32).toNatClampNeg)), (7, .ref b4), (8, .long x8_6), (10, .int x10_7), (11, .int x11_8), (12, .int r_1), (13, .int y13_5), (14, .int x14_9), (15, .int x15_11), (16, .int x16_12), (17, .int x17_13)] []) E ?_ ?_
      · intro x15_11 x16_12 x17_13 r3_14 r4_15 E
        show G l D X 21 (WX5 ad cy 6 24 4 6 6 b0 b1 b2 b3 b4) 2 12 (h, r0, r1, r2, r3_14, r4_15) 370 [(0, .ref (ad 0)), (2, .ref b0), (3, .ref b1), (4, .ref b2), (5, .int (r2 (0 : Int32).toNatClampNeg)), (7, .ref b4), (8, .long x8_6), (10, .int x10_7), (11, .int x11_8), (12, .int r_1), (13, .int y13_5), (14, .int x14_9), (15, .int x15_11), (16, .int x16_12), (17, .int x17_13)] []
        refine g_aload_n (pc' := 371) O ⟨dL_rows_370, rfl⟩ (q := 1) rfl rfl ?_
        refine g_aload (pc' := 373) O ⟨dL_rows_371, rfl⟩ (q := 5) rfl ?_
        refine g_iload (pc' := 375) O ⟨dL_rows_373, rfl⟩ (q := 4) rfl ?_
        refine g_aload_n (pc' := 376) O ⟨dL_rows_375, rfl⟩ (q := 2) rfl rfl ?_
        refine g_aload (pc' := 378) O ⟨dL_rows_376, rfl⟩ (q := 3) rfl ?_
        obtain ⟨r_16, c_17, E⟩ := bd_of E
        refine g_MSv (pc' := 381) O hN ⟨dL_rows_378, rfl⟩ (y := yL_runs) (As := [.ref b0, .ref b4, .int (r2 (0 : Int32).toNatClampNeg), .ref b1, .ref b2]) (st := []) (put := (fun g => (h, g.1, g.2.2.1, g.2.2.2, r3_14, g.2.1))) sub_X5_A0_4_1_2 (t_L_runs l D cy hfl b0 b4 b1 b2 c_17) kw_720 kw_24 kw_718 kw_719 hd_L_runs ⟨Nat.le_of_ble_eq_true rfl, Nat.le_of_ble_eq_true rfl⟩ ⟨Nat.le_of_ble_eq_true rfl, Nat.le_of_ble_eq_true rfl⟩ rfl (Nat.le_of_ble_eq_true rfl) ?_
        show G l D X 21 (WX5 ad cy 6 24 4 6 6 b0 b1 b2 b3 b4) 2 12 (h, r0, r1, r2, r3_14, r_16) 381 [(0, .ref (ad 0)), (2, .ref b0), (3, .ref b1), (4, .ref b2), (5, .int (r2 (0 : Int32).toNatClampNeg)), (7, .ref b4), (8, .long x8_6), (10, .int x10_7), (11, .int x11_8), (12, .int r_1), (13, .int y13_5), (14, .int x14_9), (15, .int x15_11), (16, .int x16_12), (17, .int x17_13)] []
        refine g_aload_n (pc' := 382) O ⟨dL_rows_381, rfl⟩ (q := 0) rfl rfl ?_
        refine g_aload_n (pc' := 383) O ⟨dL_rows_382, rfl⟩ (q := 1) rfl rfl ?_
        refine g_iload (pc' := 385) O ⟨dL_rows_383, rfl⟩ (q := 4) rfl ?_
        obtain ⟨r_18, c_19, E⟩ := bd_of E
        refine g_MSi (pc' := 388) O hN ⟨dL_rows_385, rfl⟩ (y := yL_code) (As := [.ref b0, .int (r2 (0 : Int32).toNatClampNeg)]) (st := [.ref (ad 0)]) (put := (fun g => (h, g, r1, r2, r3_14, r_16))) sub_X5_A0 (t_L_code l D cy hfl b0 c_19) kw_726 kw_24 kw_724 kw_725 hd_L_code ⟨Nat.le_of_ble_eq_true rfl, Nat.le_of_ble_eq_true rfl⟩ ⟨Nat.le_of_ble_eq_true rfl, Nat.le_of_ble_eq_true rfl⟩ rfl (Nat.le_of_ble_eq_true rfl) ?_
        show G l D X 21 (WX5 ad cy 6 24 4 6 6 b0 b1 b2 b3 b4) 2 12 (h, r0, r1, r2, r3_14, r_16) 388 [(0, .ref (ad 0)), (2, .ref b0), (3, .ref b1), (4, .ref b2), (5, .int (r2 (0 : Int32).toNatClampNeg)), (7, .ref b4), (8, .long x8_6), (10, .int x10_7), (11, .int x11_8), (12, .int r_1), (13, .int y13_5), (14, .int x14_9), (15, .int x15_11), (16, .int x16_12), (17, .int x17_13)] [.int r_18, .ref (ad 0)]
        obtain ⟨z_23, c_21, e_22, E⟩ := hcatch_of E
        refine g_UXi (pc' := 391) O ⟨dL_rows_388, rfl⟩ (y := yX10_run) (As := [.int r_18]) (st := []) (put := (fun g => (g, r0, r1, r2, r3_14, r_16))) sub_X5_X (t_X10_run l D ad cy hfl (h := h) c_21) kw_522 kw_25 kw_519 kw_520 kw_521 rfl zX5_x hd_X10_run ⟨Nat.le_of_ble_eq_true rfl, Nat.le_of_ble_eq_true rfl⟩ ⟨Nat.le_of_ble_eq_true rfl, Nat.le_of_ble_eq_true rfl⟩ rfl (Nat.le_of_ble_eq_true rfl) (fun E1 c q => (by cases e_22 E1 c q)) (fun r_20 q => ?_)
        replace E := E r_20 q
        show G l D X 21 (WX5 ad cy 6 24 4 6 6 b0 b1 b2 b3 b4) 3 18 (r_20.2, r0, r1, r2, r3_14, r_16) 391 [(0, .ref (ad 0)), (2, .ref b0), (3, .ref b1), (4, .ref b2), (5, .int (r2 (0 : Int32).toNatClampNeg)), (7, .ref b4), (8, .long x8_6), (10, .int x10_7), (11, .int x11_8), (12, .int r_1), (13, .int y13_5), (14, .int x14_9), (15, .int x15_11), (16, .int x16_12), (17, .int x17_13)] [.int r_20.1]
        refine g_aload (pc' := 393) O ⟨dL_rows_391, rfl⟩ (q := 5) rfl ?_
        refine g_iload (pc' := 395) O ⟨dL_rows_393, rfl⟩ (q := 4) rfl ?_
        obtain ⟨r_24, c_25, E⟩ := bd_of E
        refine g_MSi (pc' := 398) O hN ⟨dL_rows_395, rfl⟩ (y := yL_code) (As := [.ref b4, .int (r2 (0 : Int32).toNatClampNeg)]) (st := [.int r_20.1]) (put := (fun g => (r_20.2, r0, r1, r2, r3_14, g))) sub_X5_A4 (t_L_code l D cy hfl b4 c_25) kw_726 kw_24 kw_724 kw_725 hd_L_code ⟨Nat.le_of_ble_eq_true rfl, Nat.le_of_ble_eq_true rfl⟩ ⟨Nat.le_of_ble_eq_true rfl, Nat.le_of_ble_eq_true rfl⟩ rfl (Nat.le_of_ble_eq_true rfl) ?_
        show G l D X 21 (WX5 ad cy 6 24 4 6 6 b0 b1 b2 b3 b4) 3 18 (r_20.2, r0, r1, r2, r3_14, r_16) 398 [(0, .ref (ad 0)), (2, .ref b0), (3, .ref b1), (4, .ref b2), (5, .int (r2 (0 : Int32).toNatClampNeg)), (7, .ref b4), (8, .long x8_6), (10, .int x10_7), (11, .int x11_8), (12, .int r_1), (13, .int y13_5), (14, .int x14_9), (15, .int x15_11), (16, .int x16_12), (17, .int x17_13)] [.int r_24, .int r_20.1]
        refine g_icmp_ne (pc' := 401) O ⟨dL_rows_398, rfl⟩ E (tgt := 483) (by decide) (fun E => ?_) (fun E => ?_)
        · refine g_iconst (pc' := 484) O ⟨dL_rows_483, rfl⟩ (v := (0 : Int32)) rfl ?_
          obtain ⟨hn, E⟩ := ckz_of E
          cases E
          refine g_drop (wf := (WX3 ad cy 6 24 4 b0 b1 b2)) (h := (r_20.2, r0, r1, r2)) (List.range 38) rfl rfl (by decide) ?_
          exact hret _ _ _ _ _ (Nat.le_of_ble_eq_true rfl) (Nat.le_of_ble_eq_true rfl) ⟨dL_rows_484, rfl⟩ hn
        · refine g_aload_n (pc' := 402) O ⟨dL_rows_401, rfl⟩ (q := 0) rfl rfl ?_
          obtain ⟨r_26, c_27, E⟩ := bd_of E
          refine g_Ul (pc' := 405) O ⟨dL_rows_402, rfl⟩ (y := yX10_outputs) (As := []) (st := []) (put := (fun g => (g, r0, r1, r2, r3_14, r_16))) sub_X5_X (t_X10_outputs l D ad cy (h := r_20.2) c_27) kw_730 kw_25 kw_727 kw_728 kw_729 rfl zX5_x hd_X10_outputs ⟨Nat.le_of_ble_eq_true rfl, Nat.le_of_ble_eq_true rfl⟩ ⟨Nat.le_of_ble_eq_true rfl, Nat.le_of_ble_eq_true rfl⟩ rfl (Nat.le_of_ble_eq_true rfl) ?_
          show G l D X 21 (WX5 ad cy 6 24 4 6 6 b0 b1 b2 b3 b4) 3 18 (r_26.2, r0, r1, r2, r3_14, r_16) 405 [(0, .ref (ad 0)), (2, .ref b0), (3, .ref b1), (4, .ref b2), (5, .int (r2 (0 : Int32).toNatClampNeg)), (7, .ref b4), (8, .long x8_6), (10, .int x10_7), (11, .int x11_8), (12, .int r_1), (13, .int y13_5), (14, .int x14_9), (15, .int x15_11), (16, .int x16_12), (17, .int x17_13)] [.long r_26.1]
          refine g_lload (pc' := 407) O ⟨dL_rows_405, rfl⟩ (q := 6) rfl ?_
          refine g_lcmp (pc' := 408) O ⟨dL_rows_407, rfl⟩ ?_
          refine g_if_ne (pc' := 411) O ⟨dL_rows_408, rfl⟩ E (tgt := 483) (by decide) (fun E => ?_) (fun E => ?_)
          · refine g_iconst (pc' := 484) O ⟨dL_rows_483, rfl⟩ (v := (0 : Int32)) rfl ?_
            obtain ⟨hn, E⟩ := ckz_of E
            cases E
            refine g_drop (wf := (WX3 ad cy 6 24 4 b0 b1 b2)) (h := (r_26.2, r0, r1, r2)) (List.range 38) rfl rfl (by decide) ?_
            exact hret _ _ _ _ _ (Nat.le_of_ble_eq_true rfl) (Nat.le_of_ble_eq_true rfl) ⟨dL_rows_484, rfl⟩ hn
          · refine g_aload_n (pc' := 412) O ⟨dL_rows_411, rfl⟩ (q := 0) rfl rfl ?_
            obtain ⟨r_28, c_29, E⟩ := bd_of E
            refine g_Ui (pc' := 415) O ⟨dL_rows_412, rfl⟩ (y := yX10_sorts) (As := []) (st := []) (put := (fun g => (g, r0, r1, r2, r3_14, r_16))) sub_X5_X (t_X10_sorts l D ad cy (h := r_26.2) c_29) kw_742 kw_25 kw_739 kw_740 kw_741 rfl zX5_x hd_X10_sorts ⟨Nat.le_of_ble_eq_true rfl, Nat.le_of_ble_eq_true rfl⟩ ⟨Nat.le_of_ble_eq_true rfl, Nat.le_of_ble_eq_true rfl⟩ rfl (Nat.le_of_ble_eq_true rfl) ?_
            show G l D X 21 (WX5 ad cy 6 24 4 6 6 b0 b1 b2 b3 b4) 3 18 (r_28.2, r0, r1, r2, r3_14, r_16) 415 [(0, .ref (ad 0)), (2, .ref b0), (3, .ref b1), (4, .ref b2), (5, .int (r2 (0 : Int32).toNatClampNeg)), (7, .ref b4), (8, .long x8_6), (10, .int x10_7), (11, .int x11_8), (12, .int r_1), (13, .int y13_5), (14, .int x14_9), (15, .int x15_11), (16, .int x16_12), (17, .int x17_13)] [.int r_28.1]
            refine g_iload (pc' := 417) O ⟨dL_rows_415, rfl⟩ (q := 7) rfl ?_
            refine jn1_of (P := fun (z_30 : Int32) => G l D X 21 (WX5 ad cy 6 24 4 6 6 b0 b1 b2 b3 b4) 3 18 (r_28.2, r0, r1, r2, r3_14, r_16) 425 [(0, .ref (ad 0)), (11, .int x11_8), (12, .int r_1), (13, .int y13_5), (14, .int x14_9), (15, .int x15_11), (16, .int x16_12), (17, .int x17_13)] [.int z_30, .int r_28.1]) E ?_ ?_
            · intro z_30 E
              show G l D X 21 (WX5 ad cy 6 24 4 6 6 b0 b1 b2 b3 b4) 3 18 (r_28.2, r0, r1, r2, r3_14, r_16) 425 [(0, .ref (ad 0)), (11, .int x11_8), (12, .int r_1), (13, .int y13_5), (14, .int x14_9), (15, .int x15_11), (16, .int x16_12), (17, .int x17_13)] [.int z_30, .int r_28.1]
              refine g_icmp_ne (pc' := 428) O ⟨dL_rows_425, rfl⟩ E (tgt := 483) (by decide) (fun E => ?_) (fun E => ?_)
              · refine g_iconst (pc' := 484) O ⟨dL_rows_483, rfl⟩ (v := (0 : Int32)) rfl ?_
                obtain ⟨hn, E⟩ := ckz_of E
                cases E
                refine g_drop (wf := (WX3 ad cy 6 24 4 b0 b1 b2)) (h := (r_28.2, r0, r1, r2)) (List.range 38) rfl rfl (by decide) ?_
                exact hret _ _ _ _ _ (Nat.le_of_ble_eq_true rfl) (Nat.le_of_ble_eq_true rfl) ⟨dL_rows_484, rfl⟩ hn
              · refine g_aload_n (pc' := 429) O ⟨dL_rows_428, rfl⟩ (q := 0) rfl rfl ?_
                refine g_iload (pc' := 431) O ⟨dL_rows_429, rfl⟩ (q := 2) rfl ?_
                obtain ⟨z_34, c_32, e_33, E⟩ := hcatch_of E
                refine g_UXi (pc' := 434) O ⟨dL_rows_431, rfl⟩ (y := yX10_wrong) (As := [.int r_1]) (st := []) (put := (fun g => (g, r0, r1, r2, r3_14, r_16))) sub_X5_X (t_X10_wrong l D ad cy hfl (h := r_28.2) c_32) kw_753 kw_25 kw_750 kw_751 kw_752 rfl zX5_x hd_X10_wrong ⟨Nat.le_of_ble_eq_true rfl, Nat.le_of_ble_eq_true rfl⟩ ⟨Nat.le_of_ble_eq_true rfl, Nat.le_of_ble_eq_true rfl⟩ rfl (Nat.le_of_ble_eq_true rfl) (fun E1 c q => (by cases e_33 E1 c q)) (fun r_31 q => ?_)
                replace E := E r_31 q
                show G l D X 21 (WX5 ad cy 6 24 4 6 6 b0 b1 b2 b3 b4) 4 24 (r_31.2, r0, r1, r2, r3_14, r_16) 434 [(0, .ref (ad 0)), (11, .int x11_8), (12, .int r_1), (13, .int y13_5), (14, .int x14_9), (15, .int x15_11), (16, .int x16_12), (17, .int x17_13)] [.int r_31.1]
                refine g_iload (pc' := 436) O ⟨dL_rows_434, rfl⟩ (q := 1) rfl ?_
                refine g_icmp_ne (pc' := 439) O ⟨dL_rows_436, rfl⟩ E (tgt := 483) (by decide) (fun E => ?_) (fun E => ?_)
                · refine g_iconst (pc' := 484) O ⟨dL_rows_483, rfl⟩ (v := (0 : Int32)) rfl ?_
                  obtain ⟨hn, E⟩ := ckz_of E
                  cases E
                  refine g_drop (wf := (WX3 ad cy 6 24 4 b0 b1 b2)) (h := (r_31.2, r0, r1, r2)) (List.range 38) rfl rfl (by decide) ?_
                  exact hret _ _ _ _ _ (Nat.le_of_ble_eq_true rfl) (Nat.le_of_ble_eq_true rfl) ⟨dL_rows_484, rfl⟩ hn
                · refine g_aload_n (pc' := 440) O ⟨dL_rows_439, rfl⟩ (q := 0) rfl rfl ?_
                  refine g_iload (pc' := 442) O ⟨dL_rows_440, rfl⟩ (q := 3) rfl ?_
                  obtain ⟨z_38, c_36, e_37, E⟩ := hcatch_of E
                  refine g_UXi (pc' := 445) O ⟨dL_rows_442, rfl⟩ (y := yX10_merges) (As := [.int y13_5]) (st := []) (put := (fun g => (g, r0, r1, r2, r3_14, r_16))) sub_X5_X (t_X10_merges l D ad cy hfl (h := r_31.2) c_36) kw_760 kw_25 kw_757 kw_758 kw_759 rfl zX5_x hd_X10_merges ⟨Nat.le_of_ble_eq_true rfl, Nat.le_of_ble_eq_true rfl⟩ ⟨Nat.le_of_ble_eq_true rfl, Nat.le_of_ble_eq_true rfl⟩ rfl (Nat.le_of_ble_eq_true rfl) (fun E1 c q => (by cases e_37 E1 c q)) (fun r_35 q => ?_)
                  replace E := E r_35 q
                  show G l D X 21 (WX5 ad cy 6 24 4 6 6 b0 b1 b2 b3 b4) 5 30 (r_35.2, r0, r1, r2, r3_14, r_16) 445 [(0, .ref (ad 0)), (11, .int x11_8), (12, .int r_1), (13, .int y13_5), (14, .int x14_9), (15, .int x15_11), (16, .int x16_12), (17, .int x17_13)] [.int r_35.1]
                  refine g_iload (pc' := 447) O ⟨dL_rows_445, rfl⟩ (q := 4) rfl ?_
                  refine g_icmp_ne (pc' := 450) O ⟨dL_rows_447, rfl⟩ E (tgt := 483) (by decide) (fun E => ?_) (fun E => ?_)
                  · refine g_iconst (pc' := 484) O ⟨dL_rows_483, rfl⟩ (v := (0 : Int32)) rfl ?_
                    obtain ⟨hn, E⟩ := ckz_of E
                    cases E
                    refine g_drop (wf := (WX3 ad cy 6 24 4 b0 b1 b2)) (h := (r_35.2, r0, r1, r2)) (List.range 38) rfl rfl (by decide) ?_
                    exact hret _ _ _ _ _ (Nat.le_of_ble_eq_true rfl) (Nat.le_of_ble_eq_true rfl) ⟨dL_rows_484, rfl⟩ hn
                  · refine g_aload_n (pc' := 451) O ⟨dL_rows_450, rfl⟩ (q := 0) rfl rfl ?_
                    obtain ⟨r_39, c_40, E⟩ := bd_of E
                    refine g_Ui (pc' := 454) O ⟨dL_rows_451, rfl⟩ (y := yX10_sorted) (As := []) (st := []) (put := (fun g => (g, r0, r1, r2, r3_14, r_16))) sub_X5_X (t_X10_sorted l D ad cy (h := r_35.2) c_40) kw_770 kw_25 kw_767 kw_768 kw_769 rfl zX5_x hd_X10_sorted ⟨Nat.le_of_ble_eq_true rfl, Nat.le_of_ble_eq_true rfl⟩ ⟨Nat.le_of_ble_eq_true rfl, Nat.le_of_ble_eq_true rfl⟩ rfl (Nat.le_of_ble_eq_true rfl) ?_
                    show G l D X 21 (WX5 ad cy 6 24 4 6 6 b0 b1 b2 b3 b4) 5 30 (r_39.2, r0, r1, r2, r3_14, r_16) 454 [(0, .ref (ad 0)), (11, .int x11_8), (12, .int r_1), (13, .int y13_5), (14, .int x14_9), (15, .int x15_11), (16, .int x16_12), (17, .int x17_13)] [.int r_39.1]
                    refine g_iload (pc' := 456) O ⟨dL_rows_454, rfl⟩ (q := 5) rfl ?_
                    refine g_icmp_ne (pc' := 459) O ⟨dL_rows_456, rfl⟩ E (tgt := 483) (by decide) (fun E => ?_) (fun E => ?_)
                    · refine g_iconst (pc' := 484) O ⟨dL_rows_483, rfl⟩ (v := (0 : Int32)) rfl ?_
                      obtain ⟨hn, E⟩ := ckz_of E
                      cases E
                      refine g_drop (wf := (WX3 ad cy 6 24 4 b0 b1 b2)) (h := (r_39.2, r0, r1, r2)) (List.range 38) rfl rfl (by decide) ?_
                      exact hret _ _ _ _ _ (Nat.le_of_ble_eq_true rfl) (Nat.le_of_ble_eq_true rfl) ⟨dL_rows_484, rfl⟩ hn
                    · refine g_aload_n (pc' := 460) O ⟨dL_rows_459, rfl⟩ (q := 0) rfl rfl ?_
                      obtain ⟨r_41, c_42, E⟩ := bd_of E
                      refine g_Ui (pc' := 463) O ⟨dL_rows_460, rfl⟩ (y := yX10_off) (As := []) (st := []) (put := (fun g => (g, r0, r1, r2, r3_14, r_16))) sub_X5_X (t_X10_off l D ad cy (h := r_39.2) c_42) kw_779 kw_25 kw_776 kw_777 kw_778 rfl zX5_x hd_X10_off ⟨Nat.le_of_ble_eq_true rfl, Nat.le_of_ble_eq_true rfl⟩ ⟨Nat.le_of_ble_eq_true rfl, Nat.le_of_ble_eq_true rfl⟩ rfl (Nat.le_of_ble_eq_true rfl) ?_
                      show G l D X 21 (WX5 ad cy 6 24 4 6 6 b0 b1 b2 b3 b4) 5 30 (r_41.2, r0, r1, r2, r3_14, r_16) 463 [(0, .ref (ad 0)), (11, .int x11_8), (12, .int r_1), (13, .int y13_5), (14, .int x14_9), (15, .int x15_11), (16, .int x16_12), (17, .int x17_13)] [.int r_41.1]
                      refine g_iload (pc' := 465) O ⟨dL_rows_463, rfl⟩ (q := 6) rfl ?_
                      refine g_icmp_ne (pc' := 468) O ⟨dL_rows_465, rfl⟩ E (tgt := 483) (by decide) (fun E => ?_) (fun E => ?_)
                      · refine g_iconst (pc' := 484) O ⟨dL_rows_483, rfl⟩ (v := (0 : Int32)) rfl ?_
                        obtain ⟨hn, E⟩ := ckz_of E
                        cases E
                        refine g_drop (wf := (WX3 ad cy 6 24 4 b0 b1 b2)) (h := (r_41.2, r0, r1, r2)) (List.range 38) rfl rfl (by decide) ?_
                        exact hret _ _ _ _ _ (Nat.le_of_ble_eq_true rfl) (Nat.le_of_ble_eq_true rfl) ⟨dL_rows_484, rfl⟩ hn
                      · refine g_aload_n (pc' := 469) O ⟨dL_rows_468, rfl⟩ (q := 0) rfl rfl ?_
                        refine g_iload (pc' := 471) O ⟨dL_rows_469, rfl⟩ (q := 3) rfl ?_
                        obtain ⟨z_46, c_44, e_45, E⟩ := hcatch_of E
                        refine g_UXi (pc' := 474) O ⟨dL_rows_471, rfl⟩ (y := yX10_chooses) (As := [.int y13_5]) (st := []) (put := (fun g => (g, r0, r1, r2, r3_14, r_16))) sub_X5_X (t_X10_chooses l D ad cy hfl (h := r_41.2) c_44) kw_797 kw_25 kw_794 kw_795 kw_796 rfl zX5_x hd_X10_chooses ⟨Nat.le_of_ble_eq_true rfl, Nat.le_of_ble_eq_true rfl⟩ ⟨Nat.le_of_ble_eq_true rfl, Nat.le_of_ble_eq_true rfl⟩ rfl (Nat.le_of_ble_eq_true rfl) (fun E1 c q => (by cases e_45 E1 c q)) (fun r_43 q => ?_)
                        replace E := E r_43 q
                        show G l D X 21 (WX5 ad cy 6 24 4 6 6 b0 b1 b2 b3 b4) 6 36 (r_43.2, r0, r1, r2, r3_14, r_16) 474 [(0, .ref (ad 0)), (11, .int x11_8), (12, .int r_1), (13, .int y13_5), (14, .int x14_9), (15, .int x15_11), (16, .int x16_12), (17, .int x17_13)] [.int r_43.1]
                        refine g_iload (pc' := 476) O ⟨dL_rows_474, rfl⟩ (q := 7) rfl ?_
                        refine g_icmp_ne (pc' := 479) O ⟨dL_rows_476, rfl⟩ E (tgt := 483) (by decide) (fun E => ?_) (fun E => ?_)
                        · refine g_iconst (pc' := 484) O ⟨dL_rows_483, rfl⟩ (v := (0 : Int32)) rfl ?_
                          obtain ⟨hn, E⟩ := ckz_of E
                          cases E
                          refine g_drop (wf := (WX3 ad cy 6 24 4 b0 b1 b2)) (h := (r_43.2, r0, r1, r2)) (List.range 38) rfl rfl (by decide) ?_
                          exact hret _ _ _ _ _ (Nat.le_of_ble_eq_true rfl) (Nat.le_of_ble_eq_true rfl) ⟨dL_rows_484, rfl⟩ hn
                        · refine g_iconst (pc' := 480) O ⟨dL_rows_479, rfl⟩ (v := (1 : Int32)) rfl ?_
                          refine g_goto (pc' := 483) O ⟨dL_rows_480, rfl⟩ (tgt := 484) (by decide) ?_
                          obtain ⟨hn, E⟩ := ckz_of E
                          cases E
                          refine g_drop (wf := (WX3 ad cy 6 24 4 b0 b1 b2)) (h := (r_43.2, r0, r1, r2)) (List.range 38) rfl rfl (by decide) ?_
                          exact hret _ _ _ _ _ (Nat.le_of_ble_eq_true rfl) (Nat.le_of_ble_eq_true rfl) ⟨dL_rows_484, rfl⟩ hn
            · intro k425 hk425 E
              refine g_if_ne (pc' := 420) O ⟨dL_rows_417, rfl⟩ E (tgt := 424) (by decide) (fun E => ?_) (fun E => ?_)
              · refine g_iconst (pc' := 425) O ⟨dL_rows_424, rfl⟩ (v := (0 : Int32)) rfl ?_
                refine g_sub (lv' := [(0, .ref (ad 0)), (11, .int x11_8), (12, .int r_1), (13, .int y13_5), (14, .int x14_9), (15, .int x15_11), (16, .int x16_12), (17, .int x17_13)]) [0, 8, 9, 10, 11, 12, 13, 14] rfl ?_
                exact hk425 _ E
              · refine g_iconst (pc' := 421) O ⟨dL_rows_420, rfl⟩ (v := (1 : Int32)) rfl ?_
                refine g_goto (pc' := 424) O ⟨dL_rows_421, rfl⟩ (tgt := 425) (by decide) ?_
                refine g_sub (lv' := [(0, .ref (ad 0)), (11, .int x11_8), (12, .int r_1), (13, .int y13_5), (14, .int x14_9), (15, .int x15_11), (16, .int x16_12), (17, .int x17_13)]) [0, 8, 9, 10, 11, 12, 13, 14] rfl ?_
                exact hk425 _ E
      · intro k370 hk370 E
        refine g_sub (lv' := [(0, .ref (ad 0)), (2, .ref b0), (3, .ref b1), (4, .ref b2), (5, .int (r2 (0 : Int32).toNatClampNeg)), (6, .ref b3), (7, .ref b4), (8, .long x8_6), (10, .int x10_7), (11, .int x11_8), (12, .int r_1), (13, .int y13_5), (14, .int x14_9), (15, .int (0 : Int32)), (16, .int (0 : Int32)), (17, .int (1 : Int32)), (18, .int (1 : Int32))]) [1, 2, 3, 4, 5, 6, 7, 8, 9, 10, 11, 12, 13, 14, 15, 16, 0] rfl ?_
        refine fx6_of (P := fun (x15_47 : Int32) (x16_48 : Int32) (x17_49 : Int32) (x18_50 : Int32) (r3_51 : Row) (r4_52 : Row) => G l D X 21 (WX5 ad cy 6 24 4 6 6 b0 b1 b2 b3 b4) 2 12 (h, r0, r1, r2, r3_51, r4_52) 216 [(0, .ref (ad 0)), (2, .ref b0), (3, .ref b1), (4, .ref b2), (5, .int (r2 (0 : Int32).toNatClampNeg)), (6, .ref b3), (7, .ref b4), (8, .long x8_6), (10, .int x10_7), (11, .int x11_8), (12, .int r_1), (13, .int y13_5), (14, .int x14_9), (15, .int x15_47), (16, .int x16_48), (17, .int x17_49), (18, .int x18_50)] []) ?_ _ _ _ _ _ _ _ E
        intro self ih216 x15_47 x16_48 x17_49 x18_50 r3_51 r4_52 E
        show G l D X 21 (WX5 ad cy 6 24 4 6 6 b0 b1 b2 b3 b4) 2 12 (h, r0, r1, r2, r3_51, r4_52) 216 [(0, .ref (ad 0)), (2, .ref b0), (3, .ref b1), (4, .ref b2), (5, .int (r2 (0 : Int32).toNatClampNeg)), (6, .ref b3), (7, .ref b4), (8, .long x8_6), (10, .int x10_7), (11, .int x11_8), (12, .int r_1), (13, .int y13_5), (14, .int x14_9), (15, .int x15_47), (16, .int x16_48), (17, .int x17_49), (18, .int x18_50)] []
        unfold L_L_rows_216 at E
        refine g_iload (pc' := 218) O ⟨dL_rows_216, rfl⟩ (q := 16) rfl ?_
        refine g_if_eq (pc' := 221) O ⟨dL_rows_218, rfl⟩ E (tgt := 370) (by decide) (fun E => ?_) (fun E => ?_)
        · refine g_sub (lv' := [(0, .ref (ad 0)), (2, .ref b0), (3, .ref b1), (4, .ref b2), (5, .int (r2 (0 : Int32).toNatClampNeg)), (7, .ref b4), (8, .long x8_6), (10, .int x10_7), (11, .int x11_8), (12, .int r_1), (13, .int y13_5), (14, .int x14_9), (15, .int x15_47), (16, .int x16_48), (17, .int x17_49)]) [0, 1, 2, 3, 4, 6, 7, 8, 9, 10, 11, 12, 13, 14, 15] rfl ?_
          exact hk370 _ _ _ _ _ E
        · refine g_aload (pc' := 223) O ⟨dL_rows_221, rfl⟩ (q := 5) rfl ?_
          refine g_aload (pc' := 225) O ⟨dL_rows_223, rfl⟩ (q := 6) rfl ?_
          refine g_iload (pc' := 227) O ⟨dL_rows_225, rfl⟩ (q := 4) rfl ?_
          refine g_aload_n (pc' := 228) O ⟨dL_rows_227, rfl⟩ (q := 2) rfl rfl ?_
          refine g_aload (pc' := 230) O ⟨dL_rows_228, rfl⟩ (q := 3) rfl ?_
          obtain ⟨r_53, c_54, E⟩ := bd_of E
          refine g_MSv (pc' := 233) O hN ⟨dL_rows_230, rfl⟩ (y := yL_runs) (As := [.ref b3, .ref b4, .int (r2 (0 : Int32).toNatClampNeg), .ref b1, .ref b2]) (st := []) (put := (fun g => (h, r0, g.2.2.1, g.2.2.2, g.1, g.2.1))) sub_X5_A3_4_1_2 (t_L_runs l D cy hfl b3 b4 b1 b2 c_54) kw_720 kw_24 kw_718 kw_719 hd_L_runs ⟨Nat.le_of_ble_eq_true rfl, Nat.le_of_ble_eq_true rfl⟩ ⟨Nat.le_of_ble_eq_true rfl, Nat.le_of_ble_eq_true rfl⟩ rfl (Nat.le_of_ble_eq_true rfl) ?_
          show G l D X 21 (WX5 ad cy 6 24 4 6 6 b0 b1 b2 b3 b4) 2 12 (h, r0, r1, r2, r3_51, r_53) 233 [(0, .ref (ad 0)), (2, .ref b0), (3, .ref b1), (4, .ref b2), (5, .int (r2 (0 : Int32).toNatClampNeg)), (6, .ref b3), (7, .ref b4), (8, .long x8_6), (10, .int x10_7), (11, .int x11_8), (12, .int r_1), (13, .int y13_5), (14, .int x14_9), (15, .int x15_47), (16, .int x16_48), (17, .int x17_49), (18, .int x18_50)] []
          refine g_iload (pc' := 235) O ⟨dL_rows_233, rfl⟩ (q := 13) rfl ?_
          refine g_aload (pc' := 237) O ⟨dL_rows_235, rfl⟩ (q := 6) rfl ?_
          refine g_iload (pc' := 239) O ⟨dL_rows_237, rfl⟩ (q := 4) rfl ?_
          obtain ⟨r_55, c_56, E⟩ := bd_of E
          refine g_MSi (pc' := 242) O hN ⟨dL_rows_239, rfl⟩ (y := yL_upsideDown) (As := [.ref b4, .int (r2 (0 : Int32).toNatClampNeg)]) (st := [.int x15_47]) (put := (fun g => (h, r0, r1, r2, r3_51, g))) sub_X5_A4 (t_L_upsideDown l D cy hfl b4 c_56) kw_723 kw_24 kw_721 kw_722 hd_L_upsideDown ⟨Nat.le_of_ble_eq_true rfl, Nat.le_of_ble_eq_true rfl⟩ ⟨Nat.le_of_ble_eq_true rfl, Nat.le_of_ble_eq_true rfl⟩ rfl (Nat.le_of_ble_eq_true rfl) ?_
          show G l D X 21 (WX5 ad cy 6 24 4 6 6 b0 b1 b2 b3 b4) 2 12 (h, r0, r1, r2, r3_51, r_53) 242 [(0, .ref (ad 0)), (2, .ref b0), (3, .ref b1), (4, .ref b2), (5, .int (r2 (0 : Int32).toNatClampNeg)), (6, .ref b3), (7, .ref b4), (8, .long x8_6), (10, .int x10_7), (11, .int x11_8), (12, .int r_1), (13, .int y13_5), (14, .int x14_9), (15, .int x15_47), (16, .int x16_48), (17, .int x17_49), (18, .int x18_50)] [.int r_55, .int x15_47]
          refine g_if_ne (pc' := 245) O ⟨dL_rows_242, rfl⟩ E (tgt := 249) (by decide) (fun E => ?_) (fun E => ?_)
          · refine g_iconst (pc' := 250) O ⟨dL_rows_249, rfl⟩ (v := (0 : Int32)) rfl ?_
            refine g_iadd (pc' := 251) O ⟨dL_rows_250, rfl⟩ ?_
            refine g_nm E (fun y15_57 E => ?_)
            refine g_istore (pc' := 253) O ⟨dL_rows_251, rfl⟩ (lv' := [(15, .int y15_57), (0, .ref (ad 0)), (2, .ref b0), (3, .ref b1), (4, .ref b2), (5, .int (r2 (0 : Int32).toNatClampNeg)), (6, .ref b3), (7, .ref b4), (8, .long x8_6), (10, .int x10_7), (11, .int x11_8), (12, .int r_1), (13, .int y13_5), (14, .int x14_9), (16, .int x16_48), (17, .int x17_49), (18, .int x18_50)]) (by decide) rfl ?_
            refine g_iconst (pc' := 254) O ⟨dL_rows_253, rfl⟩ (v := (0 : Int32)) rfl ?_
            refine g_istore (pc' := 256) O ⟨dL_rows_254, rfl⟩ (lv' := [(19, .int (0 : Int32)), (15, .int y15_57), (0, .ref (ad 0)), (2, .ref b0), (3, .ref b1), (4, .ref b2), (5, .int (r2 (0 : Int32).toNatClampNeg)), (6, .ref b3), (7, .ref b4), (8, .long x8_6), (10, .int x10_7), (11, .int x11_8), (12, .int r_1), (13, .int y13_5), (14, .int x14_9), (16, .int x16_48), (17, .int x17_49), (18, .int x18_50)]) (by decide) rfl ?_
            refine jn2_of (P := fun (x16_58 : Int32) (x17_59 : Int32) => G l D X 21 (WX5 ad cy 6 24 4 6 6 b0 b1 b2 b3 b4) 2 12 (h, r0, r1, r2, r3_51, r_53) 358 [(0, .ref (ad 0)), (2, .ref b0), (3, .ref b1), (4, .ref b2), (5, .int (r2 (0 : Int32).toNatClampNeg)), (6, .ref b3), (7, .ref b4), (8, .long x8_6), (10, .int x10_7), (11, .int x11_8), (12, .int r_1), (13, .int y13_5), (14, .int x14_9), (15, .int y15_57), (16, .int x16_58), (17, .int x17_59)] []) E ?_ ?_
            · intro x16_58 x17_59 E
              show G l D X 21 (WX5 ad cy 6 24 4 6 6 b0 b1 b2 b3 b4) 2 12 (h, r0, r1, r2, r3_51, r_53) 358 [(0, .ref (ad 0)), (2, .ref b0), (3, .ref b1), (4, .ref b2), (5, .int (r2 (0 : Int32).toNatClampNeg)), (6, .ref b3), (7, .ref b4), (8, .long x8_6), (10, .int x10_7), (11, .int x11_8), (12, .int r_1), (13, .int y13_5), (14, .int x14_9), (15, .int y15_57), (16, .int x16_58), (17, .int x17_59)] []
              refine g_aload (pc' := 360) O ⟨dL_rows_358, rfl⟩ (q := 5) rfl ?_
              refine g_iload (pc' := 362) O ⟨dL_rows_360, rfl⟩ (q := 4) rfl ?_
              obtain ⟨r_60, c_61, E⟩ := bd_of E
              refine g_MSi (pc' := 365) O hN ⟨dL_rows_362, rfl⟩ (y := yL_next) (As := [.ref b3, .int (r2 (0 : Int32).toNatClampNeg)]) (st := []) (put := (fun g => (h, r0, r1, r2, g, r_53))) sub_X5_A3 (t_L_next l D cy hfl b3 c_61) kw_553 kw_24 kw_551 kw_552 hd_L_next ⟨Nat.le_of_ble_eq_true rfl, Nat.le_of_ble_eq_true rfl⟩ ⟨Nat.le_of_ble_eq_true rfl, Nat.le_of_ble_eq_true rfl⟩ rfl (Nat.le_of_ble_eq_true rfl) ?_
              show G l D X 21 (WX5 ad cy 6 24 4 6 6 b0 b1 b2 b3 b4) 2 12 (h, r0, r1, r2, r_60.2, r_53) 365 [(0, .ref (ad 0)), (2, .ref b0), (3, .ref b1), (4, .ref b2), (5, .int (r2 (0 : Int32).toNatClampNeg)), (6, .ref b3), (7, .ref b4), (8, .long x8_6), (10, .int x10_7), (11, .int x11_8), (12, .int r_1), (13, .int y13_5), (14, .int x14_9), (15, .int y15_57), (16, .int x16_58), (17, .int x17_59)] [.int r_60.1]
              refine g_istore (pc' := 367) O ⟨dL_rows_365, rfl⟩ (lv' := [(18, .int r_60.1), (0, .ref (ad 0)), (2, .ref b0), (3, .ref b1), (4, .ref b2), (5, .int (r2 (0 : Int32).toNatClampNeg)), (6, .ref b3), (7, .ref b4), (8, .long x8_6), (10, .int x10_7), (11, .int x11_8), (12, .int r_1), (13, .int y13_5), (14, .int x14_9), (15, .int y15_57), (16, .int x16_58), (17, .int x17_59)]) (by decide) rfl ?_
              refine g_goto (pc' := 370) O ⟨dL_rows_367, rfl⟩ (tgt := 216) (by decide) ?_
              refine g_sub (lv' := [(0, .ref (ad 0)), (2, .ref b0), (3, .ref b1), (4, .ref b2), (5, .int (r2 (0 : Int32).toNatClampNeg)), (6, .ref b3), (7, .ref b4), (8, .long x8_6), (10, .int x10_7), (11, .int x11_8), (12, .int r_1), (13, .int y13_5), (14, .int x14_9), (15, .int y15_57), (16, .int x16_58), (17, .int x17_59), (18, .int r_60.1)]) [1, 2, 3, 4, 5, 6, 7, 8, 9, 10, 11, 12, 13, 14, 15, 16, 0] rfl ?_
              exact ih216 _ _ _ _ _ _ E
            · intro k358 hk358 E
              refine g_sub (lv' := [(0, .ref (ad 0)), (2, .ref b0), (3, .ref b1), (4, .ref b2), (5, .int (r2 (0 : Int32).toNatClampNeg)), (6, .ref b3), (7, .ref b4), (8, .long x8_6), (10, .int x10_7), (11, .int x11_8), (12, .int r_1), (13, .int y13_5), (14, .int x14_9), (15, .int y15_57), (16, .int x16_48), (17, .int x17_49), (19, .int (0 : Int32))]) [2, 3, 4, 5, 6, 7, 8, 9, 10, 11, 12, 13, 14, 1, 15, 16, 0] rfl ?_
              refine fx3_of (P := fun (x16_62 : Int32) (x17_63 : Int32) (x19_64 : Int32) => G l D X 21 (WX5 ad cy 6 24 4 6 6 b0 b1 b2 b3 b4) 2 12 (h, r0, r1, r2, r3_51, r_53) 256 [(0, .ref (ad 0)), (2, .ref b0), (3, .ref b1), (4, .ref b2), (5, .int (r2 (0 : Int32).toNatClampNeg)), (6, .ref b3), (7, .ref b4), (8, .long x8_6), (10, .int x10_7), (11, .int x11_8), (12, .int r_1), (13, .int y13_5), (14, .int x14_9), (15, .int y15_57), (16, .int x16_62), (17, .int x17_63), (19, .int x19_64)] []) ?_ _ _ _ _ E
              intro self ih256 x16_62 x17_63 x19_64 E
              show G l D X 21 (WX5 ad cy 6 24 4 6 6 b0 b1 b2 b3 b4) 2 12 (h, r0, r1, r2, r3_51, r_53) 256 [(0, .ref (ad 0)), (2, .ref b0), (3, .ref b1), (4, .ref b2), (5, .int (r2 (0 : Int32).toNatClampNeg)), (6, .ref b3), (7, .ref b4), (8, .long x8_6), (10, .int x10_7), (11, .int x11_8), (12, .int r_1), (13, .int y13_5), (14, .int x14_9), (15, .int y15_57), (16, .int x16_62), (17, .int x17_63), (19, .int x19_64)] []
              unfold L_L_rows_256 at E
              refine g_iload (pc' := 258) O ⟨dL_rows_256, rfl⟩ (q := 16) rfl ?_
              refine g_iload (pc' := 260) O ⟨dL_rows_258, rfl⟩ (q := 4) rfl ?_
              refine g_icmp_ge (pc' := 263) O ⟨dL_rows_260, rfl⟩ E (tgt := 358) (by decide) (fun E => ?_) (fun E => ?_)
              · refine g_sub (lv' := [(0, .ref (ad 0)), (2, .ref b0), (3, .ref b1), (4, .ref b2), (5, .int (r2 (0 : Int32).toNatClampNeg)), (6, .ref b3), (7, .ref b4), (8, .long x8_6), (10, .int x10_7), (11, .int x11_8), (12, .int r_1), (13, .int y13_5), (14, .int x14_9), (15, .int y15_57), (16, .int x16_62), (17, .int x17_63)]) [0, 1, 2, 3, 4, 5, 6, 7, 8, 9, 10, 11, 12, 13, 14, 15] rfl ?_
                exact hk358 _ _ E
              · refine g_aload (pc' := 265) O ⟨dL_rows_263, rfl⟩ (q := 6) rfl ?_
                refine g_iload (pc' := 267) O ⟨dL_rows_265, rfl⟩ (q := 16) rfl ?_
                refine g_iald (pc' := 268) O ⟨dL_rows_267, rfl⟩ zX5_4 E (fun E => ?_)
                refine g_iload (pc' := 270) O ⟨dL_rows_268, rfl⟩ (q := 16) rfl ?_
                refine jn1_of (P := fun (z_65 : Int32) => G l D X 21 (WX5 ad cy 6 24 4 6 6 b0 b1 b2 b3 b4) 2 12 (h, r0, r1, r2, r3_51, r_53) 292 [(0, .ref (ad 0)), (2, .ref b0), (3, .ref b1), (4, .ref b2), (5, .int (r2 (0 : Int32).toNatClampNeg)), (6, .ref b3), (7, .ref b4), (8, .long x8_6), (10, .int x10_7), (11, .int x11_8), (12, .int r_1), (13, .int y13_5), (14, .int x14_9), (15, .int y15_57), (16, .int x16_62), (17, .int x17_63), (19, .int x19_64)] [.int z_65]) E ?_ ?_
                · intro z_65 E
                  show G l D X 21 (WX5 ad cy 6 24 4 6 6 b0 b1 b2 b3 b4) 2 12 (h, r0, r1, r2, r3_51, r_53) 292 [(0, .ref (ad 0)), (2, .ref b0), (3, .ref b1), (4, .ref b2), (5, .int (r2 (0 : Int32).toNatClampNeg)), (6, .ref b3), (7, .ref b4), (8, .long x8_6), (10, .int x10_7), (11, .int x11_8), (12, .int r_1), (13, .int y13_5), (14, .int x14_9), (15, .int y15_57), (16, .int x16_62), (17, .int x17_63), (19, .int x19_64)] [.int z_65]
                  refine g_istore (pc' := 294) O ⟨dL_rows_292, rfl⟩ (lv' := [(20, .int z_65), (0, .ref (ad 0)), (2, .ref b0), (3, .ref b1), (4, .ref b2), (5, .int (r2 (0 : Int32).toNatClampNeg)), (6, .ref b3), (7, .ref b4), (8, .long x8_6), (10, .int x10_7), (11, .int x11_8), (12, .int r_1), (13, .int y13_5), (14, .int x14_9), (15, .int y15_57), (16, .int x16_62), (17, .int x17_63), (19, .int x19_64)]) (by decide) rfl ?_
                  refine g_iload (pc' := 296) O ⟨dL_rows_294, rfl⟩ (q := 0) rfl ?_
                  refine g_iload (pc' := 298) O ⟨dL_rows_296, rfl⟩ (q := 15) rfl ?_
                  refine jn1_of (P := fun (z_66 : Int32) => G l D X 21 (WX5 ad cy 6 24 4 6 6 b0 b1 b2 b3 b4) 2 12 (h, r0, r1, r2, r3_51, r_53) 308 [(0, .ref (ad 0)), (2, .ref b0), (3, .ref b1), (4, .ref b2), (5, .int (r2 (0 : Int32).toNatClampNeg)), (6, .ref b3), (7, .ref b4), (8, .long x8_6), (10, .int x10_7), (11, .int x11_8), (12, .int r_1), (13, .int y13_5), (14, .int x14_9), (15, .int y15_57), (17, .int x17_63), (19, .int x19_64)] [.int z_66]) E ?_ ?_
                  · intro z_66 E
                    show G l D X 21 (WX5 ad cy 6 24 4 6 6 b0 b1 b2 b3 b4) 2 12 (h, r0, r1, r2, r3_51, r_53) 308 [(0, .ref (ad 0)), (2, .ref b0), (3, .ref b1), (4, .ref b2), (5, .int (r2 (0 : Int32).toNatClampNeg)), (6, .ref b3), (7, .ref b4), (8, .long x8_6), (10, .int x10_7), (11, .int x11_8), (12, .int r_1), (13, .int y13_5), (14, .int x14_9), (15, .int y15_57), (17, .int x17_63), (19, .int x19_64)] [.int z_66]
                    refine g_istore (pc' := 310) O ⟨dL_rows_308, rfl⟩ (lv' := [(16, .int z_66), (0, .ref (ad 0)), (2, .ref b0), (3, .ref b1), (4, .ref b2), (5, .int (r2 (0 : Int32).toNatClampNeg)), (6, .ref b3), (7, .ref b4), (8, .long x8_6), (10, .int x10_7), (11, .int x11_8), (12, .int r_1), (13, .int y13_5), (14, .int x14_9), (15, .int y15_57), (17, .int x17_63), (19, .int x19_64)]) (by decide) rfl ?_
                    refine g_iload (pc' := 312) O ⟨dL_rows_310, rfl⟩ (q := 15) rfl ?_
                    refine g_if_eq (pc' := 315) O ⟨dL_rows_312, rfl⟩ E (tgt := 349) (by decide) (fun E => ?_) (fun E => ?_)
                    · refine g_iconst (pc' := 350) O ⟨dL_rows_349, rfl⟩ (v := (0 : Int32)) rfl ?_
                      refine g_istore (pc' := 352) O ⟨dL_rows_350, rfl⟩ (lv' := [(17, .int (0 : Int32)), (16, .int z_66), (0, .ref (ad 0)), (2, .ref b0), (3, .ref b1), (4, .ref b2), (5, .int (r2 (0 : Int32).toNatClampNeg)), (6, .ref b3), (7, .ref b4), (8, .long x8_6), (10, .int x10_7), (11, .int x11_8), (12, .int r_1), (13, .int y13_5), (14, .int x14_9), (15, .int y15_57), (19, .int x19_64)]) (by decide) rfl ?_
                      refine g_iinc (pc' := 355) O ⟨dL_rows_352, rfl⟩ (q := 16) (v := x19_64 + (1 : Int32)) (lv' := [(19, .int (x19_64 + (1 : Int32))), (17, .int (0 : Int32)), (16, .int z_66), (0, .ref (ad 0)), (2, .ref b0), (3, .ref b1), (4, .ref b2), (5, .int (r2 (0 : Int32).toNatClampNeg)), (6, .ref b3), (7, .ref b4), (8, .long x8_6), (10, .int x10_7), (11, .int x11_8), (12, .int r_1), (13, .int y13_5), (14, .int x14_9), (15, .int y15_57)]) rfl rfl (by decide) rfl ?_
                      refine g_goto (pc' := 358) O ⟨dL_rows_355, rfl⟩ (tgt := 256) (by decide) ?_
                      refine g_sub (lv' := [(0, .ref (ad 0)), (2, .ref b0), (3, .ref b1), (4, .ref b2), (5, .int (r2 (0 : Int32).toNatClampNeg)), (6, .ref b3), (7, .ref b4), (8, .long x8_6), (10, .int x10_7), (11, .int x11_8), (12, .int r_1), (13, .int y13_5), (14, .int x14_9), (15, .int y15_57), (16, .int z_66), (17, .int (0 : Int32)), (19, .int (x19_64 + (1 : Int32)))]) [3, 4, 5, 6, 7, 8, 9, 10, 11, 12, 13, 14, 15, 16, 2, 1, 0] rfl ?_
                      exact ih256 _ _ _ E
                    · refine g_aload (pc' := 317) O ⟨dL_rows_315, rfl⟩ (q := 7) rfl ?_
                      refine g_iload (pc' := 319) O ⟨dL_rows_317, rfl⟩ (q := 16) rfl ?_
                      refine g_iald (pc' := 320) O ⟨dL_rows_319, rfl⟩ zX5_4 E (fun E => ?_)
                      refine g_iload (pc' := 322) O ⟨dL_rows_320, rfl⟩ (q := 12) rfl ?_
                      refine jn1_of (P := fun (z_67 : Int32) => G l D X 21 (WX5 ad cy 6 24 4 6 6 b0 b1 b2 b3 b4) 2 12 (h, r0, r1, r2, r3_51, r_53) 330 [(0, .ref (ad 0)), (2, .ref b0), (3, .ref b1), (4, .ref b2), (5, .int (r2 (0 : Int32).toNatClampNeg)), (6, .ref b3), (7, .ref b4), (8, .long x8_6), (10, .int x10_7), (11, .int x11_8), (12, .int r_1), (13, .int y13_5), (14, .int x14_9), (15, .int y15_57), (16, .int z_66), (19, .int x19_64)] [.int z_67]) E ?_ ?_
                      · intro z_67 E
                        show G l D X 21 (WX5 ad cy 6 24 4 6 6 b0 b1 b2 b3 b4) 2 12 (h, r0, r1, r2, r3_51, r_53) 330 [(0, .ref (ad 0)), (2, .ref b0), (3, .ref b1), (4, .ref b2), (5, .int (r2 (0 : Int32).toNatClampNeg)), (6, .ref b3), (7, .ref b4), (8, .long x8_6), (10, .int x10_7), (11, .int x11_8), (12, .int r_1), (13, .int y13_5), (14, .int x14_9), (15, .int y15_57), (16, .int z_66), (19, .int x19_64)] [.int z_67]
                        refine g_iload (pc' := 332) O ⟨dL_rows_330, rfl⟩ (q := 15) rfl ?_
                        refine g_iload (pc' := 334) O ⟨dL_rows_332, rfl⟩ (q := 11) rfl ?_
                        refine jn1_of (P := fun (z_68 : Int32) => G l D X 21 (WX5 ad cy 6 24 4 6 6 b0 b1 b2 b3 b4) 2 12 (h, r0, r1, r2, r3_51, r_53) 342 [(0, .ref (ad 0)), (2, .ref b0), (3, .ref b1), (4, .ref b2), (5, .int (r2 (0 : Int32).toNatClampNeg)), (6, .ref b3), (7, .ref b4), (8, .long x8_6), (10, .int x10_7), (11, .int x11_8), (12, .int r_1), (13, .int y13_5), (14, .int x14_9), (15, .int y15_57), (16, .int z_66), (19, .int x19_64)] [.int z_68, .int z_67]) E ?_ ?_
                        · intro z_68 E
                          show G l D X 21 (WX5 ad cy 6 24 4 6 6 b0 b1 b2 b3 b4) 2 12 (h, r0, r1, r2, r3_51, r_53) 342 [(0, .ref (ad 0)), (2, .ref b0), (3, .ref b1), (4, .ref b2), (5, .int (r2 (0 : Int32).toNatClampNeg)), (6, .ref b3), (7, .ref b4), (8, .long x8_6), (10, .int x10_7), (11, .int x11_8), (12, .int r_1), (13, .int y13_5), (14, .int x14_9), (15, .int y15_57), (16, .int z_66), (19, .int x19_64)] [.int z_68, .int z_67]
                          refine g_icmp_ne (pc' := 345) O ⟨dL_rows_342, rfl⟩ E (tgt := 349) (by decide) (fun E => ?_) (fun E => ?_)
                          · refine g_iconst (pc' := 350) O ⟨dL_rows_349, rfl⟩ (v := (0 : Int32)) rfl ?_
                            refine g_istore (pc' := 352) O ⟨dL_rows_350, rfl⟩ (lv' := [(17, .int (0 : Int32)), (0, .ref (ad 0)), (2, .ref b0), (3, .ref b1), (4, .ref b2), (5, .int (r2 (0 : Int32).toNatClampNeg)), (6, .ref b3), (7, .ref b4), (8, .long x8_6), (10, .int x10_7), (11, .int x11_8), (12, .int r_1), (13, .int y13_5), (14, .int x14_9), (15, .int y15_57), (16, .int z_66), (19, .int x19_64)]) (by decide) rfl ?_
                            refine g_iinc (pc' := 355) O ⟨dL_rows_352, rfl⟩ (q := 16) (v := x19_64 + (1 : Int32)) (lv' := [(19, .int (x19_64 + (1 : Int32))), (17, .int (0 : Int32)), (0, .ref (ad 0)), (2, .ref b0), (3, .ref b1), (4, .ref b2), (5, .int (r2 (0 : Int32).toNatClampNeg)), (6, .ref b3), (7, .ref b4), (8, .long x8_6), (10, .int x10_7), (11, .int x11_8), (12, .int r_1), (13, .int y13_5), (14, .int x14_9), (15, .int y15_57), (16, .int z_66)]) rfl rfl (by decide) rfl ?_
                            refine g_goto (pc' := 358) O ⟨dL_rows_355, rfl⟩ (tgt := 256) (by decide) ?_
                            refine g_sub (lv' := [(0, .ref (ad 0)), (2, .ref b0), (3, .ref b1), (4, .ref b2), (5, .int (r2 (0 : Int32).toNatClampNeg)), (6, .ref b3), (7, .ref b4), (8, .long x8_6), (10, .int x10_7), (11, .int x11_8), (12, .int r_1), (13, .int y13_5), (14, .int x14_9), (15, .int y15_57), (16, .int z_66), (17, .int (0 : Int32)), (19, .int (x19_64 + (1 : Int32)))]) [2, 3, 4, 5, 6, 7, 8, 9, 10, 11, 12, 13, 14, 15, 16, 1, 0] rfl ?_
                            exact ih256 _ _ _ E
                          · refine g_iconst (pc' := 346) O ⟨dL_rows_345, rfl⟩ (v := (1 : Int32)) rfl ?_
                            refine g_goto (pc' := 349) O ⟨dL_rows_346, rfl⟩ (tgt := 350) (by decide) ?_
                            refine g_istore (pc' := 352) O ⟨dL_rows_350, rfl⟩ (lv' := [(17, .int (1 : Int32)), (0, .ref (ad 0)), (2, .ref b0), (3, .ref b1), (4, .ref b2), (5, .int (r2 (0 : Int32).toNatClampNeg)), (6, .ref b3), (7, .ref b4), (8, .long x8_6), (10, .int x10_7), (11, .int x11_8), (12, .int r_1), (13, .int y13_5), (14, .int x14_9), (15, .int y15_57), (16, .int z_66), (19, .int x19_64)]) (by decide) rfl ?_
                            refine g_iinc (pc' := 355) O ⟨dL_rows_352, rfl⟩ (q := 16) (v := x19_64 + (1 : Int32)) (lv' := [(19, .int (x19_64 + (1 : Int32))), (17, .int (1 : Int32)), (0, .ref (ad 0)), (2, .ref b0), (3, .ref b1), (4, .ref b2), (5, .int (r2 (0 : Int32).toNatClampNeg)), (6, .ref b3), (7, .ref b4), (8, .long x8_6), (10, .int x10_7), (11, .int x11_8), (12, .int r_1), (13, .int y13_5), (14, .int x14_9), (15, .int y15_57), (16, .int z_66)]) rfl rfl (by decide) rfl ?_
                            refine g_goto (pc' := 358) O ⟨dL_rows_355, rfl⟩ (tgt := 256) (by decide) ?_
                            refine g_sub (lv' := [(0, .ref (ad 0)), (2, .ref b0), (3, .ref b1), (4, .ref b2), (5, .int (r2 (0 : Int32).toNatClampNeg)), (6, .ref b3), (7, .ref b4), (8, .long x8_6), (10, .int x10_7), (11, .int x11_8), (12, .int r_1), (13, .int y13_5), (14, .int x14_9), (15, .int y15_57), (16, .int z_66), (17, .int (1 : Int32)), (19, .int (x19_64 + (1 : Int32)))]) [2, 3, 4, 5, 6, 7, 8, 9, 10, 11, 12, 13, 14, 15, 16, 1, 0] rfl ?_
                            exact ih256 _ _ _ E
                        · intro k342 hk342 E
                          refine g_icmp_ge (pc' := 337) O ⟨dL_rows_334, rfl⟩ E (tgt := 341) (by decide) (fun E => ?_) (fun E => ?_)
                          · refine g_iconst (pc' := 342) O ⟨dL_rows_341, rfl⟩ (v := (0 : Int32)) rfl ?_
                            exact hk342 _ E
                          · refine g_iconst (pc' := 338) O ⟨dL_rows_337, rfl⟩ (v := (1 : Int32)) rfl ?_
                            refine g_goto (pc' := 341) O ⟨dL_rows_338, rfl⟩ (tgt := 342) (by decide) ?_
                            exact hk342 _ E
                      · intro k330 hk330 E
                        refine g_icmp_ge (pc' := 325) O ⟨dL_rows_322, rfl⟩ E (tgt := 329) (by decide) (fun E => ?_) (fun E => ?_)
                        · refine g_iconst (pc' := 330) O ⟨dL_rows_329, rfl⟩ (v := (0 : Int32)) rfl ?_
                          refine g_sub (lv' := [(0, .ref (ad 0)), (2, .ref b0), (3, .ref b1), (4, .ref b2), (5, .int (r2 (0 : Int32).toNatClampNeg)), (6, .ref b3), (7, .ref b4), (8, .long x8_6), (10, .int x10_7), (11, .int x11_8), (12, .int r_1), (13, .int y13_5), (14, .int x14_9), (15, .int y15_57), (16, .int z_66), (19, .int x19_64)]) [1, 2, 3, 4, 5, 6, 7, 8, 9, 10, 11, 12, 13, 14, 0, 16] rfl ?_
                          exact hk330 _ E
                        · refine g_iconst (pc' := 326) O ⟨dL_rows_325, rfl⟩ (v := (1 : Int32)) rfl ?_
                          refine g_goto (pc' := 329) O ⟨dL_rows_326, rfl⟩ (tgt := 330) (by decide) ?_
                          refine g_sub (lv' := [(0, .ref (ad 0)), (2, .ref b0), (3, .ref b1), (4, .ref b2), (5, .int (r2 (0 : Int32).toNatClampNeg)), (6, .ref b3), (7, .ref b4), (8, .long x8_6), (10, .int x10_7), (11, .int x11_8), (12, .int r_1), (13, .int y13_5), (14, .int x14_9), (15, .int y15_57), (16, .int z_66), (19, .int x19_64)]) [1, 2, 3, 4, 5, 6, 7, 8, 9, 10, 11, 12, 13, 14, 0, 16] rfl ?_
                          exact hk330 _ E
                  · intro k308 hk308 E
                    refine g_icmp_le (pc' := 301) O ⟨dL_rows_298, rfl⟩ E (tgt := 306) (by decide) (fun E => ?_) (fun E => ?_)
                    · refine g_iload (pc' := 308) O ⟨dL_rows_306, rfl⟩ (q := 15) rfl ?_
                      refine g_sub (lv' := [(0, .ref (ad 0)), (2, .ref b0), (3, .ref b1), (4, .ref b2), (5, .int (r2 (0 : Int32).toNatClampNeg)), (6, .ref b3), (7, .ref b4), (8, .long x8_6), (10, .int x10_7), (11, .int x11_8), (12, .int r_1), (13, .int y13_5), (14, .int x14_9), (15, .int y15_57), (17, .int x17_63), (19, .int x19_64)]) [1, 2, 3, 4, 5, 6, 7, 8, 9, 10, 11, 12, 13, 14, 16, 17] rfl ?_
                      exact hk308 _ E
                    · refine g_iload (pc' := 303) O ⟨dL_rows_301, rfl⟩ (q := 0) rfl ?_
                      refine g_goto (pc' := 306) O ⟨dL_rows_303, rfl⟩ (tgt := 308) (by decide) ?_
                      refine g_sub (lv' := [(0, .ref (ad 0)), (2, .ref b0), (3, .ref b1), (4, .ref b2), (5, .int (r2 (0 : Int32).toNatClampNeg)), (6, .ref b3), (7, .ref b4), (8, .long x8_6), (10, .int x10_7), (11, .int x11_8), (12, .int r_1), (13, .int y13_5), (14, .int x14_9), (15, .int y15_57), (17, .int x17_63), (19, .int x19_64)]) [1, 2, 3, 4, 5, 6, 7, 8, 9, 10, 11, 12, 13, 14, 16, 17] rfl ?_
                      exact hk308 _ E
                · intro k292 hk292 E
                  refine g_icmp_le (pc' := 273) O ⟨dL_rows_270, rfl⟩ E (tgt := 284) (by decide) (fun E => ?_) (fun E => ?_)
                  · refine g_iload (pc' := 286) O ⟨dL_rows_284, rfl⟩ (q := 16) rfl ?_
                    refine g_aload (pc' := 288) O ⟨dL_rows_286, rfl⟩ (q := 6) rfl ?_
                    refine g_iload (pc' := 290) O ⟨dL_rows_288, rfl⟩ (q := 16) rfl ?_
                    refine g_iald (pc' := 291) O ⟨dL_rows_290, rfl⟩ zX5_4 E (fun E => ?_)
                    refine g_isub (pc' := 292) O ⟨dL_rows_291, rfl⟩ ?_
                    exact hk292 _ E
                  · refine g_aload (pc' := 275) O ⟨dL_rows_273, rfl⟩ (q := 6) rfl ?_
                    refine g_iload (pc' := 277) O ⟨dL_rows_275, rfl⟩ (q := 16) rfl ?_
                    refine g_iald (pc' := 278) O ⟨dL_rows_277, rfl⟩ zX5_4 E (fun E => ?_)
                    refine g_iload (pc' := 280) O ⟨dL_rows_278, rfl⟩ (q := 16) rfl ?_
                    refine g_isub (pc' := 281) O ⟨dL_rows_280, rfl⟩ ?_
                    refine g_goto (pc' := 284) O ⟨dL_rows_281, rfl⟩ (tgt := 292) (by decide) ?_
                    exact hk292 _ E
          · refine g_iconst (pc' := 246) O ⟨dL_rows_245, rfl⟩ (v := (1 : Int32)) rfl ?_
            refine g_goto (pc' := 249) O ⟨dL_rows_246, rfl⟩ (tgt := 250) (by decide) ?_
            refine g_iadd (pc' := 251) O ⟨dL_rows_250, rfl⟩ ?_
            refine g_nm E (fun y15_69 E => ?_)
            refine g_istore (pc' := 253) O ⟨dL_rows_251, rfl⟩ (lv' := [(15, .int y15_69), (0, .ref (ad 0)), (2, .ref b0), (3, .ref b1), (4, .ref b2), (5, .int (r2 (0 : Int32).toNatClampNeg)), (6, .ref b3), (7, .ref b4), (8, .long x8_6), (10, .int x10_7), (11, .int x11_8), (12, .int r_1), (13, .int y13_5), (14, .int x14_9), (16, .int x16_48), (17, .int x17_49), (18, .int x18_50)]) (by decide) rfl ?_
            refine g_iconst (pc' := 254) O ⟨dL_rows_253, rfl⟩ (v := (0 : Int32)) rfl ?_
            refine g_istore (pc' := 256) O ⟨dL_rows_254, rfl⟩ (lv' := [(19, .int (0 : Int32)), (15, .int y15_69), (0, .ref (ad 0)), (2, .ref b0), (3, .ref b1), (4, .ref b2), (5, .int (r2 (0 : Int32).toNatClampNeg)), (6, .ref b3), (7, .ref b4), (8, .long x8_6), (10, .int x10_7), (11, .int x11_8), (12, .int r_1), (13, .int y13_5), (14, .int x14_9), (16, .int x16_48), (17, .int x17_49), (18, .int x18_50)]) (by decide) rfl ?_
            refine jn2_of (P := fun (x16_70 : Int32) (x17_71 : Int32) => G l D X 21 (WX5 ad cy 6 24 4 6 6 b0 b1 b2 b3 b4) 2 12 (h, r0, r1, r2, r3_51, r_53) 358 [(0, .ref (ad 0)), (2, .ref b0), (3, .ref b1), (4, .ref b2), (5, .int (r2 (0 : Int32).toNatClampNeg)), (6, .ref b3), (7, .ref b4), (8, .long x8_6), (10, .int x10_7), (11, .int x11_8), (12, .int r_1), (13, .int y13_5), (14, .int x14_9), (15, .int y15_69), (16, .int x16_70), (17, .int x17_71)] []) E ?_ ?_
            · intro x16_70 x17_71 E
              show G l D X 21 (WX5 ad cy 6 24 4 6 6 b0 b1 b2 b3 b4) 2 12 (h, r0, r1, r2, r3_51, r_53) 358 [(0, .ref (ad 0)), (2, .ref b0), (3, .ref b1), (4, .ref b2), (5, .int (r2 (0 : Int32).toNatClampNeg)), (6, .ref b3), (7, .ref b4), (8, .long x8_6), (10, .int x10_7), (11, .int x11_8), (12, .int r_1), (13, .int y13_5), (14, .int x14_9), (15, .int y15_69), (16, .int x16_70), (17, .int x17_71)] []
              refine g_aload (pc' := 360) O ⟨dL_rows_358, rfl⟩ (q := 5) rfl ?_
              refine g_iload (pc' := 362) O ⟨dL_rows_360, rfl⟩ (q := 4) rfl ?_
              obtain ⟨r_72, c_73, E⟩ := bd_of E
              refine g_MSi (pc' := 365) O hN ⟨dL_rows_362, rfl⟩ (y := yL_next) (As := [.ref b3, .int (r2 (0 : Int32).toNatClampNeg)]) (st := []) (put := (fun g => (h, r0, r1, r2, g, r_53))) sub_X5_A3 (t_L_next l D cy hfl b3 c_73) kw_553 kw_24 kw_551 kw_552 hd_L_next ⟨Nat.le_of_ble_eq_true rfl, Nat.le_of_ble_eq_true rfl⟩ ⟨Nat.le_of_ble_eq_true rfl, Nat.le_of_ble_eq_true rfl⟩ rfl (Nat.le_of_ble_eq_true rfl) ?_
              show G l D X 21 (WX5 ad cy 6 24 4 6 6 b0 b1 b2 b3 b4) 2 12 (h, r0, r1, r2, r_72.2, r_53) 365 [(0, .ref (ad 0)), (2, .ref b0), (3, .ref b1), (4, .ref b2), (5, .int (r2 (0 : Int32).toNatClampNeg)), (6, .ref b3), (7, .ref b4), (8, .long x8_6), (10, .int x10_7), (11, .int x11_8), (12, .int r_1), (13, .int y13_5), (14, .int x14_9), (15, .int y15_69), (16, .int x16_70), (17, .int x17_71)] [.int r_72.1]
              refine g_istore (pc' := 367) O ⟨dL_rows_365, rfl⟩ (lv' := [(18, .int r_72.1), (0, .ref (ad 0)), (2, .ref b0), (3, .ref b1), (4, .ref b2), (5, .int (r2 (0 : Int32).toNatClampNeg)), (6, .ref b3), (7, .ref b4), (8, .long x8_6), (10, .int x10_7), (11, .int x11_8), (12, .int r_1), (13, .int y13_5), (14, .int x14_9), (15, .int y15_69), (16, .int x16_70), (17, .int x17_71)]) (by decide) rfl ?_
              refine g_goto (pc' := 370) O ⟨dL_rows_367, rfl⟩ (tgt := 216) (by decide) ?_
              refine g_sub (lv' := [(0, .ref (ad 0)), (2, .ref b0), (3, .ref b1), (4, .ref b2), (5, .int (r2 (0 : Int32).toNatClampNeg)), (6, .ref b3), (7, .ref b4), (8, .long x8_6), (10, .int x10_7), (11, .int x11_8), (12, .int r_1), (13, .int y13_5), (14, .int x14_9), (15, .int y15_69), (16, .int x16_70), (17, .int x17_71), (18, .int r_72.1)]) [1, 2, 3, 4, 5, 6, 7, 8, 9, 10, 11, 12, 13, 14, 15, 16, 0] rfl ?_
              exact ih216 _ _ _ _ _ _ E
            · intro k358 hk358 E
              refine g_sub (lv' := [(0, .ref (ad 0)), (2, .ref b0), (3, .ref b1), (4, .ref b2), (5, .int (r2 (0 : Int32).toNatClampNeg)), (6, .ref b3), (7, .ref b4), (8, .long x8_6), (10, .int x10_7), (11, .int x11_8), (12, .int r_1), (13, .int y13_5), (14, .int x14_9), (15, .int y15_69), (16, .int x16_48), (17, .int x17_49), (19, .int (0 : Int32))]) [2, 3, 4, 5, 6, 7, 8, 9, 10, 11, 12, 13, 14, 1, 15, 16, 0] rfl ?_
              refine fx3_of (P := fun (x16_74 : Int32) (x17_75 : Int32) (x19_76 : Int32) => G l D X 21 (WX5 ad cy 6 24 4 6 6 b0 b1 b2 b3 b4) 2 12 (h, r0, r1, r2, r3_51, r_53) 256 [(0, .ref (ad 0)), (2, .ref b0), (3, .ref b1), (4, .ref b2), (5, .int (r2 (0 : Int32).toNatClampNeg)), (6, .ref b3), (7, .ref b4), (8, .long x8_6), (10, .int x10_7), (11, .int x11_8), (12, .int r_1), (13, .int y13_5), (14, .int x14_9), (15, .int y15_69), (16, .int x16_74), (17, .int x17_75), (19, .int x19_76)] []) ?_ _ _ _ _ E
              intro self ih256 x16_74 x17_75 x19_76 E
              show G l D X 21 (WX5 ad cy 6 24 4 6 6 b0 b1 b2 b3 b4) 2 12 (h, r0, r1, r2, r3_51, r_53) 256 [(0, .ref (ad 0)), (2, .ref b0), (3, .ref b1), (4, .ref b2), (5, .int (r2 (0 : Int32).toNatClampNeg)), (6, .ref b3), (7, .ref b4), (8, .long x8_6), (10, .int x10_7), (11, .int x11_8), (12, .int r_1), (13, .int y13_5), (14, .int x14_9), (15, .int y15_69), (16, .int x16_74), (17, .int x17_75), (19, .int x19_76)] []
              unfold L_L_rows_256 at E
              refine g_iload (pc' := 258) O ⟨dL_rows_256, rfl⟩ (q := 16) rfl ?_
              refine g_iload (pc' := 260) O ⟨dL_rows_258, rfl⟩ (q := 4) rfl ?_
              refine g_icmp_ge (pc' := 263) O ⟨dL_rows_260, rfl⟩ E (tgt := 358) (by decide) (fun E => ?_) (fun E => ?_)
              · refine g_sub (lv' := [(0, .ref (ad 0)), (2, .ref b0), (3, .ref b1), (4, .ref b2), (5, .int (r2 (0 : Int32).toNatClampNeg)), (6, .ref b3), (7, .ref b4), (8, .long x8_6), (10, .int x10_7), (11, .int x11_8), (12, .int r_1), (13, .int y13_5), (14, .int x14_9), (15, .int y15_69), (16, .int x16_74), (17, .int x17_75)]) [0, 1, 2, 3, 4, 5, 6, 7, 8, 9, 10, 11, 12, 13, 14, 15] rfl ?_
                exact hk358 _ _ E
              · refine g_aload (pc' := 265) O ⟨dL_rows_263, rfl⟩ (q := 6) rfl ?_
                refine g_iload (pc' := 267) O ⟨dL_rows_265, rfl⟩ (q := 16) rfl ?_
                refine g_iald (pc' := 268) O ⟨dL_rows_267, rfl⟩ zX5_4 E (fun E => ?_)
                refine g_iload (pc' := 270) O ⟨dL_rows_268, rfl⟩ (q := 16) rfl ?_
                refine jn1_of (P := fun (z_77 : Int32) => G l D X 21 (WX5 ad cy 6 24 4 6 6 b0 b1 b2 b3 b4) 2 12 (h, r0, r1, r2, r3_51, r_53) 292 [(0, .ref (ad 0)), (2, .ref b0), (3, .ref b1), (4, .ref b2), (5, .int (r2 (0 : Int32).toNatClampNeg)), (6, .ref b3), (7, .ref b4), (8, .long x8_6), (10, .int x10_7), (11, .int x11_8), (12, .int r_1), (13, .int y13_5), (14, .int x14_9), (15, .int y15_69), (16, .int x16_74), (17, .int x17_75), (19, .int x19_76)] [.int z_77]) E ?_ ?_
                · intro z_77 E
                  show G l D X 21 (WX5 ad cy 6 24 4 6 6 b0 b1 b2 b3 b4) 2 12 (h, r0, r1, r2, r3_51, r_53) 292 [(0, .ref (ad 0)), (2, .ref b0), (3, .ref b1), (4, .ref b2), (5, .int (r2 (0 : Int32).toNatClampNeg)), (6, .ref b3), (7, .ref b4), (8, .long x8_6), (10, .int x10_7), (11, .int x11_8), (12, .int r_1), (13, .int y13_5), (14, .int x14_9), (15, .int y15_69), (16, .int x16_74), (17, .int x17_75), (19, .int x19_76)] [.int z_77]
                  refine g_istore (pc' := 294) O ⟨dL_rows_292, rfl⟩ (lv' := [(20, .int z_77), (0, .ref (ad 0)), (2, .ref b0), (3, .ref b1), (4, .ref b2), (5, .int (r2 (0 : Int32).toNatClampNeg)), (6, .ref b3), (7, .ref b4), (8, .long x8_6), (10, .int x10_7), (11, .int x11_8), (12, .int r_1), (13, .int y13_5), (14, .int x14_9), (15, .int y15_69), (16, .int x16_74), (17, .int x17_75), (19, .int x19_76)]) (by decide) rfl ?_
                  refine g_iload (pc' := 296) O ⟨dL_rows_294, rfl⟩ (q := 0) rfl ?_
                  refine g_iload (pc' := 298) O ⟨dL_rows_296, rfl⟩ (q := 15) rfl ?_
                  refine jn1_of (P := fun (z_78 : Int32) => G l D X 21 (WX5 ad cy 6 24 4 6 6 b0 b1 b2 b3 b4) 2 12 (h, r0, r1, r2, r3_51, r_53) 308 [(0, .ref (ad 0)), (2, .ref b0), (3, .ref b1), (4, .ref b2), (5, .int (r2 (0 : Int32).toNatClampNeg)), (6, .ref b3), (7, .ref b4), (8, .long x8_6), (10, .int x10_7), (11, .int x11_8), (12, .int r_1), (13, .int y13_5), (14, .int x14_9), (15, .int y15_69), (17, .int x17_75), (19, .int x19_76)] [.int z_78]) E ?_ ?_
                  · intro z_78 E
                    show G l D X 21 (WX5 ad cy 6 24 4 6 6 b0 b1 b2 b3 b4) 2 12 (h, r0, r1, r2, r3_51, r_53) 308 [(0, .ref (ad 0)), (2, .ref b0), (3, .ref b1), (4, .ref b2), (5, .int (r2 (0 : Int32).toNatClampNeg)), (6, .ref b3), (7, .ref b4), (8, .long x8_6), (10, .int x10_7), (11, .int x11_8), (12, .int r_1), (13, .int y13_5), (14, .int x14_9), (15, .int y15_69), (17, .int x17_75), (19, .int x19_76)] [.int z_78]
                    refine g_istore (pc' := 310) O ⟨dL_rows_308, rfl⟩ (lv' := [(16, .int z_78), (0, .ref (ad 0)), (2, .ref b0), (3, .ref b1), (4, .ref b2), (5, .int (r2 (0 : Int32).toNatClampNeg)), (6, .ref b3), (7, .ref b4), (8, .long x8_6), (10, .int x10_7), (11, .int x11_8), (12, .int r_1), (13, .int y13_5), (14, .int x14_9), (15, .int y15_69), (17, .int x17_75), (19, .int x19_76)]) (by decide) rfl ?_
                    refine g_iload (pc' := 312) O ⟨dL_rows_310, rfl⟩ (q := 15) rfl ?_
                    refine g_if_eq (pc' := 315) O ⟨dL_rows_312, rfl⟩ E (tgt := 349) (by decide) (fun E => ?_) (fun E => ?_)
                    · refine g_iconst (pc' := 350) O ⟨dL_rows_349, rfl⟩ (v := (0 : Int32)) rfl ?_
                      refine g_istore (pc' := 352) O ⟨dL_rows_350, rfl⟩ (lv' := [(17, .int (0 : Int32)), (16, .int z_78), (0, .ref (ad 0)), (2, .ref b0), (3, .ref b1), (4, .ref b2), (5, .int (r2 (0 : Int32).toNatClampNeg)), (6, .ref b3), (7, .ref b4), (8, .long x8_6), (10, .int x10_7), (11, .int x11_8), (12, .int r_1), (13, .int y13_5), (14, .int x14_9), (15, .int y15_69), (19, .int x19_76)]) (by decide) rfl ?_
                      refine g_iinc (pc' := 355) O ⟨dL_rows_352, rfl⟩ (q := 16) (v := x19_76 + (1 : Int32)) (lv' := [(19, .int (x19_76 + (1 : Int32))), (17, .int (0 : Int32)), (16, .int z_78), (0, .ref (ad 0)), (2, .ref b0), (3, .ref b1), (4, .ref b2), (5, .int (r2 (0 : Int32).toNatClampNeg)), (6, .ref b3), (7, .ref b4), (8, .long x8_6), (10, .int x10_7), (11, .int x11_8), (12, .int r_1), (13, .int y13_5), (14, .int x14_9), (15, .int y15_69)]) rfl rfl (by decide) rfl ?_
                      refine g_goto (pc' := 358) O ⟨dL_rows_355, rfl⟩ (tgt := 256) (by decide) ?_
                      refine g_sub (lv' := [(0, .ref (ad 0)), (2, .ref b0), (3, .ref b1), (4, .ref b2), (5, .int (r2 (0 : Int32).toNatClampNeg)), (6, .ref b3), (7, .ref b4), (8, .long x8_6), (10, .int x10_7), (11, .int x11_8), (12, .int r_1), (13, .int y13_5), (14, .int x14_9), (15, .int y15_69), (16, .int z_78), (17, .int (0 : Int32)), (19, .int (x19_76 + (1 : Int32)))]) [3, 4, 5, 6, 7, 8, 9, 10, 11, 12, 13, 14, 15, 16, 2, 1, 0] rfl ?_
                      exact ih256 _ _ _ E
                    · refine g_aload (pc' := 317) O ⟨dL_rows_315, rfl⟩ (q := 7) rfl ?_
                      refine g_iload (pc' := 319) O ⟨dL_rows_317, rfl⟩ (q := 16) rfl ?_
                      refine g_iald (pc' := 320) O ⟨dL_rows_319, rfl⟩ zX5_4 E (fun E => ?_)
                      refine g_iload (pc' := 322) O ⟨dL_rows_320, rfl⟩ (q := 12) rfl ?_
                      refine jn1_of (P := fun (z_79 : Int32) => G l D X 21 (WX5 ad cy 6 24 4 6 6 b0 b1 b2 b3 b4) 2 12 (h, r0, r1, r2, r3_51, r_53) 330 [(0, .ref (ad 0)), (2, .ref b0), (3, .ref b1), (4, .ref b2), (5, .int (r2 (0 : Int32).toNatClampNeg)), (6, .ref b3), (7, .ref b4), (8, .long x8_6), (10, .int x10_7), (11, .int x11_8), (12, .int r_1), (13, .int y13_5), (14, .int x14_9), (15, .int y15_69), (16, .int z_78), (19, .int x19_76)] [.int z_79]) E ?_ ?_
                      · intro z_79 E
                        show G l D X 21 (WX5 ad cy 6 24 4 6 6 b0 b1 b2 b3 b4) 2 12 (h, r0, r1, r2, r3_51, r_53) 330 [(0, .ref (ad 0)), (2, .ref b0), (3, .ref b1), (4, .ref b2), (5, .int (r2 (0 : Int32).toNatClampNeg)), (6, .ref b3), (7, .ref b4), (8, .long x8_6), (10, .int x10_7), (11, .int x11_8), (12, .int r_1), (13, .int y13_5), (14, .int x14_9), (15, .int y15_69), (16, .int z_78), (19, .int x19_76)] [.int z_79]
                        refine g_iload (pc' := 332) O ⟨dL_rows_330, rfl⟩ (q := 15) rfl ?_
                        refine g_iload (pc' := 334) O ⟨dL_rows_332, rfl⟩ (q := 11) rfl ?_
                        refine jn1_of (P := fun (z_80 : Int32) => G l D X 21 (WX5 ad cy 6 24 4 6 6 b0 b1 b2 b3 b4) 2 12 (h, r0, r1, r2, r3_51, r_53) 342 [(0, .ref (ad 0)), (2, .ref b0), (3, .ref b1), (4, .ref b2), (5, .int (r2 (0 : Int32).toNatClampNeg)), (6, .ref b3), (7, .ref b4), (8, .long x8_6), (10, .int x10_7), (11, .int x11_8), (12, .int r_1), (13, .int y13_5), (14, .int x14_9), (15, .int y15_69), (16, .int z_78), (19, .int x19_76)] [.int z_80, .int z_79]) E ?_ ?_
                        · intro z_80 E
                          show G l D X 21 (WX5 ad cy 6 24 4 6 6 b0 b1 b2 b3 b4) 2 12 (h, r0, r1, r2, r3_51, r_53) 342 [(0, .ref (ad 0)), (2, .ref b0), (3, .ref b1), (4, .ref b2), (5, .int (r2 (0 : Int32).toNatClampNeg)), (6, .ref b3), (7, .ref b4), (8, .long x8_6), (10, .int x10_7), (11, .int x11_8), (12, .int r_1), (13, .int y13_5), (14, .int x14_9), (15, .int y15_69), (16, .int z_78), (19, .int x19_76)] [.int z_80, .int z_79]
                          refine g_icmp_ne (pc' := 345) O ⟨dL_rows_342, rfl⟩ E (tgt := 349) (by decide) (fun E => ?_) (fun E => ?_)
                          · refine g_iconst (pc' := 350) O ⟨dL_rows_349, rfl⟩ (v := (0 : Int32)) rfl ?_
                            refine g_istore (pc' := 352) O ⟨dL_rows_350, rfl⟩ (lv' := [(17, .int (0 : Int32)), (0, .ref (ad 0)), (2, .ref b0), (3, .ref b1), (4, .ref b2), (5, .int (r2 (0 : Int32).toNatClampNeg)), (6, .ref b3), (7, .ref b4), (8, .long x8_6), (10, .int x10_7), (11, .int x11_8), (12, .int r_1), (13, .int y13_5), (14, .int x14_9), (15, .int y15_69), (16, .int z_78), (19, .int x19_76)]) (by decide) rfl ?_
                            refine g_iinc (pc' := 355) O ⟨dL_rows_352, rfl⟩ (q := 16) (v := x19_76 + (1 : Int32)) (lv' := [(19, .int (x19_76 + (1 : Int32))), (17, .int (0 : Int32)), (0, .ref (ad 0)), (2, .ref b0), (3, .ref b1), (4, .ref b2), (5, .int (r2 (0 : Int32).toNatClampNeg)), (6, .ref b3), (7, .ref b4), (8, .long x8_6), (10, .int x10_7), (11, .int x11_8), (12, .int r_1), (13, .int y13_5), (14, .int x14_9), (15, .int y15_69), (16, .int z_78)]) rfl rfl (by decide) rfl ?_
                            refine g_goto (pc' := 358) O ⟨dL_rows_355, rfl⟩ (tgt := 256) (by decide) ?_
                            refine g_sub (lv' := [(0, .ref (ad 0)), (2, .ref b0), (3, .ref b1), (4, .ref b2), (5, .int (r2 (0 : Int32).toNatClampNeg)), (6, .ref b3), (7, .ref b4), (8, .long x8_6), (10, .int x10_7), (11, .int x11_8), (12, .int r_1), (13, .int y13_5), (14, .int x14_9), (15, .int y15_69), (16, .int z_78), (17, .int (0 : Int32)), (19, .int (x19_76 + (1 : Int32)))]) [2, 3, 4, 5, 6, 7, 8, 9, 10, 11, 12, 13, 14, 15, 16, 1, 0] rfl ?_
                            exact ih256 _ _ _ E
                          · refine g_iconst (pc' := 346) O ⟨dL_rows_345, rfl⟩ (v := (1 : Int32)) rfl ?_
                            refine g_goto (pc' := 349) O ⟨dL_rows_346, rfl⟩ (tgt := 350) (by decide) ?_
                            refine g_istore (pc' := 352) O ⟨dL_rows_350, rfl⟩ (lv' := [(17, .int (1 : Int32)), (0, .ref (ad 0)), (2, .ref b0), (3, .ref b1), (4, .ref b2), (5, .int (r2 (0 : Int32).toNatClampNeg)), (6, .ref b3), (7, .ref b4), (8, .long x8_6), (10, .int x10_7), (11, .int x11_8), (12, .int r_1), (13, .int y13_5), (14, .int x14_9), (15, .int y15_69), (16, .int z_78), (19, .int x19_76)]) (by decide) rfl ?_
                            refine g_iinc (pc' := 355) O ⟨dL_rows_352, rfl⟩ (q := 16) (v := x19_76 + (1 : Int32)) (lv' := [(19, .int (x19_76 + (1 : Int32))), (17, .int (1 : Int32)), (0, .ref (ad 0)), (2, .ref b0), (3, .ref b1), (4, .ref b2), (5, .int (r2 (0 : Int32).toNatClampNeg)), (6, .ref b3), (7, .ref b4), (8, .long x8_6), (10, .int x10_7), (11, .int x11_8), (12, .int r_1), (13, .int y13_5), (14, .int x14_9), (15, .int y15_69), (16, .int z_78)]) rfl rfl (by decide) rfl ?_
                            refine g_goto (pc' := 358) O ⟨dL_rows_355, rfl⟩ (tgt := 256) (by decide) ?_
                            refine g_sub (lv' := [(0, .ref (ad 0)), (2, .ref b0), (3, .ref b1), (4, .ref b2), (5, .int (r2 (0 : Int32).toNatClampNeg)), (6, .ref b3), (7, .ref b4), (8, .long x8_6), (10, .int x10_7), (11, .int x11_8), (12, .int r_1), (13, .int y13_5), (14, .int x14_9), (15, .int y15_69), (16, .int z_78), (17, .int (1 : Int32)), (19, .int (x19_76 + (1 : Int32)))]) [2, 3, 4, 5, 6, 7, 8, 9, 10, 11, 12, 13, 14, 15, 16, 1, 0] rfl ?_
                            exact ih256 _ _ _ E
                        · intro k342 hk342 E
                          refine g_icmp_ge (pc' := 337) O ⟨dL_rows_334, rfl⟩ E (tgt := 341) (by decide) (fun E => ?_) (fun E => ?_)
                          · refine g_iconst (pc' := 342) O ⟨dL_rows_341, rfl⟩ (v := (0 : Int32)) rfl ?_
                            exact hk342 _ E
                          · refine g_iconst (pc' := 338) O ⟨dL_rows_337, rfl⟩ (v := (1 : Int32)) rfl ?_
                            refine g_goto (pc' := 341) O ⟨dL_rows_338, rfl⟩ (tgt := 342) (by decide) ?_
                            exact hk342 _ E
                      · intro k330 hk330 E
                        refine g_icmp_ge (pc' := 325) O ⟨dL_rows_322, rfl⟩ E (tgt := 329) (by decide) (fun E => ?_) (fun E => ?_)
                        · refine g_iconst (pc' := 330) O ⟨dL_rows_329, rfl⟩ (v := (0 : Int32)) rfl ?_
                          refine g_sub (lv' := [(0, .ref (ad 0)), (2, .ref b0), (3, .ref b1), (4, .ref b2), (5, .int (r2 (0 : Int32).toNatClampNeg)), (6, .ref b3), (7, .ref b4), (8, .long x8_6), (10, .int x10_7), (11, .int x11_8), (12, .int r_1), (13, .int y13_5), (14, .int x14_9), (15, .int y15_69), (16, .int z_78), (19, .int x19_76)]) [1, 2, 3, 4, 5, 6, 7, 8, 9, 10, 11, 12, 13, 14, 0, 16] rfl ?_
                          exact hk330 _ E
                        · refine g_iconst (pc' := 326) O ⟨dL_rows_325, rfl⟩ (v := (1 : Int32)) rfl ?_
                          refine g_goto (pc' := 329) O ⟨dL_rows_326, rfl⟩ (tgt := 330) (by decide) ?_
                          refine g_sub (lv' := [(0, .ref (ad 0)), (2, .ref b0), (3, .ref b1), (4, .ref b2), (5, .int (r2 (0 : Int32).toNatClampNeg)), (6, .ref b3), (7, .ref b4), (8, .long x8_6), (10, .int x10_7), (11, .int x11_8), (12, .int r_1), (13, .int y13_5), (14, .int x14_9), (15, .int y15_69), (16, .int z_78), (19, .int x19_76)]) [1, 2, 3, 4, 5, 6, 7, 8, 9, 10, 11, 12, 13, 14, 0, 16] rfl ?_
                          exact hk330 _ E
                  · intro k308 hk308 E
                    refine g_icmp_le (pc' := 301) O ⟨dL_rows_298, rfl⟩ E (tgt := 306) (by decide) (fun E => ?_) (fun E => ?_)
                    · refine g_iload (pc' := 308) O ⟨dL_rows_306, rfl⟩ (q := 15) rfl ?_
                      refine g_sub (lv' := [(0, .ref (ad 0)), (2, .ref b0), (3, .ref b1), (4, .ref b2), (5, .int (r2 (0 : Int32).toNatClampNeg)), (6, .ref b3), (7, .ref b4), (8, .long x8_6), (10, .int x10_7), (11, .int x11_8), (12, .int r_1), (13, .int y13_5), (14, .int x14_9), (15, .int y15_69), (17, .int x17_75), (19, .int x19_76)]) [1, 2, 3, 4, 5, 6, 7, 8, 9, 10, 11, 12, 13, 14, 16, 17] rfl ?_
                      exact hk308 _ E
                    · refine g_iload (pc' := 303) O ⟨dL_rows_301, rfl⟩ (q := 0) rfl ?_
                      refine g_goto (pc' := 306) O ⟨dL_rows_303, rfl⟩ (tgt := 308) (by decide) ?_
                      refine g_sub (lv' := [(0, .ref (ad 0)), (2, .ref b0), (3, .ref b1), (4, .ref b2), (5, .int (r2 (0 : Int32).toNatClampNeg)), (6, .ref b3), (7, .ref b4), (8, .long x8_6), (10, .int x10_7), (11, .int x11_8), (12, .int r_1), (13, .int y13_5), (14, .int x14_9), (15, .int y15_69), (17, .int x17_75), (19, .int x19_76)]) [1, 2, 3, 4, 5, 6, 7, 8, 9, 10, 11, 12, 13, 14, 16, 17] rfl ?_
                      exact hk308 _ E
                · intro k292 hk292 E
                  refine g_icmp_le (pc' := 273) O ⟨dL_rows_270, rfl⟩ E (tgt := 284) (by decide) (fun E => ?_) (fun E => ?_)
                  · refine g_iload (pc' := 286) O ⟨dL_rows_284, rfl⟩ (q := 16) rfl ?_
                    refine g_aload (pc' := 288) O ⟨dL_rows_286, rfl⟩ (q := 6) rfl ?_
                    refine g_iload (pc' := 290) O ⟨dL_rows_288, rfl⟩ (q := 16) rfl ?_
                    refine g_iald (pc' := 291) O ⟨dL_rows_290, rfl⟩ zX5_4 E (fun E => ?_)
                    refine g_isub (pc' := 292) O ⟨dL_rows_291, rfl⟩ ?_
                    exact hk292 _ E
                  · refine g_aload (pc' := 275) O ⟨dL_rows_273, rfl⟩ (q := 6) rfl ?_
                    refine g_iload (pc' := 277) O ⟨dL_rows_275, rfl⟩ (q := 16) rfl ?_
                    refine g_iald (pc' := 278) O ⟨dL_rows_277, rfl⟩ zX5_4 E (fun E => ?_)
                    refine g_iload (pc' := 280) O ⟨dL_rows_278, rfl⟩ (q := 16) rfl ?_
                    refine g_isub (pc' := 281) O ⟨dL_rows_280, rfl⟩ ?_
                    refine g_goto (pc' := 284) O ⟨dL_rows_281, rfl⟩ (tgt := 292) (by decide) ?_
                    exact hk292 _ E
    · intro k213 hk213 E
      refine g_sub (lv' := [(0, .ref (ad 0)), (2, .ref b0), (3, .ref b1), (4, .ref b2), (5, .int (r2 (0 : Int32).toNatClampNeg)), (6, .ref b3), (7, .ref b4), (8, .long x8_6), (10, .int x10_7), (11, .int x11_8), (12, .int r_1), (13, .int y13_5), (14, .int x14_9), (15, .int (0 : Int32)), (16, .int (0 : Int32)), (17, .int (1 : Int32)), (18, .int (0 : Int32))]) [4, 5, 6, 7, 8, 9, 10, 11, 12, 13, 14, 15, 16, 3, 2, 1, 0] rfl ?_
      refine fx2_of (P := fun (x18_81 : Int32) (r3_82 : Row) => G l D X 21 (WX5 ad cy 6 24 4 6 6 b0 b1 b2 b3 b4) 2 12 (h, r0, r1, r2, r3_82, (fun _ => 0)) 193 [(0, .ref (ad 0)), (2, .ref b0), (3, .ref b1), (4, .ref b2), (5, .int (r2 (0 : Int32).toNatClampNeg)), (6, .ref b3), (7, .ref b4), (8, .long x8_6), (10, .int x10_7), (11, .int x11_8), (12, .int r_1), (13, .int y13_5), (14, .int x14_9), (15, .int (0 : Int32)), (16, .int (0 : Int32)), (17, .int (1 : Int32)), (18, .int x18_81)] []) ?_ _ _ _ E
      intro self ih193 x18_81 r3_82 E
      show G l D X 21 (WX5 ad cy 6 24 4 6 6 b0 b1 b2 b3 b4) 2 12 (h, r0, r1, r2, r3_82, (fun _ => 0)) 193 [(0, .ref (ad 0)), (2, .ref b0), (3, .ref b1), (4, .ref b2), (5, .int (r2 (0 : Int32).toNatClampNeg)), (6, .ref b3), (7, .ref b4), (8, .long x8_6), (10, .int x10_7), (11, .int x11_8), (12, .int r_1), (13, .int y13_5), (14, .int x14_9), (15, .int (0 : Int32)), (16, .int (0 : Int32)), (17, .int (1 : Int32)), (18, .int x18_81)] []
      unfold L_L_rows_193 at E
      refine g_iload (pc' := 195) O ⟨dL_rows_193, rfl⟩ (q := 16) rfl ?_
      refine g_iload (pc' := 197) O ⟨dL_rows_195, rfl⟩ (q := 4) rfl ?_
      refine g_icmp_ge (pc' := 200) O ⟨dL_rows_197, rfl⟩ E (tgt := 213) (by decide) (fun E => ?_) (fun E => ?_)
      · refine g_sub (lv' := [(0, .ref (ad 0)), (2, .ref b0), (3, .ref b1), (4, .ref b2), (5, .int (r2 (0 : Int32).toNatClampNeg)), (6, .ref b3), (7, .ref b4), (8, .long x8_6), (10, .int x10_7), (11, .int x11_8), (12, .int r_1), (13, .int y13_5), (14, .int x14_9), (15, .int (0 : Int32)), (16, .int (0 : Int32)), (17, .int (1 : Int32))]) [0, 1, 2, 3, 4, 5, 6, 7, 8, 9, 10, 11, 12, 13, 14, 15] rfl ?_
        exact hk213 _ E
      · refine g_aload (pc' := 202) O ⟨dL_rows_200, rfl⟩ (q := 5) rfl ?_
        refine g_iload (pc' := 204) O ⟨dL_rows_202, rfl⟩ (q := 16) rfl ?_
        refine g_iload (pc' := 206) O ⟨dL_rows_204, rfl⟩ (q := 16) rfl ?_
        refine g_iast (pc' := 207) O ⟨dL_rows_206, rfl⟩ zX5_3 zsX5_3 E (fun E => ?_)
        refine g_nmr (Go := fun (r3_83 : Row) => G l D X 21 (WX5 ad cy 6 24 4 6 6 b0 b1 b2 b3 b4) 2 12 (h, r0, r1, r2, r3_83, (fun _ => 0)) 207 [(0, .ref (ad 0)), (2, .ref b0), (3, .ref b1), (4, .ref b2), (5, .int (r2 (0 : Int32).toNatClampNeg)), (6, .ref b3), (7, .ref b4), (8, .long x8_6), (10, .int x10_7), (11, .int x11_8), (12, .int r_1), (13, .int y13_5), (14, .int x14_9), (15, .int (0 : Int32)), (16, .int (0 : Int32)), (17, .int (1 : Int32)), (18, .int x18_81)] []) E (fun r3_83 E => ?_)
        show G l D X 21 (WX5 ad cy 6 24 4 6 6 b0 b1 b2 b3 b4) 2 12 (h, r0, r1, r2, r3_83, (fun _ => 0)) 207 [(0, .ref (ad 0)), (2, .ref b0), (3, .ref b1), (4, .ref b2), (5, .int (r2 (0 : Int32).toNatClampNeg)), (6, .ref b3), (7, .ref b4), (8, .long x8_6), (10, .int x10_7), (11, .int x11_8), (12, .int r_1), (13, .int y13_5), (14, .int x14_9), (15, .int (0 : Int32)), (16, .int (0 : Int32)), (17, .int (1 : Int32)), (18, .int x18_81)] []
        refine g_iinc (pc' := 210) O ⟨dL_rows_207, rfl⟩ (q := 16) (v := x18_81 + (1 : Int32)) (lv' := [(18, .int (x18_81 + (1 : Int32))), (0, .ref (ad 0)), (2, .ref b0), (3, .ref b1), (4, .ref b2), (5, .int (r2 (0 : Int32).toNatClampNeg)), (6, .ref b3), (7, .ref b4), (8, .long x8_6), (10, .int x10_7), (11, .int x11_8), (12, .int r_1), (13, .int y13_5), (14, .int x14_9), (15, .int (0 : Int32)), (16, .int (0 : Int32)), (17, .int (1 : Int32))]) rfl rfl (by decide) rfl ?_
        refine g_goto (pc' := 213) O ⟨dL_rows_210, rfl⟩ (tgt := 193) (by decide) ?_
        refine g_sub (lv' := [(0, .ref (ad 0)), (2, .ref b0), (3, .ref b1), (4, .ref b2), (5, .int (r2 (0 : Int32).toNatClampNeg)), (6, .ref b3), (7, .ref b4), (8, .long x8_6), (10, .int x10_7), (11, .int x11_8), (12, .int r_1), (13, .int y13_5), (14, .int x14_9), (15, .int (0 : Int32)), (16, .int (0 : Int32)), (17, .int (1 : Int32)), (18, .int (x18_81 + (1 : Int32)))]) [1, 2, 3, 4, 5, 6, 7, 8, 9, 10, 11, 12, 13, 14, 15, 16, 0] rfl ?_
        exact ih193 _ _ E
  · intro k181 hk181 E
    refine g_sub (lv' := [(0, .ref (ad 0)), (2, .ref b0), (3, .ref b1), (4, .ref b2), (5, .int (r2 (0 : Int32).toNatClampNeg)), (6, .ref b3), (7, .ref b4), (8, .long (0 : Int64)), (10, .int (0 : Int32)), (11, .int (-1 : Int32)), (12, .int r_1), (13, .int y13_5), (14, .int (1 : Int32)), (15, .int (0 : Int32))]) [10, 12, 13, 14, 9, 8, 7, 6, 5, 4, 3, 2, 1, 0] rfl ?_
    refine fx5_of (P := fun (x8_84 : Int64) (x10_85 : Int32) (x11_86 : Int32) (x14_87 : Int32) (x15_88 : Int32) => G l D X 21 (WX5 ad cy 6 24 4 6 6 b0 b1 b2 b3 b4) 2 12 (h, r0, r1, r2, (fun _ => 0), (fun _ => 0)) 57 [(0, .ref (ad 0)), (2, .ref b0), (3, .ref b1), (4, .ref b2), (5, .int (r2 (0 : Int32).toNatClampNeg)), (6, .ref b3), (7, .ref b4), (8, .long x8_84), (10, .int x10_85), (11, .int x11_86), (12, .int r_1), (13, .int y13_5), (14, .int x14_87), (15, .int x15_88)] []) ?_ _ _ _ _ _ _ E
    intro self ih57 x8_84 x10_85 x11_86 x14_87 x15_88 E
    show G l D X 21 (WX5 ad cy 6 24 4 6 6 b0 b1 b2 b3 b4) 2 12 (h, r0, r1, r2, (fun _ => 0), (fun _ => 0)) 57 [(0, .ref (ad 0)), (2, .ref b0), (3, .ref b1), (4, .ref b2), (5, .int (r2 (0 : Int32).toNatClampNeg)), (6, .ref b3), (7, .ref b4), (8, .long x8_84), (10, .int x10_85), (11, .int x11_86), (12, .int r_1), (13, .int y13_5), (14, .int x14_87), (15, .int x15_88)] []
    unfold L_L_rows_57 at E
    refine g_iload (pc' := 59) O ⟨dL_rows_57, rfl⟩ (q := 13) rfl ?_
    refine g_iconst (pc' := 60) O ⟨dL_rows_59, rfl⟩ (v := (1 : Int32)) rfl ?_
    refine g_iload (pc' := 62) O ⟨dL_rows_60, rfl⟩ (q := 4) rfl ?_
    refine g_ishl (pc' := 63) O ⟨dL_rows_62, rfl⟩ ?_
    refine g_icmp_ge (pc' := 66) O ⟨dL_rows_63, rfl⟩ E (tgt := 181) (by decide) (fun E => ?_) (fun E => ?_)
    · refine g_sub (lv' := [(0, .ref (ad 0)), (2, .ref b0), (3, .ref b1), (4, .ref b2), (5, .int (r2 (0 : Int32).toNatClampNeg)), (6, .ref b3), (7, .ref b4), (8, .long x8_84), (10, .int x10_85), (11, .int x11_86), (12, .int r_1), (13, .int y13_5), (14, .int x14_87)]) [0, 1, 2, 3, 4, 5, 6, 7, 8, 9, 10, 11, 12] rfl ?_
      exact hk181 _ _ _ _ E
    · refine g_iload (pc' := 68) O ⟨dL_rows_66, rfl⟩ (q := 13) rfl ?_
      refine g_aload (pc' := 70) O ⟨dL_rows_68, rfl⟩ (q := 3) rfl ?_
      refine g_iconst (pc' := 71) O ⟨dL_rows_70, rfl⟩ (v := (1 : Int32)) rfl ?_
      refine g_iald (pc' := 72) O ⟨dL_rows_71, rfl⟩ zX5_2 E (fun E => ?_)
      refine g_iconst (pc' := 73) O ⟨dL_rows_72, rfl⟩ (v := (-1 : Int32)) rfl ?_
      refine g_iconst (pc' := 74) O ⟨dL_rows_73, rfl⟩ (v := (0 : Int32)) rfl ?_
      refine g_aload_n (pc' := 75) O ⟨dL_rows_74, rfl⟩ (q := 2) rfl rfl ?_
      obtain ⟨r_89, c_90, E⟩ := bd_of E
      refine g_MSi (pc' := 78) O hN ⟨dL_rows_75, rfl⟩ (y := yL_out) (As := [.int x15_88, .int (r2 (1 : Int32).toNatClampNeg), .int (-1 : Int32), .int (0 : Int32), .ref b1]) (st := []) (put := (fun g => (h, r0, g, r2, (fun _ => 0), (fun _ => 0)))) sub_X5_A1 (t_L_out l D cy hfl b1 c_90) kw_565 kw_24 kw_563 kw_564 hd_L_out ⟨Nat.le_of_ble_eq_true rfl, Nat.le_of_ble_eq_true rfl⟩ ⟨Nat.le_of_ble_eq_true rfl, Nat.le_of_ble_eq_true rfl⟩ rfl (Nat.le_of_ble_eq_true rfl) ?_
      show G l D X 21 (WX5 ad cy 6 24 4 6 6 b0 b1 b2 b3 b4) 2 12 (h, r0, r1, r2, (fun _ => 0), (fun _ => 0)) 78 [(0, .ref (ad 0)), (2, .ref b0), (3, .ref b1), (4, .ref b2), (5, .int (r2 (0 : Int32).toNatClampNeg)), (6, .ref b3), (7, .ref b4), (8, .long x8_84), (10, .int x10_85), (11, .int x11_86), (12, .int r_1), (13, .int y13_5), (14, .int x14_87), (15, .int x15_88)] [.int r_89]
      refine g_istore (pc' := 80) O ⟨dL_rows_78, rfl⟩ (lv' := [(16, .int r_89), (0, .ref (ad 0)), (2, .ref b0), (3, .ref b1), (4, .ref b2), (5, .int (r2 (0 : Int32).toNatClampNeg)), (6, .ref b3), (7, .ref b4), (8, .long x8_84), (10, .int x10_85), (11, .int x11_86), (12, .int r_1), (13, .int y13_5), (14, .int x14_87), (15, .int x15_88)]) (by decide) rfl ?_
      refine g_lload (pc' := 82) O ⟨dL_rows_80, rfl⟩ (q := 8) rfl ?_
      refine g_lconst (pc' := 83) O ⟨dL_rows_82, rfl⟩ (v := (1 : Int64)) rfl ?_
      refine g_iload (pc' := 85) O ⟨dL_rows_83, rfl⟩ (q := 0) rfl ?_
      refine g_lshl (pc' := 86) O ⟨dL_rows_85, rfl⟩ ?_
      refine g_lor (pc' := 87) O ⟨dL_rows_86, rfl⟩ ?_
      refine g_nmL E (fun y8_91 E => ?_)
      refine g_lstore (pc' := 89) O ⟨dL_rows_87, rfl⟩ (lv' := [(8, .long y8_91), (16, .int r_89), (0, .ref (ad 0)), (2, .ref b0), (3, .ref b1), (4, .ref b2), (5, .int (r2 (0 : Int32).toNatClampNeg)), (6, .ref b3), (7, .ref b4), (10, .int x10_85), (11, .int x11_86), (12, .int r_1), (13, .int y13_5), (14, .int x14_87), (15, .int x15_88)]) (by decide) rfl ?_
      refine g_iload (pc' := 91) O ⟨dL_rows_89, rfl⟩ (q := 1) rfl ?_
      refine g_iconst (pc' := 92) O ⟨dL_rows_91, rfl⟩ (v := (0 : Int32)) rfl ?_
      refine g_iload (pc' := 94) O ⟨dL_rows_92, rfl⟩ (q := 6) rfl ?_
      obtain ⟨r_92, c_93, E⟩ := bd_of E
      refine g_MSi (pc' := 97) O hN ⟨dL_rows_94, rfl⟩ (y := yL_upright) (As := [.int r_89, .int (0 : Int32), .int (r2 (0 : Int32).toNatClampNeg)]) (st := []) (put := (fun g => (h, r0, r1, r2, (fun _ => 0), (fun _ => 0)))) sub_X5_A (t_L_upright l D cy hfl c_93) kw_717 kw_24 kw_715 kw_716 hd_L_upright ⟨Nat.le_of_ble_eq_true rfl, Nat.le_of_ble_eq_true rfl⟩ ⟨Nat.le_of_ble_eq_true rfl, Nat.le_of_ble_eq_true rfl⟩ rfl (Nat.le_of_ble_eq_true rfl) ?_
      show G l D X 21 (WX5 ad cy 6 24 4 6 6 b0 b1 b2 b3 b4) 2 12 (h, r0, r1, r2, (fun _ => 0), (fun _ => 0)) 97 [(8, .long y8_91), (16, .int r_89), (0, .ref (ad 0)), (2, .ref b0), (3, .ref b1), (4, .ref b2), (5, .int (r2 (0 : Int32).toNatClampNeg)), (6, .ref b3), (7, .ref b4), (10, .int x10_85), (11, .int x11_86), (12, .int r_1), (13, .int y13_5), (14, .int x14_87), (15, .int x15_88)] [.int r_92]
      refine g_istore (pc' := 99) O ⟨dL_rows_97, rfl⟩ (lv' := [(17, .int r_92), (8, .long y8_91), (16, .int r_89), (0, .ref (ad 0)), (2, .ref b0), (3, .ref b1), (4, .ref b2), (5, .int (r2 (0 : Int32).toNatClampNeg)), (6, .ref b3), (7, .ref b4), (10, .int x10_85), (11, .int x11_86), (12, .int r_1), (13, .int y13_5), (14, .int x14_87), (15, .int x15_88)]) (by decide) rfl ?_
      refine g_iload (pc' := 101) O ⟨dL_rows_99, rfl⟩ (q := 0) rfl ?_
      refine jn1_of (P := fun (z_94 : Int32) => G l D X 21 (WX5 ad cy 6 24 4 6 6 b0 b1 b2 b3 b4) 2 12 (h, r0, r1, r2, (fun _ => 0), (fun _ => 0)) 118 [(0, .ref (ad 0)), (2, .ref b0), (3, .ref b1), (4, .ref b2), (5, .int (r2 (0 : Int32).toNatClampNeg)), (6, .ref b3), (7, .ref b4), (8, .long y8_91), (10, .int x10_85), (12, .int r_1), (13, .int y13_5), (14, .int x14_87), (15, .int x15_88), (17, .int r_92)] [.int z_94]) E ?_ ?_
      · intro z_94 E
        show G l D X 21 (WX5 ad cy 6 24 4 6 6 b0 b1 b2 b3 b4) 2 12 (h, r0, r1, r2, (fun _ => 0), (fun _ => 0)) 118 [(0, .ref (ad 0)), (2, .ref b0), (3, .ref b1), (4, .ref b2), (5, .int (r2 (0 : Int32).toNatClampNeg)), (6, .ref b3), (7, .ref b4), (8, .long y8_91), (10, .int x10_85), (12, .int r_1), (13, .int y13_5), (14, .int x14_87), (15, .int x15_88), (17, .int r_92)] [.int z_94]
        refine g_istore (pc' := 120) O ⟨dL_rows_118, rfl⟩ (lv' := [(11, .int z_94), (0, .ref (ad 0)), (2, .ref b0), (3, .ref b1), (4, .ref b2), (5, .int (r2 (0 : Int32).toNatClampNeg)), (6, .ref b3), (7, .ref b4), (8, .long y8_91), (10, .int x10_85), (12, .int r_1), (13, .int y13_5), (14, .int x14_87), (15, .int x15_88), (17, .int r_92)]) (by decide) rfl ?_
        refine g_iload (pc' := 122) O ⟨dL_rows_120, rfl⟩ (q := 9) rfl ?_
        refine g_iload (pc' := 124) O ⟨dL_rows_122, rfl⟩ (q := 14) rfl ?_
        refine jn1_of (P := fun (z_95 : Int32) => G l D X 21 (WX5 ad cy 6 24 4 6 6 b0 b1 b2 b3 b4) 2 12 (h, r0, r1, r2, (fun _ => 0), (fun _ => 0)) 132 [(0, .ref (ad 0)), (2, .ref b0), (3, .ref b1), (4, .ref b2), (5, .int (r2 (0 : Int32).toNatClampNeg)), (6, .ref b3), (7, .ref b4), (8, .long y8_91), (11, .int z_94), (12, .int r_1), (13, .int y13_5), (14, .int x14_87), (15, .int x15_88), (17, .int r_92)] [.int z_95, .int x10_85]) E ?_ ?_
        · intro z_95 E
          show G l D X 21 (WX5 ad cy 6 24 4 6 6 b0 b1 b2 b3 b4) 2 12 (h, r0, r1, r2, (fun _ => 0), (fun _ => 0)) 132 [(0, .ref (ad 0)), (2, .ref b0), (3, .ref b1), (4, .ref b2), (5, .int (r2 (0 : Int32).toNatClampNeg)), (6, .ref b3), (7, .ref b4), (8, .long y8_91), (11, .int z_94), (12, .int r_1), (13, .int y13_5), (14, .int x14_87), (15, .int x15_88), (17, .int r_92)] [.int z_95, .int x10_85]
          refine g_iadd (pc' := 133) O ⟨dL_rows_132, rfl⟩ ?_
          refine g_nm E (fun y10_96 E => ?_)
          refine g_istore (pc' := 135) O ⟨dL_rows_133, rfl⟩ (lv' := [(10, .int y10_96), (0, .ref (ad 0)), (2, .ref b0), (3, .ref b1), (4, .ref b2), (5, .int (r2 (0 : Int32).toNatClampNeg)), (6, .ref b3), (7, .ref b4), (8, .long y8_91), (11, .int z_94), (12, .int r_1), (13, .int y13_5), (14, .int x14_87), (15, .int x15_88), (17, .int r_92)]) (by decide) rfl ?_
          refine g_iload (pc' := 137) O ⟨dL_rows_135, rfl⟩ (q := 12) rfl ?_
          refine g_if_eq (pc' := 140) O ⟨dL_rows_137, rfl⟩ E (tgt := 172) (by decide) (fun E => ?_) (fun E => ?_)
          · refine g_iconst (pc' := 173) O ⟨dL_rows_172, rfl⟩ (v := (0 : Int32)) rfl ?_
            refine g_istore (pc' := 175) O ⟨dL_rows_173, rfl⟩ (lv' := [(14, .int (0 : Int32)), (10, .int y10_96), (0, .ref (ad 0)), (2, .ref b0), (3, .ref b1), (4, .ref b2), (5, .int (r2 (0 : Int32).toNatClampNeg)), (6, .ref b3), (7, .ref b4), (8, .long y8_91), (11, .int z_94), (12, .int r_1), (13, .int y13_5), (15, .int x15_88), (17, .int r_92)]) (by decide) rfl ?_
            refine g_iinc (pc' := 178) O ⟨dL_rows_175, rfl⟩ (q := 13) (v := x15_88 + (1 : Int32)) (lv' := [(15, .int (x15_88 + (1 : Int32))), (14, .int (0 : Int32)), (10, .int y10_96), (0, .ref (ad 0)), (2, .ref b0), (3, .ref b1), (4, .ref b2), (5, .int (r2 (0 : Int32).toNatClampNeg)), (6, .ref b3), (7, .ref b4), (8, .long y8_91), (11, .int z_94), (12, .int r_1), (13, .int y13_5), (17, .int r_92)]) rfl rfl (by decide) rfl ?_
            refine g_goto (pc' := 181) O ⟨dL_rows_178, rfl⟩ (tgt := 57) (by decide) ?_
            refine g_sub (lv' := [(0, .ref (ad 0)), (2, .ref b0), (3, .ref b1), (4, .ref b2), (5, .int (r2 (0 : Int32).toNatClampNeg)), (6, .ref b3), (7, .ref b4), (8, .long y8_91), (10, .int y10_96), (11, .int z_94), (12, .int r_1), (13, .int y13_5), (14, .int (0 : Int32)), (15, .int (x15_88 + (1 : Int32)))]) [3, 4, 5, 6, 7, 8, 9, 10, 2, 11, 12, 13, 1, 0] rfl ?_
            exact ih57 _ _ _ _ _ E
          · refine g_iload (pc' := 142) O ⟨dL_rows_140, rfl⟩ (q := 14) rfl ?_
            refine jn0_of (P := G l D X 21 (WX5 ad cy 6 24 4 6 6 b0 b1 b2 b3 b4) 2 12 (h, r0, r1, r2, (fun _ => 0), (fun _ => 0)) 168 [(0, .ref (ad 0)), (2, .ref b0), (3, .ref b1), (4, .ref b2), (5, .int (r2 (0 : Int32).toNatClampNeg)), (6, .ref b3), (7, .ref b4), (8, .long y8_91), (10, .int y10_96), (11, .int z_94), (12, .int r_1), (13, .int y13_5), (15, .int x15_88)] []) E ?_ ?_
            · intro E
              show G l D X 21 (WX5 ad cy 6 24 4 6 6 b0 b1 b2 b3 b4) 2 12 (h, r0, r1, r2, (fun _ => 0), (fun _ => 0)) 168 [(0, .ref (ad 0)), (2, .ref b0), (3, .ref b1), (4, .ref b2), (5, .int (r2 (0 : Int32).toNatClampNeg)), (6, .ref b3), (7, .ref b4), (8, .long y8_91), (10, .int y10_96), (11, .int z_94), (12, .int r_1), (13, .int y13_5), (15, .int x15_88)] []
              refine g_iconst (pc' := 169) O ⟨dL_rows_168, rfl⟩ (v := (1 : Int32)) rfl ?_
              refine g_goto (pc' := 172) O ⟨dL_rows_169, rfl⟩ (tgt := 173) (by decide) ?_
              refine g_istore (pc' := 175) O ⟨dL_rows_173, rfl⟩ (lv' := [(14, .int (1 : Int32)), (0, .ref (ad 0)), (2, .ref b0), (3, .ref b1), (4, .ref b2), (5, .int (r2 (0 : Int32).toNatClampNeg)), (6, .ref b3), (7, .ref b4), (8, .long y8_91), (10, .int y10_96), (11, .int z_94), (12, .int r_1), (13, .int y13_5), (15, .int x15_88)]) (by decide) rfl ?_
              refine g_iinc (pc' := 178) O ⟨dL_rows_175, rfl⟩ (q := 13) (v := x15_88 + (1 : Int32)) (lv' := [(15, .int (x15_88 + (1 : Int32))), (14, .int (1 : Int32)), (0, .ref (ad 0)), (2, .ref b0), (3, .ref b1), (4, .ref b2), (5, .int (r2 (0 : Int32).toNatClampNeg)), (6, .ref b3), (7, .ref b4), (8, .long y8_91), (10, .int y10_96), (11, .int z_94), (12, .int r_1), (13, .int y13_5)]) rfl rfl (by decide) rfl ?_
              refine g_goto (pc' := 181) O ⟨dL_rows_178, rfl⟩ (tgt := 57) (by decide) ?_
              refine g_sub (lv' := [(0, .ref (ad 0)), (2, .ref b0), (3, .ref b1), (4, .ref b2), (5, .int (r2 (0 : Int32).toNatClampNeg)), (6, .ref b3), (7, .ref b4), (8, .long y8_91), (10, .int y10_96), (11, .int z_94), (12, .int r_1), (13, .int y13_5), (14, .int (1 : Int32)), (15, .int (x15_88 + (1 : Int32)))]) [2, 3, 4, 5, 6, 7, 8, 9, 10, 11, 12, 13, 1, 0] rfl ?_
              exact ih57 _ _ _ _ _ E
            · intro k168 hk168 E
              refine g_if_ne (pc' := 145) O ⟨dL_rows_142, rfl⟩ E (tgt := 168) (by decide) (fun E => ?_) (fun E => ?_)
              · refine g_sub (lv' := [(0, .ref (ad 0)), (2, .ref b0), (3, .ref b1), (4, .ref b2), (5, .int (r2 (0 : Int32).toNatClampNeg)), (6, .ref b3), (7, .ref b4), (8, .long y8_91), (10, .int y10_96), (11, .int z_94), (12, .int r_1), (13, .int y13_5), (15, .int x15_88)]) [1, 2, 3, 4, 5, 6, 7, 8, 0, 9, 10, 11, 13] rfl ?_
                exact hk168 E
              · refine g_iload (pc' := 147) O ⟨dL_rows_145, rfl⟩ (q := 13) rfl ?_
                refine g_iconst (pc' := 148) O ⟨dL_rows_147, rfl⟩ (v := (0 : Int32)) rfl ?_
                refine g_iload (pc' := 150) O ⟨dL_rows_148, rfl⟩ (q := 11) rfl ?_
                obtain ⟨r_97, c_98, E⟩ := bd_of E
                refine g_MSi (pc' := 153) O hN ⟨dL_rows_150, rfl⟩ (y := yL_upright) (As := [.int x15_88, .int (0 : Int32), .int y13_5]) (st := []) (put := (fun g => (h, r0, r1, r2, (fun _ => 0), (fun _ => 0)))) sub_X5_A (t_L_upright l D cy hfl c_98) kw_717 kw_24 kw_715 kw_716 hd_L_upright ⟨Nat.le_of_ble_eq_true rfl, Nat.le_of_ble_eq_true rfl⟩ ⟨Nat.le_of_ble_eq_true rfl, Nat.le_of_ble_eq_true rfl⟩ rfl (Nat.le_of_ble_eq_true rfl) ?_
                show G l D X 21 (WX5 ad cy 6 24 4 6 6 b0 b1 b2 b3 b4) 2 12 (h, r0, r1, r2, (fun _ => 0), (fun _ => 0)) 153 [(10, .int y10_96), (0, .ref (ad 0)), (2, .ref b0), (3, .ref b1), (4, .ref b2), (5, .int (r2 (0 : Int32).toNatClampNeg)), (6, .ref b3), (7, .ref b4), (8, .long y8_91), (11, .int z_94), (12, .int r_1), (13, .int y13_5), (14, .int x14_87), (15, .int x15_88), (17, .int r_92)] [.int r_97]
                refine g_if_eq (pc' := 156) O ⟨dL_rows_153, rfl⟩ E (tgt := 168) (by decide) (fun E => ?_) (fun E => ?_)
                · refine g_sub (lv' := [(0, .ref (ad 0)), (2, .ref b0), (3, .ref b1), (4, .ref b2), (5, .int (r2 (0 : Int32).toNatClampNeg)), (6, .ref b3), (7, .ref b4), (8, .long y8_91), (10, .int y10_96), (11, .int z_94), (12, .int r_1), (13, .int y13_5), (15, .int x15_88)]) [1, 2, 3, 4, 5, 6, 7, 8, 0, 9, 10, 11, 13] rfl ?_
                  exact hk168 E
                · refine g_iload (pc' := 158) O ⟨dL_rows_156, rfl⟩ (q := 13) rfl ?_
                  refine g_iload (pc' := 160) O ⟨dL_rows_158, rfl⟩ (q := 11) rfl ?_
                  refine g_iload (pc' := 162) O ⟨dL_rows_160, rfl⟩ (q := 5) rfl ?_
                  obtain ⟨r_99, c_100, E⟩ := bd_of E
                  refine g_MSi (pc' := 165) O hN ⟨dL_rows_162, rfl⟩ (y := yL_upright) (As := [.int x15_88, .int y13_5, .int (r2 (0 : Int32).toNatClampNeg)]) (st := []) (put := (fun g => (h, r0, r1, r2, (fun _ => 0), (fun _ => 0)))) sub_X5_A (t_L_upright l D cy hfl c_100) kw_717 kw_24 kw_715 kw_716 hd_L_upright ⟨Nat.le_of_ble_eq_true rfl, Nat.le_of_ble_eq_true rfl⟩ ⟨Nat.le_of_ble_eq_true rfl, Nat.le_of_ble_eq_true rfl⟩ rfl (Nat.le_of_ble_eq_true rfl) ?_
                  show G l D X 21 (WX5 ad cy 6 24 4 6 6 b0 b1 b2 b3 b4) 2 12 (h, r0, r1, r2, (fun _ => 0), (fun _ => 0)) 165 [(10, .int y10_96), (0, .ref (ad 0)), (2, .ref b0), (3, .ref b1), (4, .ref b2), (5, .int (r2 (0 : Int32).toNatClampNeg)), (6, .ref b3), (7, .ref b4), (8, .long y8_91), (11, .int z_94), (12, .int r_1), (13, .int y13_5), (14, .int x14_87), (15, .int x15_88), (17, .int r_92)] [.int r_99]
                  refine g_if_ne (pc' := 168) O ⟨dL_rows_165, rfl⟩ E (tgt := 172) (by decide) (fun E => ?_) (fun E => ?_)
                  · refine g_iconst (pc' := 173) O ⟨dL_rows_172, rfl⟩ (v := (0 : Int32)) rfl ?_
                    refine g_istore (pc' := 175) O ⟨dL_rows_173, rfl⟩ (lv' := [(14, .int (0 : Int32)), (10, .int y10_96), (0, .ref (ad 0)), (2, .ref b0), (3, .ref b1), (4, .ref b2), (5, .int (r2 (0 : Int32).toNatClampNeg)), (6, .ref b3), (7, .ref b4), (8, .long y8_91), (11, .int z_94), (12, .int r_1), (13, .int y13_5), (15, .int x15_88), (17, .int r_92)]) (by decide) rfl ?_
                    refine g_iinc (pc' := 178) O ⟨dL_rows_175, rfl⟩ (q := 13) (v := x15_88 + (1 : Int32)) (lv' := [(15, .int (x15_88 + (1 : Int32))), (14, .int (0 : Int32)), (10, .int y10_96), (0, .ref (ad 0)), (2, .ref b0), (3, .ref b1), (4, .ref b2), (5, .int (r2 (0 : Int32).toNatClampNeg)), (6, .ref b3), (7, .ref b4), (8, .long y8_91), (11, .int z_94), (12, .int r_1), (13, .int y13_5), (17, .int r_92)]) rfl rfl (by decide) rfl ?_
                    refine g_goto (pc' := 181) O ⟨dL_rows_178, rfl⟩ (tgt := 57) (by decide) ?_
                    refine g_sub (lv' := [(0, .ref (ad 0)), (2, .ref b0), (3, .ref b1), (4, .ref b2), (5, .int (r2 (0 : Int32).toNatClampNeg)), (6, .ref b3), (7, .ref b4), (8, .long y8_91), (10, .int y10_96), (11, .int z_94), (12, .int r_1), (13, .int y13_5), (14, .int (0 : Int32)), (15, .int (x15_88 + (1 : Int32)))]) [3, 4, 5, 6, 7, 8, 9, 10, 2, 11, 12, 13, 1, 0] rfl ?_
                    exact ih57 _ _ _ _ _ E
                  · refine g_sub (lv' := [(0, .ref (ad 0)), (2, .ref b0), (3, .ref b1), (4, .ref b2), (5, .int (r2 (0 : Int32).toNatClampNeg)), (6, .ref b3), (7, .ref b4), (8, .long y8_91), (10, .int y10_96), (11, .int z_94), (12, .int r_1), (13, .int y13_5), (15, .int x15_88)]) [1, 2, 3, 4, 5, 6, 7, 8, 0, 9, 10, 11, 13] rfl ?_
                    exact hk168 E
        · intro k132 hk132 E
          refine g_if_eq (pc' := 127) O ⟨dL_rows_124, rfl⟩ E (tgt := 131) (by decide) (fun E => ?_) (fun E => ?_)
          · refine g_iconst (pc' := 132) O ⟨dL_rows_131, rfl⟩ (v := (1 : Int32)) rfl ?_
            refine g_sub (lv' := [(0, .ref (ad 0)), (2, .ref b0), (3, .ref b1), (4, .ref b2), (5, .int (r2 (0 : Int32).toNatClampNeg)), (6, .ref b3), (7, .ref b4), (8, .long y8_91), (11, .int z_94), (12, .int r_1), (13, .int y13_5), (14, .int x14_87), (15, .int x15_88), (17, .int r_92)]) [1, 2, 3, 4, 5, 6, 7, 8, 0, 10, 11, 12, 13, 14] rfl ?_
            exact hk132 _ E
          · refine g_iconst (pc' := 128) O ⟨dL_rows_127, rfl⟩ (v := (0 : Int32)) rfl ?_
            refine g_goto (pc' := 131) O ⟨dL_rows_128, rfl⟩ (tgt := 132) (by decide) ?_
            refine g_sub (lv' := [(0, .ref (ad 0)), (2, .ref b0), (3, .ref b1), (4, .ref b2), (5, .int (r2 (0 : Int32).toNatClampNeg)), (6, .ref b3), (7, .ref b4), (8, .long y8_91), (11, .int z_94), (12, .int r_1), (13, .int y13_5), (14, .int x14_87), (15, .int x15_88), (17, .int r_92)]) [1, 2, 3, 4, 5, 6, 7, 8, 0, 10, 11, 12, 13, 14] rfl ?_
            exact hk132 _ E
      · intro k118 hk118 E
        refine jn0_of (P := G l D X 21 (WX5 ad cy 6 24 4 6 6 b0 b1 b2 b3 b4) 2 12 (h, r0, r1, r2, (fun _ => 0), (fun _ => 0)) 116 [(0, .ref (ad 0)), (2, .ref b0), (3, .ref b1), (4, .ref b2), (5, .int (r2 (0 : Int32).toNatClampNeg)), (6, .ref b3), (7, .ref b4), (8, .long y8_91), (10, .int x10_85), (11, .int x11_86), (12, .int r_1), (13, .int y13_5), (14, .int x14_87), (15, .int x15_88), (17, .int r_92)] []) E ?_ ?_
        · intro E
          show G l D X 21 (WX5 ad cy 6 24 4 6 6 b0 b1 b2 b3 b4) 2 12 (h, r0, r1, r2, (fun _ => 0), (fun _ => 0)) 116 [(0, .ref (ad 0)), (2, .ref b0), (3, .ref b1), (4, .ref b2), (5, .int (r2 (0 : Int32).toNatClampNeg)), (6, .ref b3), (7, .ref b4), (8, .long y8_91), (10, .int x10_85), (11, .int x11_86), (12, .int r_1), (13, .int y13_5), (14, .int x14_87), (15, .int x15_88), (17, .int r_92)] []
          refine g_iload (pc' := 118) O ⟨dL_rows_116, rfl⟩ (q := 9) rfl ?_
          refine g_sub (lv' := [(0, .ref (ad 0)), (2, .ref b0), (3, .ref b1), (4, .ref b2), (5, .int (r2 (0 : Int32).toNatClampNeg)), (6, .ref b3), (7, .ref b4), (8, .long y8_91), (10, .int x10_85), (12, .int r_1), (13, .int y13_5), (14, .int x14_87), (15, .int x15_88), (17, .int r_92)]) [0, 1, 2, 3, 4, 5, 6, 7, 8, 10, 11, 12, 13, 14] rfl ?_
          exact hk118 _ E
        · intro k116 hk116 E
          refine g_if_ne (pc' := 104) O ⟨dL_rows_101, rfl⟩ E (tgt := 116) (by decide) (fun E => ?_) (fun E => ?_)
          · refine g_sub (lv' := [(0, .ref (ad 0)), (2, .ref b0), (3, .ref b1), (4, .ref b2), (5, .int (r2 (0 : Int32).toNatClampNeg)), (6, .ref b3), (7, .ref b4), (8, .long y8_91), (10, .int x10_85), (11, .int x11_86), (12, .int r_1), (13, .int y13_5), (14, .int x14_87), (15, .int x15_88), (17, .int r_92)]) [3, 4, 5, 6, 7, 8, 9, 1, 10, 11, 12, 13, 14, 15, 0] rfl ?_
            exact hk116 E
          · refine g_iload (pc' := 106) O ⟨dL_rows_104, rfl⟩ (q := 10) rfl ?_
            refine g_iload (pc' := 108) O ⟨dL_rows_106, rfl⟩ (q := 12) rfl ?_
            refine g_icmp_ne (pc' := 111) O ⟨dL_rows_108, rfl⟩ E (tgt := 116) (by decide) (fun E => ?_) (fun E => ?_)
            · refine g_sub (lv' := [(0, .ref (ad 0)), (2, .ref b0), (3, .ref b1), (4, .ref b2), (5, .int (r2 (0 : Int32).toNatClampNeg)), (6, .ref b3), (7, .ref b4), (8, .long y8_91), (10, .int x10_85), (11, .int x11_86), (12, .int r_1), (13, .int y13_5), (14, .int x14_87), (15, .int x15_88), (17, .int r_92)]) [3, 4, 5, 6, 7, 8, 9, 1, 10, 11, 12, 13, 14, 15, 0] rfl ?_
              exact hk116 E
            · refine g_iload (pc' := 113) O ⟨dL_rows_111, rfl⟩ (q := 15) rfl ?_
              refine g_goto (pc' := 116) O ⟨dL_rows_113, rfl⟩ (tgt := 118) (by decide) ?_
              refine g_sub (lv' := [(0, .ref (ad 0)), (2, .ref b0), (3, .ref b1), (4, .ref b2), (5, .int (r2 (0 : Int32).toNatClampNeg)), (6, .ref b3), (7, .ref b4), (8, .long y8_91), (10, .int x10_85), (12, .int r_1), (13, .int y13_5), (14, .int x14_87), (15, .int x15_88), (17, .int r_92)]) [3, 4, 5, 6, 7, 8, 9, 1, 10, 12, 13, 14, 15, 0] rfl ?_
              exact hk118 _ E
set_option maxRecDepth 100000 in
set_option maxHeartbeats 4000000 in
theorem t_L_counts (l : Launch) (D : va_G) (cy : Nat → ClassId) (hfl : l.stackTraces = false) (b0 : Nat) (b1 : Nat) (b2 : Nat) (b3 : Nat)  {r0 : Row} {r1 : Row} {r2 : Row} {r3 : Row} {o : Row} (E : f_L_counts r0 r1 r2 r3 = some o) : CtMV l D cy (WA4 cy 6 6 24 4 b0 b1 b2 b3) yL_counts cL_counts 6 0 0 0 0 [.ref b0, .ref b1, .ref b2, .ref b3] (r0, r1, r2, r3) (r0, o, r2, r3) := by
  refine sMV (own := RL) rfl rfl (Nat.le_of_ble_eq_true rfl) (fun X O hN hret => ?_)
  show G l D X 6 (WA4 cy 6 6 24 4 b0 b1 b2 b3) 0 0 (r0, r1, r2, r3) 0 [(0, .ref b0), (1, .ref b1), (2, .ref b2), (3, .ref b3)] []
  unfold f_L_counts at E
  refine g_iconst (pc' := 1) O ⟨dL_counts_0, rfl⟩ (v := (0 : Int32)) rfl ?_
  refine g_istore (pc' := 3) O ⟨dL_counts_1, rfl⟩ (lv' := [(4, .int (0 : Int32)), (0, .ref b0), (1, .ref b1), (2, .ref b2), (3, .ref b3)]) (by decide) rfl ?_
  refine jn1_of (P := fun (r1_1 : Row) => G l D X 6 (WA4 cy 6 6 24 4 b0 b1 b2 b3) 0 0 (r0, r1_1, r2, r3) 24 [(1, .ref b1), (2, .ref b2), (3, .ref b3)] []) E ?_ ?_
  · intro r1_1 E
    show G l D X 6 (WA4 cy 6 6 24 4 b0 b1 b2 b3) 0 0 (r0, r1_1, r2, r3) 24 [(1, .ref b1), (2, .ref b2), (3, .ref b3)] []
    refine g_iconst (pc' := 25) O ⟨dL_counts_24, rfl⟩ (v := (0 : Int32)) rfl ?_
    refine g_istore (pc' := 27) O ⟨dL_counts_25, rfl⟩ (lv' := [(4, .int (0 : Int32)), (1, .ref b1), (2, .ref b2), (3, .ref b3)]) (by decide) rfl ?_
    refine jn1_of (P := fun (r1_2 : Row) => G l D X 6 (WA4 cy 6 6 24 4 b0 b1 b2 b3) 0 0 (r0, r1_2, r2, r3) 90 [] []) E ?_ ?_
    · intro r1_2 E
      show G l D X 6 (WA4 cy 6 6 24 4 b0 b1 b2 b3) 0 0 (r0, r1_2, r2, r3) 90 [] []
      cases E
      exact hret _ _ _ _ _ (Nat.le_of_ble_eq_true rfl) (Nat.le_of_ble_eq_true rfl) ⟨dL_counts_90, rfl⟩
    · intro k90 hk90 E
      refine g_sub (lv' := [(1, .ref b1), (2, .ref b2), (3, .ref b3), (4, .int (0 : Int32))]) [1, 2, 3, 0] rfl ?_
      refine fx2_of (P := fun (x4_3 : Int32) (r1_4 : Row) => G l D X 6 (WA4 cy 6 6 24 4 b0 b1 b2 b3) 0 0 (r0, r1_4, r2, r3) 27 [(1, .ref b1), (2, .ref b2), (3, .ref b3), (4, .int x4_3)] []) ?_ _ _ _ E
      intro self ih27 x4_3 r1_4 E
      show G l D X 6 (WA4 cy 6 6 24 4 b0 b1 b2 b3) 0 0 (r0, r1_4, r2, r3) 27 [(1, .ref b1), (2, .ref b2), (3, .ref b3), (4, .int x4_3)] []
      unfold L_L_counts_27 at E
      refine g_iload (pc' := 29) O ⟨dL_counts_27, rfl⟩ (q := 3) rfl ?_
      refine g_aload_n (pc' := 30) O ⟨dL_counts_29, rfl⟩ (q := 2) rfl rfl ?_
      refine g_iconst (pc' := 31) O ⟨dL_counts_30, rfl⟩ (v := (1 : Int32)) rfl ?_
      refine g_iald (pc' := 32) O ⟨dL_counts_31, rfl⟩ zA4_3 E (fun E => ?_)
      refine g_icmp_ge (pc' := 35) O ⟨dL_counts_32, rfl⟩ E (tgt := 90) (by decide) (fun E => ?_) (fun E => ?_)
      · refine g_sub (lv' := []) [] rfl ?_
        exact hk90 _ E
      · refine g_aload_n (pc' := 36) O ⟨dL_counts_35, rfl⟩ (q := 0) rfl rfl ?_
        refine g_aload_n (pc' := 37) O ⟨dL_counts_36, rfl⟩ (q := 1) rfl rfl ?_
        refine g_iload (pc' := 39) O ⟨dL_counts_37, rfl⟩ (q := 3) rfl ?_
        refine g_iald (pc' := 40) O ⟨dL_counts_39, rfl⟩ zA4_2 E (fun E => ?_)
        refine g_bipush (pc' := 42) O ⟨dL_counts_40, rfl⟩ (v := (8 : Int32)) rfl ?_
        refine g_irem (pc' := 43) O ⟨dL_counts_42, rfl⟩ (by decide) ?_
        refine g_iald (pc' := 44) O ⟨dL_counts_43, rfl⟩ zA4_1 E (fun E => ?_)
        refine g_aload_n (pc' := 45) O ⟨dL_counts_44, rfl⟩ (q := 0) rfl rfl ?_
        refine g_aload_n (pc' := 46) O ⟨dL_counts_45, rfl⟩ (q := 1) rfl rfl ?_
        refine g_iload (pc' := 48) O ⟨dL_counts_46, rfl⟩ (q := 3) rfl ?_
        refine g_iald (pc' := 49) O ⟨dL_counts_48, rfl⟩ zA4_2 E (fun E => ?_)
        refine g_bipush (pc' := 51) O ⟨dL_counts_49, rfl⟩ (v := (8 : Int32)) rfl ?_
        refine g_idiv (pc' := 52) O ⟨dL_counts_51, rfl⟩ (by decide) ?_
        refine g_iald (pc' := 53) O ⟨dL_counts_52, rfl⟩ zA4_1 E (fun E => ?_)
        refine g_iadd (pc' := 54) O ⟨dL_counts_53, rfl⟩ ?_
        refine g_nm E (fun y5_5 E => ?_)
        refine g_istore (pc' := 56) O ⟨dL_counts_54, rfl⟩ (lv' := [(5, .int y5_5), (1, .ref b1), (2, .ref b2), (3, .ref b3), (4, .int x4_3)]) (by decide) rfl ?_
        refine g_aload_n (pc' := 57) O ⟨dL_counts_56, rfl⟩ (q := 1) rfl rfl ?_
        refine g_aload_n (pc' := 58) O ⟨dL_counts_57, rfl⟩ (q := 2) rfl rfl ?_
        refine g_iload (pc' := 60) O ⟨dL_counts_58, rfl⟩ (q := 4) rfl ?_
        refine g_iald (pc' := 61) O ⟨dL_counts_60, rfl⟩ zA4_2 E (fun E => ?_)
        refine g_bipush (pc' := 63) O ⟨dL_counts_61, rfl⟩ (v := (8 : Int32)) rfl ?_
        refine g_irem (pc' := 64) O ⟨dL_counts_63, rfl⟩ (by decide) ?_
        refine g_iload (pc' := 66) O ⟨dL_counts_64, rfl⟩ (q := 0) rfl ?_
        refine g_iconst (pc' := 67) O ⟨dL_counts_66, rfl⟩ (v := (1 : Int32)) rfl ?_
        refine g_iadd (pc' := 68) O ⟨dL_counts_67, rfl⟩ ?_
        refine g_iconst (pc' := 69) O ⟨dL_counts_68, rfl⟩ (v := (2 : Int32)) rfl ?_
        refine g_idiv (pc' := 70) O ⟨dL_counts_69, rfl⟩ (by decide) ?_
        refine g_iast (pc' := 71) O ⟨dL_counts_70, rfl⟩ zA4_1 zsA4_1 E (fun E => ?_)
        refine g_nmr (Go := fun (r1_6 : Row) => G l D X 6 (WA4 cy 6 6 24 4 b0 b1 b2 b3) 0 0 (r0, r1_6, r2, r3) 71 [(5, .int y5_5), (1, .ref b1), (2, .ref b2), (3, .ref b3), (4, .int x4_3)] []) E (fun r1_6 E => ?_)
        show G l D X 6 (WA4 cy 6 6 24 4 b0 b1 b2 b3) 0 0 (r0, r1_6, r2, r3) 71 [(5, .int y5_5), (1, .ref b1), (2, .ref b2), (3, .ref b3), (4, .int x4_3)] []
        refine g_aload_n (pc' := 72) O ⟨dL_counts_71, rfl⟩ (q := 1) rfl rfl ?_
        refine g_aload_n (pc' := 73) O ⟨dL_counts_72, rfl⟩ (q := 2) rfl rfl ?_
        refine g_iload (pc' := 75) O ⟨dL_counts_73, rfl⟩ (q := 4) rfl ?_
        refine g_iald (pc' := 76) O ⟨dL_counts_75, rfl⟩ zA4_2 E (fun E => ?_)
        refine g_bipush (pc' := 78) O ⟨dL_counts_76, rfl⟩ (v := (8 : Int32)) rfl ?_
        refine g_idiv (pc' := 79) O ⟨dL_counts_78, rfl⟩ (by decide) ?_
        refine g_iload (pc' := 81) O ⟨dL_counts_79, rfl⟩ (q := 0) rfl ?_
        refine g_iconst (pc' := 82) O ⟨dL_counts_81, rfl⟩ (v := (2 : Int32)) rfl ?_
        refine g_idiv (pc' := 83) O ⟨dL_counts_82, rfl⟩ (by decide) ?_
        refine g_iast (pc' := 84) O ⟨dL_counts_83, rfl⟩ zA4_1 zsA4_1 E (fun E => ?_)
        refine g_nmr (Go := fun (r1_7 : Row) => G l D X 6 (WA4 cy 6 6 24 4 b0 b1 b2 b3) 0 0 (r0, r1_7, r2, r3) 84 [(5, .int y5_5), (1, .ref b1), (2, .ref b2), (3, .ref b3), (4, .int x4_3)] []) E (fun r1_7 E => ?_)
        show G l D X 6 (WA4 cy 6 6 24 4 b0 b1 b2 b3) 0 0 (r0, r1_7, r2, r3) 84 [(5, .int y5_5), (1, .ref b1), (2, .ref b2), (3, .ref b3), (4, .int x4_3)] []
        refine g_iinc (pc' := 87) O ⟨dL_counts_84, rfl⟩ (q := 4) (v := x4_3 + (1 : Int32)) (lv' := [(4, .int (x4_3 + (1 : Int32))), (5, .int y5_5), (1, .ref b1), (2, .ref b2), (3, .ref b3)]) rfl rfl (by decide) rfl ?_
        refine g_goto (pc' := 90) O ⟨dL_counts_87, rfl⟩ (tgt := 27) (by decide) ?_
        refine g_sub (lv' := [(1, .ref b1), (2, .ref b2), (3, .ref b3), (4, .int (x4_3 + (1 : Int32)))]) [2, 3, 4, 0] rfl ?_
        exact ih27 _ _ E
  · intro k24 hk24 E
    refine g_sub (lv' := [(0, .ref b0), (1, .ref b1), (2, .ref b2), (3, .ref b3), (4, .int (0 : Int32))]) [1, 2, 3, 4, 0] rfl ?_
    refine fx2_of (P := fun (x4_8 : Int32) (r1_9 : Row) => G l D X 6 (WA4 cy 6 6 24 4 b0 b1 b2 b3) 0 0 (r0, r1_9, r2, r3) 3 [(0, .ref b0), (1, .ref b1), (2, .ref b2), (3, .ref b3), (4, .int x4_8)] []) ?_ _ _ _ E
    intro self ih3 x4_8 r1_9 E
    show G l D X 6 (WA4 cy 6 6 24 4 b0 b1 b2 b3) 0 0 (r0, r1_9, r2, r3) 3 [(0, .ref b0), (1, .ref b1), (2, .ref b2), (3, .ref b3), (4, .int x4_8)] []
    unfold L_L_counts_3 at E
    refine g_iload (pc' := 5) O ⟨dL_counts_3, rfl⟩ (q := 4) rfl ?_
    refine g_bipush (pc' := 7) O ⟨dL_counts_5, rfl⟩ (v := (6 : Int32)) rfl ?_
    refine g_icmp_ge (pc' := 10) O ⟨dL_counts_7, rfl⟩ E (tgt := 24) (by decide) (fun E => ?_) (fun E => ?_)
    · refine g_sub (lv' := [(1, .ref b1), (2, .ref b2), (3, .ref b3)]) [1, 2, 3] rfl ?_
      exact hk24 _ E
    · refine g_aload_n (pc' := 11) O ⟨dL_counts_10, rfl⟩ (q := 1) rfl rfl ?_
      refine g_iload (pc' := 13) O ⟨dL_counts_11, rfl⟩ (q := 4) rfl ?_
      refine g_aload_n (pc' := 14) O ⟨dL_counts_13, rfl⟩ (q := 0) rfl rfl ?_
      refine g_iload (pc' := 16) O ⟨dL_counts_14, rfl⟩ (q := 4) rfl ?_
      refine g_iald (pc' := 17) O ⟨dL_counts_16, rfl⟩ zA4_0 E (fun E => ?_)
      refine g_iast (pc' := 18) O ⟨dL_counts_17, rfl⟩ zA4_1 zsA4_1 E (fun E => ?_)
      refine g_nmr (Go := fun (r1_10 : Row) => G l D X 6 (WA4 cy 6 6 24 4 b0 b1 b2 b3) 0 0 (r0, r1_10, r2, r3) 18 [(0, .ref b0), (1, .ref b1), (2, .ref b2), (3, .ref b3), (4, .int x4_8)] []) E (fun r1_10 E => ?_)
      show G l D X 6 (WA4 cy 6 6 24 4 b0 b1 b2 b3) 0 0 (r0, r1_10, r2, r3) 18 [(0, .ref b0), (1, .ref b1), (2, .ref b2), (3, .ref b3), (4, .int x4_8)] []
      refine g_iinc (pc' := 21) O ⟨dL_counts_18, rfl⟩ (q := 4) (v := x4_8 + (1 : Int32)) (lv' := [(4, .int (x4_8 + (1 : Int32))), (0, .ref b0), (1, .ref b1), (2, .ref b2), (3, .ref b3)]) rfl rfl (by decide) rfl ?_
      refine g_goto (pc' := 24) O ⟨dL_counts_21, rfl⟩ (tgt := 3) (by decide) ?_
      refine g_sub (lv' := [(0, .ref b0), (1, .ref b1), (2, .ref b2), (3, .ref b3), (4, .int (x4_8 + (1 : Int32)))]) [1, 2, 3, 4, 0] rfl ?_
      exact ih3 _ _ E
set_option maxRecDepth 100000 in
set_option maxHeartbeats 4000000 in
theorem t_L_same (l : Launch) (D : va_G) (ad : Nat → Nat) (cy : Nat → ClassId) (hfl : l.stackTraces = false) (b0 : Nat) (b1 : Nat) (b2 : Nat) (b3 : Nat) (b4 : Nat) {x1 : Int32} {h : Hp} {r0 : Row} {r1 : Row} {r2 : Row} {r3 : Row} {r4 : Row} {o : Int32 × Hp × Row} (E : f_L_same x1 h r0 r1 r2 r3 r4 = some o) : CtMI l D cy (WX5 ad cy 24 40 6 36 4 b0 b1 b2 b3 b4) yL_same cL_same 20 .boolean 14 422 91 618 [.ref (ad 0), .int x1, .ref b0, .ref b1, .ref b2, .ref b3, .ref b4] (h, r0, r1, r2, r3, r4) o.1 (o.2.1, o.2.2, r1, r2, r3, r4) := by
  refine sMI (own := RL) rfl rfl (Nat.le_of_ble_eq_true rfl) (fun X O hN hret => ?_)
  show G l D X 20 (WX5 ad cy 24 40 6 36 4 b0 b1 b2 b3 b4) 0 0 (h, r0, r1, r2, r3, r4) 0 [(0, .ref (ad 0)), (1, .int x1), (2, .ref b0), (3, .ref b1), (4, .ref b2), (5, .ref b3), (6, .ref b4)] []
  unfold f_L_same at E
  refine g_aload (pc' := 2) O ⟨dL_same_0, rfl⟩ (q := 6) rfl ?_
  refine g_iconst (pc' := 3) O ⟨dL_same_2, rfl⟩ (v := (0 : Int32)) rfl ?_
  refine g_iald (pc' := 4) O ⟨dL_same_3, rfl⟩ zX5_4 E (fun E => ?_)
  refine g_istore (pc' := 6) O ⟨dL_same_4, rfl⟩ (lv' := [(7, .int (r4 (0 : Int32).toNatClampNeg)), (0, .ref (ad 0)), (1, .int x1), (2, .ref b0), (3, .ref b1), (4, .ref b2), (5, .ref b3), (6, .ref b4)]) (by decide) rfl ?_
  refine g_bipush (pc' := 8) O ⟨dL_same_6, rfl⟩ (v := (24 : Int32)) rfl ?_
  refine g_newr (pc' := 10) O ⟨dL_same_8, rfl⟩ (N' := 24) (wf2 := fun b5 => (WX6 ad cy 24 40 6 36 4 24 b0 b1 b2 b3 b4 b5)) (h2 := (h, r0, r1, r2, r3, r4, (fun _ => 0))) kw_94 rfl (by decide) (by decide) ⟨Nat.le_of_ble_eq_true rfl, Nat.le_of_ble_eq_true rfl⟩ (fun _ => rfl) (fun b5 => ?_)
  show G l D X 20 (WX6 ad cy 24 40 6 36 4 24 b0 b1 b2 b3 b4 b5) 1 24 (h, r0, r1, r2, r3, r4, (fun _ => 0)) 10 [(7, .int (r4 (0 : Int32).toNatClampNeg)), (0, .ref (ad 0)), (1, .int x1), (2, .ref b0), (3, .ref b1), (4, .ref b2), (5, .ref b3), (6, .ref b4)] [.ref b5]
  refine g_astore (pc' := 12) O ⟨dL_same_10, rfl⟩ (lv' := [(8, .ref b5), (7, .int (r4 (0 : Int32).toNatClampNeg)), (0, .ref (ad 0)), (1, .int x1), (2, .ref b0), (3, .ref b1), (4, .ref b2), (5, .ref b3), (6, .ref b4)]) (by decide) rfl ?_
  refine g_bipush (pc' := 14) O ⟨dL_same_12, rfl⟩ (v := (6 : Int32)) rfl ?_
  refine g_newr (pc' := 16) O ⟨dL_same_14, rfl⟩ (N' := 6) (wf2 := fun b6 => (WX7 ad cy 24 40 6 36 4 24 6 b0 b1 b2 b3 b4 b5 b6)) (h2 := (h, r0, r1, r2, r3, r4, (fun _ => 0), (fun _ => 0))) kw_94 rfl (by decide) (by decide) ⟨Nat.le_of_ble_eq_true rfl, Nat.le_of_ble_eq_true rfl⟩ (fun _ => rfl) (fun b6 => ?_)
  show G l D X 20 (WX7 ad cy 24 40 6 36 4 24 6 b0 b1 b2 b3 b4 b5 b6) 2 30 (h, r0, r1, r2, r3, r4, (fun _ => 0), (fun _ => 0)) 16 [(8, .ref b5), (7, .int (r4 (0 : Int32).toNatClampNeg)), (0, .ref (ad 0)), (1, .int x1), (2, .ref b0), (3, .ref b1), (4, .ref b2), (5, .ref b3), (6, .ref b4)] [.ref b6]
  refine g_astore (pc' := 18) O ⟨dL_same_16, rfl⟩ (lv' := [(9, .ref b6), (8, .ref b5), (7, .int (r4 (0 : Int32).toNatClampNeg)), (0, .ref (ad 0)), (1, .int x1), (2, .ref b0), (3, .ref b1), (4, .ref b2), (5, .ref b3), (6, .ref b4)]) (by decide) rfl ?_
  refine g_bipush (pc' := 20) O ⟨dL_same_18, rfl⟩ (v := (6 : Int32)) rfl ?_
  refine g_newr (pc' := 22) O ⟨dL_same_20, rfl⟩ (N' := 6) (wf2 := fun b7 => (WX8 ad cy 24 40 6 36 4 24 6 6 b0 b1 b2 b3 b4 b5 b6 b7)) (h2 := (h, r0, r1, r2, r3, r4, (fun _ => 0), (fun _ => 0), (fun _ => 0))) kw_94 rfl (by decide) (by decide) ⟨Nat.le_of_ble_eq_true rfl, Nat.le_of_ble_eq_true rfl⟩ (fun _ => rfl) (fun b7 => ?_)
  show G l D X 20 (WX8 ad cy 24 40 6 36 4 24 6 6 b0 b1 b2 b3 b4 b5 b6 b7) 3 36 (h, r0, r1, r2, r3, r4, (fun _ => 0), (fun _ => 0), (fun _ => 0)) 22 [(9, .ref b6), (8, .ref b5), (7, .int (r4 (0 : Int32).toNatClampNeg)), (0, .ref (ad 0)), (1, .int x1), (2, .ref b0), (3, .ref b1), (4, .ref b2), (5, .ref b3), (6, .ref b4)] [.ref b7]
  refine g_astore (pc' := 24) O ⟨dL_same_22, rfl⟩ (lv' := [(10, .ref b7), (9, .ref b6), (8, .ref b5), (7, .int (r4 (0 : Int32).toNatClampNeg)), (0, .ref (ad 0)), (1, .int x1), (2, .ref b0), (3, .ref b1), (4, .ref b2), (5, .ref b3), (6, .ref b4)]) (by decide) rfl ?_
  refine g_aload (pc' := 26) O ⟨dL_same_24, rfl⟩ (q := 2) rfl ?_
  refine g_aload_n (pc' := 27) O ⟨dL_same_26, rfl⟩ (q := 6) rfl rfl ?_
  refine g_aload (pc' := 29) O ⟨dL_same_27, rfl⟩ (q := 10) rfl ?_
  obtain ⟨r_1, c_2, E⟩ := bd_of E
  refine g_MSi (pc' := 32) O hN ⟨dL_same_29, rfl⟩ (y := yL_layers) (As := [.ref b5, .ref b0, .ref b4]) (st := []) (put := (fun g => (h, g.2.1, r1, r2, r3, g.2.2, g.1, (fun _ => 0), (fun _ => 0)))) sub_X8_A5_0_4 (t_L_layers l D cy hfl b5 b0 b4 c_2) kw_559 kw_24 kw_557 kw_558 hd_L_layers ⟨Nat.le_of_ble_eq_true rfl, Nat.le_of_ble_eq_true rfl⟩ ⟨Nat.le_of_ble_eq_true rfl, Nat.le_of_ble_eq_true rfl⟩ rfl (Nat.le_of_ble_eq_true rfl) ?_
  show G l D X 20 (WX8 ad cy 24 40 6 36 4 24 6 6 b0 b1 b2 b3 b4 b5 b6 b7) 4 42 (h, r0, r1, r2, r3, r4, r_1.2, (fun _ => 0), (fun _ => 0)) 32 [(10, .ref b7), (9, .ref b6), (8, .ref b5), (7, .int (r4 (0 : Int32).toNatClampNeg)), (0, .ref (ad 0)), (1, .int x1), (2, .ref b0), (3, .ref b1), (4, .ref b2), (5, .ref b3), (6, .ref b4)] [.int r_1.1]
  refine g_istore (pc' := 34) O ⟨dL_same_32, rfl⟩ (lv' := [(11, .int r_1.1), (10, .ref b7), (9, .ref b6), (8, .ref b5), (7, .int (r4 (0 : Int32).toNatClampNeg)), (0, .ref (ad 0)), (1, .int x1), (2, .ref b0), (3, .ref b1), (4, .ref b2), (5, .ref b3), (6, .ref b4)]) (by decide) rfl ?_
  refine g_iconst (pc' := 35) O ⟨dL_same_34, rfl⟩ (v := (0 : Int32)) rfl ?_
  refine g_istore (pc' := 37) O ⟨dL_same_35, rfl⟩ (lv' := [(12, .int (0 : Int32)), (11, .int r_1.1), (10, .ref b7), (9, .ref b6), (8, .ref b5), (7, .int (r4 (0 : Int32).toNatClampNeg)), (0, .ref (ad 0)), (1, .int x1), (2, .ref b0), (3, .ref b1), (4, .ref b2), (5, .ref b3), (6, .ref b4)]) (by decide) rfl ?_
  refine g_iconst (pc' := 38) O ⟨dL_same_37, rfl⟩ (v := (0 : Int32)) rfl ?_
  refine g_istore (pc' := 40) O ⟨dL_same_38, rfl⟩ (lv' := [(13, .int (0 : Int32)), (12, .int (0 : Int32)), (11, .int r_1.1), (10, .ref b7), (9, .ref b6), (8, .ref b5), (7, .int (r4 (0 : Int32).toNatClampNeg)), (0, .ref (ad 0)), (1, .int x1), (2, .ref b0), (3, .ref b1), (4, .ref b2), (5, .ref b3), (6, .ref b4)]) (by decide) rfl ?_
  refine g_iconst (pc' := 41) O ⟨dL_same_40, rfl⟩ (v := (0 : Int32)) rfl ?_
  refine g_istore (pc' := 43) O ⟨dL_same_41, rfl⟩ (lv' := [(14, .int (0 : Int32)), (13, .int (0 : Int32)), (12, .int (0 : Int32)), (11, .int r_1.1), (10, .ref b7), (9, .ref b6), (8, .ref b5), (7, .int (r4 (0 : Int32).toNatClampNeg)), (0, .ref (ad 0)), (1, .int x1), (2, .ref b0), (3, .ref b1), (4, .ref b2), (5, .ref b3), (6, .ref b4)]) (by decide) rfl ?_
  refine jn2_of (P := fun (x12_3 : Int32) (x13_4 : Int32) => G l D X 20 (WX8 ad cy 24 40 6 36 4 24 6 6 b0 b1 b2 b3 b4 b5 b6 b7) 4 42 (h, r0, r1, r2, r3, r4, r_1.2, (fun _ => 0), (fun _ => 0)) 106 [(0, .ref (ad 0)), (1, .int x1), (2, .ref b0), (3, .ref b1), (4, .ref b2), (5, .ref b3), (6, .ref b4), (7, .int (r4 (0 : Int32).toNatClampNeg)), (8, .ref b5), (9, .ref b6), (10, .ref b7), (11, .int r_1.1), (12, .int x12_3), (13, .int x13_4)] []) E ?_ ?_
  · intro x12_3 x13_4 E
    show G l D X 20 (WX8 ad cy 24 40 6 36 4 24 6 6 b0 b1 b2 b3 b4 b5 b6 b7) 4 42 (h, r0, r1, r2, r3, r4, r_1.2, (fun _ => 0), (fun _ => 0)) 106 [(0, .ref (ad 0)), (1, .int x1), (2, .ref b0), (3, .ref b1), (4, .ref b2), (5, .ref b3), (6, .ref b4), (7, .int (r4 (0 : Int32).toNatClampNeg)), (8, .ref b5), (9, .ref b6), (10, .ref b7), (11, .int r_1.1), (12, .int x12_3), (13, .int x13_4)] []
    refine g_iload_n (pc' := 107) O ⟨dL_same_106, rfl⟩ (q := 1) rfl rfl ?_
    refine g_iconst (pc' := 108) O ⟨dL_same_107, rfl⟩ (v := (4 : Int32)) rfl ?_
    refine g_ishr (pc' := 109) O ⟨dL_same_108, rfl⟩ ?_
    refine g_iconst (pc' := 110) O ⟨dL_same_109, rfl⟩ (v := (4 : Int32)) rfl ?_
    refine g_aload (pc' := 112) O ⟨dL_same_110, rfl⟩ (q := 6) rfl ?_
    refine g_iconst (pc' := 113) O ⟨dL_same_112, rfl⟩ (v := (1 : Int32)) rfl ?_
    refine g_iald (pc' := 114) O ⟨dL_same_113, rfl⟩ zX8_4 E (fun E => ?_)
    refine g_imul (pc' := 115) O ⟨dL_same_114, rfl⟩ ?_
    refine g_iconst (pc' := 116) O ⟨dL_same_115, rfl⟩ (v := (2 : Int32)) rfl ?_
    refine g_iadd (pc' := 117) O ⟨dL_same_116, rfl⟩ ?_
    obtain ⟨r_5, c_6, E⟩ := bd_of E
    refine g_MSi (pc' := 120) O hN ⟨dL_same_117, rfl⟩ (y := yL_low) (As := [.int (ishr x1 (4 : Int32)), .int (((4 : Int32) * (r4 (1 : Int32).toNatClampNeg)) + (2 : Int32))]) (st := []) (put := (fun g => (h, r0, r1, r2, r3, r4, r_1.2, (fun _ => 0), (fun _ => 0)))) sub_X8_A (t_L_low l D cy hfl c_6) kw_408 kw_24 kw_406 kw_407 hd_L_low ⟨Nat.le_of_ble_eq_true rfl, Nat.le_of_ble_eq_true rfl⟩ ⟨Nat.le_of_ble_eq_true rfl, Nat.le_of_ble_eq_true rfl⟩ rfl (Nat.le_of_ble_eq_true rfl) ?_
    show G l D X 20 (WX8 ad cy 24 40 6 36 4 24 6 6 b0 b1 b2 b3 b4 b5 b6 b7) 4 42 (h, r0, r1, r2, r3, r4, r_1.2, (fun _ => 0), (fun _ => 0)) 120 [(0, .ref (ad 0)), (1, .int x1), (2, .ref b0), (3, .ref b1), (4, .ref b2), (5, .ref b3), (6, .ref b4), (7, .int (r4 (0 : Int32).toNatClampNeg)), (8, .ref b5), (9, .ref b6), (10, .ref b7), (11, .int r_1.1), (12, .int x12_3), (13, .int x13_4)] [.int r_5]
    refine g_istore (pc' := 122) O ⟨dL_same_120, rfl⟩ (lv' := [(14, .int r_5), (0, .ref (ad 0)), (1, .int x1), (2, .ref b0), (3, .ref b1), (4, .ref b2), (5, .ref b3), (6, .ref b4), (7, .int (r4 (0 : Int32).toNatClampNeg)), (8, .ref b5), (9, .ref b6), (10, .ref b7), (11, .int r_1.1), (12, .int x12_3), (13, .int x13_4)]) (by decide) rfl ?_
    refine g_aload_n (pc' := 123) O ⟨dL_same_122, rfl⟩ (q := 1) rfl rfl ?_
    refine g_iconst (pc' := 124) O ⟨dL_same_123, rfl⟩ (v := (0 : Int32)) rfl ?_
    obtain ⟨z_10, c_8, e_9, E⟩ := hcatch_of E
    refine g_UXi (pc' := 127) O ⟨dL_same_124, rfl⟩ (y := yX10_told) (As := [.int (0 : Int32)]) (st := []) (put := (fun g => (g, r0, r1, r2, r3, r4, r_1.2, (fun _ => 0), (fun _ => 0)))) sub_X8_X (t_X10_told l D ad cy hfl (h := h) c_8) kw_569 kw_25 kw_566 kw_567 kw_568 rfl zX8_x hd_X10_told ⟨Nat.le_of_ble_eq_true rfl, Nat.le_of_ble_eq_true rfl⟩ ⟨Nat.le_of_ble_eq_true rfl, Nat.le_of_ble_eq_true rfl⟩ rfl (Nat.le_of_ble_eq_true rfl) (fun E1 c q => (by cases e_9 E1 c q)) (fun r_7 q => ?_)
    replace E := E r_7 q
    show G l D X 20 (WX8 ad cy 24 40 6 36 4 24 6 6 b0 b1 b2 b3 b4 b5 b6 b7) 5 48 (r_7.2, r0, r1, r2, r3, r4, r_1.2, (fun _ => 0), (fun _ => 0)) 127 [(14, .int r_5), (0, .ref (ad 0)), (1, .int x1), (2, .ref b0), (3, .ref b1), (4, .ref b2), (5, .ref b3), (6, .ref b4), (7, .int (r4 (0 : Int32).toNatClampNeg)), (8, .ref b5), (9, .ref b6), (10, .ref b7), (11, .int r_1.1), (12, .int x12_3), (13, .int x13_4)] [.int r_7.1]
    refine g_iload (pc' := 129) O ⟨dL_same_127, rfl⟩ (q := 8) rfl ?_
    refine jn2_of (P := fun (z_11 : Int32) (h_12 : Hp) => G l D X 20 (WX8 ad cy 24 40 6 36 4 24 6 6 b0 b1 b2 b3 b4 b5 b6 b7) 14 120 (h_12, r0, r1, r2, r3, r4, r_1.2, (fun _ => 0), (fun _ => 0)) 236 [(0, .ref (ad 0)), (1, .int x1), (2, .ref b0), (4, .ref b2), (5, .ref b3), (6, .ref b4), (7, .int (r4 (0 : Int32).toNatClampNeg)), (8, .ref b5), (9, .ref b6), (10, .ref b7)] [.int z_11]) E ?_ ?_
    · intro z_11 h_12 E
      show G l D X 20 (WX8 ad cy 24 40 6 36 4 24 6 6 b0 b1 b2 b3 b4 b5 b6 b7) 14 120 (h_12, r0, r1, r2, r3, r4, r_1.2, (fun _ => 0), (fun _ => 0)) 236 [(0, .ref (ad 0)), (1, .int x1), (2, .ref b0), (4, .ref b2), (5, .ref b3), (6, .ref b4), (7, .int (r4 (0 : Int32).toNatClampNeg)), (8, .ref b5), (9, .ref b6), (10, .ref b7)] [.int z_11]
      refine g_istore (pc' := 238) O ⟨dL_same_236, rfl⟩ (lv' := [(15, .int z_11), (0, .ref (ad 0)), (1, .int x1), (2, .ref b0), (4, .ref b2), (5, .ref b3), (6, .ref b4), (7, .int (r4 (0 : Int32).toNatClampNeg)), (8, .ref b5), (9, .ref b6), (10, .ref b7)]) (by decide) rfl ?_
      refine g_aload (pc' := 240) O ⟨dL_same_238, rfl⟩ (q := 6) rfl ?_
      refine g_iconst (pc' := 241) O ⟨dL_same_240, rfl⟩ (v := (1 : Int32)) rfl ?_
      refine g_iald (pc' := 242) O ⟨dL_same_241, rfl⟩ zX8_4 E (fun E => ?_)
      refine jn2_of (P := fun (x15_13 : Int32) (h_14 : Hp) => G l D X 20 (WX8 ad cy 24 40 6 36 4 24 6 6 b0 b1 b2 b3 b4 b5 b6 b7) 22 168 (h_14, r0, r1, r2, r3, r4, r_1.2, (fun _ => 0), (fun _ => 0)) 334 [(0, .ref (ad 0)), (1, .int x1), (2, .ref b0), (4, .ref b2), (5, .ref b3), (6, .ref b4), (7, .int (r4 (0 : Int32).toNatClampNeg)), (9, .ref b6), (10, .ref b7), (15, .int x15_13)] []) E ?_ ?_
      · intro x15_13 h_14 E
        show G l D X 20 (WX8 ad cy 24 40 6 36 4 24 6 6 b0 b1 b2 b3 b4 b5 b6 b7) 22 168 (h_14, r0, r1, r2, r3, r4, r_1.2, (fun _ => 0), (fun _ => 0)) 334 [(0, .ref (ad 0)), (1, .int x1), (2, .ref b0), (4, .ref b2), (5, .ref b3), (6, .ref b4), (7, .int (r4 (0 : Int32).toNatClampNeg)), (9, .ref b6), (10, .ref b7), (15, .int x15_13)] []
        refine g_aload (pc' := 336) O ⟨dL_same_334, rfl⟩ (q := 3) rfl ?_
        refine g_aload (pc' := 338) O ⟨dL_same_336, rfl⟩ (q := 8) rfl ?_
        refine g_aload_n (pc' := 339) O ⟨dL_same_338, rfl⟩ (q := 2) rfl rfl ?_
        refine g_aload (pc' := 341) O ⟨dL_same_339, rfl⟩ (q := 5) rfl ?_
        obtain ⟨r_15, c_16, E⟩ := bd_of E
        refine g_MSv (pc' := 344) O hN ⟨dL_same_341, rfl⟩ (y := yL_counts) (As := [.ref b2, .ref b7, .ref b0, .ref b4]) (st := []) (put := (fun g => (h_14, g.2.2.1, r1, g.1, r3, g.2.2.2, r_1.2, (fun _ => 0), g.2.1))) sub_X8_A2_7_0_4 (t_L_counts l D cy hfl b2 b7 b0 b4 c_16) kw_671 kw_24 kw_669 kw_670 hd_L_counts ⟨Nat.le_of_ble_eq_true rfl, Nat.le_of_ble_eq_true rfl⟩ ⟨Nat.le_of_ble_eq_true rfl, Nat.le_of_ble_eq_true rfl⟩ rfl (Nat.le_of_ble_eq_true rfl) ?_
        show G l D X 20 (WX8 ad cy 24 40 6 36 4 24 6 6 b0 b1 b2 b3 b4 b5 b6 b7) 22 168 (h_14, r0, r1, r2, r3, r4, r_1.2, (fun _ => 0), r_15) 344 [(0, .ref (ad 0)), (1, .int x1), (2, .ref b0), (4, .ref b2), (5, .ref b3), (6, .ref b4), (7, .int (r4 (0 : Int32).toNatClampNeg)), (9, .ref b6), (10, .ref b7), (15, .int x15_13)] []
        refine g_iconst (pc' := 345) O ⟨dL_same_344, rfl⟩ (v := (1 : Int32)) rfl ?_
        refine g_istore (pc' := 347) O ⟨dL_same_345, rfl⟩ (lv' := [(16, .int (1 : Int32)), (0, .ref (ad 0)), (1, .int x1), (2, .ref b0), (4, .ref b2), (5, .ref b3), (6, .ref b4), (7, .int (r4 (0 : Int32).toNatClampNeg)), (9, .ref b6), (10, .ref b7), (15, .int x15_13)]) (by decide) rfl ?_
        refine g_iconst (pc' := 348) O ⟨dL_same_347, rfl⟩ (v := (0 : Int32)) rfl ?_
        refine g_istore (pc' := 350) O ⟨dL_same_348, rfl⟩ (lv' := [(17, .int (0 : Int32)), (16, .int (1 : Int32)), (0, .ref (ad 0)), (1, .int x1), (2, .ref b0), (4, .ref b2), (5, .ref b3), (6, .ref b4), (7, .int (r4 (0 : Int32).toNatClampNeg)), (9, .ref b6), (10, .ref b7), (15, .int x15_13)]) (by decide) rfl ?_
        refine jn3_of (P := fun (x15_17 : Int32) (x16_18 : Int32) (h_19 : Hp) => G l D X 20 (WX8 ad cy 24 40 6 36 4 24 6 6 b0 b1 b2 b3 b4 b5 b6 b7) 38 264 (h_19, r0, r1, r2, r3, r4, r_1.2, (fun _ => 0), r_15) 449 [(0, .ref (ad 0)), (1, .int x1), (2, .ref b0), (5, .ref b3), (6, .ref b4), (7, .int (r4 (0 : Int32).toNatClampNeg)), (9, .ref b6), (15, .int x15_17), (16, .int x16_18)] []) E ?_ ?_
        · intro x15_17 x16_18 h_19 E
          show G l D X 20 (WX8 ad cy 24 40 6 36 4 24 6 6 b0 b1 b2 b3 b4 b5 b6 b7) 38 264 (h_19, r0, r1, r2, r3, r4, r_1.2, (fun _ => 0), r_15) 449 [(0, .ref (ad 0)), (1, .int x1), (2, .ref b0), (5, .ref b3), (6, .ref b4), (7, .int (r4 (0 : Int32).toNatClampNeg)), (9, .ref b6), (15, .int x15_17), (16, .int x16_18)] []
          refine g_iconst (pc' := 450) O ⟨dL_same_449, rfl⟩ (v := (0 : Int32)) rfl ?_
          refine g_iconst (pc' := 451) O ⟨dL_same_450, rfl⟩ (v := (0 : Int32)) rfl ?_
          refine g_aload (pc' := 453) O ⟨dL_same_451, rfl⟩ (q := 3) rfl ?_
          refine g_aload (pc' := 455) O ⟨dL_same_453, rfl⟩ (q := 4) rfl ?_
          obtain ⟨r_20, c_21, E⟩ := bd_of E
          refine g_MSi (pc' := 458) O hN ⟨dL_same_455, rfl⟩ (y := yL_agreeing) (As := [.int (0 : Int32), .int (0 : Int32), .ref b3, .ref b4]) (st := []) (put := (fun g => (h_19, r0, r1, r2, g.1, g.2, r_1.2, (fun _ => 0), r_15))) sub_X8_A3_4 (t_L_agreeing l D cy hfl b3 b4 c_21) kw_547 kw_24 kw_545 kw_546 hd_L_agreeing ⟨Nat.le_of_ble_eq_true rfl, Nat.le_of_ble_eq_true rfl⟩ ⟨Nat.le_of_ble_eq_true rfl, Nat.le_of_ble_eq_true rfl⟩ rfl (Nat.le_of_ble_eq_true rfl) ?_
          show G l D X 20 (WX8 ad cy 24 40 6 36 4 24 6 6 b0 b1 b2 b3 b4 b5 b6 b7) 39 270 (h_19, r0, r1, r2, r3, r4, r_1.2, (fun _ => 0), r_15) 458 [(0, .ref (ad 0)), (1, .int x1), (2, .ref b0), (5, .ref b3), (6, .ref b4), (7, .int (r4 (0 : Int32).toNatClampNeg)), (9, .ref b6), (15, .int x15_17), (16, .int x16_18)] [.int r_20]
          refine g_istore (pc' := 460) O ⟨dL_same_458, rfl⟩ (lv' := [(17, .int r_20), (0, .ref (ad 0)), (1, .int x1), (2, .ref b0), (5, .ref b3), (6, .ref b4), (7, .int (r4 (0 : Int32).toNatClampNeg)), (9, .ref b6), (15, .int x15_17), (16, .int x16_18)]) (by decide) rfl ?_
          refine g_aload_n (pc' := 461) O ⟨dL_same_460, rfl⟩ (q := 1) rfl rfl ?_
          obtain ⟨r_22, c_23, E⟩ := bd_of E
          refine g_Ui (pc' := 464) O ⟨dL_same_461, rfl⟩ (y := yX10_needed) (As := []) (st := []) (put := (fun g => (g, r0, r1, r2, r3, r4, r_1.2, (fun _ => 0), r_15))) sub_X8_X (t_X10_needed l D ad cy (h := h_19) c_23) kw_687 kw_25 kw_684 kw_685 kw_686 rfl zX8_x hd_X10_needed ⟨Nat.le_of_ble_eq_true rfl, Nat.le_of_ble_eq_true rfl⟩ ⟨Nat.le_of_ble_eq_true rfl, Nat.le_of_ble_eq_true rfl⟩ rfl (Nat.le_of_ble_eq_true rfl) ?_
          show G l D X 20 (WX8 ad cy 24 40 6 36 4 24 6 6 b0 b1 b2 b3 b4 b5 b6 b7) 39 270 (r_22.2, r0, r1, r2, r3, r4, r_1.2, (fun _ => 0), r_15) 464 [(17, .int r_20), (0, .ref (ad 0)), (1, .int x1), (2, .ref b0), (5, .ref b3), (6, .ref b4), (7, .int (r4 (0 : Int32).toNatClampNeg)), (9, .ref b6), (15, .int x15_17), (16, .int x16_18)] [.int r_22.1]
          refine g_istore (pc' := 466) O ⟨dL_same_464, rfl⟩ (lv' := [(18, .int r_22.1), (17, .int r_20), (0, .ref (ad 0)), (1, .int x1), (2, .ref b0), (5, .ref b3), (6, .ref b4), (7, .int (r4 (0 : Int32).toNatClampNeg)), (9, .ref b6), (15, .int x15_17), (16, .int x16_18)]) (by decide) rfl ?_
          refine g_iload (pc' := 468) O ⟨dL_same_466, rfl⟩ (q := 9) rfl ?_
          refine g_if_eq (pc' := 471) O ⟨dL_same_468, rfl⟩ E (tgt := 569) (by decide) (fun E => ?_) (fun E => ?_)
          · refine g_iconst (pc' := 570) O ⟨dL_same_569, rfl⟩ (v := (0 : Int32)) rfl ?_
            refine g_istore (pc' := 572) O ⟨dL_same_570, rfl⟩ (lv' := [(15, .int (0 : Int32)), (18, .int r_22.1), (17, .int r_20), (0, .ref (ad 0)), (1, .int x1), (2, .ref b0), (5, .ref b3), (6, .ref b4), (7, .int (r4 (0 : Int32).toNatClampNeg)), (9, .ref b6), (16, .int x16_18)]) (by decide) rfl ?_
            refine g_iconst (pc' := 573) O ⟨dL_same_572, rfl⟩ (v := (0 : Int32)) rfl ?_
            refine g_istore (pc' := 575) O ⟨dL_same_573, rfl⟩ (lv' := [(19, .int (0 : Int32)), (15, .int (0 : Int32)), (18, .int r_22.1), (17, .int r_20), (0, .ref (ad 0)), (1, .int x1), (2, .ref b0), (5, .ref b3), (6, .ref b4), (7, .int (r4 (0 : Int32).toNatClampNeg)), (9, .ref b6), (16, .int x16_18)]) (by decide) rfl ?_
            refine jn1_of (P := fun (r6_24 : Row) => G l D X 20 (WX8 ad cy 24 40 6 36 4 24 6 6 b0 b1 b2 b3 b4 b5 b6 b7) 39 270 (r_22.2, r0, r1, r2, r3, r4, r_1.2, r6_24, r_15) 595 [(0, .ref (ad 0)), (1, .int x1), (2, .ref b0), (6, .ref b4), (7, .int (r4 (0 : Int32).toNatClampNeg)), (9, .ref b6), (15, .int (0 : Int32))] []) E ?_ ?_
            · intro r6_24 E
              show G l D X 20 (WX8 ad cy 24 40 6 36 4 24 6 6 b0 b1 b2 b3 b4 b5 b6 b7) 39 270 (r_22.2, r0, r1, r2, r3, r4, r_1.2, r6_24, r_15) 595 [(0, .ref (ad 0)), (1, .int x1), (2, .ref b0), (6, .ref b4), (7, .int (r4 (0 : Int32).toNatClampNeg)), (9, .ref b6), (15, .int (0 : Int32))] []
              refine g_iload_n (pc' := 596) O ⟨dL_same_595, rfl⟩ (q := 1) rfl rfl ?_
              refine g_iconst (pc' := 597) O ⟨dL_same_596, rfl⟩ (v := (5 : Int32)) rfl ?_
              refine g_ishr (pc' := 598) O ⟨dL_same_597, rfl⟩ ?_
              refine g_bipush (pc' := 600) O ⟨dL_same_598, rfl⟩ (v := (120 : Int32)) rfl ?_
              obtain ⟨r_25, c_26, E⟩ := bd_of E
              refine g_MSi (pc' := 603) O hN ⟨dL_same_600, rfl⟩ (y := yL_low) (As := [.int (ishr x1 (5 : Int32)), .int (120 : Int32)]) (st := []) (put := (fun g => (r_22.2, r0, r1, r2, r3, r4, r_1.2, r6_24, r_15))) sub_X8_A (t_L_low l D cy hfl c_26) kw_408 kw_24 kw_406 kw_407 hd_L_low ⟨Nat.le_of_ble_eq_true rfl, Nat.le_of_ble_eq_true rfl⟩ ⟨Nat.le_of_ble_eq_true rfl, Nat.le_of_ble_eq_true rfl⟩ rfl (Nat.le_of_ble_eq_true rfl) ?_
              show G l D X 20 (WX8 ad cy 24 40 6 36 4 24 6 6 b0 b1 b2 b3 b4 b5 b6 b7) 39 270 (r_22.2, r0, r1, r2, r3, r4, r_1.2, r6_24, r_15) 603 [(0, .ref (ad 0)), (1, .int x1), (2, .ref b0), (6, .ref b4), (7, .int (r4 (0 : Int32).toNatClampNeg)), (9, .ref b6), (15, .int (0 : Int32))] [.int r_25]
              refine g_istore (pc' := 605) O ⟨dL_same_603, rfl⟩ (lv' := [(19, .int r_25), (0, .ref (ad 0)), (1, .int x1), (2, .ref b0), (6, .ref b4), (7, .int (r4 (0 : Int32).toNatClampNeg)), (9, .ref b6), (15, .int (0 : Int32))]) (by decide) rfl ?_
              refine jn1_of (P := fun (r6_27 : Row) => G l D X 20 (WX8 ad cy 24 40 6 36 4 24 6 6 b0 b1 b2 b3 b4 b5 b6 b7) 39 270 (r_22.2, r0, r1, r2, r3, r4, r_1.2, r6_27, r_15) 624 [(0, .ref (ad 0)), (1, .int x1), (2, .ref b0), (6, .ref b4), (7, .int (r4 (0 : Int32).toNatClampNeg)), (9, .ref b6), (15, .int (0 : Int32))] []) E ?_ ?_
              · intro r6_27 E
                show G l D X 20 (WX8 ad cy 24 40 6 36 4 24 6 6 b0 b1 b2 b3 b4 b5 b6 b7) 39 270 (r_22.2, r0, r1, r2, r3, r4, r_1.2, r6_27, r_15) 624 [(0, .ref (ad 0)), (1, .int x1), (2, .ref b0), (6, .ref b4), (7, .int (r4 (0 : Int32).toNatClampNeg)), (9, .ref b6), (15, .int (0 : Int32))] []
                refine g_iload_n (pc' := 625) O ⟨dL_same_624, rfl⟩ (q := 1) rfl rfl ?_
                refine g_iconst (pc' := 626) O ⟨dL_same_625, rfl⟩ (v := (3 : Int32)) rfl ?_
                refine g_ishr (pc' := 627) O ⟨dL_same_626, rfl⟩ ?_
                refine g_iconst (pc' := 628) O ⟨dL_same_627, rfl⟩ (v := (5 : Int32)) rfl ?_
                obtain ⟨r_28, c_29, E⟩ := bd_of E
                refine g_MSi (pc' := 631) O hN ⟨dL_same_628, rfl⟩ (y := yL_low) (As := [.int (ishr x1 (3 : Int32)), .int (5 : Int32)]) (st := []) (put := (fun g => (r_22.2, r0, r1, r2, r3, r4, r_1.2, r6_27, r_15))) sub_X8_A (t_L_low l D cy hfl c_29) kw_408 kw_24 kw_406 kw_407 hd_L_low ⟨Nat.le_of_ble_eq_true rfl, Nat.le_of_ble_eq_true rfl⟩ ⟨Nat.le_of_ble_eq_true rfl, Nat.le_of_ble_eq_true rfl⟩ rfl (Nat.le_of_ble_eq_true rfl) ?_
                show G l D X 20 (WX8 ad cy 24 40 6 36 4 24 6 6 b0 b1 b2 b3 b4 b5 b6 b7) 39 270 (r_22.2, r0, r1, r2, r3, r4, r_1.2, r6_27, r_15) 631 [(0, .ref (ad 0)), (1, .int x1), (2, .ref b0), (6, .ref b4), (7, .int (r4 (0 : Int32).toNatClampNeg)), (9, .ref b6), (15, .int (0 : Int32))] [.int r_28]
                refine g_istore (pc' := 633) O ⟨dL_same_631, rfl⟩ (lv' := [(19, .int r_28), (0, .ref (ad 0)), (1, .int x1), (2, .ref b0), (6, .ref b4), (7, .int (r4 (0 : Int32).toNatClampNeg)), (9, .ref b6), (15, .int (0 : Int32))]) (by decide) rfl ?_
                refine g_iload (pc' := 635) O ⟨dL_same_633, rfl⟩ (q := 7) rfl ?_
                refine g_if_eq (pc' := 638) O ⟨dL_same_635, rfl⟩ E (tgt := 776) (by decide) (fun E => ?_) (fun E => ?_)
                · refine g_iconst (pc' := 777) O ⟨dL_same_776, rfl⟩ (v := (0 : Int32)) rfl ?_
                  obtain ⟨hn, E⟩ := ckz_of E
                  cases E
                  refine g_drop (wf := (WX5 ad cy 24 40 6 36 4 b0 b1 b2 b3 b4)) (h := (r_22.2, r0, r1, r2, r3, r4)) (List.range 40) rfl rfl (by decide) ?_
                  exact hret _ _ _ _ _ (Nat.le_of_ble_eq_true rfl) (Nat.le_of_ble_eq_true rfl) ⟨dL_same_777, rfl⟩ hn
                · refine g_iload (pc' := 640) O ⟨dL_same_638, rfl⟩ (q := 0) rfl ?_
                  refine g_if_ne (pc' := 643) O ⟨dL_same_640, rfl⟩ E (tgt := 659) (by decide) (fun E => ?_) (fun E => ?_)
                  · refine g_iload (pc' := 661) O ⟨dL_same_659, rfl⟩ (q := 0) rfl ?_
                    refine g_iconst (pc' := 662) O ⟨dL_same_661, rfl⟩ (v := (1 : Int32)) rfl ?_
                    refine g_icmp_ne (pc' := 665) O ⟨dL_same_662, rfl⟩ E (tgt := 679) (by decide) (fun E => ?_) (fun E => ?_)
                    · refine g_iload (pc' := 681) O ⟨dL_same_679, rfl⟩ (q := 0) rfl ?_
                      refine g_iconst (pc' := 682) O ⟨dL_same_681, rfl⟩ (v := (2 : Int32)) rfl ?_
                      refine g_icmp_ne (pc' := 685) O ⟨dL_same_682, rfl⟩ E (tgt := 707) (by decide) (fun E => ?_) (fun E => ?_)
                      · refine g_iload (pc' := 709) O ⟨dL_same_707, rfl⟩ (q := 0) rfl ?_
                        refine g_iconst (pc' := 710) O ⟨dL_same_709, rfl⟩ (v := (3 : Int32)) rfl ?_
                        refine g_icmp_ne (pc' := 713) O ⟨dL_same_710, rfl⟩ E (tgt := 728) (by decide) (fun E => ?_) (fun E => ?_)
                        · refine g_iload (pc' := 730) O ⟨dL_same_728, rfl⟩ (q := 5) rfl ?_
                          refine g_iconst (pc' := 731) O ⟨dL_same_730, rfl⟩ (v := (4 : Int32)) rfl ?_
                          refine g_icmp_gt (pc' := 734) O ⟨dL_same_731, rfl⟩ E (tgt := 772) (by decide) (fun E => ?_) (fun E => ?_)
                          · refine g_iconst (pc' := 773) O ⟨dL_same_772, rfl⟩ (v := (1 : Int32)) rfl ?_
                            refine g_goto (pc' := 776) O ⟨dL_same_773, rfl⟩ (tgt := 777) (by decide) ?_
                            obtain ⟨hn, E⟩ := ckz_of E
                            cases E
                            refine g_drop (wf := (WX5 ad cy 24 40 6 36 4 b0 b1 b2 b3 b4)) (h := (r_22.2, r0, r1, r2, r3, r4)) (List.range 40) rfl rfl (by decide) ?_
                            exact hret _ _ _ _ _ (Nat.le_of_ble_eq_true rfl) (Nat.le_of_ble_eq_true rfl) ⟨dL_same_777, rfl⟩ hn
                          · refine g_aload (pc' := 736) O ⟨dL_same_734, rfl⟩ (q := 4) rfl ?_
                            refine g_iconst (pc' := 737) O ⟨dL_same_736, rfl⟩ (v := (1 : Int32)) rfl ?_
                            refine g_iald (pc' := 738) O ⟨dL_same_737, rfl⟩ zX8_4 E (fun E => ?_)
                            refine g_bipush (pc' := 740) O ⟨dL_same_738, rfl⟩ (v := (22 : Int32)) rfl ?_
                            refine g_icmp_gt (pc' := 743) O ⟨dL_same_740, rfl⟩ E (tgt := 772) (by decide) (fun E => ?_) (fun E => ?_)
                            · refine g_iconst (pc' := 773) O ⟨dL_same_772, rfl⟩ (v := (1 : Int32)) rfl ?_
                              refine g_goto (pc' := 776) O ⟨dL_same_773, rfl⟩ (tgt := 777) (by decide) ?_
                              obtain ⟨hn, E⟩ := ckz_of E
                              cases E
                              refine g_drop (wf := (WX5 ad cy 24 40 6 36 4 b0 b1 b2 b3 b4)) (h := (r_22.2, r0, r1, r2, r3, r4)) (List.range 40) rfl rfl (by decide) ?_
                              exact hret _ _ _ _ _ (Nat.le_of_ble_eq_true rfl) (Nat.le_of_ble_eq_true rfl) ⟨dL_same_777, rfl⟩ hn
                            · refine g_aload_n (pc' := 744) O ⟨dL_same_743, rfl⟩ (q := 1) rfl rfl ?_
                              refine g_iconst (pc' := 745) O ⟨dL_same_744, rfl⟩ (v := (2 : Int32)) rfl ?_
                              obtain ⟨z_33, c_31, e_32, E⟩ := hcatch_of E
                              refine g_UXi (pc' := 748) O ⟨dL_same_745, rfl⟩ (y := yX10_finishes) (As := [.int (2 : Int32)]) (st := []) (put := (fun g => (g, r0, r1, r2, r3, r4, r_1.2, r6_27, r_15))) sub_X8_X (t_X10_finishes l D ad cy hfl (h := r_22.2) c_31) kw_1014 kw_25 kw_1011 kw_1012 kw_1013 rfl zX8_x hd_X10_finishes ⟨Nat.le_of_ble_eq_true rfl, Nat.le_of_ble_eq_true rfl⟩ ⟨Nat.le_of_ble_eq_true rfl, Nat.le_of_ble_eq_true rfl⟩ rfl (Nat.le_of_ble_eq_true rfl) (fun E1 c q => (by cases e_32 E1 c q)) (fun r_30 q => ?_)
                              replace E := E r_30 q
                              show G l D X 20 (WX8 ad cy 24 40 6 36 4 24 6 6 b0 b1 b2 b3 b4 b5 b6 b7) 40 276 (r_30.2, r0, r1, r2, r3, r4, r_1.2, r6_27, r_15) 748 [(19, .int r_28), (0, .ref (ad 0)), (1, .int x1), (2, .ref b0), (6, .ref b4), (7, .int (r4 (0 : Int32).toNatClampNeg)), (9, .ref b6), (15, .int (0 : Int32))] [.int r_30.1]
                              refine g_iconst (pc' := 749) O ⟨dL_same_748, rfl⟩ (v := (-1 : Int32)) rfl ?_
                              refine g_iconst (pc' := 750) O ⟨dL_same_749, rfl⟩ (v := (-1 : Int32)) rfl ?_
                              refine g_aload_n (pc' := 751) O ⟨dL_same_750, rfl⟩ (q := 3) rfl rfl ?_
                              refine g_aload (pc' := 753) O ⟨dL_same_751, rfl⟩ (q := 4) rfl ?_
                              obtain ⟨r_34, c_35, E⟩ := bd_of E
                              refine g_MSi (pc' := 756) O hN ⟨dL_same_753, rfl⟩ (y := yL_done) (As := [.int (-1 : Int32), .int (-1 : Int32), .ref b0, .ref b4]) (st := [.int r_30.1]) (put := (fun g => (r_30.2, g.1, r1, r2, r3, g.2, r_1.2, r6_27, r_15))) sub_X8_A0_4 (t_L_done l D cy hfl b0 b4 c_35) kw_1025 kw_24 kw_1023 kw_1024 hd_L_done ⟨Nat.le_of_ble_eq_true rfl, Nat.le_of_ble_eq_true rfl⟩ ⟨Nat.le_of_ble_eq_true rfl, Nat.le_of_ble_eq_true rfl⟩ rfl (Nat.le_of_ble_eq_true rfl) ?_
                              show G l D X 20 (WX8 ad cy 24 40 6 36 4 24 6 6 b0 b1 b2 b3 b4 b5 b6 b7) 40 276 (r_30.2, r_34.2, r1, r2, r3, r4, r_1.2, r6_27, r_15) 756 [(19, .int r_28), (0, .ref (ad 0)), (1, .int x1), (2, .ref b0), (6, .ref b4), (7, .int (r4 (0 : Int32).toNatClampNeg)), (9, .ref b6), (15, .int (0 : Int32))] [.int r_34.1, .int r_30.1]
                              refine jn2_of (P := fun (z_36 : Int32) (r0_37 : Row) => G l D X 20 (WX8 ad cy 24 40 6 36 4 24 6 6 b0 b1 b2 b3 b4 b5 b6 b7) 40 276 (r_30.2, r0_37, r1, r2, r3, r4, r_1.2, r6_27, r_15) 769 [] [.int z_36, .int r_30.1]) E ?_ ?_
                              · intro z_36 r0_37 E
                                show G l D X 20 (WX8 ad cy 24 40 6 36 4 24 6 6 b0 b1 b2 b3 b4 b5 b6 b7) 40 276 (r_30.2, r0_37, r1, r2, r3, r4, r_1.2, r6_27, r_15) 769 [] [.int z_36, .int r_30.1]
                                refine g_icmp_ne (pc' := 772) O ⟨dL_same_769, rfl⟩ E (tgt := 776) (by decide) (fun E => ?_) (fun E => ?_)
                                · refine g_iconst (pc' := 777) O ⟨dL_same_776, rfl⟩ (v := (0 : Int32)) rfl ?_
                                  obtain ⟨hn, E⟩ := ckz_of E
                                  cases E
                                  refine g_drop (wf := (WX5 ad cy 24 40 6 36 4 b0 b1 b2 b3 b4)) (h := (r_30.2, r0_37, r1, r2, r3, r4)) (List.range 40) rfl rfl (by decide) ?_
                                  exact hret _ _ _ _ _ (Nat.le_of_ble_eq_true rfl) (Nat.le_of_ble_eq_true rfl) ⟨dL_same_777, rfl⟩ hn
                                · refine g_iconst (pc' := 773) O ⟨dL_same_772, rfl⟩ (v := (1 : Int32)) rfl ?_
                                  refine g_goto (pc' := 776) O ⟨dL_same_773, rfl⟩ (tgt := 777) (by decide) ?_
                                  obtain ⟨hn, E⟩ := ckz_of E
                                  cases E
                                  refine g_drop (wf := (WX5 ad cy 24 40 6 36 4 b0 b1 b2 b3 b4)) (h := (r_30.2, r0_37, r1, r2, r3, r4)) (List.range 40) rfl rfl (by decide) ?_
                                  exact hret _ _ _ _ _ (Nat.le_of_ble_eq_true rfl) (Nat.le_of_ble_eq_true rfl) ⟨dL_same_777, rfl⟩ hn
                              · intro k769 hk769 E
                                refine g_if_eq (pc' := 759) O ⟨dL_same_756, rfl⟩ E (tgt := 763) (by decide) (fun E => ?_) (fun E => ?_)
                                · refine g_aload_n (pc' := 764) O ⟨dL_same_763, rfl⟩ (q := 3) rfl rfl ?_
                                  refine g_aload (pc' := 766) O ⟨dL_same_764, rfl⟩ (q := 4) rfl ?_
                                  obtain ⟨r_38, c_39, E⟩ := bd_of E
                                  refine g_MSi (pc' := 769) O hN ⟨dL_same_766, rfl⟩ (y := yL_finishes) (As := [.ref b0, .ref b4]) (st := [.int r_30.1]) (put := (fun g => (r_30.2, g.1, r1, r2, r3, g.2, r_1.2, r6_27, r_15))) sub_X8_A0_4 (t_L_finishes l D cy hfl b0 b4 c_39) kw_1028 kw_24 kw_1026 kw_1027 hd_L_finishes ⟨Nat.le_of_ble_eq_true rfl, Nat.le_of_ble_eq_true rfl⟩ ⟨Nat.le_of_ble_eq_true rfl, Nat.le_of_ble_eq_true rfl⟩ rfl (Nat.le_of_ble_eq_true rfl) ?_
                                  show G l D X 20 (WX8 ad cy 24 40 6 36 4 24 6 6 b0 b1 b2 b3 b4 b5 b6 b7) 40 276 (r_30.2, r_38.2, r1, r2, r3, r4, r_1.2, r6_27, r_15) 769 [(19, .int r_28), (0, .ref (ad 0)), (1, .int x1), (2, .ref b0), (6, .ref b4), (7, .int (r4 (0 : Int32).toNatClampNeg)), (9, .ref b6), (15, .int (0 : Int32))] [.int r_38.1, .int r_30.1]
                                  refine g_sub (lv' := []) [] rfl ?_
                                  exact hk769 _ _ E
                                · refine g_iconst (pc' := 760) O ⟨dL_same_759, rfl⟩ (v := (0 : Int32)) rfl ?_
                                  refine g_goto (pc' := 763) O ⟨dL_same_760, rfl⟩ (tgt := 769) (by decide) ?_
                                  refine g_sub (lv' := []) [] rfl ?_
                                  exact hk769 _ _ E
                        · refine g_aload_n (pc' := 714) O ⟨dL_same_713, rfl⟩ (q := 1) rfl rfl ?_
                          refine g_aload (pc' := 716) O ⟨dL_same_714, rfl⟩ (q := 6) rfl ?_
                          refine g_aload_n (pc' := 717) O ⟨dL_same_716, rfl⟩ (q := 3) rfl rfl ?_
                          refine g_aload (pc' := 719) O ⟨dL_same_717, rfl⟩ (q := 4) rfl ?_
                          obtain ⟨r_40, c_41, E⟩ := bd_of E
                          refine g_MSi (pc' := 722) O hN ⟨dL_same_719, rfl⟩ (y := yL_switches) (As := [.ref (ad 0), .ref b6, .ref b0, .ref b4]) (st := []) (put := (fun g => (g.1, g.2.2.1, r1, r2, r3, g.2.2.2, r_1.2, g.2.1, r_15))) sub_X8_X6_0_4 (t_L_switches l D ad cy hfl b6 b0 b4 c_41) kw_979 kw_24 kw_977 kw_978 hd_L_switches ⟨Nat.le_of_ble_eq_true rfl, Nat.le_of_ble_eq_true rfl⟩ ⟨Nat.le_of_ble_eq_true rfl, Nat.le_of_ble_eq_true rfl⟩ rfl (Nat.le_of_ble_eq_true rfl) ?_
                          show G l D X 20 (WX8 ad cy 24 40 6 36 4 24 6 6 b0 b1 b2 b3 b4 b5 b6 b7) 68 444 (r_40.2, r0, r1, r2, r3, r4, r_1.2, r6_27, r_15) 722 [(19, .int r_28), (0, .ref (ad 0)), (1, .int x1), (2, .ref b0), (6, .ref b4), (7, .int (r4 (0 : Int32).toNatClampNeg)), (9, .ref b6), (15, .int (0 : Int32))] [.int r_40.1]
                          refine g_if_eq (pc' := 725) O ⟨dL_same_722, rfl⟩ E (tgt := 776) (by decide) (fun E => ?_) (fun E => ?_)
                          · refine g_iconst (pc' := 777) O ⟨dL_same_776, rfl⟩ (v := (0 : Int32)) rfl ?_
                            obtain ⟨hn, E⟩ := ckz_of E
                            cases E
                            refine g_drop (wf := (WX5 ad cy 24 40 6 36 4 b0 b1 b2 b3 b4)) (h := (r_40.2, r0, r1, r2, r3, r4)) (List.range 40) rfl rfl (by decide) ?_
                            exact hret _ _ _ _ _ (Nat.le_of_ble_eq_true rfl) (Nat.le_of_ble_eq_true rfl) ⟨dL_same_777, rfl⟩ hn
                          · refine g_goto (pc' := 728) O ⟨dL_same_725, rfl⟩ (tgt := 772) (by decide) ?_
                            refine g_iconst (pc' := 773) O ⟨dL_same_772, rfl⟩ (v := (1 : Int32)) rfl ?_
                            refine g_goto (pc' := 776) O ⟨dL_same_773, rfl⟩ (tgt := 777) (by decide) ?_
                            obtain ⟨hn, E⟩ := ckz_of E
                            cases E
                            refine g_drop (wf := (WX5 ad cy 24 40 6 36 4 b0 b1 b2 b3 b4)) (h := (r_40.2, r0, r1, r2, r3, r4)) (List.range 40) rfl rfl (by decide) ?_
                            exact hret _ _ _ _ _ (Nat.le_of_ble_eq_true rfl) (Nat.le_of_ble_eq_true rfl) ⟨dL_same_777, rfl⟩ hn
                      · refine g_aload_n (pc' := 686) O ⟨dL_same_685, rfl⟩ (q := 1) rfl rfl ?_
                        refine g_iload_n (pc' := 687) O ⟨dL_same_686, rfl⟩ (q := 2) rfl rfl ?_
                        refine g_bipush (pc' := 689) O ⟨dL_same_687, rfl⟩ (v := (6 : Int32)) rfl ?_
                        refine g_ishr (pc' := 690) O ⟨dL_same_689, rfl⟩ ?_
                        refine g_iconst (pc' := 691) O ⟨dL_same_690, rfl⟩ (v := (4 : Int32)) rfl ?_
                        obtain ⟨r_42, c_43, E⟩ := bd_of E
                        refine g_MSi (pc' := 694) O hN ⟨dL_same_691, rfl⟩ (y := yL_low) (As := [.int (ishr x1 (6 : Int32)), .int (4 : Int32)]) (st := [.ref (ad 0)]) (put := (fun g => (r_22.2, r0, r1, r2, r3, r4, r_1.2, r6_27, r_15))) sub_X8_A (t_L_low l D cy hfl c_43) kw_408 kw_24 kw_406 kw_407 hd_L_low ⟨Nat.le_of_ble_eq_true rfl, Nat.le_of_ble_eq_true rfl⟩ ⟨Nat.le_of_ble_eq_true rfl, Nat.le_of_ble_eq_true rfl⟩ rfl (Nat.le_of_ble_eq_true rfl) ?_
                        show G l D X 20 (WX8 ad cy 24 40 6 36 4 24 6 6 b0 b1 b2 b3 b4 b5 b6 b7) 39 270 (r_22.2, r0, r1, r2, r3, r4, r_1.2, r6_27, r_15) 694 [(19, .int r_28), (0, .ref (ad 0)), (1, .int x1), (2, .ref b0), (6, .ref b4), (7, .int (r4 (0 : Int32).toNatClampNeg)), (9, .ref b6), (15, .int (0 : Int32))] [.int r_42, .ref (ad 0)]
                        refine g_aload (pc' := 696) O ⟨dL_same_694, rfl⟩ (q := 6) rfl ?_
                        refine g_aload (pc' := 698) O ⟨dL_same_696, rfl⟩ (q := 4) rfl ?_
                        obtain ⟨r_44, c_45, E⟩ := bd_of E
                        refine g_MSi (pc' := 701) O hN ⟨dL_same_698, rfl⟩ (y := yL_orders) (As := [.ref (ad 0), .int r_42, .ref b6, .ref b4]) (st := []) (put := (fun g => (g.1, r0, r1, r2, r3, g.2.2, r_1.2, g.2.1, r_15))) sub_X8_X6_4 (t_L_orders l D ad cy hfl b6 b4 c_45) kw_874 kw_24 kw_872 kw_873 hd_L_orders ⟨Nat.le_of_ble_eq_true rfl, Nat.le_of_ble_eq_true rfl⟩ ⟨Nat.le_of_ble_eq_true rfl, Nat.le_of_ble_eq_true rfl⟩ rfl (Nat.le_of_ble_eq_true rfl) ?_
                        show G l D X 20 (WX8 ad cy 24 40 6 36 4 24 6 6 b0 b1 b2 b3 b4 b5 b6 b7) 51 378 (r_44.2, r0, r1, r2, r3, r4, r_1.2, r6_27, r_15) 701 [(19, .int r_28), (0, .ref (ad 0)), (1, .int x1), (2, .ref b0), (6, .ref b4), (7, .int (r4 (0 : Int32).toNatClampNeg)), (9, .ref b6), (15, .int (0 : Int32))] [.int r_44.1]
                        refine g_if_eq (pc' := 704) O ⟨dL_same_701, rfl⟩ E (tgt := 776) (by decide) (fun E => ?_) (fun E => ?_)
                        · refine g_iconst (pc' := 777) O ⟨dL_same_776, rfl⟩ (v := (0 : Int32)) rfl ?_
                          obtain ⟨hn, E⟩ := ckz_of E
                          cases E
                          refine g_drop (wf := (WX5 ad cy 24 40 6 36 4 b0 b1 b2 b3 b4)) (h := (r_44.2, r0, r1, r2, r3, r4)) (List.range 40) rfl rfl (by decide) ?_
                          exact hret _ _ _ _ _ (Nat.le_of_ble_eq_true rfl) (Nat.le_of_ble_eq_true rfl) ⟨dL_same_777, rfl⟩ hn
                        · refine g_goto (pc' := 707) O ⟨dL_same_704, rfl⟩ (tgt := 772) (by decide) ?_
                          refine g_iconst (pc' := 773) O ⟨dL_same_772, rfl⟩ (v := (1 : Int32)) rfl ?_
                          refine g_goto (pc' := 776) O ⟨dL_same_773, rfl⟩ (tgt := 777) (by decide) ?_
                          obtain ⟨hn, E⟩ := ckz_of E
                          cases E
                          refine g_drop (wf := (WX5 ad cy 24 40 6 36 4 b0 b1 b2 b3 b4)) (h := (r_44.2, r0, r1, r2, r3, r4)) (List.range 40) rfl rfl (by decide) ?_
                          exact hret _ _ _ _ _ (Nat.le_of_ble_eq_true rfl) (Nat.le_of_ble_eq_true rfl) ⟨dL_same_777, rfl⟩ hn
                    · refine g_aload_n (pc' := 666) O ⟨dL_same_665, rfl⟩ (q := 1) rfl rfl ?_
                      refine g_iload_n (pc' := 667) O ⟨dL_same_666, rfl⟩ (q := 2) rfl rfl ?_
                      refine g_aload_n (pc' := 668) O ⟨dL_same_667, rfl⟩ (q := 3) rfl rfl ?_
                      refine g_aload (pc' := 670) O ⟨dL_same_668, rfl⟩ (q := 4) rfl ?_
                      obtain ⟨r_46, c_47, E⟩ := bd_of E
                      refine g_MSi (pc' := 673) O hN ⟨dL_same_670, rfl⟩ (y := yL_faults) (As := [.ref (ad 0), .int x1, .ref b0, .ref b4]) (st := []) (put := (fun g => (g.1, g.2.1, r1, r2, r3, g.2.2, r_1.2, r6_27, r_15))) sub_X8_X0_4 (t_L_faults l D ad cy hfl b0 b4 c_47) kw_805 kw_24 kw_803 kw_804 hd_L_faults ⟨Nat.le_of_ble_eq_true rfl, Nat.le_of_ble_eq_true rfl⟩ ⟨Nat.le_of_ble_eq_true rfl, Nat.le_of_ble_eq_true rfl⟩ rfl (Nat.le_of_ble_eq_true rfl) ?_
                      show G l D X 20 (WX8 ad cy 24 40 6 36 4 24 6 6 b0 b1 b2 b3 b4 b5 b6 b7) 43 294 (r_46.2, r0, r1, r2, r3, r4, r_1.2, r6_27, r_15) 673 [(19, .int r_28), (0, .ref (ad 0)), (1, .int x1), (2, .ref b0), (6, .ref b4), (7, .int (r4 (0 : Int32).toNatClampNeg)), (9, .ref b6), (15, .int (0 : Int32))] [.int r_46.1]
                      refine g_if_eq (pc' := 676) O ⟨dL_same_673, rfl⟩ E (tgt := 776) (by decide) (fun E => ?_) (fun E => ?_)
                      · refine g_iconst (pc' := 777) O ⟨dL_same_776, rfl⟩ (v := (0 : Int32)) rfl ?_
                        obtain ⟨hn, E⟩ := ckz_of E
                        cases E
                        refine g_drop (wf := (WX5 ad cy 24 40 6 36 4 b0 b1 b2 b3 b4)) (h := (r_46.2, r0, r1, r2, r3, r4)) (List.range 40) rfl rfl (by decide) ?_
                        exact hret _ _ _ _ _ (Nat.le_of_ble_eq_true rfl) (Nat.le_of_ble_eq_true rfl) ⟨dL_same_777, rfl⟩ hn
                      · refine g_goto (pc' := 679) O ⟨dL_same_676, rfl⟩ (tgt := 772) (by decide) ?_
                        refine g_iconst (pc' := 773) O ⟨dL_same_772, rfl⟩ (v := (1 : Int32)) rfl ?_
                        refine g_goto (pc' := 776) O ⟨dL_same_773, rfl⟩ (tgt := 777) (by decide) ?_
                        obtain ⟨hn, E⟩ := ckz_of E
                        cases E
                        refine g_drop (wf := (WX5 ad cy 24 40 6 36 4 b0 b1 b2 b3 b4)) (h := (r_46.2, r0, r1, r2, r3, r4)) (List.range 40) rfl rfl (by decide) ?_
                        exact hret _ _ _ _ _ (Nat.le_of_ble_eq_true rfl) (Nat.le_of_ble_eq_true rfl) ⟨dL_same_777, rfl⟩ hn
                  · refine g_aload_n (pc' := 644) O ⟨dL_same_643, rfl⟩ (q := 1) rfl rfl ?_
                    refine g_iload_n (pc' := 645) O ⟨dL_same_644, rfl⟩ (q := 2) rfl rfl ?_
                    refine g_aload (pc' := 647) O ⟨dL_same_645, rfl⟩ (q := 6) rfl ?_
                    refine g_aload_n (pc' := 648) O ⟨dL_same_647, rfl⟩ (q := 3) rfl rfl ?_
                    refine g_aload (pc' := 650) O ⟨dL_same_648, rfl⟩ (q := 4) rfl ?_
                    obtain ⟨r_48, c_49, E⟩ := bd_of E
                    refine g_MSi (pc' := 653) O hN ⟨dL_same_650, rfl⟩ (y := yL_rows) (As := [.ref (ad 0), .int x1, .ref b6, .ref b0, .ref b4]) (st := []) (put := (fun g => (g.1, g.2.2.1, r1, r2, r3, g.2.2.2, r_1.2, g.2.1, r_15))) sub_X8_X6_0_4 (t_L_rows l D ad cy hfl b6 b0 b4 c_49) kw_714 kw_24 kw_712 kw_713 hd_L_rows ⟨Nat.le_of_ble_eq_true rfl, Nat.le_of_ble_eq_true rfl⟩ ⟨Nat.le_of_ble_eq_true rfl, Nat.le_of_ble_eq_true rfl⟩ rfl (Nat.le_of_ble_eq_true rfl) ?_
                    show G l D X 20 (WX8 ad cy 24 40 6 36 4 24 6 6 b0 b1 b2 b3 b4 b5 b6 b7) 45 306 (r_48.2, r0, r1, r2, r3, r4, r_1.2, r6_27, r_15) 653 [(19, .int r_28), (0, .ref (ad 0)), (1, .int x1), (2, .ref b0), (6, .ref b4), (7, .int (r4 (0 : Int32).toNatClampNeg)), (9, .ref b6), (15, .int (0 : Int32))] [.int r_48.1]
                    refine g_if_eq (pc' := 656) O ⟨dL_same_653, rfl⟩ E (tgt := 776) (by decide) (fun E => ?_) (fun E => ?_)
                    · refine g_iconst (pc' := 777) O ⟨dL_same_776, rfl⟩ (v := (0 : Int32)) rfl ?_
                      obtain ⟨hn, E⟩ := ckz_of E
                      cases E
                      refine g_drop (wf := (WX5 ad cy 24 40 6 36 4 b0 b1 b2 b3 b4)) (h := (r_48.2, r0, r1, r2, r3, r4)) (List.range 40) rfl rfl (by decide) ?_
                      exact hret _ _ _ _ _ (Nat.le_of_ble_eq_true rfl) (Nat.le_of_ble_eq_true rfl) ⟨dL_same_777, rfl⟩ hn
                    · refine g_goto (pc' := 659) O ⟨dL_same_656, rfl⟩ (tgt := 772) (by decide) ?_
                      refine g_iconst (pc' := 773) O ⟨dL_same_772, rfl⟩ (v := (1 : Int32)) rfl ?_
                      refine g_goto (pc' := 776) O ⟨dL_same_773, rfl⟩ (tgt := 777) (by decide) ?_
                      obtain ⟨hn, E⟩ := ckz_of E
                      cases E
                      refine g_drop (wf := (WX5 ad cy 24 40 6 36 4 b0 b1 b2 b3 b4)) (h := (r_48.2, r0, r1, r2, r3, r4)) (List.range 40) rfl rfl (by decide) ?_
                      exact hret _ _ _ _ _ (Nat.le_of_ble_eq_true rfl) (Nat.le_of_ble_eq_true rfl) ⟨dL_same_777, rfl⟩ hn
              · intro k624 hk624 E
                refine g_sub (lv' := [(0, .ref (ad 0)), (1, .int x1), (2, .ref b0), (6, .ref b4), (7, .int (r4 (0 : Int32).toNatClampNeg)), (9, .ref b6), (15, .int (0 : Int32)), (19, .int r_25)]) [1, 2, 3, 4, 5, 6, 7, 0] rfl ?_
                refine fx2_of (P := fun (x19_50 : Int32) (r6_51 : Row) => G l D X 20 (WX8 ad cy 24 40 6 36 4 24 6 6 b0 b1 b2 b3 b4 b5 b6 b7) 39 270 (r_22.2, r0, r1, r2, r3, r4, r_1.2, r6_51, r_15) 605 [(0, .ref (ad 0)), (1, .int x1), (2, .ref b0), (6, .ref b4), (7, .int (r4 (0 : Int32).toNatClampNeg)), (9, .ref b6), (15, .int (0 : Int32)), (19, .int x19_50)] []) ?_ _ _ _ E
                intro self ih605 x19_50 r6_51 E
                show G l D X 20 (WX8 ad cy 24 40 6 36 4 24 6 6 b0 b1 b2 b3 b4 b5 b6 b7) 39 270 (r_22.2, r0, r1, r2, r3, r4, r_1.2, r6_51, r_15) 605 [(0, .ref (ad 0)), (1, .int x1), (2, .ref b0), (6, .ref b4), (7, .int (r4 (0 : Int32).toNatClampNeg)), (9, .ref b6), (15, .int (0 : Int32)), (19, .int x19_50)] []
                unfold L_L_same_605 at E
                refine g_iload (pc' := 607) O ⟨dL_same_605, rfl⟩ (q := 7) rfl ?_
                refine g_if_le (pc' := 610) O ⟨dL_same_607, rfl⟩ E (tgt := 624) (by decide) (fun E => ?_) (fun E => ?_)
                · refine g_sub (lv' := [(0, .ref (ad 0)), (1, .int x1), (2, .ref b0), (6, .ref b4), (7, .int (r4 (0 : Int32).toNatClampNeg)), (9, .ref b6), (15, .int (0 : Int32))]) [0, 1, 2, 3, 4, 5, 6] rfl ?_
                  exact hk624 _ E
                · refine g_aload (pc' := 612) O ⟨dL_same_610, rfl⟩ (q := 5) rfl ?_
                  refine g_iload (pc' := 614) O ⟨dL_same_612, rfl⟩ (q := 4) rfl ?_
                  obtain ⟨r_52, c_53, E⟩ := bd_of E
                  refine g_MSi (pc' := 617) O hN ⟨dL_same_614, rfl⟩ (y := yL_next) (As := [.ref b6, .int (r4 (0 : Int32).toNatClampNeg)]) (st := []) (put := (fun g => (r_22.2, r0, r1, r2, r3, r4, r_1.2, g, r_15))) sub_X8_A6 (t_L_next l D cy hfl b6 c_53) kw_553 kw_24 kw_551 kw_552 hd_L_next ⟨Nat.le_of_ble_eq_true rfl, Nat.le_of_ble_eq_true rfl⟩ ⟨Nat.le_of_ble_eq_true rfl, Nat.le_of_ble_eq_true rfl⟩ rfl (Nat.le_of_ble_eq_true rfl) ?_
                  show G l D X 20 (WX8 ad cy 24 40 6 36 4 24 6 6 b0 b1 b2 b3 b4 b5 b6 b7) 39 270 (r_22.2, r0, r1, r2, r3, r4, r_1.2, r_52.2, r_15) 617 [(0, .ref (ad 0)), (1, .int x1), (2, .ref b0), (6, .ref b4), (7, .int (r4 (0 : Int32).toNatClampNeg)), (9, .ref b6), (15, .int (0 : Int32)), (19, .int x19_50)] [.int r_52.1]
                  refine g_pop (pc' := 618) O ⟨dL_same_617, rfl⟩ rfl ?_
                  refine g_iinc (pc' := 621) O ⟨dL_same_618, rfl⟩ (q := 7) (v := x19_50 + (-1 : Int32)) (lv' := [(19, .int (x19_50 + (-1 : Int32))), (0, .ref (ad 0)), (1, .int x1), (2, .ref b0), (6, .ref b4), (7, .int (r4 (0 : Int32).toNatClampNeg)), (9, .ref b6), (15, .int (0 : Int32))]) rfl rfl (by decide) rfl ?_
                  refine g_goto (pc' := 624) O ⟨dL_same_621, rfl⟩ (tgt := 605) (by decide) ?_
                  refine g_sub (lv' := [(0, .ref (ad 0)), (1, .int x1), (2, .ref b0), (6, .ref b4), (7, .int (r4 (0 : Int32).toNatClampNeg)), (9, .ref b6), (15, .int (0 : Int32)), (19, .int (x19_50 + (-1 : Int32)))]) [1, 2, 3, 4, 5, 6, 7, 0] rfl ?_
                  exact ih605 _ _ E
            · intro k595 hk595 E
              refine g_sub (lv' := [(0, .ref (ad 0)), (1, .int x1), (2, .ref b0), (6, .ref b4), (7, .int (r4 (0 : Int32).toNatClampNeg)), (9, .ref b6), (15, .int (0 : Int32)), (19, .int (0 : Int32))]) [4, 5, 6, 8, 9, 10, 1, 0] rfl ?_
              refine fx2_of (P := fun (x19_54 : Int32) (r6_55 : Row) => G l D X 20 (WX8 ad cy 24 40 6 36 4 24 6 6 b0 b1 b2 b3 b4 b5 b6 b7) 39 270 (r_22.2, r0, r1, r2, r3, r4, r_1.2, r6_55, r_15) 575 [(0, .ref (ad 0)), (1, .int x1), (2, .ref b0), (6, .ref b4), (7, .int (r4 (0 : Int32).toNatClampNeg)), (9, .ref b6), (15, .int (0 : Int32)), (19, .int x19_54)] []) ?_ _ _ _ E
              intro self ih575 x19_54 r6_55 E
              show G l D X 20 (WX8 ad cy 24 40 6 36 4 24 6 6 b0 b1 b2 b3 b4 b5 b6 b7) 39 270 (r_22.2, r0, r1, r2, r3, r4, r_1.2, r6_55, r_15) 575 [(0, .ref (ad 0)), (1, .int x1), (2, .ref b0), (6, .ref b4), (7, .int (r4 (0 : Int32).toNatClampNeg)), (9, .ref b6), (15, .int (0 : Int32)), (19, .int x19_54)] []
              unfold L_L_same_575 at E
              refine g_iload (pc' := 577) O ⟨dL_same_575, rfl⟩ (q := 7) rfl ?_
              refine g_iload (pc' := 579) O ⟨dL_same_577, rfl⟩ (q := 4) rfl ?_
              refine g_icmp_ge (pc' := 582) O ⟨dL_same_579, rfl⟩ E (tgt := 595) (by decide) (fun E => ?_) (fun E => ?_)
              · refine g_sub (lv' := [(0, .ref (ad 0)), (1, .int x1), (2, .ref b0), (6, .ref b4), (7, .int (r4 (0 : Int32).toNatClampNeg)), (9, .ref b6), (15, .int (0 : Int32))]) [0, 1, 2, 3, 4, 5, 6] rfl ?_
                exact hk595 _ E
              · refine g_aload (pc' := 584) O ⟨dL_same_582, rfl⟩ (q := 5) rfl ?_
                refine g_iload (pc' := 586) O ⟨dL_same_584, rfl⟩ (q := 7) rfl ?_
                refine g_iload (pc' := 588) O ⟨dL_same_586, rfl⟩ (q := 7) rfl ?_
                refine g_iast (pc' := 589) O ⟨dL_same_588, rfl⟩ zX8_6 zsX8_6 E (fun E => ?_)
                refine g_nmr (Go := fun (r6_56 : Row) => G l D X 20 (WX8 ad cy 24 40 6 36 4 24 6 6 b0 b1 b2 b3 b4 b5 b6 b7) 39 270 (r_22.2, r0, r1, r2, r3, r4, r_1.2, r6_56, r_15) 589 [(0, .ref (ad 0)), (1, .int x1), (2, .ref b0), (6, .ref b4), (7, .int (r4 (0 : Int32).toNatClampNeg)), (9, .ref b6), (15, .int (0 : Int32)), (19, .int x19_54)] []) E (fun r6_56 E => ?_)
                show G l D X 20 (WX8 ad cy 24 40 6 36 4 24 6 6 b0 b1 b2 b3 b4 b5 b6 b7) 39 270 (r_22.2, r0, r1, r2, r3, r4, r_1.2, r6_56, r_15) 589 [(0, .ref (ad 0)), (1, .int x1), (2, .ref b0), (6, .ref b4), (7, .int (r4 (0 : Int32).toNatClampNeg)), (9, .ref b6), (15, .int (0 : Int32)), (19, .int x19_54)] []
                refine g_iinc (pc' := 592) O ⟨dL_same_589, rfl⟩ (q := 7) (v := x19_54 + (1 : Int32)) (lv' := [(19, .int (x19_54 + (1 : Int32))), (0, .ref (ad 0)), (1, .int x1), (2, .ref b0), (6, .ref b4), (7, .int (r4 (0 : Int32).toNatClampNeg)), (9, .ref b6), (15, .int (0 : Int32))]) rfl rfl (by decide) rfl ?_
                refine g_goto (pc' := 595) O ⟨dL_same_592, rfl⟩ (tgt := 575) (by decide) ?_
                refine g_sub (lv' := [(0, .ref (ad 0)), (1, .int x1), (2, .ref b0), (6, .ref b4), (7, .int (r4 (0 : Int32).toNatClampNeg)), (9, .ref b6), (15, .int (0 : Int32)), (19, .int (x19_54 + (1 : Int32)))]) [1, 2, 3, 4, 5, 6, 7, 0] rfl ?_
                exact ih575 _ _ E
          · refine g_aload_n (pc' := 472) O ⟨dL_same_471, rfl⟩ (q := 2) rfl rfl ?_
            obtain ⟨r_57, c_58, E⟩ := bd_of E
            refine g_Ui (pc' := 475) O ⟨dL_same_472, rfl⟩ (y := yX10_isStep) (As := []) (st := []) (put := (fun g => (g, r0, r1, r2, r3, r4, r_1.2, (fun _ => 0), r_15))) sub_X8_X (t_X10_isStep l D ad cy (h := r_22.2) c_58) kw_702 kw_25 kw_699 kw_700 kw_701 rfl zX8_x hd_X10_isStep ⟨Nat.le_of_ble_eq_true rfl, Nat.le_of_ble_eq_true rfl⟩ ⟨Nat.le_of_ble_eq_true rfl, Nat.le_of_ble_eq_true rfl⟩ rfl (Nat.le_of_ble_eq_true rfl) ?_
            show G l D X 20 (WX8 ad cy 24 40 6 36 4 24 6 6 b0 b1 b2 b3 b4 b5 b6 b7) 39 270 (r_22.2, r0, r1, r2, r3, r4, r_1.2, (fun _ => 0), r_15) 475 [(18, .int r_22.1), (17, .int r_20), (0, .ref (ad 0)), (1, .int x1), (2, .ref b0), (5, .ref b3), (6, .ref b4), (7, .int (r4 (0 : Int32).toNatClampNeg)), (9, .ref b6), (15, .int x15_17), (16, .int x16_18)] [.int r_57]
            refine g_iload (pc' := 477) O ⟨dL_same_475, rfl⟩ (q := 10) rfl ?_
            refine g_icmp_ne (pc' := 480) O ⟨dL_same_477, rfl⟩ E (tgt := 569) (by decide) (fun E => ?_) (fun E => ?_)
            · refine g_iconst (pc' := 570) O ⟨dL_same_569, rfl⟩ (v := (0 : Int32)) rfl ?_
              refine g_istore (pc' := 572) O ⟨dL_same_570, rfl⟩ (lv' := [(15, .int (0 : Int32)), (18, .int r_22.1), (17, .int r_20), (0, .ref (ad 0)), (1, .int x1), (2, .ref b0), (5, .ref b3), (6, .ref b4), (7, .int (r4 (0 : Int32).toNatClampNeg)), (9, .ref b6), (16, .int x16_18)]) (by decide) rfl ?_
              refine g_iconst (pc' := 573) O ⟨dL_same_572, rfl⟩ (v := (0 : Int32)) rfl ?_
              refine g_istore (pc' := 575) O ⟨dL_same_573, rfl⟩ (lv' := [(19, .int (0 : Int32)), (15, .int (0 : Int32)), (18, .int r_22.1), (17, .int r_20), (0, .ref (ad 0)), (1, .int x1), (2, .ref b0), (5, .ref b3), (6, .ref b4), (7, .int (r4 (0 : Int32).toNatClampNeg)), (9, .ref b6), (16, .int x16_18)]) (by decide) rfl ?_
              refine jn1_of (P := fun (r6_59 : Row) => G l D X 20 (WX8 ad cy 24 40 6 36 4 24 6 6 b0 b1 b2 b3 b4 b5 b6 b7) 39 270 (r_22.2, r0, r1, r2, r3, r4, r_1.2, r6_59, r_15) 595 [(0, .ref (ad 0)), (1, .int x1), (2, .ref b0), (6, .ref b4), (7, .int (r4 (0 : Int32).toNatClampNeg)), (9, .ref b6), (15, .int (0 : Int32))] []) E ?_ ?_
              · intro r6_59 E
                show G l D X 20 (WX8 ad cy 24 40 6 36 4 24 6 6 b0 b1 b2 b3 b4 b5 b6 b7) 39 270 (r_22.2, r0, r1, r2, r3, r4, r_1.2, r6_59, r_15) 595 [(0, .ref (ad 0)), (1, .int x1), (2, .ref b0), (6, .ref b4), (7, .int (r4 (0 : Int32).toNatClampNeg)), (9, .ref b6), (15, .int (0 : Int32))] []
                refine g_iload_n (pc' := 596) O ⟨dL_same_595, rfl⟩ (q := 1) rfl rfl ?_
                refine g_iconst (pc' := 597) O ⟨dL_same_596, rfl⟩ (v := (5 : Int32)) rfl ?_
                refine g_ishr (pc' := 598) O ⟨dL_same_597, rfl⟩ ?_
                refine g_bipush (pc' := 600) O ⟨dL_same_598, rfl⟩ (v := (120 : Int32)) rfl ?_
                obtain ⟨r_60, c_61, E⟩ := bd_of E
                refine g_MSi (pc' := 603) O hN ⟨dL_same_600, rfl⟩ (y := yL_low) (As := [.int (ishr x1 (5 : Int32)), .int (120 : Int32)]) (st := []) (put := (fun g => (r_22.2, r0, r1, r2, r3, r4, r_1.2, r6_59, r_15))) sub_X8_A (t_L_low l D cy hfl c_61) kw_408 kw_24 kw_406 kw_407 hd_L_low ⟨Nat.le_of_ble_eq_true rfl, Nat.le_of_ble_eq_true rfl⟩ ⟨Nat.le_of_ble_eq_true rfl, Nat.le_of_ble_eq_true rfl⟩ rfl (Nat.le_of_ble_eq_true rfl) ?_
                show G l D X 20 (WX8 ad cy 24 40 6 36 4 24 6 6 b0 b1 b2 b3 b4 b5 b6 b7) 39 270 (r_22.2, r0, r1, r2, r3, r4, r_1.2, r6_59, r_15) 603 [(0, .ref (ad 0)), (1, .int x1), (2, .ref b0), (6, .ref b4), (7, .int (r4 (0 : Int32).toNatClampNeg)), (9, .ref b6), (15, .int (0 : Int32))] [.int r_60]
                refine g_istore (pc' := 605) O ⟨dL_same_603, rfl⟩ (lv' := [(19, .int r_60), (0, .ref (ad 0)), (1, .int x1), (2, .ref b0), (6, .ref b4), (7, .int (r4 (0 : Int32).toNatClampNeg)), (9, .ref b6), (15, .int (0 : Int32))]) (by decide) rfl ?_
                refine jn1_of (P := fun (r6_62 : Row) => G l D X 20 (WX8 ad cy 24 40 6 36 4 24 6 6 b0 b1 b2 b3 b4 b5 b6 b7) 39 270 (r_22.2, r0, r1, r2, r3, r4, r_1.2, r6_62, r_15) 624 [(0, .ref (ad 0)), (1, .int x1), (2, .ref b0), (6, .ref b4), (7, .int (r4 (0 : Int32).toNatClampNeg)), (9, .ref b6), (15, .int (0 : Int32))] []) E ?_ ?_
                · intro r6_62 E
                  show G l D X 20 (WX8 ad cy 24 40 6 36 4 24 6 6 b0 b1 b2 b3 b4 b5 b6 b7) 39 270 (r_22.2, r0, r1, r2, r3, r4, r_1.2, r6_62, r_15) 624 [(0, .ref (ad 0)), (1, .int x1), (2, .ref b0), (6, .ref b4), (7, .int (r4 (0 : Int32).toNatClampNeg)), (9, .ref b6), (15, .int (0 : Int32))] []
                  refine g_iload_n (pc' := 625) O ⟨dL_same_624, rfl⟩ (q := 1) rfl rfl ?_
                  refine g_iconst (pc' := 626) O ⟨dL_same_625, rfl⟩ (v := (3 : Int32)) rfl ?_
                  refine g_ishr (pc' := 627) O ⟨dL_same_626, rfl⟩ ?_
                  refine g_iconst (pc' := 628) O ⟨dL_same_627, rfl⟩ (v := (5 : Int32)) rfl ?_
                  obtain ⟨r_63, c_64, E⟩ := bd_of E
                  refine g_MSi (pc' := 631) O hN ⟨dL_same_628, rfl⟩ (y := yL_low) (As := [.int (ishr x1 (3 : Int32)), .int (5 : Int32)]) (st := []) (put := (fun g => (r_22.2, r0, r1, r2, r3, r4, r_1.2, r6_62, r_15))) sub_X8_A (t_L_low l D cy hfl c_64) kw_408 kw_24 kw_406 kw_407 hd_L_low ⟨Nat.le_of_ble_eq_true rfl, Nat.le_of_ble_eq_true rfl⟩ ⟨Nat.le_of_ble_eq_true rfl, Nat.le_of_ble_eq_true rfl⟩ rfl (Nat.le_of_ble_eq_true rfl) ?_
                  show G l D X 20 (WX8 ad cy 24 40 6 36 4 24 6 6 b0 b1 b2 b3 b4 b5 b6 b7) 39 270 (r_22.2, r0, r1, r2, r3, r4, r_1.2, r6_62, r_15) 631 [(0, .ref (ad 0)), (1, .int x1), (2, .ref b0), (6, .ref b4), (7, .int (r4 (0 : Int32).toNatClampNeg)), (9, .ref b6), (15, .int (0 : Int32))] [.int r_63]
                  refine g_istore (pc' := 633) O ⟨dL_same_631, rfl⟩ (lv' := [(19, .int r_63), (0, .ref (ad 0)), (1, .int x1), (2, .ref b0), (6, .ref b4), (7, .int (r4 (0 : Int32).toNatClampNeg)), (9, .ref b6), (15, .int (0 : Int32))]) (by decide) rfl ?_
                  refine g_iload (pc' := 635) O ⟨dL_same_633, rfl⟩ (q := 7) rfl ?_
                  refine g_if_eq (pc' := 638) O ⟨dL_same_635, rfl⟩ E (tgt := 776) (by decide) (fun E => ?_) (fun E => ?_)
                  · refine g_iconst (pc' := 777) O ⟨dL_same_776, rfl⟩ (v := (0 : Int32)) rfl ?_
                    obtain ⟨hn, E⟩ := ckz_of E
                    cases E
                    refine g_drop (wf := (WX5 ad cy 24 40 6 36 4 b0 b1 b2 b3 b4)) (h := (r_22.2, r0, r1, r2, r3, r4)) (List.range 40) rfl rfl (by decide) ?_
                    exact hret _ _ _ _ _ (Nat.le_of_ble_eq_true rfl) (Nat.le_of_ble_eq_true rfl) ⟨dL_same_777, rfl⟩ hn
                  · refine g_iload (pc' := 640) O ⟨dL_same_638, rfl⟩ (q := 0) rfl ?_
                    refine g_if_ne (pc' := 643) O ⟨dL_same_640, rfl⟩ E (tgt := 659) (by decide) (fun E => ?_) (fun E => ?_)
                    · refine g_iload (pc' := 661) O ⟨dL_same_659, rfl⟩ (q := 0) rfl ?_
                      refine g_iconst (pc' := 662) O ⟨dL_same_661, rfl⟩ (v := (1 : Int32)) rfl ?_
                      refine g_icmp_ne (pc' := 665) O ⟨dL_same_662, rfl⟩ E (tgt := 679) (by decide) (fun E => ?_) (fun E => ?_)
                      · refine g_iload (pc' := 681) O ⟨dL_same_679, rfl⟩ (q := 0) rfl ?_
                        refine g_iconst (pc' := 682) O ⟨dL_same_681, rfl⟩ (v := (2 : Int32)) rfl ?_
                        refine g_icmp_ne (pc' := 685) O ⟨dL_same_682, rfl⟩ E (tgt := 707) (by decide) (fun E => ?_) (fun E => ?_)
                        · refine g_iload (pc' := 709) O ⟨dL_same_707, rfl⟩ (q := 0) rfl ?_
                          refine g_iconst (pc' := 710) O ⟨dL_same_709, rfl⟩ (v := (3 : Int32)) rfl ?_
                          refine g_icmp_ne (pc' := 713) O ⟨dL_same_710, rfl⟩ E (tgt := 728) (by decide) (fun E => ?_) (fun E => ?_)
                          · refine g_iload (pc' := 730) O ⟨dL_same_728, rfl⟩ (q := 5) rfl ?_
                            refine g_iconst (pc' := 731) O ⟨dL_same_730, rfl⟩ (v := (4 : Int32)) rfl ?_
                            refine g_icmp_gt (pc' := 734) O ⟨dL_same_731, rfl⟩ E (tgt := 772) (by decide) (fun E => ?_) (fun E => ?_)
                            · refine g_iconst (pc' := 773) O ⟨dL_same_772, rfl⟩ (v := (1 : Int32)) rfl ?_
                              refine g_goto (pc' := 776) O ⟨dL_same_773, rfl⟩ (tgt := 777) (by decide) ?_
                              obtain ⟨hn, E⟩ := ckz_of E
                              cases E
                              refine g_drop (wf := (WX5 ad cy 24 40 6 36 4 b0 b1 b2 b3 b4)) (h := (r_22.2, r0, r1, r2, r3, r4)) (List.range 40) rfl rfl (by decide) ?_
                              exact hret _ _ _ _ _ (Nat.le_of_ble_eq_true rfl) (Nat.le_of_ble_eq_true rfl) ⟨dL_same_777, rfl⟩ hn
                            · refine g_aload (pc' := 736) O ⟨dL_same_734, rfl⟩ (q := 4) rfl ?_
                              refine g_iconst (pc' := 737) O ⟨dL_same_736, rfl⟩ (v := (1 : Int32)) rfl ?_
                              refine g_iald (pc' := 738) O ⟨dL_same_737, rfl⟩ zX8_4 E (fun E => ?_)
                              refine g_bipush (pc' := 740) O ⟨dL_same_738, rfl⟩ (v := (22 : Int32)) rfl ?_
                              refine g_icmp_gt (pc' := 743) O ⟨dL_same_740, rfl⟩ E (tgt := 772) (by decide) (fun E => ?_) (fun E => ?_)
                              · refine g_iconst (pc' := 773) O ⟨dL_same_772, rfl⟩ (v := (1 : Int32)) rfl ?_
                                refine g_goto (pc' := 776) O ⟨dL_same_773, rfl⟩ (tgt := 777) (by decide) ?_
                                obtain ⟨hn, E⟩ := ckz_of E
                                cases E
                                refine g_drop (wf := (WX5 ad cy 24 40 6 36 4 b0 b1 b2 b3 b4)) (h := (r_22.2, r0, r1, r2, r3, r4)) (List.range 40) rfl rfl (by decide) ?_
                                exact hret _ _ _ _ _ (Nat.le_of_ble_eq_true rfl) (Nat.le_of_ble_eq_true rfl) ⟨dL_same_777, rfl⟩ hn
                              · refine g_aload_n (pc' := 744) O ⟨dL_same_743, rfl⟩ (q := 1) rfl rfl ?_
                                refine g_iconst (pc' := 745) O ⟨dL_same_744, rfl⟩ (v := (2 : Int32)) rfl ?_
                                obtain ⟨z_68, c_66, e_67, E⟩ := hcatch_of E
                                refine g_UXi (pc' := 748) O ⟨dL_same_745, rfl⟩ (y := yX10_finishes) (As := [.int (2 : Int32)]) (st := []) (put := (fun g => (g, r0, r1, r2, r3, r4, r_1.2, r6_62, r_15))) sub_X8_X (t_X10_finishes l D ad cy hfl (h := r_22.2) c_66) kw_1014 kw_25 kw_1011 kw_1012 kw_1013 rfl zX8_x hd_X10_finishes ⟨Nat.le_of_ble_eq_true rfl, Nat.le_of_ble_eq_true rfl⟩ ⟨Nat.le_of_ble_eq_true rfl, Nat.le_of_ble_eq_true rfl⟩ rfl (Nat.le_of_ble_eq_true rfl) (fun E1 c q => (by cases e_67 E1 c q)) (fun r_65 q => ?_)
                                replace E := E r_65 q
                                show G l D X 20 (WX8 ad cy 24 40 6 36 4 24 6 6 b0 b1 b2 b3 b4 b5 b6 b7) 40 276 (r_65.2, r0, r1, r2, r3, r4, r_1.2, r6_62, r_15) 748 [(19, .int r_63), (0, .ref (ad 0)), (1, .int x1), (2, .ref b0), (6, .ref b4), (7, .int (r4 (0 : Int32).toNatClampNeg)), (9, .ref b6), (15, .int (0 : Int32))] [.int r_65.1]
                                refine g_iconst (pc' := 749) O ⟨dL_same_748, rfl⟩ (v := (-1 : Int32)) rfl ?_
                                refine g_iconst (pc' := 750) O ⟨dL_same_749, rfl⟩ (v := (-1 : Int32)) rfl ?_
                                refine g_aload_n (pc' := 751) O ⟨dL_same_750, rfl⟩ (q := 3) rfl rfl ?_
                                refine g_aload (pc' := 753) O ⟨dL_same_751, rfl⟩ (q := 4) rfl ?_
                                obtain ⟨r_69, c_70, E⟩ := bd_of E
                                refine g_MSi (pc' := 756) O hN ⟨dL_same_753, rfl⟩ (y := yL_done) (As := [.int (-1 : Int32), .int (-1 : Int32), .ref b0, .ref b4]) (st := [.int r_65.1]) (put := (fun g => (r_65.2, g.1, r1, r2, r3, g.2, r_1.2, r6_62, r_15))) sub_X8_A0_4 (t_L_done l D cy hfl b0 b4 c_70) kw_1025 kw_24 kw_1023 kw_1024 hd_L_done ⟨Nat.le_of_ble_eq_true rfl, Nat.le_of_ble_eq_true rfl⟩ ⟨Nat.le_of_ble_eq_true rfl, Nat.le_of_ble_eq_true rfl⟩ rfl (Nat.le_of_ble_eq_true rfl) ?_
                                show G l D X 20 (WX8 ad cy 24 40 6 36 4 24 6 6 b0 b1 b2 b3 b4 b5 b6 b7) 40 276 (r_65.2, r_69.2, r1, r2, r3, r4, r_1.2, r6_62, r_15) 756 [(19, .int r_63), (0, .ref (ad 0)), (1, .int x1), (2, .ref b0), (6, .ref b4), (7, .int (r4 (0 : Int32).toNatClampNeg)), (9, .ref b6), (15, .int (0 : Int32))] [.int r_69.1, .int r_65.1]
                                refine jn2_of (P := fun (z_71 : Int32) (r0_72 : Row) => G l D X 20 (WX8 ad cy 24 40 6 36 4 24 6 6 b0 b1 b2 b3 b4 b5 b6 b7) 40 276 (r_65.2, r0_72, r1, r2, r3, r4, r_1.2, r6_62, r_15) 769 [] [.int z_71, .int r_65.1]) E ?_ ?_
                                · intro z_71 r0_72 E
                                  show G l D X 20 (WX8 ad cy 24 40 6 36 4 24 6 6 b0 b1 b2 b3 b4 b5 b6 b7) 40 276 (r_65.2, r0_72, r1, r2, r3, r4, r_1.2, r6_62, r_15) 769 [] [.int z_71, .int r_65.1]
                                  refine g_icmp_ne (pc' := 772) O ⟨dL_same_769, rfl⟩ E (tgt := 776) (by decide) (fun E => ?_) (fun E => ?_)
                                  · refine g_iconst (pc' := 777) O ⟨dL_same_776, rfl⟩ (v := (0 : Int32)) rfl ?_
                                    obtain ⟨hn, E⟩ := ckz_of E
                                    cases E
                                    refine g_drop (wf := (WX5 ad cy 24 40 6 36 4 b0 b1 b2 b3 b4)) (h := (r_65.2, r0_72, r1, r2, r3, r4)) (List.range 40) rfl rfl (by decide) ?_
                                    exact hret _ _ _ _ _ (Nat.le_of_ble_eq_true rfl) (Nat.le_of_ble_eq_true rfl) ⟨dL_same_777, rfl⟩ hn
                                  · refine g_iconst (pc' := 773) O ⟨dL_same_772, rfl⟩ (v := (1 : Int32)) rfl ?_
                                    refine g_goto (pc' := 776) O ⟨dL_same_773, rfl⟩ (tgt := 777) (by decide) ?_
                                    obtain ⟨hn, E⟩ := ckz_of E
                                    cases E
                                    refine g_drop (wf := (WX5 ad cy 24 40 6 36 4 b0 b1 b2 b3 b4)) (h := (r_65.2, r0_72, r1, r2, r3, r4)) (List.range 40) rfl rfl (by decide) ?_
                                    exact hret _ _ _ _ _ (Nat.le_of_ble_eq_true rfl) (Nat.le_of_ble_eq_true rfl) ⟨dL_same_777, rfl⟩ hn
                                · intro k769 hk769 E
                                  refine g_if_eq (pc' := 759) O ⟨dL_same_756, rfl⟩ E (tgt := 763) (by decide) (fun E => ?_) (fun E => ?_)
                                  · refine g_aload_n (pc' := 764) O ⟨dL_same_763, rfl⟩ (q := 3) rfl rfl ?_
                                    refine g_aload (pc' := 766) O ⟨dL_same_764, rfl⟩ (q := 4) rfl ?_
                                    obtain ⟨r_73, c_74, E⟩ := bd_of E
                                    refine g_MSi (pc' := 769) O hN ⟨dL_same_766, rfl⟩ (y := yL_finishes) (As := [.ref b0, .ref b4]) (st := [.int r_65.1]) (put := (fun g => (r_65.2, g.1, r1, r2, r3, g.2, r_1.2, r6_62, r_15))) sub_X8_A0_4 (t_L_finishes l D cy hfl b0 b4 c_74) kw_1028 kw_24 kw_1026 kw_1027 hd_L_finishes ⟨Nat.le_of_ble_eq_true rfl, Nat.le_of_ble_eq_true rfl⟩ ⟨Nat.le_of_ble_eq_true rfl, Nat.le_of_ble_eq_true rfl⟩ rfl (Nat.le_of_ble_eq_true rfl) ?_
                                    show G l D X 20 (WX8 ad cy 24 40 6 36 4 24 6 6 b0 b1 b2 b3 b4 b5 b6 b7) 40 276 (r_65.2, r_73.2, r1, r2, r3, r4, r_1.2, r6_62, r_15) 769 [(19, .int r_63), (0, .ref (ad 0)), (1, .int x1), (2, .ref b0), (6, .ref b4), (7, .int (r4 (0 : Int32).toNatClampNeg)), (9, .ref b6), (15, .int (0 : Int32))] [.int r_73.1, .int r_65.1]
                                    refine g_sub (lv' := []) [] rfl ?_
                                    exact hk769 _ _ E
                                  · refine g_iconst (pc' := 760) O ⟨dL_same_759, rfl⟩ (v := (0 : Int32)) rfl ?_
                                    refine g_goto (pc' := 763) O ⟨dL_same_760, rfl⟩ (tgt := 769) (by decide) ?_
                                    refine g_sub (lv' := []) [] rfl ?_
                                    exact hk769 _ _ E
                          · refine g_aload_n (pc' := 714) O ⟨dL_same_713, rfl⟩ (q := 1) rfl rfl ?_
                            refine g_aload (pc' := 716) O ⟨dL_same_714, rfl⟩ (q := 6) rfl ?_
                            refine g_aload_n (pc' := 717) O ⟨dL_same_716, rfl⟩ (q := 3) rfl rfl ?_
                            refine g_aload (pc' := 719) O ⟨dL_same_717, rfl⟩ (q := 4) rfl ?_
                            obtain ⟨r_75, c_76, E⟩ := bd_of E
                            refine g_MSi (pc' := 722) O hN ⟨dL_same_719, rfl⟩ (y := yL_switches) (As := [.ref (ad 0), .ref b6, .ref b0, .ref b4]) (st := []) (put := (fun g => (g.1, g.2.2.1, r1, r2, r3, g.2.2.2, r_1.2, g.2.1, r_15))) sub_X8_X6_0_4 (t_L_switches l D ad cy hfl b6 b0 b4 c_76) kw_979 kw_24 kw_977 kw_978 hd_L_switches ⟨Nat.le_of_ble_eq_true rfl, Nat.le_of_ble_eq_true rfl⟩ ⟨Nat.le_of_ble_eq_true rfl, Nat.le_of_ble_eq_true rfl⟩ rfl (Nat.le_of_ble_eq_true rfl) ?_
                            show G l D X 20 (WX8 ad cy 24 40 6 36 4 24 6 6 b0 b1 b2 b3 b4 b5 b6 b7) 68 444 (r_75.2, r0, r1, r2, r3, r4, r_1.2, r6_62, r_15) 722 [(19, .int r_63), (0, .ref (ad 0)), (1, .int x1), (2, .ref b0), (6, .ref b4), (7, .int (r4 (0 : Int32).toNatClampNeg)), (9, .ref b6), (15, .int (0 : Int32))] [.int r_75.1]
                            refine g_if_eq (pc' := 725) O ⟨dL_same_722, rfl⟩ E (tgt := 776) (by decide) (fun E => ?_) (fun E => ?_)
                            · refine g_iconst (pc' := 777) O ⟨dL_same_776, rfl⟩ (v := (0 : Int32)) rfl ?_
                              obtain ⟨hn, E⟩ := ckz_of E
                              cases E
                              refine g_drop (wf := (WX5 ad cy 24 40 6 36 4 b0 b1 b2 b3 b4)) (h := (r_75.2, r0, r1, r2, r3, r4)) (List.range 40) rfl rfl (by decide) ?_
                              exact hret _ _ _ _ _ (Nat.le_of_ble_eq_true rfl) (Nat.le_of_ble_eq_true rfl) ⟨dL_same_777, rfl⟩ hn
                            · refine g_goto (pc' := 728) O ⟨dL_same_725, rfl⟩ (tgt := 772) (by decide) ?_
                              refine g_iconst (pc' := 773) O ⟨dL_same_772, rfl⟩ (v := (1 : Int32)) rfl ?_
                              refine g_goto (pc' := 776) O ⟨dL_same_773, rfl⟩ (tgt := 777) (by decide) ?_
                              obtain ⟨hn, E⟩ := ckz_of E
                              cases E
                              refine g_drop (wf := (WX5 ad cy 24 40 6 36 4 b0 b1 b2 b3 b4)) (h := (r_75.2, r0, r1, r2, r3, r4)) (List.range 40) rfl rfl (by decide) ?_
                              exact hret _ _ _ _ _ (Nat.le_of_ble_eq_true rfl) (Nat.le_of_ble_eq_true rfl) ⟨dL_same_777, rfl⟩ hn
                        · refine g_aload_n (pc' := 686) O ⟨dL_same_685, rfl⟩ (q := 1) rfl rfl ?_
                          refine g_iload_n (pc' := 687) O ⟨dL_same_686, rfl⟩ (q := 2) rfl rfl ?_
                          refine g_bipush (pc' := 689) O ⟨dL_same_687, rfl⟩ (v := (6 : Int32)) rfl ?_
                          refine g_ishr (pc' := 690) O ⟨dL_same_689, rfl⟩ ?_
                          refine g_iconst (pc' := 691) O ⟨dL_same_690, rfl⟩ (v := (4 : Int32)) rfl ?_
                          obtain ⟨r_77, c_78, E⟩ := bd_of E
                          refine g_MSi (pc' := 694) O hN ⟨dL_same_691, rfl⟩ (y := yL_low) (As := [.int (ishr x1 (6 : Int32)), .int (4 : Int32)]) (st := [.ref (ad 0)]) (put := (fun g => (r_22.2, r0, r1, r2, r3, r4, r_1.2, r6_62, r_15))) sub_X8_A (t_L_low l D cy hfl c_78) kw_408 kw_24 kw_406 kw_407 hd_L_low ⟨Nat.le_of_ble_eq_true rfl, Nat.le_of_ble_eq_true rfl⟩ ⟨Nat.le_of_ble_eq_true rfl, Nat.le_of_ble_eq_true rfl⟩ rfl (Nat.le_of_ble_eq_true rfl) ?_
                          show G l D X 20 (WX8 ad cy 24 40 6 36 4 24 6 6 b0 b1 b2 b3 b4 b5 b6 b7) 39 270 (r_22.2, r0, r1, r2, r3, r4, r_1.2, r6_62, r_15) 694 [(19, .int r_63), (0, .ref (ad 0)), (1, .int x1), (2, .ref b0), (6, .ref b4), (7, .int (r4 (0 : Int32).toNatClampNeg)), (9, .ref b6), (15, .int (0 : Int32))] [.int r_77, .ref (ad 0)]
                          refine g_aload (pc' := 696) O ⟨dL_same_694, rfl⟩ (q := 6) rfl ?_
                          refine g_aload (pc' := 698) O ⟨dL_same_696, rfl⟩ (q := 4) rfl ?_
                          obtain ⟨r_79, c_80, E⟩ := bd_of E
                          refine g_MSi (pc' := 701) O hN ⟨dL_same_698, rfl⟩ (y := yL_orders) (As := [.ref (ad 0), .int r_77, .ref b6, .ref b4]) (st := []) (put := (fun g => (g.1, r0, r1, r2, r3, g.2.2, r_1.2, g.2.1, r_15))) sub_X8_X6_4 (t_L_orders l D ad cy hfl b6 b4 c_80) kw_874 kw_24 kw_872 kw_873 hd_L_orders ⟨Nat.le_of_ble_eq_true rfl, Nat.le_of_ble_eq_true rfl⟩ ⟨Nat.le_of_ble_eq_true rfl, Nat.le_of_ble_eq_true rfl⟩ rfl (Nat.le_of_ble_eq_true rfl) ?_
                          show G l D X 20 (WX8 ad cy 24 40 6 36 4 24 6 6 b0 b1 b2 b3 b4 b5 b6 b7) 51 378 (r_79.2, r0, r1, r2, r3, r4, r_1.2, r6_62, r_15) 701 [(19, .int r_63), (0, .ref (ad 0)), (1, .int x1), (2, .ref b0), (6, .ref b4), (7, .int (r4 (0 : Int32).toNatClampNeg)), (9, .ref b6), (15, .int (0 : Int32))] [.int r_79.1]
                          refine g_if_eq (pc' := 704) O ⟨dL_same_701, rfl⟩ E (tgt := 776) (by decide) (fun E => ?_) (fun E => ?_)
                          · refine g_iconst (pc' := 777) O ⟨dL_same_776, rfl⟩ (v := (0 : Int32)) rfl ?_
                            obtain ⟨hn, E⟩ := ckz_of E
                            cases E
                            refine g_drop (wf := (WX5 ad cy 24 40 6 36 4 b0 b1 b2 b3 b4)) (h := (r_79.2, r0, r1, r2, r3, r4)) (List.range 40) rfl rfl (by decide) ?_
                            exact hret _ _ _ _ _ (Nat.le_of_ble_eq_true rfl) (Nat.le_of_ble_eq_true rfl) ⟨dL_same_777, rfl⟩ hn
                          · refine g_goto (pc' := 707) O ⟨dL_same_704, rfl⟩ (tgt := 772) (by decide) ?_
                            refine g_iconst (pc' := 773) O ⟨dL_same_772, rfl⟩ (v := (1 : Int32)) rfl ?_
                            refine g_goto (pc' := 776) O ⟨dL_same_773, rfl⟩ (tgt := 777) (by decide) ?_
                            obtain ⟨hn, E⟩ := ckz_of E
                            cases E
                            refine g_drop (wf := (WX5 ad cy 24 40 6 36 4 b0 b1 b2 b3 b4)) (h := (r_79.2, r0, r1, r2, r3, r4)) (List.range 40) rfl rfl (by decide) ?_
                            exact hret _ _ _ _ _ (Nat.le_of_ble_eq_true rfl) (Nat.le_of_ble_eq_true rfl) ⟨dL_same_777, rfl⟩ hn
                      · refine g_aload_n (pc' := 666) O ⟨dL_same_665, rfl⟩ (q := 1) rfl rfl ?_
                        refine g_iload_n (pc' := 667) O ⟨dL_same_666, rfl⟩ (q := 2) rfl rfl ?_
                        refine g_aload_n (pc' := 668) O ⟨dL_same_667, rfl⟩ (q := 3) rfl rfl ?_
                        refine g_aload (pc' := 670) O ⟨dL_same_668, rfl⟩ (q := 4) rfl ?_
                        obtain ⟨r_81, c_82, E⟩ := bd_of E
                        refine g_MSi (pc' := 673) O hN ⟨dL_same_670, rfl⟩ (y := yL_faults) (As := [.ref (ad 0), .int x1, .ref b0, .ref b4]) (st := []) (put := (fun g => (g.1, g.2.1, r1, r2, r3, g.2.2, r_1.2, r6_62, r_15))) sub_X8_X0_4 (t_L_faults l D ad cy hfl b0 b4 c_82) kw_805 kw_24 kw_803 kw_804 hd_L_faults ⟨Nat.le_of_ble_eq_true rfl, Nat.le_of_ble_eq_true rfl⟩ ⟨Nat.le_of_ble_eq_true rfl, Nat.le_of_ble_eq_true rfl⟩ rfl (Nat.le_of_ble_eq_true rfl) ?_
                        show G l D X 20 (WX8 ad cy 24 40 6 36 4 24 6 6 b0 b1 b2 b3 b4 b5 b6 b7) 43 294 (r_81.2, r0, r1, r2, r3, r4, r_1.2, r6_62, r_15) 673 [(19, .int r_63), (0, .ref (ad 0)), (1, .int x1), (2, .ref b0), (6, .ref b4), (7, .int (r4 (0 : Int32).toNatClampNeg)), (9, .ref b6), (15, .int (0 : Int32))] [.int r_81.1]
                        refine g_if_eq (pc' := 676) O ⟨dL_same_673, rfl⟩ E (tgt := 776) (by decide) (fun E => ?_) (fun E => ?_)
                        · refine g_iconst (pc' := 777) O ⟨dL_same_776, rfl⟩ (v := (0 : Int32)) rfl ?_
                          obtain ⟨hn, E⟩ := ckz_of E
                          cases E
                          refine g_drop (wf := (WX5 ad cy 24 40 6 36 4 b0 b1 b2 b3 b4)) (h := (r_81.2, r0, r1, r2, r3, r4)) (List.range 40) rfl rfl (by decide) ?_
                          exact hret _ _ _ _ _ (Nat.le_of_ble_eq_true rfl) (Nat.le_of_ble_eq_true rfl) ⟨dL_same_777, rfl⟩ hn
                        · refine g_goto (pc' := 679) O ⟨dL_same_676, rfl⟩ (tgt := 772) (by decide) ?_
                          refine g_iconst (pc' := 773) O ⟨dL_same_772, rfl⟩ (v := (1 : Int32)) rfl ?_
                          refine g_goto (pc' := 776) O ⟨dL_same_773, rfl⟩ (tgt := 777) (by decide) ?_
                          obtain ⟨hn, E⟩ := ckz_of E
                          cases E
                          refine g_drop (wf := (WX5 ad cy 24 40 6 36 4 b0 b1 b2 b3 b4)) (h := (r_81.2, r0, r1, r2, r3, r4)) (List.range 40) rfl rfl (by decide) ?_
                          exact hret _ _ _ _ _ (Nat.le_of_ble_eq_true rfl) (Nat.le_of_ble_eq_true rfl) ⟨dL_same_777, rfl⟩ hn
                    · refine g_aload_n (pc' := 644) O ⟨dL_same_643, rfl⟩ (q := 1) rfl rfl ?_
                      refine g_iload_n (pc' := 645) O ⟨dL_same_644, rfl⟩ (q := 2) rfl rfl ?_
                      refine g_aload (pc' := 647) O ⟨dL_same_645, rfl⟩ (q := 6) rfl ?_
                      refine g_aload_n (pc' := 648) O ⟨dL_same_647, rfl⟩ (q := 3) rfl rfl ?_
                      refine g_aload (pc' := 650) O ⟨dL_same_648, rfl⟩ (q := 4) rfl ?_
                      obtain ⟨r_83, c_84, E⟩ := bd_of E
                      refine g_MSi (pc' := 653) O hN ⟨dL_same_650, rfl⟩ (y := yL_rows) (As := [.ref (ad 0), .int x1, .ref b6, .ref b0, .ref b4]) (st := []) (put := (fun g => (g.1, g.2.2.1, r1, r2, r3, g.2.2.2, r_1.2, g.2.1, r_15))) sub_X8_X6_0_4 (t_L_rows l D ad cy hfl b6 b0 b4 c_84) kw_714 kw_24 kw_712 kw_713 hd_L_rows ⟨Nat.le_of_ble_eq_true rfl, Nat.le_of_ble_eq_true rfl⟩ ⟨Nat.le_of_ble_eq_true rfl, Nat.le_of_ble_eq_true rfl⟩ rfl (Nat.le_of_ble_eq_true rfl) ?_
                      show G l D X 20 (WX8 ad cy 24 40 6 36 4 24 6 6 b0 b1 b2 b3 b4 b5 b6 b7) 45 306 (r_83.2, r0, r1, r2, r3, r4, r_1.2, r6_62, r_15) 653 [(19, .int r_63), (0, .ref (ad 0)), (1, .int x1), (2, .ref b0), (6, .ref b4), (7, .int (r4 (0 : Int32).toNatClampNeg)), (9, .ref b6), (15, .int (0 : Int32))] [.int r_83.1]
                      refine g_if_eq (pc' := 656) O ⟨dL_same_653, rfl⟩ E (tgt := 776) (by decide) (fun E => ?_) (fun E => ?_)
                      · refine g_iconst (pc' := 777) O ⟨dL_same_776, rfl⟩ (v := (0 : Int32)) rfl ?_
                        obtain ⟨hn, E⟩ := ckz_of E
                        cases E
                        refine g_drop (wf := (WX5 ad cy 24 40 6 36 4 b0 b1 b2 b3 b4)) (h := (r_83.2, r0, r1, r2, r3, r4)) (List.range 40) rfl rfl (by decide) ?_
                        exact hret _ _ _ _ _ (Nat.le_of_ble_eq_true rfl) (Nat.le_of_ble_eq_true rfl) ⟨dL_same_777, rfl⟩ hn
                      · refine g_goto (pc' := 659) O ⟨dL_same_656, rfl⟩ (tgt := 772) (by decide) ?_
                        refine g_iconst (pc' := 773) O ⟨dL_same_772, rfl⟩ (v := (1 : Int32)) rfl ?_
                        refine g_goto (pc' := 776) O ⟨dL_same_773, rfl⟩ (tgt := 777) (by decide) ?_
                        obtain ⟨hn, E⟩ := ckz_of E
                        cases E
                        refine g_drop (wf := (WX5 ad cy 24 40 6 36 4 b0 b1 b2 b3 b4)) (h := (r_83.2, r0, r1, r2, r3, r4)) (List.range 40) rfl rfl (by decide) ?_
                        exact hret _ _ _ _ _ (Nat.le_of_ble_eq_true rfl) (Nat.le_of_ble_eq_true rfl) ⟨dL_same_777, rfl⟩ hn
                · intro k624 hk624 E
                  refine g_sub (lv' := [(0, .ref (ad 0)), (1, .int x1), (2, .ref b0), (6, .ref b4), (7, .int (r4 (0 : Int32).toNatClampNeg)), (9, .ref b6), (15, .int (0 : Int32)), (19, .int r_60)]) [1, 2, 3, 4, 5, 6, 7, 0] rfl ?_
                  refine fx2_of (P := fun (x19_85 : Int32) (r6_86 : Row) => G l D X 20 (WX8 ad cy 24 40 6 36 4 24 6 6 b0 b1 b2 b3 b4 b5 b6 b7) 39 270 (r_22.2, r0, r1, r2, r3, r4, r_1.2, r6_86, r_15) 605 [(0, .ref (ad 0)), (1, .int x1), (2, .ref b0), (6, .ref b4), (7, .int (r4 (0 : Int32).toNatClampNeg)), (9, .ref b6), (15, .int (0 : Int32)), (19, .int x19_85)] []) ?_ _ _ _ E
                  intro self ih605 x19_85 r6_86 E
                  show G l D X 20 (WX8 ad cy 24 40 6 36 4 24 6 6 b0 b1 b2 b3 b4 b5 b6 b7) 39 270 (r_22.2, r0, r1, r2, r3, r4, r_1.2, r6_86, r_15) 605 [(0, .ref (ad 0)), (1, .int x1), (2, .ref b0), (6, .ref b4), (7, .int (r4 (0 : Int32).toNatClampNeg)), (9, .ref b6), (15, .int (0 : Int32)), (19, .int x19_85)] []
                  unfold L_L_same_605 at E
                  refine g_iload (pc' := 607) O ⟨dL_same_605, rfl⟩ (q := 7) rfl ?_
                  refine g_if_le (pc' := 610) O ⟨dL_same_607, rfl⟩ E (tgt := 624) (by decide) (fun E => ?_) (fun E => ?_)
                  · refine g_sub (lv' := [(0, .ref (ad 0)), (1, .int x1), (2, .ref b0), (6, .ref b4), (7, .int (r4 (0 : Int32).toNatClampNeg)), (9, .ref b6), (15, .int (0 : Int32))]) [0, 1, 2, 3, 4, 5, 6] rfl ?_
                    exact hk624 _ E
                  · refine g_aload (pc' := 612) O ⟨dL_same_610, rfl⟩ (q := 5) rfl ?_
                    refine g_iload (pc' := 614) O ⟨dL_same_612, rfl⟩ (q := 4) rfl ?_
                    obtain ⟨r_87, c_88, E⟩ := bd_of E
                    refine g_MSi (pc' := 617) O hN ⟨dL_same_614, rfl⟩ (y := yL_next) (As := [.ref b6, .int (r4 (0 : Int32).toNatClampNeg)]) (st := []) (put := (fun g => (r_22.2, r0, r1, r2, r3, r4, r_1.2, g, r_15))) sub_X8_A6 (t_L_next l D cy hfl b6 c_88) kw_553 kw_24 kw_551 kw_552 hd_L_next ⟨Nat.le_of_ble_eq_true rfl, Nat.le_of_ble_eq_true rfl⟩ ⟨Nat.le_of_ble_eq_true rfl, Nat.le_of_ble_eq_true rfl⟩ rfl (Nat.le_of_ble_eq_true rfl) ?_
                    show G l D X 20 (WX8 ad cy 24 40 6 36 4 24 6 6 b0 b1 b2 b3 b4 b5 b6 b7) 39 270 (r_22.2, r0, r1, r2, r3, r4, r_1.2, r_87.2, r_15) 617 [(0, .ref (ad 0)), (1, .int x1), (2, .ref b0), (6, .ref b4), (7, .int (r4 (0 : Int32).toNatClampNeg)), (9, .ref b6), (15, .int (0 : Int32)), (19, .int x19_85)] [.int r_87.1]
                    refine g_pop (pc' := 618) O ⟨dL_same_617, rfl⟩ rfl ?_
                    refine g_iinc (pc' := 621) O ⟨dL_same_618, rfl⟩ (q := 7) (v := x19_85 + (-1 : Int32)) (lv' := [(19, .int (x19_85 + (-1 : Int32))), (0, .ref (ad 0)), (1, .int x1), (2, .ref b0), (6, .ref b4), (7, .int (r4 (0 : Int32).toNatClampNeg)), (9, .ref b6), (15, .int (0 : Int32))]) rfl rfl (by decide) rfl ?_
                    refine g_goto (pc' := 624) O ⟨dL_same_621, rfl⟩ (tgt := 605) (by decide) ?_
                    refine g_sub (lv' := [(0, .ref (ad 0)), (1, .int x1), (2, .ref b0), (6, .ref b4), (7, .int (r4 (0 : Int32).toNatClampNeg)), (9, .ref b6), (15, .int (0 : Int32)), (19, .int (x19_85 + (-1 : Int32)))]) [1, 2, 3, 4, 5, 6, 7, 0] rfl ?_
                    exact ih605 _ _ E
              · intro k595 hk595 E
                refine g_sub (lv' := [(0, .ref (ad 0)), (1, .int x1), (2, .ref b0), (6, .ref b4), (7, .int (r4 (0 : Int32).toNatClampNeg)), (9, .ref b6), (15, .int (0 : Int32)), (19, .int (0 : Int32))]) [4, 5, 6, 8, 9, 10, 1, 0] rfl ?_
                refine fx2_of (P := fun (x19_89 : Int32) (r6_90 : Row) => G l D X 20 (WX8 ad cy 24 40 6 36 4 24 6 6 b0 b1 b2 b3 b4 b5 b6 b7) 39 270 (r_22.2, r0, r1, r2, r3, r4, r_1.2, r6_90, r_15) 575 [(0, .ref (ad 0)), (1, .int x1), (2, .ref b0), (6, .ref b4), (7, .int (r4 (0 : Int32).toNatClampNeg)), (9, .ref b6), (15, .int (0 : Int32)), (19, .int x19_89)] []) ?_ _ _ _ E
                intro self ih575 x19_89 r6_90 E
                show G l D X 20 (WX8 ad cy 24 40 6 36 4 24 6 6 b0 b1 b2 b3 b4 b5 b6 b7) 39 270 (r_22.2, r0, r1, r2, r3, r4, r_1.2, r6_90, r_15) 575 [(0, .ref (ad 0)), (1, .int x1), (2, .ref b0), (6, .ref b4), (7, .int (r4 (0 : Int32).toNatClampNeg)), (9, .ref b6), (15, .int (0 : Int32)), (19, .int x19_89)] []
                unfold L_L_same_575 at E
                refine g_iload (pc' := 577) O ⟨dL_same_575, rfl⟩ (q := 7) rfl ?_
                refine g_iload (pc' := 579) O ⟨dL_same_577, rfl⟩ (q := 4) rfl ?_
                refine g_icmp_ge (pc' := 582) O ⟨dL_same_579, rfl⟩ E (tgt := 595) (by decide) (fun E => ?_) (fun E => ?_)
                · refine g_sub (lv' := [(0, .ref (ad 0)), (1, .int x1), (2, .ref b0), (6, .ref b4), (7, .int (r4 (0 : Int32).toNatClampNeg)), (9, .ref b6), (15, .int (0 : Int32))]) [0, 1, 2, 3, 4, 5, 6] rfl ?_
                  exact hk595 _ E
                · refine g_aload (pc' := 584) O ⟨dL_same_582, rfl⟩ (q := 5) rfl ?_
                  refine g_iload (pc' := 586) O ⟨dL_same_584, rfl⟩ (q := 7) rfl ?_
                  refine g_iload (pc' := 588) O ⟨dL_same_586, rfl⟩ (q := 7) rfl ?_
                  refine g_iast (pc' := 589) O ⟨dL_same_588, rfl⟩ zX8_6 zsX8_6 E (fun E => ?_)
                  refine g_nmr (Go := fun (r6_91 : Row) => G l D X 20 (WX8 ad cy 24 40 6 36 4 24 6 6 b0 b1 b2 b3 b4 b5 b6 b7) 39 270 (r_22.2, r0, r1, r2, r3, r4, r_1.2, r6_91, r_15) 589 [(0, .ref (ad 0)), (1, .int x1), (2, .ref b0), (6, .ref b4), (7, .int (r4 (0 : Int32).toNatClampNeg)), (9, .ref b6), (15, .int (0 : Int32)), (19, .int x19_89)] []) E (fun r6_91 E => ?_)
                  show G l D X 20 (WX8 ad cy 24 40 6 36 4 24 6 6 b0 b1 b2 b3 b4 b5 b6 b7) 39 270 (r_22.2, r0, r1, r2, r3, r4, r_1.2, r6_91, r_15) 589 [(0, .ref (ad 0)), (1, .int x1), (2, .ref b0), (6, .ref b4), (7, .int (r4 (0 : Int32).toNatClampNeg)), (9, .ref b6), (15, .int (0 : Int32)), (19, .int x19_89)] []
                  refine g_iinc (pc' := 592) O ⟨dL_same_589, rfl⟩ (q := 7) (v := x19_89 + (1 : Int32)) (lv' := [(19, .int (x19_89 + (1 : Int32))), (0, .ref (ad 0)), (1, .int x1), (2, .ref b0), (6, .ref b4), (7, .int (r4 (0 : Int32).toNatClampNeg)), (9, .ref b6), (15, .int (0 : Int32))]) rfl rfl (by decide) rfl ?_
                  refine g_goto (pc' := 595) O ⟨dL_same_592, rfl⟩ (tgt := 575) (by decide) ?_
                  refine g_sub (lv' := [(0, .ref (ad 0)), (1, .int x1), (2, .ref b0), (6, .ref b4), (7, .int (r4 (0 : Int32).toNatClampNeg)), (9, .ref b6), (15, .int (0 : Int32)), (19, .int (x19_89 + (1 : Int32)))]) [1, 2, 3, 4, 5, 6, 7, 0] rfl ?_
                  exact ih575 _ _ E
            · refine g_aload_n (pc' := 481) O ⟨dL_same_480, rfl⟩ (q := 2) rfl rfl ?_
              obtain ⟨r_92, c_93, E⟩ := bd_of E
              refine g_Ui (pc' := 484) O ⟨dL_same_481, rfl⟩ (y := yX10_left) (As := []) (st := []) (put := (fun g => (g, r0, r1, r2, r3, r4, r_1.2, (fun _ => 0), r_15))) sub_X8_X (t_X10_left l D ad cy (h := r_22.2) c_93) kw_710 kw_25 kw_707 kw_708 kw_709 rfl zX8_x hd_X10_left ⟨Nat.le_of_ble_eq_true rfl, Nat.le_of_ble_eq_true rfl⟩ ⟨Nat.le_of_ble_eq_true rfl, Nat.le_of_ble_eq_true rfl⟩ rfl (Nat.le_of_ble_eq_true rfl) ?_
              show G l D X 20 (WX8 ad cy 24 40 6 36 4 24 6 6 b0 b1 b2 b3 b4 b5 b6 b7) 39 270 (r_92.2, r0, r1, r2, r3, r4, r_1.2, (fun _ => 0), r_15) 484 [(18, .int r_22.1), (17, .int r_20), (0, .ref (ad 0)), (1, .int x1), (2, .ref b0), (5, .ref b3), (6, .ref b4), (7, .int (r4 (0 : Int32).toNatClampNeg)), (9, .ref b6), (15, .int x15_17), (16, .int x16_18)] [.int r_92.1]
              refine g_iload (pc' := 486) O ⟨dL_same_484, rfl⟩ (q := 1) rfl ?_
              refine g_icmp_ne (pc' := 489) O ⟨dL_same_486, rfl⟩ E (tgt := 569) (by decide) (fun E => ?_) (fun E => ?_)
              · refine g_iconst (pc' := 570) O ⟨dL_same_569, rfl⟩ (v := (0 : Int32)) rfl ?_
                refine g_istore (pc' := 572) O ⟨dL_same_570, rfl⟩ (lv' := [(15, .int (0 : Int32)), (18, .int r_22.1), (17, .int r_20), (0, .ref (ad 0)), (1, .int x1), (2, .ref b0), (5, .ref b3), (6, .ref b4), (7, .int (r4 (0 : Int32).toNatClampNeg)), (9, .ref b6), (16, .int x16_18)]) (by decide) rfl ?_
                refine g_iconst (pc' := 573) O ⟨dL_same_572, rfl⟩ (v := (0 : Int32)) rfl ?_
                refine g_istore (pc' := 575) O ⟨dL_same_573, rfl⟩ (lv' := [(19, .int (0 : Int32)), (15, .int (0 : Int32)), (18, .int r_22.1), (17, .int r_20), (0, .ref (ad 0)), (1, .int x1), (2, .ref b0), (5, .ref b3), (6, .ref b4), (7, .int (r4 (0 : Int32).toNatClampNeg)), (9, .ref b6), (16, .int x16_18)]) (by decide) rfl ?_
                refine jn1_of (P := fun (r6_94 : Row) => G l D X 20 (WX8 ad cy 24 40 6 36 4 24 6 6 b0 b1 b2 b3 b4 b5 b6 b7) 39 270 (r_92.2, r0, r1, r2, r3, r4, r_1.2, r6_94, r_15) 595 [(0, .ref (ad 0)), (1, .int x1), (2, .ref b0), (6, .ref b4), (7, .int (r4 (0 : Int32).toNatClampNeg)), (9, .ref b6), (15, .int (0 : Int32))] []) E ?_ ?_
                · intro r6_94 E
                  show G l D X 20 (WX8 ad cy 24 40 6 36 4 24 6 6 b0 b1 b2 b3 b4 b5 b6 b7) 39 270 (r_92.2, r0, r1, r2, r3, r4, r_1.2, r6_94, r_15) 595 [(0, .ref (ad 0)), (1, .int x1), (2, .ref b0), (6, .ref b4), (7, .int (r4 (0 : Int32).toNatClampNeg)), (9, .ref b6), (15, .int (0 : Int32))] []
                  refine g_iload_n (pc' := 596) O ⟨dL_same_595, rfl⟩ (q := 1) rfl rfl ?_
                  refine g_iconst (pc' := 597) O ⟨dL_same_596, rfl⟩ (v := (5 : Int32)) rfl ?_
                  refine g_ishr (pc' := 598) O ⟨dL_same_597, rfl⟩ ?_
                  refine g_bipush (pc' := 600) O ⟨dL_same_598, rfl⟩ (v := (120 : Int32)) rfl ?_
                  obtain ⟨r_95, c_96, E⟩ := bd_of E
                  refine g_MSi (pc' := 603) O hN ⟨dL_same_600, rfl⟩ (y := yL_low) (As := [.int (ishr x1 (5 : Int32)), .int (120 : Int32)]) (st := []) (put := (fun g => (r_92.2, r0, r1, r2, r3, r4, r_1.2, r6_94, r_15))) sub_X8_A (t_L_low l D cy hfl c_96) kw_408 kw_24 kw_406 kw_407 hd_L_low ⟨Nat.le_of_ble_eq_true rfl, Nat.le_of_ble_eq_true rfl⟩ ⟨Nat.le_of_ble_eq_true rfl, Nat.le_of_ble_eq_true rfl⟩ rfl (Nat.le_of_ble_eq_true rfl) ?_
                  show G l D X 20 (WX8 ad cy 24 40 6 36 4 24 6 6 b0 b1 b2 b3 b4 b5 b6 b7) 39 270 (r_92.2, r0, r1, r2, r3, r4, r_1.2, r6_94, r_15) 603 [(0, .ref (ad 0)), (1, .int x1), (2, .ref b0), (6, .ref b4), (7, .int (r4 (0 : Int32).toNatClampNeg)), (9, .ref b6), (15, .int (0 : Int32))] [.int r_95]
                  refine g_istore (pc' := 605) O ⟨dL_same_603, rfl⟩ (lv' := [(19, .int r_95), (0, .ref (ad 0)), (1, .int x1), (2, .ref b0), (6, .ref b4), (7, .int (r4 (0 : Int32).toNatClampNeg)), (9, .ref b6), (15, .int (0 : Int32))]) (by decide) rfl ?_
                  refine jn1_of (P := fun (r6_97 : Row) => G l D X 20 (WX8 ad cy 24 40 6 36 4 24 6 6 b0 b1 b2 b3 b4 b5 b6 b7) 39 270 (r_92.2, r0, r1, r2, r3, r4, r_1.2, r6_97, r_15) 624 [(0, .ref (ad 0)), (1, .int x1), (2, .ref b0), (6, .ref b4), (7, .int (r4 (0 : Int32).toNatClampNeg)), (9, .ref b6), (15, .int (0 : Int32))] []) E ?_ ?_
                  · intro r6_97 E
                    show G l D X 20 (WX8 ad cy 24 40 6 36 4 24 6 6 b0 b1 b2 b3 b4 b5 b6 b7) 39 270 (r_92.2, r0, r1, r2, r3, r4, r_1.2, r6_97, r_15) 624 [(0, .ref (ad 0)), (1, .int x1), (2, .ref b0), (6, .ref b4), (7, .int (r4 (0 : Int32).toNatClampNeg)), (9, .ref b6), (15, .int (0 : Int32))] []
                    refine g_iload_n (pc' := 625) O ⟨dL_same_624, rfl⟩ (q := 1) rfl rfl ?_
                    refine g_iconst (pc' := 626) O ⟨dL_same_625, rfl⟩ (v := (3 : Int32)) rfl ?_
                    refine g_ishr (pc' := 627) O ⟨dL_same_626, rfl⟩ ?_
                    refine g_iconst (pc' := 628) O ⟨dL_same_627, rfl⟩ (v := (5 : Int32)) rfl ?_
                    obtain ⟨r_98, c_99, E⟩ := bd_of E
                    refine g_MSi (pc' := 631) O hN ⟨dL_same_628, rfl⟩ (y := yL_low) (As := [.int (ishr x1 (3 : Int32)), .int (5 : Int32)]) (st := []) (put := (fun g => (r_92.2, r0, r1, r2, r3, r4, r_1.2, r6_97, r_15))) sub_X8_A (t_L_low l D cy hfl c_99) kw_408 kw_24 kw_406 kw_407 hd_L_low ⟨Nat.le_of_ble_eq_true rfl, Nat.le_of_ble_eq_true rfl⟩ ⟨Nat.le_of_ble_eq_true rfl, Nat.le_of_ble_eq_true rfl⟩ rfl (Nat.le_of_ble_eq_true rfl) ?_
                    show G l D X 20 (WX8 ad cy 24 40 6 36 4 24 6 6 b0 b1 b2 b3 b4 b5 b6 b7) 39 270 (r_92.2, r0, r1, r2, r3, r4, r_1.2, r6_97, r_15) 631 [(0, .ref (ad 0)), (1, .int x1), (2, .ref b0), (6, .ref b4), (7, .int (r4 (0 : Int32).toNatClampNeg)), (9, .ref b6), (15, .int (0 : Int32))] [.int r_98]
                    refine g_istore (pc' := 633) O ⟨dL_same_631, rfl⟩ (lv' := [(19, .int r_98), (0, .ref (ad 0)), (1, .int x1), (2, .ref b0), (6, .ref b4), (7, .int (r4 (0 : Int32).toNatClampNeg)), (9, .ref b6), (15, .int (0 : Int32))]) (by decide) rfl ?_
                    refine g_iload (pc' := 635) O ⟨dL_same_633, rfl⟩ (q := 7) rfl ?_
                    refine g_if_eq (pc' := 638) O ⟨dL_same_635, rfl⟩ E (tgt := 776) (by decide) (fun E => ?_) (fun E => ?_)
                    · refine g_iconst (pc' := 777) O ⟨dL_same_776, rfl⟩ (v := (0 : Int32)) rfl ?_
                      obtain ⟨hn, E⟩ := ckz_of E
                      cases E
                      refine g_drop (wf := (WX5 ad cy 24 40 6 36 4 b0 b1 b2 b3 b4)) (h := (r_92.2, r0, r1, r2, r3, r4)) (List.range 40) rfl rfl (by decide) ?_
                      exact hret _ _ _ _ _ (Nat.le_of_ble_eq_true rfl) (Nat.le_of_ble_eq_true rfl) ⟨dL_same_777, rfl⟩ hn
                    · refine g_iload (pc' := 640) O ⟨dL_same_638, rfl⟩ (q := 0) rfl ?_
                      refine g_if_ne (pc' := 643) O ⟨dL_same_640, rfl⟩ E (tgt := 659) (by decide) (fun E => ?_) (fun E => ?_)
                      · refine g_iload (pc' := 661) O ⟨dL_same_659, rfl⟩ (q := 0) rfl ?_
                        refine g_iconst (pc' := 662) O ⟨dL_same_661, rfl⟩ (v := (1 : Int32)) rfl ?_
                        refine g_icmp_ne (pc' := 665) O ⟨dL_same_662, rfl⟩ E (tgt := 679) (by decide) (fun E => ?_) (fun E => ?_)
                        · refine g_iload (pc' := 681) O ⟨dL_same_679, rfl⟩ (q := 0) rfl ?_
                          refine g_iconst (pc' := 682) O ⟨dL_same_681, rfl⟩ (v := (2 : Int32)) rfl ?_
                          refine g_icmp_ne (pc' := 685) O ⟨dL_same_682, rfl⟩ E (tgt := 707) (by decide) (fun E => ?_) (fun E => ?_)
                          · refine g_iload (pc' := 709) O ⟨dL_same_707, rfl⟩ (q := 0) rfl ?_
                            refine g_iconst (pc' := 710) O ⟨dL_same_709, rfl⟩ (v := (3 : Int32)) rfl ?_
                            refine g_icmp_ne (pc' := 713) O ⟨dL_same_710, rfl⟩ E (tgt := 728) (by decide) (fun E => ?_) (fun E => ?_)
                            · refine g_iload (pc' := 730) O ⟨dL_same_728, rfl⟩ (q := 5) rfl ?_
                              refine g_iconst (pc' := 731) O ⟨dL_same_730, rfl⟩ (v := (4 : Int32)) rfl ?_
                              refine g_icmp_gt (pc' := 734) O ⟨dL_same_731, rfl⟩ E (tgt := 772) (by decide) (fun E => ?_) (fun E => ?_)
                              · refine g_iconst (pc' := 773) O ⟨dL_same_772, rfl⟩ (v := (1 : Int32)) rfl ?_
                                refine g_goto (pc' := 776) O ⟨dL_same_773, rfl⟩ (tgt := 777) (by decide) ?_
                                obtain ⟨hn, E⟩ := ckz_of E
                                cases E
                                refine g_drop (wf := (WX5 ad cy 24 40 6 36 4 b0 b1 b2 b3 b4)) (h := (r_92.2, r0, r1, r2, r3, r4)) (List.range 40) rfl rfl (by decide) ?_
                                exact hret _ _ _ _ _ (Nat.le_of_ble_eq_true rfl) (Nat.le_of_ble_eq_true rfl) ⟨dL_same_777, rfl⟩ hn
                              · refine g_aload (pc' := 736) O ⟨dL_same_734, rfl⟩ (q := 4) rfl ?_
                                refine g_iconst (pc' := 737) O ⟨dL_same_736, rfl⟩ (v := (1 : Int32)) rfl ?_
                                refine g_iald (pc' := 738) O ⟨dL_same_737, rfl⟩ zX8_4 E (fun E => ?_)
                                refine g_bipush (pc' := 740) O ⟨dL_same_738, rfl⟩ (v := (22 : Int32)) rfl ?_
                                refine g_icmp_gt (pc' := 743) O ⟨dL_same_740, rfl⟩ E (tgt := 772) (by decide) (fun E => ?_) (fun E => ?_)
                                · refine g_iconst (pc' := 773) O ⟨dL_same_772, rfl⟩ (v := (1 : Int32)) rfl ?_
                                  refine g_goto (pc' := 776) O ⟨dL_same_773, rfl⟩ (tgt := 777) (by decide) ?_
                                  obtain ⟨hn, E⟩ := ckz_of E
                                  cases E
                                  refine g_drop (wf := (WX5 ad cy 24 40 6 36 4 b0 b1 b2 b3 b4)) (h := (r_92.2, r0, r1, r2, r3, r4)) (List.range 40) rfl rfl (by decide) ?_
                                  exact hret _ _ _ _ _ (Nat.le_of_ble_eq_true rfl) (Nat.le_of_ble_eq_true rfl) ⟨dL_same_777, rfl⟩ hn
                                · refine g_aload_n (pc' := 744) O ⟨dL_same_743, rfl⟩ (q := 1) rfl rfl ?_
                                  refine g_iconst (pc' := 745) O ⟨dL_same_744, rfl⟩ (v := (2 : Int32)) rfl ?_
                                  obtain ⟨z_103, c_101, e_102, E⟩ := hcatch_of E
                                  refine g_UXi (pc' := 748) O ⟨dL_same_745, rfl⟩ (y := yX10_finishes) (As := [.int (2 : Int32)]) (st := []) (put := (fun g => (g, r0, r1, r2, r3, r4, r_1.2, r6_97, r_15))) sub_X8_X (t_X10_finishes l D ad cy hfl (h := r_92.2) c_101) kw_1014 kw_25 kw_1011 kw_1012 kw_1013 rfl zX8_x hd_X10_finishes ⟨Nat.le_of_ble_eq_true rfl, Nat.le_of_ble_eq_true rfl⟩ ⟨Nat.le_of_ble_eq_true rfl, Nat.le_of_ble_eq_true rfl⟩ rfl (Nat.le_of_ble_eq_true rfl) (fun E1 c q => (by cases e_102 E1 c q)) (fun r_100 q => ?_)
                                  replace E := E r_100 q
                                  show G l D X 20 (WX8 ad cy 24 40 6 36 4 24 6 6 b0 b1 b2 b3 b4 b5 b6 b7) 40 276 (r_100.2, r0, r1, r2, r3, r4, r_1.2, r6_97, r_15) 748 [(19, .int r_98), (0, .ref (ad 0)), (1, .int x1), (2, .ref b0), (6, .ref b4), (7, .int (r4 (0 : Int32).toNatClampNeg)), (9, .ref b6), (15, .int (0 : Int32))] [.int r_100.1]
                                  refine g_iconst (pc' := 749) O ⟨dL_same_748, rfl⟩ (v := (-1 : Int32)) rfl ?_
                                  refine g_iconst (pc' := 750) O ⟨dL_same_749, rfl⟩ (v := (-1 : Int32)) rfl ?_
                                  refine g_aload_n (pc' := 751) O ⟨dL_same_750, rfl⟩ (q := 3) rfl rfl ?_
                                  refine g_aload (pc' := 753) O ⟨dL_same_751, rfl⟩ (q := 4) rfl ?_
                                  obtain ⟨r_104, c_105, E⟩ := bd_of E
                                  refine g_MSi (pc' := 756) O hN ⟨dL_same_753, rfl⟩ (y := yL_done) (As := [.int (-1 : Int32), .int (-1 : Int32), .ref b0, .ref b4]) (st := [.int r_100.1]) (put := (fun g => (r_100.2, g.1, r1, r2, r3, g.2, r_1.2, r6_97, r_15))) sub_X8_A0_4 (t_L_done l D cy hfl b0 b4 c_105) kw_1025 kw_24 kw_1023 kw_1024 hd_L_done ⟨Nat.le_of_ble_eq_true rfl, Nat.le_of_ble_eq_true rfl⟩ ⟨Nat.le_of_ble_eq_true rfl, Nat.le_of_ble_eq_true rfl⟩ rfl (Nat.le_of_ble_eq_true rfl) ?_
                                  show G l D X 20 (WX8 ad cy 24 40 6 36 4 24 6 6 b0 b1 b2 b3 b4 b5 b6 b7) 40 276 (r_100.2, r_104.2, r1, r2, r3, r4, r_1.2, r6_97, r_15) 756 [(19, .int r_98), (0, .ref (ad 0)), (1, .int x1), (2, .ref b0), (6, .ref b4), (7, .int (r4 (0 : Int32).toNatClampNeg)), (9, .ref b6), (15, .int (0 : Int32))] [.int r_104.1, .int r_100.1]
                                  refine jn2_of (P := fun (z_106 : Int32) (r0_107 : Row) => G l D X 20 (WX8 ad cy 24 40 6 36 4 24 6 6 b0 b1 b2 b3 b4 b5 b6 b7) 40 276 (r_100.2, r0_107, r1, r2, r3, r4, r_1.2, r6_97, r_15) 769 [] [.int z_106, .int r_100.1]) E ?_ ?_
                                  · intro z_106 r0_107 E
                                    show G l D X 20 (WX8 ad cy 24 40 6 36 4 24 6 6 b0 b1 b2 b3 b4 b5 b6 b7) 40 276 (r_100.2, r0_107, r1, r2, r3, r4, r_1.2, r6_97, r_15) 769 [] [.int z_106, .int r_100.1]
                                    refine g_icmp_ne (pc' := 772) O ⟨dL_same_769, rfl⟩ E (tgt := 776) (by decide) (fun E => ?_) (fun E => ?_)
                                    · refine g_iconst (pc' := 777) O ⟨dL_same_776, rfl⟩ (v := (0 : Int32)) rfl ?_
                                      obtain ⟨hn, E⟩ := ckz_of E
                                      cases E
                                      refine g_drop (wf := (WX5 ad cy 24 40 6 36 4 b0 b1 b2 b3 b4)) (h := (r_100.2, r0_107, r1, r2, r3, r4)) (List.range 40) rfl rfl (by decide) ?_
                                      exact hret _ _ _ _ _ (Nat.le_of_ble_eq_true rfl) (Nat.le_of_ble_eq_true rfl) ⟨dL_same_777, rfl⟩ hn
                                    · refine g_iconst (pc' := 773) O ⟨dL_same_772, rfl⟩ (v := (1 : Int32)) rfl ?_
                                      refine g_goto (pc' := 776) O ⟨dL_same_773, rfl⟩ (tgt := 777) (by decide) ?_
                                      obtain ⟨hn, E⟩ := ckz_of E
                                      cases E
                                      refine g_drop (wf := (WX5 ad cy 24 40 6 36 4 b0 b1 b2 b3 b4)) (h := (r_100.2, r0_107, r1, r2, r3, r4)) (List.range 40) rfl rfl (by decide) ?_
                                      exact hret _ _ _ _ _ (Nat.le_of_ble_eq_true rfl) (Nat.le_of_ble_eq_true rfl) ⟨dL_same_777, rfl⟩ hn
                                  · intro k769 hk769 E
                                    refine g_if_eq (pc' := 759) O ⟨dL_same_756, rfl⟩ E (tgt := 763) (by decide) (fun E => ?_) (fun E => ?_)
                                    · refine g_aload_n (pc' := 764) O ⟨dL_same_763, rfl⟩ (q := 3) rfl rfl ?_
                                      refine g_aload (pc' := 766) O ⟨dL_same_764, rfl⟩ (q := 4) rfl ?_
                                      obtain ⟨r_108, c_109, E⟩ := bd_of E
                                      refine g_MSi (pc' := 769) O hN ⟨dL_same_766, rfl⟩ (y := yL_finishes) (As := [.ref b0, .ref b4]) (st := [.int r_100.1]) (put := (fun g => (r_100.2, g.1, r1, r2, r3, g.2, r_1.2, r6_97, r_15))) sub_X8_A0_4 (t_L_finishes l D cy hfl b0 b4 c_109) kw_1028 kw_24 kw_1026 kw_1027 hd_L_finishes ⟨Nat.le_of_ble_eq_true rfl, Nat.le_of_ble_eq_true rfl⟩ ⟨Nat.le_of_ble_eq_true rfl, Nat.le_of_ble_eq_true rfl⟩ rfl (Nat.le_of_ble_eq_true rfl) ?_
                                      show G l D X 20 (WX8 ad cy 24 40 6 36 4 24 6 6 b0 b1 b2 b3 b4 b5 b6 b7) 40 276 (r_100.2, r_108.2, r1, r2, r3, r4, r_1.2, r6_97, r_15) 769 [(19, .int r_98), (0, .ref (ad 0)), (1, .int x1), (2, .ref b0), (6, .ref b4), (7, .int (r4 (0 : Int32).toNatClampNeg)), (9, .ref b6), (15, .int (0 : Int32))] [.int r_108.1, .int r_100.1]
                                      refine g_sub (lv' := []) [] rfl ?_
                                      exact hk769 _ _ E
                                    · refine g_iconst (pc' := 760) O ⟨dL_same_759, rfl⟩ (v := (0 : Int32)) rfl ?_
                                      refine g_goto (pc' := 763) O ⟨dL_same_760, rfl⟩ (tgt := 769) (by decide) ?_
                                      refine g_sub (lv' := []) [] rfl ?_
                                      exact hk769 _ _ E
                            · refine g_aload_n (pc' := 714) O ⟨dL_same_713, rfl⟩ (q := 1) rfl rfl ?_
                              refine g_aload (pc' := 716) O ⟨dL_same_714, rfl⟩ (q := 6) rfl ?_
                              refine g_aload_n (pc' := 717) O ⟨dL_same_716, rfl⟩ (q := 3) rfl rfl ?_
                              refine g_aload (pc' := 719) O ⟨dL_same_717, rfl⟩ (q := 4) rfl ?_
                              obtain ⟨r_110, c_111, E⟩ := bd_of E
                              refine g_MSi (pc' := 722) O hN ⟨dL_same_719, rfl⟩ (y := yL_switches) (As := [.ref (ad 0), .ref b6, .ref b0, .ref b4]) (st := []) (put := (fun g => (g.1, g.2.2.1, r1, r2, r3, g.2.2.2, r_1.2, g.2.1, r_15))) sub_X8_X6_0_4 (t_L_switches l D ad cy hfl b6 b0 b4 c_111) kw_979 kw_24 kw_977 kw_978 hd_L_switches ⟨Nat.le_of_ble_eq_true rfl, Nat.le_of_ble_eq_true rfl⟩ ⟨Nat.le_of_ble_eq_true rfl, Nat.le_of_ble_eq_true rfl⟩ rfl (Nat.le_of_ble_eq_true rfl) ?_
                              show G l D X 20 (WX8 ad cy 24 40 6 36 4 24 6 6 b0 b1 b2 b3 b4 b5 b6 b7) 68 444 (r_110.2, r0, r1, r2, r3, r4, r_1.2, r6_97, r_15) 722 [(19, .int r_98), (0, .ref (ad 0)), (1, .int x1), (2, .ref b0), (6, .ref b4), (7, .int (r4 (0 : Int32).toNatClampNeg)), (9, .ref b6), (15, .int (0 : Int32))] [.int r_110.1]
                              refine g_if_eq (pc' := 725) O ⟨dL_same_722, rfl⟩ E (tgt := 776) (by decide) (fun E => ?_) (fun E => ?_)
                              · refine g_iconst (pc' := 777) O ⟨dL_same_776, rfl⟩ (v := (0 : Int32)) rfl ?_
                                obtain ⟨hn, E⟩ := ckz_of E
                                cases E
                                refine g_drop (wf := (WX5 ad cy 24 40 6 36 4 b0 b1 b2 b3 b4)) (h := (r_110.2, r0, r1, r2, r3, r4)) (List.range 40) rfl rfl (by decide) ?_
                                exact hret _ _ _ _ _ (Nat.le_of_ble_eq_true rfl) (Nat.le_of_ble_eq_true rfl) ⟨dL_same_777, rfl⟩ hn
                              · refine g_goto (pc' := 728) O ⟨dL_same_725, rfl⟩ (tgt := 772) (by decide) ?_
                                refine g_iconst (pc' := 773) O ⟨dL_same_772, rfl⟩ (v := (1 : Int32)) rfl ?_
                                refine g_goto (pc' := 776) O ⟨dL_same_773, rfl⟩ (tgt := 777) (by decide) ?_
                                obtain ⟨hn, E⟩ := ckz_of E
                                cases E
                                refine g_drop (wf := (WX5 ad cy 24 40 6 36 4 b0 b1 b2 b3 b4)) (h := (r_110.2, r0, r1, r2, r3, r4)) (List.range 40) rfl rfl (by decide) ?_
                                exact hret _ _ _ _ _ (Nat.le_of_ble_eq_true rfl) (Nat.le_of_ble_eq_true rfl) ⟨dL_same_777, rfl⟩ hn
                          · refine g_aload_n (pc' := 686) O ⟨dL_same_685, rfl⟩ (q := 1) rfl rfl ?_
                            refine g_iload_n (pc' := 687) O ⟨dL_same_686, rfl⟩ (q := 2) rfl rfl ?_
                            refine g_bipush (pc' := 689) O ⟨dL_same_687, rfl⟩ (v := (6 : Int32)) rfl ?_
                            refine g_ishr (pc' := 690) O ⟨dL_same_689, rfl⟩ ?_
                            refine g_iconst (pc' := 691) O ⟨dL_same_690, rfl⟩ (v := (4 : Int32)) rfl ?_
                            obtain ⟨r_112, c_113, E⟩ := bd_of E
                            refine g_MSi (pc' := 694) O hN ⟨dL_same_691, rfl⟩ (y := yL_low) (As := [.int (ishr x1 (6 : Int32)), .int (4 : Int32)]) (st := [.ref (ad 0)]) (put := (fun g => (r_92.2, r0, r1, r2, r3, r4, r_1.2, r6_97, r_15))) sub_X8_A (t_L_low l D cy hfl c_113) kw_408 kw_24 kw_406 kw_407 hd_L_low ⟨Nat.le_of_ble_eq_true rfl, Nat.le_of_ble_eq_true rfl⟩ ⟨Nat.le_of_ble_eq_true rfl, Nat.le_of_ble_eq_true rfl⟩ rfl (Nat.le_of_ble_eq_true rfl) ?_
                            show G l D X 20 (WX8 ad cy 24 40 6 36 4 24 6 6 b0 b1 b2 b3 b4 b5 b6 b7) 39 270 (r_92.2, r0, r1, r2, r3, r4, r_1.2, r6_97, r_15) 694 [(19, .int r_98), (0, .ref (ad 0)), (1, .int x1), (2, .ref b0), (6, .ref b4), (7, .int (r4 (0 : Int32).toNatClampNeg)), (9, .ref b6), (15, .int (0 : Int32))] [.int r_112, .ref (ad 0)]
                            refine g_aload (pc' := 696) O ⟨dL_same_694, rfl⟩ (q := 6) rfl ?_
                            refine g_aload (pc' := 698) O ⟨dL_same_696, rfl⟩ (q := 4) rfl ?_
                            obtain ⟨r_114, c_115, E⟩ := bd_of E
                            refine g_MSi (pc' := 701) O hN ⟨dL_same_698, rfl⟩ (y := yL_orders) (As := [.ref (ad 0), .int r_112, .ref b6, .ref b4]) (st := []) (put := (fun g => (g.1, r0, r1, r2, r3, g.2.2, r_1.2, g.2.1, r_15))) sub_X8_X6_4 (t_L_orders l D ad cy hfl b6 b4 c_115) kw_874 kw_24 kw_872 kw_873 hd_L_orders ⟨Nat.le_of_ble_eq_true rfl, Nat.le_of_ble_eq_true rfl⟩ ⟨Nat.le_of_ble_eq_true rfl, Nat.le_of_ble_eq_true rfl⟩ rfl (Nat.le_of_ble_eq_true rfl) ?_
                            show G l D X 20 (WX8 ad cy 24 40 6 36 4 24 6 6 b0 b1 b2 b3 b4 b5 b6 b7) 51 378 (r_114.2, r0, r1, r2, r3, r4, r_1.2, r6_97, r_15) 701 [(19, .int r_98), (0, .ref (ad 0)), (1, .int x1), (2, .ref b0), (6, .ref b4), (7, .int (r4 (0 : Int32).toNatClampNeg)), (9, .ref b6), (15, .int (0 : Int32))] [.int r_114.1]
                            refine g_if_eq (pc' := 704) O ⟨dL_same_701, rfl⟩ E (tgt := 776) (by decide) (fun E => ?_) (fun E => ?_)
                            · refine g_iconst (pc' := 777) O ⟨dL_same_776, rfl⟩ (v := (0 : Int32)) rfl ?_
                              obtain ⟨hn, E⟩ := ckz_of E
                              cases E
                              refine g_drop (wf := (WX5 ad cy 24 40 6 36 4 b0 b1 b2 b3 b4)) (h := (r_114.2, r0, r1, r2, r3, r4)) (List.range 40) rfl rfl (by decide) ?_
                              exact hret _ _ _ _ _ (Nat.le_of_ble_eq_true rfl) (Nat.le_of_ble_eq_true rfl) ⟨dL_same_777, rfl⟩ hn
                            · refine g_goto (pc' := 707) O ⟨dL_same_704, rfl⟩ (tgt := 772) (by decide) ?_
                              refine g_iconst (pc' := 773) O ⟨dL_same_772, rfl⟩ (v := (1 : Int32)) rfl ?_
                              refine g_goto (pc' := 776) O ⟨dL_same_773, rfl⟩ (tgt := 777) (by decide) ?_
                              obtain ⟨hn, E⟩ := ckz_of E
                              cases E
                              refine g_drop (wf := (WX5 ad cy 24 40 6 36 4 b0 b1 b2 b3 b4)) (h := (r_114.2, r0, r1, r2, r3, r4)) (List.range 40) rfl rfl (by decide) ?_
                              exact hret _ _ _ _ _ (Nat.le_of_ble_eq_true rfl) (Nat.le_of_ble_eq_true rfl) ⟨dL_same_777, rfl⟩ hn
                        · refine g_aload_n (pc' := 666) O ⟨dL_same_665, rfl⟩ (q := 1) rfl rfl ?_
                          refine g_iload_n (pc' := 667) O ⟨dL_same_666, rfl⟩ (q := 2) rfl rfl ?_
                          refine g_aload_n (pc' := 668) O ⟨dL_same_667, rfl⟩ (q := 3) rfl rfl ?_
                          refine g_aload (pc' := 670) O ⟨dL_same_668, rfl⟩ (q := 4) rfl ?_
                          obtain ⟨r_116, c_117, E⟩ := bd_of E
                          refine g_MSi (pc' := 673) O hN ⟨dL_same_670, rfl⟩ (y := yL_faults) (As := [.ref (ad 0), .int x1, .ref b0, .ref b4]) (st := []) (put := (fun g => (g.1, g.2.1, r1, r2, r3, g.2.2, r_1.2, r6_97, r_15))) sub_X8_X0_4 (t_L_faults l D ad cy hfl b0 b4 c_117) kw_805 kw_24 kw_803 kw_804 hd_L_faults ⟨Nat.le_of_ble_eq_true rfl, Nat.le_of_ble_eq_true rfl⟩ ⟨Nat.le_of_ble_eq_true rfl, Nat.le_of_ble_eq_true rfl⟩ rfl (Nat.le_of_ble_eq_true rfl) ?_
                          show G l D X 20 (WX8 ad cy 24 40 6 36 4 24 6 6 b0 b1 b2 b3 b4 b5 b6 b7) 43 294 (r_116.2, r0, r1, r2, r3, r4, r_1.2, r6_97, r_15) 673 [(19, .int r_98), (0, .ref (ad 0)), (1, .int x1), (2, .ref b0), (6, .ref b4), (7, .int (r4 (0 : Int32).toNatClampNeg)), (9, .ref b6), (15, .int (0 : Int32))] [.int r_116.1]
                          refine g_if_eq (pc' := 676) O ⟨dL_same_673, rfl⟩ E (tgt := 776) (by decide) (fun E => ?_) (fun E => ?_)
                          · refine g_iconst (pc' := 777) O ⟨dL_same_776, rfl⟩ (v := (0 : Int32)) rfl ?_
                            obtain ⟨hn, E⟩ := ckz_of E
                            cases E
                            refine g_drop (wf := (WX5 ad cy 24 40 6 36 4 b0 b1 b2 b3 b4)) (h := (r_116.2, r0, r1, r2, r3, r4)) (List.range 40) rfl rfl (by decide) ?_
                            exact hret _ _ _ _ _ (Nat.le_of_ble_eq_true rfl) (Nat.le_of_ble_eq_true rfl) ⟨dL_same_777, rfl⟩ hn
                          · refine g_goto (pc' := 679) O ⟨dL_same_676, rfl⟩ (tgt := 772) (by decide) ?_
                            refine g_iconst (pc' := 773) O ⟨dL_same_772, rfl⟩ (v := (1 : Int32)) rfl ?_
                            refine g_goto (pc' := 776) O ⟨dL_same_773, rfl⟩ (tgt := 777) (by decide) ?_
                            obtain ⟨hn, E⟩ := ckz_of E
                            cases E
                            refine g_drop (wf := (WX5 ad cy 24 40 6 36 4 b0 b1 b2 b3 b4)) (h := (r_116.2, r0, r1, r2, r3, r4)) (List.range 40) rfl rfl (by decide) ?_
                            exact hret _ _ _ _ _ (Nat.le_of_ble_eq_true rfl) (Nat.le_of_ble_eq_true rfl) ⟨dL_same_777, rfl⟩ hn
                      · refine g_aload_n (pc' := 644) O ⟨dL_same_643, rfl⟩ (q := 1) rfl rfl ?_
                        refine g_iload_n (pc' := 645) O ⟨dL_same_644, rfl⟩ (q := 2) rfl rfl ?_
                        refine g_aload (pc' := 647) O ⟨dL_same_645, rfl⟩ (q := 6) rfl ?_
                        refine g_aload_n (pc' := 648) O ⟨dL_same_647, rfl⟩ (q := 3) rfl rfl ?_
                        refine g_aload (pc' := 650) O ⟨dL_same_648, rfl⟩ (q := 4) rfl ?_
                        obtain ⟨r_118, c_119, E⟩ := bd_of E
                        refine g_MSi (pc' := 653) O hN ⟨dL_same_650, rfl⟩ (y := yL_rows) (As := [.ref (ad 0), .int x1, .ref b6, .ref b0, .ref b4]) (st := []) (put := (fun g => (g.1, g.2.2.1, r1, r2, r3, g.2.2.2, r_1.2, g.2.1, r_15))) sub_X8_X6_0_4 (t_L_rows l D ad cy hfl b6 b0 b4 c_119) kw_714 kw_24 kw_712 kw_713 hd_L_rows ⟨Nat.le_of_ble_eq_true rfl, Nat.le_of_ble_eq_true rfl⟩ ⟨Nat.le_of_ble_eq_true rfl, Nat.le_of_ble_eq_true rfl⟩ rfl (Nat.le_of_ble_eq_true rfl) ?_
                        show G l D X 20 (WX8 ad cy 24 40 6 36 4 24 6 6 b0 b1 b2 b3 b4 b5 b6 b7) 45 306 (r_118.2, r0, r1, r2, r3, r4, r_1.2, r6_97, r_15) 653 [(19, .int r_98), (0, .ref (ad 0)), (1, .int x1), (2, .ref b0), (6, .ref b4), (7, .int (r4 (0 : Int32).toNatClampNeg)), (9, .ref b6), (15, .int (0 : Int32))] [.int r_118.1]
                        refine g_if_eq (pc' := 656) O ⟨dL_same_653, rfl⟩ E (tgt := 776) (by decide) (fun E => ?_) (fun E => ?_)
                        · refine g_iconst (pc' := 777) O ⟨dL_same_776, rfl⟩ (v := (0 : Int32)) rfl ?_
                          obtain ⟨hn, E⟩ := ckz_of E
                          cases E
                          refine g_drop (wf := (WX5 ad cy 24 40 6 36 4 b0 b1 b2 b3 b4)) (h := (r_118.2, r0, r1, r2, r3, r4)) (List.range 40) rfl rfl (by decide) ?_
                          exact hret _ _ _ _ _ (Nat.le_of_ble_eq_true rfl) (Nat.le_of_ble_eq_true rfl) ⟨dL_same_777, rfl⟩ hn
                        · refine g_goto (pc' := 659) O ⟨dL_same_656, rfl⟩ (tgt := 772) (by decide) ?_
                          refine g_iconst (pc' := 773) O ⟨dL_same_772, rfl⟩ (v := (1 : Int32)) rfl ?_
                          refine g_goto (pc' := 776) O ⟨dL_same_773, rfl⟩ (tgt := 777) (by decide) ?_
                          obtain ⟨hn, E⟩ := ckz_of E
                          cases E
                          refine g_drop (wf := (WX5 ad cy 24 40 6 36 4 b0 b1 b2 b3 b4)) (h := (r_118.2, r0, r1, r2, r3, r4)) (List.range 40) rfl rfl (by decide) ?_
                          exact hret _ _ _ _ _ (Nat.le_of_ble_eq_true rfl) (Nat.le_of_ble_eq_true rfl) ⟨dL_same_777, rfl⟩ hn
                  · intro k624 hk624 E
                    refine g_sub (lv' := [(0, .ref (ad 0)), (1, .int x1), (2, .ref b0), (6, .ref b4), (7, .int (r4 (0 : Int32).toNatClampNeg)), (9, .ref b6), (15, .int (0 : Int32)), (19, .int r_95)]) [1, 2, 3, 4, 5, 6, 7, 0] rfl ?_
                    refine fx2_of (P := fun (x19_120 : Int32) (r6_121 : Row) => G l D X 20 (WX8 ad cy 24 40 6 36 4 24 6 6 b0 b1 b2 b3 b4 b5 b6 b7) 39 270 (r_92.2, r0, r1, r2, r3, r4, r_1.2, r6_121, r_15) 605 [(0, .ref (ad 0)), (1, .int x1), (2, .ref b0), (6, .ref b4), (7, .int (r4 (0 : Int32).toNatClampNeg)), (9, .ref b6), (15, .int (0 : Int32)), (19, .int x19_120)] []) ?_ _ _ _ E
                    intro self ih605 x19_120 r6_121 E
                    show G l D X 20 (WX8 ad cy 24 40 6 36 4 24 6 6 b0 b1 b2 b3 b4 b5 b6 b7) 39 270 (r_92.2, r0, r1, r2, r3, r4, r_1.2, r6_121, r_15) 605 [(0, .ref (ad 0)), (1, .int x1), (2, .ref b0), (6, .ref b4), (7, .int (r4 (0 : Int32).toNatClampNeg)), (9, .ref b6), (15, .int (0 : Int32)), (19, .int x19_120)] []
                    unfold L_L_same_605 at E
                    refine g_iload (pc' := 607) O ⟨dL_same_605, rfl⟩ (q := 7) rfl ?_
                    refine g_if_le (pc' := 610) O ⟨dL_same_607, rfl⟩ E (tgt := 624) (by decide) (fun E => ?_) (fun E => ?_)
                    · refine g_sub (lv' := [(0, .ref (ad 0)), (1, .int x1), (2, .ref b0), (6, .ref b4), (7, .int (r4 (0 : Int32).toNatClampNeg)), (9, .ref b6), (15, .int (0 : Int32))]) [0, 1, 2, 3, 4, 5, 6] rfl ?_
                      exact hk624 _ E
                    · refine g_aload (pc' := 612) O ⟨dL_same_610, rfl⟩ (q := 5) rfl ?_
                      refine g_iload (pc' := 614) O ⟨dL_same_612, rfl⟩ (q := 4) rfl ?_
                      obtain ⟨r_122, c_123, E⟩ := bd_of E
                      refine g_MSi (pc' := 617) O hN ⟨dL_same_614, rfl⟩ (y := yL_next) (As := [.ref b6, .int (r4 (0 : Int32).toNatClampNeg)]) (st := []) (put := (fun g => (r_92.2, r0, r1, r2, r3, r4, r_1.2, g, r_15))) sub_X8_A6 (t_L_next l D cy hfl b6 c_123) kw_553 kw_24 kw_551 kw_552 hd_L_next ⟨Nat.le_of_ble_eq_true rfl, Nat.le_of_ble_eq_true rfl⟩ ⟨Nat.le_of_ble_eq_true rfl, Nat.le_of_ble_eq_true rfl⟩ rfl (Nat.le_of_ble_eq_true rfl) ?_
                      show G l D X 20 (WX8 ad cy 24 40 6 36 4 24 6 6 b0 b1 b2 b3 b4 b5 b6 b7) 39 270 (r_92.2, r0, r1, r2, r3, r4, r_1.2, r_122.2, r_15) 617 [(0, .ref (ad 0)), (1, .int x1), (2, .ref b0), (6, .ref b4), (7, .int (r4 (0 : Int32).toNatClampNeg)), (9, .ref b6), (15, .int (0 : Int32)), (19, .int x19_120)] [.int r_122.1]
                      refine g_pop (pc' := 618) O ⟨dL_same_617, rfl⟩ rfl ?_
                      refine g_iinc (pc' := 621) O ⟨dL_same_618, rfl⟩ (q := 7) (v := x19_120 + (-1 : Int32)) (lv' := [(19, .int (x19_120 + (-1 : Int32))), (0, .ref (ad 0)), (1, .int x1), (2, .ref b0), (6, .ref b4), (7, .int (r4 (0 : Int32).toNatClampNeg)), (9, .ref b6), (15, .int (0 : Int32))]) rfl rfl (by decide) rfl ?_
                      refine g_goto (pc' := 624) O ⟨dL_same_621, rfl⟩ (tgt := 605) (by decide) ?_
                      refine g_sub (lv' := [(0, .ref (ad 0)), (1, .int x1), (2, .ref b0), (6, .ref b4), (7, .int (r4 (0 : Int32).toNatClampNeg)), (9, .ref b6), (15, .int (0 : Int32)), (19, .int (x19_120 + (-1 : Int32)))]) [1, 2, 3, 4, 5, 6, 7, 0] rfl ?_
                      exact ih605 _ _ E
                · intro k595 hk595 E
                  refine g_sub (lv' := [(0, .ref (ad 0)), (1, .int x1), (2, .ref b0), (6, .ref b4), (7, .int (r4 (0 : Int32).toNatClampNeg)), (9, .ref b6), (15, .int (0 : Int32)), (19, .int (0 : Int32))]) [4, 5, 6, 8, 9, 10, 1, 0] rfl ?_
                  refine fx2_of (P := fun (x19_124 : Int32) (r6_125 : Row) => G l D X 20 (WX8 ad cy 24 40 6 36 4 24 6 6 b0 b1 b2 b3 b4 b5 b6 b7) 39 270 (r_92.2, r0, r1, r2, r3, r4, r_1.2, r6_125, r_15) 575 [(0, .ref (ad 0)), (1, .int x1), (2, .ref b0), (6, .ref b4), (7, .int (r4 (0 : Int32).toNatClampNeg)), (9, .ref b6), (15, .int (0 : Int32)), (19, .int x19_124)] []) ?_ _ _ _ E
                  intro self ih575 x19_124 r6_125 E
                  show G l D X 20 (WX8 ad cy 24 40 6 36 4 24 6 6 b0 b1 b2 b3 b4 b5 b6 b7) 39 270 (r_92.2, r0, r1, r2, r3, r4, r_1.2, r6_125, r_15) 575 [(0, .ref (ad 0)), (1, .int x1), (2, .ref b0), (6, .ref b4), (7, .int (r4 (0 : Int32).toNatClampNeg)), (9, .ref b6), (15, .int (0 : Int32)), (19, .int x19_124)] []
                  unfold L_L_same_575 at E
                  refine g_iload (pc' := 577) O ⟨dL_same_575, rfl⟩ (q := 7) rfl ?_
                  refine g_iload (pc' := 579) O ⟨dL_same_577, rfl⟩ (q := 4) rfl ?_
                  refine g_icmp_ge (pc' := 582) O ⟨dL_same_579, rfl⟩ E (tgt := 595) (by decide) (fun E => ?_) (fun E => ?_)
                  · refine g_sub (lv' := [(0, .ref (ad 0)), (1, .int x1), (2, .ref b0), (6, .ref b4), (7, .int (r4 (0 : Int32).toNatClampNeg)), (9, .ref b6), (15, .int (0 : Int32))]) [0, 1, 2, 3, 4, 5, 6] rfl ?_
                    exact hk595 _ E
                  · refine g_aload (pc' := 584) O ⟨dL_same_582, rfl⟩ (q := 5) rfl ?_
                    refine g_iload (pc' := 586) O ⟨dL_same_584, rfl⟩ (q := 7) rfl ?_
                    refine g_iload (pc' := 588) O ⟨dL_same_586, rfl⟩ (q := 7) rfl ?_
                    refine g_iast (pc' := 589) O ⟨dL_same_588, rfl⟩ zX8_6 zsX8_6 E (fun E => ?_)
                    refine g_nmr (Go := fun (r6_126 : Row) => G l D X 20 (WX8 ad cy 24 40 6 36 4 24 6 6 b0 b1 b2 b3 b4 b5 b6 b7) 39 270 (r_92.2, r0, r1, r2, r3, r4, r_1.2, r6_126, r_15) 589 [(0, .ref (ad 0)), (1, .int x1), (2, .ref b0), (6, .ref b4), (7, .int (r4 (0 : Int32).toNatClampNeg)), (9, .ref b6), (15, .int (0 : Int32)), (19, .int x19_124)] []) E (fun r6_126 E => ?_)
                    show G l D X 20 (WX8 ad cy 24 40 6 36 4 24 6 6 b0 b1 b2 b3 b4 b5 b6 b7) 39 270 (r_92.2, r0, r1, r2, r3, r4, r_1.2, r6_126, r_15) 589 [(0, .ref (ad 0)), (1, .int x1), (2, .ref b0), (6, .ref b4), (7, .int (r4 (0 : Int32).toNatClampNeg)), (9, .ref b6), (15, .int (0 : Int32)), (19, .int x19_124)] []
                    refine g_iinc (pc' := 592) O ⟨dL_same_589, rfl⟩ (q := 7) (v := x19_124 + (1 : Int32)) (lv' := [(19, .int (x19_124 + (1 : Int32))), (0, .ref (ad 0)), (1, .int x1), (2, .ref b0), (6, .ref b4), (7, .int (r4 (0 : Int32).toNatClampNeg)), (9, .ref b6), (15, .int (0 : Int32))]) rfl rfl (by decide) rfl ?_
                    refine g_goto (pc' := 595) O ⟨dL_same_592, rfl⟩ (tgt := 575) (by decide) ?_
                    refine g_sub (lv' := [(0, .ref (ad 0)), (1, .int x1), (2, .ref b0), (6, .ref b4), (7, .int (r4 (0 : Int32).toNatClampNeg)), (9, .ref b6), (15, .int (0 : Int32)), (19, .int (x19_124 + (1 : Int32)))]) [1, 2, 3, 4, 5, 6, 7, 0] rfl ?_
                    exact ih575 _ _ E
              · refine g_iload (pc' := 491) O ⟨dL_same_489, rfl⟩ (q := 7) rfl ?_
                refine g_iconst (pc' := 492) O ⟨dL_same_491, rfl⟩ (v := (4 : Int32)) rfl ?_
                refine jn0_of (P := G l D X 20 (WX8 ad cy 24 40 6 36 4 24 6 6 b0 b1 b2 b3 b4 b5 b6 b7) 39 270 (r_92.2, r0, r1, r2, r3, r4, r_1.2, (fun _ => 0), r_15) 565 [(0, .ref (ad 0)), (1, .int x1), (2, .ref b0), (6, .ref b4), (7, .int (r4 (0 : Int32).toNatClampNeg)), (9, .ref b6)] []) E ?_ ?_
                · intro E
                  show G l D X 20 (WX8 ad cy 24 40 6 36 4 24 6 6 b0 b1 b2 b3 b4 b5 b6 b7) 39 270 (r_92.2, r0, r1, r2, r3, r4, r_1.2, (fun _ => 0), r_15) 565 [(0, .ref (ad 0)), (1, .int x1), (2, .ref b0), (6, .ref b4), (7, .int (r4 (0 : Int32).toNatClampNeg)), (9, .ref b6)] []
                  refine g_iconst (pc' := 566) O ⟨dL_same_565, rfl⟩ (v := (1 : Int32)) rfl ?_
                  refine g_goto (pc' := 569) O ⟨dL_same_566, rfl⟩ (tgt := 570) (by decide) ?_
                  refine g_istore (pc' := 572) O ⟨dL_same_570, rfl⟩ (lv' := [(15, .int (1 : Int32)), (0, .ref (ad 0)), (1, .int x1), (2, .ref b0), (6, .ref b4), (7, .int (r4 (0 : Int32).toNatClampNeg)), (9, .ref b6)]) (by decide) rfl ?_
                  refine g_iconst (pc' := 573) O ⟨dL_same_572, rfl⟩ (v := (0 : Int32)) rfl ?_
                  refine g_istore (pc' := 575) O ⟨dL_same_573, rfl⟩ (lv' := [(19, .int (0 : Int32)), (15, .int (1 : Int32)), (0, .ref (ad 0)), (1, .int x1), (2, .ref b0), (6, .ref b4), (7, .int (r4 (0 : Int32).toNatClampNeg)), (9, .ref b6)]) (by decide) rfl ?_
                  refine jn1_of (P := fun (r6_127 : Row) => G l D X 20 (WX8 ad cy 24 40 6 36 4 24 6 6 b0 b1 b2 b3 b4 b5 b6 b7) 39 270 (r_92.2, r0, r1, r2, r3, r4, r_1.2, r6_127, r_15) 595 [(0, .ref (ad 0)), (1, .int x1), (2, .ref b0), (6, .ref b4), (7, .int (r4 (0 : Int32).toNatClampNeg)), (9, .ref b6), (15, .int (1 : Int32))] []) E ?_ ?_
                  · intro r6_127 E
                    show G l D X 20 (WX8 ad cy 24 40 6 36 4 24 6 6 b0 b1 b2 b3 b4 b5 b6 b7) 39 270 (r_92.2, r0, r1, r2, r3, r4, r_1.2, r6_127, r_15) 595 [(0, .ref (ad 0)), (1, .int x1), (2, .ref b0), (6, .ref b4), (7, .int (r4 (0 : Int32).toNatClampNeg)), (9, .ref b6), (15, .int (1 : Int32))] []
                    refine g_iload_n (pc' := 596) O ⟨dL_same_595, rfl⟩ (q := 1) rfl rfl ?_
                    refine g_iconst (pc' := 597) O ⟨dL_same_596, rfl⟩ (v := (5 : Int32)) rfl ?_
                    refine g_ishr (pc' := 598) O ⟨dL_same_597, rfl⟩ ?_
                    refine g_bipush (pc' := 600) O ⟨dL_same_598, rfl⟩ (v := (120 : Int32)) rfl ?_
                    obtain ⟨r_128, c_129, E⟩ := bd_of E
                    refine g_MSi (pc' := 603) O hN ⟨dL_same_600, rfl⟩ (y := yL_low) (As := [.int (ishr x1 (5 : Int32)), .int (120 : Int32)]) (st := []) (put := (fun g => (r_92.2, r0, r1, r2, r3, r4, r_1.2, r6_127, r_15))) sub_X8_A (t_L_low l D cy hfl c_129) kw_408 kw_24 kw_406 kw_407 hd_L_low ⟨Nat.le_of_ble_eq_true rfl, Nat.le_of_ble_eq_true rfl⟩ ⟨Nat.le_of_ble_eq_true rfl, Nat.le_of_ble_eq_true rfl⟩ rfl (Nat.le_of_ble_eq_true rfl) ?_
                    show G l D X 20 (WX8 ad cy 24 40 6 36 4 24 6 6 b0 b1 b2 b3 b4 b5 b6 b7) 39 270 (r_92.2, r0, r1, r2, r3, r4, r_1.2, r6_127, r_15) 603 [(0, .ref (ad 0)), (1, .int x1), (2, .ref b0), (6, .ref b4), (7, .int (r4 (0 : Int32).toNatClampNeg)), (9, .ref b6), (15, .int (1 : Int32))] [.int r_128]
                    refine g_istore (pc' := 605) O ⟨dL_same_603, rfl⟩ (lv' := [(19, .int r_128), (0, .ref (ad 0)), (1, .int x1), (2, .ref b0), (6, .ref b4), (7, .int (r4 (0 : Int32).toNatClampNeg)), (9, .ref b6), (15, .int (1 : Int32))]) (by decide) rfl ?_
                    refine jn1_of (P := fun (r6_130 : Row) => G l D X 20 (WX8 ad cy 24 40 6 36 4 24 6 6 b0 b1 b2 b3 b4 b5 b6 b7) 39 270 (r_92.2, r0, r1, r2, r3, r4, r_1.2, r6_130, r_15) 624 [(0, .ref (ad 0)), (1, .int x1), (2, .ref b0), (6, .ref b4), (7, .int (r4 (0 : Int32).toNatClampNeg)), (9, .ref b6), (15, .int (1 : Int32))] []) E ?_ ?_
                    · intro r6_130 E
                      show G l D X 20 (WX8 ad cy 24 40 6 36 4 24 6 6 b0 b1 b2 b3 b4 b5 b6 b7) 39 270 (r_92.2, r0, r1, r2, r3, r4, r_1.2, r6_130, r_15) 624 [(0, .ref (ad 0)), (1, .int x1), (2, .ref b0), (6, .ref b4), (7, .int (r4 (0 : Int32).toNatClampNeg)), (9, .ref b6), (15, .int (1 : Int32))] []
                      refine g_iload_n (pc' := 625) O ⟨dL_same_624, rfl⟩ (q := 1) rfl rfl ?_
                      refine g_iconst (pc' := 626) O ⟨dL_same_625, rfl⟩ (v := (3 : Int32)) rfl ?_
                      refine g_ishr (pc' := 627) O ⟨dL_same_626, rfl⟩ ?_
                      refine g_iconst (pc' := 628) O ⟨dL_same_627, rfl⟩ (v := (5 : Int32)) rfl ?_
                      obtain ⟨r_131, c_132, E⟩ := bd_of E
                      refine g_MSi (pc' := 631) O hN ⟨dL_same_628, rfl⟩ (y := yL_low) (As := [.int (ishr x1 (3 : Int32)), .int (5 : Int32)]) (st := []) (put := (fun g => (r_92.2, r0, r1, r2, r3, r4, r_1.2, r6_130, r_15))) sub_X8_A (t_L_low l D cy hfl c_132) kw_408 kw_24 kw_406 kw_407 hd_L_low ⟨Nat.le_of_ble_eq_true rfl, Nat.le_of_ble_eq_true rfl⟩ ⟨Nat.le_of_ble_eq_true rfl, Nat.le_of_ble_eq_true rfl⟩ rfl (Nat.le_of_ble_eq_true rfl) ?_
                      show G l D X 20 (WX8 ad cy 24 40 6 36 4 24 6 6 b0 b1 b2 b3 b4 b5 b6 b7) 39 270 (r_92.2, r0, r1, r2, r3, r4, r_1.2, r6_130, r_15) 631 [(0, .ref (ad 0)), (1, .int x1), (2, .ref b0), (6, .ref b4), (7, .int (r4 (0 : Int32).toNatClampNeg)), (9, .ref b6), (15, .int (1 : Int32))] [.int r_131]
                      refine g_istore (pc' := 633) O ⟨dL_same_631, rfl⟩ (lv' := [(19, .int r_131), (0, .ref (ad 0)), (1, .int x1), (2, .ref b0), (6, .ref b4), (7, .int (r4 (0 : Int32).toNatClampNeg)), (9, .ref b6), (15, .int (1 : Int32))]) (by decide) rfl ?_
                      refine g_iload (pc' := 635) O ⟨dL_same_633, rfl⟩ (q := 7) rfl ?_
                      refine g_if_eq (pc' := 638) O ⟨dL_same_635, rfl⟩ E (tgt := 776) (by decide) (fun E => ?_) (fun E => ?_)
                      · refine g_iconst (pc' := 777) O ⟨dL_same_776, rfl⟩ (v := (0 : Int32)) rfl ?_
                        obtain ⟨hn, E⟩ := ckz_of E
                        cases E
                        refine g_drop (wf := (WX5 ad cy 24 40 6 36 4 b0 b1 b2 b3 b4)) (h := (r_92.2, r0, r1, r2, r3, r4)) (List.range 40) rfl rfl (by decide) ?_
                        exact hret _ _ _ _ _ (Nat.le_of_ble_eq_true rfl) (Nat.le_of_ble_eq_true rfl) ⟨dL_same_777, rfl⟩ hn
                      · refine g_iload (pc' := 640) O ⟨dL_same_638, rfl⟩ (q := 0) rfl ?_
                        refine g_if_ne (pc' := 643) O ⟨dL_same_640, rfl⟩ E (tgt := 659) (by decide) (fun E => ?_) (fun E => ?_)
                        · refine g_iload (pc' := 661) O ⟨dL_same_659, rfl⟩ (q := 0) rfl ?_
                          refine g_iconst (pc' := 662) O ⟨dL_same_661, rfl⟩ (v := (1 : Int32)) rfl ?_
                          refine g_icmp_ne (pc' := 665) O ⟨dL_same_662, rfl⟩ E (tgt := 679) (by decide) (fun E => ?_) (fun E => ?_)
                          · refine g_iload (pc' := 681) O ⟨dL_same_679, rfl⟩ (q := 0) rfl ?_
                            refine g_iconst (pc' := 682) O ⟨dL_same_681, rfl⟩ (v := (2 : Int32)) rfl ?_
                            refine g_icmp_ne (pc' := 685) O ⟨dL_same_682, rfl⟩ E (tgt := 707) (by decide) (fun E => ?_) (fun E => ?_)
                            · refine g_iload (pc' := 709) O ⟨dL_same_707, rfl⟩ (q := 0) rfl ?_
                              refine g_iconst (pc' := 710) O ⟨dL_same_709, rfl⟩ (v := (3 : Int32)) rfl ?_
                              refine g_icmp_ne (pc' := 713) O ⟨dL_same_710, rfl⟩ E (tgt := 728) (by decide) (fun E => ?_) (fun E => ?_)
                              · refine g_iload (pc' := 730) O ⟨dL_same_728, rfl⟩ (q := 5) rfl ?_
                                refine g_iconst (pc' := 731) O ⟨dL_same_730, rfl⟩ (v := (4 : Int32)) rfl ?_
                                refine g_icmp_gt (pc' := 734) O ⟨dL_same_731, rfl⟩ E (tgt := 772) (by decide) (fun E => ?_) (fun E => ?_)
                                · refine g_iconst (pc' := 773) O ⟨dL_same_772, rfl⟩ (v := (1 : Int32)) rfl ?_
                                  refine g_goto (pc' := 776) O ⟨dL_same_773, rfl⟩ (tgt := 777) (by decide) ?_
                                  obtain ⟨hn, E⟩ := ckz_of E
                                  cases E
                                  refine g_drop (wf := (WX5 ad cy 24 40 6 36 4 b0 b1 b2 b3 b4)) (h := (r_92.2, r0, r1, r2, r3, r4)) (List.range 40) rfl rfl (by decide) ?_
                                  exact hret _ _ _ _ _ (Nat.le_of_ble_eq_true rfl) (Nat.le_of_ble_eq_true rfl) ⟨dL_same_777, rfl⟩ hn
                                · refine g_aload (pc' := 736) O ⟨dL_same_734, rfl⟩ (q := 4) rfl ?_
                                  refine g_iconst (pc' := 737) O ⟨dL_same_736, rfl⟩ (v := (1 : Int32)) rfl ?_
                                  refine g_iald (pc' := 738) O ⟨dL_same_737, rfl⟩ zX8_4 E (fun E => ?_)
                                  refine g_bipush (pc' := 740) O ⟨dL_same_738, rfl⟩ (v := (22 : Int32)) rfl ?_
                                  refine g_icmp_gt (pc' := 743) O ⟨dL_same_740, rfl⟩ E (tgt := 772) (by decide) (fun E => ?_) (fun E => ?_)
                                  · refine g_iconst (pc' := 773) O ⟨dL_same_772, rfl⟩ (v := (1 : Int32)) rfl ?_
                                    refine g_goto (pc' := 776) O ⟨dL_same_773, rfl⟩ (tgt := 777) (by decide) ?_
                                    obtain ⟨hn, E⟩ := ckz_of E
                                    cases E
                                    refine g_drop (wf := (WX5 ad cy 24 40 6 36 4 b0 b1 b2 b3 b4)) (h := (r_92.2, r0, r1, r2, r3, r4)) (List.range 40) rfl rfl (by decide) ?_
                                    exact hret _ _ _ _ _ (Nat.le_of_ble_eq_true rfl) (Nat.le_of_ble_eq_true rfl) ⟨dL_same_777, rfl⟩ hn
                                  · refine g_aload_n (pc' := 744) O ⟨dL_same_743, rfl⟩ (q := 1) rfl rfl ?_
                                    refine g_iconst (pc' := 745) O ⟨dL_same_744, rfl⟩ (v := (2 : Int32)) rfl ?_
                                    obtain ⟨z_136, c_134, e_135, E⟩ := hcatch_of E
                                    refine g_UXi (pc' := 748) O ⟨dL_same_745, rfl⟩ (y := yX10_finishes) (As := [.int (2 : Int32)]) (st := []) (put := (fun g => (g, r0, r1, r2, r3, r4, r_1.2, r6_130, r_15))) sub_X8_X (t_X10_finishes l D ad cy hfl (h := r_92.2) c_134) kw_1014 kw_25 kw_1011 kw_1012 kw_1013 rfl zX8_x hd_X10_finishes ⟨Nat.le_of_ble_eq_true rfl, Nat.le_of_ble_eq_true rfl⟩ ⟨Nat.le_of_ble_eq_true rfl, Nat.le_of_ble_eq_true rfl⟩ rfl (Nat.le_of_ble_eq_true rfl) (fun E1 c q => (by cases e_135 E1 c q)) (fun r_133 q => ?_)
                                    replace E := E r_133 q
                                    show G l D X 20 (WX8 ad cy 24 40 6 36 4 24 6 6 b0 b1 b2 b3 b4 b5 b6 b7) 40 276 (r_133.2, r0, r1, r2, r3, r4, r_1.2, r6_130, r_15) 748 [(19, .int r_131), (0, .ref (ad 0)), (1, .int x1), (2, .ref b0), (6, .ref b4), (7, .int (r4 (0 : Int32).toNatClampNeg)), (9, .ref b6), (15, .int (1 : Int32))] [.int r_133.1]
                                    refine g_iconst (pc' := 749) O ⟨dL_same_748, rfl⟩ (v := (-1 : Int32)) rfl ?_
                                    refine g_iconst (pc' := 750) O ⟨dL_same_749, rfl⟩ (v := (-1 : Int32)) rfl ?_
                                    refine g_aload_n (pc' := 751) O ⟨dL_same_750, rfl⟩ (q := 3) rfl rfl ?_
                                    refine g_aload (pc' := 753) O ⟨dL_same_751, rfl⟩ (q := 4) rfl ?_
                                    obtain ⟨r_137, c_138, E⟩ := bd_of E
                                    refine g_MSi (pc' := 756) O hN ⟨dL_same_753, rfl⟩ (y := yL_done) (As := [.int (-1 : Int32), .int (-1 : Int32), .ref b0, .ref b4]) (st := [.int r_133.1]) (put := (fun g => (r_133.2, g.1, r1, r2, r3, g.2, r_1.2, r6_130, r_15))) sub_X8_A0_4 (t_L_done l D cy hfl b0 b4 c_138) kw_1025 kw_24 kw_1023 kw_1024 hd_L_done ⟨Nat.le_of_ble_eq_true rfl, Nat.le_of_ble_eq_true rfl⟩ ⟨Nat.le_of_ble_eq_true rfl, Nat.le_of_ble_eq_true rfl⟩ rfl (Nat.le_of_ble_eq_true rfl) ?_
                                    show G l D X 20 (WX8 ad cy 24 40 6 36 4 24 6 6 b0 b1 b2 b3 b4 b5 b6 b7) 40 276 (r_133.2, r_137.2, r1, r2, r3, r4, r_1.2, r6_130, r_15) 756 [(19, .int r_131), (0, .ref (ad 0)), (1, .int x1), (2, .ref b0), (6, .ref b4), (7, .int (r4 (0 : Int32).toNatClampNeg)), (9, .ref b6), (15, .int (1 : Int32))] [.int r_137.1, .int r_133.1]
                                    refine jn2_of (P := fun (z_139 : Int32) (r0_140 : Row) => G l D X 20 (WX8 ad cy 24 40 6 36 4 24 6 6 b0 b1 b2 b3 b4 b5 b6 b7) 40 276 (r_133.2, r0_140, r1, r2, r3, r4, r_1.2, r6_130, r_15) 769 [] [.int z_139, .int r_133.1]) E ?_ ?_
                                    · intro z_139 r0_140 E
                                      show G l D X 20 (WX8 ad cy 24 40 6 36 4 24 6 6 b0 b1 b2 b3 b4 b5 b6 b7) 40 276 (r_133.2, r0_140, r1, r2, r3, r4, r_1.2, r6_130, r_15) 769 [] [.int z_139, .int r_133.1]
                                      refine g_icmp_ne (pc' := 772) O ⟨dL_same_769, rfl⟩ E (tgt := 776) (by decide) (fun E => ?_) (fun E => ?_)
                                      · refine g_iconst (pc' := 777) O ⟨dL_same_776, rfl⟩ (v := (0 : Int32)) rfl ?_
                                        obtain ⟨hn, E⟩ := ckz_of E
                                        cases E
                                        refine g_drop (wf := (WX5 ad cy 24 40 6 36 4 b0 b1 b2 b3 b4)) (h := (r_133.2, r0_140, r1, r2, r3, r4)) (List.range 40) rfl rfl (by decide) ?_
                                        exact hret _ _ _ _ _ (Nat.le_of_ble_eq_true rfl) (Nat.le_of_ble_eq_true rfl) ⟨dL_same_777, rfl⟩ hn
                                      · refine g_iconst (pc' := 773) O ⟨dL_same_772, rfl⟩ (v := (1 : Int32)) rfl ?_
                                        refine g_goto (pc' := 776) O ⟨dL_same_773, rfl⟩ (tgt := 777) (by decide) ?_
                                        obtain ⟨hn, E⟩ := ckz_of E
                                        cases E
                                        refine g_drop (wf := (WX5 ad cy 24 40 6 36 4 b0 b1 b2 b3 b4)) (h := (r_133.2, r0_140, r1, r2, r3, r4)) (List.range 40) rfl rfl (by decide) ?_
                                        exact hret _ _ _ _ _ (Nat.le_of_ble_eq_true rfl) (Nat.le_of_ble_eq_true rfl) ⟨dL_same_777, rfl⟩ hn
                                    · intro k769 hk769 E
                                      refine g_if_eq (pc' := 759) O ⟨dL_same_756, rfl⟩ E (tgt := 763) (by decide) (fun E => ?_) (fun E => ?_)
                                      · refine g_aload_n (pc' := 764) O ⟨dL_same_763, rfl⟩ (q := 3) rfl rfl ?_
                                        refine g_aload (pc' := 766) O ⟨dL_same_764, rfl⟩ (q := 4) rfl ?_
                                        obtain ⟨r_141, c_142, E⟩ := bd_of E
                                        refine g_MSi (pc' := 769) O hN ⟨dL_same_766, rfl⟩ (y := yL_finishes) (As := [.ref b0, .ref b4]) (st := [.int r_133.1]) (put := (fun g => (r_133.2, g.1, r1, r2, r3, g.2, r_1.2, r6_130, r_15))) sub_X8_A0_4 (t_L_finishes l D cy hfl b0 b4 c_142) kw_1028 kw_24 kw_1026 kw_1027 hd_L_finishes ⟨Nat.le_of_ble_eq_true rfl, Nat.le_of_ble_eq_true rfl⟩ ⟨Nat.le_of_ble_eq_true rfl, Nat.le_of_ble_eq_true rfl⟩ rfl (Nat.le_of_ble_eq_true rfl) ?_
                                        show G l D X 20 (WX8 ad cy 24 40 6 36 4 24 6 6 b0 b1 b2 b3 b4 b5 b6 b7) 40 276 (r_133.2, r_141.2, r1, r2, r3, r4, r_1.2, r6_130, r_15) 769 [(19, .int r_131), (0, .ref (ad 0)), (1, .int x1), (2, .ref b0), (6, .ref b4), (7, .int (r4 (0 : Int32).toNatClampNeg)), (9, .ref b6), (15, .int (1 : Int32))] [.int r_141.1, .int r_133.1]
                                        refine g_sub (lv' := []) [] rfl ?_
                                        exact hk769 _ _ E
                                      · refine g_iconst (pc' := 760) O ⟨dL_same_759, rfl⟩ (v := (0 : Int32)) rfl ?_
                                        refine g_goto (pc' := 763) O ⟨dL_same_760, rfl⟩ (tgt := 769) (by decide) ?_
                                        refine g_sub (lv' := []) [] rfl ?_
                                        exact hk769 _ _ E
                              · refine g_aload_n (pc' := 714) O ⟨dL_same_713, rfl⟩ (q := 1) rfl rfl ?_
                                refine g_aload (pc' := 716) O ⟨dL_same_714, rfl⟩ (q := 6) rfl ?_
                                refine g_aload_n (pc' := 717) O ⟨dL_same_716, rfl⟩ (q := 3) rfl rfl ?_
                                refine g_aload (pc' := 719) O ⟨dL_same_717, rfl⟩ (q := 4) rfl ?_
                                obtain ⟨r_143, c_144, E⟩ := bd_of E
                                refine g_MSi (pc' := 722) O hN ⟨dL_same_719, rfl⟩ (y := yL_switches) (As := [.ref (ad 0), .ref b6, .ref b0, .ref b4]) (st := []) (put := (fun g => (g.1, g.2.2.1, r1, r2, r3, g.2.2.2, r_1.2, g.2.1, r_15))) sub_X8_X6_0_4 (t_L_switches l D ad cy hfl b6 b0 b4 c_144) kw_979 kw_24 kw_977 kw_978 hd_L_switches ⟨Nat.le_of_ble_eq_true rfl, Nat.le_of_ble_eq_true rfl⟩ ⟨Nat.le_of_ble_eq_true rfl, Nat.le_of_ble_eq_true rfl⟩ rfl (Nat.le_of_ble_eq_true rfl) ?_
                                show G l D X 20 (WX8 ad cy 24 40 6 36 4 24 6 6 b0 b1 b2 b3 b4 b5 b6 b7) 68 444 (r_143.2, r0, r1, r2, r3, r4, r_1.2, r6_130, r_15) 722 [(19, .int r_131), (0, .ref (ad 0)), (1, .int x1), (2, .ref b0), (6, .ref b4), (7, .int (r4 (0 : Int32).toNatClampNeg)), (9, .ref b6), (15, .int (1 : Int32))] [.int r_143.1]
                                refine g_if_eq (pc' := 725) O ⟨dL_same_722, rfl⟩ E (tgt := 776) (by decide) (fun E => ?_) (fun E => ?_)
                                · refine g_iconst (pc' := 777) O ⟨dL_same_776, rfl⟩ (v := (0 : Int32)) rfl ?_
                                  obtain ⟨hn, E⟩ := ckz_of E
                                  cases E
                                  refine g_drop (wf := (WX5 ad cy 24 40 6 36 4 b0 b1 b2 b3 b4)) (h := (r_143.2, r0, r1, r2, r3, r4)) (List.range 40) rfl rfl (by decide) ?_
                                  exact hret _ _ _ _ _ (Nat.le_of_ble_eq_true rfl) (Nat.le_of_ble_eq_true rfl) ⟨dL_same_777, rfl⟩ hn
                                · refine g_goto (pc' := 728) O ⟨dL_same_725, rfl⟩ (tgt := 772) (by decide) ?_
                                  refine g_iconst (pc' := 773) O ⟨dL_same_772, rfl⟩ (v := (1 : Int32)) rfl ?_
                                  refine g_goto (pc' := 776) O ⟨dL_same_773, rfl⟩ (tgt := 777) (by decide) ?_
                                  obtain ⟨hn, E⟩ := ckz_of E
                                  cases E
                                  refine g_drop (wf := (WX5 ad cy 24 40 6 36 4 b0 b1 b2 b3 b4)) (h := (r_143.2, r0, r1, r2, r3, r4)) (List.range 40) rfl rfl (by decide) ?_
                                  exact hret _ _ _ _ _ (Nat.le_of_ble_eq_true rfl) (Nat.le_of_ble_eq_true rfl) ⟨dL_same_777, rfl⟩ hn
                            · refine g_aload_n (pc' := 686) O ⟨dL_same_685, rfl⟩ (q := 1) rfl rfl ?_
                              refine g_iload_n (pc' := 687) O ⟨dL_same_686, rfl⟩ (q := 2) rfl rfl ?_
                              refine g_bipush (pc' := 689) O ⟨dL_same_687, rfl⟩ (v := (6 : Int32)) rfl ?_
                              refine g_ishr (pc' := 690) O ⟨dL_same_689, rfl⟩ ?_
                              refine g_iconst (pc' := 691) O ⟨dL_same_690, rfl⟩ (v := (4 : Int32)) rfl ?_
                              obtain ⟨r_145, c_146, E⟩ := bd_of E
                              refine g_MSi (pc' := 694) O hN ⟨dL_same_691, rfl⟩ (y := yL_low) (As := [.int (ishr x1 (6 : Int32)), .int (4 : Int32)]) (st := [.ref (ad 0)]) (put := (fun g => (r_92.2, r0, r1, r2, r3, r4, r_1.2, r6_130, r_15))) sub_X8_A (t_L_low l D cy hfl c_146) kw_408 kw_24 kw_406 kw_407 hd_L_low ⟨Nat.le_of_ble_eq_true rfl, Nat.le_of_ble_eq_true rfl⟩ ⟨Nat.le_of_ble_eq_true rfl, Nat.le_of_ble_eq_true rfl⟩ rfl (Nat.le_of_ble_eq_true rfl) ?_
                              show G l D X 20 (WX8 ad cy 24 40 6 36 4 24 6 6 b0 b1 b2 b3 b4 b5 b6 b7) 39 270 (r_92.2, r0, r1, r2, r3, r4, r_1.2, r6_130, r_15) 694 [(19, .int r_131), (0, .ref (ad 0)), (1, .int x1), (2, .ref b0), (6, .ref b4), (7, .int (r4 (0 : Int32).toNatClampNeg)), (9, .ref b6), (15, .int (1 : Int32))] [.int r_145, .ref (ad 0)]
                              refine g_aload (pc' := 696) O ⟨dL_same_694, rfl⟩ (q := 6) rfl ?_
                              refine g_aload (pc' := 698) O ⟨dL_same_696, rfl⟩ (q := 4) rfl ?_
                              obtain ⟨r_147, c_148, E⟩ := bd_of E
                              refine g_MSi (pc' := 701) O hN ⟨dL_same_698, rfl⟩ (y := yL_orders) (As := [.ref (ad 0), .int r_145, .ref b6, .ref b4]) (st := []) (put := (fun g => (g.1, r0, r1, r2, r3, g.2.2, r_1.2, g.2.1, r_15))) sub_X8_X6_4 (t_L_orders l D ad cy hfl b6 b4 c_148) kw_874 kw_24 kw_872 kw_873 hd_L_orders ⟨Nat.le_of_ble_eq_true rfl, Nat.le_of_ble_eq_true rfl⟩ ⟨Nat.le_of_ble_eq_true rfl, Nat.le_of_ble_eq_true rfl⟩ rfl (Nat.le_of_ble_eq_true rfl) ?_
                              show G l D X 20 (WX8 ad cy 24 40 6 36 4 24 6 6 b0 b1 b2 b3 b4 b5 b6 b7) 51 378 (r_147.2, r0, r1, r2, r3, r4, r_1.2, r6_130, r_15) 701 [(19, .int r_131), (0, .ref (ad 0)), (1, .int x1), (2, .ref b0), (6, .ref b4), (7, .int (r4 (0 : Int32).toNatClampNeg)), (9, .ref b6), (15, .int (1 : Int32))] [.int r_147.1]
                              refine g_if_eq (pc' := 704) O ⟨dL_same_701, rfl⟩ E (tgt := 776) (by decide) (fun E => ?_) (fun E => ?_)
                              · refine g_iconst (pc' := 777) O ⟨dL_same_776, rfl⟩ (v := (0 : Int32)) rfl ?_
                                obtain ⟨hn, E⟩ := ckz_of E
                                cases E
                                refine g_drop (wf := (WX5 ad cy 24 40 6 36 4 b0 b1 b2 b3 b4)) (h := (r_147.2, r0, r1, r2, r3, r4)) (List.range 40) rfl rfl (by decide) ?_
                                exact hret _ _ _ _ _ (Nat.le_of_ble_eq_true rfl) (Nat.le_of_ble_eq_true rfl) ⟨dL_same_777, rfl⟩ hn
                              · refine g_goto (pc' := 707) O ⟨dL_same_704, rfl⟩ (tgt := 772) (by decide) ?_
                                refine g_iconst (pc' := 773) O ⟨dL_same_772, rfl⟩ (v := (1 : Int32)) rfl ?_
                                refine g_goto (pc' := 776) O ⟨dL_same_773, rfl⟩ (tgt := 777) (by decide) ?_
                                obtain ⟨hn, E⟩ := ckz_of E
                                cases E
                                refine g_drop (wf := (WX5 ad cy 24 40 6 36 4 b0 b1 b2 b3 b4)) (h := (r_147.2, r0, r1, r2, r3, r4)) (List.range 40) rfl rfl (by decide) ?_
                                exact hret _ _ _ _ _ (Nat.le_of_ble_eq_true rfl) (Nat.le_of_ble_eq_true rfl) ⟨dL_same_777, rfl⟩ hn
                          · refine g_aload_n (pc' := 666) O ⟨dL_same_665, rfl⟩ (q := 1) rfl rfl ?_
                            refine g_iload_n (pc' := 667) O ⟨dL_same_666, rfl⟩ (q := 2) rfl rfl ?_
                            refine g_aload_n (pc' := 668) O ⟨dL_same_667, rfl⟩ (q := 3) rfl rfl ?_
                            refine g_aload (pc' := 670) O ⟨dL_same_668, rfl⟩ (q := 4) rfl ?_
                            obtain ⟨r_149, c_150, E⟩ := bd_of E
                            refine g_MSi (pc' := 673) O hN ⟨dL_same_670, rfl⟩ (y := yL_faults) (As := [.ref (ad 0), .int x1, .ref b0, .ref b4]) (st := []) (put := (fun g => (g.1, g.2.1, r1, r2, r3, g.2.2, r_1.2, r6_130, r_15))) sub_X8_X0_4 (t_L_faults l D ad cy hfl b0 b4 c_150) kw_805 kw_24 kw_803 kw_804 hd_L_faults ⟨Nat.le_of_ble_eq_true rfl, Nat.le_of_ble_eq_true rfl⟩ ⟨Nat.le_of_ble_eq_true rfl, Nat.le_of_ble_eq_true rfl⟩ rfl (Nat.le_of_ble_eq_true rfl) ?_
                            show G l D X 20 (WX8 ad cy 24 40 6 36 4 24 6 6 b0 b1 b2 b3 b4 b5 b6 b7) 43 294 (r_149.2, r0, r1, r2, r3, r4, r_1.2, r6_130, r_15) 673 [(19, .int r_131), (0, .ref (ad 0)), (1, .int x1), (2, .ref b0), (6, .ref b4), (7, .int (r4 (0 : Int32).toNatClampNeg)), (9, .ref b6), (15, .int (1 : Int32))] [.int r_149.1]
                            refine g_if_eq (pc' := 676) O ⟨dL_same_673, rfl⟩ E (tgt := 776) (by decide) (fun E => ?_) (fun E => ?_)
                            · refine g_iconst (pc' := 777) O ⟨dL_same_776, rfl⟩ (v := (0 : Int32)) rfl ?_
                              obtain ⟨hn, E⟩ := ckz_of E
                              cases E
                              refine g_drop (wf := (WX5 ad cy 24 40 6 36 4 b0 b1 b2 b3 b4)) (h := (r_149.2, r0, r1, r2, r3, r4)) (List.range 40) rfl rfl (by decide) ?_
                              exact hret _ _ _ _ _ (Nat.le_of_ble_eq_true rfl) (Nat.le_of_ble_eq_true rfl) ⟨dL_same_777, rfl⟩ hn
                            · refine g_goto (pc' := 679) O ⟨dL_same_676, rfl⟩ (tgt := 772) (by decide) ?_
                              refine g_iconst (pc' := 773) O ⟨dL_same_772, rfl⟩ (v := (1 : Int32)) rfl ?_
                              refine g_goto (pc' := 776) O ⟨dL_same_773, rfl⟩ (tgt := 777) (by decide) ?_
                              obtain ⟨hn, E⟩ := ckz_of E
                              cases E
                              refine g_drop (wf := (WX5 ad cy 24 40 6 36 4 b0 b1 b2 b3 b4)) (h := (r_149.2, r0, r1, r2, r3, r4)) (List.range 40) rfl rfl (by decide) ?_
                              exact hret _ _ _ _ _ (Nat.le_of_ble_eq_true rfl) (Nat.le_of_ble_eq_true rfl) ⟨dL_same_777, rfl⟩ hn
                        · refine g_aload_n (pc' := 644) O ⟨dL_same_643, rfl⟩ (q := 1) rfl rfl ?_
                          refine g_iload_n (pc' := 645) O ⟨dL_same_644, rfl⟩ (q := 2) rfl rfl ?_
                          refine g_aload (pc' := 647) O ⟨dL_same_645, rfl⟩ (q := 6) rfl ?_
                          refine g_aload_n (pc' := 648) O ⟨dL_same_647, rfl⟩ (q := 3) rfl rfl ?_
                          refine g_aload (pc' := 650) O ⟨dL_same_648, rfl⟩ (q := 4) rfl ?_
                          obtain ⟨r_151, c_152, E⟩ := bd_of E
                          refine g_MSi (pc' := 653) O hN ⟨dL_same_650, rfl⟩ (y := yL_rows) (As := [.ref (ad 0), .int x1, .ref b6, .ref b0, .ref b4]) (st := []) (put := (fun g => (g.1, g.2.2.1, r1, r2, r3, g.2.2.2, r_1.2, g.2.1, r_15))) sub_X8_X6_0_4 (t_L_rows l D ad cy hfl b6 b0 b4 c_152) kw_714 kw_24 kw_712 kw_713 hd_L_rows ⟨Nat.le_of_ble_eq_true rfl, Nat.le_of_ble_eq_true rfl⟩ ⟨Nat.le_of_ble_eq_true rfl, Nat.le_of_ble_eq_true rfl⟩ rfl (Nat.le_of_ble_eq_true rfl) ?_
                          show G l D X 20 (WX8 ad cy 24 40 6 36 4 24 6 6 b0 b1 b2 b3 b4 b5 b6 b7) 45 306 (r_151.2, r0, r1, r2, r3, r4, r_1.2, r6_130, r_15) 653 [(19, .int r_131), (0, .ref (ad 0)), (1, .int x1), (2, .ref b0), (6, .ref b4), (7, .int (r4 (0 : Int32).toNatClampNeg)), (9, .ref b6), (15, .int (1 : Int32))] [.int r_151.1]
                          refine g_if_eq (pc' := 656) O ⟨dL_same_653, rfl⟩ E (tgt := 776) (by decide) (fun E => ?_) (fun E => ?_)
                          · refine g_iconst (pc' := 777) O ⟨dL_same_776, rfl⟩ (v := (0 : Int32)) rfl ?_
                            obtain ⟨hn, E⟩ := ckz_of E
                            cases E
                            refine g_drop (wf := (WX5 ad cy 24 40 6 36 4 b0 b1 b2 b3 b4)) (h := (r_151.2, r0, r1, r2, r3, r4)) (List.range 40) rfl rfl (by decide) ?_
                            exact hret _ _ _ _ _ (Nat.le_of_ble_eq_true rfl) (Nat.le_of_ble_eq_true rfl) ⟨dL_same_777, rfl⟩ hn
                          · refine g_goto (pc' := 659) O ⟨dL_same_656, rfl⟩ (tgt := 772) (by decide) ?_
                            refine g_iconst (pc' := 773) O ⟨dL_same_772, rfl⟩ (v := (1 : Int32)) rfl ?_
                            refine g_goto (pc' := 776) O ⟨dL_same_773, rfl⟩ (tgt := 777) (by decide) ?_
                            obtain ⟨hn, E⟩ := ckz_of E
                            cases E
                            refine g_drop (wf := (WX5 ad cy 24 40 6 36 4 b0 b1 b2 b3 b4)) (h := (r_151.2, r0, r1, r2, r3, r4)) (List.range 40) rfl rfl (by decide) ?_
                            exact hret _ _ _ _ _ (Nat.le_of_ble_eq_true rfl) (Nat.le_of_ble_eq_true rfl) ⟨dL_same_777, rfl⟩ hn
                    · intro k624 hk624 E
                      refine g_sub (lv' := [(0, .ref (ad 0)), (1, .int x1), (2, .ref b0), (6, .ref b4), (7, .int (r4 (0 : Int32).toNatClampNeg)), (9, .ref b6), (15, .int (1 : Int32)), (19, .int r_128)]) [1, 2, 3, 4, 5, 6, 7, 0] rfl ?_
                      refine fx2_of (P := fun (x19_153 : Int32) (r6_154 : Row) => G l D X 20 (WX8 ad cy 24 40 6 36 4 24 6 6 b0 b1 b2 b3 b4 b5 b6 b7) 39 270 (r_92.2, r0, r1, r2, r3, r4, r_1.2, r6_154, r_15) 605 [(0, .ref (ad 0)), (1, .int x1), (2, .ref b0), (6, .ref b4), (7, .int (r4 (0 : Int32).toNatClampNeg)), (9, .ref b6), (15, .int (1 : Int32)), (19, .int x19_153)] []) ?_ _ _ _ E
                      intro self ih605 x19_153 r6_154 E
                      show G l D X 20 (WX8 ad cy 24 40 6 36 4 24 6 6 b0 b1 b2 b3 b4 b5 b6 b7) 39 270 (r_92.2, r0, r1, r2, r3, r4, r_1.2, r6_154, r_15) 605 [(0, .ref (ad 0)), (1, .int x1), (2, .ref b0), (6, .ref b4), (7, .int (r4 (0 : Int32).toNatClampNeg)), (9, .ref b6), (15, .int (1 : Int32)), (19, .int x19_153)] []
                      unfold L_L_same_605 at E
                      refine g_iload (pc' := 607) O ⟨dL_same_605, rfl⟩ (q := 7) rfl ?_
                      refine g_if_le (pc' := 610) O ⟨dL_same_607, rfl⟩ E (tgt := 624) (by decide) (fun E => ?_) (fun E => ?_)
                      · refine g_sub (lv' := [(0, .ref (ad 0)), (1, .int x1), (2, .ref b0), (6, .ref b4), (7, .int (r4 (0 : Int32).toNatClampNeg)), (9, .ref b6), (15, .int (1 : Int32))]) [0, 1, 2, 3, 4, 5, 6] rfl ?_
                        exact hk624 _ E
                      · refine g_aload (pc' := 612) O ⟨dL_same_610, rfl⟩ (q := 5) rfl ?_
                        refine g_iload (pc' := 614) O ⟨dL_same_612, rfl⟩ (q := 4) rfl ?_
                        obtain ⟨r_155, c_156, E⟩ := bd_of E
                        refine g_MSi (pc' := 617) O hN ⟨dL_same_614, rfl⟩ (y := yL_next) (As := [.ref b6, .int (r4 (0 : Int32).toNatClampNeg)]) (st := []) (put := (fun g => (r_92.2, r0, r1, r2, r3, r4, r_1.2, g, r_15))) sub_X8_A6 (t_L_next l D cy hfl b6 c_156) kw_553 kw_24 kw_551 kw_552 hd_L_next ⟨Nat.le_of_ble_eq_true rfl, Nat.le_of_ble_eq_true rfl⟩ ⟨Nat.le_of_ble_eq_true rfl, Nat.le_of_ble_eq_true rfl⟩ rfl (Nat.le_of_ble_eq_true rfl) ?_
                        show G l D X 20 (WX8 ad cy 24 40 6 36 4 24 6 6 b0 b1 b2 b3 b4 b5 b6 b7) 39 270 (r_92.2, r0, r1, r2, r3, r4, r_1.2, r_155.2, r_15) 617 [(0, .ref (ad 0)), (1, .int x1), (2, .ref b0), (6, .ref b4), (7, .int (r4 (0 : Int32).toNatClampNeg)), (9, .ref b6), (15, .int (1 : Int32)), (19, .int x19_153)] [.int r_155.1]
                        refine g_pop (pc' := 618) O ⟨dL_same_617, rfl⟩ rfl ?_
                        refine g_iinc (pc' := 621) O ⟨dL_same_618, rfl⟩ (q := 7) (v := x19_153 + (-1 : Int32)) (lv' := [(19, .int (x19_153 + (-1 : Int32))), (0, .ref (ad 0)), (1, .int x1), (2, .ref b0), (6, .ref b4), (7, .int (r4 (0 : Int32).toNatClampNeg)), (9, .ref b6), (15, .int (1 : Int32))]) rfl rfl (by decide) rfl ?_
                        refine g_goto (pc' := 624) O ⟨dL_same_621, rfl⟩ (tgt := 605) (by decide) ?_
                        refine g_sub (lv' := [(0, .ref (ad 0)), (1, .int x1), (2, .ref b0), (6, .ref b4), (7, .int (r4 (0 : Int32).toNatClampNeg)), (9, .ref b6), (15, .int (1 : Int32)), (19, .int (x19_153 + (-1 : Int32)))]) [1, 2, 3, 4, 5, 6, 7, 0] rfl ?_
                        exact ih605 _ _ E
                  · intro k595 hk595 E
                    refine g_sub (lv' := [(0, .ref (ad 0)), (1, .int x1), (2, .ref b0), (6, .ref b4), (7, .int (r4 (0 : Int32).toNatClampNeg)), (9, .ref b6), (15, .int (1 : Int32)), (19, .int (0 : Int32))]) [2, 3, 4, 5, 6, 7, 1, 0] rfl ?_
                    refine fx2_of (P := fun (x19_157 : Int32) (r6_158 : Row) => G l D X 20 (WX8 ad cy 24 40 6 36 4 24 6 6 b0 b1 b2 b3 b4 b5 b6 b7) 39 270 (r_92.2, r0, r1, r2, r3, r4, r_1.2, r6_158, r_15) 575 [(0, .ref (ad 0)), (1, .int x1), (2, .ref b0), (6, .ref b4), (7, .int (r4 (0 : Int32).toNatClampNeg)), (9, .ref b6), (15, .int (1 : Int32)), (19, .int x19_157)] []) ?_ _ _ _ E
                    intro self ih575 x19_157 r6_158 E
                    show G l D X 20 (WX8 ad cy 24 40 6 36 4 24 6 6 b0 b1 b2 b3 b4 b5 b6 b7) 39 270 (r_92.2, r0, r1, r2, r3, r4, r_1.2, r6_158, r_15) 575 [(0, .ref (ad 0)), (1, .int x1), (2, .ref b0), (6, .ref b4), (7, .int (r4 (0 : Int32).toNatClampNeg)), (9, .ref b6), (15, .int (1 : Int32)), (19, .int x19_157)] []
                    unfold L_L_same_575 at E
                    refine g_iload (pc' := 577) O ⟨dL_same_575, rfl⟩ (q := 7) rfl ?_
                    refine g_iload (pc' := 579) O ⟨dL_same_577, rfl⟩ (q := 4) rfl ?_
                    refine g_icmp_ge (pc' := 582) O ⟨dL_same_579, rfl⟩ E (tgt := 595) (by decide) (fun E => ?_) (fun E => ?_)
                    · refine g_sub (lv' := [(0, .ref (ad 0)), (1, .int x1), (2, .ref b0), (6, .ref b4), (7, .int (r4 (0 : Int32).toNatClampNeg)), (9, .ref b6), (15, .int (1 : Int32))]) [0, 1, 2, 3, 4, 5, 6] rfl ?_
                      exact hk595 _ E
                    · refine g_aload (pc' := 584) O ⟨dL_same_582, rfl⟩ (q := 5) rfl ?_
                      refine g_iload (pc' := 586) O ⟨dL_same_584, rfl⟩ (q := 7) rfl ?_
                      refine g_iload (pc' := 588) O ⟨dL_same_586, rfl⟩ (q := 7) rfl ?_
                      refine g_iast (pc' := 589) O ⟨dL_same_588, rfl⟩ zX8_6 zsX8_6 E (fun E => ?_)
                      refine g_nmr (Go := fun (r6_159 : Row) => G l D X 20 (WX8 ad cy 24 40 6 36 4 24 6 6 b0 b1 b2 b3 b4 b5 b6 b7) 39 270 (r_92.2, r0, r1, r2, r3, r4, r_1.2, r6_159, r_15) 589 [(0, .ref (ad 0)), (1, .int x1), (2, .ref b0), (6, .ref b4), (7, .int (r4 (0 : Int32).toNatClampNeg)), (9, .ref b6), (15, .int (1 : Int32)), (19, .int x19_157)] []) E (fun r6_159 E => ?_)
                      show G l D X 20 (WX8 ad cy 24 40 6 36 4 24 6 6 b0 b1 b2 b3 b4 b5 b6 b7) 39 270 (r_92.2, r0, r1, r2, r3, r4, r_1.2, r6_159, r_15) 589 [(0, .ref (ad 0)), (1, .int x1), (2, .ref b0), (6, .ref b4), (7, .int (r4 (0 : Int32).toNatClampNeg)), (9, .ref b6), (15, .int (1 : Int32)), (19, .int x19_157)] []
                      refine g_iinc (pc' := 592) O ⟨dL_same_589, rfl⟩ (q := 7) (v := x19_157 + (1 : Int32)) (lv' := [(19, .int (x19_157 + (1 : Int32))), (0, .ref (ad 0)), (1, .int x1), (2, .ref b0), (6, .ref b4), (7, .int (r4 (0 : Int32).toNatClampNeg)), (9, .ref b6), (15, .int (1 : Int32))]) rfl rfl (by decide) rfl ?_
                      refine g_goto (pc' := 595) O ⟨dL_same_592, rfl⟩ (tgt := 575) (by decide) ?_
                      refine g_sub (lv' := [(0, .ref (ad 0)), (1, .int x1), (2, .ref b0), (6, .ref b4), (7, .int (r4 (0 : Int32).toNatClampNeg)), (9, .ref b6), (15, .int (1 : Int32)), (19, .int (x19_157 + (1 : Int32)))]) [1, 2, 3, 4, 5, 6, 7, 0] rfl ?_
                      exact ih575 _ _ E
                · intro k565 hk565 E
                  refine g_icmp_le (pc' := 495) O ⟨dL_same_492, rfl⟩ E (tgt := 504) (by decide) (fun E => ?_) (fun E => ?_)
                  · refine g_iload (pc' := 506) O ⟨dL_same_504, rfl⟩ (q := 7) rfl ?_
                    refine g_iconst (pc' := 507) O ⟨dL_same_506, rfl⟩ (v := (4 : Int32)) rfl ?_
                    refine g_icmp_ge (pc' := 510) O ⟨dL_same_507, rfl⟩ E (tgt := 542) (by decide) (fun E => ?_) (fun E => ?_)
                    · refine g_iload (pc' := 544) O ⟨dL_same_542, rfl⟩ (q := 0) rfl ?_
                      refine g_bipush (pc' := 546) O ⟨dL_same_544, rfl⟩ (v := (6 : Int32)) rfl ?_
                      refine g_icmp_ge (pc' := 549) O ⟨dL_same_546, rfl⟩ E (tgt := 569) (by decide) (fun E => ?_) (fun E => ?_)
                      · refine g_iconst (pc' := 570) O ⟨dL_same_569, rfl⟩ (v := (0 : Int32)) rfl ?_
                        refine g_istore (pc' := 572) O ⟨dL_same_570, rfl⟩ (lv' := [(15, .int (0 : Int32)), (18, .int r_22.1), (17, .int r_20), (0, .ref (ad 0)), (1, .int x1), (2, .ref b0), (5, .ref b3), (6, .ref b4), (7, .int (r4 (0 : Int32).toNatClampNeg)), (9, .ref b6), (16, .int x16_18)]) (by decide) rfl ?_
                        refine g_iconst (pc' := 573) O ⟨dL_same_572, rfl⟩ (v := (0 : Int32)) rfl ?_
                        refine g_istore (pc' := 575) O ⟨dL_same_573, rfl⟩ (lv' := [(19, .int (0 : Int32)), (15, .int (0 : Int32)), (18, .int r_22.1), (17, .int r_20), (0, .ref (ad 0)), (1, .int x1), (2, .ref b0), (5, .ref b3), (6, .ref b4), (7, .int (r4 (0 : Int32).toNatClampNeg)), (9, .ref b6), (16, .int x16_18)]) (by decide) rfl ?_
                        refine jn1_of (P := fun (r6_160 : Row) => G l D X 20 (WX8 ad cy 24 40 6 36 4 24 6 6 b0 b1 b2 b3 b4 b5 b6 b7) 39 270 (r_92.2, r0, r1, r2, r3, r4, r_1.2, r6_160, r_15) 595 [(0, .ref (ad 0)), (1, .int x1), (2, .ref b0), (6, .ref b4), (7, .int (r4 (0 : Int32).toNatClampNeg)), (9, .ref b6), (15, .int (0 : Int32))] []) E ?_ ?_
                        · intro r6_160 E
                          show G l D X 20 (WX8 ad cy 24 40 6 36 4 24 6 6 b0 b1 b2 b3 b4 b5 b6 b7) 39 270 (r_92.2, r0, r1, r2, r3, r4, r_1.2, r6_160, r_15) 595 [(0, .ref (ad 0)), (1, .int x1), (2, .ref b0), (6, .ref b4), (7, .int (r4 (0 : Int32).toNatClampNeg)), (9, .ref b6), (15, .int (0 : Int32))] []
                          refine g_iload_n (pc' := 596) O ⟨dL_same_595, rfl⟩ (q := 1) rfl rfl ?_
                          refine g_iconst (pc' := 597) O ⟨dL_same_596, rfl⟩ (v := (5 : Int32)) rfl ?_
                          refine g_ishr (pc' := 598) O ⟨dL_same_597, rfl⟩ ?_
                          refine g_bipush (pc' := 600) O ⟨dL_same_598, rfl⟩ (v := (120 : Int32)) rfl ?_
                          obtain ⟨r_161, c_162, E⟩ := bd_of E
                          refine g_MSi (pc' := 603) O hN ⟨dL_same_600, rfl⟩ (y := yL_low) (As := [.int (ishr x1 (5 : Int32)), .int (120 : Int32)]) (st := []) (put := (fun g => (r_92.2, r0, r1, r2, r3, r4, r_1.2, r6_160, r_15))) sub_X8_A (t_L_low l D cy hfl c_162) kw_408 kw_24 kw_406 kw_407 hd_L_low ⟨Nat.le_of_ble_eq_true rfl, Nat.le_of_ble_eq_true rfl⟩ ⟨Nat.le_of_ble_eq_true rfl, Nat.le_of_ble_eq_true rfl⟩ rfl (Nat.le_of_ble_eq_true rfl) ?_
                          show G l D X 20 (WX8 ad cy 24 40 6 36 4 24 6 6 b0 b1 b2 b3 b4 b5 b6 b7) 39 270 (r_92.2, r0, r1, r2, r3, r4, r_1.2, r6_160, r_15) 603 [(0, .ref (ad 0)), (1, .int x1), (2, .ref b0), (6, .ref b4), (7, .int (r4 (0 : Int32).toNatClampNeg)), (9, .ref b6), (15, .int (0 : Int32))] [.int r_161]
                          refine g_istore (pc' := 605) O ⟨dL_same_603, rfl⟩ (lv' := [(19, .int r_161), (0, .ref (ad 0)), (1, .int x1), (2, .ref b0), (6, .ref b4), (7, .int (r4 (0 : Int32).toNatClampNeg)), (9, .ref b6), (15, .int (0 : Int32))]) (by decide) rfl ?_
                          refine jn1_of (P := fun (r6_163 : Row) => G l D X 20 (WX8 ad cy 24 40 6 36 4 24 6 6 b0 b1 b2 b3 b4 b5 b6 b7) 39 270 (r_92.2, r0, r1, r2, r3, r4, r_1.2, r6_163, r_15) 624 [(0, .ref (ad 0)), (1, .int x1), (2, .ref b0), (6, .ref b4), (7, .int (r4 (0 : Int32).toNatClampNeg)), (9, .ref b6), (15, .int (0 : Int32))] []) E ?_ ?_
                          · intro r6_163 E
                            show G l D X 20 (WX8 ad cy 24 40 6 36 4 24 6 6 b0 b1 b2 b3 b4 b5 b6 b7) 39 270 (r_92.2, r0, r1, r2, r3, r4, r_1.2, r6_163, r_15) 624 [(0, .ref (ad 0)), (1, .int x1), (2, .ref b0), (6, .ref b4), (7, .int (r4 (0 : Int32).toNatClampNeg)), (9, .ref b6), (15, .int (0 : Int32))] []
                            refine g_iload_n (pc' := 625) O ⟨dL_same_624, rfl⟩ (q := 1) rfl rfl ?_
                            refine g_iconst (pc' := 626) O ⟨dL_same_625, rfl⟩ (v := (3 : Int32)) rfl ?_
                            refine g_ishr (pc' := 627) O ⟨dL_same_626, rfl⟩ ?_
                            refine g_iconst (pc' := 628) O ⟨dL_same_627, rfl⟩ (v := (5 : Int32)) rfl ?_
                            obtain ⟨r_164, c_165, E⟩ := bd_of E
                            refine g_MSi (pc' := 631) O hN ⟨dL_same_628, rfl⟩ (y := yL_low) (As := [.int (ishr x1 (3 : Int32)), .int (5 : Int32)]) (st := []) (put := (fun g => (r_92.2, r0, r1, r2, r3, r4, r_1.2, r6_163, r_15))) sub_X8_A (t_L_low l D cy hfl c_165) kw_408 kw_24 kw_406 kw_407 hd_L_low ⟨Nat.le_of_ble_eq_true rfl, Nat.le_of_ble_eq_true rfl⟩ ⟨Nat.le_of_ble_eq_true rfl, Nat.le_of_ble_eq_true rfl⟩ rfl (Nat.le_of_ble_eq_true rfl) ?_
                            show G l D X 20 (WX8 ad cy 24 40 6 36 4 24 6 6 b0 b1 b2 b3 b4 b5 b6 b7) 39 270 (r_92.2, r0, r1, r2, r3, r4, r_1.2, r6_163, r_15) 631 [(0, .ref (ad 0)), (1, .int x1), (2, .ref b0), (6, .ref b4), (7, .int (r4 (0 : Int32).toNatClampNeg)), (9, .ref b6), (15, .int (0 : Int32))] [.int r_164]
                            refine g_istore (pc' := 633) O ⟨dL_same_631, rfl⟩ (lv' := [(19, .int r_164), (0, .ref (ad 0)), (1, .int x1), (2, .ref b0), (6, .ref b4), (7, .int (r4 (0 : Int32).toNatClampNeg)), (9, .ref b6), (15, .int (0 : Int32))]) (by decide) rfl ?_
                            refine g_iload (pc' := 635) O ⟨dL_same_633, rfl⟩ (q := 7) rfl ?_
                            refine g_if_eq (pc' := 638) O ⟨dL_same_635, rfl⟩ E (tgt := 776) (by decide) (fun E => ?_) (fun E => ?_)
                            · refine g_iconst (pc' := 777) O ⟨dL_same_776, rfl⟩ (v := (0 : Int32)) rfl ?_
                              obtain ⟨hn, E⟩ := ckz_of E
                              cases E
                              refine g_drop (wf := (WX5 ad cy 24 40 6 36 4 b0 b1 b2 b3 b4)) (h := (r_92.2, r0, r1, r2, r3, r4)) (List.range 40) rfl rfl (by decide) ?_
                              exact hret _ _ _ _ _ (Nat.le_of_ble_eq_true rfl) (Nat.le_of_ble_eq_true rfl) ⟨dL_same_777, rfl⟩ hn
                            · refine g_iload (pc' := 640) O ⟨dL_same_638, rfl⟩ (q := 0) rfl ?_
                              refine g_if_ne (pc' := 643) O ⟨dL_same_640, rfl⟩ E (tgt := 659) (by decide) (fun E => ?_) (fun E => ?_)
                              · refine g_iload (pc' := 661) O ⟨dL_same_659, rfl⟩ (q := 0) rfl ?_
                                refine g_iconst (pc' := 662) O ⟨dL_same_661, rfl⟩ (v := (1 : Int32)) rfl ?_
                                refine g_icmp_ne (pc' := 665) O ⟨dL_same_662, rfl⟩ E (tgt := 679) (by decide) (fun E => ?_) (fun E => ?_)
                                · refine g_iload (pc' := 681) O ⟨dL_same_679, rfl⟩ (q := 0) rfl ?_
                                  refine g_iconst (pc' := 682) O ⟨dL_same_681, rfl⟩ (v := (2 : Int32)) rfl ?_
                                  refine g_icmp_ne (pc' := 685) O ⟨dL_same_682, rfl⟩ E (tgt := 707) (by decide) (fun E => ?_) (fun E => ?_)
                                  · refine g_iload (pc' := 709) O ⟨dL_same_707, rfl⟩ (q := 0) rfl ?_
                                    refine g_iconst (pc' := 710) O ⟨dL_same_709, rfl⟩ (v := (3 : Int32)) rfl ?_
                                    refine g_icmp_ne (pc' := 713) O ⟨dL_same_710, rfl⟩ E (tgt := 728) (by decide) (fun E => ?_) (fun E => ?_)
                                    · refine g_iload (pc' := 730) O ⟨dL_same_728, rfl⟩ (q := 5) rfl ?_
                                      refine g_iconst (pc' := 731) O ⟨dL_same_730, rfl⟩ (v := (4 : Int32)) rfl ?_
                                      refine g_icmp_gt (pc' := 734) O ⟨dL_same_731, rfl⟩ E (tgt := 772) (by decide) (fun E => ?_) (fun E => ?_)
                                      · refine g_iconst (pc' := 773) O ⟨dL_same_772, rfl⟩ (v := (1 : Int32)) rfl ?_
                                        refine g_goto (pc' := 776) O ⟨dL_same_773, rfl⟩ (tgt := 777) (by decide) ?_
                                        obtain ⟨hn, E⟩ := ckz_of E
                                        cases E
                                        refine g_drop (wf := (WX5 ad cy 24 40 6 36 4 b0 b1 b2 b3 b4)) (h := (r_92.2, r0, r1, r2, r3, r4)) (List.range 40) rfl rfl (by decide) ?_
                                        exact hret _ _ _ _ _ (Nat.le_of_ble_eq_true rfl) (Nat.le_of_ble_eq_true rfl) ⟨dL_same_777, rfl⟩ hn
                                      · refine g_aload (pc' := 736) O ⟨dL_same_734, rfl⟩ (q := 4) rfl ?_
                                        refine g_iconst (pc' := 737) O ⟨dL_same_736, rfl⟩ (v := (1 : Int32)) rfl ?_
                                        refine g_iald (pc' := 738) O ⟨dL_same_737, rfl⟩ zX8_4 E (fun E => ?_)
                                        refine g_bipush (pc' := 740) O ⟨dL_same_738, rfl⟩ (v := (22 : Int32)) rfl ?_
                                        refine g_icmp_gt (pc' := 743) O ⟨dL_same_740, rfl⟩ E (tgt := 772) (by decide) (fun E => ?_) (fun E => ?_)
                                        · refine g_iconst (pc' := 773) O ⟨dL_same_772, rfl⟩ (v := (1 : Int32)) rfl ?_
                                          refine g_goto (pc' := 776) O ⟨dL_same_773, rfl⟩ (tgt := 777) (by decide) ?_
                                          obtain ⟨hn, E⟩ := ckz_of E
                                          cases E
                                          refine g_drop (wf := (WX5 ad cy 24 40 6 36 4 b0 b1 b2 b3 b4)) (h := (r_92.2, r0, r1, r2, r3, r4)) (List.range 40) rfl rfl (by decide) ?_
                                          exact hret _ _ _ _ _ (Nat.le_of_ble_eq_true rfl) (Nat.le_of_ble_eq_true rfl) ⟨dL_same_777, rfl⟩ hn
                                        · refine g_aload_n (pc' := 744) O ⟨dL_same_743, rfl⟩ (q := 1) rfl rfl ?_
                                          refine g_iconst (pc' := 745) O ⟨dL_same_744, rfl⟩ (v := (2 : Int32)) rfl ?_
                                          obtain ⟨z_169, c_167, e_168, E⟩ := hcatch_of E
                                          refine g_UXi (pc' := 748) O ⟨dL_same_745, rfl⟩ (y := yX10_finishes) (As := [.int (2 : Int32)]) (st := []) (put := (fun g => (g, r0, r1, r2, r3, r4, r_1.2, r6_163, r_15))) sub_X8_X (t_X10_finishes l D ad cy hfl (h := r_92.2) c_167) kw_1014 kw_25 kw_1011 kw_1012 kw_1013 rfl zX8_x hd_X10_finishes ⟨Nat.le_of_ble_eq_true rfl, Nat.le_of_ble_eq_true rfl⟩ ⟨Nat.le_of_ble_eq_true rfl, Nat.le_of_ble_eq_true rfl⟩ rfl (Nat.le_of_ble_eq_true rfl) (fun E1 c q => (by cases e_168 E1 c q)) (fun r_166 q => ?_)
                                          replace E := E r_166 q
                                          show G l D X 20 (WX8 ad cy 24 40 6 36 4 24 6 6 b0 b1 b2 b3 b4 b5 b6 b7) 40 276 (r_166.2, r0, r1, r2, r3, r4, r_1.2, r6_163, r_15) 748 [(19, .int r_164), (0, .ref (ad 0)), (1, .int x1), (2, .ref b0), (6, .ref b4), (7, .int (r4 (0 : Int32).toNatClampNeg)), (9, .ref b6), (15, .int (0 : Int32))] [.int r_166.1]
                                          refine g_iconst (pc' := 749) O ⟨dL_same_748, rfl⟩ (v := (-1 : Int32)) rfl ?_
                                          refine g_iconst (pc' := 750) O ⟨dL_same_749, rfl⟩ (v := (-1 : Int32)) rfl ?_
                                          refine g_aload_n (pc' := 751) O ⟨dL_same_750, rfl⟩ (q := 3) rfl rfl ?_
                                          refine g_aload (pc' := 753) O ⟨dL_same_751, rfl⟩ (q := 4) rfl ?_
                                          obtain ⟨r_170, c_171, E⟩ := bd_of E
                                          refine g_MSi (pc' := 756) O hN ⟨dL_same_753, rfl⟩ (y := yL_done) (As := [.int (-1 : Int32), .int (-1 : Int32), .ref b0, .ref b4]) (st := [.int r_166.1]) (put := (fun g => (r_166.2, g.1, r1, r2, r3, g.2, r_1.2, r6_163, r_15))) sub_X8_A0_4 (t_L_done l D cy hfl b0 b4 c_171) kw_1025 kw_24 kw_1023 kw_1024 hd_L_done ⟨Nat.le_of_ble_eq_true rfl, Nat.le_of_ble_eq_true rfl⟩ ⟨Nat.le_of_ble_eq_true rfl, Nat.le_of_ble_eq_true rfl⟩ rfl (Nat.le_of_ble_eq_true rfl) ?_
                                          show G l D X 20 (WX8 ad cy 24 40 6 36 4 24 6 6 b0 b1 b2 b3 b4 b5 b6 b7) 40 276 (r_166.2, r_170.2, r1, r2, r3, r4, r_1.2, r6_163, r_15) 756 [(19, .int r_164), (0, .ref (ad 0)), (1, .int x1), (2, .ref b0), (6, .ref b4), (7, .int (r4 (0 : Int32).toNatClampNeg)), (9, .ref b6), (15, .int (0 : Int32))] [.int r_170.1, .int r_166.1]
                                          refine jn2_of (P := fun (z_172 : Int32) (r0_173 : Row) => G l D X 20 (WX8 ad cy 24 40 6 36 4 24 6 6 b0 b1 b2 b3 b4 b5 b6 b7) 40 276 (r_166.2, r0_173, r1, r2, r3, r4, r_1.2, r6_163, r_15) 769 [] [.int z_172, .int r_166.1]) E ?_ ?_
                                          · intro z_172 r0_173 E
                                            show G l D X 20 (WX8 ad cy 24 40 6 36 4 24 6 6 b0 b1 b2 b3 b4 b5 b6 b7) 40 276 (r_166.2, r0_173, r1, r2, r3, r4, r_1.2, r6_163, r_15) 769 [] [.int z_172, .int r_166.1]
                                            refine g_icmp_ne (pc' := 772) O ⟨dL_same_769, rfl⟩ E (tgt := 776) (by decide) (fun E => ?_) (fun E => ?_)
                                            · refine g_iconst (pc' := 777) O ⟨dL_same_776, rfl⟩ (v := (0 : Int32)) rfl ?_
                                              obtain ⟨hn, E⟩ := ckz_of E
                                              cases E
                                              refine g_drop (wf := (WX5 ad cy 24 40 6 36 4 b0 b1 b2 b3 b4)) (h := (r_166.2, r0_173, r1, r2, r3, r4)) (List.range 40) rfl rfl (by decide) ?_
                                              exact hret _ _ _ _ _ (Nat.le_of_ble_eq_true rfl) (Nat.le_of_ble_eq_true rfl) ⟨dL_same_777, rfl⟩ hn
                                            · refine g_iconst (pc' := 773) O ⟨dL_same_772, rfl⟩ (v := (1 : Int32)) rfl ?_
                                              refine g_goto (pc' := 776) O ⟨dL_same_773, rfl⟩ (tgt := 777) (by decide) ?_
                                              obtain ⟨hn, E⟩ := ckz_of E
                                              cases E
                                              refine g_drop (wf := (WX5 ad cy 24 40 6 36 4 b0 b1 b2 b3 b4)) (h := (r_166.2, r0_173, r1, r2, r3, r4)) (List.range 40) rfl rfl (by decide) ?_
                                              exact hret _ _ _ _ _ (Nat.le_of_ble_eq_true rfl) (Nat.le_of_ble_eq_true rfl) ⟨dL_same_777, rfl⟩ hn
                                          · intro k769 hk769 E
                                            refine g_if_eq (pc' := 759) O ⟨dL_same_756, rfl⟩ E (tgt := 763) (by decide) (fun E => ?_) (fun E => ?_)
                                            · refine g_aload_n (pc' := 764) O ⟨dL_same_763, rfl⟩ (q := 3) rfl rfl ?_
                                              refine g_aload (pc' := 766) O ⟨dL_same_764, rfl⟩ (q := 4) rfl ?_
                                              obtain ⟨r_174, c_175, E⟩ := bd_of E
                                              refine g_MSi (pc' := 769) O hN ⟨dL_same_766, rfl⟩ (y := yL_finishes) (As := [.ref b0, .ref b4]) (st := [.int r_166.1]) (put := (fun g => (r_166.2, g.1, r1, r2, r3, g.2, r_1.2, r6_163, r_15))) sub_X8_A0_4 (t_L_finishes l D cy hfl b0 b4 c_175) kw_1028 kw_24 kw_1026 kw_1027 hd_L_finishes ⟨Nat.le_of_ble_eq_true rfl, Nat.le_of_ble_eq_true rfl⟩ ⟨Nat.le_of_ble_eq_true rfl, Nat.le_of_ble_eq_true rfl⟩ rfl (Nat.le_of_ble_eq_true rfl) ?_
                                              show G l D X 20 (WX8 ad cy 24 40 6 36 4 24 6 6 b0 b1 b2 b3 b4 b5 b6 b7) 40 276 (r_166.2, r_174.2, r1, r2, r3, r4, r_1.2, r6_163, r_15) 769 [(19, .int r_164), (0, .ref (ad 0)), (1, .int x1), (2, .ref b0), (6, .ref b4), (7, .int (r4 (0 : Int32).toNatClampNeg)), (9, .ref b6), (15, .int (0 : Int32))] [.int r_174.1, .int r_166.1]
                                              refine g_sub (lv' := []) [] rfl ?_
                                              exact hk769 _ _ E
                                            · refine g_iconst (pc' := 760) O ⟨dL_same_759, rfl⟩ (v := (0 : Int32)) rfl ?_
                                              refine g_goto (pc' := 763) O ⟨dL_same_760, rfl⟩ (tgt := 769) (by decide) ?_
                                              refine g_sub (lv' := []) [] rfl ?_
                                              exact hk769 _ _ E
                                    · refine g_aload_n (pc' := 714) O ⟨dL_same_713, rfl⟩ (q := 1) rfl rfl ?_
                                      refine g_aload (pc' := 716) O ⟨dL_same_714, rfl⟩ (q := 6) rfl ?_
                                      refine g_aload_n (pc' := 717) O ⟨dL_same_716, rfl⟩ (q := 3) rfl rfl ?_
                                      refine g_aload (pc' := 719) O ⟨dL_same_717, rfl⟩ (q := 4) rfl ?_
                                      obtain ⟨r_176, c_177, E⟩ := bd_of E
                                      refine g_MSi (pc' := 722) O hN ⟨dL_same_719, rfl⟩ (y := yL_switches) (As := [.ref (ad 0), .ref b6, .ref b0, .ref b4]) (st := []) (put := (fun g => (g.1, g.2.2.1, r1, r2, r3, g.2.2.2, r_1.2, g.2.1, r_15))) sub_X8_X6_0_4 (t_L_switches l D ad cy hfl b6 b0 b4 c_177) kw_979 kw_24 kw_977 kw_978 hd_L_switches ⟨Nat.le_of_ble_eq_true rfl, Nat.le_of_ble_eq_true rfl⟩ ⟨Nat.le_of_ble_eq_true rfl, Nat.le_of_ble_eq_true rfl⟩ rfl (Nat.le_of_ble_eq_true rfl) ?_
                                      show G l D X 20 (WX8 ad cy 24 40 6 36 4 24 6 6 b0 b1 b2 b3 b4 b5 b6 b7) 68 444 (r_176.2, r0, r1, r2, r3, r4, r_1.2, r6_163, r_15) 722 [(19, .int r_164), (0, .ref (ad 0)), (1, .int x1), (2, .ref b0), (6, .ref b4), (7, .int (r4 (0 : Int32).toNatClampNeg)), (9, .ref b6), (15, .int (0 : Int32))] [.int r_176.1]
                                      refine g_if_eq (pc' := 725) O ⟨dL_same_722, rfl⟩ E (tgt := 776) (by decide) (fun E => ?_) (fun E => ?_)
                                      · refine g_iconst (pc' := 777) O ⟨dL_same_776, rfl⟩ (v := (0 : Int32)) rfl ?_
                                        obtain ⟨hn, E⟩ := ckz_of E
                                        cases E
                                        refine g_drop (wf := (WX5 ad cy 24 40 6 36 4 b0 b1 b2 b3 b4)) (h := (r_176.2, r0, r1, r2, r3, r4)) (List.range 40) rfl rfl (by decide) ?_
                                        exact hret _ _ _ _ _ (Nat.le_of_ble_eq_true rfl) (Nat.le_of_ble_eq_true rfl) ⟨dL_same_777, rfl⟩ hn
                                      · refine g_goto (pc' := 728) O ⟨dL_same_725, rfl⟩ (tgt := 772) (by decide) ?_
                                        refine g_iconst (pc' := 773) O ⟨dL_same_772, rfl⟩ (v := (1 : Int32)) rfl ?_
                                        refine g_goto (pc' := 776) O ⟨dL_same_773, rfl⟩ (tgt := 777) (by decide) ?_
                                        obtain ⟨hn, E⟩ := ckz_of E
                                        cases E
                                        refine g_drop (wf := (WX5 ad cy 24 40 6 36 4 b0 b1 b2 b3 b4)) (h := (r_176.2, r0, r1, r2, r3, r4)) (List.range 40) rfl rfl (by decide) ?_
                                        exact hret _ _ _ _ _ (Nat.le_of_ble_eq_true rfl) (Nat.le_of_ble_eq_true rfl) ⟨dL_same_777, rfl⟩ hn
                                  · refine g_aload_n (pc' := 686) O ⟨dL_same_685, rfl⟩ (q := 1) rfl rfl ?_
                                    refine g_iload_n (pc' := 687) O ⟨dL_same_686, rfl⟩ (q := 2) rfl rfl ?_
                                    refine g_bipush (pc' := 689) O ⟨dL_same_687, rfl⟩ (v := (6 : Int32)) rfl ?_
                                    refine g_ishr (pc' := 690) O ⟨dL_same_689, rfl⟩ ?_
                                    refine g_iconst (pc' := 691) O ⟨dL_same_690, rfl⟩ (v := (4 : Int32)) rfl ?_
                                    obtain ⟨r_178, c_179, E⟩ := bd_of E
                                    refine g_MSi (pc' := 694) O hN ⟨dL_same_691, rfl⟩ (y := yL_low) (As := [.int (ishr x1 (6 : Int32)), .int (4 : Int32)]) (st := [.ref (ad 0)]) (put := (fun g => (r_92.2, r0, r1, r2, r3, r4, r_1.2, r6_163, r_15))) sub_X8_A (t_L_low l D cy hfl c_179) kw_408 kw_24 kw_406 kw_407 hd_L_low ⟨Nat.le_of_ble_eq_true rfl, Nat.le_of_ble_eq_true rfl⟩ ⟨Nat.le_of_ble_eq_true rfl, Nat.le_of_ble_eq_true rfl⟩ rfl (Nat.le_of_ble_eq_true rfl) ?_
                                    show G l D X 20 (WX8 ad cy 24 40 6 36 4 24 6 6 b0 b1 b2 b3 b4 b5 b6 b7) 39 270 (r_92.2, r0, r1, r2, r3, r4, r_1.2, r6_163, r_15) 694 [(19, .int r_164), (0, .ref (ad 0)), (1, .int x1), (2, .ref b0), (6, .ref b4), (7, .int (r4 (0 : Int32).toNatClampNeg)), (9, .ref b6), (15, .int (0 : Int32))] [.int r_178, .ref (ad 0)]
                                    refine g_aload (pc' := 696) O ⟨dL_same_694, rfl⟩ (q := 6) rfl ?_
                                    refine g_aload (pc' := 698) O ⟨dL_same_696, rfl⟩ (q := 4) rfl ?_
                                    obtain ⟨r_180, c_181, E⟩ := bd_of E
                                    refine g_MSi (pc' := 701) O hN ⟨dL_same_698, rfl⟩ (y := yL_orders) (As := [.ref (ad 0), .int r_178, .ref b6, .ref b4]) (st := []) (put := (fun g => (g.1, r0, r1, r2, r3, g.2.2, r_1.2, g.2.1, r_15))) sub_X8_X6_4 (t_L_orders l D ad cy hfl b6 b4 c_181) kw_874 kw_24 kw_872 kw_873 hd_L_orders ⟨Nat.le_of_ble_eq_true rfl, Nat.le_of_ble_eq_true rfl⟩ ⟨Nat.le_of_ble_eq_true rfl, Nat.le_of_ble_eq_true rfl⟩ rfl (Nat.le_of_ble_eq_true rfl) ?_
                                    show G l D X 20 (WX8 ad cy 24 40 6 36 4 24 6 6 b0 b1 b2 b3 b4 b5 b6 b7) 51 378 (r_180.2, r0, r1, r2, r3, r4, r_1.2, r6_163, r_15) 701 [(19, .int r_164), (0, .ref (ad 0)), (1, .int x1), (2, .ref b0), (6, .ref b4), (7, .int (r4 (0 : Int32).toNatClampNeg)), (9, .ref b6), (15, .int (0 : Int32))] [.int r_180.1]
                                    refine g_if_eq (pc' := 704) O ⟨dL_same_701, rfl⟩ E (tgt := 776) (by decide) (fun E => ?_) (fun E => ?_)
                                    · refine g_iconst (pc' := 777) O ⟨dL_same_776, rfl⟩ (v := (0 : Int32)) rfl ?_
                                      obtain ⟨hn, E⟩ := ckz_of E
                                      cases E
                                      refine g_drop (wf := (WX5 ad cy 24 40 6 36 4 b0 b1 b2 b3 b4)) (h := (r_180.2, r0, r1, r2, r3, r4)) (List.range 40) rfl rfl (by decide) ?_
                                      exact hret _ _ _ _ _ (Nat.le_of_ble_eq_true rfl) (Nat.le_of_ble_eq_true rfl) ⟨dL_same_777, rfl⟩ hn
                                    · refine g_goto (pc' := 707) O ⟨dL_same_704, rfl⟩ (tgt := 772) (by decide) ?_
                                      refine g_iconst (pc' := 773) O ⟨dL_same_772, rfl⟩ (v := (1 : Int32)) rfl ?_
                                      refine g_goto (pc' := 776) O ⟨dL_same_773, rfl⟩ (tgt := 777) (by decide) ?_
                                      obtain ⟨hn, E⟩ := ckz_of E
                                      cases E
                                      refine g_drop (wf := (WX5 ad cy 24 40 6 36 4 b0 b1 b2 b3 b4)) (h := (r_180.2, r0, r1, r2, r3, r4)) (List.range 40) rfl rfl (by decide) ?_
                                      exact hret _ _ _ _ _ (Nat.le_of_ble_eq_true rfl) (Nat.le_of_ble_eq_true rfl) ⟨dL_same_777, rfl⟩ hn
                                · refine g_aload_n (pc' := 666) O ⟨dL_same_665, rfl⟩ (q := 1) rfl rfl ?_
                                  refine g_iload_n (pc' := 667) O ⟨dL_same_666, rfl⟩ (q := 2) rfl rfl ?_
                                  refine g_aload_n (pc' := 668) O ⟨dL_same_667, rfl⟩ (q := 3) rfl rfl ?_
                                  refine g_aload (pc' := 670) O ⟨dL_same_668, rfl⟩ (q := 4) rfl ?_
                                  obtain ⟨r_182, c_183, E⟩ := bd_of E
                                  refine g_MSi (pc' := 673) O hN ⟨dL_same_670, rfl⟩ (y := yL_faults) (As := [.ref (ad 0), .int x1, .ref b0, .ref b4]) (st := []) (put := (fun g => (g.1, g.2.1, r1, r2, r3, g.2.2, r_1.2, r6_163, r_15))) sub_X8_X0_4 (t_L_faults l D ad cy hfl b0 b4 c_183) kw_805 kw_24 kw_803 kw_804 hd_L_faults ⟨Nat.le_of_ble_eq_true rfl, Nat.le_of_ble_eq_true rfl⟩ ⟨Nat.le_of_ble_eq_true rfl, Nat.le_of_ble_eq_true rfl⟩ rfl (Nat.le_of_ble_eq_true rfl) ?_
                                  show G l D X 20 (WX8 ad cy 24 40 6 36 4 24 6 6 b0 b1 b2 b3 b4 b5 b6 b7) 43 294 (r_182.2, r0, r1, r2, r3, r4, r_1.2, r6_163, r_15) 673 [(19, .int r_164), (0, .ref (ad 0)), (1, .int x1), (2, .ref b0), (6, .ref b4), (7, .int (r4 (0 : Int32).toNatClampNeg)), (9, .ref b6), (15, .int (0 : Int32))] [.int r_182.1]
                                  refine g_if_eq (pc' := 676) O ⟨dL_same_673, rfl⟩ E (tgt := 776) (by decide) (fun E => ?_) (fun E => ?_)
                                  · refine g_iconst (pc' := 777) O ⟨dL_same_776, rfl⟩ (v := (0 : Int32)) rfl ?_
                                    obtain ⟨hn, E⟩ := ckz_of E
                                    cases E
                                    refine g_drop (wf := (WX5 ad cy 24 40 6 36 4 b0 b1 b2 b3 b4)) (h := (r_182.2, r0, r1, r2, r3, r4)) (List.range 40) rfl rfl (by decide) ?_
                                    exact hret _ _ _ _ _ (Nat.le_of_ble_eq_true rfl) (Nat.le_of_ble_eq_true rfl) ⟨dL_same_777, rfl⟩ hn
                                  · refine g_goto (pc' := 679) O ⟨dL_same_676, rfl⟩ (tgt := 772) (by decide) ?_
                                    refine g_iconst (pc' := 773) O ⟨dL_same_772, rfl⟩ (v := (1 : Int32)) rfl ?_
                                    refine g_goto (pc' := 776) O ⟨dL_same_773, rfl⟩ (tgt := 777) (by decide) ?_
                                    obtain ⟨hn, E⟩ := ckz_of E
                                    cases E
                                    refine g_drop (wf := (WX5 ad cy 24 40 6 36 4 b0 b1 b2 b3 b4)) (h := (r_182.2, r0, r1, r2, r3, r4)) (List.range 40) rfl rfl (by decide) ?_
                                    exact hret _ _ _ _ _ (Nat.le_of_ble_eq_true rfl) (Nat.le_of_ble_eq_true rfl) ⟨dL_same_777, rfl⟩ hn
                              · refine g_aload_n (pc' := 644) O ⟨dL_same_643, rfl⟩ (q := 1) rfl rfl ?_
                                refine g_iload_n (pc' := 645) O ⟨dL_same_644, rfl⟩ (q := 2) rfl rfl ?_
                                refine g_aload (pc' := 647) O ⟨dL_same_645, rfl⟩ (q := 6) rfl ?_
                                refine g_aload_n (pc' := 648) O ⟨dL_same_647, rfl⟩ (q := 3) rfl rfl ?_
                                refine g_aload (pc' := 650) O ⟨dL_same_648, rfl⟩ (q := 4) rfl ?_
                                obtain ⟨r_184, c_185, E⟩ := bd_of E
                                refine g_MSi (pc' := 653) O hN ⟨dL_same_650, rfl⟩ (y := yL_rows) (As := [.ref (ad 0), .int x1, .ref b6, .ref b0, .ref b4]) (st := []) (put := (fun g => (g.1, g.2.2.1, r1, r2, r3, g.2.2.2, r_1.2, g.2.1, r_15))) sub_X8_X6_0_4 (t_L_rows l D ad cy hfl b6 b0 b4 c_185) kw_714 kw_24 kw_712 kw_713 hd_L_rows ⟨Nat.le_of_ble_eq_true rfl, Nat.le_of_ble_eq_true rfl⟩ ⟨Nat.le_of_ble_eq_true rfl, Nat.le_of_ble_eq_true rfl⟩ rfl (Nat.le_of_ble_eq_true rfl) ?_
                                show G l D X 20 (WX8 ad cy 24 40 6 36 4 24 6 6 b0 b1 b2 b3 b4 b5 b6 b7) 45 306 (r_184.2, r0, r1, r2, r3, r4, r_1.2, r6_163, r_15) 653 [(19, .int r_164), (0, .ref (ad 0)), (1, .int x1), (2, .ref b0), (6, .ref b4), (7, .int (r4 (0 : Int32).toNatClampNeg)), (9, .ref b6), (15, .int (0 : Int32))] [.int r_184.1]
                                refine g_if_eq (pc' := 656) O ⟨dL_same_653, rfl⟩ E (tgt := 776) (by decide) (fun E => ?_) (fun E => ?_)
                                · refine g_iconst (pc' := 777) O ⟨dL_same_776, rfl⟩ (v := (0 : Int32)) rfl ?_
                                  obtain ⟨hn, E⟩ := ckz_of E
                                  cases E
                                  refine g_drop (wf := (WX5 ad cy 24 40 6 36 4 b0 b1 b2 b3 b4)) (h := (r_184.2, r0, r1, r2, r3, r4)) (List.range 40) rfl rfl (by decide) ?_
                                  exact hret _ _ _ _ _ (Nat.le_of_ble_eq_true rfl) (Nat.le_of_ble_eq_true rfl) ⟨dL_same_777, rfl⟩ hn
                                · refine g_goto (pc' := 659) O ⟨dL_same_656, rfl⟩ (tgt := 772) (by decide) ?_
                                  refine g_iconst (pc' := 773) O ⟨dL_same_772, rfl⟩ (v := (1 : Int32)) rfl ?_
                                  refine g_goto (pc' := 776) O ⟨dL_same_773, rfl⟩ (tgt := 777) (by decide) ?_
                                  obtain ⟨hn, E⟩ := ckz_of E
                                  cases E
                                  refine g_drop (wf := (WX5 ad cy 24 40 6 36 4 b0 b1 b2 b3 b4)) (h := (r_184.2, r0, r1, r2, r3, r4)) (List.range 40) rfl rfl (by decide) ?_
                                  exact hret _ _ _ _ _ (Nat.le_of_ble_eq_true rfl) (Nat.le_of_ble_eq_true rfl) ⟨dL_same_777, rfl⟩ hn
                          · intro k624 hk624 E
                            refine g_sub (lv' := [(0, .ref (ad 0)), (1, .int x1), (2, .ref b0), (6, .ref b4), (7, .int (r4 (0 : Int32).toNatClampNeg)), (9, .ref b6), (15, .int (0 : Int32)), (19, .int r_161)]) [1, 2, 3, 4, 5, 6, 7, 0] rfl ?_
                            refine fx2_of (P := fun (x19_186 : Int32) (r6_187 : Row) => G l D X 20 (WX8 ad cy 24 40 6 36 4 24 6 6 b0 b1 b2 b3 b4 b5 b6 b7) 39 270 (r_92.2, r0, r1, r2, r3, r4, r_1.2, r6_187, r_15) 605 [(0, .ref (ad 0)), (1, .int x1), (2, .ref b0), (6, .ref b4), (7, .int (r4 (0 : Int32).toNatClampNeg)), (9, .ref b6), (15, .int (0 : Int32)), (19, .int x19_186)] []) ?_ _ _ _ E
                            intro self ih605 x19_186 r6_187 E
                            show G l D X 20 (WX8 ad cy 24 40 6 36 4 24 6 6 b0 b1 b2 b3 b4 b5 b6 b7) 39 270 (r_92.2, r0, r1, r2, r3, r4, r_1.2, r6_187, r_15) 605 [(0, .ref (ad 0)), (1, .int x1), (2, .ref b0), (6, .ref b4), (7, .int (r4 (0 : Int32).toNatClampNeg)), (9, .ref b6), (15, .int (0 : Int32)), (19, .int x19_186)] []
                            unfold L_L_same_605 at E
                            refine g_iload (pc' := 607) O ⟨dL_same_605, rfl⟩ (q := 7) rfl ?_
                            refine g_if_le (pc' := 610) O ⟨dL_same_607, rfl⟩ E (tgt := 624) (by decide) (fun E => ?_) (fun E => ?_)
                            · refine g_sub (lv' := [(0, .ref (ad 0)), (1, .int x1), (2, .ref b0), (6, .ref b4), (7, .int (r4 (0 : Int32).toNatClampNeg)), (9, .ref b6), (15, .int (0 : Int32))]) [0, 1, 2, 3, 4, 5, 6] rfl ?_
                              exact hk624 _ E
                            · refine g_aload (pc' := 612) O ⟨dL_same_610, rfl⟩ (q := 5) rfl ?_
                              refine g_iload (pc' := 614) O ⟨dL_same_612, rfl⟩ (q := 4) rfl ?_
                              obtain ⟨r_188, c_189, E⟩ := bd_of E
                              refine g_MSi (pc' := 617) O hN ⟨dL_same_614, rfl⟩ (y := yL_next) (As := [.ref b6, .int (r4 (0 : Int32).toNatClampNeg)]) (st := []) (put := (fun g => (r_92.2, r0, r1, r2, r3, r4, r_1.2, g, r_15))) sub_X8_A6 (t_L_next l D cy hfl b6 c_189) kw_553 kw_24 kw_551 kw_552 hd_L_next ⟨Nat.le_of_ble_eq_true rfl, Nat.le_of_ble_eq_true rfl⟩ ⟨Nat.le_of_ble_eq_true rfl, Nat.le_of_ble_eq_true rfl⟩ rfl (Nat.le_of_ble_eq_true rfl) ?_
                              show G l D X 20 (WX8 ad cy 24 40 6 36 4 24 6 6 b0 b1 b2 b3 b4 b5 b6 b7) 39 270 (r_92.2, r0, r1, r2, r3, r4, r_1.2, r_188.2, r_15) 617 [(0, .ref (ad 0)), (1, .int x1), (2, .ref b0), (6, .ref b4), (7, .int (r4 (0 : Int32).toNatClampNeg)), (9, .ref b6), (15, .int (0 : Int32)), (19, .int x19_186)] [.int r_188.1]
                              refine g_pop (pc' := 618) O ⟨dL_same_617, rfl⟩ rfl ?_
                              refine g_iinc (pc' := 621) O ⟨dL_same_618, rfl⟩ (q := 7) (v := x19_186 + (-1 : Int32)) (lv' := [(19, .int (x19_186 + (-1 : Int32))), (0, .ref (ad 0)), (1, .int x1), (2, .ref b0), (6, .ref b4), (7, .int (r4 (0 : Int32).toNatClampNeg)), (9, .ref b6), (15, .int (0 : Int32))]) rfl rfl (by decide) rfl ?_
                              refine g_goto (pc' := 624) O ⟨dL_same_621, rfl⟩ (tgt := 605) (by decide) ?_
                              refine g_sub (lv' := [(0, .ref (ad 0)), (1, .int x1), (2, .ref b0), (6, .ref b4), (7, .int (r4 (0 : Int32).toNatClampNeg)), (9, .ref b6), (15, .int (0 : Int32)), (19, .int (x19_186 + (-1 : Int32)))]) [1, 2, 3, 4, 5, 6, 7, 0] rfl ?_
                              exact ih605 _ _ E
                        · intro k595 hk595 E
                          refine g_sub (lv' := [(0, .ref (ad 0)), (1, .int x1), (2, .ref b0), (6, .ref b4), (7, .int (r4 (0 : Int32).toNatClampNeg)), (9, .ref b6), (15, .int (0 : Int32)), (19, .int (0 : Int32))]) [4, 5, 6, 8, 9, 10, 1, 0] rfl ?_
                          refine fx2_of (P := fun (x19_190 : Int32) (r6_191 : Row) => G l D X 20 (WX8 ad cy 24 40 6 36 4 24 6 6 b0 b1 b2 b3 b4 b5 b6 b7) 39 270 (r_92.2, r0, r1, r2, r3, r4, r_1.2, r6_191, r_15) 575 [(0, .ref (ad 0)), (1, .int x1), (2, .ref b0), (6, .ref b4), (7, .int (r4 (0 : Int32).toNatClampNeg)), (9, .ref b6), (15, .int (0 : Int32)), (19, .int x19_190)] []) ?_ _ _ _ E
                          intro self ih575 x19_190 r6_191 E
                          show G l D X 20 (WX8 ad cy 24 40 6 36 4 24 6 6 b0 b1 b2 b3 b4 b5 b6 b7) 39 270 (r_92.2, r0, r1, r2, r3, r4, r_1.2, r6_191, r_15) 575 [(0, .ref (ad 0)), (1, .int x1), (2, .ref b0), (6, .ref b4), (7, .int (r4 (0 : Int32).toNatClampNeg)), (9, .ref b6), (15, .int (0 : Int32)), (19, .int x19_190)] []
                          unfold L_L_same_575 at E
                          refine g_iload (pc' := 577) O ⟨dL_same_575, rfl⟩ (q := 7) rfl ?_
                          refine g_iload (pc' := 579) O ⟨dL_same_577, rfl⟩ (q := 4) rfl ?_
                          refine g_icmp_ge (pc' := 582) O ⟨dL_same_579, rfl⟩ E (tgt := 595) (by decide) (fun E => ?_) (fun E => ?_)
                          · refine g_sub (lv' := [(0, .ref (ad 0)), (1, .int x1), (2, .ref b0), (6, .ref b4), (7, .int (r4 (0 : Int32).toNatClampNeg)), (9, .ref b6), (15, .int (0 : Int32))]) [0, 1, 2, 3, 4, 5, 6] rfl ?_
                            exact hk595 _ E
                          · refine g_aload (pc' := 584) O ⟨dL_same_582, rfl⟩ (q := 5) rfl ?_
                            refine g_iload (pc' := 586) O ⟨dL_same_584, rfl⟩ (q := 7) rfl ?_
                            refine g_iload (pc' := 588) O ⟨dL_same_586, rfl⟩ (q := 7) rfl ?_
                            refine g_iast (pc' := 589) O ⟨dL_same_588, rfl⟩ zX8_6 zsX8_6 E (fun E => ?_)
                            refine g_nmr (Go := fun (r6_192 : Row) => G l D X 20 (WX8 ad cy 24 40 6 36 4 24 6 6 b0 b1 b2 b3 b4 b5 b6 b7) 39 270 (r_92.2, r0, r1, r2, r3, r4, r_1.2, r6_192, r_15) 589 [(0, .ref (ad 0)), (1, .int x1), (2, .ref b0), (6, .ref b4), (7, .int (r4 (0 : Int32).toNatClampNeg)), (9, .ref b6), (15, .int (0 : Int32)), (19, .int x19_190)] []) E (fun r6_192 E => ?_)
                            show G l D X 20 (WX8 ad cy 24 40 6 36 4 24 6 6 b0 b1 b2 b3 b4 b5 b6 b7) 39 270 (r_92.2, r0, r1, r2, r3, r4, r_1.2, r6_192, r_15) 589 [(0, .ref (ad 0)), (1, .int x1), (2, .ref b0), (6, .ref b4), (7, .int (r4 (0 : Int32).toNatClampNeg)), (9, .ref b6), (15, .int (0 : Int32)), (19, .int x19_190)] []
                            refine g_iinc (pc' := 592) O ⟨dL_same_589, rfl⟩ (q := 7) (v := x19_190 + (1 : Int32)) (lv' := [(19, .int (x19_190 + (1 : Int32))), (0, .ref (ad 0)), (1, .int x1), (2, .ref b0), (6, .ref b4), (7, .int (r4 (0 : Int32).toNatClampNeg)), (9, .ref b6), (15, .int (0 : Int32))]) rfl rfl (by decide) rfl ?_
                            refine g_goto (pc' := 595) O ⟨dL_same_592, rfl⟩ (tgt := 575) (by decide) ?_
                            refine g_sub (lv' := [(0, .ref (ad 0)), (1, .int x1), (2, .ref b0), (6, .ref b4), (7, .int (r4 (0 : Int32).toNatClampNeg)), (9, .ref b6), (15, .int (0 : Int32)), (19, .int (x19_190 + (1 : Int32)))]) [1, 2, 3, 4, 5, 6, 7, 0] rfl ?_
                            exact ih575 _ _ E
                      · refine g_iconst (pc' := 550) O ⟨dL_same_549, rfl⟩ (v := (1 : Int32)) rfl ?_
                        refine g_iload (pc' := 552) O ⟨dL_same_550, rfl⟩ (q := 0) rfl ?_
                        refine g_ishl (pc' := 553) O ⟨dL_same_552, rfl⟩ ?_
                        refine g_iload (pc' := 555) O ⟨dL_same_553, rfl⟩ (q := 1) rfl ?_
                        refine g_icmp_lt (pc' := 558) O ⟨dL_same_555, rfl⟩ E (tgt := 569) (by decide) (fun E => ?_) (fun E => ?_)
                        · refine g_iconst (pc' := 570) O ⟨dL_same_569, rfl⟩ (v := (0 : Int32)) rfl ?_
                          refine g_istore (pc' := 572) O ⟨dL_same_570, rfl⟩ (lv' := [(15, .int (0 : Int32)), (18, .int r_22.1), (17, .int r_20), (0, .ref (ad 0)), (1, .int x1), (2, .ref b0), (5, .ref b3), (6, .ref b4), (7, .int (r4 (0 : Int32).toNatClampNeg)), (9, .ref b6), (16, .int x16_18)]) (by decide) rfl ?_
                          refine g_iconst (pc' := 573) O ⟨dL_same_572, rfl⟩ (v := (0 : Int32)) rfl ?_
                          refine g_istore (pc' := 575) O ⟨dL_same_573, rfl⟩ (lv' := [(19, .int (0 : Int32)), (15, .int (0 : Int32)), (18, .int r_22.1), (17, .int r_20), (0, .ref (ad 0)), (1, .int x1), (2, .ref b0), (5, .ref b3), (6, .ref b4), (7, .int (r4 (0 : Int32).toNatClampNeg)), (9, .ref b6), (16, .int x16_18)]) (by decide) rfl ?_
                          refine jn1_of (P := fun (r6_193 : Row) => G l D X 20 (WX8 ad cy 24 40 6 36 4 24 6 6 b0 b1 b2 b3 b4 b5 b6 b7) 39 270 (r_92.2, r0, r1, r2, r3, r4, r_1.2, r6_193, r_15) 595 [(0, .ref (ad 0)), (1, .int x1), (2, .ref b0), (6, .ref b4), (7, .int (r4 (0 : Int32).toNatClampNeg)), (9, .ref b6), (15, .int (0 : Int32))] []) E ?_ ?_
                          · intro r6_193 E
                            show G l D X 20 (WX8 ad cy 24 40 6 36 4 24 6 6 b0 b1 b2 b3 b4 b5 b6 b7) 39 270 (r_92.2, r0, r1, r2, r3, r4, r_1.2, r6_193, r_15) 595 [(0, .ref (ad 0)), (1, .int x1), (2, .ref b0), (6, .ref b4), (7, .int (r4 (0 : Int32).toNatClampNeg)), (9, .ref b6), (15, .int (0 : Int32))] []
                            refine g_iload_n (pc' := 596) O ⟨dL_same_595, rfl⟩ (q := 1) rfl rfl ?_
                            refine g_iconst (pc' := 597) O ⟨dL_same_596, rfl⟩ (v := (5 : Int32)) rfl ?_
                            refine g_ishr (pc' := 598) O ⟨dL_same_597, rfl⟩ ?_
                            refine g_bipush (pc' := 600) O ⟨dL_same_598, rfl⟩ (v := (120 : Int32)) rfl ?_
                            obtain ⟨r_194, c_195, E⟩ := bd_of E
                            refine g_MSi (pc' := 603) O hN ⟨dL_same_600, rfl⟩ (y := yL_low) (As := [.int (ishr x1 (5 : Int32)), .int (120 : Int32)]) (st := []) (put := (fun g => (r_92.2, r0, r1, r2, r3, r4, r_1.2, r6_193, r_15))) sub_X8_A (t_L_low l D cy hfl c_195) kw_408 kw_24 kw_406 kw_407 hd_L_low ⟨Nat.le_of_ble_eq_true rfl, Nat.le_of_ble_eq_true rfl⟩ ⟨Nat.le_of_ble_eq_true rfl, Nat.le_of_ble_eq_true rfl⟩ rfl (Nat.le_of_ble_eq_true rfl) ?_
                            show G l D X 20 (WX8 ad cy 24 40 6 36 4 24 6 6 b0 b1 b2 b3 b4 b5 b6 b7) 39 270 (r_92.2, r0, r1, r2, r3, r4, r_1.2, r6_193, r_15) 603 [(0, .ref (ad 0)), (1, .int x1), (2, .ref b0), (6, .ref b4), (7, .int (r4 (0 : Int32).toNatClampNeg)), (9, .ref b6), (15, .int (0 : Int32))] [.int r_194]
                            refine g_istore (pc' := 605) O ⟨dL_same_603, rfl⟩ (lv' := [(19, .int r_194), (0, .ref (ad 0)), (1, .int x1), (2, .ref b0), (6, .ref b4), (7, .int (r4 (0 : Int32).toNatClampNeg)), (9, .ref b6), (15, .int (0 : Int32))]) (by decide) rfl ?_
                            refine jn1_of (P := fun (r6_196 : Row) => G l D X 20 (WX8 ad cy 24 40 6 36 4 24 6 6 b0 b1 b2 b3 b4 b5 b6 b7) 39 270 (r_92.2, r0, r1, r2, r3, r4, r_1.2, r6_196, r_15) 624 [(0, .ref (ad 0)), (1, .int x1), (2, .ref b0), (6, .ref b4), (7, .int (r4 (0 : Int32).toNatClampNeg)), (9, .ref b6), (15, .int (0 : Int32))] []) E ?_ ?_
                            · intro r6_196 E
                              show G l D X 20 (WX8 ad cy 24 40 6 36 4 24 6 6 b0 b1 b2 b3 b4 b5 b6 b7) 39 270 (r_92.2, r0, r1, r2, r3, r4, r_1.2, r6_196, r_15) 624 [(0, .ref (ad 0)), (1, .int x1), (2, .ref b0), (6, .ref b4), (7, .int (r4 (0 : Int32).toNatClampNeg)), (9, .ref b6), (15, .int (0 : Int32))] []
                              refine g_iload_n (pc' := 625) O ⟨dL_same_624, rfl⟩ (q := 1) rfl rfl ?_
                              refine g_iconst (pc' := 626) O ⟨dL_same_625, rfl⟩ (v := (3 : Int32)) rfl ?_
                              refine g_ishr (pc' := 627) O ⟨dL_same_626, rfl⟩ ?_
                              refine g_iconst (pc' := 628) O ⟨dL_same_627, rfl⟩ (v := (5 : Int32)) rfl ?_
                              obtain ⟨r_197, c_198, E⟩ := bd_of E
                              refine g_MSi (pc' := 631) O hN ⟨dL_same_628, rfl⟩ (y := yL_low) (As := [.int (ishr x1 (3 : Int32)), .int (5 : Int32)]) (st := []) (put := (fun g => (r_92.2, r0, r1, r2, r3, r4, r_1.2, r6_196, r_15))) sub_X8_A (t_L_low l D cy hfl c_198) kw_408 kw_24 kw_406 kw_407 hd_L_low ⟨Nat.le_of_ble_eq_true rfl, Nat.le_of_ble_eq_true rfl⟩ ⟨Nat.le_of_ble_eq_true rfl, Nat.le_of_ble_eq_true rfl⟩ rfl (Nat.le_of_ble_eq_true rfl) ?_
                              show G l D X 20 (WX8 ad cy 24 40 6 36 4 24 6 6 b0 b1 b2 b3 b4 b5 b6 b7) 39 270 (r_92.2, r0, r1, r2, r3, r4, r_1.2, r6_196, r_15) 631 [(0, .ref (ad 0)), (1, .int x1), (2, .ref b0), (6, .ref b4), (7, .int (r4 (0 : Int32).toNatClampNeg)), (9, .ref b6), (15, .int (0 : Int32))] [.int r_197]
                              refine g_istore (pc' := 633) O ⟨dL_same_631, rfl⟩ (lv' := [(19, .int r_197), (0, .ref (ad 0)), (1, .int x1), (2, .ref b0), (6, .ref b4), (7, .int (r4 (0 : Int32).toNatClampNeg)), (9, .ref b6), (15, .int (0 : Int32))]) (by decide) rfl ?_
                              refine g_iload (pc' := 635) O ⟨dL_same_633, rfl⟩ (q := 7) rfl ?_
                              refine g_if_eq (pc' := 638) O ⟨dL_same_635, rfl⟩ E (tgt := 776) (by decide) (fun E => ?_) (fun E => ?_)
                              · refine g_iconst (pc' := 777) O ⟨dL_same_776, rfl⟩ (v := (0 : Int32)) rfl ?_
                                obtain ⟨hn, E⟩ := ckz_of E
                                cases E
                                refine g_drop (wf := (WX5 ad cy 24 40 6 36 4 b0 b1 b2 b3 b4)) (h := (r_92.2, r0, r1, r2, r3, r4)) (List.range 40) rfl rfl (by decide) ?_
                                exact hret _ _ _ _ _ (Nat.le_of_ble_eq_true rfl) (Nat.le_of_ble_eq_true rfl) ⟨dL_same_777, rfl⟩ hn
                              · refine g_iload (pc' := 640) O ⟨dL_same_638, rfl⟩ (q := 0) rfl ?_
                                refine g_if_ne (pc' := 643) O ⟨dL_same_640, rfl⟩ E (tgt := 659) (by decide) (fun E => ?_) (fun E => ?_)
                                · refine g_iload (pc' := 661) O ⟨dL_same_659, rfl⟩ (q := 0) rfl ?_
                                  refine g_iconst (pc' := 662) O ⟨dL_same_661, rfl⟩ (v := (1 : Int32)) rfl ?_
                                  refine g_icmp_ne (pc' := 665) O ⟨dL_same_662, rfl⟩ E (tgt := 679) (by decide) (fun E => ?_) (fun E => ?_)
                                  · refine g_iload (pc' := 681) O ⟨dL_same_679, rfl⟩ (q := 0) rfl ?_
                                    refine g_iconst (pc' := 682) O ⟨dL_same_681, rfl⟩ (v := (2 : Int32)) rfl ?_
                                    refine g_icmp_ne (pc' := 685) O ⟨dL_same_682, rfl⟩ E (tgt := 707) (by decide) (fun E => ?_) (fun E => ?_)
                                    · refine g_iload (pc' := 709) O ⟨dL_same_707, rfl⟩ (q := 0) rfl ?_
                                      refine g_iconst (pc' := 710) O ⟨dL_same_709, rfl⟩ (v := (3 : Int32)) rfl ?_
                                      refine g_icmp_ne (pc' := 713) O ⟨dL_same_710, rfl⟩ E (tgt := 728) (by decide) (fun E => ?_) (fun E => ?_)
                                      · refine g_iload (pc' := 730) O ⟨dL_same_728, rfl⟩ (q := 5) rfl ?_
                                        refine g_iconst (pc' := 731) O ⟨dL_same_730, rfl⟩ (v := (4 : Int32)) rfl ?_
                                        refine g_icmp_gt (pc' := 734) O ⟨dL_same_731, rfl⟩ E (tgt := 772) (by decide) (fun E => ?_) (fun E => ?_)
                                        · refine g_iconst (pc' := 773) O ⟨dL_same_772, rfl⟩ (v := (1 : Int32)) rfl ?_
                                          refine g_goto (pc' := 776) O ⟨dL_same_773, rfl⟩ (tgt := 777) (by decide) ?_
                                          obtain ⟨hn, E⟩ := ckz_of E
                                          cases E
                                          refine g_drop (wf := (WX5 ad cy 24 40 6 36 4 b0 b1 b2 b3 b4)) (h := (r_92.2, r0, r1, r2, r3, r4)) (List.range 40) rfl rfl (by decide) ?_
                                          exact hret _ _ _ _ _ (Nat.le_of_ble_eq_true rfl) (Nat.le_of_ble_eq_true rfl) ⟨dL_same_777, rfl⟩ hn
                                        · refine g_aload (pc' := 736) O ⟨dL_same_734, rfl⟩ (q := 4) rfl ?_
                                          refine g_iconst (pc' := 737) O ⟨dL_same_736, rfl⟩ (v := (1 : Int32)) rfl ?_
                                          refine g_iald (pc' := 738) O ⟨dL_same_737, rfl⟩ zX8_4 E (fun E => ?_)
                                          refine g_bipush (pc' := 740) O ⟨dL_same_738, rfl⟩ (v := (22 : Int32)) rfl ?_
                                          refine g_icmp_gt (pc' := 743) O ⟨dL_same_740, rfl⟩ E (tgt := 772) (by decide) (fun E => ?_) (fun E => ?_)
                                          · refine g_iconst (pc' := 773) O ⟨dL_same_772, rfl⟩ (v := (1 : Int32)) rfl ?_
                                            refine g_goto (pc' := 776) O ⟨dL_same_773, rfl⟩ (tgt := 777) (by decide) ?_
                                            obtain ⟨hn, E⟩ := ckz_of E
                                            cases E
                                            refine g_drop (wf := (WX5 ad cy 24 40 6 36 4 b0 b1 b2 b3 b4)) (h := (r_92.2, r0, r1, r2, r3, r4)) (List.range 40) rfl rfl (by decide) ?_
                                            exact hret _ _ _ _ _ (Nat.le_of_ble_eq_true rfl) (Nat.le_of_ble_eq_true rfl) ⟨dL_same_777, rfl⟩ hn
                                          · refine g_aload_n (pc' := 744) O ⟨dL_same_743, rfl⟩ (q := 1) rfl rfl ?_
                                            refine g_iconst (pc' := 745) O ⟨dL_same_744, rfl⟩ (v := (2 : Int32)) rfl ?_
                                            obtain ⟨z_202, c_200, e_201, E⟩ := hcatch_of E
                                            refine g_UXi (pc' := 748) O ⟨dL_same_745, rfl⟩ (y := yX10_finishes) (As := [.int (2 : Int32)]) (st := []) (put := (fun g => (g, r0, r1, r2, r3, r4, r_1.2, r6_196, r_15))) sub_X8_X (t_X10_finishes l D ad cy hfl (h := r_92.2) c_200) kw_1014 kw_25 kw_1011 kw_1012 kw_1013 rfl zX8_x hd_X10_finishes ⟨Nat.le_of_ble_eq_true rfl, Nat.le_of_ble_eq_true rfl⟩ ⟨Nat.le_of_ble_eq_true rfl, Nat.le_of_ble_eq_true rfl⟩ rfl (Nat.le_of_ble_eq_true rfl) (fun E1 c q => (by cases e_201 E1 c q)) (fun r_199 q => ?_)
                                            replace E := E r_199 q
                                            show G l D X 20 (WX8 ad cy 24 40 6 36 4 24 6 6 b0 b1 b2 b3 b4 b5 b6 b7) 40 276 (r_199.2, r0, r1, r2, r3, r4, r_1.2, r6_196, r_15) 748 [(19, .int r_197), (0, .ref (ad 0)), (1, .int x1), (2, .ref b0), (6, .ref b4), (7, .int (r4 (0 : Int32).toNatClampNeg)), (9, .ref b6), (15, .int (0 : Int32))] [.int r_199.1]
                                            refine g_iconst (pc' := 749) O ⟨dL_same_748, rfl⟩ (v := (-1 : Int32)) rfl ?_
                                            refine g_iconst (pc' := 750) O ⟨dL_same_749, rfl⟩ (v := (-1 : Int32)) rfl ?_
                                            refine g_aload_n (pc' := 751) O ⟨dL_same_750, rfl⟩ (q := 3) rfl rfl ?_
                                            refine g_aload (pc' := 753) O ⟨dL_same_751, rfl⟩ (q := 4) rfl ?_
                                            obtain ⟨r_203, c_204, E⟩ := bd_of E
                                            refine g_MSi (pc' := 756) O hN ⟨dL_same_753, rfl⟩ (y := yL_done) (As := [.int (-1 : Int32), .int (-1 : Int32), .ref b0, .ref b4]) (st := [.int r_199.1]) (put := (fun g => (r_199.2, g.1, r1, r2, r3, g.2, r_1.2, r6_196, r_15))) sub_X8_A0_4 (t_L_done l D cy hfl b0 b4 c_204) kw_1025 kw_24 kw_1023 kw_1024 hd_L_done ⟨Nat.le_of_ble_eq_true rfl, Nat.le_of_ble_eq_true rfl⟩ ⟨Nat.le_of_ble_eq_true rfl, Nat.le_of_ble_eq_true rfl⟩ rfl (Nat.le_of_ble_eq_true rfl) ?_
                                            show G l D X 20 (WX8 ad cy 24 40 6 36 4 24 6 6 b0 b1 b2 b3 b4 b5 b6 b7) 40 276 (r_199.2, r_203.2, r1, r2, r3, r4, r_1.2, r6_196, r_15) 756 [(19, .int r_197), (0, .ref (ad 0)), (1, .int x1), (2, .ref b0), (6, .ref b4), (7, .int (r4 (0 : Int32).toNatClampNeg)), (9, .ref b6), (15, .int (0 : Int32))] [.int r_203.1, .int r_199.1]
                                            refine jn2_of (P := fun (z_205 : Int32) (r0_206 : Row) => G l D X 20 (WX8 ad cy 24 40 6 36 4 24 6 6 b0 b1 b2 b3 b4 b5 b6 b7) 40 276 (r_199.2, r0_206, r1, r2, r3, r4, r_1.2, r6_196, r_15) 769 [] [.int z_205, .int r_199.1]) E ?_ ?_
                                            · intro z_205 r0_206 E
                                              show G l D X 20 (WX8 ad cy 24 40 6 36 4 24 6 6 b0 b1 b2 b3 b4 b5 b6 b7) 40 276 (r_199.2, r0_206, r1, r2, r3, r4, r_1.2, r6_196, r_15) 769 [] [.int z_205, .int r_199.1]
                                              refine g_icmp_ne (pc' := 772) O ⟨dL_same_769, rfl⟩ E (tgt := 776) (by decide) (fun E => ?_) (fun E => ?_)
                                              · refine g_iconst (pc' := 777) O ⟨dL_same_776, rfl⟩ (v := (0 : Int32)) rfl ?_
                                                obtain ⟨hn, E⟩ := ckz_of E
                                                cases E
                                                refine g_drop (wf := (WX5 ad cy 24 40 6 36 4 b0 b1 b2 b3 b4)) (h := (r_199.2, r0_206, r1, r2, r3, r4)) (List.range 40) rfl rfl (by decide) ?_
                                                exact hret _ _ _ _ _ (Nat.le_of_ble_eq_true rfl) (Nat.le_of_ble_eq_true rfl) ⟨dL_same_777, rfl⟩ hn
                                              · refine g_iconst (pc' := 773) O ⟨dL_same_772, rfl⟩ (v := (1 : Int32)) rfl ?_
                                                refine g_goto (pc' := 776) O ⟨dL_same_773, rfl⟩ (tgt := 777) (by decide) ?_
                                                obtain ⟨hn, E⟩ := ckz_of E
                                                cases E
                                                refine g_drop (wf := (WX5 ad cy 24 40 6 36 4 b0 b1 b2 b3 b4)) (h := (r_199.2, r0_206, r1, r2, r3, r4)) (List.range 40) rfl rfl (by decide) ?_
                                                exact hret _ _ _ _ _ (Nat.le_of_ble_eq_true rfl) (Nat.le_of_ble_eq_true rfl) ⟨dL_same_777, rfl⟩ hn
                                            · intro k769 hk769 E
                                              refine g_if_eq (pc' := 759) O ⟨dL_same_756, rfl⟩ E (tgt := 763) (by decide) (fun E => ?_) (fun E => ?_)
                                              · refine g_aload_n (pc' := 764) O ⟨dL_same_763, rfl⟩ (q := 3) rfl rfl ?_
                                                refine g_aload (pc' := 766) O ⟨dL_same_764, rfl⟩ (q := 4) rfl ?_
                                                obtain ⟨r_207, c_208, E⟩ := bd_of E
                                                refine g_MSi (pc' := 769) O hN ⟨dL_same_766, rfl⟩ (y := yL_finishes) (As := [.ref b0, .ref b4]) (st := [.int r_199.1]) (put := (fun g => (r_199.2, g.1, r1, r2, r3, g.2, r_1.2, r6_196, r_15))) sub_X8_A0_4 (t_L_finishes l D cy hfl b0 b4 c_208) kw_1028 kw_24 kw_1026 kw_1027 hd_L_finishes ⟨Nat.le_of_ble_eq_true rfl, Nat.le_of_ble_eq_true rfl⟩ ⟨Nat.le_of_ble_eq_true rfl, Nat.le_of_ble_eq_true rfl⟩ rfl (Nat.le_of_ble_eq_true rfl) ?_
                                                show G l D X 20 (WX8 ad cy 24 40 6 36 4 24 6 6 b0 b1 b2 b3 b4 b5 b6 b7) 40 276 (r_199.2, r_207.2, r1, r2, r3, r4, r_1.2, r6_196, r_15) 769 [(19, .int r_197), (0, .ref (ad 0)), (1, .int x1), (2, .ref b0), (6, .ref b4), (7, .int (r4 (0 : Int32).toNatClampNeg)), (9, .ref b6), (15, .int (0 : Int32))] [.int r_207.1, .int r_199.1]
                                                refine g_sub (lv' := []) [] rfl ?_
                                                exact hk769 _ _ E
                                              · refine g_iconst (pc' := 760) O ⟨dL_same_759, rfl⟩ (v := (0 : Int32)) rfl ?_
                                                refine g_goto (pc' := 763) O ⟨dL_same_760, rfl⟩ (tgt := 769) (by decide) ?_
                                                refine g_sub (lv' := []) [] rfl ?_
                                                exact hk769 _ _ E
                                      · refine g_aload_n (pc' := 714) O ⟨dL_same_713, rfl⟩ (q := 1) rfl rfl ?_
                                        refine g_aload (pc' := 716) O ⟨dL_same_714, rfl⟩ (q := 6) rfl ?_
                                        refine g_aload_n (pc' := 717) O ⟨dL_same_716, rfl⟩ (q := 3) rfl rfl ?_
                                        refine g_aload (pc' := 719) O ⟨dL_same_717, rfl⟩ (q := 4) rfl ?_
                                        obtain ⟨r_209, c_210, E⟩ := bd_of E
                                        refine g_MSi (pc' := 722) O hN ⟨dL_same_719, rfl⟩ (y := yL_switches) (As := [.ref (ad 0), .ref b6, .ref b0, .ref b4]) (st := []) (put := (fun g => (g.1, g.2.2.1, r1, r2, r3, g.2.2.2, r_1.2, g.2.1, r_15))) sub_X8_X6_0_4 (t_L_switches l D ad cy hfl b6 b0 b4 c_210) kw_979 kw_24 kw_977 kw_978 hd_L_switches ⟨Nat.le_of_ble_eq_true rfl, Nat.le_of_ble_eq_true rfl⟩ ⟨Nat.le_of_ble_eq_true rfl, Nat.le_of_ble_eq_true rfl⟩ rfl (Nat.le_of_ble_eq_true rfl) ?_
                                        show G l D X 20 (WX8 ad cy 24 40 6 36 4 24 6 6 b0 b1 b2 b3 b4 b5 b6 b7) 68 444 (r_209.2, r0, r1, r2, r3, r4, r_1.2, r6_196, r_15) 722 [(19, .int r_197), (0, .ref (ad 0)), (1, .int x1), (2, .ref b0), (6, .ref b4), (7, .int (r4 (0 : Int32).toNatClampNeg)), (9, .ref b6), (15, .int (0 : Int32))] [.int r_209.1]
                                        refine g_if_eq (pc' := 725) O ⟨dL_same_722, rfl⟩ E (tgt := 776) (by decide) (fun E => ?_) (fun E => ?_)
                                        · refine g_iconst (pc' := 777) O ⟨dL_same_776, rfl⟩ (v := (0 : Int32)) rfl ?_
                                          obtain ⟨hn, E⟩ := ckz_of E
                                          cases E
                                          refine g_drop (wf := (WX5 ad cy 24 40 6 36 4 b0 b1 b2 b3 b4)) (h := (r_209.2, r0, r1, r2, r3, r4)) (List.range 40) rfl rfl (by decide) ?_
                                          exact hret _ _ _ _ _ (Nat.le_of_ble_eq_true rfl) (Nat.le_of_ble_eq_true rfl) ⟨dL_same_777, rfl⟩ hn
                                        · refine g_goto (pc' := 728) O ⟨dL_same_725, rfl⟩ (tgt := 772) (by decide) ?_
                                          refine g_iconst (pc' := 773) O ⟨dL_same_772, rfl⟩ (v := (1 : Int32)) rfl ?_
                                          refine g_goto (pc' := 776) O ⟨dL_same_773, rfl⟩ (tgt := 777) (by decide) ?_
                                          obtain ⟨hn, E⟩ := ckz_of E
                                          cases E
                                          refine g_drop (wf := (WX5 ad cy 24 40 6 36 4 b0 b1 b2 b3 b4)) (h := (r_209.2, r0, r1, r2, r3, r4)) (List.range 40) rfl rfl (by decide) ?_
                                          exact hret _ _ _ _ _ (Nat.le_of_ble_eq_true rfl) (Nat.le_of_ble_eq_true rfl) ⟨dL_same_777, rfl⟩ hn
                                    · refine g_aload_n (pc' := 686) O ⟨dL_same_685, rfl⟩ (q := 1) rfl rfl ?_
                                      refine g_iload_n (pc' := 687) O ⟨dL_same_686, rfl⟩ (q := 2) rfl rfl ?_
                                      refine g_bipush (pc' := 689) O ⟨dL_same_687, rfl⟩ (v := (6 : Int32)) rfl ?_
                                      refine g_ishr (pc' := 690) O ⟨dL_same_689, rfl⟩ ?_
                                      refine g_iconst (pc' := 691) O ⟨dL_same_690, rfl⟩ (v := (4 : Int32)) rfl ?_
                                      obtain ⟨r_211, c_212, E⟩ := bd_of E
                                      refine g_MSi (pc' := 694) O hN ⟨dL_same_691, rfl⟩ (y := yL_low) (As := [.int (ishr x1 (6 : Int32)), .int (4 : Int32)]) (st := [.ref (ad 0)]) (put := (fun g => (r_92.2, r0, r1, r2, r3, r4, r_1.2, r6_196, r_15))) sub_X8_A (t_L_low l D cy hfl c_212) kw_408 kw_24 kw_406 kw_407 hd_L_low ⟨Nat.le_of_ble_eq_true rfl, Nat.le_of_ble_eq_true rfl⟩ ⟨Nat.le_of_ble_eq_true rfl, Nat.le_of_ble_eq_true rfl⟩ rfl (Nat.le_of_ble_eq_true rfl) ?_
                                      show G l D X 20 (WX8 ad cy 24 40 6 36 4 24 6 6 b0 b1 b2 b3 b4 b5 b6 b7) 39 270 (r_92.2, r0, r1, r2, r3, r4, r_1.2, r6_196, r_15) 694 [(19, .int r_197), (0, .ref (ad 0)), (1, .int x1), (2, .ref b0), (6, .ref b4), (7, .int (r4 (0 : Int32).toNatClampNeg)), (9, .ref b6), (15, .int (0 : Int32))] [.int r_211, .ref (ad 0)]
                                      refine g_aload (pc' := 696) O ⟨dL_same_694, rfl⟩ (q := 6) rfl ?_
                                      refine g_aload (pc' := 698) O ⟨dL_same_696, rfl⟩ (q := 4) rfl ?_
                                      obtain ⟨r_213, c_214, E⟩ := bd_of E
                                      refine g_MSi (pc' := 701) O hN ⟨dL_same_698, rfl⟩ (y := yL_orders) (As := [.ref (ad 0), .int r_211, .ref b6, .ref b4]) (st := []) (put := (fun g => (g.1, r0, r1, r2, r3, g.2.2, r_1.2, g.2.1, r_15))) sub_X8_X6_4 (t_L_orders l D ad cy hfl b6 b4 c_214) kw_874 kw_24 kw_872 kw_873 hd_L_orders ⟨Nat.le_of_ble_eq_true rfl, Nat.le_of_ble_eq_true rfl⟩ ⟨Nat.le_of_ble_eq_true rfl, Nat.le_of_ble_eq_true rfl⟩ rfl (Nat.le_of_ble_eq_true rfl) ?_
                                      show G l D X 20 (WX8 ad cy 24 40 6 36 4 24 6 6 b0 b1 b2 b3 b4 b5 b6 b7) 51 378 (r_213.2, r0, r1, r2, r3, r4, r_1.2, r6_196, r_15) 701 [(19, .int r_197), (0, .ref (ad 0)), (1, .int x1), (2, .ref b0), (6, .ref b4), (7, .int (r4 (0 : Int32).toNatClampNeg)), (9, .ref b6), (15, .int (0 : Int32))] [.int r_213.1]
                                      refine g_if_eq (pc' := 704) O ⟨dL_same_701, rfl⟩ E (tgt := 776) (by decide) (fun E => ?_) (fun E => ?_)
                                      · refine g_iconst (pc' := 777) O ⟨dL_same_776, rfl⟩ (v := (0 : Int32)) rfl ?_
                                        obtain ⟨hn, E⟩ := ckz_of E
                                        cases E
                                        refine g_drop (wf := (WX5 ad cy 24 40 6 36 4 b0 b1 b2 b3 b4)) (h := (r_213.2, r0, r1, r2, r3, r4)) (List.range 40) rfl rfl (by decide) ?_
                                        exact hret _ _ _ _ _ (Nat.le_of_ble_eq_true rfl) (Nat.le_of_ble_eq_true rfl) ⟨dL_same_777, rfl⟩ hn
                                      · refine g_goto (pc' := 707) O ⟨dL_same_704, rfl⟩ (tgt := 772) (by decide) ?_
                                        refine g_iconst (pc' := 773) O ⟨dL_same_772, rfl⟩ (v := (1 : Int32)) rfl ?_
                                        refine g_goto (pc' := 776) O ⟨dL_same_773, rfl⟩ (tgt := 777) (by decide) ?_
                                        obtain ⟨hn, E⟩ := ckz_of E
                                        cases E
                                        refine g_drop (wf := (WX5 ad cy 24 40 6 36 4 b0 b1 b2 b3 b4)) (h := (r_213.2, r0, r1, r2, r3, r4)) (List.range 40) rfl rfl (by decide) ?_
                                        exact hret _ _ _ _ _ (Nat.le_of_ble_eq_true rfl) (Nat.le_of_ble_eq_true rfl) ⟨dL_same_777, rfl⟩ hn
                                  · refine g_aload_n (pc' := 666) O ⟨dL_same_665, rfl⟩ (q := 1) rfl rfl ?_
                                    refine g_iload_n (pc' := 667) O ⟨dL_same_666, rfl⟩ (q := 2) rfl rfl ?_
                                    refine g_aload_n (pc' := 668) O ⟨dL_same_667, rfl⟩ (q := 3) rfl rfl ?_
                                    refine g_aload (pc' := 670) O ⟨dL_same_668, rfl⟩ (q := 4) rfl ?_
                                    obtain ⟨r_215, c_216, E⟩ := bd_of E
                                    refine g_MSi (pc' := 673) O hN ⟨dL_same_670, rfl⟩ (y := yL_faults) (As := [.ref (ad 0), .int x1, .ref b0, .ref b4]) (st := []) (put := (fun g => (g.1, g.2.1, r1, r2, r3, g.2.2, r_1.2, r6_196, r_15))) sub_X8_X0_4 (t_L_faults l D ad cy hfl b0 b4 c_216) kw_805 kw_24 kw_803 kw_804 hd_L_faults ⟨Nat.le_of_ble_eq_true rfl, Nat.le_of_ble_eq_true rfl⟩ ⟨Nat.le_of_ble_eq_true rfl, Nat.le_of_ble_eq_true rfl⟩ rfl (Nat.le_of_ble_eq_true rfl) ?_
                                    show G l D X 20 (WX8 ad cy 24 40 6 36 4 24 6 6 b0 b1 b2 b3 b4 b5 b6 b7) 43 294 (r_215.2, r0, r1, r2, r3, r4, r_1.2, r6_196, r_15) 673 [(19, .int r_197), (0, .ref (ad 0)), (1, .int x1), (2, .ref b0), (6, .ref b4), (7, .int (r4 (0 : Int32).toNatClampNeg)), (9, .ref b6), (15, .int (0 : Int32))] [.int r_215.1]
                                    refine g_if_eq (pc' := 676) O ⟨dL_same_673, rfl⟩ E (tgt := 776) (by decide) (fun E => ?_) (fun E => ?_)
                                    · refine g_iconst (pc' := 777) O ⟨dL_same_776, rfl⟩ (v := (0 : Int32)) rfl ?_
                                      obtain ⟨hn, E⟩ := ckz_of E
                                      cases E
                                      refine g_drop (wf := (WX5 ad cy 24 40 6 36 4 b0 b1 b2 b3 b4)) (h := (r_215.2, r0, r1, r2, r3, r4)) (List.range 40) rfl rfl (by decide) ?_
                                      exact hret _ _ _ _ _ (Nat.le_of_ble_eq_true rfl) (Nat.le_of_ble_eq_true rfl) ⟨dL_same_777, rfl⟩ hn
                                    · refine g_goto (pc' := 679) O ⟨dL_same_676, rfl⟩ (tgt := 772) (by decide) ?_
                                      refine g_iconst (pc' := 773) O ⟨dL_same_772, rfl⟩ (v := (1 : Int32)) rfl ?_
                                      refine g_goto (pc' := 776) O ⟨dL_same_773, rfl⟩ (tgt := 777) (by decide) ?_
                                      obtain ⟨hn, E⟩ := ckz_of E
                                      cases E
                                      refine g_drop (wf := (WX5 ad cy 24 40 6 36 4 b0 b1 b2 b3 b4)) (h := (r_215.2, r0, r1, r2, r3, r4)) (List.range 40) rfl rfl (by decide) ?_
                                      exact hret _ _ _ _ _ (Nat.le_of_ble_eq_true rfl) (Nat.le_of_ble_eq_true rfl) ⟨dL_same_777, rfl⟩ hn
                                · refine g_aload_n (pc' := 644) O ⟨dL_same_643, rfl⟩ (q := 1) rfl rfl ?_
                                  refine g_iload_n (pc' := 645) O ⟨dL_same_644, rfl⟩ (q := 2) rfl rfl ?_
                                  refine g_aload (pc' := 647) O ⟨dL_same_645, rfl⟩ (q := 6) rfl ?_
                                  refine g_aload_n (pc' := 648) O ⟨dL_same_647, rfl⟩ (q := 3) rfl rfl ?_
                                  refine g_aload (pc' := 650) O ⟨dL_same_648, rfl⟩ (q := 4) rfl ?_
                                  obtain ⟨r_217, c_218, E⟩ := bd_of E
                                  refine g_MSi (pc' := 653) O hN ⟨dL_same_650, rfl⟩ (y := yL_rows) (As := [.ref (ad 0), .int x1, .ref b6, .ref b0, .ref b4]) (st := []) (put := (fun g => (g.1, g.2.2.1, r1, r2, r3, g.2.2.2, r_1.2, g.2.1, r_15))) sub_X8_X6_0_4 (t_L_rows l D ad cy hfl b6 b0 b4 c_218) kw_714 kw_24 kw_712 kw_713 hd_L_rows ⟨Nat.le_of_ble_eq_true rfl, Nat.le_of_ble_eq_true rfl⟩ ⟨Nat.le_of_ble_eq_true rfl, Nat.le_of_ble_eq_true rfl⟩ rfl (Nat.le_of_ble_eq_true rfl) ?_
                                  show G l D X 20 (WX8 ad cy 24 40 6 36 4 24 6 6 b0 b1 b2 b3 b4 b5 b6 b7) 45 306 (r_217.2, r0, r1, r2, r3, r4, r_1.2, r6_196, r_15) 653 [(19, .int r_197), (0, .ref (ad 0)), (1, .int x1), (2, .ref b0), (6, .ref b4), (7, .int (r4 (0 : Int32).toNatClampNeg)), (9, .ref b6), (15, .int (0 : Int32))] [.int r_217.1]
                                  refine g_if_eq (pc' := 656) O ⟨dL_same_653, rfl⟩ E (tgt := 776) (by decide) (fun E => ?_) (fun E => ?_)
                                  · refine g_iconst (pc' := 777) O ⟨dL_same_776, rfl⟩ (v := (0 : Int32)) rfl ?_
                                    obtain ⟨hn, E⟩ := ckz_of E
                                    cases E
                                    refine g_drop (wf := (WX5 ad cy 24 40 6 36 4 b0 b1 b2 b3 b4)) (h := (r_217.2, r0, r1, r2, r3, r4)) (List.range 40) rfl rfl (by decide) ?_
                                    exact hret _ _ _ _ _ (Nat.le_of_ble_eq_true rfl) (Nat.le_of_ble_eq_true rfl) ⟨dL_same_777, rfl⟩ hn
                                  · refine g_goto (pc' := 659) O ⟨dL_same_656, rfl⟩ (tgt := 772) (by decide) ?_
                                    refine g_iconst (pc' := 773) O ⟨dL_same_772, rfl⟩ (v := (1 : Int32)) rfl ?_
                                    refine g_goto (pc' := 776) O ⟨dL_same_773, rfl⟩ (tgt := 777) (by decide) ?_
                                    obtain ⟨hn, E⟩ := ckz_of E
                                    cases E
                                    refine g_drop (wf := (WX5 ad cy 24 40 6 36 4 b0 b1 b2 b3 b4)) (h := (r_217.2, r0, r1, r2, r3, r4)) (List.range 40) rfl rfl (by decide) ?_
                                    exact hret _ _ _ _ _ (Nat.le_of_ble_eq_true rfl) (Nat.le_of_ble_eq_true rfl) ⟨dL_same_777, rfl⟩ hn
                            · intro k624 hk624 E
                              refine g_sub (lv' := [(0, .ref (ad 0)), (1, .int x1), (2, .ref b0), (6, .ref b4), (7, .int (r4 (0 : Int32).toNatClampNeg)), (9, .ref b6), (15, .int (0 : Int32)), (19, .int r_194)]) [1, 2, 3, 4, 5, 6, 7, 0] rfl ?_
                              refine fx2_of (P := fun (x19_219 : Int32) (r6_220 : Row) => G l D X 20 (WX8 ad cy 24 40 6 36 4 24 6 6 b0 b1 b2 b3 b4 b5 b6 b7) 39 270 (r_92.2, r0, r1, r2, r3, r4, r_1.2, r6_220, r_15) 605 [(0, .ref (ad 0)), (1, .int x1), (2, .ref b0), (6, .ref b4), (7, .int (r4 (0 : Int32).toNatClampNeg)), (9, .ref b6), (15, .int (0 : Int32)), (19, .int x19_219)] []) ?_ _ _ _ E
                              intro self ih605 x19_219 r6_220 E
                              show G l D X 20 (WX8 ad cy 24 40 6 36 4 24 6 6 b0 b1 b2 b3 b4 b5 b6 b7) 39 270 (r_92.2, r0, r1, r2, r3, r4, r_1.2, r6_220, r_15) 605 [(0, .ref (ad 0)), (1, .int x1), (2, .ref b0), (6, .ref b4), (7, .int (r4 (0 : Int32).toNatClampNeg)), (9, .ref b6), (15, .int (0 : Int32)), (19, .int x19_219)] []
                              unfold L_L_same_605 at E
                              refine g_iload (pc' := 607) O ⟨dL_same_605, rfl⟩ (q := 7) rfl ?_
                              refine g_if_le (pc' := 610) O ⟨dL_same_607, rfl⟩ E (tgt := 624) (by decide) (fun E => ?_) (fun E => ?_)
                              · refine g_sub (lv' := [(0, .ref (ad 0)), (1, .int x1), (2, .ref b0), (6, .ref b4), (7, .int (r4 (0 : Int32).toNatClampNeg)), (9, .ref b6), (15, .int (0 : Int32))]) [0, 1, 2, 3, 4, 5, 6] rfl ?_
                                exact hk624 _ E
                              · refine g_aload (pc' := 612) O ⟨dL_same_610, rfl⟩ (q := 5) rfl ?_
                                refine g_iload (pc' := 614) O ⟨dL_same_612, rfl⟩ (q := 4) rfl ?_
                                obtain ⟨r_221, c_222, E⟩ := bd_of E
                                refine g_MSi (pc' := 617) O hN ⟨dL_same_614, rfl⟩ (y := yL_next) (As := [.ref b6, .int (r4 (0 : Int32).toNatClampNeg)]) (st := []) (put := (fun g => (r_92.2, r0, r1, r2, r3, r4, r_1.2, g, r_15))) sub_X8_A6 (t_L_next l D cy hfl b6 c_222) kw_553 kw_24 kw_551 kw_552 hd_L_next ⟨Nat.le_of_ble_eq_true rfl, Nat.le_of_ble_eq_true rfl⟩ ⟨Nat.le_of_ble_eq_true rfl, Nat.le_of_ble_eq_true rfl⟩ rfl (Nat.le_of_ble_eq_true rfl) ?_
                                show G l D X 20 (WX8 ad cy 24 40 6 36 4 24 6 6 b0 b1 b2 b3 b4 b5 b6 b7) 39 270 (r_92.2, r0, r1, r2, r3, r4, r_1.2, r_221.2, r_15) 617 [(0, .ref (ad 0)), (1, .int x1), (2, .ref b0), (6, .ref b4), (7, .int (r4 (0 : Int32).toNatClampNeg)), (9, .ref b6), (15, .int (0 : Int32)), (19, .int x19_219)] [.int r_221.1]
                                refine g_pop (pc' := 618) O ⟨dL_same_617, rfl⟩ rfl ?_
                                refine g_iinc (pc' := 621) O ⟨dL_same_618, rfl⟩ (q := 7) (v := x19_219 + (-1 : Int32)) (lv' := [(19, .int (x19_219 + (-1 : Int32))), (0, .ref (ad 0)), (1, .int x1), (2, .ref b0), (6, .ref b4), (7, .int (r4 (0 : Int32).toNatClampNeg)), (9, .ref b6), (15, .int (0 : Int32))]) rfl rfl (by decide) rfl ?_
                                refine g_goto (pc' := 624) O ⟨dL_same_621, rfl⟩ (tgt := 605) (by decide) ?_
                                refine g_sub (lv' := [(0, .ref (ad 0)), (1, .int x1), (2, .ref b0), (6, .ref b4), (7, .int (r4 (0 : Int32).toNatClampNeg)), (9, .ref b6), (15, .int (0 : Int32)), (19, .int (x19_219 + (-1 : Int32)))]) [1, 2, 3, 4, 5, 6, 7, 0] rfl ?_
                                exact ih605 _ _ E
                          · intro k595 hk595 E
                            refine g_sub (lv' := [(0, .ref (ad 0)), (1, .int x1), (2, .ref b0), (6, .ref b4), (7, .int (r4 (0 : Int32).toNatClampNeg)), (9, .ref b6), (15, .int (0 : Int32)), (19, .int (0 : Int32))]) [4, 5, 6, 8, 9, 10, 1, 0] rfl ?_
                            refine fx2_of (P := fun (x19_223 : Int32) (r6_224 : Row) => G l D X 20 (WX8 ad cy 24 40 6 36 4 24 6 6 b0 b1 b2 b3 b4 b5 b6 b7) 39 270 (r_92.2, r0, r1, r2, r3, r4, r_1.2, r6_224, r_15) 575 [(0, .ref (ad 0)), (1, .int x1), (2, .ref b0), (6, .ref b4), (7, .int (r4 (0 : Int32).toNatClampNeg)), (9, .ref b6), (15, .int (0 : Int32)), (19, .int x19_223)] []) ?_ _ _ _ E
                            intro self ih575 x19_223 r6_224 E
                            show G l D X 20 (WX8 ad cy 24 40 6 36 4 24 6 6 b0 b1 b2 b3 b4 b5 b6 b7) 39 270 (r_92.2, r0, r1, r2, r3, r4, r_1.2, r6_224, r_15) 575 [(0, .ref (ad 0)), (1, .int x1), (2, .ref b0), (6, .ref b4), (7, .int (r4 (0 : Int32).toNatClampNeg)), (9, .ref b6), (15, .int (0 : Int32)), (19, .int x19_223)] []
                            unfold L_L_same_575 at E
                            refine g_iload (pc' := 577) O ⟨dL_same_575, rfl⟩ (q := 7) rfl ?_
                            refine g_iload (pc' := 579) O ⟨dL_same_577, rfl⟩ (q := 4) rfl ?_
                            refine g_icmp_ge (pc' := 582) O ⟨dL_same_579, rfl⟩ E (tgt := 595) (by decide) (fun E => ?_) (fun E => ?_)
                            · refine g_sub (lv' := [(0, .ref (ad 0)), (1, .int x1), (2, .ref b0), (6, .ref b4), (7, .int (r4 (0 : Int32).toNatClampNeg)), (9, .ref b6), (15, .int (0 : Int32))]) [0, 1, 2, 3, 4, 5, 6] rfl ?_
                              exact hk595 _ E
                            · refine g_aload (pc' := 584) O ⟨dL_same_582, rfl⟩ (q := 5) rfl ?_
                              refine g_iload (pc' := 586) O ⟨dL_same_584, rfl⟩ (q := 7) rfl ?_
                              refine g_iload (pc' := 588) O ⟨dL_same_586, rfl⟩ (q := 7) rfl ?_
                              refine g_iast (pc' := 589) O ⟨dL_same_588, rfl⟩ zX8_6 zsX8_6 E (fun E => ?_)
                              refine g_nmr (Go := fun (r6_225 : Row) => G l D X 20 (WX8 ad cy 24 40 6 36 4 24 6 6 b0 b1 b2 b3 b4 b5 b6 b7) 39 270 (r_92.2, r0, r1, r2, r3, r4, r_1.2, r6_225, r_15) 589 [(0, .ref (ad 0)), (1, .int x1), (2, .ref b0), (6, .ref b4), (7, .int (r4 (0 : Int32).toNatClampNeg)), (9, .ref b6), (15, .int (0 : Int32)), (19, .int x19_223)] []) E (fun r6_225 E => ?_)
                              show G l D X 20 (WX8 ad cy 24 40 6 36 4 24 6 6 b0 b1 b2 b3 b4 b5 b6 b7) 39 270 (r_92.2, r0, r1, r2, r3, r4, r_1.2, r6_225, r_15) 589 [(0, .ref (ad 0)), (1, .int x1), (2, .ref b0), (6, .ref b4), (7, .int (r4 (0 : Int32).toNatClampNeg)), (9, .ref b6), (15, .int (0 : Int32)), (19, .int x19_223)] []
                              refine g_iinc (pc' := 592) O ⟨dL_same_589, rfl⟩ (q := 7) (v := x19_223 + (1 : Int32)) (lv' := [(19, .int (x19_223 + (1 : Int32))), (0, .ref (ad 0)), (1, .int x1), (2, .ref b0), (6, .ref b4), (7, .int (r4 (0 : Int32).toNatClampNeg)), (9, .ref b6), (15, .int (0 : Int32))]) rfl rfl (by decide) rfl ?_
                              refine g_goto (pc' := 595) O ⟨dL_same_592, rfl⟩ (tgt := 575) (by decide) ?_
                              refine g_sub (lv' := [(0, .ref (ad 0)), (1, .int x1), (2, .ref b0), (6, .ref b4), (7, .int (r4 (0 : Int32).toNatClampNeg)), (9, .ref b6), (15, .int (0 : Int32)), (19, .int (x19_223 + (1 : Int32)))]) [1, 2, 3, 4, 5, 6, 7, 0] rfl ?_
                              exact ih575 _ _ E
                        · refine g_iload (pc' := 560) O ⟨dL_same_558, rfl⟩ (q := 0) rfl ?_
                          refine g_iload (pc' := 562) O ⟨dL_same_560, rfl⟩ (q := 1) rfl ?_
                          refine g_icmp_ge (pc' := 565) O ⟨dL_same_562, rfl⟩ E (tgt := 569) (by decide) (fun E => ?_) (fun E => ?_)
                          · refine g_iconst (pc' := 570) O ⟨dL_same_569, rfl⟩ (v := (0 : Int32)) rfl ?_
                            refine g_istore (pc' := 572) O ⟨dL_same_570, rfl⟩ (lv' := [(15, .int (0 : Int32)), (18, .int r_22.1), (17, .int r_20), (0, .ref (ad 0)), (1, .int x1), (2, .ref b0), (5, .ref b3), (6, .ref b4), (7, .int (r4 (0 : Int32).toNatClampNeg)), (9, .ref b6), (16, .int x16_18)]) (by decide) rfl ?_
                            refine g_iconst (pc' := 573) O ⟨dL_same_572, rfl⟩ (v := (0 : Int32)) rfl ?_
                            refine g_istore (pc' := 575) O ⟨dL_same_573, rfl⟩ (lv' := [(19, .int (0 : Int32)), (15, .int (0 : Int32)), (18, .int r_22.1), (17, .int r_20), (0, .ref (ad 0)), (1, .int x1), (2, .ref b0), (5, .ref b3), (6, .ref b4), (7, .int (r4 (0 : Int32).toNatClampNeg)), (9, .ref b6), (16, .int x16_18)]) (by decide) rfl ?_
                            refine jn1_of (P := fun (r6_226 : Row) => G l D X 20 (WX8 ad cy 24 40 6 36 4 24 6 6 b0 b1 b2 b3 b4 b5 b6 b7) 39 270 (r_92.2, r0, r1, r2, r3, r4, r_1.2, r6_226, r_15) 595 [(0, .ref (ad 0)), (1, .int x1), (2, .ref b0), (6, .ref b4), (7, .int (r4 (0 : Int32).toNatClampNeg)), (9, .ref b6), (15, .int (0 : Int32))] []) E ?_ ?_
                            · intro r6_226 E
                              show G l D X 20 (WX8 ad cy 24 40 6 36 4 24 6 6 b0 b1 b2 b3 b4 b5 b6 b7) 39 270 (r_92.2, r0, r1, r2, r3, r4, r_1.2, r6_226, r_15) 595 [(0, .ref (ad 0)), (1, .int x1), (2, .ref b0), (6, .ref b4), (7, .int (r4 (0 : Int32).toNatClampNeg)), (9, .ref b6), (15, .int (0 : Int32))] []
                              refine g_iload_n (pc' := 596) O ⟨dL_same_595, rfl⟩ (q := 1) rfl rfl ?_
                              refine g_iconst (pc' := 597) O ⟨dL_same_596, rfl⟩ (v := (5 : Int32)) rfl ?_
                              refine g_ishr (pc' := 598) O ⟨dL_same_597, rfl⟩ ?_
                              refine g_bipush (pc' := 600) O ⟨dL_same_598, rfl⟩ (v := (120 : Int32)) rfl ?_
                              obtain ⟨r_227, c_228, E⟩ := bd_of E
                              refine g_MSi (pc' := 603) O hN ⟨dL_same_600, rfl⟩ (y := yL_low) (As := [.int (ishr x1 (5 : Int32)), .int (120 : Int32)]) (st := []) (put := (fun g => (r_92.2, r0, r1, r2, r3, r4, r_1.2, r6_226, r_15))) sub_X8_A (t_L_low l D cy hfl c_228) kw_408 kw_24 kw_406 kw_407 hd_L_low ⟨Nat.le_of_ble_eq_true rfl, Nat.le_of_ble_eq_true rfl⟩ ⟨Nat.le_of_ble_eq_true rfl, Nat.le_of_ble_eq_true rfl⟩ rfl (Nat.le_of_ble_eq_true rfl) ?_
                              show G l D X 20 (WX8 ad cy 24 40 6 36 4 24 6 6 b0 b1 b2 b3 b4 b5 b6 b7) 39 270 (r_92.2, r0, r1, r2, r3, r4, r_1.2, r6_226, r_15) 603 [(0, .ref (ad 0)), (1, .int x1), (2, .ref b0), (6, .ref b4), (7, .int (r4 (0 : Int32).toNatClampNeg)), (9, .ref b6), (15, .int (0 : Int32))] [.int r_227]
                              refine g_istore (pc' := 605) O ⟨dL_same_603, rfl⟩ (lv' := [(19, .int r_227), (0, .ref (ad 0)), (1, .int x1), (2, .ref b0), (6, .ref b4), (7, .int (r4 (0 : Int32).toNatClampNeg)), (9, .ref b6), (15, .int (0 : Int32))]) (by decide) rfl ?_
                              refine jn1_of (P := fun (r6_229 : Row) => G l D X 20 (WX8 ad cy 24 40 6 36 4 24 6 6 b0 b1 b2 b3 b4 b5 b6 b7) 39 270 (r_92.2, r0, r1, r2, r3, r4, r_1.2, r6_229, r_15) 624 [(0, .ref (ad 0)), (1, .int x1), (2, .ref b0), (6, .ref b4), (7, .int (r4 (0 : Int32).toNatClampNeg)), (9, .ref b6), (15, .int (0 : Int32))] []) E ?_ ?_
                              · intro r6_229 E
                                show G l D X 20 (WX8 ad cy 24 40 6 36 4 24 6 6 b0 b1 b2 b3 b4 b5 b6 b7) 39 270 (r_92.2, r0, r1, r2, r3, r4, r_1.2, r6_229, r_15) 624 [(0, .ref (ad 0)), (1, .int x1), (2, .ref b0), (6, .ref b4), (7, .int (r4 (0 : Int32).toNatClampNeg)), (9, .ref b6), (15, .int (0 : Int32))] []
                                refine g_iload_n (pc' := 625) O ⟨dL_same_624, rfl⟩ (q := 1) rfl rfl ?_
                                refine g_iconst (pc' := 626) O ⟨dL_same_625, rfl⟩ (v := (3 : Int32)) rfl ?_
                                refine g_ishr (pc' := 627) O ⟨dL_same_626, rfl⟩ ?_
                                refine g_iconst (pc' := 628) O ⟨dL_same_627, rfl⟩ (v := (5 : Int32)) rfl ?_
                                obtain ⟨r_230, c_231, E⟩ := bd_of E
                                refine g_MSi (pc' := 631) O hN ⟨dL_same_628, rfl⟩ (y := yL_low) (As := [.int (ishr x1 (3 : Int32)), .int (5 : Int32)]) (st := []) (put := (fun g => (r_92.2, r0, r1, r2, r3, r4, r_1.2, r6_229, r_15))) sub_X8_A (t_L_low l D cy hfl c_231) kw_408 kw_24 kw_406 kw_407 hd_L_low ⟨Nat.le_of_ble_eq_true rfl, Nat.le_of_ble_eq_true rfl⟩ ⟨Nat.le_of_ble_eq_true rfl, Nat.le_of_ble_eq_true rfl⟩ rfl (Nat.le_of_ble_eq_true rfl) ?_
                                show G l D X 20 (WX8 ad cy 24 40 6 36 4 24 6 6 b0 b1 b2 b3 b4 b5 b6 b7) 39 270 (r_92.2, r0, r1, r2, r3, r4, r_1.2, r6_229, r_15) 631 [(0, .ref (ad 0)), (1, .int x1), (2, .ref b0), (6, .ref b4), (7, .int (r4 (0 : Int32).toNatClampNeg)), (9, .ref b6), (15, .int (0 : Int32))] [.int r_230]
                                refine g_istore (pc' := 633) O ⟨dL_same_631, rfl⟩ (lv' := [(19, .int r_230), (0, .ref (ad 0)), (1, .int x1), (2, .ref b0), (6, .ref b4), (7, .int (r4 (0 : Int32).toNatClampNeg)), (9, .ref b6), (15, .int (0 : Int32))]) (by decide) rfl ?_
                                refine g_iload (pc' := 635) O ⟨dL_same_633, rfl⟩ (q := 7) rfl ?_
                                refine g_if_eq (pc' := 638) O ⟨dL_same_635, rfl⟩ E (tgt := 776) (by decide) (fun E => ?_) (fun E => ?_)
                                · refine g_iconst (pc' := 777) O ⟨dL_same_776, rfl⟩ (v := (0 : Int32)) rfl ?_
                                  obtain ⟨hn, E⟩ := ckz_of E
                                  cases E
                                  refine g_drop (wf := (WX5 ad cy 24 40 6 36 4 b0 b1 b2 b3 b4)) (h := (r_92.2, r0, r1, r2, r3, r4)) (List.range 40) rfl rfl (by decide) ?_
                                  exact hret _ _ _ _ _ (Nat.le_of_ble_eq_true rfl) (Nat.le_of_ble_eq_true rfl) ⟨dL_same_777, rfl⟩ hn
                                · refine g_iload (pc' := 640) O ⟨dL_same_638, rfl⟩ (q := 0) rfl ?_
                                  refine g_if_ne (pc' := 643) O ⟨dL_same_640, rfl⟩ E (tgt := 659) (by decide) (fun E => ?_) (fun E => ?_)
                                  · refine g_iload (pc' := 661) O ⟨dL_same_659, rfl⟩ (q := 0) rfl ?_
                                    refine g_iconst (pc' := 662) O ⟨dL_same_661, rfl⟩ (v := (1 : Int32)) rfl ?_
                                    refine g_icmp_ne (pc' := 665) O ⟨dL_same_662, rfl⟩ E (tgt := 679) (by decide) (fun E => ?_) (fun E => ?_)
                                    · refine g_iload (pc' := 681) O ⟨dL_same_679, rfl⟩ (q := 0) rfl ?_
                                      refine g_iconst (pc' := 682) O ⟨dL_same_681, rfl⟩ (v := (2 : Int32)) rfl ?_
                                      refine g_icmp_ne (pc' := 685) O ⟨dL_same_682, rfl⟩ E (tgt := 707) (by decide) (fun E => ?_) (fun E => ?_)
                                      · refine g_iload (pc' := 709) O ⟨dL_same_707, rfl⟩ (q := 0) rfl ?_
                                        refine g_iconst (pc' := 710) O ⟨dL_same_709, rfl⟩ (v := (3 : Int32)) rfl ?_
                                        refine g_icmp_ne (pc' := 713) O ⟨dL_same_710, rfl⟩ E (tgt := 728) (by decide) (fun E => ?_) (fun E => ?_)
                                        · refine g_iload (pc' := 730) O ⟨dL_same_728, rfl⟩ (q := 5) rfl ?_
                                          refine g_iconst (pc' := 731) O ⟨dL_same_730, rfl⟩ (v := (4 : Int32)) rfl ?_
                                          refine g_icmp_gt (pc' := 734) O ⟨dL_same_731, rfl⟩ E (tgt := 772) (by decide) (fun E => ?_) (fun E => ?_)
                                          · refine g_iconst (pc' := 773) O ⟨dL_same_772, rfl⟩ (v := (1 : Int32)) rfl ?_
                                            refine g_goto (pc' := 776) O ⟨dL_same_773, rfl⟩ (tgt := 777) (by decide) ?_
                                            obtain ⟨hn, E⟩ := ckz_of E
                                            cases E
                                            refine g_drop (wf := (WX5 ad cy 24 40 6 36 4 b0 b1 b2 b3 b4)) (h := (r_92.2, r0, r1, r2, r3, r4)) (List.range 40) rfl rfl (by decide) ?_
                                            exact hret _ _ _ _ _ (Nat.le_of_ble_eq_true rfl) (Nat.le_of_ble_eq_true rfl) ⟨dL_same_777, rfl⟩ hn
                                          · refine g_aload (pc' := 736) O ⟨dL_same_734, rfl⟩ (q := 4) rfl ?_
                                            refine g_iconst (pc' := 737) O ⟨dL_same_736, rfl⟩ (v := (1 : Int32)) rfl ?_
                                            refine g_iald (pc' := 738) O ⟨dL_same_737, rfl⟩ zX8_4 E (fun E => ?_)
                                            refine g_bipush (pc' := 740) O ⟨dL_same_738, rfl⟩ (v := (22 : Int32)) rfl ?_
                                            refine g_icmp_gt (pc' := 743) O ⟨dL_same_740, rfl⟩ E (tgt := 772) (by decide) (fun E => ?_) (fun E => ?_)
                                            · refine g_iconst (pc' := 773) O ⟨dL_same_772, rfl⟩ (v := (1 : Int32)) rfl ?_
                                              refine g_goto (pc' := 776) O ⟨dL_same_773, rfl⟩ (tgt := 777) (by decide) ?_
                                              obtain ⟨hn, E⟩ := ckz_of E
                                              cases E
                                              refine g_drop (wf := (WX5 ad cy 24 40 6 36 4 b0 b1 b2 b3 b4)) (h := (r_92.2, r0, r1, r2, r3, r4)) (List.range 40) rfl rfl (by decide) ?_
                                              exact hret _ _ _ _ _ (Nat.le_of_ble_eq_true rfl) (Nat.le_of_ble_eq_true rfl) ⟨dL_same_777, rfl⟩ hn
                                            · refine g_aload_n (pc' := 744) O ⟨dL_same_743, rfl⟩ (q := 1) rfl rfl ?_
                                              refine g_iconst (pc' := 745) O ⟨dL_same_744, rfl⟩ (v := (2 : Int32)) rfl ?_
                                              obtain ⟨z_235, c_233, e_234, E⟩ := hcatch_of E
                                              refine g_UXi (pc' := 748) O ⟨dL_same_745, rfl⟩ (y := yX10_finishes) (As := [.int (2 : Int32)]) (st := []) (put := (fun g => (g, r0, r1, r2, r3, r4, r_1.2, r6_229, r_15))) sub_X8_X (t_X10_finishes l D ad cy hfl (h := r_92.2) c_233) kw_1014 kw_25 kw_1011 kw_1012 kw_1013 rfl zX8_x hd_X10_finishes ⟨Nat.le_of_ble_eq_true rfl, Nat.le_of_ble_eq_true rfl⟩ ⟨Nat.le_of_ble_eq_true rfl, Nat.le_of_ble_eq_true rfl⟩ rfl (Nat.le_of_ble_eq_true rfl) (fun E1 c q => (by cases e_234 E1 c q)) (fun r_232 q => ?_)
                                              replace E := E r_232 q
                                              show G l D X 20 (WX8 ad cy 24 40 6 36 4 24 6 6 b0 b1 b2 b3 b4 b5 b6 b7) 40 276 (r_232.2, r0, r1, r2, r3, r4, r_1.2, r6_229, r_15) 748 [(19, .int r_230), (0, .ref (ad 0)), (1, .int x1), (2, .ref b0), (6, .ref b4), (7, .int (r4 (0 : Int32).toNatClampNeg)), (9, .ref b6), (15, .int (0 : Int32))] [.int r_232.1]
                                              refine g_iconst (pc' := 749) O ⟨dL_same_748, rfl⟩ (v := (-1 : Int32)) rfl ?_
                                              refine g_iconst (pc' := 750) O ⟨dL_same_749, rfl⟩ (v := (-1 : Int32)) rfl ?_
                                              refine g_aload_n (pc' := 751) O ⟨dL_same_750, rfl⟩ (q := 3) rfl rfl ?_
                                              refine g_aload (pc' := 753) O ⟨dL_same_751, rfl⟩ (q := 4) rfl ?_
                                              obtain ⟨r_236, c_237, E⟩ := bd_of E
                                              refine g_MSi (pc' := 756) O hN ⟨dL_same_753, rfl⟩ (y := yL_done) (As := [.int (-1 : Int32), .int (-1 : Int32), .ref b0, .ref b4]) (st := [.int r_232.1]) (put := (fun g => (r_232.2, g.1, r1, r2, r3, g.2, r_1.2, r6_229, r_15))) sub_X8_A0_4 (t_L_done l D cy hfl b0 b4 c_237) kw_1025 kw_24 kw_1023 kw_1024 hd_L_done ⟨Nat.le_of_ble_eq_true rfl, Nat.le_of_ble_eq_true rfl⟩ ⟨Nat.le_of_ble_eq_true rfl, Nat.le_of_ble_eq_true rfl⟩ rfl (Nat.le_of_ble_eq_true rfl) ?_
                                              show G l D X 20 (WX8 ad cy 24 40 6 36 4 24 6 6 b0 b1 b2 b3 b4 b5 b6 b7) 40 276 (r_232.2, r_236.2, r1, r2, r3, r4, r_1.2, r6_229, r_15) 756 [(19, .int r_230), (0, .ref (ad 0)), (1, .int x1), (2, .ref b0), (6, .ref b4), (7, .int (r4 (0 : Int32).toNatClampNeg)), (9, .ref b6), (15, .int (0 : Int32))] [.int r_236.1, .int r_232.1]
                                              refine jn2_of (P := fun (z_238 : Int32) (r0_239 : Row) => G l D X 20 (WX8 ad cy 24 40 6 36 4 24 6 6 b0 b1 b2 b3 b4 b5 b6 b7) 40 276 (r_232.2, r0_239, r1, r2, r3, r4, r_1.2, r6_229, r_15) 769 [] [.int z_238, .int r_232.1]) E ?_ ?_
                                              · intro z_238 r0_239 E
                                                show G l D X 20 (WX8 ad cy 24 40 6 36 4 24 6 6 b0 b1 b2 b3 b4 b5 b6 b7) 40 276 (r_232.2, r0_239, r1, r2, r3, r4, r_1.2, r6_229, r_15) 769 [] [.int z_238, .int r_232.1]
                                                refine g_icmp_ne (pc' := 772) O ⟨dL_same_769, rfl⟩ E (tgt := 776) (by decide) (fun E => ?_) (fun E => ?_)
                                                · refine g_iconst (pc' := 777) O ⟨dL_same_776, rfl⟩ (v := (0 : Int32)) rfl ?_
                                                  obtain ⟨hn, E⟩ := ckz_of E
                                                  cases E
                                                  refine g_drop (wf := (WX5 ad cy 24 40 6 36 4 b0 b1 b2 b3 b4)) (h := (r_232.2, r0_239, r1, r2, r3, r4)) (List.range 40) rfl rfl (by decide) ?_
                                                  exact hret _ _ _ _ _ (Nat.le_of_ble_eq_true rfl) (Nat.le_of_ble_eq_true rfl) ⟨dL_same_777, rfl⟩ hn
                                                · refine g_iconst (pc' := 773) O ⟨dL_same_772, rfl⟩ (v := (1 : Int32)) rfl ?_
                                                  refine g_goto (pc' := 776) O ⟨dL_same_773, rfl⟩ (tgt := 777) (by decide) ?_
                                                  obtain ⟨hn, E⟩ := ckz_of E
                                                  cases E
                                                  refine g_drop (wf := (WX5 ad cy 24 40 6 36 4 b0 b1 b2 b3 b4)) (h := (r_232.2, r0_239, r1, r2, r3, r4)) (List.range 40) rfl rfl (by decide) ?_
                                                  exact hret _ _ _ _ _ (Nat.le_of_ble_eq_true rfl) (Nat.le_of_ble_eq_true rfl) ⟨dL_same_777, rfl⟩ hn
                                              · intro k769 hk769 E
                                                refine g_if_eq (pc' := 759) O ⟨dL_same_756, rfl⟩ E (tgt := 763) (by decide) (fun E => ?_) (fun E => ?_)
                                                · refine g_aload_n (pc' := 764) O ⟨dL_same_763, rfl⟩ (q := 3) rfl rfl ?_
                                                  refine g_aload (pc' := 766) O ⟨dL_same_764, rfl⟩ (q := 4) rfl ?_
                                                  obtain ⟨r_240, c_241, E⟩ := bd_of E
                                                  refine g_MSi (pc' := 769) O hN ⟨dL_same_766, rfl⟩ (y := yL_finishes) (As := [.ref b0, .ref b4]) (st := [.int r_232.1]) (put := (fun g => (r_232.2, g.1, r1, r2, r3, g.2, r_1.2, r6_229, r_15))) sub_X8_A0_4 (t_L_finishes l D cy hfl b0 b4 c_241) kw_1028 kw_24 kw_1026 kw_1027 hd_L_finishes ⟨Nat.le_of_ble_eq_true rfl, Nat.le_of_ble_eq_true rfl⟩ ⟨Nat.le_of_ble_eq_true rfl, Nat.le_of_ble_eq_true rfl⟩ rfl (Nat.le_of_ble_eq_true rfl) ?_
                                                  show G l D X 20 (WX8 ad cy 24 40 6 36 4 24 6 6 b0 b1 b2 b3 b4 b5 b6 b7) 40 276 (r_232.2, r_240.2, r1, r2, r3, r4, r_1.2, r6_229, r_15) 769 [(19, .int r_230), (0, .ref (ad 0)), (1, .int x1), (2, .ref b0), (6, .ref b4), (7, .int (r4 (0 : Int32).toNatClampNeg)), (9, .ref b6), (15, .int (0 : Int32))] [.int r_240.1, .int r_232.1]
                                                  refine g_sub (lv' := []) [] rfl ?_
                                                  exact hk769 _ _ E
                                                · refine g_iconst (pc' := 760) O ⟨dL_same_759, rfl⟩ (v := (0 : Int32)) rfl ?_
                                                  refine g_goto (pc' := 763) O ⟨dL_same_760, rfl⟩ (tgt := 769) (by decide) ?_
                                                  refine g_sub (lv' := []) [] rfl ?_
                                                  exact hk769 _ _ E
                                        · refine g_aload_n (pc' := 714) O ⟨dL_same_713, rfl⟩ (q := 1) rfl rfl ?_
                                          refine g_aload (pc' := 716) O ⟨dL_same_714, rfl⟩ (q := 6) rfl ?_
                                          refine g_aload_n (pc' := 717) O ⟨dL_same_716, rfl⟩ (q := 3) rfl rfl ?_
                                          refine g_aload (pc' := 719) O ⟨dL_same_717, rfl⟩ (q := 4) rfl ?_
                                          obtain ⟨r_242, c_243, E⟩ := bd_of E
                                          refine g_MSi (pc' := 722) O hN ⟨dL_same_719, rfl⟩ (y := yL_switches) (As := [.ref (ad 0), .ref b6, .ref b0, .ref b4]) (st := []) (put := (fun g => (g.1, g.2.2.1, r1, r2, r3, g.2.2.2, r_1.2, g.2.1, r_15))) sub_X8_X6_0_4 (t_L_switches l D ad cy hfl b6 b0 b4 c_243) kw_979 kw_24 kw_977 kw_978 hd_L_switches ⟨Nat.le_of_ble_eq_true rfl, Nat.le_of_ble_eq_true rfl⟩ ⟨Nat.le_of_ble_eq_true rfl, Nat.le_of_ble_eq_true rfl⟩ rfl (Nat.le_of_ble_eq_true rfl) ?_
                                          show G l D X 20 (WX8 ad cy 24 40 6 36 4 24 6 6 b0 b1 b2 b3 b4 b5 b6 b7) 68 444 (r_242.2, r0, r1, r2, r3, r4, r_1.2, r6_229, r_15) 722 [(19, .int r_230), (0, .ref (ad 0)), (1, .int x1), (2, .ref b0), (6, .ref b4), (7, .int (r4 (0 : Int32).toNatClampNeg)), (9, .ref b6), (15, .int (0 : Int32))] [.int r_242.1]
                                          refine g_if_eq (pc' := 725) O ⟨dL_same_722, rfl⟩ E (tgt := 776) (by decide) (fun E => ?_) (fun E => ?_)
                                          · refine g_iconst (pc' := 777) O ⟨dL_same_776, rfl⟩ (v := (0 : Int32)) rfl ?_
                                            obtain ⟨hn, E⟩ := ckz_of E
                                            cases E
                                            refine g_drop (wf := (WX5 ad cy 24 40 6 36 4 b0 b1 b2 b3 b4)) (h := (r_242.2, r0, r1, r2, r3, r4)) (List.range 40) rfl rfl (by decide) ?_
                                            exact hret _ _ _ _ _ (Nat.le_of_ble_eq_true rfl) (Nat.le_of_ble_eq_true rfl) ⟨dL_same_777, rfl⟩ hn
                                          · refine g_goto (pc' := 728) O ⟨dL_same_725, rfl⟩ (tgt := 772) (by decide) ?_
                                            refine g_iconst (pc' := 773) O ⟨dL_same_772, rfl⟩ (v := (1 : Int32)) rfl ?_
                                            refine g_goto (pc' := 776) O ⟨dL_same_773, rfl⟩ (tgt := 777) (by decide) ?_
                                            obtain ⟨hn, E⟩ := ckz_of E
                                            cases E
                                            refine g_drop (wf := (WX5 ad cy 24 40 6 36 4 b0 b1 b2 b3 b4)) (h := (r_242.2, r0, r1, r2, r3, r4)) (List.range 40) rfl rfl (by decide) ?_
                                            exact hret _ _ _ _ _ (Nat.le_of_ble_eq_true rfl) (Nat.le_of_ble_eq_true rfl) ⟨dL_same_777, rfl⟩ hn
                                      · refine g_aload_n (pc' := 686) O ⟨dL_same_685, rfl⟩ (q := 1) rfl rfl ?_
                                        refine g_iload_n (pc' := 687) O ⟨dL_same_686, rfl⟩ (q := 2) rfl rfl ?_
                                        refine g_bipush (pc' := 689) O ⟨dL_same_687, rfl⟩ (v := (6 : Int32)) rfl ?_
                                        refine g_ishr (pc' := 690) O ⟨dL_same_689, rfl⟩ ?_
                                        refine g_iconst (pc' := 691) O ⟨dL_same_690, rfl⟩ (v := (4 : Int32)) rfl ?_
                                        obtain ⟨r_244, c_245, E⟩ := bd_of E
                                        refine g_MSi (pc' := 694) O hN ⟨dL_same_691, rfl⟩ (y := yL_low) (As := [.int (ishr x1 (6 : Int32)), .int (4 : Int32)]) (st := [.ref (ad 0)]) (put := (fun g => (r_92.2, r0, r1, r2, r3, r4, r_1.2, r6_229, r_15))) sub_X8_A (t_L_low l D cy hfl c_245) kw_408 kw_24 kw_406 kw_407 hd_L_low ⟨Nat.le_of_ble_eq_true rfl, Nat.le_of_ble_eq_true rfl⟩ ⟨Nat.le_of_ble_eq_true rfl, Nat.le_of_ble_eq_true rfl⟩ rfl (Nat.le_of_ble_eq_true rfl) ?_
                                        show G l D X 20 (WX8 ad cy 24 40 6 36 4 24 6 6 b0 b1 b2 b3 b4 b5 b6 b7) 39 270 (r_92.2, r0, r1, r2, r3, r4, r_1.2, r6_229, r_15) 694 [(19, .int r_230), (0, .ref (ad 0)), (1, .int x1), (2, .ref b0), (6, .ref b4), (7, .int (r4 (0 : Int32).toNatClampNeg)), (9, .ref b6), (15, .int (0 : Int32))] [.int r_244, .ref (ad 0)]
                                        refine g_aload (pc' := 696) O ⟨dL_same_694, rfl⟩ (q := 6) rfl ?_
                                        refine g_aload (pc' := 698) O ⟨dL_same_696, rfl⟩ (q := 4) rfl ?_
                                        obtain ⟨r_246, c_247, E⟩ := bd_of E
                                        refine g_MSi (pc' := 701) O hN ⟨dL_same_698, rfl⟩ (y := yL_orders) (As := [.ref (ad 0), .int r_244, .ref b6, .ref b4]) (st := []) (put := (fun g => (g.1, r0, r1, r2, r3, g.2.2, r_1.2, g.2.1, r_15))) sub_X8_X6_4 (t_L_orders l D ad cy hfl b6 b4 c_247) kw_874 kw_24 kw_872 kw_873 hd_L_orders ⟨Nat.le_of_ble_eq_true rfl, Nat.le_of_ble_eq_true rfl⟩ ⟨Nat.le_of_ble_eq_true rfl, Nat.le_of_ble_eq_true rfl⟩ rfl (Nat.le_of_ble_eq_true rfl) ?_
                                        show G l D X 20 (WX8 ad cy 24 40 6 36 4 24 6 6 b0 b1 b2 b3 b4 b5 b6 b7) 51 378 (r_246.2, r0, r1, r2, r3, r4, r_1.2, r6_229, r_15) 701 [(19, .int r_230), (0, .ref (ad 0)), (1, .int x1), (2, .ref b0), (6, .ref b4), (7, .int (r4 (0 : Int32).toNatClampNeg)), (9, .ref b6), (15, .int (0 : Int32))] [.int r_246.1]
                                        refine g_if_eq (pc' := 704) O ⟨dL_same_701, rfl⟩ E (tgt := 776) (by decide) (fun E => ?_) (fun E => ?_)
                                        · refine g_iconst (pc' := 777) O ⟨dL_same_776, rfl⟩ (v := (0 : Int32)) rfl ?_
                                          obtain ⟨hn, E⟩ := ckz_of E
                                          cases E
                                          refine g_drop (wf := (WX5 ad cy 24 40 6 36 4 b0 b1 b2 b3 b4)) (h := (r_246.2, r0, r1, r2, r3, r4)) (List.range 40) rfl rfl (by decide) ?_
                                          exact hret _ _ _ _ _ (Nat.le_of_ble_eq_true rfl) (Nat.le_of_ble_eq_true rfl) ⟨dL_same_777, rfl⟩ hn
                                        · refine g_goto (pc' := 707) O ⟨dL_same_704, rfl⟩ (tgt := 772) (by decide) ?_
                                          refine g_iconst (pc' := 773) O ⟨dL_same_772, rfl⟩ (v := (1 : Int32)) rfl ?_
                                          refine g_goto (pc' := 776) O ⟨dL_same_773, rfl⟩ (tgt := 777) (by decide) ?_
                                          obtain ⟨hn, E⟩ := ckz_of E
                                          cases E
                                          refine g_drop (wf := (WX5 ad cy 24 40 6 36 4 b0 b1 b2 b3 b4)) (h := (r_246.2, r0, r1, r2, r3, r4)) (List.range 40) rfl rfl (by decide) ?_
                                          exact hret _ _ _ _ _ (Nat.le_of_ble_eq_true rfl) (Nat.le_of_ble_eq_true rfl) ⟨dL_same_777, rfl⟩ hn
                                    · refine g_aload_n (pc' := 666) O ⟨dL_same_665, rfl⟩ (q := 1) rfl rfl ?_
                                      refine g_iload_n (pc' := 667) O ⟨dL_same_666, rfl⟩ (q := 2) rfl rfl ?_
                                      refine g_aload_n (pc' := 668) O ⟨dL_same_667, rfl⟩ (q := 3) rfl rfl ?_
                                      refine g_aload (pc' := 670) O ⟨dL_same_668, rfl⟩ (q := 4) rfl ?_
                                      obtain ⟨r_248, c_249, E⟩ := bd_of E
                                      refine g_MSi (pc' := 673) O hN ⟨dL_same_670, rfl⟩ (y := yL_faults) (As := [.ref (ad 0), .int x1, .ref b0, .ref b4]) (st := []) (put := (fun g => (g.1, g.2.1, r1, r2, r3, g.2.2, r_1.2, r6_229, r_15))) sub_X8_X0_4 (t_L_faults l D ad cy hfl b0 b4 c_249) kw_805 kw_24 kw_803 kw_804 hd_L_faults ⟨Nat.le_of_ble_eq_true rfl, Nat.le_of_ble_eq_true rfl⟩ ⟨Nat.le_of_ble_eq_true rfl, Nat.le_of_ble_eq_true rfl⟩ rfl (Nat.le_of_ble_eq_true rfl) ?_
                                      show G l D X 20 (WX8 ad cy 24 40 6 36 4 24 6 6 b0 b1 b2 b3 b4 b5 b6 b7) 43 294 (r_248.2, r0, r1, r2, r3, r4, r_1.2, r6_229, r_15) 673 [(19, .int r_230), (0, .ref (ad 0)), (1, .int x1), (2, .ref b0), (6, .ref b4), (7, .int (r4 (0 : Int32).toNatClampNeg)), (9, .ref b6), (15, .int (0 : Int32))] [.int r_248.1]
                                      refine g_if_eq (pc' := 676) O ⟨dL_same_673, rfl⟩ E (tgt := 776) (by decide) (fun E => ?_) (fun E => ?_)
                                      · refine g_iconst (pc' := 777) O ⟨dL_same_776, rfl⟩ (v := (0 : Int32)) rfl ?_
                                        obtain ⟨hn, E⟩ := ckz_of E
                                        cases E
                                        refine g_drop (wf := (WX5 ad cy 24 40 6 36 4 b0 b1 b2 b3 b4)) (h := (r_248.2, r0, r1, r2, r3, r4)) (List.range 40) rfl rfl (by decide) ?_
                                        exact hret _ _ _ _ _ (Nat.le_of_ble_eq_true rfl) (Nat.le_of_ble_eq_true rfl) ⟨dL_same_777, rfl⟩ hn
                                      · refine g_goto (pc' := 679) O ⟨dL_same_676, rfl⟩ (tgt := 772) (by decide) ?_
                                        refine g_iconst (pc' := 773) O ⟨dL_same_772, rfl⟩ (v := (1 : Int32)) rfl ?_
                                        refine g_goto (pc' := 776) O ⟨dL_same_773, rfl⟩ (tgt := 777) (by decide) ?_
                                        obtain ⟨hn, E⟩ := ckz_of E
                                        cases E
                                        refine g_drop (wf := (WX5 ad cy 24 40 6 36 4 b0 b1 b2 b3 b4)) (h := (r_248.2, r0, r1, r2, r3, r4)) (List.range 40) rfl rfl (by decide) ?_
                                        exact hret _ _ _ _ _ (Nat.le_of_ble_eq_true rfl) (Nat.le_of_ble_eq_true rfl) ⟨dL_same_777, rfl⟩ hn
                                  · refine g_aload_n (pc' := 644) O ⟨dL_same_643, rfl⟩ (q := 1) rfl rfl ?_
                                    refine g_iload_n (pc' := 645) O ⟨dL_same_644, rfl⟩ (q := 2) rfl rfl ?_
                                    refine g_aload (pc' := 647) O ⟨dL_same_645, rfl⟩ (q := 6) rfl ?_
                                    refine g_aload_n (pc' := 648) O ⟨dL_same_647, rfl⟩ (q := 3) rfl rfl ?_
                                    refine g_aload (pc' := 650) O ⟨dL_same_648, rfl⟩ (q := 4) rfl ?_
                                    obtain ⟨r_250, c_251, E⟩ := bd_of E
                                    refine g_MSi (pc' := 653) O hN ⟨dL_same_650, rfl⟩ (y := yL_rows) (As := [.ref (ad 0), .int x1, .ref b6, .ref b0, .ref b4]) (st := []) (put := (fun g => (g.1, g.2.2.1, r1, r2, r3, g.2.2.2, r_1.2, g.2.1, r_15))) sub_X8_X6_0_4 (t_L_rows l D ad cy hfl b6 b0 b4 c_251) kw_714 kw_24 kw_712 kw_713 hd_L_rows ⟨Nat.le_of_ble_eq_true rfl, Nat.le_of_ble_eq_true rfl⟩ ⟨Nat.le_of_ble_eq_true rfl, Nat.le_of_ble_eq_true rfl⟩ rfl (Nat.le_of_ble_eq_true rfl) ?_
                                    show G l D X 20 (WX8 ad cy 24 40 6 36 4 24 6 6 b0 b1 b2 b3 b4 b5 b6 b7) 45 306 (r_250.2, r0, r1, r2, r3, r4, r_1.2, r6_229, r_15) 653 [(19, .int r_230), (0, .ref (ad 0)), (1, .int x1), (2, .ref b0), (6, .ref b4), (7, .int (r4 (0 : Int32).toNatClampNeg)), (9, .ref b6), (15, .int (0 : Int32))] [.int r_250.1]
                                    refine g_if_eq (pc' := 656) O ⟨dL_same_653, rfl⟩ E (tgt := 776) (by decide) (fun E => ?_) (fun E => ?_)
                                    · refine g_iconst (pc' := 777) O ⟨dL_same_776, rfl⟩ (v := (0 : Int32)) rfl ?_
                                      obtain ⟨hn, E⟩ := ckz_of E
                                      cases E
                                      refine g_drop (wf := (WX5 ad cy 24 40 6 36 4 b0 b1 b2 b3 b4)) (h := (r_250.2, r0, r1, r2, r3, r4)) (List.range 40) rfl rfl (by decide) ?_
                                      exact hret _ _ _ _ _ (Nat.le_of_ble_eq_true rfl) (Nat.le_of_ble_eq_true rfl) ⟨dL_same_777, rfl⟩ hn
                                    · refine g_goto (pc' := 659) O ⟨dL_same_656, rfl⟩ (tgt := 772) (by decide) ?_
                                      refine g_iconst (pc' := 773) O ⟨dL_same_772, rfl⟩ (v := (1 : Int32)) rfl ?_
                                      refine g_goto (pc' := 776) O ⟨dL_same_773, rfl⟩ (tgt := 777) (by decide) ?_
                                      obtain ⟨hn, E⟩ := ckz_of E
                                      cases E
                                      refine g_drop (wf := (WX5 ad cy 24 40 6 36 4 b0 b1 b2 b3 b4)) (h := (r_250.2, r0, r1, r2, r3, r4)) (List.range 40) rfl rfl (by decide) ?_
                                      exact hret _ _ _ _ _ (Nat.le_of_ble_eq_true rfl) (Nat.le_of_ble_eq_true rfl) ⟨dL_same_777, rfl⟩ hn
                              · intro k624 hk624 E
                                refine g_sub (lv' := [(0, .ref (ad 0)), (1, .int x1), (2, .ref b0), (6, .ref b4), (7, .int (r4 (0 : Int32).toNatClampNeg)), (9, .ref b6), (15, .int (0 : Int32)), (19, .int r_227)]) [1, 2, 3, 4, 5, 6, 7, 0] rfl ?_
                                refine fx2_of (P := fun (x19_252 : Int32) (r6_253 : Row) => G l D X 20 (WX8 ad cy 24 40 6 36 4 24 6 6 b0 b1 b2 b3 b4 b5 b6 b7) 39 270 (r_92.2, r0, r1, r2, r3, r4, r_1.2, r6_253, r_15) 605 [(0, .ref (ad 0)), (1, .int x1), (2, .ref b0), (6, .ref b4), (7, .int (r4 (0 : Int32).toNatClampNeg)), (9, .ref b6), (15, .int (0 : Int32)), (19, .int x19_252)] []) ?_ _ _ _ E
                                intro self ih605 x19_252 r6_253 E
                                show G l D X 20 (WX8 ad cy 24 40 6 36 4 24 6 6 b0 b1 b2 b3 b4 b5 b6 b7) 39 270 (r_92.2, r0, r1, r2, r3, r4, r_1.2, r6_253, r_15) 605 [(0, .ref (ad 0)), (1, .int x1), (2, .ref b0), (6, .ref b4), (7, .int (r4 (0 : Int32).toNatClampNeg)), (9, .ref b6), (15, .int (0 : Int32)), (19, .int x19_252)] []
                                unfold L_L_same_605 at E
                                refine g_iload (pc' := 607) O ⟨dL_same_605, rfl⟩ (q := 7) rfl ?_
                                refine g_if_le (pc' := 610) O ⟨dL_same_607, rfl⟩ E (tgt := 624) (by decide) (fun E => ?_) (fun E => ?_)
                                · refine g_sub (lv' := [(0, .ref (ad 0)), (1, .int x1), (2, .ref b0), (6, .ref b4), (7, .int (r4 (0 : Int32).toNatClampNeg)), (9, .ref b6), (15, .int (0 : Int32))]) [0, 1, 2, 3, 4, 5, 6] rfl ?_
                                  exact hk624 _ E
                                · refine g_aload (pc' := 612) O ⟨dL_same_610, rfl⟩ (q := 5) rfl ?_
                                  refine g_iload (pc' := 614) O ⟨dL_same_612, rfl⟩ (q := 4) rfl ?_
                                  obtain ⟨r_254, c_255, E⟩ := bd_of E
                                  refine g_MSi (pc' := 617) O hN ⟨dL_same_614, rfl⟩ (y := yL_next) (As := [.ref b6, .int (r4 (0 : Int32).toNatClampNeg)]) (st := []) (put := (fun g => (r_92.2, r0, r1, r2, r3, r4, r_1.2, g, r_15))) sub_X8_A6 (t_L_next l D cy hfl b6 c_255) kw_553 kw_24 kw_551 kw_552 hd_L_next ⟨Nat.le_of_ble_eq_true rfl, Nat.le_of_ble_eq_true rfl⟩ ⟨Nat.le_of_ble_eq_true rfl, Nat.le_of_ble_eq_true rfl⟩ rfl (Nat.le_of_ble_eq_true rfl) ?_
                                  show G l D X 20 (WX8 ad cy 24 40 6 36 4 24 6 6 b0 b1 b2 b3 b4 b5 b6 b7) 39 270 (r_92.2, r0, r1, r2, r3, r4, r_1.2, r_254.2, r_15) 617 [(0, .ref (ad 0)), (1, .int x1), (2, .ref b0), (6, .ref b4), (7, .int (r4 (0 : Int32).toNatClampNeg)), (9, .ref b6), (15, .int (0 : Int32)), (19, .int x19_252)] [.int r_254.1]
                                  refine g_pop (pc' := 618) O ⟨dL_same_617, rfl⟩ rfl ?_
                                  refine g_iinc (pc' := 621) O ⟨dL_same_618, rfl⟩ (q := 7) (v := x19_252 + (-1 : Int32)) (lv' := [(19, .int (x19_252 + (-1 : Int32))), (0, .ref (ad 0)), (1, .int x1), (2, .ref b0), (6, .ref b4), (7, .int (r4 (0 : Int32).toNatClampNeg)), (9, .ref b6), (15, .int (0 : Int32))]) rfl rfl (by decide) rfl ?_
                                  refine g_goto (pc' := 624) O ⟨dL_same_621, rfl⟩ (tgt := 605) (by decide) ?_
                                  refine g_sub (lv' := [(0, .ref (ad 0)), (1, .int x1), (2, .ref b0), (6, .ref b4), (7, .int (r4 (0 : Int32).toNatClampNeg)), (9, .ref b6), (15, .int (0 : Int32)), (19, .int (x19_252 + (-1 : Int32)))]) [1, 2, 3, 4, 5, 6, 7, 0] rfl ?_
                                  exact ih605 _ _ E
                            · intro k595 hk595 E
                              refine g_sub (lv' := [(0, .ref (ad 0)), (1, .int x1), (2, .ref b0), (6, .ref b4), (7, .int (r4 (0 : Int32).toNatClampNeg)), (9, .ref b6), (15, .int (0 : Int32)), (19, .int (0 : Int32))]) [4, 5, 6, 8, 9, 10, 1, 0] rfl ?_
                              refine fx2_of (P := fun (x19_256 : Int32) (r6_257 : Row) => G l D X 20 (WX8 ad cy 24 40 6 36 4 24 6 6 b0 b1 b2 b3 b4 b5 b6 b7) 39 270 (r_92.2, r0, r1, r2, r3, r4, r_1.2, r6_257, r_15) 575 [(0, .ref (ad 0)), (1, .int x1), (2, .ref b0), (6, .ref b4), (7, .int (r4 (0 : Int32).toNatClampNeg)), (9, .ref b6), (15, .int (0 : Int32)), (19, .int x19_256)] []) ?_ _ _ _ E
                              intro self ih575 x19_256 r6_257 E
                              show G l D X 20 (WX8 ad cy 24 40 6 36 4 24 6 6 b0 b1 b2 b3 b4 b5 b6 b7) 39 270 (r_92.2, r0, r1, r2, r3, r4, r_1.2, r6_257, r_15) 575 [(0, .ref (ad 0)), (1, .int x1), (2, .ref b0), (6, .ref b4), (7, .int (r4 (0 : Int32).toNatClampNeg)), (9, .ref b6), (15, .int (0 : Int32)), (19, .int x19_256)] []
                              unfold L_L_same_575 at E
                              refine g_iload (pc' := 577) O ⟨dL_same_575, rfl⟩ (q := 7) rfl ?_
                              refine g_iload (pc' := 579) O ⟨dL_same_577, rfl⟩ (q := 4) rfl ?_
                              refine g_icmp_ge (pc' := 582) O ⟨dL_same_579, rfl⟩ E (tgt := 595) (by decide) (fun E => ?_) (fun E => ?_)
                              · refine g_sub (lv' := [(0, .ref (ad 0)), (1, .int x1), (2, .ref b0), (6, .ref b4), (7, .int (r4 (0 : Int32).toNatClampNeg)), (9, .ref b6), (15, .int (0 : Int32))]) [0, 1, 2, 3, 4, 5, 6] rfl ?_
                                exact hk595 _ E
                              · refine g_aload (pc' := 584) O ⟨dL_same_582, rfl⟩ (q := 5) rfl ?_
                                refine g_iload (pc' := 586) O ⟨dL_same_584, rfl⟩ (q := 7) rfl ?_
                                refine g_iload (pc' := 588) O ⟨dL_same_586, rfl⟩ (q := 7) rfl ?_
                                refine g_iast (pc' := 589) O ⟨dL_same_588, rfl⟩ zX8_6 zsX8_6 E (fun E => ?_)
                                refine g_nmr (Go := fun (r6_258 : Row) => G l D X 20 (WX8 ad cy 24 40 6 36 4 24 6 6 b0 b1 b2 b3 b4 b5 b6 b7) 39 270 (r_92.2, r0, r1, r2, r3, r4, r_1.2, r6_258, r_15) 589 [(0, .ref (ad 0)), (1, .int x1), (2, .ref b0), (6, .ref b4), (7, .int (r4 (0 : Int32).toNatClampNeg)), (9, .ref b6), (15, .int (0 : Int32)), (19, .int x19_256)] []) E (fun r6_258 E => ?_)
                                show G l D X 20 (WX8 ad cy 24 40 6 36 4 24 6 6 b0 b1 b2 b3 b4 b5 b6 b7) 39 270 (r_92.2, r0, r1, r2, r3, r4, r_1.2, r6_258, r_15) 589 [(0, .ref (ad 0)), (1, .int x1), (2, .ref b0), (6, .ref b4), (7, .int (r4 (0 : Int32).toNatClampNeg)), (9, .ref b6), (15, .int (0 : Int32)), (19, .int x19_256)] []
                                refine g_iinc (pc' := 592) O ⟨dL_same_589, rfl⟩ (q := 7) (v := x19_256 + (1 : Int32)) (lv' := [(19, .int (x19_256 + (1 : Int32))), (0, .ref (ad 0)), (1, .int x1), (2, .ref b0), (6, .ref b4), (7, .int (r4 (0 : Int32).toNatClampNeg)), (9, .ref b6), (15, .int (0 : Int32))]) rfl rfl (by decide) rfl ?_
                                refine g_goto (pc' := 595) O ⟨dL_same_592, rfl⟩ (tgt := 575) (by decide) ?_
                                refine g_sub (lv' := [(0, .ref (ad 0)), (1, .int x1), (2, .ref b0), (6, .ref b4), (7, .int (r4 (0 : Int32).toNatClampNeg)), (9, .ref b6), (15, .int (0 : Int32)), (19, .int (x19_256 + (1 : Int32)))]) [1, 2, 3, 4, 5, 6, 7, 0] rfl ?_
                                exact ih575 _ _ E
                          · refine g_sub (lv' := [(0, .ref (ad 0)), (1, .int x1), (2, .ref b0), (6, .ref b4), (7, .int (r4 (0 : Int32).toNatClampNeg)), (9, .ref b6)]) [2, 3, 4, 6, 7, 8] rfl ?_
                            exact hk565 E
                    · refine g_iload (pc' := 512) O ⟨dL_same_510, rfl⟩ (q := 0) rfl ?_
                      refine g_iload (pc' := 514) O ⟨dL_same_512, rfl⟩ (q := 1) rfl ?_
                      refine g_iconst (pc' := 515) O ⟨dL_same_514, rfl⟩ (v := (3 : Int32)) rfl ?_
                      refine jn1_of (P := fun (z_259 : Int32) => G l D X 20 (WX8 ad cy 24 40 6 36 4 24 6 6 b0 b1 b2 b3 b4 b5 b6 b7) 39 270 (r_92.2, r0, r1, r2, r3, r4, r_1.2, (fun _ => 0), r_15) 536 [(0, .ref (ad 0)), (1, .int x1), (2, .ref b0), (6, .ref b4), (7, .int (r4 (0 : Int32).toNatClampNeg)), (9, .ref b6)] [.int z_259, .int r_22.1]) E ?_ ?_
                      · intro z_259 E
                        show G l D X 20 (WX8 ad cy 24 40 6 36 4 24 6 6 b0 b1 b2 b3 b4 b5 b6 b7) 39 270 (r_92.2, r0, r1, r2, r3, r4, r_1.2, (fun _ => 0), r_15) 536 [(0, .ref (ad 0)), (1, .int x1), (2, .ref b0), (6, .ref b4), (7, .int (r4 (0 : Int32).toNatClampNeg)), (9, .ref b6)] [.int z_259, .int r_22.1]
                        refine g_icmp_ne (pc' := 539) O ⟨dL_same_536, rfl⟩ E (tgt := 569) (by decide) (fun E => ?_) (fun E => ?_)
                        · refine g_iconst (pc' := 570) O ⟨dL_same_569, rfl⟩ (v := (0 : Int32)) rfl ?_
                          refine g_istore (pc' := 572) O ⟨dL_same_570, rfl⟩ (lv' := [(15, .int (0 : Int32)), (0, .ref (ad 0)), (1, .int x1), (2, .ref b0), (6, .ref b4), (7, .int (r4 (0 : Int32).toNatClampNeg)), (9, .ref b6)]) (by decide) rfl ?_
                          refine g_iconst (pc' := 573) O ⟨dL_same_572, rfl⟩ (v := (0 : Int32)) rfl ?_
                          refine g_istore (pc' := 575) O ⟨dL_same_573, rfl⟩ (lv' := [(19, .int (0 : Int32)), (15, .int (0 : Int32)), (0, .ref (ad 0)), (1, .int x1), (2, .ref b0), (6, .ref b4), (7, .int (r4 (0 : Int32).toNatClampNeg)), (9, .ref b6)]) (by decide) rfl ?_
                          refine jn1_of (P := fun (r6_260 : Row) => G l D X 20 (WX8 ad cy 24 40 6 36 4 24 6 6 b0 b1 b2 b3 b4 b5 b6 b7) 39 270 (r_92.2, r0, r1, r2, r3, r4, r_1.2, r6_260, r_15) 595 [(0, .ref (ad 0)), (1, .int x1), (2, .ref b0), (6, .ref b4), (7, .int (r4 (0 : Int32).toNatClampNeg)), (9, .ref b6), (15, .int (0 : Int32))] []) E ?_ ?_
                          · intro r6_260 E
                            show G l D X 20 (WX8 ad cy 24 40 6 36 4 24 6 6 b0 b1 b2 b3 b4 b5 b6 b7) 39 270 (r_92.2, r0, r1, r2, r3, r4, r_1.2, r6_260, r_15) 595 [(0, .ref (ad 0)), (1, .int x1), (2, .ref b0), (6, .ref b4), (7, .int (r4 (0 : Int32).toNatClampNeg)), (9, .ref b6), (15, .int (0 : Int32))] []
                            refine g_iload_n (pc' := 596) O ⟨dL_same_595, rfl⟩ (q := 1) rfl rfl ?_
                            refine g_iconst (pc' := 597) O ⟨dL_same_596, rfl⟩ (v := (5 : Int32)) rfl ?_
                            refine g_ishr (pc' := 598) O ⟨dL_same_597, rfl⟩ ?_
                            refine g_bipush (pc' := 600) O ⟨dL_same_598, rfl⟩ (v := (120 : Int32)) rfl ?_
                            obtain ⟨r_261, c_262, E⟩ := bd_of E
                            refine g_MSi (pc' := 603) O hN ⟨dL_same_600, rfl⟩ (y := yL_low) (As := [.int (ishr x1 (5 : Int32)), .int (120 : Int32)]) (st := []) (put := (fun g => (r_92.2, r0, r1, r2, r3, r4, r_1.2, r6_260, r_15))) sub_X8_A (t_L_low l D cy hfl c_262) kw_408 kw_24 kw_406 kw_407 hd_L_low ⟨Nat.le_of_ble_eq_true rfl, Nat.le_of_ble_eq_true rfl⟩ ⟨Nat.le_of_ble_eq_true rfl, Nat.le_of_ble_eq_true rfl⟩ rfl (Nat.le_of_ble_eq_true rfl) ?_
                            show G l D X 20 (WX8 ad cy 24 40 6 36 4 24 6 6 b0 b1 b2 b3 b4 b5 b6 b7) 39 270 (r_92.2, r0, r1, r2, r3, r4, r_1.2, r6_260, r_15) 603 [(0, .ref (ad 0)), (1, .int x1), (2, .ref b0), (6, .ref b4), (7, .int (r4 (0 : Int32).toNatClampNeg)), (9, .ref b6), (15, .int (0 : Int32))] [.int r_261]
                            refine g_istore (pc' := 605) O ⟨dL_same_603, rfl⟩ (lv' := [(19, .int r_261), (0, .ref (ad 0)), (1, .int x1), (2, .ref b0), (6, .ref b4), (7, .int (r4 (0 : Int32).toNatClampNeg)), (9, .ref b6), (15, .int (0 : Int32))]) (by decide) rfl ?_
                            refine jn1_of (P := fun (r6_263 : Row) => G l D X 20 (WX8 ad cy 24 40 6 36 4 24 6 6 b0 b1 b2 b3 b4 b5 b6 b7) 39 270 (r_92.2, r0, r1, r2, r3, r4, r_1.2, r6_263, r_15) 624 [(0, .ref (ad 0)), (1, .int x1), (2, .ref b0), (6, .ref b4), (7, .int (r4 (0 : Int32).toNatClampNeg)), (9, .ref b6), (15, .int (0 : Int32))] []) E ?_ ?_
                            · intro r6_263 E
                              show G l D X 20 (WX8 ad cy 24 40 6 36 4 24 6 6 b0 b1 b2 b3 b4 b5 b6 b7) 39 270 (r_92.2, r0, r1, r2, r3, r4, r_1.2, r6_263, r_15) 624 [(0, .ref (ad 0)), (1, .int x1), (2, .ref b0), (6, .ref b4), (7, .int (r4 (0 : Int32).toNatClampNeg)), (9, .ref b6), (15, .int (0 : Int32))] []
                              refine g_iload_n (pc' := 625) O ⟨dL_same_624, rfl⟩ (q := 1) rfl rfl ?_
                              refine g_iconst (pc' := 626) O ⟨dL_same_625, rfl⟩ (v := (3 : Int32)) rfl ?_
                              refine g_ishr (pc' := 627) O ⟨dL_same_626, rfl⟩ ?_
                              refine g_iconst (pc' := 628) O ⟨dL_same_627, rfl⟩ (v := (5 : Int32)) rfl ?_
                              obtain ⟨r_264, c_265, E⟩ := bd_of E
                              refine g_MSi (pc' := 631) O hN ⟨dL_same_628, rfl⟩ (y := yL_low) (As := [.int (ishr x1 (3 : Int32)), .int (5 : Int32)]) (st := []) (put := (fun g => (r_92.2, r0, r1, r2, r3, r4, r_1.2, r6_263, r_15))) sub_X8_A (t_L_low l D cy hfl c_265) kw_408 kw_24 kw_406 kw_407 hd_L_low ⟨Nat.le_of_ble_eq_true rfl, Nat.le_of_ble_eq_true rfl⟩ ⟨Nat.le_of_ble_eq_true rfl, Nat.le_of_ble_eq_true rfl⟩ rfl (Nat.le_of_ble_eq_true rfl) ?_
                              show G l D X 20 (WX8 ad cy 24 40 6 36 4 24 6 6 b0 b1 b2 b3 b4 b5 b6 b7) 39 270 (r_92.2, r0, r1, r2, r3, r4, r_1.2, r6_263, r_15) 631 [(0, .ref (ad 0)), (1, .int x1), (2, .ref b0), (6, .ref b4), (7, .int (r4 (0 : Int32).toNatClampNeg)), (9, .ref b6), (15, .int (0 : Int32))] [.int r_264]
                              refine g_istore (pc' := 633) O ⟨dL_same_631, rfl⟩ (lv' := [(19, .int r_264), (0, .ref (ad 0)), (1, .int x1), (2, .ref b0), (6, .ref b4), (7, .int (r4 (0 : Int32).toNatClampNeg)), (9, .ref b6), (15, .int (0 : Int32))]) (by decide) rfl ?_
                              refine g_iload (pc' := 635) O ⟨dL_same_633, rfl⟩ (q := 7) rfl ?_
                              refine g_if_eq (pc' := 638) O ⟨dL_same_635, rfl⟩ E (tgt := 776) (by decide) (fun E => ?_) (fun E => ?_)
                              · refine g_iconst (pc' := 777) O ⟨dL_same_776, rfl⟩ (v := (0 : Int32)) rfl ?_
                                obtain ⟨hn, E⟩ := ckz_of E
                                cases E
                                refine g_drop (wf := (WX5 ad cy 24 40 6 36 4 b0 b1 b2 b3 b4)) (h := (r_92.2, r0, r1, r2, r3, r4)) (List.range 40) rfl rfl (by decide) ?_
                                exact hret _ _ _ _ _ (Nat.le_of_ble_eq_true rfl) (Nat.le_of_ble_eq_true rfl) ⟨dL_same_777, rfl⟩ hn
                              · refine g_iload (pc' := 640) O ⟨dL_same_638, rfl⟩ (q := 0) rfl ?_
                                refine g_if_ne (pc' := 643) O ⟨dL_same_640, rfl⟩ E (tgt := 659) (by decide) (fun E => ?_) (fun E => ?_)
                                · refine g_iload (pc' := 661) O ⟨dL_same_659, rfl⟩ (q := 0) rfl ?_
                                  refine g_iconst (pc' := 662) O ⟨dL_same_661, rfl⟩ (v := (1 : Int32)) rfl ?_
                                  refine g_icmp_ne (pc' := 665) O ⟨dL_same_662, rfl⟩ E (tgt := 679) (by decide) (fun E => ?_) (fun E => ?_)
                                  · refine g_iload (pc' := 681) O ⟨dL_same_679, rfl⟩ (q := 0) rfl ?_
                                    refine g_iconst (pc' := 682) O ⟨dL_same_681, rfl⟩ (v := (2 : Int32)) rfl ?_
                                    refine g_icmp_ne (pc' := 685) O ⟨dL_same_682, rfl⟩ E (tgt := 707) (by decide) (fun E => ?_) (fun E => ?_)
                                    · refine g_iload (pc' := 709) O ⟨dL_same_707, rfl⟩ (q := 0) rfl ?_
                                      refine g_iconst (pc' := 710) O ⟨dL_same_709, rfl⟩ (v := (3 : Int32)) rfl ?_
                                      refine g_icmp_ne (pc' := 713) O ⟨dL_same_710, rfl⟩ E (tgt := 728) (by decide) (fun E => ?_) (fun E => ?_)
                                      · refine g_iload (pc' := 730) O ⟨dL_same_728, rfl⟩ (q := 5) rfl ?_
                                        refine g_iconst (pc' := 731) O ⟨dL_same_730, rfl⟩ (v := (4 : Int32)) rfl ?_
                                        refine g_icmp_gt (pc' := 734) O ⟨dL_same_731, rfl⟩ E (tgt := 772) (by decide) (fun E => ?_) (fun E => ?_)
                                        · refine g_iconst (pc' := 773) O ⟨dL_same_772, rfl⟩ (v := (1 : Int32)) rfl ?_
                                          refine g_goto (pc' := 776) O ⟨dL_same_773, rfl⟩ (tgt := 777) (by decide) ?_
                                          obtain ⟨hn, E⟩ := ckz_of E
                                          cases E
                                          refine g_drop (wf := (WX5 ad cy 24 40 6 36 4 b0 b1 b2 b3 b4)) (h := (r_92.2, r0, r1, r2, r3, r4)) (List.range 40) rfl rfl (by decide) ?_
                                          exact hret _ _ _ _ _ (Nat.le_of_ble_eq_true rfl) (Nat.le_of_ble_eq_true rfl) ⟨dL_same_777, rfl⟩ hn
                                        · refine g_aload (pc' := 736) O ⟨dL_same_734, rfl⟩ (q := 4) rfl ?_
                                          refine g_iconst (pc' := 737) O ⟨dL_same_736, rfl⟩ (v := (1 : Int32)) rfl ?_
                                          refine g_iald (pc' := 738) O ⟨dL_same_737, rfl⟩ zX8_4 E (fun E => ?_)
                                          refine g_bipush (pc' := 740) O ⟨dL_same_738, rfl⟩ (v := (22 : Int32)) rfl ?_
                                          refine g_icmp_gt (pc' := 743) O ⟨dL_same_740, rfl⟩ E (tgt := 772) (by decide) (fun E => ?_) (fun E => ?_)
                                          · refine g_iconst (pc' := 773) O ⟨dL_same_772, rfl⟩ (v := (1 : Int32)) rfl ?_
                                            refine g_goto (pc' := 776) O ⟨dL_same_773, rfl⟩ (tgt := 777) (by decide) ?_
                                            obtain ⟨hn, E⟩ := ckz_of E
                                            cases E
                                            refine g_drop (wf := (WX5 ad cy 24 40 6 36 4 b0 b1 b2 b3 b4)) (h := (r_92.2, r0, r1, r2, r3, r4)) (List.range 40) rfl rfl (by decide) ?_
                                            exact hret _ _ _ _ _ (Nat.le_of_ble_eq_true rfl) (Nat.le_of_ble_eq_true rfl) ⟨dL_same_777, rfl⟩ hn
                                          · refine g_aload_n (pc' := 744) O ⟨dL_same_743, rfl⟩ (q := 1) rfl rfl ?_
                                            refine g_iconst (pc' := 745) O ⟨dL_same_744, rfl⟩ (v := (2 : Int32)) rfl ?_
                                            obtain ⟨z_269, c_267, e_268, E⟩ := hcatch_of E
                                            refine g_UXi (pc' := 748) O ⟨dL_same_745, rfl⟩ (y := yX10_finishes) (As := [.int (2 : Int32)]) (st := []) (put := (fun g => (g, r0, r1, r2, r3, r4, r_1.2, r6_263, r_15))) sub_X8_X (t_X10_finishes l D ad cy hfl (h := r_92.2) c_267) kw_1014 kw_25 kw_1011 kw_1012 kw_1013 rfl zX8_x hd_X10_finishes ⟨Nat.le_of_ble_eq_true rfl, Nat.le_of_ble_eq_true rfl⟩ ⟨Nat.le_of_ble_eq_true rfl, Nat.le_of_ble_eq_true rfl⟩ rfl (Nat.le_of_ble_eq_true rfl) (fun E1 c q => (by cases e_268 E1 c q)) (fun r_266 q => ?_)
                                            replace E := E r_266 q
                                            show G l D X 20 (WX8 ad cy 24 40 6 36 4 24 6 6 b0 b1 b2 b3 b4 b5 b6 b7) 40 276 (r_266.2, r0, r1, r2, r3, r4, r_1.2, r6_263, r_15) 748 [(19, .int r_264), (0, .ref (ad 0)), (1, .int x1), (2, .ref b0), (6, .ref b4), (7, .int (r4 (0 : Int32).toNatClampNeg)), (9, .ref b6), (15, .int (0 : Int32))] [.int r_266.1]
                                            refine g_iconst (pc' := 749) O ⟨dL_same_748, rfl⟩ (v := (-1 : Int32)) rfl ?_
                                            refine g_iconst (pc' := 750) O ⟨dL_same_749, rfl⟩ (v := (-1 : Int32)) rfl ?_
                                            refine g_aload_n (pc' := 751) O ⟨dL_same_750, rfl⟩ (q := 3) rfl rfl ?_
                                            refine g_aload (pc' := 753) O ⟨dL_same_751, rfl⟩ (q := 4) rfl ?_
                                            obtain ⟨r_270, c_271, E⟩ := bd_of E
                                            refine g_MSi (pc' := 756) O hN ⟨dL_same_753, rfl⟩ (y := yL_done) (As := [.int (-1 : Int32), .int (-1 : Int32), .ref b0, .ref b4]) (st := [.int r_266.1]) (put := (fun g => (r_266.2, g.1, r1, r2, r3, g.2, r_1.2, r6_263, r_15))) sub_X8_A0_4 (t_L_done l D cy hfl b0 b4 c_271) kw_1025 kw_24 kw_1023 kw_1024 hd_L_done ⟨Nat.le_of_ble_eq_true rfl, Nat.le_of_ble_eq_true rfl⟩ ⟨Nat.le_of_ble_eq_true rfl, Nat.le_of_ble_eq_true rfl⟩ rfl (Nat.le_of_ble_eq_true rfl) ?_
                                            show G l D X 20 (WX8 ad cy 24 40 6 36 4 24 6 6 b0 b1 b2 b3 b4 b5 b6 b7) 40 276 (r_266.2, r_270.2, r1, r2, r3, r4, r_1.2, r6_263, r_15) 756 [(19, .int r_264), (0, .ref (ad 0)), (1, .int x1), (2, .ref b0), (6, .ref b4), (7, .int (r4 (0 : Int32).toNatClampNeg)), (9, .ref b6), (15, .int (0 : Int32))] [.int r_270.1, .int r_266.1]
                                            refine jn2_of (P := fun (z_272 : Int32) (r0_273 : Row) => G l D X 20 (WX8 ad cy 24 40 6 36 4 24 6 6 b0 b1 b2 b3 b4 b5 b6 b7) 40 276 (r_266.2, r0_273, r1, r2, r3, r4, r_1.2, r6_263, r_15) 769 [] [.int z_272, .int r_266.1]) E ?_ ?_
                                            · intro z_272 r0_273 E
                                              show G l D X 20 (WX8 ad cy 24 40 6 36 4 24 6 6 b0 b1 b2 b3 b4 b5 b6 b7) 40 276 (r_266.2, r0_273, r1, r2, r3, r4, r_1.2, r6_263, r_15) 769 [] [.int z_272, .int r_266.1]
                                              refine g_icmp_ne (pc' := 772) O ⟨dL_same_769, rfl⟩ E (tgt := 776) (by decide) (fun E => ?_) (fun E => ?_)
                                              · refine g_iconst (pc' := 777) O ⟨dL_same_776, rfl⟩ (v := (0 : Int32)) rfl ?_
                                                obtain ⟨hn, E⟩ := ckz_of E
                                                cases E
                                                refine g_drop (wf := (WX5 ad cy 24 40 6 36 4 b0 b1 b2 b3 b4)) (h := (r_266.2, r0_273, r1, r2, r3, r4)) (List.range 40) rfl rfl (by decide) ?_
                                                exact hret _ _ _ _ _ (Nat.le_of_ble_eq_true rfl) (Nat.le_of_ble_eq_true rfl) ⟨dL_same_777, rfl⟩ hn
                                              · refine g_iconst (pc' := 773) O ⟨dL_same_772, rfl⟩ (v := (1 : Int32)) rfl ?_
                                                refine g_goto (pc' := 776) O ⟨dL_same_773, rfl⟩ (tgt := 777) (by decide) ?_
                                                obtain ⟨hn, E⟩ := ckz_of E
                                                cases E
                                                refine g_drop (wf := (WX5 ad cy 24 40 6 36 4 b0 b1 b2 b3 b4)) (h := (r_266.2, r0_273, r1, r2, r3, r4)) (List.range 40) rfl rfl (by decide) ?_
                                                exact hret _ _ _ _ _ (Nat.le_of_ble_eq_true rfl) (Nat.le_of_ble_eq_true rfl) ⟨dL_same_777, rfl⟩ hn
                                            · intro k769 hk769 E
                                              refine g_if_eq (pc' := 759) O ⟨dL_same_756, rfl⟩ E (tgt := 763) (by decide) (fun E => ?_) (fun E => ?_)
                                              · refine g_aload_n (pc' := 764) O ⟨dL_same_763, rfl⟩ (q := 3) rfl rfl ?_
                                                refine g_aload (pc' := 766) O ⟨dL_same_764, rfl⟩ (q := 4) rfl ?_
                                                obtain ⟨r_274, c_275, E⟩ := bd_of E
                                                refine g_MSi (pc' := 769) O hN ⟨dL_same_766, rfl⟩ (y := yL_finishes) (As := [.ref b0, .ref b4]) (st := [.int r_266.1]) (put := (fun g => (r_266.2, g.1, r1, r2, r3, g.2, r_1.2, r6_263, r_15))) sub_X8_A0_4 (t_L_finishes l D cy hfl b0 b4 c_275) kw_1028 kw_24 kw_1026 kw_1027 hd_L_finishes ⟨Nat.le_of_ble_eq_true rfl, Nat.le_of_ble_eq_true rfl⟩ ⟨Nat.le_of_ble_eq_true rfl, Nat.le_of_ble_eq_true rfl⟩ rfl (Nat.le_of_ble_eq_true rfl) ?_
                                                show G l D X 20 (WX8 ad cy 24 40 6 36 4 24 6 6 b0 b1 b2 b3 b4 b5 b6 b7) 40 276 (r_266.2, r_274.2, r1, r2, r3, r4, r_1.2, r6_263, r_15) 769 [(19, .int r_264), (0, .ref (ad 0)), (1, .int x1), (2, .ref b0), (6, .ref b4), (7, .int (r4 (0 : Int32).toNatClampNeg)), (9, .ref b6), (15, .int (0 : Int32))] [.int r_274.1, .int r_266.1]
                                                refine g_sub (lv' := []) [] rfl ?_
                                                exact hk769 _ _ E
                                              · refine g_iconst (pc' := 760) O ⟨dL_same_759, rfl⟩ (v := (0 : Int32)) rfl ?_
                                                refine g_goto (pc' := 763) O ⟨dL_same_760, rfl⟩ (tgt := 769) (by decide) ?_
                                                refine g_sub (lv' := []) [] rfl ?_
                                                exact hk769 _ _ E
                                      · refine g_aload_n (pc' := 714) O ⟨dL_same_713, rfl⟩ (q := 1) rfl rfl ?_
                                        refine g_aload (pc' := 716) O ⟨dL_same_714, rfl⟩ (q := 6) rfl ?_
                                        refine g_aload_n (pc' := 717) O ⟨dL_same_716, rfl⟩ (q := 3) rfl rfl ?_
                                        refine g_aload (pc' := 719) O ⟨dL_same_717, rfl⟩ (q := 4) rfl ?_
                                        obtain ⟨r_276, c_277, E⟩ := bd_of E
                                        refine g_MSi (pc' := 722) O hN ⟨dL_same_719, rfl⟩ (y := yL_switches) (As := [.ref (ad 0), .ref b6, .ref b0, .ref b4]) (st := []) (put := (fun g => (g.1, g.2.2.1, r1, r2, r3, g.2.2.2, r_1.2, g.2.1, r_15))) sub_X8_X6_0_4 (t_L_switches l D ad cy hfl b6 b0 b4 c_277) kw_979 kw_24 kw_977 kw_978 hd_L_switches ⟨Nat.le_of_ble_eq_true rfl, Nat.le_of_ble_eq_true rfl⟩ ⟨Nat.le_of_ble_eq_true rfl, Nat.le_of_ble_eq_true rfl⟩ rfl (Nat.le_of_ble_eq_true rfl) ?_
                                        show G l D X 20 (WX8 ad cy 24 40 6 36 4 24 6 6 b0 b1 b2 b3 b4 b5 b6 b7) 68 444 (r_276.2, r0, r1, r2, r3, r4, r_1.2, r6_263, r_15) 722 [(19, .int r_264), (0, .ref (ad 0)), (1, .int x1), (2, .ref b0), (6, .ref b4), (7, .int (r4 (0 : Int32).toNatClampNeg)), (9, .ref b6), (15, .int (0 : Int32))] [.int r_276.1]
                                        refine g_if_eq (pc' := 725) O ⟨dL_same_722, rfl⟩ E (tgt := 776) (by decide) (fun E => ?_) (fun E => ?_)
                                        · refine g_iconst (pc' := 777) O ⟨dL_same_776, rfl⟩ (v := (0 : Int32)) rfl ?_
                                          obtain ⟨hn, E⟩ := ckz_of E
                                          cases E
                                          refine g_drop (wf := (WX5 ad cy 24 40 6 36 4 b0 b1 b2 b3 b4)) (h := (r_276.2, r0, r1, r2, r3, r4)) (List.range 40) rfl rfl (by decide) ?_
                                          exact hret _ _ _ _ _ (Nat.le_of_ble_eq_true rfl) (Nat.le_of_ble_eq_true rfl) ⟨dL_same_777, rfl⟩ hn
                                        · refine g_goto (pc' := 728) O ⟨dL_same_725, rfl⟩ (tgt := 772) (by decide) ?_
                                          refine g_iconst (pc' := 773) O ⟨dL_same_772, rfl⟩ (v := (1 : Int32)) rfl ?_
                                          refine g_goto (pc' := 776) O ⟨dL_same_773, rfl⟩ (tgt := 777) (by decide) ?_
                                          obtain ⟨hn, E⟩ := ckz_of E
                                          cases E
                                          refine g_drop (wf := (WX5 ad cy 24 40 6 36 4 b0 b1 b2 b3 b4)) (h := (r_276.2, r0, r1, r2, r3, r4)) (List.range 40) rfl rfl (by decide) ?_
                                          exact hret _ _ _ _ _ (Nat.le_of_ble_eq_true rfl) (Nat.le_of_ble_eq_true rfl) ⟨dL_same_777, rfl⟩ hn
                                    · refine g_aload_n (pc' := 686) O ⟨dL_same_685, rfl⟩ (q := 1) rfl rfl ?_
                                      refine g_iload_n (pc' := 687) O ⟨dL_same_686, rfl⟩ (q := 2) rfl rfl ?_
                                      refine g_bipush (pc' := 689) O ⟨dL_same_687, rfl⟩ (v := (6 : Int32)) rfl ?_
                                      refine g_ishr (pc' := 690) O ⟨dL_same_689, rfl⟩ ?_
                                      refine g_iconst (pc' := 691) O ⟨dL_same_690, rfl⟩ (v := (4 : Int32)) rfl ?_
                                      obtain ⟨r_278, c_279, E⟩ := bd_of E
                                      refine g_MSi (pc' := 694) O hN ⟨dL_same_691, rfl⟩ (y := yL_low) (As := [.int (ishr x1 (6 : Int32)), .int (4 : Int32)]) (st := [.ref (ad 0)]) (put := (fun g => (r_92.2, r0, r1, r2, r3, r4, r_1.2, r6_263, r_15))) sub_X8_A (t_L_low l D cy hfl c_279) kw_408 kw_24 kw_406 kw_407 hd_L_low ⟨Nat.le_of_ble_eq_true rfl, Nat.le_of_ble_eq_true rfl⟩ ⟨Nat.le_of_ble_eq_true rfl, Nat.le_of_ble_eq_true rfl⟩ rfl (Nat.le_of_ble_eq_true rfl) ?_
                                      show G l D X 20 (WX8 ad cy 24 40 6 36 4 24 6 6 b0 b1 b2 b3 b4 b5 b6 b7) 39 270 (r_92.2, r0, r1, r2, r3, r4, r_1.2, r6_263, r_15) 694 [(19, .int r_264), (0, .ref (ad 0)), (1, .int x1), (2, .ref b0), (6, .ref b4), (7, .int (r4 (0 : Int32).toNatClampNeg)), (9, .ref b6), (15, .int (0 : Int32))] [.int r_278, .ref (ad 0)]
                                      refine g_aload (pc' := 696) O ⟨dL_same_694, rfl⟩ (q := 6) rfl ?_
                                      refine g_aload (pc' := 698) O ⟨dL_same_696, rfl⟩ (q := 4) rfl ?_
                                      obtain ⟨r_280, c_281, E⟩ := bd_of E
                                      refine g_MSi (pc' := 701) O hN ⟨dL_same_698, rfl⟩ (y := yL_orders) (As := [.ref (ad 0), .int r_278, .ref b6, .ref b4]) (st := []) (put := (fun g => (g.1, r0, r1, r2, r3, g.2.2, r_1.2, g.2.1, r_15))) sub_X8_X6_4 (t_L_orders l D ad cy hfl b6 b4 c_281) kw_874 kw_24 kw_872 kw_873 hd_L_orders ⟨Nat.le_of_ble_eq_true rfl, Nat.le_of_ble_eq_true rfl⟩ ⟨Nat.le_of_ble_eq_true rfl, Nat.le_of_ble_eq_true rfl⟩ rfl (Nat.le_of_ble_eq_true rfl) ?_
                                      show G l D X 20 (WX8 ad cy 24 40 6 36 4 24 6 6 b0 b1 b2 b3 b4 b5 b6 b7) 51 378 (r_280.2, r0, r1, r2, r3, r4, r_1.2, r6_263, r_15) 701 [(19, .int r_264), (0, .ref (ad 0)), (1, .int x1), (2, .ref b0), (6, .ref b4), (7, .int (r4 (0 : Int32).toNatClampNeg)), (9, .ref b6), (15, .int (0 : Int32))] [.int r_280.1]
                                      refine g_if_eq (pc' := 704) O ⟨dL_same_701, rfl⟩ E (tgt := 776) (by decide) (fun E => ?_) (fun E => ?_)
                                      · refine g_iconst (pc' := 777) O ⟨dL_same_776, rfl⟩ (v := (0 : Int32)) rfl ?_
                                        obtain ⟨hn, E⟩ := ckz_of E
                                        cases E
                                        refine g_drop (wf := (WX5 ad cy 24 40 6 36 4 b0 b1 b2 b3 b4)) (h := (r_280.2, r0, r1, r2, r3, r4)) (List.range 40) rfl rfl (by decide) ?_
                                        exact hret _ _ _ _ _ (Nat.le_of_ble_eq_true rfl) (Nat.le_of_ble_eq_true rfl) ⟨dL_same_777, rfl⟩ hn
                                      · refine g_goto (pc' := 707) O ⟨dL_same_704, rfl⟩ (tgt := 772) (by decide) ?_
                                        refine g_iconst (pc' := 773) O ⟨dL_same_772, rfl⟩ (v := (1 : Int32)) rfl ?_
                                        refine g_goto (pc' := 776) O ⟨dL_same_773, rfl⟩ (tgt := 777) (by decide) ?_
                                        obtain ⟨hn, E⟩ := ckz_of E
                                        cases E
                                        refine g_drop (wf := (WX5 ad cy 24 40 6 36 4 b0 b1 b2 b3 b4)) (h := (r_280.2, r0, r1, r2, r3, r4)) (List.range 40) rfl rfl (by decide) ?_
                                        exact hret _ _ _ _ _ (Nat.le_of_ble_eq_true rfl) (Nat.le_of_ble_eq_true rfl) ⟨dL_same_777, rfl⟩ hn
                                  · refine g_aload_n (pc' := 666) O ⟨dL_same_665, rfl⟩ (q := 1) rfl rfl ?_
                                    refine g_iload_n (pc' := 667) O ⟨dL_same_666, rfl⟩ (q := 2) rfl rfl ?_
                                    refine g_aload_n (pc' := 668) O ⟨dL_same_667, rfl⟩ (q := 3) rfl rfl ?_
                                    refine g_aload (pc' := 670) O ⟨dL_same_668, rfl⟩ (q := 4) rfl ?_
                                    obtain ⟨r_282, c_283, E⟩ := bd_of E
                                    refine g_MSi (pc' := 673) O hN ⟨dL_same_670, rfl⟩ (y := yL_faults) (As := [.ref (ad 0), .int x1, .ref b0, .ref b4]) (st := []) (put := (fun g => (g.1, g.2.1, r1, r2, r3, g.2.2, r_1.2, r6_263, r_15))) sub_X8_X0_4 (t_L_faults l D ad cy hfl b0 b4 c_283) kw_805 kw_24 kw_803 kw_804 hd_L_faults ⟨Nat.le_of_ble_eq_true rfl, Nat.le_of_ble_eq_true rfl⟩ ⟨Nat.le_of_ble_eq_true rfl, Nat.le_of_ble_eq_true rfl⟩ rfl (Nat.le_of_ble_eq_true rfl) ?_
                                    show G l D X 20 (WX8 ad cy 24 40 6 36 4 24 6 6 b0 b1 b2 b3 b4 b5 b6 b7) 43 294 (r_282.2, r0, r1, r2, r3, r4, r_1.2, r6_263, r_15) 673 [(19, .int r_264), (0, .ref (ad 0)), (1, .int x1), (2, .ref b0), (6, .ref b4), (7, .int (r4 (0 : Int32).toNatClampNeg)), (9, .ref b6), (15, .int (0 : Int32))] [.int r_282.1]
                                    refine g_if_eq (pc' := 676) O ⟨dL_same_673, rfl⟩ E (tgt := 776) (by decide) (fun E => ?_) (fun E => ?_)
                                    · refine g_iconst (pc' := 777) O ⟨dL_same_776, rfl⟩ (v := (0 : Int32)) rfl ?_
                                      obtain ⟨hn, E⟩ := ckz_of E
                                      cases E
                                      refine g_drop (wf := (WX5 ad cy 24 40 6 36 4 b0 b1 b2 b3 b4)) (h := (r_282.2, r0, r1, r2, r3, r4)) (List.range 40) rfl rfl (by decide) ?_
                                      exact hret _ _ _ _ _ (Nat.le_of_ble_eq_true rfl) (Nat.le_of_ble_eq_true rfl) ⟨dL_same_777, rfl⟩ hn
                                    · refine g_goto (pc' := 679) O ⟨dL_same_676, rfl⟩ (tgt := 772) (by decide) ?_
                                      refine g_iconst (pc' := 773) O ⟨dL_same_772, rfl⟩ (v := (1 : Int32)) rfl ?_
                                      refine g_goto (pc' := 776) O ⟨dL_same_773, rfl⟩ (tgt := 777) (by decide) ?_
                                      obtain ⟨hn, E⟩ := ckz_of E
                                      cases E
                                      refine g_drop (wf := (WX5 ad cy 24 40 6 36 4 b0 b1 b2 b3 b4)) (h := (r_282.2, r0, r1, r2, r3, r4)) (List.range 40) rfl rfl (by decide) ?_
                                      exact hret _ _ _ _ _ (Nat.le_of_ble_eq_true rfl) (Nat.le_of_ble_eq_true rfl) ⟨dL_same_777, rfl⟩ hn
                                · refine g_aload_n (pc' := 644) O ⟨dL_same_643, rfl⟩ (q := 1) rfl rfl ?_
                                  refine g_iload_n (pc' := 645) O ⟨dL_same_644, rfl⟩ (q := 2) rfl rfl ?_
                                  refine g_aload (pc' := 647) O ⟨dL_same_645, rfl⟩ (q := 6) rfl ?_
                                  refine g_aload_n (pc' := 648) O ⟨dL_same_647, rfl⟩ (q := 3) rfl rfl ?_
                                  refine g_aload (pc' := 650) O ⟨dL_same_648, rfl⟩ (q := 4) rfl ?_
                                  obtain ⟨r_284, c_285, E⟩ := bd_of E
                                  refine g_MSi (pc' := 653) O hN ⟨dL_same_650, rfl⟩ (y := yL_rows) (As := [.ref (ad 0), .int x1, .ref b6, .ref b0, .ref b4]) (st := []) (put := (fun g => (g.1, g.2.2.1, r1, r2, r3, g.2.2.2, r_1.2, g.2.1, r_15))) sub_X8_X6_0_4 (t_L_rows l D ad cy hfl b6 b0 b4 c_285) kw_714 kw_24 kw_712 kw_713 hd_L_rows ⟨Nat.le_of_ble_eq_true rfl, Nat.le_of_ble_eq_true rfl⟩ ⟨Nat.le_of_ble_eq_true rfl, Nat.le_of_ble_eq_true rfl⟩ rfl (Nat.le_of_ble_eq_true rfl) ?_
                                  show G l D X 20 (WX8 ad cy 24 40 6 36 4 24 6 6 b0 b1 b2 b3 b4 b5 b6 b7) 45 306 (r_284.2, r0, r1, r2, r3, r4, r_1.2, r6_263, r_15) 653 [(19, .int r_264), (0, .ref (ad 0)), (1, .int x1), (2, .ref b0), (6, .ref b4), (7, .int (r4 (0 : Int32).toNatClampNeg)), (9, .ref b6), (15, .int (0 : Int32))] [.int r_284.1]
                                  refine g_if_eq (pc' := 656) O ⟨dL_same_653, rfl⟩ E (tgt := 776) (by decide) (fun E => ?_) (fun E => ?_)
                                  · refine g_iconst (pc' := 777) O ⟨dL_same_776, rfl⟩ (v := (0 : Int32)) rfl ?_
                                    obtain ⟨hn, E⟩ := ckz_of E
                                    cases E
                                    refine g_drop (wf := (WX5 ad cy 24 40 6 36 4 b0 b1 b2 b3 b4)) (h := (r_284.2, r0, r1, r2, r3, r4)) (List.range 40) rfl rfl (by decide) ?_
                                    exact hret _ _ _ _ _ (Nat.le_of_ble_eq_true rfl) (Nat.le_of_ble_eq_true rfl) ⟨dL_same_777, rfl⟩ hn
                                  · refine g_goto (pc' := 659) O ⟨dL_same_656, rfl⟩ (tgt := 772) (by decide) ?_
                                    refine g_iconst (pc' := 773) O ⟨dL_same_772, rfl⟩ (v := (1 : Int32)) rfl ?_
                                    refine g_goto (pc' := 776) O ⟨dL_same_773, rfl⟩ (tgt := 777) (by decide) ?_
                                    obtain ⟨hn, E⟩ := ckz_of E
                                    cases E
                                    refine g_drop (wf := (WX5 ad cy 24 40 6 36 4 b0 b1 b2 b3 b4)) (h := (r_284.2, r0, r1, r2, r3, r4)) (List.range 40) rfl rfl (by decide) ?_
                                    exact hret _ _ _ _ _ (Nat.le_of_ble_eq_true rfl) (Nat.le_of_ble_eq_true rfl) ⟨dL_same_777, rfl⟩ hn
                            · intro k624 hk624 E
                              refine g_sub (lv' := [(0, .ref (ad 0)), (1, .int x1), (2, .ref b0), (6, .ref b4), (7, .int (r4 (0 : Int32).toNatClampNeg)), (9, .ref b6), (15, .int (0 : Int32)), (19, .int r_261)]) [1, 2, 3, 4, 5, 6, 7, 0] rfl ?_
                              refine fx2_of (P := fun (x19_286 : Int32) (r6_287 : Row) => G l D X 20 (WX8 ad cy 24 40 6 36 4 24 6 6 b0 b1 b2 b3 b4 b5 b6 b7) 39 270 (r_92.2, r0, r1, r2, r3, r4, r_1.2, r6_287, r_15) 605 [(0, .ref (ad 0)), (1, .int x1), (2, .ref b0), (6, .ref b4), (7, .int (r4 (0 : Int32).toNatClampNeg)), (9, .ref b6), (15, .int (0 : Int32)), (19, .int x19_286)] []) ?_ _ _ _ E
                              intro self ih605 x19_286 r6_287 E
                              show G l D X 20 (WX8 ad cy 24 40 6 36 4 24 6 6 b0 b1 b2 b3 b4 b5 b6 b7) 39 270 (r_92.2, r0, r1, r2, r3, r4, r_1.2, r6_287, r_15) 605 [(0, .ref (ad 0)), (1, .int x1), (2, .ref b0), (6, .ref b4), (7, .int (r4 (0 : Int32).toNatClampNeg)), (9, .ref b6), (15, .int (0 : Int32)), (19, .int x19_286)] []
                              unfold L_L_same_605 at E
                              refine g_iload (pc' := 607) O ⟨dL_same_605, rfl⟩ (q := 7) rfl ?_
                              refine g_if_le (pc' := 610) O ⟨dL_same_607, rfl⟩ E (tgt := 624) (by decide) (fun E => ?_) (fun E => ?_)
                              · refine g_sub (lv' := [(0, .ref (ad 0)), (1, .int x1), (2, .ref b0), (6, .ref b4), (7, .int (r4 (0 : Int32).toNatClampNeg)), (9, .ref b6), (15, .int (0 : Int32))]) [0, 1, 2, 3, 4, 5, 6] rfl ?_
                                exact hk624 _ E
                              · refine g_aload (pc' := 612) O ⟨dL_same_610, rfl⟩ (q := 5) rfl ?_
                                refine g_iload (pc' := 614) O ⟨dL_same_612, rfl⟩ (q := 4) rfl ?_
                                obtain ⟨r_288, c_289, E⟩ := bd_of E
                                refine g_MSi (pc' := 617) O hN ⟨dL_same_614, rfl⟩ (y := yL_next) (As := [.ref b6, .int (r4 (0 : Int32).toNatClampNeg)]) (st := []) (put := (fun g => (r_92.2, r0, r1, r2, r3, r4, r_1.2, g, r_15))) sub_X8_A6 (t_L_next l D cy hfl b6 c_289) kw_553 kw_24 kw_551 kw_552 hd_L_next ⟨Nat.le_of_ble_eq_true rfl, Nat.le_of_ble_eq_true rfl⟩ ⟨Nat.le_of_ble_eq_true rfl, Nat.le_of_ble_eq_true rfl⟩ rfl (Nat.le_of_ble_eq_true rfl) ?_
                                show G l D X 20 (WX8 ad cy 24 40 6 36 4 24 6 6 b0 b1 b2 b3 b4 b5 b6 b7) 39 270 (r_92.2, r0, r1, r2, r3, r4, r_1.2, r_288.2, r_15) 617 [(0, .ref (ad 0)), (1, .int x1), (2, .ref b0), (6, .ref b4), (7, .int (r4 (0 : Int32).toNatClampNeg)), (9, .ref b6), (15, .int (0 : Int32)), (19, .int x19_286)] [.int r_288.1]
                                refine g_pop (pc' := 618) O ⟨dL_same_617, rfl⟩ rfl ?_
                                refine g_iinc (pc' := 621) O ⟨dL_same_618, rfl⟩ (q := 7) (v := x19_286 + (-1 : Int32)) (lv' := [(19, .int (x19_286 + (-1 : Int32))), (0, .ref (ad 0)), (1, .int x1), (2, .ref b0), (6, .ref b4), (7, .int (r4 (0 : Int32).toNatClampNeg)), (9, .ref b6), (15, .int (0 : Int32))]) rfl rfl (by decide) rfl ?_
                                refine g_goto (pc' := 624) O ⟨dL_same_621, rfl⟩ (tgt := 605) (by decide) ?_
                                refine g_sub (lv' := [(0, .ref (ad 0)), (1, .int x1), (2, .ref b0), (6, .ref b4), (7, .int (r4 (0 : Int32).toNatClampNeg)), (9, .ref b6), (15, .int (0 : Int32)), (19, .int (x19_286 + (-1 : Int32)))]) [1, 2, 3, 4, 5, 6, 7, 0] rfl ?_
                                exact ih605 _ _ E
                          · intro k595 hk595 E
                            refine g_sub (lv' := [(0, .ref (ad 0)), (1, .int x1), (2, .ref b0), (6, .ref b4), (7, .int (r4 (0 : Int32).toNatClampNeg)), (9, .ref b6), (15, .int (0 : Int32)), (19, .int (0 : Int32))]) [2, 3, 4, 5, 6, 7, 1, 0] rfl ?_
                            refine fx2_of (P := fun (x19_290 : Int32) (r6_291 : Row) => G l D X 20 (WX8 ad cy 24 40 6 36 4 24 6 6 b0 b1 b2 b3 b4 b5 b6 b7) 39 270 (r_92.2, r0, r1, r2, r3, r4, r_1.2, r6_291, r_15) 575 [(0, .ref (ad 0)), (1, .int x1), (2, .ref b0), (6, .ref b4), (7, .int (r4 (0 : Int32).toNatClampNeg)), (9, .ref b6), (15, .int (0 : Int32)), (19, .int x19_290)] []) ?_ _ _ _ E
                            intro self ih575 x19_290 r6_291 E
                            show G l D X 20 (WX8 ad cy 24 40 6 36 4 24 6 6 b0 b1 b2 b3 b4 b5 b6 b7) 39 270 (r_92.2, r0, r1, r2, r3, r4, r_1.2, r6_291, r_15) 575 [(0, .ref (ad 0)), (1, .int x1), (2, .ref b0), (6, .ref b4), (7, .int (r4 (0 : Int32).toNatClampNeg)), (9, .ref b6), (15, .int (0 : Int32)), (19, .int x19_290)] []
                            unfold L_L_same_575 at E
                            refine g_iload (pc' := 577) O ⟨dL_same_575, rfl⟩ (q := 7) rfl ?_
                            refine g_iload (pc' := 579) O ⟨dL_same_577, rfl⟩ (q := 4) rfl ?_
                            refine g_icmp_ge (pc' := 582) O ⟨dL_same_579, rfl⟩ E (tgt := 595) (by decide) (fun E => ?_) (fun E => ?_)
                            · refine g_sub (lv' := [(0, .ref (ad 0)), (1, .int x1), (2, .ref b0), (6, .ref b4), (7, .int (r4 (0 : Int32).toNatClampNeg)), (9, .ref b6), (15, .int (0 : Int32))]) [0, 1, 2, 3, 4, 5, 6] rfl ?_
                              exact hk595 _ E
                            · refine g_aload (pc' := 584) O ⟨dL_same_582, rfl⟩ (q := 5) rfl ?_
                              refine g_iload (pc' := 586) O ⟨dL_same_584, rfl⟩ (q := 7) rfl ?_
                              refine g_iload (pc' := 588) O ⟨dL_same_586, rfl⟩ (q := 7) rfl ?_
                              refine g_iast (pc' := 589) O ⟨dL_same_588, rfl⟩ zX8_6 zsX8_6 E (fun E => ?_)
                              refine g_nmr (Go := fun (r6_292 : Row) => G l D X 20 (WX8 ad cy 24 40 6 36 4 24 6 6 b0 b1 b2 b3 b4 b5 b6 b7) 39 270 (r_92.2, r0, r1, r2, r3, r4, r_1.2, r6_292, r_15) 589 [(0, .ref (ad 0)), (1, .int x1), (2, .ref b0), (6, .ref b4), (7, .int (r4 (0 : Int32).toNatClampNeg)), (9, .ref b6), (15, .int (0 : Int32)), (19, .int x19_290)] []) E (fun r6_292 E => ?_)
                              show G l D X 20 (WX8 ad cy 24 40 6 36 4 24 6 6 b0 b1 b2 b3 b4 b5 b6 b7) 39 270 (r_92.2, r0, r1, r2, r3, r4, r_1.2, r6_292, r_15) 589 [(0, .ref (ad 0)), (1, .int x1), (2, .ref b0), (6, .ref b4), (7, .int (r4 (0 : Int32).toNatClampNeg)), (9, .ref b6), (15, .int (0 : Int32)), (19, .int x19_290)] []
                              refine g_iinc (pc' := 592) O ⟨dL_same_589, rfl⟩ (q := 7) (v := x19_290 + (1 : Int32)) (lv' := [(19, .int (x19_290 + (1 : Int32))), (0, .ref (ad 0)), (1, .int x1), (2, .ref b0), (6, .ref b4), (7, .int (r4 (0 : Int32).toNatClampNeg)), (9, .ref b6), (15, .int (0 : Int32))]) rfl rfl (by decide) rfl ?_
                              refine g_goto (pc' := 595) O ⟨dL_same_592, rfl⟩ (tgt := 575) (by decide) ?_
                              refine g_sub (lv' := [(0, .ref (ad 0)), (1, .int x1), (2, .ref b0), (6, .ref b4), (7, .int (r4 (0 : Int32).toNatClampNeg)), (9, .ref b6), (15, .int (0 : Int32)), (19, .int (x19_290 + (1 : Int32)))]) [1, 2, 3, 4, 5, 6, 7, 0] rfl ?_
                              exact ih575 _ _ E
                        · refine g_goto (pc' := 542) O ⟨dL_same_539, rfl⟩ (tgt := 565) (by decide) ?_
                          exact hk565 E
                      · intro k536 hk536 E
                        refine g_icmp_le (pc' := 518) O ⟨dL_same_515, rfl⟩ E (tgt := 522) (by decide) (fun E => ?_) (fun E => ?_)
                        · refine g_iload (pc' := 524) O ⟨dL_same_522, rfl⟩ (q := 1) rfl ?_
                          refine g_iconst (pc' := 525) O ⟨dL_same_524, rfl⟩ (v := (3 : Int32)) rfl ?_
                          refine g_icmp_ne (pc' := 528) O ⟨dL_same_525, rfl⟩ E (tgt := 532) (by decide) (fun E => ?_) (fun E => ?_)
                          · refine g_iload (pc' := 534) O ⟨dL_same_532, rfl⟩ (q := 1) rfl ?_
                            refine g_iconst (pc' := 535) O ⟨dL_same_534, rfl⟩ (v := (1 : Int32)) rfl ?_
                            refine g_isub (pc' := 536) O ⟨dL_same_535, rfl⟩ ?_
                            refine g_sub (lv' := [(0, .ref (ad 0)), (1, .int x1), (2, .ref b0), (6, .ref b4), (7, .int (r4 (0 : Int32).toNatClampNeg)), (9, .ref b6)]) [2, 3, 4, 6, 7, 8] rfl ?_
                            exact hk536 _ E
                          · refine g_iconst (pc' := 529) O ⟨dL_same_528, rfl⟩ (v := (2 : Int32)) rfl ?_
                            refine g_goto (pc' := 532) O ⟨dL_same_529, rfl⟩ (tgt := 536) (by decide) ?_
                            refine g_sub (lv' := [(0, .ref (ad 0)), (1, .int x1), (2, .ref b0), (6, .ref b4), (7, .int (r4 (0 : Int32).toNatClampNeg)), (9, .ref b6)]) [2, 3, 4, 6, 7, 8] rfl ?_
                            exact hk536 _ E
                        · refine g_iconst (pc' := 519) O ⟨dL_same_518, rfl⟩ (v := (3 : Int32)) rfl ?_
                          refine g_goto (pc' := 522) O ⟨dL_same_519, rfl⟩ (tgt := 536) (by decide) ?_
                          refine g_sub (lv' := [(0, .ref (ad 0)), (1, .int x1), (2, .ref b0), (6, .ref b4), (7, .int (r4 (0 : Int32).toNatClampNeg)), (9, .ref b6)]) [2, 3, 4, 6, 7, 8] rfl ?_
                          exact hk536 _ E
                  · refine g_iload (pc' := 497) O ⟨dL_same_495, rfl⟩ (q := 0) rfl ?_
                    refine g_iconst (pc' := 498) O ⟨dL_same_497, rfl⟩ (v := (-1 : Int32)) rfl ?_
                    refine g_icmp_ne (pc' := 501) O ⟨dL_same_498, rfl⟩ E (tgt := 569) (by decide) (fun E => ?_) (fun E => ?_)
                    · refine g_iconst (pc' := 570) O ⟨dL_same_569, rfl⟩ (v := (0 : Int32)) rfl ?_
                      refine g_istore (pc' := 572) O ⟨dL_same_570, rfl⟩ (lv' := [(15, .int (0 : Int32)), (18, .int r_22.1), (17, .int r_20), (0, .ref (ad 0)), (1, .int x1), (2, .ref b0), (5, .ref b3), (6, .ref b4), (7, .int (r4 (0 : Int32).toNatClampNeg)), (9, .ref b6), (16, .int x16_18)]) (by decide) rfl ?_
                      refine g_iconst (pc' := 573) O ⟨dL_same_572, rfl⟩ (v := (0 : Int32)) rfl ?_
                      refine g_istore (pc' := 575) O ⟨dL_same_573, rfl⟩ (lv' := [(19, .int (0 : Int32)), (15, .int (0 : Int32)), (18, .int r_22.1), (17, .int r_20), (0, .ref (ad 0)), (1, .int x1), (2, .ref b0), (5, .ref b3), (6, .ref b4), (7, .int (r4 (0 : Int32).toNatClampNeg)), (9, .ref b6), (16, .int x16_18)]) (by decide) rfl ?_
                      refine jn1_of (P := fun (r6_293 : Row) => G l D X 20 (WX8 ad cy 24 40 6 36 4 24 6 6 b0 b1 b2 b3 b4 b5 b6 b7) 39 270 (r_92.2, r0, r1, r2, r3, r4, r_1.2, r6_293, r_15) 595 [(0, .ref (ad 0)), (1, .int x1), (2, .ref b0), (6, .ref b4), (7, .int (r4 (0 : Int32).toNatClampNeg)), (9, .ref b6), (15, .int (0 : Int32))] []) E ?_ ?_
                      · intro r6_293 E
                        show G l D X 20 (WX8 ad cy 24 40 6 36 4 24 6 6 b0 b1 b2 b3 b4 b5 b6 b7) 39 270 (r_92.2, r0, r1, r2, r3, r4, r_1.2, r6_293, r_15) 595 [(0, .ref (ad 0)), (1, .int x1), (2, .ref b0), (6, .ref b4), (7, .int (r4 (0 : Int32).toNatClampNeg)), (9, .ref b6), (15, .int (0 : Int32))] []
                        refine g_iload_n (pc' := 596) O ⟨dL_same_595, rfl⟩ (q := 1) rfl rfl ?_
                        refine g_iconst (pc' := 597) O ⟨dL_same_596, rfl⟩ (v := (5 : Int32)) rfl ?_
                        refine g_ishr (pc' := 598) O ⟨dL_same_597, rfl⟩ ?_
                        refine g_bipush (pc' := 600) O ⟨dL_same_598, rfl⟩ (v := (120 : Int32)) rfl ?_
                        obtain ⟨r_294, c_295, E⟩ := bd_of E
                        refine g_MSi (pc' := 603) O hN ⟨dL_same_600, rfl⟩ (y := yL_low) (As := [.int (ishr x1 (5 : Int32)), .int (120 : Int32)]) (st := []) (put := (fun g => (r_92.2, r0, r1, r2, r3, r4, r_1.2, r6_293, r_15))) sub_X8_A (t_L_low l D cy hfl c_295) kw_408 kw_24 kw_406 kw_407 hd_L_low ⟨Nat.le_of_ble_eq_true rfl, Nat.le_of_ble_eq_true rfl⟩ ⟨Nat.le_of_ble_eq_true rfl, Nat.le_of_ble_eq_true rfl⟩ rfl (Nat.le_of_ble_eq_true rfl) ?_
                        show G l D X 20 (WX8 ad cy 24 40 6 36 4 24 6 6 b0 b1 b2 b3 b4 b5 b6 b7) 39 270 (r_92.2, r0, r1, r2, r3, r4, r_1.2, r6_293, r_15) 603 [(0, .ref (ad 0)), (1, .int x1), (2, .ref b0), (6, .ref b4), (7, .int (r4 (0 : Int32).toNatClampNeg)), (9, .ref b6), (15, .int (0 : Int32))] [.int r_294]
                        refine g_istore (pc' := 605) O ⟨dL_same_603, rfl⟩ (lv' := [(19, .int r_294), (0, .ref (ad 0)), (1, .int x1), (2, .ref b0), (6, .ref b4), (7, .int (r4 (0 : Int32).toNatClampNeg)), (9, .ref b6), (15, .int (0 : Int32))]) (by decide) rfl ?_
                        refine jn1_of (P := fun (r6_296 : Row) => G l D X 20 (WX8 ad cy 24 40 6 36 4 24 6 6 b0 b1 b2 b3 b4 b5 b6 b7) 39 270 (r_92.2, r0, r1, r2, r3, r4, r_1.2, r6_296, r_15) 624 [(0, .ref (ad 0)), (1, .int x1), (2, .ref b0), (6, .ref b4), (7, .int (r4 (0 : Int32).toNatClampNeg)), (9, .ref b6), (15, .int (0 : Int32))] []) E ?_ ?_
                        · intro r6_296 E
                          show G l D X 20 (WX8 ad cy 24 40 6 36 4 24 6 6 b0 b1 b2 b3 b4 b5 b6 b7) 39 270 (r_92.2, r0, r1, r2, r3, r4, r_1.2, r6_296, r_15) 624 [(0, .ref (ad 0)), (1, .int x1), (2, .ref b0), (6, .ref b4), (7, .int (r4 (0 : Int32).toNatClampNeg)), (9, .ref b6), (15, .int (0 : Int32))] []
                          refine g_iload_n (pc' := 625) O ⟨dL_same_624, rfl⟩ (q := 1) rfl rfl ?_
                          refine g_iconst (pc' := 626) O ⟨dL_same_625, rfl⟩ (v := (3 : Int32)) rfl ?_
                          refine g_ishr (pc' := 627) O ⟨dL_same_626, rfl⟩ ?_
                          refine g_iconst (pc' := 628) O ⟨dL_same_627, rfl⟩ (v := (5 : Int32)) rfl ?_
                          obtain ⟨r_297, c_298, E⟩ := bd_of E
                          refine g_MSi (pc' := 631) O hN ⟨dL_same_628, rfl⟩ (y := yL_low) (As := [.int (ishr x1 (3 : Int32)), .int (5 : Int32)]) (st := []) (put := (fun g => (r_92.2, r0, r1, r2, r3, r4, r_1.2, r6_296, r_15))) sub_X8_A (t_L_low l D cy hfl c_298) kw_408 kw_24 kw_406 kw_407 hd_L_low ⟨Nat.le_of_ble_eq_true rfl, Nat.le_of_ble_eq_true rfl⟩ ⟨Nat.le_of_ble_eq_true rfl, Nat.le_of_ble_eq_true rfl⟩ rfl (Nat.le_of_ble_eq_true rfl) ?_
                          show G l D X 20 (WX8 ad cy 24 40 6 36 4 24 6 6 b0 b1 b2 b3 b4 b5 b6 b7) 39 270 (r_92.2, r0, r1, r2, r3, r4, r_1.2, r6_296, r_15) 631 [(0, .ref (ad 0)), (1, .int x1), (2, .ref b0), (6, .ref b4), (7, .int (r4 (0 : Int32).toNatClampNeg)), (9, .ref b6), (15, .int (0 : Int32))] [.int r_297]
                          refine g_istore (pc' := 633) O ⟨dL_same_631, rfl⟩ (lv' := [(19, .int r_297), (0, .ref (ad 0)), (1, .int x1), (2, .ref b0), (6, .ref b4), (7, .int (r4 (0 : Int32).toNatClampNeg)), (9, .ref b6), (15, .int (0 : Int32))]) (by decide) rfl ?_
                          refine g_iload (pc' := 635) O ⟨dL_same_633, rfl⟩ (q := 7) rfl ?_
                          refine g_if_eq (pc' := 638) O ⟨dL_same_635, rfl⟩ E (tgt := 776) (by decide) (fun E => ?_) (fun E => ?_)
                          · refine g_iconst (pc' := 777) O ⟨dL_same_776, rfl⟩ (v := (0 : Int32)) rfl ?_
                            obtain ⟨hn, E⟩ := ckz_of E
                            cases E
                            refine g_drop (wf := (WX5 ad cy 24 40 6 36 4 b0 b1 b2 b3 b4)) (h := (r_92.2, r0, r1, r2, r3, r4)) (List.range 40) rfl rfl (by decide) ?_
                            exact hret _ _ _ _ _ (Nat.le_of_ble_eq_true rfl) (Nat.le_of_ble_eq_true rfl) ⟨dL_same_777, rfl⟩ hn
                          · refine g_iload (pc' := 640) O ⟨dL_same_638, rfl⟩ (q := 0) rfl ?_
                            refine g_if_ne (pc' := 643) O ⟨dL_same_640, rfl⟩ E (tgt := 659) (by decide) (fun E => ?_) (fun E => ?_)
                            · refine g_iload (pc' := 661) O ⟨dL_same_659, rfl⟩ (q := 0) rfl ?_
                              refine g_iconst (pc' := 662) O ⟨dL_same_661, rfl⟩ (v := (1 : Int32)) rfl ?_
                              refine g_icmp_ne (pc' := 665) O ⟨dL_same_662, rfl⟩ E (tgt := 679) (by decide) (fun E => ?_) (fun E => ?_)
                              · refine g_iload (pc' := 681) O ⟨dL_same_679, rfl⟩ (q := 0) rfl ?_
                                refine g_iconst (pc' := 682) O ⟨dL_same_681, rfl⟩ (v := (2 : Int32)) rfl ?_
                                refine g_icmp_ne (pc' := 685) O ⟨dL_same_682, rfl⟩ E (tgt := 707) (by decide) (fun E => ?_) (fun E => ?_)
                                · refine g_iload (pc' := 709) O ⟨dL_same_707, rfl⟩ (q := 0) rfl ?_
                                  refine g_iconst (pc' := 710) O ⟨dL_same_709, rfl⟩ (v := (3 : Int32)) rfl ?_
                                  refine g_icmp_ne (pc' := 713) O ⟨dL_same_710, rfl⟩ E (tgt := 728) (by decide) (fun E => ?_) (fun E => ?_)
                                  · refine g_iload (pc' := 730) O ⟨dL_same_728, rfl⟩ (q := 5) rfl ?_
                                    refine g_iconst (pc' := 731) O ⟨dL_same_730, rfl⟩ (v := (4 : Int32)) rfl ?_
                                    refine g_icmp_gt (pc' := 734) O ⟨dL_same_731, rfl⟩ E (tgt := 772) (by decide) (fun E => ?_) (fun E => ?_)
                                    · refine g_iconst (pc' := 773) O ⟨dL_same_772, rfl⟩ (v := (1 : Int32)) rfl ?_
                                      refine g_goto (pc' := 776) O ⟨dL_same_773, rfl⟩ (tgt := 777) (by decide) ?_
                                      obtain ⟨hn, E⟩ := ckz_of E
                                      cases E
                                      refine g_drop (wf := (WX5 ad cy 24 40 6 36 4 b0 b1 b2 b3 b4)) (h := (r_92.2, r0, r1, r2, r3, r4)) (List.range 40) rfl rfl (by decide) ?_
                                      exact hret _ _ _ _ _ (Nat.le_of_ble_eq_true rfl) (Nat.le_of_ble_eq_true rfl) ⟨dL_same_777, rfl⟩ hn
                                    · refine g_aload (pc' := 736) O ⟨dL_same_734, rfl⟩ (q := 4) rfl ?_
                                      refine g_iconst (pc' := 737) O ⟨dL_same_736, rfl⟩ (v := (1 : Int32)) rfl ?_
                                      refine g_iald (pc' := 738) O ⟨dL_same_737, rfl⟩ zX8_4 E (fun E => ?_)
                                      refine g_bipush (pc' := 740) O ⟨dL_same_738, rfl⟩ (v := (22 : Int32)) rfl ?_
                                      refine g_icmp_gt (pc' := 743) O ⟨dL_same_740, rfl⟩ E (tgt := 772) (by decide) (fun E => ?_) (fun E => ?_)
                                      · refine g_iconst (pc' := 773) O ⟨dL_same_772, rfl⟩ (v := (1 : Int32)) rfl ?_
                                        refine g_goto (pc' := 776) O ⟨dL_same_773, rfl⟩ (tgt := 777) (by decide) ?_
                                        obtain ⟨hn, E⟩ := ckz_of E
                                        cases E
                                        refine g_drop (wf := (WX5 ad cy 24 40 6 36 4 b0 b1 b2 b3 b4)) (h := (r_92.2, r0, r1, r2, r3, r4)) (List.range 40) rfl rfl (by decide) ?_
                                        exact hret _ _ _ _ _ (Nat.le_of_ble_eq_true rfl) (Nat.le_of_ble_eq_true rfl) ⟨dL_same_777, rfl⟩ hn
                                      · refine g_aload_n (pc' := 744) O ⟨dL_same_743, rfl⟩ (q := 1) rfl rfl ?_
                                        refine g_iconst (pc' := 745) O ⟨dL_same_744, rfl⟩ (v := (2 : Int32)) rfl ?_
                                        obtain ⟨z_302, c_300, e_301, E⟩ := hcatch_of E
                                        refine g_UXi (pc' := 748) O ⟨dL_same_745, rfl⟩ (y := yX10_finishes) (As := [.int (2 : Int32)]) (st := []) (put := (fun g => (g, r0, r1, r2, r3, r4, r_1.2, r6_296, r_15))) sub_X8_X (t_X10_finishes l D ad cy hfl (h := r_92.2) c_300) kw_1014 kw_25 kw_1011 kw_1012 kw_1013 rfl zX8_x hd_X10_finishes ⟨Nat.le_of_ble_eq_true rfl, Nat.le_of_ble_eq_true rfl⟩ ⟨Nat.le_of_ble_eq_true rfl, Nat.le_of_ble_eq_true rfl⟩ rfl (Nat.le_of_ble_eq_true rfl) (fun E1 c q => (by cases e_301 E1 c q)) (fun r_299 q => ?_)
                                        replace E := E r_299 q
                                        show G l D X 20 (WX8 ad cy 24 40 6 36 4 24 6 6 b0 b1 b2 b3 b4 b5 b6 b7) 40 276 (r_299.2, r0, r1, r2, r3, r4, r_1.2, r6_296, r_15) 748 [(19, .int r_297), (0, .ref (ad 0)), (1, .int x1), (2, .ref b0), (6, .ref b4), (7, .int (r4 (0 : Int32).toNatClampNeg)), (9, .ref b6), (15, .int (0 : Int32))] [.int r_299.1]
                                        refine g_iconst (pc' := 749) O ⟨dL_same_748, rfl⟩ (v := (-1 : Int32)) rfl ?_
                                        refine g_iconst (pc' := 750) O ⟨dL_same_749, rfl⟩ (v := (-1 : Int32)) rfl ?_
                                        refine g_aload_n (pc' := 751) O ⟨dL_same_750, rfl⟩ (q := 3) rfl rfl ?_
                                        refine g_aload (pc' := 753) O ⟨dL_same_751, rfl⟩ (q := 4) rfl ?_
                                        obtain ⟨r_303, c_304, E⟩ := bd_of E
                                        refine g_MSi (pc' := 756) O hN ⟨dL_same_753, rfl⟩ (y := yL_done) (As := [.int (-1 : Int32), .int (-1 : Int32), .ref b0, .ref b4]) (st := [.int r_299.1]) (put := (fun g => (r_299.2, g.1, r1, r2, r3, g.2, r_1.2, r6_296, r_15))) sub_X8_A0_4 (t_L_done l D cy hfl b0 b4 c_304) kw_1025 kw_24 kw_1023 kw_1024 hd_L_done ⟨Nat.le_of_ble_eq_true rfl, Nat.le_of_ble_eq_true rfl⟩ ⟨Nat.le_of_ble_eq_true rfl, Nat.le_of_ble_eq_true rfl⟩ rfl (Nat.le_of_ble_eq_true rfl) ?_
                                        show G l D X 20 (WX8 ad cy 24 40 6 36 4 24 6 6 b0 b1 b2 b3 b4 b5 b6 b7) 40 276 (r_299.2, r_303.2, r1, r2, r3, r4, r_1.2, r6_296, r_15) 756 [(19, .int r_297), (0, .ref (ad 0)), (1, .int x1), (2, .ref b0), (6, .ref b4), (7, .int (r4 (0 : Int32).toNatClampNeg)), (9, .ref b6), (15, .int (0 : Int32))] [.int r_303.1, .int r_299.1]
                                        refine jn2_of (P := fun (z_305 : Int32) (r0_306 : Row) => G l D X 20 (WX8 ad cy 24 40 6 36 4 24 6 6 b0 b1 b2 b3 b4 b5 b6 b7) 40 276 (r_299.2, r0_306, r1, r2, r3, r4, r_1.2, r6_296, r_15) 769 [] [.int z_305, .int r_299.1]) E ?_ ?_
                                        · intro z_305 r0_306 E
                                          show G l D X 20 (WX8 ad cy 24 40 6 36 4 24 6 6 b0 b1 b2 b3 b4 b5 b6 b7) 40 276 (r_299.2, r0_306, r1, r2, r3, r4, r_1.2, r6_296, r_15) 769 [] [.int z_305, .int r_299.1]
                                          refine g_icmp_ne (pc' := 772) O ⟨dL_same_769, rfl⟩ E (tgt := 776) (by decide) (fun E => ?_) (fun E => ?_)
                                          · refine g_iconst (pc' := 777) O ⟨dL_same_776, rfl⟩ (v := (0 : Int32)) rfl ?_
                                            obtain ⟨hn, E⟩ := ckz_of E
                                            cases E
                                            refine g_drop (wf := (WX5 ad cy 24 40 6 36 4 b0 b1 b2 b3 b4)) (h := (r_299.2, r0_306, r1, r2, r3, r4)) (List.range 40) rfl rfl (by decide) ?_
                                            exact hret _ _ _ _ _ (Nat.le_of_ble_eq_true rfl) (Nat.le_of_ble_eq_true rfl) ⟨dL_same_777, rfl⟩ hn
                                          · refine g_iconst (pc' := 773) O ⟨dL_same_772, rfl⟩ (v := (1 : Int32)) rfl ?_
                                            refine g_goto (pc' := 776) O ⟨dL_same_773, rfl⟩ (tgt := 777) (by decide) ?_
                                            obtain ⟨hn, E⟩ := ckz_of E
                                            cases E
                                            refine g_drop (wf := (WX5 ad cy 24 40 6 36 4 b0 b1 b2 b3 b4)) (h := (r_299.2, r0_306, r1, r2, r3, r4)) (List.range 40) rfl rfl (by decide) ?_
                                            exact hret _ _ _ _ _ (Nat.le_of_ble_eq_true rfl) (Nat.le_of_ble_eq_true rfl) ⟨dL_same_777, rfl⟩ hn
                                        · intro k769 hk769 E
                                          refine g_if_eq (pc' := 759) O ⟨dL_same_756, rfl⟩ E (tgt := 763) (by decide) (fun E => ?_) (fun E => ?_)
                                          · refine g_aload_n (pc' := 764) O ⟨dL_same_763, rfl⟩ (q := 3) rfl rfl ?_
                                            refine g_aload (pc' := 766) O ⟨dL_same_764, rfl⟩ (q := 4) rfl ?_
                                            obtain ⟨r_307, c_308, E⟩ := bd_of E
                                            refine g_MSi (pc' := 769) O hN ⟨dL_same_766, rfl⟩ (y := yL_finishes) (As := [.ref b0, .ref b4]) (st := [.int r_299.1]) (put := (fun g => (r_299.2, g.1, r1, r2, r3, g.2, r_1.2, r6_296, r_15))) sub_X8_A0_4 (t_L_finishes l D cy hfl b0 b4 c_308) kw_1028 kw_24 kw_1026 kw_1027 hd_L_finishes ⟨Nat.le_of_ble_eq_true rfl, Nat.le_of_ble_eq_true rfl⟩ ⟨Nat.le_of_ble_eq_true rfl, Nat.le_of_ble_eq_true rfl⟩ rfl (Nat.le_of_ble_eq_true rfl) ?_
                                            show G l D X 20 (WX8 ad cy 24 40 6 36 4 24 6 6 b0 b1 b2 b3 b4 b5 b6 b7) 40 276 (r_299.2, r_307.2, r1, r2, r3, r4, r_1.2, r6_296, r_15) 769 [(19, .int r_297), (0, .ref (ad 0)), (1, .int x1), (2, .ref b0), (6, .ref b4), (7, .int (r4 (0 : Int32).toNatClampNeg)), (9, .ref b6), (15, .int (0 : Int32))] [.int r_307.1, .int r_299.1]
                                            refine g_sub (lv' := []) [] rfl ?_
                                            exact hk769 _ _ E
                                          · refine g_iconst (pc' := 760) O ⟨dL_same_759, rfl⟩ (v := (0 : Int32)) rfl ?_
                                            refine g_goto (pc' := 763) O ⟨dL_same_760, rfl⟩ (tgt := 769) (by decide) ?_
                                            refine g_sub (lv' := []) [] rfl ?_
                                            exact hk769 _ _ E
                                  · refine g_aload_n (pc' := 714) O ⟨dL_same_713, rfl⟩ (q := 1) rfl rfl ?_
                                    refine g_aload (pc' := 716) O ⟨dL_same_714, rfl⟩ (q := 6) rfl ?_
                                    refine g_aload_n (pc' := 717) O ⟨dL_same_716, rfl⟩ (q := 3) rfl rfl ?_
                                    refine g_aload (pc' := 719) O ⟨dL_same_717, rfl⟩ (q := 4) rfl ?_
                                    obtain ⟨r_309, c_310, E⟩ := bd_of E
                                    refine g_MSi (pc' := 722) O hN ⟨dL_same_719, rfl⟩ (y := yL_switches) (As := [.ref (ad 0), .ref b6, .ref b0, .ref b4]) (st := []) (put := (fun g => (g.1, g.2.2.1, r1, r2, r3, g.2.2.2, r_1.2, g.2.1, r_15))) sub_X8_X6_0_4 (t_L_switches l D ad cy hfl b6 b0 b4 c_310) kw_979 kw_24 kw_977 kw_978 hd_L_switches ⟨Nat.le_of_ble_eq_true rfl, Nat.le_of_ble_eq_true rfl⟩ ⟨Nat.le_of_ble_eq_true rfl, Nat.le_of_ble_eq_true rfl⟩ rfl (Nat.le_of_ble_eq_true rfl) ?_
                                    show G l D X 20 (WX8 ad cy 24 40 6 36 4 24 6 6 b0 b1 b2 b3 b4 b5 b6 b7) 68 444 (r_309.2, r0, r1, r2, r3, r4, r_1.2, r6_296, r_15) 722 [(19, .int r_297), (0, .ref (ad 0)), (1, .int x1), (2, .ref b0), (6, .ref b4), (7, .int (r4 (0 : Int32).toNatClampNeg)), (9, .ref b6), (15, .int (0 : Int32))] [.int r_309.1]
                                    refine g_if_eq (pc' := 725) O ⟨dL_same_722, rfl⟩ E (tgt := 776) (by decide) (fun E => ?_) (fun E => ?_)
                                    · refine g_iconst (pc' := 777) O ⟨dL_same_776, rfl⟩ (v := (0 : Int32)) rfl ?_
                                      obtain ⟨hn, E⟩ := ckz_of E
                                      cases E
                                      refine g_drop (wf := (WX5 ad cy 24 40 6 36 4 b0 b1 b2 b3 b4)) (h := (r_309.2, r0, r1, r2, r3, r4)) (List.range 40) rfl rfl (by decide) ?_
                                      exact hret _ _ _ _ _ (Nat.le_of_ble_eq_true rfl) (Nat.le_of_ble_eq_true rfl) ⟨dL_same_777, rfl⟩ hn
                                    · refine g_goto (pc' := 728) O ⟨dL_same_725, rfl⟩ (tgt := 772) (by decide) ?_
                                      refine g_iconst (pc' := 773) O ⟨dL_same_772, rfl⟩ (v := (1 : Int32)) rfl ?_
                                      refine g_goto (pc' := 776) O ⟨dL_same_773, rfl⟩ (tgt := 777) (by decide) ?_
                                      obtain ⟨hn, E⟩ := ckz_of E
                                      cases E
                                      refine g_drop (wf := (WX5 ad cy 24 40 6 36 4 b0 b1 b2 b3 b4)) (h := (r_309.2, r0, r1, r2, r3, r4)) (List.range 40) rfl rfl (by decide) ?_
                                      exact hret _ _ _ _ _ (Nat.le_of_ble_eq_true rfl) (Nat.le_of_ble_eq_true rfl) ⟨dL_same_777, rfl⟩ hn
                                · refine g_aload_n (pc' := 686) O ⟨dL_same_685, rfl⟩ (q := 1) rfl rfl ?_
                                  refine g_iload_n (pc' := 687) O ⟨dL_same_686, rfl⟩ (q := 2) rfl rfl ?_
                                  refine g_bipush (pc' := 689) O ⟨dL_same_687, rfl⟩ (v := (6 : Int32)) rfl ?_
                                  refine g_ishr (pc' := 690) O ⟨dL_same_689, rfl⟩ ?_
                                  refine g_iconst (pc' := 691) O ⟨dL_same_690, rfl⟩ (v := (4 : Int32)) rfl ?_
                                  obtain ⟨r_311, c_312, E⟩ := bd_of E
                                  refine g_MSi (pc' := 694) O hN ⟨dL_same_691, rfl⟩ (y := yL_low) (As := [.int (ishr x1 (6 : Int32)), .int (4 : Int32)]) (st := [.ref (ad 0)]) (put := (fun g => (r_92.2, r0, r1, r2, r3, r4, r_1.2, r6_296, r_15))) sub_X8_A (t_L_low l D cy hfl c_312) kw_408 kw_24 kw_406 kw_407 hd_L_low ⟨Nat.le_of_ble_eq_true rfl, Nat.le_of_ble_eq_true rfl⟩ ⟨Nat.le_of_ble_eq_true rfl, Nat.le_of_ble_eq_true rfl⟩ rfl (Nat.le_of_ble_eq_true rfl) ?_
                                  show G l D X 20 (WX8 ad cy 24 40 6 36 4 24 6 6 b0 b1 b2 b3 b4 b5 b6 b7) 39 270 (r_92.2, r0, r1, r2, r3, r4, r_1.2, r6_296, r_15) 694 [(19, .int r_297), (0, .ref (ad 0)), (1, .int x1), (2, .ref b0), (6, .ref b4), (7, .int (r4 (0 : Int32).toNatClampNeg)), (9, .ref b6), (15, .int (0 : Int32))] [.int r_311, .ref (ad 0)]
                                  refine g_aload (pc' := 696) O ⟨dL_same_694, rfl⟩ (q := 6) rfl ?_
                                  refine g_aload (pc' := 698) O ⟨dL_same_696, rfl⟩ (q := 4) rfl ?_
                                  obtain ⟨r_313, c_314, E⟩ := bd_of E
                                  refine g_MSi (pc' := 701) O hN ⟨dL_same_698, rfl⟩ (y := yL_orders) (As := [.ref (ad 0), .int r_311, .ref b6, .ref b4]) (st := []) (put := (fun g => (g.1, r0, r1, r2, r3, g.2.2, r_1.2, g.2.1, r_15))) sub_X8_X6_4 (t_L_orders l D ad cy hfl b6 b4 c_314) kw_874 kw_24 kw_872 kw_873 hd_L_orders ⟨Nat.le_of_ble_eq_true rfl, Nat.le_of_ble_eq_true rfl⟩ ⟨Nat.le_of_ble_eq_true rfl, Nat.le_of_ble_eq_true rfl⟩ rfl (Nat.le_of_ble_eq_true rfl) ?_
                                  show G l D X 20 (WX8 ad cy 24 40 6 36 4 24 6 6 b0 b1 b2 b3 b4 b5 b6 b7) 51 378 (r_313.2, r0, r1, r2, r3, r4, r_1.2, r6_296, r_15) 701 [(19, .int r_297), (0, .ref (ad 0)), (1, .int x1), (2, .ref b0), (6, .ref b4), (7, .int (r4 (0 : Int32).toNatClampNeg)), (9, .ref b6), (15, .int (0 : Int32))] [.int r_313.1]
                                  refine g_if_eq (pc' := 704) O ⟨dL_same_701, rfl⟩ E (tgt := 776) (by decide) (fun E => ?_) (fun E => ?_)
                                  · refine g_iconst (pc' := 777) O ⟨dL_same_776, rfl⟩ (v := (0 : Int32)) rfl ?_
                                    obtain ⟨hn, E⟩ := ckz_of E
                                    cases E
                                    refine g_drop (wf := (WX5 ad cy 24 40 6 36 4 b0 b1 b2 b3 b4)) (h := (r_313.2, r0, r1, r2, r3, r4)) (List.range 40) rfl rfl (by decide) ?_
                                    exact hret _ _ _ _ _ (Nat.le_of_ble_eq_true rfl) (Nat.le_of_ble_eq_true rfl) ⟨dL_same_777, rfl⟩ hn
                                  · refine g_goto (pc' := 707) O ⟨dL_same_704, rfl⟩ (tgt := 772) (by decide) ?_
                                    refine g_iconst (pc' := 773) O ⟨dL_same_772, rfl⟩ (v := (1 : Int32)) rfl ?_
                                    refine g_goto (pc' := 776) O ⟨dL_same_773, rfl⟩ (tgt := 777) (by decide) ?_
                                    obtain ⟨hn, E⟩ := ckz_of E
                                    cases E
                                    refine g_drop (wf := (WX5 ad cy 24 40 6 36 4 b0 b1 b2 b3 b4)) (h := (r_313.2, r0, r1, r2, r3, r4)) (List.range 40) rfl rfl (by decide) ?_
                                    exact hret _ _ _ _ _ (Nat.le_of_ble_eq_true rfl) (Nat.le_of_ble_eq_true rfl) ⟨dL_same_777, rfl⟩ hn
                              · refine g_aload_n (pc' := 666) O ⟨dL_same_665, rfl⟩ (q := 1) rfl rfl ?_
                                refine g_iload_n (pc' := 667) O ⟨dL_same_666, rfl⟩ (q := 2) rfl rfl ?_
                                refine g_aload_n (pc' := 668) O ⟨dL_same_667, rfl⟩ (q := 3) rfl rfl ?_
                                refine g_aload (pc' := 670) O ⟨dL_same_668, rfl⟩ (q := 4) rfl ?_
                                obtain ⟨r_315, c_316, E⟩ := bd_of E
                                refine g_MSi (pc' := 673) O hN ⟨dL_same_670, rfl⟩ (y := yL_faults) (As := [.ref (ad 0), .int x1, .ref b0, .ref b4]) (st := []) (put := (fun g => (g.1, g.2.1, r1, r2, r3, g.2.2, r_1.2, r6_296, r_15))) sub_X8_X0_4 (t_L_faults l D ad cy hfl b0 b4 c_316) kw_805 kw_24 kw_803 kw_804 hd_L_faults ⟨Nat.le_of_ble_eq_true rfl, Nat.le_of_ble_eq_true rfl⟩ ⟨Nat.le_of_ble_eq_true rfl, Nat.le_of_ble_eq_true rfl⟩ rfl (Nat.le_of_ble_eq_true rfl) ?_
                                show G l D X 20 (WX8 ad cy 24 40 6 36 4 24 6 6 b0 b1 b2 b3 b4 b5 b6 b7) 43 294 (r_315.2, r0, r1, r2, r3, r4, r_1.2, r6_296, r_15) 673 [(19, .int r_297), (0, .ref (ad 0)), (1, .int x1), (2, .ref b0), (6, .ref b4), (7, .int (r4 (0 : Int32).toNatClampNeg)), (9, .ref b6), (15, .int (0 : Int32))] [.int r_315.1]
                                refine g_if_eq (pc' := 676) O ⟨dL_same_673, rfl⟩ E (tgt := 776) (by decide) (fun E => ?_) (fun E => ?_)
                                · refine g_iconst (pc' := 777) O ⟨dL_same_776, rfl⟩ (v := (0 : Int32)) rfl ?_
                                  obtain ⟨hn, E⟩ := ckz_of E
                                  cases E
                                  refine g_drop (wf := (WX5 ad cy 24 40 6 36 4 b0 b1 b2 b3 b4)) (h := (r_315.2, r0, r1, r2, r3, r4)) (List.range 40) rfl rfl (by decide) ?_
                                  exact hret _ _ _ _ _ (Nat.le_of_ble_eq_true rfl) (Nat.le_of_ble_eq_true rfl) ⟨dL_same_777, rfl⟩ hn
                                · refine g_goto (pc' := 679) O ⟨dL_same_676, rfl⟩ (tgt := 772) (by decide) ?_
                                  refine g_iconst (pc' := 773) O ⟨dL_same_772, rfl⟩ (v := (1 : Int32)) rfl ?_
                                  refine g_goto (pc' := 776) O ⟨dL_same_773, rfl⟩ (tgt := 777) (by decide) ?_
                                  obtain ⟨hn, E⟩ := ckz_of E
                                  cases E
                                  refine g_drop (wf := (WX5 ad cy 24 40 6 36 4 b0 b1 b2 b3 b4)) (h := (r_315.2, r0, r1, r2, r3, r4)) (List.range 40) rfl rfl (by decide) ?_
                                  exact hret _ _ _ _ _ (Nat.le_of_ble_eq_true rfl) (Nat.le_of_ble_eq_true rfl) ⟨dL_same_777, rfl⟩ hn
                            · refine g_aload_n (pc' := 644) O ⟨dL_same_643, rfl⟩ (q := 1) rfl rfl ?_
                              refine g_iload_n (pc' := 645) O ⟨dL_same_644, rfl⟩ (q := 2) rfl rfl ?_
                              refine g_aload (pc' := 647) O ⟨dL_same_645, rfl⟩ (q := 6) rfl ?_
                              refine g_aload_n (pc' := 648) O ⟨dL_same_647, rfl⟩ (q := 3) rfl rfl ?_
                              refine g_aload (pc' := 650) O ⟨dL_same_648, rfl⟩ (q := 4) rfl ?_
                              obtain ⟨r_317, c_318, E⟩ := bd_of E
                              refine g_MSi (pc' := 653) O hN ⟨dL_same_650, rfl⟩ (y := yL_rows) (As := [.ref (ad 0), .int x1, .ref b6, .ref b0, .ref b4]) (st := []) (put := (fun g => (g.1, g.2.2.1, r1, r2, r3, g.2.2.2, r_1.2, g.2.1, r_15))) sub_X8_X6_0_4 (t_L_rows l D ad cy hfl b6 b0 b4 c_318) kw_714 kw_24 kw_712 kw_713 hd_L_rows ⟨Nat.le_of_ble_eq_true rfl, Nat.le_of_ble_eq_true rfl⟩ ⟨Nat.le_of_ble_eq_true rfl, Nat.le_of_ble_eq_true rfl⟩ rfl (Nat.le_of_ble_eq_true rfl) ?_
                              show G l D X 20 (WX8 ad cy 24 40 6 36 4 24 6 6 b0 b1 b2 b3 b4 b5 b6 b7) 45 306 (r_317.2, r0, r1, r2, r3, r4, r_1.2, r6_296, r_15) 653 [(19, .int r_297), (0, .ref (ad 0)), (1, .int x1), (2, .ref b0), (6, .ref b4), (7, .int (r4 (0 : Int32).toNatClampNeg)), (9, .ref b6), (15, .int (0 : Int32))] [.int r_317.1]
                              refine g_if_eq (pc' := 656) O ⟨dL_same_653, rfl⟩ E (tgt := 776) (by decide) (fun E => ?_) (fun E => ?_)
                              · refine g_iconst (pc' := 777) O ⟨dL_same_776, rfl⟩ (v := (0 : Int32)) rfl ?_
                                obtain ⟨hn, E⟩ := ckz_of E
                                cases E
                                refine g_drop (wf := (WX5 ad cy 24 40 6 36 4 b0 b1 b2 b3 b4)) (h := (r_317.2, r0, r1, r2, r3, r4)) (List.range 40) rfl rfl (by decide) ?_
                                exact hret _ _ _ _ _ (Nat.le_of_ble_eq_true rfl) (Nat.le_of_ble_eq_true rfl) ⟨dL_same_777, rfl⟩ hn
                              · refine g_goto (pc' := 659) O ⟨dL_same_656, rfl⟩ (tgt := 772) (by decide) ?_
                                refine g_iconst (pc' := 773) O ⟨dL_same_772, rfl⟩ (v := (1 : Int32)) rfl ?_
                                refine g_goto (pc' := 776) O ⟨dL_same_773, rfl⟩ (tgt := 777) (by decide) ?_
                                obtain ⟨hn, E⟩ := ckz_of E
                                cases E
                                refine g_drop (wf := (WX5 ad cy 24 40 6 36 4 b0 b1 b2 b3 b4)) (h := (r_317.2, r0, r1, r2, r3, r4)) (List.range 40) rfl rfl (by decide) ?_
                                exact hret _ _ _ _ _ (Nat.le_of_ble_eq_true rfl) (Nat.le_of_ble_eq_true rfl) ⟨dL_same_777, rfl⟩ hn
                        · intro k624 hk624 E
                          refine g_sub (lv' := [(0, .ref (ad 0)), (1, .int x1), (2, .ref b0), (6, .ref b4), (7, .int (r4 (0 : Int32).toNatClampNeg)), (9, .ref b6), (15, .int (0 : Int32)), (19, .int r_294)]) [1, 2, 3, 4, 5, 6, 7, 0] rfl ?_
                          refine fx2_of (P := fun (x19_319 : Int32) (r6_320 : Row) => G l D X 20 (WX8 ad cy 24 40 6 36 4 24 6 6 b0 b1 b2 b3 b4 b5 b6 b7) 39 270 (r_92.2, r0, r1, r2, r3, r4, r_1.2, r6_320, r_15) 605 [(0, .ref (ad 0)), (1, .int x1), (2, .ref b0), (6, .ref b4), (7, .int (r4 (0 : Int32).toNatClampNeg)), (9, .ref b6), (15, .int (0 : Int32)), (19, .int x19_319)] []) ?_ _ _ _ E
                          intro self ih605 x19_319 r6_320 E
                          show G l D X 20 (WX8 ad cy 24 40 6 36 4 24 6 6 b0 b1 b2 b3 b4 b5 b6 b7) 39 270 (r_92.2, r0, r1, r2, r3, r4, r_1.2, r6_320, r_15) 605 [(0, .ref (ad 0)), (1, .int x1), (2, .ref b0), (6, .ref b4), (7, .int (r4 (0 : Int32).toNatClampNeg)), (9, .ref b6), (15, .int (0 : Int32)), (19, .int x19_319)] []
                          unfold L_L_same_605 at E
                          refine g_iload (pc' := 607) O ⟨dL_same_605, rfl⟩ (q := 7) rfl ?_
                          refine g_if_le (pc' := 610) O ⟨dL_same_607, rfl⟩ E (tgt := 624) (by decide) (fun E => ?_) (fun E => ?_)
                          · refine g_sub (lv' := [(0, .ref (ad 0)), (1, .int x1), (2, .ref b0), (6, .ref b4), (7, .int (r4 (0 : Int32).toNatClampNeg)), (9, .ref b6), (15, .int (0 : Int32))]) [0, 1, 2, 3, 4, 5, 6] rfl ?_
                            exact hk624 _ E
                          · refine g_aload (pc' := 612) O ⟨dL_same_610, rfl⟩ (q := 5) rfl ?_
                            refine g_iload (pc' := 614) O ⟨dL_same_612, rfl⟩ (q := 4) rfl ?_
                            obtain ⟨r_321, c_322, E⟩ := bd_of E
                            refine g_MSi (pc' := 617) O hN ⟨dL_same_614, rfl⟩ (y := yL_next) (As := [.ref b6, .int (r4 (0 : Int32).toNatClampNeg)]) (st := []) (put := (fun g => (r_92.2, r0, r1, r2, r3, r4, r_1.2, g, r_15))) sub_X8_A6 (t_L_next l D cy hfl b6 c_322) kw_553 kw_24 kw_551 kw_552 hd_L_next ⟨Nat.le_of_ble_eq_true rfl, Nat.le_of_ble_eq_true rfl⟩ ⟨Nat.le_of_ble_eq_true rfl, Nat.le_of_ble_eq_true rfl⟩ rfl (Nat.le_of_ble_eq_true rfl) ?_
                            show G l D X 20 (WX8 ad cy 24 40 6 36 4 24 6 6 b0 b1 b2 b3 b4 b5 b6 b7) 39 270 (r_92.2, r0, r1, r2, r3, r4, r_1.2, r_321.2, r_15) 617 [(0, .ref (ad 0)), (1, .int x1), (2, .ref b0), (6, .ref b4), (7, .int (r4 (0 : Int32).toNatClampNeg)), (9, .ref b6), (15, .int (0 : Int32)), (19, .int x19_319)] [.int r_321.1]
                            refine g_pop (pc' := 618) O ⟨dL_same_617, rfl⟩ rfl ?_
                            refine g_iinc (pc' := 621) O ⟨dL_same_618, rfl⟩ (q := 7) (v := x19_319 + (-1 : Int32)) (lv' := [(19, .int (x19_319 + (-1 : Int32))), (0, .ref (ad 0)), (1, .int x1), (2, .ref b0), (6, .ref b4), (7, .int (r4 (0 : Int32).toNatClampNeg)), (9, .ref b6), (15, .int (0 : Int32))]) rfl rfl (by decide) rfl ?_
                            refine g_goto (pc' := 624) O ⟨dL_same_621, rfl⟩ (tgt := 605) (by decide) ?_
                            refine g_sub (lv' := [(0, .ref (ad 0)), (1, .int x1), (2, .ref b0), (6, .ref b4), (7, .int (r4 (0 : Int32).toNatClampNeg)), (9, .ref b6), (15, .int (0 : Int32)), (19, .int (x19_319 + (-1 : Int32)))]) [1, 2, 3, 4, 5, 6, 7, 0] rfl ?_
                            exact ih605 _ _ E
                      · intro k595 hk595 E
                        refine g_sub (lv' := [(0, .ref (ad 0)), (1, .int x1), (2, .ref b0), (6, .ref b4), (7, .int (r4 (0 : Int32).toNatClampNeg)), (9, .ref b6), (15, .int (0 : Int32)), (19, .int (0 : Int32))]) [4, 5, 6, 8, 9, 10, 1, 0] rfl ?_
                        refine fx2_of (P := fun (x19_323 : Int32) (r6_324 : Row) => G l D X 20 (WX8 ad cy 24 40 6 36 4 24 6 6 b0 b1 b2 b3 b4 b5 b6 b7) 39 270 (r_92.2, r0, r1, r2, r3, r4, r_1.2, r6_324, r_15) 575 [(0, .ref (ad 0)), (1, .int x1), (2, .ref b0), (6, .ref b4), (7, .int (r4 (0 : Int32).toNatClampNeg)), (9, .ref b6), (15, .int (0 : Int32)), (19, .int x19_323)] []) ?_ _ _ _ E
                        intro self ih575 x19_323 r6_324 E
                        show G l D X 20 (WX8 ad cy 24 40 6 36 4 24 6 6 b0 b1 b2 b3 b4 b5 b6 b7) 39 270 (r_92.2, r0, r1, r2, r3, r4, r_1.2, r6_324, r_15) 575 [(0, .ref (ad 0)), (1, .int x1), (2, .ref b0), (6, .ref b4), (7, .int (r4 (0 : Int32).toNatClampNeg)), (9, .ref b6), (15, .int (0 : Int32)), (19, .int x19_323)] []
                        unfold L_L_same_575 at E
                        refine g_iload (pc' := 577) O ⟨dL_same_575, rfl⟩ (q := 7) rfl ?_
                        refine g_iload (pc' := 579) O ⟨dL_same_577, rfl⟩ (q := 4) rfl ?_
                        refine g_icmp_ge (pc' := 582) O ⟨dL_same_579, rfl⟩ E (tgt := 595) (by decide) (fun E => ?_) (fun E => ?_)
                        · refine g_sub (lv' := [(0, .ref (ad 0)), (1, .int x1), (2, .ref b0), (6, .ref b4), (7, .int (r4 (0 : Int32).toNatClampNeg)), (9, .ref b6), (15, .int (0 : Int32))]) [0, 1, 2, 3, 4, 5, 6] rfl ?_
                          exact hk595 _ E
                        · refine g_aload (pc' := 584) O ⟨dL_same_582, rfl⟩ (q := 5) rfl ?_
                          refine g_iload (pc' := 586) O ⟨dL_same_584, rfl⟩ (q := 7) rfl ?_
                          refine g_iload (pc' := 588) O ⟨dL_same_586, rfl⟩ (q := 7) rfl ?_
                          refine g_iast (pc' := 589) O ⟨dL_same_588, rfl⟩ zX8_6 zsX8_6 E (fun E => ?_)
                          refine g_nmr (Go := fun (r6_325 : Row) => G l D X 20 (WX8 ad cy 24 40 6 36 4 24 6 6 b0 b1 b2 b3 b4 b5 b6 b7) 39 270 (r_92.2, r0, r1, r2, r3, r4, r_1.2, r6_325, r_15) 589 [(0, .ref (ad 0)), (1, .int x1), (2, .ref b0), (6, .ref b4), (7, .int (r4 (0 : Int32).toNatClampNeg)), (9, .ref b6), (15, .int (0 : Int32)), (19, .int x19_323)] []) E (fun r6_325 E => ?_)
                          show G l D X 20 (WX8 ad cy 24 40 6 36 4 24 6 6 b0 b1 b2 b3 b4 b5 b6 b7) 39 270 (r_92.2, r0, r1, r2, r3, r4, r_1.2, r6_325, r_15) 589 [(0, .ref (ad 0)), (1, .int x1), (2, .ref b0), (6, .ref b4), (7, .int (r4 (0 : Int32).toNatClampNeg)), (9, .ref b6), (15, .int (0 : Int32)), (19, .int x19_323)] []
                          refine g_iinc (pc' := 592) O ⟨dL_same_589, rfl⟩ (q := 7) (v := x19_323 + (1 : Int32)) (lv' := [(19, .int (x19_323 + (1 : Int32))), (0, .ref (ad 0)), (1, .int x1), (2, .ref b0), (6, .ref b4), (7, .int (r4 (0 : Int32).toNatClampNeg)), (9, .ref b6), (15, .int (0 : Int32))]) rfl rfl (by decide) rfl ?_
                          refine g_goto (pc' := 595) O ⟨dL_same_592, rfl⟩ (tgt := 575) (by decide) ?_
                          refine g_sub (lv' := [(0, .ref (ad 0)), (1, .int x1), (2, .ref b0), (6, .ref b4), (7, .int (r4 (0 : Int32).toNatClampNeg)), (9, .ref b6), (15, .int (0 : Int32)), (19, .int (x19_323 + (1 : Int32)))]) [1, 2, 3, 4, 5, 6, 7, 0] rfl ?_
                          exact ih575 _ _ E
                    · refine g_goto (pc' := 504) O ⟨dL_same_501, rfl⟩ (tgt := 565) (by decide) ?_
                      refine g_sub (lv' := [(0, .ref (ad 0)), (1, .int x1), (2, .ref b0), (6, .ref b4), (7, .int (r4 (0 : Int32).toNatClampNeg)), (9, .ref b6)]) [2, 3, 4, 6, 7, 8] rfl ?_
                      exact hk565 E
        · intro k449 hk449 E
          refine g_sub (lv' := [(0, .ref (ad 0)), (1, .int x1), (2, .ref b0), (5, .ref b3), (6, .ref b4), (7, .int (r4 (0 : Int32).toNatClampNeg)), (9, .ref b6), (10, .ref b7), (15, .int x15_13), (16, .int (1 : Int32)), (17, .int (0 : Int32))]) [2, 3, 4, 6, 7, 8, 9, 10, 11, 1, 0] rfl ?_
          refine fxc4_of (P := fun (m350 : Nat) (x15_326 : Int32) (x16_327 : Int32) (x17_328 : Int32) (h_329 : Hp) => ∀ kq350 nq350 : Nat, kq350 + m350 * 2 ≤ 38 → nq350 + m350 * 12 ≤ 264 → G l D X 20 (WX8 ad cy 24 40 6 36 4 24 6 6 b0 b1 b2 b3 b4 b5 b6 b7) kq350 nq350 (h_329, r0, r1, r2, r3, r4, r_1.2, (fun _ => 0), r_15) 350 [(0, .ref (ad 0)), (1, .int x1), (2, .ref b0), (5, .ref b3), (6, .ref b4), (7, .int (r4 (0 : Int32).toNatClampNeg)), (9, .ref b6), (10, .ref b7), (15, .int x15_326), (16, .int x16_327), (17, .int x17_328)] []) ?_ 8 _ _ _ _ E 22 168 (Nat.le_refl _) (Nat.le_refl _)
          intro m350 self ih350 x15_326 x16_327 x17_328 h_329 E kq350 nq350 hkq350 hnq350
          show G l D X 20 (WX8 ad cy 24 40 6 36 4 24 6 6 b0 b1 b2 b3 b4 b5 b6 b7) kq350 nq350 (h_329, r0, r1, r2, r3, r4, r_1.2, (fun _ => 0), r_15) 350 [(0, .ref (ad 0)), (1, .int x1), (2, .ref b0), (5, .ref b3), (6, .ref b4), (7, .int (r4 (0 : Int32).toNatClampNeg)), (9, .ref b6), (10, .ref b7), (15, .int x15_326), (16, .int x16_327), (17, .int x17_328)] []
          unfold L_L_same_350 at E
          refine g_iload (pc' := 352) O ⟨dL_same_350, rfl⟩ (q := 10) rfl ?_
          refine g_iload (pc' := 354) O ⟨dL_same_352, rfl⟩ (q := 5) rfl ?_
          refine g_icmp_ge (pc' := 357) O ⟨dL_same_354, rfl⟩ E (tgt := 449) (by decide) (fun E => ?_) (fun E => ?_)
          · refine g_sub (lv' := [(0, .ref (ad 0)), (1, .int x1), (2, .ref b0), (5, .ref b3), (6, .ref b4), (7, .int (r4 (0 : Int32).toNatClampNeg)), (9, .ref b6), (15, .int x15_326), (16, .int x16_327)]) [0, 1, 2, 3, 4, 5, 6, 8, 9] rfl ?_
            refine g_widen (k1 := 38) (n1 := 264) (ar_tr (d := 0) hkq350 (Nat.le_of_ble_eq_true rfl) (Nat.le_of_ble_eq_true rfl)) (ar_tr (d := 0) hnq350 (Nat.le_of_ble_eq_true rfl) (Nat.le_of_ble_eq_true rfl)) ?_
            exact hk449 _ _ _ E
          · refine g_iload (pc' := 359) O ⟨dL_same_357, rfl⟩ (q := 8) rfl ?_
            refine g_if_eq (pc' := 362) O ⟨dL_same_359, rfl⟩ E (tgt := 449) (by decide) (fun E => ?_) (fun E => ?_)
            · refine g_sub (lv' := [(0, .ref (ad 0)), (1, .int x1), (2, .ref b0), (5, .ref b3), (6, .ref b4), (7, .int (r4 (0 : Int32).toNatClampNeg)), (9, .ref b6), (15, .int x15_326), (16, .int x16_327)]) [0, 1, 2, 3, 4, 5, 6, 8, 9] rfl ?_
              refine g_widen (k1 := 38) (n1 := 264) (ar_tr (d := 0) hkq350 (Nat.le_of_ble_eq_true rfl) (Nat.le_of_ble_eq_true rfl)) (ar_tr (d := 0) hnq350 (Nat.le_of_ble_eq_true rfl) (Nat.le_of_ble_eq_true rfl)) ?_
              exact hk449 _ _ _ E
            · refine g_aload_n (pc' := 363) O ⟨dL_same_362, rfl⟩ (q := 0) rfl rfl ?_
              refine g_iload (pc' := 365) O ⟨dL_same_363, rfl⟩ (q := 10) rfl ?_
              obtain ⟨z_333, c_331, e_332, E⟩ := hcatch_of E
              refine g_UXi (pc' := 368) O ⟨dL_same_365, rfl⟩ (y := yX10_came) (As := [.int x17_328]) (st := []) (put := (fun g => (g, r0, r1, r2, r3, r4, r_1.2, (fun _ => 0), r_15))) sub_X8_X (t_X10_came l D ad cy hfl (h := h_329) c_331) kw_675 kw_25 kw_672 kw_673 kw_674 rfl zX8_x hd_X10_came ⟨Nat.le_of_ble_eq_true rfl, Nat.le_of_ble_eq_true rfl⟩ ⟨ar_tr (d := 1) hkq350 (Nat.le_of_ble_eq_true rfl) (Nat.le_of_ble_eq_true rfl), ar_tr (d := 6) hnq350 (Nat.le_of_ble_eq_true rfl) (Nat.le_of_ble_eq_true rfl)⟩ rfl (Nat.le_of_ble_eq_true rfl) (fun E1 c q => (by cases e_332 E1 c q)) (fun r_330 q => ?_)
              replace E := E r_330 q
              show G l D X 20 (WX8 ad cy 24 40 6 36 4 24 6 6 b0 b1 b2 b3 b4 b5 b6 b7) (kq350 + 1) (nq350 + 6) (r_330.2, r0, r1, r2, r3, r4, r_1.2, (fun _ => 0), r_15) 368 [(0, .ref (ad 0)), (1, .int x1), (2, .ref b0), (5, .ref b3), (6, .ref b4), (7, .int (r4 (0 : Int32).toNatClampNeg)), (9, .ref b6), (10, .ref b7), (15, .int x15_326), (16, .int x16_327), (17, .int x17_328)] [.int r_330.1]
              refine g_aload (pc' := 370) O ⟨dL_same_368, rfl⟩ (q := 7) rfl ?_
              refine g_iload (pc' := 372) O ⟨dL_same_370, rfl⟩ (q := 10) rfl ?_
              refine g_iald (pc' := 373) O ⟨dL_same_372, rfl⟩ zX8_7 E (fun E => ?_)
              refine jn2_of (P := fun (z_334 : Int32) (h_335 : Hp) => G l D X 20 (WX8 ad cy 24 40 6 36 4 24 6 6 b0 b1 b2 b3 b4 b5 b6 b7) (kq350 + 2) (nq350 + 12) (h_335, r0, r1, r2, r3, r4, r_1.2, (fun _ => 0), r_15) 395 [(0, .ref (ad 0)), (1, .int x1), (2, .ref b0), (5, .ref b3), (6, .ref b4), (7, .int (r4 (0 : Int32).toNatClampNeg)), (9, .ref b6), (10, .ref b7), (16, .int x16_327), (17, .int x17_328)] [.int z_334]) E ?_ ?_
              · intro z_334 h_335 E
                show G l D X 20 (WX8 ad cy 24 40 6 36 4 24 6 6 b0 b1 b2 b3 b4 b5 b6 b7) (kq350 + 2) (nq350 + 12) (h_335, r0, r1, r2, r3, r4, r_1.2, (fun _ => 0), r_15) 395 [(0, .ref (ad 0)), (1, .int x1), (2, .ref b0), (5, .ref b3), (6, .ref b4), (7, .int (r4 (0 : Int32).toNatClampNeg)), (9, .ref b6), (10, .ref b7), (16, .int x16_327), (17, .int x17_328)] [.int z_334]
                refine g_istore (pc' := 397) O ⟨dL_same_395, rfl⟩ (lv' := [(15, .int z_334), (0, .ref (ad 0)), (1, .int x1), (2, .ref b0), (5, .ref b3), (6, .ref b4), (7, .int (r4 (0 : Int32).toNatClampNeg)), (9, .ref b6), (10, .ref b7), (16, .int x16_327), (17, .int x17_328)]) (by decide) rfl ?_
                refine g_iload (pc' := 399) O ⟨dL_same_397, rfl⟩ (q := 9) rfl ?_
                refine g_if_eq (pc' := 402) O ⟨dL_same_399, rfl⟩ E (tgt := 440) (by decide) (fun E => ?_) (fun E => ?_)
                · refine g_iconst (pc' := 441) O ⟨dL_same_440, rfl⟩ (v := (0 : Int32)) rfl ?_
                  refine g_istore (pc' := 443) O ⟨dL_same_441, rfl⟩ (lv' := [(16, .int (0 : Int32)), (15, .int z_334), (0, .ref (ad 0)), (1, .int x1), (2, .ref b0), (5, .ref b3), (6, .ref b4), (7, .int (r4 (0 : Int32).toNatClampNeg)), (9, .ref b6), (10, .ref b7), (17, .int x17_328)]) (by decide) rfl ?_
                  refine g_iinc (pc' := 446) O ⟨dL_same_443, rfl⟩ (q := 10) (v := x17_328 + (1 : Int32)) (lv' := [(17, .int (x17_328 + (1 : Int32))), (16, .int (0 : Int32)), (15, .int z_334), (0, .ref (ad 0)), (1, .int x1), (2, .ref b0), (5, .ref b3), (6, .ref b4), (7, .int (r4 (0 : Int32).toNatClampNeg)), (9, .ref b6), (10, .ref b7)]) rfl rfl (by decide) rfl ?_
                  refine g_goto (pc' := 449) O ⟨dL_same_446, rfl⟩ (tgt := 350) (by decide) ?_
                  refine g_sub (lv' := [(0, .ref (ad 0)), (1, .int x1), (2, .ref b0), (5, .ref b3), (6, .ref b4), (7, .int (r4 (0 : Int32).toNatClampNeg)), (9, .ref b6), (10, .ref b7), (15, .int z_334), (16, .int (0 : Int32)), (17, .int (x17_328 + (1 : Int32)))]) [3, 4, 5, 6, 7, 8, 9, 10, 2, 1, 0] rfl ?_
                  exact ih350 _ _ _ _ E _ _ (ar_bk (d := 2) hkq350 (Nat.le_of_ble_eq_true rfl)) (ar_bk (d := 12) hnq350 (Nat.le_of_ble_eq_true rfl))
                · refine g_iload (pc' := 404) O ⟨dL_same_402, rfl⟩ (q := 10) rfl ?_
                  refine jn0_of (P := G l D X 20 (WX8 ad cy 24 40 6 36 4 24 6 6 b0 b1 b2 b3 b4 b5 b6 b7) (kq350 + 2) (nq350 + 12) (h_335, r0, r1, r2, r3, r4, r_1.2, (fun _ => 0), r_15) 422 [(0, .ref (ad 0)), (1, .int x1), (2, .ref b0), (5, .ref b3), (6, .ref b4), (7, .int (r4 (0 : Int32).toNatClampNeg)), (9, .ref b6), (10, .ref b7), (15, .int z_334), (17, .int x17_328)] []) E ?_ ?_
                  · intro E
                    show G l D X 20 (WX8 ad cy 24 40 6 36 4 24 6 6 b0 b1 b2 b3 b4 b5 b6 b7) (kq350 + 2) (nq350 + 12) (h_335, r0, r1, r2, r3, r4, r_1.2, (fun _ => 0), r_15) 422 [(0, .ref (ad 0)), (1, .int x1), (2, .ref b0), (5, .ref b3), (6, .ref b4), (7, .int (r4 (0 : Int32).toNatClampNeg)), (9, .ref b6), (10, .ref b7), (15, .int z_334), (17, .int x17_328)] []
                    refine g_aload (pc' := 424) O ⟨dL_same_422, rfl⟩ (q := 7) rfl ?_
                    refine g_iconst (pc' := 425) O ⟨dL_same_424, rfl⟩ (v := (0 : Int32)) rfl ?_
                    refine g_iald (pc' := 426) O ⟨dL_same_425, rfl⟩ zX8_7 E (fun E => ?_)
                    refine g_aload (pc' := 428) O ⟨dL_same_426, rfl⟩ (q := 7) rfl ?_
                    refine g_iload (pc' := 430) O ⟨dL_same_428, rfl⟩ (q := 9) rfl ?_
                    refine g_iald (pc' := 431) O ⟨dL_same_430, rfl⟩ zX8_7 E (fun E => ?_)
                    refine g_isub (pc' := 432) O ⟨dL_same_431, rfl⟩ ?_
                    refine g_iconst (pc' := 433) O ⟨dL_same_432, rfl⟩ (v := (2 : Int32)) rfl ?_
                    refine g_icmp_ge (pc' := 436) O ⟨dL_same_433, rfl⟩ E (tgt := 440) (by decide) (fun E => ?_) (fun E => ?_)
                    · refine g_iconst (pc' := 441) O ⟨dL_same_440, rfl⟩ (v := (0 : Int32)) rfl ?_
                      refine g_istore (pc' := 443) O ⟨dL_same_441, rfl⟩ (lv' := [(16, .int (0 : Int32)), (0, .ref (ad 0)), (1, .int x1), (2, .ref b0), (5, .ref b3), (6, .ref b4), (7, .int (r4 (0 : Int32).toNatClampNeg)), (9, .ref b6), (10, .ref b7), (15, .int z_334), (17, .int x17_328)]) (by decide) rfl ?_
                      refine g_iinc (pc' := 446) O ⟨dL_same_443, rfl⟩ (q := 10) (v := x17_328 + (1 : Int32)) (lv' := [(17, .int (x17_328 + (1 : Int32))), (16, .int (0 : Int32)), (0, .ref (ad 0)), (1, .int x1), (2, .ref b0), (5, .ref b3), (6, .ref b4), (7, .int (r4 (0 : Int32).toNatClampNeg)), (9, .ref b6), (10, .ref b7), (15, .int z_334)]) rfl rfl (by decide) rfl ?_
                      refine g_goto (pc' := 449) O ⟨dL_same_446, rfl⟩ (tgt := 350) (by decide) ?_
                      refine g_sub (lv' := [(0, .ref (ad 0)), (1, .int x1), (2, .ref b0), (5, .ref b3), (6, .ref b4), (7, .int (r4 (0 : Int32).toNatClampNeg)), (9, .ref b6), (10, .ref b7), (15, .int z_334), (16, .int (0 : Int32)), (17, .int (x17_328 + (1 : Int32)))]) [2, 3, 4, 5, 6, 7, 8, 9, 10, 1, 0] rfl ?_
                      exact ih350 _ _ _ _ E _ _ (ar_bk (d := 2) hkq350 (Nat.le_of_ble_eq_true rfl)) (ar_bk (d := 12) hnq350 (Nat.le_of_ble_eq_true rfl))
                    · refine g_iconst (pc' := 437) O ⟨dL_same_436, rfl⟩ (v := (1 : Int32)) rfl ?_
                      refine g_goto (pc' := 440) O ⟨dL_same_437, rfl⟩ (tgt := 441) (by decide) ?_
                      refine g_istore (pc' := 443) O ⟨dL_same_441, rfl⟩ (lv' := [(16, .int (1 : Int32)), (0, .ref (ad 0)), (1, .int x1), (2, .ref b0), (5, .ref b3), (6, .ref b4), (7, .int (r4 (0 : Int32).toNatClampNeg)), (9, .ref b6), (10, .ref b7), (15, .int z_334), (17, .int x17_328)]) (by decide) rfl ?_
                      refine g_iinc (pc' := 446) O ⟨dL_same_443, rfl⟩ (q := 10) (v := x17_328 + (1 : Int32)) (lv' := [(17, .int (x17_328 + (1 : Int32))), (16, .int (1 : Int32)), (0, .ref (ad 0)), (1, .int x1), (2, .ref b0), (5, .ref b3), (6, .ref b4), (7, .int (r4 (0 : Int32).toNatClampNeg)), (9, .ref b6), (10, .ref b7), (15, .int z_334)]) rfl rfl (by decide) rfl ?_
                      refine g_goto (pc' := 449) O ⟨dL_same_446, rfl⟩ (tgt := 350) (by decide) ?_
                      refine g_sub (lv' := [(0, .ref (ad 0)), (1, .int x1), (2, .ref b0), (5, .ref b3), (6, .ref b4), (7, .int (r4 (0 : Int32).toNatClampNeg)), (9, .ref b6), (10, .ref b7), (15, .int z_334), (16, .int (1 : Int32)), (17, .int (x17_328 + (1 : Int32)))]) [2, 3, 4, 5, 6, 7, 8, 9, 10, 1, 0] rfl ?_
                      exact ih350 _ _ _ _ E _ _ (ar_bk (d := 2) hkq350 (Nat.le_of_ble_eq_true rfl)) (ar_bk (d := 12) hnq350 (Nat.le_of_ble_eq_true rfl))
                  · intro k422 hk422 E
                    refine g_if_eq (pc' := 407) O ⟨dL_same_404, rfl⟩ E (tgt := 422) (by decide) (fun E => ?_) (fun E => ?_)
                    · refine g_sub (lv' := [(0, .ref (ad 0)), (1, .int x1), (2, .ref b0), (5, .ref b3), (6, .ref b4), (7, .int (r4 (0 : Int32).toNatClampNeg)), (9, .ref b6), (10, .ref b7), (15, .int z_334), (17, .int x17_328)]) [1, 2, 3, 4, 5, 6, 7, 8, 0, 10] rfl ?_
                      exact hk422 E
                    · refine g_aload (pc' := 409) O ⟨dL_same_407, rfl⟩ (q := 8) rfl ?_
                      refine g_iload (pc' := 411) O ⟨dL_same_409, rfl⟩ (q := 10) rfl ?_
                      refine g_iald (pc' := 412) O ⟨dL_same_411, rfl⟩ zX8_7 E (fun E => ?_)
                      refine g_aload (pc' := 414) O ⟨dL_same_412, rfl⟩ (q := 8) rfl ?_
                      refine g_iload (pc' := 416) O ⟨dL_same_414, rfl⟩ (q := 10) rfl ?_
                      refine g_iconst (pc' := 417) O ⟨dL_same_416, rfl⟩ (v := (1 : Int32)) rfl ?_
                      refine g_isub (pc' := 418) O ⟨dL_same_417, rfl⟩ ?_
                      refine g_iald (pc' := 419) O ⟨dL_same_418, rfl⟩ zX8_7 E (fun E => ?_)
                      refine g_icmp_gt (pc' := 422) O ⟨dL_same_419, rfl⟩ E (tgt := 440) (by decide) (fun E => ?_) (fun E => ?_)
                      · refine g_iconst (pc' := 441) O ⟨dL_same_440, rfl⟩ (v := (0 : Int32)) rfl ?_
                        refine g_istore (pc' := 443) O ⟨dL_same_441, rfl⟩ (lv' := [(16, .int (0 : Int32)), (15, .int z_334), (0, .ref (ad 0)), (1, .int x1), (2, .ref b0), (5, .ref b3), (6, .ref b4), (7, .int (r4 (0 : Int32).toNatClampNeg)), (9, .ref b6), (10, .ref b7), (17, .int x17_328)]) (by decide) rfl ?_
                        refine g_iinc (pc' := 446) O ⟨dL_same_443, rfl⟩ (q := 10) (v := x17_328 + (1 : Int32)) (lv' := [(17, .int (x17_328 + (1 : Int32))), (16, .int (0 : Int32)), (15, .int z_334), (0, .ref (ad 0)), (1, .int x1), (2, .ref b0), (5, .ref b3), (6, .ref b4), (7, .int (r4 (0 : Int32).toNatClampNeg)), (9, .ref b6), (10, .ref b7)]) rfl rfl (by decide) rfl ?_
                        refine g_goto (pc' := 449) O ⟨dL_same_446, rfl⟩ (tgt := 350) (by decide) ?_
                        refine g_sub (lv' := [(0, .ref (ad 0)), (1, .int x1), (2, .ref b0), (5, .ref b3), (6, .ref b4), (7, .int (r4 (0 : Int32).toNatClampNeg)), (9, .ref b6), (10, .ref b7), (15, .int z_334), (16, .int (0 : Int32)), (17, .int (x17_328 + (1 : Int32)))]) [3, 4, 5, 6, 7, 8, 9, 10, 2, 1, 0] rfl ?_
                        exact ih350 _ _ _ _ E _ _ (ar_bk (d := 2) hkq350 (Nat.le_of_ble_eq_true rfl)) (ar_bk (d := 12) hnq350 (Nat.le_of_ble_eq_true rfl))
                      · refine g_sub (lv' := [(0, .ref (ad 0)), (1, .int x1), (2, .ref b0), (5, .ref b3), (6, .ref b4), (7, .int (r4 (0 : Int32).toNatClampNeg)), (9, .ref b6), (10, .ref b7), (15, .int z_334), (17, .int x17_328)]) [1, 2, 3, 4, 5, 6, 7, 8, 0, 10] rfl ?_
                        exact hk422 E
              · intro k395 hk395 E
                refine jn1_of (P := fun (h_336 : Hp) => G l D X 20 (WX8 ad cy 24 40 6 36 4 24 6 6 b0 b1 b2 b3 b4 b5 b6 b7) (kq350 + 2) (nq350 + 12) (h_336, r0, r1, r2, r3, r4, r_1.2, (fun _ => 0), r_15) 394 [(0, .ref (ad 0)), (1, .int x1), (2, .ref b0), (5, .ref b3), (6, .ref b4), (7, .int (r4 (0 : Int32).toNatClampNeg)), (9, .ref b6), (10, .ref b7), (16, .int x16_327), (17, .int x17_328)] []) E ?_ ?_
                · intro h_336 E
                  show G l D X 20 (WX8 ad cy 24 40 6 36 4 24 6 6 b0 b1 b2 b3 b4 b5 b6 b7) (kq350 + 2) (nq350 + 12) (h_336, r0, r1, r2, r3, r4, r_1.2, (fun _ => 0), r_15) 394 [(0, .ref (ad 0)), (1, .int x1), (2, .ref b0), (5, .ref b3), (6, .ref b4), (7, .int (r4 (0 : Int32).toNatClampNeg)), (9, .ref b6), (10, .ref b7), (16, .int x16_327), (17, .int x17_328)] []
                  refine g_iconst (pc' := 395) O ⟨dL_same_394, rfl⟩ (v := (0 : Int32)) rfl ?_
                  exact hk395 _ _ E
                · intro k394 hk394 E
                  refine g_icmp_ne (pc' := 376) O ⟨dL_same_373, rfl⟩ E (tgt := 394) (by decide) (fun E => ?_) (fun E => ?_)
                  · refine g_sub (lv' := [(0, .ref (ad 0)), (1, .int x1), (2, .ref b0), (5, .ref b3), (6, .ref b4), (7, .int (r4 (0 : Int32).toNatClampNeg)), (9, .ref b6), (10, .ref b7), (16, .int x16_327), (17, .int x17_328)]) [0, 1, 2, 3, 4, 5, 6, 7, 9, 10] rfl ?_
                    refine g_widen (k1 := (kq350 + 2)) (n1 := (nq350 + 12)) (Nat.add_le_add_left (Nat.le_of_ble_eq_true rfl) _) (Nat.add_le_add_left (Nat.le_of_ble_eq_true rfl) _) ?_
                    exact hk394 _ E
                  · refine g_aload_n (pc' := 377) O ⟨dL_same_376, rfl⟩ (q := 0) rfl rfl ?_
                    refine g_iload (pc' := 379) O ⟨dL_same_377, rfl⟩ (q := 10) rfl ?_
                    obtain ⟨z_340, c_338, e_339, E⟩ := hcatch_of E
                    refine g_UXi (pc' := 382) O ⟨dL_same_379, rfl⟩ (y := yX10_cameAnew) (As := [.int x17_328]) (st := []) (put := (fun g => (g, r0, r1, r2, r3, r4, r_1.2, (fun _ => 0), r_15))) sub_X8_X (t_X10_cameAnew l D ad cy hfl (h := r_330.2) c_338) kw_679 kw_25 kw_676 kw_677 kw_678 rfl zX8_x hd_X10_cameAnew ⟨Nat.le_of_ble_eq_true rfl, Nat.le_of_ble_eq_true rfl⟩ ⟨ar_tr (d := 2) hkq350 (Nat.le_of_ble_eq_true rfl) (Nat.le_of_ble_eq_true rfl), ar_tr (d := 12) hnq350 (Nat.le_of_ble_eq_true rfl) (Nat.le_of_ble_eq_true rfl)⟩ rfl (Nat.le_of_ble_eq_true rfl) (fun E1 c q => (by cases e_339 E1 c q)) (fun r_337 q => ?_)
                    replace E := E r_337 q
                    show G l D X 20 (WX8 ad cy 24 40 6 36 4 24 6 6 b0 b1 b2 b3 b4 b5 b6 b7) (kq350 + 2) (nq350 + 12) (r_337.2, r0, r1, r2, r3, r4, r_1.2, (fun _ => 0), r_15) 382 [(0, .ref (ad 0)), (1, .int x1), (2, .ref b0), (5, .ref b3), (6, .ref b4), (7, .int (r4 (0 : Int32).toNatClampNeg)), (9, .ref b6), (10, .ref b7), (15, .int x15_326), (16, .int x16_327), (17, .int x17_328)] [.int r_337.1]
                    refine g_aload (pc' := 384) O ⟨dL_same_382, rfl⟩ (q := 7) rfl ?_
                    refine g_iload (pc' := 386) O ⟨dL_same_384, rfl⟩ (q := 10) rfl ?_
                    refine g_iald (pc' := 387) O ⟨dL_same_386, rfl⟩ zX8_7 E (fun E => ?_)
                    refine g_icmp_ne (pc' := 390) O ⟨dL_same_387, rfl⟩ E (tgt := 394) (by decide) (fun E => ?_) (fun E => ?_)
                    · refine g_sub (lv' := [(0, .ref (ad 0)), (1, .int x1), (2, .ref b0), (5, .ref b3), (6, .ref b4), (7, .int (r4 (0 : Int32).toNatClampNeg)), (9, .ref b6), (10, .ref b7), (16, .int x16_327), (17, .int x17_328)]) [0, 1, 2, 3, 4, 5, 6, 7, 9, 10] rfl ?_
                      exact hk394 _ E
                    · refine g_iconst (pc' := 391) O ⟨dL_same_390, rfl⟩ (v := (1 : Int32)) rfl ?_
                      refine g_goto (pc' := 394) O ⟨dL_same_391, rfl⟩ (tgt := 395) (by decide) ?_
                      refine g_sub (lv' := [(0, .ref (ad 0)), (1, .int x1), (2, .ref b0), (5, .ref b3), (6, .ref b4), (7, .int (r4 (0 : Int32).toNatClampNeg)), (9, .ref b6), (10, .ref b7), (16, .int x16_327), (17, .int x17_328)]) [0, 1, 2, 3, 4, 5, 6, 7, 9, 10] rfl ?_
                      exact hk395 _ _ E
      · intro k334 hk334 E
        refine g_if_le (pc' := 245) O ⟨dL_same_242, rfl⟩ E (tgt := 334) (by decide) (fun E => ?_) (fun E => ?_)
        · refine g_sub (lv' := [(0, .ref (ad 0)), (1, .int x1), (2, .ref b0), (4, .ref b2), (5, .ref b3), (6, .ref b4), (7, .int (r4 (0 : Int32).toNatClampNeg)), (9, .ref b6), (10, .ref b7), (15, .int z_11)]) [1, 2, 3, 4, 5, 6, 7, 9, 10, 0] rfl ?_
          refine g_widen (k1 := 22) (n1 := 168) (Nat.le_of_ble_eq_true rfl) (Nat.le_of_ble_eq_true rfl) ?_
          exact hk334 _ _ E
        · refine g_iload (pc' := 247) O ⟨dL_same_245, rfl⟩ (q := 0) rfl ?_
          refine g_if_eq (pc' := 250) O ⟨dL_same_247, rfl⟩ E (tgt := 334) (by decide) (fun E => ?_) (fun E => ?_)
          · refine g_sub (lv' := [(0, .ref (ad 0)), (1, .int x1), (2, .ref b0), (4, .ref b2), (5, .ref b3), (6, .ref b4), (7, .int (r4 (0 : Int32).toNatClampNeg)), (9, .ref b6), (10, .ref b7), (15, .int z_11)]) [1, 2, 3, 4, 5, 6, 7, 9, 10, 0] rfl ?_
            refine g_widen (k1 := 22) (n1 := 168) (Nat.le_of_ble_eq_true rfl) (Nat.le_of_ble_eq_true rfl) ?_
            exact hk334 _ _ E
          · refine g_iload_n (pc' := 251) O ⟨dL_same_250, rfl⟩ (q := 2) rfl rfl ?_
            refine g_aload (pc' := 253) O ⟨dL_same_251, rfl⟩ (q := 6) rfl ?_
            refine g_iconst (pc' := 254) O ⟨dL_same_253, rfl⟩ (v := (1 : Int32)) rfl ?_
            refine g_iald (pc' := 255) O ⟨dL_same_254, rfl⟩ zX8_4 E (fun E => ?_)
            obtain ⟨r_341, c_342, E⟩ := bd_of E
            refine g_MSi (pc' := 258) O hN ⟨dL_same_255, rfl⟩ (y := yL_low) (As := [.int x1, .int (r4 (1 : Int32).toNatClampNeg)]) (st := []) (put := (fun g => (h_12, r0, r1, r2, r3, r4, r_1.2, (fun _ => 0), (fun _ => 0)))) sub_X8_A (t_L_low l D cy hfl c_342) kw_408 kw_24 kw_406 kw_407 hd_L_low ⟨Nat.le_of_ble_eq_true rfl, Nat.le_of_ble_eq_true rfl⟩ ⟨Nat.le_of_ble_eq_true rfl, Nat.le_of_ble_eq_true rfl⟩ rfl (Nat.le_of_ble_eq_true rfl) ?_
            show G l D X 20 (WX8 ad cy 24 40 6 36 4 24 6 6 b0 b1 b2 b3 b4 b5 b6 b7) 14 120 (h_12, r0, r1, r2, r3, r4, r_1.2, (fun _ => 0), (fun _ => 0)) 258 [(15, .int z_11), (0, .ref (ad 0)), (1, .int x1), (2, .ref b0), (4, .ref b2), (5, .ref b3), (6, .ref b4), (7, .int (r4 (0 : Int32).toNatClampNeg)), (8, .ref b5), (9, .ref b6), (10, .ref b7)] [.int r_341]
            refine g_istore (pc' := 260) O ⟨dL_same_258, rfl⟩ (lv' := [(16, .int r_341), (15, .int z_11), (0, .ref (ad 0)), (1, .int x1), (2, .ref b0), (4, .ref b2), (5, .ref b3), (6, .ref b4), (7, .int (r4 (0 : Int32).toNatClampNeg)), (8, .ref b5), (9, .ref b6), (10, .ref b7)]) (by decide) rfl ?_
            refine g_aload_n (pc' := 261) O ⟨dL_same_260, rfl⟩ (q := 2) rfl rfl ?_
            refine g_iload (pc' := 263) O ⟨dL_same_261, rfl⟩ (q := 0) rfl ?_
            refine g_iconst (pc' := 264) O ⟨dL_same_263, rfl⟩ (v := (0 : Int32)) rfl ?_
            obtain ⟨z_346, c_344, e_345, E⟩ := hcatch_of E
            refine g_UXi (pc' := 267) O ⟨dL_same_264, rfl⟩ (y := yX10_comparator) (As := [.int r_341, .int (0 : Int32)]) (st := []) (put := (fun g => (g, r0, r1, r2, r3, r4, r_1.2, (fun _ => 0), (fun _ => 0)))) sub_X8_X (t_X10_comparator l D ad cy hfl (h := h_12) c_344) kw_651 kw_25 kw_648 kw_649 kw_650 rfl zX8_x hd_X10_comparator ⟨Nat.le_of_ble_eq_true rfl, Nat.le_of_ble_eq_true rfl⟩ ⟨Nat.le_of_ble_eq_true rfl, Nat.le_of_ble_eq_true rfl⟩ rfl (Nat.le_of_ble_eq_true rfl) (fun E1 c q => (by cases e_345 E1 c q)) (fun r_343 q => ?_)
            replace E := E r_343 q
            show G l D X 20 (WX8 ad cy 24 40 6 36 4 24 6 6 b0 b1 b2 b3 b4 b5 b6 b7) 16 132 (r_343.2, r0, r1, r2, r3, r4, r_1.2, (fun _ => 0), (fun _ => 0)) 267 [(16, .int r_341), (15, .int z_11), (0, .ref (ad 0)), (1, .int x1), (2, .ref b0), (4, .ref b2), (5, .ref b3), (6, .ref b4), (7, .int (r4 (0 : Int32).toNatClampNeg)), (8, .ref b5), (9, .ref b6), (10, .ref b7)] [.int r_343.1]
            refine g_aload_n (pc' := 268) O ⟨dL_same_267, rfl⟩ (q := 4) rfl rfl ?_
            refine g_iload (pc' := 270) O ⟨dL_same_268, rfl⟩ (q := 0) rfl ?_
            refine g_iald (pc' := 271) O ⟨dL_same_270, rfl⟩ zX8_0 E (fun E => ?_)
            refine g_bipush (pc' := 273) O ⟨dL_same_271, rfl⟩ (v := (8 : Int32)) rfl ?_
            refine g_irem (pc' := 274) O ⟨dL_same_273, rfl⟩ (by decide) ?_
            refine jn2_of (P := fun (z_347 : Int32) (h_348 : Hp) => G l D X 20 (WX8 ad cy 24 40 6 36 4 24 6 6 b0 b1 b2 b3 b4 b5 b6 b7) 22 168 (h_348, r0, r1, r2, r3, r4, r_1.2, (fun _ => 0), (fun _ => 0)) 332 [(0, .ref (ad 0)), (1, .int x1), (2, .ref b0), (4, .ref b2), (5, .ref b3), (6, .ref b4), (7, .int (r4 (0 : Int32).toNatClampNeg)), (9, .ref b6), (10, .ref b7)] [.int z_347]) E ?_ ?_
            · intro z_347 h_348 E
              show G l D X 20 (WX8 ad cy 24 40 6 36 4 24 6 6 b0 b1 b2 b3 b4 b5 b6 b7) 22 168 (h_348, r0, r1, r2, r3, r4, r_1.2, (fun _ => 0), (fun _ => 0)) 332 [(0, .ref (ad 0)), (1, .int x1), (2, .ref b0), (4, .ref b2), (5, .ref b3), (6, .ref b4), (7, .int (r4 (0 : Int32).toNatClampNeg)), (9, .ref b6), (10, .ref b7)] [.int z_347]
              refine g_istore (pc' := 334) O ⟨dL_same_332, rfl⟩ (lv' := [(15, .int z_347), (0, .ref (ad 0)), (1, .int x1), (2, .ref b0), (4, .ref b2), (5, .ref b3), (6, .ref b4), (7, .int (r4 (0 : Int32).toNatClampNeg)), (9, .ref b6), (10, .ref b7)]) (by decide) rfl ?_
              refine g_sub (lv' := [(0, .ref (ad 0)), (1, .int x1), (2, .ref b0), (4, .ref b2), (5, .ref b3), (6, .ref b4), (7, .int (r4 (0 : Int32).toNatClampNeg)), (9, .ref b6), (10, .ref b7), (15, .int z_347)]) [1, 2, 3, 4, 5, 6, 7, 8, 9, 0] rfl ?_
              exact hk334 _ _ E
            · intro k332 hk332 E
              refine jn1_of (P := fun (h_349 : Hp) => G l D X 20 (WX8 ad cy 24 40 6 36 4 24 6 6 b0 b1 b2 b3 b4 b5 b6 b7) 22 168 (h_349, r0, r1, r2, r3, r4, r_1.2, (fun _ => 0), (fun _ => 0)) 331 [(0, .ref (ad 0)), (1, .int x1), (2, .ref b0), (4, .ref b2), (5, .ref b3), (6, .ref b4), (7, .int (r4 (0 : Int32).toNatClampNeg)), (9, .ref b6), (10, .ref b7)] []) E ?_ ?_
              · intro h_349 E
                show G l D X 20 (WX8 ad cy 24 40 6 36 4 24 6 6 b0 b1 b2 b3 b4 b5 b6 b7) 22 168 (h_349, r0, r1, r2, r3, r4, r_1.2, (fun _ => 0), (fun _ => 0)) 331 [(0, .ref (ad 0)), (1, .int x1), (2, .ref b0), (4, .ref b2), (5, .ref b3), (6, .ref b4), (7, .int (r4 (0 : Int32).toNatClampNeg)), (9, .ref b6), (10, .ref b7)] []
                refine g_iconst (pc' := 332) O ⟨dL_same_331, rfl⟩ (v := (0 : Int32)) rfl ?_
                exact hk332 _ _ E
              · intro k331 hk331 E
                refine g_icmp_ne (pc' := 277) O ⟨dL_same_274, rfl⟩ E (tgt := 331) (by decide) (fun E => ?_) (fun E => ?_)
                · refine g_sub (lv' := [(0, .ref (ad 0)), (1, .int x1), (2, .ref b0), (4, .ref b2), (5, .ref b3), (6, .ref b4), (7, .int (r4 (0 : Int32).toNatClampNeg)), (9, .ref b6), (10, .ref b7)]) [2, 3, 4, 5, 6, 7, 8, 10, 11] rfl ?_
                  refine g_widen (k1 := 22) (n1 := 168) (Nat.le_of_ble_eq_true rfl) (Nat.le_of_ble_eq_true rfl) ?_
                  exact hk331 _ E
                · refine g_aload_n (pc' := 278) O ⟨dL_same_277, rfl⟩ (q := 2) rfl rfl ?_
                  refine g_iload (pc' := 280) O ⟨dL_same_278, rfl⟩ (q := 0) rfl ?_
                  refine g_iconst (pc' := 281) O ⟨dL_same_280, rfl⟩ (v := (1 : Int32)) rfl ?_
                  obtain ⟨z_353, c_351, e_352, E⟩ := hcatch_of E
                  refine g_UXi (pc' := 284) O ⟨dL_same_281, rfl⟩ (y := yX10_comparator) (As := [.int r_341, .int (1 : Int32)]) (st := []) (put := (fun g => (g, r0, r1, r2, r3, r4, r_1.2, (fun _ => 0), (fun _ => 0)))) sub_X8_X (t_X10_comparator l D ad cy hfl (h := r_343.2) c_351) kw_651 kw_25 kw_648 kw_649 kw_650 rfl zX8_x hd_X10_comparator ⟨Nat.le_of_ble_eq_true rfl, Nat.le_of_ble_eq_true rfl⟩ ⟨Nat.le_of_ble_eq_true rfl, Nat.le_of_ble_eq_true rfl⟩ rfl (Nat.le_of_ble_eq_true rfl) (fun E1 c q => (by cases e_352 E1 c q)) (fun r_350 q => ?_)
                  replace E := E r_350 q
                  show G l D X 20 (WX8 ad cy 24 40 6 36 4 24 6 6 b0 b1 b2 b3 b4 b5 b6 b7) 18 144 (r_350.2, r0, r1, r2, r3, r4, r_1.2, (fun _ => 0), (fun _ => 0)) 284 [(16, .int r_341), (15, .int z_11), (0, .ref (ad 0)), (1, .int x1), (2, .ref b0), (4, .ref b2), (5, .ref b3), (6, .ref b4), (7, .int (r4 (0 : Int32).toNatClampNeg)), (8, .ref b5), (9, .ref b6), (10, .ref b7)] [.int r_350.1]
                  refine g_aload_n (pc' := 285) O ⟨dL_same_284, rfl⟩ (q := 4) rfl rfl ?_
                  refine g_iload (pc' := 287) O ⟨dL_same_285, rfl⟩ (q := 0) rfl ?_
                  refine g_iald (pc' := 288) O ⟨dL_same_287, rfl⟩ zX8_0 E (fun E => ?_)
                  refine g_bipush (pc' := 290) O ⟨dL_same_288, rfl⟩ (v := (8 : Int32)) rfl ?_
                  refine g_idiv (pc' := 291) O ⟨dL_same_290, rfl⟩ (by decide) ?_
                  refine g_icmp_ne (pc' := 294) O ⟨dL_same_291, rfl⟩ E (tgt := 331) (by decide) (fun E => ?_) (fun E => ?_)
                  · refine g_sub (lv' := [(0, .ref (ad 0)), (1, .int x1), (2, .ref b0), (4, .ref b2), (5, .ref b3), (6, .ref b4), (7, .int (r4 (0 : Int32).toNatClampNeg)), (9, .ref b6), (10, .ref b7)]) [2, 3, 4, 5, 6, 7, 8, 10, 11] rfl ?_
                    refine g_widen (k1 := 22) (n1 := 168) (Nat.le_of_ble_eq_true rfl) (Nat.le_of_ble_eq_true rfl) ?_
                    exact hk331 _ E
                  · refine g_aload_n (pc' := 295) O ⟨dL_same_294, rfl⟩ (q := 2) rfl rfl ?_
                    refine g_iload (pc' := 297) O ⟨dL_same_295, rfl⟩ (q := 0) rfl ?_
                    refine g_iconst (pc' := 298) O ⟨dL_same_297, rfl⟩ (v := (2 : Int32)) rfl ?_
                    obtain ⟨z_357, c_355, e_356, E⟩ := hcatch_of E
                    refine g_UXi (pc' := 301) O ⟨dL_same_298, rfl⟩ (y := yX10_comparator) (As := [.int r_341, .int (2 : Int32)]) (st := []) (put := (fun g => (g, r0, r1, r2, r3, r4, r_1.2, (fun _ => 0), (fun _ => 0)))) sub_X8_X (t_X10_comparator l D ad cy hfl (h := r_350.2) c_355) kw_651 kw_25 kw_648 kw_649 kw_650 rfl zX8_x hd_X10_comparator ⟨Nat.le_of_ble_eq_true rfl, Nat.le_of_ble_eq_true rfl⟩ ⟨Nat.le_of_ble_eq_true rfl, Nat.le_of_ble_eq_true rfl⟩ rfl (Nat.le_of_ble_eq_true rfl) (fun E1 c q => (by cases e_356 E1 c q)) (fun r_354 q => ?_)
                    replace E := E r_354 q
                    show G l D X 20 (WX8 ad cy 24 40 6 36 4 24 6 6 b0 b1 b2 b3 b4 b5 b6 b7) 20 156 (r_354.2, r0, r1, r2, r3, r4, r_1.2, (fun _ => 0), (fun _ => 0)) 301 [(16, .int r_341), (15, .int z_11), (0, .ref (ad 0)), (1, .int x1), (2, .ref b0), (4, .ref b2), (5, .ref b3), (6, .ref b4), (7, .int (r4 (0 : Int32).toNatClampNeg)), (8, .ref b5), (9, .ref b6), (10, .ref b7)] [.int r_354.1]
                    refine g_aload (pc' := 303) O ⟨dL_same_301, rfl⟩ (q := 9) rfl ?_
                    refine g_iload (pc' := 305) O ⟨dL_same_303, rfl⟩ (q := 0) rfl ?_
                    refine g_iald (pc' := 306) O ⟨dL_same_305, rfl⟩ zX8_5 E (fun E => ?_)
                    refine g_icmp_ne (pc' := 309) O ⟨dL_same_306, rfl⟩ E (tgt := 331) (by decide) (fun E => ?_) (fun E => ?_)
                    · refine g_sub (lv' := [(0, .ref (ad 0)), (1, .int x1), (2, .ref b0), (4, .ref b2), (5, .ref b3), (6, .ref b4), (7, .int (r4 (0 : Int32).toNatClampNeg)), (9, .ref b6), (10, .ref b7)]) [2, 3, 4, 5, 6, 7, 8, 10, 11] rfl ?_
                      refine g_widen (k1 := 22) (n1 := 168) (Nat.le_of_ble_eq_true rfl) (Nat.le_of_ble_eq_true rfl) ?_
                      exact hk331 _ E
                    · refine g_aload_n (pc' := 310) O ⟨dL_same_309, rfl⟩ (q := 2) rfl rfl ?_
                      refine g_iload (pc' := 312) O ⟨dL_same_310, rfl⟩ (q := 0) rfl ?_
                      refine g_iconst (pc' := 313) O ⟨dL_same_312, rfl⟩ (v := (3 : Int32)) rfl ?_
                      obtain ⟨z_361, c_359, e_360, E⟩ := hcatch_of E
                      refine g_UXi (pc' := 316) O ⟨dL_same_313, rfl⟩ (y := yX10_comparator) (As := [.int r_341, .int (3 : Int32)]) (st := []) (put := (fun g => (g, r0, r1, r2, r3, r4, r_1.2, (fun _ => 0), (fun _ => 0)))) sub_X8_X (t_X10_comparator l D ad cy hfl (h := r_354.2) c_359) kw_651 kw_25 kw_648 kw_649 kw_650 rfl zX8_x hd_X10_comparator ⟨Nat.le_of_ble_eq_true rfl, Nat.le_of_ble_eq_true rfl⟩ ⟨Nat.le_of_ble_eq_true rfl, Nat.le_of_ble_eq_true rfl⟩ rfl (Nat.le_of_ble_eq_true rfl) (fun E1 c q => (by cases e_360 E1 c q)) (fun r_358 q => ?_)
                      replace E := E r_358 q
                      show G l D X 20 (WX8 ad cy 24 40 6 36 4 24 6 6 b0 b1 b2 b3 b4 b5 b6 b7) 22 168 (r_358.2, r0, r1, r2, r3, r4, r_1.2, (fun _ => 0), (fun _ => 0)) 316 [(16, .int r_341), (15, .int z_11), (0, .ref (ad 0)), (1, .int x1), (2, .ref b0), (4, .ref b2), (5, .ref b3), (6, .ref b4), (7, .int (r4 (0 : Int32).toNatClampNeg)), (8, .ref b5), (9, .ref b6), (10, .ref b7)] [.int r_358.1]
                      refine g_iload (pc' := 318) O ⟨dL_same_316, rfl⟩ (q := 0) rfl ?_
                      refine g_aload_n (pc' := 319) O ⟨dL_same_318, rfl⟩ (q := 4) rfl rfl ?_
                      refine g_aload (pc' := 321) O ⟨dL_same_319, rfl⟩ (q := 7) rfl ?_
                      obtain ⟨r_362, c_363, E⟩ := bd_of E
                      refine g_MSi (pc' := 324) O hN ⟨dL_same_321, rfl⟩ (y := yL_often) (As := [.int r_341, .ref b0, .ref b4]) (st := [.int r_358.1]) (put := (fun g => (r_358.2, g.1, r1, r2, r3, g.2, r_1.2, (fun _ => 0), (fun _ => 0)))) sub_X8_A0_4 (t_L_often l D cy hfl b0 b4 c_363) kw_562 kw_24 kw_560 kw_561 hd_L_often ⟨Nat.le_of_ble_eq_true rfl, Nat.le_of_ble_eq_true rfl⟩ ⟨Nat.le_of_ble_eq_true rfl, Nat.le_of_ble_eq_true rfl⟩ rfl (Nat.le_of_ble_eq_true rfl) ?_
                      show G l D X 20 (WX8 ad cy 24 40 6 36 4 24 6 6 b0 b1 b2 b3 b4 b5 b6 b7) 22 168 (r_358.2, r0, r1, r2, r3, r4, r_1.2, (fun _ => 0), (fun _ => 0)) 324 [(16, .int r_341), (15, .int z_11), (0, .ref (ad 0)), (1, .int x1), (2, .ref b0), (4, .ref b2), (5, .ref b3), (6, .ref b4), (7, .int (r4 (0 : Int32).toNatClampNeg)), (8, .ref b5), (9, .ref b6), (10, .ref b7)] [.int r_362, .int r_358.1]
                      refine g_icmp_ne (pc' := 327) O ⟨dL_same_324, rfl⟩ E (tgt := 331) (by decide) (fun E => ?_) (fun E => ?_)
                      · refine g_sub (lv' := [(0, .ref (ad 0)), (1, .int x1), (2, .ref b0), (4, .ref b2), (5, .ref b3), (6, .ref b4), (7, .int (r4 (0 : Int32).toNatClampNeg)), (9, .ref b6), (10, .ref b7)]) [2, 3, 4, 5, 6, 7, 8, 10, 11] rfl ?_
                        exact hk331 _ E
                      · refine g_iconst (pc' := 328) O ⟨dL_same_327, rfl⟩ (v := (1 : Int32)) rfl ?_
                        refine g_goto (pc' := 331) O ⟨dL_same_328, rfl⟩ (tgt := 332) (by decide) ?_
                        refine g_sub (lv' := [(0, .ref (ad 0)), (1, .int x1), (2, .ref b0), (4, .ref b2), (5, .ref b3), (6, .ref b4), (7, .int (r4 (0 : Int32).toNatClampNeg)), (9, .ref b6), (10, .ref b7)]) [2, 3, 4, 5, 6, 7, 8, 10, 11] rfl ?_
                        exact hk332 _ _ E
    · intro k236 hk236 E
      refine jn1_of (P := fun (h_364 : Hp) => G l D X 20 (WX8 ad cy 24 40 6 36 4 24 6 6 b0 b1 b2 b3 b4 b5 b6 b7) 14 120 (h_364, r0, r1, r2, r3, r4, r_1.2, (fun _ => 0), (fun _ => 0)) 235 [(0, .ref (ad 0)), (1, .int x1), (2, .ref b0), (4, .ref b2), (5, .ref b3), (6, .ref b4), (7, .int (r4 (0 : Int32).toNatClampNeg)), (8, .ref b5), (9, .ref b6), (10, .ref b7)] []) E ?_ ?_
      · intro h_364 E
        show G l D X 20 (WX8 ad cy 24 40 6 36 4 24 6 6 b0 b1 b2 b3 b4 b5 b6 b7) 14 120 (h_364, r0, r1, r2, r3, r4, r_1.2, (fun _ => 0), (fun _ => 0)) 235 [(0, .ref (ad 0)), (1, .int x1), (2, .ref b0), (4, .ref b2), (5, .ref b3), (6, .ref b4), (7, .int (r4 (0 : Int32).toNatClampNeg)), (8, .ref b5), (9, .ref b6), (10, .ref b7)] []
        refine g_iconst (pc' := 236) O ⟨dL_same_235, rfl⟩ (v := (0 : Int32)) rfl ?_
        exact hk236 _ _ E
      · intro k235 hk235 E
        refine g_icmp_ne (pc' := 132) O ⟨dL_same_129, rfl⟩ E (tgt := 235) (by decide) (fun E => ?_) (fun E => ?_)
        · refine g_sub (lv' := [(0, .ref (ad 0)), (1, .int x1), (2, .ref b0), (4, .ref b2), (5, .ref b3), (6, .ref b4), (7, .int (r4 (0 : Int32).toNatClampNeg)), (8, .ref b5), (9, .ref b6), (10, .ref b7)]) [1, 2, 3, 5, 6, 7, 8, 9, 10, 11] rfl ?_
          refine g_widen (k1 := 14) (n1 := 120) (Nat.le_of_ble_eq_true rfl) (Nat.le_of_ble_eq_true rfl) ?_
          exact hk235 _ E
        · refine g_aload_n (pc' := 133) O ⟨dL_same_132, rfl⟩ (q := 1) rfl rfl ?_
          refine g_iconst (pc' := 134) O ⟨dL_same_133, rfl⟩ (v := (1 : Int32)) rfl ?_
          obtain ⟨z_368, c_366, e_367, E⟩ := hcatch_of E
          refine g_UXi (pc' := 137) O ⟨dL_same_134, rfl⟩ (y := yX10_told) (As := [.int (1 : Int32)]) (st := []) (put := (fun g => (g, r0, r1, r2, r3, r4, r_1.2, (fun _ => 0), (fun _ => 0)))) sub_X8_X (t_X10_told l D ad cy hfl (h := r_7.2) c_366) kw_569 kw_25 kw_566 kw_567 kw_568 rfl zX8_x hd_X10_told ⟨Nat.le_of_ble_eq_true rfl, Nat.le_of_ble_eq_true rfl⟩ ⟨Nat.le_of_ble_eq_true rfl, Nat.le_of_ble_eq_true rfl⟩ rfl (Nat.le_of_ble_eq_true rfl) (fun E1 c q => (by cases e_367 E1 c q)) (fun r_365 q => ?_)
          replace E := E r_365 q
          show G l D X 20 (WX8 ad cy 24 40 6 36 4 24 6 6 b0 b1 b2 b3 b4 b5 b6 b7) 6 54 (r_365.2, r0, r1, r2, r3, r4, r_1.2, (fun _ => 0), (fun _ => 0)) 137 [(14, .int r_5), (0, .ref (ad 0)), (1, .int x1), (2, .ref b0), (3, .ref b1), (4, .ref b2), (5, .ref b3), (6, .ref b4), (7, .int (r4 (0 : Int32).toNatClampNeg)), (8, .ref b5), (9, .ref b6), (10, .ref b7), (11, .int r_1.1), (12, .int x12_3), (13, .int x13_4)] [.int r_365.1]
          refine g_aload (pc' := 139) O ⟨dL_same_137, rfl⟩ (q := 7) rfl ?_
          refine g_iconst (pc' := 140) O ⟨dL_same_139, rfl⟩ (v := (1 : Int32)) rfl ?_
          refine g_iald (pc' := 141) O ⟨dL_same_140, rfl⟩ zX8_4 E (fun E => ?_)
          refine g_icmp_ne (pc' := 144) O ⟨dL_same_141, rfl⟩ E (tgt := 235) (by decide) (fun E => ?_) (fun E => ?_)
          · refine g_sub (lv' := [(0, .ref (ad 0)), (1, .int x1), (2, .ref b0), (4, .ref b2), (5, .ref b3), (6, .ref b4), (7, .int (r4 (0 : Int32).toNatClampNeg)), (8, .ref b5), (9, .ref b6), (10, .ref b7)]) [1, 2, 3, 5, 6, 7, 8, 9, 10, 11] rfl ?_
            refine g_widen (k1 := 14) (n1 := 120) (Nat.le_of_ble_eq_true rfl) (Nat.le_of_ble_eq_true rfl) ?_
            exact hk235 _ E
          · refine g_aload_n (pc' := 145) O ⟨dL_same_144, rfl⟩ (q := 1) rfl rfl ?_
            refine g_iconst (pc' := 146) O ⟨dL_same_145, rfl⟩ (v := (2 : Int32)) rfl ?_
            obtain ⟨z_372, c_370, e_371, E⟩ := hcatch_of E
            refine g_UXi (pc' := 149) O ⟨dL_same_146, rfl⟩ (y := yX10_told) (As := [.int (2 : Int32)]) (st := []) (put := (fun g => (g, r0, r1, r2, r3, r4, r_1.2, (fun _ => 0), (fun _ => 0)))) sub_X8_X (t_X10_told l D ad cy hfl (h := r_365.2) c_370) kw_569 kw_25 kw_566 kw_567 kw_568 rfl zX8_x hd_X10_told ⟨Nat.le_of_ble_eq_true rfl, Nat.le_of_ble_eq_true rfl⟩ ⟨Nat.le_of_ble_eq_true rfl, Nat.le_of_ble_eq_true rfl⟩ rfl (Nat.le_of_ble_eq_true rfl) (fun E1 c q => (by cases e_371 E1 c q)) (fun r_369 q => ?_)
            replace E := E r_369 q
            show G l D X 20 (WX8 ad cy 24 40 6 36 4 24 6 6 b0 b1 b2 b3 b4 b5 b6 b7) 7 60 (r_369.2, r0, r1, r2, r3, r4, r_1.2, (fun _ => 0), (fun _ => 0)) 149 [(14, .int r_5), (0, .ref (ad 0)), (1, .int x1), (2, .ref b0), (3, .ref b1), (4, .ref b2), (5, .ref b3), (6, .ref b4), (7, .int (r4 (0 : Int32).toNatClampNeg)), (8, .ref b5), (9, .ref b6), (10, .ref b7), (11, .int r_1.1), (12, .int x12_3), (13, .int x13_4)] [.int r_369.1]
            refine g_iload (pc' := 151) O ⟨dL_same_149, rfl⟩ (q := 12) rfl ?_
            refine g_icmp_ne (pc' := 154) O ⟨dL_same_151, rfl⟩ E (tgt := 235) (by decide) (fun E => ?_) (fun E => ?_)
            · refine g_sub (lv' := [(0, .ref (ad 0)), (1, .int x1), (2, .ref b0), (4, .ref b2), (5, .ref b3), (6, .ref b4), (7, .int (r4 (0 : Int32).toNatClampNeg)), (8, .ref b5), (9, .ref b6), (10, .ref b7)]) [1, 2, 3, 5, 6, 7, 8, 9, 10, 11] rfl ?_
              refine g_widen (k1 := 14) (n1 := 120) (Nat.le_of_ble_eq_true rfl) (Nat.le_of_ble_eq_true rfl) ?_
              exact hk235 _ E
            · refine g_aload_n (pc' := 155) O ⟨dL_same_154, rfl⟩ (q := 1) rfl rfl ?_
              refine g_iconst (pc' := 156) O ⟨dL_same_155, rfl⟩ (v := (3 : Int32)) rfl ?_
              obtain ⟨z_376, c_374, e_375, E⟩ := hcatch_of E
              refine g_UXi (pc' := 159) O ⟨dL_same_156, rfl⟩ (y := yX10_told) (As := [.int (3 : Int32)]) (st := []) (put := (fun g => (g, r0, r1, r2, r3, r4, r_1.2, (fun _ => 0), (fun _ => 0)))) sub_X8_X (t_X10_told l D ad cy hfl (h := r_369.2) c_374) kw_569 kw_25 kw_566 kw_567 kw_568 rfl zX8_x hd_X10_told ⟨Nat.le_of_ble_eq_true rfl, Nat.le_of_ble_eq_true rfl⟩ ⟨Nat.le_of_ble_eq_true rfl, Nat.le_of_ble_eq_true rfl⟩ rfl (Nat.le_of_ble_eq_true rfl) (fun E1 c q => (by cases e_375 E1 c q)) (fun r_373 q => ?_)
              replace E := E r_373 q
              show G l D X 20 (WX8 ad cy 24 40 6 36 4 24 6 6 b0 b1 b2 b3 b4 b5 b6 b7) 8 66 (r_373.2, r0, r1, r2, r3, r4, r_1.2, (fun _ => 0), (fun _ => 0)) 159 [(14, .int r_5), (0, .ref (ad 0)), (1, .int x1), (2, .ref b0), (3, .ref b1), (4, .ref b2), (5, .ref b3), (6, .ref b4), (7, .int (r4 (0 : Int32).toNatClampNeg)), (8, .ref b5), (9, .ref b6), (10, .ref b7), (11, .int r_1.1), (12, .int x12_3), (13, .int x13_4)] [.int r_373.1]
              refine g_iload (pc' := 161) O ⟨dL_same_159, rfl⟩ (q := 13) rfl ?_
              refine g_icmp_ne (pc' := 164) O ⟨dL_same_161, rfl⟩ E (tgt := 235) (by decide) (fun E => ?_) (fun E => ?_)
              · refine g_sub (lv' := [(0, .ref (ad 0)), (1, .int x1), (2, .ref b0), (4, .ref b2), (5, .ref b3), (6, .ref b4), (7, .int (r4 (0 : Int32).toNatClampNeg)), (8, .ref b5), (9, .ref b6), (10, .ref b7)]) [1, 2, 3, 5, 6, 7, 8, 9, 10, 11] rfl ?_
                refine g_widen (k1 := 14) (n1 := 120) (Nat.le_of_ble_eq_true rfl) (Nat.le_of_ble_eq_true rfl) ?_
                exact hk235 _ E
              · refine g_aload_n (pc' := 165) O ⟨dL_same_164, rfl⟩ (q := 1) rfl rfl ?_
                refine g_iconst (pc' := 166) O ⟨dL_same_165, rfl⟩ (v := (4 : Int32)) rfl ?_
                obtain ⟨z_380, c_378, e_379, E⟩ := hcatch_of E
                refine g_UXi (pc' := 169) O ⟨dL_same_166, rfl⟩ (y := yX10_told) (As := [.int (4 : Int32)]) (st := []) (put := (fun g => (g, r0, r1, r2, r3, r4, r_1.2, (fun _ => 0), (fun _ => 0)))) sub_X8_X (t_X10_told l D ad cy hfl (h := r_373.2) c_378) kw_569 kw_25 kw_566 kw_567 kw_568 rfl zX8_x hd_X10_told ⟨Nat.le_of_ble_eq_true rfl, Nat.le_of_ble_eq_true rfl⟩ ⟨Nat.le_of_ble_eq_true rfl, Nat.le_of_ble_eq_true rfl⟩ rfl (Nat.le_of_ble_eq_true rfl) (fun E1 c q => (by cases e_379 E1 c q)) (fun r_377 q => ?_)
                replace E := E r_377 q
                show G l D X 20 (WX8 ad cy 24 40 6 36 4 24 6 6 b0 b1 b2 b3 b4 b5 b6 b7) 9 72 (r_377.2, r0, r1, r2, r3, r4, r_1.2, (fun _ => 0), (fun _ => 0)) 169 [(14, .int r_5), (0, .ref (ad 0)), (1, .int x1), (2, .ref b0), (3, .ref b1), (4, .ref b2), (5, .ref b3), (6, .ref b4), (7, .int (r4 (0 : Int32).toNatClampNeg)), (8, .ref b5), (9, .ref b6), (10, .ref b7), (11, .int r_1.1), (12, .int x12_3), (13, .int x13_4)] [.int r_377.1]
                refine g_iload (pc' := 171) O ⟨dL_same_169, rfl⟩ (q := 14) rfl ?_
                refine g_icmp_ne (pc' := 174) O ⟨dL_same_171, rfl⟩ E (tgt := 235) (by decide) (fun E => ?_) (fun E => ?_)
                · refine g_sub (lv' := [(0, .ref (ad 0)), (1, .int x1), (2, .ref b0), (4, .ref b2), (5, .ref b3), (6, .ref b4), (7, .int (r4 (0 : Int32).toNatClampNeg)), (8, .ref b5), (9, .ref b6), (10, .ref b7)]) [1, 2, 3, 5, 6, 7, 8, 9, 10, 11] rfl ?_
                  refine g_widen (k1 := 14) (n1 := 120) (Nat.le_of_ble_eq_true rfl) (Nat.le_of_ble_eq_true rfl) ?_
                  exact hk235 _ E
                · refine g_aload_n (pc' := 175) O ⟨dL_same_174, rfl⟩ (q := 1) rfl rfl ?_
                  refine g_iconst (pc' := 176) O ⟨dL_same_175, rfl⟩ (v := (5 : Int32)) rfl ?_
                  obtain ⟨z_384, c_382, e_383, E⟩ := hcatch_of E
                  refine g_UXi (pc' := 179) O ⟨dL_same_176, rfl⟩ (y := yX10_told) (As := [.int (5 : Int32)]) (st := []) (put := (fun g => (g, r0, r1, r2, r3, r4, r_1.2, (fun _ => 0), (fun _ => 0)))) sub_X8_X (t_X10_told l D ad cy hfl (h := r_377.2) c_382) kw_569 kw_25 kw_566 kw_567 kw_568 rfl zX8_x hd_X10_told ⟨Nat.le_of_ble_eq_true rfl, Nat.le_of_ble_eq_true rfl⟩ ⟨Nat.le_of_ble_eq_true rfl, Nat.le_of_ble_eq_true rfl⟩ rfl (Nat.le_of_ble_eq_true rfl) (fun E1 c q => (by cases e_383 E1 c q)) (fun r_381 q => ?_)
                  replace E := E r_381 q
                  show G l D X 20 (WX8 ad cy 24 40 6 36 4 24 6 6 b0 b1 b2 b3 b4 b5 b6 b7) 10 78 (r_381.2, r0, r1, r2, r3, r4, r_1.2, (fun _ => 0), (fun _ => 0)) 179 [(14, .int r_5), (0, .ref (ad 0)), (1, .int x1), (2, .ref b0), (3, .ref b1), (4, .ref b2), (5, .ref b3), (6, .ref b4), (7, .int (r4 (0 : Int32).toNatClampNeg)), (8, .ref b5), (9, .ref b6), (10, .ref b7), (11, .int r_1.1), (12, .int x12_3), (13, .int x13_4)] [.int r_381.1]
                  refine g_aload (pc' := 181) O ⟨dL_same_179, rfl⟩ (q := 7) rfl ?_
                  refine g_iconst (pc' := 182) O ⟨dL_same_181, rfl⟩ (v := (1 : Int32)) rfl ?_
                  refine g_iald (pc' := 183) O ⟨dL_same_182, rfl⟩ zX8_4 E (fun E => ?_)
                  refine jn1_of (P := fun (z_385 : Int32) => G l D X 20 (WX8 ad cy 24 40 6 36 4 24 6 6 b0 b1 b2 b3 b4 b5 b6 b7) 10 78 (r_381.2, r0, r1, r2, r3, r4, r_1.2, (fun _ => 0), (fun _ => 0)) 198 [(0, .ref (ad 0)), (1, .int x1), (2, .ref b0), (3, .ref b1), (4, .ref b2), (5, .ref b3), (6, .ref b4), (7, .int (r4 (0 : Int32).toNatClampNeg)), (8, .ref b5), (9, .ref b6), (10, .ref b7), (14, .int r_5)] [.int z_385, .int r_381.1]) E ?_ ?_
                  · intro z_385 E
                    show G l D X 20 (WX8 ad cy 24 40 6 36 4 24 6 6 b0 b1 b2 b3 b4 b5 b6 b7) 10 78 (r_381.2, r0, r1, r2, r3, r4, r_1.2, (fun _ => 0), (fun _ => 0)) 198 [(0, .ref (ad 0)), (1, .int x1), (2, .ref b0), (3, .ref b1), (4, .ref b2), (5, .ref b3), (6, .ref b4), (7, .int (r4 (0 : Int32).toNatClampNeg)), (8, .ref b5), (9, .ref b6), (10, .ref b7), (14, .int r_5)] [.int z_385, .int r_381.1]
                    refine g_icmp_ne (pc' := 201) O ⟨dL_same_198, rfl⟩ E (tgt := 235) (by decide) (fun E => ?_) (fun E => ?_)
                    · refine g_sub (lv' := [(0, .ref (ad 0)), (1, .int x1), (2, .ref b0), (4, .ref b2), (5, .ref b3), (6, .ref b4), (7, .int (r4 (0 : Int32).toNatClampNeg)), (8, .ref b5), (9, .ref b6), (10, .ref b7)]) [0, 1, 2, 4, 5, 6, 7, 8, 9, 10] rfl ?_
                      refine g_widen (k1 := 14) (n1 := 120) (Nat.le_of_ble_eq_true rfl) (Nat.le_of_ble_eq_true rfl) ?_
                      exact hk235 _ E
                    · refine g_aload_n (pc' := 202) O ⟨dL_same_201, rfl⟩ (q := 0) rfl rfl ?_
                      refine g_iload (pc' := 204) O ⟨dL_same_202, rfl⟩ (q := 11) rfl ?_
                      obtain ⟨z_389, c_387, e_388, E⟩ := hcatch_of E
                      refine g_UXi (pc' := 207) O ⟨dL_same_204, rfl⟩ (y := yX10_textAt) (As := [.int r_5]) (st := []) (put := (fun g => (g, r0, r1, r2, r3, r4, r_1.2, (fun _ => 0), (fun _ => 0)))) sub_X8_X (t_X10_textAt l D ad cy hfl (h := r_381.2) c_387) kw_616 kw_25 kw_613 kw_614 kw_615 rfl zX8_x hd_X10_textAt ⟨Nat.le_of_ble_eq_true rfl, Nat.le_of_ble_eq_true rfl⟩ ⟨Nat.le_of_ble_eq_true rfl, Nat.le_of_ble_eq_true rfl⟩ rfl (Nat.le_of_ble_eq_true rfl) (fun E1 c q => (by cases e_388 E1 c q)) (fun r_386 q => ?_)
                      replace E := E r_386 q
                      show G l D X 20 (WX8 ad cy 24 40 6 36 4 24 6 6 b0 b1 b2 b3 b4 b5 b6 b7) 11 84 (r_386.2, r0, r1, r2, r3, r4, r_1.2, (fun _ => 0), (fun _ => 0)) 207 [(0, .ref (ad 0)), (1, .int x1), (2, .ref b0), (3, .ref b1), (4, .ref b2), (5, .ref b3), (6, .ref b4), (7, .int (r4 (0 : Int32).toNatClampNeg)), (8, .ref b5), (9, .ref b6), (10, .ref b7), (14, .int r_5)] [.int r_386.1]
                      refine g_iload (pc' := 209) O ⟨dL_same_207, rfl⟩ (q := 11) rfl ?_
                      refine g_aload_n (pc' := 210) O ⟨dL_same_209, rfl⟩ (q := 2) rfl rfl ?_
                      refine g_aload (pc' := 212) O ⟨dL_same_210, rfl⟩ (q := 6) rfl ?_
                      obtain ⟨r_390, c_391, E⟩ := bd_of E
                      refine g_MSi (pc' := 215) O hN ⟨dL_same_212, rfl⟩ (y := yL_written) (As := [.int r_5, .ref b0, .ref b4]) (st := [.int r_386.1]) (put := (fun g => (r_386.2, g.1, r1, r2, r3, g.2, r_1.2, (fun _ => 0), (fun _ => 0)))) sub_X8_A0_4 (t_L_written l D cy hfl b0 b4 c_391) kw_640 kw_24 kw_638 kw_639 hd_L_written ⟨Nat.le_of_ble_eq_true rfl, Nat.le_of_ble_eq_true rfl⟩ ⟨Nat.le_of_ble_eq_true rfl, Nat.le_of_ble_eq_true rfl⟩ rfl (Nat.le_of_ble_eq_true rfl) ?_
                      show G l D X 20 (WX8 ad cy 24 40 6 36 4 24 6 6 b0 b1 b2 b3 b4 b5 b6 b7) 13 114 (r_386.2, r0, r1, r2, r3, r4, r_1.2, (fun _ => 0), (fun _ => 0)) 215 [(0, .ref (ad 0)), (1, .int x1), (2, .ref b0), (3, .ref b1), (4, .ref b2), (5, .ref b3), (6, .ref b4), (7, .int (r4 (0 : Int32).toNatClampNeg)), (8, .ref b5), (9, .ref b6), (10, .ref b7), (14, .int r_5)] [.int r_390, .int r_386.1]
                      refine g_icmp_ne (pc' := 218) O ⟨dL_same_215, rfl⟩ E (tgt := 235) (by decide) (fun E => ?_) (fun E => ?_)
                      · refine g_sub (lv' := [(0, .ref (ad 0)), (1, .int x1), (2, .ref b0), (4, .ref b2), (5, .ref b3), (6, .ref b4), (7, .int (r4 (0 : Int32).toNatClampNeg)), (8, .ref b5), (9, .ref b6), (10, .ref b7)]) [0, 1, 2, 4, 5, 6, 7, 8, 9, 10] rfl ?_
                        refine g_widen (k1 := 14) (n1 := 120) (Nat.le_of_ble_eq_true rfl) (Nat.le_of_ble_eq_true rfl) ?_
                        exact hk235 _ E
                      · refine g_aload_n (pc' := 219) O ⟨dL_same_218, rfl⟩ (q := 0) rfl rfl ?_
                        obtain ⟨r_392, c_393, E⟩ := bd_of E
                        refine g_Ui (pc' := 222) O ⟨dL_same_219, rfl⟩ (y := yX10_fault) (As := []) (st := []) (put := (fun g => (g, r0, r1, r2, r3, r4, r_1.2, (fun _ => 0), (fun _ => 0)))) sub_X8_X (t_X10_fault l D ad cy (h := r_386.2) c_393) kw_644 kw_25 kw_641 kw_642 kw_643 rfl zX8_x hd_X10_fault ⟨Nat.le_of_ble_eq_true rfl, Nat.le_of_ble_eq_true rfl⟩ ⟨Nat.le_of_ble_eq_true rfl, Nat.le_of_ble_eq_true rfl⟩ rfl (Nat.le_of_ble_eq_true rfl) ?_
                        show G l D X 20 (WX8 ad cy 24 40 6 36 4 24 6 6 b0 b1 b2 b3 b4 b5 b6 b7) 13 114 (r_386.2, r0, r1, r2, r3, r4, r_1.2, (fun _ => 0), (fun _ => 0)) 222 [(0, .ref (ad 0)), (1, .int x1), (2, .ref b0), (3, .ref b1), (4, .ref b2), (5, .ref b3), (6, .ref b4), (7, .int (r4 (0 : Int32).toNatClampNeg)), (8, .ref b5), (9, .ref b6), (10, .ref b7), (14, .int r_5)] [.int r_392]
                        refine g_aload_n (pc' := 223) O ⟨dL_same_222, rfl⟩ (q := 3) rfl rfl ?_
                        refine g_aload (pc' := 225) O ⟨dL_same_223, rfl⟩ (q := 6) rfl ?_
                        obtain ⟨r_394, c_395, E⟩ := bd_of E
                        refine g_MSi (pc' := 228) O hN ⟨dL_same_225, rfl⟩ (y := yL_fault) (As := [.ref b1, .ref b4]) (st := [.int r_392]) (put := (fun g => (r_386.2, r0, g.1, r2, r3, g.2, r_1.2, (fun _ => 0), (fun _ => 0)))) sub_X8_A1_4 (t_L_fault l D cy hfl b1 b4 c_395) kw_647 kw_24 kw_645 kw_646 hd_L_fault ⟨Nat.le_of_ble_eq_true rfl, Nat.le_of_ble_eq_true rfl⟩ ⟨Nat.le_of_ble_eq_true rfl, Nat.le_of_ble_eq_true rfl⟩ rfl (Nat.le_of_ble_eq_true rfl) ?_
                        show G l D X 20 (WX8 ad cy 24 40 6 36 4 24 6 6 b0 b1 b2 b3 b4 b5 b6 b7) 14 120 (r_386.2, r0, r1, r2, r3, r4, r_1.2, (fun _ => 0), (fun _ => 0)) 228 [(0, .ref (ad 0)), (1, .int x1), (2, .ref b0), (3, .ref b1), (4, .ref b2), (5, .ref b3), (6, .ref b4), (7, .int (r4 (0 : Int32).toNatClampNeg)), (8, .ref b5), (9, .ref b6), (10, .ref b7), (14, .int r_5)] [.int r_394, .int r_392]
                        refine g_icmp_ne (pc' := 231) O ⟨dL_same_228, rfl⟩ E (tgt := 235) (by decide) (fun E => ?_) (fun E => ?_)
                        · refine g_sub (lv' := [(0, .ref (ad 0)), (1, .int x1), (2, .ref b0), (4, .ref b2), (5, .ref b3), (6, .ref b4), (7, .int (r4 (0 : Int32).toNatClampNeg)), (8, .ref b5), (9, .ref b6), (10, .ref b7)]) [0, 1, 2, 4, 5, 6, 7, 8, 9, 10] rfl ?_
                          exact hk235 _ E
                        · refine g_iconst (pc' := 232) O ⟨dL_same_231, rfl⟩ (v := (1 : Int32)) rfl ?_
                          refine g_goto (pc' := 235) O ⟨dL_same_232, rfl⟩ (tgt := 236) (by decide) ?_
                          refine g_sub (lv' := [(0, .ref (ad 0)), (1, .int x1), (2, .ref b0), (4, .ref b2), (5, .ref b3), (6, .ref b4), (7, .int (r4 (0 : Int32).toNatClampNeg)), (8, .ref b5), (9, .ref b6), (10, .ref b7)]) [0, 1, 2, 4, 5, 6, 7, 8, 9, 10] rfl ?_
                          exact hk236 _ _ E
                  · intro k198 hk198 E
                    refine g_if_ne (pc' := 186) O ⟨dL_same_183, rfl⟩ E (tgt := 190) (by decide) (fun E => ?_) (fun E => ?_)
                    · refine g_iconst (pc' := 191) O ⟨dL_same_190, rfl⟩ (v := (4 : Int32)) rfl ?_
                      refine g_aload (pc' := 193) O ⟨dL_same_191, rfl⟩ (q := 7) rfl ?_
                      refine g_iconst (pc' := 194) O ⟨dL_same_193, rfl⟩ (v := (1 : Int32)) rfl ?_
                      refine g_iald (pc' := 195) O ⟨dL_same_194, rfl⟩ zX8_4 E (fun E => ?_)
                      refine g_imul (pc' := 196) O ⟨dL_same_195, rfl⟩ ?_
                      refine g_iconst (pc' := 197) O ⟨dL_same_196, rfl⟩ (v := (1 : Int32)) rfl ?_
                      refine g_isub (pc' := 198) O ⟨dL_same_197, rfl⟩ ?_
                      refine g_sub (lv' := [(0, .ref (ad 0)), (1, .int x1), (2, .ref b0), (3, .ref b1), (4, .ref b2), (5, .ref b3), (6, .ref b4), (7, .int (r4 (0 : Int32).toNatClampNeg)), (8, .ref b5), (9, .ref b6), (10, .ref b7), (14, .int r_5)]) [1, 2, 3, 4, 5, 6, 7, 8, 9, 10, 11, 0] rfl ?_
                      exact hk198 _ E
                    · refine g_iconst (pc' := 187) O ⟨dL_same_186, rfl⟩ (v := (0 : Int32)) rfl ?_
                      refine g_goto (pc' := 190) O ⟨dL_same_187, rfl⟩ (tgt := 198) (by decide) ?_
                      refine g_sub (lv' := [(0, .ref (ad 0)), (1, .int x1), (2, .ref b0), (3, .ref b1), (4, .ref b2), (5, .ref b3), (6, .ref b4), (7, .int (r4 (0 : Int32).toNatClampNeg)), (8, .ref b5), (9, .ref b6), (10, .ref b7), (14, .int r_5)]) [1, 2, 3, 4, 5, 6, 7, 8, 9, 10, 11, 0] rfl ?_
                      exact hk198 _ E
  · intro k106 hk106 E
    refine g_sub (lv' := [(0, .ref (ad 0)), (1, .int x1), (2, .ref b0), (3, .ref b1), (4, .ref b2), (5, .ref b3), (6, .ref b4), (7, .int (r4 (0 : Int32).toNatClampNeg)), (8, .ref b5), (9, .ref b6), (10, .ref b7), (11, .int r_1.1), (12, .int (0 : Int32)), (13, .int (0 : Int32)), (14, .int (0 : Int32))]) [8, 9, 10, 11, 12, 13, 14, 7, 6, 5, 4, 3, 2, 1, 0] rfl ?_
    refine fx3_of (P := fun (x12_396 : Int32) (x13_397 : Int32) (x14_398 : Int32) => G l D X 20 (WX8 ad cy 24 40 6 36 4 24 6 6 b0 b1 b2 b3 b4 b5 b6 b7) 4 42 (h, r0, r1, r2, r3, r4, r_1.2, (fun _ => 0), (fun _ => 0)) 43 [(0, .ref (ad 0)), (1, .int x1), (2, .ref b0), (3, .ref b1), (4, .ref b2), (5, .ref b3), (6, .ref b4), (7, .int (r4 (0 : Int32).toNatClampNeg)), (8, .ref b5), (9, .ref b6), (10, .ref b7), (11, .int r_1.1), (12, .int x12_396), (13, .int x13_397), (14, .int x14_398)] []) ?_ _ _ _ _ E
    intro self ih43 x12_396 x13_397 x14_398 E
    show G l D X 20 (WX8 ad cy 24 40 6 36 4 24 6 6 b0 b1 b2 b3 b4 b5 b6 b7) 4 42 (h, r0, r1, r2, r3, r4, r_1.2, (fun _ => 0), (fun _ => 0)) 43 [(0, .ref (ad 0)), (1, .int x1), (2, .ref b0), (3, .ref b1), (4, .ref b2), (5, .ref b3), (6, .ref b4), (7, .int (r4 (0 : Int32).toNatClampNeg)), (8, .ref b5), (9, .ref b6), (10, .ref b7), (11, .int r_1.1), (12, .int x12_396), (13, .int x13_397), (14, .int x14_398)] []
    unfold L_L_same_43 at E
    refine g_iload (pc' := 45) O ⟨dL_same_43, rfl⟩ (q := 14) rfl ?_
    refine g_aload (pc' := 47) O ⟨dL_same_45, rfl⟩ (q := 6) rfl ?_
    refine g_iconst (pc' := 48) O ⟨dL_same_47, rfl⟩ (v := (1 : Int32)) rfl ?_
    refine g_iald (pc' := 49) O ⟨dL_same_48, rfl⟩ zX8_4 E (fun E => ?_)
    refine g_icmp_ge (pc' := 52) O ⟨dL_same_49, rfl⟩ E (tgt := 106) (by decide) (fun E => ?_) (fun E => ?_)
    · refine g_sub (lv' := [(0, .ref (ad 0)), (1, .int x1), (2, .ref b0), (3, .ref b1), (4, .ref b2), (5, .ref b3), (6, .ref b4), (7, .int (r4 (0 : Int32).toNatClampNeg)), (8, .ref b5), (9, .ref b6), (10, .ref b7), (11, .int r_1.1), (12, .int x12_396), (13, .int x13_397)]) [0, 1, 2, 3, 4, 5, 6, 7, 8, 9, 10, 11, 12, 13] rfl ?_
      exact hk106 _ _ E
    · refine g_iload (pc' := 54) O ⟨dL_same_52, rfl⟩ (q := 12) rfl ?_
      refine g_iload (pc' := 56) O ⟨dL_same_54, rfl⟩ (q := 14) rfl ?_
      refine g_aload_n (pc' := 57) O ⟨dL_same_56, rfl⟩ (q := 2) rfl rfl ?_
      refine g_aload (pc' := 59) O ⟨dL_same_57, rfl⟩ (q := 6) rfl ?_
      obtain ⟨r_399, c_400, E⟩ := bd_of E
      refine g_MSi (pc' := 62) O hN ⟨dL_same_59, rfl⟩ (y := yL_often) (As := [.int x14_398, .ref b0, .ref b4]) (st := [.int x12_396]) (put := (fun g => (h, g.1, r1, r2, r3, g.2, r_1.2, (fun _ => 0), (fun _ => 0)))) sub_X8_A0_4 (t_L_often l D cy hfl b0 b4 c_400) kw_562 kw_24 kw_560 kw_561 hd_L_often ⟨Nat.le_of_ble_eq_true rfl, Nat.le_of_ble_eq_true rfl⟩ ⟨Nat.le_of_ble_eq_true rfl, Nat.le_of_ble_eq_true rfl⟩ rfl (Nat.le_of_ble_eq_true rfl) ?_
      show G l D X 20 (WX8 ad cy 24 40 6 36 4 24 6 6 b0 b1 b2 b3 b4 b5 b6 b7) 4 42 (h, r0, r1, r2, r3, r4, r_1.2, (fun _ => 0), (fun _ => 0)) 62 [(0, .ref (ad 0)), (1, .int x1), (2, .ref b0), (3, .ref b1), (4, .ref b2), (5, .ref b3), (6, .ref b4), (7, .int (r4 (0 : Int32).toNatClampNeg)), (8, .ref b5), (9, .ref b6), (10, .ref b7), (11, .int r_1.1), (12, .int x12_396), (13, .int x13_397), (14, .int x14_398)] [.int r_399, .int x12_396]
      refine jn1_of (P := fun (z_401 : Int32) => G l D X 20 (WX8 ad cy 24 40 6 36 4 24 6 6 b0 b1 b2 b3 b4 b5 b6 b7) 4 42 (h, r0, r1, r2, r3, r4, r_1.2, (fun _ => 0), (fun _ => 0)) 70 [(0, .ref (ad 0)), (1, .int x1), (2, .ref b0), (3, .ref b1), (4, .ref b2), (5, .ref b3), (6, .ref b4), (7, .int (r4 (0 : Int32).toNatClampNeg)), (8, .ref b5), (9, .ref b6), (10, .ref b7), (11, .int r_1.1), (13, .int x13_397), (14, .int x14_398)] [.int z_401, .int x12_396]) E ?_ ?_
      · intro z_401 E
        show G l D X 20 (WX8 ad cy 24 40 6 36 4 24 6 6 b0 b1 b2 b3 b4 b5 b6 b7) 4 42 (h, r0, r1, r2, r3, r4, r_1.2, (fun _ => 0), (fun _ => 0)) 70 [(0, .ref (ad 0)), (1, .int x1), (2, .ref b0), (3, .ref b1), (4, .ref b2), (5, .ref b3), (6, .ref b4), (7, .int (r4 (0 : Int32).toNatClampNeg)), (8, .ref b5), (9, .ref b6), (10, .ref b7), (11, .int r_1.1), (13, .int x13_397), (14, .int x14_398)] [.int z_401, .int x12_396]
        refine g_iadd (pc' := 71) O ⟨dL_same_70, rfl⟩ ?_
        refine g_nm E (fun y12_402 E => ?_)
        refine g_istore (pc' := 73) O ⟨dL_same_71, rfl⟩ (lv' := [(12, .int y12_402), (0, .ref (ad 0)), (1, .int x1), (2, .ref b0), (3, .ref b1), (4, .ref b2), (5, .ref b3), (6, .ref b4), (7, .int (r4 (0 : Int32).toNatClampNeg)), (8, .ref b5), (9, .ref b6), (10, .ref b7), (11, .int r_1.1), (13, .int x13_397), (14, .int x14_398)]) (by decide) rfl ?_
        refine g_iload (pc' := 75) O ⟨dL_same_73, rfl⟩ (q := 13) rfl ?_
        refine g_aload_n (pc' := 76) O ⟨dL_same_75, rfl⟩ (q := 3) rfl rfl ?_
        refine g_iload (pc' := 78) O ⟨dL_same_76, rfl⟩ (q := 14) rfl ?_
        refine g_iald (pc' := 79) O ⟨dL_same_78, rfl⟩ zX8_0 E (fun E => ?_)
        refine g_bipush (pc' := 81) O ⟨dL_same_79, rfl⟩ (v := (8 : Int32)) rfl ?_
        refine g_irem (pc' := 82) O ⟨dL_same_81, rfl⟩ (by decide) ?_
        refine g_aload_n (pc' := 83) O ⟨dL_same_82, rfl⟩ (q := 3) rfl rfl ?_
        refine g_iload (pc' := 85) O ⟨dL_same_83, rfl⟩ (q := 14) rfl ?_
        refine g_iald (pc' := 86) O ⟨dL_same_85, rfl⟩ zX8_0 E (fun E => ?_)
        refine g_bipush (pc' := 88) O ⟨dL_same_86, rfl⟩ (v := (8 : Int32)) rfl ?_
        refine g_idiv (pc' := 89) O ⟨dL_same_88, rfl⟩ (by decide) ?_
        refine g_icmp_le (pc' := 92) O ⟨dL_same_89, rfl⟩ E (tgt := 96) (by decide) (fun E => ?_) (fun E => ?_)
        · refine g_iconst (pc' := 97) O ⟨dL_same_96, rfl⟩ (v := (0 : Int32)) rfl ?_
          refine g_iadd (pc' := 98) O ⟨dL_same_97, rfl⟩ ?_
          refine g_nm E (fun y13_403 E => ?_)
          refine g_istore (pc' := 100) O ⟨dL_same_98, rfl⟩ (lv' := [(13, .int y13_403), (12, .int y12_402), (0, .ref (ad 0)), (1, .int x1), (2, .ref b0), (3, .ref b1), (4, .ref b2), (5, .ref b3), (6, .ref b4), (7, .int (r4 (0 : Int32).toNatClampNeg)), (8, .ref b5), (9, .ref b6), (10, .ref b7), (11, .int r_1.1), (14, .int x14_398)]) (by decide) rfl ?_
          refine g_iinc (pc' := 103) O ⟨dL_same_100, rfl⟩ (q := 14) (v := x14_398 + (1 : Int32)) (lv' := [(14, .int (x14_398 + (1 : Int32))), (13, .int y13_403), (12, .int y12_402), (0, .ref (ad 0)), (1, .int x1), (2, .ref b0), (3, .ref b1), (4, .ref b2), (5, .ref b3), (6, .ref b4), (7, .int (r4 (0 : Int32).toNatClampNeg)), (8, .ref b5), (9, .ref b6), (10, .ref b7), (11, .int r_1.1)]) rfl rfl (by decide) rfl ?_
          refine g_goto (pc' := 106) O ⟨dL_same_103, rfl⟩ (tgt := 43) (by decide) ?_
          refine g_sub (lv' := [(0, .ref (ad 0)), (1, .int x1), (2, .ref b0), (3, .ref b1), (4, .ref b2), (5, .ref b3), (6, .ref b4), (7, .int (r4 (0 : Int32).toNatClampNeg)), (8, .ref b5), (9, .ref b6), (10, .ref b7), (11, .int r_1.1), (12, .int y12_402), (13, .int y13_403), (14, .int (x14_398 + (1 : Int32)))]) [3, 4, 5, 6, 7, 8, 9, 10, 11, 12, 13, 14, 2, 1, 0] rfl ?_
          exact ih43 _ _ _ E
        · refine g_iconst (pc' := 93) O ⟨dL_same_92, rfl⟩ (v := (1 : Int32)) rfl ?_
          refine g_goto (pc' := 96) O ⟨dL_same_93, rfl⟩ (tgt := 97) (by decide) ?_
          refine g_iadd (pc' := 98) O ⟨dL_same_97, rfl⟩ ?_
          refine g_nm E (fun y13_404 E => ?_)
          refine g_istore (pc' := 100) O ⟨dL_same_98, rfl⟩ (lv' := [(13, .int y13_404), (12, .int y12_402), (0, .ref (ad 0)), (1, .int x1), (2, .ref b0), (3, .ref b1), (4, .ref b2), (5, .ref b3), (6, .ref b4), (7, .int (r4 (0 : Int32).toNatClampNeg)), (8, .ref b5), (9, .ref b6), (10, .ref b7), (11, .int r_1.1), (14, .int x14_398)]) (by decide) rfl ?_
          refine g_iinc (pc' := 103) O ⟨dL_same_100, rfl⟩ (q := 14) (v := x14_398 + (1 : Int32)) (lv' := [(14, .int (x14_398 + (1 : Int32))), (13, .int y13_404), (12, .int y12_402), (0, .ref (ad 0)), (1, .int x1), (2, .ref b0), (3, .ref b1), (4, .ref b2), (5, .ref b3), (6, .ref b4), (7, .int (r4 (0 : Int32).toNatClampNeg)), (8, .ref b5), (9, .ref b6), (10, .ref b7), (11, .int r_1.1)]) rfl rfl (by decide) rfl ?_
          refine g_goto (pc' := 106) O ⟨dL_same_103, rfl⟩ (tgt := 43) (by decide) ?_
          refine g_sub (lv' := [(0, .ref (ad 0)), (1, .int x1), (2, .ref b0), (3, .ref b1), (4, .ref b2), (5, .ref b3), (6, .ref b4), (7, .int (r4 (0 : Int32).toNatClampNeg)), (8, .ref b5), (9, .ref b6), (10, .ref b7), (11, .int r_1.1), (12, .int y12_402), (13, .int y13_404), (14, .int (x14_398 + (1 : Int32)))]) [3, 4, 5, 6, 7, 8, 9, 10, 11, 12, 13, 14, 2, 1, 0] rfl ?_
          exact ih43 _ _ _ E
      · intro k70 hk70 E
        refine g_if_ne (pc' := 65) O ⟨dL_same_62, rfl⟩ E (tgt := 69) (by decide) (fun E => ?_) (fun E => ?_)
        · refine g_iconst (pc' := 70) O ⟨dL_same_69, rfl⟩ (v := (0 : Int32)) rfl ?_
          refine g_sub (lv' := [(0, .ref (ad 0)), (1, .int x1), (2, .ref b0), (3, .ref b1), (4, .ref b2), (5, .ref b3), (6, .ref b4), (7, .int (r4 (0 : Int32).toNatClampNeg)), (8, .ref b5), (9, .ref b6), (10, .ref b7), (11, .int r_1.1), (13, .int x13_397), (14, .int x14_398)]) [0, 1, 2, 3, 4, 5, 6, 7, 8, 9, 10, 11, 13, 14] rfl ?_
          exact hk70 _ E
        · refine g_iconst (pc' := 66) O ⟨dL_same_65, rfl⟩ (v := (1 : Int32)) rfl ?_
          refine g_goto (pc' := 69) O ⟨dL_same_66, rfl⟩ (tgt := 70) (by decide) ?_
          refine g_sub (lv' := [(0, .ref (ad 0)), (1, .int x1), (2, .ref b0), (3, .ref b1), (4, .ref b2), (5, .ref b3), (6, .ref b4), (7, .int (r4 (0 : Int32).toNatClampNeg)), (8, .ref b5), (9, .ref b6), (10, .ref b7), (11, .int r_1.1), (13, .int x13_397), (14, .int x14_398)]) [0, 1, 2, 3, 4, 5, 6, 7, 8, 9, 10, 11, 13, 14] rfl ?_
          exact hk70 _ E
