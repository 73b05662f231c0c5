/-! WALKS, laid by program: each method does what its pure program says -/
set_option maxRecDepth 100000 in
set_option maxHeartbeats 4000000 in
theorem t_X9_layerOf_1 (l : Launch) (D : va_G) (ad : Nat → Nat) (cy : Nat → ClassId) {h : Hp} {x1 : Int32} {o : Int32 × Hp} (E : f_X9_layerOf_1 h x1 = some o) : CtI l D cy (WC ad cy) yX9_layerOf cX9_layerOf 2 .int 2 63 [.ref (ad 1), .int x1] h o.1 o.2 := by
  refine sI (own := RX9) rfl rfl (Nat.le_of_ble_eq_true rfl) (fun X O hret => ?_)
  show G l D X 2 (WC ad cy) 0 0 h 0 [(0, .ref (ad 1)), (1, .int x1)] []
  unfold f_X9_layerOf_1 at E
  refine g_aload_n (pc' := 1) O ⟨dX9_layerOf_0, rfl⟩ (q := 0) rfl rfl ?_
  obtain ⟨r_1, c_2, E⟩ := bd_of E
  refine g_Vi (pc' := 4) O ⟨dX9_layerOf_1, rfl⟩ (y := yX9_layerCount) (As := []) (st := []) (t_X9_layerCount_1 l D ad cy (h := h) c_2) kw_573 kw_26 kw_626 kw_571 kw_572 rfl (wC_1 ad cy h) hd_X9_layerCount ⟨Nat.le_of_ble_eq_true rfl, Nat.le_of_ble_eq_true rfl⟩ ⟨Nat.le_of_ble_eq_true rfl, Nat.le_of_ble_eq_true rfl⟩ rfl (Nat.le_of_ble_eq_true rfl) ?_
  refine g_pop (pc' := 5) O ⟨dX9_layerOf_4, rfl⟩ rfl ?_
  refine g_aload_n (pc' := 6) O ⟨dX9_layerOf_5, rfl⟩ (q := 0) rfl rfl ?_
  refine gf_C_RX9_25_1 ad cy (pc' := 9) O ⟨dX9_layerOf_6, rfl⟩ ?_
  refine g_iload_n (pc' := 10) O ⟨dX9_layerOf_9, rfl⟩ (q := 1) rfl rfl ?_
  refine g_iald (pc' := 11) O ⟨dX9_layerOf_10, rfl⟩ (wC_4 ad cy r_1.2) E (fun E => ?_)
  cases E
  exact hret _ _ _ ⟨dX9_layerOf_11, rfl⟩ rfl
set_option maxRecDepth 100000 in
set_option maxHeartbeats 4000000 in
theorem t_X9_placeKey_1 (l : Launch) (D : va_G) (ad : Nat → Nat) (cy : Nat → ClassId) {h : Hp} {x1 : Int32} {o : Int32} (E : f_X9_placeKey_1 h x1 = some o) : CtI l D cy (WC ad cy) yX9_placeKey cX9_placeKey 2 .int 1 40 [.ref (ad 1), .int x1] h o h := by
  refine sI (own := RX9) rfl rfl (Nat.le_of_ble_eq_true rfl) (fun X O hret => ?_)
  show G l D X 2 (WC ad cy) 0 0 h 0 [(0, .ref (ad 1)), (1, .int x1)] []
  unfold f_X9_placeKey_1 at E
  refine g_bipush (pc' := 2) O ⟨dX9_placeKey_0, rfl⟩ (v := (6 : Int32)) rfl ?_
  refine g_aload_n (pc' := 3) O ⟨dX9_placeKey_2, rfl⟩ (q := 0) rfl rfl ?_
  refine gf_C_RX9_25_1 ad cy (pc' := 6) O ⟨dX9_placeKey_3, rfl⟩ ?_
  refine g_iload_n (pc' := 7) O ⟨dX9_placeKey_6, rfl⟩ (q := 1) rfl rfl ?_
  refine g_iald (pc' := 8) O ⟨dX9_placeKey_7, rfl⟩ (wC_4 ad cy h) E (fun E => ?_)
  refine g_imul (pc' := 9) O ⟨dX9_placeKey_8, rfl⟩ ?_
  refine g_aload_n (pc' := 10) O ⟨dX9_placeKey_9, rfl⟩ (q := 0) rfl rfl ?_
  refine gf_C_RX9_18_1 ad cy (pc' := 13) O ⟨dX9_placeKey_10, rfl⟩ ?_
  refine g_iload_n (pc' := 14) O ⟨dX9_placeKey_13, rfl⟩ (q := 1) rfl rfl ?_
  refine g_iald (pc' := 15) O ⟨dX9_placeKey_14, rfl⟩ (wC_2 ad cy h) E (fun E => ?_)
  refine g_aload_n (pc' := 16) O ⟨dX9_placeKey_15, rfl⟩ (q := 0) rfl rfl ?_
  refine gf_C_RX9_22_1 ad cy (pc' := 19) O ⟨dX9_placeKey_16, rfl⟩ ?_
  refine g_iload_n (pc' := 20) O ⟨dX9_placeKey_19, rfl⟩ (q := 1) rfl rfl ?_
  refine g_iald (pc' := 21) O ⟨dX9_placeKey_20, rfl⟩ (wC_3 ad cy h) E (fun E => ?_)
  refine g_mmin (pc' := 24) O ⟨dX9_placeKey_21, rfl⟩ kw_637 kw_42 kw_635 kw_636 ⟨by simp only [RM]; omega, Nat.le_of_ble_eq_true rfl⟩ ⟨Nat.le_refl _, Nat.le_refl _⟩ ?_
  refine g_iadd (pc' := 25) O ⟨dX9_placeKey_24, rfl⟩ ?_
  cases E
  exact hret _ _ _ ⟨dX9_placeKey_25, rfl⟩ rfl
set_option maxRecDepth 100000 in
set_option maxHeartbeats 4000000 in
theorem t_X9_inTextAt_1 (l : Launch) (D : va_G) (ad : Nat → Nat) (cy : Nat → ClassId) {h : Hp} {x1 : Int32} {o : Int32} (E : f_X9_inTextAt_1 h x1 = some o) : CtI l D cy (WC ad cy) yX9_inTextAt cX9_inTextAt 5 .int 2 61 [.ref (ad 1), .int x1] h o h := by
  refine sI (own := RX9) rfl rfl (Nat.le_of_ble_eq_true rfl) (fun X O hret => ?_)
  show G l D X 5 (WC ad cy) 0 0 h 0 [(0, .ref (ad 1)), (1, .int x1)] []
  unfold f_X9_inTextAt_1 at E
  refine g_iconst (pc' := 1) O ⟨dX9_inTextAt_0, rfl⟩ (v := (0 : Int32)) rfl ?_
  refine g_istore_n (pc' := 2) O ⟨dX9_inTextAt_1, rfl⟩ (lv' := [(2, .int (0 : Int32)), (0, .ref (ad 1)), (1, .int x1)]) rfl (by decide) rfl ?_
  refine jn0_of (P := G l D X 5 (WC ad cy) 0 0 h 60 [] []) E ?_ ?_
  · intro E
    show G l D X 5 (WC ad cy) 0 0 h 60 [] []
    refine g_iconst (pc' := 61) O ⟨dX9_inTextAt_60, rfl⟩ (v := (0 : Int32)) rfl ?_
    cases E
    exact hret _ _ _ ⟨dX9_inTextAt_61, rfl⟩ rfl
  · intro k60 hk60 E
    refine jn1_of (P := fun (x2_1 : Int32) => G l D X 5 (WC ad cy) 0 0 h 52 [(2, .int x2_1)] []) E ?_ ?_
    · intro x2_1 E
      show G l D X 5 (WC ad cy) 0 0 h 52 [(2, .int x2_1)] []
      refine g_iload_n (pc' := 53) O ⟨dX9_inTextAt_52, rfl⟩ (q := 0) rfl rfl ?_
      cases E
      exact hret _ _ _ ⟨dX9_inTextAt_53, rfl⟩ rfl
    · intro k52 hk52 E
      refine g_sub (lv' := [(0, .ref (ad 1)), (1, .int x1), (2, .int (0 : Int32))]) [1, 2, 0] rfl ?_
      refine fx1_of (P := fun (x2_2 : Int32) => G l D X 5 (WC ad cy) 0 0 h 2 [(0, .ref (ad 1)), (1, .int x1), (2, .int x2_2)] []) ?_ _ _ E
      intro self ih2 x2_2 E
      show G l D X 5 (WC ad cy) 0 0 h 2 [(0, .ref (ad 1)), (1, .int x1), (2, .int x2_2)] []
      unfold L_X9_inTextAt_1_2 at E
      refine g_iload_n (pc' := 3) O ⟨dX9_inTextAt_2, rfl⟩ (q := 2) rfl rfl ?_
      refine g_aload_n (pc' := 4) O ⟨dX9_inTextAt_3, rfl⟩ (q := 0) rfl rfl ?_
      refine gf_C_RX9_15_1 ad cy (pc' := 7) O ⟨dX9_inTextAt_4, rfl⟩ ?_
      refine g_icmp_ge (pc' := 10) O ⟨dX9_inTextAt_7, rfl⟩ E (tgt := 60) (by decide) (fun E => ?_) (fun E => ?_)
      · refine g_sub (lv' := []) [] rfl ?_
        exact hk60 E
      · refine g_iconst (pc' := 11) O ⟨dX9_inTextAt_10, rfl⟩ (v := (0 : Int32)) rfl ?_
        refine g_istore_n (pc' := 12) O ⟨dX9_inTextAt_11, rfl⟩ (lv' := [(3, .int (0 : Int32)), (0, .ref (ad 1)), (1, .int x1), (2, .int x2_2)]) rfl (by decide) rfl ?_
        refine g_iconst (pc' := 13) O ⟨dX9_inTextAt_12, rfl⟩ (v := (0 : Int32)) rfl ?_
        refine g_istore (pc' := 15) O ⟨dX9_inTextAt_13, rfl⟩ (lv' := [(4, .int (0 : Int32)), (3, .int (0 : Int32)), (0, .ref (ad 1)), (1, .int x1), (2, .int x2_2)]) (by decide) rfl ?_
        refine jn1_of (P := fun (x3_3 : Int32) => G l D X 5 (WC ad cy) 0 0 h 47 [(0, .ref (ad 1)), (1, .int x1), (2, .int x2_2), (3, .int x3_3)] []) E ?_ ?_
        · intro x3_3 E
          show G l D X 5 (WC ad cy) 0 0 h 47 [(0, .ref (ad 1)), (1, .int x1), (2, .int x2_2), (3, .int x3_3)] []
          refine g_iload_n (pc' := 48) O ⟨dX9_inTextAt_47, rfl⟩ (q := 3) rfl rfl ?_
          refine g_iload_n (pc' := 49) O ⟨dX9_inTextAt_48, rfl⟩ (q := 1) rfl rfl ?_
          refine g_icmp_ne (pc' := 52) O ⟨dX9_inTextAt_49, rfl⟩ E (tgt := 54) (by decide) (fun E => ?_) (fun E => ?_)
          · refine g_iinc (pc' := 57) O ⟨dX9_inTextAt_54, rfl⟩ (q := 2) (v := x2_2 + (1 : Int32)) (lv' := [(2, .int (x2_2 + (1 : Int32))), (0, .ref (ad 1)), (1, .int x1), (3, .int x3_3)]) rfl rfl (by decide) rfl ?_
            refine g_goto (pc' := 60) O ⟨dX9_inTextAt_57, rfl⟩ (tgt := 2) (by decide) ?_
            refine g_sub (lv' := [(0, .ref (ad 1)), (1, .int x1), (2, .int (x2_2 + (1 : Int32)))]) [1, 2, 0] rfl ?_
            exact ih2 _ E
          · refine g_sub (lv' := [(2, .int x2_2)]) [2] rfl ?_
            exact hk52 _ E
        · intro k47 hk47 E
          refine g_sub (lv' := [(0, .ref (ad 1)), (1, .int x1), (2, .int x2_2), (3, .int (0 : Int32)), (4, .int (0 : Int32))]) [2, 3, 4, 1, 0] rfl ?_
          refine fx2_of (P := fun (x3_4 : Int32) (x4_5 : Int32) => G l D X 5 (WC ad cy) 0 0 h 15 [(0, .ref (ad 1)), (1, .int x1), (2, .int x2_2), (3, .int x3_4), (4, .int x4_5)] []) ?_ _ _ _ E
          intro self ih15 x3_4 x4_5 E
          show G l D X 5 (WC ad cy) 0 0 h 15 [(0, .ref (ad 1)), (1, .int x1), (2, .int x2_2), (3, .int x3_4), (4, .int x4_5)] []
          unfold L_X9_inTextAt_1_15 at E
          refine g_iload (pc' := 17) O ⟨dX9_inTextAt_15, rfl⟩ (q := 4) rfl ?_
          refine g_aload_n (pc' := 18) O ⟨dX9_inTextAt_17, rfl⟩ (q := 0) rfl rfl ?_
          refine gf_C_RX9_15_1 ad cy (pc' := 21) O ⟨dX9_inTextAt_18, rfl⟩ ?_
          refine g_icmp_ge (pc' := 24) O ⟨dX9_inTextAt_21, rfl⟩ E (tgt := 47) (by decide) (fun E => ?_) (fun E => ?_)
          · refine g_sub (lv' := [(0, .ref (ad 1)), (1, .int x1), (2, .int x2_2), (3, .int x3_4)]) [0, 1, 2, 3] rfl ?_
            exact hk47 _ E
          · refine g_aload_n (pc' := 25) O ⟨dX9_inTextAt_24, rfl⟩ (q := 0) rfl rfl ?_
            refine g_iload (pc' := 27) O ⟨dX9_inTextAt_25, rfl⟩ (q := 4) rfl ?_
            obtain ⟨r_6, c_7, E⟩ := bd_of E
            refine g_Vi (pc' := 30) O ⟨dX9_inTextAt_27, rfl⟩ (y := yX9_placeKey) (As := [.int x4_5]) (st := []) (t_X9_placeKey_1 l D ad cy (h := h) c_7) kw_634 kw_26 kw_631 kw_633 kw_11 rfl (wC_1 ad cy h) hd_X9_placeKey ⟨Nat.le_of_ble_eq_true rfl, Nat.le_of_ble_eq_true rfl⟩ ⟨Nat.le_of_ble_eq_true rfl, Nat.le_of_ble_eq_true rfl⟩ rfl (Nat.le_of_ble_eq_true rfl) ?_
            refine g_aload_n (pc' := 31) O ⟨dX9_inTextAt_30, rfl⟩ (q := 0) rfl rfl ?_
            refine g_iload_n (pc' := 32) O ⟨dX9_inTextAt_31, rfl⟩ (q := 2) rfl rfl ?_
            obtain ⟨r_8, c_9, E⟩ := bd_of E
            refine g_Vi (pc' := 35) O ⟨dX9_inTextAt_32, rfl⟩ (y := yX9_placeKey) (As := [.int x2_2]) (st := [.int r_6]) (t_X9_placeKey_1 l D ad cy (h := h) c_9) kw_634 kw_26 kw_631 kw_633 kw_11 rfl (wC_1 ad cy h) hd_X9_placeKey ⟨Nat.le_of_ble_eq_true rfl, Nat.le_of_ble_eq_true rfl⟩ ⟨Nat.le_of_ble_eq_true rfl, Nat.le_of_ble_eq_true rfl⟩ rfl (Nat.le_of_ble_eq_true rfl) ?_
            refine g_icmp_ge (pc' := 38) O ⟨dX9_inTextAt_35, rfl⟩ E (tgt := 41) (by decide) (fun E => ?_) (fun E => ?_)
            · refine g_iinc (pc' := 44) O ⟨dX9_inTextAt_41, rfl⟩ (q := 4) (v := x4_5 + (1 : Int32)) (lv' := [(4, .int (x4_5 + (1 : Int32))), (0, .ref (ad 1)), (1, .int x1), (2, .int x2_2), (3, .int x3_4)]) rfl rfl (by decide) rfl ?_
              refine g_goto (pc' := 47) O ⟨dX9_inTextAt_44, rfl⟩ (tgt := 15) (by decide) ?_
              refine g_sub (lv' := [(0, .ref (ad 1)), (1, .int x1), (2, .int x2_2), (3, .int x3_4), (4, .int (x4_5 + (1 : Int32)))]) [1, 2, 3, 4, 0] rfl ?_
              exact ih15 _ _ E
            · refine g_iinc (pc' := 41) O ⟨dX9_inTextAt_38, rfl⟩ (q := 3) (v := x3_4 + (1 : Int32)) (lv' := [(3, .int (x3_4 + (1 : Int32))), (0, .ref (ad 1)), (1, .int x1), (2, .int x2_2), (4, .int x4_5)]) rfl rfl (by decide) rfl ?_
              refine g_iinc (pc' := 44) O ⟨dX9_inTextAt_41, rfl⟩ (q := 4) (v := x4_5 + (1 : Int32)) (lv' := [(4, .int (x4_5 + (1 : Int32))), (3, .int (x3_4 + (1 : Int32))), (0, .ref (ad 1)), (1, .int x1), (2, .int x2_2)]) rfl rfl (by decide) rfl ?_
              refine g_goto (pc' := 47) O ⟨dX9_inTextAt_44, rfl⟩ (tgt := 15) (by decide) ?_
              refine g_sub (lv' := [(0, .ref (ad 1)), (1, .int x1), (2, .int x2_2), (3, .int (x3_4 + (1 : Int32))), (4, .int (x4_5 + (1 : Int32)))]) [2, 3, 4, 1, 0] rfl ?_
              exact ih15 _ _ E
set_option maxRecDepth 100000 in
set_option maxHeartbeats 4000000 in
theorem t_X9_signAt_1 (l : Launch) (D : va_G) (ad : Nat → Nat) (cy : Nat → ClassId) {h : Hp} {x1 : Int32} {o : Int32 × Hp} (E : f_X9_signAt_1 h x1 = some o) : CtI l D cy (WC ad cy) yX9_signAt cX9_signAt 3 .char 3 85 [.ref (ad 1), .int x1] h o.1 o.2 := by
  refine sI (own := RX9) rfl rfl (Nat.le_of_ble_eq_true rfl) (fun X O hret => ?_)
  show G l D X 3 (WC ad cy) 0 0 h 0 [(0, .ref (ad 1)), (1, .int x1)] []
  unfold f_X9_signAt_1 at E
  refine g_iload_n (pc' := 1) O ⟨dX9_signAt_0, rfl⟩ (q := 1) rfl rfl ?_
  refine g_aload_n (pc' := 2) O ⟨dX9_signAt_1, rfl⟩ (q := 0) rfl rfl ?_
  obtain ⟨r_1, c_2, E⟩ := bd_of E
  refine g_Vi (pc' := 5) O ⟨dX9_signAt_2, rfl⟩ (y := yX9_textLength) (As := []) (st := [.int x1]) (t_X9_textLength_1 l D ad cy (h := h) c_2) kw_611 kw_26 kw_625 kw_609 kw_610 rfl (wC_1 ad cy h) hd_X9_textLength ⟨Nat.le_of_ble_eq_true rfl, Nat.le_of_ble_eq_true rfl⟩ ⟨Nat.le_of_ble_eq_true rfl, Nat.le_of_ble_eq_true rfl⟩ rfl (Nat.le_of_ble_eq_true rfl) ?_
  refine g_icmp_lt (pc' := 8) O ⟨dX9_signAt_5, rfl⟩ E (tgt := 11) (by decide) (fun E => ?_) (fun E => ?_)
  · refine g_aload_n (pc' := 12) O ⟨dX9_signAt_11, rfl⟩ (q := 0) rfl rfl ?_
    obtain ⟨r_3, c_4, E⟩ := bd_of E
    refine g_Vi (pc' := 15) O ⟨dX9_signAt_12, rfl⟩ (y := yX9_layerCount) (As := []) (st := []) (t_X9_layerCount_1 l D ad cy (h := h) c_4) kw_573 kw_26 kw_626 kw_571 kw_572 rfl (wC_1 ad cy h) hd_X9_layerCount ⟨Nat.le_of_ble_eq_true rfl, Nat.le_of_ble_eq_true rfl⟩ ⟨Nat.le_of_ble_eq_true rfl, Nat.le_of_ble_eq_true rfl⟩ rfl (Nat.le_of_ble_eq_true rfl) ?_
    refine g_pop (pc' := 16) O ⟨dX9_signAt_15, rfl⟩ rfl ?_
    refine g_aload_n (pc' := 17) O ⟨dX9_signAt_16, rfl⟩ (q := 0) rfl rfl ?_
    refine g_iload_n (pc' := 18) O ⟨dX9_signAt_17, rfl⟩ (q := 1) rfl rfl ?_
    refine g_iconst (pc' := 19) O ⟨dX9_signAt_18, rfl⟩ (v := (4 : Int32)) rfl ?_
    refine g_idiv (pc' := 20) O ⟨dX9_signAt_19, rfl⟩ (by decide) ?_
    obtain ⟨r_5, c_6, E⟩ := bd_of E
    refine g_Vi (pc' := 23) O ⟨dX9_signAt_20, rfl⟩ (y := yX9_inTextAt) (As := [.int (x1 / (4 : Int32))]) (st := []) (t_X9_inTextAt_1 l D ad cy (h := r_3.2) c_6) kw_630 kw_26 kw_627 kw_629 kw_10 rfl (wC_1 ad cy r_3.2) hd_X9_inTextAt ⟨Nat.le_of_ble_eq_true rfl, Nat.le_of_ble_eq_true rfl⟩ ⟨Nat.le_of_ble_eq_true rfl, Nat.le_of_ble_eq_true rfl⟩ rfl (Nat.le_of_ble_eq_true rfl) ?_
    refine g_istore_n (pc' := 24) O ⟨dX9_signAt_23, rfl⟩ (lv' := [(2, .int r_5), (0, .ref (ad 1)), (1, .int x1)]) rfl (by decide) rfl ?_
    refine g_iload_n (pc' := 25) O ⟨dX9_signAt_24, rfl⟩ (q := 2) rfl rfl ?_
    refine g_iconst (pc' := 26) O ⟨dX9_signAt_25, rfl⟩ (v := (4 : Int32)) rfl ?_
    refine g_irem (pc' := 27) O ⟨dX9_signAt_26, rfl⟩ (by decide) ?_
    refine g_tab (pc' := 52) O ⟨dX9_signAt_27, rfl⟩ (v := (0 : Int32)) (tgt := 52) E ⟨by decide, by decide, rfl, by decide⟩ (fun E => ?_) (fun n0 E => ?_)
    · refine g_bipush (pc' := 54) O ⟨dX9_signAt_52, rfl⟩ (v := (48 : Int32)) rfl ?_
      refine g_aload_n (pc' := 55) O ⟨dX9_signAt_54, rfl⟩ (q := 1) rfl rfl ?_
      refine gf_C_RX9_18_1 ad cy (pc' := 58) O ⟨dX9_signAt_55, rfl⟩ ?_
      refine g_iload_n (pc' := 59) O ⟨dX9_signAt_58, rfl⟩ (q := 0) rfl rfl ?_
      refine g_iald (pc' := 60) O ⟨dX9_signAt_59, rfl⟩ (wC_2 ad cy r_3.2) E (fun E => ?_)
      refine g_iadd (pc' := 61) O ⟨dX9_signAt_60, rfl⟩ ?_
      refine g_i2c (pc' := 62) O ⟨dX9_signAt_61, rfl⟩ ?_
      obtain ⟨hn, E⟩ := ckc_of E
      cases E
      exact hret _ _ _ ⟨dX9_signAt_62, rfl⟩ hn
    refine g_tab (pc' := 52) O ⟨dX9_signAt_27, rfl⟩ (v := (1 : Int32)) (tgt := 63) E ⟨by decide, by decide, rfl, by decide⟩ (fun E => ?_) (fun n1 E => ?_)
    · refine g_bipush (pc' := 65) O ⟨dX9_signAt_63, rfl⟩ (v := (58 : Int32)) rfl ?_
      obtain ⟨hn, E⟩ := ckc_of E
      cases E
      exact hret _ _ _ ⟨dX9_signAt_65, rfl⟩ hn
    refine g_tab (pc' := 52) O ⟨dX9_signAt_27, rfl⟩ (v := (2 : Int32)) (tgt := 66) E ⟨by decide, by decide, rfl, by decide⟩ (fun E => ?_) (fun n2 E => ?_)
    · refine g_bipush (pc' := 68) O ⟨dX9_signAt_66, rfl⟩ (v := (48 : Int32)) rfl ?_
      refine g_aload_n (pc' := 69) O ⟨dX9_signAt_68, rfl⟩ (q := 1) rfl rfl ?_
      refine gf_C_RX9_22_1 ad cy (pc' := 72) O ⟨dX9_signAt_69, rfl⟩ ?_
      refine g_iload_n (pc' := 73) O ⟨dX9_signAt_72, rfl⟩ (q := 0) rfl rfl ?_
      refine g_iald (pc' := 74) O ⟨dX9_signAt_73, rfl⟩ (wC_3 ad cy r_3.2) E (fun E => ?_)
      refine g_iadd (pc' := 75) O ⟨dX9_signAt_74, rfl⟩ ?_
      refine g_i2c (pc' := 76) O ⟨dX9_signAt_75, rfl⟩ ?_
      obtain ⟨hn, E⟩ := ckc_of E
      cases E
      exact hret _ _ _ ⟨dX9_signAt_76, rfl⟩ hn
    have m0 := neI (z := 0) n0 (by decide)
    have m1 := neI (z := 1) n1 (by decide)
    have m2 := neI (z := 2) n2 (by decide)
    refine g_tabD (pc' := 52) O ⟨dX9_signAt_27, rfl⟩ (tgt := 77) (by omega) (by decide) ?_
    refine g_aload_n (pc' := 78) O ⟨dX9_signAt_77, rfl⟩ (q := 1) rfl rfl ?_
    refine gf_C_RX9_25_1 ad cy (pc' := 81) O ⟨dX9_signAt_78, rfl⟩ ?_
    refine g_iload_n (pc' := 82) O ⟨dX9_signAt_81, rfl⟩ (q := 0) rfl rfl ?_
    refine g_iald (pc' := 83) O ⟨dX9_signAt_82, rfl⟩ (wC_4 ad cy r_3.2) E (fun E => ?_)
    refine g_aload_n (pc' := 84) O ⟨dX9_signAt_83, rfl⟩ (q := 1) rfl rfl ?_
    refine gf_C_RX9_25_1 ad cy (pc' := 87) O ⟨dX9_signAt_84, rfl⟩ ?_
    refine g_aload_n (pc' := 88) O ⟨dX9_signAt_87, rfl⟩ (q := 1) rfl rfl ?_
    refine g_iload_n (pc' := 89) O ⟨dX9_signAt_88, rfl⟩ (q := 2) rfl rfl ?_
    refine g_iconst (pc' := 90) O ⟨dX9_signAt_89, rfl⟩ (v := (4 : Int32)) rfl ?_
    refine g_idiv (pc' := 91) O ⟨dX9_signAt_90, rfl⟩ (by decide) ?_
    refine g_iconst (pc' := 92) O ⟨dX9_signAt_91, rfl⟩ (v := (1 : Int32)) rfl ?_
    refine g_iadd (pc' := 93) O ⟨dX9_signAt_92, rfl⟩ ?_
    obtain ⟨r_7, c_8, E⟩ := bd_of E
    refine g_Vi (pc' := 96) O ⟨dX9_signAt_93, rfl⟩ (y := yX9_inTextAt) (As := [.int ((x1 / (4 : Int32)) + (1 : Int32))]) (st := [.ref (ad 4), .int (r_3.2.1 4 r_5.toNatClampNeg)]) (t_X9_inTextAt_1 l D ad cy (h := r_3.2) c_8) kw_630 kw_26 kw_627 kw_629 kw_10 rfl (wC_1 ad cy r_3.2) hd_X9_inTextAt ⟨Nat.le_of_ble_eq_true rfl, Nat.le_of_ble_eq_true rfl⟩ ⟨Nat.le_of_ble_eq_true rfl, Nat.le_of_ble_eq_true rfl⟩ rfl (Nat.le_of_ble_eq_true rfl) ?_
    refine g_iald (pc' := 97) O ⟨dX9_signAt_96, rfl⟩ (wC_4 ad cy r_3.2) E (fun E => ?_)
    refine g_icmp_ne (pc' := 100) O ⟨dX9_signAt_97, rfl⟩ E (tgt := 105) (by decide) (fun E => ?_) (fun E => ?_)
    · refine g_bipush (pc' := 107) O ⟨dX9_signAt_105, rfl⟩ (v := (47 : Int32)) rfl ?_
      obtain ⟨hn, E⟩ := ckc_of E
      cases E
      exact hret _ _ _ ⟨dX9_signAt_107, rfl⟩ hn
    · refine g_bipush (pc' := 102) O ⟨dX9_signAt_100, rfl⟩ (v := (32 : Int32)) rfl ?_
      refine g_goto (pc' := 105) O ⟨dX9_signAt_102, rfl⟩ (tgt := 107) (by decide) ?_
      obtain ⟨hn, E⟩ := ckc_of E
      cases E
      exact hret _ _ _ ⟨dX9_signAt_107, rfl⟩ hn
  · refine g_bipush (pc' := 10) O ⟨dX9_signAt_8, rfl⟩ (v := (32 : Int32)) rfl ?_
    obtain ⟨hn, E⟩ := ckc_of E
    cases E
    exact hret _ _ _ ⟨dX9_signAt_10, rfl⟩ hn
set_option maxRecDepth 100000 in
set_option maxHeartbeats 4000000 in
theorem t_X8_signIn (l : Launch) (D : va_G) (ad : Nat → Nat) (cy : Nat → ClassId) {h : Hp} {x0 : Int64} {x2 : Int32} {o : Int32} (E : f_X8_signIn x0 x2 = some o) : CtI l D cy (WC ad cy) yX8_signIn cX8_signIn 3 .char 0 0 [.long x0, .int x2] h o h := by
  refine sI (own := RX8) rfl rfl (Nat.le_of_ble_eq_true rfl) (fun X O hret => ?_)
  show G l D X 3 (WC ad cy) 0 0 h 0 [(0, .long x0), (2, .int x2)] []
  unfold f_X8_signIn at E
  refine g_lload_n (pc' := 1) O ⟨dX8_signIn_0, rfl⟩ (q := 0) rfl rfl ?_
  refine g_bipush (pc' := 3) O ⟨dX8_signIn_1, rfl⟩ (v := (8 : Int32)) rfl ?_
  refine g_iload_n (pc' := 4) O ⟨dX8_signIn_3, rfl⟩ (q := 1) rfl rfl ?_
  refine g_imul (pc' := 5) O ⟨dX8_signIn_4, rfl⟩ ?_
  refine g_lushr (pc' := 6) O ⟨dX8_signIn_5, rfl⟩ ?_
  refine g_ldc2 (pc' := 9) O ⟨dX8_signIn_6, rfl⟩ kw_486 ?_
  refine g_land (pc' := 10) O ⟨dX8_signIn_9, rfl⟩ ?_
  refine g_l2i (pc' := 11) O ⟨dX8_signIn_10, rfl⟩ ?_
  refine g_i2c (pc' := 12) O ⟨dX8_signIn_11, rfl⟩ ?_
  obtain ⟨hn, E⟩ := ckc_of E
  cases E
  exact hret _ _ _ ⟨dX8_signIn_12, rfl⟩ hn
set_option maxRecDepth 100000 in
set_option maxHeartbeats 4000000 in
theorem t_X8_put_11 (l : Launch) (D : va_G) (ad : Nat → Nat) (cy : Nat → ClassId) {h : Hp} {x1 : Int32} {o : Hp} (E : f_X8_put_11 h x1 = some o) : CtV l D cy (WC ad cy) yX8_put cX8_put 2 0 0 [.ref (ad 11), .int x1] h o := by
  refine sV (own := RX8) rfl rfl (Nat.le_of_ble_eq_true rfl) (fun X O hret => ?_)
  show G l D X 2 (WC ad cy) 0 0 h 0 [(0, .ref (ad 11)), (1, .int x1)] []
  unfold f_X8_put_11 at E
  refine g_aload_n (pc' := 1) O ⟨dX8_put_0, rfl⟩ (q := 0) rfl rfl ?_
  refine gf_C_RX8_15_11 ad cy (pc' := 4) O ⟨dX8_put_1, rfl⟩ ?_
  refine g_bipush (pc' := 6) O ⟨dX8_put_4, rfl⟩ (v := (40 : Int32)) rfl ?_
  refine g_icmp_ge (pc' := 9) O ⟨dX8_put_6, rfl⟩ E (tgt := 29) (by decide) (fun E => ?_) (fun E => ?_)
  · cases E
    exact hret _ _ _ ⟨dX8_put_29, rfl⟩
  · refine g_aload_n (pc' := 10) O ⟨dX8_put_9, rfl⟩ (q := 0) rfl rfl ?_
    refine gf_C_RX8_9_11 ad cy (pc' := 13) O ⟨dX8_put_10, rfl⟩ ?_
    refine g_aload_n (pc' := 14) O ⟨dX8_put_13, rfl⟩ (q := 0) rfl rfl ?_
    refine gf_C_RX8_15_11 ad cy (pc' := 17) O ⟨dX8_put_14, rfl⟩ ?_
    refine g_iload_n (pc' := 18) O ⟨dX8_put_17, rfl⟩ (q := 1) rfl rfl ?_
    refine g_cast (pc' := 19) O ⟨dX8_put_18, rfl⟩ (wC_12 ad cy h) (vC_12 ad cy h _) E (fun E => ?_)
    refine g_nmh E (fun h_1 E => ?_)
    refine g_aload_n (pc' := 20) O ⟨dX8_put_19, rfl⟩ (q := 0) rfl rfl ?_
    refine g_dup (pc' := 21) O ⟨dX8_put_20, rfl⟩ rfl ?_
    refine gf_C_RX8_15_11 ad cy (pc' := 24) O ⟨dX8_put_21, rfl⟩ ?_
    refine g_iconst (pc' := 25) O ⟨dX8_put_24, rfl⟩ (v := (1 : Int32)) rfl ?_
    refine g_iadd (pc' := 26) O ⟨dX8_put_25, rfl⟩ ?_
    refine gp_C_RX8_15_11 ad cy (pc' := 29) O ⟨dX8_put_26, rfl⟩ ?_
    refine g_nmh E (fun h_2 E => ?_)
    cases E
    exact hret _ _ _ ⟨dX8_put_29, rfl⟩
set_option maxRecDepth 100000 in
set_option maxHeartbeats 4000000 in
theorem t_X8_takes (l : Launch) (D : va_G) (ad : Nat → Nat) (cy : Nat → ClassId) {h : Hp} {x0 : Int32} {o : Int32} (E : f_X8_takes x0 = some o) : CtI l D cy (WC ad cy) yX8_takes cX8_takes 1 .boolean 0 0 [.int x0] h o h := by
  refine sI (own := RX8) rfl rfl (Nat.le_of_ble_eq_true rfl) (fun X O hret => ?_)
  show G l D X 1 (WC ad cy) 0 0 h 0 [(0, .int x0)] []
  unfold f_X8_takes at E
  refine g_iload_n (pc' := 1) O ⟨dX8_takes_0, rfl⟩ (q := 0) rfl rfl ?_
  refine g_bipush (pc' := 3) O ⟨dX8_takes_1, rfl⟩ (v := (48 : Int32)) rfl ?_
  refine jn0_of (P := G l D X 1 (WC ad cy) 0 0 h 12 [(0, .int x0)] []) E ?_ ?_
  · intro E
    show G l D X 1 (WC ad cy) 0 0 h 12 [(0, .int x0)] []
    refine g_iload_n (pc' := 13) O ⟨dX8_takes_12, rfl⟩ (q := 0) rfl rfl ?_
    refine g_bipush (pc' := 15) O ⟨dX8_takes_13, rfl⟩ (v := (58 : Int32)) rfl ?_
    refine g_icmp_eq (pc' := 18) O ⟨dX8_takes_15, rfl⟩ E (tgt := 30) (by decide) (fun E => ?_) (fun E => ?_)
    · refine g_iconst (pc' := 31) O ⟨dX8_takes_30, rfl⟩ (v := (1 : Int32)) rfl ?_
      refine g_goto (pc' := 34) O ⟨dX8_takes_31, rfl⟩ (tgt := 35) (by decide) ?_
      obtain ⟨hn, E⟩ := ckz_of E
      cases E
      exact hret _ _ _ ⟨dX8_takes_35, rfl⟩ hn
    · refine g_iload_n (pc' := 19) O ⟨dX8_takes_18, rfl⟩ (q := 0) rfl rfl ?_
      refine g_bipush (pc' := 21) O ⟨dX8_takes_19, rfl⟩ (v := (47 : Int32)) rfl ?_
      refine g_icmp_eq (pc' := 24) O ⟨dX8_takes_21, rfl⟩ E (tgt := 30) (by decide) (fun E => ?_) (fun E => ?_)
      · refine g_iconst (pc' := 31) O ⟨dX8_takes_30, rfl⟩ (v := (1 : Int32)) rfl ?_
        refine g_goto (pc' := 34) O ⟨dX8_takes_31, rfl⟩ (tgt := 35) (by decide) ?_
        obtain ⟨hn, E⟩ := ckz_of E
        cases E
        exact hret _ _ _ ⟨dX8_takes_35, rfl⟩ hn
      · refine g_iload_n (pc' := 25) O ⟨dX8_takes_24, rfl⟩ (q := 0) rfl rfl ?_
        refine g_bipush (pc' := 27) O ⟨dX8_takes_25, rfl⟩ (v := (32 : Int32)) rfl ?_
        refine g_icmp_ne (pc' := 30) O ⟨dX8_takes_27, rfl⟩ E (tgt := 34) (by decide) (fun E => ?_) (fun E => ?_)
        · refine g_iconst (pc' := 35) O ⟨dX8_takes_34, rfl⟩ (v := (0 : Int32)) rfl ?_
          obtain ⟨hn, E⟩ := ckz_of E
          cases E
          exact hret _ _ _ ⟨dX8_takes_35, rfl⟩ hn
        · refine g_iconst (pc' := 31) O ⟨dX8_takes_30, rfl⟩ (v := (1 : Int32)) rfl ?_
          refine g_goto (pc' := 34) O ⟨dX8_takes_31, rfl⟩ (tgt := 35) (by decide) ?_
          obtain ⟨hn, E⟩ := ckz_of E
          cases E
          exact hret _ _ _ ⟨dX8_takes_35, rfl⟩ hn
  · intro k12 hk12 E
    refine g_icmp_lt (pc' := 6) O ⟨dX8_takes_3, rfl⟩ E (tgt := 12) (by decide) (fun E => ?_) (fun E => ?_)
    · exact hk12 E
    · refine g_iload_n (pc' := 7) O ⟨dX8_takes_6, rfl⟩ (q := 0) rfl rfl ?_
      refine g_bipush (pc' := 9) O ⟨dX8_takes_7, rfl⟩ (v := (53 : Int32)) rfl ?_
      refine g_icmp_le (pc' := 12) O ⟨dX8_takes_9, rfl⟩ E (tgt := 30) (by decide) (fun E => ?_) (fun E => ?_)
      · refine g_iconst (pc' := 31) O ⟨dX8_takes_30, rfl⟩ (v := (1 : Int32)) rfl ?_
        refine g_goto (pc' := 34) O ⟨dX8_takes_31, rfl⟩ (tgt := 35) (by decide) ?_
        obtain ⟨hn, E⟩ := ckz_of E
        cases E
        exact hret _ _ _ ⟨dX8_takes_35, rfl⟩ hn
      · exact hk12 E
set_option maxRecDepth 100000 in
set_option maxHeartbeats 4000000 in
theorem t_X8_empty_11 (l : Launch) (D : va_G) (ad : Nat → Nat) (cy : Nat → ClassId) {h : Hp}  {o : Hp} (E : f_X8_empty_11 h = some o) : CtV l D cy (WC ad cy) yX8_empty cX8_empty 1 0 0 [.ref (ad 11)] h o := by
  refine sV (own := RX8) rfl rfl (Nat.le_of_ble_eq_true rfl) (fun X O hret => ?_)
  show G l D X 1 (WC ad cy) 0 0 h 0 [(0, .ref (ad 11))] []
  unfold f_X8_empty_11 at E
  refine g_aload_n (pc' := 1) O ⟨dX8_empty_0, rfl⟩ (q := 0) rfl rfl ?_
  refine g_iconst (pc' := 2) O ⟨dX8_empty_1, rfl⟩ (v := (0 : Int32)) rfl ?_
  refine gp_C_RX8_15_11 ad cy (pc' := 5) O ⟨dX8_empty_2, rfl⟩ ?_
  refine g_nmh E (fun h_1 E => ?_)
  cases E
  exact hret _ _ _ ⟨dX8_empty_5, rfl⟩
set_option maxRecDepth 100000 in
set_option maxHeartbeats 4000000 in
theorem t_X10_wipe (l : Launch) (D : va_G) (ad : Nat → Nat) (cy : Nat → ClassId) {h : Hp}  {o : Int32 × Hp} (E : f_X10_wipe h = some o) : CtI l D cy (WC ad cy) yX10_wipe cX10_wipe 2 .int 1 20 [.ref (ad 0)] h o.1 o.2 := by
  refine sI (own := RX10) rfl rfl (Nat.le_of_ble_eq_true rfl) (fun X O hret => ?_)
  show G l D X 2 (WC ad cy) 0 0 h 0 [(0, .ref (ad 0))] []
  unfold f_X10_wipe at E
  refine g_aload_n (pc' := 1) O ⟨dX10_wipe_0, rfl⟩ (q := 0) rfl rfl ?_
  refine gf_C_RX10_22_0 ad cy (pc' := 4) O ⟨dX10_wipe_1, rfl⟩ ?_
  refine gf_C_RX10_194_11 ad cy (pc' := 7) O ⟨dX10_wipe_4, rfl⟩ ?_
  refine g_istore_n (pc' := 8) O ⟨dX10_wipe_7, rfl⟩ (lv' := [(1, .int (h.1 11 1)), (0, .ref (ad 0))]) rfl (by decide) rfl ?_
  refine g_aload_n (pc' := 9) O ⟨dX10_wipe_8, rfl⟩ (q := 1) rfl rfl ?_
  refine gf_C_RX10_22_0 ad cy (pc' := 12) O ⟨dX10_wipe_9, rfl⟩ ?_
  obtain ⟨r_1, c_2, E⟩ := bd_of E
  refine g_Vv (pc' := 15) O ⟨dX10_wipe_12, rfl⟩ (y := yX8_empty) (As := []) (st := []) (t_X8_empty_11 l D ad cy (h := h) c_2) kw_352 kw_27 kw_349 kw_350 kw_351 rfl (wC_11 ad cy h) hd_X8_empty ⟨Nat.le_of_ble_eq_true rfl, Nat.le_of_ble_eq_true rfl⟩ ⟨Nat.le_of_ble_eq_true rfl, Nat.le_of_ble_eq_true rfl⟩ rfl (Nat.le_of_ble_eq_true rfl) ?_
  refine g_iload_n (pc' := 16) O ⟨dX10_wipe_15, rfl⟩ (q := 0) rfl rfl ?_
  cases E
  exact hret _ _ _ ⟨dX10_wipe_16, rfl⟩ rfl
set_option maxRecDepth 100000 in
set_option maxHeartbeats 4000000 in
theorem t_X8_faultFor_11 (l : Launch) (D : va_G) (ad : Nat → Nat) (cy : Nat → ClassId) {h : Hp} {x1 : Int32} {o : Int32} (E : f_X8_faultFor_11 h x1 = some o) : CtI l D cy (WC ad cy) yX8_faultFor cX8_faultFor 6 .int 0 0 [.ref (ad 11), .int x1] h o h := by
  refine sI (own := RX8) rfl rfl (Nat.le_of_ble_eq_true rfl) (fun X O hret => ?_)
  show G l D X 6 (WC ad cy) 0 0 h 0 [(0, .ref (ad 11)), (1, .int x1)] []
  unfold f_X8_faultFor_11 at E
  refine g_iconst (pc' := 1) O ⟨dX8_faultFor_0, rfl⟩ (v := (0 : Int32)) rfl ?_
  refine g_istore_n (pc' := 2) O ⟨dX8_faultFor_1, rfl⟩ (lv' := [(2, .int (0 : Int32)), (0, .ref (ad 11)), (1, .int x1)]) rfl (by decide) rfl ?_
  refine g_iconst (pc' := 3) O ⟨dX8_faultFor_2, rfl⟩ (v := (0 : Int32)) rfl ?_
  refine g_istore_n (pc' := 4) O ⟨dX8_faultFor_3, rfl⟩ (lv' := [(3, .int (0 : Int32)), (2, .int (0 : Int32)), (0, .ref (ad 11)), (1, .int x1)]) rfl (by decide) rfl ?_
  refine jn0_of (P := G l D X 6 (WC ad cy) 0 0 h 117 [(0, .ref (ad 11))] []) E ?_ ?_
  · intro E
    show G l D X 6 (WC ad cy) 0 0 h 117 [(0, .ref (ad 11))] []
    refine g_aload_n (pc' := 118) O ⟨dX8_faultFor_117, rfl⟩ (q := 0) rfl rfl ?_
    refine gf_C_RX8_15_11 ad cy (pc' := 121) O ⟨dX8_faultFor_118, rfl⟩ ?_
    refine g_iconst (pc' := 122) O ⟨dX8_faultFor_121, rfl⟩ (v := (4 : Int32)) rfl ?_
    refine g_irem (pc' := 123) O ⟨dX8_faultFor_122, rfl⟩ (by decide) ?_
    refine g_iconst (pc' := 124) O ⟨dX8_faultFor_123, rfl⟩ (v := (3 : Int32)) rfl ?_
    refine g_icmp_ne (pc' := 127) O ⟨dX8_faultFor_124, rfl⟩ E (tgt := 131) (by decide) (fun E => ?_) (fun E => ?_)
    · refine g_aload_n (pc' := 132) O ⟨dX8_faultFor_131, rfl⟩ (q := 0) rfl rfl ?_
      refine gf_C_RX8_15_11 ad cy (pc' := 135) O ⟨dX8_faultFor_132, rfl⟩ ?_
      cases E
      exact hret _ _ _ ⟨dX8_faultFor_135, rfl⟩ rfl
    · refine g_iconst (pc' := 128) O ⟨dX8_faultFor_127, rfl⟩ (v := (-1 : Int32)) rfl ?_
      refine g_goto (pc' := 131) O ⟨dX8_faultFor_128, rfl⟩ (tgt := 135) (by decide) ?_
      cases E
      exact hret _ _ _ ⟨dX8_faultFor_135, rfl⟩ rfl
  · intro k117 hk117 E
    refine jn1_of (P := fun (x3_1 : Int32) => G l D X 6 (WC ad cy) 0 0 h 102 [(3, .int x3_1)] []) E ?_ ?_
    · intro x3_1 E
      show G l D X 6 (WC ad cy) 0 0 h 102 [(3, .int x3_1)] []
      refine g_iload_n (pc' := 103) O ⟨dX8_faultFor_102, rfl⟩ (q := 0) rfl rfl ?_
      cases E
      exact hret _ _ _ ⟨dX8_faultFor_103, rfl⟩ rfl
    · intro k102 hk102 E
      refine jn1_of (P := fun (x3_2 : Int32) => G l D X 6 (WC ad cy) 0 0 h 57 [(3, .int x3_2)] []) E ?_ ?_
      · intro x3_2 E
        show G l D X 6 (WC ad cy) 0 0 h 57 [(3, .int x3_2)] []
        refine g_iload_n (pc' := 58) O ⟨dX8_faultFor_57, rfl⟩ (q := 0) rfl rfl ?_
        cases E
        exact hret _ _ _ ⟨dX8_faultFor_58, rfl⟩ rfl
      · intro k57 hk57 E
        refine jn1_of (P := fun (x3_3 : Int32) => G l D X 6 (WC ad cy) 0 0 h 34 [(3, .int x3_3)] []) E ?_ ?_
        · intro x3_3 E
          show G l D X 6 (WC ad cy) 0 0 h 34 [(3, .int x3_3)] []
          refine g_iload_n (pc' := 35) O ⟨dX8_faultFor_34, rfl⟩ (q := 0) rfl rfl ?_
          cases E
          exact hret _ _ _ ⟨dX8_faultFor_35, rfl⟩ rfl
        · intro k34 hk34 E
          refine g_sub (lv' := [(0, .ref (ad 11)), (1, .int x1), (2, .int (0 : Int32)), (3, .int (0 : Int32))]) [2, 3, 1, 0] rfl ?_
          refine fx2_of (P := fun (x2_4 : Int32) (x3_5 : Int32) => G l D X 6 (WC ad cy) 0 0 h 4 [(0, .ref (ad 11)), (1, .int x1), (2, .int x2_4), (3, .int x3_5)] []) ?_ _ _ _ E
          intro self ih4 x2_4 x3_5 E
          show G l D X 6 (WC ad cy) 0 0 h 4 [(0, .ref (ad 11)), (1, .int x1), (2, .int x2_4), (3, .int x3_5)] []
          unfold L_X8_faultFor_11_4 at E
          refine g_iload_n (pc' := 5) O ⟨dX8_faultFor_4, rfl⟩ (q := 3) rfl rfl ?_
          refine g_aload_n (pc' := 6) O ⟨dX8_faultFor_5, rfl⟩ (q := 0) rfl rfl ?_
          refine gf_C_RX8_15_11 ad cy (pc' := 9) O ⟨dX8_faultFor_6, rfl⟩ ?_
          refine g_icmp_ge (pc' := 12) O ⟨dX8_faultFor_9, rfl⟩ E (tgt := 117) (by decide) (fun E => ?_) (fun E => ?_)
          · refine g_sub (lv' := [(0, .ref (ad 11))]) [0] rfl ?_
            exact hk117 E
          · refine g_aload_n (pc' := 13) O ⟨dX8_faultFor_12, rfl⟩ (q := 0) rfl rfl ?_
            refine gf_C_RX8_9_11 ad cy (pc' := 16) O ⟨dX8_faultFor_13, rfl⟩ ?_
            refine g_iload_n (pc' := 17) O ⟨dX8_faultFor_16, rfl⟩ (q := 3) rfl rfl ?_
            refine g_cald (pc' := 18) O ⟨dX8_faultFor_17, rfl⟩ (wC_12 ad cy h) E (fun E => ?_)
            refine g_istore (pc' := 20) O ⟨dX8_faultFor_18, rfl⟩ (lv' := [(4, .int (h.1 12 x3_5.toNatClampNeg)), (0, .ref (ad 11)), (1, .int x1), (2, .int x2_4), (3, .int x3_5)]) (by decide) rfl ?_
            refine g_iload_n (pc' := 21) O ⟨dX8_faultFor_20, rfl⟩ (q := 4) rfl rfl ?_
            refine g_iconst (pc' := 22) O ⟨dX8_faultFor_21, rfl⟩ (v := (4 : Int32)) rfl ?_
            refine g_irem (pc' := 23) O ⟨dX8_faultFor_22, rfl⟩ (by decide) ?_
            refine g_iconst (pc' := 24) O ⟨dX8_faultFor_23, rfl⟩ (v := (1 : Int32)) rfl ?_
            refine g_icmp_ne (pc' := 27) O ⟨dX8_faultFor_24, rfl⟩ E (tgt := 36) (by decide) (fun E => ?_) (fun E => ?_)
            · refine g_iload_n (pc' := 37) O ⟨dX8_faultFor_36, rfl⟩ (q := 4) rfl rfl ?_
              refine g_iconst (pc' := 38) O ⟨dX8_faultFor_37, rfl⟩ (v := (4 : Int32)) rfl ?_
              refine g_irem (pc' := 39) O ⟨dX8_faultFor_38, rfl⟩ (by decide) ?_
              refine g_iconst (pc' := 40) O ⟨dX8_faultFor_39, rfl⟩ (v := (3 : Int32)) rfl ?_
              refine g_icmp_ne (pc' := 43) O ⟨dX8_faultFor_40, rfl⟩ E (tgt := 75) (by decide) (fun E => ?_) (fun E => ?_)
              · refine g_iload (pc' := 77) O ⟨dX8_faultFor_75, rfl⟩ (q := 0) rfl ?_
                refine g_bipush (pc' := 79) O ⟨dX8_faultFor_77, rfl⟩ (v := (48 : Int32)) rfl ?_
                refine g_isub (pc' := 80) O ⟨dX8_faultFor_79, rfl⟩ ?_
                refine g_nm E (fun y5_6 E => ?_)
                refine g_istore (pc' := 82) O ⟨dX8_faultFor_80, rfl⟩ (lv' := [(5, .int y5_6), (4, .int (h.1 12 x3_5.toNatClampNeg)), (0, .ref (ad 11)), (1, .int x1), (2, .int x2_4), (3, .int x3_5)]) (by decide) rfl ?_
                refine g_iload (pc' := 84) O ⟨dX8_faultFor_82, rfl⟩ (q := 0) rfl ?_
                refine g_if_lt (pc' := 87) O ⟨dX8_faultFor_84, rfl⟩ E (tgt := 102) (by decide) (fun E => ?_) (fun E => ?_)
                · refine g_sub (lv' := [(3, .int x3_5)]) [5] rfl ?_
                  exact hk102 _ E
                · refine g_iload (pc' := 89) O ⟨dX8_faultFor_87, rfl⟩ (q := 0) rfl ?_
                  refine g_iload_n (pc' := 90) O ⟨dX8_faultFor_89, rfl⟩ (q := 3) rfl rfl ?_
                  refine g_icmp_ge (pc' := 93) O ⟨dX8_faultFor_90, rfl⟩ E (tgt := 102) (by decide) (fun E => ?_) (fun E => ?_)
                  · refine g_sub (lv' := [(3, .int x3_5)]) [5] rfl ?_
                    exact hk102 _ E
                  · refine g_iload_n (pc' := 94) O ⟨dX8_faultFor_93, rfl⟩ (q := 4) rfl rfl ?_
                    refine g_iload (pc' := 96) O ⟨dX8_faultFor_94, rfl⟩ (q := 0) rfl ?_
                    refine g_ishr (pc' := 97) O ⟨dX8_faultFor_96, rfl⟩ ?_
                    refine g_iconst (pc' := 98) O ⟨dX8_faultFor_97, rfl⟩ (v := (1 : Int32)) rfl ?_
                    refine g_iand (pc' := 99) O ⟨dX8_faultFor_98, rfl⟩ ?_
                    refine g_if_eq (pc' := 102) O ⟨dX8_faultFor_99, rfl⟩ E (tgt := 104) (by decide) (fun E => ?_) (fun E => ?_)
                    · refine g_iload_n (pc' := 105) O ⟨dX8_faultFor_104, rfl⟩ (q := 4) rfl rfl ?_
                      refine g_iconst (pc' := 106) O ⟨dX8_faultFor_105, rfl⟩ (v := (1 : Int32)) rfl ?_
                      refine g_iload (pc' := 108) O ⟨dX8_faultFor_106, rfl⟩ (q := 0) rfl ?_
                      refine g_ishl (pc' := 109) O ⟨dX8_faultFor_108, rfl⟩ ?_
                      refine g_ior (pc' := 110) O ⟨dX8_faultFor_109, rfl⟩ ?_
                      refine g_nm E (fun y2_7 E => ?_)
                      refine g_istore_n (pc' := 111) O ⟨dX8_faultFor_110, rfl⟩ (lv' := [(2, .int y2_7), (5, .int y5_6), (4, .int (h.1 12 x3_5.toNatClampNeg)), (0, .ref (ad 11)), (1, .int x1), (3, .int x3_5)]) rfl (by decide) rfl ?_
                      refine g_iinc (pc' := 114) O ⟨dX8_faultFor_111, rfl⟩ (q := 5) (v := x3_5 + (1 : Int32)) (lv' := [(3, .int (x3_5 + (1 : Int32))), (2, .int y2_7), (5, .int y5_6), (4, .int (h.1 12 x3_5.toNatClampNeg)), (0, .ref (ad 11)), (1, .int x1)]) rfl rfl (by decide) rfl ?_
                      refine g_goto (pc' := 117) O ⟨dX8_faultFor_114, rfl⟩ (tgt := 4) (by decide) ?_
                      refine g_sub (lv' := [(0, .ref (ad 11)), (1, .int x1), (2, .int y2_7), (3, .int (x3_5 + (1 : Int32)))]) [4, 5, 1, 0] rfl ?_
                      exact ih4 _ _ E
                    · refine g_sub (lv' := [(3, .int x3_5)]) [5] rfl ?_
                      exact hk102 _ E
              · refine g_iload (pc' := 45) O ⟨dX8_faultFor_43, rfl⟩ (q := 0) rfl ?_
                refine g_bipush (pc' := 47) O ⟨dX8_faultFor_45, rfl⟩ (v := (32 : Int32)) rfl ?_
                refine jn0_of (P := G l D X 6 (WC ad cy) 0 0 h 59 [(0, .ref (ad 11)), (1, .int x1), (2, .int x2_4), (3, .int x3_5), (4, .int (h.1 12 x3_5.toNatClampNeg))] []) E ?_ ?_
                · intro E
                  show G l D X 6 (WC ad cy) 0 0 h 59 [(0, .ref (ad 11)), (1, .int x1), (2, .int x2_4), (3, .int x3_5), (4, .int (h.1 12 x3_5.toNatClampNeg))] []
                  refine g_iload (pc' := 61) O ⟨dX8_faultFor_59, rfl⟩ (q := 4) rfl ?_
                  refine g_bipush (pc' := 63) O ⟨dX8_faultFor_61, rfl⟩ (v := (47 : Int32)) rfl ?_
                  refine g_icmp_ne (pc' := 66) O ⟨dX8_faultFor_63, rfl⟩ E (tgt := 70) (by decide) (fun E => ?_) (fun E => ?_)
                  · refine g_iload_n (pc' := 71) O ⟨dX8_faultFor_70, rfl⟩ (q := 2) rfl rfl ?_
                    refine g_istore_n (pc' := 72) O ⟨dX8_faultFor_71, rfl⟩ (lv' := [(2, .int x2_4), (0, .ref (ad 11)), (1, .int x1), (3, .int x3_5), (4, .int (h.1 12 x3_5.toNatClampNeg))]) rfl (by decide) rfl ?_
                    refine g_goto (pc' := 75) O ⟨dX8_faultFor_72, rfl⟩ (tgt := 111) (by decide) ?_
                    refine g_iinc (pc' := 114) O ⟨dX8_faultFor_111, rfl⟩ (q := 3) (v := x3_5 + (1 : Int32)) (lv' := [(3, .int (x3_5 + (1 : Int32))), (2, .int x2_4), (0, .ref (ad 11)), (1, .int x1), (4, .int (h.1 12 x3_5.toNatClampNeg))]) rfl rfl (by decide) rfl ?_
                    refine g_goto (pc' := 117) O ⟨dX8_faultFor_114, rfl⟩ (tgt := 4) (by decide) ?_
                    refine g_sub (lv' := [(0, .ref (ad 11)), (1, .int x1), (2, .int x2_4), (3, .int (x3_5 + (1 : Int32)))]) [2, 3, 1, 0] rfl ?_
                    exact ih4 _ _ E
                  · refine g_iconst (pc' := 67) O ⟨dX8_faultFor_66, rfl⟩ (v := (0 : Int32)) rfl ?_
                    refine g_goto (pc' := 70) O ⟨dX8_faultFor_67, rfl⟩ (tgt := 71) (by decide) ?_
                    refine g_istore_n (pc' := 72) O ⟨dX8_faultFor_71, rfl⟩ (lv' := [(2, .int (0 : Int32)), (0, .ref (ad 11)), (1, .int x1), (3, .int x3_5), (4, .int (h.1 12 x3_5.toNatClampNeg))]) rfl (by decide) rfl ?_
                    refine g_goto (pc' := 75) O ⟨dX8_faultFor_72, rfl⟩ (tgt := 111) (by decide) ?_
                    refine g_iinc (pc' := 114) O ⟨dX8_faultFor_111, rfl⟩ (q := 3) (v := x3_5 + (1 : Int32)) (lv' := [(3, .int (x3_5 + (1 : Int32))), (2, .int (0 : Int32)), (0, .ref (ad 11)), (1, .int x1), (4, .int (h.1 12 x3_5.toNatClampNeg))]) rfl rfl (by decide) rfl ?_
                    refine g_goto (pc' := 117) O ⟨dX8_faultFor_114, rfl⟩ (tgt := 4) (by decide) ?_
                    refine g_sub (lv' := [(0, .ref (ad 11)), (1, .int x1), (2, .int (0 : Int32)), (3, .int (x3_5 + (1 : Int32)))]) [2, 3, 1, 0] rfl ?_
                    exact ih4 _ _ E
                · intro k59 hk59 E
                  refine g_icmp_eq (pc' := 50) O ⟨dX8_faultFor_47, rfl⟩ E (tgt := 59) (by decide) (fun E => ?_) (fun E => ?_)
                  · refine g_sub (lv' := [(0, .ref (ad 11)), (1, .int x1), (2, .int x2_4), (3, .int x3_5), (4, .int (h.1 12 x3_5.toNatClampNeg))]) [1, 2, 3, 4, 0] rfl ?_
                    exact hk59 E
                  · refine g_iload (pc' := 52) O ⟨dX8_faultFor_50, rfl⟩ (q := 0) rfl ?_
                    refine g_bipush (pc' := 54) O ⟨dX8_faultFor_52, rfl⟩ (v := (47 : Int32)) rfl ?_
                    refine g_icmp_eq (pc' := 57) O ⟨dX8_faultFor_54, rfl⟩ E (tgt := 59) (by decide) (fun E => ?_) (fun E => ?_)
                    · refine g_sub (lv' := [(0, .ref (ad 11)), (1, .int x1), (2, .int x2_4), (3, .int x3_5), (4, .int (h.1 12 x3_5.toNatClampNeg))]) [1, 2, 3, 4, 0] rfl ?_
                      exact hk59 E
                    · refine g_sub (lv' := [(3, .int x3_5)]) [4] rfl ?_
                      exact hk57 _ E
            · refine g_iload (pc' := 29) O ⟨dX8_faultFor_27, rfl⟩ (q := 0) rfl ?_
              refine g_bipush (pc' := 31) O ⟨dX8_faultFor_29, rfl⟩ (v := (58 : Int32)) rfl ?_
              refine g_icmp_eq (pc' := 34) O ⟨dX8_faultFor_31, rfl⟩ E (tgt := 111) (by decide) (fun E => ?_) (fun E => ?_)
              · refine g_iinc (pc' := 114) O ⟨dX8_faultFor_111, rfl⟩ (q := 4) (v := x3_5 + (1 : Int32)) (lv' := [(3, .int (x3_5 + (1 : Int32))), (4, .int (h.1 12 x3_5.toNatClampNeg)), (0, .ref (ad 11)), (1, .int x1), (2, .int x2_4)]) rfl rfl (by decide) rfl ?_
                refine g_goto (pc' := 117) O ⟨dX8_faultFor_114, rfl⟩ (tgt := 4) (by decide) ?_
                refine g_sub (lv' := [(0, .ref (ad 11)), (1, .int x1), (2, .int x2_4), (3, .int (x3_5 + (1 : Int32)))]) [2, 3, 4, 0] rfl ?_
                exact ih4 _ _ E
              · refine g_sub (lv' := [(3, .int x3_5)]) [4] rfl ?_
                exact hk34 _ E
set_option maxRecDepth 100000 in
set_option maxHeartbeats 4000000 in
theorem t_X10_fault (l : Launch) (D : va_G) (ad : Nat → Nat) (cy : Nat → ClassId) {h : Hp}  {o : Int32} (E : f_X10_fault h = some o) : CtI l D cy (WC ad cy) yX10_fault cX10_fault 1 .int 1 25 [.ref (ad 0)] h o h := by
  refine sI (own := RX10) rfl rfl (Nat.le_of_ble_eq_true rfl) (fun X O hret => ?_)
  show G l D X 1 (WC ad cy) 0 0 h 0 [(0, .ref (ad 0))] []
  unfold f_X10_fault at E
  refine g_aload_n (pc' := 1) O ⟨dX10_fault_0, rfl⟩ (q := 0) rfl rfl ?_
  refine gf_C_RX10_22_0 ad cy (pc' := 4) O ⟨dX10_fault_1, rfl⟩ ?_
  refine g_aload_n (pc' := 5) O ⟨dX10_fault_4, rfl⟩ (q := 0) rfl rfl ?_
  refine gf_C_RX10_10_0 ad cy (pc' := 8) O ⟨dX10_fault_5, rfl⟩ ?_
  refine gf_C_RX10_109_1 ad cy (pc' := 11) O ⟨dX10_fault_8, rfl⟩ ?_
  obtain ⟨r_1, c_2, E⟩ := bd_of E
  refine g_Vi (pc' := 14) O ⟨dX10_fault_11, rfl⟩ (y := yX8_faultFor) (As := [.int (h.1 1 0)]) (st := []) (t_X8_faultFor_11 l D ad cy (h := h) c_2) kw_503 kw_27 kw_500 kw_501 kw_502 rfl (wC_11 ad cy h) hd_X8_faultFor ⟨Nat.le_of_ble_eq_true rfl, Nat.le_of_ble_eq_true rfl⟩ ⟨Nat.le_of_ble_eq_true rfl, Nat.le_of_ble_eq_true rfl⟩ rfl (Nat.le_of_ble_eq_true rfl) ?_
  cases E
  exact hret _ _ _ ⟨dX10_fault_14, rfl⟩ rfl
set_option maxRecDepth 100000 in
set_option maxHeartbeats 4000000 in
theorem t_X8_layOn_11_6 (l : Launch) (D : va_G) (ad : Nat → Nat) (cy : Nat → ClassId) {h : Hp}  {o : Hp} (E : f_X8_layOn_11_6 h = some o) : CtV l D cy (WC ad cy) yX8_layOn cX8_layOn 3 1 22 [.ref (ad 11), .ref (ad 6)] h o := by
  refine sV (own := RX8) rfl rfl (Nat.le_of_ble_eq_true rfl) (fun X O hret => ?_)
  show G l D X 3 (WC ad cy) 0 0 h 0 [(0, .ref (ad 11)), (1, .ref (ad 6))] []
  unfold f_X8_layOn_11_6 at E
  refine g_iconst (pc' := 1) O ⟨dX8_layOn_0, rfl⟩ (v := (0 : Int32)) rfl ?_
  refine g_istore_n (pc' := 2) O ⟨dX8_layOn_1, rfl⟩ (lv' := [(2, .int (0 : Int32)), (0, .ref (ad 11)), (1, .ref (ad 6))]) rfl (by decide) rfl ?_
  refine jn1_of (P := fun (h_1 : Hp) => G l D X 3 (WC ad cy) 0 0 h_1 42 [] []) E ?_ ?_
  · intro h_1 E
    show G l D X 3 (WC ad cy) 0 0 h_1 42 [] []
    cases E
    exact hret _ _ _ ⟨dX8_layOn_42, rfl⟩
  · intro k42 hk42 E
    refine g_sub (lv' := [(0, .ref (ad 11)), (1, .ref (ad 6)), (2, .int (0 : Int32))]) [1, 2, 0] rfl ?_
    refine fx2_of (P := fun (x2_2 : Int32) (h_3 : Hp) => G l D X 3 (WC ad cy) 0 0 h_3 2 [(0, .ref (ad 11)), (1, .ref (ad 6)), (2, .int x2_2)] []) ?_ _ _ _ E
    intro self ih2 x2_2 h_3 E
    show G l D X 3 (WC ad cy) 0 0 h_3 2 [(0, .ref (ad 11)), (1, .ref (ad 6)), (2, .int x2_2)] []
    unfold L_X8_layOn_11_6_2 at E
    refine g_iload_n (pc' := 3) O ⟨dX8_layOn_2, rfl⟩ (q := 2) rfl rfl ?_
    refine g_iconst (pc' := 4) O ⟨dX8_layOn_3, rfl⟩ (v := (2 : Int32)) rfl ?_
    refine g_iadd (pc' := 5) O ⟨dX8_layOn_4, rfl⟩ ?_
    refine g_aload_n (pc' := 6) O ⟨dX8_layOn_5, rfl⟩ (q := 0) rfl rfl ?_
    refine gf_C_RX8_15_11 ad cy (pc' := 9) O ⟨dX8_layOn_6, rfl⟩ ?_
    refine g_icmp_ge (pc' := 12) O ⟨dX8_layOn_9, rfl⟩ E (tgt := 42) (by decide) (fun E => ?_) (fun E => ?_)
    · refine g_sub (lv' := []) [] rfl ?_
      exact hk42 _ E
    · refine g_aload_n (pc' := 13) O ⟨dX8_layOn_12, rfl⟩ (q := 1) rfl rfl ?_
      refine g_aload_n (pc' := 14) O ⟨dX8_layOn_13, rfl⟩ (q := 0) rfl rfl ?_
      refine gf_C_RX8_9_11 ad cy (pc' := 17) O ⟨dX8_layOn_14, rfl⟩ ?_
      refine g_iload_n (pc' := 18) O ⟨dX8_layOn_17, rfl⟩ (q := 2) rfl rfl ?_
      refine g_cald (pc' := 19) O ⟨dX8_layOn_18, rfl⟩ (wC_12 ad cy h_3) E (fun E => ?_)
      refine g_bipush (pc' := 21) O ⟨dX8_layOn_19, rfl⟩ (v := (48 : Int32)) rfl ?_
      refine g_isub (pc' := 22) O ⟨dX8_layOn_21, rfl⟩ ?_
      refine g_aload_n (pc' := 23) O ⟨dX8_layOn_22, rfl⟩ (q := 0) rfl rfl ?_
      refine gf_C_RX8_9_11 ad cy (pc' := 26) O ⟨dX8_layOn_23, rfl⟩ ?_
      refine g_iload_n (pc' := 27) O ⟨dX8_layOn_26, rfl⟩ (q := 2) rfl rfl ?_
      refine g_iconst (pc' := 28) O ⟨dX8_layOn_27, rfl⟩ (v := (2 : Int32)) rfl ?_
      refine g_iadd (pc' := 29) O ⟨dX8_layOn_28, rfl⟩ ?_
      refine g_cald (pc' := 30) O ⟨dX8_layOn_29, rfl⟩ (wC_12 ad cy h_3) E (fun E => ?_)
      refine g_bipush (pc' := 32) O ⟨dX8_layOn_30, rfl⟩ (v := (48 : Int32)) rfl ?_
      refine g_isub (pc' := 33) O ⟨dX8_layOn_32, rfl⟩ ?_
      obtain ⟨r_4, c_5, E⟩ := bd_of E
      refine g_Vv (pc' := 36) O ⟨dX8_layOn_33, rfl⟩ (y := yX9_append) (As := [.int ((h_3.1 12 x2_2.toNatClampNeg) - (48 : Int32)), .int ((h_3.1 12 (x2_2 + (2 : Int32)).toNatClampNeg) - (48 : Int32))]) (st := []) (t_X9_append_6 l D ad cy (h := h_3) c_5) kw_442 kw_26 kw_509 kw_440 kw_441 rfl (wC_6 ad cy h_3) hd_X9_append ⟨Nat.le_of_ble_eq_true rfl, Nat.le_of_ble_eq_true rfl⟩ ⟨Nat.le_of_ble_eq_true rfl, Nat.le_of_ble_eq_true rfl⟩ rfl (Nat.le_of_ble_eq_true rfl) ?_
      refine g_iinc (pc' := 39) O ⟨dX8_layOn_36, rfl⟩ (q := 2) (v := x2_2 + (4 : Int32)) (lv' := [(2, .int (x2_2 + (4 : Int32))), (0, .ref (ad 11)), (1, .ref (ad 6))]) rfl rfl (by decide) rfl ?_
      refine g_goto (pc' := 42) O ⟨dX8_layOn_39, rfl⟩ (tgt := 2) (by decide) ?_
      refine g_sub (lv' := [(0, .ref (ad 11)), (1, .ref (ad 6)), (2, .int (x2_2 + (4 : Int32)))]) [1, 2, 0] rfl ?_
      exact ih2 _ _ E
set_option maxRecDepth 100000 in
set_option maxHeartbeats 4000000 in
theorem t_X5_ofCode (l : Launch) (D : va_G) (ad : Nat → Nat) (cy : Nat → ClassId) {h : Hp} {x0 : Int32} {x1 : Int32} {o : Int32} (E : f_X5_ofCode x0 x1 = some o) : CtI l D cy (WC ad cy) yX5_ofCode cX5_ofCode 7 .int 0 0 [.int x0, .int x1] h o h := by
  refine sI (own := RX5) rfl rfl (Nat.le_of_ble_eq_true rfl) (fun X O hret => ?_)
  show G l D X 7 (WC ad cy) 0 0 h 0 [(0, .int x0), (1, .int x1)] []
  unfold f_X5_ofCode at E
  refine g_iload_n (pc' := 1) O ⟨dX5_ofCode_0, rfl⟩ (q := 0) rfl rfl ?_
  refine g_istore_n (pc' := 2) O ⟨dX5_ofCode_1, rfl⟩ (lv' := [(2, .int x0), (0, .int x0), (1, .int x1)]) rfl (by decide) rfl ?_
  refine g_iconst (pc' := 3) O ⟨dX5_ofCode_2, rfl⟩ (v := (0 : Int32)) rfl ?_
  refine g_istore_n (pc' := 4) O ⟨dX5_ofCode_3, rfl⟩ (lv' := [(3, .int (0 : Int32)), (2, .int x0), (0, .int x0), (1, .int x1)]) rfl (by decide) rfl ?_
  refine g_iconst (pc' := 5) O ⟨dX5_ofCode_4, rfl⟩ (v := (0 : Int32)) rfl ?_
  refine g_istore (pc' := 7) O ⟨dX5_ofCode_5, rfl⟩ (lv' := [(4, .int (0 : Int32)), (3, .int (0 : Int32)), (2, .int x0), (0, .int x0), (1, .int x1)]) (by decide) rfl ?_
  refine g_iconst (pc' := 8) O ⟨dX5_ofCode_7, rfl⟩ (v := (0 : Int32)) rfl ?_
  refine g_istore (pc' := 10) O ⟨dX5_ofCode_8, rfl⟩ (lv' := [(5, .int (0 : Int32)), (4, .int (0 : Int32)), (3, .int (0 : Int32)), (2, .int x0), (0, .int x0), (1, .int x1)]) (by decide) rfl ?_
  refine jn2_of (P := fun (x2_1 : Int32) (x4_2 : Int32) => G l D X 7 (WC ad cy) 0 0 h 74 [(2, .int x2_1), (4, .int x4_2)] []) E ?_ ?_
  · intro x2_1 x4_2 E
    show G l D X 7 (WC ad cy) 0 0 h 74 [(2, .int x2_1), (4, .int x4_2)] []
    refine g_iload_n (pc' := 75) O ⟨dX5_ofCode_74, rfl⟩ (q := 0) rfl rfl ?_
    refine g_if_ne (pc' := 78) O ⟨dX5_ofCode_75, rfl⟩ E (tgt := 83) (by decide) (fun E => ?_) (fun E => ?_)
    · refine g_iconst (pc' := 84) O ⟨dX5_ofCode_83, rfl⟩ (v := (-1 : Int32)) rfl ?_
      cases E
      exact hret _ _ _ ⟨dX5_ofCode_84, rfl⟩ rfl
    · refine g_iload (pc' := 80) O ⟨dX5_ofCode_78, rfl⟩ (q := 1) rfl ?_
      refine g_goto (pc' := 83) O ⟨dX5_ofCode_80, rfl⟩ (tgt := 84) (by decide) ?_
      cases E
      exact hret _ _ _ ⟨dX5_ofCode_84, rfl⟩ rfl
  · intro k74 hk74 E
    refine jn0_of (P := G l D X 7 (WC ad cy) 0 0 h 47 [] []) E ?_ ?_
    · intro E
      show G l D X 7 (WC ad cy) 0 0 h 47 [] []
      refine g_iconst (pc' := 48) O ⟨dX5_ofCode_47, rfl⟩ (v := (-1 : Int32)) rfl ?_
      cases E
      exact hret _ _ _ ⟨dX5_ofCode_48, rfl⟩ rfl
    · intro k47 hk47 E
      refine g_sub (lv' := [(1, .int x1), (2, .int x0), (3, .int (0 : Int32)), (4, .int (0 : Int32)), (5, .int (0 : Int32))]) [5, 3, 2, 1, 0] rfl ?_
      refine fx4_of (P := fun (x2_3 : Int32) (x3_4 : Int32) (x4_5 : Int32) (x5_6 : Int32) => G l D X 7 (WC ad cy) 0 0 h 10 [(1, .int x1), (2, .int x2_3), (3, .int x3_4), (4, .int x4_5), (5, .int x5_6)] []) ?_ _ _ _ _ _ E
      intro self ih10 x2_3 x3_4 x4_5 x5_6 E
      show G l D X 7 (WC ad cy) 0 0 h 10 [(1, .int x1), (2, .int x2_3), (3, .int x3_4), (4, .int x4_5), (5, .int x5_6)] []
      unfold L_X5_ofCode_10 at E
      refine g_iload (pc' := 12) O ⟨dX5_ofCode_10, rfl⟩ (q := 4) rfl ?_
      refine g_iload_n (pc' := 13) O ⟨dX5_ofCode_12, rfl⟩ (q := 0) rfl rfl ?_
      refine g_icmp_ge (pc' := 16) O ⟨dX5_ofCode_13, rfl⟩ E (tgt := 74) (by decide) (fun E => ?_) (fun E => ?_)
      · refine g_sub (lv' := [(2, .int x2_3), (4, .int x4_5)]) [1, 3] rfl ?_
        exact hk74 _ _ E
      · refine g_iload_n (pc' := 17) O ⟨dX5_ofCode_16, rfl⟩ (q := 1) rfl rfl ?_
        refine g_bipush (pc' := 19) O ⟨dX5_ofCode_17, rfl⟩ (v := (10 : Int32)) rfl ?_
        refine g_irem (pc' := 20) O ⟨dX5_ofCode_19, rfl⟩ (by decide) ?_
        refine g_nm E (fun y6_7 E => ?_)
        refine g_istore (pc' := 22) O ⟨dX5_ofCode_20, rfl⟩ (lv' := [(6, .int y6_7), (1, .int x1), (2, .int x2_3), (3, .int x3_4), (4, .int x4_5), (5, .int x5_6)]) (by decide) rfl ?_
        refine g_iload_n (pc' := 23) O ⟨dX5_ofCode_22, rfl⟩ (q := 2) rfl rfl ?_
        refine g_bipush (pc' := 25) O ⟨dX5_ofCode_23, rfl⟩ (v := (10 : Int32)) rfl ?_
        refine g_idiv (pc' := 26) O ⟨dX5_ofCode_25, rfl⟩ (by decide) ?_
        refine g_nm E (fun y2_8 E => ?_)
        refine g_istore_n (pc' := 27) O ⟨dX5_ofCode_26, rfl⟩ (lv' := [(2, .int y2_8), (6, .int y6_7), (1, .int x1), (3, .int x3_4), (4, .int x4_5), (5, .int x5_6)]) rfl (by decide) rfl ?_
        refine g_iload (pc' := 29) O ⟨dX5_ofCode_27, rfl⟩ (q := 1) rfl ?_
        refine g_if_lt (pc' := 32) O ⟨dX5_ofCode_29, rfl⟩ E (tgt := 47) (by decide) (fun E => ?_) (fun E => ?_)
        · refine g_sub (lv' := []) [] rfl ?_
          exact hk47 E
        · refine g_iload (pc' := 34) O ⟨dX5_ofCode_32, rfl⟩ (q := 1) rfl ?_
          refine g_iload_n (pc' := 35) O ⟨dX5_ofCode_34, rfl⟩ (q := 2) rfl rfl ?_
          refine g_icmp_ge (pc' := 38) O ⟨dX5_ofCode_35, rfl⟩ E (tgt := 47) (by decide) (fun E => ?_) (fun E => ?_)
          · refine g_sub (lv' := []) [] rfl ?_
            exact hk47 E
          · refine g_iload_n (pc' := 39) O ⟨dX5_ofCode_38, rfl⟩ (q := 3) rfl rfl ?_
            refine g_iload (pc' := 41) O ⟨dX5_ofCode_39, rfl⟩ (q := 1) rfl ?_
            refine g_ishr (pc' := 42) O ⟨dX5_ofCode_41, rfl⟩ ?_
            refine g_iconst (pc' := 43) O ⟨dX5_ofCode_42, rfl⟩ (v := (1 : Int32)) rfl ?_
            refine g_iand (pc' := 44) O ⟨dX5_ofCode_43, rfl⟩ ?_
            refine g_if_eq (pc' := 47) O ⟨dX5_ofCode_44, rfl⟩ E (tgt := 49) (by decide) (fun E => ?_) (fun E => ?_)
            · refine g_iload_n (pc' := 50) O ⟨dX5_ofCode_49, rfl⟩ (q := 3) rfl rfl ?_
              refine g_iconst (pc' := 51) O ⟨dX5_ofCode_50, rfl⟩ (v := (1 : Int32)) rfl ?_
              refine g_iload (pc' := 53) O ⟨dX5_ofCode_51, rfl⟩ (q := 1) rfl ?_
              refine g_ishl (pc' := 54) O ⟨dX5_ofCode_53, rfl⟩ ?_
              refine g_ior (pc' := 55) O ⟨dX5_ofCode_54, rfl⟩ ?_
              refine g_nm E (fun y3_9 E => ?_)
              refine g_istore_n (pc' := 56) O ⟨dX5_ofCode_55, rfl⟩ (lv' := [(3, .int y3_9), (2, .int y2_8), (6, .int y6_7), (1, .int x1), (4, .int x4_5), (5, .int x5_6)]) rfl (by decide) rfl ?_
              refine g_iload (pc' := 58) O ⟨dX5_ofCode_56, rfl⟩ (q := 4) rfl ?_
              refine g_iload (pc' := 60) O ⟨dX5_ofCode_58, rfl⟩ (q := 2) rfl ?_
              refine g_iconst (pc' := 61) O ⟨dX5_ofCode_60, rfl⟩ (v := (4 : Int32)) rfl ?_
              refine g_iload (pc' := 63) O ⟨dX5_ofCode_61, rfl⟩ (q := 5) rfl ?_
              refine g_imul (pc' := 64) O ⟨dX5_ofCode_63, rfl⟩ ?_
              refine g_ishl (pc' := 65) O ⟨dX5_ofCode_64, rfl⟩ ?_
              refine g_ior (pc' := 66) O ⟨dX5_ofCode_65, rfl⟩ ?_
              refine g_nm E (fun y4_10 E => ?_)
              refine g_istore (pc' := 68) O ⟨dX5_ofCode_66, rfl⟩ (lv' := [(4, .int y4_10), (3, .int y3_9), (2, .int y2_8), (6, .int y6_7), (1, .int x1), (5, .int x5_6)]) (by decide) rfl ?_
              refine g_iinc (pc' := 71) O ⟨dX5_ofCode_68, rfl⟩ (q := 5) (v := x5_6 + (1 : Int32)) (lv' := [(5, .int (x5_6 + (1 : Int32))), (4, .int y4_10), (3, .int y3_9), (2, .int y2_8), (6, .int y6_7), (1, .int x1)]) rfl rfl (by decide) rfl ?_
              refine g_goto (pc' := 74) O ⟨dX5_ofCode_71, rfl⟩ (tgt := 10) (by decide) ?_
              refine g_sub (lv' := [(1, .int x1), (2, .int y2_8), (3, .int y3_9), (4, .int y4_10), (5, .int (x5_6 + (1 : Int32)))]) [5, 3, 2, 1, 0] rfl ?_
              exact ih10 _ _ _ _ E
            · refine g_sub (lv' := []) [] rfl ?_
              exact hk47 E
set_option maxRecDepth 100000 in
set_option maxHeartbeats 4000000 in
theorem t_X5_valueOn (l : Launch) (D : va_G) (ad : Nat → Nat) (cy : Nat → ClassId) {h : Hp} {x0 : Int32} {x1 : Int32} {o : Int32} (E : f_X5_valueOn x0 x1 = some o) : CtI l D cy (WC ad cy) yX5_valueOn cX5_valueOn 2 .int 0 0 [.int x0, .int x1] h o h := by
  refine sI (own := RX5) rfl rfl (Nat.le_of_ble_eq_true rfl) (fun X O hret => ?_)
  show G l D X 2 (WC ad cy) 0 0 h 0 [(0, .int x0), (1, .int x1)] []
  unfold f_X5_valueOn at E
  refine g_iload_n (pc' := 1) O ⟨dX5_valueOn_0, rfl⟩ (q := 0) rfl rfl ?_
  refine g_iconst (pc' := 2) O ⟨dX5_valueOn_1, rfl⟩ (v := (4 : Int32)) rfl ?_
  refine g_iload_n (pc' := 3) O ⟨dX5_valueOn_2, rfl⟩ (q := 1) rfl rfl ?_
  refine g_imul (pc' := 4) O ⟨dX5_valueOn_3, rfl⟩ ?_
  refine g_ishr (pc' := 5) O ⟨dX5_valueOn_4, rfl⟩ ?_
  refine g_bipush (pc' := 7) O ⟨dX5_valueOn_5, rfl⟩ (v := (15 : Int32)) rfl ?_
  refine g_iand (pc' := 8) O ⟨dX5_valueOn_7, rfl⟩ ?_
  cases E
  exact hret _ _ _ ⟨dX5_valueOn_8, rfl⟩ rfl
set_option maxRecDepth 100000 in
set_option maxHeartbeats 4000000 in
theorem t_X5_exchanged (l : Launch) (D : va_G) (ad : Nat → Nat) (cy : Nat → ClassId) {h : Hp} {x0 : Int32} {x1 : Int32} {x2 : Int32} {o : Int32} (E : f_X5_exchanged x0 x1 x2 = some o) : CtI l D cy (WC ad cy) yX5_exchanged cX5_exchanged 4 .int 1 21 [.int x0, .int x1, .int x2] h o h := by
  refine sI (own := RX5) rfl rfl (Nat.le_of_ble_eq_true rfl) (fun X O hret => ?_)
  show G l D X 4 (WC ad cy) 0 0 h 0 [(0, .int x0), (1, .int x1), (2, .int x2)] []
  unfold f_X5_exchanged at E
  refine g_iload_n (pc' := 1) O ⟨dX5_exchanged_0, rfl⟩ (q := 0) rfl rfl ?_
  refine g_iload_n (pc' := 2) O ⟨dX5_exchanged_1, rfl⟩ (q := 1) rfl rfl ?_
  obtain ⟨r_1, c_2, E⟩ := bd_of E
  refine g_Si (pc' := 5) O ⟨dX5_exchanged_2, rfl⟩ (y := yX5_valueOn) (As := [.int x0, .int x1]) (st := []) (t_X5_valueOn l D ad cy (h := h) c_2) kw_537 kw_41 kw_541 kw_536 hd_X5_valueOn ⟨Nat.le_of_ble_eq_true rfl, Nat.le_of_ble_eq_true rfl⟩ ⟨Nat.le_of_ble_eq_true rfl, Nat.le_of_ble_eq_true rfl⟩ rfl (Nat.le_of_ble_eq_true rfl) ?_
  refine g_iload_n (pc' := 6) O ⟨dX5_exchanged_5, rfl⟩ (q := 0) rfl rfl ?_
  refine g_iload_n (pc' := 7) O ⟨dX5_exchanged_6, rfl⟩ (q := 2) rfl rfl ?_
  obtain ⟨r_3, c_4, E⟩ := bd_of E
  refine g_Si (pc' := 10) O ⟨dX5_exchanged_7, rfl⟩ (y := yX5_valueOn) (As := [.int x0, .int x2]) (st := [.int r_1]) (t_X5_valueOn l D ad cy (h := h) c_4) kw_537 kw_41 kw_541 kw_536 hd_X5_valueOn ⟨Nat.le_of_ble_eq_true rfl, Nat.le_of_ble_eq_true rfl⟩ ⟨Nat.le_of_ble_eq_true rfl, Nat.le_of_ble_eq_true rfl⟩ rfl (Nat.le_of_ble_eq_true rfl) ?_
  refine g_ixor (pc' := 11) O ⟨dX5_exchanged_10, rfl⟩ ?_
  refine g_nm E (fun y3_5 E => ?_)
  refine g_istore_n (pc' := 12) O ⟨dX5_exchanged_11, rfl⟩ (lv' := [(3, .int y3_5), (0, .int x0), (1, .int x1), (2, .int x2)]) rfl (by decide) rfl ?_
  refine g_iload_n (pc' := 13) O ⟨dX5_exchanged_12, rfl⟩ (q := 1) rfl rfl ?_
  refine g_iload_n (pc' := 14) O ⟨dX5_exchanged_13, rfl⟩ (q := 0) rfl rfl ?_
  refine g_iconst (pc' := 15) O ⟨dX5_exchanged_14, rfl⟩ (v := (4 : Int32)) rfl ?_
  refine g_iload_n (pc' := 16) O ⟨dX5_exchanged_15, rfl⟩ (q := 2) rfl rfl ?_
  refine g_imul (pc' := 17) O ⟨dX5_exchanged_16, rfl⟩ ?_
  refine g_ishl (pc' := 18) O ⟨dX5_exchanged_17, rfl⟩ ?_
  refine g_ixor (pc' := 19) O ⟨dX5_exchanged_18, rfl⟩ ?_
  refine g_iload_n (pc' := 20) O ⟨dX5_exchanged_19, rfl⟩ (q := 0) rfl rfl ?_
  refine g_iconst (pc' := 21) O ⟨dX5_exchanged_20, rfl⟩ (v := (4 : Int32)) rfl ?_
  refine g_iload_n (pc' := 22) O ⟨dX5_exchanged_21, rfl⟩ (q := 3) rfl rfl ?_
  refine g_imul (pc' := 23) O ⟨dX5_exchanged_22, rfl⟩ ?_
  refine g_ishl (pc' := 24) O ⟨dX5_exchanged_23, rfl⟩ ?_
  refine g_ixor (pc' := 25) O ⟨dX5_exchanged_24, rfl⟩ ?_
  cases E
  exact hret _ _ _ ⟨dX5_exchanged_25, rfl⟩ rfl
set_option maxRecDepth 100000 in
set_option maxHeartbeats 4000000 in
theorem t_X9_sent_1 (l : Launch) (D : va_G) (ad : Nat → Nat) (cy : Nat → ClassId) {h : Hp} {x1 : Int32} {o : Int32} (E : f_X9_sent_1 h x1 = some o) : CtI l D cy (WC ad cy) yX9_sent cX9_sent 4 .int 2 44 [.ref (ad 1), .int x1] h o h := by
  refine sI (own := RX9) rfl rfl (Nat.le_of_ble_eq_true rfl) (fun X O hret => ?_)
  show G l D X 4 (WC ad cy) 0 0 h 0 [(0, .ref (ad 1)), (1, .int x1)] []
  unfold f_X9_sent_1 at E
  refine g_iload_n (pc' := 1) O ⟨dX9_sent_0, rfl⟩ (q := 1) rfl rfl ?_
  refine g_istore_n (pc' := 2) O ⟨dX9_sent_1, rfl⟩ (lv' := [(2, .int x1), (0, .ref (ad 1)), (1, .int x1)]) rfl (by decide) rfl ?_
  refine g_iconst (pc' := 3) O ⟨dX9_sent_2, rfl⟩ (v := (0 : Int32)) rfl ?_
  refine g_istore_n (pc' := 4) O ⟨dX9_sent_3, rfl⟩ (lv' := [(3, .int (0 : Int32)), (2, .int x1), (0, .ref (ad 1)), (1, .int x1)]) rfl (by decide) rfl ?_
  refine jn1_of (P := fun (x2_1 : Int32) => G l D X 4 (WC ad cy) 0 0 h 58 [(2, .int x2_1)] []) E ?_ ?_
  · intro x2_1 E
    show G l D X 4 (WC ad cy) 0 0 h 58 [(2, .int x2_1)] []
    refine g_iload_n (pc' := 59) O ⟨dX9_sent_58, rfl⟩ (q := 0) rfl rfl ?_
    cases E
    exact hret _ _ _ ⟨dX9_sent_59, rfl⟩ rfl
  · intro k58 hk58 E
    refine g_sub (lv' := [(0, .ref (ad 1)), (2, .int x1), (3, .int (0 : Int32))]) [2, 1, 0] rfl ?_
    refine fx2_of (P := fun (x2_2 : Int32) (x3_3 : Int32) => G l D X 4 (WC ad cy) 0 0 h 4 [(0, .ref (ad 1)), (2, .int x2_2), (3, .int x3_3)] []) ?_ _ _ _ E
    intro self ih4 x2_2 x3_3 E
    show G l D X 4 (WC ad cy) 0 0 h 4 [(0, .ref (ad 1)), (2, .int x2_2), (3, .int x3_3)] []
    unfold L_X9_sent_1_4 at E
    refine g_iload_n (pc' := 5) O ⟨dX9_sent_4, rfl⟩ (q := 2) rfl rfl ?_
    refine g_aload_n (pc' := 6) O ⟨dX9_sent_5, rfl⟩ (q := 0) rfl rfl ?_
    refine gf_C_RX9_15_1 ad cy (pc' := 9) O ⟨dX9_sent_6, rfl⟩ ?_
    refine g_icmp_ge (pc' := 12) O ⟨dX9_sent_9, rfl⟩ E (tgt := 58) (by decide) (fun E => ?_) (fun E => ?_)
    · refine g_sub (lv' := [(2, .int x2_2)]) [1] rfl ?_
      exact hk58 _ E
    · refine g_iload_n (pc' := 13) O ⟨dX9_sent_12, rfl⟩ (q := 1) rfl rfl ?_
      refine g_aload_n (pc' := 14) O ⟨dX9_sent_13, rfl⟩ (q := 0) rfl rfl ?_
      refine gf_C_RX9_18_1 ad cy (pc' := 17) O ⟨dX9_sent_14, rfl⟩ ?_
      refine g_iload_n (pc' := 18) O ⟨dX9_sent_17, rfl⟩ (q := 2) rfl rfl ?_
      refine g_iald (pc' := 19) O ⟨dX9_sent_18, rfl⟩ (wC_2 ad cy h) E (fun E => ?_)
      obtain ⟨r_4, c_5, E⟩ := bd_of E
      refine g_Si (pc' := 22) O ⟨dX9_sent_19, rfl⟩ (y := yX5_valueOn) (As := [.int x2_2, .int (h.1 2 x3_3.toNatClampNeg)]) (st := []) (t_X5_valueOn l D ad cy (h := h) c_5) kw_537 kw_41 kw_535 kw_536 hd_X5_valueOn ⟨Nat.le_of_ble_eq_true rfl, Nat.le_of_ble_eq_true rfl⟩ ⟨Nat.le_of_ble_eq_true rfl, Nat.le_of_ble_eq_true rfl⟩ rfl (Nat.le_of_ble_eq_true rfl) ?_
      refine g_iload_n (pc' := 23) O ⟨dX9_sent_22, rfl⟩ (q := 1) rfl rfl ?_
      refine g_aload_n (pc' := 24) O ⟨dX9_sent_23, rfl⟩ (q := 0) rfl rfl ?_
      refine gf_C_RX9_22_1 ad cy (pc' := 27) O ⟨dX9_sent_24, rfl⟩ ?_
      refine g_iload_n (pc' := 28) O ⟨dX9_sent_27, rfl⟩ (q := 2) rfl rfl ?_
      refine g_iald (pc' := 29) O ⟨dX9_sent_28, rfl⟩ (wC_3 ad cy h) E (fun E => ?_)
      obtain ⟨r_6, c_7, E⟩ := bd_of E
      refine g_Si (pc' := 32) O ⟨dX9_sent_29, rfl⟩ (y := yX5_valueOn) (As := [.int x2_2, .int (h.1 3 x3_3.toNatClampNeg)]) (st := [.int r_4]) (t_X5_valueOn l D ad cy (h := h) c_7) kw_537 kw_41 kw_535 kw_536 hd_X5_valueOn ⟨Nat.le_of_ble_eq_true rfl, Nat.le_of_ble_eq_true rfl⟩ ⟨Nat.le_of_ble_eq_true rfl, Nat.le_of_ble_eq_true rfl⟩ rfl (Nat.le_of_ble_eq_true rfl) ?_
      refine g_icmp_le (pc' := 35) O ⟨dX9_sent_32, rfl⟩ E (tgt := 52) (by decide) (fun E => ?_) (fun E => ?_)
      · refine g_iinc (pc' := 55) O ⟨dX9_sent_52, rfl⟩ (q := 2) (v := x3_3 + (1 : Int32)) (lv' := [(3, .int (x3_3 + (1 : Int32))), (0, .ref (ad 1)), (2, .int x2_2)]) rfl rfl (by decide) rfl ?_
        refine g_goto (pc' := 58) O ⟨dX9_sent_55, rfl⟩ (tgt := 4) (by decide) ?_
        refine g_sub (lv' := [(0, .ref (ad 1)), (2, .int x2_2), (3, .int (x3_3 + (1 : Int32)))]) [1, 2, 0] rfl ?_
        exact ih4 _ _ E
      · refine g_iload_n (pc' := 36) O ⟨dX9_sent_35, rfl⟩ (q := 1) rfl rfl ?_
        refine g_aload_n (pc' := 37) O ⟨dX9_sent_36, rfl⟩ (q := 0) rfl rfl ?_
        refine gf_C_RX9_18_1 ad cy (pc' := 40) O ⟨dX9_sent_37, rfl⟩ ?_
        refine g_iload_n (pc' := 41) O ⟨dX9_sent_40, rfl⟩ (q := 2) rfl rfl ?_
        refine g_iald (pc' := 42) O ⟨dX9_sent_41, rfl⟩ (wC_2 ad cy h) E (fun E => ?_)
        refine g_aload_n (pc' := 43) O ⟨dX9_sent_42, rfl⟩ (q := 0) rfl rfl ?_
        refine gf_C_RX9_22_1 ad cy (pc' := 46) O ⟨dX9_sent_43, rfl⟩ ?_
        refine g_iload_n (pc' := 47) O ⟨dX9_sent_46, rfl⟩ (q := 2) rfl rfl ?_
        refine g_iald (pc' := 48) O ⟨dX9_sent_47, rfl⟩ (wC_3 ad cy h) E (fun E => ?_)
        obtain ⟨r_8, c_9, E⟩ := bd_of E
        refine g_Si (pc' := 51) O ⟨dX9_sent_48, rfl⟩ (y := yX5_exchanged) (As := [.int x2_2, .int (h.1 2 x3_3.toNatClampNeg), .int (h.1 3 x3_3.toNatClampNeg)]) (st := []) (t_X5_exchanged l D ad cy (h := h) c_9) kw_540 kw_41 kw_538 kw_539 hd_X5_exchanged ⟨Nat.le_of_ble_eq_true rfl, Nat.le_of_ble_eq_true rfl⟩ ⟨Nat.le_of_ble_eq_true rfl, Nat.le_of_ble_eq_true rfl⟩ rfl (Nat.le_of_ble_eq_true rfl) ?_
        refine g_istore_n (pc' := 52) O ⟨dX9_sent_51, rfl⟩ (lv' := [(2, .int r_8), (0, .ref (ad 1)), (3, .int x3_3)]) rfl (by decide) rfl ?_
        refine g_iinc (pc' := 55) O ⟨dX9_sent_52, rfl⟩ (q := 2) (v := x3_3 + (1 : Int32)) (lv' := [(3, .int (x3_3 + (1 : Int32))), (2, .int r_8), (0, .ref (ad 1))]) rfl rfl (by decide) rfl ?_
        refine g_goto (pc' := 58) O ⟨dX9_sent_55, rfl⟩ (tgt := 4) (by decide) ?_
        refine g_sub (lv' := [(0, .ref (ad 1)), (2, .int r_8), (3, .int (x3_3 + (1 : Int32)))]) [2, 1, 0] rfl ?_
        exact ih4 _ _ E
set_option maxRecDepth 100000 in
set_option maxHeartbeats 4000000 in
theorem t_X5_toCode (l : Launch) (D : va_G) (ad : Nat → Nat) (cy : Nat → ClassId) {h : Hp} {x0 : Int32} {x1 : Int32} {o : Int32} (E : f_X5_toCode x0 x1 = some o) : CtI l D cy (WC ad cy) yX5_toCode cX5_toCode 4 .int 1 21 [.int x0, .int x1] h o h := by
  refine sI (own := RX5) rfl rfl (Nat.le_of_ble_eq_true rfl) (fun X O hret => ?_)
  show G l D X 4 (WC ad cy) 0 0 h 0 [(0, .int x0), (1, .int x1)] []
  unfold f_X5_toCode at E
  refine g_iconst (pc' := 1) O ⟨dX5_toCode_0, rfl⟩ (v := (0 : Int32)) rfl ?_
  refine g_istore_n (pc' := 2) O ⟨dX5_toCode_1, rfl⟩ (lv' := [(2, .int (0 : Int32)), (0, .int x0), (1, .int x1)]) rfl (by decide) rfl ?_
  refine g_iload_n (pc' := 3) O ⟨dX5_toCode_2, rfl⟩ (q := 2) rfl rfl ?_
  refine g_iconst (pc' := 4) O ⟨dX5_toCode_3, rfl⟩ (v := (1 : Int32)) rfl ?_
  refine g_isub (pc' := 5) O ⟨dX5_toCode_4, rfl⟩ ?_
  refine g_nm E (fun y3_1 E => ?_)
  refine g_istore_n (pc' := 6) O ⟨dX5_toCode_5, rfl⟩ (lv' := [(3, .int y3_1), (2, .int (0 : Int32)), (0, .int x0), (1, .int x1)]) rfl (by decide) rfl ?_
  refine jn1_of (P := fun (x2_2 : Int32) => G l D X 4 (WC ad cy) 0 0 h 27 [(2, .int x2_2)] []) E ?_ ?_
  · intro x2_2 E
    show G l D X 4 (WC ad cy) 0 0 h 27 [(2, .int x2_2)] []
    refine g_iload_n (pc' := 28) O ⟨dX5_toCode_27, rfl⟩ (q := 0) rfl rfl ?_
    cases E
    exact hret _ _ _ ⟨dX5_toCode_28, rfl⟩ rfl
  · intro k27 hk27 E
    refine g_sub (lv' := [(0, .int x0), (2, .int (0 : Int32)), (3, .int y3_1)]) [2, 1, 0] rfl ?_
    refine fx2_of (P := fun (x2_3 : Int32) (x3_4 : Int32) => G l D X 4 (WC ad cy) 0 0 h 6 [(0, .int x0), (2, .int x2_3), (3, .int x3_4)] []) ?_ _ _ _ E
    intro self ih6 x2_3 x3_4 E
    show G l D X 4 (WC ad cy) 0 0 h 6 [(0, .int x0), (2, .int x2_3), (3, .int x3_4)] []
    unfold L_X5_toCode_6 at E
    refine g_iload_n (pc' := 7) O ⟨dX5_toCode_6, rfl⟩ (q := 2) rfl rfl ?_
    refine g_if_lt (pc' := 10) O ⟨dX5_toCode_7, rfl⟩ E (tgt := 27) (by decide) (fun E => ?_) (fun E => ?_)
    · refine g_sub (lv' := [(2, .int x2_3)]) [1] rfl ?_
      exact hk27 _ E
    · refine g_bipush (pc' := 12) O ⟨dX5_toCode_10, rfl⟩ (v := (10 : Int32)) rfl ?_
      refine g_iload_n (pc' := 13) O ⟨dX5_toCode_12, rfl⟩ (q := 1) rfl rfl ?_
      refine g_imul (pc' := 14) O ⟨dX5_toCode_13, rfl⟩ ?_
      refine g_iload_n (pc' := 15) O ⟨dX5_toCode_14, rfl⟩ (q := 0) rfl rfl ?_
      refine g_iload_n (pc' := 16) O ⟨dX5_toCode_15, rfl⟩ (q := 2) rfl rfl ?_
      obtain ⟨r_5, c_6, E⟩ := bd_of E
      refine g_Si (pc' := 19) O ⟨dX5_toCode_16, rfl⟩ (y := yX5_valueOn) (As := [.int x0, .int x3_4]) (st := [.int ((10 : Int32) * x2_3)]) (t_X5_valueOn l D ad cy (h := h) c_6) kw_537 kw_41 kw_541 kw_536 hd_X5_valueOn ⟨Nat.le_of_ble_eq_true rfl, Nat.le_of_ble_eq_true rfl⟩ ⟨Nat.le_of_ble_eq_true rfl, Nat.le_of_ble_eq_true rfl⟩ rfl (Nat.le_of_ble_eq_true rfl) ?_
      refine g_iadd (pc' := 20) O ⟨dX5_toCode_19, rfl⟩ ?_
      refine g_nm E (fun y2_7 E => ?_)
      refine g_istore_n (pc' := 21) O ⟨dX5_toCode_20, rfl⟩ (lv' := [(2, .int y2_7), (0, .int x0), (3, .int x3_4)]) rfl (by decide) rfl ?_
      refine g_iinc (pc' := 24) O ⟨dX5_toCode_21, rfl⟩ (q := 2) (v := x3_4 + (-1 : Int32)) (lv' := [(3, .int (x3_4 + (-1 : Int32))), (2, .int y2_7), (0, .int x0)]) rfl rfl (by decide) rfl ?_
      refine g_goto (pc' := 27) O ⟨dX5_toCode_24, rfl⟩ (tgt := 6) (by decide) ?_
      refine g_sub (lv' := [(0, .int x0), (2, .int y2_7), (3, .int (x3_4 + (-1 : Int32)))]) [2, 1, 0] rfl ?_
      exact ih6 _ _ E
set_option maxRecDepth 100000 in
set_option maxHeartbeats 4000000 in
theorem t_X4_rowOutOf_13 (l : Launch) (D : va_G) (ad : Nat → Nat) (cy : Nat → ClassId) {h : Hp} {x1 : Int32} {x2 : Int32} {o : Int32} (E : f_X4_rowOutOf_13 h x1 x2 = some o) : CtI l D cy (WC ad cy) yX4_rowOutOf cX4_rowOutOf 5 .int 0 0 [.ref (ad 13), .int x1, .int x2] h o h := by
  refine sI (own := RX4) rfl rfl (Nat.le_of_ble_eq_true rfl) (fun X O hret => ?_)
  show G l D X 5 (WC ad cy) 0 0 h 0 [(0, .ref (ad 13)), (1, .int x1), (2, .int x2)] []
  unfold f_X4_rowOutOf_13 at E
  refine g_iconst (pc' := 1) O ⟨dX4_rowOutOf_0, rfl⟩ (v := (0 : Int32)) rfl ?_
  refine g_istore_n (pc' := 2) O ⟨dX4_rowOutOf_1, rfl⟩ (lv' := [(3, .int (0 : Int32)), (0, .ref (ad 13)), (1, .int x1), (2, .int x2)]) rfl (by decide) rfl ?_
  refine g_iconst (pc' := 3) O ⟨dX4_rowOutOf_2, rfl⟩ (v := (0 : Int32)) rfl ?_
  refine g_istore (pc' := 5) O ⟨dX4_rowOutOf_3, rfl⟩ (lv' := [(4, .int (0 : Int32)), (3, .int (0 : Int32)), (0, .ref (ad 13)), (1, .int x1), (2, .int x2)]) (by decide) rfl ?_
  refine jn1_of (P := fun (x3_1 : Int32) => G l D X 5 (WC ad cy) 0 0 h 35 [(3, .int x3_1)] []) E ?_ ?_
  · intro x3_1 E
    show G l D X 5 (WC ad cy) 0 0 h 35 [(3, .int x3_1)] []
    refine g_iload_n (pc' := 36) O ⟨dX4_rowOutOf_35, rfl⟩ (q := 0) rfl rfl ?_
    cases E
    exact hret _ _ _ ⟨dX4_rowOutOf_36, rfl⟩ rfl
  · intro k35 hk35 E
    refine g_sub (lv' := [(0, .ref (ad 13)), (1, .int x1), (2, .int x2), (3, .int (0 : Int32)), (4, .int (0 : Int32))]) [2, 3, 4, 1, 0] rfl ?_
    refine fx2_of (P := fun (x3_2 : Int32) (x4_3 : Int32) => G l D X 5 (WC ad cy) 0 0 h 5 [(0, .ref (ad 13)), (1, .int x1), (2, .int x2), (3, .int x3_2), (4, .int x4_3)] []) ?_ _ _ _ E
    intro self ih5 x3_2 x4_3 E
    show G l D X 5 (WC ad cy) 0 0 h 5 [(0, .ref (ad 13)), (1, .int x1), (2, .int x2), (3, .int x3_2), (4, .int x4_3)] []
    unfold L_X4_rowOutOf_13_5 at E
    refine g_iload (pc' := 7) O ⟨dX4_rowOutOf_5, rfl⟩ (q := 4) rfl ?_
    refine g_iload_n (pc' := 8) O ⟨dX4_rowOutOf_7, rfl⟩ (q := 2) rfl rfl ?_
    refine g_icmp_ge (pc' := 11) O ⟨dX4_rowOutOf_8, rfl⟩ E (tgt := 35) (by decide) (fun E => ?_) (fun E => ?_)
    · refine g_sub (lv' := [(3, .int x3_2)]) [3] rfl ?_
      exact hk35 _ E
    · refine g_iload_n (pc' := 12) O ⟨dX4_rowOutOf_11, rfl⟩ (q := 3) rfl rfl ?_
      refine g_aload_n (pc' := 13) O ⟨dX4_rowOutOf_12, rfl⟩ (q := 0) rfl rfl ?_
      refine gf_C_RX4_9_13 ad cy (pc' := 16) O ⟨dX4_rowOutOf_13, rfl⟩ ?_
      refine g_iload (pc' := 18) O ⟨dX4_rowOutOf_16, rfl⟩ (q := 4) rfl ?_
      refine g_lald (pc' := 19) O ⟨dX4_rowOutOf_18, rfl⟩ (wC_14 ad cy h) E (fun E => ?_)
      refine g_iload_n (pc' := 20) O ⟨dX4_rowOutOf_19, rfl⟩ (q := 1) rfl rfl ?_
      refine g_lushr (pc' := 21) O ⟨dX4_rowOutOf_20, rfl⟩ ?_
      refine g_lconst (pc' := 22) O ⟨dX4_rowOutOf_21, rfl⟩ (v := (1 : Int64)) rfl ?_
      refine g_land (pc' := 23) O ⟨dX4_rowOutOf_22, rfl⟩ ?_
      refine g_l2i (pc' := 24) O ⟨dX4_rowOutOf_23, rfl⟩ ?_
      refine g_iload (pc' := 26) O ⟨dX4_rowOutOf_24, rfl⟩ (q := 4) rfl ?_
      refine g_ishl (pc' := 27) O ⟨dX4_rowOutOf_26, rfl⟩ ?_
      refine g_ior (pc' := 28) O ⟨dX4_rowOutOf_27, rfl⟩ ?_
      refine g_nm E (fun y3_4 E => ?_)
      refine g_istore_n (pc' := 29) O ⟨dX4_rowOutOf_28, rfl⟩ (lv' := [(3, .int y3_4), (0, .ref (ad 13)), (1, .int x1), (2, .int x2), (4, .int x4_3)]) rfl (by decide) rfl ?_
      refine g_iinc (pc' := 32) O ⟨dX4_rowOutOf_29, rfl⟩ (q := 4) (v := x4_3 + (1 : Int32)) (lv' := [(4, .int (x4_3 + (1 : Int32))), (3, .int y3_4), (0, .ref (ad 13)), (1, .int x1), (2, .int x2)]) rfl rfl (by decide) rfl ?_
      refine g_goto (pc' := 35) O ⟨dX4_rowOutOf_32, rfl⟩ (tgt := 5) (by decide) ?_
      refine g_sub (lv' := [(0, .ref (ad 13)), (1, .int x1), (2, .int x2), (3, .int y3_4), (4, .int (x4_3 + (1 : Int32)))]) [2, 3, 4, 1, 0] rfl ?_
      exact ih5 _ _ E
set_option maxRecDepth 100000 in
set_option maxHeartbeats 4000000 in
theorem t_X4_rowsOut_13_1 (l : Launch) (D : va_G) (ad : Nat → Nat) (cy : Nat → ClassId) {h : Hp}  {o : Int64 × Hp} (E : f_X4_rowsOut_13_1 h = some o) : CtL l D cy (WC ad cy) yX4_rowsOut cX4_rowsOut 5 3 65 [.ref (ad 13), .ref (ad 1)] h o.1 o.2 := by
  refine sL (own := RX4) rfl rfl (Nat.le_of_ble_eq_true rfl) (fun X O hret => ?_)
  show G l D X 5 (WC ad cy) 0 0 h 0 [(0, .ref (ad 13)), (1, .ref (ad 1))] []
  unfold f_X4_rowsOut_13_1 at E
  refine g_aload_n (pc' := 1) O ⟨dX4_rowsOut_0, rfl⟩ (q := 0) rfl rfl ?_
  refine gf_C_RX4_9_13 ad cy (pc' := 4) O ⟨dX4_rowsOut_1, rfl⟩ ?_
  refine g_aload_n (pc' := 5) O ⟨dX4_rowsOut_4, rfl⟩ (q := 1) rfl rfl ?_
  refine g_aload_n (pc' := 6) O ⟨dX4_rowsOut_5, rfl⟩ (q := 1) rfl rfl ?_
  refine gf_C_RX4_63_1 ad cy (pc' := 9) O ⟨dX4_rowsOut_6, rfl⟩ ?_
  obtain ⟨r_1, c_2, E⟩ := bd_of E
  refine g_Sv (pc' := 12) O ⟨dX4_rowsOut_9, rfl⟩ (y := yX4_send) (As := [.ref (ad 14), .ref (ad 1), .int (h.1 1 1)]) (st := []) (t_X4_send_14_1 l D ad cy (h := h) c_2) kw_587 kw_28 kw_585 kw_586 hd_X4_send ⟨Nat.le_of_ble_eq_true rfl, Nat.le_of_ble_eq_true rfl⟩ ⟨Nat.le_of_ble_eq_true rfl, Nat.le_of_ble_eq_true rfl⟩ rfl (Nat.le_of_ble_eq_true rfl) ?_
  refine g_lconst (pc' := 13) O ⟨dX4_rowsOut_12, rfl⟩ (v := (0 : Int64)) rfl ?_
  refine g_lstore_n (pc' := 14) O ⟨dX4_rowsOut_13, rfl⟩ (lv' := [(2, .long (0 : Int64)), (0, .ref (ad 13)), (1, .ref (ad 1))]) rfl (by decide) rfl ?_
  refine g_iconst (pc' := 15) O ⟨dX4_rowsOut_14, rfl⟩ (v := (0 : Int32)) rfl ?_
  refine g_istore (pc' := 17) O ⟨dX4_rowsOut_15, rfl⟩ (lv' := [(4, .int (0 : Int32)), (2, .long (0 : Int64)), (0, .ref (ad 13)), (1, .ref (ad 1))]) (by decide) rfl ?_
  refine jn1_of (P := fun (x2_3 : Int64) => G l D X 5 (WC ad cy) 0 0 r_1 49 [(2, .long x2_3)] []) E ?_ ?_
  · intro x2_3 E
    show G l D X 5 (WC ad cy) 0 0 r_1 49 [(2, .long x2_3)] []
    refine g_lload_n (pc' := 50) O ⟨dX4_rowsOut_49, rfl⟩ (q := 0) rfl rfl ?_
    cases E
    exact hret _ _ _ ⟨dX4_rowsOut_50, rfl⟩
  · intro k49 hk49 E
    refine g_sub (lv' := [(0, .ref (ad 13)), (1, .ref (ad 1)), (2, .long (0 : Int64)), (4, .int (0 : Int32))]) [2, 3, 1, 0] rfl ?_
    refine fx2_of (P := fun (x2_4 : Int64) (x4_5 : Int32) => G l D X 5 (WC ad cy) 0 0 r_1 17 [(0, .ref (ad 13)), (1, .ref (ad 1)), (2, .long x2_4), (4, .int x4_5)] []) ?_ _ _ _ E
    intro self ih17 x2_4 x4_5 E
    show G l D X 5 (WC ad cy) 0 0 r_1 17 [(0, .ref (ad 13)), (1, .ref (ad 1)), (2, .long x2_4), (4, .int x4_5)] []
    unfold L_X4_rowsOut_13_1_17 at E
    refine g_iload (pc' := 19) O ⟨dX4_rowsOut_17, rfl⟩ (q := 3) rfl ?_
    refine g_iconst (pc' := 20) O ⟨dX4_rowsOut_19, rfl⟩ (v := (1 : Int32)) rfl ?_
    refine g_aload_n (pc' := 21) O ⟨dX4_rowsOut_20, rfl⟩ (q := 1) rfl rfl ?_
    refine gf_C_RX4_34_1 ad cy (pc' := 24) O ⟨dX4_rowsOut_21, rfl⟩ ?_
    refine g_ishl (pc' := 25) O ⟨dX4_rowsOut_24, rfl⟩ ?_
    refine g_icmp_ge (pc' := 28) O ⟨dX4_rowsOut_25, rfl⟩ E (tgt := 49) (by decide) (fun E => ?_) (fun E => ?_)
    · refine g_sub (lv' := [(2, .long x2_4)]) [2] rfl ?_
      exact hk49 _ E
    · refine g_lload_n (pc' := 29) O ⟨dX4_rowsOut_28, rfl⟩ (q := 2) rfl rfl ?_
      refine g_lconst (pc' := 30) O ⟨dX4_rowsOut_29, rfl⟩ (v := (1 : Int64)) rfl ?_
      refine g_aload_n (pc' := 31) O ⟨dX4_rowsOut_30, rfl⟩ (q := 0) rfl rfl ?_
      refine g_iload (pc' := 33) O ⟨dX4_rowsOut_31, rfl⟩ (q := 3) rfl ?_
      refine g_aload_n (pc' := 34) O ⟨dX4_rowsOut_33, rfl⟩ (q := 1) rfl rfl ?_
      refine gf_C_RX4_34_1 ad cy (pc' := 37) O ⟨dX4_rowsOut_34, rfl⟩ ?_
      obtain ⟨r_6, c_7, E⟩ := bd_of E
      refine g_Vi (pc' := 40) O ⟨dX4_rowsOut_37, rfl⟩ (y := yX4_rowOutOf) (As := [.int x4_5, .int (r_1.1 1 0)]) (st := [.long (1 : Int64), .long x2_4]) (t_X4_rowOutOf_13 l D ad cy (h := r_1) c_7) kw_738 kw_28 kw_735 kw_737 kw_13 rfl (wC_13 ad cy r_1) hd_X4_rowOutOf ⟨Nat.le_of_ble_eq_true rfl, Nat.le_of_ble_eq_true rfl⟩ ⟨Nat.le_of_ble_eq_true rfl, Nat.le_of_ble_eq_true rfl⟩ rfl (Nat.le_of_ble_eq_true rfl) ?_
      refine g_lshl (pc' := 41) O ⟨dX4_rowsOut_40, rfl⟩ ?_
      refine g_lor (pc' := 42) O ⟨dX4_rowsOut_41, rfl⟩ ?_
      refine g_nmL E (fun y2_8 E => ?_)
      refine g_lstore_n (pc' := 43) O ⟨dX4_rowsOut_42, rfl⟩ (lv' := [(2, .long y2_8), (0, .ref (ad 13)), (1, .ref (ad 1)), (4, .int x4_5)]) rfl (by decide) rfl ?_
      refine g_iinc (pc' := 46) O ⟨dX4_rowsOut_43, rfl⟩ (q := 3) (v := x4_5 + (1 : Int32)) (lv' := [(4, .int (x4_5 + (1 : Int32))), (2, .long y2_8), (0, .ref (ad 13)), (1, .ref (ad 1))]) rfl rfl (by decide) rfl ?_
      refine g_goto (pc' := 49) O ⟨dX4_rowsOut_46, rfl⟩ (tgt := 17) (by decide) ?_
      refine g_sub (lv' := [(0, .ref (ad 13)), (1, .ref (ad 1)), (2, .long y2_8), (4, .int (x4_5 + (1 : Int32)))]) [2, 3, 1, 0] rfl ?_
      exact ih17 _ _ E
set_option maxRecDepth 100000 in
set_option maxHeartbeats 4000000 in
theorem t_X10_outputs (l : Launch) (D : va_G) (ad : Nat → Nat) (cy : Nat → ClassId) {h : Hp}  {o : Int64 × Hp} (E : f_X10_outputs h = some o) : CtL l D cy (WC ad cy) yX10_outputs cX10_outputs 1 4 89 [.ref (ad 0)] h o.1 o.2 := by
  refine sL (own := RX10) rfl rfl (Nat.le_of_ble_eq_true rfl) (fun X O hret => ?_)
  show G l D X 1 (WC ad cy) 0 0 h 0 [(0, .ref (ad 0))] []
  unfold f_X10_outputs at E
  refine g_aload_n (pc' := 1) O ⟨dX10_outputs_0, rfl⟩ (q := 0) rfl rfl ?_
  refine gf_C_RX10_29_0 ad cy (pc' := 4) O ⟨dX10_outputs_1, rfl⟩ ?_
  refine g_aload_n (pc' := 5) O ⟨dX10_outputs_4, rfl⟩ (q := 0) rfl rfl ?_
  refine gf_C_RX10_10_0 ad cy (pc' := 8) O ⟨dX10_outputs_5, rfl⟩ ?_
  obtain ⟨r_1, c_2, E⟩ := bd_of E
  refine g_Vl (pc' := 11) O ⟨dX10_outputs_8, rfl⟩ (y := yX4_rowsOut) (As := [.ref (ad 1)]) (st := []) (t_X4_rowsOut_13_1 l D ad cy (h := h) c_2) kw_734 kw_28 kw_731 kw_732 kw_733 rfl (wC_13 ad cy h) hd_X4_rowsOut ⟨Nat.le_of_ble_eq_true rfl, Nat.le_of_ble_eq_true rfl⟩ ⟨Nat.le_of_ble_eq_true rfl, Nat.le_of_ble_eq_true rfl⟩ rfl (Nat.le_of_ble_eq_true rfl) ?_
  cases E
  exact hret _ _ _ ⟨dX10_outputs_11, rfl⟩
set_option maxRecDepth 100000 in
set_option maxHeartbeats 4000000 in
theorem t_X4_unsortedIn_14 (l : Launch) (D : va_G) (ad : Nat → Nat) (cy : Nat → ClassId) {h : Hp} {x1 : Int32} {o : Int64} (E : f_X4_unsortedIn_14 h x1 = some o) : CtL l D cy (WC ad cy) yX4_unsortedIn cX4_unsortedIn 5 0 0 [.ref (ad 14), .int x1] h o h := by
  refine sL (own := RX4) rfl rfl (Nat.le_of_ble_eq_true rfl) (fun X O hret => ?_)
  show G l D X 5 (WC ad cy) 0 0 h 0 [(0, .ref (ad 14)), (1, .int x1)] []
  unfold f_X4_unsortedIn_14 at E
  refine g_lconst (pc' := 1) O ⟨dX4_unsortedIn_0, rfl⟩ (v := (0 : Int64)) rfl ?_
  refine g_lstore_n (pc' := 2) O ⟨dX4_unsortedIn_1, rfl⟩ (lv' := [(2, .long (0 : Int64)), (0, .ref (ad 14)), (1, .int x1)]) rfl (by decide) rfl ?_
  refine g_iconst (pc' := 3) O ⟨dX4_unsortedIn_2, rfl⟩ (v := (0 : Int32)) rfl ?_
  refine g_istore (pc' := 5) O ⟨dX4_unsortedIn_3, rfl⟩ (lv' := [(4, .int (0 : Int32)), (2, .long (0 : Int64)), (0, .ref (ad 14)), (1, .int x1)]) (by decide) rfl ?_
  refine jn1_of (P := fun (x2_1 : Int64) => G l D X 5 (WC ad cy) 0 0 h 37 [(2, .long x2_1)] []) E ?_ ?_
  · intro x2_1 E
    show G l D X 5 (WC ad cy) 0 0 h 37 [(2, .long x2_1)] []
    refine g_lload_n (pc' := 38) O ⟨dX4_unsortedIn_37, rfl⟩ (q := 0) rfl rfl ?_
    cases E
    exact hret _ _ _ ⟨dX4_unsortedIn_38, rfl⟩
  · intro k37 hk37 E
    refine g_sub (lv' := [(0, .ref (ad 14)), (1, .int x1), (2, .long (0 : Int64)), (4, .int (0 : Int32))]) [2, 3, 1, 0] rfl ?_
    refine fx2_of (P := fun (x2_2 : Int64) (x4_3 : Int32) => G l D X 5 (WC ad cy) 0 0 h 5 [(0, .ref (ad 14)), (1, .int x1), (2, .long x2_2), (4, .int x4_3)] []) ?_ _ _ _ E
    intro self ih5 x2_2 x4_3 E
    show G l D X 5 (WC ad cy) 0 0 h 5 [(0, .ref (ad 14)), (1, .int x1), (2, .long x2_2), (4, .int x4_3)] []
    unfold L_X4_unsortedIn_14_5 at E
    refine g_iload (pc' := 7) O ⟨dX4_unsortedIn_5, rfl⟩ (q := 3) rfl ?_
    refine g_iconst (pc' := 8) O ⟨dX4_unsortedIn_7, rfl⟩ (v := (1 : Int32)) rfl ?_
    refine g_iadd (pc' := 9) O ⟨dX4_unsortedIn_8, rfl⟩ ?_
    refine g_iload_n (pc' := 10) O ⟨dX4_unsortedIn_9, rfl⟩ (q := 1) rfl rfl ?_
    refine g_icmp_ge (pc' := 13) O ⟨dX4_unsortedIn_10, rfl⟩ E (tgt := 37) (by decide) (fun E => ?_) (fun E => ?_)
    · refine g_sub (lv' := [(2, .long x2_2)]) [2] rfl ?_
      exact hk37 _ E
    · refine g_lload_n (pc' := 14) O ⟨dX4_unsortedIn_13, rfl⟩ (q := 2) rfl rfl ?_
      refine g_aload_n (pc' := 15) O ⟨dX4_unsortedIn_14, rfl⟩ (q := 0) rfl rfl ?_
      refine g_iload (pc' := 17) O ⟨dX4_unsortedIn_15, rfl⟩ (q := 3) rfl ?_
      refine g_lald (pc' := 18) O ⟨dX4_unsortedIn_17, rfl⟩ (wC_14 ad cy h) E (fun E => ?_)
      refine g_aload_n (pc' := 19) O ⟨dX4_unsortedIn_18, rfl⟩ (q := 0) rfl rfl ?_
      refine g_iload (pc' := 21) O ⟨dX4_unsortedIn_19, rfl⟩ (q := 3) rfl ?_
      refine g_iconst (pc' := 22) O ⟨dX4_unsortedIn_21, rfl⟩ (v := (1 : Int32)) rfl ?_
      refine g_iadd (pc' := 23) O ⟨dX4_unsortedIn_22, rfl⟩ ?_
      refine g_lald (pc' := 24) O ⟨dX4_unsortedIn_23, rfl⟩ (wC_14 ad cy h) E (fun E => ?_)
      refine g_ldc2 (pc' := 27) O ⟨dX4_unsortedIn_24, rfl⟩ kw_596 ?_
      refine g_lxor (pc' := 28) O ⟨dX4_unsortedIn_27, rfl⟩ ?_
      refine g_land (pc' := 29) O ⟨dX4_unsortedIn_28, rfl⟩ ?_
      refine g_lor (pc' := 30) O ⟨dX4_unsortedIn_29, rfl⟩ ?_
      refine g_nmL E (fun y2_4 E => ?_)
      refine g_lstore_n (pc' := 31) O ⟨dX4_unsortedIn_30, rfl⟩ (lv' := [(2, .long y2_4), (0, .ref (ad 14)), (1, .int x1), (4, .int x4_3)]) rfl (by decide) rfl ?_
      refine g_iinc (pc' := 34) O ⟨dX4_unsortedIn_31, rfl⟩ (q := 3) (v := x4_3 + (1 : Int32)) (lv' := [(4, .int (x4_3 + (1 : Int32))), (2, .long y2_4), (0, .ref (ad 14)), (1, .int x1)]) rfl rfl (by decide) rfl ?_
      refine g_goto (pc' := 37) O ⟨dX4_unsortedIn_34, rfl⟩ (tgt := 5) (by decide) ?_
      refine g_sub (lv' := [(0, .ref (ad 14)), (1, .int x1), (2, .long y2_4), (4, .int (x4_3 + (1 : Int32)))]) [2, 3, 1, 0] rfl ?_
      exact ih5 _ _ E
set_option maxRecDepth 100000 in
set_option maxHeartbeats 4000000 in
theorem t_X4_unsortedFrom_13_1 (l : Launch) (D : va_G) (ad : Nat → Nat) (cy : Nat → ClassId) {h : Hp}  {o : Int64 × Hp} (E : f_X4_unsortedFrom_13_1 h = some o) : CtL l D cy (WC ad cy) yX4_unsortedFrom cX4_unsortedFrom 2 3 65 [.ref (ad 13), .ref (ad 1)] h o.1 o.2 := by
  refine sL (own := RX4) rfl rfl (Nat.le_of_ble_eq_true rfl) (fun X O hret => ?_)
  show G l D X 2 (WC ad cy) 0 0 h 0 [(0, .ref (ad 13)), (1, .ref (ad 1))] []
  unfold f_X4_unsortedFrom_13_1 at E
  refine g_aload_n (pc' := 1) O ⟨dX4_unsortedFrom_0, rfl⟩ (q := 0) rfl rfl ?_
  refine gf_C_RX4_9_13 ad cy (pc' := 4) O ⟨dX4_unsortedFrom_1, rfl⟩ ?_
  refine g_aload_n (pc' := 5) O ⟨dX4_unsortedFrom_4, rfl⟩ (q := 1) rfl rfl ?_
  refine g_aload_n (pc' := 6) O ⟨dX4_unsortedFrom_5, rfl⟩ (q := 1) rfl rfl ?_
  refine gf_C_RX4_63_1 ad cy (pc' := 9) O ⟨dX4_unsortedFrom_6, rfl⟩ ?_
  obtain ⟨r_1, c_2, E⟩ := bd_of E
  refine g_Sv (pc' := 12) O ⟨dX4_unsortedFrom_9, rfl⟩ (y := yX4_send) (As := [.ref (ad 14), .ref (ad 1), .int (h.1 1 1)]) (st := []) (t_X4_send_14_1 l D ad cy (h := h) c_2) kw_587 kw_28 kw_585 kw_586 hd_X4_send ⟨Nat.le_of_ble_eq_true rfl, Nat.le_of_ble_eq_true rfl⟩ ⟨Nat.le_of_ble_eq_true rfl, Nat.le_of_ble_eq_true rfl⟩ rfl (Nat.le_of_ble_eq_true rfl) ?_
  refine g_aload_n (pc' := 13) O ⟨dX4_unsortedFrom_12, rfl⟩ (q := 0) rfl rfl ?_
  refine gf_C_RX4_9_13 ad cy (pc' := 16) O ⟨dX4_unsortedFrom_13, rfl⟩ ?_
  refine g_aload_n (pc' := 17) O ⟨dX4_unsortedFrom_16, rfl⟩ (q := 1) rfl rfl ?_
  refine gf_C_RX4_34_1 ad cy (pc' := 20) O ⟨dX4_unsortedFrom_17, rfl⟩ ?_
  obtain ⟨r_3, c_4, E⟩ := bd_of E
  refine g_Sl (pc' := 23) O ⟨dX4_unsortedFrom_20, rfl⟩ (y := yX4_unsortedIn) (As := [.ref (ad 14), .int (r_1.1 1 0)]) (st := []) (t_X4_unsortedIn_14 l D ad cy (h := r_1) c_4) kw_749 kw_28 kw_747 kw_748 hd_X4_unsortedIn ⟨Nat.le_of_ble_eq_true rfl, Nat.le_of_ble_eq_true rfl⟩ ⟨Nat.le_of_ble_eq_true rfl, Nat.le_of_ble_eq_true rfl⟩ rfl (Nat.le_of_ble_eq_true rfl) ?_
  cases E
  exact hret _ _ _ ⟨dX4_unsortedFrom_23, rfl⟩
set_option maxRecDepth 100000 in
set_option maxHeartbeats 4000000 in
theorem t_X10_sorts (l : Launch) (D : va_G) (ad : Nat → Nat) (cy : Nat → ClassId) {h : Hp}  {o : Int32 × Hp} (E : f_X10_sorts h = some o) : CtI l D cy (WC ad cy) yX10_sorts cX10_sorts 1 .boolean 4 86 [.ref (ad 0)] h o.1 o.2 := by
  refine sI (own := RX10) rfl rfl (Nat.le_of_ble_eq_true rfl) (fun X O hret => ?_)
  show G l D X 1 (WC ad cy) 0 0 h 0 [(0, .ref (ad 0))] []
  unfold f_X10_sorts at E
  refine g_aload_n (pc' := 1) O ⟨dX10_sorts_0, rfl⟩ (q := 0) rfl rfl ?_
  refine gf_C_RX10_29_0 ad cy (pc' := 4) O ⟨dX10_sorts_1, rfl⟩ ?_
  refine g_aload_n (pc' := 5) O ⟨dX10_sorts_4, rfl⟩ (q := 0) rfl rfl ?_
  refine gf_C_RX10_10_0 ad cy (pc' := 8) O ⟨dX10_sorts_5, rfl⟩ ?_
  obtain ⟨r_1, c_2, E⟩ := bd_of E
  refine g_Vl (pc' := 11) O ⟨dX10_sorts_8, rfl⟩ (y := yX4_unsortedFrom) (As := [.ref (ad 1)]) (st := []) (t_X4_unsortedFrom_13_1 l D ad cy (h := h) c_2) kw_746 kw_28 kw_743 kw_744 kw_745 rfl (wC_13 ad cy h) hd_X4_unsortedFrom ⟨Nat.le_of_ble_eq_true rfl, Nat.le_of_ble_eq_true rfl⟩ ⟨Nat.le_of_ble_eq_true rfl, Nat.le_of_ble_eq_true rfl⟩ rfl (Nat.le_of_ble_eq_true rfl) ?_
  refine g_lconst (pc' := 12) O ⟨dX10_sorts_11, rfl⟩ (v := (0 : Int64)) rfl ?_
  refine g_lcmp (pc' := 13) O ⟨dX10_sorts_12, rfl⟩ ?_
  refine g_if_ne (pc' := 16) O ⟨dX10_sorts_13, rfl⟩ E (tgt := 20) (by decide) (fun E => ?_) (fun E => ?_)
  · refine g_iconst (pc' := 21) O ⟨dX10_sorts_20, rfl⟩ (v := (0 : Int32)) rfl ?_
    obtain ⟨hn, E⟩ := ckz_of E
    cases E
    exact hret _ _ _ ⟨dX10_sorts_21, rfl⟩ hn
  · refine g_iconst (pc' := 17) O ⟨dX10_sorts_16, rfl⟩ (v := (1 : Int32)) rfl ?_
    refine g_goto (pc' := 20) O ⟨dX10_sorts_17, rfl⟩ (tgt := 21) (by decide) ?_
    obtain ⟨hn, E⟩ := ckz_of E
    cases E
    exact hret _ _ _ ⟨dX10_sorts_21, rfl⟩ hn
set_option maxRecDepth 100000 in
set_option maxHeartbeats 4000000 in
theorem t_X2_waysTo_16 (l : Launch) (D : va_G) (ad : Nat → Nat) (cy : Nat → ClassId) {h : Hp} {x1 : Int32} {x2 : Int64} {x4 : Int32} {o : Int32} (E : f_X2_waysTo_16 h x1 x2 x4 = some o) : CtI l D cy (WC ad cy) yX2_waysTo cX2_waysTo 9 .int 0 0 [.ref (ad 16), .int x1, .long x2, .int x4] h o h := by
  refine sI (own := RX2) rfl rfl (Nat.le_of_ble_eq_true rfl) (fun X O hret => ?_)
  show G l D X 9 (WC ad cy) 0 0 h 0 [(0, .ref (ad 16)), (1, .int x1), (2, .long x2), (4, .int x4)] []
  unfold f_X2_waysTo_16 at E
  refine g_iconst (pc' := 1) O ⟨dX2_waysTo_0, rfl⟩ (v := (0 : Int32)) rfl ?_
  refine g_istore (pc' := 3) O ⟨dX2_waysTo_1, rfl⟩ (lv' := [(5, .int (0 : Int32)), (0, .ref (ad 16)), (1, .int x1), (2, .long x2), (4, .int x4)]) (by decide) rfl ?_
  refine g_iconst (pc' := 4) O ⟨dX2_waysTo_3, rfl⟩ (v := (0 : Int32)) rfl ?_
  refine g_istore (pc' := 6) O ⟨dX2_waysTo_4, rfl⟩ (lv' := [(6, .int (0 : Int32)), (5, .int (0 : Int32)), (0, .ref (ad 16)), (1, .int x1), (2, .long x2), (4, .int x4)]) (by decide) rfl ?_
  refine jn1_of (P := fun (x5_1 : Int32) => G l D X 9 (WC ad cy) 0 0 h 70 [(5, .int x5_1)] []) E ?_ ?_
  · intro x5_1 E
    show G l D X 9 (WC ad cy) 0 0 h 70 [(5, .int x5_1)] []
    refine g_iload (pc' := 72) O ⟨dX2_waysTo_70, rfl⟩ (q := 0) rfl ?_
    cases E
    exact hret _ _ _ ⟨dX2_waysTo_72, rfl⟩ rfl
  · intro k70 hk70 E
    refine g_sub (lv' := [(0, .ref (ad 16)), (1, .int x1), (2, .long x2), (4, .int x4), (5, .int (0 : Int32)), (6, .int (0 : Int32))]) [2, 3, 4, 5, 1, 0] rfl ?_
    refine fx2_of (P := fun (x5_2 : Int32) (x6_3 : Int32) => G l D X 9 (WC ad cy) 0 0 h 6 [(0, .ref (ad 16)), (1, .int x1), (2, .long x2), (4, .int x4), (5, .int x5_2), (6, .int x6_3)] []) ?_ _ _ _ E
    intro self ih6 x5_2 x6_3 E
    show G l D X 9 (WC ad cy) 0 0 h 6 [(0, .ref (ad 16)), (1, .int x1), (2, .long x2), (4, .int x4), (5, .int x5_2), (6, .int x6_3)] []
    unfold L_X2_waysTo_16_6 at E
    refine g_iload (pc' := 8) O ⟨dX2_waysTo_6, rfl⟩ (q := 5) rfl ?_
    refine g_iload (pc' := 10) O ⟨dX2_waysTo_8, rfl⟩ (q := 3) rfl ?_
    refine g_icmp_ge (pc' := 13) O ⟨dX2_waysTo_10, rfl⟩ E (tgt := 70) (by decide) (fun E => ?_) (fun E => ?_)
    · refine g_sub (lv' := [(5, .int x5_2)]) [4] rfl ?_
      exact hk70 _ E
    · refine g_iload_n (pc' := 14) O ⟨dX2_waysTo_13, rfl⟩ (q := 1) rfl rfl ?_
      refine g_iconst (pc' := 15) O ⟨dX2_waysTo_14, rfl⟩ (v := (1 : Int32)) rfl ?_
      refine g_iload (pc' := 17) O ⟨dX2_waysTo_15, rfl⟩ (q := 5) rfl ?_
      refine g_ishl (pc' := 18) O ⟨dX2_waysTo_17, rfl⟩ ?_
      refine g_iconst (pc' := 19) O ⟨dX2_waysTo_18, rfl⟩ (v := (-1 : Int32)) rfl ?_
      refine g_ixor (pc' := 20) O ⟨dX2_waysTo_19, rfl⟩ ?_
      refine g_iand (pc' := 21) O ⟨dX2_waysTo_20, rfl⟩ ?_
      refine g_nm E (fun y7_4 E => ?_)
      refine g_istore (pc' := 23) O ⟨dX2_waysTo_21, rfl⟩ (lv' := [(7, .int y7_4), (0, .ref (ad 16)), (1, .int x1), (2, .long x2), (4, .int x4), (5, .int x5_2), (6, .int x6_3)]) (by decide) rfl ?_
      refine g_lload_n (pc' := 24) O ⟨dX2_waysTo_23, rfl⟩ (q := 3) rfl rfl ?_
      refine g_bipush (pc' := 26) O ⟨dX2_waysTo_24, rfl⟩ (v := (6 : Int32)) rfl ?_
      refine g_iload (pc' := 28) O ⟨dX2_waysTo_26, rfl⟩ (q := 6) rfl ?_
      refine g_imul (pc' := 29) O ⟨dX2_waysTo_28, rfl⟩ ?_
      refine g_lushr (pc' := 30) O ⟨dX2_waysTo_29, rfl⟩ ?_
      refine g_l2i (pc' := 31) O ⟨dX2_waysTo_30, rfl⟩ ?_
      refine g_bipush (pc' := 33) O ⟨dX2_waysTo_31, rfl⟩ (v := (63 : Int32)) rfl ?_
      refine g_iand (pc' := 34) O ⟨dX2_waysTo_33, rfl⟩ ?_
      refine g_nm E (fun y8_5 E => ?_)
      refine g_istore (pc' := 36) O ⟨dX2_waysTo_34, rfl⟩ (lv' := [(8, .int y8_5), (7, .int y7_4), (0, .ref (ad 16)), (1, .int x1), (2, .long x2), (4, .int x4), (5, .int x5_2), (6, .int x6_3)]) (by decide) rfl ?_
      refine g_iload (pc' := 38) O ⟨dX2_waysTo_36, rfl⟩ (q := 1) rfl ?_
      refine g_iload_n (pc' := 39) O ⟨dX2_waysTo_38, rfl⟩ (q := 3) rfl rfl ?_
      refine g_icmp_eq (pc' := 42) O ⟨dX2_waysTo_39, rfl⟩ E (tgt := 64) (by decide) (fun E => ?_) (fun E => ?_)
      · refine g_iinc (pc' := 67) O ⟨dX2_waysTo_64, rfl⟩ (q := 7) (v := x6_3 + (1 : Int32)) (lv' := [(6, .int (x6_3 + (1 : Int32))), (8, .int y8_5), (7, .int y7_4), (0, .ref (ad 16)), (1, .int x1), (2, .long x2), (4, .int x4), (5, .int x5_2)]) rfl rfl (by decide) rfl ?_
        refine g_goto (pc' := 70) O ⟨dX2_waysTo_67, rfl⟩ (tgt := 6) (by decide) ?_
        refine g_sub (lv' := [(0, .ref (ad 16)), (1, .int x1), (2, .long x2), (4, .int x4), (5, .int x5_2), (6, .int (x6_3 + (1 : Int32)))]) [3, 4, 5, 6, 7, 0] rfl ?_
        exact ih6 _ _ E
      · refine g_iload (pc' := 44) O ⟨dX2_waysTo_42, rfl⟩ (q := 0) rfl ?_
        refine g_iload (pc' := 46) O ⟨dX2_waysTo_44, rfl⟩ (q := 1) rfl ?_
        refine g_iconst (pc' := 47) O ⟨dX2_waysTo_46, rfl⟩ (v := (-1 : Int32)) rfl ?_
        refine g_ixor (pc' := 48) O ⟨dX2_waysTo_47, rfl⟩ ?_
        refine g_iand (pc' := 49) O ⟨dX2_waysTo_48, rfl⟩ ?_
        refine g_if_ne (pc' := 52) O ⟨dX2_waysTo_49, rfl⟩ E (tgt := 64) (by decide) (fun E => ?_) (fun E => ?_)
        · refine g_iinc (pc' := 67) O ⟨dX2_waysTo_64, rfl⟩ (q := 7) (v := x6_3 + (1 : Int32)) (lv' := [(6, .int (x6_3 + (1 : Int32))), (8, .int y8_5), (7, .int y7_4), (0, .ref (ad 16)), (1, .int x1), (2, .long x2), (4, .int x4), (5, .int x5_2)]) rfl rfl (by decide) rfl ?_
          refine g_goto (pc' := 70) O ⟨dX2_waysTo_67, rfl⟩ (tgt := 6) (by decide) ?_
          refine g_sub (lv' := [(0, .ref (ad 16)), (1, .int x1), (2, .long x2), (4, .int x4), (5, .int x5_2), (6, .int (x6_3 + (1 : Int32)))]) [3, 4, 5, 6, 7, 0] rfl ?_
          exact ih6 _ _ E
        · refine g_iload (pc' := 54) O ⟨dX2_waysTo_52, rfl⟩ (q := 6) rfl ?_
          refine g_aload_n (pc' := 55) O ⟨dX2_waysTo_54, rfl⟩ (q := 2) rfl rfl ?_
          refine gf_C_RX2_9_16 ad cy (pc' := 58) O ⟨dX2_waysTo_55, rfl⟩ ?_
          refine g_iload (pc' := 60) O ⟨dX2_waysTo_58, rfl⟩ (q := 1) rfl ?_
          refine g_iald (pc' := 61) O ⟨dX2_waysTo_60, rfl⟩ (wC_17 ad cy h) E (fun E => ?_)
          refine g_iadd (pc' := 62) O ⟨dX2_waysTo_61, rfl⟩ ?_
          refine g_nm E (fun y5_6 E => ?_)
          refine g_istore (pc' := 64) O ⟨dX2_waysTo_62, rfl⟩ (lv' := [(5, .int y5_6), (8, .int y8_5), (7, .int y7_4), (0, .ref (ad 16)), (1, .int x1), (2, .long x2), (4, .int x4), (6, .int x6_3)]) (by decide) rfl ?_
          refine g_iinc (pc' := 67) O ⟨dX2_waysTo_64, rfl⟩ (q := 7) (v := x6_3 + (1 : Int32)) (lv' := [(6, .int (x6_3 + (1 : Int32))), (5, .int y5_6), (8, .int y8_5), (7, .int y7_4), (0, .ref (ad 16)), (1, .int x1), (2, .long x2), (4, .int x4)]) rfl rfl (by decide) rfl ?_
          refine g_goto (pc' := 70) O ⟨dX2_waysTo_67, rfl⟩ (tgt := 6) (by decide) ?_
          refine g_sub (lv' := [(0, .ref (ad 16)), (1, .int x1), (2, .long x2), (4, .int x4), (5, .int y5_6), (6, .int (x6_3 + (1 : Int32)))]) [4, 5, 6, 7, 1, 0] rfl ?_
          exact ih6 _ _ E
set_option maxRecDepth 100000 in
set_option maxHeartbeats 4000000 in
theorem t_X2_countOf_16 (l : Launch) (D : va_G) (ad : Nat → Nat) (cy : Nat → ClassId) {h : Hp} {x1 : Int64} {x3 : Int64} {x5 : Int32} {o : Int32 × Hp} (E : f_X2_countOf_16 h x1 x3 x5 = some o) : CtI l D cy (WC ad cy) yX2_countOf cX2_countOf 8 .int 1 28 [.ref (ad 16), .long x1, .long x3, .int x5] h o.1 o.2 := by
  refine sI (own := RX2) rfl rfl (Nat.le_of_ble_eq_true rfl) (fun X O hret => ?_)
  show G l D X 8 (WC ad cy) 0 0 h 0 [(0, .ref (ad 16)), (1, .long x1), (3, .long x3), (5, .int x5)] []
  unfold f_X2_countOf_16 at E
  refine g_iconst (pc' := 1) O ⟨dX2_countOf_0, rfl⟩ (v := (1 : Int32)) rfl ?_
  refine g_iload (pc' := 3) O ⟨dX2_countOf_1, rfl⟩ (q := 3) rfl ?_
  refine g_ishl (pc' := 4) O ⟨dX2_countOf_3, rfl⟩ ?_
  refine g_iconst (pc' := 5) O ⟨dX2_countOf_4, rfl⟩ (v := (1 : Int32)) rfl ?_
  refine g_isub (pc' := 6) O ⟨dX2_countOf_5, rfl⟩ ?_
  refine g_nm E (fun y6_1 E => ?_)
  refine g_istore (pc' := 8) O ⟨dX2_countOf_6, rfl⟩ (lv' := [(6, .int y6_1), (0, .ref (ad 16)), (1, .long x1), (3, .long x3), (5, .int x5)]) (by decide) rfl ?_
  refine g_aload_n (pc' := 9) O ⟨dX2_countOf_8, rfl⟩ (q := 1) rfl rfl ?_
  refine gf_C_RX2_9_16 ad cy (pc' := 12) O ⟨dX2_countOf_9, rfl⟩ ?_
  refine g_iconst (pc' := 13) O ⟨dX2_countOf_12, rfl⟩ (v := (0 : Int32)) rfl ?_
  refine g_iconst (pc' := 14) O ⟨dX2_countOf_13, rfl⟩ (v := (1 : Int32)) rfl ?_
  refine g_iast (pc' := 15) O ⟨dX2_countOf_14, rfl⟩ (wC_17 ad cy h) (vC_17 ad cy h _) E (fun E => ?_)
  refine g_nmh E (fun h_2 E => ?_)
  refine g_iconst (pc' := 16) O ⟨dX2_countOf_15, rfl⟩ (v := (1 : Int32)) rfl ?_
  refine g_istore (pc' := 18) O ⟨dX2_countOf_16, rfl⟩ (lv' := [(7, .int (1 : Int32)), (6, .int y6_1), (0, .ref (ad 16)), (1, .long x1), (3, .long x3), (5, .int x5)]) (by decide) rfl ?_
  refine jn1_of (P := fun (h_3 : Hp) => G l D X 8 (WC ad cy) 0 0 h_3 62 [(0, .ref (ad 16)), (6, .int y6_1)] []) E ?_ ?_
  · intro h_3 E
    show G l D X 8 (WC ad cy) 0 0 h_3 62 [(0, .ref (ad 16)), (6, .int y6_1)] []
    refine g_aload_n (pc' := 63) O ⟨dX2_countOf_62, rfl⟩ (q := 0) rfl rfl ?_
    refine gf_C_RX2_9_16 ad cy (pc' := 66) O ⟨dX2_countOf_63, rfl⟩ ?_
    refine g_iload (pc' := 68) O ⟨dX2_countOf_66, rfl⟩ (q := 1) rfl ?_
    refine g_iald (pc' := 69) O ⟨dX2_countOf_68, rfl⟩ (wC_17 ad cy h_3) E (fun E => ?_)
    cases E
    exact hret _ _ _ ⟨dX2_countOf_69, rfl⟩ rfl
  · intro k62 hk62 E
    refine g_sub (lv' := [(0, .ref (ad 16)), (1, .long x1), (3, .long x3), (5, .int x5), (6, .int y6_1), (7, .int (1 : Int32))]) [2, 3, 4, 5, 1, 0] rfl ?_
    refine fx2_of (P := fun (x7_4 : Int32) (h_5 : Hp) => G l D X 8 (WC ad cy) 0 0 h_5 18 [(0, .ref (ad 16)), (1, .long x1), (3, .long x3), (5, .int x5), (6, .int y6_1), (7, .int x7_4)] []) ?_ _ _ _ E
    intro self ih18 x7_4 h_5 E
    show G l D X 8 (WC ad cy) 0 0 h_5 18 [(0, .ref (ad 16)), (1, .long x1), (3, .long x3), (5, .int x5), (6, .int y6_1), (7, .int x7_4)] []
    unfold L_X2_countOf_16_18 at E
    refine g_iload (pc' := 20) O ⟨dX2_countOf_18, rfl⟩ (q := 5) rfl ?_
    refine g_iload (pc' := 22) O ⟨dX2_countOf_20, rfl⟩ (q := 4) rfl ?_
    refine g_icmp_gt (pc' := 25) O ⟨dX2_countOf_22, rfl⟩ E (tgt := 62) (by decide) (fun E => ?_) (fun E => ?_)
    · refine g_sub (lv' := [(0, .ref (ad 16)), (6, .int y6_1)]) [0, 4] rfl ?_
      exact hk62 _ E
    · refine g_aload_n (pc' := 26) O ⟨dX2_countOf_25, rfl⟩ (q := 0) rfl rfl ?_
      refine gf_C_RX2_9_16 ad cy (pc' := 29) O ⟨dX2_countOf_26, rfl⟩ ?_
      refine g_iload (pc' := 31) O ⟨dX2_countOf_29, rfl⟩ (q := 5) rfl ?_
      refine g_lload_n (pc' := 32) O ⟨dX2_countOf_31, rfl⟩ (q := 1) rfl rfl ?_
      refine g_iload (pc' := 34) O ⟨dX2_countOf_32, rfl⟩ (q := 5) rfl ?_
      refine g_lushr (pc' := 35) O ⟨dX2_countOf_34, rfl⟩ ?_
      refine g_lconst (pc' := 36) O ⟨dX2_countOf_35, rfl⟩ (v := (1 : Int64)) rfl ?_
      refine g_land (pc' := 37) O ⟨dX2_countOf_36, rfl⟩ ?_
      refine g_lconst (pc' := 38) O ⟨dX2_countOf_37, rfl⟩ (v := (0 : Int64)) rfl ?_
      refine g_lcmp (pc' := 39) O ⟨dX2_countOf_38, rfl⟩ ?_
      refine g_if_ne (pc' := 42) O ⟨dX2_countOf_39, rfl⟩ E (tgt := 46) (by decide) (fun E => ?_) (fun E => ?_)
      · refine g_aload_n (pc' := 47) O ⟨dX2_countOf_46, rfl⟩ (q := 0) rfl rfl ?_
        refine g_iload (pc' := 49) O ⟨dX2_countOf_47, rfl⟩ (q := 5) rfl ?_
        refine g_lload_n (pc' := 50) O ⟨dX2_countOf_49, rfl⟩ (q := 2) rfl rfl ?_
        refine g_iload (pc' := 52) O ⟨dX2_countOf_50, rfl⟩ (q := 3) rfl ?_
        obtain ⟨r_6, c_7, E⟩ := bd_of E
        refine g_Vi (pc' := 55) O ⟨dX2_countOf_52, rfl⟩ (y := yX2_waysTo) (As := [.int x7_4, .long x3, .int x5]) (st := [.int x7_4, .ref (ad 17)]) (t_X2_waysTo_16 l D ad cy (h := h_5) c_7) kw_400 kw_29 kw_397 kw_399 kw_4 rfl (wC_16 ad cy h_5) hd_X2_waysTo ⟨Nat.le_of_ble_eq_true rfl, Nat.le_of_ble_eq_true rfl⟩ ⟨Nat.le_of_ble_eq_true rfl, Nat.le_of_ble_eq_true rfl⟩ rfl (Nat.le_of_ble_eq_true rfl) ?_
        refine g_iast (pc' := 56) O ⟨dX2_countOf_55, rfl⟩ (wC_17 ad cy h_5) (vC_17 ad cy h_5 _) E (fun E => ?_)
        refine g_nmh E (fun h_8 E => ?_)
        refine g_iinc (pc' := 59) O ⟨dX2_countOf_56, rfl⟩ (q := 5) (v := x7_4 + (1 : Int32)) (lv' := [(7, .int (x7_4 + (1 : Int32))), (0, .ref (ad 16)), (1, .long x1), (3, .long x3), (5, .int x5), (6, .int y6_1)]) rfl rfl (by decide) rfl ?_
        refine g_goto (pc' := 62) O ⟨dX2_countOf_59, rfl⟩ (tgt := 18) (by decide) ?_
        refine g_sub (lv' := [(0, .ref (ad 16)), (1, .long x1), (3, .long x3), (5, .int x5), (6, .int y6_1), (7, .int (x7_4 + (1 : Int32)))]) [1, 2, 3, 4, 5, 0] rfl ?_
        exact ih18 _ _ E
      · refine g_iconst (pc' := 43) O ⟨dX2_countOf_42, rfl⟩ (v := (0 : Int32)) rfl ?_
        refine g_goto (pc' := 46) O ⟨dX2_countOf_43, rfl⟩ (tgt := 55) (by decide) ?_
        refine g_iast (pc' := 56) O ⟨dX2_countOf_55, rfl⟩ (wC_17 ad cy h_5) (vC_17 ad cy h_5 _) E (fun E => ?_)
        refine g_nmh E (fun h_9 E => ?_)
        refine g_iinc (pc' := 59) O ⟨dX2_countOf_56, rfl⟩ (q := 5) (v := x7_4 + (1 : Int32)) (lv' := [(7, .int (x7_4 + (1 : Int32))), (0, .ref (ad 16)), (1, .long x1), (3, .long x3), (5, .int x5), (6, .int y6_1)]) rfl rfl (by decide) rfl ?_
        refine g_goto (pc' := 62) O ⟨dX2_countOf_59, rfl⟩ (tgt := 18) (by decide) ?_
        refine g_sub (lv' := [(0, .ref (ad 16)), (1, .long x1), (3, .long x3), (5, .int x5), (6, .int y6_1), (7, .int (x7_4 + (1 : Int32)))]) [1, 2, 3, 4, 5, 0] rfl ?_
        exact ih18 _ _ E
set_option maxRecDepth 100000 in
set_option maxHeartbeats 4000000 in
theorem t_X4_sortedCount_13_1 (l : Launch) (D : va_G) (ad : Nat → Nat) (cy : Nat → ClassId) {h : Hp}  {o : Int32 × Hp} (E : f_X4_sortedCount_13_1 h = some o) : CtI l D cy (WC ad cy) yX4_sortedCount cX4_sortedCount 2 .int 4 86 [.ref (ad 13), .ref (ad 1)] h o.1 o.2 := by
  refine sI (own := RX4) rfl rfl (Nat.le_of_ble_eq_true rfl) (fun X O hret => ?_)
  show G l D X 2 (WC ad cy) 0 0 h 0 [(0, .ref (ad 13)), (1, .ref (ad 1))] []
  unfold f_X4_sortedCount_13_1 at E
  refine g_aload_n (pc' := 1) O ⟨dX4_sortedCount_0, rfl⟩ (q := 0) rfl rfl ?_
  refine gf_C_RX4_21_13 ad cy (pc' := 4) O ⟨dX4_sortedCount_1, rfl⟩ ?_
  refine g_aload_n (pc' := 5) O ⟨dX4_sortedCount_4, rfl⟩ (q := 0) rfl rfl ?_
  refine g_aload_n (pc' := 6) O ⟨dX4_sortedCount_5, rfl⟩ (q := 1) rfl rfl ?_
  obtain ⟨r_1, c_2, E⟩ := bd_of E
  refine g_Vl (pc' := 9) O ⟨dX4_sortedCount_6, rfl⟩ (y := yX4_unsortedFrom) (As := [.ref (ad 1)]) (st := [.ref (ad 16)]) (t_X4_unsortedFrom_13_1 l D ad cy (h := h) c_2) kw_746 kw_28 kw_766 kw_744 kw_745 rfl (wC_13 ad cy h) hd_X4_unsortedFrom ⟨Nat.le_of_ble_eq_true rfl, Nat.le_of_ble_eq_true rfl⟩ ⟨Nat.le_of_ble_eq_true rfl, Nat.le_of_ble_eq_true rfl⟩ rfl (Nat.le_of_ble_eq_true rfl) ?_
  refine g_ldc2 (pc' := 12) O ⟨dX4_sortedCount_9, rfl⟩ kw_596 ?_
  refine g_lxor (pc' := 13) O ⟨dX4_sortedCount_12, rfl⟩ ?_
  refine g_lconst (pc' := 14) O ⟨dX4_sortedCount_13, rfl⟩ (v := (0 : Int64)) rfl ?_
  refine g_aload_n (pc' := 15) O ⟨dX4_sortedCount_14, rfl⟩ (q := 1) rfl rfl ?_
  refine gf_C_RX4_34_1 ad cy (pc' := 18) O ⟨dX4_sortedCount_15, rfl⟩ ?_
  obtain ⟨r_3, c_4, E⟩ := bd_of E
  refine g_Vi (pc' := 21) O ⟨dX4_sortedCount_18, rfl⟩ (y := yX2_countOf) (As := [.long (r_1.1 ^^^ (-1 : Int64)), .long (0 : Int64), .int (r_1.2.1 1 0)]) (st := []) (t_X2_countOf_16 l D ad cy (h := r_1.2) c_4) kw_396 kw_29 kw_775 kw_394 kw_395 rfl (wC_16 ad cy r_1.2) hd_X2_countOf ⟨Nat.le_of_ble_eq_true rfl, Nat.le_of_ble_eq_true rfl⟩ ⟨Nat.le_of_ble_eq_true rfl, Nat.le_of_ble_eq_true rfl⟩ rfl (Nat.le_of_ble_eq_true rfl) ?_
  cases E
  exact hret _ _ _ ⟨dX4_sortedCount_21, rfl⟩ rfl
set_option maxRecDepth 100000 in
set_option maxHeartbeats 4000000 in
theorem t_X10_sorted (l : Launch) (D : va_G) (ad : Nat → Nat) (cy : Nat → ClassId) {h : Hp}  {o : Int32 × Hp} (E : f_X10_sorted h = some o) : CtI l D cy (WC ad cy) yX10_sorted cX10_sorted 1 .int 5 107 [.ref (ad 0)] h o.1 o.2 := by
  refine sI (own := RX10) rfl rfl (Nat.le_of_ble_eq_true rfl) (fun X O hret => ?_)
  show G l D X 1 (WC ad cy) 0 0 h 0 [(0, .ref (ad 0))] []
  unfold f_X10_sorted at E
  refine g_aload_n (pc' := 1) O ⟨dX10_sorted_0, rfl⟩ (q := 0) rfl rfl ?_
  refine gf_C_RX10_29_0 ad cy (pc' := 4) O ⟨dX10_sorted_1, rfl⟩ ?_
  refine g_aload_n (pc' := 5) O ⟨dX10_sorted_4, rfl⟩ (q := 0) rfl rfl ?_
  refine gf_C_RX10_10_0 ad cy (pc' := 8) O ⟨dX10_sorted_5, rfl⟩ ?_
  obtain ⟨r_1, c_2, E⟩ := bd_of E
  refine g_Vi (pc' := 11) O ⟨dX10_sorted_8, rfl⟩ (y := yX4_sortedCount) (As := [.ref (ad 1)]) (st := []) (t_X4_sortedCount_13_1 l D ad cy (h := h) c_2) kw_774 kw_28 kw_771 kw_772 kw_773 rfl (wC_13 ad cy h) hd_X4_sortedCount ⟨Nat.le_of_ble_eq_true rfl, Nat.le_of_ble_eq_true rfl⟩ ⟨Nat.le_of_ble_eq_true rfl, Nat.le_of_ble_eq_true rfl⟩ rfl (Nat.le_of_ble_eq_true rfl) ?_
  cases E
  exact hret _ _ _ ⟨dX10_sorted_11, rfl⟩ rfl
set_option maxRecDepth 100000 in
set_option maxHeartbeats 4000000 in
theorem t_X4_rowIn (l : Launch) (D : va_G) (ad : Nat → Nat) (cy : Nat → ClassId) {h : Hp} {x0 : Int64} {x2 : Int32} {o : Int32} (E : f_X4_rowIn x0 x2 = some o) : CtI l D cy (WC ad cy) yX4_rowIn cX4_rowIn 5 .int 0 0 [.long x0, .int x2] h o h := by
  refine sI (own := RX4) rfl rfl (Nat.le_of_ble_eq_true rfl) (fun X O hret => ?_)
  show G l D X 5 (WC ad cy) 0 0 h 0 [(0, .long x0), (2, .int x2)] []
  unfold f_X4_rowIn at E
  refine g_iconst (pc' := 1) O ⟨dX4_rowIn_0, rfl⟩ (v := (0 : Int32)) rfl ?_
  refine g_istore_n (pc' := 2) O ⟨dX4_rowIn_1, rfl⟩ (lv' := [(3, .int (0 : Int32)), (0, .long x0), (2, .int x2)]) rfl (by decide) rfl ?_
  refine g_iconst (pc' := 3) O ⟨dX4_rowIn_2, rfl⟩ (v := (0 : Int32)) rfl ?_
  refine g_istore (pc' := 5) O ⟨dX4_rowIn_3, rfl⟩ (lv' := [(4, .int (0 : Int32)), (3, .int (0 : Int32)), (0, .long x0), (2, .int x2)]) (by decide) rfl ?_
  refine jn0_of (P := G l D X 5 (WC ad cy) 0 0 h 40 [] []) E ?_ ?_
  · intro E
    show G l D X 5 (WC ad cy) 0 0 h 40 [] []
    refine g_iconst (pc' := 41) O ⟨dX4_rowIn_40, rfl⟩ (v := (-1 : Int32)) rfl ?_
    cases E
    exact hret _ _ _ ⟨dX4_rowIn_41, rfl⟩ rfl
  · intro k40 hk40 E
    refine jn1_of (P := fun (x4_1 : Int32) => G l D X 5 (WC ad cy) 0 0 h 28 [(4, .int x4_1)] []) E ?_ ?_
    · intro x4_1 E
      show G l D X 5 (WC ad cy) 0 0 h 28 [(4, .int x4_1)] []
      refine g_iload (pc' := 30) O ⟨dX4_rowIn_28, rfl⟩ (q := 0) rfl ?_
      cases E
      exact hret _ _ _ ⟨dX4_rowIn_30, rfl⟩ rfl
    · intro k28 hk28 E
      refine g_sub (lv' := [(0, .long x0), (2, .int x2), (3, .int (0 : Int32)), (4, .int (0 : Int32))]) [2, 3, 1, 0] rfl ?_
      refine fx2_of (P := fun (x3_2 : Int32) (x4_3 : Int32) => G l D X 5 (WC ad cy) 0 0 h 5 [(0, .long x0), (2, .int x2), (3, .int x3_2), (4, .int x4_3)] []) ?_ _ _ _ E
      intro self ih5 x3_2 x4_3 E
      show G l D X 5 (WC ad cy) 0 0 h 5 [(0, .long x0), (2, .int x2), (3, .int x3_2), (4, .int x4_3)] []
      unfold L_X4_rowIn_5 at E
      refine g_iload (pc' := 7) O ⟨dX4_rowIn_5, rfl⟩ (q := 3) rfl ?_
      refine g_bipush (pc' := 9) O ⟨dX4_rowIn_7, rfl⟩ (v := (64 : Int32)) rfl ?_
      refine g_icmp_ge (pc' := 12) O ⟨dX4_rowIn_9, rfl⟩ E (tgt := 40) (by decide) (fun E => ?_) (fun E => ?_)
      · refine g_sub (lv' := []) [] rfl ?_
        exact hk40 E
      · refine g_lload_n (pc' := 13) O ⟨dX4_rowIn_12, rfl⟩ (q := 0) rfl rfl ?_
        refine g_iload (pc' := 15) O ⟨dX4_rowIn_13, rfl⟩ (q := 3) rfl ?_
        refine g_lushr (pc' := 16) O ⟨dX4_rowIn_15, rfl⟩ ?_
        refine g_lconst (pc' := 17) O ⟨dX4_rowIn_16, rfl⟩ (v := (1 : Int64)) rfl ?_
        refine g_land (pc' := 18) O ⟨dX4_rowIn_17, rfl⟩ ?_
        refine g_lconst (pc' := 19) O ⟨dX4_rowIn_18, rfl⟩ (v := (0 : Int64)) rfl ?_
        refine g_lcmp (pc' := 20) O ⟨dX4_rowIn_19, rfl⟩ ?_
        refine g_if_eq (pc' := 23) O ⟨dX4_rowIn_20, rfl⟩ E (tgt := 34) (by decide) (fun E => ?_) (fun E => ?_)
        · refine g_iinc (pc' := 37) O ⟨dX4_rowIn_34, rfl⟩ (q := 3) (v := x4_3 + (1 : Int32)) (lv' := [(4, .int (x4_3 + (1 : Int32))), (0, .long x0), (2, .int x2), (3, .int x3_2)]) rfl rfl (by decide) rfl ?_
          refine g_goto (pc' := 40) O ⟨dX4_rowIn_37, rfl⟩ (tgt := 5) (by decide) ?_
          refine g_sub (lv' := [(0, .long x0), (2, .int x2), (3, .int x3_2), (4, .int (x4_3 + (1 : Int32)))]) [1, 2, 3, 0] rfl ?_
          exact ih5 _ _ E
        · refine g_iload_n (pc' := 24) O ⟨dX4_rowIn_23, rfl⟩ (q := 2) rfl rfl ?_
          refine g_iload_n (pc' := 25) O ⟨dX4_rowIn_24, rfl⟩ (q := 1) rfl rfl ?_
          refine g_icmp_ne (pc' := 28) O ⟨dX4_rowIn_25, rfl⟩ E (tgt := 31) (by decide) (fun E => ?_) (fun E => ?_)
          · refine g_iinc (pc' := 34) O ⟨dX4_rowIn_31, rfl⟩ (q := 2) (v := x3_2 + (1 : Int32)) (lv' := [(3, .int (x3_2 + (1 : Int32))), (0, .long x0), (2, .int x2), (4, .int x4_3)]) rfl rfl (by decide) rfl ?_
            refine g_iinc (pc' := 37) O ⟨dX4_rowIn_34, rfl⟩ (q := 3) (v := x4_3 + (1 : Int32)) (lv' := [(4, .int (x4_3 + (1 : Int32))), (3, .int (x3_2 + (1 : Int32))), (0, .long x0), (2, .int x2)]) rfl rfl (by decide) rfl ?_
            refine g_goto (pc' := 40) O ⟨dX4_rowIn_37, rfl⟩ (tgt := 5) (by decide) ?_
            refine g_sub (lv' := [(0, .long x0), (2, .int x2), (3, .int (x3_2 + (1 : Int32))), (4, .int (x4_3 + (1 : Int32)))]) [2, 3, 1, 0] rfl ?_
            exact ih5 _ _ E
          · refine g_sub (lv' := [(4, .int x4_3)]) [3] rfl ?_
            exact hk28 _ E
set_option maxRecDepth 100000 in
set_option maxHeartbeats 4000000 in
theorem t_X4_canFinish_14 (l : Launch) (D : va_G) (ad : Nat → Nat) (cy : Nat → ClassId) : ∀ (d : Nat) {h : Hp} {x1 : Int32} {x2 : Int32}{o : Int32 × Hp}, f_X4_canFinish_14 d h x1 x2 = some o → CtI l D cy (WC ad cy) yX4_canFinish cX4_canFinish 10 .boolean (1 + d) (26 + d * 29) [.ref (ad 14), .int x1, .int x2] h o.1 o.2 := by
  intro d
  induction d with
  | zero => intro h x1 x2 o E; cases E
  | succ d ihd =>
    intro h x1 x2 o E
    refine sI (own := RX4) rfl rfl (Nat.le_of_ble_eq_true rfl) (fun X O hret => ?_)
    show G l D X 10 (WC ad cy) 0 0 h 0 [(0, .ref (ad 14)), (1, .int x1), (2, .int x2)] []
    unfold f_X4_canFinish_14 at E
    refine g_aload_n (pc' := 1) O ⟨dX4_canFinish_0, rfl⟩ (q := 0) rfl rfl ?_
    refine g_iload_n (pc' := 2) O ⟨dX4_canFinish_1, rfl⟩ (q := 1) rfl rfl ?_
    obtain ⟨r_1, c_2, E⟩ := bd_of E
    refine g_Sl (pc' := 5) O ⟨dX4_canFinish_2, rfl⟩ (y := yX4_unsortedIn) (As := [.ref (ad 14), .int x1]) (st := []) (t_X4_unsortedIn_14 l D ad cy (h := h) c_2) kw_749 kw_28 kw_747 kw_748 hd_X4_unsortedIn ⟨by simp only [RM]; omega, by simp only [RM]; omega⟩ ⟨Nat.le_of_ble_eq_true rfl, Nat.le_of_ble_eq_true rfl⟩ rfl (Nat.le_of_ble_eq_true rfl) ?_
    refine g_lconst (pc' := 6) O ⟨dX4_canFinish_5, rfl⟩ (v := (0 : Int64)) rfl ?_
    refine g_lcmp (pc' := 7) O ⟨dX4_canFinish_6, rfl⟩ ?_
    refine g_if_ne (pc' := 10) O ⟨dX4_canFinish_7, rfl⟩ E (tgt := 12) (by decide) (fun E => ?_) (fun E => ?_)
    · refine g_iload_n (pc' := 13) O ⟨dX4_canFinish_12, rfl⟩ (q := 2) rfl rfl ?_
      refine g_if_gt (pc' := 16) O ⟨dX4_canFinish_13, rfl⟩ E (tgt := 18) (by decide) (fun E => ?_) (fun E => ?_)
      · refine g_iconst (pc' := 19) O ⟨dX4_canFinish_18, rfl⟩ (v := (0 : Int32)) rfl ?_
        refine g_istore_n (pc' := 20) O ⟨dX4_canFinish_19, rfl⟩ (lv' := [(3, .int (0 : Int32)), (0, .ref (ad 14)), (1, .int x1), (2, .int x2)]) rfl (by decide) rfl ?_
        refine g_iconst (pc' := 21) O ⟨dX4_canFinish_20, rfl⟩ (v := (0 : Int32)) rfl ?_
        refine g_istore (pc' := 23) O ⟨dX4_canFinish_21, rfl⟩ (lv' := [(4, .int (0 : Int32)), (3, .int (0 : Int32)), (0, .ref (ad 14)), (1, .int x1), (2, .int x2)]) (by decide) rfl ?_
        refine jn2_of (P := fun (x3_3 : Int32) (h_4 : Hp) => G l D X 10 (WC ad cy) 0 0 h_4 116 [(3, .int x3_3)] []) E ?_ ?_
        · intro x3_3 h_4 E
          show G l D X 10 (WC ad cy) 0 0 h_4 116 [(3, .int x3_3)] []
          refine g_iload_n (pc' := 117) O ⟨dX4_canFinish_116, rfl⟩ (q := 0) rfl rfl ?_
          obtain ⟨hn, E⟩ := ckz_of E
          cases E
          exact hret _ _ _ ⟨dX4_canFinish_117, rfl⟩ hn
        · intro k116 hk116 E
          refine g_sub (lv' := [(0, .ref (ad 14)), (1, .int x1), (2, .int x2), (3, .int (0 : Int32)), (4, .int (0 : Int32))]) [2, 3, 4, 1, 0] rfl ?_
          refine fx3_of (P := fun (x3_5 : Int32) (x4_6 : Int32) (h_7 : Hp) => G l D X 10 (WC ad cy) 0 0 h_7 23 [(0, .ref (ad 14)), (1, .int x1), (2, .int x2), (3, .int x3_5), (4, .int x4_6)] []) ?_ _ _ _ _ E
          intro self ih23 x3_5 x4_6 h_7 E
          show G l D X 10 (WC ad cy) 0 0 h_7 23 [(0, .ref (ad 14)), (1, .int x1), (2, .int x2), (3, .int x3_5), (4, .int x4_6)] []
          unfold L_X4_canFinish_14_23 at E
          refine g_iload (pc' := 25) O ⟨dX4_canFinish_23, rfl⟩ (q := 4) rfl ?_
          refine g_iload_n (pc' := 26) O ⟨dX4_canFinish_25, rfl⟩ (q := 1) rfl rfl ?_
          refine g_icmp_ge (pc' := 29) O ⟨dX4_canFinish_26, rfl⟩ E (tgt := 116) (by decide) (fun E => ?_) (fun E => ?_)
          · refine g_sub (lv' := [(3, .int x3_5)]) [3] rfl ?_
            exact hk116 _ _ E
          · refine g_iload_n (pc' := 30) O ⟨dX4_canFinish_29, rfl⟩ (q := 3) rfl rfl ?_
            refine g_if_ne (pc' := 33) O ⟨dX4_canFinish_30, rfl⟩ E (tgt := 116) (by decide) (fun E => ?_) (fun E => ?_)
            · refine g_sub (lv' := [(3, .int x3_5)]) [3] rfl ?_
              exact hk116 _ _ E
            · refine g_iload (pc' := 35) O ⟨dX4_canFinish_33, rfl⟩ (q := 4) rfl ?_
              refine g_iconst (pc' := 36) O ⟨dX4_canFinish_35, rfl⟩ (v := (1 : Int32)) rfl ?_
              refine g_iadd (pc' := 37) O ⟨dX4_canFinish_36, rfl⟩ ?_
              refine g_nm E (fun y5_8 E => ?_)
              refine g_istore (pc' := 39) O ⟨dX4_canFinish_37, rfl⟩ (lv' := [(5, .int y5_8), (0, .ref (ad 14)), (1, .int x1), (2, .int x2), (3, .int x3_5), (4, .int x4_6)]) (by decide) rfl ?_
              refine jn2_of (P := fun (x3_9 : Int32) (h_10 : Hp) => G l D X 10 (WC ad cy) 0 0 h_10 110 [(0, .ref (ad 14)), (1, .int x1), (2, .int x2), (3, .int x3_9), (4, .int x4_6)] []) E ?_ ?_
              · intro x3_9 h_10 E
                show G l D X 10 (WC ad cy) 0 0 h_10 110 [(0, .ref (ad 14)), (1, .int x1), (2, .int x2), (3, .int x3_9), (4, .int x4_6)] []
                refine g_iinc (pc' := 113) O ⟨dX4_canFinish_110, rfl⟩ (q := 4) (v := x4_6 + (1 : Int32)) (lv' := [(4, .int (x4_6 + (1 : Int32))), (0, .ref (ad 14)), (1, .int x1), (2, .int x2), (3, .int x3_9)]) rfl rfl (by decide) rfl ?_
                refine g_goto (pc' := 116) O ⟨dX4_canFinish_113, rfl⟩ (tgt := 23) (by decide) ?_
                refine g_sub (lv' := [(0, .ref (ad 14)), (1, .int x1), (2, .int x2), (3, .int x3_9), (4, .int (x4_6 + (1 : Int32)))]) [1, 2, 3, 4, 0] rfl ?_
                exact ih23 _ _ _ E
              · intro k110 hk110 E
                refine g_sub (lv' := [(0, .ref (ad 14)), (1, .int x1), (2, .int x2), (3, .int x3_5), (4, .int x4_6), (5, .int y5_8)]) [1, 2, 3, 4, 5, 0] rfl ?_
                refine fx3_of (P := fun (x3_11 : Int32) (x5_12 : Int32) (h_13 : Hp) => G l D X 10 (WC ad cy) 0 0 h_13 39 [(0, .ref (ad 14)), (1, .int x1), (2, .int x2), (3, .int x3_11), (4, .int x4_6), (5, .int x5_12)] []) ?_ _ _ _ _ E
                intro self ih39 x3_11 x5_12 h_13 E
                show G l D X 10 (WC ad cy) 0 0 h_13 39 [(0, .ref (ad 14)), (1, .int x1), (2, .int x2), (3, .int x3_11), (4, .int x4_6), (5, .int x5_12)] []
                unfold L_X4_canFinish_14_39 at E
                refine g_iload (pc' := 41) O ⟨dX4_canFinish_39, rfl⟩ (q := 5) rfl ?_
                refine g_iload_n (pc' := 42) O ⟨dX4_canFinish_41, rfl⟩ (q := 1) rfl rfl ?_
                refine g_icmp_ge (pc' := 45) O ⟨dX4_canFinish_42, rfl⟩ E (tgt := 110) (by decide) (fun E => ?_) (fun E => ?_)
                · refine g_sub (lv' := [(0, .ref (ad 14)), (1, .int x1), (2, .int x2), (3, .int x3_11), (4, .int x4_6)]) [0, 1, 2, 3, 4] rfl ?_
                  exact hk110 _ _ E
                · refine g_iload_n (pc' := 46) O ⟨dX4_canFinish_45, rfl⟩ (q := 3) rfl rfl ?_
                  refine g_if_ne (pc' := 49) O ⟨dX4_canFinish_46, rfl⟩ E (tgt := 110) (by decide) (fun E => ?_) (fun E => ?_)
                  · refine g_sub (lv' := [(0, .ref (ad 14)), (1, .int x1), (2, .int x2), (3, .int x3_11), (4, .int x4_6)]) [0, 1, 2, 3, 4] rfl ?_
                    exact hk110 _ _ E
                  · refine g_aload_n (pc' := 50) O ⟨dX4_canFinish_49, rfl⟩ (q := 0) rfl rfl ?_
                    refine g_iload (pc' := 52) O ⟨dX4_canFinish_50, rfl⟩ (q := 4) rfl ?_
                    refine g_lald (pc' := 53) O ⟨dX4_canFinish_52, rfl⟩ (wC_14 ad cy h_13) E (fun E => ?_)
                    refine g_lstore (pc' := 55) O ⟨dX4_canFinish_53, rfl⟩ (lv' := [(6, .long (h_13.2 14 x4_6.toNatClampNeg)), (0, .ref (ad 14)), (1, .int x1), (2, .int x2), (3, .int x3_11), (4, .int x4_6), (5, .int x5_12)]) (by decide) rfl ?_
                    refine g_aload_n (pc' := 56) O ⟨dX4_canFinish_55, rfl⟩ (q := 1) rfl rfl ?_
                    refine g_iload (pc' := 58) O ⟨dX4_canFinish_56, rfl⟩ (q := 6) rfl ?_
                    refine g_lald (pc' := 59) O ⟨dX4_canFinish_58, rfl⟩ (wC_14 ad cy h_13) E (fun E => ?_)
                    refine g_lstore (pc' := 61) O ⟨dX4_canFinish_59, rfl⟩ (lv' := [(8, .long (h_13.2 14 x5_12.toNatClampNeg)), (6, .long (h_13.2 14 x4_6.toNatClampNeg)), (0, .ref (ad 14)), (1, .int x1), (2, .int x2), (3, .int x3_11), (4, .int x4_6), (5, .int x5_12)]) (by decide) rfl ?_
                    refine g_lload (pc' := 63) O ⟨dX4_canFinish_61, rfl⟩ (q := 1) rfl ?_
                    refine g_lload (pc' := 65) O ⟨dX4_canFinish_63, rfl⟩ (q := 0) rfl ?_
                    refine g_ldc2 (pc' := 68) O ⟨dX4_canFinish_65, rfl⟩ kw_596 ?_
                    refine g_lxor (pc' := 69) O ⟨dX4_canFinish_68, rfl⟩ ?_
                    refine g_land (pc' := 70) O ⟨dX4_canFinish_69, rfl⟩ ?_
                    refine g_lconst (pc' := 71) O ⟨dX4_canFinish_70, rfl⟩ (v := (0 : Int64)) rfl ?_
                    refine g_lcmp (pc' := 72) O ⟨dX4_canFinish_71, rfl⟩ ?_
                    refine g_if_eq (pc' := 75) O ⟨dX4_canFinish_72, rfl⟩ E (tgt := 104) (by decide) (fun E => ?_) (fun E => ?_)
                    · refine g_iinc (pc' := 107) O ⟨dX4_canFinish_104, rfl⟩ (q := 7) (v := x5_12 + (1 : Int32)) (lv' := [(5, .int (x5_12 + (1 : Int32))), (8, .long (h_13.2 14 x5_12.toNatClampNeg)), (6, .long (h_13.2 14 x4_6.toNatClampNeg)), (0, .ref (ad 14)), (1, .int x1), (2, .int x2), (3, .int x3_11), (4, .int x4_6)]) rfl rfl (by decide) rfl ?_
                      refine g_goto (pc' := 110) O ⟨dX4_canFinish_107, rfl⟩ (tgt := 39) (by decide) ?_
                      refine g_sub (lv' := [(0, .ref (ad 14)), (1, .int x1), (2, .int x2), (3, .int x3_11), (4, .int x4_6), (5, .int (x5_12 + (1 : Int32)))]) [3, 4, 5, 6, 7, 0] rfl ?_
                      exact ih39 _ _ _ E
                    · refine g_aload_n (pc' := 76) O ⟨dX4_canFinish_75, rfl⟩ (q := 2) rfl rfl ?_
                      refine g_iload (pc' := 78) O ⟨dX4_canFinish_76, rfl⟩ (q := 6) rfl ?_
                      refine g_iload (pc' := 80) O ⟨dX4_canFinish_78, rfl⟩ (q := 7) rfl ?_
                      obtain ⟨r_14, c_15, E⟩ := bd_of E
                      refine g_Sv (pc' := 83) O ⟨dX4_canFinish_80, rfl⟩ (y := yX4_compare) (As := [.ref (ad 14), .int x4_6, .int x5_12]) (st := []) (t_X4_compare_14 l D ad cy (h := h_13) c_15) kw_599 kw_28 kw_597 kw_598 hd_X4_compare ⟨by simp only [RM]; omega, by simp only [RM]; omega⟩ ⟨Nat.le_of_ble_eq_true rfl, Nat.le_of_ble_eq_true rfl⟩ rfl (Nat.le_of_ble_eq_true rfl) ?_
                      refine g_aload_n (pc' := 84) O ⟨dX4_canFinish_83, rfl⟩ (q := 2) rfl rfl ?_
                      refine g_iload_n (pc' := 85) O ⟨dX4_canFinish_84, rfl⟩ (q := 3) rfl rfl ?_
                      refine g_iload_n (pc' := 86) O ⟨dX4_canFinish_85, rfl⟩ (q := 4) rfl rfl ?_
                      refine g_iconst (pc' := 87) O ⟨dX4_canFinish_86, rfl⟩ (v := (1 : Int32)) rfl ?_
                      refine g_isub (pc' := 88) O ⟨dX4_canFinish_87, rfl⟩ ?_
                      obtain ⟨r_16, c_17, E⟩ := bd_of E
                      refine g_Si (pc' := 91) O ⟨dX4_canFinish_88, rfl⟩ (y := yX4_canFinish) (As := [.ref (ad 14), .int x1, .int (x2 - (1 : Int32))]) (st := []) (ihd (h := r_14) c_17) kw_1022 kw_28 kw_1020 kw_1021 hd_X4_canFinish ⟨by simp only [RM]; omega, by simp only [RM]; omega⟩ ⟨Nat.le_of_ble_eq_true rfl, Nat.le_of_ble_eq_true rfl⟩ rfl (Nat.le_of_ble_eq_true rfl) ?_
                      refine g_istore_n (pc' := 92) O ⟨dX4_canFinish_91, rfl⟩ (lv' := [(3, .int r_16.1), (8, .long (h_13.2 14 x5_12.toNatClampNeg)), (6, .long (h_13.2 14 x4_6.toNatClampNeg)), (0, .ref (ad 14)), (1, .int x1), (2, .int x2), (4, .int x4_6), (5, .int x5_12)]) rfl (by decide) rfl ?_
                      refine g_aload_n (pc' := 93) O ⟨dX4_canFinish_92, rfl⟩ (q := 3) rfl rfl ?_
                      refine g_iload (pc' := 95) O ⟨dX4_canFinish_93, rfl⟩ (q := 6) rfl ?_
                      refine g_lload (pc' := 97) O ⟨dX4_canFinish_95, rfl⟩ (q := 2) rfl ?_
                      refine g_last (pc' := 98) O ⟨dX4_canFinish_97, rfl⟩ (wC_14 ad cy r_16.2) (vC_14 ad cy r_16.2 _) E (fun E => ?_)
                      refine g_nmh E (fun h_18 E => ?_)
                      refine g_aload_n (pc' := 99) O ⟨dX4_canFinish_98, rfl⟩ (q := 3) rfl rfl ?_
                      refine g_iload (pc' := 101) O ⟨dX4_canFinish_99, rfl⟩ (q := 7) rfl ?_
                      refine g_lload (pc' := 103) O ⟨dX4_canFinish_101, rfl⟩ (q := 1) rfl ?_
                      refine g_last (pc' := 104) O ⟨dX4_canFinish_103, rfl⟩ (wC_14 ad cy h_18) (vC_14 ad cy h_18 _) E (fun E => ?_)
                      refine g_nmh E (fun h_19 E => ?_)
                      refine g_iinc (pc' := 107) O ⟨dX4_canFinish_104, rfl⟩ (q := 7) (v := x5_12 + (1 : Int32)) (lv' := [(5, .int (x5_12 + (1 : Int32))), (3, .int r_16.1), (8, .long (h_13.2 14 x5_12.toNatClampNeg)), (6, .long (h_13.2 14 x4_6.toNatClampNeg)), (0, .ref (ad 14)), (1, .int x1), (2, .int x2), (4, .int x4_6)]) rfl rfl (by decide) rfl ?_
                      refine g_goto (pc' := 110) O ⟨dX4_canFinish_107, rfl⟩ (tgt := 39) (by decide) ?_
                      refine g_sub (lv' := [(0, .ref (ad 14)), (1, .int x1), (2, .int x2), (3, .int r_16.1), (4, .int x4_6), (5, .int (x5_12 + (1 : Int32)))]) [4, 5, 6, 1, 7, 0] rfl ?_
                      exact ih39 _ _ _ E
      · refine g_iconst (pc' := 17) O ⟨dX4_canFinish_16, rfl⟩ (v := (0 : Int32)) rfl ?_
        obtain ⟨hn, E⟩ := ckz_of E
        cases E
        exact hret _ _ _ ⟨dX4_canFinish_17, rfl⟩ hn
    · refine g_iconst (pc' := 11) O ⟨dX4_canFinish_10, rfl⟩ (v := (1 : Int32)) rfl ?_
      obtain ⟨hn, E⟩ := ckz_of E
      cases E
      exact hret _ _ _ ⟨dX4_canFinish_11, rfl⟩ hn
