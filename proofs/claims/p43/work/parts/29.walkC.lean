/-! WALKS, laid by program: each method does what its pure program says -/
set_option maxRecDepth 100000 in
set_option maxHeartbeats 4000000 in
theorem t_X4_compareBadly_14 (l : Launch) (D : va_G) (ad : Nat → Nat) (cy : Nat → ClassId) {h : Hp} {x1 : Int32} {x2 : Int32} {x3 : Int32} {o : Hp} (E : f_X4_compareBadly_14 h x1 x2 x3 = some o) : CtV l D cy (WC ad cy) yX4_compareBadly cX4_compareBadly 8 0 0 [.ref (ad 14), .int x1, .int x2, .int x3] h o := by
  refine sV (own := RX4) rfl rfl (Nat.le_of_ble_eq_true rfl) (fun X O hret => ?_)
  show G l D X 8 (WC ad cy) 0 0 h 0 [(0, .ref (ad 14)), (1, .int x1), (2, .int x2), (3, .int x3)] []
  unfold f_X4_compareBadly_14 at E
  refine g_aload_n (pc' := 1) O ⟨dX4_compareBadly_0, rfl⟩ (q := 0) rfl rfl ?_
  refine g_iload_n (pc' := 2) O ⟨dX4_compareBadly_1, rfl⟩ (q := 1) rfl rfl ?_
  refine g_lald (pc' := 3) O ⟨dX4_compareBadly_2, rfl⟩ (wC_14 ad cy h) E (fun E => ?_)
  refine g_lstore (pc' := 5) O ⟨dX4_compareBadly_3, rfl⟩ (lv' := [(4, .long (h.2 14 x1.toNatClampNeg)), (0, .ref (ad 14)), (1, .int x1), (2, .int x2), (3, .int x3)]) (by decide) rfl ?_
  refine g_aload_n (pc' := 6) O ⟨dX4_compareBadly_5, rfl⟩ (q := 1) rfl rfl ?_
  refine g_iload_n (pc' := 7) O ⟨dX4_compareBadly_6, rfl⟩ (q := 3) rfl rfl ?_
  refine g_lald (pc' := 8) O ⟨dX4_compareBadly_7, rfl⟩ (wC_14 ad cy h) E (fun E => ?_)
  refine g_lstore (pc' := 10) O ⟨dX4_compareBadly_8, rfl⟩ (lv' := [(6, .long (h.2 14 x2.toNatClampNeg)), (4, .long (h.2 14 x1.toNatClampNeg)), (0, .ref (ad 14)), (1, .int x1), (2, .int x2), (3, .int x3)]) (by decide) rfl ?_
  refine g_iload_n (pc' := 11) O ⟨dX4_compareBadly_10, rfl⟩ (q := 5) rfl rfl ?_
  refine g_iconst (pc' := 12) O ⟨dX4_compareBadly_11, rfl⟩ (v := (1 : Int32)) rfl ?_
  refine g_icmp_ne (pc' := 15) O ⟨dX4_compareBadly_12, rfl⟩ E (tgt := 28) (by decide) (fun E => ?_) (fun E => ?_)
  · refine g_iload_n (pc' := 29) O ⟨dX4_compareBadly_28, rfl⟩ (q := 5) rfl rfl ?_
    refine g_iconst (pc' := 30) O ⟨dX4_compareBadly_29, rfl⟩ (v := (2 : Int32)) rfl ?_
    refine g_icmp_ne (pc' := 33) O ⟨dX4_compareBadly_30, rfl⟩ E (tgt := 49) (by decide) (fun E => ?_) (fun E => ?_)
    · cases E
      exact hret _ _ _ ⟨dX4_compareBadly_49, rfl⟩
    · refine g_aload_n (pc' := 34) O ⟨dX4_compareBadly_33, rfl⟩ (q := 2) rfl rfl ?_
      refine g_iload_n (pc' := 35) O ⟨dX4_compareBadly_34, rfl⟩ (q := 3) rfl rfl ?_
      refine g_lload (pc' := 37) O ⟨dX4_compareBadly_35, rfl⟩ (q := 1) rfl ?_
      refine g_lload (pc' := 39) O ⟨dX4_compareBadly_37, rfl⟩ (q := 0) rfl ?_
      refine g_lor (pc' := 40) O ⟨dX4_compareBadly_39, rfl⟩ ?_
      refine g_last (pc' := 41) O ⟨dX4_compareBadly_40, rfl⟩ (wC_14 ad cy h) (vC_14 ad cy h _) E (fun E => ?_)
      refine g_nmh E (fun h_1 E => ?_)
      refine g_aload_n (pc' := 42) O ⟨dX4_compareBadly_41, rfl⟩ (q := 2) rfl rfl ?_
      refine g_iload_n (pc' := 43) O ⟨dX4_compareBadly_42, rfl⟩ (q := 4) rfl rfl ?_
      refine g_lload (pc' := 45) O ⟨dX4_compareBadly_43, rfl⟩ (q := 1) rfl ?_
      refine g_lload (pc' := 47) O ⟨dX4_compareBadly_45, rfl⟩ (q := 0) rfl ?_
      refine g_land (pc' := 48) O ⟨dX4_compareBadly_47, rfl⟩ ?_
      refine g_last (pc' := 49) O ⟨dX4_compareBadly_48, rfl⟩ (wC_14 ad cy h_1) (vC_14 ad cy h_1 _) E (fun E => ?_)
      refine g_nmh E (fun h_2 E => ?_)
      cases E
      exact hret _ _ _ ⟨dX4_compareBadly_49, rfl⟩
  · refine g_aload_n (pc' := 16) O ⟨dX4_compareBadly_15, rfl⟩ (q := 2) rfl rfl ?_
    refine g_iload_n (pc' := 17) O ⟨dX4_compareBadly_16, rfl⟩ (q := 3) rfl rfl ?_
    refine g_lload (pc' := 19) O ⟨dX4_compareBadly_17, rfl⟩ (q := 0) rfl ?_
    refine g_last (pc' := 20) O ⟨dX4_compareBadly_19, rfl⟩ (wC_14 ad cy h) (vC_14 ad cy h _) E (fun E => ?_)
    refine g_nmh E (fun h_3 E => ?_)
    refine g_aload_n (pc' := 21) O ⟨dX4_compareBadly_20, rfl⟩ (q := 2) rfl rfl ?_
    refine g_iload_n (pc' := 22) O ⟨dX4_compareBadly_21, rfl⟩ (q := 4) rfl rfl ?_
    refine g_lload (pc' := 24) O ⟨dX4_compareBadly_22, rfl⟩ (q := 1) rfl ?_
    refine g_last (pc' := 25) O ⟨dX4_compareBadly_24, rfl⟩ (wC_14 ad cy h_3) (vC_14 ad cy h_3 _) E (fun E => ?_)
    refine g_nmh E (fun h_4 E => ?_)
    refine g_goto (pc' := 28) O ⟨dX4_compareBadly_25, rfl⟩ (tgt := 49) (by decide) ?_
    cases E
    exact hret _ _ _ ⟨dX4_compareBadly_49, rfl⟩
set_option maxRecDepth 100000 in
set_option maxHeartbeats 4000000 in
theorem t_X4_sendWith_14_1 (l : Launch) (D : va_G) (ad : Nat → Nat) (cy : Nat → ClassId) {h : Hp} {x2 : Int32} {x3 : Int32} {o : Hp} (E : f_X4_sendWith_14_1 h x2 x3 = some o) : CtV l D cy (WC ad cy) yX4_sendWith cX4_sendWith 5 3 65 [.ref (ad 14), .ref (ad 1), .int x2, .int x3] h o := by
  refine sV (own := RX4) rfl rfl (Nat.le_of_ble_eq_true rfl) (fun X O hret => ?_)
  show G l D X 5 (WC ad cy) 0 0 h 0 [(0, .ref (ad 14)), (1, .ref (ad 1)), (2, .int x2), (3, .int x3)] []
  unfold f_X4_sendWith_14_1 at E
  refine g_aload_n (pc' := 1) O ⟨dX4_sendWith_0, rfl⟩ (q := 0) rfl rfl ?_
  refine g_aload_n (pc' := 2) O ⟨dX4_sendWith_1, rfl⟩ (q := 1) rfl rfl ?_
  refine g_iload_n (pc' := 3) O ⟨dX4_sendWith_2, rfl⟩ (q := 2) rfl rfl ?_
  obtain ⟨r_1, c_2, E⟩ := bd_of E
  refine g_Sv (pc' := 6) O ⟨dX4_sendWith_3, rfl⟩ (y := yX4_send) (As := [.ref (ad 14), .ref (ad 1), .int x2]) (st := []) (t_X4_send_14_1 l D ad cy (h := h) c_2) kw_587 kw_28 kw_585 kw_586 hd_X4_send ⟨Nat.le_of_ble_eq_true rfl, Nat.le_of_ble_eq_true rfl⟩ ⟨Nat.le_of_ble_eq_true rfl, Nat.le_of_ble_eq_true rfl⟩ rfl (Nat.le_of_ble_eq_true rfl) ?_
  refine g_aload_n (pc' := 7) O ⟨dX4_sendWith_6, rfl⟩ (q := 0) rfl rfl ?_
  refine g_aload_n (pc' := 8) O ⟨dX4_sendWith_7, rfl⟩ (q := 1) rfl rfl ?_
  refine gf_C_RX4_44_1 ad cy (pc' := 11) O ⟨dX4_sendWith_8, rfl⟩ ?_
  refine g_iload_n (pc' := 12) O ⟨dX4_sendWith_11, rfl⟩ (q := 2) rfl rfl ?_
  refine g_iald (pc' := 13) O ⟨dX4_sendWith_12, rfl⟩ (wC_2 ad cy r_1) E (fun E => ?_)
  refine g_aload_n (pc' := 14) O ⟨dX4_sendWith_13, rfl⟩ (q := 1) rfl rfl ?_
  refine gf_C_RX4_48_1 ad cy (pc' := 17) O ⟨dX4_sendWith_14, rfl⟩ ?_
  refine g_iload_n (pc' := 18) O ⟨dX4_sendWith_17, rfl⟩ (q := 2) rfl rfl ?_
  refine g_iald (pc' := 19) O ⟨dX4_sendWith_18, rfl⟩ (wC_3 ad cy r_1) E (fun E => ?_)
  refine g_iload_n (pc' := 20) O ⟨dX4_sendWith_19, rfl⟩ (q := 3) rfl rfl ?_
  obtain ⟨r_3, c_4, E⟩ := bd_of E
  refine g_Sv (pc' := 23) O ⟨dX4_sendWith_20, rfl⟩ (y := yX4_compareBadly) (As := [.ref (ad 14), .int (r_1.1 2 x2.toNatClampNeg), .int (r_1.1 3 x2.toNatClampNeg), .int x3]) (st := []) (t_X4_compareBadly_14 l D ad cy (h := r_1) c_4) kw_827 kw_28 kw_825 kw_826 hd_X4_compareBadly ⟨Nat.le_of_ble_eq_true rfl, Nat.le_of_ble_eq_true rfl⟩ ⟨Nat.le_of_ble_eq_true rfl, Nat.le_of_ble_eq_true rfl⟩ rfl (Nat.le_of_ble_eq_true rfl) ?_
  refine g_iload_n (pc' := 24) O ⟨dX4_sendWith_23, rfl⟩ (q := 2) rfl rfl ?_
  refine g_iconst (pc' := 25) O ⟨dX4_sendWith_24, rfl⟩ (v := (1 : Int32)) rfl ?_
  refine g_iadd (pc' := 26) O ⟨dX4_sendWith_25, rfl⟩ ?_
  refine g_nm E (fun y4_5 E => ?_)
  refine g_istore (pc' := 28) O ⟨dX4_sendWith_26, rfl⟩ (lv' := [(4, .int y4_5), (0, .ref (ad 14)), (1, .ref (ad 1)), (2, .int x2), (3, .int x3)]) (by decide) rfl ?_
  refine jn1_of (P := fun (h_6 : Hp) => G l D X 5 (WC ad cy) 0 0 h_6 61 [] []) E ?_ ?_
  · intro h_6 E
    show G l D X 5 (WC ad cy) 0 0 h_6 61 [] []
    cases E
    exact hret _ _ _ ⟨dX4_sendWith_61, rfl⟩
  · intro k61 hk61 E
    refine g_sub (lv' := [(0, .ref (ad 14)), (1, .ref (ad 1)), (4, .int y4_5)]) [1, 2, 0] rfl ?_
    refine fx2_of (P := fun (x4_7 : Int32) (h_8 : Hp) => G l D X 5 (WC ad cy) 0 0 h_8 28 [(0, .ref (ad 14)), (1, .ref (ad 1)), (4, .int x4_7)] []) ?_ _ _ _ E
    intro self ih28 x4_7 h_8 E
    show G l D X 5 (WC ad cy) 0 0 h_8 28 [(0, .ref (ad 14)), (1, .ref (ad 1)), (4, .int x4_7)] []
    unfold L_X4_sendWith_14_1_28 at E
    refine g_iload (pc' := 30) O ⟨dX4_sendWith_28, rfl⟩ (q := 2) rfl ?_
    refine g_aload_n (pc' := 31) O ⟨dX4_sendWith_30, rfl⟩ (q := 1) rfl rfl ?_
    refine gf_C_RX4_63_1 ad cy (pc' := 34) O ⟨dX4_sendWith_31, rfl⟩ ?_
    refine g_icmp_ge (pc' := 37) O ⟨dX4_sendWith_34, rfl⟩ E (tgt := 61) (by decide) (fun E => ?_) (fun E => ?_)
    · refine g_sub (lv' := []) [] rfl ?_
      exact hk61 _ E
    · refine g_aload_n (pc' := 38) O ⟨dX4_sendWith_37, rfl⟩ (q := 0) rfl rfl ?_
      refine g_aload_n (pc' := 39) O ⟨dX4_sendWith_38, rfl⟩ (q := 1) rfl rfl ?_
      refine gf_C_RX4_44_1 ad cy (pc' := 42) O ⟨dX4_sendWith_39, rfl⟩ ?_
      refine g_iload (pc' := 44) O ⟨dX4_sendWith_42, rfl⟩ (q := 2) rfl ?_
      refine g_iald (pc' := 45) O ⟨dX4_sendWith_44, rfl⟩ (wC_2 ad cy h_8) E (fun E => ?_)
      refine g_aload_n (pc' := 46) O ⟨dX4_sendWith_45, rfl⟩ (q := 1) rfl rfl ?_
      refine gf_C_RX4_48_1 ad cy (pc' := 49) O ⟨dX4_sendWith_46, rfl⟩ ?_
      refine g_iload (pc' := 51) O ⟨dX4_sendWith_49, rfl⟩ (q := 2) rfl ?_
      refine g_iald (pc' := 52) O ⟨dX4_sendWith_51, rfl⟩ (wC_3 ad cy h_8) E (fun E => ?_)
      obtain ⟨r_9, c_10, E⟩ := bd_of E
      refine g_Sv (pc' := 55) O ⟨dX4_sendWith_52, rfl⟩ (y := yX4_compare) (As := [.ref (ad 14), .int (h_8.1 2 x4_7.toNatClampNeg), .int (h_8.1 3 x4_7.toNatClampNeg)]) (st := []) (t_X4_compare_14 l D ad cy (h := h_8) c_10) kw_599 kw_28 kw_597 kw_598 hd_X4_compare ⟨Nat.le_of_ble_eq_true rfl, Nat.le_of_ble_eq_true rfl⟩ ⟨Nat.le_of_ble_eq_true rfl, Nat.le_of_ble_eq_true rfl⟩ rfl (Nat.le_of_ble_eq_true rfl) ?_
      refine g_iinc (pc' := 58) O ⟨dX4_sendWith_55, rfl⟩ (q := 2) (v := x4_7 + (1 : Int32)) (lv' := [(4, .int (x4_7 + (1 : Int32))), (0, .ref (ad 14)), (1, .ref (ad 1))]) rfl rfl (by decide) rfl ?_
      refine g_goto (pc' := 61) O ⟨dX4_sendWith_58, rfl⟩ (tgt := 28) (by decide) ?_
      refine g_sub (lv' := [(0, .ref (ad 14)), (1, .ref (ad 1)), (4, .int (x4_7 + (1 : Int32)))]) [1, 2, 0] rfl ?_
      exact ih28 _ _ E
set_option maxRecDepth 100000 in
set_option maxHeartbeats 4000000 in
theorem t_X4_unsortedWith_13_1 (l : Launch) (D : va_G) (ad : Nat → Nat) (cy : Nat → ClassId) {h : Hp} {x2 : Int32} {x3 : Int32} {o : Int64 × Hp} (E : f_X4_unsortedWith_13_1 h x2 x3 = some o) : CtL l D cy (WC ad cy) yX4_unsortedWith cX4_unsortedWith 4 4 89 [.ref (ad 13), .ref (ad 1), .int x2, .int x3] h o.1 o.2 := by
  refine sL (own := RX4) rfl rfl (Nat.le_of_ble_eq_true rfl) (fun X O hret => ?_)
  show G l D X 4 (WC ad cy) 0 0 h 0 [(0, .ref (ad 13)), (1, .ref (ad 1)), (2, .int x2), (3, .int x3)] []
  unfold f_X4_unsortedWith_13_1 at E
  refine g_aload_n (pc' := 1) O ⟨dX4_unsortedWith_0, rfl⟩ (q := 0) rfl rfl ?_
  refine gf_C_RX4_9_13 ad cy (pc' := 4) O ⟨dX4_unsortedWith_1, rfl⟩ ?_
  refine g_aload_n (pc' := 5) O ⟨dX4_unsortedWith_4, rfl⟩ (q := 1) rfl rfl ?_
  refine g_iload_n (pc' := 6) O ⟨dX4_unsortedWith_5, rfl⟩ (q := 2) rfl rfl ?_
  refine g_iload_n (pc' := 7) O ⟨dX4_unsortedWith_6, rfl⟩ (q := 3) rfl rfl ?_
  obtain ⟨r_1, c_2, E⟩ := bd_of E
  refine g_Sv (pc' := 10) O ⟨dX4_unsortedWith_7, rfl⟩ (y := yX4_sendWith) (As := [.ref (ad 14), .ref (ad 1), .int x2, .int x3]) (st := []) (t_X4_sendWith_14_1 l D ad cy (h := h) c_2) kw_824 kw_28 kw_822 kw_823 hd_X4_sendWith ⟨Nat.le_of_ble_eq_true rfl, Nat.le_of_ble_eq_true rfl⟩ ⟨Nat.le_of_ble_eq_true rfl, Nat.le_of_ble_eq_true rfl⟩ rfl (Nat.le_of_ble_eq_true rfl) ?_
  refine g_aload_n (pc' := 11) O ⟨dX4_unsortedWith_10, rfl⟩ (q := 0) rfl rfl ?_
  refine gf_C_RX4_9_13 ad cy (pc' := 14) O ⟨dX4_unsortedWith_11, rfl⟩ ?_
  refine g_aload_n (pc' := 15) O ⟨dX4_unsortedWith_14, rfl⟩ (q := 1) rfl rfl ?_
  refine gf_C_RX4_34_1 ad cy (pc' := 18) O ⟨dX4_unsortedWith_15, rfl⟩ ?_
  obtain ⟨r_3, c_4, E⟩ := bd_of E
  refine g_Sl (pc' := 21) O ⟨dX4_unsortedWith_18, rfl⟩ (y := yX4_unsortedIn) (As := [.ref (ad 14), .int (r_1.1 1 0)]) (st := []) (t_X4_unsortedIn_14 l D ad cy (h := r_1) c_4) kw_749 kw_28 kw_747 kw_748 hd_X4_unsortedIn ⟨Nat.le_of_ble_eq_true rfl, Nat.le_of_ble_eq_true rfl⟩ ⟨Nat.le_of_ble_eq_true rfl, Nat.le_of_ble_eq_true rfl⟩ rfl (Nat.le_of_ble_eq_true rfl) ?_
  cases E
  exact hret _ _ _ ⟨dX4_unsortedWith_21, rfl⟩
set_option maxRecDepth 100000 in
set_option maxHeartbeats 4000000 in
theorem t_X4_compare_15 (l : Launch) (D : va_G) (ad : Nat → Nat) (cy : Nat → ClassId) {h : Hp} {x1 : Int32} {x2 : Int32} {o : Hp} (E : f_X4_compare_15 h x1 x2 = some o) : CtV l D cy (WC ad cy) yX4_compare cX4_compare 7 0 0 [.ref (ad 15), .int x1, .int x2] h o := by
  refine sV (own := RX4) rfl rfl (Nat.le_of_ble_eq_true rfl) (fun X O hret => ?_)
  show G l D X 7 (WC ad cy) 0 0 h 0 [(0, .ref (ad 15)), (1, .int x1), (2, .int x2)] []
  unfold f_X4_compare_15 at E
  refine g_aload_n (pc' := 1) O ⟨dX4_compare_0, rfl⟩ (q := 0) rfl rfl ?_
  refine g_iload_n (pc' := 2) O ⟨dX4_compare_1, rfl⟩ (q := 1) rfl rfl ?_
  refine g_lald (pc' := 3) O ⟨dX4_compare_2, rfl⟩ (wC_15 ad cy h) E (fun E => ?_)
  refine g_lstore_n (pc' := 4) O ⟨dX4_compare_3, rfl⟩ (lv' := [(3, .long (h.2 15 x1.toNatClampNeg)), (0, .ref (ad 15)), (1, .int x1), (2, .int x2)]) rfl (by decide) rfl ?_
  refine g_aload_n (pc' := 5) O ⟨dX4_compare_4, rfl⟩ (q := 1) rfl rfl ?_
  refine g_iload_n (pc' := 6) O ⟨dX4_compare_5, rfl⟩ (q := 3) rfl rfl ?_
  refine g_lald (pc' := 7) O ⟨dX4_compare_6, rfl⟩ (wC_15 ad cy h) E (fun E => ?_)
  refine g_lstore (pc' := 9) O ⟨dX4_compare_7, rfl⟩ (lv' := [(5, .long (h.2 15 x2.toNatClampNeg)), (3, .long (h.2 15 x1.toNatClampNeg)), (0, .ref (ad 15)), (1, .int x1), (2, .int x2)]) (by decide) rfl ?_
  refine g_aload_n (pc' := 10) O ⟨dX4_compare_9, rfl⟩ (q := 2) rfl rfl ?_
  refine g_iload_n (pc' := 11) O ⟨dX4_compare_10, rfl⟩ (q := 3) rfl rfl ?_
  refine g_lload_n (pc' := 12) O ⟨dX4_compare_11, rfl⟩ (q := 1) rfl rfl ?_
  refine g_lload (pc' := 14) O ⟨dX4_compare_12, rfl⟩ (q := 0) rfl ?_
  refine g_land (pc' := 15) O ⟨dX4_compare_14, rfl⟩ ?_
  refine g_last (pc' := 16) O ⟨dX4_compare_15, rfl⟩ (wC_15 ad cy h) (vC_15 ad cy h _) E (fun E => ?_)
  refine g_nmh E (fun h_1 E => ?_)
  refine g_aload_n (pc' := 17) O ⟨dX4_compare_16, rfl⟩ (q := 2) rfl rfl ?_
  refine g_iload_n (pc' := 18) O ⟨dX4_compare_17, rfl⟩ (q := 4) rfl rfl ?_
  refine g_lload_n (pc' := 19) O ⟨dX4_compare_18, rfl⟩ (q := 1) rfl rfl ?_
  refine g_lload (pc' := 21) O ⟨dX4_compare_19, rfl⟩ (q := 0) rfl ?_
  refine g_lor (pc' := 22) O ⟨dX4_compare_21, rfl⟩ ?_
  refine g_last (pc' := 23) O ⟨dX4_compare_22, rfl⟩ (wC_15 ad cy h_1) (vC_15 ad cy h_1 _) E (fun E => ?_)
  refine g_nmh E (fun h_2 E => ?_)
  cases E
  exact hret _ _ _ ⟨dX4_compare_23, rfl⟩
set_option maxRecDepth 100000 in
set_option maxHeartbeats 4000000 in
theorem t_X4_send_15_1 (l : Launch) (D : va_G) (ad : Nat → Nat) (cy : Nat → ClassId) {h : Hp} {x2 : Int32} {o : Hp} (E : f_X4_send_15_1 h x2 = some o) : CtV l D cy (WC ad cy) yX4_send cX4_send 4 2 42 [.ref (ad 15), .ref (ad 1), .int x2] h o := by
  refine sV (own := RX4) rfl rfl (Nat.le_of_ble_eq_true rfl) (fun X O hret => ?_)
  show G l D X 4 (WC ad cy) 0 0 h 0 [(0, .ref (ad 15)), (1, .ref (ad 1)), (2, .int x2)] []
  unfold f_X4_send_15_1 at E
  refine g_aload_n (pc' := 1) O ⟨dX4_send_0, rfl⟩ (q := 0) rfl rfl ?_
  refine g_aload_n (pc' := 2) O ⟨dX4_send_1, rfl⟩ (q := 1) rfl rfl ?_
  refine gf_C_RX4_34_1 ad cy (pc' := 5) O ⟨dX4_send_2, rfl⟩ ?_
  obtain ⟨r_1, c_2, E⟩ := bd_of E
  refine g_Sv (pc' := 8) O ⟨dX4_send_5, rfl⟩ (y := yX4_bringIn) (As := [.ref (ad 15), .int (h.1 1 0)]) (st := []) (t_X4_bringIn_15 l D ad cy (h := h) c_2) kw_590 kw_28 kw_588 kw_589 hd_X4_bringIn ⟨Nat.le_of_ble_eq_true rfl, Nat.le_of_ble_eq_true rfl⟩ ⟨Nat.le_of_ble_eq_true rfl, Nat.le_of_ble_eq_true rfl⟩ rfl (Nat.le_of_ble_eq_true rfl) ?_
  refine g_iconst (pc' := 9) O ⟨dX4_send_8, rfl⟩ (v := (0 : Int32)) rfl ?_
  refine g_istore_n (pc' := 10) O ⟨dX4_send_9, rfl⟩ (lv' := [(3, .int (0 : Int32)), (0, .ref (ad 15)), (1, .ref (ad 1)), (2, .int x2)]) rfl (by decide) rfl ?_
  refine jn1_of (P := fun (h_3 : Hp) => G l D X 4 (WC ad cy) 0 0 h_3 37 [] []) E ?_ ?_
  · intro h_3 E
    show G l D X 4 (WC ad cy) 0 0 h_3 37 [] []
    cases E
    exact hret _ _ _ ⟨dX4_send_37, rfl⟩
  · intro k37 hk37 E
    refine g_sub (lv' := [(0, .ref (ad 15)), (1, .ref (ad 1)), (2, .int x2), (3, .int (0 : Int32))]) [1, 2, 3, 0] rfl ?_
    refine fx2_of (P := fun (x3_4 : Int32) (h_5 : Hp) => G l D X 4 (WC ad cy) 0 0 h_5 10 [(0, .ref (ad 15)), (1, .ref (ad 1)), (2, .int x2), (3, .int x3_4)] []) ?_ _ _ _ E
    intro self ih10 x3_4 h_5 E
    show G l D X 4 (WC ad cy) 0 0 h_5 10 [(0, .ref (ad 15)), (1, .ref (ad 1)), (2, .int x2), (3, .int x3_4)] []
    unfold L_X4_send_15_1_10 at E
    refine g_iload_n (pc' := 11) O ⟨dX4_send_10, rfl⟩ (q := 3) rfl rfl ?_
    refine g_iload_n (pc' := 12) O ⟨dX4_send_11, rfl⟩ (q := 2) rfl rfl ?_
    refine g_icmp_ge (pc' := 15) O ⟨dX4_send_12, rfl⟩ E (tgt := 37) (by decide) (fun E => ?_) (fun E => ?_)
    · refine g_sub (lv' := []) [] rfl ?_
      exact hk37 _ E
    · refine g_aload_n (pc' := 16) O ⟨dX4_send_15, rfl⟩ (q := 0) rfl rfl ?_
      refine g_aload_n (pc' := 17) O ⟨dX4_send_16, rfl⟩ (q := 1) rfl rfl ?_
      refine gf_C_RX4_44_1 ad cy (pc' := 20) O ⟨dX4_send_17, rfl⟩ ?_
      refine g_iload_n (pc' := 21) O ⟨dX4_send_20, rfl⟩ (q := 3) rfl rfl ?_
      refine g_iald (pc' := 22) O ⟨dX4_send_21, rfl⟩ (wC_2 ad cy h_5) E (fun E => ?_)
      refine g_aload_n (pc' := 23) O ⟨dX4_send_22, rfl⟩ (q := 1) rfl rfl ?_
      refine gf_C_RX4_48_1 ad cy (pc' := 26) O ⟨dX4_send_23, rfl⟩ ?_
      refine g_iload_n (pc' := 27) O ⟨dX4_send_26, rfl⟩ (q := 3) rfl rfl ?_
      refine g_iald (pc' := 28) O ⟨dX4_send_27, rfl⟩ (wC_3 ad cy h_5) E (fun E => ?_)
      obtain ⟨r_6, c_7, E⟩ := bd_of E
      refine g_Sv (pc' := 31) O ⟨dX4_send_28, rfl⟩ (y := yX4_compare) (As := [.ref (ad 15), .int (h_5.1 2 x3_4.toNatClampNeg), .int (h_5.1 3 x3_4.toNatClampNeg)]) (st := []) (t_X4_compare_15 l D ad cy (h := h_5) c_7) kw_599 kw_28 kw_597 kw_598 hd_X4_compare ⟨Nat.le_of_ble_eq_true rfl, Nat.le_of_ble_eq_true rfl⟩ ⟨Nat.le_of_ble_eq_true rfl, Nat.le_of_ble_eq_true rfl⟩ rfl (Nat.le_of_ble_eq_true rfl) ?_
      refine g_iinc (pc' := 34) O ⟨dX4_send_31, rfl⟩ (q := 3) (v := x3_4 + (1 : Int32)) (lv' := [(3, .int (x3_4 + (1 : Int32))), (0, .ref (ad 15)), (1, .ref (ad 1)), (2, .int x2)]) rfl rfl (by decide) rfl ?_
      refine g_goto (pc' := 37) O ⟨dX4_send_34, rfl⟩ (tgt := 10) (by decide) ?_
      refine g_sub (lv' := [(0, .ref (ad 15)), (1, .ref (ad 1)), (2, .int x2), (3, .int (x3_4 + (1 : Int32)))]) [1, 2, 3, 0] rfl ?_
      exact ih10 _ _ E
set_option maxRecDepth 100000 in
set_option maxHeartbeats 4000000 in
theorem t_X4_telling_13_1 (l : Launch) (D : va_G) (ad : Nat → Nat) (cy : Nat → ClassId) {h : Hp} {x2 : Int32} {x3 : Int32} {o : Int64 × Hp} (E : f_X4_telling_13_1 h x2 x3 = some o) : CtL l D cy (WC ad cy) yX4_telling cX4_telling 7 4 89 [.ref (ad 13), .ref (ad 1), .int x2, .int x3] h o.1 o.2 := by
  refine sL (own := RX4) rfl rfl (Nat.le_of_ble_eq_true rfl) (fun X O hret => ?_)
  show G l D X 7 (WC ad cy) 0 0 h 0 [(0, .ref (ad 13)), (1, .ref (ad 1)), (2, .int x2), (3, .int x3)] []
  unfold f_X4_telling_13_1 at E
  refine g_aload_n (pc' := 1) O ⟨dX4_telling_0, rfl⟩ (q := 0) rfl rfl ?_
  refine gf_C_RX4_15_13 ad cy (pc' := 4) O ⟨dX4_telling_1, rfl⟩ ?_
  refine g_aload_n (pc' := 5) O ⟨dX4_telling_4, rfl⟩ (q := 1) rfl rfl ?_
  refine g_aload_n (pc' := 6) O ⟨dX4_telling_5, rfl⟩ (q := 1) rfl rfl ?_
  refine gf_C_RX4_63_1 ad cy (pc' := 9) O ⟨dX4_telling_6, rfl⟩ ?_
  obtain ⟨r_1, c_2, E⟩ := bd_of E
  refine g_Sv (pc' := 12) O ⟨dX4_telling_9, rfl⟩ (y := yX4_send) (As := [.ref (ad 15), .ref (ad 1), .int (h.1 1 1)]) (st := []) (t_X4_send_15_1 l D ad cy (h := h) c_2) kw_587 kw_28 kw_585 kw_586 hd_X4_send ⟨Nat.le_of_ble_eq_true rfl, Nat.le_of_ble_eq_true rfl⟩ ⟨Nat.le_of_ble_eq_true rfl, Nat.le_of_ble_eq_true rfl⟩ rfl (Nat.le_of_ble_eq_true rfl) ?_
  refine g_aload_n (pc' := 13) O ⟨dX4_telling_12, rfl⟩ (q := 0) rfl rfl ?_
  refine gf_C_RX4_9_13 ad cy (pc' := 16) O ⟨dX4_telling_13, rfl⟩ ?_
  refine g_aload_n (pc' := 17) O ⟨dX4_telling_16, rfl⟩ (q := 1) rfl rfl ?_
  refine g_iload_n (pc' := 18) O ⟨dX4_telling_17, rfl⟩ (q := 2) rfl rfl ?_
  refine g_iload_n (pc' := 19) O ⟨dX4_telling_18, rfl⟩ (q := 3) rfl rfl ?_
  obtain ⟨r_3, c_4, E⟩ := bd_of E
  refine g_Sv (pc' := 22) O ⟨dX4_telling_19, rfl⟩ (y := yX4_sendWith) (As := [.ref (ad 14), .ref (ad 1), .int x2, .int x3]) (st := []) (t_X4_sendWith_14_1 l D ad cy (h := r_1) c_4) kw_824 kw_28 kw_822 kw_823 hd_X4_sendWith ⟨Nat.le_of_ble_eq_true rfl, Nat.le_of_ble_eq_true rfl⟩ ⟨Nat.le_of_ble_eq_true rfl, Nat.le_of_ble_eq_true rfl⟩ rfl (Nat.le_of_ble_eq_true rfl) ?_
  refine g_lconst (pc' := 23) O ⟨dX4_telling_22, rfl⟩ (v := (0 : Int64)) rfl ?_
  refine g_lstore (pc' := 25) O ⟨dX4_telling_23, rfl⟩ (lv' := [(4, .long (0 : Int64)), (0, .ref (ad 13)), (1, .ref (ad 1)), (2, .int x2), (3, .int x3)]) (by decide) rfl ?_
  refine g_iconst (pc' := 26) O ⟨dX4_telling_25, rfl⟩ (v := (0 : Int32)) rfl ?_
  refine g_istore (pc' := 28) O ⟨dX4_telling_26, rfl⟩ (lv' := [(6, .int (0 : Int32)), (4, .long (0 : Int64)), (0, .ref (ad 13)), (1, .ref (ad 1)), (2, .int x2), (3, .int x3)]) (by decide) rfl ?_
  refine jn1_of (P := fun (x4_5 : Int64) => G l D X 7 (WC ad cy) 0 0 r_3 63 [(4, .long x4_5)] []) E ?_ ?_
  · intro x4_5 E
    show G l D X 7 (WC ad cy) 0 0 r_3 63 [(4, .long x4_5)] []
    refine g_lload (pc' := 65) O ⟨dX4_telling_63, rfl⟩ (q := 0) rfl ?_
    cases E
    exact hret _ _ _ ⟨dX4_telling_65, rfl⟩
  · intro k63 hk63 E
    refine g_sub (lv' := [(0, .ref (ad 13)), (1, .ref (ad 1)), (4, .long (0 : Int64)), (6, .int (0 : Int32))]) [2, 3, 1, 0] rfl ?_
    refine fx2_of (P := fun (x4_6 : Int64) (x6_7 : Int32) => G l D X 7 (WC ad cy) 0 0 r_3 28 [(0, .ref (ad 13)), (1, .ref (ad 1)), (4, .long x4_6), (6, .int x6_7)] []) ?_ _ _ _ E
    intro self ih28 x4_6 x6_7 E
    show G l D X 7 (WC ad cy) 0 0 r_3 28 [(0, .ref (ad 13)), (1, .ref (ad 1)), (4, .long x4_6), (6, .int x6_7)] []
    unfold L_X4_telling_13_1_28 at E
    refine g_iload (pc' := 30) O ⟨dX4_telling_28, rfl⟩ (q := 3) rfl ?_
    refine g_aload_n (pc' := 31) O ⟨dX4_telling_30, rfl⟩ (q := 1) rfl rfl ?_
    refine gf_C_RX4_34_1 ad cy (pc' := 34) O ⟨dX4_telling_31, rfl⟩ ?_
    refine g_icmp_ge (pc' := 37) O ⟨dX4_telling_34, rfl⟩ E (tgt := 63) (by decide) (fun E => ?_) (fun E => ?_)
    · refine g_sub (lv' := [(4, .long x4_6)]) [2] rfl ?_
      exact hk63 _ E
    · refine g_lload (pc' := 39) O ⟨dX4_telling_37, rfl⟩ (q := 2) rfl ?_
      refine g_aload_n (pc' := 40) O ⟨dX4_telling_39, rfl⟩ (q := 0) rfl rfl ?_
      refine gf_C_RX4_9_13 ad cy (pc' := 43) O ⟨dX4_telling_40, rfl⟩ ?_
      refine g_iload (pc' := 45) O ⟨dX4_telling_43, rfl⟩ (q := 3) rfl ?_
      refine g_lald (pc' := 46) O ⟨dX4_telling_45, rfl⟩ (wC_14 ad cy r_3) E (fun E => ?_)
      refine g_aload_n (pc' := 47) O ⟨dX4_telling_46, rfl⟩ (q := 0) rfl rfl ?_
      refine gf_C_RX4_15_13 ad cy (pc' := 50) O ⟨dX4_telling_47, rfl⟩ ?_
      refine g_iload (pc' := 52) O ⟨dX4_telling_50, rfl⟩ (q := 3) rfl ?_
      refine g_lald (pc' := 53) O ⟨dX4_telling_52, rfl⟩ (wC_15 ad cy r_3) E (fun E => ?_)
      refine g_lxor (pc' := 54) O ⟨dX4_telling_53, rfl⟩ ?_
      refine g_lor (pc' := 55) O ⟨dX4_telling_54, rfl⟩ ?_
      refine g_nmL E (fun y4_8 E => ?_)
      refine g_lstore (pc' := 57) O ⟨dX4_telling_55, rfl⟩ (lv' := [(4, .long y4_8), (0, .ref (ad 13)), (1, .ref (ad 1)), (6, .int x6_7)]) (by decide) rfl ?_
      refine g_iinc (pc' := 60) O ⟨dX4_telling_57, rfl⟩ (q := 3) (v := x6_7 + (1 : Int32)) (lv' := [(6, .int (x6_7 + (1 : Int32))), (4, .long y4_8), (0, .ref (ad 13)), (1, .ref (ad 1))]) rfl rfl (by decide) rfl ?_
      refine g_goto (pc' := 63) O ⟨dX4_telling_60, rfl⟩ (tgt := 28) (by decide) ?_
      refine g_sub (lv' := [(0, .ref (ad 13)), (1, .ref (ad 1)), (4, .long y4_8), (6, .int (x6_7 + (1 : Int32)))]) [2, 3, 1, 0] rfl ?_
      exact ih28 _ _ E
set_option maxRecDepth 100000 in
set_option maxHeartbeats 4000000 in
theorem t_X3_countHidden_18_13_1 (l : Launch) (D : va_G) (ad : Nat → Nat) (cy : Nat → ClassId) {h : Hp} {x3 : Int64} {o : Int32 × Hp} (E : f_X3_countHidden_18_13_1 h x3 = some o) : CtI l D cy (WC ad cy) yX3_countHidden cX3_countHidden 8 .int 5 115 [.ref (ad 18), .ref (ad 13), .ref (ad 1), .long x3] h o.1 o.2 := by
  refine sI (own := RX3) rfl rfl (Nat.le_of_ble_eq_true rfl) (fun X O hret => ?_)
  show G l D X 8 (WC ad cy) 0 0 h 0 [(0, .ref (ad 18)), (1, .ref (ad 13)), (2, .ref (ad 1)), (3, .long x3)] []
  unfold f_X3_countHidden_18_13_1 at E
  refine g_iconst (pc' := 1) O ⟨dX3_countHidden_0, rfl⟩ (v := (0 : Int32)) rfl ?_
  refine g_istore (pc' := 3) O ⟨dX3_countHidden_1, rfl⟩ (lv' := [(5, .int (0 : Int32)), (0, .ref (ad 18)), (1, .ref (ad 13)), (2, .ref (ad 1)), (3, .long x3)]) (by decide) rfl ?_
  refine g_iconst (pc' := 4) O ⟨dX3_countHidden_3, rfl⟩ (v := (0 : Int32)) rfl ?_
  refine g_istore (pc' := 6) O ⟨dX3_countHidden_4, rfl⟩ (lv' := [(6, .int (0 : Int32)), (5, .int (0 : Int32)), (0, .ref (ad 18)), (1, .ref (ad 13)), (2, .ref (ad 1)), (3, .long x3)]) (by decide) rfl ?_
  refine jn2_of (P := fun (x5_1 : Int32) (h_2 : Hp) => G l D X 8 (WC ad cy) 0 0 h_2 55 [(5, .int x5_1)] []) E ?_ ?_
  · intro x5_1 h_2 E
    show G l D X 8 (WC ad cy) 0 0 h_2 55 [(5, .int x5_1)] []
    refine g_iload (pc' := 57) O ⟨dX3_countHidden_55, rfl⟩ (q := 0) rfl ?_
    cases E
    exact hret _ _ _ ⟨dX3_countHidden_57, rfl⟩ rfl
  · intro k55 hk55 E
    refine g_sub (lv' := [(1, .ref (ad 13)), (2, .ref (ad 1)), (3, .long x3), (5, .int (0 : Int32)), (6, .int (0 : Int32))]) [3, 4, 5, 1, 0] rfl ?_
    refine fx3_of (P := fun (x5_3 : Int32) (x6_4 : Int32) (h_5 : Hp) => G l D X 8 (WC ad cy) 0 0 h_5 6 [(1, .ref (ad 13)), (2, .ref (ad 1)), (3, .long x3), (5, .int x5_3), (6, .int x6_4)] []) ?_ _ _ _ _ E
    intro self ih6 x5_3 x6_4 h_5 E
    show G l D X 8 (WC ad cy) 0 0 h_5 6 [(1, .ref (ad 13)), (2, .ref (ad 1)), (3, .long x3), (5, .int x5_3), (6, .int x6_4)] []
    unfold L_X3_countHidden_18_13_1_6 at E
    refine g_iload (pc' := 8) O ⟨dX3_countHidden_6, rfl⟩ (q := 4) rfl ?_
    refine g_aload_n (pc' := 9) O ⟨dX3_countHidden_8, rfl⟩ (q := 1) rfl rfl ?_
    refine gf_C_RX3_19_1 ad cy (pc' := 12) O ⟨dX3_countHidden_9, rfl⟩ ?_
    refine g_icmp_ge (pc' := 15) O ⟨dX3_countHidden_12, rfl⟩ E (tgt := 55) (by decide) (fun E => ?_) (fun E => ?_)
    · refine g_sub (lv' := [(5, .int x5_3)]) [3] rfl ?_
      exact hk55 _ _ E
    · refine g_iconst (pc' := 16) O ⟨dX3_countHidden_15, rfl⟩ (v := (0 : Int32)) rfl ?_
      refine g_istore (pc' := 18) O ⟨dX3_countHidden_16, rfl⟩ (lv' := [(7, .int (0 : Int32)), (1, .ref (ad 13)), (2, .ref (ad 1)), (3, .long x3), (5, .int x5_3), (6, .int x6_4)]) (by decide) rfl ?_
      refine jn2_of (P := fun (x5_6 : Int32) (h_7 : Hp) => G l D X 8 (WC ad cy) 0 0 h_7 49 [(1, .ref (ad 13)), (2, .ref (ad 1)), (3, .long x3), (5, .int x5_6), (6, .int x6_4)] []) E ?_ ?_
      · intro x5_6 h_7 E
        show G l D X 8 (WC ad cy) 0 0 h_7 49 [(1, .ref (ad 13)), (2, .ref (ad 1)), (3, .long x3), (5, .int x5_6), (6, .int x6_4)] []
        refine g_iinc (pc' := 52) O ⟨dX3_countHidden_49, rfl⟩ (q := 4) (v := x6_4 + (1 : Int32)) (lv' := [(6, .int (x6_4 + (1 : Int32))), (1, .ref (ad 13)), (2, .ref (ad 1)), (3, .long x3), (5, .int x5_6)]) rfl rfl (by decide) rfl ?_
        refine g_goto (pc' := 55) O ⟨dX3_countHidden_52, rfl⟩ (tgt := 6) (by decide) ?_
        refine g_sub (lv' := [(1, .ref (ad 13)), (2, .ref (ad 1)), (3, .long x3), (5, .int x5_6), (6, .int (x6_4 + (1 : Int32)))]) [1, 2, 3, 4, 0] rfl ?_
        exact ih6 _ _ _ E
      · intro k49 hk49 E
        refine g_sub (lv' := [(1, .ref (ad 13)), (2, .ref (ad 1)), (3, .long x3), (5, .int x5_3), (6, .int x6_4), (7, .int (0 : Int32))]) [1, 2, 3, 4, 5, 0] rfl ?_
        refine fx3_of (P := fun (x5_8 : Int32) (x7_9 : Int32) (h_10 : Hp) => G l D X 8 (WC ad cy) 0 0 h_10 18 [(1, .ref (ad 13)), (2, .ref (ad 1)), (3, .long x3), (5, .int x5_8), (6, .int x6_4), (7, .int x7_9)] []) ?_ _ _ _ _ E
        intro self ih18 x5_8 x7_9 h_10 E
        show G l D X 8 (WC ad cy) 0 0 h_10 18 [(1, .ref (ad 13)), (2, .ref (ad 1)), (3, .long x3), (5, .int x5_8), (6, .int x6_4), (7, .int x7_9)] []
        unfold L_X3_countHidden_18_13_1_18 at E
        refine g_iload (pc' := 20) O ⟨dX3_countHidden_18, rfl⟩ (q := 5) rfl ?_
        refine g_iconst (pc' := 21) O ⟨dX3_countHidden_20, rfl⟩ (v := (2 : Int32)) rfl ?_
        refine g_icmp_gt (pc' := 24) O ⟨dX3_countHidden_21, rfl⟩ E (tgt := 49) (by decide) (fun E => ?_) (fun E => ?_)
        · refine g_sub (lv' := [(1, .ref (ad 13)), (2, .ref (ad 1)), (3, .long x3), (5, .int x5_8), (6, .int x6_4)]) [0, 1, 2, 3, 4] rfl ?_
          exact hk49 _ _ E
        · refine g_aload_n (pc' := 25) O ⟨dX3_countHidden_24, rfl⟩ (q := 0) rfl rfl ?_
          refine g_aload_n (pc' := 26) O ⟨dX3_countHidden_25, rfl⟩ (q := 1) rfl rfl ?_
          refine g_iload (pc' := 28) O ⟨dX3_countHidden_26, rfl⟩ (q := 4) rfl ?_
          refine g_iload (pc' := 30) O ⟨dX3_countHidden_28, rfl⟩ (q := 5) rfl ?_
          obtain ⟨r_11, c_12, E⟩ := bd_of E
          refine g_Vl (pc' := 33) O ⟨dX3_countHidden_30, rfl⟩ (y := yX4_telling) (As := [.ref (ad 1), .int x6_4, .int x7_9]) (st := []) (t_X4_telling_13_1 l D ad cy (h := h_10) c_12) kw_821 kw_28 kw_818 kw_819 kw_820 rfl (wC_13 ad cy h_10) hd_X4_telling ⟨Nat.le_of_ble_eq_true rfl, Nat.le_of_ble_eq_true rfl⟩ ⟨Nat.le_of_ble_eq_true rfl, Nat.le_of_ble_eq_true rfl⟩ rfl (Nat.le_of_ble_eq_true rfl) ?_
          refine g_lload_n (pc' := 34) O ⟨dX3_countHidden_33, rfl⟩ (q := 2) rfl rfl ?_
          refine g_land (pc' := 35) O ⟨dX3_countHidden_34, rfl⟩ ?_
          refine g_lconst (pc' := 36) O ⟨dX3_countHidden_35, rfl⟩ (v := (0 : Int64)) rfl ?_
          refine g_lcmp (pc' := 37) O ⟨dX3_countHidden_36, rfl⟩ ?_
          refine g_if_ne (pc' := 40) O ⟨dX3_countHidden_37, rfl⟩ E (tgt := 43) (by decide) (fun E => ?_) (fun E => ?_)
          · refine g_iinc (pc' := 46) O ⟨dX3_countHidden_43, rfl⟩ (q := 5) (v := x7_9 + (1 : Int32)) (lv' := [(7, .int (x7_9 + (1 : Int32))), (1, .ref (ad 13)), (2, .ref (ad 1)), (3, .long x3), (5, .int x5_8), (6, .int x6_4)]) rfl rfl (by decide) rfl ?_
            refine g_goto (pc' := 49) O ⟨dX3_countHidden_46, rfl⟩ (tgt := 18) (by decide) ?_
            refine g_sub (lv' := [(1, .ref (ad 13)), (2, .ref (ad 1)), (3, .long x3), (5, .int x5_8), (6, .int x6_4), (7, .int (x7_9 + (1 : Int32)))]) [1, 2, 3, 4, 5, 0] rfl ?_
            exact ih18 _ _ _ E
          · refine g_iinc (pc' := 43) O ⟨dX3_countHidden_40, rfl⟩ (q := 3) (v := x5_8 + (1 : Int32)) (lv' := [(5, .int (x5_8 + (1 : Int32))), (1, .ref (ad 13)), (2, .ref (ad 1)), (3, .long x3), (6, .int x6_4), (7, .int x7_9)]) rfl rfl (by decide) rfl ?_
            refine g_iinc (pc' := 46) O ⟨dX3_countHidden_43, rfl⟩ (q := 5) (v := x7_9 + (1 : Int32)) (lv' := [(7, .int (x7_9 + (1 : Int32))), (5, .int (x5_8 + (1 : Int32))), (1, .ref (ad 13)), (2, .ref (ad 1)), (3, .long x3), (6, .int x6_4)]) rfl rfl (by decide) rfl ?_
            refine g_goto (pc' := 49) O ⟨dX3_countHidden_46, rfl⟩ (tgt := 18) (by decide) ?_
            refine g_sub (lv' := [(1, .ref (ad 13)), (2, .ref (ad 1)), (3, .long x3), (5, .int (x5_8 + (1 : Int32))), (6, .int x6_4), (7, .int (x7_9 + (1 : Int32)))]) [2, 3, 4, 1, 5, 0] rfl ?_
            exact ih18 _ _ _ E
set_option maxRecDepth 100000 in
set_option maxHeartbeats 4000000 in
theorem t_X10_hidden (l : Launch) (D : va_G) (ad : Nat → Nat) (cy : Nat → ClassId) {h : Hp} {x1 : Int64} {o : Int32 × Hp} (E : f_X10_hidden h x1 = some o) : CtI l D cy (WC ad cy) yX10_hidden cX10_hidden 3 .int 6 142 [.ref (ad 0), .long x1] h o.1 o.2 := by
  refine sI (own := RX10) rfl rfl (Nat.le_of_ble_eq_true rfl) (fun X O hret => ?_)
  show G l D X 3 (WC ad cy) 0 0 h 0 [(0, .ref (ad 0)), (1, .long x1)] []
  unfold f_X10_hidden at E
  refine g_aload_n (pc' := 1) O ⟨dX10_hidden_0, rfl⟩ (q := 0) rfl rfl ?_
  refine gf_C_RX10_36_0 ad cy (pc' := 4) O ⟨dX10_hidden_1, rfl⟩ ?_
  refine g_aload_n (pc' := 5) O ⟨dX10_hidden_4, rfl⟩ (q := 0) rfl rfl ?_
  refine gf_C_RX10_29_0 ad cy (pc' := 8) O ⟨dX10_hidden_5, rfl⟩ ?_
  refine g_aload_n (pc' := 9) O ⟨dX10_hidden_8, rfl⟩ (q := 0) rfl rfl ?_
  refine gf_C_RX10_10_0 ad cy (pc' := 12) O ⟨dX10_hidden_9, rfl⟩ ?_
  refine g_lload_n (pc' := 13) O ⟨dX10_hidden_12, rfl⟩ (q := 1) rfl rfl ?_
  obtain ⟨r_1, c_2, E⟩ := bd_of E
  refine g_Vi (pc' := 16) O ⟨dX10_hidden_13, rfl⟩ (y := yX3_countHidden) (As := [.ref (ad 13), .ref (ad 1), .long x1]) (st := []) (t_X3_countHidden_18_13_1 l D ad cy (h := h) c_2) kw_817 kw_30 kw_814 kw_815 kw_816 rfl (wC_18 ad cy h) hd_X3_countHidden ⟨Nat.le_of_ble_eq_true rfl, Nat.le_of_ble_eq_true rfl⟩ ⟨Nat.le_of_ble_eq_true rfl, Nat.le_of_ble_eq_true rfl⟩ rfl (Nat.le_of_ble_eq_true rfl) ?_
  cases E
  exact hret _ _ _ ⟨dX10_hidden_16, rfl⟩ rfl
set_option maxRecDepth 100000 in
set_option maxHeartbeats 4000000 in
theorem t_X3_canTell_19 (l : Launch) (D : va_G) (ad : Nat → Nat) (cy : Nat → ClassId) : ∀ (d : Nat) {h : Hp} {x1 : Int32} {x2 : Int64} {x4 : Int64} {x6 : Int32}{o : Int32}, f_X3_canTell_19 d h x1 x2 x4 x6 = some o → CtI l D cy (WC ad cy) yX3_canTell cX3_canTell 17 .boolean (1 + d) (21 + d * 36) [.ref (ad 19), .int x1, .long x2, .long x4, .int x6] h o h := by
  intro d
  induction d with
  | zero => intro h x1 x2 x4 x6 o E; cases E
  | succ d ihd =>
    intro h x1 x2 x4 x6 o E
    refine sI (own := RX3) rfl rfl (Nat.le_of_ble_eq_true rfl) (fun X O hret => ?_)
    show G l D X 17 (WC ad cy) 0 0 h 0 [(0, .ref (ad 19)), (1, .int x1), (2, .long x2), (4, .long x4), (6, .int x6)] []
    unfold f_X3_canTell_19 at E
    refine g_ldc2 (pc' := 3) O ⟨dX3_canTell_0, rfl⟩ kw_848 ?_
    refine g_lstore (pc' := 5) O ⟨dX3_canTell_3, rfl⟩ (lv' := [(7, .long (-1 : Int64)), (0, .ref (ad 19)), (1, .int x1), (2, .long x2), (4, .long x4), (6, .int x6)]) (by decide) rfl ?_
    refine g_lconst (pc' := 6) O ⟨dX3_canTell_5, rfl⟩ (v := (0 : Int64)) rfl ?_
    refine g_lstore (pc' := 8) O ⟨dX3_canTell_6, rfl⟩ (lv' := [(9, .long (0 : Int64)), (7, .long (-1 : Int64)), (0, .ref (ad 19)), (1, .int x1), (2, .long x2), (4, .long x4), (6, .int x6)]) (by decide) rfl ?_
    refine g_bipush (pc' := 10) O ⟨dX3_canTell_8, rfl⟩ (v := (65 : Int32)) rfl ?_
    refine g_istore (pc' := 12) O ⟨dX3_canTell_10, rfl⟩ (lv' := [(11, .int (65 : Int32)), (9, .long (0 : Int64)), (7, .long (-1 : Int64)), (0, .ref (ad 19)), (1, .int x1), (2, .long x2), (4, .long x4), (6, .int x6)]) (by decide) rfl ?_
    refine g_iconst (pc' := 13) O ⟨dX3_canTell_12, rfl⟩ (v := (0 : Int32)) rfl ?_
    refine g_istore (pc' := 15) O ⟨dX3_canTell_13, rfl⟩ (lv' := [(12, .int (0 : Int32)), (11, .int (65 : Int32)), (9, .long (0 : Int64)), (7, .long (-1 : Int64)), (0, .ref (ad 19)), (1, .int x1), (2, .long x2), (4, .long x4), (6, .int x6)]) (by decide) rfl ?_
    refine jn3_of (P := fun (x7_1 : Int64) (x9_2 : Int64) (x11_3 : Int32) => G l D X 17 (WC ad cy) 0 0 h 79 [(0, .ref (ad 19)), (1, .int x1), (2, .long x2), (4, .long x4), (6, .int x6), (7, .long x7_1), (9, .long x9_2), (11, .int x11_3)] []) E ?_ ?_
    · intro x7_1 x9_2 x11_3 E
      show G l D X 17 (WC ad cy) 0 0 h 79 [(0, .ref (ad 19)), (1, .int x1), (2, .long x2), (4, .long x4), (6, .int x6), (7, .long x7_1), (9, .long x9_2), (11, .int x11_3)] []
      refine g_iload (pc' := 81) O ⟨dX3_canTell_79, rfl⟩ (q := 7) rfl ?_
      refine g_bipush (pc' := 83) O ⟨dX3_canTell_81, rfl⟩ (v := (65 : Int32)) rfl ?_
      refine g_icmp_ne (pc' := 86) O ⟨dX3_canTell_83, rfl⟩ E (tgt := 88) (by decide) (fun E => ?_) (fun E => ?_)
      · refine g_iload (pc' := 90) O ⟨dX3_canTell_88, rfl⟩ (q := 4) rfl ?_
        refine g_iconst (pc' := 91) O ⟨dX3_canTell_90, rfl⟩ (v := (1 : Int32)) rfl ?_
        refine g_icmp_gt (pc' := 94) O ⟨dX3_canTell_91, rfl⟩ E (tgt := 113) (by decide) (fun E => ?_) (fun E => ?_)
        · refine g_lload (pc' := 115) O ⟨dX3_canTell_113, rfl⟩ (q := 3) rfl ?_
          refine g_lstore (pc' := 117) O ⟨dX3_canTell_115, rfl⟩ (lv' := [(12, .long x4), (0, .ref (ad 19)), (1, .int x1), (2, .long x2), (4, .long x4), (6, .int x6), (7, .long x7_1), (9, .long x9_2), (11, .int x11_3)]) (by decide) rfl ?_
          refine g_iconst (pc' := 118) O ⟨dX3_canTell_117, rfl⟩ (v := (0 : Int32)) rfl ?_
          refine g_istore (pc' := 120) O ⟨dX3_canTell_118, rfl⟩ (lv' := [(14, .int (0 : Int32)), (12, .long x4), (0, .ref (ad 19)), (1, .int x1), (2, .long x2), (4, .long x4), (6, .int x6), (7, .long x7_1), (9, .long x9_2), (11, .int x11_3)]) (by decide) rfl ?_
          refine jn0_of (P := G l D X 17 (WC ad cy) 0 0 h 176 [] []) E ?_ ?_
          · intro E
            show G l D X 17 (WC ad cy) 0 0 h 176 [] []
            refine g_iconst (pc' := 177) O ⟨dX3_canTell_176, rfl⟩ (v := (0 : Int32)) rfl ?_
            obtain ⟨hn, E⟩ := ckz_of E
            cases E
            exact hret _ _ _ ⟨dX3_canTell_177, rfl⟩ hn
          · intro k176 hk176 E
            refine jn0_of (P := G l D X 17 (WC ad cy) 0 0 h 161 [] []) E ?_ ?_
            · intro E
              show G l D X 17 (WC ad cy) 0 0 h 161 [] []
              refine g_iconst (pc' := 162) O ⟨dX3_canTell_161, rfl⟩ (v := (1 : Int32)) rfl ?_
              obtain ⟨hn, E⟩ := ckz_of E
              cases E
              exact hret _ _ _ ⟨dX3_canTell_162, rfl⟩ hn
            · intro k161 hk161 E
              refine g_sub (lv' := [(0, .ref (ad 19)), (1, .int x1), (2, .long x2), (6, .int x6), (9, .long x9_2), (12, .long x4), (14, .int (0 : Int32))]) [2, 3, 4, 6, 8, 1, 0] rfl ?_
              refine fx2_of (P := fun (x12_4 : Int64) (x14_5 : Int32) => G l D X 17 (WC ad cy) 0 0 h 120 [(0, .ref (ad 19)), (1, .int x1), (2, .long x2), (6, .int x6), (9, .long x9_2), (12, .long x12_4), (14, .int x14_5)] []) ?_ _ _ _ E
              intro self ih120 x12_4 x14_5 E
              show G l D X 17 (WC ad cy) 0 0 h 120 [(0, .ref (ad 19)), (1, .int x1), (2, .long x2), (6, .int x6), (9, .long x9_2), (12, .long x12_4), (14, .int x14_5)] []
              unfold L_X3_canTell_19_120 at E
              refine g_iload (pc' := 122) O ⟨dX3_canTell_120, rfl⟩ (q := 6) rfl ?_
              refine g_bipush (pc' := 124) O ⟨dX3_canTell_122, rfl⟩ (v := (64 : Int32)) rfl ?_
              refine g_icmp_ge (pc' := 127) O ⟨dX3_canTell_124, rfl⟩ E (tgt := 176) (by decide) (fun E => ?_) (fun E => ?_)
              · refine g_sub (lv' := []) [] rfl ?_
                exact hk176 E
              · refine g_lconst (pc' := 128) O ⟨dX3_canTell_127, rfl⟩ (v := (1 : Int64)) rfl ?_
                refine g_iload (pc' := 130) O ⟨dX3_canTell_128, rfl⟩ (q := 6) rfl ?_
                refine g_lshl (pc' := 131) O ⟨dX3_canTell_130, rfl⟩ ?_
                refine g_nmL E (fun y15_6 E => ?_)
                refine g_lstore (pc' := 133) O ⟨dX3_canTell_131, rfl⟩ (lv' := [(15, .long y15_6), (0, .ref (ad 19)), (1, .int x1), (2, .long x2), (6, .int x6), (9, .long x9_2), (12, .long x12_4), (14, .int x14_5)]) (by decide) rfl ?_
                refine g_lload (pc' := 135) O ⟨dX3_canTell_133, rfl⟩ (q := 5) rfl ?_
                refine g_lload (pc' := 137) O ⟨dX3_canTell_135, rfl⟩ (q := 0) rfl ?_
                refine g_land (pc' := 138) O ⟨dX3_canTell_137, rfl⟩ ?_
                refine g_lconst (pc' := 139) O ⟨dX3_canTell_138, rfl⟩ (v := (0 : Int64)) rfl ?_
                refine g_lcmp (pc' := 140) O ⟨dX3_canTell_139, rfl⟩ ?_
                refine g_if_eq (pc' := 143) O ⟨dX3_canTell_140, rfl⟩ E (tgt := 170) (by decide) (fun E => ?_) (fun E => ?_)
                · refine g_iinc (pc' := 173) O ⟨dX3_canTell_170, rfl⟩ (q := 7) (v := x14_5 + (1 : Int32)) (lv' := [(14, .int (x14_5 + (1 : Int32))), (15, .long y15_6), (0, .ref (ad 19)), (1, .int x1), (2, .long x2), (6, .int x6), (9, .long x9_2), (12, .long x12_4)]) rfl rfl (by decide) rfl ?_
                  refine g_goto (pc' := 176) O ⟨dX3_canTell_173, rfl⟩ (tgt := 120) (by decide) ?_
                  refine g_sub (lv' := [(0, .ref (ad 19)), (1, .int x1), (2, .long x2), (6, .int x6), (9, .long x9_2), (12, .long x12_4), (14, .int (x14_5 + (1 : Int32)))]) [2, 3, 4, 5, 6, 7, 0] rfl ?_
                  exact ih120 _ _ E
                · refine g_aload_n (pc' := 144) O ⟨dX3_canTell_143, rfl⟩ (q := 1) rfl rfl ?_
                  refine g_iload_n (pc' := 145) O ⟨dX3_canTell_144, rfl⟩ (q := 2) rfl rfl ?_
                  refine g_lload_n (pc' := 146) O ⟨dX3_canTell_145, rfl⟩ (q := 3) rfl rfl ?_
                  refine g_lload (pc' := 148) O ⟨dX3_canTell_146, rfl⟩ (q := 0) rfl ?_
                  refine g_lor (pc' := 149) O ⟨dX3_canTell_148, rfl⟩ ?_
                  refine g_lload (pc' := 151) O ⟨dX3_canTell_149, rfl⟩ (q := 6) rfl ?_
                  refine g_iload (pc' := 153) O ⟨dX3_canTell_151, rfl⟩ (q := 4) rfl ?_
                  refine g_iconst (pc' := 154) O ⟨dX3_canTell_153, rfl⟩ (v := (1 : Int32)) rfl ?_
                  refine g_isub (pc' := 155) O ⟨dX3_canTell_154, rfl⟩ ?_
                  obtain ⟨r_7, c_8, E⟩ := bd_of E
                  refine g_Si (pc' := 158) O ⟨dX3_canTell_155, rfl⟩ (y := yX3_canTell) (As := [.ref (ad 19), .int x1, .long (x2 ||| y15_6), .long x12_4, .int (x6 - (1 : Int32))]) (st := []) (ihd (h := h) c_8) kw_851 kw_30 kw_849 kw_850 hd_X3_canTell ⟨by simp only [RM]; omega, by simp only [RM]; omega⟩ ⟨Nat.le_of_ble_eq_true rfl, Nat.le_of_ble_eq_true rfl⟩ rfl (Nat.le_of_ble_eq_true rfl) ?_
                  refine g_if_eq (pc' := 161) O ⟨dX3_canTell_158, rfl⟩ E (tgt := 163) (by decide) (fun E => ?_) (fun E => ?_)
                  · refine g_lload (pc' := 165) O ⟨dX3_canTell_163, rfl⟩ (q := 6) rfl ?_
                    refine g_lload (pc' := 167) O ⟨dX3_canTell_165, rfl⟩ (q := 0) rfl ?_
                    refine g_lor (pc' := 168) O ⟨dX3_canTell_167, rfl⟩ ?_
                    refine g_nmL E (fun y12_9 E => ?_)
                    refine g_lstore (pc' := 170) O ⟨dX3_canTell_168, rfl⟩ (lv' := [(12, .long y12_9), (15, .long y15_6), (0, .ref (ad 19)), (1, .int x1), (2, .long x2), (6, .int x6), (9, .long x9_2), (14, .int x14_5)]) (by decide) rfl ?_
                    refine g_iinc (pc' := 173) O ⟨dX3_canTell_170, rfl⟩ (q := 7) (v := x14_5 + (1 : Int32)) (lv' := [(14, .int (x14_5 + (1 : Int32))), (12, .long y12_9), (15, .long y15_6), (0, .ref (ad 19)), (1, .int x1), (2, .long x2), (6, .int x6), (9, .long x9_2)]) rfl rfl (by decide) rfl ?_
                    refine g_goto (pc' := 176) O ⟨dX3_canTell_173, rfl⟩ (tgt := 120) (by decide) ?_
                    refine g_sub (lv' := [(0, .ref (ad 19)), (1, .int x1), (2, .long x2), (6, .int x6), (9, .long x9_2), (12, .long y12_9), (14, .int (x14_5 + (1 : Int32)))]) [3, 4, 5, 6, 7, 1, 0] rfl ?_
                    exact ih120 _ _ E
                  · refine g_sub (lv' := []) [] rfl ?_
                    exact hk161 E
        · refine g_iload (pc' := 96) O ⟨dX3_canTell_94, rfl⟩ (q := 4) rfl ?_
          refine g_iconst (pc' := 97) O ⟨dX3_canTell_96, rfl⟩ (v := (1 : Int32)) rfl ?_
          refine g_icmp_ne (pc' := 100) O ⟨dX3_canTell_97, rfl⟩ E (tgt := 111) (by decide) (fun E => ?_) (fun E => ?_)
          · refine g_iconst (pc' := 112) O ⟨dX3_canTell_111, rfl⟩ (v := (0 : Int32)) rfl ?_
            obtain ⟨hn, E⟩ := ckz_of E
            cases E
            exact hret _ _ _ ⟨dX3_canTell_112, rfl⟩ hn
          · refine g_lload (pc' := 102) O ⟨dX3_canTell_100, rfl⟩ (q := 5) rfl ?_
            refine g_lconst (pc' := 103) O ⟨dX3_canTell_102, rfl⟩ (v := (0 : Int64)) rfl ?_
            refine g_lcmp (pc' := 104) O ⟨dX3_canTell_103, rfl⟩ ?_
            refine g_if_eq (pc' := 107) O ⟨dX3_canTell_104, rfl⟩ E (tgt := 111) (by decide) (fun E => ?_) (fun E => ?_)
            · refine g_iconst (pc' := 112) O ⟨dX3_canTell_111, rfl⟩ (v := (0 : Int32)) rfl ?_
              obtain ⟨hn, E⟩ := ckz_of E
              cases E
              exact hret _ _ _ ⟨dX3_canTell_112, rfl⟩ hn
            · refine g_iconst (pc' := 108) O ⟨dX3_canTell_107, rfl⟩ (v := (1 : Int32)) rfl ?_
              refine g_goto (pc' := 111) O ⟨dX3_canTell_108, rfl⟩ (tgt := 112) (by decide) ?_
              obtain ⟨hn, E⟩ := ckz_of E
              cases E
              exact hret _ _ _ ⟨dX3_canTell_112, rfl⟩ hn
      · refine g_iconst (pc' := 87) O ⟨dX3_canTell_86, rfl⟩ (v := (1 : Int32)) rfl ?_
        obtain ⟨hn, E⟩ := ckz_of E
        cases E
        exact hret _ _ _ ⟨dX3_canTell_87, rfl⟩ hn
    · intro k79 hk79 E
      refine g_sub (lv' := [(0, .ref (ad 19)), (1, .int x1), (2, .long x2), (4, .long x4), (6, .int x6), (7, .long (-1 : Int64)), (9, .long (0 : Int64)), (11, .int (65 : Int32)), (12, .int (0 : Int32))]) [4, 5, 6, 7, 8, 3, 2, 1, 0] rfl ?_
      refine fx4_of (P := fun (x7_10 : Int64) (x9_11 : Int64) (x11_12 : Int32) (x12_13 : Int32) => G l D X 17 (WC ad cy) 0 0 h 15 [(0, .ref (ad 19)), (1, .int x1), (2, .long x2), (4, .long x4), (6, .int x6), (7, .long x7_10), (9, .long x9_11), (11, .int x11_12), (12, .int x12_13)] []) ?_ _ _ _ _ _ E
      intro self ih15 x7_10 x9_11 x11_12 x12_13 E
      show G l D X 17 (WC ad cy) 0 0 h 15 [(0, .ref (ad 19)), (1, .int x1), (2, .long x2), (4, .long x4), (6, .int x6), (7, .long x7_10), (9, .long x9_11), (11, .int x11_12), (12, .int x12_13)] []
      unfold L_X3_canTell_19_15 at E
      refine g_iload (pc' := 17) O ⟨dX3_canTell_15, rfl⟩ (q := 8) rfl ?_
      refine g_iload_n (pc' := 18) O ⟨dX3_canTell_17, rfl⟩ (q := 1) rfl rfl ?_
      refine g_icmp_ge (pc' := 21) O ⟨dX3_canTell_18, rfl⟩ E (tgt := 79) (by decide) (fun E => ?_) (fun E => ?_)
      · refine g_sub (lv' := [(0, .ref (ad 19)), (1, .int x1), (2, .long x2), (4, .long x4), (6, .int x6), (7, .long x7_10), (9, .long x9_11), (11, .int x11_12)]) [0, 1, 2, 3, 4, 5, 6, 7] rfl ?_
        exact hk79 _ _ _ E
      · refine g_aload_n (pc' := 22) O ⟨dX3_canTell_21, rfl⟩ (q := 0) rfl rfl ?_
        refine g_iload (pc' := 24) O ⟨dX3_canTell_22, rfl⟩ (q := 8) rfl ?_
        refine g_lald (pc' := 25) O ⟨dX3_canTell_24, rfl⟩ (wC_19 ad cy h) E (fun E => ?_)
        refine g_lload_n (pc' := 26) O ⟨dX3_canTell_25, rfl⟩ (q := 2) rfl rfl ?_
        refine g_land (pc' := 27) O ⟨dX3_canTell_26, rfl⟩ ?_
        refine g_lconst (pc' := 28) O ⟨dX3_canTell_27, rfl⟩ (v := (0 : Int64)) rfl ?_
        refine g_lcmp (pc' := 29) O ⟨dX3_canTell_28, rfl⟩ ?_
        refine g_if_ne (pc' := 32) O ⟨dX3_canTell_29, rfl⟩ E (tgt := 73) (by decide) (fun E => ?_) (fun E => ?_)
        · refine g_iinc (pc' := 76) O ⟨dX3_canTell_73, rfl⟩ (q := 8) (v := x12_13 + (1 : Int32)) (lv' := [(12, .int (x12_13 + (1 : Int32))), (0, .ref (ad 19)), (1, .int x1), (2, .long x2), (4, .long x4), (6, .int x6), (7, .long x7_10), (9, .long x9_11), (11, .int x11_12)]) rfl rfl (by decide) rfl ?_
          refine g_goto (pc' := 79) O ⟨dX3_canTell_76, rfl⟩ (tgt := 15) (by decide) ?_
          refine g_sub (lv' := [(0, .ref (ad 19)), (1, .int x1), (2, .long x2), (4, .long x4), (6, .int x6), (7, .long x7_10), (9, .long x9_11), (11, .int x11_12), (12, .int (x12_13 + (1 : Int32)))]) [1, 2, 3, 4, 5, 6, 7, 8, 0] rfl ?_
          exact ih15 _ _ _ _ E
        · refine g_aload_n (pc' := 33) O ⟨dX3_canTell_32, rfl⟩ (q := 0) rfl rfl ?_
          refine g_iload (pc' := 35) O ⟨dX3_canTell_33, rfl⟩ (q := 8) rfl ?_
          refine g_lald (pc' := 36) O ⟨dX3_canTell_35, rfl⟩ (wC_19 ad cy h) E (fun E => ?_)
          refine g_lload (pc' := 38) O ⟨dX3_canTell_36, rfl⟩ (q := 3) rfl ?_
          refine g_ldc2 (pc' := 41) O ⟨dX3_canTell_38, rfl⟩ kw_848 ?_
          refine g_lxor (pc' := 42) O ⟨dX3_canTell_41, rfl⟩ ?_
          refine g_land (pc' := 43) O ⟨dX3_canTell_42, rfl⟩ ?_
          refine g_nmL E (fun y13_14 E => ?_)
          refine g_lstore (pc' := 45) O ⟨dX3_canTell_43, rfl⟩ (lv' := [(13, .long y13_14), (0, .ref (ad 19)), (1, .int x1), (2, .long x2), (4, .long x4), (6, .int x6), (7, .long x7_10), (9, .long x9_11), (11, .int x11_12), (12, .int x12_13)]) (by decide) rfl ?_
          refine g_lload (pc' := 47) O ⟨dX3_canTell_45, rfl⟩ (q := 6) rfl ?_
          refine g_lload (pc' := 49) O ⟨dX3_canTell_47, rfl⟩ (q := 0) rfl ?_
          refine g_land (pc' := 50) O ⟨dX3_canTell_49, rfl⟩ ?_
          refine g_nmL E (fun y7_15 E => ?_)
          refine g_lstore (pc' := 52) O ⟨dX3_canTell_50, rfl⟩ (lv' := [(7, .long y7_15), (13, .long y13_14), (0, .ref (ad 19)), (1, .int x1), (2, .long x2), (4, .long x4), (6, .int x6), (9, .long x9_11), (11, .int x11_12), (12, .int x12_13)]) (by decide) rfl ?_
          refine g_lload (pc' := 54) O ⟨dX3_canTell_52, rfl⟩ (q := 1) rfl ?_
          obtain ⟨r_16, c_17, E⟩ := bd_of E
          refine g_Si (pc' := 57) O ⟨dX3_canTell_54, rfl⟩ (y := yJ13_bitCount_95d88) (As := [.long y13_14]) (st := []) (t_J13_bitCount l D ad cy (h := h) c_17) kw_664 kw_43 kw_852 kw_663 hd_J13_bitCount_95d88 ⟨by simp only [RM]; omega, by simp only [RM]; omega⟩ ⟨Nat.le_of_ble_eq_true rfl, Nat.le_of_ble_eq_true rfl⟩ rfl (Nat.le_of_ble_eq_true rfl) ?_
          refine g_iload (pc' := 59) O ⟨dX3_canTell_57, rfl⟩ (q := 8) rfl ?_
          refine g_icmp_ge (pc' := 62) O ⟨dX3_canTell_59, rfl⟩ E (tgt := 73) (by decide) (fun E => ?_) (fun E => ?_)
          · refine g_iinc (pc' := 76) O ⟨dX3_canTell_73, rfl⟩ (q := 9) (v := x12_13 + (1 : Int32)) (lv' := [(12, .int (x12_13 + (1 : Int32))), (7, .long y7_15), (13, .long y13_14), (0, .ref (ad 19)), (1, .int x1), (2, .long x2), (4, .long x4), (6, .int x6), (9, .long x9_11), (11, .int x11_12)]) rfl rfl (by decide) rfl ?_
            refine g_goto (pc' := 79) O ⟨dX3_canTell_76, rfl⟩ (tgt := 15) (by decide) ?_
            refine g_sub (lv' := [(0, .ref (ad 19)), (1, .int x1), (2, .long x2), (4, .long x4), (6, .int x6), (7, .long y7_15), (9, .long x9_11), (11, .int x11_12), (12, .int (x12_13 + (1 : Int32)))]) [3, 4, 5, 6, 7, 1, 8, 9, 0] rfl ?_
            exact ih15 _ _ _ _ E
          · refine g_lload (pc' := 64) O ⟨dX3_canTell_62, rfl⟩ (q := 1) rfl ?_
            obtain ⟨r_18, c_19, E⟩ := bd_of E
            refine g_Si (pc' := 67) O ⟨dX3_canTell_64, rfl⟩ (y := yJ13_bitCount_95d88) (As := [.long y13_14]) (st := []) (t_J13_bitCount l D ad cy (h := h) c_19) kw_664 kw_43 kw_852 kw_663 hd_J13_bitCount_95d88 ⟨by simp only [RM]; omega, by simp only [RM]; omega⟩ ⟨Nat.le_of_ble_eq_true rfl, Nat.le_of_ble_eq_true rfl⟩ rfl (Nat.le_of_ble_eq_true rfl) ?_
            refine g_istore (pc' := 69) O ⟨dX3_canTell_67, rfl⟩ (lv' := [(11, .int r_18), (7, .long y7_15), (13, .long y13_14), (0, .ref (ad 19)), (1, .int x1), (2, .long x2), (4, .long x4), (6, .int x6), (9, .long x9_11), (12, .int x12_13)]) (by decide) rfl ?_
            refine g_lload (pc' := 71) O ⟨dX3_canTell_69, rfl⟩ (q := 2) rfl ?_
            refine g_lstore (pc' := 73) O ⟨dX3_canTell_71, rfl⟩ (lv' := [(9, .long y13_14), (11, .int r_18), (7, .long y7_15), (13, .long y13_14), (0, .ref (ad 19)), (1, .int x1), (2, .long x2), (4, .long x4), (6, .int x6), (12, .int x12_13)]) (by decide) rfl ?_
            refine g_iinc (pc' := 76) O ⟨dX3_canTell_73, rfl⟩ (q := 9) (v := x12_13 + (1 : Int32)) (lv' := [(12, .int (x12_13 + (1 : Int32))), (9, .long y13_14), (11, .int r_18), (7, .long y7_15), (13, .long y13_14), (0, .ref (ad 19)), (1, .int x1), (2, .long x2), (4, .long x4), (6, .int x6)]) rfl rfl (by decide) rfl ?_
            refine g_goto (pc' := 79) O ⟨dX3_canTell_76, rfl⟩ (tgt := 15) (by decide) ?_
            refine g_sub (lv' := [(0, .ref (ad 19)), (1, .int x1), (2, .long x2), (4, .long x4), (6, .int x6), (7, .long y7_15), (9, .long y13_14), (11, .int r_18), (12, .int (x12_13 + (1 : Int32)))]) [5, 6, 7, 8, 9, 3, 1, 2, 0] rfl ?_
            exact ih15 _ _ _ _ E
set_option maxRecDepth 100000 in
set_option maxHeartbeats 4000000 in
theorem t_X3_keep_18 (l : Launch) (D : va_G) (ad : Nat → Nat) (cy : Nat → ClassId) {h : Hp} {x1 : Int64} {o : Hp} (E : f_X3_keep_18 h x1 = some o) : CtV l D cy (WC ad cy) yX3_keep cX3_keep 5 0 0 [.ref (ad 18), .long x1] h o := by
  refine sV (own := RX3) rfl rfl (Nat.le_of_ble_eq_true rfl) (fun X O hret => ?_)
  show G l D X 5 (WC ad cy) 0 0 h 0 [(0, .ref (ad 18)), (1, .long x1)] []
  unfold f_X3_keep_18 at E
  refine g_lload_n (pc' := 1) O ⟨dX3_keep_0, rfl⟩ (q := 1) rfl rfl ?_
  refine g_lconst (pc' := 2) O ⟨dX3_keep_1, rfl⟩ (v := (0 : Int64)) rfl ?_
  refine g_lcmp (pc' := 3) O ⟨dX3_keep_2, rfl⟩ ?_
  refine g_if_ne (pc' := 6) O ⟨dX3_keep_3, rfl⟩ E (tgt := 7) (by decide) (fun E => ?_) (fun E => ?_)
  · refine g_iconst (pc' := 8) O ⟨dX3_keep_7, rfl⟩ (v := (0 : Int32)) rfl ?_
    refine g_istore_n (pc' := 9) O ⟨dX3_keep_8, rfl⟩ (lv' := [(3, .int (0 : Int32)), (0, .ref (ad 18)), (1, .long x1)]) rfl (by decide) rfl ?_
    refine g_iconst (pc' := 10) O ⟨dX3_keep_9, rfl⟩ (v := (0 : Int32)) rfl ?_
    refine g_istore (pc' := 12) O ⟨dX3_keep_10, rfl⟩ (lv' := [(4, .int (0 : Int32)), (3, .int (0 : Int32)), (0, .ref (ad 18)), (1, .long x1)]) (by decide) rfl ?_
    refine jn0_of (P := G l D X 5 (WC ad cy) 0 0 h 46 [(0, .ref (ad 18)), (1, .long x1), (3, .int (0 : Int32))] []) E ?_ ?_
    · intro E
      show G l D X 5 (WC ad cy) 0 0 h 46 [(0, .ref (ad 18)), (1, .long x1), (3, .int (0 : Int32))] []
      refine g_iconst (pc' := 47) O ⟨dX3_keep_46, rfl⟩ (v := (0 : Int32)) rfl ?_
      refine g_istore (pc' := 49) O ⟨dX3_keep_47, rfl⟩ (lv' := [(4, .int (0 : Int32)), (0, .ref (ad 18)), (1, .long x1), (3, .int (0 : Int32))]) (by decide) rfl ?_
      refine jn2_of (P := fun (x3_1 : Int32) (h_2 : Hp) => G l D X 5 (WC ad cy) 0 0 h_2 98 [(0, .ref (ad 18)), (1, .long x1), (3, .int x3_1)] []) E ?_ ?_
      · intro x3_1 h_2 E
        show G l D X 5 (WC ad cy) 0 0 h_2 98 [(0, .ref (ad 18)), (1, .long x1), (3, .int x3_1)] []
        refine g_iload_n (pc' := 99) O ⟨dX3_keep_98, rfl⟩ (q := 2) rfl rfl ?_
        refine g_aload_n (pc' := 100) O ⟨dX3_keep_99, rfl⟩ (q := 0) rfl rfl ?_
        refine gf_C_RX3_9_18 ad cy (pc' := 103) O ⟨dX3_keep_100, rfl⟩ ?_
        refine g_alen (pc' := 104) O ⟨dX3_keep_103, rfl⟩ (wC_19 ad cy h_2) (t0 := 1) rfl (v := (72 : Int32)) rfl ?_
        refine g_icmp_ge (pc' := 107) O ⟨dX3_keep_104, rfl⟩ E (tgt := 121) (by decide) (fun E => ?_) (fun E => ?_)
        · cases E
          exact hret _ _ _ ⟨dX3_keep_121, rfl⟩
        · refine g_aload_n (pc' := 108) O ⟨dX3_keep_107, rfl⟩ (q := 0) rfl rfl ?_
          refine gf_C_RX3_9_18 ad cy (pc' := 111) O ⟨dX3_keep_108, rfl⟩ ?_
          refine g_iload_n (pc' := 112) O ⟨dX3_keep_111, rfl⟩ (q := 2) rfl rfl ?_
          refine g_lload_n (pc' := 113) O ⟨dX3_keep_112, rfl⟩ (q := 1) rfl rfl ?_
          refine g_last (pc' := 114) O ⟨dX3_keep_113, rfl⟩ (wC_19 ad cy h_2) (vC_19 ad cy h_2 _) E (fun E => ?_)
          refine g_nmh E (fun h_3 E => ?_)
          refine g_aload_n (pc' := 115) O ⟨dX3_keep_114, rfl⟩ (q := 0) rfl rfl ?_
          refine g_iload_n (pc' := 116) O ⟨dX3_keep_115, rfl⟩ (q := 2) rfl rfl ?_
          refine g_iconst (pc' := 117) O ⟨dX3_keep_116, rfl⟩ (v := (1 : Int32)) rfl ?_
          refine g_iadd (pc' := 118) O ⟨dX3_keep_117, rfl⟩ ?_
          refine gp_C_RX3_15_18 ad cy (pc' := 121) O ⟨dX3_keep_118, rfl⟩ ?_
          refine g_nmh E (fun h_4 E => ?_)
          cases E
          exact hret _ _ _ ⟨dX3_keep_121, rfl⟩
      · intro k98 hk98 E
        refine g_sub (lv' := [(0, .ref (ad 18)), (1, .long x1), (3, .int (0 : Int32)), (4, .int (0 : Int32))]) [1, 2, 3, 0] rfl ?_
        refine fx3_of (P := fun (x3_5 : Int32) (x4_6 : Int32) (h_7 : Hp) => G l D X 5 (WC ad cy) 0 0 h_7 49 [(0, .ref (ad 18)), (1, .long x1), (3, .int x3_5), (4, .int x4_6)] []) ?_ _ _ _ _ E
        intro self ih49 x3_5 x4_6 h_7 E
        show G l D X 5 (WC ad cy) 0 0 h_7 49 [(0, .ref (ad 18)), (1, .long x1), (3, .int x3_5), (4, .int x4_6)] []
        unfold L_X3_keep_18_49 at E
        refine g_iload (pc' := 51) O ⟨dX3_keep_49, rfl⟩ (q := 3) rfl ?_
        refine g_aload_n (pc' := 52) O ⟨dX3_keep_51, rfl⟩ (q := 0) rfl rfl ?_
        refine gf_C_RX3_15_18 ad cy (pc' := 55) O ⟨dX3_keep_52, rfl⟩ ?_
        refine g_icmp_ge (pc' := 58) O ⟨dX3_keep_55, rfl⟩ E (tgt := 98) (by decide) (fun E => ?_) (fun E => ?_)
        · refine g_sub (lv' := [(0, .ref (ad 18)), (1, .long x1), (3, .int x3_5)]) [0, 1, 2] rfl ?_
          exact hk98 _ _ E
        · refine g_lload_n (pc' := 59) O ⟨dX3_keep_58, rfl⟩ (q := 1) rfl rfl ?_
          refine g_aload_n (pc' := 60) O ⟨dX3_keep_59, rfl⟩ (q := 0) rfl rfl ?_
          refine gf_C_RX3_9_18 ad cy (pc' := 63) O ⟨dX3_keep_60, rfl⟩ ?_
          refine g_iload (pc' := 65) O ⟨dX3_keep_63, rfl⟩ (q := 3) rfl ?_
          refine g_lald (pc' := 66) O ⟨dX3_keep_65, rfl⟩ (wC_19 ad cy h_7) E (fun E => ?_)
          refine g_ldc2 (pc' := 69) O ⟨dX3_keep_66, rfl⟩ kw_848 ?_
          refine g_lxor (pc' := 70) O ⟨dX3_keep_69, rfl⟩ ?_
          refine g_land (pc' := 71) O ⟨dX3_keep_70, rfl⟩ ?_
          refine g_lconst (pc' := 72) O ⟨dX3_keep_71, rfl⟩ (v := (0 : Int64)) rfl ?_
          refine g_lcmp (pc' := 73) O ⟨dX3_keep_72, rfl⟩ ?_
          refine g_if_eq (pc' := 76) O ⟨dX3_keep_73, rfl⟩ E (tgt := 92) (by decide) (fun E => ?_) (fun E => ?_)
          · refine g_iinc (pc' := 95) O ⟨dX3_keep_92, rfl⟩ (q := 3) (v := x4_6 + (1 : Int32)) (lv' := [(4, .int (x4_6 + (1 : Int32))), (0, .ref (ad 18)), (1, .long x1), (3, .int x3_5)]) rfl rfl (by decide) rfl ?_
            refine g_goto (pc' := 98) O ⟨dX3_keep_95, rfl⟩ (tgt := 49) (by decide) ?_
            refine g_sub (lv' := [(0, .ref (ad 18)), (1, .long x1), (3, .int x3_5), (4, .int (x4_6 + (1 : Int32)))]) [1, 2, 3, 0] rfl ?_
            exact ih49 _ _ _ E
          · refine g_aload_n (pc' := 77) O ⟨dX3_keep_76, rfl⟩ (q := 0) rfl rfl ?_
            refine gf_C_RX3_9_18 ad cy (pc' := 80) O ⟨dX3_keep_77, rfl⟩ ?_
            refine g_iload_n (pc' := 81) O ⟨dX3_keep_80, rfl⟩ (q := 2) rfl rfl ?_
            refine g_aload_n (pc' := 82) O ⟨dX3_keep_81, rfl⟩ (q := 0) rfl rfl ?_
            refine gf_C_RX3_9_18 ad cy (pc' := 85) O ⟨dX3_keep_82, rfl⟩ ?_
            refine g_iload (pc' := 87) O ⟨dX3_keep_85, rfl⟩ (q := 3) rfl ?_
            refine g_lald (pc' := 88) O ⟨dX3_keep_87, rfl⟩ (wC_19 ad cy h_7) E (fun E => ?_)
            refine g_last (pc' := 89) O ⟨dX3_keep_88, rfl⟩ (wC_19 ad cy h_7) (vC_19 ad cy h_7 _) E (fun E => ?_)
            refine g_nmh E (fun h_8 E => ?_)
            refine g_iinc (pc' := 92) O ⟨dX3_keep_89, rfl⟩ (q := 2) (v := x3_5 + (1 : Int32)) (lv' := [(3, .int (x3_5 + (1 : Int32))), (0, .ref (ad 18)), (1, .long x1), (4, .int x4_6)]) rfl rfl (by decide) rfl ?_
            refine g_iinc (pc' := 95) O ⟨dX3_keep_92, rfl⟩ (q := 3) (v := x4_6 + (1 : Int32)) (lv' := [(4, .int (x4_6 + (1 : Int32))), (3, .int (x3_5 + (1 : Int32))), (0, .ref (ad 18)), (1, .long x1)]) rfl rfl (by decide) rfl ?_
            refine g_goto (pc' := 98) O ⟨dX3_keep_95, rfl⟩ (tgt := 49) (by decide) ?_
            refine g_sub (lv' := [(0, .ref (ad 18)), (1, .long x1), (3, .int (x3_5 + (1 : Int32))), (4, .int (x4_6 + (1 : Int32)))]) [2, 3, 1, 0] rfl ?_
            exact ih49 _ _ _ E
    · intro k46 hk46 E
      refine jn0_of (P := G l D X 5 (WC ad cy) 0 0 h 39 [] []) E ?_ ?_
      · intro E
        show G l D X 5 (WC ad cy) 0 0 h 39 [] []
        cases E
        exact hret _ _ _ ⟨dX3_keep_39, rfl⟩
      · intro k39 hk39 E
        refine g_sub (lv' := [(0, .ref (ad 18)), (1, .long x1), (3, .int (0 : Int32)), (4, .int (0 : Int32))]) [2, 3, 1, 0] rfl ?_
        refine fx1_of (P := fun (x4_9 : Int32) => G l D X 5 (WC ad cy) 0 0 h 12 [(0, .ref (ad 18)), (1, .long x1), (3, .int (0 : Int32)), (4, .int x4_9)] []) ?_ _ _ E
        intro self ih12 x4_9 E
        show G l D X 5 (WC ad cy) 0 0 h 12 [(0, .ref (ad 18)), (1, .long x1), (3, .int (0 : Int32)), (4, .int x4_9)] []
        unfold L_X3_keep_18_12 at E
        refine g_iload (pc' := 14) O ⟨dX3_keep_12, rfl⟩ (q := 3) rfl ?_
        refine g_aload_n (pc' := 15) O ⟨dX3_keep_14, rfl⟩ (q := 0) rfl rfl ?_
        refine gf_C_RX3_15_18 ad cy (pc' := 18) O ⟨dX3_keep_15, rfl⟩ ?_
        refine g_icmp_ge (pc' := 21) O ⟨dX3_keep_18, rfl⟩ E (tgt := 46) (by decide) (fun E => ?_) (fun E => ?_)
        · refine g_sub (lv' := [(0, .ref (ad 18)), (1, .long x1), (3, .int (0 : Int32))]) [0, 1, 2] rfl ?_
          exact hk46 E
        · refine g_aload_n (pc' := 22) O ⟨dX3_keep_21, rfl⟩ (q := 0) rfl rfl ?_
          refine gf_C_RX3_9_18 ad cy (pc' := 25) O ⟨dX3_keep_22, rfl⟩ ?_
          refine g_iload (pc' := 27) O ⟨dX3_keep_25, rfl⟩ (q := 3) rfl ?_
          refine g_lald (pc' := 28) O ⟨dX3_keep_27, rfl⟩ (wC_19 ad cy h) E (fun E => ?_)
          refine g_lload_n (pc' := 29) O ⟨dX3_keep_28, rfl⟩ (q := 1) rfl rfl ?_
          refine g_ldc2 (pc' := 32) O ⟨dX3_keep_29, rfl⟩ kw_848 ?_
          refine g_lxor (pc' := 33) O ⟨dX3_keep_32, rfl⟩ ?_
          refine g_land (pc' := 34) O ⟨dX3_keep_33, rfl⟩ ?_
          refine g_lconst (pc' := 35) O ⟨dX3_keep_34, rfl⟩ (v := (0 : Int64)) rfl ?_
          refine g_lcmp (pc' := 36) O ⟨dX3_keep_35, rfl⟩ ?_
          refine g_if_ne (pc' := 39) O ⟨dX3_keep_36, rfl⟩ E (tgt := 40) (by decide) (fun E => ?_) (fun E => ?_)
          · refine g_iinc (pc' := 43) O ⟨dX3_keep_40, rfl⟩ (q := 3) (v := x4_9 + (1 : Int32)) (lv' := [(4, .int (x4_9 + (1 : Int32))), (0, .ref (ad 18)), (1, .long x1), (3, .int (0 : Int32))]) rfl rfl (by decide) rfl ?_
            refine g_goto (pc' := 46) O ⟨dX3_keep_43, rfl⟩ (tgt := 12) (by decide) ?_
            refine g_sub (lv' := [(0, .ref (ad 18)), (1, .long x1), (3, .int (0 : Int32)), (4, .int (x4_9 + (1 : Int32)))]) [1, 2, 3, 0] rfl ?_
            exact ih12 _ E
          · refine g_sub (lv' := []) [] rfl ?_
            exact hk39 E
  · cases E
    exact hret _ _ _ ⟨dX3_keep_6, rfl⟩
set_option maxRecDepth 100000 in
set_option maxHeartbeats 4000000 in
theorem t_X3_fewestRows_18_13_1 (l : Launch) (D : va_G) (ad : Nat → Nat) (cy : Nat → ClassId) {h : Hp}  {o : Int32 × Hp} (E : f_X3_fewestRows_18_13_1 h = some o) : CtI l D cy (WC ad cy) yX3_fewestRows cX3_fewestRows 5 .int 10 345 [.ref (ad 18), .ref (ad 13), .ref (ad 1)] h o.1 o.2 := by
  refine sI (own := RX3) rfl rfl (Nat.le_of_ble_eq_true rfl) (fun X O hret => ?_)
  show G l D X 5 (WC ad cy) 0 0 h 0 [(0, .ref (ad 18)), (1, .ref (ad 13)), (2, .ref (ad 1))] []
  unfold f_X3_fewestRows_18_13_1 at E
  refine g_aload_n (pc' := 1) O ⟨dX3_fewestRows_0, rfl⟩ (q := 0) rfl rfl ?_
  refine g_iconst (pc' := 2) O ⟨dX3_fewestRows_1, rfl⟩ (v := (0 : Int32)) rfl ?_
  refine gp_C_RX3_15_18 ad cy (pc' := 5) O ⟨dX3_fewestRows_2, rfl⟩ ?_
  refine g_nmh E (fun h_1 E => ?_)
  refine g_iconst (pc' := 6) O ⟨dX3_fewestRows_5, rfl⟩ (v := (0 : Int32)) rfl ?_
  refine g_istore_n (pc' := 7) O ⟨dX3_fewestRows_6, rfl⟩ (lv' := [(3, .int (0 : Int32)), (0, .ref (ad 18)), (1, .ref (ad 13)), (2, .ref (ad 1))]) rfl (by decide) rfl ?_
  refine jn1_of (P := fun (h_2 : Hp) => G l D X 5 (WC ad cy) 0 0 h_2 48 [(0, .ref (ad 18))] []) E ?_ ?_
  · intro h_2 E
    show G l D X 5 (WC ad cy) 0 0 h_2 48 [(0, .ref (ad 18))] []
    refine g_iconst (pc' := 49) O ⟨dX3_fewestRows_48, rfl⟩ (v := (0 : Int32)) rfl ?_
    refine g_istore_n (pc' := 50) O ⟨dX3_fewestRows_49, rfl⟩ (lv' := [(3, .int (0 : Int32)), (0, .ref (ad 18))]) rfl (by decide) rfl ?_
    refine jn0_of (P := G l D X 5 (WC ad cy) 0 0 h_2 80 [] []) E ?_ ?_
    · intro E
      show G l D X 5 (WC ad cy) 0 0 h_2 80 [] []
      refine g_iconst (pc' := 81) O ⟨dX3_fewestRows_80, rfl⟩ (v := (-1 : Int32)) rfl ?_
      cases E
      exact hret _ _ _ ⟨dX3_fewestRows_81, rfl⟩ rfl
    · intro k80 hk80 E
      refine jn1_of (P := fun (x3_3 : Int32) => G l D X 5 (WC ad cy) 0 0 h_2 72 [(3, .int x3_3)] []) E ?_ ?_
      · intro x3_3 E
        show G l D X 5 (WC ad cy) 0 0 h_2 72 [(3, .int x3_3)] []
        refine g_iload_n (pc' := 73) O ⟨dX3_fewestRows_72, rfl⟩ (q := 0) rfl rfl ?_
        cases E
        exact hret _ _ _ ⟨dX3_fewestRows_73, rfl⟩ rfl
      · intro k72 hk72 E
        refine g_sub (lv' := [(0, .ref (ad 18)), (3, .int (0 : Int32))]) [1, 0] rfl ?_
        refine fx1_of (P := fun (x3_4 : Int32) => G l D X 5 (WC ad cy) 0 0 h_2 50 [(0, .ref (ad 18)), (3, .int x3_4)] []) ?_ _ _ E
        intro self ih50 x3_4 E
        show G l D X 5 (WC ad cy) 0 0 h_2 50 [(0, .ref (ad 18)), (3, .int x3_4)] []
        unfold L_X3_fewestRows_18_13_1_50 at E
        refine g_iload_n (pc' := 51) O ⟨dX3_fewestRows_50, rfl⟩ (q := 1) rfl rfl ?_
        refine g_iconst (pc' := 52) O ⟨dX3_fewestRows_51, rfl⟩ (v := (4 : Int32)) rfl ?_
        refine g_icmp_gt (pc' := 55) O ⟨dX3_fewestRows_52, rfl⟩ E (tgt := 80) (by decide) (fun E => ?_) (fun E => ?_)
        · refine g_sub (lv' := []) [] rfl ?_
          exact hk80 E
        · refine g_aload_n (pc' := 56) O ⟨dX3_fewestRows_55, rfl⟩ (q := 0) rfl rfl ?_
          refine gf_C_RX3_9_18 ad cy (pc' := 59) O ⟨dX3_fewestRows_56, rfl⟩ ?_
          refine g_aload_n (pc' := 60) O ⟨dX3_fewestRows_59, rfl⟩ (q := 0) rfl rfl ?_
          refine gf_C_RX3_15_18 ad cy (pc' := 63) O ⟨dX3_fewestRows_60, rfl⟩ ?_
          refine g_lconst (pc' := 64) O ⟨dX3_fewestRows_63, rfl⟩ (v := (0 : Int64)) rfl ?_
          refine g_lconst (pc' := 65) O ⟨dX3_fewestRows_64, rfl⟩ (v := (0 : Int64)) rfl ?_
          refine g_iload_n (pc' := 66) O ⟨dX3_fewestRows_65, rfl⟩ (q := 1) rfl rfl ?_
          obtain ⟨r_5, c_6, E⟩ := bd_of E
          refine g_Si (pc' := 69) O ⟨dX3_fewestRows_66, rfl⟩ (y := yX3_canTell) (As := [.ref (ad 19), .int (h_2.1 18 1), .long (0 : Int64), .long (0 : Int64), .int x3_4]) (st := []) (t_X3_canTell_19 l D ad cy 8 (h := h_2) c_6) kw_851 kw_30 kw_849 kw_850 hd_X3_canTell ⟨Nat.le_of_ble_eq_true rfl, Nat.le_of_ble_eq_true rfl⟩ ⟨Nat.le_of_ble_eq_true rfl, Nat.le_of_ble_eq_true rfl⟩ rfl (Nat.le_of_ble_eq_true rfl) ?_
          refine g_if_eq (pc' := 72) O ⟨dX3_fewestRows_69, rfl⟩ E (tgt := 74) (by decide) (fun E => ?_) (fun E => ?_)
          · refine g_iinc (pc' := 77) O ⟨dX3_fewestRows_74, rfl⟩ (q := 1) (v := x3_4 + (1 : Int32)) (lv' := [(3, .int (x3_4 + (1 : Int32))), (0, .ref (ad 18))]) rfl rfl (by decide) rfl ?_
            refine g_goto (pc' := 80) O ⟨dX3_fewestRows_77, rfl⟩ (tgt := 50) (by decide) ?_
            refine g_sub (lv' := [(0, .ref (ad 18)), (3, .int (x3_4 + (1 : Int32)))]) [1, 0] rfl ?_
            exact ih50 _ E
          · refine g_sub (lv' := [(3, .int x3_4)]) [1] rfl ?_
            exact hk72 _ E
  · intro k48 hk48 E
    refine g_sub (lv' := [(0, .ref (ad 18)), (1, .ref (ad 13)), (2, .ref (ad 1)), (3, .int (0 : Int32))]) [1, 2, 3, 0] rfl ?_
    refine fx2_of (P := fun (x3_7 : Int32) (h_8 : Hp) => G l D X 5 (WC ad cy) 0 0 h_8 7 [(0, .ref (ad 18)), (1, .ref (ad 13)), (2, .ref (ad 1)), (3, .int x3_7)] []) ?_ _ _ _ E
    intro self ih7 x3_7 h_8 E
    show G l D X 5 (WC ad cy) 0 0 h_8 7 [(0, .ref (ad 18)), (1, .ref (ad 13)), (2, .ref (ad 1)), (3, .int x3_7)] []
    unfold L_X3_fewestRows_18_13_1_7 at E
    refine g_iload_n (pc' := 8) O ⟨dX3_fewestRows_7, rfl⟩ (q := 3) rfl rfl ?_
    refine g_aload_n (pc' := 9) O ⟨dX3_fewestRows_8, rfl⟩ (q := 2) rfl rfl ?_
    refine gf_C_RX3_19_1 ad cy (pc' := 12) O ⟨dX3_fewestRows_9, rfl⟩ ?_
    refine g_icmp_ge (pc' := 15) O ⟨dX3_fewestRows_12, rfl⟩ E (tgt := 48) (by decide) (fun E => ?_) (fun E => ?_)
    · refine g_sub (lv' := [(0, .ref (ad 18))]) [0] rfl ?_
      exact hk48 _ E
    · refine g_iconst (pc' := 16) O ⟨dX3_fewestRows_15, rfl⟩ (v := (0 : Int32)) rfl ?_
      refine g_istore (pc' := 18) O ⟨dX3_fewestRows_16, rfl⟩ (lv' := [(4, .int (0 : Int32)), (0, .ref (ad 18)), (1, .ref (ad 13)), (2, .ref (ad 1)), (3, .int x3_7)]) (by decide) rfl ?_
      refine jn1_of (P := fun (h_9 : Hp) => G l D X 5 (WC ad cy) 0 0 h_9 42 [(0, .ref (ad 18)), (1, .ref (ad 13)), (2, .ref (ad 1)), (3, .int x3_7)] []) E ?_ ?_
      · intro h_9 E
        show G l D X 5 (WC ad cy) 0 0 h_9 42 [(0, .ref (ad 18)), (1, .ref (ad 13)), (2, .ref (ad 1)), (3, .int x3_7)] []
        refine g_iinc (pc' := 45) O ⟨dX3_fewestRows_42, rfl⟩ (q := 3) (v := x3_7 + (1 : Int32)) (lv' := [(3, .int (x3_7 + (1 : Int32))), (0, .ref (ad 18)), (1, .ref (ad 13)), (2, .ref (ad 1))]) rfl rfl (by decide) rfl ?_
        refine g_goto (pc' := 48) O ⟨dX3_fewestRows_45, rfl⟩ (tgt := 7) (by decide) ?_
        refine g_sub (lv' := [(0, .ref (ad 18)), (1, .ref (ad 13)), (2, .ref (ad 1)), (3, .int (x3_7 + (1 : Int32)))]) [1, 2, 3, 0] rfl ?_
        exact ih7 _ _ E
      · intro k42 hk42 E
        refine g_sub (lv' := [(0, .ref (ad 18)), (1, .ref (ad 13)), (2, .ref (ad 1)), (3, .int x3_7), (4, .int (0 : Int32))]) [1, 2, 3, 4, 0] rfl ?_
        refine fx2_of (P := fun (x4_10 : Int32) (h_11 : Hp) => G l D X 5 (WC ad cy) 0 0 h_11 18 [(0, .ref (ad 18)), (1, .ref (ad 13)), (2, .ref (ad 1)), (3, .int x3_7), (4, .int x4_10)] []) ?_ _ _ _ E
        intro self ih18 x4_10 h_11 E
        show G l D X 5 (WC ad cy) 0 0 h_11 18 [(0, .ref (ad 18)), (1, .ref (ad 13)), (2, .ref (ad 1)), (3, .int x3_7), (4, .int x4_10)] []
        unfold L_X3_fewestRows_18_13_1_18 at E
        refine g_iload (pc' := 20) O ⟨dX3_fewestRows_18, rfl⟩ (q := 4) rfl ?_
        refine g_iconst (pc' := 21) O ⟨dX3_fewestRows_20, rfl⟩ (v := (2 : Int32)) rfl ?_
        refine g_icmp_gt (pc' := 24) O ⟨dX3_fewestRows_21, rfl⟩ E (tgt := 42) (by decide) (fun E => ?_) (fun E => ?_)
        · refine g_sub (lv' := [(0, .ref (ad 18)), (1, .ref (ad 13)), (2, .ref (ad 1)), (3, .int x3_7)]) [0, 1, 2, 3] rfl ?_
          exact hk42 _ E
        · refine g_aload_n (pc' := 25) O ⟨dX3_fewestRows_24, rfl⟩ (q := 0) rfl rfl ?_
          refine g_aload_n (pc' := 26) O ⟨dX3_fewestRows_25, rfl⟩ (q := 1) rfl rfl ?_
          refine g_aload_n (pc' := 27) O ⟨dX3_fewestRows_26, rfl⟩ (q := 2) rfl rfl ?_
          refine g_iload_n (pc' := 28) O ⟨dX3_fewestRows_27, rfl⟩ (q := 3) rfl rfl ?_
          refine g_iload (pc' := 30) O ⟨dX3_fewestRows_28, rfl⟩ (q := 4) rfl ?_
          obtain ⟨r_12, c_13, E⟩ := bd_of E
          refine g_Vl (pc' := 33) O ⟨dX3_fewestRows_30, rfl⟩ (y := yX4_telling) (As := [.ref (ad 1), .int x3_7, .int x4_10]) (st := [.ref (ad 18)]) (t_X4_telling_13_1 l D ad cy (h := h_11) c_13) kw_821 kw_28 kw_818 kw_819 kw_820 rfl (wC_13 ad cy h_11) hd_X4_telling ⟨Nat.le_of_ble_eq_true rfl, Nat.le_of_ble_eq_true rfl⟩ ⟨Nat.le_of_ble_eq_true rfl, Nat.le_of_ble_eq_true rfl⟩ rfl (Nat.le_of_ble_eq_true rfl) ?_
          obtain ⟨r_14, c_15, E⟩ := bd_of E
          refine g_Vv (pc' := 36) O ⟨dX3_fewestRows_33, rfl⟩ (y := yX3_keep) (As := [.long r_12.1]) (st := []) (t_X3_keep_18 l D ad cy (h := r_12.2) c_15) kw_847 kw_30 kw_844 kw_846 kw_14 rfl (wC_18 ad cy r_12.2) hd_X3_keep ⟨Nat.le_of_ble_eq_true rfl, Nat.le_of_ble_eq_true rfl⟩ ⟨Nat.le_of_ble_eq_true rfl, Nat.le_of_ble_eq_true rfl⟩ rfl (Nat.le_of_ble_eq_true rfl) ?_
          refine g_iinc (pc' := 39) O ⟨dX3_fewestRows_36, rfl⟩ (q := 4) (v := x4_10 + (1 : Int32)) (lv' := [(4, .int (x4_10 + (1 : Int32))), (0, .ref (ad 18)), (1, .ref (ad 13)), (2, .ref (ad 1)), (3, .int x3_7)]) rfl rfl (by decide) rfl ?_
          refine g_goto (pc' := 42) O ⟨dX3_fewestRows_39, rfl⟩ (tgt := 18) (by decide) ?_
          refine g_sub (lv' := [(0, .ref (ad 18)), (1, .ref (ad 13)), (2, .ref (ad 1)), (3, .int x3_7), (4, .int (x4_10 + (1 : Int32)))]) [1, 2, 3, 4, 0] rfl ?_
          exact ih18 _ _ E
set_option maxRecDepth 100000 in
set_option maxHeartbeats 4000000 in
theorem t_X10_tests (l : Launch) (D : va_G) (ad : Nat → Nat) (cy : Nat → ClassId) {h : Hp}  {o : Int32 × Hp} (E : f_X10_tests h = some o) : CtI l D cy (WC ad cy) yX10_tests cX10_tests 1 .int 11 369 [.ref (ad 0)] h o.1 o.2 := by
  refine sI (own := RX10) rfl rfl (Nat.le_of_ble_eq_true rfl) (fun X O hret => ?_)
  show G l D X 1 (WC ad cy) 0 0 h 0 [(0, .ref (ad 0))] []
  unfold f_X10_tests at E
  refine g_aload_n (pc' := 1) O ⟨dX10_tests_0, rfl⟩ (q := 0) rfl rfl ?_
  refine gf_C_RX10_36_0 ad cy (pc' := 4) O ⟨dX10_tests_1, rfl⟩ ?_
  refine g_aload_n (pc' := 5) O ⟨dX10_tests_4, rfl⟩ (q := 0) rfl rfl ?_
  refine gf_C_RX10_29_0 ad cy (pc' := 8) O ⟨dX10_tests_5, rfl⟩ ?_
  refine g_aload_n (pc' := 9) O ⟨dX10_tests_8, rfl⟩ (q := 0) rfl rfl ?_
  refine gf_C_RX10_10_0 ad cy (pc' := 12) O ⟨dX10_tests_9, rfl⟩ ?_
  obtain ⟨r_1, c_2, E⟩ := bd_of E
  refine g_Vi (pc' := 15) O ⟨dX10_tests_12, rfl⟩ (y := yX3_fewestRows) (As := [.ref (ad 13), .ref (ad 1)]) (st := []) (t_X3_fewestRows_18_13_1 l D ad cy (h := h) c_2) kw_843 kw_30 kw_840 kw_841 kw_842 rfl (wC_18 ad cy h) hd_X3_fewestRows ⟨Nat.le_of_ble_eq_true rfl, Nat.le_of_ble_eq_true rfl⟩ ⟨Nat.le_of_ble_eq_true rfl, Nat.le_of_ble_eq_true rfl⟩ rfl (Nat.le_of_ble_eq_true rfl) ?_
  cases E
  exact hret _ _ _ ⟨dX10_tests_15, rfl⟩ rfl
set_option maxRecDepth 100000 in
set_option maxHeartbeats 4000000 in
theorem t_X10_bears (l : Launch) (D : va_G) (ad : Nat → Nat) (cy : Nat → ClassId) {h : Hp}  {o : Int32 × Hp} (E : f_X10_bears h = some o) : CtI l D cy (WC ad cy) yX10_bears cX10_bears 2 .boolean 5 112 [.ref (ad 0)] h o.1 o.2 := by
  refine sI (own := RX10) rfl rfl (Nat.le_of_ble_eq_true rfl) (fun X O hret => ?_)
  show G l D X 2 (WC ad cy) 0 0 h 0 [(0, .ref (ad 0))] []
  unfold f_X10_bears at E
  refine g_aload_n (pc' := 1) O ⟨dX10_bears_0, rfl⟩ (q := 0) rfl rfl ?_
  refine gf_C_RX10_29_0 ad cy (pc' := 4) O ⟨dX10_bears_1, rfl⟩ ?_
  refine g_aload_n (pc' := 5) O ⟨dX10_bears_4, rfl⟩ (q := 0) rfl rfl ?_
  refine gf_C_RX10_10_0 ad cy (pc' := 8) O ⟨dX10_bears_5, rfl⟩ ?_
  obtain ⟨r_1, c_2, E⟩ := bd_of E
  refine g_Vl (pc' := 11) O ⟨dX10_bears_8, rfl⟩ (y := yX4_unsortedFrom) (As := [.ref (ad 1)]) (st := []) (t_X4_unsortedFrom_13_1 l D ad cy (h := h) c_2) kw_746 kw_28 kw_743 kw_744 kw_745 rfl (wC_13 ad cy h) hd_X4_unsortedFrom ⟨Nat.le_of_ble_eq_true rfl, Nat.le_of_ble_eq_true rfl⟩ ⟨Nat.le_of_ble_eq_true rfl, Nat.le_of_ble_eq_true rfl⟩ rfl (Nat.le_of_ble_eq_true rfl) ?_
  refine g_lconst (pc' := 12) O ⟨dX10_bears_11, rfl⟩ (v := (0 : Int64)) rfl ?_
  refine g_lcmp (pc' := 13) O ⟨dX10_bears_12, rfl⟩ ?_
  refine g_if_eq (pc' := 16) O ⟨dX10_bears_13, rfl⟩ E (tgt := 18) (by decide) (fun E => ?_) (fun E => ?_)
  · refine g_iconst (pc' := 19) O ⟨dX10_bears_18, rfl⟩ (v := (0 : Int32)) rfl ?_
    refine g_istore_n (pc' := 20) O ⟨dX10_bears_19, rfl⟩ (lv' := [(1, .int (0 : Int32)), (0, .ref (ad 0))]) rfl (by decide) rfl ?_
    refine jn1_of (P := fun (h_3 : Hp) => G l D X 2 (WC ad cy) 0 0 h_3 57 [] []) E ?_ ?_
    · intro h_3 E
      show G l D X 2 (WC ad cy) 0 0 h_3 57 [] []
      refine g_iconst (pc' := 58) O ⟨dX10_bears_57, rfl⟩ (v := (1 : Int32)) rfl ?_
      obtain ⟨hn, E⟩ := ckz_of E
      cases E
      exact hret _ _ _ ⟨dX10_bears_58, rfl⟩ hn
    · intro k57 hk57 E
      refine jn1_of (P := fun (h_4 : Hp) => G l D X 2 (WC ad cy) 0 0 h_4 49 [] []) E ?_ ?_
      · intro h_4 E
        show G l D X 2 (WC ad cy) 0 0 h_4 49 [] []
        refine g_iconst (pc' := 50) O ⟨dX10_bears_49, rfl⟩ (v := (0 : Int32)) rfl ?_
        obtain ⟨hn, E⟩ := ckz_of E
        cases E
        exact hret _ _ _ ⟨dX10_bears_50, rfl⟩ hn
      · intro k49 hk49 E
        refine g_sub (lv' := [(0, .ref (ad 0)), (1, .int (0 : Int32))]) [1, 0] rfl ?_
        refine fx2_of (P := fun (x1_5 : Int32) (h_6 : Hp) => G l D X 2 (WC ad cy) 0 0 h_6 20 [(0, .ref (ad 0)), (1, .int x1_5)] []) ?_ _ _ _ E
        intro self ih20 x1_5 h_6 E
        show G l D X 2 (WC ad cy) 0 0 h_6 20 [(0, .ref (ad 0)), (1, .int x1_5)] []
        unfold L_X10_bears_20 at E
        refine g_iload_n (pc' := 21) O ⟨dX10_bears_20, rfl⟩ (q := 1) rfl rfl ?_
        refine g_aload_n (pc' := 22) O ⟨dX10_bears_21, rfl⟩ (q := 0) rfl rfl ?_
        refine gf_C_RX10_10_0 ad cy (pc' := 25) O ⟨dX10_bears_22, rfl⟩ ?_
        refine gf_C_RX10_75_1 ad cy (pc' := 28) O ⟨dX10_bears_25, rfl⟩ ?_
        refine g_icmp_ge (pc' := 31) O ⟨dX10_bears_28, rfl⟩ E (tgt := 57) (by decide) (fun E => ?_) (fun E => ?_)
        · refine g_sub (lv' := []) [] rfl ?_
          exact hk57 _ E
        · refine g_aload_n (pc' := 32) O ⟨dX10_bears_31, rfl⟩ (q := 0) rfl rfl ?_
          refine gf_C_RX10_29_0 ad cy (pc' := 35) O ⟨dX10_bears_32, rfl⟩ ?_
          refine g_aload_n (pc' := 36) O ⟨dX10_bears_35, rfl⟩ (q := 0) rfl rfl ?_
          refine gf_C_RX10_10_0 ad cy (pc' := 39) O ⟨dX10_bears_36, rfl⟩ ?_
          refine g_iload_n (pc' := 40) O ⟨dX10_bears_39, rfl⟩ (q := 1) rfl rfl ?_
          refine g_iconst (pc' := 41) O ⟨dX10_bears_40, rfl⟩ (v := (0 : Int32)) rfl ?_
          obtain ⟨r_7, c_8, E⟩ := bd_of E
          refine g_Vl (pc' := 44) O ⟨dX10_bears_41, rfl⟩ (y := yX4_unsortedWith) (As := [.ref (ad 1), .int x1_5, .int (0 : Int32)]) (st := []) (t_X4_unsortedWith_13_1 l D ad cy (h := h_6) c_8) kw_835 kw_28 kw_832 kw_833 kw_834 rfl (wC_13 ad cy h_6) hd_X4_unsortedWith ⟨Nat.le_of_ble_eq_true rfl, Nat.le_of_ble_eq_true rfl⟩ ⟨Nat.le_of_ble_eq_true rfl, Nat.le_of_ble_eq_true rfl⟩ rfl (Nat.le_of_ble_eq_true rfl) ?_
          refine g_lconst (pc' := 45) O ⟨dX10_bears_44, rfl⟩ (v := (0 : Int64)) rfl ?_
          refine g_lcmp (pc' := 46) O ⟨dX10_bears_45, rfl⟩ ?_
          refine g_if_eq (pc' := 49) O ⟨dX10_bears_46, rfl⟩ E (tgt := 51) (by decide) (fun E => ?_) (fun E => ?_)
          · refine g_iinc (pc' := 54) O ⟨dX10_bears_51, rfl⟩ (q := 1) (v := x1_5 + (1 : Int32)) (lv' := [(1, .int (x1_5 + (1 : Int32))), (0, .ref (ad 0))]) rfl rfl (by decide) rfl ?_
            refine g_goto (pc' := 57) O ⟨dX10_bears_54, rfl⟩ (tgt := 20) (by decide) ?_
            refine g_sub (lv' := [(0, .ref (ad 0)), (1, .int (x1_5 + (1 : Int32)))]) [1, 0] rfl ?_
            exact ih20 _ _ E
          · refine g_sub (lv' := []) [] rfl ?_
            exact hk49 _ E
  · refine g_iconst (pc' := 17) O ⟨dX10_bears_16, rfl⟩ (v := (0 : Int32)) rfl ?_
    obtain ⟨hn, E⟩ := ckz_of E
    cases E
    exact hret _ _ _ ⟨dX10_bears_17, rfl⟩ hn
set_option maxRecDepth 100000 in
set_option maxHeartbeats 4000000 in
theorem t_X6_placeOf (l : Launch) (D : va_G) (ad : Nat → Nat) (cy : Nat → ClassId) {h : Hp} {x0 : Int32} {x1 : Int32} {x2 : Int32} {o : Int32} (E : f_X6_placeOf x0 x1 x2 = some o) : CtI l D cy (WC ad cy) yX6_placeOf cX6_placeOf 3 .int 2 46 [.int x0, .int x1, .int x2] h o h := by
  refine sI (own := RX6) rfl rfl (Nat.le_of_ble_eq_true rfl) (fun X O hret => ?_)
  show G l D X 3 (WC ad cy) 0 0 h 0 [(0, .int x0), (1, .int x1), (2, .int x2)] []
  unfold f_X6_placeOf at E
  refine g_iload_n (pc' := 1) O ⟨dX6_placeOf_0, rfl⟩ (q := 0) rfl rfl ?_
  refine g_sipush (pc' := 4) O ⟨dX6_placeOf_1, rfl⟩ (v := (872 : Int32)) rfl ?_
  refine g_imul (pc' := 5) O ⟨dX6_placeOf_4, rfl⟩ ?_
  refine g_gsBEG (pc' := 8) O ⟨dX6_placeOf_5, rfl⟩ kw_921 (fun t_1 ht_1 => ?_)
  refine g_iload_n (pc' := 9) O ⟨dX6_placeOf_8, rfl⟩ (q := 2) rfl rfl ?_
  refine g_sti (pc' := 10) O ⟨dX6_placeOf_9, rfl⟩ ht_1 E (fun E => ?_)
  refine g_iadd (pc' := 11) O ⟨dX6_placeOf_10, rfl⟩ ?_
  refine g_iload_n (pc' := 12) O ⟨dX6_placeOf_11, rfl⟩ (q := 1) rfl rfl ?_
  refine g_iload_n (pc' := 13) O ⟨dX6_placeOf_12, rfl⟩ (q := 2) rfl rfl ?_
  obtain ⟨r_2, c_3, E⟩ := bd_of E
  refine g_Si (pc' := 16) O ⟨dX6_placeOf_13, rfl⟩ (y := yX5_rank) (As := [.int x1, .int x2]) (st := [.int ((x0 * (872 : Int32)) + (fBEG x2.toNatClampNeg))]) (t_X5_rank l D ad cy (h := h) c_3) kw_925 kw_41 kw_923 kw_924 hd_X5_rank ⟨Nat.le_of_ble_eq_true rfl, Nat.le_of_ble_eq_true rfl⟩ ⟨Nat.le_of_ble_eq_true rfl, Nat.le_of_ble_eq_true rfl⟩ rfl (Nat.le_of_ble_eq_true rfl) ?_
  refine g_iadd (pc' := 17) O ⟨dX6_placeOf_16, rfl⟩ ?_
  cases E
  exact hret _ _ _ ⟨dX6_placeOf_17, rfl⟩ rfl
set_option maxRecDepth 100000 in
set_option maxHeartbeats 4000000 in
theorem t_X6_blocksChanged (l : Launch) (D : va_G) (ad : Nat → Nat) (cy : Nat → ClassId) {h : Hp} {x0 : Int32} {x1 : Int32} {x2 : Int32} {x3 : Int32} {o : Int32} (E : f_X6_blocksChanged x0 x1 x2 x3 = some o) : CtI l D cy (WC ad cy) yX6_blocksChanged cX6_blocksChanged 7 .int 0 0 [.int x0, .int x1, .int x2, .int x3] h o h := by
  refine sI (own := RX6) rfl rfl (Nat.le_of_ble_eq_true rfl) (fun X O hret => ?_)
  show G l D X 7 (WC ad cy) 0 0 h 0 [(0, .int x0), (1, .int x1), (2, .int x2), (3, .int x3)] []
  unfold f_X6_blocksChanged at E
  refine g_iconst (pc' := 1) O ⟨dX6_blocksChanged_0, rfl⟩ (v := (0 : Int32)) rfl ?_
  refine g_istore (pc' := 3) O ⟨dX6_blocksChanged_1, rfl⟩ (lv' := [(4, .int (0 : Int32)), (0, .int x0), (1, .int x1), (2, .int x2), (3, .int x3)]) (by decide) rfl ?_
  refine g_iconst (pc' := 4) O ⟨dX6_blocksChanged_3, rfl⟩ (v := (0 : Int32)) rfl ?_
  refine g_istore (pc' := 6) O ⟨dX6_blocksChanged_4, rfl⟩ (lv' := [(5, .int (0 : Int32)), (4, .int (0 : Int32)), (0, .int x0), (1, .int x1), (2, .int x2), (3, .int x3)]) (by decide) rfl ?_
  refine jn1_of (P := fun (x4_1 : Int32) => G l D X 7 (WC ad cy) 0 0 h 73 [(4, .int x4_1)] []) E ?_ ?_
  · intro x4_1 E
    show G l D X 7 (WC ad cy) 0 0 h 73 [(4, .int x4_1)] []
    refine g_iload (pc' := 75) O ⟨dX6_blocksChanged_73, rfl⟩ (q := 0) rfl ?_
    cases E
    exact hret _ _ _ ⟨dX6_blocksChanged_75, rfl⟩ rfl
  · intro k73 hk73 E
    refine g_sub (lv' := [(0, .int x0), (1, .int x1), (2, .int x2), (3, .int x3), (4, .int (0 : Int32)), (5, .int (0 : Int32))]) [2, 3, 4, 5, 1, 0] rfl ?_
    refine fx2_of (P := fun (x4_2 : Int32) (x5_3 : Int32) => G l D X 7 (WC ad cy) 0 0 h 6 [(0, .int x0), (1, .int x1), (2, .int x2), (3, .int x3), (4, .int x4_2), (5, .int x5_3)] []) ?_ _ _ _ E
    intro self ih6 x4_2 x5_3 E
    show G l D X 7 (WC ad cy) 0 0 h 6 [(0, .int x0), (1, .int x1), (2, .int x2), (3, .int x3), (4, .int x4_2), (5, .int x5_3)] []
    unfold L_X6_blocksChanged_6 at E
    refine g_iload (pc' := 8) O ⟨dX6_blocksChanged_6, rfl⟩ (q := 5) rfl ?_
    refine g_iload_n (pc' := 9) O ⟨dX6_blocksChanged_8, rfl⟩ (q := 3) rfl rfl ?_
    refine g_icmp_ge (pc' := 12) O ⟨dX6_blocksChanged_9, rfl⟩ E (tgt := 73) (by decide) (fun E => ?_) (fun E => ?_)
    · refine g_sub (lv' := [(4, .int x4_2)]) [4] rfl ?_
      exact hk73 _ E
    · refine g_iload (pc' := 14) O ⟨dX6_blocksChanged_12, rfl⟩ (q := 5) rfl ?_
      refine g_istore (pc' := 16) O ⟨dX6_blocksChanged_14, rfl⟩ (lv' := [(6, .int x5_3), (0, .int x0), (1, .int x1), (2, .int x2), (3, .int x3), (4, .int x4_2), (5, .int x5_3)]) (by decide) rfl ?_
      refine g_iload (pc' := 18) O ⟨dX6_blocksChanged_16, rfl⟩ (q := 6) rfl ?_
      refine g_iload_n (pc' := 19) O ⟨dX6_blocksChanged_18, rfl⟩ (q := 1) rfl rfl ?_
      refine jn1_of (P := fun (x6_4 : Int32) => G l D X 7 (WC ad cy) 0 0 h 55 [(0, .int x0), (1, .int x1), (2, .int x2), (3, .int x3), (4, .int x4_2), (5, .int x5_3), (6, .int x6_4)] []) E ?_ ?_
      · intro x6_4 E
        show G l D X 7 (WC ad cy) 0 0 h 55 [(0, .int x0), (1, .int x1), (2, .int x2), (3, .int x3), (4, .int x4_2), (5, .int x5_3), (6, .int x6_4)] []
        refine g_iload (pc' := 57) O ⟨dX6_blocksChanged_55, rfl⟩ (q := 4) rfl ?_
        refine g_iload (pc' := 59) O ⟨dX6_blocksChanged_57, rfl⟩ (q := 6) rfl ?_
        refine g_iconst (pc' := 60) O ⟨dX6_blocksChanged_59, rfl⟩ (v := (4 : Int32)) rfl ?_
        refine g_iload (pc' := 62) O ⟨dX6_blocksChanged_60, rfl⟩ (q := 5) rfl ?_
        refine g_imul (pc' := 63) O ⟨dX6_blocksChanged_62, rfl⟩ ?_
        refine g_ishl (pc' := 64) O ⟨dX6_blocksChanged_63, rfl⟩ ?_
        refine g_ior (pc' := 65) O ⟨dX6_blocksChanged_64, rfl⟩ ?_
        refine g_nm E (fun y4_5 E => ?_)
        refine g_istore (pc' := 67) O ⟨dX6_blocksChanged_65, rfl⟩ (lv' := [(4, .int y4_5), (0, .int x0), (1, .int x1), (2, .int x2), (3, .int x3), (5, .int x5_3), (6, .int x6_4)]) (by decide) rfl ?_
        refine g_iinc (pc' := 70) O ⟨dX6_blocksChanged_67, rfl⟩ (q := 5) (v := x5_3 + (1 : Int32)) (lv' := [(5, .int (x5_3 + (1 : Int32))), (4, .int y4_5), (0, .int x0), (1, .int x1), (2, .int x2), (3, .int x3), (6, .int x6_4)]) rfl rfl (by decide) rfl ?_
        refine g_goto (pc' := 73) O ⟨dX6_blocksChanged_70, rfl⟩ (tgt := 6) (by decide) ?_
        refine g_sub (lv' := [(0, .int x0), (1, .int x1), (2, .int x2), (3, .int x3), (4, .int y4_5), (5, .int (x5_3 + (1 : Int32)))]) [2, 3, 4, 5, 1, 0] rfl ?_
        exact ih6 _ _ E
      · intro k55 hk55 E
        refine g_icmp_lt (pc' := 22) O ⟨dX6_blocksChanged_19, rfl⟩ E (tgt := 55) (by decide) (fun E => ?_) (fun E => ?_)
        · refine g_sub (lv' := [(0, .int x0), (1, .int x1), (2, .int x2), (3, .int x3), (4, .int x4_2), (5, .int x5_3), (6, .int x5_3)]) [1, 2, 3, 4, 5, 6, 0] rfl ?_
          exact hk55 _ E
        · refine g_iload (pc' := 24) O ⟨dX6_blocksChanged_22, rfl⟩ (q := 6) rfl ?_
          refine g_iload_n (pc' := 25) O ⟨dX6_blocksChanged_24, rfl⟩ (q := 3) rfl rfl ?_
          refine g_icmp_ge (pc' := 28) O ⟨dX6_blocksChanged_25, rfl⟩ E (tgt := 55) (by decide) (fun E => ?_) (fun E => ?_)
          · refine g_sub (lv' := [(0, .int x0), (1, .int x1), (2, .int x2), (3, .int x3), (4, .int x4_2), (5, .int x5_3), (6, .int x5_3)]) [1, 2, 3, 4, 5, 6, 0] rfl ?_
            exact hk55 _ E
          · refine g_iload (pc' := 30) O ⟨dX6_blocksChanged_28, rfl⟩ (q := 6) rfl ?_
            refine g_iload_n (pc' := 31) O ⟨dX6_blocksChanged_30, rfl⟩ (q := 2) rfl rfl ?_
            refine g_iadd (pc' := 32) O ⟨dX6_blocksChanged_31, rfl⟩ ?_
            refine g_iload_n (pc' := 33) O ⟨dX6_blocksChanged_32, rfl⟩ (q := 1) rfl rfl ?_
            refine g_isub (pc' := 34) O ⟨dX6_blocksChanged_33, rfl⟩ ?_
            refine g_nm E (fun y6_6 E => ?_)
            refine g_istore (pc' := 36) O ⟨dX6_blocksChanged_34, rfl⟩ (lv' := [(6, .int y6_6), (0, .int x0), (1, .int x1), (2, .int x2), (3, .int x3), (4, .int x4_2), (5, .int x5_3)]) (by decide) rfl ?_
            refine g_iload (pc' := 38) O ⟨dX6_blocksChanged_36, rfl⟩ (q := 0) rfl ?_
            refine g_iload_n (pc' := 39) O ⟨dX6_blocksChanged_38, rfl⟩ (q := 3) rfl rfl ?_
            refine jn1_of (P := fun (z_7 : Int32) => G l D X 7 (WC ad cy) 0 0 h 53 [(0, .int x0), (1, .int x1), (2, .int x2), (3, .int x3), (4, .int x4_2), (5, .int x5_3)] [.int z_7]) E ?_ ?_
            · intro z_7 E
              show G l D X 7 (WC ad cy) 0 0 h 53 [(0, .int x0), (1, .int x1), (2, .int x2), (3, .int x3), (4, .int x4_2), (5, .int x5_3)] [.int z_7]
              refine g_istore (pc' := 55) O ⟨dX6_blocksChanged_53, rfl⟩ (lv' := [(6, .int z_7), (0, .int x0), (1, .int x1), (2, .int x2), (3, .int x3), (4, .int x4_2), (5, .int x5_3)]) (by decide) rfl ?_
              refine g_sub (lv' := [(0, .int x0), (1, .int x1), (2, .int x2), (3, .int x3), (4, .int x4_2), (5, .int x5_3), (6, .int z_7)]) [1, 2, 3, 4, 5, 6, 0] rfl ?_
              exact hk55 _ E
            · intro k53 hk53 E
              refine g_icmp_ge (pc' := 42) O ⟨dX6_blocksChanged_39, rfl⟩ E (tgt := 47) (by decide) (fun E => ?_) (fun E => ?_)
              · refine g_iload (pc' := 49) O ⟨dX6_blocksChanged_47, rfl⟩ (q := 0) rfl ?_
                refine g_iload_n (pc' := 50) O ⟨dX6_blocksChanged_49, rfl⟩ (q := 3) rfl rfl ?_
                refine g_iload_n (pc' := 51) O ⟨dX6_blocksChanged_50, rfl⟩ (q := 1) rfl rfl ?_
                refine g_isub (pc' := 52) O ⟨dX6_blocksChanged_51, rfl⟩ ?_
                refine g_isub (pc' := 53) O ⟨dX6_blocksChanged_52, rfl⟩ ?_
                refine g_sub (lv' := [(0, .int x0), (1, .int x1), (2, .int x2), (3, .int x3), (4, .int x4_2), (5, .int x5_3)]) [1, 2, 3, 4, 5, 6] rfl ?_
                exact hk53 _ E
              · refine g_iload (pc' := 44) O ⟨dX6_blocksChanged_42, rfl⟩ (q := 0) rfl ?_
                refine g_goto (pc' := 47) O ⟨dX6_blocksChanged_44, rfl⟩ (tgt := 53) (by decide) ?_
                refine g_sub (lv' := [(0, .int x0), (1, .int x1), (2, .int x2), (3, .int x3), (4, .int x4_2), (5, .int x5_3)]) [1, 2, 3, 4, 5, 6] rfl ?_
                exact hk53 _ E
set_option maxRecDepth 100000 in
set_option maxHeartbeats 4000000 in
theorem t_X6_append_28 (l : Launch) (D : va_G) (ad : Nat → Nat) (cy : Nat → ClassId) {h : Hp} {x1 : Int32} {o : Hp} (E : f_X6_append_28 h x1 = some o) : CtV l D cy (WC ad cy) yX6_append cX6_append 2 0 0 [.ref (ad 28), .int x1] h o := by
  refine sV (own := RX6) rfl rfl (Nat.le_of_ble_eq_true rfl) (fun X O hret => ?_)
  show G l D X 2 (WC ad cy) 0 0 h 0 [(0, .ref (ad 28)), (1, .int x1)] []
  unfold f_X6_append_28 at E
  refine g_aload_n (pc' := 1) O ⟨dX6_append_0, rfl⟩ (q := 0) rfl rfl ?_
  refine gf_C_RX6_22_28 ad cy (pc' := 4) O ⟨dX6_append_1, rfl⟩ ?_
  refine g_bipush (pc' := 6) O ⟨dX6_append_4, rfl⟩ (v := (35 : Int32)) rfl ?_
  refine g_icmp_ge (pc' := 9) O ⟨dX6_append_6, rfl⟩ E (tgt := 29) (by decide) (fun E => ?_) (fun E => ?_)
  · cases E
    exact hret _ _ _ ⟨dX6_append_29, rfl⟩
  · refine g_aload_n (pc' := 10) O ⟨dX6_append_9, rfl⟩ (q := 0) rfl rfl ?_
    refine gf_C_RX6_19_28 ad cy (pc' := 13) O ⟨dX6_append_10, rfl⟩ ?_
    refine g_aload_n (pc' := 14) O ⟨dX6_append_13, rfl⟩ (q := 0) rfl rfl ?_
    refine gf_C_RX6_22_28 ad cy (pc' := 17) O ⟨dX6_append_14, rfl⟩ ?_
    refine g_iload_n (pc' := 18) O ⟨dX6_append_17, rfl⟩ (q := 1) rfl rfl ?_
    refine g_iast (pc' := 19) O ⟨dX6_append_18, rfl⟩ (wC_31 ad cy h) (vC_31 ad cy h _) E (fun E => ?_)
    refine g_nmh E (fun h_1 E => ?_)
    refine g_aload_n (pc' := 20) O ⟨dX6_append_19, rfl⟩ (q := 0) rfl rfl ?_
    refine g_dup (pc' := 21) O ⟨dX6_append_20, rfl⟩ rfl ?_
    refine gf_C_RX6_22_28 ad cy (pc' := 24) O ⟨dX6_append_21, rfl⟩ ?_
    refine g_iconst (pc' := 25) O ⟨dX6_append_24, rfl⟩ (v := (1 : Int32)) rfl ?_
    refine g_iadd (pc' := 26) O ⟨dX6_append_25, rfl⟩ ?_
    refine gp_C_RX6_22_28 ad cy (pc' := 29) O ⟨dX6_append_26, rfl⟩ ?_
    refine g_nmh E (fun h_2 E => ?_)
    cases E
    exact hret _ _ _ ⟨dX6_append_29, rfl⟩
set_option maxRecDepth 100000 in
set_option maxHeartbeats 4000000 in
theorem t_X6_listBlocks_28 (l : Launch) (D : va_G) (ad : Nat → Nat) (cy : Nat → ClassId) {h : Hp} {x1 : Int32} {o : Hp} (E : f_X6_listBlocks_28 h x1 = some o) : CtV l D cy (WC ad cy) yX6_listBlocks cX6_listBlocks 5 1 26 [.ref (ad 28), .int x1] h o := by
  refine sV (own := RX6) rfl rfl (Nat.le_of_ble_eq_true rfl) (fun X O hret => ?_)
  show G l D X 5 (WC ad cy) 0 0 h 0 [(0, .ref (ad 28)), (1, .int x1)] []
  unfold f_X6_listBlocks_28 at E
  refine g_iconst (pc' := 1) O ⟨dX6_listBlocks_0, rfl⟩ (v := (0 : Int32)) rfl ?_
  refine g_istore_n (pc' := 2) O ⟨dX6_listBlocks_1, rfl⟩ (lv' := [(2, .int (0 : Int32)), (0, .ref (ad 28)), (1, .int x1)]) rfl (by decide) rfl ?_
  refine jn1_of (P := fun (h_1 : Hp) => G l D X 5 (WC ad cy) 0 0 h_1 57 [] []) E ?_ ?_
  · intro h_1 E
    show G l D X 5 (WC ad cy) 0 0 h_1 57 [] []
    cases E
    exact hret _ _ _ ⟨dX6_listBlocks_57, rfl⟩
  · intro k57 hk57 E
    refine g_sub (lv' := [(0, .ref (ad 28)), (1, .int x1), (2, .int (0 : Int32))]) [1, 2, 0] rfl ?_
    refine fx2_of (P := fun (x2_2 : Int32) (h_3 : Hp) => G l D X 5 (WC ad cy) 0 0 h_3 2 [(0, .ref (ad 28)), (1, .int x1), (2, .int x2_2)] []) ?_ _ _ _ E
    intro self ih2 x2_2 h_3 E
    show G l D X 5 (WC ad cy) 0 0 h_3 2 [(0, .ref (ad 28)), (1, .int x1), (2, .int x2_2)] []
    unfold L_X6_listBlocks_28_2 at E
    refine g_iload_n (pc' := 3) O ⟨dX6_listBlocks_2, rfl⟩ (q := 2) rfl rfl ?_
    refine g_iload_n (pc' := 4) O ⟨dX6_listBlocks_3, rfl⟩ (q := 1) rfl rfl ?_
    refine g_icmp_ge (pc' := 7) O ⟨dX6_listBlocks_4, rfl⟩ E (tgt := 57) (by decide) (fun E => ?_) (fun E => ?_)
    · refine g_sub (lv' := []) [] rfl ?_
      exact hk57 _ E
    · refine g_iload_n (pc' := 8) O ⟨dX6_listBlocks_7, rfl⟩ (q := 2) rfl rfl ?_
      refine g_iconst (pc' := 9) O ⟨dX6_listBlocks_8, rfl⟩ (v := (1 : Int32)) rfl ?_
      refine g_iadd (pc' := 10) O ⟨dX6_listBlocks_9, rfl⟩ ?_
      refine g_nm E (fun y3_4 E => ?_)
      refine g_istore_n (pc' := 11) O ⟨dX6_listBlocks_10, rfl⟩ (lv' := [(3, .int y3_4), (0, .ref (ad 28)), (1, .int x1), (2, .int x2_2)]) rfl (by decide) rfl ?_
      refine jn1_of (P := fun (h_5 : Hp) => G l D X 5 (WC ad cy) 0 0 h_5 51 [(0, .ref (ad 28)), (1, .int x1), (2, .int x2_2)] []) E ?_ ?_
      · intro h_5 E
        show G l D X 5 (WC ad cy) 0 0 h_5 51 [(0, .ref (ad 28)), (1, .int x1), (2, .int x2_2)] []
        refine g_iinc (pc' := 54) O ⟨dX6_listBlocks_51, rfl⟩ (q := 2) (v := x2_2 + (1 : Int32)) (lv' := [(2, .int (x2_2 + (1 : Int32))), (0, .ref (ad 28)), (1, .int x1)]) rfl rfl (by decide) rfl ?_
        refine g_goto (pc' := 57) O ⟨dX6_listBlocks_54, rfl⟩ (tgt := 2) (by decide) ?_
        refine g_sub (lv' := [(0, .ref (ad 28)), (1, .int x1), (2, .int (x2_2 + (1 : Int32)))]) [1, 2, 0] rfl ?_
        exact ih2 _ _ E
      · intro k51 hk51 E
        refine g_sub (lv' := [(0, .ref (ad 28)), (1, .int x1), (2, .int x2_2), (3, .int y3_4)]) [1, 2, 3, 0] rfl ?_
        refine fx2_of (P := fun (x3_6 : Int32) (h_7 : Hp) => G l D X 5 (WC ad cy) 0 0 h_7 11 [(0, .ref (ad 28)), (1, .int x1), (2, .int x2_2), (3, .int x3_6)] []) ?_ _ _ _ E
        intro self ih11 x3_6 h_7 E
        show G l D X 5 (WC ad cy) 0 0 h_7 11 [(0, .ref (ad 28)), (1, .int x1), (2, .int x2_2), (3, .int x3_6)] []
        unfold L_X6_listBlocks_28_11 at E
        refine g_iload_n (pc' := 12) O ⟨dX6_listBlocks_11, rfl⟩ (q := 3) rfl rfl ?_
        refine g_iload_n (pc' := 13) O ⟨dX6_listBlocks_12, rfl⟩ (q := 1) rfl rfl ?_
        refine g_icmp_ge (pc' := 16) O ⟨dX6_listBlocks_13, rfl⟩ E (tgt := 51) (by decide) (fun E => ?_) (fun E => ?_)
        · refine g_sub (lv' := [(0, .ref (ad 28)), (1, .int x1), (2, .int x2_2)]) [0, 1, 2] rfl ?_
          exact hk51 _ E
        · refine g_iload_n (pc' := 17) O ⟨dX6_listBlocks_16, rfl⟩ (q := 3) rfl rfl ?_
          refine g_iconst (pc' := 18) O ⟨dX6_listBlocks_17, rfl⟩ (v := (1 : Int32)) rfl ?_
          refine g_iadd (pc' := 19) O ⟨dX6_listBlocks_18, rfl⟩ ?_
          refine g_nm E (fun y4_8 E => ?_)
          refine g_istore (pc' := 21) O ⟨dX6_listBlocks_19, rfl⟩ (lv' := [(4, .int y4_8), (0, .ref (ad 28)), (1, .int x1), (2, .int x2_2), (3, .int x3_6)]) (by decide) rfl ?_
          refine jn1_of (P := fun (h_9 : Hp) => G l D X 5 (WC ad cy) 0 0 h_9 45 [(0, .ref (ad 28)), (1, .int x1), (2, .int x2_2), (3, .int x3_6)] []) E ?_ ?_
          · intro h_9 E
            show G l D X 5 (WC ad cy) 0 0 h_9 45 [(0, .ref (ad 28)), (1, .int x1), (2, .int x2_2), (3, .int x3_6)] []
            refine g_iinc (pc' := 48) O ⟨dX6_listBlocks_45, rfl⟩ (q := 3) (v := x3_6 + (1 : Int32)) (lv' := [(3, .int (x3_6 + (1 : Int32))), (0, .ref (ad 28)), (1, .int x1), (2, .int x2_2)]) rfl rfl (by decide) rfl ?_
            refine g_goto (pc' := 51) O ⟨dX6_listBlocks_48, rfl⟩ (tgt := 11) (by decide) ?_
            refine g_sub (lv' := [(0, .ref (ad 28)), (1, .int x1), (2, .int x2_2), (3, .int (x3_6 + (1 : Int32)))]) [1, 2, 3, 0] rfl ?_
            exact ih11 _ _ E
          · intro k45 hk45 E
            refine g_sub (lv' := [(0, .ref (ad 28)), (1, .int x1), (2, .int x2_2), (3, .int x3_6), (4, .int y4_8)]) [1, 2, 3, 4, 0] rfl ?_
            refine fx2_of (P := fun (x4_10 : Int32) (h_11 : Hp) => G l D X 5 (WC ad cy) 0 0 h_11 21 [(0, .ref (ad 28)), (1, .int x1), (2, .int x2_2), (3, .int x3_6), (4, .int x4_10)] []) ?_ _ _ _ E
            intro self ih21 x4_10 h_11 E
            show G l D X 5 (WC ad cy) 0 0 h_11 21 [(0, .ref (ad 28)), (1, .int x1), (2, .int x2_2), (3, .int x3_6), (4, .int x4_10)] []
            unfold L_X6_listBlocks_28_21 at E
            refine g_iload (pc' := 23) O ⟨dX6_listBlocks_21, rfl⟩ (q := 4) rfl ?_
            refine g_iload_n (pc' := 24) O ⟨dX6_listBlocks_23, rfl⟩ (q := 1) rfl rfl ?_
            refine g_icmp_gt (pc' := 27) O ⟨dX6_listBlocks_24, rfl⟩ E (tgt := 45) (by decide) (fun E => ?_) (fun E => ?_)
            · refine g_sub (lv' := [(0, .ref (ad 28)), (1, .int x1), (2, .int x2_2), (3, .int x3_6)]) [0, 1, 2, 3] rfl ?_
              exact hk45 _ E
            · refine g_aload_n (pc' := 28) O ⟨dX6_listBlocks_27, rfl⟩ (q := 0) rfl rfl ?_
              refine g_iload_n (pc' := 29) O ⟨dX6_listBlocks_28, rfl⟩ (q := 2) rfl rfl ?_
              refine g_iload_n (pc' := 30) O ⟨dX6_listBlocks_29, rfl⟩ (q := 3) rfl rfl ?_
              refine g_iload (pc' := 32) O ⟨dX6_listBlocks_30, rfl⟩ (q := 4) rfl ?_
              refine g_iload_n (pc' := 33) O ⟨dX6_listBlocks_32, rfl⟩ (q := 1) rfl rfl ?_
              obtain ⟨r_12, c_13, E⟩ := bd_of E
              refine g_Si (pc' := 36) O ⟨dX6_listBlocks_33, rfl⟩ (y := yX6_blocksChanged) (As := [.int x2_2, .int x3_6, .int x4_10, .int x1]) (st := [.ref (ad 28)]) (t_X6_blocksChanged l D ad cy (h := h_11) c_13) kw_952 kw_33 kw_950 kw_951 hd_X6_blocksChanged ⟨Nat.le_of_ble_eq_true rfl, Nat.le_of_ble_eq_true rfl⟩ ⟨Nat.le_of_ble_eq_true rfl, Nat.le_of_ble_eq_true rfl⟩ rfl (Nat.le_of_ble_eq_true rfl) ?_
              obtain ⟨r_14, c_15, E⟩ := bd_of E
              refine g_Vv (pc' := 39) O ⟨dX6_listBlocks_36, rfl⟩ (y := yX6_append) (As := [.int r_12]) (st := []) (t_X6_append_28 l D ad cy (h := h_11) c_15) kw_941 kw_33 kw_938 kw_940 kw_18 rfl (wC_28 ad cy h_11) hd_X6_append ⟨Nat.le_of_ble_eq_true rfl, Nat.le_of_ble_eq_true rfl⟩ ⟨Nat.le_of_ble_eq_true rfl, Nat.le_of_ble_eq_true rfl⟩ rfl (Nat.le_of_ble_eq_true rfl) ?_
              refine g_iinc (pc' := 42) O ⟨dX6_listBlocks_39, rfl⟩ (q := 4) (v := x4_10 + (1 : Int32)) (lv' := [(4, .int (x4_10 + (1 : Int32))), (0, .ref (ad 28)), (1, .int x1), (2, .int x2_2), (3, .int x3_6)]) rfl rfl (by decide) rfl ?_
              refine g_goto (pc' := 45) O ⟨dX6_listBlocks_42, rfl⟩ (tgt := 21) (by decide) ?_
              refine g_sub (lv' := [(0, .ref (ad 28)), (1, .int x1), (2, .int x2_2), (3, .int x3_6), (4, .int (x4_10 + (1 : Int32)))]) [1, 2, 3, 4, 0] rfl ?_
              exact ih21 _ _ E
set_option maxRecDepth 100000 in
set_option maxHeartbeats 4000000 in
theorem t_X6_listFlips_28 (l : Launch) (D : va_G) (ad : Nat → Nat) (cy : Nat → ClassId) {h : Hp} {x1 : Int32} {o : Hp} (E : f_X6_listFlips_28 h x1 = some o) : CtV l D cy (WC ad cy) yX6_listFlips cX6_listFlips 6 1 21 [.ref (ad 28), .int x1] h o := by
  refine sV (own := RX6) rfl rfl (Nat.le_of_ble_eq_true rfl) (fun X O hret => ?_)
  show G l D X 6 (WC ad cy) 0 0 h 0 [(0, .ref (ad 28)), (1, .int x1)] []
  unfold f_X6_listFlips_28 at E
  refine g_iconst (pc' := 1) O ⟨dX6_listFlips_0, rfl⟩ (v := (2 : Int32)) rfl ?_
  refine g_istore_n (pc' := 2) O ⟨dX6_listFlips_1, rfl⟩ (lv' := [(2, .int (2 : Int32)), (0, .ref (ad 28)), (1, .int x1)]) rfl (by decide) rfl ?_
  refine jn1_of (P := fun (h_1 : Hp) => G l D X 6 (WC ad cy) 0 0 h_1 64 [] []) E ?_ ?_
  · intro h_1 E
    show G l D X 6 (WC ad cy) 0 0 h_1 64 [] []
    cases E
    exact hret _ _ _ ⟨dX6_listFlips_64, rfl⟩
  · intro k64 hk64 E
    refine g_sub (lv' := [(0, .ref (ad 28)), (1, .int x1), (2, .int (2 : Int32))]) [1, 2, 0] rfl ?_
    refine fx2_of (P := fun (x2_2 : Int32) (h_3 : Hp) => G l D X 6 (WC ad cy) 0 0 h_3 2 [(0, .ref (ad 28)), (1, .int x1), (2, .int x2_2)] []) ?_ _ _ _ E
    intro self ih2 x2_2 h_3 E
    show G l D X 6 (WC ad cy) 0 0 h_3 2 [(0, .ref (ad 28)), (1, .int x1), (2, .int x2_2)] []
    unfold L_X6_listFlips_28_2 at E
    refine g_iload_n (pc' := 3) O ⟨dX6_listFlips_2, rfl⟩ (q := 2) rfl rfl ?_
    refine g_iload_n (pc' := 4) O ⟨dX6_listFlips_3, rfl⟩ (q := 1) rfl rfl ?_
    refine g_icmp_gt (pc' := 7) O ⟨dX6_listFlips_4, rfl⟩ E (tgt := 64) (by decide) (fun E => ?_) (fun E => ?_)
    · refine g_sub (lv' := []) [] rfl ?_
      exact hk64 _ E
    · refine g_iconst (pc' := 8) O ⟨dX6_listFlips_7, rfl⟩ (v := (0 : Int32)) rfl ?_
      refine g_istore_n (pc' := 9) O ⟨dX6_listFlips_8, rfl⟩ (lv' := [(3, .int (0 : Int32)), (0, .ref (ad 28)), (1, .int x1), (2, .int x2_2)]) rfl (by decide) rfl ?_
      refine g_iconst (pc' := 10) O ⟨dX6_listFlips_9, rfl⟩ (v := (0 : Int32)) rfl ?_
      refine g_istore (pc' := 12) O ⟨dX6_listFlips_10, rfl⟩ (lv' := [(4, .int (0 : Int32)), (3, .int (0 : Int32)), (0, .ref (ad 28)), (1, .int x1), (2, .int x2_2)]) (by decide) rfl ?_
      refine jn1_of (P := fun (x3_4 : Int32) => G l D X 6 (WC ad cy) 0 0 h_3 53 [(0, .ref (ad 28)), (1, .int x1), (2, .int x2_2), (3, .int x3_4)] []) E ?_ ?_
      · intro x3_4 E
        show G l D X 6 (WC ad cy) 0 0 h_3 53 [(0, .ref (ad 28)), (1, .int x1), (2, .int x2_2), (3, .int x3_4)] []
        refine g_aload_n (pc' := 54) O ⟨dX6_listFlips_53, rfl⟩ (q := 0) rfl rfl ?_
        refine g_iload_n (pc' := 55) O ⟨dX6_listFlips_54, rfl⟩ (q := 3) rfl rfl ?_
        obtain ⟨r_5, c_6, E⟩ := bd_of E
        refine g_Vv (pc' := 58) O ⟨dX6_listFlips_55, rfl⟩ (y := yX6_append) (As := [.int x3_4]) (st := []) (t_X6_append_28 l D ad cy (h := h_3) c_6) kw_941 kw_33 kw_938 kw_940 kw_18 rfl (wC_28 ad cy h_3) hd_X6_append ⟨Nat.le_of_ble_eq_true rfl, Nat.le_of_ble_eq_true rfl⟩ ⟨Nat.le_of_ble_eq_true rfl, Nat.le_of_ble_eq_true rfl⟩ rfl (Nat.le_of_ble_eq_true rfl) ?_
        refine g_iinc (pc' := 61) O ⟨dX6_listFlips_58, rfl⟩ (q := 2) (v := x2_2 + (1 : Int32)) (lv' := [(2, .int (x2_2 + (1 : Int32))), (0, .ref (ad 28)), (1, .int x1), (3, .int x3_4)]) rfl rfl (by decide) rfl ?_
        refine g_goto (pc' := 64) O ⟨dX6_listFlips_61, rfl⟩ (tgt := 2) (by decide) ?_
        refine g_sub (lv' := [(0, .ref (ad 28)), (1, .int x1), (2, .int (x2_2 + (1 : Int32)))]) [1, 2, 0] rfl ?_
        exact ih2 _ _ E
      · intro k53 hk53 E
        refine g_sub (lv' := [(0, .ref (ad 28)), (1, .int x1), (2, .int x2_2), (3, .int (0 : Int32)), (4, .int (0 : Int32))]) [2, 3, 4, 1, 0] rfl ?_
        refine fx2_of (P := fun (x3_7 : Int32) (x4_8 : Int32) => G l D X 6 (WC ad cy) 0 0 h_3 12 [(0, .ref (ad 28)), (1, .int x1), (2, .int x2_2), (3, .int x3_7), (4, .int x4_8)] []) ?_ _ _ _ E
        intro self ih12 x3_7 x4_8 E
        show G l D X 6 (WC ad cy) 0 0 h_3 12 [(0, .ref (ad 28)), (1, .int x1), (2, .int x2_2), (3, .int x3_7), (4, .int x4_8)] []
        unfold L_X6_listFlips_28_12 at E
        refine g_iload (pc' := 14) O ⟨dX6_listFlips_12, rfl⟩ (q := 4) rfl ?_
        refine g_iload_n (pc' := 15) O ⟨dX6_listFlips_14, rfl⟩ (q := 1) rfl rfl ?_
        refine g_icmp_ge (pc' := 18) O ⟨dX6_listFlips_15, rfl⟩ E (tgt := 53) (by decide) (fun E => ?_) (fun E => ?_)
        · refine g_sub (lv' := [(0, .ref (ad 28)), (1, .int x1), (2, .int x2_2), (3, .int x3_7)]) [0, 1, 2, 3] rfl ?_
          exact hk53 _ E
        · refine g_iload (pc' := 20) O ⟨dX6_listFlips_18, rfl⟩ (q := 4) rfl ?_
          refine g_iload_n (pc' := 21) O ⟨dX6_listFlips_20, rfl⟩ (q := 2) rfl rfl ?_
          refine jn1_of (P := fun (z_9 : Int32) => G l D X 6 (WC ad cy) 0 0 h_3 35 [(0, .ref (ad 28)), (1, .int x1), (2, .int x2_2), (3, .int x3_7), (4, .int x4_8)] [.int z_9]) E ?_ ?_
          · intro z_9 E
            show G l D X 6 (WC ad cy) 0 0 h_3 35 [(0, .ref (ad 28)), (1, .int x1), (2, .int x2_2), (3, .int x3_7), (4, .int x4_8)] [.int z_9]
            refine g_istore (pc' := 37) O ⟨dX6_listFlips_35, rfl⟩ (lv' := [(5, .int z_9), (0, .ref (ad 28)), (1, .int x1), (2, .int x2_2), (3, .int x3_7), (4, .int x4_8)]) (by decide) rfl ?_
            refine g_iload_n (pc' := 38) O ⟨dX6_listFlips_37, rfl⟩ (q := 4) rfl rfl ?_
            refine g_iload (pc' := 40) O ⟨dX6_listFlips_38, rfl⟩ (q := 0) rfl ?_
            refine g_iconst (pc' := 41) O ⟨dX6_listFlips_40, rfl⟩ (v := (4 : Int32)) rfl ?_
            refine g_iload (pc' := 43) O ⟨dX6_listFlips_41, rfl⟩ (q := 5) rfl ?_
            refine g_imul (pc' := 44) O ⟨dX6_listFlips_43, rfl⟩ ?_
            refine g_ishl (pc' := 45) O ⟨dX6_listFlips_44, rfl⟩ ?_
            refine g_ior (pc' := 46) O ⟨dX6_listFlips_45, rfl⟩ ?_
            refine g_nm E (fun y3_10 E => ?_)
            refine g_istore_n (pc' := 47) O ⟨dX6_listFlips_46, rfl⟩ (lv' := [(3, .int y3_10), (5, .int z_9), (0, .ref (ad 28)), (1, .int x1), (2, .int x2_2), (4, .int x4_8)]) rfl (by decide) rfl ?_
            refine g_iinc (pc' := 50) O ⟨dX6_listFlips_47, rfl⟩ (q := 5) (v := x4_8 + (1 : Int32)) (lv' := [(4, .int (x4_8 + (1 : Int32))), (3, .int y3_10), (5, .int z_9), (0, .ref (ad 28)), (1, .int x1), (2, .int x2_2)]) rfl rfl (by decide) rfl ?_
            refine g_goto (pc' := 53) O ⟨dX6_listFlips_50, rfl⟩ (tgt := 12) (by decide) ?_
            refine g_sub (lv' := [(0, .ref (ad 28)), (1, .int x1), (2, .int x2_2), (3, .int y3_10), (4, .int (x4_8 + (1 : Int32)))]) [3, 4, 5, 1, 0] rfl ?_
            exact ih12 _ _ E
          · intro k35 hk35 E
            refine g_icmp_ge (pc' := 24) O ⟨dX6_listFlips_21, rfl⟩ E (tgt := 33) (by decide) (fun E => ?_) (fun E => ?_)
            · refine g_iload (pc' := 35) O ⟨dX6_listFlips_33, rfl⟩ (q := 4) rfl ?_
              exact hk35 _ E
            · refine g_iload_n (pc' := 25) O ⟨dX6_listFlips_24, rfl⟩ (q := 2) rfl rfl ?_
              refine g_iconst (pc' := 26) O ⟨dX6_listFlips_25, rfl⟩ (v := (1 : Int32)) rfl ?_
              refine g_isub (pc' := 27) O ⟨dX6_listFlips_26, rfl⟩ ?_
              refine g_iload (pc' := 29) O ⟨dX6_listFlips_27, rfl⟩ (q := 4) rfl ?_
              refine g_isub (pc' := 30) O ⟨dX6_listFlips_29, rfl⟩ ?_
              refine g_goto (pc' := 33) O ⟨dX6_listFlips_30, rfl⟩ (tgt := 35) (by decide) ?_
              exact hk35 _ E
set_option maxRecDepth 100000 in
set_option maxHeartbeats 4000000 in
theorem t_X6_listChanges_28 (l : Launch) (D : va_G) (ad : Nat → Nat) (cy : Nat → ClassId) {h : Hp} {x1 : Int32} {x2 : Int32} {o : Hp} (E : f_X6_listChanges_28 h x1 x2 = some o) : CtV l D cy (WC ad cy) yX6_listChanges cX6_listChanges 6 2 44 [.ref (ad 28), .int x1, .int x2] h o := by
  refine sV (own := RX6) rfl rfl (Nat.le_of_ble_eq_true rfl) (fun X O hret => ?_)
  show G l D X 6 (WC ad cy) 0 0 h 0 [(0, .ref (ad 28)), (1, .int x1), (2, .int x2)] []
  unfold f_X6_listChanges_28 at E
  refine g_iload_n (pc' := 1) O ⟨dX6_listChanges_0, rfl⟩ (q := 2) rfl rfl ?_
  obtain ⟨r_1, c_2, E⟩ := bd_of E
  refine g_Si (pc' := 4) O ⟨dX6_listChanges_1, rfl⟩ (y := yX5_inOrder) (As := [.int x2]) (st := []) (t_X5_inOrder l D ad cy (h := h) c_2) kw_917 kw_41 kw_915 kw_916 hd_X5_inOrder ⟨Nat.le_of_ble_eq_true rfl, Nat.le_of_ble_eq_true rfl⟩ ⟨Nat.le_of_ble_eq_true rfl, Nat.le_of_ble_eq_true rfl⟩ rfl (Nat.le_of_ble_eq_true rfl) ?_
  refine g_istore_n (pc' := 5) O ⟨dX6_listChanges_4, rfl⟩ (lv' := [(3, .int r_1), (0, .ref (ad 28)), (1, .int x1), (2, .int x2)]) rfl (by decide) rfl ?_
  refine g_iconst (pc' := 6) O ⟨dX6_listChanges_5, rfl⟩ (v := (0 : Int32)) rfl ?_
  refine g_istore (pc' := 8) O ⟨dX6_listChanges_6, rfl⟩ (lv' := [(4, .int (0 : Int32)), (3, .int r_1), (0, .ref (ad 28)), (1, .int x1), (2, .int x2)]) (by decide) rfl ?_
  refine jn1_of (P := fun (h_3 : Hp) => G l D X 6 (WC ad cy) 0 0 h_3 59 [] []) E ?_ ?_
  · intro h_3 E
    show G l D X 6 (WC ad cy) 0 0 h_3 59 [] []
    cases E
    exact hret _ _ _ ⟨dX6_listChanges_59, rfl⟩
  · intro k59 hk59 E
    refine g_sub (lv' := [(0, .ref (ad 28)), (1, .int x1), (2, .int x2), (3, .int r_1), (4, .int (0 : Int32))]) [2, 3, 4, 1, 0] rfl ?_
    refine fx2_of (P := fun (x4_4 : Int32) (h_5 : Hp) => G l D X 6 (WC ad cy) 0 0 h_5 8 [(0, .ref (ad 28)), (1, .int x1), (2, .int x2), (3, .int r_1), (4, .int x4_4)] []) ?_ _ _ _ E
    intro self ih8 x4_4 h_5 E
    show G l D X 6 (WC ad cy) 0 0 h_5 8 [(0, .ref (ad 28)), (1, .int x1), (2, .int x2), (3, .int r_1), (4, .int x4_4)] []
    unfold L_X6_listChanges_28_8 at E
    refine g_iload (pc' := 10) O ⟨dX6_listChanges_8, rfl⟩ (q := 4) rfl ?_
    refine g_iload_n (pc' := 11) O ⟨dX6_listChanges_10, rfl⟩ (q := 2) rfl rfl ?_
    refine g_icmp_ge (pc' := 14) O ⟨dX6_listChanges_11, rfl⟩ E (tgt := 59) (by decide) (fun E => ?_) (fun E => ?_)
    · refine g_sub (lv' := []) [] rfl ?_
      exact hk59 _ E
    · refine g_iload (pc' := 16) O ⟨dX6_listChanges_14, rfl⟩ (q := 4) rfl ?_
      refine g_iconst (pc' := 17) O ⟨dX6_listChanges_16, rfl⟩ (v := (1 : Int32)) rfl ?_
      refine g_iadd (pc' := 18) O ⟨dX6_listChanges_17, rfl⟩ ?_
      refine g_nm E (fun y5_6 E => ?_)
      refine g_istore (pc' := 20) O ⟨dX6_listChanges_18, rfl⟩ (lv' := [(5, .int y5_6), (0, .ref (ad 28)), (1, .int x1), (2, .int x2), (3, .int r_1), (4, .int x4_4)]) (by decide) rfl ?_
      refine jn1_of (P := fun (h_7 : Hp) => G l D X 6 (WC ad cy) 0 0 h_7 53 [(0, .ref (ad 28)), (1, .int x1), (2, .int x2), (3, .int r_1), (4, .int x4_4)] []) E ?_ ?_
      · intro h_7 E
        show G l D X 6 (WC ad cy) 0 0 h_7 53 [(0, .ref (ad 28)), (1, .int x1), (2, .int x2), (3, .int r_1), (4, .int x4_4)] []
        refine g_iinc (pc' := 56) O ⟨dX6_listChanges_53, rfl⟩ (q := 4) (v := x4_4 + (1 : Int32)) (lv' := [(4, .int (x4_4 + (1 : Int32))), (0, .ref (ad 28)), (1, .int x1), (2, .int x2), (3, .int r_1)]) rfl rfl (by decide) rfl ?_
        refine g_goto (pc' := 59) O ⟨dX6_listChanges_56, rfl⟩ (tgt := 8) (by decide) ?_
        refine g_sub (lv' := [(0, .ref (ad 28)), (1, .int x1), (2, .int x2), (3, .int r_1), (4, .int (x4_4 + (1 : Int32)))]) [1, 2, 3, 4, 0] rfl ?_
        exact ih8 _ _ E
      · intro k53 hk53 E
        refine g_sub (lv' := [(0, .ref (ad 28)), (1, .int x1), (2, .int x2), (3, .int r_1), (4, .int x4_4), (5, .int y5_6)]) [1, 2, 3, 4, 5, 0] rfl ?_
        refine fx2_of (P := fun (x5_8 : Int32) (h_9 : Hp) => G l D X 6 (WC ad cy) 0 0 h_9 20 [(0, .ref (ad 28)), (1, .int x1), (2, .int x2), (3, .int r_1), (4, .int x4_4), (5, .int x5_8)] []) ?_ _ _ _ E
        intro self ih20 x5_8 h_9 E
        show G l D X 6 (WC ad cy) 0 0 h_9 20 [(0, .ref (ad 28)), (1, .int x1), (2, .int x2), (3, .int r_1), (4, .int x4_4), (5, .int x5_8)] []
        unfold L_X6_listChanges_28_20 at E
        refine g_iload (pc' := 22) O ⟨dX6_listChanges_20, rfl⟩ (q := 5) rfl ?_
        refine g_iload_n (pc' := 23) O ⟨dX6_listChanges_22, rfl⟩ (q := 2) rfl rfl ?_
        refine g_icmp_ge (pc' := 26) O ⟨dX6_listChanges_23, rfl⟩ E (tgt := 53) (by decide) (fun E => ?_) (fun E => ?_)
        · refine g_sub (lv' := [(0, .ref (ad 28)), (1, .int x1), (2, .int x2), (3, .int r_1), (4, .int x4_4)]) [0, 1, 2, 3, 4] rfl ?_
          exact hk53 _ E
        · refine g_iload (pc' := 28) O ⟨dX6_listChanges_26, rfl⟩ (q := 5) rfl ?_
          refine g_iload (pc' := 30) O ⟨dX6_listChanges_28, rfl⟩ (q := 4) rfl ?_
          refine g_isub (pc' := 31) O ⟨dX6_listChanges_30, rfl⟩ ?_
          refine g_iload_n (pc' := 32) O ⟨dX6_listChanges_31, rfl⟩ (q := 1) rfl rfl ?_
          refine g_icmp_gt (pc' := 35) O ⟨dX6_listChanges_32, rfl⟩ E (tgt := 53) (by decide) (fun E => ?_) (fun E => ?_)
          · refine g_sub (lv' := [(0, .ref (ad 28)), (1, .int x1), (2, .int x2), (3, .int r_1), (4, .int x4_4)]) [0, 1, 2, 3, 4] rfl ?_
            exact hk53 _ E
          · refine g_aload_n (pc' := 36) O ⟨dX6_listChanges_35, rfl⟩ (q := 0) rfl rfl ?_
            refine g_iload_n (pc' := 37) O ⟨dX6_listChanges_36, rfl⟩ (q := 3) rfl rfl ?_
            refine g_iload (pc' := 39) O ⟨dX6_listChanges_37, rfl⟩ (q := 4) rfl ?_
            refine g_iload (pc' := 41) O ⟨dX6_listChanges_39, rfl⟩ (q := 5) rfl ?_
            obtain ⟨r_10, c_11, E⟩ := bd_of E
            refine g_Si (pc' := 44) O ⟨dX6_listChanges_41, rfl⟩ (y := yX5_exchanged) (As := [.int r_1, .int x4_4, .int x5_8]) (st := [.ref (ad 28)]) (t_X5_exchanged l D ad cy (h := h_9) c_11) kw_540 kw_41 kw_937 kw_539 hd_X5_exchanged ⟨Nat.le_of_ble_eq_true rfl, Nat.le_of_ble_eq_true rfl⟩ ⟨Nat.le_of_ble_eq_true rfl, Nat.le_of_ble_eq_true rfl⟩ rfl (Nat.le_of_ble_eq_true rfl) ?_
            obtain ⟨r_12, c_13, E⟩ := bd_of E
            refine g_Vv (pc' := 47) O ⟨dX6_listChanges_44, rfl⟩ (y := yX6_append) (As := [.int r_10]) (st := []) (t_X6_append_28 l D ad cy (h := h_9) c_13) kw_941 kw_33 kw_938 kw_940 kw_18 rfl (wC_28 ad cy h_9) hd_X6_append ⟨Nat.le_of_ble_eq_true rfl, Nat.le_of_ble_eq_true rfl⟩ ⟨Nat.le_of_ble_eq_true rfl, Nat.le_of_ble_eq_true rfl⟩ rfl (Nat.le_of_ble_eq_true rfl) ?_
            refine g_iinc (pc' := 50) O ⟨dX6_listChanges_47, rfl⟩ (q := 5) (v := x5_8 + (1 : Int32)) (lv' := [(5, .int (x5_8 + (1 : Int32))), (0, .ref (ad 28)), (1, .int x1), (2, .int x2), (3, .int r_1), (4, .int x4_4)]) rfl rfl (by decide) rfl ?_
            refine g_goto (pc' := 53) O ⟨dX6_listChanges_50, rfl⟩ (tgt := 20) (by decide) ?_
            refine g_sub (lv' := [(0, .ref (ad 28)), (1, .int x1), (2, .int x2), (3, .int r_1), (4, .int x4_4), (5, .int (x5_8 + (1 : Int32)))]) [1, 2, 3, 4, 5, 0] rfl ?_
            exact ih20 _ _ E
set_option maxRecDepth 100000 in
set_option maxHeartbeats 4000000 in
theorem t_X6_listSteps_28 (l : Launch) (D : va_G) (ad : Nat → Nat) (cy : Nat → ClassId) {h : Hp} {x1 : Int32} {x2 : Int32} {o : Hp} (E : f_X6_listSteps_28 h x1 x2 = some o) : CtV l D cy (WC ad cy) yX6_listSteps cX6_listSteps 3 3 69 [.ref (ad 28), .int x1, .int x2] h o := by
  refine sV (own := RX6) rfl rfl (Nat.le_of_ble_eq_true rfl) (fun X O hret => ?_)
  show G l D X 3 (WC ad cy) 0 0 h 0 [(0, .ref (ad 28)), (1, .int x1), (2, .int x2)] []
  unfold f_X6_listSteps_28 at E
  refine g_aload_n (pc' := 1) O ⟨dX6_listSteps_0, rfl⟩ (q := 0) rfl rfl ?_
  refine g_iconst (pc' := 2) O ⟨dX6_listSteps_1, rfl⟩ (v := (0 : Int32)) rfl ?_
  refine gp_C_RX6_22_28 ad cy (pc' := 5) O ⟨dX6_listSteps_2, rfl⟩ ?_
  refine g_nmh E (fun h_1 E => ?_)
  refine g_iload_n (pc' := 6) O ⟨dX6_listSteps_5, rfl⟩ (q := 1) rfl rfl ?_
  refine g_tab (pc' := 32) O ⟨dX6_listSteps_6, rfl⟩ (v := (0 : Int32)) (tgt := 32) E ⟨by decide, by decide, rfl, by decide⟩ (fun E => ?_) (fun n0 E => ?_)
  · refine g_aload_n (pc' := 33) O ⟨dX6_listSteps_32, rfl⟩ (q := 0) rfl rfl ?_
    refine g_iconst (pc' := 34) O ⟨dX6_listSteps_33, rfl⟩ (v := (1 : Int32)) rfl ?_
    refine g_iload_n (pc' := 35) O ⟨dX6_listSteps_34, rfl⟩ (q := 2) rfl rfl ?_
    obtain ⟨r_2, c_3, E⟩ := bd_of E
    refine g_Vv (pc' := 38) O ⟨dX6_listSteps_35, rfl⟩ (y := yX6_listChanges) (As := [.int (1 : Int32), .int x2]) (st := []) (t_X6_listChanges_28 l D ad cy (h := h_1) c_3) kw_936 kw_33 kw_933 kw_935 kw_17 rfl (wC_28 ad cy h_1) hd_X6_listChanges ⟨Nat.le_of_ble_eq_true rfl, Nat.le_of_ble_eq_true rfl⟩ ⟨Nat.le_of_ble_eq_true rfl, Nat.le_of_ble_eq_true rfl⟩ rfl (Nat.le_of_ble_eq_true rfl) ?_
    refine g_goto (pc' := 41) O ⟨dX6_listSteps_38, rfl⟩ (tgt := 65) (by decide) ?_
    cases E
    exact hret _ _ _ ⟨dX6_listSteps_65, rfl⟩
  refine g_tab (pc' := 32) O ⟨dX6_listSteps_6, rfl⟩ (v := (1 : Int32)) (tgt := 41) E ⟨by decide, by decide, rfl, by decide⟩ (fun E => ?_) (fun n1 E => ?_)
  · refine g_aload_n (pc' := 42) O ⟨dX6_listSteps_41, rfl⟩ (q := 0) rfl rfl ?_
    refine g_iload_n (pc' := 43) O ⟨dX6_listSteps_42, rfl⟩ (q := 2) rfl rfl ?_
    refine g_iconst (pc' := 44) O ⟨dX6_listSteps_43, rfl⟩ (v := (1 : Int32)) rfl ?_
    refine g_isub (pc' := 45) O ⟨dX6_listSteps_44, rfl⟩ ?_
    refine g_iload_n (pc' := 46) O ⟨dX6_listSteps_45, rfl⟩ (q := 2) rfl rfl ?_
    obtain ⟨r_4, c_5, E⟩ := bd_of E
    refine g_Vv (pc' := 49) O ⟨dX6_listSteps_46, rfl⟩ (y := yX6_listChanges) (As := [.int (x2 - (1 : Int32)), .int x2]) (st := []) (t_X6_listChanges_28 l D ad cy (h := h_1) c_5) kw_936 kw_33 kw_933 kw_935 kw_17 rfl (wC_28 ad cy h_1) hd_X6_listChanges ⟨Nat.le_of_ble_eq_true rfl, Nat.le_of_ble_eq_true rfl⟩ ⟨Nat.le_of_ble_eq_true rfl, Nat.le_of_ble_eq_true rfl⟩ rfl (Nat.le_of_ble_eq_true rfl) ?_
    refine g_goto (pc' := 52) O ⟨dX6_listSteps_49, rfl⟩ (tgt := 65) (by decide) ?_
    cases E
    exact hret _ _ _ ⟨dX6_listSteps_65, rfl⟩
  refine g_tab (pc' := 32) O ⟨dX6_listSteps_6, rfl⟩ (v := (2 : Int32)) (tgt := 52) E ⟨by decide, by decide, rfl, by decide⟩ (fun E => ?_) (fun n2 E => ?_)
  · refine g_aload_n (pc' := 53) O ⟨dX6_listSteps_52, rfl⟩ (q := 0) rfl rfl ?_
    refine g_iload_n (pc' := 54) O ⟨dX6_listSteps_53, rfl⟩ (q := 2) rfl rfl ?_
    obtain ⟨r_6, c_7, E⟩ := bd_of E
    refine g_Vv (pc' := 57) O ⟨dX6_listSteps_54, rfl⟩ (y := yX6_listFlips) (As := [.int x2]) (st := []) (t_X6_listFlips_28 l D ad cy (h := h_1) c_7) kw_945 kw_33 kw_942 kw_944 kw_19 rfl (wC_28 ad cy h_1) hd_X6_listFlips ⟨Nat.le_of_ble_eq_true rfl, Nat.le_of_ble_eq_true rfl⟩ ⟨Nat.le_of_ble_eq_true rfl, Nat.le_of_ble_eq_true rfl⟩ rfl (Nat.le_of_ble_eq_true rfl) ?_
    refine g_goto (pc' := 60) O ⟨dX6_listSteps_57, rfl⟩ (tgt := 65) (by decide) ?_
    cases E
    exact hret _ _ _ ⟨dX6_listSteps_65, rfl⟩
  have m0 := neI (z := 0) n0 (by decide)
  have m1 := neI (z := 1) n1 (by decide)
  have m2 := neI (z := 2) n2 (by decide)
  refine g_tabD (pc' := 32) O ⟨dX6_listSteps_6, rfl⟩ (tgt := 60) (by omega) (by decide) ?_
  refine g_aload_n (pc' := 61) O ⟨dX6_listSteps_60, rfl⟩ (q := 0) rfl rfl ?_
  refine g_iload_n (pc' := 62) O ⟨dX6_listSteps_61, rfl⟩ (q := 2) rfl rfl ?_
  obtain ⟨r_8, c_9, E⟩ := bd_of E
  refine g_Vv (pc' := 65) O ⟨dX6_listSteps_62, rfl⟩ (y := yX6_listBlocks) (As := [.int x2]) (st := []) (t_X6_listBlocks_28 l D ad cy (h := h_1) c_9) kw_949 kw_33 kw_946 kw_948 kw_20 rfl (wC_28 ad cy h_1) hd_X6_listBlocks ⟨Nat.le_of_ble_eq_true rfl, Nat.le_of_ble_eq_true rfl⟩ ⟨Nat.le_of_ble_eq_true rfl, Nat.le_of_ble_eq_true rfl⟩ rfl (Nat.le_of_ble_eq_true rfl) ?_
  cases E
  exact hret _ _ _ ⟨dX6_listSteps_65, rfl⟩
set_option maxRecDepth 100000 in
set_option maxHeartbeats 4000000 in
theorem t_X5_rearranged (l : Launch) (D : va_G) (ad : Nat → Nat) (cy : Nat → ClassId) {h : Hp} {x0 : Int32} {x1 : Int32} {x2 : Int32} {o : Int32} (E : f_X5_rearranged x0 x1 x2 = some o) : CtI l D cy (WC ad cy) yX5_rearranged cX5_rearranged 5 .int 1 21 [.int x0, .int x1, .int x2] h o h := by
  refine sI (own := RX5) rfl rfl (Nat.le_of_ble_eq_true rfl) (fun X O hret => ?_)
  show G l D X 5 (WC ad cy) 0 0 h 0 [(0, .int x0), (1, .int x1), (2, .int x2)] []
  unfold f_X5_rearranged at E
  refine g_iconst (pc' := 1) O ⟨dX5_rearranged_0, rfl⟩ (v := (0 : Int32)) rfl ?_
  refine g_istore_n (pc' := 2) O ⟨dX5_rearranged_1, rfl⟩ (lv' := [(3, .int (0 : Int32)), (0, .int x0), (1, .int x1), (2, .int x2)]) rfl (by decide) rfl ?_
  refine g_iconst (pc' := 3) O ⟨dX5_rearranged_2, rfl⟩ (v := (0 : Int32)) rfl ?_
  refine g_istore (pc' := 5) O ⟨dX5_rearranged_3, rfl⟩ (lv' := [(4, .int (0 : Int32)), (3, .int (0 : Int32)), (0, .int x0), (1, .int x1), (2, .int x2)]) (by decide) rfl ?_
  refine jn1_of (P := fun (x3_1 : Int32) => G l D X 5 (WC ad cy) 0 0 h 35 [(3, .int x3_1)] []) E ?_ ?_
  · intro x3_1 E
    show G l D X 5 (WC ad cy) 0 0 h 35 [(3, .int x3_1)] []
    refine g_iload_n (pc' := 36) O ⟨dX5_rearranged_35, rfl⟩ (q := 0) rfl rfl ?_
    cases E
    exact hret _ _ _ ⟨dX5_rearranged_36, rfl⟩ rfl
  · intro k35 hk35 E
    refine g_sub (lv' := [(0, .int x0), (1, .int x1), (2, .int x2), (3, .int (0 : Int32)), (4, .int (0 : Int32))]) [2, 3, 4, 1, 0] rfl ?_
    refine fx2_of (P := fun (x3_2 : Int32) (x4_3 : Int32) => G l D X 5 (WC ad cy) 0 0 h 5 [(0, .int x0), (1, .int x1), (2, .int x2), (3, .int x3_2), (4, .int x4_3)] []) ?_ _ _ _ E
    intro self ih5 x3_2 x4_3 E
    show G l D X 5 (WC ad cy) 0 0 h 5 [(0, .int x0), (1, .int x1), (2, .int x2), (3, .int x3_2), (4, .int x4_3)] []
    unfold L_X5_rearranged_5 at E
    refine g_iload (pc' := 7) O ⟨dX5_rearranged_5, rfl⟩ (q := 4) rfl ?_
    refine g_iload_n (pc' := 8) O ⟨dX5_rearranged_7, rfl⟩ (q := 2) rfl rfl ?_
    refine g_icmp_ge (pc' := 11) O ⟨dX5_rearranged_8, rfl⟩ E (tgt := 35) (by decide) (fun E => ?_) (fun E => ?_)
    · refine g_sub (lv' := [(3, .int x3_2)]) [3] rfl ?_
      exact hk35 _ E
    · refine g_iload_n (pc' := 12) O ⟨dX5_rearranged_11, rfl⟩ (q := 3) rfl rfl ?_
      refine g_iload_n (pc' := 13) O ⟨dX5_rearranged_12, rfl⟩ (q := 0) rfl rfl ?_
      refine g_iload_n (pc' := 14) O ⟨dX5_rearranged_13, rfl⟩ (q := 1) rfl rfl ?_
      refine g_iload (pc' := 16) O ⟨dX5_rearranged_14, rfl⟩ (q := 4) rfl ?_
      obtain ⟨r_4, c_5, E⟩ := bd_of E
      refine g_Si (pc' := 19) O ⟨dX5_rearranged_16, rfl⟩ (y := yX5_valueOn) (As := [.int x1, .int x4_3]) (st := [.int x0, .int x3_2]) (t_X5_valueOn l D ad cy (h := h) c_5) kw_537 kw_41 kw_541 kw_536 hd_X5_valueOn ⟨Nat.le_of_ble_eq_true rfl, Nat.le_of_ble_eq_true rfl⟩ ⟨Nat.le_of_ble_eq_true rfl, Nat.le_of_ble_eq_true rfl⟩ rfl (Nat.le_of_ble_eq_true rfl) ?_
      obtain ⟨r_6, c_7, E⟩ := bd_of E
      refine g_Si (pc' := 22) O ⟨dX5_rearranged_19, rfl⟩ (y := yX5_valueOn) (As := [.int x0, .int r_4]) (st := [.int x3_2]) (t_X5_valueOn l D ad cy (h := h) c_7) kw_537 kw_41 kw_541 kw_536 hd_X5_valueOn ⟨Nat.le_of_ble_eq_true rfl, Nat.le_of_ble_eq_true rfl⟩ ⟨Nat.le_of_ble_eq_true rfl, Nat.le_of_ble_eq_true rfl⟩ rfl (Nat.le_of_ble_eq_true rfl) ?_
      refine g_iconst (pc' := 23) O ⟨dX5_rearranged_22, rfl⟩ (v := (4 : Int32)) rfl ?_
      refine g_iload (pc' := 25) O ⟨dX5_rearranged_23, rfl⟩ (q := 4) rfl ?_
      refine g_imul (pc' := 26) O ⟨dX5_rearranged_25, rfl⟩ ?_
      refine g_ishl (pc' := 27) O ⟨dX5_rearranged_26, rfl⟩ ?_
      refine g_ior (pc' := 28) O ⟨dX5_rearranged_27, rfl⟩ ?_
      refine g_nm E (fun y3_8 E => ?_)
      refine g_istore_n (pc' := 29) O ⟨dX5_rearranged_28, rfl⟩ (lv' := [(3, .int y3_8), (0, .int x0), (1, .int x1), (2, .int x2), (4, .int x4_3)]) rfl (by decide) rfl ?_
      refine g_iinc (pc' := 32) O ⟨dX5_rearranged_29, rfl⟩ (q := 4) (v := x4_3 + (1 : Int32)) (lv' := [(4, .int (x4_3 + (1 : Int32))), (3, .int y3_8), (0, .int x0), (1, .int x1), (2, .int x2)]) rfl rfl (by decide) rfl ?_
      refine g_goto (pc' := 35) O ⟨dX5_rearranged_32, rfl⟩ (tgt := 5) (by decide) ?_
      refine g_sub (lv' := [(0, .int x0), (1, .int x1), (2, .int x2), (3, .int y3_8), (4, .int (x4_3 + (1 : Int32)))]) [2, 3, 4, 1, 0] rfl ?_
      exact ih5 _ _ E
set_option maxRecDepth 100000 in
set_option maxHeartbeats 4000000 in
theorem t_X6_learn_28 (l : Launch) (D : va_G) (ad : Nat → Nat) (cy : Nat → ClassId) {h : Hp} {x1 : Int32} {x2 : Int32} {o : Hp} (E : f_X6_learn_28 h x1 x2 = some o) : CtV l D cy (WC ad cy) yX6_learn cX6_learn 10 4 91 [.ref (ad 28), .int x1, .int x2] h o := by
  refine sV (own := RX6) rfl rfl (Nat.le_of_ble_eq_true rfl) (fun X O hret => ?_)
  show G l D X 10 (WC ad cy) 0 0 h 0 [(0, .ref (ad 28)), (1, .int x1), (2, .int x2)] []
  unfold f_X6_learn_28 at E
  refine g_iload_n (pc' := 1) O ⟨dX6_learn_0, rfl⟩ (q := 2) rfl rfl ?_
  obtain ⟨r_1, c_2, E⟩ := bd_of E
  refine g_Si (pc' := 4) O ⟨dX6_learn_1, rfl⟩ (y := yX5_inOrder) (As := [.int x2]) (st := []) (t_X5_inOrder l D ad cy (h := h) c_2) kw_917 kw_41 kw_915 kw_916 hd_X5_inOrder ⟨Nat.le_of_ble_eq_true rfl, Nat.le_of_ble_eq_true rfl⟩ ⟨Nat.le_of_ble_eq_true rfl, Nat.le_of_ble_eq_true rfl⟩ rfl (Nat.le_of_ble_eq_true rfl) ?_
  refine g_istore_n (pc' := 5) O ⟨dX6_learn_4, rfl⟩ (lv' := [(3, .int r_1), (0, .ref (ad 28)), (1, .int x1), (2, .int x2)]) rfl (by decide) rfl ?_
  refine g_aload_n (pc' := 6) O ⟨dX6_learn_5, rfl⟩ (q := 1) rfl rfl ?_
  refine gf_C_RX6_11_28 ad cy (pc' := 9) O ⟨dX6_learn_6, rfl⟩ ?_
  refine g_iload_n (pc' := 10) O ⟨dX6_learn_9, rfl⟩ (q := 2) rfl rfl ?_
  refine g_iload_n (pc' := 11) O ⟨dX6_learn_10, rfl⟩ (q := 0) rfl rfl ?_
  refine g_iload_n (pc' := 12) O ⟨dX6_learn_11, rfl⟩ (q := 3) rfl rfl ?_
  obtain ⟨r_3, c_4, E⟩ := bd_of E
  refine g_Si (pc' := 15) O ⟨dX6_learn_12, rfl⟩ (y := yX6_placeOf) (As := [.int x1, .int r_1, .int x2]) (st := [.ref (ad 29)]) (t_X6_placeOf l D ad cy (h := h) c_4) kw_920 kw_33 kw_918 kw_919 hd_X6_placeOf ⟨Nat.le_of_ble_eq_true rfl, Nat.le_of_ble_eq_true rfl⟩ ⟨Nat.le_of_ble_eq_true rfl, Nat.le_of_ble_eq_true rfl⟩ rfl (Nat.le_of_ble_eq_true rfl) ?_
  refine g_bald (pc' := 16) O ⟨dX6_learn_15, rfl⟩ (wC_29 ad cy h) E (fun E => ?_)
  refine g_if_eq (pc' := 19) O ⟨dX6_learn_16, rfl⟩ E (tgt := 20) (by decide) (fun E => ?_) (fun E => ?_)
  · refine g_aload_n (pc' := 21) O ⟨dX6_learn_20, rfl⟩ (q := 1) rfl rfl ?_
    refine g_iload_n (pc' := 22) O ⟨dX6_learn_21, rfl⟩ (q := 2) rfl rfl ?_
    refine g_iload_n (pc' := 23) O ⟨dX6_learn_22, rfl⟩ (q := 3) rfl rfl ?_
    obtain ⟨r_5, c_6, E⟩ := bd_of E
    refine g_Vv (pc' := 26) O ⟨dX6_learn_23, rfl⟩ (y := yX6_listSteps) (As := [.int x1, .int x2]) (st := []) (t_X6_listSteps_28 l D ad cy (h := h) c_6) kw_932 kw_33 kw_929 kw_931 kw_16 rfl (wC_28 ad cy h) hd_X6_listSteps ⟨Nat.le_of_ble_eq_true rfl, Nat.le_of_ble_eq_true rfl⟩ ⟨Nat.le_of_ble_eq_true rfl, Nat.le_of_ble_eq_true rfl⟩ rfl (Nat.le_of_ble_eq_true rfl) ?_
    refine g_aload_n (pc' := 27) O ⟨dX6_learn_26, rfl⟩ (q := 1) rfl rfl ?_
    refine gf_C_RX6_11_28 ad cy (pc' := 30) O ⟨dX6_learn_27, rfl⟩ ?_
    refine g_iload_n (pc' := 31) O ⟨dX6_learn_30, rfl⟩ (q := 2) rfl rfl ?_
    refine g_iload_n (pc' := 32) O ⟨dX6_learn_31, rfl⟩ (q := 0) rfl rfl ?_
    refine g_iload_n (pc' := 33) O ⟨dX6_learn_32, rfl⟩ (q := 3) rfl rfl ?_
    obtain ⟨r_7, c_8, E⟩ := bd_of E
    refine g_Si (pc' := 36) O ⟨dX6_learn_33, rfl⟩ (y := yX6_placeOf) (As := [.int x1, .int r_1, .int x2]) (st := [.ref (ad 29)]) (t_X6_placeOf l D ad cy (h := r_5) c_8) kw_920 kw_33 kw_918 kw_919 hd_X6_placeOf ⟨Nat.le_of_ble_eq_true rfl, Nat.le_of_ble_eq_true rfl⟩ ⟨Nat.le_of_ble_eq_true rfl, Nat.le_of_ble_eq_true rfl⟩ rfl (Nat.le_of_ble_eq_true rfl) ?_
    refine g_iconst (pc' := 37) O ⟨dX6_learn_36, rfl⟩ (v := (1 : Int32)) rfl ?_
    refine g_bast (pc' := 38) O ⟨dX6_learn_37, rfl⟩ (wC_29 ad cy r_5) (vC_29 ad cy r_5 _) E (fun E => ?_)
    refine g_nmh E (fun h_9 E => ?_)
    refine g_aload_n (pc' := 39) O ⟨dX6_learn_38, rfl⟩ (q := 1) rfl rfl ?_
    refine gf_C_RX6_15_28 ad cy (pc' := 42) O ⟨dX6_learn_39, rfl⟩ ?_
    refine g_iconst (pc' := 43) O ⟨dX6_learn_42, rfl⟩ (v := (0 : Int32)) rfl ?_
    refine g_iload_n (pc' := 44) O ⟨dX6_learn_43, rfl⟩ (q := 0) rfl rfl ?_
    refine g_iast (pc' := 45) O ⟨dX6_learn_44, rfl⟩ (wC_30 ad cy h_9) (vC_30 ad cy h_9 _) E (fun E => ?_)
    refine g_nmh E (fun h_10 E => ?_)
    refine g_iconst (pc' := 46) O ⟨dX6_learn_45, rfl⟩ (v := (1 : Int32)) rfl ?_
    refine g_istore (pc' := 48) O ⟨dX6_learn_46, rfl⟩ (lv' := [(4, .int (1 : Int32)), (3, .int r_1), (0, .ref (ad 28)), (1, .int x1), (2, .int x2)]) (by decide) rfl ?_
    refine g_iconst (pc' := 49) O ⟨dX6_learn_48, rfl⟩ (v := (0 : Int32)) rfl ?_
    refine g_istore (pc' := 51) O ⟨dX6_learn_49, rfl⟩ (lv' := [(5, .int (0 : Int32)), (4, .int (1 : Int32)), (3, .int r_1), (0, .ref (ad 28)), (1, .int x1), (2, .int x2)]) (by decide) rfl ?_
    refine jn1_of (P := fun (h_11 : Hp) => G l D X 10 (WC ad cy) 0 0 h_11 183 [] []) E ?_ ?_
    · intro h_11 E
      show G l D X 10 (WC ad cy) 0 0 h_11 183 [] []
      cases E
      exact hret _ _ _ ⟨dX6_learn_183, rfl⟩
    · intro k183 hk183 E
      refine g_sub (lv' := [(0, .ref (ad 28)), (1, .int x1), (2, .int x2), (4, .int (1 : Int32)), (5, .int (0 : Int32))]) [3, 4, 5, 1, 0] rfl ?_
      refine fx3_of (P := fun (x4_12 : Int32) (x5_13 : Int32) (h_14 : Hp) => G l D X 10 (WC ad cy) 0 0 h_14 51 [(0, .ref (ad 28)), (1, .int x1), (2, .int x2), (4, .int x4_12), (5, .int x5_13)] []) ?_ _ _ _ _ E
      intro self ih51 x4_12 x5_13 h_14 E
      show G l D X 10 (WC ad cy) 0 0 h_14 51 [(0, .ref (ad 28)), (1, .int x1), (2, .int x2), (4, .int x4_12), (5, .int x5_13)] []
      unfold L_X6_learn_28_51 at E
      refine g_iload (pc' := 53) O ⟨dX6_learn_51, rfl⟩ (q := 4) rfl ?_
      refine g_iload (pc' := 55) O ⟨dX6_learn_53, rfl⟩ (q := 3) rfl ?_
      refine g_icmp_ge (pc' := 58) O ⟨dX6_learn_55, rfl⟩ E (tgt := 183) (by decide) (fun E => ?_) (fun E => ?_)
      · refine g_sub (lv' := []) [] rfl ?_
        exact hk183 _ E
      · refine g_iload (pc' := 60) O ⟨dX6_learn_58, rfl⟩ (q := 3) rfl ?_
        refine g_iload_n (pc' := 61) O ⟨dX6_learn_60, rfl⟩ (q := 2) rfl rfl ?_
        obtain ⟨r_15, c_16, E⟩ := bd_of E
        refine g_Si (pc' := 64) O ⟨dX6_learn_61, rfl⟩ (y := yX5_howMany) (As := [.int x2]) (st := [.int x4_12]) (t_X5_howMany l D ad cy (h := h_14) c_16) kw_955 kw_41 kw_953 kw_954 hd_X5_howMany ⟨Nat.le_of_ble_eq_true rfl, Nat.le_of_ble_eq_true rfl⟩ ⟨Nat.le_of_ble_eq_true rfl, Nat.le_of_ble_eq_true rfl⟩ rfl (Nat.le_of_ble_eq_true rfl) ?_
        refine g_icmp_ge (pc' := 67) O ⟨dX6_learn_64, rfl⟩ E (tgt := 183) (by decide) (fun E => ?_) (fun E => ?_)
        · refine g_sub (lv' := []) [] rfl ?_
          exact hk183 _ E
        · refine g_aload_n (pc' := 68) O ⟨dX6_learn_67, rfl⟩ (q := 0) rfl rfl ?_
          refine gf_C_RX6_11_28 ad cy (pc' := 71) O ⟨dX6_learn_68, rfl⟩ ?_
          refine g_iload_n (pc' := 72) O ⟨dX6_learn_71, rfl⟩ (q := 1) rfl rfl ?_
          refine g_aload_n (pc' := 73) O ⟨dX6_learn_72, rfl⟩ (q := 0) rfl rfl ?_
          refine gf_C_RX6_15_28 ad cy (pc' := 76) O ⟨dX6_learn_73, rfl⟩ ?_
          refine g_iload (pc' := 78) O ⟨dX6_learn_76, rfl⟩ (q := 4) rfl ?_
          refine g_iald (pc' := 79) O ⟨dX6_learn_78, rfl⟩ (wC_30 ad cy h_14) E (fun E => ?_)
          refine g_iload_n (pc' := 80) O ⟨dX6_learn_79, rfl⟩ (q := 2) rfl rfl ?_
          obtain ⟨r_17, c_18, E⟩ := bd_of E
          refine g_Si (pc' := 83) O ⟨dX6_learn_80, rfl⟩ (y := yX6_placeOf) (As := [.int x1, .int (h_14.1 30 x5_13.toNatClampNeg), .int x2]) (st := [.ref (ad 29)]) (t_X6_placeOf l D ad cy (h := h_14) c_18) kw_920 kw_33 kw_918 kw_919 hd_X6_placeOf ⟨Nat.le_of_ble_eq_true rfl, Nat.le_of_ble_eq_true rfl⟩ ⟨Nat.le_of_ble_eq_true rfl, Nat.le_of_ble_eq_true rfl⟩ rfl (Nat.le_of_ble_eq_true rfl) ?_
          refine g_bald (pc' := 84) O ⟨dX6_learn_83, rfl⟩ (wC_29 ad cy h_14) E (fun E => ?_)
          refine g_istore (pc' := 86) O ⟨dX6_learn_84, rfl⟩ (lv' := [(6, .int (h_14.1 29 r_17.toNatClampNeg)), (0, .ref (ad 28)), (1, .int x1), (2, .int x2), (4, .int x4_12), (5, .int x5_13)]) (by decide) rfl ?_
          refine g_iconst (pc' := 87) O ⟨dX6_learn_86, rfl⟩ (v := (0 : Int32)) rfl ?_
          refine g_istore (pc' := 89) O ⟨dX6_learn_87, rfl⟩ (lv' := [(7, .int (0 : Int32)), (6, .int (h_14.1 29 r_17.toNatClampNeg)), (0, .ref (ad 28)), (1, .int x1), (2, .int x2), (4, .int x4_12), (5, .int x5_13)]) (by decide) rfl ?_
          refine jn2_of (P := fun (x4_19 : Int32) (h_20 : Hp) => G l D X 10 (WC ad cy) 0 0 h_20 177 [(0, .ref (ad 28)), (1, .int x1), (2, .int x2), (4, .int x4_19), (5, .int x5_13)] []) E ?_ ?_
          · intro x4_19 h_20 E
            show G l D X 10 (WC ad cy) 0 0 h_20 177 [(0, .ref (ad 28)), (1, .int x1), (2, .int x2), (4, .int x4_19), (5, .int x5_13)] []
            refine g_iinc (pc' := 180) O ⟨dX6_learn_177, rfl⟩ (q := 4) (v := x5_13 + (1 : Int32)) (lv' := [(5, .int (x5_13 + (1 : Int32))), (0, .ref (ad 28)), (1, .int x1), (2, .int x2), (4, .int x4_19)]) rfl rfl (by decide) rfl ?_
            refine g_goto (pc' := 183) O ⟨dX6_learn_180, rfl⟩ (tgt := 51) (by decide) ?_
            refine g_sub (lv' := [(0, .ref (ad 28)), (1, .int x1), (2, .int x2), (4, .int x4_19), (5, .int (x5_13 + (1 : Int32)))]) [1, 2, 3, 4, 0] rfl ?_
            exact ih51 _ _ _ E
          · intro k177 hk177 E
            refine g_sub (lv' := [(0, .ref (ad 28)), (1, .int x1), (2, .int x2), (4, .int x4_12), (5, .int x5_13), (6, .int (h_14.1 29 r_17.toNatClampNeg)), (7, .int (0 : Int32))]) [2, 3, 4, 5, 6, 1, 0] rfl ?_
            refine fx3_of (P := fun (x4_21 : Int32) (x7_22 : Int32) (h_23 : Hp) => G l D X 10 (WC ad cy) 0 0 h_23 89 [(0, .ref (ad 28)), (1, .int x1), (2, .int x2), (4, .int x4_21), (5, .int x5_13), (6, .int (h_14.1 29 r_17.toNatClampNeg)), (7, .int x7_22)] []) ?_ _ _ _ _ E
            intro self ih89 x4_21 x7_22 h_23 E
            show G l D X 10 (WC ad cy) 0 0 h_23 89 [(0, .ref (ad 28)), (1, .int x1), (2, .int x2), (4, .int x4_21), (5, .int x5_13), (6, .int (h_14.1 29 r_17.toNatClampNeg)), (7, .int x7_22)] []
            unfold L_X6_learn_28_89 at E
            refine g_iload (pc' := 91) O ⟨dX6_learn_89, rfl⟩ (q := 6) rfl ?_
            refine g_aload_n (pc' := 92) O ⟨dX6_learn_91, rfl⟩ (q := 0) rfl rfl ?_
            refine gf_C_RX6_22_28 ad cy (pc' := 95) O ⟨dX6_learn_92, rfl⟩ ?_
            refine g_icmp_ge (pc' := 98) O ⟨dX6_learn_95, rfl⟩ E (tgt := 177) (by decide) (fun E => ?_) (fun E => ?_)
            · refine g_sub (lv' := [(0, .ref (ad 28)), (1, .int x1), (2, .int x2), (4, .int x4_21), (5, .int x5_13)]) [0, 1, 2, 3, 4] rfl ?_
              exact hk177 _ _ E
            · refine g_aload_n (pc' := 99) O ⟨dX6_learn_98, rfl⟩ (q := 0) rfl rfl ?_
              refine gf_C_RX6_15_28 ad cy (pc' := 102) O ⟨dX6_learn_99, rfl⟩ ?_
              refine g_iload (pc' := 104) O ⟨dX6_learn_102, rfl⟩ (q := 4) rfl ?_
              refine g_iald (pc' := 105) O ⟨dX6_learn_104, rfl⟩ (wC_30 ad cy h_23) E (fun E => ?_)
              refine g_aload_n (pc' := 106) O ⟨dX6_learn_105, rfl⟩ (q := 0) rfl rfl ?_
              refine gf_C_RX6_19_28 ad cy (pc' := 109) O ⟨dX6_learn_106, rfl⟩ ?_
              refine g_iload (pc' := 111) O ⟨dX6_learn_109, rfl⟩ (q := 6) rfl ?_
              refine g_iald (pc' := 112) O ⟨dX6_learn_111, rfl⟩ (wC_31 ad cy h_23) E (fun E => ?_)
              refine g_iload_n (pc' := 113) O ⟨dX6_learn_112, rfl⟩ (q := 2) rfl rfl ?_
              obtain ⟨r_24, c_25, E⟩ := bd_of E
              refine g_Si (pc' := 116) O ⟨dX6_learn_113, rfl⟩ (y := yX5_rearranged) (As := [.int (h_23.1 30 x5_13.toNatClampNeg), .int (h_23.1 31 x7_22.toNatClampNeg), .int x2]) (st := []) (t_X5_rearranged l D ad cy (h := h_23) c_25) kw_958 kw_41 kw_956 kw_957 hd_X5_rearranged ⟨Nat.le_of_ble_eq_true rfl, Nat.le_of_ble_eq_true rfl⟩ ⟨Nat.le_of_ble_eq_true rfl, Nat.le_of_ble_eq_true rfl⟩ rfl (Nat.le_of_ble_eq_true rfl) ?_
              refine g_istore (pc' := 118) O ⟨dX6_learn_116, rfl⟩ (lv' := [(8, .int r_24), (0, .ref (ad 28)), (1, .int x1), (2, .int x2), (4, .int x4_21), (5, .int x5_13), (6, .int (h_14.1 29 r_17.toNatClampNeg)), (7, .int x7_22)]) (by decide) rfl ?_
              refine g_iload_n (pc' := 119) O ⟨dX6_learn_118, rfl⟩ (q := 2) rfl rfl ?_
              refine g_iload (pc' := 121) O ⟨dX6_learn_119, rfl⟩ (q := 0) rfl ?_
              refine g_iload_n (pc' := 122) O ⟨dX6_learn_121, rfl⟩ (q := 3) rfl rfl ?_
              obtain ⟨r_26, c_27, E⟩ := bd_of E
              refine g_Si (pc' := 125) O ⟨dX6_learn_122, rfl⟩ (y := yX6_placeOf) (As := [.int x1, .int r_24, .int x2]) (st := []) (t_X6_placeOf l D ad cy (h := h_23) c_27) kw_920 kw_33 kw_918 kw_919 hd_X6_placeOf ⟨Nat.le_of_ble_eq_true rfl, Nat.le_of_ble_eq_true rfl⟩ ⟨Nat.le_of_ble_eq_true rfl, Nat.le_of_ble_eq_true rfl⟩ rfl (Nat.le_of_ble_eq_true rfl) ?_
              refine g_istore (pc' := 127) O ⟨dX6_learn_125, rfl⟩ (lv' := [(9, .int r_26), (8, .int r_24), (0, .ref (ad 28)), (1, .int x1), (2, .int x2), (4, .int x4_21), (5, .int x5_13), (6, .int (h_14.1 29 r_17.toNatClampNeg)), (7, .int x7_22)]) (by decide) rfl ?_
              refine g_aload_n (pc' := 128) O ⟨dX6_learn_127, rfl⟩ (q := 2) rfl rfl ?_
              refine gf_C_RX6_11_28 ad cy (pc' := 131) O ⟨dX6_learn_128, rfl⟩ ?_
              refine g_iload (pc' := 133) O ⟨dX6_learn_131, rfl⟩ (q := 0) rfl ?_
              refine g_bald (pc' := 134) O ⟨dX6_learn_133, rfl⟩ (wC_29 ad cy h_23) E (fun E => ?_)
              refine g_if_ne (pc' := 137) O ⟨dX6_learn_134, rfl⟩ E (tgt := 171) (by decide) (fun E => ?_) (fun E => ?_)
              · refine g_iinc (pc' := 174) O ⟨dX6_learn_171, rfl⟩ (q := 8) (v := x7_22 + (1 : Int32)) (lv' := [(7, .int (x7_22 + (1 : Int32))), (9, .int r_26), (8, .int r_24), (0, .ref (ad 28)), (1, .int x1), (2, .int x2), (4, .int x4_21), (5, .int x5_13), (6, .int (h_14.1 29 r_17.toNatClampNeg))]) rfl rfl (by decide) rfl ?_
                refine g_goto (pc' := 177) O ⟨dX6_learn_174, rfl⟩ (tgt := 89) (by decide) ?_
                refine g_sub (lv' := [(0, .ref (ad 28)), (1, .int x1), (2, .int x2), (4, .int x4_21), (5, .int x5_13), (6, .int (h_14.1 29 r_17.toNatClampNeg)), (7, .int (x7_22 + (1 : Int32)))]) [3, 4, 5, 6, 7, 8, 0] rfl ?_
                exact ih89 _ _ _ E
              · refine g_iload (pc' := 139) O ⟨dX6_learn_137, rfl⟩ (q := 5) rfl ?_
                refine g_aload_n (pc' := 140) O ⟨dX6_learn_139, rfl⟩ (q := 2) rfl rfl ?_
                refine gf_C_RX6_15_28 ad cy (pc' := 143) O ⟨dX6_learn_140, rfl⟩ ?_
                refine g_alen (pc' := 144) O ⟨dX6_learn_143, rfl⟩ (wC_30 ad cy h_23) (t0 := 0) rfl (v := (720 : Int32)) rfl ?_
                refine g_icmp_ge (pc' := 147) O ⟨dX6_learn_144, rfl⟩ E (tgt := 171) (by decide) (fun E => ?_) (fun E => ?_)
                · refine g_iinc (pc' := 174) O ⟨dX6_learn_171, rfl⟩ (q := 8) (v := x7_22 + (1 : Int32)) (lv' := [(7, .int (x7_22 + (1 : Int32))), (9, .int r_26), (8, .int r_24), (0, .ref (ad 28)), (1, .int x1), (2, .int x2), (4, .int x4_21), (5, .int x5_13), (6, .int (h_14.1 29 r_17.toNatClampNeg))]) rfl rfl (by decide) rfl ?_
                  refine g_goto (pc' := 177) O ⟨dX6_learn_174, rfl⟩ (tgt := 89) (by decide) ?_
                  refine g_sub (lv' := [(0, .ref (ad 28)), (1, .int x1), (2, .int x2), (4, .int x4_21), (5, .int x5_13), (6, .int (h_14.1 29 r_17.toNatClampNeg)), (7, .int (x7_22 + (1 : Int32)))]) [3, 4, 5, 6, 7, 8, 0] rfl ?_
                  exact ih89 _ _ _ E
                · refine g_aload_n (pc' := 148) O ⟨dX6_learn_147, rfl⟩ (q := 2) rfl rfl ?_
                  refine gf_C_RX6_11_28 ad cy (pc' := 151) O ⟨dX6_learn_148, rfl⟩ ?_
                  refine g_iload (pc' := 153) O ⟨dX6_learn_151, rfl⟩ (q := 0) rfl ?_
                  refine g_iload (pc' := 155) O ⟨dX6_learn_153, rfl⟩ (q := 7) rfl ?_
                  refine g_iconst (pc' := 156) O ⟨dX6_learn_155, rfl⟩ (v := (1 : Int32)) rfl ?_
                  refine g_iadd (pc' := 157) O ⟨dX6_learn_156, rfl⟩ ?_
                  refine g_i2b (pc' := 158) O ⟨dX6_learn_157, rfl⟩ ?_
                  refine g_bast (pc' := 159) O ⟨dX6_learn_158, rfl⟩ (wC_29 ad cy h_23) (vC_29 ad cy h_23 _) E (fun E => ?_)
                  refine g_nmh E (fun h_28 E => ?_)
                  refine g_aload_n (pc' := 160) O ⟨dX6_learn_159, rfl⟩ (q := 2) rfl rfl ?_
                  refine gf_C_RX6_15_28 ad cy (pc' := 163) O ⟨dX6_learn_160, rfl⟩ ?_
                  refine g_iload (pc' := 165) O ⟨dX6_learn_163, rfl⟩ (q := 5) rfl ?_
                  refine g_iload (pc' := 167) O ⟨dX6_learn_165, rfl⟩ (q := 1) rfl ?_
                  refine g_iast (pc' := 168) O ⟨dX6_learn_167, rfl⟩ (wC_30 ad cy h_28) (vC_30 ad cy h_28 _) E (fun E => ?_)
                  refine g_nmh E (fun h_29 E => ?_)
                  refine g_iinc (pc' := 171) O ⟨dX6_learn_168, rfl⟩ (q := 5) (v := x4_21 + (1 : Int32)) (lv' := [(4, .int (x4_21 + (1 : Int32))), (9, .int r_26), (8, .int r_24), (0, .ref (ad 28)), (1, .int x1), (2, .int x2), (5, .int x5_13), (6, .int (h_14.1 29 r_17.toNatClampNeg)), (7, .int x7_22)]) rfl rfl (by decide) rfl ?_
                  refine g_iinc (pc' := 174) O ⟨dX6_learn_171, rfl⟩ (q := 8) (v := x7_22 + (1 : Int32)) (lv' := [(7, .int (x7_22 + (1 : Int32))), (4, .int (x4_21 + (1 : Int32))), (9, .int r_26), (8, .int r_24), (0, .ref (ad 28)), (1, .int x1), (2, .int x2), (5, .int x5_13), (6, .int (h_14.1 29 r_17.toNatClampNeg))]) rfl rfl (by decide) rfl ?_
                  refine g_goto (pc' := 177) O ⟨dX6_learn_174, rfl⟩ (tgt := 89) (by decide) ?_
                  refine g_sub (lv' := [(0, .ref (ad 28)), (1, .int x1), (2, .int x2), (4, .int (x4_21 + (1 : Int32))), (5, .int x5_13), (6, .int (h_14.1 29 r_17.toNatClampNeg)), (7, .int (x7_22 + (1 : Int32)))]) [4, 5, 6, 1, 7, 8, 0] rfl ?_
                  exact ih89 _ _ _ E
  · cases E
    exact hret _ _ _ ⟨dX6_learn_19, rfl⟩
