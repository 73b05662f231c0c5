/-! WALKS, laid by program: each method does what its pure program says -/
set_option maxRecDepth 100000 in
set_option maxHeartbeats 4000000 in
theorem t_X4_missing_13_1 (l : Launch) (D : va_G) (ad : Nat → Nat) (cy : Nat → ClassId) {h : Hp} {x2 : Int32} {o : Int32 × Hp} (E : f_X4_missing_13_1 h x2 = some o) : CtI l D cy (WC ad cy) yX4_missing cX4_missing 4 .int 10 287 [.ref (ad 13), .ref (ad 1), .int x2] h o.1 o.2 := by
  refine sI (own := RX4) rfl rfl (Nat.le_of_ble_eq_true rfl) (fun X O hret => ?_)
  show G l D X 4 (WC ad cy) 0 0 h 0 [(0, .ref (ad 13)), (1, .ref (ad 1)), (2, .int x2)] []
  unfold f_X4_missing_13_1 at E
  refine g_aload_n (pc' := 1) O ⟨dX4_missing_0, rfl⟩ (q := 0) rfl rfl ?_
  refine gf_C_RX4_9_13 ad cy (pc' := 4) O ⟨dX4_missing_1, rfl⟩ ?_
  refine g_aload_n (pc' := 5) O ⟨dX4_missing_4, rfl⟩ (q := 1) rfl rfl ?_
  refine g_aload_n (pc' := 6) O ⟨dX4_missing_5, rfl⟩ (q := 1) rfl rfl ?_
  refine gf_C_RX4_63_1 ad cy (pc' := 9) O ⟨dX4_missing_6, rfl⟩ ?_
  obtain ⟨r_1, c_2, E⟩ := bd_of E
  refine g_Sv (pc' := 12) O ⟨dX4_missing_9, rfl⟩ (y := yX4_send) (As := [.ref (ad 14), .ref (ad 1), .int (h.1 1 1)]) (st := []) (t_X4_send_14_1 l D ad cy (h := h) c_2) kw_587 kw_28 kw_585 kw_586 hd_X4_send ⟨Nat.le_of_ble_eq_true rfl, Nat.le_of_ble_eq_true rfl⟩ ⟨Nat.le_of_ble_eq_true rfl, Nat.le_of_ble_eq_true rfl⟩ rfl (Nat.le_of_ble_eq_true rfl) ?_
  refine g_iconst (pc' := 13) O ⟨dX4_missing_12, rfl⟩ (v := (0 : Int32)) rfl ?_
  refine g_istore_n (pc' := 14) O ⟨dX4_missing_13, rfl⟩ (lv' := [(3, .int (0 : Int32)), (0, .ref (ad 13)), (1, .ref (ad 1)), (2, .int x2)]) rfl (by decide) rfl ?_
  refine jn1_of (P := fun (h_3 : Hp) => G l D X 4 (WC ad cy) 0 0 h_3 42 [] []) E ?_ ?_
  · intro h_3 E
    show G l D X 4 (WC ad cy) 0 0 h_3 42 [] []
    refine g_iconst (pc' := 43) O ⟨dX4_missing_42, rfl⟩ (v := (-1 : Int32)) rfl ?_
    cases E
    exact hret _ _ _ ⟨dX4_missing_43, rfl⟩ rfl
  · intro k42 hk42 E
    refine jn2_of (P := fun (x3_4 : Int32) (h_5 : Hp) => G l D X 4 (WC ad cy) 0 0 h_5 34 [(3, .int x3_4)] []) E ?_ ?_
    · intro x3_4 h_5 E
      show G l D X 4 (WC ad cy) 0 0 h_5 34 [(3, .int x3_4)] []
      refine g_iload_n (pc' := 35) O ⟨dX4_missing_34, rfl⟩ (q := 0) rfl rfl ?_
      cases E
      exact hret _ _ _ ⟨dX4_missing_35, rfl⟩ rfl
    · intro k34 hk34 E
      refine g_sub (lv' := [(0, .ref (ad 13)), (1, .ref (ad 1)), (2, .int x2), (3, .int (0 : Int32))]) [1, 2, 3, 0] rfl ?_
      refine fx2_of (P := fun (x3_6 : Int32) (h_7 : Hp) => G l D X 4 (WC ad cy) 0 0 h_7 14 [(0, .ref (ad 13)), (1, .ref (ad 1)), (2, .int x2), (3, .int x3_6)] []) ?_ _ _ _ E
      intro self ih14 x3_6 h_7 E
      show G l D X 4 (WC ad cy) 0 0 h_7 14 [(0, .ref (ad 13)), (1, .ref (ad 1)), (2, .int x2), (3, .int x3_6)] []
      unfold L_X4_missing_13_1_14 at E
      refine g_iload_n (pc' := 15) O ⟨dX4_missing_14, rfl⟩ (q := 3) rfl rfl ?_
      refine g_iload_n (pc' := 16) O ⟨dX4_missing_15, rfl⟩ (q := 2) rfl rfl ?_
      refine g_icmp_gt (pc' := 19) O ⟨dX4_missing_16, rfl⟩ E (tgt := 42) (by decide) (fun E => ?_) (fun E => ?_)
      · refine g_sub (lv' := []) [] rfl ?_
        exact hk42 _ E
      · refine g_aload_n (pc' := 20) O ⟨dX4_missing_19, rfl⟩ (q := 0) rfl rfl ?_
        refine gf_C_RX4_9_13 ad cy (pc' := 23) O ⟨dX4_missing_20, rfl⟩ ?_
        refine g_aload_n (pc' := 24) O ⟨dX4_missing_23, rfl⟩ (q := 1) rfl rfl ?_
        refine gf_C_RX4_34_1 ad cy (pc' := 27) O ⟨dX4_missing_24, rfl⟩ ?_
        refine g_iload_n (pc' := 28) O ⟨dX4_missing_27, rfl⟩ (q := 3) rfl rfl ?_
        obtain ⟨r_8, c_9, E⟩ := bd_of E
        refine g_Si (pc' := 31) O ⟨dX4_missing_28, rfl⟩ (y := yX4_canFinish) (As := [.ref (ad 14), .int (h_7.1 1 0), .int x3_6]) (st := []) (t_X4_canFinish_14 l D ad cy 8 (h := h_7) c_9) kw_1022 kw_28 kw_1020 kw_1021 hd_X4_canFinish ⟨Nat.le_of_ble_eq_true rfl, Nat.le_of_ble_eq_true rfl⟩ ⟨Nat.le_of_ble_eq_true rfl, Nat.le_of_ble_eq_true rfl⟩ rfl (Nat.le_of_ble_eq_true rfl) ?_
        refine g_if_eq (pc' := 34) O ⟨dX4_missing_31, rfl⟩ E (tgt := 36) (by decide) (fun E => ?_) (fun E => ?_)
        · refine g_iinc (pc' := 39) O ⟨dX4_missing_36, rfl⟩ (q := 3) (v := x3_6 + (1 : Int32)) (lv' := [(3, .int (x3_6 + (1 : Int32))), (0, .ref (ad 13)), (1, .ref (ad 1)), (2, .int x2)]) rfl rfl (by decide) rfl ?_
          refine g_goto (pc' := 42) O ⟨dX4_missing_39, rfl⟩ (tgt := 14) (by decide) ?_
          refine g_sub (lv' := [(0, .ref (ad 13)), (1, .ref (ad 1)), (2, .int x2), (3, .int (x3_6 + (1 : Int32)))]) [1, 2, 3, 0] rfl ?_
          exact ih14 _ _ E
        · refine g_sub (lv' := [(3, .int x3_6)]) [3] rfl ?_
          exact hk34 _ _ E
set_option maxRecDepth 100000 in
set_option maxHeartbeats 4000000 in
theorem t_X4_bringIn_15 (l : Launch) (D : va_G) (ad : Nat → Nat) (cy : Nat → ClassId) {h : Hp} {x1 : Int32} {o : Hp} (E : f_X4_bringIn_15 h x1 = some o) : CtV l D cy (WC ad cy) yX4_bringIn cX4_bringIn 3 1 20 [.ref (ad 15), .int x1] h o := by
  refine sV (own := RX4) rfl rfl (Nat.le_of_ble_eq_true rfl) (fun X O hret => ?_)
  show G l D X 3 (WC ad cy) 0 0 h 0 [(0, .ref (ad 15)), (1, .int x1)] []
  unfold f_X4_bringIn_15 at E
  refine g_iconst (pc' := 1) O ⟨dX4_bringIn_0, rfl⟩ (v := (0 : Int32)) rfl ?_
  refine g_istore_n (pc' := 2) O ⟨dX4_bringIn_1, rfl⟩ (lv' := [(2, .int (0 : Int32)), (0, .ref (ad 15)), (1, .int x1)]) rfl (by decide) rfl ?_
  refine jn1_of (P := fun (h_1 : Hp) => G l D X 3 (WC ad cy) 0 0 h_1 26 [] []) E ?_ ?_
  · intro h_1 E
    show G l D X 3 (WC ad cy) 0 0 h_1 26 [] []
    cases E
    exact hret _ _ _ ⟨dX4_bringIn_26, rfl⟩
  · intro k26 hk26 E
    refine g_sub (lv' := [(0, .ref (ad 15)), (1, .int x1), (2, .int (0 : Int32))]) [1, 2, 0] rfl ?_
    refine fx2_of (P := fun (x2_2 : Int32) (h_3 : Hp) => G l D X 3 (WC ad cy) 0 0 h_3 2 [(0, .ref (ad 15)), (1, .int x1), (2, .int x2_2)] []) ?_ _ _ _ E
    intro self ih2 x2_2 h_3 E
    show G l D X 3 (WC ad cy) 0 0 h_3 2 [(0, .ref (ad 15)), (1, .int x1), (2, .int x2_2)] []
    unfold L_X4_bringIn_15_2 at E
    refine g_iload_n (pc' := 3) O ⟨dX4_bringIn_2, rfl⟩ (q := 2) rfl rfl ?_
    refine g_iload_n (pc' := 4) O ⟨dX4_bringIn_3, rfl⟩ (q := 1) rfl rfl ?_
    refine g_icmp_ge (pc' := 7) O ⟨dX4_bringIn_4, rfl⟩ E (tgt := 26) (by decide) (fun E => ?_) (fun E => ?_)
    · refine g_sub (lv' := []) [] rfl ?_
      exact hk26 _ E
    · refine g_aload_n (pc' := 8) O ⟨dX4_bringIn_7, rfl⟩ (q := 0) rfl rfl ?_
      refine g_iload_n (pc' := 9) O ⟨dX4_bringIn_8, rfl⟩ (q := 2) rfl rfl ?_
      refine g_gsINP (pc' := 12) O ⟨dX4_bringIn_9, rfl⟩ kw_591 (fun t_4 ht_4 => ?_)
      refine g_iload_n (pc' := 13) O ⟨dX4_bringIn_12, rfl⟩ (q := 2) rfl rfl ?_
      refine g_stl (pc' := 14) O ⟨dX4_bringIn_13, rfl⟩ ht_4 E (fun E => ?_)
      refine g_iload_n (pc' := 15) O ⟨dX4_bringIn_14, rfl⟩ (q := 1) rfl rfl ?_
      obtain ⟨r_5, c_6, E⟩ := bd_of E
      refine g_Sl (pc' := 18) O ⟨dX4_bringIn_15, rfl⟩ (y := yX4_allRows) (As := [.int x1]) (st := [.long (fINP x2_2.toNatClampNeg), .int x2_2, .ref (ad 15)]) (t_X4_allRows l D ad cy (h := h_3) c_6) kw_595 kw_28 kw_593 kw_594 hd_X4_allRows ⟨Nat.le_of_ble_eq_true rfl, Nat.le_of_ble_eq_true rfl⟩ ⟨Nat.le_of_ble_eq_true rfl, Nat.le_of_ble_eq_true rfl⟩ rfl (Nat.le_of_ble_eq_true rfl) ?_
      refine g_land (pc' := 19) O ⟨dX4_bringIn_18, rfl⟩ ?_
      refine g_last (pc' := 20) O ⟨dX4_bringIn_19, rfl⟩ (wC_15 ad cy h_3) (vC_15 ad cy h_3 _) E (fun E => ?_)
      refine g_nmh E (fun h_7 E => ?_)
      refine g_iinc (pc' := 23) O ⟨dX4_bringIn_20, rfl⟩ (q := 2) (v := x2_2 + (1 : Int32)) (lv' := [(2, .int (x2_2 + (1 : Int32))), (0, .ref (ad 15)), (1, .int x1)]) rfl rfl (by decide) rfl ?_
      refine g_goto (pc' := 26) O ⟨dX4_bringIn_23, rfl⟩ (tgt := 2) (by decide) ?_
      refine g_sub (lv' := [(0, .ref (ad 15)), (1, .int x1), (2, .int (x2_2 + (1 : Int32)))]) [1, 2, 0] rfl ?_
      exact ih2 _ _ E
set_option maxRecDepth 100000 in
set_option maxHeartbeats 4000000 in
theorem t_X4_unsortedIn_15 (l : Launch) (D : va_G) (ad : Nat → Nat) (cy : Nat → ClassId) {h : Hp} {x1 : Int32} {o : Int64} (E : f_X4_unsortedIn_15 h x1 = some o) : CtL l D cy (WC ad cy) yX4_unsortedIn cX4_unsortedIn 5 0 0 [.ref (ad 15), .int x1] h o h := by
  refine sL (own := RX4) rfl rfl (Nat.le_of_ble_eq_true rfl) (fun X O hret => ?_)
  show G l D X 5 (WC ad cy) 0 0 h 0 [(0, .ref (ad 15)), (1, .int x1)] []
  unfold f_X4_unsortedIn_15 at E
  refine g_lconst (pc' := 1) O ⟨dX4_unsortedIn_0, rfl⟩ (v := (0 : Int64)) rfl ?_
  refine g_lstore_n (pc' := 2) O ⟨dX4_unsortedIn_1, rfl⟩ (lv' := [(2, .long (0 : Int64)), (0, .ref (ad 15)), (1, .int x1)]) rfl (by decide) rfl ?_
  refine g_iconst (pc' := 3) O ⟨dX4_unsortedIn_2, rfl⟩ (v := (0 : Int32)) rfl ?_
  refine g_istore (pc' := 5) O ⟨dX4_unsortedIn_3, rfl⟩ (lv' := [(4, .int (0 : Int32)), (2, .long (0 : Int64)), (0, .ref (ad 15)), (1, .int x1)]) (by decide) rfl ?_
  refine jn1_of (P := fun (x2_1 : Int64) => G l D X 5 (WC ad cy) 0 0 h 37 [(2, .long x2_1)] []) E ?_ ?_
  · intro x2_1 E
    show G l D X 5 (WC ad cy) 0 0 h 37 [(2, .long x2_1)] []
    refine g_lload_n (pc' := 38) O ⟨dX4_unsortedIn_37, rfl⟩ (q := 0) rfl rfl ?_
    cases E
    exact hret _ _ _ ⟨dX4_unsortedIn_38, rfl⟩
  · intro k37 hk37 E
    refine g_sub (lv' := [(0, .ref (ad 15)), (1, .int x1), (2, .long (0 : Int64)), (4, .int (0 : Int32))]) [2, 3, 1, 0] rfl ?_
    refine fx2_of (P := fun (x2_2 : Int64) (x4_3 : Int32) => G l D X 5 (WC ad cy) 0 0 h 5 [(0, .ref (ad 15)), (1, .int x1), (2, .long x2_2), (4, .int x4_3)] []) ?_ _ _ _ E
    intro self ih5 x2_2 x4_3 E
    show G l D X 5 (WC ad cy) 0 0 h 5 [(0, .ref (ad 15)), (1, .int x1), (2, .long x2_2), (4, .int x4_3)] []
    unfold L_X4_unsortedIn_15_5 at E
    refine g_iload (pc' := 7) O ⟨dX4_unsortedIn_5, rfl⟩ (q := 3) rfl ?_
    refine g_iconst (pc' := 8) O ⟨dX4_unsortedIn_7, rfl⟩ (v := (1 : Int32)) rfl ?_
    refine g_iadd (pc' := 9) O ⟨dX4_unsortedIn_8, rfl⟩ ?_
    refine g_iload_n (pc' := 10) O ⟨dX4_unsortedIn_9, rfl⟩ (q := 1) rfl rfl ?_
    refine g_icmp_ge (pc' := 13) O ⟨dX4_unsortedIn_10, rfl⟩ E (tgt := 37) (by decide) (fun E => ?_) (fun E => ?_)
    · refine g_sub (lv' := [(2, .long x2_2)]) [2] rfl ?_
      exact hk37 _ E
    · refine g_lload_n (pc' := 14) O ⟨dX4_unsortedIn_13, rfl⟩ (q := 2) rfl rfl ?_
      refine g_aload_n (pc' := 15) O ⟨dX4_unsortedIn_14, rfl⟩ (q := 0) rfl rfl ?_
      refine g_iload (pc' := 17) O ⟨dX4_unsortedIn_15, rfl⟩ (q := 3) rfl ?_
      refine g_lald (pc' := 18) O ⟨dX4_unsortedIn_17, rfl⟩ (wC_15 ad cy h) E (fun E => ?_)
      refine g_aload_n (pc' := 19) O ⟨dX4_unsortedIn_18, rfl⟩ (q := 0) rfl rfl ?_
      refine g_iload (pc' := 21) O ⟨dX4_unsortedIn_19, rfl⟩ (q := 3) rfl ?_
      refine g_iconst (pc' := 22) O ⟨dX4_unsortedIn_21, rfl⟩ (v := (1 : Int32)) rfl ?_
      refine g_iadd (pc' := 23) O ⟨dX4_unsortedIn_22, rfl⟩ ?_
      refine g_lald (pc' := 24) O ⟨dX4_unsortedIn_23, rfl⟩ (wC_15 ad cy h) E (fun E => ?_)
      refine g_ldc2 (pc' := 27) O ⟨dX4_unsortedIn_24, rfl⟩ kw_596 ?_
      refine g_lxor (pc' := 28) O ⟨dX4_unsortedIn_27, rfl⟩ ?_
      refine g_land (pc' := 29) O ⟨dX4_unsortedIn_28, rfl⟩ ?_
      refine g_lor (pc' := 30) O ⟨dX4_unsortedIn_29, rfl⟩ ?_
      refine g_nmL E (fun y2_4 E => ?_)
      refine g_lstore_n (pc' := 31) O ⟨dX4_unsortedIn_30, rfl⟩ (lv' := [(2, .long y2_4), (0, .ref (ad 15)), (1, .int x1), (4, .int x4_3)]) rfl (by decide) rfl ?_
      refine g_iinc (pc' := 34) O ⟨dX4_unsortedIn_31, rfl⟩ (q := 3) (v := x4_3 + (1 : Int32)) (lv' := [(4, .int (x4_3 + (1 : Int32))), (2, .long y2_4), (0, .ref (ad 15)), (1, .int x1)]) rfl rfl (by decide) rfl ?_
      refine g_goto (pc' := 37) O ⟨dX4_unsortedIn_34, rfl⟩ (tgt := 5) (by decide) ?_
      refine g_sub (lv' := [(0, .ref (ad 15)), (1, .int x1), (2, .long y2_4), (4, .int (x4_3 + (1 : Int32)))]) [2, 3, 1, 0] rfl ?_
      exact ih5 _ _ E
set_option maxRecDepth 100000 in
set_option maxHeartbeats 4000000 in
theorem t_X4_mergesAt_13_1 (l : Launch) (D : va_G) (ad : Nat → Nat) (cy : Nat → ClassId) {h : Hp} {x2 : Int32} {o : Int32 × Hp} (E : f_X4_mergesAt_13_1 h x2 = some o) : CtI l D cy (WC ad cy) yX4_mergesAt cX4_mergesAt 8 .boolean 4 86 [.ref (ad 13), .ref (ad 1), .int x2] h o.1 o.2 := by
  refine sI (own := RX4) rfl rfl (Nat.le_of_ble_eq_true rfl) (fun X O hret => ?_)
  show G l D X 8 (WC ad cy) 0 0 h 0 [(0, .ref (ad 13)), (1, .ref (ad 1)), (2, .int x2)] []
  unfold f_X4_mergesAt_13_1 at E
  refine g_aload_n (pc' := 1) O ⟨dX4_mergesAt_0, rfl⟩ (q := 0) rfl rfl ?_
  refine gf_C_RX4_15_13 ad cy (pc' := 4) O ⟨dX4_mergesAt_1, rfl⟩ ?_
  refine g_aload_n (pc' := 5) O ⟨dX4_mergesAt_4, rfl⟩ (q := 1) rfl rfl ?_
  refine gf_C_RX4_34_1 ad cy (pc' := 8) O ⟨dX4_mergesAt_5, rfl⟩ ?_
  obtain ⟨r_1, c_2, E⟩ := bd_of E
  refine g_Sv (pc' := 11) O ⟨dX4_mergesAt_8, rfl⟩ (y := yX4_bringIn) (As := [.ref (ad 15), .int (h.1 1 0)]) (st := []) (t_X4_bringIn_15 l D ad cy (h := h) c_2) kw_590 kw_28 kw_588 kw_589 hd_X4_bringIn ⟨Nat.le_of_ble_eq_true rfl, Nat.le_of_ble_eq_true rfl⟩ ⟨Nat.le_of_ble_eq_true rfl, Nat.le_of_ble_eq_true rfl⟩ rfl (Nat.le_of_ble_eq_true rfl) ?_
  refine g_aload_n (pc' := 12) O ⟨dX4_mergesAt_11, rfl⟩ (q := 0) rfl rfl ?_
  refine gf_C_RX4_15_13 ad cy (pc' := 15) O ⟨dX4_mergesAt_12, rfl⟩ ?_
  refine g_iload_n (pc' := 16) O ⟨dX4_mergesAt_15, rfl⟩ (q := 2) rfl rfl ?_
  obtain ⟨r_3, c_4, E⟩ := bd_of E
  refine g_Sl (pc' := 19) O ⟨dX4_mergesAt_16, rfl⟩ (y := yX4_unsortedIn) (As := [.ref (ad 15), .int x2]) (st := []) (t_X4_unsortedIn_15 l D ad cy (h := r_1) c_4) kw_749 kw_28 kw_747 kw_748 hd_X4_unsortedIn ⟨Nat.le_of_ble_eq_true rfl, Nat.le_of_ble_eq_true rfl⟩ ⟨Nat.le_of_ble_eq_true rfl, Nat.le_of_ble_eq_true rfl⟩ rfl (Nat.le_of_ble_eq_true rfl) ?_
  refine g_lstore_n (pc' := 20) O ⟨dX4_mergesAt_19, rfl⟩ (lv' := [(3, .long r_3), (0, .ref (ad 13)), (1, .ref (ad 1)), (2, .int x2)]) rfl (by decide) rfl ?_
  refine g_lconst (pc' := 21) O ⟨dX4_mergesAt_20, rfl⟩ (v := (0 : Int64)) rfl ?_
  refine g_lstore (pc' := 23) O ⟨dX4_mergesAt_21, rfl⟩ (lv' := [(5, .long (0 : Int64)), (3, .long r_3), (0, .ref (ad 13)), (1, .ref (ad 1)), (2, .int x2)]) (by decide) rfl ?_
  refine g_iload_n (pc' := 24) O ⟨dX4_mergesAt_23, rfl⟩ (q := 4) rfl rfl ?_
  refine g_istore (pc' := 26) O ⟨dX4_mergesAt_24, rfl⟩ (lv' := [(7, .int x2), (5, .long (0 : Int64)), (3, .long r_3), (0, .ref (ad 13)), (1, .ref (ad 1)), (2, .int x2)]) (by decide) rfl ?_
  refine jn1_of (P := fun (x5_5 : Int64) => G l D X 8 (WC ad cy) 0 0 r_1 69 [(0, .ref (ad 13)), (1, .ref (ad 1)), (3, .long r_3), (5, .long x5_5)] []) E ?_ ?_
  · intro x5_5 E
    show G l D X 8 (WC ad cy) 0 0 r_1 69 [(0, .ref (ad 13)), (1, .ref (ad 1)), (3, .long r_3), (5, .long x5_5)] []
    refine g_aload_n (pc' := 70) O ⟨dX4_mergesAt_69, rfl⟩ (q := 0) rfl rfl ?_
    refine g_aload_n (pc' := 71) O ⟨dX4_mergesAt_70, rfl⟩ (q := 1) rfl rfl ?_
    obtain ⟨r_6, c_7, E⟩ := bd_of E
    refine g_Vl (pc' := 74) O ⟨dX4_mergesAt_71, rfl⟩ (y := yX4_unsortedFrom) (As := [.ref (ad 1)]) (st := []) (t_X4_unsortedFrom_13_1 l D ad cy (h := r_1) c_7) kw_746 kw_28 kw_766 kw_744 kw_745 rfl (wC_13 ad cy r_1) hd_X4_unsortedFrom ⟨Nat.le_of_ble_eq_true rfl, Nat.le_of_ble_eq_true rfl⟩ ⟨Nat.le_of_ble_eq_true rfl, Nat.le_of_ble_eq_true rfl⟩ rfl (Nat.le_of_ble_eq_true rfl) ?_
    refine g_lload_n (pc' := 75) O ⟨dX4_mergesAt_74, rfl⟩ (q := 2) rfl rfl ?_
    refine g_ldc2 (pc' := 78) O ⟨dX4_mergesAt_75, rfl⟩ kw_596 ?_
    refine g_lxor (pc' := 79) O ⟨dX4_mergesAt_78, rfl⟩ ?_
    refine g_land (pc' := 80) O ⟨dX4_mergesAt_79, rfl⟩ ?_
    refine g_lload (pc' := 82) O ⟨dX4_mergesAt_80, rfl⟩ (q := 3) rfl ?_
    refine g_ldc2 (pc' := 85) O ⟨dX4_mergesAt_82, rfl⟩ kw_596 ?_
    refine g_lxor (pc' := 86) O ⟨dX4_mergesAt_85, rfl⟩ ?_
    refine g_land (pc' := 87) O ⟨dX4_mergesAt_86, rfl⟩ ?_
    refine g_lconst (pc' := 88) O ⟨dX4_mergesAt_87, rfl⟩ (v := (0 : Int64)) rfl ?_
    refine g_lcmp (pc' := 89) O ⟨dX4_mergesAt_88, rfl⟩ ?_
    refine g_if_ne (pc' := 92) O ⟨dX4_mergesAt_89, rfl⟩ E (tgt := 96) (by decide) (fun E => ?_) (fun E => ?_)
    · refine g_iconst (pc' := 97) O ⟨dX4_mergesAt_96, rfl⟩ (v := (0 : Int32)) rfl ?_
      obtain ⟨hn, E⟩ := ckz_of E
      cases E
      exact hret _ _ _ ⟨dX4_mergesAt_97, rfl⟩ hn
    · refine g_iconst (pc' := 93) O ⟨dX4_mergesAt_92, rfl⟩ (v := (1 : Int32)) rfl ?_
      refine g_goto (pc' := 96) O ⟨dX4_mergesAt_93, rfl⟩ (tgt := 97) (by decide) ?_
      obtain ⟨hn, E⟩ := ckz_of E
      cases E
      exact hret _ _ _ ⟨dX4_mergesAt_97, rfl⟩ hn
  · intro k69 hk69 E
    refine g_sub (lv' := [(0, .ref (ad 13)), (1, .ref (ad 1)), (3, .long r_3), (5, .long (0 : Int64)), (7, .int x2)]) [3, 4, 2, 1, 0] rfl ?_
    refine fx2_of (P := fun (x5_8 : Int64) (x7_9 : Int32) => G l D X 8 (WC ad cy) 0 0 r_1 26 [(0, .ref (ad 13)), (1, .ref (ad 1)), (3, .long r_3), (5, .long x5_8), (7, .int x7_9)] []) ?_ _ _ _ E
    intro self ih26 x5_8 x7_9 E
    show G l D X 8 (WC ad cy) 0 0 r_1 26 [(0, .ref (ad 13)), (1, .ref (ad 1)), (3, .long r_3), (5, .long x5_8), (7, .int x7_9)] []
    unfold L_X4_mergesAt_13_1_26 at E
    refine g_iload (pc' := 28) O ⟨dX4_mergesAt_26, rfl⟩ (q := 4) rfl ?_
    refine g_iconst (pc' := 29) O ⟨dX4_mergesAt_28, rfl⟩ (v := (1 : Int32)) rfl ?_
    refine g_iadd (pc' := 30) O ⟨dX4_mergesAt_29, rfl⟩ ?_
    refine g_aload_n (pc' := 31) O ⟨dX4_mergesAt_30, rfl⟩ (q := 1) rfl rfl ?_
    refine gf_C_RX4_34_1 ad cy (pc' := 34) O ⟨dX4_mergesAt_31, rfl⟩ ?_
    refine g_icmp_ge (pc' := 37) O ⟨dX4_mergesAt_34, rfl⟩ E (tgt := 69) (by decide) (fun E => ?_) (fun E => ?_)
    · refine g_sub (lv' := [(0, .ref (ad 13)), (1, .ref (ad 1)), (3, .long r_3), (5, .long x5_8)]) [0, 1, 2, 3] rfl ?_
      exact hk69 _ E
    · refine g_lload (pc' := 39) O ⟨dX4_mergesAt_37, rfl⟩ (q := 3) rfl ?_
      refine g_aload_n (pc' := 40) O ⟨dX4_mergesAt_39, rfl⟩ (q := 0) rfl rfl ?_
      refine gf_C_RX4_15_13 ad cy (pc' := 43) O ⟨dX4_mergesAt_40, rfl⟩ ?_
      refine g_iload (pc' := 45) O ⟨dX4_mergesAt_43, rfl⟩ (q := 4) rfl ?_
      refine g_lald (pc' := 46) O ⟨dX4_mergesAt_45, rfl⟩ (wC_15 ad cy r_1) E (fun E => ?_)
      refine g_aload_n (pc' := 47) O ⟨dX4_mergesAt_46, rfl⟩ (q := 0) rfl rfl ?_
      refine gf_C_RX4_15_13 ad cy (pc' := 50) O ⟨dX4_mergesAt_47, rfl⟩ ?_
      refine g_iload (pc' := 52) O ⟨dX4_mergesAt_50, rfl⟩ (q := 4) rfl ?_
      refine g_iconst (pc' := 53) O ⟨dX4_mergesAt_52, rfl⟩ (v := (1 : Int32)) rfl ?_
      refine g_iadd (pc' := 54) O ⟨dX4_mergesAt_53, rfl⟩ ?_
      refine g_lald (pc' := 55) O ⟨dX4_mergesAt_54, rfl⟩ (wC_15 ad cy r_1) E (fun E => ?_)
      refine g_ldc2 (pc' := 58) O ⟨dX4_mergesAt_55, rfl⟩ kw_596 ?_
      refine g_lxor (pc' := 59) O ⟨dX4_mergesAt_58, rfl⟩ ?_
      refine g_land (pc' := 60) O ⟨dX4_mergesAt_59, rfl⟩ ?_
      refine g_lor (pc' := 61) O ⟨dX4_mergesAt_60, rfl⟩ ?_
      refine g_nmL E (fun y5_10 E => ?_)
      refine g_lstore (pc' := 63) O ⟨dX4_mergesAt_61, rfl⟩ (lv' := [(5, .long y5_10), (0, .ref (ad 13)), (1, .ref (ad 1)), (3, .long r_3), (7, .int x7_9)]) (by decide) rfl ?_
      refine g_iinc (pc' := 66) O ⟨dX4_mergesAt_63, rfl⟩ (q := 4) (v := x7_9 + (1 : Int32)) (lv' := [(7, .int (x7_9 + (1 : Int32))), (5, .long y5_10), (0, .ref (ad 13)), (1, .ref (ad 1)), (3, .long r_3)]) rfl rfl (by decide) rfl ?_
      refine g_goto (pc' := 69) O ⟨dX4_mergesAt_66, rfl⟩ (tgt := 26) (by decide) ?_
      refine g_sub (lv' := [(0, .ref (ad 13)), (1, .ref (ad 1)), (3, .long r_3), (5, .long y5_10), (7, .int (x7_9 + (1 : Int32)))]) [2, 3, 4, 1, 0] rfl ?_
      exact ih26 _ _ E
set_option maxRecDepth 100000 in
set_option maxHeartbeats 4000000 in
theorem t_J6_bitCount (l : Launch) (D : va_G) (ad : Nat → Nat) (cy : Nat → ClassId) {h : Hp} {x0 : Int32} {o : Int32} (E : f_J6_bitCount x0 = some o) : CtI l D cy (WC ad cy) yJ6_bitCount_0f7a4 cJ6_bitCount_0f7a4 1 .int 0 0 [.int x0] h o h := by
  refine sI (own := RJ6) rfl rfl (Nat.le_of_ble_eq_true rfl) (fun X O hret => ?_)
  show G l D X 1 (WC ad cy) 0 0 h 0 [(0, .int x0)] []
  unfold f_J6_bitCount at E
  refine g_iload_n (pc' := 1) O ⟨dJ6_bitCount_0f7a4_0, rfl⟩ (q := 0) rfl rfl ?_
  refine g_iload_n (pc' := 2) O ⟨dJ6_bitCount_0f7a4_1, rfl⟩ (q := 0) rfl rfl ?_
  refine g_iconst (pc' := 3) O ⟨dJ6_bitCount_0f7a4_2, rfl⟩ (v := (1 : Int32)) rfl ?_
  refine g_iushr (pc' := 4) O ⟨dJ6_bitCount_0f7a4_3, rfl⟩ ?_
  refine g_ldcw (pc' := 7) O ⟨dJ6_bitCount_0f7a4_4, rfl⟩ kw_790 ?_
  refine g_iand (pc' := 8) O ⟨dJ6_bitCount_0f7a4_7, rfl⟩ ?_
  refine g_isub (pc' := 9) O ⟨dJ6_bitCount_0f7a4_8, rfl⟩ ?_
  refine g_nm E (fun y0_1 E => ?_)
  refine g_istore_n (pc' := 10) O ⟨dJ6_bitCount_0f7a4_9, rfl⟩ (lv' := [(0, .int y0_1)]) rfl (by decide) rfl ?_
  refine g_iload_n (pc' := 11) O ⟨dJ6_bitCount_0f7a4_10, rfl⟩ (q := 0) rfl rfl ?_
  refine g_ldcw (pc' := 14) O ⟨dJ6_bitCount_0f7a4_11, rfl⟩ kw_791 ?_
  refine g_iand (pc' := 15) O ⟨dJ6_bitCount_0f7a4_14, rfl⟩ ?_
  refine g_iload_n (pc' := 16) O ⟨dJ6_bitCount_0f7a4_15, rfl⟩ (q := 0) rfl rfl ?_
  refine g_iconst (pc' := 17) O ⟨dJ6_bitCount_0f7a4_16, rfl⟩ (v := (2 : Int32)) rfl ?_
  refine g_iushr (pc' := 18) O ⟨dJ6_bitCount_0f7a4_17, rfl⟩ ?_
  refine g_ldcw (pc' := 21) O ⟨dJ6_bitCount_0f7a4_18, rfl⟩ kw_791 ?_
  refine g_iand (pc' := 22) O ⟨dJ6_bitCount_0f7a4_21, rfl⟩ ?_
  refine g_iadd (pc' := 23) O ⟨dJ6_bitCount_0f7a4_22, rfl⟩ ?_
  refine g_nm E (fun y0_2 E => ?_)
  refine g_istore_n (pc' := 24) O ⟨dJ6_bitCount_0f7a4_23, rfl⟩ (lv' := [(0, .int y0_2)]) rfl (by decide) rfl ?_
  refine g_iload_n (pc' := 25) O ⟨dJ6_bitCount_0f7a4_24, rfl⟩ (q := 0) rfl rfl ?_
  refine g_iload_n (pc' := 26) O ⟨dJ6_bitCount_0f7a4_25, rfl⟩ (q := 0) rfl rfl ?_
  refine g_iconst (pc' := 27) O ⟨dJ6_bitCount_0f7a4_26, rfl⟩ (v := (4 : Int32)) rfl ?_
  refine g_iushr (pc' := 28) O ⟨dJ6_bitCount_0f7a4_27, rfl⟩ ?_
  refine g_iadd (pc' := 29) O ⟨dJ6_bitCount_0f7a4_28, rfl⟩ ?_
  refine g_ldcw (pc' := 32) O ⟨dJ6_bitCount_0f7a4_29, rfl⟩ kw_792 ?_
  refine g_iand (pc' := 33) O ⟨dJ6_bitCount_0f7a4_32, rfl⟩ ?_
  refine g_nm E (fun y0_3 E => ?_)
  refine g_istore_n (pc' := 34) O ⟨dJ6_bitCount_0f7a4_33, rfl⟩ (lv' := [(0, .int y0_3)]) rfl (by decide) rfl ?_
  refine g_iload_n (pc' := 35) O ⟨dJ6_bitCount_0f7a4_34, rfl⟩ (q := 0) rfl rfl ?_
  refine g_iload_n (pc' := 36) O ⟨dJ6_bitCount_0f7a4_35, rfl⟩ (q := 0) rfl rfl ?_
  refine g_bipush (pc' := 38) O ⟨dJ6_bitCount_0f7a4_36, rfl⟩ (v := (8 : Int32)) rfl ?_
  refine g_iushr (pc' := 39) O ⟨dJ6_bitCount_0f7a4_38, rfl⟩ ?_
  refine g_iadd (pc' := 40) O ⟨dJ6_bitCount_0f7a4_39, rfl⟩ ?_
  refine g_nm E (fun y0_4 E => ?_)
  refine g_istore_n (pc' := 41) O ⟨dJ6_bitCount_0f7a4_40, rfl⟩ (lv' := [(0, .int y0_4)]) rfl (by decide) rfl ?_
  refine g_iload_n (pc' := 42) O ⟨dJ6_bitCount_0f7a4_41, rfl⟩ (q := 0) rfl rfl ?_
  refine g_iload_n (pc' := 43) O ⟨dJ6_bitCount_0f7a4_42, rfl⟩ (q := 0) rfl rfl ?_
  refine g_bipush (pc' := 45) O ⟨dJ6_bitCount_0f7a4_43, rfl⟩ (v := (16 : Int32)) rfl ?_
  refine g_iushr (pc' := 46) O ⟨dJ6_bitCount_0f7a4_45, rfl⟩ ?_
  refine g_iadd (pc' := 47) O ⟨dJ6_bitCount_0f7a4_46, rfl⟩ ?_
  refine g_nm E (fun y0_5 E => ?_)
  refine g_istore_n (pc' := 48) O ⟨dJ6_bitCount_0f7a4_47, rfl⟩ (lv' := [(0, .int y0_5)]) rfl (by decide) rfl ?_
  refine g_iload_n (pc' := 49) O ⟨dJ6_bitCount_0f7a4_48, rfl⟩ (q := 0) rfl rfl ?_
  refine g_bipush (pc' := 51) O ⟨dJ6_bitCount_0f7a4_49, rfl⟩ (v := (63 : Int32)) rfl ?_
  refine g_iand (pc' := 52) O ⟨dJ6_bitCount_0f7a4_51, rfl⟩ ?_
  cases E
  exact hret _ _ _ ⟨dJ6_bitCount_0f7a4_52, rfl⟩ rfl
set_option maxRecDepth 100000 in
set_option maxHeartbeats 4000000 in
theorem t_X4_choosesLowest_13_1 (l : Launch) (D : va_G) (ad : Nat → Nat) (cy : Nat → ClassId) {h : Hp} {x2 : Int32} {o : Int32 × Hp} (E : f_X4_choosesLowest_13_1 h x2 = some o) : CtI l D cy (WC ad cy) yX4_choosesLowest cX4_choosesLowest 7 .boolean 4 86 [.ref (ad 13), .ref (ad 1), .int x2] h o.1 o.2 := by
  refine sI (own := RX4) rfl rfl (Nat.le_of_ble_eq_true rfl) (fun X O hret => ?_)
  show G l D X 7 (WC ad cy) 0 0 h 0 [(0, .ref (ad 13)), (1, .ref (ad 1)), (2, .int x2)] []
  unfold f_X4_choosesLowest_13_1 at E
  refine g_aload_n (pc' := 1) O ⟨dX4_choosesLowest_0, rfl⟩ (q := 0) rfl rfl ?_
  refine g_aload_n (pc' := 2) O ⟨dX4_choosesLowest_1, rfl⟩ (q := 1) rfl rfl ?_
  obtain ⟨r_1, c_2, E⟩ := bd_of E
  refine g_Vl (pc' := 5) O ⟨dX4_choosesLowest_2, rfl⟩ (y := yX4_unsortedFrom) (As := [.ref (ad 1)]) (st := []) (t_X4_unsortedFrom_13_1 l D ad cy (h := h) c_2) kw_746 kw_28 kw_766 kw_744 kw_745 rfl (wC_13 ad cy h) hd_X4_unsortedFrom ⟨Nat.le_of_ble_eq_true rfl, Nat.le_of_ble_eq_true rfl⟩ ⟨Nat.le_of_ble_eq_true rfl, Nat.le_of_ble_eq_true rfl⟩ rfl (Nat.le_of_ble_eq_true rfl) ?_
  refine g_lstore_n (pc' := 6) O ⟨dX4_choosesLowest_5, rfl⟩ (lv' := [(3, .long r_1.1), (0, .ref (ad 13)), (1, .ref (ad 1)), (2, .int x2)]) rfl (by decide) rfl ?_
  refine g_iconst (pc' := 7) O ⟨dX4_choosesLowest_6, rfl⟩ (v := (0 : Int32)) rfl ?_
  refine g_istore (pc' := 9) O ⟨dX4_choosesLowest_7, rfl⟩ (lv' := [(5, .int (0 : Int32)), (3, .long r_1.1), (0, .ref (ad 13)), (1, .ref (ad 1)), (2, .int x2)]) (by decide) rfl ?_
  refine jn0_of (P := G l D X 7 (WC ad cy) 0 0 r_1.2 65 [] []) E ?_ ?_
  · intro E
    show G l D X 7 (WC ad cy) 0 0 r_1.2 65 [] []
    refine g_iconst (pc' := 66) O ⟨dX4_choosesLowest_65, rfl⟩ (v := (1 : Int32)) rfl ?_
    obtain ⟨hn, E⟩ := ckz_of E
    cases E
    exact hret _ _ _ ⟨dX4_choosesLowest_66, rfl⟩ hn
  · intro k65 hk65 E
    refine jn0_of (P := G l D X 7 (WC ad cy) 0 0 r_1.2 57 [] []) E ?_ ?_
    · intro E
      show G l D X 7 (WC ad cy) 0 0 r_1.2 57 [] []
      refine g_iconst (pc' := 58) O ⟨dX4_choosesLowest_57, rfl⟩ (v := (0 : Int32)) rfl ?_
      obtain ⟨hn, E⟩ := ckz_of E
      cases E
      exact hret _ _ _ ⟨dX4_choosesLowest_58, rfl⟩ hn
    · intro k57 hk57 E
      refine g_sub (lv' := [(1, .ref (ad 1)), (2, .int x2), (3, .long r_1.1), (5, .int (0 : Int32))]) [3, 4, 1, 0] rfl ?_
      refine fx1_of (P := fun (x5_3 : Int32) => G l D X 7 (WC ad cy) 0 0 r_1.2 9 [(1, .ref (ad 1)), (2, .int x2), (3, .long r_1.1), (5, .int x5_3)] []) ?_ _ _ E
      intro self ih9 x5_3 E
      show G l D X 7 (WC ad cy) 0 0 r_1.2 9 [(1, .ref (ad 1)), (2, .int x2), (3, .long r_1.1), (5, .int x5_3)] []
      unfold L_X4_choosesLowest_13_1_9 at E
      refine g_iload (pc' := 11) O ⟨dX4_choosesLowest_9, rfl⟩ (q := 3) rfl ?_
      refine g_iconst (pc' := 12) O ⟨dX4_choosesLowest_11, rfl⟩ (v := (1 : Int32)) rfl ?_
      refine g_aload_n (pc' := 13) O ⟨dX4_choosesLowest_12, rfl⟩ (q := 0) rfl rfl ?_
      refine gf_C_RX4_34_1 ad cy (pc' := 16) O ⟨dX4_choosesLowest_13, rfl⟩ ?_
      refine g_ishl (pc' := 17) O ⟨dX4_choosesLowest_16, rfl⟩ ?_
      refine g_icmp_ge (pc' := 20) O ⟨dX4_choosesLowest_17, rfl⟩ E (tgt := 65) (by decide) (fun E => ?_) (fun E => ?_)
      · refine g_sub (lv' := []) [] rfl ?_
        exact hk65 E
      · refine g_lload_n (pc' := 21) O ⟨dX4_choosesLowest_20, rfl⟩ (q := 2) rfl rfl ?_
        refine g_iload (pc' := 23) O ⟨dX4_choosesLowest_21, rfl⟩ (q := 3) rfl ?_
        refine g_lushr (pc' := 24) O ⟨dX4_choosesLowest_23, rfl⟩ ?_
        refine g_lconst (pc' := 25) O ⟨dX4_choosesLowest_24, rfl⟩ (v := (1 : Int64)) rfl ?_
        refine g_land (pc' := 26) O ⟨dX4_choosesLowest_25, rfl⟩ ?_
        refine g_lconst (pc' := 27) O ⟨dX4_choosesLowest_26, rfl⟩ (v := (0 : Int64)) rfl ?_
        refine g_lcmp (pc' := 28) O ⟨dX4_choosesLowest_27, rfl⟩ ?_
        refine jn1_of (P := fun (z_4 : Int32) => G l D X 7 (WC ad cy) 0 0 r_1.2 36 [(1, .ref (ad 1)), (2, .int x2), (3, .long r_1.1), (5, .int x5_3)] [.int z_4]) E ?_ ?_
        · intro z_4 E
          show G l D X 7 (WC ad cy) 0 0 r_1.2 36 [(1, .ref (ad 1)), (2, .int x2), (3, .long r_1.1), (5, .int x5_3)] [.int z_4]
          refine g_istore (pc' := 38) O ⟨dX4_choosesLowest_36, rfl⟩ (lv' := [(6, .int z_4), (1, .ref (ad 1)), (2, .int x2), (3, .long r_1.1), (5, .int x5_3)]) (by decide) rfl ?_
          refine g_iload (pc' := 40) O ⟨dX4_choosesLowest_38, rfl⟩ (q := 0) rfl ?_
          refine g_if_eq (pc' := 43) O ⟨dX4_choosesLowest_40, rfl⟩ E (tgt := 59) (by decide) (fun E => ?_) (fun E => ?_)
          · refine g_iinc (pc' := 62) O ⟨dX4_choosesLowest_59, rfl⟩ (q := 4) (v := x5_3 + (1 : Int32)) (lv' := [(5, .int (x5_3 + (1 : Int32))), (6, .int z_4), (1, .ref (ad 1)), (2, .int x2), (3, .long r_1.1)]) rfl rfl (by decide) rfl ?_
            refine g_goto (pc' := 65) O ⟨dX4_choosesLowest_62, rfl⟩ (tgt := 9) (by decide) ?_
            refine g_sub (lv' := [(1, .ref (ad 1)), (2, .int x2), (3, .long r_1.1), (5, .int (x5_3 + (1 : Int32)))]) [2, 3, 4, 0] rfl ?_
            exact ih9 _ E
          · refine g_aload_n (pc' := 44) O ⟨dX4_choosesLowest_43, rfl⟩ (q := 1) rfl rfl ?_
            refine gf_C_RX4_34_1 ad cy (pc' := 47) O ⟨dX4_choosesLowest_44, rfl⟩ ?_
            refine g_iload (pc' := 49) O ⟨dX4_choosesLowest_47, rfl⟩ (q := 4) rfl ?_
            obtain ⟨r_5, c_6, E⟩ := bd_of E
            refine g_Si (pc' := 52) O ⟨dX4_choosesLowest_49, rfl⟩ (y := yJ6_bitCount_0f7a4) (As := [.int x5_3]) (st := [.int (r_1.2.1 1 0)]) (t_J6_bitCount l D ad cy (h := r_1.2) c_6) kw_789 kw_44 kw_787 kw_788 hd_J6_bitCount_0f7a4 ⟨Nat.le_of_ble_eq_true rfl, Nat.le_of_ble_eq_true rfl⟩ ⟨Nat.le_of_ble_eq_true rfl, Nat.le_of_ble_eq_true rfl⟩ rfl (Nat.le_of_ble_eq_true rfl) ?_
            refine g_isub (pc' := 53) O ⟨dX4_choosesLowest_52, rfl⟩ ?_
            refine g_iload_n (pc' := 54) O ⟨dX4_choosesLowest_53, rfl⟩ (q := 2) rfl rfl ?_
            refine g_icmp_ne (pc' := 57) O ⟨dX4_choosesLowest_54, rfl⟩ E (tgt := 59) (by decide) (fun E => ?_) (fun E => ?_)
            · refine g_iinc (pc' := 62) O ⟨dX4_choosesLowest_59, rfl⟩ (q := 4) (v := x5_3 + (1 : Int32)) (lv' := [(5, .int (x5_3 + (1 : Int32))), (6, .int z_4), (1, .ref (ad 1)), (2, .int x2), (3, .long r_1.1)]) rfl rfl (by decide) rfl ?_
              refine g_goto (pc' := 65) O ⟨dX4_choosesLowest_62, rfl⟩ (tgt := 9) (by decide) ?_
              refine g_sub (lv' := [(1, .ref (ad 1)), (2, .int x2), (3, .long r_1.1), (5, .int (x5_3 + (1 : Int32)))]) [2, 3, 4, 0] rfl ?_
              exact ih9 _ E
            · refine g_sub (lv' := []) [] rfl ?_
              exact hk57 E
        · intro k36 hk36 E
          refine g_if_eq (pc' := 31) O ⟨dX4_choosesLowest_28, rfl⟩ E (tgt := 35) (by decide) (fun E => ?_) (fun E => ?_)
          · refine g_iconst (pc' := 36) O ⟨dX4_choosesLowest_35, rfl⟩ (v := (0 : Int32)) rfl ?_
            exact hk36 _ E
          · refine g_iconst (pc' := 32) O ⟨dX4_choosesLowest_31, rfl⟩ (v := (1 : Int32)) rfl ?_
            refine g_goto (pc' := 35) O ⟨dX4_choosesLowest_32, rfl⟩ (tgt := 36) (by decide) ?_
            exact hk36 _ E
set_option maxRecDepth 100000 in
set_option maxHeartbeats 4000000 in
theorem t_X4_distanceIn (l : Launch) (D : va_G) (ad : Nat → Nat) (cy : Nat → ClassId) {h : Hp} {x0 : Int32} {x1 : Int32} {o : Int32} (E : f_X4_distanceIn x0 x1 = some o) : CtI l D cy (WC ad cy) yX4_distanceIn cX4_distanceIn 6 .int 1 40 [.int x0, .int x1] h o h := by
  refine sI (own := RX4) rfl rfl (Nat.le_of_ble_eq_true rfl) (fun X O hret => ?_)
  show G l D X 6 (WC ad cy) 0 0 h 0 [(0, .int x0), (1, .int x1)] []
  unfold f_X4_distanceIn at E
  refine g_iload_n (pc' := 1) O ⟨dX4_distanceIn_0, rfl⟩ (q := 1) rfl rfl ?_
  refine g_iload_n (pc' := 2) O ⟨dX4_distanceIn_1, rfl⟩ (q := 0) rfl rfl ?_
  obtain ⟨r_1, c_2, E⟩ := bd_of E
  refine g_Si (pc' := 5) O ⟨dX4_distanceIn_2, rfl⟩ (y := yJ6_bitCount_0f7a4) (As := [.int x0]) (st := [.int x1]) (t_J6_bitCount l D ad cy (h := h) c_2) kw_789 kw_44 kw_787 kw_788 hd_J6_bitCount_0f7a4 ⟨Nat.le_of_ble_eq_true rfl, Nat.le_of_ble_eq_true rfl⟩ ⟨Nat.le_of_ble_eq_true rfl, Nat.le_of_ble_eq_true rfl⟩ rfl (Nat.le_of_ble_eq_true rfl) ?_
  refine g_isub (pc' := 6) O ⟨dX4_distanceIn_5, rfl⟩ ?_
  refine g_nm E (fun y2_3 E => ?_)
  refine g_istore_n (pc' := 7) O ⟨dX4_distanceIn_6, rfl⟩ (lv' := [(2, .int y2_3), (0, .int x0), (1, .int x1)]) rfl (by decide) rfl ?_
  refine g_iconst (pc' := 8) O ⟨dX4_distanceIn_7, rfl⟩ (v := (0 : Int32)) rfl ?_
  refine g_istore_n (pc' := 9) O ⟨dX4_distanceIn_8, rfl⟩ (lv' := [(3, .int (0 : Int32)), (2, .int y2_3), (0, .int x0), (1, .int x1)]) rfl (by decide) rfl ?_
  refine g_iconst (pc' := 10) O ⟨dX4_distanceIn_9, rfl⟩ (v := (0 : Int32)) rfl ?_
  refine g_istore (pc' := 12) O ⟨dX4_distanceIn_10, rfl⟩ (lv' := [(4, .int (0 : Int32)), (3, .int (0 : Int32)), (2, .int y2_3), (0, .int x0), (1, .int x1)]) (by decide) rfl ?_
  refine jn1_of (P := fun (x3_4 : Int32) => G l D X 6 (WC ad cy) 0 0 h 63 [(3, .int x3_4)] []) E ?_ ?_
  · intro x3_4 E
    show G l D X 6 (WC ad cy) 0 0 h 63 [(3, .int x3_4)] []
    refine g_iload_n (pc' := 64) O ⟨dX4_distanceIn_63, rfl⟩ (q := 0) rfl rfl ?_
    cases E
    exact hret _ _ _ ⟨dX4_distanceIn_64, rfl⟩ rfl
  · intro k63 hk63 E
    refine g_sub (lv' := [(0, .int x0), (1, .int x1), (2, .int y2_3), (3, .int (0 : Int32)), (4, .int (0 : Int32))]) [3, 4, 2, 1, 0] rfl ?_
    refine fx2_of (P := fun (x3_5 : Int32) (x4_6 : Int32) => G l D X 6 (WC ad cy) 0 0 h 12 [(0, .int x0), (1, .int x1), (2, .int y2_3), (3, .int x3_5), (4, .int x4_6)] []) ?_ _ _ _ E
    intro self ih12 x3_5 x4_6 E
    show G l D X 6 (WC ad cy) 0 0 h 12 [(0, .int x0), (1, .int x1), (2, .int y2_3), (3, .int x3_5), (4, .int x4_6)] []
    unfold L_X4_distanceIn_12 at E
    refine g_iload (pc' := 14) O ⟨dX4_distanceIn_12, rfl⟩ (q := 4) rfl ?_
    refine g_iload_n (pc' := 15) O ⟨dX4_distanceIn_14, rfl⟩ (q := 1) rfl rfl ?_
    refine g_icmp_ge (pc' := 18) O ⟨dX4_distanceIn_15, rfl⟩ E (tgt := 63) (by decide) (fun E => ?_) (fun E => ?_)
    · refine g_sub (lv' := [(3, .int x3_5)]) [3] rfl ?_
      exact hk63 _ E
    · refine g_iload_n (pc' := 19) O ⟨dX4_distanceIn_18, rfl⟩ (q := 0) rfl rfl ?_
      refine g_iload (pc' := 21) O ⟨dX4_distanceIn_19, rfl⟩ (q := 4) rfl ?_
      refine g_ishr (pc' := 22) O ⟨dX4_distanceIn_21, rfl⟩ ?_
      refine g_iconst (pc' := 23) O ⟨dX4_distanceIn_22, rfl⟩ (v := (1 : Int32)) rfl ?_
      refine g_iand (pc' := 24) O ⟨dX4_distanceIn_23, rfl⟩ ?_
      refine jn1_of (P := fun (z_7 : Int32) => G l D X 6 (WC ad cy) 0 0 h 32 [(0, .int x0), (1, .int x1), (2, .int y2_3), (3, .int x3_5), (4, .int x4_6)] [.int z_7]) E ?_ ?_
      · intro z_7 E
        show G l D X 6 (WC ad cy) 0 0 h 32 [(0, .int x0), (1, .int x1), (2, .int y2_3), (3, .int x3_5), (4, .int x4_6)] [.int z_7]
        refine g_istore (pc' := 34) O ⟨dX4_distanceIn_32, rfl⟩ (lv' := [(5, .int z_7), (0, .int x0), (1, .int x1), (2, .int y2_3), (3, .int x3_5), (4, .int x4_6)]) (by decide) rfl ?_
        refine g_iload_n (pc' := 35) O ⟨dX4_distanceIn_34, rfl⟩ (q := 4) rfl rfl ?_
        refine g_iload (pc' := 37) O ⟨dX4_distanceIn_35, rfl⟩ (q := 0) rfl ?_
        refine g_if_eq (pc' := 40) O ⟨dX4_distanceIn_37, rfl⟩ E (tgt := 47) (by decide) (fun E => ?_) (fun E => ?_)
        · refine g_iload (pc' := 49) O ⟨dX4_distanceIn_47, rfl⟩ (q := 5) rfl ?_
          refine g_iload_n (pc' := 50) O ⟨dX4_distanceIn_49, rfl⟩ (q := 3) rfl rfl ?_
          refine g_iconst (pc' := 51) O ⟨dX4_distanceIn_50, rfl⟩ (v := (1 : Int32)) rfl ?_
          refine g_isub (pc' := 52) O ⟨dX4_distanceIn_51, rfl⟩ ?_
          refine g_isub (pc' := 53) O ⟨dX4_distanceIn_52, rfl⟩ ?_
          refine g_mmax (pc' := 56) O ⟨dX4_distanceIn_53, rfl⟩ kw_576 kw_42 kw_793 kw_575 ⟨by simp only [RM]; omega, Nat.le_of_ble_eq_true rfl⟩ ⟨Nat.le_refl _, Nat.le_refl _⟩ ?_
          refine g_nm E (fun y3_8 E => ?_)
          refine g_istore_n (pc' := 57) O ⟨dX4_distanceIn_56, rfl⟩ (lv' := [(3, .int y3_8), (5, .int z_7), (0, .int x0), (1, .int x1), (2, .int y2_3), (4, .int x4_6)]) rfl (by decide) rfl ?_
          refine g_iinc (pc' := 60) O ⟨dX4_distanceIn_57, rfl⟩ (q := 5) (v := x4_6 + (1 : Int32)) (lv' := [(4, .int (x4_6 + (1 : Int32))), (3, .int y3_8), (5, .int z_7), (0, .int x0), (1, .int x1), (2, .int y2_3)]) rfl rfl (by decide) rfl ?_
          refine g_goto (pc' := 63) O ⟨dX4_distanceIn_60, rfl⟩ (tgt := 12) (by decide) ?_
          refine g_sub (lv' := [(0, .int x0), (1, .int x1), (2, .int y2_3), (3, .int y3_8), (4, .int (x4_6 + (1 : Int32)))]) [3, 4, 5, 1, 0] rfl ?_
          exact ih12 _ _ E
        · refine g_iload_n (pc' := 41) O ⟨dX4_distanceIn_40, rfl⟩ (q := 3) rfl rfl ?_
          refine g_iload (pc' := 43) O ⟨dX4_distanceIn_41, rfl⟩ (q := 5) rfl ?_
          refine g_isub (pc' := 44) O ⟨dX4_distanceIn_43, rfl⟩ ?_
          refine g_goto (pc' := 47) O ⟨dX4_distanceIn_44, rfl⟩ (tgt := 53) (by decide) ?_
          refine g_mmax (pc' := 56) O ⟨dX4_distanceIn_53, rfl⟩ kw_576 kw_42 kw_793 kw_575 ⟨by simp only [RM]; omega, Nat.le_of_ble_eq_true rfl⟩ ⟨Nat.le_refl _, Nat.le_refl _⟩ ?_
          refine g_nm E (fun y3_9 E => ?_)
          refine g_istore_n (pc' := 57) O ⟨dX4_distanceIn_56, rfl⟩ (lv' := [(3, .int y3_9), (5, .int z_7), (0, .int x0), (1, .int x1), (2, .int y2_3), (4, .int x4_6)]) rfl (by decide) rfl ?_
          refine g_iinc (pc' := 60) O ⟨dX4_distanceIn_57, rfl⟩ (q := 5) (v := x4_6 + (1 : Int32)) (lv' := [(4, .int (x4_6 + (1 : Int32))), (3, .int y3_9), (5, .int z_7), (0, .int x0), (1, .int x1), (2, .int y2_3)]) rfl rfl (by decide) rfl ?_
          refine g_goto (pc' := 63) O ⟨dX4_distanceIn_60, rfl⟩ (tgt := 12) (by decide) ?_
          refine g_sub (lv' := [(0, .int x0), (1, .int x1), (2, .int y2_3), (3, .int y3_9), (4, .int (x4_6 + (1 : Int32)))]) [3, 4, 5, 1, 0] rfl ?_
          exact ih12 _ _ E
      · intro k32 hk32 E
        refine g_if_eq (pc' := 27) O ⟨dX4_distanceIn_24, rfl⟩ E (tgt := 31) (by decide) (fun E => ?_) (fun E => ?_)
        · refine g_iconst (pc' := 32) O ⟨dX4_distanceIn_31, rfl⟩ (v := (0 : Int32)) rfl ?_
          exact hk32 _ E
        · refine g_iconst (pc' := 28) O ⟨dX4_distanceIn_27, rfl⟩ (v := (1 : Int32)) rfl ?_
          refine g_goto (pc' := 31) O ⟨dX4_distanceIn_28, rfl⟩ (tgt := 32) (by decide) ?_
          exact hk32 _ E
set_option maxRecDepth 100000 in
set_option maxHeartbeats 4000000 in
theorem t_X4_greatestDistance_13_1 (l : Launch) (D : va_G) (ad : Nat → Nat) (cy : Nat → ClassId) {h : Hp}  {o : Int32 × Hp} (E : f_X4_greatestDistance_13_1 h = some o) : CtI l D cy (WC ad cy) yX4_greatestDistance cX4_greatestDistance 5 .int 3 65 [.ref (ad 13), .ref (ad 1)] h o.1 o.2 := by
  refine sI (own := RX4) rfl rfl (Nat.le_of_ble_eq_true rfl) (fun X O hret => ?_)
  show G l D X 5 (WC ad cy) 0 0 h 0 [(0, .ref (ad 13)), (1, .ref (ad 1))] []
  unfold f_X4_greatestDistance_13_1 at E
  refine g_aload_n (pc' := 1) O ⟨dX4_greatestDistance_0, rfl⟩ (q := 0) rfl rfl ?_
  refine gf_C_RX4_9_13 ad cy (pc' := 4) O ⟨dX4_greatestDistance_1, rfl⟩ ?_
  refine g_aload_n (pc' := 5) O ⟨dX4_greatestDistance_4, rfl⟩ (q := 1) rfl rfl ?_
  refine g_aload_n (pc' := 6) O ⟨dX4_greatestDistance_5, rfl⟩ (q := 1) rfl rfl ?_
  refine gf_C_RX4_63_1 ad cy (pc' := 9) O ⟨dX4_greatestDistance_6, rfl⟩ ?_
  obtain ⟨r_1, c_2, E⟩ := bd_of E
  refine g_Sv (pc' := 12) O ⟨dX4_greatestDistance_9, rfl⟩ (y := yX4_send) (As := [.ref (ad 14), .ref (ad 1), .int (h.1 1 1)]) (st := []) (t_X4_send_14_1 l D ad cy (h := h) c_2) kw_587 kw_28 kw_585 kw_586 hd_X4_send ⟨Nat.le_of_ble_eq_true rfl, Nat.le_of_ble_eq_true rfl⟩ ⟨Nat.le_of_ble_eq_true rfl, Nat.le_of_ble_eq_true rfl⟩ rfl (Nat.le_of_ble_eq_true rfl) ?_
  refine g_iconst (pc' := 13) O ⟨dX4_greatestDistance_12, rfl⟩ (v := (0 : Int32)) rfl ?_
  refine g_istore_n (pc' := 14) O ⟨dX4_greatestDistance_13, rfl⟩ (lv' := [(2, .int (0 : Int32)), (0, .ref (ad 13)), (1, .ref (ad 1))]) rfl (by decide) rfl ?_
  refine g_iconst (pc' := 15) O ⟨dX4_greatestDistance_14, rfl⟩ (v := (0 : Int32)) rfl ?_
  refine g_istore_n (pc' := 16) O ⟨dX4_greatestDistance_15, rfl⟩ (lv' := [(3, .int (0 : Int32)), (2, .int (0 : Int32)), (0, .ref (ad 13)), (1, .ref (ad 1))]) rfl (by decide) rfl ?_
  refine jn1_of (P := fun (x2_3 : Int32) => G l D X 5 (WC ad cy) 0 0 r_1 57 [(2, .int x2_3)] []) E ?_ ?_
  · intro x2_3 E
    show G l D X 5 (WC ad cy) 0 0 r_1 57 [(2, .int x2_3)] []
    refine g_iload_n (pc' := 58) O ⟨dX4_greatestDistance_57, rfl⟩ (q := 0) rfl rfl ?_
    cases E
    exact hret _ _ _ ⟨dX4_greatestDistance_58, rfl⟩ rfl
  · intro k57 hk57 E
    refine g_sub (lv' := [(0, .ref (ad 13)), (1, .ref (ad 1)), (2, .int (0 : Int32)), (3, .int (0 : Int32))]) [2, 3, 1, 0] rfl ?_
    refine fx2_of (P := fun (x2_4 : Int32) (x3_5 : Int32) => G l D X 5 (WC ad cy) 0 0 r_1 16 [(0, .ref (ad 13)), (1, .ref (ad 1)), (2, .int x2_4), (3, .int x3_5)] []) ?_ _ _ _ E
    intro self ih16 x2_4 x3_5 E
    show G l D X 5 (WC ad cy) 0 0 r_1 16 [(0, .ref (ad 13)), (1, .ref (ad 1)), (2, .int x2_4), (3, .int x3_5)] []
    unfold L_X4_greatestDistance_13_1_16 at E
    refine g_iload_n (pc' := 17) O ⟨dX4_greatestDistance_16, rfl⟩ (q := 3) rfl rfl ?_
    refine g_iconst (pc' := 18) O ⟨dX4_greatestDistance_17, rfl⟩ (v := (1 : Int32)) rfl ?_
    refine g_aload_n (pc' := 19) O ⟨dX4_greatestDistance_18, rfl⟩ (q := 1) rfl rfl ?_
    refine gf_C_RX4_34_1 ad cy (pc' := 22) O ⟨dX4_greatestDistance_19, rfl⟩ ?_
    refine g_ishl (pc' := 23) O ⟨dX4_greatestDistance_22, rfl⟩ ?_
    refine g_icmp_ge (pc' := 26) O ⟨dX4_greatestDistance_23, rfl⟩ E (tgt := 57) (by decide) (fun E => ?_) (fun E => ?_)
    · refine g_sub (lv' := [(2, .int x2_4)]) [2] rfl ?_
      exact hk57 _ E
    · refine g_aload_n (pc' := 27) O ⟨dX4_greatestDistance_26, rfl⟩ (q := 0) rfl rfl ?_
      refine g_iload_n (pc' := 28) O ⟨dX4_greatestDistance_27, rfl⟩ (q := 3) rfl rfl ?_
      refine g_aload_n (pc' := 29) O ⟨dX4_greatestDistance_28, rfl⟩ (q := 1) rfl rfl ?_
      refine gf_C_RX4_34_1 ad cy (pc' := 32) O ⟨dX4_greatestDistance_29, rfl⟩ ?_
      obtain ⟨r_6, c_7, E⟩ := bd_of E
      refine g_Vi (pc' := 35) O ⟨dX4_greatestDistance_32, rfl⟩ (y := yX4_rowOutOf) (As := [.int x3_5, .int (r_1.1 1 0)]) (st := []) (t_X4_rowOutOf_13 l D ad cy (h := r_1) c_7) kw_738 kw_28 kw_735 kw_737 kw_13 rfl (wC_13 ad cy r_1) hd_X4_rowOutOf ⟨Nat.le_of_ble_eq_true rfl, Nat.le_of_ble_eq_true rfl⟩ ⟨Nat.le_of_ble_eq_true rfl, Nat.le_of_ble_eq_true rfl⟩ rfl (Nat.le_of_ble_eq_true rfl) ?_
      refine g_istore (pc' := 37) O ⟨dX4_greatestDistance_35, rfl⟩ (lv' := [(4, .int r_6), (0, .ref (ad 13)), (1, .ref (ad 1)), (2, .int x2_4), (3, .int x3_5)]) (by decide) rfl ?_
      refine g_iload_n (pc' := 38) O ⟨dX4_greatestDistance_37, rfl⟩ (q := 3) rfl rfl ?_
      refine g_iload (pc' := 40) O ⟨dX4_greatestDistance_38, rfl⟩ (q := 0) rfl ?_
      refine g_aload_n (pc' := 41) O ⟨dX4_greatestDistance_40, rfl⟩ (q := 2) rfl rfl ?_
      refine gf_C_RX4_34_1 ad cy (pc' := 44) O ⟨dX4_greatestDistance_41, rfl⟩ ?_
      obtain ⟨r_8, c_9, E⟩ := bd_of E
      refine g_Si (pc' := 47) O ⟨dX4_greatestDistance_44, rfl⟩ (y := yX4_distanceIn) (As := [.int r_6, .int (r_1.1 1 0)]) (st := [.int x2_4]) (t_X4_distanceIn l D ad cy (h := r_1) c_9) kw_786 kw_28 kw_784 kw_785 hd_X4_distanceIn ⟨Nat.le_of_ble_eq_true rfl, Nat.le_of_ble_eq_true rfl⟩ ⟨Nat.le_of_ble_eq_true rfl, Nat.le_of_ble_eq_true rfl⟩ rfl (Nat.le_of_ble_eq_true rfl) ?_
      refine g_mmax (pc' := 50) O ⟨dX4_greatestDistance_47, rfl⟩ kw_576 kw_42 kw_793 kw_575 ⟨by simp only [RM]; omega, Nat.le_of_ble_eq_true rfl⟩ ⟨Nat.le_refl _, Nat.le_refl _⟩ ?_
      refine g_nm E (fun y2_10 E => ?_)
      refine g_istore_n (pc' := 51) O ⟨dX4_greatestDistance_50, rfl⟩ (lv' := [(2, .int y2_10), (4, .int r_6), (0, .ref (ad 13)), (1, .ref (ad 1)), (3, .int x3_5)]) rfl (by decide) rfl ?_
      refine g_iinc (pc' := 54) O ⟨dX4_greatestDistance_51, rfl⟩ (q := 4) (v := x3_5 + (1 : Int32)) (lv' := [(3, .int (x3_5 + (1 : Int32))), (2, .int y2_10), (4, .int r_6), (0, .ref (ad 13)), (1, .ref (ad 1))]) rfl rfl (by decide) rfl ?_
      refine g_goto (pc' := 57) O ⟨dX4_greatestDistance_54, rfl⟩ (tgt := 16) (by decide) ?_
      refine g_sub (lv' := [(0, .ref (ad 13)), (1, .ref (ad 1)), (2, .int y2_10), (3, .int (x3_5 + (1 : Int32)))]) [3, 4, 1, 0] rfl ?_
      exact ih16 _ _ E
set_option maxRecDepth 100000 in
set_option maxHeartbeats 4000000 in
theorem t_X10_off (l : Launch) (D : va_G) (ad : Nat → Nat) (cy : Nat → ClassId) {h : Hp}  {o : Int32 × Hp} (E : f_X10_off h = some o) : CtI l D cy (WC ad cy) yX10_off cX10_off 1 .int 4 89 [.ref (ad 0)] h o.1 o.2 := by
  refine sI (own := RX10) rfl rfl (Nat.le_of_ble_eq_true rfl) (fun X O hret => ?_)
  show G l D X 1 (WC ad cy) 0 0 h 0 [(0, .ref (ad 0))] []
  unfold f_X10_off at E
  refine g_aload_n (pc' := 1) O ⟨dX10_off_0, rfl⟩ (q := 0) rfl rfl ?_
  refine gf_C_RX10_29_0 ad cy (pc' := 4) O ⟨dX10_off_1, rfl⟩ ?_
  refine g_aload_n (pc' := 5) O ⟨dX10_off_4, rfl⟩ (q := 0) rfl rfl ?_
  refine gf_C_RX10_10_0 ad cy (pc' := 8) O ⟨dX10_off_5, rfl⟩ ?_
  obtain ⟨r_1, c_2, E⟩ := bd_of E
  refine g_Vi (pc' := 11) O ⟨dX10_off_8, rfl⟩ (y := yX4_greatestDistance) (As := [.ref (ad 1)]) (st := []) (t_X4_greatestDistance_13_1 l D ad cy (h := h) c_2) kw_783 kw_28 kw_780 kw_781 kw_782 rfl (wC_13 ad cy h) hd_X4_greatestDistance ⟨Nat.le_of_ble_eq_true rfl, Nat.le_of_ble_eq_true rfl⟩ ⟨Nat.le_of_ble_eq_true rfl, Nat.le_of_ble_eq_true rfl⟩ rfl (Nat.le_of_ble_eq_true rfl) ?_
  cases E
  exact hret _ _ _ ⟨dX10_off_11, rfl⟩ rfl
set_option maxRecDepth 100000 in
set_option maxHeartbeats 4000000 in
theorem t_X5_inOrder (l : Launch) (D : va_G) (ad : Nat → Nat) (cy : Nat → ClassId) {h : Hp} {x0 : Int32} {o : Int32} (E : f_X5_inOrder x0 = some o) : CtI l D cy (WC ad cy) yX5_inOrder cX5_inOrder 3 .int 0 0 [.int x0] h o h := by
  refine sI (own := RX5) rfl rfl (Nat.le_of_ble_eq_true rfl) (fun X O hret => ?_)
  show G l D X 3 (WC ad cy) 0 0 h 0 [(0, .int x0)] []
  unfold f_X5_inOrder at E
  refine g_iconst (pc' := 1) O ⟨dX5_inOrder_0, rfl⟩ (v := (0 : Int32)) rfl ?_
  refine g_istore_n (pc' := 2) O ⟨dX5_inOrder_1, rfl⟩ (lv' := [(1, .int (0 : Int32)), (0, .int x0)]) rfl (by decide) rfl ?_
  refine g_iconst (pc' := 3) O ⟨dX5_inOrder_2, rfl⟩ (v := (0 : Int32)) rfl ?_
  refine g_istore_n (pc' := 4) O ⟨dX5_inOrder_3, rfl⟩ (lv' := [(2, .int (0 : Int32)), (1, .int (0 : Int32)), (0, .int x0)]) rfl (by decide) rfl ?_
  refine jn1_of (P := fun (x1_1 : Int32) => G l D X 3 (WC ad cy) 0 0 h 23 [(1, .int x1_1)] []) E ?_ ?_
  · intro x1_1 E
    show G l D X 3 (WC ad cy) 0 0 h 23 [(1, .int x1_1)] []
    refine g_iload_n (pc' := 24) O ⟨dX5_inOrder_23, rfl⟩ (q := 0) rfl rfl ?_
    cases E
    exact hret _ _ _ ⟨dX5_inOrder_24, rfl⟩ rfl
  · intro k23 hk23 E
    refine g_sub (lv' := [(0, .int x0), (1, .int (0 : Int32)), (2, .int (0 : Int32))]) [2, 1, 0] rfl ?_
    refine fx2_of (P := fun (x1_2 : Int32) (x2_3 : Int32) => G l D X 3 (WC ad cy) 0 0 h 4 [(0, .int x0), (1, .int x1_2), (2, .int x2_3)] []) ?_ _ _ _ E
    intro self ih4 x1_2 x2_3 E
    show G l D X 3 (WC ad cy) 0 0 h 4 [(0, .int x0), (1, .int x1_2), (2, .int x2_3)] []
    unfold L_X5_inOrder_4 at E
    refine g_iload_n (pc' := 5) O ⟨dX5_inOrder_4, rfl⟩ (q := 2) rfl rfl ?_
    refine g_iload_n (pc' := 6) O ⟨dX5_inOrder_5, rfl⟩ (q := 0) rfl rfl ?_
    refine g_icmp_ge (pc' := 9) O ⟨dX5_inOrder_6, rfl⟩ E (tgt := 23) (by decide) (fun E => ?_) (fun E => ?_)
    · refine g_sub (lv' := [(1, .int x1_2)]) [1] rfl ?_
      exact hk23 _ E
    · refine g_iload_n (pc' := 10) O ⟨dX5_inOrder_9, rfl⟩ (q := 1) rfl rfl ?_
      refine g_iload_n (pc' := 11) O ⟨dX5_inOrder_10, rfl⟩ (q := 2) rfl rfl ?_
      refine g_iconst (pc' := 12) O ⟨dX5_inOrder_11, rfl⟩ (v := (4 : Int32)) rfl ?_
      refine g_iload_n (pc' := 13) O ⟨dX5_inOrder_12, rfl⟩ (q := 2) rfl rfl ?_
      refine g_imul (pc' := 14) O ⟨dX5_inOrder_13, rfl⟩ ?_
      refine g_ishl (pc' := 15) O ⟨dX5_inOrder_14, rfl⟩ ?_
      refine g_ior (pc' := 16) O ⟨dX5_inOrder_15, rfl⟩ ?_
      refine g_nm E (fun y1_4 E => ?_)
      refine g_istore_n (pc' := 17) O ⟨dX5_inOrder_16, rfl⟩ (lv' := [(1, .int y1_4), (0, .int x0), (2, .int x2_3)]) rfl (by decide) rfl ?_
      refine g_iinc (pc' := 20) O ⟨dX5_inOrder_17, rfl⟩ (q := 2) (v := x2_3 + (1 : Int32)) (lv' := [(2, .int (x2_3 + (1 : Int32))), (1, .int y1_4), (0, .int x0)]) rfl rfl (by decide) rfl ?_
      refine g_goto (pc' := 23) O ⟨dX5_inOrder_20, rfl⟩ (tgt := 4) (by decide) ?_
      refine g_sub (lv' := [(0, .int x0), (1, .int y1_4), (2, .int (x2_3 + (1 : Int32)))]) [2, 1, 0] rfl ?_
      exact ih4 _ _ E
set_option maxRecDepth 100000 in
set_option maxHeartbeats 4000000 in
theorem t_X5_rank (l : Launch) (D : va_G) (ad : Nat → Nat) (cy : Nat → ClassId) {h : Hp} {x0 : Int32} {x1 : Int32} {o : Int32} (E : f_X5_rank x0 x1 = some o) : CtI l D cy (WC ad cy) yX5_rank cX5_rank 6 .int 1 21 [.int x0, .int x1] h o h := by
  refine sI (own := RX5) rfl rfl (Nat.le_of_ble_eq_true rfl) (fun X O hret => ?_)
  show G l D X 6 (WC ad cy) 0 0 h 0 [(0, .int x0), (1, .int x1)] []
  unfold f_X5_rank at E
  refine g_iconst (pc' := 1) O ⟨dX5_rank_0, rfl⟩ (v := (0 : Int32)) rfl ?_
  refine g_istore_n (pc' := 2) O ⟨dX5_rank_1, rfl⟩ (lv' := [(2, .int (0 : Int32)), (0, .int x0), (1, .int x1)]) rfl (by decide) rfl ?_
  refine g_iconst (pc' := 3) O ⟨dX5_rank_2, rfl⟩ (v := (0 : Int32)) rfl ?_
  refine g_istore_n (pc' := 4) O ⟨dX5_rank_3, rfl⟩ (lv' := [(3, .int (0 : Int32)), (2, .int (0 : Int32)), (0, .int x0), (1, .int x1)]) rfl (by decide) rfl ?_
  refine g_iconst (pc' := 5) O ⟨dX5_rank_4, rfl⟩ (v := (0 : Int32)) rfl ?_
  refine g_istore (pc' := 7) O ⟨dX5_rank_5, rfl⟩ (lv' := [(4, .int (0 : Int32)), (3, .int (0 : Int32)), (2, .int (0 : Int32)), (0, .int x0), (1, .int x1)]) (by decide) rfl ?_
  refine jn1_of (P := fun (x2_1 : Int32) => G l D X 6 (WC ad cy) 0 0 h 53 [(2, .int x2_1)] []) E ?_ ?_
  · intro x2_1 E
    show G l D X 6 (WC ad cy) 0 0 h 53 [(2, .int x2_1)] []
    refine g_iload_n (pc' := 54) O ⟨dX5_rank_53, rfl⟩ (q := 0) rfl rfl ?_
    cases E
    exact hret _ _ _ ⟨dX5_rank_54, rfl⟩ rfl
  · intro k53 hk53 E
    refine g_sub (lv' := [(0, .int x0), (1, .int x1), (2, .int (0 : Int32)), (3, .int (0 : Int32)), (4, .int (0 : Int32))]) [3, 4, 2, 1, 0] rfl ?_
    refine fx3_of (P := fun (x2_2 : Int32) (x3_3 : Int32) (x4_4 : Int32) => G l D X 6 (WC ad cy) 0 0 h 7 [(0, .int x0), (1, .int x1), (2, .int x2_2), (3, .int x3_3), (4, .int x4_4)] []) ?_ _ _ _ _ E
    intro self ih7 x2_2 x3_3 x4_4 E
    show G l D X 6 (WC ad cy) 0 0 h 7 [(0, .int x0), (1, .int x1), (2, .int x2_2), (3, .int x3_3), (4, .int x4_4)] []
    unfold L_X5_rank_7 at E
    refine g_iload (pc' := 9) O ⟨dX5_rank_7, rfl⟩ (q := 4) rfl ?_
    refine g_iload_n (pc' := 10) O ⟨dX5_rank_9, rfl⟩ (q := 1) rfl rfl ?_
    refine g_icmp_ge (pc' := 13) O ⟨dX5_rank_10, rfl⟩ E (tgt := 53) (by decide) (fun E => ?_) (fun E => ?_)
    · refine g_sub (lv' := [(2, .int x2_2)]) [2] rfl ?_
      exact hk53 _ E
    · refine g_iconst (pc' := 14) O ⟨dX5_rank_13, rfl⟩ (v := (1 : Int32)) rfl ?_
      refine g_iload_n (pc' := 15) O ⟨dX5_rank_14, rfl⟩ (q := 0) rfl rfl ?_
      refine g_iload (pc' := 17) O ⟨dX5_rank_15, rfl⟩ (q := 4) rfl ?_
      obtain ⟨r_5, c_6, E⟩ := bd_of E
      refine g_Si (pc' := 20) O ⟨dX5_rank_17, rfl⟩ (y := yX5_valueOn) (As := [.int x0, .int x4_4]) (st := [.int (1 : Int32)]) (t_X5_valueOn l D ad cy (h := h) c_6) kw_537 kw_41 kw_541 kw_536 hd_X5_valueOn ⟨Nat.le_of_ble_eq_true rfl, Nat.le_of_ble_eq_true rfl⟩ ⟨Nat.le_of_ble_eq_true rfl, Nat.le_of_ble_eq_true rfl⟩ rfl (Nat.le_of_ble_eq_true rfl) ?_
      refine g_ishl (pc' := 21) O ⟨dX5_rank_20, rfl⟩ ?_
      refine g_nm E (fun y5_7 E => ?_)
      refine g_istore (pc' := 23) O ⟨dX5_rank_21, rfl⟩ (lv' := [(5, .int y5_7), (0, .int x0), (1, .int x1), (2, .int x2_2), (3, .int x3_3), (4, .int x4_4)]) (by decide) rfl ?_
      refine g_iload_n (pc' := 24) O ⟨dX5_rank_23, rfl⟩ (q := 3) rfl rfl ?_
      refine g_iload_n (pc' := 25) O ⟨dX5_rank_24, rfl⟩ (q := 4) rfl rfl ?_
      refine g_iload (pc' := 27) O ⟨dX5_rank_25, rfl⟩ (q := 0) rfl ?_
      refine g_iconst (pc' := 28) O ⟨dX5_rank_27, rfl⟩ (v := (1 : Int32)) rfl ?_
      refine g_isub (pc' := 29) O ⟨dX5_rank_28, rfl⟩ ?_
      refine g_iand (pc' := 30) O ⟨dX5_rank_29, rfl⟩ ?_
      obtain ⟨r_8, c_9, E⟩ := bd_of E
      refine g_Si (pc' := 33) O ⟨dX5_rank_30, rfl⟩ (y := yJ6_bitCount_0f7a4) (As := [.int (x3_3 &&& (y5_7 - (1 : Int32)))]) (st := [.int x2_2]) (t_J6_bitCount l D ad cy (h := h) c_9) kw_789 kw_44 kw_926 kw_788 hd_J6_bitCount_0f7a4 ⟨Nat.le_of_ble_eq_true rfl, Nat.le_of_ble_eq_true rfl⟩ ⟨Nat.le_of_ble_eq_true rfl, Nat.le_of_ble_eq_true rfl⟩ rfl (Nat.le_of_ble_eq_true rfl) ?_
      refine g_gsFAC (pc' := 36) O ⟨dX5_rank_33, rfl⟩ kw_927 (fun t_10 ht_10 => ?_)
      refine g_iload (pc' := 38) O ⟨dX5_rank_36, rfl⟩ (q := 5) rfl ?_
      refine g_sti (pc' := 39) O ⟨dX5_rank_38, rfl⟩ ht_10 E (fun E => ?_)
      refine g_imul (pc' := 40) O ⟨dX5_rank_39, rfl⟩ ?_
      refine g_iadd (pc' := 41) O ⟨dX5_rank_40, rfl⟩ ?_
      refine g_nm E (fun y2_11 E => ?_)
      refine g_istore_n (pc' := 42) O ⟨dX5_rank_41, rfl⟩ (lv' := [(2, .int y2_11), (5, .int y5_7), (0, .int x0), (1, .int x1), (3, .int x3_3), (4, .int x4_4)]) rfl (by decide) rfl ?_
      refine g_iload_n (pc' := 43) O ⟨dX5_rank_42, rfl⟩ (q := 4) rfl rfl ?_
      refine g_iload (pc' := 45) O ⟨dX5_rank_43, rfl⟩ (q := 1) rfl ?_
      refine g_ior (pc' := 46) O ⟨dX5_rank_45, rfl⟩ ?_
      refine g_nm E (fun y3_12 E => ?_)
      refine g_istore_n (pc' := 47) O ⟨dX5_rank_46, rfl⟩ (lv' := [(3, .int y3_12), (2, .int y2_11), (5, .int y5_7), (0, .int x0), (1, .int x1), (4, .int x4_4)]) rfl (by decide) rfl ?_
      refine g_iinc (pc' := 50) O ⟨dX5_rank_47, rfl⟩ (q := 5) (v := x4_4 + (1 : Int32)) (lv' := [(4, .int (x4_4 + (1 : Int32))), (3, .int y3_12), (2, .int y2_11), (5, .int y5_7), (0, .int x0), (1, .int x1)]) rfl rfl (by decide) rfl ?_
      refine g_goto (pc' := 53) O ⟨dX5_rank_50, rfl⟩ (tgt := 7) (by decide) ?_
      refine g_sub (lv' := [(0, .int x0), (1, .int x1), (2, .int y2_11), (3, .int y3_12), (4, .int (x4_4 + (1 : Int32)))]) [4, 5, 2, 1, 0] rfl ?_
      exact ih7 _ _ _ E
set_option maxRecDepth 100000 in
set_option maxHeartbeats 4000000 in
theorem t_X7_reach_20 (l : Launch) (D : va_G) (ad : Nat → Nat) (cy : Nat → ClassId) {h : Hp} {x1 : Int32} {x2 : Int32} {x3 : Int32} {o : Hp} (E : f_X7_reach_20 h x1 x2 x3 = some o) : CtV l D cy (WC ad cy) yX7_reach cX7_reach 5 2 46 [.ref (ad 20), .int x1, .int x2, .int x3] h o := by
  refine sV (own := RX7) rfl rfl (Nat.le_of_ble_eq_true rfl) (fun X O hret => ?_)
  show G l D X 5 (WC ad cy) 0 0 h 0 [(0, .ref (ad 20)), (1, .int x1), (2, .int x2), (3, .int x3)] []
  unfold f_X7_reach_20 at E
  refine g_iload_n (pc' := 1) O ⟨dX7_reach_0, rfl⟩ (q := 1) rfl rfl ?_
  refine g_iload_n (pc' := 2) O ⟨dX7_reach_1, rfl⟩ (q := 2) rfl rfl ?_
  obtain ⟨r_1, c_2, E⟩ := bd_of E
  refine g_Si (pc' := 5) O ⟨dX7_reach_2, rfl⟩ (y := yX5_rank) (As := [.int x1, .int x2]) (st := []) (t_X5_rank l D ad cy (h := h) c_2) kw_925 kw_41 kw_1000 kw_924 hd_X5_rank ⟨Nat.le_of_ble_eq_true rfl, Nat.le_of_ble_eq_true rfl⟩ ⟨Nat.le_of_ble_eq_true rfl, Nat.le_of_ble_eq_true rfl⟩ rfl (Nat.le_of_ble_eq_true rfl) ?_
  refine g_istore (pc' := 7) O ⟨dX7_reach_5, rfl⟩ (lv' := [(4, .int r_1), (0, .ref (ad 20)), (1, .int x1), (2, .int x2), (3, .int x3)]) (by decide) rfl ?_
  refine g_aload_n (pc' := 8) O ⟨dX7_reach_7, rfl⟩ (q := 1) rfl rfl ?_
  refine gf_C_RX7_15_20 ad cy (pc' := 11) O ⟨dX7_reach_8, rfl⟩ ?_
  refine g_iload (pc' := 13) O ⟨dX7_reach_11, rfl⟩ (q := 0) rfl ?_
  refine g_bald (pc' := 14) O ⟨dX7_reach_13, rfl⟩ (wC_22 ad cy h) E (fun E => ?_)
  refine g_if_ne (pc' := 17) O ⟨dX7_reach_14, rfl⟩ E (tgt := 58) (by decide) (fun E => ?_) (fun E => ?_)
  · cases E
    exact hret _ _ _ ⟨dX7_reach_58, rfl⟩
  · refine g_aload_n (pc' := 18) O ⟨dX7_reach_17, rfl⟩ (q := 1) rfl rfl ?_
    refine gf_C_RX7_19_20 ad cy (pc' := 21) O ⟨dX7_reach_18, rfl⟩ ?_
    refine g_aload_n (pc' := 22) O ⟨dX7_reach_21, rfl⟩ (q := 1) rfl rfl ?_
    refine gf_C_RX7_9_20 ad cy (pc' := 25) O ⟨dX7_reach_22, rfl⟩ ?_
    refine g_alen (pc' := 26) O ⟨dX7_reach_25, rfl⟩ (wC_21 ad cy h) (t0 := 0) rfl (v := (720 : Int32)) rfl ?_
    refine g_icmp_ge (pc' := 29) O ⟨dX7_reach_26, rfl⟩ E (tgt := 58) (by decide) (fun E => ?_) (fun E => ?_)
    · cases E
      exact hret _ _ _ ⟨dX7_reach_58, rfl⟩
    · refine g_aload_n (pc' := 30) O ⟨dX7_reach_29, rfl⟩ (q := 1) rfl rfl ?_
      refine gf_C_RX7_15_20 ad cy (pc' := 33) O ⟨dX7_reach_30, rfl⟩ ?_
      refine g_iload (pc' := 35) O ⟨dX7_reach_33, rfl⟩ (q := 0) rfl ?_
      refine g_iload_n (pc' := 36) O ⟨dX7_reach_35, rfl⟩ (q := 4) rfl rfl ?_
      refine g_i2b (pc' := 37) O ⟨dX7_reach_36, rfl⟩ ?_
      refine g_bast (pc' := 38) O ⟨dX7_reach_37, rfl⟩ (wC_22 ad cy h) (vC_22 ad cy h _) E (fun E => ?_)
      refine g_nmh E (fun h_3 E => ?_)
      refine g_aload_n (pc' := 39) O ⟨dX7_reach_38, rfl⟩ (q := 1) rfl rfl ?_
      refine gf_C_RX7_9_20 ad cy (pc' := 42) O ⟨dX7_reach_39, rfl⟩ ?_
      refine g_aload_n (pc' := 43) O ⟨dX7_reach_42, rfl⟩ (q := 1) rfl rfl ?_
      refine gf_C_RX7_19_20 ad cy (pc' := 46) O ⟨dX7_reach_43, rfl⟩ ?_
      refine g_iload_n (pc' := 47) O ⟨dX7_reach_46, rfl⟩ (q := 2) rfl rfl ?_
      refine g_iast (pc' := 48) O ⟨dX7_reach_47, rfl⟩ (wC_21 ad cy h_3) (vC_21 ad cy h_3 _) E (fun E => ?_)
      refine g_nmh E (fun h_4 E => ?_)
      refine g_aload_n (pc' := 49) O ⟨dX7_reach_48, rfl⟩ (q := 1) rfl rfl ?_
      refine g_dup (pc' := 50) O ⟨dX7_reach_49, rfl⟩ rfl ?_
      refine gf_C_RX7_19_20 ad cy (pc' := 53) O ⟨dX7_reach_50, rfl⟩ ?_
      refine g_iconst (pc' := 54) O ⟨dX7_reach_53, rfl⟩ (v := (1 : Int32)) rfl ?_
      refine g_iadd (pc' := 55) O ⟨dX7_reach_54, rfl⟩ ?_
      refine gp_C_RX7_19_20 ad cy (pc' := 58) O ⟨dX7_reach_55, rfl⟩ ?_
      refine g_nmh E (fun h_5 E => ?_)
      cases E
      exact hret _ _ _ ⟨dX7_reach_58, rfl⟩
set_option maxRecDepth 100000 in
set_option maxHeartbeats 4000000 in
theorem t_X5_howMany (l : Launch) (D : va_G) (ad : Nat → Nat) (cy : Nat → ClassId) {h : Hp} {x0 : Int32} {o : Int32} (E : f_X5_howMany x0 = some o) : CtI l D cy (WC ad cy) yX5_howMany cX5_howMany 1 .int 0 0 [.int x0] h o h := by
  refine sI (own := RX5) rfl rfl (Nat.le_of_ble_eq_true rfl) (fun X O hret => ?_)
  show G l D X 1 (WC ad cy) 0 0 h 0 [(0, .int x0)] []
  unfold f_X5_howMany at E
  refine g_gsFAC (pc' := 3) O ⟨dX5_howMany_0, rfl⟩ kw_927 (fun t_1 ht_1 => ?_)
  refine g_iload_n (pc' := 4) O ⟨dX5_howMany_3, rfl⟩ (q := 0) rfl rfl ?_
  refine g_sti (pc' := 5) O ⟨dX5_howMany_4, rfl⟩ ht_1 E (fun E => ?_)
  cases E
  exact hret _ _ _ ⟨dX5_howMany_5, rfl⟩ rfl
set_option maxRecDepth 100000 in
set_option maxHeartbeats 4000000 in
theorem t_X7_learn_20_1 (l : Launch) (D : va_G) (ad : Nat → Nat) (cy : Nat → ClassId) {h : Hp}  {o : Hp} (E : f_X7_learn_20_1 h = some o) : CtV l D cy (WC ad cy) yX7_learn cX7_learn 7 3 70 [.ref (ad 20), .ref (ad 1)] h o := by
  refine sV (own := RX7) rfl rfl (Nat.le_of_ble_eq_true rfl) (fun X O hret => ?_)
  show G l D X 7 (WC ad cy) 0 0 h 0 [(0, .ref (ad 20)), (1, .ref (ad 1))] []
  unfold f_X7_learn_20_1 at E
  refine g_aload_n (pc' := 1) O ⟨dX7_learn_0, rfl⟩ (q := 0) rfl rfl ?_
  refine gf_C_RX7_19_20 ad cy (pc' := 4) O ⟨dX7_learn_1, rfl⟩ ?_
  refine g_if_le (pc' := 7) O ⟨dX7_learn_4, rfl⟩ E (tgt := 8) (by decide) (fun E => ?_) (fun E => ?_)
  · refine g_aload_n (pc' := 9) O ⟨dX7_learn_8, rfl⟩ (q := 1) rfl rfl ?_
    refine gf_C_RX7_27_1 ad cy (pc' := 12) O ⟨dX7_learn_9, rfl⟩ ?_
    refine g_istore_n (pc' := 13) O ⟨dX7_learn_12, rfl⟩ (lv' := [(2, .int (h.1 1 0)), (0, .ref (ad 20)), (1, .ref (ad 1))]) rfl (by decide) rfl ?_
    refine g_iconst (pc' := 14) O ⟨dX7_learn_13, rfl⟩ (v := (0 : Int32)) rfl ?_
    refine g_istore_n (pc' := 15) O ⟨dX7_learn_14, rfl⟩ (lv' := [(3, .int (0 : Int32)), (2, .int (h.1 1 0)), (0, .ref (ad 20)), (1, .ref (ad 1))]) rfl (by decide) rfl ?_
    refine jn1_of (P := fun (h_1 : Hp) => G l D X 7 (WC ad cy) 0 0 h_1 35 [(0, .ref (ad 20)), (1, .ref (ad 1)), (2, .int (h.1 1 0))] []) E ?_ ?_
    · intro h_1 E
      show G l D X 7 (WC ad cy) 0 0 h_1 35 [(0, .ref (ad 20)), (1, .ref (ad 1)), (2, .int (h.1 1 0))] []
      refine g_aload_n (pc' := 36) O ⟨dX7_learn_35, rfl⟩ (q := 0) rfl rfl ?_
      refine g_iload_n (pc' := 37) O ⟨dX7_learn_36, rfl⟩ (q := 2) rfl rfl ?_
      obtain ⟨r_2, c_3, E⟩ := bd_of E
      refine g_Si (pc' := 40) O ⟨dX7_learn_37, rfl⟩ (y := yX5_inOrder) (As := [.int (h.1 1 0)]) (st := [.ref (ad 20)]) (t_X5_inOrder l D ad cy (h := h_1) c_3) kw_917 kw_41 kw_995 kw_916 hd_X5_inOrder ⟨Nat.le_of_ble_eq_true rfl, Nat.le_of_ble_eq_true rfl⟩ ⟨Nat.le_of_ble_eq_true rfl, Nat.le_of_ble_eq_true rfl⟩ rfl (Nat.le_of_ble_eq_true rfl) ?_
      refine g_iload_n (pc' := 41) O ⟨dX7_learn_40, rfl⟩ (q := 2) rfl rfl ?_
      refine g_iconst (pc' := 42) O ⟨dX7_learn_41, rfl⟩ (v := (1 : Int32)) rfl ?_
      obtain ⟨r_4, c_5, E⟩ := bd_of E
      refine g_Vv (pc' := 45) O ⟨dX7_learn_42, rfl⟩ (y := yX7_reach) (As := [.int r_2, .int (h.1 1 0), .int (1 : Int32)]) (st := []) (t_X7_reach_20 l D ad cy (h := h_1) c_5) kw_999 kw_31 kw_996 kw_998 kw_22 rfl (wC_20 ad cy h_1) hd_X7_reach ⟨Nat.le_of_ble_eq_true rfl, Nat.le_of_ble_eq_true rfl⟩ ⟨Nat.le_of_ble_eq_true rfl, Nat.le_of_ble_eq_true rfl⟩ rfl (Nat.le_of_ble_eq_true rfl) ?_
      refine g_iconst (pc' := 46) O ⟨dX7_learn_45, rfl⟩ (v := (0 : Int32)) rfl ?_
      refine g_istore_n (pc' := 47) O ⟨dX7_learn_46, rfl⟩ (lv' := [(3, .int (0 : Int32)), (0, .ref (ad 20)), (1, .ref (ad 1)), (2, .int (h.1 1 0))]) rfl (by decide) rfl ?_
      refine jn1_of (P := fun (h_6 : Hp) => G l D X 7 (WC ad cy) 0 0 h_6 128 [] []) E ?_ ?_
      · intro h_6 E
        show G l D X 7 (WC ad cy) 0 0 h_6 128 [] []
        cases E
        exact hret _ _ _ ⟨dX7_learn_128, rfl⟩
      · intro k128 hk128 E
        refine g_sub (lv' := [(0, .ref (ad 20)), (1, .ref (ad 1)), (2, .int (h.1 1 0)), (3, .int (0 : Int32))]) [1, 2, 3, 0] rfl ?_
        refine fx2_of (P := fun (x3_7 : Int32) (h_8 : Hp) => G l D X 7 (WC ad cy) 0 0 h_8 47 [(0, .ref (ad 20)), (1, .ref (ad 1)), (2, .int (h.1 1 0)), (3, .int x3_7)] []) ?_ _ _ _ E
        intro self ih47 x3_7 h_8 E
        show G l D X 7 (WC ad cy) 0 0 h_8 47 [(0, .ref (ad 20)), (1, .ref (ad 1)), (2, .int (h.1 1 0)), (3, .int x3_7)] []
        unfold L_X7_learn_20_1_47 at E
        refine g_iload_n (pc' := 48) O ⟨dX7_learn_47, rfl⟩ (q := 3) rfl rfl ?_
        refine g_aload_n (pc' := 49) O ⟨dX7_learn_48, rfl⟩ (q := 1) rfl rfl ?_
        refine gf_C_RX7_38_1 ad cy (pc' := 52) O ⟨dX7_learn_49, rfl⟩ ?_
        refine g_icmp_ge (pc' := 55) O ⟨dX7_learn_52, rfl⟩ E (tgt := 128) (by decide) (fun E => ?_) (fun E => ?_)
        · refine g_sub (lv' := []) [] rfl ?_
          exact hk128 _ E
        · refine g_aload_n (pc' := 56) O ⟨dX7_learn_55, rfl⟩ (q := 0) rfl rfl ?_
          refine gf_C_RX7_19_20 ad cy (pc' := 59) O ⟨dX7_learn_56, rfl⟩ ?_
          refine g_iload_n (pc' := 60) O ⟨dX7_learn_59, rfl⟩ (q := 2) rfl rfl ?_
          obtain ⟨r_9, c_10, E⟩ := bd_of E
          refine g_Si (pc' := 63) O ⟨dX7_learn_60, rfl⟩ (y := yX5_howMany) (As := [.int (h.1 1 0)]) (st := [.int (h_8.1 20 2)]) (t_X5_howMany l D ad cy (h := h_8) c_10) kw_955 kw_41 kw_1001 kw_954 hd_X5_howMany ⟨Nat.le_of_ble_eq_true rfl, Nat.le_of_ble_eq_true rfl⟩ ⟨Nat.le_of_ble_eq_true rfl, Nat.le_of_ble_eq_true rfl⟩ rfl (Nat.le_of_ble_eq_true rfl) ?_
          refine g_icmp_ge (pc' := 66) O ⟨dX7_learn_63, rfl⟩ E (tgt := 128) (by decide) (fun E => ?_) (fun E => ?_)
          · refine g_sub (lv' := []) [] rfl ?_
            exact hk128 _ E
          · refine g_aload_n (pc' := 67) O ⟨dX7_learn_66, rfl⟩ (q := 0) rfl rfl ?_
            refine gf_C_RX7_19_20 ad cy (pc' := 70) O ⟨dX7_learn_67, rfl⟩ ?_
            refine g_istore (pc' := 72) O ⟨dX7_learn_70, rfl⟩ (lv' := [(4, .int (h_8.1 20 2)), (0, .ref (ad 20)), (1, .ref (ad 1)), (2, .int (h.1 1 0)), (3, .int x3_7)]) (by decide) rfl ?_
            refine g_iconst (pc' := 73) O ⟨dX7_learn_72, rfl⟩ (v := (0 : Int32)) rfl ?_
            refine g_istore (pc' := 75) O ⟨dX7_learn_73, rfl⟩ (lv' := [(5, .int (0 : Int32)), (4, .int (h_8.1 20 2)), (0, .ref (ad 20)), (1, .ref (ad 1)), (2, .int (h.1 1 0)), (3, .int x3_7)]) (by decide) rfl ?_
            refine jn1_of (P := fun (h_11 : Hp) => G l D X 7 (WC ad cy) 0 0 h_11 122 [(0, .ref (ad 20)), (1, .ref (ad 1)), (2, .int (h.1 1 0)), (3, .int x3_7)] []) E ?_ ?_
            · intro h_11 E
              show G l D X 7 (WC ad cy) 0 0 h_11 122 [(0, .ref (ad 20)), (1, .ref (ad 1)), (2, .int (h.1 1 0)), (3, .int x3_7)] []
              refine g_iinc (pc' := 125) O ⟨dX7_learn_122, rfl⟩ (q := 3) (v := x3_7 + (1 : Int32)) (lv' := [(3, .int (x3_7 + (1 : Int32))), (0, .ref (ad 20)), (1, .ref (ad 1)), (2, .int (h.1 1 0))]) rfl rfl (by decide) rfl ?_
              refine g_goto (pc' := 128) O ⟨dX7_learn_125, rfl⟩ (tgt := 47) (by decide) ?_
              refine g_sub (lv' := [(0, .ref (ad 20)), (1, .ref (ad 1)), (2, .int (h.1 1 0)), (3, .int (x3_7 + (1 : Int32)))]) [1, 2, 3, 0] rfl ?_
              exact ih47 _ _ E
            · intro k122 hk122 E
              refine g_sub (lv' := [(0, .ref (ad 20)), (1, .ref (ad 1)), (2, .int (h.1 1 0)), (3, .int x3_7), (4, .int (h_8.1 20 2)), (5, .int (0 : Int32))]) [2, 3, 4, 5, 1, 0] rfl ?_
              refine fx2_of (P := fun (x5_12 : Int32) (h_13 : Hp) => G l D X 7 (WC ad cy) 0 0 h_13 75 [(0, .ref (ad 20)), (1, .ref (ad 1)), (2, .int (h.1 1 0)), (3, .int x3_7), (4, .int (h_8.1 20 2)), (5, .int x5_12)] []) ?_ _ _ _ E
              intro self ih75 x5_12 h_13 E
              show G l D X 7 (WC ad cy) 0 0 h_13 75 [(0, .ref (ad 20)), (1, .ref (ad 1)), (2, .int (h.1 1 0)), (3, .int x3_7), (4, .int (h_8.1 20 2)), (5, .int x5_12)] []
              unfold L_X7_learn_20_1_75 at E
              refine g_iload (pc' := 77) O ⟨dX7_learn_75, rfl⟩ (q := 5) rfl ?_
              refine g_iload (pc' := 79) O ⟨dX7_learn_77, rfl⟩ (q := 4) rfl ?_
              refine g_icmp_ge (pc' := 82) O ⟨dX7_learn_79, rfl⟩ E (tgt := 122) (by decide) (fun E => ?_) (fun E => ?_)
              · refine g_sub (lv' := [(0, .ref (ad 20)), (1, .ref (ad 1)), (2, .int (h.1 1 0)), (3, .int x3_7)]) [0, 1, 2, 3] rfl ?_
                exact hk122 _ E
              · refine g_aload_n (pc' := 83) O ⟨dX7_learn_82, rfl⟩ (q := 0) rfl rfl ?_
                refine gf_C_RX7_9_20 ad cy (pc' := 86) O ⟨dX7_learn_83, rfl⟩ ?_
                refine g_iload (pc' := 88) O ⟨dX7_learn_86, rfl⟩ (q := 5) rfl ?_
                refine g_iald (pc' := 89) O ⟨dX7_learn_88, rfl⟩ (wC_21 ad cy h_13) E (fun E => ?_)
                refine g_aload_n (pc' := 90) O ⟨dX7_learn_89, rfl⟩ (q := 1) rfl rfl ?_
                refine gf_C_RX7_39_1 ad cy (pc' := 93) O ⟨dX7_learn_90, rfl⟩ ?_
                refine g_iload_n (pc' := 94) O ⟨dX7_learn_93, rfl⟩ (q := 3) rfl rfl ?_
                refine g_iald (pc' := 95) O ⟨dX7_learn_94, rfl⟩ (wC_2 ad cy h_13) E (fun E => ?_)
                refine g_aload_n (pc' := 96) O ⟨dX7_learn_95, rfl⟩ (q := 1) rfl rfl ?_
                refine gf_C_RX7_42_1 ad cy (pc' := 99) O ⟨dX7_learn_96, rfl⟩ ?_
                refine g_iload_n (pc' := 100) O ⟨dX7_learn_99, rfl⟩ (q := 3) rfl rfl ?_
                refine g_iald (pc' := 101) O ⟨dX7_learn_100, rfl⟩ (wC_3 ad cy h_13) E (fun E => ?_)
                obtain ⟨r_14, c_15, E⟩ := bd_of E
                refine g_Si (pc' := 104) O ⟨dX7_learn_101, rfl⟩ (y := yX5_exchanged) (As := [.int (h_13.1 21 x5_12.toNatClampNeg), .int (h_13.1 2 x3_7.toNatClampNeg), .int (h_13.1 3 x3_7.toNatClampNeg)]) (st := []) (t_X5_exchanged l D ad cy (h := h_13) c_15) kw_540 kw_41 kw_1002 kw_539 hd_X5_exchanged ⟨Nat.le_of_ble_eq_true rfl, Nat.le_of_ble_eq_true rfl⟩ ⟨Nat.le_of_ble_eq_true rfl, Nat.le_of_ble_eq_true rfl⟩ rfl (Nat.le_of_ble_eq_true rfl) ?_
                refine g_istore (pc' := 106) O ⟨dX7_learn_104, rfl⟩ (lv' := [(6, .int r_14), (0, .ref (ad 20)), (1, .ref (ad 1)), (2, .int (h.1 1 0)), (3, .int x3_7), (4, .int (h_8.1 20 2)), (5, .int x5_12)]) (by decide) rfl ?_
                refine g_aload_n (pc' := 107) O ⟨dX7_learn_106, rfl⟩ (q := 1) rfl rfl ?_
                refine g_iload (pc' := 109) O ⟨dX7_learn_107, rfl⟩ (q := 0) rfl ?_
                refine g_iload_n (pc' := 110) O ⟨dX7_learn_109, rfl⟩ (q := 3) rfl rfl ?_
                refine g_iload_n (pc' := 111) O ⟨dX7_learn_110, rfl⟩ (q := 4) rfl rfl ?_
                refine g_iconst (pc' := 112) O ⟨dX7_learn_111, rfl⟩ (v := (2 : Int32)) rfl ?_
                refine g_iadd (pc' := 113) O ⟨dX7_learn_112, rfl⟩ ?_
                obtain ⟨r_16, c_17, E⟩ := bd_of E
                refine g_Vv (pc' := 116) O ⟨dX7_learn_113, rfl⟩ (y := yX7_reach) (As := [.int r_14, .int (h.1 1 0), .int (x3_7 + (2 : Int32))]) (st := []) (t_X7_reach_20 l D ad cy (h := h_13) c_17) kw_999 kw_31 kw_996 kw_998 kw_22 rfl (wC_20 ad cy h_13) hd_X7_reach ⟨Nat.le_of_ble_eq_true rfl, Nat.le_of_ble_eq_true rfl⟩ ⟨Nat.le_of_ble_eq_true rfl, Nat.le_of_ble_eq_true rfl⟩ rfl (Nat.le_of_ble_eq_true rfl) ?_
                refine g_iinc (pc' := 119) O ⟨dX7_learn_116, rfl⟩ (q := 6) (v := x5_12 + (1 : Int32)) (lv' := [(5, .int (x5_12 + (1 : Int32))), (6, .int r_14), (0, .ref (ad 20)), (1, .ref (ad 1)), (2, .int (h.1 1 0)), (3, .int x3_7), (4, .int (h_8.1 20 2))]) rfl rfl (by decide) rfl ?_
                refine g_goto (pc' := 122) O ⟨dX7_learn_119, rfl⟩ (tgt := 75) (by decide) ?_
                refine g_sub (lv' := [(0, .ref (ad 20)), (1, .ref (ad 1)), (2, .int (h.1 1 0)), (3, .int x3_7), (4, .int (h_8.1 20 2)), (5, .int (x5_12 + (1 : Int32)))]) [2, 3, 4, 5, 6, 0] rfl ?_
                exact ih75 _ _ E
    · intro k35 hk35 E
      refine g_sub (lv' := [(0, .ref (ad 20)), (1, .ref (ad 1)), (2, .int (h.1 1 0)), (3, .int (0 : Int32))]) [2, 3, 1, 0] rfl ?_
      refine fx2_of (P := fun (x3_18 : Int32) (h_19 : Hp) => G l D X 7 (WC ad cy) 0 0 h_19 15 [(0, .ref (ad 20)), (1, .ref (ad 1)), (2, .int (h.1 1 0)), (3, .int x3_18)] []) ?_ _ _ _ E
      intro self ih15 x3_18 h_19 E
      show G l D X 7 (WC ad cy) 0 0 h_19 15 [(0, .ref (ad 20)), (1, .ref (ad 1)), (2, .int (h.1 1 0)), (3, .int x3_18)] []
      unfold L_X7_learn_20_1_15 at E
      refine g_iload_n (pc' := 16) O ⟨dX7_learn_15, rfl⟩ (q := 3) rfl rfl ?_
      refine g_sipush (pc' := 19) O ⟨dX7_learn_16, rfl⟩ (v := (720 : Int32)) rfl ?_
      refine g_icmp_ge (pc' := 22) O ⟨dX7_learn_19, rfl⟩ E (tgt := 35) (by decide) (fun E => ?_) (fun E => ?_)
      · refine g_sub (lv' := [(0, .ref (ad 20)), (1, .ref (ad 1)), (2, .int (h.1 1 0))]) [0, 1, 2] rfl ?_
        exact hk35 _ E
      · refine g_aload_n (pc' := 23) O ⟨dX7_learn_22, rfl⟩ (q := 0) rfl rfl ?_
        refine gf_C_RX7_15_20 ad cy (pc' := 26) O ⟨dX7_learn_23, rfl⟩ ?_
        refine g_iload_n (pc' := 27) O ⟨dX7_learn_26, rfl⟩ (q := 3) rfl rfl ?_
        refine g_iconst (pc' := 28) O ⟨dX7_learn_27, rfl⟩ (v := (0 : Int32)) rfl ?_
        refine g_bast (pc' := 29) O ⟨dX7_learn_28, rfl⟩ (wC_22 ad cy h_19) (vC_22 ad cy h_19 _) E (fun E => ?_)
        refine g_nmh E (fun h_20 E => ?_)
        refine g_iinc (pc' := 32) O ⟨dX7_learn_29, rfl⟩ (q := 3) (v := x3_18 + (1 : Int32)) (lv' := [(3, .int (x3_18 + (1 : Int32))), (0, .ref (ad 20)), (1, .ref (ad 1)), (2, .int (h.1 1 0))]) rfl rfl (by decide) rfl ?_
        refine g_goto (pc' := 35) O ⟨dX7_learn_32, rfl⟩ (tgt := 15) (by decide) ?_
        refine g_sub (lv' := [(0, .ref (ad 20)), (1, .ref (ad 1)), (2, .int (h.1 1 0)), (3, .int (x3_18 + (1 : Int32)))]) [1, 2, 3, 0] rfl ?_
        exact ih15 _ _ E
  · cases E
    exact hret _ _ _ ⟨dX7_learn_7, rfl⟩
set_option maxRecDepth 100000 in
set_option maxHeartbeats 4000000 in
theorem t_X7_rowsOut_20_1 (l : Launch) (D : va_G) (ad : Nat → Nat) (cy : Nat → ClassId) {h : Hp}  {o : Int32 × Hp} (E : f_X7_rowsOut_20_1 h = some o) : CtI l D cy (WC ad cy) yX7_rowsOut cX7_rowsOut 2 .int 4 96 [.ref (ad 20), .ref (ad 1)] h o.1 o.2 := by
  refine sI (own := RX7) rfl rfl (Nat.le_of_ble_eq_true rfl) (fun X O hret => ?_)
  show G l D X 2 (WC ad cy) 0 0 h 0 [(0, .ref (ad 20)), (1, .ref (ad 1))] []
  unfold f_X7_rowsOut_20_1 at E
  refine g_aload_n (pc' := 1) O ⟨dX7_rowsOut_0, rfl⟩ (q := 0) rfl rfl ?_
  refine g_aload_n (pc' := 2) O ⟨dX7_rowsOut_1, rfl⟩ (q := 1) rfl rfl ?_
  obtain ⟨r_1, c_2, E⟩ := bd_of E
  refine g_Vv (pc' := 5) O ⟨dX7_rowsOut_2, rfl⟩ (y := yX7_learn) (As := [.ref (ad 1)]) (st := []) (t_X7_learn_20_1 l D ad cy (h := h) c_2) kw_994 kw_31 kw_991 kw_993 kw_21 rfl (wC_20 ad cy h) hd_X7_learn ⟨Nat.le_of_ble_eq_true rfl, Nat.le_of_ble_eq_true rfl⟩ ⟨Nat.le_of_ble_eq_true rfl, Nat.le_of_ble_eq_true rfl⟩ rfl (Nat.le_of_ble_eq_true rfl) ?_
  refine g_aload_n (pc' := 6) O ⟨dX7_rowsOut_5, rfl⟩ (q := 0) rfl rfl ?_
  refine gf_C_RX7_19_20 ad cy (pc' := 9) O ⟨dX7_rowsOut_6, rfl⟩ ?_
  cases E
  exact hret _ _ _ ⟨dX7_rowsOut_9, rfl⟩ rfl
set_option maxRecDepth 100000 in
set_option maxHeartbeats 4000000 in
theorem t_X10_routes (l : Launch) (D : va_G) (ad : Nat → Nat) (cy : Nat → ClassId) {h : Hp}  {o : Int32 × Hp} (E : f_X10_routes h = some o) : CtI l D cy (WC ad cy) yX10_routes cX10_routes 1 .int 5 117 [.ref (ad 0)] h o.1 o.2 := by
  refine sI (own := RX10) rfl rfl (Nat.le_of_ble_eq_true rfl) (fun X O hret => ?_)
  show G l D X 1 (WC ad cy) 0 0 h 0 [(0, .ref (ad 0))] []
  unfold f_X10_routes at E
  refine g_aload_n (pc' := 1) O ⟨dX10_routes_0, rfl⟩ (q := 0) rfl rfl ?_
  refine gf_C_RX10_43_0 ad cy (pc' := 4) O ⟨dX10_routes_1, rfl⟩ ?_
  refine g_aload_n (pc' := 5) O ⟨dX10_routes_4, rfl⟩ (q := 0) rfl rfl ?_
  refine gf_C_RX10_10_0 ad cy (pc' := 8) O ⟨dX10_routes_5, rfl⟩ ?_
  obtain ⟨r_1, c_2, E⟩ := bd_of E
  refine g_Vi (pc' := 11) O ⟨dX10_routes_8, rfl⟩ (y := yX7_rowsOut) (As := [.ref (ad 1)]) (st := []) (t_X7_rowsOut_20_1 l D ad cy (h := h) c_2) kw_990 kw_31 kw_987 kw_988 kw_989 rfl (wC_20 ad cy h) hd_X7_rowsOut ⟨Nat.le_of_ble_eq_true rfl, Nat.le_of_ble_eq_true rfl⟩ ⟨Nat.le_of_ble_eq_true rfl, Nat.le_of_ble_eq_true rfl⟩ rfl (Nat.le_of_ble_eq_true rfl) ?_
  cases E
  exact hret _ _ _ ⟨dX10_routes_11, rfl⟩ rfl
set_option maxRecDepth 100000 in
set_option maxHeartbeats 4000000 in
theorem t_X7_lowestFor_20_1 (l : Launch) (D : va_G) (ad : Nat → Nat) (cy : Nat → ClassId) {h : Hp} {x2 : Int32} {o : Int32 × Hp} (E : f_X7_lowestFor_20_1 h x2 = some o) : CtI l D cy (WC ad cy) yX7_lowestFor cX7_lowestFor 7 .int 4 96 [.ref (ad 20), .ref (ad 1), .int x2] h o.1 o.2 := by
  refine sI (own := RX7) rfl rfl (Nat.le_of_ble_eq_true rfl) (fun X O hret => ?_)
  show G l D X 7 (WC ad cy) 0 0 h 0 [(0, .ref (ad 20)), (1, .ref (ad 1)), (2, .int x2)] []
  unfold f_X7_lowestFor_20_1 at E
  refine g_aload_n (pc' := 1) O ⟨dX7_lowestFor_0, rfl⟩ (q := 0) rfl rfl ?_
  refine g_aload_n (pc' := 2) O ⟨dX7_lowestFor_1, rfl⟩ (q := 1) rfl rfl ?_
  obtain ⟨r_1, c_2, E⟩ := bd_of E
  refine g_Vv (pc' := 5) O ⟨dX7_lowestFor_2, rfl⟩ (y := yX7_learn) (As := [.ref (ad 1)]) (st := []) (t_X7_learn_20_1 l D ad cy (h := h) c_2) kw_994 kw_31 kw_991 kw_993 kw_21 rfl (wC_20 ad cy h) hd_X7_learn ⟨Nat.le_of_ble_eq_true rfl, Nat.le_of_ble_eq_true rfl⟩ ⟨Nat.le_of_ble_eq_true rfl, Nat.le_of_ble_eq_true rfl⟩ rfl (Nat.le_of_ble_eq_true rfl) ?_
  refine g_aload_n (pc' := 6) O ⟨dX7_lowestFor_5, rfl⟩ (q := 1) rfl rfl ?_
  refine gf_C_RX7_27_1 ad cy (pc' := 9) O ⟨dX7_lowestFor_6, rfl⟩ ?_
  refine g_istore_n (pc' := 10) O ⟨dX7_lowestFor_9, rfl⟩ (lv' := [(3, .int (r_1.1 1 0)), (0, .ref (ad 20)), (1, .ref (ad 1)), (2, .int x2)]) rfl (by decide) rfl ?_
  refine g_aload_n (pc' := 11) O ⟨dX7_lowestFor_10, rfl⟩ (q := 1) rfl rfl ?_
  refine gf_C_RX7_15_20 ad cy (pc' := 14) O ⟨dX7_lowestFor_11, rfl⟩ ?_
  refine g_iload_n (pc' := 15) O ⟨dX7_lowestFor_14, rfl⟩ (q := 3) rfl rfl ?_
  refine g_iload_n (pc' := 16) O ⟨dX7_lowestFor_15, rfl⟩ (q := 0) rfl rfl ?_
  obtain ⟨r_3, c_4, E⟩ := bd_of E
  refine g_Si (pc' := 19) O ⟨dX7_lowestFor_16, rfl⟩ (y := yX5_rank) (As := [.int x2, .int (r_1.1 1 0)]) (st := [.ref (ad 22)]) (t_X5_rank l D ad cy (h := r_1) c_4) kw_925 kw_41 kw_1000 kw_924 hd_X5_rank ⟨Nat.le_of_ble_eq_true rfl, Nat.le_of_ble_eq_true rfl⟩ ⟨Nat.le_of_ble_eq_true rfl, Nat.le_of_ble_eq_true rfl⟩ rfl (Nat.le_of_ble_eq_true rfl) ?_
  refine g_bald (pc' := 20) O ⟨dX7_lowestFor_19, rfl⟩ (wC_22 ad cy r_1) E (fun E => ?_)
  refine g_if_ne (pc' := 23) O ⟨dX7_lowestFor_20, rfl⟩ E (tgt := 25) (by decide) (fun E => ?_) (fun E => ?_)
  · refine g_iconst (pc' := 26) O ⟨dX7_lowestFor_25, rfl⟩ (v := (0 : Int32)) rfl ?_
    refine g_istore (pc' := 28) O ⟨dX7_lowestFor_26, rfl⟩ (lv' := [(4, .int (0 : Int32)), (3, .int (r_1.1 1 0)), (0, .ref (ad 20)), (1, .ref (ad 1)), (2, .int x2)]) (by decide) rfl ?_
    refine g_iload_n (pc' := 29) O ⟨dX7_lowestFor_28, rfl⟩ (q := 4) rfl rfl ?_
    refine g_istore (pc' := 31) O ⟨dX7_lowestFor_29, rfl⟩ (lv' := [(5, .int x2), (4, .int (0 : Int32)), (3, .int (r_1.1 1 0)), (0, .ref (ad 20)), (1, .ref (ad 1)), (2, .int x2)]) (by decide) rfl ?_
    refine g_aload_n (pc' := 32) O ⟨dX7_lowestFor_31, rfl⟩ (q := 4) rfl rfl ?_
    refine gf_C_RX7_38_1 ad cy (pc' := 35) O ⟨dX7_lowestFor_32, rfl⟩ ?_
    refine g_iconst (pc' := 36) O ⟨dX7_lowestFor_35, rfl⟩ (v := (1 : Int32)) rfl ?_
    refine g_isub (pc' := 37) O ⟨dX7_lowestFor_36, rfl⟩ ?_
    refine g_nm E (fun y6_5 E => ?_)
    refine g_istore (pc' := 39) O ⟨dX7_lowestFor_37, rfl⟩ (lv' := [(6, .int y6_5), (5, .int x2), (4, .int (0 : Int32)), (3, .int (r_1.1 1 0)), (0, .ref (ad 20)), (1, .ref (ad 1)), (2, .int x2)]) (by decide) rfl ?_
    refine jn1_of (P := fun (x4_6 : Int32) => G l D X 7 (WC ad cy) 0 0 r_1 98 [(4, .int x4_6)] []) E ?_ ?_
    · intro x4_6 E
      show G l D X 7 (WC ad cy) 0 0 r_1 98 [(4, .int x4_6)] []
      refine g_iload (pc' := 100) O ⟨dX7_lowestFor_98, rfl⟩ (q := 0) rfl ?_
      cases E
      exact hret _ _ _ ⟨dX7_lowestFor_100, rfl⟩ rfl
    · intro k98 hk98 E
      refine g_sub (lv' := [(0, .ref (ad 20)), (1, .ref (ad 1)), (3, .int (r_1.1 1 0)), (4, .int (0 : Int32)), (5, .int x2), (6, .int y6_5)]) [4, 5, 3, 2, 1, 0] rfl ?_
      refine fx3_of (P := fun (x4_7 : Int32) (x5_8 : Int32) (x6_9 : Int32) => G l D X 7 (WC ad cy) 0 0 r_1 39 [(0, .ref (ad 20)), (1, .ref (ad 1)), (3, .int (r_1.1 1 0)), (4, .int x4_7), (5, .int x5_8), (6, .int x6_9)] []) ?_ _ _ _ _ E
      intro self ih39 x4_7 x5_8 x6_9 E
      show G l D X 7 (WC ad cy) 0 0 r_1 39 [(0, .ref (ad 20)), (1, .ref (ad 1)), (3, .int (r_1.1 1 0)), (4, .int x4_7), (5, .int x5_8), (6, .int x6_9)] []
      unfold L_X7_lowestFor_20_1_39 at E
      refine g_iload (pc' := 41) O ⟨dX7_lowestFor_39, rfl⟩ (q := 5) rfl ?_
      refine g_if_lt (pc' := 44) O ⟨dX7_lowestFor_41, rfl⟩ E (tgt := 98) (by decide) (fun E => ?_) (fun E => ?_)
      · refine g_sub (lv' := [(4, .int x4_7)]) [3] rfl ?_
        exact hk98 _ E
      · refine g_aload_n (pc' := 45) O ⟨dX7_lowestFor_44, rfl⟩ (q := 0) rfl rfl ?_
        refine gf_C_RX7_15_20 ad cy (pc' := 48) O ⟨dX7_lowestFor_45, rfl⟩ ?_
        refine g_iload (pc' := 50) O ⟨dX7_lowestFor_48, rfl⟩ (q := 4) rfl ?_
        refine g_iload_n (pc' := 51) O ⟨dX7_lowestFor_50, rfl⟩ (q := 2) rfl rfl ?_
        obtain ⟨r_10, c_11, E⟩ := bd_of E
        refine g_Si (pc' := 54) O ⟨dX7_lowestFor_51, rfl⟩ (y := yX5_rank) (As := [.int x5_8, .int (r_1.1 1 0)]) (st := [.ref (ad 22)]) (t_X5_rank l D ad cy (h := r_1) c_11) kw_925 kw_41 kw_1000 kw_924 hd_X5_rank ⟨Nat.le_of_ble_eq_true rfl, Nat.le_of_ble_eq_true rfl⟩ ⟨Nat.le_of_ble_eq_true rfl, Nat.le_of_ble_eq_true rfl⟩ rfl (Nat.le_of_ble_eq_true rfl) ?_
        refine g_bald (pc' := 55) O ⟨dX7_lowestFor_54, rfl⟩ (wC_22 ad cy r_1) E (fun E => ?_)
        refine g_iload (pc' := 57) O ⟨dX7_lowestFor_55, rfl⟩ (q := 5) rfl ?_
        refine g_iconst (pc' := 58) O ⟨dX7_lowestFor_57, rfl⟩ (v := (1 : Int32)) rfl ?_
        refine g_iadd (pc' := 59) O ⟨dX7_lowestFor_58, rfl⟩ ?_
        refine g_icmp_le (pc' := 62) O ⟨dX7_lowestFor_59, rfl⟩ E (tgt := 92) (by decide) (fun E => ?_) (fun E => ?_)
        · refine g_iinc (pc' := 95) O ⟨dX7_lowestFor_92, rfl⟩ (q := 5) (v := x6_9 + (-1 : Int32)) (lv' := [(6, .int (x6_9 + (-1 : Int32))), (0, .ref (ad 20)), (1, .ref (ad 1)), (3, .int (r_1.1 1 0)), (4, .int x4_7), (5, .int x5_8)]) rfl rfl (by decide) rfl ?_
          refine g_goto (pc' := 98) O ⟨dX7_lowestFor_95, rfl⟩ (tgt := 39) (by decide) ?_
          refine g_sub (lv' := [(0, .ref (ad 20)), (1, .ref (ad 1)), (3, .int (r_1.1 1 0)), (4, .int x4_7), (5, .int x5_8), (6, .int (x6_9 + (-1 : Int32)))]) [1, 2, 3, 4, 5, 0] rfl ?_
          exact ih39 _ _ _ E
        · refine g_iload (pc' := 64) O ⟨dX7_lowestFor_62, rfl⟩ (q := 3) rfl ?_
          refine g_iconst (pc' := 65) O ⟨dX7_lowestFor_64, rfl⟩ (v := (1 : Int32)) rfl ?_
          refine g_iload (pc' := 67) O ⟨dX7_lowestFor_65, rfl⟩ (q := 5) rfl ?_
          refine g_ishl (pc' := 68) O ⟨dX7_lowestFor_67, rfl⟩ ?_
          refine g_ior (pc' := 69) O ⟨dX7_lowestFor_68, rfl⟩ ?_
          refine g_nm E (fun y4_12 E => ?_)
          refine g_istore (pc' := 71) O ⟨dX7_lowestFor_69, rfl⟩ (lv' := [(4, .int y4_12), (0, .ref (ad 20)), (1, .ref (ad 1)), (3, .int (r_1.1 1 0)), (5, .int x5_8), (6, .int x6_9)]) (by decide) rfl ?_
          refine g_iload (pc' := 73) O ⟨dX7_lowestFor_71, rfl⟩ (q := 4) rfl ?_
          refine g_aload_n (pc' := 74) O ⟨dX7_lowestFor_73, rfl⟩ (q := 2) rfl rfl ?_
          refine gf_C_RX7_39_1 ad cy (pc' := 77) O ⟨dX7_lowestFor_74, rfl⟩ ?_
          refine g_iload (pc' := 79) O ⟨dX7_lowestFor_77, rfl⟩ (q := 5) rfl ?_
          refine g_iald (pc' := 80) O ⟨dX7_lowestFor_79, rfl⟩ (wC_2 ad cy r_1) E (fun E => ?_)
          refine g_aload_n (pc' := 81) O ⟨dX7_lowestFor_80, rfl⟩ (q := 2) rfl rfl ?_
          refine gf_C_RX7_42_1 ad cy (pc' := 84) O ⟨dX7_lowestFor_81, rfl⟩ ?_
          refine g_iload (pc' := 86) O ⟨dX7_lowestFor_84, rfl⟩ (q := 5) rfl ?_
          refine g_iald (pc' := 87) O ⟨dX7_lowestFor_86, rfl⟩ (wC_3 ad cy r_1) E (fun E => ?_)
          obtain ⟨r_13, c_14, E⟩ := bd_of E
          refine g_Si (pc' := 90) O ⟨dX7_lowestFor_87, rfl⟩ (y := yX5_exchanged) (As := [.int x5_8, .int (r_1.1 2 x6_9.toNatClampNeg), .int (r_1.1 3 x6_9.toNatClampNeg)]) (st := []) (t_X5_exchanged l D ad cy (h := r_1) c_14) kw_540 kw_41 kw_1002 kw_539 hd_X5_exchanged ⟨Nat.le_of_ble_eq_true rfl, Nat.le_of_ble_eq_true rfl⟩ ⟨Nat.le_of_ble_eq_true rfl, Nat.le_of_ble_eq_true rfl⟩ rfl (Nat.le_of_ble_eq_true rfl) ?_
          refine g_istore (pc' := 92) O ⟨dX7_lowestFor_90, rfl⟩ (lv' := [(5, .int r_13), (4, .int y4_12), (0, .ref (ad 20)), (1, .ref (ad 1)), (3, .int (r_1.1 1 0)), (6, .int x6_9)]) (by decide) rfl ?_
          refine g_iinc (pc' := 95) O ⟨dX7_lowestFor_92, rfl⟩ (q := 5) (v := x6_9 + (-1 : Int32)) (lv' := [(6, .int (x6_9 + (-1 : Int32))), (5, .int r_13), (4, .int y4_12), (0, .ref (ad 20)), (1, .ref (ad 1)), (3, .int (r_1.1 1 0))]) rfl rfl (by decide) rfl ?_
          refine g_goto (pc' := 98) O ⟨dX7_lowestFor_95, rfl⟩ (tgt := 39) (by decide) ?_
          refine g_sub (lv' := [(0, .ref (ad 20)), (1, .ref (ad 1)), (3, .int (r_1.1 1 0)), (4, .int y4_12), (5, .int r_13), (6, .int (x6_9 + (-1 : Int32)))]) [3, 4, 5, 2, 1, 0] rfl ?_
          exact ih39 _ _ _ E
  · refine g_iconst (pc' := 24) O ⟨dX7_lowestFor_23, rfl⟩ (v := (-1 : Int32)) rfl ?_
    cases E
    exact hret _ _ _ ⟨dX7_lowestFor_24, rfl⟩ rfl
set_option maxRecDepth 100000 in
set_option maxHeartbeats 4000000 in
theorem t_X1_letIn_23_1 (l : Launch) (D : va_G) (ad : Nat → Nat) (cy : Nat → ClassId) {h : Hp} {x2 : Int32} {o : Int32 × Hp} (E : f_X1_letIn_23_1 h x2 = some o) : CtI l D cy (WC ad cy) yX1_letIn cX1_letIn 5 .int 0 0 [.ref (ad 23), .ref (ad 1), .int x2] h o.1 o.2 := by
  refine sI (own := RX1) rfl rfl (Nat.le_of_ble_eq_true rfl) (fun X O hret => ?_)
  show G l D X 5 (WC ad cy) 0 0 h 0 [(0, .ref (ad 23)), (1, .ref (ad 1)), (2, .int x2)] []
  unfold f_X1_letIn_23_1 at E
  refine g_iload_n (pc' := 1) O ⟨dX1_letIn_0, rfl⟩ (q := 2) rfl rfl ?_
  refine g_istore_n (pc' := 2) O ⟨dX1_letIn_1, rfl⟩ (lv' := [(3, .int x2), (0, .ref (ad 23)), (1, .ref (ad 1)), (2, .int x2)]) rfl (by decide) rfl ?_
  refine g_iconst (pc' := 3) O ⟨dX1_letIn_2, rfl⟩ (v := (0 : Int32)) rfl ?_
  refine g_istore (pc' := 5) O ⟨dX1_letIn_3, rfl⟩ (lv' := [(4, .int (0 : Int32)), (3, .int x2), (0, .ref (ad 23)), (1, .ref (ad 1)), (2, .int x2)]) (by decide) rfl ?_
  refine jn2_of (P := fun (x3_1 : Int32) (h_2 : Hp) => G l D X 5 (WC ad cy) 0 0 h_2 92 [(0, .ref (ad 23)), (2, .int x2), (3, .int x3_1)] []) E ?_ ?_
  · intro x3_1 h_2 E
    show G l D X 5 (WC ad cy) 0 0 h_2 92 [(0, .ref (ad 23)), (2, .int x2), (3, .int x3_1)] []
    refine g_aload_n (pc' := 93) O ⟨dX1_letIn_92, rfl⟩ (q := 0) rfl rfl ?_
    refine gf_C_RX1_9_23 ad cy (pc' := 96) O ⟨dX1_letIn_93, rfl⟩ ?_
    refine g_iload_n (pc' := 97) O ⟨dX1_letIn_96, rfl⟩ (q := 1) rfl rfl ?_
    refine g_dup2 (pc' := 98) O ⟨dX1_letIn_97, rfl⟩ rfl rfl ?_
    refine g_iald (pc' := 99) O ⟨dX1_letIn_98, rfl⟩ (wC_24 ad cy h_2) E (fun E => ?_)
    refine g_iconst (pc' := 100) O ⟨dX1_letIn_99, rfl⟩ (v := (1 : Int32)) rfl ?_
    refine g_iadd (pc' := 101) O ⟨dX1_letIn_100, rfl⟩ ?_
    refine g_iast (pc' := 102) O ⟨dX1_letIn_101, rfl⟩ (wC_24 ad cy h_2) (vC_24 ad cy h_2 _) E (fun E => ?_)
    refine g_nmh E (fun h_3 E => ?_)
    refine g_aload_n (pc' := 103) O ⟨dX1_letIn_102, rfl⟩ (q := 0) rfl rfl ?_
    refine gf_C_RX1_15_23 ad cy (pc' := 106) O ⟨dX1_letIn_103, rfl⟩ ?_
    refine g_iload_n (pc' := 107) O ⟨dX1_letIn_106, rfl⟩ (q := 2) rfl rfl ?_
    refine g_dup2 (pc' := 108) O ⟨dX1_letIn_107, rfl⟩ rfl rfl ?_
    refine g_iald (pc' := 109) O ⟨dX1_letIn_108, rfl⟩ (wC_25 ad cy h_3) E (fun E => ?_)
    refine g_iconst (pc' := 110) O ⟨dX1_letIn_109, rfl⟩ (v := (1 : Int32)) rfl ?_
    refine g_iadd (pc' := 111) O ⟨dX1_letIn_110, rfl⟩ ?_
    refine g_iast (pc' := 112) O ⟨dX1_letIn_111, rfl⟩ (wC_25 ad cy h_3) (vC_25 ad cy h_3 _) E (fun E => ?_)
    refine g_nmh E (fun h_4 E => ?_)
    refine g_aload_n (pc' := 113) O ⟨dX1_letIn_112, rfl⟩ (q := 0) rfl rfl ?_
    refine g_dup (pc' := 114) O ⟨dX1_letIn_113, rfl⟩ rfl ?_
    refine gf_C_RX1_25_23 ad cy (pc' := 117) O ⟨dX1_letIn_114, rfl⟩ ?_
    refine g_iconst (pc' := 118) O ⟨dX1_letIn_117, rfl⟩ (v := (1 : Int32)) rfl ?_
    refine g_iadd (pc' := 119) O ⟨dX1_letIn_118, rfl⟩ ?_
    refine gp_C_RX1_25_23 ad cy (pc' := 122) O ⟨dX1_letIn_119, rfl⟩ ?_
    refine g_nmh E (fun h_5 E => ?_)
    refine g_iload_n (pc' := 123) O ⟨dX1_letIn_122, rfl⟩ (q := 2) rfl rfl ?_
    cases E
    exact hret _ _ _ ⟨dX1_letIn_123, rfl⟩ rfl
  · intro k92 hk92 E
    refine g_sub (lv' := [(0, .ref (ad 23)), (1, .ref (ad 1)), (2, .int x2), (3, .int x2), (4, .int (0 : Int32))]) [2, 3, 4, 1, 0] rfl ?_
    refine fx3_of (P := fun (x3_6 : Int32) (x4_7 : Int32) (h_8 : Hp) => G l D X 5 (WC ad cy) 0 0 h_8 5 [(0, .ref (ad 23)), (1, .ref (ad 1)), (2, .int x2), (3, .int x3_6), (4, .int x4_7)] []) ?_ _ _ _ _ E
    intro self ih5 x3_6 x4_7 h_8 E
    show G l D X 5 (WC ad cy) 0 0 h_8 5 [(0, .ref (ad 23)), (1, .ref (ad 1)), (2, .int x2), (3, .int x3_6), (4, .int x4_7)] []
    unfold L_X1_letIn_23_1_5 at E
    refine g_iload (pc' := 7) O ⟨dX1_letIn_5, rfl⟩ (q := 4) rfl ?_
    refine g_aload_n (pc' := 8) O ⟨dX1_letIn_7, rfl⟩ (q := 1) rfl rfl ?_
    refine gf_C_RX1_29_1 ad cy (pc' := 11) O ⟨dX1_letIn_8, rfl⟩ ?_
    refine g_icmp_ge (pc' := 14) O ⟨dX1_letIn_11, rfl⟩ E (tgt := 92) (by decide) (fun E => ?_) (fun E => ?_)
    · refine g_sub (lv' := [(0, .ref (ad 23)), (2, .int x2), (3, .int x3_6)]) [0, 2, 3] rfl ?_
      exact hk92 _ _ E
    · refine g_iload_n (pc' := 15) O ⟨dX1_letIn_14, rfl⟩ (q := 3) rfl rfl ?_
      refine g_aload_n (pc' := 16) O ⟨dX1_letIn_15, rfl⟩ (q := 1) rfl rfl ?_
      refine gf_C_RX1_34_1 ad cy (pc' := 19) O ⟨dX1_letIn_16, rfl⟩ ?_
      refine g_iload (pc' := 21) O ⟨dX1_letIn_19, rfl⟩ (q := 4) rfl ?_
      refine g_iald (pc' := 22) O ⟨dX1_letIn_21, rfl⟩ (wC_2 ad cy h_8) E (fun E => ?_)
      refine jn0_of (P := G l D X 5 (WC ad cy) 0 0 h_8 36 [(0, .ref (ad 23)), (1, .ref (ad 1)), (2, .int x2), (4, .int x4_7)] []) E ?_ ?_
      · intro E
        show G l D X 5 (WC ad cy) 0 0 h_8 36 [(0, .ref (ad 23)), (1, .ref (ad 1)), (2, .int x2), (4, .int x4_7)] []
        refine g_aload_n (pc' := 37) O ⟨dX1_letIn_36, rfl⟩ (q := 0) rfl rfl ?_
        refine gf_C_RX1_21_23 ad cy (pc' := 40) O ⟨dX1_letIn_37, rfl⟩ ?_
        refine g_iload (pc' := 42) O ⟨dX1_letIn_40, rfl⟩ (q := 3) rfl ?_
        refine g_zald (pc' := 43) O ⟨dX1_letIn_42, rfl⟩ (wC_27 ad cy h_8) E (fun E => ?_)
        refine jn1_of (P := fun (z_9 : Int32) => G l D X 5 (WC ad cy) 0 0 h_8 63 [(0, .ref (ad 23)), (1, .ref (ad 1)), (2, .int x2), (4, .int x4_7)] [.int z_9]) E ?_ ?_
        · intro z_9 E
          show G l D X 5 (WC ad cy) 0 0 h_8 63 [(0, .ref (ad 23)), (1, .ref (ad 1)), (2, .int x2), (4, .int x4_7)] [.int z_9]
          refine g_istore_n (pc' := 64) O ⟨dX1_letIn_63, rfl⟩ (lv' := [(3, .int z_9), (0, .ref (ad 23)), (1, .ref (ad 1)), (2, .int x2), (4, .int x4_7)]) rfl (by decide) rfl ?_
          refine g_aload_n (pc' := 65) O ⟨dX1_letIn_64, rfl⟩ (q := 1) rfl rfl ?_
          refine gf_C_RX1_21_23 ad cy (pc' := 68) O ⟨dX1_letIn_65, rfl⟩ ?_
          refine g_iload (pc' := 70) O ⟨dX1_letIn_68, rfl⟩ (q := 4) rfl ?_
          refine g_aload_n (pc' := 71) O ⟨dX1_letIn_70, rfl⟩ (q := 1) rfl rfl ?_
          refine gf_C_RX1_21_23 ad cy (pc' := 74) O ⟨dX1_letIn_71, rfl⟩ ?_
          refine g_iload (pc' := 76) O ⟨dX1_letIn_74, rfl⟩ (q := 4) rfl ?_
          refine g_zald (pc' := 77) O ⟨dX1_letIn_76, rfl⟩ (wC_27 ad cy h_8) E (fun E => ?_)
          refine g_if_ne (pc' := 80) O ⟨dX1_letIn_77, rfl⟩ E (tgt := 84) (by decide) (fun E => ?_) (fun E => ?_)
          · refine g_iconst (pc' := 85) O ⟨dX1_letIn_84, rfl⟩ (v := (0 : Int32)) rfl ?_
            refine g_zast (pc' := 86) O ⟨dX1_letIn_85, rfl⟩ (wC_27 ad cy h_8) (vC_27 ad cy h_8 _) E (fun E => ?_)
            refine g_nmh E (fun h_10 E => ?_)
            refine g_iinc (pc' := 89) O ⟨dX1_letIn_86, rfl⟩ (q := 4) (v := x4_7 + (1 : Int32)) (lv' := [(4, .int (x4_7 + (1 : Int32))), (3, .int z_9), (0, .ref (ad 23)), (1, .ref (ad 1)), (2, .int x2)]) rfl rfl (by decide) rfl ?_
            refine g_goto (pc' := 92) O ⟨dX1_letIn_89, rfl⟩ (tgt := 5) (by decide) ?_
            refine g_sub (lv' := [(0, .ref (ad 23)), (1, .ref (ad 1)), (2, .int x2), (3, .int z_9), (4, .int (x4_7 + (1 : Int32)))]) [2, 3, 4, 1, 0] rfl ?_
            exact ih5 _ _ _ E
          · refine g_iconst (pc' := 81) O ⟨dX1_letIn_80, rfl⟩ (v := (1 : Int32)) rfl ?_
            refine g_goto (pc' := 84) O ⟨dX1_letIn_81, rfl⟩ (tgt := 85) (by decide) ?_
            refine g_zast (pc' := 86) O ⟨dX1_letIn_85, rfl⟩ (wC_27 ad cy h_8) (vC_27 ad cy h_8 _) E (fun E => ?_)
            refine g_nmh E (fun h_11 E => ?_)
            refine g_iinc (pc' := 89) O ⟨dX1_letIn_86, rfl⟩ (q := 4) (v := x4_7 + (1 : Int32)) (lv' := [(4, .int (x4_7 + (1 : Int32))), (3, .int z_9), (0, .ref (ad 23)), (1, .ref (ad 1)), (2, .int x2)]) rfl rfl (by decide) rfl ?_
            refine g_goto (pc' := 92) O ⟨dX1_letIn_89, rfl⟩ (tgt := 5) (by decide) ?_
            refine g_sub (lv' := [(0, .ref (ad 23)), (1, .ref (ad 1)), (2, .int x2), (3, .int z_9), (4, .int (x4_7 + (1 : Int32)))]) [2, 3, 4, 1, 0] rfl ?_
            exact ih5 _ _ _ E
        · intro k63 hk63 E
          refine g_if_eq (pc' := 46) O ⟨dX1_letIn_43, rfl⟩ E (tgt := 56) (by decide) (fun E => ?_) (fun E => ?_)
          · refine g_aload_n (pc' := 57) O ⟨dX1_letIn_56, rfl⟩ (q := 1) rfl rfl ?_
            refine gf_C_RX1_34_1 ad cy (pc' := 60) O ⟨dX1_letIn_57, rfl⟩ ?_
            refine g_iload (pc' := 62) O ⟨dX1_letIn_60, rfl⟩ (q := 3) rfl ?_
            refine g_iald (pc' := 63) O ⟨dX1_letIn_62, rfl⟩ (wC_2 ad cy h_8) E (fun E => ?_)
            exact hk63 _ E
          · refine g_aload_n (pc' := 47) O ⟨dX1_letIn_46, rfl⟩ (q := 1) rfl rfl ?_
            refine gf_C_RX1_37_1 ad cy (pc' := 50) O ⟨dX1_letIn_47, rfl⟩ ?_
            refine g_iload (pc' := 52) O ⟨dX1_letIn_50, rfl⟩ (q := 3) rfl ?_
            refine g_iald (pc' := 53) O ⟨dX1_letIn_52, rfl⟩ (wC_3 ad cy h_8) E (fun E => ?_)
            refine g_goto (pc' := 56) O ⟨dX1_letIn_53, rfl⟩ (tgt := 63) (by decide) ?_
            exact hk63 _ E
      · intro k36 hk36 E
        refine g_icmp_eq (pc' := 25) O ⟨dX1_letIn_22, rfl⟩ E (tgt := 36) (by decide) (fun E => ?_) (fun E => ?_)
        · refine g_sub (lv' := [(0, .ref (ad 23)), (1, .ref (ad 1)), (2, .int x2), (4, .int x4_7)]) [0, 1, 2, 4] rfl ?_
          exact hk36 E
        · refine g_iload_n (pc' := 26) O ⟨dX1_letIn_25, rfl⟩ (q := 3) rfl rfl ?_
          refine g_aload_n (pc' := 27) O ⟨dX1_letIn_26, rfl⟩ (q := 1) rfl rfl ?_
          refine gf_C_RX1_37_1 ad cy (pc' := 30) O ⟨dX1_letIn_27, rfl⟩ ?_
          refine g_iload (pc' := 32) O ⟨dX1_letIn_30, rfl⟩ (q := 4) rfl ?_
          refine g_iald (pc' := 33) O ⟨dX1_letIn_32, rfl⟩ (wC_3 ad cy h_8) E (fun E => ?_)
          refine g_icmp_ne (pc' := 36) O ⟨dX1_letIn_33, rfl⟩ E (tgt := 86) (by decide) (fun E => ?_) (fun E => ?_)
          · refine g_iinc (pc' := 89) O ⟨dX1_letIn_86, rfl⟩ (q := 4) (v := x4_7 + (1 : Int32)) (lv' := [(4, .int (x4_7 + (1 : Int32))), (0, .ref (ad 23)), (1, .ref (ad 1)), (2, .int x2), (3, .int x3_6)]) rfl rfl (by decide) rfl ?_
            refine g_goto (pc' := 92) O ⟨dX1_letIn_89, rfl⟩ (tgt := 5) (by decide) ?_
            refine g_sub (lv' := [(0, .ref (ad 23)), (1, .ref (ad 1)), (2, .int x2), (3, .int x3_6), (4, .int (x4_7 + (1 : Int32)))]) [1, 2, 3, 4, 0] rfl ?_
            exact ih5 _ _ _ E
          · refine g_sub (lv' := [(0, .ref (ad 23)), (1, .ref (ad 1)), (2, .int x2), (4, .int x4_7)]) [0, 1, 2, 4] rfl ?_
            exact hk36 E
set_option maxRecDepth 100000 in
set_option maxHeartbeats 4000000 in
theorem t_X1_reckoned_23_1 (l : Launch) (D : va_G) (ad : Nat → Nat) (cy : Nat → ClassId) {h : Hp} {x2 : Int32} {o : Int32 × Hp} (E : f_X1_reckoned_23_1 h x2 = some o) : CtI l D cy (WC ad cy) yX1_reckoned cX1_reckoned 5 .int 0 0 [.ref (ad 23), .ref (ad 1), .int x2] h o.1 o.2 := by
  refine sI (own := RX1) rfl rfl (Nat.le_of_ble_eq_true rfl) (fun X O hret => ?_)
  show G l D X 5 (WC ad cy) 0 0 h 0 [(0, .ref (ad 23)), (1, .ref (ad 1)), (2, .int x2)] []
  unfold f_X1_reckoned_23_1 at E
  refine g_iconst (pc' := 1) O ⟨dX1_reckoned_0, rfl⟩ (v := (0 : Int32)) rfl ?_
  refine g_istore_n (pc' := 2) O ⟨dX1_reckoned_1, rfl⟩ (lv' := [(3, .int (0 : Int32)), (0, .ref (ad 23)), (1, .ref (ad 1)), (2, .int x2)]) rfl (by decide) rfl ?_
  refine jn1_of (P := fun (h_1 : Hp) => G l D X 5 (WC ad cy) 0 0 h_1 26 [(0, .ref (ad 23)), (1, .ref (ad 1)), (2, .int x2)] []) E ?_ ?_
  · intro h_1 E
    show G l D X 5 (WC ad cy) 0 0 h_1 26 [(0, .ref (ad 23)), (1, .ref (ad 1)), (2, .int x2)] []
    refine g_iconst (pc' := 27) O ⟨dX1_reckoned_26, rfl⟩ (v := (0 : Int32)) rfl ?_
    refine g_istore_n (pc' := 28) O ⟨dX1_reckoned_27, rfl⟩ (lv' := [(3, .int (0 : Int32)), (0, .ref (ad 23)), (1, .ref (ad 1)), (2, .int x2)]) rfl (by decide) rfl ?_
    refine jn1_of (P := fun (h_2 : Hp) => G l D X 5 (WC ad cy) 0 0 h_2 99 [(0, .ref (ad 23)), (2, .int x2)] []) E ?_ ?_
    · intro h_2 E
      show G l D X 5 (WC ad cy) 0 0 h_2 99 [(0, .ref (ad 23)), (2, .int x2)] []
      refine g_aload_n (pc' := 100) O ⟨dX1_reckoned_99, rfl⟩ (q := 0) rfl rfl ?_
      refine gf_C_RX1_18_23 ad cy (pc' := 103) O ⟨dX1_reckoned_100, rfl⟩ ?_
      refine g_iload_n (pc' := 104) O ⟨dX1_reckoned_103, rfl⟩ (q := 1) rfl rfl ?_
      refine g_iald (pc' := 105) O ⟨dX1_reckoned_104, rfl⟩ (wC_26 ad cy h_2) E (fun E => ?_)
      cases E
      exact hret _ _ _ ⟨dX1_reckoned_105, rfl⟩ rfl
    · intro k99 hk99 E
      refine g_sub (lv' := [(0, .ref (ad 23)), (1, .ref (ad 1)), (2, .int x2), (3, .int (0 : Int32))]) [1, 2, 3, 0] rfl ?_
      refine fx2_of (P := fun (x3_3 : Int32) (h_4 : Hp) => G l D X 5 (WC ad cy) 0 0 h_4 28 [(0, .ref (ad 23)), (1, .ref (ad 1)), (2, .int x2), (3, .int x3_3)] []) ?_ _ _ _ E
      intro self ih28 x3_3 h_4 E
      show G l D X 5 (WC ad cy) 0 0 h_4 28 [(0, .ref (ad 23)), (1, .ref (ad 1)), (2, .int x2), (3, .int x3_3)] []
      unfold L_X1_reckoned_23_1_28 at E
      refine g_iload_n (pc' := 29) O ⟨dX1_reckoned_28, rfl⟩ (q := 3) rfl rfl ?_
      refine g_aload_n (pc' := 30) O ⟨dX1_reckoned_29, rfl⟩ (q := 1) rfl rfl ?_
      refine gf_C_RX1_29_1 ad cy (pc' := 33) O ⟨dX1_reckoned_30, rfl⟩ ?_
      refine g_icmp_ge (pc' := 36) O ⟨dX1_reckoned_33, rfl⟩ E (tgt := 99) (by decide) (fun E => ?_) (fun E => ?_)
      · refine g_sub (lv' := [(0, .ref (ad 23)), (2, .int x2)]) [0, 2] rfl ?_
        exact hk99 _ E
      · refine g_aload_n (pc' := 37) O ⟨dX1_reckoned_36, rfl⟩ (q := 0) rfl rfl ?_
        refine gf_C_RX1_18_23 ad cy (pc' := 40) O ⟨dX1_reckoned_37, rfl⟩ ?_
        refine g_aload_n (pc' := 41) O ⟨dX1_reckoned_40, rfl⟩ (q := 1) rfl rfl ?_
        refine gf_C_RX1_34_1 ad cy (pc' := 44) O ⟨dX1_reckoned_41, rfl⟩ ?_
        refine g_iload_n (pc' := 45) O ⟨dX1_reckoned_44, rfl⟩ (q := 3) rfl rfl ?_
        refine g_iald (pc' := 46) O ⟨dX1_reckoned_45, rfl⟩ (wC_2 ad cy h_4) E (fun E => ?_)
        refine g_iald (pc' := 47) O ⟨dX1_reckoned_46, rfl⟩ (wC_26 ad cy h_4) E (fun E => ?_)
        refine g_aload_n (pc' := 48) O ⟨dX1_reckoned_47, rfl⟩ (q := 0) rfl rfl ?_
        refine gf_C_RX1_18_23 ad cy (pc' := 51) O ⟨dX1_reckoned_48, rfl⟩ ?_
        refine g_aload_n (pc' := 52) O ⟨dX1_reckoned_51, rfl⟩ (q := 1) rfl rfl ?_
        refine gf_C_RX1_37_1 ad cy (pc' := 55) O ⟨dX1_reckoned_52, rfl⟩ ?_
        refine g_iload_n (pc' := 56) O ⟨dX1_reckoned_55, rfl⟩ (q := 3) rfl rfl ?_
        refine g_iald (pc' := 57) O ⟨dX1_reckoned_56, rfl⟩ (wC_3 ad cy h_4) E (fun E => ?_)
        refine g_iald (pc' := 58) O ⟨dX1_reckoned_57, rfl⟩ (wC_26 ad cy h_4) E (fun E => ?_)
        refine g_iadd (pc' := 59) O ⟨dX1_reckoned_58, rfl⟩ ?_
        refine g_nm E (fun y4_5 E => ?_)
        refine g_istore (pc' := 61) O ⟨dX1_reckoned_59, rfl⟩ (lv' := [(4, .int y4_5), (0, .ref (ad 23)), (1, .ref (ad 1)), (2, .int x2), (3, .int x3_3)]) (by decide) rfl ?_
        refine g_aload_n (pc' := 62) O ⟨dX1_reckoned_61, rfl⟩ (q := 1) rfl rfl ?_
        refine gf_C_RX1_18_23 ad cy (pc' := 65) O ⟨dX1_reckoned_62, rfl⟩ ?_
        refine g_aload_n (pc' := 66) O ⟨dX1_reckoned_65, rfl⟩ (q := 2) rfl rfl ?_
        refine gf_C_RX1_34_1 ad cy (pc' := 69) O ⟨dX1_reckoned_66, rfl⟩ ?_
        refine g_iload_n (pc' := 70) O ⟨dX1_reckoned_69, rfl⟩ (q := 4) rfl rfl ?_
        refine g_iald (pc' := 71) O ⟨dX1_reckoned_70, rfl⟩ (wC_2 ad cy h_4) E (fun E => ?_)
        refine g_iload (pc' := 73) O ⟨dX1_reckoned_71, rfl⟩ (q := 0) rfl ?_
        refine g_iconst (pc' := 74) O ⟨dX1_reckoned_73, rfl⟩ (v := (1 : Int32)) rfl ?_
        refine g_iadd (pc' := 75) O ⟨dX1_reckoned_74, rfl⟩ ?_
        refine g_iconst (pc' := 76) O ⟨dX1_reckoned_75, rfl⟩ (v := (2 : Int32)) rfl ?_
        refine g_idiv (pc' := 77) O ⟨dX1_reckoned_76, rfl⟩ (by decide) ?_
        refine g_iast (pc' := 78) O ⟨dX1_reckoned_77, rfl⟩ (wC_26 ad cy h_4) (vC_26 ad cy h_4 _) E (fun E => ?_)
        refine g_nmh E (fun h_6 E => ?_)
        refine g_aload_n (pc' := 79) O ⟨dX1_reckoned_78, rfl⟩ (q := 1) rfl rfl ?_
        refine gf_C_RX1_18_23 ad cy (pc' := 82) O ⟨dX1_reckoned_79, rfl⟩ ?_
        refine g_aload_n (pc' := 83) O ⟨dX1_reckoned_82, rfl⟩ (q := 2) rfl rfl ?_
        refine gf_C_RX1_37_1 ad cy (pc' := 86) O ⟨dX1_reckoned_83, rfl⟩ ?_
        refine g_iload_n (pc' := 87) O ⟨dX1_reckoned_86, rfl⟩ (q := 4) rfl rfl ?_
        refine g_iald (pc' := 88) O ⟨dX1_reckoned_87, rfl⟩ (wC_3 ad cy h_6) E (fun E => ?_)
        refine g_iload (pc' := 90) O ⟨dX1_reckoned_88, rfl⟩ (q := 0) rfl ?_
        refine g_iconst (pc' := 91) O ⟨dX1_reckoned_90, rfl⟩ (v := (2 : Int32)) rfl ?_
        refine g_idiv (pc' := 92) O ⟨dX1_reckoned_91, rfl⟩ (by decide) ?_
        refine g_iast (pc' := 93) O ⟨dX1_reckoned_92, rfl⟩ (wC_26 ad cy h_6) (vC_26 ad cy h_6 _) E (fun E => ?_)
        refine g_nmh E (fun h_7 E => ?_)
        refine g_iinc (pc' := 96) O ⟨dX1_reckoned_93, rfl⟩ (q := 4) (v := x3_3 + (1 : Int32)) (lv' := [(3, .int (x3_3 + (1 : Int32))), (4, .int y4_5), (0, .ref (ad 23)), (1, .ref (ad 1)), (2, .int x2)]) rfl rfl (by decide) rfl ?_
        refine g_goto (pc' := 99) O ⟨dX1_reckoned_96, rfl⟩ (tgt := 28) (by decide) ?_
        refine g_sub (lv' := [(0, .ref (ad 23)), (1, .ref (ad 1)), (2, .int x2), (3, .int (x3_3 + (1 : Int32)))]) [2, 3, 4, 0] rfl ?_
        exact ih28 _ _ E
  · intro k26 hk26 E
    refine g_sub (lv' := [(0, .ref (ad 23)), (1, .ref (ad 1)), (2, .int x2), (3, .int (0 : Int32))]) [1, 2, 3, 0] rfl ?_
    refine fx2_of (P := fun (x3_8 : Int32) (h_9 : Hp) => G l D X 5 (WC ad cy) 0 0 h_9 2 [(0, .ref (ad 23)), (1, .ref (ad 1)), (2, .int x2), (3, .int x3_8)] []) ?_ _ _ _ E
    intro self ih2 x3_8 h_9 E
    show G l D X 5 (WC ad cy) 0 0 h_9 2 [(0, .ref (ad 23)), (1, .ref (ad 1)), (2, .int x2), (3, .int x3_8)] []
    unfold L_X1_reckoned_23_1_2 at E
    refine g_iload_n (pc' := 3) O ⟨dX1_reckoned_2, rfl⟩ (q := 3) rfl rfl ?_
    refine g_bipush (pc' := 5) O ⟨dX1_reckoned_3, rfl⟩ (v := (6 : Int32)) rfl ?_
    refine g_icmp_ge (pc' := 8) O ⟨dX1_reckoned_5, rfl⟩ E (tgt := 26) (by decide) (fun E => ?_) (fun E => ?_)
    · refine g_sub (lv' := [(0, .ref (ad 23)), (1, .ref (ad 1)), (2, .int x2)]) [0, 1, 2] rfl ?_
      exact hk26 _ E
    · refine g_aload_n (pc' := 9) O ⟨dX1_reckoned_8, rfl⟩ (q := 0) rfl rfl ?_
      refine gf_C_RX1_18_23 ad cy (pc' := 12) O ⟨dX1_reckoned_9, rfl⟩ ?_
      refine g_iload_n (pc' := 13) O ⟨dX1_reckoned_12, rfl⟩ (q := 3) rfl rfl ?_
      refine g_aload_n (pc' := 14) O ⟨dX1_reckoned_13, rfl⟩ (q := 0) rfl rfl ?_
      refine gf_C_RX1_9_23 ad cy (pc' := 17) O ⟨dX1_reckoned_14, rfl⟩ ?_
      refine g_iload_n (pc' := 18) O ⟨dX1_reckoned_17, rfl⟩ (q := 3) rfl rfl ?_
      refine g_iald (pc' := 19) O ⟨dX1_reckoned_18, rfl⟩ (wC_24 ad cy h_9) E (fun E => ?_)
      refine g_iast (pc' := 20) O ⟨dX1_reckoned_19, rfl⟩ (wC_26 ad cy h_9) (vC_26 ad cy h_9 _) E (fun E => ?_)
      refine g_nmh E (fun h_10 E => ?_)
      refine g_iinc (pc' := 23) O ⟨dX1_reckoned_20, rfl⟩ (q := 3) (v := x3_8 + (1 : Int32)) (lv' := [(3, .int (x3_8 + (1 : Int32))), (0, .ref (ad 23)), (1, .ref (ad 1)), (2, .int x2)]) rfl rfl (by decide) rfl ?_
      refine g_goto (pc' := 26) O ⟨dX1_reckoned_23, rfl⟩ (tgt := 2) (by decide) ?_
      refine g_sub (lv' := [(0, .ref (ad 23)), (1, .ref (ad 1)), (2, .int x2), (3, .int (x3_8 + (1 : Int32)))]) [1, 2, 3, 0] rfl ?_
      exact ih2 _ _ E
set_option maxRecDepth 100000 in
set_option maxHeartbeats 4000000 in
theorem t_X1_outIsStep_23 (l : Launch) (D : va_G) (ad : Nat → Nat) (cy : Nat → ClassId) {h : Hp} {x1 : Int32} {o : Int32} (E : f_X1_outIsStep_23 h x1 = some o) : CtI l D cy (WC ad cy) yX1_outIsStep cX1_outIsStep 3 .boolean 0 0 [.ref (ad 23), .int x1] h o h := by
  refine sI (own := RX1) rfl rfl (Nat.le_of_ble_eq_true rfl) (fun X O hret => ?_)
  show G l D X 3 (WC ad cy) 0 0 h 0 [(0, .ref (ad 23)), (1, .int x1)] []
  unfold f_X1_outIsStep_23 at E
  refine g_iconst (pc' := 1) O ⟨dX1_outIsStep_0, rfl⟩ (v := (0 : Int32)) rfl ?_
  refine g_istore_n (pc' := 2) O ⟨dX1_outIsStep_1, rfl⟩ (lv' := [(2, .int (0 : Int32)), (0, .ref (ad 23)), (1, .int x1)]) rfl (by decide) rfl ?_
  refine jn0_of (P := G l D X 3 (WC ad cy) 0 0 h 34 [(0, .ref (ad 23)), (1, .int x1)] []) E ?_ ?_
  · intro E
    show G l D X 3 (WC ad cy) 0 0 h 34 [(0, .ref (ad 23)), (1, .int x1)] []
    refine g_aload_n (pc' := 35) O ⟨dX1_outIsStep_34, rfl⟩ (q := 0) rfl rfl ?_
    refine gf_C_RX1_15_23 ad cy (pc' := 38) O ⟨dX1_outIsStep_35, rfl⟩ ?_
    refine g_iconst (pc' := 39) O ⟨dX1_outIsStep_38, rfl⟩ (v := (0 : Int32)) rfl ?_
    refine g_iald (pc' := 40) O ⟨dX1_outIsStep_39, rfl⟩ (wC_25 ad cy h) E (fun E => ?_)
    refine g_aload_n (pc' := 41) O ⟨dX1_outIsStep_40, rfl⟩ (q := 0) rfl rfl ?_
    refine gf_C_RX1_15_23 ad cy (pc' := 44) O ⟨dX1_outIsStep_41, rfl⟩ ?_
    refine g_iload_n (pc' := 45) O ⟨dX1_outIsStep_44, rfl⟩ (q := 1) rfl rfl ?_
    refine g_iconst (pc' := 46) O ⟨dX1_outIsStep_45, rfl⟩ (v := (1 : Int32)) rfl ?_
    refine g_isub (pc' := 47) O ⟨dX1_outIsStep_46, rfl⟩ ?_
    refine g_iald (pc' := 48) O ⟨dX1_outIsStep_47, rfl⟩ (wC_25 ad cy h) E (fun E => ?_)
    refine g_isub (pc' := 49) O ⟨dX1_outIsStep_48, rfl⟩ ?_
    refine g_iconst (pc' := 50) O ⟨dX1_outIsStep_49, rfl⟩ (v := (1 : Int32)) rfl ?_
    refine g_icmp_gt (pc' := 53) O ⟨dX1_outIsStep_50, rfl⟩ E (tgt := 57) (by decide) (fun E => ?_) (fun E => ?_)
    · refine g_iconst (pc' := 58) O ⟨dX1_outIsStep_57, rfl⟩ (v := (0 : Int32)) rfl ?_
      obtain ⟨hn, E⟩ := ckz_of E
      cases E
      exact hret _ _ _ ⟨dX1_outIsStep_58, rfl⟩ hn
    · refine g_iconst (pc' := 54) O ⟨dX1_outIsStep_53, rfl⟩ (v := (1 : Int32)) rfl ?_
      refine g_goto (pc' := 57) O ⟨dX1_outIsStep_54, rfl⟩ (tgt := 58) (by decide) ?_
      obtain ⟨hn, E⟩ := ckz_of E
      cases E
      exact hret _ _ _ ⟨dX1_outIsStep_58, rfl⟩ hn
  · intro k34 hk34 E
    refine jn0_of (P := G l D X 3 (WC ad cy) 0 0 h 26 [] []) E ?_ ?_
    · intro E
      show G l D X 3 (WC ad cy) 0 0 h 26 [] []
      refine g_iconst (pc' := 27) O ⟨dX1_outIsStep_26, rfl⟩ (v := (0 : Int32)) rfl ?_
      obtain ⟨hn, E⟩ := ckz_of E
      cases E
      exact hret _ _ _ ⟨dX1_outIsStep_27, rfl⟩ hn
    · intro k26 hk26 E
      refine g_sub (lv' := [(0, .ref (ad 23)), (1, .int x1), (2, .int (0 : Int32))]) [1, 2, 0] rfl ?_
      refine fx1_of (P := fun (x2_1 : Int32) => G l D X 3 (WC ad cy) 0 0 h 2 [(0, .ref (ad 23)), (1, .int x1), (2, .int x2_1)] []) ?_ _ _ E
      intro self ih2 x2_1 E
      show G l D X 3 (WC ad cy) 0 0 h 2 [(0, .ref (ad 23)), (1, .int x1), (2, .int x2_1)] []
      unfold L_X1_outIsStep_23_2 at E
      refine g_iload_n (pc' := 3) O ⟨dX1_outIsStep_2, rfl⟩ (q := 2) rfl rfl ?_
      refine g_iconst (pc' := 4) O ⟨dX1_outIsStep_3, rfl⟩ (v := (1 : Int32)) rfl ?_
      refine g_iadd (pc' := 5) O ⟨dX1_outIsStep_4, rfl⟩ ?_
      refine g_iload_n (pc' := 6) O ⟨dX1_outIsStep_5, rfl⟩ (q := 1) rfl rfl ?_
      refine g_icmp_ge (pc' := 9) O ⟨dX1_outIsStep_6, rfl⟩ E (tgt := 34) (by decide) (fun E => ?_) (fun E => ?_)
      · refine g_sub (lv' := [(0, .ref (ad 23)), (1, .int x1)]) [0, 1] rfl ?_
        exact hk34 E
      · refine g_aload_n (pc' := 10) O ⟨dX1_outIsStep_9, rfl⟩ (q := 0) rfl rfl ?_
        refine gf_C_RX1_15_23 ad cy (pc' := 13) O ⟨dX1_outIsStep_10, rfl⟩ ?_
        refine g_iload_n (pc' := 14) O ⟨dX1_outIsStep_13, rfl⟩ (q := 2) rfl rfl ?_
        refine g_iald (pc' := 15) O ⟨dX1_outIsStep_14, rfl⟩ (wC_25 ad cy h) E (fun E => ?_)
        refine g_aload_n (pc' := 16) O ⟨dX1_outIsStep_15, rfl⟩ (q := 0) rfl rfl ?_
        refine gf_C_RX1_15_23 ad cy (pc' := 19) O ⟨dX1_outIsStep_16, rfl⟩ ?_
        refine g_iload_n (pc' := 20) O ⟨dX1_outIsStep_19, rfl⟩ (q := 2) rfl rfl ?_
        refine g_iconst (pc' := 21) O ⟨dX1_outIsStep_20, rfl⟩ (v := (1 : Int32)) rfl ?_
        refine g_iadd (pc' := 22) O ⟨dX1_outIsStep_21, rfl⟩ ?_
        refine g_iald (pc' := 23) O ⟨dX1_outIsStep_22, rfl⟩ (wC_25 ad cy h) E (fun E => ?_)
        refine g_icmp_ge (pc' := 26) O ⟨dX1_outIsStep_23, rfl⟩ E (tgt := 28) (by decide) (fun E => ?_) (fun E => ?_)
        · refine g_iinc (pc' := 31) O ⟨dX1_outIsStep_28, rfl⟩ (q := 2) (v := x2_1 + (1 : Int32)) (lv' := [(2, .int (x2_1 + (1 : Int32))), (0, .ref (ad 23)), (1, .int x1)]) rfl rfl (by decide) rfl ?_
          refine g_goto (pc' := 34) O ⟨dX1_outIsStep_31, rfl⟩ (tgt := 2) (by decide) ?_
          refine g_sub (lv' := [(0, .ref (ad 23)), (1, .int x1), (2, .int (x2_1 + (1 : Int32)))]) [1, 2, 0] rfl ?_
          exact ih2 _ E
        · refine g_sub (lv' := []) [] rfl ?_
          exact hk26 E
set_option maxRecDepth 100000 in
set_option maxHeartbeats 4000000 in
theorem t_X10_isStep (l : Launch) (D : va_G) (ad : Nat → Nat) (cy : Nat → ClassId) {h : Hp}  {o : Int32} (E : f_X10_isStep h = some o) : CtI l D cy (WC ad cy) yX10_isStep cX10_isStep 1 .boolean 1 22 [.ref (ad 0)] h o h := by
  refine sI (own := RX10) rfl rfl (Nat.le_of_ble_eq_true rfl) (fun X O hret => ?_)
  show G l D X 1 (WC ad cy) 0 0 h 0 [(0, .ref (ad 0))] []
  unfold f_X10_isStep at E
  refine g_aload_n (pc' := 1) O ⟨dX10_isStep_0, rfl⟩ (q := 0) rfl rfl ?_
  refine gf_C_RX10_50_0 ad cy (pc' := 4) O ⟨dX10_isStep_1, rfl⟩ ?_
  refine g_aload_n (pc' := 5) O ⟨dX10_isStep_4, rfl⟩ (q := 0) rfl rfl ?_
  refine gf_C_RX10_10_0 ad cy (pc' := 8) O ⟨dX10_isStep_5, rfl⟩ ?_
  refine gf_C_RX10_109_1 ad cy (pc' := 11) O ⟨dX10_isStep_8, rfl⟩ ?_
  obtain ⟨r_1, c_2, E⟩ := bd_of E
  refine g_Vi (pc' := 14) O ⟨dX10_isStep_11, rfl⟩ (y := yX1_outIsStep) (As := [.int (h.1 1 0)]) (st := []) (t_X1_outIsStep_23 l D ad cy (h := h) c_2) kw_706 kw_32 kw_703 kw_704 kw_705 rfl (wC_23 ad cy h) hd_X1_outIsStep ⟨Nat.le_of_ble_eq_true rfl, Nat.le_of_ble_eq_true rfl⟩ ⟨Nat.le_of_ble_eq_true rfl, Nat.le_of_ble_eq_true rfl⟩ rfl (Nat.le_of_ble_eq_true rfl) ?_
  obtain ⟨hn, E⟩ := ckz_of E
  cases E
  exact hret _ _ _ ⟨dX10_isStep_14, rfl⟩ hn
