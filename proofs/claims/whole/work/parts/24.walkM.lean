/-! WALKS, laid by program: each method does what its pure program says -/
set_option maxRecDepth 100000 in
set_option maxHeartbeats 4000000 in
theorem t_X11_bears (l : Launch) (D : va_G) (ad : Nat → Nat) (cy : Nat → ClassId) {h : Hp}  {o : Int32 × Hp} (E : f_X11_bears h = some o) : CtI l D cy (WM ad cy) yX11_bears cX11_bears 3 .boolean 2 53 [.ref (ad 0)] h o.1 o.2 := by
  refine sI (own := RX11) rfl rfl (Nat.le_of_ble_eq_true rfl) (fun X O hret => ?_)
  show G l D X 3 (WM ad cy) 0 0 h 0 [(0, .ref (ad 0))] []
  unfold f_X11_bears at E
  refine g_aload_n (pc' := 1) O ⟨dX11_bears_0, rfl⟩ (q := 0) rfl rfl ?_
  refine g_iconst (pc' := 2) O ⟨dX11_bears_1, rfl⟩ (v := (0 : Int32)) rfl ?_
  refine gp_M_RX11_70_0 ad cy (pc' := 5) O ⟨dX11_bears_2, rfl⟩ ?_
  refine g_nmh E (fun h_1 E => ?_)
  refine g_aload_n (pc' := 6) O ⟨dX11_bears_5, rfl⟩ (q := 0) rfl rfl ?_
  refine g_iconst (pc' := 7) O ⟨dX11_bears_6, rfl⟩ (v := (-1 : Int32)) rfl ?_
  refine g_iconst (pc' := 8) O ⟨dX11_bears_7, rfl⟩ (v := (0 : Int32)) rfl ?_
  obtain ⟨r_2, c_3, E⟩ := bd_of E
  refine g_Vi (pc' := 11) O ⟨dX11_bears_8, rfl⟩ (y := yX11_unsorted) (As := [.int (-1 : Int32), .int (0 : Int32)]) (st := []) (t_X11_unsorted l D ad cy (h := h_1) c_3) kw_1309 kw_70 kw_1306 kw_1308 kw_42 rfl (wM_0 ad cy h_1) hd_X11_unsorted ⟨Nat.le_of_ble_eq_true rfl, Nat.le_of_ble_eq_true rfl⟩ ⟨Nat.le_of_ble_eq_true rfl, Nat.le_of_ble_eq_true rfl⟩ rfl (Nat.le_of_ble_eq_true rfl) ?_
  refine g_if_ne (pc' := 14) O ⟨dX11_bears_11, rfl⟩ E (tgt := 18) (by decide) (fun E => ?_) (fun E => ?_)
  · refine g_iconst (pc' := 19) O ⟨dX11_bears_18, rfl⟩ (v := (0 : Int32)) rfl ?_
    refine g_istore_n (pc' := 20) O ⟨dX11_bears_19, rfl⟩ (lv' := [(1, .int (0 : Int32)), (0, .ref (ad 0))]) rfl (by decide) rfl ?_
    refine g_iconst (pc' := 21) O ⟨dX11_bears_20, rfl⟩ (v := (0 : Int32)) rfl ?_
    refine g_istore_n (pc' := 22) O ⟨dX11_bears_21, rfl⟩ (lv' := [(2, .int (0 : Int32)), (1, .int (0 : Int32)), (0, .ref (ad 0))]) rfl (by decide) rfl ?_
    refine jn1_of (P := fun (x1_4 : Int32) => G l D X 3 (WM ad cy) 0 0 h_1 55 [(1, .int x1_4)] []) E ?_ ?_
    · intro x1_4 E
      show G l D X 3 (WM ad cy) 0 0 h_1 55 [(1, .int x1_4)] []
      refine g_iload_n (pc' := 56) O ⟨dX11_bears_55, rfl⟩ (q := 0) rfl rfl ?_
      obtain ⟨hn, E⟩ := ckz_of E
      cases E
      exact hret _ _ _ ⟨dX11_bears_56, rfl⟩ hn
    · intro k55 hk55 E
      refine g_sub (lv' := [(0, .ref (ad 0)), (1, .int (0 : Int32)), (2, .int (0 : Int32))]) [2, 1, 0] rfl ?_
      refine fx2_of (P := fun (x1_5 : Int32) (x2_6 : Int32) => G l D X 3 (WM ad cy) 0 0 h_1 22 [(0, .ref (ad 0)), (1, .int x1_5), (2, .int x2_6)] []) ?_ _ _ _ E
      intro self ih22 x1_5 x2_6 E
      show G l D X 3 (WM ad cy) 0 0 h_1 22 [(0, .ref (ad 0)), (1, .int x1_5), (2, .int x2_6)] []
      unfold L_X11_bears_22 at E
      refine g_iload_n (pc' := 23) O ⟨dX11_bears_22, rfl⟩ (q := 2) rfl rfl ?_
      refine g_aload_n (pc' := 24) O ⟨dX11_bears_23, rfl⟩ (q := 0) rfl rfl ?_
      refine gf_M_RX11_81_0 ad cy (pc' := 27) O ⟨dX11_bears_24, rfl⟩ ?_
      refine g_icmp_ge (pc' := 30) O ⟨dX11_bears_27, rfl⟩ E (tgt := 55) (by decide) (fun E => ?_) (fun E => ?_)
      · refine g_sub (lv' := [(1, .int x1_5)]) [1] rfl ?_
        exact hk55 _ E
      · refine g_iload_n (pc' := 31) O ⟨dX11_bears_30, rfl⟩ (q := 1) rfl rfl ?_
        refine g_if_eq (pc' := 34) O ⟨dX11_bears_31, rfl⟩ E (tgt := 55) (by decide) (fun E => ?_) (fun E => ?_)
        · refine g_sub (lv' := [(1, .int x1_5)]) [1] rfl ?_
          exact hk55 _ E
        · refine g_aload_n (pc' := 35) O ⟨dX11_bears_34, rfl⟩ (q := 0) rfl rfl ?_
          refine g_iload_n (pc' := 36) O ⟨dX11_bears_35, rfl⟩ (q := 2) rfl rfl ?_
          refine g_iconst (pc' := 37) O ⟨dX11_bears_36, rfl⟩ (v := (0 : Int32)) rfl ?_
          obtain ⟨r_7, c_8, E⟩ := bd_of E
          refine g_Vi (pc' := 40) O ⟨dX11_bears_37, rfl⟩ (y := yX11_unsorted) (As := [.int x2_6, .int (0 : Int32)]) (st := []) (t_X11_unsorted l D ad cy (h := h_1) c_8) kw_1309 kw_70 kw_1306 kw_1308 kw_42 rfl (wM_0 ad cy h_1) hd_X11_unsorted ⟨Nat.le_of_ble_eq_true rfl, Nat.le_of_ble_eq_true rfl⟩ ⟨Nat.le_of_ble_eq_true rfl, Nat.le_of_ble_eq_true rfl⟩ rfl (Nat.le_of_ble_eq_true rfl) ?_
          refine g_if_ne (pc' := 43) O ⟨dX11_bears_40, rfl⟩ E (tgt := 47) (by decide) (fun E => ?_) (fun E => ?_)
          · refine g_iconst (pc' := 48) O ⟨dX11_bears_47, rfl⟩ (v := (0 : Int32)) rfl ?_
            refine g_istore_n (pc' := 49) O ⟨dX11_bears_48, rfl⟩ (lv' := [(1, .int (0 : Int32)), (0, .ref (ad 0)), (2, .int x2_6)]) rfl (by decide) rfl ?_
            refine g_iinc (pc' := 52) O ⟨dX11_bears_49, rfl⟩ (q := 2) (v := x2_6 + (1 : Int32)) (lv' := [(2, .int (x2_6 + (1 : Int32))), (1, .int (0 : Int32)), (0, .ref (ad 0))]) rfl rfl (by decide) rfl ?_
            refine g_goto (pc' := 55) O ⟨dX11_bears_52, rfl⟩ (tgt := 22) (by decide) ?_
            refine g_sub (lv' := [(0, .ref (ad 0)), (1, .int (0 : Int32)), (2, .int (x2_6 + (1 : Int32)))]) [2, 1, 0] rfl ?_
            exact ih22 _ _ E
          · refine g_iconst (pc' := 44) O ⟨dX11_bears_43, rfl⟩ (v := (1 : Int32)) rfl ?_
            refine g_goto (pc' := 47) O ⟨dX11_bears_44, rfl⟩ (tgt := 48) (by decide) ?_
            refine g_istore_n (pc' := 49) O ⟨dX11_bears_48, rfl⟩ (lv' := [(1, .int (1 : Int32)), (0, .ref (ad 0)), (2, .int x2_6)]) rfl (by decide) rfl ?_
            refine g_iinc (pc' := 52) O ⟨dX11_bears_49, rfl⟩ (q := 2) (v := x2_6 + (1 : Int32)) (lv' := [(2, .int (x2_6 + (1 : Int32))), (1, .int (1 : Int32)), (0, .ref (ad 0))]) rfl rfl (by decide) rfl ?_
            refine g_goto (pc' := 55) O ⟨dX11_bears_52, rfl⟩ (tgt := 22) (by decide) ?_
            refine g_sub (lv' := [(0, .ref (ad 0)), (1, .int (1 : Int32)), (2, .int (x2_6 + (1 : Int32)))]) [2, 1, 0] rfl ?_
            exact ih22 _ _ E
  · refine g_iconst (pc' := 15) O ⟨dX11_bears_14, rfl⟩ (v := (1 : Int32)) rfl ?_
    refine g_goto (pc' := 18) O ⟨dX11_bears_15, rfl⟩ (tgt := 19) (by decide) ?_
    refine g_istore_n (pc' := 20) O ⟨dX11_bears_19, rfl⟩ (lv' := [(1, .int (1 : Int32)), (0, .ref (ad 0))]) rfl (by decide) rfl ?_
    refine g_iconst (pc' := 21) O ⟨dX11_bears_20, rfl⟩ (v := (0 : Int32)) rfl ?_
    refine g_istore_n (pc' := 22) O ⟨dX11_bears_21, rfl⟩ (lv' := [(2, .int (0 : Int32)), (1, .int (1 : Int32)), (0, .ref (ad 0))]) rfl (by decide) rfl ?_
    refine jn1_of (P := fun (x1_9 : Int32) => G l D X 3 (WM ad cy) 0 0 h_1 55 [(1, .int x1_9)] []) E ?_ ?_
    · intro x1_9 E
      show G l D X 3 (WM ad cy) 0 0 h_1 55 [(1, .int x1_9)] []
      refine g_iload_n (pc' := 56) O ⟨dX11_bears_55, rfl⟩ (q := 0) rfl rfl ?_
      obtain ⟨hn, E⟩ := ckz_of E
      cases E
      exact hret _ _ _ ⟨dX11_bears_56, rfl⟩ hn
    · intro k55 hk55 E
      refine g_sub (lv' := [(0, .ref (ad 0)), (1, .int (1 : Int32)), (2, .int (0 : Int32))]) [2, 1, 0] rfl ?_
      refine fx2_of (P := fun (x1_10 : Int32) (x2_11 : Int32) => G l D X 3 (WM ad cy) 0 0 h_1 22 [(0, .ref (ad 0)), (1, .int x1_10), (2, .int x2_11)] []) ?_ _ _ _ E
      intro self ih22 x1_10 x2_11 E
      show G l D X 3 (WM ad cy) 0 0 h_1 22 [(0, .ref (ad 0)), (1, .int x1_10), (2, .int x2_11)] []
      unfold L_X11_bears_22 at E
      refine g_iload_n (pc' := 23) O ⟨dX11_bears_22, rfl⟩ (q := 2) rfl rfl ?_
      refine g_aload_n (pc' := 24) O ⟨dX11_bears_23, rfl⟩ (q := 0) rfl rfl ?_
      refine gf_M_RX11_81_0 ad cy (pc' := 27) O ⟨dX11_bears_24, rfl⟩ ?_
      refine g_icmp_ge (pc' := 30) O ⟨dX11_bears_27, rfl⟩ E (tgt := 55) (by decide) (fun E => ?_) (fun E => ?_)
      · refine g_sub (lv' := [(1, .int x1_10)]) [1] rfl ?_
        exact hk55 _ E
      · refine g_iload_n (pc' := 31) O ⟨dX11_bears_30, rfl⟩ (q := 1) rfl rfl ?_
        refine g_if_eq (pc' := 34) O ⟨dX11_bears_31, rfl⟩ E (tgt := 55) (by decide) (fun E => ?_) (fun E => ?_)
        · refine g_sub (lv' := [(1, .int x1_10)]) [1] rfl ?_
          exact hk55 _ E
        · refine g_aload_n (pc' := 35) O ⟨dX11_bears_34, rfl⟩ (q := 0) rfl rfl ?_
          refine g_iload_n (pc' := 36) O ⟨dX11_bears_35, rfl⟩ (q := 2) rfl rfl ?_
          refine g_iconst (pc' := 37) O ⟨dX11_bears_36, rfl⟩ (v := (0 : Int32)) rfl ?_
          obtain ⟨r_12, c_13, E⟩ := bd_of E
          refine g_Vi (pc' := 40) O ⟨dX11_bears_37, rfl⟩ (y := yX11_unsorted) (As := [.int x2_11, .int (0 : Int32)]) (st := []) (t_X11_unsorted l D ad cy (h := h_1) c_13) kw_1309 kw_70 kw_1306 kw_1308 kw_42 rfl (wM_0 ad cy h_1) hd_X11_unsorted ⟨Nat.le_of_ble_eq_true rfl, Nat.le_of_ble_eq_true rfl⟩ ⟨Nat.le_of_ble_eq_true rfl, Nat.le_of_ble_eq_true rfl⟩ rfl (Nat.le_of_ble_eq_true rfl) ?_
          refine g_if_ne (pc' := 43) O ⟨dX11_bears_40, rfl⟩ E (tgt := 47) (by decide) (fun E => ?_) (fun E => ?_)
          · refine g_iconst (pc' := 48) O ⟨dX11_bears_47, rfl⟩ (v := (0 : Int32)) rfl ?_
            refine g_istore_n (pc' := 49) O ⟨dX11_bears_48, rfl⟩ (lv' := [(1, .int (0 : Int32)), (0, .ref (ad 0)), (2, .int x2_11)]) rfl (by decide) rfl ?_
            refine g_iinc (pc' := 52) O ⟨dX11_bears_49, rfl⟩ (q := 2) (v := x2_11 + (1 : Int32)) (lv' := [(2, .int (x2_11 + (1 : Int32))), (1, .int (0 : Int32)), (0, .ref (ad 0))]) rfl rfl (by decide) rfl ?_
            refine g_goto (pc' := 55) O ⟨dX11_bears_52, rfl⟩ (tgt := 22) (by decide) ?_
            refine g_sub (lv' := [(0, .ref (ad 0)), (1, .int (0 : Int32)), (2, .int (x2_11 + (1 : Int32)))]) [2, 1, 0] rfl ?_
            exact ih22 _ _ E
          · refine g_iconst (pc' := 44) O ⟨dX11_bears_43, rfl⟩ (v := (1 : Int32)) rfl ?_
            refine g_goto (pc' := 47) O ⟨dX11_bears_44, rfl⟩ (tgt := 48) (by decide) ?_
            refine g_istore_n (pc' := 49) O ⟨dX11_bears_48, rfl⟩ (lv' := [(1, .int (1 : Int32)), (0, .ref (ad 0)), (2, .int x2_11)]) rfl (by decide) rfl ?_
            refine g_iinc (pc' := 52) O ⟨dX11_bears_49, rfl⟩ (q := 2) (v := x2_11 + (1 : Int32)) (lv' := [(2, .int (x2_11 + (1 : Int32))), (1, .int (1 : Int32)), (0, .ref (ad 0))]) rfl rfl (by decide) rfl ?_
            refine g_goto (pc' := 55) O ⟨dX11_bears_52, rfl⟩ (tgt := 22) (by decide) ?_
            refine g_sub (lv' := [(0, .ref (ad 0)), (1, .int (1 : Int32)), (2, .int (x2_11 + (1 : Int32)))]) [2, 1, 0] rfl ?_
            exact ih22 _ _ E
set_option maxRecDepth 100000 in
set_option maxHeartbeats 4000000 in
theorem t_X11_flips (l : Launch) (D : va_G) (ad : Nat → Nat) (cy : Nat → ClassId) {h : Hp} {x1 : Int32} {x2 : Int32} {o : Hp} (E : f_X11_flips h x1 x2 = some o) : CtV l D cy (WM ad cy) yX11_flips cX11_flips 5 1 23 [.ref (ad 0), .int x1, .int x2] h o := by
  refine sV (own := RX11) rfl rfl (Nat.le_of_ble_eq_true rfl) (fun X O hret => ?_)
  show G l D X 5 (WM ad cy) 0 0 h 0 [(0, .ref (ad 0)), (1, .int x1), (2, .int x2)] []
  unfold f_X11_flips at E
  refine g_iload_n (pc' := 1) O ⟨dX11_flips_0, rfl⟩ (q := 1) rfl rfl ?_
  refine g_istore_n (pc' := 2) O ⟨dX11_flips_1, rfl⟩ (lv' := [(3, .int x1), (0, .ref (ad 0)), (1, .int x1), (2, .int x2)]) rfl (by decide) rfl ?_
  refine g_iload_n (pc' := 3) O ⟨dX11_flips_2, rfl⟩ (q := 3) rfl rfl ?_
  refine g_iconst (pc' := 4) O ⟨dX11_flips_3, rfl⟩ (v := (1 : Int32)) rfl ?_
  refine g_isub (pc' := 5) O ⟨dX11_flips_4, rfl⟩ ?_
  refine g_nm E (fun y4_1 E => ?_)
  refine g_istore (pc' := 7) O ⟨dX11_flips_5, rfl⟩ (lv' := [(4, .int y4_1), (3, .int x1), (0, .ref (ad 0)), (1, .int x1), (2, .int x2)]) (by decide) rfl ?_
  refine jn1_of (P := fun (h_2 : Hp) => G l D X 5 (WM ad cy) 0 0 h_2 29 [] []) E ?_ ?_
  · intro h_2 E
    show G l D X 5 (WM ad cy) 0 0 h_2 29 [] []
    cases E
    exact hret _ _ _ ⟨dX11_flips_29, rfl⟩
  · intro k29 hk29 E
    refine g_sub (lv' := [(0, .ref (ad 0)), (3, .int x1), (4, .int y4_1)]) [2, 1, 0] rfl ?_
    refine fx3_of (P := fun (x3_3 : Int32) (x4_4 : Int32) (h_5 : Hp) => G l D X 5 (WM ad cy) 0 0 h_5 7 [(0, .ref (ad 0)), (3, .int x3_3), (4, .int x4_4)] []) ?_ _ _ _ _ E
    intro self ih7 x3_3 x4_4 h_5 E
    show G l D X 5 (WM ad cy) 0 0 h_5 7 [(0, .ref (ad 0)), (3, .int x3_3), (4, .int x4_4)] []
    unfold L_X11_flips_7 at E
    refine g_iload_n (pc' := 8) O ⟨dX11_flips_7, rfl⟩ (q := 1) rfl rfl ?_
    refine g_iload (pc' := 10) O ⟨dX11_flips_8, rfl⟩ (q := 2) rfl ?_
    refine g_icmp_ge (pc' := 13) O ⟨dX11_flips_10, rfl⟩ E (tgt := 29) (by decide) (fun E => ?_) (fun E => ?_)
    · refine g_sub (lv' := []) [] rfl ?_
      exact hk29 _ E
    · refine g_aload_n (pc' := 14) O ⟨dX11_flips_13, rfl⟩ (q := 0) rfl rfl ?_
      refine g_iload_n (pc' := 15) O ⟨dX11_flips_14, rfl⟩ (q := 1) rfl rfl ?_
      refine g_iload (pc' := 17) O ⟨dX11_flips_15, rfl⟩ (q := 2) rfl ?_
      obtain ⟨r_6, c_7, E⟩ := bd_of E
      refine g_Vv (pc' := 20) O ⟨dX11_flips_17, rfl⟩ (y := yX11_exchanges) (As := [.int x3_3, .int x4_4]) (st := []) (t_X11_exchanges l D ad cy (h := h_5) c_7) kw_1289 kw_70 kw_1286 kw_1288 kw_39 rfl (wM_0 ad cy h_5) hd_X11_exchanges ⟨Nat.le_of_ble_eq_true rfl, Nat.le_of_ble_eq_true rfl⟩ ⟨Nat.le_of_ble_eq_true rfl, Nat.le_of_ble_eq_true rfl⟩ rfl (Nat.le_of_ble_eq_true rfl) ?_
      refine g_iinc (pc' := 23) O ⟨dX11_flips_20, rfl⟩ (q := 1) (v := x3_3 + (1 : Int32)) (lv' := [(3, .int (x3_3 + (1 : Int32))), (0, .ref (ad 0)), (4, .int x4_4)]) rfl rfl (by decide) rfl ?_
      refine g_iinc (pc' := 26) O ⟨dX11_flips_23, rfl⟩ (q := 2) (v := x4_4 + (-1 : Int32)) (lv' := [(4, .int (x4_4 + (-1 : Int32))), (3, .int (x3_3 + (1 : Int32))), (0, .ref (ad 0))]) rfl rfl (by decide) rfl ?_
      refine g_goto (pc' := 29) O ⟨dX11_flips_26, rfl⟩ (tgt := 7) (by decide) ?_
      refine g_sub (lv' := [(0, .ref (ad 0)), (3, .int (x3_3 + (1 : Int32))), (4, .int (x4_4 + (-1 : Int32)))]) [2, 1, 0] rfl ?_
      exact ih7 _ _ _ E
set_option maxRecDepth 100000 in
set_option maxHeartbeats 4000000 in
theorem t_X11_kinds (l : Launch) (D : va_G) (ad : Nat → Nat) (cy : Nat → ClassId) {h : Hp} {x1 : Int32} {o : Int32} (E : f_X11_kinds h x1 = some o) : CtI l D cy (WM ad cy) yX11_kinds cX11_kinds 2 .int 0 0 [.ref (ad 0), .int x1] h o h := by
  refine sI (own := RX11) rfl rfl (Nat.le_of_ble_eq_true rfl) (fun X O hret => ?_)
  show G l D X 2 (WM ad cy) 0 0 h 0 [(0, .ref (ad 0)), (1, .int x1)] []
  unfold f_X11_kinds at E
  refine g_iload_n (pc' := 1) O ⟨dX11_kinds_0, rfl⟩ (q := 1) rfl rfl ?_
  refine g_if_ne (pc' := 4) O ⟨dX11_kinds_1, rfl⟩ E (tgt := 13) (by decide) (fun E => ?_) (fun E => ?_)
  · refine g_iload_n (pc' := 14) O ⟨dX11_kinds_13, rfl⟩ (q := 1) rfl rfl ?_
    refine g_iconst (pc' := 15) O ⟨dX11_kinds_14, rfl⟩ (v := (1 : Int32)) rfl ?_
    refine g_icmp_ne (pc' := 18) O ⟨dX11_kinds_15, rfl⟩ E (tgt := 30) (by decide) (fun E => ?_) (fun E => ?_)
    · refine g_iload_n (pc' := 31) O ⟨dX11_kinds_30, rfl⟩ (q := 1) rfl rfl ?_
      refine g_iconst (pc' := 32) O ⟨dX11_kinds_31, rfl⟩ (v := (2 : Int32)) rfl ?_
      refine g_icmp_ne (pc' := 35) O ⟨dX11_kinds_32, rfl⟩ E (tgt := 44) (by decide) (fun E => ?_) (fun E => ?_)
      · refine g_aload_n (pc' := 45) O ⟨dX11_kinds_44, rfl⟩ (q := 0) rfl rfl ?_
        refine gf_M_RX11_74_0 ad cy (pc' := 48) O ⟨dX11_kinds_45, rfl⟩ ?_
        refine g_aload_n (pc' := 49) O ⟨dX11_kinds_48, rfl⟩ (q := 0) rfl rfl ?_
        refine gf_M_RX11_74_0 ad cy (pc' := 52) O ⟨dX11_kinds_49, rfl⟩ ?_
        refine g_imul (pc' := 53) O ⟨dX11_kinds_52, rfl⟩ ?_
        refine g_aload_n (pc' := 54) O ⟨dX11_kinds_53, rfl⟩ (q := 0) rfl rfl ?_
        refine gf_M_RX11_74_0 ad cy (pc' := 57) O ⟨dX11_kinds_54, rfl⟩ ?_
        refine g_imul (pc' := 58) O ⟨dX11_kinds_57, rfl⟩ ?_
        cases E
        exact hret _ _ _ ⟨dX11_kinds_58, rfl⟩ rfl
      · refine g_aload_n (pc' := 36) O ⟨dX11_kinds_35, rfl⟩ (q := 0) rfl rfl ?_
        refine gf_M_RX11_74_0 ad cy (pc' := 39) O ⟨dX11_kinds_36, rfl⟩ ?_
        refine g_iconst (pc' := 40) O ⟨dX11_kinds_39, rfl⟩ (v := (1 : Int32)) rfl ?_
        refine g_isub (pc' := 41) O ⟨dX11_kinds_40, rfl⟩ ?_
        refine g_goto (pc' := 44) O ⟨dX11_kinds_41, rfl⟩ (tgt := 58) (by decide) ?_
        cases E
        exact hret _ _ _ ⟨dX11_kinds_58, rfl⟩ rfl
    · refine g_aload_n (pc' := 19) O ⟨dX11_kinds_18, rfl⟩ (q := 0) rfl rfl ?_
      refine gf_M_RX11_74_0 ad cy (pc' := 22) O ⟨dX11_kinds_19, rfl⟩ ?_
      refine g_aload_n (pc' := 23) O ⟨dX11_kinds_22, rfl⟩ (q := 0) rfl rfl ?_
      refine gf_M_RX11_74_0 ad cy (pc' := 26) O ⟨dX11_kinds_23, rfl⟩ ?_
      refine g_imul (pc' := 27) O ⟨dX11_kinds_26, rfl⟩ ?_
      refine g_goto (pc' := 30) O ⟨dX11_kinds_27, rfl⟩ (tgt := 58) (by decide) ?_
      cases E
      exact hret _ _ _ ⟨dX11_kinds_58, rfl⟩ rfl
  · refine g_aload_n (pc' := 5) O ⟨dX11_kinds_4, rfl⟩ (q := 0) rfl rfl ?_
    refine gf_M_RX11_74_0 ad cy (pc' := 8) O ⟨dX11_kinds_5, rfl⟩ ?_
    refine g_iconst (pc' := 9) O ⟨dX11_kinds_8, rfl⟩ (v := (1 : Int32)) rfl ?_
    refine g_isub (pc' := 10) O ⟨dX11_kinds_9, rfl⟩ ?_
    refine g_goto (pc' := 13) O ⟨dX11_kinds_10, rfl⟩ (tgt := 58) (by decide) ?_
    cases E
    exact hret _ _ _ ⟨dX11_kinds_58, rfl⟩ rfl
set_option maxRecDepth 100000 in
set_option maxHeartbeats 4000000 in
theorem t_X11_does (l : Launch) (D : va_G) (ad : Nat → Nat) (cy : Nat → ClassId) {h : Hp} {x1 : Int32} {x2 : Int32} {o : Int32 × Hp} (E : f_X11_does h x1 x2 = some o) : CtI l D cy (WM ad cy) yX11_does cX11_does 6 .boolean 2 47 [.ref (ad 0), .int x1, .int x2] h o.1 o.2 := by
  refine sI (own := RX11) rfl rfl (Nat.le_of_ble_eq_true rfl) (fun X O hret => ?_)
  show G l D X 6 (WM ad cy) 0 0 h 0 [(0, .ref (ad 0)), (1, .int x1), (2, .int x2)] []
  unfold f_X11_does at E
  refine g_iload_n (pc' := 1) O ⟨dX11_does_0, rfl⟩ (q := 1) rfl rfl ?_
  refine g_if_ne (pc' := 4) O ⟨dX11_does_1, rfl⟩ E (tgt := 14) (by decide) (fun E => ?_) (fun E => ?_)
  · refine g_iload_n (pc' := 15) O ⟨dX11_does_14, rfl⟩ (q := 1) rfl rfl ?_
    refine g_iconst (pc' := 16) O ⟨dX11_does_15, rfl⟩ (v := (2 : Int32)) rfl ?_
    refine g_icmp_ne (pc' := 19) O ⟨dX11_does_16, rfl⟩ E (tgt := 29) (by decide) (fun E => ?_) (fun E => ?_)
    · refine g_iload_n (pc' := 30) O ⟨dX11_does_29, rfl⟩ (q := 2) rfl rfl ?_
      refine g_aload_n (pc' := 31) O ⟨dX11_does_30, rfl⟩ (q := 0) rfl rfl ?_
      refine gf_M_RX11_74_0 ad cy (pc' := 34) O ⟨dX11_does_31, rfl⟩ ?_
      obtain ⟨nz_34, E⟩ := nz_of E
      refine g_irem (pc' := 35) O ⟨dX11_does_34, rfl⟩ nz_34 ?_
      refine g_nm E (fun y3_1 E => ?_)
      refine g_istore_n (pc' := 36) O ⟨dX11_does_35, rfl⟩ (lv' := [(3, .int y3_1), (0, .ref (ad 0)), (1, .int x1), (2, .int x2)]) rfl (by decide) rfl ?_
      refine g_iload_n (pc' := 37) O ⟨dX11_does_36, rfl⟩ (q := 3) rfl rfl ?_
      refine g_aload_n (pc' := 38) O ⟨dX11_does_37, rfl⟩ (q := 1) rfl rfl ?_
      refine gf_M_RX11_74_0 ad cy (pc' := 41) O ⟨dX11_does_38, rfl⟩ ?_
      obtain ⟨nz_41, E⟩ := nz_of E
      refine g_idiv (pc' := 42) O ⟨dX11_does_41, rfl⟩ nz_41 ?_
      refine g_aload_n (pc' := 43) O ⟨dX11_does_42, rfl⟩ (q := 1) rfl rfl ?_
      refine gf_M_RX11_74_0 ad cy (pc' := 46) O ⟨dX11_does_43, rfl⟩ ?_
      obtain ⟨nz_46, E⟩ := nz_of E
      refine g_irem (pc' := 47) O ⟨dX11_does_46, rfl⟩ nz_46 ?_
      refine g_nm E (fun y4_2 E => ?_)
      refine g_istore (pc' := 49) O ⟨dX11_does_47, rfl⟩ (lv' := [(4, .int y4_2), (3, .int y3_1), (0, .ref (ad 0)), (1, .int x1), (2, .int x2)]) (by decide) rfl ?_
      refine g_iload_n (pc' := 50) O ⟨dX11_does_49, rfl⟩ (q := 4) rfl rfl ?_
      refine g_aload_n (pc' := 51) O ⟨dX11_does_50, rfl⟩ (q := 2) rfl rfl ?_
      refine gf_M_RX11_74_0 ad cy (pc' := 54) O ⟨dX11_does_51, rfl⟩ ?_
      obtain ⟨nz_54, E⟩ := nz_of E
      refine g_idiv (pc' := 55) O ⟨dX11_does_54, rfl⟩ nz_54 ?_
      refine g_aload_n (pc' := 56) O ⟨dX11_does_55, rfl⟩ (q := 2) rfl rfl ?_
      refine gf_M_RX11_74_0 ad cy (pc' := 59) O ⟨dX11_does_56, rfl⟩ ?_
      obtain ⟨nz_59, E⟩ := nz_of E
      refine g_idiv (pc' := 60) O ⟨dX11_does_59, rfl⟩ nz_59 ?_
      refine g_iconst (pc' := 61) O ⟨dX11_does_60, rfl⟩ (v := (1 : Int32)) rfl ?_
      refine g_iadd (pc' := 62) O ⟨dX11_does_61, rfl⟩ ?_
      refine g_nm E (fun y5_3 E => ?_)
      refine g_istore (pc' := 64) O ⟨dX11_does_62, rfl⟩ (lv' := [(5, .int y5_3), (4, .int y4_2), (3, .int y3_1), (0, .ref (ad 0)), (1, .int x1), (2, .int x2)]) (by decide) rfl ?_
      refine g_iload_n (pc' := 65) O ⟨dX11_does_64, rfl⟩ (q := 4) rfl rfl ?_
      refine g_iconst (pc' := 66) O ⟨dX11_does_65, rfl⟩ (v := (1 : Int32)) rfl ?_
      refine g_icmp_ne (pc' := 69) O ⟨dX11_does_66, rfl⟩ E (tgt := 94) (by decide) (fun E => ?_) (fun E => ?_)
      · refine g_iload_n (pc' := 95) O ⟨dX11_does_94, rfl⟩ (q := 2) rfl rfl ?_
        refine g_iload (pc' := 97) O ⟨dX11_does_95, rfl⟩ (q := 1) rfl ?_
        refine g_icmp_ge (pc' := 100) O ⟨dX11_does_97, rfl⟩ E (tgt := 107) (by decide) (fun E => ?_) (fun E => ?_)
        · refine g_iconst (pc' := 108) O ⟨dX11_does_107, rfl⟩ (v := (0 : Int32)) rfl ?_
          obtain ⟨hn, E⟩ := ckz_of E
          cases E
          exact hret _ _ _ ⟨dX11_does_108, rfl⟩ hn
        · refine g_iload (pc' := 102) O ⟨dX11_does_100, rfl⟩ (q := 1) rfl ?_
          refine g_iload (pc' := 104) O ⟨dX11_does_102, rfl⟩ (q := 0) rfl ?_
          refine g_icmp_lt (pc' := 107) O ⟨dX11_does_104, rfl⟩ E (tgt := 109) (by decide) (fun E => ?_) (fun E => ?_)
          · refine g_aload_n (pc' := 110) O ⟨dX11_does_109, rfl⟩ (q := 3) rfl rfl ?_
            refine g_iload_n (pc' := 111) O ⟨dX11_does_110, rfl⟩ (q := 2) rfl rfl ?_
            refine g_iload (pc' := 113) O ⟨dX11_does_111, rfl⟩ (q := 1) rfl ?_
            obtain ⟨r_4, c_5, E⟩ := bd_of E
            refine g_Vv (pc' := 116) O ⟨dX11_does_113, rfl⟩ (y := yX11_flips) (As := [.int y3_1, .int y4_2]) (st := []) (t_X11_flips l D ad cy (h := h) c_5) kw_1429 kw_70 kw_1426 kw_1428 kw_53 rfl (wM_0 ad cy h) hd_X11_flips ⟨Nat.le_of_ble_eq_true rfl, Nat.le_of_ble_eq_true rfl⟩ ⟨Nat.le_of_ble_eq_true rfl, Nat.le_of_ble_eq_true rfl⟩ rfl (Nat.le_of_ble_eq_true rfl) ?_
            refine g_aload_n (pc' := 117) O ⟨dX11_does_116, rfl⟩ (q := 3) rfl rfl ?_
            refine g_iload (pc' := 119) O ⟨dX11_does_117, rfl⟩ (q := 1) rfl ?_
            refine g_iload (pc' := 121) O ⟨dX11_does_119, rfl⟩ (q := 0) rfl ?_
            obtain ⟨r_6, c_7, E⟩ := bd_of E
            refine g_Vv (pc' := 124) O ⟨dX11_does_121, rfl⟩ (y := yX11_flips) (As := [.int y4_2, .int y5_3]) (st := []) (t_X11_flips l D ad cy (h := r_4) c_7) kw_1429 kw_70 kw_1426 kw_1428 kw_53 rfl (wM_0 ad cy r_4) hd_X11_flips ⟨Nat.le_of_ble_eq_true rfl, Nat.le_of_ble_eq_true rfl⟩ ⟨Nat.le_of_ble_eq_true rfl, Nat.le_of_ble_eq_true rfl⟩ rfl (Nat.le_of_ble_eq_true rfl) ?_
            refine g_aload_n (pc' := 125) O ⟨dX11_does_124, rfl⟩ (q := 3) rfl rfl ?_
            refine g_iload_n (pc' := 126) O ⟨dX11_does_125, rfl⟩ (q := 2) rfl rfl ?_
            refine g_iload (pc' := 128) O ⟨dX11_does_126, rfl⟩ (q := 0) rfl ?_
            obtain ⟨r_8, c_9, E⟩ := bd_of E
            refine g_Vv (pc' := 131) O ⟨dX11_does_128, rfl⟩ (y := yX11_flips) (As := [.int y3_1, .int y5_3]) (st := []) (t_X11_flips l D ad cy (h := r_6) c_9) kw_1429 kw_70 kw_1426 kw_1428 kw_53 rfl (wM_0 ad cy r_6) hd_X11_flips ⟨Nat.le_of_ble_eq_true rfl, Nat.le_of_ble_eq_true rfl⟩ ⟨Nat.le_of_ble_eq_true rfl, Nat.le_of_ble_eq_true rfl⟩ rfl (Nat.le_of_ble_eq_true rfl) ?_
            refine g_iconst (pc' := 132) O ⟨dX11_does_131, rfl⟩ (v := (1 : Int32)) rfl ?_
            obtain ⟨hn, E⟩ := ckz_of E
            cases E
            exact hret _ _ _ ⟨dX11_does_132, rfl⟩ hn
          · refine g_iconst (pc' := 108) O ⟨dX11_does_107, rfl⟩ (v := (0 : Int32)) rfl ?_
            obtain ⟨hn, E⟩ := ckz_of E
            cases E
            exact hret _ _ _ ⟨dX11_does_108, rfl⟩ hn
      · refine g_iload_n (pc' := 70) O ⟨dX11_does_69, rfl⟩ (q := 2) rfl rfl ?_
        refine g_iload (pc' := 72) O ⟨dX11_does_70, rfl⟩ (q := 1) rfl ?_
        refine jn1_of (P := fun (h_10 : Hp) => G l D X 6 (WM ad cy) 0 0 h_10 82 [(3, .int y3_1), (4, .int y4_2)] []) E ?_ ?_
        · intro h_10 E
          show G l D X 6 (WM ad cy) 0 0 h_10 82 [(3, .int y3_1), (4, .int y4_2)] []
          refine g_iload_n (pc' := 83) O ⟨dX11_does_82, rfl⟩ (q := 0) rfl rfl ?_
          refine g_iload (pc' := 85) O ⟨dX11_does_83, rfl⟩ (q := 1) rfl ?_
          refine g_icmp_ge (pc' := 88) O ⟨dX11_does_85, rfl⟩ E (tgt := 92) (by decide) (fun E => ?_) (fun E => ?_)
          · refine g_iconst (pc' := 93) O ⟨dX11_does_92, rfl⟩ (v := (0 : Int32)) rfl ?_
            obtain ⟨hn, E⟩ := ckz_of E
            cases E
            exact hret _ _ _ ⟨dX11_does_93, rfl⟩ hn
          · refine g_iconst (pc' := 89) O ⟨dX11_does_88, rfl⟩ (v := (1 : Int32)) rfl ?_
            refine g_goto (pc' := 92) O ⟨dX11_does_89, rfl⟩ (tgt := 93) (by decide) ?_
            obtain ⟨hn, E⟩ := ckz_of E
            cases E
            exact hret _ _ _ ⟨dX11_does_93, rfl⟩ hn
        · intro k82 hk82 E
          refine g_icmp_ge (pc' := 75) O ⟨dX11_does_72, rfl⟩ E (tgt := 82) (by decide) (fun E => ?_) (fun E => ?_)
          · refine g_sub (lv' := [(3, .int y3_1), (4, .int y4_2)]) [2, 1] rfl ?_
            exact hk82 _ E
          · refine g_aload_n (pc' := 76) O ⟨dX11_does_75, rfl⟩ (q := 3) rfl rfl ?_
            refine g_iload_n (pc' := 77) O ⟨dX11_does_76, rfl⟩ (q := 2) rfl rfl ?_
            refine g_iload (pc' := 79) O ⟨dX11_does_77, rfl⟩ (q := 1) rfl ?_
            obtain ⟨r_11, c_12, E⟩ := bd_of E
            refine g_Vv (pc' := 82) O ⟨dX11_does_79, rfl⟩ (y := yX11_exchanges) (As := [.int y3_1, .int y4_2]) (st := []) (t_X11_exchanges l D ad cy (h := h) c_12) kw_1289 kw_70 kw_1286 kw_1288 kw_39 rfl (wM_0 ad cy h) hd_X11_exchanges ⟨Nat.le_of_ble_eq_true rfl, Nat.le_of_ble_eq_true rfl⟩ ⟨Nat.le_of_ble_eq_true rfl, Nat.le_of_ble_eq_true rfl⟩ rfl (Nat.le_of_ble_eq_true rfl) ?_
            refine g_sub (lv' := [(3, .int y3_1), (4, .int y4_2)]) [2, 1] rfl ?_
            exact hk82 _ E
    · refine g_aload_n (pc' := 20) O ⟨dX11_does_19, rfl⟩ (q := 0) rfl rfl ?_
      refine g_iconst (pc' := 21) O ⟨dX11_does_20, rfl⟩ (v := (0 : Int32)) rfl ?_
      refine g_iload_n (pc' := 22) O ⟨dX11_does_21, rfl⟩ (q := 2) rfl rfl ?_
      refine g_iconst (pc' := 23) O ⟨dX11_does_22, rfl⟩ (v := (2 : Int32)) rfl ?_
      refine g_iadd (pc' := 24) O ⟨dX11_does_23, rfl⟩ ?_
      obtain ⟨r_13, c_14, E⟩ := bd_of E
      refine g_Vv (pc' := 27) O ⟨dX11_does_24, rfl⟩ (y := yX11_flips) (As := [.int (0 : Int32), .int (x2 + (2 : Int32))]) (st := []) (t_X11_flips l D ad cy (h := h) c_14) kw_1429 kw_70 kw_1426 kw_1428 kw_53 rfl (wM_0 ad cy h) hd_X11_flips ⟨Nat.le_of_ble_eq_true rfl, Nat.le_of_ble_eq_true rfl⟩ ⟨Nat.le_of_ble_eq_true rfl, Nat.le_of_ble_eq_true rfl⟩ rfl (Nat.le_of_ble_eq_true rfl) ?_
      refine g_iconst (pc' := 28) O ⟨dX11_does_27, rfl⟩ (v := (1 : Int32)) rfl ?_
      obtain ⟨hn, E⟩ := ckz_of E
      cases E
      exact hret _ _ _ ⟨dX11_does_28, rfl⟩ hn
  · refine g_aload_n (pc' := 5) O ⟨dX11_does_4, rfl⟩ (q := 0) rfl rfl ?_
    refine g_iload_n (pc' := 6) O ⟨dX11_does_5, rfl⟩ (q := 2) rfl rfl ?_
    refine g_iload_n (pc' := 7) O ⟨dX11_does_6, rfl⟩ (q := 2) rfl rfl ?_
    refine g_iconst (pc' := 8) O ⟨dX11_does_7, rfl⟩ (v := (1 : Int32)) rfl ?_
    refine g_iadd (pc' := 9) O ⟨dX11_does_8, rfl⟩ ?_
    obtain ⟨r_15, c_16, E⟩ := bd_of E
    refine g_Vv (pc' := 12) O ⟨dX11_does_9, rfl⟩ (y := yX11_exchanges) (As := [.int x2, .int (x2 + (1 : Int32))]) (st := []) (t_X11_exchanges l D ad cy (h := h) c_16) kw_1289 kw_70 kw_1286 kw_1288 kw_39 rfl (wM_0 ad cy h) hd_X11_exchanges ⟨Nat.le_of_ble_eq_true rfl, Nat.le_of_ble_eq_true rfl⟩ ⟨Nat.le_of_ble_eq_true rfl, Nat.le_of_ble_eq_true rfl⟩ rfl (Nat.le_of_ble_eq_true rfl) ?_
    refine g_iconst (pc' := 13) O ⟨dX11_does_12, rfl⟩ (v := (1 : Int32)) rfl ?_
    obtain ⟨hn, E⟩ := ckz_of E
    cases E
    exact hret _ _ _ ⟨dX11_does_13, rfl⟩ hn
set_option maxRecDepth 100000 in
set_option maxHeartbeats 4000000 in
theorem t_X11_spreads (l : Launch) (D : va_G) (ad : Nat → Nat) (cy : Nat → ClassId) {h : Hp} {x1 : Int32} {o : Hp} (E : f_X11_spreads h x1 = some o) : CtV l D cy (WM ad cy) yX11_spreads cX11_spreads 5 3 72 [.ref (ad 0), .int x1] h o := by
  refine sV (own := RX11) rfl rfl (Nat.le_of_ble_eq_true rfl) (fun X O hret => ?_)
  show G l D X 5 (WM ad cy) 0 0 h 0 [(0, .ref (ad 0)), (1, .int x1)] []
  unfold f_X11_spreads at E
  refine g_iconst (pc' := 1) O ⟨dX11_spreads_0, rfl⟩ (v := (0 : Int32)) rfl ?_
  refine g_istore_n (pc' := 2) O ⟨dX11_spreads_1, rfl⟩ (lv' := [(2, .int (0 : Int32)), (0, .ref (ad 0)), (1, .int x1)]) rfl (by decide) rfl ?_
  refine jn1_of (P := fun (h_1 : Hp) => G l D X 5 (WM ad cy) 0 0 h_1 31 [(0, .ref (ad 0)), (1, .int x1)] []) E ?_ ?_
  · intro h_1 E
    show G l D X 5 (WM ad cy) 0 0 h_1 31 [(0, .ref (ad 0)), (1, .int x1)] []
    refine g_aload_n (pc' := 32) O ⟨dX11_spreads_31, rfl⟩ (q := 0) rfl rfl ?_
    refine gf_M_RX11_47_0 ad cy (pc' := 35) O ⟨dX11_spreads_32, rfl⟩ ?_
    refine g_iconst (pc' := 36) O ⟨dX11_spreads_35, rfl⟩ (v := (0 : Int32)) rfl ?_
    refine g_iconst (pc' := 37) O ⟨dX11_spreads_36, rfl⟩ (v := (0 : Int32)) rfl ?_
    refine g_iast (pc' := 38) O ⟨dX11_spreads_37, rfl⟩ (wM_13 ad cy h_1) (vM_13 ad cy h_1 _) E (fun E => ?_)
    refine g_nmh E (fun h_2 E => ?_)
    refine g_aload_n (pc' := 39) O ⟨dX11_spreads_38, rfl⟩ (q := 0) rfl rfl ?_
    refine g_iconst (pc' := 40) O ⟨dX11_spreads_39, rfl⟩ (v := (1 : Int32)) rfl ?_
    refine gp_M_RX11_203_0 ad cy (pc' := 43) O ⟨dX11_spreads_40, rfl⟩ ?_
    refine g_nmh E (fun h_3 E => ?_)
    refine g_iconst (pc' := 44) O ⟨dX11_spreads_43, rfl⟩ (v := (0 : Int32)) rfl ?_
    refine g_istore_n (pc' := 45) O ⟨dX11_spreads_44, rfl⟩ (lv' := [(2, .int (0 : Int32)), (0, .ref (ad 0)), (1, .int x1)]) rfl (by decide) rfl ?_
    refine jn1_of (P := fun (h_4 : Hp) => G l D X 5 (WM ad cy) 0 0 h_4 157 [] []) E ?_ ?_
    · intro h_4 E
      show G l D X 5 (WM ad cy) 0 0 h_4 157 [] []
      cases E
      exact hret _ _ _ ⟨dX11_spreads_157, rfl⟩
    · intro k157 hk157 E
      refine g_sub (lv' := [(0, .ref (ad 0)), (1, .int x1), (2, .int (0 : Int32))]) [1, 2, 0] rfl ?_
      refine fx2_of (P := fun (x2_5 : Int32) (h_6 : Hp) => G l D X 5 (WM ad cy) 0 0 h_6 45 [(0, .ref (ad 0)), (1, .int x1), (2, .int x2_5)] []) ?_ _ _ _ E
      intro self ih45 x2_5 h_6 E
      show G l D X 5 (WM ad cy) 0 0 h_6 45 [(0, .ref (ad 0)), (1, .int x1), (2, .int x2_5)] []
      unfold L_X11_spreads_45 at E
      refine g_iload_n (pc' := 46) O ⟨dX11_spreads_45, rfl⟩ (q := 2) rfl rfl ?_
      refine g_aload_n (pc' := 47) O ⟨dX11_spreads_46, rfl⟩ (q := 0) rfl rfl ?_
      refine gf_M_RX11_203_0 ad cy (pc' := 50) O ⟨dX11_spreads_47, rfl⟩ ?_
      refine g_icmp_ge (pc' := 53) O ⟨dX11_spreads_50, rfl⟩ E (tgt := 157) (by decide) (fun E => ?_) (fun E => ?_)
      · refine g_sub (lv' := []) [] rfl ?_
        exact hk157 _ E
      · refine g_iconst (pc' := 54) O ⟨dX11_spreads_53, rfl⟩ (v := (0 : Int32)) rfl ?_
        refine g_istore_n (pc' := 55) O ⟨dX11_spreads_54, rfl⟩ (lv' := [(3, .int (0 : Int32)), (0, .ref (ad 0)), (1, .int x1), (2, .int x2_5)]) rfl (by decide) rfl ?_
        refine jn1_of (P := fun (h_7 : Hp) => G l D X 5 (WM ad cy) 0 0 h_7 151 [(0, .ref (ad 0)), (1, .int x1), (2, .int x2_5)] []) E ?_ ?_
        · intro h_7 E
          show G l D X 5 (WM ad cy) 0 0 h_7 151 [(0, .ref (ad 0)), (1, .int x1), (2, .int x2_5)] []
          refine g_iinc (pc' := 154) O ⟨dX11_spreads_151, rfl⟩ (q := 2) (v := x2_5 + (1 : Int32)) (lv' := [(2, .int (x2_5 + (1 : Int32))), (0, .ref (ad 0)), (1, .int x1)]) rfl rfl (by decide) rfl ?_
          refine g_goto (pc' := 157) O ⟨dX11_spreads_154, rfl⟩ (tgt := 45) (by decide) ?_
          refine g_sub (lv' := [(0, .ref (ad 0)), (1, .int x1), (2, .int (x2_5 + (1 : Int32)))]) [1, 2, 0] rfl ?_
          exact ih45 _ _ E
        · intro k151 hk151 E
          refine g_sub (lv' := [(0, .ref (ad 0)), (1, .int x1), (2, .int x2_5), (3, .int (0 : Int32))]) [1, 2, 3, 0] rfl ?_
          refine fx2_of (P := fun (x3_8 : Int32) (h_9 : Hp) => G l D X 5 (WM ad cy) 0 0 h_9 55 [(0, .ref (ad 0)), (1, .int x1), (2, .int x2_5), (3, .int x3_8)] []) ?_ _ _ _ E
          intro self ih55 x3_8 h_9 E
          show G l D X 5 (WM ad cy) 0 0 h_9 55 [(0, .ref (ad 0)), (1, .int x1), (2, .int x2_5), (3, .int x3_8)] []
          unfold L_X11_spreads_55 at E
          refine g_iload_n (pc' := 56) O ⟨dX11_spreads_55, rfl⟩ (q := 3) rfl rfl ?_
          refine g_aload_n (pc' := 57) O ⟨dX11_spreads_56, rfl⟩ (q := 0) rfl rfl ?_
          refine g_iload_n (pc' := 58) O ⟨dX11_spreads_57, rfl⟩ (q := 1) rfl rfl ?_
          obtain ⟨r_10, c_11, E⟩ := bd_of E
          refine g_Vi (pc' := 61) O ⟨dX11_spreads_58, rfl⟩ (y := yX11_kinds) (As := [.int x1]) (st := [.int x3_8]) (t_X11_kinds l D ad cy (h := h_9) c_11) kw_1421 kw_70 kw_1418 kw_1420 kw_51 rfl (wM_0 ad cy h_9) hd_X11_kinds ⟨Nat.le_of_ble_eq_true rfl, Nat.le_of_ble_eq_true rfl⟩ ⟨Nat.le_of_ble_eq_true rfl, Nat.le_of_ble_eq_true rfl⟩ rfl (Nat.le_of_ble_eq_true rfl) ?_
          refine g_icmp_ge (pc' := 64) O ⟨dX11_spreads_61, rfl⟩ E (tgt := 151) (by decide) (fun E => ?_) (fun E => ?_)
          · refine g_sub (lv' := [(0, .ref (ad 0)), (1, .int x1), (2, .int x2_5)]) [0, 1, 2] rfl ?_
            exact hk151 _ E
          · refine g_aload_n (pc' := 65) O ⟨dX11_spreads_64, rfl⟩ (q := 0) rfl rfl ?_
            refine g_aload_n (pc' := 66) O ⟨dX11_spreads_65, rfl⟩ (q := 0) rfl rfl ?_
            refine gf_M_RX11_47_0 ad cy (pc' := 69) O ⟨dX11_spreads_66, rfl⟩ ?_
            refine g_iload_n (pc' := 70) O ⟨dX11_spreads_69, rfl⟩ (q := 2) rfl rfl ?_
            refine g_iald (pc' := 71) O ⟨dX11_spreads_70, rfl⟩ (wM_13 ad cy h_9) E (fun E => ?_)
            obtain ⟨r_12, c_13, E⟩ := bd_of E
            refine g_Vv (pc' := 74) O ⟨dX11_spreads_71, rfl⟩ (y := yX11_lays) (As := [.int (h_9.1 13 x2_5.toNatClampNeg)]) (st := []) (t_X11_lays l D ad cy (h := h_9) c_13) kw_1320 kw_70 kw_1317 kw_1319 kw_43 rfl (wM_0 ad cy h_9) hd_X11_lays ⟨Nat.le_of_ble_eq_true rfl, Nat.le_of_ble_eq_true rfl⟩ ⟨Nat.le_of_ble_eq_true rfl, Nat.le_of_ble_eq_true rfl⟩ rfl (Nat.le_of_ble_eq_true rfl) ?_
            refine g_aload_n (pc' := 75) O ⟨dX11_spreads_74, rfl⟩ (q := 0) rfl rfl ?_
            refine g_iload_n (pc' := 76) O ⟨dX11_spreads_75, rfl⟩ (q := 1) rfl rfl ?_
            refine g_iload_n (pc' := 77) O ⟨dX11_spreads_76, rfl⟩ (q := 3) rfl rfl ?_
            obtain ⟨r_14, c_15, E⟩ := bd_of E
            refine g_Vi (pc' := 80) O ⟨dX11_spreads_77, rfl⟩ (y := yX11_does) (As := [.int x1, .int x3_8]) (st := []) (t_X11_does l D ad cy (h := r_12) c_15) kw_1425 kw_70 kw_1422 kw_1424 kw_52 rfl (wM_0 ad cy r_12) hd_X11_does ⟨Nat.le_of_ble_eq_true rfl, Nat.le_of_ble_eq_true rfl⟩ ⟨Nat.le_of_ble_eq_true rfl, Nat.le_of_ble_eq_true rfl⟩ rfl (Nat.le_of_ble_eq_true rfl) ?_
            refine jn1_of (P := fun (z_16 : Int32) => G l D X 5 (WM ad cy) 0 0 r_14.2 91 [(0, .ref (ad 0)), (1, .int x1), (2, .int x2_5), (3, .int x3_8)] [.int z_16]) E ?_ ?_
            · intro z_16 E
              show G l D X 5 (WM ad cy) 0 0 r_14.2 91 [(0, .ref (ad 0)), (1, .int x1), (2, .int x2_5), (3, .int x3_8)] [.int z_16]
              refine g_istore (pc' := 93) O ⟨dX11_spreads_91, rfl⟩ (lv' := [(4, .int z_16), (0, .ref (ad 0)), (1, .int x1), (2, .int x2_5), (3, .int x3_8)]) (by decide) rfl ?_
              refine g_aload_n (pc' := 94) O ⟨dX11_spreads_93, rfl⟩ (q := 1) rfl rfl ?_
              refine gf_M_RX11_44_0 ad cy (pc' := 97) O ⟨dX11_spreads_94, rfl⟩ ?_
              refine g_iload (pc' := 99) O ⟨dX11_spreads_97, rfl⟩ (q := 0) rfl ?_
              refine g_iald (pc' := 100) O ⟨dX11_spreads_99, rfl⟩ (wM_12 ad cy r_14.2) E (fun E => ?_)
              refine g_iconst (pc' := 101) O ⟨dX11_spreads_100, rfl⟩ (v := (-1 : Int32)) rfl ?_
              refine g_icmp_ne (pc' := 104) O ⟨dX11_spreads_101, rfl⟩ E (tgt := 145) (by decide) (fun E => ?_) (fun E => ?_)
              · refine g_iinc (pc' := 148) O ⟨dX11_spreads_145, rfl⟩ (q := 4) (v := x3_8 + (1 : Int32)) (lv' := [(3, .int (x3_8 + (1 : Int32))), (4, .int z_16), (0, .ref (ad 0)), (1, .int x1), (2, .int x2_5)]) rfl rfl (by decide) rfl ?_
                refine g_goto (pc' := 151) O ⟨dX11_spreads_148, rfl⟩ (tgt := 55) (by decide) ?_
                refine g_sub (lv' := [(0, .ref (ad 0)), (1, .int x1), (2, .int x2_5), (3, .int (x3_8 + (1 : Int32)))]) [2, 3, 4, 0] rfl ?_
                exact ih55 _ _ E
              · refine g_aload_n (pc' := 105) O ⟨dX11_spreads_104, rfl⟩ (q := 1) rfl rfl ?_
                refine gf_M_RX11_44_0 ad cy (pc' := 108) O ⟨dX11_spreads_105, rfl⟩ ?_
                refine g_iload (pc' := 110) O ⟨dX11_spreads_108, rfl⟩ (q := 0) rfl ?_
                refine g_aload_n (pc' := 111) O ⟨dX11_spreads_110, rfl⟩ (q := 1) rfl rfl ?_
                refine gf_M_RX11_44_0 ad cy (pc' := 114) O ⟨dX11_spreads_111, rfl⟩ ?_
                refine g_aload_n (pc' := 115) O ⟨dX11_spreads_114, rfl⟩ (q := 1) rfl rfl ?_
                refine gf_M_RX11_47_0 ad cy (pc' := 118) O ⟨dX11_spreads_115, rfl⟩ ?_
                refine g_iload_n (pc' := 119) O ⟨dX11_spreads_118, rfl⟩ (q := 3) rfl rfl ?_
                refine g_iald (pc' := 120) O ⟨dX11_spreads_119, rfl⟩ (wM_13 ad cy r_14.2) E (fun E => ?_)
                refine g_iald (pc' := 121) O ⟨dX11_spreads_120, rfl⟩ (wM_12 ad cy r_14.2) E (fun E => ?_)
                refine g_iconst (pc' := 122) O ⟨dX11_spreads_121, rfl⟩ (v := (1 : Int32)) rfl ?_
                refine g_iadd (pc' := 123) O ⟨dX11_spreads_122, rfl⟩ ?_
                refine g_iast (pc' := 124) O ⟨dX11_spreads_123, rfl⟩ (wM_12 ad cy r_14.2) (vM_12 ad cy r_14.2 _) E (fun E => ?_)
                refine g_nmh E (fun h_17 E => ?_)
                refine g_aload_n (pc' := 125) O ⟨dX11_spreads_124, rfl⟩ (q := 1) rfl rfl ?_
                refine gf_M_RX11_47_0 ad cy (pc' := 128) O ⟨dX11_spreads_125, rfl⟩ ?_
                refine g_aload_n (pc' := 129) O ⟨dX11_spreads_128, rfl⟩ (q := 1) rfl rfl ?_
                refine gf_M_RX11_203_0 ad cy (pc' := 132) O ⟨dX11_spreads_129, rfl⟩ ?_
                refine g_iload (pc' := 134) O ⟨dX11_spreads_132, rfl⟩ (q := 0) rfl ?_
                refine g_iast (pc' := 135) O ⟨dX11_spreads_134, rfl⟩ (wM_13 ad cy h_17) (vM_13 ad cy h_17 _) E (fun E => ?_)
                refine g_nmh E (fun h_18 E => ?_)
                refine g_aload_n (pc' := 136) O ⟨dX11_spreads_135, rfl⟩ (q := 1) rfl rfl ?_
                refine g_dup (pc' := 137) O ⟨dX11_spreads_136, rfl⟩ rfl ?_
                refine gf_M_RX11_203_0 ad cy (pc' := 140) O ⟨dX11_spreads_137, rfl⟩ ?_
                refine g_iconst (pc' := 141) O ⟨dX11_spreads_140, rfl⟩ (v := (1 : Int32)) rfl ?_
                refine g_iadd (pc' := 142) O ⟨dX11_spreads_141, rfl⟩ ?_
                refine gp_M_RX11_203_0 ad cy (pc' := 145) O ⟨dX11_spreads_142, rfl⟩ ?_
                refine g_nmh E (fun h_19 E => ?_)
                refine g_iinc (pc' := 148) O ⟨dX11_spreads_145, rfl⟩ (q := 4) (v := x3_8 + (1 : Int32)) (lv' := [(3, .int (x3_8 + (1 : Int32))), (4, .int z_16), (0, .ref (ad 0)), (1, .int x1), (2, .int x2_5)]) rfl rfl (by decide) rfl ?_
                refine g_goto (pc' := 151) O ⟨dX11_spreads_148, rfl⟩ (tgt := 55) (by decide) ?_
                refine g_sub (lv' := [(0, .ref (ad 0)), (1, .int x1), (2, .int x2_5), (3, .int (x3_8 + (1 : Int32)))]) [2, 3, 4, 0] rfl ?_
                exact ih55 _ _ E
            · intro k91 hk91 E
              refine g_if_eq (pc' := 83) O ⟨dX11_spreads_80, rfl⟩ E (tgt := 90) (by decide) (fun E => ?_) (fun E => ?_)
              · refine g_iconst (pc' := 91) O ⟨dX11_spreads_90, rfl⟩ (v := (0 : Int32)) rfl ?_
                exact hk91 _ E
              · refine g_aload_n (pc' := 84) O ⟨dX11_spreads_83, rfl⟩ (q := 0) rfl rfl ?_
                obtain ⟨r_20, c_21, E⟩ := bd_of E
                refine g_Vi (pc' := 87) O ⟨dX11_spreads_84, rfl⟩ (y := yX11_numberOf) (As := []) (st := []) (t_X11_numberOf l D ad cy (h := r_14.2) c_21) kw_1281 kw_70 kw_1278 kw_1280 kw_37 rfl (wM_0 ad cy r_14.2) hd_X11_numberOf ⟨Nat.le_of_ble_eq_true rfl, Nat.le_of_ble_eq_true rfl⟩ ⟨Nat.le_of_ble_eq_true rfl, Nat.le_of_ble_eq_true rfl⟩ rfl (Nat.le_of_ble_eq_true rfl) ?_
                refine g_goto (pc' := 90) O ⟨dX11_spreads_87, rfl⟩ (tgt := 91) (by decide) ?_
                exact hk91 _ E
  · intro k31 hk31 E
    refine g_sub (lv' := [(0, .ref (ad 0)), (1, .int x1), (2, .int (0 : Int32))]) [1, 2, 0] rfl ?_
    refine fx2_of (P := fun (x2_22 : Int32) (h_23 : Hp) => G l D X 5 (WM ad cy) 0 0 h_23 2 [(0, .ref (ad 0)), (1, .int x1), (2, .int x2_22)] []) ?_ _ _ _ E
    intro self ih2 x2_22 h_23 E
    show G l D X 5 (WM ad cy) 0 0 h_23 2 [(0, .ref (ad 0)), (1, .int x1), (2, .int x2_22)] []
    unfold L_X11_spreads_2 at E
    refine g_iload_n (pc' := 3) O ⟨dX11_spreads_2, rfl⟩ (q := 2) rfl rfl ?_
    refine g_aload_n (pc' := 4) O ⟨dX11_spreads_3, rfl⟩ (q := 0) rfl rfl ?_
    refine gf_M_RX11_88_0 ad cy (pc' := 7) O ⟨dX11_spreads_4, rfl⟩ ?_
    refine g_icmp_ge (pc' := 10) O ⟨dX11_spreads_7, rfl⟩ E (tgt := 31) (by decide) (fun E => ?_) (fun E => ?_)
    · refine g_sub (lv' := [(0, .ref (ad 0)), (1, .int x1)]) [0, 1] rfl ?_
      exact hk31 _ E
    · refine g_aload_n (pc' := 11) O ⟨dX11_spreads_10, rfl⟩ (q := 0) rfl rfl ?_
      refine gf_M_RX11_44_0 ad cy (pc' := 14) O ⟨dX11_spreads_11, rfl⟩ ?_
      refine g_iload_n (pc' := 15) O ⟨dX11_spreads_14, rfl⟩ (q := 2) rfl rfl ?_
      refine g_iload_n (pc' := 16) O ⟨dX11_spreads_15, rfl⟩ (q := 2) rfl rfl ?_
      refine g_if_ne (pc' := 19) O ⟨dX11_spreads_16, rfl⟩ E (tgt := 23) (by decide) (fun E => ?_) (fun E => ?_)
      · refine g_iconst (pc' := 24) O ⟨dX11_spreads_23, rfl⟩ (v := (-1 : Int32)) rfl ?_
        refine g_iast (pc' := 25) O ⟨dX11_spreads_24, rfl⟩ (wM_12 ad cy h_23) (vM_12 ad cy h_23 _) E (fun E => ?_)
        refine g_nmh E (fun h_24 E => ?_)
        refine g_iinc (pc' := 28) O ⟨dX11_spreads_25, rfl⟩ (q := 2) (v := x2_22 + (1 : Int32)) (lv' := [(2, .int (x2_22 + (1 : Int32))), (0, .ref (ad 0)), (1, .int x1)]) rfl rfl (by decide) rfl ?_
        refine g_goto (pc' := 31) O ⟨dX11_spreads_28, rfl⟩ (tgt := 2) (by decide) ?_
        refine g_sub (lv' := [(0, .ref (ad 0)), (1, .int x1), (2, .int (x2_22 + (1 : Int32)))]) [1, 2, 0] rfl ?_
        exact ih2 _ _ E
      · refine g_iconst (pc' := 20) O ⟨dX11_spreads_19, rfl⟩ (v := (0 : Int32)) rfl ?_
        refine g_goto (pc' := 23) O ⟨dX11_spreads_20, rfl⟩ (tgt := 24) (by decide) ?_
        refine g_iast (pc' := 25) O ⟨dX11_spreads_24, rfl⟩ (wM_12 ad cy h_23) (vM_12 ad cy h_23 _) E (fun E => ?_)
        refine g_nmh E (fun h_25 E => ?_)
        refine g_iinc (pc' := 28) O ⟨dX11_spreads_25, rfl⟩ (q := 2) (v := x2_22 + (1 : Int32)) (lv' := [(2, .int (x2_22 + (1 : Int32))), (0, .ref (ad 0)), (1, .int x1)]) rfl rfl (by decide) rfl ?_
        refine g_goto (pc' := 31) O ⟨dX11_spreads_28, rfl⟩ (tgt := 2) (by decide) ?_
        refine g_sub (lv' := [(0, .ref (ad 0)), (1, .int x1), (2, .int (x2_22 + (1 : Int32)))]) [1, 2, 0] rfl ?_
        exact ih2 _ _ E
set_option maxRecDepth 100000 in
set_option maxHeartbeats 4000000 in
theorem t_X11_far (l : Launch) (D : va_G) (ad : Nat → Nat) (cy : Nat → ClassId) {h : Hp} {x1 : Int32} {x2 : Int32} {o : Int32 × Hp} (E : f_X11_far h x1 x2 = some o) : CtI l D cy (WM ad cy) yX11_far cX11_far 4 .int 4 96 [.ref (ad 0), .int x1, .int x2] h o.1 o.2 := by
  refine sI (own := RX11) rfl rfl (Nat.le_of_ble_eq_true rfl) (fun X O hret => ?_)
  show G l D X 4 (WM ad cy) 0 0 h 0 [(0, .ref (ad 0)), (1, .int x1), (2, .int x2)] []
  unfold f_X11_far at E
  refine g_aload_n (pc' := 1) O ⟨dX11_far_0, rfl⟩ (q := 0) rfl rfl ?_
  refine g_iload_n (pc' := 2) O ⟨dX11_far_1, rfl⟩ (q := 2) rfl rfl ?_
  obtain ⟨r_1, c_2, E⟩ := bd_of E
  refine g_Vi (pc' := 5) O ⟨dX11_far_2, rfl⟩ (y := yX11_rowOf) (As := [.int x2]) (st := []) (t_X11_rowOf l D ad cy (h := h) c_2) kw_1277 kw_70 kw_1274 kw_1276 kw_36 rfl (wM_0 ad cy h) hd_X11_rowOf ⟨Nat.le_of_ble_eq_true rfl, Nat.le_of_ble_eq_true rfl⟩ ⟨Nat.le_of_ble_eq_true rfl, Nat.le_of_ble_eq_true rfl⟩ rfl (Nat.le_of_ble_eq_true rfl) ?_
  refine g_istore_n (pc' := 6) O ⟨dX11_far_5, rfl⟩ (lv' := [(3, .int r_1.1), (0, .ref (ad 0)), (1, .int x1), (2, .int x2)]) rfl (by decide) rfl ?_
  refine g_aload_n (pc' := 7) O ⟨dX11_far_6, rfl⟩ (q := 1) rfl rfl ?_
  refine g_iload_n (pc' := 8) O ⟨dX11_far_7, rfl⟩ (q := 2) rfl rfl ?_
  refine g_iconst (pc' := 9) O ⟨dX11_far_8, rfl⟩ (v := (0 : Int32)) rfl ?_
  refine g_iconst (pc' := 10) O ⟨dX11_far_9, rfl⟩ (v := (3 : Int32)) rfl ?_
  obtain ⟨r_3, c_4, E⟩ := bd_of E
  refine g_Si (pc' := 13) O ⟨dX11_far_10, rfl⟩ (y := yX11_in) (As := [.int x1, .int (0 : Int32), .int (3 : Int32)]) (st := [.ref (ad 0)]) (t_X11_in l D ad cy (h := r_1.2) c_4) kw_1167 kw_70 kw_1165 kw_1166 hd_X11_in ⟨Nat.le_of_ble_eq_true rfl, Nat.le_of_ble_eq_true rfl⟩ ⟨Nat.le_of_ble_eq_true rfl, Nat.le_of_ble_eq_true rfl⟩ rfl (Nat.le_of_ble_eq_true rfl) ?_
  refine jn1_of (P := fun (z_5 : Int32) => G l D X 4 (WM ad cy) 0 0 r_1.2 26 [(0, .ref (ad 0)), (1, .int x1), (3, .int r_1.1)] [.int z_5, .ref (ad 0)]) E ?_ ?_
  · intro z_5 E
    show G l D X 4 (WM ad cy) 0 0 r_1.2 26 [(0, .ref (ad 0)), (1, .int x1), (3, .int r_1.1)] [.int z_5, .ref (ad 0)]
    refine gp_M_RX11_70_0 ad cy (pc' := 29) O ⟨dX11_far_26, rfl⟩ ?_
    refine g_nmh E (fun h_6 E => ?_)
    refine g_aload_n (pc' := 30) O ⟨dX11_far_29, rfl⟩ (q := 0) rfl rfl ?_
    refine gf_M_RX11_70_0 ad cy (pc' := 33) O ⟨dX11_far_30, rfl⟩ ?_
    refine g_if_le (pc' := 36) O ⟨dX11_far_33, rfl⟩ E (tgt := 38) (by decide) (fun E => ?_) (fun E => ?_)
    · refine g_aload_n (pc' := 39) O ⟨dX11_far_38, rfl⟩ (q := 0) rfl rfl ?_
      refine g_iload_n (pc' := 40) O ⟨dX11_far_39, rfl⟩ (q := 1) rfl rfl ?_
      obtain ⟨r_7, c_8, E⟩ := bd_of E
      refine g_Vv (pc' := 43) O ⟨dX11_far_40, rfl⟩ (y := yX11_spreads) (As := [.int x1]) (st := []) (t_X11_spreads l D ad cy (h := h_6) c_8) kw_1417 kw_70 kw_1414 kw_1416 kw_50 rfl (wM_0 ad cy h_6) hd_X11_spreads ⟨Nat.le_of_ble_eq_true rfl, Nat.le_of_ble_eq_true rfl⟩ ⟨Nat.le_of_ble_eq_true rfl, Nat.le_of_ble_eq_true rfl⟩ rfl (Nat.le_of_ble_eq_true rfl) ?_
      refine g_aload_n (pc' := 44) O ⟨dX11_far_43, rfl⟩ (q := 0) rfl rfl ?_
      refine gf_M_RX11_44_0 ad cy (pc' := 47) O ⟨dX11_far_44, rfl⟩ ?_
      refine g_iload_n (pc' := 48) O ⟨dX11_far_47, rfl⟩ (q := 2) rfl rfl ?_
      refine g_iald (pc' := 49) O ⟨dX11_far_48, rfl⟩ (wM_12 ad cy r_7) E (fun E => ?_)
      cases E
      exact hret _ _ _ ⟨dX11_far_49, rfl⟩ rfl
    · refine g_iconst (pc' := 37) O ⟨dX11_far_36, rfl⟩ (v := (0 : Int32)) rfl ?_
      cases E
      exact hret _ _ _ ⟨dX11_far_37, rfl⟩ rfl
  · intro k26 hk26 E
    refine jn0_of (P := G l D X 4 (WM ad cy) 0 0 r_1.2 21 [(0, .ref (ad 0)), (1, .int x1), (3, .int r_1.1)] [.ref (ad 0)]) E ?_ ?_
    · intro E
      show G l D X 4 (WM ad cy) 0 0 r_1.2 21 [(0, .ref (ad 0)), (1, .int x1), (3, .int r_1.1)] [.ref (ad 0)]
      refine g_iconst (pc' := 22) O ⟨dX11_far_21, rfl⟩ (v := (1 : Int32)) rfl ?_
      refine g_goto (pc' := 25) O ⟨dX11_far_22, rfl⟩ (tgt := 26) (by decide) ?_
      exact hk26 _ E
    · intro k21 hk21 E
      refine g_if_eq (pc' := 16) O ⟨dX11_far_13, rfl⟩ E (tgt := 21) (by decide) (fun E => ?_) (fun E => ?_)
      · refine g_sub (lv' := [(0, .ref (ad 0)), (1, .int x1), (3, .int r_1.1)]) [1, 2, 0] rfl ?_
        exact hk21 E
      · refine g_iload_n (pc' := 17) O ⟨dX11_far_16, rfl⟩ (q := 0) rfl rfl ?_
        refine g_iconst (pc' := 18) O ⟨dX11_far_17, rfl⟩ (v := (-1 : Int32)) rfl ?_
        refine g_icmp_ne (pc' := 21) O ⟨dX11_far_18, rfl⟩ E (tgt := 25) (by decide) (fun E => ?_) (fun E => ?_)
        · refine g_iconst (pc' := 26) O ⟨dX11_far_25, rfl⟩ (v := (0 : Int32)) rfl ?_
          refine g_sub (lv' := [(0, .ref (ad 0)), (1, .int x1), (3, .int r_1.1)]) [1, 2, 0] rfl ?_
          exact hk26 _ E
        · refine g_sub (lv' := [(0, .ref (ad 0)), (1, .int x1), (3, .int r_1.1)]) [1, 2, 0] rfl ?_
          exact hk21 E
set_option maxRecDepth 100000 in
set_option maxHeartbeats 4000000 in
theorem t_X11_step (l : Launch) (D : va_G) (ad : Nat → Nat) (cy : Nat → ClassId) {h : Hp} {x1 : Int32} {x2 : Int32} {o : Int32 × Hp} (E : f_X11_step h x1 x2 = some o) : CtI l D cy (WM ad cy) yX11_step cX11_step 7 .int 4 96 [.ref (ad 0), .int x1, .int x2] h o.1 o.2 := by
  refine sI (own := RX11) rfl rfl (Nat.le_of_ble_eq_true rfl) (fun X O hret => ?_)
  show G l D X 7 (WM ad cy) 0 0 h 0 [(0, .ref (ad 0)), (1, .int x1), (2, .int x2)] []
  unfold f_X11_step at E
  refine g_aload_n (pc' := 1) O ⟨dX11_step_0, rfl⟩ (q := 0) rfl rfl ?_
  refine g_iload_n (pc' := 2) O ⟨dX11_step_1, rfl⟩ (q := 2) rfl rfl ?_
  obtain ⟨r_1, c_2, E⟩ := bd_of E
  refine g_Vi (pc' := 5) O ⟨dX11_step_2, rfl⟩ (y := yX11_rowOf) (As := [.int x2]) (st := []) (t_X11_rowOf l D ad cy (h := h) c_2) kw_1277 kw_70 kw_1274 kw_1276 kw_36 rfl (wM_0 ad cy h) hd_X11_rowOf ⟨Nat.le_of_ble_eq_true rfl, Nat.le_of_ble_eq_true rfl⟩ ⟨Nat.le_of_ble_eq_true rfl, Nat.le_of_ble_eq_true rfl⟩ rfl (Nat.le_of_ble_eq_true rfl) ?_
  refine g_istore_n (pc' := 6) O ⟨dX11_step_5, rfl⟩ (lv' := [(3, .int r_1.1), (0, .ref (ad 0)), (1, .int x1), (2, .int x2)]) rfl (by decide) rfl ?_
  refine g_aload_n (pc' := 7) O ⟨dX11_step_6, rfl⟩ (q := 1) rfl rfl ?_
  refine g_iload_n (pc' := 8) O ⟨dX11_step_7, rfl⟩ (q := 2) rfl rfl ?_
  refine g_iconst (pc' := 9) O ⟨dX11_step_8, rfl⟩ (v := (0 : Int32)) rfl ?_
  refine g_iconst (pc' := 10) O ⟨dX11_step_9, rfl⟩ (v := (3 : Int32)) rfl ?_
  obtain ⟨r_3, c_4, E⟩ := bd_of E
  refine g_Si (pc' := 13) O ⟨dX11_step_10, rfl⟩ (y := yX11_in) (As := [.int x1, .int (0 : Int32), .int (3 : Int32)]) (st := [.ref (ad 0)]) (t_X11_in l D ad cy (h := r_1.2) c_4) kw_1167 kw_70 kw_1165 kw_1166 hd_X11_in ⟨Nat.le_of_ble_eq_true rfl, Nat.le_of_ble_eq_true rfl⟩ ⟨Nat.le_of_ble_eq_true rfl, Nat.le_of_ble_eq_true rfl⟩ rfl (Nat.le_of_ble_eq_true rfl) ?_
  refine jn1_of (P := fun (z_5 : Int32) => G l D X 7 (WM ad cy) 0 0 r_1.2 26 [(0, .ref (ad 0)), (1, .int x1), (3, .int r_1.1)] [.int z_5, .ref (ad 0)]) E ?_ ?_
  · intro z_5 E
    show G l D X 7 (WM ad cy) 0 0 r_1.2 26 [(0, .ref (ad 0)), (1, .int x1), (3, .int r_1.1)] [.int z_5, .ref (ad 0)]
    refine gp_M_RX11_70_0 ad cy (pc' := 29) O ⟨dX11_step_26, rfl⟩ ?_
    refine g_nmh E (fun h_6 E => ?_)
    refine g_aload_n (pc' := 30) O ⟨dX11_step_29, rfl⟩ (q := 0) rfl rfl ?_
    refine gf_M_RX11_70_0 ad cy (pc' := 33) O ⟨dX11_step_30, rfl⟩ ?_
    refine g_if_le (pc' := 36) O ⟨dX11_step_33, rfl⟩ E (tgt := 38) (by decide) (fun E => ?_) (fun E => ?_)
    · refine g_aload_n (pc' := 39) O ⟨dX11_step_38, rfl⟩ (q := 0) rfl rfl ?_
      refine g_iload_n (pc' := 40) O ⟨dX11_step_39, rfl⟩ (q := 1) rfl rfl ?_
      obtain ⟨r_7, c_8, E⟩ := bd_of E
      refine g_Vv (pc' := 43) O ⟨dX11_step_40, rfl⟩ (y := yX11_spreads) (As := [.int x1]) (st := []) (t_X11_spreads l D ad cy (h := h_6) c_8) kw_1417 kw_70 kw_1414 kw_1416 kw_50 rfl (wM_0 ad cy h_6) hd_X11_spreads ⟨Nat.le_of_ble_eq_true rfl, Nat.le_of_ble_eq_true rfl⟩ ⟨Nat.le_of_ble_eq_true rfl, Nat.le_of_ble_eq_true rfl⟩ rfl (Nat.le_of_ble_eq_true rfl) ?_
      refine g_iconst (pc' := 44) O ⟨dX11_step_43, rfl⟩ (v := (-1 : Int32)) rfl ?_
      refine g_istore (pc' := 46) O ⟨dX11_step_44, rfl⟩ (lv' := [(4, .int (-1 : Int32)), (0, .ref (ad 0)), (1, .int x1), (3, .int r_1.1)]) (by decide) rfl ?_
      refine g_iconst (pc' := 47) O ⟨dX11_step_46, rfl⟩ (v := (0 : Int32)) rfl ?_
      refine g_istore (pc' := 49) O ⟨dX11_step_47, rfl⟩ (lv' := [(5, .int (0 : Int32)), (4, .int (-1 : Int32)), (0, .ref (ad 0)), (1, .int x1), (3, .int r_1.1)]) (by decide) rfl ?_
      refine jn2_of (P := fun (x4_9 : Int32) (h_10 : Hp) => G l D X 7 (WM ad cy) 0 0 h_10 136 [(4, .int x4_9)] []) E ?_ ?_
      · intro x4_9 h_10 E
        show G l D X 7 (WM ad cy) 0 0 h_10 136 [(4, .int x4_9)] []
        refine g_iload (pc' := 138) O ⟨dX11_step_136, rfl⟩ (q := 0) rfl ?_
        cases E
        exact hret _ _ _ ⟨dX11_step_138, rfl⟩ rfl
      · intro k136 hk136 E
        refine g_sub (lv' := [(0, .ref (ad 0)), (1, .int x1), (3, .int r_1.1), (4, .int (-1 : Int32)), (5, .int (0 : Int32))]) [2, 3, 4, 1, 0] rfl ?_
        refine fx3_of (P := fun (x4_11 : Int32) (x5_12 : Int32) (h_13 : Hp) => G l D X 7 (WM ad cy) 0 0 h_13 49 [(0, .ref (ad 0)), (1, .int x1), (3, .int r_1.1), (4, .int x4_11), (5, .int x5_12)] []) ?_ _ _ _ _ E
        intro self ih49 x4_11 x5_12 h_13 E
        show G l D X 7 (WM ad cy) 0 0 h_13 49 [(0, .ref (ad 0)), (1, .int x1), (3, .int r_1.1), (4, .int x4_11), (5, .int x5_12)] []
        unfold L_X11_step_49 at E
        refine g_iload (pc' := 51) O ⟨dX11_step_49, rfl⟩ (q := 4) rfl ?_
        refine g_aload_n (pc' := 52) O ⟨dX11_step_51, rfl⟩ (q := 0) rfl rfl ?_
        refine g_iload_n (pc' := 53) O ⟨dX11_step_52, rfl⟩ (q := 1) rfl rfl ?_
        obtain ⟨r_14, c_15, E⟩ := bd_of E
        refine g_Vi (pc' := 56) O ⟨dX11_step_53, rfl⟩ (y := yX11_kinds) (As := [.int x1]) (st := [.int x5_12]) (t_X11_kinds l D ad cy (h := h_13) c_15) kw_1421 kw_70 kw_1418 kw_1420 kw_51 rfl (wM_0 ad cy h_13) hd_X11_kinds ⟨Nat.le_of_ble_eq_true rfl, Nat.le_of_ble_eq_true rfl⟩ ⟨Nat.le_of_ble_eq_true rfl, Nat.le_of_ble_eq_true rfl⟩ rfl (Nat.le_of_ble_eq_true rfl) ?_
        refine g_icmp_ge (pc' := 59) O ⟨dX11_step_56, rfl⟩ E (tgt := 136) (by decide) (fun E => ?_) (fun E => ?_)
        · refine g_sub (lv' := [(4, .int x4_11)]) [3] rfl ?_
          exact hk136 _ _ E
        · refine g_aload_n (pc' := 60) O ⟨dX11_step_59, rfl⟩ (q := 0) rfl rfl ?_
          refine g_iload_n (pc' := 61) O ⟨dX11_step_60, rfl⟩ (q := 2) rfl rfl ?_
          obtain ⟨r_16, c_17, E⟩ := bd_of E
          refine g_Vv (pc' := 64) O ⟨dX11_step_61, rfl⟩ (y := yX11_lays) (As := [.int r_1.1]) (st := []) (t_X11_lays l D ad cy (h := h_13) c_17) kw_1320 kw_70 kw_1317 kw_1319 kw_43 rfl (wM_0 ad cy h_13) hd_X11_lays ⟨Nat.le_of_ble_eq_true rfl, Nat.le_of_ble_eq_true rfl⟩ ⟨Nat.le_of_ble_eq_true rfl, Nat.le_of_ble_eq_true rfl⟩ rfl (Nat.le_of_ble_eq_true rfl) ?_
          refine g_aload_n (pc' := 65) O ⟨dX11_step_64, rfl⟩ (q := 0) rfl rfl ?_
          refine g_iload_n (pc' := 66) O ⟨dX11_step_65, rfl⟩ (q := 1) rfl rfl ?_
          refine g_iload (pc' := 68) O ⟨dX11_step_66, rfl⟩ (q := 4) rfl ?_
          obtain ⟨r_18, c_19, E⟩ := bd_of E
          refine g_Vi (pc' := 71) O ⟨dX11_step_68, rfl⟩ (y := yX11_does) (As := [.int x1, .int x5_12]) (st := []) (t_X11_does l D ad cy (h := r_16) c_19) kw_1425 kw_70 kw_1422 kw_1424 kw_52 rfl (wM_0 ad cy r_16) hd_X11_does ⟨Nat.le_of_ble_eq_true rfl, Nat.le_of_ble_eq_true rfl⟩ ⟨Nat.le_of_ble_eq_true rfl, Nat.le_of_ble_eq_true rfl⟩ rfl (Nat.le_of_ble_eq_true rfl) ?_
          refine jn1_of (P := fun (z_20 : Int32) => G l D X 7 (WM ad cy) 0 0 r_18.2 97 [(0, .ref (ad 0)), (1, .int x1), (3, .int r_1.1), (4, .int x4_11), (5, .int x5_12)] [.int z_20]) E ?_ ?_
          · intro z_20 E
            show G l D X 7 (WM ad cy) 0 0 r_18.2 97 [(0, .ref (ad 0)), (1, .int x1), (3, .int r_1.1), (4, .int x4_11), (5, .int x5_12)] [.int z_20]
            refine g_istore (pc' := 99) O ⟨dX11_step_97, rfl⟩ (lv' := [(6, .int z_20), (0, .ref (ad 0)), (1, .int x1), (3, .int r_1.1), (4, .int x4_11), (5, .int x5_12)]) (by decide) rfl ?_
            refine g_iload (pc' := 101) O ⟨dX11_step_99, rfl⟩ (q := 0) rfl ?_
            refine g_if_eq (pc' := 104) O ⟨dX11_step_101, rfl⟩ E (tgt := 126) (by decide) (fun E => ?_) (fun E => ?_)
            · refine g_iload (pc' := 128) O ⟨dX11_step_126, rfl⟩ (q := 4) rfl ?_
              refine g_istore (pc' := 130) O ⟨dX11_step_128, rfl⟩ (lv' := [(4, .int x4_11), (6, .int z_20), (0, .ref (ad 0)), (1, .int x1), (3, .int r_1.1), (5, .int x5_12)]) (by decide) rfl ?_
              refine g_iinc (pc' := 133) O ⟨dX11_step_130, rfl⟩ (q := 5) (v := x5_12 + (1 : Int32)) (lv' := [(5, .int (x5_12 + (1 : Int32))), (4, .int x4_11), (6, .int z_20), (0, .ref (ad 0)), (1, .int x1), (3, .int r_1.1)]) rfl rfl (by decide) rfl ?_
              refine g_goto (pc' := 136) O ⟨dX11_step_133, rfl⟩ (tgt := 49) (by decide) ?_
              refine g_sub (lv' := [(0, .ref (ad 0)), (1, .int x1), (3, .int r_1.1), (4, .int x4_11), (5, .int (x5_12 + (1 : Int32)))]) [3, 4, 5, 1, 0] rfl ?_
              exact ih49 _ _ _ E
            · refine g_iload (pc' := 106) O ⟨dX11_step_104, rfl⟩ (q := 4) rfl ?_
              refine g_iconst (pc' := 107) O ⟨dX11_step_106, rfl⟩ (v := (-1 : Int32)) rfl ?_
              refine jn0_of (P := G l D X 7 (WM ad cy) 0 0 r_18.2 119 [(0, .ref (ad 0)), (1, .int x1), (3, .int r_1.1), (5, .int x5_12)] []) E ?_ ?_
              · intro E
                show G l D X 7 (WM ad cy) 0 0 r_18.2 119 [(0, .ref (ad 0)), (1, .int x1), (3, .int r_1.1), (5, .int x5_12)] []
                refine g_aload_n (pc' := 120) O ⟨dX11_step_119, rfl⟩ (q := 0) rfl rfl ?_
                obtain ⟨r_21, c_22, E⟩ := bd_of E
                refine g_Vi (pc' := 123) O ⟨dX11_step_120, rfl⟩ (y := yX11_codeOf) (As := []) (st := []) (t_X11_codeOf l D ad cy (h := r_18.2) c_22) kw_1293 kw_70 kw_1290 kw_1292 kw_40 rfl (wM_0 ad cy r_18.2) hd_X11_codeOf ⟨Nat.le_of_ble_eq_true rfl, Nat.le_of_ble_eq_true rfl⟩ ⟨Nat.le_of_ble_eq_true rfl, Nat.le_of_ble_eq_true rfl⟩ rfl (Nat.le_of_ble_eq_true rfl) ?_
                refine g_goto (pc' := 126) O ⟨dX11_step_123, rfl⟩ (tgt := 128) (by decide) ?_
                refine g_istore (pc' := 130) O ⟨dX11_step_128, rfl⟩ (lv' := [(4, .int r_21), (0, .ref (ad 0)), (1, .int x1), (3, .int r_1.1), (5, .int x5_12)]) (by decide) rfl ?_
                refine g_iinc (pc' := 133) O ⟨dX11_step_130, rfl⟩ (q := 4) (v := x5_12 + (1 : Int32)) (lv' := [(5, .int (x5_12 + (1 : Int32))), (4, .int r_21), (0, .ref (ad 0)), (1, .int x1), (3, .int r_1.1)]) rfl rfl (by decide) rfl ?_
                refine g_goto (pc' := 136) O ⟨dX11_step_133, rfl⟩ (tgt := 49) (by decide) ?_
                refine g_sub (lv' := [(0, .ref (ad 0)), (1, .int x1), (3, .int r_1.1), (4, .int r_21), (5, .int (x5_12 + (1 : Int32)))]) [2, 3, 4, 1, 0] rfl ?_
                exact ih49 _ _ _ E
              · intro k119 hk119 E
                refine g_icmp_eq (pc' := 110) O ⟨dX11_step_107, rfl⟩ E (tgt := 119) (by decide) (fun E => ?_) (fun E => ?_)
                · refine g_sub (lv' := [(0, .ref (ad 0)), (1, .int x1), (3, .int r_1.1), (5, .int x5_12)]) [1, 2, 3, 5] rfl ?_
                  exact hk119 E
                · refine g_aload_n (pc' := 111) O ⟨dX11_step_110, rfl⟩ (q := 1) rfl rfl ?_
                  obtain ⟨r_23, c_24, E⟩ := bd_of E
                  refine g_Vi (pc' := 114) O ⟨dX11_step_111, rfl⟩ (y := yX11_codeOf) (As := []) (st := []) (t_X11_codeOf l D ad cy (h := r_18.2) c_24) kw_1293 kw_70 kw_1290 kw_1292 kw_40 rfl (wM_0 ad cy r_18.2) hd_X11_codeOf ⟨Nat.le_of_ble_eq_true rfl, Nat.le_of_ble_eq_true rfl⟩ ⟨Nat.le_of_ble_eq_true rfl, Nat.le_of_ble_eq_true rfl⟩ rfl (Nat.le_of_ble_eq_true rfl) ?_
                  refine g_iload (pc' := 116) O ⟨dX11_step_114, rfl⟩ (q := 4) rfl ?_
                  refine g_icmp_ge (pc' := 119) O ⟨dX11_step_116, rfl⟩ E (tgt := 126) (by decide) (fun E => ?_) (fun E => ?_)
                  · refine g_iload (pc' := 128) O ⟨dX11_step_126, rfl⟩ (q := 4) rfl ?_
                    refine g_istore (pc' := 130) O ⟨dX11_step_128, rfl⟩ (lv' := [(4, .int x4_11), (6, .int z_20), (0, .ref (ad 0)), (1, .int x1), (3, .int r_1.1), (5, .int x5_12)]) (by decide) rfl ?_
                    refine g_iinc (pc' := 133) O ⟨dX11_step_130, rfl⟩ (q := 5) (v := x5_12 + (1 : Int32)) (lv' := [(5, .int (x5_12 + (1 : Int32))), (4, .int x4_11), (6, .int z_20), (0, .ref (ad 0)), (1, .int x1), (3, .int r_1.1)]) rfl rfl (by decide) rfl ?_
                    refine g_goto (pc' := 136) O ⟨dX11_step_133, rfl⟩ (tgt := 49) (by decide) ?_
                    refine g_sub (lv' := [(0, .ref (ad 0)), (1, .int x1), (3, .int r_1.1), (4, .int x4_11), (5, .int (x5_12 + (1 : Int32)))]) [3, 4, 5, 1, 0] rfl ?_
                    exact ih49 _ _ _ E
                  · refine g_sub (lv' := [(0, .ref (ad 0)), (1, .int x1), (3, .int r_1.1), (5, .int x5_12)]) [1, 2, 3, 5] rfl ?_
                    exact hk119 E
          · intro k97 hk97 E
            refine jn0_of (P := G l D X 7 (WM ad cy) 0 0 r_18.2 96 [(0, .ref (ad 0)), (1, .int x1), (3, .int r_1.1), (4, .int x4_11), (5, .int x5_12)] []) E ?_ ?_
            · intro E
              show G l D X 7 (WM ad cy) 0 0 r_18.2 96 [(0, .ref (ad 0)), (1, .int x1), (3, .int r_1.1), (4, .int x4_11), (5, .int x5_12)] []
              refine g_iconst (pc' := 97) O ⟨dX11_step_96, rfl⟩ (v := (0 : Int32)) rfl ?_
              exact hk97 _ E
            · intro k96 hk96 E
              refine g_if_eq (pc' := 74) O ⟨dX11_step_71, rfl⟩ E (tgt := 96) (by decide) (fun E => ?_) (fun E => ?_)
              · exact hk96 E
              · refine g_aload_n (pc' := 75) O ⟨dX11_step_74, rfl⟩ (q := 0) rfl rfl ?_
                refine gf_M_RX11_44_0 ad cy (pc' := 78) O ⟨dX11_step_75, rfl⟩ ?_
                refine g_aload_n (pc' := 79) O ⟨dX11_step_78, rfl⟩ (q := 0) rfl rfl ?_
                obtain ⟨r_25, c_26, E⟩ := bd_of E
                refine g_Vi (pc' := 82) O ⟨dX11_step_79, rfl⟩ (y := yX11_numberOf) (As := []) (st := [.ref (ad 12)]) (t_X11_numberOf l D ad cy (h := r_18.2) c_26) kw_1281 kw_70 kw_1278 kw_1280 kw_37 rfl (wM_0 ad cy r_18.2) hd_X11_numberOf ⟨Nat.le_of_ble_eq_true rfl, Nat.le_of_ble_eq_true rfl⟩ ⟨Nat.le_of_ble_eq_true rfl, Nat.le_of_ble_eq_true rfl⟩ rfl (Nat.le_of_ble_eq_true rfl) ?_
                refine g_iald (pc' := 83) O ⟨dX11_step_82, rfl⟩ (wM_12 ad cy r_18.2) E (fun E => ?_)
                refine g_aload_n (pc' := 84) O ⟨dX11_step_83, rfl⟩ (q := 0) rfl rfl ?_
                refine gf_M_RX11_44_0 ad cy (pc' := 87) O ⟨dX11_step_84, rfl⟩ ?_
                refine g_iload_n (pc' := 88) O ⟨dX11_step_87, rfl⟩ (q := 2) rfl rfl ?_
                refine g_iald (pc' := 89) O ⟨dX11_step_88, rfl⟩ (wM_12 ad cy r_18.2) E (fun E => ?_)
                refine g_icmp_ge (pc' := 92) O ⟨dX11_step_89, rfl⟩ E (tgt := 96) (by decide) (fun E => ?_) (fun E => ?_)
                · exact hk96 E
                · refine g_iconst (pc' := 93) O ⟨dX11_step_92, rfl⟩ (v := (1 : Int32)) rfl ?_
                  refine g_goto (pc' := 96) O ⟨dX11_step_93, rfl⟩ (tgt := 97) (by decide) ?_
                  exact hk97 _ E
    · refine g_iconst (pc' := 37) O ⟨dX11_step_36, rfl⟩ (v := (0 : Int32)) rfl ?_
      cases E
      exact hret _ _ _ ⟨dX11_step_37, rfl⟩ rfl
  · intro k26 hk26 E
    refine jn0_of (P := G l D X 7 (WM ad cy) 0 0 r_1.2 21 [(0, .ref (ad 0)), (1, .int x1), (3, .int r_1.1)] [.ref (ad 0)]) E ?_ ?_
    · intro E
      show G l D X 7 (WM ad cy) 0 0 r_1.2 21 [(0, .ref (ad 0)), (1, .int x1), (3, .int r_1.1)] [.ref (ad 0)]
      refine g_iconst (pc' := 22) O ⟨dX11_step_21, rfl⟩ (v := (1 : Int32)) rfl ?_
      refine g_goto (pc' := 25) O ⟨dX11_step_22, rfl⟩ (tgt := 26) (by decide) ?_
      exact hk26 _ E
    · intro k21 hk21 E
      refine g_if_eq (pc' := 16) O ⟨dX11_step_13, rfl⟩ E (tgt := 21) (by decide) (fun E => ?_) (fun E => ?_)
      · refine g_sub (lv' := [(0, .ref (ad 0)), (1, .int x1), (3, .int r_1.1)]) [1, 2, 0] rfl ?_
        exact hk21 E
      · refine g_iload_n (pc' := 17) O ⟨dX11_step_16, rfl⟩ (q := 0) rfl rfl ?_
        refine g_iconst (pc' := 18) O ⟨dX11_step_17, rfl⟩ (v := (-1 : Int32)) rfl ?_
        refine g_icmp_ne (pc' := 21) O ⟨dX11_step_18, rfl⟩ E (tgt := 25) (by decide) (fun E => ?_) (fun E => ?_)
        · refine g_iconst (pc' := 26) O ⟨dX11_step_25, rfl⟩ (v := (0 : Int32)) rfl ?_
          refine g_sub (lv' := [(0, .ref (ad 0)), (1, .int x1), (3, .int r_1.1)]) [1, 2, 0] rfl ?_
          exact hk26 _ E
        · refine g_sub (lv' := [(0, .ref (ad 0)), (1, .int x1), (3, .int r_1.1)]) [1, 2, 0] rfl ?_
          exact hk21 E
set_option maxRecDepth 100000 in
set_option maxHeartbeats 4000000 in
theorem t_X11_manyFar (l : Launch) (D : va_G) (ad : Nat → Nat) (cy : Nat → ClassId) {h : Hp} {x1 : Int32} {x2 : Int32} {o : Int32 × Hp} (E : f_X11_manyFar h x1 x2 = some o) : CtI l D cy (WM ad cy) yX11_manyFar cX11_manyFar 5 .int 4 96 [.ref (ad 0), .int x1, .int x2] h o.1 o.2 := by
  refine sI (own := RX11) rfl rfl (Nat.le_of_ble_eq_true rfl) (fun X O hret => ?_)
  show G l D X 5 (WM ad cy) 0 0 h 0 [(0, .ref (ad 0)), (1, .int x1), (2, .int x2)] []
  unfold f_X11_manyFar at E
  refine g_aload_n (pc' := 1) O ⟨dX11_manyFar_0, rfl⟩ (q := 0) rfl rfl ?_
  refine g_iload_n (pc' := 2) O ⟨dX11_manyFar_1, rfl⟩ (q := 1) rfl rfl ?_
  refine g_iconst (pc' := 3) O ⟨dX11_manyFar_2, rfl⟩ (v := (0 : Int32)) rfl ?_
  refine g_iconst (pc' := 4) O ⟨dX11_manyFar_3, rfl⟩ (v := (3 : Int32)) rfl ?_
  obtain ⟨r_1, c_2, E⟩ := bd_of E
  refine g_Si (pc' := 7) O ⟨dX11_manyFar_4, rfl⟩ (y := yX11_in) (As := [.int x1, .int (0 : Int32), .int (3 : Int32)]) (st := [.ref (ad 0)]) (t_X11_in l D ad cy (h := h) c_2) kw_1167 kw_70 kw_1165 kw_1166 hd_X11_in ⟨Nat.le_of_ble_eq_true rfl, Nat.le_of_ble_eq_true rfl⟩ ⟨Nat.le_of_ble_eq_true rfl, Nat.le_of_ble_eq_true rfl⟩ rfl (Nat.le_of_ble_eq_true rfl) ?_
  refine jn1_of (P := fun (z_3 : Int32) => G l D X 5 (WM ad cy) 0 0 h 19 [(0, .ref (ad 0)), (1, .int x1), (2, .int x2)] [.int z_3, .ref (ad 0)]) E ?_ ?_
  · intro z_3 E
    show G l D X 5 (WM ad cy) 0 0 h 19 [(0, .ref (ad 0)), (1, .int x1), (2, .int x2)] [.int z_3, .ref (ad 0)]
    refine gp_M_RX11_70_0 ad cy (pc' := 22) O ⟨dX11_manyFar_19, rfl⟩ ?_
    refine g_nmh E (fun h_4 E => ?_)
    refine g_aload_n (pc' := 23) O ⟨dX11_manyFar_22, rfl⟩ (q := 0) rfl rfl ?_
    refine gf_M_RX11_70_0 ad cy (pc' := 26) O ⟨dX11_manyFar_23, rfl⟩ ?_
    refine g_if_le (pc' := 29) O ⟨dX11_manyFar_26, rfl⟩ E (tgt := 31) (by decide) (fun E => ?_) (fun E => ?_)
    · refine g_aload_n (pc' := 32) O ⟨dX11_manyFar_31, rfl⟩ (q := 0) rfl rfl ?_
      refine g_iload_n (pc' := 33) O ⟨dX11_manyFar_32, rfl⟩ (q := 1) rfl rfl ?_
      obtain ⟨r_5, c_6, E⟩ := bd_of E
      refine g_Vv (pc' := 36) O ⟨dX11_manyFar_33, rfl⟩ (y := yX11_spreads) (As := [.int x1]) (st := []) (t_X11_spreads l D ad cy (h := h_4) c_6) kw_1417 kw_70 kw_1414 kw_1416 kw_50 rfl (wM_0 ad cy h_4) hd_X11_spreads ⟨Nat.le_of_ble_eq_true rfl, Nat.le_of_ble_eq_true rfl⟩ ⟨Nat.le_of_ble_eq_true rfl, Nat.le_of_ble_eq_true rfl⟩ rfl (Nat.le_of_ble_eq_true rfl) ?_
      refine g_iconst (pc' := 37) O ⟨dX11_manyFar_36, rfl⟩ (v := (0 : Int32)) rfl ?_
      refine g_istore_n (pc' := 38) O ⟨dX11_manyFar_37, rfl⟩ (lv' := [(3, .int (0 : Int32)), (0, .ref (ad 0)), (1, .int x1), (2, .int x2)]) rfl (by decide) rfl ?_
      refine g_iconst (pc' := 39) O ⟨dX11_manyFar_38, rfl⟩ (v := (0 : Int32)) rfl ?_
      refine g_istore (pc' := 41) O ⟨dX11_manyFar_39, rfl⟩ (lv' := [(4, .int (0 : Int32)), (3, .int (0 : Int32)), (0, .ref (ad 0)), (1, .int x1), (2, .int x2)]) (by decide) rfl ?_
      refine jn1_of (P := fun (x3_7 : Int32) => G l D X 5 (WM ad cy) 0 0 r_5 75 [(3, .int x3_7)] []) E ?_ ?_
      · intro x3_7 E
        show G l D X 5 (WM ad cy) 0 0 r_5 75 [(3, .int x3_7)] []
        refine g_iload_n (pc' := 76) O ⟨dX11_manyFar_75, rfl⟩ (q := 0) rfl rfl ?_
        cases E
        exact hret _ _ _ ⟨dX11_manyFar_76, rfl⟩ rfl
      · intro k75 hk75 E
        refine g_sub (lv' := [(0, .ref (ad 0)), (2, .int x2), (3, .int (0 : Int32)), (4, .int (0 : Int32))]) [2, 4, 1, 0] rfl ?_
        refine fx2_of (P := fun (x3_8 : Int32) (x4_9 : Int32) => G l D X 5 (WM ad cy) 0 0 r_5 41 [(0, .ref (ad 0)), (2, .int x2), (3, .int x3_8), (4, .int x4_9)] []) ?_ _ _ _ E
        intro self ih41 x3_8 x4_9 E
        show G l D X 5 (WM ad cy) 0 0 r_5 41 [(0, .ref (ad 0)), (2, .int x2), (3, .int x3_8), (4, .int x4_9)] []
        unfold L_X11_manyFar_41 at E
        refine g_iload (pc' := 43) O ⟨dX11_manyFar_41, rfl⟩ (q := 3) rfl ?_
        refine g_aload_n (pc' := 44) O ⟨dX11_manyFar_43, rfl⟩ (q := 0) rfl rfl ?_
        refine gf_M_RX11_88_0 ad cy (pc' := 47) O ⟨dX11_manyFar_44, rfl⟩ ?_
        refine g_icmp_ge (pc' := 50) O ⟨dX11_manyFar_47, rfl⟩ E (tgt := 75) (by decide) (fun E => ?_) (fun E => ?_)
        · refine g_sub (lv' := [(3, .int x3_8)]) [2] rfl ?_
          exact hk75 _ E
        · refine g_iload_n (pc' := 51) O ⟨dX11_manyFar_50, rfl⟩ (q := 2) rfl rfl ?_
          refine g_aload_n (pc' := 52) O ⟨dX11_manyFar_51, rfl⟩ (q := 0) rfl rfl ?_
          refine gf_M_RX11_44_0 ad cy (pc' := 55) O ⟨dX11_manyFar_52, rfl⟩ ?_
          refine g_iload (pc' := 57) O ⟨dX11_manyFar_55, rfl⟩ (q := 3) rfl ?_
          refine g_iald (pc' := 58) O ⟨dX11_manyFar_57, rfl⟩ (wM_12 ad cy r_5) E (fun E => ?_)
          refine g_iload_n (pc' := 59) O ⟨dX11_manyFar_58, rfl⟩ (q := 1) rfl rfl ?_
          refine g_icmp_ne (pc' := 62) O ⟨dX11_manyFar_59, rfl⟩ E (tgt := 66) (by decide) (fun E => ?_) (fun E => ?_)
          · refine g_iconst (pc' := 67) O ⟨dX11_manyFar_66, rfl⟩ (v := (0 : Int32)) rfl ?_
            refine g_iadd (pc' := 68) O ⟨dX11_manyFar_67, rfl⟩ ?_
            refine g_nm E (fun y3_10 E => ?_)
            refine g_istore_n (pc' := 69) O ⟨dX11_manyFar_68, rfl⟩ (lv' := [(3, .int y3_10), (0, .ref (ad 0)), (2, .int x2), (4, .int x4_9)]) rfl (by decide) rfl ?_
            refine g_iinc (pc' := 72) O ⟨dX11_manyFar_69, rfl⟩ (q := 3) (v := x4_9 + (1 : Int32)) (lv' := [(4, .int (x4_9 + (1 : Int32))), (3, .int y3_10), (0, .ref (ad 0)), (2, .int x2)]) rfl rfl (by decide) rfl ?_
            refine g_goto (pc' := 75) O ⟨dX11_manyFar_72, rfl⟩ (tgt := 41) (by decide) ?_
            refine g_sub (lv' := [(0, .ref (ad 0)), (2, .int x2), (3, .int y3_10), (4, .int (x4_9 + (1 : Int32)))]) [2, 3, 1, 0] rfl ?_
            exact ih41 _ _ E
          · refine g_iconst (pc' := 63) O ⟨dX11_manyFar_62, rfl⟩ (v := (1 : Int32)) rfl ?_
            refine g_goto (pc' := 66) O ⟨dX11_manyFar_63, rfl⟩ (tgt := 67) (by decide) ?_
            refine g_iadd (pc' := 68) O ⟨dX11_manyFar_67, rfl⟩ ?_
            refine g_nm E (fun y3_11 E => ?_)
            refine g_istore_n (pc' := 69) O ⟨dX11_manyFar_68, rfl⟩ (lv' := [(3, .int y3_11), (0, .ref (ad 0)), (2, .int x2), (4, .int x4_9)]) rfl (by decide) rfl ?_
            refine g_iinc (pc' := 72) O ⟨dX11_manyFar_69, rfl⟩ (q := 3) (v := x4_9 + (1 : Int32)) (lv' := [(4, .int (x4_9 + (1 : Int32))), (3, .int y3_11), (0, .ref (ad 0)), (2, .int x2)]) rfl rfl (by decide) rfl ?_
            refine g_goto (pc' := 75) O ⟨dX11_manyFar_72, rfl⟩ (tgt := 41) (by decide) ?_
            refine g_sub (lv' := [(0, .ref (ad 0)), (2, .int x2), (3, .int y3_11), (4, .int (x4_9 + (1 : Int32)))]) [2, 3, 1, 0] rfl ?_
            exact ih41 _ _ E
    · refine g_iconst (pc' := 30) O ⟨dX11_manyFar_29, rfl⟩ (v := (0 : Int32)) rfl ?_
      cases E
      exact hret _ _ _ ⟨dX11_manyFar_30, rfl⟩ rfl
  · intro k19 hk19 E
    refine jn0_of (P := G l D X 5 (WM ad cy) 0 0 h 18 [(0, .ref (ad 0)), (1, .int x1), (2, .int x2)] [.ref (ad 0)]) E ?_ ?_
    · intro E
      show G l D X 5 (WM ad cy) 0 0 h 18 [(0, .ref (ad 0)), (1, .int x1), (2, .int x2)] [.ref (ad 0)]
      refine g_iconst (pc' := 19) O ⟨dX11_manyFar_18, rfl⟩ (v := (1 : Int32)) rfl ?_
      exact hk19 _ E
    · intro k18 hk18 E
      refine g_if_eq (pc' := 10) O ⟨dX11_manyFar_7, rfl⟩ E (tgt := 18) (by decide) (fun E => ?_) (fun E => ?_)
      · exact hk18 E
      · refine g_iload_n (pc' := 11) O ⟨dX11_manyFar_10, rfl⟩ (q := 2) rfl rfl ?_
        refine g_if_lt (pc' := 14) O ⟨dX11_manyFar_11, rfl⟩ E (tgt := 18) (by decide) (fun E => ?_) (fun E => ?_)
        · exact hk18 E
        · refine g_iconst (pc' := 15) O ⟨dX11_manyFar_14, rfl⟩ (v := (0 : Int32)) rfl ?_
          refine g_goto (pc' := 18) O ⟨dX11_manyFar_15, rfl⟩ (tgt := 19) (by decide) ?_
          exact hk19 _ E
set_option maxRecDepth 100000 in
set_option maxHeartbeats 4000000 in
theorem t_X11_isLess (l : Launch) (D : va_G) (ad : Nat → Nat) (cy : Nat → ClassId) {h : Hp} {x1 : Int32} {x2 : Int32} {x3 : Int32} {o : Int32} (E : f_X11_isLess h x1 x2 x3 = some o) : CtI l D cy (WM ad cy) yX11_isLess cX11_isLess 4 .boolean 0 0 [.ref (ad 0), .int x1, .int x2, .int x3] h o h := by
  refine sI (own := RX11) rfl rfl (Nat.le_of_ble_eq_true rfl) (fun X O hret => ?_)
  show G l D X 4 (WM ad cy) 0 0 h 0 [(0, .ref (ad 0)), (1, .int x1), (2, .int x2), (3, .int x3)] []
  unfold f_X11_isLess at E
  refine g_aload_n (pc' := 1) O ⟨dX11_isLess_0, rfl⟩ (q := 0) rfl rfl ?_
  refine gf_M_RX11_19_0 ad cy (pc' := 4) O ⟨dX11_isLess_1, rfl⟩ ?_
  refine g_bipush (pc' := 6) O ⟨dX11_isLess_4, rfl⟩ (v := (6 : Int32)) rfl ?_
  refine g_iload_n (pc' := 7) O ⟨dX11_isLess_6, rfl⟩ (q := 1) rfl rfl ?_
  refine g_imul (pc' := 8) O ⟨dX11_isLess_7, rfl⟩ ?_
  refine g_iload_n (pc' := 9) O ⟨dX11_isLess_8, rfl⟩ (q := 2) rfl rfl ?_
  refine g_iadd (pc' := 10) O ⟨dX11_isLess_9, rfl⟩ ?_
  refine g_iald (pc' := 11) O ⟨dX11_isLess_10, rfl⟩ (wM_4 ad cy h) E (fun E => ?_)
  refine g_aload_n (pc' := 12) O ⟨dX11_isLess_11, rfl⟩ (q := 0) rfl rfl ?_
  refine gf_M_RX11_19_0 ad cy (pc' := 15) O ⟨dX11_isLess_12, rfl⟩ ?_
  refine g_bipush (pc' := 17) O ⟨dX11_isLess_15, rfl⟩ (v := (6 : Int32)) rfl ?_
  refine g_iload_n (pc' := 18) O ⟨dX11_isLess_17, rfl⟩ (q := 1) rfl rfl ?_
  refine g_imul (pc' := 19) O ⟨dX11_isLess_18, rfl⟩ ?_
  refine g_iload_n (pc' := 20) O ⟨dX11_isLess_19, rfl⟩ (q := 3) rfl rfl ?_
  refine g_iadd (pc' := 21) O ⟨dX11_isLess_20, rfl⟩ ?_
  refine g_iald (pc' := 22) O ⟨dX11_isLess_21, rfl⟩ (wM_4 ad cy h) E (fun E => ?_)
  refine g_icmp_ge (pc' := 25) O ⟨dX11_isLess_22, rfl⟩ E (tgt := 29) (by decide) (fun E => ?_) (fun E => ?_)
  · refine g_iconst (pc' := 30) O ⟨dX11_isLess_29, rfl⟩ (v := (0 : Int32)) rfl ?_
    obtain ⟨hn, E⟩ := ckz_of E
    cases E
    exact hret _ _ _ ⟨dX11_isLess_30, rfl⟩ hn
  · refine g_iconst (pc' := 26) O ⟨dX11_isLess_25, rfl⟩ (v := (1 : Int32)) rfl ?_
    refine g_goto (pc' := 29) O ⟨dX11_isLess_26, rfl⟩ (tgt := 30) (by decide) ?_
    obtain ⟨hn, E⟩ := ckz_of E
    cases E
    exact hret _ _ _ ⟨dX11_isLess_30, rfl⟩ hn
set_option maxRecDepth 100000 in
set_option maxHeartbeats 4000000 in
theorem t_X11_ask (l : Launch) (D : va_G) (ad : Nat → Nat) (cy : Nat → ClassId) {h : Hp} {x1 : Int32} {x2 : Int32} {o : Int32 × Hp} (E : f_X11_ask h x1 x2 = some o) : CtI l D cy (WM ad cy) yX11_ask cX11_ask 6 .boolean 2 43 [.ref (ad 0), .int x1, .int x2] h o.1 o.2 := by
  refine sI (own := RX11) rfl rfl (Nat.le_of_ble_eq_true rfl) (fun X O hret => ?_)
  show G l D X 6 (WM ad cy) 0 0 h 0 [(0, .ref (ad 0)), (1, .int x1), (2, .int x2)] []
  unfold f_X11_ask at E
  refine g_aload_n (pc' := 1) O ⟨dX11_ask_0, rfl⟩ (q := 0) rfl rfl ?_
  refine g_aload_n (pc' := 2) O ⟨dX11_ask_1, rfl⟩ (q := 0) rfl rfl ?_
  refine g_iload_n (pc' := 3) O ⟨dX11_ask_2, rfl⟩ (q := 1) rfl rfl ?_
  obtain ⟨r_1, c_2, E⟩ := bd_of E
  refine g_Vi (pc' := 6) O ⟨dX11_ask_3, rfl⟩ (y := yX11_isWire) (As := [.int x1]) (st := [.ref (ad 0)]) (t_X11_isWire l D ad cy (h := h) c_2) kw_1175 kw_70 kw_1172 kw_1174 kw_26 rfl (wM_0 ad cy h) hd_X11_isWire ⟨Nat.le_of_ble_eq_true rfl, Nat.le_of_ble_eq_true rfl⟩ ⟨Nat.le_of_ble_eq_true rfl, Nat.le_of_ble_eq_true rfl⟩ rfl (Nat.le_of_ble_eq_true rfl) ?_
  refine jn1_of (P := fun (z_3 : Int32) => G l D X 6 (WM ad cy) 0 0 h 31 [(0, .ref (ad 0)), (1, .int x1), (2, .int x2)] [.int z_3, .ref (ad 0)]) E ?_ ?_
  · intro z_3 E
    show G l D X 6 (WM ad cy) 0 0 h 31 [(0, .ref (ad 0)), (1, .int x1), (2, .int x2)] [.int z_3, .ref (ad 0)]
    refine gp_M_RX11_70_0 ad cy (pc' := 34) O ⟨dX11_ask_31, rfl⟩ ?_
    refine g_nmh E (fun h_4 E => ?_)
    refine g_aload_n (pc' := 35) O ⟨dX11_ask_34, rfl⟩ (q := 0) rfl rfl ?_
    refine gf_M_RX11_70_0 ad cy (pc' := 38) O ⟨dX11_ask_35, rfl⟩ ?_
    refine g_if_le (pc' := 41) O ⟨dX11_ask_38, rfl⟩ E (tgt := 43) (by decide) (fun E => ?_) (fun E => ?_)
    · refine g_iconst (pc' := 44) O ⟨dX11_ask_43, rfl⟩ (v := (0 : Int32)) rfl ?_
      refine g_istore_n (pc' := 45) O ⟨dX11_ask_44, rfl⟩ (lv' := [(3, .int (0 : Int32)), (0, .ref (ad 0)), (1, .int x1), (2, .int x2)]) rfl (by decide) rfl ?_
      refine g_iconst (pc' := 46) O ⟨dX11_ask_45, rfl⟩ (v := (0 : Int32)) rfl ?_
      refine g_istore (pc' := 48) O ⟨dX11_ask_46, rfl⟩ (lv' := [(4, .int (0 : Int32)), (3, .int (0 : Int32)), (0, .ref (ad 0)), (1, .int x1), (2, .int x2)]) (by decide) rfl ?_
      refine jn1_of (P := fun (x3_5 : Int32) => G l D X 6 (WM ad cy) 0 0 h_4 96 [(0, .ref (ad 0)), (1, .int x1), (2, .int x2), (3, .int x3_5)] []) E ?_ ?_
      · intro x3_5 E
        show G l D X 6 (WM ad cy) 0 0 h_4 96 [(0, .ref (ad 0)), (1, .int x1), (2, .int x2), (3, .int x3_5)] []
        refine g_iload_n (pc' := 97) O ⟨dX11_ask_96, rfl⟩ (q := 3) rfl rfl ?_
        refine jn0_of (P := G l D X 6 (WM ad cy) 0 0 h_4 109 [(0, .ref (ad 0)), (1, .int x1), (2, .int x2)] []) E ?_ ?_
        · intro E
          show G l D X 6 (WM ad cy) 0 0 h_4 109 [(0, .ref (ad 0)), (1, .int x1), (2, .int x2)] []
          refine g_iconst (pc' := 110) O ⟨dX11_ask_109, rfl⟩ (v := (1 : Int32)) rfl ?_
          refine g_goto (pc' := 113) O ⟨dX11_ask_110, rfl⟩ (tgt := 114) (by decide) ?_
          refine g_istore (pc' := 116) O ⟨dX11_ask_114, rfl⟩ (lv' := [(4, .int (1 : Int32)), (0, .ref (ad 0)), (1, .int x1), (2, .int x2)]) (by decide) rfl ?_
          refine g_iconst (pc' := 117) O ⟨dX11_ask_116, rfl⟩ (v := (0 : Int32)) rfl ?_
          refine g_istore (pc' := 119) O ⟨dX11_ask_117, rfl⟩ (lv' := [(5, .int (0 : Int32)), (4, .int (1 : Int32)), (0, .ref (ad 0)), (1, .int x1), (2, .int x2)]) (by decide) rfl ?_
          refine jn1_of (P := fun (h_6 : Hp) => G l D X 6 (WM ad cy) 0 0 h_6 169 [(4, .int (1 : Int32))] []) E ?_ ?_
          · intro h_6 E
            show G l D X 6 (WM ad cy) 0 0 h_6 169 [(4, .int (1 : Int32))] []
            refine g_iload (pc' := 171) O ⟨dX11_ask_169, rfl⟩ (q := 0) rfl ?_
            obtain ⟨hn, E⟩ := ckz_of E
            cases E
            exact hret _ _ _ ⟨dX11_ask_171, rfl⟩ hn
          · intro k169 hk169 E
            refine g_sub (lv' := [(0, .ref (ad 0)), (1, .int x1), (2, .int x2), (4, .int (1 : Int32)), (5, .int (0 : Int32))]) [2, 3, 4, 1, 0] rfl ?_
            refine fx2_of (P := fun (x5_7 : Int32) (h_8 : Hp) => G l D X 6 (WM ad cy) 0 0 h_8 119 [(0, .ref (ad 0)), (1, .int x1), (2, .int x2), (4, .int (1 : Int32)), (5, .int x5_7)] []) ?_ _ _ _ E
            intro self ih119 x5_7 h_8 E
            show G l D X 6 (WM ad cy) 0 0 h_8 119 [(0, .ref (ad 0)), (1, .int x1), (2, .int x2), (4, .int (1 : Int32)), (5, .int x5_7)] []
            unfold L_X11_ask_119 at E
            refine g_iload (pc' := 121) O ⟨dX11_ask_119, rfl⟩ (q := 4) rfl ?_
            refine g_aload_n (pc' := 122) O ⟨dX11_ask_121, rfl⟩ (q := 0) rfl rfl ?_
            refine gf_M_RX11_88_0 ad cy (pc' := 125) O ⟨dX11_ask_122, rfl⟩ ?_
            refine g_icmp_ge (pc' := 128) O ⟨dX11_ask_125, rfl⟩ E (tgt := 169) (by decide) (fun E => ?_) (fun E => ?_)
            · refine g_sub (lv' := [(4, .int (1 : Int32))]) [3] rfl ?_
              exact hk169 _ E
            · refine g_aload_n (pc' := 129) O ⟨dX11_ask_128, rfl⟩ (q := 0) rfl rfl ?_
              refine gf_M_RX11_50_0 ad cy (pc' := 132) O ⟨dX11_ask_129, rfl⟩ ?_
              refine g_iload (pc' := 134) O ⟨dX11_ask_132, rfl⟩ (q := 4) rfl ?_
              refine g_aload_n (pc' := 135) O ⟨dX11_ask_134, rfl⟩ (q := 0) rfl rfl ?_
              refine gf_M_RX11_50_0 ad cy (pc' := 138) O ⟨dX11_ask_135, rfl⟩ ?_
              refine g_iload (pc' := 140) O ⟨dX11_ask_138, rfl⟩ (q := 4) rfl ?_
              refine g_zald (pc' := 141) O ⟨dX11_ask_140, rfl⟩ (wM_14 ad cy h_8) E (fun E => ?_)
              refine g_if_eq (pc' := 144) O ⟨dX11_ask_141, rfl⟩ E (tgt := 161) (by decide) (fun E => ?_) (fun E => ?_)
              · refine g_iconst (pc' := 162) O ⟨dX11_ask_161, rfl⟩ (v := (0 : Int32)) rfl ?_
                refine g_zast (pc' := 163) O ⟨dX11_ask_162, rfl⟩ (wM_14 ad cy h_8) (vM_14 ad cy h_8 _) E (fun E => ?_)
                refine g_nmh E (fun h_9 E => ?_)
                refine g_iinc (pc' := 166) O ⟨dX11_ask_163, rfl⟩ (q := 4) (v := x5_7 + (1 : Int32)) (lv' := [(5, .int (x5_7 + (1 : Int32))), (0, .ref (ad 0)), (1, .int x1), (2, .int x2), (4, .int (1 : Int32))]) rfl rfl (by decide) rfl ?_
                refine g_goto (pc' := 169) O ⟨dX11_ask_166, rfl⟩ (tgt := 119) (by decide) ?_
                refine g_sub (lv' := [(0, .ref (ad 0)), (1, .int x1), (2, .int x2), (4, .int (1 : Int32)), (5, .int (x5_7 + (1 : Int32)))]) [1, 2, 3, 4, 0] rfl ?_
                exact ih119 _ _ E
              · refine g_aload_n (pc' := 145) O ⟨dX11_ask_144, rfl⟩ (q := 0) rfl rfl ?_
                refine g_iload (pc' := 147) O ⟨dX11_ask_145, rfl⟩ (q := 4) rfl ?_
                refine g_iload_n (pc' := 148) O ⟨dX11_ask_147, rfl⟩ (q := 1) rfl rfl ?_
                refine g_iload_n (pc' := 149) O ⟨dX11_ask_148, rfl⟩ (q := 2) rfl rfl ?_
                obtain ⟨r_10, c_11, E⟩ := bd_of E
                refine g_Vi (pc' := 152) O ⟨dX11_ask_149, rfl⟩ (y := yX11_isLess) (As := [.int x5_7, .int x1, .int x2]) (st := [.int x5_7, .ref (ad 14)]) (t_X11_isLess l D ad cy (h := h_8) c_11) kw_1445 kw_70 kw_1442 kw_1444 kw_54 rfl (wM_0 ad cy h_8) hd_X11_isLess ⟨Nat.le_of_ble_eq_true rfl, Nat.le_of_ble_eq_true rfl⟩ ⟨Nat.le_of_ble_eq_true rfl, Nat.le_of_ble_eq_true rfl⟩ rfl (Nat.le_of_ble_eq_true rfl) ?_
                refine g_iload (pc' := 154) O ⟨dX11_ask_152, rfl⟩ (q := 3) rfl ?_
                refine g_icmp_ne (pc' := 157) O ⟨dX11_ask_154, rfl⟩ E (tgt := 161) (by decide) (fun E => ?_) (fun E => ?_)
                · refine g_iconst (pc' := 162) O ⟨dX11_ask_161, rfl⟩ (v := (0 : Int32)) rfl ?_
                  refine g_zast (pc' := 163) O ⟨dX11_ask_162, rfl⟩ (wM_14 ad cy h_8) (vM_14 ad cy h_8 _) E (fun E => ?_)
                  refine g_nmh E (fun h_12 E => ?_)
                  refine g_iinc (pc' := 166) O ⟨dX11_ask_163, rfl⟩ (q := 4) (v := x5_7 + (1 : Int32)) (lv' := [(5, .int (x5_7 + (1 : Int32))), (0, .ref (ad 0)), (1, .int x1), (2, .int x2), (4, .int (1 : Int32))]) rfl rfl (by decide) rfl ?_
                  refine g_goto (pc' := 169) O ⟨dX11_ask_166, rfl⟩ (tgt := 119) (by decide) ?_
                  refine g_sub (lv' := [(0, .ref (ad 0)), (1, .int x1), (2, .int x2), (4, .int (1 : Int32)), (5, .int (x5_7 + (1 : Int32)))]) [1, 2, 3, 4, 0] rfl ?_
                  exact ih119 _ _ E
                · refine g_iconst (pc' := 158) O ⟨dX11_ask_157, rfl⟩ (v := (1 : Int32)) rfl ?_
                  refine g_goto (pc' := 161) O ⟨dX11_ask_158, rfl⟩ (tgt := 162) (by decide) ?_
                  refine g_zast (pc' := 163) O ⟨dX11_ask_162, rfl⟩ (wM_14 ad cy h_8) (vM_14 ad cy h_8 _) E (fun E => ?_)
                  refine g_nmh E (fun h_13 E => ?_)
                  refine g_iinc (pc' := 166) O ⟨dX11_ask_163, rfl⟩ (q := 4) (v := x5_7 + (1 : Int32)) (lv' := [(5, .int (x5_7 + (1 : Int32))), (0, .ref (ad 0)), (1, .int x1), (2, .int x2), (4, .int (1 : Int32))]) rfl rfl (by decide) rfl ?_
                  refine g_goto (pc' := 169) O ⟨dX11_ask_166, rfl⟩ (tgt := 119) (by decide) ?_
                  refine g_sub (lv' := [(0, .ref (ad 0)), (1, .int x1), (2, .int x2), (4, .int (1 : Int32)), (5, .int (x5_7 + (1 : Int32)))]) [1, 2, 3, 4, 0] rfl ?_
                  exact ih119 _ _ E
        · intro k109 hk109 E
          refine g_if_gt (pc' := 100) O ⟨dX11_ask_97, rfl⟩ E (tgt := 109) (by decide) (fun E => ?_) (fun E => ?_)
          · refine g_sub (lv' := [(0, .ref (ad 0)), (1, .int x1), (2, .int x2)]) [0, 1, 2] rfl ?_
            exact hk109 E
          · refine g_iload_n (pc' := 101) O ⟨dX11_ask_100, rfl⟩ (q := 3) rfl rfl ?_
            refine g_if_ne (pc' := 104) O ⟨dX11_ask_101, rfl⟩ E (tgt := 113) (by decide) (fun E => ?_) (fun E => ?_)
            · refine g_iconst (pc' := 114) O ⟨dX11_ask_113, rfl⟩ (v := (0 : Int32)) rfl ?_
              refine g_istore (pc' := 116) O ⟨dX11_ask_114, rfl⟩ (lv' := [(4, .int (0 : Int32)), (0, .ref (ad 0)), (1, .int x1), (2, .int x2), (3, .int x3_5)]) (by decide) rfl ?_
              refine g_iconst (pc' := 117) O ⟨dX11_ask_116, rfl⟩ (v := (0 : Int32)) rfl ?_
              refine g_istore (pc' := 119) O ⟨dX11_ask_117, rfl⟩ (lv' := [(5, .int (0 : Int32)), (4, .int (0 : Int32)), (0, .ref (ad 0)), (1, .int x1), (2, .int x2), (3, .int x3_5)]) (by decide) rfl ?_
              refine jn1_of (P := fun (h_14 : Hp) => G l D X 6 (WM ad cy) 0 0 h_14 169 [(4, .int (0 : Int32))] []) E ?_ ?_
              · intro h_14 E
                show G l D X 6 (WM ad cy) 0 0 h_14 169 [(4, .int (0 : Int32))] []
                refine g_iload (pc' := 171) O ⟨dX11_ask_169, rfl⟩ (q := 0) rfl ?_
                obtain ⟨hn, E⟩ := ckz_of E
                cases E
                exact hret _ _ _ ⟨dX11_ask_171, rfl⟩ hn
              · intro k169 hk169 E
                refine g_sub (lv' := [(0, .ref (ad 0)), (1, .int x1), (2, .int x2), (4, .int (0 : Int32)), (5, .int (0 : Int32))]) [2, 3, 4, 1, 0] rfl ?_
                refine fx2_of (P := fun (x5_15 : Int32) (h_16 : Hp) => G l D X 6 (WM ad cy) 0 0 h_16 119 [(0, .ref (ad 0)), (1, .int x1), (2, .int x2), (4, .int (0 : Int32)), (5, .int x5_15)] []) ?_ _ _ _ E
                intro self ih119 x5_15 h_16 E
                show G l D X 6 (WM ad cy) 0 0 h_16 119 [(0, .ref (ad 0)), (1, .int x1), (2, .int x2), (4, .int (0 : Int32)), (5, .int x5_15)] []
                unfold L_X11_ask_119 at E
                refine g_iload (pc' := 121) O ⟨dX11_ask_119, rfl⟩ (q := 4) rfl ?_
                refine g_aload_n (pc' := 122) O ⟨dX11_ask_121, rfl⟩ (q := 0) rfl rfl ?_
                refine gf_M_RX11_88_0 ad cy (pc' := 125) O ⟨dX11_ask_122, rfl⟩ ?_
                refine g_icmp_ge (pc' := 128) O ⟨dX11_ask_125, rfl⟩ E (tgt := 169) (by decide) (fun E => ?_) (fun E => ?_)
                · refine g_sub (lv' := [(4, .int (0 : Int32))]) [3] rfl ?_
                  exact hk169 _ E
                · refine g_aload_n (pc' := 129) O ⟨dX11_ask_128, rfl⟩ (q := 0) rfl rfl ?_
                  refine gf_M_RX11_50_0 ad cy (pc' := 132) O ⟨dX11_ask_129, rfl⟩ ?_
                  refine g_iload (pc' := 134) O ⟨dX11_ask_132, rfl⟩ (q := 4) rfl ?_
                  refine g_aload_n (pc' := 135) O ⟨dX11_ask_134, rfl⟩ (q := 0) rfl rfl ?_
                  refine gf_M_RX11_50_0 ad cy (pc' := 138) O ⟨dX11_ask_135, rfl⟩ ?_
                  refine g_iload (pc' := 140) O ⟨dX11_ask_138, rfl⟩ (q := 4) rfl ?_
                  refine g_zald (pc' := 141) O ⟨dX11_ask_140, rfl⟩ (wM_14 ad cy h_16) E (fun E => ?_)
                  refine g_if_eq (pc' := 144) O ⟨dX11_ask_141, rfl⟩ E (tgt := 161) (by decide) (fun E => ?_) (fun E => ?_)
                  · refine g_iconst (pc' := 162) O ⟨dX11_ask_161, rfl⟩ (v := (0 : Int32)) rfl ?_
                    refine g_zast (pc' := 163) O ⟨dX11_ask_162, rfl⟩ (wM_14 ad cy h_16) (vM_14 ad cy h_16 _) E (fun E => ?_)
                    refine g_nmh E (fun h_17 E => ?_)
                    refine g_iinc (pc' := 166) O ⟨dX11_ask_163, rfl⟩ (q := 4) (v := x5_15 + (1 : Int32)) (lv' := [(5, .int (x5_15 + (1 : Int32))), (0, .ref (ad 0)), (1, .int x1), (2, .int x2), (4, .int (0 : Int32))]) rfl rfl (by decide) rfl ?_
                    refine g_goto (pc' := 169) O ⟨dX11_ask_166, rfl⟩ (tgt := 119) (by decide) ?_
                    refine g_sub (lv' := [(0, .ref (ad 0)), (1, .int x1), (2, .int x2), (4, .int (0 : Int32)), (5, .int (x5_15 + (1 : Int32)))]) [1, 2, 3, 4, 0] rfl ?_
                    exact ih119 _ _ E
                  · refine g_aload_n (pc' := 145) O ⟨dX11_ask_144, rfl⟩ (q := 0) rfl rfl ?_
                    refine g_iload (pc' := 147) O ⟨dX11_ask_145, rfl⟩ (q := 4) rfl ?_
                    refine g_iload_n (pc' := 148) O ⟨dX11_ask_147, rfl⟩ (q := 1) rfl rfl ?_
                    refine g_iload_n (pc' := 149) O ⟨dX11_ask_148, rfl⟩ (q := 2) rfl rfl ?_
                    obtain ⟨r_18, c_19, E⟩ := bd_of E
                    refine g_Vi (pc' := 152) O ⟨dX11_ask_149, rfl⟩ (y := yX11_isLess) (As := [.int x5_15, .int x1, .int x2]) (st := [.int x5_15, .ref (ad 14)]) (t_X11_isLess l D ad cy (h := h_16) c_19) kw_1445 kw_70 kw_1442 kw_1444 kw_54 rfl (wM_0 ad cy h_16) hd_X11_isLess ⟨Nat.le_of_ble_eq_true rfl, Nat.le_of_ble_eq_true rfl⟩ ⟨Nat.le_of_ble_eq_true rfl, Nat.le_of_ble_eq_true rfl⟩ rfl (Nat.le_of_ble_eq_true rfl) ?_
                    refine g_iload (pc' := 154) O ⟨dX11_ask_152, rfl⟩ (q := 3) rfl ?_
                    refine g_icmp_ne (pc' := 157) O ⟨dX11_ask_154, rfl⟩ E (tgt := 161) (by decide) (fun E => ?_) (fun E => ?_)
                    · refine g_iconst (pc' := 162) O ⟨dX11_ask_161, rfl⟩ (v := (0 : Int32)) rfl ?_
                      refine g_zast (pc' := 163) O ⟨dX11_ask_162, rfl⟩ (wM_14 ad cy h_16) (vM_14 ad cy h_16 _) E (fun E => ?_)
                      refine g_nmh E (fun h_20 E => ?_)
                      refine g_iinc (pc' := 166) O ⟨dX11_ask_163, rfl⟩ (q := 4) (v := x5_15 + (1 : Int32)) (lv' := [(5, .int (x5_15 + (1 : Int32))), (0, .ref (ad 0)), (1, .int x1), (2, .int x2), (4, .int (0 : Int32))]) rfl rfl (by decide) rfl ?_
                      refine g_goto (pc' := 169) O ⟨dX11_ask_166, rfl⟩ (tgt := 119) (by decide) ?_
                      refine g_sub (lv' := [(0, .ref (ad 0)), (1, .int x1), (2, .int x2), (4, .int (0 : Int32)), (5, .int (x5_15 + (1 : Int32)))]) [1, 2, 3, 4, 0] rfl ?_
                      exact ih119 _ _ E
                    · refine g_iconst (pc' := 158) O ⟨dX11_ask_157, rfl⟩ (v := (1 : Int32)) rfl ?_
                      refine g_goto (pc' := 161) O ⟨dX11_ask_158, rfl⟩ (tgt := 162) (by decide) ?_
                      refine g_zast (pc' := 163) O ⟨dX11_ask_162, rfl⟩ (wM_14 ad cy h_16) (vM_14 ad cy h_16 _) E (fun E => ?_)
                      refine g_nmh E (fun h_21 E => ?_)
                      refine g_iinc (pc' := 166) O ⟨dX11_ask_163, rfl⟩ (q := 4) (v := x5_15 + (1 : Int32)) (lv' := [(5, .int (x5_15 + (1 : Int32))), (0, .ref (ad 0)), (1, .int x1), (2, .int x2), (4, .int (0 : Int32))]) rfl rfl (by decide) rfl ?_
                      refine g_goto (pc' := 169) O ⟨dX11_ask_166, rfl⟩ (tgt := 119) (by decide) ?_
                      refine g_sub (lv' := [(0, .ref (ad 0)), (1, .int x1), (2, .int x2), (4, .int (0 : Int32)), (5, .int (x5_15 + (1 : Int32)))]) [1, 2, 3, 4, 0] rfl ?_
                      exact ih119 _ _ E
            · refine g_iload_n (pc' := 105) O ⟨dX11_ask_104, rfl⟩ (q := 1) rfl rfl ?_
              refine g_iload_n (pc' := 106) O ⟨dX11_ask_105, rfl⟩ (q := 2) rfl rfl ?_
              refine g_icmp_ge (pc' := 109) O ⟨dX11_ask_106, rfl⟩ E (tgt := 113) (by decide) (fun E => ?_) (fun E => ?_)
              · refine g_iconst (pc' := 114) O ⟨dX11_ask_113, rfl⟩ (v := (0 : Int32)) rfl ?_
                refine g_istore (pc' := 116) O ⟨dX11_ask_114, rfl⟩ (lv' := [(4, .int (0 : Int32)), (0, .ref (ad 0)), (1, .int x1), (2, .int x2), (3, .int x3_5)]) (by decide) rfl ?_
                refine g_iconst (pc' := 117) O ⟨dX11_ask_116, rfl⟩ (v := (0 : Int32)) rfl ?_
                refine g_istore (pc' := 119) O ⟨dX11_ask_117, rfl⟩ (lv' := [(5, .int (0 : Int32)), (4, .int (0 : Int32)), (0, .ref (ad 0)), (1, .int x1), (2, .int x2), (3, .int x3_5)]) (by decide) rfl ?_
                refine jn1_of (P := fun (h_22 : Hp) => G l D X 6 (WM ad cy) 0 0 h_22 169 [(4, .int (0 : Int32))] []) E ?_ ?_
                · intro h_22 E
                  show G l D X 6 (WM ad cy) 0 0 h_22 169 [(4, .int (0 : Int32))] []
                  refine g_iload (pc' := 171) O ⟨dX11_ask_169, rfl⟩ (q := 0) rfl ?_
                  obtain ⟨hn, E⟩ := ckz_of E
                  cases E
                  exact hret _ _ _ ⟨dX11_ask_171, rfl⟩ hn
                · intro k169 hk169 E
                  refine g_sub (lv' := [(0, .ref (ad 0)), (1, .int x1), (2, .int x2), (4, .int (0 : Int32)), (5, .int (0 : Int32))]) [2, 3, 4, 1, 0] rfl ?_
                  refine fx2_of (P := fun (x5_23 : Int32) (h_24 : Hp) => G l D X 6 (WM ad cy) 0 0 h_24 119 [(0, .ref (ad 0)), (1, .int x1), (2, .int x2), (4, .int (0 : Int32)), (5, .int x5_23)] []) ?_ _ _ _ E
                  intro self ih119 x5_23 h_24 E
                  show G l D X 6 (WM ad cy) 0 0 h_24 119 [(0, .ref (ad 0)), (1, .int x1), (2, .int x2), (4, .int (0 : Int32)), (5, .int x5_23)] []
                  unfold L_X11_ask_119 at E
                  refine g_iload (pc' := 121) O ⟨dX11_ask_119, rfl⟩ (q := 4) rfl ?_
                  refine g_aload_n (pc' := 122) O ⟨dX11_ask_121, rfl⟩ (q := 0) rfl rfl ?_
                  refine gf_M_RX11_88_0 ad cy (pc' := 125) O ⟨dX11_ask_122, rfl⟩ ?_
                  refine g_icmp_ge (pc' := 128) O ⟨dX11_ask_125, rfl⟩ E (tgt := 169) (by decide) (fun E => ?_) (fun E => ?_)
                  · refine g_sub (lv' := [(4, .int (0 : Int32))]) [3] rfl ?_
                    exact hk169 _ E
                  · refine g_aload_n (pc' := 129) O ⟨dX11_ask_128, rfl⟩ (q := 0) rfl rfl ?_
                    refine gf_M_RX11_50_0 ad cy (pc' := 132) O ⟨dX11_ask_129, rfl⟩ ?_
                    refine g_iload (pc' := 134) O ⟨dX11_ask_132, rfl⟩ (q := 4) rfl ?_
                    refine g_aload_n (pc' := 135) O ⟨dX11_ask_134, rfl⟩ (q := 0) rfl rfl ?_
                    refine gf_M_RX11_50_0 ad cy (pc' := 138) O ⟨dX11_ask_135, rfl⟩ ?_
                    refine g_iload (pc' := 140) O ⟨dX11_ask_138, rfl⟩ (q := 4) rfl ?_
                    refine g_zald (pc' := 141) O ⟨dX11_ask_140, rfl⟩ (wM_14 ad cy h_24) E (fun E => ?_)
                    refine g_if_eq (pc' := 144) O ⟨dX11_ask_141, rfl⟩ E (tgt := 161) (by decide) (fun E => ?_) (fun E => ?_)
                    · refine g_iconst (pc' := 162) O ⟨dX11_ask_161, rfl⟩ (v := (0 : Int32)) rfl ?_
                      refine g_zast (pc' := 163) O ⟨dX11_ask_162, rfl⟩ (wM_14 ad cy h_24) (vM_14 ad cy h_24 _) E (fun E => ?_)
                      refine g_nmh E (fun h_25 E => ?_)
                      refine g_iinc (pc' := 166) O ⟨dX11_ask_163, rfl⟩ (q := 4) (v := x5_23 + (1 : Int32)) (lv' := [(5, .int (x5_23 + (1 : Int32))), (0, .ref (ad 0)), (1, .int x1), (2, .int x2), (4, .int (0 : Int32))]) rfl rfl (by decide) rfl ?_
                      refine g_goto (pc' := 169) O ⟨dX11_ask_166, rfl⟩ (tgt := 119) (by decide) ?_
                      refine g_sub (lv' := [(0, .ref (ad 0)), (1, .int x1), (2, .int x2), (4, .int (0 : Int32)), (5, .int (x5_23 + (1 : Int32)))]) [1, 2, 3, 4, 0] rfl ?_
                      exact ih119 _ _ E
                    · refine g_aload_n (pc' := 145) O ⟨dX11_ask_144, rfl⟩ (q := 0) rfl rfl ?_
                      refine g_iload (pc' := 147) O ⟨dX11_ask_145, rfl⟩ (q := 4) rfl ?_
                      refine g_iload_n (pc' := 148) O ⟨dX11_ask_147, rfl⟩ (q := 1) rfl rfl ?_
                      refine g_iload_n (pc' := 149) O ⟨dX11_ask_148, rfl⟩ (q := 2) rfl rfl ?_
                      obtain ⟨r_26, c_27, E⟩ := bd_of E
                      refine g_Vi (pc' := 152) O ⟨dX11_ask_149, rfl⟩ (y := yX11_isLess) (As := [.int x5_23, .int x1, .int x2]) (st := [.int x5_23, .ref (ad 14)]) (t_X11_isLess l D ad cy (h := h_24) c_27) kw_1445 kw_70 kw_1442 kw_1444 kw_54 rfl (wM_0 ad cy h_24) hd_X11_isLess ⟨Nat.le_of_ble_eq_true rfl, Nat.le_of_ble_eq_true rfl⟩ ⟨Nat.le_of_ble_eq_true rfl, Nat.le_of_ble_eq_true rfl⟩ rfl (Nat.le_of_ble_eq_true rfl) ?_
                      refine g_iload (pc' := 154) O ⟨dX11_ask_152, rfl⟩ (q := 3) rfl ?_
                      refine g_icmp_ne (pc' := 157) O ⟨dX11_ask_154, rfl⟩ E (tgt := 161) (by decide) (fun E => ?_) (fun E => ?_)
                      · refine g_iconst (pc' := 162) O ⟨dX11_ask_161, rfl⟩ (v := (0 : Int32)) rfl ?_
                        refine g_zast (pc' := 163) O ⟨dX11_ask_162, rfl⟩ (wM_14 ad cy h_24) (vM_14 ad cy h_24 _) E (fun E => ?_)
                        refine g_nmh E (fun h_28 E => ?_)
                        refine g_iinc (pc' := 166) O ⟨dX11_ask_163, rfl⟩ (q := 4) (v := x5_23 + (1 : Int32)) (lv' := [(5, .int (x5_23 + (1 : Int32))), (0, .ref (ad 0)), (1, .int x1), (2, .int x2), (4, .int (0 : Int32))]) rfl rfl (by decide) rfl ?_
                        refine g_goto (pc' := 169) O ⟨dX11_ask_166, rfl⟩ (tgt := 119) (by decide) ?_
                        refine g_sub (lv' := [(0, .ref (ad 0)), (1, .int x1), (2, .int x2), (4, .int (0 : Int32)), (5, .int (x5_23 + (1 : Int32)))]) [1, 2, 3, 4, 0] rfl ?_
                        exact ih119 _ _ E
                      · refine g_iconst (pc' := 158) O ⟨dX11_ask_157, rfl⟩ (v := (1 : Int32)) rfl ?_
                        refine g_goto (pc' := 161) O ⟨dX11_ask_158, rfl⟩ (tgt := 162) (by decide) ?_
                        refine g_zast (pc' := 163) O ⟨dX11_ask_162, rfl⟩ (wM_14 ad cy h_24) (vM_14 ad cy h_24 _) E (fun E => ?_)
                        refine g_nmh E (fun h_29 E => ?_)
                        refine g_iinc (pc' := 166) O ⟨dX11_ask_163, rfl⟩ (q := 4) (v := x5_23 + (1 : Int32)) (lv' := [(5, .int (x5_23 + (1 : Int32))), (0, .ref (ad 0)), (1, .int x1), (2, .int x2), (4, .int (0 : Int32))]) rfl rfl (by decide) rfl ?_
                        refine g_goto (pc' := 169) O ⟨dX11_ask_166, rfl⟩ (tgt := 119) (by decide) ?_
                        refine g_sub (lv' := [(0, .ref (ad 0)), (1, .int x1), (2, .int x2), (4, .int (0 : Int32)), (5, .int (x5_23 + (1 : Int32)))]) [1, 2, 3, 4, 0] rfl ?_
                        exact ih119 _ _ E
              · refine g_sub (lv' := [(0, .ref (ad 0)), (1, .int x1), (2, .int x2)]) [0, 1, 2] rfl ?_
                exact hk109 E
      · intro k96 hk96 E
        refine g_sub (lv' := [(0, .ref (ad 0)), (1, .int x1), (2, .int x2), (3, .int (0 : Int32)), (4, .int (0 : Int32))]) [2, 3, 4, 1, 0] rfl ?_
        refine fx2_of (P := fun (x3_30 : Int32) (x4_31 : Int32) => G l D X 6 (WM ad cy) 0 0 h_4 48 [(0, .ref (ad 0)), (1, .int x1), (2, .int x2), (3, .int x3_30), (4, .int x4_31)] []) ?_ _ _ _ E
        intro self ih48 x3_30 x4_31 E
        show G l D X 6 (WM ad cy) 0 0 h_4 48 [(0, .ref (ad 0)), (1, .int x1), (2, .int x2), (3, .int x3_30), (4, .int x4_31)] []
        unfold L_X11_ask_48 at E
        refine g_iload (pc' := 50) O ⟨dX11_ask_48, rfl⟩ (q := 4) rfl ?_
        refine g_aload_n (pc' := 51) O ⟨dX11_ask_50, rfl⟩ (q := 0) rfl rfl ?_
        refine gf_M_RX11_88_0 ad cy (pc' := 54) O ⟨dX11_ask_51, rfl⟩ ?_
        refine g_icmp_ge (pc' := 57) O ⟨dX11_ask_54, rfl⟩ E (tgt := 96) (by decide) (fun E => ?_) (fun E => ?_)
        · refine g_sub (lv' := [(0, .ref (ad 0)), (1, .int x1), (2, .int x2), (3, .int x3_30)]) [0, 1, 2, 3] rfl ?_
          exact hk96 _ E
        · refine g_iload_n (pc' := 58) O ⟨dX11_ask_57, rfl⟩ (q := 3) rfl rfl ?_
          refine g_aload_n (pc' := 59) O ⟨dX11_ask_58, rfl⟩ (q := 0) rfl rfl ?_
          refine gf_M_RX11_50_0 ad cy (pc' := 62) O ⟨dX11_ask_59, rfl⟩ ?_
          refine g_iload (pc' := 64) O ⟨dX11_ask_62, rfl⟩ (q := 4) rfl ?_
          refine g_zald (pc' := 65) O ⟨dX11_ask_64, rfl⟩ (wM_14 ad cy h_4) E (fun E => ?_)
          refine g_if_ne (pc' := 68) O ⟨dX11_ask_65, rfl⟩ E (tgt := 72) (by decide) (fun E => ?_) (fun E => ?_)
          · refine g_aload_n (pc' := 73) O ⟨dX11_ask_72, rfl⟩ (q := 0) rfl rfl ?_
            refine g_iload (pc' := 75) O ⟨dX11_ask_73, rfl⟩ (q := 4) rfl ?_
            refine g_iload_n (pc' := 76) O ⟨dX11_ask_75, rfl⟩ (q := 1) rfl rfl ?_
            refine g_iload_n (pc' := 77) O ⟨dX11_ask_76, rfl⟩ (q := 2) rfl rfl ?_
            obtain ⟨r_32, c_33, E⟩ := bd_of E
            refine g_Vi (pc' := 80) O ⟨dX11_ask_77, rfl⟩ (y := yX11_isLess) (As := [.int x4_31, .int x1, .int x2]) (st := [.int x3_30]) (t_X11_isLess l D ad cy (h := h_4) c_33) kw_1445 kw_70 kw_1442 kw_1444 kw_54 rfl (wM_0 ad cy h_4) hd_X11_isLess ⟨Nat.le_of_ble_eq_true rfl, Nat.le_of_ble_eq_true rfl⟩ ⟨Nat.le_of_ble_eq_true rfl, Nat.le_of_ble_eq_true rfl⟩ rfl (Nat.le_of_ble_eq_true rfl) ?_
            refine g_if_eq (pc' := 83) O ⟨dX11_ask_80, rfl⟩ E (tgt := 87) (by decide) (fun E => ?_) (fun E => ?_)
            · refine g_iconst (pc' := 88) O ⟨dX11_ask_87, rfl⟩ (v := (-1 : Int32)) rfl ?_
              refine g_iadd (pc' := 89) O ⟨dX11_ask_88, rfl⟩ ?_
              refine g_nm E (fun y3_34 E => ?_)
              refine g_istore_n (pc' := 90) O ⟨dX11_ask_89, rfl⟩ (lv' := [(3, .int y3_34), (0, .ref (ad 0)), (1, .int x1), (2, .int x2), (4, .int x4_31)]) rfl (by decide) rfl ?_
              refine g_iinc (pc' := 93) O ⟨dX11_ask_90, rfl⟩ (q := 4) (v := x4_31 + (1 : Int32)) (lv' := [(4, .int (x4_31 + (1 : Int32))), (3, .int y3_34), (0, .ref (ad 0)), (1, .int x1), (2, .int x2)]) rfl rfl (by decide) rfl ?_
              refine g_goto (pc' := 96) O ⟨dX11_ask_93, rfl⟩ (tgt := 48) (by decide) ?_
              refine g_sub (lv' := [(0, .ref (ad 0)), (1, .int x1), (2, .int x2), (3, .int y3_34), (4, .int (x4_31 + (1 : Int32)))]) [2, 3, 4, 1, 0] rfl ?_
              exact ih48 _ _ E
            · refine g_iconst (pc' := 84) O ⟨dX11_ask_83, rfl⟩ (v := (1 : Int32)) rfl ?_
              refine g_goto (pc' := 87) O ⟨dX11_ask_84, rfl⟩ (tgt := 88) (by decide) ?_
              refine g_iadd (pc' := 89) O ⟨dX11_ask_88, rfl⟩ ?_
              refine g_nm E (fun y3_35 E => ?_)
              refine g_istore_n (pc' := 90) O ⟨dX11_ask_89, rfl⟩ (lv' := [(3, .int y3_35), (0, .ref (ad 0)), (1, .int x1), (2, .int x2), (4, .int x4_31)]) rfl (by decide) rfl ?_
              refine g_iinc (pc' := 93) O ⟨dX11_ask_90, rfl⟩ (q := 4) (v := x4_31 + (1 : Int32)) (lv' := [(4, .int (x4_31 + (1 : Int32))), (3, .int y3_35), (0, .ref (ad 0)), (1, .int x1), (2, .int x2)]) rfl rfl (by decide) rfl ?_
              refine g_goto (pc' := 96) O ⟨dX11_ask_93, rfl⟩ (tgt := 48) (by decide) ?_
              refine g_sub (lv' := [(0, .ref (ad 0)), (1, .int x1), (2, .int x2), (3, .int y3_35), (4, .int (x4_31 + (1 : Int32)))]) [2, 3, 4, 1, 0] rfl ?_
              exact ih48 _ _ E
          · refine g_iconst (pc' := 69) O ⟨dX11_ask_68, rfl⟩ (v := (0 : Int32)) rfl ?_
            refine g_goto (pc' := 72) O ⟨dX11_ask_69, rfl⟩ (tgt := 88) (by decide) ?_
            refine g_iadd (pc' := 89) O ⟨dX11_ask_88, rfl⟩ ?_
            refine g_nm E (fun y3_36 E => ?_)
            refine g_istore_n (pc' := 90) O ⟨dX11_ask_89, rfl⟩ (lv' := [(3, .int y3_36), (0, .ref (ad 0)), (1, .int x1), (2, .int x2), (4, .int x4_31)]) rfl (by decide) rfl ?_
            refine g_iinc (pc' := 93) O ⟨dX11_ask_90, rfl⟩ (q := 4) (v := x4_31 + (1 : Int32)) (lv' := [(4, .int (x4_31 + (1 : Int32))), (3, .int y3_36), (0, .ref (ad 0)), (1, .int x1), (2, .int x2)]) rfl rfl (by decide) rfl ?_
            refine g_goto (pc' := 96) O ⟨dX11_ask_93, rfl⟩ (tgt := 48) (by decide) ?_
            refine g_sub (lv' := [(0, .ref (ad 0)), (1, .int x1), (2, .int x2), (3, .int y3_36), (4, .int (x4_31 + (1 : Int32)))]) [2, 3, 4, 1, 0] rfl ?_
            exact ih48 _ _ E
    · refine g_iconst (pc' := 42) O ⟨dX11_ask_41, rfl⟩ (v := (0 : Int32)) rfl ?_
      obtain ⟨hn, E⟩ := ckz_of E
      cases E
      exact hret _ _ _ ⟨dX11_ask_42, rfl⟩ hn
  · intro k31 hk31 E
    refine jn0_of (P := G l D X 6 (WM ad cy) 0 0 h 17 [(0, .ref (ad 0)), (1, .int x1), (2, .int x2)] [.ref (ad 0)]) E ?_ ?_
    · intro E
      show G l D X 6 (WM ad cy) 0 0 h 17 [(0, .ref (ad 0)), (1, .int x1), (2, .int x2)] [.ref (ad 0)]
      refine g_iconst (pc' := 18) O ⟨dX11_ask_17, rfl⟩ (v := (1 : Int32)) rfl ?_
      refine g_goto (pc' := 21) O ⟨dX11_ask_18, rfl⟩ (tgt := 31) (by decide) ?_
      exact hk31 _ E
    · intro k17 hk17 E
      refine g_if_eq (pc' := 9) O ⟨dX11_ask_6, rfl⟩ E (tgt := 17) (by decide) (fun E => ?_) (fun E => ?_)
      · exact hk17 E
      · refine g_aload_n (pc' := 10) O ⟨dX11_ask_9, rfl⟩ (q := 0) rfl rfl ?_
        refine g_iload_n (pc' := 11) O ⟨dX11_ask_10, rfl⟩ (q := 2) rfl rfl ?_
        obtain ⟨r_37, c_38, E⟩ := bd_of E
        refine g_Vi (pc' := 14) O ⟨dX11_ask_11, rfl⟩ (y := yX11_isWire) (As := [.int x2]) (st := [.ref (ad 0)]) (t_X11_isWire l D ad cy (h := h) c_38) kw_1175 kw_70 kw_1172 kw_1174 kw_26 rfl (wM_0 ad cy h) hd_X11_isWire ⟨Nat.le_of_ble_eq_true rfl, Nat.le_of_ble_eq_true rfl⟩ ⟨Nat.le_of_ble_eq_true rfl, Nat.le_of_ble_eq_true rfl⟩ rfl (Nat.le_of_ble_eq_true rfl) ?_
        refine g_if_ne (pc' := 17) O ⟨dX11_ask_14, rfl⟩ E (tgt := 21) (by decide) (fun E => ?_) (fun E => ?_)
        · refine g_iload_n (pc' := 22) O ⟨dX11_ask_21, rfl⟩ (q := 1) rfl rfl ?_
          refine g_iload_n (pc' := 23) O ⟨dX11_ask_22, rfl⟩ (q := 2) rfl rfl ?_
          refine g_icmp_ne (pc' := 26) O ⟨dX11_ask_23, rfl⟩ E (tgt := 30) (by decide) (fun E => ?_) (fun E => ?_)
          · refine g_iconst (pc' := 31) O ⟨dX11_ask_30, rfl⟩ (v := (0 : Int32)) rfl ?_
            exact hk31 _ E
          · refine g_iconst (pc' := 27) O ⟨dX11_ask_26, rfl⟩ (v := (2 : Int32)) rfl ?_
            refine g_goto (pc' := 30) O ⟨dX11_ask_27, rfl⟩ (tgt := 31) (by decide) ?_
            exact hk31 _ E
        · exact hk17 E
set_option maxRecDepth 100000 in
set_option maxHeartbeats 4000000 in
theorem t_X11_left (l : Launch) (D : va_G) (ad : Nat → Nat) (cy : Nat → ClassId) {h : Hp}  {o : Int32 × Hp} (E : f_X11_left h = some o) : CtI l D cy (WM ad cy) yX11_left cX11_left 3 .int 0 0 [.ref (ad 0)] h o.1 o.2 := by
  refine sI (own := RX11) rfl rfl (Nat.le_of_ble_eq_true rfl) (fun X O hret => ?_)
  show G l D X 3 (WM ad cy) 0 0 h 0 [(0, .ref (ad 0))] []
  unfold f_X11_left at E
  refine g_aload_n (pc' := 1) O ⟨dX11_left_0, rfl⟩ (q := 0) rfl rfl ?_
  refine g_iconst (pc' := 2) O ⟨dX11_left_1, rfl⟩ (v := (0 : Int32)) rfl ?_
  refine gp_M_RX11_70_0 ad cy (pc' := 5) O ⟨dX11_left_2, rfl⟩ ?_
  refine g_nmh E (fun h_1 E => ?_)
  refine g_iconst (pc' := 6) O ⟨dX11_left_5, rfl⟩ (v := (0 : Int32)) rfl ?_
  refine g_istore_n (pc' := 7) O ⟨dX11_left_6, rfl⟩ (lv' := [(1, .int (0 : Int32)), (0, .ref (ad 0))]) rfl (by decide) rfl ?_
  refine g_iconst (pc' := 8) O ⟨dX11_left_7, rfl⟩ (v := (0 : Int32)) rfl ?_
  refine g_istore_n (pc' := 9) O ⟨dX11_left_8, rfl⟩ (lv' := [(2, .int (0 : Int32)), (1, .int (0 : Int32)), (0, .ref (ad 0))]) rfl (by decide) rfl ?_
  refine jn1_of (P := fun (x1_2 : Int32) => G l D X 3 (WM ad cy) 0 0 h_1 40 [(1, .int x1_2)] []) E ?_ ?_
  · intro x1_2 E
    show G l D X 3 (WM ad cy) 0 0 h_1 40 [(1, .int x1_2)] []
    refine g_iload_n (pc' := 41) O ⟨dX11_left_40, rfl⟩ (q := 0) rfl rfl ?_
    cases E
    exact hret _ _ _ ⟨dX11_left_41, rfl⟩ rfl
  · intro k40 hk40 E
    refine g_sub (lv' := [(0, .ref (ad 0)), (1, .int (0 : Int32)), (2, .int (0 : Int32))]) [2, 1, 0] rfl ?_
    refine fx2_of (P := fun (x1_3 : Int32) (x2_4 : Int32) => G l D X 3 (WM ad cy) 0 0 h_1 9 [(0, .ref (ad 0)), (1, .int x1_3), (2, .int x2_4)] []) ?_ _ _ _ E
    intro self ih9 x1_3 x2_4 E
    show G l D X 3 (WM ad cy) 0 0 h_1 9 [(0, .ref (ad 0)), (1, .int x1_3), (2, .int x2_4)] []
    unfold L_X11_left_9 at E
    refine g_iload_n (pc' := 10) O ⟨dX11_left_9, rfl⟩ (q := 2) rfl rfl ?_
    refine g_aload_n (pc' := 11) O ⟨dX11_left_10, rfl⟩ (q := 0) rfl rfl ?_
    refine gf_M_RX11_88_0 ad cy (pc' := 14) O ⟨dX11_left_11, rfl⟩ ?_
    refine g_icmp_ge (pc' := 17) O ⟨dX11_left_14, rfl⟩ E (tgt := 40) (by decide) (fun E => ?_) (fun E => ?_)
    · refine g_sub (lv' := [(1, .int x1_3)]) [1] rfl ?_
      exact hk40 _ E
    · refine g_iload_n (pc' := 18) O ⟨dX11_left_17, rfl⟩ (q := 1) rfl rfl ?_
      refine g_aload_n (pc' := 19) O ⟨dX11_left_18, rfl⟩ (q := 0) rfl rfl ?_
      refine gf_M_RX11_50_0 ad cy (pc' := 22) O ⟨dX11_left_19, rfl⟩ ?_
      refine g_iload_n (pc' := 23) O ⟨dX11_left_22, rfl⟩ (q := 2) rfl rfl ?_
      refine g_zald (pc' := 24) O ⟨dX11_left_23, rfl⟩ (wM_14 ad cy h_1) E (fun E => ?_)
      refine g_if_eq (pc' := 27) O ⟨dX11_left_24, rfl⟩ E (tgt := 31) (by decide) (fun E => ?_) (fun E => ?_)
      · refine g_iconst (pc' := 32) O ⟨dX11_left_31, rfl⟩ (v := (0 : Int32)) rfl ?_
        refine g_iadd (pc' := 33) O ⟨dX11_left_32, rfl⟩ ?_
        refine g_nm E (fun y1_5 E => ?_)
        refine g_istore_n (pc' := 34) O ⟨dX11_left_33, rfl⟩ (lv' := [(1, .int y1_5), (0, .ref (ad 0)), (2, .int x2_4)]) rfl (by decide) rfl ?_
        refine g_iinc (pc' := 37) O ⟨dX11_left_34, rfl⟩ (q := 2) (v := x2_4 + (1 : Int32)) (lv' := [(2, .int (x2_4 + (1 : Int32))), (1, .int y1_5), (0, .ref (ad 0))]) rfl rfl (by decide) rfl ?_
        refine g_goto (pc' := 40) O ⟨dX11_left_37, rfl⟩ (tgt := 9) (by decide) ?_
        refine g_sub (lv' := [(0, .ref (ad 0)), (1, .int y1_5), (2, .int (x2_4 + (1 : Int32)))]) [2, 1, 0] rfl ?_
        exact ih9 _ _ E
      · refine g_iconst (pc' := 28) O ⟨dX11_left_27, rfl⟩ (v := (1 : Int32)) rfl ?_
        refine g_goto (pc' := 31) O ⟨dX11_left_28, rfl⟩ (tgt := 32) (by decide) ?_
        refine g_iadd (pc' := 33) O ⟨dX11_left_32, rfl⟩ ?_
        refine g_nm E (fun y1_6 E => ?_)
        refine g_istore_n (pc' := 34) O ⟨dX11_left_33, rfl⟩ (lv' := [(1, .int y1_6), (0, .ref (ad 0)), (2, .int x2_4)]) rfl (by decide) rfl ?_
        refine g_iinc (pc' := 37) O ⟨dX11_left_34, rfl⟩ (q := 2) (v := x2_4 + (1 : Int32)) (lv' := [(2, .int (x2_4 + (1 : Int32))), (1, .int y1_6), (0, .ref (ad 0))]) rfl rfl (by decide) rfl ?_
        refine g_goto (pc' := 40) O ⟨dX11_left_37, rfl⟩ (tgt := 9) (by decide) ?_
        refine g_sub (lv' := [(0, .ref (ad 0)), (1, .int y1_6), (2, .int (x2_4 + (1 : Int32)))]) [2, 1, 0] rfl ?_
        exact ih9 _ _ E
set_option maxRecDepth 100000 in
set_option maxHeartbeats 4000000 in
theorem t_X11_bits (l : Launch) (D : va_G) (ad : Nat → Nat) (cy : Nat → ClassId) {h : Hp} {x0 : Int32} {o : Int32} (E : f_X11_bits x0 = some o) : CtI l D cy (WM ad cy) yX11_bits cX11_bits 3 .int 0 0 [.int x0] h o h := by
  refine sI (own := RX11) rfl rfl (Nat.le_of_ble_eq_true rfl) (fun X O hret => ?_)
  show G l D X 3 (WM ad cy) 0 0 h 0 [(0, .int x0)] []
  unfold f_X11_bits at E
  refine g_iconst (pc' := 1) O ⟨dX11_bits_0, rfl⟩ (v := (0 : Int32)) rfl ?_
  refine g_istore_n (pc' := 2) O ⟨dX11_bits_1, rfl⟩ (lv' := [(1, .int (0 : Int32)), (0, .int x0)]) rfl (by decide) rfl ?_
  refine g_iconst (pc' := 3) O ⟨dX11_bits_2, rfl⟩ (v := (0 : Int32)) rfl ?_
  refine g_istore_n (pc' := 4) O ⟨dX11_bits_3, rfl⟩ (lv' := [(2, .int (0 : Int32)), (1, .int (0 : Int32)), (0, .int x0)]) rfl (by decide) rfl ?_
  refine jn1_of (P := fun (x1_1 : Int32) => G l D X 3 (WM ad cy) 0 0 h 24 [(1, .int x1_1)] []) E ?_ ?_
  · intro x1_1 E
    show G l D X 3 (WM ad cy) 0 0 h 24 [(1, .int x1_1)] []
    refine g_iload_n (pc' := 25) O ⟨dX11_bits_24, rfl⟩ (q := 0) rfl rfl ?_
    cases E
    exact hret _ _ _ ⟨dX11_bits_25, rfl⟩ rfl
  · intro k24 hk24 E
    refine g_sub (lv' := [(0, .int x0), (1, .int (0 : Int32)), (2, .int (0 : Int32))]) [2, 1, 0] rfl ?_
    refine fx2_of (P := fun (x1_2 : Int32) (x2_3 : Int32) => G l D X 3 (WM ad cy) 0 0 h 4 [(0, .int x0), (1, .int x1_2), (2, .int x2_3)] []) ?_ _ _ _ E
    intro self ih4 x1_2 x2_3 E
    show G l D X 3 (WM ad cy) 0 0 h 4 [(0, .int x0), (1, .int x1_2), (2, .int x2_3)] []
    unfold L_X11_bits_4 at E
    refine g_iload_n (pc' := 5) O ⟨dX11_bits_4, rfl⟩ (q := 2) rfl rfl ?_
    refine g_bipush (pc' := 7) O ⟨dX11_bits_5, rfl⟩ (v := (24 : Int32)) rfl ?_
    refine g_icmp_ge (pc' := 10) O ⟨dX11_bits_7, rfl⟩ E (tgt := 24) (by decide) (fun E => ?_) (fun E => ?_)
    · refine g_sub (lv' := [(1, .int x1_2)]) [1] rfl ?_
      exact hk24 _ E
    · refine g_iload_n (pc' := 11) O ⟨dX11_bits_10, rfl⟩ (q := 1) rfl rfl ?_
      refine g_iload_n (pc' := 12) O ⟨dX11_bits_11, rfl⟩ (q := 0) rfl rfl ?_
      refine g_iload_n (pc' := 13) O ⟨dX11_bits_12, rfl⟩ (q := 2) rfl rfl ?_
      refine g_ishr (pc' := 14) O ⟨dX11_bits_13, rfl⟩ ?_
      refine g_iconst (pc' := 15) O ⟨dX11_bits_14, rfl⟩ (v := (1 : Int32)) rfl ?_
      refine g_iand (pc' := 16) O ⟨dX11_bits_15, rfl⟩ ?_
      refine g_iadd (pc' := 17) O ⟨dX11_bits_16, rfl⟩ ?_
      refine g_nm E (fun y1_4 E => ?_)
      refine g_istore_n (pc' := 18) O ⟨dX11_bits_17, rfl⟩ (lv' := [(1, .int y1_4), (0, .int x0), (2, .int x2_3)]) rfl (by decide) rfl ?_
      refine g_iinc (pc' := 21) O ⟨dX11_bits_18, rfl⟩ (q := 2) (v := x2_3 + (1 : Int32)) (lv' := [(2, .int (x2_3 + (1 : Int32))), (1, .int y1_4), (0, .int x0)]) rfl rfl (by decide) rfl ?_
      refine g_goto (pc' := 24) O ⟨dX11_bits_21, rfl⟩ (tgt := 4) (by decide) ?_
      refine g_sub (lv' := [(0, .int x0), (1, .int y1_4), (2, .int (x2_3 + (1 : Int32)))]) [2, 1, 0] rfl ?_
      exact ih4 _ _ E
set_option maxRecDepth 100000 in
set_option maxHeartbeats 4000000 in
theorem t_X11_lessIn (l : Launch) (D : va_G) (ad : Nat → Nat) (cy : Nat → ClassId) {h : Hp} {x1 : Int32} {x2 : Int32} {x3 : Int32} {o : Int32} (E : f_X11_lessIn h x1 x2 x3 = some o) : CtI l D cy (WM ad cy) yX11_lessIn cX11_lessIn 6 .int 1 23 [.ref (ad 0), .int x1, .int x2, .int x3] h o h := by
  refine sI (own := RX11) rfl rfl (Nat.le_of_ble_eq_true rfl) (fun X O hret => ?_)
  show G l D X 6 (WM ad cy) 0 0 h 0 [(0, .ref (ad 0)), (1, .int x1), (2, .int x2), (3, .int x3)] []
  unfold f_X11_lessIn at E
  refine g_iconst (pc' := 1) O ⟨dX11_lessIn_0, rfl⟩ (v := (0 : Int32)) rfl ?_
  refine g_istore (pc' := 3) O ⟨dX11_lessIn_1, rfl⟩ (lv' := [(4, .int (0 : Int32)), (0, .ref (ad 0)), (1, .int x1), (2, .int x2), (3, .int x3)]) (by decide) rfl ?_
  refine g_iconst (pc' := 4) O ⟨dX11_lessIn_3, rfl⟩ (v := (0 : Int32)) rfl ?_
  refine g_istore (pc' := 6) O ⟨dX11_lessIn_4, rfl⟩ (lv' := [(5, .int (0 : Int32)), (4, .int (0 : Int32)), (0, .ref (ad 0)), (1, .int x1), (2, .int x2), (3, .int x3)]) (by decide) rfl ?_
  refine jn1_of (P := fun (x4_1 : Int32) => G l D X 6 (WM ad cy) 0 0 h 55 [(4, .int x4_1)] []) E ?_ ?_
  · intro x4_1 E
    show G l D X 6 (WM ad cy) 0 0 h 55 [(4, .int x4_1)] []
    refine g_iload (pc' := 57) O ⟨dX11_lessIn_55, rfl⟩ (q := 0) rfl ?_
    cases E
    exact hret _ _ _ ⟨dX11_lessIn_57, rfl⟩ rfl
  · intro k55 hk55 E
    refine g_sub (lv' := [(0, .ref (ad 0)), (1, .int x1), (2, .int x2), (3, .int x3), (4, .int (0 : Int32)), (5, .int (0 : Int32))]) [2, 3, 4, 5, 1, 0] rfl ?_
    refine fx2_of (P := fun (x4_2 : Int32) (x5_3 : Int32) => G l D X 6 (WM ad cy) 0 0 h 6 [(0, .ref (ad 0)), (1, .int x1), (2, .int x2), (3, .int x3), (4, .int x4_2), (5, .int x5_3)] []) ?_ _ _ _ E
    intro self ih6 x4_2 x5_3 E
    show G l D X 6 (WM ad cy) 0 0 h 6 [(0, .ref (ad 0)), (1, .int x1), (2, .int x2), (3, .int x3), (4, .int x4_2), (5, .int x5_3)] []
    unfold L_X11_lessIn_6 at E
    refine g_iload (pc' := 8) O ⟨dX11_lessIn_6, rfl⟩ (q := 5) rfl ?_
    refine g_aload_n (pc' := 9) O ⟨dX11_lessIn_8, rfl⟩ (q := 0) rfl rfl ?_
    refine gf_M_RX11_88_0 ad cy (pc' := 12) O ⟨dX11_lessIn_9, rfl⟩ ?_
    refine g_icmp_ge (pc' := 15) O ⟨dX11_lessIn_12, rfl⟩ E (tgt := 55) (by decide) (fun E => ?_) (fun E => ?_)
    · refine g_sub (lv' := [(4, .int x4_2)]) [4] rfl ?_
      exact hk55 _ E
    · refine g_iload (pc' := 17) O ⟨dX11_lessIn_15, rfl⟩ (q := 4) rfl ?_
      refine g_iload_n (pc' := 18) O ⟨dX11_lessIn_17, rfl⟩ (q := 1) rfl rfl ?_
      refine g_iload (pc' := 20) O ⟨dX11_lessIn_18, rfl⟩ (q := 5) rfl ?_
      refine g_ishr (pc' := 21) O ⟨dX11_lessIn_20, rfl⟩ ?_
      refine g_iconst (pc' := 22) O ⟨dX11_lessIn_21, rfl⟩ (v := (1 : Int32)) rfl ?_
      refine g_iand (pc' := 23) O ⟨dX11_lessIn_22, rfl⟩ ?_
      refine g_iconst (pc' := 24) O ⟨dX11_lessIn_23, rfl⟩ (v := (1 : Int32)) rfl ?_
      refine jn0_of (P := G l D X 6 (WM ad cy) 0 0 h 45 [(0, .ref (ad 0)), (1, .int x1), (2, .int x2), (3, .int x3), (5, .int x5_3)] [.int x4_2]) E ?_ ?_
      · intro E
        show G l D X 6 (WM ad cy) 0 0 h 45 [(0, .ref (ad 0)), (1, .int x1), (2, .int x2), (3, .int x3), (5, .int x5_3)] [.int x4_2]
        refine g_iconst (pc' := 46) O ⟨dX11_lessIn_45, rfl⟩ (v := (0 : Int32)) rfl ?_
        refine g_ior (pc' := 47) O ⟨dX11_lessIn_46, rfl⟩ ?_
        refine g_nm E (fun y4_4 E => ?_)
        refine g_istore (pc' := 49) O ⟨dX11_lessIn_47, rfl⟩ (lv' := [(4, .int y4_4), (0, .ref (ad 0)), (1, .int x1), (2, .int x2), (3, .int x3), (5, .int x5_3)]) (by decide) rfl ?_
        refine g_iinc (pc' := 52) O ⟨dX11_lessIn_49, rfl⟩ (q := 5) (v := x5_3 + (1 : Int32)) (lv' := [(5, .int (x5_3 + (1 : Int32))), (4, .int y4_4), (0, .ref (ad 0)), (1, .int x1), (2, .int x2), (3, .int x3)]) rfl rfl (by decide) rfl ?_
        refine g_goto (pc' := 55) O ⟨dX11_lessIn_52, rfl⟩ (tgt := 6) (by decide) ?_
        refine g_sub (lv' := [(0, .ref (ad 0)), (1, .int x1), (2, .int x2), (3, .int x3), (4, .int y4_4), (5, .int (x5_3 + (1 : Int32)))]) [2, 3, 4, 5, 1, 0] rfl ?_
        exact ih6 _ _ E
      · intro k45 hk45 E
        refine g_icmp_ne (pc' := 27) O ⟨dX11_lessIn_24, rfl⟩ E (tgt := 45) (by decide) (fun E => ?_) (fun E => ?_)
        · refine g_sub (lv' := [(0, .ref (ad 0)), (1, .int x1), (2, .int x2), (3, .int x3), (5, .int x5_3)]) [0, 1, 2, 3, 5] rfl ?_
          exact hk45 E
        · refine g_aload_n (pc' := 28) O ⟨dX11_lessIn_27, rfl⟩ (q := 0) rfl rfl ?_
          refine g_iload (pc' := 30) O ⟨dX11_lessIn_28, rfl⟩ (q := 5) rfl ?_
          refine g_iload_n (pc' := 31) O ⟨dX11_lessIn_30, rfl⟩ (q := 2) rfl rfl ?_
          refine g_iload_n (pc' := 32) O ⟨dX11_lessIn_31, rfl⟩ (q := 3) rfl rfl ?_
          obtain ⟨r_5, c_6, E⟩ := bd_of E
          refine g_Vi (pc' := 35) O ⟨dX11_lessIn_32, rfl⟩ (y := yX11_isLess) (As := [.int x5_3, .int x2, .int x3]) (st := [.int x4_2]) (t_X11_isLess l D ad cy (h := h) c_6) kw_1445 kw_70 kw_1442 kw_1444 kw_54 rfl (wM_0 ad cy h) hd_X11_isLess ⟨Nat.le_of_ble_eq_true rfl, Nat.le_of_ble_eq_true rfl⟩ ⟨Nat.le_of_ble_eq_true rfl, Nat.le_of_ble_eq_true rfl⟩ rfl (Nat.le_of_ble_eq_true rfl) ?_
          refine g_if_eq (pc' := 38) O ⟨dX11_lessIn_35, rfl⟩ E (tgt := 45) (by decide) (fun E => ?_) (fun E => ?_)
          · refine g_sub (lv' := [(0, .ref (ad 0)), (1, .int x1), (2, .int x2), (3, .int x3), (5, .int x5_3)]) [0, 1, 2, 3, 5] rfl ?_
            exact hk45 E
          · refine g_iconst (pc' := 39) O ⟨dX11_lessIn_38, rfl⟩ (v := (1 : Int32)) rfl ?_
            refine g_iload (pc' := 41) O ⟨dX11_lessIn_39, rfl⟩ (q := 5) rfl ?_
            refine g_ishl (pc' := 42) O ⟨dX11_lessIn_41, rfl⟩ ?_
            refine g_goto (pc' := 45) O ⟨dX11_lessIn_42, rfl⟩ (tgt := 46) (by decide) ?_
            refine g_ior (pc' := 47) O ⟨dX11_lessIn_46, rfl⟩ ?_
            refine g_nm E (fun y4_7 E => ?_)
            refine g_istore (pc' := 49) O ⟨dX11_lessIn_47, rfl⟩ (lv' := [(4, .int y4_7), (0, .ref (ad 0)), (1, .int x1), (2, .int x2), (3, .int x3), (5, .int x5_3)]) (by decide) rfl ?_
            refine g_iinc (pc' := 52) O ⟨dX11_lessIn_49, rfl⟩ (q := 5) (v := x5_3 + (1 : Int32)) (lv' := [(5, .int (x5_3 + (1 : Int32))), (4, .int y4_7), (0, .ref (ad 0)), (1, .int x1), (2, .int x2), (3, .int x3)]) rfl rfl (by decide) rfl ?_
            refine g_goto (pc' := 55) O ⟨dX11_lessIn_52, rfl⟩ (tgt := 6) (by decide) ?_
            refine g_sub (lv' := [(0, .ref (ad 0)), (1, .int x1), (2, .int x2), (3, .int x3), (4, .int y4_7), (5, .int (x5_3 + (1 : Int32)))]) [2, 3, 4, 5, 1, 0] rfl ?_
            exact ih6 _ _ E
set_option maxRecDepth 100000 in
set_option maxHeartbeats 4000000 in
theorem t_X11_placeOf (l : Launch) (D : va_G) (ad : Nat → Nat) (cy : Nat → ClassId) {h : Hp} {x1 : Int32} {o : Int32} (E : f_X11_placeOf h x1 = some o) : CtI l D cy (WM ad cy) yX11_placeOf cX11_placeOf 4 .int 0 0 [.ref (ad 0), .int x1] h o h := by
  refine sI (own := RX11) rfl rfl (Nat.le_of_ble_eq_true rfl) (fun X O hret => ?_)
  show G l D X 4 (WM ad cy) 0 0 h 0 [(0, .ref (ad 0)), (1, .int x1)] []
  unfold f_X11_placeOf at E
  refine g_iconst (pc' := 1) O ⟨dX11_placeOf_0, rfl⟩ (v := (-1 : Int32)) rfl ?_
  refine g_istore_n (pc' := 2) O ⟨dX11_placeOf_1, rfl⟩ (lv' := [(2, .int (-1 : Int32)), (0, .ref (ad 0)), (1, .int x1)]) rfl (by decide) rfl ?_
  refine g_iconst (pc' := 3) O ⟨dX11_placeOf_2, rfl⟩ (v := (0 : Int32)) rfl ?_
  refine g_istore_n (pc' := 4) O ⟨dX11_placeOf_3, rfl⟩ (lv' := [(3, .int (0 : Int32)), (2, .int (-1 : Int32)), (0, .ref (ad 0)), (1, .int x1)]) rfl (by decide) rfl ?_
  refine jn1_of (P := fun (x2_1 : Int32) => G l D X 4 (WM ad cy) 0 0 h 34 [(2, .int x2_1)] []) E ?_ ?_
  · intro x2_1 E
    show G l D X 4 (WM ad cy) 0 0 h 34 [(2, .int x2_1)] []
    refine g_iload_n (pc' := 35) O ⟨dX11_placeOf_34, rfl⟩ (q := 0) rfl rfl ?_
    cases E
    exact hret _ _ _ ⟨dX11_placeOf_35, rfl⟩ rfl
  · intro k34 hk34 E
    refine g_sub (lv' := [(0, .ref (ad 0)), (1, .int x1), (2, .int (-1 : Int32)), (3, .int (0 : Int32))]) [2, 3, 1, 0] rfl ?_
    refine fx2_of (P := fun (x2_2 : Int32) (x3_3 : Int32) => G l D X 4 (WM ad cy) 0 0 h 4 [(0, .ref (ad 0)), (1, .int x1), (2, .int x2_2), (3, .int x3_3)] []) ?_ _ _ _ E
    intro self ih4 x2_2 x3_3 E
    show G l D X 4 (WM ad cy) 0 0 h 4 [(0, .ref (ad 0)), (1, .int x1), (2, .int x2_2), (3, .int x3_3)] []
    unfold L_X11_placeOf_4 at E
    refine g_iload_n (pc' := 5) O ⟨dX11_placeOf_4, rfl⟩ (q := 3) rfl rfl ?_
    refine g_aload_n (pc' := 6) O ⟨dX11_placeOf_5, rfl⟩ (q := 0) rfl rfl ?_
    refine gf_M_RX11_219_0 ad cy (pc' := 9) O ⟨dX11_placeOf_6, rfl⟩ ?_
    refine g_icmp_ge (pc' := 12) O ⟨dX11_placeOf_9, rfl⟩ E (tgt := 34) (by decide) (fun E => ?_) (fun E => ?_)
    · refine g_sub (lv' := [(2, .int x2_2)]) [2] rfl ?_
      exact hk34 _ E
    · refine g_aload_n (pc' := 13) O ⟨dX11_placeOf_12, rfl⟩ (q := 0) rfl rfl ?_
      refine gf_M_RX11_60_0 ad cy (pc' := 16) O ⟨dX11_placeOf_13, rfl⟩ ?_
      refine g_iload_n (pc' := 17) O ⟨dX11_placeOf_16, rfl⟩ (q := 3) rfl rfl ?_
      refine g_iald (pc' := 18) O ⟨dX11_placeOf_17, rfl⟩ (wM_17 ad cy h) E (fun E => ?_)
      refine g_iload_n (pc' := 19) O ⟨dX11_placeOf_18, rfl⟩ (q := 1) rfl rfl ?_
      refine g_icmp_ne (pc' := 22) O ⟨dX11_placeOf_19, rfl⟩ E (tgt := 26) (by decide) (fun E => ?_) (fun E => ?_)
      · refine g_iload_n (pc' := 27) O ⟨dX11_placeOf_26, rfl⟩ (q := 2) rfl rfl ?_
        refine g_istore_n (pc' := 28) O ⟨dX11_placeOf_27, rfl⟩ (lv' := [(2, .int x2_2), (0, .ref (ad 0)), (1, .int x1), (3, .int x3_3)]) rfl (by decide) rfl ?_
        refine g_iinc (pc' := 31) O ⟨dX11_placeOf_28, rfl⟩ (q := 3) (v := x3_3 + (1 : Int32)) (lv' := [(3, .int (x3_3 + (1 : Int32))), (2, .int x2_2), (0, .ref (ad 0)), (1, .int x1)]) rfl rfl (by decide) rfl ?_
        refine g_goto (pc' := 34) O ⟨dX11_placeOf_31, rfl⟩ (tgt := 4) (by decide) ?_
        refine g_sub (lv' := [(0, .ref (ad 0)), (1, .int x1), (2, .int x2_2), (3, .int (x3_3 + (1 : Int32)))]) [2, 3, 1, 0] rfl ?_
        exact ih4 _ _ E
      · refine g_iload_n (pc' := 23) O ⟨dX11_placeOf_22, rfl⟩ (q := 3) rfl rfl ?_
        refine g_goto (pc' := 26) O ⟨dX11_placeOf_23, rfl⟩ (tgt := 27) (by decide) ?_
        refine g_istore_n (pc' := 28) O ⟨dX11_placeOf_27, rfl⟩ (lv' := [(2, .int x3_3), (0, .ref (ad 0)), (1, .int x1), (3, .int x3_3)]) rfl (by decide) rfl ?_
        refine g_iinc (pc' := 31) O ⟨dX11_placeOf_28, rfl⟩ (q := 3) (v := x3_3 + (1 : Int32)) (lv' := [(3, .int (x3_3 + (1 : Int32))), (2, .int x3_3), (0, .ref (ad 0)), (1, .int x1)]) rfl rfl (by decide) rfl ?_
        refine g_goto (pc' := 34) O ⟨dX11_placeOf_31, rfl⟩ (tgt := 4) (by decide) ?_
        refine g_sub (lv' := [(0, .ref (ad 0)), (1, .int x1), (2, .int x3_3), (3, .int (x3_3 + (1 : Int32)))]) [2, 3, 1, 0] rfl ?_
        exact ih4 _ _ E
set_option maxRecDepth 100000 in
set_option maxHeartbeats 4000000 in
theorem t_X11_comes (l : Launch) (D : va_G) (ad : Nat → Nat) (cy : Nat → ClassId) {h : Hp} {x1 : Int32} {o : Hp} (E : f_X11_comes h x1 = some o) : CtV l D cy (WM ad cy) yX11_comes cX11_comes 2 1 23 [.ref (ad 0), .int x1] h o := by
  refine sV (own := RX11) rfl rfl (Nat.le_of_ble_eq_true rfl) (fun X O hret => ?_)
  show G l D X 2 (WM ad cy) 0 0 h 0 [(0, .ref (ad 0)), (1, .int x1)] []
  unfold f_X11_comes at E
  refine g_iload_n (pc' := 1) O ⟨dX11_comes_0, rfl⟩ (q := 1) rfl rfl ?_
  refine g_if_eq (pc' := 4) O ⟨dX11_comes_1, rfl⟩ E (tgt := 33) (by decide) (fun E => ?_) (fun E => ?_)
  · cases E
    exact hret _ _ _ ⟨dX11_comes_33, rfl⟩
  · refine g_aload_n (pc' := 5) O ⟨dX11_comes_4, rfl⟩ (q := 0) rfl rfl ?_
    refine g_iload_n (pc' := 6) O ⟨dX11_comes_5, rfl⟩ (q := 1) rfl rfl ?_
    obtain ⟨r_1, c_2, E⟩ := bd_of E
    refine g_Vi (pc' := 9) O ⟨dX11_comes_6, rfl⟩ (y := yX11_placeOf) (As := [.int x1]) (st := []) (t_X11_placeOf l D ad cy (h := h) c_2) kw_1461 kw_70 kw_1458 kw_1460 kw_56 rfl (wM_0 ad cy h) hd_X11_placeOf ⟨Nat.le_of_ble_eq_true rfl, Nat.le_of_ble_eq_true rfl⟩ ⟨Nat.le_of_ble_eq_true rfl, Nat.le_of_ble_eq_true rfl⟩ rfl (Nat.le_of_ble_eq_true rfl) ?_
    refine g_iconst (pc' := 10) O ⟨dX11_comes_9, rfl⟩ (v := (-1 : Int32)) rfl ?_
    refine g_icmp_ne (pc' := 13) O ⟨dX11_comes_10, rfl⟩ E (tgt := 33) (by decide) (fun E => ?_) (fun E => ?_)
    · cases E
      exact hret _ _ _ ⟨dX11_comes_33, rfl⟩
    · refine g_aload_n (pc' := 14) O ⟨dX11_comes_13, rfl⟩ (q := 0) rfl rfl ?_
      refine gf_M_RX11_60_0 ad cy (pc' := 17) O ⟨dX11_comes_14, rfl⟩ ?_
      refine g_aload_n (pc' := 18) O ⟨dX11_comes_17, rfl⟩ (q := 0) rfl rfl ?_
      refine gf_M_RX11_219_0 ad cy (pc' := 21) O ⟨dX11_comes_18, rfl⟩ ?_
      refine g_iload_n (pc' := 22) O ⟨dX11_comes_21, rfl⟩ (q := 1) rfl rfl ?_
      refine g_iast (pc' := 23) O ⟨dX11_comes_22, rfl⟩ (wM_17 ad cy h) (vM_17 ad cy h _) E (fun E => ?_)
      refine g_nmh E (fun h_3 E => ?_)
      refine g_aload_n (pc' := 24) O ⟨dX11_comes_23, rfl⟩ (q := 0) rfl rfl ?_
      refine g_dup (pc' := 25) O ⟨dX11_comes_24, rfl⟩ rfl ?_
      refine gf_M_RX11_219_0 ad cy (pc' := 28) O ⟨dX11_comes_25, rfl⟩ ?_
      refine g_iconst (pc' := 29) O ⟨dX11_comes_28, rfl⟩ (v := (1 : Int32)) rfl ?_
      refine g_iadd (pc' := 30) O ⟨dX11_comes_29, rfl⟩ ?_
      refine gp_M_RX11_219_0 ad cy (pc' := 33) O ⟨dX11_comes_30, rfl⟩ ?_
      refine g_nmh E (fun h_4 E => ?_)
      cases E
      exact hret _ _ _ ⟨dX11_comes_33, rfl⟩
set_option maxRecDepth 100000 in
set_option maxHeartbeats 4000000 in
theorem t_X11_best (l : Launch) (D : va_G) (ad : Nat → Nat) (cy : Nat → ClassId) {h : Hp} {x1 : Int32} {o : Int32} (E : f_X11_best h x1 = some o) : CtI l D cy (WM ad cy) yX11_best cX11_best 8 .int 2 48 [.ref (ad 0), .int x1] h o h := by
  refine sI (own := RX11) rfl rfl (Nat.le_of_ble_eq_true rfl) (fun X O hret => ?_)
  show G l D X 8 (WM ad cy) 0 0 h 0 [(0, .ref (ad 0)), (1, .int x1)] []
  unfold f_X11_best at E
  refine g_bipush (pc' := 2) O ⟨dX11_best_0, rfl⟩ (v := (99 : Int32)) rfl ?_
  refine g_istore_n (pc' := 3) O ⟨dX11_best_2, rfl⟩ (lv' := [(2, .int (99 : Int32)), (0, .ref (ad 0)), (1, .int x1)]) rfl (by decide) rfl ?_
  refine g_iconst (pc' := 4) O ⟨dX11_best_3, rfl⟩ (v := (0 : Int32)) rfl ?_
  refine g_istore_n (pc' := 5) O ⟨dX11_best_4, rfl⟩ (lv' := [(3, .int (0 : Int32)), (2, .int (99 : Int32)), (0, .ref (ad 0)), (1, .int x1)]) rfl (by decide) rfl ?_
  refine jn1_of (P := fun (x2_1 : Int32) => G l D X 8 (WM ad cy) 0 0 h 136 [(2, .int x2_1)] []) E ?_ ?_
  · intro x2_1 E
    show G l D X 8 (WM ad cy) 0 0 h 136 [(2, .int x2_1)] []
    refine g_iload_n (pc' := 137) O ⟨dX11_best_136, rfl⟩ (q := 0) rfl rfl ?_
    cases E
    exact hret _ _ _ ⟨dX11_best_137, rfl⟩ rfl
  · intro k136 hk136 E
    refine g_sub (lv' := [(0, .ref (ad 0)), (1, .int x1), (2, .int (99 : Int32)), (3, .int (0 : Int32))]) [2, 3, 1, 0] rfl ?_
    refine fx2_of (P := fun (x2_2 : Int32) (x3_3 : Int32) => G l D X 8 (WM ad cy) 0 0 h 5 [(0, .ref (ad 0)), (1, .int x1), (2, .int x2_2), (3, .int x3_3)] []) ?_ _ _ _ E
    intro self ih5 x2_2 x3_3 E
    show G l D X 8 (WM ad cy) 0 0 h 5 [(0, .ref (ad 0)), (1, .int x1), (2, .int x2_2), (3, .int x3_3)] []
    unfold L_X11_best_5 at E
    refine g_iload_n (pc' := 6) O ⟨dX11_best_5, rfl⟩ (q := 3) rfl rfl ?_
    refine g_aload_n (pc' := 7) O ⟨dX11_best_6, rfl⟩ (q := 0) rfl rfl ?_
    refine gf_M_RX11_74_0 ad cy (pc' := 10) O ⟨dX11_best_7, rfl⟩ ?_
    refine g_icmp_ge (pc' := 13) O ⟨dX11_best_10, rfl⟩ E (tgt := 136) (by decide) (fun E => ?_) (fun E => ?_)
    · refine g_sub (lv' := [(2, .int x2_2)]) [2] rfl ?_
      exact hk136 _ E
    · refine g_iload_n (pc' := 14) O ⟨dX11_best_13, rfl⟩ (q := 3) rfl rfl ?_
      refine g_iconst (pc' := 15) O ⟨dX11_best_14, rfl⟩ (v := (1 : Int32)) rfl ?_
      refine g_iadd (pc' := 16) O ⟨dX11_best_15, rfl⟩ ?_
      refine g_nm E (fun y4_4 E => ?_)
      refine g_istore (pc' := 18) O ⟨dX11_best_16, rfl⟩ (lv' := [(4, .int y4_4), (0, .ref (ad 0)), (1, .int x1), (2, .int x2_2), (3, .int x3_3)]) (by decide) rfl ?_
      refine jn1_of (P := fun (x2_5 : Int32) => G l D X 8 (WM ad cy) 0 0 h 130 [(0, .ref (ad 0)), (1, .int x1), (2, .int x2_5), (3, .int x3_3)] []) E ?_ ?_
      · intro x2_5 E
        show G l D X 8 (WM ad cy) 0 0 h 130 [(0, .ref (ad 0)), (1, .int x1), (2, .int x2_5), (3, .int x3_3)] []
        refine g_iinc (pc' := 133) O ⟨dX11_best_130, rfl⟩ (q := 3) (v := x3_3 + (1 : Int32)) (lv' := [(3, .int (x3_3 + (1 : Int32))), (0, .ref (ad 0)), (1, .int x1), (2, .int x2_5)]) rfl rfl (by decide) rfl ?_
        refine g_goto (pc' := 136) O ⟨dX11_best_133, rfl⟩ (tgt := 5) (by decide) ?_
        refine g_sub (lv' := [(0, .ref (ad 0)), (1, .int x1), (2, .int x2_5), (3, .int (x3_3 + (1 : Int32)))]) [1, 2, 3, 0] rfl ?_
        exact ih5 _ _ E
      · intro k130 hk130 E
        refine g_sub (lv' := [(0, .ref (ad 0)), (1, .int x1), (2, .int x2_2), (3, .int x3_3), (4, .int y4_4)]) [1, 2, 3, 4, 0] rfl ?_
        refine fx2_of (P := fun (x2_6 : Int32) (x4_7 : Int32) => G l D X 8 (WM ad cy) 0 0 h 18 [(0, .ref (ad 0)), (1, .int x1), (2, .int x2_6), (3, .int x3_3), (4, .int x4_7)] []) ?_ _ _ _ E
        intro self ih18 x2_6 x4_7 E
        show G l D X 8 (WM ad cy) 0 0 h 18 [(0, .ref (ad 0)), (1, .int x1), (2, .int x2_6), (3, .int x3_3), (4, .int x4_7)] []
        unfold L_X11_best_18 at E
        refine g_iload (pc' := 20) O ⟨dX11_best_18, rfl⟩ (q := 4) rfl ?_
        refine g_aload_n (pc' := 21) O ⟨dX11_best_20, rfl⟩ (q := 0) rfl rfl ?_
        refine gf_M_RX11_74_0 ad cy (pc' := 24) O ⟨dX11_best_21, rfl⟩ ?_
        refine g_icmp_ge (pc' := 27) O ⟨dX11_best_24, rfl⟩ E (tgt := 130) (by decide) (fun E => ?_) (fun E => ?_)
        · refine g_sub (lv' := [(0, .ref (ad 0)), (1, .int x1), (2, .int x2_6), (3, .int x3_3)]) [0, 1, 2, 3] rfl ?_
          exact hk130 _ E
        · refine g_aload_n (pc' := 28) O ⟨dX11_best_27, rfl⟩ (q := 0) rfl rfl ?_
          refine g_iload_n (pc' := 29) O ⟨dX11_best_28, rfl⟩ (q := 1) rfl rfl ?_
          refine g_iload_n (pc' := 30) O ⟨dX11_best_29, rfl⟩ (q := 3) rfl rfl ?_
          refine g_iload (pc' := 32) O ⟨dX11_best_30, rfl⟩ (q := 4) rfl ?_
          obtain ⟨r_8, c_9, E⟩ := bd_of E
          refine g_Vi (pc' := 35) O ⟨dX11_best_32, rfl⟩ (y := yX11_lessIn) (As := [.int x1, .int x3_3, .int x4_7]) (st := []) (t_X11_lessIn l D ad cy (h := h) c_9) kw_1465 kw_70 kw_1462 kw_1464 kw_57 rfl (wM_0 ad cy h) hd_X11_lessIn ⟨Nat.le_of_ble_eq_true rfl, Nat.le_of_ble_eq_true rfl⟩ ⟨Nat.le_of_ble_eq_true rfl, Nat.le_of_ble_eq_true rfl⟩ rfl (Nat.le_of_ble_eq_true rfl) ?_
          refine g_istore (pc' := 37) O ⟨dX11_best_35, rfl⟩ (lv' := [(5, .int r_8), (0, .ref (ad 0)), (1, .int x1), (2, .int x2_6), (3, .int x3_3), (4, .int x4_7)]) (by decide) rfl ?_
          refine g_iload_n (pc' := 38) O ⟨dX11_best_37, rfl⟩ (q := 2) rfl rfl ?_
          refine g_iload (pc' := 40) O ⟨dX11_best_38, rfl⟩ (q := 0) rfl ?_
          refine g_iconst (pc' := 41) O ⟨dX11_best_40, rfl⟩ (v := (-1 : Int32)) rfl ?_
          refine g_ixor (pc' := 42) O ⟨dX11_best_41, rfl⟩ ?_
          refine g_iand (pc' := 43) O ⟨dX11_best_42, rfl⟩ ?_
          refine g_nm E (fun y6_10 E => ?_)
          refine g_istore (pc' := 45) O ⟨dX11_best_43, rfl⟩ (lv' := [(6, .int y6_10), (5, .int r_8), (0, .ref (ad 0)), (1, .int x1), (2, .int x2_6), (3, .int x3_3), (4, .int x4_7)]) (by decide) rfl ?_
          refine g_iload (pc' := 47) O ⟨dX11_best_45, rfl⟩ (q := 1) rfl ?_
          refine g_if_eq (pc' := 50) O ⟨dX11_best_47, rfl⟩ E (tgt := 124) (by decide) (fun E => ?_) (fun E => ?_)
          · refine g_iinc (pc' := 127) O ⟨dX11_best_124, rfl⟩ (q := 6) (v := x4_7 + (1 : Int32)) (lv' := [(4, .int (x4_7 + (1 : Int32))), (6, .int y6_10), (5, .int r_8), (0, .ref (ad 0)), (1, .int x1), (2, .int x2_6), (3, .int x3_3)]) rfl rfl (by decide) rfl ?_
            refine g_goto (pc' := 130) O ⟨dX11_best_127, rfl⟩ (tgt := 18) (by decide) ?_
            refine g_sub (lv' := [(0, .ref (ad 0)), (1, .int x1), (2, .int x2_6), (3, .int x3_3), (4, .int (x4_7 + (1 : Int32)))]) [3, 4, 5, 6, 0] rfl ?_
            exact ih18 _ _ E
          · refine g_iload (pc' := 52) O ⟨dX11_best_50, rfl⟩ (q := 0) rfl ?_
            refine g_if_eq (pc' := 55) O ⟨dX11_best_52, rfl⟩ E (tgt := 124) (by decide) (fun E => ?_) (fun E => ?_)
            · refine g_iinc (pc' := 127) O ⟨dX11_best_124, rfl⟩ (q := 6) (v := x4_7 + (1 : Int32)) (lv' := [(4, .int (x4_7 + (1 : Int32))), (6, .int y6_10), (5, .int r_8), (0, .ref (ad 0)), (1, .int x1), (2, .int x2_6), (3, .int x3_3)]) rfl rfl (by decide) rfl ?_
              refine g_goto (pc' := 130) O ⟨dX11_best_127, rfl⟩ (tgt := 18) (by decide) ?_
              refine g_sub (lv' := [(0, .ref (ad 0)), (1, .int x1), (2, .int x2_6), (3, .int x3_3), (4, .int (x4_7 + (1 : Int32)))]) [3, 4, 5, 6, 0] rfl ?_
              exact ih18 _ _ E
            · refine g_aload_n (pc' := 56) O ⟨dX11_best_55, rfl⟩ (q := 2) rfl rfl ?_
              refine gf_M_RX11_63_0 ad cy (pc' := 59) O ⟨dX11_best_56, rfl⟩ ?_
              refine g_aload_n (pc' := 60) O ⟨dX11_best_59, rfl⟩ (q := 2) rfl rfl ?_
              refine g_iload (pc' := 62) O ⟨dX11_best_60, rfl⟩ (q := 1) rfl ?_
              obtain ⟨r_11, c_12, E⟩ := bd_of E
              refine g_Vi (pc' := 65) O ⟨dX11_best_62, rfl⟩ (y := yX11_placeOf) (As := [.int r_8]) (st := [.ref (ad 18)]) (t_X11_placeOf l D ad cy (h := h) c_12) kw_1461 kw_70 kw_1458 kw_1460 kw_56 rfl (wM_0 ad cy h) hd_X11_placeOf ⟨Nat.le_of_ble_eq_true rfl, Nat.le_of_ble_eq_true rfl⟩ ⟨Nat.le_of_ble_eq_true rfl, Nat.le_of_ble_eq_true rfl⟩ rfl (Nat.le_of_ble_eq_true rfl) ?_
              refine g_iald (pc' := 66) O ⟨dX11_best_65, rfl⟩ (wM_18 ad cy h) E (fun E => ?_)
              refine g_aload_n (pc' := 67) O ⟨dX11_best_66, rfl⟩ (q := 2) rfl rfl ?_
              refine gf_M_RX11_63_0 ad cy (pc' := 70) O ⟨dX11_best_67, rfl⟩ ?_
              refine g_aload_n (pc' := 71) O ⟨dX11_best_70, rfl⟩ (q := 2) rfl rfl ?_
              refine g_iload (pc' := 73) O ⟨dX11_best_71, rfl⟩ (q := 0) rfl ?_
              obtain ⟨r_13, c_14, E⟩ := bd_of E
              refine g_Vi (pc' := 76) O ⟨dX11_best_73, rfl⟩ (y := yX11_placeOf) (As := [.int y6_10]) (st := [.ref (ad 18), .int (h.1 18 r_11.toNatClampNeg)]) (t_X11_placeOf l D ad cy (h := h) c_14) kw_1461 kw_70 kw_1458 kw_1460 kw_56 rfl (wM_0 ad cy h) hd_X11_placeOf ⟨Nat.le_of_ble_eq_true rfl, Nat.le_of_ble_eq_true rfl⟩ ⟨Nat.le_of_ble_eq_true rfl, Nat.le_of_ble_eq_true rfl⟩ rfl (Nat.le_of_ble_eq_true rfl) ?_
              refine g_iald (pc' := 77) O ⟨dX11_best_76, rfl⟩ (wM_18 ad cy h) E (fun E => ?_)
              refine jn1_of (P := fun (z_15 : Int32) => G l D X 8 (WM ad cy) 0 0 h 109 [(0, .ref (ad 0)), (1, .int x1), (2, .int x2_6), (3, .int x3_3), (4, .int x4_7)] [.int z_15]) E ?_ ?_
              · intro z_15 E
                show G l D X 8 (WM ad cy) 0 0 h 109 [(0, .ref (ad 0)), (1, .int x1), (2, .int x2_6), (3, .int x3_3), (4, .int x4_7)] [.int z_15]
                refine g_istore (pc' := 111) O ⟨dX11_best_109, rfl⟩ (lv' := [(7, .int z_15), (0, .ref (ad 0)), (1, .int x1), (2, .int x2_6), (3, .int x3_3), (4, .int x4_7)]) (by decide) rfl ?_
                refine g_iload (pc' := 113) O ⟨dX11_best_111, rfl⟩ (q := 0) rfl ?_
                refine g_iload_n (pc' := 114) O ⟨dX11_best_113, rfl⟩ (q := 3) rfl rfl ?_
                refine g_icmp_ge (pc' := 117) O ⟨dX11_best_114, rfl⟩ E (tgt := 122) (by decide) (fun E => ?_) (fun E => ?_)
                · refine g_iload_n (pc' := 123) O ⟨dX11_best_122, rfl⟩ (q := 3) rfl rfl ?_
                  refine g_istore_n (pc' := 124) O ⟨dX11_best_123, rfl⟩ (lv' := [(2, .int x2_6), (7, .int z_15), (0, .ref (ad 0)), (1, .int x1), (3, .int x3_3), (4, .int x4_7)]) rfl (by decide) rfl ?_
                  refine g_iinc (pc' := 127) O ⟨dX11_best_124, rfl⟩ (q := 5) (v := x4_7 + (1 : Int32)) (lv' := [(4, .int (x4_7 + (1 : Int32))), (2, .int x2_6), (7, .int z_15), (0, .ref (ad 0)), (1, .int x1), (3, .int x3_3)]) rfl rfl (by decide) rfl ?_
                  refine g_goto (pc' := 130) O ⟨dX11_best_127, rfl⟩ (tgt := 18) (by decide) ?_
                  refine g_sub (lv' := [(0, .ref (ad 0)), (1, .int x1), (2, .int x2_6), (3, .int x3_3), (4, .int (x4_7 + (1 : Int32)))]) [3, 4, 1, 5, 0] rfl ?_
                  exact ih18 _ _ E
                · refine g_iload (pc' := 119) O ⟨dX11_best_117, rfl⟩ (q := 0) rfl ?_
                  refine g_goto (pc' := 122) O ⟨dX11_best_119, rfl⟩ (tgt := 123) (by decide) ?_
                  refine g_istore_n (pc' := 124) O ⟨dX11_best_123, rfl⟩ (lv' := [(2, .int z_15), (7, .int z_15), (0, .ref (ad 0)), (1, .int x1), (3, .int x3_3), (4, .int x4_7)]) rfl (by decide) rfl ?_
                  refine g_iinc (pc' := 127) O ⟨dX11_best_124, rfl⟩ (q := 5) (v := x4_7 + (1 : Int32)) (lv' := [(4, .int (x4_7 + (1 : Int32))), (2, .int z_15), (7, .int z_15), (0, .ref (ad 0)), (1, .int x1), (3, .int x3_3)]) rfl rfl (by decide) rfl ?_
                  refine g_goto (pc' := 130) O ⟨dX11_best_127, rfl⟩ (tgt := 18) (by decide) ?_
                  refine g_sub (lv' := [(0, .ref (ad 0)), (1, .int x1), (2, .int z_15), (3, .int x3_3), (4, .int (x4_7 + (1 : Int32)))]) [3, 4, 1, 5, 0] rfl ?_
                  exact ih18 _ _ E
              · intro k109 hk109 E
                refine g_icmp_le (pc' := 80) O ⟨dX11_best_77, rfl⟩ E (tgt := 96) (by decide) (fun E => ?_) (fun E => ?_)
                · refine g_aload_n (pc' := 97) O ⟨dX11_best_96, rfl⟩ (q := 2) rfl rfl ?_
                  refine gf_M_RX11_63_0 ad cy (pc' := 100) O ⟨dX11_best_97, rfl⟩ ?_
                  refine g_aload_n (pc' := 101) O ⟨dX11_best_100, rfl⟩ (q := 2) rfl rfl ?_
                  refine g_iload (pc' := 103) O ⟨dX11_best_101, rfl⟩ (q := 0) rfl ?_
                  obtain ⟨r_16, c_17, E⟩ := bd_of E
                  refine g_Vi (pc' := 106) O ⟨dX11_best_103, rfl⟩ (y := yX11_placeOf) (As := [.int y6_10]) (st := [.ref (ad 18)]) (t_X11_placeOf l D ad cy (h := h) c_17) kw_1461 kw_70 kw_1458 kw_1460 kw_56 rfl (wM_0 ad cy h) hd_X11_placeOf ⟨Nat.le_of_ble_eq_true rfl, Nat.le_of_ble_eq_true rfl⟩ ⟨Nat.le_of_ble_eq_true rfl, Nat.le_of_ble_eq_true rfl⟩ rfl (Nat.le_of_ble_eq_true rfl) ?_
                  refine g_iald (pc' := 107) O ⟨dX11_best_106, rfl⟩ (wM_18 ad cy h) E (fun E => ?_)
                  refine g_iconst (pc' := 108) O ⟨dX11_best_107, rfl⟩ (v := (1 : Int32)) rfl ?_
                  refine g_iadd (pc' := 109) O ⟨dX11_best_108, rfl⟩ ?_
                  refine g_sub (lv' := [(0, .ref (ad 0)), (1, .int x1), (2, .int x2_6), (3, .int x3_3), (4, .int x4_7)]) [2, 3, 4, 5, 6] rfl ?_
                  exact hk109 _ E
                · refine g_aload_n (pc' := 81) O ⟨dX11_best_80, rfl⟩ (q := 2) rfl rfl ?_
                  refine gf_M_RX11_63_0 ad cy (pc' := 84) O ⟨dX11_best_81, rfl⟩ ?_
                  refine g_aload_n (pc' := 85) O ⟨dX11_best_84, rfl⟩ (q := 2) rfl rfl ?_
                  refine g_iload (pc' := 87) O ⟨dX11_best_85, rfl⟩ (q := 1) rfl ?_
                  obtain ⟨r_18, c_19, E⟩ := bd_of E
                  refine g_Vi (pc' := 90) O ⟨dX11_best_87, rfl⟩ (y := yX11_placeOf) (As := [.int r_8]) (st := [.ref (ad 18)]) (t_X11_placeOf l D ad cy (h := h) c_19) kw_1461 kw_70 kw_1458 kw_1460 kw_56 rfl (wM_0 ad cy h) hd_X11_placeOf ⟨Nat.le_of_ble_eq_true rfl, Nat.le_of_ble_eq_true rfl⟩ ⟨Nat.le_of_ble_eq_true rfl, Nat.le_of_ble_eq_true rfl⟩ rfl (Nat.le_of_ble_eq_true rfl) ?_
                  refine g_iald (pc' := 91) O ⟨dX11_best_90, rfl⟩ (wM_18 ad cy h) E (fun E => ?_)
                  refine g_iconst (pc' := 92) O ⟨dX11_best_91, rfl⟩ (v := (1 : Int32)) rfl ?_
                  refine g_iadd (pc' := 93) O ⟨dX11_best_92, rfl⟩ ?_
                  refine g_goto (pc' := 96) O ⟨dX11_best_93, rfl⟩ (tgt := 109) (by decide) ?_
                  refine g_sub (lv' := [(0, .ref (ad 0)), (1, .int x1), (2, .int x2_6), (3, .int x3_3), (4, .int x4_7)]) [2, 3, 4, 5, 6] rfl ?_
                  exact hk109 _ E
