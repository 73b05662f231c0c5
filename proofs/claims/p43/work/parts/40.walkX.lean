/-! WALKS of the methods that may throw -/
set_option maxRecDepth 100000 in
set_option maxHeartbeats 4000000 in
theorem t_X10_network (l : Launch) (D : va_G) (ad : Nat → Nat) (cy : Nat → ClassId) (hfl : l.stackTraces = false) {h : Hp} {x1 : Int32} {o : (String × Hp) ⊕ (Int32 × Hp)} (E : f_X10_network h x1 = some o) : CtXI l D cy (WC ad cy) yX10_network cX10_network 3 .int 8 150 1 6 [.ref (ad 0), .int x1] h o := by
  refine sXI (own := RX10) hfl rfl rfl (Nat.le_of_ble_eq_true rfl) (Nat.le_of_ble_eq_true rfl) (Nat.le_of_ble_eq_true rfl) (fun X O hret hthr hprop => ?_)
  show G l D X 3 (WC ad cy) 0 0 h 0 [(0, .ref (ad 0)), (1, .int x1)] []
  unfold f_X10_network at E
  refine g_iload_n (pc' := 1) O ⟨dX10_network_0, rfl⟩ (q := 1) rfl rfl ?_
  refine g_iconst (pc' := 2) O ⟨dX10_network_1, rfl⟩ (v := (2 : Int32)) rfl ?_
  refine jn0_of (P := G l D X 3 (WC ad cy) 0 0 h 11 [] []) E ?_ ?_
  · intro E
    show G l D X 3 (WC ad cy) 0 0 h 11 [] []
    cases E
    exact hthr _ _ _ _ _ _ _ _ _ _ _ ⟨thc_RX10_68, sr_70, dX10_network_11, dX10_network_14, Or.inl ⟨dX10_network_15, dX10_network_17, dX10_network_20⟩⟩ rfl (Nat.le_of_ble_eq_true rfl) (Nat.le_of_ble_eq_true rfl) (Nat.le_of_ble_eq_true rfl)
  · intro k11 hk11 E
    refine g_icmp_lt (pc' := 5) O ⟨dX10_network_2, rfl⟩ E (tgt := 11) (by decide) (fun E => ?_) (fun E => ?_)
    · refine g_sub (lv' := []) [] rfl ?_
      exact hk11 E
    · refine g_iload_n (pc' := 6) O ⟨dX10_network_5, rfl⟩ (q := 1) rfl rfl ?_
      refine g_bipush (pc' := 8) O ⟨dX10_network_6, rfl⟩ (v := (6 : Int32)) rfl ?_
      refine g_icmp_le (pc' := 11) O ⟨dX10_network_8, rfl⟩ E (tgt := 21) (by decide) (fun E => ?_) (fun E => ?_)
      · refine g_aload_n (pc' := 22) O ⟨dX10_network_21, rfl⟩ (q := 0) rfl rfl ?_
        refine gf_C_RX10_10_0 ad cy (pc' := 25) O ⟨dX10_network_22, rfl⟩ ?_
        refine gf_C_RX10_75_1 ad cy (pc' := 28) O ⟨dX10_network_25, rfl⟩ ?_
        refine g_istore_n (pc' := 29) O ⟨dX10_network_28, rfl⟩ (lv' := [(2, .int (h.1 1 1)), (0, .ref (ad 0)), (1, .int x1)]) rfl (by decide) rfl ?_
        refine g_aload_n (pc' := 30) O ⟨dX10_network_29, rfl⟩ (q := 1) rfl rfl ?_
        refine gf_C_RX10_10_0 ad cy (pc' := 33) O ⟨dX10_network_30, rfl⟩ ?_
        refine g_iload_n (pc' := 34) O ⟨dX10_network_33, rfl⟩ (q := 2) rfl rfl ?_
        obtain ⟨r_1, c_2, E⟩ := bd_of E
        refine g_Vv (pc' := 37) O ⟨dX10_network_34, rfl⟩ (y := yX9_begin) (As := [.int x1]) (st := []) (t_X9_begin_1 l D ad cy (h := h) c_2) kw_328 kw_26 kw_325 kw_326 kw_327 rfl (wC_1 ad cy h) hd_X9_begin ⟨Nat.le_of_ble_eq_true rfl, Nat.le_of_ble_eq_true rfl⟩ ⟨Nat.le_of_ble_eq_true rfl, Nat.le_of_ble_eq_true rfl⟩ rfl (Nat.le_of_ble_eq_true rfl) ?_
        refine g_aload_n (pc' := 38) O ⟨dX10_network_37, rfl⟩ (q := 1) rfl rfl ?_
        refine gf_C_RX10_64_0 ad cy (pc' := 41) O ⟨dX10_network_38, rfl⟩ ?_
        obtain ⟨r_3, c_4, E⟩ := bd_of E
        refine g_Vv (pc' := 44) O ⟨dX10_network_41, rfl⟩ (y := yX0_forget) (As := []) (st := []) (t_X0_forget_32 l D ad cy (h := r_1) c_4) kw_332 kw_34 kw_329 kw_330 kw_331 rfl (wC_32 ad cy r_1) hd_X0_forget ⟨Nat.le_of_ble_eq_true rfl, Nat.le_of_ble_eq_true rfl⟩ ⟨Nat.le_of_ble_eq_true rfl, Nat.le_of_ble_eq_true rfl⟩ rfl (Nat.le_of_ble_eq_true rfl) ?_
        refine g_aload_n (pc' := 45) O ⟨dX10_network_44, rfl⟩ (q := 1) rfl rfl ?_
        obtain ⟨r_5, c_6, E⟩ := bd_of E
        refine g_Vv (pc' := 48) O ⟨dX10_network_45, rfl⟩ (y := yX10_forgetWhatDependsOnComparators) (As := []) (st := []) (t_X10_forgetWhatDependsOnComparators l D ad cy (h := r_3) c_6) kw_336 kw_25 kw_333 kw_335 kw_1 rfl (wC_0 ad cy r_3) hd_X10_forgetWhatDependsOnComparators ⟨Nat.le_of_ble_eq_true rfl, Nat.le_of_ble_eq_true rfl⟩ ⟨Nat.le_of_ble_eq_true rfl, Nat.le_of_ble_eq_true rfl⟩ rfl (Nat.le_of_ble_eq_true rfl) ?_
        refine g_iload_n (pc' := 49) O ⟨dX10_network_48, rfl⟩ (q := 0) rfl rfl ?_
        cases E
        exact hret _ _ _ _ _ _ _ (Nat.le_of_ble_eq_true rfl) (Nat.le_of_ble_eq_true rfl) ⟨dX10_network_49, rfl⟩ rfl rfl
      · refine g_sub (lv' := []) [] rfl ?_
        exact hk11 E
set_option maxRecDepth 100000 in
set_option maxHeartbeats 4000000 in
theorem t_X10_checkWire (l : Launch) (D : va_G) (ad : Nat → Nat) (cy : Nat → ClassId) (hfl : l.stackTraces = false) {h : Hp} {x1 : Int32} {o : (String × Hp) ⊕ Hp} (E : f_X10_checkWire h x1 = some o) : CtXV l D cy (WC ad cy) yX10_checkWire cX10_checkWire 2 8 150 1 6 [.ref (ad 0), .int x1] h o := by
  refine sXV (own := RX10) hfl rfl rfl (Nat.le_of_ble_eq_true rfl) (Nat.le_of_ble_eq_true rfl) (Nat.le_of_ble_eq_true rfl) (fun X O hret hthr hprop => ?_)
  show G l D X 2 (WC ad cy) 0 0 h 0 [(0, .ref (ad 0)), (1, .int x1)] []
  unfold f_X10_checkWire at E
  refine g_iload_n (pc' := 1) O ⟨dX10_checkWire_0, rfl⟩ (q := 1) rfl rfl ?_
  refine jn0_of (P := G l D X 2 (WC ad cy) 0 0 h 15 [] []) E ?_ ?_
  · intro E
    show G l D X 2 (WC ad cy) 0 0 h 15 [] []
    cases E
    exact hthr _ _ _ _ _ _ _ _ _ _ _ ⟨thc_RX10_247, sr_337, dX10_checkWire_15, dX10_checkWire_18, Or.inr ⟨dX10_checkWire_19, dX10_checkWire_22, dX10_checkWire_25⟩⟩ rfl (Nat.le_of_ble_eq_true rfl) (Nat.le_of_ble_eq_true rfl) (Nat.le_of_ble_eq_true rfl)
  · intro k15 hk15 E
    refine g_if_lt (pc' := 4) O ⟨dX10_checkWire_1, rfl⟩ E (tgt := 15) (by decide) (fun E => ?_) (fun E => ?_)
    · refine g_sub (lv' := []) [] rfl ?_
      exact hk15 E
    · refine g_iload_n (pc' := 5) O ⟨dX10_checkWire_4, rfl⟩ (q := 1) rfl rfl ?_
      refine g_aload_n (pc' := 6) O ⟨dX10_checkWire_5, rfl⟩ (q := 0) rfl rfl ?_
      refine gf_C_RX10_10_0 ad cy (pc' := 9) O ⟨dX10_checkWire_6, rfl⟩ ?_
      refine gf_C_RX10_109_1 ad cy (pc' := 12) O ⟨dX10_checkWire_9, rfl⟩ ?_
      refine g_icmp_lt (pc' := 15) O ⟨dX10_checkWire_12, rfl⟩ E (tgt := 26) (by decide) (fun E => ?_) (fun E => ?_)
      · cases E
        exact hret _ _ _ _ _ _ (Nat.le_of_ble_eq_true rfl) (Nat.le_of_ble_eq_true rfl) ⟨dX10_checkWire_26, rfl⟩ rfl
      · refine g_sub (lv' := []) [] rfl ?_
        exact hk15 E
set_option maxRecDepth 100000 in
set_option maxHeartbeats 4000000 in
theorem t_X10_checkTwoWires (l : Launch) (D : va_G) (ad : Nat → Nat) (cy : Nat → ClassId) (hfl : l.stackTraces = false) {h : Hp} {x1 : Int32} {x2 : Int32} {o : (String × Hp) ⊕ Hp} (E : f_X10_checkTwoWires h x1 x2 = some o) : CtXV l D cy (WC ad cy) yX10_checkTwoWires cX10_checkTwoWires 3 9 171 3 18 [.ref (ad 0), .int x1, .int x2] h o := by
  refine sXV (own := RX10) hfl rfl rfl (Nat.le_of_ble_eq_true rfl) (Nat.le_of_ble_eq_true rfl) (Nat.le_of_ble_eq_true rfl) (fun X O hret hthr hprop => ?_)
  show G l D X 3 (WC ad cy) 0 0 h 0 [(0, .ref (ad 0)), (1, .int x1), (2, .int x2)] []
  unfold f_X10_checkTwoWires at E
  refine g_aload_n (pc' := 1) O ⟨dX10_checkTwoWires_0, rfl⟩ (q := 0) rfl rfl ?_
  refine g_iload_n (pc' := 2) O ⟨dX10_checkTwoWires_1, rfl⟩ (q := 1) rfl rfl ?_
  obtain ⟨z_7, c_2, e_8, E⟩ := bdx_of E
  refine g_XVv (pc' := 5) O ⟨dX10_checkTwoWires_2, rfl⟩ (y := yX10_checkWire) (As := [.int x1]) (st := []) (t_X10_checkWire l D ad cy hfl (h := h) c_2) kw_364 kw_25 kw_361 kw_363 kw_3 rfl (wC_0 ad cy h) hd_X10_checkWire ⟨Nat.le_of_ble_eq_true rfl, Nat.le_of_ble_eq_true rfl⟩ ⟨Nat.le_of_ble_eq_true rfl, Nat.le_of_ble_eq_true rfl⟩ rfl (Nat.le_of_ble_eq_true rfl) (fun E1 h1 q => hprop _ _ _ _ _ _ _ (e_8 _ q) (Nat.le_of_ble_eq_true rfl) (Nat.le_of_ble_eq_true rfl)) (fun r_1 q => ?_)
  replace E := E _ q
  refine g_aload_n (pc' := 6) O ⟨dX10_checkTwoWires_5, rfl⟩ (q := 0) rfl rfl ?_
  refine g_iload_n (pc' := 7) O ⟨dX10_checkTwoWires_6, rfl⟩ (q := 2) rfl rfl ?_
  obtain ⟨z_5, c_4, e_6, E⟩ := bdx_of E
  refine g_XVv (pc' := 10) O ⟨dX10_checkTwoWires_7, rfl⟩ (y := yX10_checkWire) (As := [.int x2]) (st := []) (t_X10_checkWire l D ad cy hfl (h := r_1) c_4) kw_364 kw_25 kw_361 kw_363 kw_3 rfl (wC_0 ad cy r_1) hd_X10_checkWire ⟨Nat.le_of_ble_eq_true rfl, Nat.le_of_ble_eq_true rfl⟩ ⟨Nat.le_of_ble_eq_true rfl, Nat.le_of_ble_eq_true rfl⟩ rfl (Nat.le_of_ble_eq_true rfl) (fun E1 h1 q => hprop _ _ _ _ _ _ _ (e_6 _ q) (Nat.le_of_ble_eq_true rfl) (Nat.le_of_ble_eq_true rfl)) (fun r_3 q => ?_)
  replace E := E _ q
  refine g_iload_n (pc' := 11) O ⟨dX10_checkTwoWires_10, rfl⟩ (q := 1) rfl rfl ?_
  refine g_iload_n (pc' := 12) O ⟨dX10_checkTwoWires_11, rfl⟩ (q := 2) rfl rfl ?_
  refine g_icmp_ne (pc' := 15) O ⟨dX10_checkTwoWires_12, rfl⟩ E (tgt := 26) (by decide) (fun E => ?_) (fun E => ?_)
  · cases E
    exact hret _ _ _ _ _ _ (Nat.le_of_ble_eq_true rfl) (Nat.le_of_ble_eq_true rfl) ⟨dX10_checkTwoWires_26, rfl⟩ rfl
  · cases E
    exact hthr _ _ _ _ _ _ _ _ _ _ _ ⟨thc_RX10_68, sr_339, dX10_checkTwoWires_15, dX10_checkTwoWires_18, Or.inr ⟨dX10_checkTwoWires_19, dX10_checkTwoWires_22, dX10_checkTwoWires_25⟩⟩ rfl (Nat.le_of_ble_eq_true rfl) (Nat.le_of_ble_eq_true rfl) (Nat.le_of_ble_eq_true rfl)
set_option maxRecDepth 100000 in
set_option maxHeartbeats 4000000 in
theorem t_X10_checkRoomFor (l : Launch) (D : va_G) (ad : Nat → Nat) (cy : Nat → ClassId) (hfl : l.stackTraces = false) {h : Hp} {x1 : Int32} {o : (String × Hp) ⊕ Hp} (E : f_X10_checkRoomFor h x1 = some o) : CtXV l D cy (WC ad cy) yX10_checkRoomFor cX10_checkRoomFor 2 8 150 1 6 [.ref (ad 0), .int x1] h o := by
  refine sXV (own := RX10) hfl rfl rfl (Nat.le_of_ble_eq_true rfl) (Nat.le_of_ble_eq_true rfl) (Nat.le_of_ble_eq_true rfl) (fun X O hret hthr hprop => ?_)
  show G l D X 2 (WC ad cy) 0 0 h 0 [(0, .ref (ad 0)), (1, .int x1)] []
  unfold f_X10_checkRoomFor at E
  refine g_aload_n (pc' := 1) O ⟨dX10_checkRoomFor_0, rfl⟩ (q := 0) rfl rfl ?_
  refine gf_C_RX10_10_0 ad cy (pc' := 4) O ⟨dX10_checkRoomFor_1, rfl⟩ ?_
  refine gf_C_RX10_75_1 ad cy (pc' := 7) O ⟨dX10_checkRoomFor_4, rfl⟩ ?_
  refine g_bipush (pc' := 9) O ⟨dX10_checkRoomFor_7, rfl⟩ (v := (24 : Int32)) rfl ?_
  refine g_iload_n (pc' := 10) O ⟨dX10_checkRoomFor_9, rfl⟩ (q := 1) rfl rfl ?_
  refine g_isub (pc' := 11) O ⟨dX10_checkRoomFor_10, rfl⟩ ?_
  refine g_icmp_le (pc' := 14) O ⟨dX10_checkRoomFor_11, rfl⟩ E (tgt := 25) (by decide) (fun E => ?_) (fun E => ?_)
  · cases E
    exact hret _ _ _ _ _ _ (Nat.le_of_ble_eq_true rfl) (Nat.le_of_ble_eq_true rfl) ⟨dX10_checkRoomFor_25, rfl⟩ rfl
  · cases E
    exact hthr _ _ _ _ _ _ _ _ _ _ _ ⟨thc_RX10_99, sr_335, dX10_checkRoomFor_14, dX10_checkRoomFor_17, Or.inr ⟨dX10_checkRoomFor_18, dX10_checkRoomFor_21, dX10_checkRoomFor_24⟩⟩ rfl (Nat.le_of_ble_eq_true rfl) (Nat.le_of_ble_eq_true rfl) (Nat.le_of_ble_eq_true rfl)
set_option maxRecDepth 100000 in
set_option maxHeartbeats 4000000 in
theorem t_X10_add (l : Launch) (D : va_G) (ad : Nat → Nat) (cy : Nat → ClassId) (hfl : l.stackTraces = false) {h : Hp} {x1 : Int32} {x2 : Int32} {o : (String × Hp) ⊕ (Int32 × Hp)} (E : f_X10_add h x1 x2 = some o) : CtXI l D cy (WC ad cy) yX10_add cX10_add 3 .int 10 193 4 24 [.ref (ad 0), .int x1, .int x2] h o := by
  refine sXI (own := RX10) hfl rfl rfl (Nat.le_of_ble_eq_true rfl) (Nat.le_of_ble_eq_true rfl) (Nat.le_of_ble_eq_true rfl) (fun X O hret hthr hprop => ?_)
  show G l D X 3 (WC ad cy) 0 0 h 0 [(0, .ref (ad 0)), (1, .int x1), (2, .int x2)] []
  unfold f_X10_add at E
  refine g_aload_n (pc' := 1) O ⟨dX10_add_0, rfl⟩ (q := 0) rfl rfl ?_
  refine g_iload_n (pc' := 2) O ⟨dX10_add_1, rfl⟩ (q := 1) rfl rfl ?_
  refine g_iload_n (pc' := 3) O ⟨dX10_add_2, rfl⟩ (q := 2) rfl rfl ?_
  obtain ⟨z_11, c_2, e_12, E⟩ := bdx_of E
  refine g_XVv (pc' := 6) O ⟨dX10_add_3, rfl⟩ (y := yX10_checkTwoWires) (As := [.int x1, .int x2]) (st := []) (t_X10_checkTwoWires l D ad cy hfl (h := h) c_2) kw_360 kw_25 kw_357 kw_359 kw_2 rfl (wC_0 ad cy h) hd_X10_checkTwoWires ⟨Nat.le_of_ble_eq_true rfl, Nat.le_of_ble_eq_true rfl⟩ ⟨Nat.le_of_ble_eq_true rfl, Nat.le_of_ble_eq_true rfl⟩ rfl (Nat.le_of_ble_eq_true rfl) (fun E1 h1 q => hprop _ _ _ _ _ _ _ (e_12 _ q) (Nat.le_of_ble_eq_true rfl) (Nat.le_of_ble_eq_true rfl)) (fun r_1 q => ?_)
  replace E := E _ q
  refine g_aload_n (pc' := 7) O ⟨dX10_add_6, rfl⟩ (q := 0) rfl rfl ?_
  refine g_iconst (pc' := 8) O ⟨dX10_add_7, rfl⟩ (v := (1 : Int32)) rfl ?_
  obtain ⟨z_9, c_4, e_10, E⟩ := bdx_of E
  refine g_XVv (pc' := 11) O ⟨dX10_add_8, rfl⟩ (y := yX10_checkRoomFor) (As := [.int (1 : Int32)]) (st := []) (t_X10_checkRoomFor l D ad cy hfl (h := r_1) c_4) kw_422 kw_25 kw_419 kw_421 kw_5 rfl (wC_0 ad cy r_1) hd_X10_checkRoomFor ⟨Nat.le_of_ble_eq_true rfl, Nat.le_of_ble_eq_true rfl⟩ ⟨Nat.le_of_ble_eq_true rfl, Nat.le_of_ble_eq_true rfl⟩ rfl (Nat.le_of_ble_eq_true rfl) (fun E1 h1 q => hprop _ _ _ _ _ _ _ (e_10 _ q) (Nat.le_of_ble_eq_true rfl) (Nat.le_of_ble_eq_true rfl)) (fun r_3 q => ?_)
  replace E := E _ q
  refine g_aload_n (pc' := 12) O ⟨dX10_add_11, rfl⟩ (q := 0) rfl rfl ?_
  refine gf_C_RX10_10_0 ad cy (pc' := 15) O ⟨dX10_add_12, rfl⟩ ?_
  refine g_iload_n (pc' := 16) O ⟨dX10_add_15, rfl⟩ (q := 1) rfl rfl ?_
  refine g_iload_n (pc' := 17) O ⟨dX10_add_16, rfl⟩ (q := 2) rfl rfl ?_
  obtain ⟨r_5, c_6, E⟩ := bd_of E
  refine g_Vv (pc' := 20) O ⟨dX10_add_17, rfl⟩ (y := yX9_append) (As := [.int x1, .int x2]) (st := []) (t_X9_append_1 l D ad cy (h := r_3) c_6) kw_442 kw_26 kw_439 kw_440 kw_441 rfl (wC_1 ad cy r_3) hd_X9_append ⟨Nat.le_of_ble_eq_true rfl, Nat.le_of_ble_eq_true rfl⟩ ⟨Nat.le_of_ble_eq_true rfl, Nat.le_of_ble_eq_true rfl⟩ rfl (Nat.le_of_ble_eq_true rfl) ?_
  refine g_aload_n (pc' := 21) O ⟨dX10_add_20, rfl⟩ (q := 0) rfl rfl ?_
  obtain ⟨r_7, c_8, E⟩ := bd_of E
  refine g_Vv (pc' := 24) O ⟨dX10_add_21, rfl⟩ (y := yX10_forgetWhatDependsOnComparators) (As := []) (st := []) (t_X10_forgetWhatDependsOnComparators l D ad cy (h := r_5) c_8) kw_336 kw_25 kw_333 kw_335 kw_1 rfl (wC_0 ad cy r_5) hd_X10_forgetWhatDependsOnComparators ⟨Nat.le_of_ble_eq_true rfl, Nat.le_of_ble_eq_true rfl⟩ ⟨Nat.le_of_ble_eq_true rfl, Nat.le_of_ble_eq_true rfl⟩ rfl (Nat.le_of_ble_eq_true rfl) ?_
  refine g_aload_n (pc' := 25) O ⟨dX10_add_24, rfl⟩ (q := 0) rfl rfl ?_
  refine gf_C_RX10_10_0 ad cy (pc' := 28) O ⟨dX10_add_25, rfl⟩ ?_
  refine gf_C_RX10_75_1 ad cy (pc' := 31) O ⟨dX10_add_28, rfl⟩ ?_
  refine g_iconst (pc' := 32) O ⟨dX10_add_31, rfl⟩ (v := (1 : Int32)) rfl ?_
  refine g_isub (pc' := 33) O ⟨dX10_add_32, rfl⟩ ?_
  cases E
  exact hret _ _ _ _ _ _ _ (Nat.le_of_ble_eq_true rfl) (Nat.le_of_ble_eq_true rfl) ⟨dX10_add_33, rfl⟩ rfl rfl
set_option maxRecDepth 100000 in
set_option maxHeartbeats 4000000 in
theorem t_X10_take (l : Launch) (D : va_G) (ad : Nat → Nat) (cy : Nat → ClassId) (hfl : l.stackTraces = false) {h : Hp}  {o : (String × Hp) ⊕ (Int32 × Hp)} (E : f_X10_take h = some o) : CtXI l D cy (WC ad cy) yX10_take cX10_take 1 .int 8 150 1 6 [.ref (ad 0)] h o := by
  refine sXI (own := RX10) hfl rfl rfl (Nat.le_of_ble_eq_true rfl) (Nat.le_of_ble_eq_true rfl) (Nat.le_of_ble_eq_true rfl) (fun X O hret hthr hprop => ?_)
  show G l D X 1 (WC ad cy) 0 0 h 0 [(0, .ref (ad 0))] []
  unfold f_X10_take at E
  refine g_aload_n (pc' := 1) O ⟨dX10_take_0, rfl⟩ (q := 0) rfl rfl ?_
  refine gf_C_RX10_10_0 ad cy (pc' := 4) O ⟨dX10_take_1, rfl⟩ ?_
  refine gf_C_RX10_75_1 ad cy (pc' := 7) O ⟨dX10_take_4, rfl⟩ ?_
  refine g_if_ne (pc' := 10) O ⟨dX10_take_7, rfl⟩ E (tgt := 20) (by decide) (fun E => ?_) (fun E => ?_)
  · refine g_aload_n (pc' := 21) O ⟨dX10_take_20, rfl⟩ (q := 0) rfl rfl ?_
    refine gf_C_RX10_10_0 ad cy (pc' := 24) O ⟨dX10_take_21, rfl⟩ ?_
    obtain ⟨r_1, c_2, E⟩ := bd_of E
    refine g_Vv (pc' := 27) O ⟨dX10_take_24, rfl⟩ (y := yX9_dropLast) (As := []) (st := []) (t_X9_dropLast_1 l D ad cy (h := h) c_2) kw_451 kw_26 kw_448 kw_449 kw_450 rfl (wC_1 ad cy h) hd_X9_dropLast ⟨Nat.le_of_ble_eq_true rfl, Nat.le_of_ble_eq_true rfl⟩ ⟨Nat.le_of_ble_eq_true rfl, Nat.le_of_ble_eq_true rfl⟩ rfl (Nat.le_of_ble_eq_true rfl) ?_
    refine g_aload_n (pc' := 28) O ⟨dX10_take_27, rfl⟩ (q := 0) rfl rfl ?_
    obtain ⟨r_3, c_4, E⟩ := bd_of E
    refine g_Vv (pc' := 31) O ⟨dX10_take_28, rfl⟩ (y := yX10_forgetWhatDependsOnComparators) (As := []) (st := []) (t_X10_forgetWhatDependsOnComparators l D ad cy (h := r_1) c_4) kw_336 kw_25 kw_333 kw_335 kw_1 rfl (wC_0 ad cy r_1) hd_X10_forgetWhatDependsOnComparators ⟨Nat.le_of_ble_eq_true rfl, Nat.le_of_ble_eq_true rfl⟩ ⟨Nat.le_of_ble_eq_true rfl, Nat.le_of_ble_eq_true rfl⟩ rfl (Nat.le_of_ble_eq_true rfl) ?_
    refine g_aload_n (pc' := 32) O ⟨dX10_take_31, rfl⟩ (q := 0) rfl rfl ?_
    refine gf_C_RX10_10_0 ad cy (pc' := 35) O ⟨dX10_take_32, rfl⟩ ?_
    refine gf_C_RX10_75_1 ad cy (pc' := 38) O ⟨dX10_take_35, rfl⟩ ?_
    cases E
    exact hret _ _ _ _ _ _ _ (Nat.le_of_ble_eq_true rfl) (Nat.le_of_ble_eq_true rfl) ⟨dX10_take_38, rfl⟩ rfl rfl
  · cases E
    exact hthr _ _ _ _ _ _ _ _ _ _ _ ⟨thc_RX10_99, sr_101, dX10_take_10, dX10_take_13, Or.inl ⟨dX10_take_14, dX10_take_16, dX10_take_19⟩⟩ rfl (Nat.le_of_ble_eq_true rfl) (Nat.le_of_ble_eq_true rfl) (Nat.le_of_ble_eq_true rfl)
set_option maxRecDepth 100000 in
set_option maxHeartbeats 4000000 in
theorem t_X10_appendPlan (l : Launch) (D : va_G) (ad : Nat → Nat) (cy : Nat → ClassId) (hfl : l.stackTraces = false) {h : Hp}  {o : (String × Hp) ⊕ (Int32 × Hp)} (E : f_X10_appendPlan h = some o) : CtXI l D cy (WC ad cy) yX10_appendPlan cX10_appendPlan 2 .int 9 171 1 6 [.ref (ad 0)] h o := by
  refine sXI (own := RX10) hfl rfl rfl (Nat.le_of_ble_eq_true rfl) (Nat.le_of_ble_eq_true rfl) (Nat.le_of_ble_eq_true rfl) (fun X O hret hthr hprop => ?_)
  show G l D X 2 (WC ad cy) 0 0 h 0 [(0, .ref (ad 0))] []
  unfold f_X10_appendPlan at E
  refine g_aload_n (pc' := 1) O ⟨dX10_appendPlan_0, rfl⟩ (q := 0) rfl rfl ?_
  refine g_aload_n (pc' := 2) O ⟨dX10_appendPlan_1, rfl⟩ (q := 0) rfl rfl ?_
  refine gf_C_RX10_16_0 ad cy (pc' := 5) O ⟨dX10_appendPlan_2, rfl⟩ ?_
  refine gf_C_RX10_75_6 ad cy (pc' := 8) O ⟨dX10_appendPlan_5, rfl⟩ ?_
  obtain ⟨z_10, c_2, e_11, E⟩ := bdx_of E
  refine g_XVv (pc' := 11) O ⟨dX10_appendPlan_8, rfl⟩ (y := yX10_checkRoomFor) (As := [.int (h.1 6 1)]) (st := []) (t_X10_checkRoomFor l D ad cy hfl (h := h) c_2) kw_422 kw_25 kw_419 kw_421 kw_5 rfl (wC_0 ad cy h) hd_X10_checkRoomFor ⟨Nat.le_of_ble_eq_true rfl, Nat.le_of_ble_eq_true rfl⟩ ⟨Nat.le_of_ble_eq_true rfl, Nat.le_of_ble_eq_true rfl⟩ rfl (Nat.le_of_ble_eq_true rfl) (fun E1 h1 q => hprop _ _ _ _ _ _ _ (e_11 _ q) (Nat.le_of_ble_eq_true rfl) (Nat.le_of_ble_eq_true rfl)) (fun r_1 q => ?_)
  replace E := E _ q
  refine g_iconst (pc' := 12) O ⟨dX10_appendPlan_11, rfl⟩ (v := (0 : Int32)) rfl ?_
  refine g_istore_n (pc' := 13) O ⟨dX10_appendPlan_12, rfl⟩ (lv' := [(1, .int (0 : Int32)), (0, .ref (ad 0))]) rfl (by decide) rfl ?_
  refine jn1_of (P := fun (h_3 : Hp) => G l D X 2 (WC ad cy) 1 6 h_3 55 [(0, .ref (ad 0))] []) E ?_ ?_
  · intro h_3 E
    show G l D X 2 (WC ad cy) 1 6 h_3 55 [(0, .ref (ad 0))] []
    refine g_aload_n (pc' := 56) O ⟨dX10_appendPlan_55, rfl⟩ (q := 0) rfl rfl ?_
    obtain ⟨r_4, c_5, E⟩ := bd_of E
    refine g_Vv (pc' := 59) O ⟨dX10_appendPlan_56, rfl⟩ (y := yX10_forgetWhatDependsOnComparators) (As := []) (st := []) (t_X10_forgetWhatDependsOnComparators l D ad cy (h := h_3) c_5) kw_336 kw_25 kw_333 kw_335 kw_1 rfl (wC_0 ad cy h_3) hd_X10_forgetWhatDependsOnComparators ⟨Nat.le_of_ble_eq_true rfl, Nat.le_of_ble_eq_true rfl⟩ ⟨Nat.le_of_ble_eq_true rfl, Nat.le_of_ble_eq_true rfl⟩ rfl (Nat.le_of_ble_eq_true rfl) ?_
    refine g_aload_n (pc' := 60) O ⟨dX10_appendPlan_59, rfl⟩ (q := 0) rfl rfl ?_
    refine gf_C_RX10_16_0 ad cy (pc' := 63) O ⟨dX10_appendPlan_60, rfl⟩ ?_
    refine gf_C_RX10_75_6 ad cy (pc' := 66) O ⟨dX10_appendPlan_63, rfl⟩ ?_
    cases E
    exact hret _ _ _ _ _ _ _ (Nat.le_of_ble_eq_true rfl) (Nat.le_of_ble_eq_true rfl) ⟨dX10_appendPlan_66, rfl⟩ rfl rfl
  · intro k55 hk55 E
    refine g_sub (lv' := [(0, .ref (ad 0)), (1, .int (0 : Int32))]) [1, 0] rfl ?_
    refine fx2_of (P := fun (x1_6 : Int32) (h_7 : Hp) => G l D X 2 (WC ad cy) 1 6 h_7 13 [(0, .ref (ad 0)), (1, .int x1_6)] []) ?_ _ _ _ E
    intro self ih13 x1_6 h_7 E
    show G l D X 2 (WC ad cy) 1 6 h_7 13 [(0, .ref (ad 0)), (1, .int x1_6)] []
    unfold L_X10_appendPlan_13 at E
    refine g_iload_n (pc' := 14) O ⟨dX10_appendPlan_13, rfl⟩ (q := 1) rfl rfl ?_
    refine g_aload_n (pc' := 15) O ⟨dX10_appendPlan_14, rfl⟩ (q := 0) rfl rfl ?_
    refine gf_C_RX10_16_0 ad cy (pc' := 18) O ⟨dX10_appendPlan_15, rfl⟩ ?_
    refine gf_C_RX10_75_6 ad cy (pc' := 21) O ⟨dX10_appendPlan_18, rfl⟩ ?_
    refine g_icmp_ge (pc' := 24) O ⟨dX10_appendPlan_21, rfl⟩ E (tgt := 55) (by decide) (fun E => ?_) (fun E => ?_)
    · refine g_sub (lv' := [(0, .ref (ad 0))]) [0] rfl ?_
      exact hk55 _ E
    · refine g_aload_n (pc' := 25) O ⟨dX10_appendPlan_24, rfl⟩ (q := 0) rfl rfl ?_
      refine gf_C_RX10_10_0 ad cy (pc' := 28) O ⟨dX10_appendPlan_25, rfl⟩ ?_
      refine g_aload_n (pc' := 29) O ⟨dX10_appendPlan_28, rfl⟩ (q := 0) rfl rfl ?_
      refine gf_C_RX10_16_0 ad cy (pc' := 32) O ⟨dX10_appendPlan_29, rfl⟩ ?_
      refine gf_C_RX10_152_6 ad cy (pc' := 35) O ⟨dX10_appendPlan_32, rfl⟩ ?_
      refine g_iload_n (pc' := 36) O ⟨dX10_appendPlan_35, rfl⟩ (q := 1) rfl rfl ?_
      refine g_iald (pc' := 37) O ⟨dX10_appendPlan_36, rfl⟩ (wC_7 ad cy h_7) E (fun E => ?_)
      refine g_aload_n (pc' := 38) O ⟨dX10_appendPlan_37, rfl⟩ (q := 0) rfl rfl ?_
      refine gf_C_RX10_16_0 ad cy (pc' := 41) O ⟨dX10_appendPlan_38, rfl⟩ ?_
      refine gf_C_RX10_156_6 ad cy (pc' := 44) O ⟨dX10_appendPlan_41, rfl⟩ ?_
      refine g_iload_n (pc' := 45) O ⟨dX10_appendPlan_44, rfl⟩ (q := 1) rfl rfl ?_
      refine g_iald (pc' := 46) O ⟨dX10_appendPlan_45, rfl⟩ (wC_8 ad cy h_7) E (fun E => ?_)
      obtain ⟨r_8, c_9, E⟩ := bd_of E
      refine g_Vv (pc' := 49) O ⟨dX10_appendPlan_46, rfl⟩ (y := yX9_append) (As := [.int (h_7.1 7 x1_6.toNatClampNeg), .int (h_7.1 8 x1_6.toNatClampNeg)]) (st := []) (t_X9_append_1 l D ad cy (h := h_7) c_9) kw_442 kw_26 kw_439 kw_440 kw_441 rfl (wC_1 ad cy h_7) hd_X9_append ⟨Nat.le_of_ble_eq_true rfl, Nat.le_of_ble_eq_true rfl⟩ ⟨Nat.le_of_ble_eq_true rfl, Nat.le_of_ble_eq_true rfl⟩ rfl (Nat.le_of_ble_eq_true rfl) ?_
      refine g_iinc (pc' := 52) O ⟨dX10_appendPlan_49, rfl⟩ (q := 1) (v := x1_6 + (1 : Int32)) (lv' := [(1, .int (x1_6 + (1 : Int32))), (0, .ref (ad 0))]) rfl rfl (by decide) rfl ?_
      refine g_goto (pc' := 55) O ⟨dX10_appendPlan_52, rfl⟩ (tgt := 13) (by decide) ?_
      refine g_sub (lv' := [(0, .ref (ad 0)), (1, .int (x1_6 + (1 : Int32)))]) [1, 0] rfl ?_
      exact ih13 _ _ E
set_option maxRecDepth 100000 in
set_option maxHeartbeats 4000000 in
theorem t_X10_make (l : Launch) (D : va_G) (ad : Nat → Nat) (cy : Nat → ClassId) (hfl : l.stackTraces = false) {h : Hp} {x1 : Int32} {o : (String × Hp) ⊕ (Int32 × Hp)} (E : f_X10_make h x1 = some o) : CtXI l D cy (WC ad cy) yX10_make cX10_make 2 .int 10 192 2 12 [.ref (ad 0), .int x1] h o := by
  refine sXI (own := RX10) hfl rfl rfl (Nat.le_of_ble_eq_true rfl) (Nat.le_of_ble_eq_true rfl) (Nat.le_of_ble_eq_true rfl) (fun X O hret hthr hprop => ?_)
  show G l D X 2 (WC ad cy) 0 0 h 0 [(0, .ref (ad 0)), (1, .int x1)] []
  unfold f_X10_make at E
  refine g_iload_n (pc' := 1) O ⟨dX10_make_0, rfl⟩ (q := 1) rfl rfl ?_
  refine jn0_of (P := G l D X 2 (WC ad cy) 0 0 h 9 [] []) E ?_ ?_
  · intro E
    show G l D X 2 (WC ad cy) 0 0 h 9 [] []
    cases E
    exact hthr _ _ _ _ _ _ _ _ _ _ _ ⟨thc_RX10_68, sr_107, dX10_make_9, dX10_make_12, Or.inl ⟨dX10_make_13, dX10_make_15, dX10_make_18⟩⟩ rfl (Nat.le_of_ble_eq_true rfl) (Nat.le_of_ble_eq_true rfl) (Nat.le_of_ble_eq_true rfl)
  · intro k9 hk9 E
    refine g_if_lt (pc' := 4) O ⟨dX10_make_1, rfl⟩ E (tgt := 9) (by decide) (fun E => ?_) (fun E => ?_)
    · refine g_sub (lv' := []) [] rfl ?_
      exact hk9 E
    · refine g_iload_n (pc' := 5) O ⟨dX10_make_4, rfl⟩ (q := 1) rfl rfl ?_
      refine g_iconst (pc' := 6) O ⟨dX10_make_5, rfl⟩ (v := (2 : Int32)) rfl ?_
      refine g_icmp_le (pc' := 9) O ⟨dX10_make_6, rfl⟩ E (tgt := 19) (by decide) (fun E => ?_) (fun E => ?_)
      · refine g_aload_n (pc' := 20) O ⟨dX10_make_19, rfl⟩ (q := 0) rfl rfl ?_
        refine gf_C_RX10_16_0 ad cy (pc' := 23) O ⟨dX10_make_20, rfl⟩ ?_
        refine g_aload_n (pc' := 24) O ⟨dX10_make_23, rfl⟩ (q := 0) rfl rfl ?_
        refine gf_C_RX10_10_0 ad cy (pc' := 27) O ⟨dX10_make_24, rfl⟩ ?_
        refine gf_C_RX10_109_1 ad cy (pc' := 30) O ⟨dX10_make_27, rfl⟩ ?_
        obtain ⟨r_1, c_2, E⟩ := bd_of E
        refine g_Vv (pc' := 33) O ⟨dX10_make_30, rfl⟩ (y := yX9_begin) (As := [.int (h.1 1 0)]) (st := []) (t_X9_begin_6 l D ad cy (h := h) c_2) kw_328 kw_26 kw_325 kw_326 kw_327 rfl (wC_6 ad cy h) hd_X9_begin ⟨Nat.le_of_ble_eq_true rfl, Nat.le_of_ble_eq_true rfl⟩ ⟨Nat.le_of_ble_eq_true rfl, Nat.le_of_ble_eq_true rfl⟩ rfl (Nat.le_of_ble_eq_true rfl) ?_
        refine g_iload_n (pc' := 34) O ⟨dX10_make_33, rfl⟩ (q := 1) rfl rfl ?_
        refine g_lk (pc' := 60) O ⟨dX10_make_34, rfl⟩ (v := (0 : Int32)) (tgt := 60) E (by decide +kernel) rfl (by decide) (fun E => ?_) (fun n0 E => ?_)
        · refine g_aload_n (pc' := 61) O ⟨dX10_make_60, rfl⟩ (q := 0) rfl rfl ?_
          refine gf_C_RX10_16_0 ad cy (pc' := 64) O ⟨dX10_make_61, rfl⟩ ?_
          obtain ⟨r_3, c_4, E⟩ := bd_of E
          refine g_Vv (pc' := 67) O ⟨dX10_make_64, rfl⟩ (y := yX9_layBubble) (As := []) (st := []) (t_X9_layBubble_6 l D ad cy (h := r_1) c_4) kw_460 kw_26 kw_457 kw_458 kw_459 rfl (wC_6 ad cy r_1) hd_X9_layBubble ⟨Nat.le_of_ble_eq_true rfl, Nat.le_of_ble_eq_true rfl⟩ ⟨Nat.le_of_ble_eq_true rfl, Nat.le_of_ble_eq_true rfl⟩ rfl (Nat.le_of_ble_eq_true rfl) ?_
          refine g_goto (pc' := 70) O ⟨dX10_make_67, rfl⟩ (tgt := 87) (by decide) ?_
          refine g_aload_n (pc' := 88) O ⟨dX10_make_87, rfl⟩ (q := 0) rfl rfl ?_
          obtain ⟨z_7, c_6, e_8, E⟩ := bdx_of E
          refine g_XVi (pc' := 91) O ⟨dX10_make_88, rfl⟩ (y := yX10_appendPlan) (As := []) (st := []) (t_X10_appendPlan l D ad cy hfl (h := r_3) c_6) kw_477 kw_25 kw_474 kw_476 kw_7 rfl (wC_0 ad cy r_3) hd_X10_appendPlan ⟨Nat.le_of_ble_eq_true rfl, Nat.le_of_ble_eq_true rfl⟩ ⟨Nat.le_of_ble_eq_true rfl, Nat.le_of_ble_eq_true rfl⟩ rfl (Nat.le_of_ble_eq_true rfl) (fun E1 h1 q => hprop _ _ _ _ _ _ _ (e_8 _ q) (Nat.le_of_ble_eq_true rfl) (Nat.le_of_ble_eq_true rfl)) (fun r_5 q => ?_)
          replace E := E _ q
          cases E
          exact hret _ _ _ _ _ _ _ (Nat.le_of_ble_eq_true rfl) (Nat.le_of_ble_eq_true rfl) ⟨dX10_make_91, rfl⟩ rfl rfl
        refine g_lk (pc' := 60) O ⟨dX10_make_34, rfl⟩ (v := (1 : Int32)) (tgt := 70) E (by decide +kernel) rfl (by decide) (fun E => ?_) (fun n1 E => ?_)
        · refine g_aload_n (pc' := 71) O ⟨dX10_make_70, rfl⟩ (q := 0) rfl rfl ?_
          refine gf_C_RX10_16_0 ad cy (pc' := 74) O ⟨dX10_make_71, rfl⟩ ?_
          obtain ⟨r_9, c_10, E⟩ := bd_of E
          refine g_Vv (pc' := 77) O ⟨dX10_make_74, rfl⟩ (y := yX9_layBrick) (As := []) (st := []) (t_X9_layBrick_6 l D ad cy (h := r_1) c_10) kw_465 kw_26 kw_462 kw_463 kw_464 rfl (wC_6 ad cy r_1) hd_X9_layBrick ⟨Nat.le_of_ble_eq_true rfl, Nat.le_of_ble_eq_true rfl⟩ ⟨Nat.le_of_ble_eq_true rfl, Nat.le_of_ble_eq_true rfl⟩ rfl (Nat.le_of_ble_eq_true rfl) ?_
          refine g_goto (pc' := 80) O ⟨dX10_make_77, rfl⟩ (tgt := 87) (by decide) ?_
          refine g_aload_n (pc' := 88) O ⟨dX10_make_87, rfl⟩ (q := 0) rfl rfl ?_
          obtain ⟨z_13, c_12, e_14, E⟩ := bdx_of E
          refine g_XVi (pc' := 91) O ⟨dX10_make_88, rfl⟩ (y := yX10_appendPlan) (As := []) (st := []) (t_X10_appendPlan l D ad cy hfl (h := r_9) c_12) kw_477 kw_25 kw_474 kw_476 kw_7 rfl (wC_0 ad cy r_9) hd_X10_appendPlan ⟨Nat.le_of_ble_eq_true rfl, Nat.le_of_ble_eq_true rfl⟩ ⟨Nat.le_of_ble_eq_true rfl, Nat.le_of_ble_eq_true rfl⟩ rfl (Nat.le_of_ble_eq_true rfl) (fun E1 h1 q => hprop _ _ _ _ _ _ _ (e_14 _ q) (Nat.le_of_ble_eq_true rfl) (Nat.le_of_ble_eq_true rfl)) (fun r_11 q => ?_)
          replace E := E _ q
          cases E
          exact hret _ _ _ _ _ _ _ (Nat.le_of_ble_eq_true rfl) (Nat.le_of_ble_eq_true rfl) ⟨dX10_make_91, rfl⟩ rfl rfl
        have m0 := neI (z := 0) n0 (by decide)
        have m1 := neI (z := 1) n1 (by decide)
        refine g_lkD (pc' := 60) O ⟨dX10_make_34, rfl⟩ (tgt := 80) (by decide +kernel) ((if_neg (Ne.symm m0)).trans (if_neg (Ne.symm m1))) (by decide) ?_
        refine g_aload_n (pc' := 81) O ⟨dX10_make_80, rfl⟩ (q := 0) rfl rfl ?_
        refine gf_C_RX10_16_0 ad cy (pc' := 84) O ⟨dX10_make_81, rfl⟩ ?_
        obtain ⟨r_15, c_16, E⟩ := bd_of E
        refine g_Vv (pc' := 87) O ⟨dX10_make_84, rfl⟩ (y := yX9_layMerge) (As := []) (st := []) (t_X9_layMerge_6 l D ad cy (h := r_1) c_16) kw_469 kw_26 kw_466 kw_467 kw_468 rfl (wC_6 ad cy r_1) hd_X9_layMerge ⟨Nat.le_of_ble_eq_true rfl, Nat.le_of_ble_eq_true rfl⟩ ⟨Nat.le_of_ble_eq_true rfl, Nat.le_of_ble_eq_true rfl⟩ rfl (Nat.le_of_ble_eq_true rfl) ?_
        refine g_aload_n (pc' := 88) O ⟨dX10_make_87, rfl⟩ (q := 0) rfl rfl ?_
        obtain ⟨z_19, c_18, e_20, E⟩ := bdx_of E
        refine g_XVi (pc' := 91) O ⟨dX10_make_88, rfl⟩ (y := yX10_appendPlan) (As := []) (st := []) (t_X10_appendPlan l D ad cy hfl (h := r_15) c_18) kw_477 kw_25 kw_474 kw_476 kw_7 rfl (wC_0 ad cy r_15) hd_X10_appendPlan ⟨Nat.le_of_ble_eq_true rfl, Nat.le_of_ble_eq_true rfl⟩ ⟨Nat.le_of_ble_eq_true rfl, Nat.le_of_ble_eq_true rfl⟩ rfl (Nat.le_of_ble_eq_true rfl) (fun E1 h1 q => hprop _ _ _ _ _ _ _ (e_20 _ q) (Nat.le_of_ble_eq_true rfl) (Nat.le_of_ble_eq_true rfl)) (fun r_17 q => ?_)
        replace E := E _ q
        cases E
        exact hret _ _ _ _ _ _ _ (Nat.le_of_ble_eq_true rfl) (Nat.le_of_ble_eq_true rfl) ⟨dX10_make_91, rfl⟩ rfl rfl
      · refine g_sub (lv' := []) [] rfl ?_
        exact hk9 E
set_option maxRecDepth 100000 in
set_option maxHeartbeats 4000000 in
theorem t_X10_told (l : Launch) (D : va_G) (ad : Nat → Nat) (cy : Nat → ClassId) (hfl : l.stackTraces = false) {h : Hp} {x1 : Int32} {o : (String × Hp) ⊕ (Int32 × Hp)} (E : f_X10_told h x1 = some o) : CtXI l D cy (WC ad cy) yX10_told cX10_told 2 .int 8 150 1 6 [.ref (ad 0), .int x1] h o := by
  refine sXI (own := RX10) hfl rfl rfl (Nat.le_of_ble_eq_true rfl) (Nat.le_of_ble_eq_true rfl) (Nat.le_of_ble_eq_true rfl) (fun X O hret hthr hprop => ?_)
  show G l D X 2 (WC ad cy) 0 0 h 0 [(0, .ref (ad 0)), (1, .int x1)] []
  unfold f_X10_told at E
  refine g_iload_n (pc' := 1) O ⟨dX10_told_0, rfl⟩ (q := 1) rfl rfl ?_
  refine g_tab (pc' := 40) O ⟨dX10_told_1, rfl⟩ (v := (0 : Int32)) (tgt := 40) E ⟨by decide, by decide, rfl, by decide⟩ (fun E => ?_) (fun n0 E => ?_)
  · refine g_aload_n (pc' := 41) O ⟨dX10_told_40, rfl⟩ (q := 0) rfl rfl ?_
    refine gf_C_RX10_10_0 ad cy (pc' := 44) O ⟨dX10_told_41, rfl⟩ ?_
    refine gf_C_RX10_109_1 ad cy (pc' := 47) O ⟨dX10_told_44, rfl⟩ ?_
    cases E
    exact hret _ _ _ _ _ _ _ (Nat.le_of_ble_eq_true rfl) (Nat.le_of_ble_eq_true rfl) ⟨dX10_told_47, rfl⟩ rfl rfl
  refine g_tab (pc' := 40) O ⟨dX10_told_1, rfl⟩ (v := (1 : Int32)) (tgt := 48) E ⟨by decide, by decide, rfl, by decide⟩ (fun E => ?_) (fun n1 E => ?_)
  · refine g_aload_n (pc' := 49) O ⟨dX10_told_48, rfl⟩ (q := 0) rfl rfl ?_
    refine gf_C_RX10_10_0 ad cy (pc' := 52) O ⟨dX10_told_49, rfl⟩ ?_
    refine gf_C_RX10_75_1 ad cy (pc' := 55) O ⟨dX10_told_52, rfl⟩ ?_
    cases E
    exact hret _ _ _ _ _ _ _ (Nat.le_of_ble_eq_true rfl) (Nat.le_of_ble_eq_true rfl) ⟨dX10_told_55, rfl⟩ rfl rfl
  refine g_tab (pc' := 40) O ⟨dX10_told_1, rfl⟩ (v := (2 : Int32)) (tgt := 56) E ⟨by decide, by decide, rfl, by decide⟩ (fun E => ?_) (fun n2 E => ?_)
  · refine g_aload_n (pc' := 57) O ⟨dX10_told_56, rfl⟩ (q := 0) rfl rfl ?_
    refine gf_C_RX10_10_0 ad cy (pc' := 60) O ⟨dX10_told_57, rfl⟩ ?_
    obtain ⟨r_1, c_2, E⟩ := bd_of E
    refine g_Vi (pc' := 63) O ⟨dX10_told_60, rfl⟩ (y := yX9_layerCount) (As := []) (st := []) (t_X9_layerCount_1 l D ad cy (h := h) c_2) kw_573 kw_26 kw_570 kw_571 kw_572 rfl (wC_1 ad cy h) hd_X9_layerCount ⟨Nat.le_of_ble_eq_true rfl, Nat.le_of_ble_eq_true rfl⟩ ⟨Nat.le_of_ble_eq_true rfl, Nat.le_of_ble_eq_true rfl⟩ rfl (Nat.le_of_ble_eq_true rfl) ?_
    cases E
    exact hret _ _ _ _ _ _ _ (Nat.le_of_ble_eq_true rfl) (Nat.le_of_ble_eq_true rfl) ⟨dX10_told_63, rfl⟩ rfl rfl
  refine g_tab (pc' := 40) O ⟨dX10_told_1, rfl⟩ (v := (3 : Int32)) (tgt := 64) E ⟨by decide, by decide, rfl, by decide⟩ (fun E => ?_) (fun n3 E => ?_)
  · refine g_aload_n (pc' := 65) O ⟨dX10_told_64, rfl⟩ (q := 0) rfl rfl ?_
    refine gf_C_RX10_29_0 ad cy (pc' := 68) O ⟨dX10_told_65, rfl⟩ ?_
    refine g_aload_n (pc' := 69) O ⟨dX10_told_68, rfl⟩ (q := 0) rfl rfl ?_
    refine gf_C_RX10_10_0 ad cy (pc' := 72) O ⟨dX10_told_69, rfl⟩ ?_
    obtain ⟨r_3, c_4, E⟩ := bd_of E
    refine g_Vi (pc' := 75) O ⟨dX10_told_72, rfl⟩ (y := yX4_deadCount) (As := [.ref (ad 1)]) (st := []) (t_X4_deadCount_13_1 l D ad cy (h := h) c_4) kw_580 kw_28 kw_577 kw_578 kw_579 rfl (wC_13 ad cy h) hd_X4_deadCount ⟨Nat.le_of_ble_eq_true rfl, Nat.le_of_ble_eq_true rfl⟩ ⟨Nat.le_of_ble_eq_true rfl, Nat.le_of_ble_eq_true rfl⟩ rfl (Nat.le_of_ble_eq_true rfl) ?_
    cases E
    exact hret _ _ _ _ _ _ _ (Nat.le_of_ble_eq_true rfl) (Nat.le_of_ble_eq_true rfl) ⟨dX10_told_75, rfl⟩ rfl rfl
  refine g_tab (pc' := 40) O ⟨dX10_told_1, rfl⟩ (v := (4 : Int32)) (tgt := 76) E ⟨by decide, by decide, rfl, by decide⟩ (fun E => ?_) (fun n4 E => ?_)
  · refine g_aload_n (pc' := 77) O ⟨dX10_told_76, rfl⟩ (q := 0) rfl rfl ?_
    refine gf_C_RX10_10_0 ad cy (pc' := 80) O ⟨dX10_told_77, rfl⟩ ?_
    obtain ⟨r_5, c_6, E⟩ := bd_of E
    refine g_Vi (pc' := 83) O ⟨dX10_told_80, rfl⟩ (y := yX9_crookedCount) (As := []) (st := []) (t_X9_crookedCount_1 l D ad cy (h := h) c_6) kw_603 kw_26 kw_600 kw_601 kw_602 rfl (wC_1 ad cy h) hd_X9_crookedCount ⟨Nat.le_of_ble_eq_true rfl, Nat.le_of_ble_eq_true rfl⟩ ⟨Nat.le_of_ble_eq_true rfl, Nat.le_of_ble_eq_true rfl⟩ rfl (Nat.le_of_ble_eq_true rfl) ?_
    cases E
    exact hret _ _ _ _ _ _ _ (Nat.le_of_ble_eq_true rfl) (Nat.le_of_ble_eq_true rfl) ⟨dX10_told_83, rfl⟩ rfl rfl
  refine g_tab (pc' := 40) O ⟨dX10_told_1, rfl⟩ (v := (5 : Int32)) (tgt := 84) E ⟨by decide, by decide, rfl, by decide⟩ (fun E => ?_) (fun n5 E => ?_)
  · refine g_aload_n (pc' := 85) O ⟨dX10_told_84, rfl⟩ (q := 0) rfl rfl ?_
    refine gf_C_RX10_10_0 ad cy (pc' := 88) O ⟨dX10_told_85, rfl⟩ ?_
    obtain ⟨r_7, c_8, E⟩ := bd_of E
    refine g_Vi (pc' := 91) O ⟨dX10_told_88, rfl⟩ (y := yX9_textLength) (As := []) (st := []) (t_X9_textLength_1 l D ad cy (h := h) c_8) kw_611 kw_26 kw_608 kw_609 kw_610 rfl (wC_1 ad cy h) hd_X9_textLength ⟨Nat.le_of_ble_eq_true rfl, Nat.le_of_ble_eq_true rfl⟩ ⟨Nat.le_of_ble_eq_true rfl, Nat.le_of_ble_eq_true rfl⟩ rfl (Nat.le_of_ble_eq_true rfl) ?_
    cases E
    exact hret _ _ _ _ _ _ _ (Nat.le_of_ble_eq_true rfl) (Nat.le_of_ble_eq_true rfl) ⟨dX10_told_91, rfl⟩ rfl rfl
  have m0 := neI (z := 0) n0 (by decide)
  have m1 := neI (z := 1) n1 (by decide)
  have m2 := neI (z := 2) n2 (by decide)
  have m3 := neI (z := 3) n3 (by decide)
  have m4 := neI (z := 4) n4 (by decide)
  have m5 := neI (z := 5) n5 (by decide)
  refine g_tabD (pc' := 40) O ⟨dX10_told_1, rfl⟩ (tgt := 92) (by omega) (by decide) ?_
  cases E
  exact hthr _ _ _ _ _ _ _ _ _ _ _ ⟨thc_RX10_68, sr_147, dX10_told_92, dX10_told_95, Or.inl ⟨dX10_told_96, dX10_told_98, dX10_told_101⟩⟩ rfl (Nat.le_of_ble_eq_true rfl) (Nat.le_of_ble_eq_true rfl) (Nat.le_of_ble_eq_true rfl)
set_option maxRecDepth 100000 in
set_option maxHeartbeats 4000000 in
theorem t_X10_checkComparator (l : Launch) (D : va_G) (ad : Nat → Nat) (cy : Nat → ClassId) (hfl : l.stackTraces = false) {h : Hp} {x1 : Int32} {o : (String × Hp) ⊕ Hp} (E : f_X10_checkComparator h x1 = some o) : CtXV l D cy (WC ad cy) yX10_checkComparator cX10_checkComparator 2 8 150 1 6 [.ref (ad 0), .int x1] h o := by
  refine sXV (own := RX10) hfl rfl rfl (Nat.le_of_ble_eq_true rfl) (Nat.le_of_ble_eq_true rfl) (Nat.le_of_ble_eq_true rfl) (fun X O hret hthr hprop => ?_)
  show G l D X 2 (WC ad cy) 0 0 h 0 [(0, .ref (ad 0)), (1, .int x1)] []
  unfold f_X10_checkComparator at E
  refine g_iload_n (pc' := 1) O ⟨dX10_checkComparator_0, rfl⟩ (q := 1) rfl rfl ?_
  refine jn0_of (P := G l D X 2 (WC ad cy) 0 0 h 15 [] []) E ?_ ?_
  · intro E
    show G l D X 2 (WC ad cy) 0 0 h 15 [] []
    cases E
    exact hthr _ _ _ _ _ _ _ _ _ _ _ ⟨thc_RX10_247, sr_341, dX10_checkComparator_15, dX10_checkComparator_18, Or.inr ⟨dX10_checkComparator_19, dX10_checkComparator_22, dX10_checkComparator_25⟩⟩ rfl (Nat.le_of_ble_eq_true rfl) (Nat.le_of_ble_eq_true rfl) (Nat.le_of_ble_eq_true rfl)
  · intro k15 hk15 E
    refine g_if_lt (pc' := 4) O ⟨dX10_checkComparator_1, rfl⟩ E (tgt := 15) (by decide) (fun E => ?_) (fun E => ?_)
    · refine g_sub (lv' := []) [] rfl ?_
      exact hk15 E
    · refine g_iload_n (pc' := 5) O ⟨dX10_checkComparator_4, rfl⟩ (q := 1) rfl rfl ?_
      refine g_aload_n (pc' := 6) O ⟨dX10_checkComparator_5, rfl⟩ (q := 0) rfl rfl ?_
      refine gf_C_RX10_10_0 ad cy (pc' := 9) O ⟨dX10_checkComparator_6, rfl⟩ ?_
      refine gf_C_RX10_75_1 ad cy (pc' := 12) O ⟨dX10_checkComparator_9, rfl⟩ ?_
      refine g_icmp_lt (pc' := 15) O ⟨dX10_checkComparator_12, rfl⟩ E (tgt := 26) (by decide) (fun E => ?_) (fun E => ?_)
      · cases E
        exact hret _ _ _ _ _ _ (Nat.le_of_ble_eq_true rfl) (Nat.le_of_ble_eq_true rfl) ⟨dX10_checkComparator_26, rfl⟩ rfl
      · refine g_sub (lv' := []) [] rfl ?_
        exact hk15 E
set_option maxRecDepth 100000 in
set_option maxHeartbeats 4000000 in
theorem t_X10_comparator (l : Launch) (D : va_G) (ad : Nat → Nat) (cy : Nat → ClassId) (hfl : l.stackTraces = false) {h : Hp} {x1 : Int32} {x2 : Int32} {o : (String × Hp) ⊕ (Int32 × Hp)} (E : f_X10_comparator h x1 x2 = some o) : CtXI l D cy (WC ad cy) yX10_comparator cX10_comparator 3 .int 9 171 2 12 [.ref (ad 0), .int x1, .int x2] h o := by
  refine sXI (own := RX10) hfl rfl rfl (Nat.le_of_ble_eq_true rfl) (Nat.le_of_ble_eq_true rfl) (Nat.le_of_ble_eq_true rfl) (fun X O hret hthr hprop => ?_)
  show G l D X 3 (WC ad cy) 0 0 h 0 [(0, .ref (ad 0)), (1, .int x1), (2, .int x2)] []
  unfold f_X10_comparator at E
  refine g_aload_n (pc' := 1) O ⟨dX10_comparator_0, rfl⟩ (q := 0) rfl rfl ?_
  refine g_iload_n (pc' := 2) O ⟨dX10_comparator_1, rfl⟩ (q := 1) rfl rfl ?_
  obtain ⟨z_9, c_2, e_10, E⟩ := bdx_of E
  refine g_XVv (pc' := 5) O ⟨dX10_comparator_2, rfl⟩ (y := yX10_checkComparator) (As := [.int x1]) (st := []) (t_X10_checkComparator l D ad cy hfl (h := h) c_2) kw_655 kw_25 kw_652 kw_654 kw_12 rfl (wC_0 ad cy h) hd_X10_checkComparator ⟨Nat.le_of_ble_eq_true rfl, Nat.le_of_ble_eq_true rfl⟩ ⟨Nat.le_of_ble_eq_true rfl, Nat.le_of_ble_eq_true rfl⟩ rfl (Nat.le_of_ble_eq_true rfl) (fun E1 h1 q => hprop _ _ _ _ _ _ _ (e_10 _ q) (Nat.le_of_ble_eq_true rfl) (Nat.le_of_ble_eq_true rfl)) (fun r_1 q => ?_)
  replace E := E _ q
  refine g_iload_n (pc' := 6) O ⟨dX10_comparator_5, rfl⟩ (q := 2) rfl rfl ?_
  refine g_tab (pc' := 36) O ⟨dX10_comparator_6, rfl⟩ (v := (0 : Int32)) (tgt := 36) E ⟨by decide, by decide, rfl, by decide⟩ (fun E => ?_) (fun n0 E => ?_)
  · refine g_aload_n (pc' := 37) O ⟨dX10_comparator_36, rfl⟩ (q := 0) rfl rfl ?_
    refine gf_C_RX10_10_0 ad cy (pc' := 40) O ⟨dX10_comparator_37, rfl⟩ ?_
    refine gf_C_RX10_152_1 ad cy (pc' := 43) O ⟨dX10_comparator_40, rfl⟩ ?_
    refine g_iload_n (pc' := 44) O ⟨dX10_comparator_43, rfl⟩ (q := 1) rfl rfl ?_
    refine g_iald (pc' := 45) O ⟨dX10_comparator_44, rfl⟩ (wC_2 ad cy r_1) E (fun E => ?_)
    cases E
    exact hret _ _ _ _ _ _ _ (Nat.le_of_ble_eq_true rfl) (Nat.le_of_ble_eq_true rfl) ⟨dX10_comparator_45, rfl⟩ rfl rfl
  refine g_tab (pc' := 36) O ⟨dX10_comparator_6, rfl⟩ (v := (1 : Int32)) (tgt := 46) E ⟨by decide, by decide, rfl, by decide⟩ (fun E => ?_) (fun n1 E => ?_)
  · refine g_aload_n (pc' := 47) O ⟨dX10_comparator_46, rfl⟩ (q := 0) rfl rfl ?_
    refine gf_C_RX10_10_0 ad cy (pc' := 50) O ⟨dX10_comparator_47, rfl⟩ ?_
    refine gf_C_RX10_156_1 ad cy (pc' := 53) O ⟨dX10_comparator_50, rfl⟩ ?_
    refine g_iload_n (pc' := 54) O ⟨dX10_comparator_53, rfl⟩ (q := 1) rfl rfl ?_
    refine g_iald (pc' := 55) O ⟨dX10_comparator_54, rfl⟩ (wC_3 ad cy r_1) E (fun E => ?_)
    cases E
    exact hret _ _ _ _ _ _ _ (Nat.le_of_ble_eq_true rfl) (Nat.le_of_ble_eq_true rfl) ⟨dX10_comparator_55, rfl⟩ rfl rfl
  refine g_tab (pc' := 36) O ⟨dX10_comparator_6, rfl⟩ (v := (2 : Int32)) (tgt := 56) E ⟨by decide, by decide, rfl, by decide⟩ (fun E => ?_) (fun n2 E => ?_)
  · refine g_aload_n (pc' := 57) O ⟨dX10_comparator_56, rfl⟩ (q := 0) rfl rfl ?_
    refine gf_C_RX10_10_0 ad cy (pc' := 60) O ⟨dX10_comparator_57, rfl⟩ ?_
    refine g_iload_n (pc' := 61) O ⟨dX10_comparator_60, rfl⟩ (q := 1) rfl rfl ?_
    obtain ⟨r_3, c_4, E⟩ := bd_of E
    refine g_Vi (pc' := 64) O ⟨dX10_comparator_61, rfl⟩ (y := yX9_layerOf) (As := [.int x1]) (st := []) (t_X9_layerOf_1 l D ad cy (h := r_1) c_4) kw_660 kw_26 kw_657 kw_658 kw_659 rfl (wC_1 ad cy r_1) hd_X9_layerOf ⟨Nat.le_of_ble_eq_true rfl, Nat.le_of_ble_eq_true rfl⟩ ⟨Nat.le_of_ble_eq_true rfl, Nat.le_of_ble_eq_true rfl⟩ rfl (Nat.le_of_ble_eq_true rfl) ?_
    cases E
    exact hret _ _ _ _ _ _ _ (Nat.le_of_ble_eq_true rfl) (Nat.le_of_ble_eq_true rfl) ⟨dX10_comparator_64, rfl⟩ rfl rfl
  refine g_tab (pc' := 36) O ⟨dX10_comparator_6, rfl⟩ (v := (3 : Int32)) (tgt := 65) E ⟨by decide, by decide, rfl, by decide⟩ (fun E => ?_) (fun n3 E => ?_)
  · refine g_aload_n (pc' := 66) O ⟨dX10_comparator_65, rfl⟩ (q := 0) rfl rfl ?_
    refine gf_C_RX10_29_0 ad cy (pc' := 69) O ⟨dX10_comparator_66, rfl⟩ ?_
    refine g_aload_n (pc' := 70) O ⟨dX10_comparator_69, rfl⟩ (q := 0) rfl rfl ?_
    refine gf_C_RX10_10_0 ad cy (pc' := 73) O ⟨dX10_comparator_70, rfl⟩ ?_
    refine g_iload_n (pc' := 74) O ⟨dX10_comparator_73, rfl⟩ (q := 1) rfl rfl ?_
    obtain ⟨r_5, c_6, E⟩ := bd_of E
    refine g_Vl (pc' := 77) O ⟨dX10_comparator_74, rfl⟩ (y := yX4_exchanging) (As := [.ref (ad 1), .int x1]) (st := []) (t_X4_exchanging_13_1 l D ad cy (h := r_1) c_6) kw_584 kw_28 kw_661 kw_582 kw_583 rfl (wC_13 ad cy r_1) hd_X4_exchanging ⟨Nat.le_of_ble_eq_true rfl, Nat.le_of_ble_eq_true rfl⟩ ⟨Nat.le_of_ble_eq_true rfl, Nat.le_of_ble_eq_true rfl⟩ rfl (Nat.le_of_ble_eq_true rfl) ?_
    obtain ⟨r_7, c_8, E⟩ := bd_of E
    refine g_Si (pc' := 80) O ⟨dX10_comparator_77, rfl⟩ (y := yJ13_bitCount_95d88) (As := [.long r_5.1]) (st := []) (t_J13_bitCount l D ad cy (h := r_5.2) c_8) kw_664 kw_43 kw_662 kw_663 hd_J13_bitCount_95d88 ⟨Nat.le_of_ble_eq_true rfl, Nat.le_of_ble_eq_true rfl⟩ ⟨Nat.le_of_ble_eq_true rfl, Nat.le_of_ble_eq_true rfl⟩ rfl (Nat.le_of_ble_eq_true rfl) ?_
    cases E
    exact hret _ _ _ _ _ _ _ (Nat.le_of_ble_eq_true rfl) (Nat.le_of_ble_eq_true rfl) ⟨dX10_comparator_80, rfl⟩ rfl rfl
  have m0 := neI (z := 0) n0 (by decide)
  have m1 := neI (z := 1) n1 (by decide)
  have m2 := neI (z := 2) n2 (by decide)
  have m3 := neI (z := 3) n3 (by decide)
  refine g_tabD (pc' := 36) O ⟨dX10_comparator_6, rfl⟩ (tgt := 81) (by omega) (by decide) ?_
  cases E
  exact hthr _ _ _ _ _ _ _ _ _ _ _ ⟨thc_RX10_68, sr_173, dX10_comparator_81, dX10_comparator_84, Or.inl ⟨dX10_comparator_85, dX10_comparator_87, dX10_comparator_90⟩⟩ rfl (Nat.le_of_ble_eq_true rfl) (Nat.le_of_ble_eq_true rfl) (Nat.le_of_ble_eq_true rfl)
set_option maxRecDepth 100000 in
set_option maxHeartbeats 4000000 in
theorem t_X10_checkPlace (l : Launch) (D : va_G) (ad : Nat → Nat) (cy : Nat → ClassId) (hfl : l.stackTraces = false) {h : Hp} {x0 : Int32} {o : (String × Hp) ⊕ Hp} (E : f_X10_checkPlace h x0 = some o) : CtXV l D cy (WC ad cy) yX10_checkPlace cX10_checkPlace 1 8 150 1 6 [.int x0] h o := by
  refine sXV (own := RX10) hfl rfl rfl (Nat.le_of_ble_eq_true rfl) (Nat.le_of_ble_eq_true rfl) (Nat.le_of_ble_eq_true rfl) (fun X O hret hthr hprop => ?_)
  show G l D X 1 (WC ad cy) 0 0 h 0 [(0, .int x0)] []
  unfold f_X10_checkPlace at E
  refine g_iload_n (pc' := 1) O ⟨dX10_checkPlace_0, rfl⟩ (q := 0) rfl rfl ?_
  refine g_if_ge (pc' := 4) O ⟨dX10_checkPlace_1, rfl⟩ E (tgt := 15) (by decide) (fun E => ?_) (fun E => ?_)
  · cases E
    exact hret _ _ _ _ _ _ (Nat.le_of_ble_eq_true rfl) (Nat.le_of_ble_eq_true rfl) ⟨dX10_checkPlace_15, rfl⟩ rfl
  · cases E
    exact hthr _ _ _ _ _ _ _ _ _ _ _ ⟨thc_RX10_247, sr_343, dX10_checkPlace_4, dX10_checkPlace_7, Or.inr ⟨dX10_checkPlace_8, dX10_checkPlace_11, dX10_checkPlace_14⟩⟩ rfl (Nat.le_of_ble_eq_true rfl) (Nat.le_of_ble_eq_true rfl) (Nat.le_of_ble_eq_true rfl)
set_option maxRecDepth 100000 in
set_option maxHeartbeats 4000000 in
theorem t_X10_textAt (l : Launch) (D : va_G) (ad : Nat → Nat) (cy : Nat → ClassId) (hfl : l.stackTraces = false) {h : Hp} {x1 : Int32} {o : (String × Hp) ⊕ (Int32 × Hp)} (E : f_X10_textAt h x1 = some o) : CtXI l D cy (WC ad cy) yX10_textAt cX10_textAt 2 .char 9 170 1 6 [.ref (ad 0), .int x1] h o := by
  refine sXI (own := RX10) hfl rfl rfl (Nat.le_of_ble_eq_true rfl) (Nat.le_of_ble_eq_true rfl) (Nat.le_of_ble_eq_true rfl) (fun X O hret hthr hprop => ?_)
  show G l D X 2 (WC ad cy) 0 0 h 0 [(0, .ref (ad 0)), (1, .int x1)] []
  unfold f_X10_textAt at E
  refine g_iload_n (pc' := 1) O ⟨dX10_textAt_0, rfl⟩ (q := 1) rfl rfl ?_
  obtain ⟨z_5, c_2, e_6, E⟩ := bdx_of E
  refine g_XSv (pc' := 4) O ⟨dX10_textAt_1, rfl⟩ (y := yX10_checkPlace) (As := [.int x1]) (st := []) (t_X10_checkPlace l D ad cy hfl (h := h) c_2) kw_619 kw_25 kw_617 kw_618 hd_X10_checkPlace ⟨Nat.le_of_ble_eq_true rfl, Nat.le_of_ble_eq_true rfl⟩ ⟨Nat.le_of_ble_eq_true rfl, Nat.le_of_ble_eq_true rfl⟩ rfl (Nat.le_of_ble_eq_true rfl) (fun E1 h1 q => hprop _ _ _ _ _ _ _ (e_6 _ q) (Nat.le_of_ble_eq_true rfl) (Nat.le_of_ble_eq_true rfl)) (fun r_1 q => ?_)
  replace E := E _ q
  refine g_aload_n (pc' := 5) O ⟨dX10_textAt_4, rfl⟩ (q := 0) rfl rfl ?_
  refine gf_C_RX10_10_0 ad cy (pc' := 8) O ⟨dX10_textAt_5, rfl⟩ ?_
  refine g_iload_n (pc' := 9) O ⟨dX10_textAt_8, rfl⟩ (q := 1) rfl rfl ?_
  obtain ⟨r_3, c_4, E⟩ := bd_of E
  refine g_Vi (pc' := 12) O ⟨dX10_textAt_9, rfl⟩ (y := yX9_signAt) (As := [.int x1]) (st := []) (t_X9_signAt_1 l D ad cy (h := r_1) c_4) kw_624 kw_26 kw_621 kw_622 kw_623 rfl (wC_1 ad cy r_1) hd_X9_signAt ⟨Nat.le_of_ble_eq_true rfl, Nat.le_of_ble_eq_true rfl⟩ ⟨Nat.le_of_ble_eq_true rfl, Nat.le_of_ble_eq_true rfl⟩ rfl (Nat.le_of_ble_eq_true rfl) ?_
  obtain ⟨hn, E⟩ := ckc_of E
  cases E
  exact hret _ _ _ _ _ _ _ (Nat.le_of_ble_eq_true rfl) (Nat.le_of_ble_eq_true rfl) ⟨dX10_textAt_12, rfl⟩ hn rfl
set_option maxRecDepth 100000 in
set_option maxHeartbeats 4000000 in
theorem t_X10_type (l : Launch) (D : va_G) (ad : Nat → Nat) (cy : Nat → ClassId) (hfl : l.stackTraces = false) {h : Hp} {x1 : Int64} {x3 : Int32} {o : (String × Hp) ⊕ (Int32 × Hp)} (E : f_X10_type h x1 x3 = some o) : CtXI l D cy (WC ad cy) yX10_type cX10_type 5 .int 8 150 1 6 [.ref (ad 0), .long x1, .int x3] h o := by
  refine sXI (own := RX10) hfl rfl rfl (Nat.le_of_ble_eq_true rfl) (Nat.le_of_ble_eq_true rfl) (Nat.le_of_ble_eq_true rfl) (fun X O hret hthr hprop => ?_)
  show G l D X 5 (WC ad cy) 0 0 h 0 [(0, .ref (ad 0)), (1, .long x1), (3, .int x3)] []
  unfold f_X10_type at E
  refine g_iload_n (pc' := 1) O ⟨dX10_type_0, rfl⟩ (q := 2) rfl rfl ?_
  refine g_iconst (pc' := 2) O ⟨dX10_type_1, rfl⟩ (v := (1 : Int32)) rfl ?_
  refine jn0_of (P := G l D X 5 (WC ad cy) 0 0 h 11 [] []) E ?_ ?_
  · intro E
    show G l D X 5 (WC ad cy) 0 0 h 11 [] []
    cases E
    exact hthr _ _ _ _ _ _ _ _ _ _ _ ⟨thc_RX10_68, sr_182, dX10_type_11, dX10_type_14, Or.inl ⟨dX10_type_15, dX10_type_17, dX10_type_20⟩⟩ rfl (Nat.le_of_ble_eq_true rfl) (Nat.le_of_ble_eq_true rfl) (Nat.le_of_ble_eq_true rfl)
  · intro k11 hk11 E
    refine g_icmp_lt (pc' := 5) O ⟨dX10_type_2, rfl⟩ E (tgt := 11) (by decide) (fun E => ?_) (fun E => ?_)
    · refine g_sub (lv' := []) [] rfl ?_
      exact hk11 E
    · refine g_iload_n (pc' := 6) O ⟨dX10_type_5, rfl⟩ (q := 2) rfl rfl ?_
      refine g_bipush (pc' := 8) O ⟨dX10_type_6, rfl⟩ (v := (8 : Int32)) rfl ?_
      refine g_icmp_le (pc' := 11) O ⟨dX10_type_8, rfl⟩ E (tgt := 21) (by decide) (fun E => ?_) (fun E => ?_)
      · refine g_iconst (pc' := 22) O ⟨dX10_type_21, rfl⟩ (v := (0 : Int32)) rfl ?_
        refine g_istore (pc' := 24) O ⟨dX10_type_22, rfl⟩ (lv' := [(4, .int (0 : Int32)), (0, .ref (ad 0)), (1, .long x1), (3, .int x3)]) (by decide) rfl ?_
        refine jn0_of (P := G l D X 5 (WC ad cy) 0 0 h 58 [(0, .ref (ad 0)), (1, .long x1), (3, .int x3)] []) E ?_ ?_
        · intro E
          show G l D X 5 (WC ad cy) 0 0 h 58 [(0, .ref (ad 0)), (1, .long x1), (3, .int x3)] []
          refine g_aload_n (pc' := 59) O ⟨dX10_type_58, rfl⟩ (q := 0) rfl rfl ?_
          refine gf_C_RX10_22_0 ad cy (pc' := 62) O ⟨dX10_type_59, rfl⟩ ?_
          refine gf_C_RX10_194_11 ad cy (pc' := 65) O ⟨dX10_type_62, rfl⟩ ?_
          refine g_bipush (pc' := 67) O ⟨dX10_type_65, rfl⟩ (v := (40 : Int32)) rfl ?_
          refine g_iload_n (pc' := 68) O ⟨dX10_type_67, rfl⟩ (q := 2) rfl rfl ?_
          refine g_isub (pc' := 69) O ⟨dX10_type_68, rfl⟩ ?_
          refine g_icmp_le (pc' := 72) O ⟨dX10_type_69, rfl⟩ E (tgt := 82) (by decide) (fun E => ?_) (fun E => ?_)
          · refine g_iconst (pc' := 83) O ⟨dX10_type_82, rfl⟩ (v := (0 : Int32)) rfl ?_
            refine g_istore (pc' := 85) O ⟨dX10_type_83, rfl⟩ (lv' := [(4, .int (0 : Int32)), (0, .ref (ad 0)), (1, .long x1), (3, .int x3)]) (by decide) rfl ?_
            refine jn1_of (P := fun (h_1 : Hp) => G l D X 5 (WC ad cy) 0 0 h_1 110 [(0, .ref (ad 0))] []) E ?_ ?_
            · intro h_1 E
              show G l D X 5 (WC ad cy) 0 0 h_1 110 [(0, .ref (ad 0))] []
              refine g_aload_n (pc' := 111) O ⟨dX10_type_110, rfl⟩ (q := 0) rfl rfl ?_
              refine gf_C_RX10_22_0 ad cy (pc' := 114) O ⟨dX10_type_111, rfl⟩ ?_
              refine gf_C_RX10_194_11 ad cy (pc' := 117) O ⟨dX10_type_114, rfl⟩ ?_
              cases E
              exact hret _ _ _ _ _ _ _ (Nat.le_of_ble_eq_true rfl) (Nat.le_of_ble_eq_true rfl) ⟨dX10_type_117, rfl⟩ rfl rfl
            · intro k110 hk110 E
              refine g_sub (lv' := [(0, .ref (ad 0)), (1, .long x1), (3, .int x3), (4, .int (0 : Int32))]) [1, 2, 3, 0] rfl ?_
              refine fx2_of (P := fun (x4_2 : Int32) (h_3 : Hp) => G l D X 5 (WC ad cy) 0 0 h_3 85 [(0, .ref (ad 0)), (1, .long x1), (3, .int x3), (4, .int x4_2)] []) ?_ _ _ _ E
              intro self ih85 x4_2 h_3 E
              show G l D X 5 (WC ad cy) 0 0 h_3 85 [(0, .ref (ad 0)), (1, .long x1), (3, .int x3), (4, .int x4_2)] []
              unfold L_X10_type_85 at E
              refine g_iload (pc' := 87) O ⟨dX10_type_85, rfl⟩ (q := 3) rfl ?_
              refine g_iload_n (pc' := 88) O ⟨dX10_type_87, rfl⟩ (q := 2) rfl rfl ?_
              refine g_icmp_ge (pc' := 91) O ⟨dX10_type_88, rfl⟩ E (tgt := 110) (by decide) (fun E => ?_) (fun E => ?_)
              · refine g_sub (lv' := [(0, .ref (ad 0))]) [0] rfl ?_
                exact hk110 _ E
              · refine g_aload_n (pc' := 92) O ⟨dX10_type_91, rfl⟩ (q := 0) rfl rfl ?_
                refine gf_C_RX10_22_0 ad cy (pc' := 95) O ⟨dX10_type_92, rfl⟩ ?_
                refine g_lload_n (pc' := 96) O ⟨dX10_type_95, rfl⟩ (q := 1) rfl rfl ?_
                refine g_iload (pc' := 98) O ⟨dX10_type_96, rfl⟩ (q := 3) rfl ?_
                obtain ⟨r_4, c_5, E⟩ := bd_of E
                refine g_Si (pc' := 101) O ⟨dX10_type_98, rfl⟩ (y := yX8_signIn) (As := [.long x1, .int x4_2]) (st := [.ref (ad 11)]) (t_X8_signIn l D ad cy (h := h_3) c_5) kw_485 kw_27 kw_483 kw_484 hd_X8_signIn ⟨Nat.le_of_ble_eq_true rfl, Nat.le_of_ble_eq_true rfl⟩ ⟨Nat.le_of_ble_eq_true rfl, Nat.le_of_ble_eq_true rfl⟩ rfl (Nat.le_of_ble_eq_true rfl) ?_
                obtain ⟨r_6, c_7, E⟩ := bd_of E
                refine g_Vv (pc' := 104) O ⟨dX10_type_101, rfl⟩ (y := yX8_put) (As := [.int r_4]) (st := []) (t_X8_put_11 l D ad cy (h := h_3) c_7) kw_495 kw_27 kw_492 kw_493 kw_494 rfl (wC_11 ad cy h_3) hd_X8_put ⟨Nat.le_of_ble_eq_true rfl, Nat.le_of_ble_eq_true rfl⟩ ⟨Nat.le_of_ble_eq_true rfl, Nat.le_of_ble_eq_true rfl⟩ rfl (Nat.le_of_ble_eq_true rfl) ?_
                refine g_iinc (pc' := 107) O ⟨dX10_type_104, rfl⟩ (q := 3) (v := x4_2 + (1 : Int32)) (lv' := [(4, .int (x4_2 + (1 : Int32))), (0, .ref (ad 0)), (1, .long x1), (3, .int x3)]) rfl rfl (by decide) rfl ?_
                refine g_goto (pc' := 110) O ⟨dX10_type_107, rfl⟩ (tgt := 85) (by decide) ?_
                refine g_sub (lv' := [(0, .ref (ad 0)), (1, .long x1), (3, .int x3), (4, .int (x4_2 + (1 : Int32)))]) [1, 2, 3, 0] rfl ?_
                exact ih85 _ _ E
          · cases E
            exact hthr _ _ _ _ _ _ _ _ _ _ _ ⟨thc_RX10_99, sr_197, dX10_type_72, dX10_type_75, Or.inl ⟨dX10_type_76, dX10_type_78, dX10_type_81⟩⟩ rfl (Nat.le_of_ble_eq_true rfl) (Nat.le_of_ble_eq_true rfl) (Nat.le_of_ble_eq_true rfl)
        · intro k58 hk58 E
          refine jn0_of (P := G l D X 5 (WC ad cy) 0 0 h 42 [] []) E ?_ ?_
          · intro E
            show G l D X 5 (WC ad cy) 0 0 h 42 [] []
            cases E
            exact hthr _ _ _ _ _ _ _ _ _ _ _ ⟨thc_RX10_68, sr_192, dX10_type_42, dX10_type_45, Or.inl ⟨dX10_type_46, dX10_type_48, dX10_type_51⟩⟩ rfl (Nat.le_of_ble_eq_true rfl) (Nat.le_of_ble_eq_true rfl) (Nat.le_of_ble_eq_true rfl)
          · intro k42 hk42 E
            refine g_sub (lv' := [(0, .ref (ad 0)), (1, .long x1), (3, .int x3), (4, .int (0 : Int32))]) [1, 2, 3, 0] rfl ?_
            refine fx1_of (P := fun (x4_8 : Int32) => G l D X 5 (WC ad cy) 0 0 h 24 [(0, .ref (ad 0)), (1, .long x1), (3, .int x3), (4, .int x4_8)] []) ?_ _ _ E
            intro self ih24 x4_8 E
            show G l D X 5 (WC ad cy) 0 0 h 24 [(0, .ref (ad 0)), (1, .long x1), (3, .int x3), (4, .int x4_8)] []
            unfold L_X10_type_24 at E
            refine g_iload (pc' := 26) O ⟨dX10_type_24, rfl⟩ (q := 3) rfl ?_
            refine g_iload_n (pc' := 27) O ⟨dX10_type_26, rfl⟩ (q := 2) rfl rfl ?_
            refine g_icmp_ge (pc' := 30) O ⟨dX10_type_27, rfl⟩ E (tgt := 58) (by decide) (fun E => ?_) (fun E => ?_)
            · refine g_sub (lv' := [(0, .ref (ad 0)), (1, .long x1), (3, .int x3)]) [0, 1, 2] rfl ?_
              exact hk58 E
            · refine g_lload_n (pc' := 31) O ⟨dX10_type_30, rfl⟩ (q := 1) rfl rfl ?_
              refine g_iload (pc' := 33) O ⟨dX10_type_31, rfl⟩ (q := 3) rfl ?_
              obtain ⟨r_9, c_10, E⟩ := bd_of E
              refine g_Si (pc' := 36) O ⟨dX10_type_33, rfl⟩ (y := yX8_signIn) (As := [.long x1, .int x4_8]) (st := []) (t_X8_signIn l D ad cy (h := h) c_10) kw_485 kw_27 kw_483 kw_484 hd_X8_signIn ⟨Nat.le_of_ble_eq_true rfl, Nat.le_of_ble_eq_true rfl⟩ ⟨Nat.le_of_ble_eq_true rfl, Nat.le_of_ble_eq_true rfl⟩ rfl (Nat.le_of_ble_eq_true rfl) ?_
              obtain ⟨r_11, c_12, E⟩ := bd_of E
              refine g_Si (pc' := 39) O ⟨dX10_type_36, rfl⟩ (y := yX8_takes) (As := [.int r_9]) (st := []) (t_X8_takes l D ad cy (h := h) c_12) kw_489 kw_27 kw_487 kw_488 hd_X8_takes ⟨Nat.le_of_ble_eq_true rfl, Nat.le_of_ble_eq_true rfl⟩ ⟨Nat.le_of_ble_eq_true rfl, Nat.le_of_ble_eq_true rfl⟩ rfl (Nat.le_of_ble_eq_true rfl) ?_
              refine g_if_ne (pc' := 42) O ⟨dX10_type_39, rfl⟩ E (tgt := 52) (by decide) (fun E => ?_) (fun E => ?_)
              · refine g_iinc (pc' := 55) O ⟨dX10_type_52, rfl⟩ (q := 3) (v := x4_8 + (1 : Int32)) (lv' := [(4, .int (x4_8 + (1 : Int32))), (0, .ref (ad 0)), (1, .long x1), (3, .int x3)]) rfl rfl (by decide) rfl ?_
                refine g_goto (pc' := 58) O ⟨dX10_type_55, rfl⟩ (tgt := 24) (by decide) ?_
                refine g_sub (lv' := [(0, .ref (ad 0)), (1, .long x1), (3, .int x3), (4, .int (x4_8 + (1 : Int32)))]) [1, 2, 3, 0] rfl ?_
                exact ih24 _ E
              · refine g_sub (lv' := []) [] rfl ?_
                exact hk42 E
      · refine g_sub (lv' := []) [] rfl ?_
        exact hk11 E
set_option maxRecDepth 100000 in
set_option maxHeartbeats 4000000 in
theorem t_X10_build (l : Launch) (D : va_G) (ad : Nat → Nat) (cy : Nat → ClassId) (hfl : l.stackTraces = false) {h : Hp}  {o : (String × Hp) ⊕ (Int32 × Hp)} (E : f_X10_build h = some o) : CtXI l D cy (WC ad cy) yX10_build cX10_build 2 .int 10 192 2 12 [.ref (ad 0)] h o := by
  refine sXI (own := RX10) hfl rfl rfl (Nat.le_of_ble_eq_true rfl) (Nat.le_of_ble_eq_true rfl) (Nat.le_of_ble_eq_true rfl) (fun X O hret hthr hprop => ?_)
  show G l D X 2 (WC ad cy) 0 0 h 0 [(0, .ref (ad 0))] []
  unfold f_X10_build at E
  refine g_aload_n (pc' := 1) O ⟨dX10_build_0, rfl⟩ (q := 0) rfl rfl ?_
  refine gf_C_RX10_22_0 ad cy (pc' := 4) O ⟨dX10_build_1, rfl⟩ ?_
  refine g_aload_n (pc' := 5) O ⟨dX10_build_4, rfl⟩ (q := 0) rfl rfl ?_
  refine gf_C_RX10_10_0 ad cy (pc' := 8) O ⟨dX10_build_5, rfl⟩ ?_
  refine gf_C_RX10_109_1 ad cy (pc' := 11) O ⟨dX10_build_8, rfl⟩ ?_
  obtain ⟨r_1, c_2, E⟩ := bd_of E
  refine g_Vi (pc' := 14) O ⟨dX10_build_11, rfl⟩ (y := yX8_faultFor) (As := [.int (h.1 1 0)]) (st := []) (t_X8_faultFor_11 l D ad cy (h := h) c_2) kw_503 kw_27 kw_500 kw_501 kw_502 rfl (wC_11 ad cy h) hd_X8_faultFor ⟨Nat.le_of_ble_eq_true rfl, Nat.le_of_ble_eq_true rfl⟩ ⟨Nat.le_of_ble_eq_true rfl, Nat.le_of_ble_eq_true rfl⟩ rfl (Nat.le_of_ble_eq_true rfl) ?_
  refine g_iconst (pc' := 15) O ⟨dX10_build_14, rfl⟩ (v := (-1 : Int32)) rfl ?_
  refine g_icmp_eq (pc' := 18) O ⟨dX10_build_15, rfl⟩ E (tgt := 28) (by decide) (fun E => ?_) (fun E => ?_)
  · refine g_aload_n (pc' := 29) O ⟨dX10_build_28, rfl⟩ (q := 0) rfl rfl ?_
    refine gf_C_RX10_16_0 ad cy (pc' := 32) O ⟨dX10_build_29, rfl⟩ ?_
    refine g_aload_n (pc' := 33) O ⟨dX10_build_32, rfl⟩ (q := 0) rfl rfl ?_
    refine gf_C_RX10_10_0 ad cy (pc' := 36) O ⟨dX10_build_33, rfl⟩ ?_
    refine gf_C_RX10_109_1 ad cy (pc' := 39) O ⟨dX10_build_36, rfl⟩ ?_
    obtain ⟨r_3, c_4, E⟩ := bd_of E
    refine g_Vv (pc' := 42) O ⟨dX10_build_39, rfl⟩ (y := yX9_begin) (As := [.int (h.1 1 0)]) (st := []) (t_X9_begin_6 l D ad cy (h := h) c_4) kw_328 kw_26 kw_325 kw_326 kw_327 rfl (wC_6 ad cy h) hd_X9_begin ⟨Nat.le_of_ble_eq_true rfl, Nat.le_of_ble_eq_true rfl⟩ ⟨Nat.le_of_ble_eq_true rfl, Nat.le_of_ble_eq_true rfl⟩ rfl (Nat.le_of_ble_eq_true rfl) ?_
    refine g_aload_n (pc' := 43) O ⟨dX10_build_42, rfl⟩ (q := 0) rfl rfl ?_
    refine gf_C_RX10_22_0 ad cy (pc' := 46) O ⟨dX10_build_43, rfl⟩ ?_
    refine g_aload_n (pc' := 47) O ⟨dX10_build_46, rfl⟩ (q := 0) rfl rfl ?_
    refine gf_C_RX10_16_0 ad cy (pc' := 50) O ⟨dX10_build_47, rfl⟩ ?_
    obtain ⟨r_5, c_6, E⟩ := bd_of E
    refine g_Vv (pc' := 53) O ⟨dX10_build_50, rfl⟩ (y := yX8_layOn) (As := [.ref (ad 6)]) (st := []) (t_X8_layOn_11_6 l D ad cy (h := r_3) c_6) kw_508 kw_27 kw_505 kw_506 kw_507 rfl (wC_11 ad cy r_3) hd_X8_layOn ⟨Nat.le_of_ble_eq_true rfl, Nat.le_of_ble_eq_true rfl⟩ ⟨Nat.le_of_ble_eq_true rfl, Nat.le_of_ble_eq_true rfl⟩ rfl (Nat.le_of_ble_eq_true rfl) ?_
    refine g_aload_n (pc' := 54) O ⟨dX10_build_53, rfl⟩ (q := 0) rfl rfl ?_
    obtain ⟨z_11, c_8, e_12, E⟩ := bdx_of E
    refine g_XVi (pc' := 57) O ⟨dX10_build_54, rfl⟩ (y := yX10_appendPlan) (As := []) (st := []) (t_X10_appendPlan l D ad cy hfl (h := r_5) c_8) kw_477 kw_25 kw_474 kw_476 kw_7 rfl (wC_0 ad cy r_5) hd_X10_appendPlan ⟨Nat.le_of_ble_eq_true rfl, Nat.le_of_ble_eq_true rfl⟩ ⟨Nat.le_of_ble_eq_true rfl, Nat.le_of_ble_eq_true rfl⟩ rfl (Nat.le_of_ble_eq_true rfl) (fun E1 h1 q => hprop _ _ _ _ _ _ _ (e_12 _ q) (Nat.le_of_ble_eq_true rfl) (Nat.le_of_ble_eq_true rfl)) (fun r_7 q => ?_)
    replace E := E _ q
    refine g_istore_n (pc' := 58) O ⟨dX10_build_57, rfl⟩ (lv' := [(1, .int r_7.1), (0, .ref (ad 0))]) rfl (by decide) rfl ?_
    refine g_aload_n (pc' := 59) O ⟨dX10_build_58, rfl⟩ (q := 1) rfl rfl ?_
    refine gf_C_RX10_22_0 ad cy (pc' := 62) O ⟨dX10_build_59, rfl⟩ ?_
    obtain ⟨r_9, c_10, E⟩ := bd_of E
    refine g_Vv (pc' := 65) O ⟨dX10_build_62, rfl⟩ (y := yX8_empty) (As := []) (st := []) (t_X8_empty_11 l D ad cy (h := r_7.2) c_10) kw_352 kw_27 kw_349 kw_350 kw_351 rfl (wC_11 ad cy r_7.2) hd_X8_empty ⟨Nat.le_of_ble_eq_true rfl, Nat.le_of_ble_eq_true rfl⟩ ⟨Nat.le_of_ble_eq_true rfl, Nat.le_of_ble_eq_true rfl⟩ rfl (Nat.le_of_ble_eq_true rfl) ?_
    refine g_iload_n (pc' := 66) O ⟨dX10_build_65, rfl⟩ (q := 0) rfl rfl ?_
    cases E
    exact hret _ _ _ _ _ _ _ (Nat.le_of_ble_eq_true rfl) (Nat.le_of_ble_eq_true rfl) ⟨dX10_build_66, rfl⟩ rfl rfl
  · cases E
    exact hthr _ _ _ _ _ _ _ _ _ _ _ ⟨thc_RX10_68, sr_209, dX10_build_18, dX10_build_21, Or.inl ⟨dX10_build_22, dX10_build_24, dX10_build_27⟩⟩ rfl (Nat.le_of_ble_eq_true rfl) (Nat.le_of_ble_eq_true rfl) (Nat.le_of_ble_eq_true rfl)
set_option maxRecDepth 100000 in
set_option maxHeartbeats 4000000 in
theorem t_X10_rowOf (l : Launch) (D : va_G) (ad : Nat → Nat) (cy : Nat → ClassId) (hfl : l.stackTraces = false) {h : Hp} {x1 : Int32} {o : (String × Hp) ⊕ (Int32 × Hp)} (E : f_X10_rowOf h x1 = some o) : CtXI l D cy (WC ad cy) yX10_rowOf cX10_rowOf 3 .int 8 150 1 6 [.ref (ad 0), .int x1] h o := by
  refine sXI (own := RX10) hfl rfl rfl (Nat.le_of_ble_eq_true rfl) (Nat.le_of_ble_eq_true rfl) (Nat.le_of_ble_eq_true rfl) (fun X O hret hthr hprop => ?_)
  show G l D X 3 (WC ad cy) 0 0 h 0 [(0, .ref (ad 0)), (1, .int x1)] []
  unfold f_X10_rowOf at E
  refine g_iload_n (pc' := 1) O ⟨dX10_rowOf_0, rfl⟩ (q := 1) rfl rfl ?_
  refine g_aload_n (pc' := 2) O ⟨dX10_rowOf_1, rfl⟩ (q := 0) rfl rfl ?_
  refine gf_C_RX10_10_0 ad cy (pc' := 5) O ⟨dX10_rowOf_2, rfl⟩ ?_
  refine gf_C_RX10_109_1 ad cy (pc' := 8) O ⟨dX10_rowOf_5, rfl⟩ ?_
  obtain ⟨r_1, c_2, E⟩ := bd_of E
  refine g_Si (pc' := 11) O ⟨dX10_rowOf_8, rfl⟩ (y := yX5_ofCode) (As := [.int x1, .int (h.1 1 0)]) (st := []) (t_X5_ofCode l D ad cy (h := h) c_2) kw_529 kw_41 kw_527 kw_528 hd_X5_ofCode ⟨Nat.le_of_ble_eq_true rfl, Nat.le_of_ble_eq_true rfl⟩ ⟨Nat.le_of_ble_eq_true rfl, Nat.le_of_ble_eq_true rfl⟩ rfl (Nat.le_of_ble_eq_true rfl) ?_
  refine g_istore_n (pc' := 12) O ⟨dX10_rowOf_11, rfl⟩ (lv' := [(2, .int r_1), (0, .ref (ad 0)), (1, .int x1)]) rfl (by decide) rfl ?_
  refine g_iload_n (pc' := 13) O ⟨dX10_rowOf_12, rfl⟩ (q := 0) rfl rfl ?_
  refine g_iconst (pc' := 14) O ⟨dX10_rowOf_13, rfl⟩ (v := (-1 : Int32)) rfl ?_
  refine g_icmp_ne (pc' := 17) O ⟨dX10_rowOf_14, rfl⟩ E (tgt := 28) (by decide) (fun E => ?_) (fun E => ?_)
  · refine g_iload_n (pc' := 29) O ⟨dX10_rowOf_28, rfl⟩ (q := 0) rfl rfl ?_
    cases E
    exact hret _ _ _ _ _ _ _ (Nat.le_of_ble_eq_true rfl) (Nat.le_of_ble_eq_true rfl) ⟨dX10_rowOf_29, rfl⟩ rfl rfl
  · cases E
    exact hthr _ _ _ _ _ _ _ _ _ _ _ ⟨thc_RX10_68, sr_352, dX10_rowOf_17, dX10_rowOf_20, Or.inr ⟨dX10_rowOf_21, dX10_rowOf_24, dX10_rowOf_27⟩⟩ rfl (Nat.le_of_ble_eq_true rfl) (Nat.le_of_ble_eq_true rfl) (Nat.le_of_ble_eq_true rfl)
set_option maxRecDepth 100000 in
set_option maxHeartbeats 4000000 in
theorem t_X10_run (l : Launch) (D : va_G) (ad : Nat → Nat) (cy : Nat → ClassId) (hfl : l.stackTraces = false) {h : Hp} {x1 : Int32} {o : (String × Hp) ⊕ (Int32 × Hp)} (E : f_X10_run h x1 = some o) : CtXI l D cy (WC ad cy) yX10_run cX10_run 3 .int 9 172 1 6 [.ref (ad 0), .int x1] h o := by
  refine sXI (own := RX10) hfl rfl rfl (Nat.le_of_ble_eq_true rfl) (Nat.le_of_ble_eq_true rfl) (Nat.le_of_ble_eq_true rfl) (fun X O hret hthr hprop => ?_)
  show G l D X 3 (WC ad cy) 0 0 h 0 [(0, .ref (ad 0)), (1, .int x1)] []
  unfold f_X10_run at E
  refine g_aload_n (pc' := 1) O ⟨dX10_run_0, rfl⟩ (q := 0) rfl rfl ?_
  refine g_iload_n (pc' := 2) O ⟨dX10_run_1, rfl⟩ (q := 1) rfl rfl ?_
  obtain ⟨z_7, c_2, e_8, E⟩ := bdx_of E
  refine g_XVi (pc' := 5) O ⟨dX10_run_2, rfl⟩ (y := yX10_rowOf) (As := [.int x1]) (st := []) (t_X10_rowOf l D ad cy hfl (h := h) c_2) kw_526 kw_25 kw_523 kw_525 kw_8 rfl (wC_0 ad cy h) hd_X10_rowOf ⟨Nat.le_of_ble_eq_true rfl, Nat.le_of_ble_eq_true rfl⟩ ⟨Nat.le_of_ble_eq_true rfl, Nat.le_of_ble_eq_true rfl⟩ rfl (Nat.le_of_ble_eq_true rfl) (fun E1 h1 q => hprop _ _ _ _ _ _ _ (e_8 _ q) (Nat.le_of_ble_eq_true rfl) (Nat.le_of_ble_eq_true rfl)) (fun r_1 q => ?_)
  replace E := E _ q
  refine g_istore_n (pc' := 6) O ⟨dX10_run_5, rfl⟩ (lv' := [(2, .int r_1.1), (0, .ref (ad 0)), (1, .int x1)]) rfl (by decide) rfl ?_
  refine g_aload_n (pc' := 7) O ⟨dX10_run_6, rfl⟩ (q := 1) rfl rfl ?_
  refine gf_C_RX10_10_0 ad cy (pc' := 10) O ⟨dX10_run_7, rfl⟩ ?_
  refine g_iload_n (pc' := 11) O ⟨dX10_run_10, rfl⟩ (q := 0) rfl rfl ?_
  obtain ⟨r_3, c_4, E⟩ := bd_of E
  refine g_Vi (pc' := 14) O ⟨dX10_run_11, rfl⟩ (y := yX9_sent) (As := [.int r_1.1]) (st := []) (t_X9_sent_1 l D ad cy (h := r_1.2) c_4) kw_534 kw_26 kw_531 kw_532 kw_533 rfl (wC_1 ad cy r_1.2) hd_X9_sent ⟨Nat.le_of_ble_eq_true rfl, Nat.le_of_ble_eq_true rfl⟩ ⟨Nat.le_of_ble_eq_true rfl, Nat.le_of_ble_eq_true rfl⟩ rfl (Nat.le_of_ble_eq_true rfl) ?_
  refine g_aload_n (pc' := 15) O ⟨dX10_run_14, rfl⟩ (q := 1) rfl rfl ?_
  refine gf_C_RX10_10_0 ad cy (pc' := 18) O ⟨dX10_run_15, rfl⟩ ?_
  refine gf_C_RX10_109_1 ad cy (pc' := 21) O ⟨dX10_run_18, rfl⟩ ?_
  obtain ⟨r_5, c_6, E⟩ := bd_of E
  refine g_Si (pc' := 24) O ⟨dX10_run_21, rfl⟩ (y := yX5_toCode) (As := [.int r_3, .int (r_1.2.1 1 0)]) (st := []) (t_X5_toCode l D ad cy (h := r_1.2) c_6) kw_544 kw_41 kw_542 kw_543 hd_X5_toCode ⟨Nat.le_of_ble_eq_true rfl, Nat.le_of_ble_eq_true rfl⟩ ⟨Nat.le_of_ble_eq_true rfl, Nat.le_of_ble_eq_true rfl⟩ rfl (Nat.le_of_ble_eq_true rfl) ?_
  cases E
  exact hret _ _ _ _ _ _ _ (Nat.le_of_ble_eq_true rfl) (Nat.le_of_ble_eq_true rfl) ⟨dX10_run_24, rfl⟩ rfl rfl
set_option maxRecDepth 100000 in
set_option maxHeartbeats 4000000 in
theorem t_X10_wrong (l : Launch) (D : va_G) (ad : Nat → Nat) (cy : Nat → ClassId) (hfl : l.stackTraces = false) {h : Hp} {x1 : Int32} {o : (String × Hp) ⊕ (Int32 × Hp)} (E : f_X10_wrong h x1 = some o) : CtXI l D cy (WC ad cy) yX10_wrong cX10_wrong 2 .int 9 170 1 6 [.ref (ad 0), .int x1] h o := by
  refine sXI (own := RX10) hfl rfl rfl (Nat.le_of_ble_eq_true rfl) (Nat.le_of_ble_eq_true rfl) (Nat.le_of_ble_eq_true rfl) (fun X O hret hthr hprop => ?_)
  show G l D X 2 (WC ad cy) 0 0 h 0 [(0, .ref (ad 0)), (1, .int x1)] []
  unfold f_X10_wrong at E
  refine g_iload_n (pc' := 1) O ⟨dX10_wrong_0, rfl⟩ (q := 1) rfl rfl ?_
  obtain ⟨z_7, c_2, e_8, E⟩ := bdx_of E
  refine g_XSv (pc' := 4) O ⟨dX10_wrong_1, rfl⟩ (y := yX10_checkPlace) (As := [.int x1]) (st := []) (t_X10_checkPlace l D ad cy hfl (h := h) c_2) kw_619 kw_25 kw_617 kw_618 hd_X10_checkPlace ⟨Nat.le_of_ble_eq_true rfl, Nat.le_of_ble_eq_true rfl⟩ ⟨Nat.le_of_ble_eq_true rfl, Nat.le_of_ble_eq_true rfl⟩ rfl (Nat.le_of_ble_eq_true rfl) (fun E1 h1 q => hprop _ _ _ _ _ _ _ (e_8 _ q) (Nat.le_of_ble_eq_true rfl) (Nat.le_of_ble_eq_true rfl)) (fun r_1 q => ?_)
  replace E := E _ q
  refine g_aload_n (pc' := 5) O ⟨dX10_wrong_4, rfl⟩ (q := 0) rfl rfl ?_
  refine gf_C_RX10_29_0 ad cy (pc' := 8) O ⟨dX10_wrong_5, rfl⟩ ?_
  refine g_aload_n (pc' := 9) O ⟨dX10_wrong_8, rfl⟩ (q := 0) rfl rfl ?_
  refine gf_C_RX10_10_0 ad cy (pc' := 12) O ⟨dX10_wrong_9, rfl⟩ ?_
  obtain ⟨r_3, c_4, E⟩ := bd_of E
  refine g_Vl (pc' := 15) O ⟨dX10_wrong_12, rfl⟩ (y := yX4_unsortedFrom) (As := [.ref (ad 1)]) (st := []) (t_X4_unsortedFrom_13_1 l D ad cy (h := r_1) c_4) kw_746 kw_28 kw_743 kw_744 kw_745 rfl (wC_13 ad cy r_1) hd_X4_unsortedFrom ⟨Nat.le_of_ble_eq_true rfl, Nat.le_of_ble_eq_true rfl⟩ ⟨Nat.le_of_ble_eq_true rfl, Nat.le_of_ble_eq_true rfl⟩ rfl (Nat.le_of_ble_eq_true rfl) ?_
  refine g_iload_n (pc' := 16) O ⟨dX10_wrong_15, rfl⟩ (q := 1) rfl rfl ?_
  obtain ⟨r_5, c_6, E⟩ := bd_of E
  refine g_Si (pc' := 19) O ⟨dX10_wrong_16, rfl⟩ (y := yX4_rowIn) (As := [.long r_3.1, .int x1]) (st := []) (t_X4_rowIn l D ad cy (h := r_3.2) c_6) kw_756 kw_28 kw_754 kw_755 hd_X4_rowIn ⟨Nat.le_of_ble_eq_true rfl, Nat.le_of_ble_eq_true rfl⟩ ⟨Nat.le_of_ble_eq_true rfl, Nat.le_of_ble_eq_true rfl⟩ rfl (Nat.le_of_ble_eq_true rfl) ?_
  cases E
  exact hret _ _ _ _ _ _ _ (Nat.le_of_ble_eq_true rfl) (Nat.le_of_ble_eq_true rfl) ⟨dX10_wrong_19, rfl⟩ rfl rfl
set_option maxRecDepth 100000 in
set_option maxHeartbeats 4000000 in
theorem t_X10_finishes (l : Launch) (D : va_G) (ad : Nat → Nat) (cy : Nat → ClassId) (hfl : l.stackTraces = false) {h : Hp} {x1 : Int32} {o : (String × Hp) ⊕ (Int32 × Hp)} (E : f_X10_finishes h x1 = some o) : CtXI l D cy (WC ad cy) yX10_finishes cX10_finishes 2 .int 11 310 1 6 [.ref (ad 0), .int x1] h o := by
  refine sXI (own := RX10) hfl rfl rfl (Nat.le_of_ble_eq_true rfl) (Nat.le_of_ble_eq_true rfl) (Nat.le_of_ble_eq_true rfl) (fun X O hret hthr hprop => ?_)
  show G l D X 2 (WC ad cy) 0 0 h 0 [(0, .ref (ad 0)), (1, .int x1)] []
  unfold f_X10_finishes at E
  refine g_iload_n (pc' := 1) O ⟨dX10_finishes_0, rfl⟩ (q := 1) rfl rfl ?_
  refine jn0_of (P := G l D X 2 (WC ad cy) 0 0 h 9 [] []) E ?_ ?_
  · intro E
    show G l D X 2 (WC ad cy) 0 0 h 9 [] []
    cases E
    exact hthr _ _ _ _ _ _ _ _ _ _ _ ⟨thc_RX10_68, sr_241, dX10_finishes_9, dX10_finishes_12, Or.inl ⟨dX10_finishes_13, dX10_finishes_15, dX10_finishes_18⟩⟩ rfl (Nat.le_of_ble_eq_true rfl) (Nat.le_of_ble_eq_true rfl) (Nat.le_of_ble_eq_true rfl)
  · intro k9 hk9 E
    refine g_if_lt (pc' := 4) O ⟨dX10_finishes_1, rfl⟩ E (tgt := 9) (by decide) (fun E => ?_) (fun E => ?_)
    · refine g_sub (lv' := []) [] rfl ?_
      exact hk9 E
    · refine g_iload_n (pc' := 5) O ⟨dX10_finishes_4, rfl⟩ (q := 1) rfl rfl ?_
      refine g_iconst (pc' := 6) O ⟨dX10_finishes_5, rfl⟩ (v := (3 : Int32)) rfl ?_
      refine g_icmp_le (pc' := 9) O ⟨dX10_finishes_6, rfl⟩ E (tgt := 19) (by decide) (fun E => ?_) (fun E => ?_)
      · refine g_aload_n (pc' := 20) O ⟨dX10_finishes_19, rfl⟩ (q := 0) rfl rfl ?_
        refine gf_C_RX10_29_0 ad cy (pc' := 23) O ⟨dX10_finishes_20, rfl⟩ ?_
        refine g_aload_n (pc' := 24) O ⟨dX10_finishes_23, rfl⟩ (q := 0) rfl rfl ?_
        refine gf_C_RX10_10_0 ad cy (pc' := 27) O ⟨dX10_finishes_24, rfl⟩ ?_
        refine g_iload_n (pc' := 28) O ⟨dX10_finishes_27, rfl⟩ (q := 1) rfl rfl ?_
        obtain ⟨r_1, c_2, E⟩ := bd_of E
        refine g_Vi (pc' := 31) O ⟨dX10_finishes_28, rfl⟩ (y := yX4_missing) (As := [.ref (ad 1), .int x1]) (st := []) (t_X4_missing_13_1 l D ad cy (h := h) c_2) kw_1019 kw_28 kw_1016 kw_1017 kw_1018 rfl (wC_13 ad cy h) hd_X4_missing ⟨Nat.le_of_ble_eq_true rfl, Nat.le_of_ble_eq_true rfl⟩ ⟨Nat.le_of_ble_eq_true rfl, Nat.le_of_ble_eq_true rfl⟩ rfl (Nat.le_of_ble_eq_true rfl) ?_
        cases E
        exact hret _ _ _ _ _ _ _ (Nat.le_of_ble_eq_true rfl) (Nat.le_of_ble_eq_true rfl) ⟨dX10_finishes_31, rfl⟩ rfl rfl
      · refine g_sub (lv' := []) [] rfl ?_
        exact hk9 E
set_option maxRecDepth 100000 in
set_option maxHeartbeats 4000000 in
theorem t_X10_merges (l : Launch) (D : va_G) (ad : Nat → Nat) (cy : Nat → ClassId) (hfl : l.stackTraces = false) {h : Hp} {x1 : Int32} {o : (String × Hp) ⊕ (Int32 × Hp)} (E : f_X10_merges h x1 = some o) : CtXI l D cy (WC ad cy) yX10_merges cX10_merges 2 .boolean 8 150 1 6 [.ref (ad 0), .int x1] h o := by
  refine sXI (own := RX10) hfl rfl rfl (Nat.le_of_ble_eq_true rfl) (Nat.le_of_ble_eq_true rfl) (Nat.le_of_ble_eq_true rfl) (fun X O hret hthr hprop => ?_)
  show G l D X 2 (WC ad cy) 0 0 h 0 [(0, .ref (ad 0)), (1, .int x1)] []
  unfold f_X10_merges at E
  refine g_iload_n (pc' := 1) O ⟨dX10_merges_0, rfl⟩ (q := 1) rfl rfl ?_
  refine g_iconst (pc' := 2) O ⟨dX10_merges_1, rfl⟩ (v := (1 : Int32)) rfl ?_
  refine jn0_of (P := G l D X 2 (WC ad cy) 0 0 h 16 [] []) E ?_ ?_
  · intro E
    show G l D X 2 (WC ad cy) 0 0 h 16 [] []
    cases E
    exact hthr _ _ _ _ _ _ _ _ _ _ _ ⟨thc_RX10_247, sr_249, dX10_merges_16, dX10_merges_19, Or.inl ⟨dX10_merges_20, dX10_merges_22, dX10_merges_25⟩⟩ rfl (Nat.le_of_ble_eq_true rfl) (Nat.le_of_ble_eq_true rfl) (Nat.le_of_ble_eq_true rfl)
  · intro k16 hk16 E
    refine g_icmp_lt (pc' := 5) O ⟨dX10_merges_2, rfl⟩ E (tgt := 16) (by decide) (fun E => ?_) (fun E => ?_)
    · refine g_sub (lv' := []) [] rfl ?_
      exact hk16 E
    · refine g_iload_n (pc' := 6) O ⟨dX10_merges_5, rfl⟩ (q := 1) rfl rfl ?_
      refine g_aload_n (pc' := 7) O ⟨dX10_merges_6, rfl⟩ (q := 0) rfl rfl ?_
      refine gf_C_RX10_10_0 ad cy (pc' := 10) O ⟨dX10_merges_7, rfl⟩ ?_
      refine gf_C_RX10_109_1 ad cy (pc' := 13) O ⟨dX10_merges_10, rfl⟩ ?_
      refine g_icmp_lt (pc' := 16) O ⟨dX10_merges_13, rfl⟩ E (tgt := 26) (by decide) (fun E => ?_) (fun E => ?_)
      · refine g_aload_n (pc' := 27) O ⟨dX10_merges_26, rfl⟩ (q := 0) rfl rfl ?_
        refine gf_C_RX10_29_0 ad cy (pc' := 30) O ⟨dX10_merges_27, rfl⟩ ?_
        refine g_aload_n (pc' := 31) O ⟨dX10_merges_30, rfl⟩ (q := 0) rfl rfl ?_
        refine gf_C_RX10_10_0 ad cy (pc' := 34) O ⟨dX10_merges_31, rfl⟩ ?_
        refine g_iload_n (pc' := 35) O ⟨dX10_merges_34, rfl⟩ (q := 1) rfl rfl ?_
        obtain ⟨r_1, c_2, E⟩ := bd_of E
        refine g_Vi (pc' := 38) O ⟨dX10_merges_35, rfl⟩ (y := yX4_mergesAt) (As := [.ref (ad 1), .int x1]) (st := []) (t_X4_mergesAt_13_1 l D ad cy (h := h) c_2) kw_765 kw_28 kw_762 kw_763 kw_764 rfl (wC_13 ad cy h) hd_X4_mergesAt ⟨Nat.le_of_ble_eq_true rfl, Nat.le_of_ble_eq_true rfl⟩ ⟨Nat.le_of_ble_eq_true rfl, Nat.le_of_ble_eq_true rfl⟩ rfl (Nat.le_of_ble_eq_true rfl) ?_
        obtain ⟨hn, E⟩ := ckz_of E
        cases E
        exact hret _ _ _ _ _ _ _ (Nat.le_of_ble_eq_true rfl) (Nat.le_of_ble_eq_true rfl) ⟨dX10_merges_38, rfl⟩ hn rfl
      · refine g_sub (lv' := []) [] rfl ?_
        exact hk16 E
set_option maxRecDepth 100000 in
set_option maxHeartbeats 4000000 in
theorem t_X10_chooses (l : Launch) (D : va_G) (ad : Nat → Nat) (cy : Nat → ClassId) (hfl : l.stackTraces = false) {h : Hp} {x1 : Int32} {o : (String × Hp) ⊕ (Int32 × Hp)} (E : f_X10_chooses h x1 = some o) : CtXI l D cy (WC ad cy) yX10_chooses cX10_chooses 2 .boolean 8 150 1 6 [.ref (ad 0), .int x1] h o := by
  refine sXI (own := RX10) hfl rfl rfl (Nat.le_of_ble_eq_true rfl) (Nat.le_of_ble_eq_true rfl) (Nat.le_of_ble_eq_true rfl) (fun X O hret hthr hprop => ?_)
  show G l D X 2 (WC ad cy) 0 0 h 0 [(0, .ref (ad 0)), (1, .int x1)] []
  unfold f_X10_chooses at E
  refine g_iload_n (pc' := 1) O ⟨dX10_chooses_0, rfl⟩ (q := 1) rfl rfl ?_
  refine g_iconst (pc' := 2) O ⟨dX10_chooses_1, rfl⟩ (v := (1 : Int32)) rfl ?_
  refine jn0_of (P := G l D X 2 (WC ad cy) 0 0 h 16 [] []) E ?_ ?_
  · intro E
    show G l D X 2 (WC ad cy) 0 0 h 16 [] []
    cases E
    exact hthr _ _ _ _ _ _ _ _ _ _ _ ⟨thc_RX10_68, sr_256, dX10_chooses_16, dX10_chooses_19, Or.inr ⟨dX10_chooses_20, dX10_chooses_23, dX10_chooses_26⟩⟩ rfl (Nat.le_of_ble_eq_true rfl) (Nat.le_of_ble_eq_true rfl) (Nat.le_of_ble_eq_true rfl)
  · intro k16 hk16 E
    refine g_icmp_lt (pc' := 5) O ⟨dX10_chooses_2, rfl⟩ E (tgt := 16) (by decide) (fun E => ?_) (fun E => ?_)
    · refine g_sub (lv' := []) [] rfl ?_
      exact hk16 E
    · refine g_iload_n (pc' := 6) O ⟨dX10_chooses_5, rfl⟩ (q := 1) rfl rfl ?_
      refine g_aload_n (pc' := 7) O ⟨dX10_chooses_6, rfl⟩ (q := 0) rfl rfl ?_
      refine gf_C_RX10_10_0 ad cy (pc' := 10) O ⟨dX10_chooses_7, rfl⟩ ?_
      refine gf_C_RX10_109_1 ad cy (pc' := 13) O ⟨dX10_chooses_10, rfl⟩ ?_
      refine g_icmp_lt (pc' := 16) O ⟨dX10_chooses_13, rfl⟩ E (tgt := 27) (by decide) (fun E => ?_) (fun E => ?_)
      · refine g_aload_n (pc' := 28) O ⟨dX10_chooses_27, rfl⟩ (q := 0) rfl rfl ?_
        refine gf_C_RX10_29_0 ad cy (pc' := 31) O ⟨dX10_chooses_28, rfl⟩ ?_
        refine g_aload_n (pc' := 32) O ⟨dX10_chooses_31, rfl⟩ (q := 0) rfl rfl ?_
        refine gf_C_RX10_10_0 ad cy (pc' := 35) O ⟨dX10_chooses_32, rfl⟩ ?_
        refine g_iload_n (pc' := 36) O ⟨dX10_chooses_35, rfl⟩ (q := 1) rfl rfl ?_
        obtain ⟨r_1, c_2, E⟩ := bd_of E
        refine g_Vi (pc' := 39) O ⟨dX10_chooses_36, rfl⟩ (y := yX4_choosesLowest) (As := [.ref (ad 1), .int x1]) (st := []) (t_X4_choosesLowest_13_1 l D ad cy (h := h) c_2) kw_802 kw_28 kw_799 kw_800 kw_801 rfl (wC_13 ad cy h) hd_X4_choosesLowest ⟨Nat.le_of_ble_eq_true rfl, Nat.le_of_ble_eq_true rfl⟩ ⟨Nat.le_of_ble_eq_true rfl, Nat.le_of_ble_eq_true rfl⟩ rfl (Nat.le_of_ble_eq_true rfl) ?_
        obtain ⟨hn, E⟩ := ckz_of E
        cases E
        exact hret _ _ _ _ _ _ _ (Nat.le_of_ble_eq_true rfl) (Nat.le_of_ble_eq_true rfl) ⟨dX10_chooses_39, rfl⟩ hn rfl
      · refine g_sub (lv' := []) [] rfl ?_
        exact hk16 E
set_option maxRecDepth 100000 in
set_option maxHeartbeats 4000000 in
theorem t_X10_setting (l : Launch) (D : va_G) (ad : Nat → Nat) (cy : Nat → ClassId) (hfl : l.stackTraces = false) {h : Hp} {x1 : Int32} {o : (String × Hp) ⊕ (Int32 × Hp)} (E : f_X10_setting h x1 = some o) : CtXI l D cy (WC ad cy) yX10_setting cX10_setting 3 .int 9 172 1 6 [.ref (ad 0), .int x1] h o := by
  refine sXI (own := RX10) hfl rfl rfl (Nat.le_of_ble_eq_true rfl) (Nat.le_of_ble_eq_true rfl) (Nat.le_of_ble_eq_true rfl) (fun X O hret hthr hprop => ?_)
  show G l D X 3 (WC ad cy) 0 0 h 0 [(0, .ref (ad 0)), (1, .int x1)] []
  unfold f_X10_setting at E
  refine g_aload_n (pc' := 1) O ⟨dX10_setting_0, rfl⟩ (q := 0) rfl rfl ?_
  refine g_iload_n (pc' := 2) O ⟨dX10_setting_1, rfl⟩ (q := 1) rfl rfl ?_
  obtain ⟨z_5, c_2, e_6, E⟩ := bdx_of E
  refine g_XVi (pc' := 5) O ⟨dX10_setting_2, rfl⟩ (y := yX10_rowOf) (As := [.int x1]) (st := []) (t_X10_rowOf l D ad cy hfl (h := h) c_2) kw_526 kw_25 kw_523 kw_525 kw_8 rfl (wC_0 ad cy h) hd_X10_rowOf ⟨Nat.le_of_ble_eq_true rfl, Nat.le_of_ble_eq_true rfl⟩ ⟨Nat.le_of_ble_eq_true rfl, Nat.le_of_ble_eq_true rfl⟩ rfl (Nat.le_of_ble_eq_true rfl) (fun E1 h1 q => hprop _ _ _ _ _ _ _ (e_6 _ q) (Nat.le_of_ble_eq_true rfl) (Nat.le_of_ble_eq_true rfl)) (fun r_1 q => ?_)
  replace E := E _ q
  refine g_istore_n (pc' := 6) O ⟨dX10_setting_5, rfl⟩ (lv' := [(2, .int r_1.1), (0, .ref (ad 0)), (1, .int x1)]) rfl (by decide) rfl ?_
  refine g_aload_n (pc' := 7) O ⟨dX10_setting_6, rfl⟩ (q := 1) rfl rfl ?_
  refine gf_C_RX10_43_0 ad cy (pc' := 10) O ⟨dX10_setting_7, rfl⟩ ?_
  refine g_aload_n (pc' := 11) O ⟨dX10_setting_10, rfl⟩ (q := 1) rfl rfl ?_
  refine gf_C_RX10_10_0 ad cy (pc' := 14) O ⟨dX10_setting_11, rfl⟩ ?_
  refine g_iload_n (pc' := 15) O ⟨dX10_setting_14, rfl⟩ (q := 0) rfl rfl ?_
  obtain ⟨r_3, c_4, E⟩ := bd_of E
  refine g_Vi (pc' := 18) O ⟨dX10_setting_15, rfl⟩ (y := yX7_lowestFor) (As := [.ref (ad 1), .int r_1.1]) (st := []) (t_X7_lowestFor_20_1 l D ad cy (h := r_1.2) c_4) kw_1010 kw_31 kw_1007 kw_1008 kw_1009 rfl (wC_20 ad cy r_1.2) hd_X7_lowestFor ⟨Nat.le_of_ble_eq_true rfl, Nat.le_of_ble_eq_true rfl⟩ ⟨Nat.le_of_ble_eq_true rfl, Nat.le_of_ble_eq_true rfl⟩ rfl (Nat.le_of_ble_eq_true rfl) ?_
  cases E
  exact hret _ _ _ _ _ _ _ (Nat.le_of_ble_eq_true rfl) (Nat.le_of_ble_eq_true rfl) ⟨dX10_setting_18, rfl⟩ rfl rfl
set_option maxRecDepth 100000 in
set_option maxHeartbeats 4000000 in
theorem t_X10_token (l : Launch) (D : va_G) (ad : Nat → Nat) (cy : Nat → ClassId) (hfl : l.stackTraces = false) {h : Hp} {x1 : Int32} {o : (String × Hp) ⊕ (Int32 × Hp)} (E : f_X10_token h x1 = some o) : CtXI l D cy (WC ad cy) yX10_token cX10_token 2 .int 9 171 2 12 [.ref (ad 0), .int x1] h o := by
  refine sXI (own := RX10) hfl rfl rfl (Nat.le_of_ble_eq_true rfl) (Nat.le_of_ble_eq_true rfl) (Nat.le_of_ble_eq_true rfl) (fun X O hret hthr hprop => ?_)
  show G l D X 2 (WC ad cy) 0 0 h 0 [(0, .ref (ad 0)), (1, .int x1)] []
  unfold f_X10_token at E
  refine g_aload_n (pc' := 1) O ⟨dX10_token_0, rfl⟩ (q := 0) rfl rfl ?_
  refine g_iload_n (pc' := 2) O ⟨dX10_token_1, rfl⟩ (q := 1) rfl rfl ?_
  obtain ⟨z_5, c_2, e_6, E⟩ := bdx_of E
  refine g_XVv (pc' := 5) O ⟨dX10_token_2, rfl⟩ (y := yX10_checkWire) (As := [.int x1]) (st := []) (t_X10_checkWire l D ad cy hfl (h := h) c_2) kw_364 kw_25 kw_361 kw_363 kw_3 rfl (wC_0 ad cy h) hd_X10_checkWire ⟨Nat.le_of_ble_eq_true rfl, Nat.le_of_ble_eq_true rfl⟩ ⟨Nat.le_of_ble_eq_true rfl, Nat.le_of_ble_eq_true rfl⟩ rfl (Nat.le_of_ble_eq_true rfl) (fun E1 h1 q => hprop _ _ _ _ _ _ _ (e_6 _ q) (Nat.le_of_ble_eq_true rfl) (Nat.le_of_ble_eq_true rfl)) (fun r_1 q => ?_)
  replace E := E _ q
  refine g_aload_n (pc' := 6) O ⟨dX10_token_5, rfl⟩ (q := 0) rfl rfl ?_
  refine gf_C_RX10_50_0 ad cy (pc' := 9) O ⟨dX10_token_6, rfl⟩ ?_
  refine gf_C_RX10_272_23 ad cy (pc' := 12) O ⟨dX10_token_9, rfl⟩ ?_
  refine g_sipush (pc' := 15) O ⟨dX10_token_12, rfl⟩ (v := (1000 : Int32)) rfl ?_
  refine g_icmp_lt (pc' := 18) O ⟨dX10_token_15, rfl⟩ E (tgt := 29) (by decide) (fun E => ?_) (fun E => ?_)
  · refine g_aload_n (pc' := 30) O ⟨dX10_token_29, rfl⟩ (q := 0) rfl rfl ?_
    refine gf_C_RX10_50_0 ad cy (pc' := 33) O ⟨dX10_token_30, rfl⟩ ?_
    refine g_aload_n (pc' := 34) O ⟨dX10_token_33, rfl⟩ (q := 0) rfl rfl ?_
    refine gf_C_RX10_10_0 ad cy (pc' := 37) O ⟨dX10_token_34, rfl⟩ ?_
    refine g_iload_n (pc' := 38) O ⟨dX10_token_37, rfl⟩ (q := 1) rfl rfl ?_
    obtain ⟨r_3, c_4, E⟩ := bd_of E
    refine g_Vi (pc' := 41) O ⟨dX10_token_38, rfl⟩ (y := yX1_letIn) (As := [.ref (ad 1), .int x1]) (st := []) (t_X1_letIn_23_1 l D ad cy (h := r_1) c_4) kw_518 kw_32 kw_515 kw_516 kw_517 rfl (wC_23 ad cy r_1) hd_X1_letIn ⟨Nat.le_of_ble_eq_true rfl, Nat.le_of_ble_eq_true rfl⟩ ⟨Nat.le_of_ble_eq_true rfl, Nat.le_of_ble_eq_true rfl⟩ rfl (Nat.le_of_ble_eq_true rfl) ?_
    cases E
    exact hret _ _ _ _ _ _ _ (Nat.le_of_ble_eq_true rfl) (Nat.le_of_ble_eq_true rfl) ⟨dX10_token_41, rfl⟩ rfl rfl
  · cases E
    exact hthr _ _ _ _ _ _ _ _ _ _ _ ⟨thc_RX10_99, sr_275, dX10_token_18, dX10_token_21, Or.inr ⟨dX10_token_22, dX10_token_25, dX10_token_28⟩⟩ rfl (Nat.le_of_ble_eq_true rfl) (Nat.le_of_ble_eq_true rfl) (Nat.le_of_ble_eq_true rfl)
set_option maxRecDepth 100000 in
set_option maxHeartbeats 4000000 in
theorem t_X10_came (l : Launch) (D : va_G) (ad : Nat → Nat) (cy : Nat → ClassId) (hfl : l.stackTraces = false) {h : Hp} {x1 : Int32} {o : (String × Hp) ⊕ (Int32 × Hp)} (E : f_X10_came h x1 = some o) : CtXI l D cy (WC ad cy) yX10_came cX10_came 2 .int 9 171 1 6 [.ref (ad 0), .int x1] h o := by
  refine sXI (own := RX10) hfl rfl rfl (Nat.le_of_ble_eq_true rfl) (Nat.le_of_ble_eq_true rfl) (Nat.le_of_ble_eq_true rfl) (fun X O hret hthr hprop => ?_)
  show G l D X 2 (WC ad cy) 0 0 h 0 [(0, .ref (ad 0)), (1, .int x1)] []
  unfold f_X10_came at E
  refine g_aload_n (pc' := 1) O ⟨dX10_came_0, rfl⟩ (q := 0) rfl rfl ?_
  refine g_iload_n (pc' := 2) O ⟨dX10_came_1, rfl⟩ (q := 1) rfl rfl ?_
  obtain ⟨z_3, c_2, e_4, E⟩ := bdx_of E
  refine g_XVv (pc' := 5) O ⟨dX10_came_2, rfl⟩ (y := yX10_checkWire) (As := [.int x1]) (st := []) (t_X10_checkWire l D ad cy hfl (h := h) c_2) kw_364 kw_25 kw_361 kw_363 kw_3 rfl (wC_0 ad cy h) hd_X10_checkWire ⟨Nat.le_of_ble_eq_true rfl, Nat.le_of_ble_eq_true rfl⟩ ⟨Nat.le_of_ble_eq_true rfl, Nat.le_of_ble_eq_true rfl⟩ rfl (Nat.le_of_ble_eq_true rfl) (fun E1 h1 q => hprop _ _ _ _ _ _ _ (e_4 _ q) (Nat.le_of_ble_eq_true rfl) (Nat.le_of_ble_eq_true rfl)) (fun r_1 q => ?_)
  replace E := E _ q
  refine g_aload_n (pc' := 6) O ⟨dX10_came_5, rfl⟩ (q := 0) rfl rfl ?_
  refine gf_C_RX10_50_0 ad cy (pc' := 9) O ⟨dX10_came_6, rfl⟩ ?_
  refine gf_C_RX10_280_23 ad cy (pc' := 12) O ⟨dX10_came_9, rfl⟩ ?_
  refine g_iload_n (pc' := 13) O ⟨dX10_came_12, rfl⟩ (q := 1) rfl rfl ?_
  refine g_iald (pc' := 14) O ⟨dX10_came_13, rfl⟩ (wC_25 ad cy r_1) E (fun E => ?_)
  cases E
  exact hret _ _ _ _ _ _ _ (Nat.le_of_ble_eq_true rfl) (Nat.le_of_ble_eq_true rfl) ⟨dX10_came_14, rfl⟩ rfl rfl
set_option maxRecDepth 100000 in
set_option maxHeartbeats 4000000 in
theorem t_X10_cameAnew (l : Launch) (D : va_G) (ad : Nat → Nat) (cy : Nat → ClassId) (hfl : l.stackTraces = false) {h : Hp} {x1 : Int32} {o : (String × Hp) ⊕ (Int32 × Hp)} (E : f_X10_cameAnew h x1 = some o) : CtXI l D cy (WC ad cy) yX10_cameAnew cX10_cameAnew 2 .int 9 171 1 6 [.ref (ad 0), .int x1] h o := by
  refine sXI (own := RX10) hfl rfl rfl (Nat.le_of_ble_eq_true rfl) (Nat.le_of_ble_eq_true rfl) (Nat.le_of_ble_eq_true rfl) (fun X O hret hthr hprop => ?_)
  show G l D X 2 (WC ad cy) 0 0 h 0 [(0, .ref (ad 0)), (1, .int x1)] []
  unfold f_X10_cameAnew at E
  refine g_aload_n (pc' := 1) O ⟨dX10_cameAnew_0, rfl⟩ (q := 0) rfl rfl ?_
  refine g_iload_n (pc' := 2) O ⟨dX10_cameAnew_1, rfl⟩ (q := 1) rfl rfl ?_
  obtain ⟨z_5, c_2, e_6, E⟩ := bdx_of E
  refine g_XVv (pc' := 5) O ⟨dX10_cameAnew_2, rfl⟩ (y := yX10_checkWire) (As := [.int x1]) (st := []) (t_X10_checkWire l D ad cy hfl (h := h) c_2) kw_364 kw_25 kw_361 kw_363 kw_3 rfl (wC_0 ad cy h) hd_X10_checkWire ⟨Nat.le_of_ble_eq_true rfl, Nat.le_of_ble_eq_true rfl⟩ ⟨Nat.le_of_ble_eq_true rfl, Nat.le_of_ble_eq_true rfl⟩ rfl (Nat.le_of_ble_eq_true rfl) (fun E1 h1 q => hprop _ _ _ _ _ _ _ (e_6 _ q) (Nat.le_of_ble_eq_true rfl) (Nat.le_of_ble_eq_true rfl)) (fun r_1 q => ?_)
  replace E := E _ q
  refine g_aload_n (pc' := 6) O ⟨dX10_cameAnew_5, rfl⟩ (q := 0) rfl rfl ?_
  refine gf_C_RX10_50_0 ad cy (pc' := 9) O ⟨dX10_cameAnew_6, rfl⟩ ?_
  refine g_aload_n (pc' := 10) O ⟨dX10_cameAnew_9, rfl⟩ (q := 0) rfl rfl ?_
  refine gf_C_RX10_10_0 ad cy (pc' := 13) O ⟨dX10_cameAnew_10, rfl⟩ ?_
  refine g_iload_n (pc' := 14) O ⟨dX10_cameAnew_13, rfl⟩ (q := 1) rfl rfl ?_
  obtain ⟨r_3, c_4, E⟩ := bd_of E
  refine g_Vi (pc' := 17) O ⟨dX10_cameAnew_14, rfl⟩ (y := yX1_reckoned) (As := [.ref (ad 1), .int x1]) (st := []) (t_X1_reckoned_23_1 l D ad cy (h := r_1) c_4) kw_683 kw_32 kw_680 kw_681 kw_682 rfl (wC_23 ad cy r_1) hd_X1_reckoned ⟨Nat.le_of_ble_eq_true rfl, Nat.le_of_ble_eq_true rfl⟩ ⟨Nat.le_of_ble_eq_true rfl, Nat.le_of_ble_eq_true rfl⟩ rfl (Nat.le_of_ble_eq_true rfl) ?_
  cases E
  exact hret _ _ _ _ _ _ _ (Nat.le_of_ble_eq_true rfl) (Nat.le_of_ble_eq_true rfl) ⟨dX10_cameAnew_17, rfl⟩ rfl rfl
set_option maxRecDepth 100000 in
set_option maxHeartbeats 4000000 in
theorem t_X10_checkFault (l : Launch) (D : va_G) (ad : Nat → Nat) (cy : Nat → ClassId) (hfl : l.stackTraces = false) {h : Hp} {x0 : Int32} {o : (String × Hp) ⊕ Hp} (E : f_X10_checkFault h x0 = some o) : CtXV l D cy (WC ad cy) yX10_checkFault cX10_checkFault 1 8 150 1 6 [.int x0] h o := by
  refine sXV (own := RX10) hfl rfl rfl (Nat.le_of_ble_eq_true rfl) (Nat.le_of_ble_eq_true rfl) (Nat.le_of_ble_eq_true rfl) (fun X O hret hthr hprop => ?_)
  show G l D X 1 (WC ad cy) 0 0 h 0 [(0, .int x0)] []
  unfold f_X10_checkFault at E
  refine g_iload_n (pc' := 1) O ⟨dX10_checkFault_0, rfl⟩ (q := 0) rfl rfl ?_
  refine jn0_of (P := G l D X 1 (WC ad cy) 0 0 h 9 [] []) E ?_ ?_
  · intro E
    show G l D X 1 (WC ad cy) 0 0 h 9 [] []
    cases E
    exact hthr _ _ _ _ _ _ _ _ _ _ _ ⟨thc_RX10_68, sr_345, dX10_checkFault_9, dX10_checkFault_12, Or.inr ⟨dX10_checkFault_13, dX10_checkFault_16, dX10_checkFault_19⟩⟩ rfl (Nat.le_of_ble_eq_true rfl) (Nat.le_of_ble_eq_true rfl) (Nat.le_of_ble_eq_true rfl)
  · intro k9 hk9 E
    refine g_if_lt (pc' := 4) O ⟨dX10_checkFault_1, rfl⟩ E (tgt := 9) (by decide) (fun E => ?_) (fun E => ?_)
    · refine g_sub (lv' := []) [] rfl ?_
      exact hk9 E
    · refine g_iload_n (pc' := 5) O ⟨dX10_checkFault_4, rfl⟩ (q := 0) rfl rfl ?_
      refine g_iconst (pc' := 6) O ⟨dX10_checkFault_5, rfl⟩ (v := (2 : Int32)) rfl ?_
      refine g_icmp_le (pc' := 9) O ⟨dX10_checkFault_6, rfl⟩ E (tgt := 20) (by decide) (fun E => ?_) (fun E => ?_)
      · cases E
        exact hret _ _ _ _ _ _ (Nat.le_of_ble_eq_true rfl) (Nat.le_of_ble_eq_true rfl) ⟨dX10_checkFault_20, rfl⟩ rfl
      · refine g_sub (lv' := []) [] rfl ?_
        exact hk9 E
set_option maxRecDepth 100000 in
set_option maxHeartbeats 4000000 in
theorem t_X10_bad (l : Launch) (D : va_G) (ad : Nat → Nat) (cy : Nat → ClassId) (hfl : l.stackTraces = false) {h : Hp} {x1 : Int32} {x2 : Int32} {o : (String × Hp) ⊕ (Int32 × Hp)} (E : f_X10_bad h x1 x2 = some o) : CtXI l D cy (WC ad cy) yX10_bad cX10_bad 3 .int 9 171 2 12 [.ref (ad 0), .int x1, .int x2] h o := by
  refine sXI (own := RX10) hfl rfl rfl (Nat.le_of_ble_eq_true rfl) (Nat.le_of_ble_eq_true rfl) (Nat.le_of_ble_eq_true rfl) (fun X O hret hthr hprop => ?_)
  show G l D X 3 (WC ad cy) 0 0 h 0 [(0, .ref (ad 0)), (1, .int x1), (2, .int x2)] []
  unfold f_X10_bad at E
  refine g_aload_n (pc' := 1) O ⟨dX10_bad_0, rfl⟩ (q := 0) rfl rfl ?_
  refine g_iload_n (pc' := 2) O ⟨dX10_bad_1, rfl⟩ (q := 1) rfl rfl ?_
  obtain ⟨z_11, c_2, e_12, E⟩ := bdx_of E
  refine g_XVv (pc' := 5) O ⟨dX10_bad_2, rfl⟩ (y := yX10_checkComparator) (As := [.int x1]) (st := []) (t_X10_checkComparator l D ad cy hfl (h := h) c_2) kw_655 kw_25 kw_652 kw_654 kw_12 rfl (wC_0 ad cy h) hd_X10_checkComparator ⟨Nat.le_of_ble_eq_true rfl, Nat.le_of_ble_eq_true rfl⟩ ⟨Nat.le_of_ble_eq_true rfl, Nat.le_of_ble_eq_true rfl⟩ rfl (Nat.le_of_ble_eq_true rfl) (fun E1 h1 q => hprop _ _ _ _ _ _ _ (e_12 _ q) (Nat.le_of_ble_eq_true rfl) (Nat.le_of_ble_eq_true rfl)) (fun r_1 q => ?_)
  replace E := E _ q
  refine g_iload_n (pc' := 6) O ⟨dX10_bad_5, rfl⟩ (q := 2) rfl rfl ?_
  obtain ⟨z_9, c_4, e_10, E⟩ := bdx_of E
  refine g_XSv (pc' := 9) O ⟨dX10_bad_6, rfl⟩ (y := yX10_checkFault) (As := [.int x2]) (st := []) (t_X10_checkFault l D ad cy hfl (h := r_1) c_4) kw_865 kw_25 kw_863 kw_864 hd_X10_checkFault ⟨Nat.le_of_ble_eq_true rfl, Nat.le_of_ble_eq_true rfl⟩ ⟨Nat.le_of_ble_eq_true rfl, Nat.le_of_ble_eq_true rfl⟩ rfl (Nat.le_of_ble_eq_true rfl) (fun E1 h1 q => hprop _ _ _ _ _ _ _ (e_10 _ q) (Nat.le_of_ble_eq_true rfl) (Nat.le_of_ble_eq_true rfl)) (fun r_3 q => ?_)
  replace E := E _ q
  refine g_aload_n (pc' := 10) O ⟨dX10_bad_9, rfl⟩ (q := 0) rfl rfl ?_
  refine gf_C_RX10_29_0 ad cy (pc' := 13) O ⟨dX10_bad_10, rfl⟩ ?_
  refine g_aload_n (pc' := 14) O ⟨dX10_bad_13, rfl⟩ (q := 0) rfl rfl ?_
  refine gf_C_RX10_10_0 ad cy (pc' := 17) O ⟨dX10_bad_14, rfl⟩ ?_
  refine g_iload_n (pc' := 18) O ⟨dX10_bad_17, rfl⟩ (q := 1) rfl rfl ?_
  refine g_iload_n (pc' := 19) O ⟨dX10_bad_18, rfl⟩ (q := 2) rfl rfl ?_
  obtain ⟨r_5, c_6, E⟩ := bd_of E
  refine g_Vl (pc' := 22) O ⟨dX10_bad_19, rfl⟩ (y := yX4_unsortedWith) (As := [.ref (ad 1), .int x1, .int x2]) (st := []) (t_X4_unsortedWith_13_1 l D ad cy (h := r_3) c_6) kw_835 kw_28 kw_832 kw_833 kw_834 rfl (wC_13 ad cy r_3) hd_X4_unsortedWith ⟨Nat.le_of_ble_eq_true rfl, Nat.le_of_ble_eq_true rfl⟩ ⟨Nat.le_of_ble_eq_true rfl, Nat.le_of_ble_eq_true rfl⟩ rfl (Nat.le_of_ble_eq_true rfl) ?_
  obtain ⟨r_7, c_8, E⟩ := bd_of E
  refine g_Si (pc' := 25) O ⟨dX10_bad_22, rfl⟩ (y := yJ13_bitCount_95d88) (As := [.long r_5.1]) (st := []) (t_J13_bitCount l D ad cy (h := r_5.2) c_8) kw_664 kw_43 kw_662 kw_663 hd_J13_bitCount_95d88 ⟨Nat.le_of_ble_eq_true rfl, Nat.le_of_ble_eq_true rfl⟩ ⟨Nat.le_of_ble_eq_true rfl, Nat.le_of_ble_eq_true rfl⟩ rfl (Nat.le_of_ble_eq_true rfl) ?_
  cases E
  exact hret _ _ _ _ _ _ _ (Nat.le_of_ble_eq_true rfl) (Nat.le_of_ble_eq_true rfl) ⟨dX10_bad_25, rfl⟩ rfl rfl
set_option maxRecDepth 100000 in
set_option maxHeartbeats 4000000 in
theorem t_X10_tells (l : Launch) (D : va_G) (ad : Nat → Nat) (cy : Nat → ClassId) (hfl : l.stackTraces = false) {h : Hp} {x1 : Int32} {x2 : Int32} {o : (String × Hp) ⊕ (Int64 × Hp)} (E : f_X10_tells h x1 x2 = some o) : CtXL l D cy (WC ad cy) yX10_tells cX10_tells 3 9 171 2 12 [.ref (ad 0), .int x1, .int x2] h o := by
  refine sXL (own := RX10) hfl rfl rfl (Nat.le_of_ble_eq_true rfl) (Nat.le_of_ble_eq_true rfl) (Nat.le_of_ble_eq_true rfl) (fun X O hret hthr hprop => ?_)
  show G l D X 3 (WC ad cy) 0 0 h 0 [(0, .ref (ad 0)), (1, .int x1), (2, .int x2)] []
  unfold f_X10_tells at E
  refine g_aload_n (pc' := 1) O ⟨dX10_tells_0, rfl⟩ (q := 0) rfl rfl ?_
  refine g_iload_n (pc' := 2) O ⟨dX10_tells_1, rfl⟩ (q := 1) rfl rfl ?_
  obtain ⟨z_9, c_2, e_10, E⟩ := bdx_of E
  refine g_XVv (pc' := 5) O ⟨dX10_tells_2, rfl⟩ (y := yX10_checkComparator) (As := [.int x1]) (st := []) (t_X10_checkComparator l D ad cy hfl (h := h) c_2) kw_655 kw_25 kw_652 kw_654 kw_12 rfl (wC_0 ad cy h) hd_X10_checkComparator ⟨Nat.le_of_ble_eq_true rfl, Nat.le_of_ble_eq_true rfl⟩ ⟨Nat.le_of_ble_eq_true rfl, Nat.le_of_ble_eq_true rfl⟩ rfl (Nat.le_of_ble_eq_true rfl) (fun E1 h1 q => hprop _ _ _ _ _ _ _ (e_10 _ q) (Nat.le_of_ble_eq_true rfl) (Nat.le_of_ble_eq_true rfl)) (fun r_1 q => ?_)
  replace E := E _ q
  refine g_iload_n (pc' := 6) O ⟨dX10_tells_5, rfl⟩ (q := 2) rfl rfl ?_
  obtain ⟨z_7, c_4, e_8, E⟩ := bdx_of E
  refine g_XSv (pc' := 9) O ⟨dX10_tells_6, rfl⟩ (y := yX10_checkFault) (As := [.int x2]) (st := []) (t_X10_checkFault l D ad cy hfl (h := r_1) c_4) kw_865 kw_25 kw_863 kw_864 hd_X10_checkFault ⟨Nat.le_of_ble_eq_true rfl, Nat.le_of_ble_eq_true rfl⟩ ⟨Nat.le_of_ble_eq_true rfl, Nat.le_of_ble_eq_true rfl⟩ rfl (Nat.le_of_ble_eq_true rfl) (fun E1 h1 q => hprop _ _ _ _ _ _ _ (e_8 _ q) (Nat.le_of_ble_eq_true rfl) (Nat.le_of_ble_eq_true rfl)) (fun r_3 q => ?_)
  replace E := E _ q
  refine g_aload_n (pc' := 10) O ⟨dX10_tells_9, rfl⟩ (q := 0) rfl rfl ?_
  refine gf_C_RX10_29_0 ad cy (pc' := 13) O ⟨dX10_tells_10, rfl⟩ ?_
  refine g_aload_n (pc' := 14) O ⟨dX10_tells_13, rfl⟩ (q := 0) rfl rfl ?_
  refine gf_C_RX10_10_0 ad cy (pc' := 17) O ⟨dX10_tells_14, rfl⟩ ?_
  refine g_iload_n (pc' := 18) O ⟨dX10_tells_17, rfl⟩ (q := 1) rfl rfl ?_
  refine g_iload_n (pc' := 19) O ⟨dX10_tells_18, rfl⟩ (q := 2) rfl rfl ?_
  obtain ⟨r_5, c_6, E⟩ := bd_of E
  refine g_Vl (pc' := 22) O ⟨dX10_tells_19, rfl⟩ (y := yX4_telling) (As := [.ref (ad 1), .int x1, .int x2]) (st := []) (t_X4_telling_13_1 l D ad cy (h := r_3) c_6) kw_821 kw_28 kw_871 kw_819 kw_820 rfl (wC_13 ad cy r_3) hd_X4_telling ⟨Nat.le_of_ble_eq_true rfl, Nat.le_of_ble_eq_true rfl⟩ ⟨Nat.le_of_ble_eq_true rfl, Nat.le_of_ble_eq_true rfl⟩ rfl (Nat.le_of_ble_eq_true rfl) ?_
  cases E
  exact hret _ _ _ _ _ _ _ (Nat.le_of_ble_eq_true rfl) (Nat.le_of_ble_eq_true rfl) ⟨dX10_tells_22, rfl⟩ rfl
set_option maxRecDepth 100000 in
set_option maxHeartbeats 4000000 in
theorem t_X10_checkSteps (l : Launch) (D : va_G) (ad : Nat → Nat) (cy : Nat → ClassId) (hfl : l.stackTraces = false) {h : Hp} {x0 : Int32} {o : (String × Hp) ⊕ Hp} (E : f_X10_checkSteps h x0 = some o) : CtXV l D cy (WC ad cy) yX10_checkSteps cX10_checkSteps 1 8 150 1 6 [.int x0] h o := by
  refine sXV (own := RX10) hfl rfl rfl (Nat.le_of_ble_eq_true rfl) (Nat.le_of_ble_eq_true rfl) (Nat.le_of_ble_eq_true rfl) (fun X O hret hthr hprop => ?_)
  show G l D X 1 (WC ad cy) 0 0 h 0 [(0, .int x0)] []
  unfold f_X10_checkSteps at E
  refine g_iload_n (pc' := 1) O ⟨dX10_checkSteps_0, rfl⟩ (q := 0) rfl rfl ?_
  refine jn0_of (P := G l D X 1 (WC ad cy) 0 0 h 9 [] []) E ?_ ?_
  · intro E
    show G l D X 1 (WC ad cy) 0 0 h 9 [] []
    cases E
    exact hthr _ _ _ _ _ _ _ _ _ _ _ ⟨thc_RX10_68, sr_347, dX10_checkSteps_9, dX10_checkSteps_12, Or.inr ⟨dX10_checkSteps_13, dX10_checkSteps_16, dX10_checkSteps_19⟩⟩ rfl (Nat.le_of_ble_eq_true rfl) (Nat.le_of_ble_eq_true rfl) (Nat.le_of_ble_eq_true rfl)
  · intro k9 hk9 E
    refine g_if_lt (pc' := 4) O ⟨dX10_checkSteps_1, rfl⟩ E (tgt := 9) (by decide) (fun E => ?_) (fun E => ?_)
    · refine g_sub (lv' := []) [] rfl ?_
      exact hk9 E
    · refine g_iload_n (pc' := 5) O ⟨dX10_checkSteps_4, rfl⟩ (q := 0) rfl rfl ?_
      refine g_iconst (pc' := 6) O ⟨dX10_checkSteps_5, rfl⟩ (v := (3 : Int32)) rfl ?_
      refine g_icmp_le (pc' := 9) O ⟨dX10_checkSteps_6, rfl⟩ E (tgt := 20) (by decide) (fun E => ?_) (fun E => ?_)
      · cases E
        exact hret _ _ _ _ _ _ (Nat.le_of_ble_eq_true rfl) (Nat.le_of_ble_eq_true rfl) ⟨dX10_checkSteps_20, rfl⟩ rfl
      · refine g_sub (lv' := []) [] rfl ?_
        exact hk9 E
set_option maxRecDepth 100000 in
set_option maxHeartbeats 4000000 in
theorem t_X10_far (l : Launch) (D : va_G) (ad : Nat → Nat) (cy : Nat → ClassId) (hfl : l.stackTraces = false) {h : Hp} {x1 : Int32} {x2 : Int32} {o : (String × Hp) ⊕ (Int32 × Hp)} (E : f_X10_far h x1 x2 = some o) : CtXI l D cy (WC ad cy) yX10_far cX10_far 4 .int 9 172 2 12 [.ref (ad 0), .int x1, .int x2] h o := by
  refine sXI (own := RX10) hfl rfl rfl (Nat.le_of_ble_eq_true rfl) (Nat.le_of_ble_eq_true rfl) (Nat.le_of_ble_eq_true rfl) (fun X O hret hthr hprop => ?_)
  show G l D X 4 (WC ad cy) 0 0 h 0 [(0, .ref (ad 0)), (1, .int x1), (2, .int x2)] []
  unfold f_X10_far at E
  refine g_iload_n (pc' := 1) O ⟨dX10_far_0, rfl⟩ (q := 1) rfl rfl ?_
  obtain ⟨z_9, c_2, e_10, E⟩ := bdx_of E
  refine g_XSv (pc' := 4) O ⟨dX10_far_1, rfl⟩ (y := yX10_checkSteps) (As := [.int x1]) (st := []) (t_X10_checkSteps l D ad cy hfl (h := h) c_2) kw_905 kw_25 kw_903 kw_904 hd_X10_checkSteps ⟨Nat.le_of_ble_eq_true rfl, Nat.le_of_ble_eq_true rfl⟩ ⟨Nat.le_of_ble_eq_true rfl, Nat.le_of_ble_eq_true rfl⟩ rfl (Nat.le_of_ble_eq_true rfl) (fun E1 h1 q => hprop _ _ _ _ _ _ _ (e_10 _ q) (Nat.le_of_ble_eq_true rfl) (Nat.le_of_ble_eq_true rfl)) (fun r_1 q => ?_)
  replace E := E _ q
  refine g_aload_n (pc' := 5) O ⟨dX10_far_4, rfl⟩ (q := 0) rfl rfl ?_
  refine g_iload_n (pc' := 6) O ⟨dX10_far_5, rfl⟩ (q := 2) rfl rfl ?_
  obtain ⟨z_7, c_4, e_8, E⟩ := bdx_of E
  refine g_XVi (pc' := 9) O ⟨dX10_far_6, rfl⟩ (y := yX10_rowOf) (As := [.int x2]) (st := []) (t_X10_rowOf l D ad cy hfl (h := r_1) c_4) kw_526 kw_25 kw_523 kw_525 kw_8 rfl (wC_0 ad cy r_1) hd_X10_rowOf ⟨Nat.le_of_ble_eq_true rfl, Nat.le_of_ble_eq_true rfl⟩ ⟨Nat.le_of_ble_eq_true rfl, Nat.le_of_ble_eq_true rfl⟩ rfl (Nat.le_of_ble_eq_true rfl) (fun E1 h1 q => hprop _ _ _ _ _ _ _ (e_8 _ q) (Nat.le_of_ble_eq_true rfl) (Nat.le_of_ble_eq_true rfl)) (fun r_3 q => ?_)
  replace E := E _ q
  refine g_istore_n (pc' := 10) O ⟨dX10_far_9, rfl⟩ (lv' := [(3, .int r_3.1), (0, .ref (ad 0)), (1, .int x1), (2, .int x2)]) rfl (by decide) rfl ?_
  refine g_aload_n (pc' := 11) O ⟨dX10_far_10, rfl⟩ (q := 1) rfl rfl ?_
  refine gf_C_RX10_57_0 ad cy (pc' := 14) O ⟨dX10_far_11, rfl⟩ ?_
  refine g_iload_n (pc' := 15) O ⟨dX10_far_14, rfl⟩ (q := 2) rfl rfl ?_
  refine g_iload_n (pc' := 16) O ⟨dX10_far_15, rfl⟩ (q := 0) rfl rfl ?_
  refine g_aload_n (pc' := 17) O ⟨dX10_far_16, rfl⟩ (q := 1) rfl rfl ?_
  refine gf_C_RX10_10_0 ad cy (pc' := 20) O ⟨dX10_far_17, rfl⟩ ?_
  refine gf_C_RX10_109_1 ad cy (pc' := 23) O ⟨dX10_far_20, rfl⟩ ?_
  obtain ⟨r_5, c_6, E⟩ := bd_of E
  refine g_Vi (pc' := 26) O ⟨dX10_far_23, rfl⟩ (y := yX6_farOf) (As := [.int x1, .int r_3.1, .int (r_3.2.1 1 0)]) (st := []) (t_X6_farOf_28 l D ad cy (h := r_3.2) c_6) kw_910 kw_33 kw_907 kw_908 kw_909 rfl (wC_28 ad cy r_3.2) hd_X6_farOf ⟨Nat.le_of_ble_eq_true rfl, Nat.le_of_ble_eq_true rfl⟩ ⟨Nat.le_of_ble_eq_true rfl, Nat.le_of_ble_eq_true rfl⟩ rfl (Nat.le_of_ble_eq_true rfl) ?_
  cases E
  exact hret _ _ _ _ _ _ _ (Nat.le_of_ble_eq_true rfl) (Nat.le_of_ble_eq_true rfl) ⟨dX10_far_26, rfl⟩ rfl rfl
set_option maxRecDepth 100000 in
set_option maxHeartbeats 4000000 in
theorem t_X10_step (l : Launch) (D : va_G) (ad : Nat → Nat) (cy : Nat → ClassId) (hfl : l.stackTraces = false) {h : Hp} {x1 : Int32} {x2 : Int32} {o : (String × Hp) ⊕ (Int32 × Hp)} (E : f_X10_step h x1 x2 = some o) : CtXI l D cy (WC ad cy) yX10_step cX10_step 4 .int 9 172 2 12 [.ref (ad 0), .int x1, .int x2] h o := by
  refine sXI (own := RX10) hfl rfl rfl (Nat.le_of_ble_eq_true rfl) (Nat.le_of_ble_eq_true rfl) (Nat.le_of_ble_eq_true rfl) (fun X O hret hthr hprop => ?_)
  show G l D X 4 (WC ad cy) 0 0 h 0 [(0, .ref (ad 0)), (1, .int x1), (2, .int x2)] []
  unfold f_X10_step at E
  refine g_iload_n (pc' := 1) O ⟨dX10_step_0, rfl⟩ (q := 1) rfl rfl ?_
  obtain ⟨z_9, c_2, e_10, E⟩ := bdx_of E
  refine g_XSv (pc' := 4) O ⟨dX10_step_1, rfl⟩ (y := yX10_checkSteps) (As := [.int x1]) (st := []) (t_X10_checkSteps l D ad cy hfl (h := h) c_2) kw_905 kw_25 kw_903 kw_904 hd_X10_checkSteps ⟨Nat.le_of_ble_eq_true rfl, Nat.le_of_ble_eq_true rfl⟩ ⟨Nat.le_of_ble_eq_true rfl, Nat.le_of_ble_eq_true rfl⟩ rfl (Nat.le_of_ble_eq_true rfl) (fun E1 h1 q => hprop _ _ _ _ _ _ _ (e_10 _ q) (Nat.le_of_ble_eq_true rfl) (Nat.le_of_ble_eq_true rfl)) (fun r_1 q => ?_)
  replace E := E _ q
  refine g_aload_n (pc' := 5) O ⟨dX10_step_4, rfl⟩ (q := 0) rfl rfl ?_
  refine g_iload_n (pc' := 6) O ⟨dX10_step_5, rfl⟩ (q := 2) rfl rfl ?_
  obtain ⟨z_7, c_4, e_8, E⟩ := bdx_of E
  refine g_XVi (pc' := 9) O ⟨dX10_step_6, rfl⟩ (y := yX10_rowOf) (As := [.int x2]) (st := []) (t_X10_rowOf l D ad cy hfl (h := r_1) c_4) kw_526 kw_25 kw_523 kw_525 kw_8 rfl (wC_0 ad cy r_1) hd_X10_rowOf ⟨Nat.le_of_ble_eq_true rfl, Nat.le_of_ble_eq_true rfl⟩ ⟨Nat.le_of_ble_eq_true rfl, Nat.le_of_ble_eq_true rfl⟩ rfl (Nat.le_of_ble_eq_true rfl) (fun E1 h1 q => hprop _ _ _ _ _ _ _ (e_8 _ q) (Nat.le_of_ble_eq_true rfl) (Nat.le_of_ble_eq_true rfl)) (fun r_3 q => ?_)
  replace E := E _ q
  refine g_istore_n (pc' := 10) O ⟨dX10_step_9, rfl⟩ (lv' := [(3, .int r_3.1), (0, .ref (ad 0)), (1, .int x1), (2, .int x2)]) rfl (by decide) rfl ?_
  refine g_aload_n (pc' := 11) O ⟨dX10_step_10, rfl⟩ (q := 1) rfl rfl ?_
  refine gf_C_RX10_57_0 ad cy (pc' := 14) O ⟨dX10_step_11, rfl⟩ ?_
  refine g_iload_n (pc' := 15) O ⟨dX10_step_14, rfl⟩ (q := 2) rfl rfl ?_
  refine g_iload_n (pc' := 16) O ⟨dX10_step_15, rfl⟩ (q := 0) rfl rfl ?_
  refine g_aload_n (pc' := 17) O ⟨dX10_step_16, rfl⟩ (q := 1) rfl rfl ?_
  refine gf_C_RX10_10_0 ad cy (pc' := 20) O ⟨dX10_step_17, rfl⟩ ?_
  refine gf_C_RX10_109_1 ad cy (pc' := 23) O ⟨dX10_step_20, rfl⟩ ?_
  obtain ⟨r_5, c_6, E⟩ := bd_of E
  refine g_Vi (pc' := 26) O ⟨dX10_step_23, rfl⟩ (y := yX6_codeNearer) (As := [.int x1, .int r_3.1, .int (r_3.2.1 1 0)]) (st := []) (t_X6_codeNearer_28 l D ad cy (h := r_3.2) c_6) kw_966 kw_33 kw_963 kw_964 kw_965 rfl (wC_28 ad cy r_3.2) hd_X6_codeNearer ⟨Nat.le_of_ble_eq_true rfl, Nat.le_of_ble_eq_true rfl⟩ ⟨Nat.le_of_ble_eq_true rfl, Nat.le_of_ble_eq_true rfl⟩ rfl (Nat.le_of_ble_eq_true rfl) ?_
  cases E
  exact hret _ _ _ _ _ _ _ (Nat.le_of_ble_eq_true rfl) (Nat.le_of_ble_eq_true rfl) ⟨dX10_step_26, rfl⟩ rfl rfl
set_option maxRecDepth 100000 in
set_option maxHeartbeats 4000000 in
theorem t_X10_manyFar (l : Launch) (D : va_G) (ad : Nat → Nat) (cy : Nat → ClassId) (hfl : l.stackTraces = false) {h : Hp} {x1 : Int32} {x2 : Int32} {o : (String × Hp) ⊕ (Int32 × Hp)} (E : f_X10_manyFar h x1 x2 = some o) : CtXI l D cy (WC ad cy) yX10_manyFar cX10_manyFar 3 .int 9 170 2 12 [.ref (ad 0), .int x1, .int x2] h o := by
  refine sXI (own := RX10) hfl rfl rfl (Nat.le_of_ble_eq_true rfl) (Nat.le_of_ble_eq_true rfl) (Nat.le_of_ble_eq_true rfl) (fun X O hret hthr hprop => ?_)
  show G l D X 3 (WC ad cy) 0 0 h 0 [(0, .ref (ad 0)), (1, .int x1), (2, .int x2)] []
  unfold f_X10_manyFar at E
  refine g_iload_n (pc' := 1) O ⟨dX10_manyFar_0, rfl⟩ (q := 1) rfl rfl ?_
  obtain ⟨z_5, c_2, e_6, E⟩ := bdx_of E
  refine g_XSv (pc' := 4) O ⟨dX10_manyFar_1, rfl⟩ (y := yX10_checkSteps) (As := [.int x1]) (st := []) (t_X10_checkSteps l D ad cy hfl (h := h) c_2) kw_905 kw_25 kw_903 kw_904 hd_X10_checkSteps ⟨Nat.le_of_ble_eq_true rfl, Nat.le_of_ble_eq_true rfl⟩ ⟨Nat.le_of_ble_eq_true rfl, Nat.le_of_ble_eq_true rfl⟩ rfl (Nat.le_of_ble_eq_true rfl) (fun E1 h1 q => hprop _ _ _ _ _ _ _ (e_6 _ q) (Nat.le_of_ble_eq_true rfl) (Nat.le_of_ble_eq_true rfl)) (fun r_1 q => ?_)
  replace E := E _ q
  refine g_iload_n (pc' := 5) O ⟨dX10_manyFar_4, rfl⟩ (q := 2) rfl rfl ?_
  refine g_if_ge (pc' := 8) O ⟨dX10_manyFar_5, rfl⟩ E (tgt := 19) (by decide) (fun E => ?_) (fun E => ?_)
  · refine g_aload_n (pc' := 20) O ⟨dX10_manyFar_19, rfl⟩ (q := 0) rfl rfl ?_
    refine gf_C_RX10_57_0 ad cy (pc' := 23) O ⟨dX10_manyFar_20, rfl⟩ ?_
    refine g_iload_n (pc' := 24) O ⟨dX10_manyFar_23, rfl⟩ (q := 1) rfl rfl ?_
    refine g_iload_n (pc' := 25) O ⟨dX10_manyFar_24, rfl⟩ (q := 2) rfl rfl ?_
    refine g_aload_n (pc' := 26) O ⟨dX10_manyFar_25, rfl⟩ (q := 0) rfl rfl ?_
    refine gf_C_RX10_10_0 ad cy (pc' := 29) O ⟨dX10_manyFar_26, rfl⟩ ?_
    refine gf_C_RX10_109_1 ad cy (pc' := 32) O ⟨dX10_manyFar_29, rfl⟩ ?_
    obtain ⟨r_3, c_4, E⟩ := bd_of E
    refine g_Vi (pc' := 35) O ⟨dX10_manyFar_32, rfl⟩ (y := yX6_countFar) (As := [.int x1, .int x2, .int (r_1.1 1 0)]) (st := []) (t_X6_countFar_28 l D ad cy (h := r_1) c_4) kw_976 kw_33 kw_973 kw_974 kw_975 rfl (wC_28 ad cy r_1) hd_X6_countFar ⟨Nat.le_of_ble_eq_true rfl, Nat.le_of_ble_eq_true rfl⟩ ⟨Nat.le_of_ble_eq_true rfl, Nat.le_of_ble_eq_true rfl⟩ rfl (Nat.le_of_ble_eq_true rfl) ?_
    cases E
    exact hret _ _ _ _ _ _ _ (Nat.le_of_ble_eq_true rfl) (Nat.le_of_ble_eq_true rfl) ⟨dX10_manyFar_35, rfl⟩ rfl rfl
  · cases E
    exact hthr _ _ _ _ _ _ _ _ _ _ _ ⟨thc_RX10_68, sr_318, dX10_manyFar_8, dX10_manyFar_11, Or.inr ⟨dX10_manyFar_12, dX10_manyFar_15, dX10_manyFar_18⟩⟩ rfl (Nat.le_of_ble_eq_true rfl) (Nat.le_of_ble_eq_true rfl) (Nat.le_of_ble_eq_true rfl)
set_option maxRecDepth 100000 in
set_option maxHeartbeats 4000000 in
theorem t_X10_ask (l : Launch) (D : va_G) (ad : Nat → Nat) (cy : Nat → ClassId) (hfl : l.stackTraces = false) {h : Hp} {x1 : Int32} {x2 : Int32} {o : (String × Hp) ⊕ (Int32 × Hp)} (E : f_X10_ask h x1 x2 = some o) : CtXI l D cy (WC ad cy) yX10_ask cX10_ask 3 .boolean 10 193 3 18 [.ref (ad 0), .int x1, .int x2] h o := by
  refine sXI (own := RX10) hfl rfl rfl (Nat.le_of_ble_eq_true rfl) (Nat.le_of_ble_eq_true rfl) (Nat.le_of_ble_eq_true rfl) (fun X O hret hthr hprop => ?_)
  show G l D X 3 (WC ad cy) 0 0 h 0 [(0, .ref (ad 0)), (1, .int x1), (2, .int x2)] []
  unfold f_X10_ask at E
  refine g_aload_n (pc' := 1) O ⟨dX10_ask_0, rfl⟩ (q := 0) rfl rfl ?_
  refine g_iload_n (pc' := 2) O ⟨dX10_ask_1, rfl⟩ (q := 1) rfl rfl ?_
  refine g_iload_n (pc' := 3) O ⟨dX10_ask_2, rfl⟩ (q := 2) rfl rfl ?_
  obtain ⟨z_5, c_2, e_6, E⟩ := bdx_of E
  refine g_XVv (pc' := 6) O ⟨dX10_ask_3, rfl⟩ (y := yX10_checkTwoWires) (As := [.int x1, .int x2]) (st := []) (t_X10_checkTwoWires l D ad cy hfl (h := h) c_2) kw_360 kw_25 kw_357 kw_359 kw_2 rfl (wC_0 ad cy h) hd_X10_checkTwoWires ⟨Nat.le_of_ble_eq_true rfl, Nat.le_of_ble_eq_true rfl⟩ ⟨Nat.le_of_ble_eq_true rfl, Nat.le_of_ble_eq_true rfl⟩ rfl (Nat.le_of_ble_eq_true rfl) (fun E1 h1 q => hprop _ _ _ _ _ _ _ (e_6 _ q) (Nat.le_of_ble_eq_true rfl) (Nat.le_of_ble_eq_true rfl)) (fun r_1 q => ?_)
  replace E := E _ q
  refine g_aload_n (pc' := 7) O ⟨dX10_ask_6, rfl⟩ (q := 0) rfl rfl ?_
  refine gf_C_RX10_64_0 ad cy (pc' := 10) O ⟨dX10_ask_7, rfl⟩ ?_
  refine g_iload_n (pc' := 11) O ⟨dX10_ask_10, rfl⟩ (q := 1) rfl rfl ?_
  refine g_iload_n (pc' := 12) O ⟨dX10_ask_11, rfl⟩ (q := 2) rfl rfl ?_
  refine g_aload_n (pc' := 13) O ⟨dX10_ask_12, rfl⟩ (q := 0) rfl rfl ?_
  refine gf_C_RX10_10_0 ad cy (pc' := 16) O ⟨dX10_ask_13, rfl⟩ ?_
  refine gf_C_RX10_109_1 ad cy (pc' := 19) O ⟨dX10_ask_16, rfl⟩ ?_
  obtain ⟨r_3, c_4, E⟩ := bd_of E
  refine g_Vi (pc' := 22) O ⟨dX10_ask_19, rfl⟩ (y := yX0_answer) (As := [.int x1, .int x2, .int (r_1.1 1 0)]) (st := []) (t_X0_answer_32 l D ad cy (h := r_1) c_4) kw_385 kw_34 kw_382 kw_383 kw_384 rfl (wC_32 ad cy r_1) hd_X0_answer ⟨Nat.le_of_ble_eq_true rfl, Nat.le_of_ble_eq_true rfl⟩ ⟨Nat.le_of_ble_eq_true rfl, Nat.le_of_ble_eq_true rfl⟩ rfl (Nat.le_of_ble_eq_true rfl) ?_
  obtain ⟨hn, E⟩ := ckz_of E
  cases E
  exact hret _ _ _ _ _ _ _ (Nat.le_of_ble_eq_true rfl) (Nat.le_of_ble_eq_true rfl) ⟨dX10_ask_22, rfl⟩ hn rfl
