/-! WALKS, laid by program: each method does what its pure program says -/
set_option maxRecDepth 100000 in
set_option maxHeartbeats 4000000 in
theorem t_X9_begin_1 (l : Launch) (D : va_G) (ad : Nat → Nat) (cy : Nat → ClassId) {h : Hp} {x1 : Int32} {o : Hp} (E : f_X9_begin_1 h x1 = some o) : CtV l D cy (WC ad cy) yX9_begin cX9_begin 2 0 0 [.ref (ad 1), .int x1] h o := by
  refine sV (own := RX9) rfl rfl (Nat.le_of_ble_eq_true rfl) (fun X O hret => ?_)
  show G l D X 2 (WC ad cy) 0 0 h 0 [(0, .ref (ad 1)), (1, .int x1)] []
  unfold f_X9_begin_1 at E
  refine g_aload_n (pc' := 1) O ⟨dX9_begin_0, rfl⟩ (q := 0) rfl rfl ?_
  refine g_iload_n (pc' := 2) O ⟨dX9_begin_1, rfl⟩ (q := 1) rfl rfl ?_
  refine gp_C_RX9_9_1 ad cy (pc' := 5) O ⟨dX9_begin_2, rfl⟩ ?_
  refine g_nmh E (fun h_1 E => ?_)
  refine g_aload_n (pc' := 6) O ⟨dX9_begin_5, rfl⟩ (q := 0) rfl rfl ?_
  refine g_iconst (pc' := 7) O ⟨dX9_begin_6, rfl⟩ (v := (0 : Int32)) rfl ?_
  refine gp_C_RX9_15_1 ad cy (pc' := 10) O ⟨dX9_begin_7, rfl⟩ ?_
  refine g_nmh E (fun h_2 E => ?_)
  cases E
  exact hret _ _ _ ⟨dX9_begin_10, rfl⟩
set_option maxRecDepth 100000 in
set_option maxHeartbeats 4000000 in
theorem t_X0_forget_32 (l : Launch) (D : va_G) (ad : Nat → Nat) (cy : Nat → ClassId) {h : Hp}  {o : Hp} (E : f_X0_forget_32 h = some o) : CtV l D cy (WC ad cy) yX0_forget cX0_forget 1 0 0 [.ref (ad 32)] h o := by
  refine sV (own := RX0) rfl rfl (Nat.le_of_ble_eq_true rfl) (fun X O hret => ?_)
  show G l D X 1 (WC ad cy) 0 0 h 0 [(0, .ref (ad 32))] []
  unfold f_X0_forget_32 at E
  refine g_aload_n (pc' := 1) O ⟨dX0_forget_0, rfl⟩ (q := 0) rfl rfl ?_
  refine g_lconst (pc' := 2) O ⟨dX0_forget_1, rfl⟩ (v := (0 : Int64)) rfl ?_
  refine gp_C_RX0_9_32 ad cy (pc' := 5) O ⟨dX0_forget_2, rfl⟩ ?_
  refine g_nmh E (fun h_1 E => ?_)
  cases E
  exact hret _ _ _ ⟨dX0_forget_5, rfl⟩
set_option maxRecDepth 100000 in
set_option maxHeartbeats 4000000 in
theorem t_X1_forget_23 (l : Launch) (D : va_G) (ad : Nat → Nat) (cy : Nat → ClassId) {h : Hp}  {o : Hp} (E : f_X1_forget_23 h = some o) : CtV l D cy (WC ad cy) yX1_forget cX1_forget 2 0 0 [.ref (ad 23)] h o := by
  refine sV (own := RX1) rfl rfl (Nat.le_of_ble_eq_true rfl) (fun X O hret => ?_)
  show G l D X 2 (WC ad cy) 0 0 h 0 [(0, .ref (ad 23))] []
  unfold f_X1_forget_23 at E
  refine g_iconst (pc' := 1) O ⟨dX1_forget_0, rfl⟩ (v := (0 : Int32)) rfl ?_
  refine g_istore_n (pc' := 2) O ⟨dX1_forget_1, rfl⟩ (lv' := [(1, .int (0 : Int32)), (0, .ref (ad 23))]) rfl (by decide) rfl ?_
  refine jn1_of (P := fun (h_1 : Hp) => G l D X 2 (WC ad cy) 0 0 h_1 28 [(0, .ref (ad 23))] []) E ?_ ?_
  · intro h_1 E
    show G l D X 2 (WC ad cy) 0 0 h_1 28 [(0, .ref (ad 23))] []
    refine g_iconst (pc' := 29) O ⟨dX1_forget_28, rfl⟩ (v := (0 : Int32)) rfl ?_
    refine g_istore_n (pc' := 30) O ⟨dX1_forget_29, rfl⟩ (lv' := [(1, .int (0 : Int32)), (0, .ref (ad 23))]) rfl (by decide) rfl ?_
    refine jn1_of (P := fun (h_2 : Hp) => G l D X 2 (WC ad cy) 0 0 h_2 49 [(0, .ref (ad 23))] []) E ?_ ?_
    · intro h_2 E
      show G l D X 2 (WC ad cy) 0 0 h_2 49 [(0, .ref (ad 23))] []
      refine g_aload_n (pc' := 50) O ⟨dX1_forget_49, rfl⟩ (q := 0) rfl rfl ?_
      refine g_iconst (pc' := 51) O ⟨dX1_forget_50, rfl⟩ (v := (0 : Int32)) rfl ?_
      refine gp_C_RX1_25_23 ad cy (pc' := 54) O ⟨dX1_forget_51, rfl⟩ ?_
      refine g_nmh E (fun h_3 E => ?_)
      cases E
      exact hret _ _ _ ⟨dX1_forget_54, rfl⟩
    · intro k49 hk49 E
      refine g_sub (lv' := [(0, .ref (ad 23)), (1, .int (0 : Int32))]) [1, 0] rfl ?_
      refine fx2_of (P := fun (x1_4 : Int32) (h_5 : Hp) => G l D X 2 (WC ad cy) 0 0 h_5 30 [(0, .ref (ad 23)), (1, .int x1_4)] []) ?_ _ _ _ E
      intro self ih30 x1_4 h_5 E
      show G l D X 2 (WC ad cy) 0 0 h_5 30 [(0, .ref (ad 23)), (1, .int x1_4)] []
      unfold L_X1_forget_23_30 at E
      refine g_iload_n (pc' := 31) O ⟨dX1_forget_30, rfl⟩ (q := 1) rfl rfl ?_
      refine g_bipush (pc' := 33) O ⟨dX1_forget_31, rfl⟩ (v := (24 : Int32)) rfl ?_
      refine g_icmp_ge (pc' := 36) O ⟨dX1_forget_33, rfl⟩ E (tgt := 49) (by decide) (fun E => ?_) (fun E => ?_)
      · refine g_sub (lv' := [(0, .ref (ad 23))]) [0] rfl ?_
        exact hk49 _ E
      · refine g_aload_n (pc' := 37) O ⟨dX1_forget_36, rfl⟩ (q := 0) rfl rfl ?_
        refine gf_C_RX1_21_23 ad cy (pc' := 40) O ⟨dX1_forget_37, rfl⟩ ?_
        refine g_iload_n (pc' := 41) O ⟨dX1_forget_40, rfl⟩ (q := 1) rfl rfl ?_
        refine g_iconst (pc' := 42) O ⟨dX1_forget_41, rfl⟩ (v := (0 : Int32)) rfl ?_
        refine g_zast (pc' := 43) O ⟨dX1_forget_42, rfl⟩ (wC_27 ad cy h_5) (vC_27 ad cy h_5 _) E (fun E => ?_)
        refine g_nmh E (fun h_6 E => ?_)
        refine g_iinc (pc' := 46) O ⟨dX1_forget_43, rfl⟩ (q := 1) (v := x1_4 + (1 : Int32)) (lv' := [(1, .int (x1_4 + (1 : Int32))), (0, .ref (ad 23))]) rfl rfl (by decide) rfl ?_
        refine g_goto (pc' := 49) O ⟨dX1_forget_46, rfl⟩ (tgt := 30) (by decide) ?_
        refine g_sub (lv' := [(0, .ref (ad 23)), (1, .int (x1_4 + (1 : Int32)))]) [1, 0] rfl ?_
        exact ih30 _ _ E
  · intro k28 hk28 E
    refine g_sub (lv' := [(0, .ref (ad 23)), (1, .int (0 : Int32))]) [1, 0] rfl ?_
    refine fx2_of (P := fun (x1_7 : Int32) (h_8 : Hp) => G l D X 2 (WC ad cy) 0 0 h_8 2 [(0, .ref (ad 23)), (1, .int x1_7)] []) ?_ _ _ _ E
    intro self ih2 x1_7 h_8 E
    show G l D X 2 (WC ad cy) 0 0 h_8 2 [(0, .ref (ad 23)), (1, .int x1_7)] []
    unfold L_X1_forget_23_2 at E
    refine g_iload_n (pc' := 3) O ⟨dX1_forget_2, rfl⟩ (q := 1) rfl rfl ?_
    refine g_bipush (pc' := 5) O ⟨dX1_forget_3, rfl⟩ (v := (6 : Int32)) rfl ?_
    refine g_icmp_ge (pc' := 8) O ⟨dX1_forget_5, rfl⟩ E (tgt := 28) (by decide) (fun E => ?_) (fun E => ?_)
    · refine g_sub (lv' := [(0, .ref (ad 23))]) [0] rfl ?_
      exact hk28 _ E
    · refine g_aload_n (pc' := 9) O ⟨dX1_forget_8, rfl⟩ (q := 0) rfl rfl ?_
      refine gf_C_RX1_9_23 ad cy (pc' := 12) O ⟨dX1_forget_9, rfl⟩ ?_
      refine g_iload_n (pc' := 13) O ⟨dX1_forget_12, rfl⟩ (q := 1) rfl rfl ?_
      refine g_iconst (pc' := 14) O ⟨dX1_forget_13, rfl⟩ (v := (0 : Int32)) rfl ?_
      refine g_iast (pc' := 15) O ⟨dX1_forget_14, rfl⟩ (wC_24 ad cy h_8) (vC_24 ad cy h_8 _) E (fun E => ?_)
      refine g_nmh E (fun h_9 E => ?_)
      refine g_aload_n (pc' := 16) O ⟨dX1_forget_15, rfl⟩ (q := 0) rfl rfl ?_
      refine gf_C_RX1_15_23 ad cy (pc' := 19) O ⟨dX1_forget_16, rfl⟩ ?_
      refine g_iload_n (pc' := 20) O ⟨dX1_forget_19, rfl⟩ (q := 1) rfl rfl ?_
      refine g_iconst (pc' := 21) O ⟨dX1_forget_20, rfl⟩ (v := (0 : Int32)) rfl ?_
      refine g_iast (pc' := 22) O ⟨dX1_forget_21, rfl⟩ (wC_25 ad cy h_9) (vC_25 ad cy h_9 _) E (fun E => ?_)
      refine g_nmh E (fun h_10 E => ?_)
      refine g_iinc (pc' := 25) O ⟨dX1_forget_22, rfl⟩ (q := 1) (v := x1_7 + (1 : Int32)) (lv' := [(1, .int (x1_7 + (1 : Int32))), (0, .ref (ad 23))]) rfl rfl (by decide) rfl ?_
      refine g_goto (pc' := 28) O ⟨dX1_forget_25, rfl⟩ (tgt := 2) (by decide) ?_
      refine g_sub (lv' := [(0, .ref (ad 23)), (1, .int (x1_7 + (1 : Int32)))]) [1, 0] rfl ?_
      exact ih2 _ _ E
set_option maxRecDepth 100000 in
set_option maxHeartbeats 4000000 in
theorem t_X7_forget_20 (l : Launch) (D : va_G) (ad : Nat → Nat) (cy : Nat → ClassId) {h : Hp}  {o : Hp} (E : f_X7_forget_20 h = some o) : CtV l D cy (WC ad cy) yX7_forget cX7_forget 1 0 0 [.ref (ad 20)] h o := by
  refine sV (own := RX7) rfl rfl (Nat.le_of_ble_eq_true rfl) (fun X O hret => ?_)
  show G l D X 1 (WC ad cy) 0 0 h 0 [(0, .ref (ad 20))] []
  unfold f_X7_forget_20 at E
  refine g_aload_n (pc' := 1) O ⟨dX7_forget_0, rfl⟩ (q := 0) rfl rfl ?_
  refine g_iconst (pc' := 2) O ⟨dX7_forget_1, rfl⟩ (v := (0 : Int32)) rfl ?_
  refine gp_C_RX7_19_20 ad cy (pc' := 5) O ⟨dX7_forget_2, rfl⟩ ?_
  refine g_nmh E (fun h_1 E => ?_)
  cases E
  exact hret _ _ _ ⟨dX7_forget_5, rfl⟩
set_option maxRecDepth 100000 in
set_option maxHeartbeats 4000000 in
theorem t_X10_forgetWhatDependsOnComparators (l : Launch) (D : va_G) (ad : Nat → Nat) (cy : Nat → ClassId) {h : Hp}  {o : Hp} (E : f_X10_forgetWhatDependsOnComparators h = some o) : CtV l D cy (WC ad cy) yX10_forgetWhatDependsOnComparators cX10_forgetWhatDependsOnComparators 1 1 21 [.ref (ad 0)] h o := by
  refine sV (own := RX10) rfl rfl (Nat.le_of_ble_eq_true rfl) (fun X O hret => ?_)
  show G l D X 1 (WC ad cy) 0 0 h 0 [(0, .ref (ad 0))] []
  unfold f_X10_forgetWhatDependsOnComparators at E
  refine g_aload_n (pc' := 1) O ⟨dX10_forgetWhatDependsOnComparators_0, rfl⟩ (q := 0) rfl rfl ?_
  refine gf_C_RX10_50_0 ad cy (pc' := 4) O ⟨dX10_forgetWhatDependsOnComparators_1, rfl⟩ ?_
  obtain ⟨r_1, c_2, E⟩ := bd_of E
  refine g_Vv (pc' := 7) O ⟨dX10_forgetWhatDependsOnComparators_4, rfl⟩ (y := yX1_forget) (As := []) (st := []) (t_X1_forget_23 l D ad cy (h := h) c_2) kw_340 kw_32 kw_337 kw_338 kw_339 rfl (wC_23 ad cy h) hd_X1_forget ⟨Nat.le_of_ble_eq_true rfl, Nat.le_of_ble_eq_true rfl⟩ ⟨Nat.le_of_ble_eq_true rfl, Nat.le_of_ble_eq_true rfl⟩ rfl (Nat.le_of_ble_eq_true rfl) ?_
  refine g_aload_n (pc' := 8) O ⟨dX10_forgetWhatDependsOnComparators_7, rfl⟩ (q := 0) rfl rfl ?_
  refine gf_C_RX10_43_0 ad cy (pc' := 11) O ⟨dX10_forgetWhatDependsOnComparators_8, rfl⟩ ?_
  obtain ⟨r_3, c_4, E⟩ := bd_of E
  refine g_Vv (pc' := 14) O ⟨dX10_forgetWhatDependsOnComparators_11, rfl⟩ (y := yX7_forget) (As := []) (st := []) (t_X7_forget_20 l D ad cy (h := r_1) c_4) kw_344 kw_31 kw_341 kw_342 kw_343 rfl (wC_20 ad cy r_1) hd_X7_forget ⟨Nat.le_of_ble_eq_true rfl, Nat.le_of_ble_eq_true rfl⟩ ⟨Nat.le_of_ble_eq_true rfl, Nat.le_of_ble_eq_true rfl⟩ rfl (Nat.le_of_ble_eq_true rfl) ?_
  cases E
  exact hret _ _ _ ⟨dX10_forgetWhatDependsOnComparators_14, rfl⟩
set_option maxRecDepth 100000 in
set_option maxHeartbeats 4000000 in
theorem t_X9_append_1 (l : Launch) (D : va_G) (ad : Nat → Nat) (cy : Nat → ClassId) {h : Hp} {x1 : Int32} {x2 : Int32} {o : Hp} (E : f_X9_append_1 h x1 x2 = some o) : CtV l D cy (WC ad cy) yX9_append cX9_append 3 0 0 [.ref (ad 1), .int x1, .int x2] h o := by
  refine sV (own := RX9) rfl rfl (Nat.le_of_ble_eq_true rfl) (fun X O hret => ?_)
  show G l D X 3 (WC ad cy) 0 0 h 0 [(0, .ref (ad 1)), (1, .int x1), (2, .int x2)] []
  unfold f_X9_append_1 at E
  refine g_aload_n (pc' := 1) O ⟨dX9_append_0, rfl⟩ (q := 0) rfl rfl ?_
  refine gf_C_RX9_15_1 ad cy (pc' := 4) O ⟨dX9_append_1, rfl⟩ ?_
  refine g_bipush (pc' := 6) O ⟨dX9_append_4, rfl⟩ (v := (24 : Int32)) rfl ?_
  refine g_icmp_ge (pc' := 9) O ⟨dX9_append_6, rfl⟩ E (tgt := 39) (by decide) (fun E => ?_) (fun E => ?_)
  · cases E
    exact hret _ _ _ ⟨dX9_append_39, rfl⟩
  · refine g_aload_n (pc' := 10) O ⟨dX9_append_9, rfl⟩ (q := 0) rfl rfl ?_
    refine gf_C_RX9_18_1 ad cy (pc' := 13) O ⟨dX9_append_10, rfl⟩ ?_
    refine g_aload_n (pc' := 14) O ⟨dX9_append_13, rfl⟩ (q := 0) rfl rfl ?_
    refine gf_C_RX9_15_1 ad cy (pc' := 17) O ⟨dX9_append_14, rfl⟩ ?_
    refine g_iload_n (pc' := 18) O ⟨dX9_append_17, rfl⟩ (q := 1) rfl rfl ?_
    refine g_iast (pc' := 19) O ⟨dX9_append_18, rfl⟩ (wC_2 ad cy h) (vC_2 ad cy h _) E (fun E => ?_)
    refine g_nmh E (fun h_1 E => ?_)
    refine g_aload_n (pc' := 20) O ⟨dX9_append_19, rfl⟩ (q := 0) rfl rfl ?_
    refine gf_C_RX9_22_1 ad cy (pc' := 23) O ⟨dX9_append_20, rfl⟩ ?_
    refine g_aload_n (pc' := 24) O ⟨dX9_append_23, rfl⟩ (q := 0) rfl rfl ?_
    refine gf_C_RX9_15_1 ad cy (pc' := 27) O ⟨dX9_append_24, rfl⟩ ?_
    refine g_iload_n (pc' := 28) O ⟨dX9_append_27, rfl⟩ (q := 2) rfl rfl ?_
    refine g_iast (pc' := 29) O ⟨dX9_append_28, rfl⟩ (wC_3 ad cy h_1) (vC_3 ad cy h_1 _) E (fun E => ?_)
    refine g_nmh E (fun h_2 E => ?_)
    refine g_aload_n (pc' := 30) O ⟨dX9_append_29, rfl⟩ (q := 0) rfl rfl ?_
    refine g_dup (pc' := 31) O ⟨dX9_append_30, rfl⟩ rfl ?_
    refine gf_C_RX9_15_1 ad cy (pc' := 34) O ⟨dX9_append_31, rfl⟩ ?_
    refine g_iconst (pc' := 35) O ⟨dX9_append_34, rfl⟩ (v := (1 : Int32)) rfl ?_
    refine g_iadd (pc' := 36) O ⟨dX9_append_35, rfl⟩ ?_
    refine gp_C_RX9_15_1 ad cy (pc' := 39) O ⟨dX9_append_36, rfl⟩ ?_
    refine g_nmh E (fun h_3 E => ?_)
    cases E
    exact hret _ _ _ ⟨dX9_append_39, rfl⟩
set_option maxRecDepth 100000 in
set_option maxHeartbeats 4000000 in
theorem t_X9_dropLast_1 (l : Launch) (D : va_G) (ad : Nat → Nat) (cy : Nat → ClassId) {h : Hp}  {o : Hp} (E : f_X9_dropLast_1 h = some o) : CtV l D cy (WC ad cy) yX9_dropLast cX9_dropLast 1 0 0 [.ref (ad 1)] h o := by
  refine sV (own := RX9) rfl rfl (Nat.le_of_ble_eq_true rfl) (fun X O hret => ?_)
  show G l D X 1 (WC ad cy) 0 0 h 0 [(0, .ref (ad 1))] []
  unfold f_X9_dropLast_1 at E
  refine g_aload_n (pc' := 1) O ⟨dX9_dropLast_0, rfl⟩ (q := 0) rfl rfl ?_
  refine g_dup (pc' := 2) O ⟨dX9_dropLast_1, rfl⟩ rfl ?_
  refine gf_C_RX9_15_1 ad cy (pc' := 5) O ⟨dX9_dropLast_2, rfl⟩ ?_
  refine g_iconst (pc' := 6) O ⟨dX9_dropLast_5, rfl⟩ (v := (1 : Int32)) rfl ?_
  refine g_isub (pc' := 7) O ⟨dX9_dropLast_6, rfl⟩ ?_
  refine gp_C_RX9_15_1 ad cy (pc' := 10) O ⟨dX9_dropLast_7, rfl⟩ ?_
  refine g_nmh E (fun h_1 E => ?_)
  cases E
  exact hret _ _ _ ⟨dX9_dropLast_10, rfl⟩
set_option maxRecDepth 100000 in
set_option maxHeartbeats 4000000 in
theorem t_X9_begin_6 (l : Launch) (D : va_G) (ad : Nat → Nat) (cy : Nat → ClassId) {h : Hp} {x1 : Int32} {o : Hp} (E : f_X9_begin_6 h x1 = some o) : CtV l D cy (WC ad cy) yX9_begin cX9_begin 2 0 0 [.ref (ad 6), .int x1] h o := by
  refine sV (own := RX9) rfl rfl (Nat.le_of_ble_eq_true rfl) (fun X O hret => ?_)
  show G l D X 2 (WC ad cy) 0 0 h 0 [(0, .ref (ad 6)), (1, .int x1)] []
  unfold f_X9_begin_6 at E
  refine g_aload_n (pc' := 1) O ⟨dX9_begin_0, rfl⟩ (q := 0) rfl rfl ?_
  refine g_iload_n (pc' := 2) O ⟨dX9_begin_1, rfl⟩ (q := 1) rfl rfl ?_
  refine gp_C_RX9_9_6 ad cy (pc' := 5) O ⟨dX9_begin_2, rfl⟩ ?_
  refine g_nmh E (fun h_1 E => ?_)
  refine g_aload_n (pc' := 6) O ⟨dX9_begin_5, rfl⟩ (q := 0) rfl rfl ?_
  refine g_iconst (pc' := 7) O ⟨dX9_begin_6, rfl⟩ (v := (0 : Int32)) rfl ?_
  refine gp_C_RX9_15_6 ad cy (pc' := 10) O ⟨dX9_begin_7, rfl⟩ ?_
  refine g_nmh E (fun h_2 E => ?_)
  cases E
  exact hret _ _ _ ⟨dX9_begin_10, rfl⟩
set_option maxRecDepth 100000 in
set_option maxHeartbeats 4000000 in
theorem t_X9_append_6 (l : Launch) (D : va_G) (ad : Nat → Nat) (cy : Nat → ClassId) {h : Hp} {x1 : Int32} {x2 : Int32} {o : Hp} (E : f_X9_append_6 h x1 x2 = some o) : CtV l D cy (WC ad cy) yX9_append cX9_append 3 0 0 [.ref (ad 6), .int x1, .int x2] h o := by
  refine sV (own := RX9) rfl rfl (Nat.le_of_ble_eq_true rfl) (fun X O hret => ?_)
  show G l D X 3 (WC ad cy) 0 0 h 0 [(0, .ref (ad 6)), (1, .int x1), (2, .int x2)] []
  unfold f_X9_append_6 at E
  refine g_aload_n (pc' := 1) O ⟨dX9_append_0, rfl⟩ (q := 0) rfl rfl ?_
  refine gf_C_RX9_15_6 ad cy (pc' := 4) O ⟨dX9_append_1, rfl⟩ ?_
  refine g_bipush (pc' := 6) O ⟨dX9_append_4, rfl⟩ (v := (24 : Int32)) rfl ?_
  refine g_icmp_ge (pc' := 9) O ⟨dX9_append_6, rfl⟩ E (tgt := 39) (by decide) (fun E => ?_) (fun E => ?_)
  · cases E
    exact hret _ _ _ ⟨dX9_append_39, rfl⟩
  · refine g_aload_n (pc' := 10) O ⟨dX9_append_9, rfl⟩ (q := 0) rfl rfl ?_
    refine gf_C_RX9_18_6 ad cy (pc' := 13) O ⟨dX9_append_10, rfl⟩ ?_
    refine g_aload_n (pc' := 14) O ⟨dX9_append_13, rfl⟩ (q := 0) rfl rfl ?_
    refine gf_C_RX9_15_6 ad cy (pc' := 17) O ⟨dX9_append_14, rfl⟩ ?_
    refine g_iload_n (pc' := 18) O ⟨dX9_append_17, rfl⟩ (q := 1) rfl rfl ?_
    refine g_iast (pc' := 19) O ⟨dX9_append_18, rfl⟩ (wC_7 ad cy h) (vC_7 ad cy h _) E (fun E => ?_)
    refine g_nmh E (fun h_1 E => ?_)
    refine g_aload_n (pc' := 20) O ⟨dX9_append_19, rfl⟩ (q := 0) rfl rfl ?_
    refine gf_C_RX9_22_6 ad cy (pc' := 23) O ⟨dX9_append_20, rfl⟩ ?_
    refine g_aload_n (pc' := 24) O ⟨dX9_append_23, rfl⟩ (q := 0) rfl rfl ?_
    refine gf_C_RX9_15_6 ad cy (pc' := 27) O ⟨dX9_append_24, rfl⟩ ?_
    refine g_iload_n (pc' := 28) O ⟨dX9_append_27, rfl⟩ (q := 2) rfl rfl ?_
    refine g_iast (pc' := 29) O ⟨dX9_append_28, rfl⟩ (wC_8 ad cy h_1) (vC_8 ad cy h_1 _) E (fun E => ?_)
    refine g_nmh E (fun h_2 E => ?_)
    refine g_aload_n (pc' := 30) O ⟨dX9_append_29, rfl⟩ (q := 0) rfl rfl ?_
    refine g_dup (pc' := 31) O ⟨dX9_append_30, rfl⟩ rfl ?_
    refine gf_C_RX9_15_6 ad cy (pc' := 34) O ⟨dX9_append_31, rfl⟩ ?_
    refine g_iconst (pc' := 35) O ⟨dX9_append_34, rfl⟩ (v := (1 : Int32)) rfl ?_
    refine g_iadd (pc' := 36) O ⟨dX9_append_35, rfl⟩ ?_
    refine gp_C_RX9_15_6 ad cy (pc' := 39) O ⟨dX9_append_36, rfl⟩ ?_
    refine g_nmh E (fun h_3 E => ?_)
    cases E
    exact hret _ _ _ ⟨dX9_append_39, rfl⟩
set_option maxRecDepth 100000 in
set_option maxHeartbeats 4000000 in
theorem t_X9_layAcross_6 (l : Launch) (D : va_G) (ad : Nat → Nat) (cy : Nat → ClassId) {h : Hp} {x1 : Int32} {x2 : Int32} {x3 : Int32} {o : Hp} (E : f_X9_layAcross_6 h x1 x2 x3 = some o) : CtV l D cy (WC ad cy) yX9_layAcross cX9_layAcross 5 1 22 [.ref (ad 6), .int x1, .int x2, .int x3] h o := by
  refine sV (own := RX9) rfl rfl (Nat.le_of_ble_eq_true rfl) (fun X O hret => ?_)
  show G l D X 5 (WC ad cy) 0 0 h 0 [(0, .ref (ad 6)), (1, .int x1), (2, .int x2), (3, .int x3)] []
  unfold f_X9_layAcross_6 at E
  refine g_iconst (pc' := 1) O ⟨dX9_layAcross_0, rfl⟩ (v := (0 : Int32)) rfl ?_
  refine g_istore (pc' := 3) O ⟨dX9_layAcross_1, rfl⟩ (lv' := [(4, .int (0 : Int32)), (0, .ref (ad 6)), (1, .int x1), (2, .int x2), (3, .int x3)]) (by decide) rfl ?_
  refine jn1_of (P := fun (h_1 : Hp) => G l D X 5 (WC ad cy) 0 0 h_1 38 [] []) E ?_ ?_
  · intro h_1 E
    show G l D X 5 (WC ad cy) 0 0 h_1 38 [] []
    cases E
    exact hret _ _ _ ⟨dX9_layAcross_38, rfl⟩
  · intro k38 hk38 E
    refine g_sub (lv' := [(0, .ref (ad 6)), (1, .int x1), (2, .int x2), (3, .int x3), (4, .int (0 : Int32))]) [1, 2, 3, 4, 0] rfl ?_
    refine fx2_of (P := fun (x4_2 : Int32) (h_3 : Hp) => G l D X 5 (WC ad cy) 0 0 h_3 3 [(0, .ref (ad 6)), (1, .int x1), (2, .int x2), (3, .int x3), (4, .int x4_2)] []) ?_ _ _ _ E
    intro self ih3 x4_2 h_3 E
    show G l D X 5 (WC ad cy) 0 0 h_3 3 [(0, .ref (ad 6)), (1, .int x1), (2, .int x2), (3, .int x3), (4, .int x4_2)] []
    unfold L_X9_layAcross_6_3 at E
    refine g_iload (pc' := 5) O ⟨dX9_layAcross_3, rfl⟩ (q := 4) rfl ?_
    refine g_iload_n (pc' := 6) O ⟨dX9_layAcross_5, rfl⟩ (q := 3) rfl rfl ?_
    refine g_iadd (pc' := 7) O ⟨dX9_layAcross_6, rfl⟩ ?_
    refine g_aload_n (pc' := 8) O ⟨dX9_layAcross_7, rfl⟩ (q := 0) rfl rfl ?_
    refine gf_C_RX9_9_6 ad cy (pc' := 11) O ⟨dX9_layAcross_8, rfl⟩ ?_
    refine g_icmp_ge (pc' := 14) O ⟨dX9_layAcross_11, rfl⟩ E (tgt := 38) (by decide) (fun E => ?_) (fun E => ?_)
    · refine g_sub (lv' := []) [] rfl ?_
      exact hk38 _ E
    · refine g_iload (pc' := 16) O ⟨dX9_layAcross_14, rfl⟩ (q := 4) rfl ?_
      refine g_iload_n (pc' := 17) O ⟨dX9_layAcross_16, rfl⟩ (q := 1) rfl rfl ?_
      refine g_iand (pc' := 18) O ⟨dX9_layAcross_17, rfl⟩ ?_
      refine g_iload_n (pc' := 19) O ⟨dX9_layAcross_18, rfl⟩ (q := 2) rfl rfl ?_
      refine g_icmp_ne (pc' := 22) O ⟨dX9_layAcross_19, rfl⟩ E (tgt := 32) (by decide) (fun E => ?_) (fun E => ?_)
      · refine g_iinc (pc' := 35) O ⟨dX9_layAcross_32, rfl⟩ (q := 4) (v := x4_2 + (1 : Int32)) (lv' := [(4, .int (x4_2 + (1 : Int32))), (0, .ref (ad 6)), (1, .int x1), (2, .int x2), (3, .int x3)]) rfl rfl (by decide) rfl ?_
        refine g_goto (pc' := 38) O ⟨dX9_layAcross_35, rfl⟩ (tgt := 3) (by decide) ?_
        refine g_sub (lv' := [(0, .ref (ad 6)), (1, .int x1), (2, .int x2), (3, .int x3), (4, .int (x4_2 + (1 : Int32)))]) [1, 2, 3, 4, 0] rfl ?_
        exact ih3 _ _ E
      · refine g_aload_n (pc' := 23) O ⟨dX9_layAcross_22, rfl⟩ (q := 0) rfl rfl ?_
        refine g_iload (pc' := 25) O ⟨dX9_layAcross_23, rfl⟩ (q := 4) rfl ?_
        refine g_iload (pc' := 27) O ⟨dX9_layAcross_25, rfl⟩ (q := 4) rfl ?_
        refine g_iload_n (pc' := 28) O ⟨dX9_layAcross_27, rfl⟩ (q := 3) rfl rfl ?_
        refine g_iadd (pc' := 29) O ⟨dX9_layAcross_28, rfl⟩ ?_
        obtain ⟨r_4, c_5, E⟩ := bd_of E
        refine g_Vv (pc' := 32) O ⟨dX9_layAcross_29, rfl⟩ (y := yX9_append) (As := [.int x4_2, .int (x4_2 + x3)]) (st := []) (t_X9_append_6 l D ad cy (h := h_3) c_5) kw_442 kw_26 kw_461 kw_440 kw_441 rfl (wC_6 ad cy h_3) hd_X9_append ⟨Nat.le_of_ble_eq_true rfl, Nat.le_of_ble_eq_true rfl⟩ ⟨Nat.le_of_ble_eq_true rfl, Nat.le_of_ble_eq_true rfl⟩ rfl (Nat.le_of_ble_eq_true rfl) ?_
        refine g_iinc (pc' := 35) O ⟨dX9_layAcross_32, rfl⟩ (q := 4) (v := x4_2 + (1 : Int32)) (lv' := [(4, .int (x4_2 + (1 : Int32))), (0, .ref (ad 6)), (1, .int x1), (2, .int x2), (3, .int x3)]) rfl rfl (by decide) rfl ?_
        refine g_goto (pc' := 38) O ⟨dX9_layAcross_35, rfl⟩ (tgt := 3) (by decide) ?_
        refine g_sub (lv' := [(0, .ref (ad 6)), (1, .int x1), (2, .int x2), (3, .int x3), (4, .int (x4_2 + (1 : Int32)))]) [1, 2, 3, 4, 0] rfl ?_
        exact ih3 _ _ E
set_option maxRecDepth 100000 in
set_option maxHeartbeats 4000000 in
theorem t_X9_layMerge_6 (l : Launch) (D : va_G) (ad : Nat → Nat) (cy : Nat → ClassId) {h : Hp}  {o : Hp} (E : f_X9_layMerge_6 h = some o) : CtV l D cy (WC ad cy) yX9_layMerge cX9_layMerge 4 2 46 [.ref (ad 6)] h o := by
  refine sV (own := RX9) rfl rfl (Nat.le_of_ble_eq_true rfl) (fun X O hret => ?_)
  show G l D X 4 (WC ad cy) 0 0 h 0 [(0, .ref (ad 6))] []
  unfold f_X9_layMerge_6 at E
  refine g_iconst (pc' := 1) O ⟨dX9_layMerge_0, rfl⟩ (v := (1 : Int32)) rfl ?_
  refine g_istore_n (pc' := 2) O ⟨dX9_layMerge_1, rfl⟩ (lv' := [(1, .int (1 : Int32)), (0, .ref (ad 6))]) rfl (by decide) rfl ?_
  refine jn1_of (P := fun (x1_1 : Int32) => G l D X 4 (WC ad cy) 0 0 h 19 [(0, .ref (ad 6)), (1, .int x1_1)] []) E ?_ ?_
  · intro x1_1 E
    show G l D X 4 (WC ad cy) 0 0 h 19 [(0, .ref (ad 6)), (1, .int x1_1)] []
    refine g_iload_n (pc' := 20) O ⟨dX9_layMerge_19, rfl⟩ (q := 1) rfl rfl ?_
    refine g_istore_n (pc' := 21) O ⟨dX9_layMerge_20, rfl⟩ (lv' := [(2, .int x1_1), (0, .ref (ad 6)), (1, .int x1_1)]) rfl (by decide) rfl ?_
    refine jn1_of (P := fun (h_2 : Hp) => G l D X 4 (WC ad cy) 0 0 h_2 63 [] []) E ?_ ?_
    · intro h_2 E
      show G l D X 4 (WC ad cy) 0 0 h_2 63 [] []
      cases E
      exact hret _ _ _ ⟨dX9_layMerge_63, rfl⟩
    · intro k63 hk63 E
      refine g_sub (lv' := [(0, .ref (ad 6)), (1, .int x1_1), (2, .int x1_1)]) [1, 2, 0] rfl ?_
      refine fx2_of (P := fun (x2_3 : Int32) (h_4 : Hp) => G l D X 4 (WC ad cy) 0 0 h_4 21 [(0, .ref (ad 6)), (1, .int x1_1), (2, .int x2_3)] []) ?_ _ _ _ E
      intro self ih21 x2_3 h_4 E
      show G l D X 4 (WC ad cy) 0 0 h_4 21 [(0, .ref (ad 6)), (1, .int x1_1), (2, .int x2_3)] []
      unfold L_X9_layMerge_6_21 at E
      refine g_iload_n (pc' := 22) O ⟨dX9_layMerge_21, rfl⟩ (q := 2) rfl rfl ?_
      refine g_iconst (pc' := 23) O ⟨dX9_layMerge_22, rfl⟩ (v := (1 : Int32)) rfl ?_
      refine g_icmp_lt (pc' := 26) O ⟨dX9_layMerge_23, rfl⟩ E (tgt := 63) (by decide) (fun E => ?_) (fun E => ?_)
      · refine g_sub (lv' := []) [] rfl ?_
        exact hk63 _ E
      · refine g_aload_n (pc' := 27) O ⟨dX9_layMerge_26, rfl⟩ (q := 0) rfl rfl ?_
        refine g_iload_n (pc' := 28) O ⟨dX9_layMerge_27, rfl⟩ (q := 2) rfl rfl ?_
        refine g_iconst (pc' := 29) O ⟨dX9_layMerge_28, rfl⟩ (v := (0 : Int32)) rfl ?_
        refine g_iload_n (pc' := 30) O ⟨dX9_layMerge_29, rfl⟩ (q := 2) rfl rfl ?_
        obtain ⟨r_5, c_6, E⟩ := bd_of E
        refine g_Vv (pc' := 33) O ⟨dX9_layMerge_30, rfl⟩ (y := yX9_layAcross) (As := [.int x2_3, .int (0 : Int32), .int x2_3]) (st := []) (t_X9_layAcross_6 l D ad cy (h := h_4) c_6) kw_473 kw_26 kw_470 kw_472 kw_6 rfl (wC_6 ad cy h_4) hd_X9_layAcross ⟨Nat.le_of_ble_eq_true rfl, Nat.le_of_ble_eq_true rfl⟩ ⟨Nat.le_of_ble_eq_true rfl, Nat.le_of_ble_eq_true rfl⟩ rfl (Nat.le_of_ble_eq_true rfl) ?_
        refine g_iload_n (pc' := 34) O ⟨dX9_layMerge_33, rfl⟩ (q := 1) rfl rfl ?_
        refine g_istore_n (pc' := 35) O ⟨dX9_layMerge_34, rfl⟩ (lv' := [(3, .int x1_1), (0, .ref (ad 6)), (1, .int x1_1), (2, .int x2_3)]) rfl (by decide) rfl ?_
        refine jn1_of (P := fun (h_7 : Hp) => G l D X 4 (WC ad cy) 0 0 h_7 56 [(0, .ref (ad 6)), (1, .int x1_1), (2, .int x2_3)] []) E ?_ ?_
        · intro h_7 E
          show G l D X 4 (WC ad cy) 0 0 h_7 56 [(0, .ref (ad 6)), (1, .int x1_1), (2, .int x2_3)] []
          refine g_iload_n (pc' := 57) O ⟨dX9_layMerge_56, rfl⟩ (q := 2) rfl rfl ?_
          refine g_iconst (pc' := 58) O ⟨dX9_layMerge_57, rfl⟩ (v := (2 : Int32)) rfl ?_
          refine g_idiv (pc' := 59) O ⟨dX9_layMerge_58, rfl⟩ (by decide) ?_
          refine g_nm E (fun y2_8 E => ?_)
          refine g_istore_n (pc' := 60) O ⟨dX9_layMerge_59, rfl⟩ (lv' := [(2, .int y2_8), (0, .ref (ad 6)), (1, .int x1_1)]) rfl (by decide) rfl ?_
          refine g_goto (pc' := 63) O ⟨dX9_layMerge_60, rfl⟩ (tgt := 21) (by decide) ?_
          refine g_sub (lv' := [(0, .ref (ad 6)), (1, .int x1_1), (2, .int y2_8)]) [1, 2, 0] rfl ?_
          exact ih21 _ _ E
        · intro k56 hk56 E
          refine g_sub (lv' := [(0, .ref (ad 6)), (1, .int x1_1), (2, .int x2_3), (3, .int x1_1)]) [1, 2, 3, 0] rfl ?_
          refine fx2_of (P := fun (x3_9 : Int32) (h_10 : Hp) => G l D X 4 (WC ad cy) 0 0 h_10 35 [(0, .ref (ad 6)), (1, .int x1_1), (2, .int x2_3), (3, .int x3_9)] []) ?_ _ _ _ E
          intro self ih35 x3_9 h_10 E
          show G l D X 4 (WC ad cy) 0 0 h_10 35 [(0, .ref (ad 6)), (1, .int x1_1), (2, .int x2_3), (3, .int x3_9)] []
          unfold L_X9_layMerge_6_35 at E
          refine g_iload_n (pc' := 36) O ⟨dX9_layMerge_35, rfl⟩ (q := 3) rfl rfl ?_
          refine g_iload_n (pc' := 37) O ⟨dX9_layMerge_36, rfl⟩ (q := 2) rfl rfl ?_
          refine g_icmp_le (pc' := 40) O ⟨dX9_layMerge_37, rfl⟩ E (tgt := 56) (by decide) (fun E => ?_) (fun E => ?_)
          · refine g_sub (lv' := [(0, .ref (ad 6)), (1, .int x1_1), (2, .int x2_3)]) [0, 1, 2] rfl ?_
            exact hk56 _ E
          · refine g_aload_n (pc' := 41) O ⟨dX9_layMerge_40, rfl⟩ (q := 0) rfl rfl ?_
            refine g_iload_n (pc' := 42) O ⟨dX9_layMerge_41, rfl⟩ (q := 2) rfl rfl ?_
            refine g_iload_n (pc' := 43) O ⟨dX9_layMerge_42, rfl⟩ (q := 2) rfl rfl ?_
            refine g_iload_n (pc' := 44) O ⟨dX9_layMerge_43, rfl⟩ (q := 3) rfl rfl ?_
            refine g_iload_n (pc' := 45) O ⟨dX9_layMerge_44, rfl⟩ (q := 2) rfl rfl ?_
            refine g_isub (pc' := 46) O ⟨dX9_layMerge_45, rfl⟩ ?_
            obtain ⟨r_11, c_12, E⟩ := bd_of E
            refine g_Vv (pc' := 49) O ⟨dX9_layMerge_46, rfl⟩ (y := yX9_layAcross) (As := [.int x2_3, .int x2_3, .int (x3_9 - x2_3)]) (st := []) (t_X9_layAcross_6 l D ad cy (h := h_10) c_12) kw_473 kw_26 kw_470 kw_472 kw_6 rfl (wC_6 ad cy h_10) hd_X9_layAcross ⟨Nat.le_of_ble_eq_true rfl, Nat.le_of_ble_eq_true rfl⟩ ⟨Nat.le_of_ble_eq_true rfl, Nat.le_of_ble_eq_true rfl⟩ rfl (Nat.le_of_ble_eq_true rfl) ?_
            refine g_iload_n (pc' := 50) O ⟨dX9_layMerge_49, rfl⟩ (q := 3) rfl rfl ?_
            refine g_iconst (pc' := 51) O ⟨dX9_layMerge_50, rfl⟩ (v := (2 : Int32)) rfl ?_
            refine g_idiv (pc' := 52) O ⟨dX9_layMerge_51, rfl⟩ (by decide) ?_
            refine g_nm E (fun y3_13 E => ?_)
            refine g_istore_n (pc' := 53) O ⟨dX9_layMerge_52, rfl⟩ (lv' := [(3, .int y3_13), (0, .ref (ad 6)), (1, .int x1_1), (2, .int x2_3)]) rfl (by decide) rfl ?_
            refine g_goto (pc' := 56) O ⟨dX9_layMerge_53, rfl⟩ (tgt := 35) (by decide) ?_
            refine g_sub (lv' := [(0, .ref (ad 6)), (1, .int x1_1), (2, .int x2_3), (3, .int y3_13)]) [1, 2, 3, 0] rfl ?_
            exact ih35 _ _ E
  · intro k19 hk19 E
    refine g_sub (lv' := [(0, .ref (ad 6)), (1, .int (1 : Int32))]) [1, 0] rfl ?_
    refine fx1_of (P := fun (x1_14 : Int32) => G l D X 4 (WC ad cy) 0 0 h 2 [(0, .ref (ad 6)), (1, .int x1_14)] []) ?_ _ _ E
    intro self ih2 x1_14 E
    show G l D X 4 (WC ad cy) 0 0 h 2 [(0, .ref (ad 6)), (1, .int x1_14)] []
    unfold L_X9_layMerge_6_2 at E
    refine g_iconst (pc' := 3) O ⟨dX9_layMerge_2, rfl⟩ (v := (2 : Int32)) rfl ?_
    refine g_iload_n (pc' := 4) O ⟨dX9_layMerge_3, rfl⟩ (q := 1) rfl rfl ?_
    refine g_imul (pc' := 5) O ⟨dX9_layMerge_4, rfl⟩ ?_
    refine g_aload_n (pc' := 6) O ⟨dX9_layMerge_5, rfl⟩ (q := 0) rfl rfl ?_
    refine gf_C_RX9_9_6 ad cy (pc' := 9) O ⟨dX9_layMerge_6, rfl⟩ ?_
    refine g_icmp_ge (pc' := 12) O ⟨dX9_layMerge_9, rfl⟩ E (tgt := 19) (by decide) (fun E => ?_) (fun E => ?_)
    · exact hk19 _ E
    · refine g_iload_n (pc' := 13) O ⟨dX9_layMerge_12, rfl⟩ (q := 1) rfl rfl ?_
      refine g_iconst (pc' := 14) O ⟨dX9_layMerge_13, rfl⟩ (v := (2 : Int32)) rfl ?_
      refine g_imul (pc' := 15) O ⟨dX9_layMerge_14, rfl⟩ ?_
      refine g_nm E (fun y1_15 E => ?_)
      refine g_istore_n (pc' := 16) O ⟨dX9_layMerge_15, rfl⟩ (lv' := [(1, .int y1_15), (0, .ref (ad 6))]) rfl (by decide) rfl ?_
      refine g_goto (pc' := 19) O ⟨dX9_layMerge_16, rfl⟩ (tgt := 2) (by decide) ?_
      refine g_sub (lv' := [(0, .ref (ad 6)), (1, .int y1_15)]) [1, 0] rfl ?_
      exact ih2 _ E
set_option maxRecDepth 100000 in
set_option maxHeartbeats 4000000 in
theorem t_X9_layBrick_6 (l : Launch) (D : va_G) (ad : Nat → Nat) (cy : Nat → ClassId) {h : Hp}  {o : Hp} (E : f_X9_layBrick_6 h = some o) : CtV l D cy (WC ad cy) yX9_layBrick cX9_layBrick 3 1 22 [.ref (ad 6)] h o := by
  refine sV (own := RX9) rfl rfl (Nat.le_of_ble_eq_true rfl) (fun X O hret => ?_)
  show G l D X 3 (WC ad cy) 0 0 h 0 [(0, .ref (ad 6))] []
  unfold f_X9_layBrick_6 at E
  refine g_iconst (pc' := 1) O ⟨dX9_layBrick_0, rfl⟩ (v := (0 : Int32)) rfl ?_
  refine g_istore_n (pc' := 2) O ⟨dX9_layBrick_1, rfl⟩ (lv' := [(1, .int (0 : Int32)), (0, .ref (ad 6))]) rfl (by decide) rfl ?_
  refine jn1_of (P := fun (h_1 : Hp) => G l D X 3 (WC ad cy) 0 0 h_1 44 [] []) E ?_ ?_
  · intro h_1 E
    show G l D X 3 (WC ad cy) 0 0 h_1 44 [] []
    cases E
    exact hret _ _ _ ⟨dX9_layBrick_44, rfl⟩
  · intro k44 hk44 E
    refine g_sub (lv' := [(0, .ref (ad 6)), (1, .int (0 : Int32))]) [1, 0] rfl ?_
    refine fx2_of (P := fun (x1_2 : Int32) (h_3 : Hp) => G l D X 3 (WC ad cy) 0 0 h_3 2 [(0, .ref (ad 6)), (1, .int x1_2)] []) ?_ _ _ _ E
    intro self ih2 x1_2 h_3 E
    show G l D X 3 (WC ad cy) 0 0 h_3 2 [(0, .ref (ad 6)), (1, .int x1_2)] []
    unfold L_X9_layBrick_6_2 at E
    refine g_iload_n (pc' := 3) O ⟨dX9_layBrick_2, rfl⟩ (q := 1) rfl rfl ?_
    refine g_aload_n (pc' := 4) O ⟨dX9_layBrick_3, rfl⟩ (q := 0) rfl rfl ?_
    refine gf_C_RX9_9_6 ad cy (pc' := 7) O ⟨dX9_layBrick_4, rfl⟩ ?_
    refine g_icmp_ge (pc' := 10) O ⟨dX9_layBrick_7, rfl⟩ E (tgt := 44) (by decide) (fun E => ?_) (fun E => ?_)
    · refine g_sub (lv' := []) [] rfl ?_
      exact hk44 _ E
    · refine g_iload_n (pc' := 11) O ⟨dX9_layBrick_10, rfl⟩ (q := 1) rfl rfl ?_
      refine g_iconst (pc' := 12) O ⟨dX9_layBrick_11, rfl⟩ (v := (2 : Int32)) rfl ?_
      refine g_irem (pc' := 13) O ⟨dX9_layBrick_12, rfl⟩ (by decide) ?_
      refine g_nm E (fun y2_4 E => ?_)
      refine g_istore_n (pc' := 14) O ⟨dX9_layBrick_13, rfl⟩ (lv' := [(2, .int y2_4), (0, .ref (ad 6)), (1, .int x1_2)]) rfl (by decide) rfl ?_
      refine jn1_of (P := fun (h_5 : Hp) => G l D X 3 (WC ad cy) 0 0 h_5 38 [(0, .ref (ad 6)), (1, .int x1_2)] []) E ?_ ?_
      · intro h_5 E
        show G l D X 3 (WC ad cy) 0 0 h_5 38 [(0, .ref (ad 6)), (1, .int x1_2)] []
        refine g_iinc (pc' := 41) O ⟨dX9_layBrick_38, rfl⟩ (q := 1) (v := x1_2 + (1 : Int32)) (lv' := [(1, .int (x1_2 + (1 : Int32))), (0, .ref (ad 6))]) rfl rfl (by decide) rfl ?_
        refine g_goto (pc' := 44) O ⟨dX9_layBrick_41, rfl⟩ (tgt := 2) (by decide) ?_
        refine g_sub (lv' := [(0, .ref (ad 6)), (1, .int (x1_2 + (1 : Int32)))]) [1, 0] rfl ?_
        exact ih2 _ _ E
      · intro k38 hk38 E
        refine g_sub (lv' := [(0, .ref (ad 6)), (1, .int x1_2), (2, .int y2_4)]) [1, 2, 0] rfl ?_
        refine fx2_of (P := fun (x2_6 : Int32) (h_7 : Hp) => G l D X 3 (WC ad cy) 0 0 h_7 14 [(0, .ref (ad 6)), (1, .int x1_2), (2, .int x2_6)] []) ?_ _ _ _ E
        intro self ih14 x2_6 h_7 E
        show G l D X 3 (WC ad cy) 0 0 h_7 14 [(0, .ref (ad 6)), (1, .int x1_2), (2, .int x2_6)] []
        unfold L_X9_layBrick_6_14 at E
        refine g_iload_n (pc' := 15) O ⟨dX9_layBrick_14, rfl⟩ (q := 2) rfl rfl ?_
        refine g_iconst (pc' := 16) O ⟨dX9_layBrick_15, rfl⟩ (v := (1 : Int32)) rfl ?_
        refine g_iadd (pc' := 17) O ⟨dX9_layBrick_16, rfl⟩ ?_
        refine g_aload_n (pc' := 18) O ⟨dX9_layBrick_17, rfl⟩ (q := 0) rfl rfl ?_
        refine gf_C_RX9_9_6 ad cy (pc' := 21) O ⟨dX9_layBrick_18, rfl⟩ ?_
        refine g_icmp_ge (pc' := 24) O ⟨dX9_layBrick_21, rfl⟩ E (tgt := 38) (by decide) (fun E => ?_) (fun E => ?_)
        · refine g_sub (lv' := [(0, .ref (ad 6)), (1, .int x1_2)]) [0, 1] rfl ?_
          exact hk38 _ E
        · refine g_aload_n (pc' := 25) O ⟨dX9_layBrick_24, rfl⟩ (q := 0) rfl rfl ?_
          refine g_iload_n (pc' := 26) O ⟨dX9_layBrick_25, rfl⟩ (q := 2) rfl rfl ?_
          refine g_iload_n (pc' := 27) O ⟨dX9_layBrick_26, rfl⟩ (q := 2) rfl rfl ?_
          refine g_iconst (pc' := 28) O ⟨dX9_layBrick_27, rfl⟩ (v := (1 : Int32)) rfl ?_
          refine g_iadd (pc' := 29) O ⟨dX9_layBrick_28, rfl⟩ ?_
          obtain ⟨r_8, c_9, E⟩ := bd_of E
          refine g_Vv (pc' := 32) O ⟨dX9_layBrick_29, rfl⟩ (y := yX9_append) (As := [.int x2_6, .int (x2_6 + (1 : Int32))]) (st := []) (t_X9_append_6 l D ad cy (h := h_7) c_9) kw_442 kw_26 kw_461 kw_440 kw_441 rfl (wC_6 ad cy h_7) hd_X9_append ⟨Nat.le_of_ble_eq_true rfl, Nat.le_of_ble_eq_true rfl⟩ ⟨Nat.le_of_ble_eq_true rfl, Nat.le_of_ble_eq_true rfl⟩ rfl (Nat.le_of_ble_eq_true rfl) ?_
          refine g_iinc (pc' := 35) O ⟨dX9_layBrick_32, rfl⟩ (q := 2) (v := x2_6 + (2 : Int32)) (lv' := [(2, .int (x2_6 + (2 : Int32))), (0, .ref (ad 6)), (1, .int x1_2)]) rfl rfl (by decide) rfl ?_
          refine g_goto (pc' := 38) O ⟨dX9_layBrick_35, rfl⟩ (tgt := 14) (by decide) ?_
          refine g_sub (lv' := [(0, .ref (ad 6)), (1, .int x1_2), (2, .int (x2_6 + (2 : Int32)))]) [1, 2, 0] rfl ?_
          exact ih14 _ _ E
set_option maxRecDepth 100000 in
set_option maxHeartbeats 4000000 in
theorem t_X9_layBubble_6 (l : Launch) (D : va_G) (ad : Nat → Nat) (cy : Nat → ClassId) {h : Hp}  {o : Hp} (E : f_X9_layBubble_6 h = some o) : CtV l D cy (WC ad cy) yX9_layBubble cX9_layBubble 3 1 22 [.ref (ad 6)] h o := by
  refine sV (own := RX9) rfl rfl (Nat.le_of_ble_eq_true rfl) (fun X O hret => ?_)
  show G l D X 3 (WC ad cy) 0 0 h 0 [(0, .ref (ad 6))] []
  unfold f_X9_layBubble_6 at E
  refine g_aload_n (pc' := 1) O ⟨dX9_layBubble_0, rfl⟩ (q := 0) rfl rfl ?_
  refine gf_C_RX9_9_6 ad cy (pc' := 4) O ⟨dX9_layBubble_1, rfl⟩ ?_
  refine g_iconst (pc' := 5) O ⟨dX9_layBubble_4, rfl⟩ (v := (1 : Int32)) rfl ?_
  refine g_isub (pc' := 6) O ⟨dX9_layBubble_5, rfl⟩ ?_
  refine g_nm E (fun y1_1 E => ?_)
  refine g_istore_n (pc' := 7) O ⟨dX9_layBubble_6, rfl⟩ (lv' := [(1, .int y1_1), (0, .ref (ad 6))]) rfl (by decide) rfl ?_
  refine jn1_of (P := fun (h_2 : Hp) => G l D X 3 (WC ad cy) 0 0 h_2 39 [] []) E ?_ ?_
  · intro h_2 E
    show G l D X 3 (WC ad cy) 0 0 h_2 39 [] []
    cases E
    exact hret _ _ _ ⟨dX9_layBubble_39, rfl⟩
  · intro k39 hk39 E
    refine g_sub (lv' := [(0, .ref (ad 6)), (1, .int y1_1)]) [1, 0] rfl ?_
    refine fx2_of (P := fun (x1_3 : Int32) (h_4 : Hp) => G l D X 3 (WC ad cy) 0 0 h_4 7 [(0, .ref (ad 6)), (1, .int x1_3)] []) ?_ _ _ _ E
    intro self ih7 x1_3 h_4 E
    show G l D X 3 (WC ad cy) 0 0 h_4 7 [(0, .ref (ad 6)), (1, .int x1_3)] []
    unfold L_X9_layBubble_6_7 at E
    refine g_iload_n (pc' := 8) O ⟨dX9_layBubble_7, rfl⟩ (q := 1) rfl rfl ?_
    refine g_iconst (pc' := 9) O ⟨dX9_layBubble_8, rfl⟩ (v := (1 : Int32)) rfl ?_
    refine g_icmp_lt (pc' := 12) O ⟨dX9_layBubble_9, rfl⟩ E (tgt := 39) (by decide) (fun E => ?_) (fun E => ?_)
    · refine g_sub (lv' := []) [] rfl ?_
      exact hk39 _ E
    · refine g_iconst (pc' := 13) O ⟨dX9_layBubble_12, rfl⟩ (v := (0 : Int32)) rfl ?_
      refine g_istore_n (pc' := 14) O ⟨dX9_layBubble_13, rfl⟩ (lv' := [(2, .int (0 : Int32)), (0, .ref (ad 6)), (1, .int x1_3)]) rfl (by decide) rfl ?_
      refine jn1_of (P := fun (h_5 : Hp) => G l D X 3 (WC ad cy) 0 0 h_5 33 [(0, .ref (ad 6)), (1, .int x1_3)] []) E ?_ ?_
      · intro h_5 E
        show G l D X 3 (WC ad cy) 0 0 h_5 33 [(0, .ref (ad 6)), (1, .int x1_3)] []
        refine g_iinc (pc' := 36) O ⟨dX9_layBubble_33, rfl⟩ (q := 1) (v := x1_3 + (-1 : Int32)) (lv' := [(1, .int (x1_3 + (-1 : Int32))), (0, .ref (ad 6))]) rfl rfl (by decide) rfl ?_
        refine g_goto (pc' := 39) O ⟨dX9_layBubble_36, rfl⟩ (tgt := 7) (by decide) ?_
        refine g_sub (lv' := [(0, .ref (ad 6)), (1, .int (x1_3 + (-1 : Int32)))]) [1, 0] rfl ?_
        exact ih7 _ _ E
      · intro k33 hk33 E
        refine g_sub (lv' := [(0, .ref (ad 6)), (1, .int x1_3), (2, .int (0 : Int32))]) [1, 2, 0] rfl ?_
        refine fx2_of (P := fun (x2_6 : Int32) (h_7 : Hp) => G l D X 3 (WC ad cy) 0 0 h_7 14 [(0, .ref (ad 6)), (1, .int x1_3), (2, .int x2_6)] []) ?_ _ _ _ E
        intro self ih14 x2_6 h_7 E
        show G l D X 3 (WC ad cy) 0 0 h_7 14 [(0, .ref (ad 6)), (1, .int x1_3), (2, .int x2_6)] []
        unfold L_X9_layBubble_6_14 at E
        refine g_iload_n (pc' := 15) O ⟨dX9_layBubble_14, rfl⟩ (q := 2) rfl rfl ?_
        refine g_iload_n (pc' := 16) O ⟨dX9_layBubble_15, rfl⟩ (q := 1) rfl rfl ?_
        refine g_icmp_ge (pc' := 19) O ⟨dX9_layBubble_16, rfl⟩ E (tgt := 33) (by decide) (fun E => ?_) (fun E => ?_)
        · refine g_sub (lv' := [(0, .ref (ad 6)), (1, .int x1_3)]) [0, 1] rfl ?_
          exact hk33 _ E
        · refine g_aload_n (pc' := 20) O ⟨dX9_layBubble_19, rfl⟩ (q := 0) rfl rfl ?_
          refine g_iload_n (pc' := 21) O ⟨dX9_layBubble_20, rfl⟩ (q := 2) rfl rfl ?_
          refine g_iload_n (pc' := 22) O ⟨dX9_layBubble_21, rfl⟩ (q := 2) rfl rfl ?_
          refine g_iconst (pc' := 23) O ⟨dX9_layBubble_22, rfl⟩ (v := (1 : Int32)) rfl ?_
          refine g_iadd (pc' := 24) O ⟨dX9_layBubble_23, rfl⟩ ?_
          obtain ⟨r_8, c_9, E⟩ := bd_of E
          refine g_Vv (pc' := 27) O ⟨dX9_layBubble_24, rfl⟩ (y := yX9_append) (As := [.int x2_6, .int (x2_6 + (1 : Int32))]) (st := []) (t_X9_append_6 l D ad cy (h := h_7) c_9) kw_442 kw_26 kw_461 kw_440 kw_441 rfl (wC_6 ad cy h_7) hd_X9_append ⟨Nat.le_of_ble_eq_true rfl, Nat.le_of_ble_eq_true rfl⟩ ⟨Nat.le_of_ble_eq_true rfl, Nat.le_of_ble_eq_true rfl⟩ rfl (Nat.le_of_ble_eq_true rfl) ?_
          refine g_iinc (pc' := 30) O ⟨dX9_layBubble_27, rfl⟩ (q := 2) (v := x2_6 + (1 : Int32)) (lv' := [(2, .int (x2_6 + (1 : Int32))), (0, .ref (ad 6)), (1, .int x1_3)]) rfl rfl (by decide) rfl ?_
          refine g_goto (pc' := 33) O ⟨dX9_layBubble_30, rfl⟩ (tgt := 14) (by decide) ?_
          refine g_sub (lv' := [(0, .ref (ad 6)), (1, .int x1_3), (2, .int (x2_6 + (1 : Int32)))]) [1, 2, 0] rfl ?_
          exact ih14 _ _ E
set_option maxRecDepth 100000 in
set_option maxHeartbeats 4000000 in
theorem t_X9_turnUpsideDown_1 (l : Launch) (D : va_G) (ad : Nat → Nat) (cy : Nat → ClassId) {h : Hp}  {o : Hp} (E : f_X9_turnUpsideDown_1 h = some o) : CtV l D cy (WC ad cy) yX9_turnUpsideDown cX9_turnUpsideDown 3 0 0 [.ref (ad 1)] h o := by
  refine sV (own := RX9) rfl rfl (Nat.le_of_ble_eq_true rfl) (fun X O hret => ?_)
  show G l D X 3 (WC ad cy) 0 0 h 0 [(0, .ref (ad 1))] []
  unfold f_X9_turnUpsideDown_1 at E
  refine g_iconst (pc' := 1) O ⟨dX9_turnUpsideDown_0, rfl⟩ (v := (0 : Int32)) rfl ?_
  refine g_istore_n (pc' := 2) O ⟨dX9_turnUpsideDown_1, rfl⟩ (lv' := [(1, .int (0 : Int32)), (0, .ref (ad 1))]) rfl (by decide) rfl ?_
  refine jn1_of (P := fun (h_1 : Hp) => G l D X 3 (WC ad cy) 0 0 h_1 56 [] []) E ?_ ?_
  · intro h_1 E
    show G l D X 3 (WC ad cy) 0 0 h_1 56 [] []
    cases E
    exact hret _ _ _ ⟨dX9_turnUpsideDown_56, rfl⟩
  · intro k56 hk56 E
    refine g_sub (lv' := [(0, .ref (ad 1)), (1, .int (0 : Int32))]) [1, 0] rfl ?_
    refine fx2_of (P := fun (x1_2 : Int32) (h_3 : Hp) => G l D X 3 (WC ad cy) 0 0 h_3 2 [(0, .ref (ad 1)), (1, .int x1_2)] []) ?_ _ _ _ E
    intro self ih2 x1_2 h_3 E
    show G l D X 3 (WC ad cy) 0 0 h_3 2 [(0, .ref (ad 1)), (1, .int x1_2)] []
    unfold L_X9_turnUpsideDown_1_2 at E
    refine g_iload_n (pc' := 3) O ⟨dX9_turnUpsideDown_2, rfl⟩ (q := 1) rfl rfl ?_
    refine g_aload_n (pc' := 4) O ⟨dX9_turnUpsideDown_3, rfl⟩ (q := 0) rfl rfl ?_
    refine gf_C_RX9_15_1 ad cy (pc' := 7) O ⟨dX9_turnUpsideDown_4, rfl⟩ ?_
    refine g_icmp_ge (pc' := 10) O ⟨dX9_turnUpsideDown_7, rfl⟩ E (tgt := 56) (by decide) (fun E => ?_) (fun E => ?_)
    · refine g_sub (lv' := []) [] rfl ?_
      exact hk56 _ E
    · refine g_aload_n (pc' := 11) O ⟨dX9_turnUpsideDown_10, rfl⟩ (q := 0) rfl rfl ?_
      refine gf_C_RX9_18_1 ad cy (pc' := 14) O ⟨dX9_turnUpsideDown_11, rfl⟩ ?_
      refine g_iload_n (pc' := 15) O ⟨dX9_turnUpsideDown_14, rfl⟩ (q := 1) rfl rfl ?_
      refine g_iald (pc' := 16) O ⟨dX9_turnUpsideDown_15, rfl⟩ (wC_2 ad cy h_3) E (fun E => ?_)
      refine g_istore_n (pc' := 17) O ⟨dX9_turnUpsideDown_16, rfl⟩ (lv' := [(2, .int (h_3.1 2 x1_2.toNatClampNeg)), (0, .ref (ad 1)), (1, .int x1_2)]) rfl (by decide) rfl ?_
      refine g_aload_n (pc' := 18) O ⟨dX9_turnUpsideDown_17, rfl⟩ (q := 1) rfl rfl ?_
      refine gf_C_RX9_18_1 ad cy (pc' := 21) O ⟨dX9_turnUpsideDown_18, rfl⟩ ?_
      refine g_iload_n (pc' := 22) O ⟨dX9_turnUpsideDown_21, rfl⟩ (q := 2) rfl rfl ?_
      refine g_aload_n (pc' := 23) O ⟨dX9_turnUpsideDown_22, rfl⟩ (q := 1) rfl rfl ?_
      refine gf_C_RX9_9_1 ad cy (pc' := 26) O ⟨dX9_turnUpsideDown_23, rfl⟩ ?_
      refine g_iconst (pc' := 27) O ⟨dX9_turnUpsideDown_26, rfl⟩ (v := (1 : Int32)) rfl ?_
      refine g_isub (pc' := 28) O ⟨dX9_turnUpsideDown_27, rfl⟩ ?_
      refine g_aload_n (pc' := 29) O ⟨dX9_turnUpsideDown_28, rfl⟩ (q := 1) rfl rfl ?_
      refine gf_C_RX9_22_1 ad cy (pc' := 32) O ⟨dX9_turnUpsideDown_29, rfl⟩ ?_
      refine g_iload_n (pc' := 33) O ⟨dX9_turnUpsideDown_32, rfl⟩ (q := 2) rfl rfl ?_
      refine g_iald (pc' := 34) O ⟨dX9_turnUpsideDown_33, rfl⟩ (wC_3 ad cy h_3) E (fun E => ?_)
      refine g_isub (pc' := 35) O ⟨dX9_turnUpsideDown_34, rfl⟩ ?_
      refine g_iast (pc' := 36) O ⟨dX9_turnUpsideDown_35, rfl⟩ (wC_2 ad cy h_3) (vC_2 ad cy h_3 _) E (fun E => ?_)
      refine g_nmh E (fun h_4 E => ?_)
      refine g_aload_n (pc' := 37) O ⟨dX9_turnUpsideDown_36, rfl⟩ (q := 1) rfl rfl ?_
      refine gf_C_RX9_22_1 ad cy (pc' := 40) O ⟨dX9_turnUpsideDown_37, rfl⟩ ?_
      refine g_iload_n (pc' := 41) O ⟨dX9_turnUpsideDown_40, rfl⟩ (q := 2) rfl rfl ?_
      refine g_aload_n (pc' := 42) O ⟨dX9_turnUpsideDown_41, rfl⟩ (q := 1) rfl rfl ?_
      refine gf_C_RX9_9_1 ad cy (pc' := 45) O ⟨dX9_turnUpsideDown_42, rfl⟩ ?_
      refine g_iconst (pc' := 46) O ⟨dX9_turnUpsideDown_45, rfl⟩ (v := (1 : Int32)) rfl ?_
      refine g_isub (pc' := 47) O ⟨dX9_turnUpsideDown_46, rfl⟩ ?_
      refine g_iload_n (pc' := 48) O ⟨dX9_turnUpsideDown_47, rfl⟩ (q := 0) rfl rfl ?_
      refine g_isub (pc' := 49) O ⟨dX9_turnUpsideDown_48, rfl⟩ ?_
      refine g_iast (pc' := 50) O ⟨dX9_turnUpsideDown_49, rfl⟩ (wC_3 ad cy h_4) (vC_3 ad cy h_4 _) E (fun E => ?_)
      refine g_nmh E (fun h_5 E => ?_)
      refine g_iinc (pc' := 53) O ⟨dX9_turnUpsideDown_50, rfl⟩ (q := 2) (v := x1_2 + (1 : Int32)) (lv' := [(1, .int (x1_2 + (1 : Int32))), (2, .int (h_3.1 2 x1_2.toNatClampNeg)), (0, .ref (ad 1))]) rfl rfl (by decide) rfl ?_
      refine g_goto (pc' := 56) O ⟨dX9_turnUpsideDown_53, rfl⟩ (tgt := 2) (by decide) ?_
      refine g_sub (lv' := [(0, .ref (ad 1)), (1, .int (x1_2 + (1 : Int32)))]) [2, 0] rfl ?_
      exact ih2 _ _ E
set_option maxRecDepth 100000 in
set_option maxHeartbeats 4000000 in
theorem t_X10_mirror (l : Launch) (D : va_G) (ad : Nat → Nat) (cy : Nat → ClassId) {h : Hp}  {o : Hp} (E : f_X10_mirror h = some o) : CtV l D cy (WC ad cy) yX10_mirror cX10_mirror 1 2 41 [.ref (ad 0)] h o := by
  refine sV (own := RX10) rfl rfl (Nat.le_of_ble_eq_true rfl) (fun X O hret => ?_)
  show G l D X 1 (WC ad cy) 0 0 h 0 [(0, .ref (ad 0))] []
  unfold f_X10_mirror at E
  refine g_aload_n (pc' := 1) O ⟨dX10_mirror_0, rfl⟩ (q := 0) rfl rfl ?_
  refine gf_C_RX10_10_0 ad cy (pc' := 4) O ⟨dX10_mirror_1, rfl⟩ ?_
  obtain ⟨r_1, c_2, E⟩ := bd_of E
  refine g_Vv (pc' := 7) O ⟨dX10_mirror_4, rfl⟩ (y := yX9_turnUpsideDown) (As := []) (st := []) (t_X9_turnUpsideDown_1 l D ad cy (h := h) c_2) kw_1056 kw_26 kw_1053 kw_1054 kw_1055 rfl (wC_1 ad cy h) hd_X9_turnUpsideDown ⟨Nat.le_of_ble_eq_true rfl, Nat.le_of_ble_eq_true rfl⟩ ⟨Nat.le_of_ble_eq_true rfl, Nat.le_of_ble_eq_true rfl⟩ rfl (Nat.le_of_ble_eq_true rfl) ?_
  refine g_aload_n (pc' := 8) O ⟨dX10_mirror_7, rfl⟩ (q := 0) rfl rfl ?_
  obtain ⟨r_3, c_4, E⟩ := bd_of E
  refine g_Vv (pc' := 11) O ⟨dX10_mirror_8, rfl⟩ (y := yX10_forgetWhatDependsOnComparators) (As := []) (st := []) (t_X10_forgetWhatDependsOnComparators l D ad cy (h := r_1) c_4) kw_336 kw_25 kw_333 kw_335 kw_1 rfl (wC_0 ad cy r_1) hd_X10_forgetWhatDependsOnComparators ⟨Nat.le_of_ble_eq_true rfl, Nat.le_of_ble_eq_true rfl⟩ ⟨Nat.le_of_ble_eq_true rfl, Nat.le_of_ble_eq_true rfl⟩ rfl (Nat.le_of_ble_eq_true rfl) ?_
  cases E
  exact hret _ _ _ ⟨dX10_mirror_11, rfl⟩
set_option maxRecDepth 100000 in
set_option maxHeartbeats 4000000 in
theorem t_X9_isCrooked_1 (l : Launch) (D : va_G) (ad : Nat → Nat) (cy : Nat → ClassId) {h : Hp} {x1 : Int32} {o : Int32} (E : f_X9_isCrooked_1 h x1 = some o) : CtI l D cy (WC ad cy) yX9_isCrooked cX9_isCrooked 2 .boolean 0 0 [.ref (ad 1), .int x1] h o h := by
  refine sI (own := RX9) rfl rfl (Nat.le_of_ble_eq_true rfl) (fun X O hret => ?_)
  show G l D X 2 (WC ad cy) 0 0 h 0 [(0, .ref (ad 1)), (1, .int x1)] []
  unfold f_X9_isCrooked_1 at E
  refine g_aload_n (pc' := 1) O ⟨dX9_isCrooked_0, rfl⟩ (q := 0) rfl rfl ?_
  refine gf_C_RX9_18_1 ad cy (pc' := 4) O ⟨dX9_isCrooked_1, rfl⟩ ?_
  refine g_iload_n (pc' := 5) O ⟨dX9_isCrooked_4, rfl⟩ (q := 1) rfl rfl ?_
  refine g_iald (pc' := 6) O ⟨dX9_isCrooked_5, rfl⟩ (wC_2 ad cy h) E (fun E => ?_)
  refine g_aload_n (pc' := 7) O ⟨dX9_isCrooked_6, rfl⟩ (q := 0) rfl rfl ?_
  refine gf_C_RX9_22_1 ad cy (pc' := 10) O ⟨dX9_isCrooked_7, rfl⟩ ?_
  refine g_iload_n (pc' := 11) O ⟨dX9_isCrooked_10, rfl⟩ (q := 1) rfl rfl ?_
  refine g_iald (pc' := 12) O ⟨dX9_isCrooked_11, rfl⟩ (wC_3 ad cy h) E (fun E => ?_)
  refine g_icmp_le (pc' := 15) O ⟨dX9_isCrooked_12, rfl⟩ E (tgt := 19) (by decide) (fun E => ?_) (fun E => ?_)
  · refine g_iconst (pc' := 20) O ⟨dX9_isCrooked_19, rfl⟩ (v := (0 : Int32)) rfl ?_
    obtain ⟨hn, E⟩ := ckz_of E
    cases E
    exact hret _ _ _ ⟨dX9_isCrooked_20, rfl⟩ hn
  · refine g_iconst (pc' := 16) O ⟨dX9_isCrooked_15, rfl⟩ (v := (1 : Int32)) rfl ?_
    refine g_goto (pc' := 19) O ⟨dX9_isCrooked_16, rfl⟩ (tgt := 20) (by decide) ?_
    obtain ⟨hn, E⟩ := ckz_of E
    cases E
    exact hret _ _ _ ⟨dX9_isCrooked_20, rfl⟩ hn
set_option maxRecDepth 100000 in
set_option maxHeartbeats 4000000 in
theorem t_X9_renamed (l : Launch) (D : va_G) (ad : Nat → Nat) (cy : Nat → ClassId) {h : Hp} {x0 : Int32} {x1 : Int32} {x2 : Int32} {o : Int32} (E : f_X9_renamed x0 x1 x2 = some o) : CtI l D cy (WC ad cy) yX9_renamed cX9_renamed 3 .int 0 0 [.int x0, .int x1, .int x2] h o h := by
  refine sI (own := RX9) rfl rfl (Nat.le_of_ble_eq_true rfl) (fun X O hret => ?_)
  show G l D X 3 (WC ad cy) 0 0 h 0 [(0, .int x0), (1, .int x1), (2, .int x2)] []
  unfold f_X9_renamed at E
  refine g_iload_n (pc' := 1) O ⟨dX9_renamed_0, rfl⟩ (q := 0) rfl rfl ?_
  refine g_iload_n (pc' := 2) O ⟨dX9_renamed_1, rfl⟩ (q := 1) rfl rfl ?_
  refine g_icmp_ne (pc' := 5) O ⟨dX9_renamed_2, rfl⟩ E (tgt := 7) (by decide) (fun E => ?_) (fun E => ?_)
  · refine g_iload_n (pc' := 8) O ⟨dX9_renamed_7, rfl⟩ (q := 0) rfl rfl ?_
    refine g_iload_n (pc' := 9) O ⟨dX9_renamed_8, rfl⟩ (q := 2) rfl rfl ?_
    refine g_icmp_ne (pc' := 12) O ⟨dX9_renamed_9, rfl⟩ E (tgt := 16) (by decide) (fun E => ?_) (fun E => ?_)
    · refine g_iload_n (pc' := 17) O ⟨dX9_renamed_16, rfl⟩ (q := 0) rfl rfl ?_
      cases E
      exact hret _ _ _ ⟨dX9_renamed_17, rfl⟩ rfl
    · refine g_iload_n (pc' := 13) O ⟨dX9_renamed_12, rfl⟩ (q := 1) rfl rfl ?_
      refine g_goto (pc' := 16) O ⟨dX9_renamed_13, rfl⟩ (tgt := 17) (by decide) ?_
      cases E
      exact hret _ _ _ ⟨dX9_renamed_17, rfl⟩ rfl
  · refine g_iload_n (pc' := 6) O ⟨dX9_renamed_5, rfl⟩ (q := 2) rfl rfl ?_
    cases E
    exact hret _ _ _ ⟨dX9_renamed_6, rfl⟩ rfl
set_option maxRecDepth 100000 in
set_option maxHeartbeats 4000000 in
theorem t_X9_changeNames_1 (l : Launch) (D : va_G) (ad : Nat → Nat) (cy : Nat → ClassId) {h : Hp} {x1 : Int32} {x2 : Int32} {x3 : Int32} {o : Hp} (E : f_X9_changeNames_1 h x1 x2 x3 = some o) : CtV l D cy (WC ad cy) yX9_changeNames cX9_changeNames 5 1 22 [.ref (ad 1), .int x1, .int x2, .int x3] h o := by
  refine sV (own := RX9) rfl rfl (Nat.le_of_ble_eq_true rfl) (fun X O hret => ?_)
  show G l D X 5 (WC ad cy) 0 0 h 0 [(0, .ref (ad 1)), (1, .int x1), (2, .int x2), (3, .int x3)] []
  unfold f_X9_changeNames_1 at E
  refine g_iload_n (pc' := 1) O ⟨dX9_changeNames_0, rfl⟩ (q := 3) rfl rfl ?_
  refine g_istore (pc' := 3) O ⟨dX9_changeNames_1, rfl⟩ (lv' := [(4, .int x3), (0, .ref (ad 1)), (1, .int x1), (2, .int x2), (3, .int x3)]) (by decide) rfl ?_
  refine jn1_of (P := fun (h_1 : Hp) => G l D X 5 (WC ad cy) 0 0 h_1 56 [] []) E ?_ ?_
  · intro h_1 E
    show G l D X 5 (WC ad cy) 0 0 h_1 56 [] []
    cases E
    exact hret _ _ _ ⟨dX9_changeNames_56, rfl⟩
  · intro k56 hk56 E
    refine g_sub (lv' := [(0, .ref (ad 1)), (1, .int x1), (2, .int x2), (4, .int x3)]) [1, 2, 3, 0] rfl ?_
    refine fx2_of (P := fun (x4_2 : Int32) (h_3 : Hp) => G l D X 5 (WC ad cy) 0 0 h_3 3 [(0, .ref (ad 1)), (1, .int x1), (2, .int x2), (4, .int x4_2)] []) ?_ _ _ _ E
    intro self ih3 x4_2 h_3 E
    show G l D X 5 (WC ad cy) 0 0 h_3 3 [(0, .ref (ad 1)), (1, .int x1), (2, .int x2), (4, .int x4_2)] []
    unfold L_X9_changeNames_1_3 at E
    refine g_iload (pc' := 5) O ⟨dX9_changeNames_3, rfl⟩ (q := 3) rfl ?_
    refine g_aload_n (pc' := 6) O ⟨dX9_changeNames_5, rfl⟩ (q := 0) rfl rfl ?_
    refine gf_C_RX9_15_1 ad cy (pc' := 9) O ⟨dX9_changeNames_6, rfl⟩ ?_
    refine g_icmp_ge (pc' := 12) O ⟨dX9_changeNames_9, rfl⟩ E (tgt := 56) (by decide) (fun E => ?_) (fun E => ?_)
    · refine g_sub (lv' := []) [] rfl ?_
      exact hk56 _ E
    · refine g_aload_n (pc' := 13) O ⟨dX9_changeNames_12, rfl⟩ (q := 0) rfl rfl ?_
      refine gf_C_RX9_18_1 ad cy (pc' := 16) O ⟨dX9_changeNames_13, rfl⟩ ?_
      refine g_iload (pc' := 18) O ⟨dX9_changeNames_16, rfl⟩ (q := 3) rfl ?_
      refine g_aload_n (pc' := 19) O ⟨dX9_changeNames_18, rfl⟩ (q := 0) rfl rfl ?_
      refine gf_C_RX9_18_1 ad cy (pc' := 22) O ⟨dX9_changeNames_19, rfl⟩ ?_
      refine g_iload (pc' := 24) O ⟨dX9_changeNames_22, rfl⟩ (q := 3) rfl ?_
      refine g_iald (pc' := 25) O ⟨dX9_changeNames_24, rfl⟩ (wC_2 ad cy h_3) E (fun E => ?_)
      refine g_iload_n (pc' := 26) O ⟨dX9_changeNames_25, rfl⟩ (q := 1) rfl rfl ?_
      refine g_iload_n (pc' := 27) O ⟨dX9_changeNames_26, rfl⟩ (q := 2) rfl rfl ?_
      obtain ⟨r_4, c_5, E⟩ := bd_of E
      refine g_Si (pc' := 30) O ⟨dX9_changeNames_27, rfl⟩ (y := yX9_renamed) (As := [.int (h_3.1 2 x4_2.toNatClampNeg), .int x1, .int x2]) (st := [.int x4_2, .ref (ad 2)]) (t_X9_renamed l D ad cy (h := h_3) c_5) kw_1071 kw_26 kw_1069 kw_1070 hd_X9_renamed ⟨Nat.le_of_ble_eq_true rfl, Nat.le_of_ble_eq_true rfl⟩ ⟨Nat.le_of_ble_eq_true rfl, Nat.le_of_ble_eq_true rfl⟩ rfl (Nat.le_of_ble_eq_true rfl) ?_
      refine g_iast (pc' := 31) O ⟨dX9_changeNames_30, rfl⟩ (wC_2 ad cy h_3) (vC_2 ad cy h_3 _) E (fun E => ?_)
      refine g_nmh E (fun h_6 E => ?_)
      refine g_aload_n (pc' := 32) O ⟨dX9_changeNames_31, rfl⟩ (q := 0) rfl rfl ?_
      refine gf_C_RX9_22_1 ad cy (pc' := 35) O ⟨dX9_changeNames_32, rfl⟩ ?_
      refine g_iload (pc' := 37) O ⟨dX9_changeNames_35, rfl⟩ (q := 3) rfl ?_
      refine g_aload_n (pc' := 38) O ⟨dX9_changeNames_37, rfl⟩ (q := 0) rfl rfl ?_
      refine gf_C_RX9_22_1 ad cy (pc' := 41) O ⟨dX9_changeNames_38, rfl⟩ ?_
      refine g_iload (pc' := 43) O ⟨dX9_changeNames_41, rfl⟩ (q := 3) rfl ?_
      refine g_iald (pc' := 44) O ⟨dX9_changeNames_43, rfl⟩ (wC_3 ad cy h_6) E (fun E => ?_)
      refine g_iload_n (pc' := 45) O ⟨dX9_changeNames_44, rfl⟩ (q := 1) rfl rfl ?_
      refine g_iload_n (pc' := 46) O ⟨dX9_changeNames_45, rfl⟩ (q := 2) rfl rfl ?_
      obtain ⟨r_7, c_8, E⟩ := bd_of E
      refine g_Si (pc' := 49) O ⟨dX9_changeNames_46, rfl⟩ (y := yX9_renamed) (As := [.int (h_6.1 3 x4_2.toNatClampNeg), .int x1, .int x2]) (st := [.int x4_2, .ref (ad 3)]) (t_X9_renamed l D ad cy (h := h_6) c_8) kw_1071 kw_26 kw_1069 kw_1070 hd_X9_renamed ⟨Nat.le_of_ble_eq_true rfl, Nat.le_of_ble_eq_true rfl⟩ ⟨Nat.le_of_ble_eq_true rfl, Nat.le_of_ble_eq_true rfl⟩ rfl (Nat.le_of_ble_eq_true rfl) ?_
      refine g_iast (pc' := 50) O ⟨dX9_changeNames_49, rfl⟩ (wC_3 ad cy h_6) (vC_3 ad cy h_6 _) E (fun E => ?_)
      refine g_nmh E (fun h_9 E => ?_)
      refine g_iinc (pc' := 53) O ⟨dX9_changeNames_50, rfl⟩ (q := 3) (v := x4_2 + (1 : Int32)) (lv' := [(4, .int (x4_2 + (1 : Int32))), (0, .ref (ad 1)), (1, .int x1), (2, .int x2)]) rfl rfl (by decide) rfl ?_
      refine g_goto (pc' := 56) O ⟨dX9_changeNames_53, rfl⟩ (tgt := 3) (by decide) ?_
      refine g_sub (lv' := [(0, .ref (ad 1)), (1, .int x1), (2, .int x2), (4, .int (x4_2 + (1 : Int32)))]) [1, 2, 3, 0] rfl ?_
      exact ih3 _ _ E
set_option maxRecDepth 100000 in
set_option maxHeartbeats 4000000 in
theorem t_X9_straighten_1 (l : Launch) (D : va_G) (ad : Nat → Nat) (cy : Nat → ClassId) {h : Hp}  {o : Int32 × Hp} (E : f_X9_straighten_1 h = some o) : CtI l D cy (WC ad cy) yX9_straighten cX9_straighten 3 .int 2 46 [.ref (ad 1)] h o.1 o.2 := by
  refine sI (own := RX9) rfl rfl (Nat.le_of_ble_eq_true rfl) (fun X O hret => ?_)
  show G l D X 3 (WC ad cy) 0 0 h 0 [(0, .ref (ad 1))] []
  unfold f_X9_straighten_1 at E
  refine g_iconst (pc' := 1) O ⟨dX9_straighten_0, rfl⟩ (v := (0 : Int32)) rfl ?_
  refine g_istore_n (pc' := 2) O ⟨dX9_straighten_1, rfl⟩ (lv' := [(1, .int (0 : Int32)), (0, .ref (ad 1))]) rfl (by decide) rfl ?_
  refine g_iconst (pc' := 3) O ⟨dX9_straighten_2, rfl⟩ (v := (0 : Int32)) rfl ?_
  refine g_istore_n (pc' := 4) O ⟨dX9_straighten_3, rfl⟩ (lv' := [(2, .int (0 : Int32)), (1, .int (0 : Int32)), (0, .ref (ad 1))]) rfl (by decide) rfl ?_
  refine jn2_of (P := fun (x1_1 : Int32) (h_2 : Hp) => G l D X 3 (WC ad cy) 0 0 h_2 46 [(1, .int x1_1)] []) E ?_ ?_
  · intro x1_1 h_2 E
    show G l D X 3 (WC ad cy) 0 0 h_2 46 [(1, .int x1_1)] []
    refine g_iload_n (pc' := 47) O ⟨dX9_straighten_46, rfl⟩ (q := 0) rfl rfl ?_
    cases E
    exact hret _ _ _ ⟨dX9_straighten_47, rfl⟩ rfl
  · intro k46 hk46 E
    refine g_sub (lv' := [(0, .ref (ad 1)), (1, .int (0 : Int32)), (2, .int (0 : Int32))]) [2, 1, 0] rfl ?_
    refine fx3_of (P := fun (x1_3 : Int32) (x2_4 : Int32) (h_5 : Hp) => G l D X 3 (WC ad cy) 0 0 h_5 4 [(0, .ref (ad 1)), (1, .int x1_3), (2, .int x2_4)] []) ?_ _ _ _ _ E
    intro self ih4 x1_3 x2_4 h_5 E
    show G l D X 3 (WC ad cy) 0 0 h_5 4 [(0, .ref (ad 1)), (1, .int x1_3), (2, .int x2_4)] []
    unfold L_X9_straighten_1_4 at E
    refine g_iload_n (pc' := 5) O ⟨dX9_straighten_4, rfl⟩ (q := 2) rfl rfl ?_
    refine g_aload_n (pc' := 6) O ⟨dX9_straighten_5, rfl⟩ (q := 0) rfl rfl ?_
    refine gf_C_RX9_15_1 ad cy (pc' := 9) O ⟨dX9_straighten_6, rfl⟩ ?_
    refine g_icmp_ge (pc' := 12) O ⟨dX9_straighten_9, rfl⟩ E (tgt := 46) (by decide) (fun E => ?_) (fun E => ?_)
    · refine g_sub (lv' := [(1, .int x1_3)]) [1] rfl ?_
      exact hk46 _ _ E
    · refine g_aload_n (pc' := 13) O ⟨dX9_straighten_12, rfl⟩ (q := 0) rfl rfl ?_
      refine g_iload_n (pc' := 14) O ⟨dX9_straighten_13, rfl⟩ (q := 2) rfl rfl ?_
      obtain ⟨r_6, c_7, E⟩ := bd_of E
      refine g_Vi (pc' := 17) O ⟨dX9_straighten_14, rfl⟩ (y := yX9_isCrooked) (As := [.int x2_4]) (st := []) (t_X9_isCrooked_1 l D ad cy (h := h_5) c_7) kw_607 kw_26 kw_604 kw_606 kw_9 rfl (wC_1 ad cy h_5) hd_X9_isCrooked ⟨Nat.le_of_ble_eq_true rfl, Nat.le_of_ble_eq_true rfl⟩ ⟨Nat.le_of_ble_eq_true rfl, Nat.le_of_ble_eq_true rfl⟩ rfl (Nat.le_of_ble_eq_true rfl) ?_
      refine g_if_eq (pc' := 20) O ⟨dX9_straighten_17, rfl⟩ E (tgt := 40) (by decide) (fun E => ?_) (fun E => ?_)
      · refine g_iinc (pc' := 43) O ⟨dX9_straighten_40, rfl⟩ (q := 2) (v := x2_4 + (1 : Int32)) (lv' := [(2, .int (x2_4 + (1 : Int32))), (0, .ref (ad 1)), (1, .int x1_3)]) rfl rfl (by decide) rfl ?_
        refine g_goto (pc' := 46) O ⟨dX9_straighten_43, rfl⟩ (tgt := 4) (by decide) ?_
        refine g_sub (lv' := [(0, .ref (ad 1)), (1, .int x1_3), (2, .int (x2_4 + (1 : Int32)))]) [1, 2, 0] rfl ?_
        exact ih4 _ _ _ E
      · refine g_aload_n (pc' := 21) O ⟨dX9_straighten_20, rfl⟩ (q := 0) rfl rfl ?_
        refine g_aload_n (pc' := 22) O ⟨dX9_straighten_21, rfl⟩ (q := 0) rfl rfl ?_
        refine gf_C_RX9_18_1 ad cy (pc' := 25) O ⟨dX9_straighten_22, rfl⟩ ?_
        refine g_iload_n (pc' := 26) O ⟨dX9_straighten_25, rfl⟩ (q := 2) rfl rfl ?_
        refine g_iald (pc' := 27) O ⟨dX9_straighten_26, rfl⟩ (wC_2 ad cy h_5) E (fun E => ?_)
        refine g_aload_n (pc' := 28) O ⟨dX9_straighten_27, rfl⟩ (q := 0) rfl rfl ?_
        refine gf_C_RX9_22_1 ad cy (pc' := 31) O ⟨dX9_straighten_28, rfl⟩ ?_
        refine g_iload_n (pc' := 32) O ⟨dX9_straighten_31, rfl⟩ (q := 2) rfl rfl ?_
        refine g_iald (pc' := 33) O ⟨dX9_straighten_32, rfl⟩ (wC_3 ad cy h_5) E (fun E => ?_)
        refine g_iload_n (pc' := 34) O ⟨dX9_straighten_33, rfl⟩ (q := 2) rfl rfl ?_
        obtain ⟨r_8, c_9, E⟩ := bd_of E
        refine g_Vv (pc' := 37) O ⟨dX9_straighten_34, rfl⟩ (y := yX9_changeNames) (As := [.int (h_5.1 2 x2_4.toNatClampNeg), .int (h_5.1 3 x2_4.toNatClampNeg), .int x2_4]) (st := []) (t_X9_changeNames_1 l D ad cy (h := h_5) c_9) kw_1068 kw_26 kw_1065 kw_1067 kw_23 rfl (wC_1 ad cy h_5) hd_X9_changeNames ⟨Nat.le_of_ble_eq_true rfl, Nat.le_of_ble_eq_true rfl⟩ ⟨Nat.le_of_ble_eq_true rfl, Nat.le_of_ble_eq_true rfl⟩ rfl (Nat.le_of_ble_eq_true rfl) ?_
        refine g_iinc (pc' := 40) O ⟨dX9_straighten_37, rfl⟩ (q := 1) (v := x1_3 + (1 : Int32)) (lv' := [(1, .int (x1_3 + (1 : Int32))), (0, .ref (ad 1)), (2, .int x2_4)]) rfl rfl (by decide) rfl ?_
        refine g_iinc (pc' := 43) O ⟨dX9_straighten_40, rfl⟩ (q := 2) (v := x2_4 + (1 : Int32)) (lv' := [(2, .int (x2_4 + (1 : Int32))), (1, .int (x1_3 + (1 : Int32))), (0, .ref (ad 1))]) rfl rfl (by decide) rfl ?_
        refine g_goto (pc' := 46) O ⟨dX9_straighten_43, rfl⟩ (tgt := 4) (by decide) ?_
        refine g_sub (lv' := [(0, .ref (ad 1)), (1, .int (x1_3 + (1 : Int32))), (2, .int (x2_4 + (1 : Int32)))]) [2, 1, 0] rfl ?_
        exact ih4 _ _ _ E
set_option maxRecDepth 100000 in
set_option maxHeartbeats 4000000 in
theorem t_X10_untangle (l : Launch) (D : va_G) (ad : Nat → Nat) (cy : Nat → ClassId) {h : Hp}  {o : Int32 × Hp} (E : f_X10_untangle h = some o) : CtI l D cy (WC ad cy) yX10_untangle cX10_untangle 2 .int 3 68 [.ref (ad 0)] h o.1 o.2 := by
  refine sI (own := RX10) rfl rfl (Nat.le_of_ble_eq_true rfl) (fun X O hret => ?_)
  show G l D X 2 (WC ad cy) 0 0 h 0 [(0, .ref (ad 0))] []
  unfold f_X10_untangle at E
  refine g_aload_n (pc' := 1) O ⟨dX10_untangle_0, rfl⟩ (q := 0) rfl rfl ?_
  refine gf_C_RX10_10_0 ad cy (pc' := 4) O ⟨dX10_untangle_1, rfl⟩ ?_
  obtain ⟨r_1, c_2, E⟩ := bd_of E
  refine g_Vi (pc' := 7) O ⟨dX10_untangle_4, rfl⟩ (y := yX9_straighten) (As := []) (st := []) (t_X9_straighten_1 l D ad cy (h := h) c_2) kw_1064 kw_26 kw_1061 kw_1062 kw_1063 rfl (wC_1 ad cy h) hd_X9_straighten ⟨Nat.le_of_ble_eq_true rfl, Nat.le_of_ble_eq_true rfl⟩ ⟨Nat.le_of_ble_eq_true rfl, Nat.le_of_ble_eq_true rfl⟩ rfl (Nat.le_of_ble_eq_true rfl) ?_
  refine g_istore_n (pc' := 8) O ⟨dX10_untangle_7, rfl⟩ (lv' := [(1, .int r_1.1), (0, .ref (ad 0))]) rfl (by decide) rfl ?_
  refine g_aload_n (pc' := 9) O ⟨dX10_untangle_8, rfl⟩ (q := 1) rfl rfl ?_
  obtain ⟨r_3, c_4, E⟩ := bd_of E
  refine g_Vv (pc' := 12) O ⟨dX10_untangle_9, rfl⟩ (y := yX10_forgetWhatDependsOnComparators) (As := []) (st := []) (t_X10_forgetWhatDependsOnComparators l D ad cy (h := r_1.2) c_4) kw_336 kw_25 kw_333 kw_335 kw_1 rfl (wC_0 ad cy r_1.2) hd_X10_forgetWhatDependsOnComparators ⟨Nat.le_of_ble_eq_true rfl, Nat.le_of_ble_eq_true rfl⟩ ⟨Nat.le_of_ble_eq_true rfl, Nat.le_of_ble_eq_true rfl⟩ rfl (Nat.le_of_ble_eq_true rfl) ?_
  refine g_iload_n (pc' := 13) O ⟨dX10_untangle_12, rfl⟩ (q := 0) rfl rfl ?_
  cases E
  exact hret _ _ _ ⟨dX10_untangle_13, rfl⟩ rfl
set_option maxRecDepth 100000 in
set_option maxHeartbeats 4000000 in
theorem t_X4_allRows (l : Launch) (D : va_G) (ad : Nat → Nat) (cy : Nat → ClassId) {h : Hp} {x0 : Int32} {o : Int64} (E : f_X4_allRows x0 = some o) : CtL l D cy (WC ad cy) yX4_allRows cX4_allRows 1 0 0 [.int x0] h o h := by
  refine sL (own := RX4) rfl rfl (Nat.le_of_ble_eq_true rfl) (fun X O hret => ?_)
  show G l D X 1 (WC ad cy) 0 0 h 0 [(0, .int x0)] []
  unfold f_X4_allRows at E
  refine g_iload_n (pc' := 1) O ⟨dX4_allRows_0, rfl⟩ (q := 0) rfl rfl ?_
  refine g_bipush (pc' := 3) O ⟨dX4_allRows_1, rfl⟩ (v := (6 : Int32)) rfl ?_
  refine g_icmp_lt (pc' := 6) O ⟨dX4_allRows_3, rfl⟩ E (tgt := 12) (by decide) (fun E => ?_) (fun E => ?_)
  · refine g_lconst (pc' := 13) O ⟨dX4_allRows_12, rfl⟩ (v := (1 : Int64)) rfl ?_
    refine g_iconst (pc' := 14) O ⟨dX4_allRows_13, rfl⟩ (v := (1 : Int32)) rfl ?_
    refine g_iload_n (pc' := 15) O ⟨dX4_allRows_14, rfl⟩ (q := 0) rfl rfl ?_
    refine g_ishl (pc' := 16) O ⟨dX4_allRows_15, rfl⟩ ?_
    refine g_lshl (pc' := 17) O ⟨dX4_allRows_16, rfl⟩ ?_
    refine g_lconst (pc' := 18) O ⟨dX4_allRows_17, rfl⟩ (v := (1 : Int64)) rfl ?_
    refine g_lsub (pc' := 19) O ⟨dX4_allRows_18, rfl⟩ ?_
    cases E
    exact hret _ _ _ ⟨dX4_allRows_19, rfl⟩
  · refine g_ldc2 (pc' := 9) O ⟨dX4_allRows_6, rfl⟩ kw_596 ?_
    refine g_goto (pc' := 12) O ⟨dX4_allRows_9, rfl⟩ (tgt := 19) (by decide) ?_
    cases E
    exact hret _ _ _ ⟨dX4_allRows_19, rfl⟩
set_option maxRecDepth 100000 in
set_option maxHeartbeats 4000000 in
theorem t_X4_bringIn_14 (l : Launch) (D : va_G) (ad : Nat → Nat) (cy : Nat → ClassId) {h : Hp} {x1 : Int32} {o : Hp} (E : f_X4_bringIn_14 h x1 = some o) : CtV l D cy (WC ad cy) yX4_bringIn cX4_bringIn 3 1 20 [.ref (ad 14), .int x1] h o := by
  refine sV (own := RX4) rfl rfl (Nat.le_of_ble_eq_true rfl) (fun X O hret => ?_)
  show G l D X 3 (WC ad cy) 0 0 h 0 [(0, .ref (ad 14)), (1, .int x1)] []
  unfold f_X4_bringIn_14 at E
  refine g_iconst (pc' := 1) O ⟨dX4_bringIn_0, rfl⟩ (v := (0 : Int32)) rfl ?_
  refine g_istore_n (pc' := 2) O ⟨dX4_bringIn_1, rfl⟩ (lv' := [(2, .int (0 : Int32)), (0, .ref (ad 14)), (1, .int x1)]) rfl (by decide) rfl ?_
  refine jn1_of (P := fun (h_1 : Hp) => G l D X 3 (WC ad cy) 0 0 h_1 26 [] []) E ?_ ?_
  · intro h_1 E
    show G l D X 3 (WC ad cy) 0 0 h_1 26 [] []
    cases E
    exact hret _ _ _ ⟨dX4_bringIn_26, rfl⟩
  · intro k26 hk26 E
    refine g_sub (lv' := [(0, .ref (ad 14)), (1, .int x1), (2, .int (0 : Int32))]) [1, 2, 0] rfl ?_
    refine fx2_of (P := fun (x2_2 : Int32) (h_3 : Hp) => G l D X 3 (WC ad cy) 0 0 h_3 2 [(0, .ref (ad 14)), (1, .int x1), (2, .int x2_2)] []) ?_ _ _ _ E
    intro self ih2 x2_2 h_3 E
    show G l D X 3 (WC ad cy) 0 0 h_3 2 [(0, .ref (ad 14)), (1, .int x1), (2, .int x2_2)] []
    unfold L_X4_bringIn_14_2 at E
    refine g_iload_n (pc' := 3) O ⟨dX4_bringIn_2, rfl⟩ (q := 2) rfl rfl ?_
    refine g_iload_n (pc' := 4) O ⟨dX4_bringIn_3, rfl⟩ (q := 1) rfl rfl ?_
    refine g_icmp_ge (pc' := 7) O ⟨dX4_bringIn_4, rfl⟩ E (tgt := 26) (by decide) (fun E => ?_) (fun E => ?_)
    · refine g_sub (lv' := []) [] rfl ?_
      exact hk26 _ E
    · refine g_aload_n (pc' := 8) O ⟨dX4_bringIn_7, rfl⟩ (q := 0) rfl rfl ?_
      refine g_iload_n (pc' := 9) O ⟨dX4_bringIn_8, rfl⟩ (q := 2) rfl rfl ?_
      refine g_gsINP (pc' := 12) O ⟨dX4_bringIn_9, rfl⟩ kw_591 (fun t_4 ht_4 => ?_)
      refine g_iload_n (pc' := 13) O ⟨dX4_bringIn_12, rfl⟩ (q := 2) rfl rfl ?_
      refine g_stl (pc' := 14) O ⟨dX4_bringIn_13, rfl⟩ ht_4 E (fun E => ?_)
      refine g_iload_n (pc' := 15) O ⟨dX4_bringIn_14, rfl⟩ (q := 1) rfl rfl ?_
      obtain ⟨r_5, c_6, E⟩ := bd_of E
      refine g_Sl (pc' := 18) O ⟨dX4_bringIn_15, rfl⟩ (y := yX4_allRows) (As := [.int x1]) (st := [.long (fINP x2_2.toNatClampNeg), .int x2_2, .ref (ad 14)]) (t_X4_allRows l D ad cy (h := h_3) c_6) kw_595 kw_28 kw_593 kw_594 hd_X4_allRows ⟨Nat.le_of_ble_eq_true rfl, Nat.le_of_ble_eq_true rfl⟩ ⟨Nat.le_of_ble_eq_true rfl, Nat.le_of_ble_eq_true rfl⟩ rfl (Nat.le_of_ble_eq_true rfl) ?_
      refine g_land (pc' := 19) O ⟨dX4_bringIn_18, rfl⟩ ?_
      refine g_last (pc' := 20) O ⟨dX4_bringIn_19, rfl⟩ (wC_14 ad cy h_3) (vC_14 ad cy h_3 _) E (fun E => ?_)
      refine g_nmh E (fun h_7 E => ?_)
      refine g_iinc (pc' := 23) O ⟨dX4_bringIn_20, rfl⟩ (q := 2) (v := x2_2 + (1 : Int32)) (lv' := [(2, .int (x2_2 + (1 : Int32))), (0, .ref (ad 14)), (1, .int x1)]) rfl rfl (by decide) rfl ?_
      refine g_goto (pc' := 26) O ⟨dX4_bringIn_23, rfl⟩ (tgt := 2) (by decide) ?_
      refine g_sub (lv' := [(0, .ref (ad 14)), (1, .int x1), (2, .int (x2_2 + (1 : Int32)))]) [1, 2, 0] rfl ?_
      exact ih2 _ _ E
set_option maxRecDepth 100000 in
set_option maxHeartbeats 4000000 in
theorem t_X4_compare_14 (l : Launch) (D : va_G) (ad : Nat → Nat) (cy : Nat → ClassId) {h : Hp} {x1 : Int32} {x2 : Int32} {o : Hp} (E : f_X4_compare_14 h x1 x2 = some o) : CtV l D cy (WC ad cy) yX4_compare cX4_compare 7 0 0 [.ref (ad 14), .int x1, .int x2] h o := by
  refine sV (own := RX4) rfl rfl (Nat.le_of_ble_eq_true rfl) (fun X O hret => ?_)
  show G l D X 7 (WC ad cy) 0 0 h 0 [(0, .ref (ad 14)), (1, .int x1), (2, .int x2)] []
  unfold f_X4_compare_14 at E
  refine g_aload_n (pc' := 1) O ⟨dX4_compare_0, rfl⟩ (q := 0) rfl rfl ?_
  refine g_iload_n (pc' := 2) O ⟨dX4_compare_1, rfl⟩ (q := 1) rfl rfl ?_
  refine g_lald (pc' := 3) O ⟨dX4_compare_2, rfl⟩ (wC_14 ad cy h) E (fun E => ?_)
  refine g_lstore_n (pc' := 4) O ⟨dX4_compare_3, rfl⟩ (lv' := [(3, .long (h.2 14 x1.toNatClampNeg)), (0, .ref (ad 14)), (1, .int x1), (2, .int x2)]) rfl (by decide) rfl ?_
  refine g_aload_n (pc' := 5) O ⟨dX4_compare_4, rfl⟩ (q := 1) rfl rfl ?_
  refine g_iload_n (pc' := 6) O ⟨dX4_compare_5, rfl⟩ (q := 3) rfl rfl ?_
  refine g_lald (pc' := 7) O ⟨dX4_compare_6, rfl⟩ (wC_14 ad cy h) E (fun E => ?_)
  refine g_lstore (pc' := 9) O ⟨dX4_compare_7, rfl⟩ (lv' := [(5, .long (h.2 14 x2.toNatClampNeg)), (3, .long (h.2 14 x1.toNatClampNeg)), (0, .ref (ad 14)), (1, .int x1), (2, .int x2)]) (by decide) rfl ?_
  refine g_aload_n (pc' := 10) O ⟨dX4_compare_9, rfl⟩ (q := 2) rfl rfl ?_
  refine g_iload_n (pc' := 11) O ⟨dX4_compare_10, rfl⟩ (q := 3) rfl rfl ?_
  refine g_lload_n (pc' := 12) O ⟨dX4_compare_11, rfl⟩ (q := 1) rfl rfl ?_
  refine g_lload (pc' := 14) O ⟨dX4_compare_12, rfl⟩ (q := 0) rfl ?_
  refine g_land (pc' := 15) O ⟨dX4_compare_14, rfl⟩ ?_
  refine g_last (pc' := 16) O ⟨dX4_compare_15, rfl⟩ (wC_14 ad cy h) (vC_14 ad cy h _) E (fun E => ?_)
  refine g_nmh E (fun h_1 E => ?_)
  refine g_aload_n (pc' := 17) O ⟨dX4_compare_16, rfl⟩ (q := 2) rfl rfl ?_
  refine g_iload_n (pc' := 18) O ⟨dX4_compare_17, rfl⟩ (q := 4) rfl rfl ?_
  refine g_lload_n (pc' := 19) O ⟨dX4_compare_18, rfl⟩ (q := 1) rfl rfl ?_
  refine g_lload (pc' := 21) O ⟨dX4_compare_19, rfl⟩ (q := 0) rfl ?_
  refine g_lor (pc' := 22) O ⟨dX4_compare_21, rfl⟩ ?_
  refine g_last (pc' := 23) O ⟨dX4_compare_22, rfl⟩ (wC_14 ad cy h_1) (vC_14 ad cy h_1 _) E (fun E => ?_)
  refine g_nmh E (fun h_2 E => ?_)
  cases E
  exact hret _ _ _ ⟨dX4_compare_23, rfl⟩
set_option maxRecDepth 100000 in
set_option maxHeartbeats 4000000 in
theorem t_X4_dropDead_13_1 (l : Launch) (D : va_G) (ad : Nat → Nat) (cy : Nat → ClassId) {h : Hp}  {o : Int32 × Hp} (E : f_X4_dropDead_13_1 h = some o) : CtI l D cy (WC ad cy) yX4_dropDead cX4_dropDead 6 .int 2 42 [.ref (ad 13), .ref (ad 1)] h o.1 o.2 := by
  refine sI (own := RX4) rfl rfl (Nat.le_of_ble_eq_true rfl) (fun X O hret => ?_)
  show G l D X 6 (WC ad cy) 0 0 h 0 [(0, .ref (ad 13)), (1, .ref (ad 1))] []
  unfold f_X4_dropDead_13_1 at E
  refine g_aload_n (pc' := 1) O ⟨dX4_dropDead_0, rfl⟩ (q := 1) rfl rfl ?_
  refine gf_C_RX4_63_1 ad cy (pc' := 4) O ⟨dX4_dropDead_1, rfl⟩ ?_
  refine g_istore_n (pc' := 5) O ⟨dX4_dropDead_4, rfl⟩ (lv' := [(2, .int (h.1 1 1)), (0, .ref (ad 13)), (1, .ref (ad 1))]) rfl (by decide) rfl ?_
  refine g_aload_n (pc' := 6) O ⟨dX4_dropDead_5, rfl⟩ (q := 1) rfl rfl ?_
  refine gf_C_RX4_9_13 ad cy (pc' := 9) O ⟨dX4_dropDead_6, rfl⟩ ?_
  refine g_aload_n (pc' := 10) O ⟨dX4_dropDead_9, rfl⟩ (q := 2) rfl rfl ?_
  refine gf_C_RX4_34_1 ad cy (pc' := 13) O ⟨dX4_dropDead_10, rfl⟩ ?_
  obtain ⟨r_1, c_2, E⟩ := bd_of E
  refine g_Sv (pc' := 16) O ⟨dX4_dropDead_13, rfl⟩ (y := yX4_bringIn) (As := [.ref (ad 14), .int (h.1 1 0)]) (st := []) (t_X4_bringIn_14 l D ad cy (h := h) c_2) kw_590 kw_28 kw_588 kw_589 hd_X4_bringIn ⟨Nat.le_of_ble_eq_true rfl, Nat.le_of_ble_eq_true rfl⟩ ⟨Nat.le_of_ble_eq_true rfl, Nat.le_of_ble_eq_true rfl⟩ rfl (Nat.le_of_ble_eq_true rfl) ?_
  refine g_aload_n (pc' := 17) O ⟨dX4_dropDead_16, rfl⟩ (q := 2) rfl rfl ?_
  refine g_iconst (pc' := 18) O ⟨dX4_dropDead_17, rfl⟩ (v := (0 : Int32)) rfl ?_
  refine gp_C_RX4_63_1 ad cy (pc' := 21) O ⟨dX4_dropDead_18, rfl⟩ ?_
  refine g_nmh E (fun h_3 E => ?_)
  refine g_iconst (pc' := 22) O ⟨dX4_dropDead_21, rfl⟩ (v := (0 : Int32)) rfl ?_
  refine g_istore_n (pc' := 23) O ⟨dX4_dropDead_22, rfl⟩ (lv' := [(3, .int (0 : Int32)), (2, .int (h.1 1 1)), (0, .ref (ad 13)), (1, .ref (ad 1))]) rfl (by decide) rfl ?_
  refine jn1_of (P := fun (h_4 : Hp) => G l D X 6 (WC ad cy) 0 0 h_4 93 [(1, .ref (ad 1)), (2, .int (h.1 1 1))] []) E ?_ ?_
  · intro h_4 E
    show G l D X 6 (WC ad cy) 0 0 h_4 93 [(1, .ref (ad 1)), (2, .int (h.1 1 1))] []
    refine g_iload_n (pc' := 94) O ⟨dX4_dropDead_93, rfl⟩ (q := 1) rfl rfl ?_
    refine g_aload_n (pc' := 95) O ⟨dX4_dropDead_94, rfl⟩ (q := 0) rfl rfl ?_
    refine gf_C_RX4_63_1 ad cy (pc' := 98) O ⟨dX4_dropDead_95, rfl⟩ ?_
    refine g_isub (pc' := 99) O ⟨dX4_dropDead_98, rfl⟩ ?_
    cases E
    exact hret _ _ _ ⟨dX4_dropDead_99, rfl⟩ rfl
  · intro k93 hk93 E
    refine g_sub (lv' := [(0, .ref (ad 13)), (1, .ref (ad 1)), (2, .int (h.1 1 1)), (3, .int (0 : Int32))]) [2, 3, 1, 0] rfl ?_
    refine fx2_of (P := fun (x3_5 : Int32) (h_6 : Hp) => G l D X 6 (WC ad cy) 0 0 h_6 23 [(0, .ref (ad 13)), (1, .ref (ad 1)), (2, .int (h.1 1 1)), (3, .int x3_5)] []) ?_ _ _ _ E
    intro self ih23 x3_5 h_6 E
    show G l D X 6 (WC ad cy) 0 0 h_6 23 [(0, .ref (ad 13)), (1, .ref (ad 1)), (2, .int (h.1 1 1)), (3, .int x3_5)] []
    unfold L_X4_dropDead_13_1_23 at E
    refine g_iload_n (pc' := 24) O ⟨dX4_dropDead_23, rfl⟩ (q := 3) rfl rfl ?_
    refine g_iload_n (pc' := 25) O ⟨dX4_dropDead_24, rfl⟩ (q := 2) rfl rfl ?_
    refine g_icmp_ge (pc' := 28) O ⟨dX4_dropDead_25, rfl⟩ E (tgt := 93) (by decide) (fun E => ?_) (fun E => ?_)
    · refine g_sub (lv' := [(1, .ref (ad 1)), (2, .int (h.1 1 1))]) [1, 2] rfl ?_
      exact hk93 _ E
    · refine g_aload_n (pc' := 29) O ⟨dX4_dropDead_28, rfl⟩ (q := 1) rfl rfl ?_
      refine gf_C_RX4_44_1 ad cy (pc' := 32) O ⟨dX4_dropDead_29, rfl⟩ ?_
      refine g_iload_n (pc' := 33) O ⟨dX4_dropDead_32, rfl⟩ (q := 3) rfl rfl ?_
      refine g_iald (pc' := 34) O ⟨dX4_dropDead_33, rfl⟩ (wC_2 ad cy h_6) E (fun E => ?_)
      refine g_istore (pc' := 36) O ⟨dX4_dropDead_34, rfl⟩ (lv' := [(4, .int (h_6.1 2 x3_5.toNatClampNeg)), (0, .ref (ad 13)), (1, .ref (ad 1)), (2, .int (h.1 1 1)), (3, .int x3_5)]) (by decide) rfl ?_
      refine g_aload_n (pc' := 37) O ⟨dX4_dropDead_36, rfl⟩ (q := 2) rfl rfl ?_
      refine gf_C_RX4_48_1 ad cy (pc' := 40) O ⟨dX4_dropDead_37, rfl⟩ ?_
      refine g_iload_n (pc' := 41) O ⟨dX4_dropDead_40, rfl⟩ (q := 4) rfl rfl ?_
      refine g_iald (pc' := 42) O ⟨dX4_dropDead_41, rfl⟩ (wC_3 ad cy h_6) E (fun E => ?_)
      refine g_istore (pc' := 44) O ⟨dX4_dropDead_42, rfl⟩ (lv' := [(5, .int (h_6.1 3 x3_5.toNatClampNeg)), (4, .int (h_6.1 2 x3_5.toNatClampNeg)), (0, .ref (ad 13)), (1, .ref (ad 1)), (2, .int (h.1 1 1)), (3, .int x3_5)]) (by decide) rfl ?_
      refine g_aload_n (pc' := 45) O ⟨dX4_dropDead_44, rfl⟩ (q := 2) rfl rfl ?_
      refine gf_C_RX4_9_13 ad cy (pc' := 48) O ⟨dX4_dropDead_45, rfl⟩ ?_
      refine g_iload (pc' := 50) O ⟨dX4_dropDead_48, rfl⟩ (q := 1) rfl ?_
      refine g_lald (pc' := 51) O ⟨dX4_dropDead_50, rfl⟩ (wC_14 ad cy h_6) E (fun E => ?_)
      refine g_aload_n (pc' := 52) O ⟨dX4_dropDead_51, rfl⟩ (q := 2) rfl rfl ?_
      refine gf_C_RX4_9_13 ad cy (pc' := 55) O ⟨dX4_dropDead_52, rfl⟩ ?_
      refine g_iload (pc' := 57) O ⟨dX4_dropDead_55, rfl⟩ (q := 0) rfl ?_
      refine g_lald (pc' := 58) O ⟨dX4_dropDead_57, rfl⟩ (wC_14 ad cy h_6) E (fun E => ?_)
      refine g_ldc2 (pc' := 61) O ⟨dX4_dropDead_58, rfl⟩ kw_596 ?_
      refine g_lxor (pc' := 62) O ⟨dX4_dropDead_61, rfl⟩ ?_
      refine g_land (pc' := 63) O ⟨dX4_dropDead_62, rfl⟩ ?_
      refine g_lconst (pc' := 64) O ⟨dX4_dropDead_63, rfl⟩ (v := (0 : Int64)) rfl ?_
      refine g_lcmp (pc' := 65) O ⟨dX4_dropDead_64, rfl⟩ ?_
      refine g_if_eq (pc' := 68) O ⟨dX4_dropDead_65, rfl⟩ E (tgt := 87) (by decide) (fun E => ?_) (fun E => ?_)
      · refine g_iinc (pc' := 90) O ⟨dX4_dropDead_87, rfl⟩ (q := 5) (v := x3_5 + (1 : Int32)) (lv' := [(3, .int (x3_5 + (1 : Int32))), (5, .int (h_6.1 3 x3_5.toNatClampNeg)), (4, .int (h_6.1 2 x3_5.toNatClampNeg)), (0, .ref (ad 13)), (1, .ref (ad 1)), (2, .int (h.1 1 1))]) rfl rfl (by decide) rfl ?_
        refine g_goto (pc' := 93) O ⟨dX4_dropDead_90, rfl⟩ (tgt := 23) (by decide) ?_
        refine g_sub (lv' := [(0, .ref (ad 13)), (1, .ref (ad 1)), (2, .int (h.1 1 1)), (3, .int (x3_5 + (1 : Int32)))]) [3, 4, 5, 0] rfl ?_
        exact ih23 _ _ E
      · refine g_aload_n (pc' := 69) O ⟨dX4_dropDead_68, rfl⟩ (q := 2) rfl rfl ?_
        refine gf_C_RX4_9_13 ad cy (pc' := 72) O ⟨dX4_dropDead_69, rfl⟩ ?_
        refine g_iload (pc' := 74) O ⟨dX4_dropDead_72, rfl⟩ (q := 1) rfl ?_
        refine g_iload (pc' := 76) O ⟨dX4_dropDead_74, rfl⟩ (q := 0) rfl ?_
        obtain ⟨r_7, c_8, E⟩ := bd_of E
        refine g_Sv (pc' := 79) O ⟨dX4_dropDead_76, rfl⟩ (y := yX4_compare) (As := [.ref (ad 14), .int (h_6.1 2 x3_5.toNatClampNeg), .int (h_6.1 3 x3_5.toNatClampNeg)]) (st := []) (t_X4_compare_14 l D ad cy (h := h_6) c_8) kw_599 kw_28 kw_597 kw_598 hd_X4_compare ⟨Nat.le_of_ble_eq_true rfl, Nat.le_of_ble_eq_true rfl⟩ ⟨Nat.le_of_ble_eq_true rfl, Nat.le_of_ble_eq_true rfl⟩ rfl (Nat.le_of_ble_eq_true rfl) ?_
        refine g_aload_n (pc' := 80) O ⟨dX4_dropDead_79, rfl⟩ (q := 3) rfl rfl ?_
        refine g_iload (pc' := 82) O ⟨dX4_dropDead_80, rfl⟩ (q := 1) rfl ?_
        refine g_iload (pc' := 84) O ⟨dX4_dropDead_82, rfl⟩ (q := 0) rfl ?_
        obtain ⟨r_9, c_10, E⟩ := bd_of E
        refine g_Vv (pc' := 87) O ⟨dX4_dropDead_84, rfl⟩ (y := yX9_append) (As := [.int (h_6.1 2 x3_5.toNatClampNeg), .int (h_6.1 3 x3_5.toNatClampNeg)]) (st := []) (t_X9_append_1 l D ad cy (h := r_7) c_10) kw_442 kw_26 kw_1080 kw_440 kw_441 rfl (wC_1 ad cy r_7) hd_X9_append ⟨Nat.le_of_ble_eq_true rfl, Nat.le_of_ble_eq_true rfl⟩ ⟨Nat.le_of_ble_eq_true rfl, Nat.le_of_ble_eq_true rfl⟩ rfl (Nat.le_of_ble_eq_true rfl) ?_
        refine g_iinc (pc' := 90) O ⟨dX4_dropDead_87, rfl⟩ (q := 5) (v := x3_5 + (1 : Int32)) (lv' := [(3, .int (x3_5 + (1 : Int32))), (5, .int (h_6.1 3 x3_5.toNatClampNeg)), (4, .int (h_6.1 2 x3_5.toNatClampNeg)), (0, .ref (ad 13)), (1, .ref (ad 1)), (2, .int (h.1 1 1))]) rfl rfl (by decide) rfl ?_
        refine g_goto (pc' := 93) O ⟨dX4_dropDead_90, rfl⟩ (tgt := 23) (by decide) ?_
        refine g_sub (lv' := [(0, .ref (ad 13)), (1, .ref (ad 1)), (2, .int (h.1 1 1)), (3, .int (x3_5 + (1 : Int32)))]) [3, 4, 5, 0] rfl ?_
        exact ih23 _ _ E
set_option maxRecDepth 100000 in
set_option maxHeartbeats 4000000 in
theorem t_X10_prune (l : Launch) (D : va_G) (ad : Nat → Nat) (cy : Nat → ClassId) {h : Hp}  {o : Int32 × Hp} (E : f_X10_prune h = some o) : CtI l D cy (WC ad cy) yX10_prune cX10_prune 2 .int 3 67 [.ref (ad 0)] h o.1 o.2 := by
  refine sI (own := RX10) rfl rfl (Nat.le_of_ble_eq_true rfl) (fun X O hret => ?_)
  show G l D X 2 (WC ad cy) 0 0 h 0 [(0, .ref (ad 0))] []
  unfold f_X10_prune at E
  refine g_aload_n (pc' := 1) O ⟨dX10_prune_0, rfl⟩ (q := 0) rfl rfl ?_
  refine gf_C_RX10_29_0 ad cy (pc' := 4) O ⟨dX10_prune_1, rfl⟩ ?_
  refine g_aload_n (pc' := 5) O ⟨dX10_prune_4, rfl⟩ (q := 0) rfl rfl ?_
  refine gf_C_RX10_10_0 ad cy (pc' := 8) O ⟨dX10_prune_5, rfl⟩ ?_
  obtain ⟨r_1, c_2, E⟩ := bd_of E
  refine g_Vi (pc' := 11) O ⟨dX10_prune_8, rfl⟩ (y := yX4_dropDead) (As := [.ref (ad 1)]) (st := []) (t_X4_dropDead_13_1 l D ad cy (h := h) c_2) kw_1079 kw_28 kw_1076 kw_1077 kw_1078 rfl (wC_13 ad cy h) hd_X4_dropDead ⟨Nat.le_of_ble_eq_true rfl, Nat.le_of_ble_eq_true rfl⟩ ⟨Nat.le_of_ble_eq_true rfl, Nat.le_of_ble_eq_true rfl⟩ rfl (Nat.le_of_ble_eq_true rfl) ?_
  refine g_istore_n (pc' := 12) O ⟨dX10_prune_11, rfl⟩ (lv' := [(1, .int r_1.1), (0, .ref (ad 0))]) rfl (by decide) rfl ?_
  refine g_aload_n (pc' := 13) O ⟨dX10_prune_12, rfl⟩ (q := 1) rfl rfl ?_
  obtain ⟨r_3, c_4, E⟩ := bd_of E
  refine g_Vv (pc' := 16) O ⟨dX10_prune_13, rfl⟩ (y := yX10_forgetWhatDependsOnComparators) (As := []) (st := []) (t_X10_forgetWhatDependsOnComparators l D ad cy (h := r_1.2) c_4) kw_336 kw_25 kw_333 kw_335 kw_1 rfl (wC_0 ad cy r_1.2) hd_X10_forgetWhatDependsOnComparators ⟨Nat.le_of_ble_eq_true rfl, Nat.le_of_ble_eq_true rfl⟩ ⟨Nat.le_of_ble_eq_true rfl, Nat.le_of_ble_eq_true rfl⟩ rfl (Nat.le_of_ble_eq_true rfl) ?_
  refine g_iload_n (pc' := 17) O ⟨dX10_prune_16, rfl⟩ (q := 0) rfl rfl ?_
  cases E
  exact hret _ _ _ ⟨dX10_prune_17, rfl⟩ rfl
set_option maxRecDepth 100000 in
set_option maxHeartbeats 4000000 in
theorem t_X9_textLength_1 (l : Launch) (D : va_G) (ad : Nat → Nat) (cy : Nat → ClassId) {h : Hp}  {o : Int32} (E : f_X9_textLength_1 h = some o) : CtI l D cy (WC ad cy) yX9_textLength cX9_textLength 1 .int 0 0 [.ref (ad 1)] h o h := by
  refine sI (own := RX9) rfl rfl (Nat.le_of_ble_eq_true rfl) (fun X O hret => ?_)
  show G l D X 1 (WC ad cy) 0 0 h 0 [(0, .ref (ad 1))] []
  unfold f_X9_textLength_1 at E
  refine g_aload_n (pc' := 1) O ⟨dX9_textLength_0, rfl⟩ (q := 0) rfl rfl ?_
  refine gf_C_RX9_15_1 ad cy (pc' := 4) O ⟨dX9_textLength_1, rfl⟩ ?_
  refine g_if_ne (pc' := 7) O ⟨dX9_textLength_4, rfl⟩ E (tgt := 11) (by decide) (fun E => ?_) (fun E => ?_)
  · refine g_iconst (pc' := 12) O ⟨dX9_textLength_11, rfl⟩ (v := (4 : Int32)) rfl ?_
    refine g_aload_n (pc' := 13) O ⟨dX9_textLength_12, rfl⟩ (q := 0) rfl rfl ?_
    refine gf_C_RX9_15_1 ad cy (pc' := 16) O ⟨dX9_textLength_13, rfl⟩ ?_
    refine g_imul (pc' := 17) O ⟨dX9_textLength_16, rfl⟩ ?_
    refine g_iconst (pc' := 18) O ⟨dX9_textLength_17, rfl⟩ (v := (1 : Int32)) rfl ?_
    refine g_isub (pc' := 19) O ⟨dX9_textLength_18, rfl⟩ ?_
    cases E
    exact hret _ _ _ ⟨dX9_textLength_19, rfl⟩ rfl
  · refine g_iconst (pc' := 8) O ⟨dX9_textLength_7, rfl⟩ (v := (0 : Int32)) rfl ?_
    refine g_goto (pc' := 11) O ⟨dX9_textLength_8, rfl⟩ (tgt := 19) (by decide) ?_
    cases E
    exact hret _ _ _ ⟨dX9_textLength_19, rfl⟩ rfl
set_option maxRecDepth 100000 in
set_option maxHeartbeats 4000000 in
theorem t_X9_crookedCount_1 (l : Launch) (D : va_G) (ad : Nat → Nat) (cy : Nat → ClassId) {h : Hp}  {o : Int32} (E : f_X9_crookedCount_1 h = some o) : CtI l D cy (WC ad cy) yX9_crookedCount cX9_crookedCount 3 .int 1 21 [.ref (ad 1)] h o h := by
  refine sI (own := RX9) rfl rfl (Nat.le_of_ble_eq_true rfl) (fun X O hret => ?_)
  show G l D X 3 (WC ad cy) 0 0 h 0 [(0, .ref (ad 1))] []
  unfold f_X9_crookedCount_1 at E
  refine g_iconst (pc' := 1) O ⟨dX9_crookedCount_0, rfl⟩ (v := (0 : Int32)) rfl ?_
  refine g_istore_n (pc' := 2) O ⟨dX9_crookedCount_1, rfl⟩ (lv' := [(1, .int (0 : Int32)), (0, .ref (ad 1))]) rfl (by decide) rfl ?_
  refine g_iconst (pc' := 3) O ⟨dX9_crookedCount_2, rfl⟩ (v := (0 : Int32)) rfl ?_
  refine g_istore_n (pc' := 4) O ⟨dX9_crookedCount_3, rfl⟩ (lv' := [(2, .int (0 : Int32)), (1, .int (0 : Int32)), (0, .ref (ad 1))]) rfl (by decide) rfl ?_
  refine jn1_of (P := fun (x1_1 : Int32) => G l D X 3 (WC ad cy) 0 0 h 29 [(1, .int x1_1)] []) E ?_ ?_
  · intro x1_1 E
    show G l D X 3 (WC ad cy) 0 0 h 29 [(1, .int x1_1)] []
    refine g_iload_n (pc' := 30) O ⟨dX9_crookedCount_29, rfl⟩ (q := 0) rfl rfl ?_
    cases E
    exact hret _ _ _ ⟨dX9_crookedCount_30, rfl⟩ rfl
  · intro k29 hk29 E
    refine g_sub (lv' := [(0, .ref (ad 1)), (1, .int (0 : Int32)), (2, .int (0 : Int32))]) [2, 1, 0] rfl ?_
    refine fx2_of (P := fun (x1_2 : Int32) (x2_3 : Int32) => G l D X 3 (WC ad cy) 0 0 h 4 [(0, .ref (ad 1)), (1, .int x1_2), (2, .int x2_3)] []) ?_ _ _ _ E
    intro self ih4 x1_2 x2_3 E
    show G l D X 3 (WC ad cy) 0 0 h 4 [(0, .ref (ad 1)), (1, .int x1_2), (2, .int x2_3)] []
    unfold L_X9_crookedCount_1_4 at E
    refine g_iload_n (pc' := 5) O ⟨dX9_crookedCount_4, rfl⟩ (q := 2) rfl rfl ?_
    refine g_aload_n (pc' := 6) O ⟨dX9_crookedCount_5, rfl⟩ (q := 0) rfl rfl ?_
    refine gf_C_RX9_15_1 ad cy (pc' := 9) O ⟨dX9_crookedCount_6, rfl⟩ ?_
    refine g_icmp_ge (pc' := 12) O ⟨dX9_crookedCount_9, rfl⟩ E (tgt := 29) (by decide) (fun E => ?_) (fun E => ?_)
    · refine g_sub (lv' := [(1, .int x1_2)]) [1] rfl ?_
      exact hk29 _ E
    · refine g_aload_n (pc' := 13) O ⟨dX9_crookedCount_12, rfl⟩ (q := 0) rfl rfl ?_
      refine g_iload_n (pc' := 14) O ⟨dX9_crookedCount_13, rfl⟩ (q := 2) rfl rfl ?_
      obtain ⟨r_4, c_5, E⟩ := bd_of E
      refine g_Vi (pc' := 17) O ⟨dX9_crookedCount_14, rfl⟩ (y := yX9_isCrooked) (As := [.int x2_3]) (st := []) (t_X9_isCrooked_1 l D ad cy (h := h) c_5) kw_607 kw_26 kw_604 kw_606 kw_9 rfl (wC_1 ad cy h) hd_X9_isCrooked ⟨Nat.le_of_ble_eq_true rfl, Nat.le_of_ble_eq_true rfl⟩ ⟨Nat.le_of_ble_eq_true rfl, Nat.le_of_ble_eq_true rfl⟩ rfl (Nat.le_of_ble_eq_true rfl) ?_
      refine g_if_eq (pc' := 20) O ⟨dX9_crookedCount_17, rfl⟩ E (tgt := 23) (by decide) (fun E => ?_) (fun E => ?_)
      · refine g_iinc (pc' := 26) O ⟨dX9_crookedCount_23, rfl⟩ (q := 2) (v := x2_3 + (1 : Int32)) (lv' := [(2, .int (x2_3 + (1 : Int32))), (0, .ref (ad 1)), (1, .int x1_2)]) rfl rfl (by decide) rfl ?_
        refine g_goto (pc' := 29) O ⟨dX9_crookedCount_26, rfl⟩ (tgt := 4) (by decide) ?_
        refine g_sub (lv' := [(0, .ref (ad 1)), (1, .int x1_2), (2, .int (x2_3 + (1 : Int32)))]) [1, 2, 0] rfl ?_
        exact ih4 _ _ E
      · refine g_iinc (pc' := 23) O ⟨dX9_crookedCount_20, rfl⟩ (q := 1) (v := x1_2 + (1 : Int32)) (lv' := [(1, .int (x1_2 + (1 : Int32))), (0, .ref (ad 1)), (2, .int x2_3)]) rfl rfl (by decide) rfl ?_
        refine g_iinc (pc' := 26) O ⟨dX9_crookedCount_23, rfl⟩ (q := 2) (v := x2_3 + (1 : Int32)) (lv' := [(2, .int (x2_3 + (1 : Int32))), (1, .int (x1_2 + (1 : Int32))), (0, .ref (ad 1))]) rfl rfl (by decide) rfl ?_
        refine g_goto (pc' := 29) O ⟨dX9_crookedCount_26, rfl⟩ (tgt := 4) (by decide) ?_
        refine g_sub (lv' := [(0, .ref (ad 1)), (1, .int (x1_2 + (1 : Int32))), (2, .int (x2_3 + (1 : Int32)))]) [2, 1, 0] rfl ?_
        exact ih4 _ _ E
set_option maxRecDepth 100000 in
set_option maxHeartbeats 4000000 in
theorem t_X4_send_14_1 (l : Launch) (D : va_G) (ad : Nat → Nat) (cy : Nat → ClassId) {h : Hp} {x2 : Int32} {o : Hp} (E : f_X4_send_14_1 h x2 = some o) : CtV l D cy (WC ad cy) yX4_send cX4_send 4 2 42 [.ref (ad 14), .ref (ad 1), .int x2] h o := by
  refine sV (own := RX4) rfl rfl (Nat.le_of_ble_eq_true rfl) (fun X O hret => ?_)
  show G l D X 4 (WC ad cy) 0 0 h 0 [(0, .ref (ad 14)), (1, .ref (ad 1)), (2, .int x2)] []
  unfold f_X4_send_14_1 at E
  refine g_aload_n (pc' := 1) O ⟨dX4_send_0, rfl⟩ (q := 0) rfl rfl ?_
  refine g_aload_n (pc' := 2) O ⟨dX4_send_1, rfl⟩ (q := 1) rfl rfl ?_
  refine gf_C_RX4_34_1 ad cy (pc' := 5) O ⟨dX4_send_2, rfl⟩ ?_
  obtain ⟨r_1, c_2, E⟩ := bd_of E
  refine g_Sv (pc' := 8) O ⟨dX4_send_5, rfl⟩ (y := yX4_bringIn) (As := [.ref (ad 14), .int (h.1 1 0)]) (st := []) (t_X4_bringIn_14 l D ad cy (h := h) c_2) kw_590 kw_28 kw_588 kw_589 hd_X4_bringIn ⟨Nat.le_of_ble_eq_true rfl, Nat.le_of_ble_eq_true rfl⟩ ⟨Nat.le_of_ble_eq_true rfl, Nat.le_of_ble_eq_true rfl⟩ rfl (Nat.le_of_ble_eq_true rfl) ?_
  refine g_iconst (pc' := 9) O ⟨dX4_send_8, rfl⟩ (v := (0 : Int32)) rfl ?_
  refine g_istore_n (pc' := 10) O ⟨dX4_send_9, rfl⟩ (lv' := [(3, .int (0 : Int32)), (0, .ref (ad 14)), (1, .ref (ad 1)), (2, .int x2)]) rfl (by decide) rfl ?_
  refine jn1_of (P := fun (h_3 : Hp) => G l D X 4 (WC ad cy) 0 0 h_3 37 [] []) E ?_ ?_
  · intro h_3 E
    show G l D X 4 (WC ad cy) 0 0 h_3 37 [] []
    cases E
    exact hret _ _ _ ⟨dX4_send_37, rfl⟩
  · intro k37 hk37 E
    refine g_sub (lv' := [(0, .ref (ad 14)), (1, .ref (ad 1)), (2, .int x2), (3, .int (0 : Int32))]) [1, 2, 3, 0] rfl ?_
    refine fx2_of (P := fun (x3_4 : Int32) (h_5 : Hp) => G l D X 4 (WC ad cy) 0 0 h_5 10 [(0, .ref (ad 14)), (1, .ref (ad 1)), (2, .int x2), (3, .int x3_4)] []) ?_ _ _ _ E
    intro self ih10 x3_4 h_5 E
    show G l D X 4 (WC ad cy) 0 0 h_5 10 [(0, .ref (ad 14)), (1, .ref (ad 1)), (2, .int x2), (3, .int x3_4)] []
    unfold L_X4_send_14_1_10 at E
    refine g_iload_n (pc' := 11) O ⟨dX4_send_10, rfl⟩ (q := 3) rfl rfl ?_
    refine g_iload_n (pc' := 12) O ⟨dX4_send_11, rfl⟩ (q := 2) rfl rfl ?_
    refine g_icmp_ge (pc' := 15) O ⟨dX4_send_12, rfl⟩ E (tgt := 37) (by decide) (fun E => ?_) (fun E => ?_)
    · refine g_sub (lv' := []) [] rfl ?_
      exact hk37 _ E
    · refine g_aload_n (pc' := 16) O ⟨dX4_send_15, rfl⟩ (q := 0) rfl rfl ?_
      refine g_aload_n (pc' := 17) O ⟨dX4_send_16, rfl⟩ (q := 1) rfl rfl ?_
      refine gf_C_RX4_44_1 ad cy (pc' := 20) O ⟨dX4_send_17, rfl⟩ ?_
      refine g_iload_n (pc' := 21) O ⟨dX4_send_20, rfl⟩ (q := 3) rfl rfl ?_
      refine g_iald (pc' := 22) O ⟨dX4_send_21, rfl⟩ (wC_2 ad cy h_5) E (fun E => ?_)
      refine g_aload_n (pc' := 23) O ⟨dX4_send_22, rfl⟩ (q := 1) rfl rfl ?_
      refine gf_C_RX4_48_1 ad cy (pc' := 26) O ⟨dX4_send_23, rfl⟩ ?_
      refine g_iload_n (pc' := 27) O ⟨dX4_send_26, rfl⟩ (q := 3) rfl rfl ?_
      refine g_iald (pc' := 28) O ⟨dX4_send_27, rfl⟩ (wC_3 ad cy h_5) E (fun E => ?_)
      obtain ⟨r_6, c_7, E⟩ := bd_of E
      refine g_Sv (pc' := 31) O ⟨dX4_send_28, rfl⟩ (y := yX4_compare) (As := [.ref (ad 14), .int (h_5.1 2 x3_4.toNatClampNeg), .int (h_5.1 3 x3_4.toNatClampNeg)]) (st := []) (t_X4_compare_14 l D ad cy (h := h_5) c_7) kw_599 kw_28 kw_597 kw_598 hd_X4_compare ⟨Nat.le_of_ble_eq_true rfl, Nat.le_of_ble_eq_true rfl⟩ ⟨Nat.le_of_ble_eq_true rfl, Nat.le_of_ble_eq_true rfl⟩ rfl (Nat.le_of_ble_eq_true rfl) ?_
      refine g_iinc (pc' := 34) O ⟨dX4_send_31, rfl⟩ (q := 3) (v := x3_4 + (1 : Int32)) (lv' := [(3, .int (x3_4 + (1 : Int32))), (0, .ref (ad 14)), (1, .ref (ad 1)), (2, .int x2)]) rfl rfl (by decide) rfl ?_
      refine g_goto (pc' := 37) O ⟨dX4_send_34, rfl⟩ (tgt := 10) (by decide) ?_
      refine g_sub (lv' := [(0, .ref (ad 14)), (1, .ref (ad 1)), (2, .int x2), (3, .int (x3_4 + (1 : Int32)))]) [1, 2, 3, 0] rfl ?_
      exact ih10 _ _ E
set_option maxRecDepth 100000 in
set_option maxHeartbeats 4000000 in
theorem t_X4_exchanging_13_1 (l : Launch) (D : va_G) (ad : Nat → Nat) (cy : Nat → ClassId) {h : Hp} {x2 : Int32} {o : Int64 × Hp} (E : f_X4_exchanging_13_1 h x2 = some o) : CtL l D cy (WC ad cy) yX4_exchanging cX4_exchanging 3 3 65 [.ref (ad 13), .ref (ad 1), .int x2] h o.1 o.2 := by
  refine sL (own := RX4) rfl rfl (Nat.le_of_ble_eq_true rfl) (fun X O hret => ?_)
  show G l D X 3 (WC ad cy) 0 0 h 0 [(0, .ref (ad 13)), (1, .ref (ad 1)), (2, .int x2)] []
  unfold f_X4_exchanging_13_1 at E
  refine g_aload_n (pc' := 1) O ⟨dX4_exchanging_0, rfl⟩ (q := 0) rfl rfl ?_
  refine gf_C_RX4_9_13 ad cy (pc' := 4) O ⟨dX4_exchanging_1, rfl⟩ ?_
  refine g_aload_n (pc' := 5) O ⟨dX4_exchanging_4, rfl⟩ (q := 1) rfl rfl ?_
  refine g_iload_n (pc' := 6) O ⟨dX4_exchanging_5, rfl⟩ (q := 2) rfl rfl ?_
  obtain ⟨r_1, c_2, E⟩ := bd_of E
  refine g_Sv (pc' := 9) O ⟨dX4_exchanging_6, rfl⟩ (y := yX4_send) (As := [.ref (ad 14), .ref (ad 1), .int x2]) (st := []) (t_X4_send_14_1 l D ad cy (h := h) c_2) kw_587 kw_28 kw_585 kw_586 hd_X4_send ⟨Nat.le_of_ble_eq_true rfl, Nat.le_of_ble_eq_true rfl⟩ ⟨Nat.le_of_ble_eq_true rfl, Nat.le_of_ble_eq_true rfl⟩ rfl (Nat.le_of_ble_eq_true rfl) ?_
  refine g_aload_n (pc' := 10) O ⟨dX4_exchanging_9, rfl⟩ (q := 0) rfl rfl ?_
  refine gf_C_RX4_9_13 ad cy (pc' := 13) O ⟨dX4_exchanging_10, rfl⟩ ?_
  refine g_aload_n (pc' := 14) O ⟨dX4_exchanging_13, rfl⟩ (q := 1) rfl rfl ?_
  refine gf_C_RX4_44_1 ad cy (pc' := 17) O ⟨dX4_exchanging_14, rfl⟩ ?_
  refine g_iload_n (pc' := 18) O ⟨dX4_exchanging_17, rfl⟩ (q := 2) rfl rfl ?_
  refine g_iald (pc' := 19) O ⟨dX4_exchanging_18, rfl⟩ (wC_2 ad cy r_1) E (fun E => ?_)
  refine g_lald (pc' := 20) O ⟨dX4_exchanging_19, rfl⟩ (wC_14 ad cy r_1) E (fun E => ?_)
  refine g_aload_n (pc' := 21) O ⟨dX4_exchanging_20, rfl⟩ (q := 0) rfl rfl ?_
  refine gf_C_RX4_9_13 ad cy (pc' := 24) O ⟨dX4_exchanging_21, rfl⟩ ?_
  refine g_aload_n (pc' := 25) O ⟨dX4_exchanging_24, rfl⟩ (q := 1) rfl rfl ?_
  refine gf_C_RX4_48_1 ad cy (pc' := 28) O ⟨dX4_exchanging_25, rfl⟩ ?_
  refine g_iload_n (pc' := 29) O ⟨dX4_exchanging_28, rfl⟩ (q := 2) rfl rfl ?_
  refine g_iald (pc' := 30) O ⟨dX4_exchanging_29, rfl⟩ (wC_3 ad cy r_1) E (fun E => ?_)
  refine g_lald (pc' := 31) O ⟨dX4_exchanging_30, rfl⟩ (wC_14 ad cy r_1) E (fun E => ?_)
  refine g_ldc2 (pc' := 34) O ⟨dX4_exchanging_31, rfl⟩ kw_596 ?_
  refine g_lxor (pc' := 35) O ⟨dX4_exchanging_34, rfl⟩ ?_
  refine g_land (pc' := 36) O ⟨dX4_exchanging_35, rfl⟩ ?_
  cases E
  exact hret _ _ _ ⟨dX4_exchanging_36, rfl⟩
set_option maxRecDepth 100000 in
set_option maxHeartbeats 4000000 in
theorem t_X4_deadCount_13_1 (l : Launch) (D : va_G) (ad : Nat → Nat) (cy : Nat → ClassId) {h : Hp}  {o : Int32 × Hp} (E : f_X4_deadCount_13_1 h = some o) : CtI l D cy (WC ad cy) yX4_deadCount cX4_deadCount 4 .int 4 87 [.ref (ad 13), .ref (ad 1)] h o.1 o.2 := by
  refine sI (own := RX4) rfl rfl (Nat.le_of_ble_eq_true rfl) (fun X O hret => ?_)
  show G l D X 4 (WC ad cy) 0 0 h 0 [(0, .ref (ad 13)), (1, .ref (ad 1))] []
  unfold f_X4_deadCount_13_1 at E
  refine g_iconst (pc' := 1) O ⟨dX4_deadCount_0, rfl⟩ (v := (0 : Int32)) rfl ?_
  refine g_istore_n (pc' := 2) O ⟨dX4_deadCount_1, rfl⟩ (lv' := [(2, .int (0 : Int32)), (0, .ref (ad 13)), (1, .ref (ad 1))]) rfl (by decide) rfl ?_
  refine g_iconst (pc' := 3) O ⟨dX4_deadCount_2, rfl⟩ (v := (0 : Int32)) rfl ?_
  refine g_istore_n (pc' := 4) O ⟨dX4_deadCount_3, rfl⟩ (lv' := [(3, .int (0 : Int32)), (2, .int (0 : Int32)), (0, .ref (ad 13)), (1, .ref (ad 1))]) rfl (by decide) rfl ?_
  refine jn2_of (P := fun (x2_1 : Int32) (h_2 : Hp) => G l D X 4 (WC ad cy) 0 0 h_2 32 [(2, .int x2_1)] []) E ?_ ?_
  · intro x2_1 h_2 E
    show G l D X 4 (WC ad cy) 0 0 h_2 32 [(2, .int x2_1)] []
    refine g_iload_n (pc' := 33) O ⟨dX4_deadCount_32, rfl⟩ (q := 0) rfl rfl ?_
    cases E
    exact hret _ _ _ ⟨dX4_deadCount_33, rfl⟩ rfl
  · intro k32 hk32 E
    refine g_sub (lv' := [(0, .ref (ad 13)), (1, .ref (ad 1)), (2, .int (0 : Int32)), (3, .int (0 : Int32))]) [2, 3, 1, 0] rfl ?_
    refine fx3_of (P := fun (x2_3 : Int32) (x3_4 : Int32) (h_5 : Hp) => G l D X 4 (WC ad cy) 0 0 h_5 4 [(0, .ref (ad 13)), (1, .ref (ad 1)), (2, .int x2_3), (3, .int x3_4)] []) ?_ _ _ _ _ E
    intro self ih4 x2_3 x3_4 h_5 E
    show G l D X 4 (WC ad cy) 0 0 h_5 4 [(0, .ref (ad 13)), (1, .ref (ad 1)), (2, .int x2_3), (3, .int x3_4)] []
    unfold L_X4_deadCount_13_1_4 at E
    refine g_iload_n (pc' := 5) O ⟨dX4_deadCount_4, rfl⟩ (q := 3) rfl rfl ?_
    refine g_aload_n (pc' := 6) O ⟨dX4_deadCount_5, rfl⟩ (q := 1) rfl rfl ?_
    refine gf_C_RX4_63_1 ad cy (pc' := 9) O ⟨dX4_deadCount_6, rfl⟩ ?_
    refine g_icmp_ge (pc' := 12) O ⟨dX4_deadCount_9, rfl⟩ E (tgt := 32) (by decide) (fun E => ?_) (fun E => ?_)
    · refine g_sub (lv' := [(2, .int x2_3)]) [2] rfl ?_
      exact hk32 _ _ E
    · refine g_aload_n (pc' := 13) O ⟨dX4_deadCount_12, rfl⟩ (q := 0) rfl rfl ?_
      refine g_aload_n (pc' := 14) O ⟨dX4_deadCount_13, rfl⟩ (q := 1) rfl rfl ?_
      refine g_iload_n (pc' := 15) O ⟨dX4_deadCount_14, rfl⟩ (q := 3) rfl rfl ?_
      obtain ⟨r_6, c_7, E⟩ := bd_of E
      refine g_Vl (pc' := 18) O ⟨dX4_deadCount_15, rfl⟩ (y := yX4_exchanging) (As := [.ref (ad 1), .int x3_4]) (st := []) (t_X4_exchanging_13_1 l D ad cy (h := h_5) c_7) kw_584 kw_28 kw_581 kw_582 kw_583 rfl (wC_13 ad cy h_5) hd_X4_exchanging ⟨Nat.le_of_ble_eq_true rfl, Nat.le_of_ble_eq_true rfl⟩ ⟨Nat.le_of_ble_eq_true rfl, Nat.le_of_ble_eq_true rfl⟩ rfl (Nat.le_of_ble_eq_true rfl) ?_
      refine g_lconst (pc' := 19) O ⟨dX4_deadCount_18, rfl⟩ (v := (0 : Int64)) rfl ?_
      refine g_lcmp (pc' := 20) O ⟨dX4_deadCount_19, rfl⟩ ?_
      refine g_if_ne (pc' := 23) O ⟨dX4_deadCount_20, rfl⟩ E (tgt := 26) (by decide) (fun E => ?_) (fun E => ?_)
      · refine g_iinc (pc' := 29) O ⟨dX4_deadCount_26, rfl⟩ (q := 3) (v := x3_4 + (1 : Int32)) (lv' := [(3, .int (x3_4 + (1 : Int32))), (0, .ref (ad 13)), (1, .ref (ad 1)), (2, .int x2_3)]) rfl rfl (by decide) rfl ?_
        refine g_goto (pc' := 32) O ⟨dX4_deadCount_29, rfl⟩ (tgt := 4) (by decide) ?_
        refine g_sub (lv' := [(0, .ref (ad 13)), (1, .ref (ad 1)), (2, .int x2_3), (3, .int (x3_4 + (1 : Int32)))]) [1, 2, 3, 0] rfl ?_
        exact ih4 _ _ _ E
      · refine g_iinc (pc' := 26) O ⟨dX4_deadCount_23, rfl⟩ (q := 2) (v := x2_3 + (1 : Int32)) (lv' := [(2, .int (x2_3 + (1 : Int32))), (0, .ref (ad 13)), (1, .ref (ad 1)), (3, .int x3_4)]) rfl rfl (by decide) rfl ?_
        refine g_iinc (pc' := 29) O ⟨dX4_deadCount_26, rfl⟩ (q := 3) (v := x3_4 + (1 : Int32)) (lv' := [(3, .int (x3_4 + (1 : Int32))), (2, .int (x2_3 + (1 : Int32))), (0, .ref (ad 13)), (1, .ref (ad 1))]) rfl rfl (by decide) rfl ?_
        refine g_goto (pc' := 32) O ⟨dX4_deadCount_29, rfl⟩ (tgt := 4) (by decide) ?_
        refine g_sub (lv' := [(0, .ref (ad 13)), (1, .ref (ad 1)), (2, .int (x2_3 + (1 : Int32))), (3, .int (x3_4 + (1 : Int32)))]) [2, 3, 1, 0] rfl ?_
        exact ih4 _ _ _ E
set_option maxRecDepth 100000 in
set_option maxHeartbeats 4000000 in
theorem t_X9_layerCount_1 (l : Launch) (D : va_G) (ad : Nat → Nat) (cy : Nat → ClassId) {h : Hp}  {o : Int32 × Hp} (E : f_X9_layerCount_1 h = some o) : CtI l D cy (WC ad cy) yX9_layerCount cX9_layerCount 4 .int 1 40 [.ref (ad 1)] h o.1 o.2 := by
  refine sI (own := RX9) rfl rfl (Nat.le_of_ble_eq_true rfl) (fun X O hret => ?_)
  show G l D X 4 (WC ad cy) 0 0 h 0 [(0, .ref (ad 1))] []
  unfold f_X9_layerCount_1 at E
  refine g_iconst (pc' := 1) O ⟨dX9_layerCount_0, rfl⟩ (v := (0 : Int32)) rfl ?_
  refine g_istore_n (pc' := 2) O ⟨dX9_layerCount_1, rfl⟩ (lv' := [(1, .int (0 : Int32)), (0, .ref (ad 1))]) rfl (by decide) rfl ?_
  refine g_iconst (pc' := 3) O ⟨dX9_layerCount_2, rfl⟩ (v := (0 : Int32)) rfl ?_
  refine g_istore_n (pc' := 4) O ⟨dX9_layerCount_3, rfl⟩ (lv' := [(2, .int (0 : Int32)), (1, .int (0 : Int32)), (0, .ref (ad 1))]) rfl (by decide) rfl ?_
  refine jn1_of (P := fun (h_1 : Hp) => G l D X 4 (WC ad cy) 0 0 h_1 25 [(0, .ref (ad 1)), (1, .int (0 : Int32))] []) E ?_ ?_
  · intro h_1 E
    show G l D X 4 (WC ad cy) 0 0 h_1 25 [(0, .ref (ad 1)), (1, .int (0 : Int32))] []
    refine g_iconst (pc' := 26) O ⟨dX9_layerCount_25, rfl⟩ (v := (0 : Int32)) rfl ?_
    refine g_istore_n (pc' := 27) O ⟨dX9_layerCount_26, rfl⟩ (lv' := [(2, .int (0 : Int32)), (0, .ref (ad 1)), (1, .int (0 : Int32))]) rfl (by decide) rfl ?_
    refine jn2_of (P := fun (x1_2 : Int32) (h_3 : Hp) => G l D X 4 (WC ad cy) 0 0 h_3 110 [(1, .int x1_2)] []) E ?_ ?_
    · intro x1_2 h_3 E
      show G l D X 4 (WC ad cy) 0 0 h_3 110 [(1, .int x1_2)] []
      refine g_iload_n (pc' := 111) O ⟨dX9_layerCount_110, rfl⟩ (q := 0) rfl rfl ?_
      cases E
      exact hret _ _ _ ⟨dX9_layerCount_111, rfl⟩ rfl
    · intro k110 hk110 E
      refine g_sub (lv' := [(0, .ref (ad 1)), (1, .int (0 : Int32)), (2, .int (0 : Int32))]) [1, 2, 0] rfl ?_
      refine fx3_of (P := fun (x1_4 : Int32) (x2_5 : Int32) (h_6 : Hp) => G l D X 4 (WC ad cy) 0 0 h_6 27 [(0, .ref (ad 1)), (1, .int x1_4), (2, .int x2_5)] []) ?_ _ _ _ _ E
      intro self ih27 x1_4 x2_5 h_6 E
      show G l D X 4 (WC ad cy) 0 0 h_6 27 [(0, .ref (ad 1)), (1, .int x1_4), (2, .int x2_5)] []
      unfold L_X9_layerCount_1_27 at E
      refine g_iload_n (pc' := 28) O ⟨dX9_layerCount_27, rfl⟩ (q := 2) rfl rfl ?_
      refine g_aload_n (pc' := 29) O ⟨dX9_layerCount_28, rfl⟩ (q := 0) rfl rfl ?_
      refine gf_C_RX9_15_1 ad cy (pc' := 32) O ⟨dX9_layerCount_29, rfl⟩ ?_
      refine g_icmp_ge (pc' := 35) O ⟨dX9_layerCount_32, rfl⟩ E (tgt := 110) (by decide) (fun E => ?_) (fun E => ?_)
      · refine g_sub (lv' := [(1, .int x1_4)]) [1] rfl ?_
        exact hk110 _ _ E
      · refine g_aload_n (pc' := 36) O ⟨dX9_layerCount_35, rfl⟩ (q := 0) rfl rfl ?_
        refine gf_C_RX9_28_1 ad cy (pc' := 39) O ⟨dX9_layerCount_36, rfl⟩ ?_
        refine g_aload_n (pc' := 40) O ⟨dX9_layerCount_39, rfl⟩ (q := 0) rfl rfl ?_
        refine gf_C_RX9_18_1 ad cy (pc' := 43) O ⟨dX9_layerCount_40, rfl⟩ ?_
        refine g_iload_n (pc' := 44) O ⟨dX9_layerCount_43, rfl⟩ (q := 2) rfl rfl ?_
        refine g_iald (pc' := 45) O ⟨dX9_layerCount_44, rfl⟩ (wC_2 ad cy h_6) E (fun E => ?_)
        refine g_iald (pc' := 46) O ⟨dX9_layerCount_45, rfl⟩ (wC_5 ad cy h_6) E (fun E => ?_)
        refine g_aload_n (pc' := 47) O ⟨dX9_layerCount_46, rfl⟩ (q := 0) rfl rfl ?_
        refine gf_C_RX9_28_1 ad cy (pc' := 50) O ⟨dX9_layerCount_47, rfl⟩ ?_
        refine g_aload_n (pc' := 51) O ⟨dX9_layerCount_50, rfl⟩ (q := 0) rfl rfl ?_
        refine gf_C_RX9_22_1 ad cy (pc' := 54) O ⟨dX9_layerCount_51, rfl⟩ ?_
        refine g_iload_n (pc' := 55) O ⟨dX9_layerCount_54, rfl⟩ (q := 2) rfl rfl ?_
        refine g_iald (pc' := 56) O ⟨dX9_layerCount_55, rfl⟩ (wC_3 ad cy h_6) E (fun E => ?_)
        refine g_iald (pc' := 57) O ⟨dX9_layerCount_56, rfl⟩ (wC_5 ad cy h_6) E (fun E => ?_)
        refine g_mmax (pc' := 60) O ⟨dX9_layerCount_57, rfl⟩ kw_576 kw_42 kw_574 kw_575 ⟨by simp only [RM]; omega, Nat.le_of_ble_eq_true rfl⟩ ⟨Nat.le_refl _, Nat.le_refl _⟩ ?_
        refine g_nm E (fun y3_7 E => ?_)
        refine g_istore_n (pc' := 61) O ⟨dX9_layerCount_60, rfl⟩ (lv' := [(3, .int y3_7), (0, .ref (ad 1)), (1, .int x1_4), (2, .int x2_5)]) rfl (by decide) rfl ?_
        refine g_aload_n (pc' := 62) O ⟨dX9_layerCount_61, rfl⟩ (q := 1) rfl rfl ?_
        refine gf_C_RX9_25_1 ad cy (pc' := 65) O ⟨dX9_layerCount_62, rfl⟩ ?_
        refine g_iload_n (pc' := 66) O ⟨dX9_layerCount_65, rfl⟩ (q := 3) rfl rfl ?_
        refine g_iload_n (pc' := 67) O ⟨dX9_layerCount_66, rfl⟩ (q := 0) rfl rfl ?_
        refine g_iast (pc' := 68) O ⟨dX9_layerCount_67, rfl⟩ (wC_4 ad cy h_6) (vC_4 ad cy h_6 _) E (fun E => ?_)
        refine g_nmh E (fun h_8 E => ?_)
        refine g_aload_n (pc' := 69) O ⟨dX9_layerCount_68, rfl⟩ (q := 1) rfl rfl ?_
        refine gf_C_RX9_28_1 ad cy (pc' := 72) O ⟨dX9_layerCount_69, rfl⟩ ?_
        refine g_aload_n (pc' := 73) O ⟨dX9_layerCount_72, rfl⟩ (q := 1) rfl rfl ?_
        refine gf_C_RX9_18_1 ad cy (pc' := 76) O ⟨dX9_layerCount_73, rfl⟩ ?_
        refine g_iload_n (pc' := 77) O ⟨dX9_layerCount_76, rfl⟩ (q := 3) rfl rfl ?_
        refine g_iald (pc' := 78) O ⟨dX9_layerCount_77, rfl⟩ (wC_2 ad cy h_8) E (fun E => ?_)
        refine g_iload_n (pc' := 79) O ⟨dX9_layerCount_78, rfl⟩ (q := 0) rfl rfl ?_
        refine g_iconst (pc' := 80) O ⟨dX9_layerCount_79, rfl⟩ (v := (1 : Int32)) rfl ?_
        refine g_iadd (pc' := 81) O ⟨dX9_layerCount_80, rfl⟩ ?_
        refine g_iast (pc' := 82) O ⟨dX9_layerCount_81, rfl⟩ (wC_5 ad cy h_8) (vC_5 ad cy h_8 _) E (fun E => ?_)
        refine g_nmh E (fun h_9 E => ?_)
        refine g_aload_n (pc' := 83) O ⟨dX9_layerCount_82, rfl⟩ (q := 1) rfl rfl ?_
        refine gf_C_RX9_28_1 ad cy (pc' := 86) O ⟨dX9_layerCount_83, rfl⟩ ?_
        refine g_aload_n (pc' := 87) O ⟨dX9_layerCount_86, rfl⟩ (q := 1) rfl rfl ?_
        refine gf_C_RX9_22_1 ad cy (pc' := 90) O ⟨dX9_layerCount_87, rfl⟩ ?_
        refine g_iload_n (pc' := 91) O ⟨dX9_layerCount_90, rfl⟩ (q := 3) rfl rfl ?_
        refine g_iald (pc' := 92) O ⟨dX9_layerCount_91, rfl⟩ (wC_3 ad cy h_9) E (fun E => ?_)
        refine g_iload_n (pc' := 93) O ⟨dX9_layerCount_92, rfl⟩ (q := 0) rfl rfl ?_
        refine g_iconst (pc' := 94) O ⟨dX9_layerCount_93, rfl⟩ (v := (1 : Int32)) rfl ?_
        refine g_iadd (pc' := 95) O ⟨dX9_layerCount_94, rfl⟩ ?_
        refine g_iast (pc' := 96) O ⟨dX9_layerCount_95, rfl⟩ (wC_5 ad cy h_9) (vC_5 ad cy h_9 _) E (fun E => ?_)
        refine g_nmh E (fun h_10 E => ?_)
        refine g_iload_n (pc' := 97) O ⟨dX9_layerCount_96, rfl⟩ (q := 2) rfl rfl ?_
        refine g_iload_n (pc' := 98) O ⟨dX9_layerCount_97, rfl⟩ (q := 0) rfl rfl ?_
        refine g_iconst (pc' := 99) O ⟨dX9_layerCount_98, rfl⟩ (v := (1 : Int32)) rfl ?_
        refine g_iadd (pc' := 100) O ⟨dX9_layerCount_99, rfl⟩ ?_
        refine g_mmax (pc' := 103) O ⟨dX9_layerCount_100, rfl⟩ kw_576 kw_42 kw_574 kw_575 ⟨by simp only [RM]; omega, Nat.le_of_ble_eq_true rfl⟩ ⟨Nat.le_refl _, Nat.le_refl _⟩ ?_
        refine g_nm E (fun y1_11 E => ?_)
        refine g_istore_n (pc' := 104) O ⟨dX9_layerCount_103, rfl⟩ (lv' := [(1, .int y1_11), (3, .int y3_7), (0, .ref (ad 1)), (2, .int x2_5)]) rfl (by decide) rfl ?_
        refine g_iinc (pc' := 107) O ⟨dX9_layerCount_104, rfl⟩ (q := 3) (v := x2_5 + (1 : Int32)) (lv' := [(2, .int (x2_5 + (1 : Int32))), (1, .int y1_11), (3, .int y3_7), (0, .ref (ad 1))]) rfl rfl (by decide) rfl ?_
        refine g_goto (pc' := 110) O ⟨dX9_layerCount_107, rfl⟩ (tgt := 27) (by decide) ?_
        refine g_sub (lv' := [(0, .ref (ad 1)), (1, .int y1_11), (2, .int (x2_5 + (1 : Int32)))]) [3, 1, 0] rfl ?_
        exact ih27 _ _ _ E
  · intro k25 hk25 E
    refine g_sub (lv' := [(0, .ref (ad 1)), (1, .int (0 : Int32)), (2, .int (0 : Int32))]) [2, 1, 0] rfl ?_
    refine fx2_of (P := fun (x2_12 : Int32) (h_13 : Hp) => G l D X 4 (WC ad cy) 0 0 h_13 4 [(0, .ref (ad 1)), (1, .int (0 : Int32)), (2, .int x2_12)] []) ?_ _ _ _ E
    intro self ih4 x2_12 h_13 E
    show G l D X 4 (WC ad cy) 0 0 h_13 4 [(0, .ref (ad 1)), (1, .int (0 : Int32)), (2, .int x2_12)] []
    unfold L_X9_layerCount_1_4 at E
    refine g_iload_n (pc' := 5) O ⟨dX9_layerCount_4, rfl⟩ (q := 2) rfl rfl ?_
    refine g_aload_n (pc' := 6) O ⟨dX9_layerCount_5, rfl⟩ (q := 0) rfl rfl ?_
    refine gf_C_RX9_9_1 ad cy (pc' := 9) O ⟨dX9_layerCount_6, rfl⟩ ?_
    refine g_icmp_ge (pc' := 12) O ⟨dX9_layerCount_9, rfl⟩ E (tgt := 25) (by decide) (fun E => ?_) (fun E => ?_)
    · refine g_sub (lv' := [(0, .ref (ad 1)), (1, .int (0 : Int32))]) [0, 1] rfl ?_
      exact hk25 _ E
    · refine g_aload_n (pc' := 13) O ⟨dX9_layerCount_12, rfl⟩ (q := 0) rfl rfl ?_
      refine gf_C_RX9_28_1 ad cy (pc' := 16) O ⟨dX9_layerCount_13, rfl⟩ ?_
      refine g_iload_n (pc' := 17) O ⟨dX9_layerCount_16, rfl⟩ (q := 2) rfl rfl ?_
      refine g_iconst (pc' := 18) O ⟨dX9_layerCount_17, rfl⟩ (v := (0 : Int32)) rfl ?_
      refine g_iast (pc' := 19) O ⟨dX9_layerCount_18, rfl⟩ (wC_5 ad cy h_13) (vC_5 ad cy h_13 _) E (fun E => ?_)
      refine g_nmh E (fun h_14 E => ?_)
      refine g_iinc (pc' := 22) O ⟨dX9_layerCount_19, rfl⟩ (q := 2) (v := x2_12 + (1 : Int32)) (lv' := [(2, .int (x2_12 + (1 : Int32))), (0, .ref (ad 1)), (1, .int (0 : Int32))]) rfl rfl (by decide) rfl ?_
      refine g_goto (pc' := 25) O ⟨dX9_layerCount_22, rfl⟩ (tgt := 4) (by decide) ?_
      refine g_sub (lv' := [(0, .ref (ad 1)), (1, .int (0 : Int32)), (2, .int (x2_12 + (1 : Int32)))]) [1, 2, 0] rfl ?_
      exact ih4 _ _ E
set_option maxRecDepth 100000 in
set_option maxHeartbeats 4000000 in
theorem t_J13_bitCount (l : Launch) (D : va_G) (ad : Nat → Nat) (cy : Nat → ClassId) {h : Hp} {x0 : Int64} {o : Int32} (E : f_J13_bitCount x0 = some o) : CtI l D cy (WC ad cy) yJ13_bitCount_95d88 cJ13_bitCount_95d88 2 .int 0 0 [.long x0] h o h := by
  refine sI (own := RJ13) rfl rfl (Nat.le_of_ble_eq_true rfl) (fun X O hret => ?_)
  show G l D X 2 (WC ad cy) 0 0 h 0 [(0, .long x0)] []
  unfold f_J13_bitCount at E
  refine g_lload_n (pc' := 1) O ⟨dJ13_bitCount_95d88_0, rfl⟩ (q := 0) rfl rfl ?_
  refine g_lload_n (pc' := 2) O ⟨dJ13_bitCount_95d88_1, rfl⟩ (q := 0) rfl rfl ?_
  refine g_iconst (pc' := 3) O ⟨dJ13_bitCount_95d88_2, rfl⟩ (v := (1 : Int32)) rfl ?_
  refine g_lushr (pc' := 4) O ⟨dJ13_bitCount_95d88_3, rfl⟩ ?_
  refine g_ldc2 (pc' := 7) O ⟨dJ13_bitCount_95d88_4, rfl⟩ kw_665 ?_
  refine g_land (pc' := 8) O ⟨dJ13_bitCount_95d88_7, rfl⟩ ?_
  refine g_lsub (pc' := 9) O ⟨dJ13_bitCount_95d88_8, rfl⟩ ?_
  refine g_nmL E (fun y0_1 E => ?_)
  refine g_lstore_n (pc' := 10) O ⟨dJ13_bitCount_95d88_9, rfl⟩ (lv' := [(0, .long y0_1)]) rfl (by decide) rfl ?_
  refine g_lload_n (pc' := 11) O ⟨dJ13_bitCount_95d88_10, rfl⟩ (q := 0) rfl rfl ?_
  refine g_ldc2 (pc' := 14) O ⟨dJ13_bitCount_95d88_11, rfl⟩ kw_666 ?_
  refine g_land (pc' := 15) O ⟨dJ13_bitCount_95d88_14, rfl⟩ ?_
  refine g_lload_n (pc' := 16) O ⟨dJ13_bitCount_95d88_15, rfl⟩ (q := 0) rfl rfl ?_
  refine g_iconst (pc' := 17) O ⟨dJ13_bitCount_95d88_16, rfl⟩ (v := (2 : Int32)) rfl ?_
  refine g_lushr (pc' := 18) O ⟨dJ13_bitCount_95d88_17, rfl⟩ ?_
  refine g_ldc2 (pc' := 21) O ⟨dJ13_bitCount_95d88_18, rfl⟩ kw_666 ?_
  refine g_land (pc' := 22) O ⟨dJ13_bitCount_95d88_21, rfl⟩ ?_
  refine g_ladd (pc' := 23) O ⟨dJ13_bitCount_95d88_22, rfl⟩ ?_
  refine g_nmL E (fun y0_2 E => ?_)
  refine g_lstore_n (pc' := 24) O ⟨dJ13_bitCount_95d88_23, rfl⟩ (lv' := [(0, .long y0_2)]) rfl (by decide) rfl ?_
  refine g_lload_n (pc' := 25) O ⟨dJ13_bitCount_95d88_24, rfl⟩ (q := 0) rfl rfl ?_
  refine g_lload_n (pc' := 26) O ⟨dJ13_bitCount_95d88_25, rfl⟩ (q := 0) rfl rfl ?_
  refine g_iconst (pc' := 27) O ⟨dJ13_bitCount_95d88_26, rfl⟩ (v := (4 : Int32)) rfl ?_
  refine g_lushr (pc' := 28) O ⟨dJ13_bitCount_95d88_27, rfl⟩ ?_
  refine g_ladd (pc' := 29) O ⟨dJ13_bitCount_95d88_28, rfl⟩ ?_
  refine g_ldc2 (pc' := 32) O ⟨dJ13_bitCount_95d88_29, rfl⟩ kw_667 ?_
  refine g_land (pc' := 33) O ⟨dJ13_bitCount_95d88_32, rfl⟩ ?_
  refine g_nmL E (fun y0_3 E => ?_)
  refine g_lstore_n (pc' := 34) O ⟨dJ13_bitCount_95d88_33, rfl⟩ (lv' := [(0, .long y0_3)]) rfl (by decide) rfl ?_
  refine g_lload_n (pc' := 35) O ⟨dJ13_bitCount_95d88_34, rfl⟩ (q := 0) rfl rfl ?_
  refine g_lload_n (pc' := 36) O ⟨dJ13_bitCount_95d88_35, rfl⟩ (q := 0) rfl rfl ?_
  refine g_bipush (pc' := 38) O ⟨dJ13_bitCount_95d88_36, rfl⟩ (v := (8 : Int32)) rfl ?_
  refine g_lushr (pc' := 39) O ⟨dJ13_bitCount_95d88_38, rfl⟩ ?_
  refine g_ladd (pc' := 40) O ⟨dJ13_bitCount_95d88_39, rfl⟩ ?_
  refine g_nmL E (fun y0_4 E => ?_)
  refine g_lstore_n (pc' := 41) O ⟨dJ13_bitCount_95d88_40, rfl⟩ (lv' := [(0, .long y0_4)]) rfl (by decide) rfl ?_
  refine g_lload_n (pc' := 42) O ⟨dJ13_bitCount_95d88_41, rfl⟩ (q := 0) rfl rfl ?_
  refine g_lload_n (pc' := 43) O ⟨dJ13_bitCount_95d88_42, rfl⟩ (q := 0) rfl rfl ?_
  refine g_bipush (pc' := 45) O ⟨dJ13_bitCount_95d88_43, rfl⟩ (v := (16 : Int32)) rfl ?_
  refine g_lushr (pc' := 46) O ⟨dJ13_bitCount_95d88_45, rfl⟩ ?_
  refine g_ladd (pc' := 47) O ⟨dJ13_bitCount_95d88_46, rfl⟩ ?_
  refine g_nmL E (fun y0_5 E => ?_)
  refine g_lstore_n (pc' := 48) O ⟨dJ13_bitCount_95d88_47, rfl⟩ (lv' := [(0, .long y0_5)]) rfl (by decide) rfl ?_
  refine g_lload_n (pc' := 49) O ⟨dJ13_bitCount_95d88_48, rfl⟩ (q := 0) rfl rfl ?_
  refine g_lload_n (pc' := 50) O ⟨dJ13_bitCount_95d88_49, rfl⟩ (q := 0) rfl rfl ?_
  refine g_bipush (pc' := 52) O ⟨dJ13_bitCount_95d88_50, rfl⟩ (v := (32 : Int32)) rfl ?_
  refine g_lushr (pc' := 53) O ⟨dJ13_bitCount_95d88_52, rfl⟩ ?_
  refine g_ladd (pc' := 54) O ⟨dJ13_bitCount_95d88_53, rfl⟩ ?_
  refine g_nmL E (fun y0_6 E => ?_)
  refine g_lstore_n (pc' := 55) O ⟨dJ13_bitCount_95d88_54, rfl⟩ (lv' := [(0, .long y0_6)]) rfl (by decide) rfl ?_
  refine g_lload_n (pc' := 56) O ⟨dJ13_bitCount_95d88_55, rfl⟩ (q := 0) rfl rfl ?_
  refine g_l2i (pc' := 57) O ⟨dJ13_bitCount_95d88_56, rfl⟩ ?_
  refine g_bipush (pc' := 59) O ⟨dJ13_bitCount_95d88_57, rfl⟩ (v := (127 : Int32)) rfl ?_
  refine g_iand (pc' := 60) O ⟨dJ13_bitCount_95d88_59, rfl⟩ ?_
  cases E
  exact hret _ _ _ ⟨dJ13_bitCount_95d88_60, rfl⟩ rfl
