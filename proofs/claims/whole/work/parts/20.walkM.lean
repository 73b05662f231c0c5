/-! WALKS, laid by program: each method does what its pure program says -/
set_option maxRecDepth 100000 in
set_option maxHeartbeats 4000000 in
theorem t_X11_thrown (l : Launch) (D : va_G) (ad : Nat → Nat) (cy : Nat → ClassId) {h : Hp}  {o : Int32} (E : f_X11_thrown h = some o) : CtI l D cy (WM ad cy) yX11_thrown cX11_thrown 1 .int 0 0 [.ref (ad 0)] h o h := by
  refine sI (own := RX11) rfl rfl (Nat.le_of_ble_eq_true rfl) (fun X O hret => ?_)
  show G l D X 1 (WM ad cy) 0 0 h 0 [(0, .ref (ad 0))] []
  unfold f_X11_thrown at E
  refine g_aload_n (pc' := 1) O ⟨dX11_thrown_0, rfl⟩ (q := 0) rfl rfl ?_
  refine gf_M_RX11_70_0 ad cy (pc' := 4) O ⟨dX11_thrown_1, rfl⟩ ?_
  cases E
  exact hret _ _ _ ⟨dX11_thrown_4, rfl⟩ rfl
set_option maxRecDepth 100000 in
set_option maxHeartbeats 4000000 in
theorem t_X11_in (l : Launch) (D : va_G) (ad : Nat → Nat) (cy : Nat → ClassId) {h : Hp} {x0 : Int32} {x1 : Int32} {x2 : Int32} {o : Int32} (E : f_X11_in x0 x1 x2 = some o) : CtI l D cy (WM ad cy) yX11_in cX11_in 3 .boolean 0 0 [.int x0, .int x1, .int x2] h o h := by
  refine sI (own := RX11) rfl rfl (Nat.le_of_ble_eq_true rfl) (fun X O hret => ?_)
  show G l D X 3 (WM ad cy) 0 0 h 0 [(0, .int x0), (1, .int x1), (2, .int x2)] []
  unfold f_X11_in at E
  refine g_iload_n (pc' := 1) O ⟨dX11_in_0, rfl⟩ (q := 0) rfl rfl ?_
  refine g_iload_n (pc' := 2) O ⟨dX11_in_1, rfl⟩ (q := 1) rfl rfl ?_
  refine g_icmp_lt (pc' := 5) O ⟨dX11_in_2, rfl⟩ E (tgt := 14) (by decide) (fun E => ?_) (fun E => ?_)
  · refine g_iconst (pc' := 15) O ⟨dX11_in_14, rfl⟩ (v := (0 : Int32)) rfl ?_
    obtain ⟨hn, E⟩ := ckz_of E
    cases E
    exact hret _ _ _ ⟨dX11_in_15, rfl⟩ hn
  · refine g_iload_n (pc' := 6) O ⟨dX11_in_5, rfl⟩ (q := 0) rfl rfl ?_
    refine g_iload_n (pc' := 7) O ⟨dX11_in_6, rfl⟩ (q := 2) rfl rfl ?_
    refine g_icmp_gt (pc' := 10) O ⟨dX11_in_7, rfl⟩ E (tgt := 14) (by decide) (fun E => ?_) (fun E => ?_)
    · refine g_iconst (pc' := 15) O ⟨dX11_in_14, rfl⟩ (v := (0 : Int32)) rfl ?_
      obtain ⟨hn, E⟩ := ckz_of E
      cases E
      exact hret _ _ _ ⟨dX11_in_15, rfl⟩ hn
    · refine g_iconst (pc' := 11) O ⟨dX11_in_10, rfl⟩ (v := (1 : Int32)) rfl ?_
      refine g_goto (pc' := 14) O ⟨dX11_in_11, rfl⟩ (tgt := 15) (by decide) ?_
      obtain ⟨hn, E⟩ := ckz_of E
      cases E
      exact hret _ _ _ ⟨dX11_in_15, rfl⟩ hn
set_option maxRecDepth 100000 in
set_option maxHeartbeats 4000000 in
theorem t_X11_isWire (l : Launch) (D : va_G) (ad : Nat → Nat) (cy : Nat → ClassId) {h : Hp} {x1 : Int32} {o : Int32} (E : f_X11_isWire h x1 = some o) : CtI l D cy (WM ad cy) yX11_isWire cX11_isWire 2 .boolean 1 22 [.ref (ad 0), .int x1] h o h := by
  refine sI (own := RX11) rfl rfl (Nat.le_of_ble_eq_true rfl) (fun X O hret => ?_)
  show G l D X 2 (WM ad cy) 0 0 h 0 [(0, .ref (ad 0)), (1, .int x1)] []
  unfold f_X11_isWire at E
  refine g_iload_n (pc' := 1) O ⟨dX11_isWire_0, rfl⟩ (q := 1) rfl rfl ?_
  refine g_iconst (pc' := 2) O ⟨dX11_isWire_1, rfl⟩ (v := (0 : Int32)) rfl ?_
  refine g_aload_n (pc' := 3) O ⟨dX11_isWire_2, rfl⟩ (q := 0) rfl rfl ?_
  refine gf_M_RX11_74_0 ad cy (pc' := 6) O ⟨dX11_isWire_3, rfl⟩ ?_
  refine g_iconst (pc' := 7) O ⟨dX11_isWire_6, rfl⟩ (v := (1 : Int32)) rfl ?_
  refine g_isub (pc' := 8) O ⟨dX11_isWire_7, rfl⟩ ?_
  obtain ⟨r_1, c_2, E⟩ := bd_of E
  refine g_Si (pc' := 11) O ⟨dX11_isWire_8, rfl⟩ (y := yX11_in) (As := [.int x1, .int (0 : Int32), .int ((h.1 0 1) - (1 : Int32))]) (st := []) (t_X11_in l D ad cy (h := h) c_2) kw_1167 kw_70 kw_1165 kw_1166 hd_X11_in ⟨Nat.le_of_ble_eq_true rfl, Nat.le_of_ble_eq_true rfl⟩ ⟨Nat.le_of_ble_eq_true rfl, Nat.le_of_ble_eq_true rfl⟩ rfl (Nat.le_of_ble_eq_true rfl) ?_
  obtain ⟨hn, E⟩ := ckz_of E
  cases E
  exact hret _ _ _ ⟨dX11_isWire_11, rfl⟩ hn
set_option maxRecDepth 100000 in
set_option maxHeartbeats 4000000 in
theorem t_X11_isComparator (l : Launch) (D : va_G) (ad : Nat → Nat) (cy : Nat → ClassId) {h : Hp} {x1 : Int32} {o : Int32} (E : f_X11_isComparator h x1 = some o) : CtI l D cy (WM ad cy) yX11_isComparator cX11_isComparator 2 .boolean 1 22 [.ref (ad 0), .int x1] h o h := by
  refine sI (own := RX11) rfl rfl (Nat.le_of_ble_eq_true rfl) (fun X O hret => ?_)
  show G l D X 2 (WM ad cy) 0 0 h 0 [(0, .ref (ad 0)), (1, .int x1)] []
  unfold f_X11_isComparator at E
  refine g_iload_n (pc' := 1) O ⟨dX11_isComparator_0, rfl⟩ (q := 1) rfl rfl ?_
  refine g_iconst (pc' := 2) O ⟨dX11_isComparator_1, rfl⟩ (v := (0 : Int32)) rfl ?_
  refine g_aload_n (pc' := 3) O ⟨dX11_isComparator_2, rfl⟩ (q := 0) rfl rfl ?_
  refine gf_M_RX11_81_0 ad cy (pc' := 6) O ⟨dX11_isComparator_3, rfl⟩ ?_
  refine g_iconst (pc' := 7) O ⟨dX11_isComparator_6, rfl⟩ (v := (1 : Int32)) rfl ?_
  refine g_isub (pc' := 8) O ⟨dX11_isComparator_7, rfl⟩ ?_
  obtain ⟨r_1, c_2, E⟩ := bd_of E
  refine g_Si (pc' := 11) O ⟨dX11_isComparator_8, rfl⟩ (y := yX11_in) (As := [.int x1, .int (0 : Int32), .int ((h.1 0 2) - (1 : Int32))]) (st := []) (t_X11_in l D ad cy (h := h) c_2) kw_1167 kw_70 kw_1165 kw_1166 hd_X11_in ⟨Nat.le_of_ble_eq_true rfl, Nat.le_of_ble_eq_true rfl⟩ ⟨Nat.le_of_ble_eq_true rfl, Nat.le_of_ble_eq_true rfl⟩ rfl (Nat.le_of_ble_eq_true rfl) ?_
  obtain ⟨hn, E⟩ := ckz_of E
  cases E
  exact hret _ _ _ ⟨dX11_isComparator_11, rfl⟩ hn
set_option maxRecDepth 100000 in
set_option maxHeartbeats 4000000 in
theorem t_X11_factorial (l : Launch) (D : va_G) (ad : Nat → Nat) (cy : Nat → ClassId) {h : Hp} {x0 : Int32} {o : Int32} (E : f_X11_factorial x0 = some o) : CtI l D cy (WM ad cy) yX11_factorial cX11_factorial 3 .int 0 0 [.int x0] h o h := by
  refine sI (own := RX11) rfl rfl (Nat.le_of_ble_eq_true rfl) (fun X O hret => ?_)
  show G l D X 3 (WM ad cy) 0 0 h 0 [(0, .int x0)] []
  unfold f_X11_factorial at E
  refine g_iconst (pc' := 1) O ⟨dX11_factorial_0, rfl⟩ (v := (1 : Int32)) rfl ?_
  refine g_istore_n (pc' := 2) O ⟨dX11_factorial_1, rfl⟩ (lv' := [(1, .int (1 : Int32)), (0, .int x0)]) rfl (by decide) rfl ?_
  refine g_iconst (pc' := 3) O ⟨dX11_factorial_2, rfl⟩ (v := (2 : Int32)) rfl ?_
  refine g_istore_n (pc' := 4) O ⟨dX11_factorial_3, rfl⟩ (lv' := [(2, .int (2 : Int32)), (1, .int (1 : Int32)), (0, .int x0)]) rfl (by decide) rfl ?_
  refine jn1_of (P := fun (x1_1 : Int32) => G l D X 3 (WM ad cy) 0 0 h 19 [(1, .int x1_1)] []) E ?_ ?_
  · intro x1_1 E
    show G l D X 3 (WM ad cy) 0 0 h 19 [(1, .int x1_1)] []
    refine g_iload_n (pc' := 20) O ⟨dX11_factorial_19, rfl⟩ (q := 0) rfl rfl ?_
    cases E
    exact hret _ _ _ ⟨dX11_factorial_20, rfl⟩ rfl
  · intro k19 hk19 E
    refine g_sub (lv' := [(0, .int x0), (1, .int (1 : Int32)), (2, .int (2 : Int32))]) [2, 1, 0] rfl ?_
    refine fx2_of (P := fun (x1_2 : Int32) (x2_3 : Int32) => G l D X 3 (WM ad cy) 0 0 h 4 [(0, .int x0), (1, .int x1_2), (2, .int x2_3)] []) ?_ _ _ _ E
    intro self ih4 x1_2 x2_3 E
    show G l D X 3 (WM ad cy) 0 0 h 4 [(0, .int x0), (1, .int x1_2), (2, .int x2_3)] []
    unfold L_X11_factorial_4 at E
    refine g_iload_n (pc' := 5) O ⟨dX11_factorial_4, rfl⟩ (q := 2) rfl rfl ?_
    refine g_iload_n (pc' := 6) O ⟨dX11_factorial_5, rfl⟩ (q := 0) rfl rfl ?_
    refine g_icmp_gt (pc' := 9) O ⟨dX11_factorial_6, rfl⟩ E (tgt := 19) (by decide) (fun E => ?_) (fun E => ?_)
    · refine g_sub (lv' := [(1, .int x1_2)]) [1] rfl ?_
      exact hk19 _ E
    · refine g_iload_n (pc' := 10) O ⟨dX11_factorial_9, rfl⟩ (q := 1) rfl rfl ?_
      refine g_iload_n (pc' := 11) O ⟨dX11_factorial_10, rfl⟩ (q := 2) rfl rfl ?_
      refine g_imul (pc' := 12) O ⟨dX11_factorial_11, rfl⟩ ?_
      refine g_nm E (fun y1_4 E => ?_)
      refine g_istore_n (pc' := 13) O ⟨dX11_factorial_12, rfl⟩ (lv' := [(1, .int y1_4), (0, .int x0), (2, .int x2_3)]) rfl (by decide) rfl ?_
      refine g_iinc (pc' := 16) O ⟨dX11_factorial_13, rfl⟩ (q := 2) (v := x2_3 + (1 : Int32)) (lv' := [(2, .int (x2_3 + (1 : Int32))), (1, .int y1_4), (0, .int x0)]) rfl rfl (by decide) rfl ?_
      refine g_goto (pc' := 19) O ⟨dX11_factorial_16, rfl⟩ (tgt := 4) (by decide) ?_
      refine g_sub (lv' := [(0, .int x0), (1, .int y1_4), (2, .int (x2_3 + (1 : Int32)))]) [2, 1, 0] rfl ?_
      exact ih4 _ _ E
set_option maxRecDepth 100000 in
set_option maxHeartbeats 4000000 in
theorem t_X11_forgets (l : Launch) (D : va_G) (ad : Nat → Nat) (cy : Nat → ClassId) {h : Hp}  {o : Hp} (E : f_X11_forgets h = some o) : CtV l D cy (WM ad cy) yX11_forgets cX11_forgets 2 0 0 [.ref (ad 0)] h o := by
  refine sV (own := RX11) rfl rfl (Nat.le_of_ble_eq_true rfl) (fun X O hret => ?_)
  show G l D X 2 (WM ad cy) 0 0 h 0 [(0, .ref (ad 0))] []
  unfold f_X11_forgets at E
  refine g_aload_n (pc' := 1) O ⟨dX11_forgets_0, rfl⟩ (q := 0) rfl rfl ?_
  refine g_iconst (pc' := 2) O ⟨dX11_forgets_1, rfl⟩ (v := (0 : Int32)) rfl ?_
  refine gp_M_RX11_102_0 ad cy (pc' := 5) O ⟨dX11_forgets_2, rfl⟩ ?_
  refine g_nmh E (fun h_1 E => ?_)
  refine g_iconst (pc' := 6) O ⟨dX11_forgets_5, rfl⟩ (v := (0 : Int32)) rfl ?_
  refine g_istore_n (pc' := 7) O ⟨dX11_forgets_6, rfl⟩ (lv' := [(1, .int (0 : Int32)), (0, .ref (ad 0))]) rfl (by decide) rfl ?_
  refine jn1_of (P := fun (h_2 : Hp) => G l D X 2 (WM ad cy) 0 0 h_2 26 [(0, .ref (ad 0))] []) E ?_ ?_
  · intro h_2 E
    show G l D X 2 (WM ad cy) 0 0 h_2 26 [(0, .ref (ad 0))] []
    refine g_iconst (pc' := 27) O ⟨dX11_forgets_26, rfl⟩ (v := (0 : Int32)) rfl ?_
    refine g_istore_n (pc' := 28) O ⟨dX11_forgets_27, rfl⟩ (lv' := [(1, .int (0 : Int32)), (0, .ref (ad 0))]) rfl (by decide) rfl ?_
    refine jn1_of (P := fun (h_3 : Hp) => G l D X 2 (WM ad cy) 0 0 h_3 47 [] []) E ?_ ?_
    · intro h_3 E
      show G l D X 2 (WM ad cy) 0 0 h_3 47 [] []
      cases E
      exact hret _ _ _ ⟨dX11_forgets_47, rfl⟩
    · intro k47 hk47 E
      refine g_sub (lv' := [(0, .ref (ad 0)), (1, .int (0 : Int32))]) [1, 0] rfl ?_
      refine fx2_of (P := fun (x1_4 : Int32) (h_5 : Hp) => G l D X 2 (WM ad cy) 0 0 h_5 28 [(0, .ref (ad 0)), (1, .int x1_4)] []) ?_ _ _ _ E
      intro self ih28 x1_4 h_5 E
      show G l D X 2 (WM ad cy) 0 0 h_5 28 [(0, .ref (ad 0)), (1, .int x1_4)] []
      unfold L_X11_forgets_28 at E
      refine g_iload_n (pc' := 29) O ⟨dX11_forgets_28, rfl⟩ (q := 1) rfl rfl ?_
      refine g_bipush (pc' := 31) O ⟨dX11_forgets_29, rfl⟩ (v := (6 : Int32)) rfl ?_
      refine g_icmp_ge (pc' := 34) O ⟨dX11_forgets_31, rfl⟩ E (tgt := 47) (by decide) (fun E => ?_) (fun E => ?_)
      · refine g_sub (lv' := []) [] rfl ?_
        exact hk47 _ E
      · refine g_aload_n (pc' := 35) O ⟨dX11_forgets_34, rfl⟩ (q := 0) rfl rfl ?_
        refine gf_M_RX11_38_0 ad cy (pc' := 38) O ⟨dX11_forgets_35, rfl⟩ ?_
        refine g_iload_n (pc' := 39) O ⟨dX11_forgets_38, rfl⟩ (q := 1) rfl rfl ?_
        refine g_iconst (pc' := 40) O ⟨dX11_forgets_39, rfl⟩ (v := (0 : Int32)) rfl ?_
        refine g_iast (pc' := 41) O ⟨dX11_forgets_40, rfl⟩ (wM_10 ad cy h_5) (vM_10 ad cy h_5 _) E (fun E => ?_)
        refine g_nmh E (fun h_6 E => ?_)
        refine g_iinc (pc' := 44) O ⟨dX11_forgets_41, rfl⟩ (q := 1) (v := x1_4 + (1 : Int32)) (lv' := [(1, .int (x1_4 + (1 : Int32))), (0, .ref (ad 0))]) rfl rfl (by decide) rfl ?_
        refine g_goto (pc' := 47) O ⟨dX11_forgets_44, rfl⟩ (tgt := 28) (by decide) ?_
        refine g_sub (lv' := [(0, .ref (ad 0)), (1, .int (x1_4 + (1 : Int32)))]) [1, 0] rfl ?_
        exact ih28 _ _ E
  · intro k26 hk26 E
    refine g_sub (lv' := [(0, .ref (ad 0)), (1, .int (0 : Int32))]) [1, 0] rfl ?_
    refine fx2_of (P := fun (x1_7 : Int32) (h_8 : Hp) => G l D X 2 (WM ad cy) 0 0 h_8 7 [(0, .ref (ad 0)), (1, .int x1_7)] []) ?_ _ _ _ E
    intro self ih7 x1_7 h_8 E
    show G l D X 2 (WM ad cy) 0 0 h_8 7 [(0, .ref (ad 0)), (1, .int x1_7)] []
    unfold L_X11_forgets_7 at E
    refine g_iload_n (pc' := 8) O ⟨dX11_forgets_7, rfl⟩ (q := 1) rfl rfl ?_
    refine g_bipush (pc' := 10) O ⟨dX11_forgets_8, rfl⟩ (v := (25 : Int32)) rfl ?_
    refine g_icmp_ge (pc' := 13) O ⟨dX11_forgets_10, rfl⟩ E (tgt := 26) (by decide) (fun E => ?_) (fun E => ?_)
    · refine g_sub (lv' := [(0, .ref (ad 0))]) [0] rfl ?_
      exact hk26 _ E
    · refine g_aload_n (pc' := 14) O ⟨dX11_forgets_13, rfl⟩ (q := 0) rfl rfl ?_
      refine gf_M_RX11_34_0 ad cy (pc' := 17) O ⟨dX11_forgets_14, rfl⟩ ?_
      refine g_iload_n (pc' := 18) O ⟨dX11_forgets_17, rfl⟩ (q := 1) rfl rfl ?_
      refine g_iconst (pc' := 19) O ⟨dX11_forgets_18, rfl⟩ (v := (0 : Int32)) rfl ?_
      refine g_zast (pc' := 20) O ⟨dX11_forgets_19, rfl⟩ (wM_9 ad cy h_8) (vM_9 ad cy h_8 _) E (fun E => ?_)
      refine g_nmh E (fun h_9 E => ?_)
      refine g_iinc (pc' := 23) O ⟨dX11_forgets_20, rfl⟩ (q := 1) (v := x1_7 + (1 : Int32)) (lv' := [(1, .int (x1_7 + (1 : Int32))), (0, .ref (ad 0))]) rfl rfl (by decide) rfl ?_
      refine g_goto (pc' := 26) O ⟨dX11_forgets_23, rfl⟩ (tgt := 7) (by decide) ?_
      refine g_sub (lv' := [(0, .ref (ad 0)), (1, .int (x1_7 + (1 : Int32)))]) [1, 0] rfl ?_
      exact ih7 _ _ E
set_option maxRecDepth 100000 in
set_option maxHeartbeats 4000000 in
theorem t_X11_begins (l : Launch) (D : va_G) (ad : Nat → Nat) (cy : Nat → ClassId) {h : Hp} {x1 : Int32} {o : Hp} (E : f_X11_begins h x1 = some o) : CtV l D cy (WM ad cy) yX11_begins cX11_begins 8 1 22 [.ref (ad 0), .int x1] h o := by
  refine sV (own := RX11) rfl rfl (Nat.le_of_ble_eq_true rfl) (fun X O hret => ?_)
  show G l D X 8 (WM ad cy) 0 0 h 0 [(0, .ref (ad 0)), (1, .int x1)] []
  unfold f_X11_begins at E
  refine g_aload_n (pc' := 1) O ⟨dX11_begins_0, rfl⟩ (q := 0) rfl rfl ?_
  refine g_iload_n (pc' := 2) O ⟨dX11_begins_1, rfl⟩ (q := 1) rfl rfl ?_
  refine gp_M_RX11_74_0 ad cy (pc' := 5) O ⟨dX11_begins_2, rfl⟩ ?_
  refine g_nmh E (fun h_1 E => ?_)
  refine g_aload_n (pc' := 6) O ⟨dX11_begins_5, rfl⟩ (q := 0) rfl rfl ?_
  refine g_iconst (pc' := 7) O ⟨dX11_begins_6, rfl⟩ (v := (0 : Int32)) rfl ?_
  refine gp_M_RX11_81_0 ad cy (pc' := 10) O ⟨dX11_begins_7, rfl⟩ ?_
  refine g_nmh E (fun h_2 E => ?_)
  refine g_aload_n (pc' := 11) O ⟨dX11_begins_10, rfl⟩ (q := 0) rfl rfl ?_
  refine g_iload_n (pc' := 12) O ⟨dX11_begins_11, rfl⟩ (q := 1) rfl rfl ?_
  obtain ⟨r_3, c_4, E⟩ := bd_of E
  refine g_Si (pc' := 15) O ⟨dX11_begins_12, rfl⟩ (y := yX11_factorial) (As := [.int x1]) (st := [.ref (ad 0)]) (t_X11_factorial l D ad cy (h := h_2) c_4) kw_1073 kw_70 kw_1071 kw_1072 hd_X11_factorial ⟨Nat.le_of_ble_eq_true rfl, Nat.le_of_ble_eq_true rfl⟩ ⟨Nat.le_of_ble_eq_true rfl, Nat.le_of_ble_eq_true rfl⟩ rfl (Nat.le_of_ble_eq_true rfl) ?_
  refine gp_M_RX11_88_0 ad cy (pc' := 18) O ⟨dX11_begins_15, rfl⟩ ?_
  refine g_nmh E (fun h_5 E => ?_)
  refine g_iconst (pc' := 19) O ⟨dX11_begins_18, rfl⟩ (v := (0 : Int32)) rfl ?_
  refine g_istore_n (pc' := 20) O ⟨dX11_begins_19, rfl⟩ (lv' := [(2, .int (0 : Int32)), (0, .ref (ad 0)), (1, .int x1)]) rfl (by decide) rfl ?_
  refine jn1_of (P := fun (h_6 : Hp) => G l D X 8 (WM ad cy) 0 0 h_6 156 [(0, .ref (ad 0))] []) E ?_ ?_
  · intro h_6 E
    show G l D X 8 (WM ad cy) 0 0 h_6 156 [(0, .ref (ad 0))] []
    refine g_aload_n (pc' := 157) O ⟨dX11_begins_156, rfl⟩ (q := 0) rfl rfl ?_
    obtain ⟨r_7, c_8, E⟩ := bd_of E
    refine g_Vv (pc' := 160) O ⟨dX11_begins_157, rfl⟩ (y := yX11_forgets) (As := []) (st := []) (t_X11_forgets l D ad cy (h := h_6) c_8) kw_1077 kw_70 kw_1074 kw_1076 kw_25 rfl (wM_0 ad cy h_6) hd_X11_forgets ⟨Nat.le_of_ble_eq_true rfl, Nat.le_of_ble_eq_true rfl⟩ ⟨Nat.le_of_ble_eq_true rfl, Nat.le_of_ble_eq_true rfl⟩ rfl (Nat.le_of_ble_eq_true rfl) ?_
    cases E
    exact hret _ _ _ ⟨dX11_begins_160, rfl⟩
  · intro k156 hk156 E
    refine g_sub (lv' := [(0, .ref (ad 0)), (1, .int x1), (2, .int (0 : Int32))]) [1, 2, 0] rfl ?_
    refine fx2_of (P := fun (x2_9 : Int32) (h_10 : Hp) => G l D X 8 (WM ad cy) 0 0 h_10 20 [(0, .ref (ad 0)), (1, .int x1), (2, .int x2_9)] []) ?_ _ _ _ E
    intro self ih20 x2_9 h_10 E
    show G l D X 8 (WM ad cy) 0 0 h_10 20 [(0, .ref (ad 0)), (1, .int x1), (2, .int x2_9)] []
    unfold L_X11_begins_20 at E
    refine g_iload_n (pc' := 21) O ⟨dX11_begins_20, rfl⟩ (q := 2) rfl rfl ?_
    refine g_aload_n (pc' := 22) O ⟨dX11_begins_21, rfl⟩ (q := 0) rfl rfl ?_
    refine gf_M_RX11_88_0 ad cy (pc' := 25) O ⟨dX11_begins_22, rfl⟩ ?_
    refine g_icmp_ge (pc' := 28) O ⟨dX11_begins_25, rfl⟩ E (tgt := 156) (by decide) (fun E => ?_) (fun E => ?_)
    · refine g_sub (lv' := [(0, .ref (ad 0))]) [0] rfl ?_
      exact hk156 _ E
    · refine g_iconst (pc' := 29) O ⟨dX11_begins_28, rfl⟩ (v := (0 : Int32)) rfl ?_
      refine g_istore_n (pc' := 30) O ⟨dX11_begins_29, rfl⟩ (lv' := [(3, .int (0 : Int32)), (0, .ref (ad 0)), (1, .int x1), (2, .int x2_9)]) rfl (by decide) rfl ?_
      refine jn1_of (P := fun (h_11 : Hp) => G l D X 8 (WM ad cy) 0 0 h_11 48 [(0, .ref (ad 0)), (1, .int x1), (2, .int x2_9)] []) E ?_ ?_
      · intro h_11 E
        show G l D X 8 (WM ad cy) 0 0 h_11 48 [(0, .ref (ad 0)), (1, .int x1), (2, .int x2_9)] []
        refine g_iload_n (pc' := 49) O ⟨dX11_begins_48, rfl⟩ (q := 2) rfl rfl ?_
        refine g_istore_n (pc' := 50) O ⟨dX11_begins_49, rfl⟩ (lv' := [(3, .int x2_9), (0, .ref (ad 0)), (1, .int x1), (2, .int x2_9)]) rfl (by decide) rfl ?_
        refine g_iconst (pc' := 51) O ⟨dX11_begins_50, rfl⟩ (v := (0 : Int32)) rfl ?_
        refine g_istore (pc' := 53) O ⟨dX11_begins_51, rfl⟩ (lv' := [(4, .int (0 : Int32)), (3, .int x2_9), (0, .ref (ad 0)), (1, .int x1), (2, .int x2_9)]) (by decide) rfl ?_
        refine jn1_of (P := fun (h_12 : Hp) => G l D X 8 (WM ad cy) 0 0 h_12 143 [(0, .ref (ad 0)), (1, .int x1), (2, .int x2_9)] []) E ?_ ?_
        · intro h_12 E
          show G l D X 8 (WM ad cy) 0 0 h_12 143 [(0, .ref (ad 0)), (1, .int x1), (2, .int x2_9)] []
          refine g_aload_n (pc' := 144) O ⟨dX11_begins_143, rfl⟩ (q := 0) rfl rfl ?_
          refine gf_M_RX11_50_0 ad cy (pc' := 147) O ⟨dX11_begins_144, rfl⟩ ?_
          refine g_iload_n (pc' := 148) O ⟨dX11_begins_147, rfl⟩ (q := 2) rfl rfl ?_
          refine g_iconst (pc' := 149) O ⟨dX11_begins_148, rfl⟩ (v := (1 : Int32)) rfl ?_
          refine g_zast (pc' := 150) O ⟨dX11_begins_149, rfl⟩ (wM_14 ad cy h_12) (vM_14 ad cy h_12 _) E (fun E => ?_)
          refine g_nmh E (fun h_13 E => ?_)
          refine g_iinc (pc' := 153) O ⟨dX11_begins_150, rfl⟩ (q := 2) (v := x2_9 + (1 : Int32)) (lv' := [(2, .int (x2_9 + (1 : Int32))), (0, .ref (ad 0)), (1, .int x1)]) rfl rfl (by decide) rfl ?_
          refine g_goto (pc' := 156) O ⟨dX11_begins_153, rfl⟩ (tgt := 20) (by decide) ?_
          refine g_sub (lv' := [(0, .ref (ad 0)), (1, .int x1), (2, .int (x2_9 + (1 : Int32)))]) [1, 2, 0] rfl ?_
          exact ih20 _ _ E
        · intro k143 hk143 E
          refine g_sub (lv' := [(0, .ref (ad 0)), (1, .int x1), (2, .int x2_9), (3, .int x2_9), (4, .int (0 : Int32))]) [2, 3, 4, 1, 0] rfl ?_
          refine fx3_of (P := fun (x3_14 : Int32) (x4_15 : Int32) (h_16 : Hp) => G l D X 8 (WM ad cy) 0 0 h_16 53 [(0, .ref (ad 0)), (1, .int x1), (2, .int x2_9), (3, .int x3_14), (4, .int x4_15)] []) ?_ _ _ _ _ E
          intro self ih53 x3_14 x4_15 h_16 E
          show G l D X 8 (WM ad cy) 0 0 h_16 53 [(0, .ref (ad 0)), (1, .int x1), (2, .int x2_9), (3, .int x3_14), (4, .int x4_15)] []
          unfold L_X11_begins_53 at E
          refine g_iload (pc' := 55) O ⟨dX11_begins_53, rfl⟩ (q := 4) rfl ?_
          refine g_iload_n (pc' := 56) O ⟨dX11_begins_55, rfl⟩ (q := 1) rfl rfl ?_
          refine g_icmp_ge (pc' := 59) O ⟨dX11_begins_56, rfl⟩ E (tgt := 143) (by decide) (fun E => ?_) (fun E => ?_)
          · refine g_sub (lv' := [(0, .ref (ad 0)), (1, .int x1), (2, .int x2_9)]) [0, 1, 2] rfl ?_
            exact hk143 _ E
          · refine g_iload_n (pc' := 60) O ⟨dX11_begins_59, rfl⟩ (q := 1) rfl rfl ?_
            refine g_iconst (pc' := 61) O ⟨dX11_begins_60, rfl⟩ (v := (1 : Int32)) rfl ?_
            refine g_isub (pc' := 62) O ⟨dX11_begins_61, rfl⟩ ?_
            refine g_iload (pc' := 64) O ⟨dX11_begins_62, rfl⟩ (q := 4) rfl ?_
            refine g_isub (pc' := 65) O ⟨dX11_begins_64, rfl⟩ ?_
            obtain ⟨r_17, c_18, E⟩ := bd_of E
            refine g_Si (pc' := 68) O ⟨dX11_begins_65, rfl⟩ (y := yX11_factorial) (As := [.int ((x1 - (1 : Int32)) - x4_15)]) (st := []) (t_X11_factorial l D ad cy (h := h_16) c_18) kw_1073 kw_70 kw_1071 kw_1072 hd_X11_factorial ⟨Nat.le_of_ble_eq_true rfl, Nat.le_of_ble_eq_true rfl⟩ ⟨Nat.le_of_ble_eq_true rfl, Nat.le_of_ble_eq_true rfl⟩ rfl (Nat.le_of_ble_eq_true rfl) ?_
            refine g_istore (pc' := 70) O ⟨dX11_begins_68, rfl⟩ (lv' := [(5, .int r_17), (0, .ref (ad 0)), (1, .int x1), (2, .int x2_9), (3, .int x3_14), (4, .int x4_15)]) (by decide) rfl ?_
            refine g_iload_n (pc' := 71) O ⟨dX11_begins_70, rfl⟩ (q := 4) rfl rfl ?_
            refine g_iload (pc' := 73) O ⟨dX11_begins_71, rfl⟩ (q := 0) rfl ?_
            obtain ⟨nz_73, E⟩ := nz_of E
            refine g_idiv (pc' := 74) O ⟨dX11_begins_73, rfl⟩ nz_73 ?_
            refine g_nm E (fun y6_19 E => ?_)
            refine g_istore (pc' := 76) O ⟨dX11_begins_74, rfl⟩ (lv' := [(6, .int y6_19), (5, .int r_17), (0, .ref (ad 0)), (1, .int x1), (2, .int x2_9), (3, .int x3_14), (4, .int x4_15)]) (by decide) rfl ?_
            refine g_iload_n (pc' := 77) O ⟨dX11_begins_76, rfl⟩ (q := 5) rfl rfl ?_
            refine g_iload (pc' := 79) O ⟨dX11_begins_77, rfl⟩ (q := 1) rfl ?_
            obtain ⟨nz_79, E⟩ := nz_of E
            refine g_irem (pc' := 80) O ⟨dX11_begins_79, rfl⟩ nz_79 ?_
            refine g_nm E (fun y3_20 E => ?_)
            refine g_istore_n (pc' := 81) O ⟨dX11_begins_80, rfl⟩ (lv' := [(3, .int y3_20), (6, .int y6_19), (5, .int r_17), (0, .ref (ad 0)), (1, .int x1), (2, .int x2_9), (4, .int x4_15)]) rfl (by decide) rfl ?_
            refine g_aload_n (pc' := 82) O ⟨dX11_begins_81, rfl⟩ (q := 3) rfl rfl ?_
            refine gf_M_RX11_19_0 ad cy (pc' := 85) O ⟨dX11_begins_82, rfl⟩ ?_
            refine g_bipush (pc' := 87) O ⟨dX11_begins_85, rfl⟩ (v := (6 : Int32)) rfl ?_
            refine g_iload_n (pc' := 88) O ⟨dX11_begins_87, rfl⟩ (q := 5) rfl rfl ?_
            refine g_imul (pc' := 89) O ⟨dX11_begins_88, rfl⟩ ?_
            refine g_iload (pc' := 91) O ⟨dX11_begins_89, rfl⟩ (q := 6) rfl ?_
            refine g_iadd (pc' := 92) O ⟨dX11_begins_91, rfl⟩ ?_
            refine g_aload_n (pc' := 93) O ⟨dX11_begins_92, rfl⟩ (q := 3) rfl rfl ?_
            refine gf_M_RX11_25_0 ad cy (pc' := 96) O ⟨dX11_begins_93, rfl⟩ ?_
            refine g_iload (pc' := 98) O ⟨dX11_begins_96, rfl⟩ (q := 1) rfl ?_
            refine g_iald (pc' := 99) O ⟨dX11_begins_98, rfl⟩ (wM_6 ad cy h_16) E (fun E => ?_)
            refine g_iast (pc' := 100) O ⟨dX11_begins_99, rfl⟩ (wM_4 ad cy h_16) (vM_4 ad cy h_16 _) E (fun E => ?_)
            refine g_nmh E (fun h_21 E => ?_)
            refine g_iload (pc' := 102) O ⟨dX11_begins_100, rfl⟩ (q := 1) rfl ?_
            refine g_istore (pc' := 104) O ⟨dX11_begins_102, rfl⟩ (lv' := [(7, .int y6_19), (3, .int y3_20), (6, .int y6_19), (5, .int r_17), (0, .ref (ad 0)), (1, .int x1), (2, .int x2_9), (4, .int x4_15)]) (by decide) rfl ?_
            refine jn1_of (P := fun (h_22 : Hp) => G l D X 8 (WM ad cy) 0 0 h_22 137 [(0, .ref (ad 0)), (1, .int x1), (2, .int x2_9), (3, .int y3_20), (4, .int x4_15)] []) E ?_ ?_
            · intro h_22 E
              show G l D X 8 (WM ad cy) 0 0 h_22 137 [(0, .ref (ad 0)), (1, .int x1), (2, .int x2_9), (3, .int y3_20), (4, .int x4_15)] []
              refine g_iinc (pc' := 140) O ⟨dX11_begins_137, rfl⟩ (q := 4) (v := x4_15 + (1 : Int32)) (lv' := [(4, .int (x4_15 + (1 : Int32))), (0, .ref (ad 0)), (1, .int x1), (2, .int x2_9), (3, .int y3_20)]) rfl rfl (by decide) rfl ?_
              refine g_goto (pc' := 143) O ⟨dX11_begins_140, rfl⟩ (tgt := 53) (by decide) ?_
              refine g_sub (lv' := [(0, .ref (ad 0)), (1, .int x1), (2, .int x2_9), (3, .int y3_20), (4, .int (x4_15 + (1 : Int32)))]) [1, 2, 3, 4, 0] rfl ?_
              exact ih53 _ _ _ E
            · intro k137 hk137 E
              refine g_sub (lv' := [(0, .ref (ad 0)), (1, .int x1), (2, .int x2_9), (3, .int y3_20), (4, .int x4_15), (7, .int y6_19)]) [4, 5, 6, 1, 7, 0] rfl ?_
              refine fx2_of (P := fun (x7_23 : Int32) (h_24 : Hp) => G l D X 8 (WM ad cy) 0 0 h_24 104 [(0, .ref (ad 0)), (1, .int x1), (2, .int x2_9), (3, .int y3_20), (4, .int x4_15), (7, .int x7_23)] []) ?_ _ _ _ E
              intro self ih104 x7_23 h_24 E
              show G l D X 8 (WM ad cy) 0 0 h_24 104 [(0, .ref (ad 0)), (1, .int x1), (2, .int x2_9), (3, .int y3_20), (4, .int x4_15), (7, .int x7_23)] []
              unfold L_X11_begins_104 at E
              refine g_iload (pc' := 106) O ⟨dX11_begins_104, rfl⟩ (q := 5) rfl ?_
              refine g_iload_n (pc' := 107) O ⟨dX11_begins_106, rfl⟩ (q := 1) rfl rfl ?_
              refine g_iconst (pc' := 108) O ⟨dX11_begins_107, rfl⟩ (v := (1 : Int32)) rfl ?_
              refine g_isub (pc' := 109) O ⟨dX11_begins_108, rfl⟩ ?_
              refine g_iload (pc' := 111) O ⟨dX11_begins_109, rfl⟩ (q := 4) rfl ?_
              refine g_isub (pc' := 112) O ⟨dX11_begins_111, rfl⟩ ?_
              refine g_icmp_ge (pc' := 115) O ⟨dX11_begins_112, rfl⟩ E (tgt := 137) (by decide) (fun E => ?_) (fun E => ?_)
              · refine g_sub (lv' := [(0, .ref (ad 0)), (1, .int x1), (2, .int x2_9), (3, .int y3_20), (4, .int x4_15)]) [0, 1, 2, 3, 4] rfl ?_
                exact hk137 _ E
              · refine g_aload_n (pc' := 116) O ⟨dX11_begins_115, rfl⟩ (q := 0) rfl rfl ?_
                refine gf_M_RX11_25_0 ad cy (pc' := 119) O ⟨dX11_begins_116, rfl⟩ ?_
                refine g_iload (pc' := 121) O ⟨dX11_begins_119, rfl⟩ (q := 5) rfl ?_
                refine g_aload_n (pc' := 122) O ⟨dX11_begins_121, rfl⟩ (q := 0) rfl rfl ?_
                refine gf_M_RX11_25_0 ad cy (pc' := 125) O ⟨dX11_begins_122, rfl⟩ ?_
                refine g_iload (pc' := 127) O ⟨dX11_begins_125, rfl⟩ (q := 5) rfl ?_
                refine g_iconst (pc' := 128) O ⟨dX11_begins_127, rfl⟩ (v := (1 : Int32)) rfl ?_
                refine g_iadd (pc' := 129) O ⟨dX11_begins_128, rfl⟩ ?_
                refine g_iald (pc' := 130) O ⟨dX11_begins_129, rfl⟩ (wM_6 ad cy h_24) E (fun E => ?_)
                refine g_iast (pc' := 131) O ⟨dX11_begins_130, rfl⟩ (wM_6 ad cy h_24) (vM_6 ad cy h_24 _) E (fun E => ?_)
                refine g_nmh E (fun h_25 E => ?_)
                refine g_iinc (pc' := 134) O ⟨dX11_begins_131, rfl⟩ (q := 5) (v := x7_23 + (1 : Int32)) (lv' := [(7, .int (x7_23 + (1 : Int32))), (0, .ref (ad 0)), (1, .int x1), (2, .int x2_9), (3, .int y3_20), (4, .int x4_15)]) rfl rfl (by decide) rfl ?_
                refine g_goto (pc' := 137) O ⟨dX11_begins_134, rfl⟩ (tgt := 104) (by decide) ?_
                refine g_sub (lv' := [(0, .ref (ad 0)), (1, .int x1), (2, .int x2_9), (3, .int y3_20), (4, .int x4_15), (7, .int (x7_23 + (1 : Int32)))]) [1, 2, 3, 4, 5, 0] rfl ?_
                exact ih104 _ _ E
      · intro k48 hk48 E
        refine g_sub (lv' := [(0, .ref (ad 0)), (1, .int x1), (2, .int x2_9), (3, .int (0 : Int32))]) [1, 2, 3, 0] rfl ?_
        refine fx2_of (P := fun (x3_26 : Int32) (h_27 : Hp) => G l D X 8 (WM ad cy) 0 0 h_27 30 [(0, .ref (ad 0)), (1, .int x1), (2, .int x2_9), (3, .int x3_26)] []) ?_ _ _ _ E
        intro self ih30 x3_26 h_27 E
        show G l D X 8 (WM ad cy) 0 0 h_27 30 [(0, .ref (ad 0)), (1, .int x1), (2, .int x2_9), (3, .int x3_26)] []
        unfold L_X11_begins_30 at E
        refine g_iload_n (pc' := 31) O ⟨dX11_begins_30, rfl⟩ (q := 3) rfl rfl ?_
        refine g_iload_n (pc' := 32) O ⟨dX11_begins_31, rfl⟩ (q := 1) rfl rfl ?_
        refine g_icmp_ge (pc' := 35) O ⟨dX11_begins_32, rfl⟩ E (tgt := 48) (by decide) (fun E => ?_) (fun E => ?_)
        · refine g_sub (lv' := [(0, .ref (ad 0)), (1, .int x1), (2, .int x2_9)]) [0, 1, 2] rfl ?_
          exact hk48 _ E
        · refine g_aload_n (pc' := 36) O ⟨dX11_begins_35, rfl⟩ (q := 0) rfl rfl ?_
          refine gf_M_RX11_25_0 ad cy (pc' := 39) O ⟨dX11_begins_36, rfl⟩ ?_
          refine g_iload_n (pc' := 40) O ⟨dX11_begins_39, rfl⟩ (q := 3) rfl rfl ?_
          refine g_iload_n (pc' := 41) O ⟨dX11_begins_40, rfl⟩ (q := 3) rfl rfl ?_
          refine g_iast (pc' := 42) O ⟨dX11_begins_41, rfl⟩ (wM_6 ad cy h_27) (vM_6 ad cy h_27 _) E (fun E => ?_)
          refine g_nmh E (fun h_28 E => ?_)
          refine g_iinc (pc' := 45) O ⟨dX11_begins_42, rfl⟩ (q := 3) (v := x3_26 + (1 : Int32)) (lv' := [(3, .int (x3_26 + (1 : Int32))), (0, .ref (ad 0)), (1, .int x1), (2, .int x2_9)]) rfl rfl (by decide) rfl ?_
          refine g_goto (pc' := 48) O ⟨dX11_begins_45, rfl⟩ (tgt := 30) (by decide) ?_
          refine g_sub (lv' := [(0, .ref (ad 0)), (1, .int x1), (2, .int x2_9), (3, .int (x3_26 + (1 : Int32)))]) [1, 2, 3, 0] rfl ?_
          exact ih30 _ _ E
set_option maxRecDepth 100000 in
set_option maxHeartbeats 4000000 in
theorem t_X11_lays (l : Launch) (D : va_G) (ad : Nat → Nat) (cy : Nat → ClassId) {h : Hp} {x1 : Int32} {o : Hp} (E : f_X11_lays h x1 = some o) : CtV l D cy (WM ad cy) yX11_lays cX11_lays 3 0 0 [.ref (ad 0), .int x1] h o := by
  refine sV (own := RX11) rfl rfl (Nat.le_of_ble_eq_true rfl) (fun X O hret => ?_)
  show G l D X 3 (WM ad cy) 0 0 h 0 [(0, .ref (ad 0)), (1, .int x1)] []
  unfold f_X11_lays at E
  refine g_iconst (pc' := 1) O ⟨dX11_lays_0, rfl⟩ (v := (0 : Int32)) rfl ?_
  refine g_istore_n (pc' := 2) O ⟨dX11_lays_1, rfl⟩ (lv' := [(2, .int (0 : Int32)), (0, .ref (ad 0)), (1, .int x1)]) rfl (by decide) rfl ?_
  refine jn1_of (P := fun (h_1 : Hp) => G l D X 3 (WM ad cy) 0 0 h_1 33 [] []) E ?_ ?_
  · intro h_1 E
    show G l D X 3 (WM ad cy) 0 0 h_1 33 [] []
    cases E
    exact hret _ _ _ ⟨dX11_lays_33, rfl⟩
  · intro k33 hk33 E
    refine g_sub (lv' := [(0, .ref (ad 0)), (1, .int x1), (2, .int (0 : Int32))]) [1, 2, 0] rfl ?_
    refine fx2_of (P := fun (x2_2 : Int32) (h_3 : Hp) => G l D X 3 (WM ad cy) 0 0 h_3 2 [(0, .ref (ad 0)), (1, .int x1), (2, .int x2_2)] []) ?_ _ _ _ E
    intro self ih2 x2_2 h_3 E
    show G l D X 3 (WM ad cy) 0 0 h_3 2 [(0, .ref (ad 0)), (1, .int x1), (2, .int x2_2)] []
    unfold L_X11_lays_2 at E
    refine g_iload_n (pc' := 3) O ⟨dX11_lays_2, rfl⟩ (q := 2) rfl rfl ?_
    refine g_aload_n (pc' := 4) O ⟨dX11_lays_3, rfl⟩ (q := 0) rfl rfl ?_
    refine gf_M_RX11_74_0 ad cy (pc' := 7) O ⟨dX11_lays_4, rfl⟩ ?_
    refine g_icmp_ge (pc' := 10) O ⟨dX11_lays_7, rfl⟩ E (tgt := 33) (by decide) (fun E => ?_) (fun E => ?_)
    · refine g_sub (lv' := []) [] rfl ?_
      exact hk33 _ E
    · refine g_aload_n (pc' := 11) O ⟨dX11_lays_10, rfl⟩ (q := 0) rfl rfl ?_
      refine gf_M_RX11_22_0 ad cy (pc' := 14) O ⟨dX11_lays_11, rfl⟩ ?_
      refine g_iload_n (pc' := 15) O ⟨dX11_lays_14, rfl⟩ (q := 2) rfl rfl ?_
      refine g_aload_n (pc' := 16) O ⟨dX11_lays_15, rfl⟩ (q := 0) rfl rfl ?_
      refine gf_M_RX11_19_0 ad cy (pc' := 19) O ⟨dX11_lays_16, rfl⟩ ?_
      refine g_bipush (pc' := 21) O ⟨dX11_lays_19, rfl⟩ (v := (6 : Int32)) rfl ?_
      refine g_iload_n (pc' := 22) O ⟨dX11_lays_21, rfl⟩ (q := 1) rfl rfl ?_
      refine g_imul (pc' := 23) O ⟨dX11_lays_22, rfl⟩ ?_
      refine g_iload_n (pc' := 24) O ⟨dX11_lays_23, rfl⟩ (q := 2) rfl rfl ?_
      refine g_iadd (pc' := 25) O ⟨dX11_lays_24, rfl⟩ ?_
      refine g_iald (pc' := 26) O ⟨dX11_lays_25, rfl⟩ (wM_4 ad cy h_3) E (fun E => ?_)
      refine g_iast (pc' := 27) O ⟨dX11_lays_26, rfl⟩ (wM_5 ad cy h_3) (vM_5 ad cy h_3 _) E (fun E => ?_)
      refine g_nmh E (fun h_4 E => ?_)
      refine g_iinc (pc' := 30) O ⟨dX11_lays_27, rfl⟩ (q := 2) (v := x2_2 + (1 : Int32)) (lv' := [(2, .int (x2_2 + (1 : Int32))), (0, .ref (ad 0)), (1, .int x1)]) rfl rfl (by decide) rfl ?_
      refine g_goto (pc' := 33) O ⟨dX11_lays_30, rfl⟩ (tgt := 2) (by decide) ?_
      refine g_sub (lv' := [(0, .ref (ad 0)), (1, .int x1), (2, .int (x2_2 + (1 : Int32)))]) [1, 2, 0] rfl ?_
      exact ih2 _ _ E
set_option maxRecDepth 100000 in
set_option maxHeartbeats 4000000 in
theorem t_X11_numberOf (l : Launch) (D : va_G) (ad : Nat → Nat) (cy : Nat → ClassId) {h : Hp}  {o : Int32} (E : f_X11_numberOf h = some o) : CtI l D cy (WM ad cy) yX11_numberOf cX11_numberOf 5 .int 1 22 [.ref (ad 0)] h o h := by
  refine sI (own := RX11) rfl rfl (Nat.le_of_ble_eq_true rfl) (fun X O hret => ?_)
  show G l D X 5 (WM ad cy) 0 0 h 0 [(0, .ref (ad 0))] []
  unfold f_X11_numberOf at E
  refine g_iconst (pc' := 1) O ⟨dX11_numberOf_0, rfl⟩ (v := (0 : Int32)) rfl ?_
  refine g_istore_n (pc' := 2) O ⟨dX11_numberOf_1, rfl⟩ (lv' := [(1, .int (0 : Int32)), (0, .ref (ad 0))]) rfl (by decide) rfl ?_
  refine g_iconst (pc' := 3) O ⟨dX11_numberOf_2, rfl⟩ (v := (0 : Int32)) rfl ?_
  refine g_istore_n (pc' := 4) O ⟨dX11_numberOf_3, rfl⟩ (lv' := [(2, .int (0 : Int32)), (1, .int (0 : Int32)), (0, .ref (ad 0))]) rfl (by decide) rfl ?_
  refine jn1_of (P := fun (x1_1 : Int32) => G l D X 5 (WM ad cy) 0 0 h 80 [(1, .int x1_1)] []) E ?_ ?_
  · intro x1_1 E
    show G l D X 5 (WM ad cy) 0 0 h 80 [(1, .int x1_1)] []
    refine g_iload_n (pc' := 81) O ⟨dX11_numberOf_80, rfl⟩ (q := 0) rfl rfl ?_
    cases E
    exact hret _ _ _ ⟨dX11_numberOf_81, rfl⟩ rfl
  · intro k80 hk80 E
    refine g_sub (lv' := [(0, .ref (ad 0)), (1, .int (0 : Int32)), (2, .int (0 : Int32))]) [2, 1, 0] rfl ?_
    refine fx2_of (P := fun (x1_2 : Int32) (x2_3 : Int32) => G l D X 5 (WM ad cy) 0 0 h 4 [(0, .ref (ad 0)), (1, .int x1_2), (2, .int x2_3)] []) ?_ _ _ _ E
    intro self ih4 x1_2 x2_3 E
    show G l D X 5 (WM ad cy) 0 0 h 4 [(0, .ref (ad 0)), (1, .int x1_2), (2, .int x2_3)] []
    unfold L_X11_numberOf_4 at E
    refine g_iload_n (pc' := 5) O ⟨dX11_numberOf_4, rfl⟩ (q := 2) rfl rfl ?_
    refine g_aload_n (pc' := 6) O ⟨dX11_numberOf_5, rfl⟩ (q := 0) rfl rfl ?_
    refine gf_M_RX11_74_0 ad cy (pc' := 9) O ⟨dX11_numberOf_6, rfl⟩ ?_
    refine g_icmp_ge (pc' := 12) O ⟨dX11_numberOf_9, rfl⟩ E (tgt := 80) (by decide) (fun E => ?_) (fun E => ?_)
    · refine g_sub (lv' := [(1, .int x1_2)]) [1] rfl ?_
      exact hk80 _ E
    · refine g_iconst (pc' := 13) O ⟨dX11_numberOf_12, rfl⟩ (v := (0 : Int32)) rfl ?_
      refine g_istore_n (pc' := 14) O ⟨dX11_numberOf_13, rfl⟩ (lv' := [(3, .int (0 : Int32)), (0, .ref (ad 0)), (1, .int x1_2), (2, .int x2_3)]) rfl (by decide) rfl ?_
      refine g_iload_n (pc' := 15) O ⟨dX11_numberOf_14, rfl⟩ (q := 3) rfl rfl ?_
      refine g_iconst (pc' := 16) O ⟨dX11_numberOf_15, rfl⟩ (v := (1 : Int32)) rfl ?_
      refine g_iadd (pc' := 17) O ⟨dX11_numberOf_16, rfl⟩ ?_
      refine g_nm E (fun y4_4 E => ?_)
      refine g_istore (pc' := 19) O ⟨dX11_numberOf_17, rfl⟩ (lv' := [(4, .int y4_4), (3, .int (0 : Int32)), (0, .ref (ad 0)), (1, .int x1_2), (2, .int x2_3)]) (by decide) rfl ?_
      refine jn1_of (P := fun (x3_5 : Int32) => G l D X 5 (WM ad cy) 0 0 h 58 [(0, .ref (ad 0)), (1, .int x1_2), (2, .int x2_3), (3, .int x3_5)] []) E ?_ ?_
      · intro x3_5 E
        show G l D X 5 (WM ad cy) 0 0 h 58 [(0, .ref (ad 0)), (1, .int x1_2), (2, .int x2_3), (3, .int x3_5)] []
        refine g_iload_n (pc' := 59) O ⟨dX11_numberOf_58, rfl⟩ (q := 1) rfl rfl ?_
        refine g_iload_n (pc' := 60) O ⟨dX11_numberOf_59, rfl⟩ (q := 3) rfl rfl ?_
        refine g_aload_n (pc' := 61) O ⟨dX11_numberOf_60, rfl⟩ (q := 0) rfl rfl ?_
        refine gf_M_RX11_74_0 ad cy (pc' := 64) O ⟨dX11_numberOf_61, rfl⟩ ?_
        refine g_iconst (pc' := 65) O ⟨dX11_numberOf_64, rfl⟩ (v := (1 : Int32)) rfl ?_
        refine g_isub (pc' := 66) O ⟨dX11_numberOf_65, rfl⟩ ?_
        refine g_iload_n (pc' := 67) O ⟨dX11_numberOf_66, rfl⟩ (q := 2) rfl rfl ?_
        refine g_isub (pc' := 68) O ⟨dX11_numberOf_67, rfl⟩ ?_
        obtain ⟨r_6, c_7, E⟩ := bd_of E
        refine g_Si (pc' := 71) O ⟨dX11_numberOf_68, rfl⟩ (y := yX11_factorial) (As := [.int (((h.1 0 1) - (1 : Int32)) - x2_3)]) (st := [.int x3_5, .int x1_2]) (t_X11_factorial l D ad cy (h := h) c_7) kw_1073 kw_70 kw_1071 kw_1072 hd_X11_factorial ⟨Nat.le_of_ble_eq_true rfl, Nat.le_of_ble_eq_true rfl⟩ ⟨Nat.le_of_ble_eq_true rfl, Nat.le_of_ble_eq_true rfl⟩ rfl (Nat.le_of_ble_eq_true rfl) ?_
        refine g_imul (pc' := 72) O ⟨dX11_numberOf_71, rfl⟩ ?_
        refine g_iadd (pc' := 73) O ⟨dX11_numberOf_72, rfl⟩ ?_
        refine g_nm E (fun y1_8 E => ?_)
        refine g_istore_n (pc' := 74) O ⟨dX11_numberOf_73, rfl⟩ (lv' := [(1, .int y1_8), (0, .ref (ad 0)), (2, .int x2_3), (3, .int x3_5)]) rfl (by decide) rfl ?_
        refine g_iinc (pc' := 77) O ⟨dX11_numberOf_74, rfl⟩ (q := 2) (v := x2_3 + (1 : Int32)) (lv' := [(2, .int (x2_3 + (1 : Int32))), (1, .int y1_8), (0, .ref (ad 0)), (3, .int x3_5)]) rfl rfl (by decide) rfl ?_
        refine g_goto (pc' := 80) O ⟨dX11_numberOf_77, rfl⟩ (tgt := 4) (by decide) ?_
        refine g_sub (lv' := [(0, .ref (ad 0)), (1, .int y1_8), (2, .int (x2_3 + (1 : Int32)))]) [2, 1, 0] rfl ?_
        exact ih4 _ _ E
      · intro k58 hk58 E
        refine g_sub (lv' := [(0, .ref (ad 0)), (1, .int x1_2), (2, .int x2_3), (3, .int (0 : Int32)), (4, .int y4_4)]) [2, 3, 4, 1, 0] rfl ?_
        refine fx2_of (P := fun (x3_9 : Int32) (x4_10 : Int32) => G l D X 5 (WM ad cy) 0 0 h 19 [(0, .ref (ad 0)), (1, .int x1_2), (2, .int x2_3), (3, .int x3_9), (4, .int x4_10)] []) ?_ _ _ _ E
        intro self ih19 x3_9 x4_10 E
        show G l D X 5 (WM ad cy) 0 0 h 19 [(0, .ref (ad 0)), (1, .int x1_2), (2, .int x2_3), (3, .int x3_9), (4, .int x4_10)] []
        unfold L_X11_numberOf_19 at E
        refine g_iload (pc' := 21) O ⟨dX11_numberOf_19, rfl⟩ (q := 4) rfl ?_
        refine g_aload_n (pc' := 22) O ⟨dX11_numberOf_21, rfl⟩ (q := 0) rfl rfl ?_
        refine gf_M_RX11_74_0 ad cy (pc' := 25) O ⟨dX11_numberOf_22, rfl⟩ ?_
        refine g_icmp_ge (pc' := 28) O ⟨dX11_numberOf_25, rfl⟩ E (tgt := 58) (by decide) (fun E => ?_) (fun E => ?_)
        · refine g_sub (lv' := [(0, .ref (ad 0)), (1, .int x1_2), (2, .int x2_3), (3, .int x3_9)]) [0, 1, 2, 3] rfl ?_
          exact hk58 _ E
        · refine g_iload_n (pc' := 29) O ⟨dX11_numberOf_28, rfl⟩ (q := 3) rfl rfl ?_
          refine g_aload_n (pc' := 30) O ⟨dX11_numberOf_29, rfl⟩ (q := 0) rfl rfl ?_
          refine gf_M_RX11_22_0 ad cy (pc' := 33) O ⟨dX11_numberOf_30, rfl⟩ ?_
          refine g_iload (pc' := 35) O ⟨dX11_numberOf_33, rfl⟩ (q := 4) rfl ?_
          refine g_iald (pc' := 36) O ⟨dX11_numberOf_35, rfl⟩ (wM_5 ad cy h) E (fun E => ?_)
          refine g_aload_n (pc' := 37) O ⟨dX11_numberOf_36, rfl⟩ (q := 0) rfl rfl ?_
          refine gf_M_RX11_22_0 ad cy (pc' := 40) O ⟨dX11_numberOf_37, rfl⟩ ?_
          refine g_iload_n (pc' := 41) O ⟨dX11_numberOf_40, rfl⟩ (q := 2) rfl rfl ?_
          refine g_iald (pc' := 42) O ⟨dX11_numberOf_41, rfl⟩ (wM_5 ad cy h) E (fun E => ?_)
          refine g_icmp_ge (pc' := 45) O ⟨dX11_numberOf_42, rfl⟩ E (tgt := 49) (by decide) (fun E => ?_) (fun E => ?_)
          · refine g_iconst (pc' := 50) O ⟨dX11_numberOf_49, rfl⟩ (v := (0 : Int32)) rfl ?_
            refine g_iadd (pc' := 51) O ⟨dX11_numberOf_50, rfl⟩ ?_
            refine g_nm E (fun y3_11 E => ?_)
            refine g_istore_n (pc' := 52) O ⟨dX11_numberOf_51, rfl⟩ (lv' := [(3, .int y3_11), (0, .ref (ad 0)), (1, .int x1_2), (2, .int x2_3), (4, .int x4_10)]) rfl (by decide) rfl ?_
            refine g_iinc (pc' := 55) O ⟨dX11_numberOf_52, rfl⟩ (q := 4) (v := x4_10 + (1 : Int32)) (lv' := [(4, .int (x4_10 + (1 : Int32))), (3, .int y3_11), (0, .ref (ad 0)), (1, .int x1_2), (2, .int x2_3)]) rfl rfl (by decide) rfl ?_
            refine g_goto (pc' := 58) O ⟨dX11_numberOf_55, rfl⟩ (tgt := 19) (by decide) ?_
            refine g_sub (lv' := [(0, .ref (ad 0)), (1, .int x1_2), (2, .int x2_3), (3, .int y3_11), (4, .int (x4_10 + (1 : Int32)))]) [2, 3, 4, 1, 0] rfl ?_
            exact ih19 _ _ E
          · refine g_iconst (pc' := 46) O ⟨dX11_numberOf_45, rfl⟩ (v := (1 : Int32)) rfl ?_
            refine g_goto (pc' := 49) O ⟨dX11_numberOf_46, rfl⟩ (tgt := 50) (by decide) ?_
            refine g_iadd (pc' := 51) O ⟨dX11_numberOf_50, rfl⟩ ?_
            refine g_nm E (fun y3_12 E => ?_)
            refine g_istore_n (pc' := 52) O ⟨dX11_numberOf_51, rfl⟩ (lv' := [(3, .int y3_12), (0, .ref (ad 0)), (1, .int x1_2), (2, .int x2_3), (4, .int x4_10)]) rfl (by decide) rfl ?_
            refine g_iinc (pc' := 55) O ⟨dX11_numberOf_52, rfl⟩ (q := 4) (v := x4_10 + (1 : Int32)) (lv' := [(4, .int (x4_10 + (1 : Int32))), (3, .int y3_12), (0, .ref (ad 0)), (1, .int x1_2), (2, .int x2_3)]) rfl rfl (by decide) rfl ?_
            refine g_goto (pc' := 58) O ⟨dX11_numberOf_55, rfl⟩ (tgt := 19) (by decide) ?_
            refine g_sub (lv' := [(0, .ref (ad 0)), (1, .int x1_2), (2, .int x2_3), (3, .int y3_12), (4, .int (x4_10 + (1 : Int32)))]) [2, 3, 4, 1, 0] rfl ?_
            exact ih19 _ _ E
set_option maxRecDepth 100000 in
set_option maxHeartbeats 4000000 in
theorem t_X11_codeOf (l : Launch) (D : va_G) (ad : Nat → Nat) (cy : Nat → ClassId) {h : Hp}  {o : Int32} (E : f_X11_codeOf h = some o) : CtI l D cy (WM ad cy) yX11_codeOf cX11_codeOf 3 .int 0 0 [.ref (ad 0)] h o h := by
  refine sI (own := RX11) rfl rfl (Nat.le_of_ble_eq_true rfl) (fun X O hret => ?_)
  show G l D X 3 (WM ad cy) 0 0 h 0 [(0, .ref (ad 0))] []
  unfold f_X11_codeOf at E
  refine g_iconst (pc' := 1) O ⟨dX11_codeOf_0, rfl⟩ (v := (0 : Int32)) rfl ?_
  refine g_istore_n (pc' := 2) O ⟨dX11_codeOf_1, rfl⟩ (lv' := [(1, .int (0 : Int32)), (0, .ref (ad 0))]) rfl (by decide) rfl ?_
  refine g_aload_n (pc' := 3) O ⟨dX11_codeOf_2, rfl⟩ (q := 1) rfl rfl ?_
  refine gf_M_RX11_74_0 ad cy (pc' := 6) O ⟨dX11_codeOf_3, rfl⟩ ?_
  refine g_iconst (pc' := 7) O ⟨dX11_codeOf_6, rfl⟩ (v := (1 : Int32)) rfl ?_
  refine g_isub (pc' := 8) O ⟨dX11_codeOf_7, rfl⟩ ?_
  refine g_nm E (fun y2_1 E => ?_)
  refine g_istore_n (pc' := 9) O ⟨dX11_codeOf_8, rfl⟩ (lv' := [(2, .int y2_1), (1, .int (0 : Int32)), (0, .ref (ad 0))]) rfl (by decide) rfl ?_
  refine jn1_of (P := fun (x1_2 : Int32) => G l D X 3 (WM ad cy) 0 0 h 31 [(1, .int x1_2)] []) E ?_ ?_
  · intro x1_2 E
    show G l D X 3 (WM ad cy) 0 0 h 31 [(1, .int x1_2)] []
    refine g_iload_n (pc' := 32) O ⟨dX11_codeOf_31, rfl⟩ (q := 0) rfl rfl ?_
    cases E
    exact hret _ _ _ ⟨dX11_codeOf_32, rfl⟩ rfl
  · intro k31 hk31 E
    refine g_sub (lv' := [(0, .ref (ad 0)), (1, .int (0 : Int32)), (2, .int y2_1)]) [2, 1, 0] rfl ?_
    refine fx2_of (P := fun (x1_3 : Int32) (x2_4 : Int32) => G l D X 3 (WM ad cy) 0 0 h 9 [(0, .ref (ad 0)), (1, .int x1_3), (2, .int x2_4)] []) ?_ _ _ _ E
    intro self ih9 x1_3 x2_4 E
    show G l D X 3 (WM ad cy) 0 0 h 9 [(0, .ref (ad 0)), (1, .int x1_3), (2, .int x2_4)] []
    unfold L_X11_codeOf_9 at E
    refine g_iload_n (pc' := 10) O ⟨dX11_codeOf_9, rfl⟩ (q := 2) rfl rfl ?_
    refine g_if_lt (pc' := 13) O ⟨dX11_codeOf_10, rfl⟩ E (tgt := 31) (by decide) (fun E => ?_) (fun E => ?_)
    · refine g_sub (lv' := [(1, .int x1_3)]) [1] rfl ?_
      exact hk31 _ E
    · refine g_bipush (pc' := 15) O ⟨dX11_codeOf_13, rfl⟩ (v := (10 : Int32)) rfl ?_
      refine g_iload_n (pc' := 16) O ⟨dX11_codeOf_15, rfl⟩ (q := 1) rfl rfl ?_
      refine g_imul (pc' := 17) O ⟨dX11_codeOf_16, rfl⟩ ?_
      refine g_aload_n (pc' := 18) O ⟨dX11_codeOf_17, rfl⟩ (q := 0) rfl rfl ?_
      refine gf_M_RX11_22_0 ad cy (pc' := 21) O ⟨dX11_codeOf_18, rfl⟩ ?_
      refine g_iload_n (pc' := 22) O ⟨dX11_codeOf_21, rfl⟩ (q := 2) rfl rfl ?_
      refine g_iald (pc' := 23) O ⟨dX11_codeOf_22, rfl⟩ (wM_5 ad cy h) E (fun E => ?_)
      refine g_iadd (pc' := 24) O ⟨dX11_codeOf_23, rfl⟩ ?_
      refine g_nm E (fun y1_5 E => ?_)
      refine g_istore_n (pc' := 25) O ⟨dX11_codeOf_24, rfl⟩ (lv' := [(1, .int y1_5), (0, .ref (ad 0)), (2, .int x2_4)]) rfl (by decide) rfl ?_
      refine g_iinc (pc' := 28) O ⟨dX11_codeOf_25, rfl⟩ (q := 2) (v := x2_4 + (-1 : Int32)) (lv' := [(2, .int (x2_4 + (-1 : Int32))), (1, .int y1_5), (0, .ref (ad 0))]) rfl rfl (by decide) rfl ?_
      refine g_goto (pc' := 31) O ⟨dX11_codeOf_28, rfl⟩ (tgt := 9) (by decide) ?_
      refine g_sub (lv' := [(0, .ref (ad 0)), (1, .int y1_5), (2, .int (x2_4 + (-1 : Int32)))]) [2, 1, 0] rfl ?_
      exact ih9 _ _ E
set_option maxRecDepth 100000 in
set_option maxHeartbeats 4000000 in
theorem t_X11_rowOf (l : Launch) (D : va_G) (ad : Nat → Nat) (cy : Nat → ClassId) {h : Hp} {x1 : Int32} {o : Int32 × Hp} (E : f_X11_rowOf h x1 = some o) : CtI l D cy (WM ad cy) yX11_rowOf cX11_rowOf 5 .int 2 46 [.ref (ad 0), .int x1] h o.1 o.2 := by
  refine sI (own := RX11) rfl rfl (Nat.le_of_ble_eq_true rfl) (fun X O hret => ?_)
  show G l D X 5 (WM ad cy) 0 0 h 0 [(0, .ref (ad 0)), (1, .int x1)] []
  unfold f_X11_rowOf at E
  refine g_iload_n (pc' := 1) O ⟨dX11_rowOf_0, rfl⟩ (q := 1) rfl rfl ?_
  refine g_istore_n (pc' := 2) O ⟨dX11_rowOf_1, rfl⟩ (lv' := [(2, .int x1), (0, .ref (ad 0)), (1, .int x1)]) rfl (by decide) rfl ?_
  refine g_iconst (pc' := 3) O ⟨dX11_rowOf_2, rfl⟩ (v := (0 : Int32)) rfl ?_
  refine g_istore_n (pc' := 4) O ⟨dX11_rowOf_3, rfl⟩ (lv' := [(3, .int (0 : Int32)), (2, .int x1), (0, .ref (ad 0)), (1, .int x1)]) rfl (by decide) rfl ?_
  refine g_iconst (pc' := 5) O ⟨dX11_rowOf_4, rfl⟩ (v := (0 : Int32)) rfl ?_
  refine g_istore (pc' := 7) O ⟨dX11_rowOf_5, rfl⟩ (lv' := [(4, .int (0 : Int32)), (3, .int (0 : Int32)), (2, .int x1), (0, .ref (ad 0)), (1, .int x1)]) (by decide) rfl ?_
  refine jn3_of (P := fun (x2_1 : Int32) (x3_2 : Int32) (h_3 : Hp) => G l D X 5 (WM ad cy) 0 0 h_3 72 [(0, .ref (ad 0)), (2, .int x2_1), (3, .int x3_2)] []) E ?_ ?_
  · intro x2_1 x3_2 h_3 E
    show G l D X 5 (WM ad cy) 0 0 h_3 72 [(0, .ref (ad 0)), (2, .int x2_1), (3, .int x3_2)] []
    refine g_iload_n (pc' := 73) O ⟨dX11_rowOf_72, rfl⟩ (q := 1) rfl rfl ?_
    refine g_if_ne (pc' := 76) O ⟨dX11_rowOf_73, rfl⟩ E (tgt := 95) (by decide) (fun E => ?_) (fun E => ?_)
    · refine g_iconst (pc' := 96) O ⟨dX11_rowOf_95, rfl⟩ (v := (-1 : Int32)) rfl ?_
      cases E
      exact hret _ _ _ ⟨dX11_rowOf_96, rfl⟩ rfl
    · refine g_iload_n (pc' := 77) O ⟨dX11_rowOf_76, rfl⟩ (q := 2) rfl rfl ?_
      refine g_iconst (pc' := 78) O ⟨dX11_rowOf_77, rfl⟩ (v := (1 : Int32)) rfl ?_
      refine g_aload_n (pc' := 79) O ⟨dX11_rowOf_78, rfl⟩ (q := 0) rfl rfl ?_
      refine gf_M_RX11_74_0 ad cy (pc' := 82) O ⟨dX11_rowOf_79, rfl⟩ ?_
      refine g_ishl (pc' := 83) O ⟨dX11_rowOf_82, rfl⟩ ?_
      refine g_iconst (pc' := 84) O ⟨dX11_rowOf_83, rfl⟩ (v := (1 : Int32)) rfl ?_
      refine g_isub (pc' := 85) O ⟨dX11_rowOf_84, rfl⟩ ?_
      refine g_icmp_ne (pc' := 88) O ⟨dX11_rowOf_85, rfl⟩ E (tgt := 95) (by decide) (fun E => ?_) (fun E => ?_)
      · refine g_iconst (pc' := 96) O ⟨dX11_rowOf_95, rfl⟩ (v := (-1 : Int32)) rfl ?_
        cases E
        exact hret _ _ _ ⟨dX11_rowOf_96, rfl⟩ rfl
      · refine g_aload_n (pc' := 89) O ⟨dX11_rowOf_88, rfl⟩ (q := 0) rfl rfl ?_
        obtain ⟨r_4, c_5, E⟩ := bd_of E
        refine g_Vi (pc' := 92) O ⟨dX11_rowOf_89, rfl⟩ (y := yX11_numberOf) (As := []) (st := []) (t_X11_numberOf l D ad cy (h := h_3) c_5) kw_1281 kw_70 kw_1278 kw_1280 kw_37 rfl (wM_0 ad cy h_3) hd_X11_numberOf ⟨Nat.le_of_ble_eq_true rfl, Nat.le_of_ble_eq_true rfl⟩ ⟨Nat.le_of_ble_eq_true rfl, Nat.le_of_ble_eq_true rfl⟩ rfl (Nat.le_of_ble_eq_true rfl) ?_
        refine g_goto (pc' := 95) O ⟨dX11_rowOf_92, rfl⟩ (tgt := 96) (by decide) ?_
        cases E
        exact hret _ _ _ ⟨dX11_rowOf_96, rfl⟩ rfl
  · intro k72 hk72 E
    refine g_sub (lv' := [(0, .ref (ad 0)), (2, .int x1), (3, .int (0 : Int32)), (4, .int (0 : Int32))]) [3, 2, 1, 0] rfl ?_
    refine fx4_of (P := fun (x2_6 : Int32) (x3_7 : Int32) (x4_8 : Int32) (h_9 : Hp) => G l D X 5 (WM ad cy) 0 0 h_9 7 [(0, .ref (ad 0)), (2, .int x2_6), (3, .int x3_7), (4, .int x4_8)] []) ?_ _ _ _ _ _ E
    intro self ih7 x2_6 x3_7 x4_8 h_9 E
    show G l D X 5 (WM ad cy) 0 0 h_9 7 [(0, .ref (ad 0)), (2, .int x2_6), (3, .int x3_7), (4, .int x4_8)] []
    unfold L_X11_rowOf_7 at E
    refine g_iload (pc' := 9) O ⟨dX11_rowOf_7, rfl⟩ (q := 3) rfl ?_
    refine g_aload_n (pc' := 10) O ⟨dX11_rowOf_9, rfl⟩ (q := 0) rfl rfl ?_
    refine gf_M_RX11_74_0 ad cy (pc' := 13) O ⟨dX11_rowOf_10, rfl⟩ ?_
    refine g_icmp_ge (pc' := 16) O ⟨dX11_rowOf_13, rfl⟩ E (tgt := 72) (by decide) (fun E => ?_) (fun E => ?_)
    · refine g_sub (lv' := [(0, .ref (ad 0)), (2, .int x2_6), (3, .int x3_7)]) [0, 1, 2] rfl ?_
      exact hk72 _ _ _ E
    · refine g_iload_n (pc' := 17) O ⟨dX11_rowOf_16, rfl⟩ (q := 1) rfl rfl ?_
      refine g_if_lt (pc' := 20) O ⟨dX11_rowOf_17, rfl⟩ E (tgt := 72) (by decide) (fun E => ?_) (fun E => ?_)
      · refine g_sub (lv' := [(0, .ref (ad 0)), (2, .int x2_6), (3, .int x3_7)]) [0, 1, 2] rfl ?_
        exact hk72 _ _ _ E
      · refine g_aload_n (pc' := 21) O ⟨dX11_rowOf_20, rfl⟩ (q := 0) rfl rfl ?_
        refine gf_M_RX11_22_0 ad cy (pc' := 24) O ⟨dX11_rowOf_21, rfl⟩ ?_
        refine g_iload (pc' := 26) O ⟨dX11_rowOf_24, rfl⟩ (q := 3) rfl ?_
        refine g_iload_n (pc' := 27) O ⟨dX11_rowOf_26, rfl⟩ (q := 1) rfl rfl ?_
        refine g_bipush (pc' := 29) O ⟨dX11_rowOf_27, rfl⟩ (v := (10 : Int32)) rfl ?_
        refine g_irem (pc' := 30) O ⟨dX11_rowOf_29, rfl⟩ (by decide) ?_
        refine g_iast (pc' := 31) O ⟨dX11_rowOf_30, rfl⟩ (wM_5 ad cy h_9) (vM_5 ad cy h_9 _) E (fun E => ?_)
        refine g_nmh E (fun h_10 E => ?_)
        refine g_iload_n (pc' := 32) O ⟨dX11_rowOf_31, rfl⟩ (q := 1) rfl rfl ?_
        refine g_bipush (pc' := 34) O ⟨dX11_rowOf_32, rfl⟩ (v := (10 : Int32)) rfl ?_
        refine g_idiv (pc' := 35) O ⟨dX11_rowOf_34, rfl⟩ (by decide) ?_
        refine g_nm E (fun y2_11 E => ?_)
        refine g_istore_n (pc' := 36) O ⟨dX11_rowOf_35, rfl⟩ (lv' := [(2, .int y2_11), (0, .ref (ad 0)), (3, .int x3_7), (4, .int x4_8)]) rfl (by decide) rfl ?_
        refine g_iload_n (pc' := 37) O ⟨dX11_rowOf_36, rfl⟩ (q := 2) rfl rfl ?_
        refine g_aload_n (pc' := 38) O ⟨dX11_rowOf_37, rfl⟩ (q := 1) rfl rfl ?_
        refine gf_M_RX11_22_0 ad cy (pc' := 41) O ⟨dX11_rowOf_38, rfl⟩ ?_
        refine g_iload (pc' := 43) O ⟨dX11_rowOf_41, rfl⟩ (q := 3) rfl ?_
        refine g_iald (pc' := 44) O ⟨dX11_rowOf_43, rfl⟩ (wM_5 ad cy h_10) E (fun E => ?_)
        refine g_aload_n (pc' := 45) O ⟨dX11_rowOf_44, rfl⟩ (q := 1) rfl rfl ?_
        refine gf_M_RX11_74_0 ad cy (pc' := 48) O ⟨dX11_rowOf_45, rfl⟩ ?_
        refine g_icmp_ge (pc' := 51) O ⟨dX11_rowOf_48, rfl⟩ E (tgt := 63) (by decide) (fun E => ?_) (fun E => ?_)
        · refine g_iconst (pc' := 64) O ⟨dX11_rowOf_63, rfl⟩ (v := (0 : Int32)) rfl ?_
          refine g_ior (pc' := 65) O ⟨dX11_rowOf_64, rfl⟩ ?_
          refine g_nm E (fun y3_12 E => ?_)
          refine g_istore_n (pc' := 66) O ⟨dX11_rowOf_65, rfl⟩ (lv' := [(3, .int y3_12), (2, .int y2_11), (0, .ref (ad 0)), (4, .int x4_8)]) rfl (by decide) rfl ?_
          refine g_iinc (pc' := 69) O ⟨dX11_rowOf_66, rfl⟩ (q := 3) (v := x4_8 + (1 : Int32)) (lv' := [(4, .int (x4_8 + (1 : Int32))), (3, .int y3_12), (2, .int y2_11), (0, .ref (ad 0))]) rfl rfl (by decide) rfl ?_
          refine g_goto (pc' := 72) O ⟨dX11_rowOf_69, rfl⟩ (tgt := 7) (by decide) ?_
          refine g_sub (lv' := [(0, .ref (ad 0)), (2, .int y2_11), (3, .int y3_12), (4, .int (x4_8 + (1 : Int32)))]) [3, 2, 1, 0] rfl ?_
          exact ih7 _ _ _ _ E
        · refine g_iconst (pc' := 52) O ⟨dX11_rowOf_51, rfl⟩ (v := (1 : Int32)) rfl ?_
          refine g_aload_n (pc' := 53) O ⟨dX11_rowOf_52, rfl⟩ (q := 1) rfl rfl ?_
          refine gf_M_RX11_22_0 ad cy (pc' := 56) O ⟨dX11_rowOf_53, rfl⟩ ?_
          refine g_iload (pc' := 58) O ⟨dX11_rowOf_56, rfl⟩ (q := 3) rfl ?_
          refine g_iald (pc' := 59) O ⟨dX11_rowOf_58, rfl⟩ (wM_5 ad cy h_10) E (fun E => ?_)
          refine g_ishl (pc' := 60) O ⟨dX11_rowOf_59, rfl⟩ ?_
          refine g_goto (pc' := 63) O ⟨dX11_rowOf_60, rfl⟩ (tgt := 64) (by decide) ?_
          refine g_ior (pc' := 65) O ⟨dX11_rowOf_64, rfl⟩ ?_
          refine g_nm E (fun y3_13 E => ?_)
          refine g_istore_n (pc' := 66) O ⟨dX11_rowOf_65, rfl⟩ (lv' := [(3, .int y3_13), (2, .int y2_11), (0, .ref (ad 0)), (4, .int x4_8)]) rfl (by decide) rfl ?_
          refine g_iinc (pc' := 69) O ⟨dX11_rowOf_66, rfl⟩ (q := 3) (v := x4_8 + (1 : Int32)) (lv' := [(4, .int (x4_8 + (1 : Int32))), (3, .int y3_13), (2, .int y2_11), (0, .ref (ad 0))]) rfl rfl (by decide) rfl ?_
          refine g_goto (pc' := 72) O ⟨dX11_rowOf_69, rfl⟩ (tgt := 7) (by decide) ?_
          refine g_sub (lv' := [(0, .ref (ad 0)), (2, .int y2_11), (3, .int y3_13), (4, .int (x4_8 + (1 : Int32)))]) [3, 2, 1, 0] rfl ?_
          exact ih7 _ _ _ _ E
set_option maxRecDepth 100000 in
set_option maxHeartbeats 4000000 in
theorem t_X11_exchanges (l : Launch) (D : va_G) (ad : Nat → Nat) (cy : Nat → ClassId) {h : Hp} {x1 : Int32} {x2 : Int32} {o : Hp} (E : f_X11_exchanges h x1 x2 = some o) : CtV l D cy (WM ad cy) yX11_exchanges cX11_exchanges 4 0 0 [.ref (ad 0), .int x1, .int x2] h o := by
  refine sV (own := RX11) rfl rfl (Nat.le_of_ble_eq_true rfl) (fun X O hret => ?_)
  show G l D X 4 (WM ad cy) 0 0 h 0 [(0, .ref (ad 0)), (1, .int x1), (2, .int x2)] []
  unfold f_X11_exchanges at E
  refine g_aload_n (pc' := 1) O ⟨dX11_exchanges_0, rfl⟩ (q := 0) rfl rfl ?_
  refine gf_M_RX11_22_0 ad cy (pc' := 4) O ⟨dX11_exchanges_1, rfl⟩ ?_
  refine g_iload_n (pc' := 5) O ⟨dX11_exchanges_4, rfl⟩ (q := 1) rfl rfl ?_
  refine g_iald (pc' := 6) O ⟨dX11_exchanges_5, rfl⟩ (wM_5 ad cy h) E (fun E => ?_)
  refine g_istore_n (pc' := 7) O ⟨dX11_exchanges_6, rfl⟩ (lv' := [(3, .int (h.1 5 x1.toNatClampNeg)), (0, .ref (ad 0)), (1, .int x1), (2, .int x2)]) rfl (by decide) rfl ?_
  refine g_aload_n (pc' := 8) O ⟨dX11_exchanges_7, rfl⟩ (q := 1) rfl rfl ?_
  refine gf_M_RX11_22_0 ad cy (pc' := 11) O ⟨dX11_exchanges_8, rfl⟩ ?_
  refine g_iload_n (pc' := 12) O ⟨dX11_exchanges_11, rfl⟩ (q := 2) rfl rfl ?_
  refine g_aload_n (pc' := 13) O ⟨dX11_exchanges_12, rfl⟩ (q := 1) rfl rfl ?_
  refine gf_M_RX11_22_0 ad cy (pc' := 16) O ⟨dX11_exchanges_13, rfl⟩ ?_
  refine g_iload_n (pc' := 17) O ⟨dX11_exchanges_16, rfl⟩ (q := 3) rfl rfl ?_
  refine g_iald (pc' := 18) O ⟨dX11_exchanges_17, rfl⟩ (wM_5 ad cy h) E (fun E => ?_)
  refine g_iast (pc' := 19) O ⟨dX11_exchanges_18, rfl⟩ (wM_5 ad cy h) (vM_5 ad cy h _) E (fun E => ?_)
  refine g_nmh E (fun h_1 E => ?_)
  refine g_aload_n (pc' := 20) O ⟨dX11_exchanges_19, rfl⟩ (q := 1) rfl rfl ?_
  refine gf_M_RX11_22_0 ad cy (pc' := 23) O ⟨dX11_exchanges_20, rfl⟩ ?_
  refine g_iload_n (pc' := 24) O ⟨dX11_exchanges_23, rfl⟩ (q := 3) rfl rfl ?_
  refine g_iload_n (pc' := 25) O ⟨dX11_exchanges_24, rfl⟩ (q := 0) rfl rfl ?_
  refine g_iast (pc' := 26) O ⟨dX11_exchanges_25, rfl⟩ (wM_5 ad cy h_1) (vM_5 ad cy h_1 _) E (fun E => ?_)
  refine g_nmh E (fun h_2 E => ?_)
  cases E
  exact hret _ _ _ ⟨dX11_exchanges_26, rfl⟩
set_option maxRecDepth 100000 in
set_option maxHeartbeats 4000000 in
theorem t_X11_goes (l : Launch) (D : va_G) (ad : Nat → Nat) (cy : Nat → ClassId) {h : Hp}  {o : Hp} (E : f_X11_goes h = some o) : CtV l D cy (WM ad cy) yX11_goes cX11_goes 2 1 23 [.ref (ad 0)] h o := by
  refine sV (own := RX11) rfl rfl (Nat.le_of_ble_eq_true rfl) (fun X O hret => ?_)
  show G l D X 2 (WM ad cy) 0 0 h 0 [(0, .ref (ad 0))] []
  unfold f_X11_goes at E
  refine g_iconst (pc' := 1) O ⟨dX11_goes_0, rfl⟩ (v := (0 : Int32)) rfl ?_
  refine g_istore_n (pc' := 2) O ⟨dX11_goes_1, rfl⟩ (lv' := [(1, .int (0 : Int32)), (0, .ref (ad 0))]) rfl (by decide) rfl ?_
  refine jn1_of (P := fun (h_1 : Hp) => G l D X 2 (WM ad cy) 0 0 h_1 57 [] []) E ?_ ?_
  · intro h_1 E
    show G l D X 2 (WM ad cy) 0 0 h_1 57 [] []
    cases E
    exact hret _ _ _ ⟨dX11_goes_57, rfl⟩
  · intro k57 hk57 E
    refine g_sub (lv' := [(0, .ref (ad 0)), (1, .int (0 : Int32))]) [1, 0] rfl ?_
    refine fx2_of (P := fun (x1_2 : Int32) (h_3 : Hp) => G l D X 2 (WM ad cy) 0 0 h_3 2 [(0, .ref (ad 0)), (1, .int x1_2)] []) ?_ _ _ _ E
    intro self ih2 x1_2 h_3 E
    show G l D X 2 (WM ad cy) 0 0 h_3 2 [(0, .ref (ad 0)), (1, .int x1_2)] []
    unfold L_X11_goes_2 at E
    refine g_iload_n (pc' := 3) O ⟨dX11_goes_2, rfl⟩ (q := 1) rfl rfl ?_
    refine g_aload_n (pc' := 4) O ⟨dX11_goes_3, rfl⟩ (q := 0) rfl rfl ?_
    refine gf_M_RX11_81_0 ad cy (pc' := 7) O ⟨dX11_goes_4, rfl⟩ ?_
    refine g_icmp_ge (pc' := 10) O ⟨dX11_goes_7, rfl⟩ E (tgt := 57) (by decide) (fun E => ?_) (fun E => ?_)
    · refine g_sub (lv' := []) [] rfl ?_
      exact hk57 _ E
    · refine g_aload_n (pc' := 11) O ⟨dX11_goes_10, rfl⟩ (q := 0) rfl rfl ?_
      refine gf_M_RX11_22_0 ad cy (pc' := 14) O ⟨dX11_goes_11, rfl⟩ ?_
      refine g_aload_n (pc' := 15) O ⟨dX11_goes_14, rfl⟩ (q := 0) rfl rfl ?_
      refine gf_M_RX11_7_0 ad cy (pc' := 18) O ⟨dX11_goes_15, rfl⟩ ?_
      refine g_iload_n (pc' := 19) O ⟨dX11_goes_18, rfl⟩ (q := 1) rfl rfl ?_
      refine g_iald (pc' := 20) O ⟨dX11_goes_19, rfl⟩ (wM_1 ad cy h_3) E (fun E => ?_)
      refine g_iald (pc' := 21) O ⟨dX11_goes_20, rfl⟩ (wM_5 ad cy h_3) E (fun E => ?_)
      refine g_aload_n (pc' := 22) O ⟨dX11_goes_21, rfl⟩ (q := 0) rfl rfl ?_
      refine gf_M_RX11_22_0 ad cy (pc' := 25) O ⟨dX11_goes_22, rfl⟩ ?_
      refine g_aload_n (pc' := 26) O ⟨dX11_goes_25, rfl⟩ (q := 0) rfl rfl ?_
      refine gf_M_RX11_13_0 ad cy (pc' := 29) O ⟨dX11_goes_26, rfl⟩ ?_
      refine g_iload_n (pc' := 30) O ⟨dX11_goes_29, rfl⟩ (q := 1) rfl rfl ?_
      refine g_iald (pc' := 31) O ⟨dX11_goes_30, rfl⟩ (wM_2 ad cy h_3) E (fun E => ?_)
      refine g_iald (pc' := 32) O ⟨dX11_goes_31, rfl⟩ (wM_5 ad cy h_3) E (fun E => ?_)
      refine g_icmp_le (pc' := 35) O ⟨dX11_goes_32, rfl⟩ E (tgt := 51) (by decide) (fun E => ?_) (fun E => ?_)
      · refine g_iinc (pc' := 54) O ⟨dX11_goes_51, rfl⟩ (q := 1) (v := x1_2 + (1 : Int32)) (lv' := [(1, .int (x1_2 + (1 : Int32))), (0, .ref (ad 0))]) rfl rfl (by decide) rfl ?_
        refine g_goto (pc' := 57) O ⟨dX11_goes_54, rfl⟩ (tgt := 2) (by decide) ?_
        refine g_sub (lv' := [(0, .ref (ad 0)), (1, .int (x1_2 + (1 : Int32)))]) [1, 0] rfl ?_
        exact ih2 _ _ E
      · refine g_aload_n (pc' := 36) O ⟨dX11_goes_35, rfl⟩ (q := 0) rfl rfl ?_
        refine g_aload_n (pc' := 37) O ⟨dX11_goes_36, rfl⟩ (q := 0) rfl rfl ?_
        refine gf_M_RX11_7_0 ad cy (pc' := 40) O ⟨dX11_goes_37, rfl⟩ ?_
        refine g_iload_n (pc' := 41) O ⟨dX11_goes_40, rfl⟩ (q := 1) rfl rfl ?_
        refine g_iald (pc' := 42) O ⟨dX11_goes_41, rfl⟩ (wM_1 ad cy h_3) E (fun E => ?_)
        refine g_aload_n (pc' := 43) O ⟨dX11_goes_42, rfl⟩ (q := 0) rfl rfl ?_
        refine gf_M_RX11_13_0 ad cy (pc' := 46) O ⟨dX11_goes_43, rfl⟩ ?_
        refine g_iload_n (pc' := 47) O ⟨dX11_goes_46, rfl⟩ (q := 1) rfl rfl ?_
        refine g_iald (pc' := 48) O ⟨dX11_goes_47, rfl⟩ (wM_2 ad cy h_3) E (fun E => ?_)
        obtain ⟨r_4, c_5, E⟩ := bd_of E
        refine g_Vv (pc' := 51) O ⟨dX11_goes_48, rfl⟩ (y := yX11_exchanges) (As := [.int (h_3.1 1 x1_2.toNatClampNeg), .int (h_3.1 2 x1_2.toNatClampNeg)]) (st := []) (t_X11_exchanges l D ad cy (h := h_3) c_5) kw_1289 kw_70 kw_1286 kw_1288 kw_39 rfl (wM_0 ad cy h_3) hd_X11_exchanges ⟨Nat.le_of_ble_eq_true rfl, Nat.le_of_ble_eq_true rfl⟩ ⟨Nat.le_of_ble_eq_true rfl, Nat.le_of_ble_eq_true rfl⟩ rfl (Nat.le_of_ble_eq_true rfl) ?_
        refine g_iinc (pc' := 54) O ⟨dX11_goes_51, rfl⟩ (q := 1) (v := x1_2 + (1 : Int32)) (lv' := [(1, .int (x1_2 + (1 : Int32))), (0, .ref (ad 0))]) rfl rfl (by decide) rfl ?_
        refine g_goto (pc' := 57) O ⟨dX11_goes_54, rfl⟩ (tgt := 2) (by decide) ?_
        refine g_sub (lv' := [(0, .ref (ad 0)), (1, .int (x1_2 + (1 : Int32)))]) [1, 0] rfl ?_
        exact ih2 _ _ E
set_option maxRecDepth 100000 in
set_option maxHeartbeats 4000000 in
theorem t_X11_network (l : Launch) (D : va_G) (ad : Nat → Nat) (cy : Nat → ClassId) {h : Hp} {x1 : Int32} {o : Int32 × Hp} (E : f_X11_network h x1 = some o) : CtI l D cy (WM ad cy) yX11_network cX11_network 3 .int 2 49 [.ref (ad 0), .int x1] h o.1 o.2 := by
  refine sI (own := RX11) rfl rfl (Nat.le_of_ble_eq_true rfl) (fun X O hret => ?_)
  show G l D X 3 (WM ad cy) 0 0 h 0 [(0, .ref (ad 0)), (1, .int x1)] []
  unfold f_X11_network at E
  refine g_aload_n (pc' := 1) O ⟨dX11_network_0, rfl⟩ (q := 0) rfl rfl ?_
  refine g_iload_n (pc' := 2) O ⟨dX11_network_1, rfl⟩ (q := 1) rfl rfl ?_
  refine g_iconst (pc' := 3) O ⟨dX11_network_2, rfl⟩ (v := (2 : Int32)) rfl ?_
  refine g_bipush (pc' := 5) O ⟨dX11_network_3, rfl⟩ (v := (6 : Int32)) rfl ?_
  obtain ⟨r_1, c_2, E⟩ := bd_of E
  refine g_Si (pc' := 8) O ⟨dX11_network_5, rfl⟩ (y := yX11_in) (As := [.int x1, .int (2 : Int32), .int (6 : Int32)]) (st := [.ref (ad 0)]) (t_X11_in l D ad cy (h := h) c_2) kw_1167 kw_70 kw_1165 kw_1166 hd_X11_in ⟨Nat.le_of_ble_eq_true rfl, Nat.le_of_ble_eq_true rfl⟩ ⟨Nat.le_of_ble_eq_true rfl, Nat.le_of_ble_eq_true rfl⟩ rfl (Nat.le_of_ble_eq_true rfl) ?_
  refine jn1_of (P := fun (z_3 : Int32) => G l D X 3 (WM ad cy) 0 0 h 16 [(0, .ref (ad 0)), (1, .int x1)] [.int z_3, .ref (ad 0)]) E ?_ ?_
  · intro z_3 E
    show G l D X 3 (WM ad cy) 0 0 h 16 [(0, .ref (ad 0)), (1, .int x1)] [.int z_3, .ref (ad 0)]
    refine gp_M_RX11_70_0 ad cy (pc' := 19) O ⟨dX11_network_16, rfl⟩ ?_
    refine g_nmh E (fun h_4 E => ?_)
    refine g_aload_n (pc' := 20) O ⟨dX11_network_19, rfl⟩ (q := 0) rfl rfl ?_
    refine gf_M_RX11_70_0 ad cy (pc' := 23) O ⟨dX11_network_20, rfl⟩ ?_
    refine g_if_le (pc' := 26) O ⟨dX11_network_23, rfl⟩ E (tgt := 28) (by decide) (fun E => ?_) (fun E => ?_)
    · refine g_aload_n (pc' := 29) O ⟨dX11_network_28, rfl⟩ (q := 0) rfl rfl ?_
      refine gf_M_RX11_81_0 ad cy (pc' := 32) O ⟨dX11_network_29, rfl⟩ ?_
      refine g_istore_n (pc' := 33) O ⟨dX11_network_32, rfl⟩ (lv' := [(2, .int (h_4.1 0 2)), (0, .ref (ad 0)), (1, .int x1)]) rfl (by decide) rfl ?_
      refine g_aload_n (pc' := 34) O ⟨dX11_network_33, rfl⟩ (q := 1) rfl rfl ?_
      refine g_iload_n (pc' := 35) O ⟨dX11_network_34, rfl⟩ (q := 2) rfl rfl ?_
      obtain ⟨r_5, c_6, E⟩ := bd_of E
      refine g_Vv (pc' := 38) O ⟨dX11_network_35, rfl⟩ (y := yX11_begins) (As := [.int x1]) (st := []) (t_X11_begins l D ad cy (h := h_4) c_6) kw_1070 kw_70 kw_1067 kw_1069 kw_24 rfl (wM_0 ad cy h_4) hd_X11_begins ⟨Nat.le_of_ble_eq_true rfl, Nat.le_of_ble_eq_true rfl⟩ ⟨Nat.le_of_ble_eq_true rfl, Nat.le_of_ble_eq_true rfl⟩ rfl (Nat.le_of_ble_eq_true rfl) ?_
      refine g_iload_n (pc' := 39) O ⟨dX11_network_38, rfl⟩ (q := 0) rfl rfl ?_
      cases E
      exact hret _ _ _ ⟨dX11_network_39, rfl⟩ rfl
    · refine g_iconst (pc' := 27) O ⟨dX11_network_26, rfl⟩ (v := (0 : Int32)) rfl ?_
      cases E
      exact hret _ _ _ ⟨dX11_network_27, rfl⟩ rfl
  · intro k16 hk16 E
    refine g_if_eq (pc' := 11) O ⟨dX11_network_8, rfl⟩ E (tgt := 15) (by decide) (fun E => ?_) (fun E => ?_)
    · refine g_iconst (pc' := 16) O ⟨dX11_network_15, rfl⟩ (v := (1 : Int32)) rfl ?_
      exact hk16 _ E
    · refine g_iconst (pc' := 12) O ⟨dX11_network_11, rfl⟩ (v := (0 : Int32)) rfl ?_
      refine g_goto (pc' := 15) O ⟨dX11_network_12, rfl⟩ (tgt := 16) (by decide) ?_
      exact hk16 _ E
set_option maxRecDepth 100000 in
set_option maxHeartbeats 4000000 in
theorem t_X11_puts (l : Launch) (D : va_G) (ad : Nat → Nat) (cy : Nat → ClassId) {h : Hp} {x1 : Int32} {x2 : Int32} {o : Hp} (E : f_X11_puts h x1 x2 = some o) : CtV l D cy (WM ad cy) yX11_puts cX11_puts 3 0 0 [.ref (ad 0), .int x1, .int x2] h o := by
  refine sV (own := RX11) rfl rfl (Nat.le_of_ble_eq_true rfl) (fun X O hret => ?_)
  show G l D X 3 (WM ad cy) 0 0 h 0 [(0, .ref (ad 0)), (1, .int x1), (2, .int x2)] []
  unfold f_X11_puts at E
  refine g_aload_n (pc' := 1) O ⟨dX11_puts_0, rfl⟩ (q := 0) rfl rfl ?_
  refine gf_M_RX11_7_0 ad cy (pc' := 4) O ⟨dX11_puts_1, rfl⟩ ?_
  refine g_aload_n (pc' := 5) O ⟨dX11_puts_4, rfl⟩ (q := 0) rfl rfl ?_
  refine gf_M_RX11_81_0 ad cy (pc' := 8) O ⟨dX11_puts_5, rfl⟩ ?_
  refine g_iload_n (pc' := 9) O ⟨dX11_puts_8, rfl⟩ (q := 1) rfl rfl ?_
  refine g_iast (pc' := 10) O ⟨dX11_puts_9, rfl⟩ (wM_1 ad cy h) (vM_1 ad cy h _) E (fun E => ?_)
  refine g_nmh E (fun h_1 E => ?_)
  refine g_aload_n (pc' := 11) O ⟨dX11_puts_10, rfl⟩ (q := 0) rfl rfl ?_
  refine gf_M_RX11_13_0 ad cy (pc' := 14) O ⟨dX11_puts_11, rfl⟩ ?_
  refine g_aload_n (pc' := 15) O ⟨dX11_puts_14, rfl⟩ (q := 0) rfl rfl ?_
  refine gf_M_RX11_81_0 ad cy (pc' := 18) O ⟨dX11_puts_15, rfl⟩ ?_
  refine g_iload_n (pc' := 19) O ⟨dX11_puts_18, rfl⟩ (q := 2) rfl rfl ?_
  refine g_iast (pc' := 20) O ⟨dX11_puts_19, rfl⟩ (wM_2 ad cy h_1) (vM_2 ad cy h_1 _) E (fun E => ?_)
  refine g_nmh E (fun h_2 E => ?_)
  refine g_aload_n (pc' := 21) O ⟨dX11_puts_20, rfl⟩ (q := 0) rfl rfl ?_
  refine g_dup (pc' := 22) O ⟨dX11_puts_21, rfl⟩ rfl ?_
  refine gf_M_RX11_81_0 ad cy (pc' := 25) O ⟨dX11_puts_22, rfl⟩ ?_
  refine g_iconst (pc' := 26) O ⟨dX11_puts_25, rfl⟩ (v := (1 : Int32)) rfl ?_
  refine g_iadd (pc' := 27) O ⟨dX11_puts_26, rfl⟩ ?_
  refine gp_M_RX11_81_0 ad cy (pc' := 30) O ⟨dX11_puts_27, rfl⟩ ?_
  refine g_nmh E (fun h_3 E => ?_)
  cases E
  exact hret _ _ _ ⟨dX11_puts_30, rfl⟩
set_option maxRecDepth 100000 in
set_option maxHeartbeats 4000000 in
theorem t_X11_add (l : Launch) (D : va_G) (ad : Nat → Nat) (cy : Nat → ClassId) {h : Hp} {x1 : Int32} {x2 : Int32} {o : Int32 × Hp} (E : f_X11_add h x1 x2 = some o) : CtI l D cy (WM ad cy) yX11_add cX11_add 3 .int 2 43 [.ref (ad 0), .int x1, .int x2] h o.1 o.2 := by
  refine sI (own := RX11) rfl rfl (Nat.le_of_ble_eq_true rfl) (fun X O hret => ?_)
  show G l D X 3 (WM ad cy) 0 0 h 0 [(0, .ref (ad 0)), (1, .int x1), (2, .int x2)] []
  unfold f_X11_add at E
  refine g_aload_n (pc' := 1) O ⟨dX11_add_0, rfl⟩ (q := 0) rfl rfl ?_
  refine g_aload_n (pc' := 2) O ⟨dX11_add_1, rfl⟩ (q := 0) rfl rfl ?_
  refine g_iload_n (pc' := 3) O ⟨dX11_add_2, rfl⟩ (q := 1) rfl rfl ?_
  obtain ⟨r_1, c_2, E⟩ := bd_of E
  refine g_Vi (pc' := 6) O ⟨dX11_add_3, rfl⟩ (y := yX11_isWire) (As := [.int x1]) (st := [.ref (ad 0)]) (t_X11_isWire l D ad cy (h := h) c_2) kw_1175 kw_70 kw_1172 kw_1174 kw_26 rfl (wM_0 ad cy h) hd_X11_isWire ⟨Nat.le_of_ble_eq_true rfl, Nat.le_of_ble_eq_true rfl⟩ ⟨Nat.le_of_ble_eq_true rfl, Nat.le_of_ble_eq_true rfl⟩ rfl (Nat.le_of_ble_eq_true rfl) ?_
  refine jn1_of (P := fun (z_3 : Int32) => G l D X 3 (WM ad cy) 0 0 h 44 [(0, .ref (ad 0)), (1, .int x1), (2, .int x2)] [.int z_3, .ref (ad 0)]) E ?_ ?_
  · intro z_3 E
    show G l D X 3 (WM ad cy) 0 0 h 44 [(0, .ref (ad 0)), (1, .int x1), (2, .int x2)] [.int z_3, .ref (ad 0)]
    refine gp_M_RX11_70_0 ad cy (pc' := 47) O ⟨dX11_add_44, rfl⟩ ?_
    refine g_nmh E (fun h_4 E => ?_)
    refine g_aload_n (pc' := 48) O ⟨dX11_add_47, rfl⟩ (q := 0) rfl rfl ?_
    refine gf_M_RX11_70_0 ad cy (pc' := 51) O ⟨dX11_add_48, rfl⟩ ?_
    refine g_if_le (pc' := 54) O ⟨dX11_add_51, rfl⟩ E (tgt := 56) (by decide) (fun E => ?_) (fun E => ?_)
    · refine g_aload_n (pc' := 57) O ⟨dX11_add_56, rfl⟩ (q := 0) rfl rfl ?_
      refine g_iload_n (pc' := 58) O ⟨dX11_add_57, rfl⟩ (q := 1) rfl rfl ?_
      refine g_iload_n (pc' := 59) O ⟨dX11_add_58, rfl⟩ (q := 2) rfl rfl ?_
      obtain ⟨r_5, c_6, E⟩ := bd_of E
      refine g_Vv (pc' := 62) O ⟨dX11_add_59, rfl⟩ (y := yX11_puts) (As := [.int x1, .int x2]) (st := []) (t_X11_puts l D ad cy (h := h_4) c_6) kw_1179 kw_70 kw_1176 kw_1178 kw_27 rfl (wM_0 ad cy h_4) hd_X11_puts ⟨Nat.le_of_ble_eq_true rfl, Nat.le_of_ble_eq_true rfl⟩ ⟨Nat.le_of_ble_eq_true rfl, Nat.le_of_ble_eq_true rfl⟩ rfl (Nat.le_of_ble_eq_true rfl) ?_
      refine g_aload_n (pc' := 63) O ⟨dX11_add_62, rfl⟩ (q := 0) rfl rfl ?_
      obtain ⟨r_7, c_8, E⟩ := bd_of E
      refine g_Vv (pc' := 66) O ⟨dX11_add_63, rfl⟩ (y := yX11_forgets) (As := []) (st := []) (t_X11_forgets l D ad cy (h := r_5) c_8) kw_1077 kw_70 kw_1074 kw_1076 kw_25 rfl (wM_0 ad cy r_5) hd_X11_forgets ⟨Nat.le_of_ble_eq_true rfl, Nat.le_of_ble_eq_true rfl⟩ ⟨Nat.le_of_ble_eq_true rfl, Nat.le_of_ble_eq_true rfl⟩ rfl (Nat.le_of_ble_eq_true rfl) ?_
      refine g_aload_n (pc' := 67) O ⟨dX11_add_66, rfl⟩ (q := 0) rfl rfl ?_
      refine gf_M_RX11_81_0 ad cy (pc' := 70) O ⟨dX11_add_67, rfl⟩ ?_
      refine g_iconst (pc' := 71) O ⟨dX11_add_70, rfl⟩ (v := (1 : Int32)) rfl ?_
      refine g_isub (pc' := 72) O ⟨dX11_add_71, rfl⟩ ?_
      cases E
      exact hret _ _ _ ⟨dX11_add_72, rfl⟩ rfl
    · refine g_iconst (pc' := 55) O ⟨dX11_add_54, rfl⟩ (v := (0 : Int32)) rfl ?_
      cases E
      exact hret _ _ _ ⟨dX11_add_55, rfl⟩ rfl
  · intro k44 hk44 E
    refine jn0_of (P := G l D X 3 (WM ad cy) 0 0 h 17 [(0, .ref (ad 0)), (1, .int x1), (2, .int x2)] [.ref (ad 0)]) E ?_ ?_
    · intro E
      show G l D X 3 (WM ad cy) 0 0 h 17 [(0, .ref (ad 0)), (1, .int x1), (2, .int x2)] [.ref (ad 0)]
      refine g_iconst (pc' := 18) O ⟨dX11_add_17, rfl⟩ (v := (1 : Int32)) rfl ?_
      refine g_goto (pc' := 21) O ⟨dX11_add_18, rfl⟩ (tgt := 44) (by decide) ?_
      exact hk44 _ E
    · intro k17 hk17 E
      refine g_if_eq (pc' := 9) O ⟨dX11_add_6, rfl⟩ E (tgt := 17) (by decide) (fun E => ?_) (fun E => ?_)
      · exact hk17 E
      · refine g_aload_n (pc' := 10) O ⟨dX11_add_9, rfl⟩ (q := 0) rfl rfl ?_
        refine g_iload_n (pc' := 11) O ⟨dX11_add_10, rfl⟩ (q := 2) rfl rfl ?_
        obtain ⟨r_9, c_10, E⟩ := bd_of E
        refine g_Vi (pc' := 14) O ⟨dX11_add_11, rfl⟩ (y := yX11_isWire) (As := [.int x2]) (st := [.ref (ad 0)]) (t_X11_isWire l D ad cy (h := h) c_10) kw_1175 kw_70 kw_1172 kw_1174 kw_26 rfl (wM_0 ad cy h) hd_X11_isWire ⟨Nat.le_of_ble_eq_true rfl, Nat.le_of_ble_eq_true rfl⟩ ⟨Nat.le_of_ble_eq_true rfl, Nat.le_of_ble_eq_true rfl⟩ rfl (Nat.le_of_ble_eq_true rfl) ?_
        refine g_if_ne (pc' := 17) O ⟨dX11_add_14, rfl⟩ E (tgt := 21) (by decide) (fun E => ?_) (fun E => ?_)
        · refine g_iload_n (pc' := 22) O ⟨dX11_add_21, rfl⟩ (q := 1) rfl rfl ?_
          refine g_iload_n (pc' := 23) O ⟨dX11_add_22, rfl⟩ (q := 2) rfl rfl ?_
          refine g_icmp_ne (pc' := 26) O ⟨dX11_add_23, rfl⟩ E (tgt := 30) (by decide) (fun E => ?_) (fun E => ?_)
          · refine g_aload_n (pc' := 31) O ⟨dX11_add_30, rfl⟩ (q := 0) rfl rfl ?_
            refine gf_M_RX11_81_0 ad cy (pc' := 34) O ⟨dX11_add_31, rfl⟩ ?_
            refine g_bipush (pc' := 36) O ⟨dX11_add_34, rfl⟩ (v := (24 : Int32)) rfl ?_
            refine g_icmp_ne (pc' := 39) O ⟨dX11_add_36, rfl⟩ E (tgt := 43) (by decide) (fun E => ?_) (fun E => ?_)
            · refine g_iconst (pc' := 44) O ⟨dX11_add_43, rfl⟩ (v := (0 : Int32)) rfl ?_
              exact hk44 _ E
            · refine g_iconst (pc' := 40) O ⟨dX11_add_39, rfl⟩ (v := (3 : Int32)) rfl ?_
              refine g_goto (pc' := 43) O ⟨dX11_add_40, rfl⟩ (tgt := 44) (by decide) ?_
              exact hk44 _ E
          · refine g_iconst (pc' := 27) O ⟨dX11_add_26, rfl⟩ (v := (2 : Int32)) rfl ?_
            refine g_goto (pc' := 30) O ⟨dX11_add_27, rfl⟩ (tgt := 44) (by decide) ?_
            exact hk44 _ E
        · exact hk17 E
set_option maxRecDepth 100000 in
set_option maxHeartbeats 4000000 in
theorem t_X11_take (l : Launch) (D : va_G) (ad : Nat → Nat) (cy : Nat → ClassId) {h : Hp}  {o : Int32 × Hp} (E : f_X11_take h = some o) : CtI l D cy (WM ad cy) yX11_take cX11_take 1 .int 1 21 [.ref (ad 0)] h o.1 o.2 := by
  refine sI (own := RX11) rfl rfl (Nat.le_of_ble_eq_true rfl) (fun X O hret => ?_)
  show G l D X 1 (WM ad cy) 0 0 h 0 [(0, .ref (ad 0))] []
  unfold f_X11_take at E
  refine g_aload_n (pc' := 1) O ⟨dX11_take_0, rfl⟩ (q := 0) rfl rfl ?_
  refine g_aload_n (pc' := 2) O ⟨dX11_take_1, rfl⟩ (q := 0) rfl rfl ?_
  refine gf_M_RX11_81_0 ad cy (pc' := 5) O ⟨dX11_take_2, rfl⟩ ?_
  refine jn1_of (P := fun (z_1 : Int32) => G l D X 1 (WM ad cy) 0 0 h 13 [(0, .ref (ad 0))] [.int z_1, .ref (ad 0)]) E ?_ ?_
  · intro z_1 E
    show G l D X 1 (WM ad cy) 0 0 h 13 [(0, .ref (ad 0))] [.int z_1, .ref (ad 0)]
    refine gp_M_RX11_70_0 ad cy (pc' := 16) O ⟨dX11_take_13, rfl⟩ ?_
    refine g_nmh E (fun h_2 E => ?_)
    refine g_aload_n (pc' := 17) O ⟨dX11_take_16, rfl⟩ (q := 0) rfl rfl ?_
    refine gf_M_RX11_70_0 ad cy (pc' := 20) O ⟨dX11_take_17, rfl⟩ ?_
    refine g_if_le (pc' := 23) O ⟨dX11_take_20, rfl⟩ E (tgt := 25) (by decide) (fun E => ?_) (fun E => ?_)
    · refine g_aload_n (pc' := 26) O ⟨dX11_take_25, rfl⟩ (q := 0) rfl rfl ?_
      refine g_dup (pc' := 27) O ⟨dX11_take_26, rfl⟩ rfl ?_
      refine gf_M_RX11_81_0 ad cy (pc' := 30) O ⟨dX11_take_27, rfl⟩ ?_
      refine g_iconst (pc' := 31) O ⟨dX11_take_30, rfl⟩ (v := (1 : Int32)) rfl ?_
      refine g_isub (pc' := 32) O ⟨dX11_take_31, rfl⟩ ?_
      refine gp_M_RX11_81_0 ad cy (pc' := 35) O ⟨dX11_take_32, rfl⟩ ?_
      refine g_nmh E (fun h_3 E => ?_)
      refine g_aload_n (pc' := 36) O ⟨dX11_take_35, rfl⟩ (q := 0) rfl rfl ?_
      obtain ⟨r_4, c_5, E⟩ := bd_of E
      refine g_Vv (pc' := 39) O ⟨dX11_take_36, rfl⟩ (y := yX11_forgets) (As := []) (st := []) (t_X11_forgets l D ad cy (h := h_3) c_5) kw_1077 kw_70 kw_1074 kw_1076 kw_25 rfl (wM_0 ad cy h_3) hd_X11_forgets ⟨Nat.le_of_ble_eq_true rfl, Nat.le_of_ble_eq_true rfl⟩ ⟨Nat.le_of_ble_eq_true rfl, Nat.le_of_ble_eq_true rfl⟩ rfl (Nat.le_of_ble_eq_true rfl) ?_
      refine g_aload_n (pc' := 40) O ⟨dX11_take_39, rfl⟩ (q := 0) rfl rfl ?_
      refine gf_M_RX11_81_0 ad cy (pc' := 43) O ⟨dX11_take_40, rfl⟩ ?_
      cases E
      exact hret _ _ _ ⟨dX11_take_43, rfl⟩ rfl
    · refine g_iconst (pc' := 24) O ⟨dX11_take_23, rfl⟩ (v := (0 : Int32)) rfl ?_
      cases E
      exact hret _ _ _ ⟨dX11_take_24, rfl⟩ rfl
  · intro k13 hk13 E
    refine g_if_ne (pc' := 8) O ⟨dX11_take_5, rfl⟩ E (tgt := 12) (by decide) (fun E => ?_) (fun E => ?_)
    · refine g_iconst (pc' := 13) O ⟨dX11_take_12, rfl⟩ (v := (0 : Int32)) rfl ?_
      exact hk13 _ E
    · refine g_iconst (pc' := 9) O ⟨dX11_take_8, rfl⟩ (v := (1 : Int32)) rfl ?_
      refine g_goto (pc' := 12) O ⟨dX11_take_9, rfl⟩ (tgt := 13) (by decide) ?_
      exact hk13 _ E
set_option maxRecDepth 100000 in
set_option maxHeartbeats 4000000 in
theorem t_X11_makes (l : Launch) (D : va_G) (ad : Nat → Nat) (cy : Nat → ClassId) {h : Hp} {x1 : Int32} {x2 : Int32} {x3 : Int32} {o : Int32 × Hp} (E : f_X11_makes h x1 x2 x3 = some o) : CtI l D cy (WM ad cy) yX11_makes cX11_makes 4 .int 1 22 [.ref (ad 0), .int x1, .int x2, .int x3] h o.1 o.2 := by
  refine sI (own := RX11) rfl rfl (Nat.le_of_ble_eq_true rfl) (fun X O hret => ?_)
  show G l D X 4 (WM ad cy) 0 0 h 0 [(0, .ref (ad 0)), (1, .int x1), (2, .int x2), (3, .int x3)] []
  unfold f_X11_makes at E
  refine g_iload_n (pc' := 1) O ⟨dX11_makes_0, rfl⟩ (q := 2) rfl rfl ?_
  refine g_aload_n (pc' := 2) O ⟨dX11_makes_1, rfl⟩ (q := 0) rfl rfl ?_
  refine gf_M_RX11_74_0 ad cy (pc' := 5) O ⟨dX11_makes_2, rfl⟩ ?_
  refine g_icmp_lt (pc' := 8) O ⟨dX11_makes_5, rfl⟩ E (tgt := 10) (by decide) (fun E => ?_) (fun E => ?_)
  · refine g_iload_n (pc' := 11) O ⟨dX11_makes_10, rfl⟩ (q := 3) rfl rfl ?_
    refine g_if_ne (pc' := 14) O ⟨dX11_makes_11, rfl⟩ E (tgt := 20) (by decide) (fun E => ?_) (fun E => ?_)
    · refine g_iconst (pc' := 21) O ⟨dX11_makes_20, rfl⟩ (v := (1 : Int32)) rfl ?_
      cases E
      exact hret _ _ _ ⟨dX11_makes_21, rfl⟩ rfl
    · refine g_aload_n (pc' := 15) O ⟨dX11_makes_14, rfl⟩ (q := 0) rfl rfl ?_
      refine g_iload_n (pc' := 16) O ⟨dX11_makes_15, rfl⟩ (q := 1) rfl rfl ?_
      refine g_iload_n (pc' := 17) O ⟨dX11_makes_16, rfl⟩ (q := 2) rfl rfl ?_
      obtain ⟨r_1, c_2, E⟩ := bd_of E
      refine g_Vv (pc' := 20) O ⟨dX11_makes_17, rfl⟩ (y := yX11_puts) (As := [.int x1, .int x2]) (st := []) (t_X11_puts l D ad cy (h := h) c_2) kw_1179 kw_70 kw_1176 kw_1178 kw_27 rfl (wM_0 ad cy h) hd_X11_puts ⟨Nat.le_of_ble_eq_true rfl, Nat.le_of_ble_eq_true rfl⟩ ⟨Nat.le_of_ble_eq_true rfl, Nat.le_of_ble_eq_true rfl⟩ rfl (Nat.le_of_ble_eq_true rfl) ?_
      refine g_iconst (pc' := 21) O ⟨dX11_makes_20, rfl⟩ (v := (1 : Int32)) rfl ?_
      cases E
      exact hret _ _ _ ⟨dX11_makes_21, rfl⟩ rfl
  · refine g_iconst (pc' := 9) O ⟨dX11_makes_8, rfl⟩ (v := (0 : Int32)) rfl ?_
    cases E
    exact hret _ _ _ ⟨dX11_makes_9, rfl⟩ rfl
set_option maxRecDepth 100000 in
set_option maxHeartbeats 4000000 in
theorem t_X11_makesAll (l : Launch) (D : va_G) (ad : Nat → Nat) (cy : Nat → ClassId) {h : Hp} {x1 : Int32} {x2 : Int32} {o : Int32 × Hp} (E : f_X11_makesAll h x1 x2 = some o) : CtI l D cy (WM ad cy) yX11_makesAll cX11_makesAll 8 .int 2 45 [.ref (ad 0), .int x1, .int x2] h o.1 o.2 := by
  refine sI (own := RX11) rfl rfl (Nat.le_of_ble_eq_true rfl) (fun X O hret => ?_)
  show G l D X 8 (WM ad cy) 0 0 h 0 [(0, .ref (ad 0)), (1, .int x1), (2, .int x2)] []
  unfold f_X11_makesAll at E
  refine g_iconst (pc' := 1) O ⟨dX11_makesAll_0, rfl⟩ (v := (0 : Int32)) rfl ?_
  refine g_istore_n (pc' := 2) O ⟨dX11_makesAll_1, rfl⟩ (lv' := [(3, .int (0 : Int32)), (0, .ref (ad 0)), (1, .int x1), (2, .int x2)]) rfl (by decide) rfl ?_
  refine g_aload_n (pc' := 3) O ⟨dX11_makesAll_2, rfl⟩ (q := 1) rfl rfl ?_
  refine gf_M_RX11_74_0 ad cy (pc' := 6) O ⟨dX11_makesAll_3, rfl⟩ ?_
  refine g_iconst (pc' := 7) O ⟨dX11_makesAll_6, rfl⟩ (v := (1 : Int32)) rfl ?_
  refine g_isub (pc' := 8) O ⟨dX11_makesAll_7, rfl⟩ ?_
  refine g_nm E (fun y4_1 E => ?_)
  refine g_istore (pc' := 10) O ⟨dX11_makesAll_8, rfl⟩ (lv' := [(4, .int y4_1), (3, .int (0 : Int32)), (0, .ref (ad 0)), (1, .int x1), (2, .int x2)]) (by decide) rfl ?_
  refine jn2_of (P := fun (x3_2 : Int32) (h_3 : Hp) => G l D X 8 (WM ad cy) 0 0 h_3 55 [(0, .ref (ad 0)), (1, .int x1), (2, .int x2), (3, .int x3_2)] []) E ?_ ?_
  · intro x3_2 h_3 E
    show G l D X 8 (WM ad cy) 0 0 h_3 55 [(0, .ref (ad 0)), (1, .int x1), (2, .int x2), (3, .int x3_2)] []
    refine g_iconst (pc' := 56) O ⟨dX11_makesAll_55, rfl⟩ (v := (0 : Int32)) rfl ?_
    refine g_istore (pc' := 58) O ⟨dX11_makesAll_56, rfl⟩ (lv' := [(4, .int (0 : Int32)), (0, .ref (ad 0)), (1, .int x1), (2, .int x2), (3, .int x3_2)]) (by decide) rfl ?_
    refine jn2_of (P := fun (x3_4 : Int32) (h_5 : Hp) => G l D X 8 (WM ad cy) 0 0 h_5 113 [(0, .ref (ad 0)), (1, .int x1), (2, .int x2), (3, .int x3_4)] []) E ?_ ?_
    · intro x3_4 h_5 E
      show G l D X 8 (WM ad cy) 0 0 h_5 113 [(0, .ref (ad 0)), (1, .int x1), (2, .int x2), (3, .int x3_4)] []
      refine g_aload_n (pc' := 114) O ⟨dX11_makesAll_113, rfl⟩ (q := 0) rfl rfl ?_
      refine gf_M_RX11_74_0 ad cy (pc' := 117) O ⟨dX11_makesAll_114, rfl⟩ ?_
      refine g_iconst (pc' := 118) O ⟨dX11_makesAll_117, rfl⟩ (v := (2 : Int32)) rfl ?_
      refine jn1_of (P := fun (z_6 : Int32) => G l D X 8 (WM ad cy) 0 0 h_5 139 [(0, .ref (ad 0)), (1, .int x1), (2, .int x2), (3, .int x3_4)] [.int z_6]) E ?_ ?_
      · intro z_6 E
        show G l D X 8 (WM ad cy) 0 0 h_5 139 [(0, .ref (ad 0)), (1, .int x1), (2, .int x2), (3, .int x3_4)] [.int z_6]
        refine g_istore (pc' := 141) O ⟨dX11_makesAll_139, rfl⟩ (lv' := [(4, .int z_6), (0, .ref (ad 0)), (1, .int x1), (2, .int x2), (3, .int x3_4)]) (by decide) rfl ?_
        refine g_iload (pc' := 143) O ⟨dX11_makesAll_141, rfl⟩ (q := 0) rfl ?_
        refine g_iconst (pc' := 144) O ⟨dX11_makesAll_143, rfl⟩ (v := (2 : Int32)) rfl ?_
        refine g_idiv (pc' := 145) O ⟨dX11_makesAll_144, rfl⟩ (by decide) ?_
        refine g_nm E (fun y5_7 E => ?_)
        refine g_istore (pc' := 147) O ⟨dX11_makesAll_145, rfl⟩ (lv' := [(5, .int y5_7), (4, .int z_6), (0, .ref (ad 0)), (1, .int x1), (2, .int x2), (3, .int x3_4)]) (by decide) rfl ?_
        refine jn2_of (P := fun (x3_8 : Int32) (h_9 : Hp) => G l D X 8 (WM ad cy) 0 0 h_9 281 [(3, .int x3_8)] []) E ?_ ?_
        · intro x3_8 h_9 E
          show G l D X 8 (WM ad cy) 0 0 h_9 281 [(3, .int x3_8)] []
          refine g_iload_n (pc' := 282) O ⟨dX11_makesAll_281, rfl⟩ (q := 0) rfl rfl ?_
          cases E
          exact hret _ _ _ ⟨dX11_makesAll_282, rfl⟩ rfl
        · intro k281 hk281 E
          refine g_sub (lv' := [(0, .ref (ad 0)), (1, .int x1), (2, .int x2), (3, .int x3_4), (4, .int z_6), (5, .int y5_7)]) [2, 3, 4, 5, 1, 0] rfl ?_
          refine fx3_of (P := fun (x3_10 : Int32) (x5_11 : Int32) (h_12 : Hp) => G l D X 8 (WM ad cy) 0 0 h_12 147 [(0, .ref (ad 0)), (1, .int x1), (2, .int x2), (3, .int x3_10), (4, .int z_6), (5, .int x5_11)] []) ?_ _ _ _ _ E
          intro self ih147 x3_10 x5_11 h_12 E
          show G l D X 8 (WM ad cy) 0 0 h_12 147 [(0, .ref (ad 0)), (1, .int x1), (2, .int x2), (3, .int x3_10), (4, .int z_6), (5, .int x5_11)] []
          unfold L_X11_makesAll_147 at E
          refine g_iload (pc' := 149) O ⟨dX11_makesAll_147, rfl⟩ (q := 5) rfl ?_
          refine g_if_le (pc' := 152) O ⟨dX11_makesAll_149, rfl⟩ E (tgt := 281) (by decide) (fun E => ?_) (fun E => ?_)
          · refine g_sub (lv' := [(3, .int x3_10)]) [3] rfl ?_
            exact hk281 _ _ E
          · refine g_iload_n (pc' := 153) O ⟨dX11_makesAll_152, rfl⟩ (q := 1) rfl rfl ?_
            refine g_iconst (pc' := 154) O ⟨dX11_makesAll_153, rfl⟩ (v := (2 : Int32)) rfl ?_
            refine g_icmp_ne (pc' := 157) O ⟨dX11_makesAll_154, rfl⟩ E (tgt := 281) (by decide) (fun E => ?_) (fun E => ?_)
            · refine g_sub (lv' := [(3, .int x3_10)]) [3] rfl ?_
              exact hk281 _ _ E
            · refine g_iconst (pc' := 158) O ⟨dX11_makesAll_157, rfl⟩ (v := (0 : Int32)) rfl ?_
              refine g_istore (pc' := 160) O ⟨dX11_makesAll_158, rfl⟩ (lv' := [(6, .int (0 : Int32)), (0, .ref (ad 0)), (1, .int x1), (2, .int x2), (3, .int x3_10), (4, .int z_6), (5, .int x5_11)]) (by decide) rfl ?_
              refine jn2_of (P := fun (x3_13 : Int32) (h_14 : Hp) => G l D X 8 (WM ad cy) 0 0 h_14 202 [(0, .ref (ad 0)), (1, .int x1), (2, .int x2), (3, .int x3_13), (4, .int z_6), (5, .int x5_11)] []) E ?_ ?_
              · intro x3_13 h_14 E
                show G l D X 8 (WM ad cy) 0 0 h_14 202 [(0, .ref (ad 0)), (1, .int x1), (2, .int x2), (3, .int x3_13), (4, .int z_6), (5, .int x5_11)] []
                refine g_iload (pc' := 204) O ⟨dX11_makesAll_202, rfl⟩ (q := 4) rfl ?_
                refine g_iconst (pc' := 205) O ⟨dX11_makesAll_204, rfl⟩ (v := (2 : Int32)) rfl ?_
                refine g_idiv (pc' := 206) O ⟨dX11_makesAll_205, rfl⟩ (by decide) ?_
                refine g_nm E (fun y6_15 E => ?_)
                refine g_istore (pc' := 208) O ⟨dX11_makesAll_206, rfl⟩ (lv' := [(6, .int y6_15), (0, .ref (ad 0)), (1, .int x1), (2, .int x2), (3, .int x3_13), (4, .int z_6), (5, .int x5_11)]) (by decide) rfl ?_
                refine jn2_of (P := fun (x3_16 : Int32) (h_17 : Hp) => G l D X 8 (WM ad cy) 0 0 h_17 272 [(0, .ref (ad 0)), (1, .int x1), (2, .int x2), (3, .int x3_16), (4, .int z_6), (5, .int x5_11)] []) E ?_ ?_
                · intro x3_16 h_17 E
                  show G l D X 8 (WM ad cy) 0 0 h_17 272 [(0, .ref (ad 0)), (1, .int x1), (2, .int x2), (3, .int x3_16), (4, .int z_6), (5, .int x5_11)] []
                  refine g_iload (pc' := 274) O ⟨dX11_makesAll_272, rfl⟩ (q := 5) rfl ?_
                  refine g_iconst (pc' := 275) O ⟨dX11_makesAll_274, rfl⟩ (v := (2 : Int32)) rfl ?_
                  refine g_idiv (pc' := 276) O ⟨dX11_makesAll_275, rfl⟩ (by decide) ?_
                  refine g_nm E (fun y5_18 E => ?_)
                  refine g_istore (pc' := 278) O ⟨dX11_makesAll_276, rfl⟩ (lv' := [(5, .int y5_18), (0, .ref (ad 0)), (1, .int x1), (2, .int x2), (3, .int x3_16), (4, .int z_6)]) (by decide) rfl ?_
                  refine g_goto (pc' := 281) O ⟨dX11_makesAll_278, rfl⟩ (tgt := 147) (by decide) ?_
                  refine g_sub (lv' := [(0, .ref (ad 0)), (1, .int x1), (2, .int x2), (3, .int x3_16), (4, .int z_6), (5, .int y5_18)]) [1, 2, 3, 4, 5, 0] rfl ?_
                  exact ih147 _ _ _ E
                · intro k272 hk272 E
                  refine g_sub (lv' := [(0, .ref (ad 0)), (1, .int x1), (2, .int x2), (3, .int x3_13), (4, .int z_6), (5, .int x5_11), (6, .int y6_15)]) [1, 2, 3, 4, 5, 6, 0] rfl ?_
                  refine fx3_of (P := fun (x3_19 : Int32) (x6_20 : Int32) (h_21 : Hp) => G l D X 8 (WM ad cy) 0 0 h_21 208 [(0, .ref (ad 0)), (1, .int x1), (2, .int x2), (3, .int x3_19), (4, .int z_6), (5, .int x5_11), (6, .int x6_20)] []) ?_ _ _ _ _ E
                  intro self ih208 x3_19 x6_20 h_21 E
                  show G l D X 8 (WM ad cy) 0 0 h_21 208 [(0, .ref (ad 0)), (1, .int x1), (2, .int x2), (3, .int x3_19), (4, .int z_6), (5, .int x5_11), (6, .int x6_20)] []
                  unfold L_X11_makesAll_208 at E
                  refine g_iload (pc' := 210) O ⟨dX11_makesAll_208, rfl⟩ (q := 6) rfl ?_
                  refine g_iload (pc' := 212) O ⟨dX11_makesAll_210, rfl⟩ (q := 5) rfl ?_
                  refine g_icmp_le (pc' := 215) O ⟨dX11_makesAll_212, rfl⟩ E (tgt := 272) (by decide) (fun E => ?_) (fun E => ?_)
                  · refine g_sub (lv' := [(0, .ref (ad 0)), (1, .int x1), (2, .int x2), (3, .int x3_19), (4, .int z_6), (5, .int x5_11)]) [0, 1, 2, 3, 4, 5] rfl ?_
                    exact hk272 _ _ E
                  · refine g_iconst (pc' := 216) O ⟨dX11_makesAll_215, rfl⟩ (v := (0 : Int32)) rfl ?_
                    refine g_istore (pc' := 218) O ⟨dX11_makesAll_216, rfl⟩ (lv' := [(7, .int (0 : Int32)), (0, .ref (ad 0)), (1, .int x1), (2, .int x2), (3, .int x3_19), (4, .int z_6), (5, .int x5_11), (6, .int x6_20)]) (by decide) rfl ?_
                    refine jn2_of (P := fun (x3_22 : Int32) (h_23 : Hp) => G l D X 8 (WM ad cy) 0 0 h_23 263 [(0, .ref (ad 0)), (1, .int x1), (2, .int x2), (3, .int x3_22), (4, .int z_6), (5, .int x5_11), (6, .int x6_20)] []) E ?_ ?_
                    · intro x3_22 h_23 E
                      show G l D X 8 (WM ad cy) 0 0 h_23 263 [(0, .ref (ad 0)), (1, .int x1), (2, .int x2), (3, .int x3_22), (4, .int z_6), (5, .int x5_11), (6, .int x6_20)] []
                      refine g_iload (pc' := 265) O ⟨dX11_makesAll_263, rfl⟩ (q := 6) rfl ?_
                      refine g_iconst (pc' := 266) O ⟨dX11_makesAll_265, rfl⟩ (v := (2 : Int32)) rfl ?_
                      refine g_idiv (pc' := 267) O ⟨dX11_makesAll_266, rfl⟩ (by decide) ?_
                      refine g_nm E (fun y6_24 E => ?_)
                      refine g_istore (pc' := 269) O ⟨dX11_makesAll_267, rfl⟩ (lv' := [(6, .int y6_24), (0, .ref (ad 0)), (1, .int x1), (2, .int x2), (3, .int x3_22), (4, .int z_6), (5, .int x5_11)]) (by decide) rfl ?_
                      refine g_goto (pc' := 272) O ⟨dX11_makesAll_269, rfl⟩ (tgt := 208) (by decide) ?_
                      refine g_sub (lv' := [(0, .ref (ad 0)), (1, .int x1), (2, .int x2), (3, .int x3_22), (4, .int z_6), (5, .int x5_11), (6, .int y6_24)]) [1, 2, 3, 4, 5, 6, 0] rfl ?_
                      exact ih208 _ _ _ E
                    · intro k263 hk263 E
                      refine g_sub (lv' := [(0, .ref (ad 0)), (1, .int x1), (2, .int x2), (3, .int x3_19), (4, .int z_6), (5, .int x5_11), (6, .int x6_20), (7, .int (0 : Int32))]) [1, 2, 3, 4, 5, 6, 7, 0] rfl ?_
                      refine fx3_of (P := fun (x3_25 : Int32) (x7_26 : Int32) (h_27 : Hp) => G l D X 8 (WM ad cy) 0 0 h_27 218 [(0, .ref (ad 0)), (1, .int x1), (2, .int x2), (3, .int x3_25), (4, .int z_6), (5, .int x5_11), (6, .int x6_20), (7, .int x7_26)] []) ?_ _ _ _ _ E
                      intro self ih218 x3_25 x7_26 h_27 E
                      show G l D X 8 (WM ad cy) 0 0 h_27 218 [(0, .ref (ad 0)), (1, .int x1), (2, .int x2), (3, .int x3_25), (4, .int z_6), (5, .int x5_11), (6, .int x6_20), (7, .int x7_26)] []
                      unfold L_X11_makesAll_218 at E
                      refine g_iload (pc' := 220) O ⟨dX11_makesAll_218, rfl⟩ (q := 7) rfl ?_
                      refine g_aload_n (pc' := 221) O ⟨dX11_makesAll_220, rfl⟩ (q := 0) rfl rfl ?_
                      refine gf_M_RX11_74_0 ad cy (pc' := 224) O ⟨dX11_makesAll_221, rfl⟩ ?_
                      refine g_icmp_ge (pc' := 227) O ⟨dX11_makesAll_224, rfl⟩ E (tgt := 263) (by decide) (fun E => ?_) (fun E => ?_)
                      · refine g_sub (lv' := [(0, .ref (ad 0)), (1, .int x1), (2, .int x2), (3, .int x3_25), (4, .int z_6), (5, .int x5_11), (6, .int x6_20)]) [0, 1, 2, 3, 4, 5, 6] rfl ?_
                        exact hk263 _ _ E
                      · refine g_iload_n (pc' := 228) O ⟨dX11_makesAll_227, rfl⟩ (q := 3) rfl rfl ?_
                        refine g_iload (pc' := 230) O ⟨dX11_makesAll_228, rfl⟩ (q := 7) rfl ?_
                        refine g_iload (pc' := 232) O ⟨dX11_makesAll_230, rfl⟩ (q := 5) rfl ?_
                        refine g_iand (pc' := 233) O ⟨dX11_makesAll_232, rfl⟩ ?_
                        refine g_if_eq (pc' := 236) O ⟨dX11_makesAll_233, rfl⟩ E (tgt := 254) (by decide) (fun E => ?_) (fun E => ?_)
                        · refine g_iconst (pc' := 255) O ⟨dX11_makesAll_254, rfl⟩ (v := (0 : Int32)) rfl ?_
                          refine g_iadd (pc' := 256) O ⟨dX11_makesAll_255, rfl⟩ ?_
                          refine g_nm E (fun y3_28 E => ?_)
                          refine g_istore_n (pc' := 257) O ⟨dX11_makesAll_256, rfl⟩ (lv' := [(3, .int y3_28), (0, .ref (ad 0)), (1, .int x1), (2, .int x2), (4, .int z_6), (5, .int x5_11), (6, .int x6_20), (7, .int x7_26)]) rfl (by decide) rfl ?_
                          refine g_iinc (pc' := 260) O ⟨dX11_makesAll_257, rfl⟩ (q := 7) (v := x7_26 + (1 : Int32)) (lv' := [(7, .int (x7_26 + (1 : Int32))), (3, .int y3_28), (0, .ref (ad 0)), (1, .int x1), (2, .int x2), (4, .int z_6), (5, .int x5_11), (6, .int x6_20)]) rfl rfl (by decide) rfl ?_
                          refine g_goto (pc' := 263) O ⟨dX11_makesAll_260, rfl⟩ (tgt := 218) (by decide) ?_
                          refine g_sub (lv' := [(0, .ref (ad 0)), (1, .int x1), (2, .int x2), (3, .int y3_28), (4, .int z_6), (5, .int x5_11), (6, .int x6_20), (7, .int (x7_26 + (1 : Int32)))]) [2, 3, 4, 1, 5, 6, 7, 0] rfl ?_
                          exact ih218 _ _ _ E
                        · refine g_aload_n (pc' := 237) O ⟨dX11_makesAll_236, rfl⟩ (q := 0) rfl rfl ?_
                          refine g_iload (pc' := 239) O ⟨dX11_makesAll_237, rfl⟩ (q := 7) rfl ?_
                          refine g_iload (pc' := 241) O ⟨dX11_makesAll_239, rfl⟩ (q := 7) rfl ?_
                          refine g_iload (pc' := 243) O ⟨dX11_makesAll_241, rfl⟩ (q := 6) rfl ?_
                          refine g_iadd (pc' := 244) O ⟨dX11_makesAll_243, rfl⟩ ?_
                          refine g_iload (pc' := 246) O ⟨dX11_makesAll_244, rfl⟩ (q := 5) rfl ?_
                          refine g_isub (pc' := 247) O ⟨dX11_makesAll_246, rfl⟩ ?_
                          refine g_iload_n (pc' := 248) O ⟨dX11_makesAll_247, rfl⟩ (q := 2) rfl rfl ?_
                          obtain ⟨r_29, c_30, E⟩ := bd_of E
                          refine g_Vi (pc' := 251) O ⟨dX11_makesAll_248, rfl⟩ (y := yX11_makes) (As := [.int x7_26, .int ((x7_26 + x6_20) - x5_11), .int x2]) (st := [.int x3_25]) (t_X11_makes l D ad cy (h := h_27) c_30) kw_1195 kw_70 kw_1192 kw_1194 kw_29 rfl (wM_0 ad cy h_27) hd_X11_makes ⟨Nat.le_of_ble_eq_true rfl, Nat.le_of_ble_eq_true rfl⟩ ⟨Nat.le_of_ble_eq_true rfl, Nat.le_of_ble_eq_true rfl⟩ rfl (Nat.le_of_ble_eq_true rfl) ?_
                          refine g_goto (pc' := 254) O ⟨dX11_makesAll_251, rfl⟩ (tgt := 255) (by decide) ?_
                          refine g_iadd (pc' := 256) O ⟨dX11_makesAll_255, rfl⟩ ?_
                          refine g_nm E (fun y3_31 E => ?_)
                          refine g_istore_n (pc' := 257) O ⟨dX11_makesAll_256, rfl⟩ (lv' := [(3, .int y3_31), (0, .ref (ad 0)), (1, .int x1), (2, .int x2), (4, .int z_6), (5, .int x5_11), (6, .int x6_20), (7, .int x7_26)]) rfl (by decide) rfl ?_
                          refine g_iinc (pc' := 260) O ⟨dX11_makesAll_257, rfl⟩ (q := 7) (v := x7_26 + (1 : Int32)) (lv' := [(7, .int (x7_26 + (1 : Int32))), (3, .int y3_31), (0, .ref (ad 0)), (1, .int x1), (2, .int x2), (4, .int z_6), (5, .int x5_11), (6, .int x6_20)]) rfl rfl (by decide) rfl ?_
                          refine g_goto (pc' := 263) O ⟨dX11_makesAll_260, rfl⟩ (tgt := 218) (by decide) ?_
                          refine g_sub (lv' := [(0, .ref (ad 0)), (1, .int x1), (2, .int x2), (3, .int y3_31), (4, .int z_6), (5, .int x5_11), (6, .int x6_20), (7, .int (x7_26 + (1 : Int32)))]) [2, 3, 4, 1, 5, 6, 7, 0] rfl ?_
                          exact ih218 _ _ _ E
              · intro k202 hk202 E
                refine g_sub (lv' := [(0, .ref (ad 0)), (1, .int x1), (2, .int x2), (3, .int x3_10), (4, .int z_6), (5, .int x5_11), (6, .int (0 : Int32))]) [1, 2, 3, 4, 5, 6, 0] rfl ?_
                refine fx3_of (P := fun (x3_32 : Int32) (x6_33 : Int32) (h_34 : Hp) => G l D X 8 (WM ad cy) 0 0 h_34 160 [(0, .ref (ad 0)), (1, .int x1), (2, .int x2), (3, .int x3_32), (4, .int z_6), (5, .int x5_11), (6, .int x6_33)] []) ?_ _ _ _ _ E
                intro self ih160 x3_32 x6_33 h_34 E
                show G l D X 8 (WM ad cy) 0 0 h_34 160 [(0, .ref (ad 0)), (1, .int x1), (2, .int x2), (3, .int x3_32), (4, .int z_6), (5, .int x5_11), (6, .int x6_33)] []
                unfold L_X11_makesAll_160 at E
                refine g_iload (pc' := 162) O ⟨dX11_makesAll_160, rfl⟩ (q := 6) rfl ?_
                refine g_aload_n (pc' := 163) O ⟨dX11_makesAll_162, rfl⟩ (q := 0) rfl rfl ?_
                refine gf_M_RX11_74_0 ad cy (pc' := 166) O ⟨dX11_makesAll_163, rfl⟩ ?_
                refine g_icmp_ge (pc' := 169) O ⟨dX11_makesAll_166, rfl⟩ E (tgt := 202) (by decide) (fun E => ?_) (fun E => ?_)
                · refine g_sub (lv' := [(0, .ref (ad 0)), (1, .int x1), (2, .int x2), (3, .int x3_32), (4, .int z_6), (5, .int x5_11)]) [0, 1, 2, 3, 4, 5] rfl ?_
                  exact hk202 _ _ E
                · refine g_iload_n (pc' := 170) O ⟨dX11_makesAll_169, rfl⟩ (q := 3) rfl rfl ?_
                  refine g_iload (pc' := 172) O ⟨dX11_makesAll_170, rfl⟩ (q := 6) rfl ?_
                  refine g_iload (pc' := 174) O ⟨dX11_makesAll_172, rfl⟩ (q := 5) rfl ?_
                  refine g_iand (pc' := 175) O ⟨dX11_makesAll_174, rfl⟩ ?_
                  refine g_if_ne (pc' := 178) O ⟨dX11_makesAll_175, rfl⟩ E (tgt := 193) (by decide) (fun E => ?_) (fun E => ?_)
                  · refine g_iconst (pc' := 194) O ⟨dX11_makesAll_193, rfl⟩ (v := (0 : Int32)) rfl ?_
                    refine g_iadd (pc' := 195) O ⟨dX11_makesAll_194, rfl⟩ ?_
                    refine g_nm E (fun y3_35 E => ?_)
                    refine g_istore_n (pc' := 196) O ⟨dX11_makesAll_195, rfl⟩ (lv' := [(3, .int y3_35), (0, .ref (ad 0)), (1, .int x1), (2, .int x2), (4, .int z_6), (5, .int x5_11), (6, .int x6_33)]) rfl (by decide) rfl ?_
                    refine g_iinc (pc' := 199) O ⟨dX11_makesAll_196, rfl⟩ (q := 6) (v := x6_33 + (1 : Int32)) (lv' := [(6, .int (x6_33 + (1 : Int32))), (3, .int y3_35), (0, .ref (ad 0)), (1, .int x1), (2, .int x2), (4, .int z_6), (5, .int x5_11)]) rfl rfl (by decide) rfl ?_
                    refine g_goto (pc' := 202) O ⟨dX11_makesAll_199, rfl⟩ (tgt := 160) (by decide) ?_
                    refine g_sub (lv' := [(0, .ref (ad 0)), (1, .int x1), (2, .int x2), (3, .int y3_35), (4, .int z_6), (5, .int x5_11), (6, .int (x6_33 + (1 : Int32)))]) [2, 3, 4, 1, 5, 6, 0] rfl ?_
                    exact ih160 _ _ _ E
                  · refine g_aload_n (pc' := 179) O ⟨dX11_makesAll_178, rfl⟩ (q := 0) rfl rfl ?_
                    refine g_iload (pc' := 181) O ⟨dX11_makesAll_179, rfl⟩ (q := 6) rfl ?_
                    refine g_iload (pc' := 183) O ⟨dX11_makesAll_181, rfl⟩ (q := 6) rfl ?_
                    refine g_iload (pc' := 185) O ⟨dX11_makesAll_183, rfl⟩ (q := 5) rfl ?_
                    refine g_iadd (pc' := 186) O ⟨dX11_makesAll_185, rfl⟩ ?_
                    refine g_iload_n (pc' := 187) O ⟨dX11_makesAll_186, rfl⟩ (q := 2) rfl rfl ?_
                    obtain ⟨r_36, c_37, E⟩ := bd_of E
                    refine g_Vi (pc' := 190) O ⟨dX11_makesAll_187, rfl⟩ (y := yX11_makes) (As := [.int x6_33, .int (x6_33 + x5_11), .int x2]) (st := [.int x3_32]) (t_X11_makes l D ad cy (h := h_34) c_37) kw_1195 kw_70 kw_1192 kw_1194 kw_29 rfl (wM_0 ad cy h_34) hd_X11_makes ⟨Nat.le_of_ble_eq_true rfl, Nat.le_of_ble_eq_true rfl⟩ ⟨Nat.le_of_ble_eq_true rfl, Nat.le_of_ble_eq_true rfl⟩ rfl (Nat.le_of_ble_eq_true rfl) ?_
                    refine g_goto (pc' := 193) O ⟨dX11_makesAll_190, rfl⟩ (tgt := 194) (by decide) ?_
                    refine g_iadd (pc' := 195) O ⟨dX11_makesAll_194, rfl⟩ ?_
                    refine g_nm E (fun y3_38 E => ?_)
                    refine g_istore_n (pc' := 196) O ⟨dX11_makesAll_195, rfl⟩ (lv' := [(3, .int y3_38), (0, .ref (ad 0)), (1, .int x1), (2, .int x2), (4, .int z_6), (5, .int x5_11), (6, .int x6_33)]) rfl (by decide) rfl ?_
                    refine g_iinc (pc' := 199) O ⟨dX11_makesAll_196, rfl⟩ (q := 6) (v := x6_33 + (1 : Int32)) (lv' := [(6, .int (x6_33 + (1 : Int32))), (3, .int y3_38), (0, .ref (ad 0)), (1, .int x1), (2, .int x2), (4, .int z_6), (5, .int x5_11)]) rfl rfl (by decide) rfl ?_
                    refine g_goto (pc' := 202) O ⟨dX11_makesAll_199, rfl⟩ (tgt := 160) (by decide) ?_
                    refine g_sub (lv' := [(0, .ref (ad 0)), (1, .int x1), (2, .int x2), (3, .int y3_38), (4, .int z_6), (5, .int x5_11), (6, .int (x6_33 + (1 : Int32)))]) [2, 3, 4, 1, 5, 6, 0] rfl ?_
                    exact ih160 _ _ _ E
      · intro k139 hk139 E
        refine g_icmp_gt (pc' := 121) O ⟨dX11_makesAll_118, rfl⟩ E (tgt := 125) (by decide) (fun E => ?_) (fun E => ?_)
        · refine g_aload_n (pc' := 126) O ⟨dX11_makesAll_125, rfl⟩ (q := 0) rfl rfl ?_
          refine gf_M_RX11_74_0 ad cy (pc' := 129) O ⟨dX11_makesAll_126, rfl⟩ ?_
          refine g_iconst (pc' := 130) O ⟨dX11_makesAll_129, rfl⟩ (v := (4 : Int32)) rfl ?_
          refine g_icmp_gt (pc' := 133) O ⟨dX11_makesAll_130, rfl⟩ E (tgt := 137) (by decide) (fun E => ?_) (fun E => ?_)
          · refine g_bipush (pc' := 139) O ⟨dX11_makesAll_137, rfl⟩ (v := (8 : Int32)) rfl ?_
            exact hk139 _ E
          · refine g_iconst (pc' := 134) O ⟨dX11_makesAll_133, rfl⟩ (v := (4 : Int32)) rfl ?_
            refine g_goto (pc' := 137) O ⟨dX11_makesAll_134, rfl⟩ (tgt := 139) (by decide) ?_
            exact hk139 _ E
        · refine g_iconst (pc' := 122) O ⟨dX11_makesAll_121, rfl⟩ (v := (2 : Int32)) rfl ?_
          refine g_goto (pc' := 125) O ⟨dX11_makesAll_122, rfl⟩ (tgt := 139) (by decide) ?_
          exact hk139 _ E
    · intro k113 hk113 E
      refine g_sub (lv' := [(0, .ref (ad 0)), (1, .int x1), (2, .int x2), (3, .int x3_2), (4, .int (0 : Int32))]) [1, 2, 3, 4, 0] rfl ?_
      refine fx3_of (P := fun (x3_39 : Int32) (x4_40 : Int32) (h_41 : Hp) => G l D X 8 (WM ad cy) 0 0 h_41 58 [(0, .ref (ad 0)), (1, .int x1), (2, .int x2), (3, .int x3_39), (4, .int x4_40)] []) ?_ _ _ _ _ E
      intro self ih58 x3_39 x4_40 h_41 E
      show G l D X 8 (WM ad cy) 0 0 h_41 58 [(0, .ref (ad 0)), (1, .int x1), (2, .int x2), (3, .int x3_39), (4, .int x4_40)] []
      unfold L_X11_makesAll_58 at E
      refine g_iload (pc' := 60) O ⟨dX11_makesAll_58, rfl⟩ (q := 4) rfl ?_
      refine g_aload_n (pc' := 61) O ⟨dX11_makesAll_60, rfl⟩ (q := 0) rfl rfl ?_
      refine gf_M_RX11_74_0 ad cy (pc' := 64) O ⟨dX11_makesAll_61, rfl⟩ ?_
      refine g_icmp_ge (pc' := 67) O ⟨dX11_makesAll_64, rfl⟩ E (tgt := 113) (by decide) (fun E => ?_) (fun E => ?_)
      · refine g_sub (lv' := [(0, .ref (ad 0)), (1, .int x1), (2, .int x2), (3, .int x3_39)]) [0, 1, 2, 3] rfl ?_
        exact hk113 _ _ E
      · refine g_iload_n (pc' := 68) O ⟨dX11_makesAll_67, rfl⟩ (q := 1) rfl rfl ?_
        refine g_iconst (pc' := 69) O ⟨dX11_makesAll_68, rfl⟩ (v := (1 : Int32)) rfl ?_
        refine g_icmp_ne (pc' := 72) O ⟨dX11_makesAll_69, rfl⟩ E (tgt := 113) (by decide) (fun E => ?_) (fun E => ?_)
        · refine g_sub (lv' := [(0, .ref (ad 0)), (1, .int x1), (2, .int x2), (3, .int x3_39)]) [0, 1, 2, 3] rfl ?_
          exact hk113 _ _ E
        · refine g_iload (pc' := 74) O ⟨dX11_makesAll_72, rfl⟩ (q := 4) rfl ?_
          refine g_iconst (pc' := 75) O ⟨dX11_makesAll_74, rfl⟩ (v := (2 : Int32)) rfl ?_
          refine g_irem (pc' := 76) O ⟨dX11_makesAll_75, rfl⟩ (by decide) ?_
          refine g_nm E (fun y5_42 E => ?_)
          refine g_istore (pc' := 78) O ⟨dX11_makesAll_76, rfl⟩ (lv' := [(5, .int y5_42), (0, .ref (ad 0)), (1, .int x1), (2, .int x2), (3, .int x3_39), (4, .int x4_40)]) (by decide) rfl ?_
          refine jn2_of (P := fun (x3_43 : Int32) (h_44 : Hp) => G l D X 8 (WM ad cy) 0 0 h_44 107 [(0, .ref (ad 0)), (1, .int x1), (2, .int x2), (3, .int x3_43), (4, .int x4_40)] []) E ?_ ?_
          · intro x3_43 h_44 E
            show G l D X 8 (WM ad cy) 0 0 h_44 107 [(0, .ref (ad 0)), (1, .int x1), (2, .int x2), (3, .int x3_43), (4, .int x4_40)] []
            refine g_iinc (pc' := 110) O ⟨dX11_makesAll_107, rfl⟩ (q := 4) (v := x4_40 + (1 : Int32)) (lv' := [(4, .int (x4_40 + (1 : Int32))), (0, .ref (ad 0)), (1, .int x1), (2, .int x2), (3, .int x3_43)]) rfl rfl (by decide) rfl ?_
            refine g_goto (pc' := 113) O ⟨dX11_makesAll_110, rfl⟩ (tgt := 58) (by decide) ?_
            refine g_sub (lv' := [(0, .ref (ad 0)), (1, .int x1), (2, .int x2), (3, .int x3_43), (4, .int (x4_40 + (1 : Int32)))]) [1, 2, 3, 4, 0] rfl ?_
            exact ih58 _ _ _ E
          · intro k107 hk107 E
            refine g_sub (lv' := [(0, .ref (ad 0)), (1, .int x1), (2, .int x2), (3, .int x3_39), (4, .int x4_40), (5, .int y5_42)]) [1, 2, 3, 4, 5, 0] rfl ?_
            refine fx3_of (P := fun (x3_45 : Int32) (x5_46 : Int32) (h_47 : Hp) => G l D X 8 (WM ad cy) 0 0 h_47 78 [(0, .ref (ad 0)), (1, .int x1), (2, .int x2), (3, .int x3_45), (4, .int x4_40), (5, .int x5_46)] []) ?_ _ _ _ _ E
            intro self ih78 x3_45 x5_46 h_47 E
            show G l D X 8 (WM ad cy) 0 0 h_47 78 [(0, .ref (ad 0)), (1, .int x1), (2, .int x2), (3, .int x3_45), (4, .int x4_40), (5, .int x5_46)] []
            unfold L_X11_makesAll_78 at E
            refine g_iload (pc' := 80) O ⟨dX11_makesAll_78, rfl⟩ (q := 5) rfl ?_
            refine g_aload_n (pc' := 81) O ⟨dX11_makesAll_80, rfl⟩ (q := 0) rfl rfl ?_
            refine gf_M_RX11_74_0 ad cy (pc' := 84) O ⟨dX11_makesAll_81, rfl⟩ ?_
            refine g_icmp_ge (pc' := 87) O ⟨dX11_makesAll_84, rfl⟩ E (tgt := 107) (by decide) (fun E => ?_) (fun E => ?_)
            · refine g_sub (lv' := [(0, .ref (ad 0)), (1, .int x1), (2, .int x2), (3, .int x3_45), (4, .int x4_40)]) [0, 1, 2, 3, 4] rfl ?_
              exact hk107 _ _ E
            · refine g_iload_n (pc' := 88) O ⟨dX11_makesAll_87, rfl⟩ (q := 3) rfl rfl ?_
              refine g_aload_n (pc' := 89) O ⟨dX11_makesAll_88, rfl⟩ (q := 0) rfl rfl ?_
              refine g_iload (pc' := 91) O ⟨dX11_makesAll_89, rfl⟩ (q := 5) rfl ?_
              refine g_iload (pc' := 93) O ⟨dX11_makesAll_91, rfl⟩ (q := 5) rfl ?_
              refine g_iconst (pc' := 94) O ⟨dX11_makesAll_93, rfl⟩ (v := (1 : Int32)) rfl ?_
              refine g_iadd (pc' := 95) O ⟨dX11_makesAll_94, rfl⟩ ?_
              refine g_iload_n (pc' := 96) O ⟨dX11_makesAll_95, rfl⟩ (q := 2) rfl rfl ?_
              obtain ⟨r_48, c_49, E⟩ := bd_of E
              refine g_Vi (pc' := 99) O ⟨dX11_makesAll_96, rfl⟩ (y := yX11_makes) (As := [.int x5_46, .int (x5_46 + (1 : Int32)), .int x2]) (st := [.int x3_45]) (t_X11_makes l D ad cy (h := h_47) c_49) kw_1195 kw_70 kw_1192 kw_1194 kw_29 rfl (wM_0 ad cy h_47) hd_X11_makes ⟨Nat.le_of_ble_eq_true rfl, Nat.le_of_ble_eq_true rfl⟩ ⟨Nat.le_of_ble_eq_true rfl, Nat.le_of_ble_eq_true rfl⟩ rfl (Nat.le_of_ble_eq_true rfl) ?_
              refine g_iadd (pc' := 100) O ⟨dX11_makesAll_99, rfl⟩ ?_
              refine g_nm E (fun y3_50 E => ?_)
              refine g_istore_n (pc' := 101) O ⟨dX11_makesAll_100, rfl⟩ (lv' := [(3, .int y3_50), (0, .ref (ad 0)), (1, .int x1), (2, .int x2), (4, .int x4_40), (5, .int x5_46)]) rfl (by decide) rfl ?_
              refine g_iinc (pc' := 104) O ⟨dX11_makesAll_101, rfl⟩ (q := 5) (v := x5_46 + (2 : Int32)) (lv' := [(5, .int (x5_46 + (2 : Int32))), (3, .int y3_50), (0, .ref (ad 0)), (1, .int x1), (2, .int x2), (4, .int x4_40)]) rfl rfl (by decide) rfl ?_
              refine g_goto (pc' := 107) O ⟨dX11_makesAll_104, rfl⟩ (tgt := 78) (by decide) ?_
              refine g_sub (lv' := [(0, .ref (ad 0)), (1, .int x1), (2, .int x2), (3, .int y3_50), (4, .int x4_40), (5, .int (x5_46 + (2 : Int32)))]) [2, 3, 4, 1, 5, 0] rfl ?_
              exact ih78 _ _ _ E
  · intro k55 hk55 E
    refine g_sub (lv' := [(0, .ref (ad 0)), (1, .int x1), (2, .int x2), (3, .int (0 : Int32)), (4, .int y4_1)]) [2, 3, 4, 1, 0] rfl ?_
    refine fx3_of (P := fun (x3_51 : Int32) (x4_52 : Int32) (h_53 : Hp) => G l D X 8 (WM ad cy) 0 0 h_53 10 [(0, .ref (ad 0)), (1, .int x1), (2, .int x2), (3, .int x3_51), (4, .int x4_52)] []) ?_ _ _ _ _ E
    intro self ih10 x3_51 x4_52 h_53 E
    show G l D X 8 (WM ad cy) 0 0 h_53 10 [(0, .ref (ad 0)), (1, .int x1), (2, .int x2), (3, .int x3_51), (4, .int x4_52)] []
    unfold L_X11_makesAll_10 at E
    refine g_iload (pc' := 12) O ⟨dX11_makesAll_10, rfl⟩ (q := 4) rfl ?_
    refine g_if_le (pc' := 15) O ⟨dX11_makesAll_12, rfl⟩ E (tgt := 55) (by decide) (fun E => ?_) (fun E => ?_)
    · refine g_sub (lv' := [(0, .ref (ad 0)), (1, .int x1), (2, .int x2), (3, .int x3_51)]) [0, 1, 2, 3] rfl ?_
      exact hk55 _ _ E
    · refine g_iload_n (pc' := 16) O ⟨dX11_makesAll_15, rfl⟩ (q := 1) rfl rfl ?_
      refine g_if_ne (pc' := 19) O ⟨dX11_makesAll_16, rfl⟩ E (tgt := 55) (by decide) (fun E => ?_) (fun E => ?_)
      · refine g_sub (lv' := [(0, .ref (ad 0)), (1, .int x1), (2, .int x2), (3, .int x3_51)]) [0, 1, 2, 3] rfl ?_
        exact hk55 _ _ E
      · refine g_iconst (pc' := 20) O ⟨dX11_makesAll_19, rfl⟩ (v := (0 : Int32)) rfl ?_
        refine g_istore (pc' := 22) O ⟨dX11_makesAll_20, rfl⟩ (lv' := [(5, .int (0 : Int32)), (0, .ref (ad 0)), (1, .int x1), (2, .int x2), (3, .int x3_51), (4, .int x4_52)]) (by decide) rfl ?_
        refine jn2_of (P := fun (x3_54 : Int32) (h_55 : Hp) => G l D X 8 (WM ad cy) 0 0 h_55 49 [(0, .ref (ad 0)), (1, .int x1), (2, .int x2), (3, .int x3_54), (4, .int x4_52)] []) E ?_ ?_
        · intro x3_54 h_55 E
          show G l D X 8 (WM ad cy) 0 0 h_55 49 [(0, .ref (ad 0)), (1, .int x1), (2, .int x2), (3, .int x3_54), (4, .int x4_52)] []
          refine g_iinc (pc' := 52) O ⟨dX11_makesAll_49, rfl⟩ (q := 4) (v := x4_52 + (-1 : Int32)) (lv' := [(4, .int (x4_52 + (-1 : Int32))), (0, .ref (ad 0)), (1, .int x1), (2, .int x2), (3, .int x3_54)]) rfl rfl (by decide) rfl ?_
          refine g_goto (pc' := 55) O ⟨dX11_makesAll_52, rfl⟩ (tgt := 10) (by decide) ?_
          refine g_sub (lv' := [(0, .ref (ad 0)), (1, .int x1), (2, .int x2), (3, .int x3_54), (4, .int (x4_52 + (-1 : Int32)))]) [1, 2, 3, 4, 0] rfl ?_
          exact ih10 _ _ _ E
        · intro k49 hk49 E
          refine g_sub (lv' := [(0, .ref (ad 0)), (1, .int x1), (2, .int x2), (3, .int x3_51), (4, .int x4_52), (5, .int (0 : Int32))]) [1, 2, 3, 4, 5, 0] rfl ?_
          refine fx3_of (P := fun (x3_56 : Int32) (x5_57 : Int32) (h_58 : Hp) => G l D X 8 (WM ad cy) 0 0 h_58 22 [(0, .ref (ad 0)), (1, .int x1), (2, .int x2), (3, .int x3_56), (4, .int x4_52), (5, .int x5_57)] []) ?_ _ _ _ _ E
          intro self ih22 x3_56 x5_57 h_58 E
          show G l D X 8 (WM ad cy) 0 0 h_58 22 [(0, .ref (ad 0)), (1, .int x1), (2, .int x2), (3, .int x3_56), (4, .int x4_52), (5, .int x5_57)] []
          unfold L_X11_makesAll_22 at E
          refine g_iload (pc' := 24) O ⟨dX11_makesAll_22, rfl⟩ (q := 5) rfl ?_
          refine g_iload (pc' := 26) O ⟨dX11_makesAll_24, rfl⟩ (q := 4) rfl ?_
          refine g_icmp_ge (pc' := 29) O ⟨dX11_makesAll_26, rfl⟩ E (tgt := 49) (by decide) (fun E => ?_) (fun E => ?_)
          · refine g_sub (lv' := [(0, .ref (ad 0)), (1, .int x1), (2, .int x2), (3, .int x3_56), (4, .int x4_52)]) [0, 1, 2, 3, 4] rfl ?_
            exact hk49 _ _ E
          · refine g_iload_n (pc' := 30) O ⟨dX11_makesAll_29, rfl⟩ (q := 3) rfl rfl ?_
            refine g_aload_n (pc' := 31) O ⟨dX11_makesAll_30, rfl⟩ (q := 0) rfl rfl ?_
            refine g_iload (pc' := 33) O ⟨dX11_makesAll_31, rfl⟩ (q := 5) rfl ?_
            refine g_iload (pc' := 35) O ⟨dX11_makesAll_33, rfl⟩ (q := 5) rfl ?_
            refine g_iconst (pc' := 36) O ⟨dX11_makesAll_35, rfl⟩ (v := (1 : Int32)) rfl ?_
            refine g_iadd (pc' := 37) O ⟨dX11_makesAll_36, rfl⟩ ?_
            refine g_iload_n (pc' := 38) O ⟨dX11_makesAll_37, rfl⟩ (q := 2) rfl rfl ?_
            obtain ⟨r_59, c_60, E⟩ := bd_of E
            refine g_Vi (pc' := 41) O ⟨dX11_makesAll_38, rfl⟩ (y := yX11_makes) (As := [.int x5_57, .int (x5_57 + (1 : Int32)), .int x2]) (st := [.int x3_56]) (t_X11_makes l D ad cy (h := h_58) c_60) kw_1195 kw_70 kw_1192 kw_1194 kw_29 rfl (wM_0 ad cy h_58) hd_X11_makes ⟨Nat.le_of_ble_eq_true rfl, Nat.le_of_ble_eq_true rfl⟩ ⟨Nat.le_of_ble_eq_true rfl, Nat.le_of_ble_eq_true rfl⟩ rfl (Nat.le_of_ble_eq_true rfl) ?_
            refine g_iadd (pc' := 42) O ⟨dX11_makesAll_41, rfl⟩ ?_
            refine g_nm E (fun y3_61 E => ?_)
            refine g_istore_n (pc' := 43) O ⟨dX11_makesAll_42, rfl⟩ (lv' := [(3, .int y3_61), (0, .ref (ad 0)), (1, .int x1), (2, .int x2), (4, .int x4_52), (5, .int x5_57)]) rfl (by decide) rfl ?_
            refine g_iinc (pc' := 46) O ⟨dX11_makesAll_43, rfl⟩ (q := 5) (v := x5_57 + (1 : Int32)) (lv' := [(5, .int (x5_57 + (1 : Int32))), (3, .int y3_61), (0, .ref (ad 0)), (1, .int x1), (2, .int x2), (4, .int x4_52)]) rfl rfl (by decide) rfl ?_
            refine g_goto (pc' := 49) O ⟨dX11_makesAll_46, rfl⟩ (tgt := 22) (by decide) ?_
            refine g_sub (lv' := [(0, .ref (ad 0)), (1, .int x1), (2, .int x2), (3, .int y3_61), (4, .int x4_52), (5, .int (x5_57 + (1 : Int32)))]) [2, 3, 4, 1, 5, 0] rfl ?_
            exact ih22 _ _ _ E
set_option maxRecDepth 100000 in
set_option maxHeartbeats 4000000 in
theorem t_X11_make (l : Launch) (D : va_G) (ad : Nat → Nat) (cy : Nat → ClassId) {h : Hp} {x1 : Int32} {o : Int32 × Hp} (E : f_X11_make h x1 = some o) : CtI l D cy (WM ad cy) yX11_make cX11_make 2 .int 3 72 [.ref (ad 0), .int x1] h o.1 o.2 := by
  refine sI (own := RX11) rfl rfl (Nat.le_of_ble_eq_true rfl) (fun X O hret => ?_)
  show G l D X 2 (WM ad cy) 0 0 h 0 [(0, .ref (ad 0)), (1, .int x1)] []
  unfold f_X11_make at E
  refine g_aload_n (pc' := 1) O ⟨dX11_make_0, rfl⟩ (q := 0) rfl rfl ?_
  refine g_iload_n (pc' := 2) O ⟨dX11_make_1, rfl⟩ (q := 1) rfl rfl ?_
  refine g_iconst (pc' := 3) O ⟨dX11_make_2, rfl⟩ (v := (0 : Int32)) rfl ?_
  refine g_iconst (pc' := 4) O ⟨dX11_make_3, rfl⟩ (v := (2 : Int32)) rfl ?_
  obtain ⟨r_1, c_2, E⟩ := bd_of E
  refine g_Si (pc' := 7) O ⟨dX11_make_4, rfl⟩ (y := yX11_in) (As := [.int x1, .int (0 : Int32), .int (2 : Int32)]) (st := [.ref (ad 0)]) (t_X11_in l D ad cy (h := h) c_2) kw_1167 kw_70 kw_1165 kw_1166 hd_X11_in ⟨Nat.le_of_ble_eq_true rfl, Nat.le_of_ble_eq_true rfl⟩ ⟨Nat.le_of_ble_eq_true rfl, Nat.le_of_ble_eq_true rfl⟩ rfl (Nat.le_of_ble_eq_true rfl) ?_
  refine jn2_of (P := fun (z_3 : Int32) (h_4 : Hp) => G l D X 2 (WM ad cy) 0 0 h_4 35 [(0, .ref (ad 0)), (1, .int x1)] [.int z_3, .ref (ad 0)]) E ?_ ?_
  · intro z_3 h_4 E
    show G l D X 2 (WM ad cy) 0 0 h_4 35 [(0, .ref (ad 0)), (1, .int x1)] [.int z_3, .ref (ad 0)]
    refine gp_M_RX11_70_0 ad cy (pc' := 38) O ⟨dX11_make_35, rfl⟩ ?_
    refine g_nmh E (fun h_5 E => ?_)
    refine g_aload_n (pc' := 39) O ⟨dX11_make_38, rfl⟩ (q := 0) rfl rfl ?_
    refine gf_M_RX11_70_0 ad cy (pc' := 42) O ⟨dX11_make_39, rfl⟩ ?_
    refine g_if_le (pc' := 45) O ⟨dX11_make_42, rfl⟩ E (tgt := 47) (by decide) (fun E => ?_) (fun E => ?_)
    · refine g_aload_n (pc' := 48) O ⟨dX11_make_47, rfl⟩ (q := 0) rfl rfl ?_
      obtain ⟨r_6, c_7, E⟩ := bd_of E
      refine g_Vv (pc' := 51) O ⟨dX11_make_48, rfl⟩ (y := yX11_forgets) (As := []) (st := []) (t_X11_forgets l D ad cy (h := h_5) c_7) kw_1077 kw_70 kw_1074 kw_1076 kw_25 rfl (wM_0 ad cy h_5) hd_X11_forgets ⟨Nat.le_of_ble_eq_true rfl, Nat.le_of_ble_eq_true rfl⟩ ⟨Nat.le_of_ble_eq_true rfl, Nat.le_of_ble_eq_true rfl⟩ rfl (Nat.le_of_ble_eq_true rfl) ?_
      refine g_aload_n (pc' := 52) O ⟨dX11_make_51, rfl⟩ (q := 0) rfl rfl ?_
      refine g_iload_n (pc' := 53) O ⟨dX11_make_52, rfl⟩ (q := 1) rfl rfl ?_
      refine g_iconst (pc' := 54) O ⟨dX11_make_53, rfl⟩ (v := (0 : Int32)) rfl ?_
      obtain ⟨r_8, c_9, E⟩ := bd_of E
      refine g_Vi (pc' := 57) O ⟨dX11_make_54, rfl⟩ (y := yX11_makesAll) (As := [.int x1, .int (0 : Int32)]) (st := []) (t_X11_makesAll l D ad cy (h := r_6) c_9) kw_1191 kw_70 kw_1188 kw_1190 kw_28 rfl (wM_0 ad cy r_6) hd_X11_makesAll ⟨Nat.le_of_ble_eq_true rfl, Nat.le_of_ble_eq_true rfl⟩ ⟨Nat.le_of_ble_eq_true rfl, Nat.le_of_ble_eq_true rfl⟩ rfl (Nat.le_of_ble_eq_true rfl) ?_
      cases E
      exact hret _ _ _ ⟨dX11_make_57, rfl⟩ rfl
    · refine g_iconst (pc' := 46) O ⟨dX11_make_45, rfl⟩ (v := (0 : Int32)) rfl ?_
      cases E
      exact hret _ _ _ ⟨dX11_make_46, rfl⟩ rfl
  · intro k35 hk35 E
    refine g_if_ne (pc' := 10) O ⟨dX11_make_7, rfl⟩ E (tgt := 14) (by decide) (fun E => ?_) (fun E => ?_)
    · refine g_aload_n (pc' := 15) O ⟨dX11_make_14, rfl⟩ (q := 0) rfl rfl ?_
      refine gf_M_RX11_81_0 ad cy (pc' := 18) O ⟨dX11_make_15, rfl⟩ ?_
      refine g_aload_n (pc' := 19) O ⟨dX11_make_18, rfl⟩ (q := 0) rfl rfl ?_
      refine g_iload_n (pc' := 20) O ⟨dX11_make_19, rfl⟩ (q := 1) rfl rfl ?_
      refine g_iconst (pc' := 21) O ⟨dX11_make_20, rfl⟩ (v := (1 : Int32)) rfl ?_
      obtain ⟨r_10, c_11, E⟩ := bd_of E
      refine g_Vi (pc' := 24) O ⟨dX11_make_21, rfl⟩ (y := yX11_makesAll) (As := [.int x1, .int (1 : Int32)]) (st := [.int (h.1 0 2), .ref (ad 0)]) (t_X11_makesAll l D ad cy (h := h) c_11) kw_1191 kw_70 kw_1188 kw_1190 kw_28 rfl (wM_0 ad cy h) hd_X11_makesAll ⟨Nat.le_of_ble_eq_true rfl, Nat.le_of_ble_eq_true rfl⟩ ⟨Nat.le_of_ble_eq_true rfl, Nat.le_of_ble_eq_true rfl⟩ rfl (Nat.le_of_ble_eq_true rfl) ?_
      refine g_iadd (pc' := 25) O ⟨dX11_make_24, rfl⟩ ?_
      refine g_bipush (pc' := 27) O ⟨dX11_make_25, rfl⟩ (v := (24 : Int32)) rfl ?_
      refine g_icmp_le (pc' := 30) O ⟨dX11_make_27, rfl⟩ E (tgt := 34) (by decide) (fun E => ?_) (fun E => ?_)
      · refine g_iconst (pc' := 35) O ⟨dX11_make_34, rfl⟩ (v := (0 : Int32)) rfl ?_
        exact hk35 _ _ E
      · refine g_iconst (pc' := 31) O ⟨dX11_make_30, rfl⟩ (v := (2 : Int32)) rfl ?_
        refine g_goto (pc' := 34) O ⟨dX11_make_31, rfl⟩ (tgt := 35) (by decide) ?_
        exact hk35 _ _ E
    · refine g_iconst (pc' := 11) O ⟨dX11_make_10, rfl⟩ (v := (1 : Int32)) rfl ?_
      refine g_goto (pc' := 14) O ⟨dX11_make_11, rfl⟩ (tgt := 35) (by decide) ?_
      exact hk35 _ _ E
set_option maxRecDepth 100000 in
set_option maxHeartbeats 4000000 in
theorem t_X11_mirror (l : Launch) (D : va_G) (ad : Nat → Nat) (cy : Nat → ClassId) {h : Hp}  {o : Hp} (E : f_X11_mirror h = some o) : CtV l D cy (WM ad cy) yX11_mirror cX11_mirror 3 1 21 [.ref (ad 0)] h o := by
  refine sV (own := RX11) rfl rfl (Nat.le_of_ble_eq_true rfl) (fun X O hret => ?_)
  show G l D X 3 (WM ad cy) 0 0 h 0 [(0, .ref (ad 0))] []
  unfold f_X11_mirror at E
  refine g_aload_n (pc' := 1) O ⟨dX11_mirror_0, rfl⟩ (q := 0) rfl rfl ?_
  refine g_iconst (pc' := 2) O ⟨dX11_mirror_1, rfl⟩ (v := (0 : Int32)) rfl ?_
  refine gp_M_RX11_70_0 ad cy (pc' := 5) O ⟨dX11_mirror_2, rfl⟩ ?_
  refine g_nmh E (fun h_1 E => ?_)
  refine g_iconst (pc' := 6) O ⟨dX11_mirror_5, rfl⟩ (v := (0 : Int32)) rfl ?_
  refine g_istore_n (pc' := 7) O ⟨dX11_mirror_6, rfl⟩ (lv' := [(1, .int (0 : Int32)), (0, .ref (ad 0))]) rfl (by decide) rfl ?_
  refine jn1_of (P := fun (h_2 : Hp) => G l D X 3 (WM ad cy) 0 0 h_2 61 [(0, .ref (ad 0))] []) E ?_ ?_
  · intro h_2 E
    show G l D X 3 (WM ad cy) 0 0 h_2 61 [(0, .ref (ad 0))] []
    refine g_aload_n (pc' := 62) O ⟨dX11_mirror_61, rfl⟩ (q := 0) rfl rfl ?_
    obtain ⟨r_3, c_4, E⟩ := bd_of E
    refine g_Vv (pc' := 65) O ⟨dX11_mirror_62, rfl⟩ (y := yX11_forgets) (As := []) (st := []) (t_X11_forgets l D ad cy (h := h_2) c_4) kw_1077 kw_70 kw_1074 kw_1076 kw_25 rfl (wM_0 ad cy h_2) hd_X11_forgets ⟨Nat.le_of_ble_eq_true rfl, Nat.le_of_ble_eq_true rfl⟩ ⟨Nat.le_of_ble_eq_true rfl, Nat.le_of_ble_eq_true rfl⟩ rfl (Nat.le_of_ble_eq_true rfl) ?_
    cases E
    exact hret _ _ _ ⟨dX11_mirror_65, rfl⟩
  · intro k61 hk61 E
    refine g_sub (lv' := [(0, .ref (ad 0)), (1, .int (0 : Int32))]) [1, 0] rfl ?_
    refine fx2_of (P := fun (x1_5 : Int32) (h_6 : Hp) => G l D X 3 (WM ad cy) 0 0 h_6 7 [(0, .ref (ad 0)), (1, .int x1_5)] []) ?_ _ _ _ E
    intro self ih7 x1_5 h_6 E
    show G l D X 3 (WM ad cy) 0 0 h_6 7 [(0, .ref (ad 0)), (1, .int x1_5)] []
    unfold L_X11_mirror_7 at E
    refine g_iload_n (pc' := 8) O ⟨dX11_mirror_7, rfl⟩ (q := 1) rfl rfl ?_
    refine g_aload_n (pc' := 9) O ⟨dX11_mirror_8, rfl⟩ (q := 0) rfl rfl ?_
    refine gf_M_RX11_81_0 ad cy (pc' := 12) O ⟨dX11_mirror_9, rfl⟩ ?_
    refine g_icmp_ge (pc' := 15) O ⟨dX11_mirror_12, rfl⟩ E (tgt := 61) (by decide) (fun E => ?_) (fun E => ?_)
    · refine g_sub (lv' := [(0, .ref (ad 0))]) [0] rfl ?_
      exact hk61 _ E
    · refine g_aload_n (pc' := 16) O ⟨dX11_mirror_15, rfl⟩ (q := 0) rfl rfl ?_
      refine gf_M_RX11_7_0 ad cy (pc' := 19) O ⟨dX11_mirror_16, rfl⟩ ?_
      refine g_iload_n (pc' := 20) O ⟨dX11_mirror_19, rfl⟩ (q := 1) rfl rfl ?_
      refine g_iald (pc' := 21) O ⟨dX11_mirror_20, rfl⟩ (wM_1 ad cy h_6) E (fun E => ?_)
      refine g_istore_n (pc' := 22) O ⟨dX11_mirror_21, rfl⟩ (lv' := [(2, .int (h_6.1 1 x1_5.toNatClampNeg)), (0, .ref (ad 0)), (1, .int x1_5)]) rfl (by decide) rfl ?_
      refine g_aload_n (pc' := 23) O ⟨dX11_mirror_22, rfl⟩ (q := 1) rfl rfl ?_
      refine gf_M_RX11_7_0 ad cy (pc' := 26) O ⟨dX11_mirror_23, rfl⟩ ?_
      refine g_iload_n (pc' := 27) O ⟨dX11_mirror_26, rfl⟩ (q := 2) rfl rfl ?_
      refine g_aload_n (pc' := 28) O ⟨dX11_mirror_27, rfl⟩ (q := 1) rfl rfl ?_
      refine gf_M_RX11_74_0 ad cy (pc' := 31) O ⟨dX11_mirror_28, rfl⟩ ?_
      refine g_iconst (pc' := 32) O ⟨dX11_mirror_31, rfl⟩ (v := (1 : Int32)) rfl ?_
      refine g_isub (pc' := 33) O ⟨dX11_mirror_32, rfl⟩ ?_
      refine g_aload_n (pc' := 34) O ⟨dX11_mirror_33, rfl⟩ (q := 1) rfl rfl ?_
      refine gf_M_RX11_13_0 ad cy (pc' := 37) O ⟨dX11_mirror_34, rfl⟩ ?_
      refine g_iload_n (pc' := 38) O ⟨dX11_mirror_37, rfl⟩ (q := 2) rfl rfl ?_
      refine g_iald (pc' := 39) O ⟨dX11_mirror_38, rfl⟩ (wM_2 ad cy h_6) E (fun E => ?_)
      refine g_isub (pc' := 40) O ⟨dX11_mirror_39, rfl⟩ ?_
      refine g_iast (pc' := 41) O ⟨dX11_mirror_40, rfl⟩ (wM_1 ad cy h_6) (vM_1 ad cy h_6 _) E (fun E => ?_)
      refine g_nmh E (fun h_7 E => ?_)
      refine g_aload_n (pc' := 42) O ⟨dX11_mirror_41, rfl⟩ (q := 1) rfl rfl ?_
      refine gf_M_RX11_13_0 ad cy (pc' := 45) O ⟨dX11_mirror_42, rfl⟩ ?_
      refine g_iload_n (pc' := 46) O ⟨dX11_mirror_45, rfl⟩ (q := 2) rfl rfl ?_
      refine g_aload_n (pc' := 47) O ⟨dX11_mirror_46, rfl⟩ (q := 1) rfl rfl ?_
      refine gf_M_RX11_74_0 ad cy (pc' := 50) O ⟨dX11_mirror_47, rfl⟩ ?_
      refine g_iconst (pc' := 51) O ⟨dX11_mirror_50, rfl⟩ (v := (1 : Int32)) rfl ?_
      refine g_isub (pc' := 52) O ⟨dX11_mirror_51, rfl⟩ ?_
      refine g_iload_n (pc' := 53) O ⟨dX11_mirror_52, rfl⟩ (q := 0) rfl rfl ?_
      refine g_isub (pc' := 54) O ⟨dX11_mirror_53, rfl⟩ ?_
      refine g_iast (pc' := 55) O ⟨dX11_mirror_54, rfl⟩ (wM_2 ad cy h_7) (vM_2 ad cy h_7 _) E (fun E => ?_)
      refine g_nmh E (fun h_8 E => ?_)
      refine g_iinc (pc' := 58) O ⟨dX11_mirror_55, rfl⟩ (q := 2) (v := x1_5 + (1 : Int32)) (lv' := [(1, .int (x1_5 + (1 : Int32))), (2, .int (h_6.1 1 x1_5.toNatClampNeg)), (0, .ref (ad 0))]) rfl rfl (by decide) rfl ?_
      refine g_goto (pc' := 61) O ⟨dX11_mirror_58, rfl⟩ (tgt := 7) (by decide) ?_
      refine g_sub (lv' := [(0, .ref (ad 0)), (1, .int (x1_5 + (1 : Int32)))]) [2, 0] rfl ?_
      exact ih7 _ _ E
