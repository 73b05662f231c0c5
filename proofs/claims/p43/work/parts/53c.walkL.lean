/-! WALKS, laid by program: each method does what its pure program says -/
set_option maxRecDepth 100000 in
set_option maxHeartbeats 4000000 in
theorem t_L_distance (l : Launch) (D : va_G) (cy : Nat → ClassId) (hfl : l.stackTraces = false) (b0 : Nat) (b1 : Nat) (b2 : Nat) {x0 : Int32} {x2 : Int32} {x5 : Int32} {r0 : Row} {r1 : Row} {r2 : Row} {o : Int32} (E : f_L_distance x0 x2 x5 r0 r1 r2 = some o) : CtMI l D cy (WA3 cy 6 24 24 b0 b1 b2) yL_distance cL_distance 6 .int 1 25 0 0 [.int x0, .ref b0, .int x2, .ref b1, .ref b2, .int x5] (r0, r1, r2) o (r0, r1, r2) := by
  refine sMI (own := RL) rfl rfl (Nat.le_of_ble_eq_true rfl) (fun X O hN hret => ?_)
  show G l D X 6 (WA3 cy 6 24 24 b0 b1 b2) 0 0 (r0, r1, r2) 0 [(0, .int x0), (1, .ref b0), (2, .int x2), (3, .ref b1), (4, .ref b2), (5, .int x5)] []
  unfold f_L_distance at E
  refine g_iload_n (pc' := 1) O ⟨dL_distance_0, rfl⟩ (q := 0) rfl rfl ?_
  refine g_if_ne (pc' := 4) O ⟨dL_distance_1, rfl⟩ E (tgt := 12) (by decide) (fun E => ?_) (fun E => ?_)
  · refine g_iload_n (pc' := 13) O ⟨dL_distance_12, rfl⟩ (q := 0) rfl rfl ?_
    refine g_iconst (pc' := 14) O ⟨dL_distance_13, rfl⟩ (v := (1 : Int32)) rfl ?_
    refine g_icmp_ne (pc' := 17) O ⟨dL_distance_14, rfl⟩ E (tgt := 27) (by decide) (fun E => ?_) (fun E => ?_)
    · refine g_aload (pc' := 29) O ⟨dL_distance_27, rfl⟩ (q := 4) rfl ?_
      refine g_aload_n (pc' := 30) O ⟨dL_distance_29, rfl⟩ (q := 1) rfl rfl ?_
      refine g_iload_n (pc' := 31) O ⟨dL_distance_30, rfl⟩ (q := 2) rfl rfl ?_
      obtain ⟨r_1, c_2, E⟩ := bd_of E
      refine g_MSi (pc' := 34) O hN ⟨dL_distance_31, rfl⟩ (y := yL_code) (As := [.ref b0, .int x2]) (st := [.ref b2]) (put := (fun g => (g, r1, r2))) sub_A3_A0 (t_L_code l D cy hfl b0 c_2) kw_726 kw_24 kw_724 kw_725 hd_L_code ⟨Nat.le_of_ble_eq_true rfl, Nat.le_of_ble_eq_true rfl⟩ ⟨Nat.le_of_ble_eq_true rfl, Nat.le_of_ble_eq_true rfl⟩ rfl (Nat.le_of_ble_eq_true rfl) ?_
      show G l D X 6 (WA3 cy 6 24 24 b0 b1 b2) 0 0 (r0, r1, r2) 34 [(0, .int x0), (1, .ref b0), (2, .int x2), (3, .ref b1), (4, .ref b2), (5, .int x5)] [.int r_1, .ref b2]
      refine g_aload_n (pc' := 35) O ⟨dL_distance_34, rfl⟩ (q := 3) rfl rfl ?_
      refine g_iload (pc' := 37) O ⟨dL_distance_35, rfl⟩ (q := 5) rfl ?_
      obtain ⟨r_3, c_4, E⟩ := bd_of E
      refine g_MSi (pc' := 40) O hN ⟨dL_distance_37, rfl⟩ (y := yL_placeOf) (As := [.int r_1, .ref b1, .int x5]) (st := [.ref b2]) (put := (fun g => (r0, g, r2))) sub_A3_A1 (t_L_placeOf l D cy hfl b1 c_4) kw_892 kw_24 kw_890 kw_891 hd_L_placeOf ⟨Nat.le_of_ble_eq_true rfl, Nat.le_of_ble_eq_true rfl⟩ ⟨Nat.le_of_ble_eq_true rfl, Nat.le_of_ble_eq_true rfl⟩ rfl (Nat.le_of_ble_eq_true rfl) ?_
      show G l D X 6 (WA3 cy 6 24 24 b0 b1 b2) 0 0 (r0, r1, r2) 40 [(0, .int x0), (1, .ref b0), (2, .int x2), (3, .ref b1), (4, .ref b2), (5, .int x5)] [.int r_3, .ref b2]
      refine g_iald (pc' := 41) O ⟨dL_distance_40, rfl⟩ zA3_2 E (fun E => ?_)
      cases E
      exact hret _ _ _ _ _ (Nat.le_of_ble_eq_true rfl) (Nat.le_of_ble_eq_true rfl) ⟨dL_distance_41, rfl⟩ rfl
    · refine g_iload_n (pc' := 18) O ⟨dL_distance_17, rfl⟩ (q := 2) rfl rfl ?_
      refine g_aload_n (pc' := 19) O ⟨dL_distance_18, rfl⟩ (q := 1) rfl rfl ?_
      refine g_iload_n (pc' := 20) O ⟨dL_distance_19, rfl⟩ (q := 2) rfl rfl ?_
      obtain ⟨r_5, c_6, E⟩ := bd_of E
      refine g_MSi (pc' := 23) O hN ⟨dL_distance_20, rfl⟩ (y := yL_rings) (As := [.ref b0, .int x2]) (st := [.int x2]) (put := (fun g => (g, r1, r2))) sub_A3_A0 (t_L_rings l D cy hfl b0 c_6) kw_898 kw_24 kw_896 kw_897 hd_L_rings ⟨Nat.le_of_ble_eq_true rfl, Nat.le_of_ble_eq_true rfl⟩ ⟨Nat.le_of_ble_eq_true rfl, Nat.le_of_ble_eq_true rfl⟩ rfl (Nat.le_of_ble_eq_true rfl) ?_
      show G l D X 6 (WA3 cy 6 24 24 b0 b1 b2) 0 0 (r0, r1, r2) 23 [(0, .int x0), (1, .ref b0), (2, .int x2), (3, .ref b1), (4, .ref b2), (5, .int x5)] [.int r_5, .int x2]
      refine g_isub (pc' := 24) O ⟨dL_distance_23, rfl⟩ ?_
      refine g_goto (pc' := 27) O ⟨dL_distance_24, rfl⟩ (tgt := 41) (by decide) ?_
      cases E
      exact hret _ _ _ _ _ (Nat.le_of_ble_eq_true rfl) (Nat.le_of_ble_eq_true rfl) ⟨dL_distance_41, rfl⟩ rfl
  · refine g_aload_n (pc' := 5) O ⟨dL_distance_4, rfl⟩ (q := 1) rfl rfl ?_
    refine g_iload_n (pc' := 6) O ⟨dL_distance_5, rfl⟩ (q := 2) rfl rfl ?_
    obtain ⟨r_7, c_8, E⟩ := bd_of E
    refine g_MSi (pc' := 9) O hN ⟨dL_distance_6, rfl⟩ (y := yL_upsideDown) (As := [.ref b0, .int x2]) (st := []) (put := (fun g => (g, r1, r2))) sub_A3_A0 (t_L_upsideDown l D cy hfl b0 c_8) kw_723 kw_24 kw_721 kw_722 hd_L_upsideDown ⟨Nat.le_of_ble_eq_true rfl, Nat.le_of_ble_eq_true rfl⟩ ⟨Nat.le_of_ble_eq_true rfl, Nat.le_of_ble_eq_true rfl⟩ rfl (Nat.le_of_ble_eq_true rfl) ?_
    show G l D X 6 (WA3 cy 6 24 24 b0 b1 b2) 0 0 (r0, r1, r2) 9 [(0, .int x0), (1, .ref b0), (2, .int x2), (3, .ref b1), (4, .ref b2), (5, .int x5)] [.int r_7]
    refine g_goto (pc' := 12) O ⟨dL_distance_9, rfl⟩ (tgt := 41) (by decide) ?_
    cases E
    exact hret _ _ _ _ _ (Nat.le_of_ble_eq_true rfl) (Nat.le_of_ble_eq_true rfl) ⟨dL_distance_41, rfl⟩ rfl
set_option maxRecDepth 100000 in
set_option maxHeartbeats 4000000 in
theorem t_L_orders (l : Launch) (D : va_G) (ad : Nat → Nat) (cy : Nat → ClassId) (hfl : l.stackTraces = false) (b0 : Nat) (b1 : Nat) {x1 : Int32} {h : Hp} {r0 : Row} {r1 : Row} {o : Int32 × Hp} (E : f_L_orders x1 h r0 r1 = some o) : CtMI l D cy (WX2 ad cy 6 4 b0 b1) yL_orders cL_orders 13 .boolean 10 195 12 108 [.ref (ad 0), .int x1, .ref b0, .ref b1] (h, r0, r1) o.1 (o.2, r0, r1) := by
  refine sMI (own := RL) rfl rfl (Nat.le_of_ble_eq_true rfl) (fun X O hN hret => ?_)
  show G l D X 13 (WX2 ad cy 6 4 b0 b1) 0 0 (h, r0, r1) 0 [(0, .ref (ad 0)), (1, .int x1), (2, .ref b0), (3, .ref b1)] []
  unfold f_L_orders at E
  refine g_aload_n (pc' := 1) O ⟨dL_orders_0, rfl⟩ (q := 3) rfl rfl ?_
  refine g_iconst (pc' := 2) O ⟨dL_orders_1, rfl⟩ (v := (0 : Int32)) rfl ?_
  refine g_iald (pc' := 3) O ⟨dL_orders_2, rfl⟩ zX2_1 E (fun E => ?_)
  refine g_istore (pc' := 5) O ⟨dL_orders_3, rfl⟩ (lv' := [(4, .int (r1 (0 : Int32).toNatClampNeg)), (0, .ref (ad 0)), (1, .int x1), (2, .ref b0), (3, .ref b1)]) (by decide) rfl ?_
  refine g_iload_n (pc' := 6) O ⟨dL_orders_5, rfl⟩ (q := 2) rfl rfl ?_
  refine g_iconst (pc' := 7) O ⟨dL_orders_6, rfl⟩ (v := (1 : Int32)) rfl ?_
  refine jn0_of (P := G l D X 13 (WX2 ad cy 6 4 b0 b1) 0 0 (h, r0, r1) 18 [(0, .ref (ad 0)), (1, .int x1), (2, .ref b0), (4, .int (r1 (0 : Int32).toNatClampNeg))] []) E ?_ ?_
  · intro E
    show G l D X 13 (WX2 ad cy 6 4 b0 b1) 0 0 (h, r0, r1) 18 [(0, .ref (ad 0)), (1, .int x1), (2, .ref b0), (4, .int (r1 (0 : Int32).toNatClampNeg))] []
    refine g_bipush (pc' := 20) O ⟨dL_orders_18, rfl⟩ (v := (24 : Int32)) rfl ?_
    refine g_newr (pc' := 22) O ⟨dL_orders_20, rfl⟩ (N' := 24) (wf2 := fun b2 => (WX3 ad cy 6 4 24 b0 b1 b2)) (h2 := (h, r0, r1, (fun _ => 0))) kw_94 rfl (by decide) (by decide) ⟨Nat.le_of_ble_eq_true rfl, Nat.le_of_ble_eq_true rfl⟩ (fun _ => rfl) (fun b2 => ?_)
    show G l D X 13 (WX3 ad cy 6 4 24 b0 b1 b2) 1 24 (h, r0, r1, (fun _ => 0)) 22 [(0, .ref (ad 0)), (1, .int x1), (2, .ref b0), (4, .int (r1 (0 : Int32).toNatClampNeg))] [.ref b2]
    refine g_astore (pc' := 24) O ⟨dL_orders_22, rfl⟩ (lv' := [(5, .ref b2), (0, .ref (ad 0)), (1, .int x1), (2, .ref b0), (4, .int (r1 (0 : Int32).toNatClampNeg))]) (by decide) rfl ?_
    refine g_bipush (pc' := 26) O ⟨dL_orders_24, rfl⟩ (v := (24 : Int32)) rfl ?_
    refine g_newr (pc' := 28) O ⟨dL_orders_26, rfl⟩ (N' := 24) (wf2 := fun b3 => (WX4 ad cy 6 4 24 24 b0 b1 b2 b3)) (h2 := (h, r0, r1, (fun _ => 0), (fun _ => 0))) kw_94 rfl (by decide) (by decide) ⟨Nat.le_of_ble_eq_true rfl, Nat.le_of_ble_eq_true rfl⟩ (fun _ => rfl) (fun b3 => ?_)
    show G l D X 13 (WX4 ad cy 6 4 24 24 b0 b1 b2 b3) 2 48 (h, r0, r1, (fun _ => 0), (fun _ => 0)) 28 [(5, .ref b2), (0, .ref (ad 0)), (1, .int x1), (2, .ref b0), (4, .int (r1 (0 : Int32).toNatClampNeg))] [.ref b3]
    refine g_astore (pc' := 30) O ⟨dL_orders_28, rfl⟩ (lv' := [(6, .ref b3), (5, .ref b2), (0, .ref (ad 0)), (1, .int x1), (2, .ref b0), (4, .int (r1 (0 : Int32).toNatClampNeg))]) (by decide) rfl ?_
    refine g_bipush (pc' := 32) O ⟨dL_orders_30, rfl⟩ (v := (6 : Int32)) rfl ?_
    refine g_newr (pc' := 34) O ⟨dL_orders_32, rfl⟩ (N' := 6) (wf2 := fun b4 => (WX5 ad cy 6 4 24 24 6 b0 b1 b2 b3 b4)) (h2 := (h, r0, r1, (fun _ => 0), (fun _ => 0), (fun _ => 0))) kw_94 rfl (by decide) (by decide) ⟨Nat.le_of_ble_eq_true rfl, Nat.le_of_ble_eq_true rfl⟩ (fun _ => rfl) (fun b4 => ?_)
    show G l D X 13 (WX5 ad cy 6 4 24 24 6 b0 b1 b2 b3 b4) 3 54 (h, r0, r1, (fun _ => 0), (fun _ => 0), (fun _ => 0)) 34 [(6, .ref b3), (5, .ref b2), (0, .ref (ad 0)), (1, .int x1), (2, .ref b0), (4, .int (r1 (0 : Int32).toNatClampNeg))] [.ref b4]
    refine g_astore (pc' := 36) O ⟨dL_orders_34, rfl⟩ (lv' := [(7, .ref b4), (6, .ref b3), (5, .ref b2), (0, .ref (ad 0)), (1, .int x1), (2, .ref b0), (4, .int (r1 (0 : Int32).toNatClampNeg))]) (by decide) rfl ?_
    refine g_iload_n (pc' := 37) O ⟨dL_orders_36, rfl⟩ (q := 4) rfl rfl ?_
    refine g_iconst (pc' := 38) O ⟨dL_orders_37, rfl⟩ (v := (1 : Int32)) rfl ?_
    refine jn3_of (P := fun (z_1 : Int32) (r2_2 : Row) (r3_3 : Row) => G l D X 13 (WX5 ad cy 6 4 24 24 6 b0 b1 b2 b3 b4) 4 60 (h, r0, r1, r2_2, r3_3, (fun _ => 0)) 55 [(0, .ref (ad 0)), (1, .int x1), (2, .ref b0), (4, .int (r1 (0 : Int32).toNatClampNeg)), (5, .ref b2), (6, .ref b3), (7, .ref b4)] [.int z_1]) E ?_ ?_
    · intro z_1 r2_2 r3_3 E
      show G l D X 13 (WX5 ad cy 6 4 24 24 6 b0 b1 b2 b3 b4) 4 60 (h, r0, r1, r2_2, r3_3, (fun _ => 0)) 55 [(0, .ref (ad 0)), (1, .int x1), (2, .ref b0), (4, .int (r1 (0 : Int32).toNatClampNeg)), (5, .ref b2), (6, .ref b3), (7, .ref b4)] [.int z_1]
      refine g_istore (pc' := 57) O ⟨dL_orders_55, rfl⟩ (lv' := [(8, .int z_1), (0, .ref (ad 0)), (1, .int x1), (2, .ref b0), (4, .int (r1 (0 : Int32).toNatClampNeg)), (5, .ref b2), (6, .ref b3), (7, .ref b4)]) (by decide) rfl ?_
      refine g_iload_n (pc' := 58) O ⟨dL_orders_57, rfl⟩ (q := 2) rfl rfl ?_
      refine g_aload_n (pc' := 59) O ⟨dL_orders_58, rfl⟩ (q := 3) rfl rfl ?_
      refine g_iload (pc' := 61) O ⟨dL_orders_59, rfl⟩ (q := 4) rfl ?_
      refine g_aload (pc' := 63) O ⟨dL_orders_61, rfl⟩ (q := 5) rfl ?_
      refine g_aload (pc' := 65) O ⟨dL_orders_63, rfl⟩ (q := 6) rfl ?_
      refine g_iload (pc' := 67) O ⟨dL_orders_65, rfl⟩ (q := 0) rfl ?_
      obtain ⟨r_4, c_5, E⟩ := bd_of E
      refine g_MSi (pc' := 70) O hN ⟨dL_orders_67, rfl⟩ (y := yL_distance) (As := [.int x1, .ref b0, .int (r1 (0 : Int32).toNatClampNeg), .ref b2, .ref b3, .int z_1]) (st := []) (put := (fun g => (h, g.1, r1, g.2.1, g.2.2, (fun _ => 0)))) sub_X5_A0_2_3 (t_L_distance l D cy hfl b0 b2 b3 c_5) kw_895 kw_24 kw_893 kw_894 hd_L_distance ⟨Nat.le_of_ble_eq_true rfl, Nat.le_of_ble_eq_true rfl⟩ ⟨Nat.le_of_ble_eq_true rfl, Nat.le_of_ble_eq_true rfl⟩ rfl (Nat.le_of_ble_eq_true rfl) ?_
      show G l D X 13 (WX5 ad cy 6 4 24 24 6 b0 b1 b2 b3 b4) 4 60 (h, r0, r1, r2_2, r3_3, (fun _ => 0)) 70 [(8, .int z_1), (0, .ref (ad 0)), (1, .int x1), (2, .ref b0), (4, .int (r1 (0 : Int32).toNatClampNeg)), (5, .ref b2), (6, .ref b3), (7, .ref b4)] [.int r_4]
      refine g_istore (pc' := 72) O ⟨dL_orders_70, rfl⟩ (lv' := [(9, .int r_4), (8, .int z_1), (0, .ref (ad 0)), (1, .int x1), (2, .ref b0), (4, .int (r1 (0 : Int32).toNatClampNeg)), (5, .ref b2), (6, .ref b3), (7, .ref b4)]) (by decide) rfl ?_
      refine g_iconst (pc' := 73) O ⟨dL_orders_72, rfl⟩ (v := (-1 : Int32)) rfl ?_
      refine g_istore (pc' := 75) O ⟨dL_orders_73, rfl⟩ (lv' := [(10, .int (-1 : Int32)), (9, .int r_4), (8, .int z_1), (0, .ref (ad 0)), (1, .int x1), (2, .ref b0), (4, .int (r1 (0 : Int32).toNatClampNeg)), (5, .ref b2), (6, .ref b3), (7, .ref b4)]) (by decide) rfl ?_
      refine g_iconst (pc' := 76) O ⟨dL_orders_75, rfl⟩ (v := (0 : Int32)) rfl ?_
      refine g_istore (pc' := 78) O ⟨dL_orders_76, rfl⟩ (lv' := [(11, .int (0 : Int32)), (10, .int (-1 : Int32)), (9, .int r_4), (8, .int z_1), (0, .ref (ad 0)), (1, .int x1), (2, .ref b0), (4, .int (r1 (0 : Int32).toNatClampNeg)), (5, .ref b2), (6, .ref b3), (7, .ref b4)]) (by decide) rfl ?_
      refine jn2_of (P := fun (x10_6 : Int32) (r4_7 : Row) => G l D X 13 (WX5 ad cy 6 4 24 24 6 b0 b1 b2 b3 b4) 4 60 (h, r0, r1, r2_2, r3_3, r4_7) 195 [(0, .ref (ad 0)), (1, .int x1), (2, .ref b0), (4, .int (r1 (0 : Int32).toNatClampNeg)), (5, .ref b2), (6, .ref b3), (7, .ref b4), (8, .int z_1), (9, .int r_4), (10, .int x10_6)] []) E ?_ ?_
      · intro x10_6 r4_7 E
        show G l D X 13 (WX5 ad cy 6 4 24 24 6 b0 b1 b2 b3 b4) 4 60 (h, r0, r1, r2_2, r3_3, r4_7) 195 [(0, .ref (ad 0)), (1, .int x1), (2, .ref b0), (4, .int (r1 (0 : Int32).toNatClampNeg)), (5, .ref b2), (6, .ref b3), (7, .ref b4), (8, .int z_1), (9, .int r_4), (10, .int x10_6)] []
        refine g_iconst (pc' := 196) O ⟨dL_orders_195, rfl⟩ (v := (0 : Int32)) rfl ?_
        refine g_istore (pc' := 198) O ⟨dL_orders_196, rfl⟩ (lv' := [(11, .int (0 : Int32)), (0, .ref (ad 0)), (1, .int x1), (2, .ref b0), (4, .int (r1 (0 : Int32).toNatClampNeg)), (5, .ref b2), (6, .ref b3), (7, .ref b4), (8, .int z_1), (9, .int r_4), (10, .int x10_6)]) (by decide) rfl ?_
        refine g_iconst (pc' := 199) O ⟨dL_orders_198, rfl⟩ (v := (0 : Int32)) rfl ?_
        refine g_istore (pc' := 201) O ⟨dL_orders_199, rfl⟩ (lv' := [(12, .int (0 : Int32)), (11, .int (0 : Int32)), (0, .ref (ad 0)), (1, .int x1), (2, .ref b0), (4, .int (r1 (0 : Int32).toNatClampNeg)), (5, .ref b2), (6, .ref b3), (7, .ref b4), (8, .int z_1), (9, .int r_4), (10, .int x10_6)]) (by decide) rfl ?_
        refine jn1_of (P := fun (r4_8 : Row) => G l D X 13 (WX5 ad cy 6 4 24 24 6 b0 b1 b2 b3 b4) 4 60 (h, r0, r1, r2_2, r3_3, r4_8) 221 [(0, .ref (ad 0)), (1, .int x1), (2, .ref b0), (4, .int (r1 (0 : Int32).toNatClampNeg)), (5, .ref b2), (6, .ref b3), (7, .ref b4), (8, .int z_1), (9, .int r_4), (10, .int x10_6), (11, .int (0 : Int32))] []) E ?_ ?_
        · intro r4_8 E
          show G l D X 13 (WX5 ad cy 6 4 24 24 6 b0 b1 b2 b3 b4) 4 60 (h, r0, r1, r2_2, r3_3, r4_8) 221 [(0, .ref (ad 0)), (1, .int x1), (2, .ref b0), (4, .int (r1 (0 : Int32).toNatClampNeg)), (5, .ref b2), (6, .ref b3), (7, .ref b4), (8, .int z_1), (9, .int r_4), (10, .int x10_6), (11, .int (0 : Int32))] []
          refine g_iconst (pc' := 222) O ⟨dL_orders_221, rfl⟩ (v := (1 : Int32)) rfl ?_
          refine g_istore (pc' := 224) O ⟨dL_orders_222, rfl⟩ (lv' := [(12, .int (1 : Int32)), (0, .ref (ad 0)), (1, .int x1), (2, .ref b0), (4, .int (r1 (0 : Int32).toNatClampNeg)), (5, .ref b2), (6, .ref b3), (7, .ref b4), (8, .int z_1), (9, .int r_4), (10, .int x10_6), (11, .int (0 : Int32))]) (by decide) rfl ?_
          refine jn2_of (P := fun (x11_9 : Int32) (r4_10 : Row) => G l D X 13 (WX5 ad cy 6 4 24 24 6 b0 b1 b2 b3 b4) 4 60 (h, r0, r1, r2_2, r3_3, r4_10) 270 [(0, .ref (ad 0)), (1, .int x1), (2, .ref b0), (4, .int (r1 (0 : Int32).toNatClampNeg)), (9, .int r_4), (10, .int x10_6), (11, .int x11_9)] []) E ?_ ?_
          · intro x11_9 r4_10 E
            show G l D X 13 (WX5 ad cy 6 4 24 24 6 b0 b1 b2 b3 b4) 4 60 (h, r0, r1, r2_2, r3_3, r4_10) 270 [(0, .ref (ad 0)), (1, .int x1), (2, .ref b0), (4, .int (r1 (0 : Int32).toNatClampNeg)), (9, .int r_4), (10, .int x10_6), (11, .int x11_9)] []
            refine g_aload_n (pc' := 271) O ⟨dL_orders_270, rfl⟩ (q := 0) rfl rfl ?_
            refine g_iload_n (pc' := 272) O ⟨dL_orders_271, rfl⟩ (q := 1) rfl rfl ?_
            refine g_aload_n (pc' := 273) O ⟨dL_orders_272, rfl⟩ (q := 2) rfl rfl ?_
            refine g_iload (pc' := 275) O ⟨dL_orders_273, rfl⟩ (q := 3) rfl ?_
            obtain ⟨r_11, c_12, E⟩ := bd_of E
            refine g_MSi (pc' := 278) O hN ⟨dL_orders_275, rfl⟩ (y := yL_code) (As := [.ref b0, .int (r1 (0 : Int32).toNatClampNeg)]) (st := [.int x1, .ref (ad 0)]) (put := (fun g => (h, g, r1, r2_2, r3_3, r4_10))) sub_X5_A0 (t_L_code l D cy hfl b0 c_12) kw_726 kw_24 kw_724 kw_725 hd_L_code ⟨Nat.le_of_ble_eq_true rfl, Nat.le_of_ble_eq_true rfl⟩ ⟨Nat.le_of_ble_eq_true rfl, Nat.le_of_ble_eq_true rfl⟩ rfl (Nat.le_of_ble_eq_true rfl) ?_
            show G l D X 13 (WX5 ad cy 6 4 24 24 6 b0 b1 b2 b3 b4) 4 60 (h, r0, r1, r2_2, r3_3, r4_10) 278 [(0, .ref (ad 0)), (1, .int x1), (2, .ref b0), (4, .int (r1 (0 : Int32).toNatClampNeg)), (9, .int r_4), (10, .int x10_6), (11, .int x11_9)] [.int r_11, .int x1, .ref (ad 0)]
            obtain ⟨z_16, c_14, e_15, E⟩ := hcatch_of E
            refine g_UXi (pc' := 281) O ⟨dL_orders_278, rfl⟩ (y := yX10_far) (As := [.int x1, .int r_11]) (st := []) (put := (fun g => (g, r0, r1, r2_2, r3_3, r4_10))) sub_X5_X (t_X10_far l D ad cy hfl (h := h) c_14) kw_902 kw_25 kw_899 kw_900 kw_901 rfl zX5_x hd_X10_far ⟨Nat.le_of_ble_eq_true rfl, Nat.le_of_ble_eq_true rfl⟩ ⟨Nat.le_of_ble_eq_true rfl, Nat.le_of_ble_eq_true rfl⟩ rfl (Nat.le_of_ble_eq_true rfl) (fun E1 c q => (by cases e_15 E1 c q)) (fun r_13 q => ?_)
            replace E := E r_13 q
            show G l D X 13 (WX5 ad cy 6 4 24 24 6 b0 b1 b2 b3 b4) 6 72 (r_13.2, r0, r1, r2_2, r3_3, r4_10) 281 [(0, .ref (ad 0)), (1, .int x1), (2, .ref b0), (4, .int (r1 (0 : Int32).toNatClampNeg)), (9, .int r_4), (10, .int x10_6), (11, .int x11_9)] [.int r_13.1]
            refine g_iload (pc' := 283) O ⟨dL_orders_281, rfl⟩ (q := 4) rfl ?_
            refine g_icmp_ne (pc' := 286) O ⟨dL_orders_283, rfl⟩ E (tgt := 331) (by decide) (fun E => ?_) (fun E => ?_)
            · refine g_iconst (pc' := 332) O ⟨dL_orders_331, rfl⟩ (v := (0 : Int32)) rfl ?_
              obtain ⟨hn, E⟩ := ckz_of E
              cases E
              refine g_drop (wf := (WX2 ad cy 6 4 b0 b1)) (h := (r_13.2, r0, r1)) (List.range 37) rfl rfl (by decide) ?_
              exact hret _ _ _ _ _ (Nat.le_of_ble_eq_true rfl) (Nat.le_of_ble_eq_true rfl) ⟨dL_orders_332, rfl⟩ hn
            · refine g_aload_n (pc' := 287) O ⟨dL_orders_286, rfl⟩ (q := 0) rfl rfl ?_
              refine g_iload_n (pc' := 288) O ⟨dL_orders_287, rfl⟩ (q := 1) rfl rfl ?_
              refine g_aload_n (pc' := 289) O ⟨dL_orders_288, rfl⟩ (q := 2) rfl rfl ?_
              refine g_iload (pc' := 291) O ⟨dL_orders_289, rfl⟩ (q := 3) rfl ?_
              obtain ⟨r_17, c_18, E⟩ := bd_of E
              refine g_MSi (pc' := 294) O hN ⟨dL_orders_291, rfl⟩ (y := yL_code) (As := [.ref b0, .int (r1 (0 : Int32).toNatClampNeg)]) (st := [.int x1, .ref (ad 0)]) (put := (fun g => (r_13.2, g, r1, r2_2, r3_3, r4_10))) sub_X5_A0 (t_L_code l D cy hfl b0 c_18) kw_726 kw_24 kw_724 kw_725 hd_L_code ⟨Nat.le_of_ble_eq_true rfl, Nat.le_of_ble_eq_true rfl⟩ ⟨Nat.le_of_ble_eq_true rfl, Nat.le_of_ble_eq_true rfl⟩ rfl (Nat.le_of_ble_eq_true rfl) ?_
              show G l D X 13 (WX5 ad cy 6 4 24 24 6 b0 b1 b2 b3 b4) 6 72 (r_13.2, r0, r1, r2_2, r3_3, r4_10) 294 [(0, .ref (ad 0)), (1, .int x1), (2, .ref b0), (4, .int (r1 (0 : Int32).toNatClampNeg)), (9, .int r_4), (10, .int x10_6), (11, .int x11_9)] [.int r_17, .int x1, .ref (ad 0)]
              obtain ⟨z_22, c_20, e_21, E⟩ := hcatch_of E
              refine g_UXi (pc' := 297) O ⟨dL_orders_294, rfl⟩ (y := yX10_step) (As := [.int x1, .int r_17]) (st := []) (put := (fun g => (g, r0, r1, r2_2, r3_3, r4_10))) sub_X5_X (t_X10_step l D ad cy hfl (h := r_13.2) c_20) kw_962 kw_25 kw_959 kw_960 kw_961 rfl zX5_x hd_X10_step ⟨Nat.le_of_ble_eq_true rfl, Nat.le_of_ble_eq_true rfl⟩ ⟨Nat.le_of_ble_eq_true rfl, Nat.le_of_ble_eq_true rfl⟩ rfl (Nat.le_of_ble_eq_true rfl) (fun E1 c q => (by cases e_21 E1 c q)) (fun r_19 q => ?_)
              replace E := E r_19 q
              show G l D X 13 (WX5 ad cy 6 4 24 24 6 b0 b1 b2 b3 b4) 8 84 (r_19.2, r0, r1, r2_2, r3_3, r4_10) 297 [(0, .ref (ad 0)), (1, .int x1), (2, .ref b0), (4, .int (r1 (0 : Int32).toNatClampNeg)), (9, .int r_4), (10, .int x10_6), (11, .int x11_9)] [.int r_19.1]
              refine g_iload (pc' := 299) O ⟨dL_orders_297, rfl⟩ (q := 5) rfl ?_
              refine g_icmp_ne (pc' := 302) O ⟨dL_orders_299, rfl⟩ E (tgt := 331) (by decide) (fun E => ?_) (fun E => ?_)
              · refine g_iconst (pc' := 332) O ⟨dL_orders_331, rfl⟩ (v := (0 : Int32)) rfl ?_
                obtain ⟨hn, E⟩ := ckz_of E
                cases E
                refine g_drop (wf := (WX2 ad cy 6 4 b0 b1)) (h := (r_19.2, r0, r1)) (List.range 37) rfl rfl (by decide) ?_
                exact hret _ _ _ _ _ (Nat.le_of_ble_eq_true rfl) (Nat.le_of_ble_eq_true rfl) ⟨dL_orders_332, rfl⟩ hn
              · refine g_aload_n (pc' := 303) O ⟨dL_orders_302, rfl⟩ (q := 0) rfl rfl ?_
                refine g_iload_n (pc' := 304) O ⟨dL_orders_303, rfl⟩ (q := 1) rfl rfl ?_
                refine g_iload (pc' := 306) O ⟨dL_orders_304, rfl⟩ (q := 4) rfl ?_
                obtain ⟨z_26, c_24, e_25, E⟩ := hcatch_of E
                refine g_UXi (pc' := 309) O ⟨dL_orders_306, rfl⟩ (y := yX10_manyFar) (As := [.int x1, .int r_4]) (st := []) (put := (fun g => (g, r0, r1, r2_2, r3_3, r4_10))) sub_X5_X (t_X10_manyFar l D ad cy hfl (h := r_19.2) c_24) kw_971 kw_25 kw_968 kw_969 kw_970 rfl zX5_x hd_X10_manyFar ⟨Nat.le_of_ble_eq_true rfl, Nat.le_of_ble_eq_true rfl⟩ ⟨Nat.le_of_ble_eq_true rfl, Nat.le_of_ble_eq_true rfl⟩ rfl (Nat.le_of_ble_eq_true rfl) (fun E1 c q => (by cases e_25 E1 c q)) (fun r_23 q => ?_)
                replace E := E r_23 q
                show G l D X 13 (WX5 ad cy 6 4 24 24 6 b0 b1 b2 b3 b4) 10 96 (r_23.2, r0, r1, r2_2, r3_3, r4_10) 309 [(0, .ref (ad 0)), (1, .int x1), (2, .ref b0), (4, .int (r1 (0 : Int32).toNatClampNeg)), (9, .int r_4), (10, .int x10_6), (11, .int x11_9)] [.int r_23.1]
                refine g_iload (pc' := 311) O ⟨dL_orders_309, rfl⟩ (q := 6) rfl ?_
                refine g_icmp_ne (pc' := 314) O ⟨dL_orders_311, rfl⟩ E (tgt := 331) (by decide) (fun E => ?_) (fun E => ?_)
                · refine g_iconst (pc' := 332) O ⟨dL_orders_331, rfl⟩ (v := (0 : Int32)) rfl ?_
                  obtain ⟨hn, E⟩ := ckz_of E
                  cases E
                  refine g_drop (wf := (WX2 ad cy 6 4 b0 b1)) (h := (r_23.2, r0, r1)) (List.range 37) rfl rfl (by decide) ?_
                  exact hret _ _ _ _ _ (Nat.le_of_ble_eq_true rfl) (Nat.le_of_ble_eq_true rfl) ⟨dL_orders_332, rfl⟩ hn
                · refine g_aload_n (pc' := 315) O ⟨dL_orders_314, rfl⟩ (q := 0) rfl rfl ?_
                  refine g_iload_n (pc' := 316) O ⟨dL_orders_315, rfl⟩ (q := 1) rfl rfl ?_
                  refine g_bipush (pc' := 318) O ⟨dL_orders_316, rfl⟩ (v := (20 : Int32)) rfl ?_
                  refine g_iload (pc' := 320) O ⟨dL_orders_318, rfl⟩ (q := 4) rfl ?_
                  refine g_iadd (pc' := 321) O ⟨dL_orders_320, rfl⟩ ?_
                  obtain ⟨z_30, c_28, e_29, E⟩ := hcatch_of E
                  refine g_UXi (pc' := 324) O ⟨dL_orders_321, rfl⟩ (y := yX10_manyFar) (As := [.int x1, .int ((20 : Int32) + r_4)]) (st := []) (put := (fun g => (g, r0, r1, r2_2, r3_3, r4_10))) sub_X5_X (t_X10_manyFar l D ad cy hfl (h := r_23.2) c_28) kw_971 kw_25 kw_968 kw_969 kw_970 rfl zX5_x hd_X10_manyFar ⟨Nat.le_of_ble_eq_true rfl, Nat.le_of_ble_eq_true rfl⟩ ⟨Nat.le_of_ble_eq_true rfl, Nat.le_of_ble_eq_true rfl⟩ rfl (Nat.le_of_ble_eq_true rfl) (fun E1 c q => (by cases e_29 E1 c q)) (fun r_27 q => ?_)
                  replace E := E r_27 q
                  show G l D X 13 (WX5 ad cy 6 4 24 24 6 b0 b1 b2 b3 b4) 12 108 (r_27.2, r0, r1, r2_2, r3_3, r4_10) 324 [(0, .ref (ad 0)), (1, .int x1), (2, .ref b0), (4, .int (r1 (0 : Int32).toNatClampNeg)), (9, .int r_4), (10, .int x10_6), (11, .int x11_9)] [.int r_27.1]
                  refine g_if_ne (pc' := 327) O ⟨dL_orders_324, rfl⟩ E (tgt := 331) (by decide) (fun E => ?_) (fun E => ?_)
                  · refine g_iconst (pc' := 332) O ⟨dL_orders_331, rfl⟩ (v := (0 : Int32)) rfl ?_
                    obtain ⟨hn, E⟩ := ckz_of E
                    cases E
                    refine g_drop (wf := (WX2 ad cy 6 4 b0 b1)) (h := (r_27.2, r0, r1)) (List.range 37) rfl rfl (by decide) ?_
                    exact hret _ _ _ _ _ (Nat.le_of_ble_eq_true rfl) (Nat.le_of_ble_eq_true rfl) ⟨dL_orders_332, rfl⟩ hn
                  · refine g_iconst (pc' := 328) O ⟨dL_orders_327, rfl⟩ (v := (1 : Int32)) rfl ?_
                    refine g_goto (pc' := 331) O ⟨dL_orders_328, rfl⟩ (tgt := 332) (by decide) ?_
                    obtain ⟨hn, E⟩ := ckz_of E
                    cases E
                    refine g_drop (wf := (WX2 ad cy 6 4 b0 b1)) (h := (r_27.2, r0, r1)) (List.range 37) rfl rfl (by decide) ?_
                    exact hret _ _ _ _ _ (Nat.le_of_ble_eq_true rfl) (Nat.le_of_ble_eq_true rfl) ⟨dL_orders_332, rfl⟩ hn
          · intro k270 hk270 E
            refine g_sub (lv' := [(0, .ref (ad 0)), (1, .int x1), (2, .ref b0), (4, .int (r1 (0 : Int32).toNatClampNeg)), (5, .ref b2), (6, .ref b3), (7, .ref b4), (8, .int z_1), (9, .int r_4), (10, .int x10_6), (11, .int (0 : Int32)), (12, .int (1 : Int32))]) [1, 2, 3, 4, 5, 6, 7, 8, 9, 10, 11, 0] rfl ?_
            refine fx3_of (P := fun (x11_31 : Int32) (x12_32 : Int32) (r4_33 : Row) => G l D X 13 (WX5 ad cy 6 4 24 24 6 b0 b1 b2 b3 b4) 4 60 (h, r0, r1, r2_2, r3_3, r4_33) 224 [(0, .ref (ad 0)), (1, .int x1), (2, .ref b0), (4, .int (r1 (0 : Int32).toNatClampNeg)), (5, .ref b2), (6, .ref b3), (7, .ref b4), (8, .int z_1), (9, .int r_4), (10, .int x10_6), (11, .int x11_31), (12, .int x12_32)] []) ?_ _ _ _ _ E
            intro self ih224 x11_31 x12_32 r4_33 E
            show G l D X 13 (WX5 ad cy 6 4 24 24 6 b0 b1 b2 b3 b4) 4 60 (h, r0, r1, r2_2, r3_3, r4_33) 224 [(0, .ref (ad 0)), (1, .int x1), (2, .ref b0), (4, .int (r1 (0 : Int32).toNatClampNeg)), (5, .ref b2), (6, .ref b3), (7, .ref b4), (8, .int z_1), (9, .int r_4), (10, .int x10_6), (11, .int x11_31), (12, .int x12_32)] []
            unfold L_L_orders_224 at E
            refine g_iload (pc' := 226) O ⟨dL_orders_224, rfl⟩ (q := 11) rfl ?_
            refine g_if_eq (pc' := 229) O ⟨dL_orders_226, rfl⟩ E (tgt := 270) (by decide) (fun E => ?_) (fun E => ?_)
            · refine g_sub (lv' := [(0, .ref (ad 0)), (1, .int x1), (2, .ref b0), (4, .int (r1 (0 : Int32).toNatClampNeg)), (9, .int r_4), (10, .int x10_6), (11, .int x11_31)]) [0, 1, 2, 3, 8, 9, 10] rfl ?_
              exact hk270 _ _ E
            · refine g_iload (pc' := 231) O ⟨dL_orders_229, rfl⟩ (q := 10) rfl ?_
              refine g_iload_n (pc' := 232) O ⟨dL_orders_231, rfl⟩ (q := 1) rfl rfl ?_
              refine g_aload (pc' := 234) O ⟨dL_orders_232, rfl⟩ (q := 6) rfl ?_
              refine g_iload (pc' := 236) O ⟨dL_orders_234, rfl⟩ (q := 3) rfl ?_
              refine g_aload (pc' := 238) O ⟨dL_orders_236, rfl⟩ (q := 4) rfl ?_
              refine g_aload (pc' := 240) O ⟨dL_orders_238, rfl⟩ (q := 5) rfl ?_
              refine g_iload (pc' := 242) O ⟨dL_orders_240, rfl⟩ (q := 7) rfl ?_
              obtain ⟨r_34, c_35, E⟩ := bd_of E
              refine g_MSi (pc' := 245) O hN ⟨dL_orders_242, rfl⟩ (y := yL_distance) (As := [.int x1, .ref b4, .int (r1 (0 : Int32).toNatClampNeg), .ref b2, .ref b3, .int z_1]) (st := [.int x11_31]) (put := (fun g => (h, r0, r1, g.2.1, g.2.2, g.1))) sub_X5_A4_2_3 (t_L_distance l D cy hfl b4 b2 b3 c_35) kw_895 kw_24 kw_893 kw_894 hd_L_distance ⟨Nat.le_of_ble_eq_true rfl, Nat.le_of_ble_eq_true rfl⟩ ⟨Nat.le_of_ble_eq_true rfl, Nat.le_of_ble_eq_true rfl⟩ rfl (Nat.le_of_ble_eq_true rfl) ?_
              show G l D X 13 (WX5 ad cy 6 4 24 24 6 b0 b1 b2 b3 b4) 4 60 (h, r0, r1, r2_2, r3_3, r4_33) 245 [(0, .ref (ad 0)), (1, .int x1), (2, .ref b0), (4, .int (r1 (0 : Int32).toNatClampNeg)), (5, .ref b2), (6, .ref b3), (7, .ref b4), (8, .int z_1), (9, .int r_4), (10, .int x10_6), (11, .int x11_31), (12, .int x12_32)] [.int r_34, .int x11_31]
              refine g_iload (pc' := 247) O ⟨dL_orders_245, rfl⟩ (q := 8) rfl ?_
              refine jn1_of (P := fun (z_36 : Int32) => G l D X 13 (WX5 ad cy 6 4 24 24 6 b0 b1 b2 b3 b4) 4 60 (h, r0, r1, r2_2, r3_3, r4_33) 255 [(0, .ref (ad 0)), (1, .int x1), (2, .ref b0), (4, .int (r1 (0 : Int32).toNatClampNeg)), (5, .ref b2), (6, .ref b3), (7, .ref b4), (8, .int z_1), (9, .int r_4), (10, .int x10_6)] [.int z_36, .int x11_31]) E ?_ ?_
              · intro z_36 E
                show G l D X 13 (WX5 ad cy 6 4 24 24 6 b0 b1 b2 b3 b4) 4 60 (h, r0, r1, r2_2, r3_3, r4_33) 255 [(0, .ref (ad 0)), (1, .int x1), (2, .ref b0), (4, .int (r1 (0 : Int32).toNatClampNeg)), (5, .ref b2), (6, .ref b3), (7, .ref b4), (8, .int z_1), (9, .int r_4), (10, .int x10_6)] [.int z_36, .int x11_31]
                refine g_iadd (pc' := 256) O ⟨dL_orders_255, rfl⟩ ?_
                refine g_nm E (fun y11_37 E => ?_)
                refine g_istore (pc' := 258) O ⟨dL_orders_256, rfl⟩ (lv' := [(11, .int y11_37), (0, .ref (ad 0)), (1, .int x1), (2, .ref b0), (4, .int (r1 (0 : Int32).toNatClampNeg)), (5, .ref b2), (6, .ref b3), (7, .ref b4), (8, .int z_1), (9, .int r_4), (10, .int x10_6)]) (by decide) rfl ?_
                refine g_aload (pc' := 260) O ⟨dL_orders_258, rfl⟩ (q := 7) rfl ?_
                refine g_iload (pc' := 262) O ⟨dL_orders_260, rfl⟩ (q := 4) rfl ?_
                obtain ⟨r_38, c_39, E⟩ := bd_of E
                refine g_MSi (pc' := 265) O hN ⟨dL_orders_262, rfl⟩ (y := yL_next) (As := [.ref b4, .int (r1 (0 : Int32).toNatClampNeg)]) (st := []) (put := (fun g => (h, r0, r1, r2_2, r3_3, g))) sub_X5_A4 (t_L_next l D cy hfl b4 c_39) kw_553 kw_24 kw_551 kw_552 hd_L_next ⟨Nat.le_of_ble_eq_true rfl, Nat.le_of_ble_eq_true rfl⟩ ⟨Nat.le_of_ble_eq_true rfl, Nat.le_of_ble_eq_true rfl⟩ rfl (Nat.le_of_ble_eq_true rfl) ?_
                show G l D X 13 (WX5 ad cy 6 4 24 24 6 b0 b1 b2 b3 b4) 4 60 (h, r0, r1, r2_2, r3_3, r_38.2) 265 [(11, .int y11_37), (0, .ref (ad 0)), (1, .int x1), (2, .ref b0), (4, .int (r1 (0 : Int32).toNatClampNeg)), (5, .ref b2), (6, .ref b3), (7, .ref b4), (8, .int z_1), (9, .int r_4), (10, .int x10_6)] [.int r_38.1]
                refine g_istore (pc' := 267) O ⟨dL_orders_265, rfl⟩ (lv' := [(12, .int r_38.1), (11, .int y11_37), (0, .ref (ad 0)), (1, .int x1), (2, .ref b0), (4, .int (r1 (0 : Int32).toNatClampNeg)), (5, .ref b2), (6, .ref b3), (7, .ref b4), (8, .int z_1), (9, .int r_4), (10, .int x10_6)]) (by decide) rfl ?_
                refine g_goto (pc' := 270) O ⟨dL_orders_267, rfl⟩ (tgt := 224) (by decide) ?_
                refine g_sub (lv' := [(0, .ref (ad 0)), (1, .int x1), (2, .ref b0), (4, .int (r1 (0 : Int32).toNatClampNeg)), (5, .ref b2), (6, .ref b3), (7, .ref b4), (8, .int z_1), (9, .int r_4), (10, .int x10_6), (11, .int y11_37), (12, .int r_38.1)]) [2, 3, 4, 5, 6, 7, 8, 9, 10, 11, 1, 0] rfl ?_
                exact ih224 _ _ _ E
              · intro k255 hk255 E
                refine g_icmp_ne (pc' := 250) O ⟨dL_orders_247, rfl⟩ E (tgt := 254) (by decide) (fun E => ?_) (fun E => ?_)
                · refine g_iconst (pc' := 255) O ⟨dL_orders_254, rfl⟩ (v := (0 : Int32)) rfl ?_
                  refine g_sub (lv' := [(0, .ref (ad 0)), (1, .int x1), (2, .ref b0), (4, .int (r1 (0 : Int32).toNatClampNeg)), (5, .ref b2), (6, .ref b3), (7, .ref b4), (8, .int z_1), (9, .int r_4), (10, .int x10_6)]) [0, 1, 2, 3, 4, 5, 6, 7, 8, 9] rfl ?_
                  exact hk255 _ E
                · refine g_iconst (pc' := 251) O ⟨dL_orders_250, rfl⟩ (v := (1 : Int32)) rfl ?_
                  refine g_goto (pc' := 254) O ⟨dL_orders_251, rfl⟩ (tgt := 255) (by decide) ?_
                  refine g_sub (lv' := [(0, .ref (ad 0)), (1, .int x1), (2, .ref b0), (4, .int (r1 (0 : Int32).toNatClampNeg)), (5, .ref b2), (6, .ref b3), (7, .ref b4), (8, .int z_1), (9, .int r_4), (10, .int x10_6)]) [0, 1, 2, 3, 4, 5, 6, 7, 8, 9] rfl ?_
                  exact hk255 _ E
        · intro k221 hk221 E
          refine g_sub (lv' := [(0, .ref (ad 0)), (1, .int x1), (2, .ref b0), (4, .int (r1 (0 : Int32).toNatClampNeg)), (5, .ref b2), (6, .ref b3), (7, .ref b4), (8, .int z_1), (9, .int r_4), (10, .int x10_6), (11, .int (0 : Int32)), (12, .int (0 : Int32))]) [2, 3, 4, 5, 6, 7, 8, 9, 10, 11, 1, 0] rfl ?_
          refine fx2_of (P := fun (x12_40 : Int32) (r4_41 : Row) => G l D X 13 (WX5 ad cy 6 4 24 24 6 b0 b1 b2 b3 b4) 4 60 (h, r0, r1, r2_2, r3_3, r4_41) 201 [(0, .ref (ad 0)), (1, .int x1), (2, .ref b0), (4, .int (r1 (0 : Int32).toNatClampNeg)), (5, .ref b2), (6, .ref b3), (7, .ref b4), (8, .int z_1), (9, .int r_4), (10, .int x10_6), (11, .int (0 : Int32)), (12, .int x12_40)] []) ?_ _ _ _ E
          intro self ih201 x12_40 r4_41 E
          show G l D X 13 (WX5 ad cy 6 4 24 24 6 b0 b1 b2 b3 b4) 4 60 (h, r0, r1, r2_2, r3_3, r4_41) 201 [(0, .ref (ad 0)), (1, .int x1), (2, .ref b0), (4, .int (r1 (0 : Int32).toNatClampNeg)), (5, .ref b2), (6, .ref b3), (7, .ref b4), (8, .int z_1), (9, .int r_4), (10, .int x10_6), (11, .int (0 : Int32)), (12, .int x12_40)] []
          unfold L_L_orders_201 at E
          refine g_iload (pc' := 203) O ⟨dL_orders_201, rfl⟩ (q := 11) rfl ?_
          refine g_iload (pc' := 205) O ⟨dL_orders_203, rfl⟩ (q := 3) rfl ?_
          refine g_icmp_ge (pc' := 208) O ⟨dL_orders_205, rfl⟩ E (tgt := 221) (by decide) (fun E => ?_) (fun E => ?_)
          · refine g_sub (lv' := [(0, .ref (ad 0)), (1, .int x1), (2, .ref b0), (4, .int (r1 (0 : Int32).toNatClampNeg)), (5, .ref b2), (6, .ref b3), (7, .ref b4), (8, .int z_1), (9, .int r_4), (10, .int x10_6), (11, .int (0 : Int32))]) [0, 1, 2, 3, 4, 5, 6, 7, 8, 9, 10] rfl ?_
            exact hk221 _ E
          · refine g_aload (pc' := 210) O ⟨dL_orders_208, rfl⟩ (q := 6) rfl ?_
            refine g_iload (pc' := 212) O ⟨dL_orders_210, rfl⟩ (q := 11) rfl ?_
            refine g_iload (pc' := 214) O ⟨dL_orders_212, rfl⟩ (q := 11) rfl ?_
            refine g_iast (pc' := 215) O ⟨dL_orders_214, rfl⟩ zX5_4 zsX5_4 E (fun E => ?_)
            refine g_nmr (Go := fun (r4_42 : Row) => G l D X 13 (WX5 ad cy 6 4 24 24 6 b0 b1 b2 b3 b4) 4 60 (h, r0, r1, r2_2, r3_3, r4_42) 215 [(0, .ref (ad 0)), (1, .int x1), (2, .ref b0), (4, .int (r1 (0 : Int32).toNatClampNeg)), (5, .ref b2), (6, .ref b3), (7, .ref b4), (8, .int z_1), (9, .int r_4), (10, .int x10_6), (11, .int (0 : Int32)), (12, .int x12_40)] []) E (fun r4_42 E => ?_)
            show G l D X 13 (WX5 ad cy 6 4 24 24 6 b0 b1 b2 b3 b4) 4 60 (h, r0, r1, r2_2, r3_3, r4_42) 215 [(0, .ref (ad 0)), (1, .int x1), (2, .ref b0), (4, .int (r1 (0 : Int32).toNatClampNeg)), (5, .ref b2), (6, .ref b3), (7, .ref b4), (8, .int z_1), (9, .int r_4), (10, .int x10_6), (11, .int (0 : Int32)), (12, .int x12_40)] []
            refine g_iinc (pc' := 218) O ⟨dL_orders_215, rfl⟩ (q := 11) (v := x12_40 + (1 : Int32)) (lv' := [(12, .int (x12_40 + (1 : Int32))), (0, .ref (ad 0)), (1, .int x1), (2, .ref b0), (4, .int (r1 (0 : Int32).toNatClampNeg)), (5, .ref b2), (6, .ref b3), (7, .ref b4), (8, .int z_1), (9, .int r_4), (10, .int x10_6), (11, .int (0 : Int32))]) rfl rfl (by decide) rfl ?_
            refine g_goto (pc' := 221) O ⟨dL_orders_218, rfl⟩ (tgt := 201) (by decide) ?_
            refine g_sub (lv' := [(0, .ref (ad 0)), (1, .int x1), (2, .ref b0), (4, .int (r1 (0 : Int32).toNatClampNeg)), (5, .ref b2), (6, .ref b3), (7, .ref b4), (8, .int z_1), (9, .int r_4), (10, .int x10_6), (11, .int (0 : Int32)), (12, .int (x12_40 + (1 : Int32)))]) [1, 2, 3, 4, 5, 6, 7, 8, 9, 10, 11, 0] rfl ?_
            exact ih201 _ _ E
      · intro k195 hk195 E
        refine g_sub (lv' := [(0, .ref (ad 0)), (1, .int x1), (2, .ref b0), (4, .int (r1 (0 : Int32).toNatClampNeg)), (5, .ref b2), (6, .ref b3), (7, .ref b4), (8, .int z_1), (9, .int r_4), (10, .int (-1 : Int32)), (11, .int (0 : Int32))]) [4, 5, 6, 7, 8, 9, 10, 3, 2, 1, 0] rfl ?_
        refine fx3_of (P := fun (x10_43 : Int32) (x11_44 : Int32) (r4_45 : Row) => G l D X 13 (WX5 ad cy 6 4 24 24 6 b0 b1 b2 b3 b4) 4 60 (h, r0, r1, r2_2, r3_3, r4_45) 78 [(0, .ref (ad 0)), (1, .int x1), (2, .ref b0), (4, .int (r1 (0 : Int32).toNatClampNeg)), (5, .ref b2), (6, .ref b3), (7, .ref b4), (8, .int z_1), (9, .int r_4), (10, .int x10_43), (11, .int x11_44)] []) ?_ _ _ _ _ E
        intro self ih78 x10_43 x11_44 r4_45 E
        show G l D X 13 (WX5 ad cy 6 4 24 24 6 b0 b1 b2 b3 b4) 4 60 (h, r0, r1, r2_2, r3_3, r4_45) 78 [(0, .ref (ad 0)), (1, .int x1), (2, .ref b0), (4, .int (r1 (0 : Int32).toNatClampNeg)), (5, .ref b2), (6, .ref b3), (7, .ref b4), (8, .int z_1), (9, .int r_4), (10, .int x10_43), (11, .int x11_44)] []
        unfold L_L_orders_78 at E
        refine g_iload (pc' := 80) O ⟨dL_orders_78, rfl⟩ (q := 10) rfl ?_
        refine g_iload_n (pc' := 81) O ⟨dL_orders_80, rfl⟩ (q := 1) rfl rfl ?_
        refine g_iload (pc' := 83) O ⟨dL_orders_81, rfl⟩ (q := 3) rfl ?_
        obtain ⟨r_46, c_47, E⟩ := bd_of E
        refine g_MSi (pc' := 86) O hN ⟨dL_orders_83, rfl⟩ (y := yL_steps) (As := [.int x1, .int (r1 (0 : Int32).toNatClampNeg)]) (st := [.int x11_44]) (put := (fun g => (h, r0, r1, r2_2, r3_3, r4_45))) sub_X5_A (t_L_steps l D cy hfl c_47) kw_880 kw_24 kw_878 kw_879 hd_L_steps ⟨Nat.le_of_ble_eq_true rfl, Nat.le_of_ble_eq_true rfl⟩ ⟨Nat.le_of_ble_eq_true rfl, Nat.le_of_ble_eq_true rfl⟩ rfl (Nat.le_of_ble_eq_true rfl) ?_
        show G l D X 13 (WX5 ad cy 6 4 24 24 6 b0 b1 b2 b3 b4) 4 60 (h, r0, r1, r2_2, r3_3, r4_45) 86 [(0, .ref (ad 0)), (1, .int x1), (2, .ref b0), (4, .int (r1 (0 : Int32).toNatClampNeg)), (5, .ref b2), (6, .ref b3), (7, .ref b4), (8, .int z_1), (9, .int r_4), (10, .int x10_43), (11, .int x11_44)] [.int r_46, .int x11_44]
        refine g_icmp_ge (pc' := 89) O ⟨dL_orders_86, rfl⟩ E (tgt := 195) (by decide) (fun E => ?_) (fun E => ?_)
        · refine g_sub (lv' := [(0, .ref (ad 0)), (1, .int x1), (2, .ref b0), (4, .int (r1 (0 : Int32).toNatClampNeg)), (5, .ref b2), (6, .ref b3), (7, .ref b4), (8, .int z_1), (9, .int r_4), (10, .int x10_43)]) [0, 1, 2, 3, 4, 5, 6, 7, 8, 9] rfl ?_
          exact hk195 _ _ E
        · refine g_iconst (pc' := 90) O ⟨dL_orders_89, rfl⟩ (v := (0 : Int32)) rfl ?_
          refine g_istore (pc' := 92) O ⟨dL_orders_90, rfl⟩ (lv' := [(12, .int (0 : Int32)), (0, .ref (ad 0)), (1, .int x1), (2, .ref b0), (4, .int (r1 (0 : Int32).toNatClampNeg)), (5, .ref b2), (6, .ref b3), (7, .ref b4), (8, .int z_1), (9, .int r_4), (10, .int x10_43), (11, .int x11_44)]) (by decide) rfl ?_
          refine jn1_of (P := fun (r4_48 : Row) => G l D X 13 (WX5 ad cy 6 4 24 24 6 b0 b1 b2 b3 b4) 4 60 (h, r0, r1, r2_2, r3_3, r4_48) 114 [(0, .ref (ad 0)), (1, .int x1), (2, .ref b0), (4, .int (r1 (0 : Int32).toNatClampNeg)), (5, .ref b2), (6, .ref b3), (7, .ref b4), (8, .int z_1), (9, .int r_4), (10, .int x10_43), (11, .int x11_44)] []) E ?_ ?_
          · intro r4_48 E
            show G l D X 13 (WX5 ad cy 6 4 24 24 6 b0 b1 b2 b3 b4) 4 60 (h, r0, r1, r2_2, r3_3, r4_48) 114 [(0, .ref (ad 0)), (1, .int x1), (2, .ref b0), (4, .int (r1 (0 : Int32).toNatClampNeg)), (5, .ref b2), (6, .ref b3), (7, .ref b4), (8, .int z_1), (9, .int r_4), (10, .int x10_43), (11, .int x11_44)] []
            refine g_iload_n (pc' := 115) O ⟨dL_orders_114, rfl⟩ (q := 1) rfl rfl ?_
            refine g_iload (pc' := 117) O ⟨dL_orders_115, rfl⟩ (q := 10) rfl ?_
            refine g_aload (pc' := 119) O ⟨dL_orders_117, rfl⟩ (q := 6) rfl ?_
            refine g_iload (pc' := 121) O ⟨dL_orders_119, rfl⟩ (q := 3) rfl ?_
            obtain ⟨r_49, c_50, E⟩ := bd_of E
            refine g_MSi (pc' := 124) O hN ⟨dL_orders_121, rfl⟩ (y := yL_moves) (As := [.int x1, .int x11_44, .ref b4, .int (r1 (0 : Int32).toNatClampNeg)]) (st := []) (put := (fun g => (h, r0, r1, r2_2, r3_3, g))) sub_X5_A4 (t_L_moves l D cy hfl b4 c_50) kw_886 kw_24 kw_884 kw_885 hd_L_moves ⟨Nat.le_of_ble_eq_true rfl, Nat.le_of_ble_eq_true rfl⟩ ⟨Nat.le_of_ble_eq_true rfl, Nat.le_of_ble_eq_true rfl⟩ rfl (Nat.le_of_ble_eq_true rfl) ?_
            show G l D X 13 (WX5 ad cy 6 4 24 24 6 b0 b1 b2 b3 b4) 4 60 (h, r0, r1, r2_2, r3_3, r_49.2) 124 [(0, .ref (ad 0)), (1, .int x1), (2, .ref b0), (4, .int (r1 (0 : Int32).toNatClampNeg)), (5, .ref b2), (6, .ref b3), (7, .ref b4), (8, .int z_1), (9, .int r_4), (10, .int x10_43), (11, .int x11_44)] [.int r_49.1]
            refine jn1_of (P := fun (z_51 : Int32) => G l D X 13 (WX5 ad cy 6 4 24 24 6 b0 b1 b2 b3 b4) 4 60 (h, r0, r1, r2_2, r3_3, r_49.2) 151 [(0, .ref (ad 0)), (1, .int x1), (2, .ref b0), (4, .int (r1 (0 : Int32).toNatClampNeg)), (5, .ref b2), (6, .ref b3), (7, .ref b4), (8, .int z_1), (9, .int r_4), (10, .int x10_43), (11, .int x11_44)] [.int z_51]) E ?_ ?_
            · intro z_51 E
              show G l D X 13 (WX5 ad cy 6 4 24 24 6 b0 b1 b2 b3 b4) 4 60 (h, r0, r1, r2_2, r3_3, r_49.2) 151 [(0, .ref (ad 0)), (1, .int x1), (2, .ref b0), (4, .int (r1 (0 : Int32).toNatClampNeg)), (5, .ref b2), (6, .ref b3), (7, .ref b4), (8, .int z_1), (9, .int r_4), (10, .int x10_43), (11, .int x11_44)] [.int z_51]
              refine g_istore (pc' := 153) O ⟨dL_orders_151, rfl⟩ (lv' := [(12, .int z_51), (0, .ref (ad 0)), (1, .int x1), (2, .ref b0), (4, .int (r1 (0 : Int32).toNatClampNeg)), (5, .ref b2), (6, .ref b3), (7, .ref b4), (8, .int z_1), (9, .int r_4), (10, .int x10_43), (11, .int x11_44)]) (by decide) rfl ?_
              refine g_iload (pc' := 155) O ⟨dL_orders_153, rfl⟩ (q := 0) rfl ?_
              refine g_if_eq (pc' := 158) O ⟨dL_orders_155, rfl⟩ E (tgt := 185) (by decide) (fun E => ?_) (fun E => ?_)
              · refine g_iload (pc' := 187) O ⟨dL_orders_185, rfl⟩ (q := 10) rfl ?_
                refine g_istore (pc' := 189) O ⟨dL_orders_187, rfl⟩ (lv' := [(10, .int x10_43), (12, .int z_51), (0, .ref (ad 0)), (1, .int x1), (2, .ref b0), (4, .int (r1 (0 : Int32).toNatClampNeg)), (5, .ref b2), (6, .ref b3), (7, .ref b4), (8, .int z_1), (9, .int r_4), (11, .int x11_44)]) (by decide) rfl ?_
                refine g_iinc (pc' := 192) O ⟨dL_orders_189, rfl⟩ (q := 11) (v := x11_44 + (1 : Int32)) (lv' := [(11, .int (x11_44 + (1 : Int32))), (10, .int x10_43), (12, .int z_51), (0, .ref (ad 0)), (1, .int x1), (2, .ref b0), (4, .int (r1 (0 : Int32).toNatClampNeg)), (5, .ref b2), (6, .ref b3), (7, .ref b4), (8, .int z_1), (9, .int r_4)]) rfl rfl (by decide) rfl ?_
                refine g_goto (pc' := 195) O ⟨dL_orders_192, rfl⟩ (tgt := 78) (by decide) ?_
                refine g_sub (lv' := [(0, .ref (ad 0)), (1, .int x1), (2, .ref b0), (4, .int (r1 (0 : Int32).toNatClampNeg)), (5, .ref b2), (6, .ref b3), (7, .ref b4), (8, .int z_1), (9, .int r_4), (10, .int x10_43), (11, .int (x11_44 + (1 : Int32)))]) [3, 4, 5, 6, 7, 8, 9, 10, 11, 1, 0] rfl ?_
                exact ih78 _ _ _ E
              · refine g_iload (pc' := 160) O ⟨dL_orders_158, rfl⟩ (q := 10) rfl ?_
                refine jn0_of (P := G l D X 13 (WX5 ad cy 6 4 24 24 6 b0 b1 b2 b3 b4) 4 60 (h, r0, r1, r2_2, r3_3, r_49.2) 175 [(0, .ref (ad 0)), (1, .int x1), (2, .ref b0), (4, .int (r1 (0 : Int32).toNatClampNeg)), (5, .ref b2), (6, .ref b3), (7, .ref b4), (8, .int z_1), (9, .int r_4), (11, .int x11_44)] []) E ?_ ?_
                · intro E
                  show G l D X 13 (WX5 ad cy 6 4 24 24 6 b0 b1 b2 b3 b4) 4 60 (h, r0, r1, r2_2, r3_3, r_49.2) 175 [(0, .ref (ad 0)), (1, .int x1), (2, .ref b0), (4, .int (r1 (0 : Int32).toNatClampNeg)), (5, .ref b2), (6, .ref b3), (7, .ref b4), (8, .int z_1), (9, .int r_4), (11, .int x11_44)] []
                  refine g_aload (pc' := 177) O ⟨dL_orders_175, rfl⟩ (q := 6) rfl ?_
                  refine g_iload (pc' := 179) O ⟨dL_orders_177, rfl⟩ (q := 3) rfl ?_
                  obtain ⟨r_52, c_53, E⟩ := bd_of E
                  refine g_MSi (pc' := 182) O hN ⟨dL_orders_179, rfl⟩ (y := yL_code) (As := [.ref b4, .int (r1 (0 : Int32).toNatClampNeg)]) (st := []) (put := (fun g => (h, r0, r1, r2_2, r3_3, g))) sub_X5_A4 (t_L_code l D cy hfl b4 c_53) kw_726 kw_24 kw_724 kw_725 hd_L_code ⟨Nat.le_of_ble_eq_true rfl, Nat.le_of_ble_eq_true rfl⟩ ⟨Nat.le_of_ble_eq_true rfl, Nat.le_of_ble_eq_true rfl⟩ rfl (Nat.le_of_ble_eq_true rfl) ?_
                  show G l D X 13 (WX5 ad cy 6 4 24 24 6 b0 b1 b2 b3 b4) 4 60 (h, r0, r1, r2_2, r3_3, r_49.2) 182 [(0, .ref (ad 0)), (1, .int x1), (2, .ref b0), (4, .int (r1 (0 : Int32).toNatClampNeg)), (5, .ref b2), (6, .ref b3), (7, .ref b4), (8, .int z_1), (9, .int r_4), (11, .int x11_44)] [.int r_52]
                  refine g_goto (pc' := 185) O ⟨dL_orders_182, rfl⟩ (tgt := 187) (by decide) ?_
                  refine g_istore (pc' := 189) O ⟨dL_orders_187, rfl⟩ (lv' := [(10, .int r_52), (0, .ref (ad 0)), (1, .int x1), (2, .ref b0), (4, .int (r1 (0 : Int32).toNatClampNeg)), (5, .ref b2), (6, .ref b3), (7, .ref b4), (8, .int z_1), (9, .int r_4), (11, .int x11_44)]) (by decide) rfl ?_
                  refine g_iinc (pc' := 192) O ⟨dL_orders_189, rfl⟩ (q := 10) (v := x11_44 + (1 : Int32)) (lv' := [(11, .int (x11_44 + (1 : Int32))), (10, .int r_52), (0, .ref (ad 0)), (1, .int x1), (2, .ref b0), (4, .int (r1 (0 : Int32).toNatClampNeg)), (5, .ref b2), (6, .ref b3), (7, .ref b4), (8, .int z_1), (9, .int r_4)]) rfl rfl (by decide) rfl ?_
                  refine g_goto (pc' := 195) O ⟨dL_orders_192, rfl⟩ (tgt := 78) (by decide) ?_
                  refine g_sub (lv' := [(0, .ref (ad 0)), (1, .int x1), (2, .ref b0), (4, .int (r1 (0 : Int32).toNatClampNeg)), (5, .ref b2), (6, .ref b3), (7, .ref b4), (8, .int z_1), (9, .int r_4), (10, .int r_52), (11, .int (x11_44 + (1 : Int32)))]) [2, 3, 4, 5, 6, 7, 8, 9, 10, 1, 0] rfl ?_
                  exact ih78 _ _ _ E
                · intro k175 hk175 E
                  refine g_if_lt (pc' := 163) O ⟨dL_orders_160, rfl⟩ E (tgt := 175) (by decide) (fun E => ?_) (fun E => ?_)
                  · refine g_sub (lv' := [(0, .ref (ad 0)), (1, .int x1), (2, .ref b0), (4, .int (r1 (0 : Int32).toNatClampNeg)), (5, .ref b2), (6, .ref b3), (7, .ref b4), (8, .int z_1), (9, .int r_4), (11, .int x11_44)]) [1, 2, 3, 4, 5, 6, 7, 8, 9, 11] rfl ?_
                    exact hk175 E
                  · refine g_aload (pc' := 165) O ⟨dL_orders_163, rfl⟩ (q := 7) rfl ?_
                    refine g_iload (pc' := 167) O ⟨dL_orders_165, rfl⟩ (q := 4) rfl ?_
                    obtain ⟨r_54, c_55, E⟩ := bd_of E
                    refine g_MSi (pc' := 170) O hN ⟨dL_orders_167, rfl⟩ (y := yL_code) (As := [.ref b4, .int (r1 (0 : Int32).toNatClampNeg)]) (st := []) (put := (fun g => (h, r0, r1, r2_2, r3_3, g))) sub_X5_A4 (t_L_code l D cy hfl b4 c_55) kw_726 kw_24 kw_724 kw_725 hd_L_code ⟨Nat.le_of_ble_eq_true rfl, Nat.le_of_ble_eq_true rfl⟩ ⟨Nat.le_of_ble_eq_true rfl, Nat.le_of_ble_eq_true rfl⟩ rfl (Nat.le_of_ble_eq_true rfl) ?_
                    show G l D X 13 (WX5 ad cy 6 4 24 24 6 b0 b1 b2 b3 b4) 4 60 (h, r0, r1, r2_2, r3_3, r_49.2) 170 [(12, .int z_51), (0, .ref (ad 0)), (1, .int x1), (2, .ref b0), (4, .int (r1 (0 : Int32).toNatClampNeg)), (5, .ref b2), (6, .ref b3), (7, .ref b4), (8, .int z_1), (9, .int r_4), (10, .int x10_43), (11, .int x11_44)] [.int r_54]
                    refine g_iload (pc' := 172) O ⟨dL_orders_170, rfl⟩ (q := 10) rfl ?_
                    refine g_icmp_ge (pc' := 175) O ⟨dL_orders_172, rfl⟩ E (tgt := 185) (by decide) (fun E => ?_) (fun E => ?_)
                    · refine g_iload (pc' := 187) O ⟨dL_orders_185, rfl⟩ (q := 10) rfl ?_
                      refine g_istore (pc' := 189) O ⟨dL_orders_187, rfl⟩ (lv' := [(10, .int x10_43), (12, .int z_51), (0, .ref (ad 0)), (1, .int x1), (2, .ref b0), (4, .int (r1 (0 : Int32).toNatClampNeg)), (5, .ref b2), (6, .ref b3), (7, .ref b4), (8, .int z_1), (9, .int r_4), (11, .int x11_44)]) (by decide) rfl ?_
                      refine g_iinc (pc' := 192) O ⟨dL_orders_189, rfl⟩ (q := 11) (v := x11_44 + (1 : Int32)) (lv' := [(11, .int (x11_44 + (1 : Int32))), (10, .int x10_43), (12, .int z_51), (0, .ref (ad 0)), (1, .int x1), (2, .ref b0), (4, .int (r1 (0 : Int32).toNatClampNeg)), (5, .ref b2), (6, .ref b3), (7, .ref b4), (8, .int z_1), (9, .int r_4)]) rfl rfl (by decide) rfl ?_
                      refine g_goto (pc' := 195) O ⟨dL_orders_192, rfl⟩ (tgt := 78) (by decide) ?_
                      refine g_sub (lv' := [(0, .ref (ad 0)), (1, .int x1), (2, .ref b0), (4, .int (r1 (0 : Int32).toNatClampNeg)), (5, .ref b2), (6, .ref b3), (7, .ref b4), (8, .int z_1), (9, .int r_4), (10, .int x10_43), (11, .int (x11_44 + (1 : Int32)))]) [3, 4, 5, 6, 7, 8, 9, 10, 11, 1, 0] rfl ?_
                      exact ih78 _ _ _ E
                    · refine g_sub (lv' := [(0, .ref (ad 0)), (1, .int x1), (2, .ref b0), (4, .int (r1 (0 : Int32).toNatClampNeg)), (5, .ref b2), (6, .ref b3), (7, .ref b4), (8, .int z_1), (9, .int r_4), (11, .int x11_44)]) [1, 2, 3, 4, 5, 6, 7, 8, 9, 11] rfl ?_
                      exact hk175 E
            · intro k151 hk151 E
              refine jn0_of (P := G l D X 13 (WX5 ad cy 6 4 24 24 6 b0 b1 b2 b3 b4) 4 60 (h, r0, r1, r2_2, r3_3, r_49.2) 150 [(0, .ref (ad 0)), (1, .int x1), (2, .ref b0), (4, .int (r1 (0 : Int32).toNatClampNeg)), (5, .ref b2), (6, .ref b3), (7, .ref b4), (8, .int z_1), (9, .int r_4), (10, .int x10_43), (11, .int x11_44)] []) E ?_ ?_
              · intro E
                show G l D X 13 (WX5 ad cy 6 4 24 24 6 b0 b1 b2 b3 b4) 4 60 (h, r0, r1, r2_2, r3_3, r_49.2) 150 [(0, .ref (ad 0)), (1, .int x1), (2, .ref b0), (4, .int (r1 (0 : Int32).toNatClampNeg)), (5, .ref b2), (6, .ref b3), (7, .ref b4), (8, .int z_1), (9, .int r_4), (10, .int x10_43), (11, .int x11_44)] []
                refine g_iconst (pc' := 151) O ⟨dL_orders_150, rfl⟩ (v := (0 : Int32)) rfl ?_
                exact hk151 _ E
              · intro k150 hk150 E
                refine g_if_eq (pc' := 127) O ⟨dL_orders_124, rfl⟩ E (tgt := 150) (by decide) (fun E => ?_) (fun E => ?_)
                · exact hk150 E
                · refine g_iload_n (pc' := 128) O ⟨dL_orders_127, rfl⟩ (q := 1) rfl rfl ?_
                  refine g_aload (pc' := 130) O ⟨dL_orders_128, rfl⟩ (q := 6) rfl ?_
                  refine g_iload (pc' := 132) O ⟨dL_orders_130, rfl⟩ (q := 3) rfl ?_
                  refine g_aload (pc' := 134) O ⟨dL_orders_132, rfl⟩ (q := 4) rfl ?_
                  refine g_aload (pc' := 136) O ⟨dL_orders_134, rfl⟩ (q := 5) rfl ?_
                  refine g_iload (pc' := 138) O ⟨dL_orders_136, rfl⟩ (q := 7) rfl ?_
                  obtain ⟨r_56, c_57, E⟩ := bd_of E
                  refine g_MSi (pc' := 141) O hN ⟨dL_orders_138, rfl⟩ (y := yL_distance) (As := [.int x1, .ref b4, .int (r1 (0 : Int32).toNatClampNeg), .ref b2, .ref b3, .int z_1]) (st := []) (put := (fun g => (h, r0, r1, g.2.1, g.2.2, g.1))) sub_X5_A4_2_3 (t_L_distance l D cy hfl b4 b2 b3 c_57) kw_895 kw_24 kw_893 kw_894 hd_L_distance ⟨Nat.le_of_ble_eq_true rfl, Nat.le_of_ble_eq_true rfl⟩ ⟨Nat.le_of_ble_eq_true rfl, Nat.le_of_ble_eq_true rfl⟩ rfl (Nat.le_of_ble_eq_true rfl) ?_
                  show G l D X 13 (WX5 ad cy 6 4 24 24 6 b0 b1 b2 b3 b4) 4 60 (h, r0, r1, r2_2, r3_3, r_49.2) 141 [(0, .ref (ad 0)), (1, .int x1), (2, .ref b0), (4, .int (r1 (0 : Int32).toNatClampNeg)), (5, .ref b2), (6, .ref b3), (7, .ref b4), (8, .int z_1), (9, .int r_4), (10, .int x10_43), (11, .int x11_44)] [.int r_56]
                  refine g_iload (pc' := 143) O ⟨dL_orders_141, rfl⟩ (q := 8) rfl ?_
                  refine g_icmp_ge (pc' := 146) O ⟨dL_orders_143, rfl⟩ E (tgt := 150) (by decide) (fun E => ?_) (fun E => ?_)
                  · exact hk150 E
                  · refine g_iconst (pc' := 147) O ⟨dL_orders_146, rfl⟩ (v := (1 : Int32)) rfl ?_
                    refine g_goto (pc' := 150) O ⟨dL_orders_147, rfl⟩ (tgt := 151) (by decide) ?_
                    exact hk151 _ E
          · intro k114 hk114 E
            refine g_sub (lv' := [(0, .ref (ad 0)), (1, .int x1), (2, .ref b0), (4, .int (r1 (0 : Int32).toNatClampNeg)), (5, .ref b2), (6, .ref b3), (7, .ref b4), (8, .int z_1), (9, .int r_4), (10, .int x10_43), (11, .int x11_44), (12, .int (0 : Int32))]) [1, 2, 3, 4, 5, 6, 7, 8, 9, 10, 11, 0] rfl ?_
            refine fx2_of (P := fun (x12_58 : Int32) (r4_59 : Row) => G l D X 13 (WX5 ad cy 6 4 24 24 6 b0 b1 b2 b3 b4) 4 60 (h, r0, r1, r2_2, r3_3, r4_59) 92 [(0, .ref (ad 0)), (1, .int x1), (2, .ref b0), (4, .int (r1 (0 : Int32).toNatClampNeg)), (5, .ref b2), (6, .ref b3), (7, .ref b4), (8, .int z_1), (9, .int r_4), (10, .int x10_43), (11, .int x11_44), (12, .int x12_58)] []) ?_ _ _ _ E
            intro self ih92 x12_58 r4_59 E
            show G l D X 13 (WX5 ad cy 6 4 24 24 6 b0 b1 b2 b3 b4) 4 60 (h, r0, r1, r2_2, r3_3, r4_59) 92 [(0, .ref (ad 0)), (1, .int x1), (2, .ref b0), (4, .int (r1 (0 : Int32).toNatClampNeg)), (5, .ref b2), (6, .ref b3), (7, .ref b4), (8, .int z_1), (9, .int r_4), (10, .int x10_43), (11, .int x11_44), (12, .int x12_58)] []
            unfold L_L_orders_92 at E
            refine g_iload (pc' := 94) O ⟨dL_orders_92, rfl⟩ (q := 11) rfl ?_
            refine g_iload (pc' := 96) O ⟨dL_orders_94, rfl⟩ (q := 3) rfl ?_
            refine g_icmp_ge (pc' := 99) O ⟨dL_orders_96, rfl⟩ E (tgt := 114) (by decide) (fun E => ?_) (fun E => ?_)
            · refine g_sub (lv' := [(0, .ref (ad 0)), (1, .int x1), (2, .ref b0), (4, .int (r1 (0 : Int32).toNatClampNeg)), (5, .ref b2), (6, .ref b3), (7, .ref b4), (8, .int z_1), (9, .int r_4), (10, .int x10_43), (11, .int x11_44)]) [0, 1, 2, 3, 4, 5, 6, 7, 8, 9, 10] rfl ?_
              exact hk114 _ E
            · refine g_aload (pc' := 101) O ⟨dL_orders_99, rfl⟩ (q := 6) rfl ?_
              refine g_iload (pc' := 103) O ⟨dL_orders_101, rfl⟩ (q := 11) rfl ?_
              refine g_aload_n (pc' := 104) O ⟨dL_orders_103, rfl⟩ (q := 2) rfl rfl ?_
              refine g_iload (pc' := 106) O ⟨dL_orders_104, rfl⟩ (q := 11) rfl ?_
              refine g_iald (pc' := 107) O ⟨dL_orders_106, rfl⟩ zX5_0 E (fun E => ?_)
              refine g_iast (pc' := 108) O ⟨dL_orders_107, rfl⟩ zX5_4 zsX5_4 E (fun E => ?_)
              refine g_nmr (Go := fun (r4_60 : Row) => G l D X 13 (WX5 ad cy 6 4 24 24 6 b0 b1 b2 b3 b4) 4 60 (h, r0, r1, r2_2, r3_3, r4_60) 108 [(0, .ref (ad 0)), (1, .int x1), (2, .ref b0), (4, .int (r1 (0 : Int32).toNatClampNeg)), (5, .ref b2), (6, .ref b3), (7, .ref b4), (8, .int z_1), (9, .int r_4), (10, .int x10_43), (11, .int x11_44), (12, .int x12_58)] []) E (fun r4_60 E => ?_)
              show G l D X 13 (WX5 ad cy 6 4 24 24 6 b0 b1 b2 b3 b4) 4 60 (h, r0, r1, r2_2, r3_3, r4_60) 108 [(0, .ref (ad 0)), (1, .int x1), (2, .ref b0), (4, .int (r1 (0 : Int32).toNatClampNeg)), (5, .ref b2), (6, .ref b3), (7, .ref b4), (8, .int z_1), (9, .int r_4), (10, .int x10_43), (11, .int x11_44), (12, .int x12_58)] []
              refine g_iinc (pc' := 111) O ⟨dL_orders_108, rfl⟩ (q := 11) (v := x12_58 + (1 : Int32)) (lv' := [(12, .int (x12_58 + (1 : Int32))), (0, .ref (ad 0)), (1, .int x1), (2, .ref b0), (4, .int (r1 (0 : Int32).toNatClampNeg)), (5, .ref b2), (6, .ref b3), (7, .ref b4), (8, .int z_1), (9, .int r_4), (10, .int x10_43), (11, .int x11_44)]) rfl rfl (by decide) rfl ?_
              refine g_goto (pc' := 114) O ⟨dL_orders_111, rfl⟩ (tgt := 92) (by decide) ?_
              refine g_sub (lv' := [(0, .ref (ad 0)), (1, .int x1), (2, .ref b0), (4, .int (r1 (0 : Int32).toNatClampNeg)), (5, .ref b2), (6, .ref b3), (7, .ref b4), (8, .int z_1), (9, .int r_4), (10, .int x10_43), (11, .int x11_44), (12, .int (x12_58 + (1 : Int32)))]) [1, 2, 3, 4, 5, 6, 7, 8, 9, 10, 11, 0] rfl ?_
              exact ih92 _ _ E
    · intro k55 hk55 E
      refine g_icmp_le (pc' := 41) O ⟨dL_orders_38, rfl⟩ E (tgt := 54) (by decide) (fun E => ?_) (fun E => ?_)
      · refine g_iconst (pc' := 55) O ⟨dL_orders_54, rfl⟩ (v := (0 : Int32)) rfl ?_
        refine g_sub (lv' := [(0, .ref (ad 0)), (1, .int x1), (2, .ref b0), (4, .int (r1 (0 : Int32).toNatClampNeg)), (5, .ref b2), (6, .ref b3), (7, .ref b4)]) [3, 4, 5, 6, 2, 1, 0] rfl ?_
        refine g_widen (k1 := 4) (n1 := 60) (Nat.le_of_ble_eq_true rfl) (Nat.le_of_ble_eq_true rfl) ?_
        exact hk55 _ _ _ E
      · refine g_iload_n (pc' := 42) O ⟨dL_orders_41, rfl⟩ (q := 4) rfl rfl ?_
        refine g_iload (pc' := 44) O ⟨dL_orders_42, rfl⟩ (q := 6) rfl ?_
        refine g_aload (pc' := 46) O ⟨dL_orders_44, rfl⟩ (q := 2) rfl ?_
        refine g_aload (pc' := 48) O ⟨dL_orders_46, rfl⟩ (q := 1) rfl ?_
        obtain ⟨r_61, c_62, E⟩ := bd_of E
        refine g_MSi (pc' := 51) O hN ⟨dL_orders_48, rfl⟩ (y := yL_spreads) (As := [.int x1, .int (r1 (0 : Int32).toNatClampNeg), .ref b2, .ref b3]) (st := []) (put := (fun g => (h, r0, r1, g.1, g.2, (fun _ => 0)))) sub_X5_A2_3 (t_L_spreads l D cy hfl b2 b3 c_62) kw_877 kw_24 kw_875 kw_876 hd_L_spreads ⟨Nat.le_of_ble_eq_true rfl, Nat.le_of_ble_eq_true rfl⟩ ⟨Nat.le_of_ble_eq_true rfl, Nat.le_of_ble_eq_true rfl⟩ rfl (Nat.le_of_ble_eq_true rfl) ?_
        show G l D X 13 (WX5 ad cy 6 4 24 24 6 b0 b1 b2 b3 b4) 4 60 (h, r0, r1, r_61.2.1, r_61.2.2, (fun _ => 0)) 51 [(7, .ref b4), (6, .ref b3), (5, .ref b2), (0, .ref (ad 0)), (1, .int x1), (2, .ref b0), (4, .int (r1 (0 : Int32).toNatClampNeg))] [.int r_61.1]
        refine g_goto (pc' := 54) O ⟨dL_orders_51, rfl⟩ (tgt := 55) (by decide) ?_
        refine g_sub (lv' := [(0, .ref (ad 0)), (1, .int x1), (2, .ref b0), (4, .int (r1 (0 : Int32).toNatClampNeg)), (5, .ref b2), (6, .ref b3), (7, .ref b4)]) [3, 4, 5, 6, 2, 1, 0] rfl ?_
        exact hk55 _ _ _ E
  · intro k18 hk18 E
    refine g_icmp_le (pc' := 10) O ⟨dL_orders_7, rfl⟩ E (tgt := 18) (by decide) (fun E => ?_) (fun E => ?_)
    · refine g_sub (lv' := [(0, .ref (ad 0)), (1, .int x1), (2, .ref b0), (4, .int (r1 (0 : Int32).toNatClampNeg))]) [1, 2, 3, 0] rfl ?_
      exact hk18 E
    · refine g_iload (pc' := 12) O ⟨dL_orders_10, rfl⟩ (q := 0) rfl ?_
      refine g_iconst (pc' := 13) O ⟨dL_orders_12, rfl⟩ (v := (4 : Int32)) rfl ?_
      refine g_icmp_le (pc' := 16) O ⟨dL_orders_13, rfl⟩ E (tgt := 18) (by decide) (fun E => ?_) (fun E => ?_)
      · refine g_sub (lv' := [(0, .ref (ad 0)), (1, .int x1), (2, .ref b0), (4, .int (r1 (0 : Int32).toNatClampNeg))]) [1, 2, 3, 0] rfl ?_
        exact hk18 E
      · refine g_iconst (pc' := 17) O ⟨dL_orders_16, rfl⟩ (v := (1 : Int32)) rfl ?_
        obtain ⟨hn, E⟩ := ckz_of E
        cases E
        exact hret _ _ _ _ _ (Nat.le_of_ble_eq_true rfl) (Nat.le_of_ble_eq_true rfl) ⟨dL_orders_17, rfl⟩ hn
set_option maxRecDepth 100000 in
set_option maxHeartbeats 4000000 in
theorem t_L_setting (l : Launch) (D : va_G) (cy : Nat → ClassId) (hfl : l.stackTraces = false) (b0 : Nat) (b1 : Nat) (b2 : Nat)  {r0 : Row} {r1 : Row} {r2 : Row} {o : Int32} (E : f_L_setting r0 r1 r2 = some o) : CtMI l D cy (WA3 cy 6 24 4 b0 b1 b2) yL_setting cL_setting 10 .int 0 0 1 6 [.ref b0, .ref b1, .ref b2] (r0, r1, r2) o (r0, r1, r2) := by
  refine sMI (own := RL) rfl rfl (Nat.le_of_ble_eq_true rfl) (fun X O hN hret => ?_)
  show G l D X 10 (WA3 cy 6 24 4 b0 b1 b2) 0 0 (r0, r1, r2) 0 [(0, .ref b0), (1, .ref b1), (2, .ref b2)] []
  unfold f_L_setting at E
  refine g_bipush (pc' := 2) O ⟨dL_setting_0, rfl⟩ (v := (6 : Int32)) rfl ?_
  refine g_newr (pc' := 4) O ⟨dL_setting_2, rfl⟩ (N' := 6) (wf2 := fun b3 => (WA4 cy 6 24 4 6 b0 b1 b2 b3)) (h2 := (r0, r1, r2, (fun _ => 0))) kw_94 rfl (by decide) (by decide) ⟨Nat.le_of_ble_eq_true rfl, Nat.le_of_ble_eq_true rfl⟩ (fun _ => rfl) (fun b3 => ?_)
  show G l D X 10 (WA4 cy 6 24 4 6 b0 b1 b2 b3) 1 6 (r0, r1, r2, (fun _ => 0)) 4 [(0, .ref b0), (1, .ref b1), (2, .ref b2)] [.ref b3]
  refine g_astore_n (pc' := 5) O ⟨dL_setting_4, rfl⟩ (lv' := [(3, .ref b3), (0, .ref b0), (1, .ref b1), (2, .ref b2)]) rfl (by decide) rfl ?_
  refine g_iconst (pc' := 6) O ⟨dL_setting_5, rfl⟩ (v := (0 : Int32)) rfl ?_
  refine g_istore (pc' := 8) O ⟨dL_setting_6, rfl⟩ (lv' := [(4, .int (0 : Int32)), (3, .ref b3), (0, .ref b0), (1, .ref b1), (2, .ref b2)]) (by decide) rfl ?_
  refine jn1_of (P := fun (r3_1 : Row) => G l D X 10 (WA4 cy 6 24 4 6 b0 b1 b2 b3) 1 6 (r0, r1, r2, r3_1) 169 [] []) E ?_ ?_
  · intro r3_1 E
    show G l D X 10 (WA4 cy 6 24 4 6 b0 b1 b2 b3) 1 6 (r0, r1, r2, r3_1) 169 [] []
    refine g_iconst (pc' := 170) O ⟨dL_setting_169, rfl⟩ (v := (-1 : Int32)) rfl ?_
    cases E
    refine g_drop (wf := (WA3 cy 6 24 4 b0 b1 b2)) (h := (r0, r1, r2)) (List.range 3) rfl rfl (by decide) ?_
    exact hret _ _ _ _ _ (Nat.le_of_ble_eq_true rfl) (Nat.le_of_ble_eq_true rfl) ⟨dL_setting_170, rfl⟩ rfl
  · intro k169 hk169 E
    refine jn2_of (P := fun (x4_2 : Int32) (r3_3 : Row) => G l D X 10 (WA4 cy 6 24 4 6 b0 b1 b2 b3) 1 6 (r0, r1, r2, r3_3) 160 [(4, .int x4_2)] []) E ?_ ?_
    · intro x4_2 r3_3 E
      show G l D X 10 (WA4 cy 6 24 4 6 b0 b1 b2 b3) 1 6 (r0, r1, r2, r3_3) 160 [(4, .int x4_2)] []
      refine g_iload (pc' := 162) O ⟨dL_setting_160, rfl⟩ (q := 0) rfl ?_
      cases E
      refine g_drop (wf := (WA3 cy 6 24 4 b0 b1 b2)) (h := (r0, r1, r2)) (List.range 3) rfl rfl (by decide) ?_
      exact hret _ _ _ _ _ (Nat.le_of_ble_eq_true rfl) (Nat.le_of_ble_eq_true rfl) ⟨dL_setting_162, rfl⟩ rfl
    · intro k160 hk160 E
      refine g_sub (lv' := [(0, .ref b0), (1, .ref b1), (2, .ref b2), (3, .ref b3), (4, .int (0 : Int32))]) [2, 3, 4, 1, 0] rfl ?_
      refine fx2_of (P := fun (x4_4 : Int32) (r3_5 : Row) => G l D X 10 (WA4 cy 6 24 4 6 b0 b1 b2 b3) 1 6 (r0, r1, r2, r3_5) 8 [(0, .ref b0), (1, .ref b1), (2, .ref b2), (3, .ref b3), (4, .int x4_4)] []) ?_ _ _ _ E
      intro self ih8 x4_4 r3_5 E
      show G l D X 10 (WA4 cy 6 24 4 6 b0 b1 b2 b3) 1 6 (r0, r1, r2, r3_5) 8 [(0, .ref b0), (1, .ref b1), (2, .ref b2), (3, .ref b3), (4, .int x4_4)] []
      unfold L_L_setting_8 at E
      refine g_iload (pc' := 10) O ⟨dL_setting_8, rfl⟩ (q := 4) rfl ?_
      refine g_iconst (pc' := 11) O ⟨dL_setting_10, rfl⟩ (v := (1 : Int32)) rfl ?_
      refine g_aload_n (pc' := 12) O ⟨dL_setting_11, rfl⟩ (q := 2) rfl rfl ?_
      refine g_iconst (pc' := 13) O ⟨dL_setting_12, rfl⟩ (v := (1 : Int32)) rfl ?_
      refine g_iald (pc' := 14) O ⟨dL_setting_13, rfl⟩ zA4_2 E (fun E => ?_)
      refine g_ishl (pc' := 15) O ⟨dL_setting_14, rfl⟩ ?_
      refine g_icmp_ge (pc' := 18) O ⟨dL_setting_15, rfl⟩ E (tgt := 169) (by decide) (fun E => ?_) (fun E => ?_)
      · refine g_sub (lv' := []) [] rfl ?_
        exact hk169 _ E
      · refine g_iconst (pc' := 19) O ⟨dL_setting_18, rfl⟩ (v := (1 : Int32)) rfl ?_
        refine g_istore (pc' := 21) O ⟨dL_setting_19, rfl⟩ (lv' := [(5, .int (1 : Int32)), (0, .ref b0), (1, .ref b1), (2, .ref b2), (3, .ref b3), (4, .int x4_4)]) (by decide) rfl ?_
        refine g_iconst (pc' := 22) O ⟨dL_setting_21, rfl⟩ (v := (0 : Int32)) rfl ?_
        refine g_istore (pc' := 24) O ⟨dL_setting_22, rfl⟩ (lv' := [(6, .int (0 : Int32)), (5, .int (1 : Int32)), (0, .ref b0), (1, .ref b1), (2, .ref b2), (3, .ref b3), (4, .int x4_4)]) (by decide) rfl ?_
        refine jn1_of (P := fun (r3_6 : Row) => G l D X 10 (WA4 cy 6 24 4 6 b0 b1 b2 b3) 1 6 (r0, r1, r2, r3_6) 44 [(0, .ref b0), (1, .ref b1), (2, .ref b2), (3, .ref b3), (4, .int x4_4), (5, .int (1 : Int32))] []) E ?_ ?_
        · intro r3_6 E
          show G l D X 10 (WA4 cy 6 24 4 6 b0 b1 b2 b3) 1 6 (r0, r1, r2, r3_6) 44 [(0, .ref b0), (1, .ref b1), (2, .ref b2), (3, .ref b3), (4, .int x4_4), (5, .int (1 : Int32))] []
          refine g_iconst (pc' := 45) O ⟨dL_setting_44, rfl⟩ (v := (0 : Int32)) rfl ?_
          refine g_istore (pc' := 47) O ⟨dL_setting_45, rfl⟩ (lv' := [(6, .int (0 : Int32)), (0, .ref b0), (1, .ref b1), (2, .ref b2), (3, .ref b3), (4, .int x4_4), (5, .int (1 : Int32))]) (by decide) rfl ?_
          refine jn1_of (P := fun (r3_7 : Row) => G l D X 10 (WA4 cy 6 24 4 6 b0 b1 b2 b3) 1 6 (r0, r1, r2, r3_7) 115 [(0, .ref b0), (1, .ref b1), (2, .ref b2), (3, .ref b3), (4, .int x4_4), (5, .int (1 : Int32))] []) E ?_ ?_
          · intro r3_7 E
            show G l D X 10 (WA4 cy 6 24 4 6 b0 b1 b2 b3) 1 6 (r0, r1, r2, r3_7) 115 [(0, .ref b0), (1, .ref b1), (2, .ref b2), (3, .ref b3), (4, .int x4_4), (5, .int (1 : Int32))] []
            refine g_iconst (pc' := 116) O ⟨dL_setting_115, rfl⟩ (v := (0 : Int32)) rfl ?_
            refine g_istore (pc' := 118) O ⟨dL_setting_116, rfl⟩ (lv' := [(6, .int (0 : Int32)), (0, .ref b0), (1, .ref b1), (2, .ref b2), (3, .ref b3), (4, .int x4_4), (5, .int (1 : Int32))]) (by decide) rfl ?_
            refine jn1_of (P := fun (x5_8 : Int32) => G l D X 10 (WA4 cy 6 24 4 6 b0 b1 b2 b3) 1 6 (r0, r1, r2, r3_7) 155 [(0, .ref b0), (1, .ref b1), (2, .ref b2), (3, .ref b3), (4, .int x4_4), (5, .int x5_8)] []) E ?_ ?_
            · intro x5_8 E
              show G l D X 10 (WA4 cy 6 24 4 6 b0 b1 b2 b3) 1 6 (r0, r1, r2, r3_7) 155 [(0, .ref b0), (1, .ref b1), (2, .ref b2), (3, .ref b3), (4, .int x4_4), (5, .int x5_8)] []
              refine g_iload (pc' := 157) O ⟨dL_setting_155, rfl⟩ (q := 5) rfl ?_
              refine g_if_eq (pc' := 160) O ⟨dL_setting_157, rfl⟩ E (tgt := 163) (by decide) (fun E => ?_) (fun E => ?_)
              · refine g_iinc (pc' := 166) O ⟨dL_setting_163, rfl⟩ (q := 4) (v := x4_4 + (1 : Int32)) (lv' := [(4, .int (x4_4 + (1 : Int32))), (0, .ref b0), (1, .ref b1), (2, .ref b2), (3, .ref b3), (5, .int x5_8)]) rfl rfl (by decide) rfl ?_
                refine g_goto (pc' := 169) O ⟨dL_setting_166, rfl⟩ (tgt := 8) (by decide) ?_
                refine g_sub (lv' := [(0, .ref b0), (1, .ref b1), (2, .ref b2), (3, .ref b3), (4, .int (x4_4 + (1 : Int32)))]) [1, 2, 3, 4, 0] rfl ?_
                exact ih8 _ _ E
              · refine g_sub (lv' := [(4, .int x4_4)]) [4] rfl ?_
                exact hk160 _ _ E
            · intro k155 hk155 E
              refine g_sub (lv' := [(0, .ref b0), (1, .ref b1), (2, .ref b2), (3, .ref b3), (4, .int x4_4), (5, .int (1 : Int32)), (6, .int (0 : Int32))]) [1, 2, 3, 4, 5, 6, 0] rfl ?_
              refine fx2_of (P := fun (x5_9 : Int32) (x6_10 : Int32) => G l D X 10 (WA4 cy 6 24 4 6 b0 b1 b2 b3) 1 6 (r0, r1, r2, r3_7) 118 [(0, .ref b0), (1, .ref b1), (2, .ref b2), (3, .ref b3), (4, .int x4_4), (5, .int x5_9), (6, .int x6_10)] []) ?_ _ _ _ E
              intro self ih118 x5_9 x6_10 E
              show G l D X 10 (WA4 cy 6 24 4 6 b0 b1 b2 b3) 1 6 (r0, r1, r2, r3_7) 118 [(0, .ref b0), (1, .ref b1), (2, .ref b2), (3, .ref b3), (4, .int x4_4), (5, .int x5_9), (6, .int x6_10)] []
              unfold L_L_setting_118 at E
              refine g_iload (pc' := 120) O ⟨dL_setting_118, rfl⟩ (q := 6) rfl ?_
              refine g_aload_n (pc' := 121) O ⟨dL_setting_120, rfl⟩ (q := 2) rfl rfl ?_
              refine g_iconst (pc' := 122) O ⟨dL_setting_121, rfl⟩ (v := (0 : Int32)) rfl ?_
              refine g_iald (pc' := 123) O ⟨dL_setting_122, rfl⟩ zA4_2 E (fun E => ?_)
              refine g_icmp_ge (pc' := 126) O ⟨dL_setting_123, rfl⟩ E (tgt := 155) (by decide) (fun E => ?_) (fun E => ?_)
              · refine g_sub (lv' := [(0, .ref b0), (1, .ref b1), (2, .ref b2), (3, .ref b3), (4, .int x4_4), (5, .int x5_9)]) [0, 1, 2, 3, 4, 5] rfl ?_
                exact hk155 _ E
              · refine g_iload (pc' := 128) O ⟨dL_setting_126, rfl⟩ (q := 5) rfl ?_
                refine g_if_eq (pc' := 131) O ⟨dL_setting_128, rfl⟩ E (tgt := 146) (by decide) (fun E => ?_) (fun E => ?_)
                · refine g_iconst (pc' := 147) O ⟨dL_setting_146, rfl⟩ (v := (0 : Int32)) rfl ?_
                  refine g_istore (pc' := 149) O ⟨dL_setting_147, rfl⟩ (lv' := [(5, .int (0 : Int32)), (0, .ref b0), (1, .ref b1), (2, .ref b2), (3, .ref b3), (4, .int x4_4), (6, .int x6_10)]) (by decide) rfl ?_
                  refine g_iinc (pc' := 152) O ⟨dL_setting_149, rfl⟩ (q := 6) (v := x6_10 + (1 : Int32)) (lv' := [(6, .int (x6_10 + (1 : Int32))), (5, .int (0 : Int32)), (0, .ref b0), (1, .ref b1), (2, .ref b2), (3, .ref b3), (4, .int x4_4)]) rfl rfl (by decide) rfl ?_
                  refine g_goto (pc' := 155) O ⟨dL_setting_152, rfl⟩ (tgt := 118) (by decide) ?_
                  refine g_sub (lv' := [(0, .ref b0), (1, .ref b1), (2, .ref b2), (3, .ref b3), (4, .int x4_4), (5, .int (0 : Int32)), (6, .int (x6_10 + (1 : Int32)))]) [2, 3, 4, 5, 6, 1, 0] rfl ?_
                  exact ih118 _ _ E
                · refine g_aload_n (pc' := 132) O ⟨dL_setting_131, rfl⟩ (q := 3) rfl rfl ?_
                  refine g_iload (pc' := 134) O ⟨dL_setting_132, rfl⟩ (q := 6) rfl ?_
                  refine g_iald (pc' := 135) O ⟨dL_setting_134, rfl⟩ zA4_3 E (fun E => ?_)
                  refine g_aload_n (pc' := 136) O ⟨dL_setting_135, rfl⟩ (q := 0) rfl rfl ?_
                  refine g_iload (pc' := 138) O ⟨dL_setting_136, rfl⟩ (q := 6) rfl ?_
                  refine g_iald (pc' := 139) O ⟨dL_setting_138, rfl⟩ zA4_0 E (fun E => ?_)
                  refine g_icmp_ne (pc' := 142) O ⟨dL_setting_139, rfl⟩ E (tgt := 146) (by decide) (fun E => ?_) (fun E => ?_)
                  · refine g_iconst (pc' := 147) O ⟨dL_setting_146, rfl⟩ (v := (0 : Int32)) rfl ?_
                    refine g_istore (pc' := 149) O ⟨dL_setting_147, rfl⟩ (lv' := [(5, .int (0 : Int32)), (0, .ref b0), (1, .ref b1), (2, .ref b2), (3, .ref b3), (4, .int x4_4), (6, .int x6_10)]) (by decide) rfl ?_
                    refine g_iinc (pc' := 152) O ⟨dL_setting_149, rfl⟩ (q := 6) (v := x6_10 + (1 : Int32)) (lv' := [(6, .int (x6_10 + (1 : Int32))), (5, .int (0 : Int32)), (0, .ref b0), (1, .ref b1), (2, .ref b2), (3, .ref b3), (4, .int x4_4)]) rfl rfl (by decide) rfl ?_
                    refine g_goto (pc' := 155) O ⟨dL_setting_152, rfl⟩ (tgt := 118) (by decide) ?_
                    refine g_sub (lv' := [(0, .ref b0), (1, .ref b1), (2, .ref b2), (3, .ref b3), (4, .int x4_4), (5, .int (0 : Int32)), (6, .int (x6_10 + (1 : Int32)))]) [2, 3, 4, 5, 6, 1, 0] rfl ?_
                    exact ih118 _ _ E
                  · refine g_iconst (pc' := 143) O ⟨dL_setting_142, rfl⟩ (v := (1 : Int32)) rfl ?_
                    refine g_goto (pc' := 146) O ⟨dL_setting_143, rfl⟩ (tgt := 147) (by decide) ?_
                    refine g_istore (pc' := 149) O ⟨dL_setting_147, rfl⟩ (lv' := [(5, .int (1 : Int32)), (0, .ref b0), (1, .ref b1), (2, .ref b2), (3, .ref b3), (4, .int x4_4), (6, .int x6_10)]) (by decide) rfl ?_
                    refine g_iinc (pc' := 152) O ⟨dL_setting_149, rfl⟩ (q := 6) (v := x6_10 + (1 : Int32)) (lv' := [(6, .int (x6_10 + (1 : Int32))), (5, .int (1 : Int32)), (0, .ref b0), (1, .ref b1), (2, .ref b2), (3, .ref b3), (4, .int x4_4)]) rfl rfl (by decide) rfl ?_
                    refine g_goto (pc' := 155) O ⟨dL_setting_152, rfl⟩ (tgt := 118) (by decide) ?_
                    refine g_sub (lv' := [(0, .ref b0), (1, .ref b1), (2, .ref b2), (3, .ref b3), (4, .int x4_4), (5, .int (1 : Int32)), (6, .int (x6_10 + (1 : Int32)))]) [2, 3, 4, 5, 6, 1, 0] rfl ?_
                    exact ih118 _ _ E
          · intro k115 hk115 E
            refine g_sub (lv' := [(0, .ref b0), (1, .ref b1), (2, .ref b2), (3, .ref b3), (4, .int x4_4), (5, .int (1 : Int32)), (6, .int (0 : Int32))]) [1, 2, 3, 4, 5, 6, 0] rfl ?_
            refine fx2_of (P := fun (x6_11 : Int32) (r3_12 : Row) => G l D X 10 (WA4 cy 6 24 4 6 b0 b1 b2 b3) 1 6 (r0, r1, r2, r3_12) 47 [(0, .ref b0), (1, .ref b1), (2, .ref b2), (3, .ref b3), (4, .int x4_4), (5, .int (1 : Int32)), (6, .int x6_11)] []) ?_ _ _ _ E
            intro self ih47 x6_11 r3_12 E
            show G l D X 10 (WA4 cy 6 24 4 6 b0 b1 b2 b3) 1 6 (r0, r1, r2, r3_12) 47 [(0, .ref b0), (1, .ref b1), (2, .ref b2), (3, .ref b3), (4, .int x4_4), (5, .int (1 : Int32)), (6, .int x6_11)] []
            unfold L_L_setting_47 at E
            refine g_iload (pc' := 49) O ⟨dL_setting_47, rfl⟩ (q := 6) rfl ?_
            refine g_aload_n (pc' := 50) O ⟨dL_setting_49, rfl⟩ (q := 2) rfl rfl ?_
            refine g_iconst (pc' := 51) O ⟨dL_setting_50, rfl⟩ (v := (1 : Int32)) rfl ?_
            refine g_iald (pc' := 52) O ⟨dL_setting_51, rfl⟩ zA4_2 E (fun E => ?_)
            refine g_icmp_ge (pc' := 55) O ⟨dL_setting_52, rfl⟩ E (tgt := 115) (by decide) (fun E => ?_) (fun E => ?_)
            · refine g_sub (lv' := [(0, .ref b0), (1, .ref b1), (2, .ref b2), (3, .ref b3), (4, .int x4_4), (5, .int (1 : Int32))]) [0, 1, 2, 3, 4, 5] rfl ?_
              exact hk115 _ E
            · refine g_aload_n (pc' := 56) O ⟨dL_setting_55, rfl⟩ (q := 1) rfl rfl ?_
              refine g_iload (pc' := 58) O ⟨dL_setting_56, rfl⟩ (q := 6) rfl ?_
              refine g_iald (pc' := 59) O ⟨dL_setting_58, rfl⟩ zA4_1 E (fun E => ?_)
              refine g_bipush (pc' := 61) O ⟨dL_setting_59, rfl⟩ (v := (8 : Int32)) rfl ?_
              refine g_irem (pc' := 62) O ⟨dL_setting_61, rfl⟩ (by decide) ?_
              refine g_nm E (fun y7_13 E => ?_)
              refine g_istore (pc' := 64) O ⟨dL_setting_62, rfl⟩ (lv' := [(7, .int y7_13), (0, .ref b0), (1, .ref b1), (2, .ref b2), (3, .ref b3), (4, .int x4_4), (5, .int (1 : Int32)), (6, .int x6_11)]) (by decide) rfl ?_
              refine g_iload (pc' := 66) O ⟨dL_setting_64, rfl⟩ (q := 5) rfl ?_
              refine g_iload (pc' := 68) O ⟨dL_setting_66, rfl⟩ (q := 7) rfl ?_
              refine g_ishr (pc' := 69) O ⟨dL_setting_68, rfl⟩ ?_
              refine g_iconst (pc' := 70) O ⟨dL_setting_69, rfl⟩ (v := (1 : Int32)) rfl ?_
              refine g_iand (pc' := 71) O ⟨dL_setting_70, rfl⟩ ?_
              refine g_iconst (pc' := 72) O ⟨dL_setting_71, rfl⟩ (v := (1 : Int32)) rfl ?_
              refine jn1_of (P := fun (z_14 : Int32) => G l D X 10 (WA4 cy 6 24 4 6 b0 b1 b2 b3) 1 6 (r0, r1, r2, r3_12) 87 [(0, .ref b0), (1, .ref b1), (2, .ref b2), (3, .ref b3), (4, .int x4_4), (5, .int (1 : Int32)), (6, .int x6_11), (7, .int y7_13)] [.int z_14]) E ?_ ?_
              · intro z_14 E
                show G l D X 10 (WA4 cy 6 24 4 6 b0 b1 b2 b3) 1 6 (r0, r1, r2, r3_12) 87 [(0, .ref b0), (1, .ref b1), (2, .ref b2), (3, .ref b3), (4, .int x4_4), (5, .int (1 : Int32)), (6, .int x6_11), (7, .int y7_13)] [.int z_14]
                refine g_istore (pc' := 89) O ⟨dL_setting_87, rfl⟩ (lv' := [(8, .int z_14), (0, .ref b0), (1, .ref b1), (2, .ref b2), (3, .ref b3), (4, .int x4_4), (5, .int (1 : Int32)), (6, .int x6_11), (7, .int y7_13)]) (by decide) rfl ?_
                refine g_aload_n (pc' := 90) O ⟨dL_setting_89, rfl⟩ (q := 4) rfl rfl ?_
                refine g_iload (pc' := 92) O ⟨dL_setting_90, rfl⟩ (q := 8) rfl ?_
                refine g_iald (pc' := 93) O ⟨dL_setting_92, rfl⟩ zA4_3 E (fun E => ?_)
                refine g_istore (pc' := 95) O ⟨dL_setting_93, rfl⟩ (lv' := [(9, .int (r3_12 y7_13.toNatClampNeg)), (8, .int z_14), (0, .ref b0), (1, .ref b1), (2, .ref b2), (3, .ref b3), (4, .int x4_4), (5, .int (1 : Int32)), (6, .int x6_11), (7, .int y7_13)]) (by decide) rfl ?_
                refine g_aload_n (pc' := 96) O ⟨dL_setting_95, rfl⟩ (q := 5) rfl rfl ?_
                refine g_iload (pc' := 98) O ⟨dL_setting_96, rfl⟩ (q := 9) rfl ?_
                refine g_aload_n (pc' := 99) O ⟨dL_setting_98, rfl⟩ (q := 5) rfl rfl ?_
                refine g_iload (pc' := 101) O ⟨dL_setting_99, rfl⟩ (q := 1) rfl ?_
                refine g_iald (pc' := 102) O ⟨dL_setting_101, rfl⟩ zA4_3 E (fun E => ?_)
                refine g_iast (pc' := 103) O ⟨dL_setting_102, rfl⟩ zA4_3 zsA4_3 E (fun E => ?_)
                refine g_nmr (Go := fun (r3_15 : Row) => G l D X 10 (WA4 cy 6 24 4 6 b0 b1 b2 b3) 1 6 (r0, r1, r2, r3_15) 103 [(9, .int (r3_12 y7_13.toNatClampNeg)), (8, .int z_14), (0, .ref b0), (1, .ref b1), (2, .ref b2), (3, .ref b3), (4, .int x4_4), (5, .int (1 : Int32)), (6, .int x6_11), (7, .int y7_13)] []) E (fun r3_15 E => ?_)
                show G l D X 10 (WA4 cy 6 24 4 6 b0 b1 b2 b3) 1 6 (r0, r1, r2, r3_15) 103 [(9, .int (r3_12 y7_13.toNatClampNeg)), (8, .int z_14), (0, .ref b0), (1, .ref b1), (2, .ref b2), (3, .ref b3), (4, .int x4_4), (5, .int (1 : Int32)), (6, .int x6_11), (7, .int y7_13)] []
                refine g_aload_n (pc' := 104) O ⟨dL_setting_103, rfl⟩ (q := 5) rfl rfl ?_
                refine g_iload (pc' := 106) O ⟨dL_setting_104, rfl⟩ (q := 1) rfl ?_
                refine g_iload (pc' := 108) O ⟨dL_setting_106, rfl⟩ (q := 0) rfl ?_
                refine g_iast (pc' := 109) O ⟨dL_setting_108, rfl⟩ zA4_3 zsA4_3 E (fun E => ?_)
                refine g_nmr (Go := fun (r3_16 : Row) => G l D X 10 (WA4 cy 6 24 4 6 b0 b1 b2 b3) 1 6 (r0, r1, r2, r3_16) 109 [(9, .int (r3_12 y7_13.toNatClampNeg)), (8, .int z_14), (0, .ref b0), (1, .ref b1), (2, .ref b2), (3, .ref b3), (4, .int x4_4), (5, .int (1 : Int32)), (6, .int x6_11), (7, .int y7_13)] []) E (fun r3_16 E => ?_)
                show G l D X 10 (WA4 cy 6 24 4 6 b0 b1 b2 b3) 1 6 (r0, r1, r2, r3_16) 109 [(9, .int (r3_12 y7_13.toNatClampNeg)), (8, .int z_14), (0, .ref b0), (1, .ref b1), (2, .ref b2), (3, .ref b3), (4, .int x4_4), (5, .int (1 : Int32)), (6, .int x6_11), (7, .int y7_13)] []
                refine g_iinc (pc' := 112) O ⟨dL_setting_109, rfl⟩ (q := 8) (v := x6_11 + (1 : Int32)) (lv' := [(6, .int (x6_11 + (1 : Int32))), (9, .int (r3_12 y7_13.toNatClampNeg)), (8, .int z_14), (0, .ref b0), (1, .ref b1), (2, .ref b2), (3, .ref b3), (4, .int x4_4), (5, .int (1 : Int32)), (7, .int y7_13)]) rfl rfl (by decide) rfl ?_
                refine g_goto (pc' := 115) O ⟨dL_setting_112, rfl⟩ (tgt := 47) (by decide) ?_
                refine g_sub (lv' := [(0, .ref b0), (1, .ref b1), (2, .ref b2), (3, .ref b3), (4, .int x4_4), (5, .int (1 : Int32)), (6, .int (x6_11 + (1 : Int32)))]) [3, 4, 5, 6, 7, 8, 0] rfl ?_
                exact ih47 _ _ E
              · intro k87 hk87 E
                refine g_icmp_ne (pc' := 75) O ⟨dL_setting_72, rfl⟩ E (tgt := 85) (by decide) (fun E => ?_) (fun E => ?_)
                · refine g_iload (pc' := 87) O ⟨dL_setting_85, rfl⟩ (q := 0) rfl ?_
                  refine g_sub (lv' := [(0, .ref b0), (1, .ref b1), (2, .ref b2), (3, .ref b3), (4, .int x4_4), (5, .int (1 : Int32)), (6, .int x6_11), (7, .int y7_13)]) [1, 2, 3, 4, 5, 6, 7, 0] rfl ?_
                  exact hk87 _ E
                · refine g_aload_n (pc' := 76) O ⟨dL_setting_75, rfl⟩ (q := 2) rfl rfl ?_
                  refine g_iload (pc' := 78) O ⟨dL_setting_76, rfl⟩ (q := 7) rfl ?_
                  refine g_iald (pc' := 79) O ⟨dL_setting_78, rfl⟩ zA4_1 E (fun E => ?_)
                  refine g_bipush (pc' := 81) O ⟨dL_setting_79, rfl⟩ (v := (8 : Int32)) rfl ?_
                  refine g_idiv (pc' := 82) O ⟨dL_setting_81, rfl⟩ (by decide) ?_
                  refine g_goto (pc' := 85) O ⟨dL_setting_82, rfl⟩ (tgt := 87) (by decide) ?_
                  refine g_sub (lv' := [(0, .ref b0), (1, .ref b1), (2, .ref b2), (3, .ref b3), (4, .int x4_4), (5, .int (1 : Int32)), (6, .int x6_11), (7, .int y7_13)]) [1, 2, 3, 4, 5, 6, 7, 0] rfl ?_
                  exact hk87 _ E
        · intro k44 hk44 E
          refine g_sub (lv' := [(0, .ref b0), (1, .ref b1), (2, .ref b2), (3, .ref b3), (4, .int x4_4), (5, .int (1 : Int32)), (6, .int (0 : Int32))]) [2, 3, 4, 5, 6, 1, 0] rfl ?_
          refine fx2_of (P := fun (x6_17 : Int32) (r3_18 : Row) => G l D X 10 (WA4 cy 6 24 4 6 b0 b1 b2 b3) 1 6 (r0, r1, r2, r3_18) 24 [(0, .ref b0), (1, .ref b1), (2, .ref b2), (3, .ref b3), (4, .int x4_4), (5, .int (1 : Int32)), (6, .int x6_17)] []) ?_ _ _ _ E
          intro self ih24 x6_17 r3_18 E
          show G l D X 10 (WA4 cy 6 24 4 6 b0 b1 b2 b3) 1 6 (r0, r1, r2, r3_18) 24 [(0, .ref b0), (1, .ref b1), (2, .ref b2), (3, .ref b3), (4, .int x4_4), (5, .int (1 : Int32)), (6, .int x6_17)] []
          unfold L_L_setting_24 at E
          refine g_iload (pc' := 26) O ⟨dL_setting_24, rfl⟩ (q := 6) rfl ?_
          refine g_aload_n (pc' := 27) O ⟨dL_setting_26, rfl⟩ (q := 2) rfl rfl ?_
          refine g_iconst (pc' := 28) O ⟨dL_setting_27, rfl⟩ (v := (0 : Int32)) rfl ?_
          refine g_iald (pc' := 29) O ⟨dL_setting_28, rfl⟩ zA4_2 E (fun E => ?_)
          refine g_icmp_ge (pc' := 32) O ⟨dL_setting_29, rfl⟩ E (tgt := 44) (by decide) (fun E => ?_) (fun E => ?_)
          · refine g_sub (lv' := [(0, .ref b0), (1, .ref b1), (2, .ref b2), (3, .ref b3), (4, .int x4_4), (5, .int (1 : Int32))]) [0, 1, 2, 3, 4, 5] rfl ?_
            exact hk44 _ E
          · refine g_aload_n (pc' := 33) O ⟨dL_setting_32, rfl⟩ (q := 3) rfl rfl ?_
            refine g_iload (pc' := 35) O ⟨dL_setting_33, rfl⟩ (q := 6) rfl ?_
            refine g_iload (pc' := 37) O ⟨dL_setting_35, rfl⟩ (q := 6) rfl ?_
            refine g_iast (pc' := 38) O ⟨dL_setting_37, rfl⟩ zA4_3 zsA4_3 E (fun E => ?_)
            refine g_nmr (Go := fun (r3_19 : Row) => G l D X 10 (WA4 cy 6 24 4 6 b0 b1 b2 b3) 1 6 (r0, r1, r2, r3_19) 38 [(0, .ref b0), (1, .ref b1), (2, .ref b2), (3, .ref b3), (4, .int x4_4), (5, .int (1 : Int32)), (6, .int x6_17)] []) E (fun r3_19 E => ?_)
            show G l D X 10 (WA4 cy 6 24 4 6 b0 b1 b2 b3) 1 6 (r0, r1, r2, r3_19) 38 [(0, .ref b0), (1, .ref b1), (2, .ref b2), (3, .ref b3), (4, .int x4_4), (5, .int (1 : Int32)), (6, .int x6_17)] []
            refine g_iinc (pc' := 41) O ⟨dL_setting_38, rfl⟩ (q := 6) (v := x6_17 + (1 : Int32)) (lv' := [(6, .int (x6_17 + (1 : Int32))), (0, .ref b0), (1, .ref b1), (2, .ref b2), (3, .ref b3), (4, .int x4_4), (5, .int (1 : Int32))]) rfl rfl (by decide) rfl ?_
            refine g_goto (pc' := 44) O ⟨dL_setting_41, rfl⟩ (tgt := 24) (by decide) ?_
            refine g_sub (lv' := [(0, .ref b0), (1, .ref b1), (2, .ref b2), (3, .ref b3), (4, .int x4_4), (5, .int (1 : Int32)), (6, .int (x6_17 + (1 : Int32)))]) [1, 2, 3, 4, 5, 6, 0] rfl ?_
            exact ih24 _ _ E
set_option maxRecDepth 100000 in
set_option maxHeartbeats 4000000 in
theorem t_L_switches (l : Launch) (D : va_G) (ad : Nat → Nat) (cy : Nat → ClassId) (hfl : l.stackTraces = false) (b0 : Nat) (b1 : Nat) (b2 : Nat)  {h : Hp} {r0 : Row} {r1 : Row} {r2 : Row} {o : Int32 × Hp} (E : f_L_switches h r0 r1 r2 = some o) : CtMI l D cy (WX3 ad cy 6 24 4 b0 b1 b2) yL_switches cL_switches 7 .boolean 10 194 29 174 [.ref (ad 0), .ref b0, .ref b1, .ref b2] (h, r0, r1, r2) o.1 (o.2, r0, r1, r2) := by
  refine sMI (own := RL) rfl rfl (Nat.le_of_ble_eq_true rfl) (fun X O hN hret => ?_)
  show G l D X 7 (WX3 ad cy 6 24 4 b0 b1 b2) 0 0 (h, r0, r1, r2) 0 [(0, .ref (ad 0)), (1, .ref b0), (2, .ref b1), (3, .ref b2)] []
  unfold f_L_switches at E
  refine g_aload_n (pc' := 1) O ⟨dL_switches_0, rfl⟩ (q := 3) rfl rfl ?_
  refine g_iconst (pc' := 2) O ⟨dL_switches_1, rfl⟩ (v := (0 : Int32)) rfl ?_
  refine g_iald (pc' := 3) O ⟨dL_switches_2, rfl⟩ zX3_2 E (fun E => ?_)
  refine g_iconst (pc' := 4) O ⟨dL_switches_3, rfl⟩ (v := (4 : Int32)) rfl ?_
  refine g_icmp_gt (pc' := 7) O ⟨dL_switches_4, rfl⟩ E (tgt := 15) (by decide) (fun E => ?_) (fun E => ?_)
  · refine g_iconst (pc' := 16) O ⟨dL_switches_15, rfl⟩ (v := (1 : Int32)) rfl ?_
    obtain ⟨hn, E⟩ := ckz_of E
    cases E
    exact hret _ _ _ _ _ (Nat.le_of_ble_eq_true rfl) (Nat.le_of_ble_eq_true rfl) ⟨dL_switches_16, rfl⟩ hn
  · refine g_aload_n (pc' := 8) O ⟨dL_switches_7, rfl⟩ (q := 3) rfl rfl ?_
    refine g_iconst (pc' := 9) O ⟨dL_switches_8, rfl⟩ (v := (1 : Int32)) rfl ?_
    refine g_iald (pc' := 10) O ⟨dL_switches_9, rfl⟩ zX3_2 E (fun E => ?_)
    refine g_bipush (pc' := 12) O ⟨dL_switches_10, rfl⟩ (v := (7 : Int32)) rfl ?_
    refine g_icmp_le (pc' := 15) O ⟨dL_switches_12, rfl⟩ E (tgt := 17) (by decide) (fun E => ?_) (fun E => ?_)
    · refine g_bipush (pc' := 19) O ⟨dL_switches_17, rfl⟩ (v := (6 : Int32)) rfl ?_
      refine g_newr (pc' := 21) O ⟨dL_switches_19, rfl⟩ (N' := 6) (wf2 := fun b3 => (WX4 ad cy 6 24 4 6 b0 b1 b2 b3)) (h2 := (h, r0, r1, r2, (fun _ => 0))) kw_94 rfl (by decide) (by decide) ⟨Nat.le_of_ble_eq_true rfl, Nat.le_of_ble_eq_true rfl⟩ (fun _ => rfl) (fun b3 => ?_)
      show G l D X 7 (WX4 ad cy 6 24 4 6 b0 b1 b2 b3) 1 6 (h, r0, r1, r2, (fun _ => 0)) 21 [(0, .ref (ad 0)), (1, .ref b0), (2, .ref b1), (3, .ref b2)] [.ref b3]
      refine g_astore (pc' := 23) O ⟨dL_switches_21, rfl⟩ (lv' := [(4, .ref b3), (0, .ref (ad 0)), (1, .ref b0), (2, .ref b1), (3, .ref b2)]) (by decide) rfl ?_
      refine g_iconst (pc' := 24) O ⟨dL_switches_23, rfl⟩ (v := (0 : Int32)) rfl ?_
      refine g_istore (pc' := 26) O ⟨dL_switches_24, rfl⟩ (lv' := [(5, .int (0 : Int32)), (4, .ref b3), (0, .ref (ad 0)), (1, .ref b0), (2, .ref b1), (3, .ref b2)]) (by decide) rfl ?_
      refine jn1_of (P := fun (r3_1 : Row) => G l D X 7 (WX4 ad cy 6 24 4 6 b0 b1 b2 b3) 1 6 (h, r0, r1, r2, r3_1) 47 [(0, .ref (ad 0)), (1, .ref b0), (2, .ref b1), (3, .ref b2), (4, .ref b3)] []) E ?_ ?_
      · intro r3_1 E
        show G l D X 7 (WX4 ad cy 6 24 4 6 b0 b1 b2 b3) 1 6 (h, r0, r1, r2, r3_1) 47 [(0, .ref (ad 0)), (1, .ref b0), (2, .ref b1), (3, .ref b2), (4, .ref b3)] []
        refine g_iconst (pc' := 48) O ⟨dL_switches_47, rfl⟩ (v := (0 : Int32)) rfl ?_
        refine g_istore (pc' := 50) O ⟨dL_switches_48, rfl⟩ (lv' := [(5, .int (0 : Int32)), (0, .ref (ad 0)), (1, .ref b0), (2, .ref b1), (3, .ref b2), (4, .ref b3)]) (by decide) rfl ?_
        refine g_iconst (pc' := 51) O ⟨dL_switches_50, rfl⟩ (v := (1 : Int32)) rfl ?_
        refine g_istore (pc' := 53) O ⟨dL_switches_51, rfl⟩ (lv' := [(6, .int (1 : Int32)), (5, .int (0 : Int32)), (0, .ref (ad 0)), (1, .ref b0), (2, .ref b1), (3, .ref b2), (4, .ref b3)]) (by decide) rfl ?_
        refine jn2_of (P := fun (x5_2 : Int32) (r3_3 : Row) => G l D X 7 (WX4 ad cy 6 24 4 6 b0 b1 b2 b3) 27 162 (h, r0, r1, r2, r3_3) 91 [(0, .ref (ad 0)), (1, .ref b0), (2, .ref b1), (3, .ref b2), (5, .int x5_2)] []) E ?_ ?_
        · intro x5_2 r3_3 E
          show G l D X 7 (WX4 ad cy 6 24 4 6 b0 b1 b2 b3) 27 162 (h, r0, r1, r2, r3_3) 91 [(0, .ref (ad 0)), (1, .ref b0), (2, .ref b1), (3, .ref b2), (5, .int x5_2)] []
          refine g_aload_n (pc' := 92) O ⟨dL_switches_91, rfl⟩ (q := 0) rfl rfl ?_
          obtain ⟨r_4, c_5, E⟩ := bd_of E
          refine g_Ui (pc' := 95) O ⟨dL_switches_92, rfl⟩ (y := yX10_routes) (As := []) (st := []) (put := (fun g => (g, r0, r1, r2, r3_3))) sub_X4_X (t_X10_routes l D ad cy (h := h) c_5) kw_986 kw_25 kw_983 kw_984 kw_985 rfl zX4_x hd_X10_routes ⟨Nat.le_of_ble_eq_true rfl, Nat.le_of_ble_eq_true rfl⟩ ⟨Nat.le_of_ble_eq_true rfl, Nat.le_of_ble_eq_true rfl⟩ rfl (Nat.le_of_ble_eq_true rfl) ?_
          show G l D X 7 (WX4 ad cy 6 24 4 6 b0 b1 b2 b3) 27 162 (r_4.2, r0, r1, r2, r3_3) 95 [(0, .ref (ad 0)), (1, .ref b0), (2, .ref b1), (3, .ref b2), (5, .int x5_2)] [.int r_4.1]
          refine g_iload (pc' := 97) O ⟨dL_switches_95, rfl⟩ (q := 4) rfl ?_
          refine g_icmp_ne (pc' := 100) O ⟨dL_switches_97, rfl⟩ E (tgt := 124) (by decide) (fun E => ?_) (fun E => ?_)
          · refine g_iconst (pc' := 125) O ⟨dL_switches_124, rfl⟩ (v := (0 : Int32)) rfl ?_
            obtain ⟨hn, E⟩ := ckz_of E
            cases E
            refine g_drop (wf := (WX3 ad cy 6 24 4 b0 b1 b2)) (h := (r_4.2, r0, r1, r2)) (List.range 38) rfl rfl (by decide) ?_
            exact hret _ _ _ _ _ (Nat.le_of_ble_eq_true rfl) (Nat.le_of_ble_eq_true rfl) ⟨dL_switches_125, rfl⟩ hn
          · refine g_aload_n (pc' := 101) O ⟨dL_switches_100, rfl⟩ (q := 0) rfl rfl ?_
            refine g_aload_n (pc' := 102) O ⟨dL_switches_101, rfl⟩ (q := 1) rfl rfl ?_
            refine g_aload_n (pc' := 103) O ⟨dL_switches_102, rfl⟩ (q := 3) rfl rfl ?_
            refine g_iconst (pc' := 104) O ⟨dL_switches_103, rfl⟩ (v := (0 : Int32)) rfl ?_
            refine g_iald (pc' := 105) O ⟨dL_switches_104, rfl⟩ zX4_2 E (fun E => ?_)
            obtain ⟨r_6, c_7, E⟩ := bd_of E
            refine g_MSi (pc' := 108) O hN ⟨dL_switches_105, rfl⟩ (y := yL_code) (As := [.ref b0, .int (r2 (0 : Int32).toNatClampNeg)]) (st := [.ref (ad 0)]) (put := (fun g => (r_4.2, g, r1, r2, r3_3))) sub_X4_A0 (t_L_code l D cy hfl b0 c_7) kw_726 kw_24 kw_724 kw_725 hd_L_code ⟨Nat.le_of_ble_eq_true rfl, Nat.le_of_ble_eq_true rfl⟩ ⟨Nat.le_of_ble_eq_true rfl, Nat.le_of_ble_eq_true rfl⟩ rfl (Nat.le_of_ble_eq_true rfl) ?_
            show G l D X 7 (WX4 ad cy 6 24 4 6 b0 b1 b2 b3) 27 162 (r_4.2, r0, r1, r2, r3_3) 108 [(0, .ref (ad 0)), (1, .ref b0), (2, .ref b1), (3, .ref b2), (5, .int x5_2)] [.int r_6, .ref (ad 0)]
            obtain ⟨z_11, c_9, e_10, E⟩ := hcatch_of E
            refine g_UXi (pc' := 111) O ⟨dL_switches_108, rfl⟩ (y := yX10_setting) (As := [.int r_6]) (st := []) (put := (fun g => (g, r0, r1, r2, r3_3))) sub_X4_X (t_X10_setting l D ad cy hfl (h := r_4.2) c_9) kw_1006 kw_25 kw_1003 kw_1004 kw_1005 rfl zX4_x hd_X10_setting ⟨Nat.le_of_ble_eq_true rfl, Nat.le_of_ble_eq_true rfl⟩ ⟨Nat.le_of_ble_eq_true rfl, Nat.le_of_ble_eq_true rfl⟩ rfl (Nat.le_of_ble_eq_true rfl) (fun E1 c q => (by cases e_10 E1 c q)) (fun r_8 q => ?_)
            replace E := E r_8 q
            show G l D X 7 (WX4 ad cy 6 24 4 6 b0 b1 b2 b3) 28 168 (r_8.2, r0, r1, r2, r3_3) 111 [(0, .ref (ad 0)), (1, .ref b0), (2, .ref b1), (3, .ref b2), (5, .int x5_2)] [.int r_8.1]
            refine g_aload_n (pc' := 112) O ⟨dL_switches_111, rfl⟩ (q := 1) rfl rfl ?_
            refine g_aload_n (pc' := 113) O ⟨dL_switches_112, rfl⟩ (q := 2) rfl rfl ?_
            refine g_aload_n (pc' := 114) O ⟨dL_switches_113, rfl⟩ (q := 3) rfl rfl ?_
            obtain ⟨r_12, c_13, E⟩ := bd_of E
            refine g_MSi (pc' := 117) O hN ⟨dL_switches_114, rfl⟩ (y := yL_setting) (As := [.ref b0, .ref b1, .ref b2]) (st := [.int r_8.1]) (put := (fun g => (r_8.2, g.1, g.2.1, g.2.2, r3_3))) sub_X4_A0_1_2 (t_L_setting l D cy hfl b0 b1 b2 c_13) kw_982 kw_24 kw_980 kw_981 hd_L_setting ⟨Nat.le_of_ble_eq_true rfl, Nat.le_of_ble_eq_true rfl⟩ ⟨Nat.le_of_ble_eq_true rfl, Nat.le_of_ble_eq_true rfl⟩ rfl (Nat.le_of_ble_eq_true rfl) ?_
            show G l D X 7 (WX4 ad cy 6 24 4 6 b0 b1 b2 b3) 29 174 (r_8.2, r0, r1, r2, r3_3) 117 [(0, .ref (ad 0)), (1, .ref b0), (2, .ref b1), (3, .ref b2), (5, .int x5_2)] [.int r_12, .int r_8.1]
            refine g_icmp_ne (pc' := 120) O ⟨dL_switches_117, rfl⟩ E (tgt := 124) (by decide) (fun E => ?_) (fun E => ?_)
            · refine g_iconst (pc' := 125) O ⟨dL_switches_124, rfl⟩ (v := (0 : Int32)) rfl ?_
              obtain ⟨hn, E⟩ := ckz_of E
              cases E
              refine g_drop (wf := (WX3 ad cy 6 24 4 b0 b1 b2)) (h := (r_8.2, r0, r1, r2)) (List.range 38) rfl rfl (by decide) ?_
              exact hret _ _ _ _ _ (Nat.le_of_ble_eq_true rfl) (Nat.le_of_ble_eq_true rfl) ⟨dL_switches_125, rfl⟩ hn
            · refine g_iconst (pc' := 121) O ⟨dL_switches_120, rfl⟩ (v := (1 : Int32)) rfl ?_
              refine g_goto (pc' := 124) O ⟨dL_switches_121, rfl⟩ (tgt := 125) (by decide) ?_
              obtain ⟨hn, E⟩ := ckz_of E
              cases E
              refine g_drop (wf := (WX3 ad cy 6 24 4 b0 b1 b2)) (h := (r_8.2, r0, r1, r2)) (List.range 38) rfl rfl (by decide) ?_
              exact hret _ _ _ _ _ (Nat.le_of_ble_eq_true rfl) (Nat.le_of_ble_eq_true rfl) ⟨dL_switches_125, rfl⟩ hn
        · intro k91 hk91 E
          refine g_sub (lv' := [(0, .ref (ad 0)), (1, .ref b0), (2, .ref b1), (3, .ref b2), (4, .ref b3), (5, .int (0 : Int32)), (6, .int (1 : Int32))]) [2, 3, 4, 5, 6, 1, 0] rfl ?_
          refine fxc3_of (P := fun (m53 : Nat) (x5_14 : Int32) (x6_15 : Int32) (r3_16 : Row) => ∀ kq53 nq53 : Nat, kq53 + m53 * 1 ≤ 27 → nq53 + m53 * 6 ≤ 162 → G l D X 7 (WX4 ad cy 6 24 4 6 b0 b1 b2 b3) kq53 nq53 (h, r0, r1, r2, r3_16) 53 [(0, .ref (ad 0)), (1, .ref b0), (2, .ref b1), (3, .ref b2), (4, .ref b3), (5, .int x5_14), (6, .int x6_15)] []) ?_ 26 _ _ _ E 1 6 (Nat.le_refl _) (Nat.le_refl _)
          intro m53 self ih53 x5_14 x6_15 r3_16 E kq53 nq53 hkq53 hnq53
          show G l D X 7 (WX4 ad cy 6 24 4 6 b0 b1 b2 b3) kq53 nq53 (h, r0, r1, r2, r3_16) 53 [(0, .ref (ad 0)), (1, .ref b0), (2, .ref b1), (3, .ref b2), (4, .ref b3), (5, .int x5_14), (6, .int x6_15)] []
          unfold L_L_switches_53 at E
          refine g_iload (pc' := 55) O ⟨dL_switches_53, rfl⟩ (q := 6) rfl ?_
          refine g_if_eq (pc' := 58) O ⟨dL_switches_55, rfl⟩ E (tgt := 91) (by decide) (fun E => ?_) (fun E => ?_)
          · refine g_sub (lv' := [(0, .ref (ad 0)), (1, .ref b0), (2, .ref b1), (3, .ref b2), (5, .int x5_14)]) [0, 1, 2, 3, 5] rfl ?_
            refine g_widen (k1 := 27) (n1 := 162) (ar_tr (d := 0) hkq53 (Nat.le_of_ble_eq_true rfl) (Nat.le_of_ble_eq_true rfl)) (ar_tr (d := 0) hnq53 (Nat.le_of_ble_eq_true rfl) (Nat.le_of_ble_eq_true rfl)) ?_
            exact hk91 _ _ E
          · refine g_iload (pc' := 60) O ⟨dL_switches_58, rfl⟩ (q := 5) rfl ?_
            refine g_aload (pc' := 62) O ⟨dL_switches_60, rfl⟩ (q := 4) rfl ?_
            refine g_aload_n (pc' := 63) O ⟨dL_switches_62, rfl⟩ (q := 2) rfl rfl ?_
            refine g_aload_n (pc' := 64) O ⟨dL_switches_63, rfl⟩ (q := 3) rfl rfl ?_
            obtain ⟨r_17, c_18, E⟩ := bd_of E
            refine g_MSi (pc' := 67) O hN ⟨dL_switches_64, rfl⟩ (y := yL_setting) (As := [.ref b3, .ref b1, .ref b2]) (st := [.int x5_14]) (put := (fun g => (h, r0, g.2.1, g.2.2, g.1))) sub_X4_A3_1_2 (t_L_setting l D cy hfl b3 b1 b2 c_18) kw_982 kw_24 kw_980 kw_981 hd_L_setting ⟨Nat.le_of_ble_eq_true rfl, Nat.le_of_ble_eq_true rfl⟩ ⟨ar_tr (d := 1) hkq53 (Nat.le_of_ble_eq_true rfl) (Nat.le_of_ble_eq_true rfl), ar_tr (d := 6) hnq53 (Nat.le_of_ble_eq_true rfl) (Nat.le_of_ble_eq_true rfl)⟩ rfl (Nat.le_of_ble_eq_true rfl) ?_
            show G l D X 7 (WX4 ad cy 6 24 4 6 b0 b1 b2 b3) (kq53 + 1) (nq53 + 6) (h, r0, r1, r2, r3_16) 67 [(0, .ref (ad 0)), (1, .ref b0), (2, .ref b1), (3, .ref b2), (4, .ref b3), (5, .int x5_14), (6, .int x6_15)] [.int r_17, .int x5_14]
            refine jn1_of (P := fun (z_19 : Int32) => G l D X 7 (WX4 ad cy 6 24 4 6 b0 b1 b2 b3) (kq53 + 1) (nq53 + 6) (h, r0, r1, r2, r3_16) 75 [(0, .ref (ad 0)), (1, .ref b0), (2, .ref b1), (3, .ref b2), (4, .ref b3)] [.int z_19, .int x5_14]) E ?_ ?_
            · intro z_19 E
              show G l D X 7 (WX4 ad cy 6 24 4 6 b0 b1 b2 b3) (kq53 + 1) (nq53 + 6) (h, r0, r1, r2, r3_16) 75 [(0, .ref (ad 0)), (1, .ref b0), (2, .ref b1), (3, .ref b2), (4, .ref b3)] [.int z_19, .int x5_14]
              refine g_iadd (pc' := 76) O ⟨dL_switches_75, rfl⟩ ?_
              refine g_nm E (fun y5_20 E => ?_)
              refine g_istore (pc' := 78) O ⟨dL_switches_76, rfl⟩ (lv' := [(5, .int y5_20), (0, .ref (ad 0)), (1, .ref b0), (2, .ref b1), (3, .ref b2), (4, .ref b3)]) (by decide) rfl ?_
              refine g_aload (pc' := 80) O ⟨dL_switches_78, rfl⟩ (q := 5) rfl ?_
              refine g_aload_n (pc' := 81) O ⟨dL_switches_80, rfl⟩ (q := 4) rfl rfl ?_
              refine g_iconst (pc' := 82) O ⟨dL_switches_81, rfl⟩ (v := (0 : Int32)) rfl ?_
              refine g_iald (pc' := 83) O ⟨dL_switches_82, rfl⟩ zX4_2 E (fun E => ?_)
              obtain ⟨r_21, c_22, E⟩ := bd_of E
              refine g_MSi (pc' := 86) O hN ⟨dL_switches_83, rfl⟩ (y := yL_next) (As := [.ref b3, .int (r2 (0 : Int32).toNatClampNeg)]) (st := []) (put := (fun g => (h, r0, r1, r2, g))) sub_X4_A3 (t_L_next l D cy hfl b3 c_22) kw_553 kw_24 kw_551 kw_552 hd_L_next ⟨Nat.le_of_ble_eq_true rfl, Nat.le_of_ble_eq_true rfl⟩ ⟨ar_tr (d := 1) hkq53 (Nat.le_of_ble_eq_true rfl) (Nat.le_of_ble_eq_true rfl), ar_tr (d := 6) hnq53 (Nat.le_of_ble_eq_true rfl) (Nat.le_of_ble_eq_true rfl)⟩ rfl (Nat.le_of_ble_eq_true rfl) ?_
              show G l D X 7 (WX4 ad cy 6 24 4 6 b0 b1 b2 b3) (kq53 + 1) (nq53 + 6) (h, r0, r1, r2, r_21.2) 86 [(5, .int y5_20), (0, .ref (ad 0)), (1, .ref b0), (2, .ref b1), (3, .ref b2), (4, .ref b3)] [.int r_21.1]
              refine g_istore (pc' := 88) O ⟨dL_switches_86, rfl⟩ (lv' := [(6, .int r_21.1), (5, .int y5_20), (0, .ref (ad 0)), (1, .ref b0), (2, .ref b1), (3, .ref b2), (4, .ref b3)]) (by decide) rfl ?_
              refine g_goto (pc' := 91) O ⟨dL_switches_88, rfl⟩ (tgt := 53) (by decide) ?_
              refine g_sub (lv' := [(0, .ref (ad 0)), (1, .ref b0), (2, .ref b1), (3, .ref b2), (4, .ref b3), (5, .int y5_20), (6, .int r_21.1)]) [2, 3, 4, 5, 6, 1, 0] rfl ?_
              exact ih53 _ _ _ E _ _ (ar_bk (d := 1) hkq53 (Nat.le_of_ble_eq_true rfl)) (ar_bk (d := 6) hnq53 (Nat.le_of_ble_eq_true rfl))
            · intro k75 hk75 E
              refine g_if_lt (pc' := 70) O ⟨dL_switches_67, rfl⟩ E (tgt := 74) (by decide) (fun E => ?_) (fun E => ?_)
              · refine g_iconst (pc' := 75) O ⟨dL_switches_74, rfl⟩ (v := (0 : Int32)) rfl ?_
                refine g_sub (lv' := [(0, .ref (ad 0)), (1, .ref b0), (2, .ref b1), (3, .ref b2), (4, .ref b3)]) [0, 1, 2, 3, 4] rfl ?_
                exact hk75 _ E
              · refine g_iconst (pc' := 71) O ⟨dL_switches_70, rfl⟩ (v := (1 : Int32)) rfl ?_
                refine g_goto (pc' := 74) O ⟨dL_switches_71, rfl⟩ (tgt := 75) (by decide) ?_
                refine g_sub (lv' := [(0, .ref (ad 0)), (1, .ref b0), (2, .ref b1), (3, .ref b2), (4, .ref b3)]) [0, 1, 2, 3, 4] rfl ?_
                exact hk75 _ E
      · intro k47 hk47 E
        refine g_sub (lv' := [(0, .ref (ad 0)), (1, .ref b0), (2, .ref b1), (3, .ref b2), (4, .ref b3), (5, .int (0 : Int32))]) [2, 3, 4, 5, 1, 0] rfl ?_
        refine fx2_of (P := fun (x5_23 : Int32) (r3_24 : Row) => G l D X 7 (WX4 ad cy 6 24 4 6 b0 b1 b2 b3) 1 6 (h, r0, r1, r2, r3_24) 26 [(0, .ref (ad 0)), (1, .ref b0), (2, .ref b1), (3, .ref b2), (4, .ref b3), (5, .int x5_23)] []) ?_ _ _ _ E
        intro self ih26 x5_23 r3_24 E
        show G l D X 7 (WX4 ad cy 6 24 4 6 b0 b1 b2 b3) 1 6 (h, r0, r1, r2, r3_24) 26 [(0, .ref (ad 0)), (1, .ref b0), (2, .ref b1), (3, .ref b2), (4, .ref b3), (5, .int x5_23)] []
        unfold L_L_switches_26 at E
        refine g_iload (pc' := 28) O ⟨dL_switches_26, rfl⟩ (q := 5) rfl ?_
        refine g_aload_n (pc' := 29) O ⟨dL_switches_28, rfl⟩ (q := 3) rfl rfl ?_
        refine g_iconst (pc' := 30) O ⟨dL_switches_29, rfl⟩ (v := (0 : Int32)) rfl ?_
        refine g_iald (pc' := 31) O ⟨dL_switches_30, rfl⟩ zX4_2 E (fun E => ?_)
        refine g_icmp_ge (pc' := 34) O ⟨dL_switches_31, rfl⟩ E (tgt := 47) (by decide) (fun E => ?_) (fun E => ?_)
        · refine g_sub (lv' := [(0, .ref (ad 0)), (1, .ref b0), (2, .ref b1), (3, .ref b2), (4, .ref b3)]) [0, 1, 2, 3, 4] rfl ?_
          exact hk47 _ E
        · refine g_aload (pc' := 36) O ⟨dL_switches_34, rfl⟩ (q := 4) rfl ?_
          refine g_iload (pc' := 38) O ⟨dL_switches_36, rfl⟩ (q := 5) rfl ?_
          refine g_iload (pc' := 40) O ⟨dL_switches_38, rfl⟩ (q := 5) rfl ?_
          refine g_iast (pc' := 41) O ⟨dL_switches_40, rfl⟩ zX4_3 zsX4_3 E (fun E => ?_)
          refine g_nmr (Go := fun (r3_25 : Row) => G l D X 7 (WX4 ad cy 6 24 4 6 b0 b1 b2 b3) 1 6 (h, r0, r1, r2, r3_25) 41 [(0, .ref (ad 0)), (1, .ref b0), (2, .ref b1), (3, .ref b2), (4, .ref b3), (5, .int x5_23)] []) E (fun r3_25 E => ?_)
          show G l D X 7 (WX4 ad cy 6 24 4 6 b0 b1 b2 b3) 1 6 (h, r0, r1, r2, r3_25) 41 [(0, .ref (ad 0)), (1, .ref b0), (2, .ref b1), (3, .ref b2), (4, .ref b3), (5, .int x5_23)] []
          refine g_iinc (pc' := 44) O ⟨dL_switches_41, rfl⟩ (q := 5) (v := x5_23 + (1 : Int32)) (lv' := [(5, .int (x5_23 + (1 : Int32))), (0, .ref (ad 0)), (1, .ref b0), (2, .ref b1), (3, .ref b2), (4, .ref b3)]) rfl rfl (by decide) rfl ?_
          refine g_goto (pc' := 47) O ⟨dL_switches_44, rfl⟩ (tgt := 26) (by decide) ?_
          refine g_sub (lv' := [(0, .ref (ad 0)), (1, .ref b0), (2, .ref b1), (3, .ref b2), (4, .ref b3), (5, .int (x5_23 + (1 : Int32)))]) [1, 2, 3, 4, 5, 0] rfl ?_
          exact ih26 _ _ E
    · refine g_iconst (pc' := 16) O ⟨dL_switches_15, rfl⟩ (v := (1 : Int32)) rfl ?_
      obtain ⟨hn, E⟩ := ckz_of E
      cases E
      exact hret _ _ _ _ _ (Nat.le_of_ble_eq_true rfl) (Nat.le_of_ble_eq_true rfl) ⟨dL_switches_16, rfl⟩ hn
set_option maxRecDepth 100000 in
set_option maxHeartbeats 4000000 in
theorem t_L_done (l : Launch) (D : va_G) (cy : Nat → ClassId) (hfl : l.stackTraces = false) (b0 : Nat) (b1 : Nat) {x0 : Int32} {x1 : Int32} {r0 : Row} {r1 : Row} {o : Int32 × Row} (E : f_L_done x0 x1 r0 r1 = some o) : CtMI l D cy (WA2 cy 24 4 b0 b1) yL_done cL_done 9 .boolean 1 32 0 0 [.int x0, .int x1, .ref b0, .ref b1] (r0, r1) o.1 (o.2, r1) := by
  refine sMI (own := RL) rfl rfl (Nat.le_of_ble_eq_true rfl) (fun X O hN hret => ?_)
  show G l D X 9 (WA2 cy 24 4 b0 b1) 0 0 (r0, r1) 0 [(0, .int x0), (1, .int x1), (2, .ref b0), (3, .ref b1)] []
  unfold f_L_done at E
  refine g_aload_n (pc' := 1) O ⟨dL_done_0, rfl⟩ (q := 3) rfl rfl ?_
  refine g_iconst (pc' := 2) O ⟨dL_done_1, rfl⟩ (v := (0 : Int32)) rfl ?_
  refine g_iald (pc' := 3) O ⟨dL_done_2, rfl⟩ zA2_1 E (fun E => ?_)
  refine g_istore (pc' := 5) O ⟨dL_done_3, rfl⟩ (lv' := [(4, .int (r1 (0 : Int32).toNatClampNeg)), (0, .int x0), (1, .int x1), (2, .ref b0), (3, .ref b1)]) (by decide) rfl ?_
  refine g_aload_n (pc' := 6) O ⟨dL_done_5, rfl⟩ (q := 4) rfl rfl ?_
  refine g_iconst (pc' := 7) O ⟨dL_done_6, rfl⟩ (v := (1 : Int32)) rfl ?_
  refine g_iald (pc' := 8) O ⟨dL_done_7, rfl⟩ zA2_1 E (fun E => ?_)
  refine g_istore (pc' := 10) O ⟨dL_done_8, rfl⟩ (lv' := [(5, .int (r1 (1 : Int32).toNatClampNeg)), (4, .int (r1 (0 : Int32).toNatClampNeg)), (0, .int x0), (1, .int x1), (2, .ref b0), (3, .ref b1)]) (by decide) rfl ?_
  refine g_iload (pc' := 12) O ⟨dL_done_10, rfl⟩ (q := 0) rfl ?_
  refine g_istore (pc' := 14) O ⟨dL_done_12, rfl⟩ (lv' := [(6, .int (r1 (1 : Int32).toNatClampNeg)), (5, .int (r1 (1 : Int32).toNatClampNeg)), (4, .int (r1 (0 : Int32).toNatClampNeg)), (0, .int x0), (1, .int x1), (2, .ref b0), (3, .ref b1)]) (by decide) rfl ?_
  refine g_iconst (pc' := 15) O ⟨dL_done_14, rfl⟩ (v := (1 : Int32)) rfl ?_
  refine g_istore (pc' := 17) O ⟨dL_done_15, rfl⟩ (lv' := [(7, .int (1 : Int32)), (6, .int (r1 (1 : Int32).toNatClampNeg)), (5, .int (r1 (1 : Int32).toNatClampNeg)), (4, .int (r1 (0 : Int32).toNatClampNeg)), (0, .int x0), (1, .int x1), (2, .ref b0), (3, .ref b1)]) (by decide) rfl ?_
  refine g_iload_n (pc' := 18) O ⟨dL_done_17, rfl⟩ (q := 4) rfl rfl ?_
  refine jn2_of (P := fun (x6_1 : Int32) (r0_2 : Row) => G l D X 9 (WA2 cy 24 4 b0 b1) 0 0 (r0_2, r1) 40 [(1, .int x1), (2, .ref b0), (4, .int (r1 (0 : Int32).toNatClampNeg)), (6, .int x6_1), (7, .int (1 : Int32))] []) E ?_ ?_
  · intro x6_1 r0_2 E
    show G l D X 9 (WA2 cy 24 4 b0 b1) 0 0 (r0_2, r1) 40 [(1, .int x1), (2, .ref b0), (4, .int (r1 (0 : Int32).toNatClampNeg)), (6, .int x6_1), (7, .int (1 : Int32))] []
    refine g_iload_n (pc' := 41) O ⟨dL_done_40, rfl⟩ (q := 0) rfl rfl ?_
    refine g_if_lt (pc' := 44) O ⟨dL_done_41, rfl⟩ E (tgt := 63) (by decide) (fun E => ?_) (fun E => ?_)
    · refine g_iconst (pc' := 64) O ⟨dL_done_63, rfl⟩ (v := (0 : Int32)) rfl ?_
      refine g_istore (pc' := 66) O ⟨dL_done_64, rfl⟩ (lv' := [(8, .int (0 : Int32)), (1, .int x1), (2, .ref b0), (4, .int (r1 (0 : Int32).toNatClampNeg)), (6, .int x6_1), (7, .int (1 : Int32))]) (by decide) rfl ?_
      refine jn1_of (P := fun (x7_3 : Int32) => G l D X 9 (WA2 cy 24 4 b0 b1) 0 0 (r0_2, r1) 104 [(7, .int x7_3)] []) E ?_ ?_
      · intro x7_3 E
        show G l D X 9 (WA2 cy 24 4 b0 b1) 0 0 (r0_2, r1) 104 [(7, .int x7_3)] []
        refine g_iload (pc' := 106) O ⟨dL_done_104, rfl⟩ (q := 0) rfl ?_
        obtain ⟨hn, E⟩ := ckz_of E
        cases E
        exact hret _ _ _ _ _ (Nat.le_of_ble_eq_true rfl) (Nat.le_of_ble_eq_true rfl) ⟨dL_done_106, rfl⟩ hn
      · intro k104 hk104 E
        refine g_sub (lv' := [(2, .ref b0), (4, .int (r1 (0 : Int32).toNatClampNeg)), (6, .int x6_1), (7, .int (1 : Int32)), (8, .int (0 : Int32))]) [2, 3, 4, 5, 0] rfl ?_
        refine fx2_of (P := fun (x7_4 : Int32) (x8_5 : Int32) => G l D X 9 (WA2 cy 24 4 b0 b1) 0 0 (r0_2, r1) 66 [(2, .ref b0), (4, .int (r1 (0 : Int32).toNatClampNeg)), (6, .int x6_1), (7, .int x7_4), (8, .int x8_5)] []) ?_ _ _ _ E
        intro self ih66 x7_4 x8_5 E
        show G l D X 9 (WA2 cy 24 4 b0 b1) 0 0 (r0_2, r1) 66 [(2, .ref b0), (4, .int (r1 (0 : Int32).toNatClampNeg)), (6, .int x6_1), (7, .int x7_4), (8, .int x8_5)] []
        unfold L_L_done_66 at E
        refine g_iload (pc' := 68) O ⟨dL_done_66, rfl⟩ (q := 4) rfl ?_
        refine g_iconst (pc' := 69) O ⟨dL_done_68, rfl⟩ (v := (1 : Int32)) rfl ?_
        refine g_iload (pc' := 71) O ⟨dL_done_69, rfl⟩ (q := 1) rfl ?_
        refine g_ishl (pc' := 72) O ⟨dL_done_71, rfl⟩ ?_
        refine g_icmp_ge (pc' := 75) O ⟨dL_done_72, rfl⟩ E (tgt := 104) (by decide) (fun E => ?_) (fun E => ?_)
        · refine g_sub (lv' := [(7, .int x7_4)]) [3] rfl ?_
          exact hk104 _ E
        · refine g_iload (pc' := 77) O ⟨dL_done_75, rfl⟩ (q := 3) rfl ?_
          refine g_if_eq (pc' := 80) O ⟨dL_done_77, rfl⟩ E (tgt := 104) (by decide) (fun E => ?_) (fun E => ?_)
          · refine g_sub (lv' := [(7, .int x7_4)]) [3] rfl ?_
            exact hk104 _ E
          · refine g_iload (pc' := 82) O ⟨dL_done_80, rfl⟩ (q := 4) rfl ?_
            refine g_iload (pc' := 84) O ⟨dL_done_82, rfl⟩ (q := 2) rfl ?_
            refine g_iconst (pc' := 85) O ⟨dL_done_84, rfl⟩ (v := (-1 : Int32)) rfl ?_
            refine g_iconst (pc' := 86) O ⟨dL_done_85, rfl⟩ (v := (0 : Int32)) rfl ?_
            refine g_aload_n (pc' := 87) O ⟨dL_done_86, rfl⟩ (q := 0) rfl rfl ?_
            obtain ⟨r_6, c_7, E⟩ := bd_of E
            refine g_MSi (pc' := 90) O hN ⟨dL_done_87, rfl⟩ (y := yL_out) (As := [.int x8_5, .int x6_1, .int (-1 : Int32), .int (0 : Int32), .ref b0]) (st := []) (put := (fun g => (g, r1))) sub_A2_A0 (t_L_out l D cy hfl b0 c_7) kw_565 kw_24 kw_563 kw_564 hd_L_out ⟨Nat.le_of_ble_eq_true rfl, Nat.le_of_ble_eq_true rfl⟩ ⟨Nat.le_of_ble_eq_true rfl, Nat.le_of_ble_eq_true rfl⟩ rfl (Nat.le_of_ble_eq_true rfl) ?_
            show G l D X 9 (WA2 cy 24 4 b0 b1) 0 0 (r0_2, r1) 90 [(2, .ref b0), (4, .int (r1 (0 : Int32).toNatClampNeg)), (6, .int x6_1), (7, .int x7_4), (8, .int x8_5)] [.int r_6]
            refine g_iconst (pc' := 91) O ⟨dL_done_90, rfl⟩ (v := (0 : Int32)) rfl ?_
            refine g_iload (pc' := 93) O ⟨dL_done_91, rfl⟩ (q := 1) rfl ?_
            obtain ⟨r_8, c_9, E⟩ := bd_of E
            refine g_MSi (pc' := 96) O hN ⟨dL_done_93, rfl⟩ (y := yL_upright) (As := [.int r_6, .int (0 : Int32), .int (r1 (0 : Int32).toNatClampNeg)]) (st := []) (put := (fun g => (r0_2, r1))) sub_A2_A (t_L_upright l D cy hfl c_9) kw_717 kw_24 kw_715 kw_716 hd_L_upright ⟨Nat.le_of_ble_eq_true rfl, Nat.le_of_ble_eq_true rfl⟩ ⟨Nat.le_of_ble_eq_true rfl, Nat.le_of_ble_eq_true rfl⟩ rfl (Nat.le_of_ble_eq_true rfl) ?_
            show G l D X 9 (WA2 cy 24 4 b0 b1) 0 0 (r0_2, r1) 96 [(2, .ref b0), (4, .int (r1 (0 : Int32).toNatClampNeg)), (6, .int x6_1), (7, .int x7_4), (8, .int x8_5)] [.int r_8]
            refine g_istore (pc' := 98) O ⟨dL_done_96, rfl⟩ (lv' := [(7, .int r_8), (2, .ref b0), (4, .int (r1 (0 : Int32).toNatClampNeg)), (6, .int x6_1), (8, .int x8_5)]) (by decide) rfl ?_
            refine g_iinc (pc' := 101) O ⟨dL_done_98, rfl⟩ (q := 4) (v := x8_5 + (1 : Int32)) (lv' := [(8, .int (x8_5 + (1 : Int32))), (7, .int r_8), (2, .ref b0), (4, .int (r1 (0 : Int32).toNatClampNeg)), (6, .int x6_1)]) rfl rfl (by decide) rfl ?_
            refine g_goto (pc' := 104) O ⟨dL_done_101, rfl⟩ (tgt := 66) (by decide) ?_
            refine g_sub (lv' := [(2, .ref b0), (4, .int (r1 (0 : Int32).toNatClampNeg)), (6, .int x6_1), (7, .int r_8), (8, .int (x8_5 + (1 : Int32)))]) [2, 3, 4, 1, 0] rfl ?_
            exact ih66 _ _ E
    · refine g_aload_n (pc' := 45) O ⟨dL_done_44, rfl⟩ (q := 1) rfl rfl ?_
      refine g_iload (pc' := 47) O ⟨dL_done_45, rfl⟩ (q := 3) rfl ?_
      refine g_iload_n (pc' := 48) O ⟨dL_done_47, rfl⟩ (q := 0) rfl rfl ?_
      refine g_iload (pc' := 50) O ⟨dL_done_48, rfl⟩ (q := 2) rfl ?_
      obtain ⟨nz_50, E⟩ := nz_of E
      refine g_idiv (pc' := 51) O ⟨dL_done_50, rfl⟩ nz_50 ?_
      refine g_bipush (pc' := 53) O ⟨dL_done_51, rfl⟩ (v := (8 : Int32)) rfl ?_
      refine g_iload_n (pc' := 54) O ⟨dL_done_53, rfl⟩ (q := 0) rfl rfl ?_
      refine g_iload (pc' := 56) O ⟨dL_done_54, rfl⟩ (q := 2) rfl ?_
      obtain ⟨nz_56, E⟩ := nz_of E
      refine g_irem (pc' := 57) O ⟨dL_done_56, rfl⟩ nz_56 ?_
      refine g_imul (pc' := 58) O ⟨dL_done_57, rfl⟩ ?_
      refine g_iadd (pc' := 59) O ⟨dL_done_58, rfl⟩ ?_
      refine g_iast (pc' := 60) O ⟨dL_done_59, rfl⟩ zA2_0 zsA2_0 E (fun E => ?_)
      refine g_nmr (Go := fun (r0_10 : Row) => G l D X 9 (WA2 cy 24 4 b0 b1) 0 0 (r0_10, r1) 60 [(1, .int x1), (2, .ref b0), (4, .int (r1 (0 : Int32).toNatClampNeg)), (6, .int x6_1), (7, .int (1 : Int32))] []) E (fun r0_10 E => ?_)
      show G l D X 9 (WA2 cy 24 4 b0 b1) 0 0 (r0_10, r1) 60 [(1, .int x1), (2, .ref b0), (4, .int (r1 (0 : Int32).toNatClampNeg)), (6, .int x6_1), (7, .int (1 : Int32))] []
      refine g_iinc (pc' := 63) O ⟨dL_done_60, rfl⟩ (q := 3) (v := x6_1 + (1 : Int32)) (lv' := [(6, .int (x6_1 + (1 : Int32))), (1, .int x1), (2, .ref b0), (4, .int (r1 (0 : Int32).toNatClampNeg)), (7, .int (1 : Int32))]) rfl rfl (by decide) rfl ?_
      refine g_iconst (pc' := 64) O ⟨dL_done_63, rfl⟩ (v := (0 : Int32)) rfl ?_
      refine g_istore (pc' := 66) O ⟨dL_done_64, rfl⟩ (lv' := [(8, .int (0 : Int32)), (6, .int (x6_1 + (1 : Int32))), (1, .int x1), (2, .ref b0), (4, .int (r1 (0 : Int32).toNatClampNeg)), (7, .int (1 : Int32))]) (by decide) rfl ?_
      refine jn1_of (P := fun (x7_11 : Int32) => G l D X 9 (WA2 cy 24 4 b0 b1) 0 0 (r0_10, r1) 104 [(7, .int x7_11)] []) E ?_ ?_
      · intro x7_11 E
        show G l D X 9 (WA2 cy 24 4 b0 b1) 0 0 (r0_10, r1) 104 [(7, .int x7_11)] []
        refine g_iload (pc' := 106) O ⟨dL_done_104, rfl⟩ (q := 0) rfl ?_
        obtain ⟨hn, E⟩ := ckz_of E
        cases E
        exact hret _ _ _ _ _ (Nat.le_of_ble_eq_true rfl) (Nat.le_of_ble_eq_true rfl) ⟨dL_done_106, rfl⟩ hn
      · intro k104 hk104 E
        refine g_sub (lv' := [(2, .ref b0), (4, .int (r1 (0 : Int32).toNatClampNeg)), (6, .int (x6_1 + (1 : Int32))), (7, .int (1 : Int32)), (8, .int (0 : Int32))]) [3, 4, 1, 5, 0] rfl ?_
        refine fx2_of (P := fun (x7_12 : Int32) (x8_13 : Int32) => G l D X 9 (WA2 cy 24 4 b0 b1) 0 0 (r0_10, r1) 66 [(2, .ref b0), (4, .int (r1 (0 : Int32).toNatClampNeg)), (6, .int (x6_1 + (1 : Int32))), (7, .int x7_12), (8, .int x8_13)] []) ?_ _ _ _ E
        intro self ih66 x7_12 x8_13 E
        show G l D X 9 (WA2 cy 24 4 b0 b1) 0 0 (r0_10, r1) 66 [(2, .ref b0), (4, .int (r1 (0 : Int32).toNatClampNeg)), (6, .int (x6_1 + (1 : Int32))), (7, .int x7_12), (8, .int x8_13)] []
        unfold L_L_done_66 at E
        refine g_iload (pc' := 68) O ⟨dL_done_66, rfl⟩ (q := 4) rfl ?_
        refine g_iconst (pc' := 69) O ⟨dL_done_68, rfl⟩ (v := (1 : Int32)) rfl ?_
        refine g_iload (pc' := 71) O ⟨dL_done_69, rfl⟩ (q := 1) rfl ?_
        refine g_ishl (pc' := 72) O ⟨dL_done_71, rfl⟩ ?_
        refine g_icmp_ge (pc' := 75) O ⟨dL_done_72, rfl⟩ E (tgt := 104) (by decide) (fun E => ?_) (fun E => ?_)
        · refine g_sub (lv' := [(7, .int x7_12)]) [3] rfl ?_
          exact hk104 _ E
        · refine g_iload (pc' := 77) O ⟨dL_done_75, rfl⟩ (q := 3) rfl ?_
          refine g_if_eq (pc' := 80) O ⟨dL_done_77, rfl⟩ E (tgt := 104) (by decide) (fun E => ?_) (fun E => ?_)
          · refine g_sub (lv' := [(7, .int x7_12)]) [3] rfl ?_
            exact hk104 _ E
          · refine g_iload (pc' := 82) O ⟨dL_done_80, rfl⟩ (q := 4) rfl ?_
            refine g_iload (pc' := 84) O ⟨dL_done_82, rfl⟩ (q := 2) rfl ?_
            refine g_iconst (pc' := 85) O ⟨dL_done_84, rfl⟩ (v := (-1 : Int32)) rfl ?_
            refine g_iconst (pc' := 86) O ⟨dL_done_85, rfl⟩ (v := (0 : Int32)) rfl ?_
            refine g_aload_n (pc' := 87) O ⟨dL_done_86, rfl⟩ (q := 0) rfl rfl ?_
            obtain ⟨r_14, c_15, E⟩ := bd_of E
            refine g_MSi (pc' := 90) O hN ⟨dL_done_87, rfl⟩ (y := yL_out) (As := [.int x8_13, .int (x6_1 + (1 : Int32)), .int (-1 : Int32), .int (0 : Int32), .ref b0]) (st := []) (put := (fun g => (g, r1))) sub_A2_A0 (t_L_out l D cy hfl b0 c_15) kw_565 kw_24 kw_563 kw_564 hd_L_out ⟨Nat.le_of_ble_eq_true rfl, Nat.le_of_ble_eq_true rfl⟩ ⟨Nat.le_of_ble_eq_true rfl, Nat.le_of_ble_eq_true rfl⟩ rfl (Nat.le_of_ble_eq_true rfl) ?_
            show G l D X 9 (WA2 cy 24 4 b0 b1) 0 0 (r0_10, r1) 90 [(2, .ref b0), (4, .int (r1 (0 : Int32).toNatClampNeg)), (6, .int (x6_1 + (1 : Int32))), (7, .int x7_12), (8, .int x8_13)] [.int r_14]
            refine g_iconst (pc' := 91) O ⟨dL_done_90, rfl⟩ (v := (0 : Int32)) rfl ?_
            refine g_iload (pc' := 93) O ⟨dL_done_91, rfl⟩ (q := 1) rfl ?_
            obtain ⟨r_16, c_17, E⟩ := bd_of E
            refine g_MSi (pc' := 96) O hN ⟨dL_done_93, rfl⟩ (y := yL_upright) (As := [.int r_14, .int (0 : Int32), .int (r1 (0 : Int32).toNatClampNeg)]) (st := []) (put := (fun g => (r0_10, r1))) sub_A2_A (t_L_upright l D cy hfl c_17) kw_717 kw_24 kw_715 kw_716 hd_L_upright ⟨Nat.le_of_ble_eq_true rfl, Nat.le_of_ble_eq_true rfl⟩ ⟨Nat.le_of_ble_eq_true rfl, Nat.le_of_ble_eq_true rfl⟩ rfl (Nat.le_of_ble_eq_true rfl) ?_
            show G l D X 9 (WA2 cy 24 4 b0 b1) 0 0 (r0_10, r1) 96 [(2, .ref b0), (4, .int (r1 (0 : Int32).toNatClampNeg)), (6, .int (x6_1 + (1 : Int32))), (7, .int x7_12), (8, .int x8_13)] [.int r_16]
            refine g_istore (pc' := 98) O ⟨dL_done_96, rfl⟩ (lv' := [(7, .int r_16), (2, .ref b0), (4, .int (r1 (0 : Int32).toNatClampNeg)), (6, .int (x6_1 + (1 : Int32))), (8, .int x8_13)]) (by decide) rfl ?_
            refine g_iinc (pc' := 101) O ⟨dL_done_98, rfl⟩ (q := 4) (v := x8_13 + (1 : Int32)) (lv' := [(8, .int (x8_13 + (1 : Int32))), (7, .int r_16), (2, .ref b0), (4, .int (r1 (0 : Int32).toNatClampNeg)), (6, .int (x6_1 + (1 : Int32)))]) rfl rfl (by decide) rfl ?_
            refine g_goto (pc' := 104) O ⟨dL_done_101, rfl⟩ (tgt := 66) (by decide) ?_
            refine g_sub (lv' := [(2, .ref b0), (4, .int (r1 (0 : Int32).toNatClampNeg)), (6, .int (x6_1 + (1 : Int32))), (7, .int r_16), (8, .int (x8_13 + (1 : Int32)))]) [2, 3, 4, 1, 0] rfl ?_
            exact ih66 _ _ E
  · intro k40 hk40 E
    refine g_if_lt (pc' := 21) O ⟨dL_done_18, rfl⟩ E (tgt := 40) (by decide) (fun E => ?_) (fun E => ?_)
    · refine g_sub (lv' := [(1, .int x1), (2, .ref b0), (4, .int (r1 (0 : Int32).toNatClampNeg)), (6, .int (r1 (1 : Int32).toNatClampNeg)), (7, .int (1 : Int32))]) [5, 6, 3, 1, 0] rfl ?_
      exact hk40 _ _ E
    · refine g_aload_n (pc' := 22) O ⟨dL_done_21, rfl⟩ (q := 6) rfl rfl ?_
      refine g_iload (pc' := 24) O ⟨dL_done_22, rfl⟩ (q := 1) rfl ?_
      refine g_iload_n (pc' := 25) O ⟨dL_done_24, rfl⟩ (q := 4) rfl rfl ?_
      refine g_iload (pc' := 27) O ⟨dL_done_25, rfl⟩ (q := 3) rfl ?_
      obtain ⟨nz_27, E⟩ := nz_of E
      refine g_idiv (pc' := 28) O ⟨dL_done_27, rfl⟩ nz_27 ?_
      refine g_bipush (pc' := 30) O ⟨dL_done_28, rfl⟩ (v := (8 : Int32)) rfl ?_
      refine g_iload_n (pc' := 31) O ⟨dL_done_30, rfl⟩ (q := 4) rfl rfl ?_
      refine g_iload (pc' := 33) O ⟨dL_done_31, rfl⟩ (q := 3) rfl ?_
      obtain ⟨nz_33, E⟩ := nz_of E
      refine g_irem (pc' := 34) O ⟨dL_done_33, rfl⟩ nz_33 ?_
      refine g_imul (pc' := 35) O ⟨dL_done_34, rfl⟩ ?_
      refine g_iadd (pc' := 36) O ⟨dL_done_35, rfl⟩ ?_
      refine g_iast (pc' := 37) O ⟨dL_done_36, rfl⟩ zA2_0 zsA2_0 E (fun E => ?_)
      refine g_nmr (Go := fun (r0_18 : Row) => G l D X 9 (WA2 cy 24 4 b0 b1) 0 0 (r0_18, r1) 37 [(7, .int (1 : Int32)), (6, .int (r1 (1 : Int32).toNatClampNeg)), (5, .int (r1 (1 : Int32).toNatClampNeg)), (4, .int (r1 (0 : Int32).toNatClampNeg)), (0, .int x0), (1, .int x1), (2, .ref b0), (3, .ref b1)] []) E (fun r0_18 E => ?_)
      show G l D X 9 (WA2 cy 24 4 b0 b1) 0 0 (r0_18, r1) 37 [(7, .int (1 : Int32)), (6, .int (r1 (1 : Int32).toNatClampNeg)), (5, .int (r1 (1 : Int32).toNatClampNeg)), (4, .int (r1 (0 : Int32).toNatClampNeg)), (0, .int x0), (1, .int x1), (2, .ref b0), (3, .ref b1)] []
      refine g_iinc (pc' := 40) O ⟨dL_done_37, rfl⟩ (q := 1) (v := (r1 (1 : Int32).toNatClampNeg) + (1 : Int32)) (lv' := [(6, .int ((r1 (1 : Int32).toNatClampNeg) + (1 : Int32))), (7, .int (1 : Int32)), (5, .int (r1 (1 : Int32).toNatClampNeg)), (4, .int (r1 (0 : Int32).toNatClampNeg)), (0, .int x0), (1, .int x1), (2, .ref b0), (3, .ref b1)]) rfl rfl (by decide) rfl ?_
      refine g_sub (lv' := [(1, .int x1), (2, .ref b0), (4, .int (r1 (0 : Int32).toNatClampNeg)), (6, .int ((r1 (1 : Int32).toNatClampNeg) + (1 : Int32))), (7, .int (1 : Int32))]) [5, 6, 3, 0, 1] rfl ?_
      exact hk40 _ _ E
set_option maxRecDepth 100000 in
set_option maxHeartbeats 4000000 in
theorem t_L_finishes (l : Launch) (D : va_G) (cy : Nat → ClassId) (hfl : l.stackTraces = false) (b0 : Nat) (b1 : Nat)  {r0 : Row} {r1 : Row} {o : Int32 × Row} (E : f_L_finishes r0 r1 = some o) : CtMI l D cy (WA2 cy 24 4 b0 b1) yL_finishes cL_finishes 6 .int 2 60 0 0 [.ref b0, .ref b1] (r0, r1) o.1 (o.2, r1) := by
  refine sMI (own := RL) rfl rfl (Nat.le_of_ble_eq_true rfl) (fun X O hN hret => ?_)
  show G l D X 6 (WA2 cy 24 4 b0 b1) 0 0 (r0, r1) 0 [(0, .ref b0), (1, .ref b1)] []
  unfold f_L_finishes at E
  refine g_aload_n (pc' := 1) O ⟨dL_finishes_0, rfl⟩ (q := 1) rfl rfl ?_
  refine g_iconst (pc' := 2) O ⟨dL_finishes_1, rfl⟩ (v := (0 : Int32)) rfl ?_
  refine g_iald (pc' := 3) O ⟨dL_finishes_2, rfl⟩ zA2_1 E (fun E => ?_)
  refine g_istore_n (pc' := 4) O ⟨dL_finishes_3, rfl⟩ (lv' := [(2, .int (r1 (0 : Int32).toNatClampNeg)), (0, .ref b0), (1, .ref b1)]) rfl (by decide) rfl ?_
  refine g_iconst (pc' := 5) O ⟨dL_finishes_4, rfl⟩ (v := (0 : Int32)) rfl ?_
  refine g_istore_n (pc' := 6) O ⟨dL_finishes_5, rfl⟩ (lv' := [(3, .int (0 : Int32)), (2, .int (r1 (0 : Int32).toNatClampNeg)), (0, .ref b0), (1, .ref b1)]) rfl (by decide) rfl ?_
  refine jn1_of (P := fun (r0_1 : Row) => G l D X 6 (WA2 cy 24 4 b0 b1) 0 0 (r0_1, r1) 40 [(0, .ref b0), (1, .ref b1), (2, .int (r1 (0 : Int32).toNatClampNeg))] []) E ?_ ?_
  · intro r0_1 E
    show G l D X 6 (WA2 cy 24 4 b0 b1) 0 0 (r0_1, r1) 40 [(0, .ref b0), (1, .ref b1), (2, .int (r1 (0 : Int32).toNatClampNeg))] []
    refine g_iconst (pc' := 41) O ⟨dL_finishes_40, rfl⟩ (v := (0 : Int32)) rfl ?_
    refine g_istore_n (pc' := 42) O ⟨dL_finishes_41, rfl⟩ (lv' := [(3, .int (0 : Int32)), (0, .ref b0), (1, .ref b1), (2, .int (r1 (0 : Int32).toNatClampNeg))]) rfl (by decide) rfl ?_
    refine jn1_of (P := fun (r0_2 : Row) => G l D X 6 (WA2 cy 24 4 b0 b1) 0 0 (r0_2, r1) 109 [] []) E ?_ ?_
    · intro r0_2 E
      show G l D X 6 (WA2 cy 24 4 b0 b1) 0 0 (r0_2, r1) 109 [] []
      refine g_iconst (pc' := 110) O ⟨dL_finishes_109, rfl⟩ (v := (-1 : Int32)) rfl ?_
      cases E
      exact hret _ _ _ _ _ (Nat.le_of_ble_eq_true rfl) (Nat.le_of_ble_eq_true rfl) ⟨dL_finishes_110, rfl⟩ rfl
    · intro k109 hk109 E
      refine jn1_of (P := fun (r0_3 : Row) => G l D X 6 (WA2 cy 24 4 b0 b1) 0 0 (r0_3, r1) 101 [] []) E ?_ ?_
      · intro r0_3 E
        show G l D X 6 (WA2 cy 24 4 b0 b1) 0 0 (r0_3, r1) 101 [] []
        refine g_iconst (pc' := 102) O ⟨dL_finishes_101, rfl⟩ (v := (2 : Int32)) rfl ?_
        cases E
        exact hret _ _ _ _ _ (Nat.le_of_ble_eq_true rfl) (Nat.le_of_ble_eq_true rfl) ⟨dL_finishes_102, rfl⟩ rfl
      · intro k101 hk101 E
        refine g_sub (lv' := [(0, .ref b0), (1, .ref b1), (2, .int (r1 (0 : Int32).toNatClampNeg)), (3, .int (0 : Int32))]) [1, 2, 3, 0] rfl ?_
        refine fx2_of (P := fun (x3_4 : Int32) (r0_5 : Row) => G l D X 6 (WA2 cy 24 4 b0 b1) 0 0 (r0_5, r1) 42 [(0, .ref b0), (1, .ref b1), (2, .int (r1 (0 : Int32).toNatClampNeg)), (3, .int x3_4)] []) ?_ _ _ _ E
        intro self ih42 x3_4 r0_5 E
        show G l D X 6 (WA2 cy 24 4 b0 b1) 0 0 (r0_5, r1) 42 [(0, .ref b0), (1, .ref b1), (2, .int (r1 (0 : Int32).toNatClampNeg)), (3, .int x3_4)] []
        unfold L_L_finishes_42 at E
        refine g_iload_n (pc' := 43) O ⟨dL_finishes_42, rfl⟩ (q := 3) rfl rfl ?_
        refine g_iload_n (pc' := 44) O ⟨dL_finishes_43, rfl⟩ (q := 2) rfl rfl ?_
        refine g_iload_n (pc' := 45) O ⟨dL_finishes_44, rfl⟩ (q := 2) rfl rfl ?_
        refine g_imul (pc' := 46) O ⟨dL_finishes_45, rfl⟩ ?_
        refine g_iload_n (pc' := 47) O ⟨dL_finishes_46, rfl⟩ (q := 2) rfl rfl ?_
        refine g_imul (pc' := 48) O ⟨dL_finishes_47, rfl⟩ ?_
        refine g_iload_n (pc' := 49) O ⟨dL_finishes_48, rfl⟩ (q := 2) rfl rfl ?_
        refine g_imul (pc' := 50) O ⟨dL_finishes_49, rfl⟩ ?_
        refine g_icmp_ge (pc' := 53) O ⟨dL_finishes_50, rfl⟩ E (tgt := 109) (by decide) (fun E => ?_) (fun E => ?_)
        · refine g_sub (lv' := []) [] rfl ?_
          exact hk109 _ E
        · refine g_iload_n (pc' := 54) O ⟨dL_finishes_53, rfl⟩ (q := 3) rfl rfl ?_
          refine g_iload_n (pc' := 55) O ⟨dL_finishes_54, rfl⟩ (q := 2) rfl rfl ?_
          refine g_iload_n (pc' := 56) O ⟨dL_finishes_55, rfl⟩ (q := 2) rfl rfl ?_
          refine g_imul (pc' := 57) O ⟨dL_finishes_56, rfl⟩ ?_
          obtain ⟨nz_57, E⟩ := nz_of E
          refine g_irem (pc' := 58) O ⟨dL_finishes_57, rfl⟩ nz_57 ?_
          refine g_nm E (fun y4_6 E => ?_)
          refine g_istore (pc' := 60) O ⟨dL_finishes_58, rfl⟩ (lv' := [(4, .int y4_6), (0, .ref b0), (1, .ref b1), (2, .int (r1 (0 : Int32).toNatClampNeg)), (3, .int x3_4)]) (by decide) rfl ?_
          refine g_iload_n (pc' := 61) O ⟨dL_finishes_60, rfl⟩ (q := 4) rfl rfl ?_
          refine g_iload_n (pc' := 62) O ⟨dL_finishes_61, rfl⟩ (q := 3) rfl rfl ?_
          refine g_iload_n (pc' := 63) O ⟨dL_finishes_62, rfl⟩ (q := 3) rfl rfl ?_
          refine g_imul (pc' := 64) O ⟨dL_finishes_63, rfl⟩ ?_
          obtain ⟨nz_64, E⟩ := nz_of E
          refine g_idiv (pc' := 65) O ⟨dL_finishes_64, rfl⟩ nz_64 ?_
          refine g_nm E (fun y5_7 E => ?_)
          refine g_istore (pc' := 67) O ⟨dL_finishes_65, rfl⟩ (lv' := [(5, .int y5_7), (4, .int y4_6), (0, .ref b0), (1, .ref b1), (2, .int (r1 (0 : Int32).toNatClampNeg)), (3, .int x3_4)]) (by decide) rfl ?_
          refine g_iload (pc' := 69) O ⟨dL_finishes_67, rfl⟩ (q := 1) rfl ?_
          refine g_iload_n (pc' := 70) O ⟨dL_finishes_69, rfl⟩ (q := 4) rfl rfl ?_
          obtain ⟨nz_70, E⟩ := nz_of E
          refine g_idiv (pc' := 71) O ⟨dL_finishes_70, rfl⟩ nz_70 ?_
          refine g_iload (pc' := 73) O ⟨dL_finishes_71, rfl⟩ (q := 1) rfl ?_
          refine g_iload_n (pc' := 74) O ⟨dL_finishes_73, rfl⟩ (q := 4) rfl rfl ?_
          obtain ⟨nz_74, E⟩ := nz_of E
          refine g_irem (pc' := 75) O ⟨dL_finishes_74, rfl⟩ nz_74 ?_
          refine g_icmp_ge (pc' := 78) O ⟨dL_finishes_75, rfl⟩ E (tgt := 103) (by decide) (fun E => ?_) (fun E => ?_)
          · refine g_iinc (pc' := 106) O ⟨dL_finishes_103, rfl⟩ (q := 5) (v := x3_4 + (1 : Int32)) (lv' := [(3, .int (x3_4 + (1 : Int32))), (5, .int y5_7), (4, .int y4_6), (0, .ref b0), (1, .ref b1), (2, .int (r1 (0 : Int32).toNatClampNeg))]) rfl rfl (by decide) rfl ?_
            refine g_goto (pc' := 109) O ⟨dL_finishes_106, rfl⟩ (tgt := 42) (by decide) ?_
            refine g_sub (lv' := [(0, .ref b0), (1, .ref b1), (2, .int (r1 (0 : Int32).toNatClampNeg)), (3, .int (x3_4 + (1 : Int32)))]) [3, 4, 5, 0] rfl ?_
            exact ih42 _ _ E
          · refine g_iload (pc' := 80) O ⟨dL_finishes_78, rfl⟩ (q := 0) rfl ?_
            refine g_iload_n (pc' := 81) O ⟨dL_finishes_80, rfl⟩ (q := 4) rfl rfl ?_
            obtain ⟨nz_81, E⟩ := nz_of E
            refine g_idiv (pc' := 82) O ⟨dL_finishes_81, rfl⟩ nz_81 ?_
            refine g_iload (pc' := 84) O ⟨dL_finishes_82, rfl⟩ (q := 0) rfl ?_
            refine g_iload_n (pc' := 85) O ⟨dL_finishes_84, rfl⟩ (q := 4) rfl rfl ?_
            obtain ⟨nz_85, E⟩ := nz_of E
            refine g_irem (pc' := 86) O ⟨dL_finishes_85, rfl⟩ nz_85 ?_
            refine g_icmp_ge (pc' := 89) O ⟨dL_finishes_86, rfl⟩ E (tgt := 103) (by decide) (fun E => ?_) (fun E => ?_)
            · refine g_iinc (pc' := 106) O ⟨dL_finishes_103, rfl⟩ (q := 5) (v := x3_4 + (1 : Int32)) (lv' := [(3, .int (x3_4 + (1 : Int32))), (5, .int y5_7), (4, .int y4_6), (0, .ref b0), (1, .ref b1), (2, .int (r1 (0 : Int32).toNatClampNeg))]) rfl rfl (by decide) rfl ?_
              refine g_goto (pc' := 109) O ⟨dL_finishes_106, rfl⟩ (tgt := 42) (by decide) ?_
              refine g_sub (lv' := [(0, .ref b0), (1, .ref b1), (2, .int (r1 (0 : Int32).toNatClampNeg)), (3, .int (x3_4 + (1 : Int32)))]) [3, 4, 5, 0] rfl ?_
              exact ih42 _ _ E
            · refine g_iload (pc' := 91) O ⟨dL_finishes_89, rfl⟩ (q := 1) rfl ?_
              refine g_iload (pc' := 93) O ⟨dL_finishes_91, rfl⟩ (q := 0) rfl ?_
              refine g_aload_n (pc' := 94) O ⟨dL_finishes_93, rfl⟩ (q := 2) rfl rfl ?_
              refine g_aload_n (pc' := 95) O ⟨dL_finishes_94, rfl⟩ (q := 3) rfl rfl ?_
              obtain ⟨r_8, c_9, E⟩ := bd_of E
              refine g_MSi (pc' := 98) O hN ⟨dL_finishes_95, rfl⟩ (y := yL_done) (As := [.int y4_6, .int y5_7, .ref b0, .ref b1]) (st := []) (put := (fun g => (g.1, g.2))) sub_A2_A0_1 (t_L_done l D cy hfl b0 b1 c_9) kw_1025 kw_24 kw_1023 kw_1024 hd_L_done ⟨Nat.le_of_ble_eq_true rfl, Nat.le_of_ble_eq_true rfl⟩ ⟨Nat.le_of_ble_eq_true rfl, Nat.le_of_ble_eq_true rfl⟩ rfl (Nat.le_of_ble_eq_true rfl) ?_
              show G l D X 6 (WA2 cy 24 4 b0 b1) 0 0 (r_8.2, r1) 98 [(5, .int y5_7), (4, .int y4_6), (0, .ref b0), (1, .ref b1), (2, .int (r1 (0 : Int32).toNatClampNeg)), (3, .int x3_4)] [.int r_8.1]
              refine g_if_eq (pc' := 101) O ⟨dL_finishes_98, rfl⟩ E (tgt := 103) (by decide) (fun E => ?_) (fun E => ?_)
              · refine g_iinc (pc' := 106) O ⟨dL_finishes_103, rfl⟩ (q := 5) (v := x3_4 + (1 : Int32)) (lv' := [(3, .int (x3_4 + (1 : Int32))), (5, .int y5_7), (4, .int y4_6), (0, .ref b0), (1, .ref b1), (2, .int (r1 (0 : Int32).toNatClampNeg))]) rfl rfl (by decide) rfl ?_
                refine g_goto (pc' := 109) O ⟨dL_finishes_106, rfl⟩ (tgt := 42) (by decide) ?_
                refine g_sub (lv' := [(0, .ref b0), (1, .ref b1), (2, .int (r1 (0 : Int32).toNatClampNeg)), (3, .int (x3_4 + (1 : Int32)))]) [3, 4, 5, 0] rfl ?_
                exact ih42 _ _ E
              · refine g_sub (lv' := []) [] rfl ?_
                exact hk101 _ E
  · intro k40 hk40 E
    refine jn1_of (P := fun (r0_10 : Row) => G l D X 6 (WA2 cy 24 4 b0 b1) 0 0 (r0_10, r1) 32 [] []) E ?_ ?_
    · intro r0_10 E
      show G l D X 6 (WA2 cy 24 4 b0 b1) 0 0 (r0_10, r1) 32 [] []
      refine g_iconst (pc' := 33) O ⟨dL_finishes_32, rfl⟩ (v := (1 : Int32)) rfl ?_
      cases E
      exact hret _ _ _ _ _ (Nat.le_of_ble_eq_true rfl) (Nat.le_of_ble_eq_true rfl) ⟨dL_finishes_33, rfl⟩ rfl
    · intro k32 hk32 E
      refine g_sub (lv' := [(0, .ref b0), (1, .ref b1), (2, .int (r1 (0 : Int32).toNatClampNeg)), (3, .int (0 : Int32))]) [2, 3, 1, 0] rfl ?_
      refine fx2_of (P := fun (x3_11 : Int32) (r0_12 : Row) => G l D X 6 (WA2 cy 24 4 b0 b1) 0 0 (r0_12, r1) 6 [(0, .ref b0), (1, .ref b1), (2, .int (r1 (0 : Int32).toNatClampNeg)), (3, .int x3_11)] []) ?_ _ _ _ E
      intro self ih6 x3_11 r0_12 E
      show G l D X 6 (WA2 cy 24 4 b0 b1) 0 0 (r0_12, r1) 6 [(0, .ref b0), (1, .ref b1), (2, .int (r1 (0 : Int32).toNatClampNeg)), (3, .int x3_11)] []
      unfold L_L_finishes_6 at E
      refine g_iload_n (pc' := 7) O ⟨dL_finishes_6, rfl⟩ (q := 3) rfl rfl ?_
      refine g_iload_n (pc' := 8) O ⟨dL_finishes_7, rfl⟩ (q := 2) rfl rfl ?_
      refine g_iload_n (pc' := 9) O ⟨dL_finishes_8, rfl⟩ (q := 2) rfl rfl ?_
      refine g_imul (pc' := 10) O ⟨dL_finishes_9, rfl⟩ ?_
      refine g_icmp_ge (pc' := 13) O ⟨dL_finishes_10, rfl⟩ E (tgt := 40) (by decide) (fun E => ?_) (fun E => ?_)
      · refine g_sub (lv' := [(0, .ref b0), (1, .ref b1), (2, .int (r1 (0 : Int32).toNatClampNeg))]) [0, 1, 2] rfl ?_
        exact hk40 _ E
      · refine g_iload_n (pc' := 14) O ⟨dL_finishes_13, rfl⟩ (q := 3) rfl rfl ?_
        refine g_iload_n (pc' := 15) O ⟨dL_finishes_14, rfl⟩ (q := 2) rfl rfl ?_
        obtain ⟨nz_15, E⟩ := nz_of E
        refine g_idiv (pc' := 16) O ⟨dL_finishes_15, rfl⟩ nz_15 ?_
        refine g_iload_n (pc' := 17) O ⟨dL_finishes_16, rfl⟩ (q := 3) rfl rfl ?_
        refine g_iload_n (pc' := 18) O ⟨dL_finishes_17, rfl⟩ (q := 2) rfl rfl ?_
        obtain ⟨nz_18, E⟩ := nz_of E
        refine g_irem (pc' := 19) O ⟨dL_finishes_18, rfl⟩ nz_18 ?_
        refine g_icmp_ge (pc' := 22) O ⟨dL_finishes_19, rfl⟩ E (tgt := 34) (by decide) (fun E => ?_) (fun E => ?_)
        · refine g_iinc (pc' := 37) O ⟨dL_finishes_34, rfl⟩ (q := 3) (v := x3_11 + (1 : Int32)) (lv' := [(3, .int (x3_11 + (1 : Int32))), (0, .ref b0), (1, .ref b1), (2, .int (r1 (0 : Int32).toNatClampNeg))]) rfl rfl (by decide) rfl ?_
          refine g_goto (pc' := 40) O ⟨dL_finishes_37, rfl⟩ (tgt := 6) (by decide) ?_
          refine g_sub (lv' := [(0, .ref b0), (1, .ref b1), (2, .int (r1 (0 : Int32).toNatClampNeg)), (3, .int (x3_11 + (1 : Int32)))]) [1, 2, 3, 0] rfl ?_
          exact ih6 _ _ E
        · refine g_iload_n (pc' := 23) O ⟨dL_finishes_22, rfl⟩ (q := 3) rfl rfl ?_
          refine g_iconst (pc' := 24) O ⟨dL_finishes_23, rfl⟩ (v := (-1 : Int32)) rfl ?_
          refine g_aload_n (pc' := 25) O ⟨dL_finishes_24, rfl⟩ (q := 0) rfl rfl ?_
          refine g_aload_n (pc' := 26) O ⟨dL_finishes_25, rfl⟩ (q := 1) rfl rfl ?_
          obtain ⟨r_13, c_14, E⟩ := bd_of E
          refine g_MSi (pc' := 29) O hN ⟨dL_finishes_26, rfl⟩ (y := yL_done) (As := [.int x3_11, .int (-1 : Int32), .ref b0, .ref b1]) (st := []) (put := (fun g => (g.1, g.2))) sub_A2_A0_1 (t_L_done l D cy hfl b0 b1 c_14) kw_1025 kw_24 kw_1023 kw_1024 hd_L_done ⟨Nat.le_of_ble_eq_true rfl, Nat.le_of_ble_eq_true rfl⟩ ⟨Nat.le_of_ble_eq_true rfl, Nat.le_of_ble_eq_true rfl⟩ rfl (Nat.le_of_ble_eq_true rfl) ?_
          show G l D X 6 (WA2 cy 24 4 b0 b1) 0 0 (r_13.2, r1) 29 [(0, .ref b0), (1, .ref b1), (2, .int (r1 (0 : Int32).toNatClampNeg)), (3, .int x3_11)] [.int r_13.1]
          refine g_if_eq (pc' := 32) O ⟨dL_finishes_29, rfl⟩ E (tgt := 34) (by decide) (fun E => ?_) (fun E => ?_)
          · refine g_iinc (pc' := 37) O ⟨dL_finishes_34, rfl⟩ (q := 3) (v := x3_11 + (1 : Int32)) (lv' := [(3, .int (x3_11 + (1 : Int32))), (0, .ref b0), (1, .ref b1), (2, .int (r1 (0 : Int32).toNatClampNeg))]) rfl rfl (by decide) rfl ?_
            refine g_goto (pc' := 40) O ⟨dL_finishes_37, rfl⟩ (tgt := 6) (by decide) ?_
            refine g_sub (lv' := [(0, .ref b0), (1, .ref b1), (2, .int (r1 (0 : Int32).toNatClampNeg)), (3, .int (x3_11 + (1 : Int32)))]) [1, 2, 3, 0] rfl ?_
            exact ih6 _ _ E
          · refine g_sub (lv' := []) [] rfl ?_
            exact hk32 _ E
set_option maxRecDepth 100000 in
set_option maxHeartbeats 4000000 in
theorem t_L_telling (l : Launch) (D : va_G) (cy : Nat → ClassId) (hfl : l.stackTraces = false) (b0 : Nat) (b1 : Nat) {x0 : Int32} {x1 : Int32} {r0 : Row} {r1 : Row} {o : Int64} (E : f_L_telling x0 x1 r0 r1 = some o) : CtML l D cy (WA2 cy 24 4 b0 b1) yL_telling cL_telling 7 1 32 0 0 [.int x0, .int x1, .ref b0, .ref b1] (r0, r1) o (r0, r1) := by
  refine sML (own := RL) rfl rfl (Nat.le_of_ble_eq_true rfl) (fun X O hN hret => ?_)
  show G l D X 7 (WA2 cy 24 4 b0 b1) 0 0 (r0, r1) 0 [(0, .int x0), (1, .int x1), (2, .ref b0), (3, .ref b1)] []
  unfold f_L_telling at E
  refine g_lconst (pc' := 1) O ⟨dL_telling_0, rfl⟩ (v := (0 : Int64)) rfl ?_
  refine g_lstore (pc' := 3) O ⟨dL_telling_1, rfl⟩ (lv' := [(4, .long (0 : Int64)), (0, .int x0), (1, .int x1), (2, .ref b0), (3, .ref b1)]) (by decide) rfl ?_
  refine g_iconst (pc' := 4) O ⟨dL_telling_3, rfl⟩ (v := (0 : Int32)) rfl ?_
  refine g_istore (pc' := 6) O ⟨dL_telling_4, rfl⟩ (lv' := [(6, .int (0 : Int32)), (4, .long (0 : Int64)), (0, .int x0), (1, .int x1), (2, .ref b0), (3, .ref b1)]) (by decide) rfl ?_
  refine jn1_of (P := fun (x4_1 : Int64) => G l D X 7 (WA2 cy 24 4 b0 b1) 0 0 (r0, r1) 60 [(4, .long x4_1)] []) E ?_ ?_
  · intro x4_1 E
    show G l D X 7 (WA2 cy 24 4 b0 b1) 0 0 (r0, r1) 60 [(4, .long x4_1)] []
    refine g_lload (pc' := 62) O ⟨dL_telling_60, rfl⟩ (q := 0) rfl ?_
    cases E
    exact hret _ _ _ _ _ (Nat.le_of_ble_eq_true rfl) (Nat.le_of_ble_eq_true rfl) ⟨dL_telling_62, rfl⟩
  · intro k60 hk60 E
    refine g_sub (lv' := [(0, .int x0), (1, .int x1), (2, .ref b0), (3, .ref b1), (4, .long (0 : Int64)), (6, .int (0 : Int32))]) [2, 3, 4, 5, 1, 0] rfl ?_
    refine fx2_of (P := fun (x4_2 : Int64) (x6_3 : Int32) => G l D X 7 (WA2 cy 24 4 b0 b1) 0 0 (r0, r1) 6 [(0, .int x0), (1, .int x1), (2, .ref b0), (3, .ref b1), (4, .long x4_2), (6, .int x6_3)] []) ?_ _ _ _ E
    intro self ih6 x4_2 x6_3 E
    show G l D X 7 (WA2 cy 24 4 b0 b1) 0 0 (r0, r1) 6 [(0, .int x0), (1, .int x1), (2, .ref b0), (3, .ref b1), (4, .long x4_2), (6, .int x6_3)] []
    unfold L_L_telling_6 at E
    refine g_iload (pc' := 8) O ⟨dL_telling_6, rfl⟩ (q := 5) rfl ?_
    refine g_iconst (pc' := 9) O ⟨dL_telling_8, rfl⟩ (v := (1 : Int32)) rfl ?_
    refine g_aload_n (pc' := 10) O ⟨dL_telling_9, rfl⟩ (q := 3) rfl rfl ?_
    refine g_iconst (pc' := 11) O ⟨dL_telling_10, rfl⟩ (v := (0 : Int32)) rfl ?_
    refine g_iald (pc' := 12) O ⟨dL_telling_11, rfl⟩ zA2_1 E (fun E => ?_)
    refine g_ishl (pc' := 13) O ⟨dL_telling_12, rfl⟩ ?_
    refine g_icmp_ge (pc' := 16) O ⟨dL_telling_13, rfl⟩ E (tgt := 60) (by decide) (fun E => ?_) (fun E => ?_)
    · refine g_sub (lv' := [(4, .long x4_2)]) [4] rfl ?_
      exact hk60 _ E
    · refine g_lload (pc' := 18) O ⟨dL_telling_16, rfl⟩ (q := 4) rfl ?_
      refine g_iload (pc' := 20) O ⟨dL_telling_18, rfl⟩ (q := 5) rfl ?_
      refine g_aload_n (pc' := 21) O ⟨dL_telling_20, rfl⟩ (q := 3) rfl rfl ?_
      refine g_iconst (pc' := 22) O ⟨dL_telling_21, rfl⟩ (v := (1 : Int32)) rfl ?_
      refine g_iald (pc' := 23) O ⟨dL_telling_22, rfl⟩ zA2_1 E (fun E => ?_)
      refine g_iload_n (pc' := 24) O ⟨dL_telling_23, rfl⟩ (q := 0) rfl rfl ?_
      refine g_iload_n (pc' := 25) O ⟨dL_telling_24, rfl⟩ (q := 1) rfl rfl ?_
      refine g_aload_n (pc' := 26) O ⟨dL_telling_25, rfl⟩ (q := 2) rfl rfl ?_
      obtain ⟨r_4, c_5, E⟩ := bd_of E
      refine g_MSi (pc' := 29) O hN ⟨dL_telling_26, rfl⟩ (y := yL_out) (As := [.int x6_3, .int (r1 (1 : Int32).toNatClampNeg), .int x0, .int x1, .ref b0]) (st := [.long x4_2]) (put := (fun g => (g, r1))) sub_A2_A0 (t_L_out l D cy hfl b0 c_5) kw_565 kw_24 kw_563 kw_564 hd_L_out ⟨Nat.le_of_ble_eq_true rfl, Nat.le_of_ble_eq_true rfl⟩ ⟨Nat.le_of_ble_eq_true rfl, Nat.le_of_ble_eq_true rfl⟩ rfl (Nat.le_of_ble_eq_true rfl) ?_
      show G l D X 7 (WA2 cy 24 4 b0 b1) 0 0 (r0, r1) 29 [(0, .int x0), (1, .int x1), (2, .ref b0), (3, .ref b1), (4, .long x4_2), (6, .int x6_3)] [.int r_4, .long x4_2]
      refine g_iload (pc' := 31) O ⟨dL_telling_29, rfl⟩ (q := 5) rfl ?_
      refine g_aload_n (pc' := 32) O ⟨dL_telling_31, rfl⟩ (q := 3) rfl rfl ?_
      refine g_iconst (pc' := 33) O ⟨dL_telling_32, rfl⟩ (v := (1 : Int32)) rfl ?_
      refine g_iald (pc' := 34) O ⟨dL_telling_33, rfl⟩ zA2_1 E (fun E => ?_)
      refine g_iconst (pc' := 35) O ⟨dL_telling_34, rfl⟩ (v := (-1 : Int32)) rfl ?_
      refine g_iconst (pc' := 36) O ⟨dL_telling_35, rfl⟩ (v := (0 : Int32)) rfl ?_
      refine g_aload_n (pc' := 37) O ⟨dL_telling_36, rfl⟩ (q := 2) rfl rfl ?_
      obtain ⟨r_6, c_7, E⟩ := bd_of E
      refine g_MSi (pc' := 40) O hN ⟨dL_telling_37, rfl⟩ (y := yL_out) (As := [.int x6_3, .int (r1 (1 : Int32).toNatClampNeg), .int (-1 : Int32), .int (0 : Int32), .ref b0]) (st := [.int r_4, .long x4_2]) (put := (fun g => (g, r1))) sub_A2_A0 (t_L_out l D cy hfl b0 c_7) kw_565 kw_24 kw_563 kw_564 hd_L_out ⟨Nat.le_of_ble_eq_true rfl, Nat.le_of_ble_eq_true rfl⟩ ⟨Nat.le_of_ble_eq_true rfl, Nat.le_of_ble_eq_true rfl⟩ rfl (Nat.le_of_ble_eq_true rfl) ?_
      show G l D X 7 (WA2 cy 24 4 b0 b1) 0 0 (r0, r1) 40 [(0, .int x0), (1, .int x1), (2, .ref b0), (3, .ref b1), (4, .long x4_2), (6, .int x6_3)] [.int r_6, .int r_4, .long x4_2]
      refine g_icmp_ne (pc' := 43) O ⟨dL_telling_40, rfl⟩ E (tgt := 47) (by decide) (fun E => ?_) (fun E => ?_)
      · refine g_lconst (pc' := 48) O ⟨dL_telling_47, rfl⟩ (v := (1 : Int64)) rfl ?_
        refine g_iload (pc' := 50) O ⟨dL_telling_48, rfl⟩ (q := 5) rfl ?_
        refine g_lshl (pc' := 51) O ⟨dL_telling_50, rfl⟩ ?_
        refine g_lor (pc' := 52) O ⟨dL_telling_51, rfl⟩ ?_
        refine g_nmL E (fun y4_8 E => ?_)
        refine g_lstore (pc' := 54) O ⟨dL_telling_52, rfl⟩ (lv' := [(4, .long y4_8), (0, .int x0), (1, .int x1), (2, .ref b0), (3, .ref b1), (6, .int x6_3)]) (by decide) rfl ?_
        refine g_iinc (pc' := 57) O ⟨dL_telling_54, rfl⟩ (q := 5) (v := x6_3 + (1 : Int32)) (lv' := [(6, .int (x6_3 + (1 : Int32))), (4, .long y4_8), (0, .int x0), (1, .int x1), (2, .ref b0), (3, .ref b1)]) rfl rfl (by decide) rfl ?_
        refine g_goto (pc' := 60) O ⟨dL_telling_57, rfl⟩ (tgt := 6) (by decide) ?_
        refine g_sub (lv' := [(0, .int x0), (1, .int x1), (2, .ref b0), (3, .ref b1), (4, .long y4_8), (6, .int (x6_3 + (1 : Int32)))]) [2, 3, 4, 5, 1, 0] rfl ?_
        exact ih6 _ _ E
      · refine g_lconst (pc' := 44) O ⟨dL_telling_43, rfl⟩ (v := (0 : Int64)) rfl ?_
        refine g_goto (pc' := 47) O ⟨dL_telling_44, rfl⟩ (tgt := 51) (by decide) ?_
        refine g_lor (pc' := 52) O ⟨dL_telling_51, rfl⟩ ?_
        refine g_nmL E (fun y4_9 E => ?_)
        refine g_lstore (pc' := 54) O ⟨dL_telling_52, rfl⟩ (lv' := [(4, .long y4_9), (0, .int x0), (1, .int x1), (2, .ref b0), (3, .ref b1), (6, .int x6_3)]) (by decide) rfl ?_
        refine g_iinc (pc' := 57) O ⟨dL_telling_54, rfl⟩ (q := 5) (v := x6_3 + (1 : Int32)) (lv' := [(6, .int (x6_3 + (1 : Int32))), (4, .long y4_9), (0, .int x0), (1, .int x1), (2, .ref b0), (3, .ref b1)]) rfl rfl (by decide) rfl ?_
        refine g_goto (pc' := 60) O ⟨dL_telling_57, rfl⟩ (tgt := 6) (by decide) ?_
        refine g_sub (lv' := [(0, .int x0), (1, .int x1), (2, .ref b0), (3, .ref b1), (4, .long y4_9), (6, .int (x6_3 + (1 : Int32)))]) [2, 3, 4, 5, 1, 0] rfl ?_
        exact ih6 _ _ E
set_option maxRecDepth 100000 in
set_option maxHeartbeats 4000000 in
theorem t_L_ones (l : Launch) (D : va_G) (cy : Nat → ClassId) (hfl : l.stackTraces = false) {x0 : Int64}  {o : Int32} (E : f_L_ones x0 = some o) : CtMI l D cy (WA0 cy) yL_ones cL_ones 4 .int 0 0 0 0 [.long x0] () o () := by
  refine sMI (own := RL) rfl rfl (Nat.le_of_ble_eq_true rfl) (fun X O hN hret => ?_)
  show G l D X 4 (WA0 cy) 0 0 () 0 [(0, .long x0)] []
  unfold f_L_ones at E
  refine g_iconst (pc' := 1) O ⟨dL_ones_0, rfl⟩ (v := (0 : Int32)) rfl ?_
  refine g_istore_n (pc' := 2) O ⟨dL_ones_1, rfl⟩ (lv' := [(2, .int (0 : Int32)), (0, .long x0)]) rfl (by decide) rfl ?_
  refine g_iconst (pc' := 3) O ⟨dL_ones_2, rfl⟩ (v := (0 : Int32)) rfl ?_
  refine g_istore_n (pc' := 4) O ⟨dL_ones_3, rfl⟩ (lv' := [(3, .int (0 : Int32)), (2, .int (0 : Int32)), (0, .long x0)]) rfl (by decide) rfl ?_
  refine jn1_of (P := fun (x2_1 : Int32) => G l D X 4 (WA0 cy) 0 0 () 25 [(2, .int x2_1)] []) E ?_ ?_
  · intro x2_1 E
    show G l D X 4 (WA0 cy) 0 0 () 25 [(2, .int x2_1)] []
    refine g_iload_n (pc' := 26) O ⟨dL_ones_25, rfl⟩ (q := 0) rfl rfl ?_
    cases E
    exact hret _ _ _ _ _ (Nat.le_of_ble_eq_true rfl) (Nat.le_of_ble_eq_true rfl) ⟨dL_ones_26, rfl⟩ rfl
  · intro k25 hk25 E
    refine g_sub (lv' := [(0, .long x0), (2, .int (0 : Int32)), (3, .int (0 : Int32))]) [2, 1, 0] rfl ?_
    refine fx2_of (P := fun (x2_2 : Int32) (x3_3 : Int32) => G l D X 4 (WA0 cy) 0 0 () 4 [(0, .long x0), (2, .int x2_2), (3, .int x3_3)] []) ?_ _ _ _ E
    intro self ih4 x2_2 x3_3 E
    show G l D X 4 (WA0 cy) 0 0 () 4 [(0, .long x0), (2, .int x2_2), (3, .int x3_3)] []
    unfold L_L_ones_4 at E
    refine g_iload_n (pc' := 5) O ⟨dL_ones_4, rfl⟩ (q := 2) rfl rfl ?_
    refine g_bipush (pc' := 7) O ⟨dL_ones_5, rfl⟩ (v := (64 : Int32)) rfl ?_
    refine g_icmp_ge (pc' := 10) O ⟨dL_ones_7, rfl⟩ E (tgt := 25) (by decide) (fun E => ?_) (fun E => ?_)
    · refine g_sub (lv' := [(2, .int x2_2)]) [1] rfl ?_
      exact hk25 _ E
    · refine g_iload_n (pc' := 11) O ⟨dL_ones_10, rfl⟩ (q := 1) rfl rfl ?_
      refine g_lload_n (pc' := 12) O ⟨dL_ones_11, rfl⟩ (q := 0) rfl rfl ?_
      refine g_iload_n (pc' := 13) O ⟨dL_ones_12, rfl⟩ (q := 2) rfl rfl ?_
      refine g_lshr (pc' := 14) O ⟨dL_ones_13, rfl⟩ ?_
      refine g_lconst (pc' := 15) O ⟨dL_ones_14, rfl⟩ (v := (1 : Int64)) rfl ?_
      refine g_land (pc' := 16) O ⟨dL_ones_15, rfl⟩ ?_
      refine g_l2i (pc' := 17) O ⟨dL_ones_16, rfl⟩ ?_
      refine g_iadd (pc' := 18) O ⟨dL_ones_17, rfl⟩ ?_
      refine g_nm E (fun y2_4 E => ?_)
      refine g_istore_n (pc' := 19) O ⟨dL_ones_18, rfl⟩ (lv' := [(2, .int y2_4), (0, .long x0), (3, .int x3_3)]) rfl (by decide) rfl ?_
      refine g_iinc (pc' := 22) O ⟨dL_ones_19, rfl⟩ (q := 2) (v := x3_3 + (1 : Int32)) (lv' := [(3, .int (x3_3 + (1 : Int32))), (2, .int y2_4), (0, .long x0)]) rfl rfl (by decide) rfl ?_
      refine g_goto (pc' := 25) O ⟨dL_ones_22, rfl⟩ (tgt := 4) (by decide) ?_
      refine g_sub (lv' := [(0, .long x0), (2, .int y2_4), (3, .int (x3_3 + (1 : Int32)))]) [2, 1, 0] rfl ?_
      exact ih4 _ _ E
set_option maxRecDepth 100000 in
set_option maxHeartbeats 4000000 in
theorem t_L_tests (l : Launch) (D : va_G) (cy : Nat → ClassId) (hfl : l.stackTraces = false) (b0 : Nat) (b1 : Nat)  {r0 : Row} {r1 : Row} {o : Int32} (E : f_L_tests r0 r1 = some o) : CtMI l D cy (WA2 cy 24 4 b0 b1) yL_tests cL_tests 9 .int 2 58 0 0 [.ref b0, .ref b1] (r0, r1) o (r0, r1) := by
  refine sMI (own := RL) rfl rfl (Nat.le_of_ble_eq_true rfl) (fun X O hN hret => ?_)
  show G l D X 9 (WA2 cy 24 4 b0 b1) 0 0 (r0, r1) 0 [(0, .ref b0), (1, .ref b1)] []
  unfold f_L_tests at E
  refine g_iconst (pc' := 1) O ⟨dL_tests_0, rfl⟩ (v := (-1 : Int32)) rfl ?_
  refine g_istore_n (pc' := 2) O ⟨dL_tests_1, rfl⟩ (lv' := [(2, .int (-1 : Int32)), (0, .ref b0), (1, .ref b1)]) rfl (by decide) rfl ?_
  refine g_iconst (pc' := 3) O ⟨dL_tests_2, rfl⟩ (v := (0 : Int32)) rfl ?_
  refine g_istore_n (pc' := 4) O ⟨dL_tests_3, rfl⟩ (lv' := [(3, .int (0 : Int32)), (2, .int (-1 : Int32)), (0, .ref b0), (1, .ref b1)]) rfl (by decide) rfl ?_
  refine jn1_of (P := fun (x2_1 : Int32) => G l D X 9 (WA2 cy 24 4 b0 b1) 0 0 (r0, r1) 126 [(2, .int x2_1)] []) E ?_ ?_
  · intro x2_1 E
    show G l D X 9 (WA2 cy 24 4 b0 b1) 0 0 (r0, r1) 126 [(2, .int x2_1)] []
    refine g_iload_n (pc' := 127) O ⟨dL_tests_126, rfl⟩ (q := 0) rfl rfl ?_
    cases E
    exact hret _ _ _ _ _ (Nat.le_of_ble_eq_true rfl) (Nat.le_of_ble_eq_true rfl) ⟨dL_tests_127, rfl⟩ rfl
  · intro k126 hk126 E
    refine g_sub (lv' := [(0, .ref b0), (1, .ref b1), (2, .int (-1 : Int32)), (3, .int (0 : Int32))]) [2, 3, 1, 0] rfl ?_
    refine fx2_of (P := fun (x2_2 : Int32) (x3_3 : Int32) => G l D X 9 (WA2 cy 24 4 b0 b1) 0 0 (r0, r1) 4 [(0, .ref b0), (1, .ref b1), (2, .int x2_2), (3, .int x3_3)] []) ?_ _ _ _ E
    intro self ih4 x2_2 x3_3 E
    show G l D X 9 (WA2 cy 24 4 b0 b1) 0 0 (r0, r1) 4 [(0, .ref b0), (1, .ref b1), (2, .int x2_2), (3, .int x3_3)] []
    unfold L_L_tests_4 at E
    refine g_iload_n (pc' := 5) O ⟨dL_tests_4, rfl⟩ (q := 3) rfl rfl ?_
    refine g_iconst (pc' := 6) O ⟨dL_tests_5, rfl⟩ (v := (1 : Int32)) rfl ?_
    refine g_iconst (pc' := 7) O ⟨dL_tests_6, rfl⟩ (v := (1 : Int32)) rfl ?_
    refine g_aload_n (pc' := 8) O ⟨dL_tests_7, rfl⟩ (q := 1) rfl rfl ?_
    refine g_iconst (pc' := 9) O ⟨dL_tests_8, rfl⟩ (v := (0 : Int32)) rfl ?_
    refine g_iald (pc' := 10) O ⟨dL_tests_9, rfl⟩ zA2_1 E (fun E => ?_)
    refine g_ishl (pc' := 11) O ⟨dL_tests_10, rfl⟩ ?_
    refine g_ishl (pc' := 12) O ⟨dL_tests_11, rfl⟩ ?_
    refine g_icmp_ge (pc' := 15) O ⟨dL_tests_12, rfl⟩ E (tgt := 126) (by decide) (fun E => ?_) (fun E => ?_)
    · refine g_sub (lv' := [(2, .int x2_2)]) [2] rfl ?_
      exact hk126 _ E
    · refine g_iload_n (pc' := 16) O ⟨dL_tests_15, rfl⟩ (q := 3) rfl rfl ?_
      refine g_i2l (pc' := 17) O ⟨dL_tests_16, rfl⟩ ?_
      obtain ⟨r_4, c_5, E⟩ := bd_of E
      refine g_MSi (pc' := 20) O hN ⟨dL_tests_17, rfl⟩ (y := yL_ones) (As := [.long (i2l x3_3)]) (st := []) (put := (fun g => (r0, r1))) sub_A2_A (t_L_ones l D cy hfl c_5) kw_858 kw_24 kw_856 kw_857 hd_L_ones ⟨Nat.le_of_ble_eq_true rfl, Nat.le_of_ble_eq_true rfl⟩ ⟨Nat.le_of_ble_eq_true rfl, Nat.le_of_ble_eq_true rfl⟩ rfl (Nat.le_of_ble_eq_true rfl) ?_
      show G l D X 9 (WA2 cy 24 4 b0 b1) 0 0 (r0, r1) 20 [(0, .ref b0), (1, .ref b1), (2, .int x2_2), (3, .int x3_3)] [.int r_4]
      refine g_istore (pc' := 22) O ⟨dL_tests_20, rfl⟩ (lv' := [(4, .int r_4), (0, .ref b0), (1, .ref b1), (2, .int x2_2), (3, .int x3_3)]) (by decide) rfl ?_
      refine g_iload (pc' := 24) O ⟨dL_tests_22, rfl⟩ (q := 0) rfl ?_
      refine g_iconst (pc' := 25) O ⟨dL_tests_24, rfl⟩ (v := (5 : Int32)) rfl ?_
      refine g_icmp_ge (pc' := 28) O ⟨dL_tests_25, rfl⟩ E (tgt := 42) (by decide) (fun E => ?_) (fun E => ?_)
      · refine g_iconst (pc' := 43) O ⟨dL_tests_42, rfl⟩ (v := (0 : Int32)) rfl ?_
        refine g_istore (pc' := 45) O ⟨dL_tests_43, rfl⟩ (lv' := [(5, .int (0 : Int32)), (4, .int r_4), (0, .ref b0), (1, .ref b1), (2, .int x2_2), (3, .int x3_3)]) (by decide) rfl ?_
        refine g_iconst (pc' := 46) O ⟨dL_tests_45, rfl⟩ (v := (0 : Int32)) rfl ?_
        refine g_istore (pc' := 48) O ⟨dL_tests_46, rfl⟩ (lv' := [(6, .int (0 : Int32)), (5, .int (0 : Int32)), (4, .int r_4), (0, .ref b0), (1, .ref b1), (2, .int x2_2), (3, .int x3_3)]) (by decide) rfl ?_
        refine jn1_of (P := fun (x5_6 : Int32) => G l D X 9 (WA2 cy 24 4 b0 b1) 0 0 (r0, r1) 108 [(0, .ref b0), (1, .ref b1), (2, .int x2_2), (3, .int x3_3), (4, .int r_4), (5, .int x5_6)] []) E ?_ ?_
        · intro x5_6 E
          show G l D X 9 (WA2 cy 24 4 b0 b1) 0 0 (r0, r1) 108 [(0, .ref b0), (1, .ref b1), (2, .int x2_2), (3, .int x3_3), (4, .int r_4), (5, .int x5_6)] []
          refine g_iload (pc' := 110) O ⟨dL_tests_108, rfl⟩ (q := 5) rfl ?_
          refine g_if_eq (pc' := 113) O ⟨dL_tests_110, rfl⟩ E (tgt := 118) (by decide) (fun E => ?_) (fun E => ?_)
          · refine g_iload_n (pc' := 119) O ⟨dL_tests_118, rfl⟩ (q := 2) rfl rfl ?_
            refine g_istore_n (pc' := 120) O ⟨dL_tests_119, rfl⟩ (lv' := [(2, .int x2_2), (0, .ref b0), (1, .ref b1), (3, .int x3_3), (4, .int r_4), (5, .int x5_6)]) rfl (by decide) rfl ?_
            refine g_iinc (pc' := 123) O ⟨dL_tests_120, rfl⟩ (q := 3) (v := x3_3 + (1 : Int32)) (lv' := [(3, .int (x3_3 + (1 : Int32))), (2, .int x2_2), (0, .ref b0), (1, .ref b1), (4, .int r_4), (5, .int x5_6)]) rfl rfl (by decide) rfl ?_
            refine g_goto (pc' := 126) O ⟨dL_tests_123, rfl⟩ (tgt := 4) (by decide) ?_
            refine g_sub (lv' := [(0, .ref b0), (1, .ref b1), (2, .int x2_2), (3, .int (x3_3 + (1 : Int32)))]) [2, 3, 1, 0] rfl ?_
            exact ih4 _ _ E
          · refine g_iload (pc' := 115) O ⟨dL_tests_113, rfl⟩ (q := 4) rfl ?_
            refine g_goto (pc' := 118) O ⟨dL_tests_115, rfl⟩ (tgt := 119) (by decide) ?_
            refine g_istore_n (pc' := 120) O ⟨dL_tests_119, rfl⟩ (lv' := [(2, .int r_4), (0, .ref b0), (1, .ref b1), (3, .int x3_3), (4, .int r_4), (5, .int x5_6)]) rfl (by decide) rfl ?_
            refine g_iinc (pc' := 123) O ⟨dL_tests_120, rfl⟩ (q := 3) (v := x3_3 + (1 : Int32)) (lv' := [(3, .int (x3_3 + (1 : Int32))), (2, .int r_4), (0, .ref b0), (1, .ref b1), (4, .int r_4), (5, .int x5_6)]) rfl rfl (by decide) rfl ?_
            refine g_goto (pc' := 126) O ⟨dL_tests_123, rfl⟩ (tgt := 4) (by decide) ?_
            refine g_sub (lv' := [(0, .ref b0), (1, .ref b1), (2, .int r_4), (3, .int (x3_3 + (1 : Int32)))]) [2, 3, 1, 0] rfl ?_
            exact ih4 _ _ E
        · intro k108 hk108 E
          refine g_sub (lv' := [(0, .ref b0), (1, .ref b1), (2, .int x2_2), (3, .int x3_3), (4, .int r_4), (5, .int (0 : Int32)), (6, .int (0 : Int32))]) [3, 4, 5, 6, 2, 1, 0] rfl ?_
          refine fx2_of (P := fun (x5_7 : Int32) (x6_8 : Int32) => G l D X 9 (WA2 cy 24 4 b0 b1) 0 0 (r0, r1) 48 [(0, .ref b0), (1, .ref b1), (2, .int x2_2), (3, .int x3_3), (4, .int r_4), (5, .int x5_7), (6, .int x6_8)] []) ?_ _ _ _ E
          intro self ih48 x5_7 x6_8 E
          show G l D X 9 (WA2 cy 24 4 b0 b1) 0 0 (r0, r1) 48 [(0, .ref b0), (1, .ref b1), (2, .int x2_2), (3, .int x3_3), (4, .int r_4), (5, .int x5_7), (6, .int x6_8)] []
          unfold L_L_tests_48 at E
          refine g_iload (pc' := 50) O ⟨dL_tests_48, rfl⟩ (q := 6) rfl ?_
          refine g_iconst (pc' := 51) O ⟨dL_tests_50, rfl⟩ (v := (3 : Int32)) rfl ?_
          refine g_aload_n (pc' := 52) O ⟨dL_tests_51, rfl⟩ (q := 1) rfl rfl ?_
          refine g_iconst (pc' := 53) O ⟨dL_tests_52, rfl⟩ (v := (1 : Int32)) rfl ?_
          refine g_iald (pc' := 54) O ⟨dL_tests_53, rfl⟩ zA2_1 E (fun E => ?_)
          refine g_imul (pc' := 55) O ⟨dL_tests_54, rfl⟩ ?_
          refine g_icmp_ge (pc' := 58) O ⟨dL_tests_55, rfl⟩ E (tgt := 108) (by decide) (fun E => ?_) (fun E => ?_)
          · refine g_sub (lv' := [(0, .ref b0), (1, .ref b1), (2, .int x2_2), (3, .int x3_3), (4, .int r_4), (5, .int x5_7)]) [0, 1, 2, 3, 4, 5] rfl ?_
            exact hk108 _ E
          · refine g_iload (pc' := 60) O ⟨dL_tests_58, rfl⟩ (q := 5) rfl ?_
            refine g_if_eq (pc' := 63) O ⟨dL_tests_60, rfl⟩ E (tgt := 108) (by decide) (fun E => ?_) (fun E => ?_)
            · refine g_sub (lv' := [(0, .ref b0), (1, .ref b1), (2, .int x2_2), (3, .int x3_3), (4, .int r_4), (5, .int x5_7)]) [0, 1, 2, 3, 4, 5] rfl ?_
              exact hk108 _ E
            · refine g_iload (pc' := 65) O ⟨dL_tests_63, rfl⟩ (q := 6) rfl ?_
              refine g_iconst (pc' := 66) O ⟨dL_tests_65, rfl⟩ (v := (3 : Int32)) rfl ?_
              refine g_idiv (pc' := 67) O ⟨dL_tests_66, rfl⟩ (by decide) ?_
              refine g_iload (pc' := 69) O ⟨dL_tests_67, rfl⟩ (q := 6) rfl ?_
              refine g_iconst (pc' := 70) O ⟨dL_tests_69, rfl⟩ (v := (3 : Int32)) rfl ?_
              refine g_irem (pc' := 71) O ⟨dL_tests_70, rfl⟩ (by decide) ?_
              refine g_aload_n (pc' := 72) O ⟨dL_tests_71, rfl⟩ (q := 0) rfl rfl ?_
              refine g_aload_n (pc' := 73) O ⟨dL_tests_72, rfl⟩ (q := 1) rfl rfl ?_
              obtain ⟨r_9, c_10, E⟩ := bd_of E
              refine g_MSl (pc' := 76) O hN ⟨dL_tests_73, rfl⟩ (y := yL_telling) (As := [.int (x6_8 / (3 : Int32)), .int (irm x6_8 (3 : Int32)), .ref b0, .ref b1]) (st := []) (put := (fun g => (g.1, g.2))) sub_A2_A0_1 (t_L_telling l D cy hfl b0 b1 c_10) kw_809 kw_24 kw_807 kw_808 hd_L_telling ⟨Nat.le_of_ble_eq_true rfl, Nat.le_of_ble_eq_true rfl⟩ ⟨Nat.le_of_ble_eq_true rfl, Nat.le_of_ble_eq_true rfl⟩ rfl (Nat.le_of_ble_eq_true rfl) ?_
              show G l D X 9 (WA2 cy 24 4 b0 b1) 0 0 (r0, r1) 76 [(0, .ref b0), (1, .ref b1), (2, .int x2_2), (3, .int x3_3), (4, .int r_4), (5, .int x5_7), (6, .int x6_8)] [.long r_9]
              refine g_lstore (pc' := 78) O ⟨dL_tests_76, rfl⟩ (lv' := [(7, .long r_9), (0, .ref b0), (1, .ref b1), (2, .int x2_2), (3, .int x3_3), (4, .int r_4), (5, .int x5_7), (6, .int x6_8)]) (by decide) rfl ?_
              refine g_lload (pc' := 80) O ⟨dL_tests_78, rfl⟩ (q := 0) rfl ?_
              refine g_lconst (pc' := 81) O ⟨dL_tests_80, rfl⟩ (v := (0 : Int64)) rfl ?_
              refine g_lcmp (pc' := 82) O ⟨dL_tests_81, rfl⟩ ?_
              refine jn0_of (P := G l D X 9 (WA2 cy 24 4 b0 b1) 0 0 (r0, r1) 95 [(0, .ref b0), (1, .ref b1), (2, .int x2_2), (3, .int x3_3), (4, .int r_4), (6, .int x6_8)] []) E ?_ ?_
              · intro E
                show G l D X 9 (WA2 cy 24 4 b0 b1) 0 0 (r0, r1) 95 [(0, .ref b0), (1, .ref b1), (2, .int x2_2), (3, .int x3_3), (4, .int r_4), (6, .int x6_8)] []
                refine g_iconst (pc' := 96) O ⟨dL_tests_95, rfl⟩ (v := (1 : Int32)) rfl ?_
                refine g_goto (pc' := 99) O ⟨dL_tests_96, rfl⟩ (tgt := 100) (by decide) ?_
                refine g_istore (pc' := 102) O ⟨dL_tests_100, rfl⟩ (lv' := [(5, .int (1 : Int32)), (0, .ref b0), (1, .ref b1), (2, .int x2_2), (3, .int x3_3), (4, .int r_4), (6, .int x6_8)]) (by decide) rfl ?_
                refine g_iinc (pc' := 105) O ⟨dL_tests_102, rfl⟩ (q := 6) (v := x6_8 + (1 : Int32)) (lv' := [(6, .int (x6_8 + (1 : Int32))), (5, .int (1 : Int32)), (0, .ref b0), (1, .ref b1), (2, .int x2_2), (3, .int x3_3), (4, .int r_4)]) rfl rfl (by decide) rfl ?_
                refine g_goto (pc' := 108) O ⟨dL_tests_105, rfl⟩ (tgt := 48) (by decide) ?_
                refine g_sub (lv' := [(0, .ref b0), (1, .ref b1), (2, .int x2_2), (3, .int x3_3), (4, .int r_4), (5, .int (1 : Int32)), (6, .int (x6_8 + (1 : Int32)))]) [2, 3, 4, 5, 6, 1, 0] rfl ?_
                exact ih48 _ _ E
              · intro k95 hk95 E
                refine g_if_eq (pc' := 85) O ⟨dL_tests_82, rfl⟩ E (tgt := 95) (by decide) (fun E => ?_) (fun E => ?_)
                · refine g_sub (lv' := [(0, .ref b0), (1, .ref b1), (2, .int x2_2), (3, .int x3_3), (4, .int r_4), (6, .int x6_8)]) [1, 2, 3, 4, 5, 7] rfl ?_
                  exact hk95 E
                · refine g_lload (pc' := 87) O ⟨dL_tests_85, rfl⟩ (q := 0) rfl ?_
                  refine g_iload_n (pc' := 88) O ⟨dL_tests_87, rfl⟩ (q := 4) rfl rfl ?_
                  refine g_i2l (pc' := 89) O ⟨dL_tests_88, rfl⟩ ?_
                  refine g_land (pc' := 90) O ⟨dL_tests_89, rfl⟩ ?_
                  refine g_lconst (pc' := 91) O ⟨dL_tests_90, rfl⟩ (v := (0 : Int64)) rfl ?_
                  refine g_lcmp (pc' := 92) O ⟨dL_tests_91, rfl⟩ ?_
                  refine g_if_eq (pc' := 95) O ⟨dL_tests_92, rfl⟩ E (tgt := 99) (by decide) (fun E => ?_) (fun E => ?_)
                  · refine g_iconst (pc' := 100) O ⟨dL_tests_99, rfl⟩ (v := (0 : Int32)) rfl ?_
                    refine g_istore (pc' := 102) O ⟨dL_tests_100, rfl⟩ (lv' := [(5, .int (0 : Int32)), (7, .long r_9), (0, .ref b0), (1, .ref b1), (2, .int x2_2), (3, .int x3_3), (4, .int r_4), (6, .int x6_8)]) (by decide) rfl ?_
                    refine g_iinc (pc' := 105) O ⟨dL_tests_102, rfl⟩ (q := 7) (v := x6_8 + (1 : Int32)) (lv' := [(6, .int (x6_8 + (1 : Int32))), (5, .int (0 : Int32)), (7, .long r_9), (0, .ref b0), (1, .ref b1), (2, .int x2_2), (3, .int x3_3), (4, .int r_4)]) rfl rfl (by decide) rfl ?_
                    refine g_goto (pc' := 108) O ⟨dL_tests_105, rfl⟩ (tgt := 48) (by decide) ?_
                    refine g_sub (lv' := [(0, .ref b0), (1, .ref b1), (2, .int x2_2), (3, .int x3_3), (4, .int r_4), (5, .int (0 : Int32)), (6, .int (x6_8 + (1 : Int32)))]) [3, 4, 5, 6, 7, 1, 0] rfl ?_
                    exact ih48 _ _ E
                  · refine g_sub (lv' := [(0, .ref b0), (1, .ref b1), (2, .int x2_2), (3, .int x3_3), (4, .int r_4), (6, .int x6_8)]) [1, 2, 3, 4, 5, 7] rfl ?_
                    exact hk95 E
      · refine g_iload_n (pc' := 29) O ⟨dL_tests_28, rfl⟩ (q := 3) rfl rfl ?_
        refine jn0_of (P := G l D X 9 (WA2 cy 24 4 b0 b1) 0 0 (r0, r1) 38 [(0, .ref b0), (1, .ref b1), (2, .int x2_2), (3, .int x3_3), (4, .int r_4)] []) E ?_ ?_
        · intro E
          show G l D X 9 (WA2 cy 24 4 b0 b1) 0 0 (r0, r1) 38 [(0, .ref b0), (1, .ref b1), (2, .int x2_2), (3, .int x3_3), (4, .int r_4)] []
          refine g_iconst (pc' := 39) O ⟨dL_tests_38, rfl⟩ (v := (1 : Int32)) rfl ?_
          refine g_goto (pc' := 42) O ⟨dL_tests_39, rfl⟩ (tgt := 43) (by decide) ?_
          refine g_istore (pc' := 45) O ⟨dL_tests_43, rfl⟩ (lv' := [(5, .int (1 : Int32)), (0, .ref b0), (1, .ref b1), (2, .int x2_2), (3, .int x3_3), (4, .int r_4)]) (by decide) rfl ?_
          refine g_iconst (pc' := 46) O ⟨dL_tests_45, rfl⟩ (v := (0 : Int32)) rfl ?_
          refine g_istore (pc' := 48) O ⟨dL_tests_46, rfl⟩ (lv' := [(6, .int (0 : Int32)), (5, .int (1 : Int32)), (0, .ref b0), (1, .ref b1), (2, .int x2_2), (3, .int x3_3), (4, .int r_4)]) (by decide) rfl ?_
          refine jn1_of (P := fun (x5_11 : Int32) => G l D X 9 (WA2 cy 24 4 b0 b1) 0 0 (r0, r1) 108 [(0, .ref b0), (1, .ref b1), (2, .int x2_2), (3, .int x3_3), (4, .int r_4), (5, .int x5_11)] []) E ?_ ?_
          · intro x5_11 E
            show G l D X 9 (WA2 cy 24 4 b0 b1) 0 0 (r0, r1) 108 [(0, .ref b0), (1, .ref b1), (2, .int x2_2), (3, .int x3_3), (4, .int r_4), (5, .int x5_11)] []
            refine g_iload (pc' := 110) O ⟨dL_tests_108, rfl⟩ (q := 5) rfl ?_
            refine g_if_eq (pc' := 113) O ⟨dL_tests_110, rfl⟩ E (tgt := 118) (by decide) (fun E => ?_) (fun E => ?_)
            · refine g_iload_n (pc' := 119) O ⟨dL_tests_118, rfl⟩ (q := 2) rfl rfl ?_
              refine g_istore_n (pc' := 120) O ⟨dL_tests_119, rfl⟩ (lv' := [(2, .int x2_2), (0, .ref b0), (1, .ref b1), (3, .int x3_3), (4, .int r_4), (5, .int x5_11)]) rfl (by decide) rfl ?_
              refine g_iinc (pc' := 123) O ⟨dL_tests_120, rfl⟩ (q := 3) (v := x3_3 + (1 : Int32)) (lv' := [(3, .int (x3_3 + (1 : Int32))), (2, .int x2_2), (0, .ref b0), (1, .ref b1), (4, .int r_4), (5, .int x5_11)]) rfl rfl (by decide) rfl ?_
              refine g_goto (pc' := 126) O ⟨dL_tests_123, rfl⟩ (tgt := 4) (by decide) ?_
              refine g_sub (lv' := [(0, .ref b0), (1, .ref b1), (2, .int x2_2), (3, .int (x3_3 + (1 : Int32)))]) [2, 3, 1, 0] rfl ?_
              exact ih4 _ _ E
            · refine g_iload (pc' := 115) O ⟨dL_tests_113, rfl⟩ (q := 4) rfl ?_
              refine g_goto (pc' := 118) O ⟨dL_tests_115, rfl⟩ (tgt := 119) (by decide) ?_
              refine g_istore_n (pc' := 120) O ⟨dL_tests_119, rfl⟩ (lv' := [(2, .int r_4), (0, .ref b0), (1, .ref b1), (3, .int x3_3), (4, .int r_4), (5, .int x5_11)]) rfl (by decide) rfl ?_
              refine g_iinc (pc' := 123) O ⟨dL_tests_120, rfl⟩ (q := 3) (v := x3_3 + (1 : Int32)) (lv' := [(3, .int (x3_3 + (1 : Int32))), (2, .int r_4), (0, .ref b0), (1, .ref b1), (4, .int r_4), (5, .int x5_11)]) rfl rfl (by decide) rfl ?_
              refine g_goto (pc' := 126) O ⟨dL_tests_123, rfl⟩ (tgt := 4) (by decide) ?_
              refine g_sub (lv' := [(0, .ref b0), (1, .ref b1), (2, .int r_4), (3, .int (x3_3 + (1 : Int32)))]) [2, 3, 1, 0] rfl ?_
              exact ih4 _ _ E
          · intro k108 hk108 E
            refine g_sub (lv' := [(0, .ref b0), (1, .ref b1), (2, .int x2_2), (3, .int x3_3), (4, .int r_4), (5, .int (1 : Int32)), (6, .int (0 : Int32))]) [2, 3, 4, 5, 6, 1, 0] rfl ?_
            refine fx2_of (P := fun (x5_12 : Int32) (x6_13 : Int32) => G l D X 9 (WA2 cy 24 4 b0 b1) 0 0 (r0, r1) 48 [(0, .ref b0), (1, .ref b1), (2, .int x2_2), (3, .int x3_3), (4, .int r_4), (5, .int x5_12), (6, .int x6_13)] []) ?_ _ _ _ E
            intro self ih48 x5_12 x6_13 E
            show G l D X 9 (WA2 cy 24 4 b0 b1) 0 0 (r0, r1) 48 [(0, .ref b0), (1, .ref b1), (2, .int x2_2), (3, .int x3_3), (4, .int r_4), (5, .int x5_12), (6, .int x6_13)] []
            unfold L_L_tests_48 at E
            refine g_iload (pc' := 50) O ⟨dL_tests_48, rfl⟩ (q := 6) rfl ?_
            refine g_iconst (pc' := 51) O ⟨dL_tests_50, rfl⟩ (v := (3 : Int32)) rfl ?_
            refine g_aload_n (pc' := 52) O ⟨dL_tests_51, rfl⟩ (q := 1) rfl rfl ?_
            refine g_iconst (pc' := 53) O ⟨dL_tests_52, rfl⟩ (v := (1 : Int32)) rfl ?_
            refine g_iald (pc' := 54) O ⟨dL_tests_53, rfl⟩ zA2_1 E (fun E => ?_)
            refine g_imul (pc' := 55) O ⟨dL_tests_54, rfl⟩ ?_
            refine g_icmp_ge (pc' := 58) O ⟨dL_tests_55, rfl⟩ E (tgt := 108) (by decide) (fun E => ?_) (fun E => ?_)
            · refine g_sub (lv' := [(0, .ref b0), (1, .ref b1), (2, .int x2_2), (3, .int x3_3), (4, .int r_4), (5, .int x5_12)]) [0, 1, 2, 3, 4, 5] rfl ?_
              exact hk108 _ E
            · refine g_iload (pc' := 60) O ⟨dL_tests_58, rfl⟩ (q := 5) rfl ?_
              refine g_if_eq (pc' := 63) O ⟨dL_tests_60, rfl⟩ E (tgt := 108) (by decide) (fun E => ?_) (fun E => ?_)
              · refine g_sub (lv' := [(0, .ref b0), (1, .ref b1), (2, .int x2_2), (3, .int x3_3), (4, .int r_4), (5, .int x5_12)]) [0, 1, 2, 3, 4, 5] rfl ?_
                exact hk108 _ E
              · refine g_iload (pc' := 65) O ⟨dL_tests_63, rfl⟩ (q := 6) rfl ?_
                refine g_iconst (pc' := 66) O ⟨dL_tests_65, rfl⟩ (v := (3 : Int32)) rfl ?_
                refine g_idiv (pc' := 67) O ⟨dL_tests_66, rfl⟩ (by decide) ?_
                refine g_iload (pc' := 69) O ⟨dL_tests_67, rfl⟩ (q := 6) rfl ?_
                refine g_iconst (pc' := 70) O ⟨dL_tests_69, rfl⟩ (v := (3 : Int32)) rfl ?_
                refine g_irem (pc' := 71) O ⟨dL_tests_70, rfl⟩ (by decide) ?_
                refine g_aload_n (pc' := 72) O ⟨dL_tests_71, rfl⟩ (q := 0) rfl rfl ?_
                refine g_aload_n (pc' := 73) O ⟨dL_tests_72, rfl⟩ (q := 1) rfl rfl ?_
                obtain ⟨r_14, c_15, E⟩ := bd_of E
                refine g_MSl (pc' := 76) O hN ⟨dL_tests_73, rfl⟩ (y := yL_telling) (As := [.int (x6_13 / (3 : Int32)), .int (irm x6_13 (3 : Int32)), .ref b0, .ref b1]) (st := []) (put := (fun g => (g.1, g.2))) sub_A2_A0_1 (t_L_telling l D cy hfl b0 b1 c_15) kw_809 kw_24 kw_807 kw_808 hd_L_telling ⟨Nat.le_of_ble_eq_true rfl, Nat.le_of_ble_eq_true rfl⟩ ⟨Nat.le_of_ble_eq_true rfl, Nat.le_of_ble_eq_true rfl⟩ rfl (Nat.le_of_ble_eq_true rfl) ?_
                show G l D X 9 (WA2 cy 24 4 b0 b1) 0 0 (r0, r1) 76 [(0, .ref b0), (1, .ref b1), (2, .int x2_2), (3, .int x3_3), (4, .int r_4), (5, .int x5_12), (6, .int x6_13)] [.long r_14]
                refine g_lstore (pc' := 78) O ⟨dL_tests_76, rfl⟩ (lv' := [(7, .long r_14), (0, .ref b0), (1, .ref b1), (2, .int x2_2), (3, .int x3_3), (4, .int r_4), (5, .int x5_12), (6, .int x6_13)]) (by decide) rfl ?_
                refine g_lload (pc' := 80) O ⟨dL_tests_78, rfl⟩ (q := 0) rfl ?_
                refine g_lconst (pc' := 81) O ⟨dL_tests_80, rfl⟩ (v := (0 : Int64)) rfl ?_
                refine g_lcmp (pc' := 82) O ⟨dL_tests_81, rfl⟩ ?_
                refine jn0_of (P := G l D X 9 (WA2 cy 24 4 b0 b1) 0 0 (r0, r1) 95 [(0, .ref b0), (1, .ref b1), (2, .int x2_2), (3, .int x3_3), (4, .int r_4), (6, .int x6_13)] []) E ?_ ?_
                · intro E
                  show G l D X 9 (WA2 cy 24 4 b0 b1) 0 0 (r0, r1) 95 [(0, .ref b0), (1, .ref b1), (2, .int x2_2), (3, .int x3_3), (4, .int r_4), (6, .int x6_13)] []
                  refine g_iconst (pc' := 96) O ⟨dL_tests_95, rfl⟩ (v := (1 : Int32)) rfl ?_
                  refine g_goto (pc' := 99) O ⟨dL_tests_96, rfl⟩ (tgt := 100) (by decide) ?_
                  refine g_istore (pc' := 102) O ⟨dL_tests_100, rfl⟩ (lv' := [(5, .int (1 : Int32)), (0, .ref b0), (1, .ref b1), (2, .int x2_2), (3, .int x3_3), (4, .int r_4), (6, .int x6_13)]) (by decide) rfl ?_
                  refine g_iinc (pc' := 105) O ⟨dL_tests_102, rfl⟩ (q := 6) (v := x6_13 + (1 : Int32)) (lv' := [(6, .int (x6_13 + (1 : Int32))), (5, .int (1 : Int32)), (0, .ref b0), (1, .ref b1), (2, .int x2_2), (3, .int x3_3), (4, .int r_4)]) rfl rfl (by decide) rfl ?_
                  refine g_goto (pc' := 108) O ⟨dL_tests_105, rfl⟩ (tgt := 48) (by decide) ?_
                  refine g_sub (lv' := [(0, .ref b0), (1, .ref b1), (2, .int x2_2), (3, .int x3_3), (4, .int r_4), (5, .int (1 : Int32)), (6, .int (x6_13 + (1 : Int32)))]) [2, 3, 4, 5, 6, 1, 0] rfl ?_
                  exact ih48 _ _ E
                · intro k95 hk95 E
                  refine g_if_eq (pc' := 85) O ⟨dL_tests_82, rfl⟩ E (tgt := 95) (by decide) (fun E => ?_) (fun E => ?_)
                  · refine g_sub (lv' := [(0, .ref b0), (1, .ref b1), (2, .int x2_2), (3, .int x3_3), (4, .int r_4), (6, .int x6_13)]) [1, 2, 3, 4, 5, 7] rfl ?_
                    exact hk95 E
                  · refine g_lload (pc' := 87) O ⟨dL_tests_85, rfl⟩ (q := 0) rfl ?_
                    refine g_iload_n (pc' := 88) O ⟨dL_tests_87, rfl⟩ (q := 4) rfl rfl ?_
                    refine g_i2l (pc' := 89) O ⟨dL_tests_88, rfl⟩ ?_
                    refine g_land (pc' := 90) O ⟨dL_tests_89, rfl⟩ ?_
                    refine g_lconst (pc' := 91) O ⟨dL_tests_90, rfl⟩ (v := (0 : Int64)) rfl ?_
                    refine g_lcmp (pc' := 92) O ⟨dL_tests_91, rfl⟩ ?_
                    refine g_if_eq (pc' := 95) O ⟨dL_tests_92, rfl⟩ E (tgt := 99) (by decide) (fun E => ?_) (fun E => ?_)
                    · refine g_iconst (pc' := 100) O ⟨dL_tests_99, rfl⟩ (v := (0 : Int32)) rfl ?_
                      refine g_istore (pc' := 102) O ⟨dL_tests_100, rfl⟩ (lv' := [(5, .int (0 : Int32)), (7, .long r_14), (0, .ref b0), (1, .ref b1), (2, .int x2_2), (3, .int x3_3), (4, .int r_4), (6, .int x6_13)]) (by decide) rfl ?_
                      refine g_iinc (pc' := 105) O ⟨dL_tests_102, rfl⟩ (q := 7) (v := x6_13 + (1 : Int32)) (lv' := [(6, .int (x6_13 + (1 : Int32))), (5, .int (0 : Int32)), (7, .long r_14), (0, .ref b0), (1, .ref b1), (2, .int x2_2), (3, .int x3_3), (4, .int r_4)]) rfl rfl (by decide) rfl ?_
                      refine g_goto (pc' := 108) O ⟨dL_tests_105, rfl⟩ (tgt := 48) (by decide) ?_
                      refine g_sub (lv' := [(0, .ref b0), (1, .ref b1), (2, .int x2_2), (3, .int x3_3), (4, .int r_4), (5, .int (0 : Int32)), (6, .int (x6_13 + (1 : Int32)))]) [3, 4, 5, 6, 7, 1, 0] rfl ?_
                      exact ih48 _ _ E
                    · refine g_sub (lv' := [(0, .ref b0), (1, .ref b1), (2, .int x2_2), (3, .int x3_3), (4, .int r_4), (6, .int x6_13)]) [1, 2, 3, 4, 5, 7] rfl ?_
                      exact hk95 E
        · intro k38 hk38 E
          refine g_if_lt (pc' := 32) O ⟨dL_tests_29, rfl⟩ E (tgt := 38) (by decide) (fun E => ?_) (fun E => ?_)
          · refine g_sub (lv' := [(0, .ref b0), (1, .ref b1), (2, .int x2_2), (3, .int x3_3), (4, .int r_4)]) [1, 2, 3, 4, 0] rfl ?_
            exact hk38 E
          · refine g_iload (pc' := 34) O ⟨dL_tests_32, rfl⟩ (q := 0) rfl ?_
            refine g_iload_n (pc' := 35) O ⟨dL_tests_34, rfl⟩ (q := 3) rfl rfl ?_
            refine g_icmp_ge (pc' := 38) O ⟨dL_tests_35, rfl⟩ E (tgt := 42) (by decide) (fun E => ?_) (fun E => ?_)
            · refine g_iconst (pc' := 43) O ⟨dL_tests_42, rfl⟩ (v := (0 : Int32)) rfl ?_
              refine g_istore (pc' := 45) O ⟨dL_tests_43, rfl⟩ (lv' := [(5, .int (0 : Int32)), (4, .int r_4), (0, .ref b0), (1, .ref b1), (2, .int x2_2), (3, .int x3_3)]) (by decide) rfl ?_
              refine g_iconst (pc' := 46) O ⟨dL_tests_45, rfl⟩ (v := (0 : Int32)) rfl ?_
              refine g_istore (pc' := 48) O ⟨dL_tests_46, rfl⟩ (lv' := [(6, .int (0 : Int32)), (5, .int (0 : Int32)), (4, .int r_4), (0, .ref b0), (1, .ref b1), (2, .int x2_2), (3, .int x3_3)]) (by decide) rfl ?_
              refine jn1_of (P := fun (x5_16 : Int32) => G l D X 9 (WA2 cy 24 4 b0 b1) 0 0 (r0, r1) 108 [(0, .ref b0), (1, .ref b1), (2, .int x2_2), (3, .int x3_3), (4, .int r_4), (5, .int x5_16)] []) E ?_ ?_
              · intro x5_16 E
                show G l D X 9 (WA2 cy 24 4 b0 b1) 0 0 (r0, r1) 108 [(0, .ref b0), (1, .ref b1), (2, .int x2_2), (3, .int x3_3), (4, .int r_4), (5, .int x5_16)] []
                refine g_iload (pc' := 110) O ⟨dL_tests_108, rfl⟩ (q := 5) rfl ?_
                refine g_if_eq (pc' := 113) O ⟨dL_tests_110, rfl⟩ E (tgt := 118) (by decide) (fun E => ?_) (fun E => ?_)
                · refine g_iload_n (pc' := 119) O ⟨dL_tests_118, rfl⟩ (q := 2) rfl rfl ?_
                  refine g_istore_n (pc' := 120) O ⟨dL_tests_119, rfl⟩ (lv' := [(2, .int x2_2), (0, .ref b0), (1, .ref b1), (3, .int x3_3), (4, .int r_4), (5, .int x5_16)]) rfl (by decide) rfl ?_
                  refine g_iinc (pc' := 123) O ⟨dL_tests_120, rfl⟩ (q := 3) (v := x3_3 + (1 : Int32)) (lv' := [(3, .int (x3_3 + (1 : Int32))), (2, .int x2_2), (0, .ref b0), (1, .ref b1), (4, .int r_4), (5, .int x5_16)]) rfl rfl (by decide) rfl ?_
                  refine g_goto (pc' := 126) O ⟨dL_tests_123, rfl⟩ (tgt := 4) (by decide) ?_
                  refine g_sub (lv' := [(0, .ref b0), (1, .ref b1), (2, .int x2_2), (3, .int (x3_3 + (1 : Int32)))]) [2, 3, 1, 0] rfl ?_
                  exact ih4 _ _ E
                · refine g_iload (pc' := 115) O ⟨dL_tests_113, rfl⟩ (q := 4) rfl ?_
                  refine g_goto (pc' := 118) O ⟨dL_tests_115, rfl⟩ (tgt := 119) (by decide) ?_
                  refine g_istore_n (pc' := 120) O ⟨dL_tests_119, rfl⟩ (lv' := [(2, .int r_4), (0, .ref b0), (1, .ref b1), (3, .int x3_3), (4, .int r_4), (5, .int x5_16)]) rfl (by decide) rfl ?_
                  refine g_iinc (pc' := 123) O ⟨dL_tests_120, rfl⟩ (q := 3) (v := x3_3 + (1 : Int32)) (lv' := [(3, .int (x3_3 + (1 : Int32))), (2, .int r_4), (0, .ref b0), (1, .ref b1), (4, .int r_4), (5, .int x5_16)]) rfl rfl (by decide) rfl ?_
                  refine g_goto (pc' := 126) O ⟨dL_tests_123, rfl⟩ (tgt := 4) (by decide) ?_
                  refine g_sub (lv' := [(0, .ref b0), (1, .ref b1), (2, .int r_4), (3, .int (x3_3 + (1 : Int32)))]) [2, 3, 1, 0] rfl ?_
                  exact ih4 _ _ E
              · intro k108 hk108 E
                refine g_sub (lv' := [(0, .ref b0), (1, .ref b1), (2, .int x2_2), (3, .int x3_3), (4, .int r_4), (5, .int (0 : Int32)), (6, .int (0 : Int32))]) [3, 4, 5, 6, 2, 1, 0] rfl ?_
                refine fx2_of (P := fun (x5_17 : Int32) (x6_18 : Int32) => G l D X 9 (WA2 cy 24 4 b0 b1) 0 0 (r0, r1) 48 [(0, .ref b0), (1, .ref b1), (2, .int x2_2), (3, .int x3_3), (4, .int r_4), (5, .int x5_17), (6, .int x6_18)] []) ?_ _ _ _ E
                intro self ih48 x5_17 x6_18 E
                show G l D X 9 (WA2 cy 24 4 b0 b1) 0 0 (r0, r1) 48 [(0, .ref b0), (1, .ref b1), (2, .int x2_2), (3, .int x3_3), (4, .int r_4), (5, .int x5_17), (6, .int x6_18)] []
                unfold L_L_tests_48 at E
                refine g_iload (pc' := 50) O ⟨dL_tests_48, rfl⟩ (q := 6) rfl ?_
                refine g_iconst (pc' := 51) O ⟨dL_tests_50, rfl⟩ (v := (3 : Int32)) rfl ?_
                refine g_aload_n (pc' := 52) O ⟨dL_tests_51, rfl⟩ (q := 1) rfl rfl ?_
                refine g_iconst (pc' := 53) O ⟨dL_tests_52, rfl⟩ (v := (1 : Int32)) rfl ?_
                refine g_iald (pc' := 54) O ⟨dL_tests_53, rfl⟩ zA2_1 E (fun E => ?_)
                refine g_imul (pc' := 55) O ⟨dL_tests_54, rfl⟩ ?_
                refine g_icmp_ge (pc' := 58) O ⟨dL_tests_55, rfl⟩ E (tgt := 108) (by decide) (fun E => ?_) (fun E => ?_)
                · refine g_sub (lv' := [(0, .ref b0), (1, .ref b1), (2, .int x2_2), (3, .int x3_3), (4, .int r_4), (5, .int x5_17)]) [0, 1, 2, 3, 4, 5] rfl ?_
                  exact hk108 _ E
                · refine g_iload (pc' := 60) O ⟨dL_tests_58, rfl⟩ (q := 5) rfl ?_
                  refine g_if_eq (pc' := 63) O ⟨dL_tests_60, rfl⟩ E (tgt := 108) (by decide) (fun E => ?_) (fun E => ?_)
                  · refine g_sub (lv' := [(0, .ref b0), (1, .ref b1), (2, .int x2_2), (3, .int x3_3), (4, .int r_4), (5, .int x5_17)]) [0, 1, 2, 3, 4, 5] rfl ?_
                    exact hk108 _ E
                  · refine g_iload (pc' := 65) O ⟨dL_tests_63, rfl⟩ (q := 6) rfl ?_
                    refine g_iconst (pc' := 66) O ⟨dL_tests_65, rfl⟩ (v := (3 : Int32)) rfl ?_
                    refine g_idiv (pc' := 67) O ⟨dL_tests_66, rfl⟩ (by decide) ?_
                    refine g_iload (pc' := 69) O ⟨dL_tests_67, rfl⟩ (q := 6) rfl ?_
                    refine g_iconst (pc' := 70) O ⟨dL_tests_69, rfl⟩ (v := (3 : Int32)) rfl ?_
                    refine g_irem (pc' := 71) O ⟨dL_tests_70, rfl⟩ (by decide) ?_
                    refine g_aload_n (pc' := 72) O ⟨dL_tests_71, rfl⟩ (q := 0) rfl rfl ?_
                    refine g_aload_n (pc' := 73) O ⟨dL_tests_72, rfl⟩ (q := 1) rfl rfl ?_
                    obtain ⟨r_19, c_20, E⟩ := bd_of E
                    refine g_MSl (pc' := 76) O hN ⟨dL_tests_73, rfl⟩ (y := yL_telling) (As := [.int (x6_18 / (3 : Int32)), .int (irm x6_18 (3 : Int32)), .ref b0, .ref b1]) (st := []) (put := (fun g => (g.1, g.2))) sub_A2_A0_1 (t_L_telling l D cy hfl b0 b1 c_20) kw_809 kw_24 kw_807 kw_808 hd_L_telling ⟨Nat.le_of_ble_eq_true rfl, Nat.le_of_ble_eq_true rfl⟩ ⟨Nat.le_of_ble_eq_true rfl, Nat.le_of_ble_eq_true rfl⟩ rfl (Nat.le_of_ble_eq_true rfl) ?_
                    show G l D X 9 (WA2 cy 24 4 b0 b1) 0 0 (r0, r1) 76 [(0, .ref b0), (1, .ref b1), (2, .int x2_2), (3, .int x3_3), (4, .int r_4), (5, .int x5_17), (6, .int x6_18)] [.long r_19]
                    refine g_lstore (pc' := 78) O ⟨dL_tests_76, rfl⟩ (lv' := [(7, .long r_19), (0, .ref b0), (1, .ref b1), (2, .int x2_2), (3, .int x3_3), (4, .int r_4), (5, .int x5_17), (6, .int x6_18)]) (by decide) rfl ?_
                    refine g_lload (pc' := 80) O ⟨dL_tests_78, rfl⟩ (q := 0) rfl ?_
                    refine g_lconst (pc' := 81) O ⟨dL_tests_80, rfl⟩ (v := (0 : Int64)) rfl ?_
                    refine g_lcmp (pc' := 82) O ⟨dL_tests_81, rfl⟩ ?_
                    refine jn0_of (P := G l D X 9 (WA2 cy 24 4 b0 b1) 0 0 (r0, r1) 95 [(0, .ref b0), (1, .ref b1), (2, .int x2_2), (3, .int x3_3), (4, .int r_4), (6, .int x6_18)] []) E ?_ ?_
                    · intro E
                      show G l D X 9 (WA2 cy 24 4 b0 b1) 0 0 (r0, r1) 95 [(0, .ref b0), (1, .ref b1), (2, .int x2_2), (3, .int x3_3), (4, .int r_4), (6, .int x6_18)] []
                      refine g_iconst (pc' := 96) O ⟨dL_tests_95, rfl⟩ (v := (1 : Int32)) rfl ?_
                      refine g_goto (pc' := 99) O ⟨dL_tests_96, rfl⟩ (tgt := 100) (by decide) ?_
                      refine g_istore (pc' := 102) O ⟨dL_tests_100, rfl⟩ (lv' := [(5, .int (1 : Int32)), (0, .ref b0), (1, .ref b1), (2, .int x2_2), (3, .int x3_3), (4, .int r_4), (6, .int x6_18)]) (by decide) rfl ?_
                      refine g_iinc (pc' := 105) O ⟨dL_tests_102, rfl⟩ (q := 6) (v := x6_18 + (1 : Int32)) (lv' := [(6, .int (x6_18 + (1 : Int32))), (5, .int (1 : Int32)), (0, .ref b0), (1, .ref b1), (2, .int x2_2), (3, .int x3_3), (4, .int r_4)]) rfl rfl (by decide) rfl ?_
                      refine g_goto (pc' := 108) O ⟨dL_tests_105, rfl⟩ (tgt := 48) (by decide) ?_
                      refine g_sub (lv' := [(0, .ref b0), (1, .ref b1), (2, .int x2_2), (3, .int x3_3), (4, .int r_4), (5, .int (1 : Int32)), (6, .int (x6_18 + (1 : Int32)))]) [2, 3, 4, 5, 6, 1, 0] rfl ?_
                      exact ih48 _ _ E
                    · intro k95 hk95 E
                      refine g_if_eq (pc' := 85) O ⟨dL_tests_82, rfl⟩ E (tgt := 95) (by decide) (fun E => ?_) (fun E => ?_)
                      · refine g_sub (lv' := [(0, .ref b0), (1, .ref b1), (2, .int x2_2), (3, .int x3_3), (4, .int r_4), (6, .int x6_18)]) [1, 2, 3, 4, 5, 7] rfl ?_
                        exact hk95 E
                      · refine g_lload (pc' := 87) O ⟨dL_tests_85, rfl⟩ (q := 0) rfl ?_
                        refine g_iload_n (pc' := 88) O ⟨dL_tests_87, rfl⟩ (q := 4) rfl rfl ?_
                        refine g_i2l (pc' := 89) O ⟨dL_tests_88, rfl⟩ ?_
                        refine g_land (pc' := 90) O ⟨dL_tests_89, rfl⟩ ?_
                        refine g_lconst (pc' := 91) O ⟨dL_tests_90, rfl⟩ (v := (0 : Int64)) rfl ?_
                        refine g_lcmp (pc' := 92) O ⟨dL_tests_91, rfl⟩ ?_
                        refine g_if_eq (pc' := 95) O ⟨dL_tests_92, rfl⟩ E (tgt := 99) (by decide) (fun E => ?_) (fun E => ?_)
                        · refine g_iconst (pc' := 100) O ⟨dL_tests_99, rfl⟩ (v := (0 : Int32)) rfl ?_
                          refine g_istore (pc' := 102) O ⟨dL_tests_100, rfl⟩ (lv' := [(5, .int (0 : Int32)), (7, .long r_19), (0, .ref b0), (1, .ref b1), (2, .int x2_2), (3, .int x3_3), (4, .int r_4), (6, .int x6_18)]) (by decide) rfl ?_
                          refine g_iinc (pc' := 105) O ⟨dL_tests_102, rfl⟩ (q := 7) (v := x6_18 + (1 : Int32)) (lv' := [(6, .int (x6_18 + (1 : Int32))), (5, .int (0 : Int32)), (7, .long r_19), (0, .ref b0), (1, .ref b1), (2, .int x2_2), (3, .int x3_3), (4, .int r_4)]) rfl rfl (by decide) rfl ?_
                          refine g_goto (pc' := 108) O ⟨dL_tests_105, rfl⟩ (tgt := 48) (by decide) ?_
                          refine g_sub (lv' := [(0, .ref b0), (1, .ref b1), (2, .int x2_2), (3, .int x3_3), (4, .int r_4), (5, .int (0 : Int32)), (6, .int (x6_18 + (1 : Int32)))]) [3, 4, 5, 6, 7, 1, 0] rfl ?_
                          exact ih48 _ _ E
                        · refine g_sub (lv' := [(0, .ref b0), (1, .ref b1), (2, .int x2_2), (3, .int x3_3), (4, .int r_4), (6, .int x6_18)]) [1, 2, 3, 4, 5, 7] rfl ?_
                          exact hk95 E
            · refine g_sub (lv' := [(0, .ref b0), (1, .ref b1), (2, .int x2_2), (3, .int x3_3), (4, .int r_4)]) [1, 2, 3, 4, 0] rfl ?_
              exact hk38 E
