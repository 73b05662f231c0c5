/-! WALKS, laid by program: each method does what its pure program says -/
set_option maxRecDepth 100000 in
set_option maxHeartbeats 4000000 in
theorem t_L_forgets (l : Launch) (D : va_G) (cy : Nat → ClassId) (hfl : l.stackTraces = false) (b0 : Nat)  {r0 : Row} {o : Row} (E : f_L_forgets r0 = some o) : CtMV l D cy (WA1 cy 6 b0) yL_forgets cL_forgets 2 0 0 0 0 [.ref b0] r0 o := by
  refine sMV (own := RL) rfl rfl (Nat.le_of_ble_eq_true rfl) (fun X O hN hret => ?_)
  show G l D X 2 (WA1 cy 6 b0) 0 0 r0 0 [(0, .ref b0)] []
  unfold f_L_forgets at E
  refine g_iconst (pc' := 1) O ⟨dL_forgets_0, rfl⟩ (v := (0 : Int32)) rfl ?_
  refine g_istore_n (pc' := 2) O ⟨dL_forgets_1, rfl⟩ (lv' := [(1, .int (0 : Int32)), (0, .ref b0)]) rfl (by decide) rfl ?_
  refine jn1_of (P := fun (r0_1 : Row) => G l D X 2 (WA1 cy 6 b0) 0 0 r0_1 18 [] []) E ?_ ?_
  · intro r0_1 E
    show G l D X 2 (WA1 cy 6 b0) 0 0 r0_1 18 [] []
    cases E
    exact hret _ _ _ _ _ (Nat.le_of_ble_eq_true rfl) (Nat.le_of_ble_eq_true rfl) ⟨dL_forgets_18, rfl⟩
  · intro k18 hk18 E
    refine g_sub (lv' := [(0, .ref b0), (1, .int (0 : Int32))]) [1, 0] rfl ?_
    refine fx2_of (P := fun (x1_2 : Int32) (r0_3 : Row) => G l D X 2 (WA1 cy 6 b0) 0 0 r0_3 2 [(0, .ref b0), (1, .int x1_2)] []) ?_ _ _ _ E
    intro self ih2 x1_2 r0_3 E
    show G l D X 2 (WA1 cy 6 b0) 0 0 r0_3 2 [(0, .ref b0), (1, .int x1_2)] []
    unfold L_L_forgets_2 at E
    refine g_iload_n (pc' := 3) O ⟨dL_forgets_2, rfl⟩ (q := 1) rfl rfl ?_
    refine g_bipush (pc' := 5) O ⟨dL_forgets_3, rfl⟩ (v := (6 : Int32)) rfl ?_
    refine g_icmp_ge (pc' := 8) O ⟨dL_forgets_5, rfl⟩ E (tgt := 18) (by decide) (fun E => ?_) (fun E => ?_)
    · refine g_sub (lv' := []) [] rfl ?_
      exact hk18 _ E
    · refine g_aload_n (pc' := 9) O ⟨dL_forgets_8, rfl⟩ (q := 0) rfl rfl ?_
      refine g_iload_n (pc' := 10) O ⟨dL_forgets_9, rfl⟩ (q := 1) rfl rfl ?_
      refine g_iconst (pc' := 11) O ⟨dL_forgets_10, rfl⟩ (v := (0 : Int32)) rfl ?_
      refine g_iast (pc' := 12) O ⟨dL_forgets_11, rfl⟩ zA1_0 zsA1_0 E (fun E => ?_)
      refine g_nmr (Go := fun (r0_4 : Row) => G l D X 2 (WA1 cy 6 b0) 0 0 r0_4 12 [(0, .ref b0), (1, .int x1_2)] []) E (fun r0_4 E => ?_)
      show G l D X 2 (WA1 cy 6 b0) 0 0 r0_4 12 [(0, .ref b0), (1, .int x1_2)] []
      refine g_iinc (pc' := 15) O ⟨dL_forgets_12, rfl⟩ (q := 1) (v := x1_2 + (1 : Int32)) (lv' := [(1, .int (x1_2 + (1 : Int32))), (0, .ref b0)]) rfl rfl (by decide) rfl ?_
      refine g_goto (pc' := 18) O ⟨dL_forgets_15, rfl⟩ (tgt := 2) (by decide) ?_
      refine g_sub (lv' := [(0, .ref b0), (1, .int (x1_2 + (1 : Int32)))]) [1, 0] rfl ?_
      exact ih2 _ _ E
set_option maxRecDepth 100000 in
set_option maxHeartbeats 4000000 in
theorem t_L_builds (l : Launch) (D : va_G) (ad : Nat → Nat) (cy : Nat → ClassId) (hfl : l.stackTraces = false) (b0 : Nat) (b1 : Nat) (b2 : Nat) (b3 : Nat) (b4 : Nat) {x1 : Int32} {x2 : Int32} {h : Hp} {r0 : Row} {r1 : Row} {r2 : Row} {r3 : Row} {r4 : Row} {o : Int32 × Hp × Row × Row × Row} (E : f_L_builds x1 x2 h r0 r1 r2 r3 r4 = some o) : CtMI l D cy (WX5 ad cy 24 40 6 36 4 b0 b1 b2 b3 b4) yL_builds cL_builds 15 .boolean 12 241 55 348 [.ref (ad 0), .int x1, .int x2, .ref b0, .ref b1, .ref b2, .ref b3, .ref b4] (h, r0, r1, r2, r3, r4) o.1 (o.2.1, o.2.2.1, r1, o.2.2.2.1, r3, o.2.2.2.2) := by
  refine sMI (own := RL) rfl rfl (Nat.le_of_ble_eq_true rfl) (fun X O hN hret => ?_)
  show G l D X 15 (WX5 ad cy 24 40 6 36 4 b0 b1 b2 b3 b4) 0 0 (h, r0, r1, r2, r3, r4) 0 [(0, .ref (ad 0)), (1, .int x1), (2, .int x2), (3, .ref b0), (4, .ref b1), (5, .ref b2), (6, .ref b3), (7, .ref b4)] []
  unfold f_L_builds at E
  refine g_aload (pc' := 2) O ⟨dL_builds_0, rfl⟩ (q := 7) rfl ?_
  refine g_iconst (pc' := 3) O ⟨dL_builds_2, rfl⟩ (v := (0 : Int32)) rfl ?_
  refine g_iald (pc' := 4) O ⟨dL_builds_3, rfl⟩ zX5_4 E (fun E => ?_)
  refine g_istore (pc' := 6) O ⟨dL_builds_4, rfl⟩ (lv' := [(8, .int (r4 (0 : Int32).toNatClampNeg)), (0, .ref (ad 0)), (1, .int x1), (2, .int x2), (3, .ref b0), (4, .ref b1), (5, .ref b2), (6, .ref b3), (7, .ref b4)]) (by decide) rfl ?_
  refine g_iload_n (pc' := 7) O ⟨dL_builds_6, rfl⟩ (q := 2) rfl rfl ?_
  refine g_if_ne (pc' := 10) O ⟨dL_builds_7, rfl⟩ E (tgt := 110) (by decide) (fun E => ?_) (fun E => ?_)
  · refine g_iload_n (pc' := 111) O ⟨dL_builds_110, rfl⟩ (q := 2) rfl rfl ?_
    refine g_iconst (pc' := 112) O ⟨dL_builds_111, rfl⟩ (v := (1 : Int32)) rfl ?_
    refine g_icmp_ne (pc' := 115) O ⟨dL_builds_112, rfl⟩ E (tgt := 188) (by decide) (fun E => ?_) (fun E => ?_)
    · refine g_iload_n (pc' := 189) O ⟨dL_builds_188, rfl⟩ (q := 2) rfl rfl ?_
      refine g_iconst (pc' := 190) O ⟨dL_builds_189, rfl⟩ (v := (2 : Int32)) rfl ?_
      refine g_icmp_ne (pc' := 193) O ⟨dL_builds_190, rfl⟩ E (tgt := 277) (by decide) (fun E => ?_) (fun E => ?_)
      · refine g_iload_n (pc' := 278) O ⟨dL_builds_277, rfl⟩ (q := 2) rfl rfl ?_
        refine g_iconst (pc' := 279) O ⟨dL_builds_278, rfl⟩ (v := (3 : Int32)) rfl ?_
        refine g_icmp_ne (pc' := 282) O ⟨dL_builds_279, rfl⟩ E (tgt := 433) (by decide) (fun E => ?_) (fun E => ?_)
        · refine g_aload (pc' := 435) O ⟨dL_builds_433, rfl⟩ (q := 6) rfl ?_
          obtain ⟨r_1, c_2, E⟩ := bd_of E
          refine g_MSv (pc' := 438) O hN ⟨dL_builds_435, rfl⟩ (y := yL_forgets) (As := [.ref b2]) (st := []) (put := (fun g => (h, r0, r1, g, r3, r4))) sub_X5_A2 (t_L_forgets l D cy hfl b2 c_2) kw_1031 kw_24 kw_1029 kw_1030 hd_L_forgets ⟨Nat.le_of_ble_eq_true rfl, Nat.le_of_ble_eq_true rfl⟩ ⟨Nat.le_of_ble_eq_true rfl, Nat.le_of_ble_eq_true rfl⟩ rfl (Nat.le_of_ble_eq_true rfl) ?_
          show G l D X 15 (WX5 ad cy 24 40 6 36 4 b0 b1 b2 b3 b4) 0 0 (h, r0, r1, r_1, r3, r4) 438 [(8, .int (r4 (0 : Int32).toNatClampNeg)), (0, .ref (ad 0)), (1, .int x1), (2, .int x2), (3, .ref b0), (4, .ref b1), (5, .ref b2), (6, .ref b3), (7, .ref b4)] []
          refine g_iload_n (pc' := 439) O ⟨dL_builds_438, rfl⟩ (q := 2) rfl rfl ?_
          refine g_iconst (pc' := 440) O ⟨dL_builds_439, rfl⟩ (v := (4 : Int32)) rfl ?_
          refine g_icmp_ne (pc' := 443) O ⟨dL_builds_440, rfl⟩ E (tgt := 499) (by decide) (fun E => ?_) (fun E => ?_)
          · refine g_iconst (pc' := 500) O ⟨dL_builds_499, rfl⟩ (v := (0 : Int32)) rfl ?_
            refine g_istore (pc' := 502) O ⟨dL_builds_500, rfl⟩ (lv' := [(9, .int (0 : Int32)), (8, .int (r4 (0 : Int32).toNatClampNeg)), (0, .ref (ad 0)), (1, .int x1), (2, .int x2), (3, .ref b0), (4, .ref b1), (5, .ref b2), (6, .ref b3), (7, .ref b4)]) (by decide) rfl ?_
            refine g_iload_n (pc' := 503) O ⟨dL_builds_502, rfl⟩ (q := 3) rfl rfl ?_
            refine g_iconst (pc' := 504) O ⟨dL_builds_503, rfl⟩ (v := (5 : Int32)) rfl ?_
            refine g_icmp_ne (pc' := 507) O ⟨dL_builds_504, rfl⟩ E (tgt := 703) (by decide) (fun E => ?_) (fun E => ?_)
            · refine g_bipush (pc' := 705) O ⟨dL_builds_703, rfl⟩ (v := (24 : Int32)) rfl ?_
              refine g_newr (pc' := 707) O ⟨dL_builds_705, rfl⟩ (N' := 24) (wf2 := fun b5 => (WX6 ad cy 24 40 6 36 4 24 b0 b1 b2 b3 b4 b5)) (h2 := (h, r0, r1, r_1, r3, r4, (fun _ => 0))) kw_94 rfl (by decide) (by decide) ⟨Nat.le_of_ble_eq_true rfl, Nat.le_of_ble_eq_true rfl⟩ (fun _ => rfl) (fun b5 => ?_)
              show G l D X 15 (WX6 ad cy 24 40 6 36 4 24 b0 b1 b2 b3 b4 b5) 1 24 (h, r0, r1, r_1, r3, r4, (fun _ => 0)) 707 [(9, .int (0 : Int32)), (8, .int (r4 (0 : Int32).toNatClampNeg)), (0, .ref (ad 0)), (1, .int x1), (2, .int x2), (3, .ref b0), (4, .ref b1), (5, .ref b2), (6, .ref b3), (7, .ref b4)] [.ref b5]
              refine g_astore (pc' := 709) O ⟨dL_builds_707, rfl⟩ (lv' := [(10, .ref b5), (9, .int (0 : Int32)), (8, .int (r4 (0 : Int32).toNatClampNeg)), (0, .ref (ad 0)), (1, .int x1), (2, .int x2), (3, .ref b0), (4, .ref b1), (5, .ref b2), (6, .ref b3), (7, .ref b4)]) (by decide) rfl ?_
              refine g_iconst (pc' := 710) O ⟨dL_builds_709, rfl⟩ (v := (0 : Int32)) rfl ?_
              refine g_istore (pc' := 712) O ⟨dL_builds_710, rfl⟩ (lv' := [(11, .int (0 : Int32)), (10, .ref b5), (9, .int (0 : Int32)), (8, .int (r4 (0 : Int32).toNatClampNeg)), (0, .ref (ad 0)), (1, .int x1), (2, .int x2), (3, .ref b0), (4, .ref b1), (5, .ref b2), (6, .ref b3), (7, .ref b4)]) (by decide) rfl ?_
              refine jn1_of (P := fun (r5_3 : Row) => G l D X 15 (WX6 ad cy 24 40 6 36 4 24 b0 b1 b2 b3 b4 b5) 1 24 (h, r0, r1, r_1, r3, r4, r5_3) 740 [(0, .ref (ad 0)), (3, .ref b0), (7, .ref b4), (10, .ref b5)] []) E ?_ ?_
              · intro r5_3 E
                show G l D X 15 (WX6 ad cy 24 40 6 36 4 24 b0 b1 b2 b3 b4 b5) 1 24 (h, r0, r1, r_1, r3, r4, r5_3) 740 [(0, .ref (ad 0)), (3, .ref b0), (7, .ref b4), (10, .ref b5)] []
                refine g_aload (pc' := 742) O ⟨dL_builds_740, rfl⟩ (q := 2) rfl ?_
                refine g_iconst (pc' := 743) O ⟨dL_builds_742, rfl⟩ (v := (1 : Int32)) rfl ?_
                refine g_iald (pc' := 744) O ⟨dL_builds_743, rfl⟩ zX6_4 E (fun E => ?_)
                refine g_istore (pc' := 746) O ⟨dL_builds_744, rfl⟩ (lv' := [(11, .int (r4 (1 : Int32).toNatClampNeg)), (0, .ref (ad 0)), (3, .ref b0), (7, .ref b4), (10, .ref b5)]) (by decide) rfl ?_
                refine g_aload (pc' := 748) O ⟨dL_builds_746, rfl⟩ (q := 3) rfl ?_
                refine g_iconst (pc' := 749) O ⟨dL_builds_748, rfl⟩ (v := (1 : Int32)) rfl ?_
                refine g_iconst (pc' := 750) O ⟨dL_builds_749, rfl⟩ (v := (0 : Int32)) rfl ?_
                refine g_iast (pc' := 751) O ⟨dL_builds_750, rfl⟩ zX6_4 zsX6_4 E (fun E => ?_)
                refine g_nmr (Go := fun (r4_4 : Row) => G l D X 15 (WX6 ad cy 24 40 6 36 4 24 b0 b1 b2 b3 b4 b5) 1 24 (h, r0, r1, r_1, r3, r4_4, r5_3) 751 [(11, .int (r4 (1 : Int32).toNatClampNeg)), (0, .ref (ad 0)), (3, .ref b0), (7, .ref b4), (10, .ref b5)] []) E (fun r4_4 E => ?_)
                show G l D X 15 (WX6 ad cy 24 40 6 36 4 24 b0 b1 b2 b3 b4 b5) 1 24 (h, r0, r1, r_1, r3, r4_4, r5_3) 751 [(11, .int (r4 (1 : Int32).toNatClampNeg)), (0, .ref (ad 0)), (3, .ref b0), (7, .ref b4), (10, .ref b5)] []
                refine g_iconst (pc' := 752) O ⟨dL_builds_751, rfl⟩ (v := (0 : Int32)) rfl ?_
                refine g_istore (pc' := 754) O ⟨dL_builds_752, rfl⟩ (lv' := [(12, .int (0 : Int32)), (11, .int (r4 (1 : Int32).toNatClampNeg)), (0, .ref (ad 0)), (3, .ref b0), (7, .ref b4), (10, .ref b5)]) (by decide) rfl ?_
                refine jn2_of (P := fun (r0_5 : Row) (r4_6 : Row) => G l D X 15 (WX6 ad cy 24 40 6 36 4 24 b0 b1 b2 b3 b4 b5) 1 24 (h, r0_5, r1, r_1, r3, r4_6, r5_3) 795 [(0, .ref (ad 0)), (7, .ref b4), (11, .int (r4 (1 : Int32).toNatClampNeg))] []) E ?_ ?_
                · intro r0_5 r4_6 E
                  show G l D X 15 (WX6 ad cy 24 40 6 36 4 24 b0 b1 b2 b3 b4 b5) 1 24 (h, r0_5, r1, r_1, r3, r4_6, r5_3) 795 [(0, .ref (ad 0)), (7, .ref b4), (11, .int (r4 (1 : Int32).toNatClampNeg))] []
                  refine g_aload_n (pc' := 796) O ⟨dL_builds_795, rfl⟩ (q := 0) rfl rfl ?_
                  obtain ⟨r_7, c_8, E⟩ := bd_of E
                  refine g_Ui (pc' := 799) O ⟨dL_builds_796, rfl⟩ (y := yX10_prune) (As := []) (st := []) (put := (fun g => (g, r0_5, r1, r_1, r3, r4_6, r5_3))) sub_X6_X (t_X10_prune l D ad cy (h := h) c_8) kw_1075 kw_25 kw_1072 kw_1073 kw_1074 rfl zX6_x hd_X10_prune ⟨Nat.le_of_ble_eq_true rfl, Nat.le_of_ble_eq_true rfl⟩ ⟨Nat.le_of_ble_eq_true rfl, Nat.le_of_ble_eq_true rfl⟩ rfl (Nat.le_of_ble_eq_true rfl) ?_
                  show G l D X 15 (WX6 ad cy 24 40 6 36 4 24 b0 b1 b2 b3 b4 b5) 1 24 (r_7.2, r0_5, r1, r_1, r3, r4_6, r5_3) 799 [(0, .ref (ad 0)), (7, .ref b4), (11, .int (r4 (1 : Int32).toNatClampNeg))] [.int r_7.1]
                  refine g_iload (pc' := 801) O ⟨dL_builds_799, rfl⟩ (q := 2) rfl ?_
                  refine g_aload (pc' := 803) O ⟨dL_builds_801, rfl⟩ (q := 1) rfl ?_
                  refine g_iconst (pc' := 804) O ⟨dL_builds_803, rfl⟩ (v := (1 : Int32)) rfl ?_
                  refine g_iald (pc' := 805) O ⟨dL_builds_804, rfl⟩ zX6_4 E (fun E => ?_)
                  refine g_isub (pc' := 806) O ⟨dL_builds_805, rfl⟩ ?_
                  refine g_icmp_ne (pc' := 809) O ⟨dL_builds_806, rfl⟩ E (tgt := 813) (by decide) (fun E => ?_) (fun E => ?_)
                  · refine g_iconst (pc' := 814) O ⟨dL_builds_813, rfl⟩ (v := (0 : Int32)) rfl ?_
                    obtain ⟨hn, E⟩ := ckz_of E
                    cases E
                    refine g_drop (wf := (WX5 ad cy 24 40 6 36 4 b0 b1 b2 b3 b4)) (h := (r_7.2, r0_5, r1, r_1, r3, r4_6)) (List.range 40) rfl rfl (by decide) ?_
                    exact hret _ _ _ _ _ (Nat.le_of_ble_eq_true rfl) (Nat.le_of_ble_eq_true rfl) ⟨dL_builds_814, rfl⟩ hn
                  · refine g_iconst (pc' := 810) O ⟨dL_builds_809, rfl⟩ (v := (1 : Int32)) rfl ?_
                    refine g_goto (pc' := 813) O ⟨dL_builds_810, rfl⟩ (tgt := 814) (by decide) ?_
                    obtain ⟨hn, E⟩ := ckz_of E
                    cases E
                    refine g_drop (wf := (WX5 ad cy 24 40 6 36 4 b0 b1 b2 b3 b4)) (h := (r_7.2, r0_5, r1, r_1, r3, r4_6)) (List.range 40) rfl rfl (by decide) ?_
                    exact hret _ _ _ _ _ (Nat.le_of_ble_eq_true rfl) (Nat.le_of_ble_eq_true rfl) ⟨dL_builds_814, rfl⟩ hn
                · intro k795 hk795 E
                  refine g_sub (lv' := [(0, .ref (ad 0)), (3, .ref b0), (7, .ref b4), (10, .ref b5), (11, .int (r4 (1 : Int32).toNatClampNeg)), (12, .int (0 : Int32))]) [2, 3, 4, 5, 1, 0] rfl ?_
                  refine fx3_of (P := fun (x12_9 : Int32) (r0_10 : Row) (r4_11 : Row) => G l D X 15 (WX6 ad cy 24 40 6 36 4 24 b0 b1 b2 b3 b4 b5) 1 24 (h, r0_10, r1, r_1, r3, r4_11, r5_3) 754 [(0, .ref (ad 0)), (3, .ref b0), (7, .ref b4), (10, .ref b5), (11, .int (r4 (1 : Int32).toNatClampNeg)), (12, .int x12_9)] []) ?_ _ _ _ _ E
                  intro self ih754 x12_9 r0_10 r4_11 E
                  show G l D X 15 (WX6 ad cy 24 40 6 36 4 24 b0 b1 b2 b3 b4 b5) 1 24 (h, r0_10, r1, r_1, r3, r4_11, r5_3) 754 [(0, .ref (ad 0)), (3, .ref b0), (7, .ref b4), (10, .ref b5), (11, .int (r4 (1 : Int32).toNatClampNeg)), (12, .int x12_9)] []
                  unfold L_L_builds_754 at E
                  refine g_iload (pc' := 756) O ⟨dL_builds_754, rfl⟩ (q := 5) rfl ?_
                  refine g_iload (pc' := 758) O ⟨dL_builds_756, rfl⟩ (q := 4) rfl ?_
                  refine g_icmp_ge (pc' := 761) O ⟨dL_builds_758, rfl⟩ E (tgt := 795) (by decide) (fun E => ?_) (fun E => ?_)
                  · refine g_sub (lv' := [(0, .ref (ad 0)), (7, .ref b4), (11, .int (r4 (1 : Int32).toNatClampNeg))]) [0, 2, 4] rfl ?_
                    exact hk795 _ _ E
                  · refine g_aload (pc' := 763) O ⟨dL_builds_761, rfl⟩ (q := 3) rfl ?_
                    refine g_iload (pc' := 765) O ⟨dL_builds_763, rfl⟩ (q := 5) rfl ?_
                    refine g_iald (pc' := 766) O ⟨dL_builds_765, rfl⟩ zX6_5 E (fun E => ?_)
                    refine g_if_le (pc' := 769) O ⟨dL_builds_766, rfl⟩ E (tgt := 789) (by decide) (fun E => ?_) (fun E => ?_)
                    · refine g_iinc (pc' := 792) O ⟨dL_builds_789, rfl⟩ (q := 5) (v := x12_9 + (1 : Int32)) (lv' := [(12, .int (x12_9 + (1 : Int32))), (0, .ref (ad 0)), (3, .ref b0), (7, .ref b4), (10, .ref b5), (11, .int (r4 (1 : Int32).toNatClampNeg))]) rfl rfl (by decide) rfl ?_
                      refine g_goto (pc' := 795) O ⟨dL_builds_792, rfl⟩ (tgt := 754) (by decide) ?_
                      refine g_sub (lv' := [(0, .ref (ad 0)), (3, .ref b0), (7, .ref b4), (10, .ref b5), (11, .int (r4 (1 : Int32).toNatClampNeg)), (12, .int (x12_9 + (1 : Int32)))]) [1, 2, 3, 4, 5, 0] rfl ?_
                      exact ih754 _ _ _ E
                    · refine g_aload_n (pc' := 770) O ⟨dL_builds_769, rfl⟩ (q := 1) rfl rfl ?_
                      refine g_iload (pc' := 772) O ⟨dL_builds_770, rfl⟩ (q := 5) rfl ?_
                      refine g_iald (pc' := 773) O ⟨dL_builds_772, rfl⟩ zX6_0 E (fun E => ?_)
                      refine g_bipush (pc' := 775) O ⟨dL_builds_773, rfl⟩ (v := (8 : Int32)) rfl ?_
                      refine g_irem (pc' := 776) O ⟨dL_builds_775, rfl⟩ (by decide) ?_
                      refine g_aload_n (pc' := 777) O ⟨dL_builds_776, rfl⟩ (q := 1) rfl rfl ?_
                      refine g_iload (pc' := 779) O ⟨dL_builds_777, rfl⟩ (q := 5) rfl ?_
                      refine g_iald (pc' := 780) O ⟨dL_builds_779, rfl⟩ zX6_0 E (fun E => ?_)
                      refine g_bipush (pc' := 782) O ⟨dL_builds_780, rfl⟩ (v := (8 : Int32)) rfl ?_
                      refine g_idiv (pc' := 783) O ⟨dL_builds_782, rfl⟩ (by decide) ?_
                      refine g_aload_n (pc' := 784) O ⟨dL_builds_783, rfl⟩ (q := 1) rfl rfl ?_
                      refine g_aload (pc' := 786) O ⟨dL_builds_784, rfl⟩ (q := 2) rfl ?_
                      obtain ⟨r_12, c_13, E⟩ := bd_of E
                      refine g_MSv (pc' := 789) O hN ⟨dL_builds_786, rfl⟩ (y := yL_puts) (As := [.int (irm (r0_10 x12_9.toNatClampNeg) (8 : Int32)), .int ((r0_10 x12_9.toNatClampNeg) / (8 : Int32)), .ref b0, .ref b4]) (st := []) (put := (fun g => (h, g.1, r1, r_1, r3, g.2, r5_3))) sub_X6_A0_4 (t_L_puts l D cy hfl b0 b4 c_13) kw_1037 kw_24 kw_1035 kw_1036 hd_L_puts ⟨Nat.le_of_ble_eq_true rfl, Nat.le_of_ble_eq_true rfl⟩ ⟨Nat.le_of_ble_eq_true rfl, Nat.le_of_ble_eq_true rfl⟩ rfl (Nat.le_of_ble_eq_true rfl) ?_
                      show G l D X 15 (WX6 ad cy 24 40 6 36 4 24 b0 b1 b2 b3 b4 b5) 1 24 (h, r_12.1, r1, r_1, r3, r_12.2, r5_3) 789 [(0, .ref (ad 0)), (3, .ref b0), (7, .ref b4), (10, .ref b5), (11, .int (r4 (1 : Int32).toNatClampNeg)), (12, .int x12_9)] []
                      refine g_iinc (pc' := 792) O ⟨dL_builds_789, rfl⟩ (q := 5) (v := x12_9 + (1 : Int32)) (lv' := [(12, .int (x12_9 + (1 : Int32))), (0, .ref (ad 0)), (3, .ref b0), (7, .ref b4), (10, .ref b5), (11, .int (r4 (1 : Int32).toNatClampNeg))]) rfl rfl (by decide) rfl ?_
                      refine g_goto (pc' := 795) O ⟨dL_builds_792, rfl⟩ (tgt := 754) (by decide) ?_
                      refine g_sub (lv' := [(0, .ref (ad 0)), (3, .ref b0), (7, .ref b4), (10, .ref b5), (11, .int (r4 (1 : Int32).toNatClampNeg)), (12, .int (x12_9 + (1 : Int32)))]) [1, 2, 3, 4, 5, 0] rfl ?_
                      exact ih754 _ _ _ E
              · intro k740 hk740 E
                refine g_sub (lv' := [(0, .ref (ad 0)), (3, .ref b0), (7, .ref b4), (10, .ref b5), (11, .int (0 : Int32))]) [4, 7, 11, 1, 0] rfl ?_
                refine fx2_of (P := fun (x11_14 : Int32) (r5_15 : Row) => G l D X 15 (WX6 ad cy 24 40 6 36 4 24 b0 b1 b2 b3 b4 b5) 1 24 (h, r0, r1, r_1, r3, r4, r5_15) 712 [(0, .ref (ad 0)), (3, .ref b0), (7, .ref b4), (10, .ref b5), (11, .int x11_14)] []) ?_ _ _ _ E
                intro self ih712 x11_14 r5_15 E
                show G l D X 15 (WX6 ad cy 24 40 6 36 4 24 b0 b1 b2 b3 b4 b5) 1 24 (h, r0, r1, r_1, r3, r4, r5_15) 712 [(0, .ref (ad 0)), (3, .ref b0), (7, .ref b4), (10, .ref b5), (11, .int x11_14)] []
                unfold L_L_builds_712 at E
                refine g_iload (pc' := 714) O ⟨dL_builds_712, rfl⟩ (q := 4) rfl ?_
                refine g_aload (pc' := 716) O ⟨dL_builds_714, rfl⟩ (q := 2) rfl ?_
                refine g_iconst (pc' := 717) O ⟨dL_builds_716, rfl⟩ (v := (1 : Int32)) rfl ?_
                refine g_iald (pc' := 718) O ⟨dL_builds_717, rfl⟩ zX6_4 E (fun E => ?_)
                refine g_icmp_ge (pc' := 721) O ⟨dL_builds_718, rfl⟩ E (tgt := 740) (by decide) (fun E => ?_) (fun E => ?_)
                · refine g_sub (lv' := [(0, .ref (ad 0)), (3, .ref b0), (7, .ref b4), (10, .ref b5)]) [0, 1, 2, 3] rfl ?_
                  exact hk740 _ E
                · refine g_aload (pc' := 723) O ⟨dL_builds_721, rfl⟩ (q := 3) rfl ?_
                  refine g_iload (pc' := 725) O ⟨dL_builds_723, rfl⟩ (q := 4) rfl ?_
                  refine g_iload (pc' := 727) O ⟨dL_builds_725, rfl⟩ (q := 4) rfl ?_
                  refine g_aload_n (pc' := 728) O ⟨dL_builds_727, rfl⟩ (q := 1) rfl rfl ?_
                  refine g_aload (pc' := 730) O ⟨dL_builds_728, rfl⟩ (q := 2) rfl ?_
                  obtain ⟨r_16, c_17, E⟩ := bd_of E
                  refine g_MSi (pc' := 733) O hN ⟨dL_builds_730, rfl⟩ (y := yL_often) (As := [.int x11_14, .ref b0, .ref b4]) (st := [.int x11_14, .ref b5]) (put := (fun g => (h, g.1, r1, r_1, r3, g.2, r5_15))) sub_X6_A0_4 (t_L_often l D cy hfl b0 b4 c_17) kw_562 kw_24 kw_560 kw_561 hd_L_often ⟨Nat.le_of_ble_eq_true rfl, Nat.le_of_ble_eq_true rfl⟩ ⟨Nat.le_of_ble_eq_true rfl, Nat.le_of_ble_eq_true rfl⟩ rfl (Nat.le_of_ble_eq_true rfl) ?_
                  show G l D X 15 (WX6 ad cy 24 40 6 36 4 24 b0 b1 b2 b3 b4 b5) 1 24 (h, r0, r1, r_1, r3, r4, r5_15) 733 [(0, .ref (ad 0)), (3, .ref b0), (7, .ref b4), (10, .ref b5), (11, .int x11_14)] [.int r_16, .int x11_14, .ref b5]
                  refine g_iast (pc' := 734) O ⟨dL_builds_733, rfl⟩ zX6_5 zsX6_5 E (fun E => ?_)
                  refine g_nmr (Go := fun (r5_18 : Row) => G l D X 15 (WX6 ad cy 24 40 6 36 4 24 b0 b1 b2 b3 b4 b5) 1 24 (h, r0, r1, r_1, r3, r4, r5_18) 734 [(0, .ref (ad 0)), (3, .ref b0), (7, .ref b4), (10, .ref b5), (11, .int x11_14)] []) E (fun r5_18 E => ?_)
                  show G l D X 15 (WX6 ad cy 24 40 6 36 4 24 b0 b1 b2 b3 b4 b5) 1 24 (h, r0, r1, r_1, r3, r4, r5_18) 734 [(0, .ref (ad 0)), (3, .ref b0), (7, .ref b4), (10, .ref b5), (11, .int x11_14)] []
                  refine g_iinc (pc' := 737) O ⟨dL_builds_734, rfl⟩ (q := 4) (v := x11_14 + (1 : Int32)) (lv' := [(11, .int (x11_14 + (1 : Int32))), (0, .ref (ad 0)), (3, .ref b0), (7, .ref b4), (10, .ref b5)]) rfl rfl (by decide) rfl ?_
                  refine g_goto (pc' := 740) O ⟨dL_builds_737, rfl⟩ (tgt := 712) (by decide) ?_
                  refine g_sub (lv' := [(0, .ref (ad 0)), (3, .ref b0), (7, .ref b4), (10, .ref b5), (11, .int (x11_14 + (1 : Int32)))]) [1, 2, 3, 4, 0] rfl ?_
                  exact ih712 _ _ E
            · refine g_bipush (pc' := 509) O ⟨dL_builds_507, rfl⟩ (v := (6 : Int32)) rfl ?_
              refine g_newr (pc' := 511) O ⟨dL_builds_509, rfl⟩ (N' := 6) (wf2 := fun b6 => (WX6 ad cy 24 40 6 36 4 6 b0 b1 b2 b3 b4 b6)) (h2 := (h, r0, r1, r_1, r3, r4, (fun _ => 0))) kw_94 rfl (by decide) (by decide) ⟨Nat.le_of_ble_eq_true rfl, Nat.le_of_ble_eq_true rfl⟩ (fun _ => rfl) (fun b6 => ?_)
              show G l D X 15 (WX6 ad cy 24 40 6 36 4 6 b0 b1 b2 b3 b4 b6) 1 6 (h, r0, r1, r_1, r3, r4, (fun _ => 0)) 511 [(9, .int (0 : Int32)), (8, .int (r4 (0 : Int32).toNatClampNeg)), (0, .ref (ad 0)), (1, .int x1), (2, .int x2), (3, .ref b0), (4, .ref b1), (5, .ref b2), (6, .ref b3), (7, .ref b4)] [.ref b6]
              refine g_astore (pc' := 513) O ⟨dL_builds_511, rfl⟩ (lv' := [(10, .ref b6), (9, .int (0 : Int32)), (8, .int (r4 (0 : Int32).toNatClampNeg)), (0, .ref (ad 0)), (1, .int x1), (2, .int x2), (3, .ref b0), (4, .ref b1), (5, .ref b2), (6, .ref b3), (7, .ref b4)]) (by decide) rfl ?_
              refine g_iconst (pc' := 514) O ⟨dL_builds_513, rfl⟩ (v := (0 : Int32)) rfl ?_
              refine g_istore (pc' := 516) O ⟨dL_builds_514, rfl⟩ (lv' := [(11, .int (0 : Int32)), (10, .ref b6), (9, .int (0 : Int32)), (8, .int (r4 (0 : Int32).toNatClampNeg)), (0, .ref (ad 0)), (1, .int x1), (2, .int x2), (3, .ref b0), (4, .ref b1), (5, .ref b2), (6, .ref b3), (7, .ref b4)]) (by decide) rfl ?_
              refine jn1_of (P := fun (r6_19 : Row) => G l D X 15 (WX6 ad cy 24 40 6 36 4 6 b0 b1 b2 b3 b4 b6) 1 6 (h, r0, r1, r_1, r3, r4, r6_19) 536 [(0, .ref (ad 0)), (3, .ref b0), (7, .ref b4), (8, .int (r4 (0 : Int32).toNatClampNeg)), (9, .int (0 : Int32)), (10, .ref b6)] []) E ?_ ?_
              · intro r6_19 E
                show G l D X 15 (WX6 ad cy 24 40 6 36 4 6 b0 b1 b2 b3 b4 b6) 1 6 (h, r0, r1, r_1, r3, r4, r6_19) 536 [(0, .ref (ad 0)), (3, .ref b0), (7, .ref b4), (8, .int (r4 (0 : Int32).toNatClampNeg)), (9, .int (0 : Int32)), (10, .ref b6)] []
                refine g_iconst (pc' := 537) O ⟨dL_builds_536, rfl⟩ (v := (0 : Int32)) rfl ?_
                refine g_istore (pc' := 539) O ⟨dL_builds_537, rfl⟩ (lv' := [(11, .int (0 : Int32)), (0, .ref (ad 0)), (3, .ref b0), (7, .ref b4), (8, .int (r4 (0 : Int32).toNatClampNeg)), (9, .int (0 : Int32)), (10, .ref b6)]) (by decide) rfl ?_
                refine jn3_of (P := fun (x9_20 : Int32) (r0_21 : Row) (r6_22 : Row) => G l D X 15 (WX6 ad cy 24 40 6 36 4 6 b0 b1 b2 b3 b4 b6) 1 6 (h, r0_21, r1, r_1, r3, r4, r6_22) 688 [(0, .ref (ad 0)), (9, .int x9_20)] []) E ?_ ?_
                · intro x9_20 r0_21 r6_22 E
                  show G l D X 15 (WX6 ad cy 24 40 6 36 4 6 b0 b1 b2 b3 b4 b6) 1 6 (h, r0_21, r1, r_1, r3, r4, r6_22) 688 [(0, .ref (ad 0)), (9, .int x9_20)] []
                  refine g_aload_n (pc' := 689) O ⟨dL_builds_688, rfl⟩ (q := 0) rfl rfl ?_
                  obtain ⟨r_23, c_24, E⟩ := bd_of E
                  refine g_Ui (pc' := 692) O ⟨dL_builds_689, rfl⟩ (y := yX10_untangle) (As := []) (st := []) (put := (fun g => (g, r0_21, r1, r_1, r3, r4, r6_22))) sub_X6_X (t_X10_untangle l D ad cy (h := h) c_24) kw_1060 kw_25 kw_1057 kw_1058 kw_1059 rfl zX6_x hd_X10_untangle ⟨Nat.le_of_ble_eq_true rfl, Nat.le_of_ble_eq_true rfl⟩ ⟨Nat.le_of_ble_eq_true rfl, Nat.le_of_ble_eq_true rfl⟩ rfl (Nat.le_of_ble_eq_true rfl) ?_
                  show G l D X 15 (WX6 ad cy 24 40 6 36 4 6 b0 b1 b2 b3 b4 b6) 1 6 (r_23.2, r0_21, r1, r_1, r3, r4, r6_22) 692 [(0, .ref (ad 0)), (9, .int x9_20)] [.int r_23.1]
                  refine g_iload (pc' := 694) O ⟨dL_builds_692, rfl⟩ (q := 1) rfl ?_
                  refine g_icmp_ne (pc' := 697) O ⟨dL_builds_694, rfl⟩ E (tgt := 701) (by decide) (fun E => ?_) (fun E => ?_)
                  · refine g_iconst (pc' := 702) O ⟨dL_builds_701, rfl⟩ (v := (0 : Int32)) rfl ?_
                    obtain ⟨hn, E⟩ := ckz_of E
                    cases E
                    refine g_drop (wf := (WX5 ad cy 24 40 6 36 4 b0 b1 b2 b3 b4)) (h := (r_23.2, r0_21, r1, r_1, r3, r4)) (List.range 40) rfl rfl (by decide) ?_
                    exact hret _ _ _ _ _ (Nat.le_of_ble_eq_true rfl) (Nat.le_of_ble_eq_true rfl) ⟨dL_builds_702, rfl⟩ hn
                  · refine g_iconst (pc' := 698) O ⟨dL_builds_697, rfl⟩ (v := (1 : Int32)) rfl ?_
                    refine g_goto (pc' := 701) O ⟨dL_builds_698, rfl⟩ (tgt := 702) (by decide) ?_
                    obtain ⟨hn, E⟩ := ckz_of E
                    cases E
                    refine g_drop (wf := (WX5 ad cy 24 40 6 36 4 b0 b1 b2 b3 b4)) (h := (r_23.2, r0_21, r1, r_1, r3, r4)) (List.range 40) rfl rfl (by decide) ?_
                    exact hret _ _ _ _ _ (Nat.le_of_ble_eq_true rfl) (Nat.le_of_ble_eq_true rfl) ⟨dL_builds_702, rfl⟩ hn
                · intro k688 hk688 E
                  refine g_sub (lv' := [(0, .ref (ad 0)), (3, .ref b0), (7, .ref b4), (8, .int (r4 (0 : Int32).toNatClampNeg)), (9, .int (0 : Int32)), (10, .ref b6), (11, .int (0 : Int32))]) [1, 2, 3, 4, 5, 6, 0] rfl ?_
                  refine fx4_of (P := fun (x9_25 : Int32) (x11_26 : Int32) (r0_27 : Row) (r6_28 : Row) => G l D X 15 (WX6 ad cy 24 40 6 36 4 6 b0 b1 b2 b3 b4 b6) 1 6 (h, r0_27, r1, r_1, r3, r4, r6_28) 539 [(0, .ref (ad 0)), (3, .ref b0), (7, .ref b4), (8, .int (r4 (0 : Int32).toNatClampNeg)), (9, .int x9_25), (10, .ref b6), (11, .int x11_26)] []) ?_ _ _ _ _ _ E
                  intro self ih539 x9_25 x11_26 r0_27 r6_28 E
                  show G l D X 15 (WX6 ad cy 24 40 6 36 4 6 b0 b1 b2 b3 b4 b6) 1 6 (h, r0_27, r1, r_1, r3, r4, r6_28) 539 [(0, .ref (ad 0)), (3, .ref b0), (7, .ref b4), (8, .int (r4 (0 : Int32).toNatClampNeg)), (9, .int x9_25), (10, .ref b6), (11, .int x11_26)] []
                  unfold L_L_builds_539 at E
                  refine g_iload (pc' := 541) O ⟨dL_builds_539, rfl⟩ (q := 6) rfl ?_
                  refine g_aload (pc' := 543) O ⟨dL_builds_541, rfl⟩ (q := 2) rfl ?_
                  refine g_iconst (pc' := 544) O ⟨dL_builds_543, rfl⟩ (v := (1 : Int32)) rfl ?_
                  refine g_iald (pc' := 545) O ⟨dL_builds_544, rfl⟩ zX6_4 E (fun E => ?_)
                  refine g_icmp_ge (pc' := 548) O ⟨dL_builds_545, rfl⟩ E (tgt := 688) (by decide) (fun E => ?_) (fun E => ?_)
                  · refine g_sub (lv' := [(0, .ref (ad 0)), (9, .int x9_25)]) [0, 4] rfl ?_
                    exact hk688 _ _ _ E
                  · refine g_aload (pc' := 550) O ⟨dL_builds_548, rfl⟩ (q := 5) rfl ?_
                    refine g_aload_n (pc' := 551) O ⟨dL_builds_550, rfl⟩ (q := 1) rfl rfl ?_
                    refine g_iload (pc' := 553) O ⟨dL_builds_551, rfl⟩ (q := 6) rfl ?_
                    refine g_iald (pc' := 554) O ⟨dL_builds_553, rfl⟩ zX6_0 E (fun E => ?_)
                    refine g_bipush (pc' := 556) O ⟨dL_builds_554, rfl⟩ (v := (8 : Int32)) rfl ?_
                    refine g_irem (pc' := 557) O ⟨dL_builds_556, rfl⟩ (by decide) ?_
                    refine g_iald (pc' := 558) O ⟨dL_builds_557, rfl⟩ zX6_5 E (fun E => ?_)
                    refine g_nm E (fun y12_29 E => ?_)
                    refine g_istore (pc' := 560) O ⟨dL_builds_558, rfl⟩ (lv' := [(12, .int y12_29), (0, .ref (ad 0)), (3, .ref b0), (7, .ref b4), (8, .int (r4 (0 : Int32).toNatClampNeg)), (9, .int x9_25), (10, .ref b6), (11, .int x11_26)]) (by decide) rfl ?_
                    refine g_aload (pc' := 562) O ⟨dL_builds_560, rfl⟩ (q := 6) rfl ?_
                    refine g_aload_n (pc' := 563) O ⟨dL_builds_562, rfl⟩ (q := 2) rfl rfl ?_
                    refine g_iload (pc' := 565) O ⟨dL_builds_563, rfl⟩ (q := 7) rfl ?_
                    refine g_iald (pc' := 566) O ⟨dL_builds_565, rfl⟩ zX6_0 E (fun E => ?_)
                    refine g_bipush (pc' := 568) O ⟨dL_builds_566, rfl⟩ (v := (8 : Int32)) rfl ?_
                    refine g_idiv (pc' := 569) O ⟨dL_builds_568, rfl⟩ (by decide) ?_
                    refine g_iald (pc' := 570) O ⟨dL_builds_569, rfl⟩ zX6_5 E (fun E => ?_)
                    refine g_nm E (fun y13_30 E => ?_)
                    refine g_istore (pc' := 572) O ⟨dL_builds_570, rfl⟩ (lv' := [(13, .int y13_30), (12, .int y12_29), (0, .ref (ad 0)), (3, .ref b0), (7, .ref b4), (8, .int (r4 (0 : Int32).toNatClampNeg)), (9, .int x9_25), (10, .ref b6), (11, .int x11_26)]) (by decide) rfl ?_
                    refine g_iconst (pc' := 573) O ⟨dL_builds_572, rfl⟩ (v := (0 : Int32)) rfl ?_
                    refine g_istore (pc' := 575) O ⟨dL_builds_573, rfl⟩ (lv' := [(14, .int (0 : Int32)), (13, .int y13_30), (12, .int y12_29), (0, .ref (ad 0)), (3, .ref b0), (7, .ref b4), (8, .int (r4 (0 : Int32).toNatClampNeg)), (9, .int x9_25), (10, .ref b6), (11, .int x11_26)]) (by decide) rfl ?_
                    refine jn1_of (P := fun (r6_31 : Row) => G l D X 15 (WX6 ad cy 24 40 6 36 4 6 b0 b1 b2 b3 b4 b6) 1 6 (h, r0_27, r1, r_1, r3, r4, r6_31) 635 [(0, .ref (ad 0)), (3, .ref b0), (7, .ref b4), (8, .int (r4 (0 : Int32).toNatClampNeg)), (9, .int x9_25), (10, .ref b6), (11, .int x11_26), (12, .int y12_29), (13, .int y13_30)] []) E ?_ ?_
                    · intro r6_31 E
                      show G l D X 15 (WX6 ad cy 24 40 6 36 4 6 b0 b1 b2 b3 b4 b6) 1 6 (h, r0_27, r1, r_1, r3, r4, r6_31) 635 [(0, .ref (ad 0)), (3, .ref b0), (7, .ref b4), (8, .int (r4 (0 : Int32).toNatClampNeg)), (9, .int x9_25), (10, .ref b6), (11, .int x11_26), (12, .int y12_29), (13, .int y13_30)] []
                      refine g_iload (pc' := 637) O ⟨dL_builds_635, rfl⟩ (q := 4) rfl ?_
                      refine g_iload (pc' := 639) O ⟨dL_builds_637, rfl⟩ (q := 7) rfl ?_
                      refine g_iload (pc' := 641) O ⟨dL_builds_639, rfl⟩ (q := 8) rfl ?_
                      refine jn1_of (P := fun (z_32 : Int32) => G l D X 15 (WX6 ad cy 24 40 6 36 4 6 b0 b1 b2 b3 b4 b6) 1 6 (h, r0_27, r1, r_1, r3, r4, r6_31) 649 [(0, .ref (ad 0)), (3, .ref b0), (7, .ref b4), (8, .int (r4 (0 : Int32).toNatClampNeg)), (10, .ref b6), (11, .int x11_26), (12, .int y12_29), (13, .int y13_30)] [.int z_32, .int x9_25]) E ?_ ?_
                      · intro z_32 E
                        show G l D X 15 (WX6 ad cy 24 40 6 36 4 6 b0 b1 b2 b3 b4 b6) 1 6 (h, r0_27, r1, r_1, r3, r4, r6_31) 649 [(0, .ref (ad 0)), (3, .ref b0), (7, .ref b4), (8, .int (r4 (0 : Int32).toNatClampNeg)), (10, .ref b6), (11, .int x11_26), (12, .int y12_29), (13, .int y13_30)] [.int z_32, .int x9_25]
                        refine g_iadd (pc' := 650) O ⟨dL_builds_649, rfl⟩ ?_
                        refine g_nm E (fun y9_33 E => ?_)
                        refine g_istore (pc' := 652) O ⟨dL_builds_650, rfl⟩ (lv' := [(9, .int y9_33), (0, .ref (ad 0)), (3, .ref b0), (7, .ref b4), (8, .int (r4 (0 : Int32).toNatClampNeg)), (10, .ref b6), (11, .int x11_26), (12, .int y12_29), (13, .int y13_30)]) (by decide) rfl ?_
                        refine g_aload_n (pc' := 653) O ⟨dL_builds_652, rfl⟩ (q := 2) rfl rfl ?_
                        refine g_iload (pc' := 655) O ⟨dL_builds_653, rfl⟩ (q := 6) rfl ?_
                        refine g_iload (pc' := 657) O ⟨dL_builds_655, rfl⟩ (q := 7) rfl ?_
                        refine g_iload (pc' := 659) O ⟨dL_builds_657, rfl⟩ (q := 8) rfl ?_
                        refine g_icmp_le (pc' := 662) O ⟨dL_builds_659, rfl⟩ E (tgt := 673) (by decide) (fun E => ?_) (fun E => ?_)
                        · refine g_iload (pc' := 675) O ⟨dL_builds_673, rfl⟩ (q := 7) rfl ?_
                          refine g_bipush (pc' := 677) O ⟨dL_builds_675, rfl⟩ (v := (8 : Int32)) rfl ?_
                          refine g_iload (pc' := 679) O ⟨dL_builds_677, rfl⟩ (q := 8) rfl ?_
                          refine g_imul (pc' := 680) O ⟨dL_builds_679, rfl⟩ ?_
                          refine g_iadd (pc' := 681) O ⟨dL_builds_680, rfl⟩ ?_
                          refine g_iast (pc' := 682) O ⟨dL_builds_681, rfl⟩ zX6_0 zsX6_0 E (fun E => ?_)
                          refine g_nmr (Go := fun (r0_34 : Row) => G l D X 15 (WX6 ad cy 24 40 6 36 4 6 b0 b1 b2 b3 b4 b6) 1 6 (h, r0_34, r1, r_1, r3, r4, r6_31) 682 [(9, .int y9_33), (0, .ref (ad 0)), (3, .ref b0), (7, .ref b4), (8, .int (r4 (0 : Int32).toNatClampNeg)), (10, .ref b6), (11, .int x11_26), (12, .int y12_29), (13, .int y13_30)] []) E (fun r0_34 E => ?_)
                          show G l D X 15 (WX6 ad cy 24 40 6 36 4 6 b0 b1 b2 b3 b4 b6) 1 6 (h, r0_34, r1, r_1, r3, r4, r6_31) 682 [(9, .int y9_33), (0, .ref (ad 0)), (3, .ref b0), (7, .ref b4), (8, .int (r4 (0 : Int32).toNatClampNeg)), (10, .ref b6), (11, .int x11_26), (12, .int y12_29), (13, .int y13_30)] []
                          refine g_iinc (pc' := 685) O ⟨dL_builds_682, rfl⟩ (q := 6) (v := x11_26 + (1 : Int32)) (lv' := [(11, .int (x11_26 + (1 : Int32))), (9, .int y9_33), (0, .ref (ad 0)), (3, .ref b0), (7, .ref b4), (8, .int (r4 (0 : Int32).toNatClampNeg)), (10, .ref b6), (12, .int y12_29), (13, .int y13_30)]) rfl rfl (by decide) rfl ?_
                          refine g_goto (pc' := 688) O ⟨dL_builds_685, rfl⟩ (tgt := 539) (by decide) ?_
                          refine g_sub (lv' := [(0, .ref (ad 0)), (3, .ref b0), (7, .ref b4), (8, .int (r4 (0 : Int32).toNatClampNeg)), (9, .int y9_33), (10, .ref b6), (11, .int (x11_26 + (1 : Int32)))]) [2, 3, 4, 5, 1, 6, 0] rfl ?_
                          exact ih539 _ _ _ _ E
                        · refine g_iload (pc' := 664) O ⟨dL_builds_662, rfl⟩ (q := 8) rfl ?_
                          refine g_bipush (pc' := 666) O ⟨dL_builds_664, rfl⟩ (v := (8 : Int32)) rfl ?_
                          refine g_iload (pc' := 668) O ⟨dL_builds_666, rfl⟩ (q := 7) rfl ?_
                          refine g_imul (pc' := 669) O ⟨dL_builds_668, rfl⟩ ?_
                          refine g_iadd (pc' := 670) O ⟨dL_builds_669, rfl⟩ ?_
                          refine g_goto (pc' := 673) O ⟨dL_builds_670, rfl⟩ (tgt := 681) (by decide) ?_
                          refine g_iast (pc' := 682) O ⟨dL_builds_681, rfl⟩ zX6_0 zsX6_0 E (fun E => ?_)
                          refine g_nmr (Go := fun (r0_35 : Row) => G l D X 15 (WX6 ad cy 24 40 6 36 4 6 b0 b1 b2 b3 b4 b6) 1 6 (h, r0_35, r1, r_1, r3, r4, r6_31) 682 [(9, .int y9_33), (0, .ref (ad 0)), (3, .ref b0), (7, .ref b4), (8, .int (r4 (0 : Int32).toNatClampNeg)), (10, .ref b6), (11, .int x11_26), (12, .int y12_29), (13, .int y13_30)] []) E (fun r0_35 E => ?_)
                          show G l D X 15 (WX6 ad cy 24 40 6 36 4 6 b0 b1 b2 b3 b4 b6) 1 6 (h, r0_35, r1, r_1, r3, r4, r6_31) 682 [(9, .int y9_33), (0, .ref (ad 0)), (3, .ref b0), (7, .ref b4), (8, .int (r4 (0 : Int32).toNatClampNeg)), (10, .ref b6), (11, .int x11_26), (12, .int y12_29), (13, .int y13_30)] []
                          refine g_iinc (pc' := 685) O ⟨dL_builds_682, rfl⟩ (q := 6) (v := x11_26 + (1 : Int32)) (lv' := [(11, .int (x11_26 + (1 : Int32))), (9, .int y9_33), (0, .ref (ad 0)), (3, .ref b0), (7, .ref b4), (8, .int (r4 (0 : Int32).toNatClampNeg)), (10, .ref b6), (12, .int y12_29), (13, .int y13_30)]) rfl rfl (by decide) rfl ?_
                          refine g_goto (pc' := 688) O ⟨dL_builds_685, rfl⟩ (tgt := 539) (by decide) ?_
                          refine g_sub (lv' := [(0, .ref (ad 0)), (3, .ref b0), (7, .ref b4), (8, .int (r4 (0 : Int32).toNatClampNeg)), (9, .int y9_33), (10, .ref b6), (11, .int (x11_26 + (1 : Int32)))]) [2, 3, 4, 5, 1, 6, 0] rfl ?_
                          exact ih539 _ _ _ _ E
                      · intro k649 hk649 E
                        refine g_icmp_le (pc' := 644) O ⟨dL_builds_641, rfl⟩ E (tgt := 648) (by decide) (fun E => ?_) (fun E => ?_)
                        · refine g_iconst (pc' := 649) O ⟨dL_builds_648, rfl⟩ (v := (0 : Int32)) rfl ?_
                          refine g_sub (lv' := [(0, .ref (ad 0)), (3, .ref b0), (7, .ref b4), (8, .int (r4 (0 : Int32).toNatClampNeg)), (10, .ref b6), (11, .int x11_26), (12, .int y12_29), (13, .int y13_30)]) [0, 1, 2, 3, 5, 6, 7, 8] rfl ?_
                          exact hk649 _ E
                        · refine g_iconst (pc' := 645) O ⟨dL_builds_644, rfl⟩ (v := (1 : Int32)) rfl ?_
                          refine g_goto (pc' := 648) O ⟨dL_builds_645, rfl⟩ (tgt := 649) (by decide) ?_
                          refine g_sub (lv' := [(0, .ref (ad 0)), (3, .ref b0), (7, .ref b4), (8, .int (r4 (0 : Int32).toNatClampNeg)), (10, .ref b6), (11, .int x11_26), (12, .int y12_29), (13, .int y13_30)]) [0, 1, 2, 3, 5, 6, 7, 8] rfl ?_
                          exact hk649 _ E
                    · intro k635 hk635 E
                      refine g_sub (lv' := [(0, .ref (ad 0)), (3, .ref b0), (7, .ref b4), (8, .int (r4 (0 : Int32).toNatClampNeg)), (9, .int x9_25), (10, .ref b6), (11, .int x11_26), (12, .int y12_29), (13, .int y13_30), (14, .int (0 : Int32))]) [3, 4, 5, 6, 7, 8, 9, 2, 1, 0] rfl ?_
                      refine fx2_of (P := fun (x14_36 : Int32) (r6_37 : Row) => G l D X 15 (WX6 ad cy 24 40 6 36 4 6 b0 b1 b2 b3 b4 b6) 1 6 (h, r0_27, r1, r_1, r3, r4, r6_37) 575 [(0, .ref (ad 0)), (3, .ref b0), (7, .ref b4), (8, .int (r4 (0 : Int32).toNatClampNeg)), (9, .int x9_25), (10, .ref b6), (11, .int x11_26), (12, .int y12_29), (13, .int y13_30), (14, .int x14_36)] []) ?_ _ _ _ E
                      intro self ih575 x14_36 r6_37 E
                      show G l D X 15 (WX6 ad cy 24 40 6 36 4 6 b0 b1 b2 b3 b4 b6) 1 6 (h, r0_27, r1, r_1, r3, r4, r6_37) 575 [(0, .ref (ad 0)), (3, .ref b0), (7, .ref b4), (8, .int (r4 (0 : Int32).toNatClampNeg)), (9, .int x9_25), (10, .ref b6), (11, .int x11_26), (12, .int y12_29), (13, .int y13_30), (14, .int x14_36)] []
                      unfold L_L_builds_575 at E
                      refine g_iload (pc' := 577) O ⟨dL_builds_575, rfl⟩ (q := 9) rfl ?_
                      refine g_iload (pc' := 579) O ⟨dL_builds_577, rfl⟩ (q := 3) rfl ?_
                      refine g_icmp_ge (pc' := 582) O ⟨dL_builds_579, rfl⟩ E (tgt := 635) (by decide) (fun E => ?_) (fun E => ?_)
                      · refine g_sub (lv' := [(0, .ref (ad 0)), (3, .ref b0), (7, .ref b4), (8, .int (r4 (0 : Int32).toNatClampNeg)), (9, .int x9_25), (10, .ref b6), (11, .int x11_26), (12, .int y12_29), (13, .int y13_30)]) [0, 1, 2, 3, 4, 5, 6, 7, 8] rfl ?_
                        exact hk635 _ E
                      · refine g_iload (pc' := 584) O ⟨dL_builds_582, rfl⟩ (q := 7) rfl ?_
                        refine g_iload (pc' := 586) O ⟨dL_builds_584, rfl⟩ (q := 8) rfl ?_
                        refine g_icmp_le (pc' := 589) O ⟨dL_builds_586, rfl⟩ E (tgt := 635) (by decide) (fun E => ?_) (fun E => ?_)
                        · refine g_sub (lv' := [(0, .ref (ad 0)), (3, .ref b0), (7, .ref b4), (8, .int (r4 (0 : Int32).toNatClampNeg)), (9, .int x9_25), (10, .ref b6), (11, .int x11_26), (12, .int y12_29), (13, .int y13_30)]) [0, 1, 2, 3, 4, 5, 6, 7, 8] rfl ?_
                          exact hk635 _ E
                        · refine g_aload (pc' := 591) O ⟨dL_builds_589, rfl⟩ (q := 5) rfl ?_
                          refine g_iload (pc' := 593) O ⟨dL_builds_591, rfl⟩ (q := 9) rfl ?_
                          refine g_aload (pc' := 595) O ⟨dL_builds_593, rfl⟩ (q := 5) rfl ?_
                          refine g_iload (pc' := 597) O ⟨dL_builds_595, rfl⟩ (q := 9) rfl ?_
                          refine g_iald (pc' := 598) O ⟨dL_builds_597, rfl⟩ zX6_5 E (fun E => ?_)
                          refine g_iload (pc' := 600) O ⟨dL_builds_598, rfl⟩ (q := 7) rfl ?_
                          refine g_icmp_ne (pc' := 603) O ⟨dL_builds_600, rfl⟩ E (tgt := 608) (by decide) (fun E => ?_) (fun E => ?_)
                          · refine g_aload (pc' := 610) O ⟨dL_builds_608, rfl⟩ (q := 5) rfl ?_
                            refine g_iload (pc' := 612) O ⟨dL_builds_610, rfl⟩ (q := 9) rfl ?_
                            refine g_iald (pc' := 613) O ⟨dL_builds_612, rfl⟩ zX6_5 E (fun E => ?_)
                            refine g_iload (pc' := 615) O ⟨dL_builds_613, rfl⟩ (q := 8) rfl ?_
                            refine g_icmp_ne (pc' := 618) O ⟨dL_builds_615, rfl⟩ E (tgt := 623) (by decide) (fun E => ?_) (fun E => ?_)
                            · refine g_aload (pc' := 625) O ⟨dL_builds_623, rfl⟩ (q := 5) rfl ?_
                              refine g_iload (pc' := 627) O ⟨dL_builds_625, rfl⟩ (q := 9) rfl ?_
                              refine g_iald (pc' := 628) O ⟨dL_builds_627, rfl⟩ zX6_5 E (fun E => ?_)
                              refine g_iast (pc' := 629) O ⟨dL_builds_628, rfl⟩ zX6_5 zsX6_5 E (fun E => ?_)
                              refine g_nmr (Go := fun (r6_38 : Row) => G l D X 15 (WX6 ad cy 24 40 6 36 4 6 b0 b1 b2 b3 b4 b6) 1 6 (h, r0_27, r1, r_1, r3, r4, r6_38) 629 [(0, .ref (ad 0)), (3, .ref b0), (7, .ref b4), (8, .int (r4 (0 : Int32).toNatClampNeg)), (9, .int x9_25), (10, .ref b6), (11, .int x11_26), (12, .int y12_29), (13, .int y13_30), (14, .int x14_36)] []) E (fun r6_38 E => ?_)
                              show G l D X 15 (WX6 ad cy 24 40 6 36 4 6 b0 b1 b2 b3 b4 b6) 1 6 (h, r0_27, r1, r_1, r3, r4, r6_38) 629 [(0, .ref (ad 0)), (3, .ref b0), (7, .ref b4), (8, .int (r4 (0 : Int32).toNatClampNeg)), (9, .int x9_25), (10, .ref b6), (11, .int x11_26), (12, .int y12_29), (13, .int y13_30), (14, .int x14_36)] []
                              refine g_iinc (pc' := 632) O ⟨dL_builds_629, rfl⟩ (q := 9) (v := x14_36 + (1 : Int32)) (lv' := [(14, .int (x14_36 + (1 : Int32))), (0, .ref (ad 0)), (3, .ref b0), (7, .ref b4), (8, .int (r4 (0 : Int32).toNatClampNeg)), (9, .int x9_25), (10, .ref b6), (11, .int x11_26), (12, .int y12_29), (13, .int y13_30)]) rfl rfl (by decide) rfl ?_
                              refine g_goto (pc' := 635) O ⟨dL_builds_632, rfl⟩ (tgt := 575) (by decide) ?_
                              refine g_sub (lv' := [(0, .ref (ad 0)), (3, .ref b0), (7, .ref b4), (8, .int (r4 (0 : Int32).toNatClampNeg)), (9, .int x9_25), (10, .ref b6), (11, .int x11_26), (12, .int y12_29), (13, .int y13_30), (14, .int (x14_36 + (1 : Int32)))]) [1, 2, 3, 4, 5, 6, 7, 8, 9, 0] rfl ?_
                              exact ih575 _ _ E
                            · refine g_iload (pc' := 620) O ⟨dL_builds_618, rfl⟩ (q := 7) rfl ?_
                              refine g_goto (pc' := 623) O ⟨dL_builds_620, rfl⟩ (tgt := 628) (by decide) ?_
                              refine g_iast (pc' := 629) O ⟨dL_builds_628, rfl⟩ zX6_5 zsX6_5 E (fun E => ?_)
                              refine g_nmr (Go := fun (r6_39 : Row) => G l D X 15 (WX6 ad cy 24 40 6 36 4 6 b0 b1 b2 b3 b4 b6) 1 6 (h, r0_27, r1, r_1, r3, r4, r6_39) 629 [(0, .ref (ad 0)), (3, .ref b0), (7, .ref b4), (8, .int (r4 (0 : Int32).toNatClampNeg)), (9, .int x9_25), (10, .ref b6), (11, .int x11_26), (12, .int y12_29), (13, .int y13_30), (14, .int x14_36)] []) E (fun r6_39 E => ?_)
                              show G l D X 15 (WX6 ad cy 24 40 6 36 4 6 b0 b1 b2 b3 b4 b6) 1 6 (h, r0_27, r1, r_1, r3, r4, r6_39) 629 [(0, .ref (ad 0)), (3, .ref b0), (7, .ref b4), (8, .int (r4 (0 : Int32).toNatClampNeg)), (9, .int x9_25), (10, .ref b6), (11, .int x11_26), (12, .int y12_29), (13, .int y13_30), (14, .int x14_36)] []
                              refine g_iinc (pc' := 632) O ⟨dL_builds_629, rfl⟩ (q := 9) (v := x14_36 + (1 : Int32)) (lv' := [(14, .int (x14_36 + (1 : Int32))), (0, .ref (ad 0)), (3, .ref b0), (7, .ref b4), (8, .int (r4 (0 : Int32).toNatClampNeg)), (9, .int x9_25), (10, .ref b6), (11, .int x11_26), (12, .int y12_29), (13, .int y13_30)]) rfl rfl (by decide) rfl ?_
                              refine g_goto (pc' := 635) O ⟨dL_builds_632, rfl⟩ (tgt := 575) (by decide) ?_
                              refine g_sub (lv' := [(0, .ref (ad 0)), (3, .ref b0), (7, .ref b4), (8, .int (r4 (0 : Int32).toNatClampNeg)), (9, .int x9_25), (10, .ref b6), (11, .int x11_26), (12, .int y12_29), (13, .int y13_30), (14, .int (x14_36 + (1 : Int32)))]) [1, 2, 3, 4, 5, 6, 7, 8, 9, 0] rfl ?_
                              exact ih575 _ _ E
                          · refine g_iload (pc' := 605) O ⟨dL_builds_603, rfl⟩ (q := 8) rfl ?_
                            refine g_goto (pc' := 608) O ⟨dL_builds_605, rfl⟩ (tgt := 628) (by decide) ?_
                            refine g_iast (pc' := 629) O ⟨dL_builds_628, rfl⟩ zX6_5 zsX6_5 E (fun E => ?_)
                            refine g_nmr (Go := fun (r6_40 : Row) => G l D X 15 (WX6 ad cy 24 40 6 36 4 6 b0 b1 b2 b3 b4 b6) 1 6 (h, r0_27, r1, r_1, r3, r4, r6_40) 629 [(0, .ref (ad 0)), (3, .ref b0), (7, .ref b4), (8, .int (r4 (0 : Int32).toNatClampNeg)), (9, .int x9_25), (10, .ref b6), (11, .int x11_26), (12, .int y12_29), (13, .int y13_30), (14, .int x14_36)] []) E (fun r6_40 E => ?_)
                            show G l D X 15 (WX6 ad cy 24 40 6 36 4 6 b0 b1 b2 b3 b4 b6) 1 6 (h, r0_27, r1, r_1, r3, r4, r6_40) 629 [(0, .ref (ad 0)), (3, .ref b0), (7, .ref b4), (8, .int (r4 (0 : Int32).toNatClampNeg)), (9, .int x9_25), (10, .ref b6), (11, .int x11_26), (12, .int y12_29), (13, .int y13_30), (14, .int x14_36)] []
                            refine g_iinc (pc' := 632) O ⟨dL_builds_629, rfl⟩ (q := 9) (v := x14_36 + (1 : Int32)) (lv' := [(14, .int (x14_36 + (1 : Int32))), (0, .ref (ad 0)), (3, .ref b0), (7, .ref b4), (8, .int (r4 (0 : Int32).toNatClampNeg)), (9, .int x9_25), (10, .ref b6), (11, .int x11_26), (12, .int y12_29), (13, .int y13_30)]) rfl rfl (by decide) rfl ?_
                            refine g_goto (pc' := 635) O ⟨dL_builds_632, rfl⟩ (tgt := 575) (by decide) ?_
                            refine g_sub (lv' := [(0, .ref (ad 0)), (3, .ref b0), (7, .ref b4), (8, .int (r4 (0 : Int32).toNatClampNeg)), (9, .int x9_25), (10, .ref b6), (11, .int x11_26), (12, .int y12_29), (13, .int y13_30), (14, .int (x14_36 + (1 : Int32)))]) [1, 2, 3, 4, 5, 6, 7, 8, 9, 0] rfl ?_
                            exact ih575 _ _ E
              · intro k536 hk536 E
                refine g_sub (lv' := [(0, .ref (ad 0)), (3, .ref b0), (7, .ref b4), (8, .int (r4 (0 : Int32).toNatClampNeg)), (9, .int (0 : Int32)), (10, .ref b6), (11, .int (0 : Int32))]) [4, 7, 11, 3, 2, 1, 0] rfl ?_
                refine fx2_of (P := fun (x11_41 : Int32) (r6_42 : Row) => G l D X 15 (WX6 ad cy 24 40 6 36 4 6 b0 b1 b2 b3 b4 b6) 1 6 (h, r0, r1, r_1, r3, r4, r6_42) 516 [(0, .ref (ad 0)), (3, .ref b0), (7, .ref b4), (8, .int (r4 (0 : Int32).toNatClampNeg)), (9, .int (0 : Int32)), (10, .ref b6), (11, .int x11_41)] []) ?_ _ _ _ E
                intro self ih516 x11_41 r6_42 E
                show G l D X 15 (WX6 ad cy 24 40 6 36 4 6 b0 b1 b2 b3 b4 b6) 1 6 (h, r0, r1, r_1, r3, r4, r6_42) 516 [(0, .ref (ad 0)), (3, .ref b0), (7, .ref b4), (8, .int (r4 (0 : Int32).toNatClampNeg)), (9, .int (0 : Int32)), (10, .ref b6), (11, .int x11_41)] []
                unfold L_L_builds_516 at E
                refine g_iload (pc' := 518) O ⟨dL_builds_516, rfl⟩ (q := 6) rfl ?_
                refine g_iload (pc' := 520) O ⟨dL_builds_518, rfl⟩ (q := 3) rfl ?_
                refine g_icmp_ge (pc' := 523) O ⟨dL_builds_520, rfl⟩ E (tgt := 536) (by decide) (fun E => ?_) (fun E => ?_)
                · refine g_sub (lv' := [(0, .ref (ad 0)), (3, .ref b0), (7, .ref b4), (8, .int (r4 (0 : Int32).toNatClampNeg)), (9, .int (0 : Int32)), (10, .ref b6)]) [0, 1, 2, 3, 4, 5] rfl ?_
                  exact hk536 _ E
                · refine g_aload (pc' := 525) O ⟨dL_builds_523, rfl⟩ (q := 5) rfl ?_
                  refine g_iload (pc' := 527) O ⟨dL_builds_525, rfl⟩ (q := 6) rfl ?_
                  refine g_iload (pc' := 529) O ⟨dL_builds_527, rfl⟩ (q := 6) rfl ?_
                  refine g_iast (pc' := 530) O ⟨dL_builds_529, rfl⟩ zX6_5 zsX6_5 E (fun E => ?_)
                  refine g_nmr (Go := fun (r6_43 : Row) => G l D X 15 (WX6 ad cy 24 40 6 36 4 6 b0 b1 b2 b3 b4 b6) 1 6 (h, r0, r1, r_1, r3, r4, r6_43) 530 [(0, .ref (ad 0)), (3, .ref b0), (7, .ref b4), (8, .int (r4 (0 : Int32).toNatClampNeg)), (9, .int (0 : Int32)), (10, .ref b6), (11, .int x11_41)] []) E (fun r6_43 E => ?_)
                  show G l D X 15 (WX6 ad cy 24 40 6 36 4 6 b0 b1 b2 b3 b4 b6) 1 6 (h, r0, r1, r_1, r3, r4, r6_43) 530 [(0, .ref (ad 0)), (3, .ref b0), (7, .ref b4), (8, .int (r4 (0 : Int32).toNatClampNeg)), (9, .int (0 : Int32)), (10, .ref b6), (11, .int x11_41)] []
                  refine g_iinc (pc' := 533) O ⟨dL_builds_530, rfl⟩ (q := 6) (v := x11_41 + (1 : Int32)) (lv' := [(11, .int (x11_41 + (1 : Int32))), (0, .ref (ad 0)), (3, .ref b0), (7, .ref b4), (8, .int (r4 (0 : Int32).toNatClampNeg)), (9, .int (0 : Int32)), (10, .ref b6)]) rfl rfl (by decide) rfl ?_
                  refine g_goto (pc' := 536) O ⟨dL_builds_533, rfl⟩ (tgt := 516) (by decide) ?_
                  refine g_sub (lv' := [(0, .ref (ad 0)), (3, .ref b0), (7, .ref b4), (8, .int (r4 (0 : Int32).toNatClampNeg)), (9, .int (0 : Int32)), (10, .ref b6), (11, .int (x11_41 + (1 : Int32)))]) [1, 2, 3, 4, 5, 6, 0] rfl ?_
                  exact ih516 _ _ E
          · refine g_aload_n (pc' := 444) O ⟨dL_builds_443, rfl⟩ (q := 1) rfl rfl ?_
            obtain ⟨r_44, c_45, E⟩ := bd_of E
            refine g_Uv (pc' := 447) O ⟨dL_builds_444, rfl⟩ (y := yX10_mirror) (As := []) (st := []) (put := (fun g => (g, r0, r1, r_1, r3, r4))) sub_X5_X (t_X10_mirror l D ad cy (h := h) c_45) kw_1052 kw_25 kw_1049 kw_1050 kw_1051 rfl zX5_x hd_X10_mirror ⟨Nat.le_of_ble_eq_true rfl, Nat.le_of_ble_eq_true rfl⟩ ⟨Nat.le_of_ble_eq_true rfl, Nat.le_of_ble_eq_true rfl⟩ rfl (Nat.le_of_ble_eq_true rfl) ?_
            show G l D X 15 (WX5 ad cy 24 40 6 36 4 b0 b1 b2 b3 b4) 0 0 (r_44, r0, r1, r_1, r3, r4) 447 [(8, .int (r4 (0 : Int32).toNatClampNeg)), (0, .ref (ad 0)), (1, .int x1), (2, .int x2), (3, .ref b0), (4, .ref b1), (5, .ref b2), (6, .ref b3), (7, .ref b4)] []
            refine g_iconst (pc' := 448) O ⟨dL_builds_447, rfl⟩ (v := (0 : Int32)) rfl ?_
            refine g_istore (pc' := 450) O ⟨dL_builds_448, rfl⟩ (lv' := [(9, .int (0 : Int32)), (8, .int (r4 (0 : Int32).toNatClampNeg)), (0, .ref (ad 0)), (1, .int x1), (2, .int x2), (3, .ref b0), (4, .ref b1), (5, .ref b2), (6, .ref b3), (7, .ref b4)]) (by decide) rfl ?_
            refine jn1_of (P := fun (r0_46 : Row) => G l D X 15 (WX5 ad cy 24 40 6 36 4 b0 b1 b2 b3 b4) 0 0 (r_44, r0_46, r1, r_1, r3, r4) 497 [] []) E ?_ ?_
            · intro r0_46 E
              show G l D X 15 (WX5 ad cy 24 40 6 36 4 b0 b1 b2 b3 b4) 0 0 (r_44, r0_46, r1, r_1, r3, r4) 497 [] []
              refine g_iconst (pc' := 498) O ⟨dL_builds_497, rfl⟩ (v := (1 : Int32)) rfl ?_
              obtain ⟨hn, E⟩ := ckz_of E
              cases E
              exact hret _ _ _ _ _ (Nat.le_of_ble_eq_true rfl) (Nat.le_of_ble_eq_true rfl) ⟨dL_builds_498, rfl⟩ hn
            · intro k497 hk497 E
              refine g_sub (lv' := [(3, .ref b0), (7, .ref b4), (8, .int (r4 (0 : Int32).toNatClampNeg)), (9, .int (0 : Int32))]) [5, 9, 1, 0] rfl ?_
              refine fx2_of (P := fun (x9_47 : Int32) (r0_48 : Row) => G l D X 15 (WX5 ad cy 24 40 6 36 4 b0 b1 b2 b3 b4) 0 0 (r_44, r0_48, r1, r_1, r3, r4) 450 [(3, .ref b0), (7, .ref b4), (8, .int (r4 (0 : Int32).toNatClampNeg)), (9, .int x9_47)] []) ?_ _ _ _ E
              intro self ih450 x9_47 r0_48 E
              show G l D X 15 (WX5 ad cy 24 40 6 36 4 b0 b1 b2 b3 b4) 0 0 (r_44, r0_48, r1, r_1, r3, r4) 450 [(3, .ref b0), (7, .ref b4), (8, .int (r4 (0 : Int32).toNatClampNeg)), (9, .int x9_47)] []
              unfold L_L_builds_450 at E
              refine g_iload (pc' := 452) O ⟨dL_builds_450, rfl⟩ (q := 3) rfl ?_
              refine g_aload (pc' := 454) O ⟨dL_builds_452, rfl⟩ (q := 1) rfl ?_
              refine g_iconst (pc' := 455) O ⟨dL_builds_454, rfl⟩ (v := (1 : Int32)) rfl ?_
              refine g_iald (pc' := 456) O ⟨dL_builds_455, rfl⟩ zX5_4 E (fun E => ?_)
              refine g_icmp_ge (pc' := 459) O ⟨dL_builds_456, rfl⟩ E (tgt := 497) (by decide) (fun E => ?_) (fun E => ?_)
              · refine g_sub (lv' := []) [] rfl ?_
                exact hk497 _ E
              · refine g_aload_n (pc' := 460) O ⟨dL_builds_459, rfl⟩ (q := 0) rfl rfl ?_
                refine g_iload (pc' := 462) O ⟨dL_builds_460, rfl⟩ (q := 3) rfl ?_
                refine g_iload (pc' := 464) O ⟨dL_builds_462, rfl⟩ (q := 2) rfl ?_
                refine g_iconst (pc' := 465) O ⟨dL_builds_464, rfl⟩ (v := (1 : Int32)) rfl ?_
                refine g_isub (pc' := 466) O ⟨dL_builds_465, rfl⟩ ?_
                refine g_aload_n (pc' := 467) O ⟨dL_builds_466, rfl⟩ (q := 0) rfl rfl ?_
                refine g_iload (pc' := 469) O ⟨dL_builds_467, rfl⟩ (q := 3) rfl ?_
                refine g_iald (pc' := 470) O ⟨dL_builds_469, rfl⟩ zX5_0 E (fun E => ?_)
                refine g_bipush (pc' := 472) O ⟨dL_builds_470, rfl⟩ (v := (8 : Int32)) rfl ?_
                refine g_idiv (pc' := 473) O ⟨dL_builds_472, rfl⟩ (by decide) ?_
                refine g_isub (pc' := 474) O ⟨dL_builds_473, rfl⟩ ?_
                refine g_bipush (pc' := 476) O ⟨dL_builds_474, rfl⟩ (v := (8 : Int32)) rfl ?_
                refine g_iload (pc' := 478) O ⟨dL_builds_476, rfl⟩ (q := 2) rfl ?_
                refine g_iconst (pc' := 479) O ⟨dL_builds_478, rfl⟩ (v := (1 : Int32)) rfl ?_
                refine g_isub (pc' := 480) O ⟨dL_builds_479, rfl⟩ ?_
                refine g_aload_n (pc' := 481) O ⟨dL_builds_480, rfl⟩ (q := 0) rfl rfl ?_
                refine g_iload (pc' := 483) O ⟨dL_builds_481, rfl⟩ (q := 3) rfl ?_
                refine g_iald (pc' := 484) O ⟨dL_builds_483, rfl⟩ zX5_0 E (fun E => ?_)
                refine g_bipush (pc' := 486) O ⟨dL_builds_484, rfl⟩ (v := (8 : Int32)) rfl ?_
                refine g_irem (pc' := 487) O ⟨dL_builds_486, rfl⟩ (by decide) ?_
                refine g_isub (pc' := 488) O ⟨dL_builds_487, rfl⟩ ?_
                refine g_imul (pc' := 489) O ⟨dL_builds_488, rfl⟩ ?_
                refine g_iadd (pc' := 490) O ⟨dL_builds_489, rfl⟩ ?_
                refine g_iast (pc' := 491) O ⟨dL_builds_490, rfl⟩ zX5_0 zsX5_0 E (fun E => ?_)
                refine g_nmr (Go := fun (r0_49 : Row) => G l D X 15 (WX5 ad cy 24 40 6 36 4 b0 b1 b2 b3 b4) 0 0 (r_44, r0_49, r1, r_1, r3, r4) 491 [(3, .ref b0), (7, .ref b4), (8, .int (r4 (0 : Int32).toNatClampNeg)), (9, .int x9_47)] []) E (fun r0_49 E => ?_)
                show G l D X 15 (WX5 ad cy 24 40 6 36 4 b0 b1 b2 b3 b4) 0 0 (r_44, r0_49, r1, r_1, r3, r4) 491 [(3, .ref b0), (7, .ref b4), (8, .int (r4 (0 : Int32).toNatClampNeg)), (9, .int x9_47)] []
                refine g_iinc (pc' := 494) O ⟨dL_builds_491, rfl⟩ (q := 3) (v := x9_47 + (1 : Int32)) (lv' := [(9, .int (x9_47 + (1 : Int32))), (3, .ref b0), (7, .ref b4), (8, .int (r4 (0 : Int32).toNatClampNeg))]) rfl rfl (by decide) rfl ?_
                refine g_goto (pc' := 497) O ⟨dL_builds_494, rfl⟩ (tgt := 450) (by decide) ?_
                refine g_sub (lv' := [(3, .ref b0), (7, .ref b4), (8, .int (r4 (0 : Int32).toNatClampNeg)), (9, .int (x9_47 + (1 : Int32)))]) [1, 2, 3, 0] rfl ?_
                exact ih450 _ _ E
        · refine g_aload (pc' := 284) O ⟨dL_builds_282, rfl⟩ (q := 8) rfl ?_
          refine g_iconst (pc' := 285) O ⟨dL_builds_284, rfl⟩ (v := (2 : Int32)) rfl ?_
          refine g_iald (pc' := 286) O ⟨dL_builds_285, rfl⟩ zX5_4 E (fun E => ?_)
          refine g_iconst (pc' := 287) O ⟨dL_builds_286, rfl⟩ (v := (1 : Int32)) rfl ?_
          refine g_iadd (pc' := 288) O ⟨dL_builds_287, rfl⟩ ?_
          refine g_iconst (pc' := 289) O ⟨dL_builds_288, rfl⟩ (v := (4 : Int32)) rfl ?_
          refine g_idiv (pc' := 290) O ⟨dL_builds_289, rfl⟩ (by decide) ?_
          refine g_nm E (fun y9_50 E => ?_)
          refine g_istore (pc' := 292) O ⟨dL_builds_290, rfl⟩ (lv' := [(9, .int y9_50), (8, .int (r4 (0 : Int32).toNatClampNeg)), (0, .ref (ad 0)), (1, .int x1), (2, .int x2), (3, .ref b0), (4, .ref b1), (5, .ref b2), (6, .ref b3), (7, .ref b4)]) (by decide) rfl ?_
          refine g_aload (pc' := 294) O ⟨dL_builds_292, rfl⟩ (q := 6) rfl ?_
          refine g_aload (pc' := 296) O ⟨dL_builds_294, rfl⟩ (q := 9) rfl ?_
          obtain ⟨r_51, c_52, E⟩ := bd_of E
          refine g_MSi (pc' := 299) O hN ⟨dL_builds_296, rfl⟩ (y := yL_fault) (As := [.ref b1, .ref b4]) (st := []) (put := (fun g => (h, r0, g.1, r2, r3, g.2))) sub_X5_A1_4 (t_L_fault l D cy hfl b1 b4 c_52) kw_647 kw_24 kw_645 kw_646 hd_L_fault ⟨Nat.le_of_ble_eq_true rfl, Nat.le_of_ble_eq_true rfl⟩ ⟨Nat.le_of_ble_eq_true rfl, Nat.le_of_ble_eq_true rfl⟩ rfl (Nat.le_of_ble_eq_true rfl) ?_
          show G l D X 15 (WX5 ad cy 24 40 6 36 4 b0 b1 b2 b3 b4) 1 6 (h, r0, r1, r2, r3, r4) 299 [(9, .int y9_50), (8, .int (r4 (0 : Int32).toNatClampNeg)), (0, .ref (ad 0)), (1, .int x1), (2, .int x2), (3, .ref b0), (4, .ref b1), (5, .ref b2), (6, .ref b3), (7, .ref b4)] [.int r_51]
          refine jn1_of (P := fun (z_53 : Int32) => G l D X 15 (WX5 ad cy 24 40 6 36 4 b0 b1 b2 b3 b4) 1 6 (h, r0, r1, r2, r3, r4) 307 [(0, .ref (ad 0)), (3, .ref b0), (4, .ref b1), (5, .ref b2), (7, .ref b4), (9, .int y9_50)] [.int z_53]) E ?_ ?_
          · intro z_53 E
            show G l D X 15 (WX5 ad cy 24 40 6 36 4 b0 b1 b2 b3 b4) 1 6 (h, r0, r1, r2, r3, r4) 307 [(0, .ref (ad 0)), (3, .ref b0), (4, .ref b1), (5, .ref b2), (7, .ref b4), (9, .int y9_50)] [.int z_53]
            refine g_istore (pc' := 309) O ⟨dL_builds_307, rfl⟩ (lv' := [(10, .int z_53), (0, .ref (ad 0)), (3, .ref b0), (4, .ref b1), (5, .ref b2), (7, .ref b4), (9, .int y9_50)]) (by decide) rfl ?_
            refine g_iload (pc' := 311) O ⟨dL_builds_309, rfl⟩ (q := 0) rfl ?_
            refine jn1_of (P := fun (z_54 : Int32) => G l D X 15 (WX5 ad cy 24 40 6 36 4 b0 b1 b2 b3 b4) 1 6 (h, r0, r1, r2, r3, r4) 331 [(0, .ref (ad 0)), (3, .ref b0), (4, .ref b1), (5, .ref b2), (7, .ref b4), (9, .int y9_50), (10, .int z_53)] [.int z_54]) E ?_ ?_
            · intro z_54 E
              show G l D X 15 (WX5 ad cy 24 40 6 36 4 b0 b1 b2 b3 b4) 1 6 (h, r0, r1, r2, r3, r4) 331 [(0, .ref (ad 0)), (3, .ref b0), (4, .ref b1), (5, .ref b2), (7, .ref b4), (9, .int y9_50), (10, .int z_53)] [.int z_54]
              refine g_istore (pc' := 333) O ⟨dL_builds_331, rfl⟩ (lv' := [(11, .int z_54), (0, .ref (ad 0)), (3, .ref b0), (4, .ref b1), (5, .ref b2), (7, .ref b4), (9, .int y9_50), (10, .int z_53)]) (by decide) rfl ?_
              refine g_iload (pc' := 335) O ⟨dL_builds_333, rfl⟩ (q := 0) rfl ?_
              refine jn3_of (P := fun (r0_55 : Row) (r2_56 : Row) (r4_57 : Row) => G l D X 15 (WX5 ad cy 24 40 6 36 4 b0 b1 b2 b3 b4) 1 6 (h, r0_55, r1, r2_56, r3, r4_57) 392 [(0, .ref (ad 0)), (9, .int y9_50), (10, .int z_53), (11, .int z_54)] []) E ?_ ?_
              · intro r0_55 r2_56 r4_57 E
                show G l D X 15 (WX5 ad cy 24 40 6 36 4 b0 b1 b2 b3 b4) 1 6 (h, r0_55, r1, r2_56, r3, r4_57) 392 [(0, .ref (ad 0)), (9, .int y9_50), (10, .int z_53), (11, .int z_54)] []
                refine g_aload_n (pc' := 393) O ⟨dL_builds_392, rfl⟩ (q := 0) rfl rfl ?_
                refine g_iconst (pc' := 394) O ⟨dL_builds_393, rfl⟩ (v := (4 : Int32)) rfl ?_
                refine g_iconst (pc' := 395) O ⟨dL_builds_394, rfl⟩ (v := (0 : Int32)) rfl ?_
                refine g_iconst (pc' := 396) O ⟨dL_builds_395, rfl⟩ (v := (0 : Int32)) rfl ?_
                refine g_lconst (pc' := 397) O ⟨dL_builds_396, rfl⟩ (v := (0 : Int64)) rfl ?_
                obtain ⟨r_58, c_59, E⟩ := bd_of E
                refine g_HS (pc' := 400) O hN ⟨dL_builds_397, rfl⟩ (y := yL_calls) (As := [.ref (ad 0), .int (4 : Int32), .int (0 : Int32), .int (0 : Int32), .long (0 : Int64)]) (st := []) (put := (fun g => (g, r0_55, r1, r2_56, r3, r4_57))) sub_X5_X (t_L_calls l D ad cy hfl c_59) kw_412 kw_24 kw_410 kw_411 hd_L_calls ⟨Nat.le_of_ble_eq_true rfl, Nat.le_of_ble_eq_true rfl⟩ ⟨Nat.le_of_ble_eq_true rfl, Nat.le_of_ble_eq_true rfl⟩ rfl (Nat.le_of_ble_eq_true rfl) ?_
                show G l D X 15 (WX5 ad cy 24 40 6 36 4 b0 b1 b2 b3 b4) 14 84 (r_58.2, r0_55, r1, r2_56, r3, r4_57) 400 [(0, .ref (ad 0)), (9, .int y9_50), (10, .int z_53), (11, .int z_54)] [.int r_58.1]
                refine g_iload (pc' := 402) O ⟨dL_builds_400, rfl⟩ (q := 2) rfl ?_
                refine jn1_of (P := fun (z_60 : Int32) => G l D X 15 (WX5 ad cy 24 40 6 36 4 b0 b1 b2 b3 b4) 14 84 (r_58.2, r0_55, r1, r2_56, r3, r4_57) 424 [] [.int z_60, .int r_58.1]) E ?_ ?_
                · intro z_60 E
                  show G l D X 15 (WX5 ad cy 24 40 6 36 4 b0 b1 b2 b3 b4) 14 84 (r_58.2, r0_55, r1, r2_56, r3, r4_57) 424 [] [.int z_60, .int r_58.1]
                  refine g_icmp_ne (pc' := 427) O ⟨dL_builds_424, rfl⟩ E (tgt := 431) (by decide) (fun E => ?_) (fun E => ?_)
                  · refine g_iconst (pc' := 432) O ⟨dL_builds_431, rfl⟩ (v := (0 : Int32)) rfl ?_
                    obtain ⟨hn, E⟩ := ckz_of E
                    cases E
                    exact hret _ _ _ _ _ (Nat.le_of_ble_eq_true rfl) (Nat.le_of_ble_eq_true rfl) ⟨dL_builds_432, rfl⟩ hn
                  · refine g_iconst (pc' := 428) O ⟨dL_builds_427, rfl⟩ (v := (1 : Int32)) rfl ?_
                    refine g_goto (pc' := 431) O ⟨dL_builds_428, rfl⟩ (tgt := 432) (by decide) ?_
                    obtain ⟨hn, E⟩ := ckz_of E
                    cases E
                    exact hret _ _ _ _ _ (Nat.le_of_ble_eq_true rfl) (Nat.le_of_ble_eq_true rfl) ⟨dL_builds_432, rfl⟩ hn
                · intro k424 hk424 E
                  refine g_if_ne (pc' := 405) O ⟨dL_builds_402, rfl⟩ E (tgt := 411) (by decide) (fun E => ?_) (fun E => ?_)
                  · refine g_iload (pc' := 413) O ⟨dL_builds_411, rfl⟩ (q := 3) rfl ?_
                    refine g_if_eq (pc' := 416) O ⟨dL_builds_413, rfl⟩ E (tgt := 421) (by decide) (fun E => ?_) (fun E => ?_)
                    · refine g_sipush (pc' := 424) O ⟨dL_builds_421, rfl⟩ (v := (-1003 : Int32)) rfl ?_
                      refine g_sub (lv' := []) [] rfl ?_
                      exact hk424 _ E
                    · refine g_iload (pc' := 418) O ⟨dL_builds_416, rfl⟩ (q := 1) rfl ?_
                      refine g_goto (pc' := 421) O ⟨dL_builds_418, rfl⟩ (tgt := 424) (by decide) ?_
                      refine g_sub (lv' := []) [] rfl ?_
                      exact hk424 _ E
                  · refine g_sipush (pc' := 408) O ⟨dL_builds_405, rfl⟩ (v := (-1002 : Int32)) rfl ?_
                    refine g_goto (pc' := 411) O ⟨dL_builds_408, rfl⟩ (tgt := 424) (by decide) ?_
                    refine g_sub (lv' := []) [] rfl ?_
                    exact hk424 _ E
              · intro k392 hk392 E
                refine g_if_eq (pc' := 338) O ⟨dL_builds_335, rfl⟩ E (tgt := 392) (by decide) (fun E => ?_) (fun E => ?_)
                · refine g_sub (lv' := [(0, .ref (ad 0)), (9, .int y9_50), (10, .int z_53), (11, .int z_54)]) [1, 6, 7, 0] rfl ?_
                  exact hk392 _ _ _ E
                · refine g_iconst (pc' := 339) O ⟨dL_builds_338, rfl⟩ (v := (0 : Int32)) rfl ?_
                  refine g_istore (pc' := 341) O ⟨dL_builds_339, rfl⟩ (lv' := [(12, .int (0 : Int32)), (11, .int z_54), (0, .ref (ad 0)), (3, .ref b0), (4, .ref b1), (5, .ref b2), (7, .ref b4), (9, .int y9_50), (10, .int z_53)]) (by decide) rfl ?_
                  refine jn2_of (P := fun (r0_61 : Row) (r4_62 : Row) => G l D X 15 (WX5 ad cy 24 40 6 36 4 b0 b1 b2 b3 b4) 1 6 (h, r0_61, r1, r2, r3, r4_62) 382 [(0, .ref (ad 0)), (5, .ref b2), (7, .ref b4), (9, .int y9_50), (10, .int z_53), (11, .int z_54)] []) E ?_ ?_
                  · intro r0_61 r4_62 E
                    show G l D X 15 (WX5 ad cy 24 40 6 36 4 b0 b1 b2 b3 b4) 1 6 (h, r0_61, r1, r2, r3, r4_62) 382 [(0, .ref (ad 0)), (5, .ref b2), (7, .ref b4), (9, .int y9_50), (10, .int z_53), (11, .int z_54)] []
                    refine g_aload (pc' := 384) O ⟨dL_builds_382, rfl⟩ (q := 2) rfl ?_
                    refine g_iconst (pc' := 385) O ⟨dL_builds_384, rfl⟩ (v := (2 : Int32)) rfl ?_
                    refine g_iconst (pc' := 386) O ⟨dL_builds_385, rfl⟩ (v := (0 : Int32)) rfl ?_
                    refine g_iast (pc' := 387) O ⟨dL_builds_386, rfl⟩ zX5_4 zsX5_4 E (fun E => ?_)
                    refine g_nmr (Go := fun (r4_63 : Row) => G l D X 15 (WX5 ad cy 24 40 6 36 4 b0 b1 b2 b3 b4) 1 6 (h, r0_61, r1, r2, r3, r4_63) 387 [(0, .ref (ad 0)), (5, .ref b2), (7, .ref b4), (9, .int y9_50), (10, .int z_53), (11, .int z_54)] []) E (fun r4_63 E => ?_)
                    show G l D X 15 (WX5 ad cy 24 40 6 36 4 b0 b1 b2 b3 b4) 1 6 (h, r0_61, r1, r2, r3, r4_63) 387 [(0, .ref (ad 0)), (5, .ref b2), (7, .ref b4), (9, .int y9_50), (10, .int z_53), (11, .int z_54)] []
                    refine g_aload (pc' := 389) O ⟨dL_builds_387, rfl⟩ (q := 1) rfl ?_
                    obtain ⟨r_64, c_65, E⟩ := bd_of E
                    refine g_MSv (pc' := 392) O hN ⟨dL_builds_389, rfl⟩ (y := yL_forgets) (As := [.ref b2]) (st := []) (put := (fun g => (h, r0_61, r1, g, r3, r4_63))) sub_X5_A2 (t_L_forgets l D cy hfl b2 c_65) kw_1031 kw_24 kw_1029 kw_1030 hd_L_forgets ⟨Nat.le_of_ble_eq_true rfl, Nat.le_of_ble_eq_true rfl⟩ ⟨Nat.le_of_ble_eq_true rfl, Nat.le_of_ble_eq_true rfl⟩ rfl (Nat.le_of_ble_eq_true rfl) ?_
                    show G l D X 15 (WX5 ad cy 24 40 6 36 4 b0 b1 b2 b3 b4) 1 6 (h, r0_61, r1, r_64, r3, r4_63) 392 [(0, .ref (ad 0)), (5, .ref b2), (7, .ref b4), (9, .int y9_50), (10, .int z_53), (11, .int z_54)] []
                    refine g_sub (lv' := [(0, .ref (ad 0)), (9, .int y9_50), (10, .int z_53), (11, .int z_54)]) [0, 3, 4, 5] rfl ?_
                    exact hk392 _ _ _ E
                  · intro k382 hk382 E
                    refine g_sub (lv' := [(0, .ref (ad 0)), (3, .ref b0), (4, .ref b1), (5, .ref b2), (7, .ref b4), (9, .int y9_50), (10, .int z_53), (11, .int z_54), (12, .int (0 : Int32))]) [2, 3, 4, 5, 6, 7, 8, 1, 0] rfl ?_
                    refine fx3_of (P := fun (x12_66 : Int32) (r0_67 : Row) (r4_68 : Row) => G l D X 15 (WX5 ad cy 24 40 6 36 4 b0 b1 b2 b3 b4) 1 6 (h, r0_67, r1, r2, r3, r4_68) 341 [(0, .ref (ad 0)), (3, .ref b0), (4, .ref b1), (5, .ref b2), (7, .ref b4), (9, .int y9_50), (10, .int z_53), (11, .int z_54), (12, .int x12_66)] []) ?_ _ _ _ _ E
                    intro self ih341 x12_66 r0_67 r4_68 E
                    show G l D X 15 (WX5 ad cy 24 40 6 36 4 b0 b1 b2 b3 b4) 1 6 (h, r0_67, r1, r2, r3, r4_68) 341 [(0, .ref (ad 0)), (3, .ref b0), (4, .ref b1), (5, .ref b2), (7, .ref b4), (9, .int y9_50), (10, .int z_53), (11, .int z_54), (12, .int x12_66)] []
                    unfold L_L_builds_341 at E
                    refine g_iload (pc' := 343) O ⟨dL_builds_341, rfl⟩ (q := 8) rfl ?_
                    refine g_iload (pc' := 345) O ⟨dL_builds_343, rfl⟩ (q := 5) rfl ?_
                    refine g_icmp_ge (pc' := 348) O ⟨dL_builds_345, rfl⟩ E (tgt := 382) (by decide) (fun E => ?_) (fun E => ?_)
                    · refine g_sub (lv' := [(0, .ref (ad 0)), (5, .ref b2), (7, .ref b4), (9, .int y9_50), (10, .int z_53), (11, .int z_54)]) [0, 3, 4, 5, 6, 7] rfl ?_
                      exact hk382 _ _ E
                    · refine g_aload (pc' := 350) O ⟨dL_builds_348, rfl⟩ (q := 2) rfl ?_
                      refine g_iconst (pc' := 351) O ⟨dL_builds_350, rfl⟩ (v := (4 : Int32)) rfl ?_
                      refine g_iload (pc' := 353) O ⟨dL_builds_351, rfl⟩ (q := 8) rfl ?_
                      refine g_imul (pc' := 354) O ⟨dL_builds_353, rfl⟩ ?_
                      refine g_iald (pc' := 355) O ⟨dL_builds_354, rfl⟩ zX5_1 E (fun E => ?_)
                      refine g_bipush (pc' := 357) O ⟨dL_builds_355, rfl⟩ (v := (48 : Int32)) rfl ?_
                      refine g_isub (pc' := 358) O ⟨dL_builds_357, rfl⟩ ?_
                      refine g_aload (pc' := 360) O ⟨dL_builds_358, rfl⟩ (q := 2) rfl ?_
                      refine g_iconst (pc' := 361) O ⟨dL_builds_360, rfl⟩ (v := (4 : Int32)) rfl ?_
                      refine g_iload (pc' := 363) O ⟨dL_builds_361, rfl⟩ (q := 8) rfl ?_
                      refine g_imul (pc' := 364) O ⟨dL_builds_363, rfl⟩ ?_
                      refine g_iconst (pc' := 365) O ⟨dL_builds_364, rfl⟩ (v := (2 : Int32)) rfl ?_
                      refine g_iadd (pc' := 366) O ⟨dL_builds_365, rfl⟩ ?_
                      refine g_iald (pc' := 367) O ⟨dL_builds_366, rfl⟩ zX5_1 E (fun E => ?_)
                      refine g_bipush (pc' := 369) O ⟨dL_builds_367, rfl⟩ (v := (48 : Int32)) rfl ?_
                      refine g_isub (pc' := 370) O ⟨dL_builds_369, rfl⟩ ?_
                      refine g_aload_n (pc' := 371) O ⟨dL_builds_370, rfl⟩ (q := 1) rfl rfl ?_
                      refine g_aload (pc' := 373) O ⟨dL_builds_371, rfl⟩ (q := 4) rfl ?_
                      obtain ⟨r_69, c_70, E⟩ := bd_of E
                      refine g_MSv (pc' := 376) O hN ⟨dL_builds_373, rfl⟩ (y := yL_puts) (As := [.int ((r1 ((4 : Int32) * x12_66).toNatClampNeg) - (48 : Int32)), .int ((r1 (((4 : Int32) * x12_66) + (2 : Int32)).toNatClampNeg) - (48 : Int32)), .ref b0, .ref b4]) (st := []) (put := (fun g => (h, g.1, r1, r2, r3, g.2))) sub_X5_A0_4 (t_L_puts l D cy hfl b0 b4 c_70) kw_1037 kw_24 kw_1035 kw_1036 hd_L_puts ⟨Nat.le_of_ble_eq_true rfl, Nat.le_of_ble_eq_true rfl⟩ ⟨Nat.le_of_ble_eq_true rfl, Nat.le_of_ble_eq_true rfl⟩ rfl (Nat.le_of_ble_eq_true rfl) ?_
                      show G l D X 15 (WX5 ad cy 24 40 6 36 4 b0 b1 b2 b3 b4) 1 6 (h, r_69.1, r1, r2, r3, r_69.2) 376 [(0, .ref (ad 0)), (3, .ref b0), (4, .ref b1), (5, .ref b2), (7, .ref b4), (9, .int y9_50), (10, .int z_53), (11, .int z_54), (12, .int x12_66)] []
                      refine g_iinc (pc' := 379) O ⟨dL_builds_376, rfl⟩ (q := 8) (v := x12_66 + (1 : Int32)) (lv' := [(12, .int (x12_66 + (1 : Int32))), (0, .ref (ad 0)), (3, .ref b0), (4, .ref b1), (5, .ref b2), (7, .ref b4), (9, .int y9_50), (10, .int z_53), (11, .int z_54)]) rfl rfl (by decide) rfl ?_
                      refine g_goto (pc' := 382) O ⟨dL_builds_379, rfl⟩ (tgt := 341) (by decide) ?_
                      refine g_sub (lv' := [(0, .ref (ad 0)), (3, .ref b0), (4, .ref b1), (5, .ref b2), (7, .ref b4), (9, .int y9_50), (10, .int z_53), (11, .int z_54), (12, .int (x12_66 + (1 : Int32)))]) [1, 2, 3, 4, 5, 6, 7, 8, 0] rfl ?_
                      exact ih341 _ _ _ E
            · intro k331 hk331 E
              refine jn0_of (P := G l D X 15 (WX5 ad cy 24 40 6 36 4 b0 b1 b2 b3 b4) 1 6 (h, r0, r1, r2, r3, r4) 330 [(0, .ref (ad 0)), (3, .ref b0), (4, .ref b1), (5, .ref b2), (7, .ref b4), (9, .int y9_50), (10, .int z_53)] []) E ?_ ?_
              · intro E
                show G l D X 15 (WX5 ad cy 24 40 6 36 4 b0 b1 b2 b3 b4) 1 6 (h, r0, r1, r2, r3, r4) 330 [(0, .ref (ad 0)), (3, .ref b0), (4, .ref b1), (5, .ref b2), (7, .ref b4), (9, .int y9_50), (10, .int z_53)] []
                refine g_iconst (pc' := 331) O ⟨dL_builds_330, rfl⟩ (v := (0 : Int32)) rfl ?_
                exact hk331 _ E
              · intro k330 hk330 E
                refine g_if_eq (pc' := 314) O ⟨dL_builds_311, rfl⟩ E (tgt := 330) (by decide) (fun E => ?_) (fun E => ?_)
                · refine g_sub (lv' := [(0, .ref (ad 0)), (3, .ref b0), (4, .ref b1), (5, .ref b2), (7, .ref b4), (9, .int y9_50), (10, .int z_53)]) [1, 2, 3, 4, 5, 6, 0] rfl ?_
                  exact hk330 E
                · refine g_aload (pc' := 316) O ⟨dL_builds_314, rfl⟩ (q := 5) rfl ?_
                  refine g_iconst (pc' := 317) O ⟨dL_builds_316, rfl⟩ (v := (1 : Int32)) rfl ?_
                  refine g_iald (pc' := 318) O ⟨dL_builds_317, rfl⟩ zX5_4 E (fun E => ?_)
                  refine g_iload (pc' := 320) O ⟨dL_builds_318, rfl⟩ (q := 6) rfl ?_
                  refine g_iadd (pc' := 321) O ⟨dL_builds_320, rfl⟩ ?_
                  refine g_bipush (pc' := 323) O ⟨dL_builds_321, rfl⟩ (v := (25 : Int32)) rfl ?_
                  refine g_icmp_ge (pc' := 326) O ⟨dL_builds_323, rfl⟩ E (tgt := 330) (by decide) (fun E => ?_) (fun E => ?_)
                  · refine g_sub (lv' := [(0, .ref (ad 0)), (3, .ref b0), (4, .ref b1), (5, .ref b2), (7, .ref b4), (9, .int y9_50), (10, .int z_53)]) [1, 2, 3, 4, 5, 6, 0] rfl ?_
                    exact hk330 E
                  · refine g_iconst (pc' := 327) O ⟨dL_builds_326, rfl⟩ (v := (1 : Int32)) rfl ?_
                    refine g_goto (pc' := 330) O ⟨dL_builds_327, rfl⟩ (tgt := 331) (by decide) ?_
                    refine g_sub (lv' := [(0, .ref (ad 0)), (3, .ref b0), (4, .ref b1), (5, .ref b2), (7, .ref b4), (9, .int y9_50), (10, .int z_53)]) [1, 2, 3, 4, 5, 6, 0] rfl ?_
                    exact hk331 _ E
          · intro k307 hk307 E
            refine g_if_ge (pc' := 302) O ⟨dL_builds_299, rfl⟩ E (tgt := 306) (by decide) (fun E => ?_) (fun E => ?_)
            · refine g_iconst (pc' := 307) O ⟨dL_builds_306, rfl⟩ (v := (0 : Int32)) rfl ?_
              refine g_sub (lv' := [(0, .ref (ad 0)), (3, .ref b0), (4, .ref b1), (5, .ref b2), (7, .ref b4), (9, .int y9_50)]) [2, 5, 6, 7, 9, 0] rfl ?_
              exact hk307 _ E
            · refine g_iconst (pc' := 303) O ⟨dL_builds_302, rfl⟩ (v := (1 : Int32)) rfl ?_
              refine g_goto (pc' := 306) O ⟨dL_builds_303, rfl⟩ (tgt := 307) (by decide) ?_
              refine g_sub (lv' := [(0, .ref (ad 0)), (3, .ref b0), (4, .ref b1), (5, .ref b2), (7, .ref b4), (9, .int y9_50)]) [2, 5, 6, 7, 9, 0] rfl ?_
              exact hk307 _ E
      · refine g_iload_n (pc' := 194) O ⟨dL_builds_193, rfl⟩ (q := 3) rfl rfl ?_
        refine g_iconst (pc' := 195) O ⟨dL_builds_194, rfl⟩ (v := (3 : Int32)) rfl ?_
        obtain ⟨r_71, c_72, E⟩ := bd_of E
        refine g_MSi (pc' := 198) O hN ⟨dL_builds_195, rfl⟩ (y := yL_low) (As := [.int x2, .int (3 : Int32)]) (st := []) (put := (fun g => (h, r0, r1, r2, r3, r4))) sub_X5_A (t_L_low l D cy hfl c_72) kw_408 kw_24 kw_406 kw_407 hd_L_low ⟨Nat.le_of_ble_eq_true rfl, Nat.le_of_ble_eq_true rfl⟩ ⟨Nat.le_of_ble_eq_true rfl, Nat.le_of_ble_eq_true rfl⟩ rfl (Nat.le_of_ble_eq_true rfl) ?_
        show G l D X 15 (WX5 ad cy 24 40 6 36 4 b0 b1 b2 b3 b4) 0 0 (h, r0, r1, r2, r3, r4) 198 [(8, .int (r4 (0 : Int32).toNatClampNeg)), (0, .ref (ad 0)), (1, .int x1), (2, .int x2), (3, .ref b0), (4, .ref b1), (5, .ref b2), (6, .ref b3), (7, .ref b4)] [.int r_71]
        refine g_istore (pc' := 200) O ⟨dL_builds_198, rfl⟩ (lv' := [(9, .int r_71), (8, .int (r4 (0 : Int32).toNatClampNeg)), (0, .ref (ad 0)), (1, .int x1), (2, .int x2), (3, .ref b0), (4, .ref b1), (5, .ref b2), (6, .ref b3), (7, .ref b4)]) (by decide) rfl ?_
        refine g_iload (pc' := 202) O ⟨dL_builds_200, rfl⟩ (q := 0) rfl ?_
        refine g_iload (pc' := 204) O ⟨dL_builds_202, rfl⟩ (q := 1) rfl ?_
        obtain ⟨r_73, c_74, E⟩ := bd_of E
        refine g_MSi (pc' := 207) O hN ⟨dL_builds_204, rfl⟩ (y := yL_made) (As := [.int r_71, .int (r4 (0 : Int32).toNatClampNeg)]) (st := []) (put := (fun g => (h, r0, r1, r2, r3, r4))) sub_X5_A (t_L_made l D cy hfl c_74) kw_1040 kw_24 kw_1038 kw_1039 hd_L_made ⟨Nat.le_of_ble_eq_true rfl, Nat.le_of_ble_eq_true rfl⟩ ⟨Nat.le_of_ble_eq_true rfl, Nat.le_of_ble_eq_true rfl⟩ rfl (Nat.le_of_ble_eq_true rfl) ?_
        show G l D X 15 (WX5 ad cy 24 40 6 36 4 b0 b1 b2 b3 b4) 0 0 (h, r0, r1, r2, r3, r4) 207 [(9, .int r_71), (8, .int (r4 (0 : Int32).toNatClampNeg)), (0, .ref (ad 0)), (1, .int x1), (2, .int x2), (3, .ref b0), (4, .ref b1), (5, .ref b2), (6, .ref b3), (7, .ref b4)] [.int r_73]
        refine g_istore (pc' := 209) O ⟨dL_builds_207, rfl⟩ (lv' := [(10, .int r_73), (9, .int r_71), (8, .int (r4 (0 : Int32).toNatClampNeg)), (0, .ref (ad 0)), (1, .int x1), (2, .int x2), (3, .ref b0), (4, .ref b1), (5, .ref b2), (6, .ref b3), (7, .ref b4)]) (by decide) rfl ?_
        refine g_aload (pc' := 211) O ⟨dL_builds_209, rfl⟩ (q := 10) rfl ?_
        refine g_iconst (pc' := 212) O ⟨dL_builds_211, rfl⟩ (v := (1 : Int32)) rfl ?_
        refine g_iald (pc' := 213) O ⟨dL_builds_212, rfl⟩ zX5_4 E (fun E => ?_)
        refine g_iload (pc' := 215) O ⟨dL_builds_213, rfl⟩ (q := 0) rfl ?_
        refine g_iadd (pc' := 216) O ⟨dL_builds_215, rfl⟩ ?_
        refine g_bipush (pc' := 218) O ⟨dL_builds_216, rfl⟩ (v := (25 : Int32)) rfl ?_
        refine jn1_of (P := fun (z_75 : Int32) => G l D X 15 (WX5 ad cy 24 40 6 36 4 b0 b1 b2 b3 b4) 0 0 (h, r0, r1, r2, r3, r4) 226 [(0, .ref (ad 0)), (3, .ref b0), (5, .ref b2), (7, .ref b4), (9, .int r_71), (10, .int r_73)] [.int z_75]) E ?_ ?_
        · intro z_75 E
          show G l D X 15 (WX5 ad cy 24 40 6 36 4 b0 b1 b2 b3 b4) 0 0 (h, r0, r1, r2, r3, r4) 226 [(0, .ref (ad 0)), (3, .ref b0), (5, .ref b2), (7, .ref b4), (9, .int r_71), (10, .int r_73)] [.int z_75]
          refine g_istore (pc' := 228) O ⟨dL_builds_226, rfl⟩ (lv' := [(11, .int z_75), (0, .ref (ad 0)), (3, .ref b0), (5, .ref b2), (7, .ref b4), (9, .int r_71), (10, .int r_73)]) (by decide) rfl ?_
          refine g_iload (pc' := 230) O ⟨dL_builds_228, rfl⟩ (q := 0) rfl ?_
          refine jn3_of (P := fun (r0_76 : Row) (r2_77 : Row) (r4_78 : Row) => G l D X 15 (WX5 ad cy 24 40 6 36 4 b0 b1 b2 b3 b4) 0 0 (h, r0_76, r1, r2_77, r3, r4_78) 246 [(0, .ref (ad 0)), (9, .int r_71), (10, .int r_73), (11, .int z_75)] []) E ?_ ?_
          · intro r0_76 r2_77 r4_78 E
            show G l D X 15 (WX5 ad cy 24 40 6 36 4 b0 b1 b2 b3 b4) 0 0 (h, r0_76, r1, r2_77, r3, r4_78) 246 [(0, .ref (ad 0)), (9, .int r_71), (10, .int r_73), (11, .int z_75)] []
            refine g_aload_n (pc' := 247) O ⟨dL_builds_246, rfl⟩ (q := 0) rfl rfl ?_
            refine g_iconst (pc' := 248) O ⟨dL_builds_247, rfl⟩ (v := (2 : Int32)) rfl ?_
            refine g_iload (pc' := 250) O ⟨dL_builds_248, rfl⟩ (q := 1) rfl ?_
            refine g_iconst (pc' := 251) O ⟨dL_builds_250, rfl⟩ (v := (0 : Int32)) rfl ?_
            refine g_lconst (pc' := 252) O ⟨dL_builds_251, rfl⟩ (v := (0 : Int64)) rfl ?_
            obtain ⟨r_79, c_80, E⟩ := bd_of E
            refine g_HS (pc' := 255) O hN ⟨dL_builds_252, rfl⟩ (y := yL_calls) (As := [.ref (ad 0), .int (2 : Int32), .int r_71, .int (0 : Int32), .long (0 : Int64)]) (st := []) (put := (fun g => (g, r0_76, r1, r2_77, r3, r4_78))) sub_X5_X (t_L_calls l D ad cy hfl c_80) kw_412 kw_24 kw_410 kw_411 hd_L_calls ⟨Nat.le_of_ble_eq_true rfl, Nat.le_of_ble_eq_true rfl⟩ ⟨Nat.le_of_ble_eq_true rfl, Nat.le_of_ble_eq_true rfl⟩ rfl (Nat.le_of_ble_eq_true rfl) ?_
            show G l D X 15 (WX5 ad cy 24 40 6 36 4 b0 b1 b2 b3 b4) 13 78 (r_79.2, r0_76, r1, r2_77, r3, r4_78) 255 [(0, .ref (ad 0)), (9, .int r_71), (10, .int r_73), (11, .int z_75)] [.int r_79.1]
            refine g_iload (pc' := 257) O ⟨dL_builds_255, rfl⟩ (q := 3) rfl ?_
            refine jn1_of (P := fun (z_81 : Int32) => G l D X 15 (WX5 ad cy 24 40 6 36 4 b0 b1 b2 b3 b4) 13 78 (r_79.2, r0_76, r1, r2_77, r3, r4_78) 268 [] [.int z_81, .int r_79.1]) E ?_ ?_
            · intro z_81 E
              show G l D X 15 (WX5 ad cy 24 40 6 36 4 b0 b1 b2 b3 b4) 13 78 (r_79.2, r0_76, r1, r2_77, r3, r4_78) 268 [] [.int z_81, .int r_79.1]
              refine g_icmp_ne (pc' := 271) O ⟨dL_builds_268, rfl⟩ E (tgt := 275) (by decide) (fun E => ?_) (fun E => ?_)
              · refine g_iconst (pc' := 276) O ⟨dL_builds_275, rfl⟩ (v := (0 : Int32)) rfl ?_
                obtain ⟨hn, E⟩ := ckz_of E
                cases E
                exact hret _ _ _ _ _ (Nat.le_of_ble_eq_true rfl) (Nat.le_of_ble_eq_true rfl) ⟨dL_builds_276, rfl⟩ hn
              · refine g_iconst (pc' := 272) O ⟨dL_builds_271, rfl⟩ (v := (1 : Int32)) rfl ?_
                refine g_goto (pc' := 275) O ⟨dL_builds_272, rfl⟩ (tgt := 276) (by decide) ?_
                obtain ⟨hn, E⟩ := ckz_of E
                cases E
                exact hret _ _ _ _ _ (Nat.le_of_ble_eq_true rfl) (Nat.le_of_ble_eq_true rfl) ⟨dL_builds_276, rfl⟩ hn
            · intro k268 hk268 E
              refine g_if_eq (pc' := 260) O ⟨dL_builds_257, rfl⟩ E (tgt := 265) (by decide) (fun E => ?_) (fun E => ?_)
              · refine g_sipush (pc' := 268) O ⟨dL_builds_265, rfl⟩ (v := (-1003 : Int32)) rfl ?_
                refine g_sub (lv' := []) [] rfl ?_
                exact hk268 _ E
              · refine g_iload (pc' := 262) O ⟨dL_builds_260, rfl⟩ (q := 2) rfl ?_
                refine g_goto (pc' := 265) O ⟨dL_builds_262, rfl⟩ (tgt := 268) (by decide) ?_
                refine g_sub (lv' := []) [] rfl ?_
                exact hk268 _ E
          · intro k246 hk246 E
            refine g_if_eq (pc' := 233) O ⟨dL_builds_230, rfl⟩ E (tgt := 246) (by decide) (fun E => ?_) (fun E => ?_)
            · refine g_sub (lv' := [(0, .ref (ad 0)), (9, .int r_71), (10, .int r_73), (11, .int z_75)]) [1, 5, 6, 0] rfl ?_
              exact hk246 _ _ _ E
            · refine g_iload (pc' := 235) O ⟨dL_builds_233, rfl⟩ (q := 5) rfl ?_
              refine g_aload_n (pc' := 236) O ⟨dL_builds_235, rfl⟩ (q := 2) rfl rfl ?_
              refine g_aload (pc' := 238) O ⟨dL_builds_236, rfl⟩ (q := 4) rfl ?_
              obtain ⟨r_82, c_83, E⟩ := bd_of E
              refine g_MSv (pc' := 241) O hN ⟨dL_builds_238, rfl⟩ (y := yL_makes) (As := [.int r_71, .ref b0, .ref b4]) (st := []) (put := (fun g => (h, g.1, r1, r2, r3, g.2))) sub_X5_A0_4 (t_L_makes l D cy hfl b0 b4 c_83) kw_1043 kw_24 kw_1041 kw_1042 hd_L_makes ⟨Nat.le_of_ble_eq_true rfl, Nat.le_of_ble_eq_true rfl⟩ ⟨Nat.le_of_ble_eq_true rfl, Nat.le_of_ble_eq_true rfl⟩ rfl (Nat.le_of_ble_eq_true rfl) ?_
              show G l D X 15 (WX5 ad cy 24 40 6 36 4 b0 b1 b2 b3 b4) 0 0 (h, r_82.1, r1, r2, r3, r_82.2) 241 [(11, .int z_75), (0, .ref (ad 0)), (3, .ref b0), (5, .ref b2), (7, .ref b4), (9, .int r_71), (10, .int r_73)] []
              refine g_aload (pc' := 243) O ⟨dL_builds_241, rfl⟩ (q := 3) rfl ?_
              obtain ⟨r_84, c_85, E⟩ := bd_of E
              refine g_MSv (pc' := 246) O hN ⟨dL_builds_243, rfl⟩ (y := yL_forgets) (As := [.ref b2]) (st := []) (put := (fun g => (h, r_82.1, r1, g, r3, r_82.2))) sub_X5_A2 (t_L_forgets l D cy hfl b2 c_85) kw_1031 kw_24 kw_1029 kw_1030 hd_L_forgets ⟨Nat.le_of_ble_eq_true rfl, Nat.le_of_ble_eq_true rfl⟩ ⟨Nat.le_of_ble_eq_true rfl, Nat.le_of_ble_eq_true rfl⟩ rfl (Nat.le_of_ble_eq_true rfl) ?_
              show G l D X 15 (WX5 ad cy 24 40 6 36 4 b0 b1 b2 b3 b4) 0 0 (h, r_82.1, r1, r_84, r3, r_82.2) 246 [(11, .int z_75), (0, .ref (ad 0)), (3, .ref b0), (5, .ref b2), (7, .ref b4), (9, .int r_71), (10, .int r_73)] []
              refine g_sub (lv' := [(0, .ref (ad 0)), (9, .int r_71), (10, .int r_73), (11, .int z_75)]) [1, 5, 6, 0] rfl ?_
              exact hk246 _ _ _ E
        · intro k226 hk226 E
          refine g_icmp_ge (pc' := 221) O ⟨dL_builds_218, rfl⟩ E (tgt := 225) (by decide) (fun E => ?_) (fun E => ?_)
          · refine g_iconst (pc' := 226) O ⟨dL_builds_225, rfl⟩ (v := (0 : Int32)) rfl ?_
            refine g_sub (lv' := [(0, .ref (ad 0)), (3, .ref b0), (5, .ref b2), (7, .ref b4), (9, .int r_71), (10, .int r_73)]) [3, 6, 8, 10, 1, 0] rfl ?_
            exact hk226 _ E
          · refine g_iconst (pc' := 222) O ⟨dL_builds_221, rfl⟩ (v := (1 : Int32)) rfl ?_
            refine g_goto (pc' := 225) O ⟨dL_builds_222, rfl⟩ (tgt := 226) (by decide) ?_
            refine g_sub (lv' := [(0, .ref (ad 0)), (3, .ref b0), (5, .ref b2), (7, .ref b4), (9, .int r_71), (10, .int r_73)]) [3, 6, 8, 10, 1, 0] rfl ?_
            exact hk226 _ E
    · refine g_aload (pc' := 117) O ⟨dL_builds_115, rfl⟩ (q := 8) rfl ?_
      refine g_iconst (pc' := 118) O ⟨dL_builds_117, rfl⟩ (v := (1 : Int32)) rfl ?_
      refine g_iald (pc' := 119) O ⟨dL_builds_118, rfl⟩ zX5_4 E (fun E => ?_)
      refine jn1_of (P := fun (z_86 : Int32) => G l D X 15 (WX5 ad cy 24 40 6 36 4 b0 b1 b2 b3 b4) 0 0 (h, r0, r1, r2, r3, r4) 127 [(0, .ref (ad 0)), (5, .ref b2), (7, .ref b4)] [.int z_86]) E ?_ ?_
      · intro z_86 E
        show G l D X 15 (WX5 ad cy 24 40 6 36 4 b0 b1 b2 b3 b4) 0 0 (h, r0, r1, r2, r3, r4) 127 [(0, .ref (ad 0)), (5, .ref b2), (7, .ref b4)] [.int z_86]
        refine g_istore (pc' := 129) O ⟨dL_builds_127, rfl⟩ (lv' := [(9, .int z_86), (0, .ref (ad 0)), (5, .ref b2), (7, .ref b4)]) (by decide) rfl ?_
        refine g_aload (pc' := 131) O ⟨dL_builds_129, rfl⟩ (q := 3) rfl ?_
        refine g_iconst (pc' := 132) O ⟨dL_builds_131, rfl⟩ (v := (1 : Int32)) rfl ?_
        refine g_dup2 (pc' := 133) O ⟨dL_builds_132, rfl⟩ rfl rfl ?_
        refine g_iald (pc' := 134) O ⟨dL_builds_133, rfl⟩ zX5_4 E (fun E => ?_)
        refine g_iload (pc' := 136) O ⟨dL_builds_134, rfl⟩ (q := 0) rfl ?_
        refine jn1_of (P := fun (z_87 : Int32) => G l D X 15 (WX5 ad cy 24 40 6 36 4 b0 b1 b2 b3 b4) 0 0 (h, r0, r1, r2, r3, r4) 144 [(0, .ref (ad 0)), (5, .ref b2), (7, .ref b4), (9, .int z_86)] [.int z_87, .int (r4 (1 : Int32).toNatClampNeg), .int (1 : Int32), .ref b4]) E ?_ ?_
        · intro z_87 E
          show G l D X 15 (WX5 ad cy 24 40 6 36 4 b0 b1 b2 b3 b4) 0 0 (h, r0, r1, r2, r3, r4) 144 [(0, .ref (ad 0)), (5, .ref b2), (7, .ref b4), (9, .int z_86)] [.int z_87, .int (r4 (1 : Int32).toNatClampNeg), .int (1 : Int32), .ref b4]
          refine g_isub (pc' := 145) O ⟨dL_builds_144, rfl⟩ ?_
          refine g_iast (pc' := 146) O ⟨dL_builds_145, rfl⟩ zX5_4 zsX5_4 E (fun E => ?_)
          refine g_nmr (Go := fun (r4_88 : Row) => G l D X 15 (WX5 ad cy 24 40 6 36 4 b0 b1 b2 b3 b4) 0 0 (h, r0, r1, r2, r3, r4_88) 146 [(0, .ref (ad 0)), (5, .ref b2), (7, .ref b4), (9, .int z_86)] []) E (fun r4_88 E => ?_)
          show G l D X 15 (WX5 ad cy 24 40 6 36 4 b0 b1 b2 b3 b4) 0 0 (h, r0, r1, r2, r3, r4_88) 146 [(0, .ref (ad 0)), (5, .ref b2), (7, .ref b4), (9, .int z_86)] []
          refine g_iload (pc' := 148) O ⟨dL_builds_146, rfl⟩ (q := 3) rfl ?_
          refine jn1_of (P := fun (r2_89 : Row) => G l D X 15 (WX5 ad cy 24 40 6 36 4 b0 b1 b2 b3 b4) 0 0 (h, r0, r1, r2_89, r3, r4_88) 156 [(0, .ref (ad 0)), (7, .ref b4), (9, .int z_86)] []) E ?_ ?_
          · intro r2_89 E
            show G l D X 15 (WX5 ad cy 24 40 6 36 4 b0 b1 b2 b3 b4) 0 0 (h, r0, r1, r2_89, r3, r4_88) 156 [(0, .ref (ad 0)), (7, .ref b4), (9, .int z_86)] []
            refine g_aload_n (pc' := 157) O ⟨dL_builds_156, rfl⟩ (q := 0) rfl rfl ?_
            refine g_iconst (pc' := 158) O ⟨dL_builds_157, rfl⟩ (v := (1 : Int32)) rfl ?_
            refine g_iconst (pc' := 159) O ⟨dL_builds_158, rfl⟩ (v := (0 : Int32)) rfl ?_
            refine g_iconst (pc' := 160) O ⟨dL_builds_159, rfl⟩ (v := (0 : Int32)) rfl ?_
            refine g_lconst (pc' := 161) O ⟨dL_builds_160, rfl⟩ (v := (0 : Int64)) rfl ?_
            obtain ⟨r_90, c_91, E⟩ := bd_of E
            refine g_HS (pc' := 164) O hN ⟨dL_builds_161, rfl⟩ (y := yL_calls) (As := [.ref (ad 0), .int (1 : Int32), .int (0 : Int32), .int (0 : Int32), .long (0 : Int64)]) (st := []) (put := (fun g => (g, r0, r1, r2_89, r3, r4_88))) sub_X5_X (t_L_calls l D ad cy hfl c_91) kw_412 kw_24 kw_410 kw_411 hd_L_calls ⟨Nat.le_of_ble_eq_true rfl, Nat.le_of_ble_eq_true rfl⟩ ⟨Nat.le_of_ble_eq_true rfl, Nat.le_of_ble_eq_true rfl⟩ rfl (Nat.le_of_ble_eq_true rfl) ?_
            show G l D X 15 (WX5 ad cy 24 40 6 36 4 b0 b1 b2 b3 b4) 13 78 (r_90.2, r0, r1, r2_89, r3, r4_88) 164 [(0, .ref (ad 0)), (7, .ref b4), (9, .int z_86)] [.int r_90.1]
            refine g_iload (pc' := 166) O ⟨dL_builds_164, rfl⟩ (q := 2) rfl ?_
            refine jn1_of (P := fun (z_92 : Int32) => G l D X 15 (WX5 ad cy 24 40 6 36 4 b0 b1 b2 b3 b4) 13 78 (r_90.2, r0, r1, r2_89, r3, r4_88) 179 [] [.int z_92, .int r_90.1]) E ?_ ?_
            · intro z_92 E
              show G l D X 15 (WX5 ad cy 24 40 6 36 4 b0 b1 b2 b3 b4) 13 78 (r_90.2, r0, r1, r2_89, r3, r4_88) 179 [] [.int z_92, .int r_90.1]
              refine g_icmp_ne (pc' := 182) O ⟨dL_builds_179, rfl⟩ E (tgt := 186) (by decide) (fun E => ?_) (fun E => ?_)
              · refine g_iconst (pc' := 187) O ⟨dL_builds_186, rfl⟩ (v := (0 : Int32)) rfl ?_
                obtain ⟨hn, E⟩ := ckz_of E
                cases E
                exact hret _ _ _ _ _ (Nat.le_of_ble_eq_true rfl) (Nat.le_of_ble_eq_true rfl) ⟨dL_builds_187, rfl⟩ hn
              · refine g_iconst (pc' := 183) O ⟨dL_builds_182, rfl⟩ (v := (1 : Int32)) rfl ?_
                refine g_goto (pc' := 186) O ⟨dL_builds_183, rfl⟩ (tgt := 187) (by decide) ?_
                obtain ⟨hn, E⟩ := ckz_of E
                cases E
                exact hret _ _ _ _ _ (Nat.le_of_ble_eq_true rfl) (Nat.le_of_ble_eq_true rfl) ⟨dL_builds_187, rfl⟩ hn
            · intro k179 hk179 E
              refine g_if_eq (pc' := 169) O ⟨dL_builds_166, rfl⟩ E (tgt := 176) (by decide) (fun E => ?_) (fun E => ?_)
              · refine g_sipush (pc' := 179) O ⟨dL_builds_176, rfl⟩ (v := (-1003 : Int32)) rfl ?_
                refine g_sub (lv' := []) [] rfl ?_
                exact hk179 _ E
              · refine g_aload (pc' := 171) O ⟨dL_builds_169, rfl⟩ (q := 1) rfl ?_
                refine g_iconst (pc' := 172) O ⟨dL_builds_171, rfl⟩ (v := (1 : Int32)) rfl ?_
                refine g_iald (pc' := 173) O ⟨dL_builds_172, rfl⟩ zX5_4 E (fun E => ?_)
                refine g_goto (pc' := 176) O ⟨dL_builds_173, rfl⟩ (tgt := 179) (by decide) ?_
                refine g_sub (lv' := []) [] rfl ?_
                exact hk179 _ E
          · intro k156 hk156 E
            refine g_if_eq (pc' := 151) O ⟨dL_builds_148, rfl⟩ E (tgt := 156) (by decide) (fun E => ?_) (fun E => ?_)
            · refine g_sub (lv' := [(0, .ref (ad 0)), (7, .ref b4), (9, .int z_86)]) [0, 2, 3] rfl ?_
              exact hk156 _ E
            · refine g_aload (pc' := 153) O ⟨dL_builds_151, rfl⟩ (q := 1) rfl ?_
              obtain ⟨r_93, c_94, E⟩ := bd_of E
              refine g_MSv (pc' := 156) O hN ⟨dL_builds_153, rfl⟩ (y := yL_forgets) (As := [.ref b2]) (st := []) (put := (fun g => (h, r0, r1, g, r3, r4_88))) sub_X5_A2 (t_L_forgets l D cy hfl b2 c_94) kw_1031 kw_24 kw_1029 kw_1030 hd_L_forgets ⟨Nat.le_of_ble_eq_true rfl, Nat.le_of_ble_eq_true rfl⟩ ⟨Nat.le_of_ble_eq_true rfl, Nat.le_of_ble_eq_true rfl⟩ rfl (Nat.le_of_ble_eq_true rfl) ?_
              show G l D X 15 (WX5 ad cy 24 40 6 36 4 b0 b1 b2 b3 b4) 0 0 (h, r0, r1, r_93, r3, r4_88) 156 [(0, .ref (ad 0)), (5, .ref b2), (7, .ref b4), (9, .int z_86)] []
              refine g_sub (lv' := [(0, .ref (ad 0)), (7, .ref b4), (9, .int z_86)]) [0, 2, 3] rfl ?_
              exact hk156 _ E
        · intro k144 hk144 E
          refine g_if_eq (pc' := 139) O ⟨dL_builds_136, rfl⟩ E (tgt := 143) (by decide) (fun E => ?_) (fun E => ?_)
          · refine g_iconst (pc' := 144) O ⟨dL_builds_143, rfl⟩ (v := (0 : Int32)) rfl ?_
            refine g_sub (lv' := [(0, .ref (ad 0)), (5, .ref b2), (7, .ref b4), (9, .int z_86)]) [1, 2, 3, 0] rfl ?_
            exact hk144 _ E
          · refine g_iconst (pc' := 140) O ⟨dL_builds_139, rfl⟩ (v := (1 : Int32)) rfl ?_
            refine g_goto (pc' := 143) O ⟨dL_builds_140, rfl⟩ (tgt := 144) (by decide) ?_
            refine g_sub (lv' := [(0, .ref (ad 0)), (5, .ref b2), (7, .ref b4), (9, .int z_86)]) [1, 2, 3, 0] rfl ?_
            exact hk144 _ E
      · intro k127 hk127 E
        refine g_if_le (pc' := 122) O ⟨dL_builds_119, rfl⟩ E (tgt := 126) (by decide) (fun E => ?_) (fun E => ?_)
        · refine g_iconst (pc' := 127) O ⟨dL_builds_126, rfl⟩ (v := (0 : Int32)) rfl ?_
          refine g_sub (lv' := [(0, .ref (ad 0)), (5, .ref b2), (7, .ref b4)]) [1, 6, 8] rfl ?_
          exact hk127 _ E
        · refine g_iconst (pc' := 123) O ⟨dL_builds_122, rfl⟩ (v := (1 : Int32)) rfl ?_
          refine g_goto (pc' := 126) O ⟨dL_builds_123, rfl⟩ (tgt := 127) (by decide) ?_
          refine g_sub (lv' := [(0, .ref (ad 0)), (5, .ref b2), (7, .ref b4)]) [1, 6, 8] rfl ?_
          exact hk127 _ E
  · refine g_iload_n (pc' := 11) O ⟨dL_builds_10, rfl⟩ (q := 3) rfl rfl ?_
    refine g_iload (pc' := 13) O ⟨dL_builds_11, rfl⟩ (q := 0) rfl ?_
    obtain ⟨r_95, c_96, E⟩ := bd_of E
    refine g_MSi (pc' := 16) O hN ⟨dL_builds_13, rfl⟩ (y := yL_low) (As := [.int x2, .int (r4 (0 : Int32).toNatClampNeg)]) (st := []) (put := (fun g => (h, r0, r1, r2, r3, r4))) sub_X5_A (t_L_low l D cy hfl c_96) kw_408 kw_24 kw_406 kw_407 hd_L_low ⟨Nat.le_of_ble_eq_true rfl, Nat.le_of_ble_eq_true rfl⟩ ⟨Nat.le_of_ble_eq_true rfl, Nat.le_of_ble_eq_true rfl⟩ rfl (Nat.le_of_ble_eq_true rfl) ?_
    show G l D X 15 (WX5 ad cy 24 40 6 36 4 b0 b1 b2 b3 b4) 0 0 (h, r0, r1, r2, r3, r4) 16 [(8, .int (r4 (0 : Int32).toNatClampNeg)), (0, .ref (ad 0)), (1, .int x1), (2, .int x2), (3, .ref b0), (4, .ref b1), (5, .ref b2), (6, .ref b3), (7, .ref b4)] [.int r_95]
    refine g_istore (pc' := 18) O ⟨dL_builds_16, rfl⟩ (lv' := [(9, .int r_95), (8, .int (r4 (0 : Int32).toNatClampNeg)), (0, .ref (ad 0)), (1, .int x1), (2, .int x2), (3, .ref b0), (4, .ref b1), (5, .ref b2), (6, .ref b3), (7, .ref b4)]) (by decide) rfl ?_
    refine g_iload (pc' := 20) O ⟨dL_builds_18, rfl⟩ (q := 0) rfl ?_
    refine g_iconst (pc' := 21) O ⟨dL_builds_20, rfl⟩ (v := (1 : Int32)) rfl ?_
    refine g_iadd (pc' := 22) O ⟨dL_builds_21, rfl⟩ ?_
    refine g_iload_n (pc' := 23) O ⟨dL_builds_22, rfl⟩ (q := 4) rfl rfl ?_
    refine g_iconst (pc' := 24) O ⟨dL_builds_23, rfl⟩ (v := (3 : Int32)) rfl ?_
    refine g_ishr (pc' := 25) O ⟨dL_builds_24, rfl⟩ ?_
    refine g_iload (pc' := 27) O ⟨dL_builds_25, rfl⟩ (q := 1) rfl ?_
    refine g_iconst (pc' := 28) O ⟨dL_builds_27, rfl⟩ (v := (1 : Int32)) rfl ?_
    refine g_isub (pc' := 29) O ⟨dL_builds_28, rfl⟩ ?_
    obtain ⟨r_97, c_98, E⟩ := bd_of E
    refine g_MSi (pc' := 32) O hN ⟨dL_builds_29, rfl⟩ (y := yL_low) (As := [.int (ishr x2 (3 : Int32)), .int ((r4 (0 : Int32).toNatClampNeg) - (1 : Int32))]) (st := [.int (r_95 + (1 : Int32))]) (put := (fun g => (h, r0, r1, r2, r3, r4))) sub_X5_A (t_L_low l D cy hfl c_98) kw_408 kw_24 kw_406 kw_407 hd_L_low ⟨Nat.le_of_ble_eq_true rfl, Nat.le_of_ble_eq_true rfl⟩ ⟨Nat.le_of_ble_eq_true rfl, Nat.le_of_ble_eq_true rfl⟩ rfl (Nat.le_of_ble_eq_true rfl) ?_
    show G l D X 15 (WX5 ad cy 24 40 6 36 4 b0 b1 b2 b3 b4) 0 0 (h, r0, r1, r2, r3, r4) 32 [(9, .int r_95), (8, .int (r4 (0 : Int32).toNatClampNeg)), (0, .ref (ad 0)), (1, .int x1), (2, .int x2), (3, .ref b0), (4, .ref b1), (5, .ref b2), (6, .ref b3), (7, .ref b4)] [.int r_97, .int (r_95 + (1 : Int32))]
    refine g_iadd (pc' := 33) O ⟨dL_builds_32, rfl⟩ ?_
    refine g_iload (pc' := 35) O ⟨dL_builds_33, rfl⟩ (q := 1) rfl ?_
    obtain ⟨nz_35, E⟩ := nz_of E
    refine g_irem (pc' := 36) O ⟨dL_builds_35, rfl⟩ nz_35 ?_
    refine g_nm E (fun y10_99 E => ?_)
    refine g_istore (pc' := 38) O ⟨dL_builds_36, rfl⟩ (lv' := [(10, .int y10_99), (9, .int r_95), (8, .int (r4 (0 : Int32).toNatClampNeg)), (0, .ref (ad 0)), (1, .int x1), (2, .int x2), (3, .ref b0), (4, .ref b1), (5, .ref b2), (6, .ref b3), (7, .ref b4)]) (by decide) rfl ?_
    refine g_aload (pc' := 40) O ⟨dL_builds_38, rfl⟩ (q := 10) rfl ?_
    refine g_iconst (pc' := 41) O ⟨dL_builds_40, rfl⟩ (v := (1 : Int32)) rfl ?_
    refine g_iald (pc' := 42) O ⟨dL_builds_41, rfl⟩ zX5_4 E (fun E => ?_)
    refine g_bipush (pc' := 44) O ⟨dL_builds_42, rfl⟩ (v := (24 : Int32)) rfl ?_
    refine jn1_of (P := fun (z_100 : Int32) => G l D X 15 (WX5 ad cy 24 40 6 36 4 b0 b1 b2 b3 b4) 0 0 (h, r0, r1, r2, r3, r4) 52 [(0, .ref (ad 0)), (3, .ref b0), (5, .ref b2), (7, .ref b4), (9, .int r_95), (10, .int y10_99)] [.int z_100]) E ?_ ?_
    · intro z_100 E
      show G l D X 15 (WX5 ad cy 24 40 6 36 4 b0 b1 b2 b3 b4) 0 0 (h, r0, r1, r2, r3, r4) 52 [(0, .ref (ad 0)), (3, .ref b0), (5, .ref b2), (7, .ref b4), (9, .int r_95), (10, .int y10_99)] [.int z_100]
      refine g_istore (pc' := 54) O ⟨dL_builds_52, rfl⟩ (lv' := [(11, .int z_100), (0, .ref (ad 0)), (3, .ref b0), (5, .ref b2), (7, .ref b4), (9, .int r_95), (10, .int y10_99)]) (by decide) rfl ?_
      refine g_iload (pc' := 56) O ⟨dL_builds_54, rfl⟩ (q := 0) rfl ?_
      refine jn3_of (P := fun (r0_101 : Row) (r2_102 : Row) (r4_103 : Row) => G l D X 15 (WX5 ad cy 24 40 6 36 4 b0 b1 b2 b3 b4) 0 0 (h, r0_101, r1, r2_102, r3, r4_103) 74 [(0, .ref (ad 0)), (7, .ref b4), (9, .int r_95), (10, .int y10_99), (11, .int z_100)] []) E ?_ ?_
      · intro r0_101 r2_102 r4_103 E
        show G l D X 15 (WX5 ad cy 24 40 6 36 4 b0 b1 b2 b3 b4) 0 0 (h, r0_101, r1, r2_102, r3, r4_103) 74 [(0, .ref (ad 0)), (7, .ref b4), (9, .int r_95), (10, .int y10_99), (11, .int z_100)] []
        refine g_aload_n (pc' := 75) O ⟨dL_builds_74, rfl⟩ (q := 0) rfl rfl ?_
        refine g_iconst (pc' := 76) O ⟨dL_builds_75, rfl⟩ (v := (0 : Int32)) rfl ?_
        refine g_iload (pc' := 78) O ⟨dL_builds_76, rfl⟩ (q := 2) rfl ?_
        refine g_iload (pc' := 80) O ⟨dL_builds_78, rfl⟩ (q := 3) rfl ?_
        refine g_lconst (pc' := 81) O ⟨dL_builds_80, rfl⟩ (v := (0 : Int64)) rfl ?_
        obtain ⟨r_104, c_105, E⟩ := bd_of E
        refine g_HS (pc' := 84) O hN ⟨dL_builds_81, rfl⟩ (y := yL_calls) (As := [.ref (ad 0), .int (0 : Int32), .int r_95, .int y10_99, .long (0 : Int64)]) (st := []) (put := (fun g => (g, r0_101, r1, r2_102, r3, r4_103))) sub_X5_X (t_L_calls l D ad cy hfl c_105) kw_412 kw_24 kw_410 kw_411 hd_L_calls ⟨Nat.le_of_ble_eq_true rfl, Nat.le_of_ble_eq_true rfl⟩ ⟨Nat.le_of_ble_eq_true rfl, Nat.le_of_ble_eq_true rfl⟩ rfl (Nat.le_of_ble_eq_true rfl) ?_
        show G l D X 15 (WX5 ad cy 24 40 6 36 4 b0 b1 b2 b3 b4) 13 78 (r_104.2, r0_101, r1, r2_102, r3, r4_103) 84 [(0, .ref (ad 0)), (7, .ref b4), (9, .int r_95), (10, .int y10_99), (11, .int z_100)] [.int r_104.1]
        refine g_iload (pc' := 86) O ⟨dL_builds_84, rfl⟩ (q := 4) rfl ?_
        refine jn1_of (P := fun (z_106 : Int32) => G l D X 15 (WX5 ad cy 24 40 6 36 4 b0 b1 b2 b3 b4) 13 78 (r_104.2, r0_101, r1, r2_102, r3, r4_103) 101 [] [.int z_106, .int r_104.1]) E ?_ ?_
        · intro z_106 E
          show G l D X 15 (WX5 ad cy 24 40 6 36 4 b0 b1 b2 b3 b4) 13 78 (r_104.2, r0_101, r1, r2_102, r3, r4_103) 101 [] [.int z_106, .int r_104.1]
          refine g_icmp_ne (pc' := 104) O ⟨dL_builds_101, rfl⟩ E (tgt := 108) (by decide) (fun E => ?_) (fun E => ?_)
          · refine g_iconst (pc' := 109) O ⟨dL_builds_108, rfl⟩ (v := (0 : Int32)) rfl ?_
            obtain ⟨hn, E⟩ := ckz_of E
            cases E
            exact hret _ _ _ _ _ (Nat.le_of_ble_eq_true rfl) (Nat.le_of_ble_eq_true rfl) ⟨dL_builds_109, rfl⟩ hn
          · refine g_iconst (pc' := 105) O ⟨dL_builds_104, rfl⟩ (v := (1 : Int32)) rfl ?_
            refine g_goto (pc' := 108) O ⟨dL_builds_105, rfl⟩ (tgt := 109) (by decide) ?_
            obtain ⟨hn, E⟩ := ckz_of E
            cases E
            exact hret _ _ _ _ _ (Nat.le_of_ble_eq_true rfl) (Nat.le_of_ble_eq_true rfl) ⟨dL_builds_109, rfl⟩ hn
        · intro k101 hk101 E
          refine g_if_eq (pc' := 89) O ⟨dL_builds_86, rfl⟩ E (tgt := 98) (by decide) (fun E => ?_) (fun E => ?_)
          · refine g_sipush (pc' := 101) O ⟨dL_builds_98, rfl⟩ (v := (-1003 : Int32)) rfl ?_
            refine g_sub (lv' := []) [] rfl ?_
            exact hk101 _ E
          · refine g_aload (pc' := 91) O ⟨dL_builds_89, rfl⟩ (q := 1) rfl ?_
            refine g_iconst (pc' := 92) O ⟨dL_builds_91, rfl⟩ (v := (1 : Int32)) rfl ?_
            refine g_iald (pc' := 93) O ⟨dL_builds_92, rfl⟩ zX5_4 E (fun E => ?_)
            refine g_iconst (pc' := 94) O ⟨dL_builds_93, rfl⟩ (v := (1 : Int32)) rfl ?_
            refine g_isub (pc' := 95) O ⟨dL_builds_94, rfl⟩ ?_
            refine g_goto (pc' := 98) O ⟨dL_builds_95, rfl⟩ (tgt := 101) (by decide) ?_
            refine g_sub (lv' := []) [] rfl ?_
            exact hk101 _ E
      · intro k74 hk74 E
        refine g_if_eq (pc' := 59) O ⟨dL_builds_56, rfl⟩ E (tgt := 74) (by decide) (fun E => ?_) (fun E => ?_)
        · refine g_sub (lv' := [(0, .ref (ad 0)), (7, .ref b4), (9, .int r_95), (10, .int y10_99), (11, .int z_100)]) [1, 4, 5, 6, 0] rfl ?_
          exact hk74 _ _ _ E
        · refine g_iload (pc' := 61) O ⟨dL_builds_59, rfl⟩ (q := 5) rfl ?_
          refine g_iload (pc' := 63) O ⟨dL_builds_61, rfl⟩ (q := 6) rfl ?_
          refine g_aload_n (pc' := 64) O ⟨dL_builds_63, rfl⟩ (q := 2) rfl rfl ?_
          refine g_aload (pc' := 66) O ⟨dL_builds_64, rfl⟩ (q := 4) rfl ?_
          obtain ⟨r_107, c_108, E⟩ := bd_of E
          refine g_MSv (pc' := 69) O hN ⟨dL_builds_66, rfl⟩ (y := yL_puts) (As := [.int r_95, .int y10_99, .ref b0, .ref b4]) (st := []) (put := (fun g => (h, g.1, r1, r2, r3, g.2))) sub_X5_A0_4 (t_L_puts l D cy hfl b0 b4 c_108) kw_1037 kw_24 kw_1035 kw_1036 hd_L_puts ⟨Nat.le_of_ble_eq_true rfl, Nat.le_of_ble_eq_true rfl⟩ ⟨Nat.le_of_ble_eq_true rfl, Nat.le_of_ble_eq_true rfl⟩ rfl (Nat.le_of_ble_eq_true rfl) ?_
          show G l D X 15 (WX5 ad cy 24 40 6 36 4 b0 b1 b2 b3 b4) 0 0 (h, r_107.1, r1, r2, r3, r_107.2) 69 [(11, .int z_100), (0, .ref (ad 0)), (3, .ref b0), (5, .ref b2), (7, .ref b4), (9, .int r_95), (10, .int y10_99)] []
          refine g_aload (pc' := 71) O ⟨dL_builds_69, rfl⟩ (q := 3) rfl ?_
          obtain ⟨r_109, c_110, E⟩ := bd_of E
          refine g_MSv (pc' := 74) O hN ⟨dL_builds_71, rfl⟩ (y := yL_forgets) (As := [.ref b2]) (st := []) (put := (fun g => (h, r_107.1, r1, g, r3, r_107.2))) sub_X5_A2 (t_L_forgets l D cy hfl b2 c_110) kw_1031 kw_24 kw_1029 kw_1030 hd_L_forgets ⟨Nat.le_of_ble_eq_true rfl, Nat.le_of_ble_eq_true rfl⟩ ⟨Nat.le_of_ble_eq_true rfl, Nat.le_of_ble_eq_true rfl⟩ rfl (Nat.le_of_ble_eq_true rfl) ?_
          show G l D X 15 (WX5 ad cy 24 40 6 36 4 b0 b1 b2 b3 b4) 0 0 (h, r_107.1, r1, r_109, r3, r_107.2) 74 [(11, .int z_100), (0, .ref (ad 0)), (3, .ref b0), (5, .ref b2), (7, .ref b4), (9, .int r_95), (10, .int y10_99)] []
          refine g_sub (lv' := [(0, .ref (ad 0)), (7, .ref b4), (9, .int r_95), (10, .int y10_99), (11, .int z_100)]) [1, 4, 5, 6, 0] rfl ?_
          exact hk74 _ _ _ E
    · intro k52 hk52 E
      refine g_icmp_ge (pc' := 47) O ⟨dL_builds_44, rfl⟩ E (tgt := 51) (by decide) (fun E => ?_) (fun E => ?_)
      · refine g_iconst (pc' := 52) O ⟨dL_builds_51, rfl⟩ (v := (0 : Int32)) rfl ?_
        refine g_sub (lv' := [(0, .ref (ad 0)), (3, .ref b0), (5, .ref b2), (7, .ref b4), (9, .int r_95), (10, .int y10_99)]) [3, 6, 8, 10, 1, 0] rfl ?_
        exact hk52 _ E
      · refine g_iconst (pc' := 48) O ⟨dL_builds_47, rfl⟩ (v := (1 : Int32)) rfl ?_
        refine g_goto (pc' := 51) O ⟨dL_builds_48, rfl⟩ (tgt := 52) (by decide) ?_
        refine g_sub (lv' := [(0, .ref (ad 0)), (3, .ref b0), (5, .ref b2), (7, .ref b4), (9, .int r_95), (10, .int y10_99)]) [3, 6, 8, 10, 1, 0] rfl ?_
        exact hk52 _ E
set_option maxRecDepth 100000 in
set_option maxHeartbeats 4000000 in
theorem t_L_types (l : Launch) (D : va_G) (ad : Nat → Nat) (cy : Nat → ClassId) (hfl : l.stackTraces = false) (b0 : Nat) (b1 : Nat) {x1 : Int32} {h : Hp} {r0 : Row} {r1 : Row} {o : Int32 × Hp × Row × Row} (E : f_L_types x1 h r0 r1 = some o) : CtMI l D cy (WX2 ad cy 40 4 b0 b1) yL_types cL_types 10 .boolean 12 241 13 78 [.ref (ad 0), .int x1, .ref b0, .ref b1] (h, r0, r1) o.1 (o.2.1, o.2.2.1, o.2.2.2) := by
  refine sMI (own := RL) rfl rfl (Nat.le_of_ble_eq_true rfl) (fun X O hN hret => ?_)
  show G l D X 10 (WX2 ad cy 40 4 b0 b1) 0 0 (h, r0, r1) 0 [(0, .ref (ad 0)), (1, .int x1), (2, .ref b0), (3, .ref b1)] []
  unfold f_L_types at E
  refine g_iconst (pc' := 1) O ⟨dL_types_0, rfl⟩ (v := (1 : Int32)) rfl ?_
  refine g_iload_n (pc' := 2) O ⟨dL_types_1, rfl⟩ (q := 1) rfl rfl ?_
  refine g_bipush (pc' := 4) O ⟨dL_types_2, rfl⟩ (v := (8 : Int32)) rfl ?_
  obtain ⟨r_1, c_2, E⟩ := bd_of E
  refine g_MSi (pc' := 7) O hN ⟨dL_types_4, rfl⟩ (y := yL_low) (As := [.int x1, .int (8 : Int32)]) (st := [.int (1 : Int32)]) (put := (fun g => (h, r0, r1))) sub_X2_A (t_L_low l D cy hfl c_2) kw_408 kw_24 kw_406 kw_407 hd_L_low ⟨Nat.le_of_ble_eq_true rfl, Nat.le_of_ble_eq_true rfl⟩ ⟨Nat.le_of_ble_eq_true rfl, Nat.le_of_ble_eq_true rfl⟩ rfl (Nat.le_of_ble_eq_true rfl) ?_
  show G l D X 10 (WX2 ad cy 40 4 b0 b1) 0 0 (h, r0, r1) 7 [(0, .ref (ad 0)), (1, .int x1), (2, .ref b0), (3, .ref b1)] [.int r_1, .int (1 : Int32)]
  refine g_iadd (pc' := 8) O ⟨dL_types_7, rfl⟩ ?_
  refine g_nm E (fun y4_3 E => ?_)
  refine g_istore (pc' := 10) O ⟨dL_types_8, rfl⟩ (lv' := [(4, .int y4_3), (0, .ref (ad 0)), (1, .int x1), (2, .ref b0), (3, .ref b1)]) (by decide) rfl ?_
  refine g_lconst (pc' := 11) O ⟨dL_types_10, rfl⟩ (v := (0 : Int64)) rfl ?_
  refine g_lstore (pc' := 13) O ⟨dL_types_11, rfl⟩ (lv' := [(5, .long (0 : Int64)), (4, .int y4_3), (0, .ref (ad 0)), (1, .int x1), (2, .ref b0), (3, .ref b1)]) (by decide) rfl ?_
  refine g_iconst (pc' := 14) O ⟨dL_types_13, rfl⟩ (v := (0 : Int32)) rfl ?_
  refine g_istore (pc' := 16) O ⟨dL_types_14, rfl⟩ (lv' := [(7, .int (0 : Int32)), (5, .long (0 : Int64)), (4, .int y4_3), (0, .ref (ad 0)), (1, .int x1), (2, .ref b0), (3, .ref b1)]) (by decide) rfl ?_
  refine jn1_of (P := fun (x5_4 : Int64) => G l D X 10 (WX2 ad cy 40 4 b0 b1) 0 0 (h, r0, r1) 144 [(0, .ref (ad 0)), (2, .ref b0), (3, .ref b1), (4, .int y4_3), (5, .long x5_4)] []) E ?_ ?_
  · intro x5_4 E
    show G l D X 10 (WX2 ad cy 40 4 b0 b1) 0 0 (h, r0, r1) 144 [(0, .ref (ad 0)), (2, .ref b0), (3, .ref b1), (4, .int y4_3), (5, .long x5_4)] []
    refine g_aload_n (pc' := 145) O ⟨dL_types_144, rfl⟩ (q := 2) rfl rfl ?_
    refine g_iconst (pc' := 146) O ⟨dL_types_145, rfl⟩ (v := (2 : Int32)) rfl ?_
    refine g_iald (pc' := 147) O ⟨dL_types_146, rfl⟩ zX2_1 E (fun E => ?_)
    refine g_iload (pc' := 149) O ⟨dL_types_147, rfl⟩ (q := 3) rfl ?_
    refine g_iadd (pc' := 150) O ⟨dL_types_149, rfl⟩ ?_
    refine g_bipush (pc' := 152) O ⟨dL_types_150, rfl⟩ (v := (41 : Int32)) rfl ?_
    refine g_icmp_ge (pc' := 155) O ⟨dL_types_152, rfl⟩ E (tgt := 159) (by decide) (fun E => ?_) (fun E => ?_)
    · refine g_iconst (pc' := 160) O ⟨dL_types_159, rfl⟩ (v := (0 : Int32)) rfl ?_
      refine g_istore (pc' := 162) O ⟨dL_types_160, rfl⟩ (lv' := [(7, .int (0 : Int32)), (0, .ref (ad 0)), (2, .ref b0), (3, .ref b1), (4, .int y4_3), (5, .long x5_4)]) (by decide) rfl ?_
      refine g_iconst (pc' := 163) O ⟨dL_types_162, rfl⟩ (v := (0 : Int32)) rfl ?_
      refine g_istore (pc' := 165) O ⟨dL_types_163, rfl⟩ (lv' := [(8, .int (0 : Int32)), (7, .int (0 : Int32)), (0, .ref (ad 0)), (2, .ref b0), (3, .ref b1), (4, .int y4_3), (5, .long x5_4)]) (by decide) rfl ?_
      refine jn2_of (P := fun (r0_5 : Row) (r1_6 : Row) => G l D X 10 (WX2 ad cy 40 4 b0 b1) 0 0 (h, r0_5, r1_6) 208 [(0, .ref (ad 0)), (3, .ref b1), (4, .int y4_3), (5, .long x5_4), (7, .int (0 : Int32))] []) E ?_ ?_
      · intro r0_5 r1_6 E
        show G l D X 10 (WX2 ad cy 40 4 b0 b1) 0 0 (h, r0_5, r1_6) 208 [(0, .ref (ad 0)), (3, .ref b1), (4, .int y4_3), (5, .long x5_4), (7, .int (0 : Int32))] []
        refine g_aload_n (pc' := 209) O ⟨dL_types_208, rfl⟩ (q := 0) rfl rfl ?_
        refine g_iconst (pc' := 210) O ⟨dL_types_209, rfl⟩ (v := (3 : Int32)) rfl ?_
        refine g_iload (pc' := 212) O ⟨dL_types_210, rfl⟩ (q := 2) rfl ?_
        refine g_iconst (pc' := 213) O ⟨dL_types_212, rfl⟩ (v := (0 : Int32)) rfl ?_
        refine g_lload (pc' := 215) O ⟨dL_types_213, rfl⟩ (q := 3) rfl ?_
        obtain ⟨r_7, c_8, E⟩ := bd_of E
        refine g_HS (pc' := 218) O hN ⟨dL_types_215, rfl⟩ (y := yL_calls) (As := [.ref (ad 0), .int (3 : Int32), .int y4_3, .int (0 : Int32), .long x5_4]) (st := []) (put := (fun g => (g, r0_5, r1_6))) sub_X2_X (t_L_calls l D ad cy hfl c_8) kw_412 kw_24 kw_410 kw_411 hd_L_calls ⟨Nat.le_of_ble_eq_true rfl, Nat.le_of_ble_eq_true rfl⟩ ⟨Nat.le_of_ble_eq_true rfl, Nat.le_of_ble_eq_true rfl⟩ rfl (Nat.le_of_ble_eq_true rfl) ?_
        show G l D X 10 (WX2 ad cy 40 4 b0 b1) 13 78 (r_7.2, r0_5, r1_6) 218 [(0, .ref (ad 0)), (3, .ref b1), (4, .int y4_3), (5, .long x5_4), (7, .int (0 : Int32))] [.int r_7.1]
        refine g_iload (pc' := 220) O ⟨dL_types_218, rfl⟩ (q := 4) rfl ?_
        refine jn1_of (P := fun (z_9 : Int32) => G l D X 10 (WX2 ad cy 40 4 b0 b1) 13 78 (r_7.2, r0_5, r1_6) 232 [] [.int z_9, .int r_7.1]) E ?_ ?_
        · intro z_9 E
          show G l D X 10 (WX2 ad cy 40 4 b0 b1) 13 78 (r_7.2, r0_5, r1_6) 232 [] [.int z_9, .int r_7.1]
          refine g_icmp_ne (pc' := 235) O ⟨dL_types_232, rfl⟩ E (tgt := 239) (by decide) (fun E => ?_) (fun E => ?_)
          · refine g_iconst (pc' := 240) O ⟨dL_types_239, rfl⟩ (v := (0 : Int32)) rfl ?_
            obtain ⟨hn, E⟩ := ckz_of E
            cases E
            exact hret _ _ _ _ _ (Nat.le_of_ble_eq_true rfl) (Nat.le_of_ble_eq_true rfl) ⟨dL_types_240, rfl⟩ hn
          · refine g_iconst (pc' := 236) O ⟨dL_types_235, rfl⟩ (v := (1 : Int32)) rfl ?_
            refine g_goto (pc' := 239) O ⟨dL_types_236, rfl⟩ (tgt := 240) (by decide) ?_
            obtain ⟨hn, E⟩ := ckz_of E
            cases E
            exact hret _ _ _ _ _ (Nat.le_of_ble_eq_true rfl) (Nat.le_of_ble_eq_true rfl) ⟨dL_types_240, rfl⟩ hn
        · intro k232 hk232 E
          refine g_if_eq (pc' := 223) O ⟨dL_types_220, rfl⟩ E (tgt := 229) (by decide) (fun E => ?_) (fun E => ?_)
          · refine g_sipush (pc' := 232) O ⟨dL_types_229, rfl⟩ (v := (-1003 : Int32)) rfl ?_
            refine g_sub (lv' := []) [] rfl ?_
            exact hk232 _ E
          · refine g_aload_n (pc' := 224) O ⟨dL_types_223, rfl⟩ (q := 1) rfl rfl ?_
            refine g_iconst (pc' := 225) O ⟨dL_types_224, rfl⟩ (v := (2 : Int32)) rfl ?_
            refine g_iald (pc' := 226) O ⟨dL_types_225, rfl⟩ zX2_1 E (fun E => ?_)
            refine g_goto (pc' := 229) O ⟨dL_types_226, rfl⟩ (tgt := 232) (by decide) ?_
            refine g_sub (lv' := []) [] rfl ?_
            exact hk232 _ E
      · intro k208 hk208 E
        refine g_sub (lv' := [(0, .ref (ad 0)), (2, .ref b0), (3, .ref b1), (4, .int y4_3), (5, .long x5_4), (7, .int (0 : Int32)), (8, .int (0 : Int32))]) [2, 3, 4, 5, 6, 1, 0] rfl ?_
        refine fx3_of (P := fun (x8_10 : Int32) (r0_11 : Row) (r1_12 : Row) => G l D X 10 (WX2 ad cy 40 4 b0 b1) 0 0 (h, r0_11, r1_12) 165 [(0, .ref (ad 0)), (2, .ref b0), (3, .ref b1), (4, .int y4_3), (5, .long x5_4), (7, .int (0 : Int32)), (8, .int x8_10)] []) ?_ _ _ _ _ E
        intro self ih165 x8_10 r0_11 r1_12 E
        show G l D X 10 (WX2 ad cy 40 4 b0 b1) 0 0 (h, r0_11, r1_12) 165 [(0, .ref (ad 0)), (2, .ref b0), (3, .ref b1), (4, .int y4_3), (5, .long x5_4), (7, .int (0 : Int32)), (8, .int x8_10)] []
        unfold L_L_types_165 at E
        refine g_iload (pc' := 167) O ⟨dL_types_165, rfl⟩ (q := 6) rfl ?_
        refine g_iload (pc' := 169) O ⟨dL_types_167, rfl⟩ (q := 3) rfl ?_
        refine g_icmp_ge (pc' := 172) O ⟨dL_types_169, rfl⟩ E (tgt := 208) (by decide) (fun E => ?_) (fun E => ?_)
        · refine g_sub (lv' := [(0, .ref (ad 0)), (3, .ref b1), (4, .int y4_3), (5, .long x5_4), (7, .int (0 : Int32))]) [0, 2, 3, 4, 5] rfl ?_
          exact hk208 _ _ E
        · refine g_iload (pc' := 174) O ⟨dL_types_172, rfl⟩ (q := 5) rfl ?_
          refine g_if_eq (pc' := 177) O ⟨dL_types_174, rfl⟩ E (tgt := 208) (by decide) (fun E => ?_) (fun E => ?_)
          · refine g_sub (lv' := [(0, .ref (ad 0)), (3, .ref b1), (4, .int y4_3), (5, .long x5_4), (7, .int (0 : Int32))]) [0, 2, 3, 4, 5] rfl ?_
            exact hk208 _ _ E
          · refine g_aload_n (pc' := 178) O ⟨dL_types_177, rfl⟩ (q := 1) rfl rfl ?_
            refine g_aload_n (pc' := 179) O ⟨dL_types_178, rfl⟩ (q := 2) rfl rfl ?_
            refine g_iconst (pc' := 180) O ⟨dL_types_179, rfl⟩ (v := (2 : Int32)) rfl ?_
            refine g_iald (pc' := 181) O ⟨dL_types_180, rfl⟩ zX2_1 E (fun E => ?_)
            refine g_lload (pc' := 183) O ⟨dL_types_181, rfl⟩ (q := 4) rfl ?_
            refine g_bipush (pc' := 185) O ⟨dL_types_183, rfl⟩ (v := (8 : Int32)) rfl ?_
            refine g_iload (pc' := 187) O ⟨dL_types_185, rfl⟩ (q := 6) rfl ?_
            refine g_imul (pc' := 188) O ⟨dL_types_187, rfl⟩ ?_
            refine g_lshr (pc' := 189) O ⟨dL_types_188, rfl⟩ ?_
            refine g_ldc2 (pc' := 192) O ⟨dL_types_189, rfl⟩ kw_1084 ?_
            refine g_land (pc' := 193) O ⟨dL_types_192, rfl⟩ ?_
            refine g_l2i (pc' := 194) O ⟨dL_types_193, rfl⟩ ?_
            refine g_iast (pc' := 195) O ⟨dL_types_194, rfl⟩ zX2_0 zsX2_0 E (fun E => ?_)
            refine g_nmr (Go := fun (r0_13 : Row) => G l D X 10 (WX2 ad cy 40 4 b0 b1) 0 0 (h, r0_13, r1_12) 195 [(0, .ref (ad 0)), (2, .ref b0), (3, .ref b1), (4, .int y4_3), (5, .long x5_4), (7, .int (0 : Int32)), (8, .int x8_10)] []) E (fun r0_13 E => ?_)
            show G l D X 10 (WX2 ad cy 40 4 b0 b1) 0 0 (h, r0_13, r1_12) 195 [(0, .ref (ad 0)), (2, .ref b0), (3, .ref b1), (4, .int y4_3), (5, .long x5_4), (7, .int (0 : Int32)), (8, .int x8_10)] []
            refine g_aload_n (pc' := 196) O ⟨dL_types_195, rfl⟩ (q := 2) rfl rfl ?_
            refine g_iconst (pc' := 197) O ⟨dL_types_196, rfl⟩ (v := (2 : Int32)) rfl ?_
            refine g_dup2 (pc' := 198) O ⟨dL_types_197, rfl⟩ rfl rfl ?_
            refine g_iald (pc' := 199) O ⟨dL_types_198, rfl⟩ zX2_1 E (fun E => ?_)
            refine g_iconst (pc' := 200) O ⟨dL_types_199, rfl⟩ (v := (1 : Int32)) rfl ?_
            refine g_iadd (pc' := 201) O ⟨dL_types_200, rfl⟩ ?_
            refine g_iast (pc' := 202) O ⟨dL_types_201, rfl⟩ zX2_1 zsX2_1 E (fun E => ?_)
            refine g_nmr (Go := fun (r1_14 : Row) => G l D X 10 (WX2 ad cy 40 4 b0 b1) 0 0 (h, r0_13, r1_14) 202 [(0, .ref (ad 0)), (2, .ref b0), (3, .ref b1), (4, .int y4_3), (5, .long x5_4), (7, .int (0 : Int32)), (8, .int x8_10)] []) E (fun r1_14 E => ?_)
            show G l D X 10 (WX2 ad cy 40 4 b0 b1) 0 0 (h, r0_13, r1_14) 202 [(0, .ref (ad 0)), (2, .ref b0), (3, .ref b1), (4, .int y4_3), (5, .long x5_4), (7, .int (0 : Int32)), (8, .int x8_10)] []
            refine g_iinc (pc' := 205) O ⟨dL_types_202, rfl⟩ (q := 6) (v := x8_10 + (1 : Int32)) (lv' := [(8, .int (x8_10 + (1 : Int32))), (0, .ref (ad 0)), (2, .ref b0), (3, .ref b1), (4, .int y4_3), (5, .long x5_4), (7, .int (0 : Int32))]) rfl rfl (by decide) rfl ?_
            refine g_goto (pc' := 208) O ⟨dL_types_205, rfl⟩ (tgt := 165) (by decide) ?_
            refine g_sub (lv' := [(0, .ref (ad 0)), (2, .ref b0), (3, .ref b1), (4, .int y4_3), (5, .long x5_4), (7, .int (0 : Int32)), (8, .int (x8_10 + (1 : Int32)))]) [1, 2, 3, 4, 5, 6, 0] rfl ?_
            exact ih165 _ _ _ E
    · refine g_iconst (pc' := 156) O ⟨dL_types_155, rfl⟩ (v := (1 : Int32)) rfl ?_
      refine g_goto (pc' := 159) O ⟨dL_types_156, rfl⟩ (tgt := 160) (by decide) ?_
      refine g_istore (pc' := 162) O ⟨dL_types_160, rfl⟩ (lv' := [(7, .int (1 : Int32)), (0, .ref (ad 0)), (2, .ref b0), (3, .ref b1), (4, .int y4_3), (5, .long x5_4)]) (by decide) rfl ?_
      refine g_iconst (pc' := 163) O ⟨dL_types_162, rfl⟩ (v := (0 : Int32)) rfl ?_
      refine g_istore (pc' := 165) O ⟨dL_types_163, rfl⟩ (lv' := [(8, .int (0 : Int32)), (7, .int (1 : Int32)), (0, .ref (ad 0)), (2, .ref b0), (3, .ref b1), (4, .int y4_3), (5, .long x5_4)]) (by decide) rfl ?_
      refine jn2_of (P := fun (r0_15 : Row) (r1_16 : Row) => G l D X 10 (WX2 ad cy 40 4 b0 b1) 0 0 (h, r0_15, r1_16) 208 [(0, .ref (ad 0)), (3, .ref b1), (4, .int y4_3), (5, .long x5_4), (7, .int (1 : Int32))] []) E ?_ ?_
      · intro r0_15 r1_16 E
        show G l D X 10 (WX2 ad cy 40 4 b0 b1) 0 0 (h, r0_15, r1_16) 208 [(0, .ref (ad 0)), (3, .ref b1), (4, .int y4_3), (5, .long x5_4), (7, .int (1 : Int32))] []
        refine g_aload_n (pc' := 209) O ⟨dL_types_208, rfl⟩ (q := 0) rfl rfl ?_
        refine g_iconst (pc' := 210) O ⟨dL_types_209, rfl⟩ (v := (3 : Int32)) rfl ?_
        refine g_iload (pc' := 212) O ⟨dL_types_210, rfl⟩ (q := 2) rfl ?_
        refine g_iconst (pc' := 213) O ⟨dL_types_212, rfl⟩ (v := (0 : Int32)) rfl ?_
        refine g_lload (pc' := 215) O ⟨dL_types_213, rfl⟩ (q := 3) rfl ?_
        obtain ⟨r_17, c_18, E⟩ := bd_of E
        refine g_HS (pc' := 218) O hN ⟨dL_types_215, rfl⟩ (y := yL_calls) (As := [.ref (ad 0), .int (3 : Int32), .int y4_3, .int (0 : Int32), .long x5_4]) (st := []) (put := (fun g => (g, r0_15, r1_16))) sub_X2_X (t_L_calls l D ad cy hfl c_18) kw_412 kw_24 kw_410 kw_411 hd_L_calls ⟨Nat.le_of_ble_eq_true rfl, Nat.le_of_ble_eq_true rfl⟩ ⟨Nat.le_of_ble_eq_true rfl, Nat.le_of_ble_eq_true rfl⟩ rfl (Nat.le_of_ble_eq_true rfl) ?_
        show G l D X 10 (WX2 ad cy 40 4 b0 b1) 13 78 (r_17.2, r0_15, r1_16) 218 [(0, .ref (ad 0)), (3, .ref b1), (4, .int y4_3), (5, .long x5_4), (7, .int (1 : Int32))] [.int r_17.1]
        refine g_iload (pc' := 220) O ⟨dL_types_218, rfl⟩ (q := 4) rfl ?_
        refine jn1_of (P := fun (z_19 : Int32) => G l D X 10 (WX2 ad cy 40 4 b0 b1) 13 78 (r_17.2, r0_15, r1_16) 232 [] [.int z_19, .int r_17.1]) E ?_ ?_
        · intro z_19 E
          show G l D X 10 (WX2 ad cy 40 4 b0 b1) 13 78 (r_17.2, r0_15, r1_16) 232 [] [.int z_19, .int r_17.1]
          refine g_icmp_ne (pc' := 235) O ⟨dL_types_232, rfl⟩ E (tgt := 239) (by decide) (fun E => ?_) (fun E => ?_)
          · refine g_iconst (pc' := 240) O ⟨dL_types_239, rfl⟩ (v := (0 : Int32)) rfl ?_
            obtain ⟨hn, E⟩ := ckz_of E
            cases E
            exact hret _ _ _ _ _ (Nat.le_of_ble_eq_true rfl) (Nat.le_of_ble_eq_true rfl) ⟨dL_types_240, rfl⟩ hn
          · refine g_iconst (pc' := 236) O ⟨dL_types_235, rfl⟩ (v := (1 : Int32)) rfl ?_
            refine g_goto (pc' := 239) O ⟨dL_types_236, rfl⟩ (tgt := 240) (by decide) ?_
            obtain ⟨hn, E⟩ := ckz_of E
            cases E
            exact hret _ _ _ _ _ (Nat.le_of_ble_eq_true rfl) (Nat.le_of_ble_eq_true rfl) ⟨dL_types_240, rfl⟩ hn
        · intro k232 hk232 E
          refine g_if_eq (pc' := 223) O ⟨dL_types_220, rfl⟩ E (tgt := 229) (by decide) (fun E => ?_) (fun E => ?_)
          · refine g_sipush (pc' := 232) O ⟨dL_types_229, rfl⟩ (v := (-1003 : Int32)) rfl ?_
            refine g_sub (lv' := []) [] rfl ?_
            exact hk232 _ E
          · refine g_aload_n (pc' := 224) O ⟨dL_types_223, rfl⟩ (q := 1) rfl rfl ?_
            refine g_iconst (pc' := 225) O ⟨dL_types_224, rfl⟩ (v := (2 : Int32)) rfl ?_
            refine g_iald (pc' := 226) O ⟨dL_types_225, rfl⟩ zX2_1 E (fun E => ?_)
            refine g_goto (pc' := 229) O ⟨dL_types_226, rfl⟩ (tgt := 232) (by decide) ?_
            refine g_sub (lv' := []) [] rfl ?_
            exact hk232 _ E
      · intro k208 hk208 E
        refine g_sub (lv' := [(0, .ref (ad 0)), (2, .ref b0), (3, .ref b1), (4, .int y4_3), (5, .long x5_4), (7, .int (1 : Int32)), (8, .int (0 : Int32))]) [2, 3, 4, 5, 6, 1, 0] rfl ?_
        refine fx3_of (P := fun (x8_20 : Int32) (r0_21 : Row) (r1_22 : Row) => G l D X 10 (WX2 ad cy 40 4 b0 b1) 0 0 (h, r0_21, r1_22) 165 [(0, .ref (ad 0)), (2, .ref b0), (3, .ref b1), (4, .int y4_3), (5, .long x5_4), (7, .int (1 : Int32)), (8, .int x8_20)] []) ?_ _ _ _ _ E
        intro self ih165 x8_20 r0_21 r1_22 E
        show G l D X 10 (WX2 ad cy 40 4 b0 b1) 0 0 (h, r0_21, r1_22) 165 [(0, .ref (ad 0)), (2, .ref b0), (3, .ref b1), (4, .int y4_3), (5, .long x5_4), (7, .int (1 : Int32)), (8, .int x8_20)] []
        unfold L_L_types_165 at E
        refine g_iload (pc' := 167) O ⟨dL_types_165, rfl⟩ (q := 6) rfl ?_
        refine g_iload (pc' := 169) O ⟨dL_types_167, rfl⟩ (q := 3) rfl ?_
        refine g_icmp_ge (pc' := 172) O ⟨dL_types_169, rfl⟩ E (tgt := 208) (by decide) (fun E => ?_) (fun E => ?_)
        · refine g_sub (lv' := [(0, .ref (ad 0)), (3, .ref b1), (4, .int y4_3), (5, .long x5_4), (7, .int (1 : Int32))]) [0, 2, 3, 4, 5] rfl ?_
          exact hk208 _ _ E
        · refine g_iload (pc' := 174) O ⟨dL_types_172, rfl⟩ (q := 5) rfl ?_
          refine g_if_eq (pc' := 177) O ⟨dL_types_174, rfl⟩ E (tgt := 208) (by decide) (fun E => ?_) (fun E => ?_)
          · refine g_sub (lv' := [(0, .ref (ad 0)), (3, .ref b1), (4, .int y4_3), (5, .long x5_4), (7, .int (1 : Int32))]) [0, 2, 3, 4, 5] rfl ?_
            exact hk208 _ _ E
          · refine g_aload_n (pc' := 178) O ⟨dL_types_177, rfl⟩ (q := 1) rfl rfl ?_
            refine g_aload_n (pc' := 179) O ⟨dL_types_178, rfl⟩ (q := 2) rfl rfl ?_
            refine g_iconst (pc' := 180) O ⟨dL_types_179, rfl⟩ (v := (2 : Int32)) rfl ?_
            refine g_iald (pc' := 181) O ⟨dL_types_180, rfl⟩ zX2_1 E (fun E => ?_)
            refine g_lload (pc' := 183) O ⟨dL_types_181, rfl⟩ (q := 4) rfl ?_
            refine g_bipush (pc' := 185) O ⟨dL_types_183, rfl⟩ (v := (8 : Int32)) rfl ?_
            refine g_iload (pc' := 187) O ⟨dL_types_185, rfl⟩ (q := 6) rfl ?_
            refine g_imul (pc' := 188) O ⟨dL_types_187, rfl⟩ ?_
            refine g_lshr (pc' := 189) O ⟨dL_types_188, rfl⟩ ?_
            refine g_ldc2 (pc' := 192) O ⟨dL_types_189, rfl⟩ kw_1084 ?_
            refine g_land (pc' := 193) O ⟨dL_types_192, rfl⟩ ?_
            refine g_l2i (pc' := 194) O ⟨dL_types_193, rfl⟩ ?_
            refine g_iast (pc' := 195) O ⟨dL_types_194, rfl⟩ zX2_0 zsX2_0 E (fun E => ?_)
            refine g_nmr (Go := fun (r0_23 : Row) => G l D X 10 (WX2 ad cy 40 4 b0 b1) 0 0 (h, r0_23, r1_22) 195 [(0, .ref (ad 0)), (2, .ref b0), (3, .ref b1), (4, .int y4_3), (5, .long x5_4), (7, .int (1 : Int32)), (8, .int x8_20)] []) E (fun r0_23 E => ?_)
            show G l D X 10 (WX2 ad cy 40 4 b0 b1) 0 0 (h, r0_23, r1_22) 195 [(0, .ref (ad 0)), (2, .ref b0), (3, .ref b1), (4, .int y4_3), (5, .long x5_4), (7, .int (1 : Int32)), (8, .int x8_20)] []
            refine g_aload_n (pc' := 196) O ⟨dL_types_195, rfl⟩ (q := 2) rfl rfl ?_
            refine g_iconst (pc' := 197) O ⟨dL_types_196, rfl⟩ (v := (2 : Int32)) rfl ?_
            refine g_dup2 (pc' := 198) O ⟨dL_types_197, rfl⟩ rfl rfl ?_
            refine g_iald (pc' := 199) O ⟨dL_types_198, rfl⟩ zX2_1 E (fun E => ?_)
            refine g_iconst (pc' := 200) O ⟨dL_types_199, rfl⟩ (v := (1 : Int32)) rfl ?_
            refine g_iadd (pc' := 201) O ⟨dL_types_200, rfl⟩ ?_
            refine g_iast (pc' := 202) O ⟨dL_types_201, rfl⟩ zX2_1 zsX2_1 E (fun E => ?_)
            refine g_nmr (Go := fun (r1_24 : Row) => G l D X 10 (WX2 ad cy 40 4 b0 b1) 0 0 (h, r0_23, r1_24) 202 [(0, .ref (ad 0)), (2, .ref b0), (3, .ref b1), (4, .int y4_3), (5, .long x5_4), (7, .int (1 : Int32)), (8, .int x8_20)] []) E (fun r1_24 E => ?_)
            show G l D X 10 (WX2 ad cy 40 4 b0 b1) 0 0 (h, r0_23, r1_24) 202 [(0, .ref (ad 0)), (2, .ref b0), (3, .ref b1), (4, .int y4_3), (5, .long x5_4), (7, .int (1 : Int32)), (8, .int x8_20)] []
            refine g_iinc (pc' := 205) O ⟨dL_types_202, rfl⟩ (q := 6) (v := x8_20 + (1 : Int32)) (lv' := [(8, .int (x8_20 + (1 : Int32))), (0, .ref (ad 0)), (2, .ref b0), (3, .ref b1), (4, .int y4_3), (5, .long x5_4), (7, .int (1 : Int32))]) rfl rfl (by decide) rfl ?_
            refine g_goto (pc' := 208) O ⟨dL_types_205, rfl⟩ (tgt := 165) (by decide) ?_
            refine g_sub (lv' := [(0, .ref (ad 0)), (2, .ref b0), (3, .ref b1), (4, .int y4_3), (5, .long x5_4), (7, .int (1 : Int32)), (8, .int (x8_20 + (1 : Int32)))]) [1, 2, 3, 4, 5, 6, 0] rfl ?_
            exact ih165 _ _ _ E
  · intro k144 hk144 E
    refine g_sub (lv' := [(0, .ref (ad 0)), (1, .int x1), (2, .ref b0), (3, .ref b1), (4, .int y4_3), (5, .long (0 : Int64)), (7, .int (0 : Int32))]) [3, 4, 5, 6, 2, 1, 0] rfl ?_
    refine fx2_of (P := fun (x5_25 : Int64) (x7_26 : Int32) => G l D X 10 (WX2 ad cy 40 4 b0 b1) 0 0 (h, r0, r1) 16 [(0, .ref (ad 0)), (1, .int x1), (2, .ref b0), (3, .ref b1), (4, .int y4_3), (5, .long x5_25), (7, .int x7_26)] []) ?_ _ _ _ E
    intro self ih16 x5_25 x7_26 E
    show G l D X 10 (WX2 ad cy 40 4 b0 b1) 0 0 (h, r0, r1) 16 [(0, .ref (ad 0)), (1, .int x1), (2, .ref b0), (3, .ref b1), (4, .int y4_3), (5, .long x5_25), (7, .int x7_26)] []
    unfold L_L_types_16 at E
    refine g_iload (pc' := 18) O ⟨dL_types_16, rfl⟩ (q := 6) rfl ?_
    refine g_iload (pc' := 20) O ⟨dL_types_18, rfl⟩ (q := 4) rfl ?_
    refine g_icmp_ge (pc' := 23) O ⟨dL_types_20, rfl⟩ E (tgt := 144) (by decide) (fun E => ?_) (fun E => ?_)
    · refine g_sub (lv' := [(0, .ref (ad 0)), (2, .ref b0), (3, .ref b1), (4, .int y4_3), (5, .long x5_25)]) [0, 2, 3, 4, 5] rfl ?_
      exact hk144 _ E
    · refine g_aload_n (pc' := 24) O ⟨dL_types_23, rfl⟩ (q := 3) rfl rfl ?_
      refine g_iconst (pc' := 25) O ⟨dL_types_24, rfl⟩ (v := (2 : Int32)) rfl ?_
      refine g_iald (pc' := 26) O ⟨dL_types_25, rfl⟩ zX2_1 E (fun E => ?_)
      refine g_iload (pc' := 28) O ⟨dL_types_26, rfl⟩ (q := 6) rfl ?_
      refine g_iadd (pc' := 29) O ⟨dL_types_28, rfl⟩ ?_
      refine g_iconst (pc' := 30) O ⟨dL_types_29, rfl⟩ (v := (4 : Int32)) rfl ?_
      refine g_irem (pc' := 31) O ⟨dL_types_30, rfl⟩ (by decide) ?_
      refine g_nm E (fun y8_27 E => ?_)
      refine g_istore (pc' := 33) O ⟨dL_types_31, rfl⟩ (lv' := [(8, .int y8_27), (0, .ref (ad 0)), (1, .int x1), (2, .ref b0), (3, .ref b1), (4, .int y4_3), (5, .long x5_25), (7, .int x7_26)]) (by decide) rfl ?_
      refine g_iload_n (pc' := 34) O ⟨dL_types_33, rfl⟩ (q := 2) rfl rfl ?_
      refine g_iload (pc' := 36) O ⟨dL_types_34, rfl⟩ (q := 7) rfl ?_
      refine g_iconst (pc' := 37) O ⟨dL_types_36, rfl⟩ (v := (2 : Int32)) rfl ?_
      refine g_iadd (pc' := 38) O ⟨dL_types_37, rfl⟩ ?_
      refine g_ishr (pc' := 39) O ⟨dL_types_38, rfl⟩ ?_
      refine g_bipush (pc' := 41) O ⟨dL_types_39, rfl⟩ (v := (17 : Int32)) rfl ?_
      obtain ⟨r_28, c_29, E⟩ := bd_of E
      refine g_MSi (pc' := 44) O hN ⟨dL_types_41, rfl⟩ (y := yL_low) (As := [.int (ishr x1 (x7_26 + (2 : Int32))), .int (17 : Int32)]) (st := []) (put := (fun g => (h, r0, r1))) sub_X2_A (t_L_low l D cy hfl c_29) kw_408 kw_24 kw_406 kw_407 hd_L_low ⟨Nat.le_of_ble_eq_true rfl, Nat.le_of_ble_eq_true rfl⟩ ⟨Nat.le_of_ble_eq_true rfl, Nat.le_of_ble_eq_true rfl⟩ rfl (Nat.le_of_ble_eq_true rfl) ?_
      show G l D X 10 (WX2 ad cy 40 4 b0 b1) 0 0 (h, r0, r1) 44 [(8, .int y8_27), (0, .ref (ad 0)), (1, .int x1), (2, .ref b0), (3, .ref b1), (4, .int y4_3), (5, .long x5_25), (7, .int x7_26)] [.int r_28]
      refine jn1_of (P := fun (z_30 : Int32) => G l D X 10 (WX2 ad cy 40 4 b0 b1) 0 0 (h, r0, r1) 122 [(0, .ref (ad 0)), (1, .int x1), (2, .ref b0), (3, .ref b1), (4, .int y4_3), (5, .long x5_25), (7, .int x7_26)] [.int z_30]) E ?_ ?_
      · intro z_30 E
        show G l D X 10 (WX2 ad cy 40 4 b0 b1) 0 0 (h, r0, r1) 122 [(0, .ref (ad 0)), (1, .int x1), (2, .ref b0), (3, .ref b1), (4, .int y4_3), (5, .long x5_25), (7, .int x7_26)] [.int z_30]
        refine g_istore (pc' := 124) O ⟨dL_types_122, rfl⟩ (lv' := [(9, .int z_30), (0, .ref (ad 0)), (1, .int x1), (2, .ref b0), (3, .ref b1), (4, .int y4_3), (5, .long x5_25), (7, .int x7_26)]) (by decide) rfl ?_
        refine g_lload (pc' := 126) O ⟨dL_types_124, rfl⟩ (q := 6) rfl ?_
        refine g_iload (pc' := 128) O ⟨dL_types_126, rfl⟩ (q := 0) rfl ?_
        refine g_i2l (pc' := 129) O ⟨dL_types_128, rfl⟩ ?_
        refine g_bipush (pc' := 131) O ⟨dL_types_129, rfl⟩ (v := (8 : Int32)) rfl ?_
        refine g_iload (pc' := 133) O ⟨dL_types_131, rfl⟩ (q := 7) rfl ?_
        refine g_imul (pc' := 134) O ⟨dL_types_133, rfl⟩ ?_
        refine g_lshl (pc' := 135) O ⟨dL_types_134, rfl⟩ ?_
        refine g_lor (pc' := 136) O ⟨dL_types_135, rfl⟩ ?_
        refine g_nmL E (fun y5_31 E => ?_)
        refine g_lstore (pc' := 138) O ⟨dL_types_136, rfl⟩ (lv' := [(5, .long y5_31), (9, .int z_30), (0, .ref (ad 0)), (1, .int x1), (2, .ref b0), (3, .ref b1), (4, .int y4_3), (7, .int x7_26)]) (by decide) rfl ?_
        refine g_iinc (pc' := 141) O ⟨dL_types_138, rfl⟩ (q := 7) (v := x7_26 + (1 : Int32)) (lv' := [(7, .int (x7_26 + (1 : Int32))), (5, .long y5_31), (9, .int z_30), (0, .ref (ad 0)), (1, .int x1), (2, .ref b0), (3, .ref b1), (4, .int y4_3)]) rfl rfl (by decide) rfl ?_
        refine g_goto (pc' := 144) O ⟨dL_types_141, rfl⟩ (tgt := 16) (by decide) ?_
        refine g_sub (lv' := [(0, .ref (ad 0)), (1, .int x1), (2, .ref b0), (3, .ref b1), (4, .int y4_3), (5, .long y5_31), (7, .int (x7_26 + (1 : Int32)))]) [3, 4, 5, 6, 7, 1, 0] rfl ?_
        exact ih16 _ _ E
      · intro k122 hk122 E
        refine g_if_ne (pc' := 47) O ⟨dL_types_44, rfl⟩ E (tgt := 52) (by decide) (fun E => ?_) (fun E => ?_)
        · refine g_iload (pc' := 54) O ⟨dL_types_52, rfl⟩ (q := 0) rfl ?_
          refine g_iconst (pc' := 55) O ⟨dL_types_54, rfl⟩ (v := (1 : Int32)) rfl ?_
          refine g_icmp_ne (pc' := 58) O ⟨dL_types_55, rfl⟩ E (tgt := 63) (by decide) (fun E => ?_) (fun E => ?_)
          · refine g_iload (pc' := 65) O ⟨dL_types_63, rfl⟩ (q := 0) rfl ?_
            refine g_iconst (pc' := 66) O ⟨dL_types_65, rfl⟩ (v := (3 : Int32)) rfl ?_
            refine g_icmp_ne (pc' := 69) O ⟨dL_types_66, rfl⟩ E (tgt := 92) (by decide) (fun E => ?_) (fun E => ?_)
            · refine g_bipush (pc' := 94) O ⟨dL_types_92, rfl⟩ (v := (48 : Int32)) rfl ?_
              refine g_iload_n (pc' := 95) O ⟨dL_types_94, rfl⟩ (q := 2) rfl rfl ?_
              refine g_iload (pc' := 97) O ⟨dL_types_95, rfl⟩ (q := 7) rfl ?_
              refine g_iconst (pc' := 98) O ⟨dL_types_97, rfl⟩ (v := (3 : Int32)) rfl ?_
              refine g_iadd (pc' := 99) O ⟨dL_types_98, rfl⟩ ?_
              refine g_ishr (pc' := 100) O ⟨dL_types_99, rfl⟩ ?_
              refine g_aload_n (pc' := 101) O ⟨dL_types_100, rfl⟩ (q := 4) rfl rfl ?_
              refine g_iconst (pc' := 102) O ⟨dL_types_101, rfl⟩ (v := (0 : Int32)) rfl ?_
              refine g_iald (pc' := 103) O ⟨dL_types_102, rfl⟩ zX2_1 E (fun E => ?_)
              refine g_iload_n (pc' := 104) O ⟨dL_types_103, rfl⟩ (q := 2) rfl rfl ?_
              refine g_bipush (pc' := 106) O ⟨dL_types_104, rfl⟩ (v := (9 : Int32)) rfl ?_
              obtain ⟨r_32, c_33, E⟩ := bd_of E
              refine g_MSi (pc' := 109) O hN ⟨dL_types_106, rfl⟩ (y := yL_low) (As := [.int x1, .int (9 : Int32)]) (st := [.int (r1 (0 : Int32).toNatClampNeg), .int (ishr x1 (x7_26 + (3 : Int32))), .int (48 : Int32)]) (put := (fun g => (h, r0, r1))) sub_X2_A (t_L_low l D cy hfl c_33) kw_408 kw_24 kw_406 kw_407 hd_L_low ⟨Nat.le_of_ble_eq_true rfl, Nat.le_of_ble_eq_true rfl⟩ ⟨Nat.le_of_ble_eq_true rfl, Nat.le_of_ble_eq_true rfl⟩ rfl (Nat.le_of_ble_eq_true rfl) ?_
              show G l D X 10 (WX2 ad cy 40 4 b0 b1) 0 0 (h, r0, r1) 109 [(8, .int y8_27), (0, .ref (ad 0)), (1, .int x1), (2, .ref b0), (3, .ref b1), (4, .int y4_3), (5, .long x5_25), (7, .int x7_26)] [.int r_32, .int (r1 (0 : Int32).toNatClampNeg), .int (ishr x1 (x7_26 + (3 : Int32))), .int (48 : Int32)]
              refine jn1_of (P := fun (z_34 : Int32) => G l D X 10 (WX2 ad cy 40 4 b0 b1) 0 0 (h, r0, r1) 117 [(0, .ref (ad 0)), (1, .int x1), (2, .ref b0), (3, .ref b1), (4, .int y4_3), (5, .long x5_25), (7, .int x7_26)] [.int z_34, .int (r1 (0 : Int32).toNatClampNeg), .int (ishr x1 (x7_26 + (3 : Int32))), .int (48 : Int32)]) E ?_ ?_
              · intro z_34 E
                show G l D X 10 (WX2 ad cy 40 4 b0 b1) 0 0 (h, r0, r1) 117 [(0, .ref (ad 0)), (1, .int x1), (2, .ref b0), (3, .ref b1), (4, .int y4_3), (5, .long x5_25), (7, .int x7_26)] [.int z_34, .int (r1 (0 : Int32).toNatClampNeg), .int (ishr x1 (x7_26 + (3 : Int32))), .int (48 : Int32)]
                refine g_iadd (pc' := 118) O ⟨dL_types_117, rfl⟩ ?_
                obtain ⟨r_35, c_36, E⟩ := bd_of E
                refine g_MSi (pc' := 121) O hN ⟨dL_types_118, rfl⟩ (y := yL_low) (As := [.int (ishr x1 (x7_26 + (3 : Int32))), .int ((r1 (0 : Int32).toNatClampNeg) + z_34)]) (st := [.int (48 : Int32)]) (put := (fun g => (h, r0, r1))) sub_X2_A (t_L_low l D cy hfl c_36) kw_408 kw_24 kw_406 kw_407 hd_L_low ⟨Nat.le_of_ble_eq_true rfl, Nat.le_of_ble_eq_true rfl⟩ ⟨Nat.le_of_ble_eq_true rfl, Nat.le_of_ble_eq_true rfl⟩ rfl (Nat.le_of_ble_eq_true rfl) ?_
                show G l D X 10 (WX2 ad cy 40 4 b0 b1) 0 0 (h, r0, r1) 121 [(0, .ref (ad 0)), (1, .int x1), (2, .ref b0), (3, .ref b1), (4, .int y4_3), (5, .long x5_25), (7, .int x7_26)] [.int r_35, .int (48 : Int32)]
                refine g_iadd (pc' := 122) O ⟨dL_types_121, rfl⟩ ?_
                exact hk122 _ E
              · intro k117 hk117 E
                refine g_if_ne (pc' := 112) O ⟨dL_types_109, rfl⟩ E (tgt := 116) (by decide) (fun E => ?_) (fun E => ?_)
                · refine g_iconst (pc' := 117) O ⟨dL_types_116, rfl⟩ (v := (0 : Int32)) rfl ?_
                  refine g_sub (lv' := [(0, .ref (ad 0)), (1, .int x1), (2, .ref b0), (3, .ref b1), (4, .int y4_3), (5, .long x5_25), (7, .int x7_26)]) [1, 2, 3, 4, 5, 6, 7] rfl ?_
                  exact hk117 _ E
                · refine g_iconst (pc' := 113) O ⟨dL_types_112, rfl⟩ (v := (1 : Int32)) rfl ?_
                  refine g_goto (pc' := 116) O ⟨dL_types_113, rfl⟩ (tgt := 117) (by decide) ?_
                  refine g_sub (lv' := [(0, .ref (ad 0)), (1, .int x1), (2, .ref b0), (3, .ref b1), (4, .int y4_3), (5, .long x5_25), (7, .int x7_26)]) [1, 2, 3, 4, 5, 6, 7] rfl ?_
                  exact hk117 _ E
            · refine g_iload_n (pc' := 70) O ⟨dL_types_69, rfl⟩ (q := 2) rfl rfl ?_
              refine g_iload (pc' := 72) O ⟨dL_types_70, rfl⟩ (q := 7) rfl ?_
              refine g_iconst (pc' := 73) O ⟨dL_types_72, rfl⟩ (v := (1 : Int32)) rfl ?_
              refine g_iadd (pc' := 74) O ⟨dL_types_73, rfl⟩ ?_
              refine g_ishr (pc' := 75) O ⟨dL_types_74, rfl⟩ ?_
              refine g_iconst (pc' := 76) O ⟨dL_types_75, rfl⟩ (v := (3 : Int32)) rfl ?_
              obtain ⟨r_37, c_38, E⟩ := bd_of E
              refine g_MSi (pc' := 79) O hN ⟨dL_types_76, rfl⟩ (y := yL_low) (As := [.int (ishr x1 (x7_26 + (1 : Int32))), .int (3 : Int32)]) (st := []) (put := (fun g => (h, r0, r1))) sub_X2_A (t_L_low l D cy hfl c_38) kw_408 kw_24 kw_406 kw_407 hd_L_low ⟨Nat.le_of_ble_eq_true rfl, Nat.le_of_ble_eq_true rfl⟩ ⟨Nat.le_of_ble_eq_true rfl, Nat.le_of_ble_eq_true rfl⟩ rfl (Nat.le_of_ble_eq_true rfl) ?_
              show G l D X 10 (WX2 ad cy 40 4 b0 b1) 0 0 (h, r0, r1) 79 [(8, .int y8_27), (0, .ref (ad 0)), (1, .int x1), (2, .ref b0), (3, .ref b1), (4, .int y4_3), (5, .long x5_25), (7, .int x7_26)] [.int r_37]
              refine g_if_ne (pc' := 82) O ⟨dL_types_79, rfl⟩ E (tgt := 87) (by decide) (fun E => ?_) (fun E => ?_)
              · refine g_bipush (pc' := 89) O ⟨dL_types_87, rfl⟩ (v := (47 : Int32)) rfl ?_
                refine g_goto (pc' := 92) O ⟨dL_types_89, rfl⟩ (tgt := 122) (by decide) ?_
                refine g_sub (lv' := [(0, .ref (ad 0)), (1, .int x1), (2, .ref b0), (3, .ref b1), (4, .int y4_3), (5, .long x5_25), (7, .int x7_26)]) [1, 2, 3, 4, 5, 6, 7] rfl ?_
                exact hk122 _ E
              · refine g_bipush (pc' := 84) O ⟨dL_types_82, rfl⟩ (v := (32 : Int32)) rfl ?_
                refine g_goto (pc' := 87) O ⟨dL_types_84, rfl⟩ (tgt := 122) (by decide) ?_
                refine g_sub (lv' := [(0, .ref (ad 0)), (1, .int x1), (2, .ref b0), (3, .ref b1), (4, .int y4_3), (5, .long x5_25), (7, .int x7_26)]) [1, 2, 3, 4, 5, 6, 7] rfl ?_
                exact hk122 _ E
          · refine g_bipush (pc' := 60) O ⟨dL_types_58, rfl⟩ (v := (58 : Int32)) rfl ?_
            refine g_goto (pc' := 63) O ⟨dL_types_60, rfl⟩ (tgt := 122) (by decide) ?_
            refine g_sub (lv' := [(0, .ref (ad 0)), (1, .int x1), (2, .ref b0), (3, .ref b1), (4, .int y4_3), (5, .long x5_25), (7, .int x7_26)]) [1, 2, 3, 4, 5, 6, 7] rfl ?_
            exact hk122 _ E
        · refine g_bipush (pc' := 49) O ⟨dL_types_47, rfl⟩ (v := (47 : Int32)) rfl ?_
          refine g_goto (pc' := 52) O ⟨dL_types_49, rfl⟩ (tgt := 122) (by decide) ?_
          refine g_sub (lv' := [(0, .ref (ad 0)), (1, .int x1), (2, .ref b0), (3, .ref b1), (4, .int y4_3), (5, .long x5_25), (7, .int x7_26)]) [1, 2, 3, 4, 5, 6, 7] rfl ?_
          exact hk122 _ E
