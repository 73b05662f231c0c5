/-! WALKS, laid by program: each method does what its pure program says -/
set_option maxRecDepth 100000 in
set_option maxHeartbeats 4000000 in
theorem t_L_low (l : Launch) (D : va_G) (cy : Nat → ClassId) (hfl : l.stackTraces = false) {x0 : Int32} {x1 : Int32}  {o : Int32} (E : f_L_low x0 x1 = some o) : CtMI l D cy (WA0 cy) yL_low cL_low 2 .int 0 0 0 0 [.int x0, .int x1] () o () := by
  refine sMI (own := RL) rfl rfl (Nat.le_of_ble_eq_true rfl) (fun X O hN hret => ?_)
  show G l D X 2 (WA0 cy) 0 0 () 0 [(0, .int x0), (1, .int x1)] []
  unfold f_L_low at E
  refine g_iload_n (pc' := 1) O ⟨dL_low_0, rfl⟩ (q := 0) rfl rfl ?_
  refine g_ldc (pc' := 3) O ⟨dL_low_1, rfl⟩ kw_409 ?_
  refine g_iand (pc' := 4) O ⟨dL_low_3, rfl⟩ ?_
  refine g_iload_n (pc' := 5) O ⟨dL_low_4, rfl⟩ (q := 1) rfl rfl ?_
  obtain ⟨nz_5, E⟩ := nz_of E
  refine g_irem (pc' := 6) O ⟨dL_low_5, rfl⟩ nz_5 ?_
  cases E
  exact hret _ _ _ _ _ (Nat.le_of_ble_eq_true rfl) (Nat.le_of_ble_eq_true rfl) ⟨dL_low_6, rfl⟩ rfl
set_option maxRecDepth 100000 in
set_option maxHeartbeats 4000000 in
theorem t_L_calls (l : Launch) (D : va_G) (ad : Nat → Nat) (cy : Nat → ClassId) (hfl : l.stackTraces = false) {x1 : Int32} {x2 : Int32} {x3 : Int32} {x4 : Int64} {h : Hp} {o : Int32 × Hp} (E : f_L_calls x1 x2 x3 x4 h = some o) : CtH l D cy (WX0 ad cy) yL_calls cL_calls 7 [(0, 83, 84, 37), (0, 83, 90, 39)] 11 215 13 78 [.ref (ad 0), .int x1, .int x2, .int x3, .long x4] h o.1 o.2 := by
  refine sH (own := RL) rfl rfl (Nat.le_of_ble_eq_true rfl) (fun X O hT hN hret => ?_)
  show G l D X 7 (WX0 ad cy) 0 0 h 0 [(0, .ref (ad 0)), (1, .int x1), (2, .int x2), (3, .int x3), (4, .long x4)] []
  unfold f_L_calls at E
  refine g_iload_n (pc' := 1) O ⟨dL_calls_0, rfl⟩ (q := 1) rfl rfl ?_
  refine g_if_ne (pc' := 4) O ⟨dL_calls_1, rfl⟩ E (tgt := 13) (by decide) (fun E => ?_) (fun E => ?_)
  · refine g_iload_n (pc' := 14) O ⟨dL_calls_13, rfl⟩ (q := 1) rfl rfl ?_
    refine g_iconst (pc' := 15) O ⟨dL_calls_14, rfl⟩ (v := (1 : Int32)) rfl ?_
    refine g_icmp_ne (pc' := 18) O ⟨dL_calls_15, rfl⟩ E (tgt := 25) (by decide) (fun E => ?_) (fun E => ?_)
    · refine g_iload_n (pc' := 26) O ⟨dL_calls_25, rfl⟩ (q := 1) rfl rfl ?_
      refine g_iconst (pc' := 27) O ⟨dL_calls_26, rfl⟩ (v := (2 : Int32)) rfl ?_
      refine g_icmp_ne (pc' := 30) O ⟨dL_calls_27, rfl⟩ E (tgt := 38) (by decide) (fun E => ?_) (fun E => ?_)
      · refine g_iload_n (pc' := 39) O ⟨dL_calls_38, rfl⟩ (q := 1) rfl rfl ?_
        refine g_iconst (pc' := 40) O ⟨dL_calls_39, rfl⟩ (v := (3 : Int32)) rfl ?_
        refine g_icmp_ne (pc' := 43) O ⟨dL_calls_40, rfl⟩ E (tgt := 53) (by decide) (fun E => ?_) (fun E => ?_)
        · refine g_iload_n (pc' := 54) O ⟨dL_calls_53, rfl⟩ (q := 1) rfl rfl ?_
          refine g_iconst (pc' := 55) O ⟨dL_calls_54, rfl⟩ (v := (4 : Int32)) rfl ?_
          refine g_icmp_ne (pc' := 58) O ⟨dL_calls_55, rfl⟩ E (tgt := 65) (by decide) (fun E => ?_) (fun E => ?_)
          · refine g_iload_n (pc' := 66) O ⟨dL_calls_65, rfl⟩ (q := 1) rfl rfl ?_
            refine g_iconst (pc' := 67) O ⟨dL_calls_66, rfl⟩ (v := (5 : Int32)) rfl ?_
            refine g_icmp_ne (pc' := 70) O ⟨dL_calls_67, rfl⟩ E (tgt := 78) (by decide) (fun E => ?_) (fun E => ?_)
            · refine g_aload_n (pc' := 79) O ⟨dL_calls_78, rfl⟩ (q := 0) rfl rfl ?_
              refine g_iload_n (pc' := 80) O ⟨dL_calls_79, rfl⟩ (q := 2) rfl rfl ?_
              obtain ⟨z_4, c_2, e_3, E⟩ := hcatch_of E
              refine g_UXi (pc' := 83) O ⟨dL_calls_80, rfl⟩ (y := yX10_run) (As := [.int x2]) (st := []) (put := (fun g => g)) sub_X0_X (t_X10_run l D ad cy hfl (h := h) c_2) kw_522 kw_25 kw_519 kw_520 kw_521 rfl zX0_x hd_X10_run ⟨Nat.le_of_ble_eq_true rfl, Nat.le_of_ble_eq_true rfl⟩ ⟨Nat.le_of_ble_eq_true rfl, Nat.le_of_ble_eq_true rfl⟩ rfl (Nat.le_of_ble_eq_true rfl) (fun E1 c q => ?_) (fun r_1 q => ?_)
              · replace E := e_3 E1 c q
                rcases Classical.em (E1 = "java/lang/IllegalArgumentException") with e1 | e1
                · subst e1
                  replace E := ite_t E rfl
                  cases E
                  refine g_catch (pre := []) (suf := [⟨0, 83, 90, 39⟩]) (z := ⟨0, 83, 84, 37⟩) O hN hT (fun _ h => absurd h List.not_mem_nil) rfl (by decide) kw_413 kw_260 (fun q9 => ?_)
                  refine g_astore (pc' := 86) O ⟨dL_calls_84, rfl⟩ (lv' := [(6, .ref q9), (0, .ref (ad 0)), (1, .int x1), (2, .int x2), (3, .int x3), (4, .long x4)]) (by decide) rfl ?_
                  refine g_sipush (pc' := 89) O ⟨dL_calls_86, rfl⟩ (v := (-1002 : Int32)) rfl ?_
                  exact hret _ _ _ _ _ (Nat.le_of_ble_eq_true rfl) (Nat.le_of_ble_eq_true rfl) ⟨dL_calls_89, rfl⟩
                · replace E := ite_f E e1
                  rcases Classical.em (E1 = "java/lang/IllegalStateException") with e1 | e1
                  · subst e1
                    replace E := ite_t E rfl
                    cases E
                    refine g_catch (pre := [⟨0, 83, 84, 37⟩]) (suf := []) (z := ⟨0, 83, 90, 39⟩) O hN hT (List.forall_mem_cons.mpr ⟨⟨by decide, _, kw_413, (by decide : ("java/lang/IllegalStateException", "java/lang/IllegalArgumentException") ∈ NCP)⟩, fun _ h => absurd h List.not_mem_nil⟩) rfl (by decide) kw_414 kw_425 (fun q9 => ?_)
                    refine g_astore (pc' := 92) O ⟨dL_calls_90, rfl⟩ (lv' := [(6, .ref q9), (0, .ref (ad 0)), (1, .int x1), (2, .int x2), (3, .int x3), (4, .long x4)]) (by decide) rfl ?_
                    refine g_sipush (pc' := 95) O ⟨dL_calls_92, rfl⟩ (v := (-1003 : Int32)) rfl ?_
                    exact hret _ _ _ _ _ (Nat.le_of_ble_eq_true rfl) (Nat.le_of_ble_eq_true rfl) ⟨dL_calls_95, rfl⟩
                  · replace E := ite_f E e1
                    cases E
              · replace E := E r_1 q
                show G l D X 7 (WX0 ad cy) 1 6 r_1.2 83 [(0, .ref (ad 0)), (1, .int x1), (2, .int x2), (3, .int x3), (4, .long x4)] [.int r_1.1]
                cases E
                exact hret _ _ _ _ _ (Nat.le_of_ble_eq_true rfl) (Nat.le_of_ble_eq_true rfl) ⟨dL_calls_83, rfl⟩
            · refine g_aload_n (pc' := 71) O ⟨dL_calls_70, rfl⟩ (q := 0) rfl rfl ?_
              refine g_iload_n (pc' := 72) O ⟨dL_calls_71, rfl⟩ (q := 2) rfl rfl ?_
              obtain ⟨z_8, c_6, e_7, E⟩ := hcatch_of E
              refine g_UXi (pc' := 75) O ⟨dL_calls_72, rfl⟩ (y := yX10_token) (As := [.int x2]) (st := []) (put := (fun g => g)) sub_X0_X (t_X10_token l D ad cy hfl (h := h) c_6) kw_513 kw_25 kw_510 kw_511 kw_512 rfl zX0_x hd_X10_token ⟨Nat.le_of_ble_eq_true rfl, Nat.le_of_ble_eq_true rfl⟩ ⟨Nat.le_of_ble_eq_true rfl, Nat.le_of_ble_eq_true rfl⟩ rfl (Nat.le_of_ble_eq_true rfl) (fun E1 c q => ?_) (fun r_5 q => ?_)
              · replace E := e_7 E1 c q
                rcases Classical.em (E1 = "java/lang/IllegalArgumentException") with e1 | e1
                · subst e1
                  replace E := ite_t E rfl
                  cases E
                  refine g_catch (pre := []) (suf := [⟨0, 83, 90, 39⟩]) (z := ⟨0, 83, 84, 37⟩) O hN hT (fun _ h => absurd h List.not_mem_nil) rfl (by decide) kw_413 kw_260 (fun q9 => ?_)
                  refine g_astore (pc' := 86) O ⟨dL_calls_84, rfl⟩ (lv' := [(6, .ref q9), (0, .ref (ad 0)), (1, .int x1), (2, .int x2), (3, .int x3), (4, .long x4)]) (by decide) rfl ?_
                  refine g_sipush (pc' := 89) O ⟨dL_calls_86, rfl⟩ (v := (-1002 : Int32)) rfl ?_
                  exact hret _ _ _ _ _ (Nat.le_of_ble_eq_true rfl) (Nat.le_of_ble_eq_true rfl) ⟨dL_calls_89, rfl⟩
                · replace E := ite_f E e1
                  rcases Classical.em (E1 = "java/lang/IllegalStateException") with e1 | e1
                  · subst e1
                    replace E := ite_t E rfl
                    cases E
                    refine g_catch (pre := [⟨0, 83, 84, 37⟩]) (suf := []) (z := ⟨0, 83, 90, 39⟩) O hN hT (List.forall_mem_cons.mpr ⟨⟨by decide, _, kw_413, (by decide : ("java/lang/IllegalStateException", "java/lang/IllegalArgumentException") ∈ NCP)⟩, fun _ h => absurd h List.not_mem_nil⟩) rfl (by decide) kw_414 kw_425 (fun q9 => ?_)
                    refine g_astore (pc' := 92) O ⟨dL_calls_90, rfl⟩ (lv' := [(6, .ref q9), (0, .ref (ad 0)), (1, .int x1), (2, .int x2), (3, .int x3), (4, .long x4)]) (by decide) rfl ?_
                    refine g_sipush (pc' := 95) O ⟨dL_calls_92, rfl⟩ (v := (-1003 : Int32)) rfl ?_
                    exact hret _ _ _ _ _ (Nat.le_of_ble_eq_true rfl) (Nat.le_of_ble_eq_true rfl) ⟨dL_calls_95, rfl⟩
                  · replace E := ite_f E e1
                    cases E
              · replace E := E r_5 q
                show G l D X 7 (WX0 ad cy) 2 12 r_5.2 75 [(0, .ref (ad 0)), (1, .int x1), (2, .int x2), (3, .int x3), (4, .long x4)] [.int r_5.1]
                refine g_goto (pc' := 78) O ⟨dL_calls_75, rfl⟩ (tgt := 83) (by decide) ?_
                cases E
                exact hret _ _ _ _ _ (Nat.le_of_ble_eq_true rfl) (Nat.le_of_ble_eq_true rfl) ⟨dL_calls_83, rfl⟩
          · refine g_aload_n (pc' := 59) O ⟨dL_calls_58, rfl⟩ (q := 0) rfl rfl ?_
            obtain ⟨z_12, c_10, e_11, E⟩ := hcatch_of E
            refine g_UXi (pc' := 62) O ⟨dL_calls_59, rfl⟩ (y := yX10_build) (As := []) (st := []) (put := (fun g => g)) sub_X0_X (t_X10_build l D ad cy hfl (h := h) c_10) kw_499 kw_25 kw_496 kw_497 kw_498 rfl zX0_x hd_X10_build ⟨Nat.le_of_ble_eq_true rfl, Nat.le_of_ble_eq_true rfl⟩ ⟨Nat.le_of_ble_eq_true rfl, Nat.le_of_ble_eq_true rfl⟩ rfl (Nat.le_of_ble_eq_true rfl) (fun E1 c q => ?_) (fun r_9 q => ?_)
            · replace E := e_11 E1 c q
              rcases Classical.em (E1 = "java/lang/IllegalArgumentException") with e1 | e1
              · subst e1
                replace E := ite_t E rfl
                cases E
                refine g_catch (pre := []) (suf := [⟨0, 83, 90, 39⟩]) (z := ⟨0, 83, 84, 37⟩) O hN hT (fun _ h => absurd h List.not_mem_nil) rfl (by decide) kw_413 kw_260 (fun q9 => ?_)
                refine g_astore (pc' := 86) O ⟨dL_calls_84, rfl⟩ (lv' := [(6, .ref q9), (0, .ref (ad 0)), (1, .int x1), (2, .int x2), (3, .int x3), (4, .long x4)]) (by decide) rfl ?_
                refine g_sipush (pc' := 89) O ⟨dL_calls_86, rfl⟩ (v := (-1002 : Int32)) rfl ?_
                exact hret _ _ _ _ _ (Nat.le_of_ble_eq_true rfl) (Nat.le_of_ble_eq_true rfl) ⟨dL_calls_89, rfl⟩
              · replace E := ite_f E e1
                rcases Classical.em (E1 = "java/lang/IllegalStateException") with e1 | e1
                · subst e1
                  replace E := ite_t E rfl
                  cases E
                  refine g_catch (pre := [⟨0, 83, 84, 37⟩]) (suf := []) (z := ⟨0, 83, 90, 39⟩) O hN hT (List.forall_mem_cons.mpr ⟨⟨by decide, _, kw_413, (by decide : ("java/lang/IllegalStateException", "java/lang/IllegalArgumentException") ∈ NCP)⟩, fun _ h => absurd h List.not_mem_nil⟩) rfl (by decide) kw_414 kw_425 (fun q9 => ?_)
                  refine g_astore (pc' := 92) O ⟨dL_calls_90, rfl⟩ (lv' := [(6, .ref q9), (0, .ref (ad 0)), (1, .int x1), (2, .int x2), (3, .int x3), (4, .long x4)]) (by decide) rfl ?_
                  refine g_sipush (pc' := 95) O ⟨dL_calls_92, rfl⟩ (v := (-1003 : Int32)) rfl ?_
                  exact hret _ _ _ _ _ (Nat.le_of_ble_eq_true rfl) (Nat.le_of_ble_eq_true rfl) ⟨dL_calls_95, rfl⟩
                · replace E := ite_f E e1
                  cases E
            · replace E := E r_9 q
              show G l D X 7 (WX0 ad cy) 2 12 r_9.2 62 [(0, .ref (ad 0)), (1, .int x1), (2, .int x2), (3, .int x3), (4, .long x4)] [.int r_9.1]
              refine g_goto (pc' := 65) O ⟨dL_calls_62, rfl⟩ (tgt := 83) (by decide) ?_
              cases E
              exact hret _ _ _ _ _ (Nat.le_of_ble_eq_true rfl) (Nat.le_of_ble_eq_true rfl) ⟨dL_calls_83, rfl⟩
        · refine g_aload_n (pc' := 44) O ⟨dL_calls_43, rfl⟩ (q := 0) rfl rfl ?_
          refine g_lload (pc' := 46) O ⟨dL_calls_44, rfl⟩ (q := 4) rfl ?_
          refine g_iload_n (pc' := 47) O ⟨dL_calls_46, rfl⟩ (q := 2) rfl rfl ?_
          obtain ⟨z_16, c_14, e_15, E⟩ := hcatch_of E
          refine g_UXi (pc' := 50) O ⟨dL_calls_47, rfl⟩ (y := yX10_type) (As := [.long x4, .int x2]) (st := []) (put := (fun g => g)) sub_X0_X (t_X10_type l D ad cy hfl (h := h) c_14) kw_481 kw_25 kw_478 kw_479 kw_480 rfl zX0_x hd_X10_type ⟨Nat.le_of_ble_eq_true rfl, Nat.le_of_ble_eq_true rfl⟩ ⟨Nat.le_of_ble_eq_true rfl, Nat.le_of_ble_eq_true rfl⟩ rfl (Nat.le_of_ble_eq_true rfl) (fun E1 c q => ?_) (fun r_13 q => ?_)
          · replace E := e_15 E1 c q
            rcases Classical.em (E1 = "java/lang/IllegalArgumentException") with e1 | e1
            · subst e1
              replace E := ite_t E rfl
              cases E
              refine g_catch (pre := []) (suf := [⟨0, 83, 90, 39⟩]) (z := ⟨0, 83, 84, 37⟩) O hN hT (fun _ h => absurd h List.not_mem_nil) rfl (by decide) kw_413 kw_260 (fun q9 => ?_)
              refine g_astore (pc' := 86) O ⟨dL_calls_84, rfl⟩ (lv' := [(6, .ref q9), (0, .ref (ad 0)), (1, .int x1), (2, .int x2), (3, .int x3), (4, .long x4)]) (by decide) rfl ?_
              refine g_sipush (pc' := 89) O ⟨dL_calls_86, rfl⟩ (v := (-1002 : Int32)) rfl ?_
              exact hret _ _ _ _ _ (Nat.le_of_ble_eq_true rfl) (Nat.le_of_ble_eq_true rfl) ⟨dL_calls_89, rfl⟩
            · replace E := ite_f E e1
              rcases Classical.em (E1 = "java/lang/IllegalStateException") with e1 | e1
              · subst e1
                replace E := ite_t E rfl
                cases E
                refine g_catch (pre := [⟨0, 83, 84, 37⟩]) (suf := []) (z := ⟨0, 83, 90, 39⟩) O hN hT (List.forall_mem_cons.mpr ⟨⟨by decide, _, kw_413, (by decide : ("java/lang/IllegalStateException", "java/lang/IllegalArgumentException") ∈ NCP)⟩, fun _ h => absurd h List.not_mem_nil⟩) rfl (by decide) kw_414 kw_425 (fun q9 => ?_)
                refine g_astore (pc' := 92) O ⟨dL_calls_90, rfl⟩ (lv' := [(6, .ref q9), (0, .ref (ad 0)), (1, .int x1), (2, .int x2), (3, .int x3), (4, .long x4)]) (by decide) rfl ?_
                refine g_sipush (pc' := 95) O ⟨dL_calls_92, rfl⟩ (v := (-1003 : Int32)) rfl ?_
                exact hret _ _ _ _ _ (Nat.le_of_ble_eq_true rfl) (Nat.le_of_ble_eq_true rfl) ⟨dL_calls_95, rfl⟩
              · replace E := ite_f E e1
                cases E
          · replace E := E r_13 q
            show G l D X 7 (WX0 ad cy) 1 6 r_13.2 50 [(0, .ref (ad 0)), (1, .int x1), (2, .int x2), (3, .int x3), (4, .long x4)] [.int r_13.1]
            refine g_goto (pc' := 53) O ⟨dL_calls_50, rfl⟩ (tgt := 83) (by decide) ?_
            cases E
            exact hret _ _ _ _ _ (Nat.le_of_ble_eq_true rfl) (Nat.le_of_ble_eq_true rfl) ⟨dL_calls_83, rfl⟩
      · refine g_aload_n (pc' := 31) O ⟨dL_calls_30, rfl⟩ (q := 0) rfl rfl ?_
        refine g_iload_n (pc' := 32) O ⟨dL_calls_31, rfl⟩ (q := 2) rfl rfl ?_
        obtain ⟨z_20, c_18, e_19, E⟩ := hcatch_of E
        refine g_UXi (pc' := 35) O ⟨dL_calls_32, rfl⟩ (y := yX10_make) (As := [.int x2]) (st := []) (put := (fun g => g)) sub_X0_X (t_X10_make l D ad cy hfl (h := h) c_18) kw_455 kw_25 kw_452 kw_453 kw_454 rfl zX0_x hd_X10_make ⟨Nat.le_of_ble_eq_true rfl, Nat.le_of_ble_eq_true rfl⟩ ⟨Nat.le_of_ble_eq_true rfl, Nat.le_of_ble_eq_true rfl⟩ rfl (Nat.le_of_ble_eq_true rfl) (fun E1 c q => ?_) (fun r_17 q => ?_)
        · replace E := e_19 E1 c q
          rcases Classical.em (E1 = "java/lang/IllegalArgumentException") with e1 | e1
          · subst e1
            replace E := ite_t E rfl
            cases E
            refine g_catch (pre := []) (suf := [⟨0, 83, 90, 39⟩]) (z := ⟨0, 83, 84, 37⟩) O hN hT (fun _ h => absurd h List.not_mem_nil) rfl (by decide) kw_413 kw_260 (fun q9 => ?_)
            refine g_astore (pc' := 86) O ⟨dL_calls_84, rfl⟩ (lv' := [(6, .ref q9), (0, .ref (ad 0)), (1, .int x1), (2, .int x2), (3, .int x3), (4, .long x4)]) (by decide) rfl ?_
            refine g_sipush (pc' := 89) O ⟨dL_calls_86, rfl⟩ (v := (-1002 : Int32)) rfl ?_
            exact hret _ _ _ _ _ (Nat.le_of_ble_eq_true rfl) (Nat.le_of_ble_eq_true rfl) ⟨dL_calls_89, rfl⟩
          · replace E := ite_f E e1
            rcases Classical.em (E1 = "java/lang/IllegalStateException") with e1 | e1
            · subst e1
              replace E := ite_t E rfl
              cases E
              refine g_catch (pre := [⟨0, 83, 84, 37⟩]) (suf := []) (z := ⟨0, 83, 90, 39⟩) O hN hT (List.forall_mem_cons.mpr ⟨⟨by decide, _, kw_413, (by decide : ("java/lang/IllegalStateException", "java/lang/IllegalArgumentException") ∈ NCP)⟩, fun _ h => absurd h List.not_mem_nil⟩) rfl (by decide) kw_414 kw_425 (fun q9 => ?_)
              refine g_astore (pc' := 92) O ⟨dL_calls_90, rfl⟩ (lv' := [(6, .ref q9), (0, .ref (ad 0)), (1, .int x1), (2, .int x2), (3, .int x3), (4, .long x4)]) (by decide) rfl ?_
              refine g_sipush (pc' := 95) O ⟨dL_calls_92, rfl⟩ (v := (-1003 : Int32)) rfl ?_
              exact hret _ _ _ _ _ (Nat.le_of_ble_eq_true rfl) (Nat.le_of_ble_eq_true rfl) ⟨dL_calls_95, rfl⟩
            · replace E := ite_f E e1
              cases E
        · replace E := E r_17 q
          show G l D X 7 (WX0 ad cy) 2 12 r_17.2 35 [(0, .ref (ad 0)), (1, .int x1), (2, .int x2), (3, .int x3), (4, .long x4)] [.int r_17.1]
          refine g_goto (pc' := 38) O ⟨dL_calls_35, rfl⟩ (tgt := 83) (by decide) ?_
          cases E
          exact hret _ _ _ _ _ (Nat.le_of_ble_eq_true rfl) (Nat.le_of_ble_eq_true rfl) ⟨dL_calls_83, rfl⟩
    · refine g_aload_n (pc' := 19) O ⟨dL_calls_18, rfl⟩ (q := 0) rfl rfl ?_
      obtain ⟨z_24, c_22, e_23, E⟩ := hcatch_of E
      refine g_UXi (pc' := 22) O ⟨dL_calls_19, rfl⟩ (y := yX10_take) (As := []) (st := []) (put := (fun g => g)) sub_X0_X (t_X10_take l D ad cy hfl (h := h) c_22) kw_446 kw_25 kw_443 kw_444 kw_445 rfl zX0_x hd_X10_take ⟨Nat.le_of_ble_eq_true rfl, Nat.le_of_ble_eq_true rfl⟩ ⟨Nat.le_of_ble_eq_true rfl, Nat.le_of_ble_eq_true rfl⟩ rfl (Nat.le_of_ble_eq_true rfl) (fun E1 c q => ?_) (fun r_21 q => ?_)
      · replace E := e_23 E1 c q
        rcases Classical.em (E1 = "java/lang/IllegalArgumentException") with e1 | e1
        · subst e1
          replace E := ite_t E rfl
          cases E
          refine g_catch (pre := []) (suf := [⟨0, 83, 90, 39⟩]) (z := ⟨0, 83, 84, 37⟩) O hN hT (fun _ h => absurd h List.not_mem_nil) rfl (by decide) kw_413 kw_260 (fun q9 => ?_)
          refine g_astore (pc' := 86) O ⟨dL_calls_84, rfl⟩ (lv' := [(6, .ref q9), (0, .ref (ad 0)), (1, .int x1), (2, .int x2), (3, .int x3), (4, .long x4)]) (by decide) rfl ?_
          refine g_sipush (pc' := 89) O ⟨dL_calls_86, rfl⟩ (v := (-1002 : Int32)) rfl ?_
          exact hret _ _ _ _ _ (Nat.le_of_ble_eq_true rfl) (Nat.le_of_ble_eq_true rfl) ⟨dL_calls_89, rfl⟩
        · replace E := ite_f E e1
          rcases Classical.em (E1 = "java/lang/IllegalStateException") with e1 | e1
          · subst e1
            replace E := ite_t E rfl
            cases E
            refine g_catch (pre := [⟨0, 83, 84, 37⟩]) (suf := []) (z := ⟨0, 83, 90, 39⟩) O hN hT (List.forall_mem_cons.mpr ⟨⟨by decide, _, kw_413, (by decide : ("java/lang/IllegalStateException", "java/lang/IllegalArgumentException") ∈ NCP)⟩, fun _ h => absurd h List.not_mem_nil⟩) rfl (by decide) kw_414 kw_425 (fun q9 => ?_)
            refine g_astore (pc' := 92) O ⟨dL_calls_90, rfl⟩ (lv' := [(6, .ref q9), (0, .ref (ad 0)), (1, .int x1), (2, .int x2), (3, .int x3), (4, .long x4)]) (by decide) rfl ?_
            refine g_sipush (pc' := 95) O ⟨dL_calls_92, rfl⟩ (v := (-1003 : Int32)) rfl ?_
            exact hret _ _ _ _ _ (Nat.le_of_ble_eq_true rfl) (Nat.le_of_ble_eq_true rfl) ⟨dL_calls_95, rfl⟩
          · replace E := ite_f E e1
            cases E
      · replace E := E r_21 q
        show G l D X 7 (WX0 ad cy) 1 6 r_21.2 22 [(0, .ref (ad 0)), (1, .int x1), (2, .int x2), (3, .int x3), (4, .long x4)] [.int r_21.1]
        refine g_goto (pc' := 25) O ⟨dL_calls_22, rfl⟩ (tgt := 83) (by decide) ?_
        cases E
        exact hret _ _ _ _ _ (Nat.le_of_ble_eq_true rfl) (Nat.le_of_ble_eq_true rfl) ⟨dL_calls_83, rfl⟩
  · refine g_aload_n (pc' := 5) O ⟨dL_calls_4, rfl⟩ (q := 0) rfl rfl ?_
    refine g_iload_n (pc' := 6) O ⟨dL_calls_5, rfl⟩ (q := 2) rfl rfl ?_
    refine g_iload_n (pc' := 7) O ⟨dL_calls_6, rfl⟩ (q := 3) rfl rfl ?_
    obtain ⟨z_28, c_26, e_27, E⟩ := hcatch_of E
    refine g_UXi (pc' := 10) O ⟨dL_calls_7, rfl⟩ (y := yX10_add) (As := [.int x2, .int x3]) (st := []) (put := (fun g => g)) sub_X0_X (t_X10_add l D ad cy hfl (h := h) c_26) kw_418 kw_25 kw_415 kw_416 kw_417 rfl zX0_x hd_X10_add ⟨Nat.le_of_ble_eq_true rfl, Nat.le_of_ble_eq_true rfl⟩ ⟨Nat.le_of_ble_eq_true rfl, Nat.le_of_ble_eq_true rfl⟩ rfl (Nat.le_of_ble_eq_true rfl) (fun E1 c q => ?_) (fun r_25 q => ?_)
    · replace E := e_27 E1 c q
      rcases Classical.em (E1 = "java/lang/IllegalArgumentException") with e1 | e1
      · subst e1
        replace E := ite_t E rfl
        cases E
        refine g_catch (pre := []) (suf := [⟨0, 83, 90, 39⟩]) (z := ⟨0, 83, 84, 37⟩) O hN hT (fun _ h => absurd h List.not_mem_nil) rfl (by decide) kw_413 kw_260 (fun q9 => ?_)
        refine g_astore (pc' := 86) O ⟨dL_calls_84, rfl⟩ (lv' := [(6, .ref q9), (0, .ref (ad 0)), (1, .int x1), (2, .int x2), (3, .int x3), (4, .long x4)]) (by decide) rfl ?_
        refine g_sipush (pc' := 89) O ⟨dL_calls_86, rfl⟩ (v := (-1002 : Int32)) rfl ?_
        exact hret _ _ _ _ _ (Nat.le_of_ble_eq_true rfl) (Nat.le_of_ble_eq_true rfl) ⟨dL_calls_89, rfl⟩
      · replace E := ite_f E e1
        rcases Classical.em (E1 = "java/lang/IllegalStateException") with e1 | e1
        · subst e1
          replace E := ite_t E rfl
          cases E
          refine g_catch (pre := [⟨0, 83, 84, 37⟩]) (suf := []) (z := ⟨0, 83, 90, 39⟩) O hN hT (List.forall_mem_cons.mpr ⟨⟨by decide, _, kw_413, (by decide : ("java/lang/IllegalStateException", "java/lang/IllegalArgumentException") ∈ NCP)⟩, fun _ h => absurd h List.not_mem_nil⟩) rfl (by decide) kw_414 kw_425 (fun q9 => ?_)
          refine g_astore (pc' := 92) O ⟨dL_calls_90, rfl⟩ (lv' := [(6, .ref q9), (0, .ref (ad 0)), (1, .int x1), (2, .int x2), (3, .int x3), (4, .long x4)]) (by decide) rfl ?_
          refine g_sipush (pc' := 95) O ⟨dL_calls_92, rfl⟩ (v := (-1003 : Int32)) rfl ?_
          exact hret _ _ _ _ _ (Nat.le_of_ble_eq_true rfl) (Nat.le_of_ble_eq_true rfl) ⟨dL_calls_95, rfl⟩
        · replace E := ite_f E e1
          cases E
    · replace E := E r_25 q
      show G l D X 7 (WX0 ad cy) 4 24 r_25.2 10 [(0, .ref (ad 0)), (1, .int x1), (2, .int x2), (3, .int x3), (4, .long x4)] [.int r_25.1]
      refine g_goto (pc' := 13) O ⟨dL_calls_10, rfl⟩ (tgt := 83) (by decide) ?_
      cases E
      exact hret _ _ _ _ _ (Nat.le_of_ble_eq_true rfl) (Nat.le_of_ble_eq_true rfl) ⟨dL_calls_83, rfl⟩
set_option maxRecDepth 100000 in
set_option maxHeartbeats 4000000 in
theorem t_L_out (l : Launch) (D : va_G) (cy : Nat → ClassId) (hfl : l.stackTraces = false) (b0 : Nat) {x0 : Int32} {x1 : Int32} {x2 : Int32} {x3 : Int32} {r0 : Row} {o : Int32} (E : f_L_out x0 x1 x2 x3 r0 = some o) : CtMI l D cy (WA1 cy 24 b0) yL_out cL_out 13 .int 0 0 0 0 [.int x0, .int x1, .int x2, .int x3, .ref b0] r0 o r0 := by
  refine sMI (own := RL) rfl rfl (Nat.le_of_ble_eq_true rfl) (fun X O hN hret => ?_)
  show G l D X 13 (WA1 cy 24 b0) 0 0 r0 0 [(0, .int x0), (1, .int x1), (2, .int x2), (3, .int x3), (4, .ref b0)] []
  unfold f_L_out at E
  refine g_iload_n (pc' := 1) O ⟨dL_out_0, rfl⟩ (q := 0) rfl rfl ?_
  refine g_istore (pc' := 3) O ⟨dL_out_1, rfl⟩ (lv' := [(5, .int x0), (0, .int x0), (1, .int x1), (2, .int x2), (3, .int x3), (4, .ref b0)]) (by decide) rfl ?_
  refine g_iconst (pc' := 4) O ⟨dL_out_3, rfl⟩ (v := (0 : Int32)) rfl ?_
  refine g_istore (pc' := 6) O ⟨dL_out_4, rfl⟩ (lv' := [(6, .int (0 : Int32)), (5, .int x0), (0, .int x0), (1, .int x1), (2, .int x2), (3, .int x3), (4, .ref b0)]) (by decide) rfl ?_
  refine jn1_of (P := fun (x5_1 : Int32) => G l D X 13 (WA1 cy 24 b0) 0 0 r0 134 [(5, .int x5_1)] []) E ?_ ?_
  · intro x5_1 E
    show G l D X 13 (WA1 cy 24 b0) 0 0 r0 134 [(5, .int x5_1)] []
    refine g_iload (pc' := 136) O ⟨dL_out_134, rfl⟩ (q := 0) rfl ?_
    cases E
    exact hret _ _ _ _ _ (Nat.le_of_ble_eq_true rfl) (Nat.le_of_ble_eq_true rfl) ⟨dL_out_136, rfl⟩ rfl
  · intro k134 hk134 E
    refine g_sub (lv' := [(1, .int x1), (2, .int x2), (3, .int x3), (4, .ref b0), (5, .int x0), (6, .int (0 : Int32))]) [3, 4, 5, 6, 1, 0] rfl ?_
    refine fx2_of (P := fun (x5_2 : Int32) (x6_3 : Int32) => G l D X 13 (WA1 cy 24 b0) 0 0 r0 6 [(1, .int x1), (2, .int x2), (3, .int x3), (4, .ref b0), (5, .int x5_2), (6, .int x6_3)] []) ?_ _ _ _ E
    intro self ih6 x5_2 x6_3 E
    show G l D X 13 (WA1 cy 24 b0) 0 0 r0 6 [(1, .int x1), (2, .int x2), (3, .int x3), (4, .ref b0), (5, .int x5_2), (6, .int x6_3)] []
    unfold L_L_out_6 at E
    refine g_iload (pc' := 8) O ⟨dL_out_6, rfl⟩ (q := 5) rfl ?_
    refine g_iload_n (pc' := 9) O ⟨dL_out_8, rfl⟩ (q := 0) rfl rfl ?_
    refine g_icmp_ge (pc' := 12) O ⟨dL_out_9, rfl⟩ E (tgt := 134) (by decide) (fun E => ?_) (fun E => ?_)
    · refine g_sub (lv' := [(5, .int x5_2)]) [4] rfl ?_
      exact hk134 _ E
    · refine g_aload (pc' := 14) O ⟨dL_out_12, rfl⟩ (q := 3) rfl ?_
      refine g_iload (pc' := 16) O ⟨dL_out_14, rfl⟩ (q := 5) rfl ?_
      refine g_iald (pc' := 17) O ⟨dL_out_16, rfl⟩ zA1_0 E (fun E => ?_)
      refine g_bipush (pc' := 19) O ⟨dL_out_17, rfl⟩ (v := (8 : Int32)) rfl ?_
      refine g_irem (pc' := 20) O ⟨dL_out_19, rfl⟩ (by decide) ?_
      refine g_nm E (fun y7_4 E => ?_)
      refine g_istore (pc' := 22) O ⟨dL_out_20, rfl⟩ (lv' := [(7, .int y7_4), (1, .int x1), (2, .int x2), (3, .int x3), (4, .ref b0), (5, .int x5_2), (6, .int x6_3)]) (by decide) rfl ?_
      refine g_aload (pc' := 24) O ⟨dL_out_22, rfl⟩ (q := 4) rfl ?_
      refine g_iload (pc' := 26) O ⟨dL_out_24, rfl⟩ (q := 6) rfl ?_
      refine g_iald (pc' := 27) O ⟨dL_out_26, rfl⟩ zA1_0 E (fun E => ?_)
      refine g_bipush (pc' := 29) O ⟨dL_out_27, rfl⟩ (v := (8 : Int32)) rfl ?_
      refine g_idiv (pc' := 30) O ⟨dL_out_29, rfl⟩ (by decide) ?_
      refine g_nm E (fun y8_5 E => ?_)
      refine g_istore (pc' := 32) O ⟨dL_out_30, rfl⟩ (lv' := [(8, .int y8_5), (7, .int y7_4), (1, .int x1), (2, .int x2), (3, .int x3), (4, .ref b0), (5, .int x5_2), (6, .int x6_3)]) (by decide) rfl ?_
      refine g_iload (pc' := 34) O ⟨dL_out_32, rfl⟩ (q := 6) rfl ?_
      refine g_iload (pc' := 36) O ⟨dL_out_34, rfl⟩ (q := 1) rfl ?_
      refine g_ishr (pc' := 37) O ⟨dL_out_36, rfl⟩ ?_
      refine g_iconst (pc' := 38) O ⟨dL_out_37, rfl⟩ (v := (1 : Int32)) rfl ?_
      refine g_iand (pc' := 39) O ⟨dL_out_38, rfl⟩ ?_
      refine g_nm E (fun y9_6 E => ?_)
      refine g_istore (pc' := 41) O ⟨dL_out_39, rfl⟩ (lv' := [(9, .int y9_6), (8, .int y8_5), (7, .int y7_4), (1, .int x1), (2, .int x2), (3, .int x3), (4, .ref b0), (5, .int x5_2), (6, .int x6_3)]) (by decide) rfl ?_
      refine g_iload (pc' := 43) O ⟨dL_out_41, rfl⟩ (q := 7) rfl ?_
      refine g_iload (pc' := 45) O ⟨dL_out_43, rfl⟩ (q := 1) rfl ?_
      refine g_ishr (pc' := 46) O ⟨dL_out_45, rfl⟩ ?_
      refine g_iconst (pc' := 47) O ⟨dL_out_46, rfl⟩ (v := (1 : Int32)) rfl ?_
      refine g_iand (pc' := 48) O ⟨dL_out_47, rfl⟩ ?_
      refine g_nm E (fun y10_7 E => ?_)
      refine g_istore (pc' := 50) O ⟨dL_out_48, rfl⟩ (lv' := [(10, .int y10_7), (9, .int y9_6), (8, .int y8_5), (7, .int y7_4), (1, .int x1), (2, .int x2), (3, .int x3), (4, .ref b0), (5, .int x5_2), (6, .int x6_3)]) (by decide) rfl ?_
      refine g_iload (pc' := 52) O ⟨dL_out_50, rfl⟩ (q := 9) rfl ?_
      refine g_iload_n (pc' := 53) O ⟨dL_out_52, rfl⟩ (q := 5) rfl rfl ?_
      refine jn1_of (P := fun (z_8 : Int32) => G l D X 13 (WA1 cy 24 b0) 0 0 r0 88 [(1, .int x1), (2, .int x2), (3, .int x3), (4, .ref b0), (5, .int x5_2), (6, .int x6_3), (7, .int y7_4), (8, .int y8_5), (9, .int y9_6), (10, .int y10_7)] [.int z_8]) E ?_ ?_
      · intro z_8 E
        show G l D X 13 (WA1 cy 24 b0) 0 0 r0 88 [(1, .int x1), (2, .int x2), (3, .int x3), (4, .ref b0), (5, .int x5_2), (6, .int x6_3), (7, .int y7_4), (8, .int y8_5), (9, .int y9_6), (10, .int y10_7)] [.int z_8]
        refine g_istore (pc' := 90) O ⟨dL_out_88, rfl⟩ (lv' := [(11, .int z_8), (1, .int x1), (2, .int x2), (3, .int x3), (4, .ref b0), (5, .int x5_2), (6, .int x6_3), (7, .int y7_4), (8, .int y8_5), (9, .int y9_6), (10, .int y10_7)]) (by decide) rfl ?_
        refine g_iload (pc' := 92) O ⟨dL_out_90, rfl⟩ (q := 9) rfl ?_
        refine g_iload (pc' := 94) O ⟨dL_out_92, rfl⟩ (q := 10) rfl ?_
        refine g_iadd (pc' := 95) O ⟨dL_out_94, rfl⟩ ?_
        refine g_iload (pc' := 97) O ⟨dL_out_95, rfl⟩ (q := 0) rfl ?_
        refine g_isub (pc' := 98) O ⟨dL_out_97, rfl⟩ ?_
        refine g_nm E (fun y12_9 E => ?_)
        refine g_istore (pc' := 100) O ⟨dL_out_98, rfl⟩ (lv' := [(12, .int y12_9), (11, .int z_8), (1, .int x1), (2, .int x2), (3, .int x3), (4, .ref b0), (5, .int x5_2), (6, .int x6_3), (7, .int y7_4), (8, .int y8_5), (9, .int y9_6), (10, .int y10_7)]) (by decide) rfl ?_
        refine g_iload (pc' := 102) O ⟨dL_out_100, rfl⟩ (q := 6) rfl ?_
        refine g_iconst (pc' := 103) O ⟨dL_out_102, rfl⟩ (v := (1 : Int32)) rfl ?_
        refine g_iload (pc' := 105) O ⟨dL_out_103, rfl⟩ (q := 8) rfl ?_
        refine g_ishl (pc' := 106) O ⟨dL_out_105, rfl⟩ ?_
        refine g_iconst (pc' := 107) O ⟨dL_out_106, rfl⟩ (v := (1 : Int32)) rfl ?_
        refine g_iload (pc' := 109) O ⟨dL_out_107, rfl⟩ (q := 9) rfl ?_
        refine g_ishl (pc' := 110) O ⟨dL_out_109, rfl⟩ ?_
        refine g_ior (pc' := 111) O ⟨dL_out_110, rfl⟩ ?_
        refine g_iconst (pc' := 112) O ⟨dL_out_111, rfl⟩ (v := (-1 : Int32)) rfl ?_
        refine g_ixor (pc' := 113) O ⟨dL_out_112, rfl⟩ ?_
        refine g_iand (pc' := 114) O ⟨dL_out_113, rfl⟩ ?_
        refine g_iload (pc' := 116) O ⟨dL_out_114, rfl⟩ (q := 1) rfl ?_
        refine g_iload (pc' := 118) O ⟨dL_out_116, rfl⟩ (q := 8) rfl ?_
        refine g_ishl (pc' := 119) O ⟨dL_out_118, rfl⟩ ?_
        refine g_ior (pc' := 120) O ⟨dL_out_119, rfl⟩ ?_
        refine g_iload (pc' := 122) O ⟨dL_out_120, rfl⟩ (q := 0) rfl ?_
        refine g_iload (pc' := 124) O ⟨dL_out_122, rfl⟩ (q := 9) rfl ?_
        refine g_ishl (pc' := 125) O ⟨dL_out_124, rfl⟩ ?_
        refine g_ior (pc' := 126) O ⟨dL_out_125, rfl⟩ ?_
        refine g_nm E (fun y5_10 E => ?_)
        refine g_istore (pc' := 128) O ⟨dL_out_126, rfl⟩ (lv' := [(5, .int y5_10), (12, .int y12_9), (11, .int z_8), (1, .int x1), (2, .int x2), (3, .int x3), (4, .ref b0), (6, .int x6_3), (7, .int y7_4), (8, .int y8_5), (9, .int y9_6), (10, .int y10_7)]) (by decide) rfl ?_
        refine g_iinc (pc' := 131) O ⟨dL_out_128, rfl⟩ (q := 7) (v := x6_3 + (1 : Int32)) (lv' := [(6, .int (x6_3 + (1 : Int32))), (5, .int y5_10), (12, .int y12_9), (11, .int z_8), (1, .int x1), (2, .int x2), (3, .int x3), (4, .ref b0), (7, .int y7_4), (8, .int y8_5), (9, .int y9_6), (10, .int y10_7)]) rfl rfl (by decide) rfl ?_
        refine g_goto (pc' := 134) O ⟨dL_out_131, rfl⟩ (tgt := 6) (by decide) ?_
        refine g_sub (lv' := [(1, .int x1), (2, .int x2), (3, .int x3), (4, .ref b0), (5, .int y5_10), (6, .int (x6_3 + (1 : Int32)))]) [4, 5, 6, 7, 1, 0] rfl ?_
        exact ih6 _ _ E
      · intro k88 hk88 E
        refine g_icmp_eq (pc' := 56) O ⟨dL_out_53, rfl⟩ E (tgt := 64) (by decide) (fun E => ?_) (fun E => ?_)
        · refine g_iload_n (pc' := 65) O ⟨dL_out_64, rfl⟩ (q := 6) rfl rfl ?_
          refine g_if_ne (pc' := 68) O ⟨dL_out_65, rfl⟩ E (tgt := 73) (by decide) (fun E => ?_) (fun E => ?_)
          · refine g_iload_n (pc' := 74) O ⟨dL_out_73, rfl⟩ (q := 6) rfl rfl ?_
            refine g_iconst (pc' := 75) O ⟨dL_out_74, rfl⟩ (v := (1 : Int32)) rfl ?_
            refine g_icmp_ne (pc' := 78) O ⟨dL_out_75, rfl⟩ E (tgt := 83) (by decide) (fun E => ?_) (fun E => ?_)
            · refine g_iload (pc' := 85) O ⟨dL_out_83, rfl⟩ (q := 1) rfl ?_
              refine g_iload (pc' := 87) O ⟨dL_out_85, rfl⟩ (q := 0) rfl ?_
              refine g_ior (pc' := 88) O ⟨dL_out_87, rfl⟩ ?_
              refine g_sub (lv' := [(1, .int x1), (2, .int x2), (3, .int x3), (4, .ref b0), (5, .int x5_2), (6, .int x6_3), (7, .int y7_4), (8, .int y8_5), (9, .int y9_6), (10, .int y10_7)]) [4, 5, 6, 7, 8, 9, 3, 2, 1, 0] rfl ?_
              exact hk88 _ E
            · refine g_iload (pc' := 80) O ⟨dL_out_78, rfl⟩ (q := 0) rfl ?_
              refine g_goto (pc' := 83) O ⟨dL_out_80, rfl⟩ (tgt := 88) (by decide) ?_
              refine g_sub (lv' := [(1, .int x1), (2, .int x2), (3, .int x3), (4, .ref b0), (5, .int x5_2), (6, .int x6_3), (7, .int y7_4), (8, .int y8_5), (9, .int y9_6), (10, .int y10_7)]) [4, 5, 6, 7, 8, 9, 3, 2, 1, 0] rfl ?_
              exact hk88 _ E
          · refine g_iload (pc' := 70) O ⟨dL_out_68, rfl⟩ (q := 1) rfl ?_
            refine g_goto (pc' := 73) O ⟨dL_out_70, rfl⟩ (tgt := 88) (by decide) ?_
            refine g_sub (lv' := [(1, .int x1), (2, .int x2), (3, .int x3), (4, .ref b0), (5, .int x5_2), (6, .int x6_3), (7, .int y7_4), (8, .int y8_5), (9, .int y9_6), (10, .int y10_7)]) [4, 5, 6, 7, 8, 9, 3, 2, 1, 0] rfl ?_
            exact hk88 _ E
        · refine g_iload (pc' := 58) O ⟨dL_out_56, rfl⟩ (q := 1) rfl ?_
          refine g_iload (pc' := 60) O ⟨dL_out_58, rfl⟩ (q := 0) rfl ?_
          refine g_iand (pc' := 61) O ⟨dL_out_60, rfl⟩ ?_
          refine g_goto (pc' := 64) O ⟨dL_out_61, rfl⟩ (tgt := 88) (by decide) ?_
          refine g_sub (lv' := [(1, .int x1), (2, .int x2), (3, .int x3), (4, .ref b0), (5, .int x5_2), (6, .int x6_3), (7, .int y7_4), (8, .int y8_5), (9, .int y9_6), (10, .int y10_7)]) [4, 5, 6, 7, 8, 9, 3, 2, 1, 0] rfl ?_
          exact hk88 _ E
set_option maxRecDepth 100000 in
set_option maxHeartbeats 4000000 in
theorem t_L_upright (l : Launch) (D : va_G) (cy : Nat → ClassId) (hfl : l.stackTraces = false) {x0 : Int32} {x1 : Int32} {x2 : Int32}  {o : Int32} (E : f_L_upright x0 x1 x2 = some o) : CtMI l D cy (WA0 cy) yL_upright cL_upright 5 .boolean 0 0 0 0 [.int x0, .int x1, .int x2] () o () := by
  refine sMI (own := RL) rfl rfl (Nat.le_of_ble_eq_true rfl) (fun X O hN hret => ?_)
  show G l D X 5 (WA0 cy) 0 0 () 0 [(0, .int x0), (1, .int x1), (2, .int x2)] []
  unfold f_L_upright at E
  refine g_iload_n (pc' := 1) O ⟨dL_upright_0, rfl⟩ (q := 0) rfl rfl ?_
  refine g_iload_n (pc' := 2) O ⟨dL_upright_1, rfl⟩ (q := 1) rfl rfl ?_
  refine g_ishr (pc' := 3) O ⟨dL_upright_2, rfl⟩ ?_
  refine g_iconst (pc' := 4) O ⟨dL_upright_3, rfl⟩ (v := (1 : Int32)) rfl ?_
  refine g_iload_n (pc' := 5) O ⟨dL_upright_4, rfl⟩ (q := 2) rfl rfl ?_
  refine g_iload_n (pc' := 6) O ⟨dL_upright_5, rfl⟩ (q := 1) rfl rfl ?_
  refine g_isub (pc' := 7) O ⟨dL_upright_6, rfl⟩ ?_
  refine g_ishl (pc' := 8) O ⟨dL_upright_7, rfl⟩ ?_
  refine g_iconst (pc' := 9) O ⟨dL_upright_8, rfl⟩ (v := (1 : Int32)) rfl ?_
  refine g_isub (pc' := 10) O ⟨dL_upright_9, rfl⟩ ?_
  refine g_iand (pc' := 11) O ⟨dL_upright_10, rfl⟩ ?_
  refine g_nm E (fun y3_1 E => ?_)
  refine g_istore_n (pc' := 12) O ⟨dL_upright_11, rfl⟩ (lv' := [(3, .int y3_1), (0, .int x0), (1, .int x1), (2, .int x2)]) rfl (by decide) rfl ?_
  refine g_iload_n (pc' := 13) O ⟨dL_upright_12, rfl⟩ (q := 0) rfl rfl ?_
  refine g_iconst (pc' := 14) O ⟨dL_upright_13, rfl⟩ (v := (-1 : Int32)) rfl ?_
  refine g_ixor (pc' := 15) O ⟨dL_upright_14, rfl⟩ ?_
  refine g_iconst (pc' := 16) O ⟨dL_upright_15, rfl⟩ (v := (1 : Int32)) rfl ?_
  refine g_iload_n (pc' := 17) O ⟨dL_upright_16, rfl⟩ (q := 3) rfl rfl ?_
  refine g_iload_n (pc' := 18) O ⟨dL_upright_17, rfl⟩ (q := 2) rfl rfl ?_
  refine g_isub (pc' := 19) O ⟨dL_upright_18, rfl⟩ ?_
  refine g_ishl (pc' := 20) O ⟨dL_upright_19, rfl⟩ ?_
  refine g_iconst (pc' := 21) O ⟨dL_upright_20, rfl⟩ (v := (1 : Int32)) rfl ?_
  refine g_isub (pc' := 22) O ⟨dL_upright_21, rfl⟩ ?_
  refine g_iand (pc' := 23) O ⟨dL_upright_22, rfl⟩ ?_
  refine g_nm E (fun y4_2 E => ?_)
  refine g_istore (pc' := 25) O ⟨dL_upright_23, rfl⟩ (lv' := [(4, .int y4_2), (3, .int y3_1), (0, .int x0), (1, .int x1), (2, .int x2)]) (by decide) rfl ?_
  refine g_iload (pc' := 27) O ⟨dL_upright_25, rfl⟩ (q := 0) rfl ?_
  refine g_iload (pc' := 29) O ⟨dL_upright_27, rfl⟩ (q := 0) rfl ?_
  refine g_iconst (pc' := 30) O ⟨dL_upright_29, rfl⟩ (v := (1 : Int32)) rfl ?_
  refine g_iadd (pc' := 31) O ⟨dL_upright_30, rfl⟩ ?_
  refine g_iand (pc' := 32) O ⟨dL_upright_31, rfl⟩ ?_
  refine g_if_ne (pc' := 35) O ⟨dL_upright_32, rfl⟩ E (tgt := 39) (by decide) (fun E => ?_) (fun E => ?_)
  · refine g_iconst (pc' := 40) O ⟨dL_upright_39, rfl⟩ (v := (0 : Int32)) rfl ?_
    obtain ⟨hn, E⟩ := ckz_of E
    cases E
    exact hret _ _ _ _ _ (Nat.le_of_ble_eq_true rfl) (Nat.le_of_ble_eq_true rfl) ⟨dL_upright_40, rfl⟩ hn
  · refine g_iconst (pc' := 36) O ⟨dL_upright_35, rfl⟩ (v := (1 : Int32)) rfl ?_
    refine g_goto (pc' := 39) O ⟨dL_upright_36, rfl⟩ (tgt := 40) (by decide) ?_
    obtain ⟨hn, E⟩ := ckz_of E
    cases E
    exact hret _ _ _ _ _ (Nat.le_of_ble_eq_true rfl) (Nat.le_of_ble_eq_true rfl) ⟨dL_upright_40, rfl⟩ hn
set_option maxRecDepth 100000 in
set_option maxHeartbeats 4000000 in
theorem t_L_next (l : Launch) (D : va_G) (cy : Nat → ClassId) (hfl : l.stackTraces = false) (b0 : Nat) {x1 : Int32} {r0 : Row} {o : Int32 × Row} (E : f_L_next x1 r0 = some o) : CtMI l D cy (WA1 cy 6 b0) yL_next cL_next 7 .boolean 0 0 0 0 [.ref b0, .int x1] r0 o.1 o.2 := by
  refine sMI (own := RL) rfl rfl (Nat.le_of_ble_eq_true rfl) (fun X O hN hret => ?_)
  show G l D X 7 (WA1 cy 6 b0) 0 0 r0 0 [(0, .ref b0), (1, .int x1)] []
  unfold f_L_next at E
  refine g_iload_n (pc' := 1) O ⟨dL_next_0, rfl⟩ (q := 1) rfl rfl ?_
  refine g_iconst (pc' := 2) O ⟨dL_next_1, rfl⟩ (v := (2 : Int32)) rfl ?_
  refine g_isub (pc' := 3) O ⟨dL_next_2, rfl⟩ ?_
  refine g_nm E (fun y2_1 E => ?_)
  refine g_istore_n (pc' := 4) O ⟨dL_next_3, rfl⟩ (lv' := [(2, .int y2_1), (0, .ref b0), (1, .int x1)]) rfl (by decide) rfl ?_
  refine jn1_of (P := fun (x2_2 : Int32) => G l D X 7 (WA1 cy 6 b0) 0 0 r0 25 [(0, .ref b0), (1, .int x1), (2, .int x2_2)] []) E ?_ ?_
  · intro x2_2 E
    show G l D X 7 (WA1 cy 6 b0) 0 0 r0 25 [(0, .ref b0), (1, .int x1), (2, .int x2_2)] []
    refine g_iload_n (pc' := 26) O ⟨dL_next_25, rfl⟩ (q := 2) rfl rfl ?_
    refine g_if_ge (pc' := 29) O ⟨dL_next_26, rfl⟩ E (tgt := 31) (by decide) (fun E => ?_) (fun E => ?_)
    · refine g_iload_n (pc' := 32) O ⟨dL_next_31, rfl⟩ (q := 1) rfl rfl ?_
      refine g_iconst (pc' := 33) O ⟨dL_next_32, rfl⟩ (v := (1 : Int32)) rfl ?_
      refine g_isub (pc' := 34) O ⟨dL_next_33, rfl⟩ ?_
      refine g_nm E (fun y3_3 E => ?_)
      refine g_istore_n (pc' := 35) O ⟨dL_next_34, rfl⟩ (lv' := [(3, .int y3_3), (0, .ref b0), (1, .int x1), (2, .int x2_2)]) rfl (by decide) rfl ?_
      refine jn1_of (P := fun (x3_4 : Int32) => G l D X 7 (WA1 cy 6 b0) 0 0 r0 50 [(0, .ref b0), (1, .int x1), (2, .int x2_2), (3, .int x3_4)] []) E ?_ ?_
      · intro x3_4 E
        show G l D X 7 (WA1 cy 6 b0) 0 0 r0 50 [(0, .ref b0), (1, .int x1), (2, .int x2_2), (3, .int x3_4)] []
        refine g_aload_n (pc' := 51) O ⟨dL_next_50, rfl⟩ (q := 0) rfl rfl ?_
        refine g_iload_n (pc' := 52) O ⟨dL_next_51, rfl⟩ (q := 2) rfl rfl ?_
        refine g_iald (pc' := 53) O ⟨dL_next_52, rfl⟩ zA1_0 E (fun E => ?_)
        refine g_istore (pc' := 55) O ⟨dL_next_53, rfl⟩ (lv' := [(4, .int (r0 x2_2.toNatClampNeg)), (0, .ref b0), (1, .int x1), (2, .int x2_2), (3, .int x3_4)]) (by decide) rfl ?_
        refine g_aload_n (pc' := 56) O ⟨dL_next_55, rfl⟩ (q := 1) rfl rfl ?_
        refine g_iload_n (pc' := 57) O ⟨dL_next_56, rfl⟩ (q := 3) rfl rfl ?_
        refine g_aload_n (pc' := 58) O ⟨dL_next_57, rfl⟩ (q := 1) rfl rfl ?_
        refine g_iload_n (pc' := 59) O ⟨dL_next_58, rfl⟩ (q := 4) rfl rfl ?_
        refine g_iald (pc' := 60) O ⟨dL_next_59, rfl⟩ zA1_0 E (fun E => ?_)
        refine g_iast (pc' := 61) O ⟨dL_next_60, rfl⟩ zA1_0 zsA1_0 E (fun E => ?_)
        refine g_nmr (Go := fun (r0_5 : Row) => G l D X 7 (WA1 cy 6 b0) 0 0 r0_5 61 [(4, .int (r0 x2_2.toNatClampNeg)), (0, .ref b0), (1, .int x1), (2, .int x2_2), (3, .int x3_4)] []) E (fun r0_5 E => ?_)
        show G l D X 7 (WA1 cy 6 b0) 0 0 r0_5 61 [(4, .int (r0 x2_2.toNatClampNeg)), (0, .ref b0), (1, .int x1), (2, .int x2_2), (3, .int x3_4)] []
        refine g_aload_n (pc' := 62) O ⟨dL_next_61, rfl⟩ (q := 1) rfl rfl ?_
        refine g_iload_n (pc' := 63) O ⟨dL_next_62, rfl⟩ (q := 4) rfl rfl ?_
        refine g_iload (pc' := 65) O ⟨dL_next_63, rfl⟩ (q := 0) rfl ?_
        refine g_iast (pc' := 66) O ⟨dL_next_65, rfl⟩ zA1_0 zsA1_0 E (fun E => ?_)
        refine g_nmr (Go := fun (r0_6 : Row) => G l D X 7 (WA1 cy 6 b0) 0 0 r0_6 66 [(4, .int (r0 x2_2.toNatClampNeg)), (0, .ref b0), (1, .int x1), (2, .int x2_2), (3, .int x3_4)] []) E (fun r0_6 E => ?_)
        show G l D X 7 (WA1 cy 6 b0) 0 0 r0_6 66 [(4, .int (r0 x2_2.toNatClampNeg)), (0, .ref b0), (1, .int x1), (2, .int x2_2), (3, .int x3_4)] []
        refine g_iload_n (pc' := 67) O ⟨dL_next_66, rfl⟩ (q := 3) rfl rfl ?_
        refine g_iconst (pc' := 68) O ⟨dL_next_67, rfl⟩ (v := (1 : Int32)) rfl ?_
        refine g_iadd (pc' := 69) O ⟨dL_next_68, rfl⟩ ?_
        refine g_nm E (fun y5_7 E => ?_)
        refine g_istore (pc' := 71) O ⟨dL_next_69, rfl⟩ (lv' := [(5, .int y5_7), (4, .int (r0 x2_2.toNatClampNeg)), (0, .ref b0), (1, .int x1), (2, .int x2_2), (3, .int x3_4)]) (by decide) rfl ?_
        refine jn1_of (P := fun (r0_8 : Row) => G l D X 7 (WA1 cy 6 b0) 0 0 r0_8 116 [] []) E ?_ ?_
        · intro r0_8 E
          show G l D X 7 (WA1 cy 6 b0) 0 0 r0_8 116 [] []
          refine g_iconst (pc' := 117) O ⟨dL_next_116, rfl⟩ (v := (1 : Int32)) rfl ?_
          obtain ⟨hn, E⟩ := ckz_of E
          cases E
          exact hret _ _ _ _ _ (Nat.le_of_ble_eq_true rfl) (Nat.le_of_ble_eq_true rfl) ⟨dL_next_117, rfl⟩ hn
        · intro k116 hk116 E
          refine g_sub (lv' := [(0, .ref b0), (1, .int x1), (2, .int x2_2), (5, .int y5_7)]) [2, 3, 4, 0] rfl ?_
          refine fx2_of (P := fun (x5_9 : Int32) (r0_10 : Row) => G l D X 7 (WA1 cy 6 b0) 0 0 r0_10 71 [(0, .ref b0), (1, .int x1), (2, .int x2_2), (5, .int x5_9)] []) ?_ _ _ _ E
          intro self ih71 x5_9 r0_10 E
          show G l D X 7 (WA1 cy 6 b0) 0 0 r0_10 71 [(0, .ref b0), (1, .int x1), (2, .int x2_2), (5, .int x5_9)] []
          unfold L_L_next_71 at E
          refine g_iload (pc' := 73) O ⟨dL_next_71, rfl⟩ (q := 3) rfl ?_
          refine g_iload_n (pc' := 74) O ⟨dL_next_73, rfl⟩ (q := 1) rfl rfl ?_
          refine g_iload (pc' := 76) O ⟨dL_next_74, rfl⟩ (q := 3) rfl ?_
          refine g_iload_n (pc' := 77) O ⟨dL_next_76, rfl⟩ (q := 2) rfl rfl ?_
          refine g_isub (pc' := 78) O ⟨dL_next_77, rfl⟩ ?_
          refine g_isub (pc' := 79) O ⟨dL_next_78, rfl⟩ ?_
          refine g_icmp_ge (pc' := 82) O ⟨dL_next_79, rfl⟩ E (tgt := 116) (by decide) (fun E => ?_) (fun E => ?_)
          · refine g_sub (lv' := []) [] rfl ?_
            exact hk116 _ E
          · refine g_iload_n (pc' := 83) O ⟨dL_next_82, rfl⟩ (q := 1) rfl rfl ?_
            refine g_iload (pc' := 85) O ⟨dL_next_83, rfl⟩ (q := 3) rfl ?_
            refine g_iload_n (pc' := 86) O ⟨dL_next_85, rfl⟩ (q := 2) rfl rfl ?_
            refine g_isub (pc' := 87) O ⟨dL_next_86, rfl⟩ ?_
            refine g_isub (pc' := 88) O ⟨dL_next_87, rfl⟩ ?_
            refine g_nm E (fun y6_11 E => ?_)
            refine g_istore (pc' := 90) O ⟨dL_next_88, rfl⟩ (lv' := [(6, .int y6_11), (0, .ref b0), (1, .int x1), (2, .int x2_2), (5, .int x5_9)]) (by decide) rfl ?_
            refine g_aload_n (pc' := 91) O ⟨dL_next_90, rfl⟩ (q := 1) rfl rfl ?_
            refine g_iload (pc' := 93) O ⟨dL_next_91, rfl⟩ (q := 4) rfl ?_
            refine g_iald (pc' := 94) O ⟨dL_next_93, rfl⟩ zA1_0 E (fun E => ?_)
            refine g_istore (pc' := 96) O ⟨dL_next_94, rfl⟩ (lv' := [(4, .int (r0_10 x5_9.toNatClampNeg)), (6, .int y6_11), (0, .ref b0), (1, .int x1), (2, .int x2_2), (5, .int x5_9)]) (by decide) rfl ?_
            refine g_aload_n (pc' := 97) O ⟨dL_next_96, rfl⟩ (q := 2) rfl rfl ?_
            refine g_iload (pc' := 99) O ⟨dL_next_97, rfl⟩ (q := 5) rfl ?_
            refine g_aload_n (pc' := 100) O ⟨dL_next_99, rfl⟩ (q := 2) rfl rfl ?_
            refine g_iload (pc' := 102) O ⟨dL_next_100, rfl⟩ (q := 1) rfl ?_
            refine g_iald (pc' := 103) O ⟨dL_next_102, rfl⟩ zA1_0 E (fun E => ?_)
            refine g_iast (pc' := 104) O ⟨dL_next_103, rfl⟩ zA1_0 zsA1_0 E (fun E => ?_)
            refine g_nmr (Go := fun (r0_12 : Row) => G l D X 7 (WA1 cy 6 b0) 0 0 r0_12 104 [(4, .int (r0_10 x5_9.toNatClampNeg)), (6, .int y6_11), (0, .ref b0), (1, .int x1), (2, .int x2_2), (5, .int x5_9)] []) E (fun r0_12 E => ?_)
            show G l D X 7 (WA1 cy 6 b0) 0 0 r0_12 104 [(4, .int (r0_10 x5_9.toNatClampNeg)), (6, .int y6_11), (0, .ref b0), (1, .int x1), (2, .int x2_2), (5, .int x5_9)] []
            refine g_aload_n (pc' := 105) O ⟨dL_next_104, rfl⟩ (q := 2) rfl rfl ?_
            refine g_iload (pc' := 107) O ⟨dL_next_105, rfl⟩ (q := 1) rfl ?_
            refine g_iload (pc' := 109) O ⟨dL_next_107, rfl⟩ (q := 0) rfl ?_
            refine g_iast (pc' := 110) O ⟨dL_next_109, rfl⟩ zA1_0 zsA1_0 E (fun E => ?_)
            refine g_nmr (Go := fun (r0_13 : Row) => G l D X 7 (WA1 cy 6 b0) 0 0 r0_13 110 [(4, .int (r0_10 x5_9.toNatClampNeg)), (6, .int y6_11), (0, .ref b0), (1, .int x1), (2, .int x2_2), (5, .int x5_9)] []) E (fun r0_13 E => ?_)
            show G l D X 7 (WA1 cy 6 b0) 0 0 r0_13 110 [(4, .int (r0_10 x5_9.toNatClampNeg)), (6, .int y6_11), (0, .ref b0), (1, .int x1), (2, .int x2_2), (5, .int x5_9)] []
            refine g_iinc (pc' := 113) O ⟨dL_next_110, rfl⟩ (q := 5) (v := x5_9 + (1 : Int32)) (lv' := [(5, .int (x5_9 + (1 : Int32))), (4, .int (r0_10 x5_9.toNatClampNeg)), (6, .int y6_11), (0, .ref b0), (1, .int x1), (2, .int x2_2)]) rfl rfl (by decide) rfl ?_
            refine g_goto (pc' := 116) O ⟨dL_next_113, rfl⟩ (tgt := 71) (by decide) ?_
            refine g_sub (lv' := [(0, .ref b0), (1, .int x1), (2, .int x2_2), (5, .int (x5_9 + (1 : Int32)))]) [3, 4, 5, 0] rfl ?_
            exact ih71 _ _ E
      · intro k50 hk50 E
        refine g_sub (lv' := [(0, .ref b0), (1, .int x1), (2, .int x2_2), (3, .int y3_3)]) [1, 2, 3, 0] rfl ?_
        refine fx1_of (P := fun (x3_14 : Int32) => G l D X 7 (WA1 cy 6 b0) 0 0 r0 35 [(0, .ref b0), (1, .int x1), (2, .int x2_2), (3, .int x3_14)] []) ?_ _ _ E
        intro self ih35 x3_14 E
        show G l D X 7 (WA1 cy 6 b0) 0 0 r0 35 [(0, .ref b0), (1, .int x1), (2, .int x2_2), (3, .int x3_14)] []
        unfold L_L_next_35 at E
        refine g_aload_n (pc' := 36) O ⟨dL_next_35, rfl⟩ (q := 0) rfl rfl ?_
        refine g_iload_n (pc' := 37) O ⟨dL_next_36, rfl⟩ (q := 3) rfl rfl ?_
        refine g_iald (pc' := 38) O ⟨dL_next_37, rfl⟩ zA1_0 E (fun E => ?_)
        refine g_aload_n (pc' := 39) O ⟨dL_next_38, rfl⟩ (q := 0) rfl rfl ?_
        refine g_iload_n (pc' := 40) O ⟨dL_next_39, rfl⟩ (q := 2) rfl rfl ?_
        refine g_iald (pc' := 41) O ⟨dL_next_40, rfl⟩ zA1_0 E (fun E => ?_)
        refine g_icmp_ge (pc' := 44) O ⟨dL_next_41, rfl⟩ E (tgt := 50) (by decide) (fun E => ?_) (fun E => ?_)
        · exact hk50 _ E
        · refine g_iinc (pc' := 47) O ⟨dL_next_44, rfl⟩ (q := 3) (v := x3_14 + (-1 : Int32)) (lv' := [(3, .int (x3_14 + (-1 : Int32))), (0, .ref b0), (1, .int x1), (2, .int x2_2)]) rfl rfl (by decide) rfl ?_
          refine g_goto (pc' := 50) O ⟨dL_next_47, rfl⟩ (tgt := 35) (by decide) ?_
          refine g_sub (lv' := [(0, .ref b0), (1, .int x1), (2, .int x2_2), (3, .int (x3_14 + (-1 : Int32)))]) [1, 2, 3, 0] rfl ?_
          exact ih35 _ E
    · refine g_iconst (pc' := 30) O ⟨dL_next_29, rfl⟩ (v := (0 : Int32)) rfl ?_
      obtain ⟨hn, E⟩ := ckz_of E
      cases E
      exact hret _ _ _ _ _ (Nat.le_of_ble_eq_true rfl) (Nat.le_of_ble_eq_true rfl) ⟨dL_next_30, rfl⟩ hn
  · intro k25 hk25 E
    refine g_sub (lv' := [(0, .ref b0), (1, .int x1), (2, .int y2_1)]) [1, 2, 0] rfl ?_
    refine fx1_of (P := fun (x2_15 : Int32) => G l D X 7 (WA1 cy 6 b0) 0 0 r0 4 [(0, .ref b0), (1, .int x1), (2, .int x2_15)] []) ?_ _ _ E
    intro self ih4 x2_15 E
    show G l D X 7 (WA1 cy 6 b0) 0 0 r0 4 [(0, .ref b0), (1, .int x1), (2, .int x2_15)] []
    unfold L_L_next_4 at E
    refine g_iload_n (pc' := 5) O ⟨dL_next_4, rfl⟩ (q := 2) rfl rfl ?_
    refine g_if_lt (pc' := 8) O ⟨dL_next_5, rfl⟩ E (tgt := 25) (by decide) (fun E => ?_) (fun E => ?_)
    · exact hk25 _ E
    · refine g_aload_n (pc' := 9) O ⟨dL_next_8, rfl⟩ (q := 0) rfl rfl ?_
      refine g_iload_n (pc' := 10) O ⟨dL_next_9, rfl⟩ (q := 2) rfl rfl ?_
      refine g_iald (pc' := 11) O ⟨dL_next_10, rfl⟩ zA1_0 E (fun E => ?_)
      refine g_aload_n (pc' := 12) O ⟨dL_next_11, rfl⟩ (q := 0) rfl rfl ?_
      refine g_iload_n (pc' := 13) O ⟨dL_next_12, rfl⟩ (q := 2) rfl rfl ?_
      refine g_iconst (pc' := 14) O ⟨dL_next_13, rfl⟩ (v := (1 : Int32)) rfl ?_
      refine g_iadd (pc' := 15) O ⟨dL_next_14, rfl⟩ ?_
      refine g_iald (pc' := 16) O ⟨dL_next_15, rfl⟩ zA1_0 E (fun E => ?_)
      refine g_icmp_le (pc' := 19) O ⟨dL_next_16, rfl⟩ E (tgt := 25) (by decide) (fun E => ?_) (fun E => ?_)
      · exact hk25 _ E
      · refine g_iinc (pc' := 22) O ⟨dL_next_19, rfl⟩ (q := 2) (v := x2_15 + (-1 : Int32)) (lv' := [(2, .int (x2_15 + (-1 : Int32))), (0, .ref b0), (1, .int x1)]) rfl rfl (by decide) rfl ?_
        refine g_goto (pc' := 25) O ⟨dL_next_22, rfl⟩ (tgt := 4) (by decide) ?_
        refine g_sub (lv' := [(0, .ref b0), (1, .int x1), (2, .int (x2_15 + (-1 : Int32)))]) [1, 2, 0] rfl ?_
        exact ih4 _ E
set_option maxRecDepth 100000 in
set_option maxHeartbeats 4000000 in
theorem t_L_code (l : Launch) (D : va_G) (cy : Nat → ClassId) (hfl : l.stackTraces = false) (b0 : Nat) {x1 : Int32} {r0 : Row} {o : Int32} (E : f_L_code x1 r0 = some o) : CtMI l D cy (WA1 cy 6 b0) yL_code cL_code 5 .int 0 0 0 0 [.ref b0, .int x1] r0 o r0 := by
  refine sMI (own := RL) rfl rfl (Nat.le_of_ble_eq_true rfl) (fun X O hN hret => ?_)
  show G l D X 5 (WA1 cy 6 b0) 0 0 r0 0 [(0, .ref b0), (1, .int x1)] []
  unfold f_L_code at E
  refine g_iconst (pc' := 1) O ⟨dL_code_0, rfl⟩ (v := (0 : Int32)) rfl ?_
  refine g_istore_n (pc' := 2) O ⟨dL_code_1, rfl⟩ (lv' := [(2, .int (0 : Int32)), (0, .ref b0), (1, .int x1)]) rfl (by decide) rfl ?_
  refine g_iconst (pc' := 3) O ⟨dL_code_2, rfl⟩ (v := (1 : Int32)) rfl ?_
  refine g_istore_n (pc' := 4) O ⟨dL_code_3, rfl⟩ (lv' := [(3, .int (1 : Int32)), (2, .int (0 : Int32)), (0, .ref b0), (1, .int x1)]) rfl (by decide) rfl ?_
  refine g_iconst (pc' := 5) O ⟨dL_code_4, rfl⟩ (v := (0 : Int32)) rfl ?_
  refine g_istore (pc' := 7) O ⟨dL_code_5, rfl⟩ (lv' := [(4, .int (0 : Int32)), (3, .int (1 : Int32)), (2, .int (0 : Int32)), (0, .ref b0), (1, .int x1)]) (by decide) rfl ?_
  refine jn1_of (P := fun (x2_1 : Int32) => G l D X 5 (WA1 cy 6 b0) 0 0 r0 33 [(2, .int x2_1)] []) E ?_ ?_
  · intro x2_1 E
    show G l D X 5 (WA1 cy 6 b0) 0 0 r0 33 [(2, .int x2_1)] []
    refine g_iload_n (pc' := 34) O ⟨dL_code_33, rfl⟩ (q := 0) rfl rfl ?_
    cases E
    exact hret _ _ _ _ _ (Nat.le_of_ble_eq_true rfl) (Nat.le_of_ble_eq_true rfl) ⟨dL_code_34, rfl⟩ rfl
  · intro k33 hk33 E
    refine g_sub (lv' := [(0, .ref b0), (1, .int x1), (2, .int (0 : Int32)), (3, .int (1 : Int32)), (4, .int (0 : Int32))]) [3, 4, 2, 1, 0] rfl ?_
    refine fx3_of (P := fun (x2_2 : Int32) (x3_3 : Int32) (x4_4 : Int32) => G l D X 5 (WA1 cy 6 b0) 0 0 r0 7 [(0, .ref b0), (1, .int x1), (2, .int x2_2), (3, .int x3_3), (4, .int x4_4)] []) ?_ _ _ _ _ E
    intro self ih7 x2_2 x3_3 x4_4 E
    show G l D X 5 (WA1 cy 6 b0) 0 0 r0 7 [(0, .ref b0), (1, .int x1), (2, .int x2_2), (3, .int x3_3), (4, .int x4_4)] []
    unfold L_L_code_7 at E
    refine g_iload (pc' := 9) O ⟨dL_code_7, rfl⟩ (q := 4) rfl ?_
    refine g_iload_n (pc' := 10) O ⟨dL_code_9, rfl⟩ (q := 1) rfl rfl ?_
    refine g_icmp_ge (pc' := 13) O ⟨dL_code_10, rfl⟩ E (tgt := 33) (by decide) (fun E => ?_) (fun E => ?_)
    · refine g_sub (lv' := [(2, .int x2_2)]) [2] rfl ?_
      exact hk33 _ E
    · refine g_iload_n (pc' := 14) O ⟨dL_code_13, rfl⟩ (q := 2) rfl rfl ?_
      refine g_iload_n (pc' := 15) O ⟨dL_code_14, rfl⟩ (q := 3) rfl rfl ?_
      refine g_aload_n (pc' := 16) O ⟨dL_code_15, rfl⟩ (q := 0) rfl rfl ?_
      refine g_iload (pc' := 18) O ⟨dL_code_16, rfl⟩ (q := 4) rfl ?_
      refine g_iald (pc' := 19) O ⟨dL_code_18, rfl⟩ zA1_0 E (fun E => ?_)
      refine g_imul (pc' := 20) O ⟨dL_code_19, rfl⟩ ?_
      refine g_iadd (pc' := 21) O ⟨dL_code_20, rfl⟩ ?_
      refine g_nm E (fun y2_5 E => ?_)
      refine g_istore_n (pc' := 22) O ⟨dL_code_21, rfl⟩ (lv' := [(2, .int y2_5), (0, .ref b0), (1, .int x1), (3, .int x3_3), (4, .int x4_4)]) rfl (by decide) rfl ?_
      refine g_iload_n (pc' := 23) O ⟨dL_code_22, rfl⟩ (q := 3) rfl rfl ?_
      refine g_bipush (pc' := 25) O ⟨dL_code_23, rfl⟩ (v := (10 : Int32)) rfl ?_
      refine g_imul (pc' := 26) O ⟨dL_code_25, rfl⟩ ?_
      refine g_nm E (fun y3_6 E => ?_)
      refine g_istore_n (pc' := 27) O ⟨dL_code_26, rfl⟩ (lv' := [(3, .int y3_6), (2, .int y2_5), (0, .ref b0), (1, .int x1), (4, .int x4_4)]) rfl (by decide) rfl ?_
      refine g_iinc (pc' := 30) O ⟨dL_code_27, rfl⟩ (q := 4) (v := x4_4 + (1 : Int32)) (lv' := [(4, .int (x4_4 + (1 : Int32))), (3, .int y3_6), (2, .int y2_5), (0, .ref b0), (1, .int x1)]) rfl rfl (by decide) rfl ?_
      refine g_goto (pc' := 33) O ⟨dL_code_30, rfl⟩ (tgt := 7) (by decide) ?_
      refine g_sub (lv' := [(0, .ref b0), (1, .int x1), (2, .int y2_5), (3, .int y3_6), (4, .int (x4_4 + (1 : Int32)))]) [3, 4, 2, 1, 0] rfl ?_
      exact ih7 _ _ _ E
set_option maxRecDepth 100000 in
set_option maxHeartbeats 4000000 in
theorem t_L_runs (l : Launch) (D : va_G) (cy : Nat → ClassId) (hfl : l.stackTraces = false) (b0 : Nat) (b1 : Nat) (b2 : Nat) (b3 : Nat) {x2 : Int32} {r0 : Row} {r1 : Row} {r2 : Row} {r3 : Row} {o : Row} (E : f_L_runs x2 r0 r1 r2 r3 = some o) : CtMV l D cy (WA4 cy 6 6 24 4 b0 b1 b2 b3) yL_runs cL_runs 9 0 0 0 0 [.ref b0, .ref b1, .int x2, .ref b2, .ref b3] (r0, r1, r2, r3) (r0, o, r2, r3) := by
  refine sMV (own := RL) rfl rfl (Nat.le_of_ble_eq_true rfl) (fun X O hN hret => ?_)
  show G l D X 9 (WA4 cy 6 6 24 4 b0 b1 b2 b3) 0 0 (r0, r1, r2, r3) 0 [(0, .ref b0), (1, .ref b1), (2, .int x2), (3, .ref b2), (4, .ref b3)] []
  unfold f_L_runs at E
  refine g_iconst (pc' := 1) O ⟨dL_runs_0, rfl⟩ (v := (0 : Int32)) rfl ?_
  refine g_istore (pc' := 3) O ⟨dL_runs_1, rfl⟩ (lv' := [(5, .int (0 : Int32)), (0, .ref b0), (1, .ref b1), (2, .int x2), (3, .ref b2), (4, .ref b3)]) (by decide) rfl ?_
  refine jn1_of (P := fun (r1_1 : Row) => G l D X 9 (WA4 cy 6 6 24 4 b0 b1 b2 b3) 0 0 (r0, r1_1, r2, r3) 23 [(1, .ref b1), (3, .ref b2), (4, .ref b3)] []) E ?_ ?_
  · intro r1_1 E
    show G l D X 9 (WA4 cy 6 6 24 4 b0 b1 b2 b3) 0 0 (r0, r1_1, r2, r3) 23 [(1, .ref b1), (3, .ref b2), (4, .ref b3)] []
    refine g_iconst (pc' := 24) O ⟨dL_runs_23, rfl⟩ (v := (0 : Int32)) rfl ?_
    refine g_istore (pc' := 26) O ⟨dL_runs_24, rfl⟩ (lv' := [(5, .int (0 : Int32)), (1, .ref b1), (3, .ref b2), (4, .ref b3)]) (by decide) rfl ?_
    refine jn1_of (P := fun (r1_2 : Row) => G l D X 9 (WA4 cy 6 6 24 4 b0 b1 b2 b3) 0 0 (r0, r1_2, r2, r3) 103 [] []) E ?_ ?_
    · intro r1_2 E
      show G l D X 9 (WA4 cy 6 6 24 4 b0 b1 b2 b3) 0 0 (r0, r1_2, r2, r3) 103 [] []
      cases E
      exact hret _ _ _ _ _ (Nat.le_of_ble_eq_true rfl) (Nat.le_of_ble_eq_true rfl) ⟨dL_runs_103, rfl⟩
    · intro k103 hk103 E
      refine g_sub (lv' := [(1, .ref b1), (3, .ref b2), (4, .ref b3), (5, .int (0 : Int32))]) [1, 2, 3, 0] rfl ?_
      refine fx2_of (P := fun (x5_3 : Int32) (r1_4 : Row) => G l D X 9 (WA4 cy 6 6 24 4 b0 b1 b2 b3) 0 0 (r0, r1_4, r2, r3) 26 [(1, .ref b1), (3, .ref b2), (4, .ref b3), (5, .int x5_3)] []) ?_ _ _ _ E
      intro self ih26 x5_3 r1_4 E
      show G l D X 9 (WA4 cy 6 6 24 4 b0 b1 b2 b3) 0 0 (r0, r1_4, r2, r3) 26 [(1, .ref b1), (3, .ref b2), (4, .ref b3), (5, .int x5_3)] []
      unfold L_L_runs_26 at E
      refine g_iload (pc' := 28) O ⟨dL_runs_26, rfl⟩ (q := 3) rfl ?_
      refine g_aload (pc' := 30) O ⟨dL_runs_28, rfl⟩ (q := 2) rfl ?_
      refine g_iconst (pc' := 31) O ⟨dL_runs_30, rfl⟩ (v := (1 : Int32)) rfl ?_
      refine g_iald (pc' := 32) O ⟨dL_runs_31, rfl⟩ zA4_3 E (fun E => ?_)
      refine g_icmp_ge (pc' := 35) O ⟨dL_runs_32, rfl⟩ E (tgt := 103) (by decide) (fun E => ?_) (fun E => ?_)
      · refine g_sub (lv' := []) [] rfl ?_
        exact hk103 _ E
      · refine g_aload_n (pc' := 36) O ⟨dL_runs_35, rfl⟩ (q := 1) rfl rfl ?_
        refine g_iload (pc' := 38) O ⟨dL_runs_36, rfl⟩ (q := 3) rfl ?_
        refine g_iald (pc' := 39) O ⟨dL_runs_38, rfl⟩ zA4_2 E (fun E => ?_)
        refine g_bipush (pc' := 41) O ⟨dL_runs_39, rfl⟩ (v := (8 : Int32)) rfl ?_
        refine g_irem (pc' := 42) O ⟨dL_runs_41, rfl⟩ (by decide) ?_
        refine g_nm E (fun y6_5 E => ?_)
        refine g_istore (pc' := 44) O ⟨dL_runs_42, rfl⟩ (lv' := [(6, .int y6_5), (1, .ref b1), (3, .ref b2), (4, .ref b3), (5, .int x5_3)]) (by decide) rfl ?_
        refine g_aload_n (pc' := 45) O ⟨dL_runs_44, rfl⟩ (q := 2) rfl rfl ?_
        refine g_iload (pc' := 47) O ⟨dL_runs_45, rfl⟩ (q := 4) rfl ?_
        refine g_iald (pc' := 48) O ⟨dL_runs_47, rfl⟩ zA4_2 E (fun E => ?_)
        refine g_bipush (pc' := 50) O ⟨dL_runs_48, rfl⟩ (v := (8 : Int32)) rfl ?_
        refine g_idiv (pc' := 51) O ⟨dL_runs_50, rfl⟩ (by decide) ?_
        refine g_nm E (fun y7_6 E => ?_)
        refine g_istore (pc' := 53) O ⟨dL_runs_51, rfl⟩ (lv' := [(7, .int y7_6), (6, .int y6_5), (1, .ref b1), (3, .ref b2), (4, .ref b3), (5, .int x5_3)]) (by decide) rfl ?_
        refine g_aload_n (pc' := 54) O ⟨dL_runs_53, rfl⟩ (q := 2) rfl rfl ?_
        refine g_iload (pc' := 56) O ⟨dL_runs_54, rfl⟩ (q := 1) rfl ?_
        refine g_iald (pc' := 57) O ⟨dL_runs_56, rfl⟩ zA4_1 E (fun E => ?_)
        refine g_aload_n (pc' := 58) O ⟨dL_runs_57, rfl⟩ (q := 2) rfl rfl ?_
        refine g_iload (pc' := 60) O ⟨dL_runs_58, rfl⟩ (q := 0) rfl ?_
        refine g_iald (pc' := 61) O ⟨dL_runs_60, rfl⟩ zA4_1 E (fun E => ?_)
        refine jn1_of (P := fun (z_7 : Int32) => G l D X 9 (WA4 cy 6 6 24 4 b0 b1 b2 b3) 0 0 (r0, r1_4, r2, r3) 75 [(1, .ref b1), (3, .ref b2), (4, .ref b3), (5, .int x5_3), (6, .int y6_5), (7, .int y7_6)] [.int z_7]) E ?_ ?_
        · intro z_7 E
          show G l D X 9 (WA4 cy 6 6 24 4 b0 b1 b2 b3) 0 0 (r0, r1_4, r2, r3) 75 [(1, .ref b1), (3, .ref b2), (4, .ref b3), (5, .int x5_3), (6, .int y6_5), (7, .int y7_6)] [.int z_7]
          refine g_istore (pc' := 77) O ⟨dL_runs_75, rfl⟩ (lv' := [(8, .int z_7), (1, .ref b1), (3, .ref b2), (4, .ref b3), (5, .int x5_3), (6, .int y6_5), (7, .int y7_6)]) (by decide) rfl ?_
          refine g_aload_n (pc' := 78) O ⟨dL_runs_77, rfl⟩ (q := 1) rfl rfl ?_
          refine g_iload (pc' := 80) O ⟨dL_runs_78, rfl⟩ (q := 6) rfl ?_
          refine g_dup2 (pc' := 81) O ⟨dL_runs_80, rfl⟩ rfl rfl ?_
          refine g_iald (pc' := 82) O ⟨dL_runs_81, rfl⟩ zA4_1 E (fun E => ?_)
          refine g_aload_n (pc' := 83) O ⟨dL_runs_82, rfl⟩ (q := 1) rfl rfl ?_
          refine g_iload (pc' := 85) O ⟨dL_runs_83, rfl⟩ (q := 5) rfl ?_
          refine g_iald (pc' := 86) O ⟨dL_runs_85, rfl⟩ zA4_1 E (fun E => ?_)
          refine g_iload (pc' := 88) O ⟨dL_runs_86, rfl⟩ (q := 0) rfl ?_
          refine g_isub (pc' := 89) O ⟨dL_runs_88, rfl⟩ ?_
          refine g_iadd (pc' := 90) O ⟨dL_runs_89, rfl⟩ ?_
          refine g_iast (pc' := 91) O ⟨dL_runs_90, rfl⟩ zA4_1 zsA4_1 E (fun E => ?_)
          refine g_nmr (Go := fun (r1_8 : Row) => G l D X 9 (WA4 cy 6 6 24 4 b0 b1 b2 b3) 0 0 (r0, r1_8, r2, r3) 91 [(8, .int z_7), (1, .ref b1), (3, .ref b2), (4, .ref b3), (5, .int x5_3), (6, .int y6_5), (7, .int y7_6)] []) E (fun r1_8 E => ?_)
          show G l D X 9 (WA4 cy 6 6 24 4 b0 b1 b2 b3) 0 0 (r0, r1_8, r2, r3) 91 [(8, .int z_7), (1, .ref b1), (3, .ref b2), (4, .ref b3), (5, .int x5_3), (6, .int y6_5), (7, .int y7_6)] []
          refine g_aload_n (pc' := 92) O ⟨dL_runs_91, rfl⟩ (q := 1) rfl rfl ?_
          refine g_iload (pc' := 94) O ⟨dL_runs_92, rfl⟩ (q := 5) rfl ?_
          refine g_iload (pc' := 96) O ⟨dL_runs_94, rfl⟩ (q := 0) rfl ?_
          refine g_iast (pc' := 97) O ⟨dL_runs_96, rfl⟩ zA4_1 zsA4_1 E (fun E => ?_)
          refine g_nmr (Go := fun (r1_9 : Row) => G l D X 9 (WA4 cy 6 6 24 4 b0 b1 b2 b3) 0 0 (r0, r1_9, r2, r3) 97 [(8, .int z_7), (1, .ref b1), (3, .ref b2), (4, .ref b3), (5, .int x5_3), (6, .int y6_5), (7, .int y7_6)] []) E (fun r1_9 E => ?_)
          show G l D X 9 (WA4 cy 6 6 24 4 b0 b1 b2 b3) 0 0 (r0, r1_9, r2, r3) 97 [(8, .int z_7), (1, .ref b1), (3, .ref b2), (4, .ref b3), (5, .int x5_3), (6, .int y6_5), (7, .int y7_6)] []
          refine g_iinc (pc' := 100) O ⟨dL_runs_97, rfl⟩ (q := 4) (v := x5_3 + (1 : Int32)) (lv' := [(5, .int (x5_3 + (1 : Int32))), (8, .int z_7), (1, .ref b1), (3, .ref b2), (4, .ref b3), (6, .int y6_5), (7, .int y7_6)]) rfl rfl (by decide) rfl ?_
          refine g_goto (pc' := 103) O ⟨dL_runs_100, rfl⟩ (tgt := 26) (by decide) ?_
          refine g_sub (lv' := [(1, .ref b1), (3, .ref b2), (4, .ref b3), (5, .int (x5_3 + (1 : Int32)))]) [2, 3, 4, 0] rfl ?_
          exact ih26 _ _ E
        · intro k75 hk75 E
          refine g_icmp_ge (pc' := 64) O ⟨dL_runs_61, rfl⟩ E (tgt := 71) (by decide) (fun E => ?_) (fun E => ?_)
          · refine g_aload_n (pc' := 72) O ⟨dL_runs_71, rfl⟩ (q := 2) rfl rfl ?_
            refine g_iload (pc' := 74) O ⟨dL_runs_72, rfl⟩ (q := 0) rfl ?_
            refine g_iald (pc' := 75) O ⟨dL_runs_74, rfl⟩ zA4_1 E (fun E => ?_)
            refine g_sub (lv' := [(1, .ref b1), (3, .ref b2), (4, .ref b3), (5, .int x5_3), (6, .int y6_5), (7, .int y7_6)]) [2, 3, 4, 5, 1, 0] rfl ?_
            exact hk75 _ E
          · refine g_aload_n (pc' := 65) O ⟨dL_runs_64, rfl⟩ (q := 2) rfl rfl ?_
            refine g_iload (pc' := 67) O ⟨dL_runs_65, rfl⟩ (q := 1) rfl ?_
            refine g_iald (pc' := 68) O ⟨dL_runs_67, rfl⟩ zA4_1 E (fun E => ?_)
            refine g_goto (pc' := 71) O ⟨dL_runs_68, rfl⟩ (tgt := 75) (by decide) ?_
            refine g_sub (lv' := [(1, .ref b1), (3, .ref b2), (4, .ref b3), (5, .int x5_3), (6, .int y6_5), (7, .int y7_6)]) [2, 3, 4, 5, 1, 0] rfl ?_
            exact hk75 _ E
  · intro k23 hk23 E
    refine g_sub (lv' := [(0, .ref b0), (1, .ref b1), (2, .int x2), (3, .ref b2), (4, .ref b3), (5, .int (0 : Int32))]) [1, 2, 3, 4, 5, 0] rfl ?_
    refine fx2_of (P := fun (x5_10 : Int32) (r1_11 : Row) => G l D X 9 (WA4 cy 6 6 24 4 b0 b1 b2 b3) 0 0 (r0, r1_11, r2, r3) 3 [(0, .ref b0), (1, .ref b1), (2, .int x2), (3, .ref b2), (4, .ref b3), (5, .int x5_10)] []) ?_ _ _ _ E
    intro self ih3 x5_10 r1_11 E
    show G l D X 9 (WA4 cy 6 6 24 4 b0 b1 b2 b3) 0 0 (r0, r1_11, r2, r3) 3 [(0, .ref b0), (1, .ref b1), (2, .int x2), (3, .ref b2), (4, .ref b3), (5, .int x5_10)] []
    unfold L_L_runs_3 at E
    refine g_iload (pc' := 5) O ⟨dL_runs_3, rfl⟩ (q := 5) rfl ?_
    refine g_iload_n (pc' := 6) O ⟨dL_runs_5, rfl⟩ (q := 2) rfl rfl ?_
    refine g_icmp_ge (pc' := 9) O ⟨dL_runs_6, rfl⟩ E (tgt := 23) (by decide) (fun E => ?_) (fun E => ?_)
    · refine g_sub (lv' := [(1, .ref b1), (3, .ref b2), (4, .ref b3)]) [1, 3, 4] rfl ?_
      exact hk23 _ E
    · refine g_aload_n (pc' := 10) O ⟨dL_runs_9, rfl⟩ (q := 1) rfl rfl ?_
      refine g_iload (pc' := 12) O ⟨dL_runs_10, rfl⟩ (q := 5) rfl ?_
      refine g_aload_n (pc' := 13) O ⟨dL_runs_12, rfl⟩ (q := 0) rfl rfl ?_
      refine g_iload (pc' := 15) O ⟨dL_runs_13, rfl⟩ (q := 5) rfl ?_
      refine g_iald (pc' := 16) O ⟨dL_runs_15, rfl⟩ zA4_0 E (fun E => ?_)
      refine g_iast (pc' := 17) O ⟨dL_runs_16, rfl⟩ zA4_1 zsA4_1 E (fun E => ?_)
      refine g_nmr (Go := fun (r1_12 : Row) => G l D X 9 (WA4 cy 6 6 24 4 b0 b1 b2 b3) 0 0 (r0, r1_12, r2, r3) 17 [(0, .ref b0), (1, .ref b1), (2, .int x2), (3, .ref b2), (4, .ref b3), (5, .int x5_10)] []) E (fun r1_12 E => ?_)
      show G l D X 9 (WA4 cy 6 6 24 4 b0 b1 b2 b3) 0 0 (r0, r1_12, r2, r3) 17 [(0, .ref b0), (1, .ref b1), (2, .int x2), (3, .ref b2), (4, .ref b3), (5, .int x5_10)] []
      refine g_iinc (pc' := 20) O ⟨dL_runs_17, rfl⟩ (q := 5) (v := x5_10 + (1 : Int32)) (lv' := [(5, .int (x5_10 + (1 : Int32))), (0, .ref b0), (1, .ref b1), (2, .int x2), (3, .ref b2), (4, .ref b3)]) rfl rfl (by decide) rfl ?_
      refine g_goto (pc' := 23) O ⟨dL_runs_20, rfl⟩ (tgt := 3) (by decide) ?_
      refine g_sub (lv' := [(0, .ref b0), (1, .ref b1), (2, .int x2), (3, .ref b2), (4, .ref b3), (5, .int (x5_10 + (1 : Int32)))]) [1, 2, 3, 4, 5, 0] rfl ?_
      exact ih3 _ _ E
set_option maxRecDepth 100000 in
set_option maxHeartbeats 4000000 in
theorem t_L_often (l : Launch) (D : va_G) (cy : Nat → ClassId) (hfl : l.stackTraces = false) (b0 : Nat) (b1 : Nat) {x0 : Int32} {r0 : Row} {r1 : Row} {o : Int32} (E : f_L_often x0 r0 r1 = some o) : CtMI l D cy (WA2 cy 24 4 b0 b1) yL_often cL_often 5 .int 1 32 0 0 [.int x0, .ref b0, .ref b1] (r0, r1) o (r0, r1) := by
  refine sMI (own := RL) rfl rfl (Nat.le_of_ble_eq_true rfl) (fun X O hN hret => ?_)
  show G l D X 5 (WA2 cy 24 4 b0 b1) 0 0 (r0, r1) 0 [(0, .int x0), (1, .ref b0), (2, .ref b1)] []
  unfold f_L_often at E
  refine g_iconst (pc' := 1) O ⟨dL_often_0, rfl⟩ (v := (0 : Int32)) rfl ?_
  refine g_istore_n (pc' := 2) O ⟨dL_often_1, rfl⟩ (lv' := [(3, .int (0 : Int32)), (0, .int x0), (1, .ref b0), (2, .ref b1)]) rfl (by decide) rfl ?_
  refine g_iconst (pc' := 3) O ⟨dL_often_2, rfl⟩ (v := (0 : Int32)) rfl ?_
  refine g_istore (pc' := 5) O ⟨dL_often_3, rfl⟩ (lv' := [(4, .int (0 : Int32)), (3, .int (0 : Int32)), (0, .int x0), (1, .ref b0), (2, .ref b1)]) (by decide) rfl ?_
  refine jn1_of (P := fun (x3_1 : Int32) => G l D X 5 (WA2 cy 24 4 b0 b1) 0 0 (r0, r1) 52 [(3, .int x3_1)] []) E ?_ ?_
  · intro x3_1 E
    show G l D X 5 (WA2 cy 24 4 b0 b1) 0 0 (r0, r1) 52 [(3, .int x3_1)] []
    refine g_iload_n (pc' := 53) O ⟨dL_often_52, rfl⟩ (q := 0) rfl rfl ?_
    cases E
    exact hret _ _ _ _ _ (Nat.le_of_ble_eq_true rfl) (Nat.le_of_ble_eq_true rfl) ⟨dL_often_53, rfl⟩ rfl
  · intro k52 hk52 E
    refine g_sub (lv' := [(0, .int x0), (1, .ref b0), (2, .ref b1), (3, .int (0 : Int32)), (4, .int (0 : Int32))]) [2, 3, 4, 1, 0] rfl ?_
    refine fx2_of (P := fun (x3_2 : Int32) (x4_3 : Int32) => G l D X 5 (WA2 cy 24 4 b0 b1) 0 0 (r0, r1) 5 [(0, .int x0), (1, .ref b0), (2, .ref b1), (3, .int x3_2), (4, .int x4_3)] []) ?_ _ _ _ E
    intro self ih5 x3_2 x4_3 E
    show G l D X 5 (WA2 cy 24 4 b0 b1) 0 0 (r0, r1) 5 [(0, .int x0), (1, .ref b0), (2, .ref b1), (3, .int x3_2), (4, .int x4_3)] []
    unfold L_L_often_5 at E
    refine g_iload (pc' := 7) O ⟨dL_often_5, rfl⟩ (q := 4) rfl ?_
    refine g_iconst (pc' := 8) O ⟨dL_often_7, rfl⟩ (v := (1 : Int32)) rfl ?_
    refine g_aload_n (pc' := 9) O ⟨dL_often_8, rfl⟩ (q := 2) rfl rfl ?_
    refine g_iconst (pc' := 10) O ⟨dL_often_9, rfl⟩ (v := (0 : Int32)) rfl ?_
    refine g_iald (pc' := 11) O ⟨dL_often_10, rfl⟩ zA2_1 E (fun E => ?_)
    refine g_ishl (pc' := 12) O ⟨dL_often_11, rfl⟩ ?_
    refine g_icmp_ge (pc' := 15) O ⟨dL_often_12, rfl⟩ E (tgt := 52) (by decide) (fun E => ?_) (fun E => ?_)
    · refine g_sub (lv' := [(3, .int x3_2)]) [3] rfl ?_
      exact hk52 _ E
    · refine g_iload_n (pc' := 16) O ⟨dL_often_15, rfl⟩ (q := 3) rfl rfl ?_
      refine g_iload (pc' := 18) O ⟨dL_often_16, rfl⟩ (q := 4) rfl ?_
      refine g_iload_n (pc' := 19) O ⟨dL_often_18, rfl⟩ (q := 0) rfl rfl ?_
      refine g_iconst (pc' := 20) O ⟨dL_often_19, rfl⟩ (v := (-1 : Int32)) rfl ?_
      refine g_iconst (pc' := 21) O ⟨dL_often_20, rfl⟩ (v := (0 : Int32)) rfl ?_
      refine g_aload_n (pc' := 22) O ⟨dL_often_21, rfl⟩ (q := 1) rfl rfl ?_
      obtain ⟨r_4, c_5, E⟩ := bd_of E
      refine g_MSi (pc' := 25) O hN ⟨dL_often_22, rfl⟩ (y := yL_out) (As := [.int x4_3, .int x0, .int (-1 : Int32), .int (0 : Int32), .ref b0]) (st := [.int x3_2]) (put := (fun g => (g, r1))) sub_A2_A0 (t_L_out l D cy hfl b0 c_5) kw_565 kw_24 kw_563 kw_564 hd_L_out ⟨Nat.le_of_ble_eq_true rfl, Nat.le_of_ble_eq_true rfl⟩ ⟨Nat.le_of_ble_eq_true rfl, Nat.le_of_ble_eq_true rfl⟩ rfl (Nat.le_of_ble_eq_true rfl) ?_
      show G l D X 5 (WA2 cy 24 4 b0 b1) 0 0 (r0, r1) 25 [(0, .int x0), (1, .ref b0), (2, .ref b1), (3, .int x3_2), (4, .int x4_3)] [.int r_4, .int x3_2]
      refine g_iload (pc' := 27) O ⟨dL_often_25, rfl⟩ (q := 4) rfl ?_
      refine g_iload_n (pc' := 28) O ⟨dL_often_27, rfl⟩ (q := 0) rfl rfl ?_
      refine g_iconst (pc' := 29) O ⟨dL_often_28, rfl⟩ (v := (1 : Int32)) rfl ?_
      refine g_iadd (pc' := 30) O ⟨dL_often_29, rfl⟩ ?_
      refine g_iconst (pc' := 31) O ⟨dL_often_30, rfl⟩ (v := (-1 : Int32)) rfl ?_
      refine g_iconst (pc' := 32) O ⟨dL_often_31, rfl⟩ (v := (0 : Int32)) rfl ?_
      refine g_aload_n (pc' := 33) O ⟨dL_often_32, rfl⟩ (q := 1) rfl rfl ?_
      obtain ⟨r_6, c_7, E⟩ := bd_of E
      refine g_MSi (pc' := 36) O hN ⟨dL_often_33, rfl⟩ (y := yL_out) (As := [.int x4_3, .int (x0 + (1 : Int32)), .int (-1 : Int32), .int (0 : Int32), .ref b0]) (st := [.int r_4, .int x3_2]) (put := (fun g => (g, r1))) sub_A2_A0 (t_L_out l D cy hfl b0 c_7) kw_565 kw_24 kw_563 kw_564 hd_L_out ⟨Nat.le_of_ble_eq_true rfl, Nat.le_of_ble_eq_true rfl⟩ ⟨Nat.le_of_ble_eq_true rfl, Nat.le_of_ble_eq_true rfl⟩ rfl (Nat.le_of_ble_eq_true rfl) ?_
      show G l D X 5 (WA2 cy 24 4 b0 b1) 0 0 (r0, r1) 36 [(0, .int x0), (1, .ref b0), (2, .ref b1), (3, .int x3_2), (4, .int x4_3)] [.int r_6, .int r_4, .int x3_2]
      refine g_icmp_ne (pc' := 39) O ⟨dL_often_36, rfl⟩ E (tgt := 43) (by decide) (fun E => ?_) (fun E => ?_)
      · refine g_iconst (pc' := 44) O ⟨dL_often_43, rfl⟩ (v := (1 : Int32)) rfl ?_
        refine g_iadd (pc' := 45) O ⟨dL_often_44, rfl⟩ ?_
        refine g_nm E (fun y3_8 E => ?_)
        refine g_istore_n (pc' := 46) O ⟨dL_often_45, rfl⟩ (lv' := [(3, .int y3_8), (0, .int x0), (1, .ref b0), (2, .ref b1), (4, .int x4_3)]) rfl (by decide) rfl ?_
        refine g_iinc (pc' := 49) O ⟨dL_often_46, rfl⟩ (q := 4) (v := x4_3 + (1 : Int32)) (lv' := [(4, .int (x4_3 + (1 : Int32))), (3, .int y3_8), (0, .int x0), (1, .ref b0), (2, .ref b1)]) rfl rfl (by decide) rfl ?_
        refine g_goto (pc' := 52) O ⟨dL_often_49, rfl⟩ (tgt := 5) (by decide) ?_
        refine g_sub (lv' := [(0, .int x0), (1, .ref b0), (2, .ref b1), (3, .int y3_8), (4, .int (x4_3 + (1 : Int32)))]) [2, 3, 4, 1, 0] rfl ?_
        exact ih5 _ _ E
      · refine g_iconst (pc' := 40) O ⟨dL_often_39, rfl⟩ (v := (0 : Int32)) rfl ?_
        refine g_goto (pc' := 43) O ⟨dL_often_40, rfl⟩ (tgt := 44) (by decide) ?_
        refine g_iadd (pc' := 45) O ⟨dL_often_44, rfl⟩ ?_
        refine g_nm E (fun y3_9 E => ?_)
        refine g_istore_n (pc' := 46) O ⟨dL_often_45, rfl⟩ (lv' := [(3, .int y3_9), (0, .int x0), (1, .ref b0), (2, .ref b1), (4, .int x4_3)]) rfl (by decide) rfl ?_
        refine g_iinc (pc' := 49) O ⟨dL_often_46, rfl⟩ (q := 4) (v := x4_3 + (1 : Int32)) (lv' := [(4, .int (x4_3 + (1 : Int32))), (3, .int y3_9), (0, .int x0), (1, .ref b0), (2, .ref b1)]) rfl rfl (by decide) rfl ?_
        refine g_goto (pc' := 52) O ⟨dL_often_49, rfl⟩ (tgt := 5) (by decide) ?_
        refine g_sub (lv' := [(0, .int x0), (1, .ref b0), (2, .ref b1), (3, .int y3_9), (4, .int (x4_3 + (1 : Int32)))]) [2, 3, 4, 1, 0] rfl ?_
        exact ih5 _ _ E
set_option maxRecDepth 100000 in
set_option maxHeartbeats 4000000 in
theorem t_L_layers (l : Launch) (D : va_G) (cy : Nat → ClassId) (hfl : l.stackTraces = false) (b0 : Nat) (b1 : Nat) (b2 : Nat)  {r0 : Row} {r1 : Row} {r2 : Row} {o : Int32 × Row} (E : f_L_layers r0 r1 r2 = some o) : CtMI l D cy (WA3 cy 24 24 4 b0 b1 b2) yL_layers cL_layers 8 .int 0 0 1 6 [.ref b0, .ref b1, .ref b2] (r0, r1, r2) o.1 (o.2, r1, r2) := by
  refine sMI (own := RL) rfl rfl (Nat.le_of_ble_eq_true rfl) (fun X O hN hret => ?_)
  show G l D X 8 (WA3 cy 24 24 4 b0 b1 b2) 0 0 (r0, r1, r2) 0 [(0, .ref b0), (1, .ref b1), (2, .ref b2)] []
  unfold f_L_layers at E
  refine g_bipush (pc' := 2) O ⟨dL_layers_0, rfl⟩ (v := (6 : Int32)) rfl ?_
  refine g_newr (pc' := 4) O ⟨dL_layers_2, rfl⟩ (N' := 6) (wf2 := fun b3 => (WA4 cy 24 24 4 6 b0 b1 b2 b3)) (h2 := (r0, r1, r2, (fun _ => 0))) kw_94 rfl (by decide) (by decide) ⟨Nat.le_of_ble_eq_true rfl, Nat.le_of_ble_eq_true rfl⟩ (fun _ => rfl) (fun b3 => ?_)
  show G l D X 8 (WA4 cy 24 24 4 6 b0 b1 b2 b3) 1 6 (r0, r1, r2, (fun _ => 0)) 4 [(0, .ref b0), (1, .ref b1), (2, .ref b2)] [.ref b3]
  refine g_astore_n (pc' := 5) O ⟨dL_layers_4, rfl⟩ (lv' := [(3, .ref b3), (0, .ref b0), (1, .ref b1), (2, .ref b2)]) rfl (by decide) rfl ?_
  refine g_iconst (pc' := 6) O ⟨dL_layers_5, rfl⟩ (v := (0 : Int32)) rfl ?_
  refine g_istore (pc' := 8) O ⟨dL_layers_6, rfl⟩ (lv' := [(4, .int (0 : Int32)), (3, .ref b3), (0, .ref b0), (1, .ref b1), (2, .ref b2)]) (by decide) rfl ?_
  refine g_iconst (pc' := 9) O ⟨dL_layers_8, rfl⟩ (v := (0 : Int32)) rfl ?_
  refine g_istore (pc' := 11) O ⟨dL_layers_9, rfl⟩ (lv' := [(5, .int (0 : Int32)), (4, .int (0 : Int32)), (3, .ref b3), (0, .ref b0), (1, .ref b1), (2, .ref b2)]) (by decide) rfl ?_
  refine jn3_of (P := fun (x4_1 : Int32) (r0_2 : Row) (r3_3 : Row) => G l D X 8 (WA4 cy 24 24 4 6 b0 b1 b2 b3) 1 6 (r0_2, r1, r2, r3_3) 117 [(4, .int x4_1)] []) E ?_ ?_
  · intro x4_1 r0_2 r3_3 E
    show G l D X 8 (WA4 cy 24 24 4 6 b0 b1 b2 b3) 1 6 (r0_2, r1, r2, r3_3) 117 [(4, .int x4_1)] []
    refine g_iload (pc' := 119) O ⟨dL_layers_117, rfl⟩ (q := 0) rfl ?_
    cases E
    refine g_drop (wf := (WA3 cy 24 24 4 b0 b1 b2)) (h := (r0_2, r1, r2)) (List.range 3) rfl rfl (by decide) ?_
    exact hret _ _ _ _ _ (Nat.le_of_ble_eq_true rfl) (Nat.le_of_ble_eq_true rfl) ⟨dL_layers_119, rfl⟩ rfl
  · intro k117 hk117 E
    refine g_sub (lv' := [(0, .ref b0), (1, .ref b1), (2, .ref b2), (3, .ref b3), (4, .int (0 : Int32)), (5, .int (0 : Int32))]) [3, 4, 5, 2, 1, 0] rfl ?_
    refine fx4_of (P := fun (x4_4 : Int32) (x5_5 : Int32) (r0_6 : Row) (r3_7 : Row) => G l D X 8 (WA4 cy 24 24 4 6 b0 b1 b2 b3) 1 6 (r0_6, r1, r2, r3_7) 11 [(0, .ref b0), (1, .ref b1), (2, .ref b2), (3, .ref b3), (4, .int x4_4), (5, .int x5_5)] []) ?_ _ _ _ _ _ E
    intro self ih11 x4_4 x5_5 r0_6 r3_7 E
    show G l D X 8 (WA4 cy 24 24 4 6 b0 b1 b2 b3) 1 6 (r0_6, r1, r2, r3_7) 11 [(0, .ref b0), (1, .ref b1), (2, .ref b2), (3, .ref b3), (4, .int x4_4), (5, .int x5_5)] []
    unfold L_L_layers_11 at E
    refine g_iload (pc' := 13) O ⟨dL_layers_11, rfl⟩ (q := 5) rfl ?_
    refine g_aload_n (pc' := 14) O ⟨dL_layers_13, rfl⟩ (q := 2) rfl rfl ?_
    refine g_iconst (pc' := 15) O ⟨dL_layers_14, rfl⟩ (v := (1 : Int32)) rfl ?_
    refine g_iald (pc' := 16) O ⟨dL_layers_15, rfl⟩ zA4_2 E (fun E => ?_)
    refine g_icmp_ge (pc' := 19) O ⟨dL_layers_16, rfl⟩ E (tgt := 117) (by decide) (fun E => ?_) (fun E => ?_)
    · refine g_sub (lv' := [(4, .int x4_4)]) [4] rfl ?_
      exact hk117 _ _ _ E
    · refine g_aload_n (pc' := 20) O ⟨dL_layers_19, rfl⟩ (q := 3) rfl rfl ?_
      refine g_aload_n (pc' := 21) O ⟨dL_layers_20, rfl⟩ (q := 1) rfl rfl ?_
      refine g_iload (pc' := 23) O ⟨dL_layers_21, rfl⟩ (q := 5) rfl ?_
      refine g_iald (pc' := 24) O ⟨dL_layers_23, rfl⟩ zA4_1 E (fun E => ?_)
      refine g_bipush (pc' := 26) O ⟨dL_layers_24, rfl⟩ (v := (8 : Int32)) rfl ?_
      refine g_irem (pc' := 27) O ⟨dL_layers_26, rfl⟩ (by decide) ?_
      refine g_iald (pc' := 28) O ⟨dL_layers_27, rfl⟩ zA4_3 E (fun E => ?_)
      refine g_nm E (fun y6_8 E => ?_)
      refine g_istore (pc' := 30) O ⟨dL_layers_28, rfl⟩ (lv' := [(6, .int y6_8), (0, .ref b0), (1, .ref b1), (2, .ref b2), (3, .ref b3), (4, .int x4_4), (5, .int x5_5)]) (by decide) rfl ?_
      refine g_aload_n (pc' := 31) O ⟨dL_layers_30, rfl⟩ (q := 4) rfl rfl ?_
      refine g_aload_n (pc' := 32) O ⟨dL_layers_31, rfl⟩ (q := 2) rfl rfl ?_
      refine g_iload (pc' := 34) O ⟨dL_layers_32, rfl⟩ (q := 6) rfl ?_
      refine g_iald (pc' := 35) O ⟨dL_layers_34, rfl⟩ zA4_1 E (fun E => ?_)
      refine g_bipush (pc' := 37) O ⟨dL_layers_35, rfl⟩ (v := (8 : Int32)) rfl ?_
      refine g_idiv (pc' := 38) O ⟨dL_layers_37, rfl⟩ (by decide) ?_
      refine g_iald (pc' := 39) O ⟨dL_layers_38, rfl⟩ zA4_3 E (fun E => ?_)
      refine g_nm E (fun y7_9 E => ?_)
      refine g_istore (pc' := 41) O ⟨dL_layers_39, rfl⟩ (lv' := [(7, .int y7_9), (6, .int y6_8), (0, .ref b0), (1, .ref b1), (2, .ref b2), (3, .ref b3), (4, .int x4_4), (5, .int x5_5)]) (by decide) rfl ?_
      refine g_aload_n (pc' := 42) O ⟨dL_layers_41, rfl⟩ (q := 2) rfl rfl ?_
      refine g_iload (pc' := 44) O ⟨dL_layers_42, rfl⟩ (q := 7) rfl ?_
      refine g_iload (pc' := 46) O ⟨dL_layers_44, rfl⟩ (q := 1) rfl ?_
      refine g_iload (pc' := 48) O ⟨dL_layers_46, rfl⟩ (q := 0) rfl ?_
      refine jn1_of (P := fun (z_10 : Int32) => G l D X 8 (WA4 cy 24 24 4 6 b0 b1 b2 b3) 1 6 (r0_6, r1, r2, r3_7) 58 [(0, .ref b0), (1, .ref b1), (2, .ref b2), (3, .ref b3), (4, .int x4_4), (5, .int x5_5)] [.int z_10, .int x5_5, .ref b0]) E ?_ ?_
      · intro z_10 E
        show G l D X 8 (WA4 cy 24 24 4 6 b0 b1 b2 b3) 1 6 (r0_6, r1, r2, r3_7) 58 [(0, .ref b0), (1, .ref b1), (2, .ref b2), (3, .ref b3), (4, .int x4_4), (5, .int x5_5)] [.int z_10, .int x5_5, .ref b0]
        refine g_iast (pc' := 59) O ⟨dL_layers_58, rfl⟩ zA4_0 zsA4_0 E (fun E => ?_)
        refine g_nmr (Go := fun (r0_11 : Row) => G l D X 8 (WA4 cy 24 24 4 6 b0 b1 b2 b3) 1 6 (r0_11, r1, r2, r3_7) 59 [(0, .ref b0), (1, .ref b1), (2, .ref b2), (3, .ref b3), (4, .int x4_4), (5, .int x5_5)] []) E (fun r0_11 E => ?_)
        show G l D X 8 (WA4 cy 24 24 4 6 b0 b1 b2 b3) 1 6 (r0_11, r1, r2, r3_7) 59 [(0, .ref b0), (1, .ref b1), (2, .ref b2), (3, .ref b3), (4, .int x4_4), (5, .int x5_5)] []
        refine g_aload_n (pc' := 60) O ⟨dL_layers_59, rfl⟩ (q := 3) rfl rfl ?_
        refine g_aload_n (pc' := 61) O ⟨dL_layers_60, rfl⟩ (q := 1) rfl rfl ?_
        refine g_iload (pc' := 63) O ⟨dL_layers_61, rfl⟩ (q := 5) rfl ?_
        refine g_iald (pc' := 64) O ⟨dL_layers_63, rfl⟩ zA4_1 E (fun E => ?_)
        refine g_bipush (pc' := 66) O ⟨dL_layers_64, rfl⟩ (v := (8 : Int32)) rfl ?_
        refine g_irem (pc' := 67) O ⟨dL_layers_66, rfl⟩ (by decide) ?_
        refine g_aload_n (pc' := 68) O ⟨dL_layers_67, rfl⟩ (q := 0) rfl rfl ?_
        refine g_iload (pc' := 70) O ⟨dL_layers_68, rfl⟩ (q := 5) rfl ?_
        refine g_iald (pc' := 71) O ⟨dL_layers_70, rfl⟩ zA4_0 E (fun E => ?_)
        refine g_iconst (pc' := 72) O ⟨dL_layers_71, rfl⟩ (v := (1 : Int32)) rfl ?_
        refine g_iadd (pc' := 73) O ⟨dL_layers_72, rfl⟩ ?_
        refine g_iast (pc' := 74) O ⟨dL_layers_73, rfl⟩ zA4_3 zsA4_3 E (fun E => ?_)
        refine g_nmr (Go := fun (r3_12 : Row) => G l D X 8 (WA4 cy 24 24 4 6 b0 b1 b2 b3) 1 6 (r0_11, r1, r2, r3_12) 74 [(0, .ref b0), (1, .ref b1), (2, .ref b2), (3, .ref b3), (4, .int x4_4), (5, .int x5_5)] []) E (fun r3_12 E => ?_)
        show G l D X 8 (WA4 cy 24 24 4 6 b0 b1 b2 b3) 1 6 (r0_11, r1, r2, r3_12) 74 [(0, .ref b0), (1, .ref b1), (2, .ref b2), (3, .ref b3), (4, .int x4_4), (5, .int x5_5)] []
        refine g_aload_n (pc' := 75) O ⟨dL_layers_74, rfl⟩ (q := 3) rfl rfl ?_
        refine g_aload_n (pc' := 76) O ⟨dL_layers_75, rfl⟩ (q := 1) rfl rfl ?_
        refine g_iload (pc' := 78) O ⟨dL_layers_76, rfl⟩ (q := 5) rfl ?_
        refine g_iald (pc' := 79) O ⟨dL_layers_78, rfl⟩ zA4_1 E (fun E => ?_)
        refine g_bipush (pc' := 81) O ⟨dL_layers_79, rfl⟩ (v := (8 : Int32)) rfl ?_
        refine g_idiv (pc' := 82) O ⟨dL_layers_81, rfl⟩ (by decide) ?_
        refine g_aload_n (pc' := 83) O ⟨dL_layers_82, rfl⟩ (q := 0) rfl rfl ?_
        refine g_iload (pc' := 85) O ⟨dL_layers_83, rfl⟩ (q := 5) rfl ?_
        refine g_iald (pc' := 86) O ⟨dL_layers_85, rfl⟩ zA4_0 E (fun E => ?_)
        refine g_iconst (pc' := 87) O ⟨dL_layers_86, rfl⟩ (v := (1 : Int32)) rfl ?_
        refine g_iadd (pc' := 88) O ⟨dL_layers_87, rfl⟩ ?_
        refine g_iast (pc' := 89) O ⟨dL_layers_88, rfl⟩ zA4_3 zsA4_3 E (fun E => ?_)
        refine g_nmr (Go := fun (r3_13 : Row) => G l D X 8 (WA4 cy 24 24 4 6 b0 b1 b2 b3) 1 6 (r0_11, r1, r2, r3_13) 89 [(0, .ref b0), (1, .ref b1), (2, .ref b2), (3, .ref b3), (4, .int x4_4), (5, .int x5_5)] []) E (fun r3_13 E => ?_)
        show G l D X 8 (WA4 cy 24 24 4 6 b0 b1 b2 b3) 1 6 (r0_11, r1, r2, r3_13) 89 [(0, .ref b0), (1, .ref b1), (2, .ref b2), (3, .ref b3), (4, .int x4_4), (5, .int x5_5)] []
        refine g_aload_n (pc' := 90) O ⟨dL_layers_89, rfl⟩ (q := 0) rfl rfl ?_
        refine g_iload (pc' := 92) O ⟨dL_layers_90, rfl⟩ (q := 5) rfl ?_
        refine g_iald (pc' := 93) O ⟨dL_layers_92, rfl⟩ zA4_0 E (fun E => ?_)
        refine g_iload (pc' := 95) O ⟨dL_layers_93, rfl⟩ (q := 4) rfl ?_
        refine g_icmp_lt (pc' := 98) O ⟨dL_layers_95, rfl⟩ E (tgt := 107) (by decide) (fun E => ?_) (fun E => ?_)
        · refine g_iload (pc' := 109) O ⟨dL_layers_107, rfl⟩ (q := 4) rfl ?_
          refine g_istore (pc' := 111) O ⟨dL_layers_109, rfl⟩ (lv' := [(4, .int x4_4), (0, .ref b0), (1, .ref b1), (2, .ref b2), (3, .ref b3), (5, .int x5_5)]) (by decide) rfl ?_
          refine g_iinc (pc' := 114) O ⟨dL_layers_111, rfl⟩ (q := 5) (v := x5_5 + (1 : Int32)) (lv' := [(5, .int (x5_5 + (1 : Int32))), (4, .int x4_4), (0, .ref b0), (1, .ref b1), (2, .ref b2), (3, .ref b3)]) rfl rfl (by decide) rfl ?_
          refine g_goto (pc' := 117) O ⟨dL_layers_114, rfl⟩ (tgt := 11) (by decide) ?_
          refine g_sub (lv' := [(0, .ref b0), (1, .ref b1), (2, .ref b2), (3, .ref b3), (4, .int x4_4), (5, .int (x5_5 + (1 : Int32)))]) [2, 3, 4, 5, 1, 0] rfl ?_
          exact ih11 _ _ _ _ E
        · refine g_aload_n (pc' := 99) O ⟨dL_layers_98, rfl⟩ (q := 0) rfl rfl ?_
          refine g_iload (pc' := 101) O ⟨dL_layers_99, rfl⟩ (q := 5) rfl ?_
          refine g_iald (pc' := 102) O ⟨dL_layers_101, rfl⟩ zA4_0 E (fun E => ?_)
          refine g_iconst (pc' := 103) O ⟨dL_layers_102, rfl⟩ (v := (1 : Int32)) rfl ?_
          refine g_iadd (pc' := 104) O ⟨dL_layers_103, rfl⟩ ?_
          refine g_goto (pc' := 107) O ⟨dL_layers_104, rfl⟩ (tgt := 109) (by decide) ?_
          refine g_nm E (fun y4_14 E => ?_)
          refine g_istore (pc' := 111) O ⟨dL_layers_109, rfl⟩ (lv' := [(4, .int y4_14), (0, .ref b0), (1, .ref b1), (2, .ref b2), (3, .ref b3), (5, .int x5_5)]) (by decide) rfl ?_
          refine g_iinc (pc' := 114) O ⟨dL_layers_111, rfl⟩ (q := 5) (v := x5_5 + (1 : Int32)) (lv' := [(5, .int (x5_5 + (1 : Int32))), (4, .int y4_14), (0, .ref b0), (1, .ref b1), (2, .ref b2), (3, .ref b3)]) rfl rfl (by decide) rfl ?_
          refine g_goto (pc' := 117) O ⟨dL_layers_114, rfl⟩ (tgt := 11) (by decide) ?_
          refine g_sub (lv' := [(0, .ref b0), (1, .ref b1), (2, .ref b2), (3, .ref b3), (4, .int y4_14), (5, .int (x5_5 + (1 : Int32)))]) [2, 3, 4, 5, 1, 0] rfl ?_
          exact ih11 _ _ _ _ E
      · intro k58 hk58 E
        refine g_icmp_le (pc' := 51) O ⟨dL_layers_48, rfl⟩ E (tgt := 56) (by decide) (fun E => ?_) (fun E => ?_)
        · refine g_iload (pc' := 58) O ⟨dL_layers_56, rfl⟩ (q := 0) rfl ?_
          refine g_sub (lv' := [(0, .ref b0), (1, .ref b1), (2, .ref b2), (3, .ref b3), (4, .int x4_4), (5, .int x5_5)]) [2, 3, 4, 5, 6, 7] rfl ?_
          exact hk58 _ E
        · refine g_iload (pc' := 53) O ⟨dL_layers_51, rfl⟩ (q := 1) rfl ?_
          refine g_goto (pc' := 56) O ⟨dL_layers_53, rfl⟩ (tgt := 58) (by decide) ?_
          refine g_sub (lv' := [(0, .ref b0), (1, .ref b1), (2, .ref b2), (3, .ref b3), (4, .int x4_4), (5, .int x5_5)]) [2, 3, 4, 5, 6, 7] rfl ?_
          exact hk58 _ E
set_option maxRecDepth 100000 in
set_option maxHeartbeats 4000000 in
theorem t_L_puts (l : Launch) (D : va_G) (cy : Nat → ClassId) (hfl : l.stackTraces = false) (b0 : Nat) (b1 : Nat) {x0 : Int32} {x1 : Int32} {r0 : Row} {r1 : Row} {o : Row × Row} (E : f_L_puts x0 x1 r0 r1 = some o) : CtMV l D cy (WA2 cy 24 4 b0 b1) yL_puts cL_puts 4 0 0 0 0 [.int x0, .int x1, .ref b0, .ref b1] (r0, r1) (o.1, o.2) := by
  refine sMV (own := RL) rfl rfl (Nat.le_of_ble_eq_true rfl) (fun X O hN hret => ?_)
  show G l D X 4 (WA2 cy 24 4 b0 b1) 0 0 (r0, r1) 0 [(0, .int x0), (1, .int x1), (2, .ref b0), (3, .ref b1)] []
  unfold f_L_puts at E
  refine g_aload_n (pc' := 1) O ⟨dL_puts_0, rfl⟩ (q := 2) rfl rfl ?_
  refine g_aload_n (pc' := 2) O ⟨dL_puts_1, rfl⟩ (q := 3) rfl rfl ?_
  refine g_iconst (pc' := 3) O ⟨dL_puts_2, rfl⟩ (v := (1 : Int32)) rfl ?_
  refine g_iald (pc' := 4) O ⟨dL_puts_3, rfl⟩ zA2_1 E (fun E => ?_)
  refine g_iload_n (pc' := 5) O ⟨dL_puts_4, rfl⟩ (q := 0) rfl rfl ?_
  refine g_bipush (pc' := 7) O ⟨dL_puts_5, rfl⟩ (v := (8 : Int32)) rfl ?_
  refine g_iload_n (pc' := 8) O ⟨dL_puts_7, rfl⟩ (q := 1) rfl rfl ?_
  refine g_imul (pc' := 9) O ⟨dL_puts_8, rfl⟩ ?_
  refine g_iadd (pc' := 10) O ⟨dL_puts_9, rfl⟩ ?_
  refine g_iast (pc' := 11) O ⟨dL_puts_10, rfl⟩ zA2_0 zsA2_0 E (fun E => ?_)
  refine g_nmr (Go := fun (r0_1 : Row) => G l D X 4 (WA2 cy 24 4 b0 b1) 0 0 (r0_1, r1) 11 [(0, .int x0), (1, .int x1), (2, .ref b0), (3, .ref b1)] []) E (fun r0_1 E => ?_)
  show G l D X 4 (WA2 cy 24 4 b0 b1) 0 0 (r0_1, r1) 11 [(0, .int x0), (1, .int x1), (2, .ref b0), (3, .ref b1)] []
  refine g_aload_n (pc' := 12) O ⟨dL_puts_11, rfl⟩ (q := 3) rfl rfl ?_
  refine g_iconst (pc' := 13) O ⟨dL_puts_12, rfl⟩ (v := (1 : Int32)) rfl ?_
  refine g_dup2 (pc' := 14) O ⟨dL_puts_13, rfl⟩ rfl rfl ?_
  refine g_iald (pc' := 15) O ⟨dL_puts_14, rfl⟩ zA2_1 E (fun E => ?_)
  refine g_iconst (pc' := 16) O ⟨dL_puts_15, rfl⟩ (v := (1 : Int32)) rfl ?_
  refine g_iadd (pc' := 17) O ⟨dL_puts_16, rfl⟩ ?_
  refine g_iast (pc' := 18) O ⟨dL_puts_17, rfl⟩ zA2_1 zsA2_1 E (fun E => ?_)
  refine g_nmr (Go := fun (r1_2 : Row) => G l D X 4 (WA2 cy 24 4 b0 b1) 0 0 (r0_1, r1_2) 18 [(0, .int x0), (1, .int x1), (2, .ref b0), (3, .ref b1)] []) E (fun r1_2 E => ?_)
  show G l D X 4 (WA2 cy 24 4 b0 b1) 0 0 (r0_1, r1_2) 18 [(0, .int x0), (1, .int x1), (2, .ref b0), (3, .ref b1)] []
  cases E
  exact hret _ _ _ _ _ (Nat.le_of_ble_eq_true rfl) (Nat.le_of_ble_eq_true rfl) ⟨dL_puts_18, rfl⟩
set_option maxRecDepth 100000 in
set_option maxHeartbeats 4000000 in
theorem t_L_made (l : Launch) (D : va_G) (cy : Nat → ClassId) (hfl : l.stackTraces = false) {x0 : Int32} {x1 : Int32}  {o : Int32} (E : f_L_made x0 x1 = some o) : CtMI l D cy (WA0 cy) yL_made cL_made 2 .int 0 0 0 0 [.int x0, .int x1] () o () := by
  refine sMI (own := RL) rfl rfl (Nat.le_of_ble_eq_true rfl) (fun X O hN hret => ?_)
  show G l D X 2 (WA0 cy) 0 0 () 0 [(0, .int x0), (1, .int x1)] []
  unfold f_L_made at E
  refine g_iload_n (pc' := 1) O ⟨dL_made_0, rfl⟩ (q := 0) rfl rfl ?_
  refine jn0_of (P := G l D X 2 (WA0 cy) 0 0 () 9 [(1, .int x1)] []) E ?_ ?_
  · intro E
    show G l D X 2 (WA0 cy) 0 0 () 9 [(1, .int x1)] []
    refine g_iload_n (pc' := 10) O ⟨dL_made_9, rfl⟩ (q := 0) rfl rfl ?_
    refine g_iload_n (pc' := 11) O ⟨dL_made_10, rfl⟩ (q := 0) rfl rfl ?_
    refine g_iconst (pc' := 12) O ⟨dL_made_11, rfl⟩ (v := (1 : Int32)) rfl ?_
    refine g_isub (pc' := 13) O ⟨dL_made_12, rfl⟩ ?_
    refine g_imul (pc' := 14) O ⟨dL_made_13, rfl⟩ ?_
    refine g_iconst (pc' := 15) O ⟨dL_made_14, rfl⟩ (v := (2 : Int32)) rfl ?_
    refine g_idiv (pc' := 16) O ⟨dL_made_15, rfl⟩ (by decide) ?_
    refine g_goto (pc' := 19) O ⟨dL_made_16, rfl⟩ (tgt := 48) (by decide) ?_
    cases E
    exact hret _ _ _ _ _ (Nat.le_of_ble_eq_true rfl) (Nat.le_of_ble_eq_true rfl) ⟨dL_made_48, rfl⟩ rfl
  · intro k9 hk9 E
    refine g_if_eq (pc' := 4) O ⟨dL_made_1, rfl⟩ E (tgt := 9) (by decide) (fun E => ?_) (fun E => ?_)
    · refine g_sub (lv' := [(1, .int x1)]) [1] rfl ?_
      exact hk9 E
    · refine g_iload_n (pc' := 5) O ⟨dL_made_4, rfl⟩ (q := 0) rfl rfl ?_
      refine g_iconst (pc' := 6) O ⟨dL_made_5, rfl⟩ (v := (1 : Int32)) rfl ?_
      refine g_icmp_ne (pc' := 9) O ⟨dL_made_6, rfl⟩ E (tgt := 19) (by decide) (fun E => ?_) (fun E => ?_)
      · refine g_iload_n (pc' := 20) O ⟨dL_made_19, rfl⟩ (q := 1) rfl rfl ?_
        refine g_iconst (pc' := 21) O ⟨dL_made_20, rfl⟩ (v := (2 : Int32)) rfl ?_
        refine g_icmp_ne (pc' := 24) O ⟨dL_made_21, rfl⟩ E (tgt := 28) (by decide) (fun E => ?_) (fun E => ?_)
        · refine g_iload_n (pc' := 29) O ⟨dL_made_28, rfl⟩ (q := 1) rfl rfl ?_
          refine g_iconst (pc' := 30) O ⟨dL_made_29, rfl⟩ (v := (3 : Int32)) rfl ?_
          refine g_icmp_ne (pc' := 33) O ⟨dL_made_30, rfl⟩ E (tgt := 37) (by decide) (fun E => ?_) (fun E => ?_)
          · refine g_iload_n (pc' := 38) O ⟨dL_made_37, rfl⟩ (q := 1) rfl rfl ?_
            refine g_iconst (pc' := 39) O ⟨dL_made_38, rfl⟩ (v := (4 : Int32)) rfl ?_
            refine g_icmp_ne (pc' := 42) O ⟨dL_made_39, rfl⟩ E (tgt := 46) (by decide) (fun E => ?_) (fun E => ?_)
            · refine g_bipush (pc' := 48) O ⟨dL_made_46, rfl⟩ (v := (9 : Int32)) rfl ?_
              cases E
              exact hret _ _ _ _ _ (Nat.le_of_ble_eq_true rfl) (Nat.le_of_ble_eq_true rfl) ⟨dL_made_48, rfl⟩ rfl
            · refine g_iconst (pc' := 43) O ⟨dL_made_42, rfl⟩ (v := (5 : Int32)) rfl ?_
              refine g_goto (pc' := 46) O ⟨dL_made_43, rfl⟩ (tgt := 48) (by decide) ?_
              cases E
              exact hret _ _ _ _ _ (Nat.le_of_ble_eq_true rfl) (Nat.le_of_ble_eq_true rfl) ⟨dL_made_48, rfl⟩ rfl
          · refine g_iconst (pc' := 34) O ⟨dL_made_33, rfl⟩ (v := (3 : Int32)) rfl ?_
            refine g_goto (pc' := 37) O ⟨dL_made_34, rfl⟩ (tgt := 48) (by decide) ?_
            cases E
            exact hret _ _ _ _ _ (Nat.le_of_ble_eq_true rfl) (Nat.le_of_ble_eq_true rfl) ⟨dL_made_48, rfl⟩ rfl
        · refine g_iconst (pc' := 25) O ⟨dL_made_24, rfl⟩ (v := (1 : Int32)) rfl ?_
          refine g_goto (pc' := 28) O ⟨dL_made_25, rfl⟩ (tgt := 48) (by decide) ?_
          cases E
          exact hret _ _ _ _ _ (Nat.le_of_ble_eq_true rfl) (Nat.le_of_ble_eq_true rfl) ⟨dL_made_48, rfl⟩ rfl
      · refine g_sub (lv' := [(1, .int x1)]) [1] rfl ?_
        exact hk9 E
set_option maxRecDepth 100000 in
set_option maxHeartbeats 4000000 in
theorem t_L_makes (l : Launch) (D : va_G) (cy : Nat → ClassId) (hfl : l.stackTraces = false) (b0 : Nat) (b1 : Nat) {x0 : Int32} {r0 : Row} {r1 : Row} {o : Row × Row} (E : f_L_makes x0 r0 r1 = some o) : CtMV l D cy (WA2 cy 24 4 b0 b1) yL_makes cL_makes 12 1 23 0 0 [.int x0, .ref b0, .ref b1] (r0, r1) (o.1, o.2) := by
  refine sMV (own := RL) rfl rfl (Nat.le_of_ble_eq_true rfl) (fun X O hN hret => ?_)
  show G l D X 12 (WA2 cy 24 4 b0 b1) 0 0 (r0, r1) 0 [(0, .int x0), (1, .ref b0), (2, .ref b1)] []
  unfold f_L_makes at E
  refine g_aload_n (pc' := 1) O ⟨dL_makes_0, rfl⟩ (q := 2) rfl rfl ?_
  refine g_iconst (pc' := 2) O ⟨dL_makes_1, rfl⟩ (v := (0 : Int32)) rfl ?_
  refine g_iald (pc' := 3) O ⟨dL_makes_2, rfl⟩ zA2_1 E (fun E => ?_)
  refine g_istore_n (pc' := 4) O ⟨dL_makes_3, rfl⟩ (lv' := [(3, .int (r1 (0 : Int32).toNatClampNeg)), (0, .int x0), (1, .ref b0), (2, .ref b1)]) rfl (by decide) rfl ?_
  refine g_iload_n (pc' := 5) O ⟨dL_makes_4, rfl⟩ (q := 1) rfl rfl ?_
  refine g_if_ne (pc' := 8) O ⟨dL_makes_5, rfl⟩ E (tgt := 54) (by decide) (fun E => ?_) (fun E => ?_)
  · refine g_iload_n (pc' := 55) O ⟨dL_makes_54, rfl⟩ (q := 1) rfl rfl ?_
    refine g_iconst (pc' := 56) O ⟨dL_makes_55, rfl⟩ (v := (1 : Int32)) rfl ?_
    refine g_icmp_ne (pc' := 59) O ⟨dL_makes_56, rfl⟩ E (tgt := 118) (by decide) (fun E => ?_) (fun E => ?_)
    · refine g_ldc2 (pc' := 121) O ⟨dL_makes_118, rfl⟩ kw_1044 ?_
      refine g_lstore (pc' := 123) O ⟨dL_makes_121, rfl⟩ (lv' := [(4, .long (40213240123141234 : Int64)), (3, .int (r1 (0 : Int32).toNatClampNeg)), (0, .int x0), (1, .ref b0), (2, .ref b1)]) (by decide) rfl ?_
      refine g_iload_n (pc' := 124) O ⟨dL_makes_123, rfl⟩ (q := 1) rfl rfl ?_
      refine g_iconst (pc' := 125) O ⟨dL_makes_124, rfl⟩ (v := (5 : Int32)) rfl ?_
      refine jn1_of (P := fun (z_1 : Int64) => G l D X 12 (WA2 cy 24 4 b0 b1) 0 0 (r0, r1) 156 [(1, .ref b0), (2, .ref b1), (3, .int (r1 (0 : Int32).toNatClampNeg))] [.long z_1]) E ?_ ?_
      · intro z_1 E
        show G l D X 12 (WA2 cy 24 4 b0 b1) 0 0 (r0, r1) 156 [(1, .ref b0), (2, .ref b1), (3, .int (r1 (0 : Int32).toNatClampNeg))] [.long z_1]
        refine g_lstore (pc' := 158) O ⟨dL_makes_156, rfl⟩ (lv' := [(6, .long z_1), (1, .ref b0), (2, .ref b1), (3, .int (r1 (0 : Int32).toNatClampNeg))]) (by decide) rfl ?_
        refine g_iconst (pc' := 159) O ⟨dL_makes_158, rfl⟩ (v := (2 : Int32)) rfl ?_
        refine g_iload_n (pc' := 160) O ⟨dL_makes_159, rfl⟩ (q := 3) rfl rfl ?_
        obtain ⟨r_2, c_3, E⟩ := bd_of E
        refine g_MSi (pc' := 163) O hN ⟨dL_makes_160, rfl⟩ (y := yL_made) (As := [.int (2 : Int32), .int (r1 (0 : Int32).toNatClampNeg)]) (st := []) (put := (fun g => (r0, r1))) sub_A2_A (t_L_made l D cy hfl c_3) kw_1040 kw_24 kw_1038 kw_1039 hd_L_made ⟨Nat.le_of_ble_eq_true rfl, Nat.le_of_ble_eq_true rfl⟩ ⟨Nat.le_of_ble_eq_true rfl, Nat.le_of_ble_eq_true rfl⟩ rfl (Nat.le_of_ble_eq_true rfl) ?_
        show G l D X 12 (WA2 cy 24 4 b0 b1) 0 0 (r0, r1) 163 [(6, .long z_1), (1, .ref b0), (2, .ref b1), (3, .int (r1 (0 : Int32).toNatClampNeg))] [.int r_2]
        refine g_iconst (pc' := 164) O ⟨dL_makes_163, rfl⟩ (v := (1 : Int32)) rfl ?_
        refine g_isub (pc' := 165) O ⟨dL_makes_164, rfl⟩ ?_
        refine g_nm E (fun y8_4 E => ?_)
        refine g_istore (pc' := 167) O ⟨dL_makes_165, rfl⟩ (lv' := [(8, .int y8_4), (6, .long z_1), (1, .ref b0), (2, .ref b1), (3, .int (r1 (0 : Int32).toNatClampNeg))]) (by decide) rfl ?_
        refine jn2_of (P := fun (r0_5 : Row) (r1_6 : Row) => G l D X 12 (WA2 cy 24 4 b0 b1) 0 0 (r0_5, r1_6) 229 [] []) E ?_ ?_
        · intro r0_5 r1_6 E
          show G l D X 12 (WA2 cy 24 4 b0 b1) 0 0 (r0_5, r1_6) 229 [] []
          cases E
          exact hret _ _ _ _ _ (Nat.le_of_ble_eq_true rfl) (Nat.le_of_ble_eq_true rfl) ⟨dL_makes_229, rfl⟩
        · intro k229 hk229 E
          refine g_sub (lv' := [(1, .ref b0), (2, .ref b1), (6, .long z_1), (8, .int y8_4)]) [2, 3, 1, 0] rfl ?_
          refine fx3_of (P := fun (x8_7 : Int32) (r0_8 : Row) (r1_9 : Row) => G l D X 12 (WA2 cy 24 4 b0 b1) 0 0 (r0_8, r1_9) 167 [(1, .ref b0), (2, .ref b1), (6, .long z_1), (8, .int x8_7)] []) ?_ _ _ _ _ E
          intro self ih167 x8_7 r0_8 r1_9 E
          show G l D X 12 (WA2 cy 24 4 b0 b1) 0 0 (r0_8, r1_9) 167 [(1, .ref b0), (2, .ref b1), (6, .long z_1), (8, .int x8_7)] []
          unfold L_L_makes_167 at E
          refine g_iload (pc' := 169) O ⟨dL_makes_167, rfl⟩ (q := 3) rfl ?_
          refine g_if_lt (pc' := 172) O ⟨dL_makes_169, rfl⟩ E (tgt := 229) (by decide) (fun E => ?_) (fun E => ?_)
          · refine g_sub (lv' := []) [] rfl ?_
            exact hk229 _ _ E
          · refine g_lload (pc' := 174) O ⟨dL_makes_172, rfl⟩ (q := 2) rfl ?_
            refine g_lstore (pc' := 176) O ⟨dL_makes_174, rfl⟩ (lv' := [(9, .long z_1), (1, .ref b0), (2, .ref b1), (6, .long z_1), (8, .int x8_7)]) (by decide) rfl ?_
            refine g_iconst (pc' := 177) O ⟨dL_makes_176, rfl⟩ (v := (0 : Int32)) rfl ?_
            refine g_istore (pc' := 179) O ⟨dL_makes_177, rfl⟩ (lv' := [(11, .int (0 : Int32)), (9, .long z_1), (1, .ref b0), (2, .ref b1), (6, .long z_1), (8, .int x8_7)]) (by decide) rfl ?_
            refine jn1_of (P := fun (x9_10 : Int64) => G l D X 12 (WA2 cy 24 4 b0 b1) 0 0 (r0_8, r1_9) 200 [(1, .ref b0), (2, .ref b1), (6, .long z_1), (8, .int x8_7), (9, .long x9_10)] []) E ?_ ?_
            · intro x9_10 E
              show G l D X 12 (WA2 cy 24 4 b0 b1) 0 0 (r0_8, r1_9) 200 [(1, .ref b0), (2, .ref b1), (6, .long z_1), (8, .int x8_7), (9, .long x9_10)] []
              refine g_lload (pc' := 202) O ⟨dL_makes_200, rfl⟩ (q := 4) rfl ?_
              refine g_ldc2 (pc' := 205) O ⟨dL_makes_202, rfl⟩ kw_1048 ?_
              refine g_ldiv (pc' := 206) O ⟨dL_makes_205, rfl⟩ (by decide) ?_
              refine g_ldc2 (pc' := 209) O ⟨dL_makes_206, rfl⟩ kw_1048 ?_
              refine g_lrem (pc' := 210) O ⟨dL_makes_209, rfl⟩ (by decide) ?_
              refine g_l2i (pc' := 211) O ⟨dL_makes_210, rfl⟩ ?_
              refine g_lload (pc' := 213) O ⟨dL_makes_211, rfl⟩ (q := 4) rfl ?_
              refine g_ldc2 (pc' := 216) O ⟨dL_makes_213, rfl⟩ kw_1048 ?_
              refine g_lrem (pc' := 217) O ⟨dL_makes_216, rfl⟩ (by decide) ?_
              refine g_l2i (pc' := 218) O ⟨dL_makes_217, rfl⟩ ?_
              refine g_aload_n (pc' := 219) O ⟨dL_makes_218, rfl⟩ (q := 0) rfl rfl ?_
              refine g_aload_n (pc' := 220) O ⟨dL_makes_219, rfl⟩ (q := 1) rfl rfl ?_
              obtain ⟨r_11, c_12, E⟩ := bd_of E
              refine g_MSv (pc' := 223) O hN ⟨dL_makes_220, rfl⟩ (y := yL_puts) (As := [.int (l2i (lrm (x9_10 / (10 : Int64)) (10 : Int64))), .int (l2i (lrm x9_10 (10 : Int64))), .ref b0, .ref b1]) (st := []) (put := (fun g => (g.1, g.2))) sub_A2_A0_1 (t_L_puts l D cy hfl b0 b1 c_12) kw_1037 kw_24 kw_1035 kw_1036 hd_L_puts ⟨Nat.le_of_ble_eq_true rfl, Nat.le_of_ble_eq_true rfl⟩ ⟨Nat.le_of_ble_eq_true rfl, Nat.le_of_ble_eq_true rfl⟩ rfl (Nat.le_of_ble_eq_true rfl) ?_
              show G l D X 12 (WA2 cy 24 4 b0 b1) 0 0 (r_11.1, r_11.2) 223 [(1, .ref b0), (2, .ref b1), (6, .long z_1), (8, .int x8_7), (9, .long x9_10)] []
              refine g_iinc (pc' := 226) O ⟨dL_makes_223, rfl⟩ (q := 3) (v := x8_7 + (-1 : Int32)) (lv' := [(8, .int (x8_7 + (-1 : Int32))), (1, .ref b0), (2, .ref b1), (6, .long z_1), (9, .long x9_10)]) rfl rfl (by decide) rfl ?_
              refine g_goto (pc' := 229) O ⟨dL_makes_226, rfl⟩ (tgt := 167) (by decide) ?_
              refine g_sub (lv' := [(1, .ref b0), (2, .ref b1), (6, .long z_1), (8, .int (x8_7 + (-1 : Int32)))]) [1, 2, 3, 0] rfl ?_
              exact ih167 _ _ _ E
            · intro k200 hk200 E
              refine g_sub (lv' := [(1, .ref b0), (2, .ref b1), (6, .long z_1), (8, .int x8_7), (9, .long z_1), (11, .int (0 : Int32))]) [2, 3, 4, 5, 1, 0] rfl ?_
              refine fx2_of (P := fun (x9_13 : Int64) (x11_14 : Int32) => G l D X 12 (WA2 cy 24 4 b0 b1) 0 0 (r0_8, r1_9) 179 [(1, .ref b0), (2, .ref b1), (6, .long z_1), (8, .int x8_7), (9, .long x9_13), (11, .int x11_14)] []) ?_ _ _ _ E
              intro self ih179 x9_13 x11_14 E
              show G l D X 12 (WA2 cy 24 4 b0 b1) 0 0 (r0_8, r1_9) 179 [(1, .ref b0), (2, .ref b1), (6, .long z_1), (8, .int x8_7), (9, .long x9_13), (11, .int x11_14)] []
              unfold L_L_makes_179 at E
              refine g_iload (pc' := 181) O ⟨dL_makes_179, rfl⟩ (q := 5) rfl ?_
              refine g_iload (pc' := 183) O ⟨dL_makes_181, rfl⟩ (q := 3) rfl ?_
              refine g_icmp_ge (pc' := 186) O ⟨dL_makes_183, rfl⟩ E (tgt := 200) (by decide) (fun E => ?_) (fun E => ?_)
              · refine g_sub (lv' := [(1, .ref b0), (2, .ref b1), (6, .long z_1), (8, .int x8_7), (9, .long x9_13)]) [0, 1, 2, 3, 4] rfl ?_
                exact hk200 _ E
              · refine g_lload (pc' := 188) O ⟨dL_makes_186, rfl⟩ (q := 4) rfl ?_
                refine g_ldc2 (pc' := 191) O ⟨dL_makes_188, rfl⟩ kw_1047 ?_
                refine g_ldiv (pc' := 192) O ⟨dL_makes_191, rfl⟩ (by decide) ?_
                refine g_nmL E (fun y9_15 E => ?_)
                refine g_lstore (pc' := 194) O ⟨dL_makes_192, rfl⟩ (lv' := [(9, .long y9_15), (1, .ref b0), (2, .ref b1), (6, .long z_1), (8, .int x8_7), (11, .int x11_14)]) (by decide) rfl ?_
                refine g_iinc (pc' := 197) O ⟨dL_makes_194, rfl⟩ (q := 5) (v := x11_14 + (1 : Int32)) (lv' := [(11, .int (x11_14 + (1 : Int32))), (9, .long y9_15), (1, .ref b0), (2, .ref b1), (6, .long z_1), (8, .int x8_7)]) rfl rfl (by decide) rfl ?_
                refine g_goto (pc' := 200) O ⟨dL_makes_197, rfl⟩ (tgt := 179) (by decide) ?_
                refine g_sub (lv' := [(1, .ref b0), (2, .ref b1), (6, .long z_1), (8, .int x8_7), (9, .long y9_15), (11, .int (x11_14 + (1 : Int32)))]) [2, 3, 4, 5, 1, 0] rfl ?_
                exact ih179 _ _ E
      · intro k156 hk156 E
        refine g_icmp_ne (pc' := 128) O ⟨dL_makes_125, rfl⟩ E (tgt := 133) (by decide) (fun E => ?_) (fun E => ?_)
        · refine g_iload_n (pc' := 134) O ⟨dL_makes_133, rfl⟩ (q := 1) rfl rfl ?_
          refine g_iconst (pc' := 135) O ⟨dL_makes_134, rfl⟩ (v := (4 : Int32)) rfl ?_
          refine g_icmp_ne (pc' := 138) O ⟨dL_makes_135, rfl⟩ E (tgt := 144) (by decide) (fun E => ?_) (fun E => ?_)
          · refine g_iload_n (pc' := 145) O ⟨dL_makes_144, rfl⟩ (q := 1) rfl rfl ?_
            refine g_iconst (pc' := 146) O ⟨dL_makes_145, rfl⟩ (v := (3 : Int32)) rfl ?_
            refine g_icmp_ne (pc' := 149) O ⟨dL_makes_146, rfl⟩ E (tgt := 155) (by decide) (fun E => ?_) (fun E => ?_)
            · refine g_lconst (pc' := 156) O ⟨dL_makes_155, rfl⟩ (v := (1 : Int64)) rfl ?_
              refine g_sub (lv' := [(1, .ref b0), (2, .ref b1), (3, .int (r1 (0 : Int32).toNatClampNeg))]) [3, 4, 1] rfl ?_
              exact hk156 _ E
            · refine g_ldc2 (pc' := 152) O ⟨dL_makes_149, rfl⟩ kw_1046 ?_
              refine g_goto (pc' := 155) O ⟨dL_makes_152, rfl⟩ (tgt := 156) (by decide) ?_
              refine g_sub (lv' := [(1, .ref b0), (2, .ref b1), (3, .int (r1 (0 : Int32).toNatClampNeg))]) [3, 4, 1] rfl ?_
              exact hk156 _ E
          · refine g_ldc2 (pc' := 141) O ⟨dL_makes_138, rfl⟩ kw_1045 ?_
            refine g_goto (pc' := 144) O ⟨dL_makes_141, rfl⟩ (tgt := 156) (by decide) ?_
            refine g_sub (lv' := [(1, .ref b0), (2, .ref b1), (3, .int (r1 (0 : Int32).toNatClampNeg))]) [3, 4, 1] rfl ?_
            exact hk156 _ E
        · refine g_lload (pc' := 130) O ⟨dL_makes_128, rfl⟩ (q := 0) rfl ?_
          refine g_goto (pc' := 133) O ⟨dL_makes_130, rfl⟩ (tgt := 156) (by decide) ?_
          refine g_sub (lv' := [(1, .ref b0), (2, .ref b1), (3, .int (r1 (0 : Int32).toNatClampNeg))]) [3, 4, 1] rfl ?_
          exact hk156 _ E
    · refine g_iconst (pc' := 60) O ⟨dL_makes_59, rfl⟩ (v := (0 : Int32)) rfl ?_
      refine g_istore (pc' := 62) O ⟨dL_makes_60, rfl⟩ (lv' := [(4, .int (0 : Int32)), (3, .int (r1 (0 : Int32).toNatClampNeg)), (0, .int x0), (1, .ref b0), (2, .ref b1)]) (by decide) rfl ?_
      refine jn2_of (P := fun (r0_16 : Row) (r1_17 : Row) => G l D X 12 (WA2 cy 24 4 b0 b1) 0 0 (r0_16, r1_17) 115 [] []) E ?_ ?_
      · intro r0_16 r1_17 E
        show G l D X 12 (WA2 cy 24 4 b0 b1) 0 0 (r0_16, r1_17) 115 [] []
        refine g_goto (pc' := 118) O ⟨dL_makes_115, rfl⟩ (tgt := 229) (by decide) ?_
        cases E
        exact hret _ _ _ _ _ (Nat.le_of_ble_eq_true rfl) (Nat.le_of_ble_eq_true rfl) ⟨dL_makes_229, rfl⟩
      · intro k115 hk115 E
        refine g_sub (lv' := [(1, .ref b0), (2, .ref b1), (3, .int (r1 (0 : Int32).toNatClampNeg)), (4, .int (0 : Int32))]) [3, 4, 1, 0] rfl ?_
        refine fx3_of (P := fun (x4_18 : Int32) (r0_19 : Row) (r1_20 : Row) => G l D X 12 (WA2 cy 24 4 b0 b1) 0 0 (r0_19, r1_20) 62 [(1, .ref b0), (2, .ref b1), (3, .int (r1 (0 : Int32).toNatClampNeg)), (4, .int x4_18)] []) ?_ _ _ _ _ E
        intro self ih62 x4_18 r0_19 r1_20 E
        show G l D X 12 (WA2 cy 24 4 b0 b1) 0 0 (r0_19, r1_20) 62 [(1, .ref b0), (2, .ref b1), (3, .int (r1 (0 : Int32).toNatClampNeg)), (4, .int x4_18)] []
        unfold L_L_makes_62 at E
        refine g_iload (pc' := 64) O ⟨dL_makes_62, rfl⟩ (q := 3) rfl ?_
        refine g_iload_n (pc' := 65) O ⟨dL_makes_64, rfl⟩ (q := 2) rfl rfl ?_
        refine g_iload_n (pc' := 66) O ⟨dL_makes_65, rfl⟩ (q := 2) rfl rfl ?_
        refine g_imul (pc' := 67) O ⟨dL_makes_66, rfl⟩ ?_
        refine g_icmp_ge (pc' := 70) O ⟨dL_makes_67, rfl⟩ E (tgt := 115) (by decide) (fun E => ?_) (fun E => ?_)
        · refine g_sub (lv' := []) [] rfl ?_
          exact hk115 _ _ E
        · refine g_iload (pc' := 72) O ⟨dL_makes_70, rfl⟩ (q := 3) rfl ?_
          refine g_iload_n (pc' := 73) O ⟨dL_makes_72, rfl⟩ (q := 2) rfl rfl ?_
          obtain ⟨nz_73, E⟩ := nz_of E
          refine g_irem (pc' := 74) O ⟨dL_makes_73, rfl⟩ nz_73 ?_
          refine g_iconst (pc' := 75) O ⟨dL_makes_74, rfl⟩ (v := (1 : Int32)) rfl ?_
          refine g_iadd (pc' := 76) O ⟨dL_makes_75, rfl⟩ ?_
          refine g_iload_n (pc' := 77) O ⟨dL_makes_76, rfl⟩ (q := 2) rfl rfl ?_
          refine g_icmp_ge (pc' := 80) O ⟨dL_makes_77, rfl⟩ E (tgt := 109) (by decide) (fun E => ?_) (fun E => ?_)
          · refine g_iinc (pc' := 112) O ⟨dL_makes_109, rfl⟩ (q := 3) (v := x4_18 + (1 : Int32)) (lv' := [(4, .int (x4_18 + (1 : Int32))), (1, .ref b0), (2, .ref b1), (3, .int (r1 (0 : Int32).toNatClampNeg))]) rfl rfl (by decide) rfl ?_
            refine g_goto (pc' := 115) O ⟨dL_makes_112, rfl⟩ (tgt := 62) (by decide) ?_
            refine g_sub (lv' := [(1, .ref b0), (2, .ref b1), (3, .int (r1 (0 : Int32).toNatClampNeg)), (4, .int (x4_18 + (1 : Int32)))]) [1, 2, 3, 0] rfl ?_
            exact ih62 _ _ _ E
          · refine g_iload (pc' := 82) O ⟨dL_makes_80, rfl⟩ (q := 3) rfl ?_
            refine g_iload_n (pc' := 83) O ⟨dL_makes_82, rfl⟩ (q := 2) rfl rfl ?_
            obtain ⟨nz_83, E⟩ := nz_of E
            refine g_irem (pc' := 84) O ⟨dL_makes_83, rfl⟩ nz_83 ?_
            refine g_iload (pc' := 86) O ⟨dL_makes_84, rfl⟩ (q := 3) rfl ?_
            refine g_iload_n (pc' := 87) O ⟨dL_makes_86, rfl⟩ (q := 2) rfl rfl ?_
            obtain ⟨nz_87, E⟩ := nz_of E
            refine g_idiv (pc' := 88) O ⟨dL_makes_87, rfl⟩ nz_87 ?_
            refine g_iadd (pc' := 89) O ⟨dL_makes_88, rfl⟩ ?_
            refine g_iconst (pc' := 90) O ⟨dL_makes_89, rfl⟩ (v := (2 : Int32)) rfl ?_
            refine g_irem (pc' := 91) O ⟨dL_makes_90, rfl⟩ (by decide) ?_
            refine g_if_ne (pc' := 94) O ⟨dL_makes_91, rfl⟩ E (tgt := 109) (by decide) (fun E => ?_) (fun E => ?_)
            · refine g_iinc (pc' := 112) O ⟨dL_makes_109, rfl⟩ (q := 3) (v := x4_18 + (1 : Int32)) (lv' := [(4, .int (x4_18 + (1 : Int32))), (1, .ref b0), (2, .ref b1), (3, .int (r1 (0 : Int32).toNatClampNeg))]) rfl rfl (by decide) rfl ?_
              refine g_goto (pc' := 115) O ⟨dL_makes_112, rfl⟩ (tgt := 62) (by decide) ?_
              refine g_sub (lv' := [(1, .ref b0), (2, .ref b1), (3, .int (r1 (0 : Int32).toNatClampNeg)), (4, .int (x4_18 + (1 : Int32)))]) [1, 2, 3, 0] rfl ?_
              exact ih62 _ _ _ E
            · refine g_iload (pc' := 96) O ⟨dL_makes_94, rfl⟩ (q := 3) rfl ?_
              refine g_iload_n (pc' := 97) O ⟨dL_makes_96, rfl⟩ (q := 2) rfl rfl ?_
              obtain ⟨nz_97, E⟩ := nz_of E
              refine g_irem (pc' := 98) O ⟨dL_makes_97, rfl⟩ nz_97 ?_
              refine g_iload (pc' := 100) O ⟨dL_makes_98, rfl⟩ (q := 3) rfl ?_
              refine g_iload_n (pc' := 101) O ⟨dL_makes_100, rfl⟩ (q := 2) rfl rfl ?_
              obtain ⟨nz_101, E⟩ := nz_of E
              refine g_irem (pc' := 102) O ⟨dL_makes_101, rfl⟩ nz_101 ?_
              refine g_iconst (pc' := 103) O ⟨dL_makes_102, rfl⟩ (v := (1 : Int32)) rfl ?_
              refine g_iadd (pc' := 104) O ⟨dL_makes_103, rfl⟩ ?_
              refine g_aload_n (pc' := 105) O ⟨dL_makes_104, rfl⟩ (q := 0) rfl rfl ?_
              refine g_aload_n (pc' := 106) O ⟨dL_makes_105, rfl⟩ (q := 1) rfl rfl ?_
              obtain ⟨r_21, c_22, E⟩ := bd_of E
              refine g_MSv (pc' := 109) O hN ⟨dL_makes_106, rfl⟩ (y := yL_puts) (As := [.int (irm x4_18 (r1 (0 : Int32).toNatClampNeg)), .int ((irm x4_18 (r1 (0 : Int32).toNatClampNeg)) + (1 : Int32)), .ref b0, .ref b1]) (st := []) (put := (fun g => (g.1, g.2))) sub_A2_A0_1 (t_L_puts l D cy hfl b0 b1 c_22) kw_1037 kw_24 kw_1035 kw_1036 hd_L_puts ⟨Nat.le_of_ble_eq_true rfl, Nat.le_of_ble_eq_true rfl⟩ ⟨Nat.le_of_ble_eq_true rfl, Nat.le_of_ble_eq_true rfl⟩ rfl (Nat.le_of_ble_eq_true rfl) ?_
              show G l D X 12 (WA2 cy 24 4 b0 b1) 0 0 (r_21.1, r_21.2) 109 [(1, .ref b0), (2, .ref b1), (3, .int (r1 (0 : Int32).toNatClampNeg)), (4, .int x4_18)] []
              refine g_iinc (pc' := 112) O ⟨dL_makes_109, rfl⟩ (q := 3) (v := x4_18 + (1 : Int32)) (lv' := [(4, .int (x4_18 + (1 : Int32))), (1, .ref b0), (2, .ref b1), (3, .int (r1 (0 : Int32).toNatClampNeg))]) rfl rfl (by decide) rfl ?_
              refine g_goto (pc' := 115) O ⟨dL_makes_112, rfl⟩ (tgt := 62) (by decide) ?_
              refine g_sub (lv' := [(1, .ref b0), (2, .ref b1), (3, .int (r1 (0 : Int32).toNatClampNeg)), (4, .int (x4_18 + (1 : Int32)))]) [1, 2, 3, 0] rfl ?_
              exact ih62 _ _ _ E
  · refine g_iload_n (pc' := 9) O ⟨dL_makes_8, rfl⟩ (q := 0) rfl rfl ?_
    refine g_iconst (pc' := 10) O ⟨dL_makes_9, rfl⟩ (v := (1 : Int32)) rfl ?_
    refine g_isub (pc' := 11) O ⟨dL_makes_10, rfl⟩ ?_
    refine g_nm E (fun y4_23 E => ?_)
    refine g_istore (pc' := 13) O ⟨dL_makes_11, rfl⟩ (lv' := [(4, .int y4_23), (3, .int (r1 (0 : Int32).toNatClampNeg)), (0, .int x0), (1, .ref b0), (2, .ref b1)]) (by decide) rfl ?_
    refine jn2_of (P := fun (r0_24 : Row) (r1_25 : Row) => G l D X 12 (WA2 cy 24 4 b0 b1) 0 0 (r0_24, r1_25) 51 [] []) E ?_ ?_
    · intro r0_24 r1_25 E
      show G l D X 12 (WA2 cy 24 4 b0 b1) 0 0 (r0_24, r1_25) 51 [] []
      refine g_goto (pc' := 54) O ⟨dL_makes_51, rfl⟩ (tgt := 229) (by decide) ?_
      cases E
      exact hret _ _ _ _ _ (Nat.le_of_ble_eq_true rfl) (Nat.le_of_ble_eq_true rfl) ⟨dL_makes_229, rfl⟩
    · intro k51 hk51 E
      refine g_sub (lv' := [(1, .ref b0), (2, .ref b1), (4, .int y4_23)]) [3, 4, 0] rfl ?_
      refine fx3_of (P := fun (x4_26 : Int32) (r0_27 : Row) (r1_28 : Row) => G l D X 12 (WA2 cy 24 4 b0 b1) 0 0 (r0_27, r1_28) 13 [(1, .ref b0), (2, .ref b1), (4, .int x4_26)] []) ?_ _ _ _ _ E
      intro self ih13 x4_26 r0_27 r1_28 E
      show G l D X 12 (WA2 cy 24 4 b0 b1) 0 0 (r0_27, r1_28) 13 [(1, .ref b0), (2, .ref b1), (4, .int x4_26)] []
      unfold L_L_makes_13 at E
      refine g_iload (pc' := 15) O ⟨dL_makes_13, rfl⟩ (q := 2) rfl ?_
      refine g_if_le (pc' := 18) O ⟨dL_makes_15, rfl⟩ E (tgt := 51) (by decide) (fun E => ?_) (fun E => ?_)
      · refine g_sub (lv' := []) [] rfl ?_
        exact hk51 _ _ E
      · refine g_iconst (pc' := 19) O ⟨dL_makes_18, rfl⟩ (v := (0 : Int32)) rfl ?_
        refine g_istore (pc' := 21) O ⟨dL_makes_19, rfl⟩ (lv' := [(5, .int (0 : Int32)), (1, .ref b0), (2, .ref b1), (4, .int x4_26)]) (by decide) rfl ?_
        refine jn2_of (P := fun (r0_29 : Row) (r1_30 : Row) => G l D X 12 (WA2 cy 24 4 b0 b1) 0 0 (r0_29, r1_30) 45 [(1, .ref b0), (2, .ref b1), (4, .int x4_26)] []) E ?_ ?_
        · intro r0_29 r1_30 E
          show G l D X 12 (WA2 cy 24 4 b0 b1) 0 0 (r0_29, r1_30) 45 [(1, .ref b0), (2, .ref b1), (4, .int x4_26)] []
          refine g_iinc (pc' := 48) O ⟨dL_makes_45, rfl⟩ (q := 2) (v := x4_26 + (-1 : Int32)) (lv' := [(4, .int (x4_26 + (-1 : Int32))), (1, .ref b0), (2, .ref b1)]) rfl rfl (by decide) rfl ?_
          refine g_goto (pc' := 51) O ⟨dL_makes_48, rfl⟩ (tgt := 13) (by decide) ?_
          refine g_sub (lv' := [(1, .ref b0), (2, .ref b1), (4, .int (x4_26 + (-1 : Int32)))]) [1, 2, 0] rfl ?_
          exact ih13 _ _ _ E
        · intro k45 hk45 E
          refine g_sub (lv' := [(1, .ref b0), (2, .ref b1), (4, .int x4_26), (5, .int (0 : Int32))]) [1, 2, 3, 0] rfl ?_
          refine fx3_of (P := fun (x5_31 : Int32) (r0_32 : Row) (r1_33 : Row) => G l D X 12 (WA2 cy 24 4 b0 b1) 0 0 (r0_32, r1_33) 21 [(1, .ref b0), (2, .ref b1), (4, .int x4_26), (5, .int x5_31)] []) ?_ _ _ _ _ E
          intro self ih21 x5_31 r0_32 r1_33 E
          show G l D X 12 (WA2 cy 24 4 b0 b1) 0 0 (r0_32, r1_33) 21 [(1, .ref b0), (2, .ref b1), (4, .int x4_26), (5, .int x5_31)] []
          unfold L_L_makes_21 at E
          refine g_iload (pc' := 23) O ⟨dL_makes_21, rfl⟩ (q := 3) rfl ?_
          refine g_iload (pc' := 25) O ⟨dL_makes_23, rfl⟩ (q := 2) rfl ?_
          refine g_icmp_ge (pc' := 28) O ⟨dL_makes_25, rfl⟩ E (tgt := 45) (by decide) (fun E => ?_) (fun E => ?_)
          · refine g_sub (lv' := [(1, .ref b0), (2, .ref b1), (4, .int x4_26)]) [0, 1, 2] rfl ?_
            exact hk45 _ _ E
          · refine g_iload (pc' := 30) O ⟨dL_makes_28, rfl⟩ (q := 3) rfl ?_
            refine g_iload (pc' := 32) O ⟨dL_makes_30, rfl⟩ (q := 3) rfl ?_
            refine g_iconst (pc' := 33) O ⟨dL_makes_32, rfl⟩ (v := (1 : Int32)) rfl ?_
            refine g_iadd (pc' := 34) O ⟨dL_makes_33, rfl⟩ ?_
            refine g_aload_n (pc' := 35) O ⟨dL_makes_34, rfl⟩ (q := 0) rfl rfl ?_
            refine g_aload_n (pc' := 36) O ⟨dL_makes_35, rfl⟩ (q := 1) rfl rfl ?_
            obtain ⟨r_34, c_35, E⟩ := bd_of E
            refine g_MSv (pc' := 39) O hN ⟨dL_makes_36, rfl⟩ (y := yL_puts) (As := [.int x5_31, .int (x5_31 + (1 : Int32)), .ref b0, .ref b1]) (st := []) (put := (fun g => (g.1, g.2))) sub_A2_A0_1 (t_L_puts l D cy hfl b0 b1 c_35) kw_1037 kw_24 kw_1035 kw_1036 hd_L_puts ⟨Nat.le_of_ble_eq_true rfl, Nat.le_of_ble_eq_true rfl⟩ ⟨Nat.le_of_ble_eq_true rfl, Nat.le_of_ble_eq_true rfl⟩ rfl (Nat.le_of_ble_eq_true rfl) ?_
            show G l D X 12 (WA2 cy 24 4 b0 b1) 0 0 (r_34.1, r_34.2) 39 [(1, .ref b0), (2, .ref b1), (4, .int x4_26), (5, .int x5_31)] []
            refine g_iinc (pc' := 42) O ⟨dL_makes_39, rfl⟩ (q := 3) (v := x5_31 + (1 : Int32)) (lv' := [(5, .int (x5_31 + (1 : Int32))), (1, .ref b0), (2, .ref b1), (4, .int x4_26)]) rfl rfl (by decide) rfl ?_
            refine g_goto (pc' := 45) O ⟨dL_makes_42, rfl⟩ (tgt := 21) (by decide) ?_
            refine g_sub (lv' := [(1, .ref b0), (2, .ref b1), (4, .int x4_26), (5, .int (x5_31 + (1 : Int32)))]) [1, 2, 3, 0] rfl ?_
            exact ih21 _ _ _ E
