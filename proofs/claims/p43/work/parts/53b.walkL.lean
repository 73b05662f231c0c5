/-! WALKS, laid by program: each method does what its pure program says -/
set_option maxRecDepth 100000 in
set_option maxHeartbeats 4000000 in
theorem t_L_fault (l : Launch) (D : va_G) (cy : Nat → ClassId) (hfl : l.stackTraces = false) (b0 : Nat) (b1 : Nat)  {r0 : Row} {r1 : Row} {o : Int32} (E : f_L_fault r0 r1 = some o) : CtMI l D cy (WA2 cy 40 4 b0 b1) yL_fault cL_fault 7 .int 0 0 1 6 [.ref b0, .ref b1] (r0, r1) o (r0, r1) := by
  refine sMI (own := RL) rfl rfl (Nat.le_of_ble_eq_true rfl) (fun X O hN hret => ?_)
  show G l D X 7 (WA2 cy 40 4 b0 b1) 0 0 (r0, r1) 0 [(0, .ref b0), (1, .ref b1)] []
  unfold f_L_fault at E
  refine g_bipush (pc' := 2) O ⟨dL_fault_0, rfl⟩ (v := (6 : Int32)) rfl ?_
  refine g_newr (pc' := 4) O ⟨dL_fault_2, rfl⟩ (N' := 6) (wf2 := fun b2 => (WA3 cy 40 4 6 b0 b1 b2)) (h2 := (r0, r1, (fun _ => 0))) kw_94 rfl (by decide) (by decide) ⟨Nat.le_of_ble_eq_true rfl, Nat.le_of_ble_eq_true rfl⟩ (fun _ => rfl) (fun b2 => ?_)
  show G l D X 7 (WA3 cy 40 4 6 b0 b1 b2) 1 6 (r0, r1, (fun _ => 0)) 4 [(0, .ref b0), (1, .ref b1)] [.ref b2]
  refine g_astore_n (pc' := 5) O ⟨dL_fault_4, rfl⟩ (lv' := [(2, .ref b2), (0, .ref b0), (1, .ref b1)]) rfl (by decide) rfl ?_
  refine g_iconst (pc' := 6) O ⟨dL_fault_5, rfl⟩ (v := (1 : Int32)) rfl ?_
  refine g_istore_n (pc' := 7) O ⟨dL_fault_6, rfl⟩ (lv' := [(3, .int (1 : Int32)), (2, .ref b2), (0, .ref b0), (1, .ref b1)]) rfl (by decide) rfl ?_
  refine g_iconst (pc' := 8) O ⟨dL_fault_7, rfl⟩ (v := (0 : Int32)) rfl ?_
  refine g_istore (pc' := 10) O ⟨dL_fault_8, rfl⟩ (lv' := [(4, .int (0 : Int32)), (3, .int (1 : Int32)), (2, .ref b2), (0, .ref b0), (1, .ref b1)]) (by decide) rfl ?_
  refine jn1_of (P := fun (r2_1 : Row) => G l D X 7 (WA3 cy 40 4 6 b0 b1 b2) 1 6 (r0, r1, r2_1) 157 [(1, .ref b1)] []) E ?_ ?_
  · intro r2_1 E
    show G l D X 7 (WA3 cy 40 4 6 b0 b1 b2) 1 6 (r0, r1, r2_1) 157 [(1, .ref b1)] []
    refine g_aload_n (pc' := 158) O ⟨dL_fault_157, rfl⟩ (q := 0) rfl rfl ?_
    refine g_iconst (pc' := 159) O ⟨dL_fault_158, rfl⟩ (v := (2 : Int32)) rfl ?_
    refine g_iald (pc' := 160) O ⟨dL_fault_159, rfl⟩ zA3_1 E (fun E => ?_)
    refine g_iconst (pc' := 161) O ⟨dL_fault_160, rfl⟩ (v := (4 : Int32)) rfl ?_
    refine g_irem (pc' := 162) O ⟨dL_fault_161, rfl⟩ (by decide) ?_
    refine g_iconst (pc' := 163) O ⟨dL_fault_162, rfl⟩ (v := (3 : Int32)) rfl ?_
    refine g_icmp_ne (pc' := 166) O ⟨dL_fault_163, rfl⟩ E (tgt := 170) (by decide) (fun E => ?_) (fun E => ?_)
    · refine g_aload_n (pc' := 171) O ⟨dL_fault_170, rfl⟩ (q := 0) rfl rfl ?_
      refine g_iconst (pc' := 172) O ⟨dL_fault_171, rfl⟩ (v := (2 : Int32)) rfl ?_
      refine g_iald (pc' := 173) O ⟨dL_fault_172, rfl⟩ zA3_1 E (fun E => ?_)
      cases E
      refine g_drop (wf := (WA2 cy 40 4 b0 b1)) (h := (r0, r1)) (List.range 2) rfl rfl (by decide) ?_
      exact hret _ _ _ _ _ (Nat.le_of_ble_eq_true rfl) (Nat.le_of_ble_eq_true rfl) ⟨dL_fault_173, rfl⟩ rfl
    · refine g_iconst (pc' := 167) O ⟨dL_fault_166, rfl⟩ (v := (-1 : Int32)) rfl ?_
      refine g_goto (pc' := 170) O ⟨dL_fault_167, rfl⟩ (tgt := 173) (by decide) ?_
      cases E
      refine g_drop (wf := (WA2 cy 40 4 b0 b1)) (h := (r0, r1)) (List.range 2) rfl rfl (by decide) ?_
      exact hret _ _ _ _ _ (Nat.le_of_ble_eq_true rfl) (Nat.le_of_ble_eq_true rfl) ⟨dL_fault_173, rfl⟩ rfl
  · intro k157 hk157 E
    refine jn2_of (P := fun (x4_2 : Int32) (r2_3 : Row) => G l D X 7 (WA3 cy 40 4 6 b0 b1 b2) 1 6 (r0, r1, r2_3) 119 [(4, .int x4_2)] []) E ?_ ?_
    · intro x4_2 r2_3 E
      show G l D X 7 (WA3 cy 40 4 6 b0 b1 b2) 1 6 (r0, r1, r2_3) 119 [(4, .int x4_2)] []
      refine g_iload (pc' := 121) O ⟨dL_fault_119, rfl⟩ (q := 0) rfl ?_
      cases E
      refine g_drop (wf := (WA2 cy 40 4 b0 b1)) (h := (r0, r1)) (List.range 2) rfl rfl (by decide) ?_
      exact hret _ _ _ _ _ (Nat.le_of_ble_eq_true rfl) (Nat.le_of_ble_eq_true rfl) ⟨dL_fault_121, rfl⟩ rfl
    · intro k119 hk119 E
      refine g_sub (lv' := [(0, .ref b0), (1, .ref b1), (2, .ref b2), (3, .int (1 : Int32)), (4, .int (0 : Int32))]) [3, 4, 2, 1, 0] rfl ?_
      refine fx3_of (P := fun (x3_4 : Int32) (x4_5 : Int32) (r2_6 : Row) => G l D X 7 (WA3 cy 40 4 6 b0 b1 b2) 1 6 (r0, r1, r2_6) 10 [(0, .ref b0), (1, .ref b1), (2, .ref b2), (3, .int x3_4), (4, .int x4_5)] []) ?_ _ _ _ _ E
      intro self ih10 x3_4 x4_5 r2_6 E
      show G l D X 7 (WA3 cy 40 4 6 b0 b1 b2) 1 6 (r0, r1, r2_6) 10 [(0, .ref b0), (1, .ref b1), (2, .ref b2), (3, .int x3_4), (4, .int x4_5)] []
      unfold L_L_fault_10 at E
      refine g_iload (pc' := 12) O ⟨dL_fault_10, rfl⟩ (q := 4) rfl ?_
      refine g_aload_n (pc' := 13) O ⟨dL_fault_12, rfl⟩ (q := 1) rfl rfl ?_
      refine g_iconst (pc' := 14) O ⟨dL_fault_13, rfl⟩ (v := (2 : Int32)) rfl ?_
      refine g_iald (pc' := 15) O ⟨dL_fault_14, rfl⟩ zA3_1 E (fun E => ?_)
      refine g_icmp_ge (pc' := 18) O ⟨dL_fault_15, rfl⟩ E (tgt := 157) (by decide) (fun E => ?_) (fun E => ?_)
      · refine g_sub (lv' := [(1, .ref b1)]) [1] rfl ?_
        exact hk157 _ E
      · refine g_aload_n (pc' := 19) O ⟨dL_fault_18, rfl⟩ (q := 0) rfl rfl ?_
        refine g_iload (pc' := 21) O ⟨dL_fault_19, rfl⟩ (q := 4) rfl ?_
        refine g_iald (pc' := 22) O ⟨dL_fault_21, rfl⟩ zA3_0 E (fun E => ?_)
        refine g_bipush (pc' := 24) O ⟨dL_fault_22, rfl⟩ (v := (48 : Int32)) rfl ?_
        refine g_isub (pc' := 25) O ⟨dL_fault_24, rfl⟩ ?_
        refine g_nm E (fun y5_7 E => ?_)
        refine g_istore (pc' := 27) O ⟨dL_fault_25, rfl⟩ (lv' := [(5, .int y5_7), (0, .ref b0), (1, .ref b1), (2, .ref b2), (3, .int x3_4), (4, .int x4_5)]) (by decide) rfl ?_
        refine g_iload (pc' := 29) O ⟨dL_fault_27, rfl⟩ (q := 5) rfl ?_
        refine g_iconst (pc' := 30) O ⟨dL_fault_29, rfl⟩ (v := (4 : Int32)) rfl ?_
        refine g_irem (pc' := 31) O ⟨dL_fault_30, rfl⟩ (by decide) ?_
        refine g_iconst (pc' := 32) O ⟨dL_fault_31, rfl⟩ (v := (1 : Int32)) rfl ?_
        refine jn1_of (P := fun (z_8 : Int32) => G l D X 7 (WA3 cy 40 4 6 b0 b1 b2) 1 6 (r0, r1, r2_6) 112 [(0, .ref b0), (1, .ref b1), (2, .ref b2), (3, .int x3_4), (4, .int x4_5), (5, .int y5_7)] [.int z_8]) E ?_ ?_
        · intro z_8 E
          show G l D X 7 (WA3 cy 40 4 6 b0 b1 b2) 1 6 (r0, r1, r2_6) 112 [(0, .ref b0), (1, .ref b1), (2, .ref b2), (3, .int x3_4), (4, .int x4_5), (5, .int y5_7)] [.int z_8]
          refine g_istore (pc' := 114) O ⟨dL_fault_112, rfl⟩ (lv' := [(6, .int z_8), (0, .ref b0), (1, .ref b1), (2, .ref b2), (3, .int x3_4), (4, .int x4_5), (5, .int y5_7)]) (by decide) rfl ?_
          refine g_iload (pc' := 116) O ⟨dL_fault_114, rfl⟩ (q := 0) rfl ?_
          refine g_if_ne (pc' := 119) O ⟨dL_fault_116, rfl⟩ E (tgt := 122) (by decide) (fun E => ?_) (fun E => ?_)
          · refine g_iload_n (pc' := 123) O ⟨dL_fault_122, rfl⟩ (q := 4) rfl rfl ?_
            refine g_aload_n (pc' := 124) O ⟨dL_fault_123, rfl⟩ (q := 1) rfl rfl ?_
            refine g_iload (pc' := 126) O ⟨dL_fault_124, rfl⟩ (q := 5) rfl ?_
            refine g_iald (pc' := 127) O ⟨dL_fault_126, rfl⟩ zA3_0 E (fun E => ?_)
            refine g_bipush (pc' := 129) O ⟨dL_fault_127, rfl⟩ (v := (47 : Int32)) rfl ?_
            refine jn1_of (P := fun (z_9 : Int32) => G l D X 7 (WA3 cy 40 4 6 b0 b1 b2) 1 6 (r0, r1, r2_6) 137 [(0, .ref b0), (1, .ref b1), (2, .ref b2), (4, .int x4_5), (5, .int y5_7)] [.int z_9, .int x3_4]) E ?_ ?_
            · intro z_9 E
              show G l D X 7 (WA3 cy 40 4 6 b0 b1 b2) 1 6 (r0, r1, r2_6) 137 [(0, .ref b0), (1, .ref b1), (2, .ref b2), (4, .int x4_5), (5, .int y5_7)] [.int z_9, .int x3_4]
              refine g_iadd (pc' := 138) O ⟨dL_fault_137, rfl⟩ ?_
              refine g_nm E (fun y3_10 E => ?_)
              refine g_istore_n (pc' := 139) O ⟨dL_fault_138, rfl⟩ (lv' := [(3, .int y3_10), (0, .ref b0), (1, .ref b1), (2, .ref b2), (4, .int x4_5), (5, .int y5_7)]) rfl (by decide) rfl ?_
              refine g_iload (pc' := 141) O ⟨dL_fault_139, rfl⟩ (q := 4) rfl ?_
              refine g_iconst (pc' := 142) O ⟨dL_fault_141, rfl⟩ (v := (2 : Int32)) rfl ?_
              refine g_irem (pc' := 143) O ⟨dL_fault_142, rfl⟩ (by decide) ?_
              refine g_if_ne (pc' := 146) O ⟨dL_fault_143, rfl⟩ E (tgt := 151) (by decide) (fun E => ?_) (fun E => ?_)
              · refine g_iinc (pc' := 154) O ⟨dL_fault_151, rfl⟩ (q := 4) (v := x4_5 + (1 : Int32)) (lv' := [(4, .int (x4_5 + (1 : Int32))), (3, .int y3_10), (0, .ref b0), (1, .ref b1), (2, .ref b2), (5, .int y5_7)]) rfl rfl (by decide) rfl ?_
                refine g_goto (pc' := 157) O ⟨dL_fault_154, rfl⟩ (tgt := 10) (by decide) ?_
                refine g_sub (lv' := [(0, .ref b0), (1, .ref b1), (2, .ref b2), (3, .int y3_10), (4, .int (x4_5 + (1 : Int32)))]) [2, 3, 4, 1, 0] rfl ?_
                exact ih10 _ _ _ E
              · refine g_aload_n (pc' := 147) O ⟨dL_fault_146, rfl⟩ (q := 3) rfl rfl ?_
                refine g_iload (pc' := 149) O ⟨dL_fault_147, rfl⟩ (q := 5) rfl ?_
                refine g_iload_n (pc' := 150) O ⟨dL_fault_149, rfl⟩ (q := 0) rfl rfl ?_
                refine g_iast (pc' := 151) O ⟨dL_fault_150, rfl⟩ zA3_2 zsA3_2 E (fun E => ?_)
                refine g_nmr (Go := fun (r2_11 : Row) => G l D X 7 (WA3 cy 40 4 6 b0 b1 b2) 1 6 (r0, r1, r2_11) 151 [(3, .int y3_10), (0, .ref b0), (1, .ref b1), (2, .ref b2), (4, .int x4_5), (5, .int y5_7)] []) E (fun r2_11 E => ?_)
                show G l D X 7 (WA3 cy 40 4 6 b0 b1 b2) 1 6 (r0, r1, r2_11) 151 [(3, .int y3_10), (0, .ref b0), (1, .ref b1), (2, .ref b2), (4, .int x4_5), (5, .int y5_7)] []
                refine g_iinc (pc' := 154) O ⟨dL_fault_151, rfl⟩ (q := 4) (v := x4_5 + (1 : Int32)) (lv' := [(4, .int (x4_5 + (1 : Int32))), (3, .int y3_10), (0, .ref b0), (1, .ref b1), (2, .ref b2), (5, .int y5_7)]) rfl rfl (by decide) rfl ?_
                refine g_goto (pc' := 157) O ⟨dL_fault_154, rfl⟩ (tgt := 10) (by decide) ?_
                refine g_sub (lv' := [(0, .ref b0), (1, .ref b1), (2, .ref b2), (3, .int y3_10), (4, .int (x4_5 + (1 : Int32)))]) [2, 3, 4, 1, 0] rfl ?_
                exact ih10 _ _ _ E
            · intro k137 hk137 E
              refine g_icmp_ne (pc' := 132) O ⟨dL_fault_129, rfl⟩ E (tgt := 136) (by decide) (fun E => ?_) (fun E => ?_)
              · refine g_iconst (pc' := 137) O ⟨dL_fault_136, rfl⟩ (v := (0 : Int32)) rfl ?_
                refine g_sub (lv' := [(0, .ref b0), (1, .ref b1), (2, .ref b2), (4, .int x4_5), (5, .int y5_7)]) [1, 2, 3, 5, 6] rfl ?_
                exact hk137 _ E
              · refine g_iconst (pc' := 133) O ⟨dL_fault_132, rfl⟩ (v := (1 : Int32)) rfl ?_
                refine g_goto (pc' := 136) O ⟨dL_fault_133, rfl⟩ (tgt := 137) (by decide) ?_
                refine g_sub (lv' := [(0, .ref b0), (1, .ref b1), (2, .ref b2), (4, .int x4_5), (5, .int y5_7)]) [1, 2, 3, 5, 6] rfl ?_
                exact hk137 _ E
          · refine g_sub (lv' := [(4, .int x4_5)]) [5] rfl ?_
            exact hk119 _ _ E
        · intro k112 hk112 E
          refine g_icmp_ne (pc' := 35) O ⟨dL_fault_32, rfl⟩ E (tgt := 52) (by decide) (fun E => ?_) (fun E => ?_)
          · refine g_iload (pc' := 54) O ⟨dL_fault_52, rfl⟩ (q := 5) rfl ?_
            refine g_iconst (pc' := 55) O ⟨dL_fault_54, rfl⟩ (v := (4 : Int32)) rfl ?_
            refine g_irem (pc' := 56) O ⟨dL_fault_55, rfl⟩ (by decide) ?_
            refine g_iconst (pc' := 57) O ⟨dL_fault_56, rfl⟩ (v := (3 : Int32)) rfl ?_
            refine g_icmp_ne (pc' := 60) O ⟨dL_fault_57, rfl⟩ E (tgt := 86) (by decide) (fun E => ?_) (fun E => ?_)
            · refine g_iload (pc' := 88) O ⟨dL_fault_86, rfl⟩ (q := 0) rfl ?_
              refine jn0_of (P := G l D X 7 (WA3 cy 40 4 6 b0 b1 b2) 1 6 (r0, r1, r2_6) 111 [(0, .ref b0), (1, .ref b1), (2, .ref b2), (3, .int x3_4), (4, .int x4_5), (5, .int y5_7)] []) E ?_ ?_
              · intro E
                show G l D X 7 (WA3 cy 40 4 6 b0 b1 b2) 1 6 (r0, r1, r2_6) 111 [(0, .ref b0), (1, .ref b1), (2, .ref b2), (3, .int x3_4), (4, .int x4_5), (5, .int y5_7)] []
                refine g_iconst (pc' := 112) O ⟨dL_fault_111, rfl⟩ (v := (0 : Int32)) rfl ?_
                exact hk112 _ E
              · intro k111 hk111 E
                refine g_if_lt (pc' := 91) O ⟨dL_fault_88, rfl⟩ E (tgt := 111) (by decide) (fun E => ?_) (fun E => ?_)
                · refine g_sub (lv' := [(0, .ref b0), (1, .ref b1), (2, .ref b2), (3, .int x3_4), (4, .int x4_5), (5, .int y5_7)]) [1, 2, 3, 4, 5, 0] rfl ?_
                  exact hk111 E
                · refine g_iload (pc' := 93) O ⟨dL_fault_91, rfl⟩ (q := 0) rfl ?_
                  refine g_aload_n (pc' := 94) O ⟨dL_fault_93, rfl⟩ (q := 2) rfl rfl ?_
                  refine g_iconst (pc' := 95) O ⟨dL_fault_94, rfl⟩ (v := (0 : Int32)) rfl ?_
                  refine g_iald (pc' := 96) O ⟨dL_fault_95, rfl⟩ zA3_1 E (fun E => ?_)
                  refine g_icmp_ge (pc' := 99) O ⟨dL_fault_96, rfl⟩ E (tgt := 111) (by decide) (fun E => ?_) (fun E => ?_)
                  · refine g_sub (lv' := [(0, .ref b0), (1, .ref b1), (2, .ref b2), (3, .int x3_4), (4, .int x4_5), (5, .int y5_7)]) [1, 2, 3, 4, 5, 0] rfl ?_
                    exact hk111 E
                  · refine g_aload_n (pc' := 100) O ⟨dL_fault_99, rfl⟩ (q := 3) rfl rfl ?_
                    refine g_iload (pc' := 102) O ⟨dL_fault_100, rfl⟩ (q := 0) rfl ?_
                    refine g_iald (pc' := 103) O ⟨dL_fault_102, rfl⟩ zA3_2 E (fun E => ?_)
                    refine g_iload_n (pc' := 104) O ⟨dL_fault_103, rfl⟩ (q := 4) rfl rfl ?_
                    refine g_icmp_ge (pc' := 107) O ⟨dL_fault_104, rfl⟩ E (tgt := 111) (by decide) (fun E => ?_) (fun E => ?_)
                    · refine g_sub (lv' := [(0, .ref b0), (1, .ref b1), (2, .ref b2), (3, .int x3_4), (4, .int x4_5), (5, .int y5_7)]) [1, 2, 3, 4, 5, 0] rfl ?_
                      exact hk111 E
                    · refine g_iconst (pc' := 108) O ⟨dL_fault_107, rfl⟩ (v := (1 : Int32)) rfl ?_
                      refine g_goto (pc' := 111) O ⟨dL_fault_108, rfl⟩ (tgt := 112) (by decide) ?_
                      refine g_sub (lv' := [(0, .ref b0), (1, .ref b1), (2, .ref b2), (3, .int x3_4), (4, .int x4_5), (5, .int y5_7)]) [1, 2, 3, 4, 5, 0] rfl ?_
                      exact hk112 _ E
            · refine g_aload_n (pc' := 61) O ⟨dL_fault_60, rfl⟩ (q := 1) rfl rfl ?_
              refine g_iload (pc' := 63) O ⟨dL_fault_61, rfl⟩ (q := 5) rfl ?_
              refine g_iald (pc' := 64) O ⟨dL_fault_63, rfl⟩ zA3_0 E (fun E => ?_)
              refine g_bipush (pc' := 66) O ⟨dL_fault_64, rfl⟩ (v := (32 : Int32)) rfl ?_
              refine jn0_of (P := G l D X 7 (WA3 cy 40 4 6 b0 b1 b2) 1 6 (r0, r1, r2_6) 78 [(0, .ref b0), (1, .ref b1), (2, .ref b2), (3, .int x3_4), (4, .int x4_5), (5, .int y5_7)] []) E ?_ ?_
              · intro E
                show G l D X 7 (WA3 cy 40 4 6 b0 b1 b2) 1 6 (r0, r1, r2_6) 78 [(0, .ref b0), (1, .ref b1), (2, .ref b2), (3, .int x3_4), (4, .int x4_5), (5, .int y5_7)] []
                refine g_iconst (pc' := 79) O ⟨dL_fault_78, rfl⟩ (v := (1 : Int32)) rfl ?_
                refine g_goto (pc' := 82) O ⟨dL_fault_79, rfl⟩ (tgt := 112) (by decide) ?_
                exact hk112 _ E
              · intro k78 hk78 E
                refine g_icmp_eq (pc' := 69) O ⟨dL_fault_66, rfl⟩ E (tgt := 78) (by decide) (fun E => ?_) (fun E => ?_)
                · refine g_sub (lv' := [(0, .ref b0), (1, .ref b1), (2, .ref b2), (3, .int x3_4), (4, .int x4_5), (5, .int y5_7)]) [1, 2, 3, 4, 5, 0] rfl ?_
                  exact hk78 E
                · refine g_aload_n (pc' := 70) O ⟨dL_fault_69, rfl⟩ (q := 1) rfl rfl ?_
                  refine g_iload (pc' := 72) O ⟨dL_fault_70, rfl⟩ (q := 5) rfl ?_
                  refine g_iald (pc' := 73) O ⟨dL_fault_72, rfl⟩ zA3_0 E (fun E => ?_)
                  refine g_bipush (pc' := 75) O ⟨dL_fault_73, rfl⟩ (v := (47 : Int32)) rfl ?_
                  refine g_icmp_ne (pc' := 78) O ⟨dL_fault_75, rfl⟩ E (tgt := 82) (by decide) (fun E => ?_) (fun E => ?_)
                  · refine g_iconst (pc' := 83) O ⟨dL_fault_82, rfl⟩ (v := (0 : Int32)) rfl ?_
                    refine g_goto (pc' := 86) O ⟨dL_fault_83, rfl⟩ (tgt := 112) (by decide) ?_
                    refine g_sub (lv' := [(0, .ref b0), (1, .ref b1), (2, .ref b2), (3, .int x3_4), (4, .int x4_5), (5, .int y5_7)]) [1, 2, 3, 4, 5, 0] rfl ?_
                    exact hk112 _ E
                  · refine g_sub (lv' := [(0, .ref b0), (1, .ref b1), (2, .ref b2), (3, .int x3_4), (4, .int x4_5), (5, .int y5_7)]) [1, 2, 3, 4, 5, 0] rfl ?_
                    exact hk78 E
          · refine g_aload_n (pc' := 36) O ⟨dL_fault_35, rfl⟩ (q := 1) rfl rfl ?_
            refine g_iload (pc' := 38) O ⟨dL_fault_36, rfl⟩ (q := 5) rfl ?_
            refine g_iald (pc' := 39) O ⟨dL_fault_38, rfl⟩ zA3_0 E (fun E => ?_)
            refine g_bipush (pc' := 41) O ⟨dL_fault_39, rfl⟩ (v := (58 : Int32)) rfl ?_
            refine g_icmp_ne (pc' := 44) O ⟨dL_fault_41, rfl⟩ E (tgt := 48) (by decide) (fun E => ?_) (fun E => ?_)
            · refine g_iconst (pc' := 49) O ⟨dL_fault_48, rfl⟩ (v := (0 : Int32)) rfl ?_
              refine g_goto (pc' := 52) O ⟨dL_fault_49, rfl⟩ (tgt := 112) (by decide) ?_
              refine g_sub (lv' := [(0, .ref b0), (1, .ref b1), (2, .ref b2), (3, .int x3_4), (4, .int x4_5), (5, .int y5_7)]) [1, 2, 3, 4, 5, 0] rfl ?_
              exact hk112 _ E
            · refine g_iconst (pc' := 45) O ⟨dL_fault_44, rfl⟩ (v := (1 : Int32)) rfl ?_
              refine g_goto (pc' := 48) O ⟨dL_fault_45, rfl⟩ (tgt := 112) (by decide) ?_
              refine g_sub (lv' := [(0, .ref b0), (1, .ref b1), (2, .ref b2), (3, .int x3_4), (4, .int x4_5), (5, .int y5_7)]) [1, 2, 3, 4, 5, 0] rfl ?_
              exact hk112 _ E
set_option maxRecDepth 100000 in
set_option maxHeartbeats 4000000 in
theorem t_L_written (l : Launch) (D : va_G) (cy : Nat → ClassId) (hfl : l.stackTraces = false) (b0 : Nat) (b1 : Nat) {x0 : Int32} {r0 : Row} {r1 : Row} {o : Int32} (E : f_L_written x0 r0 r1 = some o) : CtMI l D cy (WA2 cy 24 4 b0 b1) yL_written cL_written 12 .char 1 27 2 30 [.int x0, .ref b0, .ref b1] (r0, r1) o (r0, r1) := by
  refine sMI (own := RL) rfl rfl (Nat.le_of_ble_eq_true rfl) (fun X O hN hret => ?_)
  show G l D X 12 (WA2 cy 24 4 b0 b1) 0 0 (r0, r1) 0 [(0, .int x0), (1, .ref b0), (2, .ref b1)] []
  unfold f_L_written at E
  refine g_bipush (pc' := 2) O ⟨dL_written_0, rfl⟩ (v := (24 : Int32)) rfl ?_
  refine g_newr (pc' := 4) O ⟨dL_written_2, rfl⟩ (N' := 24) (wf2 := fun b2 => (WA3 cy 24 4 24 b0 b1 b2)) (h2 := (r0, r1, (fun _ => 0))) kw_94 rfl (by decide) (by decide) ⟨Nat.le_of_ble_eq_true rfl, Nat.le_of_ble_eq_true rfl⟩ (fun _ => rfl) (fun b2 => ?_)
  show G l D X 12 (WA3 cy 24 4 24 b0 b1 b2) 1 24 (r0, r1, (fun _ => 0)) 4 [(0, .int x0), (1, .ref b0), (2, .ref b1)] [.ref b2]
  refine g_astore_n (pc' := 5) O ⟨dL_written_4, rfl⟩ (lv' := [(3, .ref b2), (0, .int x0), (1, .ref b0), (2, .ref b1)]) rfl (by decide) rfl ?_
  refine g_aload_n (pc' := 6) O ⟨dL_written_5, rfl⟩ (q := 0) rfl rfl ?_
  refine g_aload_n (pc' := 7) O ⟨dL_written_6, rfl⟩ (q := 2) rfl rfl ?_
  refine g_aload_n (pc' := 8) O ⟨dL_written_7, rfl⟩ (q := 3) rfl rfl ?_
  obtain ⟨r_1, c_2, E⟩ := bd_of E
  refine g_MSi (pc' := 11) O hN ⟨dL_written_8, rfl⟩ (y := yL_layers) (As := [.ref b2, .ref b0, .ref b1]) (st := []) (put := (fun g => (g.2.1, g.2.2, g.1))) sub_A3_A2_0_1 (t_L_layers l D cy hfl b2 b0 b1 c_2) kw_559 kw_24 kw_557 kw_558 hd_L_layers ⟨Nat.le_of_ble_eq_true rfl, Nat.le_of_ble_eq_true rfl⟩ ⟨Nat.le_of_ble_eq_true rfl, Nat.le_of_ble_eq_true rfl⟩ rfl (Nat.le_of_ble_eq_true rfl) ?_
  show G l D X 12 (WA3 cy 24 4 24 b0 b1 b2) 2 30 (r0, r1, r_1.2) 11 [(3, .ref b2), (0, .int x0), (1, .ref b0), (2, .ref b1)] [.int r_1.1]
  refine g_istore (pc' := 13) O ⟨dL_written_11, rfl⟩ (lv' := [(4, .int r_1.1), (3, .ref b2), (0, .int x0), (1, .ref b0), (2, .ref b1)]) (by decide) rfl ?_
  refine g_iconst (pc' := 14) O ⟨dL_written_13, rfl⟩ (v := (0 : Int32)) rfl ?_
  refine g_istore (pc' := 16) O ⟨dL_written_14, rfl⟩ (lv' := [(5, .int (0 : Int32)), (4, .int r_1.1), (3, .ref b2), (0, .int x0), (1, .ref b0), (2, .ref b1)]) (by decide) rfl ?_
  refine g_iconst (pc' := 17) O ⟨dL_written_16, rfl⟩ (v := (0 : Int32)) rfl ?_
  refine g_istore (pc' := 19) O ⟨dL_written_17, rfl⟩ (lv' := [(6, .int (0 : Int32)), (5, .int (0 : Int32)), (4, .int r_1.1), (3, .ref b2), (0, .int x0), (1, .ref b0), (2, .ref b1)]) (by decide) rfl ?_
  refine jn0_of (P := G l D X 12 (WA3 cy 24 4 24 b0 b1 b2) 2 30 (r0, r1, r_1.2) 209 [] []) E ?_ ?_
  · intro E
    show G l D X 12 (WA3 cy 24 4 24 b0 b1 b2) 2 30 (r0, r1, r_1.2) 209 [] []
    refine g_bipush (pc' := 211) O ⟨dL_written_209, rfl⟩ (v := (32 : Int32)) rfl ?_
    obtain ⟨hn, E⟩ := ckc_of E
    cases E
    refine g_drop (wf := (WA2 cy 24 4 b0 b1)) (h := (r0, r1)) (List.range 2) rfl rfl (by decide) ?_
    exact hret _ _ _ _ _ (Nat.le_of_ble_eq_true rfl) (Nat.le_of_ble_eq_true rfl) ⟨dL_written_211, rfl⟩ hn
  · intro k209 hk209 E
    refine jn3_of (P := fun (x5_3 : Int32) (x10_4 : Int32) (x11_5 : Int32) => G l D X 12 (WA3 cy 24 4 24 b0 b1 b2) 2 30 (r0, r1, r_1.2) 150 [(0, .int x0), (5, .int x5_3), (10, .int x10_4), (11, .int x11_5)] []) E ?_ ?_
    · intro x5_3 x10_4 x11_5 E
      show G l D X 12 (WA3 cy 24 4 24 b0 b1 b2) 2 30 (r0, r1, r_1.2) 150 [(0, .int x0), (5, .int x5_3), (10, .int x10_4), (11, .int x11_5)] []
      refine g_iload_n (pc' := 151) O ⟨dL_written_150, rfl⟩ (q := 0) rfl rfl ?_
      refine g_iload (pc' := 153) O ⟨dL_written_151, rfl⟩ (q := 1) rfl ?_
      refine g_icmp_ne (pc' := 156) O ⟨dL_written_153, rfl⟩ E (tgt := 165) (by decide) (fun E => ?_) (fun E => ?_)
      · refine g_iload_n (pc' := 166) O ⟨dL_written_165, rfl⟩ (q := 0) rfl rfl ?_
        refine g_iload (pc' := 168) O ⟨dL_written_166, rfl⟩ (q := 1) rfl ?_
        refine g_iconst (pc' := 169) O ⟨dL_written_168, rfl⟩ (v := (1 : Int32)) rfl ?_
        refine g_iadd (pc' := 170) O ⟨dL_written_169, rfl⟩ ?_
        refine g_icmp_ne (pc' := 173) O ⟨dL_written_170, rfl⟩ E (tgt := 178) (by decide) (fun E => ?_) (fun E => ?_)
        · refine g_bipush (pc' := 180) O ⟨dL_written_178, rfl⟩ (v := (48 : Int32)) rfl ?_
          refine g_iload (pc' := 182) O ⟨dL_written_180, rfl⟩ (q := 3) rfl ?_
          refine g_iadd (pc' := 183) O ⟨dL_written_182, rfl⟩ ?_
          refine g_i2c (pc' := 184) O ⟨dL_written_183, rfl⟩ ?_
          obtain ⟨hn, E⟩ := ckc_of E
          cases E
          refine g_drop (wf := (WA2 cy 24 4 b0 b1)) (h := (r0, r1)) (List.range 2) rfl rfl (by decide) ?_
          exact hret _ _ _ _ _ (Nat.le_of_ble_eq_true rfl) (Nat.le_of_ble_eq_true rfl) ⟨dL_written_184, rfl⟩ hn
        · refine g_bipush (pc' := 175) O ⟨dL_written_173, rfl⟩ (v := (58 : Int32)) rfl ?_
          refine g_goto (pc' := 178) O ⟨dL_written_175, rfl⟩ (tgt := 184) (by decide) ?_
          obtain ⟨hn, E⟩ := ckc_of E
          cases E
          refine g_drop (wf := (WA2 cy 24 4 b0 b1)) (h := (r0, r1)) (List.range 2) rfl rfl (by decide) ?_
          exact hret _ _ _ _ _ (Nat.le_of_ble_eq_true rfl) (Nat.le_of_ble_eq_true rfl) ⟨dL_written_184, rfl⟩ hn
      · refine g_bipush (pc' := 158) O ⟨dL_written_156, rfl⟩ (v := (48 : Int32)) rfl ?_
        refine g_iload (pc' := 160) O ⟨dL_written_158, rfl⟩ (q := 2) rfl ?_
        refine g_iadd (pc' := 161) O ⟨dL_written_160, rfl⟩ ?_
        refine g_i2c (pc' := 162) O ⟨dL_written_161, rfl⟩ ?_
        refine g_goto (pc' := 165) O ⟨dL_written_162, rfl⟩ (tgt := 184) (by decide) ?_
        obtain ⟨hn, E⟩ := ckc_of E
        cases E
        refine g_drop (wf := (WA2 cy 24 4 b0 b1)) (h := (r0, r1)) (List.range 2) rfl rfl (by decide) ?_
        exact hret _ _ _ _ _ (Nat.le_of_ble_eq_true rfl) (Nat.le_of_ble_eq_true rfl) ⟨dL_written_184, rfl⟩ hn
    · intro k150 hk150 E
      refine jn1_of (P := fun (x7_6 : Int32) => G l D X 12 (WA3 cy 24 4 24 b0 b1 b2) 2 30 (r0, r1, r_1.2) 108 [(7, .int x7_6)] []) E ?_ ?_
      · intro x7_6 E
        show G l D X 12 (WA3 cy 24 4 24 b0 b1 b2) 2 30 (r0, r1, r_1.2) 108 [(7, .int x7_6)] []
        refine g_iload (pc' := 110) O ⟨dL_written_108, rfl⟩ (q := 0) rfl ?_
        refine g_if_eq (pc' := 113) O ⟨dL_written_110, rfl⟩ E (tgt := 118) (by decide) (fun E => ?_) (fun E => ?_)
        · refine g_bipush (pc' := 120) O ⟨dL_written_118, rfl⟩ (v := (32 : Int32)) rfl ?_
          obtain ⟨hn, E⟩ := ckc_of E
          cases E
          refine g_drop (wf := (WA2 cy 24 4 b0 b1)) (h := (r0, r1)) (List.range 2) rfl rfl (by decide) ?_
          exact hret _ _ _ _ _ (Nat.le_of_ble_eq_true rfl) (Nat.le_of_ble_eq_true rfl) ⟨dL_written_120, rfl⟩ hn
        · refine g_bipush (pc' := 115) O ⟨dL_written_113, rfl⟩ (v := (47 : Int32)) rfl ?_
          refine g_goto (pc' := 118) O ⟨dL_written_115, rfl⟩ (tgt := 120) (by decide) ?_
          obtain ⟨hn, E⟩ := ckc_of E
          cases E
          refine g_drop (wf := (WA2 cy 24 4 b0 b1)) (h := (r0, r1)) (List.range 2) rfl rfl (by decide) ?_
          exact hret _ _ _ _ _ (Nat.le_of_ble_eq_true rfl) (Nat.le_of_ble_eq_true rfl) ⟨dL_written_120, rfl⟩ hn
      · intro k108 hk108 E
        refine g_sub (lv' := [(0, .int x0), (1, .ref b0), (2, .ref b1), (3, .ref b2), (4, .int r_1.1), (5, .int (0 : Int32)), (6, .int (0 : Int32))]) [4, 5, 6, 3, 2, 1, 0] rfl ?_
        refine fx2_of (P := fun (x5_7 : Int32) (x6_8 : Int32) => G l D X 12 (WA3 cy 24 4 24 b0 b1 b2) 2 30 (r0, r1, r_1.2) 19 [(0, .int x0), (1, .ref b0), (2, .ref b1), (3, .ref b2), (4, .int r_1.1), (5, .int x5_7), (6, .int x6_8)] []) ?_ _ _ _ E
        intro self ih19 x5_7 x6_8 E
        show G l D X 12 (WA3 cy 24 4 24 b0 b1 b2) 2 30 (r0, r1, r_1.2) 19 [(0, .int x0), (1, .ref b0), (2, .ref b1), (3, .ref b2), (4, .int r_1.1), (5, .int x5_7), (6, .int x6_8)] []
        unfold L_L_written_19 at E
        refine g_iload (pc' := 21) O ⟨dL_written_19, rfl⟩ (q := 6) rfl ?_
        refine g_iload (pc' := 23) O ⟨dL_written_21, rfl⟩ (q := 4) rfl ?_
        refine g_icmp_ge (pc' := 26) O ⟨dL_written_23, rfl⟩ E (tgt := 209) (by decide) (fun E => ?_) (fun E => ?_)
        · refine g_sub (lv' := []) [] rfl ?_
          exact hk209 E
        · refine g_iconst (pc' := 27) O ⟨dL_written_26, rfl⟩ (v := (1 : Int32)) rfl ?_
          refine g_istore (pc' := 29) O ⟨dL_written_27, rfl⟩ (lv' := [(7, .int (1 : Int32)), (0, .int x0), (1, .ref b0), (2, .ref b1), (3, .ref b2), (4, .int r_1.1), (5, .int x5_7), (6, .int x6_8)]) (by decide) rfl ?_
          refine g_iconst (pc' := 30) O ⟨dL_written_29, rfl⟩ (v := (0 : Int32)) rfl ?_
          refine g_istore (pc' := 32) O ⟨dL_written_30, rfl⟩ (lv' := [(8, .int (0 : Int32)), (7, .int (1 : Int32)), (0, .int x0), (1, .ref b0), (2, .ref b1), (3, .ref b2), (4, .int r_1.1), (5, .int x5_7), (6, .int x6_8)]) (by decide) rfl ?_
          refine jn1_of (P := fun (x5_9 : Int32) => G l D X 12 (WA3 cy 24 4 24 b0 b1 b2) 2 30 (r0, r1, r_1.2) 203 [(0, .int x0), (1, .ref b0), (2, .ref b1), (3, .ref b2), (4, .int r_1.1), (5, .int x5_9), (6, .int x6_8)] []) E ?_ ?_
          · intro x5_9 E
            show G l D X 12 (WA3 cy 24 4 24 b0 b1 b2) 2 30 (r0, r1, r_1.2) 203 [(0, .int x0), (1, .ref b0), (2, .ref b1), (3, .ref b2), (4, .int r_1.1), (5, .int x5_9), (6, .int x6_8)] []
            refine g_iinc (pc' := 206) O ⟨dL_written_203, rfl⟩ (q := 6) (v := x6_8 + (1 : Int32)) (lv' := [(6, .int (x6_8 + (1 : Int32))), (0, .int x0), (1, .ref b0), (2, .ref b1), (3, .ref b2), (4, .int r_1.1), (5, .int x5_9)]) rfl rfl (by decide) rfl ?_
            refine g_goto (pc' := 209) O ⟨dL_written_206, rfl⟩ (tgt := 19) (by decide) ?_
            refine g_sub (lv' := [(0, .int x0), (1, .ref b0), (2, .ref b1), (3, .ref b2), (4, .int r_1.1), (5, .int x5_9), (6, .int (x6_8 + (1 : Int32)))]) [1, 2, 3, 4, 5, 6, 0] rfl ?_
            exact ih19 _ _ E
          · intro k203 hk203 E
            refine g_sub (lv' := [(0, .int x0), (1, .ref b0), (2, .ref b1), (3, .ref b2), (4, .int r_1.1), (5, .int x5_7), (6, .int x6_8), (7, .int (1 : Int32)), (8, .int (0 : Int32))]) [2, 3, 4, 5, 6, 7, 8, 1, 0] rfl ?_
            refine fx3_of (P := fun (x5_10 : Int32) (x7_11 : Int32) (x8_12 : Int32) => G l D X 12 (WA3 cy 24 4 24 b0 b1 b2) 2 30 (r0, r1, r_1.2) 32 [(0, .int x0), (1, .ref b0), (2, .ref b1), (3, .ref b2), (4, .int r_1.1), (5, .int x5_10), (6, .int x6_8), (7, .int x7_11), (8, .int x8_12)] []) ?_ _ _ _ _ E
            intro self ih32 x5_10 x7_11 x8_12 E
            show G l D X 12 (WA3 cy 24 4 24 b0 b1 b2) 2 30 (r0, r1, r_1.2) 32 [(0, .int x0), (1, .ref b0), (2, .ref b1), (3, .ref b2), (4, .int r_1.1), (5, .int x5_10), (6, .int x6_8), (7, .int x7_11), (8, .int x8_12)] []
            unfold L_L_written_32 at E
            refine g_iload (pc' := 34) O ⟨dL_written_32, rfl⟩ (q := 8) rfl ?_
            refine g_aload_n (pc' := 35) O ⟨dL_written_34, rfl⟩ (q := 2) rfl rfl ?_
            refine g_iconst (pc' := 36) O ⟨dL_written_35, rfl⟩ (v := (0 : Int32)) rfl ?_
            refine g_iald (pc' := 37) O ⟨dL_written_36, rfl⟩ zA3_1 E (fun E => ?_)
            refine g_icmp_ge (pc' := 40) O ⟨dL_written_37, rfl⟩ E (tgt := 203) (by decide) (fun E => ?_) (fun E => ?_)
            · refine g_sub (lv' := [(0, .int x0), (1, .ref b0), (2, .ref b1), (3, .ref b2), (4, .int r_1.1), (5, .int x5_10), (6, .int x6_8)]) [0, 1, 2, 3, 4, 5, 6] rfl ?_
              exact hk203 _ E
            · refine g_iconst (pc' := 41) O ⟨dL_written_40, rfl⟩ (v := (0 : Int32)) rfl ?_
              refine g_istore (pc' := 43) O ⟨dL_written_41, rfl⟩ (lv' := [(9, .int (0 : Int32)), (0, .int x0), (1, .ref b0), (2, .ref b1), (3, .ref b2), (4, .int r_1.1), (5, .int x5_10), (6, .int x6_8), (7, .int x7_11), (8, .int x8_12)]) (by decide) rfl ?_
              refine jn2_of (P := fun (x5_13 : Int32) (x7_14 : Int32) => G l D X 12 (WA3 cy 24 4 24 b0 b1 b2) 2 30 (r0, r1, r_1.2) 197 [(0, .int x0), (1, .ref b0), (2, .ref b1), (3, .ref b2), (4, .int r_1.1), (5, .int x5_13), (6, .int x6_8), (7, .int x7_14), (8, .int x8_12)] []) E ?_ ?_
              · intro x5_13 x7_14 E
                show G l D X 12 (WA3 cy 24 4 24 b0 b1 b2) 2 30 (r0, r1, r_1.2) 197 [(0, .int x0), (1, .ref b0), (2, .ref b1), (3, .ref b2), (4, .int r_1.1), (5, .int x5_13), (6, .int x6_8), (7, .int x7_14), (8, .int x8_12)] []
                refine g_iinc (pc' := 200) O ⟨dL_written_197, rfl⟩ (q := 8) (v := x8_12 + (1 : Int32)) (lv' := [(8, .int (x8_12 + (1 : Int32))), (0, .int x0), (1, .ref b0), (2, .ref b1), (3, .ref b2), (4, .int r_1.1), (5, .int x5_13), (6, .int x6_8), (7, .int x7_14)]) rfl rfl (by decide) rfl ?_
                refine g_goto (pc' := 203) O ⟨dL_written_200, rfl⟩ (tgt := 32) (by decide) ?_
                refine g_sub (lv' := [(0, .int x0), (1, .ref b0), (2, .ref b1), (3, .ref b2), (4, .int r_1.1), (5, .int x5_13), (6, .int x6_8), (7, .int x7_14), (8, .int (x8_12 + (1 : Int32)))]) [1, 2, 3, 4, 5, 6, 7, 8, 0] rfl ?_
                exact ih32 _ _ _ E
              · intro k197 hk197 E
                refine g_sub (lv' := [(0, .int x0), (1, .ref b0), (2, .ref b1), (3, .ref b2), (4, .int r_1.1), (5, .int x5_10), (6, .int x6_8), (7, .int x7_11), (8, .int x8_12), (9, .int (0 : Int32))]) [1, 2, 3, 4, 5, 6, 7, 8, 9, 0] rfl ?_
                refine fx3_of (P := fun (x5_15 : Int32) (x7_16 : Int32) (x9_17 : Int32) => G l D X 12 (WA3 cy 24 4 24 b0 b1 b2) 2 30 (r0, r1, r_1.2) 43 [(0, .int x0), (1, .ref b0), (2, .ref b1), (3, .ref b2), (4, .int r_1.1), (5, .int x5_15), (6, .int x6_8), (7, .int x7_16), (8, .int x8_12), (9, .int x9_17)] []) ?_ _ _ _ _ E
                intro self ih43 x5_15 x7_16 x9_17 E
                show G l D X 12 (WA3 cy 24 4 24 b0 b1 b2) 2 30 (r0, r1, r_1.2) 43 [(0, .int x0), (1, .ref b0), (2, .ref b1), (3, .ref b2), (4, .int r_1.1), (5, .int x5_15), (6, .int x6_8), (7, .int x7_16), (8, .int x8_12), (9, .int x9_17)] []
                unfold L_L_written_43 at E
                refine g_iload (pc' := 45) O ⟨dL_written_43, rfl⟩ (q := 9) rfl ?_
                refine g_aload_n (pc' := 46) O ⟨dL_written_45, rfl⟩ (q := 2) rfl rfl ?_
                refine g_iconst (pc' := 47) O ⟨dL_written_46, rfl⟩ (v := (1 : Int32)) rfl ?_
                refine g_iald (pc' := 48) O ⟨dL_written_47, rfl⟩ zA3_1 E (fun E => ?_)
                refine g_icmp_ge (pc' := 51) O ⟨dL_written_48, rfl⟩ E (tgt := 197) (by decide) (fun E => ?_) (fun E => ?_)
                · refine g_sub (lv' := [(0, .int x0), (1, .ref b0), (2, .ref b1), (3, .ref b2), (4, .int r_1.1), (5, .int x5_15), (6, .int x6_8), (7, .int x7_16), (8, .int x8_12)]) [0, 1, 2, 3, 4, 5, 6, 7, 8] rfl ?_
                  exact hk197 _ _ E
                · refine g_aload_n (pc' := 52) O ⟨dL_written_51, rfl⟩ (q := 1) rfl rfl ?_
                  refine g_iload (pc' := 54) O ⟨dL_written_52, rfl⟩ (q := 9) rfl ?_
                  refine g_iald (pc' := 55) O ⟨dL_written_54, rfl⟩ zA3_0 E (fun E => ?_)
                  refine g_bipush (pc' := 57) O ⟨dL_written_55, rfl⟩ (v := (8 : Int32)) rfl ?_
                  refine g_irem (pc' := 58) O ⟨dL_written_57, rfl⟩ (by decide) ?_
                  refine g_nm E (fun y10_18 E => ?_)
                  refine g_istore (pc' := 60) O ⟨dL_written_58, rfl⟩ (lv' := [(10, .int y10_18), (0, .int x0), (1, .ref b0), (2, .ref b1), (3, .ref b2), (4, .int r_1.1), (5, .int x5_15), (6, .int x6_8), (7, .int x7_16), (8, .int x8_12), (9, .int x9_17)]) (by decide) rfl ?_
                  refine g_aload_n (pc' := 61) O ⟨dL_written_60, rfl⟩ (q := 2) rfl rfl ?_
                  refine g_iload (pc' := 63) O ⟨dL_written_61, rfl⟩ (q := 10) rfl ?_
                  refine g_iald (pc' := 64) O ⟨dL_written_63, rfl⟩ zA3_0 E (fun E => ?_)
                  refine g_bipush (pc' := 66) O ⟨dL_written_64, rfl⟩ (v := (8 : Int32)) rfl ?_
                  refine g_idiv (pc' := 67) O ⟨dL_written_66, rfl⟩ (by decide) ?_
                  refine g_nm E (fun y11_19 E => ?_)
                  refine g_istore (pc' := 69) O ⟨dL_written_67, rfl⟩ (lv' := [(11, .int y11_19), (10, .int y10_18), (0, .int x0), (1, .ref b0), (2, .ref b1), (3, .ref b2), (4, .int r_1.1), (5, .int x5_15), (6, .int x6_8), (7, .int x7_16), (8, .int x8_12), (9, .int x9_17)]) (by decide) rfl ?_
                  refine g_aload_n (pc' := 70) O ⟨dL_written_69, rfl⟩ (q := 5) rfl rfl ?_
                  refine g_iload (pc' := 72) O ⟨dL_written_70, rfl⟩ (q := 11) rfl ?_
                  refine g_iald (pc' := 73) O ⟨dL_written_72, rfl⟩ zA3_2 E (fun E => ?_)
                  refine g_iload (pc' := 75) O ⟨dL_written_73, rfl⟩ (q := 8) rfl ?_
                  refine g_icmp_ne (pc' := 78) O ⟨dL_written_75, rfl⟩ E (tgt := 191) (by decide) (fun E => ?_) (fun E => ?_)
                  · refine g_iinc (pc' := 194) O ⟨dL_written_191, rfl⟩ (q := 11) (v := x9_17 + (1 : Int32)) (lv' := [(9, .int (x9_17 + (1 : Int32))), (11, .int y11_19), (10, .int y10_18), (0, .int x0), (1, .ref b0), (2, .ref b1), (3, .ref b2), (4, .int r_1.1), (5, .int x5_15), (6, .int x6_8), (7, .int x7_16), (8, .int x8_12)]) rfl rfl (by decide) rfl ?_
                    refine g_goto (pc' := 197) O ⟨dL_written_194, rfl⟩ (tgt := 43) (by decide) ?_
                    refine g_sub (lv' := [(0, .int x0), (1, .ref b0), (2, .ref b1), (3, .ref b2), (4, .int r_1.1), (5, .int x5_15), (6, .int x6_8), (7, .int x7_16), (8, .int x8_12), (9, .int (x9_17 + (1 : Int32)))]) [3, 4, 5, 6, 7, 8, 9, 10, 11, 0] rfl ?_
                    exact ih43 _ _ _ E
                  · refine g_iload (pc' := 80) O ⟨dL_written_78, rfl⟩ (q := 1) rfl ?_
                    refine g_iload (pc' := 82) O ⟨dL_written_80, rfl⟩ (q := 0) rfl ?_
                    refine jn1_of (P := fun (z_20 : Int32) => G l D X 12 (WA3 cy 24 4 24 b0 b1 b2) 2 30 (r0, r1, r_1.2) 92 [(0, .int x0), (1, .ref b0), (2, .ref b1), (3, .ref b2), (4, .int r_1.1), (5, .int x5_15), (6, .int x6_8), (7, .int x7_16), (8, .int x8_12), (9, .int x9_17), (10, .int y10_18), (11, .int y11_19)] [.int z_20]) E ?_ ?_
                    · intro z_20 E
                      show G l D X 12 (WA3 cy 24 4 24 b0 b1 b2) 2 30 (r0, r1, r_1.2) 92 [(0, .int x0), (1, .ref b0), (2, .ref b1), (3, .ref b2), (4, .int r_1.1), (5, .int x5_15), (6, .int x6_8), (7, .int x7_16), (8, .int x8_12), (9, .int x9_17), (10, .int y10_18), (11, .int y11_19)] [.int z_20]
                      refine g_iload (pc' := 94) O ⟨dL_written_92, rfl⟩ (q := 8) rfl ?_
                      refine g_icmp_ne (pc' := 97) O ⟨dL_written_94, rfl⟩ E (tgt := 191) (by decide) (fun E => ?_) (fun E => ?_)
                      · refine g_iinc (pc' := 194) O ⟨dL_written_191, rfl⟩ (q := 9) (v := x9_17 + (1 : Int32)) (lv' := [(9, .int (x9_17 + (1 : Int32))), (0, .int x0), (1, .ref b0), (2, .ref b1), (3, .ref b2), (4, .int r_1.1), (5, .int x5_15), (6, .int x6_8), (7, .int x7_16), (8, .int x8_12), (10, .int y10_18), (11, .int y11_19)]) rfl rfl (by decide) rfl ?_
                        refine g_goto (pc' := 197) O ⟨dL_written_194, rfl⟩ (tgt := 43) (by decide) ?_
                        refine g_sub (lv' := [(0, .int x0), (1, .ref b0), (2, .ref b1), (3, .ref b2), (4, .int r_1.1), (5, .int x5_15), (6, .int x6_8), (7, .int x7_16), (8, .int x8_12), (9, .int (x9_17 + (1 : Int32)))]) [1, 2, 3, 4, 5, 6, 7, 8, 9, 0] rfl ?_
                        exact ih43 _ _ _ E
                      · refine g_iload (pc' := 99) O ⟨dL_written_97, rfl⟩ (q := 5) rfl ?_
                        refine jn0_of (P := G l D X 12 (WA3 cy 24 4 24 b0 b1 b2) 2 30 (r0, r1, r_1.2) 121 [(0, .int x0), (1, .ref b0), (2, .ref b1), (3, .ref b2), (4, .int r_1.1), (5, .int x5_15), (6, .int x6_8), (8, .int x8_12), (9, .int x9_17), (10, .int y10_18), (11, .int y11_19)] []) E ?_ ?_
                        · intro E
                          show G l D X 12 (WA3 cy 24 4 24 b0 b1 b2) 2 30 (r0, r1, r_1.2) 121 [(0, .int x0), (1, .ref b0), (2, .ref b1), (3, .ref b2), (4, .int r_1.1), (5, .int x5_15), (6, .int x6_8), (8, .int x8_12), (9, .int x9_17), (10, .int y10_18), (11, .int y11_19)] []
                          refine g_iload (pc' := 123) O ⟨dL_written_121, rfl⟩ (q := 5) rfl ?_
                          refine g_iload (pc' := 125) O ⟨dL_written_123, rfl⟩ (q := 5) rfl ?_
                          refine jn1_of (P := fun (z_21 : Int32) => G l D X 12 (WA3 cy 24 4 24 b0 b1 b2) 2 30 (r0, r1, r_1.2) 133 [(0, .int x0), (1, .ref b0), (2, .ref b1), (3, .ref b2), (4, .int r_1.1), (6, .int x6_8), (8, .int x8_12), (9, .int x9_17), (10, .int y10_18), (11, .int y11_19)] [.int z_21, .int x5_15]) E ?_ ?_
                          · intro z_21 E
                            show G l D X 12 (WA3 cy 24 4 24 b0 b1 b2) 2 30 (r0, r1, r_1.2) 133 [(0, .int x0), (1, .ref b0), (2, .ref b1), (3, .ref b2), (4, .int r_1.1), (6, .int x6_8), (8, .int x8_12), (9, .int x9_17), (10, .int y10_18), (11, .int y11_19)] [.int z_21, .int x5_15]
                            refine g_iadd (pc' := 134) O ⟨dL_written_133, rfl⟩ ?_
                            refine g_nm E (fun y5_22 E => ?_)
                            refine g_istore (pc' := 136) O ⟨dL_written_134, rfl⟩ (lv' := [(5, .int y5_22), (0, .int x0), (1, .ref b0), (2, .ref b1), (3, .ref b2), (4, .int r_1.1), (6, .int x6_8), (8, .int x8_12), (9, .int x9_17), (10, .int y10_18), (11, .int y11_19)]) (by decide) rfl ?_
                            refine g_iload_n (pc' := 137) O ⟨dL_written_136, rfl⟩ (q := 1) rfl rfl ?_
                            refine g_iload (pc' := 139) O ⟨dL_written_137, rfl⟩ (q := 0) rfl ?_
                            refine jn0_of (P := G l D X 12 (WA3 cy 24 4 24 b0 b1 b2) 2 30 (r0, r1, r_1.2) 185 [(0, .int x0), (1, .ref b0), (2, .ref b1), (3, .ref b2), (4, .int r_1.1), (5, .int y5_22), (6, .int x6_8), (8, .int x8_12), (9, .int x9_17)] []) E ?_ ?_
                            · intro E
                              show G l D X 12 (WA3 cy 24 4 24 b0 b1 b2) 2 30 (r0, r1, r_1.2) 185 [(0, .int x0), (1, .ref b0), (2, .ref b1), (3, .ref b2), (4, .int r_1.1), (5, .int y5_22), (6, .int x6_8), (8, .int x8_12), (9, .int x9_17)] []
                              refine g_iinc (pc' := 188) O ⟨dL_written_185, rfl⟩ (q := 5) (v := y5_22 + (3 : Int32)) (lv' := [(5, .int (y5_22 + (3 : Int32))), (0, .int x0), (1, .ref b0), (2, .ref b1), (3, .ref b2), (4, .int r_1.1), (6, .int x6_8), (8, .int x8_12), (9, .int x9_17)]) rfl rfl (by decide) rfl ?_
                              refine g_iconst (pc' := 189) O ⟨dL_written_188, rfl⟩ (v := (0 : Int32)) rfl ?_
                              refine g_istore (pc' := 191) O ⟨dL_written_189, rfl⟩ (lv' := [(7, .int (0 : Int32)), (5, .int (y5_22 + (3 : Int32))), (0, .int x0), (1, .ref b0), (2, .ref b1), (3, .ref b2), (4, .int r_1.1), (6, .int x6_8), (8, .int x8_12), (9, .int x9_17)]) (by decide) rfl ?_
                              refine g_iinc (pc' := 194) O ⟨dL_written_191, rfl⟩ (q := 9) (v := x9_17 + (1 : Int32)) (lv' := [(9, .int (x9_17 + (1 : Int32))), (7, .int (0 : Int32)), (5, .int (y5_22 + (3 : Int32))), (0, .int x0), (1, .ref b0), (2, .ref b1), (3, .ref b2), (4, .int r_1.1), (6, .int x6_8), (8, .int x8_12)]) rfl rfl (by decide) rfl ?_
                              refine g_goto (pc' := 197) O ⟨dL_written_194, rfl⟩ (tgt := 43) (by decide) ?_
                              refine g_sub (lv' := [(0, .int x0), (1, .ref b0), (2, .ref b1), (3, .ref b2), (4, .int r_1.1), (5, .int (y5_22 + (3 : Int32))), (6, .int x6_8), (7, .int (0 : Int32)), (8, .int x8_12), (9, .int (x9_17 + (1 : Int32)))]) [3, 4, 5, 6, 7, 2, 8, 1, 9, 0] rfl ?_
                              exact ih43 _ _ _ E
                            · intro k185 hk185 E
                              refine g_icmp_lt (pc' := 142) O ⟨dL_written_139, rfl⟩ E (tgt := 185) (by decide) (fun E => ?_) (fun E => ?_)
                              · refine g_sub (lv' := [(0, .int x0), (1, .ref b0), (2, .ref b1), (3, .ref b2), (4, .int r_1.1), (5, .int y5_22), (6, .int x6_8), (8, .int x8_12), (9, .int x9_17)]) [1, 2, 3, 4, 5, 0, 6, 7, 8] rfl ?_
                                exact hk185 E
                              · refine g_iload_n (pc' := 143) O ⟨dL_written_142, rfl⟩ (q := 1) rfl rfl ?_
                                refine g_iload (pc' := 145) O ⟨dL_written_143, rfl⟩ (q := 0) rfl ?_
                                refine g_iconst (pc' := 146) O ⟨dL_written_145, rfl⟩ (v := (3 : Int32)) rfl ?_
                                refine g_iadd (pc' := 147) O ⟨dL_written_146, rfl⟩ ?_
                                refine g_icmp_ge (pc' := 150) O ⟨dL_written_147, rfl⟩ E (tgt := 185) (by decide) (fun E => ?_) (fun E => ?_)
                                · refine g_sub (lv' := [(0, .int x0), (1, .ref b0), (2, .ref b1), (3, .ref b2), (4, .int r_1.1), (5, .int y5_22), (6, .int x6_8), (8, .int x8_12), (9, .int x9_17)]) [1, 2, 3, 4, 5, 0, 6, 7, 8] rfl ?_
                                  exact hk185 E
                                · refine g_sub (lv' := [(0, .int x0), (5, .int y5_22), (10, .int y10_18), (11, .int y11_19)]) [1, 0, 9, 10] rfl ?_
                                  exact hk150 _ _ _ E
                          · intro k133 hk133 E
                            refine g_if_le (pc' := 128) O ⟨dL_written_125, rfl⟩ E (tgt := 132) (by decide) (fun E => ?_) (fun E => ?_)
                            · refine g_iconst (pc' := 133) O ⟨dL_written_132, rfl⟩ (v := (0 : Int32)) rfl ?_
                              refine g_sub (lv' := [(0, .int x0), (1, .ref b0), (2, .ref b1), (3, .ref b2), (4, .int r_1.1), (6, .int x6_8), (8, .int x8_12), (9, .int x9_17), (10, .int y10_18), (11, .int y11_19)]) [0, 1, 2, 3, 4, 6, 7, 8, 9, 10] rfl ?_
                              exact hk133 _ E
                            · refine g_iconst (pc' := 129) O ⟨dL_written_128, rfl⟩ (v := (1 : Int32)) rfl ?_
                              refine g_goto (pc' := 132) O ⟨dL_written_129, rfl⟩ (tgt := 133) (by decide) ?_
                              refine g_sub (lv' := [(0, .int x0), (1, .ref b0), (2, .ref b1), (3, .ref b2), (4, .int r_1.1), (6, .int x6_8), (8, .int x8_12), (9, .int x9_17), (10, .int y10_18), (11, .int y11_19)]) [0, 1, 2, 3, 4, 6, 7, 8, 9, 10] rfl ?_
                              exact hk133 _ E
                        · intro k121 hk121 E
                          refine g_if_le (pc' := 102) O ⟨dL_written_99, rfl⟩ E (tgt := 121) (by decide) (fun E => ?_) (fun E => ?_)
                          · refine g_sub (lv' := [(0, .int x0), (1, .ref b0), (2, .ref b1), (3, .ref b2), (4, .int r_1.1), (5, .int x5_15), (6, .int x6_8), (8, .int x8_12), (9, .int x9_17), (10, .int y10_18), (11, .int y11_19)]) [0, 1, 2, 3, 4, 5, 6, 8, 9, 10, 11] rfl ?_
                            exact hk121 E
                          · refine g_iload (pc' := 104) O ⟨dL_written_102, rfl⟩ (q := 5) rfl ?_
                            refine g_iload_n (pc' := 105) O ⟨dL_written_104, rfl⟩ (q := 0) rfl rfl ?_
                            refine g_icmp_ne (pc' := 108) O ⟨dL_written_105, rfl⟩ E (tgt := 121) (by decide) (fun E => ?_) (fun E => ?_)
                            · refine g_sub (lv' := [(0, .int x0), (1, .ref b0), (2, .ref b1), (3, .ref b2), (4, .int r_1.1), (5, .int x5_15), (6, .int x6_8), (8, .int x8_12), (9, .int x9_17), (10, .int y10_18), (11, .int y11_19)]) [0, 1, 2, 3, 4, 5, 6, 8, 9, 10, 11] rfl ?_
                              exact hk121 E
                            · refine g_sub (lv' := [(7, .int x7_16)]) [7] rfl ?_
                              exact hk108 _ E
                    · intro k92 hk92 E
                      refine g_icmp_ge (pc' := 85) O ⟨dL_written_82, rfl⟩ E (tgt := 90) (by decide) (fun E => ?_) (fun E => ?_)
                      · refine g_iload (pc' := 92) O ⟨dL_written_90, rfl⟩ (q := 0) rfl ?_
                        refine g_sub (lv' := [(0, .int x0), (1, .ref b0), (2, .ref b1), (3, .ref b2), (4, .int r_1.1), (5, .int x5_15), (6, .int x6_8), (7, .int x7_16), (8, .int x8_12), (9, .int x9_17), (10, .int y10_18), (11, .int y11_19)]) [2, 3, 4, 5, 6, 7, 8, 9, 10, 11, 1, 0] rfl ?_
                        exact hk92 _ E
                      · refine g_iload (pc' := 87) O ⟨dL_written_85, rfl⟩ (q := 1) rfl ?_
                        refine g_goto (pc' := 90) O ⟨dL_written_87, rfl⟩ (tgt := 92) (by decide) ?_
                        refine g_sub (lv' := [(0, .int x0), (1, .ref b0), (2, .ref b1), (3, .ref b2), (4, .int r_1.1), (5, .int x5_15), (6, .int x6_8), (7, .int x7_16), (8, .int x8_12), (9, .int x9_17), (10, .int y10_18), (11, .int y11_19)]) [2, 3, 4, 5, 6, 7, 8, 9, 10, 11, 1, 0] rfl ?_
                        exact hk92 _ E
set_option maxRecDepth 100000 in
set_option maxHeartbeats 4000000 in
theorem t_L_agrees (l : Launch) (D : va_G) (cy : Nat → ClassId) (hfl : l.stackTraces = false) (b0 : Nat) (b1 : Nat) {x2 : Int32} {r0 : Row} {r1 : Row} {o : Int32} (E : f_L_agrees x2 r0 r1 = some o) : CtMI l D cy (WA2 cy 6 36 b0 b1) yL_agrees cL_agrees 5 .boolean 0 0 0 0 [.ref b0, .ref b1, .int x2] (r0, r1) o (r0, r1) := by
  refine sMI (own := RL) rfl rfl (Nat.le_of_ble_eq_true rfl) (fun X O hN hret => ?_)
  show G l D X 5 (WA2 cy 6 36 b0 b1) 0 0 (r0, r1) 0 [(0, .ref b0), (1, .ref b1), (2, .int x2)] []
  unfold f_L_agrees at E
  refine g_iconst (pc' := 1) O ⟨dL_agrees_0, rfl⟩ (v := (1 : Int32)) rfl ?_
  refine g_istore_n (pc' := 2) O ⟨dL_agrees_1, rfl⟩ (lv' := [(3, .int (1 : Int32)), (0, .ref b0), (1, .ref b1), (2, .int x2)]) rfl (by decide) rfl ?_
  refine g_iconst (pc' := 3) O ⟨dL_agrees_2, rfl⟩ (v := (0 : Int32)) rfl ?_
  refine g_istore (pc' := 5) O ⟨dL_agrees_3, rfl⟩ (lv' := [(4, .int (0 : Int32)), (3, .int (1 : Int32)), (0, .ref b0), (1, .ref b1), (2, .int x2)]) (by decide) rfl ?_
  refine jn1_of (P := fun (x3_1 : Int32) => G l D X 5 (WA2 cy 6 36 b0 b1) 0 0 (r0, r1) 52 [(3, .int x3_1)] []) E ?_ ?_
  · intro x3_1 E
    show G l D X 5 (WA2 cy 6 36 b0 b1) 0 0 (r0, r1) 52 [(3, .int x3_1)] []
    refine g_iload_n (pc' := 53) O ⟨dL_agrees_52, rfl⟩ (q := 0) rfl rfl ?_
    obtain ⟨hn, E⟩ := ckz_of E
    cases E
    exact hret _ _ _ _ _ (Nat.le_of_ble_eq_true rfl) (Nat.le_of_ble_eq_true rfl) ⟨dL_agrees_53, rfl⟩ hn
  · intro k52 hk52 E
    refine g_sub (lv' := [(0, .ref b0), (1, .ref b1), (3, .int (1 : Int32)), (4, .int (0 : Int32))]) [2, 3, 1, 0] rfl ?_
    refine fx2_of (P := fun (x3_2 : Int32) (x4_3 : Int32) => G l D X 5 (WA2 cy 6 36 b0 b1) 0 0 (r0, r1) 5 [(0, .ref b0), (1, .ref b1), (3, .int x3_2), (4, .int x4_3)] []) ?_ _ _ _ E
    intro self ih5 x3_2 x4_3 E
    show G l D X 5 (WA2 cy 6 36 b0 b1) 0 0 (r0, r1) 5 [(0, .ref b0), (1, .ref b1), (3, .int x3_2), (4, .int x4_3)] []
    unfold L_L_agrees_5 at E
    refine g_iload (pc' := 7) O ⟨dL_agrees_5, rfl⟩ (q := 3) rfl ?_
    refine g_bipush (pc' := 9) O ⟨dL_agrees_7, rfl⟩ (v := (36 : Int32)) rfl ?_
    refine g_icmp_ge (pc' := 12) O ⟨dL_agrees_9, rfl⟩ E (tgt := 52) (by decide) (fun E => ?_) (fun E => ?_)
    · refine g_sub (lv' := [(3, .int x3_2)]) [2] rfl ?_
      exact hk52 _ E
    · refine g_iload_n (pc' := 13) O ⟨dL_agrees_12, rfl⟩ (q := 2) rfl rfl ?_
      refine g_if_eq (pc' := 16) O ⟨dL_agrees_13, rfl⟩ E (tgt := 44) (by decide) (fun E => ?_) (fun E => ?_)
      · refine g_iconst (pc' := 45) O ⟨dL_agrees_44, rfl⟩ (v := (0 : Int32)) rfl ?_
        refine g_istore_n (pc' := 46) O ⟨dL_agrees_45, rfl⟩ (lv' := [(3, .int (0 : Int32)), (0, .ref b0), (1, .ref b1), (4, .int x4_3)]) rfl (by decide) rfl ?_
        refine g_iinc (pc' := 49) O ⟨dL_agrees_46, rfl⟩ (q := 3) (v := x4_3 + (1 : Int32)) (lv' := [(4, .int (x4_3 + (1 : Int32))), (3, .int (0 : Int32)), (0, .ref b0), (1, .ref b1)]) rfl rfl (by decide) rfl ?_
        refine g_goto (pc' := 52) O ⟨dL_agrees_49, rfl⟩ (tgt := 5) (by decide) ?_
        refine g_sub (lv' := [(0, .ref b0), (1, .ref b1), (3, .int (0 : Int32)), (4, .int (x4_3 + (1 : Int32)))]) [2, 3, 1, 0] rfl ?_
        exact ih5 _ _ E
      · refine g_aload_n (pc' := 17) O ⟨dL_agrees_16, rfl⟩ (q := 1) rfl rfl ?_
        refine g_iload (pc' := 19) O ⟨dL_agrees_17, rfl⟩ (q := 3) rfl ?_
        refine g_iald (pc' := 20) O ⟨dL_agrees_19, rfl⟩ zA2_1 E (fun E => ?_)
        refine jn0_of (P := G l D X 5 (WA2 cy 6 36 b0 b1) 0 0 (r0, r1) 40 [(0, .ref b0), (1, .ref b1), (4, .int x4_3)] []) E ?_ ?_
        · intro E
          show G l D X 5 (WA2 cy 6 36 b0 b1) 0 0 (r0, r1) 40 [(0, .ref b0), (1, .ref b1), (4, .int x4_3)] []
          refine g_iconst (pc' := 41) O ⟨dL_agrees_40, rfl⟩ (v := (1 : Int32)) rfl ?_
          refine g_goto (pc' := 44) O ⟨dL_agrees_41, rfl⟩ (tgt := 45) (by decide) ?_
          refine g_istore_n (pc' := 46) O ⟨dL_agrees_45, rfl⟩ (lv' := [(3, .int (1 : Int32)), (0, .ref b0), (1, .ref b1), (4, .int x4_3)]) rfl (by decide) rfl ?_
          refine g_iinc (pc' := 49) O ⟨dL_agrees_46, rfl⟩ (q := 3) (v := x4_3 + (1 : Int32)) (lv' := [(4, .int (x4_3 + (1 : Int32))), (3, .int (1 : Int32)), (0, .ref b0), (1, .ref b1)]) rfl rfl (by decide) rfl ?_
          refine g_goto (pc' := 52) O ⟨dL_agrees_49, rfl⟩ (tgt := 5) (by decide) ?_
          refine g_sub (lv' := [(0, .ref b0), (1, .ref b1), (3, .int (1 : Int32)), (4, .int (x4_3 + (1 : Int32)))]) [2, 3, 1, 0] rfl ?_
          exact ih5 _ _ E
        · intro k40 hk40 E
          refine g_if_eq (pc' := 23) O ⟨dL_agrees_20, rfl⟩ E (tgt := 40) (by decide) (fun E => ?_) (fun E => ?_)
          · refine g_sub (lv' := [(0, .ref b0), (1, .ref b1), (4, .int x4_3)]) [0, 1, 3] rfl ?_
            exact hk40 E
          · refine g_aload_n (pc' := 24) O ⟨dL_agrees_23, rfl⟩ (q := 0) rfl rfl ?_
            refine g_iload (pc' := 26) O ⟨dL_agrees_24, rfl⟩ (q := 3) rfl ?_
            refine g_bipush (pc' := 28) O ⟨dL_agrees_26, rfl⟩ (v := (6 : Int32)) rfl ?_
            refine g_idiv (pc' := 29) O ⟨dL_agrees_28, rfl⟩ (by decide) ?_
            refine g_iald (pc' := 30) O ⟨dL_agrees_29, rfl⟩ zA2_0 E (fun E => ?_)
            refine g_aload_n (pc' := 31) O ⟨dL_agrees_30, rfl⟩ (q := 0) rfl rfl ?_
            refine g_iload (pc' := 33) O ⟨dL_agrees_31, rfl⟩ (q := 3) rfl ?_
            refine g_bipush (pc' := 35) O ⟨dL_agrees_33, rfl⟩ (v := (6 : Int32)) rfl ?_
            refine g_irem (pc' := 36) O ⟨dL_agrees_35, rfl⟩ (by decide) ?_
            refine g_iald (pc' := 37) O ⟨dL_agrees_36, rfl⟩ zA2_0 E (fun E => ?_)
            refine g_icmp_ge (pc' := 40) O ⟨dL_agrees_37, rfl⟩ E (tgt := 44) (by decide) (fun E => ?_) (fun E => ?_)
            · refine g_iconst (pc' := 45) O ⟨dL_agrees_44, rfl⟩ (v := (0 : Int32)) rfl ?_
              refine g_istore_n (pc' := 46) O ⟨dL_agrees_45, rfl⟩ (lv' := [(3, .int (0 : Int32)), (0, .ref b0), (1, .ref b1), (4, .int x4_3)]) rfl (by decide) rfl ?_
              refine g_iinc (pc' := 49) O ⟨dL_agrees_46, rfl⟩ (q := 3) (v := x4_3 + (1 : Int32)) (lv' := [(4, .int (x4_3 + (1 : Int32))), (3, .int (0 : Int32)), (0, .ref b0), (1, .ref b1)]) rfl rfl (by decide) rfl ?_
              refine g_goto (pc' := 52) O ⟨dL_agrees_49, rfl⟩ (tgt := 5) (by decide) ?_
              refine g_sub (lv' := [(0, .ref b0), (1, .ref b1), (3, .int (0 : Int32)), (4, .int (x4_3 + (1 : Int32)))]) [2, 3, 1, 0] rfl ?_
              exact ih5 _ _ E
            · refine g_sub (lv' := [(0, .ref b0), (1, .ref b1), (4, .int x4_3)]) [0, 1, 3] rfl ?_
              exact hk40 E
set_option maxRecDepth 100000 in
set_option maxHeartbeats 4000000 in
theorem t_L_agreeing (l : Launch) (D : va_G) (cy : Nat → ClassId) (hfl : l.stackTraces = false) (b0 : Nat) (b1 : Nat) {x0 : Int32} {x1 : Int32} {r0 : Row} {r1 : Row} {o : Int32} (E : f_L_agreeing x0 x1 r0 r1 = some o) : CtMI l D cy (WA2 cy 36 4 b0 b1) yL_agreeing cL_agreeing 7 .int 1 26 1 6 [.int x0, .int x1, .ref b0, .ref b1] (r0, r1) o (r0, r1) := by
  refine sMI (own := RL) rfl rfl (Nat.le_of_ble_eq_true rfl) (fun X O hN hret => ?_)
  show G l D X 7 (WA2 cy 36 4 b0 b1) 0 0 (r0, r1) 0 [(0, .int x0), (1, .int x1), (2, .ref b0), (3, .ref b1)] []
  unfold f_L_agreeing at E
  refine g_bipush (pc' := 2) O ⟨dL_agreeing_0, rfl⟩ (v := (6 : Int32)) rfl ?_
  refine g_newr (pc' := 4) O ⟨dL_agreeing_2, rfl⟩ (N' := 6) (wf2 := fun b2 => (WA3 cy 36 4 6 b0 b1 b2)) (h2 := (r0, r1, (fun _ => 0))) kw_94 rfl (by decide) (by decide) ⟨Nat.le_of_ble_eq_true rfl, Nat.le_of_ble_eq_true rfl⟩ (fun _ => rfl) (fun b2 => ?_)
  show G l D X 7 (WA3 cy 36 4 6 b0 b1 b2) 1 6 (r0, r1, (fun _ => 0)) 4 [(0, .int x0), (1, .int x1), (2, .ref b0), (3, .ref b1)] [.ref b2]
  refine g_astore (pc' := 6) O ⟨dL_agreeing_4, rfl⟩ (lv' := [(4, .ref b2), (0, .int x0), (1, .int x1), (2, .ref b0), (3, .ref b1)]) (by decide) rfl ?_
  refine g_iconst (pc' := 7) O ⟨dL_agreeing_6, rfl⟩ (v := (0 : Int32)) rfl ?_
  refine g_istore (pc' := 9) O ⟨dL_agreeing_7, rfl⟩ (lv' := [(5, .int (0 : Int32)), (4, .ref b2), (0, .int x0), (1, .int x1), (2, .ref b0), (3, .ref b1)]) (by decide) rfl ?_
  refine jn1_of (P := fun (r2_1 : Row) => G l D X 7 (WA3 cy 36 4 6 b0 b1 b2) 1 6 (r0, r1, r2_1) 30 [(0, .int x0), (1, .int x1), (2, .ref b0), (3, .ref b1), (4, .ref b2)] []) E ?_ ?_
  · intro r2_1 E
    show G l D X 7 (WA3 cy 36 4 6 b0 b1 b2) 1 6 (r0, r1, r2_1) 30 [(0, .int x0), (1, .int x1), (2, .ref b0), (3, .ref b1), (4, .ref b2)] []
    refine g_iconst (pc' := 31) O ⟨dL_agreeing_30, rfl⟩ (v := (0 : Int32)) rfl ?_
    refine g_istore (pc' := 33) O ⟨dL_agreeing_31, rfl⟩ (lv' := [(5, .int (0 : Int32)), (0, .int x0), (1, .int x1), (2, .ref b0), (3, .ref b1), (4, .ref b2)]) (by decide) rfl ?_
    refine g_iconst (pc' := 34) O ⟨dL_agreeing_33, rfl⟩ (v := (1 : Int32)) rfl ?_
    refine g_istore (pc' := 36) O ⟨dL_agreeing_34, rfl⟩ (lv' := [(6, .int (1 : Int32)), (5, .int (0 : Int32)), (0, .int x0), (1, .int x1), (2, .ref b0), (3, .ref b1), (4, .ref b2)]) (by decide) rfl ?_
    refine jn2_of (P := fun (x5_2 : Int32) (r2_3 : Row) => G l D X 7 (WA3 cy 36 4 6 b0 b1 b2) 1 6 (r0, r1, r2_3) 92 [(5, .int x5_2)] []) E ?_ ?_
    · intro x5_2 r2_3 E
      show G l D X 7 (WA3 cy 36 4 6 b0 b1 b2) 1 6 (r0, r1, r2_3) 92 [(5, .int x5_2)] []
      refine g_iload (pc' := 94) O ⟨dL_agreeing_92, rfl⟩ (q := 0) rfl ?_
      cases E
      refine g_drop (wf := (WA2 cy 36 4 b0 b1)) (h := (r0, r1)) (List.range 2) rfl rfl (by decide) ?_
      exact hret _ _ _ _ _ (Nat.le_of_ble_eq_true rfl) (Nat.le_of_ble_eq_true rfl) ⟨dL_agreeing_94, rfl⟩ rfl
    · intro k92 hk92 E
      refine g_sub (lv' := [(0, .int x0), (1, .int x1), (2, .ref b0), (3, .ref b1), (4, .ref b2), (5, .int (0 : Int32)), (6, .int (1 : Int32))]) [2, 3, 4, 5, 6, 1, 0] rfl ?_
      refine fx3_of (P := fun (x5_4 : Int32) (x6_5 : Int32) (r2_6 : Row) => G l D X 7 (WA3 cy 36 4 6 b0 b1 b2) 1 6 (r0, r1, r2_6) 36 [(0, .int x0), (1, .int x1), (2, .ref b0), (3, .ref b1), (4, .ref b2), (5, .int x5_4), (6, .int x6_5)] []) ?_ _ _ _ _ E
      intro self ih36 x5_4 x6_5 r2_6 E
      show G l D X 7 (WA3 cy 36 4 6 b0 b1 b2) 1 6 (r0, r1, r2_6) 36 [(0, .int x0), (1, .int x1), (2, .ref b0), (3, .ref b1), (4, .ref b2), (5, .int x5_4), (6, .int x6_5)] []
      unfold L_L_agreeing_36 at E
      refine g_iload (pc' := 38) O ⟨dL_agreeing_36, rfl⟩ (q := 6) rfl ?_
      refine g_if_eq (pc' := 41) O ⟨dL_agreeing_38, rfl⟩ E (tgt := 92) (by decide) (fun E => ?_) (fun E => ?_)
      · refine g_sub (lv' := [(5, .int x5_4)]) [5] rfl ?_
        exact hk92 _ _ E
      · refine g_iload (pc' := 43) O ⟨dL_agreeing_41, rfl⟩ (q := 5) rfl ?_
        refine g_aload (pc' := 45) O ⟨dL_agreeing_43, rfl⟩ (q := 4) rfl ?_
        refine g_aload_n (pc' := 46) O ⟨dL_agreeing_45, rfl⟩ (q := 2) rfl rfl ?_
        refine g_aload_n (pc' := 47) O ⟨dL_agreeing_46, rfl⟩ (q := 3) rfl rfl ?_
        refine g_iconst (pc' := 48) O ⟨dL_agreeing_47, rfl⟩ (v := (0 : Int32)) rfl ?_
        refine g_iald (pc' := 49) O ⟨dL_agreeing_48, rfl⟩ zA3_1 E (fun E => ?_)
        obtain ⟨r_7, c_8, E⟩ := bd_of E
        refine g_MSi (pc' := 52) O hN ⟨dL_agreeing_49, rfl⟩ (y := yL_agrees) (As := [.ref b2, .ref b0, .int (r1 (0 : Int32).toNatClampNeg)]) (st := [.int x5_4]) (put := (fun g => (g.2, r1, g.1))) sub_A3_A2_0 (t_L_agrees l D cy hfl b2 b0 c_8) kw_550 kw_24 kw_548 kw_549 hd_L_agrees ⟨Nat.le_of_ble_eq_true rfl, Nat.le_of_ble_eq_true rfl⟩ ⟨Nat.le_of_ble_eq_true rfl, Nat.le_of_ble_eq_true rfl⟩ rfl (Nat.le_of_ble_eq_true rfl) ?_
        show G l D X 7 (WA3 cy 36 4 6 b0 b1 b2) 1 6 (r0, r1, r2_6) 52 [(0, .int x0), (1, .int x1), (2, .ref b0), (3, .ref b1), (4, .ref b2), (5, .int x5_4), (6, .int x6_5)] [.int r_7, .int x5_4]
        refine jn1_of (P := fun (z_9 : Int32) => G l D X 7 (WA3 cy 36 4 6 b0 b1 b2) 1 6 (r0, r1, r2_6) 76 [(0, .int x0), (1, .int x1), (2, .ref b0), (3, .ref b1), (4, .ref b2)] [.int z_9, .int x5_4]) E ?_ ?_
        · intro z_9 E
          show G l D X 7 (WA3 cy 36 4 6 b0 b1 b2) 1 6 (r0, r1, r2_6) 76 [(0, .int x0), (1, .int x1), (2, .ref b0), (3, .ref b1), (4, .ref b2)] [.int z_9, .int x5_4]
          refine g_iadd (pc' := 77) O ⟨dL_agreeing_76, rfl⟩ ?_
          refine g_nm E (fun y5_10 E => ?_)
          refine g_istore (pc' := 79) O ⟨dL_agreeing_77, rfl⟩ (lv' := [(5, .int y5_10), (0, .int x0), (1, .int x1), (2, .ref b0), (3, .ref b1), (4, .ref b2)]) (by decide) rfl ?_
          refine g_aload (pc' := 81) O ⟨dL_agreeing_79, rfl⟩ (q := 5) rfl ?_
          refine g_aload_n (pc' := 82) O ⟨dL_agreeing_81, rfl⟩ (q := 4) rfl rfl ?_
          refine g_iconst (pc' := 83) O ⟨dL_agreeing_82, rfl⟩ (v := (0 : Int32)) rfl ?_
          refine g_iald (pc' := 84) O ⟨dL_agreeing_83, rfl⟩ zA3_1 E (fun E => ?_)
          obtain ⟨r_11, c_12, E⟩ := bd_of E
          refine g_MSi (pc' := 87) O hN ⟨dL_agreeing_84, rfl⟩ (y := yL_next) (As := [.ref b2, .int (r1 (0 : Int32).toNatClampNeg)]) (st := []) (put := (fun g => (r0, r1, g))) sub_A3_A2 (t_L_next l D cy hfl b2 c_12) kw_553 kw_24 kw_551 kw_552 hd_L_next ⟨Nat.le_of_ble_eq_true rfl, Nat.le_of_ble_eq_true rfl⟩ ⟨Nat.le_of_ble_eq_true rfl, Nat.le_of_ble_eq_true rfl⟩ rfl (Nat.le_of_ble_eq_true rfl) ?_
          show G l D X 7 (WA3 cy 36 4 6 b0 b1 b2) 1 6 (r0, r1, r_11.2) 87 [(5, .int y5_10), (0, .int x0), (1, .int x1), (2, .ref b0), (3, .ref b1), (4, .ref b2)] [.int r_11.1]
          refine g_istore (pc' := 89) O ⟨dL_agreeing_87, rfl⟩ (lv' := [(6, .int r_11.1), (5, .int y5_10), (0, .int x0), (1, .int x1), (2, .ref b0), (3, .ref b1), (4, .ref b2)]) (by decide) rfl ?_
          refine g_goto (pc' := 92) O ⟨dL_agreeing_89, rfl⟩ (tgt := 36) (by decide) ?_
          refine g_sub (lv' := [(0, .int x0), (1, .int x1), (2, .ref b0), (3, .ref b1), (4, .ref b2), (5, .int y5_10), (6, .int r_11.1)]) [2, 3, 4, 5, 6, 1, 0] rfl ?_
          exact ih36 _ _ _ E
        · intro k76 hk76 E
          refine jn0_of (P := G l D X 7 (WA3 cy 36 4 6 b0 b1 b2) 1 6 (r0, r1, r2_6) 75 [(0, .int x0), (1, .int x1), (2, .ref b0), (3, .ref b1), (4, .ref b2)] [.int x5_4]) E ?_ ?_
          · intro E
            show G l D X 7 (WA3 cy 36 4 6 b0 b1 b2) 1 6 (r0, r1, r2_6) 75 [(0, .int x0), (1, .int x1), (2, .ref b0), (3, .ref b1), (4, .ref b2)] [.int x5_4]
            refine g_iconst (pc' := 76) O ⟨dL_agreeing_75, rfl⟩ (v := (0 : Int32)) rfl ?_
            exact hk76 _ E
          · intro k75 hk75 E
            refine g_if_eq (pc' := 55) O ⟨dL_agreeing_52, rfl⟩ E (tgt := 75) (by decide) (fun E => ?_) (fun E => ?_)
            · refine g_sub (lv' := [(0, .int x0), (1, .int x1), (2, .ref b0), (3, .ref b1), (4, .ref b2)]) [0, 1, 2, 3, 4] rfl ?_
              exact hk75 E
            · refine g_iload_n (pc' := 56) O ⟨dL_agreeing_55, rfl⟩ (q := 0) rfl rfl ?_
              refine g_iload_n (pc' := 57) O ⟨dL_agreeing_56, rfl⟩ (q := 1) rfl rfl ?_
              refine jn0_of (P := G l D X 7 (WA3 cy 36 4 6 b0 b1 b2) 1 6 (r0, r1, r2_6) 71 [(0, .int x0), (1, .int x1), (2, .ref b0), (3, .ref b1), (4, .ref b2)] [.int x5_4]) E ?_ ?_
              · intro E
                show G l D X 7 (WA3 cy 36 4 6 b0 b1 b2) 1 6 (r0, r1, r2_6) 71 [(0, .int x0), (1, .int x1), (2, .ref b0), (3, .ref b1), (4, .ref b2)] [.int x5_4]
                refine g_iconst (pc' := 72) O ⟨dL_agreeing_71, rfl⟩ (v := (1 : Int32)) rfl ?_
                refine g_goto (pc' := 75) O ⟨dL_agreeing_72, rfl⟩ (tgt := 76) (by decide) ?_
                exact hk76 _ E
              · intro k71 hk71 E
                refine g_icmp_eq (pc' := 60) O ⟨dL_agreeing_57, rfl⟩ E (tgt := 71) (by decide) (fun E => ?_) (fun E => ?_)
                · refine g_sub (lv' := [(0, .int x0), (1, .int x1), (2, .ref b0), (3, .ref b1), (4, .ref b2)]) [0, 1, 2, 3, 4] rfl ?_
                  exact hk71 E
                · refine g_aload (pc' := 62) O ⟨dL_agreeing_60, rfl⟩ (q := 4) rfl ?_
                  refine g_iload_n (pc' := 63) O ⟨dL_agreeing_62, rfl⟩ (q := 0) rfl rfl ?_
                  refine g_iald (pc' := 64) O ⟨dL_agreeing_63, rfl⟩ zA3_2 E (fun E => ?_)
                  refine g_aload (pc' := 66) O ⟨dL_agreeing_64, rfl⟩ (q := 4) rfl ?_
                  refine g_iload_n (pc' := 67) O ⟨dL_agreeing_66, rfl⟩ (q := 1) rfl rfl ?_
                  refine g_iald (pc' := 68) O ⟨dL_agreeing_67, rfl⟩ zA3_2 E (fun E => ?_)
                  refine g_icmp_ge (pc' := 71) O ⟨dL_agreeing_68, rfl⟩ E (tgt := 75) (by decide) (fun E => ?_) (fun E => ?_)
                  · refine g_sub (lv' := [(0, .int x0), (1, .int x1), (2, .ref b0), (3, .ref b1), (4, .ref b2)]) [0, 1, 2, 3, 4] rfl ?_
                    exact hk75 E
                  · refine g_sub (lv' := [(0, .int x0), (1, .int x1), (2, .ref b0), (3, .ref b1), (4, .ref b2)]) [0, 1, 2, 3, 4] rfl ?_
                    exact hk71 E
  · intro k30 hk30 E
    refine g_sub (lv' := [(0, .int x0), (1, .int x1), (2, .ref b0), (3, .ref b1), (4, .ref b2), (5, .int (0 : Int32))]) [2, 3, 4, 5, 1, 0] rfl ?_
    refine fx2_of (P := fun (x5_13 : Int32) (r2_14 : Row) => G l D X 7 (WA3 cy 36 4 6 b0 b1 b2) 1 6 (r0, r1, r2_14) 9 [(0, .int x0), (1, .int x1), (2, .ref b0), (3, .ref b1), (4, .ref b2), (5, .int x5_13)] []) ?_ _ _ _ E
    intro self ih9 x5_13 r2_14 E
    show G l D X 7 (WA3 cy 36 4 6 b0 b1 b2) 1 6 (r0, r1, r2_14) 9 [(0, .int x0), (1, .int x1), (2, .ref b0), (3, .ref b1), (4, .ref b2), (5, .int x5_13)] []
    unfold L_L_agreeing_9 at E
    refine g_iload (pc' := 11) O ⟨dL_agreeing_9, rfl⟩ (q := 5) rfl ?_
    refine g_aload_n (pc' := 12) O ⟨dL_agreeing_11, rfl⟩ (q := 3) rfl rfl ?_
    refine g_iconst (pc' := 13) O ⟨dL_agreeing_12, rfl⟩ (v := (0 : Int32)) rfl ?_
    refine g_iald (pc' := 14) O ⟨dL_agreeing_13, rfl⟩ zA3_1 E (fun E => ?_)
    refine g_icmp_ge (pc' := 17) O ⟨dL_agreeing_14, rfl⟩ E (tgt := 30) (by decide) (fun E => ?_) (fun E => ?_)
    · refine g_sub (lv' := [(0, .int x0), (1, .int x1), (2, .ref b0), (3, .ref b1), (4, .ref b2)]) [0, 1, 2, 3, 4] rfl ?_
      exact hk30 _ E
    · refine g_aload (pc' := 19) O ⟨dL_agreeing_17, rfl⟩ (q := 4) rfl ?_
      refine g_iload (pc' := 21) O ⟨dL_agreeing_19, rfl⟩ (q := 5) rfl ?_
      refine g_iload (pc' := 23) O ⟨dL_agreeing_21, rfl⟩ (q := 5) rfl ?_
      refine g_iast (pc' := 24) O ⟨dL_agreeing_23, rfl⟩ zA3_2 zsA3_2 E (fun E => ?_)
      refine g_nmr (Go := fun (r2_15 : Row) => G l D X 7 (WA3 cy 36 4 6 b0 b1 b2) 1 6 (r0, r1, r2_15) 24 [(0, .int x0), (1, .int x1), (2, .ref b0), (3, .ref b1), (4, .ref b2), (5, .int x5_13)] []) E (fun r2_15 E => ?_)
      show G l D X 7 (WA3 cy 36 4 6 b0 b1 b2) 1 6 (r0, r1, r2_15) 24 [(0, .int x0), (1, .int x1), (2, .ref b0), (3, .ref b1), (4, .ref b2), (5, .int x5_13)] []
      refine g_iinc (pc' := 27) O ⟨dL_agreeing_24, rfl⟩ (q := 5) (v := x5_13 + (1 : Int32)) (lv' := [(5, .int (x5_13 + (1 : Int32))), (0, .int x0), (1, .int x1), (2, .ref b0), (3, .ref b1), (4, .ref b2)]) rfl rfl (by decide) rfl ?_
      refine g_goto (pc' := 30) O ⟨dL_agreeing_27, rfl⟩ (tgt := 9) (by decide) ?_
      refine g_sub (lv' := [(0, .int x0), (1, .int x1), (2, .ref b0), (3, .ref b1), (4, .ref b2), (5, .int (x5_13 + (1 : Int32)))]) [1, 2, 3, 4, 5, 0] rfl ?_
      exact ih9 _ _ E
set_option maxRecDepth 100000 in
set_option maxHeartbeats 4000000 in
theorem t_L_steps (l : Launch) (D : va_G) (cy : Nat → ClassId) (hfl : l.stackTraces = false) {x0 : Int32} {x1 : Int32}  {o : Int32} (E : f_L_steps x0 x1 = some o) : CtMI l D cy (WA0 cy) yL_steps cL_steps 2 .int 0 0 0 0 [.int x0, .int x1] () o () := by
  refine sMI (own := RL) rfl rfl (Nat.le_of_ble_eq_true rfl) (fun X O hN hret => ?_)
  show G l D X 2 (WA0 cy) 0 0 () 0 [(0, .int x0), (1, .int x1)] []
  unfold f_L_steps at E
  refine g_iload_n (pc' := 1) O ⟨dL_steps_0, rfl⟩ (q := 0) rfl rfl ?_
  refine jn0_of (P := G l D X 2 (WA0 cy) 0 0 () 9 [(1, .int x1)] []) E ?_ ?_
  · intro E
    show G l D X 2 (WA0 cy) 0 0 () 9 [(1, .int x1)] []
    refine g_iload_n (pc' := 10) O ⟨dL_steps_9, rfl⟩ (q := 0) rfl rfl ?_
    refine g_iconst (pc' := 11) O ⟨dL_steps_10, rfl⟩ (v := (1 : Int32)) rfl ?_
    refine g_isub (pc' := 12) O ⟨dL_steps_11, rfl⟩ ?_
    refine g_goto (pc' := 15) O ⟨dL_steps_12, rfl⟩ (tgt := 31) (by decide) ?_
    cases E
    exact hret _ _ _ _ _ (Nat.le_of_ble_eq_true rfl) (Nat.le_of_ble_eq_true rfl) ⟨dL_steps_31, rfl⟩ rfl
  · intro k9 hk9 E
    refine g_if_eq (pc' := 4) O ⟨dL_steps_1, rfl⟩ E (tgt := 9) (by decide) (fun E => ?_) (fun E => ?_)
    · refine g_sub (lv' := [(1, .int x1)]) [1] rfl ?_
      exact hk9 E
    · refine g_iload_n (pc' := 5) O ⟨dL_steps_4, rfl⟩ (q := 0) rfl rfl ?_
      refine g_iconst (pc' := 6) O ⟨dL_steps_5, rfl⟩ (v := (2 : Int32)) rfl ?_
      refine g_icmp_ne (pc' := 9) O ⟨dL_steps_6, rfl⟩ E (tgt := 15) (by decide) (fun E => ?_) (fun E => ?_)
      · refine g_iload_n (pc' := 16) O ⟨dL_steps_15, rfl⟩ (q := 0) rfl rfl ?_
        refine g_iconst (pc' := 17) O ⟨dL_steps_16, rfl⟩ (v := (1 : Int32)) rfl ?_
        refine g_icmp_ne (pc' := 20) O ⟨dL_steps_17, rfl⟩ E (tgt := 26) (by decide) (fun E => ?_) (fun E => ?_)
        · refine g_iload_n (pc' := 27) O ⟨dL_steps_26, rfl⟩ (q := 1) rfl rfl ?_
          refine g_iload_n (pc' := 28) O ⟨dL_steps_27, rfl⟩ (q := 1) rfl rfl ?_
          refine g_imul (pc' := 29) O ⟨dL_steps_28, rfl⟩ ?_
          refine g_iload_n (pc' := 30) O ⟨dL_steps_29, rfl⟩ (q := 1) rfl rfl ?_
          refine g_imul (pc' := 31) O ⟨dL_steps_30, rfl⟩ ?_
          cases E
          exact hret _ _ _ _ _ (Nat.le_of_ble_eq_true rfl) (Nat.le_of_ble_eq_true rfl) ⟨dL_steps_31, rfl⟩ rfl
        · refine g_iload_n (pc' := 21) O ⟨dL_steps_20, rfl⟩ (q := 1) rfl rfl ?_
          refine g_iload_n (pc' := 22) O ⟨dL_steps_21, rfl⟩ (q := 1) rfl rfl ?_
          refine g_imul (pc' := 23) O ⟨dL_steps_22, rfl⟩ ?_
          refine g_goto (pc' := 26) O ⟨dL_steps_23, rfl⟩ (tgt := 31) (by decide) ?_
          cases E
          exact hret _ _ _ _ _ (Nat.le_of_ble_eq_true rfl) (Nat.le_of_ble_eq_true rfl) ⟨dL_steps_31, rfl⟩ rfl
      · refine g_sub (lv' := [(1, .int x1)]) [1] rfl ?_
        exact hk9 E
set_option maxRecDepth 100000 in
set_option maxHeartbeats 4000000 in
theorem t_L_turn (l : Launch) (D : va_G) (cy : Nat → ClassId) (hfl : l.stackTraces = false) (b0 : Nat) {x1 : Int32} {x2 : Int32} {r0 : Row} {o : Row} (E : f_L_turn x1 x2 r0 = some o) : CtMV l D cy (WA1 cy 6 b0) yL_turn cL_turn 5 0 0 0 0 [.ref b0, .int x1, .int x2] r0 o := by
  refine sMV (own := RL) rfl rfl (Nat.le_of_ble_eq_true rfl) (fun X O hN hret => ?_)
  show G l D X 5 (WA1 cy 6 b0) 0 0 r0 0 [(0, .ref b0), (1, .int x1), (2, .int x2)] []
  unfold f_L_turn at E
  refine g_iconst (pc' := 1) O ⟨dL_turn_0, rfl⟩ (v := (0 : Int32)) rfl ?_
  refine g_istore_n (pc' := 2) O ⟨dL_turn_1, rfl⟩ (lv' := [(3, .int (0 : Int32)), (0, .ref b0), (1, .int x1), (2, .int x2)]) rfl (by decide) rfl ?_
  refine jn1_of (P := fun (r0_1 : Row) => G l D X 5 (WA1 cy 6 b0) 0 0 r0_1 45 [] []) E ?_ ?_
  · intro r0_1 E
    show G l D X 5 (WA1 cy 6 b0) 0 0 r0_1 45 [] []
    cases E
    exact hret _ _ _ _ _ (Nat.le_of_ble_eq_true rfl) (Nat.le_of_ble_eq_true rfl) ⟨dL_turn_45, rfl⟩
  · intro k45 hk45 E
    refine g_sub (lv' := [(0, .ref b0), (1, .int x1), (2, .int x2), (3, .int (0 : Int32))]) [1, 2, 3, 0] rfl ?_
    refine fx2_of (P := fun (x3_2 : Int32) (r0_3 : Row) => G l D X 5 (WA1 cy 6 b0) 0 0 r0_3 2 [(0, .ref b0), (1, .int x1), (2, .int x2), (3, .int x3_2)] []) ?_ _ _ _ E
    intro self ih2 x3_2 r0_3 E
    show G l D X 5 (WA1 cy 6 b0) 0 0 r0_3 2 [(0, .ref b0), (1, .int x1), (2, .int x2), (3, .int x3_2)] []
    unfold L_L_turn_2 at E
    refine g_iload_n (pc' := 3) O ⟨dL_turn_2, rfl⟩ (q := 3) rfl rfl ?_
    refine g_iload_n (pc' := 4) O ⟨dL_turn_3, rfl⟩ (q := 2) rfl rfl ?_
    refine g_iload_n (pc' := 5) O ⟨dL_turn_4, rfl⟩ (q := 1) rfl rfl ?_
    refine g_isub (pc' := 6) O ⟨dL_turn_5, rfl⟩ ?_
    refine g_iconst (pc' := 7) O ⟨dL_turn_6, rfl⟩ (v := (2 : Int32)) rfl ?_
    refine g_idiv (pc' := 8) O ⟨dL_turn_7, rfl⟩ (by decide) ?_
    refine g_icmp_ge (pc' := 11) O ⟨dL_turn_8, rfl⟩ E (tgt := 45) (by decide) (fun E => ?_) (fun E => ?_)
    · refine g_sub (lv' := []) [] rfl ?_
      exact hk45 _ E
    · refine g_aload_n (pc' := 12) O ⟨dL_turn_11, rfl⟩ (q := 0) rfl rfl ?_
      refine g_iload_n (pc' := 13) O ⟨dL_turn_12, rfl⟩ (q := 1) rfl rfl ?_
      refine g_iload_n (pc' := 14) O ⟨dL_turn_13, rfl⟩ (q := 3) rfl rfl ?_
      refine g_iadd (pc' := 15) O ⟨dL_turn_14, rfl⟩ ?_
      refine g_iald (pc' := 16) O ⟨dL_turn_15, rfl⟩ zA1_0 E (fun E => ?_)
      refine g_nm E (fun y4_4 E => ?_)
      refine g_istore (pc' := 18) O ⟨dL_turn_16, rfl⟩ (lv' := [(4, .int y4_4), (0, .ref b0), (1, .int x1), (2, .int x2), (3, .int x3_2)]) (by decide) rfl ?_
      refine g_aload_n (pc' := 19) O ⟨dL_turn_18, rfl⟩ (q := 1) rfl rfl ?_
      refine g_iload_n (pc' := 20) O ⟨dL_turn_19, rfl⟩ (q := 2) rfl rfl ?_
      refine g_iload_n (pc' := 21) O ⟨dL_turn_20, rfl⟩ (q := 4) rfl rfl ?_
      refine g_iadd (pc' := 22) O ⟨dL_turn_21, rfl⟩ ?_
      refine g_aload_n (pc' := 23) O ⟨dL_turn_22, rfl⟩ (q := 1) rfl rfl ?_
      refine g_iload_n (pc' := 24) O ⟨dL_turn_23, rfl⟩ (q := 3) rfl rfl ?_
      refine g_iconst (pc' := 25) O ⟨dL_turn_24, rfl⟩ (v := (1 : Int32)) rfl ?_
      refine g_isub (pc' := 26) O ⟨dL_turn_25, rfl⟩ ?_
      refine g_iload_n (pc' := 27) O ⟨dL_turn_26, rfl⟩ (q := 4) rfl rfl ?_
      refine g_isub (pc' := 28) O ⟨dL_turn_27, rfl⟩ ?_
      refine g_iald (pc' := 29) O ⟨dL_turn_28, rfl⟩ zA1_0 E (fun E => ?_)
      refine g_iast (pc' := 30) O ⟨dL_turn_29, rfl⟩ zA1_0 zsA1_0 E (fun E => ?_)
      refine g_nmr (Go := fun (r0_5 : Row) => G l D X 5 (WA1 cy 6 b0) 0 0 r0_5 30 [(4, .int y4_4), (0, .ref b0), (1, .int x1), (2, .int x2), (3, .int x3_2)] []) E (fun r0_5 E => ?_)
      show G l D X 5 (WA1 cy 6 b0) 0 0 r0_5 30 [(4, .int y4_4), (0, .ref b0), (1, .int x1), (2, .int x2), (3, .int x3_2)] []
      refine g_aload_n (pc' := 31) O ⟨dL_turn_30, rfl⟩ (q := 1) rfl rfl ?_
      refine g_iload_n (pc' := 32) O ⟨dL_turn_31, rfl⟩ (q := 3) rfl rfl ?_
      refine g_iconst (pc' := 33) O ⟨dL_turn_32, rfl⟩ (v := (1 : Int32)) rfl ?_
      refine g_isub (pc' := 34) O ⟨dL_turn_33, rfl⟩ ?_
      refine g_iload_n (pc' := 35) O ⟨dL_turn_34, rfl⟩ (q := 4) rfl rfl ?_
      refine g_isub (pc' := 36) O ⟨dL_turn_35, rfl⟩ ?_
      refine g_iload (pc' := 38) O ⟨dL_turn_36, rfl⟩ (q := 0) rfl ?_
      refine g_iast (pc' := 39) O ⟨dL_turn_38, rfl⟩ zA1_0 zsA1_0 E (fun E => ?_)
      refine g_nmr (Go := fun (r0_6 : Row) => G l D X 5 (WA1 cy 6 b0) 0 0 r0_6 39 [(4, .int y4_4), (0, .ref b0), (1, .int x1), (2, .int x2), (3, .int x3_2)] []) E (fun r0_6 E => ?_)
      show G l D X 5 (WA1 cy 6 b0) 0 0 r0_6 39 [(4, .int y4_4), (0, .ref b0), (1, .int x1), (2, .int x2), (3, .int x3_2)] []
      refine g_iinc (pc' := 42) O ⟨dL_turn_39, rfl⟩ (q := 4) (v := x3_2 + (1 : Int32)) (lv' := [(3, .int (x3_2 + (1 : Int32))), (4, .int y4_4), (0, .ref b0), (1, .int x1), (2, .int x2)]) rfl rfl (by decide) rfl ?_
      refine g_goto (pc' := 45) O ⟨dL_turn_42, rfl⟩ (tgt := 2) (by decide) ?_
      refine g_sub (lv' := [(0, .ref b0), (1, .int x1), (2, .int x2), (3, .int (x3_2 + (1 : Int32)))]) [2, 3, 4, 0] rfl ?_
      exact ih2 _ _ E
set_option maxRecDepth 100000 in
set_option maxHeartbeats 4000000 in
theorem t_L_moves (l : Launch) (D : va_G) (cy : Nat → ClassId) (hfl : l.stackTraces = false) (b0 : Nat) {x0 : Int32} {x1 : Int32} {x3 : Int32} {r0 : Row} {o : Int32 × Row} (E : f_L_moves x0 x1 x3 r0 = some o) : CtMI l D cy (WA1 cy 6 b0) yL_moves cL_moves 8 .boolean 1 24 0 0 [.int x0, .int x1, .ref b0, .int x3] r0 o.1 o.2 := by
  refine sMI (own := RL) rfl rfl (Nat.le_of_ble_eq_true rfl) (fun X O hN hret => ?_)
  show G l D X 8 (WA1 cy 6 b0) 0 0 r0 0 [(0, .int x0), (1, .int x1), (2, .ref b0), (3, .int x3)] []
  unfold f_L_moves at E
  refine g_iload_n (pc' := 1) O ⟨dL_moves_0, rfl⟩ (q := 0) rfl rfl ?_
  refine jn1_of (P := fun (z_1 : Int32) => G l D X 8 (WA1 cy 6 b0) 0 0 r0 11 [(0, .int x0), (1, .int x1), (2, .ref b0), (3, .int x3)] [.int z_1]) E ?_ ?_
  · intro z_1 E
    show G l D X 8 (WA1 cy 6 b0) 0 0 r0 11 [(0, .int x0), (1, .int x1), (2, .ref b0), (3, .int x3)] [.int z_1]
    refine g_istore (pc' := 13) O ⟨dL_moves_11, rfl⟩ (lv' := [(4, .int z_1), (0, .int x0), (1, .int x1), (2, .ref b0), (3, .int x3)]) (by decide) rfl ?_
    refine g_iload_n (pc' := 14) O ⟨dL_moves_13, rfl⟩ (q := 1) rfl rfl ?_
    refine jn1_of (P := fun (z_2 : Int32) => G l D X 8 (WA1 cy 6 b0) 0 0 r0 28 [(0, .int x0), (1, .int x1), (2, .ref b0), (3, .int x3), (4, .int z_1)] [.int z_2]) E ?_ ?_
    · intro z_2 E
      show G l D X 8 (WA1 cy 6 b0) 0 0 r0 28 [(0, .int x0), (1, .int x1), (2, .ref b0), (3, .int x3), (4, .int z_1)] [.int z_2]
      refine g_istore (pc' := 30) O ⟨dL_moves_28, rfl⟩ (lv' := [(5, .int z_2), (0, .int x0), (1, .int x1), (2, .ref b0), (3, .int x3), (4, .int z_1)]) (by decide) rfl ?_
      refine g_iload_n (pc' := 31) O ⟨dL_moves_30, rfl⟩ (q := 2) rfl rfl ?_
      refine g_iload_n (pc' := 32) O ⟨dL_moves_31, rfl⟩ (q := 4) rfl rfl ?_
      obtain ⟨nz_32, E⟩ := nz_of E
      refine g_idiv (pc' := 33) O ⟨dL_moves_32, rfl⟩ nz_32 ?_
      refine g_iload_n (pc' := 34) O ⟨dL_moves_33, rfl⟩ (q := 4) rfl rfl ?_
      obtain ⟨nz_34, E⟩ := nz_of E
      refine g_idiv (pc' := 35) O ⟨dL_moves_34, rfl⟩ nz_34 ?_
      refine g_iconst (pc' := 36) O ⟨dL_moves_35, rfl⟩ (v := (1 : Int32)) rfl ?_
      refine g_iadd (pc' := 37) O ⟨dL_moves_36, rfl⟩ ?_
      refine g_nm E (fun y6_3 E => ?_)
      refine g_istore (pc' := 39) O ⟨dL_moves_37, rfl⟩ (lv' := [(6, .int y6_3), (5, .int z_2), (0, .int x0), (1, .int x1), (2, .ref b0), (3, .int x3), (4, .int z_1)]) (by decide) rfl ?_
      refine g_iload_n (pc' := 40) O ⟨dL_moves_39, rfl⟩ (q := 2) rfl rfl ?_
      refine g_iconst (pc' := 41) O ⟨dL_moves_40, rfl⟩ (v := (2 : Int32)) rfl ?_
      refine g_icmp_ne (pc' := 44) O ⟨dL_moves_41, rfl⟩ E (tgt := 54) (by decide) (fun E => ?_) (fun E => ?_)
      · refine g_iload (pc' := 56) O ⟨dL_moves_54, rfl⟩ (q := 6) rfl ?_
        refine g_iload (pc' := 58) O ⟨dL_moves_56, rfl⟩ (q := 1) rfl ?_
        refine g_icmp_ge (pc' := 61) O ⟨dL_moves_58, rfl⟩ E (tgt := 73) (by decide) (fun E => ?_) (fun E => ?_)
        · refine g_iconst (pc' := 74) O ⟨dL_moves_73, rfl⟩ (v := (0 : Int32)) rfl ?_
          obtain ⟨hn, E⟩ := ckz_of E
          cases E
          exact hret _ _ _ _ _ (Nat.le_of_ble_eq_true rfl) (Nat.le_of_ble_eq_true rfl) ⟨dL_moves_74, rfl⟩ hn
        · refine g_iload_n (pc' := 62) O ⟨dL_moves_61, rfl⟩ (q := 2) rfl rfl ?_
          refine g_iconst (pc' := 63) O ⟨dL_moves_62, rfl⟩ (v := (3 : Int32)) rfl ?_
          refine jn0_of (P := G l D X 8 (WA1 cy 6 b0) 0 0 r0 75 [(0, .int x0), (2, .ref b0), (4, .int z_1), (5, .int z_2), (6, .int y6_3)] []) E ?_ ?_
          · intro E
            show G l D X 8 (WA1 cy 6 b0) 0 0 r0 75 [(0, .int x0), (2, .ref b0), (4, .int z_1), (5, .int z_2), (6, .int y6_3)] []
            refine g_iload_n (pc' := 76) O ⟨dL_moves_75, rfl⟩ (q := 0) rfl rfl ?_
            refine g_iconst (pc' := 77) O ⟨dL_moves_76, rfl⟩ (v := (3 : Int32)) rfl ?_
            refine g_icmp_ne (pc' := 80) O ⟨dL_moves_77, rfl⟩ E (tgt := 118) (by decide) (fun E => ?_) (fun E => ?_)
            · refine g_aload_n (pc' := 119) O ⟨dL_moves_118, rfl⟩ (q := 1) rfl rfl ?_
              refine g_iload (pc' := 121) O ⟨dL_moves_119, rfl⟩ (q := 2) rfl ?_
              refine g_iald (pc' := 122) O ⟨dL_moves_121, rfl⟩ zA1_0 E (fun E => ?_)
              refine g_istore (pc' := 124) O ⟨dL_moves_122, rfl⟩ (lv' := [(7, .int (r0 z_1.toNatClampNeg)), (0, .int x0), (2, .ref b0), (4, .int z_1), (5, .int z_2), (6, .int y6_3)]) (by decide) rfl ?_
              refine g_aload_n (pc' := 125) O ⟨dL_moves_124, rfl⟩ (q := 2) rfl rfl ?_
              refine g_iload (pc' := 127) O ⟨dL_moves_125, rfl⟩ (q := 3) rfl ?_
              refine g_aload_n (pc' := 128) O ⟨dL_moves_127, rfl⟩ (q := 2) rfl rfl ?_
              refine g_iload (pc' := 130) O ⟨dL_moves_128, rfl⟩ (q := 4) rfl ?_
              refine g_iald (pc' := 131) O ⟨dL_moves_130, rfl⟩ zA1_0 E (fun E => ?_)
              refine g_iast (pc' := 132) O ⟨dL_moves_131, rfl⟩ zA1_0 zsA1_0 E (fun E => ?_)
              refine g_nmr (Go := fun (r0_4 : Row) => G l D X 8 (WA1 cy 6 b0) 0 0 r0_4 132 [(7, .int (r0 z_1.toNatClampNeg)), (0, .int x0), (2, .ref b0), (4, .int z_1), (5, .int z_2), (6, .int y6_3)] []) E (fun r0_4 E => ?_)
              show G l D X 8 (WA1 cy 6 b0) 0 0 r0_4 132 [(7, .int (r0 z_1.toNatClampNeg)), (0, .int x0), (2, .ref b0), (4, .int z_1), (5, .int z_2), (6, .int y6_3)] []
              refine g_aload_n (pc' := 133) O ⟨dL_moves_132, rfl⟩ (q := 2) rfl rfl ?_
              refine g_iload (pc' := 135) O ⟨dL_moves_133, rfl⟩ (q := 4) rfl ?_
              refine g_iload (pc' := 137) O ⟨dL_moves_135, rfl⟩ (q := 0) rfl ?_
              refine g_iast (pc' := 138) O ⟨dL_moves_137, rfl⟩ zA1_0 zsA1_0 E (fun E => ?_)
              refine g_nmr (Go := fun (r0_5 : Row) => G l D X 8 (WA1 cy 6 b0) 0 0 r0_5 138 [(7, .int (r0 z_1.toNatClampNeg)), (0, .int x0), (2, .ref b0), (4, .int z_1), (5, .int z_2), (6, .int y6_3)] []) E (fun r0_5 E => ?_)
              show G l D X 8 (WA1 cy 6 b0) 0 0 r0_5 138 [(7, .int (r0 z_1.toNatClampNeg)), (0, .int x0), (2, .ref b0), (4, .int z_1), (5, .int z_2), (6, .int y6_3)] []
              refine g_iconst (pc' := 139) O ⟨dL_moves_138, rfl⟩ (v := (1 : Int32)) rfl ?_
              obtain ⟨hn, E⟩ := ckz_of E
              cases E
              exact hret _ _ _ _ _ (Nat.le_of_ble_eq_true rfl) (Nat.le_of_ble_eq_true rfl) ⟨dL_moves_139, rfl⟩ hn
            · refine g_aload_n (pc' := 81) O ⟨dL_moves_80, rfl⟩ (q := 1) rfl rfl ?_
              refine g_iload (pc' := 83) O ⟨dL_moves_81, rfl⟩ (q := 2) rfl ?_
              refine g_iload (pc' := 85) O ⟨dL_moves_83, rfl⟩ (q := 4) rfl ?_
              obtain ⟨r_6, c_7, E⟩ := bd_of E
              refine g_MSv (pc' := 88) O hN ⟨dL_moves_85, rfl⟩ (y := yL_turn) (As := [.ref b0, .int z_1, .int y6_3]) (st := []) (put := (fun g => g)) sub_A1_A0 (t_L_turn l D cy hfl b0 c_7) kw_889 kw_24 kw_887 kw_888 hd_L_turn ⟨Nat.le_of_ble_eq_true rfl, Nat.le_of_ble_eq_true rfl⟩ ⟨Nat.le_of_ble_eq_true rfl, Nat.le_of_ble_eq_true rfl⟩ rfl (Nat.le_of_ble_eq_true rfl) ?_
              show G l D X 8 (WA1 cy 6 b0) 0 0 r_6 88 [(0, .int x0), (2, .ref b0), (4, .int z_1), (5, .int z_2), (6, .int y6_3)] []
              refine g_aload_n (pc' := 89) O ⟨dL_moves_88, rfl⟩ (q := 1) rfl rfl ?_
              refine g_iload (pc' := 91) O ⟨dL_moves_89, rfl⟩ (q := 2) rfl ?_
              refine g_iload (pc' := 93) O ⟨dL_moves_91, rfl⟩ (q := 2) rfl ?_
              refine g_iload (pc' := 95) O ⟨dL_moves_93, rfl⟩ (q := 4) rfl ?_
              refine g_iadd (pc' := 96) O ⟨dL_moves_95, rfl⟩ ?_
              refine g_iload (pc' := 98) O ⟨dL_moves_96, rfl⟩ (q := 3) rfl ?_
              refine g_isub (pc' := 99) O ⟨dL_moves_98, rfl⟩ ?_
              obtain ⟨r_8, c_9, E⟩ := bd_of E
              refine g_MSv (pc' := 102) O hN ⟨dL_moves_99, rfl⟩ (y := yL_turn) (As := [.ref b0, .int z_1, .int ((z_1 + y6_3) - z_2)]) (st := []) (put := (fun g => g)) sub_A1_A0 (t_L_turn l D cy hfl b0 c_9) kw_889 kw_24 kw_887 kw_888 hd_L_turn ⟨Nat.le_of_ble_eq_true rfl, Nat.le_of_ble_eq_true rfl⟩ ⟨Nat.le_of_ble_eq_true rfl, Nat.le_of_ble_eq_true rfl⟩ rfl (Nat.le_of_ble_eq_true rfl) ?_
              show G l D X 8 (WA1 cy 6 b0) 0 0 r_8 102 [(0, .int x0), (2, .ref b0), (4, .int z_1), (5, .int z_2), (6, .int y6_3)] []
              refine g_aload_n (pc' := 103) O ⟨dL_moves_102, rfl⟩ (q := 1) rfl rfl ?_
              refine g_iload (pc' := 105) O ⟨dL_moves_103, rfl⟩ (q := 2) rfl ?_
              refine g_iload (pc' := 107) O ⟨dL_moves_105, rfl⟩ (q := 4) rfl ?_
              refine g_iadd (pc' := 108) O ⟨dL_moves_107, rfl⟩ ?_
              refine g_iload (pc' := 110) O ⟨dL_moves_108, rfl⟩ (q := 3) rfl ?_
              refine g_isub (pc' := 111) O ⟨dL_moves_110, rfl⟩ ?_
              refine g_iload (pc' := 113) O ⟨dL_moves_111, rfl⟩ (q := 4) rfl ?_
              obtain ⟨r_10, c_11, E⟩ := bd_of E
              refine g_MSv (pc' := 116) O hN ⟨dL_moves_113, rfl⟩ (y := yL_turn) (As := [.ref b0, .int ((z_1 + y6_3) - z_2), .int y6_3]) (st := []) (put := (fun g => g)) sub_A1_A0 (t_L_turn l D cy hfl b0 c_11) kw_889 kw_24 kw_887 kw_888 hd_L_turn ⟨Nat.le_of_ble_eq_true rfl, Nat.le_of_ble_eq_true rfl⟩ ⟨Nat.le_of_ble_eq_true rfl, Nat.le_of_ble_eq_true rfl⟩ rfl (Nat.le_of_ble_eq_true rfl) ?_
              show G l D X 8 (WA1 cy 6 b0) 0 0 r_10 116 [(0, .int x0), (2, .ref b0), (4, .int z_1), (5, .int z_2), (6, .int y6_3)] []
              refine g_iconst (pc' := 117) O ⟨dL_moves_116, rfl⟩ (v := (1 : Int32)) rfl ?_
              obtain ⟨hn, E⟩ := ckz_of E
              cases E
              exact hret _ _ _ _ _ (Nat.le_of_ble_eq_true rfl) (Nat.le_of_ble_eq_true rfl) ⟨dL_moves_117, rfl⟩ hn
          · intro k75 hk75 E
            refine g_icmp_ne (pc' := 66) O ⟨dL_moves_63, rfl⟩ E (tgt := 75) (by decide) (fun E => ?_) (fun E => ?_)
            · refine g_sub (lv' := [(0, .int x0), (2, .ref b0), (4, .int z_1), (5, .int z_2), (6, .int y6_3)]) [2, 4, 6, 1, 0] rfl ?_
              exact hk75 E
            · refine g_iload (pc' := 68) O ⟨dL_moves_66, rfl⟩ (q := 1) rfl ?_
              refine g_iload (pc' := 70) O ⟨dL_moves_68, rfl⟩ (q := 0) rfl ?_
              refine g_icmp_lt (pc' := 73) O ⟨dL_moves_70, rfl⟩ E (tgt := 75) (by decide) (fun E => ?_) (fun E => ?_)
              · refine g_sub (lv' := [(0, .int x0), (2, .ref b0), (4, .int z_1), (5, .int z_2), (6, .int y6_3)]) [2, 4, 6, 1, 0] rfl ?_
                exact hk75 E
              · refine g_iconst (pc' := 74) O ⟨dL_moves_73, rfl⟩ (v := (0 : Int32)) rfl ?_
                obtain ⟨hn, E⟩ := ckz_of E
                cases E
                exact hret _ _ _ _ _ (Nat.le_of_ble_eq_true rfl) (Nat.le_of_ble_eq_true rfl) ⟨dL_moves_74, rfl⟩ hn
      · refine g_aload_n (pc' := 45) O ⟨dL_moves_44, rfl⟩ (q := 4) rfl rfl ?_
        refine g_iconst (pc' := 46) O ⟨dL_moves_45, rfl⟩ (v := (0 : Int32)) rfl ?_
        refine g_iload_n (pc' := 47) O ⟨dL_moves_46, rfl⟩ (q := 3) rfl rfl ?_
        refine g_iconst (pc' := 48) O ⟨dL_moves_47, rfl⟩ (v := (2 : Int32)) rfl ?_
        refine g_iadd (pc' := 49) O ⟨dL_moves_48, rfl⟩ ?_
        obtain ⟨r_12, c_13, E⟩ := bd_of E
        refine g_MSv (pc' := 52) O hN ⟨dL_moves_49, rfl⟩ (y := yL_turn) (As := [.ref b0, .int (0 : Int32), .int (x1 + (2 : Int32))]) (st := []) (put := (fun g => g)) sub_A1_A0 (t_L_turn l D cy hfl b0 c_13) kw_889 kw_24 kw_887 kw_888 hd_L_turn ⟨Nat.le_of_ble_eq_true rfl, Nat.le_of_ble_eq_true rfl⟩ ⟨Nat.le_of_ble_eq_true rfl, Nat.le_of_ble_eq_true rfl⟩ rfl (Nat.le_of_ble_eq_true rfl) ?_
        show G l D X 8 (WA1 cy 6 b0) 0 0 r_12 52 [(6, .int y6_3), (5, .int z_2), (0, .int x0), (1, .int x1), (2, .ref b0), (3, .int x3), (4, .int z_1)] []
        refine g_iconst (pc' := 53) O ⟨dL_moves_52, rfl⟩ (v := (1 : Int32)) rfl ?_
        obtain ⟨hn, E⟩ := ckz_of E
        cases E
        exact hret _ _ _ _ _ (Nat.le_of_ble_eq_true rfl) (Nat.le_of_ble_eq_true rfl) ⟨dL_moves_53, rfl⟩ hn
    · intro k28 hk28 E
      refine g_if_ne (pc' := 17) O ⟨dL_moves_14, rfl⟩ E (tgt := 23) (by decide) (fun E => ?_) (fun E => ?_)
      · refine g_iload_n (pc' := 24) O ⟨dL_moves_23, rfl⟩ (q := 2) rfl rfl ?_
        refine g_iload_n (pc' := 25) O ⟨dL_moves_24, rfl⟩ (q := 4) rfl rfl ?_
        obtain ⟨nz_25, E⟩ := nz_of E
        refine g_idiv (pc' := 26) O ⟨dL_moves_25, rfl⟩ nz_25 ?_
        refine g_iload_n (pc' := 27) O ⟨dL_moves_26, rfl⟩ (q := 4) rfl rfl ?_
        obtain ⟨nz_27, E⟩ := nz_of E
        refine g_irem (pc' := 28) O ⟨dL_moves_27, rfl⟩ nz_27 ?_
        refine g_sub (lv' := [(0, .int x0), (1, .int x1), (2, .ref b0), (3, .int x3), (4, .int z_1)]) [1, 2, 3, 4, 0] rfl ?_
        exact hk28 _ E
      · refine g_iload_n (pc' := 18) O ⟨dL_moves_17, rfl⟩ (q := 2) rfl rfl ?_
        refine g_iconst (pc' := 19) O ⟨dL_moves_18, rfl⟩ (v := (1 : Int32)) rfl ?_
        refine g_iadd (pc' := 20) O ⟨dL_moves_19, rfl⟩ ?_
        refine g_goto (pc' := 23) O ⟨dL_moves_20, rfl⟩ (tgt := 28) (by decide) ?_
        refine g_sub (lv' := [(0, .int x0), (1, .int x1), (2, .ref b0), (3, .int x3), (4, .int z_1)]) [1, 2, 3, 4, 0] rfl ?_
        exact hk28 _ E
  · intro k11 hk11 E
    refine g_if_ne (pc' := 4) O ⟨dL_moves_1, rfl⟩ E (tgt := 8) (by decide) (fun E => ?_) (fun E => ?_)
    · refine g_iload_n (pc' := 9) O ⟨dL_moves_8, rfl⟩ (q := 1) rfl rfl ?_
      refine g_iload_n (pc' := 10) O ⟨dL_moves_9, rfl⟩ (q := 3) rfl rfl ?_
      obtain ⟨nz_10, E⟩ := nz_of E
      refine g_irem (pc' := 11) O ⟨dL_moves_10, rfl⟩ nz_10 ?_
      exact hk11 _ E
    · refine g_iload_n (pc' := 5) O ⟨dL_moves_4, rfl⟩ (q := 1) rfl rfl ?_
      refine g_goto (pc' := 8) O ⟨dL_moves_5, rfl⟩ (tgt := 11) (by decide) ?_
      exact hk11 _ E
set_option maxRecDepth 100000 in
set_option maxHeartbeats 4000000 in
theorem t_L_upsideDown (l : Launch) (D : va_G) (cy : Nat → ClassId) (hfl : l.stackTraces = false) (b0 : Nat) {x1 : Int32} {r0 : Row} {o : Int32} (E : f_L_upsideDown x1 r0 = some o) : CtMI l D cy (WA1 cy 6 b0) yL_upsideDown cL_upsideDown 4 .int 0 0 0 0 [.ref b0, .int x1] r0 o r0 := by
  refine sMI (own := RL) rfl rfl (Nat.le_of_ble_eq_true rfl) (fun X O hN hret => ?_)
  show G l D X 4 (WA1 cy 6 b0) 0 0 r0 0 [(0, .ref b0), (1, .int x1)] []
  unfold f_L_upsideDown at E
  refine g_iconst (pc' := 1) O ⟨dL_upsideDown_0, rfl⟩ (v := (0 : Int32)) rfl ?_
  refine g_istore_n (pc' := 2) O ⟨dL_upsideDown_1, rfl⟩ (lv' := [(2, .int (0 : Int32)), (0, .ref b0), (1, .int x1)]) rfl (by decide) rfl ?_
  refine g_iconst (pc' := 3) O ⟨dL_upsideDown_2, rfl⟩ (v := (0 : Int32)) rfl ?_
  refine g_istore_n (pc' := 4) O ⟨dL_upsideDown_3, rfl⟩ (lv' := [(3, .int (0 : Int32)), (2, .int (0 : Int32)), (0, .ref b0), (1, .int x1)]) rfl (by decide) rfl ?_
  refine jn1_of (P := fun (x2_1 : Int32) => G l D X 4 (WA1 cy 6 b0) 0 0 r0 47 [(2, .int x2_1)] []) E ?_ ?_
  · intro x2_1 E
    show G l D X 4 (WA1 cy 6 b0) 0 0 r0 47 [(2, .int x2_1)] []
    refine g_iload_n (pc' := 48) O ⟨dL_upsideDown_47, rfl⟩ (q := 0) rfl rfl ?_
    cases E
    exact hret _ _ _ _ _ (Nat.le_of_ble_eq_true rfl) (Nat.le_of_ble_eq_true rfl) ⟨dL_upsideDown_48, rfl⟩ rfl
  · intro k47 hk47 E
    refine g_sub (lv' := [(0, .ref b0), (1, .int x1), (2, .int (0 : Int32)), (3, .int (0 : Int32))]) [2, 3, 1, 0] rfl ?_
    refine fx2_of (P := fun (x2_2 : Int32) (x3_3 : Int32) => G l D X 4 (WA1 cy 6 b0) 0 0 r0 4 [(0, .ref b0), (1, .int x1), (2, .int x2_2), (3, .int x3_3)] []) ?_ _ _ _ E
    intro self ih4 x2_2 x3_3 E
    show G l D X 4 (WA1 cy 6 b0) 0 0 r0 4 [(0, .ref b0), (1, .int x1), (2, .int x2_2), (3, .int x3_3)] []
    unfold L_L_upsideDown_4 at E
    refine g_iload_n (pc' := 5) O ⟨dL_upsideDown_4, rfl⟩ (q := 3) rfl rfl ?_
    refine g_iload_n (pc' := 6) O ⟨dL_upsideDown_5, rfl⟩ (q := 1) rfl rfl ?_
    refine g_iload_n (pc' := 7) O ⟨dL_upsideDown_6, rfl⟩ (q := 1) rfl rfl ?_
    refine g_imul (pc' := 8) O ⟨dL_upsideDown_7, rfl⟩ ?_
    refine g_icmp_ge (pc' := 11) O ⟨dL_upsideDown_8, rfl⟩ E (tgt := 47) (by decide) (fun E => ?_) (fun E => ?_)
    · refine g_sub (lv' := [(2, .int x2_2)]) [2] rfl ?_
      exact hk47 _ E
    · refine g_iload_n (pc' := 12) O ⟨dL_upsideDown_11, rfl⟩ (q := 2) rfl rfl ?_
      refine g_iload_n (pc' := 13) O ⟨dL_upsideDown_12, rfl⟩ (q := 3) rfl rfl ?_
      refine g_iload_n (pc' := 14) O ⟨dL_upsideDown_13, rfl⟩ (q := 1) rfl rfl ?_
      obtain ⟨nz_14, E⟩ := nz_of E
      refine g_idiv (pc' := 15) O ⟨dL_upsideDown_14, rfl⟩ nz_14 ?_
      refine g_iload_n (pc' := 16) O ⟨dL_upsideDown_15, rfl⟩ (q := 3) rfl rfl ?_
      refine g_iload_n (pc' := 17) O ⟨dL_upsideDown_16, rfl⟩ (q := 1) rfl rfl ?_
      obtain ⟨nz_17, E⟩ := nz_of E
      refine g_irem (pc' := 18) O ⟨dL_upsideDown_17, rfl⟩ nz_17 ?_
      refine jn0_of (P := G l D X 4 (WA1 cy 6 b0) 0 0 r0 38 [(0, .ref b0), (1, .int x1), (3, .int x3_3)] [.int x2_2]) E ?_ ?_
      · intro E
        show G l D X 4 (WA1 cy 6 b0) 0 0 r0 38 [(0, .ref b0), (1, .int x1), (3, .int x3_3)] [.int x2_2]
        refine g_iconst (pc' := 39) O ⟨dL_upsideDown_38, rfl⟩ (v := (0 : Int32)) rfl ?_
        refine g_iadd (pc' := 40) O ⟨dL_upsideDown_39, rfl⟩ ?_
        refine g_nm E (fun y2_4 E => ?_)
        refine g_istore_n (pc' := 41) O ⟨dL_upsideDown_40, rfl⟩ (lv' := [(2, .int y2_4), (0, .ref b0), (1, .int x1), (3, .int x3_3)]) rfl (by decide) rfl ?_
        refine g_iinc (pc' := 44) O ⟨dL_upsideDown_41, rfl⟩ (q := 3) (v := x3_3 + (1 : Int32)) (lv' := [(3, .int (x3_3 + (1 : Int32))), (2, .int y2_4), (0, .ref b0), (1, .int x1)]) rfl rfl (by decide) rfl ?_
        refine g_goto (pc' := 47) O ⟨dL_upsideDown_44, rfl⟩ (tgt := 4) (by decide) ?_
        refine g_sub (lv' := [(0, .ref b0), (1, .int x1), (2, .int y2_4), (3, .int (x3_3 + (1 : Int32)))]) [2, 3, 1, 0] rfl ?_
        exact ih4 _ _ E
      · intro k38 hk38 E
        refine g_icmp_ge (pc' := 21) O ⟨dL_upsideDown_18, rfl⟩ E (tgt := 38) (by decide) (fun E => ?_) (fun E => ?_)
        · refine g_sub (lv' := [(0, .ref b0), (1, .int x1), (3, .int x3_3)]) [0, 1, 3] rfl ?_
          exact hk38 E
        · refine g_aload_n (pc' := 22) O ⟨dL_upsideDown_21, rfl⟩ (q := 0) rfl rfl ?_
          refine g_iload_n (pc' := 23) O ⟨dL_upsideDown_22, rfl⟩ (q := 3) rfl rfl ?_
          refine g_iload_n (pc' := 24) O ⟨dL_upsideDown_23, rfl⟩ (q := 1) rfl rfl ?_
          obtain ⟨nz_24, E⟩ := nz_of E
          refine g_idiv (pc' := 25) O ⟨dL_upsideDown_24, rfl⟩ nz_24 ?_
          refine g_iald (pc' := 26) O ⟨dL_upsideDown_25, rfl⟩ zA1_0 E (fun E => ?_)
          refine g_aload_n (pc' := 27) O ⟨dL_upsideDown_26, rfl⟩ (q := 0) rfl rfl ?_
          refine g_iload_n (pc' := 28) O ⟨dL_upsideDown_27, rfl⟩ (q := 3) rfl rfl ?_
          refine g_iload_n (pc' := 29) O ⟨dL_upsideDown_28, rfl⟩ (q := 1) rfl rfl ?_
          obtain ⟨nz_29, E⟩ := nz_of E
          refine g_irem (pc' := 30) O ⟨dL_upsideDown_29, rfl⟩ nz_29 ?_
          refine g_iald (pc' := 31) O ⟨dL_upsideDown_30, rfl⟩ zA1_0 E (fun E => ?_)
          refine g_icmp_le (pc' := 34) O ⟨dL_upsideDown_31, rfl⟩ E (tgt := 38) (by decide) (fun E => ?_) (fun E => ?_)
          · refine g_sub (lv' := [(0, .ref b0), (1, .int x1), (3, .int x3_3)]) [0, 1, 3] rfl ?_
            exact hk38 E
          · refine g_iconst (pc' := 35) O ⟨dL_upsideDown_34, rfl⟩ (v := (1 : Int32)) rfl ?_
            refine g_goto (pc' := 38) O ⟨dL_upsideDown_35, rfl⟩ (tgt := 39) (by decide) ?_
            refine g_iadd (pc' := 40) O ⟨dL_upsideDown_39, rfl⟩ ?_
            refine g_nm E (fun y2_5 E => ?_)
            refine g_istore_n (pc' := 41) O ⟨dL_upsideDown_40, rfl⟩ (lv' := [(2, .int y2_5), (0, .ref b0), (1, .int x1), (3, .int x3_3)]) rfl (by decide) rfl ?_
            refine g_iinc (pc' := 44) O ⟨dL_upsideDown_41, rfl⟩ (q := 3) (v := x3_3 + (1 : Int32)) (lv' := [(3, .int (x3_3 + (1 : Int32))), (2, .int y2_5), (0, .ref b0), (1, .int x1)]) rfl rfl (by decide) rfl ?_
            refine g_goto (pc' := 47) O ⟨dL_upsideDown_44, rfl⟩ (tgt := 4) (by decide) ?_
            refine g_sub (lv' := [(0, .ref b0), (1, .int x1), (2, .int y2_5), (3, .int (x3_3 + (1 : Int32)))]) [2, 3, 1, 0] rfl ?_
            exact ih4 _ _ E
set_option maxRecDepth 100000 in
set_option maxHeartbeats 4000000 in
theorem t_L_rings (l : Launch) (D : va_G) (cy : Nat → ClassId) (hfl : l.stackTraces = false) (b0 : Nat) {x1 : Int32} {r0 : Row} {o : Int32} (E : f_L_rings x1 r0 = some o) : CtMI l D cy (WA1 cy 6 b0) yL_rings cL_rings 6 .int 0 0 0 0 [.ref b0, .int x1] r0 o r0 := by
  refine sMI (own := RL) rfl rfl (Nat.le_of_ble_eq_true rfl) (fun X O hN hret => ?_)
  show G l D X 6 (WA1 cy 6 b0) 0 0 r0 0 [(0, .ref b0), (1, .int x1)] []
  unfold f_L_rings at E
  refine g_iconst (pc' := 1) O ⟨dL_rings_0, rfl⟩ (v := (0 : Int32)) rfl ?_
  refine g_istore_n (pc' := 2) O ⟨dL_rings_1, rfl⟩ (lv' := [(2, .int (0 : Int32)), (0, .ref b0), (1, .int x1)]) rfl (by decide) rfl ?_
  refine g_iconst (pc' := 3) O ⟨dL_rings_2, rfl⟩ (v := (0 : Int32)) rfl ?_
  refine g_istore_n (pc' := 4) O ⟨dL_rings_3, rfl⟩ (lv' := [(3, .int (0 : Int32)), (2, .int (0 : Int32)), (0, .ref b0), (1, .int x1)]) rfl (by decide) rfl ?_
  refine g_iconst (pc' := 5) O ⟨dL_rings_4, rfl⟩ (v := (0 : Int32)) rfl ?_
  refine g_istore (pc' := 7) O ⟨dL_rings_5, rfl⟩ (lv' := [(4, .int (0 : Int32)), (3, .int (0 : Int32)), (2, .int (0 : Int32)), (0, .ref b0), (1, .int x1)]) (by decide) rfl ?_
  refine jn1_of (P := fun (x3_1 : Int32) => G l D X 6 (WA1 cy 6 b0) 0 0 r0 65 [(3, .int x3_1)] []) E ?_ ?_
  · intro x3_1 E
    show G l D X 6 (WA1 cy 6 b0) 0 0 r0 65 [(3, .int x3_1)] []
    refine g_iload_n (pc' := 66) O ⟨dL_rings_65, rfl⟩ (q := 0) rfl rfl ?_
    cases E
    exact hret _ _ _ _ _ (Nat.le_of_ble_eq_true rfl) (Nat.le_of_ble_eq_true rfl) ⟨dL_rings_66, rfl⟩ rfl
  · intro k65 hk65 E
    refine g_sub (lv' := [(0, .ref b0), (1, .int x1), (2, .int (0 : Int32)), (3, .int (0 : Int32)), (4, .int (0 : Int32))]) [3, 4, 2, 1, 0] rfl ?_
    refine fx3_of (P := fun (x2_2 : Int32) (x3_3 : Int32) (x4_4 : Int32) => G l D X 6 (WA1 cy 6 b0) 0 0 r0 7 [(0, .ref b0), (1, .int x1), (2, .int x2_2), (3, .int x3_3), (4, .int x4_4)] []) ?_ _ _ _ _ E
    intro self ih7 x2_2 x3_3 x4_4 E
    show G l D X 6 (WA1 cy 6 b0) 0 0 r0 7 [(0, .ref b0), (1, .int x1), (2, .int x2_2), (3, .int x3_3), (4, .int x4_4)] []
    unfold L_L_rings_7 at E
    refine g_iload (pc' := 9) O ⟨dL_rings_7, rfl⟩ (q := 4) rfl ?_
    refine g_iload_n (pc' := 10) O ⟨dL_rings_9, rfl⟩ (q := 1) rfl rfl ?_
    refine g_icmp_ge (pc' := 13) O ⟨dL_rings_10, rfl⟩ E (tgt := 65) (by decide) (fun E => ?_) (fun E => ?_)
    · refine g_sub (lv' := [(3, .int x3_3)]) [3] rfl ?_
      exact hk65 _ E
    · refine g_iload_n (pc' := 14) O ⟨dL_rings_13, rfl⟩ (q := 3) rfl rfl ?_
      refine g_iload_n (pc' := 15) O ⟨dL_rings_14, rfl⟩ (q := 2) rfl rfl ?_
      refine g_iload (pc' := 17) O ⟨dL_rings_15, rfl⟩ (q := 4) rfl ?_
      refine g_ishr (pc' := 18) O ⟨dL_rings_17, rfl⟩ ?_
      refine g_iconst (pc' := 19) O ⟨dL_rings_18, rfl⟩ (v := (1 : Int32)) rfl ?_
      refine g_iand (pc' := 20) O ⟨dL_rings_19, rfl⟩ ?_
      refine g_if_ne (pc' := 23) O ⟨dL_rings_20, rfl⟩ E (tgt := 27) (by decide) (fun E => ?_) (fun E => ?_)
      · refine g_iconst (pc' := 28) O ⟨dL_rings_27, rfl⟩ (v := (0 : Int32)) rfl ?_
        refine g_iadd (pc' := 29) O ⟨dL_rings_28, rfl⟩ ?_
        refine g_nm E (fun y3_5 E => ?_)
        refine g_istore_n (pc' := 30) O ⟨dL_rings_29, rfl⟩ (lv' := [(3, .int y3_5), (0, .ref b0), (1, .int x1), (2, .int x2_2), (4, .int x4_4)]) rfl (by decide) rfl ?_
        refine g_iload (pc' := 32) O ⟨dL_rings_30, rfl⟩ (q := 4) rfl ?_
        refine g_istore (pc' := 34) O ⟨dL_rings_32, rfl⟩ (lv' := [(5, .int x4_4), (3, .int y3_5), (0, .ref b0), (1, .int x1), (2, .int x2_2), (4, .int x4_4)]) (by decide) rfl ?_
        refine jn1_of (P := fun (x2_6 : Int32) => G l D X 6 (WA1 cy 6 b0) 0 0 r0 59 [(0, .ref b0), (1, .int x1), (2, .int x2_6), (3, .int y3_5), (4, .int x4_4)] []) E ?_ ?_
        · intro x2_6 E
          show G l D X 6 (WA1 cy 6 b0) 0 0 r0 59 [(0, .ref b0), (1, .int x1), (2, .int x2_6), (3, .int y3_5), (4, .int x4_4)] []
          refine g_iinc (pc' := 62) O ⟨dL_rings_59, rfl⟩ (q := 4) (v := x4_4 + (1 : Int32)) (lv' := [(4, .int (x4_4 + (1 : Int32))), (0, .ref b0), (1, .int x1), (2, .int x2_6), (3, .int y3_5)]) rfl rfl (by decide) rfl ?_
          refine g_goto (pc' := 65) O ⟨dL_rings_62, rfl⟩ (tgt := 7) (by decide) ?_
          refine g_sub (lv' := [(0, .ref b0), (1, .int x1), (2, .int x2_6), (3, .int y3_5), (4, .int (x4_4 + (1 : Int32)))]) [1, 2, 3, 4, 0] rfl ?_
          exact ih7 _ _ _ E
        · intro k59 hk59 E
          refine g_sub (lv' := [(0, .ref b0), (1, .int x1), (2, .int x2_2), (3, .int y3_5), (4, .int x4_4), (5, .int x4_4)]) [2, 3, 4, 1, 5, 0] rfl ?_
          refine fx2_of (P := fun (x2_7 : Int32) (x5_8 : Int32) => G l D X 6 (WA1 cy 6 b0) 0 0 r0 34 [(0, .ref b0), (1, .int x1), (2, .int x2_7), (3, .int y3_5), (4, .int x4_4), (5, .int x5_8)] []) ?_ _ _ _ E
          intro self ih34 x2_7 x5_8 E
          show G l D X 6 (WA1 cy 6 b0) 0 0 r0 34 [(0, .ref b0), (1, .int x1), (2, .int x2_7), (3, .int y3_5), (4, .int x4_4), (5, .int x5_8)] []
          unfold L_L_rings_34 at E
          refine g_iload_n (pc' := 35) O ⟨dL_rings_34, rfl⟩ (q := 2) rfl rfl ?_
          refine g_iload (pc' := 37) O ⟨dL_rings_35, rfl⟩ (q := 5) rfl ?_
          refine g_ishr (pc' := 38) O ⟨dL_rings_37, rfl⟩ ?_
          refine g_iconst (pc' := 39) O ⟨dL_rings_38, rfl⟩ (v := (1 : Int32)) rfl ?_
          refine g_iand (pc' := 40) O ⟨dL_rings_39, rfl⟩ ?_
          refine g_if_ne (pc' := 43) O ⟨dL_rings_40, rfl⟩ E (tgt := 59) (by decide) (fun E => ?_) (fun E => ?_)
          · refine g_sub (lv' := [(0, .ref b0), (1, .int x1), (2, .int x2_7), (3, .int y3_5), (4, .int x4_4)]) [0, 1, 2, 3, 4] rfl ?_
            exact hk59 _ E
          · refine g_iload_n (pc' := 44) O ⟨dL_rings_43, rfl⟩ (q := 2) rfl rfl ?_
            refine g_iconst (pc' := 45) O ⟨dL_rings_44, rfl⟩ (v := (1 : Int32)) rfl ?_
            refine g_iload (pc' := 47) O ⟨dL_rings_45, rfl⟩ (q := 5) rfl ?_
            refine g_ishl (pc' := 48) O ⟨dL_rings_47, rfl⟩ ?_
            refine g_ior (pc' := 49) O ⟨dL_rings_48, rfl⟩ ?_
            refine g_nm E (fun y2_9 E => ?_)
            refine g_istore_n (pc' := 50) O ⟨dL_rings_49, rfl⟩ (lv' := [(2, .int y2_9), (0, .ref b0), (1, .int x1), (3, .int y3_5), (4, .int x4_4), (5, .int x5_8)]) rfl (by decide) rfl ?_
            refine g_aload_n (pc' := 51) O ⟨dL_rings_50, rfl⟩ (q := 1) rfl rfl ?_
            refine g_iload (pc' := 53) O ⟨dL_rings_51, rfl⟩ (q := 5) rfl ?_
            refine g_iald (pc' := 54) O ⟨dL_rings_53, rfl⟩ zA1_0 E (fun E => ?_)
            refine g_istore (pc' := 56) O ⟨dL_rings_54, rfl⟩ (lv' := [(5, .int (r0 x5_8.toNatClampNeg)), (2, .int y2_9), (0, .ref b0), (1, .int x1), (3, .int y3_5), (4, .int x4_4)]) (by decide) rfl ?_
            refine g_goto (pc' := 59) O ⟨dL_rings_56, rfl⟩ (tgt := 34) (by decide) ?_
            refine g_sub (lv' := [(0, .ref b0), (1, .int x1), (2, .int y2_9), (3, .int y3_5), (4, .int x4_4), (5, .int (r0 x5_8.toNatClampNeg))]) [2, 3, 1, 4, 5, 0] rfl ?_
            exact ih34 _ _ E
      · refine g_iconst (pc' := 24) O ⟨dL_rings_23, rfl⟩ (v := (1 : Int32)) rfl ?_
        refine g_goto (pc' := 27) O ⟨dL_rings_24, rfl⟩ (tgt := 28) (by decide) ?_
        refine g_iadd (pc' := 29) O ⟨dL_rings_28, rfl⟩ ?_
        refine g_nm E (fun y3_10 E => ?_)
        refine g_istore_n (pc' := 30) O ⟨dL_rings_29, rfl⟩ (lv' := [(3, .int y3_10), (0, .ref b0), (1, .int x1), (2, .int x2_2), (4, .int x4_4)]) rfl (by decide) rfl ?_
        refine g_iload (pc' := 32) O ⟨dL_rings_30, rfl⟩ (q := 4) rfl ?_
        refine g_istore (pc' := 34) O ⟨dL_rings_32, rfl⟩ (lv' := [(5, .int x4_4), (3, .int y3_10), (0, .ref b0), (1, .int x1), (2, .int x2_2), (4, .int x4_4)]) (by decide) rfl ?_
        refine jn1_of (P := fun (x2_11 : Int32) => G l D X 6 (WA1 cy 6 b0) 0 0 r0 59 [(0, .ref b0), (1, .int x1), (2, .int x2_11), (3, .int y3_10), (4, .int x4_4)] []) E ?_ ?_
        · intro x2_11 E
          show G l D X 6 (WA1 cy 6 b0) 0 0 r0 59 [(0, .ref b0), (1, .int x1), (2, .int x2_11), (3, .int y3_10), (4, .int x4_4)] []
          refine g_iinc (pc' := 62) O ⟨dL_rings_59, rfl⟩ (q := 4) (v := x4_4 + (1 : Int32)) (lv' := [(4, .int (x4_4 + (1 : Int32))), (0, .ref b0), (1, .int x1), (2, .int x2_11), (3, .int y3_10)]) rfl rfl (by decide) rfl ?_
          refine g_goto (pc' := 65) O ⟨dL_rings_62, rfl⟩ (tgt := 7) (by decide) ?_
          refine g_sub (lv' := [(0, .ref b0), (1, .int x1), (2, .int x2_11), (3, .int y3_10), (4, .int (x4_4 + (1 : Int32)))]) [1, 2, 3, 4, 0] rfl ?_
          exact ih7 _ _ _ E
        · intro k59 hk59 E
          refine g_sub (lv' := [(0, .ref b0), (1, .int x1), (2, .int x2_2), (3, .int y3_10), (4, .int x4_4), (5, .int x4_4)]) [2, 3, 4, 1, 5, 0] rfl ?_
          refine fx2_of (P := fun (x2_12 : Int32) (x5_13 : Int32) => G l D X 6 (WA1 cy 6 b0) 0 0 r0 34 [(0, .ref b0), (1, .int x1), (2, .int x2_12), (3, .int y3_10), (4, .int x4_4), (5, .int x5_13)] []) ?_ _ _ _ E
          intro self ih34 x2_12 x5_13 E
          show G l D X 6 (WA1 cy 6 b0) 0 0 r0 34 [(0, .ref b0), (1, .int x1), (2, .int x2_12), (3, .int y3_10), (4, .int x4_4), (5, .int x5_13)] []
          unfold L_L_rings_34 at E
          refine g_iload_n (pc' := 35) O ⟨dL_rings_34, rfl⟩ (q := 2) rfl rfl ?_
          refine g_iload (pc' := 37) O ⟨dL_rings_35, rfl⟩ (q := 5) rfl ?_
          refine g_ishr (pc' := 38) O ⟨dL_rings_37, rfl⟩ ?_
          refine g_iconst (pc' := 39) O ⟨dL_rings_38, rfl⟩ (v := (1 : Int32)) rfl ?_
          refine g_iand (pc' := 40) O ⟨dL_rings_39, rfl⟩ ?_
          refine g_if_ne (pc' := 43) O ⟨dL_rings_40, rfl⟩ E (tgt := 59) (by decide) (fun E => ?_) (fun E => ?_)
          · refine g_sub (lv' := [(0, .ref b0), (1, .int x1), (2, .int x2_12), (3, .int y3_10), (4, .int x4_4)]) [0, 1, 2, 3, 4] rfl ?_
            exact hk59 _ E
          · refine g_iload_n (pc' := 44) O ⟨dL_rings_43, rfl⟩ (q := 2) rfl rfl ?_
            refine g_iconst (pc' := 45) O ⟨dL_rings_44, rfl⟩ (v := (1 : Int32)) rfl ?_
            refine g_iload (pc' := 47) O ⟨dL_rings_45, rfl⟩ (q := 5) rfl ?_
            refine g_ishl (pc' := 48) O ⟨dL_rings_47, rfl⟩ ?_
            refine g_ior (pc' := 49) O ⟨dL_rings_48, rfl⟩ ?_
            refine g_nm E (fun y2_14 E => ?_)
            refine g_istore_n (pc' := 50) O ⟨dL_rings_49, rfl⟩ (lv' := [(2, .int y2_14), (0, .ref b0), (1, .int x1), (3, .int y3_10), (4, .int x4_4), (5, .int x5_13)]) rfl (by decide) rfl ?_
            refine g_aload_n (pc' := 51) O ⟨dL_rings_50, rfl⟩ (q := 1) rfl rfl ?_
            refine g_iload (pc' := 53) O ⟨dL_rings_51, rfl⟩ (q := 5) rfl ?_
            refine g_iald (pc' := 54) O ⟨dL_rings_53, rfl⟩ zA1_0 E (fun E => ?_)
            refine g_istore (pc' := 56) O ⟨dL_rings_54, rfl⟩ (lv' := [(5, .int (r0 x5_13.toNatClampNeg)), (2, .int y2_14), (0, .ref b0), (1, .int x1), (3, .int y3_10), (4, .int x4_4)]) (by decide) rfl ?_
            refine g_goto (pc' := 59) O ⟨dL_rings_56, rfl⟩ (tgt := 34) (by decide) ?_
            refine g_sub (lv' := [(0, .ref b0), (1, .int x1), (2, .int y2_14), (3, .int y3_10), (4, .int x4_4), (5, .int (r0 x5_13.toNatClampNeg))]) [2, 3, 1, 4, 5, 0] rfl ?_
            exact ih34 _ _ E
set_option maxRecDepth 100000 in
set_option maxHeartbeats 4000000 in
theorem t_L_placeOf (l : Launch) (D : va_G) (cy : Nat → ClassId) (hfl : l.stackTraces = false) (b0 : Nat) {x0 : Int32} {x2 : Int32} {r0 : Row} {o : Int32} (E : f_L_placeOf x0 x2 r0 = some o) : CtMI l D cy (WA1 cy 24 b0) yL_placeOf cL_placeOf 4 .int 0 0 0 0 [.int x0, .ref b0, .int x2] r0 o r0 := by
  refine sMI (own := RL) rfl rfl (Nat.le_of_ble_eq_true rfl) (fun X O hN hret => ?_)
  show G l D X 4 (WA1 cy 24 b0) 0 0 r0 0 [(0, .int x0), (1, .ref b0), (2, .int x2)] []
  unfold f_L_placeOf at E
  refine g_iconst (pc' := 1) O ⟨dL_placeOf_0, rfl⟩ (v := (0 : Int32)) rfl ?_
  refine g_istore_n (pc' := 2) O ⟨dL_placeOf_1, rfl⟩ (lv' := [(3, .int (0 : Int32)), (0, .int x0), (1, .ref b0), (2, .int x2)]) rfl (by decide) rfl ?_
  refine jn1_of (P := fun (x3_1 : Int32) => G l D X 4 (WA1 cy 24 b0) 0 0 r0 20 [(3, .int x3_1)] []) E ?_ ?_
  · intro x3_1 E
    show G l D X 4 (WA1 cy 24 b0) 0 0 r0 20 [(3, .int x3_1)] []
    refine g_iload_n (pc' := 21) O ⟨dL_placeOf_20, rfl⟩ (q := 0) rfl rfl ?_
    cases E
    exact hret _ _ _ _ _ (Nat.le_of_ble_eq_true rfl) (Nat.le_of_ble_eq_true rfl) ⟨dL_placeOf_21, rfl⟩ rfl
  · intro k20 hk20 E
    refine g_sub (lv' := [(0, .int x0), (1, .ref b0), (2, .int x2), (3, .int (0 : Int32))]) [1, 2, 3, 0] rfl ?_
    refine fx1_of (P := fun (x3_2 : Int32) => G l D X 4 (WA1 cy 24 b0) 0 0 r0 2 [(0, .int x0), (1, .ref b0), (2, .int x2), (3, .int x3_2)] []) ?_ _ _ E
    intro self ih2 x3_2 E
    show G l D X 4 (WA1 cy 24 b0) 0 0 r0 2 [(0, .int x0), (1, .ref b0), (2, .int x2), (3, .int x3_2)] []
    unfold L_L_placeOf_2 at E
    refine g_iload_n (pc' := 3) O ⟨dL_placeOf_2, rfl⟩ (q := 3) rfl rfl ?_
    refine g_iload_n (pc' := 4) O ⟨dL_placeOf_3, rfl⟩ (q := 2) rfl rfl ?_
    refine g_icmp_ge (pc' := 7) O ⟨dL_placeOf_4, rfl⟩ E (tgt := 20) (by decide) (fun E => ?_) (fun E => ?_)
    · refine g_sub (lv' := [(3, .int x3_2)]) [3] rfl ?_
      exact hk20 _ E
    · refine g_aload_n (pc' := 8) O ⟨dL_placeOf_7, rfl⟩ (q := 1) rfl rfl ?_
      refine g_iload_n (pc' := 9) O ⟨dL_placeOf_8, rfl⟩ (q := 3) rfl rfl ?_
      refine g_iald (pc' := 10) O ⟨dL_placeOf_9, rfl⟩ zA1_0 E (fun E => ?_)
      refine g_iload_n (pc' := 11) O ⟨dL_placeOf_10, rfl⟩ (q := 0) rfl rfl ?_
      refine g_icmp_eq (pc' := 14) O ⟨dL_placeOf_11, rfl⟩ E (tgt := 20) (by decide) (fun E => ?_) (fun E => ?_)
      · refine g_sub (lv' := [(3, .int x3_2)]) [3] rfl ?_
        exact hk20 _ E
      · refine g_iinc (pc' := 17) O ⟨dL_placeOf_14, rfl⟩ (q := 3) (v := x3_2 + (1 : Int32)) (lv' := [(3, .int (x3_2 + (1 : Int32))), (0, .int x0), (1, .ref b0), (2, .int x2)]) rfl rfl (by decide) rfl ?_
        refine g_goto (pc' := 20) O ⟨dL_placeOf_17, rfl⟩ (tgt := 2) (by decide) ?_
        refine g_sub (lv' := [(0, .int x0), (1, .ref b0), (2, .int x2), (3, .int (x3_2 + (1 : Int32)))]) [1, 2, 3, 0] rfl ?_
        exact ih2 _ E
set_option maxRecDepth 100000 in
set_option maxHeartbeats 4000000 in
theorem t_L_lays (l : Launch) (D : va_G) (cy : Nat → ClassId) (hfl : l.stackTraces = false) (b0 : Nat) {x0 : Int32} {x2 : Int32} {r0 : Row} {o : Row} (E : f_L_lays x0 x2 r0 = some o) : CtMV l D cy (WA1 cy 6 b0) yL_lays cL_lays 5 0 0 0 0 [.int x0, .ref b0, .int x2] r0 o := by
  refine sMV (own := RL) rfl rfl (Nat.le_of_ble_eq_true rfl) (fun X O hN hret => ?_)
  show G l D X 5 (WA1 cy 6 b0) 0 0 r0 0 [(0, .int x0), (1, .ref b0), (2, .int x2)] []
  unfold f_L_lays at E
  refine g_iload_n (pc' := 1) O ⟨dL_lays_0, rfl⟩ (q := 0) rfl rfl ?_
  refine g_istore_n (pc' := 2) O ⟨dL_lays_1, rfl⟩ (lv' := [(3, .int x0), (0, .int x0), (1, .ref b0), (2, .int x2)]) rfl (by decide) rfl ?_
  refine g_iconst (pc' := 3) O ⟨dL_lays_2, rfl⟩ (v := (0 : Int32)) rfl ?_
  refine g_istore (pc' := 5) O ⟨dL_lays_3, rfl⟩ (lv' := [(4, .int (0 : Int32)), (3, .int x0), (0, .int x0), (1, .ref b0), (2, .int x2)]) (by decide) rfl ?_
  refine jn1_of (P := fun (r0_1 : Row) => G l D X 5 (WA1 cy 6 b0) 0 0 r0_1 30 [] []) E ?_ ?_
  · intro r0_1 E
    show G l D X 5 (WA1 cy 6 b0) 0 0 r0_1 30 [] []
    cases E
    exact hret _ _ _ _ _ (Nat.le_of_ble_eq_true rfl) (Nat.le_of_ble_eq_true rfl) ⟨dL_lays_30, rfl⟩
  · intro k30 hk30 E
    refine g_sub (lv' := [(1, .ref b0), (2, .int x2), (3, .int x0), (4, .int (0 : Int32))]) [3, 4, 1, 0] rfl ?_
    refine fx3_of (P := fun (x3_2 : Int32) (x4_3 : Int32) (r0_4 : Row) => G l D X 5 (WA1 cy 6 b0) 0 0 r0_4 5 [(1, .ref b0), (2, .int x2), (3, .int x3_2), (4, .int x4_3)] []) ?_ _ _ _ _ E
    intro self ih5 x3_2 x4_3 r0_4 E
    show G l D X 5 (WA1 cy 6 b0) 0 0 r0_4 5 [(1, .ref b0), (2, .int x2), (3, .int x3_2), (4, .int x4_3)] []
    unfold L_L_lays_5 at E
    refine g_iload (pc' := 7) O ⟨dL_lays_5, rfl⟩ (q := 3) rfl ?_
    refine g_iload_n (pc' := 8) O ⟨dL_lays_7, rfl⟩ (q := 1) rfl rfl ?_
    refine g_icmp_ge (pc' := 11) O ⟨dL_lays_8, rfl⟩ E (tgt := 30) (by decide) (fun E => ?_) (fun E => ?_)
    · refine g_sub (lv' := []) [] rfl ?_
      exact hk30 _ E
    · refine g_aload_n (pc' := 12) O ⟨dL_lays_11, rfl⟩ (q := 0) rfl rfl ?_
      refine g_iload (pc' := 14) O ⟨dL_lays_12, rfl⟩ (q := 3) rfl ?_
      refine g_iload_n (pc' := 15) O ⟨dL_lays_14, rfl⟩ (q := 2) rfl rfl ?_
      refine g_bipush (pc' := 17) O ⟨dL_lays_15, rfl⟩ (v := (10 : Int32)) rfl ?_
      refine g_irem (pc' := 18) O ⟨dL_lays_17, rfl⟩ (by decide) ?_
      refine g_iast (pc' := 19) O ⟨dL_lays_18, rfl⟩ zA1_0 zsA1_0 E (fun E => ?_)
      refine g_nmr (Go := fun (r0_5 : Row) => G l D X 5 (WA1 cy 6 b0) 0 0 r0_5 19 [(1, .ref b0), (2, .int x2), (3, .int x3_2), (4, .int x4_3)] []) E (fun r0_5 E => ?_)
      show G l D X 5 (WA1 cy 6 b0) 0 0 r0_5 19 [(1, .ref b0), (2, .int x2), (3, .int x3_2), (4, .int x4_3)] []
      refine g_iload_n (pc' := 20) O ⟨dL_lays_19, rfl⟩ (q := 2) rfl rfl ?_
      refine g_bipush (pc' := 22) O ⟨dL_lays_20, rfl⟩ (v := (10 : Int32)) rfl ?_
      refine g_idiv (pc' := 23) O ⟨dL_lays_22, rfl⟩ (by decide) ?_
      refine g_nm E (fun y3_6 E => ?_)
      refine g_istore_n (pc' := 24) O ⟨dL_lays_23, rfl⟩ (lv' := [(3, .int y3_6), (1, .ref b0), (2, .int x2), (4, .int x4_3)]) rfl (by decide) rfl ?_
      refine g_iinc (pc' := 27) O ⟨dL_lays_24, rfl⟩ (q := 3) (v := x4_3 + (1 : Int32)) (lv' := [(4, .int (x4_3 + (1 : Int32))), (3, .int y3_6), (1, .ref b0), (2, .int x2)]) rfl rfl (by decide) rfl ?_
      refine g_goto (pc' := 30) O ⟨dL_lays_27, rfl⟩ (tgt := 5) (by decide) ?_
      refine g_sub (lv' := [(1, .ref b0), (2, .int x2), (3, .int y3_6), (4, .int (x4_3 + (1 : Int32)))]) [2, 3, 1, 0] rfl ?_
      exact ih5 _ _ _ E
set_option maxRecDepth 100000 in
set_option maxHeartbeats 4000000 in
theorem t_L_spreads (l : Launch) (D : va_G) (cy : Nat → ClassId) (hfl : l.stackTraces = false) (b0 : Nat) (b1 : Nat) {x0 : Int32} {x1 : Int32} {r0 : Row} {r1 : Row} {o : Int32 × Row × Row} (E : f_L_spreads x0 x1 r0 r1 = some o) : CtMI l D cy (WA2 cy 24 24 b0 b1) yL_spreads cL_spreads 11 .int 2 51 1 6 [.int x0, .int x1, .ref b0, .ref b1] (r0, r1) o.1 (o.2.1, o.2.2) := by
  refine sMI (own := RL) rfl rfl (Nat.le_of_ble_eq_true rfl) (fun X O hN hret => ?_)
  show G l D X 11 (WA2 cy 24 24 b0 b1) 0 0 (r0, r1) 0 [(0, .int x0), (1, .int x1), (2, .ref b0), (3, .ref b1)] []
  unfold f_L_spreads at E
  refine g_bipush (pc' := 2) O ⟨dL_spreads_0, rfl⟩ (v := (6 : Int32)) rfl ?_
  refine g_newr (pc' := 4) O ⟨dL_spreads_2, rfl⟩ (N' := 6) (wf2 := fun b2 => (WA3 cy 24 24 6 b0 b1 b2)) (h2 := (r0, r1, (fun _ => 0))) kw_94 rfl (by decide) (by decide) ⟨Nat.le_of_ble_eq_true rfl, Nat.le_of_ble_eq_true rfl⟩ (fun _ => rfl) (fun b2 => ?_)
  show G l D X 11 (WA3 cy 24 24 6 b0 b1 b2) 1 6 (r0, r1, (fun _ => 0)) 4 [(0, .int x0), (1, .int x1), (2, .ref b0), (3, .ref b1)] [.ref b2]
  refine g_astore (pc' := 6) O ⟨dL_spreads_4, rfl⟩ (lv' := [(4, .ref b2), (0, .int x0), (1, .int x1), (2, .ref b0), (3, .ref b1)]) (by decide) rfl ?_
  refine g_iconst (pc' := 7) O ⟨dL_spreads_6, rfl⟩ (v := (0 : Int32)) rfl ?_
  refine g_istore (pc' := 9) O ⟨dL_spreads_7, rfl⟩ (lv' := [(5, .int (0 : Int32)), (4, .ref b2), (0, .int x0), (1, .int x1), (2, .ref b0), (3, .ref b1)]) (by decide) rfl ?_
  refine jn1_of (P := fun (r2_1 : Row) => G l D X 11 (WA3 cy 24 24 6 b0 b1 b2) 1 6 (r0, r1, r2_1) 28 [(0, .int x0), (1, .int x1), (2, .ref b0), (3, .ref b1), (4, .ref b2)] []) E ?_ ?_
  · intro r2_1 E
    show G l D X 11 (WA3 cy 24 24 6 b0 b1 b2) 1 6 (r0, r1, r2_1) 28 [(0, .int x0), (1, .int x1), (2, .ref b0), (3, .ref b1), (4, .ref b2)] []
    refine g_iconst (pc' := 29) O ⟨dL_spreads_28, rfl⟩ (v := (0 : Int32)) rfl ?_
    refine g_istore (pc' := 31) O ⟨dL_spreads_29, rfl⟩ (lv' := [(5, .int (0 : Int32)), (0, .int x0), (1, .int x1), (2, .ref b0), (3, .ref b1), (4, .ref b2)]) (by decide) rfl ?_
    refine g_iconst (pc' := 32) O ⟨dL_spreads_31, rfl⟩ (v := (1 : Int32)) rfl ?_
    refine g_istore (pc' := 34) O ⟨dL_spreads_32, rfl⟩ (lv' := [(6, .int (1 : Int32)), (5, .int (0 : Int32)), (0, .int x0), (1, .int x1), (2, .ref b0), (3, .ref b1), (4, .ref b2)]) (by decide) rfl ?_
    refine jn4_of (P := fun (x5_2 : Int32) (r0_3 : Row) (r1_4 : Row) (r2_5 : Row) => G l D X 11 (WA3 cy 24 24 6 b0 b1 b2) 1 6 (r0_3, r1_4, r2_5) 78 [(0, .int x0), (1, .int x1), (2, .ref b0), (3, .ref b1), (4, .ref b2), (5, .int x5_2)] []) E ?_ ?_
    · intro x5_2 r0_3 r1_4 r2_5 E
      show G l D X 11 (WA3 cy 24 24 6 b0 b1 b2) 1 6 (r0_3, r1_4, r2_5) 78 [(0, .int x0), (1, .int x1), (2, .ref b0), (3, .ref b1), (4, .ref b2), (5, .int x5_2)] []
      refine g_iconst (pc' := 79) O ⟨dL_spreads_78, rfl⟩ (v := (1 : Int32)) rfl ?_
      refine g_istore (pc' := 81) O ⟨dL_spreads_79, rfl⟩ (lv' := [(7, .int (1 : Int32)), (0, .int x0), (1, .int x1), (2, .ref b0), (3, .ref b1), (4, .ref b2), (5, .int x5_2)]) (by decide) rfl ?_
      refine jn2_of (P := fun (r1_6 : Row) (r2_7 : Row) => G l D X 11 (WA3 cy 24 24 6 b0 b1 b2) 1 6 (r0_3, r1_6, r2_7) 194 [(5, .int x5_2)] []) E ?_ ?_
      · intro r1_6 r2_7 E
        show G l D X 11 (WA3 cy 24 24 6 b0 b1 b2) 1 6 (r0_3, r1_6, r2_7) 194 [(5, .int x5_2)] []
        refine g_iload (pc' := 196) O ⟨dL_spreads_194, rfl⟩ (q := 0) rfl ?_
        cases E
        refine g_drop (wf := (WA2 cy 24 24 b0 b1)) (h := (r0_3, r1_6)) (List.range 2) rfl rfl (by decide) ?_
        exact hret _ _ _ _ _ (Nat.le_of_ble_eq_true rfl) (Nat.le_of_ble_eq_true rfl) ⟨dL_spreads_196, rfl⟩ rfl
      · intro k194 hk194 E
        refine g_sub (lv' := [(0, .int x0), (1, .int x1), (2, .ref b0), (3, .ref b1), (4, .ref b2), (5, .int x5_2), (7, .int (1 : Int32))]) [1, 2, 3, 4, 5, 6, 0] rfl ?_
        refine fx3_of (P := fun (x7_8 : Int32) (r1_9 : Row) (r2_10 : Row) => G l D X 11 (WA3 cy 24 24 6 b0 b1 b2) 1 6 (r0_3, r1_9, r2_10) 81 [(0, .int x0), (1, .int x1), (2, .ref b0), (3, .ref b1), (4, .ref b2), (5, .int x5_2), (7, .int x7_8)] []) ?_ _ _ _ _ E
        intro self ih81 x7_8 r1_9 r2_10 E
        show G l D X 11 (WA3 cy 24 24 6 b0 b1 b2) 1 6 (r0_3, r1_9, r2_10) 81 [(0, .int x0), (1, .int x1), (2, .ref b0), (3, .ref b1), (4, .ref b2), (5, .int x5_2), (7, .int x7_8)] []
        unfold L_L_spreads_81 at E
        refine g_iload (pc' := 83) O ⟨dL_spreads_81, rfl⟩ (q := 6) rfl ?_
        refine g_if_eq (pc' := 86) O ⟨dL_spreads_83, rfl⟩ E (tgt := 194) (by decide) (fun E => ?_) (fun E => ?_)
        · refine g_sub (lv' := [(5, .int x5_2)]) [5] rfl ?_
          exact hk194 _ _ E
        · refine g_iconst (pc' := 87) O ⟨dL_spreads_86, rfl⟩ (v := (0 : Int32)) rfl ?_
          refine g_istore (pc' := 89) O ⟨dL_spreads_87, rfl⟩ (lv' := [(7, .int (0 : Int32)), (0, .int x0), (1, .int x1), (2, .ref b0), (3, .ref b1), (4, .ref b2), (5, .int x5_2)]) (by decide) rfl ?_
          refine g_iconst (pc' := 90) O ⟨dL_spreads_89, rfl⟩ (v := (0 : Int32)) rfl ?_
          refine g_istore (pc' := 92) O ⟨dL_spreads_90, rfl⟩ (lv' := [(8, .int (0 : Int32)), (7, .int (0 : Int32)), (0, .int x0), (1, .int x1), (2, .ref b0), (3, .ref b1), (4, .ref b2), (5, .int x5_2)]) (by decide) rfl ?_
          refine jn3_of (P := fun (x7_11 : Int32) (r1_12 : Row) (r2_13 : Row) => G l D X 11 (WA3 cy 24 24 6 b0 b1 b2) 1 6 (r0_3, r1_12, r2_13) 191 [(0, .int x0), (1, .int x1), (2, .ref b0), (3, .ref b1), (4, .ref b2), (5, .int x5_2), (7, .int x7_11)] []) E ?_ ?_
          · intro x7_11 r1_12 r2_13 E
            show G l D X 11 (WA3 cy 24 24 6 b0 b1 b2) 1 6 (r0_3, r1_12, r2_13) 191 [(0, .int x0), (1, .int x1), (2, .ref b0), (3, .ref b1), (4, .ref b2), (5, .int x5_2), (7, .int x7_11)] []
            refine g_goto (pc' := 194) O ⟨dL_spreads_191, rfl⟩ (tgt := 81) (by decide) ?_
            exact ih81 _ _ _ E
          · intro k191 hk191 E
            refine g_sub (lv' := [(0, .int x0), (1, .int x1), (2, .ref b0), (3, .ref b1), (4, .ref b2), (5, .int x5_2), (7, .int (0 : Int32)), (8, .int (0 : Int32))]) [2, 3, 4, 5, 6, 7, 1, 0] rfl ?_
            refine fx4_of (P := fun (x7_14 : Int32) (x8_15 : Int32) (r1_16 : Row) (r2_17 : Row) => G l D X 11 (WA3 cy 24 24 6 b0 b1 b2) 1 6 (r0_3, r1_16, r2_17) 92 [(0, .int x0), (1, .int x1), (2, .ref b0), (3, .ref b1), (4, .ref b2), (5, .int x5_2), (7, .int x7_14), (8, .int x8_15)] []) ?_ _ _ _ _ _ E
            intro self ih92 x7_14 x8_15 r1_16 r2_17 E
            show G l D X 11 (WA3 cy 24 24 6 b0 b1 b2) 1 6 (r0_3, r1_16, r2_17) 92 [(0, .int x0), (1, .int x1), (2, .ref b0), (3, .ref b1), (4, .ref b2), (5, .int x5_2), (7, .int x7_14), (8, .int x8_15)] []
            unfold L_L_spreads_92 at E
            refine g_iload (pc' := 94) O ⟨dL_spreads_92, rfl⟩ (q := 7) rfl ?_
            refine g_iload (pc' := 96) O ⟨dL_spreads_94, rfl⟩ (q := 5) rfl ?_
            refine g_icmp_ge (pc' := 99) O ⟨dL_spreads_96, rfl⟩ E (tgt := 191) (by decide) (fun E => ?_) (fun E => ?_)
            · refine g_sub (lv' := [(0, .int x0), (1, .int x1), (2, .ref b0), (3, .ref b1), (4, .ref b2), (5, .int x5_2), (7, .int x7_14)]) [0, 1, 2, 3, 4, 5, 6] rfl ?_
              exact hk191 _ _ _ E
            · refine g_iconst (pc' := 100) O ⟨dL_spreads_99, rfl⟩ (v := (0 : Int32)) rfl ?_
              refine g_istore (pc' := 102) O ⟨dL_spreads_100, rfl⟩ (lv' := [(9, .int (0 : Int32)), (0, .int x0), (1, .int x1), (2, .ref b0), (3, .ref b1), (4, .ref b2), (5, .int x5_2), (7, .int x7_14), (8, .int x8_15)]) (by decide) rfl ?_
              refine jn3_of (P := fun (x7_18 : Int32) (r1_19 : Row) (r2_20 : Row) => G l D X 11 (WA3 cy 24 24 6 b0 b1 b2) 1 6 (r0_3, r1_19, r2_20) 185 [(0, .int x0), (1, .int x1), (2, .ref b0), (3, .ref b1), (4, .ref b2), (5, .int x5_2), (7, .int x7_18), (8, .int x8_15)] []) E ?_ ?_
              · intro x7_18 r1_19 r2_20 E
                show G l D X 11 (WA3 cy 24 24 6 b0 b1 b2) 1 6 (r0_3, r1_19, r2_20) 185 [(0, .int x0), (1, .int x1), (2, .ref b0), (3, .ref b1), (4, .ref b2), (5, .int x5_2), (7, .int x7_18), (8, .int x8_15)] []
                refine g_iinc (pc' := 188) O ⟨dL_spreads_185, rfl⟩ (q := 7) (v := x8_15 + (1 : Int32)) (lv' := [(8, .int (x8_15 + (1 : Int32))), (0, .int x0), (1, .int x1), (2, .ref b0), (3, .ref b1), (4, .ref b2), (5, .int x5_2), (7, .int x7_18)]) rfl rfl (by decide) rfl ?_
                refine g_goto (pc' := 191) O ⟨dL_spreads_188, rfl⟩ (tgt := 92) (by decide) ?_
                refine g_sub (lv' := [(0, .int x0), (1, .int x1), (2, .ref b0), (3, .ref b1), (4, .ref b2), (5, .int x5_2), (7, .int x7_18), (8, .int (x8_15 + (1 : Int32)))]) [1, 2, 3, 4, 5, 6, 7, 0] rfl ?_
                exact ih92 _ _ _ _ E
              · intro k185 hk185 E
                refine g_sub (lv' := [(0, .int x0), (1, .int x1), (2, .ref b0), (3, .ref b1), (4, .ref b2), (5, .int x5_2), (7, .int x7_14), (8, .int x8_15), (9, .int (0 : Int32))]) [1, 2, 3, 4, 5, 6, 7, 8, 0] rfl ?_
                refine fx4_of (P := fun (x7_21 : Int32) (x9_22 : Int32) (r1_23 : Row) (r2_24 : Row) => G l D X 11 (WA3 cy 24 24 6 b0 b1 b2) 1 6 (r0_3, r1_23, r2_24) 102 [(0, .int x0), (1, .int x1), (2, .ref b0), (3, .ref b1), (4, .ref b2), (5, .int x5_2), (7, .int x7_21), (8, .int x8_15), (9, .int x9_22)] []) ?_ _ _ _ _ _ E
                intro self ih102 x7_21 x9_22 r1_23 r2_24 E
                show G l D X 11 (WA3 cy 24 24 6 b0 b1 b2) 1 6 (r0_3, r1_23, r2_24) 102 [(0, .int x0), (1, .int x1), (2, .ref b0), (3, .ref b1), (4, .ref b2), (5, .int x5_2), (7, .int x7_21), (8, .int x8_15), (9, .int x9_22)] []
                unfold L_L_spreads_102 at E
                refine g_iload (pc' := 104) O ⟨dL_spreads_102, rfl⟩ (q := 8) rfl ?_
                refine g_iload_n (pc' := 105) O ⟨dL_spreads_104, rfl⟩ (q := 0) rfl rfl ?_
                refine g_iload_n (pc' := 106) O ⟨dL_spreads_105, rfl⟩ (q := 1) rfl rfl ?_
                obtain ⟨r_25, c_26, E⟩ := bd_of E
                refine g_MSi (pc' := 109) O hN ⟨dL_spreads_106, rfl⟩ (y := yL_steps) (As := [.int x0, .int x1]) (st := [.int x9_22]) (put := (fun g => (r0_3, r1_23, r2_24))) sub_A3_A (t_L_steps l D cy hfl c_26) kw_880 kw_24 kw_878 kw_879 hd_L_steps ⟨Nat.le_of_ble_eq_true rfl, Nat.le_of_ble_eq_true rfl⟩ ⟨Nat.le_of_ble_eq_true rfl, Nat.le_of_ble_eq_true rfl⟩ rfl (Nat.le_of_ble_eq_true rfl) ?_
                show G l D X 11 (WA3 cy 24 24 6 b0 b1 b2) 1 6 (r0_3, r1_23, r2_24) 109 [(0, .int x0), (1, .int x1), (2, .ref b0), (3, .ref b1), (4, .ref b2), (5, .int x5_2), (7, .int x7_21), (8, .int x8_15), (9, .int x9_22)] [.int r_25, .int x9_22]
                refine g_icmp_ge (pc' := 112) O ⟨dL_spreads_109, rfl⟩ E (tgt := 185) (by decide) (fun E => ?_) (fun E => ?_)
                · refine g_sub (lv' := [(0, .int x0), (1, .int x1), (2, .ref b0), (3, .ref b1), (4, .ref b2), (5, .int x5_2), (7, .int x7_21), (8, .int x8_15)]) [0, 1, 2, 3, 4, 5, 6, 7] rfl ?_
                  exact hk185 _ _ _ E
                · refine g_aload_n (pc' := 113) O ⟨dL_spreads_112, rfl⟩ (q := 2) rfl rfl ?_
                  refine g_iload (pc' := 115) O ⟨dL_spreads_113, rfl⟩ (q := 7) rfl ?_
                  refine g_iald (pc' := 116) O ⟨dL_spreads_115, rfl⟩ zA3_0 E (fun E => ?_)
                  refine g_aload (pc' := 118) O ⟨dL_spreads_116, rfl⟩ (q := 4) rfl ?_
                  refine g_iload_n (pc' := 119) O ⟨dL_spreads_118, rfl⟩ (q := 1) rfl rfl ?_
                  obtain ⟨r_27, c_28, E⟩ := bd_of E
                  refine g_MSv (pc' := 122) O hN ⟨dL_spreads_119, rfl⟩ (y := yL_lays) (As := [.int (r0_3 x8_15.toNatClampNeg), .ref b2, .int x1]) (st := []) (put := (fun g => (r0_3, r1_23, g))) sub_A3_A2 (t_L_lays l D cy hfl b2 c_28) kw_883 kw_24 kw_881 kw_882 hd_L_lays ⟨Nat.le_of_ble_eq_true rfl, Nat.le_of_ble_eq_true rfl⟩ ⟨Nat.le_of_ble_eq_true rfl, Nat.le_of_ble_eq_true rfl⟩ rfl (Nat.le_of_ble_eq_true rfl) ?_
                  show G l D X 11 (WA3 cy 24 24 6 b0 b1 b2) 1 6 (r0_3, r1_23, r_27) 122 [(0, .int x0), (1, .int x1), (2, .ref b0), (3, .ref b1), (4, .ref b2), (5, .int x5_2), (7, .int x7_21), (8, .int x8_15), (9, .int x9_22)] []
                  refine g_iload_n (pc' := 123) O ⟨dL_spreads_122, rfl⟩ (q := 0) rfl rfl ?_
                  refine g_iload (pc' := 125) O ⟨dL_spreads_123, rfl⟩ (q := 8) rfl ?_
                  refine g_aload (pc' := 127) O ⟨dL_spreads_125, rfl⟩ (q := 4) rfl ?_
                  refine g_iload_n (pc' := 128) O ⟨dL_spreads_127, rfl⟩ (q := 1) rfl rfl ?_
                  obtain ⟨r_29, c_30, E⟩ := bd_of E
                  refine g_MSi (pc' := 131) O hN ⟨dL_spreads_128, rfl⟩ (y := yL_moves) (As := [.int x0, .int x9_22, .ref b2, .int x1]) (st := []) (put := (fun g => (r0_3, r1_23, g))) sub_A3_A2 (t_L_moves l D cy hfl b2 c_30) kw_886 kw_24 kw_884 kw_885 hd_L_moves ⟨Nat.le_of_ble_eq_true rfl, Nat.le_of_ble_eq_true rfl⟩ ⟨Nat.le_of_ble_eq_true rfl, Nat.le_of_ble_eq_true rfl⟩ rfl (Nat.le_of_ble_eq_true rfl) ?_
                  show G l D X 11 (WA3 cy 24 24 6 b0 b1 b2) 1 6 (r0_3, r1_23, r_29.2) 131 [(0, .int x0), (1, .int x1), (2, .ref b0), (3, .ref b1), (4, .ref b2), (5, .int x5_2), (7, .int x7_21), (8, .int x8_15), (9, .int x9_22)] [.int r_29.1]
                  refine jn1_of (P := fun (z_31 : Int32) => G l D X 11 (WA3 cy 24 24 6 b0 b1 b2) 1 6 (r0_3, r1_23, r_29.2) 151 [(0, .int x0), (1, .int x1), (2, .ref b0), (3, .ref b1), (4, .ref b2), (5, .int x5_2), (7, .int x7_21), (8, .int x8_15), (9, .int x9_22)] [.int z_31]) E ?_ ?_
                  · intro z_31 E
                    show G l D X 11 (WA3 cy 24 24 6 b0 b1 b2) 1 6 (r0_3, r1_23, r_29.2) 151 [(0, .int x0), (1, .int x1), (2, .ref b0), (3, .ref b1), (4, .ref b2), (5, .int x5_2), (7, .int x7_21), (8, .int x8_15), (9, .int x9_22)] [.int z_31]
                    refine g_istore (pc' := 153) O ⟨dL_spreads_151, rfl⟩ (lv' := [(10, .int z_31), (0, .int x0), (1, .int x1), (2, .ref b0), (3, .ref b1), (4, .ref b2), (5, .int x5_2), (7, .int x7_21), (8, .int x8_15), (9, .int x9_22)]) (by decide) rfl ?_
                    refine g_aload_n (pc' := 154) O ⟨dL_spreads_153, rfl⟩ (q := 4) rfl rfl ?_
                    refine g_iload (pc' := 156) O ⟨dL_spreads_154, rfl⟩ (q := 0) rfl ?_
                    refine g_iald (pc' := 157) O ⟨dL_spreads_156, rfl⟩ zA3_1 E (fun E => ?_)
                    refine g_aload_n (pc' := 158) O ⟨dL_spreads_157, rfl⟩ (q := 4) rfl rfl ?_
                    refine g_iload (pc' := 160) O ⟨dL_spreads_158, rfl⟩ (q := 8) rfl ?_
                    refine g_iald (pc' := 161) O ⟨dL_spreads_160, rfl⟩ zA3_1 E (fun E => ?_)
                    refine g_iconst (pc' := 162) O ⟨dL_spreads_161, rfl⟩ (v := (1 : Int32)) rfl ?_
                    refine g_iadd (pc' := 163) O ⟨dL_spreads_162, rfl⟩ ?_
                    refine g_icmp_le (pc' := 166) O ⟨dL_spreads_163, rfl⟩ E (tgt := 179) (by decide) (fun E => ?_) (fun E => ?_)
                    · refine g_iinc (pc' := 182) O ⟨dL_spreads_179, rfl⟩ (q := 9) (v := x9_22 + (1 : Int32)) (lv' := [(9, .int (x9_22 + (1 : Int32))), (10, .int z_31), (0, .int x0), (1, .int x1), (2, .ref b0), (3, .ref b1), (4, .ref b2), (5, .int x5_2), (7, .int x7_21), (8, .int x8_15)]) rfl rfl (by decide) rfl ?_
                      refine g_goto (pc' := 185) O ⟨dL_spreads_182, rfl⟩ (tgt := 102) (by decide) ?_
                      refine g_sub (lv' := [(0, .int x0), (1, .int x1), (2, .ref b0), (3, .ref b1), (4, .ref b2), (5, .int x5_2), (7, .int x7_21), (8, .int x8_15), (9, .int (x9_22 + (1 : Int32)))]) [2, 3, 4, 5, 6, 7, 8, 9, 0] rfl ?_
                      exact ih102 _ _ _ _ E
                    · refine g_aload_n (pc' := 167) O ⟨dL_spreads_166, rfl⟩ (q := 4) rfl rfl ?_
                      refine g_iload (pc' := 169) O ⟨dL_spreads_167, rfl⟩ (q := 0) rfl ?_
                      refine g_aload_n (pc' := 170) O ⟨dL_spreads_169, rfl⟩ (q := 4) rfl rfl ?_
                      refine g_iload (pc' := 172) O ⟨dL_spreads_170, rfl⟩ (q := 8) rfl ?_
                      refine g_iald (pc' := 173) O ⟨dL_spreads_172, rfl⟩ zA3_1 E (fun E => ?_)
                      refine g_iconst (pc' := 174) O ⟨dL_spreads_173, rfl⟩ (v := (1 : Int32)) rfl ?_
                      refine g_iadd (pc' := 175) O ⟨dL_spreads_174, rfl⟩ ?_
                      refine g_iast (pc' := 176) O ⟨dL_spreads_175, rfl⟩ zA3_1 zsA3_1 E (fun E => ?_)
                      refine g_nmr (Go := fun (r1_32 : Row) => G l D X 11 (WA3 cy 24 24 6 b0 b1 b2) 1 6 (r0_3, r1_32, r_29.2) 176 [(10, .int z_31), (0, .int x0), (1, .int x1), (2, .ref b0), (3, .ref b1), (4, .ref b2), (5, .int x5_2), (7, .int x7_21), (8, .int x8_15), (9, .int x9_22)] []) E (fun r1_32 E => ?_)
                      show G l D X 11 (WA3 cy 24 24 6 b0 b1 b2) 1 6 (r0_3, r1_32, r_29.2) 176 [(10, .int z_31), (0, .int x0), (1, .int x1), (2, .ref b0), (3, .ref b1), (4, .ref b2), (5, .int x5_2), (7, .int x7_21), (8, .int x8_15), (9, .int x9_22)] []
                      refine g_iconst (pc' := 177) O ⟨dL_spreads_176, rfl⟩ (v := (1 : Int32)) rfl ?_
                      refine g_istore (pc' := 179) O ⟨dL_spreads_177, rfl⟩ (lv' := [(7, .int (1 : Int32)), (10, .int z_31), (0, .int x0), (1, .int x1), (2, .ref b0), (3, .ref b1), (4, .ref b2), (5, .int x5_2), (8, .int x8_15), (9, .int x9_22)]) (by decide) rfl ?_
                      refine g_iinc (pc' := 182) O ⟨dL_spreads_179, rfl⟩ (q := 9) (v := x9_22 + (1 : Int32)) (lv' := [(9, .int (x9_22 + (1 : Int32))), (7, .int (1 : Int32)), (10, .int z_31), (0, .int x0), (1, .int x1), (2, .ref b0), (3, .ref b1), (4, .ref b2), (5, .int x5_2), (8, .int x8_15)]) rfl rfl (by decide) rfl ?_
                      refine g_goto (pc' := 185) O ⟨dL_spreads_182, rfl⟩ (tgt := 102) (by decide) ?_
                      refine g_sub (lv' := [(0, .int x0), (1, .int x1), (2, .ref b0), (3, .ref b1), (4, .ref b2), (5, .int x5_2), (7, .int (1 : Int32)), (8, .int x8_15), (9, .int (x9_22 + (1 : Int32)))]) [3, 4, 5, 6, 7, 8, 1, 9, 0] rfl ?_
                      exact ih102 _ _ _ _ E
                  · intro k151 hk151 E
                    refine g_if_eq (pc' := 134) O ⟨dL_spreads_131, rfl⟩ E (tgt := 149) (by decide) (fun E => ?_) (fun E => ?_)
                    · refine g_iload (pc' := 151) O ⟨dL_spreads_149, rfl⟩ (q := 7) rfl ?_
                      exact hk151 _ E
                    · refine g_aload (pc' := 136) O ⟨dL_spreads_134, rfl⟩ (q := 4) rfl ?_
                      refine g_iload_n (pc' := 137) O ⟨dL_spreads_136, rfl⟩ (q := 1) rfl rfl ?_
                      obtain ⟨r_33, c_34, E⟩ := bd_of E
                      refine g_MSi (pc' := 140) O hN ⟨dL_spreads_137, rfl⟩ (y := yL_code) (As := [.ref b2, .int x1]) (st := []) (put := (fun g => (r0_3, r1_23, g))) sub_A3_A2 (t_L_code l D cy hfl b2 c_34) kw_726 kw_24 kw_724 kw_725 hd_L_code ⟨Nat.le_of_ble_eq_true rfl, Nat.le_of_ble_eq_true rfl⟩ ⟨Nat.le_of_ble_eq_true rfl, Nat.le_of_ble_eq_true rfl⟩ rfl (Nat.le_of_ble_eq_true rfl) ?_
                      show G l D X 11 (WA3 cy 24 24 6 b0 b1 b2) 1 6 (r0_3, r1_23, r_29.2) 140 [(0, .int x0), (1, .int x1), (2, .ref b0), (3, .ref b1), (4, .ref b2), (5, .int x5_2), (7, .int x7_21), (8, .int x8_15), (9, .int x9_22)] [.int r_33]
                      refine g_aload_n (pc' := 141) O ⟨dL_spreads_140, rfl⟩ (q := 2) rfl rfl ?_
                      refine g_iload (pc' := 143) O ⟨dL_spreads_141, rfl⟩ (q := 5) rfl ?_
                      obtain ⟨r_35, c_36, E⟩ := bd_of E
                      refine g_MSi (pc' := 146) O hN ⟨dL_spreads_143, rfl⟩ (y := yL_placeOf) (As := [.int r_33, .ref b0, .int x5_2]) (st := []) (put := (fun g => (g, r1_23, r_29.2))) sub_A3_A0 (t_L_placeOf l D cy hfl b0 c_36) kw_892 kw_24 kw_890 kw_891 hd_L_placeOf ⟨Nat.le_of_ble_eq_true rfl, Nat.le_of_ble_eq_true rfl⟩ ⟨Nat.le_of_ble_eq_true rfl, Nat.le_of_ble_eq_true rfl⟩ rfl (Nat.le_of_ble_eq_true rfl) ?_
                      show G l D X 11 (WA3 cy 24 24 6 b0 b1 b2) 1 6 (r0_3, r1_23, r_29.2) 146 [(0, .int x0), (1, .int x1), (2, .ref b0), (3, .ref b1), (4, .ref b2), (5, .int x5_2), (7, .int x7_21), (8, .int x8_15), (9, .int x9_22)] [.int r_35]
                      refine g_goto (pc' := 149) O ⟨dL_spreads_146, rfl⟩ (tgt := 151) (by decide) ?_
                      exact hk151 _ E
    · intro k78 hk78 E
      refine g_sub (lv' := [(0, .int x0), (1, .int x1), (2, .ref b0), (3, .ref b1), (4, .ref b2), (5, .int (0 : Int32)), (6, .int (1 : Int32))]) [2, 3, 4, 5, 6, 1, 0] rfl ?_
      refine fx5_of (P := fun (x5_37 : Int32) (x6_38 : Int32) (r0_39 : Row) (r1_40 : Row) (r2_41 : Row) => G l D X 11 (WA3 cy 24 24 6 b0 b1 b2) 1 6 (r0_39, r1_40, r2_41) 34 [(0, .int x0), (1, .int x1), (2, .ref b0), (3, .ref b1), (4, .ref b2), (5, .int x5_37), (6, .int x6_38)] []) ?_ _ _ _ _ _ _ E
      intro self ih34 x5_37 x6_38 r0_39 r1_40 r2_41 E
      show G l D X 11 (WA3 cy 24 24 6 b0 b1 b2) 1 6 (r0_39, r1_40, r2_41) 34 [(0, .int x0), (1, .int x1), (2, .ref b0), (3, .ref b1), (4, .ref b2), (5, .int x5_37), (6, .int x6_38)] []
      unfold L_L_spreads_34 at E
      refine g_iload (pc' := 36) O ⟨dL_spreads_34, rfl⟩ (q := 6) rfl ?_
      refine g_if_eq (pc' := 39) O ⟨dL_spreads_36, rfl⟩ E (tgt := 78) (by decide) (fun E => ?_) (fun E => ?_)
      · refine g_sub (lv' := [(0, .int x0), (1, .int x1), (2, .ref b0), (3, .ref b1), (4, .ref b2), (5, .int x5_37)]) [0, 1, 2, 3, 4, 5] rfl ?_
        exact hk78 _ _ _ _ E
      · refine g_aload_n (pc' := 40) O ⟨dL_spreads_39, rfl⟩ (q := 2) rfl rfl ?_
        refine g_iload (pc' := 42) O ⟨dL_spreads_40, rfl⟩ (q := 5) rfl ?_
        refine g_aload (pc' := 44) O ⟨dL_spreads_42, rfl⟩ (q := 4) rfl ?_
        refine g_iload_n (pc' := 45) O ⟨dL_spreads_44, rfl⟩ (q := 1) rfl rfl ?_
        obtain ⟨r_42, c_43, E⟩ := bd_of E
        refine g_MSi (pc' := 48) O hN ⟨dL_spreads_45, rfl⟩ (y := yL_code) (As := [.ref b2, .int x1]) (st := [.int x5_37, .ref b0]) (put := (fun g => (r0_39, r1_40, g))) sub_A3_A2 (t_L_code l D cy hfl b2 c_43) kw_726 kw_24 kw_724 kw_725 hd_L_code ⟨Nat.le_of_ble_eq_true rfl, Nat.le_of_ble_eq_true rfl⟩ ⟨Nat.le_of_ble_eq_true rfl, Nat.le_of_ble_eq_true rfl⟩ rfl (Nat.le_of_ble_eq_true rfl) ?_
        show G l D X 11 (WA3 cy 24 24 6 b0 b1 b2) 1 6 (r0_39, r1_40, r2_41) 48 [(0, .int x0), (1, .int x1), (2, .ref b0), (3, .ref b1), (4, .ref b2), (5, .int x5_37), (6, .int x6_38)] [.int r_42, .int x5_37, .ref b0]
        refine g_iast (pc' := 49) O ⟨dL_spreads_48, rfl⟩ zA3_0 zsA3_0 E (fun E => ?_)
        refine g_nmr (Go := fun (r0_44 : Row) => G l D X 11 (WA3 cy 24 24 6 b0 b1 b2) 1 6 (r0_44, r1_40, r2_41) 49 [(0, .int x0), (1, .int x1), (2, .ref b0), (3, .ref b1), (4, .ref b2), (5, .int x5_37), (6, .int x6_38)] []) E (fun r0_44 E => ?_)
        show G l D X 11 (WA3 cy 24 24 6 b0 b1 b2) 1 6 (r0_44, r1_40, r2_41) 49 [(0, .int x0), (1, .int x1), (2, .ref b0), (3, .ref b1), (4, .ref b2), (5, .int x5_37), (6, .int x6_38)] []
        refine g_aload_n (pc' := 50) O ⟨dL_spreads_49, rfl⟩ (q := 3) rfl rfl ?_
        refine g_iload (pc' := 52) O ⟨dL_spreads_50, rfl⟩ (q := 5) rfl ?_
        refine g_iload (pc' := 54) O ⟨dL_spreads_52, rfl⟩ (q := 5) rfl ?_
        refine jn1_of (P := fun (z_45 : Int32) => G l D X 11 (WA3 cy 24 24 6 b0 b1 b2) 1 6 (r0_44, r1_40, r2_41) 63 [(0, .int x0), (1, .int x1), (2, .ref b0), (3, .ref b1), (4, .ref b2), (5, .int x5_37)] [.int z_45, .int x5_37, .ref b1]) E ?_ ?_
        · intro z_45 E
          show G l D X 11 (WA3 cy 24 24 6 b0 b1 b2) 1 6 (r0_44, r1_40, r2_41) 63 [(0, .int x0), (1, .int x1), (2, .ref b0), (3, .ref b1), (4, .ref b2), (5, .int x5_37)] [.int z_45, .int x5_37, .ref b1]
          refine g_iast (pc' := 64) O ⟨dL_spreads_63, rfl⟩ zA3_1 zsA3_1 E (fun E => ?_)
          refine g_nmr (Go := fun (r1_46 : Row) => G l D X 11 (WA3 cy 24 24 6 b0 b1 b2) 1 6 (r0_44, r1_46, r2_41) 64 [(0, .int x0), (1, .int x1), (2, .ref b0), (3, .ref b1), (4, .ref b2), (5, .int x5_37)] []) E (fun r1_46 E => ?_)
          show G l D X 11 (WA3 cy 24 24 6 b0 b1 b2) 1 6 (r0_44, r1_46, r2_41) 64 [(0, .int x0), (1, .int x1), (2, .ref b0), (3, .ref b1), (4, .ref b2), (5, .int x5_37)] []
          refine g_iinc (pc' := 67) O ⟨dL_spreads_64, rfl⟩ (q := 5) (v := x5_37 + (1 : Int32)) (lv' := [(5, .int (x5_37 + (1 : Int32))), (0, .int x0), (1, .int x1), (2, .ref b0), (3, .ref b1), (4, .ref b2)]) rfl rfl (by decide) rfl ?_
          refine g_aload (pc' := 69) O ⟨dL_spreads_67, rfl⟩ (q := 5) rfl ?_
          refine g_iload_n (pc' := 70) O ⟨dL_spreads_69, rfl⟩ (q := 2) rfl rfl ?_
          obtain ⟨r_47, c_48, E⟩ := bd_of E
          refine g_MSi (pc' := 73) O hN ⟨dL_spreads_70, rfl⟩ (y := yL_next) (As := [.ref b2, .int x1]) (st := []) (put := (fun g => (r0_44, r1_46, g))) sub_A3_A2 (t_L_next l D cy hfl b2 c_48) kw_553 kw_24 kw_551 kw_552 hd_L_next ⟨Nat.le_of_ble_eq_true rfl, Nat.le_of_ble_eq_true rfl⟩ ⟨Nat.le_of_ble_eq_true rfl, Nat.le_of_ble_eq_true rfl⟩ rfl (Nat.le_of_ble_eq_true rfl) ?_
          show G l D X 11 (WA3 cy 24 24 6 b0 b1 b2) 1 6 (r0_44, r1_46, r_47.2) 73 [(5, .int (x5_37 + (1 : Int32))), (0, .int x0), (1, .int x1), (2, .ref b0), (3, .ref b1), (4, .ref b2)] [.int r_47.1]
          refine g_istore (pc' := 75) O ⟨dL_spreads_73, rfl⟩ (lv' := [(6, .int r_47.1), (5, .int (x5_37 + (1 : Int32))), (0, .int x0), (1, .int x1), (2, .ref b0), (3, .ref b1), (4, .ref b2)]) (by decide) rfl ?_
          refine g_goto (pc' := 78) O ⟨dL_spreads_75, rfl⟩ (tgt := 34) (by decide) ?_
          refine g_sub (lv' := [(0, .int x0), (1, .int x1), (2, .ref b0), (3, .ref b1), (4, .ref b2), (5, .int (x5_37 + (1 : Int32))), (6, .int r_47.1)]) [2, 3, 4, 5, 6, 1, 0] rfl ?_
          exact ih34 _ _ _ _ _ E
        · intro k63 hk63 E
          refine g_if_ne (pc' := 57) O ⟨dL_spreads_54, rfl⟩ E (tgt := 61) (by decide) (fun E => ?_) (fun E => ?_)
          · refine g_bipush (pc' := 63) O ⟨dL_spreads_61, rfl⟩ (v := (99 : Int32)) rfl ?_
            refine g_sub (lv' := [(0, .int x0), (1, .int x1), (2, .ref b0), (3, .ref b1), (4, .ref b2), (5, .int x5_37)]) [0, 1, 2, 3, 4, 5] rfl ?_
            exact hk63 _ E
          · refine g_iconst (pc' := 58) O ⟨dL_spreads_57, rfl⟩ (v := (0 : Int32)) rfl ?_
            refine g_goto (pc' := 61) O ⟨dL_spreads_58, rfl⟩ (tgt := 63) (by decide) ?_
            refine g_sub (lv' := [(0, .int x0), (1, .int x1), (2, .ref b0), (3, .ref b1), (4, .ref b2), (5, .int x5_37)]) [0, 1, 2, 3, 4, 5] rfl ?_
            exact hk63 _ E
  · intro k28 hk28 E
    refine g_sub (lv' := [(0, .int x0), (1, .int x1), (2, .ref b0), (3, .ref b1), (4, .ref b2), (5, .int (0 : Int32))]) [2, 3, 4, 5, 1, 0] rfl ?_
    refine fx2_of (P := fun (x5_49 : Int32) (r2_50 : Row) => G l D X 11 (WA3 cy 24 24 6 b0 b1 b2) 1 6 (r0, r1, r2_50) 9 [(0, .int x0), (1, .int x1), (2, .ref b0), (3, .ref b1), (4, .ref b2), (5, .int x5_49)] []) ?_ _ _ _ E
    intro self ih9 x5_49 r2_50 E
    show G l D X 11 (WA3 cy 24 24 6 b0 b1 b2) 1 6 (r0, r1, r2_50) 9 [(0, .int x0), (1, .int x1), (2, .ref b0), (3, .ref b1), (4, .ref b2), (5, .int x5_49)] []
    unfold L_L_spreads_9 at E
    refine g_iload (pc' := 11) O ⟨dL_spreads_9, rfl⟩ (q := 5) rfl ?_
    refine g_iload_n (pc' := 12) O ⟨dL_spreads_11, rfl⟩ (q := 1) rfl rfl ?_
    refine g_icmp_ge (pc' := 15) O ⟨dL_spreads_12, rfl⟩ E (tgt := 28) (by decide) (fun E => ?_) (fun E => ?_)
    · refine g_sub (lv' := [(0, .int x0), (1, .int x1), (2, .ref b0), (3, .ref b1), (4, .ref b2)]) [0, 1, 2, 3, 4] rfl ?_
      exact hk28 _ E
    · refine g_aload (pc' := 17) O ⟨dL_spreads_15, rfl⟩ (q := 4) rfl ?_
      refine g_iload (pc' := 19) O ⟨dL_spreads_17, rfl⟩ (q := 5) rfl ?_
      refine g_iload (pc' := 21) O ⟨dL_spreads_19, rfl⟩ (q := 5) rfl ?_
      refine g_iast (pc' := 22) O ⟨dL_spreads_21, rfl⟩ zA3_2 zsA3_2 E (fun E => ?_)
      refine g_nmr (Go := fun (r2_51 : Row) => G l D X 11 (WA3 cy 24 24 6 b0 b1 b2) 1 6 (r0, r1, r2_51) 22 [(0, .int x0), (1, .int x1), (2, .ref b0), (3, .ref b1), (4, .ref b2), (5, .int x5_49)] []) E (fun r2_51 E => ?_)
      show G l D X 11 (WA3 cy 24 24 6 b0 b1 b2) 1 6 (r0, r1, r2_51) 22 [(0, .int x0), (1, .int x1), (2, .ref b0), (3, .ref b1), (4, .ref b2), (5, .int x5_49)] []
      refine g_iinc (pc' := 25) O ⟨dL_spreads_22, rfl⟩ (q := 5) (v := x5_49 + (1 : Int32)) (lv' := [(5, .int (x5_49 + (1 : Int32))), (0, .int x0), (1, .int x1), (2, .ref b0), (3, .ref b1), (4, .ref b2)]) rfl rfl (by decide) rfl ?_
      refine g_goto (pc' := 28) O ⟨dL_spreads_25, rfl⟩ (tgt := 9) (by decide) ?_
      refine g_sub (lv' := [(0, .int x0), (1, .int x1), (2, .ref b0), (3, .ref b1), (4, .ref b2), (5, .int (x5_49 + (1 : Int32)))]) [1, 2, 3, 4, 5, 0] rfl ?_
      exact ih9 _ _ E
