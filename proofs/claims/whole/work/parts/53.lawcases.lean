/-! THE LAW'S CASES -/
set_option maxRecDepth 100000 in
set_option maxHeartbeats 4000000 in
theorem tc_20 (l : Launch) (D : va_G) (ad : Nat → Nat) (cy : Nat → ClassId) (hfl : l.stackTraces = false) {X : Cx} {R : Room} {b L : Nat} {xs : Nat → Int32} (O : Ok l D cy X cL_law RL 8 R) (hN : NCX X) (hX : SX X b L xs) (hRf : 300 ≤ R.frames ∧ 9000 ≤ R.locals) {k0 n0 : Nat} (hk : k0 + 8 ≤ R.cells ∧ n0 + 48 ≤ R.slots) {i : Int32} {s : LWS} {kont : LWS → Option Unit} {o : Unit} (E : lc_20 L xs i s kont = some o) (hko : ∀ s1, kont s1 = some o → G l D X 8 (LW ad cy) (k0 + 8) (n0 + 48) s1 1943 [(0, .ref b), (1, .ref (ad 0)), (2, .ref (ad 35)), (3, .ref (ad 54)), (4, .int i)] []) : G l D X 8 (LW ad cy) k0 n0 s 1031 [(0, .ref b), (1, .ref (ad 0)), (2, .ref (ad 35)), (3, .ref (ad 54)), (4, .int i)] [] := by
  obtain ⟨hk1, hk2⟩ := hk
  unfold lc_20 at E
  refine g_aload_n (pc' := 1032) O ⟨dL_law_1031, rfl⟩ (q := 1) rfl rfl ?_
  refine g_aload_n (pc' := 1033) O ⟨dL_law_1032, rfl⟩ (q := 0) rfl rfl ?_
  refine g_iload (pc' := 1035) O ⟨dL_law_1033, rfl⟩ (q := 4) rfl ?_
  refine g_iconst (pc' := 1036) O ⟨dL_law_1035, rfl⟩ (v := (1 : Int32)) rfl ?_
  refine g_iadd (pc' := 1037) O ⟨dL_law_1036, rfl⟩ ?_
  refine g_sld (pc' := 1038) O ⟨dL_law_1037, rfl⟩ hX E (fun E => ?_)
  refine g_aload_n (pc' := 1039) O ⟨dL_law_1038, rfl⟩ (q := 3) rfl rfl ?_
  obtain ⟨r_1, c_2, E⟩ := bd_of E
  refine g_H (pc' := 1042) O hN ⟨dL_law_1039, rfl⟩ (y := yL_merges) (As := [.ref (ad 0), .int (xs (i + (1 : Int32)).toNatClampNeg), .ref (ad 54)]) (st := []) (th_merges l D ad cy hfl (s := s) c_2) kw_890 kw_59 kw_888 kw_889 hd_L_merges ⟨Nat.le_trans (Nat.le_of_ble_eq_true rfl) hRf.1, Nat.le_trans (Nat.le_of_ble_eq_true rfl) hRf.2⟩ ⟨by omega, by omega⟩ rfl (Nat.le_of_ble_eq_true rfl) ?_
  refine g_istore (pc' := 1044) O ⟨dL_law_1042, rfl⟩ (lv' := [(5, .int r_1.1), (0, .ref b), (1, .ref (ad 0)), (2, .ref (ad 35)), (3, .ref (ad 54)), (4, .int i)]) (by decide) rfl ?_
  refine g_aload_n (pc' := 1045) O ⟨dL_law_1044, rfl⟩ (q := 3) rfl rfl ?_
  refine g_aload_n (pc' := 1046) O ⟨dL_law_1045, rfl⟩ (q := 1) rfl rfl ?_
  refine g_iload (pc' := 1048) O ⟨dL_law_1046, rfl⟩ (q := 5) rfl ?_
  refine g_iconst (pc' := 1049) O ⟨dL_law_1048, rfl⟩ (v := (1 : Int32)) rfl ?_
  refine g_iadd (pc' := 1050) O ⟨dL_law_1049, rfl⟩ ?_
  refine g_sld (pc' := 1051) O ⟨dL_law_1050, rfl⟩ hX E (fun E => ?_)
  obtain ⟨r_3, c_4, E⟩ := bd_of E
  refine g_Ui (pc' := 1054) O ⟨dL_law_1051, rfl⟩ (y := yX11_merges) (As := [.int (xs (i + (1 : Int32)).toNatClampNeg)]) (st := []) (subM ad cy r_1.2) (t_X11_merges l D (fun k => ad (35 + k)) cy (h := r_1.2.2.1) c_4) kw_1340 kw_70 kw_1337 kw_1338 kw_1339 rfl (wL_35 ad cy r_1.2) hd_X11_merges ⟨Nat.le_trans (Nat.le_of_ble_eq_true rfl) hRf.1, Nat.le_trans (Nat.le_of_ble_eq_true rfl) hRf.2⟩ ⟨by omega, by omega⟩ rfl (Nat.le_of_ble_eq_true rfl) ?_
  refine g_nmh E (fun s_5 E => ?_)
  refine g_istore (pc' := 1056) O ⟨dL_law_1054, rfl⟩ (lv' := [(6, .int r_3.1), (5, .int r_1.1), (0, .ref b), (1, .ref (ad 0)), (2, .ref (ad 35)), (3, .ref (ad 54)), (4, .int i)]) (by decide) rfl ?_
  refine g_aload_n (pc' := 1057) O ⟨dL_law_1056, rfl⟩ (q := 4) rfl rfl ?_
  obtain ⟨r_6, c_7, E⟩ := bd_of E
  refine g_Ui (pc' := 1060) O ⟨dL_law_1057, rfl⟩ (y := yX11_thrown) (As := []) (st := []) (subM ad cy s_5) (t_X11_thrown l D (fun k => ad (35 + k)) cy (h := s_5.2.1) c_7) kw_1160 kw_70 kw_1157 kw_1158 kw_1159 rfl (wL_35 ad cy s_5) hd_X11_thrown ⟨Nat.le_trans (Nat.le_of_ble_eq_true rfl) hRf.1, Nat.le_trans (Nat.le_of_ble_eq_true rfl) hRf.2⟩ ⟨by omega, by omega⟩ rfl (Nat.le_of_ble_eq_true rfl) ?_
  refine g_nmh E (fun s_8 E => ?_)
  refine g_iload (pc' := 1062) O ⟨dL_law_1060, rfl⟩ (q := 1) rfl ?_
  refine g_icmp_eq (pc' := 1065) O ⟨dL_law_1062, rfl⟩ E (tgt := 1067) (by decide) (fun E => ?_) (fun E => ?_)
  · refine g_iload (pc' := 1069) O ⟨dL_law_1067, rfl⟩ (q := 1) rfl ?_
    refine jn0_of (P := G l D X 8 (LW ad cy) (k0 + 1) (n0 + 6) s_8 1091 [(0, .ref b), (1, .ref (ad 0)), (2, .ref (ad 35)), (3, .ref (ad 54)), (4, .int i)] []) E ?_ ?_
    · intro E
      show G l D X 8 (LW ad cy) (k0 + 1) (n0 + 6) s_8 1091 [(0, .ref b), (1, .ref (ad 0)), (2, .ref (ad 35)), (3, .ref (ad 54)), (4, .int i)] []
      refine g_goto (pc' := 1094) O ⟨dL_law_1091, rfl⟩ (tgt := 1943) (by decide) ?_
      exact g_widen (by omega) (by omega) (hko _ E)
    · intro k1091 hk1091 E
      refine g_if_ne (pc' := 1072) O ⟨dL_law_1069, rfl⟩ E (tgt := 1091) (by decide) (fun E => ?_) (fun E => ?_)
      · refine g_sub (lv' := [(0, .ref b), (1, .ref (ad 0)), (2, .ref (ad 35)), (3, .ref (ad 54)), (4, .int i)]) [2, 3, 4, 5, 6] rfl ?_
        exact hk1091 E
      · refine g_aload_n (pc' := 1073) O ⟨dL_law_1072, rfl⟩ (q := 5) rfl rfl ?_
        refine g_iconst (pc' := 1074) O ⟨dL_law_1073, rfl⟩ (v := (0 : Int32)) rfl ?_
        refine g_lald (pc' := 1075) O ⟨dL_law_1074, rfl⟩ (wL_54 ad cy s_8) E (fun E => ?_)
        refine g_iload (pc' := 1077) O ⟨dL_law_1075, rfl⟩ (q := 0) rfl ?_
        refine jn1_of (P := fun (z_9 : Int64) => G l D X 8 (LW ad cy) (k0 + 1) (n0 + 6) s_8 1085 [(0, .ref b), (1, .ref (ad 0)), (2, .ref (ad 35)), (3, .ref (ad 54)), (4, .int i)] [.long z_9, .long (s_8.2.2 (0 : Int32).toNatClampNeg)]) E ?_ ?_
        · intro z_9 E
          show G l D X 8 (LW ad cy) (k0 + 1) (n0 + 6) s_8 1085 [(0, .ref b), (1, .ref (ad 0)), (2, .ref (ad 35)), (3, .ref (ad 54)), (4, .int i)] [.long z_9, .long (s_8.2.2 (0 : Int32).toNatClampNeg)]
          refine g_lcmp (pc' := 1086) O ⟨dL_law_1085, rfl⟩ ?_
          refine g_if_eq (pc' := 1089) O ⟨dL_law_1086, rfl⟩ E (tgt := 1091) (by decide) (fun E => ?_) (fun E => ?_)
          · exact hk1091 E
          · refine g_iconst (pc' := 1090) O ⟨dL_law_1089, rfl⟩ (v := (0 : Int32)) rfl ?_
            cases E
        · intro k1085 hk1085 E
          refine g_if_eq (pc' := 1080) O ⟨dL_law_1077, rfl⟩ E (tgt := 1084) (by decide) (fun E => ?_) (fun E => ?_)
          · refine g_lconst (pc' := 1085) O ⟨dL_law_1084, rfl⟩ (v := (0 : Int64)) rfl ?_
            refine g_sub (lv' := [(0, .ref b), (1, .ref (ad 0)), (2, .ref (ad 35)), (3, .ref (ad 54)), (4, .int i)]) [2, 3, 4, 5, 6] rfl ?_
            exact hk1085 _ E
          · refine g_lconst (pc' := 1081) O ⟨dL_law_1080, rfl⟩ (v := (1 : Int64)) rfl ?_
            refine g_goto (pc' := 1084) O ⟨dL_law_1081, rfl⟩ (tgt := 1085) (by decide) ?_
            refine g_sub (lv' := [(0, .ref b), (1, .ref (ad 0)), (2, .ref (ad 35)), (3, .ref (ad 54)), (4, .int i)]) [2, 3, 4, 5, 6] rfl ?_
            exact hk1085 _ E
  · refine g_iconst (pc' := 1066) O ⟨dL_law_1065, rfl⟩ (v := (0 : Int32)) rfl ?_
    cases E
set_option maxRecDepth 100000 in
set_option maxHeartbeats 4000000 in
theorem tc_21 (l : Launch) (D : va_G) (ad : Nat → Nat) (cy : Nat → ClassId) (hfl : l.stackTraces = false) {X : Cx} {R : Room} {b L : Nat} {xs : Nat → Int32} (O : Ok l D cy X cL_law RL 8 R) (hN : NCX X) (hX : SX X b L xs) (hRf : 300 ≤ R.frames ∧ 9000 ≤ R.locals) {k0 n0 : Nat} (hk : k0 + 8 ≤ R.cells ∧ n0 + 48 ≤ R.slots) {i : Int32} {s : LWS} {kont : LWS → Option Unit} {o : Unit} (E : lc_21 L xs i s kont = some o) (hko : ∀ s1, kont s1 = some o → G l D X 8 (LW ad cy) (k0 + 8) (n0 + 48) s1 1943 [(0, .ref b), (1, .ref (ad 0)), (2, .ref (ad 35)), (3, .ref (ad 54)), (4, .int i)] []) : G l D X 8 (LW ad cy) k0 n0 s 1094 [(0, .ref b), (1, .ref (ad 0)), (2, .ref (ad 35)), (3, .ref (ad 54)), (4, .int i)] [] := by
  obtain ⟨hk1, hk2⟩ := hk
  unfold lc_21 at E
  refine g_aload_n (pc' := 1095) O ⟨dL_law_1094, rfl⟩ (q := 1) rfl rfl ?_
  refine g_aload_n (pc' := 1096) O ⟨dL_law_1095, rfl⟩ (q := 0) rfl rfl ?_
  refine g_iload (pc' := 1098) O ⟨dL_law_1096, rfl⟩ (q := 4) rfl ?_
  refine g_iconst (pc' := 1099) O ⟨dL_law_1098, rfl⟩ (v := (1 : Int32)) rfl ?_
  refine g_iadd (pc' := 1100) O ⟨dL_law_1099, rfl⟩ ?_
  refine g_sld (pc' := 1101) O ⟨dL_law_1100, rfl⟩ hX E (fun E => ?_)
  refine g_aload_n (pc' := 1102) O ⟨dL_law_1101, rfl⟩ (q := 3) rfl rfl ?_
  obtain ⟨r_1, c_2, E⟩ := bd_of E
  refine g_H (pc' := 1105) O hN ⟨dL_law_1102, rfl⟩ (y := yL_chooses) (As := [.ref (ad 0), .int (xs (i + (1 : Int32)).toNatClampNeg), .ref (ad 54)]) (st := []) (th_chooses l D ad cy hfl (s := s) c_2) kw_902 kw_59 kw_900 kw_901 hd_L_chooses ⟨Nat.le_trans (Nat.le_of_ble_eq_true rfl) hRf.1, Nat.le_trans (Nat.le_of_ble_eq_true rfl) hRf.2⟩ ⟨by omega, by omega⟩ rfl (Nat.le_of_ble_eq_true rfl) ?_
  refine g_istore (pc' := 1107) O ⟨dL_law_1105, rfl⟩ (lv' := [(5, .int r_1.1), (0, .ref b), (1, .ref (ad 0)), (2, .ref (ad 35)), (3, .ref (ad 54)), (4, .int i)]) (by decide) rfl ?_
  refine g_aload_n (pc' := 1108) O ⟨dL_law_1107, rfl⟩ (q := 3) rfl rfl ?_
  refine g_aload_n (pc' := 1109) O ⟨dL_law_1108, rfl⟩ (q := 1) rfl rfl ?_
  refine g_iload (pc' := 1111) O ⟨dL_law_1109, rfl⟩ (q := 5) rfl ?_
  refine g_iconst (pc' := 1112) O ⟨dL_law_1111, rfl⟩ (v := (1 : Int32)) rfl ?_
  refine g_iadd (pc' := 1113) O ⟨dL_law_1112, rfl⟩ ?_
  refine g_sld (pc' := 1114) O ⟨dL_law_1113, rfl⟩ hX E (fun E => ?_)
  obtain ⟨r_3, c_4, E⟩ := bd_of E
  refine g_Ui (pc' := 1117) O ⟨dL_law_1114, rfl⟩ (y := yX11_chooses) (As := [.int (xs (i + (1 : Int32)).toNatClampNeg)]) (st := []) (subM ad cy r_1.2) (t_X11_chooses l D (fun k => ad (35 + k)) cy (h := r_1.2.2.1) c_4) kw_1344 kw_70 kw_1341 kw_1342 kw_1343 rfl (wL_35 ad cy r_1.2) hd_X11_chooses ⟨Nat.le_trans (Nat.le_of_ble_eq_true rfl) hRf.1, Nat.le_trans (Nat.le_of_ble_eq_true rfl) hRf.2⟩ ⟨by omega, by omega⟩ rfl (Nat.le_of_ble_eq_true rfl) ?_
  refine g_nmh E (fun s_5 E => ?_)
  refine g_istore (pc' := 1119) O ⟨dL_law_1117, rfl⟩ (lv' := [(6, .int r_3.1), (5, .int r_1.1), (0, .ref b), (1, .ref (ad 0)), (2, .ref (ad 35)), (3, .ref (ad 54)), (4, .int i)]) (by decide) rfl ?_
  refine g_aload_n (pc' := 1120) O ⟨dL_law_1119, rfl⟩ (q := 4) rfl rfl ?_
  obtain ⟨r_6, c_7, E⟩ := bd_of E
  refine g_Ui (pc' := 1123) O ⟨dL_law_1120, rfl⟩ (y := yX11_thrown) (As := []) (st := []) (subM ad cy s_5) (t_X11_thrown l D (fun k => ad (35 + k)) cy (h := s_5.2.1) c_7) kw_1160 kw_70 kw_1157 kw_1158 kw_1159 rfl (wL_35 ad cy s_5) hd_X11_thrown ⟨Nat.le_trans (Nat.le_of_ble_eq_true rfl) hRf.1, Nat.le_trans (Nat.le_of_ble_eq_true rfl) hRf.2⟩ ⟨by omega, by omega⟩ rfl (Nat.le_of_ble_eq_true rfl) ?_
  refine g_nmh E (fun s_8 E => ?_)
  refine g_iload (pc' := 1125) O ⟨dL_law_1123, rfl⟩ (q := 1) rfl ?_
  refine g_icmp_eq (pc' := 1128) O ⟨dL_law_1125, rfl⟩ E (tgt := 1130) (by decide) (fun E => ?_) (fun E => ?_)
  · refine g_iload (pc' := 1132) O ⟨dL_law_1130, rfl⟩ (q := 1) rfl ?_
    refine jn0_of (P := G l D X 8 (LW ad cy) (k0 + 1) (n0 + 6) s_8 1154 [(0, .ref b), (1, .ref (ad 0)), (2, .ref (ad 35)), (3, .ref (ad 54)), (4, .int i)] []) E ?_ ?_
    · intro E
      show G l D X 8 (LW ad cy) (k0 + 1) (n0 + 6) s_8 1154 [(0, .ref b), (1, .ref (ad 0)), (2, .ref (ad 35)), (3, .ref (ad 54)), (4, .int i)] []
      refine g_goto (pc' := 1157) O ⟨dL_law_1154, rfl⟩ (tgt := 1943) (by decide) ?_
      exact g_widen (by omega) (by omega) (hko _ E)
    · intro k1154 hk1154 E
      refine g_if_ne (pc' := 1135) O ⟨dL_law_1132, rfl⟩ E (tgt := 1154) (by decide) (fun E => ?_) (fun E => ?_)
      · refine g_sub (lv' := [(0, .ref b), (1, .ref (ad 0)), (2, .ref (ad 35)), (3, .ref (ad 54)), (4, .int i)]) [2, 3, 4, 5, 6] rfl ?_
        exact hk1154 E
      · refine g_aload_n (pc' := 1136) O ⟨dL_law_1135, rfl⟩ (q := 5) rfl rfl ?_
        refine g_iconst (pc' := 1137) O ⟨dL_law_1136, rfl⟩ (v := (0 : Int32)) rfl ?_
        refine g_lald (pc' := 1138) O ⟨dL_law_1137, rfl⟩ (wL_54 ad cy s_8) E (fun E => ?_)
        refine g_iload (pc' := 1140) O ⟨dL_law_1138, rfl⟩ (q := 0) rfl ?_
        refine jn1_of (P := fun (z_9 : Int64) => G l D X 8 (LW ad cy) (k0 + 1) (n0 + 6) s_8 1148 [(0, .ref b), (1, .ref (ad 0)), (2, .ref (ad 35)), (3, .ref (ad 54)), (4, .int i)] [.long z_9, .long (s_8.2.2 (0 : Int32).toNatClampNeg)]) E ?_ ?_
        · intro z_9 E
          show G l D X 8 (LW ad cy) (k0 + 1) (n0 + 6) s_8 1148 [(0, .ref b), (1, .ref (ad 0)), (2, .ref (ad 35)), (3, .ref (ad 54)), (4, .int i)] [.long z_9, .long (s_8.2.2 (0 : Int32).toNatClampNeg)]
          refine g_lcmp (pc' := 1149) O ⟨dL_law_1148, rfl⟩ ?_
          refine g_if_eq (pc' := 1152) O ⟨dL_law_1149, rfl⟩ E (tgt := 1154) (by decide) (fun E => ?_) (fun E => ?_)
          · exact hk1154 E
          · refine g_iconst (pc' := 1153) O ⟨dL_law_1152, rfl⟩ (v := (0 : Int32)) rfl ?_
            cases E
        · intro k1148 hk1148 E
          refine g_if_eq (pc' := 1143) O ⟨dL_law_1140, rfl⟩ E (tgt := 1147) (by decide) (fun E => ?_) (fun E => ?_)
          · refine g_lconst (pc' := 1148) O ⟨dL_law_1147, rfl⟩ (v := (0 : Int64)) rfl ?_
            refine g_sub (lv' := [(0, .ref b), (1, .ref (ad 0)), (2, .ref (ad 35)), (3, .ref (ad 54)), (4, .int i)]) [2, 3, 4, 5, 6] rfl ?_
            exact hk1148 _ E
          · refine g_lconst (pc' := 1144) O ⟨dL_law_1143, rfl⟩ (v := (1 : Int64)) rfl ?_
            refine g_goto (pc' := 1147) O ⟨dL_law_1144, rfl⟩ (tgt := 1148) (by decide) ?_
            refine g_sub (lv' := [(0, .ref b), (1, .ref (ad 0)), (2, .ref (ad 35)), (3, .ref (ad 54)), (4, .int i)]) [2, 3, 4, 5, 6] rfl ?_
            exact hk1148 _ E
  · refine g_iconst (pc' := 1129) O ⟨dL_law_1128, rfl⟩ (v := (0 : Int32)) rfl ?_
    cases E
set_option maxRecDepth 100000 in
set_option maxHeartbeats 4000000 in
theorem tc_22 (l : Launch) (D : va_G) (ad : Nat → Nat) (cy : Nat → ClassId) (hfl : l.stackTraces = false) {X : Cx} {R : Room} {b L : Nat} {xs : Nat → Int32} (O : Ok l D cy X cL_law RL 8 R) (hN : NCX X) (hX : SX X b L xs) (hRf : 300 ≤ R.frames ∧ 9000 ≤ R.locals) {k0 n0 : Nat} (hk : k0 + 8 ≤ R.cells ∧ n0 + 48 ≤ R.slots) {i : Int32} {s : LWS} {kont : LWS → Option Unit} {o : Unit} (E : lc_22 L xs i s kont = some o) (hko : ∀ s1, kont s1 = some o → G l D X 8 (LW ad cy) (k0 + 8) (n0 + 48) s1 1943 [(0, .ref b), (1, .ref (ad 0)), (2, .ref (ad 35)), (3, .ref (ad 54)), (4, .int i)] []) : G l D X 8 (LW ad cy) k0 n0 s 1157 [(0, .ref b), (1, .ref (ad 0)), (2, .ref (ad 35)), (3, .ref (ad 54)), (4, .int i)] [] := by
  obtain ⟨hk1, hk2⟩ := hk
  unfold lc_22 at E
  refine g_aload_n (pc' := 1158) O ⟨dL_law_1157, rfl⟩ (q := 1) rfl rfl ?_
  obtain ⟨r_1, c_2, E⟩ := bd_of E
  refine g_Ui (pc' := 1161) O ⟨dL_law_1158, rfl⟩ (y := yX10_off) (As := []) (st := []) (subC ad cy s) (t_X10_off l D ad cy (h := s.1) c_2) kw_415 kw_60 kw_412 kw_413 kw_414 rfl (wL_0 ad cy s) hd_X10_off ⟨Nat.le_trans (Nat.le_of_ble_eq_true rfl) hRf.1, Nat.le_trans (Nat.le_of_ble_eq_true rfl) hRf.2⟩ ⟨by omega, by omega⟩ rfl (Nat.le_of_ble_eq_true rfl) ?_
  refine g_nmh E (fun s_3 E => ?_)
  refine g_aload_n (pc' := 1162) O ⟨dL_law_1161, rfl⟩ (q := 2) rfl rfl ?_
  obtain ⟨r_4, c_5, E⟩ := bd_of E
  refine g_Ui (pc' := 1165) O ⟨dL_law_1162, rfl⟩ (y := yX11_off) (As := []) (st := [.int r_1.1]) (subM ad cy s_3) (t_X11_off l D (fun k => ad (35 + k)) cy (h := s_3.2.1) c_5) kw_1348 kw_70 kw_1345 kw_1346 kw_1347 rfl (wL_35 ad cy s_3) hd_X11_off ⟨Nat.le_trans (Nat.le_of_ble_eq_true rfl) hRf.1, Nat.le_trans (Nat.le_of_ble_eq_true rfl) hRf.2⟩ ⟨by omega, by omega⟩ rfl (Nat.le_of_ble_eq_true rfl) ?_
  refine g_nmh E (fun s_6 E => ?_)
  refine g_icmp_eq (pc' := 1168) O ⟨dL_law_1165, rfl⟩ E (tgt := 1943) (by decide) (fun E => ?_) (fun E => ?_)
  · exact g_widen (by omega) (by omega) (hko _ E)
  · refine g_iconst (pc' := 1169) O ⟨dL_law_1168, rfl⟩ (v := (0 : Int32)) rfl ?_
    cases E
set_option maxRecDepth 100000 in
set_option maxHeartbeats 4000000 in
theorem tc_23 (l : Launch) (D : va_G) (ad : Nat → Nat) (cy : Nat → ClassId) (hfl : l.stackTraces = false) {X : Cx} {R : Room} {b L : Nat} {xs : Nat → Int32} (O : Ok l D cy X cL_law RL 8 R) (hN : NCX X) (hX : SX X b L xs) (hRf : 300 ≤ R.frames ∧ 9000 ≤ R.locals) {k0 n0 : Nat} (hk : k0 + 8 ≤ R.cells ∧ n0 + 48 ≤ R.slots) {i : Int32} {s : LWS} {kont : LWS → Option Unit} {o : Unit} (E : lc_23 L xs i s kont = some o) (hko : ∀ s1, kont s1 = some o → G l D X 8 (LW ad cy) (k0 + 8) (n0 + 48) s1 1943 [(0, .ref b), (1, .ref (ad 0)), (2, .ref (ad 35)), (3, .ref (ad 54)), (4, .int i)] []) : G l D X 8 (LW ad cy) k0 n0 s 1170 [(0, .ref b), (1, .ref (ad 0)), (2, .ref (ad 35)), (3, .ref (ad 54)), (4, .int i)] [] := by
  obtain ⟨hk1, hk2⟩ := hk
  unfold lc_23 at E
  refine g_aload_n (pc' := 1171) O ⟨dL_law_1170, rfl⟩ (q := 1) rfl rfl ?_
  obtain ⟨r_1, c_2, E⟩ := bd_of E
  refine g_Ui (pc' := 1174) O ⟨dL_law_1171, rfl⟩ (y := yX10_routes) (As := []) (st := []) (subC ad cy s) (t_X10_routes l D ad cy (h := s.1) c_2) kw_435 kw_60 kw_432 kw_433 kw_434 rfl (wL_0 ad cy s) hd_X10_routes ⟨Nat.le_trans (Nat.le_of_ble_eq_true rfl) hRf.1, Nat.le_trans (Nat.le_of_ble_eq_true rfl) hRf.2⟩ ⟨by omega, by omega⟩ rfl (Nat.le_of_ble_eq_true rfl) ?_
  refine g_nmh E (fun s_3 E => ?_)
  refine g_aload_n (pc' := 1175) O ⟨dL_law_1174, rfl⟩ (q := 2) rfl rfl ?_
  obtain ⟨r_4, c_5, E⟩ := bd_of E
  refine g_Ui (pc' := 1178) O ⟨dL_law_1175, rfl⟩ (y := yX11_routes) (As := []) (st := [.int r_1.1]) (subM ad cy s_3) (t_X11_routes l D (fun k => ad (35 + k)) cy (h := s_3.2.1) c_5) kw_1352 kw_70 kw_1349 kw_1350 kw_1351 rfl (wL_35 ad cy s_3) hd_X11_routes ⟨Nat.le_trans (Nat.le_of_ble_eq_true rfl) hRf.1, Nat.le_trans (Nat.le_of_ble_eq_true rfl) hRf.2⟩ ⟨by omega, by omega⟩ rfl (Nat.le_of_ble_eq_true rfl) ?_
  refine g_nmh E (fun s_6 E => ?_)
  refine g_icmp_eq (pc' := 1181) O ⟨dL_law_1178, rfl⟩ E (tgt := 1943) (by decide) (fun E => ?_) (fun E => ?_)
  · exact g_widen (by omega) (by omega) (hko _ E)
  · refine g_iconst (pc' := 1182) O ⟨dL_law_1181, rfl⟩ (v := (0 : Int32)) rfl ?_
    cases E
set_option maxRecDepth 100000 in
set_option maxHeartbeats 4000000 in
theorem tc_24 (l : Launch) (D : va_G) (ad : Nat → Nat) (cy : Nat → ClassId) (hfl : l.stackTraces = false) {X : Cx} {R : Room} {b L : Nat} {xs : Nat → Int32} (O : Ok l D cy X cL_law RL 8 R) (hN : NCX X) (hX : SX X b L xs) (hRf : 300 ≤ R.frames ∧ 9000 ≤ R.locals) {k0 n0 : Nat} (hk : k0 + 8 ≤ R.cells ∧ n0 + 48 ≤ R.slots) {i : Int32} {s : LWS} {kont : LWS → Option Unit} {o : Unit} (E : lc_24 L xs i s kont = some o) (hko : ∀ s1, kont s1 = some o → G l D X 8 (LW ad cy) (k0 + 8) (n0 + 48) s1 1943 [(0, .ref b), (1, .ref (ad 0)), (2, .ref (ad 35)), (3, .ref (ad 54)), (4, .int i)] []) : G l D X 8 (LW ad cy) k0 n0 s 1183 [(0, .ref b), (1, .ref (ad 0)), (2, .ref (ad 35)), (3, .ref (ad 54)), (4, .int i)] [] := by
  obtain ⟨hk1, hk2⟩ := hk
  unfold lc_24 at E
  refine g_aload_n (pc' := 1184) O ⟨dL_law_1183, rfl⟩ (q := 1) rfl rfl ?_
  refine g_aload_n (pc' := 1185) O ⟨dL_law_1184, rfl⟩ (q := 0) rfl rfl ?_
  refine g_iload (pc' := 1187) O ⟨dL_law_1185, rfl⟩ (q := 4) rfl ?_
  refine g_iconst (pc' := 1188) O ⟨dL_law_1187, rfl⟩ (v := (1 : Int32)) rfl ?_
  refine g_iadd (pc' := 1189) O ⟨dL_law_1188, rfl⟩ ?_
  refine g_sld (pc' := 1190) O ⟨dL_law_1189, rfl⟩ hX E (fun E => ?_)
  refine g_aload_n (pc' := 1191) O ⟨dL_law_1190, rfl⟩ (q := 3) rfl rfl ?_
  obtain ⟨r_1, c_2, E⟩ := bd_of E
  refine g_H (pc' := 1194) O hN ⟨dL_law_1191, rfl⟩ (y := yL_setting) (As := [.ref (ad 0), .int (xs (i + (1 : Int32)).toNatClampNeg), .ref (ad 54)]) (st := []) (th_setting l D ad cy hfl (s := s) c_2) kw_914 kw_59 kw_912 kw_913 hd_L_setting ⟨Nat.le_trans (Nat.le_of_ble_eq_true rfl) hRf.1, Nat.le_trans (Nat.le_of_ble_eq_true rfl) hRf.2⟩ ⟨by omega, by omega⟩ rfl (Nat.le_of_ble_eq_true rfl) ?_
  refine g_istore (pc' := 1196) O ⟨dL_law_1194, rfl⟩ (lv' := [(5, .int r_1.1), (0, .ref b), (1, .ref (ad 0)), (2, .ref (ad 35)), (3, .ref (ad 54)), (4, .int i)]) (by decide) rfl ?_
  refine g_aload_n (pc' := 1197) O ⟨dL_law_1196, rfl⟩ (q := 3) rfl rfl ?_
  refine g_aload_n (pc' := 1198) O ⟨dL_law_1197, rfl⟩ (q := 1) rfl rfl ?_
  refine g_iload (pc' := 1200) O ⟨dL_law_1198, rfl⟩ (q := 5) rfl ?_
  refine g_iconst (pc' := 1201) O ⟨dL_law_1200, rfl⟩ (v := (1 : Int32)) rfl ?_
  refine g_iadd (pc' := 1202) O ⟨dL_law_1201, rfl⟩ ?_
  refine g_sld (pc' := 1203) O ⟨dL_law_1202, rfl⟩ hX E (fun E => ?_)
  obtain ⟨r_3, c_4, E⟩ := bd_of E
  refine g_Ui (pc' := 1206) O ⟨dL_law_1203, rfl⟩ (y := yX11_setting) (As := [.int (xs (i + (1 : Int32)).toNatClampNeg)]) (st := []) (subM ad cy r_1.2) (t_X11_setting l D (fun k => ad (35 + k)) cy (h := r_1.2.2.1) c_4) kw_1360 kw_70 kw_1357 kw_1358 kw_1359 rfl (wL_35 ad cy r_1.2) hd_X11_setting ⟨Nat.le_trans (Nat.le_of_ble_eq_true rfl) hRf.1, Nat.le_trans (Nat.le_of_ble_eq_true rfl) hRf.2⟩ ⟨by omega, by omega⟩ rfl (Nat.le_of_ble_eq_true rfl) ?_
  refine g_nmh E (fun s_5 E => ?_)
  refine g_istore (pc' := 1208) O ⟨dL_law_1206, rfl⟩ (lv' := [(6, .int r_3.1), (5, .int r_1.1), (0, .ref b), (1, .ref (ad 0)), (2, .ref (ad 35)), (3, .ref (ad 54)), (4, .int i)]) (by decide) rfl ?_
  refine g_aload_n (pc' := 1209) O ⟨dL_law_1208, rfl⟩ (q := 4) rfl rfl ?_
  obtain ⟨r_6, c_7, E⟩ := bd_of E
  refine g_Ui (pc' := 1212) O ⟨dL_law_1209, rfl⟩ (y := yX11_thrown) (As := []) (st := []) (subM ad cy s_5) (t_X11_thrown l D (fun k => ad (35 + k)) cy (h := s_5.2.1) c_7) kw_1160 kw_70 kw_1157 kw_1158 kw_1159 rfl (wL_35 ad cy s_5) hd_X11_thrown ⟨Nat.le_trans (Nat.le_of_ble_eq_true rfl) hRf.1, Nat.le_trans (Nat.le_of_ble_eq_true rfl) hRf.2⟩ ⟨by omega, by omega⟩ rfl (Nat.le_of_ble_eq_true rfl) ?_
  refine g_nmh E (fun s_8 E => ?_)
  refine g_iload (pc' := 1214) O ⟨dL_law_1212, rfl⟩ (q := 1) rfl ?_
  refine g_icmp_eq (pc' := 1217) O ⟨dL_law_1214, rfl⟩ E (tgt := 1219) (by decide) (fun E => ?_) (fun E => ?_)
  · refine g_iload (pc' := 1221) O ⟨dL_law_1219, rfl⟩ (q := 1) rfl ?_
    refine jn0_of (P := G l D X 8 (LW ad cy) (k0 + 1) (n0 + 6) s_8 1236 [(0, .ref b), (1, .ref (ad 0)), (2, .ref (ad 35)), (3, .ref (ad 54)), (4, .int i)] []) E ?_ ?_
    · intro E
      show G l D X 8 (LW ad cy) (k0 + 1) (n0 + 6) s_8 1236 [(0, .ref b), (1, .ref (ad 0)), (2, .ref (ad 35)), (3, .ref (ad 54)), (4, .int i)] []
      refine g_goto (pc' := 1239) O ⟨dL_law_1236, rfl⟩ (tgt := 1943) (by decide) ?_
      exact g_widen (by omega) (by omega) (hko _ E)
    · intro k1236 hk1236 E
      refine g_if_ne (pc' := 1224) O ⟨dL_law_1221, rfl⟩ E (tgt := 1236) (by decide) (fun E => ?_) (fun E => ?_)
      · refine g_sub (lv' := [(0, .ref b), (1, .ref (ad 0)), (2, .ref (ad 35)), (3, .ref (ad 54)), (4, .int i)]) [2, 3, 4, 5, 6] rfl ?_
        exact hk1236 E
      · refine g_aload_n (pc' := 1225) O ⟨dL_law_1224, rfl⟩ (q := 5) rfl rfl ?_
        refine g_iconst (pc' := 1226) O ⟨dL_law_1225, rfl⟩ (v := (0 : Int32)) rfl ?_
        refine g_lald (pc' := 1227) O ⟨dL_law_1226, rfl⟩ (wL_54 ad cy s_8) E (fun E => ?_)
        refine g_iload (pc' := 1229) O ⟨dL_law_1227, rfl⟩ (q := 0) rfl ?_
        refine g_i2l (pc' := 1230) O ⟨dL_law_1229, rfl⟩ ?_
        refine g_lcmp (pc' := 1231) O ⟨dL_law_1230, rfl⟩ ?_
        refine g_if_eq (pc' := 1234) O ⟨dL_law_1231, rfl⟩ E (tgt := 1236) (by decide) (fun E => ?_) (fun E => ?_)
        · refine g_sub (lv' := [(0, .ref b), (1, .ref (ad 0)), (2, .ref (ad 35)), (3, .ref (ad 54)), (4, .int i)]) [2, 3, 4, 5, 6] rfl ?_
          exact hk1236 E
        · refine g_iconst (pc' := 1235) O ⟨dL_law_1234, rfl⟩ (v := (0 : Int32)) rfl ?_
          cases E
  · refine g_iconst (pc' := 1218) O ⟨dL_law_1217, rfl⟩ (v := (0 : Int32)) rfl ?_
    cases E
set_option maxRecDepth 100000 in
set_option maxHeartbeats 4000000 in
theorem tc_25 (l : Launch) (D : va_G) (ad : Nat → Nat) (cy : Nat → ClassId) (hfl : l.stackTraces = false) {X : Cx} {R : Room} {b L : Nat} {xs : Nat → Int32} (O : Ok l D cy X cL_law RL 8 R) (hN : NCX X) (hX : SX X b L xs) (hRf : 300 ≤ R.frames ∧ 9000 ≤ R.locals) {k0 n0 : Nat} (hk : k0 + 8 ≤ R.cells ∧ n0 + 48 ≤ R.slots) {i : Int32} {s : LWS} {kont : LWS → Option Unit} {o : Unit} (E : lc_25 L xs i s kont = some o) (hko : ∀ s1, kont s1 = some o → G l D X 8 (LW ad cy) (k0 + 8) (n0 + 48) s1 1943 [(0, .ref b), (1, .ref (ad 0)), (2, .ref (ad 35)), (3, .ref (ad 54)), (4, .int i)] []) : G l D X 8 (LW ad cy) k0 n0 s 1239 [(0, .ref b), (1, .ref (ad 0)), (2, .ref (ad 35)), (3, .ref (ad 54)), (4, .int i)] [] := by
  obtain ⟨hk1, hk2⟩ := hk
  unfold lc_25 at E
  refine g_aload_n (pc' := 1240) O ⟨dL_law_1239, rfl⟩ (q := 1) rfl rfl ?_
  refine g_aload_n (pc' := 1241) O ⟨dL_law_1240, rfl⟩ (q := 0) rfl rfl ?_
  refine g_iload (pc' := 1243) O ⟨dL_law_1241, rfl⟩ (q := 4) rfl ?_
  refine g_iconst (pc' := 1244) O ⟨dL_law_1243, rfl⟩ (v := (1 : Int32)) rfl ?_
  refine g_iadd (pc' := 1245) O ⟨dL_law_1244, rfl⟩ ?_
  refine g_sld (pc' := 1246) O ⟨dL_law_1245, rfl⟩ hX E (fun E => ?_)
  refine g_aload_n (pc' := 1247) O ⟨dL_law_1246, rfl⟩ (q := 3) rfl rfl ?_
  obtain ⟨r_1, c_2, E⟩ := bd_of E
  refine g_H (pc' := 1250) O hN ⟨dL_law_1247, rfl⟩ (y := yL_token) (As := [.ref (ad 0), .int (xs (i + (1 : Int32)).toNatClampNeg), .ref (ad 54)]) (st := []) (th_token l D ad cy hfl (s := s) c_2) kw_925 kw_59 kw_923 kw_924 hd_L_token ⟨Nat.le_trans (Nat.le_of_ble_eq_true rfl) hRf.1, Nat.le_trans (Nat.le_of_ble_eq_true rfl) hRf.2⟩ ⟨by omega, by omega⟩ rfl (Nat.le_of_ble_eq_true rfl) ?_
  refine g_istore (pc' := 1252) O ⟨dL_law_1250, rfl⟩ (lv' := [(5, .int r_1.1), (0, .ref b), (1, .ref (ad 0)), (2, .ref (ad 35)), (3, .ref (ad 54)), (4, .int i)]) (by decide) rfl ?_
  refine g_aload_n (pc' := 1253) O ⟨dL_law_1252, rfl⟩ (q := 3) rfl rfl ?_
  refine g_aload_n (pc' := 1254) O ⟨dL_law_1253, rfl⟩ (q := 1) rfl rfl ?_
  refine g_iload (pc' := 1256) O ⟨dL_law_1254, rfl⟩ (q := 5) rfl ?_
  refine g_iconst (pc' := 1257) O ⟨dL_law_1256, rfl⟩ (v := (1 : Int32)) rfl ?_
  refine g_iadd (pc' := 1258) O ⟨dL_law_1257, rfl⟩ ?_
  refine g_sld (pc' := 1259) O ⟨dL_law_1258, rfl⟩ hX E (fun E => ?_)
  obtain ⟨r_3, c_4, E⟩ := bd_of E
  refine g_Ui (pc' := 1262) O ⟨dL_law_1259, rfl⟩ (y := yX11_token) (As := [.int (xs (i + (1 : Int32)).toNatClampNeg)]) (st := []) (subM ad cy r_1.2) (t_X11_token l D (fun k => ad (35 + k)) cy (h := r_1.2.2.1) c_4) kw_1364 kw_70 kw_1361 kw_1362 kw_1363 rfl (wL_35 ad cy r_1.2) hd_X11_token ⟨Nat.le_trans (Nat.le_of_ble_eq_true rfl) hRf.1, Nat.le_trans (Nat.le_of_ble_eq_true rfl) hRf.2⟩ ⟨by omega, by omega⟩ rfl (Nat.le_of_ble_eq_true rfl) ?_
  refine g_nmh E (fun s_5 E => ?_)
  refine g_istore (pc' := 1264) O ⟨dL_law_1262, rfl⟩ (lv' := [(6, .int r_3.1), (5, .int r_1.1), (0, .ref b), (1, .ref (ad 0)), (2, .ref (ad 35)), (3, .ref (ad 54)), (4, .int i)]) (by decide) rfl ?_
  refine g_aload_n (pc' := 1265) O ⟨dL_law_1264, rfl⟩ (q := 4) rfl rfl ?_
  obtain ⟨r_6, c_7, E⟩ := bd_of E
  refine g_Ui (pc' := 1268) O ⟨dL_law_1265, rfl⟩ (y := yX11_thrown) (As := []) (st := []) (subM ad cy s_5) (t_X11_thrown l D (fun k => ad (35 + k)) cy (h := s_5.2.1) c_7) kw_1160 kw_70 kw_1157 kw_1158 kw_1159 rfl (wL_35 ad cy s_5) hd_X11_thrown ⟨Nat.le_trans (Nat.le_of_ble_eq_true rfl) hRf.1, Nat.le_trans (Nat.le_of_ble_eq_true rfl) hRf.2⟩ ⟨by omega, by omega⟩ rfl (Nat.le_of_ble_eq_true rfl) ?_
  refine g_nmh E (fun s_8 E => ?_)
  refine g_iload (pc' := 1270) O ⟨dL_law_1268, rfl⟩ (q := 1) rfl ?_
  refine g_icmp_eq (pc' := 1273) O ⟨dL_law_1270, rfl⟩ E (tgt := 1275) (by decide) (fun E => ?_) (fun E => ?_)
  · refine g_iload (pc' := 1277) O ⟨dL_law_1275, rfl⟩ (q := 1) rfl ?_
    refine jn0_of (P := G l D X 8 (LW ad cy) (k0 + 2) (n0 + 12) s_8 1292 [(0, .ref b), (1, .ref (ad 0)), (2, .ref (ad 35)), (3, .ref (ad 54)), (4, .int i)] []) E ?_ ?_
    · intro E
      show G l D X 8 (LW ad cy) (k0 + 2) (n0 + 12) s_8 1292 [(0, .ref b), (1, .ref (ad 0)), (2, .ref (ad 35)), (3, .ref (ad 54)), (4, .int i)] []
      refine g_goto (pc' := 1295) O ⟨dL_law_1292, rfl⟩ (tgt := 1943) (by decide) ?_
      exact g_widen (by omega) (by omega) (hko _ E)
    · intro k1292 hk1292 E
      refine g_if_ne (pc' := 1280) O ⟨dL_law_1277, rfl⟩ E (tgt := 1292) (by decide) (fun E => ?_) (fun E => ?_)
      · refine g_sub (lv' := [(0, .ref b), (1, .ref (ad 0)), (2, .ref (ad 35)), (3, .ref (ad 54)), (4, .int i)]) [2, 3, 4, 5, 6] rfl ?_
        exact hk1292 E
      · refine g_aload_n (pc' := 1281) O ⟨dL_law_1280, rfl⟩ (q := 5) rfl rfl ?_
        refine g_iconst (pc' := 1282) O ⟨dL_law_1281, rfl⟩ (v := (0 : Int32)) rfl ?_
        refine g_lald (pc' := 1283) O ⟨dL_law_1282, rfl⟩ (wL_54 ad cy s_8) E (fun E => ?_)
        refine g_iload (pc' := 1285) O ⟨dL_law_1283, rfl⟩ (q := 0) rfl ?_
        refine g_i2l (pc' := 1286) O ⟨dL_law_1285, rfl⟩ ?_
        refine g_lcmp (pc' := 1287) O ⟨dL_law_1286, rfl⟩ ?_
        refine g_if_eq (pc' := 1290) O ⟨dL_law_1287, rfl⟩ E (tgt := 1292) (by decide) (fun E => ?_) (fun E => ?_)
        · refine g_sub (lv' := [(0, .ref b), (1, .ref (ad 0)), (2, .ref (ad 35)), (3, .ref (ad 54)), (4, .int i)]) [2, 3, 4, 5, 6] rfl ?_
          exact hk1292 E
        · refine g_iconst (pc' := 1291) O ⟨dL_law_1290, rfl⟩ (v := (0 : Int32)) rfl ?_
          cases E
  · refine g_iconst (pc' := 1274) O ⟨dL_law_1273, rfl⟩ (v := (0 : Int32)) rfl ?_
    cases E
set_option maxRecDepth 100000 in
set_option maxHeartbeats 4000000 in
theorem tc_26 (l : Launch) (D : va_G) (ad : Nat → Nat) (cy : Nat → ClassId) (hfl : l.stackTraces = false) {X : Cx} {R : Room} {b L : Nat} {xs : Nat → Int32} (O : Ok l D cy X cL_law RL 8 R) (hN : NCX X) (hX : SX X b L xs) (hRf : 300 ≤ R.frames ∧ 9000 ≤ R.locals) {k0 n0 : Nat} (hk : k0 + 8 ≤ R.cells ∧ n0 + 48 ≤ R.slots) {i : Int32} {s : LWS} {kont : LWS → Option Unit} {o : Unit} (E : lc_26 L xs i s kont = some o) (hko : ∀ s1, kont s1 = some o → G l D X 8 (LW ad cy) (k0 + 8) (n0 + 48) s1 1943 [(0, .ref b), (1, .ref (ad 0)), (2, .ref (ad 35)), (3, .ref (ad 54)), (4, .int i)] []) : G l D X 8 (LW ad cy) k0 n0 s 1295 [(0, .ref b), (1, .ref (ad 0)), (2, .ref (ad 35)), (3, .ref (ad 54)), (4, .int i)] [] := by
  obtain ⟨hk1, hk2⟩ := hk
  unfold lc_26 at E
  refine g_aload_n (pc' := 1296) O ⟨dL_law_1295, rfl⟩ (q := 1) rfl rfl ?_
  refine g_aload_n (pc' := 1297) O ⟨dL_law_1296, rfl⟩ (q := 0) rfl rfl ?_
  refine g_iload (pc' := 1299) O ⟨dL_law_1297, rfl⟩ (q := 4) rfl ?_
  refine g_iconst (pc' := 1300) O ⟨dL_law_1299, rfl⟩ (v := (1 : Int32)) rfl ?_
  refine g_iadd (pc' := 1301) O ⟨dL_law_1300, rfl⟩ ?_
  refine g_sld (pc' := 1302) O ⟨dL_law_1301, rfl⟩ hX E (fun E => ?_)
  refine g_aload_n (pc' := 1303) O ⟨dL_law_1302, rfl⟩ (q := 3) rfl rfl ?_
  obtain ⟨r_1, c_2, E⟩ := bd_of E
  refine g_H (pc' := 1306) O hN ⟨dL_law_1303, rfl⟩ (y := yL_came) (As := [.ref (ad 0), .int (xs (i + (1 : Int32)).toNatClampNeg), .ref (ad 54)]) (st := []) (th_came l D ad cy hfl (s := s) c_2) kw_937 kw_59 kw_935 kw_936 hd_L_came ⟨Nat.le_trans (Nat.le_of_ble_eq_true rfl) hRf.1, Nat.le_trans (Nat.le_of_ble_eq_true rfl) hRf.2⟩ ⟨by omega, by omega⟩ rfl (Nat.le_of_ble_eq_true rfl) ?_
  refine g_istore (pc' := 1308) O ⟨dL_law_1306, rfl⟩ (lv' := [(5, .int r_1.1), (0, .ref b), (1, .ref (ad 0)), (2, .ref (ad 35)), (3, .ref (ad 54)), (4, .int i)]) (by decide) rfl ?_
  refine g_aload_n (pc' := 1309) O ⟨dL_law_1308, rfl⟩ (q := 3) rfl rfl ?_
  refine g_aload_n (pc' := 1310) O ⟨dL_law_1309, rfl⟩ (q := 1) rfl rfl ?_
  refine g_iload (pc' := 1312) O ⟨dL_law_1310, rfl⟩ (q := 5) rfl ?_
  refine g_iconst (pc' := 1313) O ⟨dL_law_1312, rfl⟩ (v := (1 : Int32)) rfl ?_
  refine g_iadd (pc' := 1314) O ⟨dL_law_1313, rfl⟩ ?_
  refine g_sld (pc' := 1315) O ⟨dL_law_1314, rfl⟩ hX E (fun E => ?_)
  obtain ⟨r_3, c_4, E⟩ := bd_of E
  refine g_Ui (pc' := 1318) O ⟨dL_law_1315, rfl⟩ (y := yX11_came) (As := [.int (xs (i + (1 : Int32)).toNatClampNeg)]) (st := []) (subM ad cy r_1.2) (t_X11_came l D (fun k => ad (35 + k)) cy (h := r_1.2.2.1) c_4) kw_1368 kw_70 kw_1365 kw_1366 kw_1367 rfl (wL_35 ad cy r_1.2) hd_X11_came ⟨Nat.le_trans (Nat.le_of_ble_eq_true rfl) hRf.1, Nat.le_trans (Nat.le_of_ble_eq_true rfl) hRf.2⟩ ⟨by omega, by omega⟩ rfl (Nat.le_of_ble_eq_true rfl) ?_
  refine g_nmh E (fun s_5 E => ?_)
  refine g_istore (pc' := 1320) O ⟨dL_law_1318, rfl⟩ (lv' := [(6, .int r_3.1), (5, .int r_1.1), (0, .ref b), (1, .ref (ad 0)), (2, .ref (ad 35)), (3, .ref (ad 54)), (4, .int i)]) (by decide) rfl ?_
  refine g_aload_n (pc' := 1321) O ⟨dL_law_1320, rfl⟩ (q := 4) rfl rfl ?_
  obtain ⟨r_6, c_7, E⟩ := bd_of E
  refine g_Ui (pc' := 1324) O ⟨dL_law_1321, rfl⟩ (y := yX11_thrown) (As := []) (st := []) (subM ad cy s_5) (t_X11_thrown l D (fun k => ad (35 + k)) cy (h := s_5.2.1) c_7) kw_1160 kw_70 kw_1157 kw_1158 kw_1159 rfl (wL_35 ad cy s_5) hd_X11_thrown ⟨Nat.le_trans (Nat.le_of_ble_eq_true rfl) hRf.1, Nat.le_trans (Nat.le_of_ble_eq_true rfl) hRf.2⟩ ⟨by omega, by omega⟩ rfl (Nat.le_of_ble_eq_true rfl) ?_
  refine g_nmh E (fun s_8 E => ?_)
  refine g_iload (pc' := 1326) O ⟨dL_law_1324, rfl⟩ (q := 1) rfl ?_
  refine g_icmp_eq (pc' := 1329) O ⟨dL_law_1326, rfl⟩ E (tgt := 1331) (by decide) (fun E => ?_) (fun E => ?_)
  · refine g_iload (pc' := 1333) O ⟨dL_law_1331, rfl⟩ (q := 1) rfl ?_
    refine jn0_of (P := G l D X 8 (LW ad cy) (k0 + 1) (n0 + 6) s_8 1348 [(0, .ref b), (1, .ref (ad 0)), (2, .ref (ad 35)), (3, .ref (ad 54)), (4, .int i)] []) E ?_ ?_
    · intro E
      show G l D X 8 (LW ad cy) (k0 + 1) (n0 + 6) s_8 1348 [(0, .ref b), (1, .ref (ad 0)), (2, .ref (ad 35)), (3, .ref (ad 54)), (4, .int i)] []
      refine g_goto (pc' := 1351) O ⟨dL_law_1348, rfl⟩ (tgt := 1943) (by decide) ?_
      exact g_widen (by omega) (by omega) (hko _ E)
    · intro k1348 hk1348 E
      refine g_if_ne (pc' := 1336) O ⟨dL_law_1333, rfl⟩ E (tgt := 1348) (by decide) (fun E => ?_) (fun E => ?_)
      · refine g_sub (lv' := [(0, .ref b), (1, .ref (ad 0)), (2, .ref (ad 35)), (3, .ref (ad 54)), (4, .int i)]) [2, 3, 4, 5, 6] rfl ?_
        exact hk1348 E
      · refine g_aload_n (pc' := 1337) O ⟨dL_law_1336, rfl⟩ (q := 5) rfl rfl ?_
        refine g_iconst (pc' := 1338) O ⟨dL_law_1337, rfl⟩ (v := (0 : Int32)) rfl ?_
        refine g_lald (pc' := 1339) O ⟨dL_law_1338, rfl⟩ (wL_54 ad cy s_8) E (fun E => ?_)
        refine g_iload (pc' := 1341) O ⟨dL_law_1339, rfl⟩ (q := 0) rfl ?_
        refine g_i2l (pc' := 1342) O ⟨dL_law_1341, rfl⟩ ?_
        refine g_lcmp (pc' := 1343) O ⟨dL_law_1342, rfl⟩ ?_
        refine g_if_eq (pc' := 1346) O ⟨dL_law_1343, rfl⟩ E (tgt := 1348) (by decide) (fun E => ?_) (fun E => ?_)
        · refine g_sub (lv' := [(0, .ref b), (1, .ref (ad 0)), (2, .ref (ad 35)), (3, .ref (ad 54)), (4, .int i)]) [2, 3, 4, 5, 6] rfl ?_
          exact hk1348 E
        · refine g_iconst (pc' := 1347) O ⟨dL_law_1346, rfl⟩ (v := (0 : Int32)) rfl ?_
          cases E
  · refine g_iconst (pc' := 1330) O ⟨dL_law_1329, rfl⟩ (v := (0 : Int32)) rfl ?_
    cases E
set_option maxRecDepth 100000 in
set_option maxHeartbeats 4000000 in
theorem tc_27 (l : Launch) (D : va_G) (ad : Nat → Nat) (cy : Nat → ClassId) (hfl : l.stackTraces = false) {X : Cx} {R : Room} {b L : Nat} {xs : Nat → Int32} (O : Ok l D cy X cL_law RL 8 R) (hN : NCX X) (hX : SX X b L xs) (hRf : 300 ≤ R.frames ∧ 9000 ≤ R.locals) {k0 n0 : Nat} (hk : k0 + 8 ≤ R.cells ∧ n0 + 48 ≤ R.slots) {i : Int32} {s : LWS} {kont : LWS → Option Unit} {o : Unit} (E : lc_27 L xs i s kont = some o) (hko : ∀ s1, kont s1 = some o → G l D X 8 (LW ad cy) (k0 + 8) (n0 + 48) s1 1943 [(0, .ref b), (1, .ref (ad 0)), (2, .ref (ad 35)), (3, .ref (ad 54)), (4, .int i)] []) : G l D X 8 (LW ad cy) k0 n0 s 1351 [(0, .ref b), (1, .ref (ad 0)), (2, .ref (ad 35)), (3, .ref (ad 54)), (4, .int i)] [] := by
  obtain ⟨hk1, hk2⟩ := hk
  unfold lc_27 at E
  refine g_aload_n (pc' := 1352) O ⟨dL_law_1351, rfl⟩ (q := 1) rfl rfl ?_
  refine g_aload_n (pc' := 1353) O ⟨dL_law_1352, rfl⟩ (q := 0) rfl rfl ?_
  refine g_iload (pc' := 1355) O ⟨dL_law_1353, rfl⟩ (q := 4) rfl ?_
  refine g_iconst (pc' := 1356) O ⟨dL_law_1355, rfl⟩ (v := (1 : Int32)) rfl ?_
  refine g_iadd (pc' := 1357) O ⟨dL_law_1356, rfl⟩ ?_
  refine g_sld (pc' := 1358) O ⟨dL_law_1357, rfl⟩ hX E (fun E => ?_)
  refine g_aload_n (pc' := 1359) O ⟨dL_law_1358, rfl⟩ (q := 3) rfl rfl ?_
  obtain ⟨r_1, c_2, E⟩ := bd_of E
  refine g_H (pc' := 1362) O hN ⟨dL_law_1359, rfl⟩ (y := yL_cameAnew) (As := [.ref (ad 0), .int (xs (i + (1 : Int32)).toNatClampNeg), .ref (ad 54)]) (st := []) (th_cameAnew l D ad cy hfl (s := s) c_2) kw_944 kw_59 kw_942 kw_943 hd_L_cameAnew ⟨Nat.le_trans (Nat.le_of_ble_eq_true rfl) hRf.1, Nat.le_trans (Nat.le_of_ble_eq_true rfl) hRf.2⟩ ⟨by omega, by omega⟩ rfl (Nat.le_of_ble_eq_true rfl) ?_
  refine g_istore (pc' := 1364) O ⟨dL_law_1362, rfl⟩ (lv' := [(5, .int r_1.1), (0, .ref b), (1, .ref (ad 0)), (2, .ref (ad 35)), (3, .ref (ad 54)), (4, .int i)]) (by decide) rfl ?_
  refine g_aload_n (pc' := 1365) O ⟨dL_law_1364, rfl⟩ (q := 3) rfl rfl ?_
  refine g_aload_n (pc' := 1366) O ⟨dL_law_1365, rfl⟩ (q := 1) rfl rfl ?_
  refine g_iload (pc' := 1368) O ⟨dL_law_1366, rfl⟩ (q := 5) rfl ?_
  refine g_iconst (pc' := 1369) O ⟨dL_law_1368, rfl⟩ (v := (1 : Int32)) rfl ?_
  refine g_iadd (pc' := 1370) O ⟨dL_law_1369, rfl⟩ ?_
  refine g_sld (pc' := 1371) O ⟨dL_law_1370, rfl⟩ hX E (fun E => ?_)
  obtain ⟨r_3, c_4, E⟩ := bd_of E
  refine g_Ui (pc' := 1374) O ⟨dL_law_1371, rfl⟩ (y := yX11_cameAnew) (As := [.int (xs (i + (1 : Int32)).toNatClampNeg)]) (st := []) (subM ad cy r_1.2) (t_X11_cameAnew l D (fun k => ad (35 + k)) cy (h := r_1.2.2.1) c_4) kw_1372 kw_70 kw_1369 kw_1370 kw_1371 rfl (wL_35 ad cy r_1.2) hd_X11_cameAnew ⟨Nat.le_trans (Nat.le_of_ble_eq_true rfl) hRf.1, Nat.le_trans (Nat.le_of_ble_eq_true rfl) hRf.2⟩ ⟨by omega, by omega⟩ rfl (Nat.le_of_ble_eq_true rfl) ?_
  refine g_nmh E (fun s_5 E => ?_)
  refine g_istore (pc' := 1376) O ⟨dL_law_1374, rfl⟩ (lv' := [(6, .int r_3.1), (5, .int r_1.1), (0, .ref b), (1, .ref (ad 0)), (2, .ref (ad 35)), (3, .ref (ad 54)), (4, .int i)]) (by decide) rfl ?_
  refine g_aload_n (pc' := 1377) O ⟨dL_law_1376, rfl⟩ (q := 4) rfl rfl ?_
  obtain ⟨r_6, c_7, E⟩ := bd_of E
  refine g_Ui (pc' := 1380) O ⟨dL_law_1377, rfl⟩ (y := yX11_thrown) (As := []) (st := []) (subM ad cy s_5) (t_X11_thrown l D (fun k => ad (35 + k)) cy (h := s_5.2.1) c_7) kw_1160 kw_70 kw_1157 kw_1158 kw_1159 rfl (wL_35 ad cy s_5) hd_X11_thrown ⟨Nat.le_trans (Nat.le_of_ble_eq_true rfl) hRf.1, Nat.le_trans (Nat.le_of_ble_eq_true rfl) hRf.2⟩ ⟨by omega, by omega⟩ rfl (Nat.le_of_ble_eq_true rfl) ?_
  refine g_nmh E (fun s_8 E => ?_)
  refine g_iload (pc' := 1382) O ⟨dL_law_1380, rfl⟩ (q := 1) rfl ?_
  refine g_icmp_eq (pc' := 1385) O ⟨dL_law_1382, rfl⟩ E (tgt := 1387) (by decide) (fun E => ?_) (fun E => ?_)
  · refine g_iload (pc' := 1389) O ⟨dL_law_1387, rfl⟩ (q := 1) rfl ?_
    refine jn0_of (P := G l D X 8 (LW ad cy) (k0 + 1) (n0 + 6) s_8 1404 [(0, .ref b), (1, .ref (ad 0)), (2, .ref (ad 35)), (3, .ref (ad 54)), (4, .int i)] []) E ?_ ?_
    · intro E
      show G l D X 8 (LW ad cy) (k0 + 1) (n0 + 6) s_8 1404 [(0, .ref b), (1, .ref (ad 0)), (2, .ref (ad 35)), (3, .ref (ad 54)), (4, .int i)] []
      refine g_goto (pc' := 1407) O ⟨dL_law_1404, rfl⟩ (tgt := 1943) (by decide) ?_
      exact g_widen (by omega) (by omega) (hko _ E)
    · intro k1404 hk1404 E
      refine g_if_ne (pc' := 1392) O ⟨dL_law_1389, rfl⟩ E (tgt := 1404) (by decide) (fun E => ?_) (fun E => ?_)
      · refine g_sub (lv' := [(0, .ref b), (1, .ref (ad 0)), (2, .ref (ad 35)), (3, .ref (ad 54)), (4, .int i)]) [2, 3, 4, 5, 6] rfl ?_
        exact hk1404 E
      · refine g_aload_n (pc' := 1393) O ⟨dL_law_1392, rfl⟩ (q := 5) rfl rfl ?_
        refine g_iconst (pc' := 1394) O ⟨dL_law_1393, rfl⟩ (v := (0 : Int32)) rfl ?_
        refine g_lald (pc' := 1395) O ⟨dL_law_1394, rfl⟩ (wL_54 ad cy s_8) E (fun E => ?_)
        refine g_iload (pc' := 1397) O ⟨dL_law_1395, rfl⟩ (q := 0) rfl ?_
        refine g_i2l (pc' := 1398) O ⟨dL_law_1397, rfl⟩ ?_
        refine g_lcmp (pc' := 1399) O ⟨dL_law_1398, rfl⟩ ?_
        refine g_if_eq (pc' := 1402) O ⟨dL_law_1399, rfl⟩ E (tgt := 1404) (by decide) (fun E => ?_) (fun E => ?_)
        · refine g_sub (lv' := [(0, .ref b), (1, .ref (ad 0)), (2, .ref (ad 35)), (3, .ref (ad 54)), (4, .int i)]) [2, 3, 4, 5, 6] rfl ?_
          exact hk1404 E
        · refine g_iconst (pc' := 1403) O ⟨dL_law_1402, rfl⟩ (v := (0 : Int32)) rfl ?_
          cases E
  · refine g_iconst (pc' := 1386) O ⟨dL_law_1385, rfl⟩ (v := (0 : Int32)) rfl ?_
    cases E
set_option maxRecDepth 100000 in
set_option maxHeartbeats 4000000 in
theorem tc_28 (l : Launch) (D : va_G) (ad : Nat → Nat) (cy : Nat → ClassId) (hfl : l.stackTraces = false) {X : Cx} {R : Room} {b L : Nat} {xs : Nat → Int32} (O : Ok l D cy X cL_law RL 8 R) (hN : NCX X) (hX : SX X b L xs) (hRf : 300 ≤ R.frames ∧ 9000 ≤ R.locals) {k0 n0 : Nat} (hk : k0 + 8 ≤ R.cells ∧ n0 + 48 ≤ R.slots) {i : Int32} {s : LWS} {kont : LWS → Option Unit} {o : Unit} (E : lc_28 L xs i s kont = some o) (hko : ∀ s1, kont s1 = some o → G l D X 8 (LW ad cy) (k0 + 8) (n0 + 48) s1 1943 [(0, .ref b), (1, .ref (ad 0)), (2, .ref (ad 35)), (3, .ref (ad 54)), (4, .int i)] []) : G l D X 8 (LW ad cy) k0 n0 s 1407 [(0, .ref b), (1, .ref (ad 0)), (2, .ref (ad 35)), (3, .ref (ad 54)), (4, .int i)] [] := by
  obtain ⟨hk1, hk2⟩ := hk
  unfold lc_28 at E
  refine g_aload_n (pc' := 1408) O ⟨dL_law_1407, rfl⟩ (q := 1) rfl rfl ?_
  obtain ⟨r_1, c_2, E⟩ := bd_of E
  refine g_Ui (pc' := 1411) O ⟨dL_law_1408, rfl⟩ (y := yX10_isStep) (As := []) (st := []) (subC ad cy s) (t_X10_isStep l D ad cy (h := s.1) c_2) kw_469 kw_60 kw_466 kw_467 kw_468 rfl (wL_0 ad cy s) hd_X10_isStep ⟨Nat.le_trans (Nat.le_of_ble_eq_true rfl) hRf.1, Nat.le_trans (Nat.le_of_ble_eq_true rfl) hRf.2⟩ ⟨by omega, by omega⟩ rfl (Nat.le_of_ble_eq_true rfl) ?_
  refine g_nmh E (fun s_3 E => ?_)
  refine g_aload_n (pc' := 1412) O ⟨dL_law_1411, rfl⟩ (q := 2) rfl rfl ?_
  obtain ⟨r_4, c_5, E⟩ := bd_of E
  refine g_Ui (pc' := 1415) O ⟨dL_law_1412, rfl⟩ (y := yX11_isStep) (As := []) (st := [.int r_1]) (subM ad cy s_3) (t_X11_isStep l D (fun k => ad (35 + k)) cy (h := s_3.2.1) c_5) kw_1377 kw_70 kw_1374 kw_1375 kw_1376 rfl (wL_35 ad cy s_3) hd_X11_isStep ⟨Nat.le_trans (Nat.le_of_ble_eq_true rfl) hRf.1, Nat.le_trans (Nat.le_of_ble_eq_true rfl) hRf.2⟩ ⟨by omega, by omega⟩ rfl (Nat.le_of_ble_eq_true rfl) ?_
  refine g_nmh E (fun s_6 E => ?_)
  refine g_icmp_eq (pc' := 1418) O ⟨dL_law_1415, rfl⟩ E (tgt := 1943) (by decide) (fun E => ?_) (fun E => ?_)
  · exact g_widen (by omega) (by omega) (hko _ E)
  · refine g_iconst (pc' := 1419) O ⟨dL_law_1418, rfl⟩ (v := (0 : Int32)) rfl ?_
    cases E
set_option maxRecDepth 100000 in
set_option maxHeartbeats 4000000 in
theorem tc_29 (l : Launch) (D : va_G) (ad : Nat → Nat) (cy : Nat → ClassId) (hfl : l.stackTraces = false) {X : Cx} {R : Room} {b L : Nat} {xs : Nat → Int32} (O : Ok l D cy X cL_law RL 8 R) (hN : NCX X) (hX : SX X b L xs) (hRf : 300 ≤ R.frames ∧ 9000 ≤ R.locals) {k0 n0 : Nat} (hk : k0 + 8 ≤ R.cells ∧ n0 + 48 ≤ R.slots) {i : Int32} {s : LWS} {kont : LWS → Option Unit} {o : Unit} (E : lc_29 L xs i s kont = some o) (hko : ∀ s1, kont s1 = some o → G l D X 8 (LW ad cy) (k0 + 8) (n0 + 48) s1 1943 [(0, .ref b), (1, .ref (ad 0)), (2, .ref (ad 35)), (3, .ref (ad 54)), (4, .int i)] []) : G l D X 8 (LW ad cy) k0 n0 s 1420 [(0, .ref b), (1, .ref (ad 0)), (2, .ref (ad 35)), (3, .ref (ad 54)), (4, .int i)] [] := by
  obtain ⟨hk1, hk2⟩ := hk
  unfold lc_29 at E
  refine g_aload_n (pc' := 1421) O ⟨dL_law_1420, rfl⟩ (q := 1) rfl rfl ?_
  refine g_aload_n (pc' := 1422) O ⟨dL_law_1421, rfl⟩ (q := 0) rfl rfl ?_
  refine g_iload (pc' := 1424) O ⟨dL_law_1422, rfl⟩ (q := 4) rfl ?_
  refine g_iconst (pc' := 1425) O ⟨dL_law_1424, rfl⟩ (v := (1 : Int32)) rfl ?_
  refine g_iadd (pc' := 1426) O ⟨dL_law_1425, rfl⟩ ?_
  refine g_sld (pc' := 1427) O ⟨dL_law_1426, rfl⟩ hX E (fun E => ?_)
  refine g_aload_n (pc' := 1428) O ⟨dL_law_1427, rfl⟩ (q := 0) rfl rfl ?_
  refine g_iload (pc' := 1430) O ⟨dL_law_1428, rfl⟩ (q := 4) rfl ?_
  refine g_iconst (pc' := 1431) O ⟨dL_law_1430, rfl⟩ (v := (2 : Int32)) rfl ?_
  refine g_iadd (pc' := 1432) O ⟨dL_law_1431, rfl⟩ ?_
  refine g_sld (pc' := 1433) O ⟨dL_law_1432, rfl⟩ hX E (fun E => ?_)
  refine g_aload_n (pc' := 1434) O ⟨dL_law_1433, rfl⟩ (q := 3) rfl rfl ?_
  obtain ⟨r_1, c_2, E⟩ := bd_of E
  refine g_H (pc' := 1437) O hN ⟨dL_law_1434, rfl⟩ (y := yL_bad) (As := [.ref (ad 0), .int (xs (i + (1 : Int32)).toNatClampNeg), .int (xs (i + (2 : Int32)).toNatClampNeg), .ref (ad 54)]) (st := []) (th_bad l D ad cy hfl (s := s) c_2) kw_955 kw_59 kw_953 kw_954 hd_L_bad ⟨Nat.le_trans (Nat.le_of_ble_eq_true rfl) hRf.1, Nat.le_trans (Nat.le_of_ble_eq_true rfl) hRf.2⟩ ⟨by omega, by omega⟩ rfl (Nat.le_of_ble_eq_true rfl) ?_
  refine g_istore (pc' := 1439) O ⟨dL_law_1437, rfl⟩ (lv' := [(5, .int r_1.1), (0, .ref b), (1, .ref (ad 0)), (2, .ref (ad 35)), (3, .ref (ad 54)), (4, .int i)]) (by decide) rfl ?_
  refine g_aload_n (pc' := 1440) O ⟨dL_law_1439, rfl⟩ (q := 3) rfl rfl ?_
  refine g_aload_n (pc' := 1441) O ⟨dL_law_1440, rfl⟩ (q := 1) rfl rfl ?_
  refine g_iload (pc' := 1443) O ⟨dL_law_1441, rfl⟩ (q := 5) rfl ?_
  refine g_iconst (pc' := 1444) O ⟨dL_law_1443, rfl⟩ (v := (1 : Int32)) rfl ?_
  refine g_iadd (pc' := 1445) O ⟨dL_law_1444, rfl⟩ ?_
  refine g_sld (pc' := 1446) O ⟨dL_law_1445, rfl⟩ hX E (fun E => ?_)
  refine g_aload_n (pc' := 1447) O ⟨dL_law_1446, rfl⟩ (q := 1) rfl rfl ?_
  refine g_iload (pc' := 1449) O ⟨dL_law_1447, rfl⟩ (q := 5) rfl ?_
  refine g_iconst (pc' := 1450) O ⟨dL_law_1449, rfl⟩ (v := (2 : Int32)) rfl ?_
  refine g_iadd (pc' := 1451) O ⟨dL_law_1450, rfl⟩ ?_
  refine g_sld (pc' := 1452) O ⟨dL_law_1451, rfl⟩ hX E (fun E => ?_)
  obtain ⟨r_3, c_4, E⟩ := bd_of E
  refine g_Ui (pc' := 1455) O ⟨dL_law_1452, rfl⟩ (y := yX11_bad) (As := [.int (xs (i + (1 : Int32)).toNatClampNeg), .int (xs (i + (2 : Int32)).toNatClampNeg)]) (st := []) (subM ad cy r_1.2) (t_X11_bad l D (fun k => ad (35 + k)) cy (h := r_1.2.2.1) c_4) kw_1381 kw_70 kw_1378 kw_1379 kw_1380 rfl (wL_35 ad cy r_1.2) hd_X11_bad ⟨Nat.le_trans (Nat.le_of_ble_eq_true rfl) hRf.1, Nat.le_trans (Nat.le_of_ble_eq_true rfl) hRf.2⟩ ⟨by omega, by omega⟩ rfl (Nat.le_of_ble_eq_true rfl) ?_
  refine g_nmh E (fun s_5 E => ?_)
  refine g_istore (pc' := 1457) O ⟨dL_law_1455, rfl⟩ (lv' := [(6, .int r_3.1), (5, .int r_1.1), (0, .ref b), (1, .ref (ad 0)), (2, .ref (ad 35)), (3, .ref (ad 54)), (4, .int i)]) (by decide) rfl ?_
  refine g_aload_n (pc' := 1458) O ⟨dL_law_1457, rfl⟩ (q := 4) rfl rfl ?_
  obtain ⟨r_6, c_7, E⟩ := bd_of E
  refine g_Ui (pc' := 1461) O ⟨dL_law_1458, rfl⟩ (y := yX11_thrown) (As := []) (st := []) (subM ad cy s_5) (t_X11_thrown l D (fun k => ad (35 + k)) cy (h := s_5.2.1) c_7) kw_1160 kw_70 kw_1157 kw_1158 kw_1159 rfl (wL_35 ad cy s_5) hd_X11_thrown ⟨Nat.le_trans (Nat.le_of_ble_eq_true rfl) hRf.1, Nat.le_trans (Nat.le_of_ble_eq_true rfl) hRf.2⟩ ⟨by omega, by omega⟩ rfl (Nat.le_of_ble_eq_true rfl) ?_
  refine g_nmh E (fun s_8 E => ?_)
  refine g_iload (pc' := 1463) O ⟨dL_law_1461, rfl⟩ (q := 1) rfl ?_
  refine g_icmp_eq (pc' := 1466) O ⟨dL_law_1463, rfl⟩ E (tgt := 1468) (by decide) (fun E => ?_) (fun E => ?_)
  · refine g_iload (pc' := 1470) O ⟨dL_law_1468, rfl⟩ (q := 1) rfl ?_
    refine jn0_of (P := G l D X 8 (LW ad cy) (k0 + 2) (n0 + 12) s_8 1485 [(0, .ref b), (1, .ref (ad 0)), (2, .ref (ad 35)), (3, .ref (ad 54)), (4, .int i)] []) E ?_ ?_
    · intro E
      show G l D X 8 (LW ad cy) (k0 + 2) (n0 + 12) s_8 1485 [(0, .ref b), (1, .ref (ad 0)), (2, .ref (ad 35)), (3, .ref (ad 54)), (4, .int i)] []
      refine g_goto (pc' := 1488) O ⟨dL_law_1485, rfl⟩ (tgt := 1943) (by decide) ?_
      exact g_widen (by omega) (by omega) (hko _ E)
    · intro k1485 hk1485 E
      refine g_if_ne (pc' := 1473) O ⟨dL_law_1470, rfl⟩ E (tgt := 1485) (by decide) (fun E => ?_) (fun E => ?_)
      · refine g_sub (lv' := [(0, .ref b), (1, .ref (ad 0)), (2, .ref (ad 35)), (3, .ref (ad 54)), (4, .int i)]) [2, 3, 4, 5, 6] rfl ?_
        exact hk1485 E
      · refine g_aload_n (pc' := 1474) O ⟨dL_law_1473, rfl⟩ (q := 5) rfl rfl ?_
        refine g_iconst (pc' := 1475) O ⟨dL_law_1474, rfl⟩ (v := (0 : Int32)) rfl ?_
        refine g_lald (pc' := 1476) O ⟨dL_law_1475, rfl⟩ (wL_54 ad cy s_8) E (fun E => ?_)
        refine g_iload (pc' := 1478) O ⟨dL_law_1476, rfl⟩ (q := 0) rfl ?_
        refine g_i2l (pc' := 1479) O ⟨dL_law_1478, rfl⟩ ?_
        refine g_lcmp (pc' := 1480) O ⟨dL_law_1479, rfl⟩ ?_
        refine g_if_eq (pc' := 1483) O ⟨dL_law_1480, rfl⟩ E (tgt := 1485) (by decide) (fun E => ?_) (fun E => ?_)
        · refine g_sub (lv' := [(0, .ref b), (1, .ref (ad 0)), (2, .ref (ad 35)), (3, .ref (ad 54)), (4, .int i)]) [2, 3, 4, 5, 6] rfl ?_
          exact hk1485 E
        · refine g_iconst (pc' := 1484) O ⟨dL_law_1483, rfl⟩ (v := (0 : Int32)) rfl ?_
          cases E
  · refine g_iconst (pc' := 1467) O ⟨dL_law_1466, rfl⟩ (v := (0 : Int32)) rfl ?_
    cases E
set_option maxRecDepth 100000 in
set_option maxHeartbeats 4000000 in
theorem tc_30 (l : Launch) (D : va_G) (ad : Nat → Nat) (cy : Nat → ClassId) (hfl : l.stackTraces = false) {X : Cx} {R : Room} {b L : Nat} {xs : Nat → Int32} (O : Ok l D cy X cL_law RL 8 R) (hN : NCX X) (hX : SX X b L xs) (hRf : 300 ≤ R.frames ∧ 9000 ≤ R.locals) {k0 n0 : Nat} (hk : k0 + 8 ≤ R.cells ∧ n0 + 48 ≤ R.slots) {i : Int32} {s : LWS} {kont : LWS → Option Unit} {o : Unit} (E : lc_30 L xs i s kont = some o) (hko : ∀ s1, kont s1 = some o → G l D X 8 (LW ad cy) (k0 + 8) (n0 + 48) s1 1943 [(0, .ref b), (1, .ref (ad 0)), (2, .ref (ad 35)), (3, .ref (ad 54)), (4, .int i)] []) : G l D X 8 (LW ad cy) k0 n0 s 1488 [(0, .ref b), (1, .ref (ad 0)), (2, .ref (ad 35)), (3, .ref (ad 54)), (4, .int i)] [] := by
  obtain ⟨hk1, hk2⟩ := hk
  unfold lc_30 at E
  refine g_aload_n (pc' := 1489) O ⟨dL_law_1488, rfl⟩ (q := 1) rfl rfl ?_
  refine g_aload_n (pc' := 1490) O ⟨dL_law_1489, rfl⟩ (q := 0) rfl rfl ?_
  refine g_iload (pc' := 1492) O ⟨dL_law_1490, rfl⟩ (q := 4) rfl ?_
  refine g_iconst (pc' := 1493) O ⟨dL_law_1492, rfl⟩ (v := (1 : Int32)) rfl ?_
  refine g_iadd (pc' := 1494) O ⟨dL_law_1493, rfl⟩ ?_
  refine g_sld (pc' := 1495) O ⟨dL_law_1494, rfl⟩ hX E (fun E => ?_)
  refine g_aload_n (pc' := 1496) O ⟨dL_law_1495, rfl⟩ (q := 0) rfl rfl ?_
  refine g_iload (pc' := 1498) O ⟨dL_law_1496, rfl⟩ (q := 4) rfl ?_
  refine g_iconst (pc' := 1499) O ⟨dL_law_1498, rfl⟩ (v := (2 : Int32)) rfl ?_
  refine g_iadd (pc' := 1500) O ⟨dL_law_1499, rfl⟩ ?_
  refine g_sld (pc' := 1501) O ⟨dL_law_1500, rfl⟩ hX E (fun E => ?_)
  refine g_aload_n (pc' := 1502) O ⟨dL_law_1501, rfl⟩ (q := 3) rfl rfl ?_
  obtain ⟨r_1, c_2, E⟩ := bd_of E
  refine g_H (pc' := 1505) O hN ⟨dL_law_1502, rfl⟩ (y := yL_tells) (As := [.ref (ad 0), .int (xs (i + (1 : Int32)).toNatClampNeg), .int (xs (i + (2 : Int32)).toNatClampNeg), .ref (ad 54)]) (st := []) (th_tells l D ad cy hfl (s := s) c_2) kw_966 kw_59 kw_964 kw_965 hd_L_tells ⟨Nat.le_trans (Nat.le_of_ble_eq_true rfl) hRf.1, Nat.le_trans (Nat.le_of_ble_eq_true rfl) hRf.2⟩ ⟨by omega, by omega⟩ rfl (Nat.le_of_ble_eq_true rfl) ?_
  refine g_istore (pc' := 1507) O ⟨dL_law_1505, rfl⟩ (lv' := [(5, .int r_1.1), (0, .ref b), (1, .ref (ad 0)), (2, .ref (ad 35)), (3, .ref (ad 54)), (4, .int i)]) (by decide) rfl ?_
  refine g_aload_n (pc' := 1508) O ⟨dL_law_1507, rfl⟩ (q := 3) rfl rfl ?_
  refine g_aload_n (pc' := 1509) O ⟨dL_law_1508, rfl⟩ (q := 1) rfl rfl ?_
  refine g_iload (pc' := 1511) O ⟨dL_law_1509, rfl⟩ (q := 5) rfl ?_
  refine g_iconst (pc' := 1512) O ⟨dL_law_1511, rfl⟩ (v := (1 : Int32)) rfl ?_
  refine g_iadd (pc' := 1513) O ⟨dL_law_1512, rfl⟩ ?_
  refine g_sld (pc' := 1514) O ⟨dL_law_1513, rfl⟩ hX E (fun E => ?_)
  refine g_aload_n (pc' := 1515) O ⟨dL_law_1514, rfl⟩ (q := 1) rfl rfl ?_
  refine g_iload (pc' := 1517) O ⟨dL_law_1515, rfl⟩ (q := 5) rfl ?_
  refine g_iconst (pc' := 1518) O ⟨dL_law_1517, rfl⟩ (v := (2 : Int32)) rfl ?_
  refine g_iadd (pc' := 1519) O ⟨dL_law_1518, rfl⟩ ?_
  refine g_sld (pc' := 1520) O ⟨dL_law_1519, rfl⟩ hX E (fun E => ?_)
  obtain ⟨r_3, c_4, E⟩ := bd_of E
  refine g_Ul (pc' := 1523) O ⟨dL_law_1520, rfl⟩ (y := yX11_tells) (As := [.int (xs (i + (1 : Int32)).toNatClampNeg), .int (xs (i + (2 : Int32)).toNatClampNeg)]) (st := []) (subM ad cy r_1.2) (t_X11_tells l D (fun k => ad (35 + k)) cy (h := r_1.2.2.1) c_4) kw_1389 kw_70 kw_1386 kw_1387 kw_1388 rfl (wL_35 ad cy r_1.2) hd_X11_tells ⟨Nat.le_trans (Nat.le_of_ble_eq_true rfl) hRf.1, Nat.le_trans (Nat.le_of_ble_eq_true rfl) hRf.2⟩ ⟨by omega, by omega⟩ rfl (Nat.le_of_ble_eq_true rfl) ?_
  refine g_nmh E (fun s_5 E => ?_)
  refine g_lstore (pc' := 1525) O ⟨dL_law_1523, rfl⟩ (lv' := [(6, .long r_3.1), (5, .int r_1.1), (0, .ref b), (1, .ref (ad 0)), (2, .ref (ad 35)), (3, .ref (ad 54)), (4, .int i)]) (by decide) rfl ?_
  refine g_aload_n (pc' := 1526) O ⟨dL_law_1525, rfl⟩ (q := 4) rfl rfl ?_
  obtain ⟨r_6, c_7, E⟩ := bd_of E
  refine g_Ui (pc' := 1529) O ⟨dL_law_1526, rfl⟩ (y := yX11_thrown) (As := []) (st := []) (subM ad cy s_5) (t_X11_thrown l D (fun k => ad (35 + k)) cy (h := s_5.2.1) c_7) kw_1160 kw_70 kw_1157 kw_1158 kw_1159 rfl (wL_35 ad cy s_5) hd_X11_thrown ⟨Nat.le_trans (Nat.le_of_ble_eq_true rfl) hRf.1, Nat.le_trans (Nat.le_of_ble_eq_true rfl) hRf.2⟩ ⟨by omega, by omega⟩ rfl (Nat.le_of_ble_eq_true rfl) ?_
  refine g_nmh E (fun s_8 E => ?_)
  refine g_iload (pc' := 1531) O ⟨dL_law_1529, rfl⟩ (q := 1) rfl ?_
  refine g_icmp_eq (pc' := 1534) O ⟨dL_law_1531, rfl⟩ E (tgt := 1536) (by decide) (fun E => ?_) (fun E => ?_)
  · refine g_iload (pc' := 1538) O ⟨dL_law_1536, rfl⟩ (q := 1) rfl ?_
    refine jn0_of (P := G l D X 8 (LW ad cy) (k0 + 2) (n0 + 12) s_8 1552 [(0, .ref b), (1, .ref (ad 0)), (2, .ref (ad 35)), (3, .ref (ad 54)), (4, .int i)] []) E ?_ ?_
    · intro E
      show G l D X 8 (LW ad cy) (k0 + 2) (n0 + 12) s_8 1552 [(0, .ref b), (1, .ref (ad 0)), (2, .ref (ad 35)), (3, .ref (ad 54)), (4, .int i)] []
      refine g_goto (pc' := 1555) O ⟨dL_law_1552, rfl⟩ (tgt := 1943) (by decide) ?_
      exact g_widen (by omega) (by omega) (hko _ E)
    · intro k1552 hk1552 E
      refine g_if_ne (pc' := 1541) O ⟨dL_law_1538, rfl⟩ E (tgt := 1552) (by decide) (fun E => ?_) (fun E => ?_)
      · refine g_sub (lv' := [(0, .ref b), (1, .ref (ad 0)), (2, .ref (ad 35)), (3, .ref (ad 54)), (4, .int i)]) [2, 3, 4, 5, 6] rfl ?_
        exact hk1552 E
      · refine g_aload_n (pc' := 1542) O ⟨dL_law_1541, rfl⟩ (q := 5) rfl rfl ?_
        refine g_iconst (pc' := 1543) O ⟨dL_law_1542, rfl⟩ (v := (0 : Int32)) rfl ?_
        refine g_lald (pc' := 1544) O ⟨dL_law_1543, rfl⟩ (wL_54 ad cy s_8) E (fun E => ?_)
        refine g_lload (pc' := 1546) O ⟨dL_law_1544, rfl⟩ (q := 0) rfl ?_
        refine g_lcmp (pc' := 1547) O ⟨dL_law_1546, rfl⟩ ?_
        refine g_if_eq (pc' := 1550) O ⟨dL_law_1547, rfl⟩ E (tgt := 1552) (by decide) (fun E => ?_) (fun E => ?_)
        · refine g_sub (lv' := [(0, .ref b), (1, .ref (ad 0)), (2, .ref (ad 35)), (3, .ref (ad 54)), (4, .int i)]) [2, 3, 4, 5, 6] rfl ?_
          exact hk1552 E
        · refine g_iconst (pc' := 1551) O ⟨dL_law_1550, rfl⟩ (v := (0 : Int32)) rfl ?_
          cases E
  · refine g_iconst (pc' := 1535) O ⟨dL_law_1534, rfl⟩ (v := (0 : Int32)) rfl ?_
    cases E
set_option maxRecDepth 100000 in
set_option maxHeartbeats 4000000 in
theorem tc_31 (l : Launch) (D : va_G) (ad : Nat → Nat) (cy : Nat → ClassId) (hfl : l.stackTraces = false) {X : Cx} {R : Room} {b L : Nat} {xs : Nat → Int32} (O : Ok l D cy X cL_law RL 8 R) (hN : NCX X) (hX : SX X b L xs) (hRf : 300 ≤ R.frames ∧ 9000 ≤ R.locals) {k0 n0 : Nat} (hk : k0 + 8 ≤ R.cells ∧ n0 + 48 ≤ R.slots) {i : Int32} {s : LWS} {kont : LWS → Option Unit} {o : Unit} (E : lc_31 L xs i s kont = some o) (hko : ∀ s1, kont s1 = some o → G l D X 8 (LW ad cy) (k0 + 8) (n0 + 48) s1 1943 [(0, .ref b), (1, .ref (ad 0)), (2, .ref (ad 35)), (3, .ref (ad 54)), (4, .int i)] []) : G l D X 8 (LW ad cy) k0 n0 s 1555 [(0, .ref b), (1, .ref (ad 0)), (2, .ref (ad 35)), (3, .ref (ad 54)), (4, .int i)] [] := by
  obtain ⟨hk1, hk2⟩ := hk
  unfold lc_31 at E
  refine g_aload_n (pc' := 1556) O ⟨dL_law_1555, rfl⟩ (q := 1) rfl rfl ?_
  refine g_aload_n (pc' := 1557) O ⟨dL_law_1556, rfl⟩ (q := 0) rfl rfl ?_
  refine g_iload (pc' := 1559) O ⟨dL_law_1557, rfl⟩ (q := 4) rfl ?_
  refine g_iconst (pc' := 1560) O ⟨dL_law_1559, rfl⟩ (v := (1 : Int32)) rfl ?_
  refine g_iadd (pc' := 1561) O ⟨dL_law_1560, rfl⟩ ?_
  refine g_sld (pc' := 1562) O ⟨dL_law_1561, rfl⟩ hX E (fun E => ?_)
  refine g_i2l (pc' := 1563) O ⟨dL_law_1562, rfl⟩ ?_
  refine g_bipush (pc' := 1565) O ⟨dL_law_1563, rfl⟩ (v := (32 : Int32)) rfl ?_
  refine g_lshl (pc' := 1566) O ⟨dL_law_1565, rfl⟩ ?_
  refine g_aload_n (pc' := 1567) O ⟨dL_law_1566, rfl⟩ (q := 0) rfl rfl ?_
  refine g_iload (pc' := 1569) O ⟨dL_law_1567, rfl⟩ (q := 4) rfl ?_
  refine g_iconst (pc' := 1570) O ⟨dL_law_1569, rfl⟩ (v := (2 : Int32)) rfl ?_
  refine g_iadd (pc' := 1571) O ⟨dL_law_1570, rfl⟩ ?_
  refine g_sld (pc' := 1572) O ⟨dL_law_1571, rfl⟩ hX E (fun E => ?_)
  refine g_i2l (pc' := 1573) O ⟨dL_law_1572, rfl⟩ ?_
  refine g_ldc2 (pc' := 1576) O ⟨dL_law_1573, rfl⟩ kw_1473 ?_
  refine g_land (pc' := 1577) O ⟨dL_law_1576, rfl⟩ ?_
  refine g_lor (pc' := 1578) O ⟨dL_law_1577, rfl⟩ ?_
  obtain ⟨r_1, c_2, E⟩ := bd_of E
  refine g_Ui (pc' := 1581) O ⟨dL_law_1578, rfl⟩ (y := yX10_hidden) (As := [.long ((lshl (i2l (xs (i + (1 : Int32)).toNatClampNeg)) (32 : Int32)) ||| ((i2l (xs (i + (2 : Int32)).toNatClampNeg)) &&& (4294967295 : Int64)))]) (st := []) (subC ad cy s) (t_X10_hidden l D ad cy (h := s.1) c_2) kw_477 kw_60 kw_474 kw_475 kw_476 rfl (wL_0 ad cy s) hd_X10_hidden ⟨Nat.le_trans (Nat.le_of_ble_eq_true rfl) hRf.1, Nat.le_trans (Nat.le_of_ble_eq_true rfl) hRf.2⟩ ⟨by omega, by omega⟩ rfl (Nat.le_of_ble_eq_true rfl) ?_
  refine g_nmh E (fun s_3 E => ?_)
  refine g_aload_n (pc' := 1582) O ⟨dL_law_1581, rfl⟩ (q := 2) rfl rfl ?_
  refine g_aload_n (pc' := 1583) O ⟨dL_law_1582, rfl⟩ (q := 0) rfl rfl ?_
  refine g_iload (pc' := 1585) O ⟨dL_law_1583, rfl⟩ (q := 4) rfl ?_
  refine g_iconst (pc' := 1586) O ⟨dL_law_1585, rfl⟩ (v := (1 : Int32)) rfl ?_
  refine g_iadd (pc' := 1587) O ⟨dL_law_1586, rfl⟩ ?_
  refine g_sld (pc' := 1588) O ⟨dL_law_1587, rfl⟩ hX E (fun E => ?_)
  refine g_i2l (pc' := 1589) O ⟨dL_law_1588, rfl⟩ ?_
  refine g_bipush (pc' := 1591) O ⟨dL_law_1589, rfl⟩ (v := (32 : Int32)) rfl ?_
  refine g_lshl (pc' := 1592) O ⟨dL_law_1591, rfl⟩ ?_
  refine g_aload_n (pc' := 1593) O ⟨dL_law_1592, rfl⟩ (q := 0) rfl rfl ?_
  refine g_iload (pc' := 1595) O ⟨dL_law_1593, rfl⟩ (q := 4) rfl ?_
  refine g_iconst (pc' := 1596) O ⟨dL_law_1595, rfl⟩ (v := (2 : Int32)) rfl ?_
  refine g_iadd (pc' := 1597) O ⟨dL_law_1596, rfl⟩ ?_
  refine g_sld (pc' := 1598) O ⟨dL_law_1597, rfl⟩ hX E (fun E => ?_)
  refine g_i2l (pc' := 1599) O ⟨dL_law_1598, rfl⟩ ?_
  refine g_ldc2 (pc' := 1602) O ⟨dL_law_1599, rfl⟩ kw_1473 ?_
  refine g_land (pc' := 1603) O ⟨dL_law_1602, rfl⟩ ?_
  refine g_lor (pc' := 1604) O ⟨dL_law_1603, rfl⟩ ?_
  obtain ⟨r_4, c_5, E⟩ := bd_of E
  refine g_Ui (pc' := 1607) O ⟨dL_law_1604, rfl⟩ (y := yX11_hidden) (As := [.long ((lshl (i2l (xs (i + (1 : Int32)).toNatClampNeg)) (32 : Int32)) ||| ((i2l (xs (i + (2 : Int32)).toNatClampNeg)) &&& (4294967295 : Int64)))]) (st := [.int r_1.1]) (subM ad cy s_3) (t_X11_hidden l D (fun k => ad (35 + k)) cy (h := s_3.2.1) c_5) kw_1397 kw_70 kw_1394 kw_1395 kw_1396 rfl (wL_35 ad cy s_3) hd_X11_hidden ⟨Nat.le_trans (Nat.le_of_ble_eq_true rfl) hRf.1, Nat.le_trans (Nat.le_of_ble_eq_true rfl) hRf.2⟩ ⟨by omega, by omega⟩ rfl (Nat.le_of_ble_eq_true rfl) ?_
  refine g_nmh E (fun s_6 E => ?_)
  refine g_icmp_eq (pc' := 1610) O ⟨dL_law_1607, rfl⟩ E (tgt := 1943) (by decide) (fun E => ?_) (fun E => ?_)
  · exact g_widen (by omega) (by omega) (hko _ E)
  · refine g_iconst (pc' := 1611) O ⟨dL_law_1610, rfl⟩ (v := (0 : Int32)) rfl ?_
    cases E
set_option maxRecDepth 100000 in
set_option maxHeartbeats 4000000 in
theorem tc_32 (l : Launch) (D : va_G) (ad : Nat → Nat) (cy : Nat → ClassId) (hfl : l.stackTraces = false) {X : Cx} {R : Room} {b L : Nat} {xs : Nat → Int32} (O : Ok l D cy X cL_law RL 8 R) (hN : NCX X) (hX : SX X b L xs) (hRf : 300 ≤ R.frames ∧ 9000 ≤ R.locals) {k0 n0 : Nat} (hk : k0 + 8 ≤ R.cells ∧ n0 + 48 ≤ R.slots) {i : Int32} {s : LWS} {kont : LWS → Option Unit} {o : Unit} (E : lc_32 L xs i s kont = some o) (hko : ∀ s1, kont s1 = some o → G l D X 8 (LW ad cy) (k0 + 8) (n0 + 48) s1 1943 [(0, .ref b), (1, .ref (ad 0)), (2, .ref (ad 35)), (3, .ref (ad 54)), (4, .int i)] []) : G l D X 8 (LW ad cy) k0 n0 s 1612 [(0, .ref b), (1, .ref (ad 0)), (2, .ref (ad 35)), (3, .ref (ad 54)), (4, .int i)] [] := by
  obtain ⟨hk1, hk2⟩ := hk
  unfold lc_32 at E
  refine g_aload_n (pc' := 1613) O ⟨dL_law_1612, rfl⟩ (q := 1) rfl rfl ?_
  obtain ⟨r_1, c_2, E⟩ := bd_of E
  refine g_Ui (pc' := 1616) O ⟨dL_law_1613, rfl⟩ (y := yX10_tests) (As := []) (st := []) (subC ad cy s) (t_X10_tests l D ad cy (h := s.1) c_2) kw_495 kw_60 kw_492 kw_493 kw_494 rfl (wL_0 ad cy s) hd_X10_tests ⟨Nat.le_trans (Nat.le_of_ble_eq_true rfl) hRf.1, Nat.le_trans (Nat.le_of_ble_eq_true rfl) hRf.2⟩ ⟨by omega, by omega⟩ rfl (Nat.le_of_ble_eq_true rfl) ?_
  refine g_nmh E (fun s_3 E => ?_)
  refine g_aload_n (pc' := 1617) O ⟨dL_law_1616, rfl⟩ (q := 2) rfl rfl ?_
  obtain ⟨r_4, c_5, E⟩ := bd_of E
  refine g_Ui (pc' := 1620) O ⟨dL_law_1617, rfl⟩ (y := yX11_tests) (As := []) (st := [.int r_1.1]) (subM ad cy s_3) (t_X11_tests l D (fun k => ad (35 + k)) cy (h := s_3.2.1) c_5) kw_1401 kw_70 kw_1398 kw_1399 kw_1400 rfl (wL_35 ad cy s_3) hd_X11_tests ⟨Nat.le_trans (Nat.le_of_ble_eq_true rfl) hRf.1, Nat.le_trans (Nat.le_of_ble_eq_true rfl) hRf.2⟩ ⟨by omega, by omega⟩ rfl (Nat.le_of_ble_eq_true rfl) ?_
  refine g_nmh E (fun s_6 E => ?_)
  refine g_icmp_eq (pc' := 1623) O ⟨dL_law_1620, rfl⟩ E (tgt := 1943) (by decide) (fun E => ?_) (fun E => ?_)
  · exact g_widen (by omega) (by omega) (hko _ E)
  · refine g_iconst (pc' := 1624) O ⟨dL_law_1623, rfl⟩ (v := (0 : Int32)) rfl ?_
    cases E
set_option maxRecDepth 100000 in
set_option maxHeartbeats 4000000 in
theorem tc_33 (l : Launch) (D : va_G) (ad : Nat → Nat) (cy : Nat → ClassId) (hfl : l.stackTraces = false) {X : Cx} {R : Room} {b L : Nat} {xs : Nat → Int32} (O : Ok l D cy X cL_law RL 8 R) (hN : NCX X) (hX : SX X b L xs) (hRf : 300 ≤ R.frames ∧ 9000 ≤ R.locals) {k0 n0 : Nat} (hk : k0 + 8 ≤ R.cells ∧ n0 + 48 ≤ R.slots) {i : Int32} {s : LWS} {kont : LWS → Option Unit} {o : Unit} (E : lc_33 L xs i s kont = some o) (hko : ∀ s1, kont s1 = some o → G l D X 8 (LW ad cy) (k0 + 8) (n0 + 48) s1 1943 [(0, .ref b), (1, .ref (ad 0)), (2, .ref (ad 35)), (3, .ref (ad 54)), (4, .int i)] []) : G l D X 8 (LW ad cy) k0 n0 s 1625 [(0, .ref b), (1, .ref (ad 0)), (2, .ref (ad 35)), (3, .ref (ad 54)), (4, .int i)] [] := by
  obtain ⟨hk1, hk2⟩ := hk
  unfold lc_33 at E
  refine g_aload_n (pc' := 1626) O ⟨dL_law_1625, rfl⟩ (q := 1) rfl rfl ?_
  obtain ⟨r_1, c_2, E⟩ := bd_of E
  refine g_Ui (pc' := 1629) O ⟨dL_law_1626, rfl⟩ (y := yX10_bears) (As := []) (st := []) (subC ad cy s) (t_X10_bears l D ad cy (h := s.1) c_2) kw_517 kw_60 kw_514 kw_515 kw_516 rfl (wL_0 ad cy s) hd_X10_bears ⟨Nat.le_trans (Nat.le_of_ble_eq_true rfl) hRf.1, Nat.le_trans (Nat.le_of_ble_eq_true rfl) hRf.2⟩ ⟨by omega, by omega⟩ rfl (Nat.le_of_ble_eq_true rfl) ?_
  refine g_nmh E (fun s_3 E => ?_)
  refine g_aload_n (pc' := 1630) O ⟨dL_law_1629, rfl⟩ (q := 2) rfl rfl ?_
  obtain ⟨r_4, c_5, E⟩ := bd_of E
  refine g_Ui (pc' := 1633) O ⟨dL_law_1630, rfl⟩ (y := yX11_bears) (As := []) (st := [.int r_1.1]) (subM ad cy s_3) (t_X11_bears l D (fun k => ad (35 + k)) cy (h := s_3.2.1) c_5) kw_1409 kw_70 kw_1406 kw_1407 kw_1408 rfl (wL_35 ad cy s_3) hd_X11_bears ⟨Nat.le_trans (Nat.le_of_ble_eq_true rfl) hRf.1, Nat.le_trans (Nat.le_of_ble_eq_true rfl) hRf.2⟩ ⟨by omega, by omega⟩ rfl (Nat.le_of_ble_eq_true rfl) ?_
  refine g_nmh E (fun s_6 E => ?_)
  refine g_icmp_eq (pc' := 1636) O ⟨dL_law_1633, rfl⟩ E (tgt := 1943) (by decide) (fun E => ?_) (fun E => ?_)
  · exact g_widen (by omega) (by omega) (hko _ E)
  · refine g_iconst (pc' := 1637) O ⟨dL_law_1636, rfl⟩ (v := (0 : Int32)) rfl ?_
    cases E
set_option maxRecDepth 100000 in
set_option maxHeartbeats 4000000 in
theorem tc_34 (l : Launch) (D : va_G) (ad : Nat → Nat) (cy : Nat → ClassId) (hfl : l.stackTraces = false) {X : Cx} {R : Room} {b L : Nat} {xs : Nat → Int32} (O : Ok l D cy X cL_law RL 8 R) (hN : NCX X) (hX : SX X b L xs) (hRf : 300 ≤ R.frames ∧ 9000 ≤ R.locals) {k0 n0 : Nat} (hk : k0 + 8 ≤ R.cells ∧ n0 + 48 ≤ R.slots) {i : Int32} {s : LWS} {kont : LWS → Option Unit} {o : Unit} (E : lc_34 L xs i s kont = some o) (hko : ∀ s1, kont s1 = some o → G l D X 8 (LW ad cy) (k0 + 8) (n0 + 48) s1 1943 [(0, .ref b), (1, .ref (ad 0)), (2, .ref (ad 35)), (3, .ref (ad 54)), (4, .int i)] []) : G l D X 8 (LW ad cy) k0 n0 s 1638 [(0, .ref b), (1, .ref (ad 0)), (2, .ref (ad 35)), (3, .ref (ad 54)), (4, .int i)] [] := by
  obtain ⟨hk1, hk2⟩ := hk
  unfold lc_34 at E
  refine g_aload_n (pc' := 1639) O ⟨dL_law_1638, rfl⟩ (q := 1) rfl rfl ?_
  refine g_aload_n (pc' := 1640) O ⟨dL_law_1639, rfl⟩ (q := 0) rfl rfl ?_
  refine g_iload (pc' := 1642) O ⟨dL_law_1640, rfl⟩ (q := 4) rfl ?_
  refine g_iconst (pc' := 1643) O ⟨dL_law_1642, rfl⟩ (v := (1 : Int32)) rfl ?_
  refine g_iadd (pc' := 1644) O ⟨dL_law_1643, rfl⟩ ?_
  refine g_sld (pc' := 1645) O ⟨dL_law_1644, rfl⟩ hX E (fun E => ?_)
  refine g_aload_n (pc' := 1646) O ⟨dL_law_1645, rfl⟩ (q := 0) rfl rfl ?_
  refine g_iload (pc' := 1648) O ⟨dL_law_1646, rfl⟩ (q := 4) rfl ?_
  refine g_iconst (pc' := 1649) O ⟨dL_law_1648, rfl⟩ (v := (2 : Int32)) rfl ?_
  refine g_iadd (pc' := 1650) O ⟨dL_law_1649, rfl⟩ ?_
  refine g_sld (pc' := 1651) O ⟨dL_law_1650, rfl⟩ hX E (fun E => ?_)
  refine g_aload_n (pc' := 1652) O ⟨dL_law_1651, rfl⟩ (q := 3) rfl rfl ?_
  obtain ⟨r_1, c_2, E⟩ := bd_of E
  refine g_H (pc' := 1655) O hN ⟨dL_law_1652, rfl⟩ (y := yL_far) (As := [.ref (ad 0), .int (xs (i + (1 : Int32)).toNatClampNeg), .int (xs (i + (2 : Int32)).toNatClampNeg), .ref (ad 54)]) (st := []) (th_far l D ad cy hfl (s := s) c_2) kw_974 kw_59 kw_972 kw_973 hd_L_far ⟨Nat.le_trans (Nat.le_of_ble_eq_true rfl) hRf.1, Nat.le_trans (Nat.le_of_ble_eq_true rfl) hRf.2⟩ ⟨by omega, by omega⟩ rfl (Nat.le_of_ble_eq_true rfl) ?_
  refine g_istore (pc' := 1657) O ⟨dL_law_1655, rfl⟩ (lv' := [(5, .int r_1.1), (0, .ref b), (1, .ref (ad 0)), (2, .ref (ad 35)), (3, .ref (ad 54)), (4, .int i)]) (by decide) rfl ?_
  refine g_aload_n (pc' := 1658) O ⟨dL_law_1657, rfl⟩ (q := 3) rfl rfl ?_
  refine g_aload_n (pc' := 1659) O ⟨dL_law_1658, rfl⟩ (q := 1) rfl rfl ?_
  refine g_iload (pc' := 1661) O ⟨dL_law_1659, rfl⟩ (q := 5) rfl ?_
  refine g_iconst (pc' := 1662) O ⟨dL_law_1661, rfl⟩ (v := (1 : Int32)) rfl ?_
  refine g_iadd (pc' := 1663) O ⟨dL_law_1662, rfl⟩ ?_
  refine g_sld (pc' := 1664) O ⟨dL_law_1663, rfl⟩ hX E (fun E => ?_)
  refine g_aload_n (pc' := 1665) O ⟨dL_law_1664, rfl⟩ (q := 1) rfl rfl ?_
  refine g_iload (pc' := 1667) O ⟨dL_law_1665, rfl⟩ (q := 5) rfl ?_
  refine g_iconst (pc' := 1668) O ⟨dL_law_1667, rfl⟩ (v := (2 : Int32)) rfl ?_
  refine g_iadd (pc' := 1669) O ⟨dL_law_1668, rfl⟩ ?_
  refine g_sld (pc' := 1670) O ⟨dL_law_1669, rfl⟩ hX E (fun E => ?_)
  obtain ⟨r_3, c_4, E⟩ := bd_of E
  refine g_Ui (pc' := 1673) O ⟨dL_law_1670, rfl⟩ (y := yX11_far) (As := [.int (xs (i + (1 : Int32)).toNatClampNeg), .int (xs (i + (2 : Int32)).toNatClampNeg)]) (st := []) (subM ad cy r_1.2) (t_X11_far l D (fun k => ad (35 + k)) cy (h := r_1.2.2.1) c_4) kw_1413 kw_70 kw_1410 kw_1411 kw_1412 rfl (wL_35 ad cy r_1.2) hd_X11_far ⟨Nat.le_trans (Nat.le_of_ble_eq_true rfl) hRf.1, Nat.le_trans (Nat.le_of_ble_eq_true rfl) hRf.2⟩ ⟨by omega, by omega⟩ rfl (Nat.le_of_ble_eq_true rfl) ?_
  refine g_nmh E (fun s_5 E => ?_)
  refine g_istore (pc' := 1675) O ⟨dL_law_1673, rfl⟩ (lv' := [(6, .int r_3.1), (5, .int r_1.1), (0, .ref b), (1, .ref (ad 0)), (2, .ref (ad 35)), (3, .ref (ad 54)), (4, .int i)]) (by decide) rfl ?_
  refine g_aload_n (pc' := 1676) O ⟨dL_law_1675, rfl⟩ (q := 4) rfl rfl ?_
  obtain ⟨r_6, c_7, E⟩ := bd_of E
  refine g_Ui (pc' := 1679) O ⟨dL_law_1676, rfl⟩ (y := yX11_thrown) (As := []) (st := []) (subM ad cy s_5) (t_X11_thrown l D (fun k => ad (35 + k)) cy (h := s_5.2.1) c_7) kw_1160 kw_70 kw_1157 kw_1158 kw_1159 rfl (wL_35 ad cy s_5) hd_X11_thrown ⟨Nat.le_trans (Nat.le_of_ble_eq_true rfl) hRf.1, Nat.le_trans (Nat.le_of_ble_eq_true rfl) hRf.2⟩ ⟨by omega, by omega⟩ rfl (Nat.le_of_ble_eq_true rfl) ?_
  refine g_nmh E (fun s_8 E => ?_)
  refine g_iload (pc' := 1681) O ⟨dL_law_1679, rfl⟩ (q := 1) rfl ?_
  refine g_icmp_eq (pc' := 1684) O ⟨dL_law_1681, rfl⟩ E (tgt := 1686) (by decide) (fun E => ?_) (fun E => ?_)
  · refine g_iload (pc' := 1688) O ⟨dL_law_1686, rfl⟩ (q := 1) rfl ?_
    refine jn0_of (P := G l D X 8 (LW ad cy) (k0 + 2) (n0 + 12) s_8 1703 [(0, .ref b), (1, .ref (ad 0)), (2, .ref (ad 35)), (3, .ref (ad 54)), (4, .int i)] []) E ?_ ?_
    · intro E
      show G l D X 8 (LW ad cy) (k0 + 2) (n0 + 12) s_8 1703 [(0, .ref b), (1, .ref (ad 0)), (2, .ref (ad 35)), (3, .ref (ad 54)), (4, .int i)] []
      refine g_goto (pc' := 1706) O ⟨dL_law_1703, rfl⟩ (tgt := 1943) (by decide) ?_
      exact g_widen (by omega) (by omega) (hko _ E)
    · intro k1703 hk1703 E
      refine g_if_ne (pc' := 1691) O ⟨dL_law_1688, rfl⟩ E (tgt := 1703) (by decide) (fun E => ?_) (fun E => ?_)
      · refine g_sub (lv' := [(0, .ref b), (1, .ref (ad 0)), (2, .ref (ad 35)), (3, .ref (ad 54)), (4, .int i)]) [2, 3, 4, 5, 6] rfl ?_
        exact hk1703 E
      · refine g_aload_n (pc' := 1692) O ⟨dL_law_1691, rfl⟩ (q := 5) rfl rfl ?_
        refine g_iconst (pc' := 1693) O ⟨dL_law_1692, rfl⟩ (v := (0 : Int32)) rfl ?_
        refine g_lald (pc' := 1694) O ⟨dL_law_1693, rfl⟩ (wL_54 ad cy s_8) E (fun E => ?_)
        refine g_iload (pc' := 1696) O ⟨dL_law_1694, rfl⟩ (q := 0) rfl ?_
        refine g_i2l (pc' := 1697) O ⟨dL_law_1696, rfl⟩ ?_
        refine g_lcmp (pc' := 1698) O ⟨dL_law_1697, rfl⟩ ?_
        refine g_if_eq (pc' := 1701) O ⟨dL_law_1698, rfl⟩ E (tgt := 1703) (by decide) (fun E => ?_) (fun E => ?_)
        · refine g_sub (lv' := [(0, .ref b), (1, .ref (ad 0)), (2, .ref (ad 35)), (3, .ref (ad 54)), (4, .int i)]) [2, 3, 4, 5, 6] rfl ?_
          exact hk1703 E
        · refine g_iconst (pc' := 1702) O ⟨dL_law_1701, rfl⟩ (v := (0 : Int32)) rfl ?_
          cases E
  · refine g_iconst (pc' := 1685) O ⟨dL_law_1684, rfl⟩ (v := (0 : Int32)) rfl ?_
    cases E
set_option maxRecDepth 100000 in
set_option maxHeartbeats 4000000 in
theorem tc_35 (l : Launch) (D : va_G) (ad : Nat → Nat) (cy : Nat → ClassId) (hfl : l.stackTraces = false) {X : Cx} {R : Room} {b L : Nat} {xs : Nat → Int32} (O : Ok l D cy X cL_law RL 8 R) (hN : NCX X) (hX : SX X b L xs) (hRf : 300 ≤ R.frames ∧ 9000 ≤ R.locals) {k0 n0 : Nat} (hk : k0 + 8 ≤ R.cells ∧ n0 + 48 ≤ R.slots) {i : Int32} {s : LWS} {kont : LWS → Option Unit} {o : Unit} (E : lc_35 L xs i s kont = some o) (hko : ∀ s1, kont s1 = some o → G l D X 8 (LW ad cy) (k0 + 8) (n0 + 48) s1 1943 [(0, .ref b), (1, .ref (ad 0)), (2, .ref (ad 35)), (3, .ref (ad 54)), (4, .int i)] []) : G l D X 8 (LW ad cy) k0 n0 s 1706 [(0, .ref b), (1, .ref (ad 0)), (2, .ref (ad 35)), (3, .ref (ad 54)), (4, .int i)] [] := by
  obtain ⟨hk1, hk2⟩ := hk
  unfold lc_35 at E
  refine g_aload_n (pc' := 1707) O ⟨dL_law_1706, rfl⟩ (q := 1) rfl rfl ?_
  refine g_aload_n (pc' := 1708) O ⟨dL_law_1707, rfl⟩ (q := 0) rfl rfl ?_
  refine g_iload (pc' := 1710) O ⟨dL_law_1708, rfl⟩ (q := 4) rfl ?_
  refine g_iconst (pc' := 1711) O ⟨dL_law_1710, rfl⟩ (v := (1 : Int32)) rfl ?_
  refine g_iadd (pc' := 1712) O ⟨dL_law_1711, rfl⟩ ?_
  refine g_sld (pc' := 1713) O ⟨dL_law_1712, rfl⟩ hX E (fun E => ?_)
  refine g_aload_n (pc' := 1714) O ⟨dL_law_1713, rfl⟩ (q := 0) rfl rfl ?_
  refine g_iload (pc' := 1716) O ⟨dL_law_1714, rfl⟩ (q := 4) rfl ?_
  refine g_iconst (pc' := 1717) O ⟨dL_law_1716, rfl⟩ (v := (2 : Int32)) rfl ?_
  refine g_iadd (pc' := 1718) O ⟨dL_law_1717, rfl⟩ ?_
  refine g_sld (pc' := 1719) O ⟨dL_law_1718, rfl⟩ hX E (fun E => ?_)
  refine g_aload_n (pc' := 1720) O ⟨dL_law_1719, rfl⟩ (q := 3) rfl rfl ?_
  obtain ⟨r_1, c_2, E⟩ := bd_of E
  refine g_H (pc' := 1723) O hN ⟨dL_law_1720, rfl⟩ (y := yL_step) (As := [.ref (ad 0), .int (xs (i + (1 : Int32)).toNatClampNeg), .int (xs (i + (2 : Int32)).toNatClampNeg), .ref (ad 54)]) (st := []) (th_step l D ad cy hfl (s := s) c_2) kw_1028 kw_59 kw_1026 kw_1027 hd_L_step ⟨Nat.le_trans (Nat.le_of_ble_eq_true rfl) hRf.1, Nat.le_trans (Nat.le_of_ble_eq_true rfl) hRf.2⟩ ⟨by omega, by omega⟩ rfl (Nat.le_of_ble_eq_true rfl) ?_
  refine g_istore (pc' := 1725) O ⟨dL_law_1723, rfl⟩ (lv' := [(5, .int r_1.1), (0, .ref b), (1, .ref (ad 0)), (2, .ref (ad 35)), (3, .ref (ad 54)), (4, .int i)]) (by decide) rfl ?_
  refine g_aload_n (pc' := 1726) O ⟨dL_law_1725, rfl⟩ (q := 3) rfl rfl ?_
  refine g_aload_n (pc' := 1727) O ⟨dL_law_1726, rfl⟩ (q := 1) rfl rfl ?_
  refine g_iload (pc' := 1729) O ⟨dL_law_1727, rfl⟩ (q := 5) rfl ?_
  refine g_iconst (pc' := 1730) O ⟨dL_law_1729, rfl⟩ (v := (1 : Int32)) rfl ?_
  refine g_iadd (pc' := 1731) O ⟨dL_law_1730, rfl⟩ ?_
  refine g_sld (pc' := 1732) O ⟨dL_law_1731, rfl⟩ hX E (fun E => ?_)
  refine g_aload_n (pc' := 1733) O ⟨dL_law_1732, rfl⟩ (q := 1) rfl rfl ?_
  refine g_iload (pc' := 1735) O ⟨dL_law_1733, rfl⟩ (q := 5) rfl ?_
  refine g_iconst (pc' := 1736) O ⟨dL_law_1735, rfl⟩ (v := (2 : Int32)) rfl ?_
  refine g_iadd (pc' := 1737) O ⟨dL_law_1736, rfl⟩ ?_
  refine g_sld (pc' := 1738) O ⟨dL_law_1737, rfl⟩ hX E (fun E => ?_)
  obtain ⟨r_3, c_4, E⟩ := bd_of E
  refine g_Ui (pc' := 1741) O ⟨dL_law_1738, rfl⟩ (y := yX11_step) (As := [.int (xs (i + (1 : Int32)).toNatClampNeg), .int (xs (i + (2 : Int32)).toNatClampNeg)]) (st := []) (subM ad cy r_1.2) (t_X11_step l D (fun k => ad (35 + k)) cy (h := r_1.2.2.1) c_4) kw_1433 kw_70 kw_1430 kw_1431 kw_1432 rfl (wL_35 ad cy r_1.2) hd_X11_step ⟨Nat.le_trans (Nat.le_of_ble_eq_true rfl) hRf.1, Nat.le_trans (Nat.le_of_ble_eq_true rfl) hRf.2⟩ ⟨by omega, by omega⟩ rfl (Nat.le_of_ble_eq_true rfl) ?_
  refine g_nmh E (fun s_5 E => ?_)
  refine g_istore (pc' := 1743) O ⟨dL_law_1741, rfl⟩ (lv' := [(6, .int r_3.1), (5, .int r_1.1), (0, .ref b), (1, .ref (ad 0)), (2, .ref (ad 35)), (3, .ref (ad 54)), (4, .int i)]) (by decide) rfl ?_
  refine g_aload_n (pc' := 1744) O ⟨dL_law_1743, rfl⟩ (q := 4) rfl rfl ?_
  obtain ⟨r_6, c_7, E⟩ := bd_of E
  refine g_Ui (pc' := 1747) O ⟨dL_law_1744, rfl⟩ (y := yX11_thrown) (As := []) (st := []) (subM ad cy s_5) (t_X11_thrown l D (fun k => ad (35 + k)) cy (h := s_5.2.1) c_7) kw_1160 kw_70 kw_1157 kw_1158 kw_1159 rfl (wL_35 ad cy s_5) hd_X11_thrown ⟨Nat.le_trans (Nat.le_of_ble_eq_true rfl) hRf.1, Nat.le_trans (Nat.le_of_ble_eq_true rfl) hRf.2⟩ ⟨by omega, by omega⟩ rfl (Nat.le_of_ble_eq_true rfl) ?_
  refine g_nmh E (fun s_8 E => ?_)
  refine g_iload (pc' := 1749) O ⟨dL_law_1747, rfl⟩ (q := 1) rfl ?_
  refine g_icmp_eq (pc' := 1752) O ⟨dL_law_1749, rfl⟩ E (tgt := 1754) (by decide) (fun E => ?_) (fun E => ?_)
  · refine g_iload (pc' := 1756) O ⟨dL_law_1754, rfl⟩ (q := 1) rfl ?_
    refine jn0_of (P := G l D X 8 (LW ad cy) (k0 + 2) (n0 + 12) s_8 1771 [(0, .ref b), (1, .ref (ad 0)), (2, .ref (ad 35)), (3, .ref (ad 54)), (4, .int i)] []) E ?_ ?_
    · intro E
      show G l D X 8 (LW ad cy) (k0 + 2) (n0 + 12) s_8 1771 [(0, .ref b), (1, .ref (ad 0)), (2, .ref (ad 35)), (3, .ref (ad 54)), (4, .int i)] []
      refine g_goto (pc' := 1774) O ⟨dL_law_1771, rfl⟩ (tgt := 1943) (by decide) ?_
      exact g_widen (by omega) (by omega) (hko _ E)
    · intro k1771 hk1771 E
      refine g_if_ne (pc' := 1759) O ⟨dL_law_1756, rfl⟩ E (tgt := 1771) (by decide) (fun E => ?_) (fun E => ?_)
      · refine g_sub (lv' := [(0, .ref b), (1, .ref (ad 0)), (2, .ref (ad 35)), (3, .ref (ad 54)), (4, .int i)]) [2, 3, 4, 5, 6] rfl ?_
        exact hk1771 E
      · refine g_aload_n (pc' := 1760) O ⟨dL_law_1759, rfl⟩ (q := 5) rfl rfl ?_
        refine g_iconst (pc' := 1761) O ⟨dL_law_1760, rfl⟩ (v := (0 : Int32)) rfl ?_
        refine g_lald (pc' := 1762) O ⟨dL_law_1761, rfl⟩ (wL_54 ad cy s_8) E (fun E => ?_)
        refine g_iload (pc' := 1764) O ⟨dL_law_1762, rfl⟩ (q := 0) rfl ?_
        refine g_i2l (pc' := 1765) O ⟨dL_law_1764, rfl⟩ ?_
        refine g_lcmp (pc' := 1766) O ⟨dL_law_1765, rfl⟩ ?_
        refine g_if_eq (pc' := 1769) O ⟨dL_law_1766, rfl⟩ E (tgt := 1771) (by decide) (fun E => ?_) (fun E => ?_)
        · refine g_sub (lv' := [(0, .ref b), (1, .ref (ad 0)), (2, .ref (ad 35)), (3, .ref (ad 54)), (4, .int i)]) [2, 3, 4, 5, 6] rfl ?_
          exact hk1771 E
        · refine g_iconst (pc' := 1770) O ⟨dL_law_1769, rfl⟩ (v := (0 : Int32)) rfl ?_
          cases E
  · refine g_iconst (pc' := 1753) O ⟨dL_law_1752, rfl⟩ (v := (0 : Int32)) rfl ?_
    cases E
set_option maxRecDepth 100000 in
set_option maxHeartbeats 4000000 in
theorem tc_36 (l : Launch) (D : va_G) (ad : Nat → Nat) (cy : Nat → ClassId) (hfl : l.stackTraces = false) {X : Cx} {R : Room} {b L : Nat} {xs : Nat → Int32} (O : Ok l D cy X cL_law RL 8 R) (hN : NCX X) (hX : SX X b L xs) (hRf : 300 ≤ R.frames ∧ 9000 ≤ R.locals) {k0 n0 : Nat} (hk : k0 + 8 ≤ R.cells ∧ n0 + 48 ≤ R.slots) {i : Int32} {s : LWS} {kont : LWS → Option Unit} {o : Unit} (E : lc_36 L xs i s kont = some o) (hko : ∀ s1, kont s1 = some o → G l D X 8 (LW ad cy) (k0 + 8) (n0 + 48) s1 1943 [(0, .ref b), (1, .ref (ad 0)), (2, .ref (ad 35)), (3, .ref (ad 54)), (4, .int i)] []) : G l D X 8 (LW ad cy) k0 n0 s 1774 [(0, .ref b), (1, .ref (ad 0)), (2, .ref (ad 35)), (3, .ref (ad 54)), (4, .int i)] [] := by
  obtain ⟨hk1, hk2⟩ := hk
  unfold lc_36 at E
  refine g_aload_n (pc' := 1775) O ⟨dL_law_1774, rfl⟩ (q := 1) rfl rfl ?_
  refine g_aload_n (pc' := 1776) O ⟨dL_law_1775, rfl⟩ (q := 0) rfl rfl ?_
  refine g_iload (pc' := 1778) O ⟨dL_law_1776, rfl⟩ (q := 4) rfl ?_
  refine g_iconst (pc' := 1779) O ⟨dL_law_1778, rfl⟩ (v := (1 : Int32)) rfl ?_
  refine g_iadd (pc' := 1780) O ⟨dL_law_1779, rfl⟩ ?_
  refine g_sld (pc' := 1781) O ⟨dL_law_1780, rfl⟩ hX E (fun E => ?_)
  refine g_aload_n (pc' := 1782) O ⟨dL_law_1781, rfl⟩ (q := 0) rfl rfl ?_
  refine g_iload (pc' := 1784) O ⟨dL_law_1782, rfl⟩ (q := 4) rfl ?_
  refine g_iconst (pc' := 1785) O ⟨dL_law_1784, rfl⟩ (v := (2 : Int32)) rfl ?_
  refine g_iadd (pc' := 1786) O ⟨dL_law_1785, rfl⟩ ?_
  refine g_sld (pc' := 1787) O ⟨dL_law_1786, rfl⟩ hX E (fun E => ?_)
  refine g_aload_n (pc' := 1788) O ⟨dL_law_1787, rfl⟩ (q := 3) rfl rfl ?_
  obtain ⟨r_1, c_2, E⟩ := bd_of E
  refine g_H (pc' := 1791) O hN ⟨dL_law_1788, rfl⟩ (y := yL_manyFar) (As := [.ref (ad 0), .int (xs (i + (1 : Int32)).toNatClampNeg), .int (xs (i + (2 : Int32)).toNatClampNeg), .ref (ad 54)]) (st := []) (th_manyFar l D ad cy hfl (s := s) c_2) kw_1040 kw_59 kw_1038 kw_1039 hd_L_manyFar ⟨Nat.le_trans (Nat.le_of_ble_eq_true rfl) hRf.1, Nat.le_trans (Nat.le_of_ble_eq_true rfl) hRf.2⟩ ⟨by omega, by omega⟩ rfl (Nat.le_of_ble_eq_true rfl) ?_
  refine g_istore (pc' := 1793) O ⟨dL_law_1791, rfl⟩ (lv' := [(5, .int r_1.1), (0, .ref b), (1, .ref (ad 0)), (2, .ref (ad 35)), (3, .ref (ad 54)), (4, .int i)]) (by decide) rfl ?_
  refine g_aload_n (pc' := 1794) O ⟨dL_law_1793, rfl⟩ (q := 3) rfl rfl ?_
  refine g_aload_n (pc' := 1795) O ⟨dL_law_1794, rfl⟩ (q := 1) rfl rfl ?_
  refine g_iload (pc' := 1797) O ⟨dL_law_1795, rfl⟩ (q := 5) rfl ?_
  refine g_iconst (pc' := 1798) O ⟨dL_law_1797, rfl⟩ (v := (1 : Int32)) rfl ?_
  refine g_iadd (pc' := 1799) O ⟨dL_law_1798, rfl⟩ ?_
  refine g_sld (pc' := 1800) O ⟨dL_law_1799, rfl⟩ hX E (fun E => ?_)
  refine g_aload_n (pc' := 1801) O ⟨dL_law_1800, rfl⟩ (q := 1) rfl rfl ?_
  refine g_iload (pc' := 1803) O ⟨dL_law_1801, rfl⟩ (q := 5) rfl ?_
  refine g_iconst (pc' := 1804) O ⟨dL_law_1803, rfl⟩ (v := (2 : Int32)) rfl ?_
  refine g_iadd (pc' := 1805) O ⟨dL_law_1804, rfl⟩ ?_
  refine g_sld (pc' := 1806) O ⟨dL_law_1805, rfl⟩ hX E (fun E => ?_)
  obtain ⟨r_3, c_4, E⟩ := bd_of E
  refine g_Ui (pc' := 1809) O ⟨dL_law_1806, rfl⟩ (y := yX11_manyFar) (As := [.int (xs (i + (1 : Int32)).toNatClampNeg), .int (xs (i + (2 : Int32)).toNatClampNeg)]) (st := []) (subM ad cy r_1.2) (t_X11_manyFar l D (fun k => ad (35 + k)) cy (h := r_1.2.2.1) c_4) kw_1437 kw_70 kw_1434 kw_1435 kw_1436 rfl (wL_35 ad cy r_1.2) hd_X11_manyFar ⟨Nat.le_trans (Nat.le_of_ble_eq_true rfl) hRf.1, Nat.le_trans (Nat.le_of_ble_eq_true rfl) hRf.2⟩ ⟨by omega, by omega⟩ rfl (Nat.le_of_ble_eq_true rfl) ?_
  refine g_nmh E (fun s_5 E => ?_)
  refine g_istore (pc' := 1811) O ⟨dL_law_1809, rfl⟩ (lv' := [(6, .int r_3.1), (5, .int r_1.1), (0, .ref b), (1, .ref (ad 0)), (2, .ref (ad 35)), (3, .ref (ad 54)), (4, .int i)]) (by decide) rfl ?_
  refine g_aload_n (pc' := 1812) O ⟨dL_law_1811, rfl⟩ (q := 4) rfl rfl ?_
  obtain ⟨r_6, c_7, E⟩ := bd_of E
  refine g_Ui (pc' := 1815) O ⟨dL_law_1812, rfl⟩ (y := yX11_thrown) (As := []) (st := []) (subM ad cy s_5) (t_X11_thrown l D (fun k => ad (35 + k)) cy (h := s_5.2.1) c_7) kw_1160 kw_70 kw_1157 kw_1158 kw_1159 rfl (wL_35 ad cy s_5) hd_X11_thrown ⟨Nat.le_trans (Nat.le_of_ble_eq_true rfl) hRf.1, Nat.le_trans (Nat.le_of_ble_eq_true rfl) hRf.2⟩ ⟨by omega, by omega⟩ rfl (Nat.le_of_ble_eq_true rfl) ?_
  refine g_nmh E (fun s_8 E => ?_)
  refine g_iload (pc' := 1817) O ⟨dL_law_1815, rfl⟩ (q := 1) rfl ?_
  refine g_icmp_eq (pc' := 1820) O ⟨dL_law_1817, rfl⟩ E (tgt := 1822) (by decide) (fun E => ?_) (fun E => ?_)
  · refine g_iload (pc' := 1824) O ⟨dL_law_1822, rfl⟩ (q := 1) rfl ?_
    refine jn0_of (P := G l D X 8 (LW ad cy) (k0 + 2) (n0 + 12) s_8 1839 [(0, .ref b), (1, .ref (ad 0)), (2, .ref (ad 35)), (3, .ref (ad 54)), (4, .int i)] []) E ?_ ?_
    · intro E
      show G l D X 8 (LW ad cy) (k0 + 2) (n0 + 12) s_8 1839 [(0, .ref b), (1, .ref (ad 0)), (2, .ref (ad 35)), (3, .ref (ad 54)), (4, .int i)] []
      refine g_goto (pc' := 1842) O ⟨dL_law_1839, rfl⟩ (tgt := 1943) (by decide) ?_
      exact g_widen (by omega) (by omega) (hko _ E)
    · intro k1839 hk1839 E
      refine g_if_ne (pc' := 1827) O ⟨dL_law_1824, rfl⟩ E (tgt := 1839) (by decide) (fun E => ?_) (fun E => ?_)
      · refine g_sub (lv' := [(0, .ref b), (1, .ref (ad 0)), (2, .ref (ad 35)), (3, .ref (ad 54)), (4, .int i)]) [2, 3, 4, 5, 6] rfl ?_
        exact hk1839 E
      · refine g_aload_n (pc' := 1828) O ⟨dL_law_1827, rfl⟩ (q := 5) rfl rfl ?_
        refine g_iconst (pc' := 1829) O ⟨dL_law_1828, rfl⟩ (v := (0 : Int32)) rfl ?_
        refine g_lald (pc' := 1830) O ⟨dL_law_1829, rfl⟩ (wL_54 ad cy s_8) E (fun E => ?_)
        refine g_iload (pc' := 1832) O ⟨dL_law_1830, rfl⟩ (q := 0) rfl ?_
        refine g_i2l (pc' := 1833) O ⟨dL_law_1832, rfl⟩ ?_
        refine g_lcmp (pc' := 1834) O ⟨dL_law_1833, rfl⟩ ?_
        refine g_if_eq (pc' := 1837) O ⟨dL_law_1834, rfl⟩ E (tgt := 1839) (by decide) (fun E => ?_) (fun E => ?_)
        · refine g_sub (lv' := [(0, .ref b), (1, .ref (ad 0)), (2, .ref (ad 35)), (3, .ref (ad 54)), (4, .int i)]) [2, 3, 4, 5, 6] rfl ?_
          exact hk1839 E
        · refine g_iconst (pc' := 1838) O ⟨dL_law_1837, rfl⟩ (v := (0 : Int32)) rfl ?_
          cases E
  · refine g_iconst (pc' := 1821) O ⟨dL_law_1820, rfl⟩ (v := (0 : Int32)) rfl ?_
    cases E
set_option maxRecDepth 100000 in
set_option maxHeartbeats 4000000 in
theorem tc_37 (l : Launch) (D : va_G) (ad : Nat → Nat) (cy : Nat → ClassId) (hfl : l.stackTraces = false) {X : Cx} {R : Room} {b L : Nat} {xs : Nat → Int32} (O : Ok l D cy X cL_law RL 8 R) (hN : NCX X) (hX : SX X b L xs) (hRf : 300 ≤ R.frames ∧ 9000 ≤ R.locals) {k0 n0 : Nat} (hk : k0 + 8 ≤ R.cells ∧ n0 + 48 ≤ R.slots) {i : Int32} {s : LWS} {kont : LWS → Option Unit} {o : Unit} (E : lc_37 L xs i s kont = some o) (hko : ∀ s1, kont s1 = some o → G l D X 8 (LW ad cy) (k0 + 8) (n0 + 48) s1 1943 [(0, .ref b), (1, .ref (ad 0)), (2, .ref (ad 35)), (3, .ref (ad 54)), (4, .int i)] []) : G l D X 8 (LW ad cy) k0 n0 s 1842 [(0, .ref b), (1, .ref (ad 0)), (2, .ref (ad 35)), (3, .ref (ad 54)), (4, .int i)] [] := by
  obtain ⟨hk1, hk2⟩ := hk
  unfold lc_37 at E
  refine g_aload_n (pc' := 1843) O ⟨dL_law_1842, rfl⟩ (q := 1) rfl rfl ?_
  refine g_aload_n (pc' := 1844) O ⟨dL_law_1843, rfl⟩ (q := 0) rfl rfl ?_
  refine g_iload (pc' := 1846) O ⟨dL_law_1844, rfl⟩ (q := 4) rfl ?_
  refine g_iconst (pc' := 1847) O ⟨dL_law_1846, rfl⟩ (v := (1 : Int32)) rfl ?_
  refine g_iadd (pc' := 1848) O ⟨dL_law_1847, rfl⟩ ?_
  refine g_sld (pc' := 1849) O ⟨dL_law_1848, rfl⟩ hX E (fun E => ?_)
  refine g_aload_n (pc' := 1850) O ⟨dL_law_1849, rfl⟩ (q := 0) rfl rfl ?_
  refine g_iload (pc' := 1852) O ⟨dL_law_1850, rfl⟩ (q := 4) rfl ?_
  refine g_iconst (pc' := 1853) O ⟨dL_law_1852, rfl⟩ (v := (2 : Int32)) rfl ?_
  refine g_iadd (pc' := 1854) O ⟨dL_law_1853, rfl⟩ ?_
  refine g_sld (pc' := 1855) O ⟨dL_law_1854, rfl⟩ hX E (fun E => ?_)
  refine g_aload_n (pc' := 1856) O ⟨dL_law_1855, rfl⟩ (q := 3) rfl rfl ?_
  obtain ⟨r_1, c_2, E⟩ := bd_of E
  refine g_H (pc' := 1859) O hN ⟨dL_law_1856, rfl⟩ (y := yL_ask) (As := [.ref (ad 0), .int (xs (i + (1 : Int32)).toNatClampNeg), .int (xs (i + (2 : Int32)).toNatClampNeg), .ref (ad 54)]) (st := []) (th_ask l D ad cy hfl (s := s) c_2) kw_1052 kw_59 kw_1050 kw_1051 hd_L_ask ⟨Nat.le_trans (Nat.le_of_ble_eq_true rfl) hRf.1, Nat.le_trans (Nat.le_of_ble_eq_true rfl) hRf.2⟩ ⟨by omega, by omega⟩ rfl (Nat.le_of_ble_eq_true rfl) ?_
  refine g_istore (pc' := 1861) O ⟨dL_law_1859, rfl⟩ (lv' := [(5, .int r_1.1), (0, .ref b), (1, .ref (ad 0)), (2, .ref (ad 35)), (3, .ref (ad 54)), (4, .int i)]) (by decide) rfl ?_
  refine g_aload_n (pc' := 1862) O ⟨dL_law_1861, rfl⟩ (q := 3) rfl rfl ?_
  refine g_aload_n (pc' := 1863) O ⟨dL_law_1862, rfl⟩ (q := 1) rfl rfl ?_
  refine g_iload (pc' := 1865) O ⟨dL_law_1863, rfl⟩ (q := 5) rfl ?_
  refine g_iconst (pc' := 1866) O ⟨dL_law_1865, rfl⟩ (v := (1 : Int32)) rfl ?_
  refine g_iadd (pc' := 1867) O ⟨dL_law_1866, rfl⟩ ?_
  refine g_sld (pc' := 1868) O ⟨dL_law_1867, rfl⟩ hX E (fun E => ?_)
  refine g_aload_n (pc' := 1869) O ⟨dL_law_1868, rfl⟩ (q := 1) rfl rfl ?_
  refine g_iload (pc' := 1871) O ⟨dL_law_1869, rfl⟩ (q := 5) rfl ?_
  refine g_iconst (pc' := 1872) O ⟨dL_law_1871, rfl⟩ (v := (2 : Int32)) rfl ?_
  refine g_iadd (pc' := 1873) O ⟨dL_law_1872, rfl⟩ ?_
  refine g_sld (pc' := 1874) O ⟨dL_law_1873, rfl⟩ hX E (fun E => ?_)
  obtain ⟨r_3, c_4, E⟩ := bd_of E
  refine g_Ui (pc' := 1877) O ⟨dL_law_1874, rfl⟩ (y := yX11_ask) (As := [.int (xs (i + (1 : Int32)).toNatClampNeg), .int (xs (i + (2 : Int32)).toNatClampNeg)]) (st := []) (subM ad cy r_1.2) (t_X11_ask l D (fun k => ad (35 + k)) cy (h := r_1.2.2.1) c_4) kw_1441 kw_70 kw_1438 kw_1439 kw_1440 rfl (wL_35 ad cy r_1.2) hd_X11_ask ⟨Nat.le_trans (Nat.le_of_ble_eq_true rfl) hRf.1, Nat.le_trans (Nat.le_of_ble_eq_true rfl) hRf.2⟩ ⟨by omega, by omega⟩ rfl (Nat.le_of_ble_eq_true rfl) ?_
  refine g_nmh E (fun s_5 E => ?_)
  refine g_istore (pc' := 1879) O ⟨dL_law_1877, rfl⟩ (lv' := [(6, .int r_3.1), (5, .int r_1.1), (0, .ref b), (1, .ref (ad 0)), (2, .ref (ad 35)), (3, .ref (ad 54)), (4, .int i)]) (by decide) rfl ?_
  refine g_aload_n (pc' := 1880) O ⟨dL_law_1879, rfl⟩ (q := 4) rfl rfl ?_
  obtain ⟨r_6, c_7, E⟩ := bd_of E
  refine g_Ui (pc' := 1883) O ⟨dL_law_1880, rfl⟩ (y := yX11_thrown) (As := []) (st := []) (subM ad cy s_5) (t_X11_thrown l D (fun k => ad (35 + k)) cy (h := s_5.2.1) c_7) kw_1160 kw_70 kw_1157 kw_1158 kw_1159 rfl (wL_35 ad cy s_5) hd_X11_thrown ⟨Nat.le_trans (Nat.le_of_ble_eq_true rfl) hRf.1, Nat.le_trans (Nat.le_of_ble_eq_true rfl) hRf.2⟩ ⟨by omega, by omega⟩ rfl (Nat.le_of_ble_eq_true rfl) ?_
  refine g_nmh E (fun s_8 E => ?_)
  refine g_iload (pc' := 1885) O ⟨dL_law_1883, rfl⟩ (q := 1) rfl ?_
  refine g_icmp_eq (pc' := 1888) O ⟨dL_law_1885, rfl⟩ E (tgt := 1890) (by decide) (fun E => ?_) (fun E => ?_)
  · refine g_iload (pc' := 1892) O ⟨dL_law_1890, rfl⟩ (q := 1) rfl ?_
    refine jn0_of (P := G l D X 8 (LW ad cy) (k0 + 3) (n0 + 18) s_8 1914 [(0, .ref b), (1, .ref (ad 0)), (2, .ref (ad 35)), (3, .ref (ad 54)), (4, .int i)] []) E ?_ ?_
    · intro E
      show G l D X 8 (LW ad cy) (k0 + 3) (n0 + 18) s_8 1914 [(0, .ref b), (1, .ref (ad 0)), (2, .ref (ad 35)), (3, .ref (ad 54)), (4, .int i)] []
      refine g_goto (pc' := 1917) O ⟨dL_law_1914, rfl⟩ (tgt := 1943) (by decide) ?_
      exact g_widen (by omega) (by omega) (hko _ E)
    · intro k1914 hk1914 E
      refine g_if_ne (pc' := 1895) O ⟨dL_law_1892, rfl⟩ E (tgt := 1914) (by decide) (fun E => ?_) (fun E => ?_)
      · refine g_sub (lv' := [(0, .ref b), (1, .ref (ad 0)), (2, .ref (ad 35)), (3, .ref (ad 54)), (4, .int i)]) [2, 3, 4, 5, 6] rfl ?_
        exact hk1914 E
      · refine g_aload_n (pc' := 1896) O ⟨dL_law_1895, rfl⟩ (q := 5) rfl rfl ?_
        refine g_iconst (pc' := 1897) O ⟨dL_law_1896, rfl⟩ (v := (0 : Int32)) rfl ?_
        refine g_lald (pc' := 1898) O ⟨dL_law_1897, rfl⟩ (wL_54 ad cy s_8) E (fun E => ?_)
        refine g_iload (pc' := 1900) O ⟨dL_law_1898, rfl⟩ (q := 0) rfl ?_
        refine jn1_of (P := fun (z_9 : Int64) => G l D X 8 (LW ad cy) (k0 + 3) (n0 + 18) s_8 1908 [(0, .ref b), (1, .ref (ad 0)), (2, .ref (ad 35)), (3, .ref (ad 54)), (4, .int i)] [.long z_9, .long (s_8.2.2 (0 : Int32).toNatClampNeg)]) E ?_ ?_
        · intro z_9 E
          show G l D X 8 (LW ad cy) (k0 + 3) (n0 + 18) s_8 1908 [(0, .ref b), (1, .ref (ad 0)), (2, .ref (ad 35)), (3, .ref (ad 54)), (4, .int i)] [.long z_9, .long (s_8.2.2 (0 : Int32).toNatClampNeg)]
          refine g_lcmp (pc' := 1909) O ⟨dL_law_1908, rfl⟩ ?_
          refine g_if_eq (pc' := 1912) O ⟨dL_law_1909, rfl⟩ E (tgt := 1914) (by decide) (fun E => ?_) (fun E => ?_)
          · exact hk1914 E
          · refine g_iconst (pc' := 1913) O ⟨dL_law_1912, rfl⟩ (v := (0 : Int32)) rfl ?_
            cases E
        · intro k1908 hk1908 E
          refine g_if_eq (pc' := 1903) O ⟨dL_law_1900, rfl⟩ E (tgt := 1907) (by decide) (fun E => ?_) (fun E => ?_)
          · refine g_lconst (pc' := 1908) O ⟨dL_law_1907, rfl⟩ (v := (0 : Int64)) rfl ?_
            refine g_sub (lv' := [(0, .ref b), (1, .ref (ad 0)), (2, .ref (ad 35)), (3, .ref (ad 54)), (4, .int i)]) [2, 3, 4, 5, 6] rfl ?_
            exact hk1908 _ E
          · refine g_lconst (pc' := 1904) O ⟨dL_law_1903, rfl⟩ (v := (1 : Int64)) rfl ?_
            refine g_goto (pc' := 1907) O ⟨dL_law_1904, rfl⟩ (tgt := 1908) (by decide) ?_
            refine g_sub (lv' := [(0, .ref b), (1, .ref (ad 0)), (2, .ref (ad 35)), (3, .ref (ad 54)), (4, .int i)]) [2, 3, 4, 5, 6] rfl ?_
            exact hk1908 _ E
  · refine g_iconst (pc' := 1889) O ⟨dL_law_1888, rfl⟩ (v := (0 : Int32)) rfl ?_
    cases E
set_option maxRecDepth 100000 in
set_option maxHeartbeats 4000000 in
theorem tc_38 (l : Launch) (D : va_G) (ad : Nat → Nat) (cy : Nat → ClassId) (hfl : l.stackTraces = false) {X : Cx} {R : Room} {b L : Nat} {xs : Nat → Int32} (O : Ok l D cy X cL_law RL 8 R) (hN : NCX X) (hX : SX X b L xs) (hRf : 300 ≤ R.frames ∧ 9000 ≤ R.locals) {k0 n0 : Nat} (hk : k0 + 8 ≤ R.cells ∧ n0 + 48 ≤ R.slots) {i : Int32} {s : LWS} {kont : LWS → Option Unit} {o : Unit} (E : lc_38 L xs i s kont = some o) (hko : ∀ s1, kont s1 = some o → G l D X 8 (LW ad cy) (k0 + 8) (n0 + 48) s1 1943 [(0, .ref b), (1, .ref (ad 0)), (2, .ref (ad 35)), (3, .ref (ad 54)), (4, .int i)] []) : G l D X 8 (LW ad cy) k0 n0 s 1917 [(0, .ref b), (1, .ref (ad 0)), (2, .ref (ad 35)), (3, .ref (ad 54)), (4, .int i)] [] := by
  obtain ⟨hk1, hk2⟩ := hk
  unfold lc_38 at E
  refine g_aload_n (pc' := 1918) O ⟨dL_law_1917, rfl⟩ (q := 1) rfl rfl ?_
  obtain ⟨r_1, c_2, E⟩ := bd_of E
  refine g_Ui (pc' := 1921) O ⟨dL_law_1918, rfl⟩ (y := yX10_left) (As := []) (st := []) (subC ad cy s) (t_X10_left l D ad cy (h := s.1) c_2) kw_525 kw_60 kw_522 kw_523 kw_524 rfl (wL_0 ad cy s) hd_X10_left ⟨Nat.le_trans (Nat.le_of_ble_eq_true rfl) hRf.1, Nat.le_trans (Nat.le_of_ble_eq_true rfl) hRf.2⟩ ⟨by omega, by omega⟩ rfl (Nat.le_of_ble_eq_true rfl) ?_
  refine g_nmh E (fun s_3 E => ?_)
  refine g_aload_n (pc' := 1922) O ⟨dL_law_1921, rfl⟩ (q := 2) rfl rfl ?_
  obtain ⟨r_4, c_5, E⟩ := bd_of E
  refine g_Ui (pc' := 1925) O ⟨dL_law_1922, rfl⟩ (y := yX11_left) (As := []) (st := [.int r_1.1]) (subM ad cy s_3) (t_X11_left l D (fun k => ad (35 + k)) cy (h := s_3.2.1) c_5) kw_1449 kw_70 kw_1446 kw_1447 kw_1448 rfl (wL_35 ad cy s_3) hd_X11_left ⟨Nat.le_trans (Nat.le_of_ble_eq_true rfl) hRf.1, Nat.le_trans (Nat.le_of_ble_eq_true rfl) hRf.2⟩ ⟨by omega, by omega⟩ rfl (Nat.le_of_ble_eq_true rfl) ?_
  refine g_nmh E (fun s_6 E => ?_)
  refine g_icmp_eq (pc' := 1928) O ⟨dL_law_1925, rfl⟩ E (tgt := 1943) (by decide) (fun E => ?_) (fun E => ?_)
  · exact g_widen (by omega) (by omega) (hko _ E)
  · refine g_iconst (pc' := 1929) O ⟨dL_law_1928, rfl⟩ (v := (0 : Int32)) rfl ?_
    cases E
set_option maxRecDepth 100000 in
set_option maxHeartbeats 4000000 in
theorem tc_39 (l : Launch) (D : va_G) (ad : Nat → Nat) (cy : Nat → ClassId) (hfl : l.stackTraces = false) {X : Cx} {R : Room} {b L : Nat} {xs : Nat → Int32} (O : Ok l D cy X cL_law RL 8 R) (hN : NCX X) (hX : SX X b L xs) (hRf : 300 ≤ R.frames ∧ 9000 ≤ R.locals) {k0 n0 : Nat} (hk : k0 + 8 ≤ R.cells ∧ n0 + 48 ≤ R.slots) {i : Int32} {s : LWS} {kont : LWS → Option Unit} {o : Unit} (E : lc_39 L xs i s kont = some o) (hko : ∀ s1, kont s1 = some o → G l D X 8 (LW ad cy) (k0 + 8) (n0 + 48) s1 1943 [(0, .ref b), (1, .ref (ad 0)), (2, .ref (ad 35)), (3, .ref (ad 54)), (4, .int i)] []) : G l D X 8 (LW ad cy) k0 n0 s 1930 [(0, .ref b), (1, .ref (ad 0)), (2, .ref (ad 35)), (3, .ref (ad 54)), (4, .int i)] [] := by
  obtain ⟨hk1, hk2⟩ := hk
  unfold lc_39 at E
  refine g_aload_n (pc' := 1931) O ⟨dL_law_1930, rfl⟩ (q := 1) rfl rfl ?_
  obtain ⟨r_1, c_2, E⟩ := bd_of E
  refine g_Ui (pc' := 1934) O ⟨dL_law_1931, rfl⟩ (y := yX10_needed) (As := []) (st := []) (subC ad cy s) (t_X10_needed l D ad cy (h := s.1) c_2) kw_538 kw_60 kw_535 kw_536 kw_537 rfl (wL_0 ad cy s) hd_X10_needed ⟨Nat.le_trans (Nat.le_of_ble_eq_true rfl) hRf.1, Nat.le_trans (Nat.le_of_ble_eq_true rfl) hRf.2⟩ ⟨by omega, by omega⟩ rfl (Nat.le_of_ble_eq_true rfl) ?_
  refine g_nmh E (fun s_3 E => ?_)
  refine g_aload_n (pc' := 1935) O ⟨dL_law_1934, rfl⟩ (q := 2) rfl rfl ?_
  obtain ⟨r_4, c_5, E⟩ := bd_of E
  refine g_Ui (pc' := 1938) O ⟨dL_law_1935, rfl⟩ (y := yX11_needed) (As := []) (st := [.int r_1.1]) (subM ad cy s_3) (t_X11_needed l D (fun k => ad (35 + k)) cy (h := s_3.2.1) c_5) kw_1453 kw_70 kw_1450 kw_1451 kw_1452 rfl (wL_35 ad cy s_3) hd_X11_needed ⟨Nat.le_trans (Nat.le_of_ble_eq_true rfl) hRf.1, Nat.le_trans (Nat.le_of_ble_eq_true rfl) hRf.2⟩ ⟨by omega, by omega⟩ rfl (Nat.le_of_ble_eq_true rfl) ?_
  refine g_nmh E (fun s_6 E => ?_)
  refine g_icmp_eq (pc' := 1941) O ⟨dL_law_1938, rfl⟩ E (tgt := 1943) (by decide) (fun E => ?_) (fun E => ?_)
  · exact g_widen (by omega) (by omega) (hko _ E)
  · refine g_iconst (pc' := 1942) O ⟨dL_law_1941, rfl⟩ (v := (0 : Int32)) rfl ?_
    cases E
