/-! THE LINKS: words by their places, reads and writes of fields -/
theorem inU_RX0 : ∀ w ∈ u_ws RX0 TX0 2, w ∈ TW := fun w hw => List.mem_filter.mpr ⟨(goodIn_r (big := lw_tbl) _ [257, 259] (by decide +kernel) (by decide +kernel) w hw).1, List.all_eq_true.mp (show (u_ws RX0 TX0 2).all goodWord = true by decide +kernel) w hw⟩
theorem inU_RX1 : ∀ w ∈ u_ws RX1 TX1 5, w ∈ TW := fun w hw => List.mem_filter.mpr ⟨(goodIn_r (big := lw_tbl) _ [216, 218, 220, 222, 224] (by decide +kernel) (by decide +kernel) w hw).1, List.all_eq_true.mp (show (u_ws RX1 TX1 5).all goodWord = true by decide +kernel) w hw⟩
theorem inU_RX2 : ∀ w ∈ u_ws RX2 TX2 1, w ∈ TW := fun w hw => List.mem_filter.mpr ⟨(goodIn_r (big := lw_tbl) _ [159] (by decide +kernel) (by decide +kernel) w hw).1, List.all_eq_true.mp (show (u_ws RX2 TX2 1).all goodWord = true by decide +kernel) w hw⟩
theorem inU_RX3 : ∀ w ∈ u_ws RX3 TX3 2, w ∈ TW := fun w hw => List.mem_filter.mpr ⟨(goodIn_r (big := lw_tbl) _ [181, 183] (by decide +kernel) (by decide +kernel) w hw).1, List.all_eq_true.mp (show (u_ws RX3 TX3 2).all goodWord = true by decide +kernel) w hw⟩
theorem inU_RX4 : ∀ w ∈ u_ws RX4 TX4 3, w ∈ TW := fun w hw => List.mem_filter.mpr ⟨(goodIn_r (big := lw_tbl) _ [166, 168, 170] (by decide +kernel) (by decide +kernel) w hw).1, List.all_eq_true.mp (show (u_ws RX4 TX4 3).all goodWord = true by decide +kernel) w hw⟩
theorem inU_RX6 : ∀ w ∈ u_ws RX6 TX6 4, w ∈ TW := fun w hw => List.mem_filter.mpr ⟨(goodIn_r (big := lw_tbl) _ [238, 240, 242, 244] (by decide +kernel) (by decide +kernel) w hw).1, List.all_eq_true.mp (show (u_ws RX6 TX6 4).all goodWord = true by decide +kernel) w hw⟩
theorem inU_RX7 : ∀ w ∈ u_ws RX7 TX7 3, w ∈ TW := fun w hw => List.mem_filter.mpr ⟨(goodIn_r (big := lw_tbl) _ [195, 197, 199] (by decide +kernel) (by decide +kernel) w hw).1, List.all_eq_true.mp (show (u_ws RX7 TX7 3).all goodWord = true by decide +kernel) w hw⟩
theorem inU_RX8 : ∀ w ∈ u_ws RX8 TX8 2, w ∈ TW := fun w hw => List.mem_filter.mpr ⟨(goodIn_r (big := lw_tbl) _ [140, 142] (by decide +kernel) (by decide +kernel) w hw).1, List.all_eq_true.mp (show (u_ws RX8 TX8 2).all goodWord = true by decide +kernel) w hw⟩
theorem inU_RX9 : ∀ w ∈ u_ws RX9 TX9 6, w ∈ TW := fun w hw => List.mem_filter.mpr ⟨(goodIn_r (big := lw_tbl) _ [117, 119, 121, 123, 125, 127] (by decide +kernel) (by decide +kernel) w hw).1, List.all_eq_true.mp (show (u_ws RX9 TX9 6).all goodWord = true by decide +kernel) w hw⟩
theorem inU_RX10 : ∀ w ∈ u_ws RX10 TX10 9, w ∈ TW := fun w hw => List.mem_filter.mpr ⟨(goodIn_r (big := lw_tbl) _ [271, 273, 275, 277, 279, 281, 283, 285, 287] (by decide +kernel) (by decide +kernel) w hw).1, List.all_eq_true.mp (show (u_ws RX10 TX10 9).all goodWord = true by decide +kernel) w hw⟩
theorem inU_RX11 : ∀ w ∈ u_ws RX11 TX11 26, w ∈ TW := fun w hw => List.mem_filter.mpr ⟨(goodIn_r (big := lw_tbl) _ [1104, 1106, 1108, 1110, 1112, 1114, 1116, 1118, 1120, 1122, 1124, 1126, 1128, 1130, 1132, 1134, 1136, 1138, 1140, 1142, 1144, 1146, 1148, 1150, 1152, 1154] (by decide +kernel) (by decide +kernel) w hw).1, List.all_eq_true.mp (show (u_ws RX11 TX11 26).all goodWord = true by decide +kernel) w hw⟩
theorem sr_70 : (RX10, 70, "a network has 2 to 6 wires") ∈ STRS := List.mem_of_getElem? (i := 0) rfl
theorem sr_101 : (RX10, 101, "there is no comparator") ∈ STRS := List.mem_of_getElem? (i := 4) rfl
theorem sr_107 : (RX10, 107, "what is BUBBLE to MERGE") ∈ STRS := List.mem_of_getElem? (i := 5) rfl
theorem sr_147 : (RX10, 147, "what is 0 to 5") ∈ STRS := List.mem_of_getElem? (i := 6) rfl
theorem sr_173 : (RX10, 173, "what is 0 to 3") ∈ STRS := List.mem_of_getElem? (i := 8) rfl
theorem sr_182 : (RX10, 182, "1 to 8 characters are typed") ∈ STRS := List.mem_of_getElem? (i := 10) rfl
theorem sr_192 : (RX10, 192, "a character cannot be on the tape") ∈ STRS := List.mem_of_getElem? (i := 11) rfl
theorem sr_197 : (RX10, 197, "the tape has at most 40 characters") ∈ STRS := List.mem_of_getElem? (i := 12) rfl
theorem sr_209 : (RX10, 209, "the tape is no text") ∈ STRS := List.mem_of_getElem? (i := 13) rfl
theorem sr_241 : (RX10, 241, "most is 0 to 3") ∈ STRS := List.mem_of_getElem? (i := 15) rfl
theorem sr_249 : (RX10, 249, "a network merges at a wire other than 0") ∈ STRS := List.mem_of_getElem? (i := 16) rfl
theorem sr_256 : (RX10, 256, "many is 1 to one less than there are wires") ∈ STRS := List.mem_of_getElem? (i := 17) rfl
theorem sr_275 : (RX10, 275, "1000 tokens came") ∈ STRS := List.mem_of_getElem? (i := 18) rfl
theorem sr_318 : (RX10, 318, "far is not below 0") ∈ STRS := List.mem_of_getElem? (i := 21) rfl
theorem sr_335 : (RX10, 335, "a network has at most 24 comparators") ∈ STRS := List.mem_of_getElem? (i := 3) rfl
theorem sr_337 : (RX10, 337, "there is no such wire") ∈ STRS := List.mem_of_getElem? (i := 1) rfl
theorem sr_339 : (RX10, 339, "both wires are the same") ∈ STRS := List.mem_of_getElem? (i := 2) rfl
theorem sr_341 : (RX10, 341, "there is no such comparator") ∈ STRS := List.mem_of_getElem? (i := 7) rfl
theorem sr_343 : (RX10, 343, "a place is not below 0") ∈ STRS := List.mem_of_getElem? (i := 9) rfl
theorem sr_345 : (RX10, 345, "a fault is PASS to TURN") ∈ STRS := List.mem_of_getElem? (i := 19) rfl
theorem sr_347 : (RX10, 347, "steps are SWAPS to BLOCKS") ∈ STRS := List.mem_of_getElem? (i := 20) rfl
theorem sr_352 : (RX10, 352, "that is no code of a row") ∈ STRS := List.mem_of_getElem? (i := 14) rfl
theorem kw_0 : (Cond.selects RX10 yX10_forgetWhatDependsOnComparators yX10_forgetWhatDependsOnComparators) ∈ TW := tw_in 0 (by decide +kernel) (by decide +kernel)
theorem kw_1 : (Cond.selects RX9 yX9_isCrooked yX9_isCrooked) ∈ TW := tw_in 1 (by decide +kernel) (by decide +kernel)
theorem kw_2 : (Cond.selects RX9 yX9_changeNames yX9_changeNames) ∈ TW := tw_in 2 (by decide +kernel) (by decide +kernel)
theorem kw_3 : (Cond.selects RX4 yX4_rowOutOf yX4_rowOutOf) ∈ TW := tw_in 3 (by decide +kernel) (by decide +kernel)
theorem kw_4 : (Cond.selects RX2 yX2_waysTo yX2_waysTo) ∈ TW := tw_in 4 (by decide +kernel) (by decide +kernel)
theorem kw_5 : (Cond.selects RX7 yX7_learn yX7_learn) ∈ TW := tw_in 5 (by decide +kernel) (by decide +kernel)
theorem kw_6 : (Cond.selects RX7 yX7_reach yX7_reach) ∈ TW := tw_in 6 (by decide +kernel) (by decide +kernel)
theorem kw_7 : (Cond.selects RX3 yX3_keep yX3_keep) ∈ TW := tw_in 7 (by decide +kernel) (by decide +kernel)
theorem kw_9 : (Cond.selects RX10 yX10_checkTwoWires yX10_checkTwoWires) ∈ TW := tw_in 9 (by decide +kernel) (by decide +kernel)
theorem kw_10 : (Cond.selects RX10 yX10_checkWire yX10_checkWire) ∈ TW := tw_in 10 (by decide +kernel) (by decide +kernel)
theorem kw_11 : (Cond.selects RX10 yX10_checkRoomFor yX10_checkRoomFor) ∈ TW := tw_in 11 (by decide +kernel) (by decide +kernel)
theorem kw_12 : (Cond.selects RX9 yX9_layAcross yX9_layAcross) ∈ TW := tw_in 12 (by decide +kernel) (by decide +kernel)
theorem kw_13 : (Cond.selects RX10 yX10_appendPlan yX10_appendPlan) ∈ TW := tw_in 13 (by decide +kernel) (by decide +kernel)
theorem kw_14 : (Cond.selects RX10 yX10_checkComparator yX10_checkComparator) ∈ TW := tw_in 14 (by decide +kernel) (by decide +kernel)
theorem kw_15 : (Cond.selects RX9 yX9_inTextAt yX9_inTextAt) ∈ TW := tw_in 15 (by decide +kernel) (by decide +kernel)
theorem kw_16 : (Cond.selects RX9 yX9_placeKey yX9_placeKey) ∈ TW := tw_in 16 (by decide +kernel) (by decide +kernel)
theorem kw_17 : (Cond.selects RX10 yX10_rowOf yX10_rowOf) ∈ TW := tw_in 17 (by decide +kernel) (by decide +kernel)
theorem kw_18 : (Cond.selects RX6 yX6_learn yX6_learn) ∈ TW := tw_in 18 (by decide +kernel) (by decide +kernel)
theorem kw_19 : (Cond.selects RX6 yX6_listSteps yX6_listSteps) ∈ TW := tw_in 19 (by decide +kernel) (by decide +kernel)
theorem kw_20 : (Cond.selects RX6 yX6_listChanges yX6_listChanges) ∈ TW := tw_in 20 (by decide +kernel) (by decide +kernel)
theorem kw_21 : (Cond.selects RX6 yX6_append yX6_append) ∈ TW := tw_in 21 (by decide +kernel) (by decide +kernel)
theorem kw_22 : (Cond.selects RX6 yX6_listFlips yX6_listFlips) ∈ TW := tw_in 22 (by decide +kernel) (by decide +kernel)
theorem kw_23 : (Cond.selects RX6 yX6_listBlocks yX6_listBlocks) ∈ TW := tw_in 23 (by decide +kernel) (by decide +kernel)
theorem kw_24 : (Cond.selects RX11 yX11_begins yX11_begins) ∈ TW := tw_in 24 (by decide +kernel) (by decide +kernel)
theorem kw_25 : (Cond.selects RX11 yX11_forgets yX11_forgets) ∈ TW := tw_in 25 (by decide +kernel) (by decide +kernel)
theorem kw_26 : (Cond.selects RX11 yX11_isWire yX11_isWire) ∈ TW := tw_in 26 (by decide +kernel) (by decide +kernel)
theorem kw_27 : (Cond.selects RX11 yX11_puts yX11_puts) ∈ TW := tw_in 27 (by decide +kernel) (by decide +kernel)
theorem kw_28 : (Cond.selects RX11 yX11_makesAll yX11_makesAll) ∈ TW := tw_in 28 (by decide +kernel) (by decide +kernel)
theorem kw_29 : (Cond.selects RX11 yX11_makes yX11_makes) ∈ TW := tw_in 29 (by decide +kernel) (by decide +kernel)
theorem kw_30 : (Cond.selects RX11 yX11_often yX11_often) ∈ TW := tw_in 30 (by decide +kernel) (by decide +kernel)
theorem kw_31 : (Cond.selects RX11 yX11_through yX11_through) ∈ TW := tw_in 31 (by decide +kernel) (by decide +kernel)
theorem kw_32 : (Cond.selects RX11 yX11_laysLayers yX11_laysLayers) ∈ TW := tw_in 32 (by decide +kernel) (by decide +kernel)
theorem kw_33 : (Cond.selects RX11 yX11_isComparator yX11_isComparator) ∈ TW := tw_in 33 (by decide +kernel) (by decide +kernel)
theorem kw_34 : (Cond.selects RX11 yX11_writes yX11_writes) ∈ TW := tw_in 34 (by decide +kernel) (by decide +kernel)
theorem kw_35 : (Cond.selects RX11 yX11_findFault yX11_findFault) ∈ TW := tw_in 35 (by decide +kernel) (by decide +kernel)
theorem kw_36 : (Cond.selects RX11 yX11_rowOf yX11_rowOf) ∈ TW := tw_in 36 (by decide +kernel) (by decide +kernel)
theorem kw_37 : (Cond.selects RX11 yX11_numberOf yX11_numberOf) ∈ TW := tw_in 37 (by decide +kernel) (by decide +kernel)
theorem kw_38 : (Cond.selects RX11 yX11_goes yX11_goes) ∈ TW := tw_in 38 (by decide +kernel) (by decide +kernel)
theorem kw_39 : (Cond.selects RX11 yX11_exchanges yX11_exchanges) ∈ TW := tw_in 39 (by decide +kernel) (by decide +kernel)
theorem kw_40 : (Cond.selects RX11 yX11_codeOf yX11_codeOf) ∈ TW := tw_in 40 (by decide +kernel) (by decide +kernel)
theorem kw_41 : (Cond.selects RX11 yX11_out yX11_out) ∈ TW := tw_in 41 (by decide +kernel) (by decide +kernel)
theorem kw_42 : (Cond.selects RX11 yX11_unsorted yX11_unsorted) ∈ TW := tw_in 42 (by decide +kernel) (by decide +kernel)
theorem kw_43 : (Cond.selects RX11 yX11_lays yX11_lays) ∈ TW := tw_in 43 (by decide +kernel) (by decide +kernel)
theorem kw_44 : (Cond.selects RX11 yX11_isDone yX11_isDone) ∈ TW := tw_in 44 (by decide +kernel) (by decide +kernel)
theorem kw_45 : (Cond.selects RX11 yX11_behind yX11_behind) ∈ TW := tw_in 45 (by decide +kernel) (by decide +kernel)
theorem kw_46 : (Cond.selects RX11 yX11_reaches yX11_reaches) ∈ TW := tw_in 46 (by decide +kernel) (by decide +kernel)
theorem kw_47 : (Cond.selects RX11 yX11_misses yX11_misses) ∈ TW := tw_in 47 (by decide +kernel) (by decide +kernel)
theorem kw_48 : (Cond.selects RX11 yX11_tellers yX11_tellers) ∈ TW := tw_in 48 (by decide +kernel) (by decide +kernel)
theorem kw_49 : (Cond.selects RX11 yX11_chosen yX11_chosen) ∈ TW := tw_in 49 (by decide +kernel) (by decide +kernel)
theorem kw_50 : (Cond.selects RX11 yX11_spreads yX11_spreads) ∈ TW := tw_in 50 (by decide +kernel) (by decide +kernel)
theorem kw_51 : (Cond.selects RX11 yX11_kinds yX11_kinds) ∈ TW := tw_in 51 (by decide +kernel) (by decide +kernel)
theorem kw_52 : (Cond.selects RX11 yX11_does yX11_does) ∈ TW := tw_in 52 (by decide +kernel) (by decide +kernel)
theorem kw_53 : (Cond.selects RX11 yX11_flips yX11_flips) ∈ TW := tw_in 53 (by decide +kernel) (by decide +kernel)
theorem kw_54 : (Cond.selects RX11 yX11_isLess yX11_isLess) ∈ TW := tw_in 54 (by decide +kernel) (by decide +kernel)
theorem kw_55 : (Cond.selects RX11 yX11_comes yX11_comes) ∈ TW := tw_in 55 (by decide +kernel) (by decide +kernel)
theorem kw_56 : (Cond.selects RX11 yX11_placeOf yX11_placeOf) ∈ TW := tw_in 56 (by decide +kernel) (by decide +kernel)
theorem kw_57 : (Cond.selects RX11 yX11_lessIn yX11_lessIn) ∈ TW := tw_in 57 (by decide +kernel) (by decide +kernel)
theorem kw_58 : (Cond.selects RX11 yX11_best yX11_best) ∈ TW := tw_in 58 (by decide +kernel) (by decide +kernel)
theorem kw_59 : (Cond.initialized RL) ∈ TW := tw_in 59 (by decide +kernel) (by decide +kernel)
theorem kw_60 : (Cond.initialized RX10) ∈ TW := tw_in 60 (by decide +kernel) (by decide +kernel)
theorem kw_61 : (Cond.initialized RX9) ∈ TW := tw_in 61 (by decide +kernel) (by decide +kernel)
theorem kw_62 : (Cond.initialized RX8) ∈ TW := tw_in 62 (by decide +kernel) (by decide +kernel)
theorem kw_63 : (Cond.initialized RX4) ∈ TW := tw_in 63 (by decide +kernel) (by decide +kernel)
theorem kw_64 : (Cond.initialized RX2) ∈ TW := tw_in 64 (by decide +kernel) (by decide +kernel)
theorem kw_65 : (Cond.initialized RX3) ∈ TW := tw_in 65 (by decide +kernel) (by decide +kernel)
theorem kw_66 : (Cond.initialized RX7) ∈ TW := tw_in 66 (by decide +kernel) (by decide +kernel)
theorem kw_67 : (Cond.initialized RX1) ∈ TW := tw_in 67 (by decide +kernel) (by decide +kernel)
theorem kw_68 : (Cond.initialized RX6) ∈ TW := tw_in 68 (by decide +kernel) (by decide +kernel)
theorem kw_69 : (Cond.initialized RX0) ∈ TW := tw_in 69 (by decide +kernel) (by decide +kernel)
theorem kw_70 : (Cond.initialized RX11) ∈ TW := tw_in 70 (by decide +kernel) (by decide +kernel)
theorem kw_74 : (Cond.initialized "java/lang/IllegalArgumentException") ∈ TW := tw_in 74 (by decide +kernel) (by decide +kernel)
theorem kw_75 : (Cond.initialized "java/lang/IndexOutOfBoundsException") ∈ TW := tw_in 75 (by decide +kernel) (by decide +kernel)
theorem kw_76 : (Cond.initialized "java/lang/IllegalStateException") ∈ TW := tw_in 76 (by decide +kernel) (by decide +kernel)
theorem kw_77 : (Cond.initialized RJ9) ∈ TW := tw_in 77 (by decide +kernel) (by decide +kernel)
theorem kw_78 : (Cond.initialized RJ13) ∈ TW := tw_in 78 (by decide +kernel) (by decide +kernel)
theorem kw_79 : (Cond.initialized RX5) ∈ TW := tw_in 79 (by decide +kernel) (by decide +kernel)
theorem kw_80 : (Cond.initialized RJ6) ∈ TW := tw_in 80 (by decide +kernel) (by decide +kernel)
theorem kw_81 : (Cond.classLink "ComparatoryLaw" (8 : Nat) "Comparatory") ∈ TW := tw_in 81 (by decide +kernel) (by decide +kernel)
theorem kw_82 : (Cond.instantiable "Comparatory" (9 : Nat)) ∈ TW := tw_in 82 (by decide +kernel) (by decide +kernel)
theorem kw_83 : (Cond.methodLink RL 95 yX10_init) ∈ TW := tw_in 83 (by decide +kernel) (by decide +kernel)
theorem kw_84 : (Cond.instanceMethod yX10_init) ∈ TW := tw_in 84 (by decide +kernel) (by decide +kernel)
theorem kw_85 : (Cond.code yX10_init cX10_init 1 (none)) ∈ TW := tw_in 85 (by decide +kernel) (by decide +kernel)
theorem kw_86 : (Cond.methodLink "Comparatory" (1 : Nat) ({ cls := "java/lang/Object", name := "<init>", desc := "()V" } : MethodName)) ∈ TW := tw_in 86 (by decide +kernel) (by decide +kernel)
theorem kw_87 : (Cond.instanceMethod ({ cls := "java/lang/Object", name := "<init>", desc := "()V" } : MethodName)) ∈ TW := tw_in 87 (by decide +kernel) (by decide +kernel)
theorem kw_88 : (Cond.code Lib.objectInit ⟨#[0xb1]⟩ 1 none) ∈ TW := tw_in 88 (by decide +kernel) (by decide +kernel)
theorem kw_89 : (Cond.classLink "Comparatory" (7 : Nat) "Comparatory$Wiring") ∈ TW := tw_in 89 (by decide +kernel) (by decide +kernel)
theorem kw_90 : (Cond.instantiable "Comparatory$Wiring" (6 : Nat)) ∈ TW := tw_in 90 (by decide +kernel) (by decide +kernel)
theorem kw_91 : (Cond.methodLinkNest RX10 9 yX9_init "Comparatory") ∈ NST := nst_in 91 (by decide +kernel) (by decide +kernel)
theorem kw_92 : (Cond.instanceMethod yX9_init) ∈ TW := tw_in 92 (by decide +kernel) (by decide +kernel)
theorem kw_93 : (Cond.code yX9_init cX9_init 1 (none)) ∈ TW := tw_in 93 (by decide +kernel) (by decide +kernel)
theorem kw_94 : (Cond.methodLink "Comparatory$Wiring" (3 : Nat) ({ cls := "java/lang/Object", name := "<init>", desc := "()V" } : MethodName)) ∈ TW := tw_in 94 (by decide +kernel) (by decide +kernel)
theorem kw_95 : (Cond.fieldLink RX9 9 RX9 "wires" "I") ∈ TW := tw_in 95 (by decide +kernel) (by decide +kernel)
theorem kw_96 : (Cond.fieldLinkNest RX7 27 RX9 "wires" "I" "Comparatory") ∈ NST := nst_in 96 (by decide +kernel) (by decide +kernel)
theorem kw_97 : (Cond.fieldLinkNest RX10 109 RX9 "wires" "I" "Comparatory") ∈ NST := nst_in 97 (by decide +kernel) (by decide +kernel)
theorem kw_98 : (Cond.fieldLinkNest RX4 34 RX9 "wires" "I" "Comparatory") ∈ NST := nst_in 98 (by decide +kernel) (by decide +kernel)
theorem kw_99 : (Cond.fieldLink RX9 15 RX9 "count" "I") ∈ TW := tw_in 99 (by decide +kernel) (by decide +kernel)
theorem kw_100 : (Cond.fieldLinkNest RX3 19 RX9 "count" "I" "Comparatory") ∈ NST := nst_in 100 (by decide +kernel) (by decide +kernel)
theorem kw_101 : (Cond.fieldLinkNest RX10 75 RX9 "count" "I" "Comparatory") ∈ NST := nst_in 101 (by decide +kernel) (by decide +kernel)
theorem kw_102 : (Cond.fieldLinkNest RX1 29 RX9 "count" "I" "Comparatory") ∈ NST := nst_in 102 (by decide +kernel) (by decide +kernel)
theorem kw_103 : (Cond.fieldLinkNest RX7 38 RX9 "count" "I" "Comparatory") ∈ NST := nst_in 103 (by decide +kernel) (by decide +kernel)
theorem kw_104 : (Cond.fieldLinkNest RX4 63 RX9 "count" "I" "Comparatory") ∈ NST := nst_in 104 (by decide +kernel) (by decide +kernel)
theorem kw_105 : (Cond.fieldLink RX9 18 RX9 "firsts" "[I") ∈ TW := tw_in 105 (by decide +kernel) (by decide +kernel)
theorem kw_106 : (Cond.fieldLinkNest RX1 34 RX9 "firsts" "[I" "Comparatory") ∈ NST := nst_in 106 (by decide +kernel) (by decide +kernel)
theorem kw_107 : (Cond.fieldLinkNest RX7 39 RX9 "firsts" "[I" "Comparatory") ∈ NST := nst_in 107 (by decide +kernel) (by decide +kernel)
theorem kw_108 : (Cond.fieldLinkNest RX4 44 RX9 "firsts" "[I" "Comparatory") ∈ NST := nst_in 108 (by decide +kernel) (by decide +kernel)
theorem kw_109 : (Cond.fieldLinkNest RX10 152 RX9 "firsts" "[I" "Comparatory") ∈ NST := nst_in 109 (by decide +kernel) (by decide +kernel)
theorem kw_110 : (Cond.fieldLink RX9 22 RX9 "others" "[I") ∈ TW := tw_in 110 (by decide +kernel) (by decide +kernel)
theorem kw_111 : (Cond.fieldLinkNest RX1 37 RX9 "others" "[I" "Comparatory") ∈ NST := nst_in 111 (by decide +kernel) (by decide +kernel)
theorem kw_112 : (Cond.fieldLinkNest RX7 42 RX9 "others" "[I" "Comparatory") ∈ NST := nst_in 112 (by decide +kernel) (by decide +kernel)
theorem kw_113 : (Cond.fieldLinkNest RX4 48 RX9 "others" "[I" "Comparatory") ∈ NST := nst_in 113 (by decide +kernel) (by decide +kernel)
theorem kw_114 : (Cond.fieldLinkNest RX10 156 RX9 "others" "[I" "Comparatory") ∈ NST := nst_in 114 (by decide +kernel) (by decide +kernel)
theorem kw_115 : (Cond.fieldLink RX9 25 RX9 "layers" "[I") ∈ TW := tw_in 115 (by decide +kernel) (by decide +kernel)
theorem kw_116 : (Cond.fieldLink RX9 28 RX9 "freeFrom" "[I") ∈ TW := tw_in 116 (by decide +kernel) (by decide +kernel)
theorem kw_130 : (Cond.arrayClass ClassFile.FieldType.int) ∈ TW := tw_in 130 (by decide +kernel) (by decide +kernel)
theorem kw_131 : (Cond.classLink "Comparatory" (19 : Nat) "Comparatory$Tape") ∈ TW := tw_in 131 (by decide +kernel) (by decide +kernel)
theorem kw_132 : (Cond.instantiable "Comparatory$Tape" (2 : Nat)) ∈ TW := tw_in 132 (by decide +kernel) (by decide +kernel)
theorem kw_133 : (Cond.methodLinkNest RX10 21 yX8_init "Comparatory") ∈ NST := nst_in 133 (by decide +kernel) (by decide +kernel)
theorem kw_134 : (Cond.instanceMethod yX8_init) ∈ TW := tw_in 134 (by decide +kernel) (by decide +kernel)
theorem kw_135 : (Cond.code yX8_init cX8_init 1 (none)) ∈ TW := tw_in 135 (by decide +kernel) (by decide +kernel)
theorem kw_136 : (Cond.methodLink "Comparatory$Tape" (3 : Nat) ({ cls := "java/lang/Object", name := "<init>", desc := "()V" } : MethodName)) ∈ TW := tw_in 136 (by decide +kernel) (by decide +kernel)
theorem kw_137 : (Cond.fieldLink RX8 9 RX8 "signs" "[C") ∈ TW := tw_in 137 (by decide +kernel) (by decide +kernel)
theorem kw_138 : (Cond.fieldLink RX8 15 RX8 "length" "I") ∈ TW := tw_in 138 (by decide +kernel) (by decide +kernel)
theorem kw_139 : (Cond.fieldLinkNest RX10 194 RX8 "length" "I" "Comparatory") ∈ NST := nst_in 139 (by decide +kernel) (by decide +kernel)
theorem kw_145 : (Cond.arrayClass ClassFile.FieldType.char) ∈ TW := tw_in 145 (by decide +kernel) (by decide +kernel)
theorem kw_146 : (Cond.classLink "Comparatory" (26 : Nat) "Comparatory$Proof") ∈ TW := tw_in 146 (by decide +kernel) (by decide +kernel)
theorem kw_147 : (Cond.instantiable "Comparatory$Proof" (3 : Nat)) ∈ TW := tw_in 147 (by decide +kernel) (by decide +kernel)
theorem kw_148 : (Cond.methodLinkNest RX10 28 yX4_init "Comparatory") ∈ NST := nst_in 148 (by decide +kernel) (by decide +kernel)
theorem kw_149 : (Cond.instanceMethod yX4_init) ∈ TW := tw_in 149 (by decide +kernel) (by decide +kernel)
theorem kw_150 : (Cond.code yX4_init cX4_init 1 (none)) ∈ TW := tw_in 150 (by decide +kernel) (by decide +kernel)
theorem kw_151 : (Cond.methodLink "Comparatory$Proof" (3 : Nat) ({ cls := "java/lang/Object", name := "<init>", desc := "()V" } : MethodName)) ∈ TW := tw_in 151 (by decide +kernel) (by decide +kernel)
theorem kw_152 : (Cond.classLink "Comparatory$Proof" (18 : Nat) "Comparatory$Chains") ∈ TW := tw_in 152 (by decide +kernel) (by decide +kernel)
theorem kw_153 : (Cond.instantiable "Comparatory$Chains" (1 : Nat)) ∈ TW := tw_in 153 (by decide +kernel) (by decide +kernel)
theorem kw_154 : (Cond.methodLinkNest RX4 20 yX2_init "Comparatory") ∈ NST := nst_in 154 (by decide +kernel) (by decide +kernel)
theorem kw_155 : (Cond.instanceMethod yX2_init) ∈ TW := tw_in 155 (by decide +kernel) (by decide +kernel)
theorem kw_156 : (Cond.code yX2_init cX2_init 1 (none)) ∈ TW := tw_in 156 (by decide +kernel) (by decide +kernel)
theorem kw_157 : (Cond.methodLink "Comparatory$Chains" (3 : Nat) ({ cls := "java/lang/Object", name := "<init>", desc := "()V" } : MethodName)) ∈ TW := tw_in 157 (by decide +kernel) (by decide +kernel)
theorem kw_158 : (Cond.fieldLink RX2 9 RX2 "ways" "[I") ∈ TW := tw_in 158 (by decide +kernel) (by decide +kernel)
theorem kw_162 : (Cond.arrayClass ClassFile.FieldType.long) ∈ TW := tw_in 162 (by decide +kernel) (by decide +kernel)
theorem kw_163 : (Cond.fieldLink RX4 9 RX4 "columns" "[J") ∈ TW := tw_in 163 (by decide +kernel) (by decide +kernel)
theorem kw_164 : (Cond.fieldLink RX4 15 RX4 "sound" "[J") ∈ TW := tw_in 164 (by decide +kernel) (by decide +kernel)
theorem kw_165 : (Cond.fieldLink RX4 21 RX4 "chains" "LComparatory$Chains;") ∈ TW := tw_in 165 (by decide +kernel) (by decide +kernel)
theorem kw_173 : (Cond.classLink "Comparatory" (33 : Nat) "Comparatory$Faults") ∈ TW := tw_in 173 (by decide +kernel) (by decide +kernel)
theorem kw_174 : (Cond.instantiable "Comparatory$Faults" (2 : Nat)) ∈ TW := tw_in 174 (by decide +kernel) (by decide +kernel)
theorem kw_175 : (Cond.methodLinkNest RX10 35 yX3_init "Comparatory") ∈ NST := nst_in 175 (by decide +kernel) (by decide +kernel)
theorem kw_176 : (Cond.instanceMethod yX3_init) ∈ TW := tw_in 176 (by decide +kernel) (by decide +kernel)
theorem kw_177 : (Cond.code yX3_init cX3_init 1 (none)) ∈ TW := tw_in 177 (by decide +kernel) (by decide +kernel)
theorem kw_178 : (Cond.methodLink "Comparatory$Faults" (3 : Nat) ({ cls := "java/lang/Object", name := "<init>", desc := "()V" } : MethodName)) ∈ TW := tw_in 178 (by decide +kernel) (by decide +kernel)
theorem kw_179 : (Cond.fieldLink RX3 9 RX3 "sets" "[J") ∈ TW := tw_in 179 (by decide +kernel) (by decide +kernel)
theorem kw_180 : (Cond.fieldLink RX3 15 RX3 "count" "I") ∈ TW := tw_in 180 (by decide +kernel) (by decide +kernel)
theorem kw_186 : (Cond.classLink "Comparatory" (40 : Nat) "Comparatory$Switches") ∈ TW := tw_in 186 (by decide +kernel) (by decide +kernel)
theorem kw_187 : (Cond.instantiable "Comparatory$Switches" (3 : Nat)) ∈ TW := tw_in 187 (by decide +kernel) (by decide +kernel)
theorem kw_188 : (Cond.methodLinkNest RX10 42 yX7_init "Comparatory") ∈ NST := nst_in 188 (by decide +kernel) (by decide +kernel)
theorem kw_189 : (Cond.instanceMethod yX7_init) ∈ TW := tw_in 189 (by decide +kernel) (by decide +kernel)
theorem kw_190 : (Cond.code yX7_init cX7_init 1 (none)) ∈ TW := tw_in 190 (by decide +kernel) (by decide +kernel)
theorem kw_191 : (Cond.methodLink "Comparatory$Switches" (3 : Nat) ({ cls := "java/lang/Object", name := "<init>", desc := "()V" } : MethodName)) ∈ TW := tw_in 191 (by decide +kernel) (by decide +kernel)
theorem kw_192 : (Cond.fieldLink RX7 9 RX7 "rows" "[I") ∈ TW := tw_in 192 (by decide +kernel) (by decide +kernel)
theorem kw_193 : (Cond.fieldLink RX7 15 RX7 "since" "[B") ∈ TW := tw_in 193 (by decide +kernel) (by decide +kernel)
theorem kw_194 : (Cond.fieldLink RX7 19 RX7 "count" "I") ∈ TW := tw_in 194 (by decide +kernel) (by decide +kernel)
theorem kw_202 : (Cond.arrayClass ClassFile.FieldType.byte) ∈ TW := tw_in 202 (by decide +kernel) (by decide +kernel)
theorem kw_203 : (Cond.classLink "Comparatory" (47 : Nat) "Comparatory$Balancers") ∈ TW := tw_in 203 (by decide +kernel) (by decide +kernel)
theorem kw_204 : (Cond.instantiable "Comparatory$Balancers" (5 : Nat)) ∈ TW := tw_in 204 (by decide +kernel) (by decide +kernel)
theorem kw_205 : (Cond.methodLinkNest RX10 49 yX1_init "Comparatory") ∈ NST := nst_in 205 (by decide +kernel) (by decide +kernel)
theorem kw_206 : (Cond.instanceMethod yX1_init) ∈ TW := tw_in 206 (by decide +kernel) (by decide +kernel)
theorem kw_207 : (Cond.code yX1_init cX1_init 1 (none)) ∈ TW := tw_in 207 (by decide +kernel) (by decide +kernel)
theorem kw_208 : (Cond.methodLink "Comparatory$Balancers" (3 : Nat) ({ cls := "java/lang/Object", name := "<init>", desc := "()V" } : MethodName)) ∈ TW := tw_in 208 (by decide +kernel) (by decide +kernel)
theorem kw_209 : (Cond.fieldLink RX1 9 RX1 "in" "[I") ∈ TW := tw_in 209 (by decide +kernel) (by decide +kernel)
theorem kw_210 : (Cond.fieldLink RX1 15 RX1 "out" "[I") ∈ TW := tw_in 210 (by decide +kernel) (by decide +kernel)
theorem kw_211 : (Cond.fieldLinkNest RX10 280 RX1 "out" "[I" "Comparatory") ∈ NST := nst_in 211 (by decide +kernel) (by decide +kernel)
theorem kw_212 : (Cond.fieldLink RX1 18 RX1 "anew" "[I") ∈ TW := tw_in 212 (by decide +kernel) (by decide +kernel)
theorem kw_213 : (Cond.fieldLink RX1 21 RX1 "isOtherNext" "[Z") ∈ TW := tw_in 213 (by decide +kernel) (by decide +kernel)
theorem kw_214 : (Cond.fieldLink RX1 25 RX1 "total" "I") ∈ TW := tw_in 214 (by decide +kernel) (by decide +kernel)
theorem kw_215 : (Cond.fieldLinkNest RX10 272 RX1 "total" "I" "Comparatory") ∈ NST := nst_in 215 (by decide +kernel) (by decide +kernel)
theorem kw_227 : (Cond.arrayClass ClassFile.FieldType.boolean) ∈ TW := tw_in 227 (by decide +kernel) (by decide +kernel)
theorem kw_228 : (Cond.classLink "Comparatory" (54 : Nat) "Comparatory$Steps") ∈ TW := tw_in 228 (by decide +kernel) (by decide +kernel)
theorem kw_229 : (Cond.instantiable "Comparatory$Steps" (4 : Nat)) ∈ TW := tw_in 229 (by decide +kernel) (by decide +kernel)
theorem kw_230 : (Cond.methodLinkNest RX10 56 yX6_init "Comparatory") ∈ NST := nst_in 230 (by decide +kernel) (by decide +kernel)
theorem kw_231 : (Cond.instanceMethod yX6_init) ∈ TW := tw_in 231 (by decide +kernel) (by decide +kernel)
theorem kw_232 : (Cond.code yX6_init cX6_init 1 (none)) ∈ TW := tw_in 232 (by decide +kernel) (by decide +kernel)
theorem kw_233 : (Cond.methodLink "Comparatory$Steps" (3 : Nat) ({ cls := "java/lang/Object", name := "<init>", desc := "()V" } : MethodName)) ∈ TW := tw_in 233 (by decide +kernel) (by decide +kernel)
theorem kw_234 : (Cond.fieldLink RX6 11 RX6 "known" "[B") ∈ TW := tw_in 234 (by decide +kernel) (by decide +kernel)
theorem kw_235 : (Cond.fieldLink RX6 15 RX6 "queue" "[I") ∈ TW := tw_in 235 (by decide +kernel) (by decide +kernel)
theorem kw_236 : (Cond.fieldLink RX6 19 RX6 "list" "[I") ∈ TW := tw_in 236 (by decide +kernel) (by decide +kernel)
theorem kw_237 : (Cond.fieldLink RX6 22 RX6 "count" "I") ∈ TW := tw_in 237 (by decide +kernel) (by decide +kernel)
theorem kw_247 : (Cond.classLink "Comparatory" (61 : Nat) "Comparatory$Adversary") ∈ TW := tw_in 247 (by decide +kernel) (by decide +kernel)
theorem kw_248 : (Cond.instantiable "Comparatory$Adversary" (2 : Nat)) ∈ TW := tw_in 248 (by decide +kernel) (by decide +kernel)
theorem kw_249 : (Cond.methodLinkNest RX10 63 yX0_init "Comparatory") ∈ NST := nst_in 249 (by decide +kernel) (by decide +kernel)
theorem kw_250 : (Cond.instanceMethod yX0_init) ∈ TW := tw_in 250 (by decide +kernel) (by decide +kernel)
theorem kw_251 : (Cond.code yX0_init cX0_init 1 (none)) ∈ TW := tw_in 251 (by decide +kernel) (by decide +kernel)
theorem kw_252 : (Cond.methodLink "Comparatory$Adversary" (3 : Nat) ({ cls := "java/lang/Object", name := "<init>", desc := "()V" } : MethodName)) ∈ TW := tw_in 252 (by decide +kernel) (by decide +kernel)
theorem kw_253 : (Cond.classLink "Comparatory$Adversary" (15 : Nat) "Comparatory$Chains") ∈ TW := tw_in 253 (by decide +kernel) (by decide +kernel)
theorem kw_254 : (Cond.methodLinkNest RX0 17 yX2_init "Comparatory") ∈ NST := nst_in 254 (by decide +kernel) (by decide +kernel)
theorem kw_255 : (Cond.fieldLink RX0 9 RX0 "lesser" "J") ∈ TW := tw_in 255 (by decide +kernel) (by decide +kernel)
theorem kw_256 : (Cond.fieldLink RX0 18 RX0 "chains" "LComparatory$Chains;") ∈ TW := tw_in 256 (by decide +kernel) (by decide +kernel)
theorem kw_262 : (Cond.fieldLink RX10 10 RX10 "wiring" "LComparatory$Wiring;") ∈ TW := tw_in 262 (by decide +kernel) (by decide +kernel)
theorem kw_263 : (Cond.fieldLink RX10 16 RX10 "plan" "LComparatory$Wiring;") ∈ TW := tw_in 263 (by decide +kernel) (by decide +kernel)
theorem kw_264 : (Cond.fieldLink RX10 22 RX10 "tape" "LComparatory$Tape;") ∈ TW := tw_in 264 (by decide +kernel) (by decide +kernel)
theorem kw_265 : (Cond.fieldLink RX10 29 RX10 "proof" "LComparatory$Proof;") ∈ TW := tw_in 265 (by decide +kernel) (by decide +kernel)
theorem kw_266 : (Cond.fieldLink RX10 36 RX10 "faults" "LComparatory$Faults;") ∈ TW := tw_in 266 (by decide +kernel) (by decide +kernel)
theorem kw_267 : (Cond.fieldLink RX10 43 RX10 "switches" "LComparatory$Switches;") ∈ TW := tw_in 267 (by decide +kernel) (by decide +kernel)
theorem kw_268 : (Cond.fieldLink RX10 50 RX10 "balancers" "LComparatory$Balancers;") ∈ TW := tw_in 268 (by decide +kernel) (by decide +kernel)
theorem kw_269 : (Cond.fieldLink RX10 57 RX10 "orders" "LComparatory$Steps;") ∈ TW := tw_in 269 (by decide +kernel) (by decide +kernel)
theorem kw_270 : (Cond.fieldLink RX10 64 RX10 "adversary" "LComparatory$Adversary;") ∈ TW := tw_in 270 (by decide +kernel) (by decide +kernel)
theorem kw_290 : (Cond.methodLink RL 119 yX10_mirror) ∈ TW := tw_in 290 (by decide +kernel) (by decide +kernel)
theorem kw_291 : (Cond.instanceMethod yX10_mirror) ∈ TW := tw_in 291 (by decide +kernel) (by decide +kernel)
theorem kw_292 : (Cond.selects RX10 yX10_mirror yX10_mirror) ∈ TW := tw_in 292 (by decide +kernel) (by decide +kernel)
theorem kw_293 : (Cond.code yX10_mirror cX10_mirror 1 (none)) ∈ TW := tw_in 293 (by decide +kernel) (by decide +kernel)
theorem kw_294 : (Cond.methodLink RX10 125 yX9_turnUpsideDown) ∈ TW := tw_in 294 (by decide +kernel) (by decide +kernel)
theorem kw_295 : (Cond.instanceMethod yX9_turnUpsideDown) ∈ TW := tw_in 295 (by decide +kernel) (by decide +kernel)
theorem kw_296 : (Cond.selects RX9 yX9_turnUpsideDown yX9_turnUpsideDown) ∈ TW := tw_in 296 (by decide +kernel) (by decide +kernel)
theorem kw_297 : (Cond.code yX9_turnUpsideDown cX9_turnUpsideDown 3 (none)) ∈ TW := tw_in 297 (by decide +kernel) (by decide +kernel)
theorem kw_298 : (Cond.methodLink RX10 86 yX10_forgetWhatDependsOnComparators) ∈ TW := tw_in 298 (by decide +kernel) (by decide +kernel)
theorem kw_300 : (Cond.instanceMethod yX10_forgetWhatDependsOnComparators) ∈ TW := tw_in 300 (by decide +kernel) (by decide +kernel)
theorem kw_301 : (Cond.code yX10_forgetWhatDependsOnComparators cX10_forgetWhatDependsOnComparators 1 (none)) ∈ TW := tw_in 301 (by decide +kernel) (by decide +kernel)
theorem kw_302 : (Cond.methodLink RX10 333 yX1_forget) ∈ TW := tw_in 302 (by decide +kernel) (by decide +kernel)
theorem kw_303 : (Cond.instanceMethod yX1_forget) ∈ TW := tw_in 303 (by decide +kernel) (by decide +kernel)
theorem kw_304 : (Cond.selects RX1 yX1_forget yX1_forget) ∈ TW := tw_in 304 (by decide +kernel) (by decide +kernel)
theorem kw_305 : (Cond.code yX1_forget cX1_forget 2 (none)) ∈ TW := tw_in 305 (by decide +kernel) (by decide +kernel)
theorem kw_306 : (Cond.methodLink RX10 334 yX7_forget) ∈ TW := tw_in 306 (by decide +kernel) (by decide +kernel)
theorem kw_307 : (Cond.instanceMethod yX7_forget) ∈ TW := tw_in 307 (by decide +kernel) (by decide +kernel)
theorem kw_308 : (Cond.selects RX7 yX7_forget yX7_forget) ∈ TW := tw_in 308 (by decide +kernel) (by decide +kernel)
theorem kw_309 : (Cond.code yX7_forget cX7_forget 1 (none)) ∈ TW := tw_in 309 (by decide +kernel) (by decide +kernel)
theorem kw_310 : (Cond.methodLink RL 123 yX10_untangle) ∈ TW := tw_in 310 (by decide +kernel) (by decide +kernel)
theorem kw_311 : (Cond.instanceMethod yX10_untangle) ∈ TW := tw_in 311 (by decide +kernel) (by decide +kernel)
theorem kw_312 : (Cond.selects RX10 yX10_untangle yX10_untangle) ∈ TW := tw_in 312 (by decide +kernel) (by decide +kernel)
theorem kw_313 : (Cond.code yX10_untangle cX10_untangle 2 (some .int)) ∈ TW := tw_in 313 (by decide +kernel) (by decide +kernel)
theorem kw_314 : (Cond.methodLink RX10 128 yX9_straighten) ∈ TW := tw_in 314 (by decide +kernel) (by decide +kernel)
theorem kw_315 : (Cond.instanceMethod yX9_straighten) ∈ TW := tw_in 315 (by decide +kernel) (by decide +kernel)
theorem kw_316 : (Cond.selects RX9 yX9_straighten yX9_straighten) ∈ TW := tw_in 316 (by decide +kernel) (by decide +kernel)
theorem kw_317 : (Cond.code yX9_straighten cX9_straighten 3 (some .int)) ∈ TW := tw_in 317 (by decide +kernel) (by decide +kernel)
theorem kw_318 : (Cond.methodLink RX9 39 yX9_isCrooked) ∈ TW := tw_in 318 (by decide +kernel) (by decide +kernel)
theorem kw_320 : (Cond.instanceMethod yX9_isCrooked) ∈ TW := tw_in 320 (by decide +kernel) (by decide +kernel)
theorem kw_321 : (Cond.code yX9_isCrooked cX9_isCrooked 2 (some .boolean)) ∈ TW := tw_in 321 (by decide +kernel) (by decide +kernel)
theorem kw_322 : (Cond.methodLink RX9 43 yX9_changeNames) ∈ TW := tw_in 322 (by decide +kernel) (by decide +kernel)
theorem kw_324 : (Cond.instanceMethod yX9_changeNames) ∈ TW := tw_in 324 (by decide +kernel) (by decide +kernel)
theorem kw_325 : (Cond.code yX9_changeNames cX9_changeNames 5 (none)) ∈ TW := tw_in 325 (by decide +kernel) (by decide +kernel)
theorem kw_326 : (Cond.methodLink RX9 46 yX9_renamed) ∈ TW := tw_in 326 (by decide +kernel) (by decide +kernel)
theorem kw_327 : (Cond.static yX9_renamed) ∈ TW := tw_in 327 (by decide +kernel) (by decide +kernel)
theorem kw_328 : (Cond.code yX9_renamed cX9_renamed 3 (some .int)) ∈ TW := tw_in 328 (by decide +kernel) (by decide +kernel)
theorem kw_329 : (Cond.methodLink RL 127 yX10_prune) ∈ TW := tw_in 329 (by decide +kernel) (by decide +kernel)
theorem kw_330 : (Cond.instanceMethod yX10_prune) ∈ TW := tw_in 330 (by decide +kernel) (by decide +kernel)
theorem kw_331 : (Cond.selects RX10 yX10_prune yX10_prune) ∈ TW := tw_in 331 (by decide +kernel) (by decide +kernel)
theorem kw_332 : (Cond.code yX10_prune cX10_prune 2 (some .int)) ∈ TW := tw_in 332 (by decide +kernel) (by decide +kernel)
theorem kw_333 : (Cond.methodLink RX10 131 yX4_dropDead) ∈ TW := tw_in 333 (by decide +kernel) (by decide +kernel)
theorem kw_334 : (Cond.instanceMethod yX4_dropDead) ∈ TW := tw_in 334 (by decide +kernel) (by decide +kernel)
theorem kw_335 : (Cond.selects RX4 yX4_dropDead yX4_dropDead) ∈ TW := tw_in 335 (by decide +kernel) (by decide +kernel)
theorem kw_336 : (Cond.code yX4_dropDead cX4_dropDead 6 (some .int)) ∈ TW := tw_in 336 (by decide +kernel) (by decide +kernel)
theorem kw_337 : (Cond.methodLink RX4 40 yX4_bringIn) ∈ TW := tw_in 337 (by decide +kernel) (by decide +kernel)
theorem kw_338 : (Cond.static yX4_bringIn) ∈ TW := tw_in 338 (by decide +kernel) (by decide +kernel)
theorem kw_339 : (Cond.code yX4_bringIn cX4_bringIn 3 (none)) ∈ TW := tw_in 339 (by decide +kernel) (by decide +kernel)
theorem kw_340 : (Cond.fieldLink RX4 27 RX4 "INPUTS" "[J") ∈ TW := tw_in 340 (by decide +kernel) (by decide +kernel)
theorem kw_342 : (Cond.methodLink RX4 30 yX4_allRows) ∈ TW := tw_in 342 (by decide +kernel) (by decide +kernel)
theorem kw_343 : (Cond.static yX4_allRows) ∈ TW := tw_in 343 (by decide +kernel) (by decide +kernel)
theorem kw_344 : (Cond.code yX4_allRows cX4_allRows 1 (some .long)) ∈ TW := tw_in 344 (by decide +kernel) (by decide +kernel)
theorem kw_345 : (Cond.constantLong "Comparatory$Proof" (25 : Nat) (-1 : Int64)) ∈ TW := tw_in 345 (by decide +kernel) (by decide +kernel)
theorem kw_346 : (Cond.methodLink RX4 51 yX4_compare) ∈ TW := tw_in 346 (by decide +kernel) (by decide +kernel)
theorem kw_347 : (Cond.static yX4_compare) ∈ TW := tw_in 347 (by decide +kernel) (by decide +kernel)
theorem kw_348 : (Cond.code yX4_compare cX4_compare 7 (none)) ∈ TW := tw_in 348 (by decide +kernel) (by decide +kernel)
theorem kw_349 : (Cond.methodLink RX4 78 yX9_append) ∈ TW := tw_in 349 (by decide +kernel) (by decide +kernel)
theorem kw_350 : (Cond.instanceMethod yX9_append) ∈ TW := tw_in 350 (by decide +kernel) (by decide +kernel)
theorem kw_351 : (Cond.selects RX9 yX9_append yX9_append) ∈ TW := tw_in 351 (by decide +kernel) (by decide +kernel)
theorem kw_352 : (Cond.code yX9_append cX9_append 3 (none)) ∈ TW := tw_in 352 (by decide +kernel) (by decide +kernel)
theorem kw_353 : (Cond.methodLink RL 146 yX10_wipe) ∈ TW := tw_in 353 (by decide +kernel) (by decide +kernel)
theorem kw_354 : (Cond.instanceMethod yX10_wipe) ∈ TW := tw_in 354 (by decide +kernel) (by decide +kernel)
theorem kw_355 : (Cond.selects RX10 yX10_wipe yX10_wipe) ∈ TW := tw_in 355 (by decide +kernel) (by decide +kernel)
theorem kw_356 : (Cond.code yX10_wipe cX10_wipe 2 (some .int)) ∈ TW := tw_in 356 (by decide +kernel) (by decide +kernel)
theorem kw_357 : (Cond.methodLink RX10 203 yX8_empty) ∈ TW := tw_in 357 (by decide +kernel) (by decide +kernel)
theorem kw_358 : (Cond.instanceMethod yX8_empty) ∈ TW := tw_in 358 (by decide +kernel) (by decide +kernel)
theorem kw_359 : (Cond.selects RX8 yX8_empty yX8_empty) ∈ TW := tw_in 359 (by decide +kernel) (by decide +kernel)
theorem kw_360 : (Cond.code yX8_empty cX8_empty 1 (none)) ∈ TW := tw_in 360 (by decide +kernel) (by decide +kernel)
theorem kw_361 : (Cond.methodLink RL 150 yX10_fault) ∈ TW := tw_in 361 (by decide +kernel) (by decide +kernel)
theorem kw_362 : (Cond.instanceMethod yX10_fault) ∈ TW := tw_in 362 (by decide +kernel) (by decide +kernel)
theorem kw_363 : (Cond.selects RX10 yX10_fault yX10_fault) ∈ TW := tw_in 363 (by decide +kernel) (by decide +kernel)
theorem kw_364 : (Cond.code yX10_fault cX10_fault 1 (some .int)) ∈ TW := tw_in 364 (by decide +kernel) (by decide +kernel)
theorem kw_365 : (Cond.methodLink RX10 206 yX8_faultFor) ∈ TW := tw_in 365 (by decide +kernel) (by decide +kernel)
theorem kw_366 : (Cond.instanceMethod yX8_faultFor) ∈ TW := tw_in 366 (by decide +kernel) (by decide +kernel)
theorem kw_367 : (Cond.selects RX8 yX8_faultFor yX8_faultFor) ∈ TW := tw_in 367 (by decide +kernel) (by decide +kernel)
theorem kw_368 : (Cond.code yX8_faultFor cX8_faultFor 6 (some .int)) ∈ TW := tw_in 368 (by decide +kernel) (by decide +kernel)
theorem kw_369 : (Cond.methodLink RL 160 yX10_outputs) ∈ TW := tw_in 369 (by decide +kernel) (by decide +kernel)
theorem kw_370 : (Cond.instanceMethod yX10_outputs) ∈ TW := tw_in 370 (by decide +kernel) (by decide +kernel)
theorem kw_371 : (Cond.selects RX10 yX10_outputs yX10_outputs) ∈ TW := tw_in 371 (by decide +kernel) (by decide +kernel)
theorem kw_372 : (Cond.code yX10_outputs cX10_outputs 1 (some .long)) ∈ TW := tw_in 372 (by decide +kernel) (by decide +kernel)
theorem kw_373 : (Cond.methodLink RX10 227 yX4_rowsOut) ∈ TW := tw_in 373 (by decide +kernel) (by decide +kernel)
theorem kw_374 : (Cond.instanceMethod yX4_rowsOut) ∈ TW := tw_in 374 (by decide +kernel) (by decide +kernel)
theorem kw_375 : (Cond.selects RX4 yX4_rowsOut yX4_rowsOut) ∈ TW := tw_in 375 (by decide +kernel) (by decide +kernel)
theorem kw_376 : (Cond.code yX4_rowsOut cX4_rowsOut 5 (some .long)) ∈ TW := tw_in 376 (by decide +kernel) (by decide +kernel)
theorem kw_377 : (Cond.methodLink RX4 55 yX4_send) ∈ TW := tw_in 377 (by decide +kernel) (by decide +kernel)
theorem kw_378 : (Cond.static yX4_send) ∈ TW := tw_in 378 (by decide +kernel) (by decide +kernel)
theorem kw_379 : (Cond.code yX4_send cX4_send 4 (none)) ∈ TW := tw_in 379 (by decide +kernel) (by decide +kernel)
theorem kw_380 : (Cond.methodLink RX4 82 yX4_rowOutOf) ∈ TW := tw_in 380 (by decide +kernel) (by decide +kernel)
theorem kw_382 : (Cond.instanceMethod yX4_rowOutOf) ∈ TW := tw_in 382 (by decide +kernel) (by decide +kernel)
theorem kw_383 : (Cond.code yX4_rowOutOf cX4_rowOutOf 5 (some .int)) ∈ TW := tw_in 383 (by decide +kernel) (by decide +kernel)
theorem kw_384 : (Cond.methodLink RL 165 yX10_sorts) ∈ TW := tw_in 384 (by decide +kernel) (by decide +kernel)
theorem kw_385 : (Cond.instanceMethod yX10_sorts) ∈ TW := tw_in 385 (by decide +kernel) (by decide +kernel)
theorem kw_386 : (Cond.selects RX10 yX10_sorts yX10_sorts) ∈ TW := tw_in 386 (by decide +kernel) (by decide +kernel)
theorem kw_387 : (Cond.code yX10_sorts cX10_sorts 1 (some .boolean)) ∈ TW := tw_in 387 (by decide +kernel) (by decide +kernel)
theorem kw_388 : (Cond.methodLink RX10 231 yX4_unsortedFrom) ∈ TW := tw_in 388 (by decide +kernel) (by decide +kernel)
theorem kw_389 : (Cond.instanceMethod yX4_unsortedFrom) ∈ TW := tw_in 389 (by decide +kernel) (by decide +kernel)
theorem kw_390 : (Cond.selects RX4 yX4_unsortedFrom yX4_unsortedFrom) ∈ TW := tw_in 390 (by decide +kernel) (by decide +kernel)
theorem kw_391 : (Cond.code yX4_unsortedFrom cX4_unsortedFrom 2 (some .long)) ∈ TW := tw_in 391 (by decide +kernel) (by decide +kernel)
theorem kw_392 : (Cond.methodLink RX4 66 yX4_unsortedIn) ∈ TW := tw_in 392 (by decide +kernel) (by decide +kernel)
theorem kw_393 : (Cond.static yX4_unsortedIn) ∈ TW := tw_in 393 (by decide +kernel) (by decide +kernel)
theorem kw_394 : (Cond.code yX4_unsortedIn cX4_unsortedIn 5 (some .long)) ∈ TW := tw_in 394 (by decide +kernel) (by decide +kernel)
theorem kw_395 : (Cond.methodLink RL 170 yX10_sorted) ∈ TW := tw_in 395 (by decide +kernel) (by decide +kernel)
theorem kw_396 : (Cond.instanceMethod yX10_sorted) ∈ TW := tw_in 396 (by decide +kernel) (by decide +kernel)
theorem kw_397 : (Cond.selects RX10 yX10_sorted yX10_sorted) ∈ TW := tw_in 397 (by decide +kernel) (by decide +kernel)
theorem kw_398 : (Cond.code yX10_sorted cX10_sorted 1 (some .int)) ∈ TW := tw_in 398 (by decide +kernel) (by decide +kernel)
theorem kw_399 : (Cond.methodLink RX10 234 yX4_sortedCount) ∈ TW := tw_in 399 (by decide +kernel) (by decide +kernel)
theorem kw_400 : (Cond.instanceMethod yX4_sortedCount) ∈ TW := tw_in 400 (by decide +kernel) (by decide +kernel)
theorem kw_401 : (Cond.selects RX4 yX4_sortedCount yX4_sortedCount) ∈ TW := tw_in 401 (by decide +kernel) (by decide +kernel)
theorem kw_402 : (Cond.code yX4_sortedCount cX4_sortedCount 2 (some .int)) ∈ TW := tw_in 402 (by decide +kernel) (by decide +kernel)
theorem kw_403 : (Cond.methodLink RX4 86 yX4_unsortedFrom) ∈ TW := tw_in 403 (by decide +kernel) (by decide +kernel)
theorem kw_404 : (Cond.methodLink RX4 90 yX2_countOf) ∈ TW := tw_in 404 (by decide +kernel) (by decide +kernel)
theorem kw_405 : (Cond.instanceMethod yX2_countOf) ∈ TW := tw_in 405 (by decide +kernel) (by decide +kernel)
theorem kw_406 : (Cond.selects RX2 yX2_countOf yX2_countOf) ∈ TW := tw_in 406 (by decide +kernel) (by decide +kernel)
theorem kw_407 : (Cond.code yX2_countOf cX2_countOf 8 (some .int)) ∈ TW := tw_in 407 (by decide +kernel) (by decide +kernel)
theorem kw_408 : (Cond.methodLink RX2 15 yX2_waysTo) ∈ TW := tw_in 408 (by decide +kernel) (by decide +kernel)
theorem kw_410 : (Cond.instanceMethod yX2_waysTo) ∈ TW := tw_in 410 (by decide +kernel) (by decide +kernel)
theorem kw_411 : (Cond.code yX2_waysTo cX2_waysTo 9 (some .int)) ∈ TW := tw_in 411 (by decide +kernel) (by decide +kernel)
theorem kw_412 : (Cond.methodLink RL 186 yX10_off) ∈ TW := tw_in 412 (by decide +kernel) (by decide +kernel)
theorem kw_413 : (Cond.instanceMethod yX10_off) ∈ TW := tw_in 413 (by decide +kernel) (by decide +kernel)
theorem kw_414 : (Cond.selects RX10 yX10_off yX10_off) ∈ TW := tw_in 414 (by decide +kernel) (by decide +kernel)
theorem kw_415 : (Cond.code yX10_off cX10_off 1 (some .int)) ∈ TW := tw_in 415 (by decide +kernel) (by decide +kernel)
theorem kw_416 : (Cond.methodLink RX10 261 yX4_greatestDistance) ∈ TW := tw_in 416 (by decide +kernel) (by decide +kernel)
theorem kw_417 : (Cond.instanceMethod yX4_greatestDistance) ∈ TW := tw_in 417 (by decide +kernel) (by decide +kernel)
theorem kw_418 : (Cond.selects RX4 yX4_greatestDistance yX4_greatestDistance) ∈ TW := tw_in 418 (by decide +kernel) (by decide +kernel)
theorem kw_419 : (Cond.code yX4_greatestDistance cX4_greatestDistance 5 (some .int)) ∈ TW := tw_in 419 (by decide +kernel) (by decide +kernel)
theorem kw_420 : (Cond.methodLink RX4 100 yX4_distanceIn) ∈ TW := tw_in 420 (by decide +kernel) (by decide +kernel)
theorem kw_421 : (Cond.static yX4_distanceIn) ∈ TW := tw_in 421 (by decide +kernel) (by decide +kernel)
theorem kw_422 : (Cond.code yX4_distanceIn cX4_distanceIn 6 (some .int)) ∈ TW := tw_in 422 (by decide +kernel) (by decide +kernel)
theorem kw_423 : (Cond.methodLink RX4 94 yJ6_bitCount_0f7a4) ∈ TW := tw_in 423 (by decide +kernel) (by decide +kernel)
theorem kw_424 : (Cond.static yJ6_bitCount_0f7a4) ∈ TW := tw_in 424 (by decide +kernel) (by decide +kernel)
theorem kw_425 : (Cond.code yJ6_bitCount_0f7a4 cJ6_bitCount_0f7a4 1 (some .int)) ∈ TW := tw_in 425 (by decide +kernel) (by decide +kernel)
theorem kw_426 : (Cond.constant "java/lang/Integer" (265 : Nat) (1431655765 : Int32)) ∈ TW := tw_in 426 (by decide +kernel) (by decide +kernel)
theorem kw_427 : (Cond.constant "java/lang/Integer" (266 : Nat) (858993459 : Int32)) ∈ TW := tw_in 427 (by decide +kernel) (by decide +kernel)
theorem kw_428 : (Cond.constant "java/lang/Integer" (267 : Nat) (252645135 : Int32)) ∈ TW := tw_in 428 (by decide +kernel) (by decide +kernel)
theorem kw_429 : (Cond.methodLink RX4 103 yJ9_max_7cf53) ∈ TW := tw_in 429 (by decide +kernel) (by decide +kernel)
theorem kw_430 : (Cond.static yJ9_max_7cf53) ∈ TW := tw_in 430 (by decide +kernel) (by decide +kernel)
theorem kw_431 : (Cond.code Lib.Math.max.name Lib.Math.max.code 2 (some .int)) ∈ TW := tw_in 431 (by decide +kernel) (by decide +kernel)
theorem kw_432 : (Cond.methodLink RL 190 yX10_routes) ∈ TW := tw_in 432 (by decide +kernel) (by decide +kernel)
theorem kw_433 : (Cond.instanceMethod yX10_routes) ∈ TW := tw_in 433 (by decide +kernel) (by decide +kernel)
theorem kw_434 : (Cond.selects RX10 yX10_routes yX10_routes) ∈ TW := tw_in 434 (by decide +kernel) (by decide +kernel)
theorem kw_435 : (Cond.code yX10_routes cX10_routes 1 (some .int)) ∈ TW := tw_in 435 (by decide +kernel) (by decide +kernel)
theorem kw_436 : (Cond.methodLink RX10 264 yX7_rowsOut) ∈ TW := tw_in 436 (by decide +kernel) (by decide +kernel)
theorem kw_437 : (Cond.instanceMethod yX7_rowsOut) ∈ TW := tw_in 437 (by decide +kernel) (by decide +kernel)
theorem kw_438 : (Cond.selects RX7 yX7_rowsOut yX7_rowsOut) ∈ TW := tw_in 438 (by decide +kernel) (by decide +kernel)
theorem kw_439 : (Cond.code yX7_rowsOut cX7_rowsOut 2 (some .int)) ∈ TW := tw_in 439 (by decide +kernel) (by decide +kernel)
theorem kw_440 : (Cond.methodLink RX7 23 yX7_learn) ∈ TW := tw_in 440 (by decide +kernel) (by decide +kernel)
theorem kw_442 : (Cond.instanceMethod yX7_learn) ∈ TW := tw_in 442 (by decide +kernel) (by decide +kernel)
theorem kw_443 : (Cond.code yX7_learn cX7_learn 7 (none)) ∈ TW := tw_in 443 (by decide +kernel) (by decide +kernel)
theorem kw_444 : (Cond.methodLink RX7 49 yX5_inOrder) ∈ TW := tw_in 444 (by decide +kernel) (by decide +kernel)
theorem kw_445 : (Cond.static yX5_inOrder) ∈ TW := tw_in 445 (by decide +kernel) (by decide +kernel)
theorem kw_446 : (Cond.code yX5_inOrder cX5_inOrder 3 (some .int)) ∈ TW := tw_in 446 (by decide +kernel) (by decide +kernel)
theorem kw_447 : (Cond.methodLink RX7 53 yX7_reach) ∈ TW := tw_in 447 (by decide +kernel) (by decide +kernel)
theorem kw_449 : (Cond.instanceMethod yX7_reach) ∈ TW := tw_in 449 (by decide +kernel) (by decide +kernel)
theorem kw_450 : (Cond.code yX7_reach cX7_reach 5 (none)) ∈ TW := tw_in 450 (by decide +kernel) (by decide +kernel)
theorem kw_451 : (Cond.methodLink RX7 32 yX5_rank) ∈ TW := tw_in 451 (by decide +kernel) (by decide +kernel)
theorem kw_452 : (Cond.static yX5_rank) ∈ TW := tw_in 452 (by decide +kernel) (by decide +kernel)
theorem kw_453 : (Cond.code yX5_rank cX5_rank 6 (some .int)) ∈ TW := tw_in 453 (by decide +kernel) (by decide +kernel)
theorem kw_454 : (Cond.methodLink RX5 15 yX5_valueOn) ∈ TW := tw_in 454 (by decide +kernel) (by decide +kernel)
theorem kw_455 : (Cond.static yX5_valueOn) ∈ TW := tw_in 455 (by decide +kernel) (by decide +kernel)
theorem kw_456 : (Cond.code yX5_valueOn cX5_valueOn 2 (some .int)) ∈ TW := tw_in 456 (by decide +kernel) (by decide +kernel)
theorem kw_457 : (Cond.methodLink RX5 19 yJ6_bitCount_0f7a4) ∈ TW := tw_in 457 (by decide +kernel) (by decide +kernel)
theorem kw_458 : (Cond.fieldLink RX5 9 RX5 "FACTORIALS" "[I") ∈ TW := tw_in 458 (by decide +kernel) (by decide +kernel)
theorem kw_460 : (Cond.methodLink RX7 57 yX5_howMany) ∈ TW := tw_in 460 (by decide +kernel) (by decide +kernel)
theorem kw_461 : (Cond.static yX5_howMany) ∈ TW := tw_in 461 (by decide +kernel) (by decide +kernel)
theorem kw_462 : (Cond.code yX5_howMany cX5_howMany 1 (some .int)) ∈ TW := tw_in 462 (by decide +kernel) (by decide +kernel)
theorem kw_463 : (Cond.methodLink RX7 45 yX5_exchanged) ∈ TW := tw_in 463 (by decide +kernel) (by decide +kernel)
theorem kw_464 : (Cond.static yX5_exchanged) ∈ TW := tw_in 464 (by decide +kernel) (by decide +kernel)
theorem kw_465 : (Cond.code yX5_exchanged cX5_exchanged 4 (some .int)) ∈ TW := tw_in 465 (by decide +kernel) (by decide +kernel)
theorem kw_466 : (Cond.methodLink RL 206 yX10_isStep) ∈ TW := tw_in 466 (by decide +kernel) (by decide +kernel)
theorem kw_467 : (Cond.instanceMethod yX10_isStep) ∈ TW := tw_in 467 (by decide +kernel) (by decide +kernel)
theorem kw_468 : (Cond.selects RX10 yX10_isStep yX10_isStep) ∈ TW := tw_in 468 (by decide +kernel) (by decide +kernel)
theorem kw_469 : (Cond.code yX10_isStep cX10_isStep 1 (some .boolean)) ∈ TW := tw_in 469 (by decide +kernel) (by decide +kernel)
theorem kw_470 : (Cond.methodLink RX10 286 yX1_outIsStep) ∈ TW := tw_in 470 (by decide +kernel) (by decide +kernel)
theorem kw_471 : (Cond.instanceMethod yX1_outIsStep) ∈ TW := tw_in 471 (by decide +kernel) (by decide +kernel)
theorem kw_472 : (Cond.selects RX1 yX1_outIsStep yX1_outIsStep) ∈ TW := tw_in 472 (by decide +kernel) (by decide +kernel)
theorem kw_473 : (Cond.code yX1_outIsStep cX1_outIsStep 3 (some .boolean)) ∈ TW := tw_in 473 (by decide +kernel) (by decide +kernel)
theorem kw_474 : (Cond.methodLink RL 216 yX10_hidden) ∈ TW := tw_in 474 (by decide +kernel) (by decide +kernel)
theorem kw_475 : (Cond.instanceMethod yX10_hidden) ∈ TW := tw_in 475 (by decide +kernel) (by decide +kernel)
theorem kw_476 : (Cond.selects RX10 yX10_hidden yX10_hidden) ∈ TW := tw_in 476 (by decide +kernel) (by decide +kernel)
theorem kw_477 : (Cond.code yX10_hidden cX10_hidden 3 (some .int)) ∈ TW := tw_in 477 (by decide +kernel) (by decide +kernel)
theorem kw_478 : (Cond.methodLink RX10 300 yX3_countHidden) ∈ TW := tw_in 478 (by decide +kernel) (by decide +kernel)
theorem kw_479 : (Cond.instanceMethod yX3_countHidden) ∈ TW := tw_in 479 (by decide +kernel) (by decide +kernel)
theorem kw_480 : (Cond.selects RX3 yX3_countHidden yX3_countHidden) ∈ TW := tw_in 480 (by decide +kernel) (by decide +kernel)
theorem kw_481 : (Cond.code yX3_countHidden cX3_countHidden 8 (some .int)) ∈ TW := tw_in 481 (by decide +kernel) (by decide +kernel)
theorem kw_482 : (Cond.methodLink RX3 22 yX4_telling) ∈ TW := tw_in 482 (by decide +kernel) (by decide +kernel)
theorem kw_483 : (Cond.instanceMethod yX4_telling) ∈ TW := tw_in 483 (by decide +kernel) (by decide +kernel)
theorem kw_484 : (Cond.selects RX4 yX4_telling yX4_telling) ∈ TW := tw_in 484 (by decide +kernel) (by decide +kernel)
theorem kw_485 : (Cond.code yX4_telling cX4_telling 7 (some .long)) ∈ TW := tw_in 485 (by decide +kernel) (by decide +kernel)
theorem kw_486 : (Cond.methodLink RX4 70 yX4_sendWith) ∈ TW := tw_in 486 (by decide +kernel) (by decide +kernel)
theorem kw_487 : (Cond.static yX4_sendWith) ∈ TW := tw_in 487 (by decide +kernel) (by decide +kernel)
theorem kw_488 : (Cond.code yX4_sendWith cX4_sendWith 5 (none)) ∈ TW := tw_in 488 (by decide +kernel) (by decide +kernel)
theorem kw_489 : (Cond.methodLink RX4 59 yX4_compareBadly) ∈ TW := tw_in 489 (by decide +kernel) (by decide +kernel)
theorem kw_490 : (Cond.static yX4_compareBadly) ∈ TW := tw_in 490 (by decide +kernel) (by decide +kernel)
theorem kw_491 : (Cond.code yX4_compareBadly cX4_compareBadly 8 (none)) ∈ TW := tw_in 491 (by decide +kernel) (by decide +kernel)
theorem kw_492 : (Cond.methodLink RL 221 yX10_tests) ∈ TW := tw_in 492 (by decide +kernel) (by decide +kernel)
theorem kw_493 : (Cond.instanceMethod yX10_tests) ∈ TW := tw_in 493 (by decide +kernel) (by decide +kernel)
theorem kw_494 : (Cond.selects RX10 yX10_tests yX10_tests) ∈ TW := tw_in 494 (by decide +kernel) (by decide +kernel)
theorem kw_495 : (Cond.code yX10_tests cX10_tests 1 (some .int)) ∈ TW := tw_in 495 (by decide +kernel) (by decide +kernel)
theorem kw_496 : (Cond.methodLink RX10 304 yX3_fewestRows) ∈ TW := tw_in 496 (by decide +kernel) (by decide +kernel)
theorem kw_497 : (Cond.instanceMethod yX3_fewestRows) ∈ TW := tw_in 497 (by decide +kernel) (by decide +kernel)
theorem kw_498 : (Cond.selects RX3 yX3_fewestRows yX3_fewestRows) ∈ TW := tw_in 498 (by decide +kernel) (by decide +kernel)
theorem kw_499 : (Cond.code yX3_fewestRows cX3_fewestRows 5 (some .int)) ∈ TW := tw_in 499 (by decide +kernel) (by decide +kernel)
theorem kw_500 : (Cond.methodLink RX3 28 yX3_keep) ∈ TW := tw_in 500 (by decide +kernel) (by decide +kernel)
theorem kw_502 : (Cond.instanceMethod yX3_keep) ∈ TW := tw_in 502 (by decide +kernel) (by decide +kernel)
theorem kw_503 : (Cond.code yX3_keep cX3_keep 5 (none)) ∈ TW := tw_in 503 (by decide +kernel) (by decide +kernel)
theorem kw_504 : (Cond.constantLong "Comparatory$Faults" (36 : Nat) (-1 : Int64)) ∈ TW := tw_in 504 (by decide +kernel) (by decide +kernel)
theorem kw_505 : (Cond.methodLink RX3 32 yX3_canTell) ∈ TW := tw_in 505 (by decide +kernel) (by decide +kernel)
theorem kw_506 : (Cond.static yX3_canTell) ∈ TW := tw_in 506 (by decide +kernel) (by decide +kernel)
theorem kw_507 : (Cond.code yX3_canTell cX3_canTell 17 (some .boolean)) ∈ TW := tw_in 507 (by decide +kernel) (by decide +kernel)
theorem kw_508 : (Cond.methodLink RX3 38 yJ13_bitCount_95d88) ∈ TW := tw_in 508 (by decide +kernel) (by decide +kernel)
theorem kw_509 : (Cond.static yJ13_bitCount_95d88) ∈ TW := tw_in 509 (by decide +kernel) (by decide +kernel)
theorem kw_510 : (Cond.code yJ13_bitCount_95d88 cJ13_bitCount_95d88 2 (some .int)) ∈ TW := tw_in 510 (by decide +kernel) (by decide +kernel)
theorem kw_511 : (Cond.constantLong "java/lang/Long" (314 : Nat) (6148914691236517205 : Int64)) ∈ TW := tw_in 511 (by decide +kernel) (by decide +kernel)
theorem kw_512 : (Cond.constantLong "java/lang/Long" (316 : Nat) (3689348814741910323 : Int64)) ∈ TW := tw_in 512 (by decide +kernel) (by decide +kernel)
theorem kw_513 : (Cond.constantLong "java/lang/Long" (318 : Nat) (1085102592571150095 : Int64)) ∈ TW := tw_in 513 (by decide +kernel) (by decide +kernel)
theorem kw_514 : (Cond.methodLink RL 225 yX10_bears) ∈ TW := tw_in 514 (by decide +kernel) (by decide +kernel)
theorem kw_515 : (Cond.instanceMethod yX10_bears) ∈ TW := tw_in 515 (by decide +kernel) (by decide +kernel)
theorem kw_516 : (Cond.selects RX10 yX10_bears yX10_bears) ∈ TW := tw_in 516 (by decide +kernel) (by decide +kernel)
theorem kw_517 : (Cond.code yX10_bears cX10_bears 2 (some .boolean)) ∈ TW := tw_in 517 (by decide +kernel) (by decide +kernel)
theorem kw_518 : (Cond.methodLink RX10 293 yX4_unsortedWith) ∈ TW := tw_in 518 (by decide +kernel) (by decide +kernel)
theorem kw_519 : (Cond.instanceMethod yX4_unsortedWith) ∈ TW := tw_in 519 (by decide +kernel) (by decide +kernel)
theorem kw_520 : (Cond.selects RX4 yX4_unsortedWith yX4_unsortedWith) ∈ TW := tw_in 520 (by decide +kernel) (by decide +kernel)
theorem kw_521 : (Cond.code yX4_unsortedWith cX4_unsortedWith 4 (some .long)) ∈ TW := tw_in 521 (by decide +kernel) (by decide +kernel)
theorem kw_522 : (Cond.methodLink RL 241 yX10_left) ∈ TW := tw_in 522 (by decide +kernel) (by decide +kernel)
theorem kw_523 : (Cond.instanceMethod yX10_left) ∈ TW := tw_in 523 (by decide +kernel) (by decide +kernel)
theorem kw_524 : (Cond.selects RX10 yX10_left yX10_left) ∈ TW := tw_in 524 (by decide +kernel) (by decide +kernel)
theorem kw_525 : (Cond.code yX10_left cX10_left 1 (some .int)) ∈ TW := tw_in 525 (by decide +kernel) (by decide +kernel)
theorem kw_526 : (Cond.methodLink RX10 327 yX0_rowsLeft) ∈ TW := tw_in 526 (by decide +kernel) (by decide +kernel)
theorem kw_527 : (Cond.instanceMethod yX0_rowsLeft) ∈ TW := tw_in 527 (by decide +kernel) (by decide +kernel)
theorem kw_528 : (Cond.selects RX0 yX0_rowsLeft yX0_rowsLeft) ∈ TW := tw_in 528 (by decide +kernel) (by decide +kernel)
theorem kw_529 : (Cond.code yX0_rowsLeft cX0_rowsLeft 2 (some .int)) ∈ TW := tw_in 529 (by decide +kernel) (by decide +kernel)
theorem kw_530 : (Cond.methodLink RX0 26 yX0_countOf) ∈ TW := tw_in 530 (by decide +kernel) (by decide +kernel)
theorem kw_531 : (Cond.static yX0_countOf) ∈ TW := tw_in 531 (by decide +kernel) (by decide +kernel)
theorem kw_532 : (Cond.code yX0_countOf cX0_countOf 4 (some .int)) ∈ TW := tw_in 532 (by decide +kernel) (by decide +kernel)
theorem kw_533 : (Cond.constantLong "Comparatory$Adversary" (38 : Nat) (-1 : Int64)) ∈ TW := tw_in 533 (by decide +kernel) (by decide +kernel)
theorem kw_534 : (Cond.methodLink RX0 40 yX2_countOf) ∈ TW := tw_in 534 (by decide +kernel) (by decide +kernel)
theorem kw_535 : (Cond.methodLink RL 245 yX10_needed) ∈ TW := tw_in 535 (by decide +kernel) (by decide +kernel)
theorem kw_536 : (Cond.instanceMethod yX10_needed) ∈ TW := tw_in 536 (by decide +kernel) (by decide +kernel)
theorem kw_537 : (Cond.selects RX10 yX10_needed yX10_needed) ∈ TW := tw_in 537 (by decide +kernel) (by decide +kernel)
theorem kw_538 : (Cond.code yX10_needed cX10_needed 1 (some .int)) ∈ TW := tw_in 538 (by decide +kernel) (by decide +kernel)
theorem kw_539 : (Cond.methodLink RX10 330 yX0_fewestQuestions) ∈ TW := tw_in 539 (by decide +kernel) (by decide +kernel)
theorem kw_540 : (Cond.instanceMethod yX0_fewestQuestions) ∈ TW := tw_in 540 (by decide +kernel) (by decide +kernel)
theorem kw_541 : (Cond.selects RX0 yX0_fewestQuestions yX0_fewestQuestions) ∈ TW := tw_in 541 (by decide +kernel) (by decide +kernel)
theorem kw_542 : (Cond.code yX0_fewestQuestions cX0_fewestQuestions 4 (some .int)) ∈ TW := tw_in 542 (by decide +kernel) (by decide +kernel)
theorem kw_543 : (Cond.methodLink RX0 30 yX0_rowsLeft) ∈ TW := tw_in 543 (by decide +kernel) (by decide +kernel)
theorem kw_544 : (Cond.methodLink RX0 34 yX0_canSettle) ∈ TW := tw_in 544 (by decide +kernel) (by decide +kernel)
theorem kw_545 : (Cond.static yX0_canSettle) ∈ TW := tw_in 545 (by decide +kernel) (by decide +kernel)
theorem kw_546 : (Cond.code yX0_canSettle cX0_canSettle 14 (some .boolean)) ∈ TW := tw_in 546 (by decide +kernel) (by decide +kernel)
theorem kw_547 : (Cond.methodLink RX0 22 yX0_isLesser) ∈ TW := tw_in 547 (by decide +kernel) (by decide +kernel)
theorem kw_548 : (Cond.static yX0_isLesser) ∈ TW := tw_in 548 (by decide +kernel) (by decide +kernel)
theorem kw_549 : (Cond.code yX0_isLesser cX0_isLesser 2 (some .long)) ∈ TW := tw_in 549 (by decide +kernel) (by decide +kernel)
theorem kw_550 : (Cond.methodLink RL 99 yL_network) ∈ TW := tw_in 550 (by decide +kernel) (by decide +kernel)
theorem kw_551 : (Cond.static yL_network) ∈ TW := tw_in 551 (by decide +kernel) (by decide +kernel)
theorem kw_552 : (Cond.codeWith yL_network cL_network 4 (some .int) [(0, 9, 12, 13)]) ∈ TW := tw_in 552 (by decide +kernel) (by decide +kernel)
theorem kw_553 : (Cond.classLink "ComparatoryLaw" (13 : Nat) "java/lang/IllegalArgumentException") ∈ TW := tw_in 553 (by decide +kernel) (by decide +kernel)
theorem kw_554 : (Cond.methodLink RL 7 yX10_network) ∈ TW := tw_in 554 (by decide +kernel) (by decide +kernel)
theorem kw_555 : (Cond.instanceMethod yX10_network) ∈ TW := tw_in 555 (by decide +kernel) (by decide +kernel)
theorem kw_556 : (Cond.selects RX10 yX10_network yX10_network) ∈ TW := tw_in 556 (by decide +kernel) (by decide +kernel)
theorem kw_557 : (Cond.code yX10_network cX10_network 3 (some .int)) ∈ TW := tw_in 557 (by decide +kernel) (by decide +kernel)
theorem kw_558 : (Cond.classLink "Comparatory" (68 : Nat) "java/lang/IllegalArgumentException") ∈ TW := tw_in 558 (by decide +kernel) (by decide +kernel)
theorem kw_560 : (Cond.castable "java/lang/IllegalArgumentException" "java/lang/IllegalArgumentException") ∈ STW := st_in 560 (by decide +kernel) (by decide +kernel)
theorem kw_625 : (Cond.methodLink RX10 79 yX9_begin) ∈ TW := tw_in 625 (by decide +kernel) (by decide +kernel)
theorem kw_626 : (Cond.instanceMethod yX9_begin) ∈ TW := tw_in 626 (by decide +kernel) (by decide +kernel)
theorem kw_627 : (Cond.selects RX9 yX9_begin yX9_begin) ∈ TW := tw_in 627 (by decide +kernel) (by decide +kernel)
theorem kw_628 : (Cond.code yX9_begin cX9_begin 2 (none)) ∈ TW := tw_in 628 (by decide +kernel) (by decide +kernel)
theorem kw_629 : (Cond.methodLink RX10 83 yX0_forget) ∈ TW := tw_in 629 (by decide +kernel) (by decide +kernel)
theorem kw_630 : (Cond.instanceMethod yX0_forget) ∈ TW := tw_in 630 (by decide +kernel) (by decide +kernel)
theorem kw_631 : (Cond.selects RX0 yX0_forget yX0_forget) ∈ TW := tw_in 631 (by decide +kernel) (by decide +kernel)
theorem kw_632 : (Cond.code yX0_forget cX0_forget 1 (none)) ∈ TW := tw_in 632 (by decide +kernel) (by decide +kernel)
theorem kw_633 : (Cond.methodLink RL 108 yL_add) ∈ TW := tw_in 633 (by decide +kernel) (by decide +kernel)
theorem kw_634 : (Cond.static yL_add) ∈ TW := tw_in 634 (by decide +kernel) (by decide +kernel)
theorem kw_635 : (Cond.codeWith yL_add cL_add 5 (some .int) [(0, 10, 13, 19), (0, 10, 17, 13), (0, 10, 21, 21)]) ∈ TW := tw_in 635 (by decide +kernel) (by decide +kernel)
theorem kw_636 : (Cond.classLink "ComparatoryLaw" (19 : Nat) "java/lang/IndexOutOfBoundsException") ∈ TW := tw_in 636 (by decide +kernel) (by decide +kernel)
theorem kw_637 : (Cond.classLink "ComparatoryLaw" (21 : Nat) "java/lang/IllegalStateException") ∈ TW := tw_in 637 (by decide +kernel) (by decide +kernel)
theorem kw_638 : (Cond.methodLink RL 15 yX10_add) ∈ TW := tw_in 638 (by decide +kernel) (by decide +kernel)
theorem kw_639 : (Cond.instanceMethod yX10_add) ∈ TW := tw_in 639 (by decide +kernel) (by decide +kernel)
theorem kw_640 : (Cond.selects RX10 yX10_add yX10_add) ∈ TW := tw_in 640 (by decide +kernel) (by decide +kernel)
theorem kw_641 : (Cond.code yX10_add cX10_add 3 (some .int)) ∈ TW := tw_in 641 (by decide +kernel) (by decide +kernel)
theorem kw_642 : (Cond.methodLink RX10 89 yX10_checkTwoWires) ∈ TW := tw_in 642 (by decide +kernel) (by decide +kernel)
theorem kw_644 : (Cond.instanceMethod yX10_checkTwoWires) ∈ TW := tw_in 644 (by decide +kernel) (by decide +kernel)
theorem kw_645 : (Cond.code yX10_checkTwoWires cX10_checkTwoWires 3 (none)) ∈ TW := tw_in 645 (by decide +kernel) (by decide +kernel)
theorem kw_646 : (Cond.methodLink RX10 269 yX10_checkWire) ∈ TW := tw_in 646 (by decide +kernel) (by decide +kernel)
theorem kw_648 : (Cond.instanceMethod yX10_checkWire) ∈ TW := tw_in 648 (by decide +kernel) (by decide +kernel)
theorem kw_649 : (Cond.code yX10_checkWire cX10_checkWire 2 (none)) ∈ TW := tw_in 649 (by decide +kernel) (by decide +kernel)
theorem kw_650 : (Cond.classLink "Comparatory" (247 : Nat) "java/lang/IndexOutOfBoundsException") ∈ TW := tw_in 650 (by decide +kernel) (by decide +kernel)
theorem kw_652 : (Cond.castable "java/lang/IndexOutOfBoundsException" "java/lang/IndexOutOfBoundsException") ∈ STW := st_in 652 (by decide +kernel) (by decide +kernel)
theorem kw_667 : (Cond.methodLink RX10 93 yX10_checkRoomFor) ∈ TW := tw_in 667 (by decide +kernel) (by decide +kernel)
theorem kw_669 : (Cond.instanceMethod yX10_checkRoomFor) ∈ TW := tw_in 669 (by decide +kernel) (by decide +kernel)
theorem kw_670 : (Cond.code yX10_checkRoomFor cX10_checkRoomFor 2 (none)) ∈ TW := tw_in 670 (by decide +kernel) (by decide +kernel)
theorem kw_671 : (Cond.classLink "Comparatory" (99 : Nat) "java/lang/IllegalStateException") ∈ TW := tw_in 671 (by decide +kernel) (by decide +kernel)
theorem kw_673 : (Cond.castable "java/lang/IllegalStateException" "java/lang/IllegalStateException") ∈ STW := st_in 673 (by decide +kernel) (by decide +kernel)
theorem kw_687 : (Cond.methodLink RX10 96 yX9_append) ∈ TW := tw_in 687 (by decide +kernel) (by decide +kernel)
theorem kw_688 : (Cond.methodLink RL 112 yL_take) ∈ TW := tw_in 688 (by decide +kernel) (by decide +kernel)
theorem kw_689 : (Cond.static yL_take) ∈ TW := tw_in 689 (by decide +kernel) (by decide +kernel)
theorem kw_690 : (Cond.codeWith yL_take cL_take 3 (some .int) [(0, 8, 11, 21)]) ∈ TW := tw_in 690 (by decide +kernel) (by decide +kernel)
theorem kw_691 : (Cond.methodLink RL 23 yX10_take) ∈ TW := tw_in 691 (by decide +kernel) (by decide +kernel)
theorem kw_692 : (Cond.instanceMethod yX10_take) ∈ TW := tw_in 692 (by decide +kernel) (by decide +kernel)
theorem kw_693 : (Cond.selects RX10 yX10_take yX10_take) ∈ TW := tw_in 693 (by decide +kernel) (by decide +kernel)
theorem kw_694 : (Cond.code yX10_take cX10_take 1 (some .int)) ∈ TW := tw_in 694 (by decide +kernel) (by decide +kernel)
theorem kw_696 : (Cond.methodLink RX10 104 yX9_dropLast) ∈ TW := tw_in 696 (by decide +kernel) (by decide +kernel)
theorem kw_697 : (Cond.instanceMethod yX9_dropLast) ∈ TW := tw_in 697 (by decide +kernel) (by decide +kernel)
theorem kw_698 : (Cond.selects RX9 yX9_dropLast yX9_dropLast) ∈ TW := tw_in 698 (by decide +kernel) (by decide +kernel)
theorem kw_699 : (Cond.code yX9_dropLast cX9_dropLast 1 (none)) ∈ TW := tw_in 699 (by decide +kernel) (by decide +kernel)
theorem kw_700 : (Cond.methodLink RL 116 yL_make) ∈ TW := tw_in 700 (by decide +kernel) (by decide +kernel)
theorem kw_701 : (Cond.static yL_make) ∈ TW := tw_in 701 (by decide +kernel) (by decide +kernel)
theorem kw_702 : (Cond.codeWith yL_make cL_make 4 (some .int) [(0, 9, 12, 13), (0, 9, 15, 21)]) ∈ TW := tw_in 702 (by decide +kernel) (by decide +kernel)
theorem kw_703 : (Cond.methodLink RL 27 yX10_make) ∈ TW := tw_in 703 (by decide +kernel) (by decide +kernel)
theorem kw_704 : (Cond.instanceMethod yX10_make) ∈ TW := tw_in 704 (by decide +kernel) (by decide +kernel)
theorem kw_705 : (Cond.selects RX10 yX10_make yX10_make) ∈ TW := tw_in 705 (by decide +kernel) (by decide +kernel)
theorem kw_706 : (Cond.code yX10_make cX10_make 2 (some .int)) ∈ TW := tw_in 706 (by decide +kernel) (by decide +kernel)
theorem kw_708 : (Cond.methodLink RX10 112 yX9_layBubble) ∈ TW := tw_in 708 (by decide +kernel) (by decide +kernel)
theorem kw_709 : (Cond.instanceMethod yX9_layBubble) ∈ TW := tw_in 709 (by decide +kernel) (by decide +kernel)
theorem kw_710 : (Cond.selects RX9 yX9_layBubble yX9_layBubble) ∈ TW := tw_in 710 (by decide +kernel) (by decide +kernel)
theorem kw_711 : (Cond.code yX9_layBubble cX9_layBubble 3 (none)) ∈ TW := tw_in 711 (by decide +kernel) (by decide +kernel)
theorem kw_712 : (Cond.methodLink RX9 31 yX9_append) ∈ TW := tw_in 712 (by decide +kernel) (by decide +kernel)
theorem kw_713 : (Cond.methodLink RX10 115 yX9_layBrick) ∈ TW := tw_in 713 (by decide +kernel) (by decide +kernel)
theorem kw_714 : (Cond.instanceMethod yX9_layBrick) ∈ TW := tw_in 714 (by decide +kernel) (by decide +kernel)
theorem kw_715 : (Cond.selects RX9 yX9_layBrick yX9_layBrick) ∈ TW := tw_in 715 (by decide +kernel) (by decide +kernel)
theorem kw_716 : (Cond.code yX9_layBrick cX9_layBrick 3 (none)) ∈ TW := tw_in 716 (by decide +kernel) (by decide +kernel)
theorem kw_717 : (Cond.methodLink RX10 118 yX9_layMerge) ∈ TW := tw_in 717 (by decide +kernel) (by decide +kernel)
theorem kw_718 : (Cond.instanceMethod yX9_layMerge) ∈ TW := tw_in 718 (by decide +kernel) (by decide +kernel)
theorem kw_719 : (Cond.selects RX9 yX9_layMerge yX9_layMerge) ∈ TW := tw_in 719 (by decide +kernel) (by decide +kernel)
theorem kw_720 : (Cond.code yX9_layMerge cX9_layMerge 4 (none)) ∈ TW := tw_in 720 (by decide +kernel) (by decide +kernel)
theorem kw_721 : (Cond.methodLink RX9 35 yX9_layAcross) ∈ TW := tw_in 721 (by decide +kernel) (by decide +kernel)
theorem kw_723 : (Cond.instanceMethod yX9_layAcross) ∈ TW := tw_in 723 (by decide +kernel) (by decide +kernel)
theorem kw_724 : (Cond.code yX9_layAcross cX9_layAcross 5 (none)) ∈ TW := tw_in 724 (by decide +kernel) (by decide +kernel)
theorem kw_725 : (Cond.methodLink RX10 121 yX10_appendPlan) ∈ TW := tw_in 725 (by decide +kernel) (by decide +kernel)
theorem kw_727 : (Cond.instanceMethod yX10_appendPlan) ∈ TW := tw_in 727 (by decide +kernel) (by decide +kernel)
theorem kw_728 : (Cond.code yX10_appendPlan cX10_appendPlan 2 (some .int)) ∈ TW := tw_in 728 (by decide +kernel) (by decide +kernel)
theorem kw_729 : (Cond.methodLink RL 131 yL_told) ∈ TW := tw_in 729 (by decide +kernel) (by decide +kernel)
theorem kw_730 : (Cond.static yL_told) ∈ TW := tw_in 730 (by decide +kernel) (by decide +kernel)
theorem kw_731 : (Cond.codeWith yL_told cL_told 4 (some .int) [(0, 9, 12, 13)]) ∈ TW := tw_in 731 (by decide +kernel) (by decide +kernel)
theorem kw_732 : (Cond.methodLink RL 30 yX10_told) ∈ TW := tw_in 732 (by decide +kernel) (by decide +kernel)
theorem kw_733 : (Cond.instanceMethod yX10_told) ∈ TW := tw_in 733 (by decide +kernel) (by decide +kernel)
theorem kw_734 : (Cond.selects RX10 yX10_told yX10_told) ∈ TW := tw_in 734 (by decide +kernel) (by decide +kernel)
theorem kw_735 : (Cond.code yX10_told cX10_told 2 (some .int)) ∈ TW := tw_in 735 (by decide +kernel) (by decide +kernel)
theorem kw_736 : (Cond.methodLink RX10 135 yX9_layerCount) ∈ TW := tw_in 736 (by decide +kernel) (by decide +kernel)
theorem kw_737 : (Cond.instanceMethod yX9_layerCount) ∈ TW := tw_in 737 (by decide +kernel) (by decide +kernel)
theorem kw_738 : (Cond.selects RX9 yX9_layerCount yX9_layerCount) ∈ TW := tw_in 738 (by decide +kernel) (by decide +kernel)
theorem kw_739 : (Cond.code yX9_layerCount cX9_layerCount 4 (some .int)) ∈ TW := tw_in 739 (by decide +kernel) (by decide +kernel)
theorem kw_740 : (Cond.methodLink RX9 59 yJ9_max_7cf53) ∈ TW := tw_in 740 (by decide +kernel) (by decide +kernel)
theorem kw_741 : (Cond.methodLink RX10 138 yX4_deadCount) ∈ TW := tw_in 741 (by decide +kernel) (by decide +kernel)
theorem kw_742 : (Cond.instanceMethod yX4_deadCount) ∈ TW := tw_in 742 (by decide +kernel) (by decide +kernel)
theorem kw_743 : (Cond.selects RX4 yX4_deadCount yX4_deadCount) ∈ TW := tw_in 743 (by decide +kernel) (by decide +kernel)
theorem kw_744 : (Cond.code yX4_deadCount cX4_deadCount 4 (some .int)) ∈ TW := tw_in 744 (by decide +kernel) (by decide +kernel)
theorem kw_745 : (Cond.methodLink RX4 74 yX4_exchanging) ∈ TW := tw_in 745 (by decide +kernel) (by decide +kernel)
theorem kw_746 : (Cond.instanceMethod yX4_exchanging) ∈ TW := tw_in 746 (by decide +kernel) (by decide +kernel)
theorem kw_747 : (Cond.selects RX4 yX4_exchanging yX4_exchanging) ∈ TW := tw_in 747 (by decide +kernel) (by decide +kernel)
theorem kw_748 : (Cond.code yX4_exchanging cX4_exchanging 3 (some .long)) ∈ TW := tw_in 748 (by decide +kernel) (by decide +kernel)
theorem kw_749 : (Cond.methodLink RX10 141 yX9_crookedCount) ∈ TW := tw_in 749 (by decide +kernel) (by decide +kernel)
theorem kw_750 : (Cond.instanceMethod yX9_crookedCount) ∈ TW := tw_in 750 (by decide +kernel) (by decide +kernel)
theorem kw_751 : (Cond.selects RX9 yX9_crookedCount yX9_crookedCount) ∈ TW := tw_in 751 (by decide +kernel) (by decide +kernel)
theorem kw_752 : (Cond.code yX9_crookedCount cX9_crookedCount 3 (some .int)) ∈ TW := tw_in 752 (by decide +kernel) (by decide +kernel)
theorem kw_753 : (Cond.methodLink RX10 144 yX9_textLength) ∈ TW := tw_in 753 (by decide +kernel) (by decide +kernel)
theorem kw_754 : (Cond.instanceMethod yX9_textLength) ∈ TW := tw_in 754 (by decide +kernel) (by decide +kernel)
theorem kw_755 : (Cond.selects RX9 yX9_textLength yX9_textLength) ∈ TW := tw_in 755 (by decide +kernel) (by decide +kernel)
theorem kw_756 : (Cond.code yX9_textLength cX9_textLength 1 (some .int)) ∈ TW := tw_in 756 (by decide +kernel) (by decide +kernel)
theorem kw_758 : (Cond.methodLink RL 134 yL_comparator) ∈ TW := tw_in 758 (by decide +kernel) (by decide +kernel)
theorem kw_759 : (Cond.static yL_comparator) ∈ TW := tw_in 759 (by decide +kernel) (by decide +kernel)
theorem kw_760 : (Cond.codeWith yL_comparator cL_comparator 5 (some .int) [(0, 10, 13, 19), (0, 10, 17, 13)]) ∈ TW := tw_in 760 (by decide +kernel) (by decide +kernel)
theorem kw_761 : (Cond.methodLink RL 33 yX10_comparator) ∈ TW := tw_in 761 (by decide +kernel) (by decide +kernel)
theorem kw_762 : (Cond.instanceMethod yX10_comparator) ∈ TW := tw_in 762 (by decide +kernel) (by decide +kernel)
theorem kw_763 : (Cond.selects RX10 yX10_comparator yX10_comparator) ∈ TW := tw_in 763 (by decide +kernel) (by decide +kernel)
theorem kw_764 : (Cond.code yX10_comparator cX10_comparator 3 (some .int)) ∈ TW := tw_in 764 (by decide +kernel) (by decide +kernel)
theorem kw_765 : (Cond.methodLink RX10 149 yX10_checkComparator) ∈ TW := tw_in 765 (by decide +kernel) (by decide +kernel)
theorem kw_767 : (Cond.instanceMethod yX10_checkComparator) ∈ TW := tw_in 767 (by decide +kernel) (by decide +kernel)
theorem kw_768 : (Cond.code yX10_checkComparator cX10_checkComparator 2 (none)) ∈ TW := tw_in 768 (by decide +kernel) (by decide +kernel)
theorem kw_770 : (Cond.methodLink RX10 159 yX9_layerOf) ∈ TW := tw_in 770 (by decide +kernel) (by decide +kernel)
theorem kw_771 : (Cond.instanceMethod yX9_layerOf) ∈ TW := tw_in 771 (by decide +kernel) (by decide +kernel)
theorem kw_772 : (Cond.selects RX9 yX9_layerOf yX9_layerOf) ∈ TW := tw_in 772 (by decide +kernel) (by decide +kernel)
theorem kw_773 : (Cond.code yX9_layerOf cX9_layerOf 2 (some .int)) ∈ TW := tw_in 773 (by decide +kernel) (by decide +kernel)
theorem kw_774 : (Cond.methodLink RX9 64 yX9_layerCount) ∈ TW := tw_in 774 (by decide +kernel) (by decide +kernel)
theorem kw_775 : (Cond.methodLink RX10 163 yX4_exchanging) ∈ TW := tw_in 775 (by decide +kernel) (by decide +kernel)
theorem kw_776 : (Cond.methodLink RX10 167 yJ13_bitCount_95d88) ∈ TW := tw_in 776 (by decide +kernel) (by decide +kernel)
theorem kw_778 : (Cond.methodLink RL 137 yL_textAt) ∈ TW := tw_in 778 (by decide +kernel) (by decide +kernel)
theorem kw_779 : (Cond.static yL_textAt) ∈ TW := tw_in 779 (by decide +kernel) (by decide +kernel)
theorem kw_780 : (Cond.codeWith yL_textAt cL_textAt 4 (some .int) [(0, 9, 12, 19)]) ∈ TW := tw_in 780 (by decide +kernel) (by decide +kernel)
theorem kw_781 : (Cond.methodLink RL 36 yX10_textAt) ∈ TW := tw_in 781 (by decide +kernel) (by decide +kernel)
theorem kw_782 : (Cond.instanceMethod yX10_textAt) ∈ TW := tw_in 782 (by decide +kernel) (by decide +kernel)
theorem kw_783 : (Cond.selects RX10 yX10_textAt yX10_textAt) ∈ TW := tw_in 783 (by decide +kernel) (by decide +kernel)
theorem kw_784 : (Cond.code yX10_textAt cX10_textAt 2 (some .char)) ∈ TW := tw_in 784 (by decide +kernel) (by decide +kernel)
theorem kw_785 : (Cond.methodLink RX10 175 yX10_checkPlace) ∈ TW := tw_in 785 (by decide +kernel) (by decide +kernel)
theorem kw_786 : (Cond.static yX10_checkPlace) ∈ TW := tw_in 786 (by decide +kernel) (by decide +kernel)
theorem kw_787 : (Cond.code yX10_checkPlace cX10_checkPlace 1 (none)) ∈ TW := tw_in 787 (by decide +kernel) (by decide +kernel)
theorem kw_789 : (Cond.methodLink RX10 178 yX9_signAt) ∈ TW := tw_in 789 (by decide +kernel) (by decide +kernel)
theorem kw_790 : (Cond.instanceMethod yX9_signAt) ∈ TW := tw_in 790 (by decide +kernel) (by decide +kernel)
theorem kw_791 : (Cond.selects RX9 yX9_signAt yX9_signAt) ∈ TW := tw_in 791 (by decide +kernel) (by decide +kernel)
theorem kw_792 : (Cond.code yX9_signAt cX9_signAt 3 (some .char)) ∈ TW := tw_in 792 (by decide +kernel) (by decide +kernel)
theorem kw_793 : (Cond.methodLink RX9 68 yX9_textLength) ∈ TW := tw_in 793 (by decide +kernel) (by decide +kernel)
theorem kw_794 : (Cond.methodLink RX9 71 yX9_inTextAt) ∈ TW := tw_in 794 (by decide +kernel) (by decide +kernel)
theorem kw_796 : (Cond.instanceMethod yX9_inTextAt) ∈ TW := tw_in 796 (by decide +kernel) (by decide +kernel)
theorem kw_797 : (Cond.code yX9_inTextAt cX9_inTextAt 5 (some .int)) ∈ TW := tw_in 797 (by decide +kernel) (by decide +kernel)
theorem kw_798 : (Cond.methodLink RX9 75 yX9_placeKey) ∈ TW := tw_in 798 (by decide +kernel) (by decide +kernel)
theorem kw_800 : (Cond.instanceMethod yX9_placeKey) ∈ TW := tw_in 800 (by decide +kernel) (by decide +kernel)
theorem kw_801 : (Cond.code yX9_placeKey cX9_placeKey 2 (some .int)) ∈ TW := tw_in 801 (by decide +kernel) (by decide +kernel)
theorem kw_802 : (Cond.methodLink RX9 78 yJ9_min_7cf53) ∈ TW := tw_in 802 (by decide +kernel) (by decide +kernel)
theorem kw_803 : (Cond.static yJ9_min_7cf53) ∈ TW := tw_in 803 (by decide +kernel) (by decide +kernel)
theorem kw_804 : (Cond.code Lib.Math.min.name Lib.Math.min.code 2 (some .int)) ∈ TW := tw_in 804 (by decide +kernel) (by decide +kernel)
theorem kw_805 : (Cond.methodLink RL 142 yL_type) ∈ TW := tw_in 805 (by decide +kernel) (by decide +kernel)
theorem kw_806 : (Cond.static yL_type) ∈ TW := tw_in 806 (by decide +kernel) (by decide +kernel)
theorem kw_807 : (Cond.codeWith yL_type cL_type 6 (some .int) [(0, 11, 14, 13), (0, 11, 18, 21)]) ∈ TW := tw_in 807 (by decide +kernel) (by decide +kernel)
theorem kw_808 : (Cond.methodLink RL 40 yX10_type) ∈ TW := tw_in 808 (by decide +kernel) (by decide +kernel)
theorem kw_809 : (Cond.instanceMethod yX10_type) ∈ TW := tw_in 809 (by decide +kernel) (by decide +kernel)
theorem kw_810 : (Cond.selects RX10 yX10_type yX10_type) ∈ TW := tw_in 810 (by decide +kernel) (by decide +kernel)
theorem kw_811 : (Cond.code yX10_type cX10_type 5 (some .int)) ∈ TW := tw_in 811 (by decide +kernel) (by decide +kernel)
theorem kw_813 : (Cond.methodLink RX10 184 yX8_signIn) ∈ TW := tw_in 813 (by decide +kernel) (by decide +kernel)
theorem kw_814 : (Cond.static yX8_signIn) ∈ TW := tw_in 814 (by decide +kernel) (by decide +kernel)
theorem kw_815 : (Cond.code yX8_signIn cX8_signIn 3 (some .char)) ∈ TW := tw_in 815 (by decide +kernel) (by decide +kernel)
theorem kw_816 : (Cond.constantLong "Comparatory$Tape" (19 : Nat) (255 : Int64)) ∈ TW := tw_in 816 (by decide +kernel) (by decide +kernel)
theorem kw_817 : (Cond.methodLink RX10 188 yX8_takes) ∈ TW := tw_in 817 (by decide +kernel) (by decide +kernel)
theorem kw_818 : (Cond.static yX8_takes) ∈ TW := tw_in 818 (by decide +kernel) (by decide +kernel)
theorem kw_819 : (Cond.code yX8_takes cX8_takes 1 (some .boolean)) ∈ TW := tw_in 819 (by decide +kernel) (by decide +kernel)
theorem kw_822 : (Cond.methodLink RX10 199 yX8_put) ∈ TW := tw_in 822 (by decide +kernel) (by decide +kernel)
theorem kw_823 : (Cond.instanceMethod yX8_put) ∈ TW := tw_in 823 (by decide +kernel) (by decide +kernel)
theorem kw_824 : (Cond.selects RX8 yX8_put yX8_put) ∈ TW := tw_in 824 (by decide +kernel) (by decide +kernel)
theorem kw_825 : (Cond.code yX8_put cX8_put 2 (none)) ∈ TW := tw_in 825 (by decide +kernel) (by decide +kernel)
theorem kw_826 : (Cond.methodLink RL 154 yL_build) ∈ TW := tw_in 826 (by decide +kernel) (by decide +kernel)
theorem kw_827 : (Cond.static yL_build) ∈ TW := tw_in 827 (by decide +kernel) (by decide +kernel)
theorem kw_828 : (Cond.codeWith yL_build cL_build 3 (some .int) [(0, 8, 11, 13), (0, 8, 14, 21)]) ∈ TW := tw_in 828 (by decide +kernel) (by decide +kernel)
theorem kw_829 : (Cond.methodLink RL 44 yX10_build) ∈ TW := tw_in 829 (by decide +kernel) (by decide +kernel)
theorem kw_830 : (Cond.instanceMethod yX10_build) ∈ TW := tw_in 830 (by decide +kernel) (by decide +kernel)
theorem kw_831 : (Cond.selects RX10 yX10_build yX10_build) ∈ TW := tw_in 831 (by decide +kernel) (by decide +kernel)
theorem kw_832 : (Cond.code yX10_build cX10_build 2 (some .int)) ∈ TW := tw_in 832 (by decide +kernel) (by decide +kernel)
theorem kw_834 : (Cond.methodLink RX10 211 yX8_layOn) ∈ TW := tw_in 834 (by decide +kernel) (by decide +kernel)
theorem kw_835 : (Cond.instanceMethod yX8_layOn) ∈ TW := tw_in 835 (by decide +kernel) (by decide +kernel)
theorem kw_836 : (Cond.selects RX8 yX8_layOn yX8_layOn) ∈ TW := tw_in 836 (by decide +kernel) (by decide +kernel)
theorem kw_837 : (Cond.code yX8_layOn cX8_layOn 3 (none)) ∈ TW := tw_in 837 (by decide +kernel) (by decide +kernel)
theorem kw_838 : (Cond.methodLink RX8 21 yX9_append) ∈ TW := tw_in 838 (by decide +kernel) (by decide +kernel)
theorem kw_839 : (Cond.methodLink RL 157 yL_run) ∈ TW := tw_in 839 (by decide +kernel) (by decide +kernel)
theorem kw_840 : (Cond.static yL_run) ∈ TW := tw_in 840 (by decide +kernel) (by decide +kernel)
theorem kw_841 : (Cond.codeWith yL_run cL_run 4 (some .int) [(0, 9, 12, 13)]) ∈ TW := tw_in 841 (by decide +kernel) (by decide +kernel)
theorem kw_842 : (Cond.methodLink RL 47 yX10_run) ∈ TW := tw_in 842 (by decide +kernel) (by decide +kernel)
theorem kw_843 : (Cond.instanceMethod yX10_run) ∈ TW := tw_in 843 (by decide +kernel) (by decide +kernel)
theorem kw_844 : (Cond.selects RX10 yX10_run yX10_run) ∈ TW := tw_in 844 (by decide +kernel) (by decide +kernel)
theorem kw_845 : (Cond.code yX10_run cX10_run 3 (some .int)) ∈ TW := tw_in 845 (by decide +kernel) (by decide +kernel)
theorem kw_846 : (Cond.methodLink RX10 215 yX10_rowOf) ∈ TW := tw_in 846 (by decide +kernel) (by decide +kernel)
theorem kw_848 : (Cond.instanceMethod yX10_rowOf) ∈ TW := tw_in 848 (by decide +kernel) (by decide +kernel)
theorem kw_849 : (Cond.code yX10_rowOf cX10_rowOf 3 (some .int)) ∈ TW := tw_in 849 (by decide +kernel) (by decide +kernel)
theorem kw_850 : (Cond.methodLink RX10 349 yX5_ofCode) ∈ TW := tw_in 850 (by decide +kernel) (by decide +kernel)
theorem kw_851 : (Cond.static yX5_ofCode) ∈ TW := tw_in 851 (by decide +kernel) (by decide +kernel)
theorem kw_852 : (Cond.code yX5_ofCode cX5_ofCode 7 (some .int)) ∈ TW := tw_in 852 (by decide +kernel) (by decide +kernel)
theorem kw_854 : (Cond.methodLink RX10 218 yX9_sent) ∈ TW := tw_in 854 (by decide +kernel) (by decide +kernel)
theorem kw_855 : (Cond.instanceMethod yX9_sent) ∈ TW := tw_in 855 (by decide +kernel) (by decide +kernel)
theorem kw_856 : (Cond.selects RX9 yX9_sent yX9_sent) ∈ TW := tw_in 856 (by decide +kernel) (by decide +kernel)
theorem kw_857 : (Cond.code yX9_sent cX9_sent 4 (some .int)) ∈ TW := tw_in 857 (by decide +kernel) (by decide +kernel)
theorem kw_858 : (Cond.methodLink RX9 50 yX5_valueOn) ∈ TW := tw_in 858 (by decide +kernel) (by decide +kernel)
theorem kw_859 : (Cond.methodLink RX9 56 yX5_exchanged) ∈ TW := tw_in 859 (by decide +kernel) (by decide +kernel)
theorem kw_860 : (Cond.methodLink RX10 221 yX5_toCode) ∈ TW := tw_in 860 (by decide +kernel) (by decide +kernel)
theorem kw_861 : (Cond.static yX5_toCode) ∈ TW := tw_in 861 (by decide +kernel) (by decide +kernel)
theorem kw_862 : (Cond.code yX5_toCode cX5_toCode 4 (some .int)) ∈ TW := tw_in 862 (by decide +kernel) (by decide +kernel)
theorem kw_863 : (Cond.methodLink RL 174 yL_wrong) ∈ TW := tw_in 863 (by decide +kernel) (by decide +kernel)
theorem kw_864 : (Cond.static yL_wrong) ∈ TW := tw_in 864 (by decide +kernel) (by decide +kernel)
theorem kw_865 : (Cond.codeWith yL_wrong cL_wrong 4 (some .int) [(0, 9, 12, 19)]) ∈ TW := tw_in 865 (by decide +kernel) (by decide +kernel)
theorem kw_866 : (Cond.methodLink RL 50 yX10_wrong) ∈ TW := tw_in 866 (by decide +kernel) (by decide +kernel)
theorem kw_867 : (Cond.instanceMethod yX10_wrong) ∈ TW := tw_in 867 (by decide +kernel) (by decide +kernel)
theorem kw_868 : (Cond.selects RX10 yX10_wrong yX10_wrong) ∈ TW := tw_in 868 (by decide +kernel) (by decide +kernel)
theorem kw_869 : (Cond.code yX10_wrong cX10_wrong 2 (some .int)) ∈ TW := tw_in 869 (by decide +kernel) (by decide +kernel)
theorem kw_870 : (Cond.methodLink RX10 237 yX4_rowIn) ∈ TW := tw_in 870 (by decide +kernel) (by decide +kernel)
theorem kw_871 : (Cond.static yX4_rowIn) ∈ TW := tw_in 871 (by decide +kernel) (by decide +kernel)
theorem kw_872 : (Cond.code yX4_rowIn cX4_rowIn 5 (some .int)) ∈ TW := tw_in 872 (by decide +kernel) (by decide +kernel)
theorem kw_873 : (Cond.methodLink RL 177 yL_finishes) ∈ TW := tw_in 873 (by decide +kernel) (by decide +kernel)
theorem kw_874 : (Cond.static yL_finishes) ∈ TW := tw_in 874 (by decide +kernel) (by decide +kernel)
theorem kw_875 : (Cond.codeWith yL_finishes cL_finishes 4 (some .int) [(0, 9, 12, 13)]) ∈ TW := tw_in 875 (by decide +kernel) (by decide +kernel)
theorem kw_876 : (Cond.methodLink RL 53 yX10_finishes) ∈ TW := tw_in 876 (by decide +kernel) (by decide +kernel)
theorem kw_877 : (Cond.instanceMethod yX10_finishes) ∈ TW := tw_in 877 (by decide +kernel) (by decide +kernel)
theorem kw_878 : (Cond.selects RX10 yX10_finishes yX10_finishes) ∈ TW := tw_in 878 (by decide +kernel) (by decide +kernel)
theorem kw_879 : (Cond.code yX10_finishes cX10_finishes 2 (some .int)) ∈ TW := tw_in 879 (by decide +kernel) (by decide +kernel)
theorem kw_881 : (Cond.methodLink RX10 243 yX4_missing) ∈ TW := tw_in 881 (by decide +kernel) (by decide +kernel)
theorem kw_882 : (Cond.instanceMethod yX4_missing) ∈ TW := tw_in 882 (by decide +kernel) (by decide +kernel)
theorem kw_883 : (Cond.selects RX4 yX4_missing yX4_missing) ∈ TW := tw_in 883 (by decide +kernel) (by decide +kernel)
theorem kw_884 : (Cond.code yX4_missing cX4_missing 4 (some .int)) ∈ TW := tw_in 884 (by decide +kernel) (by decide +kernel)
theorem kw_885 : (Cond.methodLink RX4 108 yX4_canFinish) ∈ TW := tw_in 885 (by decide +kernel) (by decide +kernel)
theorem kw_886 : (Cond.static yX4_canFinish) ∈ TW := tw_in 886 (by decide +kernel) (by decide +kernel)
theorem kw_887 : (Cond.code yX4_canFinish cX4_canFinish 10 (some .boolean)) ∈ TW := tw_in 887 (by decide +kernel) (by decide +kernel)
theorem kw_888 : (Cond.methodLink RL 180 yL_merges) ∈ TW := tw_in 888 (by decide +kernel) (by decide +kernel)
theorem kw_889 : (Cond.static yL_merges) ∈ TW := tw_in 889 (by decide +kernel) (by decide +kernel)
theorem kw_890 : (Cond.codeWith yL_merges cL_merges 4 (some .int) [(0, 16, 19, 19)]) ∈ TW := tw_in 890 (by decide +kernel) (by decide +kernel)
theorem kw_891 : (Cond.methodLink RL 56 yX10_merges) ∈ TW := tw_in 891 (by decide +kernel) (by decide +kernel)
theorem kw_892 : (Cond.instanceMethod yX10_merges) ∈ TW := tw_in 892 (by decide +kernel) (by decide +kernel)
theorem kw_893 : (Cond.selects RX10 yX10_merges yX10_merges) ∈ TW := tw_in 893 (by decide +kernel) (by decide +kernel)
theorem kw_894 : (Cond.code yX10_merges cX10_merges 2 (some .boolean)) ∈ TW := tw_in 894 (by decide +kernel) (by decide +kernel)
theorem kw_896 : (Cond.methodLink RX10 252 yX4_mergesAt) ∈ TW := tw_in 896 (by decide +kernel) (by decide +kernel)
theorem kw_897 : (Cond.instanceMethod yX4_mergesAt) ∈ TW := tw_in 897 (by decide +kernel) (by decide +kernel)
theorem kw_898 : (Cond.selects RX4 yX4_mergesAt yX4_mergesAt) ∈ TW := tw_in 898 (by decide +kernel) (by decide +kernel)
theorem kw_899 : (Cond.code yX4_mergesAt cX4_mergesAt 8 (some .boolean)) ∈ TW := tw_in 899 (by decide +kernel) (by decide +kernel)
theorem kw_900 : (Cond.methodLink RL 183 yL_chooses) ∈ TW := tw_in 900 (by decide +kernel) (by decide +kernel)
theorem kw_901 : (Cond.static yL_chooses) ∈ TW := tw_in 901 (by decide +kernel) (by decide +kernel)
theorem kw_902 : (Cond.codeWith yL_chooses cL_chooses 4 (some .int) [(0, 16, 19, 13)]) ∈ TW := tw_in 902 (by decide +kernel) (by decide +kernel)
theorem kw_903 : (Cond.methodLink RL 60 yX10_chooses) ∈ TW := tw_in 903 (by decide +kernel) (by decide +kernel)
theorem kw_904 : (Cond.instanceMethod yX10_chooses) ∈ TW := tw_in 904 (by decide +kernel) (by decide +kernel)
theorem kw_905 : (Cond.selects RX10 yX10_chooses yX10_chooses) ∈ TW := tw_in 905 (by decide +kernel) (by decide +kernel)
theorem kw_906 : (Cond.code yX10_chooses cX10_chooses 2 (some .boolean)) ∈ TW := tw_in 906 (by decide +kernel) (by decide +kernel)
theorem kw_908 : (Cond.methodLink RX10 258 yX4_choosesLowest) ∈ TW := tw_in 908 (by decide +kernel) (by decide +kernel)
theorem kw_909 : (Cond.instanceMethod yX4_choosesLowest) ∈ TW := tw_in 909 (by decide +kernel) (by decide +kernel)
theorem kw_910 : (Cond.selects RX4 yX4_choosesLowest yX4_choosesLowest) ∈ TW := tw_in 910 (by decide +kernel) (by decide +kernel)
theorem kw_911 : (Cond.code yX4_choosesLowest cX4_choosesLowest 7 (some .boolean)) ∈ TW := tw_in 911 (by decide +kernel) (by decide +kernel)
theorem kw_912 : (Cond.methodLink RL 194 yL_setting) ∈ TW := tw_in 912 (by decide +kernel) (by decide +kernel)
theorem kw_913 : (Cond.static yL_setting) ∈ TW := tw_in 913 (by decide +kernel) (by decide +kernel)
theorem kw_914 : (Cond.codeWith yL_setting cL_setting 4 (some .int) [(0, 9, 12, 13)]) ∈ TW := tw_in 914 (by decide +kernel) (by decide +kernel)
theorem kw_915 : (Cond.methodLink RL 63 yX10_setting) ∈ TW := tw_in 915 (by decide +kernel) (by decide +kernel)
theorem kw_916 : (Cond.instanceMethod yX10_setting) ∈ TW := tw_in 916 (by decide +kernel) (by decide +kernel)
theorem kw_917 : (Cond.selects RX10 yX10_setting yX10_setting) ∈ TW := tw_in 917 (by decide +kernel) (by decide +kernel)
theorem kw_918 : (Cond.code yX10_setting cX10_setting 3 (some .int)) ∈ TW := tw_in 918 (by decide +kernel) (by decide +kernel)
theorem kw_919 : (Cond.methodLink RX10 266 yX7_lowestFor) ∈ TW := tw_in 919 (by decide +kernel) (by decide +kernel)
theorem kw_920 : (Cond.instanceMethod yX7_lowestFor) ∈ TW := tw_in 920 (by decide +kernel) (by decide +kernel)
theorem kw_921 : (Cond.selects RX7 yX7_lowestFor yX7_lowestFor) ∈ TW := tw_in 921 (by decide +kernel) (by decide +kernel)
theorem kw_922 : (Cond.code yX7_lowestFor cX7_lowestFor 7 (some .int)) ∈ TW := tw_in 922 (by decide +kernel) (by decide +kernel)
theorem kw_923 : (Cond.methodLink RL 197 yL_token) ∈ TW := tw_in 923 (by decide +kernel) (by decide +kernel)
theorem kw_924 : (Cond.static yL_token) ∈ TW := tw_in 924 (by decide +kernel) (by decide +kernel)
theorem kw_925 : (Cond.codeWith yL_token cL_token 4 (some .int) [(0, 9, 12, 19), (0, 9, 15, 21)]) ∈ TW := tw_in 925 (by decide +kernel) (by decide +kernel)
theorem kw_926 : (Cond.methodLink RL 66 yX10_token) ∈ TW := tw_in 926 (by decide +kernel) (by decide +kernel)
theorem kw_927 : (Cond.instanceMethod yX10_token) ∈ TW := tw_in 927 (by decide +kernel) (by decide +kernel)
theorem kw_928 : (Cond.selects RX10 yX10_token yX10_token) ∈ TW := tw_in 928 (by decide +kernel) (by decide +kernel)
theorem kw_929 : (Cond.code yX10_token cX10_token 2 (some .int)) ∈ TW := tw_in 929 (by decide +kernel) (by decide +kernel)
theorem kw_931 : (Cond.methodLink RX10 277 yX1_letIn) ∈ TW := tw_in 931 (by decide +kernel) (by decide +kernel)
theorem kw_932 : (Cond.instanceMethod yX1_letIn) ∈ TW := tw_in 932 (by decide +kernel) (by decide +kernel)
theorem kw_933 : (Cond.selects RX1 yX1_letIn yX1_letIn) ∈ TW := tw_in 933 (by decide +kernel) (by decide +kernel)
theorem kw_934 : (Cond.code yX1_letIn cX1_letIn 5 (some .int)) ∈ TW := tw_in 934 (by decide +kernel) (by decide +kernel)
theorem kw_935 : (Cond.methodLink RL 200 yL_came) ∈ TW := tw_in 935 (by decide +kernel) (by decide +kernel)
theorem kw_936 : (Cond.static yL_came) ∈ TW := tw_in 936 (by decide +kernel) (by decide +kernel)
theorem kw_937 : (Cond.codeWith yL_came cL_came 4 (some .int) [(0, 9, 12, 19)]) ∈ TW := tw_in 937 (by decide +kernel) (by decide +kernel)
theorem kw_938 : (Cond.methodLink RL 69 yX10_came) ∈ TW := tw_in 938 (by decide +kernel) (by decide +kernel)
theorem kw_939 : (Cond.instanceMethod yX10_came) ∈ TW := tw_in 939 (by decide +kernel) (by decide +kernel)
theorem kw_940 : (Cond.selects RX10 yX10_came yX10_came) ∈ TW := tw_in 940 (by decide +kernel) (by decide +kernel)
theorem kw_941 : (Cond.code yX10_came cX10_came 2 (some .int)) ∈ TW := tw_in 941 (by decide +kernel) (by decide +kernel)
theorem kw_942 : (Cond.methodLink RL 203 yL_cameAnew) ∈ TW := tw_in 942 (by decide +kernel) (by decide +kernel)
theorem kw_943 : (Cond.static yL_cameAnew) ∈ TW := tw_in 943 (by decide +kernel) (by decide +kernel)
theorem kw_944 : (Cond.codeWith yL_cameAnew cL_cameAnew 4 (some .int) [(0, 9, 12, 19)]) ∈ TW := tw_in 944 (by decide +kernel) (by decide +kernel)
theorem kw_945 : (Cond.methodLink RL 72 yX10_cameAnew) ∈ TW := tw_in 945 (by decide +kernel) (by decide +kernel)
theorem kw_946 : (Cond.instanceMethod yX10_cameAnew) ∈ TW := tw_in 946 (by decide +kernel) (by decide +kernel)
theorem kw_947 : (Cond.selects RX10 yX10_cameAnew yX10_cameAnew) ∈ TW := tw_in 947 (by decide +kernel) (by decide +kernel)
theorem kw_948 : (Cond.code yX10_cameAnew cX10_cameAnew 2 (some .int)) ∈ TW := tw_in 948 (by decide +kernel) (by decide +kernel)
theorem kw_949 : (Cond.methodLink RX10 283 yX1_reckoned) ∈ TW := tw_in 949 (by decide +kernel) (by decide +kernel)
theorem kw_950 : (Cond.instanceMethod yX1_reckoned) ∈ TW := tw_in 950 (by decide +kernel) (by decide +kernel)
theorem kw_951 : (Cond.selects RX1 yX1_reckoned yX1_reckoned) ∈ TW := tw_in 951 (by decide +kernel) (by decide +kernel)
theorem kw_952 : (Cond.code yX1_reckoned cX1_reckoned 5 (some .int)) ∈ TW := tw_in 952 (by decide +kernel) (by decide +kernel)
theorem kw_953 : (Cond.methodLink RL 210 yL_bad) ∈ TW := tw_in 953 (by decide +kernel) (by decide +kernel)
theorem kw_954 : (Cond.static yL_bad) ∈ TW := tw_in 954 (by decide +kernel) (by decide +kernel)
theorem kw_955 : (Cond.codeWith yL_bad cL_bad 5 (some .int) [(0, 10, 13, 19), (0, 10, 17, 13)]) ∈ TW := tw_in 955 (by decide +kernel) (by decide +kernel)
theorem kw_956 : (Cond.methodLink RL 75 yX10_bad) ∈ TW := tw_in 956 (by decide +kernel) (by decide +kernel)
theorem kw_957 : (Cond.instanceMethod yX10_bad) ∈ TW := tw_in 957 (by decide +kernel) (by decide +kernel)
theorem kw_958 : (Cond.selects RX10 yX10_bad yX10_bad) ∈ TW := tw_in 958 (by decide +kernel) (by decide +kernel)
theorem kw_959 : (Cond.code yX10_bad cX10_bad 3 (some .int)) ∈ TW := tw_in 959 (by decide +kernel) (by decide +kernel)
theorem kw_960 : (Cond.methodLink RX10 290 yX10_checkFault) ∈ TW := tw_in 960 (by decide +kernel) (by decide +kernel)
theorem kw_961 : (Cond.static yX10_checkFault) ∈ TW := tw_in 961 (by decide +kernel) (by decide +kernel)
theorem kw_962 : (Cond.code yX10_checkFault cX10_checkFault 1 (none)) ∈ TW := tw_in 962 (by decide +kernel) (by decide +kernel)
theorem kw_964 : (Cond.methodLink RL 213 yL_tells) ∈ TW := tw_in 964 (by decide +kernel) (by decide +kernel)
theorem kw_965 : (Cond.static yL_tells) ∈ TW := tw_in 965 (by decide +kernel) (by decide +kernel)
theorem kw_966 : (Cond.codeWith yL_tells cL_tells 5 (some .int) [(0, 9, 12, 19), (0, 9, 16, 13)]) ∈ TW := tw_in 966 (by decide +kernel) (by decide +kernel)
theorem kw_967 : (Cond.methodLink RL 78 yX10_tells) ∈ TW := tw_in 967 (by decide +kernel) (by decide +kernel)
theorem kw_968 : (Cond.instanceMethod yX10_tells) ∈ TW := tw_in 968 (by decide +kernel) (by decide +kernel)
theorem kw_969 : (Cond.selects RX10 yX10_tells yX10_tells) ∈ TW := tw_in 969 (by decide +kernel) (by decide +kernel)
theorem kw_970 : (Cond.code yX10_tells cX10_tells 3 (some .long)) ∈ TW := tw_in 970 (by decide +kernel) (by decide +kernel)
theorem kw_971 : (Cond.methodLink RX10 297 yX4_telling) ∈ TW := tw_in 971 (by decide +kernel) (by decide +kernel)
theorem kw_972 : (Cond.methodLink RL 229 yL_far) ∈ TW := tw_in 972 (by decide +kernel) (by decide +kernel)
theorem kw_973 : (Cond.static yL_far) ∈ TW := tw_in 973 (by decide +kernel) (by decide +kernel)
theorem kw_974 : (Cond.codeWith yL_far cL_far 5 (some .int) [(0, 10, 13, 13)]) ∈ TW := tw_in 974 (by decide +kernel) (by decide +kernel)
theorem kw_975 : (Cond.methodLink RL 82 yX10_far) ∈ TW := tw_in 975 (by decide +kernel) (by decide +kernel)
theorem kw_976 : (Cond.instanceMethod yX10_far) ∈ TW := tw_in 976 (by decide +kernel) (by decide +kernel)
theorem kw_977 : (Cond.selects RX10 yX10_far yX10_far) ∈ TW := tw_in 977 (by decide +kernel) (by decide +kernel)
theorem kw_978 : (Cond.code yX10_far cX10_far 4 (some .int)) ∈ TW := tw_in 978 (by decide +kernel) (by decide +kernel)
theorem kw_979 : (Cond.methodLink RX10 308 yX10_checkSteps) ∈ TW := tw_in 979 (by decide +kernel) (by decide +kernel)
theorem kw_980 : (Cond.static yX10_checkSteps) ∈ TW := tw_in 980 (by decide +kernel) (by decide +kernel)
theorem kw_981 : (Cond.code yX10_checkSteps cX10_checkSteps 1 (none)) ∈ TW := tw_in 981 (by decide +kernel) (by decide +kernel)
theorem kw_983 : (Cond.methodLink RX10 311 yX6_farOf) ∈ TW := tw_in 983 (by decide +kernel) (by decide +kernel)
theorem kw_984 : (Cond.instanceMethod yX6_farOf) ∈ TW := tw_in 984 (by decide +kernel) (by decide +kernel)
theorem kw_985 : (Cond.selects RX6 yX6_farOf yX6_farOf) ∈ TW := tw_in 985 (by decide +kernel) (by decide +kernel)
theorem kw_986 : (Cond.code yX6_farOf cX6_farOf 4 (some .int)) ∈ TW := tw_in 986 (by decide +kernel) (by decide +kernel)
theorem kw_987 : (Cond.methodLink RX6 26 yX6_learn) ∈ TW := tw_in 987 (by decide +kernel) (by decide +kernel)
theorem kw_989 : (Cond.instanceMethod yX6_learn) ∈ TW := tw_in 989 (by decide +kernel) (by decide +kernel)
theorem kw_990 : (Cond.code yX6_learn cX6_learn 10 (none)) ∈ TW := tw_in 990 (by decide +kernel) (by decide +kernel)
theorem kw_991 : (Cond.methodLink RX6 56 yX5_inOrder) ∈ TW := tw_in 991 (by decide +kernel) (by decide +kernel)
theorem kw_992 : (Cond.methodLink RX6 30 yX6_placeOf) ∈ TW := tw_in 992 (by decide +kernel) (by decide +kernel)
theorem kw_993 : (Cond.static yX6_placeOf) ∈ TW := tw_in 993 (by decide +kernel) (by decide +kernel)
theorem kw_994 : (Cond.code yX6_placeOf cX6_placeOf 3 (some .int)) ∈ TW := tw_in 994 (by decide +kernel) (by decide +kernel)
theorem kw_995 : (Cond.fieldLink RX6 46 RX6 "BEGINNINGS" "[I") ∈ TW := tw_in 995 (by decide +kernel) (by decide +kernel)
theorem kw_997 : (Cond.methodLink RX6 53 yX5_rank) ∈ TW := tw_in 997 (by decide +kernel) (by decide +kernel)
theorem kw_998 : (Cond.methodLink RX6 34 yX6_listSteps) ∈ TW := tw_in 998 (by decide +kernel) (by decide +kernel)
theorem kw_1000 : (Cond.instanceMethod yX6_listSteps) ∈ TW := tw_in 1000 (by decide +kernel) (by decide +kernel)
theorem kw_1001 : (Cond.code yX6_listSteps cX6_listSteps 3 (none)) ∈ TW := tw_in 1001 (by decide +kernel) (by decide +kernel)
theorem kw_1002 : (Cond.methodLink RX6 59 yX6_listChanges) ∈ TW := tw_in 1002 (by decide +kernel) (by decide +kernel)
theorem kw_1004 : (Cond.instanceMethod yX6_listChanges) ∈ TW := tw_in 1004 (by decide +kernel) (by decide +kernel)
theorem kw_1005 : (Cond.code yX6_listChanges cX6_listChanges 6 (none)) ∈ TW := tw_in 1005 (by decide +kernel) (by decide +kernel)
theorem kw_1006 : (Cond.methodLink RX6 69 yX5_exchanged) ∈ TW := tw_in 1006 (by decide +kernel) (by decide +kernel)
theorem kw_1007 : (Cond.methodLink RX6 72 yX6_append) ∈ TW := tw_in 1007 (by decide +kernel) (by decide +kernel)
theorem kw_1009 : (Cond.instanceMethod yX6_append) ∈ TW := tw_in 1009 (by decide +kernel) (by decide +kernel)
theorem kw_1010 : (Cond.code yX6_append cX6_append 2 (none)) ∈ TW := tw_in 1010 (by decide +kernel) (by decide +kernel)
theorem kw_1011 : (Cond.methodLink RX6 62 yX6_listFlips) ∈ TW := tw_in 1011 (by decide +kernel) (by decide +kernel)
theorem kw_1013 : (Cond.instanceMethod yX6_listFlips) ∈ TW := tw_in 1013 (by decide +kernel) (by decide +kernel)
theorem kw_1014 : (Cond.code yX6_listFlips cX6_listFlips 6 (none)) ∈ TW := tw_in 1014 (by decide +kernel) (by decide +kernel)
theorem kw_1015 : (Cond.methodLink RX6 66 yX6_listBlocks) ∈ TW := tw_in 1015 (by decide +kernel) (by decide +kernel)
theorem kw_1017 : (Cond.instanceMethod yX6_listBlocks) ∈ TW := tw_in 1017 (by decide +kernel) (by decide +kernel)
theorem kw_1018 : (Cond.code yX6_listBlocks cX6_listBlocks 5 (none)) ∈ TW := tw_in 1018 (by decide +kernel) (by decide +kernel)
theorem kw_1019 : (Cond.methodLink RX6 75 yX6_blocksChanged) ∈ TW := tw_in 1019 (by decide +kernel) (by decide +kernel)
theorem kw_1020 : (Cond.static yX6_blocksChanged) ∈ TW := tw_in 1020 (by decide +kernel) (by decide +kernel)
theorem kw_1021 : (Cond.code yX6_blocksChanged cX6_blocksChanged 7 (some .int)) ∈ TW := tw_in 1021 (by decide +kernel) (by decide +kernel)
theorem kw_1022 : (Cond.methodLink RX6 49 yX5_howMany) ∈ TW := tw_in 1022 (by decide +kernel) (by decide +kernel)
theorem kw_1023 : (Cond.methodLink RX6 37 yX5_rearranged) ∈ TW := tw_in 1023 (by decide +kernel) (by decide +kernel)
theorem kw_1024 : (Cond.static yX5_rearranged) ∈ TW := tw_in 1024 (by decide +kernel) (by decide +kernel)
theorem kw_1025 : (Cond.code yX5_rearranged cX5_rearranged 5 (some .int)) ∈ TW := tw_in 1025 (by decide +kernel) (by decide +kernel)
theorem kw_1026 : (Cond.methodLink RL 232 yL_step) ∈ TW := tw_in 1026 (by decide +kernel) (by decide +kernel)
theorem kw_1027 : (Cond.static yL_step) ∈ TW := tw_in 1027 (by decide +kernel) (by decide +kernel)
theorem kw_1028 : (Cond.codeWith yL_step cL_step 5 (some .int) [(0, 10, 13, 13)]) ∈ TW := tw_in 1028 (by decide +kernel) (by decide +kernel)
theorem kw_1029 : (Cond.methodLink RL 85 yX10_step) ∈ TW := tw_in 1029 (by decide +kernel) (by decide +kernel)
theorem kw_1030 : (Cond.instanceMethod yX10_step) ∈ TW := tw_in 1030 (by decide +kernel) (by decide +kernel)
theorem kw_1031 : (Cond.selects RX10 yX10_step yX10_step) ∈ TW := tw_in 1031 (by decide +kernel) (by decide +kernel)
theorem kw_1032 : (Cond.code yX10_step cX10_step 4 (some .int)) ∈ TW := tw_in 1032 (by decide +kernel) (by decide +kernel)
theorem kw_1033 : (Cond.methodLink RX10 315 yX6_codeNearer) ∈ TW := tw_in 1033 (by decide +kernel) (by decide +kernel)
theorem kw_1034 : (Cond.instanceMethod yX6_codeNearer) ∈ TW := tw_in 1034 (by decide +kernel) (by decide +kernel)
theorem kw_1035 : (Cond.selects RX6 yX6_codeNearer yX6_codeNearer) ∈ TW := tw_in 1035 (by decide +kernel) (by decide +kernel)
theorem kw_1036 : (Cond.code yX6_codeNearer cX6_codeNearer 10 (some .int)) ∈ TW := tw_in 1036 (by decide +kernel) (by decide +kernel)
theorem kw_1037 : (Cond.methodLink RX6 42 yX5_toCode) ∈ TW := tw_in 1037 (by decide +kernel) (by decide +kernel)
theorem kw_1038 : (Cond.methodLink RL 235 yL_manyFar) ∈ TW := tw_in 1038 (by decide +kernel) (by decide +kernel)
theorem kw_1039 : (Cond.static yL_manyFar) ∈ TW := tw_in 1039 (by decide +kernel) (by decide +kernel)
theorem kw_1040 : (Cond.codeWith yL_manyFar cL_manyFar 5 (some .int) [(0, 10, 13, 13)]) ∈ TW := tw_in 1040 (by decide +kernel) (by decide +kernel)
theorem kw_1041 : (Cond.methodLink RL 88 yX10_manyFar) ∈ TW := tw_in 1041 (by decide +kernel) (by decide +kernel)
theorem kw_1042 : (Cond.instanceMethod yX10_manyFar) ∈ TW := tw_in 1042 (by decide +kernel) (by decide +kernel)
theorem kw_1043 : (Cond.selects RX10 yX10_manyFar yX10_manyFar) ∈ TW := tw_in 1043 (by decide +kernel) (by decide +kernel)
theorem kw_1044 : (Cond.code yX10_manyFar cX10_manyFar 3 (some .int)) ∈ TW := tw_in 1044 (by decide +kernel) (by decide +kernel)
theorem kw_1046 : (Cond.methodLink RX10 320 yX6_countFar) ∈ TW := tw_in 1046 (by decide +kernel) (by decide +kernel)
theorem kw_1047 : (Cond.instanceMethod yX6_countFar) ∈ TW := tw_in 1047 (by decide +kernel) (by decide +kernel)
theorem kw_1048 : (Cond.selects RX6 yX6_countFar yX6_countFar) ∈ TW := tw_in 1048 (by decide +kernel) (by decide +kernel)
theorem kw_1049 : (Cond.code yX6_countFar cX6_countFar 7 (some .int)) ∈ TW := tw_in 1049 (by decide +kernel) (by decide +kernel)
theorem kw_1050 : (Cond.methodLink RL 238 yL_ask) ∈ TW := tw_in 1050 (by decide +kernel) (by decide +kernel)
theorem kw_1051 : (Cond.static yL_ask) ∈ TW := tw_in 1051 (by decide +kernel) (by decide +kernel)
theorem kw_1052 : (Cond.codeWith yL_ask cL_ask 5 (some .int) [(0, 17, 20, 19), (0, 17, 24, 13)]) ∈ TW := tw_in 1052 (by decide +kernel) (by decide +kernel)
theorem kw_1053 : (Cond.methodLink RL 91 yX10_ask) ∈ TW := tw_in 1053 (by decide +kernel) (by decide +kernel)
theorem kw_1054 : (Cond.instanceMethod yX10_ask) ∈ TW := tw_in 1054 (by decide +kernel) (by decide +kernel)
theorem kw_1055 : (Cond.selects RX10 yX10_ask yX10_ask) ∈ TW := tw_in 1055 (by decide +kernel) (by decide +kernel)
theorem kw_1056 : (Cond.code yX10_ask cX10_ask 3 (some .boolean)) ∈ TW := tw_in 1056 (by decide +kernel) (by decide +kernel)
theorem kw_1057 : (Cond.methodLink RX10 323 yX0_answer) ∈ TW := tw_in 1057 (by decide +kernel) (by decide +kernel)
theorem kw_1058 : (Cond.instanceMethod yX0_answer) ∈ TW := tw_in 1058 (by decide +kernel) (by decide +kernel)
theorem kw_1059 : (Cond.selects RX0 yX0_answer yX0_answer) ∈ TW := tw_in 1059 (by decide +kernel) (by decide +kernel)
theorem kw_1060 : (Cond.code yX0_answer cX0_answer 11 (some .boolean)) ∈ TW := tw_in 1060 (by decide +kernel) (by decide +kernel)
theorem kw_1061 : (Cond.classLink "ComparatoryLaw" (96 : Nat) "ComparatoryModel") ∈ TW := tw_in 1061 (by decide +kernel) (by decide +kernel)
theorem kw_1062 : (Cond.instantiable "ComparatoryModel" (26 : Nat)) ∈ TW := tw_in 1062 (by decide +kernel) (by decide +kernel)
theorem kw_1063 : (Cond.methodLink RL 98 yX11_init) ∈ TW := tw_in 1063 (by decide +kernel) (by decide +kernel)
theorem kw_1064 : (Cond.instanceMethod yX11_init) ∈ TW := tw_in 1064 (by decide +kernel) (by decide +kernel)
theorem kw_1065 : (Cond.code yX11_init cX11_init 1 (none)) ∈ TW := tw_in 1065 (by decide +kernel) (by decide +kernel)
theorem kw_1066 : (Cond.methodLink "ComparatoryModel" (1 : Nat) ({ cls := "java/lang/Object", name := "<init>", desc := "()V" } : MethodName)) ∈ TW := tw_in 1066 (by decide +kernel) (by decide +kernel)
theorem kw_1067 : (Cond.methodLink RX11 66 yX11_begins) ∈ TW := tw_in 1067 (by decide +kernel) (by decide +kernel)
theorem kw_1069 : (Cond.instanceMethod yX11_begins) ∈ TW := tw_in 1069 (by decide +kernel) (by decide +kernel)
theorem kw_1070 : (Cond.code yX11_begins cX11_begins 8 (none)) ∈ TW := tw_in 1070 (by decide +kernel) (by decide +kernel)
theorem kw_1071 : (Cond.methodLink RX11 84 yX11_factorial) ∈ TW := tw_in 1071 (by decide +kernel) (by decide +kernel)
theorem kw_1072 : (Cond.static yX11_factorial) ∈ TW := tw_in 1072 (by decide +kernel) (by decide +kernel)
theorem kw_1073 : (Cond.code yX11_factorial cX11_factorial 3 (some .int)) ∈ TW := tw_in 1073 (by decide +kernel) (by decide +kernel)
theorem kw_1074 : (Cond.methodLink RX11 91 yX11_forgets) ∈ TW := tw_in 1074 (by decide +kernel) (by decide +kernel)
theorem kw_1076 : (Cond.instanceMethod yX11_forgets) ∈ TW := tw_in 1076 (by decide +kernel) (by decide +kernel)
theorem kw_1077 : (Cond.code yX11_forgets cX11_forgets 2 (none)) ∈ TW := tw_in 1077 (by decide +kernel) (by decide +kernel)
theorem kw_1078 : (Cond.fieldLink RX11 70 RX11 "thrown" "I") ∈ TW := tw_in 1078 (by decide +kernel) (by decide +kernel)
theorem kw_1079 : (Cond.fieldLink RX11 74 RX11 "wires" "I") ∈ TW := tw_in 1079 (by decide +kernel) (by decide +kernel)
theorem kw_1080 : (Cond.fieldLink RX11 81 RX11 "many" "I") ∈ TW := tw_in 1080 (by decide +kernel) (by decide +kernel)
theorem kw_1081 : (Cond.fieldLink RX11 7 RX11 "first" "[I") ∈ TW := tw_in 1081 (by decide +kernel) (by decide +kernel)
theorem kw_1082 : (Cond.fieldLink RX11 13 RX11 "other" "[I") ∈ TW := tw_in 1082 (by decide +kernel) (by decide +kernel)
theorem kw_1083 : (Cond.fieldLink RX11 16 RX11 "layer" "[I") ∈ TW := tw_in 1083 (by decide +kernel) (by decide +kernel)
theorem kw_1084 : (Cond.fieldLink RX11 19 RX11 "table" "[I") ∈ TW := tw_in 1084 (by decide +kernel) (by decide +kernel)
theorem kw_1085 : (Cond.fieldLink RX11 88 RX11 "rows" "I") ∈ TW := tw_in 1085 (by decide +kernel) (by decide +kernel)
theorem kw_1086 : (Cond.fieldLink RX11 22 RX11 "row" "[I") ∈ TW := tw_in 1086 (by decide +kernel) (by decide +kernel)
theorem kw_1087 : (Cond.fieldLink RX11 25 RX11 "pool" "[I") ∈ TW := tw_in 1087 (by decide +kernel) (by decide +kernel)
theorem kw_1088 : (Cond.fieldLink RX11 28 RX11 "written" "[I") ∈ TW := tw_in 1088 (by decide +kernel) (by decide +kernel)
theorem kw_1089 : (Cond.fieldLink RX11 149 RX11 "taped" "I") ∈ TW := tw_in 1089 (by decide +kernel) (by decide +kernel)
theorem kw_1090 : (Cond.fieldLink RX11 31 RX11 "tape" "[I") ∈ TW := tw_in 1090 (by decide +kernel) (by decide +kernel)
theorem kw_1091 : (Cond.fieldLink RX11 34 RX11 "turns" "[Z") ∈ TW := tw_in 1091 (by decide +kernel) (by decide +kernel)
theorem kw_1092 : (Cond.fieldLink RX11 102 RX11 "tokens" "I") ∈ TW := tw_in 1092 (by decide +kernel) (by decide +kernel)
theorem kw_1093 : (Cond.fieldLink RX11 38 RX11 "cameOn" "[I") ∈ TW := tw_in 1093 (by decide +kernel) (by decide +kernel)
theorem kw_1094 : (Cond.fieldLink RX11 41 RX11 "isReached" "[Z") ∈ TW := tw_in 1094 (by decide +kernel) (by decide +kernel)
theorem kw_1095 : (Cond.fieldLink RX11 44 RX11 "far" "[I") ∈ TW := tw_in 1095 (by decide +kernel) (by decide +kernel)
theorem kw_1096 : (Cond.fieldLink RX11 47 RX11 "queue" "[I") ∈ TW := tw_in 1096 (by decide +kernel) (by decide +kernel)
theorem kw_1097 : (Cond.fieldLink RX11 203 RX11 "queued" "I") ∈ TW := tw_in 1097 (by decide +kernel) (by decide +kernel)
theorem kw_1098 : (Cond.fieldLink RX11 50 RX11 "isLeft" "[Z") ∈ TW := tw_in 1098 (by decide +kernel) (by decide +kernel)
theorem kw_1099 : (Cond.fieldLink RX11 53 RX11 "toldLow" "[J") ∈ TW := tw_in 1099 (by decide +kernel) (by decide +kernel)
theorem kw_1100 : (Cond.fieldLink RX11 57 RX11 "toldHigh" "[J") ∈ TW := tw_in 1100 (by decide +kernel) (by decide +kernel)
theorem kw_1101 : (Cond.fieldLink RX11 219 RX11 "states" "I") ∈ TW := tw_in 1101 (by decide +kernel) (by decide +kernel)
theorem kw_1102 : (Cond.fieldLink RX11 60 RX11 "state" "[I") ∈ TW := tw_in 1102 (by decide +kernel) (by decide +kernel)
theorem kw_1103 : (Cond.fieldLink RX11 63 RX11 "needs" "[I") ∈ TW := tw_in 1103 (by decide +kernel) (by decide +kernel)
theorem kw_1157 : (Cond.methodLink RL 105 yX11_thrown) ∈ TW := tw_in 1157 (by decide +kernel) (by decide +kernel)
theorem kw_1158 : (Cond.instanceMethod yX11_thrown) ∈ TW := tw_in 1158 (by decide +kernel) (by decide +kernel)
theorem kw_1159 : (Cond.selects RX11 yX11_thrown yX11_thrown) ∈ TW := tw_in 1159 (by decide +kernel) (by decide +kernel)
theorem kw_1160 : (Cond.code yX11_thrown cX11_thrown 1 (some .int)) ∈ TW := tw_in 1160 (by decide +kernel) (by decide +kernel)
theorem kw_1161 : (Cond.methodLink RL 104 yX11_network) ∈ TW := tw_in 1161 (by decide +kernel) (by decide +kernel)
theorem kw_1162 : (Cond.instanceMethod yX11_network) ∈ TW := tw_in 1162 (by decide +kernel) (by decide +kernel)
theorem kw_1163 : (Cond.selects RX11 yX11_network yX11_network) ∈ TW := tw_in 1163 (by decide +kernel) (by decide +kernel)
theorem kw_1164 : (Cond.code yX11_network cX11_network 3 (some .int)) ∈ TW := tw_in 1164 (by decide +kernel) (by decide +kernel)
theorem kw_1165 : (Cond.methodLink RX11 77 yX11_in) ∈ TW := tw_in 1165 (by decide +kernel) (by decide +kernel)
theorem kw_1166 : (Cond.static yX11_in) ∈ TW := tw_in 1166 (by decide +kernel) (by decide +kernel)
theorem kw_1167 : (Cond.code yX11_in cX11_in 3 (some .boolean)) ∈ TW := tw_in 1167 (by decide +kernel) (by decide +kernel)
theorem kw_1168 : (Cond.methodLink RL 111 yX11_add) ∈ TW := tw_in 1168 (by decide +kernel) (by decide +kernel)
theorem kw_1169 : (Cond.instanceMethod yX11_add) ∈ TW := tw_in 1169 (by decide +kernel) (by decide +kernel)
theorem kw_1170 : (Cond.selects RX11 yX11_add yX11_add) ∈ TW := tw_in 1170 (by decide +kernel) (by decide +kernel)
theorem kw_1171 : (Cond.code yX11_add cX11_add 3 (some .int)) ∈ TW := tw_in 1171 (by decide +kernel) (by decide +kernel)
theorem kw_1172 : (Cond.methodLink RX11 105 yX11_isWire) ∈ TW := tw_in 1172 (by decide +kernel) (by decide +kernel)
theorem kw_1174 : (Cond.instanceMethod yX11_isWire) ∈ TW := tw_in 1174 (by decide +kernel) (by decide +kernel)
theorem kw_1175 : (Cond.code yX11_isWire cX11_isWire 2 (some .boolean)) ∈ TW := tw_in 1175 (by decide +kernel) (by decide +kernel)
theorem kw_1176 : (Cond.methodLink RX11 109 yX11_puts) ∈ TW := tw_in 1176 (by decide +kernel) (by decide +kernel)
theorem kw_1178 : (Cond.instanceMethod yX11_puts) ∈ TW := tw_in 1178 (by decide +kernel) (by decide +kernel)
theorem kw_1179 : (Cond.code yX11_puts cX11_puts 3 (none)) ∈ TW := tw_in 1179 (by decide +kernel) (by decide +kernel)
theorem kw_1180 : (Cond.methodLink RL 115 yX11_take) ∈ TW := tw_in 1180 (by decide +kernel) (by decide +kernel)
theorem kw_1181 : (Cond.instanceMethod yX11_take) ∈ TW := tw_in 1181 (by decide +kernel) (by decide +kernel)
theorem kw_1182 : (Cond.selects RX11 yX11_take yX11_take) ∈ TW := tw_in 1182 (by decide +kernel) (by decide +kernel)
theorem kw_1183 : (Cond.code yX11_take cX11_take 1 (some .int)) ∈ TW := tw_in 1183 (by decide +kernel) (by decide +kernel)
theorem kw_1184 : (Cond.methodLink RL 118 yX11_make) ∈ TW := tw_in 1184 (by decide +kernel) (by decide +kernel)
theorem kw_1185 : (Cond.instanceMethod yX11_make) ∈ TW := tw_in 1185 (by decide +kernel) (by decide +kernel)
theorem kw_1186 : (Cond.selects RX11 yX11_make yX11_make) ∈ TW := tw_in 1186 (by decide +kernel) (by decide +kernel)
theorem kw_1187 : (Cond.code yX11_make cX11_make 2 (some .int)) ∈ TW := tw_in 1187 (by decide +kernel) (by decide +kernel)
theorem kw_1188 : (Cond.methodLink RX11 116 yX11_makesAll) ∈ TW := tw_in 1188 (by decide +kernel) (by decide +kernel)
theorem kw_1190 : (Cond.instanceMethod yX11_makesAll) ∈ TW := tw_in 1190 (by decide +kernel) (by decide +kernel)
theorem kw_1191 : (Cond.code yX11_makesAll cX11_makesAll 8 (some .int)) ∈ TW := tw_in 1191 (by decide +kernel) (by decide +kernel)
theorem kw_1192 : (Cond.methodLink RX11 112 yX11_makes) ∈ TW := tw_in 1192 (by decide +kernel) (by decide +kernel)
theorem kw_1194 : (Cond.instanceMethod yX11_makes) ∈ TW := tw_in 1194 (by decide +kernel) (by decide +kernel)
theorem kw_1195 : (Cond.code yX11_makes cX11_makes 4 (some .int)) ∈ TW := tw_in 1195 (by decide +kernel) (by decide +kernel)
theorem kw_1196 : (Cond.methodLink RL 122 yX11_mirror) ∈ TW := tw_in 1196 (by decide +kernel) (by decide +kernel)
theorem kw_1197 : (Cond.instanceMethod yX11_mirror) ∈ TW := tw_in 1197 (by decide +kernel) (by decide +kernel)
theorem kw_1198 : (Cond.selects RX11 yX11_mirror yX11_mirror) ∈ TW := tw_in 1198 (by decide +kernel) (by decide +kernel)
theorem kw_1199 : (Cond.code yX11_mirror cX11_mirror 3 (none)) ∈ TW := tw_in 1199 (by decide +kernel) (by decide +kernel)
theorem kw_1200 : (Cond.methodLink RL 126 yX11_untangle) ∈ TW := tw_in 1200 (by decide +kernel) (by decide +kernel)
theorem kw_1201 : (Cond.instanceMethod yX11_untangle) ∈ TW := tw_in 1201 (by decide +kernel) (by decide +kernel)
theorem kw_1202 : (Cond.selects RX11 yX11_untangle yX11_untangle) ∈ TW := tw_in 1202 (by decide +kernel) (by decide +kernel)
theorem kw_1203 : (Cond.code yX11_untangle cX11_untangle 6 (some .int)) ∈ TW := tw_in 1203 (by decide +kernel) (by decide +kernel)
theorem kw_1204 : (Cond.methodLink RX11 120 yX11_renamed) ∈ TW := tw_in 1204 (by decide +kernel) (by decide +kernel)
theorem kw_1205 : (Cond.static yX11_renamed) ∈ TW := tw_in 1205 (by decide +kernel) (by decide +kernel)
theorem kw_1206 : (Cond.code yX11_renamed cX11_renamed 3 (some .int)) ∈ TW := tw_in 1206 (by decide +kernel) (by decide +kernel)
theorem kw_1207 : (Cond.methodLink RL 130 yX11_prune) ∈ TW := tw_in 1207 (by decide +kernel) (by decide +kernel)
theorem kw_1208 : (Cond.instanceMethod yX11_prune) ∈ TW := tw_in 1208 (by decide +kernel) (by decide +kernel)
theorem kw_1209 : (Cond.selects RX11 yX11_prune yX11_prune) ∈ TW := tw_in 1209 (by decide +kernel) (by decide +kernel)
theorem kw_1210 : (Cond.code yX11_prune cX11_prune 3 (some .int)) ∈ TW := tw_in 1210 (by decide +kernel) (by decide +kernel)
theorem kw_1211 : (Cond.methodLink RX11 128 yX11_often) ∈ TW := tw_in 1211 (by decide +kernel) (by decide +kernel)
theorem kw_1213 : (Cond.instanceMethod yX11_often) ∈ TW := tw_in 1213 (by decide +kernel) (by decide +kernel)
theorem kw_1214 : (Cond.code yX11_often cX11_often 5 (some .int)) ∈ TW := tw_in 1214 (by decide +kernel) (by decide +kernel)
theorem kw_1215 : (Cond.methodLink RX11 124 yX11_through) ∈ TW := tw_in 1215 (by decide +kernel) (by decide +kernel)
theorem kw_1217 : (Cond.instanceMethod yX11_through) ∈ TW := tw_in 1217 (by decide +kernel) (by decide +kernel)
theorem kw_1218 : (Cond.code yX11_through cX11_through 10 (some .int)) ∈ TW := tw_in 1218 (by decide +kernel) (by decide +kernel)
theorem kw_1219 : (Cond.methodLink RL 133 yX11_told) ∈ TW := tw_in 1219 (by decide +kernel) (by decide +kernel)
theorem kw_1220 : (Cond.instanceMethod yX11_told) ∈ TW := tw_in 1220 (by decide +kernel) (by decide +kernel)
theorem kw_1221 : (Cond.selects RX11 yX11_told yX11_told) ∈ TW := tw_in 1221 (by decide +kernel) (by decide +kernel)
theorem kw_1222 : (Cond.code yX11_told cX11_told 5 (some .int)) ∈ TW := tw_in 1222 (by decide +kernel) (by decide +kernel)
theorem kw_1223 : (Cond.methodLink RX11 131 yX11_laysLayers) ∈ TW := tw_in 1223 (by decide +kernel) (by decide +kernel)
theorem kw_1225 : (Cond.instanceMethod yX11_laysLayers) ∈ TW := tw_in 1225 (by decide +kernel) (by decide +kernel)
theorem kw_1226 : (Cond.code yX11_laysLayers cX11_laysLayers 5 (some .int)) ∈ TW := tw_in 1226 (by decide +kernel) (by decide +kernel)
theorem kw_1227 : (Cond.methodLink RL 136 yX11_comparator) ∈ TW := tw_in 1227 (by decide +kernel) (by decide +kernel)
theorem kw_1228 : (Cond.instanceMethod yX11_comparator) ∈ TW := tw_in 1228 (by decide +kernel) (by decide +kernel)
theorem kw_1229 : (Cond.selects RX11 yX11_comparator yX11_comparator) ∈ TW := tw_in 1229 (by decide +kernel) (by decide +kernel)
theorem kw_1230 : (Cond.code yX11_comparator cX11_comparator 3 (some .int)) ∈ TW := tw_in 1230 (by decide +kernel) (by decide +kernel)
theorem kw_1231 : (Cond.methodLink RX11 138 yX11_isComparator) ∈ TW := tw_in 1231 (by decide +kernel) (by decide +kernel)
theorem kw_1233 : (Cond.instanceMethod yX11_isComparator) ∈ TW := tw_in 1233 (by decide +kernel) (by decide +kernel)
theorem kw_1234 : (Cond.code yX11_isComparator cX11_isComparator 2 (some .boolean)) ∈ TW := tw_in 1234 (by decide +kernel) (by decide +kernel)
theorem kw_1235 : (Cond.methodLink RL 139 yX11_textAt) ∈ TW := tw_in 1235 (by decide +kernel) (by decide +kernel)
theorem kw_1236 : (Cond.instanceMethod yX11_textAt) ∈ TW := tw_in 1236 (by decide +kernel) (by decide +kernel)
theorem kw_1237 : (Cond.selects RX11 yX11_textAt yX11_textAt) ∈ TW := tw_in 1237 (by decide +kernel) (by decide +kernel)
theorem kw_1238 : (Cond.code yX11_textAt cX11_textAt 3 (some .char)) ∈ TW := tw_in 1238 (by decide +kernel) (by decide +kernel)
theorem kw_1239 : (Cond.methodLink RX11 141 yX11_writes) ∈ TW := tw_in 1239 (by decide +kernel) (by decide +kernel)
theorem kw_1241 : (Cond.instanceMethod yX11_writes) ∈ TW := tw_in 1241 (by decide +kernel) (by decide +kernel)
theorem kw_1242 : (Cond.code yX11_writes cX11_writes 6 (none)) ∈ TW := tw_in 1242 (by decide +kernel) (by decide +kernel)
theorem kw_1243 : (Cond.methodLink RX11 134 yX11_lesser) ∈ TW := tw_in 1243 (by decide +kernel) (by decide +kernel)
theorem kw_1244 : (Cond.static yX11_lesser) ∈ TW := tw_in 1244 (by decide +kernel) (by decide +kernel)
theorem kw_1245 : (Cond.code yX11_lesser cX11_lesser 2 (some .int)) ∈ TW := tw_in 1245 (by decide +kernel) (by decide +kernel)
theorem kw_1246 : (Cond.methodLink RL 145 yX11_type) ∈ TW := tw_in 1246 (by decide +kernel) (by decide +kernel)
theorem kw_1247 : (Cond.instanceMethod yX11_type) ∈ TW := tw_in 1247 (by decide +kernel) (by decide +kernel)
theorem kw_1248 : (Cond.selects RX11 yX11_type yX11_type) ∈ TW := tw_in 1248 (by decide +kernel) (by decide +kernel)
theorem kw_1249 : (Cond.code yX11_type cX11_type 6 (some .int)) ∈ TW := tw_in 1249 (by decide +kernel) (by decide +kernel)
theorem kw_1250 : (Cond.constantLong "ComparatoryModel" (144 : Nat) (255 : Int64)) ∈ TW := tw_in 1250 (by decide +kernel) (by decide +kernel)
theorem kw_1251 : (Cond.methodLink RX11 146 yX11_isCharacter) ∈ TW := tw_in 1251 (by decide +kernel) (by decide +kernel)
theorem kw_1252 : (Cond.static yX11_isCharacter) ∈ TW := tw_in 1252 (by decide +kernel) (by decide +kernel)
theorem kw_1253 : (Cond.code yX11_isCharacter cX11_isCharacter 1 (some .boolean)) ∈ TW := tw_in 1253 (by decide +kernel) (by decide +kernel)
theorem kw_1254 : (Cond.methodLink RL 149 yX11_wipe) ∈ TW := tw_in 1254 (by decide +kernel) (by decide +kernel)
theorem kw_1255 : (Cond.instanceMethod yX11_wipe) ∈ TW := tw_in 1255 (by decide +kernel) (by decide +kernel)
theorem kw_1256 : (Cond.selects RX11 yX11_wipe yX11_wipe) ∈ TW := tw_in 1256 (by decide +kernel) (by decide +kernel)
theorem kw_1257 : (Cond.code yX11_wipe cX11_wipe 2 (some .int)) ∈ TW := tw_in 1257 (by decide +kernel) (by decide +kernel)
theorem kw_1258 : (Cond.methodLink RL 153 yX11_fault) ∈ TW := tw_in 1258 (by decide +kernel) (by decide +kernel)
theorem kw_1259 : (Cond.instanceMethod yX11_fault) ∈ TW := tw_in 1259 (by decide +kernel) (by decide +kernel)
theorem kw_1260 : (Cond.selects RX11 yX11_fault yX11_fault) ∈ TW := tw_in 1260 (by decide +kernel) (by decide +kernel)
theorem kw_1261 : (Cond.code yX11_fault cX11_fault 1 (some .int)) ∈ TW := tw_in 1261 (by decide +kernel) (by decide +kernel)
theorem kw_1262 : (Cond.methodLink RX11 152 yX11_findFault) ∈ TW := tw_in 1262 (by decide +kernel) (by decide +kernel)
theorem kw_1264 : (Cond.instanceMethod yX11_findFault) ∈ TW := tw_in 1264 (by decide +kernel) (by decide +kernel)
theorem kw_1265 : (Cond.code yX11_findFault cX11_findFault 5 (some .int)) ∈ TW := tw_in 1265 (by decide +kernel) (by decide +kernel)
theorem kw_1266 : (Cond.methodLink RL 156 yX11_build) ∈ TW := tw_in 1266 (by decide +kernel) (by decide +kernel)
theorem kw_1267 : (Cond.instanceMethod yX11_build) ∈ TW := tw_in 1267 (by decide +kernel) (by decide +kernel)
theorem kw_1268 : (Cond.selects RX11 yX11_build yX11_build) ∈ TW := tw_in 1268 (by decide +kernel) (by decide +kernel)
theorem kw_1269 : (Cond.code yX11_build cX11_build 3 (some .int)) ∈ TW := tw_in 1269 (by decide +kernel) (by decide +kernel)
theorem kw_1270 : (Cond.methodLink RL 159 yX11_run) ∈ TW := tw_in 1270 (by decide +kernel) (by decide +kernel)
theorem kw_1271 : (Cond.instanceMethod yX11_run) ∈ TW := tw_in 1271 (by decide +kernel) (by decide +kernel)
theorem kw_1272 : (Cond.selects RX11 yX11_run yX11_run) ∈ TW := tw_in 1272 (by decide +kernel) (by decide +kernel)
theorem kw_1273 : (Cond.code yX11_run cX11_run 2 (some .int)) ∈ TW := tw_in 1273 (by decide +kernel) (by decide +kernel)
theorem kw_1274 : (Cond.methodLink RX11 155 yX11_rowOf) ∈ TW := tw_in 1274 (by decide +kernel) (by decide +kernel)
theorem kw_1276 : (Cond.instanceMethod yX11_rowOf) ∈ TW := tw_in 1276 (by decide +kernel) (by decide +kernel)
theorem kw_1277 : (Cond.code yX11_rowOf cX11_rowOf 5 (some .int)) ∈ TW := tw_in 1277 (by decide +kernel) (by decide +kernel)
theorem kw_1278 : (Cond.methodLink RX11 94 yX11_numberOf) ∈ TW := tw_in 1278 (by decide +kernel) (by decide +kernel)
theorem kw_1280 : (Cond.instanceMethod yX11_numberOf) ∈ TW := tw_in 1280 (by decide +kernel) (by decide +kernel)
theorem kw_1281 : (Cond.code yX11_numberOf cX11_numberOf 5 (some .int)) ∈ TW := tw_in 1281 (by decide +kernel) (by decide +kernel)
theorem kw_1282 : (Cond.methodLink RX11 158 yX11_goes) ∈ TW := tw_in 1282 (by decide +kernel) (by decide +kernel)
theorem kw_1284 : (Cond.instanceMethod yX11_goes) ∈ TW := tw_in 1284 (by decide +kernel) (by decide +kernel)
theorem kw_1285 : (Cond.code yX11_goes cX11_goes 2 (none)) ∈ TW := tw_in 1285 (by decide +kernel) (by decide +kernel)
theorem kw_1286 : (Cond.methodLink RX11 98 yX11_exchanges) ∈ TW := tw_in 1286 (by decide +kernel) (by decide +kernel)
theorem kw_1288 : (Cond.instanceMethod yX11_exchanges) ∈ TW := tw_in 1288 (by decide +kernel) (by decide +kernel)
theorem kw_1289 : (Cond.code yX11_exchanges cX11_exchanges 4 (none)) ∈ TW := tw_in 1289 (by decide +kernel) (by decide +kernel)
theorem kw_1290 : (Cond.methodLink RX11 161 yX11_codeOf) ∈ TW := tw_in 1290 (by decide +kernel) (by decide +kernel)
theorem kw_1292 : (Cond.instanceMethod yX11_codeOf) ∈ TW := tw_in 1292 (by decide +kernel) (by decide +kernel)
theorem kw_1293 : (Cond.code yX11_codeOf cX11_codeOf 3 (some .int)) ∈ TW := tw_in 1293 (by decide +kernel) (by decide +kernel)
theorem kw_1294 : (Cond.methodLink RL 164 yX11_outputs) ∈ TW := tw_in 1294 (by decide +kernel) (by decide +kernel)
theorem kw_1295 : (Cond.instanceMethod yX11_outputs) ∈ TW := tw_in 1295 (by decide +kernel) (by decide +kernel)
theorem kw_1296 : (Cond.selects RX11 yX11_outputs yX11_outputs) ∈ TW := tw_in 1296 (by decide +kernel) (by decide +kernel)
theorem kw_1297 : (Cond.code yX11_outputs cX11_outputs 4 (some .long)) ∈ TW := tw_in 1297 (by decide +kernel) (by decide +kernel)
theorem kw_1298 : (Cond.methodLink RX11 164 yX11_out) ∈ TW := tw_in 1298 (by decide +kernel) (by decide +kernel)
theorem kw_1300 : (Cond.instanceMethod yX11_out) ∈ TW := tw_in 1300 (by decide +kernel) (by decide +kernel)
theorem kw_1301 : (Cond.code yX11_out cX11_out 2 (some .int)) ∈ TW := tw_in 1301 (by decide +kernel) (by decide +kernel)
theorem kw_1302 : (Cond.methodLink RL 169 yX11_sorts) ∈ TW := tw_in 1302 (by decide +kernel) (by decide +kernel)
theorem kw_1303 : (Cond.instanceMethod yX11_sorts) ∈ TW := tw_in 1303 (by decide +kernel) (by decide +kernel)
theorem kw_1304 : (Cond.selects RX11 yX11_sorts yX11_sorts) ∈ TW := tw_in 1304 (by decide +kernel) (by decide +kernel)
theorem kw_1305 : (Cond.code yX11_sorts cX11_sorts 1 (some .boolean)) ∈ TW := tw_in 1305 (by decide +kernel) (by decide +kernel)
theorem kw_1306 : (Cond.methodLink RX11 170 yX11_unsorted) ∈ TW := tw_in 1306 (by decide +kernel) (by decide +kernel)
theorem kw_1308 : (Cond.instanceMethod yX11_unsorted) ∈ TW := tw_in 1308 (by decide +kernel) (by decide +kernel)
theorem kw_1309 : (Cond.code yX11_unsorted cX11_unsorted 5 (some .int)) ∈ TW := tw_in 1309 (by decide +kernel) (by decide +kernel)
theorem kw_1310 : (Cond.methodLink RX11 167 yX11_isSorted) ∈ TW := tw_in 1310 (by decide +kernel) (by decide +kernel)
theorem kw_1311 : (Cond.static yX11_isSorted) ∈ TW := tw_in 1311 (by decide +kernel) (by decide +kernel)
theorem kw_1312 : (Cond.code yX11_isSorted cX11_isSorted 5 (some .boolean)) ∈ TW := tw_in 1312 (by decide +kernel) (by decide +kernel)
theorem kw_1313 : (Cond.methodLink RL 173 yX11_sorted) ∈ TW := tw_in 1313 (by decide +kernel) (by decide +kernel)
theorem kw_1314 : (Cond.instanceMethod yX11_sorted) ∈ TW := tw_in 1314 (by decide +kernel) (by decide +kernel)
theorem kw_1315 : (Cond.selects RX11 yX11_sorted yX11_sorted) ∈ TW := tw_in 1315 (by decide +kernel) (by decide +kernel)
theorem kw_1316 : (Cond.code yX11_sorted cX11_sorted 3 (some .int)) ∈ TW := tw_in 1316 (by decide +kernel) (by decide +kernel)
theorem kw_1317 : (Cond.methodLink RX11 173 yX11_lays) ∈ TW := tw_in 1317 (by decide +kernel) (by decide +kernel)
theorem kw_1319 : (Cond.instanceMethod yX11_lays) ∈ TW := tw_in 1319 (by decide +kernel) (by decide +kernel)
theorem kw_1320 : (Cond.code yX11_lays cX11_lays 3 (none)) ∈ TW := tw_in 1320 (by decide +kernel) (by decide +kernel)
theorem kw_1321 : (Cond.methodLink RL 176 yX11_wrong) ∈ TW := tw_in 1321 (by decide +kernel) (by decide +kernel)
theorem kw_1322 : (Cond.instanceMethod yX11_wrong) ∈ TW := tw_in 1322 (by decide +kernel) (by decide +kernel)
theorem kw_1323 : (Cond.selects RX11 yX11_wrong yX11_wrong) ∈ TW := tw_in 1323 (by decide +kernel) (by decide +kernel)
theorem kw_1324 : (Cond.code yX11_wrong cX11_wrong 4 (some .int)) ∈ TW := tw_in 1324 (by decide +kernel) (by decide +kernel)
theorem kw_1325 : (Cond.methodLink RL 179 yX11_finishes) ∈ TW := tw_in 1325 (by decide +kernel) (by decide +kernel)
theorem kw_1326 : (Cond.instanceMethod yX11_finishes) ∈ TW := tw_in 1326 (by decide +kernel) (by decide +kernel)
theorem kw_1327 : (Cond.selects RX11 yX11_finishes yX11_finishes) ∈ TW := tw_in 1327 (by decide +kernel) (by decide +kernel)
theorem kw_1328 : (Cond.code yX11_finishes cX11_finishes 9 (some .int)) ∈ TW := tw_in 1328 (by decide +kernel) (by decide +kernel)
theorem kw_1329 : (Cond.methodLink RX11 179 yX11_isDone) ∈ TW := tw_in 1329 (by decide +kernel) (by decide +kernel)
theorem kw_1331 : (Cond.instanceMethod yX11_isDone) ∈ TW := tw_in 1331 (by decide +kernel) (by decide +kernel)
theorem kw_1332 : (Cond.code yX11_isDone cX11_isDone 8 (some .boolean)) ∈ TW := tw_in 1332 (by decide +kernel) (by decide +kernel)
theorem kw_1333 : (Cond.methodLink RX11 176 yX11_behind) ∈ TW := tw_in 1333 (by decide +kernel) (by decide +kernel)
theorem kw_1335 : (Cond.instanceMethod yX11_behind) ∈ TW := tw_in 1335 (by decide +kernel) (by decide +kernel)
theorem kw_1336 : (Cond.code yX11_behind cX11_behind 6 (some .int)) ∈ TW := tw_in 1336 (by decide +kernel) (by decide +kernel)
theorem kw_1337 : (Cond.methodLink RL 182 yX11_merges) ∈ TW := tw_in 1337 (by decide +kernel) (by decide +kernel)
theorem kw_1338 : (Cond.instanceMethod yX11_merges) ∈ TW := tw_in 1338 (by decide +kernel) (by decide +kernel)
theorem kw_1339 : (Cond.selects RX11 yX11_merges yX11_merges) ∈ TW := tw_in 1339 (by decide +kernel) (by decide +kernel)
theorem kw_1340 : (Cond.code yX11_merges cX11_merges 4 (some .boolean)) ∈ TW := tw_in 1340 (by decide +kernel) (by decide +kernel)
theorem kw_1341 : (Cond.methodLink RL 185 yX11_chooses) ∈ TW := tw_in 1341 (by decide +kernel) (by decide +kernel)
theorem kw_1342 : (Cond.instanceMethod yX11_chooses) ∈ TW := tw_in 1342 (by decide +kernel) (by decide +kernel)
theorem kw_1343 : (Cond.selects RX11 yX11_chooses yX11_chooses) ∈ TW := tw_in 1343 (by decide +kernel) (by decide +kernel)
theorem kw_1344 : (Cond.code yX11_chooses cX11_chooses 5 (some .boolean)) ∈ TW := tw_in 1344 (by decide +kernel) (by decide +kernel)
theorem kw_1345 : (Cond.methodLink RL 189 yX11_off) ∈ TW := tw_in 1345 (by decide +kernel) (by decide +kernel)
theorem kw_1346 : (Cond.instanceMethod yX11_off) ∈ TW := tw_in 1346 (by decide +kernel) (by decide +kernel)
theorem kw_1347 : (Cond.selects RX11 yX11_off yX11_off) ∈ TW := tw_in 1347 (by decide +kernel) (by decide +kernel)
theorem kw_1348 : (Cond.code yX11_off cX11_off 5 (some .int)) ∈ TW := tw_in 1348 (by decide +kernel) (by decide +kernel)
theorem kw_1349 : (Cond.methodLink RL 193 yX11_routes) ∈ TW := tw_in 1349 (by decide +kernel) (by decide +kernel)
theorem kw_1350 : (Cond.instanceMethod yX11_routes) ∈ TW := tw_in 1350 (by decide +kernel) (by decide +kernel)
theorem kw_1351 : (Cond.selects RX11 yX11_routes yX11_routes) ∈ TW := tw_in 1351 (by decide +kernel) (by decide +kernel)
theorem kw_1352 : (Cond.code yX11_routes cX11_routes 3 (some .int)) ∈ TW := tw_in 1352 (by decide +kernel) (by decide +kernel)
theorem kw_1353 : (Cond.methodLink RX11 183 yX11_reaches) ∈ TW := tw_in 1353 (by decide +kernel) (by decide +kernel)
theorem kw_1355 : (Cond.instanceMethod yX11_reaches) ∈ TW := tw_in 1355 (by decide +kernel) (by decide +kernel)
theorem kw_1356 : (Cond.code yX11_reaches cX11_reaches 3 (none)) ∈ TW := tw_in 1356 (by decide +kernel) (by decide +kernel)
theorem kw_1357 : (Cond.methodLink RL 196 yX11_setting) ∈ TW := tw_in 1357 (by decide +kernel) (by decide +kernel)
theorem kw_1358 : (Cond.instanceMethod yX11_setting) ∈ TW := tw_in 1358 (by decide +kernel) (by decide +kernel)
theorem kw_1359 : (Cond.selects RX11 yX11_setting yX11_setting) ∈ TW := tw_in 1359 (by decide +kernel) (by decide +kernel)
theorem kw_1360 : (Cond.code yX11_setting cX11_setting 5 (some .int)) ∈ TW := tw_in 1360 (by decide +kernel) (by decide +kernel)
theorem kw_1361 : (Cond.methodLink RL 199 yX11_token) ∈ TW := tw_in 1361 (by decide +kernel) (by decide +kernel)
theorem kw_1362 : (Cond.instanceMethod yX11_token) ∈ TW := tw_in 1362 (by decide +kernel) (by decide +kernel)
theorem kw_1363 : (Cond.selects RX11 yX11_token yX11_token) ∈ TW := tw_in 1363 (by decide +kernel) (by decide +kernel)
theorem kw_1364 : (Cond.code yX11_token cX11_token 4 (some .int)) ∈ TW := tw_in 1364 (by decide +kernel) (by decide +kernel)
theorem kw_1365 : (Cond.methodLink RL 202 yX11_came) ∈ TW := tw_in 1365 (by decide +kernel) (by decide +kernel)
theorem kw_1366 : (Cond.instanceMethod yX11_came) ∈ TW := tw_in 1366 (by decide +kernel) (by decide +kernel)
theorem kw_1367 : (Cond.selects RX11 yX11_came yX11_came) ∈ TW := tw_in 1367 (by decide +kernel) (by decide +kernel)
theorem kw_1368 : (Cond.code yX11_came cX11_came 2 (some .int)) ∈ TW := tw_in 1368 (by decide +kernel) (by decide +kernel)
theorem kw_1369 : (Cond.methodLink RL 205 yX11_cameAnew) ∈ TW := tw_in 1369 (by decide +kernel) (by decide +kernel)
theorem kw_1370 : (Cond.instanceMethod yX11_cameAnew) ∈ TW := tw_in 1370 (by decide +kernel) (by decide +kernel)
theorem kw_1371 : (Cond.selects RX11 yX11_cameAnew yX11_cameAnew) ∈ TW := tw_in 1371 (by decide +kernel) (by decide +kernel)
theorem kw_1372 : (Cond.code yX11_cameAnew cX11_cameAnew 2 (some .int)) ∈ TW := tw_in 1372 (by decide +kernel) (by decide +kernel)
theorem kw_1373 : (Cond.methodLink RX11 186 yX11_came) ∈ TW := tw_in 1373 (by decide +kernel) (by decide +kernel)
theorem kw_1374 : (Cond.methodLink RL 209 yX11_isStep) ∈ TW := tw_in 1374 (by decide +kernel) (by decide +kernel)
theorem kw_1375 : (Cond.instanceMethod yX11_isStep) ∈ TW := tw_in 1375 (by decide +kernel) (by decide +kernel)
theorem kw_1376 : (Cond.selects RX11 yX11_isStep yX11_isStep) ∈ TW := tw_in 1376 (by decide +kernel) (by decide +kernel)
theorem kw_1377 : (Cond.code yX11_isStep cX11_isStep 3 (some .boolean)) ∈ TW := tw_in 1377 (by decide +kernel) (by decide +kernel)
theorem kw_1378 : (Cond.methodLink RL 212 yX11_bad) ∈ TW := tw_in 1378 (by decide +kernel) (by decide +kernel)
theorem kw_1379 : (Cond.instanceMethod yX11_bad) ∈ TW := tw_in 1379 (by decide +kernel) (by decide +kernel)
theorem kw_1380 : (Cond.selects RX11 yX11_bad yX11_bad) ∈ TW := tw_in 1380 (by decide +kernel) (by decide +kernel)
theorem kw_1381 : (Cond.code yX11_bad cX11_bad 3 (some .int)) ∈ TW := tw_in 1381 (by decide +kernel) (by decide +kernel)
theorem kw_1382 : (Cond.methodLink RX11 189 yX11_misses) ∈ TW := tw_in 1382 (by decide +kernel) (by decide +kernel)
theorem kw_1384 : (Cond.instanceMethod yX11_misses) ∈ TW := tw_in 1384 (by decide +kernel) (by decide +kernel)
theorem kw_1385 : (Cond.code yX11_misses cX11_misses 3 (some .int)) ∈ TW := tw_in 1385 (by decide +kernel) (by decide +kernel)
theorem kw_1386 : (Cond.methodLink RL 215 yX11_tells) ∈ TW := tw_in 1386 (by decide +kernel) (by decide +kernel)
theorem kw_1387 : (Cond.instanceMethod yX11_tells) ∈ TW := tw_in 1387 (by decide +kernel) (by decide +kernel)
theorem kw_1388 : (Cond.selects RX11 yX11_tells yX11_tells) ∈ TW := tw_in 1388 (by decide +kernel) (by decide +kernel)
theorem kw_1389 : (Cond.code yX11_tells cX11_tells 3 (some .long)) ∈ TW := tw_in 1389 (by decide +kernel) (by decide +kernel)
theorem kw_1390 : (Cond.methodLink RX11 192 yX11_tellers) ∈ TW := tw_in 1390 (by decide +kernel) (by decide +kernel)
theorem kw_1392 : (Cond.instanceMethod yX11_tellers) ∈ TW := tw_in 1392 (by decide +kernel) (by decide +kernel)
theorem kw_1393 : (Cond.code yX11_tellers cX11_tellers 6 (some .long)) ∈ TW := tw_in 1393 (by decide +kernel) (by decide +kernel)
theorem kw_1394 : (Cond.methodLink RL 220 yX11_hidden) ∈ TW := tw_in 1394 (by decide +kernel) (by decide +kernel)
theorem kw_1395 : (Cond.instanceMethod yX11_hidden) ∈ TW := tw_in 1395 (by decide +kernel) (by decide +kernel)
theorem kw_1396 : (Cond.selects RX11 yX11_hidden yX11_hidden) ∈ TW := tw_in 1396 (by decide +kernel) (by decide +kernel)
theorem kw_1397 : (Cond.code yX11_hidden cX11_hidden 5 (some .int)) ∈ TW := tw_in 1397 (by decide +kernel) (by decide +kernel)
theorem kw_1398 : (Cond.methodLink RL 224 yX11_tests) ∈ TW := tw_in 1398 (by decide +kernel) (by decide +kernel)
theorem kw_1399 : (Cond.instanceMethod yX11_tests) ∈ TW := tw_in 1399 (by decide +kernel) (by decide +kernel)
theorem kw_1400 : (Cond.selects RX11 yX11_tests yX11_tests) ∈ TW := tw_in 1400 (by decide +kernel) (by decide +kernel)
theorem kw_1401 : (Cond.code yX11_tests cX11_tests 12 (some .int)) ∈ TW := tw_in 1401 (by decide +kernel) (by decide +kernel)
theorem kw_1402 : (Cond.methodLink RX11 196 yX11_chosen) ∈ TW := tw_in 1402 (by decide +kernel) (by decide +kernel)
theorem kw_1404 : (Cond.instanceMethod yX11_chosen) ∈ TW := tw_in 1404 (by decide +kernel) (by decide +kernel)
theorem kw_1405 : (Cond.code yX11_chosen cX11_chosen 19 (some .int)) ∈ TW := tw_in 1405 (by decide +kernel) (by decide +kernel)
theorem kw_1406 : (Cond.methodLink RL 228 yX11_bears) ∈ TW := tw_in 1406 (by decide +kernel) (by decide +kernel)
theorem kw_1407 : (Cond.instanceMethod yX11_bears) ∈ TW := tw_in 1407 (by decide +kernel) (by decide +kernel)
theorem kw_1408 : (Cond.selects RX11 yX11_bears yX11_bears) ∈ TW := tw_in 1408 (by decide +kernel) (by decide +kernel)
theorem kw_1409 : (Cond.code yX11_bears cX11_bears 3 (some .boolean)) ∈ TW := tw_in 1409 (by decide +kernel) (by decide +kernel)
theorem kw_1410 : (Cond.methodLink RL 231 yX11_far) ∈ TW := tw_in 1410 (by decide +kernel) (by decide +kernel)
theorem kw_1411 : (Cond.instanceMethod yX11_far) ∈ TW := tw_in 1411 (by decide +kernel) (by decide +kernel)
theorem kw_1412 : (Cond.selects RX11 yX11_far yX11_far) ∈ TW := tw_in 1412 (by decide +kernel) (by decide +kernel)
theorem kw_1413 : (Cond.code yX11_far cX11_far 4 (some .int)) ∈ TW := tw_in 1413 (by decide +kernel) (by decide +kernel)
theorem kw_1414 : (Cond.methodLink RX11 213 yX11_spreads) ∈ TW := tw_in 1414 (by decide +kernel) (by decide +kernel)
theorem kw_1416 : (Cond.instanceMethod yX11_spreads) ∈ TW := tw_in 1416 (by decide +kernel) (by decide +kernel)
theorem kw_1417 : (Cond.code yX11_spreads cX11_spreads 5 (none)) ∈ TW := tw_in 1417 (by decide +kernel) (by decide +kernel)
theorem kw_1418 : (Cond.methodLink RX11 206 yX11_kinds) ∈ TW := tw_in 1418 (by decide +kernel) (by decide +kernel)
theorem kw_1420 : (Cond.instanceMethod yX11_kinds) ∈ TW := tw_in 1420 (by decide +kernel) (by decide +kernel)
theorem kw_1421 : (Cond.code yX11_kinds cX11_kinds 2 (some .int)) ∈ TW := tw_in 1421 (by decide +kernel) (by decide +kernel)
theorem kw_1422 : (Cond.methodLink RX11 209 yX11_does) ∈ TW := tw_in 1422 (by decide +kernel) (by decide +kernel)
theorem kw_1424 : (Cond.instanceMethod yX11_does) ∈ TW := tw_in 1424 (by decide +kernel) (by decide +kernel)
theorem kw_1425 : (Cond.code yX11_does cX11_does 6 (some .boolean)) ∈ TW := tw_in 1425 (by decide +kernel) (by decide +kernel)
theorem kw_1426 : (Cond.methodLink RX11 200 yX11_flips) ∈ TW := tw_in 1426 (by decide +kernel) (by decide +kernel)
theorem kw_1428 : (Cond.instanceMethod yX11_flips) ∈ TW := tw_in 1428 (by decide +kernel) (by decide +kernel)
theorem kw_1429 : (Cond.code yX11_flips cX11_flips 5 (none)) ∈ TW := tw_in 1429 (by decide +kernel) (by decide +kernel)
theorem kw_1430 : (Cond.methodLink RL 234 yX11_step) ∈ TW := tw_in 1430 (by decide +kernel) (by decide +kernel)
theorem kw_1431 : (Cond.instanceMethod yX11_step) ∈ TW := tw_in 1431 (by decide +kernel) (by decide +kernel)
theorem kw_1432 : (Cond.selects RX11 yX11_step yX11_step) ∈ TW := tw_in 1432 (by decide +kernel) (by decide +kernel)
theorem kw_1433 : (Cond.code yX11_step cX11_step 7 (some .int)) ∈ TW := tw_in 1433 (by decide +kernel) (by decide +kernel)
theorem kw_1434 : (Cond.methodLink RL 237 yX11_manyFar) ∈ TW := tw_in 1434 (by decide +kernel) (by decide +kernel)
theorem kw_1435 : (Cond.instanceMethod yX11_manyFar) ∈ TW := tw_in 1435 (by decide +kernel) (by decide +kernel)
theorem kw_1436 : (Cond.selects RX11 yX11_manyFar yX11_manyFar) ∈ TW := tw_in 1436 (by decide +kernel) (by decide +kernel)
theorem kw_1437 : (Cond.code yX11_manyFar cX11_manyFar 5 (some .int)) ∈ TW := tw_in 1437 (by decide +kernel) (by decide +kernel)
theorem kw_1438 : (Cond.methodLink RL 240 yX11_ask) ∈ TW := tw_in 1438 (by decide +kernel) (by decide +kernel)
theorem kw_1439 : (Cond.instanceMethod yX11_ask) ∈ TW := tw_in 1439 (by decide +kernel) (by decide +kernel)
theorem kw_1440 : (Cond.selects RX11 yX11_ask yX11_ask) ∈ TW := tw_in 1440 (by decide +kernel) (by decide +kernel)
theorem kw_1441 : (Cond.code yX11_ask cX11_ask 6 (some .boolean)) ∈ TW := tw_in 1441 (by decide +kernel) (by decide +kernel)
theorem kw_1442 : (Cond.methodLink RX11 216 yX11_isLess) ∈ TW := tw_in 1442 (by decide +kernel) (by decide +kernel)
theorem kw_1444 : (Cond.instanceMethod yX11_isLess) ∈ TW := tw_in 1444 (by decide +kernel) (by decide +kernel)
theorem kw_1445 : (Cond.code yX11_isLess cX11_isLess 4 (some .boolean)) ∈ TW := tw_in 1445 (by decide +kernel) (by decide +kernel)
theorem kw_1446 : (Cond.methodLink RL 244 yX11_left) ∈ TW := tw_in 1446 (by decide +kernel) (by decide +kernel)
theorem kw_1447 : (Cond.instanceMethod yX11_left) ∈ TW := tw_in 1447 (by decide +kernel) (by decide +kernel)
theorem kw_1448 : (Cond.selects RX11 yX11_left yX11_left) ∈ TW := tw_in 1448 (by decide +kernel) (by decide +kernel)
theorem kw_1449 : (Cond.code yX11_left cX11_left 3 (some .int)) ∈ TW := tw_in 1449 (by decide +kernel) (by decide +kernel)
theorem kw_1450 : (Cond.methodLink RL 248 yX11_needed) ∈ TW := tw_in 1450 (by decide +kernel) (by decide +kernel)
theorem kw_1451 : (Cond.instanceMethod yX11_needed) ∈ TW := tw_in 1451 (by decide +kernel) (by decide +kernel)
theorem kw_1452 : (Cond.selects RX11 yX11_needed yX11_needed) ∈ TW := tw_in 1452 (by decide +kernel) (by decide +kernel)
theorem kw_1453 : (Cond.code yX11_needed cX11_needed 4 (some .int)) ∈ TW := tw_in 1453 (by decide +kernel) (by decide +kernel)
theorem kw_1454 : (Cond.methodLink RX11 228 yX11_comes) ∈ TW := tw_in 1454 (by decide +kernel) (by decide +kernel)
theorem kw_1456 : (Cond.instanceMethod yX11_comes) ∈ TW := tw_in 1456 (by decide +kernel) (by decide +kernel)
theorem kw_1457 : (Cond.code yX11_comes cX11_comes 2 (none)) ∈ TW := tw_in 1457 (by decide +kernel) (by decide +kernel)
theorem kw_1458 : (Cond.methodLink RX11 222 yX11_placeOf) ∈ TW := tw_in 1458 (by decide +kernel) (by decide +kernel)
theorem kw_1460 : (Cond.instanceMethod yX11_placeOf) ∈ TW := tw_in 1460 (by decide +kernel) (by decide +kernel)
theorem kw_1461 : (Cond.code yX11_placeOf cX11_placeOf 4 (some .int)) ∈ TW := tw_in 1461 (by decide +kernel) (by decide +kernel)
theorem kw_1462 : (Cond.methodLink RX11 225 yX11_lessIn) ∈ TW := tw_in 1462 (by decide +kernel) (by decide +kernel)
theorem kw_1464 : (Cond.instanceMethod yX11_lessIn) ∈ TW := tw_in 1464 (by decide +kernel) (by decide +kernel)
theorem kw_1465 : (Cond.code yX11_lessIn cX11_lessIn 6 (some .int)) ∈ TW := tw_in 1465 (by decide +kernel) (by decide +kernel)
theorem kw_1466 : (Cond.methodLink RX11 231 yX11_bits) ∈ TW := tw_in 1466 (by decide +kernel) (by decide +kernel)
theorem kw_1467 : (Cond.static yX11_bits) ∈ TW := tw_in 1467 (by decide +kernel) (by decide +kernel)
theorem kw_1468 : (Cond.code yX11_bits cX11_bits 3 (some .int)) ∈ TW := tw_in 1468 (by decide +kernel) (by decide +kernel)
theorem kw_1469 : (Cond.methodLink RX11 234 yX11_best) ∈ TW := tw_in 1469 (by decide +kernel) (by decide +kernel)
theorem kw_1471 : (Cond.instanceMethod yX11_best) ∈ TW := tw_in 1471 (by decide +kernel) (by decide +kernel)
theorem kw_1472 : (Cond.code yX11_best cX11_best 8 (some .int)) ∈ TW := tw_in 1472 (by decide +kernel) (by decide +kernel)
theorem kw_1473 : (Cond.constantLong "ComparatoryLaw" (140 : Nat) (4294967295 : Int64)) ∈ TW := tw_in 1473 (by decide +kernel) (by decide +kernel)
theorem hd_X10_init : yX10_init.cls ≠ "java/lang/invoke/MethodHandle" ∧ yX10_init.cls ≠ "java/lang/invoke/VarHandle" ∧ (parseMethodDescriptor yX10_init.desc).map (fun d => d.parameters.length) = some 0 := ⟨by decide +kernel, by decide +kernel, by decide +kernel⟩
theorem hd_X10_add : yX10_add.cls ≠ "java/lang/invoke/MethodHandle" ∧ yX10_add.cls ≠ "java/lang/invoke/VarHandle" ∧ (parseMethodDescriptor yX10_add.desc).map (fun d => d.parameters.length) = some 2 := ⟨by decide +kernel, by decide +kernel, by decide +kernel⟩
theorem hd_X10_appendPlan : yX10_appendPlan.cls ≠ "java/lang/invoke/MethodHandle" ∧ yX10_appendPlan.cls ≠ "java/lang/invoke/VarHandle" ∧ (parseMethodDescriptor yX10_appendPlan.desc).map (fun d => d.parameters.length) = some 0 := ⟨by decide +kernel, by decide +kernel, by decide +kernel⟩
theorem hd_X10_ask : yX10_ask.cls ≠ "java/lang/invoke/MethodHandle" ∧ yX10_ask.cls ≠ "java/lang/invoke/VarHandle" ∧ (parseMethodDescriptor yX10_ask.desc).map (fun d => d.parameters.length) = some 2 := ⟨by decide +kernel, by decide +kernel, by decide +kernel⟩
theorem hd_X10_bad : yX10_bad.cls ≠ "java/lang/invoke/MethodHandle" ∧ yX10_bad.cls ≠ "java/lang/invoke/VarHandle" ∧ (parseMethodDescriptor yX10_bad.desc).map (fun d => d.parameters.length) = some 2 := ⟨by decide +kernel, by decide +kernel, by decide +kernel⟩
theorem hd_X10_bears : yX10_bears.cls ≠ "java/lang/invoke/MethodHandle" ∧ yX10_bears.cls ≠ "java/lang/invoke/VarHandle" ∧ (parseMethodDescriptor yX10_bears.desc).map (fun d => d.parameters.length) = some 0 := ⟨by decide +kernel, by decide +kernel, by decide +kernel⟩
theorem hd_X10_build : yX10_build.cls ≠ "java/lang/invoke/MethodHandle" ∧ yX10_build.cls ≠ "java/lang/invoke/VarHandle" ∧ (parseMethodDescriptor yX10_build.desc).map (fun d => d.parameters.length) = some 0 := ⟨by decide +kernel, by decide +kernel, by decide +kernel⟩
theorem hd_X10_came : yX10_came.cls ≠ "java/lang/invoke/MethodHandle" ∧ yX10_came.cls ≠ "java/lang/invoke/VarHandle" ∧ (parseMethodDescriptor yX10_came.desc).map (fun d => d.parameters.length) = some 1 := ⟨by decide +kernel, by decide +kernel, by decide +kernel⟩
theorem hd_X10_cameAnew : yX10_cameAnew.cls ≠ "java/lang/invoke/MethodHandle" ∧ yX10_cameAnew.cls ≠ "java/lang/invoke/VarHandle" ∧ (parseMethodDescriptor yX10_cameAnew.desc).map (fun d => d.parameters.length) = some 1 := ⟨by decide +kernel, by decide +kernel, by decide +kernel⟩
theorem hd_X10_checkComparator : yX10_checkComparator.cls ≠ "java/lang/invoke/MethodHandle" ∧ yX10_checkComparator.cls ≠ "java/lang/invoke/VarHandle" ∧ (parseMethodDescriptor yX10_checkComparator.desc).map (fun d => d.parameters.length) = some 1 := ⟨by decide +kernel, by decide +kernel, by decide +kernel⟩
theorem hd_X10_checkFault : yX10_checkFault.cls ≠ "java/lang/invoke/MethodHandle" ∧ yX10_checkFault.cls ≠ "java/lang/invoke/VarHandle" ∧ (parseMethodDescriptor yX10_checkFault.desc).map (fun d => d.parameters.length) = some 1 := ⟨by decide +kernel, by decide +kernel, by decide +kernel⟩
theorem hd_X10_checkPlace : yX10_checkPlace.cls ≠ "java/lang/invoke/MethodHandle" ∧ yX10_checkPlace.cls ≠ "java/lang/invoke/VarHandle" ∧ (parseMethodDescriptor yX10_checkPlace.desc).map (fun d => d.parameters.length) = some 1 := ⟨by decide +kernel, by decide +kernel, by decide +kernel⟩
theorem hd_X10_checkRoomFor : yX10_checkRoomFor.cls ≠ "java/lang/invoke/MethodHandle" ∧ yX10_checkRoomFor.cls ≠ "java/lang/invoke/VarHandle" ∧ (parseMethodDescriptor yX10_checkRoomFor.desc).map (fun d => d.parameters.length) = some 1 := ⟨by decide +kernel, by decide +kernel, by decide +kernel⟩
theorem hd_X10_checkSteps : yX10_checkSteps.cls ≠ "java/lang/invoke/MethodHandle" ∧ yX10_checkSteps.cls ≠ "java/lang/invoke/VarHandle" ∧ (parseMethodDescriptor yX10_checkSteps.desc).map (fun d => d.parameters.length) = some 1 := ⟨by decide +kernel, by decide +kernel, by decide +kernel⟩
theorem hd_X10_checkTwoWires : yX10_checkTwoWires.cls ≠ "java/lang/invoke/MethodHandle" ∧ yX10_checkTwoWires.cls ≠ "java/lang/invoke/VarHandle" ∧ (parseMethodDescriptor yX10_checkTwoWires.desc).map (fun d => d.parameters.length) = some 2 := ⟨by decide +kernel, by decide +kernel, by decide +kernel⟩
theorem hd_X10_checkWire : yX10_checkWire.cls ≠ "java/lang/invoke/MethodHandle" ∧ yX10_checkWire.cls ≠ "java/lang/invoke/VarHandle" ∧ (parseMethodDescriptor yX10_checkWire.desc).map (fun d => d.parameters.length) = some 1 := ⟨by decide +kernel, by decide +kernel, by decide +kernel⟩
theorem hd_X10_chooses : yX10_chooses.cls ≠ "java/lang/invoke/MethodHandle" ∧ yX10_chooses.cls ≠ "java/lang/invoke/VarHandle" ∧ (parseMethodDescriptor yX10_chooses.desc).map (fun d => d.parameters.length) = some 1 := ⟨by decide +kernel, by decide +kernel, by decide +kernel⟩
theorem hd_X10_comparator : yX10_comparator.cls ≠ "java/lang/invoke/MethodHandle" ∧ yX10_comparator.cls ≠ "java/lang/invoke/VarHandle" ∧ (parseMethodDescriptor yX10_comparator.desc).map (fun d => d.parameters.length) = some 2 := ⟨by decide +kernel, by decide +kernel, by decide +kernel⟩
theorem hd_X10_far : yX10_far.cls ≠ "java/lang/invoke/MethodHandle" ∧ yX10_far.cls ≠ "java/lang/invoke/VarHandle" ∧ (parseMethodDescriptor yX10_far.desc).map (fun d => d.parameters.length) = some 2 := ⟨by decide +kernel, by decide +kernel, by decide +kernel⟩
theorem hd_X10_fault : yX10_fault.cls ≠ "java/lang/invoke/MethodHandle" ∧ yX10_fault.cls ≠ "java/lang/invoke/VarHandle" ∧ (parseMethodDescriptor yX10_fault.desc).map (fun d => d.parameters.length) = some 0 := ⟨by decide +kernel, by decide +kernel, by decide +kernel⟩
theorem hd_X10_finishes : yX10_finishes.cls ≠ "java/lang/invoke/MethodHandle" ∧ yX10_finishes.cls ≠ "java/lang/invoke/VarHandle" ∧ (parseMethodDescriptor yX10_finishes.desc).map (fun d => d.parameters.length) = some 1 := ⟨by decide +kernel, by decide +kernel, by decide +kernel⟩
theorem hd_X10_forgetWhatDependsOnComparators : yX10_forgetWhatDependsOnComparators.cls ≠ "java/lang/invoke/MethodHandle" ∧ yX10_forgetWhatDependsOnComparators.cls ≠ "java/lang/invoke/VarHandle" ∧ (parseMethodDescriptor yX10_forgetWhatDependsOnComparators.desc).map (fun d => d.parameters.length) = some 0 := ⟨by decide +kernel, by decide +kernel, by decide +kernel⟩
theorem hd_X10_hidden : yX10_hidden.cls ≠ "java/lang/invoke/MethodHandle" ∧ yX10_hidden.cls ≠ "java/lang/invoke/VarHandle" ∧ (parseMethodDescriptor yX10_hidden.desc).map (fun d => d.parameters.length) = some 1 := ⟨by decide +kernel, by decide +kernel, by decide +kernel⟩
theorem hd_X10_isStep : yX10_isStep.cls ≠ "java/lang/invoke/MethodHandle" ∧ yX10_isStep.cls ≠ "java/lang/invoke/VarHandle" ∧ (parseMethodDescriptor yX10_isStep.desc).map (fun d => d.parameters.length) = some 0 := ⟨by decide +kernel, by decide +kernel, by decide +kernel⟩
theorem hd_X10_left : yX10_left.cls ≠ "java/lang/invoke/MethodHandle" ∧ yX10_left.cls ≠ "java/lang/invoke/VarHandle" ∧ (parseMethodDescriptor yX10_left.desc).map (fun d => d.parameters.length) = some 0 := ⟨by decide +kernel, by decide +kernel, by decide +kernel⟩
theorem hd_X10_make : yX10_make.cls ≠ "java/lang/invoke/MethodHandle" ∧ yX10_make.cls ≠ "java/lang/invoke/VarHandle" ∧ (parseMethodDescriptor yX10_make.desc).map (fun d => d.parameters.length) = some 1 := ⟨by decide +kernel, by decide +kernel, by decide +kernel⟩
theorem hd_X10_manyFar : yX10_manyFar.cls ≠ "java/lang/invoke/MethodHandle" ∧ yX10_manyFar.cls ≠ "java/lang/invoke/VarHandle" ∧ (parseMethodDescriptor yX10_manyFar.desc).map (fun d => d.parameters.length) = some 2 := ⟨by decide +kernel, by decide +kernel, by decide +kernel⟩
theorem hd_X10_merges : yX10_merges.cls ≠ "java/lang/invoke/MethodHandle" ∧ yX10_merges.cls ≠ "java/lang/invoke/VarHandle" ∧ (parseMethodDescriptor yX10_merges.desc).map (fun d => d.parameters.length) = some 1 := ⟨by decide +kernel, by decide +kernel, by decide +kernel⟩
theorem hd_X10_mirror : yX10_mirror.cls ≠ "java/lang/invoke/MethodHandle" ∧ yX10_mirror.cls ≠ "java/lang/invoke/VarHandle" ∧ (parseMethodDescriptor yX10_mirror.desc).map (fun d => d.parameters.length) = some 0 := ⟨by decide +kernel, by decide +kernel, by decide +kernel⟩
theorem hd_X10_needed : yX10_needed.cls ≠ "java/lang/invoke/MethodHandle" ∧ yX10_needed.cls ≠ "java/lang/invoke/VarHandle" ∧ (parseMethodDescriptor yX10_needed.desc).map (fun d => d.parameters.length) = some 0 := ⟨by decide +kernel, by decide +kernel, by decide +kernel⟩
theorem hd_X10_network : yX10_network.cls ≠ "java/lang/invoke/MethodHandle" ∧ yX10_network.cls ≠ "java/lang/invoke/VarHandle" ∧ (parseMethodDescriptor yX10_network.desc).map (fun d => d.parameters.length) = some 1 := ⟨by decide +kernel, by decide +kernel, by decide +kernel⟩
theorem hd_X10_off : yX10_off.cls ≠ "java/lang/invoke/MethodHandle" ∧ yX10_off.cls ≠ "java/lang/invoke/VarHandle" ∧ (parseMethodDescriptor yX10_off.desc).map (fun d => d.parameters.length) = some 0 := ⟨by decide +kernel, by decide +kernel, by decide +kernel⟩
theorem hd_X10_outputs : yX10_outputs.cls ≠ "java/lang/invoke/MethodHandle" ∧ yX10_outputs.cls ≠ "java/lang/invoke/VarHandle" ∧ (parseMethodDescriptor yX10_outputs.desc).map (fun d => d.parameters.length) = some 0 := ⟨by decide +kernel, by decide +kernel, by decide +kernel⟩
theorem hd_X10_prune : yX10_prune.cls ≠ "java/lang/invoke/MethodHandle" ∧ yX10_prune.cls ≠ "java/lang/invoke/VarHandle" ∧ (parseMethodDescriptor yX10_prune.desc).map (fun d => d.parameters.length) = some 0 := ⟨by decide +kernel, by decide +kernel, by decide +kernel⟩
theorem hd_X10_routes : yX10_routes.cls ≠ "java/lang/invoke/MethodHandle" ∧ yX10_routes.cls ≠ "java/lang/invoke/VarHandle" ∧ (parseMethodDescriptor yX10_routes.desc).map (fun d => d.parameters.length) = some 0 := ⟨by decide +kernel, by decide +kernel, by decide +kernel⟩
theorem hd_X10_rowOf : yX10_rowOf.cls ≠ "java/lang/invoke/MethodHandle" ∧ yX10_rowOf.cls ≠ "java/lang/invoke/VarHandle" ∧ (parseMethodDescriptor yX10_rowOf.desc).map (fun d => d.parameters.length) = some 1 := ⟨by decide +kernel, by decide +kernel, by decide +kernel⟩
theorem hd_X10_run : yX10_run.cls ≠ "java/lang/invoke/MethodHandle" ∧ yX10_run.cls ≠ "java/lang/invoke/VarHandle" ∧ (parseMethodDescriptor yX10_run.desc).map (fun d => d.parameters.length) = some 1 := ⟨by decide +kernel, by decide +kernel, by decide +kernel⟩
theorem hd_X10_setting : yX10_setting.cls ≠ "java/lang/invoke/MethodHandle" ∧ yX10_setting.cls ≠ "java/lang/invoke/VarHandle" ∧ (parseMethodDescriptor yX10_setting.desc).map (fun d => d.parameters.length) = some 1 := ⟨by decide +kernel, by decide +kernel, by decide +kernel⟩
theorem hd_X10_sorted : yX10_sorted.cls ≠ "java/lang/invoke/MethodHandle" ∧ yX10_sorted.cls ≠ "java/lang/invoke/VarHandle" ∧ (parseMethodDescriptor yX10_sorted.desc).map (fun d => d.parameters.length) = some 0 := ⟨by decide +kernel, by decide +kernel, by decide +kernel⟩
theorem hd_X10_sorts : yX10_sorts.cls ≠ "java/lang/invoke/MethodHandle" ∧ yX10_sorts.cls ≠ "java/lang/invoke/VarHandle" ∧ (parseMethodDescriptor yX10_sorts.desc).map (fun d => d.parameters.length) = some 0 := ⟨by decide +kernel, by decide +kernel, by decide +kernel⟩
theorem hd_X10_step : yX10_step.cls ≠ "java/lang/invoke/MethodHandle" ∧ yX10_step.cls ≠ "java/lang/invoke/VarHandle" ∧ (parseMethodDescriptor yX10_step.desc).map (fun d => d.parameters.length) = some 2 := ⟨by decide +kernel, by decide +kernel, by decide +kernel⟩
theorem hd_X10_take : yX10_take.cls ≠ "java/lang/invoke/MethodHandle" ∧ yX10_take.cls ≠ "java/lang/invoke/VarHandle" ∧ (parseMethodDescriptor yX10_take.desc).map (fun d => d.parameters.length) = some 0 := ⟨by decide +kernel, by decide +kernel, by decide +kernel⟩
theorem hd_X10_tells : yX10_tells.cls ≠ "java/lang/invoke/MethodHandle" ∧ yX10_tells.cls ≠ "java/lang/invoke/VarHandle" ∧ (parseMethodDescriptor yX10_tells.desc).map (fun d => d.parameters.length) = some 2 := ⟨by decide +kernel, by decide +kernel, by decide +kernel⟩
theorem hd_X10_tests : yX10_tests.cls ≠ "java/lang/invoke/MethodHandle" ∧ yX10_tests.cls ≠ "java/lang/invoke/VarHandle" ∧ (parseMethodDescriptor yX10_tests.desc).map (fun d => d.parameters.length) = some 0 := ⟨by decide +kernel, by decide +kernel, by decide +kernel⟩
theorem hd_X10_textAt : yX10_textAt.cls ≠ "java/lang/invoke/MethodHandle" ∧ yX10_textAt.cls ≠ "java/lang/invoke/VarHandle" ∧ (parseMethodDescriptor yX10_textAt.desc).map (fun d => d.parameters.length) = some 1 := ⟨by decide +kernel, by decide +kernel, by decide +kernel⟩
theorem hd_X10_token : yX10_token.cls ≠ "java/lang/invoke/MethodHandle" ∧ yX10_token.cls ≠ "java/lang/invoke/VarHandle" ∧ (parseMethodDescriptor yX10_token.desc).map (fun d => d.parameters.length) = some 1 := ⟨by decide +kernel, by decide +kernel, by decide +kernel⟩
theorem hd_X10_told : yX10_told.cls ≠ "java/lang/invoke/MethodHandle" ∧ yX10_told.cls ≠ "java/lang/invoke/VarHandle" ∧ (parseMethodDescriptor yX10_told.desc).map (fun d => d.parameters.length) = some 1 := ⟨by decide +kernel, by decide +kernel, by decide +kernel⟩
theorem hd_X10_type : yX10_type.cls ≠ "java/lang/invoke/MethodHandle" ∧ yX10_type.cls ≠ "java/lang/invoke/VarHandle" ∧ (parseMethodDescriptor yX10_type.desc).map (fun d => d.parameters.length) = some 2 := ⟨by decide +kernel, by decide +kernel, by decide +kernel⟩
theorem hd_X10_untangle : yX10_untangle.cls ≠ "java/lang/invoke/MethodHandle" ∧ yX10_untangle.cls ≠ "java/lang/invoke/VarHandle" ∧ (parseMethodDescriptor yX10_untangle.desc).map (fun d => d.parameters.length) = some 0 := ⟨by decide +kernel, by decide +kernel, by decide +kernel⟩
theorem hd_X10_wipe : yX10_wipe.cls ≠ "java/lang/invoke/MethodHandle" ∧ yX10_wipe.cls ≠ "java/lang/invoke/VarHandle" ∧ (parseMethodDescriptor yX10_wipe.desc).map (fun d => d.parameters.length) = some 0 := ⟨by decide +kernel, by decide +kernel, by decide +kernel⟩
theorem hd_X10_wrong : yX10_wrong.cls ≠ "java/lang/invoke/MethodHandle" ∧ yX10_wrong.cls ≠ "java/lang/invoke/VarHandle" ∧ (parseMethodDescriptor yX10_wrong.desc).map (fun d => d.parameters.length) = some 1 := ⟨by decide +kernel, by decide +kernel, by decide +kernel⟩
theorem hd_X0_init : yX0_init.cls ≠ "java/lang/invoke/MethodHandle" ∧ yX0_init.cls ≠ "java/lang/invoke/VarHandle" ∧ (parseMethodDescriptor yX0_init.desc).map (fun d => d.parameters.length) = some 0 := ⟨by decide +kernel, by decide +kernel, by decide +kernel⟩
theorem hd_X0_answer : yX0_answer.cls ≠ "java/lang/invoke/MethodHandle" ∧ yX0_answer.cls ≠ "java/lang/invoke/VarHandle" ∧ (parseMethodDescriptor yX0_answer.desc).map (fun d => d.parameters.length) = some 3 := ⟨by decide +kernel, by decide +kernel, by decide +kernel⟩
theorem hd_X0_canSettle : yX0_canSettle.cls ≠ "java/lang/invoke/MethodHandle" ∧ yX0_canSettle.cls ≠ "java/lang/invoke/VarHandle" ∧ (parseMethodDescriptor yX0_canSettle.desc).map (fun d => d.parameters.length) = some 5 := ⟨by decide +kernel, by decide +kernel, by decide +kernel⟩
theorem hd_X0_countOf : yX0_countOf.cls ≠ "java/lang/invoke/MethodHandle" ∧ yX0_countOf.cls ≠ "java/lang/invoke/VarHandle" ∧ (parseMethodDescriptor yX0_countOf.desc).map (fun d => d.parameters.length) = some 3 := ⟨by decide +kernel, by decide +kernel, by decide +kernel⟩
theorem hd_X0_fewestQuestions : yX0_fewestQuestions.cls ≠ "java/lang/invoke/MethodHandle" ∧ yX0_fewestQuestions.cls ≠ "java/lang/invoke/VarHandle" ∧ (parseMethodDescriptor yX0_fewestQuestions.desc).map (fun d => d.parameters.length) = some 1 := ⟨by decide +kernel, by decide +kernel, by decide +kernel⟩
theorem hd_X0_forget : yX0_forget.cls ≠ "java/lang/invoke/MethodHandle" ∧ yX0_forget.cls ≠ "java/lang/invoke/VarHandle" ∧ (parseMethodDescriptor yX0_forget.desc).map (fun d => d.parameters.length) = some 0 := ⟨by decide +kernel, by decide +kernel, by decide +kernel⟩
theorem hd_X0_isLesser : yX0_isLesser.cls ≠ "java/lang/invoke/MethodHandle" ∧ yX0_isLesser.cls ≠ "java/lang/invoke/VarHandle" ∧ (parseMethodDescriptor yX0_isLesser.desc).map (fun d => d.parameters.length) = some 2 := ⟨by decide +kernel, by decide +kernel, by decide +kernel⟩
theorem hd_X0_rowsLeft : yX0_rowsLeft.cls ≠ "java/lang/invoke/MethodHandle" ∧ yX0_rowsLeft.cls ≠ "java/lang/invoke/VarHandle" ∧ (parseMethodDescriptor yX0_rowsLeft.desc).map (fun d => d.parameters.length) = some 1 := ⟨by decide +kernel, by decide +kernel, by decide +kernel⟩
theorem hd_X1_init : yX1_init.cls ≠ "java/lang/invoke/MethodHandle" ∧ yX1_init.cls ≠ "java/lang/invoke/VarHandle" ∧ (parseMethodDescriptor yX1_init.desc).map (fun d => d.parameters.length) = some 0 := ⟨by decide +kernel, by decide +kernel, by decide +kernel⟩
theorem hd_X1_forget : yX1_forget.cls ≠ "java/lang/invoke/MethodHandle" ∧ yX1_forget.cls ≠ "java/lang/invoke/VarHandle" ∧ (parseMethodDescriptor yX1_forget.desc).map (fun d => d.parameters.length) = some 0 := ⟨by decide +kernel, by decide +kernel, by decide +kernel⟩
theorem hd_X1_letIn : yX1_letIn.cls ≠ "java/lang/invoke/MethodHandle" ∧ yX1_letIn.cls ≠ "java/lang/invoke/VarHandle" ∧ (parseMethodDescriptor yX1_letIn.desc).map (fun d => d.parameters.length) = some 2 := ⟨by decide +kernel, by decide +kernel, by decide +kernel⟩
theorem hd_X1_outIsStep : yX1_outIsStep.cls ≠ "java/lang/invoke/MethodHandle" ∧ yX1_outIsStep.cls ≠ "java/lang/invoke/VarHandle" ∧ (parseMethodDescriptor yX1_outIsStep.desc).map (fun d => d.parameters.length) = some 1 := ⟨by decide +kernel, by decide +kernel, by decide +kernel⟩
theorem hd_X1_reckoned : yX1_reckoned.cls ≠ "java/lang/invoke/MethodHandle" ∧ yX1_reckoned.cls ≠ "java/lang/invoke/VarHandle" ∧ (parseMethodDescriptor yX1_reckoned.desc).map (fun d => d.parameters.length) = some 2 := ⟨by decide +kernel, by decide +kernel, by decide +kernel⟩
theorem hd_X2_init : yX2_init.cls ≠ "java/lang/invoke/MethodHandle" ∧ yX2_init.cls ≠ "java/lang/invoke/VarHandle" ∧ (parseMethodDescriptor yX2_init.desc).map (fun d => d.parameters.length) = some 0 := ⟨by decide +kernel, by decide +kernel, by decide +kernel⟩
theorem hd_X2_countOf : yX2_countOf.cls ≠ "java/lang/invoke/MethodHandle" ∧ yX2_countOf.cls ≠ "java/lang/invoke/VarHandle" ∧ (parseMethodDescriptor yX2_countOf.desc).map (fun d => d.parameters.length) = some 3 := ⟨by decide +kernel, by decide +kernel, by decide +kernel⟩
theorem hd_X2_waysTo : yX2_waysTo.cls ≠ "java/lang/invoke/MethodHandle" ∧ yX2_waysTo.cls ≠ "java/lang/invoke/VarHandle" ∧ (parseMethodDescriptor yX2_waysTo.desc).map (fun d => d.parameters.length) = some 3 := ⟨by decide +kernel, by decide +kernel, by decide +kernel⟩
theorem hd_X3_init : yX3_init.cls ≠ "java/lang/invoke/MethodHandle" ∧ yX3_init.cls ≠ "java/lang/invoke/VarHandle" ∧ (parseMethodDescriptor yX3_init.desc).map (fun d => d.parameters.length) = some 0 := ⟨by decide +kernel, by decide +kernel, by decide +kernel⟩
theorem hd_X3_canTell : yX3_canTell.cls ≠ "java/lang/invoke/MethodHandle" ∧ yX3_canTell.cls ≠ "java/lang/invoke/VarHandle" ∧ (parseMethodDescriptor yX3_canTell.desc).map (fun d => d.parameters.length) = some 5 := ⟨by decide +kernel, by decide +kernel, by decide +kernel⟩
theorem hd_X3_countHidden : yX3_countHidden.cls ≠ "java/lang/invoke/MethodHandle" ∧ yX3_countHidden.cls ≠ "java/lang/invoke/VarHandle" ∧ (parseMethodDescriptor yX3_countHidden.desc).map (fun d => d.parameters.length) = some 3 := ⟨by decide +kernel, by decide +kernel, by decide +kernel⟩
theorem hd_X3_fewestRows : yX3_fewestRows.cls ≠ "java/lang/invoke/MethodHandle" ∧ yX3_fewestRows.cls ≠ "java/lang/invoke/VarHandle" ∧ (parseMethodDescriptor yX3_fewestRows.desc).map (fun d => d.parameters.length) = some 2 := ⟨by decide +kernel, by decide +kernel, by decide +kernel⟩
theorem hd_X3_keep : yX3_keep.cls ≠ "java/lang/invoke/MethodHandle" ∧ yX3_keep.cls ≠ "java/lang/invoke/VarHandle" ∧ (parseMethodDescriptor yX3_keep.desc).map (fun d => d.parameters.length) = some 1 := ⟨by decide +kernel, by decide +kernel, by decide +kernel⟩
theorem hd_X4_init : yX4_init.cls ≠ "java/lang/invoke/MethodHandle" ∧ yX4_init.cls ≠ "java/lang/invoke/VarHandle" ∧ (parseMethodDescriptor yX4_init.desc).map (fun d => d.parameters.length) = some 0 := ⟨by decide +kernel, by decide +kernel, by decide +kernel⟩
theorem hd_X4_allRows : yX4_allRows.cls ≠ "java/lang/invoke/MethodHandle" ∧ yX4_allRows.cls ≠ "java/lang/invoke/VarHandle" ∧ (parseMethodDescriptor yX4_allRows.desc).map (fun d => d.parameters.length) = some 1 := ⟨by decide +kernel, by decide +kernel, by decide +kernel⟩
theorem hd_X4_bringIn : yX4_bringIn.cls ≠ "java/lang/invoke/MethodHandle" ∧ yX4_bringIn.cls ≠ "java/lang/invoke/VarHandle" ∧ (parseMethodDescriptor yX4_bringIn.desc).map (fun d => d.parameters.length) = some 2 := ⟨by decide +kernel, by decide +kernel, by decide +kernel⟩
theorem hd_X4_canFinish : yX4_canFinish.cls ≠ "java/lang/invoke/MethodHandle" ∧ yX4_canFinish.cls ≠ "java/lang/invoke/VarHandle" ∧ (parseMethodDescriptor yX4_canFinish.desc).map (fun d => d.parameters.length) = some 3 := ⟨by decide +kernel, by decide +kernel, by decide +kernel⟩
theorem hd_X4_choosesLowest : yX4_choosesLowest.cls ≠ "java/lang/invoke/MethodHandle" ∧ yX4_choosesLowest.cls ≠ "java/lang/invoke/VarHandle" ∧ (parseMethodDescriptor yX4_choosesLowest.desc).map (fun d => d.parameters.length) = some 2 := ⟨by decide +kernel, by decide +kernel, by decide +kernel⟩
theorem hd_X4_compare : yX4_compare.cls ≠ "java/lang/invoke/MethodHandle" ∧ yX4_compare.cls ≠ "java/lang/invoke/VarHandle" ∧ (parseMethodDescriptor yX4_compare.desc).map (fun d => d.parameters.length) = some 3 := ⟨by decide +kernel, by decide +kernel, by decide +kernel⟩
theorem hd_X4_compareBadly : yX4_compareBadly.cls ≠ "java/lang/invoke/MethodHandle" ∧ yX4_compareBadly.cls ≠ "java/lang/invoke/VarHandle" ∧ (parseMethodDescriptor yX4_compareBadly.desc).map (fun d => d.parameters.length) = some 4 := ⟨by decide +kernel, by decide +kernel, by decide +kernel⟩
theorem hd_X4_deadCount : yX4_deadCount.cls ≠ "java/lang/invoke/MethodHandle" ∧ yX4_deadCount.cls ≠ "java/lang/invoke/VarHandle" ∧ (parseMethodDescriptor yX4_deadCount.desc).map (fun d => d.parameters.length) = some 1 := ⟨by decide +kernel, by decide +kernel, by decide +kernel⟩
theorem hd_X4_distanceIn : yX4_distanceIn.cls ≠ "java/lang/invoke/MethodHandle" ∧ yX4_distanceIn.cls ≠ "java/lang/invoke/VarHandle" ∧ (parseMethodDescriptor yX4_distanceIn.desc).map (fun d => d.parameters.length) = some 2 := ⟨by decide +kernel, by decide +kernel, by decide +kernel⟩
theorem hd_X4_dropDead : yX4_dropDead.cls ≠ "java/lang/invoke/MethodHandle" ∧ yX4_dropDead.cls ≠ "java/lang/invoke/VarHandle" ∧ (parseMethodDescriptor yX4_dropDead.desc).map (fun d => d.parameters.length) = some 1 := ⟨by decide +kernel, by decide +kernel, by decide +kernel⟩
theorem hd_X4_exchanging : yX4_exchanging.cls ≠ "java/lang/invoke/MethodHandle" ∧ yX4_exchanging.cls ≠ "java/lang/invoke/VarHandle" ∧ (parseMethodDescriptor yX4_exchanging.desc).map (fun d => d.parameters.length) = some 2 := ⟨by decide +kernel, by decide +kernel, by decide +kernel⟩
theorem hd_X4_greatestDistance : yX4_greatestDistance.cls ≠ "java/lang/invoke/MethodHandle" ∧ yX4_greatestDistance.cls ≠ "java/lang/invoke/VarHandle" ∧ (parseMethodDescriptor yX4_greatestDistance.desc).map (fun d => d.parameters.length) = some 1 := ⟨by decide +kernel, by decide +kernel, by decide +kernel⟩
theorem hd_X4_mergesAt : yX4_mergesAt.cls ≠ "java/lang/invoke/MethodHandle" ∧ yX4_mergesAt.cls ≠ "java/lang/invoke/VarHandle" ∧ (parseMethodDescriptor yX4_mergesAt.desc).map (fun d => d.parameters.length) = some 2 := ⟨by decide +kernel, by decide +kernel, by decide +kernel⟩
theorem hd_X4_missing : yX4_missing.cls ≠ "java/lang/invoke/MethodHandle" ∧ yX4_missing.cls ≠ "java/lang/invoke/VarHandle" ∧ (parseMethodDescriptor yX4_missing.desc).map (fun d => d.parameters.length) = some 2 := ⟨by decide +kernel, by decide +kernel, by decide +kernel⟩
theorem hd_X4_rowIn : yX4_rowIn.cls ≠ "java/lang/invoke/MethodHandle" ∧ yX4_rowIn.cls ≠ "java/lang/invoke/VarHandle" ∧ (parseMethodDescriptor yX4_rowIn.desc).map (fun d => d.parameters.length) = some 2 := ⟨by decide +kernel, by decide +kernel, by decide +kernel⟩
theorem hd_X4_rowOutOf : yX4_rowOutOf.cls ≠ "java/lang/invoke/MethodHandle" ∧ yX4_rowOutOf.cls ≠ "java/lang/invoke/VarHandle" ∧ (parseMethodDescriptor yX4_rowOutOf.desc).map (fun d => d.parameters.length) = some 2 := ⟨by decide +kernel, by decide +kernel, by decide +kernel⟩
theorem hd_X4_rowsOut : yX4_rowsOut.cls ≠ "java/lang/invoke/MethodHandle" ∧ yX4_rowsOut.cls ≠ "java/lang/invoke/VarHandle" ∧ (parseMethodDescriptor yX4_rowsOut.desc).map (fun d => d.parameters.length) = some 1 := ⟨by decide +kernel, by decide +kernel, by decide +kernel⟩
theorem hd_X4_send : yX4_send.cls ≠ "java/lang/invoke/MethodHandle" ∧ yX4_send.cls ≠ "java/lang/invoke/VarHandle" ∧ (parseMethodDescriptor yX4_send.desc).map (fun d => d.parameters.length) = some 3 := ⟨by decide +kernel, by decide +kernel, by decide +kernel⟩
theorem hd_X4_sendWith : yX4_sendWith.cls ≠ "java/lang/invoke/MethodHandle" ∧ yX4_sendWith.cls ≠ "java/lang/invoke/VarHandle" ∧ (parseMethodDescriptor yX4_sendWith.desc).map (fun d => d.parameters.length) = some 4 := ⟨by decide +kernel, by decide +kernel, by decide +kernel⟩
theorem hd_X4_sortedCount : yX4_sortedCount.cls ≠ "java/lang/invoke/MethodHandle" ∧ yX4_sortedCount.cls ≠ "java/lang/invoke/VarHandle" ∧ (parseMethodDescriptor yX4_sortedCount.desc).map (fun d => d.parameters.length) = some 1 := ⟨by decide +kernel, by decide +kernel, by decide +kernel⟩
theorem hd_X4_telling : yX4_telling.cls ≠ "java/lang/invoke/MethodHandle" ∧ yX4_telling.cls ≠ "java/lang/invoke/VarHandle" ∧ (parseMethodDescriptor yX4_telling.desc).map (fun d => d.parameters.length) = some 3 := ⟨by decide +kernel, by decide +kernel, by decide +kernel⟩
theorem hd_X4_unsortedFrom : yX4_unsortedFrom.cls ≠ "java/lang/invoke/MethodHandle" ∧ yX4_unsortedFrom.cls ≠ "java/lang/invoke/VarHandle" ∧ (parseMethodDescriptor yX4_unsortedFrom.desc).map (fun d => d.parameters.length) = some 1 := ⟨by decide +kernel, by decide +kernel, by decide +kernel⟩
theorem hd_X4_unsortedIn : yX4_unsortedIn.cls ≠ "java/lang/invoke/MethodHandle" ∧ yX4_unsortedIn.cls ≠ "java/lang/invoke/VarHandle" ∧ (parseMethodDescriptor yX4_unsortedIn.desc).map (fun d => d.parameters.length) = some 2 := ⟨by decide +kernel, by decide +kernel, by decide +kernel⟩
theorem hd_X4_unsortedWith : yX4_unsortedWith.cls ≠ "java/lang/invoke/MethodHandle" ∧ yX4_unsortedWith.cls ≠ "java/lang/invoke/VarHandle" ∧ (parseMethodDescriptor yX4_unsortedWith.desc).map (fun d => d.parameters.length) = some 3 := ⟨by decide +kernel, by decide +kernel, by decide +kernel⟩
theorem hd_X5_exchanged : yX5_exchanged.cls ≠ "java/lang/invoke/MethodHandle" ∧ yX5_exchanged.cls ≠ "java/lang/invoke/VarHandle" ∧ (parseMethodDescriptor yX5_exchanged.desc).map (fun d => d.parameters.length) = some 3 := ⟨by decide +kernel, by decide +kernel, by decide +kernel⟩
theorem hd_X5_howMany : yX5_howMany.cls ≠ "java/lang/invoke/MethodHandle" ∧ yX5_howMany.cls ≠ "java/lang/invoke/VarHandle" ∧ (parseMethodDescriptor yX5_howMany.desc).map (fun d => d.parameters.length) = some 1 := ⟨by decide +kernel, by decide +kernel, by decide +kernel⟩
theorem hd_X5_inOrder : yX5_inOrder.cls ≠ "java/lang/invoke/MethodHandle" ∧ yX5_inOrder.cls ≠ "java/lang/invoke/VarHandle" ∧ (parseMethodDescriptor yX5_inOrder.desc).map (fun d => d.parameters.length) = some 1 := ⟨by decide +kernel, by decide +kernel, by decide +kernel⟩
theorem hd_X5_ofCode : yX5_ofCode.cls ≠ "java/lang/invoke/MethodHandle" ∧ yX5_ofCode.cls ≠ "java/lang/invoke/VarHandle" ∧ (parseMethodDescriptor yX5_ofCode.desc).map (fun d => d.parameters.length) = some 2 := ⟨by decide +kernel, by decide +kernel, by decide +kernel⟩
theorem hd_X5_rank : yX5_rank.cls ≠ "java/lang/invoke/MethodHandle" ∧ yX5_rank.cls ≠ "java/lang/invoke/VarHandle" ∧ (parseMethodDescriptor yX5_rank.desc).map (fun d => d.parameters.length) = some 2 := ⟨by decide +kernel, by decide +kernel, by decide +kernel⟩
theorem hd_X5_rearranged : yX5_rearranged.cls ≠ "java/lang/invoke/MethodHandle" ∧ yX5_rearranged.cls ≠ "java/lang/invoke/VarHandle" ∧ (parseMethodDescriptor yX5_rearranged.desc).map (fun d => d.parameters.length) = some 3 := ⟨by decide +kernel, by decide +kernel, by decide +kernel⟩
theorem hd_X5_toCode : yX5_toCode.cls ≠ "java/lang/invoke/MethodHandle" ∧ yX5_toCode.cls ≠ "java/lang/invoke/VarHandle" ∧ (parseMethodDescriptor yX5_toCode.desc).map (fun d => d.parameters.length) = some 2 := ⟨by decide +kernel, by decide +kernel, by decide +kernel⟩
theorem hd_X5_valueOn : yX5_valueOn.cls ≠ "java/lang/invoke/MethodHandle" ∧ yX5_valueOn.cls ≠ "java/lang/invoke/VarHandle" ∧ (parseMethodDescriptor yX5_valueOn.desc).map (fun d => d.parameters.length) = some 2 := ⟨by decide +kernel, by decide +kernel, by decide +kernel⟩
theorem hd_X6_init : yX6_init.cls ≠ "java/lang/invoke/MethodHandle" ∧ yX6_init.cls ≠ "java/lang/invoke/VarHandle" ∧ (parseMethodDescriptor yX6_init.desc).map (fun d => d.parameters.length) = some 0 := ⟨by decide +kernel, by decide +kernel, by decide +kernel⟩
theorem hd_X6_append : yX6_append.cls ≠ "java/lang/invoke/MethodHandle" ∧ yX6_append.cls ≠ "java/lang/invoke/VarHandle" ∧ (parseMethodDescriptor yX6_append.desc).map (fun d => d.parameters.length) = some 1 := ⟨by decide +kernel, by decide +kernel, by decide +kernel⟩
theorem hd_X6_blocksChanged : yX6_blocksChanged.cls ≠ "java/lang/invoke/MethodHandle" ∧ yX6_blocksChanged.cls ≠ "java/lang/invoke/VarHandle" ∧ (parseMethodDescriptor yX6_blocksChanged.desc).map (fun d => d.parameters.length) = some 4 := ⟨by decide +kernel, by decide +kernel, by decide +kernel⟩
theorem hd_X6_codeNearer : yX6_codeNearer.cls ≠ "java/lang/invoke/MethodHandle" ∧ yX6_codeNearer.cls ≠ "java/lang/invoke/VarHandle" ∧ (parseMethodDescriptor yX6_codeNearer.desc).map (fun d => d.parameters.length) = some 3 := ⟨by decide +kernel, by decide +kernel, by decide +kernel⟩
theorem hd_X6_countFar : yX6_countFar.cls ≠ "java/lang/invoke/MethodHandle" ∧ yX6_countFar.cls ≠ "java/lang/invoke/VarHandle" ∧ (parseMethodDescriptor yX6_countFar.desc).map (fun d => d.parameters.length) = some 3 := ⟨by decide +kernel, by decide +kernel, by decide +kernel⟩
theorem hd_X6_farOf : yX6_farOf.cls ≠ "java/lang/invoke/MethodHandle" ∧ yX6_farOf.cls ≠ "java/lang/invoke/VarHandle" ∧ (parseMethodDescriptor yX6_farOf.desc).map (fun d => d.parameters.length) = some 3 := ⟨by decide +kernel, by decide +kernel, by decide +kernel⟩
theorem hd_X6_learn : yX6_learn.cls ≠ "java/lang/invoke/MethodHandle" ∧ yX6_learn.cls ≠ "java/lang/invoke/VarHandle" ∧ (parseMethodDescriptor yX6_learn.desc).map (fun d => d.parameters.length) = some 2 := ⟨by decide +kernel, by decide +kernel, by decide +kernel⟩
theorem hd_X6_listBlocks : yX6_listBlocks.cls ≠ "java/lang/invoke/MethodHandle" ∧ yX6_listBlocks.cls ≠ "java/lang/invoke/VarHandle" ∧ (parseMethodDescriptor yX6_listBlocks.desc).map (fun d => d.parameters.length) = some 1 := ⟨by decide +kernel, by decide +kernel, by decide +kernel⟩
theorem hd_X6_listChanges : yX6_listChanges.cls ≠ "java/lang/invoke/MethodHandle" ∧ yX6_listChanges.cls ≠ "java/lang/invoke/VarHandle" ∧ (parseMethodDescriptor yX6_listChanges.desc).map (fun d => d.parameters.length) = some 2 := ⟨by decide +kernel, by decide +kernel, by decide +kernel⟩
theorem hd_X6_listFlips : yX6_listFlips.cls ≠ "java/lang/invoke/MethodHandle" ∧ yX6_listFlips.cls ≠ "java/lang/invoke/VarHandle" ∧ (parseMethodDescriptor yX6_listFlips.desc).map (fun d => d.parameters.length) = some 1 := ⟨by decide +kernel, by decide +kernel, by decide +kernel⟩
theorem hd_X6_listSteps : yX6_listSteps.cls ≠ "java/lang/invoke/MethodHandle" ∧ yX6_listSteps.cls ≠ "java/lang/invoke/VarHandle" ∧ (parseMethodDescriptor yX6_listSteps.desc).map (fun d => d.parameters.length) = some 2 := ⟨by decide +kernel, by decide +kernel, by decide +kernel⟩
theorem hd_X6_placeOf : yX6_placeOf.cls ≠ "java/lang/invoke/MethodHandle" ∧ yX6_placeOf.cls ≠ "java/lang/invoke/VarHandle" ∧ (parseMethodDescriptor yX6_placeOf.desc).map (fun d => d.parameters.length) = some 3 := ⟨by decide +kernel, by decide +kernel, by decide +kernel⟩
theorem hd_X7_init : yX7_init.cls ≠ "java/lang/invoke/MethodHandle" ∧ yX7_init.cls ≠ "java/lang/invoke/VarHandle" ∧ (parseMethodDescriptor yX7_init.desc).map (fun d => d.parameters.length) = some 0 := ⟨by decide +kernel, by decide +kernel, by decide +kernel⟩
theorem hd_X7_forget : yX7_forget.cls ≠ "java/lang/invoke/MethodHandle" ∧ yX7_forget.cls ≠ "java/lang/invoke/VarHandle" ∧ (parseMethodDescriptor yX7_forget.desc).map (fun d => d.parameters.length) = some 0 := ⟨by decide +kernel, by decide +kernel, by decide +kernel⟩
theorem hd_X7_learn : yX7_learn.cls ≠ "java/lang/invoke/MethodHandle" ∧ yX7_learn.cls ≠ "java/lang/invoke/VarHandle" ∧ (parseMethodDescriptor yX7_learn.desc).map (fun d => d.parameters.length) = some 1 := ⟨by decide +kernel, by decide +kernel, by decide +kernel⟩
theorem hd_X7_lowestFor : yX7_lowestFor.cls ≠ "java/lang/invoke/MethodHandle" ∧ yX7_lowestFor.cls ≠ "java/lang/invoke/VarHandle" ∧ (parseMethodDescriptor yX7_lowestFor.desc).map (fun d => d.parameters.length) = some 2 := ⟨by decide +kernel, by decide +kernel, by decide +kernel⟩
theorem hd_X7_reach : yX7_reach.cls ≠ "java/lang/invoke/MethodHandle" ∧ yX7_reach.cls ≠ "java/lang/invoke/VarHandle" ∧ (parseMethodDescriptor yX7_reach.desc).map (fun d => d.parameters.length) = some 3 := ⟨by decide +kernel, by decide +kernel, by decide +kernel⟩
theorem hd_X7_rowsOut : yX7_rowsOut.cls ≠ "java/lang/invoke/MethodHandle" ∧ yX7_rowsOut.cls ≠ "java/lang/invoke/VarHandle" ∧ (parseMethodDescriptor yX7_rowsOut.desc).map (fun d => d.parameters.length) = some 1 := ⟨by decide +kernel, by decide +kernel, by decide +kernel⟩
theorem hd_X8_init : yX8_init.cls ≠ "java/lang/invoke/MethodHandle" ∧ yX8_init.cls ≠ "java/lang/invoke/VarHandle" ∧ (parseMethodDescriptor yX8_init.desc).map (fun d => d.parameters.length) = some 0 := ⟨by decide +kernel, by decide +kernel, by decide +kernel⟩
theorem hd_X8_empty : yX8_empty.cls ≠ "java/lang/invoke/MethodHandle" ∧ yX8_empty.cls ≠ "java/lang/invoke/VarHandle" ∧ (parseMethodDescriptor yX8_empty.desc).map (fun d => d.parameters.length) = some 0 := ⟨by decide +kernel, by decide +kernel, by decide +kernel⟩
theorem hd_X8_faultFor : yX8_faultFor.cls ≠ "java/lang/invoke/MethodHandle" ∧ yX8_faultFor.cls ≠ "java/lang/invoke/VarHandle" ∧ (parseMethodDescriptor yX8_faultFor.desc).map (fun d => d.parameters.length) = some 1 := ⟨by decide +kernel, by decide +kernel, by decide +kernel⟩
theorem hd_X8_layOn : yX8_layOn.cls ≠ "java/lang/invoke/MethodHandle" ∧ yX8_layOn.cls ≠ "java/lang/invoke/VarHandle" ∧ (parseMethodDescriptor yX8_layOn.desc).map (fun d => d.parameters.length) = some 1 := ⟨by decide +kernel, by decide +kernel, by decide +kernel⟩
theorem hd_X8_put : yX8_put.cls ≠ "java/lang/invoke/MethodHandle" ∧ yX8_put.cls ≠ "java/lang/invoke/VarHandle" ∧ (parseMethodDescriptor yX8_put.desc).map (fun d => d.parameters.length) = some 1 := ⟨by decide +kernel, by decide +kernel, by decide +kernel⟩
theorem hd_X8_signIn : yX8_signIn.cls ≠ "java/lang/invoke/MethodHandle" ∧ yX8_signIn.cls ≠ "java/lang/invoke/VarHandle" ∧ (parseMethodDescriptor yX8_signIn.desc).map (fun d => d.parameters.length) = some 2 := ⟨by decide +kernel, by decide +kernel, by decide +kernel⟩
theorem hd_X8_takes : yX8_takes.cls ≠ "java/lang/invoke/MethodHandle" ∧ yX8_takes.cls ≠ "java/lang/invoke/VarHandle" ∧ (parseMethodDescriptor yX8_takes.desc).map (fun d => d.parameters.length) = some 1 := ⟨by decide +kernel, by decide +kernel, by decide +kernel⟩
theorem hd_X9_init : yX9_init.cls ≠ "java/lang/invoke/MethodHandle" ∧ yX9_init.cls ≠ "java/lang/invoke/VarHandle" ∧ (parseMethodDescriptor yX9_init.desc).map (fun d => d.parameters.length) = some 0 := ⟨by decide +kernel, by decide +kernel, by decide +kernel⟩
theorem hd_X9_append : yX9_append.cls ≠ "java/lang/invoke/MethodHandle" ∧ yX9_append.cls ≠ "java/lang/invoke/VarHandle" ∧ (parseMethodDescriptor yX9_append.desc).map (fun d => d.parameters.length) = some 2 := ⟨by decide +kernel, by decide +kernel, by decide +kernel⟩
theorem hd_X9_begin : yX9_begin.cls ≠ "java/lang/invoke/MethodHandle" ∧ yX9_begin.cls ≠ "java/lang/invoke/VarHandle" ∧ (parseMethodDescriptor yX9_begin.desc).map (fun d => d.parameters.length) = some 1 := ⟨by decide +kernel, by decide +kernel, by decide +kernel⟩
theorem hd_X9_changeNames : yX9_changeNames.cls ≠ "java/lang/invoke/MethodHandle" ∧ yX9_changeNames.cls ≠ "java/lang/invoke/VarHandle" ∧ (parseMethodDescriptor yX9_changeNames.desc).map (fun d => d.parameters.length) = some 3 := ⟨by decide +kernel, by decide +kernel, by decide +kernel⟩
theorem hd_X9_crookedCount : yX9_crookedCount.cls ≠ "java/lang/invoke/MethodHandle" ∧ yX9_crookedCount.cls ≠ "java/lang/invoke/VarHandle" ∧ (parseMethodDescriptor yX9_crookedCount.desc).map (fun d => d.parameters.length) = some 0 := ⟨by decide +kernel, by decide +kernel, by decide +kernel⟩
theorem hd_X9_dropLast : yX9_dropLast.cls ≠ "java/lang/invoke/MethodHandle" ∧ yX9_dropLast.cls ≠ "java/lang/invoke/VarHandle" ∧ (parseMethodDescriptor yX9_dropLast.desc).map (fun d => d.parameters.length) = some 0 := ⟨by decide +kernel, by decide +kernel, by decide +kernel⟩
theorem hd_X9_inTextAt : yX9_inTextAt.cls ≠ "java/lang/invoke/MethodHandle" ∧ yX9_inTextAt.cls ≠ "java/lang/invoke/VarHandle" ∧ (parseMethodDescriptor yX9_inTextAt.desc).map (fun d => d.parameters.length) = some 1 := ⟨by decide +kernel, by decide +kernel, by decide +kernel⟩
theorem hd_X9_isCrooked : yX9_isCrooked.cls ≠ "java/lang/invoke/MethodHandle" ∧ yX9_isCrooked.cls ≠ "java/lang/invoke/VarHandle" ∧ (parseMethodDescriptor yX9_isCrooked.desc).map (fun d => d.parameters.length) = some 1 := ⟨by decide +kernel, by decide +kernel, by decide +kernel⟩
theorem hd_X9_layAcross : yX9_layAcross.cls ≠ "java/lang/invoke/MethodHandle" ∧ yX9_layAcross.cls ≠ "java/lang/invoke/VarHandle" ∧ (parseMethodDescriptor yX9_layAcross.desc).map (fun d => d.parameters.length) = some 3 := ⟨by decide +kernel, by decide +kernel, by decide +kernel⟩
theorem hd_X9_layBrick : yX9_layBrick.cls ≠ "java/lang/invoke/MethodHandle" ∧ yX9_layBrick.cls ≠ "java/lang/invoke/VarHandle" ∧ (parseMethodDescriptor yX9_layBrick.desc).map (fun d => d.parameters.length) = some 0 := ⟨by decide +kernel, by decide +kernel, by decide +kernel⟩
theorem hd_X9_layBubble : yX9_layBubble.cls ≠ "java/lang/invoke/MethodHandle" ∧ yX9_layBubble.cls ≠ "java/lang/invoke/VarHandle" ∧ (parseMethodDescriptor yX9_layBubble.desc).map (fun d => d.parameters.length) = some 0 := ⟨by decide +kernel, by decide +kernel, by decide +kernel⟩
theorem hd_X9_layMerge : yX9_layMerge.cls ≠ "java/lang/invoke/MethodHandle" ∧ yX9_layMerge.cls ≠ "java/lang/invoke/VarHandle" ∧ (parseMethodDescriptor yX9_layMerge.desc).map (fun d => d.parameters.length) = some 0 := ⟨by decide +kernel, by decide +kernel, by decide +kernel⟩
theorem hd_X9_layerCount : yX9_layerCount.cls ≠ "java/lang/invoke/MethodHandle" ∧ yX9_layerCount.cls ≠ "java/lang/invoke/VarHandle" ∧ (parseMethodDescriptor yX9_layerCount.desc).map (fun d => d.parameters.length) = some 0 := ⟨by decide +kernel, by decide +kernel, by decide +kernel⟩
theorem hd_X9_layerOf : yX9_layerOf.cls ≠ "java/lang/invoke/MethodHandle" ∧ yX9_layerOf.cls ≠ "java/lang/invoke/VarHandle" ∧ (parseMethodDescriptor yX9_layerOf.desc).map (fun d => d.parameters.length) = some 1 := ⟨by decide +kernel, by decide +kernel, by decide +kernel⟩
theorem hd_X9_placeKey : yX9_placeKey.cls ≠ "java/lang/invoke/MethodHandle" ∧ yX9_placeKey.cls ≠ "java/lang/invoke/VarHandle" ∧ (parseMethodDescriptor yX9_placeKey.desc).map (fun d => d.parameters.length) = some 1 := ⟨by decide +kernel, by decide +kernel, by decide +kernel⟩
theorem hd_X9_renamed : yX9_renamed.cls ≠ "java/lang/invoke/MethodHandle" ∧ yX9_renamed.cls ≠ "java/lang/invoke/VarHandle" ∧ (parseMethodDescriptor yX9_renamed.desc).map (fun d => d.parameters.length) = some 3 := ⟨by decide +kernel, by decide +kernel, by decide +kernel⟩
theorem hd_X9_sent : yX9_sent.cls ≠ "java/lang/invoke/MethodHandle" ∧ yX9_sent.cls ≠ "java/lang/invoke/VarHandle" ∧ (parseMethodDescriptor yX9_sent.desc).map (fun d => d.parameters.length) = some 1 := ⟨by decide +kernel, by decide +kernel, by decide +kernel⟩
theorem hd_X9_signAt : yX9_signAt.cls ≠ "java/lang/invoke/MethodHandle" ∧ yX9_signAt.cls ≠ "java/lang/invoke/VarHandle" ∧ (parseMethodDescriptor yX9_signAt.desc).map (fun d => d.parameters.length) = some 1 := ⟨by decide +kernel, by decide +kernel, by decide +kernel⟩
theorem hd_X9_straighten : yX9_straighten.cls ≠ "java/lang/invoke/MethodHandle" ∧ yX9_straighten.cls ≠ "java/lang/invoke/VarHandle" ∧ (parseMethodDescriptor yX9_straighten.desc).map (fun d => d.parameters.length) = some 0 := ⟨by decide +kernel, by decide +kernel, by decide +kernel⟩
theorem hd_X9_textLength : yX9_textLength.cls ≠ "java/lang/invoke/MethodHandle" ∧ yX9_textLength.cls ≠ "java/lang/invoke/VarHandle" ∧ (parseMethodDescriptor yX9_textLength.desc).map (fun d => d.parameters.length) = some 0 := ⟨by decide +kernel, by decide +kernel, by decide +kernel⟩
theorem hd_X9_turnUpsideDown : yX9_turnUpsideDown.cls ≠ "java/lang/invoke/MethodHandle" ∧ yX9_turnUpsideDown.cls ≠ "java/lang/invoke/VarHandle" ∧ (parseMethodDescriptor yX9_turnUpsideDown.desc).map (fun d => d.parameters.length) = some 0 := ⟨by decide +kernel, by decide +kernel, by decide +kernel⟩
theorem hd_L_add : yL_add.cls ≠ "java/lang/invoke/MethodHandle" ∧ yL_add.cls ≠ "java/lang/invoke/VarHandle" ∧ (parseMethodDescriptor yL_add.desc).map (fun d => d.parameters.length) = some 4 := ⟨by decide +kernel, by decide +kernel, by decide +kernel⟩
theorem hd_L_ask : yL_ask.cls ≠ "java/lang/invoke/MethodHandle" ∧ yL_ask.cls ≠ "java/lang/invoke/VarHandle" ∧ (parseMethodDescriptor yL_ask.desc).map (fun d => d.parameters.length) = some 4 := ⟨by decide +kernel, by decide +kernel, by decide +kernel⟩
theorem hd_L_bad : yL_bad.cls ≠ "java/lang/invoke/MethodHandle" ∧ yL_bad.cls ≠ "java/lang/invoke/VarHandle" ∧ (parseMethodDescriptor yL_bad.desc).map (fun d => d.parameters.length) = some 4 := ⟨by decide +kernel, by decide +kernel, by decide +kernel⟩
theorem hd_L_build : yL_build.cls ≠ "java/lang/invoke/MethodHandle" ∧ yL_build.cls ≠ "java/lang/invoke/VarHandle" ∧ (parseMethodDescriptor yL_build.desc).map (fun d => d.parameters.length) = some 2 := ⟨by decide +kernel, by decide +kernel, by decide +kernel⟩
theorem hd_L_came : yL_came.cls ≠ "java/lang/invoke/MethodHandle" ∧ yL_came.cls ≠ "java/lang/invoke/VarHandle" ∧ (parseMethodDescriptor yL_came.desc).map (fun d => d.parameters.length) = some 3 := ⟨by decide +kernel, by decide +kernel, by decide +kernel⟩
theorem hd_L_cameAnew : yL_cameAnew.cls ≠ "java/lang/invoke/MethodHandle" ∧ yL_cameAnew.cls ≠ "java/lang/invoke/VarHandle" ∧ (parseMethodDescriptor yL_cameAnew.desc).map (fun d => d.parameters.length) = some 3 := ⟨by decide +kernel, by decide +kernel, by decide +kernel⟩
theorem hd_L_chooses : yL_chooses.cls ≠ "java/lang/invoke/MethodHandle" ∧ yL_chooses.cls ≠ "java/lang/invoke/VarHandle" ∧ (parseMethodDescriptor yL_chooses.desc).map (fun d => d.parameters.length) = some 3 := ⟨by decide +kernel, by decide +kernel, by decide +kernel⟩
theorem hd_L_comparator : yL_comparator.cls ≠ "java/lang/invoke/MethodHandle" ∧ yL_comparator.cls ≠ "java/lang/invoke/VarHandle" ∧ (parseMethodDescriptor yL_comparator.desc).map (fun d => d.parameters.length) = some 4 := ⟨by decide +kernel, by decide +kernel, by decide +kernel⟩
theorem hd_L_far : yL_far.cls ≠ "java/lang/invoke/MethodHandle" ∧ yL_far.cls ≠ "java/lang/invoke/VarHandle" ∧ (parseMethodDescriptor yL_far.desc).map (fun d => d.parameters.length) = some 4 := ⟨by decide +kernel, by decide +kernel, by decide +kernel⟩
theorem hd_L_finishes : yL_finishes.cls ≠ "java/lang/invoke/MethodHandle" ∧ yL_finishes.cls ≠ "java/lang/invoke/VarHandle" ∧ (parseMethodDescriptor yL_finishes.desc).map (fun d => d.parameters.length) = some 3 := ⟨by decide +kernel, by decide +kernel, by decide +kernel⟩
theorem hd_L_make : yL_make.cls ≠ "java/lang/invoke/MethodHandle" ∧ yL_make.cls ≠ "java/lang/invoke/VarHandle" ∧ (parseMethodDescriptor yL_make.desc).map (fun d => d.parameters.length) = some 3 := ⟨by decide +kernel, by decide +kernel, by decide +kernel⟩
theorem hd_L_manyFar : yL_manyFar.cls ≠ "java/lang/invoke/MethodHandle" ∧ yL_manyFar.cls ≠ "java/lang/invoke/VarHandle" ∧ (parseMethodDescriptor yL_manyFar.desc).map (fun d => d.parameters.length) = some 4 := ⟨by decide +kernel, by decide +kernel, by decide +kernel⟩
theorem hd_L_merges : yL_merges.cls ≠ "java/lang/invoke/MethodHandle" ∧ yL_merges.cls ≠ "java/lang/invoke/VarHandle" ∧ (parseMethodDescriptor yL_merges.desc).map (fun d => d.parameters.length) = some 3 := ⟨by decide +kernel, by decide +kernel, by decide +kernel⟩
theorem hd_L_network : yL_network.cls ≠ "java/lang/invoke/MethodHandle" ∧ yL_network.cls ≠ "java/lang/invoke/VarHandle" ∧ (parseMethodDescriptor yL_network.desc).map (fun d => d.parameters.length) = some 3 := ⟨by decide +kernel, by decide +kernel, by decide +kernel⟩
theorem hd_L_run : yL_run.cls ≠ "java/lang/invoke/MethodHandle" ∧ yL_run.cls ≠ "java/lang/invoke/VarHandle" ∧ (parseMethodDescriptor yL_run.desc).map (fun d => d.parameters.length) = some 3 := ⟨by decide +kernel, by decide +kernel, by decide +kernel⟩
theorem hd_L_setting : yL_setting.cls ≠ "java/lang/invoke/MethodHandle" ∧ yL_setting.cls ≠ "java/lang/invoke/VarHandle" ∧ (parseMethodDescriptor yL_setting.desc).map (fun d => d.parameters.length) = some 3 := ⟨by decide +kernel, by decide +kernel, by decide +kernel⟩
theorem hd_L_step : yL_step.cls ≠ "java/lang/invoke/MethodHandle" ∧ yL_step.cls ≠ "java/lang/invoke/VarHandle" ∧ (parseMethodDescriptor yL_step.desc).map (fun d => d.parameters.length) = some 4 := ⟨by decide +kernel, by decide +kernel, by decide +kernel⟩
theorem hd_L_take : yL_take.cls ≠ "java/lang/invoke/MethodHandle" ∧ yL_take.cls ≠ "java/lang/invoke/VarHandle" ∧ (parseMethodDescriptor yL_take.desc).map (fun d => d.parameters.length) = some 2 := ⟨by decide +kernel, by decide +kernel, by decide +kernel⟩
theorem hd_L_tells : yL_tells.cls ≠ "java/lang/invoke/MethodHandle" ∧ yL_tells.cls ≠ "java/lang/invoke/VarHandle" ∧ (parseMethodDescriptor yL_tells.desc).map (fun d => d.parameters.length) = some 4 := ⟨by decide +kernel, by decide +kernel, by decide +kernel⟩
theorem hd_L_textAt : yL_textAt.cls ≠ "java/lang/invoke/MethodHandle" ∧ yL_textAt.cls ≠ "java/lang/invoke/VarHandle" ∧ (parseMethodDescriptor yL_textAt.desc).map (fun d => d.parameters.length) = some 3 := ⟨by decide +kernel, by decide +kernel, by decide +kernel⟩
theorem hd_L_token : yL_token.cls ≠ "java/lang/invoke/MethodHandle" ∧ yL_token.cls ≠ "java/lang/invoke/VarHandle" ∧ (parseMethodDescriptor yL_token.desc).map (fun d => d.parameters.length) = some 3 := ⟨by decide +kernel, by decide +kernel, by decide +kernel⟩
theorem hd_L_told : yL_told.cls ≠ "java/lang/invoke/MethodHandle" ∧ yL_told.cls ≠ "java/lang/invoke/VarHandle" ∧ (parseMethodDescriptor yL_told.desc).map (fun d => d.parameters.length) = some 3 := ⟨by decide +kernel, by decide +kernel, by decide +kernel⟩
theorem hd_L_type : yL_type.cls ≠ "java/lang/invoke/MethodHandle" ∧ yL_type.cls ≠ "java/lang/invoke/VarHandle" ∧ (parseMethodDescriptor yL_type.desc).map (fun d => d.parameters.length) = some 4 := ⟨by decide +kernel, by decide +kernel, by decide +kernel⟩
theorem hd_L_wrong : yL_wrong.cls ≠ "java/lang/invoke/MethodHandle" ∧ yL_wrong.cls ≠ "java/lang/invoke/VarHandle" ∧ (parseMethodDescriptor yL_wrong.desc).map (fun d => d.parameters.length) = some 3 := ⟨by decide +kernel, by decide +kernel, by decide +kernel⟩
theorem hd_X11_init : yX11_init.cls ≠ "java/lang/invoke/MethodHandle" ∧ yX11_init.cls ≠ "java/lang/invoke/VarHandle" ∧ (parseMethodDescriptor yX11_init.desc).map (fun d => d.parameters.length) = some 0 := ⟨by decide +kernel, by decide +kernel, by decide +kernel⟩
theorem hd_X11_add : yX11_add.cls ≠ "java/lang/invoke/MethodHandle" ∧ yX11_add.cls ≠ "java/lang/invoke/VarHandle" ∧ (parseMethodDescriptor yX11_add.desc).map (fun d => d.parameters.length) = some 2 := ⟨by decide +kernel, by decide +kernel, by decide +kernel⟩
theorem hd_X11_ask : yX11_ask.cls ≠ "java/lang/invoke/MethodHandle" ∧ yX11_ask.cls ≠ "java/lang/invoke/VarHandle" ∧ (parseMethodDescriptor yX11_ask.desc).map (fun d => d.parameters.length) = some 2 := ⟨by decide +kernel, by decide +kernel, by decide +kernel⟩
theorem hd_X11_bad : yX11_bad.cls ≠ "java/lang/invoke/MethodHandle" ∧ yX11_bad.cls ≠ "java/lang/invoke/VarHandle" ∧ (parseMethodDescriptor yX11_bad.desc).map (fun d => d.parameters.length) = some 2 := ⟨by decide +kernel, by decide +kernel, by decide +kernel⟩
theorem hd_X11_bears : yX11_bears.cls ≠ "java/lang/invoke/MethodHandle" ∧ yX11_bears.cls ≠ "java/lang/invoke/VarHandle" ∧ (parseMethodDescriptor yX11_bears.desc).map (fun d => d.parameters.length) = some 0 := ⟨by decide +kernel, by decide +kernel, by decide +kernel⟩
theorem hd_X11_begins : yX11_begins.cls ≠ "java/lang/invoke/MethodHandle" ∧ yX11_begins.cls ≠ "java/lang/invoke/VarHandle" ∧ (parseMethodDescriptor yX11_begins.desc).map (fun d => d.parameters.length) = some 1 := ⟨by decide +kernel, by decide +kernel, by decide +kernel⟩
theorem hd_X11_behind : yX11_behind.cls ≠ "java/lang/invoke/MethodHandle" ∧ yX11_behind.cls ≠ "java/lang/invoke/VarHandle" ∧ (parseMethodDescriptor yX11_behind.desc).map (fun d => d.parameters.length) = some 2 := ⟨by decide +kernel, by decide +kernel, by decide +kernel⟩
theorem hd_X11_best : yX11_best.cls ≠ "java/lang/invoke/MethodHandle" ∧ yX11_best.cls ≠ "java/lang/invoke/VarHandle" ∧ (parseMethodDescriptor yX11_best.desc).map (fun d => d.parameters.length) = some 1 := ⟨by decide +kernel, by decide +kernel, by decide +kernel⟩
theorem hd_X11_bits : yX11_bits.cls ≠ "java/lang/invoke/MethodHandle" ∧ yX11_bits.cls ≠ "java/lang/invoke/VarHandle" ∧ (parseMethodDescriptor yX11_bits.desc).map (fun d => d.parameters.length) = some 1 := ⟨by decide +kernel, by decide +kernel, by decide +kernel⟩
theorem hd_X11_build : yX11_build.cls ≠ "java/lang/invoke/MethodHandle" ∧ yX11_build.cls ≠ "java/lang/invoke/VarHandle" ∧ (parseMethodDescriptor yX11_build.desc).map (fun d => d.parameters.length) = some 0 := ⟨by decide +kernel, by decide +kernel, by decide +kernel⟩
theorem hd_X11_came : yX11_came.cls ≠ "java/lang/invoke/MethodHandle" ∧ yX11_came.cls ≠ "java/lang/invoke/VarHandle" ∧ (parseMethodDescriptor yX11_came.desc).map (fun d => d.parameters.length) = some 1 := ⟨by decide +kernel, by decide +kernel, by decide +kernel⟩
theorem hd_X11_cameAnew : yX11_cameAnew.cls ≠ "java/lang/invoke/MethodHandle" ∧ yX11_cameAnew.cls ≠ "java/lang/invoke/VarHandle" ∧ (parseMethodDescriptor yX11_cameAnew.desc).map (fun d => d.parameters.length) = some 1 := ⟨by decide +kernel, by decide +kernel, by decide +kernel⟩
theorem hd_X11_chooses : yX11_chooses.cls ≠ "java/lang/invoke/MethodHandle" ∧ yX11_chooses.cls ≠ "java/lang/invoke/VarHandle" ∧ (parseMethodDescriptor yX11_chooses.desc).map (fun d => d.parameters.length) = some 1 := ⟨by decide +kernel, by decide +kernel, by decide +kernel⟩
theorem hd_X11_chosen : yX11_chosen.cls ≠ "java/lang/invoke/MethodHandle" ∧ yX11_chosen.cls ≠ "java/lang/invoke/VarHandle" ∧ (parseMethodDescriptor yX11_chosen.desc).map (fun d => d.parameters.length) = some 3 := ⟨by decide +kernel, by decide +kernel, by decide +kernel⟩
theorem hd_X11_codeOf : yX11_codeOf.cls ≠ "java/lang/invoke/MethodHandle" ∧ yX11_codeOf.cls ≠ "java/lang/invoke/VarHandle" ∧ (parseMethodDescriptor yX11_codeOf.desc).map (fun d => d.parameters.length) = some 0 := ⟨by decide +kernel, by decide +kernel, by decide +kernel⟩
theorem hd_X11_comes : yX11_comes.cls ≠ "java/lang/invoke/MethodHandle" ∧ yX11_comes.cls ≠ "java/lang/invoke/VarHandle" ∧ (parseMethodDescriptor yX11_comes.desc).map (fun d => d.parameters.length) = some 1 := ⟨by decide +kernel, by decide +kernel, by decide +kernel⟩
theorem hd_X11_comparator : yX11_comparator.cls ≠ "java/lang/invoke/MethodHandle" ∧ yX11_comparator.cls ≠ "java/lang/invoke/VarHandle" ∧ (parseMethodDescriptor yX11_comparator.desc).map (fun d => d.parameters.length) = some 2 := ⟨by decide +kernel, by decide +kernel, by decide +kernel⟩
theorem hd_X11_does : yX11_does.cls ≠ "java/lang/invoke/MethodHandle" ∧ yX11_does.cls ≠ "java/lang/invoke/VarHandle" ∧ (parseMethodDescriptor yX11_does.desc).map (fun d => d.parameters.length) = some 2 := ⟨by decide +kernel, by decide +kernel, by decide +kernel⟩
theorem hd_X11_exchanges : yX11_exchanges.cls ≠ "java/lang/invoke/MethodHandle" ∧ yX11_exchanges.cls ≠ "java/lang/invoke/VarHandle" ∧ (parseMethodDescriptor yX11_exchanges.desc).map (fun d => d.parameters.length) = some 2 := ⟨by decide +kernel, by decide +kernel, by decide +kernel⟩
theorem hd_X11_factorial : yX11_factorial.cls ≠ "java/lang/invoke/MethodHandle" ∧ yX11_factorial.cls ≠ "java/lang/invoke/VarHandle" ∧ (parseMethodDescriptor yX11_factorial.desc).map (fun d => d.parameters.length) = some 1 := ⟨by decide +kernel, by decide +kernel, by decide +kernel⟩
theorem hd_X11_far : yX11_far.cls ≠ "java/lang/invoke/MethodHandle" ∧ yX11_far.cls ≠ "java/lang/invoke/VarHandle" ∧ (parseMethodDescriptor yX11_far.desc).map (fun d => d.parameters.length) = some 2 := ⟨by decide +kernel, by decide +kernel, by decide +kernel⟩
theorem hd_X11_fault : yX11_fault.cls ≠ "java/lang/invoke/MethodHandle" ∧ yX11_fault.cls ≠ "java/lang/invoke/VarHandle" ∧ (parseMethodDescriptor yX11_fault.desc).map (fun d => d.parameters.length) = some 0 := ⟨by decide +kernel, by decide +kernel, by decide +kernel⟩
theorem hd_X11_findFault : yX11_findFault.cls ≠ "java/lang/invoke/MethodHandle" ∧ yX11_findFault.cls ≠ "java/lang/invoke/VarHandle" ∧ (parseMethodDescriptor yX11_findFault.desc).map (fun d => d.parameters.length) = some 0 := ⟨by decide +kernel, by decide +kernel, by decide +kernel⟩
theorem hd_X11_finishes : yX11_finishes.cls ≠ "java/lang/invoke/MethodHandle" ∧ yX11_finishes.cls ≠ "java/lang/invoke/VarHandle" ∧ (parseMethodDescriptor yX11_finishes.desc).map (fun d => d.parameters.length) = some 1 := ⟨by decide +kernel, by decide +kernel, by decide +kernel⟩
theorem hd_X11_flips : yX11_flips.cls ≠ "java/lang/invoke/MethodHandle" ∧ yX11_flips.cls ≠ "java/lang/invoke/VarHandle" ∧ (parseMethodDescriptor yX11_flips.desc).map (fun d => d.parameters.length) = some 2 := ⟨by decide +kernel, by decide +kernel, by decide +kernel⟩
theorem hd_X11_forgets : yX11_forgets.cls ≠ "java/lang/invoke/MethodHandle" ∧ yX11_forgets.cls ≠ "java/lang/invoke/VarHandle" ∧ (parseMethodDescriptor yX11_forgets.desc).map (fun d => d.parameters.length) = some 0 := ⟨by decide +kernel, by decide +kernel, by decide +kernel⟩
theorem hd_X11_goes : yX11_goes.cls ≠ "java/lang/invoke/MethodHandle" ∧ yX11_goes.cls ≠ "java/lang/invoke/VarHandle" ∧ (parseMethodDescriptor yX11_goes.desc).map (fun d => d.parameters.length) = some 0 := ⟨by decide +kernel, by decide +kernel, by decide +kernel⟩
theorem hd_X11_hidden : yX11_hidden.cls ≠ "java/lang/invoke/MethodHandle" ∧ yX11_hidden.cls ≠ "java/lang/invoke/VarHandle" ∧ (parseMethodDescriptor yX11_hidden.desc).map (fun d => d.parameters.length) = some 1 := ⟨by decide +kernel, by decide +kernel, by decide +kernel⟩
theorem hd_X11_in : yX11_in.cls ≠ "java/lang/invoke/MethodHandle" ∧ yX11_in.cls ≠ "java/lang/invoke/VarHandle" ∧ (parseMethodDescriptor yX11_in.desc).map (fun d => d.parameters.length) = some 3 := ⟨by decide +kernel, by decide +kernel, by decide +kernel⟩
theorem hd_X11_isCharacter : yX11_isCharacter.cls ≠ "java/lang/invoke/MethodHandle" ∧ yX11_isCharacter.cls ≠ "java/lang/invoke/VarHandle" ∧ (parseMethodDescriptor yX11_isCharacter.desc).map (fun d => d.parameters.length) = some 1 := ⟨by decide +kernel, by decide +kernel, by decide +kernel⟩
theorem hd_X11_isComparator : yX11_isComparator.cls ≠ "java/lang/invoke/MethodHandle" ∧ yX11_isComparator.cls ≠ "java/lang/invoke/VarHandle" ∧ (parseMethodDescriptor yX11_isComparator.desc).map (fun d => d.parameters.length) = some 1 := ⟨by decide +kernel, by decide +kernel, by decide +kernel⟩
theorem hd_X11_isDone : yX11_isDone.cls ≠ "java/lang/invoke/MethodHandle" ∧ yX11_isDone.cls ≠ "java/lang/invoke/VarHandle" ∧ (parseMethodDescriptor yX11_isDone.desc).map (fun d => d.parameters.length) = some 4 := ⟨by decide +kernel, by decide +kernel, by decide +kernel⟩
theorem hd_X11_isLess : yX11_isLess.cls ≠ "java/lang/invoke/MethodHandle" ∧ yX11_isLess.cls ≠ "java/lang/invoke/VarHandle" ∧ (parseMethodDescriptor yX11_isLess.desc).map (fun d => d.parameters.length) = some 3 := ⟨by decide +kernel, by decide +kernel, by decide +kernel⟩
theorem hd_X11_isSorted : yX11_isSorted.cls ≠ "java/lang/invoke/MethodHandle" ∧ yX11_isSorted.cls ≠ "java/lang/invoke/VarHandle" ∧ (parseMethodDescriptor yX11_isSorted.desc).map (fun d => d.parameters.length) = some 3 := ⟨by decide +kernel, by decide +kernel, by decide +kernel⟩
theorem hd_X11_isStep : yX11_isStep.cls ≠ "java/lang/invoke/MethodHandle" ∧ yX11_isStep.cls ≠ "java/lang/invoke/VarHandle" ∧ (parseMethodDescriptor yX11_isStep.desc).map (fun d => d.parameters.length) = some 0 := ⟨by decide +kernel, by decide +kernel, by decide +kernel⟩
theorem hd_X11_isWire : yX11_isWire.cls ≠ "java/lang/invoke/MethodHandle" ∧ yX11_isWire.cls ≠ "java/lang/invoke/VarHandle" ∧ (parseMethodDescriptor yX11_isWire.desc).map (fun d => d.parameters.length) = some 1 := ⟨by decide +kernel, by decide +kernel, by decide +kernel⟩
theorem hd_X11_kinds : yX11_kinds.cls ≠ "java/lang/invoke/MethodHandle" ∧ yX11_kinds.cls ≠ "java/lang/invoke/VarHandle" ∧ (parseMethodDescriptor yX11_kinds.desc).map (fun d => d.parameters.length) = some 1 := ⟨by decide +kernel, by decide +kernel, by decide +kernel⟩
theorem hd_X11_lays : yX11_lays.cls ≠ "java/lang/invoke/MethodHandle" ∧ yX11_lays.cls ≠ "java/lang/invoke/VarHandle" ∧ (parseMethodDescriptor yX11_lays.desc).map (fun d => d.parameters.length) = some 1 := ⟨by decide +kernel, by decide +kernel, by decide +kernel⟩
theorem hd_X11_laysLayers : yX11_laysLayers.cls ≠ "java/lang/invoke/MethodHandle" ∧ yX11_laysLayers.cls ≠ "java/lang/invoke/VarHandle" ∧ (parseMethodDescriptor yX11_laysLayers.desc).map (fun d => d.parameters.length) = some 0 := ⟨by decide +kernel, by decide +kernel, by decide +kernel⟩
theorem hd_X11_left : yX11_left.cls ≠ "java/lang/invoke/MethodHandle" ∧ yX11_left.cls ≠ "java/lang/invoke/VarHandle" ∧ (parseMethodDescriptor yX11_left.desc).map (fun d => d.parameters.length) = some 0 := ⟨by decide +kernel, by decide +kernel, by decide +kernel⟩
theorem hd_X11_lessIn : yX11_lessIn.cls ≠ "java/lang/invoke/MethodHandle" ∧ yX11_lessIn.cls ≠ "java/lang/invoke/VarHandle" ∧ (parseMethodDescriptor yX11_lessIn.desc).map (fun d => d.parameters.length) = some 3 := ⟨by decide +kernel, by decide +kernel, by decide +kernel⟩
theorem hd_X11_lesser : yX11_lesser.cls ≠ "java/lang/invoke/MethodHandle" ∧ yX11_lesser.cls ≠ "java/lang/invoke/VarHandle" ∧ (parseMethodDescriptor yX11_lesser.desc).map (fun d => d.parameters.length) = some 2 := ⟨by decide +kernel, by decide +kernel, by decide +kernel⟩
theorem hd_X11_make : yX11_make.cls ≠ "java/lang/invoke/MethodHandle" ∧ yX11_make.cls ≠ "java/lang/invoke/VarHandle" ∧ (parseMethodDescriptor yX11_make.desc).map (fun d => d.parameters.length) = some 1 := ⟨by decide +kernel, by decide +kernel, by decide +kernel⟩
theorem hd_X11_makes : yX11_makes.cls ≠ "java/lang/invoke/MethodHandle" ∧ yX11_makes.cls ≠ "java/lang/invoke/VarHandle" ∧ (parseMethodDescriptor yX11_makes.desc).map (fun d => d.parameters.length) = some 3 := ⟨by decide +kernel, by decide +kernel, by decide +kernel⟩
theorem hd_X11_makesAll : yX11_makesAll.cls ≠ "java/lang/invoke/MethodHandle" ∧ yX11_makesAll.cls ≠ "java/lang/invoke/VarHandle" ∧ (parseMethodDescriptor yX11_makesAll.desc).map (fun d => d.parameters.length) = some 2 := ⟨by decide +kernel, by decide +kernel, by decide +kernel⟩
theorem hd_X11_manyFar : yX11_manyFar.cls ≠ "java/lang/invoke/MethodHandle" ∧ yX11_manyFar.cls ≠ "java/lang/invoke/VarHandle" ∧ (parseMethodDescriptor yX11_manyFar.desc).map (fun d => d.parameters.length) = some 2 := ⟨by decide +kernel, by decide +kernel, by decide +kernel⟩
theorem hd_X11_merges : yX11_merges.cls ≠ "java/lang/invoke/MethodHandle" ∧ yX11_merges.cls ≠ "java/lang/invoke/VarHandle" ∧ (parseMethodDescriptor yX11_merges.desc).map (fun d => d.parameters.length) = some 1 := ⟨by decide +kernel, by decide +kernel, by decide +kernel⟩
theorem hd_X11_mirror : yX11_mirror.cls ≠ "java/lang/invoke/MethodHandle" ∧ yX11_mirror.cls ≠ "java/lang/invoke/VarHandle" ∧ (parseMethodDescriptor yX11_mirror.desc).map (fun d => d.parameters.length) = some 0 := ⟨by decide +kernel, by decide +kernel, by decide +kernel⟩
theorem hd_X11_misses : yX11_misses.cls ≠ "java/lang/invoke/MethodHandle" ∧ yX11_misses.cls ≠ "java/lang/invoke/VarHandle" ∧ (parseMethodDescriptor yX11_misses.desc).map (fun d => d.parameters.length) = some 2 := ⟨by decide +kernel, by decide +kernel, by decide +kernel⟩
theorem hd_X11_needed : yX11_needed.cls ≠ "java/lang/invoke/MethodHandle" ∧ yX11_needed.cls ≠ "java/lang/invoke/VarHandle" ∧ (parseMethodDescriptor yX11_needed.desc).map (fun d => d.parameters.length) = some 0 := ⟨by decide +kernel, by decide +kernel, by decide +kernel⟩
theorem hd_X11_network : yX11_network.cls ≠ "java/lang/invoke/MethodHandle" ∧ yX11_network.cls ≠ "java/lang/invoke/VarHandle" ∧ (parseMethodDescriptor yX11_network.desc).map (fun d => d.parameters.length) = some 1 := ⟨by decide +kernel, by decide +kernel, by decide +kernel⟩
theorem hd_X11_numberOf : yX11_numberOf.cls ≠ "java/lang/invoke/MethodHandle" ∧ yX11_numberOf.cls ≠ "java/lang/invoke/VarHandle" ∧ (parseMethodDescriptor yX11_numberOf.desc).map (fun d => d.parameters.length) = some 0 := ⟨by decide +kernel, by decide +kernel, by decide +kernel⟩
theorem hd_X11_off : yX11_off.cls ≠ "java/lang/invoke/MethodHandle" ∧ yX11_off.cls ≠ "java/lang/invoke/VarHandle" ∧ (parseMethodDescriptor yX11_off.desc).map (fun d => d.parameters.length) = some 0 := ⟨by decide +kernel, by decide +kernel, by decide +kernel⟩
theorem hd_X11_often : yX11_often.cls ≠ "java/lang/invoke/MethodHandle" ∧ yX11_often.cls ≠ "java/lang/invoke/VarHandle" ∧ (parseMethodDescriptor yX11_often.desc).map (fun d => d.parameters.length) = some 1 := ⟨by decide +kernel, by decide +kernel, by decide +kernel⟩
theorem hd_X11_out : yX11_out.cls ≠ "java/lang/invoke/MethodHandle" ∧ yX11_out.cls ≠ "java/lang/invoke/VarHandle" ∧ (parseMethodDescriptor yX11_out.desc).map (fun d => d.parameters.length) = some 1 := ⟨by decide +kernel, by decide +kernel, by decide +kernel⟩
theorem hd_X11_outputs : yX11_outputs.cls ≠ "java/lang/invoke/MethodHandle" ∧ yX11_outputs.cls ≠ "java/lang/invoke/VarHandle" ∧ (parseMethodDescriptor yX11_outputs.desc).map (fun d => d.parameters.length) = some 0 := ⟨by decide +kernel, by decide +kernel, by decide +kernel⟩
theorem hd_X11_placeOf : yX11_placeOf.cls ≠ "java/lang/invoke/MethodHandle" ∧ yX11_placeOf.cls ≠ "java/lang/invoke/VarHandle" ∧ (parseMethodDescriptor yX11_placeOf.desc).map (fun d => d.parameters.length) = some 1 := ⟨by decide +kernel, by decide +kernel, by decide +kernel⟩
theorem hd_X11_prune : yX11_prune.cls ≠ "java/lang/invoke/MethodHandle" ∧ yX11_prune.cls ≠ "java/lang/invoke/VarHandle" ∧ (parseMethodDescriptor yX11_prune.desc).map (fun d => d.parameters.length) = some 0 := ⟨by decide +kernel, by decide +kernel, by decide +kernel⟩
theorem hd_X11_puts : yX11_puts.cls ≠ "java/lang/invoke/MethodHandle" ∧ yX11_puts.cls ≠ "java/lang/invoke/VarHandle" ∧ (parseMethodDescriptor yX11_puts.desc).map (fun d => d.parameters.length) = some 2 := ⟨by decide +kernel, by decide +kernel, by decide +kernel⟩
theorem hd_X11_reaches : yX11_reaches.cls ≠ "java/lang/invoke/MethodHandle" ∧ yX11_reaches.cls ≠ "java/lang/invoke/VarHandle" ∧ (parseMethodDescriptor yX11_reaches.desc).map (fun d => d.parameters.length) = some 0 := ⟨by decide +kernel, by decide +kernel, by decide +kernel⟩
theorem hd_X11_renamed : yX11_renamed.cls ≠ "java/lang/invoke/MethodHandle" ∧ yX11_renamed.cls ≠ "java/lang/invoke/VarHandle" ∧ (parseMethodDescriptor yX11_renamed.desc).map (fun d => d.parameters.length) = some 3 := ⟨by decide +kernel, by decide +kernel, by decide +kernel⟩
theorem hd_X11_routes : yX11_routes.cls ≠ "java/lang/invoke/MethodHandle" ∧ yX11_routes.cls ≠ "java/lang/invoke/VarHandle" ∧ (parseMethodDescriptor yX11_routes.desc).map (fun d => d.parameters.length) = some 0 := ⟨by decide +kernel, by decide +kernel, by decide +kernel⟩
theorem hd_X11_rowOf : yX11_rowOf.cls ≠ "java/lang/invoke/MethodHandle" ∧ yX11_rowOf.cls ≠ "java/lang/invoke/VarHandle" ∧ (parseMethodDescriptor yX11_rowOf.desc).map (fun d => d.parameters.length) = some 1 := ⟨by decide +kernel, by decide +kernel, by decide +kernel⟩
theorem hd_X11_run : yX11_run.cls ≠ "java/lang/invoke/MethodHandle" ∧ yX11_run.cls ≠ "java/lang/invoke/VarHandle" ∧ (parseMethodDescriptor yX11_run.desc).map (fun d => d.parameters.length) = some 1 := ⟨by decide +kernel, by decide +kernel, by decide +kernel⟩
theorem hd_X11_setting : yX11_setting.cls ≠ "java/lang/invoke/MethodHandle" ∧ yX11_setting.cls ≠ "java/lang/invoke/VarHandle" ∧ (parseMethodDescriptor yX11_setting.desc).map (fun d => d.parameters.length) = some 1 := ⟨by decide +kernel, by decide +kernel, by decide +kernel⟩
theorem hd_X11_sorted : yX11_sorted.cls ≠ "java/lang/invoke/MethodHandle" ∧ yX11_sorted.cls ≠ "java/lang/invoke/VarHandle" ∧ (parseMethodDescriptor yX11_sorted.desc).map (fun d => d.parameters.length) = some 0 := ⟨by decide +kernel, by decide +kernel, by decide +kernel⟩
theorem hd_X11_sorts : yX11_sorts.cls ≠ "java/lang/invoke/MethodHandle" ∧ yX11_sorts.cls ≠ "java/lang/invoke/VarHandle" ∧ (parseMethodDescriptor yX11_sorts.desc).map (fun d => d.parameters.length) = some 0 := ⟨by decide +kernel, by decide +kernel, by decide +kernel⟩
theorem hd_X11_spreads : yX11_spreads.cls ≠ "java/lang/invoke/MethodHandle" ∧ yX11_spreads.cls ≠ "java/lang/invoke/VarHandle" ∧ (parseMethodDescriptor yX11_spreads.desc).map (fun d => d.parameters.length) = some 1 := ⟨by decide +kernel, by decide +kernel, by decide +kernel⟩
theorem hd_X11_step : yX11_step.cls ≠ "java/lang/invoke/MethodHandle" ∧ yX11_step.cls ≠ "java/lang/invoke/VarHandle" ∧ (parseMethodDescriptor yX11_step.desc).map (fun d => d.parameters.length) = some 2 := ⟨by decide +kernel, by decide +kernel, by decide +kernel⟩
theorem hd_X11_take : yX11_take.cls ≠ "java/lang/invoke/MethodHandle" ∧ yX11_take.cls ≠ "java/lang/invoke/VarHandle" ∧ (parseMethodDescriptor yX11_take.desc).map (fun d => d.parameters.length) = some 0 := ⟨by decide +kernel, by decide +kernel, by decide +kernel⟩
theorem hd_X11_tellers : yX11_tellers.cls ≠ "java/lang/invoke/MethodHandle" ∧ yX11_tellers.cls ≠ "java/lang/invoke/VarHandle" ∧ (parseMethodDescriptor yX11_tellers.desc).map (fun d => d.parameters.length) = some 2 := ⟨by decide +kernel, by decide +kernel, by decide +kernel⟩
theorem hd_X11_tells : yX11_tells.cls ≠ "java/lang/invoke/MethodHandle" ∧ yX11_tells.cls ≠ "java/lang/invoke/VarHandle" ∧ (parseMethodDescriptor yX11_tells.desc).map (fun d => d.parameters.length) = some 2 := ⟨by decide +kernel, by decide +kernel, by decide +kernel⟩
theorem hd_X11_tests : yX11_tests.cls ≠ "java/lang/invoke/MethodHandle" ∧ yX11_tests.cls ≠ "java/lang/invoke/VarHandle" ∧ (parseMethodDescriptor yX11_tests.desc).map (fun d => d.parameters.length) = some 0 := ⟨by decide +kernel, by decide +kernel, by decide +kernel⟩
theorem hd_X11_textAt : yX11_textAt.cls ≠ "java/lang/invoke/MethodHandle" ∧ yX11_textAt.cls ≠ "java/lang/invoke/VarHandle" ∧ (parseMethodDescriptor yX11_textAt.desc).map (fun d => d.parameters.length) = some 1 := ⟨by decide +kernel, by decide +kernel, by decide +kernel⟩
theorem hd_X11_through : yX11_through.cls ≠ "java/lang/invoke/MethodHandle" ∧ yX11_through.cls ≠ "java/lang/invoke/VarHandle" ∧ (parseMethodDescriptor yX11_through.desc).map (fun d => d.parameters.length) = some 4 := ⟨by decide +kernel, by decide +kernel, by decide +kernel⟩
theorem hd_X11_thrown : yX11_thrown.cls ≠ "java/lang/invoke/MethodHandle" ∧ yX11_thrown.cls ≠ "java/lang/invoke/VarHandle" ∧ (parseMethodDescriptor yX11_thrown.desc).map (fun d => d.parameters.length) = some 0 := ⟨by decide +kernel, by decide +kernel, by decide +kernel⟩
theorem hd_X11_token : yX11_token.cls ≠ "java/lang/invoke/MethodHandle" ∧ yX11_token.cls ≠ "java/lang/invoke/VarHandle" ∧ (parseMethodDescriptor yX11_token.desc).map (fun d => d.parameters.length) = some 1 := ⟨by decide +kernel, by decide +kernel, by decide +kernel⟩
theorem hd_X11_told : yX11_told.cls ≠ "java/lang/invoke/MethodHandle" ∧ yX11_told.cls ≠ "java/lang/invoke/VarHandle" ∧ (parseMethodDescriptor yX11_told.desc).map (fun d => d.parameters.length) = some 1 := ⟨by decide +kernel, by decide +kernel, by decide +kernel⟩
theorem hd_X11_type : yX11_type.cls ≠ "java/lang/invoke/MethodHandle" ∧ yX11_type.cls ≠ "java/lang/invoke/VarHandle" ∧ (parseMethodDescriptor yX11_type.desc).map (fun d => d.parameters.length) = some 2 := ⟨by decide +kernel, by decide +kernel, by decide +kernel⟩
theorem hd_X11_unsorted : yX11_unsorted.cls ≠ "java/lang/invoke/MethodHandle" ∧ yX11_unsorted.cls ≠ "java/lang/invoke/VarHandle" ∧ (parseMethodDescriptor yX11_unsorted.desc).map (fun d => d.parameters.length) = some 2 := ⟨by decide +kernel, by decide +kernel, by decide +kernel⟩
theorem hd_X11_untangle : yX11_untangle.cls ≠ "java/lang/invoke/MethodHandle" ∧ yX11_untangle.cls ≠ "java/lang/invoke/VarHandle" ∧ (parseMethodDescriptor yX11_untangle.desc).map (fun d => d.parameters.length) = some 0 := ⟨by decide +kernel, by decide +kernel, by decide +kernel⟩
theorem hd_X11_wipe : yX11_wipe.cls ≠ "java/lang/invoke/MethodHandle" ∧ yX11_wipe.cls ≠ "java/lang/invoke/VarHandle" ∧ (parseMethodDescriptor yX11_wipe.desc).map (fun d => d.parameters.length) = some 0 := ⟨by decide +kernel, by decide +kernel, by decide +kernel⟩
theorem hd_X11_writes : yX11_writes.cls ≠ "java/lang/invoke/MethodHandle" ∧ yX11_writes.cls ≠ "java/lang/invoke/VarHandle" ∧ (parseMethodDescriptor yX11_writes.desc).map (fun d => d.parameters.length) = some 0 := ⟨by decide +kernel, by decide +kernel, by decide +kernel⟩
theorem hd_X11_wrong : yX11_wrong.cls ≠ "java/lang/invoke/MethodHandle" ∧ yX11_wrong.cls ≠ "java/lang/invoke/VarHandle" ∧ (parseMethodDescriptor yX11_wrong.desc).map (fun d => d.parameters.length) = some 1 := ⟨by decide +kernel, by decide +kernel, by decide +kernel⟩
theorem hd_J6_bitCount_0f7a4 : yJ6_bitCount_0f7a4.cls ≠ "java/lang/invoke/MethodHandle" ∧ yJ6_bitCount_0f7a4.cls ≠ "java/lang/invoke/VarHandle" ∧ (parseMethodDescriptor yJ6_bitCount_0f7a4.desc).map (fun d => d.parameters.length) = some 1 := ⟨by decide +kernel, by decide +kernel, by decide +kernel⟩
theorem hd_J13_bitCount_95d88 : yJ13_bitCount_95d88.cls ≠ "java/lang/invoke/MethodHandle" ∧ yJ13_bitCount_95d88.cls ≠ "java/lang/invoke/VarHandle" ∧ (parseMethodDescriptor yJ13_bitCount_95d88.desc).map (fun d => d.parameters.length) = some 1 := ⟨by decide +kernel, by decide +kernel, by decide +kernel⟩
theorem thc_RX10_68 : THC RX10 "java/lang/IllegalArgumentException" 68 72 := ⟨by decide +kernel, kw_558, kw_74, tst_in (by decide +kernel)⟩
theorem thc_RX10_99 : THC RX10 "java/lang/IllegalStateException" 99 103 := ⟨by decide +kernel, kw_671, kw_76, tst_in (by decide +kernel)⟩
theorem thc_RX10_247 : THC RX10 "java/lang/IndexOutOfBoundsException" 247 251 := ⟨by decide +kernel, kw_650, kw_75, tst_in (by decide +kernel)⟩
theorem gf_C_RX10_10_0 (ad : Nat → Nat) (cy : Nat → ClassId) {l : Launch} {D : va_G} {X : Cx} {cc : ByteArray} {nL : Nat} {R : Room} {k n : Nat} {h : Hp} {pc pc' : Nat} {lv : List (Nat × Value)} {st : List Value} (O : Ok l D cy X cc RX10 nL R) (d : Dc cc pc (.getfield 10) 3 pc') (kk : G l D X nL (WC ad cy) k n h pc' lv (.ref (ad 1) :: st)) : G l D X nL (WC ad cy) k n h pc lv (.ref (ad 0) :: st) := g_get O d inU_RX10 rfl (wC_0 ad cy h) (j := 0) (by decide) rfl rfl kw_262 kk
theorem gf_C_RX10_16_0 (ad : Nat → Nat) (cy : Nat → ClassId) {l : Launch} {D : va_G} {X : Cx} {cc : ByteArray} {nL : Nat} {R : Room} {k n : Nat} {h : Hp} {pc pc' : Nat} {lv : List (Nat × Value)} {st : List Value} (O : Ok l D cy X cc RX10 nL R) (d : Dc cc pc (.getfield 16) 3 pc') (kk : G l D X nL (WC ad cy) k n h pc' lv (.ref (ad 6) :: st)) : G l D X nL (WC ad cy) k n h pc lv (.ref (ad 0) :: st) := g_get O d inU_RX10 rfl (wC_0 ad cy h) (j := 1) (by decide) rfl rfl kw_263 kk
theorem gf_C_RX10_22_0 (ad : Nat → Nat) (cy : Nat → ClassId) {l : Launch} {D : va_G} {X : Cx} {cc : ByteArray} {nL : Nat} {R : Room} {k n : Nat} {h : Hp} {pc pc' : Nat} {lv : List (Nat × Value)} {st : List Value} (O : Ok l D cy X cc RX10 nL R) (d : Dc cc pc (.getfield 22) 3 pc') (kk : G l D X nL (WC ad cy) k n h pc' lv (.ref (ad 11) :: st)) : G l D X nL (WC ad cy) k n h pc lv (.ref (ad 0) :: st) := g_get O d inU_RX10 rfl (wC_0 ad cy h) (j := 2) (by decide) rfl rfl kw_264 kk
theorem gf_C_RX10_29_0 (ad : Nat → Nat) (cy : Nat → ClassId) {l : Launch} {D : va_G} {X : Cx} {cc : ByteArray} {nL : Nat} {R : Room} {k n : Nat} {h : Hp} {pc pc' : Nat} {lv : List (Nat × Value)} {st : List Value} (O : Ok l D cy X cc RX10 nL R) (d : Dc cc pc (.getfield 29) 3 pc') (kk : G l D X nL (WC ad cy) k n h pc' lv (.ref (ad 13) :: st)) : G l D X nL (WC ad cy) k n h pc lv (.ref (ad 0) :: st) := g_get O d inU_RX10 rfl (wC_0 ad cy h) (j := 3) (by decide) rfl rfl kw_265 kk
theorem gf_C_RX10_36_0 (ad : Nat → Nat) (cy : Nat → ClassId) {l : Launch} {D : va_G} {X : Cx} {cc : ByteArray} {nL : Nat} {R : Room} {k n : Nat} {h : Hp} {pc pc' : Nat} {lv : List (Nat × Value)} {st : List Value} (O : Ok l D cy X cc RX10 nL R) (d : Dc cc pc (.getfield 36) 3 pc') (kk : G l D X nL (WC ad cy) k n h pc' lv (.ref (ad 18) :: st)) : G l D X nL (WC ad cy) k n h pc lv (.ref (ad 0) :: st) := g_get O d inU_RX10 rfl (wC_0 ad cy h) (j := 4) (by decide) rfl rfl kw_266 kk
theorem gf_C_RX10_43_0 (ad : Nat → Nat) (cy : Nat → ClassId) {l : Launch} {D : va_G} {X : Cx} {cc : ByteArray} {nL : Nat} {R : Room} {k n : Nat} {h : Hp} {pc pc' : Nat} {lv : List (Nat × Value)} {st : List Value} (O : Ok l D cy X cc RX10 nL R) (d : Dc cc pc (.getfield 43) 3 pc') (kk : G l D X nL (WC ad cy) k n h pc' lv (.ref (ad 20) :: st)) : G l D X nL (WC ad cy) k n h pc lv (.ref (ad 0) :: st) := g_get O d inU_RX10 rfl (wC_0 ad cy h) (j := 5) (by decide) rfl rfl kw_267 kk
theorem gf_C_RX10_50_0 (ad : Nat → Nat) (cy : Nat → ClassId) {l : Launch} {D : va_G} {X : Cx} {cc : ByteArray} {nL : Nat} {R : Room} {k n : Nat} {h : Hp} {pc pc' : Nat} {lv : List (Nat × Value)} {st : List Value} (O : Ok l D cy X cc RX10 nL R) (d : Dc cc pc (.getfield 50) 3 pc') (kk : G l D X nL (WC ad cy) k n h pc' lv (.ref (ad 23) :: st)) : G l D X nL (WC ad cy) k n h pc lv (.ref (ad 0) :: st) := g_get O d inU_RX10 rfl (wC_0 ad cy h) (j := 6) (by decide) rfl rfl kw_268 kk
theorem gf_C_RX10_57_0 (ad : Nat → Nat) (cy : Nat → ClassId) {l : Launch} {D : va_G} {X : Cx} {cc : ByteArray} {nL : Nat} {R : Room} {k n : Nat} {h : Hp} {pc pc' : Nat} {lv : List (Nat × Value)} {st : List Value} (O : Ok l D cy X cc RX10 nL R) (d : Dc cc pc (.getfield 57) 3 pc') (kk : G l D X nL (WC ad cy) k n h pc' lv (.ref (ad 28) :: st)) : G l D X nL (WC ad cy) k n h pc lv (.ref (ad 0) :: st) := g_get O d inU_RX10 rfl (wC_0 ad cy h) (j := 7) (by decide) rfl rfl kw_269 kk
theorem gf_C_RX10_64_0 (ad : Nat → Nat) (cy : Nat → ClassId) {l : Launch} {D : va_G} {X : Cx} {cc : ByteArray} {nL : Nat} {R : Room} {k n : Nat} {h : Hp} {pc pc' : Nat} {lv : List (Nat × Value)} {st : List Value} (O : Ok l D cy X cc RX10 nL R) (d : Dc cc pc (.getfield 64) 3 pc') (kk : G l D X nL (WC ad cy) k n h pc' lv (.ref (ad 32) :: st)) : G l D X nL (WC ad cy) k n h pc lv (.ref (ad 0) :: st) := g_get O d inU_RX10 rfl (wC_0 ad cy h) (j := 8) (by decide) rfl rfl kw_270 kk
theorem gf_C_RX10_75_1 (ad : Nat → Nat) (cy : Nat → ClassId) {l : Launch} {D : va_G} {X : Cx} {cc : ByteArray} {nL : Nat} {R : Room} {k n : Nat} {h : Hp} {pc pc' : Nat} {lv : List (Nat × Value)} {st : List Value} (O : Ok l D cy X cc RX10 nL R) (d : Dc cc pc (.getfield 75) 3 pc') (kk : G l D X nL (WC ad cy) k n h pc' lv (.int (h.1 1 1) :: st)) : G l D X nL (WC ad cy) k n h pc lv (.ref (ad 1) :: st) := g_getN O d inU_RX9 rfl (wC_1 ad cy h) (j := 1) (by decide) rfl rfl kw_101 kk
theorem gf_C_RX10_75_6 (ad : Nat → Nat) (cy : Nat → ClassId) {l : Launch} {D : va_G} {X : Cx} {cc : ByteArray} {nL : Nat} {R : Room} {k n : Nat} {h : Hp} {pc pc' : Nat} {lv : List (Nat × Value)} {st : List Value} (O : Ok l D cy X cc RX10 nL R) (d : Dc cc pc (.getfield 75) 3 pc') (kk : G l D X nL (WC ad cy) k n h pc' lv (.int (h.1 6 1) :: st)) : G l D X nL (WC ad cy) k n h pc lv (.ref (ad 6) :: st) := g_getN O d inU_RX9 rfl (wC_6 ad cy h) (j := 1) (by decide) rfl rfl kw_101 kk
theorem gf_C_RX10_109_1 (ad : Nat → Nat) (cy : Nat → ClassId) {l : Launch} {D : va_G} {X : Cx} {cc : ByteArray} {nL : Nat} {R : Room} {k n : Nat} {h : Hp} {pc pc' : Nat} {lv : List (Nat × Value)} {st : List Value} (O : Ok l D cy X cc RX10 nL R) (d : Dc cc pc (.getfield 109) 3 pc') (kk : G l D X nL (WC ad cy) k n h pc' lv (.int (h.1 1 0) :: st)) : G l D X nL (WC ad cy) k n h pc lv (.ref (ad 1) :: st) := g_getN O d inU_RX9 rfl (wC_1 ad cy h) (j := 0) (by decide) rfl rfl kw_97 kk
theorem gf_C_RX10_152_1 (ad : Nat → Nat) (cy : Nat → ClassId) {l : Launch} {D : va_G} {X : Cx} {cc : ByteArray} {nL : Nat} {R : Room} {k n : Nat} {h : Hp} {pc pc' : Nat} {lv : List (Nat × Value)} {st : List Value} (O : Ok l D cy X cc RX10 nL R) (d : Dc cc pc (.getfield 152) 3 pc') (kk : G l D X nL (WC ad cy) k n h pc' lv (.ref (ad 2) :: st)) : G l D X nL (WC ad cy) k n h pc lv (.ref (ad 1) :: st) := g_getN O d inU_RX9 rfl (wC_1 ad cy h) (j := 2) (by decide) rfl rfl kw_109 kk
theorem gf_C_RX10_152_6 (ad : Nat → Nat) (cy : Nat → ClassId) {l : Launch} {D : va_G} {X : Cx} {cc : ByteArray} {nL : Nat} {R : Room} {k n : Nat} {h : Hp} {pc pc' : Nat} {lv : List (Nat × Value)} {st : List Value} (O : Ok l D cy X cc RX10 nL R) (d : Dc cc pc (.getfield 152) 3 pc') (kk : G l D X nL (WC ad cy) k n h pc' lv (.ref (ad 7) :: st)) : G l D X nL (WC ad cy) k n h pc lv (.ref (ad 6) :: st) := g_getN O d inU_RX9 rfl (wC_6 ad cy h) (j := 2) (by decide) rfl rfl kw_109 kk
theorem gf_C_RX10_156_1 (ad : Nat → Nat) (cy : Nat → ClassId) {l : Launch} {D : va_G} {X : Cx} {cc : ByteArray} {nL : Nat} {R : Room} {k n : Nat} {h : Hp} {pc pc' : Nat} {lv : List (Nat × Value)} {st : List Value} (O : Ok l D cy X cc RX10 nL R) (d : Dc cc pc (.getfield 156) 3 pc') (kk : G l D X nL (WC ad cy) k n h pc' lv (.ref (ad 3) :: st)) : G l D X nL (WC ad cy) k n h pc lv (.ref (ad 1) :: st) := g_getN O d inU_RX9 rfl (wC_1 ad cy h) (j := 3) (by decide) rfl rfl kw_114 kk
theorem gf_C_RX10_156_6 (ad : Nat → Nat) (cy : Nat → ClassId) {l : Launch} {D : va_G} {X : Cx} {cc : ByteArray} {nL : Nat} {R : Room} {k n : Nat} {h : Hp} {pc pc' : Nat} {lv : List (Nat × Value)} {st : List Value} (O : Ok l D cy X cc RX10 nL R) (d : Dc cc pc (.getfield 156) 3 pc') (kk : G l D X nL (WC ad cy) k n h pc' lv (.ref (ad 8) :: st)) : G l D X nL (WC ad cy) k n h pc lv (.ref (ad 6) :: st) := g_getN O d inU_RX9 rfl (wC_6 ad cy h) (j := 3) (by decide) rfl rfl kw_114 kk
theorem gf_C_RX10_194_11 (ad : Nat → Nat) (cy : Nat → ClassId) {l : Launch} {D : va_G} {X : Cx} {cc : ByteArray} {nL : Nat} {R : Room} {k n : Nat} {h : Hp} {pc pc' : Nat} {lv : List (Nat × Value)} {st : List Value} (O : Ok l D cy X cc RX10 nL R) (d : Dc cc pc (.getfield 194) 3 pc') (kk : G l D X nL (WC ad cy) k n h pc' lv (.int (h.1 11 1) :: st)) : G l D X nL (WC ad cy) k n h pc lv (.ref (ad 11) :: st) := g_getN O d inU_RX8 rfl (wC_11 ad cy h) (j := 1) (by decide) rfl rfl kw_139 kk
theorem gf_C_RX10_272_23 (ad : Nat → Nat) (cy : Nat → ClassId) {l : Launch} {D : va_G} {X : Cx} {cc : ByteArray} {nL : Nat} {R : Room} {k n : Nat} {h : Hp} {pc pc' : Nat} {lv : List (Nat × Value)} {st : List Value} (O : Ok l D cy X cc RX10 nL R) (d : Dc cc pc (.getfield 272) 3 pc') (kk : G l D X nL (WC ad cy) k n h pc' lv (.int (h.1 23 4) :: st)) : G l D X nL (WC ad cy) k n h pc lv (.ref (ad 23) :: st) := g_getN O d inU_RX1 rfl (wC_23 ad cy h) (j := 4) (by decide) rfl rfl kw_215 kk
theorem gf_C_RX10_280_23 (ad : Nat → Nat) (cy : Nat → ClassId) {l : Launch} {D : va_G} {X : Cx} {cc : ByteArray} {nL : Nat} {R : Room} {k n : Nat} {h : Hp} {pc pc' : Nat} {lv : List (Nat × Value)} {st : List Value} (O : Ok l D cy X cc RX10 nL R) (d : Dc cc pc (.getfield 280) 3 pc') (kk : G l D X nL (WC ad cy) k n h pc' lv (.ref (ad 25) :: st)) : G l D X nL (WC ad cy) k n h pc lv (.ref (ad 23) :: st) := g_getN O d inU_RX1 rfl (wC_23 ad cy h) (j := 1) (by decide) rfl rfl kw_211 kk
theorem gf_C_RX0_9_32 (ad : Nat → Nat) (cy : Nat → ClassId) {l : Launch} {D : va_G} {X : Cx} {cc : ByteArray} {nL : Nat} {R : Room} {k n : Nat} {h : Hp} {pc pc' : Nat} {lv : List (Nat × Value)} {st : List Value} (O : Ok l D cy X cc RX0 nL R) (d : Dc cc pc (.getfield 9) 3 pc') (kk : G l D X nL (WC ad cy) k n h pc' lv (.long (h.2 32 0) :: st)) : G l D X nL (WC ad cy) k n h pc lv (.ref (ad 32) :: st) := g_get O d inU_RX0 rfl (wC_32 ad cy h) (j := 0) (by decide) rfl rfl kw_255 kk
theorem gf_C_RX0_18_32 (ad : Nat → Nat) (cy : Nat → ClassId) {l : Launch} {D : va_G} {X : Cx} {cc : ByteArray} {nL : Nat} {R : Room} {k n : Nat} {h : Hp} {pc pc' : Nat} {lv : List (Nat × Value)} {st : List Value} (O : Ok l D cy X cc RX0 nL R) (d : Dc cc pc (.getfield 18) 3 pc') (kk : G l D X nL (WC ad cy) k n h pc' lv (.ref (ad 33) :: st)) : G l D X nL (WC ad cy) k n h pc lv (.ref (ad 32) :: st) := g_get O d inU_RX0 rfl (wC_32 ad cy h) (j := 1) (by decide) rfl rfl kw_256 kk
theorem gf_C_RX1_9_23 (ad : Nat → Nat) (cy : Nat → ClassId) {l : Launch} {D : va_G} {X : Cx} {cc : ByteArray} {nL : Nat} {R : Room} {k n : Nat} {h : Hp} {pc pc' : Nat} {lv : List (Nat × Value)} {st : List Value} (O : Ok l D cy X cc RX1 nL R) (d : Dc cc pc (.getfield 9) 3 pc') (kk : G l D X nL (WC ad cy) k n h pc' lv (.ref (ad 24) :: st)) : G l D X nL (WC ad cy) k n h pc lv (.ref (ad 23) :: st) := g_get O d inU_RX1 rfl (wC_23 ad cy h) (j := 0) (by decide) rfl rfl kw_209 kk
theorem gf_C_RX1_15_23 (ad : Nat → Nat) (cy : Nat → ClassId) {l : Launch} {D : va_G} {X : Cx} {cc : ByteArray} {nL : Nat} {R : Room} {k n : Nat} {h : Hp} {pc pc' : Nat} {lv : List (Nat × Value)} {st : List Value} (O : Ok l D cy X cc RX1 nL R) (d : Dc cc pc (.getfield 15) 3 pc') (kk : G l D X nL (WC ad cy) k n h pc' lv (.ref (ad 25) :: st)) : G l D X nL (WC ad cy) k n h pc lv (.ref (ad 23) :: st) := g_get O d inU_RX1 rfl (wC_23 ad cy h) (j := 1) (by decide) rfl rfl kw_210 kk
theorem gf_C_RX1_18_23 (ad : Nat → Nat) (cy : Nat → ClassId) {l : Launch} {D : va_G} {X : Cx} {cc : ByteArray} {nL : Nat} {R : Room} {k n : Nat} {h : Hp} {pc pc' : Nat} {lv : List (Nat × Value)} {st : List Value} (O : Ok l D cy X cc RX1 nL R) (d : Dc cc pc (.getfield 18) 3 pc') (kk : G l D X nL (WC ad cy) k n h pc' lv (.ref (ad 26) :: st)) : G l D X nL (WC ad cy) k n h pc lv (.ref (ad 23) :: st) := g_get O d inU_RX1 rfl (wC_23 ad cy h) (j := 2) (by decide) rfl rfl kw_212 kk
theorem gf_C_RX1_21_23 (ad : Nat → Nat) (cy : Nat → ClassId) {l : Launch} {D : va_G} {X : Cx} {cc : ByteArray} {nL : Nat} {R : Room} {k n : Nat} {h : Hp} {pc pc' : Nat} {lv : List (Nat × Value)} {st : List Value} (O : Ok l D cy X cc RX1 nL R) (d : Dc cc pc (.getfield 21) 3 pc') (kk : G l D X nL (WC ad cy) k n h pc' lv (.ref (ad 27) :: st)) : G l D X nL (WC ad cy) k n h pc lv (.ref (ad 23) :: st) := g_get O d inU_RX1 rfl (wC_23 ad cy h) (j := 3) (by decide) rfl rfl kw_213 kk
theorem gf_C_RX1_25_23 (ad : Nat → Nat) (cy : Nat → ClassId) {l : Launch} {D : va_G} {X : Cx} {cc : ByteArray} {nL : Nat} {R : Room} {k n : Nat} {h : Hp} {pc pc' : Nat} {lv : List (Nat × Value)} {st : List Value} (O : Ok l D cy X cc RX1 nL R) (d : Dc cc pc (.getfield 25) 3 pc') (kk : G l D X nL (WC ad cy) k n h pc' lv (.int (h.1 23 4) :: st)) : G l D X nL (WC ad cy) k n h pc lv (.ref (ad 23) :: st) := g_get O d inU_RX1 rfl (wC_23 ad cy h) (j := 4) (by decide) rfl rfl kw_214 kk
theorem gf_C_RX1_29_1 (ad : Nat → Nat) (cy : Nat → ClassId) {l : Launch} {D : va_G} {X : Cx} {cc : ByteArray} {nL : Nat} {R : Room} {k n : Nat} {h : Hp} {pc pc' : Nat} {lv : List (Nat × Value)} {st : List Value} (O : Ok l D cy X cc RX1 nL R) (d : Dc cc pc (.getfield 29) 3 pc') (kk : G l D X nL (WC ad cy) k n h pc' lv (.int (h.1 1 1) :: st)) : G l D X nL (WC ad cy) k n h pc lv (.ref (ad 1) :: st) := g_getN O d inU_RX9 rfl (wC_1 ad cy h) (j := 1) (by decide) rfl rfl kw_102 kk
theorem gf_C_RX1_34_1 (ad : Nat → Nat) (cy : Nat → ClassId) {l : Launch} {D : va_G} {X : Cx} {cc : ByteArray} {nL : Nat} {R : Room} {k n : Nat} {h : Hp} {pc pc' : Nat} {lv : List (Nat × Value)} {st : List Value} (O : Ok l D cy X cc RX1 nL R) (d : Dc cc pc (.getfield 34) 3 pc') (kk : G l D X nL (WC ad cy) k n h pc' lv (.ref (ad 2) :: st)) : G l D X nL (WC ad cy) k n h pc lv (.ref (ad 1) :: st) := g_getN O d inU_RX9 rfl (wC_1 ad cy h) (j := 2) (by decide) rfl rfl kw_106 kk
theorem gf_C_RX1_37_1 (ad : Nat → Nat) (cy : Nat → ClassId) {l : Launch} {D : va_G} {X : Cx} {cc : ByteArray} {nL : Nat} {R : Room} {k n : Nat} {h : Hp} {pc pc' : Nat} {lv : List (Nat × Value)} {st : List Value} (O : Ok l D cy X cc RX1 nL R) (d : Dc cc pc (.getfield 37) 3 pc') (kk : G l D X nL (WC ad cy) k n h pc' lv (.ref (ad 3) :: st)) : G l D X nL (WC ad cy) k n h pc lv (.ref (ad 1) :: st) := g_getN O d inU_RX9 rfl (wC_1 ad cy h) (j := 3) (by decide) rfl rfl kw_111 kk
theorem gf_C_RX2_9_16 (ad : Nat → Nat) (cy : Nat → ClassId) {l : Launch} {D : va_G} {X : Cx} {cc : ByteArray} {nL : Nat} {R : Room} {k n : Nat} {h : Hp} {pc pc' : Nat} {lv : List (Nat × Value)} {st : List Value} (O : Ok l D cy X cc RX2 nL R) (d : Dc cc pc (.getfield 9) 3 pc') (kk : G l D X nL (WC ad cy) k n h pc' lv (.ref (ad 17) :: st)) : G l D X nL (WC ad cy) k n h pc lv (.ref (ad 16) :: st) := g_get O d inU_RX2 rfl (wC_16 ad cy h) (j := 0) (by decide) rfl rfl kw_158 kk
theorem gf_C_RX2_9_33 (ad : Nat → Nat) (cy : Nat → ClassId) {l : Launch} {D : va_G} {X : Cx} {cc : ByteArray} {nL : Nat} {R : Room} {k n : Nat} {h : Hp} {pc pc' : Nat} {lv : List (Nat × Value)} {st : List Value} (O : Ok l D cy X cc RX2 nL R) (d : Dc cc pc (.getfield 9) 3 pc') (kk : G l D X nL (WC ad cy) k n h pc' lv (.ref (ad 34) :: st)) : G l D X nL (WC ad cy) k n h pc lv (.ref (ad 33) :: st) := g_get O d inU_RX2 rfl (wC_33 ad cy h) (j := 0) (by decide) rfl rfl kw_158 kk
theorem gf_C_RX3_9_18 (ad : Nat → Nat) (cy : Nat → ClassId) {l : Launch} {D : va_G} {X : Cx} {cc : ByteArray} {nL : Nat} {R : Room} {k n : Nat} {h : Hp} {pc pc' : Nat} {lv : List (Nat × Value)} {st : List Value} (O : Ok l D cy X cc RX3 nL R) (d : Dc cc pc (.getfield 9) 3 pc') (kk : G l D X nL (WC ad cy) k n h pc' lv (.ref (ad 19) :: st)) : G l D X nL (WC ad cy) k n h pc lv (.ref (ad 18) :: st) := g_get O d inU_RX3 rfl (wC_18 ad cy h) (j := 0) (by decide) rfl rfl kw_179 kk
theorem gf_C_RX3_15_18 (ad : Nat → Nat) (cy : Nat → ClassId) {l : Launch} {D : va_G} {X : Cx} {cc : ByteArray} {nL : Nat} {R : Room} {k n : Nat} {h : Hp} {pc pc' : Nat} {lv : List (Nat × Value)} {st : List Value} (O : Ok l D cy X cc RX3 nL R) (d : Dc cc pc (.getfield 15) 3 pc') (kk : G l D X nL (WC ad cy) k n h pc' lv (.int (h.1 18 1) :: st)) : G l D X nL (WC ad cy) k n h pc lv (.ref (ad 18) :: st) := g_get O d inU_RX3 rfl (wC_18 ad cy h) (j := 1) (by decide) rfl rfl kw_180 kk
theorem gf_C_RX3_19_1 (ad : Nat → Nat) (cy : Nat → ClassId) {l : Launch} {D : va_G} {X : Cx} {cc : ByteArray} {nL : Nat} {R : Room} {k n : Nat} {h : Hp} {pc pc' : Nat} {lv : List (Nat × Value)} {st : List Value} (O : Ok l D cy X cc RX3 nL R) (d : Dc cc pc (.getfield 19) 3 pc') (kk : G l D X nL (WC ad cy) k n h pc' lv (.int (h.1 1 1) :: st)) : G l D X nL (WC ad cy) k n h pc lv (.ref (ad 1) :: st) := g_getN O d inU_RX9 rfl (wC_1 ad cy h) (j := 1) (by decide) rfl rfl kw_100 kk
theorem gf_C_RX4_9_13 (ad : Nat → Nat) (cy : Nat → ClassId) {l : Launch} {D : va_G} {X : Cx} {cc : ByteArray} {nL : Nat} {R : Room} {k n : Nat} {h : Hp} {pc pc' : Nat} {lv : List (Nat × Value)} {st : List Value} (O : Ok l D cy X cc RX4 nL R) (d : Dc cc pc (.getfield 9) 3 pc') (kk : G l D X nL (WC ad cy) k n h pc' lv (.ref (ad 14) :: st)) : G l D X nL (WC ad cy) k n h pc lv (.ref (ad 13) :: st) := g_get O d inU_RX4 rfl (wC_13 ad cy h) (j := 0) (by decide) rfl rfl kw_163 kk
theorem gf_C_RX4_15_13 (ad : Nat → Nat) (cy : Nat → ClassId) {l : Launch} {D : va_G} {X : Cx} {cc : ByteArray} {nL : Nat} {R : Room} {k n : Nat} {h : Hp} {pc pc' : Nat} {lv : List (Nat × Value)} {st : List Value} (O : Ok l D cy X cc RX4 nL R) (d : Dc cc pc (.getfield 15) 3 pc') (kk : G l D X nL (WC ad cy) k n h pc' lv (.ref (ad 15) :: st)) : G l D X nL (WC ad cy) k n h pc lv (.ref (ad 13) :: st) := g_get O d inU_RX4 rfl (wC_13 ad cy h) (j := 1) (by decide) rfl rfl kw_164 kk
theorem gf_C_RX4_21_13 (ad : Nat → Nat) (cy : Nat → ClassId) {l : Launch} {D : va_G} {X : Cx} {cc : ByteArray} {nL : Nat} {R : Room} {k n : Nat} {h : Hp} {pc pc' : Nat} {lv : List (Nat × Value)} {st : List Value} (O : Ok l D cy X cc RX4 nL R) (d : Dc cc pc (.getfield 21) 3 pc') (kk : G l D X nL (WC ad cy) k n h pc' lv (.ref (ad 16) :: st)) : G l D X nL (WC ad cy) k n h pc lv (.ref (ad 13) :: st) := g_get O d inU_RX4 rfl (wC_13 ad cy h) (j := 2) (by decide) rfl rfl kw_165 kk
theorem gf_C_RX4_34_1 (ad : Nat → Nat) (cy : Nat → ClassId) {l : Launch} {D : va_G} {X : Cx} {cc : ByteArray} {nL : Nat} {R : Room} {k n : Nat} {h : Hp} {pc pc' : Nat} {lv : List (Nat × Value)} {st : List Value} (O : Ok l D cy X cc RX4 nL R) (d : Dc cc pc (.getfield 34) 3 pc') (kk : G l D X nL (WC ad cy) k n h pc' lv (.int (h.1 1 0) :: st)) : G l D X nL (WC ad cy) k n h pc lv (.ref (ad 1) :: st) := g_getN O d inU_RX9 rfl (wC_1 ad cy h) (j := 0) (by decide) rfl rfl kw_98 kk
theorem gf_C_RX4_44_1 (ad : Nat → Nat) (cy : Nat → ClassId) {l : Launch} {D : va_G} {X : Cx} {cc : ByteArray} {nL : Nat} {R : Room} {k n : Nat} {h : Hp} {pc pc' : Nat} {lv : List (Nat × Value)} {st : List Value} (O : Ok l D cy X cc RX4 nL R) (d : Dc cc pc (.getfield 44) 3 pc') (kk : G l D X nL (WC ad cy) k n h pc' lv (.ref (ad 2) :: st)) : G l D X nL (WC ad cy) k n h pc lv (.ref (ad 1) :: st) := g_getN O d inU_RX9 rfl (wC_1 ad cy h) (j := 2) (by decide) rfl rfl kw_108 kk
theorem gf_C_RX4_48_1 (ad : Nat → Nat) (cy : Nat → ClassId) {l : Launch} {D : va_G} {X : Cx} {cc : ByteArray} {nL : Nat} {R : Room} {k n : Nat} {h : Hp} {pc pc' : Nat} {lv : List (Nat × Value)} {st : List Value} (O : Ok l D cy X cc RX4 nL R) (d : Dc cc pc (.getfield 48) 3 pc') (kk : G l D X nL (WC ad cy) k n h pc' lv (.ref (ad 3) :: st)) : G l D X nL (WC ad cy) k n h pc lv (.ref (ad 1) :: st) := g_getN O d inU_RX9 rfl (wC_1 ad cy h) (j := 3) (by decide) rfl rfl kw_113 kk
theorem gf_C_RX4_63_1 (ad : Nat → Nat) (cy : Nat → ClassId) {l : Launch} {D : va_G} {X : Cx} {cc : ByteArray} {nL : Nat} {R : Room} {k n : Nat} {h : Hp} {pc pc' : Nat} {lv : List (Nat × Value)} {st : List Value} (O : Ok l D cy X cc RX4 nL R) (d : Dc cc pc (.getfield 63) 3 pc') (kk : G l D X nL (WC ad cy) k n h pc' lv (.int (h.1 1 1) :: st)) : G l D X nL (WC ad cy) k n h pc lv (.ref (ad 1) :: st) := g_getN O d inU_RX9 rfl (wC_1 ad cy h) (j := 1) (by decide) rfl rfl kw_104 kk
theorem gf_C_RX6_11_28 (ad : Nat → Nat) (cy : Nat → ClassId) {l : Launch} {D : va_G} {X : Cx} {cc : ByteArray} {nL : Nat} {R : Room} {k n : Nat} {h : Hp} {pc pc' : Nat} {lv : List (Nat × Value)} {st : List Value} (O : Ok l D cy X cc RX6 nL R) (d : Dc cc pc (.getfield 11) 3 pc') (kk : G l D X nL (WC ad cy) k n h pc' lv (.ref (ad 29) :: st)) : G l D X nL (WC ad cy) k n h pc lv (.ref (ad 28) :: st) := g_get O d inU_RX6 rfl (wC_28 ad cy h) (j := 0) (by decide) rfl rfl kw_234 kk
theorem gf_C_RX6_15_28 (ad : Nat → Nat) (cy : Nat → ClassId) {l : Launch} {D : va_G} {X : Cx} {cc : ByteArray} {nL : Nat} {R : Room} {k n : Nat} {h : Hp} {pc pc' : Nat} {lv : List (Nat × Value)} {st : List Value} (O : Ok l D cy X cc RX6 nL R) (d : Dc cc pc (.getfield 15) 3 pc') (kk : G l D X nL (WC ad cy) k n h pc' lv (.ref (ad 30) :: st)) : G l D X nL (WC ad cy) k n h pc lv (.ref (ad 28) :: st) := g_get O d inU_RX6 rfl (wC_28 ad cy h) (j := 1) (by decide) rfl rfl kw_235 kk
theorem gf_C_RX6_19_28 (ad : Nat → Nat) (cy : Nat → ClassId) {l : Launch} {D : va_G} {X : Cx} {cc : ByteArray} {nL : Nat} {R : Room} {k n : Nat} {h : Hp} {pc pc' : Nat} {lv : List (Nat × Value)} {st : List Value} (O : Ok l D cy X cc RX6 nL R) (d : Dc cc pc (.getfield 19) 3 pc') (kk : G l D X nL (WC ad cy) k n h pc' lv (.ref (ad 31) :: st)) : G l D X nL (WC ad cy) k n h pc lv (.ref (ad 28) :: st) := g_get O d inU_RX6 rfl (wC_28 ad cy h) (j := 2) (by decide) rfl rfl kw_236 kk
theorem gf_C_RX6_22_28 (ad : Nat → Nat) (cy : Nat → ClassId) {l : Launch} {D : va_G} {X : Cx} {cc : ByteArray} {nL : Nat} {R : Room} {k n : Nat} {h : Hp} {pc pc' : Nat} {lv : List (Nat × Value)} {st : List Value} (O : Ok l D cy X cc RX6 nL R) (d : Dc cc pc (.getfield 22) 3 pc') (kk : G l D X nL (WC ad cy) k n h pc' lv (.int (h.1 28 3) :: st)) : G l D X nL (WC ad cy) k n h pc lv (.ref (ad 28) :: st) := g_get O d inU_RX6 rfl (wC_28 ad cy h) (j := 3) (by decide) rfl rfl kw_237 kk
theorem gf_C_RX7_9_20 (ad : Nat → Nat) (cy : Nat → ClassId) {l : Launch} {D : va_G} {X : Cx} {cc : ByteArray} {nL : Nat} {R : Room} {k n : Nat} {h : Hp} {pc pc' : Nat} {lv : List (Nat × Value)} {st : List Value} (O : Ok l D cy X cc RX7 nL R) (d : Dc cc pc (.getfield 9) 3 pc') (kk : G l D X nL (WC ad cy) k n h pc' lv (.ref (ad 21) :: st)) : G l D X nL (WC ad cy) k n h pc lv (.ref (ad 20) :: st) := g_get O d inU_RX7 rfl (wC_20 ad cy h) (j := 0) (by decide) rfl rfl kw_192 kk
theorem gf_C_RX7_15_20 (ad : Nat → Nat) (cy : Nat → ClassId) {l : Launch} {D : va_G} {X : Cx} {cc : ByteArray} {nL : Nat} {R : Room} {k n : Nat} {h : Hp} {pc pc' : Nat} {lv : List (Nat × Value)} {st : List Value} (O : Ok l D cy X cc RX7 nL R) (d : Dc cc pc (.getfield 15) 3 pc') (kk : G l D X nL (WC ad cy) k n h pc' lv (.ref (ad 22) :: st)) : G l D X nL (WC ad cy) k n h pc lv (.ref (ad 20) :: st) := g_get O d inU_RX7 rfl (wC_20 ad cy h) (j := 1) (by decide) rfl rfl kw_193 kk
theorem gf_C_RX7_19_20 (ad : Nat → Nat) (cy : Nat → ClassId) {l : Launch} {D : va_G} {X : Cx} {cc : ByteArray} {nL : Nat} {R : Room} {k n : Nat} {h : Hp} {pc pc' : Nat} {lv : List (Nat × Value)} {st : List Value} (O : Ok l D cy X cc RX7 nL R) (d : Dc cc pc (.getfield 19) 3 pc') (kk : G l D X nL (WC ad cy) k n h pc' lv (.int (h.1 20 2) :: st)) : G l D X nL (WC ad cy) k n h pc lv (.ref (ad 20) :: st) := g_get O d inU_RX7 rfl (wC_20 ad cy h) (j := 2) (by decide) rfl rfl kw_194 kk
theorem gf_C_RX7_27_1 (ad : Nat → Nat) (cy : Nat → ClassId) {l : Launch} {D : va_G} {X : Cx} {cc : ByteArray} {nL : Nat} {R : Room} {k n : Nat} {h : Hp} {pc pc' : Nat} {lv : List (Nat × Value)} {st : List Value} (O : Ok l D cy X cc RX7 nL R) (d : Dc cc pc (.getfield 27) 3 pc') (kk : G l D X nL (WC ad cy) k n h pc' lv (.int (h.1 1 0) :: st)) : G l D X nL (WC ad cy) k n h pc lv (.ref (ad 1) :: st) := g_getN O d inU_RX9 rfl (wC_1 ad cy h) (j := 0) (by decide) rfl rfl kw_96 kk
theorem gf_C_RX7_38_1 (ad : Nat → Nat) (cy : Nat → ClassId) {l : Launch} {D : va_G} {X : Cx} {cc : ByteArray} {nL : Nat} {R : Room} {k n : Nat} {h : Hp} {pc pc' : Nat} {lv : List (Nat × Value)} {st : List Value} (O : Ok l D cy X cc RX7 nL R) (d : Dc cc pc (.getfield 38) 3 pc') (kk : G l D X nL (WC ad cy) k n h pc' lv (.int (h.1 1 1) :: st)) : G l D X nL (WC ad cy) k n h pc lv (.ref (ad 1) :: st) := g_getN O d inU_RX9 rfl (wC_1 ad cy h) (j := 1) (by decide) rfl rfl kw_103 kk
theorem gf_C_RX7_39_1 (ad : Nat → Nat) (cy : Nat → ClassId) {l : Launch} {D : va_G} {X : Cx} {cc : ByteArray} {nL : Nat} {R : Room} {k n : Nat} {h : Hp} {pc pc' : Nat} {lv : List (Nat × Value)} {st : List Value} (O : Ok l D cy X cc RX7 nL R) (d : Dc cc pc (.getfield 39) 3 pc') (kk : G l D X nL (WC ad cy) k n h pc' lv (.ref (ad 2) :: st)) : G l D X nL (WC ad cy) k n h pc lv (.ref (ad 1) :: st) := g_getN O d inU_RX9 rfl (wC_1 ad cy h) (j := 2) (by decide) rfl rfl kw_107 kk
theorem gf_C_RX7_42_1 (ad : Nat → Nat) (cy : Nat → ClassId) {l : Launch} {D : va_G} {X : Cx} {cc : ByteArray} {nL : Nat} {R : Room} {k n : Nat} {h : Hp} {pc pc' : Nat} {lv : List (Nat × Value)} {st : List Value} (O : Ok l D cy X cc RX7 nL R) (d : Dc cc pc (.getfield 42) 3 pc') (kk : G l D X nL (WC ad cy) k n h pc' lv (.ref (ad 3) :: st)) : G l D X nL (WC ad cy) k n h pc lv (.ref (ad 1) :: st) := g_getN O d inU_RX9 rfl (wC_1 ad cy h) (j := 3) (by decide) rfl rfl kw_112 kk
theorem gf_C_RX8_9_11 (ad : Nat → Nat) (cy : Nat → ClassId) {l : Launch} {D : va_G} {X : Cx} {cc : ByteArray} {nL : Nat} {R : Room} {k n : Nat} {h : Hp} {pc pc' : Nat} {lv : List (Nat × Value)} {st : List Value} (O : Ok l D cy X cc RX8 nL R) (d : Dc cc pc (.getfield 9) 3 pc') (kk : G l D X nL (WC ad cy) k n h pc' lv (.ref (ad 12) :: st)) : G l D X nL (WC ad cy) k n h pc lv (.ref (ad 11) :: st) := g_get O d inU_RX8 rfl (wC_11 ad cy h) (j := 0) (by decide) rfl rfl kw_137 kk
theorem gf_C_RX8_15_11 (ad : Nat → Nat) (cy : Nat → ClassId) {l : Launch} {D : va_G} {X : Cx} {cc : ByteArray} {nL : Nat} {R : Room} {k n : Nat} {h : Hp} {pc pc' : Nat} {lv : List (Nat × Value)} {st : List Value} (O : Ok l D cy X cc RX8 nL R) (d : Dc cc pc (.getfield 15) 3 pc') (kk : G l D X nL (WC ad cy) k n h pc' lv (.int (h.1 11 1) :: st)) : G l D X nL (WC ad cy) k n h pc lv (.ref (ad 11) :: st) := g_get O d inU_RX8 rfl (wC_11 ad cy h) (j := 1) (by decide) rfl rfl kw_138 kk
theorem gf_C_RX9_9_1 (ad : Nat → Nat) (cy : Nat → ClassId) {l : Launch} {D : va_G} {X : Cx} {cc : ByteArray} {nL : Nat} {R : Room} {k n : Nat} {h : Hp} {pc pc' : Nat} {lv : List (Nat × Value)} {st : List Value} (O : Ok l D cy X cc RX9 nL R) (d : Dc cc pc (.getfield 9) 3 pc') (kk : G l D X nL (WC ad cy) k n h pc' lv (.int (h.1 1 0) :: st)) : G l D X nL (WC ad cy) k n h pc lv (.ref (ad 1) :: st) := g_get O d inU_RX9 rfl (wC_1 ad cy h) (j := 0) (by decide) rfl rfl kw_95 kk
theorem gf_C_RX9_9_6 (ad : Nat → Nat) (cy : Nat → ClassId) {l : Launch} {D : va_G} {X : Cx} {cc : ByteArray} {nL : Nat} {R : Room} {k n : Nat} {h : Hp} {pc pc' : Nat} {lv : List (Nat × Value)} {st : List Value} (O : Ok l D cy X cc RX9 nL R) (d : Dc cc pc (.getfield 9) 3 pc') (kk : G l D X nL (WC ad cy) k n h pc' lv (.int (h.1 6 0) :: st)) : G l D X nL (WC ad cy) k n h pc lv (.ref (ad 6) :: st) := g_get O d inU_RX9 rfl (wC_6 ad cy h) (j := 0) (by decide) rfl rfl kw_95 kk
theorem gf_C_RX9_15_1 (ad : Nat → Nat) (cy : Nat → ClassId) {l : Launch} {D : va_G} {X : Cx} {cc : ByteArray} {nL : Nat} {R : Room} {k n : Nat} {h : Hp} {pc pc' : Nat} {lv : List (Nat × Value)} {st : List Value} (O : Ok l D cy X cc RX9 nL R) (d : Dc cc pc (.getfield 15) 3 pc') (kk : G l D X nL (WC ad cy) k n h pc' lv (.int (h.1 1 1) :: st)) : G l D X nL (WC ad cy) k n h pc lv (.ref (ad 1) :: st) := g_get O d inU_RX9 rfl (wC_1 ad cy h) (j := 1) (by decide) rfl rfl kw_99 kk
theorem gf_C_RX9_15_6 (ad : Nat → Nat) (cy : Nat → ClassId) {l : Launch} {D : va_G} {X : Cx} {cc : ByteArray} {nL : Nat} {R : Room} {k n : Nat} {h : Hp} {pc pc' : Nat} {lv : List (Nat × Value)} {st : List Value} (O : Ok l D cy X cc RX9 nL R) (d : Dc cc pc (.getfield 15) 3 pc') (kk : G l D X nL (WC ad cy) k n h pc' lv (.int (h.1 6 1) :: st)) : G l D X nL (WC ad cy) k n h pc lv (.ref (ad 6) :: st) := g_get O d inU_RX9 rfl (wC_6 ad cy h) (j := 1) (by decide) rfl rfl kw_99 kk
theorem gf_C_RX9_18_1 (ad : Nat → Nat) (cy : Nat → ClassId) {l : Launch} {D : va_G} {X : Cx} {cc : ByteArray} {nL : Nat} {R : Room} {k n : Nat} {h : Hp} {pc pc' : Nat} {lv : List (Nat × Value)} {st : List Value} (O : Ok l D cy X cc RX9 nL R) (d : Dc cc pc (.getfield 18) 3 pc') (kk : G l D X nL (WC ad cy) k n h pc' lv (.ref (ad 2) :: st)) : G l D X nL (WC ad cy) k n h pc lv (.ref (ad 1) :: st) := g_get O d inU_RX9 rfl (wC_1 ad cy h) (j := 2) (by decide) rfl rfl kw_105 kk
theorem gf_C_RX9_18_6 (ad : Nat → Nat) (cy : Nat → ClassId) {l : Launch} {D : va_G} {X : Cx} {cc : ByteArray} {nL : Nat} {R : Room} {k n : Nat} {h : Hp} {pc pc' : Nat} {lv : List (Nat × Value)} {st : List Value} (O : Ok l D cy X cc RX9 nL R) (d : Dc cc pc (.getfield 18) 3 pc') (kk : G l D X nL (WC ad cy) k n h pc' lv (.ref (ad 7) :: st)) : G l D X nL (WC ad cy) k n h pc lv (.ref (ad 6) :: st) := g_get O d inU_RX9 rfl (wC_6 ad cy h) (j := 2) (by decide) rfl rfl kw_105 kk
theorem gf_C_RX9_22_1 (ad : Nat → Nat) (cy : Nat → ClassId) {l : Launch} {D : va_G} {X : Cx} {cc : ByteArray} {nL : Nat} {R : Room} {k n : Nat} {h : Hp} {pc pc' : Nat} {lv : List (Nat × Value)} {st : List Value} (O : Ok l D cy X cc RX9 nL R) (d : Dc cc pc (.getfield 22) 3 pc') (kk : G l D X nL (WC ad cy) k n h pc' lv (.ref (ad 3) :: st)) : G l D X nL (WC ad cy) k n h pc lv (.ref (ad 1) :: st) := g_get O d inU_RX9 rfl (wC_1 ad cy h) (j := 3) (by decide) rfl rfl kw_110 kk
theorem gf_C_RX9_22_6 (ad : Nat → Nat) (cy : Nat → ClassId) {l : Launch} {D : va_G} {X : Cx} {cc : ByteArray} {nL : Nat} {R : Room} {k n : Nat} {h : Hp} {pc pc' : Nat} {lv : List (Nat × Value)} {st : List Value} (O : Ok l D cy X cc RX9 nL R) (d : Dc cc pc (.getfield 22) 3 pc') (kk : G l D X nL (WC ad cy) k n h pc' lv (.ref (ad 8) :: st)) : G l D X nL (WC ad cy) k n h pc lv (.ref (ad 6) :: st) := g_get O d inU_RX9 rfl (wC_6 ad cy h) (j := 3) (by decide) rfl rfl kw_110 kk
theorem gf_C_RX9_25_1 (ad : Nat → Nat) (cy : Nat → ClassId) {l : Launch} {D : va_G} {X : Cx} {cc : ByteArray} {nL : Nat} {R : Room} {k n : Nat} {h : Hp} {pc pc' : Nat} {lv : List (Nat × Value)} {st : List Value} (O : Ok l D cy X cc RX9 nL R) (d : Dc cc pc (.getfield 25) 3 pc') (kk : G l D X nL (WC ad cy) k n h pc' lv (.ref (ad 4) :: st)) : G l D X nL (WC ad cy) k n h pc lv (.ref (ad 1) :: st) := g_get O d inU_RX9 rfl (wC_1 ad cy h) (j := 4) (by decide) rfl rfl kw_115 kk
theorem gf_C_RX9_28_1 (ad : Nat → Nat) (cy : Nat → ClassId) {l : Launch} {D : va_G} {X : Cx} {cc : ByteArray} {nL : Nat} {R : Room} {k n : Nat} {h : Hp} {pc pc' : Nat} {lv : List (Nat × Value)} {st : List Value} (O : Ok l D cy X cc RX9 nL R) (d : Dc cc pc (.getfield 28) 3 pc') (kk : G l D X nL (WC ad cy) k n h pc' lv (.ref (ad 5) :: st)) : G l D X nL (WC ad cy) k n h pc lv (.ref (ad 1) :: st) := g_get O d inU_RX9 rfl (wC_1 ad cy h) (j := 5) (by decide) rfl rfl kw_116 kk
theorem gf_M_RX11_7_0 (ad : Nat → Nat) (cy : Nat → ClassId) {l : Launch} {D : va_G} {X : Cx} {cc : ByteArray} {nL : Nat} {R : Room} {k n : Nat} {h : Hp} {pc pc' : Nat} {lv : List (Nat × Value)} {st : List Value} (O : Ok l D cy X cc RX11 nL R) (d : Dc cc pc (.getfield 7) 3 pc') (kk : G l D X nL (WM ad cy) k n h pc' lv (.ref (ad 1) :: st)) : G l D X nL (WM ad cy) k n h pc lv (.ref (ad 0) :: st) := g_get O d inU_RX11 rfl (wM_0 ad cy h) (j := 3) (by decide) rfl rfl kw_1081 kk
theorem gf_M_RX11_13_0 (ad : Nat → Nat) (cy : Nat → ClassId) {l : Launch} {D : va_G} {X : Cx} {cc : ByteArray} {nL : Nat} {R : Room} {k n : Nat} {h : Hp} {pc pc' : Nat} {lv : List (Nat × Value)} {st : List Value} (O : Ok l D cy X cc RX11 nL R) (d : Dc cc pc (.getfield 13) 3 pc') (kk : G l D X nL (WM ad cy) k n h pc' lv (.ref (ad 2) :: st)) : G l D X nL (WM ad cy) k n h pc lv (.ref (ad 0) :: st) := g_get O d inU_RX11 rfl (wM_0 ad cy h) (j := 4) (by decide) rfl rfl kw_1082 kk
theorem gf_M_RX11_16_0 (ad : Nat → Nat) (cy : Nat → ClassId) {l : Launch} {D : va_G} {X : Cx} {cc : ByteArray} {nL : Nat} {R : Room} {k n : Nat} {h : Hp} {pc pc' : Nat} {lv : List (Nat × Value)} {st : List Value} (O : Ok l D cy X cc RX11 nL R) (d : Dc cc pc (.getfield 16) 3 pc') (kk : G l D X nL (WM ad cy) k n h pc' lv (.ref (ad 3) :: st)) : G l D X nL (WM ad cy) k n h pc lv (.ref (ad 0) :: st) := g_get O d inU_RX11 rfl (wM_0 ad cy h) (j := 5) (by decide) rfl rfl kw_1083 kk
theorem gf_M_RX11_19_0 (ad : Nat → Nat) (cy : Nat → ClassId) {l : Launch} {D : va_G} {X : Cx} {cc : ByteArray} {nL : Nat} {R : Room} {k n : Nat} {h : Hp} {pc pc' : Nat} {lv : List (Nat × Value)} {st : List Value} (O : Ok l D cy X cc RX11 nL R) (d : Dc cc pc (.getfield 19) 3 pc') (kk : G l D X nL (WM ad cy) k n h pc' lv (.ref (ad 4) :: st)) : G l D X nL (WM ad cy) k n h pc lv (.ref (ad 0) :: st) := g_get O d inU_RX11 rfl (wM_0 ad cy h) (j := 6) (by decide) rfl rfl kw_1084 kk
theorem gf_M_RX11_22_0 (ad : Nat → Nat) (cy : Nat → ClassId) {l : Launch} {D : va_G} {X : Cx} {cc : ByteArray} {nL : Nat} {R : Room} {k n : Nat} {h : Hp} {pc pc' : Nat} {lv : List (Nat × Value)} {st : List Value} (O : Ok l D cy X cc RX11 nL R) (d : Dc cc pc (.getfield 22) 3 pc') (kk : G l D X nL (WM ad cy) k n h pc' lv (.ref (ad 5) :: st)) : G l D X nL (WM ad cy) k n h pc lv (.ref (ad 0) :: st) := g_get O d inU_RX11 rfl (wM_0 ad cy h) (j := 8) (by decide) rfl rfl kw_1086 kk
theorem gf_M_RX11_25_0 (ad : Nat → Nat) (cy : Nat → ClassId) {l : Launch} {D : va_G} {X : Cx} {cc : ByteArray} {nL : Nat} {R : Room} {k n : Nat} {h : Hp} {pc pc' : Nat} {lv : List (Nat × Value)} {st : List Value} (O : Ok l D cy X cc RX11 nL R) (d : Dc cc pc (.getfield 25) 3 pc') (kk : G l D X nL (WM ad cy) k n h pc' lv (.ref (ad 6) :: st)) : G l D X nL (WM ad cy) k n h pc lv (.ref (ad 0) :: st) := g_get O d inU_RX11 rfl (wM_0 ad cy h) (j := 9) (by decide) rfl rfl kw_1087 kk
theorem gf_M_RX11_28_0 (ad : Nat → Nat) (cy : Nat → ClassId) {l : Launch} {D : va_G} {X : Cx} {cc : ByteArray} {nL : Nat} {R : Room} {k n : Nat} {h : Hp} {pc pc' : Nat} {lv : List (Nat × Value)} {st : List Value} (O : Ok l D cy X cc RX11 nL R) (d : Dc cc pc (.getfield 28) 3 pc') (kk : G l D X nL (WM ad cy) k n h pc' lv (.ref (ad 7) :: st)) : G l D X nL (WM ad cy) k n h pc lv (.ref (ad 0) :: st) := g_get O d inU_RX11 rfl (wM_0 ad cy h) (j := 10) (by decide) rfl rfl kw_1088 kk
theorem gf_M_RX11_31_0 (ad : Nat → Nat) (cy : Nat → ClassId) {l : Launch} {D : va_G} {X : Cx} {cc : ByteArray} {nL : Nat} {R : Room} {k n : Nat} {h : Hp} {pc pc' : Nat} {lv : List (Nat × Value)} {st : List Value} (O : Ok l D cy X cc RX11 nL R) (d : Dc cc pc (.getfield 31) 3 pc') (kk : G l D X nL (WM ad cy) k n h pc' lv (.ref (ad 8) :: st)) : G l D X nL (WM ad cy) k n h pc lv (.ref (ad 0) :: st) := g_get O d inU_RX11 rfl (wM_0 ad cy h) (j := 12) (by decide) rfl rfl kw_1090 kk
theorem gf_M_RX11_34_0 (ad : Nat → Nat) (cy : Nat → ClassId) {l : Launch} {D : va_G} {X : Cx} {cc : ByteArray} {nL : Nat} {R : Room} {k n : Nat} {h : Hp} {pc pc' : Nat} {lv : List (Nat × Value)} {st : List Value} (O : Ok l D cy X cc RX11 nL R) (d : Dc cc pc (.getfield 34) 3 pc') (kk : G l D X nL (WM ad cy) k n h pc' lv (.ref (ad 9) :: st)) : G l D X nL (WM ad cy) k n h pc lv (.ref (ad 0) :: st) := g_get O d inU_RX11 rfl (wM_0 ad cy h) (j := 13) (by decide) rfl rfl kw_1091 kk
theorem gf_M_RX11_38_0 (ad : Nat → Nat) (cy : Nat → ClassId) {l : Launch} {D : va_G} {X : Cx} {cc : ByteArray} {nL : Nat} {R : Room} {k n : Nat} {h : Hp} {pc pc' : Nat} {lv : List (Nat × Value)} {st : List Value} (O : Ok l D cy X cc RX11 nL R) (d : Dc cc pc (.getfield 38) 3 pc') (kk : G l D X nL (WM ad cy) k n h pc' lv (.ref (ad 10) :: st)) : G l D X nL (WM ad cy) k n h pc lv (.ref (ad 0) :: st) := g_get O d inU_RX11 rfl (wM_0 ad cy h) (j := 15) (by decide) rfl rfl kw_1093 kk
theorem gf_M_RX11_41_0 (ad : Nat → Nat) (cy : Nat → ClassId) {l : Launch} {D : va_G} {X : Cx} {cc : ByteArray} {nL : Nat} {R : Room} {k n : Nat} {h : Hp} {pc pc' : Nat} {lv : List (Nat × Value)} {st : List Value} (O : Ok l D cy X cc RX11 nL R) (d : Dc cc pc (.getfield 41) 3 pc') (kk : G l D X nL (WM ad cy) k n h pc' lv (.ref (ad 11) :: st)) : G l D X nL (WM ad cy) k n h pc lv (.ref (ad 0) :: st) := g_get O d inU_RX11 rfl (wM_0 ad cy h) (j := 16) (by decide) rfl rfl kw_1094 kk
theorem gf_M_RX11_44_0 (ad : Nat → Nat) (cy : Nat → ClassId) {l : Launch} {D : va_G} {X : Cx} {cc : ByteArray} {nL : Nat} {R : Room} {k n : Nat} {h : Hp} {pc pc' : Nat} {lv : List (Nat × Value)} {st : List Value} (O : Ok l D cy X cc RX11 nL R) (d : Dc cc pc (.getfield 44) 3 pc') (kk : G l D X nL (WM ad cy) k n h pc' lv (.ref (ad 12) :: st)) : G l D X nL (WM ad cy) k n h pc lv (.ref (ad 0) :: st) := g_get O d inU_RX11 rfl (wM_0 ad cy h) (j := 17) (by decide) rfl rfl kw_1095 kk
theorem gf_M_RX11_47_0 (ad : Nat → Nat) (cy : Nat → ClassId) {l : Launch} {D : va_G} {X : Cx} {cc : ByteArray} {nL : Nat} {R : Room} {k n : Nat} {h : Hp} {pc pc' : Nat} {lv : List (Nat × Value)} {st : List Value} (O : Ok l D cy X cc RX11 nL R) (d : Dc cc pc (.getfield 47) 3 pc') (kk : G l D X nL (WM ad cy) k n h pc' lv (.ref (ad 13) :: st)) : G l D X nL (WM ad cy) k n h pc lv (.ref (ad 0) :: st) := g_get O d inU_RX11 rfl (wM_0 ad cy h) (j := 18) (by decide) rfl rfl kw_1096 kk
theorem gf_M_RX11_50_0 (ad : Nat → Nat) (cy : Nat → ClassId) {l : Launch} {D : va_G} {X : Cx} {cc : ByteArray} {nL : Nat} {R : Room} {k n : Nat} {h : Hp} {pc pc' : Nat} {lv : List (Nat × Value)} {st : List Value} (O : Ok l D cy X cc RX11 nL R) (d : Dc cc pc (.getfield 50) 3 pc') (kk : G l D X nL (WM ad cy) k n h pc' lv (.ref (ad 14) :: st)) : G l D X nL (WM ad cy) k n h pc lv (.ref (ad 0) :: st) := g_get O d inU_RX11 rfl (wM_0 ad cy h) (j := 20) (by decide) rfl rfl kw_1098 kk
theorem gf_M_RX11_53_0 (ad : Nat → Nat) (cy : Nat → ClassId) {l : Launch} {D : va_G} {X : Cx} {cc : ByteArray} {nL : Nat} {R : Room} {k n : Nat} {h : Hp} {pc pc' : Nat} {lv : List (Nat × Value)} {st : List Value} (O : Ok l D cy X cc RX11 nL R) (d : Dc cc pc (.getfield 53) 3 pc') (kk : G l D X nL (WM ad cy) k n h pc' lv (.ref (ad 15) :: st)) : G l D X nL (WM ad cy) k n h pc lv (.ref (ad 0) :: st) := g_get O d inU_RX11 rfl (wM_0 ad cy h) (j := 21) (by decide) rfl rfl kw_1099 kk
theorem gf_M_RX11_57_0 (ad : Nat → Nat) (cy : Nat → ClassId) {l : Launch} {D : va_G} {X : Cx} {cc : ByteArray} {nL : Nat} {R : Room} {k n : Nat} {h : Hp} {pc pc' : Nat} {lv : List (Nat × Value)} {st : List Value} (O : Ok l D cy X cc RX11 nL R) (d : Dc cc pc (.getfield 57) 3 pc') (kk : G l D X nL (WM ad cy) k n h pc' lv (.ref (ad 16) :: st)) : G l D X nL (WM ad cy) k n h pc lv (.ref (ad 0) :: st) := g_get O d inU_RX11 rfl (wM_0 ad cy h) (j := 22) (by decide) rfl rfl kw_1100 kk
theorem gf_M_RX11_60_0 (ad : Nat → Nat) (cy : Nat → ClassId) {l : Launch} {D : va_G} {X : Cx} {cc : ByteArray} {nL : Nat} {R : Room} {k n : Nat} {h : Hp} {pc pc' : Nat} {lv : List (Nat × Value)} {st : List Value} (O : Ok l D cy X cc RX11 nL R) (d : Dc cc pc (.getfield 60) 3 pc') (kk : G l D X nL (WM ad cy) k n h pc' lv (.ref (ad 17) :: st)) : G l D X nL (WM ad cy) k n h pc lv (.ref (ad 0) :: st) := g_get O d inU_RX11 rfl (wM_0 ad cy h) (j := 24) (by decide) rfl rfl kw_1102 kk
theorem gf_M_RX11_63_0 (ad : Nat → Nat) (cy : Nat → ClassId) {l : Launch} {D : va_G} {X : Cx} {cc : ByteArray} {nL : Nat} {R : Room} {k n : Nat} {h : Hp} {pc pc' : Nat} {lv : List (Nat × Value)} {st : List Value} (O : Ok l D cy X cc RX11 nL R) (d : Dc cc pc (.getfield 63) 3 pc') (kk : G l D X nL (WM ad cy) k n h pc' lv (.ref (ad 18) :: st)) : G l D X nL (WM ad cy) k n h pc lv (.ref (ad 0) :: st) := g_get O d inU_RX11 rfl (wM_0 ad cy h) (j := 25) (by decide) rfl rfl kw_1103 kk
theorem gf_M_RX11_70_0 (ad : Nat → Nat) (cy : Nat → ClassId) {l : Launch} {D : va_G} {X : Cx} {cc : ByteArray} {nL : Nat} {R : Room} {k n : Nat} {h : Hp} {pc pc' : Nat} {lv : List (Nat × Value)} {st : List Value} (O : Ok l D cy X cc RX11 nL R) (d : Dc cc pc (.getfield 70) 3 pc') (kk : G l D X nL (WM ad cy) k n h pc' lv (.int (h.1 0 0) :: st)) : G l D X nL (WM ad cy) k n h pc lv (.ref (ad 0) :: st) := g_get O d inU_RX11 rfl (wM_0 ad cy h) (j := 0) (by decide) rfl rfl kw_1078 kk
theorem gf_M_RX11_74_0 (ad : Nat → Nat) (cy : Nat → ClassId) {l : Launch} {D : va_G} {X : Cx} {cc : ByteArray} {nL : Nat} {R : Room} {k n : Nat} {h : Hp} {pc pc' : Nat} {lv : List (Nat × Value)} {st : List Value} (O : Ok l D cy X cc RX11 nL R) (d : Dc cc pc (.getfield 74) 3 pc') (kk : G l D X nL (WM ad cy) k n h pc' lv (.int (h.1 0 1) :: st)) : G l D X nL (WM ad cy) k n h pc lv (.ref (ad 0) :: st) := g_get O d inU_RX11 rfl (wM_0 ad cy h) (j := 1) (by decide) rfl rfl kw_1079 kk
theorem gf_M_RX11_81_0 (ad : Nat → Nat) (cy : Nat → ClassId) {l : Launch} {D : va_G} {X : Cx} {cc : ByteArray} {nL : Nat} {R : Room} {k n : Nat} {h : Hp} {pc pc' : Nat} {lv : List (Nat × Value)} {st : List Value} (O : Ok l D cy X cc RX11 nL R) (d : Dc cc pc (.getfield 81) 3 pc') (kk : G l D X nL (WM ad cy) k n h pc' lv (.int (h.1 0 2) :: st)) : G l D X nL (WM ad cy) k n h pc lv (.ref (ad 0) :: st) := g_get O d inU_RX11 rfl (wM_0 ad cy h) (j := 2) (by decide) rfl rfl kw_1080 kk
theorem gf_M_RX11_88_0 (ad : Nat → Nat) (cy : Nat → ClassId) {l : Launch} {D : va_G} {X : Cx} {cc : ByteArray} {nL : Nat} {R : Room} {k n : Nat} {h : Hp} {pc pc' : Nat} {lv : List (Nat × Value)} {st : List Value} (O : Ok l D cy X cc RX11 nL R) (d : Dc cc pc (.getfield 88) 3 pc') (kk : G l D X nL (WM ad cy) k n h pc' lv (.int (h.1 0 7) :: st)) : G l D X nL (WM ad cy) k n h pc lv (.ref (ad 0) :: st) := g_get O d inU_RX11 rfl (wM_0 ad cy h) (j := 7) (by decide) rfl rfl kw_1085 kk
theorem gf_M_RX11_102_0 (ad : Nat → Nat) (cy : Nat → ClassId) {l : Launch} {D : va_G} {X : Cx} {cc : ByteArray} {nL : Nat} {R : Room} {k n : Nat} {h : Hp} {pc pc' : Nat} {lv : List (Nat × Value)} {st : List Value} (O : Ok l D cy X cc RX11 nL R) (d : Dc cc pc (.getfield 102) 3 pc') (kk : G l D X nL (WM ad cy) k n h pc' lv (.int (h.1 0 14) :: st)) : G l D X nL (WM ad cy) k n h pc lv (.ref (ad 0) :: st) := g_get O d inU_RX11 rfl (wM_0 ad cy h) (j := 14) (by decide) rfl rfl kw_1092 kk
theorem gf_M_RX11_149_0 (ad : Nat → Nat) (cy : Nat → ClassId) {l : Launch} {D : va_G} {X : Cx} {cc : ByteArray} {nL : Nat} {R : Room} {k n : Nat} {h : Hp} {pc pc' : Nat} {lv : List (Nat × Value)} {st : List Value} (O : Ok l D cy X cc RX11 nL R) (d : Dc cc pc (.getfield 149) 3 pc') (kk : G l D X nL (WM ad cy) k n h pc' lv (.int (h.1 0 11) :: st)) : G l D X nL (WM ad cy) k n h pc lv (.ref (ad 0) :: st) := g_get O d inU_RX11 rfl (wM_0 ad cy h) (j := 11) (by decide) rfl rfl kw_1089 kk
theorem gf_M_RX11_203_0 (ad : Nat → Nat) (cy : Nat → ClassId) {l : Launch} {D : va_G} {X : Cx} {cc : ByteArray} {nL : Nat} {R : Room} {k n : Nat} {h : Hp} {pc pc' : Nat} {lv : List (Nat × Value)} {st : List Value} (O : Ok l D cy X cc RX11 nL R) (d : Dc cc pc (.getfield 203) 3 pc') (kk : G l D X nL (WM ad cy) k n h pc' lv (.int (h.1 0 19) :: st)) : G l D X nL (WM ad cy) k n h pc lv (.ref (ad 0) :: st) := g_get O d inU_RX11 rfl (wM_0 ad cy h) (j := 19) (by decide) rfl rfl kw_1097 kk
theorem gf_M_RX11_219_0 (ad : Nat → Nat) (cy : Nat → ClassId) {l : Launch} {D : va_G} {X : Cx} {cc : ByteArray} {nL : Nat} {R : Room} {k n : Nat} {h : Hp} {pc pc' : Nat} {lv : List (Nat × Value)} {st : List Value} (O : Ok l D cy X cc RX11 nL R) (d : Dc cc pc (.getfield 219) 3 pc') (kk : G l D X nL (WM ad cy) k n h pc' lv (.int (h.1 0 23) :: st)) : G l D X nL (WM ad cy) k n h pc lv (.ref (ad 0) :: st) := g_get O d inU_RX11 rfl (wM_0 ad cy h) (j := 23) (by decide) rfl rfl kw_1101 kk
theorem gp_C_RX0_9_32 (ad : Nat → Nat) (cy : Nat → ClassId) {l : Launch} {D : va_G} {X : Cx} {cc : ByteArray} {nL : Nat} {R : Room} {k n : Nat} {h : Hp} {pc pc' : Nat} {lv : List (Nat × Value)} {st : List Value} {x : Int64} (O : Ok l D cy X cc RX0 nL R) (d : Dc cc pc (.putfield 9) 3 pc') (kk : G l D X nL (WC ad cy) k n (wFL h 32 0 x) pc' lv st) : G l D X nL (WC ad cy) k n h pc lv (.long x :: .ref (ad 32) :: st) := g_put O d inU_RX0 tyX0_ok nmX0 rfl (wC_32 ad cy h) (j := 0) (by decide) rfl rfl (ty := .long) (by decide +kernel) rfl rfl (Nat.le_of_ble_eq_true rfl) (h1 := wFL h 32 0 x) rfl kw_255 kk
theorem gp_C_RX1_25_23 (ad : Nat → Nat) (cy : Nat → ClassId) {l : Launch} {D : va_G} {X : Cx} {cc : ByteArray} {nL : Nat} {R : Room} {k n : Nat} {h : Hp} {pc pc' : Nat} {lv : List (Nat × Value)} {st : List Value} {x : Int32} (O : Ok l D cy X cc RX1 nL R) (d : Dc cc pc (.putfield 25) 3 pc') (kk : G l D X nL (WC ad cy) k n (wF h 23 4 x) pc' lv st) : G l D X nL (WC ad cy) k n h pc lv (.int x :: .ref (ad 23) :: st) := g_put O d inU_RX1 tyX1_ok nmX1 rfl (wC_23 ad cy h) (j := 4) (by decide) rfl rfl (ty := .int) (by decide +kernel) rfl rfl (Nat.le_of_ble_eq_true rfl) (h1 := wF h 23 4 x) rfl kw_214 kk
theorem gp_C_RX3_15_18 (ad : Nat → Nat) (cy : Nat → ClassId) {l : Launch} {D : va_G} {X : Cx} {cc : ByteArray} {nL : Nat} {R : Room} {k n : Nat} {h : Hp} {pc pc' : Nat} {lv : List (Nat × Value)} {st : List Value} {x : Int32} (O : Ok l D cy X cc RX3 nL R) (d : Dc cc pc (.putfield 15) 3 pc') (kk : G l D X nL (WC ad cy) k n (wF h 18 1 x) pc' lv st) : G l D X nL (WC ad cy) k n h pc lv (.int x :: .ref (ad 18) :: st) := g_put O d inU_RX3 tyX3_ok nmX3 rfl (wC_18 ad cy h) (j := 1) (by decide) rfl rfl (ty := .int) (by decide +kernel) rfl rfl (Nat.le_of_ble_eq_true rfl) (h1 := wF h 18 1 x) rfl kw_180 kk
theorem gp_C_RX4_63_1 (ad : Nat → Nat) (cy : Nat → ClassId) {l : Launch} {D : va_G} {X : Cx} {cc : ByteArray} {nL : Nat} {R : Room} {k n : Nat} {h : Hp} {pc pc' : Nat} {lv : List (Nat × Value)} {st : List Value} {x : Int32} (O : Ok l D cy X cc RX4 nL R) (d : Dc cc pc (.putfield 63) 3 pc') (kk : G l D X nL (WC ad cy) k n (wF h 1 1 x) pc' lv st) : G l D X nL (WC ad cy) k n h pc lv (.int x :: .ref (ad 1) :: st) := g_putN O d inU_RX9 tyX9_ok nmX9 rfl (wC_1 ad cy h) (j := 1) (by decide) rfl rfl (ty := .int) (by decide +kernel) rfl rfl (Nat.le_of_ble_eq_true rfl) (h1 := wF h 1 1 x) rfl kw_104 kk
theorem gp_C_RX6_22_28 (ad : Nat → Nat) (cy : Nat → ClassId) {l : Launch} {D : va_G} {X : Cx} {cc : ByteArray} {nL : Nat} {R : Room} {k n : Nat} {h : Hp} {pc pc' : Nat} {lv : List (Nat × Value)} {st : List Value} {x : Int32} (O : Ok l D cy X cc RX6 nL R) (d : Dc cc pc (.putfield 22) 3 pc') (kk : G l D X nL (WC ad cy) k n (wF h 28 3 x) pc' lv st) : G l D X nL (WC ad cy) k n h pc lv (.int x :: .ref (ad 28) :: st) := g_put O d inU_RX6 tyX6_ok nmX6 rfl (wC_28 ad cy h) (j := 3) (by decide) rfl rfl (ty := .int) (by decide +kernel) rfl rfl (Nat.le_of_ble_eq_true rfl) (h1 := wF h 28 3 x) rfl kw_237 kk
theorem gp_C_RX7_19_20 (ad : Nat → Nat) (cy : Nat → ClassId) {l : Launch} {D : va_G} {X : Cx} {cc : ByteArray} {nL : Nat} {R : Room} {k n : Nat} {h : Hp} {pc pc' : Nat} {lv : List (Nat × Value)} {st : List Value} {x : Int32} (O : Ok l D cy X cc RX7 nL R) (d : Dc cc pc (.putfield 19) 3 pc') (kk : G l D X nL (WC ad cy) k n (wF h 20 2 x) pc' lv st) : G l D X nL (WC ad cy) k n h pc lv (.int x :: .ref (ad 20) :: st) := g_put O d inU_RX7 tyX7_ok nmX7 rfl (wC_20 ad cy h) (j := 2) (by decide) rfl rfl (ty := .int) (by decide +kernel) rfl rfl (Nat.le_of_ble_eq_true rfl) (h1 := wF h 20 2 x) rfl kw_194 kk
theorem gp_C_RX8_15_11 (ad : Nat → Nat) (cy : Nat → ClassId) {l : Launch} {D : va_G} {X : Cx} {cc : ByteArray} {nL : Nat} {R : Room} {k n : Nat} {h : Hp} {pc pc' : Nat} {lv : List (Nat × Value)} {st : List Value} {x : Int32} (O : Ok l D cy X cc RX8 nL R) (d : Dc cc pc (.putfield 15) 3 pc') (kk : G l D X nL (WC ad cy) k n (wF h 11 1 x) pc' lv st) : G l D X nL (WC ad cy) k n h pc lv (.int x :: .ref (ad 11) :: st) := g_put O d inU_RX8 tyX8_ok nmX8 rfl (wC_11 ad cy h) (j := 1) (by decide) rfl rfl (ty := .int) (by decide +kernel) rfl rfl (Nat.le_of_ble_eq_true rfl) (h1 := wF h 11 1 x) rfl kw_138 kk
theorem gp_C_RX9_9_1 (ad : Nat → Nat) (cy : Nat → ClassId) {l : Launch} {D : va_G} {X : Cx} {cc : ByteArray} {nL : Nat} {R : Room} {k n : Nat} {h : Hp} {pc pc' : Nat} {lv : List (Nat × Value)} {st : List Value} {x : Int32} (O : Ok l D cy X cc RX9 nL R) (d : Dc cc pc (.putfield 9) 3 pc') (kk : G l D X nL (WC ad cy) k n (wF h 1 0 x) pc' lv st) : G l D X nL (WC ad cy) k n h pc lv (.int x :: .ref (ad 1) :: st) := g_put O d inU_RX9 tyX9_ok nmX9 rfl (wC_1 ad cy h) (j := 0) (by decide) rfl rfl (ty := .int) (by decide +kernel) rfl rfl (Nat.le_of_ble_eq_true rfl) (h1 := wF h 1 0 x) rfl kw_95 kk
theorem gp_C_RX9_9_6 (ad : Nat → Nat) (cy : Nat → ClassId) {l : Launch} {D : va_G} {X : Cx} {cc : ByteArray} {nL : Nat} {R : Room} {k n : Nat} {h : Hp} {pc pc' : Nat} {lv : List (Nat × Value)} {st : List Value} {x : Int32} (O : Ok l D cy X cc RX9 nL R) (d : Dc cc pc (.putfield 9) 3 pc') (kk : G l D X nL (WC ad cy) k n (wF h 6 0 x) pc' lv st) : G l D X nL (WC ad cy) k n h pc lv (.int x :: .ref (ad 6) :: st) := g_put O d inU_RX9 tyX9_ok nmX9 rfl (wC_6 ad cy h) (j := 0) (by decide) rfl rfl (ty := .int) (by decide +kernel) rfl rfl (Nat.le_of_ble_eq_true rfl) (h1 := wF h 6 0 x) rfl kw_95 kk
theorem gp_C_RX9_15_1 (ad : Nat → Nat) (cy : Nat → ClassId) {l : Launch} {D : va_G} {X : Cx} {cc : ByteArray} {nL : Nat} {R : Room} {k n : Nat} {h : Hp} {pc pc' : Nat} {lv : List (Nat × Value)} {st : List Value} {x : Int32} (O : Ok l D cy X cc RX9 nL R) (d : Dc cc pc (.putfield 15) 3 pc') (kk : G l D X nL (WC ad cy) k n (wF h 1 1 x) pc' lv st) : G l D X nL (WC ad cy) k n h pc lv (.int x :: .ref (ad 1) :: st) := g_put O d inU_RX9 tyX9_ok nmX9 rfl (wC_1 ad cy h) (j := 1) (by decide) rfl rfl (ty := .int) (by decide +kernel) rfl rfl (Nat.le_of_ble_eq_true rfl) (h1 := wF h 1 1 x) rfl kw_99 kk
theorem gp_C_RX9_15_6 (ad : Nat → Nat) (cy : Nat → ClassId) {l : Launch} {D : va_G} {X : Cx} {cc : ByteArray} {nL : Nat} {R : Room} {k n : Nat} {h : Hp} {pc pc' : Nat} {lv : List (Nat × Value)} {st : List Value} {x : Int32} (O : Ok l D cy X cc RX9 nL R) (d : Dc cc pc (.putfield 15) 3 pc') (kk : G l D X nL (WC ad cy) k n (wF h 6 1 x) pc' lv st) : G l D X nL (WC ad cy) k n h pc lv (.int x :: .ref (ad 6) :: st) := g_put O d inU_RX9 tyX9_ok nmX9 rfl (wC_6 ad cy h) (j := 1) (by decide) rfl rfl (ty := .int) (by decide +kernel) rfl rfl (Nat.le_of_ble_eq_true rfl) (h1 := wF h 6 1 x) rfl kw_99 kk
theorem gp_M_RX11_70_0 (ad : Nat → Nat) (cy : Nat → ClassId) {l : Launch} {D : va_G} {X : Cx} {cc : ByteArray} {nL : Nat} {R : Room} {k n : Nat} {h : Hp} {pc pc' : Nat} {lv : List (Nat × Value)} {st : List Value} {x : Int32} (O : Ok l D cy X cc RX11 nL R) (d : Dc cc pc (.putfield 70) 3 pc') (kk : G l D X nL (WM ad cy) k n (wF h 0 0 x) pc' lv st) : G l D X nL (WM ad cy) k n h pc lv (.int x :: .ref (ad 0) :: st) := g_put O d inU_RX11 tyX11_ok nmX11 rfl (wM_0 ad cy h) (j := 0) (by decide) rfl rfl (ty := .int) (by decide +kernel) rfl rfl (Nat.le_of_ble_eq_true rfl) (h1 := wF h 0 0 x) rfl kw_1078 kk
theorem gp_M_RX11_74_0 (ad : Nat → Nat) (cy : Nat → ClassId) {l : Launch} {D : va_G} {X : Cx} {cc : ByteArray} {nL : Nat} {R : Room} {k n : Nat} {h : Hp} {pc pc' : Nat} {lv : List (Nat × Value)} {st : List Value} {x : Int32} (O : Ok l D cy X cc RX11 nL R) (d : Dc cc pc (.putfield 74) 3 pc') (kk : G l D X nL (WM ad cy) k n (wF h 0 1 x) pc' lv st) : G l D X nL (WM ad cy) k n h pc lv (.int x :: .ref (ad 0) :: st) := g_put O d inU_RX11 tyX11_ok nmX11 rfl (wM_0 ad cy h) (j := 1) (by decide) rfl rfl (ty := .int) (by decide +kernel) rfl rfl (Nat.le_of_ble_eq_true rfl) (h1 := wF h 0 1 x) rfl kw_1079 kk
theorem gp_M_RX11_81_0 (ad : Nat → Nat) (cy : Nat → ClassId) {l : Launch} {D : va_G} {X : Cx} {cc : ByteArray} {nL : Nat} {R : Room} {k n : Nat} {h : Hp} {pc pc' : Nat} {lv : List (Nat × Value)} {st : List Value} {x : Int32} (O : Ok l D cy X cc RX11 nL R) (d : Dc cc pc (.putfield 81) 3 pc') (kk : G l D X nL (WM ad cy) k n (wF h 0 2 x) pc' lv st) : G l D X nL (WM ad cy) k n h pc lv (.int x :: .ref (ad 0) :: st) := g_put O d inU_RX11 tyX11_ok nmX11 rfl (wM_0 ad cy h) (j := 2) (by decide) rfl rfl (ty := .int) (by decide +kernel) rfl rfl (Nat.le_of_ble_eq_true rfl) (h1 := wF h 0 2 x) rfl kw_1080 kk
theorem gp_M_RX11_88_0 (ad : Nat → Nat) (cy : Nat → ClassId) {l : Launch} {D : va_G} {X : Cx} {cc : ByteArray} {nL : Nat} {R : Room} {k n : Nat} {h : Hp} {pc pc' : Nat} {lv : List (Nat × Value)} {st : List Value} {x : Int32} (O : Ok l D cy X cc RX11 nL R) (d : Dc cc pc (.putfield 88) 3 pc') (kk : G l D X nL (WM ad cy) k n (wF h 0 7 x) pc' lv st) : G l D X nL (WM ad cy) k n h pc lv (.int x :: .ref (ad 0) :: st) := g_put O d inU_RX11 tyX11_ok nmX11 rfl (wM_0 ad cy h) (j := 7) (by decide) rfl rfl (ty := .int) (by decide +kernel) rfl rfl (Nat.le_of_ble_eq_true rfl) (h1 := wF h 0 7 x) rfl kw_1085 kk
theorem gp_M_RX11_102_0 (ad : Nat → Nat) (cy : Nat → ClassId) {l : Launch} {D : va_G} {X : Cx} {cc : ByteArray} {nL : Nat} {R : Room} {k n : Nat} {h : Hp} {pc pc' : Nat} {lv : List (Nat × Value)} {st : List Value} {x : Int32} (O : Ok l D cy X cc RX11 nL R) (d : Dc cc pc (.putfield 102) 3 pc') (kk : G l D X nL (WM ad cy) k n (wF h 0 14 x) pc' lv st) : G l D X nL (WM ad cy) k n h pc lv (.int x :: .ref (ad 0) :: st) := g_put O d inU_RX11 tyX11_ok nmX11 rfl (wM_0 ad cy h) (j := 14) (by decide) rfl rfl (ty := .int) (by decide +kernel) rfl rfl (Nat.le_of_ble_eq_true rfl) (h1 := wF h 0 14 x) rfl kw_1092 kk
theorem gp_M_RX11_149_0 (ad : Nat → Nat) (cy : Nat → ClassId) {l : Launch} {D : va_G} {X : Cx} {cc : ByteArray} {nL : Nat} {R : Room} {k n : Nat} {h : Hp} {pc pc' : Nat} {lv : List (Nat × Value)} {st : List Value} {x : Int32} (O : Ok l D cy X cc RX11 nL R) (d : Dc cc pc (.putfield 149) 3 pc') (kk : G l D X nL (WM ad cy) k n (wF h 0 11 x) pc' lv st) : G l D X nL (WM ad cy) k n h pc lv (.int x :: .ref (ad 0) :: st) := g_put O d inU_RX11 tyX11_ok nmX11 rfl (wM_0 ad cy h) (j := 11) (by decide) rfl rfl (ty := .int) (by decide +kernel) rfl rfl (Nat.le_of_ble_eq_true rfl) (h1 := wF h 0 11 x) rfl kw_1089 kk
theorem gp_M_RX11_203_0 (ad : Nat → Nat) (cy : Nat → ClassId) {l : Launch} {D : va_G} {X : Cx} {cc : ByteArray} {nL : Nat} {R : Room} {k n : Nat} {h : Hp} {pc pc' : Nat} {lv : List (Nat × Value)} {st : List Value} {x : Int32} (O : Ok l D cy X cc RX11 nL R) (d : Dc cc pc (.putfield 203) 3 pc') (kk : G l D X nL (WM ad cy) k n (wF h 0 19 x) pc' lv st) : G l D X nL (WM ad cy) k n h pc lv (.int x :: .ref (ad 0) :: st) := g_put O d inU_RX11 tyX11_ok nmX11 rfl (wM_0 ad cy h) (j := 19) (by decide) rfl rfl (ty := .int) (by decide +kernel) rfl rfl (Nat.le_of_ble_eq_true rfl) (h1 := wF h 0 19 x) rfl kw_1097 kk
theorem gp_M_RX11_219_0 (ad : Nat → Nat) (cy : Nat → ClassId) {l : Launch} {D : va_G} {X : Cx} {cc : ByteArray} {nL : Nat} {R : Room} {k n : Nat} {h : Hp} {pc pc' : Nat} {lv : List (Nat × Value)} {st : List Value} {x : Int32} (O : Ok l D cy X cc RX11 nL R) (d : Dc cc pc (.putfield 219) 3 pc') (kk : G l D X nL (WM ad cy) k n (wF h 0 23 x) pc' lv st) : G l D X nL (WM ad cy) k n h pc lv (.int x :: .ref (ad 0) :: st) := g_put O d inU_RX11 tyX11_ok nmX11 rfl (wM_0 ad cy h) (j := 23) (by decide) rfl rfl (ty := .int) (by decide +kernel) rfl rfl (Nat.le_of_ble_eq_true rfl) (h1 := wF h 0 23 x) rfl kw_1101 kk
