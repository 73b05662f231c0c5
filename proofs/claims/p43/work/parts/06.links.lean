/-! THE LINKS: words by their places, reads and writes of fields -/
theorem inU_RX0 : ∀ w ∈ u_ws RX0 TX0 2, w ∈ TW := fun w hw => List.mem_filter.mpr ⟨(goodIn_r (big := lw_tbl) _ [221, 223] (by decide +kernel) (by decide +kernel) w hw).1, List.all_eq_true.mp (show (u_ws RX0 TX0 2).all goodWord = true by decide +kernel) w hw⟩
theorem inU_RX1 : ∀ w ∈ u_ws RX1 TX1 5, w ∈ TW := fun w hw => List.mem_filter.mpr ⟨(goodIn_r (big := lw_tbl) _ [180, 182, 184, 186, 188] (by decide +kernel) (by decide +kernel) w hw).1, List.all_eq_true.mp (show (u_ws RX1 TX1 5).all goodWord = true by decide +kernel) w hw⟩
theorem inU_RX2 : ∀ w ∈ u_ws RX2 TX2 1, w ∈ TW := fun w hw => List.mem_filter.mpr ⟨(goodIn_r (big := lw_tbl) _ [123] (by decide +kernel) (by decide +kernel) w hw).1, List.all_eq_true.mp (show (u_ws RX2 TX2 1).all goodWord = true by decide +kernel) w hw⟩
theorem inU_RX3 : ∀ w ∈ u_ws RX3 TX3 2, w ∈ TW := fun w hw => List.mem_filter.mpr ⟨(goodIn_r (big := lw_tbl) _ [145, 147] (by decide +kernel) (by decide +kernel) w hw).1, List.all_eq_true.mp (show (u_ws RX3 TX3 2).all goodWord = true by decide +kernel) w hw⟩
theorem inU_RX4 : ∀ w ∈ u_ws RX4 TX4 3, w ∈ TW := fun w hw => List.mem_filter.mpr ⟨(goodIn_r (big := lw_tbl) _ [130, 132, 134] (by decide +kernel) (by decide +kernel) w hw).1, List.all_eq_true.mp (show (u_ws RX4 TX4 3).all goodWord = true by decide +kernel) w hw⟩
theorem inU_RX6 : ∀ w ∈ u_ws RX6 TX6 4, w ∈ TW := fun w hw => List.mem_filter.mpr ⟨(goodIn_r (big := lw_tbl) _ [202, 204, 206, 208] (by decide +kernel) (by decide +kernel) w hw).1, List.all_eq_true.mp (show (u_ws RX6 TX6 4).all goodWord = true by decide +kernel) w hw⟩
theorem inU_RX7 : ∀ w ∈ u_ws RX7 TX7 3, w ∈ TW := fun w hw => List.mem_filter.mpr ⟨(goodIn_r (big := lw_tbl) _ [159, 161, 163] (by decide +kernel) (by decide +kernel) w hw).1, List.all_eq_true.mp (show (u_ws RX7 TX7 3).all goodWord = true by decide +kernel) w hw⟩
theorem inU_RX8 : ∀ w ∈ u_ws RX8 TX8 2, w ∈ TW := fun w hw => List.mem_filter.mpr ⟨(goodIn_r (big := lw_tbl) _ [104, 106] (by decide +kernel) (by decide +kernel) w hw).1, List.all_eq_true.mp (show (u_ws RX8 TX8 2).all goodWord = true by decide +kernel) w hw⟩
theorem inU_RX9 : ∀ w ∈ u_ws RX9 TX9 6, w ∈ TW := fun w hw => List.mem_filter.mpr ⟨(goodIn_r (big := lw_tbl) _ [81, 83, 85, 87, 89, 91] (by decide +kernel) (by decide +kernel) w hw).1, List.all_eq_true.mp (show (u_ws RX9 TX9 6).all goodWord = true by decide +kernel) w hw⟩
theorem inU_RX10 : ∀ w ∈ u_ws RX10 TX10 9, w ∈ TW := fun w hw => List.mem_filter.mpr ⟨(goodIn_r (big := lw_tbl) _ [235, 237, 239, 241, 243, 245, 247, 249, 251] (by decide +kernel) (by decide +kernel) w hw).1, List.all_eq_true.mp (show (u_ws RX10 TX10 9).all goodWord = true by decide +kernel) w hw⟩
theorem sr_70 : (RX10, 70, "a network has 2 to 6 wires") ∈ STRS := List.mem_of_getElem? (i := 0) rfl
theorem sr_101 : (RX10, 101, "there is no comparator") ∈ STRS := List.mem_of_getElem? (i := 4) rfl
theorem sr_107 : (RX10, 107, "what is BUBBLE to MERGE") ∈ STRS := List.mem_of_getElem? (i := 5) rfl
theorem sr_147 : (RX10, 147, "what is 0 to 5") ∈ STRS := List.mem_of_getElem? (i := 12) rfl
theorem sr_173 : (RX10, 173, "what is 0 to 3") ∈ STRS := List.mem_of_getElem? (i := 15) rfl
theorem sr_182 : (RX10, 182, "1 to 8 characters are typed") ∈ STRS := List.mem_of_getElem? (i := 6) rfl
theorem sr_192 : (RX10, 192, "a character cannot be on the tape") ∈ STRS := List.mem_of_getElem? (i := 7) rfl
theorem sr_197 : (RX10, 197, "the tape has at most 40 characters") ∈ STRS := List.mem_of_getElem? (i := 8) rfl
theorem sr_209 : (RX10, 209, "the tape is no text") ∈ STRS := List.mem_of_getElem? (i := 9) rfl
theorem sr_241 : (RX10, 241, "most is 0 to 3") ∈ STRS := List.mem_of_getElem? (i := 21) rfl
theorem sr_249 : (RX10, 249, "a network merges at a wire other than 0") ∈ STRS := List.mem_of_getElem? (i := 16) rfl
theorem sr_256 : (RX10, 256, "many is 1 to one less than there are wires") ∈ STRS := List.mem_of_getElem? (i := 17) rfl
theorem sr_275 : (RX10, 275, "1000 tokens came") ∈ STRS := List.mem_of_getElem? (i := 10) rfl
theorem sr_318 : (RX10, 318, "far is not below 0") ∈ STRS := List.mem_of_getElem? (i := 20) rfl
theorem sr_335 : (RX10, 335, "a network has at most 24 comparators") ∈ STRS := List.mem_of_getElem? (i := 3) rfl
theorem sr_337 : (RX10, 337, "there is no such wire") ∈ STRS := List.mem_of_getElem? (i := 1) rfl
theorem sr_339 : (RX10, 339, "both wires are the same") ∈ STRS := List.mem_of_getElem? (i := 2) rfl
theorem sr_341 : (RX10, 341, "there is no such comparator") ∈ STRS := List.mem_of_getElem? (i := 14) rfl
theorem sr_343 : (RX10, 343, "a place is not below 0") ∈ STRS := List.mem_of_getElem? (i := 13) rfl
theorem sr_345 : (RX10, 345, "a fault is PASS to TURN") ∈ STRS := List.mem_of_getElem? (i := 18) rfl
theorem sr_347 : (RX10, 347, "steps are SWAPS to BLOCKS") ∈ STRS := List.mem_of_getElem? (i := 19) rfl
theorem sr_352 : (RX10, 352, "that is no code of a row") ∈ STRS := List.mem_of_getElem? (i := 11) rfl
theorem kw_1 : (Cond.selects RX10 yX10_forgetWhatDependsOnComparators yX10_forgetWhatDependsOnComparators) ∈ TW := tw_in 1 (by decide +kernel) (by decide +kernel)
theorem kw_2 : (Cond.selects RX10 yX10_checkTwoWires yX10_checkTwoWires) ∈ TW := tw_in 2 (by decide +kernel) (by decide +kernel)
theorem kw_3 : (Cond.selects RX10 yX10_checkWire yX10_checkWire) ∈ TW := tw_in 3 (by decide +kernel) (by decide +kernel)
theorem kw_4 : (Cond.selects RX2 yX2_waysTo yX2_waysTo) ∈ TW := tw_in 4 (by decide +kernel) (by decide +kernel)
theorem kw_5 : (Cond.selects RX10 yX10_checkRoomFor yX10_checkRoomFor) ∈ TW := tw_in 5 (by decide +kernel) (by decide +kernel)
theorem kw_6 : (Cond.selects RX9 yX9_layAcross yX9_layAcross) ∈ TW := tw_in 6 (by decide +kernel) (by decide +kernel)
theorem kw_7 : (Cond.selects RX10 yX10_appendPlan yX10_appendPlan) ∈ TW := tw_in 7 (by decide +kernel) (by decide +kernel)
theorem kw_8 : (Cond.selects RX10 yX10_rowOf yX10_rowOf) ∈ TW := tw_in 8 (by decide +kernel) (by decide +kernel)
theorem kw_9 : (Cond.selects RX9 yX9_isCrooked yX9_isCrooked) ∈ TW := tw_in 9 (by decide +kernel) (by decide +kernel)
theorem kw_10 : (Cond.selects RX9 yX9_inTextAt yX9_inTextAt) ∈ TW := tw_in 10 (by decide +kernel) (by decide +kernel)
theorem kw_11 : (Cond.selects RX9 yX9_placeKey yX9_placeKey) ∈ TW := tw_in 11 (by decide +kernel) (by decide +kernel)
theorem kw_12 : (Cond.selects RX10 yX10_checkComparator yX10_checkComparator) ∈ TW := tw_in 12 (by decide +kernel) (by decide +kernel)
theorem kw_13 : (Cond.selects RX4 yX4_rowOutOf yX4_rowOutOf) ∈ TW := tw_in 13 (by decide +kernel) (by decide +kernel)
theorem kw_14 : (Cond.selects RX3 yX3_keep yX3_keep) ∈ TW := tw_in 14 (by decide +kernel) (by decide +kernel)
theorem kw_15 : (Cond.selects RX6 yX6_learn yX6_learn) ∈ TW := tw_in 15 (by decide +kernel) (by decide +kernel)
theorem kw_16 : (Cond.selects RX6 yX6_listSteps yX6_listSteps) ∈ TW := tw_in 16 (by decide +kernel) (by decide +kernel)
theorem kw_17 : (Cond.selects RX6 yX6_listChanges yX6_listChanges) ∈ TW := tw_in 17 (by decide +kernel) (by decide +kernel)
theorem kw_18 : (Cond.selects RX6 yX6_append yX6_append) ∈ TW := tw_in 18 (by decide +kernel) (by decide +kernel)
theorem kw_19 : (Cond.selects RX6 yX6_listFlips yX6_listFlips) ∈ TW := tw_in 19 (by decide +kernel) (by decide +kernel)
theorem kw_20 : (Cond.selects RX6 yX6_listBlocks yX6_listBlocks) ∈ TW := tw_in 20 (by decide +kernel) (by decide +kernel)
theorem kw_21 : (Cond.selects RX7 yX7_learn yX7_learn) ∈ TW := tw_in 21 (by decide +kernel) (by decide +kernel)
theorem kw_22 : (Cond.selects RX7 yX7_reach yX7_reach) ∈ TW := tw_in 22 (by decide +kernel) (by decide +kernel)
theorem kw_23 : (Cond.selects RX9 yX9_changeNames yX9_changeNames) ∈ TW := tw_in 23 (by decide +kernel) (by decide +kernel)
theorem kw_24 : (Cond.initialized RL) ∈ TW := tw_in 24 (by decide +kernel) (by decide +kernel)
theorem kw_25 : (Cond.initialized RX10) ∈ TW := tw_in 25 (by decide +kernel) (by decide +kernel)
theorem kw_26 : (Cond.initialized RX9) ∈ TW := tw_in 26 (by decide +kernel) (by decide +kernel)
theorem kw_27 : (Cond.initialized RX8) ∈ TW := tw_in 27 (by decide +kernel) (by decide +kernel)
theorem kw_28 : (Cond.initialized RX4) ∈ TW := tw_in 28 (by decide +kernel) (by decide +kernel)
theorem kw_29 : (Cond.initialized RX2) ∈ TW := tw_in 29 (by decide +kernel) (by decide +kernel)
theorem kw_30 : (Cond.initialized RX3) ∈ TW := tw_in 30 (by decide +kernel) (by decide +kernel)
theorem kw_31 : (Cond.initialized RX7) ∈ TW := tw_in 31 (by decide +kernel) (by decide +kernel)
theorem kw_32 : (Cond.initialized RX1) ∈ TW := tw_in 32 (by decide +kernel) (by decide +kernel)
theorem kw_33 : (Cond.initialized RX6) ∈ TW := tw_in 33 (by decide +kernel) (by decide +kernel)
theorem kw_34 : (Cond.initialized RX0) ∈ TW := tw_in 34 (by decide +kernel) (by decide +kernel)
theorem kw_38 : (Cond.initialized "java/lang/IllegalArgumentException") ∈ TW := tw_in 38 (by decide +kernel) (by decide +kernel)
theorem kw_39 : (Cond.initialized "java/lang/IndexOutOfBoundsException") ∈ TW := tw_in 39 (by decide +kernel) (by decide +kernel)
theorem kw_40 : (Cond.initialized "java/lang/IllegalStateException") ∈ TW := tw_in 40 (by decide +kernel) (by decide +kernel)
theorem kw_41 : (Cond.initialized RX5) ∈ TW := tw_in 41 (by decide +kernel) (by decide +kernel)
theorem kw_42 : (Cond.initialized RJ9) ∈ TW := tw_in 42 (by decide +kernel) (by decide +kernel)
theorem kw_43 : (Cond.initialized RJ13) ∈ TW := tw_in 43 (by decide +kernel) (by decide +kernel)
theorem kw_44 : (Cond.initialized RJ6) ∈ TW := tw_in 44 (by decide +kernel) (by decide +kernel)
theorem kw_50 : (Cond.methodLink "Comparatory" (1 : Nat) ({ cls := "java/lang/Object", name := "<init>", desc := "()V" } : MethodName)) ∈ TW := tw_in 50 (by decide +kernel) (by decide +kernel)
theorem kw_51 : (Cond.instanceMethod ({ cls := "java/lang/Object", name := "<init>", desc := "()V" } : MethodName)) ∈ TW := tw_in 51 (by decide +kernel) (by decide +kernel)
theorem kw_52 : (Cond.code Lib.objectInit ⟨#[0xb1]⟩ 1 none) ∈ TW := tw_in 52 (by decide +kernel) (by decide +kernel)
theorem kw_53 : (Cond.classLink "Comparatory" (7 : Nat) "Comparatory$Wiring") ∈ TW := tw_in 53 (by decide +kernel) (by decide +kernel)
theorem kw_54 : (Cond.instantiable "Comparatory$Wiring" (6 : Nat)) ∈ TW := tw_in 54 (by decide +kernel) (by decide +kernel)
theorem kw_55 : (Cond.methodLinkNest RX10 9 yX9_init "Comparatory") ∈ NST := nst_in 55 (by decide +kernel) (by decide +kernel)
theorem kw_56 : (Cond.instanceMethod yX9_init) ∈ TW := tw_in 56 (by decide +kernel) (by decide +kernel)
theorem kw_57 : (Cond.code yX9_init cX9_init 1 (none)) ∈ TW := tw_in 57 (by decide +kernel) (by decide +kernel)
theorem kw_58 : (Cond.methodLink "Comparatory$Wiring" (3 : Nat) ({ cls := "java/lang/Object", name := "<init>", desc := "()V" } : MethodName)) ∈ TW := tw_in 58 (by decide +kernel) (by decide +kernel)
theorem kw_59 : (Cond.fieldLink RX9 9 RX9 "wires" "I") ∈ TW := tw_in 59 (by decide +kernel) (by decide +kernel)
theorem kw_60 : (Cond.fieldLinkNest RX7 27 RX9 "wires" "I" "Comparatory") ∈ NST := nst_in 60 (by decide +kernel) (by decide +kernel)
theorem kw_61 : (Cond.fieldLinkNest RX10 109 RX9 "wires" "I" "Comparatory") ∈ NST := nst_in 61 (by decide +kernel) (by decide +kernel)
theorem kw_62 : (Cond.fieldLinkNest RX4 34 RX9 "wires" "I" "Comparatory") ∈ NST := nst_in 62 (by decide +kernel) (by decide +kernel)
theorem kw_63 : (Cond.fieldLink RX9 15 RX9 "count" "I") ∈ TW := tw_in 63 (by decide +kernel) (by decide +kernel)
theorem kw_64 : (Cond.fieldLinkNest RX3 19 RX9 "count" "I" "Comparatory") ∈ NST := nst_in 64 (by decide +kernel) (by decide +kernel)
theorem kw_65 : (Cond.fieldLinkNest RX10 75 RX9 "count" "I" "Comparatory") ∈ NST := nst_in 65 (by decide +kernel) (by decide +kernel)
theorem kw_66 : (Cond.fieldLinkNest RX1 29 RX9 "count" "I" "Comparatory") ∈ NST := nst_in 66 (by decide +kernel) (by decide +kernel)
theorem kw_67 : (Cond.fieldLinkNest RX7 38 RX9 "count" "I" "Comparatory") ∈ NST := nst_in 67 (by decide +kernel) (by decide +kernel)
theorem kw_68 : (Cond.fieldLinkNest RX4 63 RX9 "count" "I" "Comparatory") ∈ NST := nst_in 68 (by decide +kernel) (by decide +kernel)
theorem kw_69 : (Cond.fieldLink RX9 18 RX9 "firsts" "[I") ∈ TW := tw_in 69 (by decide +kernel) (by decide +kernel)
theorem kw_70 : (Cond.fieldLinkNest RX1 34 RX9 "firsts" "[I" "Comparatory") ∈ NST := nst_in 70 (by decide +kernel) (by decide +kernel)
theorem kw_71 : (Cond.fieldLinkNest RX7 39 RX9 "firsts" "[I" "Comparatory") ∈ NST := nst_in 71 (by decide +kernel) (by decide +kernel)
theorem kw_72 : (Cond.fieldLinkNest RX4 44 RX9 "firsts" "[I" "Comparatory") ∈ NST := nst_in 72 (by decide +kernel) (by decide +kernel)
theorem kw_73 : (Cond.fieldLinkNest RX10 152 RX9 "firsts" "[I" "Comparatory") ∈ NST := nst_in 73 (by decide +kernel) (by decide +kernel)
theorem kw_74 : (Cond.fieldLink RX9 22 RX9 "others" "[I") ∈ TW := tw_in 74 (by decide +kernel) (by decide +kernel)
theorem kw_75 : (Cond.fieldLinkNest RX1 37 RX9 "others" "[I" "Comparatory") ∈ NST := nst_in 75 (by decide +kernel) (by decide +kernel)
theorem kw_76 : (Cond.fieldLinkNest RX7 42 RX9 "others" "[I" "Comparatory") ∈ NST := nst_in 76 (by decide +kernel) (by decide +kernel)
theorem kw_77 : (Cond.fieldLinkNest RX4 48 RX9 "others" "[I" "Comparatory") ∈ NST := nst_in 77 (by decide +kernel) (by decide +kernel)
theorem kw_78 : (Cond.fieldLinkNest RX10 156 RX9 "others" "[I" "Comparatory") ∈ NST := nst_in 78 (by decide +kernel) (by decide +kernel)
theorem kw_79 : (Cond.fieldLink RX9 25 RX9 "layers" "[I") ∈ TW := tw_in 79 (by decide +kernel) (by decide +kernel)
theorem kw_80 : (Cond.fieldLink RX9 28 RX9 "freeFrom" "[I") ∈ TW := tw_in 80 (by decide +kernel) (by decide +kernel)
theorem kw_94 : (Cond.arrayClass ClassFile.FieldType.int) ∈ TW := tw_in 94 (by decide +kernel) (by decide +kernel)
theorem kw_95 : (Cond.classLink "Comparatory" (19 : Nat) "Comparatory$Tape") ∈ TW := tw_in 95 (by decide +kernel) (by decide +kernel)
theorem kw_96 : (Cond.instantiable "Comparatory$Tape" (2 : Nat)) ∈ TW := tw_in 96 (by decide +kernel) (by decide +kernel)
theorem kw_97 : (Cond.methodLinkNest RX10 21 yX8_init "Comparatory") ∈ NST := nst_in 97 (by decide +kernel) (by decide +kernel)
theorem kw_98 : (Cond.instanceMethod yX8_init) ∈ TW := tw_in 98 (by decide +kernel) (by decide +kernel)
theorem kw_99 : (Cond.code yX8_init cX8_init 1 (none)) ∈ TW := tw_in 99 (by decide +kernel) (by decide +kernel)
theorem kw_100 : (Cond.methodLink "Comparatory$Tape" (3 : Nat) ({ cls := "java/lang/Object", name := "<init>", desc := "()V" } : MethodName)) ∈ TW := tw_in 100 (by decide +kernel) (by decide +kernel)
theorem kw_101 : (Cond.fieldLink RX8 9 RX8 "signs" "[C") ∈ TW := tw_in 101 (by decide +kernel) (by decide +kernel)
theorem kw_102 : (Cond.fieldLink RX8 15 RX8 "length" "I") ∈ TW := tw_in 102 (by decide +kernel) (by decide +kernel)
theorem kw_103 : (Cond.fieldLinkNest RX10 194 RX8 "length" "I" "Comparatory") ∈ NST := nst_in 103 (by decide +kernel) (by decide +kernel)
theorem kw_109 : (Cond.arrayClass ClassFile.FieldType.char) ∈ TW := tw_in 109 (by decide +kernel) (by decide +kernel)
theorem kw_110 : (Cond.classLink "Comparatory" (26 : Nat) "Comparatory$Proof") ∈ TW := tw_in 110 (by decide +kernel) (by decide +kernel)
theorem kw_111 : (Cond.instantiable "Comparatory$Proof" (3 : Nat)) ∈ TW := tw_in 111 (by decide +kernel) (by decide +kernel)
theorem kw_112 : (Cond.methodLinkNest RX10 28 yX4_init "Comparatory") ∈ NST := nst_in 112 (by decide +kernel) (by decide +kernel)
theorem kw_113 : (Cond.instanceMethod yX4_init) ∈ TW := tw_in 113 (by decide +kernel) (by decide +kernel)
theorem kw_114 : (Cond.code yX4_init cX4_init 1 (none)) ∈ TW := tw_in 114 (by decide +kernel) (by decide +kernel)
theorem kw_115 : (Cond.methodLink "Comparatory$Proof" (3 : Nat) ({ cls := "java/lang/Object", name := "<init>", desc := "()V" } : MethodName)) ∈ TW := tw_in 115 (by decide +kernel) (by decide +kernel)
theorem kw_116 : (Cond.classLink "Comparatory$Proof" (18 : Nat) "Comparatory$Chains") ∈ TW := tw_in 116 (by decide +kernel) (by decide +kernel)
theorem kw_117 : (Cond.instantiable "Comparatory$Chains" (1 : Nat)) ∈ TW := tw_in 117 (by decide +kernel) (by decide +kernel)
theorem kw_118 : (Cond.methodLinkNest RX4 20 yX2_init "Comparatory") ∈ NST := nst_in 118 (by decide +kernel) (by decide +kernel)
theorem kw_119 : (Cond.instanceMethod yX2_init) ∈ TW := tw_in 119 (by decide +kernel) (by decide +kernel)
theorem kw_120 : (Cond.code yX2_init cX2_init 1 (none)) ∈ TW := tw_in 120 (by decide +kernel) (by decide +kernel)
theorem kw_121 : (Cond.methodLink "Comparatory$Chains" (3 : Nat) ({ cls := "java/lang/Object", name := "<init>", desc := "()V" } : MethodName)) ∈ TW := tw_in 121 (by decide +kernel) (by decide +kernel)
theorem kw_122 : (Cond.fieldLink RX2 9 RX2 "ways" "[I") ∈ TW := tw_in 122 (by decide +kernel) (by decide +kernel)
theorem kw_126 : (Cond.arrayClass ClassFile.FieldType.long) ∈ TW := tw_in 126 (by decide +kernel) (by decide +kernel)
theorem kw_127 : (Cond.fieldLink RX4 9 RX4 "columns" "[J") ∈ TW := tw_in 127 (by decide +kernel) (by decide +kernel)
theorem kw_128 : (Cond.fieldLink RX4 15 RX4 "sound" "[J") ∈ TW := tw_in 128 (by decide +kernel) (by decide +kernel)
theorem kw_129 : (Cond.fieldLink RX4 21 RX4 "chains" "LComparatory$Chains;") ∈ TW := tw_in 129 (by decide +kernel) (by decide +kernel)
theorem kw_137 : (Cond.classLink "Comparatory" (33 : Nat) "Comparatory$Faults") ∈ TW := tw_in 137 (by decide +kernel) (by decide +kernel)
theorem kw_138 : (Cond.instantiable "Comparatory$Faults" (2 : Nat)) ∈ TW := tw_in 138 (by decide +kernel) (by decide +kernel)
theorem kw_139 : (Cond.methodLinkNest RX10 35 yX3_init "Comparatory") ∈ NST := nst_in 139 (by decide +kernel) (by decide +kernel)
theorem kw_140 : (Cond.instanceMethod yX3_init) ∈ TW := tw_in 140 (by decide +kernel) (by decide +kernel)
theorem kw_141 : (Cond.code yX3_init cX3_init 1 (none)) ∈ TW := tw_in 141 (by decide +kernel) (by decide +kernel)
theorem kw_142 : (Cond.methodLink "Comparatory$Faults" (3 : Nat) ({ cls := "java/lang/Object", name := "<init>", desc := "()V" } : MethodName)) ∈ TW := tw_in 142 (by decide +kernel) (by decide +kernel)
theorem kw_143 : (Cond.fieldLink RX3 9 RX3 "sets" "[J") ∈ TW := tw_in 143 (by decide +kernel) (by decide +kernel)
theorem kw_144 : (Cond.fieldLink RX3 15 RX3 "count" "I") ∈ TW := tw_in 144 (by decide +kernel) (by decide +kernel)
theorem kw_150 : (Cond.classLink "Comparatory" (40 : Nat) "Comparatory$Switches") ∈ TW := tw_in 150 (by decide +kernel) (by decide +kernel)
theorem kw_151 : (Cond.instantiable "Comparatory$Switches" (3 : Nat)) ∈ TW := tw_in 151 (by decide +kernel) (by decide +kernel)
theorem kw_152 : (Cond.methodLinkNest RX10 42 yX7_init "Comparatory") ∈ NST := nst_in 152 (by decide +kernel) (by decide +kernel)
theorem kw_153 : (Cond.instanceMethod yX7_init) ∈ TW := tw_in 153 (by decide +kernel) (by decide +kernel)
theorem kw_154 : (Cond.code yX7_init cX7_init 1 (none)) ∈ TW := tw_in 154 (by decide +kernel) (by decide +kernel)
theorem kw_155 : (Cond.methodLink "Comparatory$Switches" (3 : Nat) ({ cls := "java/lang/Object", name := "<init>", desc := "()V" } : MethodName)) ∈ TW := tw_in 155 (by decide +kernel) (by decide +kernel)
theorem kw_156 : (Cond.fieldLink RX7 9 RX7 "rows" "[I") ∈ TW := tw_in 156 (by decide +kernel) (by decide +kernel)
theorem kw_157 : (Cond.fieldLink RX7 15 RX7 "since" "[B") ∈ TW := tw_in 157 (by decide +kernel) (by decide +kernel)
theorem kw_158 : (Cond.fieldLink RX7 19 RX7 "count" "I") ∈ TW := tw_in 158 (by decide +kernel) (by decide +kernel)
theorem kw_166 : (Cond.arrayClass ClassFile.FieldType.byte) ∈ TW := tw_in 166 (by decide +kernel) (by decide +kernel)
theorem kw_167 : (Cond.classLink "Comparatory" (47 : Nat) "Comparatory$Balancers") ∈ TW := tw_in 167 (by decide +kernel) (by decide +kernel)
theorem kw_168 : (Cond.instantiable "Comparatory$Balancers" (5 : Nat)) ∈ TW := tw_in 168 (by decide +kernel) (by decide +kernel)
theorem kw_169 : (Cond.methodLinkNest RX10 49 yX1_init "Comparatory") ∈ NST := nst_in 169 (by decide +kernel) (by decide +kernel)
theorem kw_170 : (Cond.instanceMethod yX1_init) ∈ TW := tw_in 170 (by decide +kernel) (by decide +kernel)
theorem kw_171 : (Cond.code yX1_init cX1_init 1 (none)) ∈ TW := tw_in 171 (by decide +kernel) (by decide +kernel)
theorem kw_172 : (Cond.methodLink "Comparatory$Balancers" (3 : Nat) ({ cls := "java/lang/Object", name := "<init>", desc := "()V" } : MethodName)) ∈ TW := tw_in 172 (by decide +kernel) (by decide +kernel)
theorem kw_173 : (Cond.fieldLink RX1 9 RX1 "in" "[I") ∈ TW := tw_in 173 (by decide +kernel) (by decide +kernel)
theorem kw_174 : (Cond.fieldLink RX1 15 RX1 "out" "[I") ∈ TW := tw_in 174 (by decide +kernel) (by decide +kernel)
theorem kw_175 : (Cond.fieldLinkNest RX10 280 RX1 "out" "[I" "Comparatory") ∈ NST := nst_in 175 (by decide +kernel) (by decide +kernel)
theorem kw_176 : (Cond.fieldLink RX1 18 RX1 "anew" "[I") ∈ TW := tw_in 176 (by decide +kernel) (by decide +kernel)
theorem kw_177 : (Cond.fieldLink RX1 21 RX1 "isOtherNext" "[Z") ∈ TW := tw_in 177 (by decide +kernel) (by decide +kernel)
theorem kw_178 : (Cond.fieldLink RX1 25 RX1 "total" "I") ∈ TW := tw_in 178 (by decide +kernel) (by decide +kernel)
theorem kw_179 : (Cond.fieldLinkNest RX10 272 RX1 "total" "I" "Comparatory") ∈ NST := nst_in 179 (by decide +kernel) (by decide +kernel)
theorem kw_191 : (Cond.arrayClass ClassFile.FieldType.boolean) ∈ TW := tw_in 191 (by decide +kernel) (by decide +kernel)
theorem kw_192 : (Cond.classLink "Comparatory" (54 : Nat) "Comparatory$Steps") ∈ TW := tw_in 192 (by decide +kernel) (by decide +kernel)
theorem kw_193 : (Cond.instantiable "Comparatory$Steps" (4 : Nat)) ∈ TW := tw_in 193 (by decide +kernel) (by decide +kernel)
theorem kw_194 : (Cond.methodLinkNest RX10 56 yX6_init "Comparatory") ∈ NST := nst_in 194 (by decide +kernel) (by decide +kernel)
theorem kw_195 : (Cond.instanceMethod yX6_init) ∈ TW := tw_in 195 (by decide +kernel) (by decide +kernel)
theorem kw_196 : (Cond.code yX6_init cX6_init 1 (none)) ∈ TW := tw_in 196 (by decide +kernel) (by decide +kernel)
theorem kw_197 : (Cond.methodLink "Comparatory$Steps" (3 : Nat) ({ cls := "java/lang/Object", name := "<init>", desc := "()V" } : MethodName)) ∈ TW := tw_in 197 (by decide +kernel) (by decide +kernel)
theorem kw_198 : (Cond.fieldLink RX6 11 RX6 "known" "[B") ∈ TW := tw_in 198 (by decide +kernel) (by decide +kernel)
theorem kw_199 : (Cond.fieldLink RX6 15 RX6 "queue" "[I") ∈ TW := tw_in 199 (by decide +kernel) (by decide +kernel)
theorem kw_200 : (Cond.fieldLink RX6 19 RX6 "list" "[I") ∈ TW := tw_in 200 (by decide +kernel) (by decide +kernel)
theorem kw_201 : (Cond.fieldLink RX6 22 RX6 "count" "I") ∈ TW := tw_in 201 (by decide +kernel) (by decide +kernel)
theorem kw_211 : (Cond.classLink "Comparatory" (61 : Nat) "Comparatory$Adversary") ∈ TW := tw_in 211 (by decide +kernel) (by decide +kernel)
theorem kw_212 : (Cond.instantiable "Comparatory$Adversary" (2 : Nat)) ∈ TW := tw_in 212 (by decide +kernel) (by decide +kernel)
theorem kw_213 : (Cond.methodLinkNest RX10 63 yX0_init "Comparatory") ∈ NST := nst_in 213 (by decide +kernel) (by decide +kernel)
theorem kw_214 : (Cond.instanceMethod yX0_init) ∈ TW := tw_in 214 (by decide +kernel) (by decide +kernel)
theorem kw_215 : (Cond.code yX0_init cX0_init 1 (none)) ∈ TW := tw_in 215 (by decide +kernel) (by decide +kernel)
theorem kw_216 : (Cond.methodLink "Comparatory$Adversary" (3 : Nat) ({ cls := "java/lang/Object", name := "<init>", desc := "()V" } : MethodName)) ∈ TW := tw_in 216 (by decide +kernel) (by decide +kernel)
theorem kw_217 : (Cond.classLink "Comparatory$Adversary" (15 : Nat) "Comparatory$Chains") ∈ TW := tw_in 217 (by decide +kernel) (by decide +kernel)
theorem kw_218 : (Cond.methodLinkNest RX0 17 yX2_init "Comparatory") ∈ NST := nst_in 218 (by decide +kernel) (by decide +kernel)
theorem kw_219 : (Cond.fieldLink RX0 9 RX0 "lesser" "J") ∈ TW := tw_in 219 (by decide +kernel) (by decide +kernel)
theorem kw_220 : (Cond.fieldLink RX0 18 RX0 "chains" "LComparatory$Chains;") ∈ TW := tw_in 220 (by decide +kernel) (by decide +kernel)
theorem kw_226 : (Cond.fieldLink RX10 10 RX10 "wiring" "LComparatory$Wiring;") ∈ TW := tw_in 226 (by decide +kernel) (by decide +kernel)
theorem kw_227 : (Cond.fieldLink RX10 16 RX10 "plan" "LComparatory$Wiring;") ∈ TW := tw_in 227 (by decide +kernel) (by decide +kernel)
theorem kw_228 : (Cond.fieldLink RX10 22 RX10 "tape" "LComparatory$Tape;") ∈ TW := tw_in 228 (by decide +kernel) (by decide +kernel)
theorem kw_229 : (Cond.fieldLink RX10 29 RX10 "proof" "LComparatory$Proof;") ∈ TW := tw_in 229 (by decide +kernel) (by decide +kernel)
theorem kw_230 : (Cond.fieldLink RX10 36 RX10 "faults" "LComparatory$Faults;") ∈ TW := tw_in 230 (by decide +kernel) (by decide +kernel)
theorem kw_231 : (Cond.fieldLink RX10 43 RX10 "switches" "LComparatory$Switches;") ∈ TW := tw_in 231 (by decide +kernel) (by decide +kernel)
theorem kw_232 : (Cond.fieldLink RX10 50 RX10 "balancers" "LComparatory$Balancers;") ∈ TW := tw_in 232 (by decide +kernel) (by decide +kernel)
theorem kw_233 : (Cond.fieldLink RX10 57 RX10 "orders" "LComparatory$Steps;") ∈ TW := tw_in 233 (by decide +kernel) (by decide +kernel)
theorem kw_234 : (Cond.fieldLink RX10 64 RX10 "adversary" "LComparatory$Adversary;") ∈ TW := tw_in 234 (by decide +kernel) (by decide +kernel)
theorem kw_258 : (Cond.classLink "Comparatory" (68 : Nat) "java/lang/IllegalArgumentException") ∈ TW := tw_in 258 (by decide +kernel) (by decide +kernel)
theorem kw_260 : (Cond.castable "java/lang/IllegalArgumentException" "java/lang/IllegalArgumentException") ∈ STW := st_in 260 (by decide +kernel) (by decide +kernel)
theorem kw_325 : (Cond.methodLink RX10 79 yX9_begin) ∈ TW := tw_in 325 (by decide +kernel) (by decide +kernel)
theorem kw_326 : (Cond.instanceMethod yX9_begin) ∈ TW := tw_in 326 (by decide +kernel) (by decide +kernel)
theorem kw_327 : (Cond.selects RX9 yX9_begin yX9_begin) ∈ TW := tw_in 327 (by decide +kernel) (by decide +kernel)
theorem kw_328 : (Cond.code yX9_begin cX9_begin 2 (none)) ∈ TW := tw_in 328 (by decide +kernel) (by decide +kernel)
theorem kw_329 : (Cond.methodLink RX10 83 yX0_forget) ∈ TW := tw_in 329 (by decide +kernel) (by decide +kernel)
theorem kw_330 : (Cond.instanceMethod yX0_forget) ∈ TW := tw_in 330 (by decide +kernel) (by decide +kernel)
theorem kw_331 : (Cond.selects RX0 yX0_forget yX0_forget) ∈ TW := tw_in 331 (by decide +kernel) (by decide +kernel)
theorem kw_332 : (Cond.code yX0_forget cX0_forget 1 (none)) ∈ TW := tw_in 332 (by decide +kernel) (by decide +kernel)
theorem kw_333 : (Cond.methodLink RX10 86 yX10_forgetWhatDependsOnComparators) ∈ TW := tw_in 333 (by decide +kernel) (by decide +kernel)
theorem kw_335 : (Cond.instanceMethod yX10_forgetWhatDependsOnComparators) ∈ TW := tw_in 335 (by decide +kernel) (by decide +kernel)
theorem kw_336 : (Cond.code yX10_forgetWhatDependsOnComparators cX10_forgetWhatDependsOnComparators 1 (none)) ∈ TW := tw_in 336 (by decide +kernel) (by decide +kernel)
theorem kw_337 : (Cond.methodLink RX10 333 yX1_forget) ∈ TW := tw_in 337 (by decide +kernel) (by decide +kernel)
theorem kw_338 : (Cond.instanceMethod yX1_forget) ∈ TW := tw_in 338 (by decide +kernel) (by decide +kernel)
theorem kw_339 : (Cond.selects RX1 yX1_forget yX1_forget) ∈ TW := tw_in 339 (by decide +kernel) (by decide +kernel)
theorem kw_340 : (Cond.code yX1_forget cX1_forget 2 (none)) ∈ TW := tw_in 340 (by decide +kernel) (by decide +kernel)
theorem kw_341 : (Cond.methodLink RX10 334 yX7_forget) ∈ TW := tw_in 341 (by decide +kernel) (by decide +kernel)
theorem kw_342 : (Cond.instanceMethod yX7_forget) ∈ TW := tw_in 342 (by decide +kernel) (by decide +kernel)
theorem kw_343 : (Cond.selects RX7 yX7_forget yX7_forget) ∈ TW := tw_in 343 (by decide +kernel) (by decide +kernel)
theorem kw_344 : (Cond.code yX7_forget cX7_forget 1 (none)) ∈ TW := tw_in 344 (by decide +kernel) (by decide +kernel)
theorem kw_349 : (Cond.methodLink RX10 203 yX8_empty) ∈ TW := tw_in 349 (by decide +kernel) (by decide +kernel)
theorem kw_350 : (Cond.instanceMethod yX8_empty) ∈ TW := tw_in 350 (by decide +kernel) (by decide +kernel)
theorem kw_351 : (Cond.selects RX8 yX8_empty yX8_empty) ∈ TW := tw_in 351 (by decide +kernel) (by decide +kernel)
theorem kw_352 : (Cond.code yX8_empty cX8_empty 1 (none)) ∈ TW := tw_in 352 (by decide +kernel) (by decide +kernel)
theorem kw_357 : (Cond.methodLink RX10 89 yX10_checkTwoWires) ∈ TW := tw_in 357 (by decide +kernel) (by decide +kernel)
theorem kw_359 : (Cond.instanceMethod yX10_checkTwoWires) ∈ TW := tw_in 359 (by decide +kernel) (by decide +kernel)
theorem kw_360 : (Cond.code yX10_checkTwoWires cX10_checkTwoWires 3 (none)) ∈ TW := tw_in 360 (by decide +kernel) (by decide +kernel)
theorem kw_361 : (Cond.methodLink RX10 269 yX10_checkWire) ∈ TW := tw_in 361 (by decide +kernel) (by decide +kernel)
theorem kw_363 : (Cond.instanceMethod yX10_checkWire) ∈ TW := tw_in 363 (by decide +kernel) (by decide +kernel)
theorem kw_364 : (Cond.code yX10_checkWire cX10_checkWire 2 (none)) ∈ TW := tw_in 364 (by decide +kernel) (by decide +kernel)
theorem kw_365 : (Cond.classLink "Comparatory" (247 : Nat) "java/lang/IndexOutOfBoundsException") ∈ TW := tw_in 365 (by decide +kernel) (by decide +kernel)
theorem kw_382 : (Cond.methodLink RX10 323 yX0_answer) ∈ TW := tw_in 382 (by decide +kernel) (by decide +kernel)
theorem kw_383 : (Cond.instanceMethod yX0_answer) ∈ TW := tw_in 383 (by decide +kernel) (by decide +kernel)
theorem kw_384 : (Cond.selects RX0 yX0_answer yX0_answer) ∈ TW := tw_in 384 (by decide +kernel) (by decide +kernel)
theorem kw_385 : (Cond.code yX0_answer cX0_answer 11 (some .boolean)) ∈ TW := tw_in 385 (by decide +kernel) (by decide +kernel)
theorem kw_386 : (Cond.methodLink RX0 22 yX0_isLesser) ∈ TW := tw_in 386 (by decide +kernel) (by decide +kernel)
theorem kw_387 : (Cond.static yX0_isLesser) ∈ TW := tw_in 387 (by decide +kernel) (by decide +kernel)
theorem kw_388 : (Cond.code yX0_isLesser cX0_isLesser 2 (some .long)) ∈ TW := tw_in 388 (by decide +kernel) (by decide +kernel)
theorem kw_389 : (Cond.methodLink RX0 26 yX0_countOf) ∈ TW := tw_in 389 (by decide +kernel) (by decide +kernel)
theorem kw_390 : (Cond.static yX0_countOf) ∈ TW := tw_in 390 (by decide +kernel) (by decide +kernel)
theorem kw_391 : (Cond.code yX0_countOf cX0_countOf 4 (some .int)) ∈ TW := tw_in 391 (by decide +kernel) (by decide +kernel)
theorem kw_392 : (Cond.constantLong "Comparatory$Adversary" (38 : Nat) (-1 : Int64)) ∈ TW := tw_in 392 (by decide +kernel) (by decide +kernel)
theorem kw_393 : (Cond.methodLink RX0 40 yX2_countOf) ∈ TW := tw_in 393 (by decide +kernel) (by decide +kernel)
theorem kw_394 : (Cond.instanceMethod yX2_countOf) ∈ TW := tw_in 394 (by decide +kernel) (by decide +kernel)
theorem kw_395 : (Cond.selects RX2 yX2_countOf yX2_countOf) ∈ TW := tw_in 395 (by decide +kernel) (by decide +kernel)
theorem kw_396 : (Cond.code yX2_countOf cX2_countOf 8 (some .int)) ∈ TW := tw_in 396 (by decide +kernel) (by decide +kernel)
theorem kw_397 : (Cond.methodLink RX2 15 yX2_waysTo) ∈ TW := tw_in 397 (by decide +kernel) (by decide +kernel)
theorem kw_399 : (Cond.instanceMethod yX2_waysTo) ∈ TW := tw_in 399 (by decide +kernel) (by decide +kernel)
theorem kw_400 : (Cond.code yX2_waysTo cX2_waysTo 9 (some .int)) ∈ TW := tw_in 400 (by decide +kernel) (by decide +kernel)
theorem kw_406 : (Cond.methodLink RL 161 yL_low) ∈ TW := tw_in 406 (by decide +kernel) (by decide +kernel)
theorem kw_407 : (Cond.static yL_low) ∈ TW := tw_in 407 (by decide +kernel) (by decide +kernel)
theorem kw_408 : (Cond.code yL_low cL_low 2 (some .int)) ∈ TW := tw_in 408 (by decide +kernel) (by decide +kernel)
theorem kw_409 : (Cond.constant "ComparatoryLaw" (9 : Nat) (2147483647 : Int32)) ∈ TW := tw_in 409 (by decide +kernel) (by decide +kernel)
theorem kw_410 : (Cond.methodLink RL 267 yL_calls) ∈ TW := tw_in 410 (by decide +kernel) (by decide +kernel)
theorem kw_411 : (Cond.static yL_calls) ∈ TW := tw_in 411 (by decide +kernel) (by decide +kernel)
theorem kw_412 : (Cond.codeWith yL_calls cL_calls 7 (some .int) [(0, 83, 84, 37), (0, 83, 90, 39)]) ∈ TW := tw_in 412 (by decide +kernel) (by decide +kernel)
theorem kw_413 : (Cond.classLink "ComparatoryLaw" (37 : Nat) "java/lang/IllegalArgumentException") ∈ TW := tw_in 413 (by decide +kernel) (by decide +kernel)
theorem kw_414 : (Cond.classLink "ComparatoryLaw" (39 : Nat) "java/lang/IllegalStateException") ∈ TW := tw_in 414 (by decide +kernel) (by decide +kernel)
theorem kw_415 : (Cond.methodLink RL 10 yX10_add) ∈ TW := tw_in 415 (by decide +kernel) (by decide +kernel)
theorem kw_416 : (Cond.instanceMethod yX10_add) ∈ TW := tw_in 416 (by decide +kernel) (by decide +kernel)
theorem kw_417 : (Cond.selects RX10 yX10_add yX10_add) ∈ TW := tw_in 417 (by decide +kernel) (by decide +kernel)
theorem kw_418 : (Cond.code yX10_add cX10_add 3 (some .int)) ∈ TW := tw_in 418 (by decide +kernel) (by decide +kernel)
theorem kw_419 : (Cond.methodLink RX10 93 yX10_checkRoomFor) ∈ TW := tw_in 419 (by decide +kernel) (by decide +kernel)
theorem kw_421 : (Cond.instanceMethod yX10_checkRoomFor) ∈ TW := tw_in 421 (by decide +kernel) (by decide +kernel)
theorem kw_422 : (Cond.code yX10_checkRoomFor cX10_checkRoomFor 2 (none)) ∈ TW := tw_in 422 (by decide +kernel) (by decide +kernel)
theorem kw_423 : (Cond.classLink "Comparatory" (99 : Nat) "java/lang/IllegalStateException") ∈ TW := tw_in 423 (by decide +kernel) (by decide +kernel)
theorem kw_425 : (Cond.castable "java/lang/IllegalStateException" "java/lang/IllegalStateException") ∈ STW := st_in 425 (by decide +kernel) (by decide +kernel)
theorem kw_439 : (Cond.methodLink RX10 96 yX9_append) ∈ TW := tw_in 439 (by decide +kernel) (by decide +kernel)
theorem kw_440 : (Cond.instanceMethod yX9_append) ∈ TW := tw_in 440 (by decide +kernel) (by decide +kernel)
theorem kw_441 : (Cond.selects RX9 yX9_append yX9_append) ∈ TW := tw_in 441 (by decide +kernel) (by decide +kernel)
theorem kw_442 : (Cond.code yX9_append cX9_append 3 (none)) ∈ TW := tw_in 442 (by decide +kernel) (by decide +kernel)
theorem kw_443 : (Cond.methodLink RL 16 yX10_take) ∈ TW := tw_in 443 (by decide +kernel) (by decide +kernel)
theorem kw_444 : (Cond.instanceMethod yX10_take) ∈ TW := tw_in 444 (by decide +kernel) (by decide +kernel)
theorem kw_445 : (Cond.selects RX10 yX10_take yX10_take) ∈ TW := tw_in 445 (by decide +kernel) (by decide +kernel)
theorem kw_446 : (Cond.code yX10_take cX10_take 1 (some .int)) ∈ TW := tw_in 446 (by decide +kernel) (by decide +kernel)
theorem kw_448 : (Cond.methodLink RX10 104 yX9_dropLast) ∈ TW := tw_in 448 (by decide +kernel) (by decide +kernel)
theorem kw_449 : (Cond.instanceMethod yX9_dropLast) ∈ TW := tw_in 449 (by decide +kernel) (by decide +kernel)
theorem kw_450 : (Cond.selects RX9 yX9_dropLast yX9_dropLast) ∈ TW := tw_in 450 (by decide +kernel) (by decide +kernel)
theorem kw_451 : (Cond.code yX9_dropLast cX9_dropLast 1 (none)) ∈ TW := tw_in 451 (by decide +kernel) (by decide +kernel)
theorem kw_452 : (Cond.methodLink RL 20 yX10_make) ∈ TW := tw_in 452 (by decide +kernel) (by decide +kernel)
theorem kw_453 : (Cond.instanceMethod yX10_make) ∈ TW := tw_in 453 (by decide +kernel) (by decide +kernel)
theorem kw_454 : (Cond.selects RX10 yX10_make yX10_make) ∈ TW := tw_in 454 (by decide +kernel) (by decide +kernel)
theorem kw_455 : (Cond.code yX10_make cX10_make 2 (some .int)) ∈ TW := tw_in 455 (by decide +kernel) (by decide +kernel)
theorem kw_457 : (Cond.methodLink RX10 112 yX9_layBubble) ∈ TW := tw_in 457 (by decide +kernel) (by decide +kernel)
theorem kw_458 : (Cond.instanceMethod yX9_layBubble) ∈ TW := tw_in 458 (by decide +kernel) (by decide +kernel)
theorem kw_459 : (Cond.selects RX9 yX9_layBubble yX9_layBubble) ∈ TW := tw_in 459 (by decide +kernel) (by decide +kernel)
theorem kw_460 : (Cond.code yX9_layBubble cX9_layBubble 3 (none)) ∈ TW := tw_in 460 (by decide +kernel) (by decide +kernel)
theorem kw_461 : (Cond.methodLink RX9 31 yX9_append) ∈ TW := tw_in 461 (by decide +kernel) (by decide +kernel)
theorem kw_462 : (Cond.methodLink RX10 115 yX9_layBrick) ∈ TW := tw_in 462 (by decide +kernel) (by decide +kernel)
theorem kw_463 : (Cond.instanceMethod yX9_layBrick) ∈ TW := tw_in 463 (by decide +kernel) (by decide +kernel)
theorem kw_464 : (Cond.selects RX9 yX9_layBrick yX9_layBrick) ∈ TW := tw_in 464 (by decide +kernel) (by decide +kernel)
theorem kw_465 : (Cond.code yX9_layBrick cX9_layBrick 3 (none)) ∈ TW := tw_in 465 (by decide +kernel) (by decide +kernel)
theorem kw_466 : (Cond.methodLink RX10 118 yX9_layMerge) ∈ TW := tw_in 466 (by decide +kernel) (by decide +kernel)
theorem kw_467 : (Cond.instanceMethod yX9_layMerge) ∈ TW := tw_in 467 (by decide +kernel) (by decide +kernel)
theorem kw_468 : (Cond.selects RX9 yX9_layMerge yX9_layMerge) ∈ TW := tw_in 468 (by decide +kernel) (by decide +kernel)
theorem kw_469 : (Cond.code yX9_layMerge cX9_layMerge 4 (none)) ∈ TW := tw_in 469 (by decide +kernel) (by decide +kernel)
theorem kw_470 : (Cond.methodLink RX9 35 yX9_layAcross) ∈ TW := tw_in 470 (by decide +kernel) (by decide +kernel)
theorem kw_472 : (Cond.instanceMethod yX9_layAcross) ∈ TW := tw_in 472 (by decide +kernel) (by decide +kernel)
theorem kw_473 : (Cond.code yX9_layAcross cX9_layAcross 5 (none)) ∈ TW := tw_in 473 (by decide +kernel) (by decide +kernel)
theorem kw_474 : (Cond.methodLink RX10 121 yX10_appendPlan) ∈ TW := tw_in 474 (by decide +kernel) (by decide +kernel)
theorem kw_476 : (Cond.instanceMethod yX10_appendPlan) ∈ TW := tw_in 476 (by decide +kernel) (by decide +kernel)
theorem kw_477 : (Cond.code yX10_appendPlan cX10_appendPlan 2 (some .int)) ∈ TW := tw_in 477 (by decide +kernel) (by decide +kernel)
theorem kw_478 : (Cond.methodLink RL 24 yX10_type) ∈ TW := tw_in 478 (by decide +kernel) (by decide +kernel)
theorem kw_479 : (Cond.instanceMethod yX10_type) ∈ TW := tw_in 479 (by decide +kernel) (by decide +kernel)
theorem kw_480 : (Cond.selects RX10 yX10_type yX10_type) ∈ TW := tw_in 480 (by decide +kernel) (by decide +kernel)
theorem kw_481 : (Cond.code yX10_type cX10_type 5 (some .int)) ∈ TW := tw_in 481 (by decide +kernel) (by decide +kernel)
theorem kw_483 : (Cond.methodLink RX10 184 yX8_signIn) ∈ TW := tw_in 483 (by decide +kernel) (by decide +kernel)
theorem kw_484 : (Cond.static yX8_signIn) ∈ TW := tw_in 484 (by decide +kernel) (by decide +kernel)
theorem kw_485 : (Cond.code yX8_signIn cX8_signIn 3 (some .char)) ∈ TW := tw_in 485 (by decide +kernel) (by decide +kernel)
theorem kw_486 : (Cond.constantLong "Comparatory$Tape" (19 : Nat) (255 : Int64)) ∈ TW := tw_in 486 (by decide +kernel) (by decide +kernel)
theorem kw_487 : (Cond.methodLink RX10 188 yX8_takes) ∈ TW := tw_in 487 (by decide +kernel) (by decide +kernel)
theorem kw_488 : (Cond.static yX8_takes) ∈ TW := tw_in 488 (by decide +kernel) (by decide +kernel)
theorem kw_489 : (Cond.code yX8_takes cX8_takes 1 (some .boolean)) ∈ TW := tw_in 489 (by decide +kernel) (by decide +kernel)
theorem kw_492 : (Cond.methodLink RX10 199 yX8_put) ∈ TW := tw_in 492 (by decide +kernel) (by decide +kernel)
theorem kw_493 : (Cond.instanceMethod yX8_put) ∈ TW := tw_in 493 (by decide +kernel) (by decide +kernel)
theorem kw_494 : (Cond.selects RX8 yX8_put yX8_put) ∈ TW := tw_in 494 (by decide +kernel) (by decide +kernel)
theorem kw_495 : (Cond.code yX8_put cX8_put 2 (none)) ∈ TW := tw_in 495 (by decide +kernel) (by decide +kernel)
theorem kw_496 : (Cond.methodLink RL 28 yX10_build) ∈ TW := tw_in 496 (by decide +kernel) (by decide +kernel)
theorem kw_497 : (Cond.instanceMethod yX10_build) ∈ TW := tw_in 497 (by decide +kernel) (by decide +kernel)
theorem kw_498 : (Cond.selects RX10 yX10_build yX10_build) ∈ TW := tw_in 498 (by decide +kernel) (by decide +kernel)
theorem kw_499 : (Cond.code yX10_build cX10_build 2 (some .int)) ∈ TW := tw_in 499 (by decide +kernel) (by decide +kernel)
theorem kw_500 : (Cond.methodLink RX10 206 yX8_faultFor) ∈ TW := tw_in 500 (by decide +kernel) (by decide +kernel)
theorem kw_501 : (Cond.instanceMethod yX8_faultFor) ∈ TW := tw_in 501 (by decide +kernel) (by decide +kernel)
theorem kw_502 : (Cond.selects RX8 yX8_faultFor yX8_faultFor) ∈ TW := tw_in 502 (by decide +kernel) (by decide +kernel)
theorem kw_503 : (Cond.code yX8_faultFor cX8_faultFor 6 (some .int)) ∈ TW := tw_in 503 (by decide +kernel) (by decide +kernel)
theorem kw_505 : (Cond.methodLink RX10 211 yX8_layOn) ∈ TW := tw_in 505 (by decide +kernel) (by decide +kernel)
theorem kw_506 : (Cond.instanceMethod yX8_layOn) ∈ TW := tw_in 506 (by decide +kernel) (by decide +kernel)
theorem kw_507 : (Cond.selects RX8 yX8_layOn yX8_layOn) ∈ TW := tw_in 507 (by decide +kernel) (by decide +kernel)
theorem kw_508 : (Cond.code yX8_layOn cX8_layOn 3 (none)) ∈ TW := tw_in 508 (by decide +kernel) (by decide +kernel)
theorem kw_509 : (Cond.methodLink RX8 21 yX9_append) ∈ TW := tw_in 509 (by decide +kernel) (by decide +kernel)
theorem kw_510 : (Cond.methodLink RL 31 yX10_token) ∈ TW := tw_in 510 (by decide +kernel) (by decide +kernel)
theorem kw_511 : (Cond.instanceMethod yX10_token) ∈ TW := tw_in 511 (by decide +kernel) (by decide +kernel)
theorem kw_512 : (Cond.selects RX10 yX10_token yX10_token) ∈ TW := tw_in 512 (by decide +kernel) (by decide +kernel)
theorem kw_513 : (Cond.code yX10_token cX10_token 2 (some .int)) ∈ TW := tw_in 513 (by decide +kernel) (by decide +kernel)
theorem kw_515 : (Cond.methodLink RX10 277 yX1_letIn) ∈ TW := tw_in 515 (by decide +kernel) (by decide +kernel)
theorem kw_516 : (Cond.instanceMethod yX1_letIn) ∈ TW := tw_in 516 (by decide +kernel) (by decide +kernel)
theorem kw_517 : (Cond.selects RX1 yX1_letIn yX1_letIn) ∈ TW := tw_in 517 (by decide +kernel) (by decide +kernel)
theorem kw_518 : (Cond.code yX1_letIn cX1_letIn 5 (some .int)) ∈ TW := tw_in 518 (by decide +kernel) (by decide +kernel)
theorem kw_519 : (Cond.methodLink RL 34 yX10_run) ∈ TW := tw_in 519 (by decide +kernel) (by decide +kernel)
theorem kw_520 : (Cond.instanceMethod yX10_run) ∈ TW := tw_in 520 (by decide +kernel) (by decide +kernel)
theorem kw_521 : (Cond.selects RX10 yX10_run yX10_run) ∈ TW := tw_in 521 (by decide +kernel) (by decide +kernel)
theorem kw_522 : (Cond.code yX10_run cX10_run 3 (some .int)) ∈ TW := tw_in 522 (by decide +kernel) (by decide +kernel)
theorem kw_523 : (Cond.methodLink RX10 215 yX10_rowOf) ∈ TW := tw_in 523 (by decide +kernel) (by decide +kernel)
theorem kw_525 : (Cond.instanceMethod yX10_rowOf) ∈ TW := tw_in 525 (by decide +kernel) (by decide +kernel)
theorem kw_526 : (Cond.code yX10_rowOf cX10_rowOf 3 (some .int)) ∈ TW := tw_in 526 (by decide +kernel) (by decide +kernel)
theorem kw_527 : (Cond.methodLink RX10 349 yX5_ofCode) ∈ TW := tw_in 527 (by decide +kernel) (by decide +kernel)
theorem kw_528 : (Cond.static yX5_ofCode) ∈ TW := tw_in 528 (by decide +kernel) (by decide +kernel)
theorem kw_529 : (Cond.code yX5_ofCode cX5_ofCode 7 (some .int)) ∈ TW := tw_in 529 (by decide +kernel) (by decide +kernel)
theorem kw_531 : (Cond.methodLink RX10 218 yX9_sent) ∈ TW := tw_in 531 (by decide +kernel) (by decide +kernel)
theorem kw_532 : (Cond.instanceMethod yX9_sent) ∈ TW := tw_in 532 (by decide +kernel) (by decide +kernel)
theorem kw_533 : (Cond.selects RX9 yX9_sent yX9_sent) ∈ TW := tw_in 533 (by decide +kernel) (by decide +kernel)
theorem kw_534 : (Cond.code yX9_sent cX9_sent 4 (some .int)) ∈ TW := tw_in 534 (by decide +kernel) (by decide +kernel)
theorem kw_535 : (Cond.methodLink RX9 50 yX5_valueOn) ∈ TW := tw_in 535 (by decide +kernel) (by decide +kernel)
theorem kw_536 : (Cond.static yX5_valueOn) ∈ TW := tw_in 536 (by decide +kernel) (by decide +kernel)
theorem kw_537 : (Cond.code yX5_valueOn cX5_valueOn 2 (some .int)) ∈ TW := tw_in 537 (by decide +kernel) (by decide +kernel)
theorem kw_538 : (Cond.methodLink RX9 56 yX5_exchanged) ∈ TW := tw_in 538 (by decide +kernel) (by decide +kernel)
theorem kw_539 : (Cond.static yX5_exchanged) ∈ TW := tw_in 539 (by decide +kernel) (by decide +kernel)
theorem kw_540 : (Cond.code yX5_exchanged cX5_exchanged 4 (some .int)) ∈ TW := tw_in 540 (by decide +kernel) (by decide +kernel)
theorem kw_541 : (Cond.methodLink RX5 15 yX5_valueOn) ∈ TW := tw_in 541 (by decide +kernel) (by decide +kernel)
theorem kw_542 : (Cond.methodLink RX10 221 yX5_toCode) ∈ TW := tw_in 542 (by decide +kernel) (by decide +kernel)
theorem kw_543 : (Cond.static yX5_toCode) ∈ TW := tw_in 543 (by decide +kernel) (by decide +kernel)
theorem kw_544 : (Cond.code yX5_toCode cX5_toCode 4 (some .int)) ∈ TW := tw_in 544 (by decide +kernel) (by decide +kernel)
theorem kw_545 : (Cond.methodLink RL 231 yL_agreeing) ∈ TW := tw_in 545 (by decide +kernel) (by decide +kernel)
theorem kw_546 : (Cond.static yL_agreeing) ∈ TW := tw_in 546 (by decide +kernel) (by decide +kernel)
theorem kw_547 : (Cond.code yL_agreeing cL_agreeing 7 (some .int)) ∈ TW := tw_in 547 (by decide +kernel) (by decide +kernel)
theorem kw_548 : (Cond.methodLink RL 68 yL_agrees) ∈ TW := tw_in 548 (by decide +kernel) (by decide +kernel)
theorem kw_549 : (Cond.static yL_agrees) ∈ TW := tw_in 549 (by decide +kernel) (by decide +kernel)
theorem kw_550 : (Cond.code yL_agrees cL_agrees 5 (some .boolean)) ∈ TW := tw_in 550 (by decide +kernel) (by decide +kernel)
theorem kw_551 : (Cond.methodLink RL 72 yL_next) ∈ TW := tw_in 551 (by decide +kernel) (by decide +kernel)
theorem kw_552 : (Cond.static yL_next) ∈ TW := tw_in 552 (by decide +kernel) (by decide +kernel)
theorem kw_553 : (Cond.code yL_next cL_next 7 (some .boolean)) ∈ TW := tw_in 553 (by decide +kernel) (by decide +kernel)
theorem kw_557 : (Cond.methodLink RL 64 yL_layers) ∈ TW := tw_in 557 (by decide +kernel) (by decide +kernel)
theorem kw_558 : (Cond.static yL_layers) ∈ TW := tw_in 558 (by decide +kernel) (by decide +kernel)
theorem kw_559 : (Cond.code yL_layers cL_layers 8 (some .int)) ∈ TW := tw_in 559 (by decide +kernel) (by decide +kernel)
theorem kw_560 : (Cond.methodLink RL 198 yL_often) ∈ TW := tw_in 560 (by decide +kernel) (by decide +kernel)
theorem kw_561 : (Cond.static yL_often) ∈ TW := tw_in 561 (by decide +kernel) (by decide +kernel)
theorem kw_562 : (Cond.code yL_often cL_often 5 (some .int)) ∈ TW := tw_in 562 (by decide +kernel) (by decide +kernel)
theorem kw_563 : (Cond.methodLink RL 41 yL_out) ∈ TW := tw_in 563 (by decide +kernel) (by decide +kernel)
theorem kw_564 : (Cond.static yL_out) ∈ TW := tw_in 564 (by decide +kernel) (by decide +kernel)
theorem kw_565 : (Cond.code yL_out cL_out 13 (some .int)) ∈ TW := tw_in 565 (by decide +kernel) (by decide +kernel)
theorem kw_566 : (Cond.methodLink RL 202 yX10_told) ∈ TW := tw_in 566 (by decide +kernel) (by decide +kernel)
theorem kw_567 : (Cond.instanceMethod yX10_told) ∈ TW := tw_in 567 (by decide +kernel) (by decide +kernel)
theorem kw_568 : (Cond.selects RX10 yX10_told yX10_told) ∈ TW := tw_in 568 (by decide +kernel) (by decide +kernel)
theorem kw_569 : (Cond.code yX10_told cX10_told 2 (some .int)) ∈ TW := tw_in 569 (by decide +kernel) (by decide +kernel)
theorem kw_570 : (Cond.methodLink RX10 135 yX9_layerCount) ∈ TW := tw_in 570 (by decide +kernel) (by decide +kernel)
theorem kw_571 : (Cond.instanceMethod yX9_layerCount) ∈ TW := tw_in 571 (by decide +kernel) (by decide +kernel)
theorem kw_572 : (Cond.selects RX9 yX9_layerCount yX9_layerCount) ∈ TW := tw_in 572 (by decide +kernel) (by decide +kernel)
theorem kw_573 : (Cond.code yX9_layerCount cX9_layerCount 4 (some .int)) ∈ TW := tw_in 573 (by decide +kernel) (by decide +kernel)
theorem kw_574 : (Cond.methodLink RX9 59 yJ9_max_7cf53) ∈ TW := tw_in 574 (by decide +kernel) (by decide +kernel)
theorem kw_575 : (Cond.static yJ9_max_7cf53) ∈ TW := tw_in 575 (by decide +kernel) (by decide +kernel)
theorem kw_576 : (Cond.code Lib.Math.max.name Lib.Math.max.code 2 (some .int)) ∈ TW := tw_in 576 (by decide +kernel) (by decide +kernel)
theorem kw_577 : (Cond.methodLink RX10 138 yX4_deadCount) ∈ TW := tw_in 577 (by decide +kernel) (by decide +kernel)
theorem kw_578 : (Cond.instanceMethod yX4_deadCount) ∈ TW := tw_in 578 (by decide +kernel) (by decide +kernel)
theorem kw_579 : (Cond.selects RX4 yX4_deadCount yX4_deadCount) ∈ TW := tw_in 579 (by decide +kernel) (by decide +kernel)
theorem kw_580 : (Cond.code yX4_deadCount cX4_deadCount 4 (some .int)) ∈ TW := tw_in 580 (by decide +kernel) (by decide +kernel)
theorem kw_581 : (Cond.methodLink RX4 74 yX4_exchanging) ∈ TW := tw_in 581 (by decide +kernel) (by decide +kernel)
theorem kw_582 : (Cond.instanceMethod yX4_exchanging) ∈ TW := tw_in 582 (by decide +kernel) (by decide +kernel)
theorem kw_583 : (Cond.selects RX4 yX4_exchanging yX4_exchanging) ∈ TW := tw_in 583 (by decide +kernel) (by decide +kernel)
theorem kw_584 : (Cond.code yX4_exchanging cX4_exchanging 3 (some .long)) ∈ TW := tw_in 584 (by decide +kernel) (by decide +kernel)
theorem kw_585 : (Cond.methodLink RX4 55 yX4_send) ∈ TW := tw_in 585 (by decide +kernel) (by decide +kernel)
theorem kw_586 : (Cond.static yX4_send) ∈ TW := tw_in 586 (by decide +kernel) (by decide +kernel)
theorem kw_587 : (Cond.code yX4_send cX4_send 4 (none)) ∈ TW := tw_in 587 (by decide +kernel) (by decide +kernel)
theorem kw_588 : (Cond.methodLink RX4 40 yX4_bringIn) ∈ TW := tw_in 588 (by decide +kernel) (by decide +kernel)
theorem kw_589 : (Cond.static yX4_bringIn) ∈ TW := tw_in 589 (by decide +kernel) (by decide +kernel)
theorem kw_590 : (Cond.code yX4_bringIn cX4_bringIn 3 (none)) ∈ TW := tw_in 590 (by decide +kernel) (by decide +kernel)
theorem kw_591 : (Cond.fieldLink RX4 27 RX4 "INPUTS" "[J") ∈ TW := tw_in 591 (by decide +kernel) (by decide +kernel)
theorem kw_593 : (Cond.methodLink RX4 30 yX4_allRows) ∈ TW := tw_in 593 (by decide +kernel) (by decide +kernel)
theorem kw_594 : (Cond.static yX4_allRows) ∈ TW := tw_in 594 (by decide +kernel) (by decide +kernel)
theorem kw_595 : (Cond.code yX4_allRows cX4_allRows 1 (some .long)) ∈ TW := tw_in 595 (by decide +kernel) (by decide +kernel)
theorem kw_596 : (Cond.constantLong "Comparatory$Proof" (25 : Nat) (-1 : Int64)) ∈ TW := tw_in 596 (by decide +kernel) (by decide +kernel)
theorem kw_597 : (Cond.methodLink RX4 51 yX4_compare) ∈ TW := tw_in 597 (by decide +kernel) (by decide +kernel)
theorem kw_598 : (Cond.static yX4_compare) ∈ TW := tw_in 598 (by decide +kernel) (by decide +kernel)
theorem kw_599 : (Cond.code yX4_compare cX4_compare 7 (none)) ∈ TW := tw_in 599 (by decide +kernel) (by decide +kernel)
theorem kw_600 : (Cond.methodLink RX10 141 yX9_crookedCount) ∈ TW := tw_in 600 (by decide +kernel) (by decide +kernel)
theorem kw_601 : (Cond.instanceMethod yX9_crookedCount) ∈ TW := tw_in 601 (by decide +kernel) (by decide +kernel)
theorem kw_602 : (Cond.selects RX9 yX9_crookedCount yX9_crookedCount) ∈ TW := tw_in 602 (by decide +kernel) (by decide +kernel)
theorem kw_603 : (Cond.code yX9_crookedCount cX9_crookedCount 3 (some .int)) ∈ TW := tw_in 603 (by decide +kernel) (by decide +kernel)
theorem kw_604 : (Cond.methodLink RX9 39 yX9_isCrooked) ∈ TW := tw_in 604 (by decide +kernel) (by decide +kernel)
theorem kw_606 : (Cond.instanceMethod yX9_isCrooked) ∈ TW := tw_in 606 (by decide +kernel) (by decide +kernel)
theorem kw_607 : (Cond.code yX9_isCrooked cX9_isCrooked 2 (some .boolean)) ∈ TW := tw_in 607 (by decide +kernel) (by decide +kernel)
theorem kw_608 : (Cond.methodLink RX10 144 yX9_textLength) ∈ TW := tw_in 608 (by decide +kernel) (by decide +kernel)
theorem kw_609 : (Cond.instanceMethod yX9_textLength) ∈ TW := tw_in 609 (by decide +kernel) (by decide +kernel)
theorem kw_610 : (Cond.selects RX9 yX9_textLength yX9_textLength) ∈ TW := tw_in 610 (by decide +kernel) (by decide +kernel)
theorem kw_611 : (Cond.code yX9_textLength cX9_textLength 1 (some .int)) ∈ TW := tw_in 611 (by decide +kernel) (by decide +kernel)
theorem kw_613 : (Cond.methodLink RL 205 yX10_textAt) ∈ TW := tw_in 613 (by decide +kernel) (by decide +kernel)
theorem kw_614 : (Cond.instanceMethod yX10_textAt) ∈ TW := tw_in 614 (by decide +kernel) (by decide +kernel)
theorem kw_615 : (Cond.selects RX10 yX10_textAt yX10_textAt) ∈ TW := tw_in 615 (by decide +kernel) (by decide +kernel)
theorem kw_616 : (Cond.code yX10_textAt cX10_textAt 2 (some .char)) ∈ TW := tw_in 616 (by decide +kernel) (by decide +kernel)
theorem kw_617 : (Cond.methodLink RX10 175 yX10_checkPlace) ∈ TW := tw_in 617 (by decide +kernel) (by decide +kernel)
theorem kw_618 : (Cond.static yX10_checkPlace) ∈ TW := tw_in 618 (by decide +kernel) (by decide +kernel)
theorem kw_619 : (Cond.code yX10_checkPlace cX10_checkPlace 1 (none)) ∈ TW := tw_in 619 (by decide +kernel) (by decide +kernel)
theorem kw_621 : (Cond.methodLink RX10 178 yX9_signAt) ∈ TW := tw_in 621 (by decide +kernel) (by decide +kernel)
theorem kw_622 : (Cond.instanceMethod yX9_signAt) ∈ TW := tw_in 622 (by decide +kernel) (by decide +kernel)
theorem kw_623 : (Cond.selects RX9 yX9_signAt yX9_signAt) ∈ TW := tw_in 623 (by decide +kernel) (by decide +kernel)
theorem kw_624 : (Cond.code yX9_signAt cX9_signAt 3 (some .char)) ∈ TW := tw_in 624 (by decide +kernel) (by decide +kernel)
theorem kw_625 : (Cond.methodLink RX9 68 yX9_textLength) ∈ TW := tw_in 625 (by decide +kernel) (by decide +kernel)
theorem kw_626 : (Cond.methodLink RX9 64 yX9_layerCount) ∈ TW := tw_in 626 (by decide +kernel) (by decide +kernel)
theorem kw_627 : (Cond.methodLink RX9 71 yX9_inTextAt) ∈ TW := tw_in 627 (by decide +kernel) (by decide +kernel)
theorem kw_629 : (Cond.instanceMethod yX9_inTextAt) ∈ TW := tw_in 629 (by decide +kernel) (by decide +kernel)
theorem kw_630 : (Cond.code yX9_inTextAt cX9_inTextAt 5 (some .int)) ∈ TW := tw_in 630 (by decide +kernel) (by decide +kernel)
theorem kw_631 : (Cond.methodLink RX9 75 yX9_placeKey) ∈ TW := tw_in 631 (by decide +kernel) (by decide +kernel)
theorem kw_633 : (Cond.instanceMethod yX9_placeKey) ∈ TW := tw_in 633 (by decide +kernel) (by decide +kernel)
theorem kw_634 : (Cond.code yX9_placeKey cX9_placeKey 2 (some .int)) ∈ TW := tw_in 634 (by decide +kernel) (by decide +kernel)
theorem kw_635 : (Cond.methodLink RX9 78 yJ9_min_7cf53) ∈ TW := tw_in 635 (by decide +kernel) (by decide +kernel)
theorem kw_636 : (Cond.static yJ9_min_7cf53) ∈ TW := tw_in 636 (by decide +kernel) (by decide +kernel)
theorem kw_637 : (Cond.code Lib.Math.min.name Lib.Math.min.code 2 (some .int)) ∈ TW := tw_in 637 (by decide +kernel) (by decide +kernel)
theorem kw_638 : (Cond.methodLink RL 209 yL_written) ∈ TW := tw_in 638 (by decide +kernel) (by decide +kernel)
theorem kw_639 : (Cond.static yL_written) ∈ TW := tw_in 639 (by decide +kernel) (by decide +kernel)
theorem kw_640 : (Cond.code yL_written cL_written 12 (some .char)) ∈ TW := tw_in 640 (by decide +kernel) (by decide +kernel)
theorem kw_641 : (Cond.methodLink RL 213 yX10_fault) ∈ TW := tw_in 641 (by decide +kernel) (by decide +kernel)
theorem kw_642 : (Cond.instanceMethod yX10_fault) ∈ TW := tw_in 642 (by decide +kernel) (by decide +kernel)
theorem kw_643 : (Cond.selects RX10 yX10_fault yX10_fault) ∈ TW := tw_in 643 (by decide +kernel) (by decide +kernel)
theorem kw_644 : (Cond.code yX10_fault cX10_fault 1 (some .int)) ∈ TW := tw_in 644 (by decide +kernel) (by decide +kernel)
theorem kw_645 : (Cond.methodLink RL 216 yL_fault) ∈ TW := tw_in 645 (by decide +kernel) (by decide +kernel)
theorem kw_646 : (Cond.static yL_fault) ∈ TW := tw_in 646 (by decide +kernel) (by decide +kernel)
theorem kw_647 : (Cond.code yL_fault cL_fault 7 (some .int)) ∈ TW := tw_in 647 (by decide +kernel) (by decide +kernel)
theorem kw_648 : (Cond.methodLink RL 218 yX10_comparator) ∈ TW := tw_in 648 (by decide +kernel) (by decide +kernel)
theorem kw_649 : (Cond.instanceMethod yX10_comparator) ∈ TW := tw_in 649 (by decide +kernel) (by decide +kernel)
theorem kw_650 : (Cond.selects RX10 yX10_comparator yX10_comparator) ∈ TW := tw_in 650 (by decide +kernel) (by decide +kernel)
theorem kw_651 : (Cond.code yX10_comparator cX10_comparator 3 (some .int)) ∈ TW := tw_in 651 (by decide +kernel) (by decide +kernel)
theorem kw_652 : (Cond.methodLink RX10 149 yX10_checkComparator) ∈ TW := tw_in 652 (by decide +kernel) (by decide +kernel)
theorem kw_654 : (Cond.instanceMethod yX10_checkComparator) ∈ TW := tw_in 654 (by decide +kernel) (by decide +kernel)
theorem kw_655 : (Cond.code yX10_checkComparator cX10_checkComparator 2 (none)) ∈ TW := tw_in 655 (by decide +kernel) (by decide +kernel)
theorem kw_657 : (Cond.methodLink RX10 159 yX9_layerOf) ∈ TW := tw_in 657 (by decide +kernel) (by decide +kernel)
theorem kw_658 : (Cond.instanceMethod yX9_layerOf) ∈ TW := tw_in 658 (by decide +kernel) (by decide +kernel)
theorem kw_659 : (Cond.selects RX9 yX9_layerOf yX9_layerOf) ∈ TW := tw_in 659 (by decide +kernel) (by decide +kernel)
theorem kw_660 : (Cond.code yX9_layerOf cX9_layerOf 2 (some .int)) ∈ TW := tw_in 660 (by decide +kernel) (by decide +kernel)
theorem kw_661 : (Cond.methodLink RX10 163 yX4_exchanging) ∈ TW := tw_in 661 (by decide +kernel) (by decide +kernel)
theorem kw_662 : (Cond.methodLink RX10 167 yJ13_bitCount_95d88) ∈ TW := tw_in 662 (by decide +kernel) (by decide +kernel)
theorem kw_663 : (Cond.static yJ13_bitCount_95d88) ∈ TW := tw_in 663 (by decide +kernel) (by decide +kernel)
theorem kw_664 : (Cond.code yJ13_bitCount_95d88 cJ13_bitCount_95d88 2 (some .int)) ∈ TW := tw_in 664 (by decide +kernel) (by decide +kernel)
theorem kw_665 : (Cond.constantLong "java/lang/Long" (314 : Nat) (6148914691236517205 : Int64)) ∈ TW := tw_in 665 (by decide +kernel) (by decide +kernel)
theorem kw_666 : (Cond.constantLong "java/lang/Long" (316 : Nat) (3689348814741910323 : Int64)) ∈ TW := tw_in 666 (by decide +kernel) (by decide +kernel)
theorem kw_667 : (Cond.constantLong "java/lang/Long" (318 : Nat) (1085102592571150095 : Int64)) ∈ TW := tw_in 667 (by decide +kernel) (by decide +kernel)
theorem kw_669 : (Cond.methodLink RL 221 yL_counts) ∈ TW := tw_in 669 (by decide +kernel) (by decide +kernel)
theorem kw_670 : (Cond.static yL_counts) ∈ TW := tw_in 670 (by decide +kernel) (by decide +kernel)
theorem kw_671 : (Cond.code yL_counts cL_counts 6 (none)) ∈ TW := tw_in 671 (by decide +kernel) (by decide +kernel)
theorem kw_672 : (Cond.methodLink RL 225 yX10_came) ∈ TW := tw_in 672 (by decide +kernel) (by decide +kernel)
theorem kw_673 : (Cond.instanceMethod yX10_came) ∈ TW := tw_in 673 (by decide +kernel) (by decide +kernel)
theorem kw_674 : (Cond.selects RX10 yX10_came yX10_came) ∈ TW := tw_in 674 (by decide +kernel) (by decide +kernel)
theorem kw_675 : (Cond.code yX10_came cX10_came 2 (some .int)) ∈ TW := tw_in 675 (by decide +kernel) (by decide +kernel)
theorem kw_676 : (Cond.methodLink RL 228 yX10_cameAnew) ∈ TW := tw_in 676 (by decide +kernel) (by decide +kernel)
theorem kw_677 : (Cond.instanceMethod yX10_cameAnew) ∈ TW := tw_in 677 (by decide +kernel) (by decide +kernel)
theorem kw_678 : (Cond.selects RX10 yX10_cameAnew yX10_cameAnew) ∈ TW := tw_in 678 (by decide +kernel) (by decide +kernel)
theorem kw_679 : (Cond.code yX10_cameAnew cX10_cameAnew 2 (some .int)) ∈ TW := tw_in 679 (by decide +kernel) (by decide +kernel)
theorem kw_680 : (Cond.methodLink RX10 283 yX1_reckoned) ∈ TW := tw_in 680 (by decide +kernel) (by decide +kernel)
theorem kw_681 : (Cond.instanceMethod yX1_reckoned) ∈ TW := tw_in 681 (by decide +kernel) (by decide +kernel)
theorem kw_682 : (Cond.selects RX1 yX1_reckoned yX1_reckoned) ∈ TW := tw_in 682 (by decide +kernel) (by decide +kernel)
theorem kw_683 : (Cond.code yX1_reckoned cX1_reckoned 5 (some .int)) ∈ TW := tw_in 683 (by decide +kernel) (by decide +kernel)
theorem kw_684 : (Cond.methodLink RL 234 yX10_needed) ∈ TW := tw_in 684 (by decide +kernel) (by decide +kernel)
theorem kw_685 : (Cond.instanceMethod yX10_needed) ∈ TW := tw_in 685 (by decide +kernel) (by decide +kernel)
theorem kw_686 : (Cond.selects RX10 yX10_needed yX10_needed) ∈ TW := tw_in 686 (by decide +kernel) (by decide +kernel)
theorem kw_687 : (Cond.code yX10_needed cX10_needed 1 (some .int)) ∈ TW := tw_in 687 (by decide +kernel) (by decide +kernel)
theorem kw_688 : (Cond.methodLink RX10 330 yX0_fewestQuestions) ∈ TW := tw_in 688 (by decide +kernel) (by decide +kernel)
theorem kw_689 : (Cond.instanceMethod yX0_fewestQuestions) ∈ TW := tw_in 689 (by decide +kernel) (by decide +kernel)
theorem kw_690 : (Cond.selects RX0 yX0_fewestQuestions yX0_fewestQuestions) ∈ TW := tw_in 690 (by decide +kernel) (by decide +kernel)
theorem kw_691 : (Cond.code yX0_fewestQuestions cX0_fewestQuestions 4 (some .int)) ∈ TW := tw_in 691 (by decide +kernel) (by decide +kernel)
theorem kw_692 : (Cond.methodLink RX0 30 yX0_rowsLeft) ∈ TW := tw_in 692 (by decide +kernel) (by decide +kernel)
theorem kw_693 : (Cond.instanceMethod yX0_rowsLeft) ∈ TW := tw_in 693 (by decide +kernel) (by decide +kernel)
theorem kw_694 : (Cond.selects RX0 yX0_rowsLeft yX0_rowsLeft) ∈ TW := tw_in 694 (by decide +kernel) (by decide +kernel)
theorem kw_695 : (Cond.code yX0_rowsLeft cX0_rowsLeft 2 (some .int)) ∈ TW := tw_in 695 (by decide +kernel) (by decide +kernel)
theorem kw_696 : (Cond.methodLink RX0 34 yX0_canSettle) ∈ TW := tw_in 696 (by decide +kernel) (by decide +kernel)
theorem kw_697 : (Cond.static yX0_canSettle) ∈ TW := tw_in 697 (by decide +kernel) (by decide +kernel)
theorem kw_698 : (Cond.code yX0_canSettle cX0_canSettle 14 (some .boolean)) ∈ TW := tw_in 698 (by decide +kernel) (by decide +kernel)
theorem kw_699 : (Cond.methodLink RL 237 yX10_isStep) ∈ TW := tw_in 699 (by decide +kernel) (by decide +kernel)
theorem kw_700 : (Cond.instanceMethod yX10_isStep) ∈ TW := tw_in 700 (by decide +kernel) (by decide +kernel)
theorem kw_701 : (Cond.selects RX10 yX10_isStep yX10_isStep) ∈ TW := tw_in 701 (by decide +kernel) (by decide +kernel)
theorem kw_702 : (Cond.code yX10_isStep cX10_isStep 1 (some .boolean)) ∈ TW := tw_in 702 (by decide +kernel) (by decide +kernel)
theorem kw_703 : (Cond.methodLink RX10 286 yX1_outIsStep) ∈ TW := tw_in 703 (by decide +kernel) (by decide +kernel)
theorem kw_704 : (Cond.instanceMethod yX1_outIsStep) ∈ TW := tw_in 704 (by decide +kernel) (by decide +kernel)
theorem kw_705 : (Cond.selects RX1 yX1_outIsStep yX1_outIsStep) ∈ TW := tw_in 705 (by decide +kernel) (by decide +kernel)
theorem kw_706 : (Cond.code yX1_outIsStep cX1_outIsStep 3 (some .boolean)) ∈ TW := tw_in 706 (by decide +kernel) (by decide +kernel)
theorem kw_707 : (Cond.methodLink RL 240 yX10_left) ∈ TW := tw_in 707 (by decide +kernel) (by decide +kernel)
theorem kw_708 : (Cond.instanceMethod yX10_left) ∈ TW := tw_in 708 (by decide +kernel) (by decide +kernel)
theorem kw_709 : (Cond.selects RX10 yX10_left yX10_left) ∈ TW := tw_in 709 (by decide +kernel) (by decide +kernel)
theorem kw_710 : (Cond.code yX10_left cX10_left 1 (some .int)) ∈ TW := tw_in 710 (by decide +kernel) (by decide +kernel)
theorem kw_711 : (Cond.methodLink RX10 327 yX0_rowsLeft) ∈ TW := tw_in 711 (by decide +kernel) (by decide +kernel)
theorem kw_712 : (Cond.methodLink RL 243 yL_rows) ∈ TW := tw_in 712 (by decide +kernel) (by decide +kernel)
theorem kw_713 : (Cond.static yL_rows) ∈ TW := tw_in 713 (by decide +kernel) (by decide +kernel)
theorem kw_714 : (Cond.code yL_rows cL_rows 21 (some .boolean)) ∈ TW := tw_in 714 (by decide +kernel) (by decide +kernel)
theorem kw_715 : (Cond.methodLink RL 130 yL_upright) ∈ TW := tw_in 715 (by decide +kernel) (by decide +kernel)
theorem kw_716 : (Cond.static yL_upright) ∈ TW := tw_in 716 (by decide +kernel) (by decide +kernel)
theorem kw_717 : (Cond.code yL_upright cL_upright 5 (some .boolean)) ∈ TW := tw_in 717 (by decide +kernel) (by decide +kernel)
theorem kw_718 : (Cond.methodLink RL 171 yL_runs) ∈ TW := tw_in 718 (by decide +kernel) (by decide +kernel)
theorem kw_719 : (Cond.static yL_runs) ∈ TW := tw_in 719 (by decide +kernel) (by decide +kernel)
theorem kw_720 : (Cond.code yL_runs cL_runs 9 (none)) ∈ TW := tw_in 720 (by decide +kernel) (by decide +kernel)
theorem kw_721 : (Cond.methodLink RL 99 yL_upsideDown) ∈ TW := tw_in 721 (by decide +kernel) (by decide +kernel)
theorem kw_722 : (Cond.static yL_upsideDown) ∈ TW := tw_in 722 (by decide +kernel) (by decide +kernel)
theorem kw_723 : (Cond.code yL_upsideDown cL_upsideDown 4 (some .int)) ∈ TW := tw_in 723 (by decide +kernel) (by decide +kernel)
theorem kw_724 : (Cond.methodLink RL 80 yL_code) ∈ TW := tw_in 724 (by decide +kernel) (by decide +kernel)
theorem kw_725 : (Cond.static yL_code) ∈ TW := tw_in 725 (by decide +kernel) (by decide +kernel)
theorem kw_726 : (Cond.code yL_code cL_code 5 (some .int)) ∈ TW := tw_in 726 (by decide +kernel) (by decide +kernel)
theorem kw_727 : (Cond.methodLink RL 175 yX10_outputs) ∈ TW := tw_in 727 (by decide +kernel) (by decide +kernel)
theorem kw_728 : (Cond.instanceMethod yX10_outputs) ∈ TW := tw_in 728 (by decide +kernel) (by decide +kernel)
theorem kw_729 : (Cond.selects RX10 yX10_outputs yX10_outputs) ∈ TW := tw_in 729 (by decide +kernel) (by decide +kernel)
theorem kw_730 : (Cond.code yX10_outputs cX10_outputs 1 (some .long)) ∈ TW := tw_in 730 (by decide +kernel) (by decide +kernel)
theorem kw_731 : (Cond.methodLink RX10 227 yX4_rowsOut) ∈ TW := tw_in 731 (by decide +kernel) (by decide +kernel)
theorem kw_732 : (Cond.instanceMethod yX4_rowsOut) ∈ TW := tw_in 732 (by decide +kernel) (by decide +kernel)
theorem kw_733 : (Cond.selects RX4 yX4_rowsOut yX4_rowsOut) ∈ TW := tw_in 733 (by decide +kernel) (by decide +kernel)
theorem kw_734 : (Cond.code yX4_rowsOut cX4_rowsOut 5 (some .long)) ∈ TW := tw_in 734 (by decide +kernel) (by decide +kernel)
theorem kw_735 : (Cond.methodLink RX4 82 yX4_rowOutOf) ∈ TW := tw_in 735 (by decide +kernel) (by decide +kernel)
theorem kw_737 : (Cond.instanceMethod yX4_rowOutOf) ∈ TW := tw_in 737 (by decide +kernel) (by decide +kernel)
theorem kw_738 : (Cond.code yX4_rowOutOf cX4_rowOutOf 5 (some .int)) ∈ TW := tw_in 738 (by decide +kernel) (by decide +kernel)
theorem kw_739 : (Cond.methodLink RL 179 yX10_sorts) ∈ TW := tw_in 739 (by decide +kernel) (by decide +kernel)
theorem kw_740 : (Cond.instanceMethod yX10_sorts) ∈ TW := tw_in 740 (by decide +kernel) (by decide +kernel)
theorem kw_741 : (Cond.selects RX10 yX10_sorts yX10_sorts) ∈ TW := tw_in 741 (by decide +kernel) (by decide +kernel)
theorem kw_742 : (Cond.code yX10_sorts cX10_sorts 1 (some .boolean)) ∈ TW := tw_in 742 (by decide +kernel) (by decide +kernel)
theorem kw_743 : (Cond.methodLink RX10 231 yX4_unsortedFrom) ∈ TW := tw_in 743 (by decide +kernel) (by decide +kernel)
theorem kw_744 : (Cond.instanceMethod yX4_unsortedFrom) ∈ TW := tw_in 744 (by decide +kernel) (by decide +kernel)
theorem kw_745 : (Cond.selects RX4 yX4_unsortedFrom yX4_unsortedFrom) ∈ TW := tw_in 745 (by decide +kernel) (by decide +kernel)
theorem kw_746 : (Cond.code yX4_unsortedFrom cX4_unsortedFrom 2 (some .long)) ∈ TW := tw_in 746 (by decide +kernel) (by decide +kernel)
theorem kw_747 : (Cond.methodLink RX4 66 yX4_unsortedIn) ∈ TW := tw_in 747 (by decide +kernel) (by decide +kernel)
theorem kw_748 : (Cond.static yX4_unsortedIn) ∈ TW := tw_in 748 (by decide +kernel) (by decide +kernel)
theorem kw_749 : (Cond.code yX4_unsortedIn cX4_unsortedIn 5 (some .long)) ∈ TW := tw_in 749 (by decide +kernel) (by decide +kernel)
theorem kw_750 : (Cond.methodLink RL 182 yX10_wrong) ∈ TW := tw_in 750 (by decide +kernel) (by decide +kernel)
theorem kw_751 : (Cond.instanceMethod yX10_wrong) ∈ TW := tw_in 751 (by decide +kernel) (by decide +kernel)
theorem kw_752 : (Cond.selects RX10 yX10_wrong yX10_wrong) ∈ TW := tw_in 752 (by decide +kernel) (by decide +kernel)
theorem kw_753 : (Cond.code yX10_wrong cX10_wrong 2 (some .int)) ∈ TW := tw_in 753 (by decide +kernel) (by decide +kernel)
theorem kw_754 : (Cond.methodLink RX10 237 yX4_rowIn) ∈ TW := tw_in 754 (by decide +kernel) (by decide +kernel)
theorem kw_755 : (Cond.static yX4_rowIn) ∈ TW := tw_in 755 (by decide +kernel) (by decide +kernel)
theorem kw_756 : (Cond.code yX4_rowIn cX4_rowIn 5 (some .int)) ∈ TW := tw_in 756 (by decide +kernel) (by decide +kernel)
theorem kw_757 : (Cond.methodLink RL 185 yX10_merges) ∈ TW := tw_in 757 (by decide +kernel) (by decide +kernel)
theorem kw_758 : (Cond.instanceMethod yX10_merges) ∈ TW := tw_in 758 (by decide +kernel) (by decide +kernel)
theorem kw_759 : (Cond.selects RX10 yX10_merges yX10_merges) ∈ TW := tw_in 759 (by decide +kernel) (by decide +kernel)
theorem kw_760 : (Cond.code yX10_merges cX10_merges 2 (some .boolean)) ∈ TW := tw_in 760 (by decide +kernel) (by decide +kernel)
theorem kw_762 : (Cond.methodLink RX10 252 yX4_mergesAt) ∈ TW := tw_in 762 (by decide +kernel) (by decide +kernel)
theorem kw_763 : (Cond.instanceMethod yX4_mergesAt) ∈ TW := tw_in 763 (by decide +kernel) (by decide +kernel)
theorem kw_764 : (Cond.selects RX4 yX4_mergesAt yX4_mergesAt) ∈ TW := tw_in 764 (by decide +kernel) (by decide +kernel)
theorem kw_765 : (Cond.code yX4_mergesAt cX4_mergesAt 8 (some .boolean)) ∈ TW := tw_in 765 (by decide +kernel) (by decide +kernel)
theorem kw_766 : (Cond.methodLink RX4 86 yX4_unsortedFrom) ∈ TW := tw_in 766 (by decide +kernel) (by decide +kernel)
theorem kw_767 : (Cond.methodLink RL 189 yX10_sorted) ∈ TW := tw_in 767 (by decide +kernel) (by decide +kernel)
theorem kw_768 : (Cond.instanceMethod yX10_sorted) ∈ TW := tw_in 768 (by decide +kernel) (by decide +kernel)
theorem kw_769 : (Cond.selects RX10 yX10_sorted yX10_sorted) ∈ TW := tw_in 769 (by decide +kernel) (by decide +kernel)
theorem kw_770 : (Cond.code yX10_sorted cX10_sorted 1 (some .int)) ∈ TW := tw_in 770 (by decide +kernel) (by decide +kernel)
theorem kw_771 : (Cond.methodLink RX10 234 yX4_sortedCount) ∈ TW := tw_in 771 (by decide +kernel) (by decide +kernel)
theorem kw_772 : (Cond.instanceMethod yX4_sortedCount) ∈ TW := tw_in 772 (by decide +kernel) (by decide +kernel)
theorem kw_773 : (Cond.selects RX4 yX4_sortedCount yX4_sortedCount) ∈ TW := tw_in 773 (by decide +kernel) (by decide +kernel)
theorem kw_774 : (Cond.code yX4_sortedCount cX4_sortedCount 2 (some .int)) ∈ TW := tw_in 774 (by decide +kernel) (by decide +kernel)
theorem kw_775 : (Cond.methodLink RX4 90 yX2_countOf) ∈ TW := tw_in 775 (by decide +kernel) (by decide +kernel)
theorem kw_776 : (Cond.methodLink RL 192 yX10_off) ∈ TW := tw_in 776 (by decide +kernel) (by decide +kernel)
theorem kw_777 : (Cond.instanceMethod yX10_off) ∈ TW := tw_in 777 (by decide +kernel) (by decide +kernel)
theorem kw_778 : (Cond.selects RX10 yX10_off yX10_off) ∈ TW := tw_in 778 (by decide +kernel) (by decide +kernel)
theorem kw_779 : (Cond.code yX10_off cX10_off 1 (some .int)) ∈ TW := tw_in 779 (by decide +kernel) (by decide +kernel)
theorem kw_780 : (Cond.methodLink RX10 261 yX4_greatestDistance) ∈ TW := tw_in 780 (by decide +kernel) (by decide +kernel)
theorem kw_781 : (Cond.instanceMethod yX4_greatestDistance) ∈ TW := tw_in 781 (by decide +kernel) (by decide +kernel)
theorem kw_782 : (Cond.selects RX4 yX4_greatestDistance yX4_greatestDistance) ∈ TW := tw_in 782 (by decide +kernel) (by decide +kernel)
theorem kw_783 : (Cond.code yX4_greatestDistance cX4_greatestDistance 5 (some .int)) ∈ TW := tw_in 783 (by decide +kernel) (by decide +kernel)
theorem kw_784 : (Cond.methodLink RX4 100 yX4_distanceIn) ∈ TW := tw_in 784 (by decide +kernel) (by decide +kernel)
theorem kw_785 : (Cond.static yX4_distanceIn) ∈ TW := tw_in 785 (by decide +kernel) (by decide +kernel)
theorem kw_786 : (Cond.code yX4_distanceIn cX4_distanceIn 6 (some .int)) ∈ TW := tw_in 786 (by decide +kernel) (by decide +kernel)
theorem kw_787 : (Cond.methodLink RX4 94 yJ6_bitCount_0f7a4) ∈ TW := tw_in 787 (by decide +kernel) (by decide +kernel)
theorem kw_788 : (Cond.static yJ6_bitCount_0f7a4) ∈ TW := tw_in 788 (by decide +kernel) (by decide +kernel)
theorem kw_789 : (Cond.code yJ6_bitCount_0f7a4 cJ6_bitCount_0f7a4 1 (some .int)) ∈ TW := tw_in 789 (by decide +kernel) (by decide +kernel)
theorem kw_790 : (Cond.constant "java/lang/Integer" (265 : Nat) (1431655765 : Int32)) ∈ TW := tw_in 790 (by decide +kernel) (by decide +kernel)
theorem kw_791 : (Cond.constant "java/lang/Integer" (266 : Nat) (858993459 : Int32)) ∈ TW := tw_in 791 (by decide +kernel) (by decide +kernel)
theorem kw_792 : (Cond.constant "java/lang/Integer" (267 : Nat) (252645135 : Int32)) ∈ TW := tw_in 792 (by decide +kernel) (by decide +kernel)
theorem kw_793 : (Cond.methodLink RX4 103 yJ9_max_7cf53) ∈ TW := tw_in 793 (by decide +kernel) (by decide +kernel)
theorem kw_794 : (Cond.methodLink RL 195 yX10_chooses) ∈ TW := tw_in 794 (by decide +kernel) (by decide +kernel)
theorem kw_795 : (Cond.instanceMethod yX10_chooses) ∈ TW := tw_in 795 (by decide +kernel) (by decide +kernel)
theorem kw_796 : (Cond.selects RX10 yX10_chooses yX10_chooses) ∈ TW := tw_in 796 (by decide +kernel) (by decide +kernel)
theorem kw_797 : (Cond.code yX10_chooses cX10_chooses 2 (some .boolean)) ∈ TW := tw_in 797 (by decide +kernel) (by decide +kernel)
theorem kw_799 : (Cond.methodLink RX10 258 yX4_choosesLowest) ∈ TW := tw_in 799 (by decide +kernel) (by decide +kernel)
theorem kw_800 : (Cond.instanceMethod yX4_choosesLowest) ∈ TW := tw_in 800 (by decide +kernel) (by decide +kernel)
theorem kw_801 : (Cond.selects RX4 yX4_choosesLowest yX4_choosesLowest) ∈ TW := tw_in 801 (by decide +kernel) (by decide +kernel)
theorem kw_802 : (Cond.code yX4_choosesLowest cX4_choosesLowest 7 (some .boolean)) ∈ TW := tw_in 802 (by decide +kernel) (by decide +kernel)
theorem kw_803 : (Cond.methodLink RL 247 yL_faults) ∈ TW := tw_in 803 (by decide +kernel) (by decide +kernel)
theorem kw_804 : (Cond.static yL_faults) ∈ TW := tw_in 804 (by decide +kernel) (by decide +kernel)
theorem kw_805 : (Cond.code yL_faults cL_faults 14 (some .boolean)) ∈ TW := tw_in 805 (by decide +kernel) (by decide +kernel)
theorem kw_806 : (Cond.constantLong "ComparatoryLaw" (146 : Nat) (173961102589770 : Int64)) ∈ TW := tw_in 806 (by decide +kernel) (by decide +kernel)
theorem kw_807 : (Cond.methodLink RL 142 yL_telling) ∈ TW := tw_in 807 (by decide +kernel) (by decide +kernel)
theorem kw_808 : (Cond.static yL_telling) ∈ TW := tw_in 808 (by decide +kernel) (by decide +kernel)
theorem kw_809 : (Cond.code yL_telling cL_telling 7 (some .long)) ∈ TW := tw_in 809 (by decide +kernel) (by decide +kernel)
theorem kw_810 : (Cond.methodLink RL 148 yX10_hidden) ∈ TW := tw_in 810 (by decide +kernel) (by decide +kernel)
theorem kw_811 : (Cond.instanceMethod yX10_hidden) ∈ TW := tw_in 811 (by decide +kernel) (by decide +kernel)
theorem kw_812 : (Cond.selects RX10 yX10_hidden yX10_hidden) ∈ TW := tw_in 812 (by decide +kernel) (by decide +kernel)
theorem kw_813 : (Cond.code yX10_hidden cX10_hidden 3 (some .int)) ∈ TW := tw_in 813 (by decide +kernel) (by decide +kernel)
theorem kw_814 : (Cond.methodLink RX10 300 yX3_countHidden) ∈ TW := tw_in 814 (by decide +kernel) (by decide +kernel)
theorem kw_815 : (Cond.instanceMethod yX3_countHidden) ∈ TW := tw_in 815 (by decide +kernel) (by decide +kernel)
theorem kw_816 : (Cond.selects RX3 yX3_countHidden yX3_countHidden) ∈ TW := tw_in 816 (by decide +kernel) (by decide +kernel)
theorem kw_817 : (Cond.code yX3_countHidden cX3_countHidden 8 (some .int)) ∈ TW := tw_in 817 (by decide +kernel) (by decide +kernel)
theorem kw_818 : (Cond.methodLink RX3 22 yX4_telling) ∈ TW := tw_in 818 (by decide +kernel) (by decide +kernel)
theorem kw_819 : (Cond.instanceMethod yX4_telling) ∈ TW := tw_in 819 (by decide +kernel) (by decide +kernel)
theorem kw_820 : (Cond.selects RX4 yX4_telling yX4_telling) ∈ TW := tw_in 820 (by decide +kernel) (by decide +kernel)
theorem kw_821 : (Cond.code yX4_telling cX4_telling 7 (some .long)) ∈ TW := tw_in 821 (by decide +kernel) (by decide +kernel)
theorem kw_822 : (Cond.methodLink RX4 70 yX4_sendWith) ∈ TW := tw_in 822 (by decide +kernel) (by decide +kernel)
theorem kw_823 : (Cond.static yX4_sendWith) ∈ TW := tw_in 823 (by decide +kernel) (by decide +kernel)
theorem kw_824 : (Cond.code yX4_sendWith cX4_sendWith 5 (none)) ∈ TW := tw_in 824 (by decide +kernel) (by decide +kernel)
theorem kw_825 : (Cond.methodLink RX4 59 yX4_compareBadly) ∈ TW := tw_in 825 (by decide +kernel) (by decide +kernel)
theorem kw_826 : (Cond.static yX4_compareBadly) ∈ TW := tw_in 826 (by decide +kernel) (by decide +kernel)
theorem kw_827 : (Cond.code yX4_compareBadly cX4_compareBadly 8 (none)) ∈ TW := tw_in 827 (by decide +kernel) (by decide +kernel)
theorem kw_828 : (Cond.methodLink RL 151 yX10_bears) ∈ TW := tw_in 828 (by decide +kernel) (by decide +kernel)
theorem kw_829 : (Cond.instanceMethod yX10_bears) ∈ TW := tw_in 829 (by decide +kernel) (by decide +kernel)
theorem kw_830 : (Cond.selects RX10 yX10_bears yX10_bears) ∈ TW := tw_in 830 (by decide +kernel) (by decide +kernel)
theorem kw_831 : (Cond.code yX10_bears cX10_bears 2 (some .boolean)) ∈ TW := tw_in 831 (by decide +kernel) (by decide +kernel)
theorem kw_832 : (Cond.methodLink RX10 293 yX4_unsortedWith) ∈ TW := tw_in 832 (by decide +kernel) (by decide +kernel)
theorem kw_833 : (Cond.instanceMethod yX4_unsortedWith) ∈ TW := tw_in 833 (by decide +kernel) (by decide +kernel)
theorem kw_834 : (Cond.selects RX4 yX4_unsortedWith yX4_unsortedWith) ∈ TW := tw_in 834 (by decide +kernel) (by decide +kernel)
theorem kw_835 : (Cond.code yX4_unsortedWith cX4_unsortedWith 4 (some .long)) ∈ TW := tw_in 835 (by decide +kernel) (by decide +kernel)
theorem kw_836 : (Cond.methodLink RL 155 yX10_tests) ∈ TW := tw_in 836 (by decide +kernel) (by decide +kernel)
theorem kw_837 : (Cond.instanceMethod yX10_tests) ∈ TW := tw_in 837 (by decide +kernel) (by decide +kernel)
theorem kw_838 : (Cond.selects RX10 yX10_tests yX10_tests) ∈ TW := tw_in 838 (by decide +kernel) (by decide +kernel)
theorem kw_839 : (Cond.code yX10_tests cX10_tests 1 (some .int)) ∈ TW := tw_in 839 (by decide +kernel) (by decide +kernel)
theorem kw_840 : (Cond.methodLink RX10 304 yX3_fewestRows) ∈ TW := tw_in 840 (by decide +kernel) (by decide +kernel)
theorem kw_841 : (Cond.instanceMethod yX3_fewestRows) ∈ TW := tw_in 841 (by decide +kernel) (by decide +kernel)
theorem kw_842 : (Cond.selects RX3 yX3_fewestRows yX3_fewestRows) ∈ TW := tw_in 842 (by decide +kernel) (by decide +kernel)
theorem kw_843 : (Cond.code yX3_fewestRows cX3_fewestRows 5 (some .int)) ∈ TW := tw_in 843 (by decide +kernel) (by decide +kernel)
theorem kw_844 : (Cond.methodLink RX3 28 yX3_keep) ∈ TW := tw_in 844 (by decide +kernel) (by decide +kernel)
theorem kw_846 : (Cond.instanceMethod yX3_keep) ∈ TW := tw_in 846 (by decide +kernel) (by decide +kernel)
theorem kw_847 : (Cond.code yX3_keep cX3_keep 5 (none)) ∈ TW := tw_in 847 (by decide +kernel) (by decide +kernel)
theorem kw_848 : (Cond.constantLong "Comparatory$Faults" (36 : Nat) (-1 : Int64)) ∈ TW := tw_in 848 (by decide +kernel) (by decide +kernel)
theorem kw_849 : (Cond.methodLink RX3 32 yX3_canTell) ∈ TW := tw_in 849 (by decide +kernel) (by decide +kernel)
theorem kw_850 : (Cond.static yX3_canTell) ∈ TW := tw_in 850 (by decide +kernel) (by decide +kernel)
theorem kw_851 : (Cond.code yX3_canTell cX3_canTell 17 (some .boolean)) ∈ TW := tw_in 851 (by decide +kernel) (by decide +kernel)
theorem kw_852 : (Cond.methodLink RX3 38 yJ13_bitCount_95d88) ∈ TW := tw_in 852 (by decide +kernel) (by decide +kernel)
theorem kw_853 : (Cond.methodLink RL 158 yL_tests) ∈ TW := tw_in 853 (by decide +kernel) (by decide +kernel)
theorem kw_854 : (Cond.static yL_tests) ∈ TW := tw_in 854 (by decide +kernel) (by decide +kernel)
theorem kw_855 : (Cond.code yL_tests cL_tests 9 (some .int)) ∈ TW := tw_in 855 (by decide +kernel) (by decide +kernel)
theorem kw_856 : (Cond.methodLink RL 138 yL_ones) ∈ TW := tw_in 856 (by decide +kernel) (by decide +kernel)
theorem kw_857 : (Cond.static yL_ones) ∈ TW := tw_in 857 (by decide +kernel) (by decide +kernel)
theorem kw_858 : (Cond.code yL_ones cL_ones 4 (some .int)) ∈ TW := tw_in 858 (by decide +kernel) (by decide +kernel)
theorem kw_859 : (Cond.methodLink RL 164 yX10_bad) ∈ TW := tw_in 859 (by decide +kernel) (by decide +kernel)
theorem kw_860 : (Cond.instanceMethod yX10_bad) ∈ TW := tw_in 860 (by decide +kernel) (by decide +kernel)
theorem kw_861 : (Cond.selects RX10 yX10_bad yX10_bad) ∈ TW := tw_in 861 (by decide +kernel) (by decide +kernel)
theorem kw_862 : (Cond.code yX10_bad cX10_bad 3 (some .int)) ∈ TW := tw_in 862 (by decide +kernel) (by decide +kernel)
theorem kw_863 : (Cond.methodLink RX10 290 yX10_checkFault) ∈ TW := tw_in 863 (by decide +kernel) (by decide +kernel)
theorem kw_864 : (Cond.static yX10_checkFault) ∈ TW := tw_in 864 (by decide +kernel) (by decide +kernel)
theorem kw_865 : (Cond.code yX10_checkFault cX10_checkFault 1 (none)) ∈ TW := tw_in 865 (by decide +kernel) (by decide +kernel)
theorem kw_867 : (Cond.methodLink RL 167 yX10_tells) ∈ TW := tw_in 867 (by decide +kernel) (by decide +kernel)
theorem kw_868 : (Cond.instanceMethod yX10_tells) ∈ TW := tw_in 868 (by decide +kernel) (by decide +kernel)
theorem kw_869 : (Cond.selects RX10 yX10_tells yX10_tells) ∈ TW := tw_in 869 (by decide +kernel) (by decide +kernel)
theorem kw_870 : (Cond.code yX10_tells cX10_tells 3 (some .long)) ∈ TW := tw_in 870 (by decide +kernel) (by decide +kernel)
theorem kw_871 : (Cond.methodLink RX10 297 yX4_telling) ∈ TW := tw_in 871 (by decide +kernel) (by decide +kernel)
theorem kw_872 : (Cond.methodLink RL 251 yL_orders) ∈ TW := tw_in 872 (by decide +kernel) (by decide +kernel)
theorem kw_873 : (Cond.static yL_orders) ∈ TW := tw_in 873 (by decide +kernel) (by decide +kernel)
theorem kw_874 : (Cond.code yL_orders cL_orders 13 (some .boolean)) ∈ TW := tw_in 874 (by decide +kernel) (by decide +kernel)
theorem kw_875 : (Cond.methodLink RL 105 yL_spreads) ∈ TW := tw_in 875 (by decide +kernel) (by decide +kernel)
theorem kw_876 : (Cond.static yL_spreads) ∈ TW := tw_in 876 (by decide +kernel) (by decide +kernel)
theorem kw_877 : (Cond.code yL_spreads cL_spreads 11 (some .int)) ∈ TW := tw_in 877 (by decide +kernel) (by decide +kernel)
theorem kw_878 : (Cond.methodLink RL 84 yL_steps) ∈ TW := tw_in 878 (by decide +kernel) (by decide +kernel)
theorem kw_879 : (Cond.static yL_steps) ∈ TW := tw_in 879 (by decide +kernel) (by decide +kernel)
theorem kw_880 : (Cond.code yL_steps cL_steps 2 (some .int)) ∈ TW := tw_in 880 (by decide +kernel) (by decide +kernel)
theorem kw_881 : (Cond.methodLink RL 87 yL_lays) ∈ TW := tw_in 881 (by decide +kernel) (by decide +kernel)
theorem kw_882 : (Cond.static yL_lays) ∈ TW := tw_in 882 (by decide +kernel) (by decide +kernel)
theorem kw_883 : (Cond.code yL_lays cL_lays 5 (none)) ∈ TW := tw_in 883 (by decide +kernel) (by decide +kernel)
theorem kw_884 : (Cond.methodLink RL 91 yL_moves) ∈ TW := tw_in 884 (by decide +kernel) (by decide +kernel)
theorem kw_885 : (Cond.static yL_moves) ∈ TW := tw_in 885 (by decide +kernel) (by decide +kernel)
theorem kw_886 : (Cond.code yL_moves cL_moves 8 (some .boolean)) ∈ TW := tw_in 886 (by decide +kernel) (by decide +kernel)
theorem kw_887 : (Cond.methodLink RL 76 yL_turn) ∈ TW := tw_in 887 (by decide +kernel) (by decide +kernel)
theorem kw_888 : (Cond.static yL_turn) ∈ TW := tw_in 888 (by decide +kernel) (by decide +kernel)
theorem kw_889 : (Cond.code yL_turn cL_turn 5 (none)) ∈ TW := tw_in 889 (by decide +kernel) (by decide +kernel)
theorem kw_890 : (Cond.methodLink RL 95 yL_placeOf) ∈ TW := tw_in 890 (by decide +kernel) (by decide +kernel)
theorem kw_891 : (Cond.static yL_placeOf) ∈ TW := tw_in 891 (by decide +kernel) (by decide +kernel)
theorem kw_892 : (Cond.code yL_placeOf cL_placeOf 4 (some .int)) ∈ TW := tw_in 892 (by decide +kernel) (by decide +kernel)
theorem kw_893 : (Cond.methodLink RL 109 yL_distance) ∈ TW := tw_in 893 (by decide +kernel) (by decide +kernel)
theorem kw_894 : (Cond.static yL_distance) ∈ TW := tw_in 894 (by decide +kernel) (by decide +kernel)
theorem kw_895 : (Cond.code yL_distance cL_distance 6 (some .int)) ∈ TW := tw_in 895 (by decide +kernel) (by decide +kernel)
theorem kw_896 : (Cond.methodLink RL 102 yL_rings) ∈ TW := tw_in 896 (by decide +kernel) (by decide +kernel)
theorem kw_897 : (Cond.static yL_rings) ∈ TW := tw_in 897 (by decide +kernel) (by decide +kernel)
theorem kw_898 : (Cond.code yL_rings cL_rings 6 (some .int)) ∈ TW := tw_in 898 (by decide +kernel) (by decide +kernel)
theorem kw_899 : (Cond.methodLink RL 113 yX10_far) ∈ TW := tw_in 899 (by decide +kernel) (by decide +kernel)
theorem kw_900 : (Cond.instanceMethod yX10_far) ∈ TW := tw_in 900 (by decide +kernel) (by decide +kernel)
theorem kw_901 : (Cond.selects RX10 yX10_far yX10_far) ∈ TW := tw_in 901 (by decide +kernel) (by decide +kernel)
theorem kw_902 : (Cond.code yX10_far cX10_far 4 (some .int)) ∈ TW := tw_in 902 (by decide +kernel) (by decide +kernel)
theorem kw_903 : (Cond.methodLink RX10 308 yX10_checkSteps) ∈ TW := tw_in 903 (by decide +kernel) (by decide +kernel)
theorem kw_904 : (Cond.static yX10_checkSteps) ∈ TW := tw_in 904 (by decide +kernel) (by decide +kernel)
theorem kw_905 : (Cond.code yX10_checkSteps cX10_checkSteps 1 (none)) ∈ TW := tw_in 905 (by decide +kernel) (by decide +kernel)
theorem kw_907 : (Cond.methodLink RX10 311 yX6_farOf) ∈ TW := tw_in 907 (by decide +kernel) (by decide +kernel)
theorem kw_908 : (Cond.instanceMethod yX6_farOf) ∈ TW := tw_in 908 (by decide +kernel) (by decide +kernel)
theorem kw_909 : (Cond.selects RX6 yX6_farOf yX6_farOf) ∈ TW := tw_in 909 (by decide +kernel) (by decide +kernel)
theorem kw_910 : (Cond.code yX6_farOf cX6_farOf 4 (some .int)) ∈ TW := tw_in 910 (by decide +kernel) (by decide +kernel)
theorem kw_911 : (Cond.methodLink RX6 26 yX6_learn) ∈ TW := tw_in 911 (by decide +kernel) (by decide +kernel)
theorem kw_913 : (Cond.instanceMethod yX6_learn) ∈ TW := tw_in 913 (by decide +kernel) (by decide +kernel)
theorem kw_914 : (Cond.code yX6_learn cX6_learn 10 (none)) ∈ TW := tw_in 914 (by decide +kernel) (by decide +kernel)
theorem kw_915 : (Cond.methodLink RX6 56 yX5_inOrder) ∈ TW := tw_in 915 (by decide +kernel) (by decide +kernel)
theorem kw_916 : (Cond.static yX5_inOrder) ∈ TW := tw_in 916 (by decide +kernel) (by decide +kernel)
theorem kw_917 : (Cond.code yX5_inOrder cX5_inOrder 3 (some .int)) ∈ TW := tw_in 917 (by decide +kernel) (by decide +kernel)
theorem kw_918 : (Cond.methodLink RX6 30 yX6_placeOf) ∈ TW := tw_in 918 (by decide +kernel) (by decide +kernel)
theorem kw_919 : (Cond.static yX6_placeOf) ∈ TW := tw_in 919 (by decide +kernel) (by decide +kernel)
theorem kw_920 : (Cond.code yX6_placeOf cX6_placeOf 3 (some .int)) ∈ TW := tw_in 920 (by decide +kernel) (by decide +kernel)
theorem kw_921 : (Cond.fieldLink RX6 46 RX6 "BEGINNINGS" "[I") ∈ TW := tw_in 921 (by decide +kernel) (by decide +kernel)
theorem kw_923 : (Cond.methodLink RX6 53 yX5_rank) ∈ TW := tw_in 923 (by decide +kernel) (by decide +kernel)
theorem kw_924 : (Cond.static yX5_rank) ∈ TW := tw_in 924 (by decide +kernel) (by decide +kernel)
theorem kw_925 : (Cond.code yX5_rank cX5_rank 6 (some .int)) ∈ TW := tw_in 925 (by decide +kernel) (by decide +kernel)
theorem kw_926 : (Cond.methodLink RX5 19 yJ6_bitCount_0f7a4) ∈ TW := tw_in 926 (by decide +kernel) (by decide +kernel)
theorem kw_927 : (Cond.fieldLink RX5 9 RX5 "FACTORIALS" "[I") ∈ TW := tw_in 927 (by decide +kernel) (by decide +kernel)
theorem kw_929 : (Cond.methodLink RX6 34 yX6_listSteps) ∈ TW := tw_in 929 (by decide +kernel) (by decide +kernel)
theorem kw_931 : (Cond.instanceMethod yX6_listSteps) ∈ TW := tw_in 931 (by decide +kernel) (by decide +kernel)
theorem kw_932 : (Cond.code yX6_listSteps cX6_listSteps 3 (none)) ∈ TW := tw_in 932 (by decide +kernel) (by decide +kernel)
theorem kw_933 : (Cond.methodLink RX6 59 yX6_listChanges) ∈ TW := tw_in 933 (by decide +kernel) (by decide +kernel)
theorem kw_935 : (Cond.instanceMethod yX6_listChanges) ∈ TW := tw_in 935 (by decide +kernel) (by decide +kernel)
theorem kw_936 : (Cond.code yX6_listChanges cX6_listChanges 6 (none)) ∈ TW := tw_in 936 (by decide +kernel) (by decide +kernel)
theorem kw_937 : (Cond.methodLink RX6 69 yX5_exchanged) ∈ TW := tw_in 937 (by decide +kernel) (by decide +kernel)
theorem kw_938 : (Cond.methodLink RX6 72 yX6_append) ∈ TW := tw_in 938 (by decide +kernel) (by decide +kernel)
theorem kw_940 : (Cond.instanceMethod yX6_append) ∈ TW := tw_in 940 (by decide +kernel) (by decide +kernel)
theorem kw_941 : (Cond.code yX6_append cX6_append 2 (none)) ∈ TW := tw_in 941 (by decide +kernel) (by decide +kernel)
theorem kw_942 : (Cond.methodLink RX6 62 yX6_listFlips) ∈ TW := tw_in 942 (by decide +kernel) (by decide +kernel)
theorem kw_944 : (Cond.instanceMethod yX6_listFlips) ∈ TW := tw_in 944 (by decide +kernel) (by decide +kernel)
theorem kw_945 : (Cond.code yX6_listFlips cX6_listFlips 6 (none)) ∈ TW := tw_in 945 (by decide +kernel) (by decide +kernel)
theorem kw_946 : (Cond.methodLink RX6 66 yX6_listBlocks) ∈ TW := tw_in 946 (by decide +kernel) (by decide +kernel)
theorem kw_948 : (Cond.instanceMethod yX6_listBlocks) ∈ TW := tw_in 948 (by decide +kernel) (by decide +kernel)
theorem kw_949 : (Cond.code yX6_listBlocks cX6_listBlocks 5 (none)) ∈ TW := tw_in 949 (by decide +kernel) (by decide +kernel)
theorem kw_950 : (Cond.methodLink RX6 75 yX6_blocksChanged) ∈ TW := tw_in 950 (by decide +kernel) (by decide +kernel)
theorem kw_951 : (Cond.static yX6_blocksChanged) ∈ TW := tw_in 951 (by decide +kernel) (by decide +kernel)
theorem kw_952 : (Cond.code yX6_blocksChanged cX6_blocksChanged 7 (some .int)) ∈ TW := tw_in 952 (by decide +kernel) (by decide +kernel)
theorem kw_953 : (Cond.methodLink RX6 49 yX5_howMany) ∈ TW := tw_in 953 (by decide +kernel) (by decide +kernel)
theorem kw_954 : (Cond.static yX5_howMany) ∈ TW := tw_in 954 (by decide +kernel) (by decide +kernel)
theorem kw_955 : (Cond.code yX5_howMany cX5_howMany 1 (some .int)) ∈ TW := tw_in 955 (by decide +kernel) (by decide +kernel)
theorem kw_956 : (Cond.methodLink RX6 37 yX5_rearranged) ∈ TW := tw_in 956 (by decide +kernel) (by decide +kernel)
theorem kw_957 : (Cond.static yX5_rearranged) ∈ TW := tw_in 957 (by decide +kernel) (by decide +kernel)
theorem kw_958 : (Cond.code yX5_rearranged cX5_rearranged 5 (some .int)) ∈ TW := tw_in 958 (by decide +kernel) (by decide +kernel)
theorem kw_959 : (Cond.methodLink RL 116 yX10_step) ∈ TW := tw_in 959 (by decide +kernel) (by decide +kernel)
theorem kw_960 : (Cond.instanceMethod yX10_step) ∈ TW := tw_in 960 (by decide +kernel) (by decide +kernel)
theorem kw_961 : (Cond.selects RX10 yX10_step yX10_step) ∈ TW := tw_in 961 (by decide +kernel) (by decide +kernel)
theorem kw_962 : (Cond.code yX10_step cX10_step 4 (some .int)) ∈ TW := tw_in 962 (by decide +kernel) (by decide +kernel)
theorem kw_963 : (Cond.methodLink RX10 315 yX6_codeNearer) ∈ TW := tw_in 963 (by decide +kernel) (by decide +kernel)
theorem kw_964 : (Cond.instanceMethod yX6_codeNearer) ∈ TW := tw_in 964 (by decide +kernel) (by decide +kernel)
theorem kw_965 : (Cond.selects RX6 yX6_codeNearer yX6_codeNearer) ∈ TW := tw_in 965 (by decide +kernel) (by decide +kernel)
theorem kw_966 : (Cond.code yX6_codeNearer cX6_codeNearer 10 (some .int)) ∈ TW := tw_in 966 (by decide +kernel) (by decide +kernel)
theorem kw_967 : (Cond.methodLink RX6 42 yX5_toCode) ∈ TW := tw_in 967 (by decide +kernel) (by decide +kernel)
theorem kw_968 : (Cond.methodLink RL 119 yX10_manyFar) ∈ TW := tw_in 968 (by decide +kernel) (by decide +kernel)
theorem kw_969 : (Cond.instanceMethod yX10_manyFar) ∈ TW := tw_in 969 (by decide +kernel) (by decide +kernel)
theorem kw_970 : (Cond.selects RX10 yX10_manyFar yX10_manyFar) ∈ TW := tw_in 970 (by decide +kernel) (by decide +kernel)
theorem kw_971 : (Cond.code yX10_manyFar cX10_manyFar 3 (some .int)) ∈ TW := tw_in 971 (by decide +kernel) (by decide +kernel)
theorem kw_973 : (Cond.methodLink RX10 320 yX6_countFar) ∈ TW := tw_in 973 (by decide +kernel) (by decide +kernel)
theorem kw_974 : (Cond.instanceMethod yX6_countFar) ∈ TW := tw_in 974 (by decide +kernel) (by decide +kernel)
theorem kw_975 : (Cond.selects RX6 yX6_countFar yX6_countFar) ∈ TW := tw_in 975 (by decide +kernel) (by decide +kernel)
theorem kw_976 : (Cond.code yX6_countFar cX6_countFar 7 (some .int)) ∈ TW := tw_in 976 (by decide +kernel) (by decide +kernel)
theorem kw_977 : (Cond.methodLink RL 254 yL_switches) ∈ TW := tw_in 977 (by decide +kernel) (by decide +kernel)
theorem kw_978 : (Cond.static yL_switches) ∈ TW := tw_in 978 (by decide +kernel) (by decide +kernel)
theorem kw_979 : (Cond.code yL_switches cL_switches 7 (some .boolean)) ∈ TW := tw_in 979 (by decide +kernel) (by decide +kernel)
theorem kw_980 : (Cond.methodLink RL 122 yL_setting) ∈ TW := tw_in 980 (by decide +kernel) (by decide +kernel)
theorem kw_981 : (Cond.static yL_setting) ∈ TW := tw_in 981 (by decide +kernel) (by decide +kernel)
theorem kw_982 : (Cond.code yL_setting cL_setting 10 (some .int)) ∈ TW := tw_in 982 (by decide +kernel) (by decide +kernel)
theorem kw_983 : (Cond.methodLink RL 125 yX10_routes) ∈ TW := tw_in 983 (by decide +kernel) (by decide +kernel)
theorem kw_984 : (Cond.instanceMethod yX10_routes) ∈ TW := tw_in 984 (by decide +kernel) (by decide +kernel)
theorem kw_985 : (Cond.selects RX10 yX10_routes yX10_routes) ∈ TW := tw_in 985 (by decide +kernel) (by decide +kernel)
theorem kw_986 : (Cond.code yX10_routes cX10_routes 1 (some .int)) ∈ TW := tw_in 986 (by decide +kernel) (by decide +kernel)
theorem kw_987 : (Cond.methodLink RX10 264 yX7_rowsOut) ∈ TW := tw_in 987 (by decide +kernel) (by decide +kernel)
theorem kw_988 : (Cond.instanceMethod yX7_rowsOut) ∈ TW := tw_in 988 (by decide +kernel) (by decide +kernel)
theorem kw_989 : (Cond.selects RX7 yX7_rowsOut yX7_rowsOut) ∈ TW := tw_in 989 (by decide +kernel) (by decide +kernel)
theorem kw_990 : (Cond.code yX7_rowsOut cX7_rowsOut 2 (some .int)) ∈ TW := tw_in 990 (by decide +kernel) (by decide +kernel)
theorem kw_991 : (Cond.methodLink RX7 23 yX7_learn) ∈ TW := tw_in 991 (by decide +kernel) (by decide +kernel)
theorem kw_993 : (Cond.instanceMethod yX7_learn) ∈ TW := tw_in 993 (by decide +kernel) (by decide +kernel)
theorem kw_994 : (Cond.code yX7_learn cX7_learn 7 (none)) ∈ TW := tw_in 994 (by decide +kernel) (by decide +kernel)
theorem kw_995 : (Cond.methodLink RX7 49 yX5_inOrder) ∈ TW := tw_in 995 (by decide +kernel) (by decide +kernel)
theorem kw_996 : (Cond.methodLink RX7 53 yX7_reach) ∈ TW := tw_in 996 (by decide +kernel) (by decide +kernel)
theorem kw_998 : (Cond.instanceMethod yX7_reach) ∈ TW := tw_in 998 (by decide +kernel) (by decide +kernel)
theorem kw_999 : (Cond.code yX7_reach cX7_reach 5 (none)) ∈ TW := tw_in 999 (by decide +kernel) (by decide +kernel)
theorem kw_1000 : (Cond.methodLink RX7 32 yX5_rank) ∈ TW := tw_in 1000 (by decide +kernel) (by decide +kernel)
theorem kw_1001 : (Cond.methodLink RX7 57 yX5_howMany) ∈ TW := tw_in 1001 (by decide +kernel) (by decide +kernel)
theorem kw_1002 : (Cond.methodLink RX7 45 yX5_exchanged) ∈ TW := tw_in 1002 (by decide +kernel) (by decide +kernel)
theorem kw_1003 : (Cond.methodLink RL 128 yX10_setting) ∈ TW := tw_in 1003 (by decide +kernel) (by decide +kernel)
theorem kw_1004 : (Cond.instanceMethod yX10_setting) ∈ TW := tw_in 1004 (by decide +kernel) (by decide +kernel)
theorem kw_1005 : (Cond.selects RX10 yX10_setting yX10_setting) ∈ TW := tw_in 1005 (by decide +kernel) (by decide +kernel)
theorem kw_1006 : (Cond.code yX10_setting cX10_setting 3 (some .int)) ∈ TW := tw_in 1006 (by decide +kernel) (by decide +kernel)
theorem kw_1007 : (Cond.methodLink RX10 266 yX7_lowestFor) ∈ TW := tw_in 1007 (by decide +kernel) (by decide +kernel)
theorem kw_1008 : (Cond.instanceMethod yX7_lowestFor) ∈ TW := tw_in 1008 (by decide +kernel) (by decide +kernel)
theorem kw_1009 : (Cond.selects RX7 yX7_lowestFor yX7_lowestFor) ∈ TW := tw_in 1009 (by decide +kernel) (by decide +kernel)
theorem kw_1010 : (Cond.code yX7_lowestFor cX7_lowestFor 7 (some .int)) ∈ TW := tw_in 1010 (by decide +kernel) (by decide +kernel)
theorem kw_1011 : (Cond.methodLink RL 258 yX10_finishes) ∈ TW := tw_in 1011 (by decide +kernel) (by decide +kernel)
theorem kw_1012 : (Cond.instanceMethod yX10_finishes) ∈ TW := tw_in 1012 (by decide +kernel) (by decide +kernel)
theorem kw_1013 : (Cond.selects RX10 yX10_finishes yX10_finishes) ∈ TW := tw_in 1013 (by decide +kernel) (by decide +kernel)
theorem kw_1014 : (Cond.code yX10_finishes cX10_finishes 2 (some .int)) ∈ TW := tw_in 1014 (by decide +kernel) (by decide +kernel)
theorem kw_1016 : (Cond.methodLink RX10 243 yX4_missing) ∈ TW := tw_in 1016 (by decide +kernel) (by decide +kernel)
theorem kw_1017 : (Cond.instanceMethod yX4_missing) ∈ TW := tw_in 1017 (by decide +kernel) (by decide +kernel)
theorem kw_1018 : (Cond.selects RX4 yX4_missing yX4_missing) ∈ TW := tw_in 1018 (by decide +kernel) (by decide +kernel)
theorem kw_1019 : (Cond.code yX4_missing cX4_missing 4 (some .int)) ∈ TW := tw_in 1019 (by decide +kernel) (by decide +kernel)
theorem kw_1020 : (Cond.methodLink RX4 108 yX4_canFinish) ∈ TW := tw_in 1020 (by decide +kernel) (by decide +kernel)
theorem kw_1021 : (Cond.static yX4_canFinish) ∈ TW := tw_in 1021 (by decide +kernel) (by decide +kernel)
theorem kw_1022 : (Cond.code yX4_canFinish cX4_canFinish 10 (some .boolean)) ∈ TW := tw_in 1022 (by decide +kernel) (by decide +kernel)
theorem kw_1023 : (Cond.methodLink RL 134 yL_done) ∈ TW := tw_in 1023 (by decide +kernel) (by decide +kernel)
theorem kw_1024 : (Cond.static yL_done) ∈ TW := tw_in 1024 (by decide +kernel) (by decide +kernel)
theorem kw_1025 : (Cond.code yL_done cL_done 9 (some .boolean)) ∈ TW := tw_in 1025 (by decide +kernel) (by decide +kernel)
theorem kw_1026 : (Cond.methodLink RL 261 yL_finishes) ∈ TW := tw_in 1026 (by decide +kernel) (by decide +kernel)
theorem kw_1027 : (Cond.static yL_finishes) ∈ TW := tw_in 1027 (by decide +kernel) (by decide +kernel)
theorem kw_1028 : (Cond.code yL_finishes cL_finishes 6 (some .int)) ∈ TW := tw_in 1028 (by decide +kernel) (by decide +kernel)
theorem kw_1029 : (Cond.methodLink RL 263 yL_forgets) ∈ TW := tw_in 1029 (by decide +kernel) (by decide +kernel)
theorem kw_1030 : (Cond.static yL_forgets) ∈ TW := tw_in 1030 (by decide +kernel) (by decide +kernel)
theorem kw_1031 : (Cond.code yL_forgets cL_forgets 2 (none)) ∈ TW := tw_in 1031 (by decide +kernel) (by decide +kernel)
theorem kw_1035 : (Cond.methodLink RL 47 yL_puts) ∈ TW := tw_in 1035 (by decide +kernel) (by decide +kernel)
theorem kw_1036 : (Cond.static yL_puts) ∈ TW := tw_in 1036 (by decide +kernel) (by decide +kernel)
theorem kw_1037 : (Cond.code yL_puts cL_puts 4 (none)) ∈ TW := tw_in 1037 (by decide +kernel) (by decide +kernel)
theorem kw_1038 : (Cond.methodLink RL 57 yL_made) ∈ TW := tw_in 1038 (by decide +kernel) (by decide +kernel)
theorem kw_1039 : (Cond.static yL_made) ∈ TW := tw_in 1039 (by decide +kernel) (by decide +kernel)
theorem kw_1040 : (Cond.code yL_made cL_made 2 (some .int)) ∈ TW := tw_in 1040 (by decide +kernel) (by decide +kernel)
theorem kw_1041 : (Cond.methodLink RL 271 yL_makes) ∈ TW := tw_in 1041 (by decide +kernel) (by decide +kernel)
theorem kw_1042 : (Cond.static yL_makes) ∈ TW := tw_in 1042 (by decide +kernel) (by decide +kernel)
theorem kw_1043 : (Cond.code yL_makes cL_makes 12 (none)) ∈ TW := tw_in 1043 (by decide +kernel) (by decide +kernel)
theorem kw_1044 : (Cond.constantLong "ComparatoryLaw" (51 : Nat) (40213240123141234 : Int64)) ∈ TW := tw_in 1044 (by decide +kernel) (by decide +kernel)
theorem kw_1045 : (Cond.constantLong "ComparatoryLaw" (53 : Nat) (213012312 : Int64)) ∈ TW := tw_in 1045 (by decide +kernel) (by decide +kernel)
theorem kw_1046 : (Cond.constantLong "ComparatoryLaw" (55 : Nat) (20112 : Int64)) ∈ TW := tw_in 1046 (by decide +kernel) (by decide +kernel)
theorem kw_1047 : (Cond.constantLong "ComparatoryLaw" (60 : Nat) (100 : Int64)) ∈ TW := tw_in 1047 (by decide +kernel) (by decide +kernel)
theorem kw_1048 : (Cond.constantLong "ComparatoryLaw" (62 : Nat) (10 : Int64)) ∈ TW := tw_in 1048 (by decide +kernel) (by decide +kernel)
theorem kw_1049 : (Cond.methodLink RL 275 yX10_mirror) ∈ TW := tw_in 1049 (by decide +kernel) (by decide +kernel)
theorem kw_1050 : (Cond.instanceMethod yX10_mirror) ∈ TW := tw_in 1050 (by decide +kernel) (by decide +kernel)
theorem kw_1051 : (Cond.selects RX10 yX10_mirror yX10_mirror) ∈ TW := tw_in 1051 (by decide +kernel) (by decide +kernel)
theorem kw_1052 : (Cond.code yX10_mirror cX10_mirror 1 (none)) ∈ TW := tw_in 1052 (by decide +kernel) (by decide +kernel)
theorem kw_1053 : (Cond.methodLink RX10 125 yX9_turnUpsideDown) ∈ TW := tw_in 1053 (by decide +kernel) (by decide +kernel)
theorem kw_1054 : (Cond.instanceMethod yX9_turnUpsideDown) ∈ TW := tw_in 1054 (by decide +kernel) (by decide +kernel)
theorem kw_1055 : (Cond.selects RX9 yX9_turnUpsideDown yX9_turnUpsideDown) ∈ TW := tw_in 1055 (by decide +kernel) (by decide +kernel)
theorem kw_1056 : (Cond.code yX9_turnUpsideDown cX9_turnUpsideDown 3 (none)) ∈ TW := tw_in 1056 (by decide +kernel) (by decide +kernel)
theorem kw_1057 : (Cond.methodLink RL 278 yX10_untangle) ∈ TW := tw_in 1057 (by decide +kernel) (by decide +kernel)
theorem kw_1058 : (Cond.instanceMethod yX10_untangle) ∈ TW := tw_in 1058 (by decide +kernel) (by decide +kernel)
theorem kw_1059 : (Cond.selects RX10 yX10_untangle yX10_untangle) ∈ TW := tw_in 1059 (by decide +kernel) (by decide +kernel)
theorem kw_1060 : (Cond.code yX10_untangle cX10_untangle 2 (some .int)) ∈ TW := tw_in 1060 (by decide +kernel) (by decide +kernel)
theorem kw_1061 : (Cond.methodLink RX10 128 yX9_straighten) ∈ TW := tw_in 1061 (by decide +kernel) (by decide +kernel)
theorem kw_1062 : (Cond.instanceMethod yX9_straighten) ∈ TW := tw_in 1062 (by decide +kernel) (by decide +kernel)
theorem kw_1063 : (Cond.selects RX9 yX9_straighten yX9_straighten) ∈ TW := tw_in 1063 (by decide +kernel) (by decide +kernel)
theorem kw_1064 : (Cond.code yX9_straighten cX9_straighten 3 (some .int)) ∈ TW := tw_in 1064 (by decide +kernel) (by decide +kernel)
theorem kw_1065 : (Cond.methodLink RX9 43 yX9_changeNames) ∈ TW := tw_in 1065 (by decide +kernel) (by decide +kernel)
theorem kw_1067 : (Cond.instanceMethod yX9_changeNames) ∈ TW := tw_in 1067 (by decide +kernel) (by decide +kernel)
theorem kw_1068 : (Cond.code yX9_changeNames cX9_changeNames 5 (none)) ∈ TW := tw_in 1068 (by decide +kernel) (by decide +kernel)
theorem kw_1069 : (Cond.methodLink RX9 46 yX9_renamed) ∈ TW := tw_in 1069 (by decide +kernel) (by decide +kernel)
theorem kw_1070 : (Cond.static yX9_renamed) ∈ TW := tw_in 1070 (by decide +kernel) (by decide +kernel)
theorem kw_1071 : (Cond.code yX9_renamed cX9_renamed 3 (some .int)) ∈ TW := tw_in 1071 (by decide +kernel) (by decide +kernel)
theorem kw_1072 : (Cond.methodLink RL 281 yX10_prune) ∈ TW := tw_in 1072 (by decide +kernel) (by decide +kernel)
theorem kw_1073 : (Cond.instanceMethod yX10_prune) ∈ TW := tw_in 1073 (by decide +kernel) (by decide +kernel)
theorem kw_1074 : (Cond.selects RX10 yX10_prune yX10_prune) ∈ TW := tw_in 1074 (by decide +kernel) (by decide +kernel)
theorem kw_1075 : (Cond.code yX10_prune cX10_prune 2 (some .int)) ∈ TW := tw_in 1075 (by decide +kernel) (by decide +kernel)
theorem kw_1076 : (Cond.methodLink RX10 131 yX4_dropDead) ∈ TW := tw_in 1076 (by decide +kernel) (by decide +kernel)
theorem kw_1077 : (Cond.instanceMethod yX4_dropDead) ∈ TW := tw_in 1077 (by decide +kernel) (by decide +kernel)
theorem kw_1078 : (Cond.selects RX4 yX4_dropDead yX4_dropDead) ∈ TW := tw_in 1078 (by decide +kernel) (by decide +kernel)
theorem kw_1079 : (Cond.code yX4_dropDead cX4_dropDead 6 (some .int)) ∈ TW := tw_in 1079 (by decide +kernel) (by decide +kernel)
theorem kw_1080 : (Cond.methodLink RX4 78 yX9_append) ∈ TW := tw_in 1080 (by decide +kernel) (by decide +kernel)
theorem kw_1084 : (Cond.constantLong "ComparatoryLaw" (284 : Nat) (255 : Int64)) ∈ TW := tw_in 1084 (by decide +kernel) (by decide +kernel)
theorem hd_X10_init : yX10_init.cls ≠ "java/lang/invoke/MethodHandle" ∧ yX10_init.cls ≠ "java/lang/invoke/VarHandle" ∧ (parseMethodDescriptor yX10_init.desc).map (fun d => d.parameters.length) = some 0 := ⟨by decide +kernel, by decide +kernel, by decide +kernel⟩
theorem hd_X10_add : yX10_add.cls ≠ "java/lang/invoke/MethodHandle" ∧ yX10_add.cls ≠ "java/lang/invoke/VarHandle" ∧ (parseMethodDescriptor yX10_add.desc).map (fun d => d.parameters.length) = some 2 := ⟨by decide +kernel, by decide +kernel, by decide +kernel⟩
theorem hd_X10_appendPlan : yX10_appendPlan.cls ≠ "java/lang/invoke/MethodHandle" ∧ yX10_appendPlan.cls ≠ "java/lang/invoke/VarHandle" ∧ (parseMethodDescriptor yX10_appendPlan.desc).map (fun d => d.parameters.length) = some 0 := ⟨by decide +kernel, by decide +kernel, by decide +kernel⟩
theorem hd_X10_ask : yX10_ask.cls ≠ "java/lang/invoke/MethodHandle" ∧ yX10_ask.cls ≠ "java/lang/invoke/VarHandle" ∧ (parseMethodDescriptor yX10_ask.desc).map (fun d => d.parameters.length) = some 2 := ⟨by decide +kernel, by decide +kernel, by decide +kernel⟩
theorem hd_X10_bad : yX10_bad.cls ≠ "java/lang/invoke/MethodHandle" ∧ yX10_bad.cls ≠ "java/lang/invoke/VarHandle" ∧ (parseMethodDescriptor yX10_bad.desc).map (fun d => d.parameters.length) = some 2 := ⟨by decide +kernel, by decide +kernel, by decide +kernel⟩
theorem hd_X10_bears : yX10_bears.cls ≠ "java/lang/invoke/MethodHandle" ∧ yX10_bears.cls ≠ "java/lang/invoke/VarHandle" ∧ (parseMethodDescriptor yX10_bears.desc).map (fun d => d.parameters.length) = some 0 := ⟨by decide +kernel, by decide +kernel, by decide +kernel⟩
theorem hd_X10_build : yX10_build.cls ≠ "java/lang/invoke/MethodHandle" ∧ yX10_build.cls ≠ "java/lang/invoke/VarHandle" ∧ (parseMethodDescriptor yX10_build.desc).map (fun d => d.parameters.length) = some 0 := ⟨by decide +kernel, by decide +kernel, by decide +kernel⟩
theorem hd_X10_came : yX10_came.cls ≠ "java/lang/invoke/MethodHandle" ∧ yX10_came.cls ≠ "java/lang/invoke/VarHandle" ∧ (parseMethodDescriptor yX10_came.desc).map (fun d => d.parameters.length) = some 1 := ⟨by decide +kernel, by decide +kernel, by decide +kernel⟩
theorem hd_X10_cameAnew : yX10_cameAnew.cls ≠ "java/lang/invoke/MethodHandle" ∧ yX10_cameAnew.cls ≠ "java/lang/invoke/VarHandle" ∧ (parseMethodDescriptor yX10_cameAnew.desc).map (fun d => d.parameters.length) = some 1 := ⟨by decide +kernel, by decide +kernel, by decide +kernel⟩
theorem hd_X10_checkComparator : yX10_checkComparator.cls ≠ "java/lang/invoke/MethodHandle" ∧ yX10_checkComparator.cls ≠ "java/lang/invoke/VarHandle" ∧ (parseMethodDescriptor yX10_checkComparator.desc).map (fun d => d.parameters.length) = some 1 := ⟨by decide +kernel, by decide +kernel, by decide +kernel⟩
theorem hd_X10_checkFault : yX10_checkFault.cls ≠ "java/lang/invoke/MethodHandle" ∧ yX10_checkFault.cls ≠ "java/lang/invoke/VarHandle" ∧ (parseMethodDescriptor yX10_checkFault.desc).map (fun d => d.parameters.length) = some 1 := ⟨by decide +kernel, by decide +kernel, by decide +kernel⟩
theorem hd_X10_checkPlace : yX10_checkPlace.cls ≠ "java/lang/invoke/MethodHandle" ∧ yX10_checkPlace.cls ≠ "java/lang/invoke/VarHandle" ∧ (parseMethodDescriptor yX10_checkPlace.desc).map (fun d => d.parameters.length) = some 1 := ⟨by decide +kernel, by decide +kernel, by decide +kernel⟩
theorem hd_X10_checkRoomFor : yX10_checkRoomFor.cls ≠ "java/lang/invoke/MethodHandle" ∧ yX10_checkRoomFor.cls ≠ "java/lang/invoke/VarHandle" ∧ (parseMethodDescriptor yX10_checkRoomFor.desc).map (fun d => d.parameters.length) = some 1 := ⟨by decide +kernel, by decide +kernel, by decide +kernel⟩
theorem hd_X10_checkSteps : yX10_checkSteps.cls ≠ "java/lang/invoke/MethodHandle" ∧ yX10_checkSteps.cls ≠ "java/lang/invoke/VarHandle" ∧ (parseMethodDescriptor yX10_checkSteps.desc).map (fun d => d.parameters.length) = some 1 := ⟨by decide +kernel, by decide +kernel, by decide +kernel⟩
theorem hd_X10_checkTwoWires : yX10_checkTwoWires.cls ≠ "java/lang/invoke/MethodHandle" ∧ yX10_checkTwoWires.cls ≠ "java/lang/invoke/VarHandle" ∧ (parseMethodDescriptor yX10_checkTwoWires.desc).map (fun d => d.parameters.length) = some 2 := ⟨by decide +kernel, by decide +kernel, by decide +kernel⟩
theorem hd_X10_checkWire : yX10_checkWire.cls ≠ "java/lang/invoke/MethodHandle" ∧ yX10_checkWire.cls ≠ "java/lang/invoke/VarHandle" ∧ (parseMethodDescriptor yX10_checkWire.desc).map (fun d => d.parameters.length) = some 1 := ⟨by decide +kernel, by decide +kernel, by decide +kernel⟩
theorem hd_X10_chooses : yX10_chooses.cls ≠ "java/lang/invoke/MethodHandle" ∧ yX10_chooses.cls ≠ "java/lang/invoke/VarHandle" ∧ (parseMethodDescriptor yX10_chooses.desc).map (fun d => d.parameters.length) = some 1 := ⟨by decide +kernel, by decide +kernel, by decide +kernel⟩
theorem hd_X10_comparator : yX10_comparator.cls ≠ "java/lang/invoke/MethodHandle" ∧ yX10_comparator.cls ≠ "java/lang/invoke/VarHandle" ∧ (parseMethodDescriptor yX10_comparator.desc).map (fun d => d.parameters.length) = some 2 := ⟨by decide +kernel, by decide +kernel, by decide +kernel⟩
theorem hd_X10_far : yX10_far.cls ≠ "java/lang/invoke/MethodHandle" ∧ yX10_far.cls ≠ "java/lang/invoke/VarHandle" ∧ (parseMethodDescriptor yX10_far.desc).map (fun d => d.parameters.length) = some 2 := ⟨by decide +kernel, by decide +kernel, by decide +kernel⟩
theorem hd_X10_fault : yX10_fault.cls ≠ "java/lang/invoke/MethodHandle" ∧ yX10_fault.cls ≠ "java/lang/invoke/VarHandle" ∧ (parseMethodDescriptor yX10_fault.desc).map (fun d => d.parameters.length) = some 0 := ⟨by decide +kernel, by decide +kernel, by decide +kernel⟩
theorem hd_X10_finishes : yX10_finishes.cls ≠ "java/lang/invoke/MethodHandle" ∧ yX10_finishes.cls ≠ "java/lang/invoke/VarHandle" ∧ (parseMethodDescriptor yX10_finishes.desc).map (fun d => d.parameters.length) = some 1 := ⟨by decide +kernel, by decide +kernel, by decide +kernel⟩
theorem hd_X10_forgetWhatDependsOnComparators : yX10_forgetWhatDependsOnComparators.cls ≠ "java/lang/invoke/MethodHandle" ∧ yX10_forgetWhatDependsOnComparators.cls ≠ "java/lang/invoke/VarHandle" ∧ (parseMethodDescriptor yX10_forgetWhatDependsOnComparators.desc).map (fun d => d.parameters.length) = some 0 := ⟨by decide +kernel, by decide +kernel, by decide +kernel⟩
theorem hd_X10_hidden : yX10_hidden.cls ≠ "java/lang/invoke/MethodHandle" ∧ yX10_hidden.cls ≠ "java/lang/invoke/VarHandle" ∧ (parseMethodDescriptor yX10_hidden.desc).map (fun d => d.parameters.length) = some 1 := ⟨by decide +kernel, by decide +kernel, by decide +kernel⟩
theorem hd_X10_isStep : yX10_isStep.cls ≠ "java/lang/invoke/MethodHandle" ∧ yX10_isStep.cls ≠ "java/lang/invoke/VarHandle" ∧ (parseMethodDescriptor yX10_isStep.desc).map (fun d => d.parameters.length) = some 0 := ⟨by decide +kernel, by decide +kernel, by decide +kernel⟩
theorem hd_X10_left : yX10_left.cls ≠ "java/lang/invoke/MethodHandle" ∧ yX10_left.cls ≠ "java/lang/invoke/VarHandle" ∧ (parseMethodDescriptor yX10_left.desc).map (fun d => d.parameters.length) = some 0 := ⟨by decide +kernel, by decide +kernel, by decide +kernel⟩
theorem hd_X10_make : yX10_make.cls ≠ "java/lang/invoke/MethodHandle" ∧ yX10_make.cls ≠ "java/lang/invoke/VarHandle" ∧ (parseMethodDescriptor yX10_make.desc).map (fun d => d.parameters.length) = some 1 := ⟨by decide +kernel, by decide +kernel, by decide +kernel⟩
theorem hd_X10_manyFar : yX10_manyFar.cls ≠ "java/lang/invoke/MethodHandle" ∧ yX10_manyFar.cls ≠ "java/lang/invoke/VarHandle" ∧ (parseMethodDescriptor yX10_manyFar.desc).map (fun d => d.parameters.length) = some 2 := ⟨by decide +kernel, by decide +kernel, by decide +kernel⟩
theorem hd_X10_merges : yX10_merges.cls ≠ "java/lang/invoke/MethodHandle" ∧ yX10_merges.cls ≠ "java/lang/invoke/VarHandle" ∧ (parseMethodDescriptor yX10_merges.desc).map (fun d => d.parameters.length) = some 1 := ⟨by decide +kernel, by decide +kernel, by decide +kernel⟩
theorem hd_X10_mirror : yX10_mirror.cls ≠ "java/lang/invoke/MethodHandle" ∧ yX10_mirror.cls ≠ "java/lang/invoke/VarHandle" ∧ (parseMethodDescriptor yX10_mirror.desc).map (fun d => d.parameters.length) = some 0 := ⟨by decide +kernel, by decide +kernel, by decide +kernel⟩
theorem hd_X10_needed : yX10_needed.cls ≠ "java/lang/invoke/MethodHandle" ∧ yX10_needed.cls ≠ "java/lang/invoke/VarHandle" ∧ (parseMethodDescriptor yX10_needed.desc).map (fun d => d.parameters.length) = some 0 := ⟨by decide +kernel, by decide +kernel, by decide +kernel⟩
theorem hd_X10_network : yX10_network.cls ≠ "java/lang/invoke/MethodHandle" ∧ yX10_network.cls ≠ "java/lang/invoke/VarHandle" ∧ (parseMethodDescriptor yX10_network.desc).map (fun d => d.parameters.length) = some 1 := ⟨by decide +kernel, by decide +kernel, by decide +kernel⟩
theorem hd_X10_off : yX10_off.cls ≠ "java/lang/invoke/MethodHandle" ∧ yX10_off.cls ≠ "java/lang/invoke/VarHandle" ∧ (parseMethodDescriptor yX10_off.desc).map (fun d => d.parameters.length) = some 0 := ⟨by decide +kernel, by decide +kernel, by decide +kernel⟩
theorem hd_X10_outputs : yX10_outputs.cls ≠ "java/lang/invoke/MethodHandle" ∧ yX10_outputs.cls ≠ "java/lang/invoke/VarHandle" ∧ (parseMethodDescriptor yX10_outputs.desc).map (fun d => d.parameters.length) = some 0 := ⟨by decide +kernel, by decide +kernel, by decide +kernel⟩
theorem hd_X10_prune : yX10_prune.cls ≠ "java/lang/invoke/MethodHandle" ∧ yX10_prune.cls ≠ "java/lang/invoke/VarHandle" ∧ (parseMethodDescriptor yX10_prune.desc).map (fun d => d.parameters.length) = some 0 := ⟨by decide +kernel, by decide +kernel, by decide +kernel⟩
theorem hd_X10_routes : yX10_routes.cls ≠ "java/lang/invoke/MethodHandle" ∧ yX10_routes.cls ≠ "java/lang/invoke/VarHandle" ∧ (parseMethodDescriptor yX10_routes.desc).map (fun d => d.parameters.length) = some 0 := ⟨by decide +kernel, by decide +kernel, by decide +kernel⟩
theorem hd_X10_rowOf : yX10_rowOf.cls ≠ "java/lang/invoke/MethodHandle" ∧ yX10_rowOf.cls ≠ "java/lang/invoke/VarHandle" ∧ (parseMethodDescriptor yX10_rowOf.desc).map (fun d => d.parameters.length) = some 1 := ⟨by decide +kernel, by decide +kernel, by decide +kernel⟩
theorem hd_X10_run : yX10_run.cls ≠ "java/lang/invoke/MethodHandle" ∧ yX10_run.cls ≠ "java/lang/invoke/VarHandle" ∧ (parseMethodDescriptor yX10_run.desc).map (fun d => d.parameters.length) = some 1 := ⟨by decide +kernel, by decide +kernel, by decide +kernel⟩
theorem hd_X10_setting : yX10_setting.cls ≠ "java/lang/invoke/MethodHandle" ∧ yX10_setting.cls ≠ "java/lang/invoke/VarHandle" ∧ (parseMethodDescriptor yX10_setting.desc).map (fun d => d.parameters.length) = some 1 := ⟨by decide +kernel, by decide +kernel, by decide +kernel⟩
theorem hd_X10_sorted : yX10_sorted.cls ≠ "java/lang/invoke/MethodHandle" ∧ yX10_sorted.cls ≠ "java/lang/invoke/VarHandle" ∧ (parseMethodDescriptor yX10_sorted.desc).map (fun d => d.parameters.length) = some 0 := ⟨by decide +kernel, by decide +kernel, by decide +kernel⟩
theorem hd_X10_sorts : yX10_sorts.cls ≠ "java/lang/invoke/MethodHandle" ∧ yX10_sorts.cls ≠ "java/lang/invoke/VarHandle" ∧ (parseMethodDescriptor yX10_sorts.desc).map (fun d => d.parameters.length) = some 0 := ⟨by decide +kernel, by decide +kernel, by decide +kernel⟩
theorem hd_X10_step : yX10_step.cls ≠ "java/lang/invoke/MethodHandle" ∧ yX10_step.cls ≠ "java/lang/invoke/VarHandle" ∧ (parseMethodDescriptor yX10_step.desc).map (fun d => d.parameters.length) = some 2 := ⟨by decide +kernel, by decide +kernel, by decide +kernel⟩
theorem hd_X10_take : yX10_take.cls ≠ "java/lang/invoke/MethodHandle" ∧ yX10_take.cls ≠ "java/lang/invoke/VarHandle" ∧ (parseMethodDescriptor yX10_take.desc).map (fun d => d.parameters.length) = some 0 := ⟨by decide +kernel, by decide +kernel, by decide +kernel⟩
theorem hd_X10_tells : yX10_tells.cls ≠ "java/lang/invoke/MethodHandle" ∧ yX10_tells.cls ≠ "java/lang/invoke/VarHandle" ∧ (parseMethodDescriptor yX10_tells.desc).map (fun d => d.parameters.length) = some 2 := ⟨by decide +kernel, by decide +kernel, by decide +kernel⟩
theorem hd_X10_tests : yX10_tests.cls ≠ "java/lang/invoke/MethodHandle" ∧ yX10_tests.cls ≠ "java/lang/invoke/VarHandle" ∧ (parseMethodDescriptor yX10_tests.desc).map (fun d => d.parameters.length) = some 0 := ⟨by decide +kernel, by decide +kernel, by decide +kernel⟩
theorem hd_X10_textAt : yX10_textAt.cls ≠ "java/lang/invoke/MethodHandle" ∧ yX10_textAt.cls ≠ "java/lang/invoke/VarHandle" ∧ (parseMethodDescriptor yX10_textAt.desc).map (fun d => d.parameters.length) = some 1 := ⟨by decide +kernel, by decide +kernel, by decide +kernel⟩
theorem hd_X10_token : yX10_token.cls ≠ "java/lang/invoke/MethodHandle" ∧ yX10_token.cls ≠ "java/lang/invoke/VarHandle" ∧ (parseMethodDescriptor yX10_token.desc).map (fun d => d.parameters.length) = some 1 := ⟨by decide +kernel, by decide +kernel, by decide +kernel⟩
theorem hd_X10_told : yX10_told.cls ≠ "java/lang/invoke/MethodHandle" ∧ yX10_told.cls ≠ "java/lang/invoke/VarHandle" ∧ (parseMethodDescriptor yX10_told.desc).map (fun d => d.parameters.length) = some 1 := ⟨by decide +kernel, by decide +kernel, by decide +kernel⟩
theorem hd_X10_type : yX10_type.cls ≠ "java/lang/invoke/MethodHandle" ∧ yX10_type.cls ≠ "java/lang/invoke/VarHandle" ∧ (parseMethodDescriptor yX10_type.desc).map (fun d => d.parameters.length) = some 2 := ⟨by decide +kernel, by decide +kernel, by decide +kernel⟩
theorem hd_X10_untangle : yX10_untangle.cls ≠ "java/lang/invoke/MethodHandle" ∧ yX10_untangle.cls ≠ "java/lang/invoke/VarHandle" ∧ (parseMethodDescriptor yX10_untangle.desc).map (fun d => d.parameters.length) = some 0 := ⟨by decide +kernel, by decide +kernel, by decide +kernel⟩
theorem hd_X10_wipe : yX10_wipe.cls ≠ "java/lang/invoke/MethodHandle" ∧ yX10_wipe.cls ≠ "java/lang/invoke/VarHandle" ∧ (parseMethodDescriptor yX10_wipe.desc).map (fun d => d.parameters.length) = some 0 := ⟨by decide +kernel, by decide +kernel, by decide +kernel⟩
theorem hd_X10_wrong : yX10_wrong.cls ≠ "java/lang/invoke/MethodHandle" ∧ yX10_wrong.cls ≠ "java/lang/invoke/VarHandle" ∧ (parseMethodDescriptor yX10_wrong.desc).map (fun d => d.parameters.length) = some 1 := ⟨by decide +kernel, by decide +kernel, by decide +kernel⟩
theorem hd_X0_init : yX0_init.cls ≠ "java/lang/invoke/MethodHandle" ∧ yX0_init.cls ≠ "java/lang/invoke/VarHandle" ∧ (parseMethodDescriptor yX0_init.desc).map (fun d => d.parameters.length) = some 0 := ⟨by decide +kernel, by decide +kernel, by decide +kernel⟩
theorem hd_X0_answer : yX0_answer.cls ≠ "java/lang/invoke/MethodHandle" ∧ yX0_answer.cls ≠ "java/lang/invoke/VarHandle" ∧ (parseMethodDescriptor yX0_answer.desc).map (fun d => d.parameters.length) = some 3 := ⟨by decide +kernel, by decide +kernel, by decide +kernel⟩
theorem hd_X0_canSettle : yX0_canSettle.cls ≠ "java/lang/invoke/MethodHandle" ∧ yX0_canSettle.cls ≠ "java/lang/invoke/VarHandle" ∧ (parseMethodDescriptor yX0_canSettle.desc).map (fun d => d.parameters.length) = some 5 := ⟨by decide +kernel, by decide +kernel, by decide +kernel⟩
theorem hd_X0_countOf : yX0_countOf.cls ≠ "java/lang/invoke/MethodHandle" ∧ yX0_countOf.cls ≠ "java/lang/invoke/VarHandle" ∧ (parseMethodDescriptor yX0_countOf.desc).map (fun d => d.parameters.length) = some 3 := ⟨by decide +kernel, by decide +kernel, by decide +kernel⟩
theorem hd_X0_fewestQuestions : yX0_fewestQuestions.cls ≠ "java/lang/invoke/MethodHandle" ∧ yX0_fewestQuestions.cls ≠ "java/lang/invoke/VarHandle" ∧ (parseMethodDescriptor yX0_fewestQuestions.desc).map (fun d => d.parameters.length) = some 1 := ⟨by decide +kernel, by decide +kernel, by decide +kernel⟩
theorem hd_X0_forget : yX0_forget.cls ≠ "java/lang/invoke/MethodHandle" ∧ yX0_forget.cls ≠ "java/lang/invoke/VarHandle" ∧ (parseMethodDescriptor yX0_forget.desc).map (fun d => d.parameters.length) = some 0 := ⟨by decide +kernel, by decide +kernel, by decide +kernel⟩
theorem hd_X0_isLesser : yX0_isLesser.cls ≠ "java/lang/invoke/MethodHandle" ∧ yX0_isLesser.cls ≠ "java/lang/invoke/VarHandle" ∧ (parseMethodDescriptor yX0_isLesser.desc).map (fun d => d.parameters.length) = some 2 := ⟨by decide +kernel, by decide +kernel, by decide +kernel⟩
theorem hd_X0_rowsLeft : yX0_rowsLeft.cls ≠ "java/lang/invoke/MethodHandle" ∧ yX0_rowsLeft.cls ≠ "java/lang/invoke/VarHandle" ∧ (parseMethodDescriptor yX0_rowsLeft.desc).map (fun d => d.parameters.length) = some 1 := ⟨by decide +kernel, by decide +kernel, by decide +kernel⟩
theorem hd_X1_init : yX1_init.cls ≠ "java/lang/invoke/MethodHandle" ∧ yX1_init.cls ≠ "java/lang/invoke/VarHandle" ∧ (parseMethodDescriptor yX1_init.desc).map (fun d => d.parameters.length) = some 0 := ⟨by decide +kernel, by decide +kernel, by decide +kernel⟩
theorem hd_X1_forget : yX1_forget.cls ≠ "java/lang/invoke/MethodHandle" ∧ yX1_forget.cls ≠ "java/lang/invoke/VarHandle" ∧ (parseMethodDescriptor yX1_forget.desc).map (fun d => d.parameters.length) = some 0 := ⟨by decide +kernel, by decide +kernel, by decide +kernel⟩
theorem hd_X1_letIn : yX1_letIn.cls ≠ "java/lang/invoke/MethodHandle" ∧ yX1_letIn.cls ≠ "java/lang/invoke/VarHandle" ∧ (parseMethodDescriptor yX1_letIn.desc).map (fun d => d.parameters.length) = some 2 := ⟨by decide +kernel, by decide +kernel, by decide +kernel⟩
theorem hd_X1_outIsStep : yX1_outIsStep.cls ≠ "java/lang/invoke/MethodHandle" ∧ yX1_outIsStep.cls ≠ "java/lang/invoke/VarHandle" ∧ (parseMethodDescriptor yX1_outIsStep.desc).map (fun d => d.parameters.length) = some 1 := ⟨by decide +kernel, by decide +kernel, by decide +kernel⟩
theorem hd_X1_reckoned : yX1_reckoned.cls ≠ "java/lang/invoke/MethodHandle" ∧ yX1_reckoned.cls ≠ "java/lang/invoke/VarHandle" ∧ (parseMethodDescriptor yX1_reckoned.desc).map (fun d => d.parameters.length) = some 2 := ⟨by decide +kernel, by decide +kernel, by decide +kernel⟩
theorem hd_X2_init : yX2_init.cls ≠ "java/lang/invoke/MethodHandle" ∧ yX2_init.cls ≠ "java/lang/invoke/VarHandle" ∧ (parseMethodDescriptor yX2_init.desc).map (fun d => d.parameters.length) = some 0 := ⟨by decide +kernel, by decide +kernel, by decide +kernel⟩
theorem hd_X2_countOf : yX2_countOf.cls ≠ "java/lang/invoke/MethodHandle" ∧ yX2_countOf.cls ≠ "java/lang/invoke/VarHandle" ∧ (parseMethodDescriptor yX2_countOf.desc).map (fun d => d.parameters.length) = some 3 := ⟨by decide +kernel, by decide +kernel, by decide +kernel⟩
theorem hd_X2_waysTo : yX2_waysTo.cls ≠ "java/lang/invoke/MethodHandle" ∧ yX2_waysTo.cls ≠ "java/lang/invoke/VarHandle" ∧ (parseMethodDescriptor yX2_waysTo.desc).map (fun d => d.parameters.length) = some 3 := ⟨by decide +kernel, by decide +kernel, by decide +kernel⟩
theorem hd_X3_init : yX3_init.cls ≠ "java/lang/invoke/MethodHandle" ∧ yX3_init.cls ≠ "java/lang/invoke/VarHandle" ∧ (parseMethodDescriptor yX3_init.desc).map (fun d => d.parameters.length) = some 0 := ⟨by decide +kernel, by decide +kernel, by decide +kernel⟩
theorem hd_X3_canTell : yX3_canTell.cls ≠ "java/lang/invoke/MethodHandle" ∧ yX3_canTell.cls ≠ "java/lang/invoke/VarHandle" ∧ (parseMethodDescriptor yX3_canTell.desc).map (fun d => d.parameters.length) = some 5 := ⟨by decide +kernel, by decide +kernel, by decide +kernel⟩
theorem hd_X3_countHidden : yX3_countHidden.cls ≠ "java/lang/invoke/MethodHandle" ∧ yX3_countHidden.cls ≠ "java/lang/invoke/VarHandle" ∧ (parseMethodDescriptor yX3_countHidden.desc).map (fun d => d.parameters.length) = some 3 := ⟨by decide +kernel, by decide +kernel, by decide +kernel⟩
theorem hd_X3_fewestRows : yX3_fewestRows.cls ≠ "java/lang/invoke/MethodHandle" ∧ yX3_fewestRows.cls ≠ "java/lang/invoke/VarHandle" ∧ (parseMethodDescriptor yX3_fewestRows.desc).map (fun d => d.parameters.length) = some 2 := ⟨by decide +kernel, by decide +kernel, by decide +kernel⟩
theorem hd_X3_keep : yX3_keep.cls ≠ "java/lang/invoke/MethodHandle" ∧ yX3_keep.cls ≠ "java/lang/invoke/VarHandle" ∧ (parseMethodDescriptor yX3_keep.desc).map (fun d => d.parameters.length) = some 1 := ⟨by decide +kernel, by decide +kernel, by decide +kernel⟩
theorem hd_X4_init : yX4_init.cls ≠ "java/lang/invoke/MethodHandle" ∧ yX4_init.cls ≠ "java/lang/invoke/VarHandle" ∧ (parseMethodDescriptor yX4_init.desc).map (fun d => d.parameters.length) = some 0 := ⟨by decide +kernel, by decide +kernel, by decide +kernel⟩
theorem hd_X4_allRows : yX4_allRows.cls ≠ "java/lang/invoke/MethodHandle" ∧ yX4_allRows.cls ≠ "java/lang/invoke/VarHandle" ∧ (parseMethodDescriptor yX4_allRows.desc).map (fun d => d.parameters.length) = some 1 := ⟨by decide +kernel, by decide +kernel, by decide +kernel⟩
theorem hd_X4_bringIn : yX4_bringIn.cls ≠ "java/lang/invoke/MethodHandle" ∧ yX4_bringIn.cls ≠ "java/lang/invoke/VarHandle" ∧ (parseMethodDescriptor yX4_bringIn.desc).map (fun d => d.parameters.length) = some 2 := ⟨by decide +kernel, by decide +kernel, by decide +kernel⟩
theorem hd_X4_canFinish : yX4_canFinish.cls ≠ "java/lang/invoke/MethodHandle" ∧ yX4_canFinish.cls ≠ "java/lang/invoke/VarHandle" ∧ (parseMethodDescriptor yX4_canFinish.desc).map (fun d => d.parameters.length) = some 3 := ⟨by decide +kernel, by decide +kernel, by decide +kernel⟩
theorem hd_X4_choosesLowest : yX4_choosesLowest.cls ≠ "java/lang/invoke/MethodHandle" ∧ yX4_choosesLowest.cls ≠ "java/lang/invoke/VarHandle" ∧ (parseMethodDescriptor yX4_choosesLowest.desc).map (fun d => d.parameters.length) = some 2 := ⟨by decide +kernel, by decide +kernel, by decide +kernel⟩
theorem hd_X4_compare : yX4_compare.cls ≠ "java/lang/invoke/MethodHandle" ∧ yX4_compare.cls ≠ "java/lang/invoke/VarHandle" ∧ (parseMethodDescriptor yX4_compare.desc).map (fun d => d.parameters.length) = some 3 := ⟨by decide +kernel, by decide +kernel, by decide +kernel⟩
theorem hd_X4_compareBadly : yX4_compareBadly.cls ≠ "java/lang/invoke/MethodHandle" ∧ yX4_compareBadly.cls ≠ "java/lang/invoke/VarHandle" ∧ (parseMethodDescriptor yX4_compareBadly.desc).map (fun d => d.parameters.length) = some 4 := ⟨by decide +kernel, by decide +kernel, by decide +kernel⟩
theorem hd_X4_deadCount : yX4_deadCount.cls ≠ "java/lang/invoke/MethodHandle" ∧ yX4_deadCount.cls ≠ "java/lang/invoke/VarHandle" ∧ (parseMethodDescriptor yX4_deadCount.desc).map (fun d => d.parameters.length) = some 1 := ⟨by decide +kernel, by decide +kernel, by decide +kernel⟩
theorem hd_X4_distanceIn : yX4_distanceIn.cls ≠ "java/lang/invoke/MethodHandle" ∧ yX4_distanceIn.cls ≠ "java/lang/invoke/VarHandle" ∧ (parseMethodDescriptor yX4_distanceIn.desc).map (fun d => d.parameters.length) = some 2 := ⟨by decide +kernel, by decide +kernel, by decide +kernel⟩
theorem hd_X4_dropDead : yX4_dropDead.cls ≠ "java/lang/invoke/MethodHandle" ∧ yX4_dropDead.cls ≠ "java/lang/invoke/VarHandle" ∧ (parseMethodDescriptor yX4_dropDead.desc).map (fun d => d.parameters.length) = some 1 := ⟨by decide +kernel, by decide +kernel, by decide +kernel⟩
theorem hd_X4_exchanging : yX4_exchanging.cls ≠ "java/lang/invoke/MethodHandle" ∧ yX4_exchanging.cls ≠ "java/lang/invoke/VarHandle" ∧ (parseMethodDescriptor yX4_exchanging.desc).map (fun d => d.parameters.length) = some 2 := ⟨by decide +kernel, by decide +kernel, by decide +kernel⟩
theorem hd_X4_greatestDistance : yX4_greatestDistance.cls ≠ "java/lang/invoke/MethodHandle" ∧ yX4_greatestDistance.cls ≠ "java/lang/invoke/VarHandle" ∧ (parseMethodDescriptor yX4_greatestDistance.desc).map (fun d => d.parameters.length) = some 1 := ⟨by decide +kernel, by decide +kernel, by decide +kernel⟩
theorem hd_X4_mergesAt : yX4_mergesAt.cls ≠ "java/lang/invoke/MethodHandle" ∧ yX4_mergesAt.cls ≠ "java/lang/invoke/VarHandle" ∧ (parseMethodDescriptor yX4_mergesAt.desc).map (fun d => d.parameters.length) = some 2 := ⟨by decide +kernel, by decide +kernel, by decide +kernel⟩
theorem hd_X4_missing : yX4_missing.cls ≠ "java/lang/invoke/MethodHandle" ∧ yX4_missing.cls ≠ "java/lang/invoke/VarHandle" ∧ (parseMethodDescriptor yX4_missing.desc).map (fun d => d.parameters.length) = some 2 := ⟨by decide +kernel, by decide +kernel, by decide +kernel⟩
theorem hd_X4_rowIn : yX4_rowIn.cls ≠ "java/lang/invoke/MethodHandle" ∧ yX4_rowIn.cls ≠ "java/lang/invoke/VarHandle" ∧ (parseMethodDescriptor yX4_rowIn.desc).map (fun d => d.parameters.length) = some 2 := ⟨by decide +kernel, by decide +kernel, by decide +kernel⟩
theorem hd_X4_rowOutOf : yX4_rowOutOf.cls ≠ "java/lang/invoke/MethodHandle" ∧ yX4_rowOutOf.cls ≠ "java/lang/invoke/VarHandle" ∧ (parseMethodDescriptor yX4_rowOutOf.desc).map (fun d => d.parameters.length) = some 2 := ⟨by decide +kernel, by decide +kernel, by decide +kernel⟩
theorem hd_X4_rowsOut : yX4_rowsOut.cls ≠ "java/lang/invoke/MethodHandle" ∧ yX4_rowsOut.cls ≠ "java/lang/invoke/VarHandle" ∧ (parseMethodDescriptor yX4_rowsOut.desc).map (fun d => d.parameters.length) = some 1 := ⟨by decide +kernel, by decide +kernel, by decide +kernel⟩
theorem hd_X4_send : yX4_send.cls ≠ "java/lang/invoke/MethodHandle" ∧ yX4_send.cls ≠ "java/lang/invoke/VarHandle" ∧ (parseMethodDescriptor yX4_send.desc).map (fun d => d.parameters.length) = some 3 := ⟨by decide +kernel, by decide +kernel, by decide +kernel⟩
theorem hd_X4_sendWith : yX4_sendWith.cls ≠ "java/lang/invoke/MethodHandle" ∧ yX4_sendWith.cls ≠ "java/lang/invoke/VarHandle" ∧ (parseMethodDescriptor yX4_sendWith.desc).map (fun d => d.parameters.length) = some 4 := ⟨by decide +kernel, by decide +kernel, by decide +kernel⟩
theorem hd_X4_sortedCount : yX4_sortedCount.cls ≠ "java/lang/invoke/MethodHandle" ∧ yX4_sortedCount.cls ≠ "java/lang/invoke/VarHandle" ∧ (parseMethodDescriptor yX4_sortedCount.desc).map (fun d => d.parameters.length) = some 1 := ⟨by decide +kernel, by decide +kernel, by decide +kernel⟩
theorem hd_X4_telling : yX4_telling.cls ≠ "java/lang/invoke/MethodHandle" ∧ yX4_telling.cls ≠ "java/lang/invoke/VarHandle" ∧ (parseMethodDescriptor yX4_telling.desc).map (fun d => d.parameters.length) = some 3 := ⟨by decide +kernel, by decide +kernel, by decide +kernel⟩
theorem hd_X4_unsortedFrom : yX4_unsortedFrom.cls ≠ "java/lang/invoke/MethodHandle" ∧ yX4_unsortedFrom.cls ≠ "java/lang/invoke/VarHandle" ∧ (parseMethodDescriptor yX4_unsortedFrom.desc).map (fun d => d.parameters.length) = some 1 := ⟨by decide +kernel, by decide +kernel, by decide +kernel⟩
theorem hd_X4_unsortedIn : yX4_unsortedIn.cls ≠ "java/lang/invoke/MethodHandle" ∧ yX4_unsortedIn.cls ≠ "java/lang/invoke/VarHandle" ∧ (parseMethodDescriptor yX4_unsortedIn.desc).map (fun d => d.parameters.length) = some 2 := ⟨by decide +kernel, by decide +kernel, by decide +kernel⟩
theorem hd_X4_unsortedWith : yX4_unsortedWith.cls ≠ "java/lang/invoke/MethodHandle" ∧ yX4_unsortedWith.cls ≠ "java/lang/invoke/VarHandle" ∧ (parseMethodDescriptor yX4_unsortedWith.desc).map (fun d => d.parameters.length) = some 3 := ⟨by decide +kernel, by decide +kernel, by decide +kernel⟩
theorem hd_X5_exchanged : yX5_exchanged.cls ≠ "java/lang/invoke/MethodHandle" ∧ yX5_exchanged.cls ≠ "java/lang/invoke/VarHandle" ∧ (parseMethodDescriptor yX5_exchanged.desc).map (fun d => d.parameters.length) = some 3 := ⟨by decide +kernel, by decide +kernel, by decide +kernel⟩
theorem hd_X5_howMany : yX5_howMany.cls ≠ "java/lang/invoke/MethodHandle" ∧ yX5_howMany.cls ≠ "java/lang/invoke/VarHandle" ∧ (parseMethodDescriptor yX5_howMany.desc).map (fun d => d.parameters.length) = some 1 := ⟨by decide +kernel, by decide +kernel, by decide +kernel⟩
theorem hd_X5_inOrder : yX5_inOrder.cls ≠ "java/lang/invoke/MethodHandle" ∧ yX5_inOrder.cls ≠ "java/lang/invoke/VarHandle" ∧ (parseMethodDescriptor yX5_inOrder.desc).map (fun d => d.parameters.length) = some 1 := ⟨by decide +kernel, by decide +kernel, by decide +kernel⟩
theorem hd_X5_ofCode : yX5_ofCode.cls ≠ "java/lang/invoke/MethodHandle" ∧ yX5_ofCode.cls ≠ "java/lang/invoke/VarHandle" ∧ (parseMethodDescriptor yX5_ofCode.desc).map (fun d => d.parameters.length) = some 2 := ⟨by decide +kernel, by decide +kernel, by decide +kernel⟩
theorem hd_X5_rank : yX5_rank.cls ≠ "java/lang/invoke/MethodHandle" ∧ yX5_rank.cls ≠ "java/lang/invoke/VarHandle" ∧ (parseMethodDescriptor yX5_rank.desc).map (fun d => d.parameters.length) = some 2 := ⟨by decide +kernel, by decide +kernel, by decide +kernel⟩
theorem hd_X5_rearranged : yX5_rearranged.cls ≠ "java/lang/invoke/MethodHandle" ∧ yX5_rearranged.cls ≠ "java/lang/invoke/VarHandle" ∧ (parseMethodDescriptor yX5_rearranged.desc).map (fun d => d.parameters.length) = some 3 := ⟨by decide +kernel, by decide +kernel, by decide +kernel⟩
theorem hd_X5_toCode : yX5_toCode.cls ≠ "java/lang/invoke/MethodHandle" ∧ yX5_toCode.cls ≠ "java/lang/invoke/VarHandle" ∧ (parseMethodDescriptor yX5_toCode.desc).map (fun d => d.parameters.length) = some 2 := ⟨by decide +kernel, by decide +kernel, by decide +kernel⟩
theorem hd_X5_valueOn : yX5_valueOn.cls ≠ "java/lang/invoke/MethodHandle" ∧ yX5_valueOn.cls ≠ "java/lang/invoke/VarHandle" ∧ (parseMethodDescriptor yX5_valueOn.desc).map (fun d => d.parameters.length) = some 2 := ⟨by decide +kernel, by decide +kernel, by decide +kernel⟩
theorem hd_X6_init : yX6_init.cls ≠ "java/lang/invoke/MethodHandle" ∧ yX6_init.cls ≠ "java/lang/invoke/VarHandle" ∧ (parseMethodDescriptor yX6_init.desc).map (fun d => d.parameters.length) = some 0 := ⟨by decide +kernel, by decide +kernel, by decide +kernel⟩
theorem hd_X6_append : yX6_append.cls ≠ "java/lang/invoke/MethodHandle" ∧ yX6_append.cls ≠ "java/lang/invoke/VarHandle" ∧ (parseMethodDescriptor yX6_append.desc).map (fun d => d.parameters.length) = some 1 := ⟨by decide +kernel, by decide +kernel, by decide +kernel⟩
theorem hd_X6_blocksChanged : yX6_blocksChanged.cls ≠ "java/lang/invoke/MethodHandle" ∧ yX6_blocksChanged.cls ≠ "java/lang/invoke/VarHandle" ∧ (parseMethodDescriptor yX6_blocksChanged.desc).map (fun d => d.parameters.length) = some 4 := ⟨by decide +kernel, by decide +kernel, by decide +kernel⟩
theorem hd_X6_codeNearer : yX6_codeNearer.cls ≠ "java/lang/invoke/MethodHandle" ∧ yX6_codeNearer.cls ≠ "java/lang/invoke/VarHandle" ∧ (parseMethodDescriptor yX6_codeNearer.desc).map (fun d => d.parameters.length) = some 3 := ⟨by decide +kernel, by decide +kernel, by decide +kernel⟩
theorem hd_X6_countFar : yX6_countFar.cls ≠ "java/lang/invoke/MethodHandle" ∧ yX6_countFar.cls ≠ "java/lang/invoke/VarHandle" ∧ (parseMethodDescriptor yX6_countFar.desc).map (fun d => d.parameters.length) = some 3 := ⟨by decide +kernel, by decide +kernel, by decide +kernel⟩
theorem hd_X6_farOf : yX6_farOf.cls ≠ "java/lang/invoke/MethodHandle" ∧ yX6_farOf.cls ≠ "java/lang/invoke/VarHandle" ∧ (parseMethodDescriptor yX6_farOf.desc).map (fun d => d.parameters.length) = some 3 := ⟨by decide +kernel, by decide +kernel, by decide +kernel⟩
theorem hd_X6_learn : yX6_learn.cls ≠ "java/lang/invoke/MethodHandle" ∧ yX6_learn.cls ≠ "java/lang/invoke/VarHandle" ∧ (parseMethodDescriptor yX6_learn.desc).map (fun d => d.parameters.length) = some 2 := ⟨by decide +kernel, by decide +kernel, by decide +kernel⟩
theorem hd_X6_listBlocks : yX6_listBlocks.cls ≠ "java/lang/invoke/MethodHandle" ∧ yX6_listBlocks.cls ≠ "java/lang/invoke/VarHandle" ∧ (parseMethodDescriptor yX6_listBlocks.desc).map (fun d => d.parameters.length) = some 1 := ⟨by decide +kernel, by decide +kernel, by decide +kernel⟩
theorem hd_X6_listChanges : yX6_listChanges.cls ≠ "java/lang/invoke/MethodHandle" ∧ yX6_listChanges.cls ≠ "java/lang/invoke/VarHandle" ∧ (parseMethodDescriptor yX6_listChanges.desc).map (fun d => d.parameters.length) = some 2 := ⟨by decide +kernel, by decide +kernel, by decide +kernel⟩
theorem hd_X6_listFlips : yX6_listFlips.cls ≠ "java/lang/invoke/MethodHandle" ∧ yX6_listFlips.cls ≠ "java/lang/invoke/VarHandle" ∧ (parseMethodDescriptor yX6_listFlips.desc).map (fun d => d.parameters.length) = some 1 := ⟨by decide +kernel, by decide +kernel, by decide +kernel⟩
theorem hd_X6_listSteps : yX6_listSteps.cls ≠ "java/lang/invoke/MethodHandle" ∧ yX6_listSteps.cls ≠ "java/lang/invoke/VarHandle" ∧ (parseMethodDescriptor yX6_listSteps.desc).map (fun d => d.parameters.length) = some 2 := ⟨by decide +kernel, by decide +kernel, by decide +kernel⟩
theorem hd_X6_placeOf : yX6_placeOf.cls ≠ "java/lang/invoke/MethodHandle" ∧ yX6_placeOf.cls ≠ "java/lang/invoke/VarHandle" ∧ (parseMethodDescriptor yX6_placeOf.desc).map (fun d => d.parameters.length) = some 3 := ⟨by decide +kernel, by decide +kernel, by decide +kernel⟩
theorem hd_X7_init : yX7_init.cls ≠ "java/lang/invoke/MethodHandle" ∧ yX7_init.cls ≠ "java/lang/invoke/VarHandle" ∧ (parseMethodDescriptor yX7_init.desc).map (fun d => d.parameters.length) = some 0 := ⟨by decide +kernel, by decide +kernel, by decide +kernel⟩
theorem hd_X7_forget : yX7_forget.cls ≠ "java/lang/invoke/MethodHandle" ∧ yX7_forget.cls ≠ "java/lang/invoke/VarHandle" ∧ (parseMethodDescriptor yX7_forget.desc).map (fun d => d.parameters.length) = some 0 := ⟨by decide +kernel, by decide +kernel, by decide +kernel⟩
theorem hd_X7_learn : yX7_learn.cls ≠ "java/lang/invoke/MethodHandle" ∧ yX7_learn.cls ≠ "java/lang/invoke/VarHandle" ∧ (parseMethodDescriptor yX7_learn.desc).map (fun d => d.parameters.length) = some 1 := ⟨by decide +kernel, by decide +kernel, by decide +kernel⟩
theorem hd_X7_lowestFor : yX7_lowestFor.cls ≠ "java/lang/invoke/MethodHandle" ∧ yX7_lowestFor.cls ≠ "java/lang/invoke/VarHandle" ∧ (parseMethodDescriptor yX7_lowestFor.desc).map (fun d => d.parameters.length) = some 2 := ⟨by decide +kernel, by decide +kernel, by decide +kernel⟩
theorem hd_X7_reach : yX7_reach.cls ≠ "java/lang/invoke/MethodHandle" ∧ yX7_reach.cls ≠ "java/lang/invoke/VarHandle" ∧ (parseMethodDescriptor yX7_reach.desc).map (fun d => d.parameters.length) = some 3 := ⟨by decide +kernel, by decide +kernel, by decide +kernel⟩
theorem hd_X7_rowsOut : yX7_rowsOut.cls ≠ "java/lang/invoke/MethodHandle" ∧ yX7_rowsOut.cls ≠ "java/lang/invoke/VarHandle" ∧ (parseMethodDescriptor yX7_rowsOut.desc).map (fun d => d.parameters.length) = some 1 := ⟨by decide +kernel, by decide +kernel, by decide +kernel⟩
theorem hd_X8_init : yX8_init.cls ≠ "java/lang/invoke/MethodHandle" ∧ yX8_init.cls ≠ "java/lang/invoke/VarHandle" ∧ (parseMethodDescriptor yX8_init.desc).map (fun d => d.parameters.length) = some 0 := ⟨by decide +kernel, by decide +kernel, by decide +kernel⟩
theorem hd_X8_empty : yX8_empty.cls ≠ "java/lang/invoke/MethodHandle" ∧ yX8_empty.cls ≠ "java/lang/invoke/VarHandle" ∧ (parseMethodDescriptor yX8_empty.desc).map (fun d => d.parameters.length) = some 0 := ⟨by decide +kernel, by decide +kernel, by decide +kernel⟩
theorem hd_X8_faultFor : yX8_faultFor.cls ≠ "java/lang/invoke/MethodHandle" ∧ yX8_faultFor.cls ≠ "java/lang/invoke/VarHandle" ∧ (parseMethodDescriptor yX8_faultFor.desc).map (fun d => d.parameters.length) = some 1 := ⟨by decide +kernel, by decide +kernel, by decide +kernel⟩
theorem hd_X8_layOn : yX8_layOn.cls ≠ "java/lang/invoke/MethodHandle" ∧ yX8_layOn.cls ≠ "java/lang/invoke/VarHandle" ∧ (parseMethodDescriptor yX8_layOn.desc).map (fun d => d.parameters.length) = some 1 := ⟨by decide +kernel, by decide +kernel, by decide +kernel⟩
theorem hd_X8_put : yX8_put.cls ≠ "java/lang/invoke/MethodHandle" ∧ yX8_put.cls ≠ "java/lang/invoke/VarHandle" ∧ (parseMethodDescriptor yX8_put.desc).map (fun d => d.parameters.length) = some 1 := ⟨by decide +kernel, by decide +kernel, by decide +kernel⟩
theorem hd_X8_signIn : yX8_signIn.cls ≠ "java/lang/invoke/MethodHandle" ∧ yX8_signIn.cls ≠ "java/lang/invoke/VarHandle" ∧ (parseMethodDescriptor yX8_signIn.desc).map (fun d => d.parameters.length) = some 2 := ⟨by decide +kernel, by decide +kernel, by decide +kernel⟩
theorem hd_X8_takes : yX8_takes.cls ≠ "java/lang/invoke/MethodHandle" ∧ yX8_takes.cls ≠ "java/lang/invoke/VarHandle" ∧ (parseMethodDescriptor yX8_takes.desc).map (fun d => d.parameters.length) = some 1 := ⟨by decide +kernel, by decide +kernel, by decide +kernel⟩
theorem hd_X9_init : yX9_init.cls ≠ "java/lang/invoke/MethodHandle" ∧ yX9_init.cls ≠ "java/lang/invoke/VarHandle" ∧ (parseMethodDescriptor yX9_init.desc).map (fun d => d.parameters.length) = some 0 := ⟨by decide +kernel, by decide +kernel, by decide +kernel⟩
theorem hd_X9_append : yX9_append.cls ≠ "java/lang/invoke/MethodHandle" ∧ yX9_append.cls ≠ "java/lang/invoke/VarHandle" ∧ (parseMethodDescriptor yX9_append.desc).map (fun d => d.parameters.length) = some 2 := ⟨by decide +kernel, by decide +kernel, by decide +kernel⟩
theorem hd_X9_begin : yX9_begin.cls ≠ "java/lang/invoke/MethodHandle" ∧ yX9_begin.cls ≠ "java/lang/invoke/VarHandle" ∧ (parseMethodDescriptor yX9_begin.desc).map (fun d => d.parameters.length) = some 1 := ⟨by decide +kernel, by decide +kernel, by decide +kernel⟩
theorem hd_X9_changeNames : yX9_changeNames.cls ≠ "java/lang/invoke/MethodHandle" ∧ yX9_changeNames.cls ≠ "java/lang/invoke/VarHandle" ∧ (parseMethodDescriptor yX9_changeNames.desc).map (fun d => d.parameters.length) = some 3 := ⟨by decide +kernel, by decide +kernel, by decide +kernel⟩
theorem hd_X9_crookedCount : yX9_crookedCount.cls ≠ "java/lang/invoke/MethodHandle" ∧ yX9_crookedCount.cls ≠ "java/lang/invoke/VarHandle" ∧ (parseMethodDescriptor yX9_crookedCount.desc).map (fun d => d.parameters.length) = some 0 := ⟨by decide +kernel, by decide +kernel, by decide +kernel⟩
theorem hd_X9_dropLast : yX9_dropLast.cls ≠ "java/lang/invoke/MethodHandle" ∧ yX9_dropLast.cls ≠ "java/lang/invoke/VarHandle" ∧ (parseMethodDescriptor yX9_dropLast.desc).map (fun d => d.parameters.length) = some 0 := ⟨by decide +kernel, by decide +kernel, by decide +kernel⟩
theorem hd_X9_inTextAt : yX9_inTextAt.cls ≠ "java/lang/invoke/MethodHandle" ∧ yX9_inTextAt.cls ≠ "java/lang/invoke/VarHandle" ∧ (parseMethodDescriptor yX9_inTextAt.desc).map (fun d => d.parameters.length) = some 1 := ⟨by decide +kernel, by decide +kernel, by decide +kernel⟩
theorem hd_X9_isCrooked : yX9_isCrooked.cls ≠ "java/lang/invoke/MethodHandle" ∧ yX9_isCrooked.cls ≠ "java/lang/invoke/VarHandle" ∧ (parseMethodDescriptor yX9_isCrooked.desc).map (fun d => d.parameters.length) = some 1 := ⟨by decide +kernel, by decide +kernel, by decide +kernel⟩
theorem hd_X9_layAcross : yX9_layAcross.cls ≠ "java/lang/invoke/MethodHandle" ∧ yX9_layAcross.cls ≠ "java/lang/invoke/VarHandle" ∧ (parseMethodDescriptor yX9_layAcross.desc).map (fun d => d.parameters.length) = some 3 := ⟨by decide +kernel, by decide +kernel, by decide +kernel⟩
theorem hd_X9_layBrick : yX9_layBrick.cls ≠ "java/lang/invoke/MethodHandle" ∧ yX9_layBrick.cls ≠ "java/lang/invoke/VarHandle" ∧ (parseMethodDescriptor yX9_layBrick.desc).map (fun d => d.parameters.length) = some 0 := ⟨by decide +kernel, by decide +kernel, by decide +kernel⟩
theorem hd_X9_layBubble : yX9_layBubble.cls ≠ "java/lang/invoke/MethodHandle" ∧ yX9_layBubble.cls ≠ "java/lang/invoke/VarHandle" ∧ (parseMethodDescriptor yX9_layBubble.desc).map (fun d => d.parameters.length) = some 0 := ⟨by decide +kernel, by decide +kernel, by decide +kernel⟩
theorem hd_X9_layMerge : yX9_layMerge.cls ≠ "java/lang/invoke/MethodHandle" ∧ yX9_layMerge.cls ≠ "java/lang/invoke/VarHandle" ∧ (parseMethodDescriptor yX9_layMerge.desc).map (fun d => d.parameters.length) = some 0 := ⟨by decide +kernel, by decide +kernel, by decide +kernel⟩
theorem hd_X9_layerCount : yX9_layerCount.cls ≠ "java/lang/invoke/MethodHandle" ∧ yX9_layerCount.cls ≠ "java/lang/invoke/VarHandle" ∧ (parseMethodDescriptor yX9_layerCount.desc).map (fun d => d.parameters.length) = some 0 := ⟨by decide +kernel, by decide +kernel, by decide +kernel⟩
theorem hd_X9_layerOf : yX9_layerOf.cls ≠ "java/lang/invoke/MethodHandle" ∧ yX9_layerOf.cls ≠ "java/lang/invoke/VarHandle" ∧ (parseMethodDescriptor yX9_layerOf.desc).map (fun d => d.parameters.length) = some 1 := ⟨by decide +kernel, by decide +kernel, by decide +kernel⟩
theorem hd_X9_placeKey : yX9_placeKey.cls ≠ "java/lang/invoke/MethodHandle" ∧ yX9_placeKey.cls ≠ "java/lang/invoke/VarHandle" ∧ (parseMethodDescriptor yX9_placeKey.desc).map (fun d => d.parameters.length) = some 1 := ⟨by decide +kernel, by decide +kernel, by decide +kernel⟩
theorem hd_X9_renamed : yX9_renamed.cls ≠ "java/lang/invoke/MethodHandle" ∧ yX9_renamed.cls ≠ "java/lang/invoke/VarHandle" ∧ (parseMethodDescriptor yX9_renamed.desc).map (fun d => d.parameters.length) = some 3 := ⟨by decide +kernel, by decide +kernel, by decide +kernel⟩
theorem hd_X9_sent : yX9_sent.cls ≠ "java/lang/invoke/MethodHandle" ∧ yX9_sent.cls ≠ "java/lang/invoke/VarHandle" ∧ (parseMethodDescriptor yX9_sent.desc).map (fun d => d.parameters.length) = some 1 := ⟨by decide +kernel, by decide +kernel, by decide +kernel⟩
theorem hd_X9_signAt : yX9_signAt.cls ≠ "java/lang/invoke/MethodHandle" ∧ yX9_signAt.cls ≠ "java/lang/invoke/VarHandle" ∧ (parseMethodDescriptor yX9_signAt.desc).map (fun d => d.parameters.length) = some 1 := ⟨by decide +kernel, by decide +kernel, by decide +kernel⟩
theorem hd_X9_straighten : yX9_straighten.cls ≠ "java/lang/invoke/MethodHandle" ∧ yX9_straighten.cls ≠ "java/lang/invoke/VarHandle" ∧ (parseMethodDescriptor yX9_straighten.desc).map (fun d => d.parameters.length) = some 0 := ⟨by decide +kernel, by decide +kernel, by decide +kernel⟩
theorem hd_X9_textLength : yX9_textLength.cls ≠ "java/lang/invoke/MethodHandle" ∧ yX9_textLength.cls ≠ "java/lang/invoke/VarHandle" ∧ (parseMethodDescriptor yX9_textLength.desc).map (fun d => d.parameters.length) = some 0 := ⟨by decide +kernel, by decide +kernel, by decide +kernel⟩
theorem hd_X9_turnUpsideDown : yX9_turnUpsideDown.cls ≠ "java/lang/invoke/MethodHandle" ∧ yX9_turnUpsideDown.cls ≠ "java/lang/invoke/VarHandle" ∧ (parseMethodDescriptor yX9_turnUpsideDown.desc).map (fun d => d.parameters.length) = some 0 := ⟨by decide +kernel, by decide +kernel, by decide +kernel⟩
theorem hd_L_calls : yL_calls.cls ≠ "java/lang/invoke/MethodHandle" ∧ yL_calls.cls ≠ "java/lang/invoke/VarHandle" ∧ (parseMethodDescriptor yL_calls.desc).map (fun d => d.parameters.length) = some 5 := ⟨by decide +kernel, by decide +kernel, by decide +kernel⟩
theorem hd_J6_bitCount_0f7a4 : yJ6_bitCount_0f7a4.cls ≠ "java/lang/invoke/MethodHandle" ∧ yJ6_bitCount_0f7a4.cls ≠ "java/lang/invoke/VarHandle" ∧ (parseMethodDescriptor yJ6_bitCount_0f7a4.desc).map (fun d => d.parameters.length) = some 1 := ⟨by decide +kernel, by decide +kernel, by decide +kernel⟩
theorem hd_J13_bitCount_95d88 : yJ13_bitCount_95d88.cls ≠ "java/lang/invoke/MethodHandle" ∧ yJ13_bitCount_95d88.cls ≠ "java/lang/invoke/VarHandle" ∧ (parseMethodDescriptor yJ13_bitCount_95d88.desc).map (fun d => d.parameters.length) = some 1 := ⟨by decide +kernel, by decide +kernel, by decide +kernel⟩
theorem thc_RX10_68 : THC RX10 "java/lang/IllegalArgumentException" 68 72 := ⟨by decide +kernel, kw_258, kw_38, tst_in (by decide +kernel)⟩
theorem thc_RX10_99 : THC RX10 "java/lang/IllegalStateException" 99 103 := ⟨by decide +kernel, kw_423, kw_40, tst_in (by decide +kernel)⟩
theorem thc_RX10_247 : THC RX10 "java/lang/IndexOutOfBoundsException" 247 251 := ⟨by decide +kernel, kw_365, kw_39, tst_in (by decide +kernel)⟩
theorem gf_C_RX10_10_0 (ad : Nat → Nat) (cy : Nat → ClassId) {l : Launch} {D : va_G} {X : Cx} {cc : ByteArray} {nL : Nat} {R : Room} {k n : Nat} {h : Hp} {pc pc' : Nat} {lv : List (Nat × Value)} {st : List Value} (O : Ok l D cy X cc RX10 nL R) (d : Dc cc pc (.getfield 10) 3 pc') (kk : G l D X nL (WC ad cy) k n h pc' lv (.ref (ad 1) :: st)) : G l D X nL (WC ad cy) k n h pc lv (.ref (ad 0) :: st) := g_get O d inU_RX10 rfl (wC_0 ad cy h) (j := 0) (by decide) rfl rfl kw_226 kk
theorem gf_C_RX10_16_0 (ad : Nat → Nat) (cy : Nat → ClassId) {l : Launch} {D : va_G} {X : Cx} {cc : ByteArray} {nL : Nat} {R : Room} {k n : Nat} {h : Hp} {pc pc' : Nat} {lv : List (Nat × Value)} {st : List Value} (O : Ok l D cy X cc RX10 nL R) (d : Dc cc pc (.getfield 16) 3 pc') (kk : G l D X nL (WC ad cy) k n h pc' lv (.ref (ad 6) :: st)) : G l D X nL (WC ad cy) k n h pc lv (.ref (ad 0) :: st) := g_get O d inU_RX10 rfl (wC_0 ad cy h) (j := 1) (by decide) rfl rfl kw_227 kk
theorem gf_C_RX10_22_0 (ad : Nat → Nat) (cy : Nat → ClassId) {l : Launch} {D : va_G} {X : Cx} {cc : ByteArray} {nL : Nat} {R : Room} {k n : Nat} {h : Hp} {pc pc' : Nat} {lv : List (Nat × Value)} {st : List Value} (O : Ok l D cy X cc RX10 nL R) (d : Dc cc pc (.getfield 22) 3 pc') (kk : G l D X nL (WC ad cy) k n h pc' lv (.ref (ad 11) :: st)) : G l D X nL (WC ad cy) k n h pc lv (.ref (ad 0) :: st) := g_get O d inU_RX10 rfl (wC_0 ad cy h) (j := 2) (by decide) rfl rfl kw_228 kk
theorem gf_C_RX10_29_0 (ad : Nat → Nat) (cy : Nat → ClassId) {l : Launch} {D : va_G} {X : Cx} {cc : ByteArray} {nL : Nat} {R : Room} {k n : Nat} {h : Hp} {pc pc' : Nat} {lv : List (Nat × Value)} {st : List Value} (O : Ok l D cy X cc RX10 nL R) (d : Dc cc pc (.getfield 29) 3 pc') (kk : G l D X nL (WC ad cy) k n h pc' lv (.ref (ad 13) :: st)) : G l D X nL (WC ad cy) k n h pc lv (.ref (ad 0) :: st) := g_get O d inU_RX10 rfl (wC_0 ad cy h) (j := 3) (by decide) rfl rfl kw_229 kk
theorem gf_C_RX10_36_0 (ad : Nat → Nat) (cy : Nat → ClassId) {l : Launch} {D : va_G} {X : Cx} {cc : ByteArray} {nL : Nat} {R : Room} {k n : Nat} {h : Hp} {pc pc' : Nat} {lv : List (Nat × Value)} {st : List Value} (O : Ok l D cy X cc RX10 nL R) (d : Dc cc pc (.getfield 36) 3 pc') (kk : G l D X nL (WC ad cy) k n h pc' lv (.ref (ad 18) :: st)) : G l D X nL (WC ad cy) k n h pc lv (.ref (ad 0) :: st) := g_get O d inU_RX10 rfl (wC_0 ad cy h) (j := 4) (by decide) rfl rfl kw_230 kk
theorem gf_C_RX10_43_0 (ad : Nat → Nat) (cy : Nat → ClassId) {l : Launch} {D : va_G} {X : Cx} {cc : ByteArray} {nL : Nat} {R : Room} {k n : Nat} {h : Hp} {pc pc' : Nat} {lv : List (Nat × Value)} {st : List Value} (O : Ok l D cy X cc RX10 nL R) (d : Dc cc pc (.getfield 43) 3 pc') (kk : G l D X nL (WC ad cy) k n h pc' lv (.ref (ad 20) :: st)) : G l D X nL (WC ad cy) k n h pc lv (.ref (ad 0) :: st) := g_get O d inU_RX10 rfl (wC_0 ad cy h) (j := 5) (by decide) rfl rfl kw_231 kk
theorem gf_C_RX10_50_0 (ad : Nat → Nat) (cy : Nat → ClassId) {l : Launch} {D : va_G} {X : Cx} {cc : ByteArray} {nL : Nat} {R : Room} {k n : Nat} {h : Hp} {pc pc' : Nat} {lv : List (Nat × Value)} {st : List Value} (O : Ok l D cy X cc RX10 nL R) (d : Dc cc pc (.getfield 50) 3 pc') (kk : G l D X nL (WC ad cy) k n h pc' lv (.ref (ad 23) :: st)) : G l D X nL (WC ad cy) k n h pc lv (.ref (ad 0) :: st) := g_get O d inU_RX10 rfl (wC_0 ad cy h) (j := 6) (by decide) rfl rfl kw_232 kk
theorem gf_C_RX10_57_0 (ad : Nat → Nat) (cy : Nat → ClassId) {l : Launch} {D : va_G} {X : Cx} {cc : ByteArray} {nL : Nat} {R : Room} {k n : Nat} {h : Hp} {pc pc' : Nat} {lv : List (Nat × Value)} {st : List Value} (O : Ok l D cy X cc RX10 nL R) (d : Dc cc pc (.getfield 57) 3 pc') (kk : G l D X nL (WC ad cy) k n h pc' lv (.ref (ad 28) :: st)) : G l D X nL (WC ad cy) k n h pc lv (.ref (ad 0) :: st) := g_get O d inU_RX10 rfl (wC_0 ad cy h) (j := 7) (by decide) rfl rfl kw_233 kk
theorem gf_C_RX10_64_0 (ad : Nat → Nat) (cy : Nat → ClassId) {l : Launch} {D : va_G} {X : Cx} {cc : ByteArray} {nL : Nat} {R : Room} {k n : Nat} {h : Hp} {pc pc' : Nat} {lv : List (Nat × Value)} {st : List Value} (O : Ok l D cy X cc RX10 nL R) (d : Dc cc pc (.getfield 64) 3 pc') (kk : G l D X nL (WC ad cy) k n h pc' lv (.ref (ad 32) :: st)) : G l D X nL (WC ad cy) k n h pc lv (.ref (ad 0) :: st) := g_get O d inU_RX10 rfl (wC_0 ad cy h) (j := 8) (by decide) rfl rfl kw_234 kk
theorem gf_C_RX10_75_1 (ad : Nat → Nat) (cy : Nat → ClassId) {l : Launch} {D : va_G} {X : Cx} {cc : ByteArray} {nL : Nat} {R : Room} {k n : Nat} {h : Hp} {pc pc' : Nat} {lv : List (Nat × Value)} {st : List Value} (O : Ok l D cy X cc RX10 nL R) (d : Dc cc pc (.getfield 75) 3 pc') (kk : G l D X nL (WC ad cy) k n h pc' lv (.int (h.1 1 1) :: st)) : G l D X nL (WC ad cy) k n h pc lv (.ref (ad 1) :: st) := g_getN O d inU_RX9 rfl (wC_1 ad cy h) (j := 1) (by decide) rfl rfl kw_65 kk
theorem gf_C_RX10_75_6 (ad : Nat → Nat) (cy : Nat → ClassId) {l : Launch} {D : va_G} {X : Cx} {cc : ByteArray} {nL : Nat} {R : Room} {k n : Nat} {h : Hp} {pc pc' : Nat} {lv : List (Nat × Value)} {st : List Value} (O : Ok l D cy X cc RX10 nL R) (d : Dc cc pc (.getfield 75) 3 pc') (kk : G l D X nL (WC ad cy) k n h pc' lv (.int (h.1 6 1) :: st)) : G l D X nL (WC ad cy) k n h pc lv (.ref (ad 6) :: st) := g_getN O d inU_RX9 rfl (wC_6 ad cy h) (j := 1) (by decide) rfl rfl kw_65 kk
theorem gf_C_RX10_109_1 (ad : Nat → Nat) (cy : Nat → ClassId) {l : Launch} {D : va_G} {X : Cx} {cc : ByteArray} {nL : Nat} {R : Room} {k n : Nat} {h : Hp} {pc pc' : Nat} {lv : List (Nat × Value)} {st : List Value} (O : Ok l D cy X cc RX10 nL R) (d : Dc cc pc (.getfield 109) 3 pc') (kk : G l D X nL (WC ad cy) k n h pc' lv (.int (h.1 1 0) :: st)) : G l D X nL (WC ad cy) k n h pc lv (.ref (ad 1) :: st) := g_getN O d inU_RX9 rfl (wC_1 ad cy h) (j := 0) (by decide) rfl rfl kw_61 kk
theorem gf_C_RX10_152_1 (ad : Nat → Nat) (cy : Nat → ClassId) {l : Launch} {D : va_G} {X : Cx} {cc : ByteArray} {nL : Nat} {R : Room} {k n : Nat} {h : Hp} {pc pc' : Nat} {lv : List (Nat × Value)} {st : List Value} (O : Ok l D cy X cc RX10 nL R) (d : Dc cc pc (.getfield 152) 3 pc') (kk : G l D X nL (WC ad cy) k n h pc' lv (.ref (ad 2) :: st)) : G l D X nL (WC ad cy) k n h pc lv (.ref (ad 1) :: st) := g_getN O d inU_RX9 rfl (wC_1 ad cy h) (j := 2) (by decide) rfl rfl kw_73 kk
theorem gf_C_RX10_152_6 (ad : Nat → Nat) (cy : Nat → ClassId) {l : Launch} {D : va_G} {X : Cx} {cc : ByteArray} {nL : Nat} {R : Room} {k n : Nat} {h : Hp} {pc pc' : Nat} {lv : List (Nat × Value)} {st : List Value} (O : Ok l D cy X cc RX10 nL R) (d : Dc cc pc (.getfield 152) 3 pc') (kk : G l D X nL (WC ad cy) k n h pc' lv (.ref (ad 7) :: st)) : G l D X nL (WC ad cy) k n h pc lv (.ref (ad 6) :: st) := g_getN O d inU_RX9 rfl (wC_6 ad cy h) (j := 2) (by decide) rfl rfl kw_73 kk
theorem gf_C_RX10_156_1 (ad : Nat → Nat) (cy : Nat → ClassId) {l : Launch} {D : va_G} {X : Cx} {cc : ByteArray} {nL : Nat} {R : Room} {k n : Nat} {h : Hp} {pc pc' : Nat} {lv : List (Nat × Value)} {st : List Value} (O : Ok l D cy X cc RX10 nL R) (d : Dc cc pc (.getfield 156) 3 pc') (kk : G l D X nL (WC ad cy) k n h pc' lv (.ref (ad 3) :: st)) : G l D X nL (WC ad cy) k n h pc lv (.ref (ad 1) :: st) := g_getN O d inU_RX9 rfl (wC_1 ad cy h) (j := 3) (by decide) rfl rfl kw_78 kk
theorem gf_C_RX10_156_6 (ad : Nat → Nat) (cy : Nat → ClassId) {l : Launch} {D : va_G} {X : Cx} {cc : ByteArray} {nL : Nat} {R : Room} {k n : Nat} {h : Hp} {pc pc' : Nat} {lv : List (Nat × Value)} {st : List Value} (O : Ok l D cy X cc RX10 nL R) (d : Dc cc pc (.getfield 156) 3 pc') (kk : G l D X nL (WC ad cy) k n h pc' lv (.ref (ad 8) :: st)) : G l D X nL (WC ad cy) k n h pc lv (.ref (ad 6) :: st) := g_getN O d inU_RX9 rfl (wC_6 ad cy h) (j := 3) (by decide) rfl rfl kw_78 kk
theorem gf_C_RX10_194_11 (ad : Nat → Nat) (cy : Nat → ClassId) {l : Launch} {D : va_G} {X : Cx} {cc : ByteArray} {nL : Nat} {R : Room} {k n : Nat} {h : Hp} {pc pc' : Nat} {lv : List (Nat × Value)} {st : List Value} (O : Ok l D cy X cc RX10 nL R) (d : Dc cc pc (.getfield 194) 3 pc') (kk : G l D X nL (WC ad cy) k n h pc' lv (.int (h.1 11 1) :: st)) : G l D X nL (WC ad cy) k n h pc lv (.ref (ad 11) :: st) := g_getN O d inU_RX8 rfl (wC_11 ad cy h) (j := 1) (by decide) rfl rfl kw_103 kk
theorem gf_C_RX10_272_23 (ad : Nat → Nat) (cy : Nat → ClassId) {l : Launch} {D : va_G} {X : Cx} {cc : ByteArray} {nL : Nat} {R : Room} {k n : Nat} {h : Hp} {pc pc' : Nat} {lv : List (Nat × Value)} {st : List Value} (O : Ok l D cy X cc RX10 nL R) (d : Dc cc pc (.getfield 272) 3 pc') (kk : G l D X nL (WC ad cy) k n h pc' lv (.int (h.1 23 4) :: st)) : G l D X nL (WC ad cy) k n h pc lv (.ref (ad 23) :: st) := g_getN O d inU_RX1 rfl (wC_23 ad cy h) (j := 4) (by decide) rfl rfl kw_179 kk
theorem gf_C_RX10_280_23 (ad : Nat → Nat) (cy : Nat → ClassId) {l : Launch} {D : va_G} {X : Cx} {cc : ByteArray} {nL : Nat} {R : Room} {k n : Nat} {h : Hp} {pc pc' : Nat} {lv : List (Nat × Value)} {st : List Value} (O : Ok l D cy X cc RX10 nL R) (d : Dc cc pc (.getfield 280) 3 pc') (kk : G l D X nL (WC ad cy) k n h pc' lv (.ref (ad 25) :: st)) : G l D X nL (WC ad cy) k n h pc lv (.ref (ad 23) :: st) := g_getN O d inU_RX1 rfl (wC_23 ad cy h) (j := 1) (by decide) rfl rfl kw_175 kk
theorem gf_C_RX0_9_32 (ad : Nat → Nat) (cy : Nat → ClassId) {l : Launch} {D : va_G} {X : Cx} {cc : ByteArray} {nL : Nat} {R : Room} {k n : Nat} {h : Hp} {pc pc' : Nat} {lv : List (Nat × Value)} {st : List Value} (O : Ok l D cy X cc RX0 nL R) (d : Dc cc pc (.getfield 9) 3 pc') (kk : G l D X nL (WC ad cy) k n h pc' lv (.long (h.2 32 0) :: st)) : G l D X nL (WC ad cy) k n h pc lv (.ref (ad 32) :: st) := g_get O d inU_RX0 rfl (wC_32 ad cy h) (j := 0) (by decide) rfl rfl kw_219 kk
theorem gf_C_RX0_18_32 (ad : Nat → Nat) (cy : Nat → ClassId) {l : Launch} {D : va_G} {X : Cx} {cc : ByteArray} {nL : Nat} {R : Room} {k n : Nat} {h : Hp} {pc pc' : Nat} {lv : List (Nat × Value)} {st : List Value} (O : Ok l D cy X cc RX0 nL R) (d : Dc cc pc (.getfield 18) 3 pc') (kk : G l D X nL (WC ad cy) k n h pc' lv (.ref (ad 33) :: st)) : G l D X nL (WC ad cy) k n h pc lv (.ref (ad 32) :: st) := g_get O d inU_RX0 rfl (wC_32 ad cy h) (j := 1) (by decide) rfl rfl kw_220 kk
theorem gf_C_RX1_9_23 (ad : Nat → Nat) (cy : Nat → ClassId) {l : Launch} {D : va_G} {X : Cx} {cc : ByteArray} {nL : Nat} {R : Room} {k n : Nat} {h : Hp} {pc pc' : Nat} {lv : List (Nat × Value)} {st : List Value} (O : Ok l D cy X cc RX1 nL R) (d : Dc cc pc (.getfield 9) 3 pc') (kk : G l D X nL (WC ad cy) k n h pc' lv (.ref (ad 24) :: st)) : G l D X nL (WC ad cy) k n h pc lv (.ref (ad 23) :: st) := g_get O d inU_RX1 rfl (wC_23 ad cy h) (j := 0) (by decide) rfl rfl kw_173 kk
theorem gf_C_RX1_15_23 (ad : Nat → Nat) (cy : Nat → ClassId) {l : Launch} {D : va_G} {X : Cx} {cc : ByteArray} {nL : Nat} {R : Room} {k n : Nat} {h : Hp} {pc pc' : Nat} {lv : List (Nat × Value)} {st : List Value} (O : Ok l D cy X cc RX1 nL R) (d : Dc cc pc (.getfield 15) 3 pc') (kk : G l D X nL (WC ad cy) k n h pc' lv (.ref (ad 25) :: st)) : G l D X nL (WC ad cy) k n h pc lv (.ref (ad 23) :: st) := g_get O d inU_RX1 rfl (wC_23 ad cy h) (j := 1) (by decide) rfl rfl kw_174 kk
theorem gf_C_RX1_18_23 (ad : Nat → Nat) (cy : Nat → ClassId) {l : Launch} {D : va_G} {X : Cx} {cc : ByteArray} {nL : Nat} {R : Room} {k n : Nat} {h : Hp} {pc pc' : Nat} {lv : List (Nat × Value)} {st : List Value} (O : Ok l D cy X cc RX1 nL R) (d : Dc cc pc (.getfield 18) 3 pc') (kk : G l D X nL (WC ad cy) k n h pc' lv (.ref (ad 26) :: st)) : G l D X nL (WC ad cy) k n h pc lv (.ref (ad 23) :: st) := g_get O d inU_RX1 rfl (wC_23 ad cy h) (j := 2) (by decide) rfl rfl kw_176 kk
theorem gf_C_RX1_21_23 (ad : Nat → Nat) (cy : Nat → ClassId) {l : Launch} {D : va_G} {X : Cx} {cc : ByteArray} {nL : Nat} {R : Room} {k n : Nat} {h : Hp} {pc pc' : Nat} {lv : List (Nat × Value)} {st : List Value} (O : Ok l D cy X cc RX1 nL R) (d : Dc cc pc (.getfield 21) 3 pc') (kk : G l D X nL (WC ad cy) k n h pc' lv (.ref (ad 27) :: st)) : G l D X nL (WC ad cy) k n h pc lv (.ref (ad 23) :: st) := g_get O d inU_RX1 rfl (wC_23 ad cy h) (j := 3) (by decide) rfl rfl kw_177 kk
theorem gf_C_RX1_25_23 (ad : Nat → Nat) (cy : Nat → ClassId) {l : Launch} {D : va_G} {X : Cx} {cc : ByteArray} {nL : Nat} {R : Room} {k n : Nat} {h : Hp} {pc pc' : Nat} {lv : List (Nat × Value)} {st : List Value} (O : Ok l D cy X cc RX1 nL R) (d : Dc cc pc (.getfield 25) 3 pc') (kk : G l D X nL (WC ad cy) k n h pc' lv (.int (h.1 23 4) :: st)) : G l D X nL (WC ad cy) k n h pc lv (.ref (ad 23) :: st) := g_get O d inU_RX1 rfl (wC_23 ad cy h) (j := 4) (by decide) rfl rfl kw_178 kk
theorem gf_C_RX1_29_1 (ad : Nat → Nat) (cy : Nat → ClassId) {l : Launch} {D : va_G} {X : Cx} {cc : ByteArray} {nL : Nat} {R : Room} {k n : Nat} {h : Hp} {pc pc' : Nat} {lv : List (Nat × Value)} {st : List Value} (O : Ok l D cy X cc RX1 nL R) (d : Dc cc pc (.getfield 29) 3 pc') (kk : G l D X nL (WC ad cy) k n h pc' lv (.int (h.1 1 1) :: st)) : G l D X nL (WC ad cy) k n h pc lv (.ref (ad 1) :: st) := g_getN O d inU_RX9 rfl (wC_1 ad cy h) (j := 1) (by decide) rfl rfl kw_66 kk
theorem gf_C_RX1_34_1 (ad : Nat → Nat) (cy : Nat → ClassId) {l : Launch} {D : va_G} {X : Cx} {cc : ByteArray} {nL : Nat} {R : Room} {k n : Nat} {h : Hp} {pc pc' : Nat} {lv : List (Nat × Value)} {st : List Value} (O : Ok l D cy X cc RX1 nL R) (d : Dc cc pc (.getfield 34) 3 pc') (kk : G l D X nL (WC ad cy) k n h pc' lv (.ref (ad 2) :: st)) : G l D X nL (WC ad cy) k n h pc lv (.ref (ad 1) :: st) := g_getN O d inU_RX9 rfl (wC_1 ad cy h) (j := 2) (by decide) rfl rfl kw_70 kk
theorem gf_C_RX1_37_1 (ad : Nat → Nat) (cy : Nat → ClassId) {l : Launch} {D : va_G} {X : Cx} {cc : ByteArray} {nL : Nat} {R : Room} {k n : Nat} {h : Hp} {pc pc' : Nat} {lv : List (Nat × Value)} {st : List Value} (O : Ok l D cy X cc RX1 nL R) (d : Dc cc pc (.getfield 37) 3 pc') (kk : G l D X nL (WC ad cy) k n h pc' lv (.ref (ad 3) :: st)) : G l D X nL (WC ad cy) k n h pc lv (.ref (ad 1) :: st) := g_getN O d inU_RX9 rfl (wC_1 ad cy h) (j := 3) (by decide) rfl rfl kw_75 kk
theorem gf_C_RX2_9_16 (ad : Nat → Nat) (cy : Nat → ClassId) {l : Launch} {D : va_G} {X : Cx} {cc : ByteArray} {nL : Nat} {R : Room} {k n : Nat} {h : Hp} {pc pc' : Nat} {lv : List (Nat × Value)} {st : List Value} (O : Ok l D cy X cc RX2 nL R) (d : Dc cc pc (.getfield 9) 3 pc') (kk : G l D X nL (WC ad cy) k n h pc' lv (.ref (ad 17) :: st)) : G l D X nL (WC ad cy) k n h pc lv (.ref (ad 16) :: st) := g_get O d inU_RX2 rfl (wC_16 ad cy h) (j := 0) (by decide) rfl rfl kw_122 kk
theorem gf_C_RX2_9_33 (ad : Nat → Nat) (cy : Nat → ClassId) {l : Launch} {D : va_G} {X : Cx} {cc : ByteArray} {nL : Nat} {R : Room} {k n : Nat} {h : Hp} {pc pc' : Nat} {lv : List (Nat × Value)} {st : List Value} (O : Ok l D cy X cc RX2 nL R) (d : Dc cc pc (.getfield 9) 3 pc') (kk : G l D X nL (WC ad cy) k n h pc' lv (.ref (ad 34) :: st)) : G l D X nL (WC ad cy) k n h pc lv (.ref (ad 33) :: st) := g_get O d inU_RX2 rfl (wC_33 ad cy h) (j := 0) (by decide) rfl rfl kw_122 kk
theorem gf_C_RX3_9_18 (ad : Nat → Nat) (cy : Nat → ClassId) {l : Launch} {D : va_G} {X : Cx} {cc : ByteArray} {nL : Nat} {R : Room} {k n : Nat} {h : Hp} {pc pc' : Nat} {lv : List (Nat × Value)} {st : List Value} (O : Ok l D cy X cc RX3 nL R) (d : Dc cc pc (.getfield 9) 3 pc') (kk : G l D X nL (WC ad cy) k n h pc' lv (.ref (ad 19) :: st)) : G l D X nL (WC ad cy) k n h pc lv (.ref (ad 18) :: st) := g_get O d inU_RX3 rfl (wC_18 ad cy h) (j := 0) (by decide) rfl rfl kw_143 kk
theorem gf_C_RX3_15_18 (ad : Nat → Nat) (cy : Nat → ClassId) {l : Launch} {D : va_G} {X : Cx} {cc : ByteArray} {nL : Nat} {R : Room} {k n : Nat} {h : Hp} {pc pc' : Nat} {lv : List (Nat × Value)} {st : List Value} (O : Ok l D cy X cc RX3 nL R) (d : Dc cc pc (.getfield 15) 3 pc') (kk : G l D X nL (WC ad cy) k n h pc' lv (.int (h.1 18 1) :: st)) : G l D X nL (WC ad cy) k n h pc lv (.ref (ad 18) :: st) := g_get O d inU_RX3 rfl (wC_18 ad cy h) (j := 1) (by decide) rfl rfl kw_144 kk
theorem gf_C_RX3_19_1 (ad : Nat → Nat) (cy : Nat → ClassId) {l : Launch} {D : va_G} {X : Cx} {cc : ByteArray} {nL : Nat} {R : Room} {k n : Nat} {h : Hp} {pc pc' : Nat} {lv : List (Nat × Value)} {st : List Value} (O : Ok l D cy X cc RX3 nL R) (d : Dc cc pc (.getfield 19) 3 pc') (kk : G l D X nL (WC ad cy) k n h pc' lv (.int (h.1 1 1) :: st)) : G l D X nL (WC ad cy) k n h pc lv (.ref (ad 1) :: st) := g_getN O d inU_RX9 rfl (wC_1 ad cy h) (j := 1) (by decide) rfl rfl kw_64 kk
theorem gf_C_RX4_9_13 (ad : Nat → Nat) (cy : Nat → ClassId) {l : Launch} {D : va_G} {X : Cx} {cc : ByteArray} {nL : Nat} {R : Room} {k n : Nat} {h : Hp} {pc pc' : Nat} {lv : List (Nat × Value)} {st : List Value} (O : Ok l D cy X cc RX4 nL R) (d : Dc cc pc (.getfield 9) 3 pc') (kk : G l D X nL (WC ad cy) k n h pc' lv (.ref (ad 14) :: st)) : G l D X nL (WC ad cy) k n h pc lv (.ref (ad 13) :: st) := g_get O d inU_RX4 rfl (wC_13 ad cy h) (j := 0) (by decide) rfl rfl kw_127 kk
theorem gf_C_RX4_15_13 (ad : Nat → Nat) (cy : Nat → ClassId) {l : Launch} {D : va_G} {X : Cx} {cc : ByteArray} {nL : Nat} {R : Room} {k n : Nat} {h : Hp} {pc pc' : Nat} {lv : List (Nat × Value)} {st : List Value} (O : Ok l D cy X cc RX4 nL R) (d : Dc cc pc (.getfield 15) 3 pc') (kk : G l D X nL (WC ad cy) k n h pc' lv (.ref (ad 15) :: st)) : G l D X nL (WC ad cy) k n h pc lv (.ref (ad 13) :: st) := g_get O d inU_RX4 rfl (wC_13 ad cy h) (j := 1) (by decide) rfl rfl kw_128 kk
theorem gf_C_RX4_21_13 (ad : Nat → Nat) (cy : Nat → ClassId) {l : Launch} {D : va_G} {X : Cx} {cc : ByteArray} {nL : Nat} {R : Room} {k n : Nat} {h : Hp} {pc pc' : Nat} {lv : List (Nat × Value)} {st : List Value} (O : Ok l D cy X cc RX4 nL R) (d : Dc cc pc (.getfield 21) 3 pc') (kk : G l D X nL (WC ad cy) k n h pc' lv (.ref (ad 16) :: st)) : G l D X nL (WC ad cy) k n h pc lv (.ref (ad 13) :: st) := g_get O d inU_RX4 rfl (wC_13 ad cy h) (j := 2) (by decide) rfl rfl kw_129 kk
theorem gf_C_RX4_34_1 (ad : Nat → Nat) (cy : Nat → ClassId) {l : Launch} {D : va_G} {X : Cx} {cc : ByteArray} {nL : Nat} {R : Room} {k n : Nat} {h : Hp} {pc pc' : Nat} {lv : List (Nat × Value)} {st : List Value} (O : Ok l D cy X cc RX4 nL R) (d : Dc cc pc (.getfield 34) 3 pc') (kk : G l D X nL (WC ad cy) k n h pc' lv (.int (h.1 1 0) :: st)) : G l D X nL (WC ad cy) k n h pc lv (.ref (ad 1) :: st) := g_getN O d inU_RX9 rfl (wC_1 ad cy h) (j := 0) (by decide) rfl rfl kw_62 kk
theorem gf_C_RX4_44_1 (ad : Nat → Nat) (cy : Nat → ClassId) {l : Launch} {D : va_G} {X : Cx} {cc : ByteArray} {nL : Nat} {R : Room} {k n : Nat} {h : Hp} {pc pc' : Nat} {lv : List (Nat × Value)} {st : List Value} (O : Ok l D cy X cc RX4 nL R) (d : Dc cc pc (.getfield 44) 3 pc') (kk : G l D X nL (WC ad cy) k n h pc' lv (.ref (ad 2) :: st)) : G l D X nL (WC ad cy) k n h pc lv (.ref (ad 1) :: st) := g_getN O d inU_RX9 rfl (wC_1 ad cy h) (j := 2) (by decide) rfl rfl kw_72 kk
theorem gf_C_RX4_48_1 (ad : Nat → Nat) (cy : Nat → ClassId) {l : Launch} {D : va_G} {X : Cx} {cc : ByteArray} {nL : Nat} {R : Room} {k n : Nat} {h : Hp} {pc pc' : Nat} {lv : List (Nat × Value)} {st : List Value} (O : Ok l D cy X cc RX4 nL R) (d : Dc cc pc (.getfield 48) 3 pc') (kk : G l D X nL (WC ad cy) k n h pc' lv (.ref (ad 3) :: st)) : G l D X nL (WC ad cy) k n h pc lv (.ref (ad 1) :: st) := g_getN O d inU_RX9 rfl (wC_1 ad cy h) (j := 3) (by decide) rfl rfl kw_77 kk
theorem gf_C_RX4_63_1 (ad : Nat → Nat) (cy : Nat → ClassId) {l : Launch} {D : va_G} {X : Cx} {cc : ByteArray} {nL : Nat} {R : Room} {k n : Nat} {h : Hp} {pc pc' : Nat} {lv : List (Nat × Value)} {st : List Value} (O : Ok l D cy X cc RX4 nL R) (d : Dc cc pc (.getfield 63) 3 pc') (kk : G l D X nL (WC ad cy) k n h pc' lv (.int (h.1 1 1) :: st)) : G l D X nL (WC ad cy) k n h pc lv (.ref (ad 1) :: st) := g_getN O d inU_RX9 rfl (wC_1 ad cy h) (j := 1) (by decide) rfl rfl kw_68 kk
theorem gf_C_RX6_11_28 (ad : Nat → Nat) (cy : Nat → ClassId) {l : Launch} {D : va_G} {X : Cx} {cc : ByteArray} {nL : Nat} {R : Room} {k n : Nat} {h : Hp} {pc pc' : Nat} {lv : List (Nat × Value)} {st : List Value} (O : Ok l D cy X cc RX6 nL R) (d : Dc cc pc (.getfield 11) 3 pc') (kk : G l D X nL (WC ad cy) k n h pc' lv (.ref (ad 29) :: st)) : G l D X nL (WC ad cy) k n h pc lv (.ref (ad 28) :: st) := g_get O d inU_RX6 rfl (wC_28 ad cy h) (j := 0) (by decide) rfl rfl kw_198 kk
theorem gf_C_RX6_15_28 (ad : Nat → Nat) (cy : Nat → ClassId) {l : Launch} {D : va_G} {X : Cx} {cc : ByteArray} {nL : Nat} {R : Room} {k n : Nat} {h : Hp} {pc pc' : Nat} {lv : List (Nat × Value)} {st : List Value} (O : Ok l D cy X cc RX6 nL R) (d : Dc cc pc (.getfield 15) 3 pc') (kk : G l D X nL (WC ad cy) k n h pc' lv (.ref (ad 30) :: st)) : G l D X nL (WC ad cy) k n h pc lv (.ref (ad 28) :: st) := g_get O d inU_RX6 rfl (wC_28 ad cy h) (j := 1) (by decide) rfl rfl kw_199 kk
theorem gf_C_RX6_19_28 (ad : Nat → Nat) (cy : Nat → ClassId) {l : Launch} {D : va_G} {X : Cx} {cc : ByteArray} {nL : Nat} {R : Room} {k n : Nat} {h : Hp} {pc pc' : Nat} {lv : List (Nat × Value)} {st : List Value} (O : Ok l D cy X cc RX6 nL R) (d : Dc cc pc (.getfield 19) 3 pc') (kk : G l D X nL (WC ad cy) k n h pc' lv (.ref (ad 31) :: st)) : G l D X nL (WC ad cy) k n h pc lv (.ref (ad 28) :: st) := g_get O d inU_RX6 rfl (wC_28 ad cy h) (j := 2) (by decide) rfl rfl kw_200 kk
theorem gf_C_RX6_22_28 (ad : Nat → Nat) (cy : Nat → ClassId) {l : Launch} {D : va_G} {X : Cx} {cc : ByteArray} {nL : Nat} {R : Room} {k n : Nat} {h : Hp} {pc pc' : Nat} {lv : List (Nat × Value)} {st : List Value} (O : Ok l D cy X cc RX6 nL R) (d : Dc cc pc (.getfield 22) 3 pc') (kk : G l D X nL (WC ad cy) k n h pc' lv (.int (h.1 28 3) :: st)) : G l D X nL (WC ad cy) k n h pc lv (.ref (ad 28) :: st) := g_get O d inU_RX6 rfl (wC_28 ad cy h) (j := 3) (by decide) rfl rfl kw_201 kk
theorem gf_C_RX7_9_20 (ad : Nat → Nat) (cy : Nat → ClassId) {l : Launch} {D : va_G} {X : Cx} {cc : ByteArray} {nL : Nat} {R : Room} {k n : Nat} {h : Hp} {pc pc' : Nat} {lv : List (Nat × Value)} {st : List Value} (O : Ok l D cy X cc RX7 nL R) (d : Dc cc pc (.getfield 9) 3 pc') (kk : G l D X nL (WC ad cy) k n h pc' lv (.ref (ad 21) :: st)) : G l D X nL (WC ad cy) k n h pc lv (.ref (ad 20) :: st) := g_get O d inU_RX7 rfl (wC_20 ad cy h) (j := 0) (by decide) rfl rfl kw_156 kk
theorem gf_C_RX7_15_20 (ad : Nat → Nat) (cy : Nat → ClassId) {l : Launch} {D : va_G} {X : Cx} {cc : ByteArray} {nL : Nat} {R : Room} {k n : Nat} {h : Hp} {pc pc' : Nat} {lv : List (Nat × Value)} {st : List Value} (O : Ok l D cy X cc RX7 nL R) (d : Dc cc pc (.getfield 15) 3 pc') (kk : G l D X nL (WC ad cy) k n h pc' lv (.ref (ad 22) :: st)) : G l D X nL (WC ad cy) k n h pc lv (.ref (ad 20) :: st) := g_get O d inU_RX7 rfl (wC_20 ad cy h) (j := 1) (by decide) rfl rfl kw_157 kk
theorem gf_C_RX7_19_20 (ad : Nat → Nat) (cy : Nat → ClassId) {l : Launch} {D : va_G} {X : Cx} {cc : ByteArray} {nL : Nat} {R : Room} {k n : Nat} {h : Hp} {pc pc' : Nat} {lv : List (Nat × Value)} {st : List Value} (O : Ok l D cy X cc RX7 nL R) (d : Dc cc pc (.getfield 19) 3 pc') (kk : G l D X nL (WC ad cy) k n h pc' lv (.int (h.1 20 2) :: st)) : G l D X nL (WC ad cy) k n h pc lv (.ref (ad 20) :: st) := g_get O d inU_RX7 rfl (wC_20 ad cy h) (j := 2) (by decide) rfl rfl kw_158 kk
theorem gf_C_RX7_27_1 (ad : Nat → Nat) (cy : Nat → ClassId) {l : Launch} {D : va_G} {X : Cx} {cc : ByteArray} {nL : Nat} {R : Room} {k n : Nat} {h : Hp} {pc pc' : Nat} {lv : List (Nat × Value)} {st : List Value} (O : Ok l D cy X cc RX7 nL R) (d : Dc cc pc (.getfield 27) 3 pc') (kk : G l D X nL (WC ad cy) k n h pc' lv (.int (h.1 1 0) :: st)) : G l D X nL (WC ad cy) k n h pc lv (.ref (ad 1) :: st) := g_getN O d inU_RX9 rfl (wC_1 ad cy h) (j := 0) (by decide) rfl rfl kw_60 kk
theorem gf_C_RX7_38_1 (ad : Nat → Nat) (cy : Nat → ClassId) {l : Launch} {D : va_G} {X : Cx} {cc : ByteArray} {nL : Nat} {R : Room} {k n : Nat} {h : Hp} {pc pc' : Nat} {lv : List (Nat × Value)} {st : List Value} (O : Ok l D cy X cc RX7 nL R) (d : Dc cc pc (.getfield 38) 3 pc') (kk : G l D X nL (WC ad cy) k n h pc' lv (.int (h.1 1 1) :: st)) : G l D X nL (WC ad cy) k n h pc lv (.ref (ad 1) :: st) := g_getN O d inU_RX9 rfl (wC_1 ad cy h) (j := 1) (by decide) rfl rfl kw_67 kk
theorem gf_C_RX7_39_1 (ad : Nat → Nat) (cy : Nat → ClassId) {l : Launch} {D : va_G} {X : Cx} {cc : ByteArray} {nL : Nat} {R : Room} {k n : Nat} {h : Hp} {pc pc' : Nat} {lv : List (Nat × Value)} {st : List Value} (O : Ok l D cy X cc RX7 nL R) (d : Dc cc pc (.getfield 39) 3 pc') (kk : G l D X nL (WC ad cy) k n h pc' lv (.ref (ad 2) :: st)) : G l D X nL (WC ad cy) k n h pc lv (.ref (ad 1) :: st) := g_getN O d inU_RX9 rfl (wC_1 ad cy h) (j := 2) (by decide) rfl rfl kw_71 kk
theorem gf_C_RX7_42_1 (ad : Nat → Nat) (cy : Nat → ClassId) {l : Launch} {D : va_G} {X : Cx} {cc : ByteArray} {nL : Nat} {R : Room} {k n : Nat} {h : Hp} {pc pc' : Nat} {lv : List (Nat × Value)} {st : List Value} (O : Ok l D cy X cc RX7 nL R) (d : Dc cc pc (.getfield 42) 3 pc') (kk : G l D X nL (WC ad cy) k n h pc' lv (.ref (ad 3) :: st)) : G l D X nL (WC ad cy) k n h pc lv (.ref (ad 1) :: st) := g_getN O d inU_RX9 rfl (wC_1 ad cy h) (j := 3) (by decide) rfl rfl kw_76 kk
theorem gf_C_RX8_9_11 (ad : Nat → Nat) (cy : Nat → ClassId) {l : Launch} {D : va_G} {X : Cx} {cc : ByteArray} {nL : Nat} {R : Room} {k n : Nat} {h : Hp} {pc pc' : Nat} {lv : List (Nat × Value)} {st : List Value} (O : Ok l D cy X cc RX8 nL R) (d : Dc cc pc (.getfield 9) 3 pc') (kk : G l D X nL (WC ad cy) k n h pc' lv (.ref (ad 12) :: st)) : G l D X nL (WC ad cy) k n h pc lv (.ref (ad 11) :: st) := g_get O d inU_RX8 rfl (wC_11 ad cy h) (j := 0) (by decide) rfl rfl kw_101 kk
theorem gf_C_RX8_15_11 (ad : Nat → Nat) (cy : Nat → ClassId) {l : Launch} {D : va_G} {X : Cx} {cc : ByteArray} {nL : Nat} {R : Room} {k n : Nat} {h : Hp} {pc pc' : Nat} {lv : List (Nat × Value)} {st : List Value} (O : Ok l D cy X cc RX8 nL R) (d : Dc cc pc (.getfield 15) 3 pc') (kk : G l D X nL (WC ad cy) k n h pc' lv (.int (h.1 11 1) :: st)) : G l D X nL (WC ad cy) k n h pc lv (.ref (ad 11) :: st) := g_get O d inU_RX8 rfl (wC_11 ad cy h) (j := 1) (by decide) rfl rfl kw_102 kk
theorem gf_C_RX9_9_1 (ad : Nat → Nat) (cy : Nat → ClassId) {l : Launch} {D : va_G} {X : Cx} {cc : ByteArray} {nL : Nat} {R : Room} {k n : Nat} {h : Hp} {pc pc' : Nat} {lv : List (Nat × Value)} {st : List Value} (O : Ok l D cy X cc RX9 nL R) (d : Dc cc pc (.getfield 9) 3 pc') (kk : G l D X nL (WC ad cy) k n h pc' lv (.int (h.1 1 0) :: st)) : G l D X nL (WC ad cy) k n h pc lv (.ref (ad 1) :: st) := g_get O d inU_RX9 rfl (wC_1 ad cy h) (j := 0) (by decide) rfl rfl kw_59 kk
theorem gf_C_RX9_9_6 (ad : Nat → Nat) (cy : Nat → ClassId) {l : Launch} {D : va_G} {X : Cx} {cc : ByteArray} {nL : Nat} {R : Room} {k n : Nat} {h : Hp} {pc pc' : Nat} {lv : List (Nat × Value)} {st : List Value} (O : Ok l D cy X cc RX9 nL R) (d : Dc cc pc (.getfield 9) 3 pc') (kk : G l D X nL (WC ad cy) k n h pc' lv (.int (h.1 6 0) :: st)) : G l D X nL (WC ad cy) k n h pc lv (.ref (ad 6) :: st) := g_get O d inU_RX9 rfl (wC_6 ad cy h) (j := 0) (by decide) rfl rfl kw_59 kk
theorem gf_C_RX9_15_1 (ad : Nat → Nat) (cy : Nat → ClassId) {l : Launch} {D : va_G} {X : Cx} {cc : ByteArray} {nL : Nat} {R : Room} {k n : Nat} {h : Hp} {pc pc' : Nat} {lv : List (Nat × Value)} {st : List Value} (O : Ok l D cy X cc RX9 nL R) (d : Dc cc pc (.getfield 15) 3 pc') (kk : G l D X nL (WC ad cy) k n h pc' lv (.int (h.1 1 1) :: st)) : G l D X nL (WC ad cy) k n h pc lv (.ref (ad 1) :: st) := g_get O d inU_RX9 rfl (wC_1 ad cy h) (j := 1) (by decide) rfl rfl kw_63 kk
theorem gf_C_RX9_15_6 (ad : Nat → Nat) (cy : Nat → ClassId) {l : Launch} {D : va_G} {X : Cx} {cc : ByteArray} {nL : Nat} {R : Room} {k n : Nat} {h : Hp} {pc pc' : Nat} {lv : List (Nat × Value)} {st : List Value} (O : Ok l D cy X cc RX9 nL R) (d : Dc cc pc (.getfield 15) 3 pc') (kk : G l D X nL (WC ad cy) k n h pc' lv (.int (h.1 6 1) :: st)) : G l D X nL (WC ad cy) k n h pc lv (.ref (ad 6) :: st) := g_get O d inU_RX9 rfl (wC_6 ad cy h) (j := 1) (by decide) rfl rfl kw_63 kk
theorem gf_C_RX9_18_1 (ad : Nat → Nat) (cy : Nat → ClassId) {l : Launch} {D : va_G} {X : Cx} {cc : ByteArray} {nL : Nat} {R : Room} {k n : Nat} {h : Hp} {pc pc' : Nat} {lv : List (Nat × Value)} {st : List Value} (O : Ok l D cy X cc RX9 nL R) (d : Dc cc pc (.getfield 18) 3 pc') (kk : G l D X nL (WC ad cy) k n h pc' lv (.ref (ad 2) :: st)) : G l D X nL (WC ad cy) k n h pc lv (.ref (ad 1) :: st) := g_get O d inU_RX9 rfl (wC_1 ad cy h) (j := 2) (by decide) rfl rfl kw_69 kk
theorem gf_C_RX9_18_6 (ad : Nat → Nat) (cy : Nat → ClassId) {l : Launch} {D : va_G} {X : Cx} {cc : ByteArray} {nL : Nat} {R : Room} {k n : Nat} {h : Hp} {pc pc' : Nat} {lv : List (Nat × Value)} {st : List Value} (O : Ok l D cy X cc RX9 nL R) (d : Dc cc pc (.getfield 18) 3 pc') (kk : G l D X nL (WC ad cy) k n h pc' lv (.ref (ad 7) :: st)) : G l D X nL (WC ad cy) k n h pc lv (.ref (ad 6) :: st) := g_get O d inU_RX9 rfl (wC_6 ad cy h) (j := 2) (by decide) rfl rfl kw_69 kk
theorem gf_C_RX9_22_1 (ad : Nat → Nat) (cy : Nat → ClassId) {l : Launch} {D : va_G} {X : Cx} {cc : ByteArray} {nL : Nat} {R : Room} {k n : Nat} {h : Hp} {pc pc' : Nat} {lv : List (Nat × Value)} {st : List Value} (O : Ok l D cy X cc RX9 nL R) (d : Dc cc pc (.getfield 22) 3 pc') (kk : G l D X nL (WC ad cy) k n h pc' lv (.ref (ad 3) :: st)) : G l D X nL (WC ad cy) k n h pc lv (.ref (ad 1) :: st) := g_get O d inU_RX9 rfl (wC_1 ad cy h) (j := 3) (by decide) rfl rfl kw_74 kk
theorem gf_C_RX9_22_6 (ad : Nat → Nat) (cy : Nat → ClassId) {l : Launch} {D : va_G} {X : Cx} {cc : ByteArray} {nL : Nat} {R : Room} {k n : Nat} {h : Hp} {pc pc' : Nat} {lv : List (Nat × Value)} {st : List Value} (O : Ok l D cy X cc RX9 nL R) (d : Dc cc pc (.getfield 22) 3 pc') (kk : G l D X nL (WC ad cy) k n h pc' lv (.ref (ad 8) :: st)) : G l D X nL (WC ad cy) k n h pc lv (.ref (ad 6) :: st) := g_get O d inU_RX9 rfl (wC_6 ad cy h) (j := 3) (by decide) rfl rfl kw_74 kk
theorem gf_C_RX9_25_1 (ad : Nat → Nat) (cy : Nat → ClassId) {l : Launch} {D : va_G} {X : Cx} {cc : ByteArray} {nL : Nat} {R : Room} {k n : Nat} {h : Hp} {pc pc' : Nat} {lv : List (Nat × Value)} {st : List Value} (O : Ok l D cy X cc RX9 nL R) (d : Dc cc pc (.getfield 25) 3 pc') (kk : G l D X nL (WC ad cy) k n h pc' lv (.ref (ad 4) :: st)) : G l D X nL (WC ad cy) k n h pc lv (.ref (ad 1) :: st) := g_get O d inU_RX9 rfl (wC_1 ad cy h) (j := 4) (by decide) rfl rfl kw_79 kk
theorem gf_C_RX9_28_1 (ad : Nat → Nat) (cy : Nat → ClassId) {l : Launch} {D : va_G} {X : Cx} {cc : ByteArray} {nL : Nat} {R : Room} {k n : Nat} {h : Hp} {pc pc' : Nat} {lv : List (Nat × Value)} {st : List Value} (O : Ok l D cy X cc RX9 nL R) (d : Dc cc pc (.getfield 28) 3 pc') (kk : G l D X nL (WC ad cy) k n h pc' lv (.ref (ad 5) :: st)) : G l D X nL (WC ad cy) k n h pc lv (.ref (ad 1) :: st) := g_get O d inU_RX9 rfl (wC_1 ad cy h) (j := 5) (by decide) rfl rfl kw_80 kk
theorem gp_C_RX0_9_32 (ad : Nat → Nat) (cy : Nat → ClassId) {l : Launch} {D : va_G} {X : Cx} {cc : ByteArray} {nL : Nat} {R : Room} {k n : Nat} {h : Hp} {pc pc' : Nat} {lv : List (Nat × Value)} {st : List Value} {x : Int64} (O : Ok l D cy X cc RX0 nL R) (d : Dc cc pc (.putfield 9) 3 pc') (kk : G l D X nL (WC ad cy) k n (wFL h 32 0 x) pc' lv st) : G l D X nL (WC ad cy) k n h pc lv (.long x :: .ref (ad 32) :: st) := g_put O d inU_RX0 tyX0_ok nmX0 rfl (wC_32 ad cy h) (j := 0) (by decide) rfl rfl (ty := .long) (by decide +kernel) rfl rfl (Nat.le_of_ble_eq_true rfl) (h1 := wFL h 32 0 x) rfl kw_219 kk
theorem gp_C_RX1_25_23 (ad : Nat → Nat) (cy : Nat → ClassId) {l : Launch} {D : va_G} {X : Cx} {cc : ByteArray} {nL : Nat} {R : Room} {k n : Nat} {h : Hp} {pc pc' : Nat} {lv : List (Nat × Value)} {st : List Value} {x : Int32} (O : Ok l D cy X cc RX1 nL R) (d : Dc cc pc (.putfield 25) 3 pc') (kk : G l D X nL (WC ad cy) k n (wF h 23 4 x) pc' lv st) : G l D X nL (WC ad cy) k n h pc lv (.int x :: .ref (ad 23) :: st) := g_put O d inU_RX1 tyX1_ok nmX1 rfl (wC_23 ad cy h) (j := 4) (by decide) rfl rfl (ty := .int) (by decide +kernel) rfl rfl (Nat.le_of_ble_eq_true rfl) (h1 := wF h 23 4 x) rfl kw_178 kk
theorem gp_C_RX3_15_18 (ad : Nat → Nat) (cy : Nat → ClassId) {l : Launch} {D : va_G} {X : Cx} {cc : ByteArray} {nL : Nat} {R : Room} {k n : Nat} {h : Hp} {pc pc' : Nat} {lv : List (Nat × Value)} {st : List Value} {x : Int32} (O : Ok l D cy X cc RX3 nL R) (d : Dc cc pc (.putfield 15) 3 pc') (kk : G l D X nL (WC ad cy) k n (wF h 18 1 x) pc' lv st) : G l D X nL (WC ad cy) k n h pc lv (.int x :: .ref (ad 18) :: st) := g_put O d inU_RX3 tyX3_ok nmX3 rfl (wC_18 ad cy h) (j := 1) (by decide) rfl rfl (ty := .int) (by decide +kernel) rfl rfl (Nat.le_of_ble_eq_true rfl) (h1 := wF h 18 1 x) rfl kw_144 kk
theorem gp_C_RX4_63_1 (ad : Nat → Nat) (cy : Nat → ClassId) {l : Launch} {D : va_G} {X : Cx} {cc : ByteArray} {nL : Nat} {R : Room} {k n : Nat} {h : Hp} {pc pc' : Nat} {lv : List (Nat × Value)} {st : List Value} {x : Int32} (O : Ok l D cy X cc RX4 nL R) (d : Dc cc pc (.putfield 63) 3 pc') (kk : G l D X nL (WC ad cy) k n (wF h 1 1 x) pc' lv st) : G l D X nL (WC ad cy) k n h pc lv (.int x :: .ref (ad 1) :: st) := g_putN O d inU_RX9 tyX9_ok nmX9 rfl (wC_1 ad cy h) (j := 1) (by decide) rfl rfl (ty := .int) (by decide +kernel) rfl rfl (Nat.le_of_ble_eq_true rfl) (h1 := wF h 1 1 x) rfl kw_68 kk
theorem gp_C_RX6_22_28 (ad : Nat → Nat) (cy : Nat → ClassId) {l : Launch} {D : va_G} {X : Cx} {cc : ByteArray} {nL : Nat} {R : Room} {k n : Nat} {h : Hp} {pc pc' : Nat} {lv : List (Nat × Value)} {st : List Value} {x : Int32} (O : Ok l D cy X cc RX6 nL R) (d : Dc cc pc (.putfield 22) 3 pc') (kk : G l D X nL (WC ad cy) k n (wF h 28 3 x) pc' lv st) : G l D X nL (WC ad cy) k n h pc lv (.int x :: .ref (ad 28) :: st) := g_put O d inU_RX6 tyX6_ok nmX6 rfl (wC_28 ad cy h) (j := 3) (by decide) rfl rfl (ty := .int) (by decide +kernel) rfl rfl (Nat.le_of_ble_eq_true rfl) (h1 := wF h 28 3 x) rfl kw_201 kk
theorem gp_C_RX7_19_20 (ad : Nat → Nat) (cy : Nat → ClassId) {l : Launch} {D : va_G} {X : Cx} {cc : ByteArray} {nL : Nat} {R : Room} {k n : Nat} {h : Hp} {pc pc' : Nat} {lv : List (Nat × Value)} {st : List Value} {x : Int32} (O : Ok l D cy X cc RX7 nL R) (d : Dc cc pc (.putfield 19) 3 pc') (kk : G l D X nL (WC ad cy) k n (wF h 20 2 x) pc' lv st) : G l D X nL (WC ad cy) k n h pc lv (.int x :: .ref (ad 20) :: st) := g_put O d inU_RX7 tyX7_ok nmX7 rfl (wC_20 ad cy h) (j := 2) (by decide) rfl rfl (ty := .int) (by decide +kernel) rfl rfl (Nat.le_of_ble_eq_true rfl) (h1 := wF h 20 2 x) rfl kw_158 kk
theorem gp_C_RX8_15_11 (ad : Nat → Nat) (cy : Nat → ClassId) {l : Launch} {D : va_G} {X : Cx} {cc : ByteArray} {nL : Nat} {R : Room} {k n : Nat} {h : Hp} {pc pc' : Nat} {lv : List (Nat × Value)} {st : List Value} {x : Int32} (O : Ok l D cy X cc RX8 nL R) (d : Dc cc pc (.putfield 15) 3 pc') (kk : G l D X nL (WC ad cy) k n (wF h 11 1 x) pc' lv st) : G l D X nL (WC ad cy) k n h pc lv (.int x :: .ref (ad 11) :: st) := g_put O d inU_RX8 tyX8_ok nmX8 rfl (wC_11 ad cy h) (j := 1) (by decide) rfl rfl (ty := .int) (by decide +kernel) rfl rfl (Nat.le_of_ble_eq_true rfl) (h1 := wF h 11 1 x) rfl kw_102 kk
theorem gp_C_RX9_9_1 (ad : Nat → Nat) (cy : Nat → ClassId) {l : Launch} {D : va_G} {X : Cx} {cc : ByteArray} {nL : Nat} {R : Room} {k n : Nat} {h : Hp} {pc pc' : Nat} {lv : List (Nat × Value)} {st : List Value} {x : Int32} (O : Ok l D cy X cc RX9 nL R) (d : Dc cc pc (.putfield 9) 3 pc') (kk : G l D X nL (WC ad cy) k n (wF h 1 0 x) pc' lv st) : G l D X nL (WC ad cy) k n h pc lv (.int x :: .ref (ad 1) :: st) := g_put O d inU_RX9 tyX9_ok nmX9 rfl (wC_1 ad cy h) (j := 0) (by decide) rfl rfl (ty := .int) (by decide +kernel) rfl rfl (Nat.le_of_ble_eq_true rfl) (h1 := wF h 1 0 x) rfl kw_59 kk
theorem gp_C_RX9_9_6 (ad : Nat → Nat) (cy : Nat → ClassId) {l : Launch} {D : va_G} {X : Cx} {cc : ByteArray} {nL : Nat} {R : Room} {k n : Nat} {h : Hp} {pc pc' : Nat} {lv : List (Nat × Value)} {st : List Value} {x : Int32} (O : Ok l D cy X cc RX9 nL R) (d : Dc cc pc (.putfield 9) 3 pc') (kk : G l D X nL (WC ad cy) k n (wF h 6 0 x) pc' lv st) : G l D X nL (WC ad cy) k n h pc lv (.int x :: .ref (ad 6) :: st) := g_put O d inU_RX9 tyX9_ok nmX9 rfl (wC_6 ad cy h) (j := 0) (by decide) rfl rfl (ty := .int) (by decide +kernel) rfl rfl (Nat.le_of_ble_eq_true rfl) (h1 := wF h 6 0 x) rfl kw_59 kk
theorem gp_C_RX9_15_1 (ad : Nat → Nat) (cy : Nat → ClassId) {l : Launch} {D : va_G} {X : Cx} {cc : ByteArray} {nL : Nat} {R : Room} {k n : Nat} {h : Hp} {pc pc' : Nat} {lv : List (Nat × Value)} {st : List Value} {x : Int32} (O : Ok l D cy X cc RX9 nL R) (d : Dc cc pc (.putfield 15) 3 pc') (kk : G l D X nL (WC ad cy) k n (wF h 1 1 x) pc' lv st) : G l D X nL (WC ad cy) k n h pc lv (.int x :: .ref (ad 1) :: st) := g_put O d inU_RX9 tyX9_ok nmX9 rfl (wC_1 ad cy h) (j := 1) (by decide) rfl rfl (ty := .int) (by decide +kernel) rfl rfl (Nat.le_of_ble_eq_true rfl) (h1 := wF h 1 1 x) rfl kw_63 kk
theorem gp_C_RX9_15_6 (ad : Nat → Nat) (cy : Nat → ClassId) {l : Launch} {D : va_G} {X : Cx} {cc : ByteArray} {nL : Nat} {R : Room} {k n : Nat} {h : Hp} {pc pc' : Nat} {lv : List (Nat × Value)} {st : List Value} {x : Int32} (O : Ok l D cy X cc RX9 nL R) (d : Dc cc pc (.putfield 15) 3 pc') (kk : G l D X nL (WC ad cy) k n (wF h 6 1 x) pc' lv st) : G l D X nL (WC ad cy) k n h pc lv (.int x :: .ref (ad 6) :: st) := g_put O d inU_RX9 tyX9_ok nmX9 rfl (wC_6 ad cy h) (j := 1) (by decide) rfl rfl (ty := .int) (by decide +kernel) rfl rfl (Nat.le_of_ble_eq_true rfl) (h1 := wF h 6 1 x) rfl kw_63 kk
theorem hd_L_low : yL_low.cls ≠ "java/lang/invoke/MethodHandle" ∧ yL_low.cls ≠ "java/lang/invoke/VarHandle" ∧ (parseMethodDescriptor yL_low.desc).map (fun d => d.parameters.length) = some 2 := ⟨by decide +kernel, by decide +kernel, by decide +kernel⟩
theorem hd_L_out : yL_out.cls ≠ "java/lang/invoke/MethodHandle" ∧ yL_out.cls ≠ "java/lang/invoke/VarHandle" ∧ (parseMethodDescriptor yL_out.desc).map (fun d => d.parameters.length) = some 5 := ⟨by decide +kernel, by decide +kernel, by decide +kernel⟩
theorem hd_L_upright : yL_upright.cls ≠ "java/lang/invoke/MethodHandle" ∧ yL_upright.cls ≠ "java/lang/invoke/VarHandle" ∧ (parseMethodDescriptor yL_upright.desc).map (fun d => d.parameters.length) = some 3 := ⟨by decide +kernel, by decide +kernel, by decide +kernel⟩
theorem hd_L_next : yL_next.cls ≠ "java/lang/invoke/MethodHandle" ∧ yL_next.cls ≠ "java/lang/invoke/VarHandle" ∧ (parseMethodDescriptor yL_next.desc).map (fun d => d.parameters.length) = some 2 := ⟨by decide +kernel, by decide +kernel, by decide +kernel⟩
theorem hd_L_code : yL_code.cls ≠ "java/lang/invoke/MethodHandle" ∧ yL_code.cls ≠ "java/lang/invoke/VarHandle" ∧ (parseMethodDescriptor yL_code.desc).map (fun d => d.parameters.length) = some 2 := ⟨by decide +kernel, by decide +kernel, by decide +kernel⟩
theorem hd_L_runs : yL_runs.cls ≠ "java/lang/invoke/MethodHandle" ∧ yL_runs.cls ≠ "java/lang/invoke/VarHandle" ∧ (parseMethodDescriptor yL_runs.desc).map (fun d => d.parameters.length) = some 5 := ⟨by decide +kernel, by decide +kernel, by decide +kernel⟩
theorem hd_L_often : yL_often.cls ≠ "java/lang/invoke/MethodHandle" ∧ yL_often.cls ≠ "java/lang/invoke/VarHandle" ∧ (parseMethodDescriptor yL_often.desc).map (fun d => d.parameters.length) = some 3 := ⟨by decide +kernel, by decide +kernel, by decide +kernel⟩
theorem hd_L_layers : yL_layers.cls ≠ "java/lang/invoke/MethodHandle" ∧ yL_layers.cls ≠ "java/lang/invoke/VarHandle" ∧ (parseMethodDescriptor yL_layers.desc).map (fun d => d.parameters.length) = some 3 := ⟨by decide +kernel, by decide +kernel, by decide +kernel⟩
theorem hd_L_puts : yL_puts.cls ≠ "java/lang/invoke/MethodHandle" ∧ yL_puts.cls ≠ "java/lang/invoke/VarHandle" ∧ (parseMethodDescriptor yL_puts.desc).map (fun d => d.parameters.length) = some 4 := ⟨by decide +kernel, by decide +kernel, by decide +kernel⟩
theorem hd_L_made : yL_made.cls ≠ "java/lang/invoke/MethodHandle" ∧ yL_made.cls ≠ "java/lang/invoke/VarHandle" ∧ (parseMethodDescriptor yL_made.desc).map (fun d => d.parameters.length) = some 2 := ⟨by decide +kernel, by decide +kernel, by decide +kernel⟩
theorem hd_L_makes : yL_makes.cls ≠ "java/lang/invoke/MethodHandle" ∧ yL_makes.cls ≠ "java/lang/invoke/VarHandle" ∧ (parseMethodDescriptor yL_makes.desc).map (fun d => d.parameters.length) = some 3 := ⟨by decide +kernel, by decide +kernel, by decide +kernel⟩
theorem hd_L_fault : yL_fault.cls ≠ "java/lang/invoke/MethodHandle" ∧ yL_fault.cls ≠ "java/lang/invoke/VarHandle" ∧ (parseMethodDescriptor yL_fault.desc).map (fun d => d.parameters.length) = some 2 := ⟨by decide +kernel, by decide +kernel, by decide +kernel⟩
theorem hd_L_written : yL_written.cls ≠ "java/lang/invoke/MethodHandle" ∧ yL_written.cls ≠ "java/lang/invoke/VarHandle" ∧ (parseMethodDescriptor yL_written.desc).map (fun d => d.parameters.length) = some 3 := ⟨by decide +kernel, by decide +kernel, by decide +kernel⟩
theorem hd_L_agrees : yL_agrees.cls ≠ "java/lang/invoke/MethodHandle" ∧ yL_agrees.cls ≠ "java/lang/invoke/VarHandle" ∧ (parseMethodDescriptor yL_agrees.desc).map (fun d => d.parameters.length) = some 3 := ⟨by decide +kernel, by decide +kernel, by decide +kernel⟩
theorem hd_L_agreeing : yL_agreeing.cls ≠ "java/lang/invoke/MethodHandle" ∧ yL_agreeing.cls ≠ "java/lang/invoke/VarHandle" ∧ (parseMethodDescriptor yL_agreeing.desc).map (fun d => d.parameters.length) = some 4 := ⟨by decide +kernel, by decide +kernel, by decide +kernel⟩
theorem hd_L_steps : yL_steps.cls ≠ "java/lang/invoke/MethodHandle" ∧ yL_steps.cls ≠ "java/lang/invoke/VarHandle" ∧ (parseMethodDescriptor yL_steps.desc).map (fun d => d.parameters.length) = some 2 := ⟨by decide +kernel, by decide +kernel, by decide +kernel⟩
theorem hd_L_turn : yL_turn.cls ≠ "java/lang/invoke/MethodHandle" ∧ yL_turn.cls ≠ "java/lang/invoke/VarHandle" ∧ (parseMethodDescriptor yL_turn.desc).map (fun d => d.parameters.length) = some 3 := ⟨by decide +kernel, by decide +kernel, by decide +kernel⟩
theorem hd_L_moves : yL_moves.cls ≠ "java/lang/invoke/MethodHandle" ∧ yL_moves.cls ≠ "java/lang/invoke/VarHandle" ∧ (parseMethodDescriptor yL_moves.desc).map (fun d => d.parameters.length) = some 4 := ⟨by decide +kernel, by decide +kernel, by decide +kernel⟩
theorem hd_L_upsideDown : yL_upsideDown.cls ≠ "java/lang/invoke/MethodHandle" ∧ yL_upsideDown.cls ≠ "java/lang/invoke/VarHandle" ∧ (parseMethodDescriptor yL_upsideDown.desc).map (fun d => d.parameters.length) = some 2 := ⟨by decide +kernel, by decide +kernel, by decide +kernel⟩
theorem hd_L_rings : yL_rings.cls ≠ "java/lang/invoke/MethodHandle" ∧ yL_rings.cls ≠ "java/lang/invoke/VarHandle" ∧ (parseMethodDescriptor yL_rings.desc).map (fun d => d.parameters.length) = some 2 := ⟨by decide +kernel, by decide +kernel, by decide +kernel⟩
theorem hd_L_placeOf : yL_placeOf.cls ≠ "java/lang/invoke/MethodHandle" ∧ yL_placeOf.cls ≠ "java/lang/invoke/VarHandle" ∧ (parseMethodDescriptor yL_placeOf.desc).map (fun d => d.parameters.length) = some 3 := ⟨by decide +kernel, by decide +kernel, by decide +kernel⟩
theorem hd_L_lays : yL_lays.cls ≠ "java/lang/invoke/MethodHandle" ∧ yL_lays.cls ≠ "java/lang/invoke/VarHandle" ∧ (parseMethodDescriptor yL_lays.desc).map (fun d => d.parameters.length) = some 3 := ⟨by decide +kernel, by decide +kernel, by decide +kernel⟩
theorem hd_L_spreads : yL_spreads.cls ≠ "java/lang/invoke/MethodHandle" ∧ yL_spreads.cls ≠ "java/lang/invoke/VarHandle" ∧ (parseMethodDescriptor yL_spreads.desc).map (fun d => d.parameters.length) = some 4 := ⟨by decide +kernel, by decide +kernel, by decide +kernel⟩
theorem hd_L_distance : yL_distance.cls ≠ "java/lang/invoke/MethodHandle" ∧ yL_distance.cls ≠ "java/lang/invoke/VarHandle" ∧ (parseMethodDescriptor yL_distance.desc).map (fun d => d.parameters.length) = some 6 := ⟨by decide +kernel, by decide +kernel, by decide +kernel⟩
theorem hd_L_orders : yL_orders.cls ≠ "java/lang/invoke/MethodHandle" ∧ yL_orders.cls ≠ "java/lang/invoke/VarHandle" ∧ (parseMethodDescriptor yL_orders.desc).map (fun d => d.parameters.length) = some 4 := ⟨by decide +kernel, by decide +kernel, by decide +kernel⟩
theorem hd_L_setting : yL_setting.cls ≠ "java/lang/invoke/MethodHandle" ∧ yL_setting.cls ≠ "java/lang/invoke/VarHandle" ∧ (parseMethodDescriptor yL_setting.desc).map (fun d => d.parameters.length) = some 3 := ⟨by decide +kernel, by decide +kernel, by decide +kernel⟩
theorem hd_L_switches : yL_switches.cls ≠ "java/lang/invoke/MethodHandle" ∧ yL_switches.cls ≠ "java/lang/invoke/VarHandle" ∧ (parseMethodDescriptor yL_switches.desc).map (fun d => d.parameters.length) = some 4 := ⟨by decide +kernel, by decide +kernel, by decide +kernel⟩
theorem hd_L_done : yL_done.cls ≠ "java/lang/invoke/MethodHandle" ∧ yL_done.cls ≠ "java/lang/invoke/VarHandle" ∧ (parseMethodDescriptor yL_done.desc).map (fun d => d.parameters.length) = some 4 := ⟨by decide +kernel, by decide +kernel, by decide +kernel⟩
theorem hd_L_finishes : yL_finishes.cls ≠ "java/lang/invoke/MethodHandle" ∧ yL_finishes.cls ≠ "java/lang/invoke/VarHandle" ∧ (parseMethodDescriptor yL_finishes.desc).map (fun d => d.parameters.length) = some 2 := ⟨by decide +kernel, by decide +kernel, by decide +kernel⟩
theorem hd_L_telling : yL_telling.cls ≠ "java/lang/invoke/MethodHandle" ∧ yL_telling.cls ≠ "java/lang/invoke/VarHandle" ∧ (parseMethodDescriptor yL_telling.desc).map (fun d => d.parameters.length) = some 4 := ⟨by decide +kernel, by decide +kernel, by decide +kernel⟩
theorem hd_L_ones : yL_ones.cls ≠ "java/lang/invoke/MethodHandle" ∧ yL_ones.cls ≠ "java/lang/invoke/VarHandle" ∧ (parseMethodDescriptor yL_ones.desc).map (fun d => d.parameters.length) = some 1 := ⟨by decide +kernel, by decide +kernel, by decide +kernel⟩
theorem hd_L_tests : yL_tests.cls ≠ "java/lang/invoke/MethodHandle" ∧ yL_tests.cls ≠ "java/lang/invoke/VarHandle" ∧ (parseMethodDescriptor yL_tests.desc).map (fun d => d.parameters.length) = some 2 := ⟨by decide +kernel, by decide +kernel, by decide +kernel⟩
theorem hd_L_faults : yL_faults.cls ≠ "java/lang/invoke/MethodHandle" ∧ yL_faults.cls ≠ "java/lang/invoke/VarHandle" ∧ (parseMethodDescriptor yL_faults.desc).map (fun d => d.parameters.length) = some 4 := ⟨by decide +kernel, by decide +kernel, by decide +kernel⟩
theorem hd_L_rows : yL_rows.cls ≠ "java/lang/invoke/MethodHandle" ∧ yL_rows.cls ≠ "java/lang/invoke/VarHandle" ∧ (parseMethodDescriptor yL_rows.desc).map (fun d => d.parameters.length) = some 5 := ⟨by decide +kernel, by decide +kernel, by decide +kernel⟩
theorem hd_L_counts : yL_counts.cls ≠ "java/lang/invoke/MethodHandle" ∧ yL_counts.cls ≠ "java/lang/invoke/VarHandle" ∧ (parseMethodDescriptor yL_counts.desc).map (fun d => d.parameters.length) = some 4 := ⟨by decide +kernel, by decide +kernel, by decide +kernel⟩
theorem hd_L_same : yL_same.cls ≠ "java/lang/invoke/MethodHandle" ∧ yL_same.cls ≠ "java/lang/invoke/VarHandle" ∧ (parseMethodDescriptor yL_same.desc).map (fun d => d.parameters.length) = some 7 := ⟨by decide +kernel, by decide +kernel, by decide +kernel⟩
theorem hd_L_forgets : yL_forgets.cls ≠ "java/lang/invoke/MethodHandle" ∧ yL_forgets.cls ≠ "java/lang/invoke/VarHandle" ∧ (parseMethodDescriptor yL_forgets.desc).map (fun d => d.parameters.length) = some 1 := ⟨by decide +kernel, by decide +kernel, by decide +kernel⟩
theorem hd_L_builds : yL_builds.cls ≠ "java/lang/invoke/MethodHandle" ∧ yL_builds.cls ≠ "java/lang/invoke/VarHandle" ∧ (parseMethodDescriptor yL_builds.desc).map (fun d => d.parameters.length) = some 8 := ⟨by decide +kernel, by decide +kernel, by decide +kernel⟩
theorem hd_L_types : yL_types.cls ≠ "java/lang/invoke/MethodHandle" ∧ yL_types.cls ≠ "java/lang/invoke/VarHandle" ∧ (parseMethodDescriptor yL_types.desc).map (fun d => d.parameters.length) = some 4 := ⟨by decide +kernel, by decide +kernel, by decide +kernel⟩
