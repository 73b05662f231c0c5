theorem dX0_init_0 : decode cX0_init 0 = .ok (.aload_n 0, 1) := by decide +kernel
theorem dX0_init_1 : decode cX0_init 1 = .ok (.invokespecial 3, 3) := by decide +kernel
theorem dX0_init_4 : decode cX0_init 4 = .ok (.aload_n 0, 1) := by decide +kernel
theorem dX0_init_5 : decode cX0_init 5 = .ok (.lconst 0, 1) := by decide +kernel
theorem dX0_init_6 : decode cX0_init 6 = .ok (.putfield 9, 3) := by decide +kernel
theorem dX0_init_9 : decode cX0_init 9 = .ok (.aload_n 0, 1) := by decide +kernel
theorem dX0_init_10 : decode cX0_init 10 = .ok (.new 15, 3) := by decide +kernel
theorem dX0_init_13 : decode cX0_init 13 = .ok (.dup, 1) := by decide +kernel
theorem dX0_init_14 : decode cX0_init 14 = .ok (.invokespecial 17, 3) := by decide +kernel
theorem dX0_init_17 : decode cX0_init 17 = .ok (.putfield 18, 3) := by decide +kernel
theorem dX0_init_20 : decode cX0_init 20 = .ok (.return_, 1) := by decide +kernel
theorem dX0_forget_0 : decode cX0_forget 0 = .ok (.aload_n 0, 1) := by decide +kernel
theorem dX0_forget_1 : decode cX0_forget 1 = .ok (.lconst 0, 1) := by decide +kernel
theorem dX0_forget_2 : decode cX0_forget 2 = .ok (.putfield 9, 3) := by decide +kernel
theorem dX0_forget_5 : decode cX0_forget 5 = .ok (.return_, 1) := by decide +kernel
theorem dX0_answer_0 : decode cX0_answer 0 = .ok (.aload_n 0, 1) := by decide +kernel
theorem dX0_answer_1 : decode cX0_answer 1 = .ok (.getfield 9, 3) := by decide +kernel
theorem dX0_answer_4 : decode cX0_answer 4 = .ok (.iload_n 1, 1) := by decide +kernel
theorem dX0_answer_5 : decode cX0_answer 5 = .ok (.iload_n 2, 1) := by decide +kernel
theorem dX0_answer_6 : decode cX0_answer 6 = .ok (.invokestatic 22, 3) := by decide +kernel
theorem dX0_answer_9 : decode cX0_answer 9 = .ok (.lor, 1) := by decide +kernel
theorem dX0_answer_10 : decode cX0_answer 10 = .ok (.lstore 4, 2) := by decide +kernel
theorem dX0_answer_12 : decode cX0_answer 12 = .ok (.aload_n 0, 1) := by decide +kernel
theorem dX0_answer_13 : decode cX0_answer 13 = .ok (.getfield 9, 3) := by decide +kernel
theorem dX0_answer_16 : decode cX0_answer 16 = .ok (.iload_n 2, 1) := by decide +kernel
theorem dX0_answer_17 : decode cX0_answer 17 = .ok (.iload_n 1, 1) := by decide +kernel
theorem dX0_answer_18 : decode cX0_answer 18 = .ok (.invokestatic 22, 3) := by decide +kernel
theorem dX0_answer_21 : decode cX0_answer 21 = .ok (.lor, 1) := by decide +kernel
theorem dX0_answer_22 : decode cX0_answer 22 = .ok (.lstore 6, 2) := by decide +kernel
theorem dX0_answer_24 : decode cX0_answer 24 = .ok (.aload_n 0, 1) := by decide +kernel
theorem dX0_answer_25 : decode cX0_answer 25 = .ok (.getfield 18, 3) := by decide +kernel
theorem dX0_answer_28 : decode cX0_answer 28 = .ok (.lload 4, 2) := by decide +kernel
theorem dX0_answer_30 : decode cX0_answer 30 = .ok (.iload_n 3, 1) := by decide +kernel
theorem dX0_answer_31 : decode cX0_answer 31 = .ok (.invokestatic 26, 3) := by decide +kernel
theorem dX0_answer_34 : decode cX0_answer 34 = .ok (.istore 8, 2) := by decide +kernel
theorem dX0_answer_36 : decode cX0_answer 36 = .ok (.aload_n 0, 1) := by decide +kernel
theorem dX0_answer_37 : decode cX0_answer 37 = .ok (.getfield 18, 3) := by decide +kernel
theorem dX0_answer_40 : decode cX0_answer 40 = .ok (.lload 6, 2) := by decide +kernel
theorem dX0_answer_42 : decode cX0_answer 42 = .ok (.iload_n 3, 1) := by decide +kernel
theorem dX0_answer_43 : decode cX0_answer 43 = .ok (.invokestatic 26, 3) := by decide +kernel
theorem dX0_answer_46 : decode cX0_answer 46 = .ok (.istore 9, 2) := by decide +kernel
theorem dX0_answer_48 : decode cX0_answer 48 = .ok (.iload 8, 2) := by decide +kernel
theorem dX0_answer_50 : decode cX0_answer 50 = .ok (.iload 9, 2) := by decide +kernel
theorem dX0_answer_52 : decode cX0_answer 52 = .ok (.if_icmp .ne 16, 3) := by decide +kernel
theorem dX0_answer_55 : decode cX0_answer 55 = .ok (.iload_n 1, 1) := by decide +kernel
theorem dX0_answer_56 : decode cX0_answer 56 = .ok (.iload_n 2, 1) := by decide +kernel
theorem dX0_answer_57 : decode cX0_answer 57 = .ok (.if_icmp .ge 7, 3) := by decide +kernel
theorem dX0_answer_60 : decode cX0_answer 60 = .ok (.iconst 1, 1) := by decide +kernel
theorem dX0_answer_61 : decode cX0_answer 61 = .ok (.goto 19, 3) := by decide +kernel
theorem dX0_answer_64 : decode cX0_answer 64 = .ok (.iconst 0, 1) := by decide +kernel
theorem dX0_answer_65 : decode cX0_answer 65 = .ok (.goto 15, 3) := by decide +kernel
theorem dX0_answer_68 : decode cX0_answer 68 = .ok (.iload 8, 2) := by decide +kernel
theorem dX0_answer_70 : decode cX0_answer 70 = .ok (.iload 9, 2) := by decide +kernel
theorem dX0_answer_72 : decode cX0_answer 72 = .ok (.if_icmp .le 7, 3) := by decide +kernel
theorem dX0_answer_75 : decode cX0_answer 75 = .ok (.iconst 1, 1) := by decide +kernel
theorem dX0_answer_76 : decode cX0_answer 76 = .ok (.goto 4, 3) := by decide +kernel
theorem dX0_answer_79 : decode cX0_answer 79 = .ok (.iconst 0, 1) := by decide +kernel
theorem dX0_answer_80 : decode cX0_answer 80 = .ok (.istore 10, 2) := by decide +kernel
theorem dX0_answer_82 : decode cX0_answer 82 = .ok (.aload_n 0, 1) := by decide +kernel
theorem dX0_answer_83 : decode cX0_answer 83 = .ok (.iload 10, 2) := by decide +kernel
theorem dX0_answer_85 : decode cX0_answer 85 = .ok (.ifCond .eq 8, 3) := by decide +kernel
theorem dX0_answer_88 : decode cX0_answer 88 = .ok (.lload 4, 2) := by decide +kernel
theorem dX0_answer_90 : decode cX0_answer 90 = .ok (.goto 5, 3) := by decide +kernel
theorem dX0_answer_93 : decode cX0_answer 93 = .ok (.lload 6, 2) := by decide +kernel
theorem dX0_answer_95 : decode cX0_answer 95 = .ok (.putfield 9, 3) := by decide +kernel
theorem dX0_answer_98 : decode cX0_answer 98 = .ok (.iload 10, 2) := by decide +kernel
theorem dX0_answer_100 : decode cX0_answer 100 = .ok (.ireturn, 1) := by decide +kernel
theorem dX0_rowsLeft_0 : decode cX0_rowsLeft 0 = .ok (.aload_n 0, 1) := by decide +kernel
theorem dX0_rowsLeft_1 : decode cX0_rowsLeft 1 = .ok (.getfield 18, 3) := by decide +kernel
theorem dX0_rowsLeft_4 : decode cX0_rowsLeft 4 = .ok (.aload_n 0, 1) := by decide +kernel
theorem dX0_rowsLeft_5 : decode cX0_rowsLeft 5 = .ok (.getfield 9, 3) := by decide +kernel
theorem dX0_rowsLeft_8 : decode cX0_rowsLeft 8 = .ok (.iload_n 1, 1) := by decide +kernel
theorem dX0_rowsLeft_9 : decode cX0_rowsLeft 9 = .ok (.invokestatic 26, 3) := by decide +kernel
theorem dX0_rowsLeft_12 : decode cX0_rowsLeft 12 = .ok (.ireturn, 1) := by decide +kernel
theorem dX0_fewestQuestions_0 : decode cX0_fewestQuestions 0 = .ok (.aload_n 0, 1) := by decide +kernel
theorem dX0_fewestQuestions_1 : decode cX0_fewestQuestions 1 = .ok (.iload_n 1, 1) := by decide +kernel
theorem dX0_fewestQuestions_2 : decode cX0_fewestQuestions 2 = .ok (.invokevirtual 30, 3) := by decide +kernel
theorem dX0_fewestQuestions_5 : decode cX0_fewestQuestions 5 = .ok (.istore_n 2, 1) := by decide +kernel
theorem dX0_fewestQuestions_6 : decode cX0_fewestQuestions 6 = .ok (.iconst 0, 1) := by decide +kernel
theorem dX0_fewestQuestions_7 : decode cX0_fewestQuestions 7 = .ok (.istore_n 3, 1) := by decide +kernel
theorem dX0_fewestQuestions_8 : decode cX0_fewestQuestions 8 = .ok (.iload_n 3, 1) := by decide +kernel
theorem dX0_fewestQuestions_9 : decode cX0_fewestQuestions 9 = .ok (.iload_n 1, 1) := by decide +kernel
theorem dX0_fewestQuestions_10 : decode cX0_fewestQuestions 10 = .ok (.iload_n 1, 1) := by decide +kernel
theorem dX0_fewestQuestions_11 : decode cX0_fewestQuestions 11 = .ok (.iconst 1, 1) := by decide +kernel
theorem dX0_fewestQuestions_12 : decode cX0_fewestQuestions 12 = .ok (.isub, 1) := by decide +kernel
theorem dX0_fewestQuestions_13 : decode cX0_fewestQuestions 13 = .ok (.imul, 1) := by decide +kernel
theorem dX0_fewestQuestions_14 : decode cX0_fewestQuestions 14 = .ok (.iconst 2, 1) := by decide +kernel
theorem dX0_fewestQuestions_15 : decode cX0_fewestQuestions 15 = .ok (.idiv, 1) := by decide +kernel
theorem dX0_fewestQuestions_16 : decode cX0_fewestQuestions 16 = .ok (.if_icmp .gt 28, 3) := by decide +kernel
theorem dX0_fewestQuestions_19 : decode cX0_fewestQuestions 19 = .ok (.aload_n 0, 1) := by decide +kernel
theorem dX0_fewestQuestions_20 : decode cX0_fewestQuestions 20 = .ok (.getfield 18, 3) := by decide +kernel
theorem dX0_fewestQuestions_23 : decode cX0_fewestQuestions 23 = .ok (.aload_n 0, 1) := by decide +kernel
theorem dX0_fewestQuestions_24 : decode cX0_fewestQuestions 24 = .ok (.getfield 9, 3) := by decide +kernel
theorem dX0_fewestQuestions_27 : decode cX0_fewestQuestions 27 = .ok (.iload_n 2, 1) := by decide +kernel
theorem dX0_fewestQuestions_28 : decode cX0_fewestQuestions 28 = .ok (.iload_n 1, 1) := by decide +kernel
theorem dX0_fewestQuestions_29 : decode cX0_fewestQuestions 29 = .ok (.iload_n 3, 1) := by decide +kernel
theorem dX0_fewestQuestions_30 : decode cX0_fewestQuestions 30 = .ok (.invokestatic 34, 3) := by decide +kernel
theorem dX0_fewestQuestions_33 : decode cX0_fewestQuestions 33 = .ok (.ifCond .eq 5, 3) := by decide +kernel
theorem dX0_fewestQuestions_36 : decode cX0_fewestQuestions 36 = .ok (.iload_n 3, 1) := by decide +kernel
theorem dX0_fewestQuestions_37 : decode cX0_fewestQuestions 37 = .ok (.ireturn, 1) := by decide +kernel
theorem dX0_fewestQuestions_38 : decode cX0_fewestQuestions 38 = .ok (.iinc 3 1, 3) := by decide +kernel
theorem dX0_fewestQuestions_41 : decode cX0_fewestQuestions 41 = .ok (.goto (-33), 3) := by decide +kernel
theorem dX0_fewestQuestions_44 : decode cX0_fewestQuestions 44 = .ok (.iconst (-1), 1) := by decide +kernel
theorem dX0_fewestQuestions_45 : decode cX0_fewestQuestions 45 = .ok (.ireturn, 1) := by decide +kernel
theorem dX0_isLesser_0 : decode cX0_isLesser 0 = .ok (.lconst 1, 1) := by decide +kernel
theorem dX0_isLesser_1 : decode cX0_isLesser 1 = .ok (.bipush 6, 2) := by decide +kernel
theorem dX0_isLesser_3 : decode cX0_isLesser 3 = .ok (.iload_n 1, 1) := by decide +kernel
theorem dX0_isLesser_4 : decode cX0_isLesser 4 = .ok (.imul, 1) := by decide +kernel
theorem dX0_isLesser_5 : decode cX0_isLesser 5 = .ok (.iload_n 0, 1) := by decide +kernel
theorem dX0_isLesser_6 : decode cX0_isLesser 6 = .ok (.iadd, 1) := by decide +kernel
theorem dX0_isLesser_7 : decode cX0_isLesser 7 = .ok (.lshl, 1) := by decide +kernel
theorem dX0_isLesser_8 : decode cX0_isLesser 8 = .ok (.lreturn, 1) := by decide +kernel
theorem dX0_countOf_0 : decode cX0_countOf 0 = .ok (.aload_n 0, 1) := by decide +kernel
theorem dX0_countOf_1 : decode cX0_countOf 1 = .ok (.ldc2_w 38, 3) := by decide +kernel
theorem dX0_countOf_4 : decode cX0_countOf 4 = .ok (.lload_n 1, 1) := by decide +kernel
theorem dX0_countOf_5 : decode cX0_countOf 5 = .ok (.iload_n 3, 1) := by decide +kernel
theorem dX0_countOf_6 : decode cX0_countOf 6 = .ok (.invokevirtual 40, 3) := by decide +kernel
theorem dX0_countOf_9 : decode cX0_countOf 9 = .ok (.ireturn, 1) := by decide +kernel
theorem dX0_canSettle_0 : decode cX0_canSettle 0 = .ok (.iload_n 3, 1) := by decide +kernel
theorem dX0_canSettle_1 : decode cX0_canSettle 1 = .ok (.iconst 1, 1) := by decide +kernel
theorem dX0_canSettle_2 : decode cX0_canSettle 2 = .ok (.if_icmp .gt 5, 3) := by decide +kernel
theorem dX0_canSettle_5 : decode cX0_canSettle 5 = .ok (.iconst 1, 1) := by decide +kernel
theorem dX0_canSettle_6 : decode cX0_canSettle 6 = .ok (.ireturn, 1) := by decide +kernel
theorem dX0_canSettle_7 : decode cX0_canSettle 7 = .ok (.iload 5, 2) := by decide +kernel
theorem dX0_canSettle_9 : decode cX0_canSettle 9 = .ok (.ifCond .le 11, 3) := by decide +kernel
theorem dX0_canSettle_12 : decode cX0_canSettle 12 = .ok (.iload_n 3, 1) := by decide +kernel
theorem dX0_canSettle_13 : decode cX0_canSettle 13 = .ok (.iconst 1, 1) := by decide +kernel
theorem dX0_canSettle_14 : decode cX0_canSettle 14 = .ok (.iload 5, 2) := by decide +kernel
theorem dX0_canSettle_16 : decode cX0_canSettle 16 = .ok (.ishl, 1) := by decide +kernel
theorem dX0_canSettle_17 : decode cX0_canSettle 17 = .ok (.if_icmp .le 5, 3) := by decide +kernel
theorem dX0_canSettle_20 : decode cX0_canSettle 20 = .ok (.iconst 0, 1) := by decide +kernel
theorem dX0_canSettle_21 : decode cX0_canSettle 21 = .ok (.ireturn, 1) := by decide +kernel
theorem dX0_canSettle_22 : decode cX0_canSettle 22 = .ok (.iconst 0, 1) := by decide +kernel
theorem dX0_canSettle_23 : decode cX0_canSettle 23 = .ok (.istore 6, 2) := by decide +kernel
theorem dX0_canSettle_25 : decode cX0_canSettle 25 = .ok (.iload 6, 2) := by decide +kernel
theorem dX0_canSettle_27 : decode cX0_canSettle 27 = .ok (.iload 4, 2) := by decide +kernel
theorem dX0_canSettle_29 : decode cX0_canSettle 29 = .ok (.if_icmp .ge 112, 3) := by decide +kernel
theorem dX0_canSettle_32 : decode cX0_canSettle 32 = .ok (.iload 6, 2) := by decide +kernel
theorem dX0_canSettle_34 : decode cX0_canSettle 34 = .ok (.iconst 1, 1) := by decide +kernel
theorem dX0_canSettle_35 : decode cX0_canSettle 35 = .ok (.iadd, 1) := by decide +kernel
theorem dX0_canSettle_36 : decode cX0_canSettle 36 = .ok (.istore 7, 2) := by decide +kernel
theorem dX0_canSettle_38 : decode cX0_canSettle 38 = .ok (.iload 7, 2) := by decide +kernel
theorem dX0_canSettle_40 : decode cX0_canSettle 40 = .ok (.iload 4, 2) := by decide +kernel
theorem dX0_canSettle_42 : decode cX0_canSettle 42 = .ok (.if_icmp .ge 93, 3) := by decide +kernel
theorem dX0_canSettle_45 : decode cX0_canSettle 45 = .ok (.lload_n 1, 1) := by decide +kernel
theorem dX0_canSettle_46 : decode cX0_canSettle 46 = .ok (.iload 6, 2) := by decide +kernel
theorem dX0_canSettle_48 : decode cX0_canSettle 48 = .ok (.iload 7, 2) := by decide +kernel
theorem dX0_canSettle_50 : decode cX0_canSettle 50 = .ok (.invokestatic 22, 3) := by decide +kernel
theorem dX0_canSettle_53 : decode cX0_canSettle 53 = .ok (.lor, 1) := by decide +kernel
theorem dX0_canSettle_54 : decode cX0_canSettle 54 = .ok (.lstore 8, 2) := by decide +kernel
theorem dX0_canSettle_56 : decode cX0_canSettle 56 = .ok (.lload_n 1, 1) := by decide +kernel
theorem dX0_canSettle_57 : decode cX0_canSettle 57 = .ok (.iload 7, 2) := by decide +kernel
theorem dX0_canSettle_59 : decode cX0_canSettle 59 = .ok (.iload 6, 2) := by decide +kernel
theorem dX0_canSettle_61 : decode cX0_canSettle 61 = .ok (.invokestatic 22, 3) := by decide +kernel
theorem dX0_canSettle_64 : decode cX0_canSettle 64 = .ok (.lor, 1) := by decide +kernel
theorem dX0_canSettle_65 : decode cX0_canSettle 65 = .ok (.lstore 10, 2) := by decide +kernel
theorem dX0_canSettle_67 : decode cX0_canSettle 67 = .ok (.aload_n 0, 1) := by decide +kernel
theorem dX0_canSettle_68 : decode cX0_canSettle 68 = .ok (.lload 8, 2) := by decide +kernel
theorem dX0_canSettle_70 : decode cX0_canSettle 70 = .ok (.iload 4, 2) := by decide +kernel
theorem dX0_canSettle_72 : decode cX0_canSettle 72 = .ok (.invokestatic 26, 3) := by decide +kernel
theorem dX0_canSettle_75 : decode cX0_canSettle 75 = .ok (.istore 12, 2) := by decide +kernel
theorem dX0_canSettle_77 : decode cX0_canSettle 77 = .ok (.iload_n 3, 1) := by decide +kernel
theorem dX0_canSettle_78 : decode cX0_canSettle 78 = .ok (.iload 12, 2) := by decide +kernel
theorem dX0_canSettle_80 : decode cX0_canSettle 80 = .ok (.isub, 1) := by decide +kernel
theorem dX0_canSettle_81 : decode cX0_canSettle 81 = .ok (.istore 13, 2) := by decide +kernel
theorem dX0_canSettle_83 : decode cX0_canSettle 83 = .ok (.iload 12, 2) := by decide +kernel
theorem dX0_canSettle_85 : decode cX0_canSettle 85 = .ok (.ifCond .le 44, 3) := by decide +kernel
theorem dX0_canSettle_88 : decode cX0_canSettle 88 = .ok (.iload 13, 2) := by decide +kernel
theorem dX0_canSettle_90 : decode cX0_canSettle 90 = .ok (.ifCond .le 39, 3) := by decide +kernel
theorem dX0_canSettle_93 : decode cX0_canSettle 93 = .ok (.aload_n 0, 1) := by decide +kernel
theorem dX0_canSettle_94 : decode cX0_canSettle 94 = .ok (.lload 8, 2) := by decide +kernel
theorem dX0_canSettle_96 : decode cX0_canSettle 96 = .ok (.iload 12, 2) := by decide +kernel
theorem dX0_canSettle_98 : decode cX0_canSettle 98 = .ok (.iload 4, 2) := by decide +kernel
theorem dX0_canSettle_100 : decode cX0_canSettle 100 = .ok (.iload 5, 2) := by decide +kernel
theorem dX0_canSettle_102 : decode cX0_canSettle 102 = .ok (.iconst 1, 1) := by decide +kernel
theorem dX0_canSettle_103 : decode cX0_canSettle 103 = .ok (.isub, 1) := by decide +kernel
theorem dX0_canSettle_104 : decode cX0_canSettle 104 = .ok (.invokestatic 34, 3) := by decide +kernel
theorem dX0_canSettle_107 : decode cX0_canSettle 107 = .ok (.ifCond .eq 22, 3) := by decide +kernel
theorem dX0_canSettle_110 : decode cX0_canSettle 110 = .ok (.aload_n 0, 1) := by decide +kernel
theorem dX0_canSettle_111 : decode cX0_canSettle 111 = .ok (.lload 10, 2) := by decide +kernel
theorem dX0_canSettle_113 : decode cX0_canSettle 113 = .ok (.iload 13, 2) := by decide +kernel
theorem dX0_canSettle_115 : decode cX0_canSettle 115 = .ok (.iload 4, 2) := by decide +kernel
theorem dX0_canSettle_117 : decode cX0_canSettle 117 = .ok (.iload 5, 2) := by decide +kernel
theorem dX0_canSettle_119 : decode cX0_canSettle 119 = .ok (.iconst 1, 1) := by decide +kernel
theorem dX0_canSettle_120 : decode cX0_canSettle 120 = .ok (.isub, 1) := by decide +kernel
theorem dX0_canSettle_121 : decode cX0_canSettle 121 = .ok (.invokestatic 34, 3) := by decide +kernel
theorem dX0_canSettle_124 : decode cX0_canSettle 124 = .ok (.ifCond .eq 5, 3) := by decide +kernel
theorem dX0_canSettle_127 : decode cX0_canSettle 127 = .ok (.iconst 1, 1) := by decide +kernel
theorem dX0_canSettle_128 : decode cX0_canSettle 128 = .ok (.ireturn, 1) := by decide +kernel
theorem dX0_canSettle_129 : decode cX0_canSettle 129 = .ok (.iinc 7 1, 3) := by decide +kernel
theorem dX0_canSettle_132 : decode cX0_canSettle 132 = .ok (.goto (-94), 3) := by decide +kernel
theorem dX0_canSettle_135 : decode cX0_canSettle 135 = .ok (.iinc 6 1, 3) := by decide +kernel
theorem dX0_canSettle_138 : decode cX0_canSettle 138 = .ok (.goto (-113), 3) := by decide +kernel
theorem dX0_canSettle_141 : decode cX0_canSettle 141 = .ok (.iconst 0, 1) := by decide +kernel
theorem dX0_canSettle_142 : decode cX0_canSettle 142 = .ok (.ireturn, 1) := by decide +kernel
theorem dX1_init_0 : decode cX1_init 0 = .ok (.aload_n 0, 1) := by decide +kernel
theorem dX1_init_1 : decode cX1_init 1 = .ok (.invokespecial 3, 3) := by decide +kernel
theorem dX1_init_4 : decode cX1_init 4 = .ok (.aload_n 0, 1) := by decide +kernel
theorem dX1_init_5 : decode cX1_init 5 = .ok (.bipush 6, 2) := by decide +kernel
theorem dX1_init_7 : decode cX1_init 7 = .ok (.newarray .int, 2) := by decide +kernel
theorem dX1_init_9 : decode cX1_init 9 = .ok (.putfield 9, 3) := by decide +kernel
theorem dX1_init_12 : decode cX1_init 12 = .ok (.aload_n 0, 1) := by decide +kernel
theorem dX1_init_13 : decode cX1_init 13 = .ok (.bipush 6, 2) := by decide +kernel
theorem dX1_init_15 : decode cX1_init 15 = .ok (.newarray .int, 2) := by decide +kernel
theorem dX1_init_17 : decode cX1_init 17 = .ok (.putfield 15, 3) := by decide +kernel
theorem dX1_init_20 : decode cX1_init 20 = .ok (.aload_n 0, 1) := by decide +kernel
theorem dX1_init_21 : decode cX1_init 21 = .ok (.bipush 6, 2) := by decide +kernel
theorem dX1_init_23 : decode cX1_init 23 = .ok (.newarray .int, 2) := by decide +kernel
theorem dX1_init_25 : decode cX1_init 25 = .ok (.putfield 18, 3) := by decide +kernel
theorem dX1_init_28 : decode cX1_init 28 = .ok (.aload_n 0, 1) := by decide +kernel
theorem dX1_init_29 : decode cX1_init 29 = .ok (.bipush 24, 2) := by decide +kernel
theorem dX1_init_31 : decode cX1_init 31 = .ok (.newarray .boolean, 2) := by decide +kernel
theorem dX1_init_33 : decode cX1_init 33 = .ok (.putfield 21, 3) := by decide +kernel
theorem dX1_init_36 : decode cX1_init 36 = .ok (.aload_n 0, 1) := by decide +kernel
theorem dX1_init_37 : decode cX1_init 37 = .ok (.iconst 0, 1) := by decide +kernel
theorem dX1_init_38 : decode cX1_init 38 = .ok (.putfield 25, 3) := by decide +kernel
theorem dX1_init_41 : decode cX1_init 41 = .ok (.return_, 1) := by decide +kernel
theorem dX1_forget_0 : decode cX1_forget 0 = .ok (.iconst 0, 1) := by decide +kernel
theorem dX1_forget_1 : decode cX1_forget 1 = .ok (.istore_n 1, 1) := by decide +kernel
theorem dX1_forget_2 : decode cX1_forget 2 = .ok (.iload_n 1, 1) := by decide +kernel
theorem dX1_forget_3 : decode cX1_forget 3 = .ok (.bipush 6, 2) := by decide +kernel
theorem dX1_forget_5 : decode cX1_forget 5 = .ok (.if_icmp .ge 23, 3) := by decide +kernel
theorem dX1_forget_8 : decode cX1_forget 8 = .ok (.aload_n 0, 1) := by decide +kernel
theorem dX1_forget_9 : decode cX1_forget 9 = .ok (.getfield 9, 3) := by decide +kernel
theorem dX1_forget_12 : decode cX1_forget 12 = .ok (.iload_n 1, 1) := by decide +kernel
theorem dX1_forget_13 : decode cX1_forget 13 = .ok (.iconst 0, 1) := by decide +kernel
theorem dX1_forget_14 : decode cX1_forget 14 = .ok (.iastore, 1) := by decide +kernel
theorem dX1_forget_15 : decode cX1_forget 15 = .ok (.aload_n 0, 1) := by decide +kernel
theorem dX1_forget_16 : decode cX1_forget 16 = .ok (.getfield 15, 3) := by decide +kernel
theorem dX1_forget_19 : decode cX1_forget 19 = .ok (.iload_n 1, 1) := by decide +kernel
theorem dX1_forget_20 : decode cX1_forget 20 = .ok (.iconst 0, 1) := by decide +kernel
theorem dX1_forget_21 : decode cX1_forget 21 = .ok (.iastore, 1) := by decide +kernel
theorem dX1_forget_22 : decode cX1_forget 22 = .ok (.iinc 1 1, 3) := by decide +kernel
theorem dX1_forget_25 : decode cX1_forget 25 = .ok (.goto (-23), 3) := by decide +kernel
theorem dX1_forget_28 : decode cX1_forget 28 = .ok (.iconst 0, 1) := by decide +kernel
theorem dX1_forget_29 : decode cX1_forget 29 = .ok (.istore_n 1, 1) := by decide +kernel
theorem dX1_forget_30 : decode cX1_forget 30 = .ok (.iload_n 1, 1) := by decide +kernel
theorem dX1_forget_31 : decode cX1_forget 31 = .ok (.bipush 24, 2) := by decide +kernel
theorem dX1_forget_33 : decode cX1_forget 33 = .ok (.if_icmp .ge 16, 3) := by decide +kernel
theorem dX1_forget_36 : decode cX1_forget 36 = .ok (.aload_n 0, 1) := by decide +kernel
theorem dX1_forget_37 : decode cX1_forget 37 = .ok (.getfield 21, 3) := by decide +kernel
theorem dX1_forget_40 : decode cX1_forget 40 = .ok (.iload_n 1, 1) := by decide +kernel
theorem dX1_forget_41 : decode cX1_forget 41 = .ok (.iconst 0, 1) := by decide +kernel
theorem dX1_forget_42 : decode cX1_forget 42 = .ok (.bastore, 1) := by decide +kernel
theorem dX1_forget_43 : decode cX1_forget 43 = .ok (.iinc 1 1, 3) := by decide +kernel
theorem dX1_forget_46 : decode cX1_forget 46 = .ok (.goto (-16), 3) := by decide +kernel
theorem dX1_forget_49 : decode cX1_forget 49 = .ok (.aload_n 0, 1) := by decide +kernel
theorem dX1_forget_50 : decode cX1_forget 50 = .ok (.iconst 0, 1) := by decide +kernel
theorem dX1_forget_51 : decode cX1_forget 51 = .ok (.putfield 25, 3) := by decide +kernel
theorem dX1_forget_54 : decode cX1_forget 54 = .ok (.return_, 1) := by decide +kernel
theorem dX1_letIn_0 : decode cX1_letIn 0 = .ok (.iload_n 2, 1) := by decide +kernel
theorem dX1_letIn_1 : decode cX1_letIn 1 = .ok (.istore_n 3, 1) := by decide +kernel
theorem dX1_letIn_2 : decode cX1_letIn 2 = .ok (.iconst 0, 1) := by decide +kernel
theorem dX1_letIn_3 : decode cX1_letIn 3 = .ok (.istore 4, 2) := by decide +kernel
theorem dX1_letIn_5 : decode cX1_letIn 5 = .ok (.iload 4, 2) := by decide +kernel
theorem dX1_letIn_7 : decode cX1_letIn 7 = .ok (.aload_n 1, 1) := by decide +kernel
theorem dX1_letIn_8 : decode cX1_letIn 8 = .ok (.getfield 29, 3) := by decide +kernel
theorem dX1_letIn_11 : decode cX1_letIn 11 = .ok (.if_icmp .ge 81, 3) := by decide +kernel
theorem dX1_letIn_14 : decode cX1_letIn 14 = .ok (.iload_n 3, 1) := by decide +kernel
theorem dX1_letIn_15 : decode cX1_letIn 15 = .ok (.aload_n 1, 1) := by decide +kernel
theorem dX1_letIn_16 : decode cX1_letIn 16 = .ok (.getfield 34, 3) := by decide +kernel
theorem dX1_letIn_19 : decode cX1_letIn 19 = .ok (.iload 4, 2) := by decide +kernel
theorem dX1_letIn_21 : decode cX1_letIn 21 = .ok (.iaload, 1) := by decide +kernel
theorem dX1_letIn_22 : decode cX1_letIn 22 = .ok (.if_icmp .eq 14, 3) := by decide +kernel
theorem dX1_letIn_25 : decode cX1_letIn 25 = .ok (.iload_n 3, 1) := by decide +kernel
theorem dX1_letIn_26 : decode cX1_letIn 26 = .ok (.aload_n 1, 1) := by decide +kernel
theorem dX1_letIn_27 : decode cX1_letIn 27 = .ok (.getfield 37, 3) := by decide +kernel
theorem dX1_letIn_30 : decode cX1_letIn 30 = .ok (.iload 4, 2) := by decide +kernel
theorem dX1_letIn_32 : decode cX1_letIn 32 = .ok (.iaload, 1) := by decide +kernel
theorem dX1_letIn_33 : decode cX1_letIn 33 = .ok (.if_icmp .ne 53, 3) := by decide +kernel
theorem dX1_letIn_36 : decode cX1_letIn 36 = .ok (.aload_n 0, 1) := by decide +kernel
theorem dX1_letIn_37 : decode cX1_letIn 37 = .ok (.getfield 21, 3) := by decide +kernel
theorem dX1_letIn_40 : decode cX1_letIn 40 = .ok (.iload 4, 2) := by decide +kernel
theorem dX1_letIn_42 : decode cX1_letIn 42 = .ok (.baload, 1) := by decide +kernel
theorem dX1_letIn_43 : decode cX1_letIn 43 = .ok (.ifCond .eq 13, 3) := by decide +kernel
theorem dX1_letIn_46 : decode cX1_letIn 46 = .ok (.aload_n 1, 1) := by decide +kernel
theorem dX1_letIn_47 : decode cX1_letIn 47 = .ok (.getfield 37, 3) := by decide +kernel
theorem dX1_letIn_50 : decode cX1_letIn 50 = .ok (.iload 4, 2) := by decide +kernel
theorem dX1_letIn_52 : decode cX1_letIn 52 = .ok (.iaload, 1) := by decide +kernel
theorem dX1_letIn_53 : decode cX1_letIn 53 = .ok (.goto 10, 3) := by decide +kernel
theorem dX1_letIn_56 : decode cX1_letIn 56 = .ok (.aload_n 1, 1) := by decide +kernel
theorem dX1_letIn_57 : decode cX1_letIn 57 = .ok (.getfield 34, 3) := by decide +kernel
theorem dX1_letIn_60 : decode cX1_letIn 60 = .ok (.iload 4, 2) := by decide +kernel
theorem dX1_letIn_62 : decode cX1_letIn 62 = .ok (.iaload, 1) := by decide +kernel
theorem dX1_letIn_63 : decode cX1_letIn 63 = .ok (.istore_n 3, 1) := by decide +kernel
theorem dX1_letIn_64 : decode cX1_letIn 64 = .ok (.aload_n 0, 1) := by decide +kernel
theorem dX1_letIn_65 : decode cX1_letIn 65 = .ok (.getfield 21, 3) := by decide +kernel
theorem dX1_letIn_68 : decode cX1_letIn 68 = .ok (.iload 4, 2) := by decide +kernel
theorem dX1_letIn_70 : decode cX1_letIn 70 = .ok (.aload_n 0, 1) := by decide +kernel
theorem dX1_letIn_71 : decode cX1_letIn 71 = .ok (.getfield 21, 3) := by decide +kernel
theorem dX1_letIn_74 : decode cX1_letIn 74 = .ok (.iload 4, 2) := by decide +kernel
theorem dX1_letIn_76 : decode cX1_letIn 76 = .ok (.baload, 1) := by decide +kernel
theorem dX1_letIn_77 : decode cX1_letIn 77 = .ok (.ifCond .ne 7, 3) := by decide +kernel
theorem dX1_letIn_80 : decode cX1_letIn 80 = .ok (.iconst 1, 1) := by decide +kernel
theorem dX1_letIn_81 : decode cX1_letIn 81 = .ok (.goto 4, 3) := by decide +kernel
theorem dX1_letIn_84 : decode cX1_letIn 84 = .ok (.iconst 0, 1) := by decide +kernel
theorem dX1_letIn_85 : decode cX1_letIn 85 = .ok (.bastore, 1) := by decide +kernel
theorem dX1_letIn_86 : decode cX1_letIn 86 = .ok (.iinc 4 1, 3) := by decide +kernel
theorem dX1_letIn_89 : decode cX1_letIn 89 = .ok (.goto (-84), 3) := by decide +kernel
theorem dX1_letIn_92 : decode cX1_letIn 92 = .ok (.aload_n 0, 1) := by decide +kernel
theorem dX1_letIn_93 : decode cX1_letIn 93 = .ok (.getfield 9, 3) := by decide +kernel
theorem dX1_letIn_96 : decode cX1_letIn 96 = .ok (.iload_n 2, 1) := by decide +kernel
theorem dX1_letIn_97 : decode cX1_letIn 97 = .ok (.dup2, 1) := by decide +kernel
theorem dX1_letIn_98 : decode cX1_letIn 98 = .ok (.iaload, 1) := by decide +kernel
theorem dX1_letIn_99 : decode cX1_letIn 99 = .ok (.iconst 1, 1) := by decide +kernel
theorem dX1_letIn_100 : decode cX1_letIn 100 = .ok (.iadd, 1) := by decide +kernel
theorem dX1_letIn_101 : decode cX1_letIn 101 = .ok (.iastore, 1) := by decide +kernel
theorem dX1_letIn_102 : decode cX1_letIn 102 = .ok (.aload_n 0, 1) := by decide +kernel
theorem dX1_letIn_103 : decode cX1_letIn 103 = .ok (.getfield 15, 3) := by decide +kernel
theorem dX1_letIn_106 : decode cX1_letIn 106 = .ok (.iload_n 3, 1) := by decide +kernel
theorem dX1_letIn_107 : decode cX1_letIn 107 = .ok (.dup2, 1) := by decide +kernel
theorem dX1_letIn_108 : decode cX1_letIn 108 = .ok (.iaload, 1) := by decide +kernel
theorem dX1_letIn_109 : decode cX1_letIn 109 = .ok (.iconst 1, 1) := by decide +kernel
theorem dX1_letIn_110 : decode cX1_letIn 110 = .ok (.iadd, 1) := by decide +kernel
theorem dX1_letIn_111 : decode cX1_letIn 111 = .ok (.iastore, 1) := by decide +kernel
theorem dX1_letIn_112 : decode cX1_letIn 112 = .ok (.aload_n 0, 1) := by decide +kernel
theorem dX1_letIn_113 : decode cX1_letIn 113 = .ok (.dup, 1) := by decide +kernel
theorem dX1_letIn_114 : decode cX1_letIn 114 = .ok (.getfield 25, 3) := by decide +kernel
theorem dX1_letIn_117 : decode cX1_letIn 117 = .ok (.iconst 1, 1) := by decide +kernel
theorem dX1_letIn_118 : decode cX1_letIn 118 = .ok (.iadd, 1) := by decide +kernel
theorem dX1_letIn_119 : decode cX1_letIn 119 = .ok (.putfield 25, 3) := by decide +kernel
theorem dX1_letIn_122 : decode cX1_letIn 122 = .ok (.iload_n 3, 1) := by decide +kernel
theorem dX1_letIn_123 : decode cX1_letIn 123 = .ok (.ireturn, 1) := by decide +kernel
theorem dX1_reckoned_0 : decode cX1_reckoned 0 = .ok (.iconst 0, 1) := by decide +kernel
theorem dX1_reckoned_1 : decode cX1_reckoned 1 = .ok (.istore_n 3, 1) := by decide +kernel
theorem dX1_reckoned_2 : decode cX1_reckoned 2 = .ok (.iload_n 3, 1) := by decide +kernel
theorem dX1_reckoned_3 : decode cX1_reckoned 3 = .ok (.bipush 6, 2) := by decide +kernel
theorem dX1_reckoned_5 : decode cX1_reckoned 5 = .ok (.if_icmp .ge 21, 3) := by decide +kernel
theorem dX1_reckoned_8 : decode cX1_reckoned 8 = .ok (.aload_n 0, 1) := by decide +kernel
theorem dX1_reckoned_9 : decode cX1_reckoned 9 = .ok (.getfield 18, 3) := by decide +kernel
theorem dX1_reckoned_12 : decode cX1_reckoned 12 = .ok (.iload_n 3, 1) := by decide +kernel
theorem dX1_reckoned_13 : decode cX1_reckoned 13 = .ok (.aload_n 0, 1) := by decide +kernel
theorem dX1_reckoned_14 : decode cX1_reckoned 14 = .ok (.getfield 9, 3) := by decide +kernel
theorem dX1_reckoned_17 : decode cX1_reckoned 17 = .ok (.iload_n 3, 1) := by decide +kernel
theorem dX1_reckoned_18 : decode cX1_reckoned 18 = .ok (.iaload, 1) := by decide +kernel
theorem dX1_reckoned_19 : decode cX1_reckoned 19 = .ok (.iastore, 1) := by decide +kernel
theorem dX1_reckoned_20 : decode cX1_reckoned 20 = .ok (.iinc 3 1, 3) := by decide +kernel
theorem dX1_reckoned_23 : decode cX1_reckoned 23 = .ok (.goto (-21), 3) := by decide +kernel
theorem dX1_reckoned_26 : decode cX1_reckoned 26 = .ok (.iconst 0, 1) := by decide +kernel
theorem dX1_reckoned_27 : decode cX1_reckoned 27 = .ok (.istore_n 3, 1) := by decide +kernel
theorem dX1_reckoned_28 : decode cX1_reckoned 28 = .ok (.iload_n 3, 1) := by decide +kernel
theorem dX1_reckoned_29 : decode cX1_reckoned 29 = .ok (.aload_n 1, 1) := by decide +kernel
theorem dX1_reckoned_30 : decode cX1_reckoned 30 = .ok (.getfield 29, 3) := by decide +kernel
theorem dX1_reckoned_33 : decode cX1_reckoned 33 = .ok (.if_icmp .ge 66, 3) := by decide +kernel
theorem dX1_reckoned_36 : decode cX1_reckoned 36 = .ok (.aload_n 0, 1) := by decide +kernel
theorem dX1_reckoned_37 : decode cX1_reckoned 37 = .ok (.getfield 18, 3) := by decide +kernel
theorem dX1_reckoned_40 : decode cX1_reckoned 40 = .ok (.aload_n 1, 1) := by decide +kernel
theorem dX1_reckoned_41 : decode cX1_reckoned 41 = .ok (.getfield 34, 3) := by decide +kernel
theorem dX1_reckoned_44 : decode cX1_reckoned 44 = .ok (.iload_n 3, 1) := by decide +kernel
theorem dX1_reckoned_45 : decode cX1_reckoned 45 = .ok (.iaload, 1) := by decide +kernel
theorem dX1_reckoned_46 : decode cX1_reckoned 46 = .ok (.iaload, 1) := by decide +kernel
theorem dX1_reckoned_47 : decode cX1_reckoned 47 = .ok (.aload_n 0, 1) := by decide +kernel
theorem dX1_reckoned_48 : decode cX1_reckoned 48 = .ok (.getfield 18, 3) := by decide +kernel
theorem dX1_reckoned_51 : decode cX1_reckoned 51 = .ok (.aload_n 1, 1) := by decide +kernel
theorem dX1_reckoned_52 : decode cX1_reckoned 52 = .ok (.getfield 37, 3) := by decide +kernel
theorem dX1_reckoned_55 : decode cX1_reckoned 55 = .ok (.iload_n 3, 1) := by decide +kernel
theorem dX1_reckoned_56 : decode cX1_reckoned 56 = .ok (.iaload, 1) := by decide +kernel
theorem dX1_reckoned_57 : decode cX1_reckoned 57 = .ok (.iaload, 1) := by decide +kernel
theorem dX1_reckoned_58 : decode cX1_reckoned 58 = .ok (.iadd, 1) := by decide +kernel
theorem dX1_reckoned_59 : decode cX1_reckoned 59 = .ok (.istore 4, 2) := by decide +kernel
theorem dX1_reckoned_61 : decode cX1_reckoned 61 = .ok (.aload_n 0, 1) := by decide +kernel
theorem dX1_reckoned_62 : decode cX1_reckoned 62 = .ok (.getfield 18, 3) := by decide +kernel
theorem dX1_reckoned_65 : decode cX1_reckoned 65 = .ok (.aload_n 1, 1) := by decide +kernel
theorem dX1_reckoned_66 : decode cX1_reckoned 66 = .ok (.getfield 34, 3) := by decide +kernel
theorem dX1_reckoned_69 : decode cX1_reckoned 69 = .ok (.iload_n 3, 1) := by decide +kernel
theorem dX1_reckoned_70 : decode cX1_reckoned 70 = .ok (.iaload, 1) := by decide +kernel
theorem dX1_reckoned_71 : decode cX1_reckoned 71 = .ok (.iload 4, 2) := by decide +kernel
theorem dX1_reckoned_73 : decode cX1_reckoned 73 = .ok (.iconst 1, 1) := by decide +kernel
theorem dX1_reckoned_74 : decode cX1_reckoned 74 = .ok (.iadd, 1) := by decide +kernel
theorem dX1_reckoned_75 : decode cX1_reckoned 75 = .ok (.iconst 2, 1) := by decide +kernel
theorem dX1_reckoned_76 : decode cX1_reckoned 76 = .ok (.idiv, 1) := by decide +kernel
theorem dX1_reckoned_77 : decode cX1_reckoned 77 = .ok (.iastore, 1) := by decide +kernel
theorem dX1_reckoned_78 : decode cX1_reckoned 78 = .ok (.aload_n 0, 1) := by decide +kernel
theorem dX1_reckoned_79 : decode cX1_reckoned 79 = .ok (.getfield 18, 3) := by decide +kernel
theorem dX1_reckoned_82 : decode cX1_reckoned 82 = .ok (.aload_n 1, 1) := by decide +kernel
theorem dX1_reckoned_83 : decode cX1_reckoned 83 = .ok (.getfield 37, 3) := by decide +kernel
theorem dX1_reckoned_86 : decode cX1_reckoned 86 = .ok (.iload_n 3, 1) := by decide +kernel
theorem dX1_reckoned_87 : decode cX1_reckoned 87 = .ok (.iaload, 1) := by decide +kernel
theorem dX1_reckoned_88 : decode cX1_reckoned 88 = .ok (.iload 4, 2) := by decide +kernel
theorem dX1_reckoned_90 : decode cX1_reckoned 90 = .ok (.iconst 2, 1) := by decide +kernel
theorem dX1_reckoned_91 : decode cX1_reckoned 91 = .ok (.idiv, 1) := by decide +kernel
theorem dX1_reckoned_92 : decode cX1_reckoned 92 = .ok (.iastore, 1) := by decide +kernel
theorem dX1_reckoned_93 : decode cX1_reckoned 93 = .ok (.iinc 3 1, 3) := by decide +kernel
theorem dX1_reckoned_96 : decode cX1_reckoned 96 = .ok (.goto (-68), 3) := by decide +kernel
theorem dX1_reckoned_99 : decode cX1_reckoned 99 = .ok (.aload_n 0, 1) := by decide +kernel
theorem dX1_reckoned_100 : decode cX1_reckoned 100 = .ok (.getfield 18, 3) := by decide +kernel
theorem dX1_reckoned_103 : decode cX1_reckoned 103 = .ok (.iload_n 2, 1) := by decide +kernel
theorem dX1_reckoned_104 : decode cX1_reckoned 104 = .ok (.iaload, 1) := by decide +kernel
theorem dX1_reckoned_105 : decode cX1_reckoned 105 = .ok (.ireturn, 1) := by decide +kernel
theorem dX1_outIsStep_0 : decode cX1_outIsStep 0 = .ok (.iconst 0, 1) := by decide +kernel
theorem dX1_outIsStep_1 : decode cX1_outIsStep 1 = .ok (.istore_n 2, 1) := by decide +kernel
theorem dX1_outIsStep_2 : decode cX1_outIsStep 2 = .ok (.iload_n 2, 1) := by decide +kernel
theorem dX1_outIsStep_3 : decode cX1_outIsStep 3 = .ok (.iconst 1, 1) := by decide +kernel
theorem dX1_outIsStep_4 : decode cX1_outIsStep 4 = .ok (.iadd, 1) := by decide +kernel
theorem dX1_outIsStep_5 : decode cX1_outIsStep 5 = .ok (.iload_n 1, 1) := by decide +kernel
theorem dX1_outIsStep_6 : decode cX1_outIsStep 6 = .ok (.if_icmp .ge 28, 3) := by decide +kernel
theorem dX1_outIsStep_9 : decode cX1_outIsStep 9 = .ok (.aload_n 0, 1) := by decide +kernel
theorem dX1_outIsStep_10 : decode cX1_outIsStep 10 = .ok (.getfield 15, 3) := by decide +kernel
theorem dX1_outIsStep_13 : decode cX1_outIsStep 13 = .ok (.iload_n 2, 1) := by decide +kernel
theorem dX1_outIsStep_14 : decode cX1_outIsStep 14 = .ok (.iaload, 1) := by decide +kernel
theorem dX1_outIsStep_15 : decode cX1_outIsStep 15 = .ok (.aload_n 0, 1) := by decide +kernel
theorem dX1_outIsStep_16 : decode cX1_outIsStep 16 = .ok (.getfield 15, 3) := by decide +kernel
theorem dX1_outIsStep_19 : decode cX1_outIsStep 19 = .ok (.iload_n 2, 1) := by decide +kernel
theorem dX1_outIsStep_20 : decode cX1_outIsStep 20 = .ok (.iconst 1, 1) := by decide +kernel
theorem dX1_outIsStep_21 : decode cX1_outIsStep 21 = .ok (.iadd, 1) := by decide +kernel
theorem dX1_outIsStep_22 : decode cX1_outIsStep 22 = .ok (.iaload, 1) := by decide +kernel
theorem dX1_outIsStep_23 : decode cX1_outIsStep 23 = .ok (.if_icmp .ge 5, 3) := by decide +kernel
theorem dX1_outIsStep_26 : decode cX1_outIsStep 26 = .ok (.iconst 0, 1) := by decide +kernel
theorem dX1_outIsStep_27 : decode cX1_outIsStep 27 = .ok (.ireturn, 1) := by decide +kernel
theorem dX1_outIsStep_28 : decode cX1_outIsStep 28 = .ok (.iinc 2 1, 3) := by decide +kernel
theorem dX1_outIsStep_31 : decode cX1_outIsStep 31 = .ok (.goto (-29), 3) := by decide +kernel
theorem dX1_outIsStep_34 : decode cX1_outIsStep 34 = .ok (.aload_n 0, 1) := by decide +kernel
theorem dX1_outIsStep_35 : decode cX1_outIsStep 35 = .ok (.getfield 15, 3) := by decide +kernel
theorem dX1_outIsStep_38 : decode cX1_outIsStep 38 = .ok (.iconst 0, 1) := by decide +kernel
theorem dX1_outIsStep_39 : decode cX1_outIsStep 39 = .ok (.iaload, 1) := by decide +kernel
theorem dX1_outIsStep_40 : decode cX1_outIsStep 40 = .ok (.aload_n 0, 1) := by decide +kernel
theorem dX1_outIsStep_41 : decode cX1_outIsStep 41 = .ok (.getfield 15, 3) := by decide +kernel
theorem dX1_outIsStep_44 : decode cX1_outIsStep 44 = .ok (.iload_n 1, 1) := by decide +kernel
theorem dX1_outIsStep_45 : decode cX1_outIsStep 45 = .ok (.iconst 1, 1) := by decide +kernel
theorem dX1_outIsStep_46 : decode cX1_outIsStep 46 = .ok (.isub, 1) := by decide +kernel
theorem dX1_outIsStep_47 : decode cX1_outIsStep 47 = .ok (.iaload, 1) := by decide +kernel
theorem dX1_outIsStep_48 : decode cX1_outIsStep 48 = .ok (.isub, 1) := by decide +kernel
theorem dX1_outIsStep_49 : decode cX1_outIsStep 49 = .ok (.iconst 1, 1) := by decide +kernel
theorem dX1_outIsStep_50 : decode cX1_outIsStep 50 = .ok (.if_icmp .gt 7, 3) := by decide +kernel
theorem dX1_outIsStep_53 : decode cX1_outIsStep 53 = .ok (.iconst 1, 1) := by decide +kernel
theorem dX1_outIsStep_54 : decode cX1_outIsStep 54 = .ok (.goto 4, 3) := by decide +kernel
theorem dX1_outIsStep_57 : decode cX1_outIsStep 57 = .ok (.iconst 0, 1) := by decide +kernel
theorem dX1_outIsStep_58 : decode cX1_outIsStep 58 = .ok (.ireturn, 1) := by decide +kernel
theorem dX2_init_0 : decode cX2_init 0 = .ok (.aload_n 0, 1) := by decide +kernel
theorem dX2_init_1 : decode cX2_init 1 = .ok (.invokespecial 3, 3) := by decide +kernel
theorem dX2_init_4 : decode cX2_init 4 = .ok (.aload_n 0, 1) := by decide +kernel
theorem dX2_init_5 : decode cX2_init 5 = .ok (.bipush 64, 2) := by decide +kernel
theorem dX2_init_7 : decode cX2_init 7 = .ok (.newarray .int, 2) := by decide +kernel
theorem dX2_init_9 : decode cX2_init 9 = .ok (.putfield 9, 3) := by decide +kernel
theorem dX2_init_12 : decode cX2_init 12 = .ok (.return_, 1) := by decide +kernel
theorem dX2_countOf_0 : decode cX2_countOf 0 = .ok (.iconst 1, 1) := by decide +kernel
theorem dX2_countOf_1 : decode cX2_countOf 1 = .ok (.iload 5, 2) := by decide +kernel
theorem dX2_countOf_3 : decode cX2_countOf 3 = .ok (.ishl, 1) := by decide +kernel
theorem dX2_countOf_4 : decode cX2_countOf 4 = .ok (.iconst 1, 1) := by decide +kernel
theorem dX2_countOf_5 : decode cX2_countOf 5 = .ok (.isub, 1) := by decide +kernel
theorem dX2_countOf_6 : decode cX2_countOf 6 = .ok (.istore 6, 2) := by decide +kernel
theorem dX2_countOf_8 : decode cX2_countOf 8 = .ok (.aload_n 0, 1) := by decide +kernel
theorem dX2_countOf_9 : decode cX2_countOf 9 = .ok (.getfield 9, 3) := by decide +kernel
theorem dX2_countOf_12 : decode cX2_countOf 12 = .ok (.iconst 0, 1) := by decide +kernel
theorem dX2_countOf_13 : decode cX2_countOf 13 = .ok (.iconst 1, 1) := by decide +kernel
theorem dX2_countOf_14 : decode cX2_countOf 14 = .ok (.iastore, 1) := by decide +kernel
theorem dX2_countOf_15 : decode cX2_countOf 15 = .ok (.iconst 1, 1) := by decide +kernel
theorem dX2_countOf_16 : decode cX2_countOf 16 = .ok (.istore 7, 2) := by decide +kernel
theorem dX2_countOf_18 : decode cX2_countOf 18 = .ok (.iload 7, 2) := by decide +kernel
theorem dX2_countOf_20 : decode cX2_countOf 20 = .ok (.iload 6, 2) := by decide +kernel
theorem dX2_countOf_22 : decode cX2_countOf 22 = .ok (.if_icmp .gt 40, 3) := by decide +kernel
theorem dX2_countOf_25 : decode cX2_countOf 25 = .ok (.aload_n 0, 1) := by decide +kernel
theorem dX2_countOf_26 : decode cX2_countOf 26 = .ok (.getfield 9, 3) := by decide +kernel
theorem dX2_countOf_29 : decode cX2_countOf 29 = .ok (.iload 7, 2) := by decide +kernel
theorem dX2_countOf_31 : decode cX2_countOf 31 = .ok (.lload_n 1, 1) := by decide +kernel
theorem dX2_countOf_32 : decode cX2_countOf 32 = .ok (.iload 7, 2) := by decide +kernel
theorem dX2_countOf_34 : decode cX2_countOf 34 = .ok (.lushr, 1) := by decide +kernel
theorem dX2_countOf_35 : decode cX2_countOf 35 = .ok (.lconst 1, 1) := by decide +kernel
theorem dX2_countOf_36 : decode cX2_countOf 36 = .ok (.land, 1) := by decide +kernel
theorem dX2_countOf_37 : decode cX2_countOf 37 = .ok (.lconst 0, 1) := by decide +kernel
theorem dX2_countOf_38 : decode cX2_countOf 38 = .ok (.lcmp, 1) := by decide +kernel
theorem dX2_countOf_39 : decode cX2_countOf 39 = .ok (.ifCond .ne 7, 3) := by decide +kernel
theorem dX2_countOf_42 : decode cX2_countOf 42 = .ok (.iconst 0, 1) := by decide +kernel
theorem dX2_countOf_43 : decode cX2_countOf 43 = .ok (.goto 12, 3) := by decide +kernel
theorem dX2_countOf_46 : decode cX2_countOf 46 = .ok (.aload_n 0, 1) := by decide +kernel
theorem dX2_countOf_47 : decode cX2_countOf 47 = .ok (.iload 7, 2) := by decide +kernel
theorem dX2_countOf_49 : decode cX2_countOf 49 = .ok (.lload_n 3, 1) := by decide +kernel
theorem dX2_countOf_50 : decode cX2_countOf 50 = .ok (.iload 5, 2) := by decide +kernel
theorem dX2_countOf_52 : decode cX2_countOf 52 = .ok (.invokevirtual 15, 3) := by decide +kernel
theorem dX2_countOf_55 : decode cX2_countOf 55 = .ok (.iastore, 1) := by decide +kernel
theorem dX2_countOf_56 : decode cX2_countOf 56 = .ok (.iinc 7 1, 3) := by decide +kernel
theorem dX2_countOf_59 : decode cX2_countOf 59 = .ok (.goto (-41), 3) := by decide +kernel
theorem dX2_countOf_62 : decode cX2_countOf 62 = .ok (.aload_n 0, 1) := by decide +kernel
theorem dX2_countOf_63 : decode cX2_countOf 63 = .ok (.getfield 9, 3) := by decide +kernel
theorem dX2_countOf_66 : decode cX2_countOf 66 = .ok (.iload 6, 2) := by decide +kernel
theorem dX2_countOf_68 : decode cX2_countOf 68 = .ok (.iaload, 1) := by decide +kernel
theorem dX2_countOf_69 : decode cX2_countOf 69 = .ok (.ireturn, 1) := by decide +kernel
theorem dX2_waysTo_0 : decode cX2_waysTo 0 = .ok (.iconst 0, 1) := by decide +kernel
theorem dX2_waysTo_1 : decode cX2_waysTo 1 = .ok (.istore 5, 2) := by decide +kernel
theorem dX2_waysTo_3 : decode cX2_waysTo 3 = .ok (.iconst 0, 1) := by decide +kernel
theorem dX2_waysTo_4 : decode cX2_waysTo 4 = .ok (.istore 6, 2) := by decide +kernel
theorem dX2_waysTo_6 : decode cX2_waysTo 6 = .ok (.iload 6, 2) := by decide +kernel
theorem dX2_waysTo_8 : decode cX2_waysTo 8 = .ok (.iload 4, 2) := by decide +kernel
theorem dX2_waysTo_10 : decode cX2_waysTo 10 = .ok (.if_icmp .ge 60, 3) := by decide +kernel
theorem dX2_waysTo_13 : decode cX2_waysTo 13 = .ok (.iload_n 1, 1) := by decide +kernel
theorem dX2_waysTo_14 : decode cX2_waysTo 14 = .ok (.iconst 1, 1) := by decide +kernel
theorem dX2_waysTo_15 : decode cX2_waysTo 15 = .ok (.iload 6, 2) := by decide +kernel
theorem dX2_waysTo_17 : decode cX2_waysTo 17 = .ok (.ishl, 1) := by decide +kernel
theorem dX2_waysTo_18 : decode cX2_waysTo 18 = .ok (.iconst (-1), 1) := by decide +kernel
theorem dX2_waysTo_19 : decode cX2_waysTo 19 = .ok (.ixor, 1) := by decide +kernel
theorem dX2_waysTo_20 : decode cX2_waysTo 20 = .ok (.iand, 1) := by decide +kernel
theorem dX2_waysTo_21 : decode cX2_waysTo 21 = .ok (.istore 7, 2) := by decide +kernel
theorem dX2_waysTo_23 : decode cX2_waysTo 23 = .ok (.lload_n 2, 1) := by decide +kernel
theorem dX2_waysTo_24 : decode cX2_waysTo 24 = .ok (.bipush 6, 2) := by decide +kernel
theorem dX2_waysTo_26 : decode cX2_waysTo 26 = .ok (.iload 6, 2) := by decide +kernel
theorem dX2_waysTo_28 : decode cX2_waysTo 28 = .ok (.imul, 1) := by decide +kernel
theorem dX2_waysTo_29 : decode cX2_waysTo 29 = .ok (.lushr, 1) := by decide +kernel
theorem dX2_waysTo_30 : decode cX2_waysTo 30 = .ok (.l2i, 1) := by decide +kernel
theorem dX2_waysTo_31 : decode cX2_waysTo 31 = .ok (.bipush 63, 2) := by decide +kernel
theorem dX2_waysTo_33 : decode cX2_waysTo 33 = .ok (.iand, 1) := by decide +kernel
theorem dX2_waysTo_34 : decode cX2_waysTo 34 = .ok (.istore 8, 2) := by decide +kernel
theorem dX2_waysTo_36 : decode cX2_waysTo 36 = .ok (.iload 7, 2) := by decide +kernel
theorem dX2_waysTo_38 : decode cX2_waysTo 38 = .ok (.iload_n 1, 1) := by decide +kernel
theorem dX2_waysTo_39 : decode cX2_waysTo 39 = .ok (.if_icmp .eq 25, 3) := by decide +kernel
theorem dX2_waysTo_42 : decode cX2_waysTo 42 = .ok (.iload 8, 2) := by decide +kernel
theorem dX2_waysTo_44 : decode cX2_waysTo 44 = .ok (.iload 7, 2) := by decide +kernel
theorem dX2_waysTo_46 : decode cX2_waysTo 46 = .ok (.iconst (-1), 1) := by decide +kernel
theorem dX2_waysTo_47 : decode cX2_waysTo 47 = .ok (.ixor, 1) := by decide +kernel
theorem dX2_waysTo_48 : decode cX2_waysTo 48 = .ok (.iand, 1) := by decide +kernel
theorem dX2_waysTo_49 : decode cX2_waysTo 49 = .ok (.ifCond .ne 15, 3) := by decide +kernel
theorem dX2_waysTo_52 : decode cX2_waysTo 52 = .ok (.iload 5, 2) := by decide +kernel
theorem dX2_waysTo_54 : decode cX2_waysTo 54 = .ok (.aload_n 0, 1) := by decide +kernel
theorem dX2_waysTo_55 : decode cX2_waysTo 55 = .ok (.getfield 9, 3) := by decide +kernel
theorem dX2_waysTo_58 : decode cX2_waysTo 58 = .ok (.iload 7, 2) := by decide +kernel
theorem dX2_waysTo_60 : decode cX2_waysTo 60 = .ok (.iaload, 1) := by decide +kernel
theorem dX2_waysTo_61 : decode cX2_waysTo 61 = .ok (.iadd, 1) := by decide +kernel
theorem dX2_waysTo_62 : decode cX2_waysTo 62 = .ok (.istore 5, 2) := by decide +kernel
theorem dX2_waysTo_64 : decode cX2_waysTo 64 = .ok (.iinc 6 1, 3) := by decide +kernel
theorem dX2_waysTo_67 : decode cX2_waysTo 67 = .ok (.goto (-61), 3) := by decide +kernel
theorem dX2_waysTo_70 : decode cX2_waysTo 70 = .ok (.iload 5, 2) := by decide +kernel
theorem dX2_waysTo_72 : decode cX2_waysTo 72 = .ok (.ireturn, 1) := by decide +kernel
theorem dX3_init_0 : decode cX3_init 0 = .ok (.aload_n 0, 1) := by decide +kernel
theorem dX3_init_1 : decode cX3_init 1 = .ok (.invokespecial 3, 3) := by decide +kernel
theorem dX3_init_4 : decode cX3_init 4 = .ok (.aload_n 0, 1) := by decide +kernel
theorem dX3_init_5 : decode cX3_init 5 = .ok (.bipush 72, 2) := by decide +kernel
theorem dX3_init_7 : decode cX3_init 7 = .ok (.newarray .long, 2) := by decide +kernel
theorem dX3_init_9 : decode cX3_init 9 = .ok (.putfield 9, 3) := by decide +kernel
theorem dX3_init_12 : decode cX3_init 12 = .ok (.aload_n 0, 1) := by decide +kernel
theorem dX3_init_13 : decode cX3_init 13 = .ok (.iconst 0, 1) := by decide +kernel
theorem dX3_init_14 : decode cX3_init 14 = .ok (.putfield 15, 3) := by decide +kernel
theorem dX3_init_17 : decode cX3_init 17 = .ok (.return_, 1) := by decide +kernel
theorem dX3_countHidden_0 : decode cX3_countHidden 0 = .ok (.iconst 0, 1) := by decide +kernel
theorem dX3_countHidden_1 : decode cX3_countHidden 1 = .ok (.istore 5, 2) := by decide +kernel
theorem dX3_countHidden_3 : decode cX3_countHidden 3 = .ok (.iconst 0, 1) := by decide +kernel
theorem dX3_countHidden_4 : decode cX3_countHidden 4 = .ok (.istore 6, 2) := by decide +kernel
theorem dX3_countHidden_6 : decode cX3_countHidden 6 = .ok (.iload 6, 2) := by decide +kernel
theorem dX3_countHidden_8 : decode cX3_countHidden 8 = .ok (.aload_n 2, 1) := by decide +kernel
theorem dX3_countHidden_9 : decode cX3_countHidden 9 = .ok (.getfield 19, 3) := by decide +kernel
theorem dX3_countHidden_12 : decode cX3_countHidden 12 = .ok (.if_icmp .ge 43, 3) := by decide +kernel
theorem dX3_countHidden_15 : decode cX3_countHidden 15 = .ok (.iconst 0, 1) := by decide +kernel
theorem dX3_countHidden_16 : decode cX3_countHidden 16 = .ok (.istore 7, 2) := by decide +kernel
theorem dX3_countHidden_18 : decode cX3_countHidden 18 = .ok (.iload 7, 2) := by decide +kernel
theorem dX3_countHidden_20 : decode cX3_countHidden 20 = .ok (.iconst 2, 1) := by decide +kernel
theorem dX3_countHidden_21 : decode cX3_countHidden 21 = .ok (.if_icmp .gt 28, 3) := by decide +kernel
theorem dX3_countHidden_24 : decode cX3_countHidden 24 = .ok (.aload_n 1, 1) := by decide +kernel
theorem dX3_countHidden_25 : decode cX3_countHidden 25 = .ok (.aload_n 2, 1) := by decide +kernel
theorem dX3_countHidden_26 : decode cX3_countHidden 26 = .ok (.iload 6, 2) := by decide +kernel
theorem dX3_countHidden_28 : decode cX3_countHidden 28 = .ok (.iload 7, 2) := by decide +kernel
theorem dX3_countHidden_30 : decode cX3_countHidden 30 = .ok (.invokevirtual 22, 3) := by decide +kernel
theorem dX3_countHidden_33 : decode cX3_countHidden 33 = .ok (.lload_n 3, 1) := by decide +kernel
theorem dX3_countHidden_34 : decode cX3_countHidden 34 = .ok (.land, 1) := by decide +kernel
theorem dX3_countHidden_35 : decode cX3_countHidden 35 = .ok (.lconst 0, 1) := by decide +kernel
theorem dX3_countHidden_36 : decode cX3_countHidden 36 = .ok (.lcmp, 1) := by decide +kernel
theorem dX3_countHidden_37 : decode cX3_countHidden 37 = .ok (.ifCond .ne 6, 3) := by decide +kernel
theorem dX3_countHidden_40 : decode cX3_countHidden 40 = .ok (.iinc 5 1, 3) := by decide +kernel
theorem dX3_countHidden_43 : decode cX3_countHidden 43 = .ok (.iinc 7 1, 3) := by decide +kernel
theorem dX3_countHidden_46 : decode cX3_countHidden 46 = .ok (.goto (-28), 3) := by decide +kernel
theorem dX3_countHidden_49 : decode cX3_countHidden 49 = .ok (.iinc 6 1, 3) := by decide +kernel
theorem dX3_countHidden_52 : decode cX3_countHidden 52 = .ok (.goto (-46), 3) := by decide +kernel
theorem dX3_countHidden_55 : decode cX3_countHidden 55 = .ok (.iload 5, 2) := by decide +kernel
theorem dX3_countHidden_57 : decode cX3_countHidden 57 = .ok (.ireturn, 1) := by decide +kernel
theorem dX3_fewestRows_0 : decode cX3_fewestRows 0 = .ok (.aload_n 0, 1) := by decide +kernel
theorem dX3_fewestRows_1 : decode cX3_fewestRows 1 = .ok (.iconst 0, 1) := by decide +kernel
theorem dX3_fewestRows_2 : decode cX3_fewestRows 2 = .ok (.putfield 15, 3) := by decide +kernel
theorem dX3_fewestRows_5 : decode cX3_fewestRows 5 = .ok (.iconst 0, 1) := by decide +kernel
theorem dX3_fewestRows_6 : decode cX3_fewestRows 6 = .ok (.istore_n 3, 1) := by decide +kernel
theorem dX3_fewestRows_7 : decode cX3_fewestRows 7 = .ok (.iload_n 3, 1) := by decide +kernel
theorem dX3_fewestRows_8 : decode cX3_fewestRows 8 = .ok (.aload_n 2, 1) := by decide +kernel
theorem dX3_fewestRows_9 : decode cX3_fewestRows 9 = .ok (.getfield 19, 3) := by decide +kernel
theorem dX3_fewestRows_12 : decode cX3_fewestRows 12 = .ok (.if_icmp .ge 36, 3) := by decide +kernel
theorem dX3_fewestRows_15 : decode cX3_fewestRows 15 = .ok (.iconst 0, 1) := by decide +kernel
theorem dX3_fewestRows_16 : decode cX3_fewestRows 16 = .ok (.istore 4, 2) := by decide +kernel
theorem dX3_fewestRows_18 : decode cX3_fewestRows 18 = .ok (.iload 4, 2) := by decide +kernel
theorem dX3_fewestRows_20 : decode cX3_fewestRows 20 = .ok (.iconst 2, 1) := by decide +kernel
theorem dX3_fewestRows_21 : decode cX3_fewestRows 21 = .ok (.if_icmp .gt 21, 3) := by decide +kernel
theorem dX3_fewestRows_24 : decode cX3_fewestRows 24 = .ok (.aload_n 0, 1) := by decide +kernel
theorem dX3_fewestRows_25 : decode cX3_fewestRows 25 = .ok (.aload_n 1, 1) := by decide +kernel
theorem dX3_fewestRows_26 : decode cX3_fewestRows 26 = .ok (.aload_n 2, 1) := by decide +kernel
theorem dX3_fewestRows_27 : decode cX3_fewestRows 27 = .ok (.iload_n 3, 1) := by decide +kernel
theorem dX3_fewestRows_28 : decode cX3_fewestRows 28 = .ok (.iload 4, 2) := by decide +kernel
theorem dX3_fewestRows_30 : decode cX3_fewestRows 30 = .ok (.invokevirtual 22, 3) := by decide +kernel
theorem dX3_fewestRows_33 : decode cX3_fewestRows 33 = .ok (.invokevirtual 28, 3) := by decide +kernel
theorem dX3_fewestRows_36 : decode cX3_fewestRows 36 = .ok (.iinc 4 1, 3) := by decide +kernel
theorem dX3_fewestRows_39 : decode cX3_fewestRows 39 = .ok (.goto (-21), 3) := by decide +kernel
theorem dX3_fewestRows_42 : decode cX3_fewestRows 42 = .ok (.iinc 3 1, 3) := by decide +kernel
theorem dX3_fewestRows_45 : decode cX3_fewestRows 45 = .ok (.goto (-38), 3) := by decide +kernel
theorem dX3_fewestRows_48 : decode cX3_fewestRows 48 = .ok (.iconst 0, 1) := by decide +kernel
theorem dX3_fewestRows_49 : decode cX3_fewestRows 49 = .ok (.istore_n 3, 1) := by decide +kernel
theorem dX3_fewestRows_50 : decode cX3_fewestRows 50 = .ok (.iload_n 3, 1) := by decide +kernel
theorem dX3_fewestRows_51 : decode cX3_fewestRows 51 = .ok (.iconst 4, 1) := by decide +kernel
theorem dX3_fewestRows_52 : decode cX3_fewestRows 52 = .ok (.if_icmp .gt 28, 3) := by decide +kernel
theorem dX3_fewestRows_55 : decode cX3_fewestRows 55 = .ok (.aload_n 0, 1) := by decide +kernel
theorem dX3_fewestRows_56 : decode cX3_fewestRows 56 = .ok (.getfield 9, 3) := by decide +kernel
theorem dX3_fewestRows_59 : decode cX3_fewestRows 59 = .ok (.aload_n 0, 1) := by decide +kernel
theorem dX3_fewestRows_60 : decode cX3_fewestRows 60 = .ok (.getfield 15, 3) := by decide +kernel
theorem dX3_fewestRows_63 : decode cX3_fewestRows 63 = .ok (.lconst 0, 1) := by decide +kernel
theorem dX3_fewestRows_64 : decode cX3_fewestRows 64 = .ok (.lconst 0, 1) := by decide +kernel
theorem dX3_fewestRows_65 : decode cX3_fewestRows 65 = .ok (.iload_n 3, 1) := by decide +kernel
theorem dX3_fewestRows_66 : decode cX3_fewestRows 66 = .ok (.invokestatic 32, 3) := by decide +kernel
theorem dX3_fewestRows_69 : decode cX3_fewestRows 69 = .ok (.ifCond .eq 5, 3) := by decide +kernel
theorem dX3_fewestRows_72 : decode cX3_fewestRows 72 = .ok (.iload_n 3, 1) := by decide +kernel
theorem dX3_fewestRows_73 : decode cX3_fewestRows 73 = .ok (.ireturn, 1) := by decide +kernel
theorem dX3_fewestRows_74 : decode cX3_fewestRows 74 = .ok (.iinc 3 1, 3) := by decide +kernel
theorem dX3_fewestRows_77 : decode cX3_fewestRows 77 = .ok (.goto (-27), 3) := by decide +kernel
theorem dX3_fewestRows_80 : decode cX3_fewestRows 80 = .ok (.iconst (-1), 1) := by decide +kernel
theorem dX3_fewestRows_81 : decode cX3_fewestRows 81 = .ok (.ireturn, 1) := by decide +kernel
theorem dX3_keep_0 : decode cX3_keep 0 = .ok (.lload_n 1, 1) := by decide +kernel
theorem dX3_keep_1 : decode cX3_keep 1 = .ok (.lconst 0, 1) := by decide +kernel
theorem dX3_keep_2 : decode cX3_keep 2 = .ok (.lcmp, 1) := by decide +kernel
theorem dX3_keep_3 : decode cX3_keep 3 = .ok (.ifCond .ne 4, 3) := by decide +kernel
theorem dX3_keep_6 : decode cX3_keep 6 = .ok (.return_, 1) := by decide +kernel
theorem dX3_keep_7 : decode cX3_keep 7 = .ok (.iconst 0, 1) := by decide +kernel
theorem dX3_keep_8 : decode cX3_keep 8 = .ok (.istore_n 3, 1) := by decide +kernel
theorem dX3_keep_9 : decode cX3_keep 9 = .ok (.iconst 0, 1) := by decide +kernel
theorem dX3_keep_10 : decode cX3_keep 10 = .ok (.istore 4, 2) := by decide +kernel
theorem dX3_keep_12 : decode cX3_keep 12 = .ok (.iload 4, 2) := by decide +kernel
theorem dX3_keep_14 : decode cX3_keep 14 = .ok (.aload_n 0, 1) := by decide +kernel
theorem dX3_keep_15 : decode cX3_keep 15 = .ok (.getfield 15, 3) := by decide +kernel
theorem dX3_keep_18 : decode cX3_keep 18 = .ok (.if_icmp .ge 28, 3) := by decide +kernel
theorem dX3_keep_21 : decode cX3_keep 21 = .ok (.aload_n 0, 1) := by decide +kernel
theorem dX3_keep_22 : decode cX3_keep 22 = .ok (.getfield 9, 3) := by decide +kernel
theorem dX3_keep_25 : decode cX3_keep 25 = .ok (.iload 4, 2) := by decide +kernel
theorem dX3_keep_27 : decode cX3_keep 27 = .ok (.laload, 1) := by decide +kernel
theorem dX3_keep_28 : decode cX3_keep 28 = .ok (.lload_n 1, 1) := by decide +kernel
theorem dX3_keep_29 : decode cX3_keep 29 = .ok (.ldc2_w 36, 3) := by decide +kernel
theorem dX3_keep_32 : decode cX3_keep 32 = .ok (.lxor, 1) := by decide +kernel
theorem dX3_keep_33 : decode cX3_keep 33 = .ok (.land, 1) := by decide +kernel
theorem dX3_keep_34 : decode cX3_keep 34 = .ok (.lconst 0, 1) := by decide +kernel
theorem dX3_keep_35 : decode cX3_keep 35 = .ok (.lcmp, 1) := by decide +kernel
theorem dX3_keep_36 : decode cX3_keep 36 = .ok (.ifCond .ne 4, 3) := by decide +kernel
theorem dX3_keep_39 : decode cX3_keep 39 = .ok (.return_, 1) := by decide +kernel
theorem dX3_keep_40 : decode cX3_keep 40 = .ok (.iinc 4 1, 3) := by decide +kernel
theorem dX3_keep_43 : decode cX3_keep 43 = .ok (.goto (-31), 3) := by decide +kernel
theorem dX3_keep_46 : decode cX3_keep 46 = .ok (.iconst 0, 1) := by decide +kernel
theorem dX3_keep_47 : decode cX3_keep 47 = .ok (.istore 4, 2) := by decide +kernel
theorem dX3_keep_49 : decode cX3_keep 49 = .ok (.iload 4, 2) := by decide +kernel
theorem dX3_keep_51 : decode cX3_keep 51 = .ok (.aload_n 0, 1) := by decide +kernel
theorem dX3_keep_52 : decode cX3_keep 52 = .ok (.getfield 15, 3) := by decide +kernel
theorem dX3_keep_55 : decode cX3_keep 55 = .ok (.if_icmp .ge 43, 3) := by decide +kernel
theorem dX3_keep_58 : decode cX3_keep 58 = .ok (.lload_n 1, 1) := by decide +kernel
theorem dX3_keep_59 : decode cX3_keep 59 = .ok (.aload_n 0, 1) := by decide +kernel
theorem dX3_keep_60 : decode cX3_keep 60 = .ok (.getfield 9, 3) := by decide +kernel
theorem dX3_keep_63 : decode cX3_keep 63 = .ok (.iload 4, 2) := by decide +kernel
theorem dX3_keep_65 : decode cX3_keep 65 = .ok (.laload, 1) := by decide +kernel
theorem dX3_keep_66 : decode cX3_keep 66 = .ok (.ldc2_w 36, 3) := by decide +kernel
theorem dX3_keep_69 : decode cX3_keep 69 = .ok (.lxor, 1) := by decide +kernel
theorem dX3_keep_70 : decode cX3_keep 70 = .ok (.land, 1) := by decide +kernel
theorem dX3_keep_71 : decode cX3_keep 71 = .ok (.lconst 0, 1) := by decide +kernel
theorem dX3_keep_72 : decode cX3_keep 72 = .ok (.lcmp, 1) := by decide +kernel
theorem dX3_keep_73 : decode cX3_keep 73 = .ok (.ifCond .eq 19, 3) := by decide +kernel
theorem dX3_keep_76 : decode cX3_keep 76 = .ok (.aload_n 0, 1) := by decide +kernel
theorem dX3_keep_77 : decode cX3_keep 77 = .ok (.getfield 9, 3) := by decide +kernel
theorem dX3_keep_80 : decode cX3_keep 80 = .ok (.iload_n 3, 1) := by decide +kernel
theorem dX3_keep_81 : decode cX3_keep 81 = .ok (.aload_n 0, 1) := by decide +kernel
theorem dX3_keep_82 : decode cX3_keep 82 = .ok (.getfield 9, 3) := by decide +kernel
theorem dX3_keep_85 : decode cX3_keep 85 = .ok (.iload 4, 2) := by decide +kernel
theorem dX3_keep_87 : decode cX3_keep 87 = .ok (.laload, 1) := by decide +kernel
theorem dX3_keep_88 : decode cX3_keep 88 = .ok (.lastore, 1) := by decide +kernel
theorem dX3_keep_89 : decode cX3_keep 89 = .ok (.iinc 3 1, 3) := by decide +kernel
theorem dX3_keep_92 : decode cX3_keep 92 = .ok (.iinc 4 1, 3) := by decide +kernel
theorem dX3_keep_95 : decode cX3_keep 95 = .ok (.goto (-46), 3) := by decide +kernel
theorem dX3_keep_98 : decode cX3_keep 98 = .ok (.iload_n 3, 1) := by decide +kernel
theorem dX3_keep_99 : decode cX3_keep 99 = .ok (.aload_n 0, 1) := by decide +kernel
theorem dX3_keep_100 : decode cX3_keep 100 = .ok (.getfield 9, 3) := by decide +kernel
theorem dX3_keep_103 : decode cX3_keep 103 = .ok (.arraylength, 1) := by decide +kernel
theorem dX3_keep_104 : decode cX3_keep 104 = .ok (.if_icmp .ge 17, 3) := by decide +kernel
theorem dX3_keep_107 : decode cX3_keep 107 = .ok (.aload_n 0, 1) := by decide +kernel
theorem dX3_keep_108 : decode cX3_keep 108 = .ok (.getfield 9, 3) := by decide +kernel
theorem dX3_keep_111 : decode cX3_keep 111 = .ok (.iload_n 3, 1) := by decide +kernel
theorem dX3_keep_112 : decode cX3_keep 112 = .ok (.lload_n 1, 1) := by decide +kernel
theorem dX3_keep_113 : decode cX3_keep 113 = .ok (.lastore, 1) := by decide +kernel
theorem dX3_keep_114 : decode cX3_keep 114 = .ok (.aload_n 0, 1) := by decide +kernel
theorem dX3_keep_115 : decode cX3_keep 115 = .ok (.iload_n 3, 1) := by decide +kernel
theorem dX3_keep_116 : decode cX3_keep 116 = .ok (.iconst 1, 1) := by decide +kernel
theorem dX3_keep_117 : decode cX3_keep 117 = .ok (.iadd, 1) := by decide +kernel
theorem dX3_keep_118 : decode cX3_keep 118 = .ok (.putfield 15, 3) := by decide +kernel
theorem dX3_keep_121 : decode cX3_keep 121 = .ok (.return_, 1) := by decide +kernel
theorem dX3_canTell_0 : decode cX3_canTell 0 = .ok (.ldc2_w 36, 3) := by decide +kernel
theorem dX3_canTell_3 : decode cX3_canTell 3 = .ok (.lstore 7, 2) := by decide +kernel
theorem dX3_canTell_5 : decode cX3_canTell 5 = .ok (.lconst 0, 1) := by decide +kernel
theorem dX3_canTell_6 : decode cX3_canTell 6 = .ok (.lstore 9, 2) := by decide +kernel
theorem dX3_canTell_8 : decode cX3_canTell 8 = .ok (.bipush 65, 2) := by decide +kernel
theorem dX3_canTell_10 : decode cX3_canTell 10 = .ok (.istore 11, 2) := by decide +kernel
theorem dX3_canTell_12 : decode cX3_canTell 12 = .ok (.iconst 0, 1) := by decide +kernel
theorem dX3_canTell_13 : decode cX3_canTell 13 = .ok (.istore 12, 2) := by decide +kernel
theorem dX3_canTell_15 : decode cX3_canTell 15 = .ok (.iload 12, 2) := by decide +kernel
theorem dX3_canTell_17 : decode cX3_canTell 17 = .ok (.iload_n 1, 1) := by decide +kernel
theorem dX3_canTell_18 : decode cX3_canTell 18 = .ok (.if_icmp .ge 61, 3) := by decide +kernel
theorem dX3_canTell_21 : decode cX3_canTell 21 = .ok (.aload_n 0, 1) := by decide +kernel
theorem dX3_canTell_22 : decode cX3_canTell 22 = .ok (.iload 12, 2) := by decide +kernel
theorem dX3_canTell_24 : decode cX3_canTell 24 = .ok (.laload, 1) := by decide +kernel
theorem dX3_canTell_25 : decode cX3_canTell 25 = .ok (.lload_n 2, 1) := by decide +kernel
theorem dX3_canTell_26 : decode cX3_canTell 26 = .ok (.land, 1) := by decide +kernel
theorem dX3_canTell_27 : decode cX3_canTell 27 = .ok (.lconst 0, 1) := by decide +kernel
theorem dX3_canTell_28 : decode cX3_canTell 28 = .ok (.lcmp, 1) := by decide +kernel
theorem dX3_canTell_29 : decode cX3_canTell 29 = .ok (.ifCond .ne 44, 3) := by decide +kernel
theorem dX3_canTell_32 : decode cX3_canTell 32 = .ok (.aload_n 0, 1) := by decide +kernel
theorem dX3_canTell_33 : decode cX3_canTell 33 = .ok (.iload 12, 2) := by decide +kernel
theorem dX3_canTell_35 : decode cX3_canTell 35 = .ok (.laload, 1) := by decide +kernel
theorem dX3_canTell_36 : decode cX3_canTell 36 = .ok (.lload 4, 2) := by decide +kernel
theorem dX3_canTell_38 : decode cX3_canTell 38 = .ok (.ldc2_w 36, 3) := by decide +kernel
theorem dX3_canTell_41 : decode cX3_canTell 41 = .ok (.lxor, 1) := by decide +kernel
theorem dX3_canTell_42 : decode cX3_canTell 42 = .ok (.land, 1) := by decide +kernel
theorem dX3_canTell_43 : decode cX3_canTell 43 = .ok (.lstore 13, 2) := by decide +kernel
theorem dX3_canTell_45 : decode cX3_canTell 45 = .ok (.lload 7, 2) := by decide +kernel
theorem dX3_canTell_47 : decode cX3_canTell 47 = .ok (.lload 13, 2) := by decide +kernel
theorem dX3_canTell_49 : decode cX3_canTell 49 = .ok (.land, 1) := by decide +kernel
theorem dX3_canTell_50 : decode cX3_canTell 50 = .ok (.lstore 7, 2) := by decide +kernel
theorem dX3_canTell_52 : decode cX3_canTell 52 = .ok (.lload 13, 2) := by decide +kernel
theorem dX3_canTell_54 : decode cX3_canTell 54 = .ok (.invokestatic 38, 3) := by decide +kernel
theorem dX3_canTell_57 : decode cX3_canTell 57 = .ok (.iload 11, 2) := by decide +kernel
theorem dX3_canTell_59 : decode cX3_canTell 59 = .ok (.if_icmp .ge 14, 3) := by decide +kernel
theorem dX3_canTell_62 : decode cX3_canTell 62 = .ok (.lload 13, 2) := by decide +kernel
theorem dX3_canTell_64 : decode cX3_canTell 64 = .ok (.invokestatic 38, 3) := by decide +kernel
theorem dX3_canTell_67 : decode cX3_canTell 67 = .ok (.istore 11, 2) := by decide +kernel
theorem dX3_canTell_69 : decode cX3_canTell 69 = .ok (.lload 13, 2) := by decide +kernel
theorem dX3_canTell_71 : decode cX3_canTell 71 = .ok (.lstore 9, 2) := by decide +kernel
theorem dX3_canTell_73 : decode cX3_canTell 73 = .ok (.iinc 12 1, 3) := by decide +kernel
theorem dX3_canTell_76 : decode cX3_canTell 76 = .ok (.goto (-61), 3) := by decide +kernel
theorem dX3_canTell_79 : decode cX3_canTell 79 = .ok (.iload 11, 2) := by decide +kernel
theorem dX3_canTell_81 : decode cX3_canTell 81 = .ok (.bipush 65, 2) := by decide +kernel
theorem dX3_canTell_83 : decode cX3_canTell 83 = .ok (.if_icmp .ne 5, 3) := by decide +kernel
theorem dX3_canTell_86 : decode cX3_canTell 86 = .ok (.iconst 1, 1) := by decide +kernel
theorem dX3_canTell_87 : decode cX3_canTell 87 = .ok (.ireturn, 1) := by decide +kernel
theorem dX3_canTell_88 : decode cX3_canTell 88 = .ok (.iload 6, 2) := by decide +kernel
theorem dX3_canTell_90 : decode cX3_canTell 90 = .ok (.iconst 1, 1) := by decide +kernel
theorem dX3_canTell_91 : decode cX3_canTell 91 = .ok (.if_icmp .gt 22, 3) := by decide +kernel
theorem dX3_canTell_94 : decode cX3_canTell 94 = .ok (.iload 6, 2) := by decide +kernel
theorem dX3_canTell_96 : decode cX3_canTell 96 = .ok (.iconst 1, 1) := by decide +kernel
theorem dX3_canTell_97 : decode cX3_canTell 97 = .ok (.if_icmp .ne 14, 3) := by decide +kernel
theorem dX3_canTell_100 : decode cX3_canTell 100 = .ok (.lload 7, 2) := by decide +kernel
theorem dX3_canTell_102 : decode cX3_canTell 102 = .ok (.lconst 0, 1) := by decide +kernel
theorem dX3_canTell_103 : decode cX3_canTell 103 = .ok (.lcmp, 1) := by decide +kernel
theorem dX3_canTell_104 : decode cX3_canTell 104 = .ok (.ifCond .eq 7, 3) := by decide +kernel
theorem dX3_canTell_107 : decode cX3_canTell 107 = .ok (.iconst 1, 1) := by decide +kernel
theorem dX3_canTell_108 : decode cX3_canTell 108 = .ok (.goto 4, 3) := by decide +kernel
theorem dX3_canTell_111 : decode cX3_canTell 111 = .ok (.iconst 0, 1) := by decide +kernel
theorem dX3_canTell_112 : decode cX3_canTell 112 = .ok (.ireturn, 1) := by decide +kernel
theorem dX3_canTell_113 : decode cX3_canTell 113 = .ok (.lload 4, 2) := by decide +kernel
theorem dX3_canTell_115 : decode cX3_canTell 115 = .ok (.lstore 12, 2) := by decide +kernel
theorem dX3_canTell_117 : decode cX3_canTell 117 = .ok (.iconst 0, 1) := by decide +kernel
theorem dX3_canTell_118 : decode cX3_canTell 118 = .ok (.istore 14, 2) := by decide +kernel
theorem dX3_canTell_120 : decode cX3_canTell 120 = .ok (.iload 14, 2) := by decide +kernel
theorem dX3_canTell_122 : decode cX3_canTell 122 = .ok (.bipush 64, 2) := by decide +kernel
theorem dX3_canTell_124 : decode cX3_canTell 124 = .ok (.if_icmp .ge 52, 3) := by decide +kernel
theorem dX3_canTell_127 : decode cX3_canTell 127 = .ok (.lconst 1, 1) := by decide +kernel
theorem dX3_canTell_128 : decode cX3_canTell 128 = .ok (.iload 14, 2) := by decide +kernel
theorem dX3_canTell_130 : decode cX3_canTell 130 = .ok (.lshl, 1) := by decide +kernel
theorem dX3_canTell_131 : decode cX3_canTell 131 = .ok (.lstore 15, 2) := by decide +kernel
theorem dX3_canTell_133 : decode cX3_canTell 133 = .ok (.lload 9, 2) := by decide +kernel
theorem dX3_canTell_135 : decode cX3_canTell 135 = .ok (.lload 15, 2) := by decide +kernel
theorem dX3_canTell_137 : decode cX3_canTell 137 = .ok (.land, 1) := by decide +kernel
theorem dX3_canTell_138 : decode cX3_canTell 138 = .ok (.lconst 0, 1) := by decide +kernel
theorem dX3_canTell_139 : decode cX3_canTell 139 = .ok (.lcmp, 1) := by decide +kernel
theorem dX3_canTell_140 : decode cX3_canTell 140 = .ok (.ifCond .eq 30, 3) := by decide +kernel
theorem dX3_canTell_143 : decode cX3_canTell 143 = .ok (.aload_n 0, 1) := by decide +kernel
theorem dX3_canTell_144 : decode cX3_canTell 144 = .ok (.iload_n 1, 1) := by decide +kernel
theorem dX3_canTell_145 : decode cX3_canTell 145 = .ok (.lload_n 2, 1) := by decide +kernel
theorem dX3_canTell_146 : decode cX3_canTell 146 = .ok (.lload 15, 2) := by decide +kernel
theorem dX3_canTell_148 : decode cX3_canTell 148 = .ok (.lor, 1) := by decide +kernel
theorem dX3_canTell_149 : decode cX3_canTell 149 = .ok (.lload 12, 2) := by decide +kernel
theorem dX3_canTell_151 : decode cX3_canTell 151 = .ok (.iload 6, 2) := by decide +kernel
theorem dX3_canTell_153 : decode cX3_canTell 153 = .ok (.iconst 1, 1) := by decide +kernel
theorem dX3_canTell_154 : decode cX3_canTell 154 = .ok (.isub, 1) := by decide +kernel
theorem dX3_canTell_155 : decode cX3_canTell 155 = .ok (.invokestatic 32, 3) := by decide +kernel
theorem dX3_canTell_158 : decode cX3_canTell 158 = .ok (.ifCond .eq 5, 3) := by decide +kernel
theorem dX3_canTell_161 : decode cX3_canTell 161 = .ok (.iconst 1, 1) := by decide +kernel
theorem dX3_canTell_162 : decode cX3_canTell 162 = .ok (.ireturn, 1) := by decide +kernel
theorem dX3_canTell_163 : decode cX3_canTell 163 = .ok (.lload 12, 2) := by decide +kernel
theorem dX3_canTell_165 : decode cX3_canTell 165 = .ok (.lload 15, 2) := by decide +kernel
theorem dX3_canTell_167 : decode cX3_canTell 167 = .ok (.lor, 1) := by decide +kernel
theorem dX3_canTell_168 : decode cX3_canTell 168 = .ok (.lstore 12, 2) := by decide +kernel
theorem dX3_canTell_170 : decode cX3_canTell 170 = .ok (.iinc 14 1, 3) := by decide +kernel
theorem dX3_canTell_173 : decode cX3_canTell 173 = .ok (.goto (-53), 3) := by decide +kernel
theorem dX3_canTell_176 : decode cX3_canTell 176 = .ok (.iconst 0, 1) := by decide +kernel
theorem dX3_canTell_177 : decode cX3_canTell 177 = .ok (.ireturn, 1) := by decide +kernel
theorem dX4_init_0 : decode cX4_init 0 = .ok (.aload_n 0, 1) := by decide +kernel
theorem dX4_init_1 : decode cX4_init 1 = .ok (.invokespecial 3, 3) := by decide +kernel
theorem dX4_init_4 : decode cX4_init 4 = .ok (.aload_n 0, 1) := by decide +kernel
theorem dX4_init_5 : decode cX4_init 5 = .ok (.bipush 6, 2) := by decide +kernel
theorem dX4_init_7 : decode cX4_init 7 = .ok (.newarray .long, 2) := by decide +kernel
theorem dX4_init_9 : decode cX4_init 9 = .ok (.putfield 9, 3) := by decide +kernel
theorem dX4_init_12 : decode cX4_init 12 = .ok (.aload_n 0, 1) := by decide +kernel
theorem dX4_init_13 : decode cX4_init 13 = .ok (.bipush 6, 2) := by decide +kernel
theorem dX4_init_15 : decode cX4_init 15 = .ok (.newarray .long, 2) := by decide +kernel
theorem dX4_init_17 : decode cX4_init 17 = .ok (.putfield 15, 3) := by decide +kernel
theorem dX4_init_20 : decode cX4_init 20 = .ok (.aload_n 0, 1) := by decide +kernel
theorem dX4_init_21 : decode cX4_init 21 = .ok (.new 18, 3) := by decide +kernel
theorem dX4_init_24 : decode cX4_init 24 = .ok (.dup, 1) := by decide +kernel
theorem dX4_init_25 : decode cX4_init 25 = .ok (.invokespecial 20, 3) := by decide +kernel
theorem dX4_init_28 : decode cX4_init 28 = .ok (.putfield 21, 3) := by decide +kernel
theorem dX4_init_31 : decode cX4_init 31 = .ok (.return_, 1) := by decide +kernel
theorem dX4_allRows_0 : decode cX4_allRows 0 = .ok (.iload_n 0, 1) := by decide +kernel
theorem dX4_allRows_1 : decode cX4_allRows 1 = .ok (.bipush 6, 2) := by decide +kernel
theorem dX4_allRows_3 : decode cX4_allRows 3 = .ok (.if_icmp .lt 9, 3) := by decide +kernel
theorem dX4_allRows_6 : decode cX4_allRows 6 = .ok (.ldc2_w 25, 3) := by decide +kernel
theorem dX4_allRows_9 : decode cX4_allRows 9 = .ok (.goto 10, 3) := by decide +kernel
theorem dX4_allRows_12 : decode cX4_allRows 12 = .ok (.lconst 1, 1) := by decide +kernel
theorem dX4_allRows_13 : decode cX4_allRows 13 = .ok (.iconst 1, 1) := by decide +kernel
theorem dX4_allRows_14 : decode cX4_allRows 14 = .ok (.iload_n 0, 1) := by decide +kernel
theorem dX4_allRows_15 : decode cX4_allRows 15 = .ok (.ishl, 1) := by decide +kernel
theorem dX4_allRows_16 : decode cX4_allRows 16 = .ok (.lshl, 1) := by decide +kernel
theorem dX4_allRows_17 : decode cX4_allRows 17 = .ok (.lconst 1, 1) := by decide +kernel
theorem dX4_allRows_18 : decode cX4_allRows 18 = .ok (.lsub, 1) := by decide +kernel
theorem dX4_allRows_19 : decode cX4_allRows 19 = .ok (.lreturn, 1) := by decide +kernel
theorem dX4_bringIn_0 : decode cX4_bringIn 0 = .ok (.iconst 0, 1) := by decide +kernel
theorem dX4_bringIn_1 : decode cX4_bringIn 1 = .ok (.istore_n 2, 1) := by decide +kernel
theorem dX4_bringIn_2 : decode cX4_bringIn 2 = .ok (.iload_n 2, 1) := by decide +kernel
theorem dX4_bringIn_3 : decode cX4_bringIn 3 = .ok (.iload_n 1, 1) := by decide +kernel
theorem dX4_bringIn_4 : decode cX4_bringIn 4 = .ok (.if_icmp .ge 22, 3) := by decide +kernel
theorem dX4_bringIn_7 : decode cX4_bringIn 7 = .ok (.aload_n 0, 1) := by decide +kernel
theorem dX4_bringIn_8 : decode cX4_bringIn 8 = .ok (.iload_n 2, 1) := by decide +kernel
theorem dX4_bringIn_9 : decode cX4_bringIn 9 = .ok (.getstatic 27, 3) := by decide +kernel
theorem dX4_bringIn_12 : decode cX4_bringIn 12 = .ok (.iload_n 2, 1) := by decide +kernel
theorem dX4_bringIn_13 : decode cX4_bringIn 13 = .ok (.laload, 1) := by decide +kernel
theorem dX4_bringIn_14 : decode cX4_bringIn 14 = .ok (.iload_n 1, 1) := by decide +kernel
theorem dX4_bringIn_15 : decode cX4_bringIn 15 = .ok (.invokestatic 30, 3) := by decide +kernel
theorem dX4_bringIn_18 : decode cX4_bringIn 18 = .ok (.land, 1) := by decide +kernel
theorem dX4_bringIn_19 : decode cX4_bringIn 19 = .ok (.lastore, 1) := by decide +kernel
theorem dX4_bringIn_20 : decode cX4_bringIn 20 = .ok (.iinc 2 1, 3) := by decide +kernel
theorem dX4_bringIn_23 : decode cX4_bringIn 23 = .ok (.goto (-21), 3) := by decide +kernel
theorem dX4_bringIn_26 : decode cX4_bringIn 26 = .ok (.return_, 1) := by decide +kernel
theorem dX4_compare_0 : decode cX4_compare 0 = .ok (.aload_n 0, 1) := by decide +kernel
theorem dX4_compare_1 : decode cX4_compare 1 = .ok (.iload_n 1, 1) := by decide +kernel
theorem dX4_compare_2 : decode cX4_compare 2 = .ok (.laload, 1) := by decide +kernel
theorem dX4_compare_3 : decode cX4_compare 3 = .ok (.lstore_n 3, 1) := by decide +kernel
theorem dX4_compare_4 : decode cX4_compare 4 = .ok (.aload_n 0, 1) := by decide +kernel
theorem dX4_compare_5 : decode cX4_compare 5 = .ok (.iload_n 2, 1) := by decide +kernel
theorem dX4_compare_6 : decode cX4_compare 6 = .ok (.laload, 1) := by decide +kernel
theorem dX4_compare_7 : decode cX4_compare 7 = .ok (.lstore 5, 2) := by decide +kernel
theorem dX4_compare_9 : decode cX4_compare 9 = .ok (.aload_n 0, 1) := by decide +kernel
theorem dX4_compare_10 : decode cX4_compare 10 = .ok (.iload_n 1, 1) := by decide +kernel
theorem dX4_compare_11 : decode cX4_compare 11 = .ok (.lload_n 3, 1) := by decide +kernel
theorem dX4_compare_12 : decode cX4_compare 12 = .ok (.lload 5, 2) := by decide +kernel
theorem dX4_compare_14 : decode cX4_compare 14 = .ok (.land, 1) := by decide +kernel
theorem dX4_compare_15 : decode cX4_compare 15 = .ok (.lastore, 1) := by decide +kernel
theorem dX4_compare_16 : decode cX4_compare 16 = .ok (.aload_n 0, 1) := by decide +kernel
theorem dX4_compare_17 : decode cX4_compare 17 = .ok (.iload_n 2, 1) := by decide +kernel
theorem dX4_compare_18 : decode cX4_compare 18 = .ok (.lload_n 3, 1) := by decide +kernel
theorem dX4_compare_19 : decode cX4_compare 19 = .ok (.lload 5, 2) := by decide +kernel
theorem dX4_compare_21 : decode cX4_compare 21 = .ok (.lor, 1) := by decide +kernel
theorem dX4_compare_22 : decode cX4_compare 22 = .ok (.lastore, 1) := by decide +kernel
theorem dX4_compare_23 : decode cX4_compare 23 = .ok (.return_, 1) := by decide +kernel
theorem dX4_compareBadly_0 : decode cX4_compareBadly 0 = .ok (.aload_n 0, 1) := by decide +kernel
theorem dX4_compareBadly_1 : decode cX4_compareBadly 1 = .ok (.iload_n 1, 1) := by decide +kernel
theorem dX4_compareBadly_2 : decode cX4_compareBadly 2 = .ok (.laload, 1) := by decide +kernel
theorem dX4_compareBadly_3 : decode cX4_compareBadly 3 = .ok (.lstore 4, 2) := by decide +kernel
theorem dX4_compareBadly_5 : decode cX4_compareBadly 5 = .ok (.aload_n 0, 1) := by decide +kernel
theorem dX4_compareBadly_6 : decode cX4_compareBadly 6 = .ok (.iload_n 2, 1) := by decide +kernel
theorem dX4_compareBadly_7 : decode cX4_compareBadly 7 = .ok (.laload, 1) := by decide +kernel
theorem dX4_compareBadly_8 : decode cX4_compareBadly 8 = .ok (.lstore 6, 2) := by decide +kernel
theorem dX4_compareBadly_10 : decode cX4_compareBadly 10 = .ok (.iload_n 3, 1) := by decide +kernel
theorem dX4_compareBadly_11 : decode cX4_compareBadly 11 = .ok (.iconst 1, 1) := by decide +kernel
theorem dX4_compareBadly_12 : decode cX4_compareBadly 12 = .ok (.if_icmp .ne 16, 3) := by decide +kernel
theorem dX4_compareBadly_15 : decode cX4_compareBadly 15 = .ok (.aload_n 0, 1) := by decide +kernel
theorem dX4_compareBadly_16 : decode cX4_compareBadly 16 = .ok (.iload_n 1, 1) := by decide +kernel
theorem dX4_compareBadly_17 : decode cX4_compareBadly 17 = .ok (.lload 6, 2) := by decide +kernel
theorem dX4_compareBadly_19 : decode cX4_compareBadly 19 = .ok (.lastore, 1) := by decide +kernel
theorem dX4_compareBadly_20 : decode cX4_compareBadly 20 = .ok (.aload_n 0, 1) := by decide +kernel
theorem dX4_compareBadly_21 : decode cX4_compareBadly 21 = .ok (.iload_n 2, 1) := by decide +kernel
theorem dX4_compareBadly_22 : decode cX4_compareBadly 22 = .ok (.lload 4, 2) := by decide +kernel
theorem dX4_compareBadly_24 : decode cX4_compareBadly 24 = .ok (.lastore, 1) := by decide +kernel
theorem dX4_compareBadly_25 : decode cX4_compareBadly 25 = .ok (.goto 24, 3) := by decide +kernel
theorem dX4_compareBadly_28 : decode cX4_compareBadly 28 = .ok (.iload_n 3, 1) := by decide +kernel
theorem dX4_compareBadly_29 : decode cX4_compareBadly 29 = .ok (.iconst 2, 1) := by decide +kernel
theorem dX4_compareBadly_30 : decode cX4_compareBadly 30 = .ok (.if_icmp .ne 19, 3) := by decide +kernel
theorem dX4_compareBadly_33 : decode cX4_compareBadly 33 = .ok (.aload_n 0, 1) := by decide +kernel
theorem dX4_compareBadly_34 : decode cX4_compareBadly 34 = .ok (.iload_n 1, 1) := by decide +kernel
theorem dX4_compareBadly_35 : decode cX4_compareBadly 35 = .ok (.lload 4, 2) := by decide +kernel
theorem dX4_compareBadly_37 : decode cX4_compareBadly 37 = .ok (.lload 6, 2) := by decide +kernel
theorem dX4_compareBadly_39 : decode cX4_compareBadly 39 = .ok (.lor, 1) := by decide +kernel
theorem dX4_compareBadly_40 : decode cX4_compareBadly 40 = .ok (.lastore, 1) := by decide +kernel
theorem dX4_compareBadly_41 : decode cX4_compareBadly 41 = .ok (.aload_n 0, 1) := by decide +kernel
theorem dX4_compareBadly_42 : decode cX4_compareBadly 42 = .ok (.iload_n 2, 1) := by decide +kernel
theorem dX4_compareBadly_43 : decode cX4_compareBadly 43 = .ok (.lload 4, 2) := by decide +kernel
theorem dX4_compareBadly_45 : decode cX4_compareBadly 45 = .ok (.lload 6, 2) := by decide +kernel
theorem dX4_compareBadly_47 : decode cX4_compareBadly 47 = .ok (.land, 1) := by decide +kernel
theorem dX4_compareBadly_48 : decode cX4_compareBadly 48 = .ok (.lastore, 1) := by decide +kernel
theorem dX4_compareBadly_49 : decode cX4_compareBadly 49 = .ok (.return_, 1) := by decide +kernel
theorem dX4_send_0 : decode cX4_send 0 = .ok (.aload_n 0, 1) := by decide +kernel
theorem dX4_send_1 : decode cX4_send 1 = .ok (.aload_n 1, 1) := by decide +kernel
theorem dX4_send_2 : decode cX4_send 2 = .ok (.getfield 34, 3) := by decide +kernel
theorem dX4_send_5 : decode cX4_send 5 = .ok (.invokestatic 40, 3) := by decide +kernel
theorem dX4_send_8 : decode cX4_send 8 = .ok (.iconst 0, 1) := by decide +kernel
theorem dX4_send_9 : decode cX4_send 9 = .ok (.istore_n 3, 1) := by decide +kernel
theorem dX4_send_10 : decode cX4_send 10 = .ok (.iload_n 3, 1) := by decide +kernel
theorem dX4_send_11 : decode cX4_send 11 = .ok (.iload_n 2, 1) := by decide +kernel
theorem dX4_send_12 : decode cX4_send 12 = .ok (.if_icmp .ge 25, 3) := by decide +kernel
theorem dX4_send_15 : decode cX4_send 15 = .ok (.aload_n 0, 1) := by decide +kernel
theorem dX4_send_16 : decode cX4_send 16 = .ok (.aload_n 1, 1) := by decide +kernel
theorem dX4_send_17 : decode cX4_send 17 = .ok (.getfield 44, 3) := by decide +kernel
theorem dX4_send_20 : decode cX4_send 20 = .ok (.iload_n 3, 1) := by decide +kernel
theorem dX4_send_21 : decode cX4_send 21 = .ok (.iaload, 1) := by decide +kernel
theorem dX4_send_22 : decode cX4_send 22 = .ok (.aload_n 1, 1) := by decide +kernel
theorem dX4_send_23 : decode cX4_send 23 = .ok (.getfield 48, 3) := by decide +kernel
theorem dX4_send_26 : decode cX4_send 26 = .ok (.iload_n 3, 1) := by decide +kernel
theorem dX4_send_27 : decode cX4_send 27 = .ok (.iaload, 1) := by decide +kernel
theorem dX4_send_28 : decode cX4_send 28 = .ok (.invokestatic 51, 3) := by decide +kernel
theorem dX4_send_31 : decode cX4_send 31 = .ok (.iinc 3 1, 3) := by decide +kernel
theorem dX4_send_34 : decode cX4_send 34 = .ok (.goto (-24), 3) := by decide +kernel
theorem dX4_send_37 : decode cX4_send 37 = .ok (.return_, 1) := by decide +kernel
theorem dX4_sendWith_0 : decode cX4_sendWith 0 = .ok (.aload_n 0, 1) := by decide +kernel
theorem dX4_sendWith_1 : decode cX4_sendWith 1 = .ok (.aload_n 1, 1) := by decide +kernel
theorem dX4_sendWith_2 : decode cX4_sendWith 2 = .ok (.iload_n 2, 1) := by decide +kernel
theorem dX4_sendWith_3 : decode cX4_sendWith 3 = .ok (.invokestatic 55, 3) := by decide +kernel
theorem dX4_sendWith_6 : decode cX4_sendWith 6 = .ok (.aload_n 0, 1) := by decide +kernel
theorem dX4_sendWith_7 : decode cX4_sendWith 7 = .ok (.aload_n 1, 1) := by decide +kernel
theorem dX4_sendWith_8 : decode cX4_sendWith 8 = .ok (.getfield 44, 3) := by decide +kernel
theorem dX4_sendWith_11 : decode cX4_sendWith 11 = .ok (.iload_n 2, 1) := by decide +kernel
theorem dX4_sendWith_12 : decode cX4_sendWith 12 = .ok (.iaload, 1) := by decide +kernel
theorem dX4_sendWith_13 : decode cX4_sendWith 13 = .ok (.aload_n 1, 1) := by decide +kernel
theorem dX4_sendWith_14 : decode cX4_sendWith 14 = .ok (.getfield 48, 3) := by decide +kernel
theorem dX4_sendWith_17 : decode cX4_sendWith 17 = .ok (.iload_n 2, 1) := by decide +kernel
theorem dX4_sendWith_18 : decode cX4_sendWith 18 = .ok (.iaload, 1) := by decide +kernel
theorem dX4_sendWith_19 : decode cX4_sendWith 19 = .ok (.iload_n 3, 1) := by decide +kernel
theorem dX4_sendWith_20 : decode cX4_sendWith 20 = .ok (.invokestatic 59, 3) := by decide +kernel
theorem dX4_sendWith_23 : decode cX4_sendWith 23 = .ok (.iload_n 2, 1) := by decide +kernel
theorem dX4_sendWith_24 : decode cX4_sendWith 24 = .ok (.iconst 1, 1) := by decide +kernel
theorem dX4_sendWith_25 : decode cX4_sendWith 25 = .ok (.iadd, 1) := by decide +kernel
theorem dX4_sendWith_26 : decode cX4_sendWith 26 = .ok (.istore 4, 2) := by decide +kernel
theorem dX4_sendWith_28 : decode cX4_sendWith 28 = .ok (.iload 4, 2) := by decide +kernel
theorem dX4_sendWith_30 : decode cX4_sendWith 30 = .ok (.aload_n 1, 1) := by decide +kernel
theorem dX4_sendWith_31 : decode cX4_sendWith 31 = .ok (.getfield 63, 3) := by decide +kernel
theorem dX4_sendWith_34 : decode cX4_sendWith 34 = .ok (.if_icmp .ge 27, 3) := by decide +kernel
theorem dX4_sendWith_37 : decode cX4_sendWith 37 = .ok (.aload_n 0, 1) := by decide +kernel
theorem dX4_sendWith_38 : decode cX4_sendWith 38 = .ok (.aload_n 1, 1) := by decide +kernel
theorem dX4_sendWith_39 : decode cX4_sendWith 39 = .ok (.getfield 44, 3) := by decide +kernel
theorem dX4_sendWith_42 : decode cX4_sendWith 42 = .ok (.iload 4, 2) := by decide +kernel
theorem dX4_sendWith_44 : decode cX4_sendWith 44 = .ok (.iaload, 1) := by decide +kernel
theorem dX4_sendWith_45 : decode cX4_sendWith 45 = .ok (.aload_n 1, 1) := by decide +kernel
theorem dX4_sendWith_46 : decode cX4_sendWith 46 = .ok (.getfield 48, 3) := by decide +kernel
theorem dX4_sendWith_49 : decode cX4_sendWith 49 = .ok (.iload 4, 2) := by decide +kernel
theorem dX4_sendWith_51 : decode cX4_sendWith 51 = .ok (.iaload, 1) := by decide +kernel
theorem dX4_sendWith_52 : decode cX4_sendWith 52 = .ok (.invokestatic 51, 3) := by decide +kernel
theorem dX4_sendWith_55 : decode cX4_sendWith 55 = .ok (.iinc 4 1, 3) := by decide +kernel
theorem dX4_sendWith_58 : decode cX4_sendWith 58 = .ok (.goto (-30), 3) := by decide +kernel
theorem dX4_sendWith_61 : decode cX4_sendWith 61 = .ok (.return_, 1) := by decide +kernel
theorem dX4_unsortedIn_0 : decode cX4_unsortedIn 0 = .ok (.lconst 0, 1) := by decide +kernel
theorem dX4_unsortedIn_1 : decode cX4_unsortedIn 1 = .ok (.lstore_n 2, 1) := by decide +kernel
theorem dX4_unsortedIn_2 : decode cX4_unsortedIn 2 = .ok (.iconst 0, 1) := by decide +kernel
theorem dX4_unsortedIn_3 : decode cX4_unsortedIn 3 = .ok (.istore 4, 2) := by decide +kernel
theorem dX4_unsortedIn_5 : decode cX4_unsortedIn 5 = .ok (.iload 4, 2) := by decide +kernel
theorem dX4_unsortedIn_7 : decode cX4_unsortedIn 7 = .ok (.iconst 1, 1) := by decide +kernel
theorem dX4_unsortedIn_8 : decode cX4_unsortedIn 8 = .ok (.iadd, 1) := by decide +kernel
theorem dX4_unsortedIn_9 : decode cX4_unsortedIn 9 = .ok (.iload_n 1, 1) := by decide +kernel
theorem dX4_unsortedIn_10 : decode cX4_unsortedIn 10 = .ok (.if_icmp .ge 27, 3) := by decide +kernel
theorem dX4_unsortedIn_13 : decode cX4_unsortedIn 13 = .ok (.lload_n 2, 1) := by decide +kernel
theorem dX4_unsortedIn_14 : decode cX4_unsortedIn 14 = .ok (.aload_n 0, 1) := by decide +kernel
theorem dX4_unsortedIn_15 : decode cX4_unsortedIn 15 = .ok (.iload 4, 2) := by decide +kernel
theorem dX4_unsortedIn_17 : decode cX4_unsortedIn 17 = .ok (.laload, 1) := by decide +kernel
theorem dX4_unsortedIn_18 : decode cX4_unsortedIn 18 = .ok (.aload_n 0, 1) := by decide +kernel
theorem dX4_unsortedIn_19 : decode cX4_unsortedIn 19 = .ok (.iload 4, 2) := by decide +kernel
theorem dX4_unsortedIn_21 : decode cX4_unsortedIn 21 = .ok (.iconst 1, 1) := by decide +kernel
theorem dX4_unsortedIn_22 : decode cX4_unsortedIn 22 = .ok (.iadd, 1) := by decide +kernel
theorem dX4_unsortedIn_23 : decode cX4_unsortedIn 23 = .ok (.laload, 1) := by decide +kernel
theorem dX4_unsortedIn_24 : decode cX4_unsortedIn 24 = .ok (.ldc2_w 25, 3) := by decide +kernel
theorem dX4_unsortedIn_27 : decode cX4_unsortedIn 27 = .ok (.lxor, 1) := by decide +kernel
theorem dX4_unsortedIn_28 : decode cX4_unsortedIn 28 = .ok (.land, 1) := by decide +kernel
theorem dX4_unsortedIn_29 : decode cX4_unsortedIn 29 = .ok (.lor, 1) := by decide +kernel
theorem dX4_unsortedIn_30 : decode cX4_unsortedIn 30 = .ok (.lstore_n 2, 1) := by decide +kernel
theorem dX4_unsortedIn_31 : decode cX4_unsortedIn 31 = .ok (.iinc 4 1, 3) := by decide +kernel
theorem dX4_unsortedIn_34 : decode cX4_unsortedIn 34 = .ok (.goto (-29), 3) := by decide +kernel
theorem dX4_unsortedIn_37 : decode cX4_unsortedIn 37 = .ok (.lload_n 2, 1) := by decide +kernel
theorem dX4_unsortedIn_38 : decode cX4_unsortedIn 38 = .ok (.lreturn, 1) := by decide +kernel
theorem dX4_rowIn_0 : decode cX4_rowIn 0 = .ok (.iconst 0, 1) := by decide +kernel
theorem dX4_rowIn_1 : decode cX4_rowIn 1 = .ok (.istore_n 3, 1) := by decide +kernel
theorem dX4_rowIn_2 : decode cX4_rowIn 2 = .ok (.iconst 0, 1) := by decide +kernel
theorem dX4_rowIn_3 : decode cX4_rowIn 3 = .ok (.istore 4, 2) := by decide +kernel
theorem dX4_rowIn_5 : decode cX4_rowIn 5 = .ok (.iload 4, 2) := by decide +kernel
theorem dX4_rowIn_7 : decode cX4_rowIn 7 = .ok (.bipush 64, 2) := by decide +kernel
theorem dX4_rowIn_9 : decode cX4_rowIn 9 = .ok (.if_icmp .ge 31, 3) := by decide +kernel
theorem dX4_rowIn_12 : decode cX4_rowIn 12 = .ok (.lload_n 0, 1) := by decide +kernel
theorem dX4_rowIn_13 : decode cX4_rowIn 13 = .ok (.iload 4, 2) := by decide +kernel
theorem dX4_rowIn_15 : decode cX4_rowIn 15 = .ok (.lushr, 1) := by decide +kernel
theorem dX4_rowIn_16 : decode cX4_rowIn 16 = .ok (.lconst 1, 1) := by decide +kernel
theorem dX4_rowIn_17 : decode cX4_rowIn 17 = .ok (.land, 1) := by decide +kernel
theorem dX4_rowIn_18 : decode cX4_rowIn 18 = .ok (.lconst 0, 1) := by decide +kernel
theorem dX4_rowIn_19 : decode cX4_rowIn 19 = .ok (.lcmp, 1) := by decide +kernel
theorem dX4_rowIn_20 : decode cX4_rowIn 20 = .ok (.ifCond .eq 14, 3) := by decide +kernel
theorem dX4_rowIn_23 : decode cX4_rowIn 23 = .ok (.iload_n 3, 1) := by decide +kernel
theorem dX4_rowIn_24 : decode cX4_rowIn 24 = .ok (.iload_n 2, 1) := by decide +kernel
theorem dX4_rowIn_25 : decode cX4_rowIn 25 = .ok (.if_icmp .ne 6, 3) := by decide +kernel
theorem dX4_rowIn_28 : decode cX4_rowIn 28 = .ok (.iload 4, 2) := by decide +kernel
theorem dX4_rowIn_30 : decode cX4_rowIn 30 = .ok (.ireturn, 1) := by decide +kernel
theorem dX4_rowIn_31 : decode cX4_rowIn 31 = .ok (.iinc 3 1, 3) := by decide +kernel
theorem dX4_rowIn_34 : decode cX4_rowIn 34 = .ok (.iinc 4 1, 3) := by decide +kernel
theorem dX4_rowIn_37 : decode cX4_rowIn 37 = .ok (.goto (-32), 3) := by decide +kernel
theorem dX4_rowIn_40 : decode cX4_rowIn 40 = .ok (.iconst (-1), 1) := by decide +kernel
theorem dX4_rowIn_41 : decode cX4_rowIn 41 = .ok (.ireturn, 1) := by decide +kernel
theorem dX4_unsortedFrom_0 : decode cX4_unsortedFrom 0 = .ok (.aload_n 0, 1) := by decide +kernel
theorem dX4_unsortedFrom_1 : decode cX4_unsortedFrom 1 = .ok (.getfield 9, 3) := by decide +kernel
theorem dX4_unsortedFrom_4 : decode cX4_unsortedFrom 4 = .ok (.aload_n 1, 1) := by decide +kernel
theorem dX4_unsortedFrom_5 : decode cX4_unsortedFrom 5 = .ok (.aload_n 1, 1) := by decide +kernel
theorem dX4_unsortedFrom_6 : decode cX4_unsortedFrom 6 = .ok (.getfield 63, 3) := by decide +kernel
theorem dX4_unsortedFrom_9 : decode cX4_unsortedFrom 9 = .ok (.invokestatic 55, 3) := by decide +kernel
theorem dX4_unsortedFrom_12 : decode cX4_unsortedFrom 12 = .ok (.aload_n 0, 1) := by decide +kernel
theorem dX4_unsortedFrom_13 : decode cX4_unsortedFrom 13 = .ok (.getfield 9, 3) := by decide +kernel
theorem dX4_unsortedFrom_16 : decode cX4_unsortedFrom 16 = .ok (.aload_n 1, 1) := by decide +kernel
theorem dX4_unsortedFrom_17 : decode cX4_unsortedFrom 17 = .ok (.getfield 34, 3) := by decide +kernel
theorem dX4_unsortedFrom_20 : decode cX4_unsortedFrom 20 = .ok (.invokestatic 66, 3) := by decide +kernel
theorem dX4_unsortedFrom_23 : decode cX4_unsortedFrom 23 = .ok (.lreturn, 1) := by decide +kernel
theorem dX4_unsortedWith_0 : decode cX4_unsortedWith 0 = .ok (.aload_n 0, 1) := by decide +kernel
theorem dX4_unsortedWith_1 : decode cX4_unsortedWith 1 = .ok (.getfield 9, 3) := by decide +kernel
theorem dX4_unsortedWith_4 : decode cX4_unsortedWith 4 = .ok (.aload_n 1, 1) := by decide +kernel
theorem dX4_unsortedWith_5 : decode cX4_unsortedWith 5 = .ok (.iload_n 2, 1) := by decide +kernel
theorem dX4_unsortedWith_6 : decode cX4_unsortedWith 6 = .ok (.iload_n 3, 1) := by decide +kernel
theorem dX4_unsortedWith_7 : decode cX4_unsortedWith 7 = .ok (.invokestatic 70, 3) := by decide +kernel
theorem dX4_unsortedWith_10 : decode cX4_unsortedWith 10 = .ok (.aload_n 0, 1) := by decide +kernel
theorem dX4_unsortedWith_11 : decode cX4_unsortedWith 11 = .ok (.getfield 9, 3) := by decide +kernel
theorem dX4_unsortedWith_14 : decode cX4_unsortedWith 14 = .ok (.aload_n 1, 1) := by decide +kernel
theorem dX4_unsortedWith_15 : decode cX4_unsortedWith 15 = .ok (.getfield 34, 3) := by decide +kernel
theorem dX4_unsortedWith_18 : decode cX4_unsortedWith 18 = .ok (.invokestatic 66, 3) := by decide +kernel
theorem dX4_unsortedWith_21 : decode cX4_unsortedWith 21 = .ok (.lreturn, 1) := by decide +kernel
theorem dX4_telling_0 : decode cX4_telling 0 = .ok (.aload_n 0, 1) := by decide +kernel
theorem dX4_telling_1 : decode cX4_telling 1 = .ok (.getfield 15, 3) := by decide +kernel
theorem dX4_telling_4 : decode cX4_telling 4 = .ok (.aload_n 1, 1) := by decide +kernel
theorem dX4_telling_5 : decode cX4_telling 5 = .ok (.aload_n 1, 1) := by decide +kernel
theorem dX4_telling_6 : decode cX4_telling 6 = .ok (.getfield 63, 3) := by decide +kernel
theorem dX4_telling_9 : decode cX4_telling 9 = .ok (.invokestatic 55, 3) := by decide +kernel
theorem dX4_telling_12 : decode cX4_telling 12 = .ok (.aload_n 0, 1) := by decide +kernel
theorem dX4_telling_13 : decode cX4_telling 13 = .ok (.getfield 9, 3) := by decide +kernel
theorem dX4_telling_16 : decode cX4_telling 16 = .ok (.aload_n 1, 1) := by decide +kernel
theorem dX4_telling_17 : decode cX4_telling 17 = .ok (.iload_n 2, 1) := by decide +kernel
theorem dX4_telling_18 : decode cX4_telling 18 = .ok (.iload_n 3, 1) := by decide +kernel
theorem dX4_telling_19 : decode cX4_telling 19 = .ok (.invokestatic 70, 3) := by decide +kernel
theorem dX4_telling_22 : decode cX4_telling 22 = .ok (.lconst 0, 1) := by decide +kernel
theorem dX4_telling_23 : decode cX4_telling 23 = .ok (.lstore 4, 2) := by decide +kernel
theorem dX4_telling_25 : decode cX4_telling 25 = .ok (.iconst 0, 1) := by decide +kernel
theorem dX4_telling_26 : decode cX4_telling 26 = .ok (.istore 6, 2) := by decide +kernel
theorem dX4_telling_28 : decode cX4_telling 28 = .ok (.iload 6, 2) := by decide +kernel
theorem dX4_telling_30 : decode cX4_telling 30 = .ok (.aload_n 1, 1) := by decide +kernel
theorem dX4_telling_31 : decode cX4_telling 31 = .ok (.getfield 34, 3) := by decide +kernel
theorem dX4_telling_34 : decode cX4_telling 34 = .ok (.if_icmp .ge 29, 3) := by decide +kernel
theorem dX4_telling_37 : decode cX4_telling 37 = .ok (.lload 4, 2) := by decide +kernel
theorem dX4_telling_39 : decode cX4_telling 39 = .ok (.aload_n 0, 1) := by decide +kernel
theorem dX4_telling_40 : decode cX4_telling 40 = .ok (.getfield 9, 3) := by decide +kernel
theorem dX4_telling_43 : decode cX4_telling 43 = .ok (.iload 6, 2) := by decide +kernel
theorem dX4_telling_45 : decode cX4_telling 45 = .ok (.laload, 1) := by decide +kernel
theorem dX4_telling_46 : decode cX4_telling 46 = .ok (.aload_n 0, 1) := by decide +kernel
theorem dX4_telling_47 : decode cX4_telling 47 = .ok (.getfield 15, 3) := by decide +kernel
theorem dX4_telling_50 : decode cX4_telling 50 = .ok (.iload 6, 2) := by decide +kernel
theorem dX4_telling_52 : decode cX4_telling 52 = .ok (.laload, 1) := by decide +kernel
theorem dX4_telling_53 : decode cX4_telling 53 = .ok (.lxor, 1) := by decide +kernel
theorem dX4_telling_54 : decode cX4_telling 54 = .ok (.lor, 1) := by decide +kernel
theorem dX4_telling_55 : decode cX4_telling 55 = .ok (.lstore 4, 2) := by decide +kernel
theorem dX4_telling_57 : decode cX4_telling 57 = .ok (.iinc 6 1, 3) := by decide +kernel
theorem dX4_telling_60 : decode cX4_telling 60 = .ok (.goto (-32), 3) := by decide +kernel
theorem dX4_telling_63 : decode cX4_telling 63 = .ok (.lload 4, 2) := by decide +kernel
theorem dX4_telling_65 : decode cX4_telling 65 = .ok (.lreturn, 1) := by decide +kernel
theorem dX4_exchanging_0 : decode cX4_exchanging 0 = .ok (.aload_n 0, 1) := by decide +kernel
theorem dX4_exchanging_1 : decode cX4_exchanging 1 = .ok (.getfield 9, 3) := by decide +kernel
theorem dX4_exchanging_4 : decode cX4_exchanging 4 = .ok (.aload_n 1, 1) := by decide +kernel
theorem dX4_exchanging_5 : decode cX4_exchanging 5 = .ok (.iload_n 2, 1) := by decide +kernel
theorem dX4_exchanging_6 : decode cX4_exchanging 6 = .ok (.invokestatic 55, 3) := by decide +kernel
theorem dX4_exchanging_9 : decode cX4_exchanging 9 = .ok (.aload_n 0, 1) := by decide +kernel
theorem dX4_exchanging_10 : decode cX4_exchanging 10 = .ok (.getfield 9, 3) := by decide +kernel
theorem dX4_exchanging_13 : decode cX4_exchanging 13 = .ok (.aload_n 1, 1) := by decide +kernel
theorem dX4_exchanging_14 : decode cX4_exchanging 14 = .ok (.getfield 44, 3) := by decide +kernel
theorem dX4_exchanging_17 : decode cX4_exchanging 17 = .ok (.iload_n 2, 1) := by decide +kernel
theorem dX4_exchanging_18 : decode cX4_exchanging 18 = .ok (.iaload, 1) := by decide +kernel
theorem dX4_exchanging_19 : decode cX4_exchanging 19 = .ok (.laload, 1) := by decide +kernel
theorem dX4_exchanging_20 : decode cX4_exchanging 20 = .ok (.aload_n 0, 1) := by decide +kernel
theorem dX4_exchanging_21 : decode cX4_exchanging 21 = .ok (.getfield 9, 3) := by decide +kernel
theorem dX4_exchanging_24 : decode cX4_exchanging 24 = .ok (.aload_n 1, 1) := by decide +kernel
theorem dX4_exchanging_25 : decode cX4_exchanging 25 = .ok (.getfield 48, 3) := by decide +kernel
theorem dX4_exchanging_28 : decode cX4_exchanging 28 = .ok (.iload_n 2, 1) := by decide +kernel
theorem dX4_exchanging_29 : decode cX4_exchanging 29 = .ok (.iaload, 1) := by decide +kernel
theorem dX4_exchanging_30 : decode cX4_exchanging 30 = .ok (.laload, 1) := by decide +kernel
theorem dX4_exchanging_31 : decode cX4_exchanging 31 = .ok (.ldc2_w 25, 3) := by decide +kernel
theorem dX4_exchanging_34 : decode cX4_exchanging 34 = .ok (.lxor, 1) := by decide +kernel
theorem dX4_exchanging_35 : decode cX4_exchanging 35 = .ok (.land, 1) := by decide +kernel
theorem dX4_exchanging_36 : decode cX4_exchanging 36 = .ok (.lreturn, 1) := by decide +kernel
theorem dX4_deadCount_0 : decode cX4_deadCount 0 = .ok (.iconst 0, 1) := by decide +kernel
theorem dX4_deadCount_1 : decode cX4_deadCount 1 = .ok (.istore_n 2, 1) := by decide +kernel
theorem dX4_deadCount_2 : decode cX4_deadCount 2 = .ok (.iconst 0, 1) := by decide +kernel
theorem dX4_deadCount_3 : decode cX4_deadCount 3 = .ok (.istore_n 3, 1) := by decide +kernel
theorem dX4_deadCount_4 : decode cX4_deadCount 4 = .ok (.iload_n 3, 1) := by decide +kernel
theorem dX4_deadCount_5 : decode cX4_deadCount 5 = .ok (.aload_n 1, 1) := by decide +kernel
theorem dX4_deadCount_6 : decode cX4_deadCount 6 = .ok (.getfield 63, 3) := by decide +kernel
theorem dX4_deadCount_9 : decode cX4_deadCount 9 = .ok (.if_icmp .ge 23, 3) := by decide +kernel
theorem dX4_deadCount_12 : decode cX4_deadCount 12 = .ok (.aload_n 0, 1) := by decide +kernel
theorem dX4_deadCount_13 : decode cX4_deadCount 13 = .ok (.aload_n 1, 1) := by decide +kernel
theorem dX4_deadCount_14 : decode cX4_deadCount 14 = .ok (.iload_n 3, 1) := by decide +kernel
theorem dX4_deadCount_15 : decode cX4_deadCount 15 = .ok (.invokevirtual 74, 3) := by decide +kernel
theorem dX4_deadCount_18 : decode cX4_deadCount 18 = .ok (.lconst 0, 1) := by decide +kernel
theorem dX4_deadCount_19 : decode cX4_deadCount 19 = .ok (.lcmp, 1) := by decide +kernel
theorem dX4_deadCount_20 : decode cX4_deadCount 20 = .ok (.ifCond .ne 6, 3) := by decide +kernel
theorem dX4_deadCount_23 : decode cX4_deadCount 23 = .ok (.iinc 2 1, 3) := by decide +kernel
theorem dX4_deadCount_26 : decode cX4_deadCount 26 = .ok (.iinc 3 1, 3) := by decide +kernel
theorem dX4_deadCount_29 : decode cX4_deadCount 29 = .ok (.goto (-25), 3) := by decide +kernel
theorem dX4_deadCount_32 : decode cX4_deadCount 32 = .ok (.iload_n 2, 1) := by decide +kernel
theorem dX4_deadCount_33 : decode cX4_deadCount 33 = .ok (.ireturn, 1) := by decide +kernel
theorem dX4_dropDead_0 : decode cX4_dropDead 0 = .ok (.aload_n 1, 1) := by decide +kernel
theorem dX4_dropDead_1 : decode cX4_dropDead 1 = .ok (.getfield 63, 3) := by decide +kernel
theorem dX4_dropDead_4 : decode cX4_dropDead 4 = .ok (.istore_n 2, 1) := by decide +kernel
theorem dX4_dropDead_5 : decode cX4_dropDead 5 = .ok (.aload_n 0, 1) := by decide +kernel
theorem dX4_dropDead_6 : decode cX4_dropDead 6 = .ok (.getfield 9, 3) := by decide +kernel
theorem dX4_dropDead_9 : decode cX4_dropDead 9 = .ok (.aload_n 1, 1) := by decide +kernel
theorem dX4_dropDead_10 : decode cX4_dropDead 10 = .ok (.getfield 34, 3) := by decide +kernel
theorem dX4_dropDead_13 : decode cX4_dropDead 13 = .ok (.invokestatic 40, 3) := by decide +kernel
theorem dX4_dropDead_16 : decode cX4_dropDead 16 = .ok (.aload_n 1, 1) := by decide +kernel
theorem dX4_dropDead_17 : decode cX4_dropDead 17 = .ok (.iconst 0, 1) := by decide +kernel
theorem dX4_dropDead_18 : decode cX4_dropDead 18 = .ok (.putfield 63, 3) := by decide +kernel
theorem dX4_dropDead_21 : decode cX4_dropDead 21 = .ok (.iconst 0, 1) := by decide +kernel
theorem dX4_dropDead_22 : decode cX4_dropDead 22 = .ok (.istore_n 3, 1) := by decide +kernel
theorem dX4_dropDead_23 : decode cX4_dropDead 23 = .ok (.iload_n 3, 1) := by decide +kernel
theorem dX4_dropDead_24 : decode cX4_dropDead 24 = .ok (.iload_n 2, 1) := by decide +kernel
theorem dX4_dropDead_25 : decode cX4_dropDead 25 = .ok (.if_icmp .ge 68, 3) := by decide +kernel
theorem dX4_dropDead_28 : decode cX4_dropDead 28 = .ok (.aload_n 1, 1) := by decide +kernel
theorem dX4_dropDead_29 : decode cX4_dropDead 29 = .ok (.getfield 44, 3) := by decide +kernel
theorem dX4_dropDead_32 : decode cX4_dropDead 32 = .ok (.iload_n 3, 1) := by decide +kernel
theorem dX4_dropDead_33 : decode cX4_dropDead 33 = .ok (.iaload, 1) := by decide +kernel
theorem dX4_dropDead_34 : decode cX4_dropDead 34 = .ok (.istore 4, 2) := by decide +kernel
theorem dX4_dropDead_36 : decode cX4_dropDead 36 = .ok (.aload_n 1, 1) := by decide +kernel
theorem dX4_dropDead_37 : decode cX4_dropDead 37 = .ok (.getfield 48, 3) := by decide +kernel
theorem dX4_dropDead_40 : decode cX4_dropDead 40 = .ok (.iload_n 3, 1) := by decide +kernel
theorem dX4_dropDead_41 : decode cX4_dropDead 41 = .ok (.iaload, 1) := by decide +kernel
theorem dX4_dropDead_42 : decode cX4_dropDead 42 = .ok (.istore 5, 2) := by decide +kernel
theorem dX4_dropDead_44 : decode cX4_dropDead 44 = .ok (.aload_n 0, 1) := by decide +kernel
theorem dX4_dropDead_45 : decode cX4_dropDead 45 = .ok (.getfield 9, 3) := by decide +kernel
theorem dX4_dropDead_48 : decode cX4_dropDead 48 = .ok (.iload 4, 2) := by decide +kernel
theorem dX4_dropDead_50 : decode cX4_dropDead 50 = .ok (.laload, 1) := by decide +kernel
theorem dX4_dropDead_51 : decode cX4_dropDead 51 = .ok (.aload_n 0, 1) := by decide +kernel
theorem dX4_dropDead_52 : decode cX4_dropDead 52 = .ok (.getfield 9, 3) := by decide +kernel
theorem dX4_dropDead_55 : decode cX4_dropDead 55 = .ok (.iload 5, 2) := by decide +kernel
theorem dX4_dropDead_57 : decode cX4_dropDead 57 = .ok (.laload, 1) := by decide +kernel
theorem dX4_dropDead_58 : decode cX4_dropDead 58 = .ok (.ldc2_w 25, 3) := by decide +kernel
theorem dX4_dropDead_61 : decode cX4_dropDead 61 = .ok (.lxor, 1) := by decide +kernel
theorem dX4_dropDead_62 : decode cX4_dropDead 62 = .ok (.land, 1) := by decide +kernel
theorem dX4_dropDead_63 : decode cX4_dropDead 63 = .ok (.lconst 0, 1) := by decide +kernel
theorem dX4_dropDead_64 : decode cX4_dropDead 64 = .ok (.lcmp, 1) := by decide +kernel
theorem dX4_dropDead_65 : decode cX4_dropDead 65 = .ok (.ifCond .eq 22, 3) := by decide +kernel
theorem dX4_dropDead_68 : decode cX4_dropDead 68 = .ok (.aload_n 0, 1) := by decide +kernel
theorem dX4_dropDead_69 : decode cX4_dropDead 69 = .ok (.getfield 9, 3) := by decide +kernel
theorem dX4_dropDead_72 : decode cX4_dropDead 72 = .ok (.iload 4, 2) := by decide +kernel
theorem dX4_dropDead_74 : decode cX4_dropDead 74 = .ok (.iload 5, 2) := by decide +kernel
theorem dX4_dropDead_76 : decode cX4_dropDead 76 = .ok (.invokestatic 51, 3) := by decide +kernel
theorem dX4_dropDead_79 : decode cX4_dropDead 79 = .ok (.aload_n 1, 1) := by decide +kernel
theorem dX4_dropDead_80 : decode cX4_dropDead 80 = .ok (.iload 4, 2) := by decide +kernel
theorem dX4_dropDead_82 : decode cX4_dropDead 82 = .ok (.iload 5, 2) := by decide +kernel
theorem dX4_dropDead_84 : decode cX4_dropDead 84 = .ok (.invokevirtual 78, 3) := by decide +kernel
theorem dX4_dropDead_87 : decode cX4_dropDead 87 = .ok (.iinc 3 1, 3) := by decide +kernel
theorem dX4_dropDead_90 : decode cX4_dropDead 90 = .ok (.goto (-67), 3) := by decide +kernel
theorem dX4_dropDead_93 : decode cX4_dropDead 93 = .ok (.iload_n 2, 1) := by decide +kernel
theorem dX4_dropDead_94 : decode cX4_dropDead 94 = .ok (.aload_n 1, 1) := by decide +kernel
theorem dX4_dropDead_95 : decode cX4_dropDead 95 = .ok (.getfield 63, 3) := by decide +kernel
theorem dX4_dropDead_98 : decode cX4_dropDead 98 = .ok (.isub, 1) := by decide +kernel
theorem dX4_dropDead_99 : decode cX4_dropDead 99 = .ok (.ireturn, 1) := by decide +kernel
theorem dX4_rowOutOf_0 : decode cX4_rowOutOf 0 = .ok (.iconst 0, 1) := by decide +kernel
theorem dX4_rowOutOf_1 : decode cX4_rowOutOf 1 = .ok (.istore_n 3, 1) := by decide +kernel
theorem dX4_rowOutOf_2 : decode cX4_rowOutOf 2 = .ok (.iconst 0, 1) := by decide +kernel
theorem dX4_rowOutOf_3 : decode cX4_rowOutOf 3 = .ok (.istore 4, 2) := by decide +kernel
theorem dX4_rowOutOf_5 : decode cX4_rowOutOf 5 = .ok (.iload 4, 2) := by decide +kernel
theorem dX4_rowOutOf_7 : decode cX4_rowOutOf 7 = .ok (.iload_n 2, 1) := by decide +kernel
theorem dX4_rowOutOf_8 : decode cX4_rowOutOf 8 = .ok (.if_icmp .ge 27, 3) := by decide +kernel
theorem dX4_rowOutOf_11 : decode cX4_rowOutOf 11 = .ok (.iload_n 3, 1) := by decide +kernel
theorem dX4_rowOutOf_12 : decode cX4_rowOutOf 12 = .ok (.aload_n 0, 1) := by decide +kernel
theorem dX4_rowOutOf_13 : decode cX4_rowOutOf 13 = .ok (.getfield 9, 3) := by decide +kernel
theorem dX4_rowOutOf_16 : decode cX4_rowOutOf 16 = .ok (.iload 4, 2) := by decide +kernel
theorem dX4_rowOutOf_18 : decode cX4_rowOutOf 18 = .ok (.laload, 1) := by decide +kernel
theorem dX4_rowOutOf_19 : decode cX4_rowOutOf 19 = .ok (.iload_n 1, 1) := by decide +kernel
theorem dX4_rowOutOf_20 : decode cX4_rowOutOf 20 = .ok (.lushr, 1) := by decide +kernel
theorem dX4_rowOutOf_21 : decode cX4_rowOutOf 21 = .ok (.lconst 1, 1) := by decide +kernel
theorem dX4_rowOutOf_22 : decode cX4_rowOutOf 22 = .ok (.land, 1) := by decide +kernel
theorem dX4_rowOutOf_23 : decode cX4_rowOutOf 23 = .ok (.l2i, 1) := by decide +kernel
theorem dX4_rowOutOf_24 : decode cX4_rowOutOf 24 = .ok (.iload 4, 2) := by decide +kernel
theorem dX4_rowOutOf_26 : decode cX4_rowOutOf 26 = .ok (.ishl, 1) := by decide +kernel
theorem dX4_rowOutOf_27 : decode cX4_rowOutOf 27 = .ok (.ior, 1) := by decide +kernel
theorem dX4_rowOutOf_28 : decode cX4_rowOutOf 28 = .ok (.istore_n 3, 1) := by decide +kernel
theorem dX4_rowOutOf_29 : decode cX4_rowOutOf 29 = .ok (.iinc 4 1, 3) := by decide +kernel
theorem dX4_rowOutOf_32 : decode cX4_rowOutOf 32 = .ok (.goto (-27), 3) := by decide +kernel
theorem dX4_rowOutOf_35 : decode cX4_rowOutOf 35 = .ok (.iload_n 3, 1) := by decide +kernel
theorem dX4_rowOutOf_36 : decode cX4_rowOutOf 36 = .ok (.ireturn, 1) := by decide +kernel
theorem dX4_rowsOut_0 : decode cX4_rowsOut 0 = .ok (.aload_n 0, 1) := by decide +kernel
theorem dX4_rowsOut_1 : decode cX4_rowsOut 1 = .ok (.getfield 9, 3) := by decide +kernel
theorem dX4_rowsOut_4 : decode cX4_rowsOut 4 = .ok (.aload_n 1, 1) := by decide +kernel
theorem dX4_rowsOut_5 : decode cX4_rowsOut 5 = .ok (.aload_n 1, 1) := by decide +kernel
theorem dX4_rowsOut_6 : decode cX4_rowsOut 6 = .ok (.getfield 63, 3) := by decide +kernel
theorem dX4_rowsOut_9 : decode cX4_rowsOut 9 = .ok (.invokestatic 55, 3) := by decide +kernel
theorem dX4_rowsOut_12 : decode cX4_rowsOut 12 = .ok (.lconst 0, 1) := by decide +kernel
theorem dX4_rowsOut_13 : decode cX4_rowsOut 13 = .ok (.lstore_n 2, 1) := by decide +kernel
theorem dX4_rowsOut_14 : decode cX4_rowsOut 14 = .ok (.iconst 0, 1) := by decide +kernel
theorem dX4_rowsOut_15 : decode cX4_rowsOut 15 = .ok (.istore 4, 2) := by decide +kernel
theorem dX4_rowsOut_17 : decode cX4_rowsOut 17 = .ok (.iload 4, 2) := by decide +kernel
theorem dX4_rowsOut_19 : decode cX4_rowsOut 19 = .ok (.iconst 1, 1) := by decide +kernel
theorem dX4_rowsOut_20 : decode cX4_rowsOut 20 = .ok (.aload_n 1, 1) := by decide +kernel
theorem dX4_rowsOut_21 : decode cX4_rowsOut 21 = .ok (.getfield 34, 3) := by decide +kernel
theorem dX4_rowsOut_24 : decode cX4_rowsOut 24 = .ok (.ishl, 1) := by decide +kernel
theorem dX4_rowsOut_25 : decode cX4_rowsOut 25 = .ok (.if_icmp .ge 24, 3) := by decide +kernel
theorem dX4_rowsOut_28 : decode cX4_rowsOut 28 = .ok (.lload_n 2, 1) := by decide +kernel
theorem dX4_rowsOut_29 : decode cX4_rowsOut 29 = .ok (.lconst 1, 1) := by decide +kernel
theorem dX4_rowsOut_30 : decode cX4_rowsOut 30 = .ok (.aload_n 0, 1) := by decide +kernel
theorem dX4_rowsOut_31 : decode cX4_rowsOut 31 = .ok (.iload 4, 2) := by decide +kernel
theorem dX4_rowsOut_33 : decode cX4_rowsOut 33 = .ok (.aload_n 1, 1) := by decide +kernel
theorem dX4_rowsOut_34 : decode cX4_rowsOut 34 = .ok (.getfield 34, 3) := by decide +kernel
theorem dX4_rowsOut_37 : decode cX4_rowsOut 37 = .ok (.invokevirtual 82, 3) := by decide +kernel
theorem dX4_rowsOut_40 : decode cX4_rowsOut 40 = .ok (.lshl, 1) := by decide +kernel
theorem dX4_rowsOut_41 : decode cX4_rowsOut 41 = .ok (.lor, 1) := by decide +kernel
theorem dX4_rowsOut_42 : decode cX4_rowsOut 42 = .ok (.lstore_n 2, 1) := by decide +kernel
theorem dX4_rowsOut_43 : decode cX4_rowsOut 43 = .ok (.iinc 4 1, 3) := by decide +kernel
theorem dX4_rowsOut_46 : decode cX4_rowsOut 46 = .ok (.goto (-29), 3) := by decide +kernel
theorem dX4_rowsOut_49 : decode cX4_rowsOut 49 = .ok (.lload_n 2, 1) := by decide +kernel
theorem dX4_rowsOut_50 : decode cX4_rowsOut 50 = .ok (.lreturn, 1) := by decide +kernel
theorem dX4_sortedCount_0 : decode cX4_sortedCount 0 = .ok (.aload_n 0, 1) := by decide +kernel
theorem dX4_sortedCount_1 : decode cX4_sortedCount 1 = .ok (.getfield 21, 3) := by decide +kernel
theorem dX4_sortedCount_4 : decode cX4_sortedCount 4 = .ok (.aload_n 0, 1) := by decide +kernel
theorem dX4_sortedCount_5 : decode cX4_sortedCount 5 = .ok (.aload_n 1, 1) := by decide +kernel
theorem dX4_sortedCount_6 : decode cX4_sortedCount 6 = .ok (.invokevirtual 86, 3) := by decide +kernel
theorem dX4_sortedCount_9 : decode cX4_sortedCount 9 = .ok (.ldc2_w 25, 3) := by decide +kernel
theorem dX4_sortedCount_12 : decode cX4_sortedCount 12 = .ok (.lxor, 1) := by decide +kernel
theorem dX4_sortedCount_13 : decode cX4_sortedCount 13 = .ok (.lconst 0, 1) := by decide +kernel
theorem dX4_sortedCount_14 : decode cX4_sortedCount 14 = .ok (.aload_n 1, 1) := by decide +kernel
theorem dX4_sortedCount_15 : decode cX4_sortedCount 15 = .ok (.getfield 34, 3) := by decide +kernel
theorem dX4_sortedCount_18 : decode cX4_sortedCount 18 = .ok (.invokevirtual 90, 3) := by decide +kernel
theorem dX4_sortedCount_21 : decode cX4_sortedCount 21 = .ok (.ireturn, 1) := by decide +kernel
theorem dX4_mergesAt_0 : decode cX4_mergesAt 0 = .ok (.aload_n 0, 1) := by decide +kernel
theorem dX4_mergesAt_1 : decode cX4_mergesAt 1 = .ok (.getfield 15, 3) := by decide +kernel
theorem dX4_mergesAt_4 : decode cX4_mergesAt 4 = .ok (.aload_n 1, 1) := by decide +kernel
theorem dX4_mergesAt_5 : decode cX4_mergesAt 5 = .ok (.getfield 34, 3) := by decide +kernel
theorem dX4_mergesAt_8 : decode cX4_mergesAt 8 = .ok (.invokestatic 40, 3) := by decide +kernel
theorem dX4_mergesAt_11 : decode cX4_mergesAt 11 = .ok (.aload_n 0, 1) := by decide +kernel
theorem dX4_mergesAt_12 : decode cX4_mergesAt 12 = .ok (.getfield 15, 3) := by decide +kernel
theorem dX4_mergesAt_15 : decode cX4_mergesAt 15 = .ok (.iload_n 2, 1) := by decide +kernel
theorem dX4_mergesAt_16 : decode cX4_mergesAt 16 = .ok (.invokestatic 66, 3) := by decide +kernel
theorem dX4_mergesAt_19 : decode cX4_mergesAt 19 = .ok (.lstore_n 3, 1) := by decide +kernel
theorem dX4_mergesAt_20 : decode cX4_mergesAt 20 = .ok (.lconst 0, 1) := by decide +kernel
theorem dX4_mergesAt_21 : decode cX4_mergesAt 21 = .ok (.lstore 5, 2) := by decide +kernel
theorem dX4_mergesAt_23 : decode cX4_mergesAt 23 = .ok (.iload_n 2, 1) := by decide +kernel
theorem dX4_mergesAt_24 : decode cX4_mergesAt 24 = .ok (.istore 7, 2) := by decide +kernel
theorem dX4_mergesAt_26 : decode cX4_mergesAt 26 = .ok (.iload 7, 2) := by decide +kernel
theorem dX4_mergesAt_28 : decode cX4_mergesAt 28 = .ok (.iconst 1, 1) := by decide +kernel
theorem dX4_mergesAt_29 : decode cX4_mergesAt 29 = .ok (.iadd, 1) := by decide +kernel
theorem dX4_mergesAt_30 : decode cX4_mergesAt 30 = .ok (.aload_n 1, 1) := by decide +kernel
theorem dX4_mergesAt_31 : decode cX4_mergesAt 31 = .ok (.getfield 34, 3) := by decide +kernel
theorem dX4_mergesAt_34 : decode cX4_mergesAt 34 = .ok (.if_icmp .ge 35, 3) := by decide +kernel
theorem dX4_mergesAt_37 : decode cX4_mergesAt 37 = .ok (.lload 5, 2) := by decide +kernel
theorem dX4_mergesAt_39 : decode cX4_mergesAt 39 = .ok (.aload_n 0, 1) := by decide +kernel
theorem dX4_mergesAt_40 : decode cX4_mergesAt 40 = .ok (.getfield 15, 3) := by decide +kernel
theorem dX4_mergesAt_43 : decode cX4_mergesAt 43 = .ok (.iload 7, 2) := by decide +kernel
theorem dX4_mergesAt_45 : decode cX4_mergesAt 45 = .ok (.laload, 1) := by decide +kernel
theorem dX4_mergesAt_46 : decode cX4_mergesAt 46 = .ok (.aload_n 0, 1) := by decide +kernel
theorem dX4_mergesAt_47 : decode cX4_mergesAt 47 = .ok (.getfield 15, 3) := by decide +kernel
theorem dX4_mergesAt_50 : decode cX4_mergesAt 50 = .ok (.iload 7, 2) := by decide +kernel
theorem dX4_mergesAt_52 : decode cX4_mergesAt 52 = .ok (.iconst 1, 1) := by decide +kernel
theorem dX4_mergesAt_53 : decode cX4_mergesAt 53 = .ok (.iadd, 1) := by decide +kernel
theorem dX4_mergesAt_54 : decode cX4_mergesAt 54 = .ok (.laload, 1) := by decide +kernel
theorem dX4_mergesAt_55 : decode cX4_mergesAt 55 = .ok (.ldc2_w 25, 3) := by decide +kernel
theorem dX4_mergesAt_58 : decode cX4_mergesAt 58 = .ok (.lxor, 1) := by decide +kernel
theorem dX4_mergesAt_59 : decode cX4_mergesAt 59 = .ok (.land, 1) := by decide +kernel
theorem dX4_mergesAt_60 : decode cX4_mergesAt 60 = .ok (.lor, 1) := by decide +kernel
theorem dX4_mergesAt_61 : decode cX4_mergesAt 61 = .ok (.lstore 5, 2) := by decide +kernel
theorem dX4_mergesAt_63 : decode cX4_mergesAt 63 = .ok (.iinc 7 1, 3) := by decide +kernel
theorem dX4_mergesAt_66 : decode cX4_mergesAt 66 = .ok (.goto (-40), 3) := by decide +kernel
theorem dX4_mergesAt_69 : decode cX4_mergesAt 69 = .ok (.aload_n 0, 1) := by decide +kernel
theorem dX4_mergesAt_70 : decode cX4_mergesAt 70 = .ok (.aload_n 1, 1) := by decide +kernel
theorem dX4_mergesAt_71 : decode cX4_mergesAt 71 = .ok (.invokevirtual 86, 3) := by decide +kernel
theorem dX4_mergesAt_74 : decode cX4_mergesAt 74 = .ok (.lload_n 3, 1) := by decide +kernel
theorem dX4_mergesAt_75 : decode cX4_mergesAt 75 = .ok (.ldc2_w 25, 3) := by decide +kernel
theorem dX4_mergesAt_78 : decode cX4_mergesAt 78 = .ok (.lxor, 1) := by decide +kernel
theorem dX4_mergesAt_79 : decode cX4_mergesAt 79 = .ok (.land, 1) := by decide +kernel
theorem dX4_mergesAt_80 : decode cX4_mergesAt 80 = .ok (.lload 5, 2) := by decide +kernel
theorem dX4_mergesAt_82 : decode cX4_mergesAt 82 = .ok (.ldc2_w 25, 3) := by decide +kernel
theorem dX4_mergesAt_85 : decode cX4_mergesAt 85 = .ok (.lxor, 1) := by decide +kernel
theorem dX4_mergesAt_86 : decode cX4_mergesAt 86 = .ok (.land, 1) := by decide +kernel
theorem dX4_mergesAt_87 : decode cX4_mergesAt 87 = .ok (.lconst 0, 1) := by decide +kernel
theorem dX4_mergesAt_88 : decode cX4_mergesAt 88 = .ok (.lcmp, 1) := by decide +kernel
theorem dX4_mergesAt_89 : decode cX4_mergesAt 89 = .ok (.ifCond .ne 7, 3) := by decide +kernel
theorem dX4_mergesAt_92 : decode cX4_mergesAt 92 = .ok (.iconst 1, 1) := by decide +kernel
theorem dX4_mergesAt_93 : decode cX4_mergesAt 93 = .ok (.goto 4, 3) := by decide +kernel
theorem dX4_mergesAt_96 : decode cX4_mergesAt 96 = .ok (.iconst 0, 1) := by decide +kernel
theorem dX4_mergesAt_97 : decode cX4_mergesAt 97 = .ok (.ireturn, 1) := by decide +kernel
theorem dX4_choosesLowest_0 : decode cX4_choosesLowest 0 = .ok (.aload_n 0, 1) := by decide +kernel
theorem dX4_choosesLowest_1 : decode cX4_choosesLowest 1 = .ok (.aload_n 1, 1) := by decide +kernel
theorem dX4_choosesLowest_2 : decode cX4_choosesLowest 2 = .ok (.invokevirtual 86, 3) := by decide +kernel
theorem dX4_choosesLowest_5 : decode cX4_choosesLowest 5 = .ok (.lstore_n 3, 1) := by decide +kernel
theorem dX4_choosesLowest_6 : decode cX4_choosesLowest 6 = .ok (.iconst 0, 1) := by decide +kernel
theorem dX4_choosesLowest_7 : decode cX4_choosesLowest 7 = .ok (.istore 5, 2) := by decide +kernel
theorem dX4_choosesLowest_9 : decode cX4_choosesLowest 9 = .ok (.iload 5, 2) := by decide +kernel
theorem dX4_choosesLowest_11 : decode cX4_choosesLowest 11 = .ok (.iconst 1, 1) := by decide +kernel
theorem dX4_choosesLowest_12 : decode cX4_choosesLowest 12 = .ok (.aload_n 1, 1) := by decide +kernel
theorem dX4_choosesLowest_13 : decode cX4_choosesLowest 13 = .ok (.getfield 34, 3) := by decide +kernel
theorem dX4_choosesLowest_16 : decode cX4_choosesLowest 16 = .ok (.ishl, 1) := by decide +kernel
theorem dX4_choosesLowest_17 : decode cX4_choosesLowest 17 = .ok (.if_icmp .ge 48, 3) := by decide +kernel
theorem dX4_choosesLowest_20 : decode cX4_choosesLowest 20 = .ok (.lload_n 3, 1) := by decide +kernel
theorem dX4_choosesLowest_21 : decode cX4_choosesLowest 21 = .ok (.iload 5, 2) := by decide +kernel
theorem dX4_choosesLowest_23 : decode cX4_choosesLowest 23 = .ok (.lushr, 1) := by decide +kernel
theorem dX4_choosesLowest_24 : decode cX4_choosesLowest 24 = .ok (.lconst 1, 1) := by decide +kernel
theorem dX4_choosesLowest_25 : decode cX4_choosesLowest 25 = .ok (.land, 1) := by decide +kernel
theorem dX4_choosesLowest_26 : decode cX4_choosesLowest 26 = .ok (.lconst 0, 1) := by decide +kernel
theorem dX4_choosesLowest_27 : decode cX4_choosesLowest 27 = .ok (.lcmp, 1) := by decide +kernel
theorem dX4_choosesLowest_28 : decode cX4_choosesLowest 28 = .ok (.ifCond .eq 7, 3) := by decide +kernel
theorem dX4_choosesLowest_31 : decode cX4_choosesLowest 31 = .ok (.iconst 1, 1) := by decide +kernel
theorem dX4_choosesLowest_32 : decode cX4_choosesLowest 32 = .ok (.goto 4, 3) := by decide +kernel
theorem dX4_choosesLowest_35 : decode cX4_choosesLowest 35 = .ok (.iconst 0, 1) := by decide +kernel
theorem dX4_choosesLowest_36 : decode cX4_choosesLowest 36 = .ok (.istore 6, 2) := by decide +kernel
theorem dX4_choosesLowest_38 : decode cX4_choosesLowest 38 = .ok (.iload 6, 2) := by decide +kernel
theorem dX4_choosesLowest_40 : decode cX4_choosesLowest 40 = .ok (.ifCond .eq 19, 3) := by decide +kernel
theorem dX4_choosesLowest_43 : decode cX4_choosesLowest 43 = .ok (.aload_n 1, 1) := by decide +kernel
theorem dX4_choosesLowest_44 : decode cX4_choosesLowest 44 = .ok (.getfield 34, 3) := by decide +kernel
theorem dX4_choosesLowest_47 : decode cX4_choosesLowest 47 = .ok (.iload 5, 2) := by decide +kernel
theorem dX4_choosesLowest_49 : decode cX4_choosesLowest 49 = .ok (.invokestatic 94, 3) := by decide +kernel
theorem dX4_choosesLowest_52 : decode cX4_choosesLowest 52 = .ok (.isub, 1) := by decide +kernel
theorem dX4_choosesLowest_53 : decode cX4_choosesLowest 53 = .ok (.iload_n 2, 1) := by decide +kernel
theorem dX4_choosesLowest_54 : decode cX4_choosesLowest 54 = .ok (.if_icmp .ne 5, 3) := by decide +kernel
theorem dX4_choosesLowest_57 : decode cX4_choosesLowest 57 = .ok (.iconst 0, 1) := by decide +kernel
theorem dX4_choosesLowest_58 : decode cX4_choosesLowest 58 = .ok (.ireturn, 1) := by decide +kernel
theorem dX4_choosesLowest_59 : decode cX4_choosesLowest 59 = .ok (.iinc 5 1, 3) := by decide +kernel
theorem dX4_choosesLowest_62 : decode cX4_choosesLowest 62 = .ok (.goto (-53), 3) := by decide +kernel
theorem dX4_choosesLowest_65 : decode cX4_choosesLowest 65 = .ok (.iconst 1, 1) := by decide +kernel
theorem dX4_choosesLowest_66 : decode cX4_choosesLowest 66 = .ok (.ireturn, 1) := by decide +kernel
theorem dX4_greatestDistance_0 : decode cX4_greatestDistance 0 = .ok (.aload_n 0, 1) := by decide +kernel
theorem dX4_greatestDistance_1 : decode cX4_greatestDistance 1 = .ok (.getfield 9, 3) := by decide +kernel
theorem dX4_greatestDistance_4 : decode cX4_greatestDistance 4 = .ok (.aload_n 1, 1) := by decide +kernel
theorem dX4_greatestDistance_5 : decode cX4_greatestDistance 5 = .ok (.aload_n 1, 1) := by decide +kernel
theorem dX4_greatestDistance_6 : decode cX4_greatestDistance 6 = .ok (.getfield 63, 3) := by decide +kernel
theorem dX4_greatestDistance_9 : decode cX4_greatestDistance 9 = .ok (.invokestatic 55, 3) := by decide +kernel
theorem dX4_greatestDistance_12 : decode cX4_greatestDistance 12 = .ok (.iconst 0, 1) := by decide +kernel
theorem dX4_greatestDistance_13 : decode cX4_greatestDistance 13 = .ok (.istore_n 2, 1) := by decide +kernel
theorem dX4_greatestDistance_14 : decode cX4_greatestDistance 14 = .ok (.iconst 0, 1) := by decide +kernel
theorem dX4_greatestDistance_15 : decode cX4_greatestDistance 15 = .ok (.istore_n 3, 1) := by decide +kernel
theorem dX4_greatestDistance_16 : decode cX4_greatestDistance 16 = .ok (.iload_n 3, 1) := by decide +kernel
theorem dX4_greatestDistance_17 : decode cX4_greatestDistance 17 = .ok (.iconst 1, 1) := by decide +kernel
theorem dX4_greatestDistance_18 : decode cX4_greatestDistance 18 = .ok (.aload_n 1, 1) := by decide +kernel
theorem dX4_greatestDistance_19 : decode cX4_greatestDistance 19 = .ok (.getfield 34, 3) := by decide +kernel
theorem dX4_greatestDistance_22 : decode cX4_greatestDistance 22 = .ok (.ishl, 1) := by decide +kernel
theorem dX4_greatestDistance_23 : decode cX4_greatestDistance 23 = .ok (.if_icmp .ge 34, 3) := by decide +kernel
theorem dX4_greatestDistance_26 : decode cX4_greatestDistance 26 = .ok (.aload_n 0, 1) := by decide +kernel
theorem dX4_greatestDistance_27 : decode cX4_greatestDistance 27 = .ok (.iload_n 3, 1) := by decide +kernel
theorem dX4_greatestDistance_28 : decode cX4_greatestDistance 28 = .ok (.aload_n 1, 1) := by decide +kernel
theorem dX4_greatestDistance_29 : decode cX4_greatestDistance 29 = .ok (.getfield 34, 3) := by decide +kernel
theorem dX4_greatestDistance_32 : decode cX4_greatestDistance 32 = .ok (.invokevirtual 82, 3) := by decide +kernel
theorem dX4_greatestDistance_35 : decode cX4_greatestDistance 35 = .ok (.istore 4, 2) := by decide +kernel
theorem dX4_greatestDistance_37 : decode cX4_greatestDistance 37 = .ok (.iload_n 2, 1) := by decide +kernel
theorem dX4_greatestDistance_38 : decode cX4_greatestDistance 38 = .ok (.iload 4, 2) := by decide +kernel
theorem dX4_greatestDistance_40 : decode cX4_greatestDistance 40 = .ok (.aload_n 1, 1) := by decide +kernel
theorem dX4_greatestDistance_41 : decode cX4_greatestDistance 41 = .ok (.getfield 34, 3) := by decide +kernel
theorem dX4_greatestDistance_44 : decode cX4_greatestDistance 44 = .ok (.invokestatic 100, 3) := by decide +kernel
theorem dX4_greatestDistance_47 : decode cX4_greatestDistance 47 = .ok (.invokestatic 103, 3) := by decide +kernel
theorem dX4_greatestDistance_50 : decode cX4_greatestDistance 50 = .ok (.istore_n 2, 1) := by decide +kernel
theorem dX4_greatestDistance_51 : decode cX4_greatestDistance 51 = .ok (.iinc 3 1, 3) := by decide +kernel
theorem dX4_greatestDistance_54 : decode cX4_greatestDistance 54 = .ok (.goto (-38), 3) := by decide +kernel
theorem dX4_greatestDistance_57 : decode cX4_greatestDistance 57 = .ok (.iload_n 2, 1) := by decide +kernel
theorem dX4_greatestDistance_58 : decode cX4_greatestDistance 58 = .ok (.ireturn, 1) := by decide +kernel
theorem dX4_distanceIn_0 : decode cX4_distanceIn 0 = .ok (.iload_n 1, 1) := by decide +kernel
theorem dX4_distanceIn_1 : decode cX4_distanceIn 1 = .ok (.iload_n 0, 1) := by decide +kernel
theorem dX4_distanceIn_2 : decode cX4_distanceIn 2 = .ok (.invokestatic 94, 3) := by decide +kernel
theorem dX4_distanceIn_5 : decode cX4_distanceIn 5 = .ok (.isub, 1) := by decide +kernel
theorem dX4_distanceIn_6 : decode cX4_distanceIn 6 = .ok (.istore_n 2, 1) := by decide +kernel
theorem dX4_distanceIn_7 : decode cX4_distanceIn 7 = .ok (.iconst 0, 1) := by decide +kernel
theorem dX4_distanceIn_8 : decode cX4_distanceIn 8 = .ok (.istore_n 3, 1) := by decide +kernel
theorem dX4_distanceIn_9 : decode cX4_distanceIn 9 = .ok (.iconst 0, 1) := by decide +kernel
theorem dX4_distanceIn_10 : decode cX4_distanceIn 10 = .ok (.istore 4, 2) := by decide +kernel
theorem dX4_distanceIn_12 : decode cX4_distanceIn 12 = .ok (.iload 4, 2) := by decide +kernel
theorem dX4_distanceIn_14 : decode cX4_distanceIn 14 = .ok (.iload_n 1, 1) := by decide +kernel
theorem dX4_distanceIn_15 : decode cX4_distanceIn 15 = .ok (.if_icmp .ge 48, 3) := by decide +kernel
theorem dX4_distanceIn_18 : decode cX4_distanceIn 18 = .ok (.iload_n 0, 1) := by decide +kernel
theorem dX4_distanceIn_19 : decode cX4_distanceIn 19 = .ok (.iload 4, 2) := by decide +kernel
theorem dX4_distanceIn_21 : decode cX4_distanceIn 21 = .ok (.ishr, 1) := by decide +kernel
theorem dX4_distanceIn_22 : decode cX4_distanceIn 22 = .ok (.iconst 1, 1) := by decide +kernel
theorem dX4_distanceIn_23 : decode cX4_distanceIn 23 = .ok (.iand, 1) := by decide +kernel
theorem dX4_distanceIn_24 : decode cX4_distanceIn 24 = .ok (.ifCond .eq 7, 3) := by decide +kernel
theorem dX4_distanceIn_27 : decode cX4_distanceIn 27 = .ok (.iconst 1, 1) := by decide +kernel
theorem dX4_distanceIn_28 : decode cX4_distanceIn 28 = .ok (.goto 4, 3) := by decide +kernel
theorem dX4_distanceIn_31 : decode cX4_distanceIn 31 = .ok (.iconst 0, 1) := by decide +kernel
theorem dX4_distanceIn_32 : decode cX4_distanceIn 32 = .ok (.istore 5, 2) := by decide +kernel
theorem dX4_distanceIn_34 : decode cX4_distanceIn 34 = .ok (.iload_n 3, 1) := by decide +kernel
theorem dX4_distanceIn_35 : decode cX4_distanceIn 35 = .ok (.iload 5, 2) := by decide +kernel
theorem dX4_distanceIn_37 : decode cX4_distanceIn 37 = .ok (.ifCond .eq 10, 3) := by decide +kernel
theorem dX4_distanceIn_40 : decode cX4_distanceIn 40 = .ok (.iload_n 2, 1) := by decide +kernel
theorem dX4_distanceIn_41 : decode cX4_distanceIn 41 = .ok (.iload 4, 2) := by decide +kernel
theorem dX4_distanceIn_43 : decode cX4_distanceIn 43 = .ok (.isub, 1) := by decide +kernel
theorem dX4_distanceIn_44 : decode cX4_distanceIn 44 = .ok (.goto 9, 3) := by decide +kernel
theorem dX4_distanceIn_47 : decode cX4_distanceIn 47 = .ok (.iload 4, 2) := by decide +kernel
theorem dX4_distanceIn_49 : decode cX4_distanceIn 49 = .ok (.iload_n 2, 1) := by decide +kernel
theorem dX4_distanceIn_50 : decode cX4_distanceIn 50 = .ok (.iconst 1, 1) := by decide +kernel
theorem dX4_distanceIn_51 : decode cX4_distanceIn 51 = .ok (.isub, 1) := by decide +kernel
theorem dX4_distanceIn_52 : decode cX4_distanceIn 52 = .ok (.isub, 1) := by decide +kernel
theorem dX4_distanceIn_53 : decode cX4_distanceIn 53 = .ok (.invokestatic 103, 3) := by decide +kernel
theorem dX4_distanceIn_56 : decode cX4_distanceIn 56 = .ok (.istore_n 3, 1) := by decide +kernel
theorem dX4_distanceIn_57 : decode cX4_distanceIn 57 = .ok (.iinc 4 1, 3) := by decide +kernel
theorem dX4_distanceIn_60 : decode cX4_distanceIn 60 = .ok (.goto (-48), 3) := by decide +kernel
theorem dX4_distanceIn_63 : decode cX4_distanceIn 63 = .ok (.iload_n 3, 1) := by decide +kernel
theorem dX4_distanceIn_64 : decode cX4_distanceIn 64 = .ok (.ireturn, 1) := by decide +kernel
theorem dX4_missing_0 : decode cX4_missing 0 = .ok (.aload_n 0, 1) := by decide +kernel
theorem dX4_missing_1 : decode cX4_missing 1 = .ok (.getfield 9, 3) := by decide +kernel
theorem dX4_missing_4 : decode cX4_missing 4 = .ok (.aload_n 1, 1) := by decide +kernel
theorem dX4_missing_5 : decode cX4_missing 5 = .ok (.aload_n 1, 1) := by decide +kernel
theorem dX4_missing_6 : decode cX4_missing 6 = .ok (.getfield 63, 3) := by decide +kernel
theorem dX4_missing_9 : decode cX4_missing 9 = .ok (.invokestatic 55, 3) := by decide +kernel
theorem dX4_missing_12 : decode cX4_missing 12 = .ok (.iconst 0, 1) := by decide +kernel
theorem dX4_missing_13 : decode cX4_missing 13 = .ok (.istore_n 3, 1) := by decide +kernel
theorem dX4_missing_14 : decode cX4_missing 14 = .ok (.iload_n 3, 1) := by decide +kernel
theorem dX4_missing_15 : decode cX4_missing 15 = .ok (.iload_n 2, 1) := by decide +kernel
theorem dX4_missing_16 : decode cX4_missing 16 = .ok (.if_icmp .gt 26, 3) := by decide +kernel
theorem dX4_missing_19 : decode cX4_missing 19 = .ok (.aload_n 0, 1) := by decide +kernel
theorem dX4_missing_20 : decode cX4_missing 20 = .ok (.getfield 9, 3) := by decide +kernel
theorem dX4_missing_23 : decode cX4_missing 23 = .ok (.aload_n 1, 1) := by decide +kernel
theorem dX4_missing_24 : decode cX4_missing 24 = .ok (.getfield 34, 3) := by decide +kernel
theorem dX4_missing_27 : decode cX4_missing 27 = .ok (.iload_n 3, 1) := by decide +kernel
theorem dX4_missing_28 : decode cX4_missing 28 = .ok (.invokestatic 108, 3) := by decide +kernel
theorem dX4_missing_31 : decode cX4_missing 31 = .ok (.ifCond .eq 5, 3) := by decide +kernel
theorem dX4_missing_34 : decode cX4_missing 34 = .ok (.iload_n 3, 1) := by decide +kernel
theorem dX4_missing_35 : decode cX4_missing 35 = .ok (.ireturn, 1) := by decide +kernel
theorem dX4_missing_36 : decode cX4_missing 36 = .ok (.iinc 3 1, 3) := by decide +kernel
theorem dX4_missing_39 : decode cX4_missing 39 = .ok (.goto (-25), 3) := by decide +kernel
theorem dX4_missing_42 : decode cX4_missing 42 = .ok (.iconst (-1), 1) := by decide +kernel
theorem dX4_missing_43 : decode cX4_missing 43 = .ok (.ireturn, 1) := by decide +kernel
theorem dX4_canFinish_0 : decode cX4_canFinish 0 = .ok (.aload_n 0, 1) := by decide +kernel
theorem dX4_canFinish_1 : decode cX4_canFinish 1 = .ok (.iload_n 1, 1) := by decide +kernel
theorem dX4_canFinish_2 : decode cX4_canFinish 2 = .ok (.invokestatic 66, 3) := by decide +kernel
theorem dX4_canFinish_5 : decode cX4_canFinish 5 = .ok (.lconst 0, 1) := by decide +kernel
theorem dX4_canFinish_6 : decode cX4_canFinish 6 = .ok (.lcmp, 1) := by decide +kernel
theorem dX4_canFinish_7 : decode cX4_canFinish 7 = .ok (.ifCond .ne 5, 3) := by decide +kernel
theorem dX4_canFinish_10 : decode cX4_canFinish 10 = .ok (.iconst 1, 1) := by decide +kernel
theorem dX4_canFinish_11 : decode cX4_canFinish 11 = .ok (.ireturn, 1) := by decide +kernel
theorem dX4_canFinish_12 : decode cX4_canFinish 12 = .ok (.iload_n 2, 1) := by decide +kernel
theorem dX4_canFinish_13 : decode cX4_canFinish 13 = .ok (.ifCond .gt 5, 3) := by decide +kernel
theorem dX4_canFinish_16 : decode cX4_canFinish 16 = .ok (.iconst 0, 1) := by decide +kernel
theorem dX4_canFinish_17 : decode cX4_canFinish 17 = .ok (.ireturn, 1) := by decide +kernel
theorem dX4_canFinish_18 : decode cX4_canFinish 18 = .ok (.iconst 0, 1) := by decide +kernel
theorem dX4_canFinish_19 : decode cX4_canFinish 19 = .ok (.istore_n 3, 1) := by decide +kernel
theorem dX4_canFinish_20 : decode cX4_canFinish 20 = .ok (.iconst 0, 1) := by decide +kernel
theorem dX4_canFinish_21 : decode cX4_canFinish 21 = .ok (.istore 4, 2) := by decide +kernel
theorem dX4_canFinish_23 : decode cX4_canFinish 23 = .ok (.iload 4, 2) := by decide +kernel
theorem dX4_canFinish_25 : decode cX4_canFinish 25 = .ok (.iload_n 1, 1) := by decide +kernel
theorem dX4_canFinish_26 : decode cX4_canFinish 26 = .ok (.if_icmp .ge 90, 3) := by decide +kernel
theorem dX4_canFinish_29 : decode cX4_canFinish 29 = .ok (.iload_n 3, 1) := by decide +kernel
theorem dX4_canFinish_30 : decode cX4_canFinish 30 = .ok (.ifCond .ne 86, 3) := by decide +kernel
theorem dX4_canFinish_33 : decode cX4_canFinish 33 = .ok (.iload 4, 2) := by decide +kernel
theorem dX4_canFinish_35 : decode cX4_canFinish 35 = .ok (.iconst 1, 1) := by decide +kernel
theorem dX4_canFinish_36 : decode cX4_canFinish 36 = .ok (.iadd, 1) := by decide +kernel
theorem dX4_canFinish_37 : decode cX4_canFinish 37 = .ok (.istore 5, 2) := by decide +kernel
theorem dX4_canFinish_39 : decode cX4_canFinish 39 = .ok (.iload 5, 2) := by decide +kernel
theorem dX4_canFinish_41 : decode cX4_canFinish 41 = .ok (.iload_n 1, 1) := by decide +kernel
theorem dX4_canFinish_42 : decode cX4_canFinish 42 = .ok (.if_icmp .ge 68, 3) := by decide +kernel
theorem dX4_canFinish_45 : decode cX4_canFinish 45 = .ok (.iload_n 3, 1) := by decide +kernel
theorem dX4_canFinish_46 : decode cX4_canFinish 46 = .ok (.ifCond .ne 64, 3) := by decide +kernel
theorem dX4_canFinish_49 : decode cX4_canFinish 49 = .ok (.aload_n 0, 1) := by decide +kernel
theorem dX4_canFinish_50 : decode cX4_canFinish 50 = .ok (.iload 4, 2) := by decide +kernel
theorem dX4_canFinish_52 : decode cX4_canFinish 52 = .ok (.laload, 1) := by decide +kernel
theorem dX4_canFinish_53 : decode cX4_canFinish 53 = .ok (.lstore 6, 2) := by decide +kernel
theorem dX4_canFinish_55 : decode cX4_canFinish 55 = .ok (.aload_n 0, 1) := by decide +kernel
theorem dX4_canFinish_56 : decode cX4_canFinish 56 = .ok (.iload 5, 2) := by decide +kernel
theorem dX4_canFinish_58 : decode cX4_canFinish 58 = .ok (.laload, 1) := by decide +kernel
theorem dX4_canFinish_59 : decode cX4_canFinish 59 = .ok (.lstore 8, 2) := by decide +kernel
theorem dX4_canFinish_61 : decode cX4_canFinish 61 = .ok (.lload 6, 2) := by decide +kernel
theorem dX4_canFinish_63 : decode cX4_canFinish 63 = .ok (.lload 8, 2) := by decide +kernel
theorem dX4_canFinish_65 : decode cX4_canFinish 65 = .ok (.ldc2_w 25, 3) := by decide +kernel
theorem dX4_canFinish_68 : decode cX4_canFinish 68 = .ok (.lxor, 1) := by decide +kernel
theorem dX4_canFinish_69 : decode cX4_canFinish 69 = .ok (.land, 1) := by decide +kernel
theorem dX4_canFinish_70 : decode cX4_canFinish 70 = .ok (.lconst 0, 1) := by decide +kernel
theorem dX4_canFinish_71 : decode cX4_canFinish 71 = .ok (.lcmp, 1) := by decide +kernel
theorem dX4_canFinish_72 : decode cX4_canFinish 72 = .ok (.ifCond .eq 32, 3) := by decide +kernel
theorem dX4_canFinish_75 : decode cX4_canFinish 75 = .ok (.aload_n 0, 1) := by decide +kernel
theorem dX4_canFinish_76 : decode cX4_canFinish 76 = .ok (.iload 4, 2) := by decide +kernel
theorem dX4_canFinish_78 : decode cX4_canFinish 78 = .ok (.iload 5, 2) := by decide +kernel
theorem dX4_canFinish_80 : decode cX4_canFinish 80 = .ok (.invokestatic 51, 3) := by decide +kernel
theorem dX4_canFinish_83 : decode cX4_canFinish 83 = .ok (.aload_n 0, 1) := by decide +kernel
theorem dX4_canFinish_84 : decode cX4_canFinish 84 = .ok (.iload_n 1, 1) := by decide +kernel
theorem dX4_canFinish_85 : decode cX4_canFinish 85 = .ok (.iload_n 2, 1) := by decide +kernel
theorem dX4_canFinish_86 : decode cX4_canFinish 86 = .ok (.iconst 1, 1) := by decide +kernel
theorem dX4_canFinish_87 : decode cX4_canFinish 87 = .ok (.isub, 1) := by decide +kernel
theorem dX4_canFinish_88 : decode cX4_canFinish 88 = .ok (.invokestatic 108, 3) := by decide +kernel
theorem dX4_canFinish_91 : decode cX4_canFinish 91 = .ok (.istore_n 3, 1) := by decide +kernel
theorem dX4_canFinish_92 : decode cX4_canFinish 92 = .ok (.aload_n 0, 1) := by decide +kernel
theorem dX4_canFinish_93 : decode cX4_canFinish 93 = .ok (.iload 4, 2) := by decide +kernel
theorem dX4_canFinish_95 : decode cX4_canFinish 95 = .ok (.lload 6, 2) := by decide +kernel
theorem dX4_canFinish_97 : decode cX4_canFinish 97 = .ok (.lastore, 1) := by decide +kernel
theorem dX4_canFinish_98 : decode cX4_canFinish 98 = .ok (.aload_n 0, 1) := by decide +kernel
theorem dX4_canFinish_99 : decode cX4_canFinish 99 = .ok (.iload 5, 2) := by decide +kernel
theorem dX4_canFinish_101 : decode cX4_canFinish 101 = .ok (.lload 8, 2) := by decide +kernel
theorem dX4_canFinish_103 : decode cX4_canFinish 103 = .ok (.lastore, 1) := by decide +kernel
theorem dX4_canFinish_104 : decode cX4_canFinish 104 = .ok (.iinc 5 1, 3) := by decide +kernel
theorem dX4_canFinish_107 : decode cX4_canFinish 107 = .ok (.goto (-68), 3) := by decide +kernel
theorem dX4_canFinish_110 : decode cX4_canFinish 110 = .ok (.iinc 4 1, 3) := by decide +kernel
theorem dX4_canFinish_113 : decode cX4_canFinish 113 = .ok (.goto (-90), 3) := by decide +kernel
theorem dX4_canFinish_116 : decode cX4_canFinish 116 = .ok (.iload_n 3, 1) := by decide +kernel
theorem dX4_canFinish_117 : decode cX4_canFinish 117 = .ok (.ireturn, 1) := by decide +kernel
theorem dX5_howMany_0 : decode cX5_howMany 0 = .ok (.getstatic 9, 3) := by decide +kernel
theorem dX5_howMany_3 : decode cX5_howMany 3 = .ok (.iload_n 0, 1) := by decide +kernel
theorem dX5_howMany_4 : decode cX5_howMany 4 = .ok (.iaload, 1) := by decide +kernel
theorem dX5_howMany_5 : decode cX5_howMany 5 = .ok (.ireturn, 1) := by decide +kernel
theorem dX5_valueOn_0 : decode cX5_valueOn 0 = .ok (.iload_n 0, 1) := by decide +kernel
theorem dX5_valueOn_1 : decode cX5_valueOn 1 = .ok (.iconst 4, 1) := by decide +kernel
theorem dX5_valueOn_2 : decode cX5_valueOn 2 = .ok (.iload_n 1, 1) := by decide +kernel
theorem dX5_valueOn_3 : decode cX5_valueOn 3 = .ok (.imul, 1) := by decide +kernel
theorem dX5_valueOn_4 : decode cX5_valueOn 4 = .ok (.ishr, 1) := by decide +kernel
theorem dX5_valueOn_5 : decode cX5_valueOn 5 = .ok (.bipush 15, 2) := by decide +kernel
theorem dX5_valueOn_7 : decode cX5_valueOn 7 = .ok (.iand, 1) := by decide +kernel
theorem dX5_valueOn_8 : decode cX5_valueOn 8 = .ok (.ireturn, 1) := by decide +kernel
theorem dX5_inOrder_0 : decode cX5_inOrder 0 = .ok (.iconst 0, 1) := by decide +kernel
theorem dX5_inOrder_1 : decode cX5_inOrder 1 = .ok (.istore_n 1, 1) := by decide +kernel
theorem dX5_inOrder_2 : decode cX5_inOrder 2 = .ok (.iconst 0, 1) := by decide +kernel
theorem dX5_inOrder_3 : decode cX5_inOrder 3 = .ok (.istore_n 2, 1) := by decide +kernel
theorem dX5_inOrder_4 : decode cX5_inOrder 4 = .ok (.iload_n 2, 1) := by decide +kernel
theorem dX5_inOrder_5 : decode cX5_inOrder 5 = .ok (.iload_n 0, 1) := by decide +kernel
theorem dX5_inOrder_6 : decode cX5_inOrder 6 = .ok (.if_icmp .ge 17, 3) := by decide +kernel
theorem dX5_inOrder_9 : decode cX5_inOrder 9 = .ok (.iload_n 1, 1) := by decide +kernel
theorem dX5_inOrder_10 : decode cX5_inOrder 10 = .ok (.iload_n 2, 1) := by decide +kernel
theorem dX5_inOrder_11 : decode cX5_inOrder 11 = .ok (.iconst 4, 1) := by decide +kernel
theorem dX5_inOrder_12 : decode cX5_inOrder 12 = .ok (.iload_n 2, 1) := by decide +kernel
theorem dX5_inOrder_13 : decode cX5_inOrder 13 = .ok (.imul, 1) := by decide +kernel
theorem dX5_inOrder_14 : decode cX5_inOrder 14 = .ok (.ishl, 1) := by decide +kernel
theorem dX5_inOrder_15 : decode cX5_inOrder 15 = .ok (.ior, 1) := by decide +kernel
theorem dX5_inOrder_16 : decode cX5_inOrder 16 = .ok (.istore_n 1, 1) := by decide +kernel
theorem dX5_inOrder_17 : decode cX5_inOrder 17 = .ok (.iinc 2 1, 3) := by decide +kernel
theorem dX5_inOrder_20 : decode cX5_inOrder 20 = .ok (.goto (-16), 3) := by decide +kernel
theorem dX5_inOrder_23 : decode cX5_inOrder 23 = .ok (.iload_n 1, 1) := by decide +kernel
theorem dX5_inOrder_24 : decode cX5_inOrder 24 = .ok (.ireturn, 1) := by decide +kernel
theorem dX5_exchanged_0 : decode cX5_exchanged 0 = .ok (.iload_n 0, 1) := by decide +kernel
theorem dX5_exchanged_1 : decode cX5_exchanged 1 = .ok (.iload_n 1, 1) := by decide +kernel
theorem dX5_exchanged_2 : decode cX5_exchanged 2 = .ok (.invokestatic 15, 3) := by decide +kernel
theorem dX5_exchanged_5 : decode cX5_exchanged 5 = .ok (.iload_n 0, 1) := by decide +kernel
theorem dX5_exchanged_6 : decode cX5_exchanged 6 = .ok (.iload_n 2, 1) := by decide +kernel
theorem dX5_exchanged_7 : decode cX5_exchanged 7 = .ok (.invokestatic 15, 3) := by decide +kernel
theorem dX5_exchanged_10 : decode cX5_exchanged 10 = .ok (.ixor, 1) := by decide +kernel
theorem dX5_exchanged_11 : decode cX5_exchanged 11 = .ok (.istore_n 3, 1) := by decide +kernel
theorem dX5_exchanged_12 : decode cX5_exchanged 12 = .ok (.iload_n 0, 1) := by decide +kernel
theorem dX5_exchanged_13 : decode cX5_exchanged 13 = .ok (.iload_n 3, 1) := by decide +kernel
theorem dX5_exchanged_14 : decode cX5_exchanged 14 = .ok (.iconst 4, 1) := by decide +kernel
theorem dX5_exchanged_15 : decode cX5_exchanged 15 = .ok (.iload_n 1, 1) := by decide +kernel
theorem dX5_exchanged_16 : decode cX5_exchanged 16 = .ok (.imul, 1) := by decide +kernel
theorem dX5_exchanged_17 : decode cX5_exchanged 17 = .ok (.ishl, 1) := by decide +kernel
theorem dX5_exchanged_18 : decode cX5_exchanged 18 = .ok (.ixor, 1) := by decide +kernel
theorem dX5_exchanged_19 : decode cX5_exchanged 19 = .ok (.iload_n 3, 1) := by decide +kernel
theorem dX5_exchanged_20 : decode cX5_exchanged 20 = .ok (.iconst 4, 1) := by decide +kernel
theorem dX5_exchanged_21 : decode cX5_exchanged 21 = .ok (.iload_n 2, 1) := by decide +kernel
theorem dX5_exchanged_22 : decode cX5_exchanged 22 = .ok (.imul, 1) := by decide +kernel
theorem dX5_exchanged_23 : decode cX5_exchanged 23 = .ok (.ishl, 1) := by decide +kernel
theorem dX5_exchanged_24 : decode cX5_exchanged 24 = .ok (.ixor, 1) := by decide +kernel
theorem dX5_exchanged_25 : decode cX5_exchanged 25 = .ok (.ireturn, 1) := by decide +kernel
theorem dX5_rearranged_0 : decode cX5_rearranged 0 = .ok (.iconst 0, 1) := by decide +kernel
theorem dX5_rearranged_1 : decode cX5_rearranged 1 = .ok (.istore_n 3, 1) := by decide +kernel
theorem dX5_rearranged_2 : decode cX5_rearranged 2 = .ok (.iconst 0, 1) := by decide +kernel
theorem dX5_rearranged_3 : decode cX5_rearranged 3 = .ok (.istore 4, 2) := by decide +kernel
theorem dX5_rearranged_5 : decode cX5_rearranged 5 = .ok (.iload 4, 2) := by decide +kernel
theorem dX5_rearranged_7 : decode cX5_rearranged 7 = .ok (.iload_n 2, 1) := by decide +kernel
theorem dX5_rearranged_8 : decode cX5_rearranged 8 = .ok (.if_icmp .ge 27, 3) := by decide +kernel
theorem dX5_rearranged_11 : decode cX5_rearranged 11 = .ok (.iload_n 3, 1) := by decide +kernel
theorem dX5_rearranged_12 : decode cX5_rearranged 12 = .ok (.iload_n 0, 1) := by decide +kernel
theorem dX5_rearranged_13 : decode cX5_rearranged 13 = .ok (.iload_n 1, 1) := by decide +kernel
theorem dX5_rearranged_14 : decode cX5_rearranged 14 = .ok (.iload 4, 2) := by decide +kernel
theorem dX5_rearranged_16 : decode cX5_rearranged 16 = .ok (.invokestatic 15, 3) := by decide +kernel
theorem dX5_rearranged_19 : decode cX5_rearranged 19 = .ok (.invokestatic 15, 3) := by decide +kernel
theorem dX5_rearranged_22 : decode cX5_rearranged 22 = .ok (.iconst 4, 1) := by decide +kernel
theorem dX5_rearranged_23 : decode cX5_rearranged 23 = .ok (.iload 4, 2) := by decide +kernel
theorem dX5_rearranged_25 : decode cX5_rearranged 25 = .ok (.imul, 1) := by decide +kernel
theorem dX5_rearranged_26 : decode cX5_rearranged 26 = .ok (.ishl, 1) := by decide +kernel
theorem dX5_rearranged_27 : decode cX5_rearranged 27 = .ok (.ior, 1) := by decide +kernel
theorem dX5_rearranged_28 : decode cX5_rearranged 28 = .ok (.istore_n 3, 1) := by decide +kernel
theorem dX5_rearranged_29 : decode cX5_rearranged 29 = .ok (.iinc 4 1, 3) := by decide +kernel
theorem dX5_rearranged_32 : decode cX5_rearranged 32 = .ok (.goto (-27), 3) := by decide +kernel
theorem dX5_rearranged_35 : decode cX5_rearranged 35 = .ok (.iload_n 3, 1) := by decide +kernel
theorem dX5_rearranged_36 : decode cX5_rearranged 36 = .ok (.ireturn, 1) := by decide +kernel
theorem dX5_ofCode_0 : decode cX5_ofCode 0 = .ok (.iload_n 0, 1) := by decide +kernel
theorem dX5_ofCode_1 : decode cX5_ofCode 1 = .ok (.istore_n 2, 1) := by decide +kernel
theorem dX5_ofCode_2 : decode cX5_ofCode 2 = .ok (.iconst 0, 1) := by decide +kernel
theorem dX5_ofCode_3 : decode cX5_ofCode 3 = .ok (.istore_n 3, 1) := by decide +kernel
theorem dX5_ofCode_4 : decode cX5_ofCode 4 = .ok (.iconst 0, 1) := by decide +kernel
theorem dX5_ofCode_5 : decode cX5_ofCode 5 = .ok (.istore 4, 2) := by decide +kernel
theorem dX5_ofCode_7 : decode cX5_ofCode 7 = .ok (.iconst 0, 1) := by decide +kernel
theorem dX5_ofCode_8 : decode cX5_ofCode 8 = .ok (.istore 5, 2) := by decide +kernel
theorem dX5_ofCode_10 : decode cX5_ofCode 10 = .ok (.iload 5, 2) := by decide +kernel
theorem dX5_ofCode_12 : decode cX5_ofCode 12 = .ok (.iload_n 1, 1) := by decide +kernel
theorem dX5_ofCode_13 : decode cX5_ofCode 13 = .ok (.if_icmp .ge 61, 3) := by decide +kernel
theorem dX5_ofCode_16 : decode cX5_ofCode 16 = .ok (.iload_n 2, 1) := by decide +kernel
theorem dX5_ofCode_17 : decode cX5_ofCode 17 = .ok (.bipush 10, 2) := by decide +kernel
theorem dX5_ofCode_19 : decode cX5_ofCode 19 = .ok (.irem, 1) := by decide +kernel
theorem dX5_ofCode_20 : decode cX5_ofCode 20 = .ok (.istore 6, 2) := by decide +kernel
theorem dX5_ofCode_22 : decode cX5_ofCode 22 = .ok (.iload_n 2, 1) := by decide +kernel
theorem dX5_ofCode_23 : decode cX5_ofCode 23 = .ok (.bipush 10, 2) := by decide +kernel
theorem dX5_ofCode_25 : decode cX5_ofCode 25 = .ok (.idiv, 1) := by decide +kernel
theorem dX5_ofCode_26 : decode cX5_ofCode 26 = .ok (.istore_n 2, 1) := by decide +kernel
theorem dX5_ofCode_27 : decode cX5_ofCode 27 = .ok (.iload 6, 2) := by decide +kernel
theorem dX5_ofCode_29 : decode cX5_ofCode 29 = .ok (.ifCond .lt 18, 3) := by decide +kernel
theorem dX5_ofCode_32 : decode cX5_ofCode 32 = .ok (.iload 6, 2) := by decide +kernel
theorem dX5_ofCode_34 : decode cX5_ofCode 34 = .ok (.iload_n 1, 1) := by decide +kernel
theorem dX5_ofCode_35 : decode cX5_ofCode 35 = .ok (.if_icmp .ge 12, 3) := by decide +kernel
theorem dX5_ofCode_38 : decode cX5_ofCode 38 = .ok (.iload_n 3, 1) := by decide +kernel
theorem dX5_ofCode_39 : decode cX5_ofCode 39 = .ok (.iload 6, 2) := by decide +kernel
theorem dX5_ofCode_41 : decode cX5_ofCode 41 = .ok (.ishr, 1) := by decide +kernel
theorem dX5_ofCode_42 : decode cX5_ofCode 42 = .ok (.iconst 1, 1) := by decide +kernel
theorem dX5_ofCode_43 : decode cX5_ofCode 43 = .ok (.iand, 1) := by decide +kernel
theorem dX5_ofCode_44 : decode cX5_ofCode 44 = .ok (.ifCond .eq 5, 3) := by decide +kernel
theorem dX5_ofCode_47 : decode cX5_ofCode 47 = .ok (.iconst (-1), 1) := by decide +kernel
theorem dX5_ofCode_48 : decode cX5_ofCode 48 = .ok (.ireturn, 1) := by decide +kernel
theorem dX5_ofCode_49 : decode cX5_ofCode 49 = .ok (.iload_n 3, 1) := by decide +kernel
theorem dX5_ofCode_50 : decode cX5_ofCode 50 = .ok (.iconst 1, 1) := by decide +kernel
theorem dX5_ofCode_51 : decode cX5_ofCode 51 = .ok (.iload 6, 2) := by decide +kernel
theorem dX5_ofCode_53 : decode cX5_ofCode 53 = .ok (.ishl, 1) := by decide +kernel
theorem dX5_ofCode_54 : decode cX5_ofCode 54 = .ok (.ior, 1) := by decide +kernel
theorem dX5_ofCode_55 : decode cX5_ofCode 55 = .ok (.istore_n 3, 1) := by decide +kernel
theorem dX5_ofCode_56 : decode cX5_ofCode 56 = .ok (.iload 4, 2) := by decide +kernel
theorem dX5_ofCode_58 : decode cX5_ofCode 58 = .ok (.iload 6, 2) := by decide +kernel
theorem dX5_ofCode_60 : decode cX5_ofCode 60 = .ok (.iconst 4, 1) := by decide +kernel
theorem dX5_ofCode_61 : decode cX5_ofCode 61 = .ok (.iload 5, 2) := by decide +kernel
theorem dX5_ofCode_63 : decode cX5_ofCode 63 = .ok (.imul, 1) := by decide +kernel
theorem dX5_ofCode_64 : decode cX5_ofCode 64 = .ok (.ishl, 1) := by decide +kernel
theorem dX5_ofCode_65 : decode cX5_ofCode 65 = .ok (.ior, 1) := by decide +kernel
theorem dX5_ofCode_66 : decode cX5_ofCode 66 = .ok (.istore 4, 2) := by decide +kernel
theorem dX5_ofCode_68 : decode cX5_ofCode 68 = .ok (.iinc 5 1, 3) := by decide +kernel
theorem dX5_ofCode_71 : decode cX5_ofCode 71 = .ok (.goto (-61), 3) := by decide +kernel
theorem dX5_ofCode_74 : decode cX5_ofCode 74 = .ok (.iload_n 2, 1) := by decide +kernel
theorem dX5_ofCode_75 : decode cX5_ofCode 75 = .ok (.ifCond .ne 8, 3) := by decide +kernel
theorem dX5_ofCode_78 : decode cX5_ofCode 78 = .ok (.iload 4, 2) := by decide +kernel
theorem dX5_ofCode_80 : decode cX5_ofCode 80 = .ok (.goto 4, 3) := by decide +kernel
theorem dX5_ofCode_83 : decode cX5_ofCode 83 = .ok (.iconst (-1), 1) := by decide +kernel
theorem dX5_ofCode_84 : decode cX5_ofCode 84 = .ok (.ireturn, 1) := by decide +kernel
theorem dX5_toCode_0 : decode cX5_toCode 0 = .ok (.iconst 0, 1) := by decide +kernel
theorem dX5_toCode_1 : decode cX5_toCode 1 = .ok (.istore_n 2, 1) := by decide +kernel
theorem dX5_toCode_2 : decode cX5_toCode 2 = .ok (.iload_n 1, 1) := by decide +kernel
theorem dX5_toCode_3 : decode cX5_toCode 3 = .ok (.iconst 1, 1) := by decide +kernel
theorem dX5_toCode_4 : decode cX5_toCode 4 = .ok (.isub, 1) := by decide +kernel
theorem dX5_toCode_5 : decode cX5_toCode 5 = .ok (.istore_n 3, 1) := by decide +kernel
theorem dX5_toCode_6 : decode cX5_toCode 6 = .ok (.iload_n 3, 1) := by decide +kernel
theorem dX5_toCode_7 : decode cX5_toCode 7 = .ok (.ifCond .lt 20, 3) := by decide +kernel
theorem dX5_toCode_10 : decode cX5_toCode 10 = .ok (.bipush 10, 2) := by decide +kernel
theorem dX5_toCode_12 : decode cX5_toCode 12 = .ok (.iload_n 2, 1) := by decide +kernel
theorem dX5_toCode_13 : decode cX5_toCode 13 = .ok (.imul, 1) := by decide +kernel
theorem dX5_toCode_14 : decode cX5_toCode 14 = .ok (.iload_n 0, 1) := by decide +kernel
theorem dX5_toCode_15 : decode cX5_toCode 15 = .ok (.iload_n 3, 1) := by decide +kernel
theorem dX5_toCode_16 : decode cX5_toCode 16 = .ok (.invokestatic 15, 3) := by decide +kernel
theorem dX5_toCode_19 : decode cX5_toCode 19 = .ok (.iadd, 1) := by decide +kernel
theorem dX5_toCode_20 : decode cX5_toCode 20 = .ok (.istore_n 2, 1) := by decide +kernel
theorem dX5_toCode_21 : decode cX5_toCode 21 = .ok (.iinc 3 (-1), 3) := by decide +kernel
theorem dX5_toCode_24 : decode cX5_toCode 24 = .ok (.goto (-18), 3) := by decide +kernel
theorem dX5_toCode_27 : decode cX5_toCode 27 = .ok (.iload_n 2, 1) := by decide +kernel
theorem dX5_toCode_28 : decode cX5_toCode 28 = .ok (.ireturn, 1) := by decide +kernel
theorem dX5_rank_0 : decode cX5_rank 0 = .ok (.iconst 0, 1) := by decide +kernel
theorem dX5_rank_1 : decode cX5_rank 1 = .ok (.istore_n 2, 1) := by decide +kernel
theorem dX5_rank_2 : decode cX5_rank 2 = .ok (.iconst 0, 1) := by decide +kernel
theorem dX5_rank_3 : decode cX5_rank 3 = .ok (.istore_n 3, 1) := by decide +kernel
theorem dX5_rank_4 : decode cX5_rank 4 = .ok (.iconst 0, 1) := by decide +kernel
theorem dX5_rank_5 : decode cX5_rank 5 = .ok (.istore 4, 2) := by decide +kernel
theorem dX5_rank_7 : decode cX5_rank 7 = .ok (.iload 4, 2) := by decide +kernel
theorem dX5_rank_9 : decode cX5_rank 9 = .ok (.iload_n 1, 1) := by decide +kernel
theorem dX5_rank_10 : decode cX5_rank 10 = .ok (.if_icmp .ge 43, 3) := by decide +kernel
theorem dX5_rank_13 : decode cX5_rank 13 = .ok (.iconst 1, 1) := by decide +kernel
theorem dX5_rank_14 : decode cX5_rank 14 = .ok (.iload_n 0, 1) := by decide +kernel
theorem dX5_rank_15 : decode cX5_rank 15 = .ok (.iload 4, 2) := by decide +kernel
theorem dX5_rank_17 : decode cX5_rank 17 = .ok (.invokestatic 15, 3) := by decide +kernel
theorem dX5_rank_20 : decode cX5_rank 20 = .ok (.ishl, 1) := by decide +kernel
theorem dX5_rank_21 : decode cX5_rank 21 = .ok (.istore 5, 2) := by decide +kernel
theorem dX5_rank_23 : decode cX5_rank 23 = .ok (.iload_n 2, 1) := by decide +kernel
theorem dX5_rank_24 : decode cX5_rank 24 = .ok (.iload_n 3, 1) := by decide +kernel
theorem dX5_rank_25 : decode cX5_rank 25 = .ok (.iload 5, 2) := by decide +kernel
theorem dX5_rank_27 : decode cX5_rank 27 = .ok (.iconst 1, 1) := by decide +kernel
theorem dX5_rank_28 : decode cX5_rank 28 = .ok (.isub, 1) := by decide +kernel
theorem dX5_rank_29 : decode cX5_rank 29 = .ok (.iand, 1) := by decide +kernel
theorem dX5_rank_30 : decode cX5_rank 30 = .ok (.invokestatic 19, 3) := by decide +kernel
theorem dX5_rank_33 : decode cX5_rank 33 = .ok (.getstatic 9, 3) := by decide +kernel
theorem dX5_rank_36 : decode cX5_rank 36 = .ok (.iload 4, 2) := by decide +kernel
theorem dX5_rank_38 : decode cX5_rank 38 = .ok (.iaload, 1) := by decide +kernel
theorem dX5_rank_39 : decode cX5_rank 39 = .ok (.imul, 1) := by decide +kernel
theorem dX5_rank_40 : decode cX5_rank 40 = .ok (.iadd, 1) := by decide +kernel
theorem dX5_rank_41 : decode cX5_rank 41 = .ok (.istore_n 2, 1) := by decide +kernel
theorem dX5_rank_42 : decode cX5_rank 42 = .ok (.iload_n 3, 1) := by decide +kernel
theorem dX5_rank_43 : decode cX5_rank 43 = .ok (.iload 5, 2) := by decide +kernel
theorem dX5_rank_45 : decode cX5_rank 45 = .ok (.ior, 1) := by decide +kernel
theorem dX5_rank_46 : decode cX5_rank 46 = .ok (.istore_n 3, 1) := by decide +kernel
theorem dX5_rank_47 : decode cX5_rank 47 = .ok (.iinc 4 1, 3) := by decide +kernel
theorem dX5_rank_50 : decode cX5_rank 50 = .ok (.goto (-43), 3) := by decide +kernel
theorem dX5_rank_53 : decode cX5_rank 53 = .ok (.iload_n 2, 1) := by decide +kernel
theorem dX5_rank_54 : decode cX5_rank 54 = .ok (.ireturn, 1) := by decide +kernel
theorem dX6_init_0 : decode cX6_init 0 = .ok (.aload_n 0, 1) := by decide +kernel
theorem dX6_init_1 : decode cX6_init 1 = .ok (.invokespecial 3, 3) := by decide +kernel
theorem dX6_init_4 : decode cX6_init 4 = .ok (.aload_n 0, 1) := by decide +kernel
theorem dX6_init_5 : decode cX6_init 5 = .ok (.sipush 3488, 3) := by decide +kernel
theorem dX6_init_8 : decode cX6_init 8 = .ok (.newarray .byte, 2) := by decide +kernel
theorem dX6_init_10 : decode cX6_init 10 = .ok (.putfield 11, 3) := by decide +kernel
theorem dX6_init_13 : decode cX6_init 13 = .ok (.aload_n 0, 1) := by decide +kernel
theorem dX6_init_14 : decode cX6_init 14 = .ok (.sipush 720, 3) := by decide +kernel
theorem dX6_init_17 : decode cX6_init 17 = .ok (.newarray .int, 2) := by decide +kernel
theorem dX6_init_19 : decode cX6_init 19 = .ok (.putfield 15, 3) := by decide +kernel
theorem dX6_init_22 : decode cX6_init 22 = .ok (.aload_n 0, 1) := by decide +kernel
theorem dX6_init_23 : decode cX6_init 23 = .ok (.bipush 35, 2) := by decide +kernel
theorem dX6_init_25 : decode cX6_init 25 = .ok (.newarray .int, 2) := by decide +kernel
theorem dX6_init_27 : decode cX6_init 27 = .ok (.putfield 19, 3) := by decide +kernel
theorem dX6_init_30 : decode cX6_init 30 = .ok (.aload_n 0, 1) := by decide +kernel
theorem dX6_init_31 : decode cX6_init 31 = .ok (.iconst 0, 1) := by decide +kernel
theorem dX6_init_32 : decode cX6_init 32 = .ok (.putfield 22, 3) := by decide +kernel
theorem dX6_init_35 : decode cX6_init 35 = .ok (.return_, 1) := by decide +kernel
theorem dX6_farOf_0 : decode cX6_farOf 0 = .ok (.aload_n 0, 1) := by decide +kernel
theorem dX6_farOf_1 : decode cX6_farOf 1 = .ok (.iload_n 1, 1) := by decide +kernel
theorem dX6_farOf_2 : decode cX6_farOf 2 = .ok (.iload_n 3, 1) := by decide +kernel
theorem dX6_farOf_3 : decode cX6_farOf 3 = .ok (.invokevirtual 26, 3) := by decide +kernel
theorem dX6_farOf_6 : decode cX6_farOf 6 = .ok (.aload_n 0, 1) := by decide +kernel
theorem dX6_farOf_7 : decode cX6_farOf 7 = .ok (.getfield 11, 3) := by decide +kernel
theorem dX6_farOf_10 : decode cX6_farOf 10 = .ok (.iload_n 1, 1) := by decide +kernel
theorem dX6_farOf_11 : decode cX6_farOf 11 = .ok (.iload_n 2, 1) := by decide +kernel
theorem dX6_farOf_12 : decode cX6_farOf 12 = .ok (.iload_n 3, 1) := by decide +kernel
theorem dX6_farOf_13 : decode cX6_farOf 13 = .ok (.invokestatic 30, 3) := by decide +kernel
theorem dX6_farOf_16 : decode cX6_farOf 16 = .ok (.baload, 1) := by decide +kernel
theorem dX6_farOf_17 : decode cX6_farOf 17 = .ok (.iconst 1, 1) := by decide +kernel
theorem dX6_farOf_18 : decode cX6_farOf 18 = .ok (.isub, 1) := by decide +kernel
theorem dX6_farOf_19 : decode cX6_farOf 19 = .ok (.ireturn, 1) := by decide +kernel
theorem dX6_codeNearer_0 : decode cX6_codeNearer 0 = .ok (.aload_n 0, 1) := by decide +kernel
theorem dX6_codeNearer_1 : decode cX6_codeNearer 1 = .ok (.iload_n 1, 1) := by decide +kernel
theorem dX6_codeNearer_2 : decode cX6_codeNearer 2 = .ok (.iload_n 3, 1) := by decide +kernel
theorem dX6_codeNearer_3 : decode cX6_codeNearer 3 = .ok (.invokevirtual 26, 3) := by decide +kernel
theorem dX6_codeNearer_6 : decode cX6_codeNearer 6 = .ok (.aload_n 0, 1) := by decide +kernel
theorem dX6_codeNearer_7 : decode cX6_codeNearer 7 = .ok (.iload_n 1, 1) := by decide +kernel
theorem dX6_codeNearer_8 : decode cX6_codeNearer 8 = .ok (.iload_n 3, 1) := by decide +kernel
theorem dX6_codeNearer_9 : decode cX6_codeNearer 9 = .ok (.invokevirtual 34, 3) := by decide +kernel
theorem dX6_codeNearer_12 : decode cX6_codeNearer 12 = .ok (.aload_n 0, 1) := by decide +kernel
theorem dX6_codeNearer_13 : decode cX6_codeNearer 13 = .ok (.getfield 11, 3) := by decide +kernel
theorem dX6_codeNearer_16 : decode cX6_codeNearer 16 = .ok (.iload_n 1, 1) := by decide +kernel
theorem dX6_codeNearer_17 : decode cX6_codeNearer 17 = .ok (.iload_n 2, 1) := by decide +kernel
theorem dX6_codeNearer_18 : decode cX6_codeNearer 18 = .ok (.iload_n 3, 1) := by decide +kernel
theorem dX6_codeNearer_19 : decode cX6_codeNearer 19 = .ok (.invokestatic 30, 3) := by decide +kernel
theorem dX6_codeNearer_22 : decode cX6_codeNearer 22 = .ok (.baload, 1) := by decide +kernel
theorem dX6_codeNearer_23 : decode cX6_codeNearer 23 = .ok (.istore 4, 2) := by decide +kernel
theorem dX6_codeNearer_25 : decode cX6_codeNearer 25 = .ok (.iconst (-1), 1) := by decide +kernel
theorem dX6_codeNearer_26 : decode cX6_codeNearer 26 = .ok (.istore 5, 2) := by decide +kernel
theorem dX6_codeNearer_28 : decode cX6_codeNearer 28 = .ok (.iconst 0, 1) := by decide +kernel
theorem dX6_codeNearer_29 : decode cX6_codeNearer 29 = .ok (.istore 6, 2) := by decide +kernel
theorem dX6_codeNearer_31 : decode cX6_codeNearer 31 = .ok (.iload 6, 2) := by decide +kernel
theorem dX6_codeNearer_33 : decode cX6_codeNearer 33 = .ok (.aload_n 0, 1) := by decide +kernel
theorem dX6_codeNearer_34 : decode cX6_codeNearer 34 = .ok (.getfield 22, 3) := by decide +kernel
theorem dX6_codeNearer_37 : decode cX6_codeNearer 37 = .ok (.if_icmp .ge 77, 3) := by decide +kernel
theorem dX6_codeNearer_40 : decode cX6_codeNearer 40 = .ok (.iload_n 2, 1) := by decide +kernel
theorem dX6_codeNearer_41 : decode cX6_codeNearer 41 = .ok (.aload_n 0, 1) := by decide +kernel
theorem dX6_codeNearer_42 : decode cX6_codeNearer 42 = .ok (.getfield 19, 3) := by decide +kernel
theorem dX6_codeNearer_45 : decode cX6_codeNearer 45 = .ok (.iload 6, 2) := by decide +kernel
theorem dX6_codeNearer_47 : decode cX6_codeNearer 47 = .ok (.iaload, 1) := by decide +kernel
theorem dX6_codeNearer_48 : decode cX6_codeNearer 48 = .ok (.iload_n 3, 1) := by decide +kernel
theorem dX6_codeNearer_49 : decode cX6_codeNearer 49 = .ok (.invokestatic 37, 3) := by decide +kernel
theorem dX6_codeNearer_52 : decode cX6_codeNearer 52 = .ok (.istore 7, 2) := by decide +kernel
theorem dX6_codeNearer_54 : decode cX6_codeNearer 54 = .ok (.iload 7, 2) := by decide +kernel
theorem dX6_codeNearer_56 : decode cX6_codeNearer 56 = .ok (.iload_n 3, 1) := by decide +kernel
theorem dX6_codeNearer_57 : decode cX6_codeNearer 57 = .ok (.invokestatic 42, 3) := by decide +kernel
theorem dX6_codeNearer_60 : decode cX6_codeNearer 60 = .ok (.istore 8, 2) := by decide +kernel
theorem dX6_codeNearer_62 : decode cX6_codeNearer 62 = .ok (.aload_n 0, 1) := by decide +kernel
theorem dX6_codeNearer_63 : decode cX6_codeNearer 63 = .ok (.getfield 11, 3) := by decide +kernel
theorem dX6_codeNearer_66 : decode cX6_codeNearer 66 = .ok (.iload_n 1, 1) := by decide +kernel
theorem dX6_codeNearer_67 : decode cX6_codeNearer 67 = .ok (.iload 7, 2) := by decide +kernel
theorem dX6_codeNearer_69 : decode cX6_codeNearer 69 = .ok (.iload_n 3, 1) := by decide +kernel
theorem dX6_codeNearer_70 : decode cX6_codeNearer 70 = .ok (.invokestatic 30, 3) := by decide +kernel
theorem dX6_codeNearer_73 : decode cX6_codeNearer 73 = .ok (.baload, 1) := by decide +kernel
theorem dX6_codeNearer_74 : decode cX6_codeNearer 74 = .ok (.iload 4, 2) := by decide +kernel
theorem dX6_codeNearer_76 : decode cX6_codeNearer 76 = .ok (.if_icmp .ge 7, 3) := by decide +kernel
theorem dX6_codeNearer_79 : decode cX6_codeNearer 79 = .ok (.iconst 1, 1) := by decide +kernel
theorem dX6_codeNearer_80 : decode cX6_codeNearer 80 = .ok (.goto 4, 3) := by decide +kernel
theorem dX6_codeNearer_83 : decode cX6_codeNearer 83 = .ok (.iconst 0, 1) := by decide +kernel
theorem dX6_codeNearer_84 : decode cX6_codeNearer 84 = .ok (.istore 9, 2) := by decide +kernel
theorem dX6_codeNearer_86 : decode cX6_codeNearer 86 = .ok (.iload 9, 2) := by decide +kernel
theorem dX6_codeNearer_88 : decode cX6_codeNearer 88 = .ok (.ifCond .eq 20, 3) := by decide +kernel
theorem dX6_codeNearer_91 : decode cX6_codeNearer 91 = .ok (.iload 5, 2) := by decide +kernel
theorem dX6_codeNearer_93 : decode cX6_codeNearer 93 = .ok (.iconst (-1), 1) := by decide +kernel
theorem dX6_codeNearer_94 : decode cX6_codeNearer 94 = .ok (.if_icmp .eq 10, 3) := by decide +kernel
theorem dX6_codeNearer_97 : decode cX6_codeNearer 97 = .ok (.iload 8, 2) := by decide +kernel
theorem dX6_codeNearer_99 : decode cX6_codeNearer 99 = .ok (.iload 5, 2) := by decide +kernel
theorem dX6_codeNearer_101 : decode cX6_codeNearer 101 = .ok (.if_icmp .ge 7, 3) := by decide +kernel
theorem dX6_codeNearer_104 : decode cX6_codeNearer 104 = .ok (.iload 8, 2) := by decide +kernel
theorem dX6_codeNearer_106 : decode cX6_codeNearer 106 = .ok (.istore 5, 2) := by decide +kernel
theorem dX6_codeNearer_108 : decode cX6_codeNearer 108 = .ok (.iinc 6 1, 3) := by decide +kernel
theorem dX6_codeNearer_111 : decode cX6_codeNearer 111 = .ok (.goto (-80), 3) := by decide +kernel
theorem dX6_codeNearer_114 : decode cX6_codeNearer 114 = .ok (.iload 5, 2) := by decide +kernel
theorem dX6_codeNearer_116 : decode cX6_codeNearer 116 = .ok (.ireturn, 1) := by decide +kernel
theorem dX6_countFar_0 : decode cX6_countFar 0 = .ok (.aload_n 0, 1) := by decide +kernel
theorem dX6_countFar_1 : decode cX6_countFar 1 = .ok (.iload_n 1, 1) := by decide +kernel
theorem dX6_countFar_2 : decode cX6_countFar 2 = .ok (.iload_n 3, 1) := by decide +kernel
theorem dX6_countFar_3 : decode cX6_countFar 3 = .ok (.invokevirtual 26, 3) := by decide +kernel
theorem dX6_countFar_6 : decode cX6_countFar 6 = .ok (.iload_n 1, 1) := by decide +kernel
theorem dX6_countFar_7 : decode cX6_countFar 7 = .ok (.sipush 872, 3) := by decide +kernel
theorem dX6_countFar_10 : decode cX6_countFar 10 = .ok (.imul, 1) := by decide +kernel
theorem dX6_countFar_11 : decode cX6_countFar 11 = .ok (.getstatic 46, 3) := by decide +kernel
theorem dX6_countFar_14 : decode cX6_countFar 14 = .ok (.iload_n 3, 1) := by decide +kernel
theorem dX6_countFar_15 : decode cX6_countFar 15 = .ok (.iaload, 1) := by decide +kernel
theorem dX6_countFar_16 : decode cX6_countFar 16 = .ok (.iadd, 1) := by decide +kernel
theorem dX6_countFar_17 : decode cX6_countFar 17 = .ok (.istore 4, 2) := by decide +kernel
theorem dX6_countFar_19 : decode cX6_countFar 19 = .ok (.iconst 0, 1) := by decide +kernel
theorem dX6_countFar_20 : decode cX6_countFar 20 = .ok (.istore 5, 2) := by decide +kernel
theorem dX6_countFar_22 : decode cX6_countFar 22 = .ok (.iconst 0, 1) := by decide +kernel
theorem dX6_countFar_23 : decode cX6_countFar 23 = .ok (.istore 6, 2) := by decide +kernel
theorem dX6_countFar_25 : decode cX6_countFar 25 = .ok (.iload 6, 2) := by decide +kernel
theorem dX6_countFar_27 : decode cX6_countFar 27 = .ok (.iload_n 3, 1) := by decide +kernel
theorem dX6_countFar_28 : decode cX6_countFar 28 = .ok (.invokestatic 49, 3) := by decide +kernel
theorem dX6_countFar_31 : decode cX6_countFar 31 = .ok (.if_icmp .ge 28, 3) := by decide +kernel
theorem dX6_countFar_34 : decode cX6_countFar 34 = .ok (.aload_n 0, 1) := by decide +kernel
theorem dX6_countFar_35 : decode cX6_countFar 35 = .ok (.getfield 11, 3) := by decide +kernel
theorem dX6_countFar_38 : decode cX6_countFar 38 = .ok (.iload 4, 2) := by decide +kernel
theorem dX6_countFar_40 : decode cX6_countFar 40 = .ok (.iload 6, 2) := by decide +kernel
theorem dX6_countFar_42 : decode cX6_countFar 42 = .ok (.iadd, 1) := by decide +kernel
theorem dX6_countFar_43 : decode cX6_countFar 43 = .ok (.baload, 1) := by decide +kernel
theorem dX6_countFar_44 : decode cX6_countFar 44 = .ok (.iconst 1, 1) := by decide +kernel
theorem dX6_countFar_45 : decode cX6_countFar 45 = .ok (.isub, 1) := by decide +kernel
theorem dX6_countFar_46 : decode cX6_countFar 46 = .ok (.iload_n 2, 1) := by decide +kernel
theorem dX6_countFar_47 : decode cX6_countFar 47 = .ok (.if_icmp .ne 6, 3) := by decide +kernel
theorem dX6_countFar_50 : decode cX6_countFar 50 = .ok (.iinc 5 1, 3) := by decide +kernel
theorem dX6_countFar_53 : decode cX6_countFar 53 = .ok (.iinc 6 1, 3) := by decide +kernel
theorem dX6_countFar_56 : decode cX6_countFar 56 = .ok (.goto (-31), 3) := by decide +kernel
theorem dX6_countFar_59 : decode cX6_countFar 59 = .ok (.iload 5, 2) := by decide +kernel
theorem dX6_countFar_61 : decode cX6_countFar 61 = .ok (.ireturn, 1) := by decide +kernel
theorem dX6_placeOf_0 : decode cX6_placeOf 0 = .ok (.iload_n 0, 1) := by decide +kernel
theorem dX6_placeOf_1 : decode cX6_placeOf 1 = .ok (.sipush 872, 3) := by decide +kernel
theorem dX6_placeOf_4 : decode cX6_placeOf 4 = .ok (.imul, 1) := by decide +kernel
theorem dX6_placeOf_5 : decode cX6_placeOf 5 = .ok (.getstatic 46, 3) := by decide +kernel
theorem dX6_placeOf_8 : decode cX6_placeOf 8 = .ok (.iload_n 2, 1) := by decide +kernel
theorem dX6_placeOf_9 : decode cX6_placeOf 9 = .ok (.iaload, 1) := by decide +kernel
theorem dX6_placeOf_10 : decode cX6_placeOf 10 = .ok (.iadd, 1) := by decide +kernel
theorem dX6_placeOf_11 : decode cX6_placeOf 11 = .ok (.iload_n 1, 1) := by decide +kernel
theorem dX6_placeOf_12 : decode cX6_placeOf 12 = .ok (.iload_n 2, 1) := by decide +kernel
theorem dX6_placeOf_13 : decode cX6_placeOf 13 = .ok (.invokestatic 53, 3) := by decide +kernel
theorem dX6_placeOf_16 : decode cX6_placeOf 16 = .ok (.iadd, 1) := by decide +kernel
theorem dX6_placeOf_17 : decode cX6_placeOf 17 = .ok (.ireturn, 1) := by decide +kernel
theorem dX6_learn_0 : decode cX6_learn 0 = .ok (.iload_n 2, 1) := by decide +kernel
theorem dX6_learn_1 : decode cX6_learn 1 = .ok (.invokestatic 56, 3) := by decide +kernel
theorem dX6_learn_4 : decode cX6_learn 4 = .ok (.istore_n 3, 1) := by decide +kernel
theorem dX6_learn_5 : decode cX6_learn 5 = .ok (.aload_n 0, 1) := by decide +kernel
theorem dX6_learn_6 : decode cX6_learn 6 = .ok (.getfield 11, 3) := by decide +kernel
theorem dX6_learn_9 : decode cX6_learn 9 = .ok (.iload_n 1, 1) := by decide +kernel
theorem dX6_learn_10 : decode cX6_learn 10 = .ok (.iload_n 3, 1) := by decide +kernel
theorem dX6_learn_11 : decode cX6_learn 11 = .ok (.iload_n 2, 1) := by decide +kernel
theorem dX6_learn_12 : decode cX6_learn 12 = .ok (.invokestatic 30, 3) := by decide +kernel
theorem dX6_learn_15 : decode cX6_learn 15 = .ok (.baload, 1) := by decide +kernel
theorem dX6_learn_16 : decode cX6_learn 16 = .ok (.ifCond .eq 4, 3) := by decide +kernel
theorem dX6_learn_19 : decode cX6_learn 19 = .ok (.return_, 1) := by decide +kernel
theorem dX6_learn_20 : decode cX6_learn 20 = .ok (.aload_n 0, 1) := by decide +kernel
theorem dX6_learn_21 : decode cX6_learn 21 = .ok (.iload_n 1, 1) := by decide +kernel
theorem dX6_learn_22 : decode cX6_learn 22 = .ok (.iload_n 2, 1) := by decide +kernel
theorem dX6_learn_23 : decode cX6_learn 23 = .ok (.invokevirtual 34, 3) := by decide +kernel
theorem dX6_learn_26 : decode cX6_learn 26 = .ok (.aload_n 0, 1) := by decide +kernel
theorem dX6_learn_27 : decode cX6_learn 27 = .ok (.getfield 11, 3) := by decide +kernel
theorem dX6_learn_30 : decode cX6_learn 30 = .ok (.iload_n 1, 1) := by decide +kernel
theorem dX6_learn_31 : decode cX6_learn 31 = .ok (.iload_n 3, 1) := by decide +kernel
theorem dX6_learn_32 : decode cX6_learn 32 = .ok (.iload_n 2, 1) := by decide +kernel
theorem dX6_learn_33 : decode cX6_learn 33 = .ok (.invokestatic 30, 3) := by decide +kernel
theorem dX6_learn_36 : decode cX6_learn 36 = .ok (.iconst 1, 1) := by decide +kernel
theorem dX6_learn_37 : decode cX6_learn 37 = .ok (.bastore, 1) := by decide +kernel
theorem dX6_learn_38 : decode cX6_learn 38 = .ok (.aload_n 0, 1) := by decide +kernel
theorem dX6_learn_39 : decode cX6_learn 39 = .ok (.getfield 15, 3) := by decide +kernel
theorem dX6_learn_42 : decode cX6_learn 42 = .ok (.iconst 0, 1) := by decide +kernel
theorem dX6_learn_43 : decode cX6_learn 43 = .ok (.iload_n 3, 1) := by decide +kernel
theorem dX6_learn_44 : decode cX6_learn 44 = .ok (.iastore, 1) := by decide +kernel
theorem dX6_learn_45 : decode cX6_learn 45 = .ok (.iconst 1, 1) := by decide +kernel
theorem dX6_learn_46 : decode cX6_learn 46 = .ok (.istore 4, 2) := by decide +kernel
theorem dX6_learn_48 : decode cX6_learn 48 = .ok (.iconst 0, 1) := by decide +kernel
theorem dX6_learn_49 : decode cX6_learn 49 = .ok (.istore 5, 2) := by decide +kernel
theorem dX6_learn_51 : decode cX6_learn 51 = .ok (.iload 5, 2) := by decide +kernel
theorem dX6_learn_53 : decode cX6_learn 53 = .ok (.iload 4, 2) := by decide +kernel
theorem dX6_learn_55 : decode cX6_learn 55 = .ok (.if_icmp .ge 128, 3) := by decide +kernel
theorem dX6_learn_58 : decode cX6_learn 58 = .ok (.iload 4, 2) := by decide +kernel
theorem dX6_learn_60 : decode cX6_learn 60 = .ok (.iload_n 2, 1) := by decide +kernel
theorem dX6_learn_61 : decode cX6_learn 61 = .ok (.invokestatic 49, 3) := by decide +kernel
theorem dX6_learn_64 : decode cX6_learn 64 = .ok (.if_icmp .ge 119, 3) := by decide +kernel
theorem dX6_learn_67 : decode cX6_learn 67 = .ok (.aload_n 0, 1) := by decide +kernel
theorem dX6_learn_68 : decode cX6_learn 68 = .ok (.getfield 11, 3) := by decide +kernel
theorem dX6_learn_71 : decode cX6_learn 71 = .ok (.iload_n 1, 1) := by decide +kernel
theorem dX6_learn_72 : decode cX6_learn 72 = .ok (.aload_n 0, 1) := by decide +kernel
theorem dX6_learn_73 : decode cX6_learn 73 = .ok (.getfield 15, 3) := by decide +kernel
theorem dX6_learn_76 : decode cX6_learn 76 = .ok (.iload 5, 2) := by decide +kernel
theorem dX6_learn_78 : decode cX6_learn 78 = .ok (.iaload, 1) := by decide +kernel
theorem dX6_learn_79 : decode cX6_learn 79 = .ok (.iload_n 2, 1) := by decide +kernel
theorem dX6_learn_80 : decode cX6_learn 80 = .ok (.invokestatic 30, 3) := by decide +kernel
theorem dX6_learn_83 : decode cX6_learn 83 = .ok (.baload, 1) := by decide +kernel
theorem dX6_learn_84 : decode cX6_learn 84 = .ok (.istore 6, 2) := by decide +kernel
theorem dX6_learn_86 : decode cX6_learn 86 = .ok (.iconst 0, 1) := by decide +kernel
theorem dX6_learn_87 : decode cX6_learn 87 = .ok (.istore 7, 2) := by decide +kernel
theorem dX6_learn_89 : decode cX6_learn 89 = .ok (.iload 7, 2) := by decide +kernel
theorem dX6_learn_91 : decode cX6_learn 91 = .ok (.aload_n 0, 1) := by decide +kernel
theorem dX6_learn_92 : decode cX6_learn 92 = .ok (.getfield 22, 3) := by decide +kernel
theorem dX6_learn_95 : decode cX6_learn 95 = .ok (.if_icmp .ge 82, 3) := by decide +kernel
theorem dX6_learn_98 : decode cX6_learn 98 = .ok (.aload_n 0, 1) := by decide +kernel
theorem dX6_learn_99 : decode cX6_learn 99 = .ok (.getfield 15, 3) := by decide +kernel
theorem dX6_learn_102 : decode cX6_learn 102 = .ok (.iload 5, 2) := by decide +kernel
theorem dX6_learn_104 : decode cX6_learn 104 = .ok (.iaload, 1) := by decide +kernel
theorem dX6_learn_105 : decode cX6_learn 105 = .ok (.aload_n 0, 1) := by decide +kernel
theorem dX6_learn_106 : decode cX6_learn 106 = .ok (.getfield 19, 3) := by decide +kernel
theorem dX6_learn_109 : decode cX6_learn 109 = .ok (.iload 7, 2) := by decide +kernel
theorem dX6_learn_111 : decode cX6_learn 111 = .ok (.iaload, 1) := by decide +kernel
theorem dX6_learn_112 : decode cX6_learn 112 = .ok (.iload_n 2, 1) := by decide +kernel
theorem dX6_learn_113 : decode cX6_learn 113 = .ok (.invokestatic 37, 3) := by decide +kernel
theorem dX6_learn_116 : decode cX6_learn 116 = .ok (.istore 8, 2) := by decide +kernel
theorem dX6_learn_118 : decode cX6_learn 118 = .ok (.iload_n 1, 1) := by decide +kernel
theorem dX6_learn_119 : decode cX6_learn 119 = .ok (.iload 8, 2) := by decide +kernel
theorem dX6_learn_121 : decode cX6_learn 121 = .ok (.iload_n 2, 1) := by decide +kernel
theorem dX6_learn_122 : decode cX6_learn 122 = .ok (.invokestatic 30, 3) := by decide +kernel
theorem dX6_learn_125 : decode cX6_learn 125 = .ok (.istore 9, 2) := by decide +kernel
theorem dX6_learn_127 : decode cX6_learn 127 = .ok (.aload_n 0, 1) := by decide +kernel
theorem dX6_learn_128 : decode cX6_learn 128 = .ok (.getfield 11, 3) := by decide +kernel
theorem dX6_learn_131 : decode cX6_learn 131 = .ok (.iload 9, 2) := by decide +kernel
theorem dX6_learn_133 : decode cX6_learn 133 = .ok (.baload, 1) := by decide +kernel
theorem dX6_learn_134 : decode cX6_learn 134 = .ok (.ifCond .ne 37, 3) := by decide +kernel
theorem dX6_learn_137 : decode cX6_learn 137 = .ok (.iload 4, 2) := by decide +kernel
theorem dX6_learn_139 : decode cX6_learn 139 = .ok (.aload_n 0, 1) := by decide +kernel
theorem dX6_learn_140 : decode cX6_learn 140 = .ok (.getfield 15, 3) := by decide +kernel
theorem dX6_learn_143 : decode cX6_learn 143 = .ok (.arraylength, 1) := by decide +kernel
theorem dX6_learn_144 : decode cX6_learn 144 = .ok (.if_icmp .ge 27, 3) := by decide +kernel
theorem dX6_learn_147 : decode cX6_learn 147 = .ok (.aload_n 0, 1) := by decide +kernel
theorem dX6_learn_148 : decode cX6_learn 148 = .ok (.getfield 11, 3) := by decide +kernel
theorem dX6_learn_151 : decode cX6_learn 151 = .ok (.iload 9, 2) := by decide +kernel
theorem dX6_learn_153 : decode cX6_learn 153 = .ok (.iload 6, 2) := by decide +kernel
theorem dX6_learn_155 : decode cX6_learn 155 = .ok (.iconst 1, 1) := by decide +kernel
theorem dX6_learn_156 : decode cX6_learn 156 = .ok (.iadd, 1) := by decide +kernel
theorem dX6_learn_157 : decode cX6_learn 157 = .ok (.i2b, 1) := by decide +kernel
theorem dX6_learn_158 : decode cX6_learn 158 = .ok (.bastore, 1) := by decide +kernel
theorem dX6_learn_159 : decode cX6_learn 159 = .ok (.aload_n 0, 1) := by decide +kernel
theorem dX6_learn_160 : decode cX6_learn 160 = .ok (.getfield 15, 3) := by decide +kernel
theorem dX6_learn_163 : decode cX6_learn 163 = .ok (.iload 4, 2) := by decide +kernel
theorem dX6_learn_165 : decode cX6_learn 165 = .ok (.iload 8, 2) := by decide +kernel
theorem dX6_learn_167 : decode cX6_learn 167 = .ok (.iastore, 1) := by decide +kernel
theorem dX6_learn_168 : decode cX6_learn 168 = .ok (.iinc 4 1, 3) := by decide +kernel
theorem dX6_learn_171 : decode cX6_learn 171 = .ok (.iinc 7 1, 3) := by decide +kernel
theorem dX6_learn_174 : decode cX6_learn 174 = .ok (.goto (-85), 3) := by decide +kernel
theorem dX6_learn_177 : decode cX6_learn 177 = .ok (.iinc 5 1, 3) := by decide +kernel
theorem dX6_learn_180 : decode cX6_learn 180 = .ok (.goto (-129), 3) := by decide +kernel
theorem dX6_learn_183 : decode cX6_learn 183 = .ok (.return_, 1) := by decide +kernel
